section
variable {us nw : Int64} {tg sl : Int32} {st rg ps tb pd sa kp pg sp it pi : Nat → Int32} {ua yu lt : Nat → Int64}
theorem sp_128 {B g h o : Nat} {sl2 w : Int32} (hB : B + 4 < 2 ^ 30) (hg : g < 3) (ho : o < 15) (hw : w &&& 15 = nI o) (hh : ps g &&& 63 = nI h) (hR : fr_RF B pi ua us yu nw) (hP : sm_PD pd) :
    sm_S (B + 4) tg sl sl2 kp (fun post => wX_step_128 post (nI g) w (nI o) us tg sl st rg ps tb pd sa kp pg sp it pi ua lt) (fun post => wY_step_147 post (nI g) (nI h) w (nI o) nw tg sl2 st rg ps tb pd sa kp pg sp it pi yu lt) := by
  by_cases hc : o = 0 ∨ o = 1 ∨ o = 2 ∨ o = 8 ∨ o = 9 ∨ o = 11
  · obtain ⟨st', rg', ps', tb', pd', sa', pg', sp', it', pi', ua', us', yu', nw', lt', hR', hP', hX, hY⟩ := me_with (tg := tg) (sl := sl) (sl2 := sl2) (kp := kp) (st := st) (rg := rg) (ps := ps) (tb := tb) (sa := sa) (pg := pg) (sp := sp) (it := it) (lt := lt) hB hg hc hw hh hR hP
    have kX : ∀ post : SX → Prop, post (us', tg, sl, st', rg', ps', tb', pd', sa', kp, pg', sp', it', pi', ua', lt') → wX_step_155 post (nI g) w us tg sl st rg ps tb pd sa kp pg sp it pi ua lt := by
      intro post hp
      unfold wX_step_155
      exact hX _ hp
    have kY : ∀ post : SY → Prop, post (nw', tg, sl2, st', rg', ps', tb', pd', sa', kp, pg', sp', it', pi', yu', lt') → wY_step_174 post (nI g) (nI h) w nw tg sl2 st rg ps tb pd sa kp pg sp it pi yu lt := by
      intro post hp
      unfold wY_step_174
      exact hY _ hp
    refine ⟨st', rg', ps', tb', pd', sa', pg', sp', it', pi', ua', us', yu', nw', lt', hR', hP', ?_, ?_⟩
    · intro post hp
      rcases hc with rfl | rfl | rfl | rfl | rfl | rfl
      · exact br_t (by decide) (kX _ hp)
      · exact br_t (by decide) (kX _ hp)
      · exact br_t (by decide) (kX _ hp)
      · exact br_f (by decide) (br_t (by decide) (kX _ hp))
      · exact br_f (by decide) (br_f (by decide) (br_t (by decide) (kX _ hp)))
      · exact br_f (by decide) (br_f (by decide) (br_f (by decide) (br_t (by decide) (kX _ hp))))
    · intro post hp
      rcases hc with rfl | rfl | rfl | rfl | rfl | rfl
      · exact br_t (by decide) (kY _ hp)
      · exact br_t (by decide) (kY _ hp)
      · exact br_t (by decide) (kY _ hp)
      · exact br_f (by decide) (br_t (by decide) (kY _ hp))
      · exact br_f (by decide) (br_f (by decide) (br_t (by decide) (kY _ hp)))
      · exact br_f (by decide) (br_f (by decide) (br_f (by decide) (br_t (by decide) (kY _ hp))))
  · obtain ⟨st', rg', ps', tb', pd', sa', pg', sp', it', pi', ua', us', yu', nw', lt', hR', hP', hX, hY⟩ := al_any (tg := tg) (sl := sl) (sl2 := sl2) (kp := kp) (st := st) (rg := rg) (ps := ps) (tb := tb) (sa := sa) (pg := pg) (sp := sp) (it := it) (lt := lt) (o := o) hB hg (by omega) hw hh hR hP
    have n2 : ¬ nI o ≤ 2 := nI_ge (a := 2) (by omega) (by omega)
    have n3 : ¬ nI o < 3 := nI_nlt (b := 3) (by omega) (by omega)
    have n8 : ¬ nI o = 8 := fun z => absurd ((nI_eq (b := 8) (by omega) (by omega)).mp z) (by omega)
    have n9 : ¬ nI o = 9 := fun z => absurd ((nI_eq (b := 9) (by omega) (by omega)).mp z) (by omega)
    have n11 : ¬ nI o = 11 := fun z => absurd ((nI_eq (b := 11) (by omega) (by omega)).mp z) (by omega)
    exact ⟨st', rg', ps', tb', pd', sa', pg', sp', it', pi', ua', us', yu', nw', lt', hR', hP', fun post hp => br_f n2 (br_f n8 (br_f n9 (br_f n11 (hX _ hp)))), fun post hp => br_f n3 (br_f n8 (br_f n9 (br_f n11 (hY _ hp))))⟩
theorem tx_0 {g : Nat} (hg : g < 3) (h : ps g &&& 256 = 0 ∨ pd g = -1) {post : Int32 → Prop} (hp : post 0) : wpX_takesExternal post (us, tg, sl, st, rg, ps, tb, pd, sa, kp, pg, sp, it, pi, ua, lt) (nI g) := by
  have eg : (nI g).toNatClampNeg = g := nI_clamp (by omega)
  have vg : vp_in (nI g) 5 := vp_in_nI (by omega) (by omega)
  by_cases h1 : ps g &&& 256 = 0
  · exact ⟨vg, br_t (by rw [eg]; exact h1) hp⟩
  · exact ⟨vg, br_f (by rw [eg]; exact h1) ⟨vg, br_t (by rw [eg]; exact h.resolve_left h1) hp⟩⟩
theorem tx_1 {g : Nat} (hg : g < 3) (h1 : ¬ ps g &&& 256 = 0) (h2 : ¬ pd g = -1) {post : Int32 → Prop} (hp : post 1) : wpX_takesExternal post (us, tg, sl, st, rg, ps, tb, pd, sa, kp, pg, sp, it, pi, ua, lt) (nI g) := by
  have eg : (nI g).toNatClampNeg = g := nI_clamp (by omega)
  have vg : vp_in (nI g) 5 := vp_in_nI (by omega) (by omega)
  exact ⟨vg, br_f (by rw [eg]; exact h1) ⟨vg, br_f (by rw [eg]; exact h2) hp⟩⟩
theorem sm_PDu {g : Nat} (hP : sm_PD pd) : sm_PD (upd pd g (-1)) := by
  intro i hi
  by_cases e : i = g
  · rw [e, pk_us]; exact Or.inl rfl
  · rw [pk_un e]; exact hP i hi
theorem ne_Y {g : Nat} (hg : g < 3) (hE : ps g &&& 256 = 0 ∨ pd g = -1) {post : SY → Prop} (h : wY_step_55 post (nI g) nw tg sl st rg ps tb pd sa kp pg (upd sp g (sp g + 1)) it pi yu lt) : wpY_step post (nw, tg, sl, st, rg, ps, tb, pd, sa, kp, pg, sp, it, pi, yu, lt) (nI g) := by
  have eg : (nI g).toNatClampNeg = g := nI_clamp (by omega)
  have vg : vp_in (nI g) 5 := vp_in_nI (by omega) (by omega)
  have v3 : vp_in (nI g) 3 := vp_in_nI (by omega) (by omega)
  by_cases h1 : ps g &&& 256 = 0
  · exact ⟨v3, v3, nm_r (by rw [eg]) ⟨vg, br_t (by rw [eg]; exact h1) h⟩⟩
  · exact ⟨v3, v3, nm_r (by rw [eg]) ⟨vg, br_f (by rw [eg]; exact h1) ⟨vg, br_t (by rw [eg, hE.resolve_left h1]; decide) h⟩⟩⟩
theorem sp_step {B g : Nat} {sl2 : Int32} (hB : B + 8 < 2 ^ 30) (hg : g < 3) (hR : fr_RF B pi ua us yu nw) (hP : sm_PD pd) :
    sm_S (B + 5) tg sl sl2 kp (fun post => wpX_step post (us, tg, sl, st, rg, ps, tb, pd, sa, kp, pg, sp, it, pi, ua, lt) (nI g)) (fun post => wpY_step post (nw, tg, sl2, st, rg, ps, tb, pd, sa, kp, pg, sp, it, pi, yu, lt) (nI g)) := by
  have eg : (nI g).toNatClampNeg = g := nI_clamp (by omega)
  have vg : vp_in (nI g) 5 := vp_in_nI (by omega) (by omega)
  have v3 : vp_in (nI g) 3 := vp_in_nI (by omega) (by omega)
  by_cases hE : ps g &&& 256 = 0 ∨ pd g = -1
  · obtain ⟨h, hh64, hh⟩ := bi_E63 (ps g)
    obtain ⟨r, hr, hpx, hpy⟩ := wk_both hg hh64 0 (nI h) (bi_63N hh64) ps tb st
    have hh' : ps (nI g).toNatClampNeg &&& 63 = nI h := by rw [eg]; exact hh
    have hr' : (r = -4 ∨ r = -5) ∨ ∃ p, p < 64 ∧ r = nI p := by
      rcases hr with h | h | h
      · exact Or.inl (Or.inl h)
      · exact Or.inl (Or.inr h)
      · exact Or.inr h
    rcases hr' with hr | ⟨p, hp64, rfl⟩
    · obtain ⟨st', rg', ps', tb', pd', sa', pg', sp', it', pi', ua', us', yu', nw', lt', hR', hP', hX, hY⟩ := sm_int (tg := tg) (sl := sl) (sl2 := sl2) (kp := kp) (st := st) (rg := rg) (ps := ps) (tb := tb) (sa := sa) (pg := pg) (sp := upd sp g (sp g + 1)) (it := it) (lt := lt) (B := B) (by omega) hg (i := 1) (by omega) (-r) (nI h) hR hP
      have hn : ¬ 0 ≤ r := by
        rcases hr with rfl | rfl <;> decide
      refine ⟨st', rg', ps', tb', pd', sa', pg', sp', it', pi', ua', us', yu', nw', lt', fr_mono hR' (by omega), hP', ?_, ?_⟩
      · intro post hp
        unfold wpX_step
        refine ⟨v3, v3, nm_r (by rw [eg]) (tx_0 hg hE (br_t rfl ⟨vg, nm_r hh' ?_⟩))⟩
        exact ac_bad hr hpx hX (br_t rfl hp)
      · intro post hp
        refine ne_Y hg hE ?_
        unfold wY_step_55
        exact ⟨vg, nm_r hh' (hpy (br_f hn (sm_prog hY hp)))⟩
    · obtain ⟨b, pg', hT, -, hX, hY⟩ := us_use (B := B) (g := g) (a := p) (by omega) hg hp64 (pg := pg) hR
      have hn : nI (64 * g + p) ≠ -1 := by
        intro e
        have e2 := congrArg Int32.toInt e
        rw [nI_toInt (by omega), show (-1 : Int32).toInt = -1 from by decide] at e2
        omega
      have ei : (nI (64 * g + p)).toNatClampNeg = 64 * g + p := nI_clamp (by omega)
      have vi : vp_in (nI (64 * g + p)) 320 := vp_in_nI (by omega) (by omega)
      have hRF := fr_T_RF hT
      have h0 : 0 ≤ nI p := nI_pos' (by omega)
      obtain ⟨o, ho, hw⟩ := bi_E15 (st (64 * g + p))
      by_cases h15 : o = 15
      · subst h15
        obtain ⟨st', rg', ps', tb', pd', sa', pg', sp', it', pi', ua', us', yu', nw', lt', hR', hP', hX', hY'⟩ := sm_int (tg := tg) (sl := sl) (sl2 := sl2) (kp := kp) (st := st) (rg := rg) (ps := ps) (tb := tb) (sa := sa) (pg := pg') (sp := upd sp g (sp g + 1)) (it := it) (lt := lt) (B := B + 1) (by omega) hg (i := 1) (by omega) 1 (nI h) hRF hP
        refine ⟨st', rg', ps', tb', pd', sa', pg', sp', it', pi', ua', us', yu', nw', lt', fr_mono hR' (by omega), hP', ?_, ?_⟩
        · intro post hp
          unfold wpX_step
          refine ⟨v3, v3, nm_r (by rw [eg]) (tx_0 hg hE (br_t rfl ⟨vg, nm_r hh' ?_⟩))⟩
          refine ac_ok hp64 hpx hX (br_f hn ⟨vi, nm_r (by rw [ei]) (nm_r hw ?_)⟩)
          exact br_t (by decide) (hX' _ hp)
        · intro post hp
          refine ne_Y hg hE ?_
          unfold wY_step_55
          refine ⟨vg, nm_r hh' (hpy (br_t h0 (gp_get hg hp64 hY (nm_r hw ?_))))⟩
          exact br_t (by decide) (sm_prog hY' hp)
      · have n15 : ¬ nI o = 15 := fun z => absurd ((nI_eq (b := 15) (by omega) (by omega)).mp z) (by omega)
        by_cases h11 : o < 11
        · obtain ⟨st', rg', ps', tb', pd', sa', pg', sp', it', pi', ua', us', yu', nw', lt', hR', hP', hX', hY'⟩ := sp_128 (tg := tg) (sl := sl) (sl2 := sl2) (kp := kp) (st := st) (rg := rg) (ps := ps) (tb := tb) (sa := sa) (pg := pg') (sp := upd sp g (sp g + 1)) (it := it) (lt := lt) (B := B + 1) (by omega) hg (by omega) hw hh hRF hP
          refine ⟨st', rg', ps', tb', pd', sa', pg', sp', it', pi', ua', us', yu', nw', lt', fr_mono hR' (by omega), hP', ?_, ?_⟩
          · intro post hp
            unfold wpX_step
            refine ⟨v3, v3, nm_r (by rw [eg]) (tx_0 hg hE (br_t rfl ⟨vg, nm_r hh' ?_⟩))⟩
            refine ac_ok hp64 hpx hX (br_f hn ⟨vi, nm_r (by rw [ei]) (nm_r hw ?_)⟩)
            exact br_f n15 (br_t (nI_lt (b := 11) h11 (by omega)) (hX' _ hp))
          · intro post hp
            refine ne_Y hg hE ?_
            unfold wY_step_55
            refine ⟨vg, nm_r hh' (hpy (br_t h0 (gp_get hg hp64 hY (nm_r hw ?_))))⟩
            exact br_f n15 (br_t (nI_le (b := 10) (by omega) (by omega)) (hY' _ hp))
        · have n11 : ¬ nI o < 11 := nI_nlt (b := 11) (by omega) (by omega)
          have n10 : ¬ nI o ≤ 10 := nI_ge (a := 10) (by omega) (by omega)
          by_cases h64 : ps g &&& 64 = 0
          · obtain ⟨st', rg', ps', tb', pd', sa', pg', sp', it', pi', ua', us', yu', nw', lt', hR', hP', hX', hY'⟩ := sp_128 (tg := tg) (sl := sl) (sl2 := sl2) (kp := kp) (st := st) (rg := rg) (ps := ps) (tb := tb) (sa := sa) (pg := pg') (sp := upd sp g (sp g + 1)) (it := it) (lt := lt) (B := B + 1) (by omega) hg (by omega) hw hh hRF hP
            refine ⟨st', rg', ps', tb', pd', sa', pg', sp', it', pi', ua', us', yu', nw', lt', fr_mono hR' (by omega), hP', ?_, ?_⟩
            · intro post hp
              unfold wpX_step
              refine ⟨v3, v3, nm_r (by rw [eg]) (tx_0 hg hE (br_t rfl ⟨vg, nm_r hh' ?_⟩))⟩
              refine ac_ok hp64 hpx hX (br_f hn ⟨vi, nm_r (by rw [ei]) (nm_r hw ?_)⟩)
              exact br_f n15 (br_f n11 ⟨vg, br_t (by rw [eg]; exact h64) (hX' _ hp)⟩)
            · intro post hp
              refine ne_Y hg hE ?_
              unfold wY_step_55
              refine ⟨vg, nm_r hh' (hpy (br_t h0 (gp_get hg hp64 hY (nm_r hw ?_))))⟩
              exact br_f n15 (br_f n10 ⟨vg, br_t (by rw [eg]; exact h64) (hY' _ hp)⟩)
          · obtain ⟨st', rg', ps', tb', pd', sa', pg', sp', it', pi', ua', us', yu', nw', lt', hR', hP', hX', hY'⟩ := sm_int (tg := tg) (sl := sl) (sl2 := sl2) (kp := kp) (st := st) (rg := rg) (ps := ps) (tb := tb) (sa := sa) (pg := pg') (sp := upd sp g (sp g + 1)) (it := it) (lt := lt) (B := B + 1) (by omega) hg (i := 1) (by omega) 2 (nI h) hRF hP
            refine ⟨st', rg', ps', tb', pd', sa', pg', sp', it', pi', ua', us', yu', nw', lt', fr_mono hR' (by omega), hP', ?_, ?_⟩
            · intro post hp
              unfold wpX_step
              refine ⟨v3, v3, nm_r (by rw [eg]) (tx_0 hg hE (br_t rfl ⟨vg, nm_r hh' ?_⟩))⟩
              refine ac_ok hp64 hpx hX (br_f hn ⟨vi, nm_r (by rw [ei]) (nm_r hw ?_)⟩)
              exact br_f n15 (br_f n11 ⟨vg, br_f (by rw [eg]; exact h64) (hX' _ hp)⟩)
            · intro post hp
              refine ne_Y hg hE ?_
              unfold wY_step_55
              refine ⟨vg, nm_r hh' (hpy (br_t h0 (gp_get hg hp64 hY (nm_r hw ?_))))⟩
              exact br_f n15 (br_f n10 ⟨vg, br_f (by rw [eg]; exact h64) (sm_prog hY' hp)⟩)
  · have h1 : ¬ ps g &&& 256 = 0 := fun z => hE (Or.inl z)
    have h2 : ¬ pd g = -1 := fun z => hE (Or.inr z)
    have h3 : ¬ pd g < 0 := Int32.not_lt.mpr ((hP g (by omega)).resolve_left h2)
    obtain ⟨st', rg', ps', tb', pd', sa', pg', sp', it', pi', ua', us', yu', nw', lt', hR', hP', hX, hY⟩ := sm_int (tg := tg) (sl := sl) (sl2 := sl2) (kp := kp) (st := st) (rg := rg) (ps := ps) (tb := tb) (pd := upd pd g (-1)) (sa := sa) (pg := pg) (sp := upd sp g (sp g + 1)) (it := it) (lt := lt) (B := B) (by omega) hg (i := 2) (by omega) (pd g) 0 hR (sm_PDu hP)
    refine ⟨st', rg', ps', tb', pd', sa', pg', sp', it', pi', ua', us', yu', nw', lt', fr_mono hR' (by omega), hP', ?_, ?_⟩
    · intro post hp
      unfold wpX_step
      exact ⟨v3, v3, nm_r (by rw [eg]) (tx_1 hg h1 h2 (br_f (by decide) ⟨vg, nm_r (by rw [eg]) ⟨vg, nm_r (by rw [eg]) (hX _ hp)⟩⟩))⟩
    · intro post hp
      unfold wpY_step
      exact ⟨v3, v3, nm_r (by rw [eg]) ⟨vg, br_f (by rw [eg]; exact h1) ⟨vg, br_f (by rw [eg]; exact h3) ⟨vg, nm_r (by rw [eg]) ⟨vg, nm_r (by rw [eg]) (hY _ hp)⟩⟩⟩⟩⟩
end
