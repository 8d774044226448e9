section
variable {us nw : Int64} {tg sl : Int32} {st rg ps tb pd sa kp pg sp it pi : Nat → Int32} {ua yu lt : Nat → Int64}
def sm_PD (pd : Nat → Int32) : Prop := ∀ i, i < 5 → pd i = -1 ∨ 0 ≤ pd i
/-- from here both sides come to related states -/
def sm_S (B : Nat) (tg sl sl2 : Int32) (kp : Nat → Int32) (WX : (SX → Prop) → Prop) (WY : (SY → Prop) → Prop) : Prop :=
  ∃ (st rg ps tb pd sa pg sp it pi : Nat → Int32) (ua : Nat → Int64) (us : Int64) (yu : Nat → Int64) (nw : Int64) (lt : Nat → Int64), fr_RF B pi ua us yu nw ∧ sm_PD pd ∧
    (∀ post : SX → Prop, post (us, tg, sl, st, rg, ps, tb, pd, sa, kp, pg, sp, it, pi, ua, lt) → WX post) ∧ (∀ post : SY → Prop, post (nw, tg, sl2, st, rg, ps, tb, pd, sa, kp, pg, sp, it, pi, yu, lt) → WY post)
theorem sm_mono {B B' : Nat} {tg sl sl2 : Int32} {WX : (SX → Prop) → Prop} {WY : (SY → Prop) → Prop} (h : sm_S B tg sl sl2 kp WX WY) (hB : B ≤ B') : sm_S B' tg sl sl2 kp WX WY := by
  obtain ⟨st', rg', ps', tb', pd', sa', pg', sp', it', pi', ua', us', yu', nw', lt', hR, hP, hX, hY⟩ := h
  exact ⟨st', rg', ps', tb', pd', sa', pg', sp', it', pi', ua', us', yu', nw', lt', fr_mono hR hB, hP, hX, hY⟩
theorem sm_int {B g i : Nat} {sl2 : Int32} (hB : B + 4 < 2 ^ 30) (hg : g < 3) (hi : i < 3) (code addr : Int32) (h : fr_RF B pi ua us yu nw) (hP : sm_PD pd) :
    sm_S (B + 4) tg sl sl2 kp (fun post => wpX_interrupt post (us, tg, sl, st, rg, ps, tb, pd, sa, kp, pg, sp, it, pi, ua, lt) (nI g) (nI i) code addr) (fun post => wpY_interrupt post (nw, tg, sl2, st, rg, ps, tb, pd, sa, kp, pg, sp, it, pi, yu, lt) (nI g) (nI i) code addr) := by
  obtain ⟨st', ps', sa', it', pg', pi', ua', us', yu', nw', hR, hX, hY⟩ := it_both hB hg hi code addr h st ps sa it (pg := pg)
  exact ⟨st', rg, ps', tb, pd, sa', pg', sp, it', pi', ua', us', yu', nw', lt, hR, hP, fun post hp => hX hp, fun post hp => hY hp⟩
theorem sm_prog {g : Nat} {code addr : Int32} {u u' : SY} {post : SY → Prop} (hY : ∀ q : SY → Prop, q u' → wpY_interrupt q u (nI g) (nI 1) code addr) (hp : post u') : wpY_program post u (nI g) code addr := by
  obtain ⟨nw, tg, sl, st, rg, ps, tb, pd, sa, kp, pg, sp, it, pi, yu, lt⟩ := u
  obtain ⟨nw', tg', sl', st', rg', ps', tb', pd', sa', kp', pg', sp', it', pi', yu', lt'⟩ := u'
  unfold wpY_program
  exact hY _ hp
/-! access -/
theorem ac_ok {g a p : Nat} {w : Int32} (hp : p < 64) {u : SX} {post : Int32 → SX → Prop} (hpl : ∀ {q : Int32 → Prop}, q (nI p) → wpX_placeOf q u (nI g) (nI a) w)
    (hu : ∀ {q : SX → Prop}, q (us, tg, sl, st, rg, ps, tb, pd, sa, kp, pg, sp, it, pi, ua, lt) → wpX_use q u (nI g) (nI p)) (h : post (nI (64 * g + p)) (us, tg, sl, st, rg, ps, tb, pd, sa, kp, pg, sp, it, pi, ua, lt)) : wpX_access post u (nI g) (nI a) w := by
  unfold wpX_access
  refine hpl (br_t (nI_pos' (by omega)) (hu ?_))
  show post (nI g * 64 + nI p) (us, tg, sl, st, rg, ps, tb, pd, sa, kp, pg, sp, it, pi, ua, lt)
  rw [ix_64]
  exact h
theorem ac_bad {g a : Nat} {w r : Int32} (hr : r = -4 ∨ r = -5) {u : SX} {post : Int32 → SX → Prop} (hpl : ∀ {q : Int32 → Prop}, q r → wpX_placeOf q u (nI g) (nI a) w)
    (hu : ∀ q : SX → Prop, q (us, tg, sl, st, rg, ps, tb, pd, sa, kp, pg, sp, it, pi, ua, lt) → wpX_interrupt q u (nI g) (nI 1) (-r) (nI a)) (h : post (-1) (us, tg, sl, st, rg, ps, tb, pd, sa, kp, pg, sp, it, pi, ua, lt)) : wpX_access post u (nI g) (nI a) w := by
  have hn : ¬ 0 ≤ r := by
    rcases hr with rfl | rfl <;> decide
  unfold wpX_access
  exact hpl (br_f hn (hu _ h))
/-! going on at the next word -/
theorem go_X {g : Nat} (hg : g < 3) {x : Int32} {post : SX → Prop} (h : post (us, tg, sl, st, rg, upd ps g ((ps g &&& (-64)) ||| (x &&& 63)), tb, pd, sa, kp, pg, sp, it, pi, ua, lt)) : wpX_goOnAt post (us, tg, sl, st, rg, ps, tb, pd, sa, kp, pg, sp, it, pi, ua, lt) (nI g) x := by
  have eg : (nI g).toNatClampNeg = g := nI_clamp (by omega)
  have vg : vp_in (nI g) 5 := vp_in_nI (by omega) (by omega)
  exact ⟨vg, vg, nm_r (by rw [eg]) h⟩
theorem go_Y {g : Nat} (hg : g < 3) {x : Int32} {post : SY → Prop} (h : post (nw, tg, sl, st, rg, upd ps g ((ps g &&& (-64)) ||| (x &&& 63)), tb, pd, sa, kp, pg, sp, it, pi, yu, lt)) : wpY_next post (nw, tg, sl, st, rg, ps, tb, pd, sa, kp, pg, sp, it, pi, yu, lt) (nI g) x := by
  have eg : (nI g).toNatClampNeg = g := nI_clamp (by omega)
  have vg : vp_in (nI g) 5 := vp_in_nI (by omega) (by omega)
  exact ⟨vg, vg, nm_r (by rw [eg]) h⟩
theorem go_179 {g : Nat} (hg : g < 3) {post : SX → Prop} (h : post (us, tg, sl, st, rg, upd ps g ((ps g &&& (-64)) ||| ((ps g + 1) &&& 63)), tb, pd, sa, kp, pg, sp, it, pi, ua, lt)) : wX_carryOutWithWord_179 post (nI g) us tg sl st rg ps tb pd sa kp pg sp it pi ua lt := by
  have eg : (nI g).toNatClampNeg = g := nI_clamp (by omega)
  have vg : vp_in (nI g) 5 := vp_in_nI (by omega) (by omega)
  unfold wX_carryOutWithWord_179
  rw [eg]
  exact ⟨vg, go_X hg h⟩
/-! the instructions that access a word -/
theorem me_77 {B g o rr a h : Nat} {sl2 : Int32} (hB : B + 4 < 2 ^ 30) (hg : g < 3) (ho : o = 0 ∨ o = 1 ∨ o = 2 ∨ o = 8 ∨ o = 9 ∨ o = 11) (hrr : rr < 20) (ha : a < 64) (hh : ps g &&& 63 = nI h)
    (hR : fr_RF B pi ua us yu nw) (hP : sm_PD pd) (w : Int32) (hw : w = if o = 1 ∨ o = 9 then 1 else 0) :
    sm_S (B + 4) tg sl sl2 kp (fun post => wX_carryOutWithWord_77 post (nI g) (nI o) (nI rr) w (nI a) (nI g) us tg sl st rg ps tb pd sa kp pg sp it pi ua lt) (fun post => wY_memory_78 post (nI g) (nI h) (nI o) (nI rr) (nI a) w nw tg sl2 st rg ps tb pd sa kp pg sp it pi yu lt) := by
  obtain ⟨r, hr, hpx, hpy⟩ := wk_both hg ha w (nI a) (bi_63N ha) ps tb st
  have er : (nI rr).toNatClampNeg = rr := nI_clamp (by omega)
  have vr : vp_in (nI rr) 20 := vp_in_nI (by omega) (by omega)
  have eg : (nI g).toNatClampNeg = g := nI_clamp (by omega)
  have vg : vp_in (nI g) 5 := vp_in_nI (by omega) (by omega)
  have hr' : (r = -4 ∨ r = -5) ∨ ∃ p, p < 64 ∧ r = nI p := by
    rcases hr with h | h | h
    · exact Or.inl (Or.inl h)
    · exact Or.inl (Or.inr h)
    · exact Or.inr h
  rcases hr' with hr | ⟨p, hp64, rfl⟩
  · obtain ⟨st', rg', ps', tb', pd', sa', pg', sp', it', pi', ua', us', yu', nw', lt', hR', hP', hX, hY⟩ := sm_int (tg := tg) (sl := sl) (sl2 := sl2) (kp := kp) (st := st) (rg := rg) (ps := ps) (tb := tb) (sa := sa) (pg := pg) (sp := sp) (it := it) (lt := lt) hB hg (i := 1) (by omega) (-r) (nI a) hR hP
    have hn : ¬ 0 ≤ r := by
      rcases hr with rfl | rfl <;> decide
    refine ⟨st', rg', ps', tb', pd', sa', pg', sp', it', pi', ua', us', yu', nw', lt', hR', hP', ?_, ?_⟩
    · intro post hp
      unfold wX_carryOutWithWord_77
      exact ac_bad hr hpx hX (br_t rfl hp)
    · intro post hp
      unfold wY_memory_78
      exact hpy (br_f hn (sm_prog hY hp))
  · obtain ⟨b, pg', hT, -, hX, hY⟩ := us_use (B := B) (g := g) (a := p) (by omega) hg hp64 (pg := pg) hR
    have hq : (ps g + 1) &&& 63 = (nI h + 1) &&& 63 := by rw [bi_next, hh]
    have hn : nI (64 * g + p) ≠ -1 := by
      intro e
      have e2 := congrArg Int32.toInt e
      rw [nI_toInt (by omega), show (-1 : Int32).toInt = -1 from by decide] at e2
      omega
    have ei : (nI (64 * g + p)).toNatClampNeg = 64 * g + p := nI_clamp (by omega)
    have vi : vp_in (nI (64 * g + p)) 320 := vp_in_nI (by omega) (by omega)
    have hRF := fr_mono (fr_T_RF hT) (show B + 1 ≤ B + 4 by omega)
    have h0 : 0 ≤ nI p := nI_pos' (by omega)
    rcases ho with rfl | rfl | rfl | rfl | rfl | rfl
    · -- load
      refine ⟨st, upd rg rr (st (64 * g + p)), upd ps g ((ps g &&& (-64)) ||| ((ps g + 1) &&& 63)), tb, pd, sa, pg', sp, it, _, _, _, _, _, lt, hRF, hP, ?_, ?_⟩
      · intro post hp
        unfold wX_carryOutWithWord_77
        refine ac_ok hp64 hpx hX ?_
        exact br_f hn (br_f (by decide) (br_t (by decide) ⟨vi, vr, nm_r (by rw [er, ei]) (go_179 hg hp)⟩))
      · intro post hp
        rw [hq] at hp
        unfold wY_memory_78
        refine hpy (br_t h0 (go_Y hg (br_t (by rw [hw]; decide) (gp_get hg hp64 hY ?_))))
        exact br_f (by decide) (br_f (by decide) ⟨vr, nm_r (by rw [er]) hp⟩)
    · -- store
      refine ⟨upd st (64 * g + p) (rg rr), rg, upd ps g ((ps g &&& (-64)) ||| ((ps g + 1) &&& 63)), tb, pd, sa, pg', sp, it, _, _, _, _, _, lt, hRF, hP, ?_, ?_⟩
      · intro post hp
        unfold wX_carryOutWithWord_77
        refine ac_ok hp64 hpx hX ?_
        exact br_f hn (br_f (by decide) (br_f (by decide) (br_f (by decide) (br_f (by decide) ⟨vr, vi, nm_r (by rw [er, ei]) (go_179 hg hp)⟩))))
      · intro post hp
        rw [hq] at hp
        unfold wY_memory_78
        refine hpy (br_t h0 (go_Y hg (br_f (by rw [hw]; decide) ⟨vr, ?_⟩)))
        rw [er]
        exact gp_put hg hp64 hY hp
    · -- add
      refine ⟨st, upd rg rr (rg rr + st (64 * g + p)), upd ps g ((ps g &&& (-64)) ||| ((ps g + 1) &&& 63)), tb, pd, sa, pg', sp, it, _, _, _, _, _, lt, hRF, hP, ?_, ?_⟩
      · intro post hp
        unfold wX_carryOutWithWord_77
        refine ac_ok hp64 hpx hX ?_
        exact br_f hn (br_f (by decide) (br_f (by decide) (br_f (by decide) (br_t (by decide) ⟨vr, vi, vr, nm_r (by rw [er, ei]) (go_179 hg hp)⟩))))
      · intro post hp
        rw [hq] at hp
        unfold wY_memory_78
        refine hpy (br_t h0 (go_Y hg (br_t (by rw [hw]; decide) (gp_get hg hp64 hY ?_))))
        exact br_f (by decide) (br_t (by decide) ⟨vr, vr, nm_r (by rw [er]) hp⟩)
    · -- fetch
      refine ⟨st, upd rg rr (st (64 * g + p)), upd ps g ((ps g &&& (-64)) ||| ((ps g + 1) &&& 63)), tb, pd, sa, pg', sp, it, _, _, _, _, _, lt, hRF, hP, ?_, ?_⟩
      · intro post hp
        unfold wX_carryOutWithWord_77
        refine ac_ok hp64 hpx hX ?_
        exact br_f hn (br_f (by decide) (br_f (by decide) (br_t (by decide) ⟨vi, vr, nm_r (by rw [er, ei]) (go_179 hg hp)⟩)))
      · intro post hp
        rw [hq] at hp
        unfold wY_memory_78
        refine hpy (br_t h0 (go_Y hg (br_t (by rw [hw]; decide) (gp_get hg hp64 hY ?_))))
        exact br_f (by decide) (br_f (by decide) ⟨vr, nm_r (by rw [er]) hp⟩)
    · -- place
      refine ⟨upd st (64 * g + p) (rg rr), rg, upd ps g ((ps g &&& (-64)) ||| ((ps g + 1) &&& 63)), tb, pd, sa, pg', sp, it, _, _, _, _, _, lt, hRF, hP, ?_, ?_⟩
      · intro post hp
        unfold wX_carryOutWithWord_77
        refine ac_ok hp64 hpx hX ?_
        exact br_f hn (br_f (by decide) (br_f (by decide) (br_f (by decide) (br_f (by decide) ⟨vr, vi, nm_r (by rw [er, ei]) (go_179 hg hp)⟩))))
      · intro post hp
        rw [hq] at hp
        unfold wY_memory_78
        refine hpy (br_t h0 (go_Y hg (br_f (by rw [hw]; decide) ⟨vr, ?_⟩)))
        rw [er]
        exact gp_put hg hp64 hY hp
    · -- psw
      refine ⟨st, rg, upd ps g (st (64 * g + p) &&& 511), tb, pd, sa, pg', sp, it, _, _, _, _, _, lt, hRF, hP, ?_, ?_⟩
      · intro post hp
        unfold wX_carryOutWithWord_77
        refine ac_ok hp64 hpx hX ?_
        exact br_f hn (br_t (by decide) ⟨vi, vg, nm_r (by rw [eg, ei]) hp⟩)
      · intro post hp
        unfold wY_memory_78
        refine hpy (br_t h0 (go_Y hg (br_t (by rw [hw]; decide) (gp_get hg hp64 hY ?_))))
        exact br_t (by decide) ⟨vg, nm_r (by rw [eg, fr_upd2]) hp⟩
theorem me_with {B g o h : Nat} {sl2 w : Int32} (hB : B + 4 < 2 ^ 30) (hg : g < 3) (ho : o = 0 ∨ o = 1 ∨ o = 2 ∨ o = 8 ∨ o = 9 ∨ o = 11) (hw : w &&& 15 = nI o) (hh : ps g &&& 63 = nI h)
    (hR : fr_RF B pi ua us yu nw) (hP : sm_PD pd) :
    sm_S (B + 4) tg sl sl2 kp (fun post => wpX_carryOutWithWord post (us, tg, sl, st, rg, ps, tb, pd, sa, kp, pg, sp, it, pi, ua, lt) (nI g) w) (fun post => wpY_memory post (nw, tg, sl2, st, rg, ps, tb, pd, sa, kp, pg, sp, it, pi, yu, lt) (nI g) w (nI h)) := by
  obtain ⟨q, hq, eq⟩ := bi_E3 (w >>> ((4 : Int32) &&& 31))
  obtain ⟨a, ha, ea⟩ := bi_E63 (w >>> ((6 : Int32) &&& 31))
  obtain ⟨q2, hq2, eq2⟩ := bi_E3 (w >>> ((12 : Int32) &&& 31))
  obtain ⟨a2, ha2, ea2⟩ := bi_E63 (rg (4 * g + q2))
  have rX : nI g * 4 + ((w >>> ((4 : Int32) &&& 31)) &&& 3) = nI (4 * g + q) := by rw [eq, ix_4]
  have rY : 4 * nI g + ((w >>> ((4 : Int32) &&& 31)) &&& 3) = nI (4 * g + q) := by rw [eq, iy_4]
  have sX : nI g * 4 + ((w >>> ((12 : Int32) &&& 31)) &&& 3) = nI (4 * g + q2) := by rw [eq2, ix_4]
  have sY : 4 * nI g + ((w >>> ((12 : Int32) &&& 31)) &&& 3) = nI (4 * g + q2) := by rw [eq2, iy_4]
  have vX : vp_in (nI g * 4 + ((w >>> ((12 : Int32) &&& 31)) &&& 3)) 20 := by rw [sX]; exact vp_in_nI (by omega) (by omega)
  have vY : vp_in (4 * nI g + ((w >>> ((12 : Int32) &&& 31)) &&& 3)) 20 := by rw [sY]; exact vp_in_nI (by omega) (by omega)
  have fX : rg (nI g * 4 + ((w >>> ((12 : Int32) &&& 31)) &&& 3)).toNatClampNeg &&& 63 = nI a2 := by rw [sX, nI_clamp (by omega), ea2]
  have fY : rg (4 * nI g + ((w >>> ((12 : Int32) &&& 31)) &&& 3)).toNatClampNeg &&& 63 = nI a2 := by rw [sY, nI_clamp (by omega), ea2]
  have K : ∀ (c : Nat), c < 64 → sm_S (B + 4) tg sl sl2 kp (fun post => wX_carryOutWithWord_77 post (nI g) (nI o) (nI (4 * g + q)) (if o = 1 ∨ o = 9 then 1 else 0) (nI c) (nI g) us tg sl st rg ps tb pd sa kp pg sp it pi ua lt) (fun post => wY_memory_78 post (nI g) (nI h) (nI o) (nI (4 * g + q)) (nI c) (if o = 1 ∨ o = 9 then 1 else 0) nw tg sl2 st rg ps tb pd sa kp pg sp it pi yu lt) :=
    fun c hc => me_77 hB hg ho (by omega) hc hh hR hP _ rfl
  rcases ho with rfl | rfl | rfl | rfl | rfl | rfl
  · obtain ⟨st', rg', ps', tb', pd', sa', pg', sp', it', pi', ua', us', yu', nw', lt', hR', hP', hX, hY⟩ := K a ha
    exact ⟨st', rg', ps', tb', pd', sa', pg', sp', it', pi', ua', us', yu', nw', lt', hR', hP', fun post hp => nm_r hw (nm_r rX (nm_r ea (br_f (by decide) (br_f (by decide) (br_f (by decide) (br_f (by decide) (hX _ hp))))))), fun post hp => nm_r hw (nm_r rY (nm_r ea (br_f (by decide) (br_f (by decide) (br_f (by decide) (br_f (by decide) (hY _ hp)))))))⟩
  · obtain ⟨st', rg', ps', tb', pd', sa', pg', sp', it', pi', ua', us', yu', nw', lt', hR', hP', hX, hY⟩ := K a ha
    exact ⟨st', rg', ps', tb', pd', sa', pg', sp', it', pi', ua', us', yu', nw', lt', hR', hP', fun post hp => nm_r hw (nm_r rX (nm_r ea (br_f (by decide) (br_f (by decide) (br_t (by decide) (hX _ hp)))))), fun post hp => nm_r hw (nm_r rY (nm_r ea (br_f (by decide) (br_f (by decide) (br_t (by decide) (hY _ hp))))))⟩
  · obtain ⟨st', rg', ps', tb', pd', sa', pg', sp', it', pi', ua', us', yu', nw', lt', hR', hP', hX, hY⟩ := K a ha
    exact ⟨st', rg', ps', tb', pd', sa', pg', sp', it', pi', ua', us', yu', nw', lt', hR', hP', fun post hp => nm_r hw (nm_r rX (nm_r ea (br_f (by decide) (br_f (by decide) (br_f (by decide) (br_f (by decide) (hX _ hp))))))), fun post hp => nm_r hw (nm_r rY (nm_r ea (br_f (by decide) (br_f (by decide) (br_f (by decide) (br_f (by decide) (hY _ hp)))))))⟩
  · obtain ⟨st', rg', ps', tb', pd', sa', pg', sp', it', pi', ua', us', yu', nw', lt', hR', hP', hX, hY⟩ := K a2 ha2
    exact ⟨st', rg', ps', tb', pd', sa', pg', sp', it', pi', ua', us', yu', nw', lt', hR', hP', fun post hp => nm_r hw (nm_r rX (nm_e (br_t (by decide) ⟨vX, nm_r fX (br_f (by decide) (br_f (by decide) (hX _ hp)))⟩))), fun post hp => nm_r hw (nm_r rY (nm_e (br_t (by decide) ⟨vY, nm_r fY (br_f (by decide) (br_f (by decide) (hY _ hp)))⟩)))⟩
  · obtain ⟨st', rg', ps', tb', pd', sa', pg', sp', it', pi', ua', us', yu', nw', lt', hR', hP', hX, hY⟩ := K a2 ha2
    exact ⟨st', rg', ps', tb', pd', sa', pg', sp', it', pi', ua', us', yu', nw', lt', hR', hP', fun post hp => nm_r hw (nm_r rX (nm_e (br_f (by decide) (br_t (by decide) ⟨vX, nm_r fX (br_f (by decide) (br_t (by decide) (hX _ hp)))⟩)))), fun post hp => nm_r hw (nm_r rY (nm_e (br_f (by decide) (br_t (by decide) ⟨vY, nm_r fY (br_f (by decide) (br_t (by decide) (hY _ hp)))⟩))))⟩
  · obtain ⟨st', rg', ps', tb', pd', sa', pg', sp', it', pi', ua', us', yu', nw', lt', hR', hP', hX, hY⟩ := K a ha
    exact ⟨st', rg', ps', tb', pd', sa', pg', sp', it', pi', ua', us', yu', nw', lt', hR', hP', fun post hp => nm_r hw (nm_r rX (nm_r ea (br_f (by decide) (br_f (by decide) (br_f (by decide) (br_f (by decide) (hX _ hp))))))), fun post hp => nm_r hw (nm_r rY (nm_r ea (br_f (by decide) (br_f (by decide) (br_f (by decide) (br_f (by decide) (hY _ hp)))))))⟩
end
