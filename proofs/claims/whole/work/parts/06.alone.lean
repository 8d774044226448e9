section
variable {us nw : Int64} {tg sl : Int32} {st rg ps tb pd sa kp pg sp it pi : Nat → Int32} {ua yu lt : Nat → Int64}
/-! tell -/
theorem te_both (x1 x2 : Int32) : ∀ (i : Nat) (lt : Nat → Int64), i ≤ 7 → ∃ lt' : Nat → Int64,
    (∀ {us : Int64} {tg sl : Int32} {st rg ps tb pd sa kp pg sp it pi : Nat → Int32} {ua : Nat → Int64} {post : SX → Prop}, post (us, tg, sl, st, rg, ps, tb, pd, sa, kp, pg, sp, it, pi, ua, lt') → wX_tell_3 post x1 x2 us tg sl (i + 1) (nI i) st rg ps tb pd sa kp pg sp it pi ua lt) ∧
    (∀ {nw : Int64} {tg sl : Int32} {st rg ps tb pd sa kp pg sp it pi : Nat → Int32} {yu : Nat → Int64} {post : SY → Prop}, post (nw, tg, sl, st, rg, ps, tb, pd, sa, kp, pg, sp, it, pi, yu, lt') → wY_tell_3 post x1 x2 nw tg sl (i + 1) (nI i) st rg ps tb pd sa kp pg sp it pi yu lt) := by
  intro i
  induction i with
  | zero =>
    intro lt _
    refine ⟨vp_updL lt 0 (((8589934592 * x1.toInt64) + x2.toInt64) + 4294967296), ?_, ?_⟩
    · intro us tg sl st rg ps tb pd sa kp pg sp it pi ua post hp
      exact br_t (by decide) (nm_e hp)
    · intro nw tg sl st rg ps tb pd sa kp pg sp it pi yu post hp
      exact br_t (by decide) (nm_e hp)
  | succ i ih =>
    intro lt hi
    have e1 : nI (i + 1) - 1 = nI i := nI_pred i
    have v1 : vp_in (nI (i + 1) - 1) 8 := by rw [e1]; exact vp_in_nI (by omega) (by omega)
    have v2 : vp_in (nI (i + 1)) 8 := vp_in_nI (by omega) (by omega)
    have c1 : (nI (i + 1) - 1).toNatClampNeg = i := by rw [e1, nI_clamp (by omega)]
    have c2 : (nI (i + 1)).toNatClampNeg = i + 1 := nI_clamp (by omega)
    obtain ⟨lt', hX, hY⟩ := ih (vp_updL lt (i + 1) (lt i)) (by omega)
    refine ⟨lt', ?_, ?_⟩
    · intro us tg sl st rg ps tb pd sa kp pg sp it pi ua post hp
      exact br_f (nI_nle (by omega) (by omega)) ⟨v1, v2, nm_r (by rw [c1, c2]) (nm_r (pk_m1 i) (hX hp))⟩
    · intro nw tg sl st rg ps tb pd sa kp pg sp it pi yu post hp
      exact br_f (nI_nle (by omega) (by omega)) ⟨v1, v2, nm_r (by rw [c1, c2]) (nm_r (pk_m1 i) (hY hp))⟩
theorem te_tell (x1 x2 : Int32) (lt : Nat → Int64) : ∃ lt' : Nat → Int64,
    (∀ {us : Int64} {tg sl : Int32} {st rg ps tb pd sa kp pg sp it pi : Nat → Int32} {ua : Nat → Int64} {post : SX → Prop}, post (us, tg, sl, st, rg, ps, tb, pd, sa, kp, pg, sp, it, pi, ua, lt') → wpX_tell post (us, tg, sl, st, rg, ps, tb, pd, sa, kp, pg, sp, it, pi, ua, lt) x1 x2) ∧
    (∀ {nw : Int64} {tg sl : Int32} {st rg ps tb pd sa kp pg sp it pi : Nat → Int32} {yu : Nat → Int64} {post : SY → Prop}, post (nw, tg, sl, st, rg, ps, tb, pd, sa, kp, pg, sp, it, pi, yu, lt') → wpY_tell post (nw, tg, sl, st, rg, ps, tb, pd, sa, kp, pg, sp, it, pi, yu, lt) x1 x2) := by
  obtain ⟨lt', hX, hY⟩ := te_both x1 x2 7 lt (by omega)
  refine ⟨lt', ?_, ?_⟩
  · intro us tg sl st rg ps tb pd sa kp pg sp it pi ua post hp
    exact ⟨8, hX hp⟩
  · intro nw tg sl st rg ps tb pd sa kp pg sp it pi yu post hp
    exact ⟨8, hY hp⟩
/-! the instructions that access no word -/
theorem al_208 {g : Nat} (hg : g < 3) {w x5 x6 x : Int32} {post : SY → Prop} (hn : ¬ (w &&& 15) = 10) (h : post (nw, tg, sl, st, rg, upd ps g ((ps g &&& (-64)) ||| (x &&& 63)), tb, pd, sa, kp, pg, sp, it, pi, yu, lt)) : wY_plain_208 post (nI g) w x5 x6 x nw tg sl st rg ps tb pd sa kp pg sp it pi yu lt := by
  unfold wY_plain_208
  exact go_Y hg (br_f hn h)
theorem al_g2 {g : Nat} (z B : Int32) : upd (upd ps g ((ps g &&& (-64)) ||| (z &&& 63))) g ((upd ps g ((ps g &&& (-64)) ||| (z &&& 63)) g &&& (-64)) ||| B) = upd ps g ((ps g &&& (-64)) ||| B) := by
  rw [pk_us, bi_keep, fr_upd2]
theorem al_3 {B g h : Nat} {sl2 w : Int32} (hB : B + 4 < 2 ^ 30) (hg : g < 3) (hw : w &&& 15 = nI 3) (hh : ps g &&& 63 = nI h) (hR : fr_RF B pi ua us yu nw) (hP : sm_PD pd) :
    sm_S (B + 4) tg sl sl2 kp (fun post => wpX_carryOutAlone post (us, tg, sl, st, rg, ps, tb, pd, sa, kp, pg, sp, it, pi, ua, lt) (nI g) w) (fun post => wpY_plain post (nw, tg, sl2, st, rg, ps, tb, pd, sa, kp, pg, sp, it, pi, yu, lt) (nI g) w (nI h)) := by
  obtain ⟨q, hq4, eq⟩ := bi_E3 (w >>> ((4 : Int32) &&& 31))
  obtain ⟨a, ha, ea⟩ := bi_E63 (w >>> ((6 : Int32) &&& 31))
  have rX : nI g * 4 + ((w >>> ((4 : Int32) &&& 31)) &&& 3) = nI (4 * g + q) := by rw [eq, ix_4]
  have rY : 4 * nI g + ((w >>> ((4 : Int32) &&& 31)) &&& 3) = nI (4 * g + q) := by rw [eq, iy_4]
  have eg : (nI g).toNatClampNeg = g := nI_clamp (by omega)
  have vg : vp_in (nI g) 5 := vp_in_nI (by omega) (by omega)
  have er : (nI (4 * g + q)).toNatClampNeg = 4 * g + q := nI_clamp (by omega)
  have vr : vp_in (nI (4 * g + q)) 20 := vp_in_nI (by omega) (by omega)
  have hq : (ps g + 1) &&& 63 = (nI h + 1) &&& 63 := by rw [bi_next, hh]
  have hn : ¬ (w &&& 15) = 10 := by rw [hw]; decide
  have hRF := fr_mono hR (show B ≤ B + 4 by omega)
  refine ⟨st, upd rg (4 * g + q) (w >>> ((12 : Int32) &&& 31)), upd ps g ((ps g &&& (-64)) ||| ((ps g + 1) &&& 63)), tb, pd, sa, pg, sp, it, pi, ua, us, yu, nw, lt, hRF, hP, ?_, ?_⟩
  · intro post hp
    unfold wpX_carryOutAlone
    rw [eg]
    refine nm_r rX (nm_r ea (nm_e ⟨vg, go_X hg (nm_r hw ?_)⟩))
    exact br_f (by decide) (br_f (by decide) (br_t (by decide) (⟨vr, nm_r (by rw [er]) hp⟩)))
  · intro post hp
    rw [hq] at hp
    unfold wpY_plain
    rw [eg]
    refine nm_r rY (nm_r ea (nm_e (nm_e (nm_r hw ?_))))
    exact br_f (by decide) (br_f (by decide) (br_t (by decide) (⟨vr, nm_r (by rw [er]) (al_208 hg hn hp)⟩)))
theorem al_4 {B g h : Nat} {sl2 w : Int32} (hB : B + 4 < 2 ^ 30) (hg : g < 3) (hw : w &&& 15 = nI 4) (hh : ps g &&& 63 = nI h) (hR : fr_RF B pi ua us yu nw) (hP : sm_PD pd) :
    sm_S (B + 4) tg sl sl2 kp (fun post => wpX_carryOutAlone post (us, tg, sl, st, rg, ps, tb, pd, sa, kp, pg, sp, it, pi, ua, lt) (nI g) w) (fun post => wpY_plain post (nw, tg, sl2, st, rg, ps, tb, pd, sa, kp, pg, sp, it, pi, yu, lt) (nI g) w (nI h)) := by
  obtain ⟨q, hq4, eq⟩ := bi_E3 (w >>> ((4 : Int32) &&& 31))
  obtain ⟨a, ha, ea⟩ := bi_E63 (w >>> ((6 : Int32) &&& 31))
  have rX : nI g * 4 + ((w >>> ((4 : Int32) &&& 31)) &&& 3) = nI (4 * g + q) := by rw [eq, ix_4]
  have rY : 4 * nI g + ((w >>> ((4 : Int32) &&& 31)) &&& 3) = nI (4 * g + q) := by rw [eq, iy_4]
  have eg : (nI g).toNatClampNeg = g := nI_clamp (by omega)
  have vg : vp_in (nI g) 5 := vp_in_nI (by omega) (by omega)
  have er : (nI (4 * g + q)).toNatClampNeg = 4 * g + q := nI_clamp (by omega)
  have vr : vp_in (nI (4 * g + q)) 20 := vp_in_nI (by omega) (by omega)
  have hq : (ps g + 1) &&& 63 = (nI h + 1) &&& 63 := by rw [bi_next, hh]
  have hn : ¬ (w &&& 15) = 10 := by rw [hw]; decide
  have hRF := fr_mono hR (show B ≤ B + 4 by omega)
  refine ⟨st, upd rg (4 * g + q) (rg (4 * g + q) + (w >>> ((12 : Int32) &&& 31))), upd ps g ((ps g &&& (-64)) ||| ((ps g + 1) &&& 63)), tb, pd, sa, pg, sp, it, pi, ua, us, yu, nw, lt, hRF, hP, ?_, ?_⟩
  · intro post hp
    unfold wpX_carryOutAlone
    rw [eg]
    refine nm_r rX (nm_r ea (nm_e ⟨vg, go_X hg (nm_r hw ?_)⟩))
    exact br_f (by decide) (br_f (by decide) (br_f (by decide) (br_t (by decide) (⟨vr, vr, nm_r (by rw [er]) hp⟩))))
  · intro post hp
    rw [hq] at hp
    unfold wpY_plain
    rw [eg]
    refine nm_r rY (nm_r ea (nm_e (nm_e (nm_r hw ?_))))
    exact br_f (by decide) (br_f (by decide) (br_f (by decide) (br_t (by decide) (⟨vr, vr, nm_r (by rw [er]) (al_208 hg hn hp)⟩))))
theorem al_5 {B g h : Nat} {sl2 w : Int32} (hB : B + 4 < 2 ^ 30) (hg : g < 3) (hw : w &&& 15 = nI 5) (hh : ps g &&& 63 = nI h) (hR : fr_RF B pi ua us yu nw) (hP : sm_PD pd) :
    sm_S (B + 4) tg sl sl2 kp (fun post => wpX_carryOutAlone post (us, tg, sl, st, rg, ps, tb, pd, sa, kp, pg, sp, it, pi, ua, lt) (nI g) w) (fun post => wpY_plain post (nw, tg, sl2, st, rg, ps, tb, pd, sa, kp, pg, sp, it, pi, yu, lt) (nI g) w (nI h)) := by
  obtain ⟨q, hq4, eq⟩ := bi_E3 (w >>> ((4 : Int32) &&& 31))
  obtain ⟨a, ha, ea⟩ := bi_E63 (w >>> ((6 : Int32) &&& 31))
  have rX : nI g * 4 + ((w >>> ((4 : Int32) &&& 31)) &&& 3) = nI (4 * g + q) := by rw [eq, ix_4]
  have rY : 4 * nI g + ((w >>> ((4 : Int32) &&& 31)) &&& 3) = nI (4 * g + q) := by rw [eq, iy_4]
  have eg : (nI g).toNatClampNeg = g := nI_clamp (by omega)
  have vg : vp_in (nI g) 5 := vp_in_nI (by omega) (by omega)
  have er : (nI (4 * g + q)).toNatClampNeg = 4 * g + q := nI_clamp (by omega)
  have vr : vp_in (nI (4 * g + q)) 20 := vp_in_nI (by omega) (by omega)
  have hq : (ps g + 1) &&& 63 = (nI h + 1) &&& 63 := by rw [bi_next, hh]
  have hn : ¬ (w &&& 15) = 10 := by rw [hw]; decide
  have hRF := fr_mono hR (show B ≤ B + 4 by omega)
  refine ⟨st, rg, upd ps g ((ps g &&& (-64)) ||| (nI a &&& 63)), tb, pd, sa, pg, sp, it, pi, ua, us, yu, nw, lt, hRF, hP, ?_, ?_⟩
  · intro post hp
    unfold wpX_carryOutAlone
    rw [eg]
    refine nm_r rX (nm_r ea (nm_e ⟨vg, go_X hg (nm_r hw ?_)⟩))
    exact br_f (by decide) (br_f (by decide) (br_f (by decide) (br_f (by decide) (br_t (by decide) (go_X hg (by rw [al_g2]; exact hp))))))
  · intro post hp
    unfold wpY_plain
    rw [eg]
    refine nm_r rY (nm_r ea (nm_e (nm_e (nm_r hw ?_))))
    exact br_f (by decide) (br_f (by decide) (br_f (by decide) (br_f (by decide) (br_t (by decide) (al_208 hg hn hp)))))
theorem al_6 {B g h : Nat} {sl2 w : Int32} (hB : B + 4 < 2 ^ 30) (hg : g < 3) (hw : w &&& 15 = nI 6) (hh : ps g &&& 63 = nI h) (hR : fr_RF B pi ua us yu nw) (hP : sm_PD pd) :
    sm_S (B + 4) tg sl sl2 kp (fun post => wpX_carryOutAlone post (us, tg, sl, st, rg, ps, tb, pd, sa, kp, pg, sp, it, pi, ua, lt) (nI g) w) (fun post => wpY_plain post (nw, tg, sl2, st, rg, ps, tb, pd, sa, kp, pg, sp, it, pi, yu, lt) (nI g) w (nI h)) := by
  obtain ⟨q, hq4, eq⟩ := bi_E3 (w >>> ((4 : Int32) &&& 31))
  obtain ⟨a, ha, ea⟩ := bi_E63 (w >>> ((6 : Int32) &&& 31))
  have rX : nI g * 4 + ((w >>> ((4 : Int32) &&& 31)) &&& 3) = nI (4 * g + q) := by rw [eq, ix_4]
  have rY : 4 * nI g + ((w >>> ((4 : Int32) &&& 31)) &&& 3) = nI (4 * g + q) := by rw [eq, iy_4]
  have eg : (nI g).toNatClampNeg = g := nI_clamp (by omega)
  have vg : vp_in (nI g) 5 := vp_in_nI (by omega) (by omega)
  have er : (nI (4 * g + q)).toNatClampNeg = 4 * g + q := nI_clamp (by omega)
  have vr : vp_in (nI (4 * g + q)) 20 := vp_in_nI (by omega) (by omega)
  have hq : (ps g + 1) &&& 63 = (nI h + 1) &&& 63 := by rw [bi_next, hh]
  have hn : ¬ (w &&& 15) = 10 := by rw [hw]; decide
  have hRF := fr_mono hR (show B ≤ B + 4 by omega)
  by_cases hz : rg (4 * g + q) = 0
  · refine ⟨st, rg, upd ps g ((ps g &&& (-64)) ||| (nI a &&& 63)), tb, pd, sa, pg, sp, it, pi, ua, us, yu, nw, lt, hRF, hP, ?_, ?_⟩
    · intro post hp
      unfold wpX_carryOutAlone
      rw [eg]
      refine nm_r rX (nm_r ea (nm_e ⟨vg, go_X hg (nm_r hw ?_)⟩))
      exact br_f (by decide) (br_f (by decide) (br_f (by decide) (br_f (by decide) (br_f (by decide) (br_t (by decide) (⟨vr, br_t (by rw [er]; exact hz) (go_X hg (by rw [al_g2]; exact hp))⟩))))))
    · intro post hp
      unfold wpY_plain
      rw [eg]
      refine nm_r rY (nm_r ea (nm_e (nm_e (nm_r hw ?_))))
      exact br_f (by decide) (br_f (by decide) (br_f (by decide) (br_f (by decide) (br_f (by decide) (br_t (by decide) (⟨vr, br_t (by rw [er]; exact hz) (al_208 hg hn hp)⟩))))))
  · refine ⟨st, rg, upd ps g ((ps g &&& (-64)) ||| ((ps g + 1) &&& 63)), tb, pd, sa, pg, sp, it, pi, ua, us, yu, nw, lt, hRF, hP, ?_, ?_⟩
    · intro post hp
      unfold wpX_carryOutAlone
      rw [eg]
      refine nm_r rX (nm_r ea (nm_e ⟨vg, go_X hg (nm_r hw ?_)⟩))
      exact br_f (by decide) (br_f (by decide) (br_f (by decide) (br_f (by decide) (br_f (by decide) (br_t (by decide) (⟨vr, br_f (by rw [er]; exact hz) hp⟩))))))
    · intro post hp
      rw [hq] at hp
      unfold wpY_plain
      rw [eg]
      refine nm_r rY (nm_r ea (nm_e (nm_e (nm_r hw ?_))))
      exact br_f (by decide) (br_f (by decide) (br_f (by decide) (br_f (by decide) (br_f (by decide) (br_t (by decide) (⟨vr, br_f (by rw [er]; exact hz) (al_208 hg hn hp)⟩))))))
theorem al_7 {B g h : Nat} {sl2 w : Int32} (hB : B + 4 < 2 ^ 30) (hg : g < 3) (hw : w &&& 15 = nI 7) (hh : ps g &&& 63 = nI h) (hR : fr_RF B pi ua us yu nw) (hP : sm_PD pd) :
    sm_S (B + 4) tg sl sl2 kp (fun post => wpX_carryOutAlone post (us, tg, sl, st, rg, ps, tb, pd, sa, kp, pg, sp, it, pi, ua, lt) (nI g) w) (fun post => wpY_plain post (nw, tg, sl2, st, rg, ps, tb, pd, sa, kp, pg, sp, it, pi, yu, lt) (nI g) w (nI h)) := by
  obtain ⟨q, hq4, eq⟩ := bi_E3 (w >>> ((4 : Int32) &&& 31))
  obtain ⟨a, ha, ea⟩ := bi_E63 (w >>> ((6 : Int32) &&& 31))
  have rX : nI g * 4 + ((w >>> ((4 : Int32) &&& 31)) &&& 3) = nI (4 * g + q) := by rw [eq, ix_4]
  have rY : 4 * nI g + ((w >>> ((4 : Int32) &&& 31)) &&& 3) = nI (4 * g + q) := by rw [eq, iy_4]
  have eg : (nI g).toNatClampNeg = g := nI_clamp (by omega)
  have vg : vp_in (nI g) 5 := vp_in_nI (by omega) (by omega)
  have er : (nI (4 * g + q)).toNatClampNeg = 4 * g + q := nI_clamp (by omega)
  have vr : vp_in (nI (4 * g + q)) 20 := vp_in_nI (by omega) (by omega)
  have hq : (ps g + 1) &&& 63 = (nI h + 1) &&& 63 := by rw [bi_next, hh]
  have hn : ¬ (w &&& 15) = 10 := by rw [hw]; decide
  have hRF := fr_mono hR (show B ≤ B + 4 by omega)
  by_cases hz : 0 ≤ rg (4 * g + q)
  · refine ⟨st, rg, upd ps g ((ps g &&& (-64)) ||| ((ps g + 1) &&& 63)), tb, pd, sa, pg, sp, it, pi, ua, us, yu, nw, lt, hRF, hP, ?_, ?_⟩
    · intro post hp
      unfold wpX_carryOutAlone
      rw [eg]
      refine nm_r rX (nm_r ea (nm_e ⟨vg, go_X hg (nm_r hw ?_)⟩))
      exact br_f (by decide) (br_f (by decide) (br_f (by decide) (br_f (by decide) (br_f (by decide) (br_f (by decide) (br_t (by decide) (⟨vr, br_t (by rw [er]; exact hz) hp⟩)))))))
    · intro post hp
      rw [hq] at hp
      unfold wpY_plain
      rw [eg]
      refine nm_r rY (nm_r ea (nm_e (nm_e (nm_r hw ?_))))
      exact br_f (by decide) (br_f (by decide) (br_f (by decide) (br_f (by decide) (br_f (by decide) (br_f (by decide) (br_t (by decide) (⟨vr, br_t (by rw [er]; exact hz) (al_208 hg hn hp)⟩)))))))
  · refine ⟨st, rg, upd ps g ((ps g &&& (-64)) ||| (nI a &&& 63)), tb, pd, sa, pg, sp, it, pi, ua, us, yu, nw, lt, hRF, hP, ?_, ?_⟩
    · intro post hp
      unfold wpX_carryOutAlone
      rw [eg]
      refine nm_r rX (nm_r ea (nm_e ⟨vg, go_X hg (nm_r hw ?_)⟩))
      exact br_f (by decide) (br_f (by decide) (br_f (by decide) (br_f (by decide) (br_f (by decide) (br_f (by decide) (br_t (by decide) (⟨vr, br_f (by rw [er]; exact hz) (go_X hg (by rw [al_g2]; exact hp))⟩)))))))
    · intro post hp
      unfold wpY_plain
      rw [eg]
      refine nm_r rY (nm_r ea (nm_e (nm_e (nm_r hw ?_))))
      exact br_f (by decide) (br_f (by decide) (br_f (by decide) (br_f (by decide) (br_f (by decide) (br_f (by decide) (br_t (by decide) (⟨vr, br_f (by rw [er]; exact hz) (al_208 hg hn hp)⟩)))))))
theorem al_10 {B g h : Nat} {sl2 w : Int32} (hB : B + 4 < 2 ^ 30) (hg : g < 3) (hw : w &&& 15 = nI 10) (hh : ps g &&& 63 = nI h) (hR : fr_RF B pi ua us yu nw) (hP : sm_PD pd) :
    sm_S (B + 4) tg sl sl2 kp (fun post => wpX_carryOutAlone post (us, tg, sl, st, rg, ps, tb, pd, sa, kp, pg, sp, it, pi, ua, lt) (nI g) w) (fun post => wpY_plain post (nw, tg, sl2, st, rg, ps, tb, pd, sa, kp, pg, sp, it, pi, yu, lt) (nI g) w (nI h)) := by
  obtain ⟨q, hq4, eq⟩ := bi_E3 (w >>> ((4 : Int32) &&& 31))
  obtain ⟨a, ha, ea⟩ := bi_E63 (w >>> ((6 : Int32) &&& 31))
  have rX : nI g * 4 + ((w >>> ((4 : Int32) &&& 31)) &&& 3) = nI (4 * g + q) := by rw [eq, ix_4]
  have rY : 4 * nI g + ((w >>> ((4 : Int32) &&& 31)) &&& 3) = nI (4 * g + q) := by rw [eq, iy_4]
  have eg : (nI g).toNatClampNeg = g := nI_clamp (by omega)
  have vg : vp_in (nI g) 5 := vp_in_nI (by omega) (by omega)
  have er : (nI (4 * g + q)).toNatClampNeg = 4 * g + q := nI_clamp (by omega)
  have vr : vp_in (nI (4 * g + q)) 20 := vp_in_nI (by omega) (by omega)
  have hq : (ps g + 1) &&& 63 = (nI h + 1) &&& 63 := by rw [bi_next, hh]
  obtain ⟨st', rg', ps', tb', pd', sa', pg', sp', it', pi', ua', us', yu', nw', lt', hR', hP', hX, hY⟩ := sm_int (tg := tg) (sl := sl) (sl2 := sl2) (kp := kp) (st := st) (rg := rg) (ps := upd ps g ((ps g &&& (-64)) ||| ((ps g + 1) &&& 63))) (tb := tb) (sa := sa) (pg := pg) (sp := sp) (it := it) (lt := lt) hB hg (i := 0) (by omega) ((w >>> ((12 : Int32) &&& 31)) &&& 255) (nI a) hR hP
  refine ⟨st', rg', ps', tb', pd', sa', pg', sp', it', pi', ua', us', yu', nw', lt', hR', hP', ?_, ?_⟩
  · intro post hp
    unfold wpX_carryOutAlone
    rw [eg]
    refine nm_r rX (nm_r ea (nm_e ⟨vg, go_X hg (nm_r hw ?_)⟩))
    exact br_f (by decide) (br_f (by decide) (br_f (by decide) (br_f (by decide) (br_f (by decide) (br_f (by decide) (br_f (by decide) (br_f (by decide) (br_f (by decide) (br_t (by decide) (hX _ hp))))))))))
  · intro post hp
    rw [hq] at hY
    unfold wpY_plain
    rw [eg]
    refine nm_r rY (nm_r ea (nm_e (nm_e (nm_r hw ?_))))
    refine br_f (by decide) (br_f (by decide) (br_f (by decide) (br_f (by decide) (br_f (by decide) (br_f (by decide) (br_f (by decide) (br_f (by decide) (br_f (by decide) (br_t (by decide) (?_))))))))))
    unfold wY_plain_208
    exact go_Y hg (br_t (by rw [hw]; decide) (hY _ hp))
theorem al_12 {B g h : Nat} {sl2 w : Int32} (hB : B + 4 < 2 ^ 30) (hg : g < 3) (hw : w &&& 15 = nI 12) (hh : ps g &&& 63 = nI h) (hR : fr_RF B pi ua us yu nw) (hP : sm_PD pd) :
    sm_S (B + 4) tg sl sl2 kp (fun post => wpX_carryOutAlone post (us, tg, sl, st, rg, ps, tb, pd, sa, kp, pg, sp, it, pi, ua, lt) (nI g) w) (fun post => wpY_plain post (nw, tg, sl2, st, rg, ps, tb, pd, sa, kp, pg, sp, it, pi, yu, lt) (nI g) w (nI h)) := by
  obtain ⟨q, hq4, eq⟩ := bi_E3 (w >>> ((4 : Int32) &&& 31))
  obtain ⟨a, ha, ea⟩ := bi_E63 (w >>> ((6 : Int32) &&& 31))
  have rX : nI g * 4 + ((w >>> ((4 : Int32) &&& 31)) &&& 3) = nI (4 * g + q) := by rw [eq, ix_4]
  have rY : 4 * nI g + ((w >>> ((4 : Int32) &&& 31)) &&& 3) = nI (4 * g + q) := by rw [eq, iy_4]
  have eg : (nI g).toNatClampNeg = g := nI_clamp (by omega)
  have vg : vp_in (nI g) 5 := vp_in_nI (by omega) (by omega)
  have er : (nI (4 * g + q)).toNatClampNeg = 4 * g + q := nI_clamp (by omega)
  have vr : vp_in (nI (4 * g + q)) 20 := vp_in_nI (by omega) (by omega)
  have hq : (ps g + 1) &&& 63 = (nI h + 1) &&& 63 := by rw [bi_next, hh]
  have hn : ¬ (w &&& 15) = 10 := by rw [hw]; decide
  have hRF := fr_mono hR (show B ≤ B + 4 by omega)
  refine ⟨st, rg, upd ps g ((ps g &&& (-64)) ||| ((ps g + 1) &&& 63)), upd tb g (rg (4 * g + q) &&& 63), pd, sa, pg, sp, it, pi, ua, us, yu, nw, lt, hRF, hP, ?_, ?_⟩
  · intro post hp
    unfold wpX_carryOutAlone
    rw [eg]
    refine nm_r rX (nm_r ea (nm_e ⟨vg, go_X hg (nm_r hw ?_)⟩))
    exact br_f (by decide) (br_f (by decide) (br_f (by decide) (br_f (by decide) (br_f (by decide) (br_f (by decide) (br_f (by decide) (br_f (by decide) (br_f (by decide) (br_f (by decide) (br_f (by decide) (br_t (by decide) (⟨vr, vg, nm_r (by rw [er]) hp⟩))))))))))))
  · intro post hp
    rw [hq] at hp
    unfold wpY_plain
    rw [eg]
    refine nm_r rY (nm_r ea (nm_e (nm_e (nm_r hw ?_))))
    exact br_f (by decide) (br_f (by decide) (br_f (by decide) (br_f (by decide) (br_f (by decide) (br_f (by decide) (br_f (by decide) (br_f (by decide) (br_f (by decide) (br_f (by decide) (br_f (by decide) (br_t (by decide) (⟨vr, vg, nm_r (by rw [er]) (al_208 hg hn hp)⟩))))))))))))
theorem al_13 {B g h : Nat} {sl2 w : Int32} (hB : B + 4 < 2 ^ 30) (hg : g < 3) (hw : w &&& 15 = nI 13) (hh : ps g &&& 63 = nI h) (hR : fr_RF B pi ua us yu nw) (hP : sm_PD pd) :
    sm_S (B + 4) tg sl sl2 kp (fun post => wpX_carryOutAlone post (us, tg, sl, st, rg, ps, tb, pd, sa, kp, pg, sp, it, pi, ua, lt) (nI g) w) (fun post => wpY_plain post (nw, tg, sl2, st, rg, ps, tb, pd, sa, kp, pg, sp, it, pi, yu, lt) (nI g) w (nI h)) := by
  obtain ⟨q, hq4, eq⟩ := bi_E3 (w >>> ((4 : Int32) &&& 31))
  obtain ⟨a, ha, ea⟩ := bi_E63 (w >>> ((6 : Int32) &&& 31))
  have rX : nI g * 4 + ((w >>> ((4 : Int32) &&& 31)) &&& 3) = nI (4 * g + q) := by rw [eq, ix_4]
  have rY : 4 * nI g + ((w >>> ((4 : Int32) &&& 31)) &&& 3) = nI (4 * g + q) := by rw [eq, iy_4]
  have eg : (nI g).toNatClampNeg = g := nI_clamp (by omega)
  have vg : vp_in (nI g) 5 := vp_in_nI (by omega) (by omega)
  have er : (nI (4 * g + q)).toNatClampNeg = 4 * g + q := nI_clamp (by omega)
  have vr : vp_in (nI (4 * g + q)) 20 := vp_in_nI (by omega) (by omega)
  have hq : (ps g + 1) &&& 63 = (nI h + 1) &&& 63 := by rw [bi_next, hh]
  have hn : ¬ (w &&& 15) = 10 := by rw [hw]; decide
  have hRF := fr_mono hR (show B ≤ B + 4 by omega)
  obtain ⟨lt', tX, tY⟩ := te_tell (nI g) (rg (4 * g + q)) lt
  refine ⟨st, rg, upd ps g ((ps g &&& (-64)) ||| ((ps g + 1) &&& 63)), tb, pd, sa, pg, sp, it, pi, ua, us, yu, nw, lt', hRF, hP, ?_, ?_⟩
  · intro post hp
    unfold wpX_carryOutAlone
    rw [eg]
    refine nm_r rX (nm_r ea (nm_e ⟨vg, go_X hg (nm_r hw ?_)⟩))
    exact br_f (by decide) (br_f (by decide) (br_f (by decide) (br_f (by decide) (br_f (by decide) (br_f (by decide) (br_f (by decide) (br_f (by decide) (br_f (by decide) (br_f (by decide) (br_f (by decide) (br_f (by decide) (br_t (by decide) (⟨vr, by rw [er]; exact tX hp⟩)))))))))))))
  · intro post hp
    rw [hq] at hp
    unfold wpY_plain
    rw [eg]
    refine nm_r rY (nm_r ea (nm_e (nm_e (nm_r hw ?_))))
    exact br_f (by decide) (br_f (by decide) (br_f (by decide) (br_f (by decide) (br_f (by decide) (br_f (by decide) (br_f (by decide) (br_f (by decide) (br_f (by decide) (br_f (by decide) (br_f (by decide) (br_f (by decide) (br_t (by decide) (⟨vr, by rw [er]; exact tY (al_208 hg hn hp)⟩)))))))))))))
theorem al_14 {B g h : Nat} {sl2 w : Int32} (hB : B + 4 < 2 ^ 30) (hg : g < 3) (hw : w &&& 15 = nI 14) (hh : ps g &&& 63 = nI h) (hR : fr_RF B pi ua us yu nw) (hP : sm_PD pd) :
    sm_S (B + 4) tg sl sl2 kp (fun post => wpX_carryOutAlone post (us, tg, sl, st, rg, ps, tb, pd, sa, kp, pg, sp, it, pi, ua, lt) (nI g) w) (fun post => wpY_plain post (nw, tg, sl2, st, rg, ps, tb, pd, sa, kp, pg, sp, it, pi, yu, lt) (nI g) w (nI h)) := by
  obtain ⟨q, hq4, eq⟩ := bi_E3 (w >>> ((4 : Int32) &&& 31))
  obtain ⟨a, ha, ea⟩ := bi_E63 (w >>> ((6 : Int32) &&& 31))
  have rX : nI g * 4 + ((w >>> ((4 : Int32) &&& 31)) &&& 3) = nI (4 * g + q) := by rw [eq, ix_4]
  have rY : 4 * nI g + ((w >>> ((4 : Int32) &&& 31)) &&& 3) = nI (4 * g + q) := by rw [eq, iy_4]
  have eg : (nI g).toNatClampNeg = g := nI_clamp (by omega)
  have vg : vp_in (nI g) 5 := vp_in_nI (by omega) (by omega)
  have er : (nI (4 * g + q)).toNatClampNeg = 4 * g + q := nI_clamp (by omega)
  have vr : vp_in (nI (4 * g + q)) 20 := vp_in_nI (by omega) (by omega)
  have hq : (ps g + 1) &&& 63 = (nI h + 1) &&& 63 := by rw [bi_next, hh]
  have hn : ¬ (w &&& 15) = 10 := by rw [hw]; decide
  have hRF := fr_mono hR (show B ≤ B + 4 by omega)
  refine ⟨st, rg, upd ps g ((ps g &&& (-64)) ||| ((ps g + 1) &&& 63)), tb, pd, upd sa g 2, pg, sp, it, pi, ua, us, yu, nw, lt, hRF, hP, ?_, ?_⟩
  · intro post hp
    unfold wpX_carryOutAlone
    rw [eg]
    refine nm_r rX (nm_r ea (nm_e ⟨vg, go_X hg (nm_r hw ?_)⟩))
    exact br_f (by decide) (br_f (by decide) (br_f (by decide) (br_f (by decide) (br_f (by decide) (br_f (by decide) (br_f (by decide) (br_f (by decide) (br_f (by decide) (br_f (by decide) (br_f (by decide) (br_f (by decide) (br_f (by decide) (br_t (by decide) (⟨vg, nm_e hp⟩))))))))))))))
  · intro post hp
    rw [hq] at hp
    unfold wpY_plain
    rw [eg]
    refine nm_r rY (nm_r ea (nm_e (nm_e (nm_r hw ?_))))
    exact br_f (by decide) (br_f (by decide) (br_f (by decide) (br_f (by decide) (br_f (by decide) (br_f (by decide) (br_f (by decide) (br_f (by decide) (br_f (by decide) (br_f (by decide) (br_f (by decide) (br_f (by decide) (br_f (by decide) (br_t (by decide) (⟨vg, nm_e (al_208 hg hn hp)⟩))))))))))))))
theorem al_any {B g h o : Nat} {sl2 w : Int32} (hB : B + 4 < 2 ^ 30) (hg : g < 3) (ho : o = 3 ∨ o = 4 ∨ o = 5 ∨ o = 6 ∨ o = 7 ∨ o = 10 ∨ o = 12 ∨ o = 13 ∨ o = 14) (hw : w &&& 15 = nI o) (hh : ps g &&& 63 = nI h) (hR : fr_RF B pi ua us yu nw) (hP : sm_PD pd) :
    sm_S (B + 4) tg sl sl2 kp (fun post => wpX_carryOutAlone post (us, tg, sl, st, rg, ps, tb, pd, sa, kp, pg, sp, it, pi, ua, lt) (nI g) w) (fun post => wpY_plain post (nw, tg, sl2, st, rg, ps, tb, pd, sa, kp, pg, sp, it, pi, yu, lt) (nI g) w (nI h)) := by
  rcases ho with rfl | rfl | rfl | rfl | rfl | rfl | rfl | rfl | rfl
  · exact al_3 hB hg hw hh hR hP
  · exact al_4 hB hg hw hh hR hP
  · exact al_5 hB hg hw hh hR hP
  · exact al_6 hB hg hw hh hR hP
  · exact al_7 hB hg hw hh hR hP
  · exact al_10 hB hg hw hh hR hP
  · exact al_12 hB hg hw hh hR hP
  · exact al_13 hB hg hw hh hR hP
  · exact al_14 hB hg hw hh hR hP
end
