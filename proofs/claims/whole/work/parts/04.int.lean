section
variable {us nw : Int64} {tg sl : Int32} {st rg ps tb pd sa kp pg sp it pi : Nat → Int32} {ua yu lt : Nat → Int64}
/-! where an address leads -/
theorem wk_both {g a : Nat} (hg : g < 3) (ha : a < 64) (w x : Int32) (hx : x &&& 63 = nI a) (ps tb st : Nat → Int32) :
    ∃ r : Int32, (r = -4 ∨ r = -5 ∨ ∃ p, p < 64 ∧ r = nI p) ∧
      (∀ {us : Int64} {tg sl : Int32} {rg pd sa kp pg sp it pi : Nat → Int32} {ua lt : Nat → Int64} {post : Int32 → Prop}, post r → wpX_placeOf post (us, tg, sl, st, rg, ps, tb, pd, sa, kp, pg, sp, it, pi, ua, lt) (nI g) (nI a) w) ∧
      (∀ {nw : Int64} {tg sl : Int32} {rg pd sa kp pg sp it pi : Nat → Int32} {yu lt : Nat → Int64} {post : Int32 → Prop}, post r → wpY_walk post (nw, tg, sl, st, rg, ps, tb, pd, sa, kp, pg, sp, it, pi, yu, lt) (nI g) x w) := by
  have eg : (nI g).toNatClampNeg = g := nI_clamp (by omega)
  have vg : vp_in (nI g) 5 := vp_in_nI (by omega) (by omega)
  by_cases hM : ps g &&& 128 = 0
  · refine ⟨nI a, Or.inr (Or.inr ⟨a, ha, rfl⟩), ?_, ?_⟩
    · intro us tg sl rg pd sa kp pg sp it pi ua lt post hp
      exact ⟨vg, br_t (by rw [eg]; exact hM) hp⟩
    · intro nw tg sl rg pd sa kp pg sp it pi yu lt post hp
      exact nm_r hx ⟨vg, br_t (by rw [eg]; exact hM) hp⟩
  · obtain ⟨j, hj, ej⟩ := bi_E63 (tb g + nI a / 8)
    have iX : nI g * 64 + ((tb (nI g).toNatClampNeg + nI a / 8) &&& 63) = nI (64 * g + j) := by rw [eg, ej, ix_64]
    have iY : 64 * nI g + ((tb (nI g).toNatClampNeg + nI a / 8) &&& 63) = nI (64 * g + j) := by rw [eg, ej, iy_64]
    have vX : vp_in (nI g * 64 + ((tb (nI g).toNatClampNeg + nI a / 8) &&& 63)) 320 := by rw [iX]; exact vp_in_nI (by omega) (by omega)
    have vY : vp_in (64 * nI g + ((tb (nI g).toNatClampNeg + nI a / 8) &&& 63)) 320 := by rw [iY]; exact vp_in_nI (by omega) (by omega)
    have cX : st (nI g * 64 + ((tb (nI g).toNatClampNeg + nI a / 8) &&& 63)).toNatClampNeg = st (64 * g + j) := by rw [iX, nI_clamp (by omega)]
    have cY : st (64 * nI g + ((tb (nI g).toNatClampNeg + nI a / 8) &&& 63)).toNatClampNeg = st (64 * g + j) := by rw [iY, nI_clamp (by omega)]
    have hM' : ¬ (ps (nI g).toNatClampNeg &&& 128) = 0 := by rw [eg]; exact hM
    have h8 : ¬ (8 : Int32) = 0 := by decide
    obtain ⟨q, hq, eq⟩ := bi_E7 (st (64 * g + j) >>> ((2 : Int32) &&& 31))
    have oX : ((st (64 * g + j) >>> ((2 : Int32) &&& 31)) &&& 7) * 8 + (nI a - nI a / 8 * 8) = nI (8 * q + a % 8) := by rw [eq, ix_pl ha]
    have oY : 8 * ((st (64 * g + j) >>> ((2 : Int32) &&& 31)) &&& 7) + (nI a - nI a / 8 * 8) = nI (8 * q + a % 8) := by rw [eq, iy_pl ha]
    by_cases h1 : st (64 * g + j) &&& 1 = 0
    · refine ⟨-4, Or.inl rfl, ?_, ?_⟩
      · intro us tg sl rg pd sa kp pg sp it pi ua lt post hp
        exact ⟨vg, br_f hM' ⟨vg, h8, vX, nm_r cX (br_t h1 hp)⟩⟩
      · intro nw tg sl rg pd sa kp pg sp it pi yu lt post hp
        exact nm_r hx ⟨vg, br_f hM' ⟨vg, h8, vY, nm_r cY (br_t h1 hp)⟩⟩
    · by_cases hw : w = 0
      · refine ⟨nI (8 * q + a % 8), Or.inr (Or.inr ⟨_, by omega, rfl⟩), ?_, ?_⟩
        · intro us tg sl rg pd sa kp pg sp it pi ua lt post hp
          exact ⟨vg, br_f hM' ⟨vg, h8, vX, nm_r cX (br_f h1 (br_t hw ⟨h8, by rw [oX]; exact hp⟩))⟩⟩
        · intro nw tg sl rg pd sa kp pg sp it pi yu lt post hp
          exact nm_r hx ⟨vg, br_f hM' ⟨vg, h8, vY, nm_r cY (br_f h1 (br_t hw ⟨h8, by rw [oY]; exact hp⟩))⟩⟩
      · by_cases h2 : st (64 * g + j) &&& 2 = 0
        · refine ⟨nI (8 * q + a % 8), Or.inr (Or.inr ⟨_, by omega, rfl⟩), ?_, ?_⟩
          · intro us tg sl rg pd sa kp pg sp it pi ua lt post hp
            exact ⟨vg, br_f hM' ⟨vg, h8, vX, nm_r cX (br_f h1 (br_f hw (br_t h2 ⟨h8, by rw [oX]; exact hp⟩)))⟩⟩
          · intro nw tg sl rg pd sa kp pg sp it pi yu lt post hp
            exact nm_r hx ⟨vg, br_f hM' ⟨vg, h8, vY, nm_r cY (br_f h1 (br_f hw (br_t h2 ⟨h8, by rw [oY]; exact hp⟩)))⟩⟩
        · refine ⟨-5, Or.inr (Or.inl rfl), ?_, ?_⟩
          · intro us tg sl rg pd sa kp pg sp it pi ua lt post hp
            exact ⟨vg, br_f hM' ⟨vg, h8, vX, nm_r cX (br_f h1 (br_f hw (br_f h2 hp)))⟩⟩
          · intro nw tg sl rg pd sa kp pg sp it pi yu lt post hp
            exact nm_r hx ⟨vg, br_f hM' ⟨vg, h8, vY, nm_r cY (br_f h1 (br_f hw (br_f h2 hp)))⟩⟩
/-! get and put -/
theorem gp_get {g a : Nat} (hg : g < 3) (ha : a < 64) {u : SY} {post : Int32 → SY → Prop}
    (hY : ∀ {q : SY → Prop}, q (nw, tg, sl, st, rg, ps, tb, pd, sa, kp, pg, sp, it, pi, yu, lt) → wpY_use q u (nI g) (nI a)) (h : post (st (64 * g + a)) (nw, tg, sl, st, rg, ps, tb, pd, sa, kp, pg, sp, it, pi, yu, lt)) : wpY_get post u (nI g) (nI a) := by
  have e : 64 * nI g + nI a = nI (64 * g + a) := iy_64 g a
  unfold wpY_get
  refine hY ?_
  refine ⟨by rw [e]; exact vp_in_nI (by omega) (by omega), ?_⟩
  rw [e, nI_clamp (by omega)]
  exact h
theorem gp_put {g a : Nat} (hg : g < 3) (ha : a < 64) {u : SY} {w : Int32} {post : SY → Prop}
    (hY : ∀ {q : SY → Prop}, q (nw, tg, sl, st, rg, ps, tb, pd, sa, kp, pg, sp, it, pi, yu, lt) → wpY_use q u (nI g) (nI a)) (h : post (nw, tg, sl, upd st (64 * g + a) w, rg, ps, tb, pd, sa, kp, pg, sp, it, pi, yu, lt)) : wpY_put post u (nI g) (nI a) w := by
  have e : 64 * nI g + nI a = nI (64 * g + a) := iy_64 g a
  unfold wpY_put
  refine hY ?_
  exact ⟨by rw [e]; exact vp_in_nI (by omega) (by omega), nm_r (by rw [e, nI_clamp (by omega)]) h⟩
/-! an interrupt -/
theorem it_both {B g i : Nat} (hB : B + 4 < 2 ^ 30) (hg : g < 3) (hi : i < 3) (code addr : Int32) {pi pg : Nat → Int32} {us nw : Int64} {ua yu : Nat → Int64} (h : fr_RF B pi ua us yu nw) (st ps sa it : Nat → Int32) :
    ∃ (st' ps' sa' it' pg' pi' : Nat → Int32) (ua' : Nat → Int64) (us' : Int64) (yu' : Nat → Int64) (nw' : Int64), fr_RF (B + 4) pi' ua' us' yu' nw' ∧
      (∀ {tg sl : Int32} {rg tb pd kp sp : Nat → Int32} {lt : Nat → Int64} {post : SX → Prop}, post (us', tg, sl, st', rg, ps', tb, pd, sa', kp, pg', sp, it', pi', ua', lt) → wpX_interrupt post (us, tg, sl, st, rg, ps, tb, pd, sa, kp, pg, sp, it, pi, ua, lt) (nI g) (nI i) code addr) ∧
      (∀ {tg sl : Int32} {rg tb pd kp sp : Nat → Int32} {lt : Nat → Int64} {post : SY → Prop}, post (nw', tg, sl, st', rg, ps', tb, pd, sa', kp, pg', sp, it', pi', yu', lt) → wpY_interrupt post (nw, tg, sl, st, rg, ps, tb, pd, sa, kp, pg, sp, it, pi, yu, lt) (nI g) (nI i) code addr) := by
  obtain ⟨b, pg', hT, ho, hX, hY⟩ := us_use (B := B) (g := g) (a := 4 * i) (by omega) hg (by omega) (pg := pg) h
  have hd1 : (4 * i + 1) / 8 = 4 * i / 8 := by omega
  have hd2 : (4 * i + 2) / 8 = 4 * i / 8 := by omega
  have hd3 : (4 * i + 3) / 8 = 4 * i / 8 := by omega
  have hT1 := fr_again hT
  have hT2 := fr_again hT1
  have hT3 := fr_again hT2
  have hpb : upd pi b (nI (8 * g + 4 * i / 8)) b = nI (8 * g + 4 * i / 8) := pk_us
  have eg : (nI g).toNatClampNeg = g := nI_clamp (by omega)
  have vg : vp_in (nI g) 5 := vp_in_nI (by omega) (by omega)
  have vg3 : vp_in (nI g) 3 := vp_in_nI (by omega) (by omega)
  refine ⟨upd (upd (upd st (64 * g + 4 * i) (ps g)) (64 * g + (4 * i + 1)) code) (64 * g + (4 * i + 2)) addr, upd ps g ((upd (upd (upd st (64 * g + 4 * i) (ps g)) (64 * g + (4 * i + 1)) code) (64 * g + (4 * i + 2)) addr) (64 * g + (4 * i + 3)) &&& 511), upd sa g 1, upd it g (it g + 1), pg', _, _, _, _, _, fr_T_RF hT3, ?_, ?_⟩
  · intro tg sl rg tb pd kp sp lt post hp
    have e1 : nI (64 * g + 4 * i) + 1 = nI (64 * g + (4 * i + 1)) := nI_1 _
    have e2 : nI (64 * g + 4 * i) + 2 = nI (64 * g + (4 * i + 2)) := nI_add _ 2
    have e3 : nI (64 * g + 4 * i) + 3 = nI (64 * g + (4 * i + 3)) := nI_add _ 3
    have c0 : (nI (64 * g + 4 * i)).toNatClampNeg = 64 * g + 4 * i := nI_clamp (by omega)
    have c1 : (nI (64 * g + 4 * i) + 1).toNatClampNeg = 64 * g + (4 * i + 1) := by rw [e1, nI_clamp (by omega)]
    have c2 : (nI (64 * g + 4 * i) + 2).toNatClampNeg = 64 * g + (4 * i + 2) := by rw [e2, nI_clamp (by omega)]
    have c3 : (nI (64 * g + 4 * i) + 3).toNatClampNeg = 64 * g + (4 * i + 3) := by rw [e3, nI_clamp (by omega)]
    have v0 : vp_in (nI (64 * g + 4 * i)) 320 := vp_in_nI (by omega) (by omega)
    have v1 : vp_in (nI (64 * g + 4 * i) + 1) 320 := by rw [e1]; exact vp_in_nI (by omega) (by omega)
    have v2 : vp_in (nI (64 * g + 4 * i) + 2) 320 := by rw [e2]; exact vp_in_nI (by omega) (by omega)
    have v3 : vp_in (nI (64 * g + 4 * i) + 3) 320 := by rw [e3]; exact vp_in_nI (by omega) (by omega)
    unfold wpX_interrupt
    refine nm_r (iy_4' i) (nm_r (ix_64 g (4 * i)) (hX ?_))
    refine ⟨vg, v0, nm_r (by rw [c0, eg]) ⟨v1, nm_r (by rw [c1]) ⟨v2, nm_r (by rw [c2]) ⟨v3, vg, nm_r (by rw [c3, eg]) ⟨vg, nm_r (by rw [eg]) ⟨vg3, vg3, nm_r (by rw [eg]) hp⟩⟩⟩⟩⟩⟩
  · intro tg sl rg tb pd kp sp lt post hp
    have e0 : 4 * nI i = nI (4 * i) := iy_4' i
    have e1 : nI (4 * i) + 1 = nI (4 * i + 1) := nI_1 _
    have e2 : nI (4 * i) + 2 = nI (4 * i + 2) := nI_add _ 2
    have e3 : nI (4 * i) + 3 = nI (4 * i + 3) := nI_add _ 3
    unfold wpY_interrupt
    rw [e0, e1, e2, e3, eg]
    refine ⟨vg, gp_put hg (by omega) hY ?_⟩
    refine gp_put hg (by omega) (us_again (by omega) hg (by omega) hT (by rw [hd1]; exact hpb) (by rw [hd1]; exact ho)) ?_
    refine gp_put hg (by omega) (us_again (by omega) hg (by omega) hT1 (by rw [hd2]; exact hpb) (by rw [hd2]; exact ho)) ?_
    refine gp_get hg (by omega) (us_again (by omega) hg (by omega) hT2 (by rw [hd3]; exact hpb) (by rw [hd3]; exact ho)) ?_
    exact ⟨vg, nm_e ⟨vg, nm_e ⟨vg3, vg3, nm_e hp⟩⟩⟩
end
