section
variable {us nw : Int64} {tg sl : Int32} {st rg ps tb pd sa kp pg sp it pi : Nat → Int32} {ua yu lt : Nat → Int64}
/-! copy an image -/
theorem cp_64 {f t : Nat} (hf : f < 5) (ht : t < 5) : ∀ (d a : Nat) (st : Nat → Int32), a + d = 64 → ∃ st' : Nat → Int32,
    (∀ {us : Int64} {tg sl : Int32} {rg ps tb pd sa kp pg sp it pi : Nat → Int32} {ua lt : Nat → Int64} {post : SX → Prop}, (∃ n38 : Nat, wX_copyImage_38 post (nI f) (nI t) us tg sl n38 0 st' rg ps tb pd sa kp pg sp it pi ua lt) → wX_copyImage_2 post (nI f) (nI t) us tg sl (d + 1) (nI a) st rg ps tb pd sa kp pg sp it pi ua lt) ∧
    (∀ {nw : Int64} {tg sl : Int32} {rg ps tb pd sa kp pg sp it pi : Nat → Int32} {yu lt : Nat → Int64} {post : SY → Prop}, (∃ n38 : Nat, wY_become_38 post (nI f) (nI t) nw tg sl n38 0 st' rg ps tb pd sa kp pg sp it pi yu lt) → wY_become_2 post (nI f) (nI t) nw tg sl (d + 1) (nI a) st rg ps tb pd sa kp pg sp it pi yu lt) := by
  intro d
  induction d with
  | zero =>
    intro a st h
    have e : a = 64 := by omega
    subst e
    refine ⟨st, ?_, ?_⟩
    · intro us tg sl rg ps tb pd sa kp pg sp it pi ua lt post hp
      exact br_t (by decide) hp
    · intro nw tg sl rg ps tb pd sa kp pg sp it pi yu lt post hp
      exact br_t (by decide) hp
  | succ d ih =>
    intro a st h
    obtain ⟨st', hX, hY⟩ := ih (a + 1) (upd st (64 * t + a) (st (64 * f + a))) (by omega)
    have h6 : ¬ (64 : Int32) ≤ nI a := nI_ge (b := 64) (by omega) (by omega)
    have e1 : nI f * 64 + nI a = nI (64 * f + a) := ix_64 f a
    have e2 : nI t * 64 + nI a = nI (64 * t + a) := ix_64 t a
    have e3 : 64 * nI f + nI a = nI (64 * f + a) := iy_64 f a
    have e4 : 64 * nI t + nI a = nI (64 * t + a) := iy_64 t a
    have c1 : (nI (64 * f + a)).toNatClampNeg = 64 * f + a := nI_clamp (by omega)
    have c2 : (nI (64 * t + a)).toNatClampNeg = 64 * t + a := nI_clamp (by omega)
    have v1 : vp_in (nI (64 * f + a)) 320 := vp_in_nI (by omega) (by omega)
    have v2 : vp_in (nI (64 * t + a)) 320 := vp_in_nI (by omega) (by omega)
    refine ⟨st', ?_, ?_⟩
    · intro us tg sl rg ps tb pd sa kp pg sp it pi ua lt post hp
      exact br_f h6 ⟨by rw [e1]; exact v1, by rw [e2]; exact v2, nm_r (by rw [e1, e2, c1, c2]) (nm_r (nI_1 a) (hX hp))⟩
    · intro nw tg sl rg ps tb pd sa kp pg sp it pi yu lt post hp
      exact br_f h6 ⟨by rw [e3]; exact v1, by rw [e4]; exact v2, nm_r (by rw [e3, e4, c1, c2]) (nm_r (nI_1 a) (hY hp))⟩
theorem cp_4 {f t : Nat} (hf : f < 5) (ht : t < 5) : ∀ (d a : Nat) (rg : Nat → Int32), a + d = 4 → ∃ rg' : Nat → Int32,
    (∀ {us : Int64} {tg sl : Int32} {st ps tb pd sa kp pg sp it pi : Nat → Int32} {ua lt : Nat → Int64} {post : SX → Prop}, post (us, tg, sl, st, rg', upd ps t (ps f), upd tb t (tb f), upd pd t (pd f), upd sa t (sa f), kp, pg, sp, it, pi, ua, lt) → wX_copyImage_38 post (nI f) (nI t) us tg sl (d + 1) (nI a) st rg ps tb pd sa kp pg sp it pi ua lt) ∧
    (∀ {nw : Int64} {tg sl : Int32} {st ps tb pd sa kp pg sp it pi : Nat → Int32} {yu lt : Nat → Int64} {post : SY → Prop}, post (nw, tg, sl, st, rg', upd ps t (ps f), upd tb t (tb f), upd pd t (pd f), upd sa t (sa f), kp, pg, sp, it, pi, yu, lt) → wY_become_38 post (nI f) (nI t) nw tg sl (d + 1) (nI a) st rg ps tb pd sa kp pg sp it pi yu lt) := by
  have ef : (nI f).toNatClampNeg = f := nI_clamp (by omega)
  have et : (nI t).toNatClampNeg = t := nI_clamp (by omega)
  have vf : vp_in (nI f) 5 := vp_in_nI (by omega) (by omega)
  have vt : vp_in (nI t) 5 := vp_in_nI (by omega) (by omega)
  intro d
  induction d with
  | zero =>
    intro a rg h
    have e : a = 4 := by omega
    subst e
    refine ⟨rg, ?_, ?_⟩
    · intro us tg sl st ps tb pd sa kp pg sp it pi ua lt post hp
      exact br_t (by decide) ⟨vf, vt, nm_r (by rw [ef, et]) ⟨vf, vt, nm_r (by rw [ef, et]) ⟨vf, vt, nm_r (by rw [ef, et]) ⟨vf, vt, nm_r (by rw [ef, et]) hp⟩⟩⟩⟩
    · intro nw tg sl st ps tb pd sa kp pg sp it pi yu lt post hp
      exact br_t (by decide) ⟨vf, vt, nm_r (by rw [ef, et]) ⟨vf, vt, nm_r (by rw [ef, et]) ⟨vf, vt, nm_r (by rw [ef, et]) ⟨vf, vt, nm_r (by rw [ef, et]) hp⟩⟩⟩⟩
  | succ d ih =>
    intro a rg h
    obtain ⟨rg', hX, hY⟩ := ih (a + 1) (upd rg (4 * t + a) (rg (4 * f + a))) (by omega)
    have h6 : ¬ (4 : Int32) ≤ nI a := nI_ge (b := 4) (by omega) (by omega)
    have e1 : nI f * 4 + nI a = nI (4 * f + a) := ix_4 f a
    have e2 : nI t * 4 + nI a = nI (4 * t + a) := ix_4 t a
    have e3 : 4 * nI f + nI a = nI (4 * f + a) := iy_4 f a
    have e4 : 4 * nI t + nI a = nI (4 * t + a) := iy_4 t a
    have c1 : (nI (4 * f + a)).toNatClampNeg = 4 * f + a := nI_clamp (by omega)
    have c2 : (nI (4 * t + a)).toNatClampNeg = 4 * t + a := nI_clamp (by omega)
    have v1 : vp_in (nI (4 * f + a)) 20 := vp_in_nI (by omega) (by omega)
    have v2 : vp_in (nI (4 * t + a)) 20 := vp_in_nI (by omega) (by omega)
    refine ⟨rg', ?_, ?_⟩
    · intro us tg sl st ps tb pd sa kp pg sp it pi ua lt post hp
      exact br_f h6 ⟨by rw [e1]; exact v1, by rw [e2]; exact v2, nm_r (by rw [e1, e2, c1, c2]) (nm_r (nI_1 a) (hX hp))⟩
    · intro nw tg sl st ps tb pd sa kp pg sp it pi yu lt post hp
      exact br_f h6 ⟨by rw [e3]; exact v1, by rw [e4]; exact v2, nm_r (by rw [e3, e4, c1, c2]) (nm_r (nI_1 a) (hY hp))⟩
theorem cp_both {f t : Nat} (hf : f < 5) (ht : t < 5) (st rg : Nat → Int32) : ∃ st' rg' : Nat → Int32,
    (∀ {us : Int64} {tg sl : Int32} {ps tb pd sa kp pg sp it pi : Nat → Int32} {ua lt : Nat → Int64} {post : SX → Prop}, post (us, tg, sl, st', rg', upd ps t (ps f), upd tb t (tb f), upd pd t (pd f), upd sa t (sa f), kp, pg, sp, it, pi, ua, lt) → wpX_copyImage post (us, tg, sl, st, rg, ps, tb, pd, sa, kp, pg, sp, it, pi, ua, lt) (nI f) (nI t)) ∧
    (∀ {nw : Int64} {tg sl : Int32} {ps tb pd sa kp pg sp it pi : Nat → Int32} {yu lt : Nat → Int64} {post : SY → Prop}, post (nw, tg, sl, st', rg', upd ps t (ps f), upd tb t (tb f), upd pd t (pd f), upd sa t (sa f), kp, pg, sp, it, pi, yu, lt) → wpY_become post (nw, tg, sl, st, rg, ps, tb, pd, sa, kp, pg, sp, it, pi, yu, lt) (nI f) (nI t)) := by
  obtain ⟨st', hX, hY⟩ := cp_64 hf ht 64 0 st (by omega)
  obtain ⟨rg', kX, kY⟩ := cp_4 hf ht 4 0 rg (by omega)
  refine ⟨st', rg', ?_, ?_⟩
  · intro us tg sl ps tb pd sa kp pg sp it pi ua lt post hp
    exact ⟨65, hX ⟨5, kX hp⟩⟩
  · intro nw tg sl ps tb pd sa kp pg sp it pi yu lt post hp
    exact ⟨65, hY ⟨5, kY hp⟩⟩
theorem cp_PD {f t : Nat} (hf : f < 5) (hP : sm_PD pd) : sm_PD (upd pd t (pd f)) := by
  intro i hi
  by_cases e : i = t
  · rw [e, pk_us]; exact hP f hf
  · rw [pk_un e]; exact hP i hi
theorem cl_X {g : Nat} (hg : g < 3) {post : SX → Prop} (h : post (us, tg, sl, st, rg, ps, tb, pd, sa, kp, upd pg g 0, upd sp g 0, upd it g 0, pi, ua, lt)) : wpX_clearCounts post (us, tg, sl, st, rg, ps, tb, pd, sa, kp, pg, sp, it, pi, ua, lt) (nI g) := by
  have eg : (nI g).toNatClampNeg = g := nI_clamp (by omega)
  have vg : vp_in (nI g) 3 := vp_in_nI (by omega) (by omega)
  exact ⟨vg, nm_r (by rw [eg]) ⟨vg, nm_r (by rw [eg]) ⟨vg, nm_r (by rw [eg]) h⟩⟩⟩
theorem cl_Y {g : Nat} (hg : g < 3) {post : SY → Prop} (h : post (nw, tg, sl, st, rg, ps, tb, pd, sa, kp, upd pg g 0, upd sp g 0, upd it g 0, pi, yu, lt)) : wpY_forget post (nw, tg, sl, st, rg, ps, tb, pd, sa, kp, pg, sp, it, pi, yu, lt) (nI g) := by
  have eg : (nI g).toNatClampNeg = g := nI_clamp (by omega)
  have vg : vp_in (nI g) 3 := vp_in_nI (by omega) (by omega)
  exact ⟨vg, nm_r (by rw [eg]) ⟨vg, nm_r (by rw [eg]) ⟨vg, nm_r (by rw [eg]) h⟩⟩⟩
theorem ff_loop {B g : Nat} {us nw : Int64} {yu : Nat → Int64} : ∀ (d i : Nat) (pi : Nat → Int32) (ua : Nat → Int64), i + d = 6 → fr_RF B pi ua us yu nw → ∃ (pi' : Nat → Int32) (ua' : Nat → Int64), fr_RF B pi' ua' us yu nw ∧
    (∀ {tg sl : Int32} {st rg ps tb pd sa kp pg sp it : Nat → Int32} {lt : Nat → Int64} {post : SX → Prop}, post (us, tg, sl, st, rg, ps, tb, pd, sa, kp, pg, sp, it, pi', ua', lt) → wX_freeFrames_2 post (nI g) us tg sl (d + 1) (nI i) st rg ps tb pd sa kp pg sp it pi ua lt) ∧
    (∀ {tg sl : Int32} {st rg ps tb pd sa kp pg sp it : Nat → Int32} {lt : Nat → Int64} {post : SY → Prop}, post (nw, tg, sl, st, rg, ps, tb, pd, sa, kp, pg, sp, it, pi', yu, lt) → wY_clearFrames_2 post (nI g) nw tg sl (d + 1) (nI i) st rg ps tb pd sa kp pg sp it pi yu lt) := by
  intro d
  induction d with
  | zero =>
    intro i pi ua h hR
    have e : i = 6 := by omega
    subst e
    refine ⟨pi, ua, hR, ?_, ?_⟩
    · intro tg sl st rg ps tb pd sa kp pg sp it lt post hp
      exact br_t (by decide) hp
    · intro tg sl st rg ps tb pd sa kp pg sp it lt post hp
      exact br_t (by decide) hp
  | succ d ih =>
    intro i pi ua h hR
    have h6 : ¬ (6 : Int32) ≤ nI i := nI_ge (b := 6) (by omega) (by omega)
    have ei : (nI i).toNatClampNeg = i := nI_clamp (by omega)
    have vi : vp_in (nI i) 6 := vp_in_nI (by omega) (by omega)
    have hv : pi i = -1 ∨ ∃ p, p < 24 ∧ pi i = nI p := by
      obtain ⟨U, V, n, m, h1, h2, h3, h4, h5, h6, h7⟩ := hR
      exact (h6 i (by omega)).elim (fun z => Or.inl z.1) (fun ⟨p, hp, e, _⟩ => Or.inr ⟨p, hp, e⟩)
    rcases hv with hv | ⟨p, hp24, hv⟩
    · obtain ⟨pi', ua', hR', hX, hY⟩ := ih (i + 1) pi ua (by omega) hR
      refine ⟨pi', ua', hR', ?_, ?_⟩
      · intro tg sl st rg ps tb pd sa kp pg sp it lt post hp
        exact br_f h6 ⟨vi, br_t (by rw [ei]; exact hv) (nm_r (nI_1 i) (hX hp))⟩
      · intro tg sl st rg ps tb pd sa kp pg sp it lt post hp
        exact br_f h6 ⟨vi, br_t (by rw [ei, hv]; decide) (nm_r (nI_1 i) (hY hp))⟩
    · have n1 : ¬ pi (nI i).toNatClampNeg = -1 := by rw [ei, hv]; exact fr_nm1 hp24
      have n2 : ¬ pi (nI i).toNatClampNeg < 0 := by rw [ei, hv]; exact nI_pos (by omega)
      by_cases hd : pi i / 8 = nI g
      · obtain ⟨pi', ua', hR', hX, hY⟩ := ih (i + 1) (upd pi i (-1)) (vp_updL ua i 0) (by omega) (fr_free hR)
        refine ⟨pi', ua', hR', ?_, ?_⟩
        · intro tg sl st rg ps tb pd sa kp pg sp it lt post hp
          exact br_f h6 ⟨vi, br_f n1 ⟨vi, by decide, br_t (by rw [ei]; exact hd) ⟨vi, nm_r (by rw [ei]) ⟨vi, nm_r (by rw [ei]) (nm_r (nI_1 i) (hX hp))⟩⟩⟩⟩
        · intro tg sl st rg ps tb pd sa kp pg sp it lt post hp
          exact br_f h6 ⟨vi, br_f n2 ⟨vi, by decide, br_t (by rw [ei]; exact hd) ⟨vi, nm_r (by rw [ei]) (nm_r (nI_1 i) (hY hp))⟩⟩⟩
      · obtain ⟨pi', ua', hR', hX, hY⟩ := ih (i + 1) pi ua (by omega) hR
        refine ⟨pi', ua', hR', ?_, ?_⟩
        · intro tg sl st rg ps tb pd sa kp pg sp it lt post hp
          exact br_f h6 ⟨vi, br_f n1 ⟨vi, by decide, br_f (by rw [ei]; exact hd) (nm_r (nI_1 i) (hX hp))⟩⟩
        · intro tg sl st rg ps tb pd sa kp pg sp it lt post hp
          exact br_f h6 ⟨vi, br_f n2 ⟨vi, by decide, br_f (by rw [ei]; exact hd) (nm_r (nI_1 i) (hY hp))⟩⟩
theorem ff_both {B g : Nat} {us nw : Int64} {pi : Nat → Int32} {ua yu : Nat → Int64} (hR : fr_RF B pi ua us yu nw) : ∃ (pi' : Nat → Int32) (ua' : Nat → Int64), fr_RF B pi' ua' us yu nw ∧
    (∀ {tg sl : Int32} {st rg ps tb pd sa kp pg sp it : Nat → Int32} {lt : Nat → Int64} {post : SX → Prop}, post (us, tg, sl, st, rg, ps, tb, pd, sa, kp, pg, sp, it, pi', ua', lt) → wpX_freeFrames post (us, tg, sl, st, rg, ps, tb, pd, sa, kp, pg, sp, it, pi, ua, lt) (nI g)) ∧
    (∀ {tg sl : Int32} {st rg ps tb pd sa kp pg sp it : Nat → Int32} {lt : Nat → Int64} {post : SY → Prop}, post (nw, tg, sl, st, rg, ps, tb, pd, sa, kp, pg, sp, it, pi', yu, lt) → wpY_clearFrames post (nw, tg, sl, st, rg, ps, tb, pd, sa, kp, pg, sp, it, pi, yu, lt) (nI g)) := by
  obtain ⟨pi', ua', hR', hX, hY⟩ := ff_loop (g := g) 6 0 pi ua (by omega) hR
  refine ⟨pi', ua', hR', ?_, ?_⟩
  · intro tg sl st rg ps tb pd sa kp pg sp it lt post hp
    exact ⟨7, hX hp⟩
  · intro tg sl st rg ps tb pd sa kp pg sp it lt post hp
    exact ⟨7, hY hp⟩
theorem sa_loop {g : Nat} (hg : g < 3) : ∀ (d a : Nat) (rg : Nat → Int32), a + d = 4 → ∃ rg' : Nat → Int32,
    (∀ {us : Int64} {tg sl : Int32} {st ps tb pd sa kp pg sp it pi : Nat → Int32} {ua lt : Nat → Int64} {post : Int32 → SX → Prop}, post 1 (us, tg, sl, st, rg', ps, upd tb g 0, upd pd g (-1), upd sa g 1, kp, upd pg g 0, upd sp g 0, upd it g 0, pi, ua, lt) → wX_start_22 post (nI g) us tg sl (d + 1) (nI a) st rg ps tb pd sa kp pg sp it pi ua lt) ∧
    (∀ {nw : Int64} {tg sl : Int32} {st ps tb pd sa kp pg sp it pi : Nat → Int32} {yu lt : Nat → Int64} {post : Int32 → SY → Prop}, post 1 (nw, tg, sl, st, rg', ps, upd tb g 0, upd pd g (-1), upd sa g 1, kp, upd pg g 0, upd sp g 0, upd it g 0, pi, yu, lt) → wY_start_23 post (nI g) nw tg sl (d + 1) (nI a) st rg ps tb pd sa kp pg sp it pi yu lt) := by
  have eg : (nI g).toNatClampNeg = g := nI_clamp (by omega)
  have vg : vp_in (nI g) 5 := vp_in_nI (by omega) (by omega)
  intro d
  induction d with
  | zero =>
    intro a rg h
    have e : a = 4 := by omega
    subst e
    refine ⟨rg, ?_, ?_⟩
    · intro us tg sl st ps tb pd sa kp pg sp it pi ua lt post hp
      exact br_t (by decide) ⟨vg, nm_r (by rw [eg]) ⟨vg, nm_r (by rw [eg]) ⟨vg, nm_r (by rw [eg]) (cl_X hg hp)⟩⟩⟩
    · intro nw tg sl st ps tb pd sa kp pg sp it pi yu lt post hp
      exact br_t (by decide) ⟨vg, nm_r (by rw [eg]) ⟨vg, nm_r (by rw [eg]) ⟨vg, nm_r (by rw [eg]) (cl_Y hg hp)⟩⟩⟩
  | succ d ih =>
    intro a rg h
    obtain ⟨rg', hX, hY⟩ := ih (a + 1) (upd rg (4 * g + a) 0) (by omega)
    have h6 : ¬ (4 : Int32) ≤ nI a := nI_ge (b := 4) (by omega) (by omega)
    have e1 : nI g * 4 + nI a = nI (4 * g + a) := ix_4 g a
    have e3 : 4 * nI g + nI a = nI (4 * g + a) := iy_4 g a
    have c1 : (nI (4 * g + a)).toNatClampNeg = 4 * g + a := nI_clamp (by omega)
    have v1 : vp_in (nI (4 * g + a)) 20 := vp_in_nI (by omega) (by omega)
    refine ⟨rg', ?_, ?_⟩
    · intro us tg sl st ps tb pd sa kp pg sp it pi ua lt post hp
      exact br_f h6 ⟨by rw [e1]; exact v1, nm_r (by rw [e1, c1]) (nm_r (nI_1 a) (hX hp))⟩
    · intro nw tg sl st ps tb pd sa kp pg sp it pi yu lt post hp
      exact br_f h6 ⟨by rw [e3]; exact v1, nm_r (by rw [e3, c1]) (nm_r (nI_1 a) (hY hp))⟩
/-! the constructors -/
theorem in_lt : ∀ (d i : Nat) (lt : Nat → Int64), i + d = 8 → (∀ j, j < i → lt j = -1) → ∃ lt' : Nat → Int64, (∀ j, j < 8 → lt' j = -1) ∧
    (∀ {us : Int64} {tg sl : Int32} {st rg ps tb pd sa kp pg sp it pi : Nat → Int32} {ua : Nat → Int64} {post : SX → Prop}, post (us, tg, sl, st, rg, ps, tb, pd, sa, kp, pg, sp, it, pi, ua, lt') → wX_init_159 post us tg sl (d + 1) (nI i) st rg ps tb pd sa kp pg sp it pi ua lt) ∧
    (∀ {nw : Int64} {tg sl : Int32} {st rg ps tb pd sa kp pg sp it pi : Nat → Int32} {yu : Nat → Int64} {post : SY → Prop}, post (nw, tg, sl, st, rg, ps, tb, pd, sa, kp, pg, sp, it, pi, yu, lt') → wY_init_149 post nw tg sl (d + 1) (nI i) st rg ps tb pd sa kp pg sp it pi yu lt) := by
  intro d
  induction d with
  | zero =>
    intro i lt h hA
    have e : i = 8 := by omega
    subst e
    refine ⟨lt, hA, ?_, ?_⟩
    · intro us tg sl st rg ps tb pd sa kp pg sp it pi ua post hp
      exact br_t (by decide) hp
    · intro nw tg sl st rg ps tb pd sa kp pg sp it pi yu post hp
      exact br_t (by decide) hp
  | succ d ih =>
    intro i lt h hA
    have h6 : ¬ (8 : Int32) ≤ nI i := nI_ge (b := 8) (by omega) (by omega)
    have ei : (nI i).toNatClampNeg = i := nI_clamp (by omega)
    have vi : vp_in (nI i) 8 := vp_in_nI (by omega) (by omega)
    obtain ⟨lt', hA', hX, hY⟩ := ih (i + 1) (vp_updL lt i (-1)) (by omega) (fun j hj => by
      by_cases e : j = i
      · rw [e, pk_uLs]
      · rw [pk_uLn e]; exact hA j (by omega))
    refine ⟨lt', hA', ?_, ?_⟩
    · intro us tg sl st rg ps tb pd sa kp pg sp it pi ua post hp
      exact br_f h6 ⟨vi, nm_r (by rw [ei]) (nm_r (nI_1 i) (hX hp))⟩
    · intro nw tg sl st rg ps tb pd sa kp pg sp it pi yu post hp
      exact br_f h6 ⟨vi, nm_r (by rw [ei]) (nm_r (nI_1 i) (hY hp))⟩
theorem in_pi : ∀ (d i : Nat) (pi : Nat → Int32), i + d = 6 → (∀ j, j < i → pi j = -1) → ∃ pi' : Nat → Int32, (∀ j, j < 6 → pi' j = -1) ∧
    (∀ {us : Int64} {tg sl : Int32} {st rg ps tb pd sa kp pg sp it : Nat → Int32} {ua lt : Nat → Int64} {post : SX → Prop}, (∃ n159 : Nat, wX_init_159 post us tg sl n159 0 st rg ps tb pd sa kp pg sp it pi' ua lt) → wX_init_138 post us tg sl (d + 1) (nI i) st rg ps tb pd sa kp pg sp it pi ua lt) ∧
    (∀ {nw : Int64} {tg sl : Int32} {st rg ps tb pd sa kp pg sp it : Nat → Int32} {yu lt : Nat → Int64} {post : SY → Prop}, (∃ n149 : Nat, wY_init_149 post nw tg sl n149 0 st rg ps tb pd sa kp pg sp it pi' yu lt) → wY_init_128 post nw tg sl (d + 1) (nI i) st rg ps tb pd sa kp pg sp it pi yu lt) := by
  intro d
  induction d with
  | zero =>
    intro i pi h hA
    have e : i = 6 := by omega
    subst e
    refine ⟨pi, hA, ?_, ?_⟩
    · intro us tg sl st rg ps tb pd sa kp pg sp it ua lt post hp
      exact br_t (by decide) hp
    · intro nw tg sl st rg ps tb pd sa kp pg sp it yu lt post hp
      exact br_t (by decide) hp
  | succ d ih =>
    intro i pi h hA
    have h6 : ¬ (6 : Int32) ≤ nI i := nI_ge (b := 6) (by omega) (by omega)
    have ei : (nI i).toNatClampNeg = i := nI_clamp (by omega)
    have vi : vp_in (nI i) 6 := vp_in_nI (by omega) (by omega)
    obtain ⟨pi', hA', hX, hY⟩ := ih (i + 1) (upd pi i (-1)) (by omega) (fun j hj => by
      by_cases e : j = i
      · rw [e, pk_us]
      · rw [pk_un e]; exact hA j (by omega))
    refine ⟨pi', hA', ?_, ?_⟩
    · intro us tg sl st rg ps tb pd sa kp pg sp it ua lt post hp
      exact br_f h6 ⟨vi, nm_r (by rw [ei]) (nm_r (nI_1 i) (hX hp))⟩
    · intro nw tg sl st rg ps tb pd sa kp pg sp it yu lt post hp
      exact br_f h6 ⟨vi, nm_r (by rw [ei]) (nm_r (nI_1 i) (hY hp))⟩
theorem in_pd : ∀ (d i : Nat) (pd : Nat → Int32), i + d = 5 → (∀ j, j < i → pd j = -1) → ∃ pd' : Nat → Int32, (∀ j, j < 5 → pd' j = -1) ∧
    (∀ {us : Int64} {tg sl : Int32} {st rg ps tb sa kp pg sp it pi : Nat → Int32} {ua lt : Nat → Int64} {post : SX → Prop}, (∃ n138 : Nat, wX_init_138 post us tg sl n138 0 st rg ps tb pd' sa kp pg sp it pi ua lt) → wX_init_118 post us tg sl (d + 1) (nI i) st rg ps tb pd sa kp pg sp it pi ua lt) ∧
    (∀ {nw : Int64} {tg sl : Int32} {st rg ps tb sa kp pg sp it pi : Nat → Int32} {yu lt : Nat → Int64} {post : SY → Prop}, (∃ n128 : Nat, wY_init_128 post nw tg sl n128 0 st rg ps tb pd' sa kp pg sp it pi yu lt) → wY_init_108 post nw tg sl (d + 1) (nI i) st rg ps tb pd sa kp pg sp it pi yu lt) := by
  intro d
  induction d with
  | zero =>
    intro i pd h hA
    have e : i = 5 := by omega
    subst e
    refine ⟨pd, hA, ?_, ?_⟩
    · intro us tg sl st rg ps tb sa kp pg sp it pi ua lt post hp
      exact br_t (by decide) hp
    · intro nw tg sl st rg ps tb sa kp pg sp it pi yu lt post hp
      exact br_t (by decide) hp
  | succ d ih =>
    intro i pd h hA
    have h6 : ¬ (5 : Int32) ≤ nI i := nI_ge (b := 5) (by omega) (by omega)
    have ei : (nI i).toNatClampNeg = i := nI_clamp (by omega)
    have vi : vp_in (nI i) 5 := vp_in_nI (by omega) (by omega)
    obtain ⟨pd', hA', hX, hY⟩ := ih (i + 1) (upd pd i (-1)) (by omega) (fun j hj => by
      by_cases e : j = i
      · rw [e, pk_us]
      · rw [pk_un e]; exact hA j (by omega))
    refine ⟨pd', hA', ?_, ?_⟩
    · intro us tg sl st rg ps tb sa kp pg sp it pi ua lt post hp
      exact br_f h6 ⟨vi, nm_r (by rw [ei]) (nm_r (nI_1 i) (hX hp))⟩
    · intro nw tg sl st rg ps tb sa kp pg sp it pi yu lt post hp
      exact br_f h6 ⟨vi, nm_r (by rw [ei]) (nm_r (nI_1 i) (hY hp))⟩
end
