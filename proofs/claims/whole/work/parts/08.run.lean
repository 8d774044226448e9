section
variable {us nw : Int64} {tg sl : Int32} {st rg ps tb pd sa kp pg sp it pi : Nat → Int32} {ua yu lt : Nat → Int64}
/-! who can make a step -/
abbrev rn_J : Type := Int32 → Int64 → Int32 → Int32 → (Nat → Int32) → (Nat → Int32) → (Nat → Int32) → (Nat → Int32) → (Nat → Int32) → (Nat → Int32) → (Nat → Int32) → (Nat → Int32) → (Nat → Int32) → (Nat → Int32) → (Nat → Int32) → (Nat → Int64) → (Nat → Int64) → Prop
def rn_A (ps pd sa : Nat → Int32) (h : Nat) : Prop := sa h = 1 ∨ (sa h = 2 ∧ ¬ (ps h &&& 256) = 0 ∧ ¬ pd h = -1)
theorem cs_X1 {g : Nat} (hg : g < 3) (hA : rn_A ps pd sa g) {post : Int32 → Prop} (hp : post 1) : wpX_canStep post (us, tg, sl, st, rg, ps, tb, pd, sa, kp, pg, sp, it, pi, ua, lt) (nI g) := by
  have eg : (nI g).toNatClampNeg = g := nI_clamp (by omega)
  have vg : vp_in (nI g) 5 := vp_in_nI (by omega) (by omega)
  by_cases h1 : sa g = 1
  · exact ⟨vg, br_t (by rw [eg]; exact h1) hp⟩
  · obtain ⟨h2, h3, h4⟩ := hA.resolve_left h1
    exact ⟨vg, br_f (by rw [eg]; exact h1) ⟨vg, br_t (by rw [eg]; exact h2) (tx_1 hg h3 h4 (br_f (by decide) hp))⟩⟩
theorem cs_X0 {g : Nat} (hg : g < 3) (hA : ¬ rn_A ps pd sa g) {post : Int32 → Prop} (hp : post 0) : wpX_canStep post (us, tg, sl, st, rg, ps, tb, pd, sa, kp, pg, sp, it, pi, ua, lt) (nI g) := by
  have eg : (nI g).toNatClampNeg = g := nI_clamp (by omega)
  have vg : vp_in (nI g) 5 := vp_in_nI (by omega) (by omega)
  have h1 : ¬ sa g = 1 := fun z => hA (Or.inl z)
  by_cases h2 : sa g = 2
  · have h3 : ps g &&& 256 = 0 ∨ pd g = -1 := by
      by_cases h3 : ps g &&& 256 = 0
      · exact Or.inl h3
      · exact Or.inr (Classical.byContradiction (fun h4 => hA (Or.inr ⟨h2, h3, h4⟩)))
    exact ⟨vg, br_f (by rw [eg]; exact h1) ⟨vg, br_t (by rw [eg]; exact h2) (tx_0 hg h3 (br_t rfl hp))⟩⟩
  · exact ⟨vg, br_f (by rw [eg]; exact h1) ⟨vg, br_f (by rw [eg]; exact h2) hp⟩⟩
theorem cs_Y1 {g : Nat} (hg : g < 3) (hP : sm_PD pd) (hA : rn_A ps pd sa g) {post : Int32 → Prop} (hp : post 1) : wpY_able post (nw, tg, sl, st, rg, ps, tb, pd, sa, kp, pg, sp, it, pi, yu, lt) (nI g) := by
  have eg : (nI g).toNatClampNeg = g := nI_clamp (by omega)
  have vg : vp_in (nI g) 5 := vp_in_nI (by omega) (by omega)
  by_cases h1 : sa g = 1
  · exact ⟨vg, br_t (by rw [eg]; exact h1) hp⟩
  · obtain ⟨h2, h3, h4⟩ := hA.resolve_left h1
    have h5 : ¬ pd g < 0 := Int32.not_lt.mpr ((hP g (by omega)).resolve_left h4)
    exact ⟨vg, br_f (by rw [eg]; exact h1) ⟨vg, br_t (by rw [eg]; exact h2) ⟨vg, br_f (by rw [eg]; exact h3) ⟨vg, br_f (by rw [eg]; exact h5) hp⟩⟩⟩⟩
theorem cs_Y0 {g : Nat} (hg : g < 3) (hA : ¬ rn_A ps pd sa g) {post : Int32 → Prop} (hp : post 0) : wpY_able post (nw, tg, sl, st, rg, ps, tb, pd, sa, kp, pg, sp, it, pi, yu, lt) (nI g) := by
  have eg : (nI g).toNatClampNeg = g := nI_clamp (by omega)
  have vg : vp_in (nI g) 5 := vp_in_nI (by omega) (by omega)
  have h1 : ¬ sa g = 1 := fun z => hA (Or.inl z)
  by_cases h2 : sa g = 2
  · by_cases h3 : ps g &&& 256 = 0
    · exact ⟨vg, br_f (by rw [eg]; exact h1) ⟨vg, br_t (by rw [eg]; exact h2) ⟨vg, br_t (by rw [eg]; exact h3) hp⟩⟩⟩
    · have h4 : pd g = -1 := Classical.byContradiction (fun h4 => hA (Or.inr ⟨h2, h3, h4⟩))
      exact ⟨vg, br_f (by rw [eg]; exact h1) ⟨vg, br_t (by rw [eg]; exact h2) ⟨vg, br_f (by rw [eg]; exact h3) ⟨vg, br_t (by rw [eg, h4]; decide) hp⟩⟩⟩⟩
  · exact ⟨vg, br_f (by rw [eg]; exact h1) ⟨vg, br_f (by rw [eg]; exact h2) hp⟩⟩
/-! the search for the next -/
theorem rn_m3 {t i : Nat} (ht : t < 3) (hi : i < 4) : (nI t + nI i) - (nI t + nI i) / 3 * 3 = nI ((t + i) % 3) := by
  rw [nI_add, ix_m3 (by omega)]
theorem fx_hit {t i n : Nat} (ht : t < 3) (hi : i < 4) (hA : rn_A ps pd sa ((t + i) % 3)) {post : Int32 → SX → Prop} (h : post 1 (us, nI ((t + i) % 3), 4, st, rg, ps, tb, pd, sa, kp, pg, sp, it, pi, ua, lt)) : wX_findTurn_24 post us (nI t) sl st rg ps tb pd sa kp pg sp it pi ua lt (n + 1) (nI i) := by
  have h3 : ¬ (3 : Int32) < nI i := nI_nlt (a := 3) (by omega) (by omega)
  exact br_f h3 ⟨by decide, nm_r (rn_m3 ht hi) (cs_X1 (Nat.mod_lt _ (by omega)) hA (br_f (by decide) h))⟩
theorem fx_miss {t i n : Nat} (ht : t < 3) (hi : i < 4) (hA : ¬ rn_A ps pd sa ((t + i) % 3)) {post : Int32 → SX → Prop} (h : wX_findTurn_24 post us (nI t) sl st rg ps tb pd sa kp pg sp it pi ua lt n (nI (i + 1))) : wX_findTurn_24 post us (nI t) sl st rg ps tb pd sa kp pg sp it pi ua lt (n + 1) (nI i) := by
  have h3 : ¬ (3 : Int32) < nI i := nI_nlt (a := 3) (by omega) (by omega)
  exact br_f h3 ⟨by decide, nm_r (rn_m3 ht hi) (cs_X0 (Nat.mod_lt _ (by omega)) hA (br_t rfl (nm_r (nI_1 i) h)))⟩
theorem fx_end {t n : Nat} {post : Int32 → SX → Prop} (h : post 0 (us, nI t, sl, st, rg, ps, tb, pd, sa, kp, pg, sp, it, pi, ua, lt)) : wX_findTurn_24 post us (nI t) sl st rg ps tb pd sa kp pg sp it pi ua lt (n + 1) (nI 4) :=
  br_t (by decide) h
variable {J : rn_J} {x1 x2 : Int32}
theorem fy_hit {t i n : Nat} {x : Int32} (ht : t < 3) (hi : i < 3) (hP : sm_PD pd) (hA : rn_A ps pd sa ((t + (i + 1)) % 3)) {post : Int32 → SY → Prop} (h : wY_run_43 post J x1 x2 nw (nI t) sl st rg ps tb pd sa kp pg sp it pi yu lt n (nI ((t + (i + 1)) % 3)) (nI i)) : wY_run_43 post J x1 x2 nw (nI t) sl st rg ps tb pd sa kp pg sp it pi yu lt (n + 1) x (nI (i + 1)) := by
  exact br_f (nI_nle (by omega) (by omega)) ⟨by decide, nm_r (rn_m3 ht (by omega)) (cs_Y1 (Nat.mod_lt _ (by omega)) hP hA (br_f (by decide) (nm_r (pk_m1 i) h)))⟩
theorem fy_miss {t i n : Nat} {x : Int32} (ht : t < 3) (hi : i < 3) (hA : ¬ rn_A ps pd sa ((t + (i + 1)) % 3)) {post : Int32 → SY → Prop} (h : wY_run_43 post J x1 x2 nw (nI t) sl st rg ps tb pd sa kp pg sp it pi yu lt n x (nI i)) : wY_run_43 post J x1 x2 nw (nI t) sl st rg ps tb pd sa kp pg sp it pi yu lt (n + 1) x (nI (i + 1)) := by
  exact br_f (nI_nle (by omega) (by omega)) ⟨by decide, nm_r (rn_m3 ht (by omega)) (cs_Y0 (Nat.mod_lt _ (by omega)) hA (br_t rfl (nm_r (pk_m1 i) h)))⟩
theorem fy_any {t i n : Nat} {x : Int32} (ht : t < 3) (hi : i < 3) (hP : sm_PD pd) {post : Int32 → SY → Prop} (h : ∀ x, wY_run_43 post J x1 x2 nw (nI t) sl st rg ps tb pd sa kp pg sp it pi yu lt n x (nI i)) : wY_run_43 post J x1 x2 nw (nI t) sl st rg ps tb pd sa kp pg sp it pi yu lt (n + 1) x (nI (i + 1)) := by
  by_cases hA : rn_A ps pd sa ((t + (i + 1)) % 3)
  · exact fy_hit ht hi hP hA (h _)
  · exact fy_miss ht hi hA (h _)
theorem fy_end {t c n : Nat} (hc : c < 3) {post : Int32 → SY → Prop} (h : wY_run_93 post J x1 x2 nw (nI c) 4 st rg ps tb pd sa kp pg sp it pi yu lt) : wY_run_43 post J x1 x2 nw (nI t) sl st rg ps tb pd sa kp pg sp it pi yu lt (n + 1) (nI c) (nI 0) :=
  br_t (by decide) (br_t (nI_pos' (by omega)) h)
theorem fy_none {t n : Nat} {post : Int32 → SY → Prop} (h : post x2 (nw, nI t, sl, st, rg, ps, tb, pd, sa, kp, pg, sp, it, pi, yu, lt)) : wY_run_43 post J x1 x2 nw (nI t) sl st rg ps tb pd sa kp pg sp it pi yu lt (n + 1) (-1) (nI 0) :=
  br_t (by decide) (br_f (by decide) h)
theorem ft_search {t : Nat} (ht : t < 3) (hP : sm_PD pd) :
    (∃ c, c < 3 ∧ (∀ {post : Int32 → SX → Prop}, post 1 (us, nI c, 4, st, rg, ps, tb, pd, sa, kp, pg, sp, it, pi, ua, lt) → ∃ n24 : Nat, wX_findTurn_24 post us (nI t) sl st rg ps tb pd sa kp pg sp it pi ua lt n24 1) ∧
      (∀ {J : rn_J} {x1 x2 : Int32} {post : Int32 → SY → Prop}, wY_run_93 post J x1 x2 nw (nI c) 4 st rg ps tb pd sa kp pg sp it pi yu lt → ∃ n43 : Nat, wY_run_43 post J x1 x2 nw (nI t) sl st rg ps tb pd sa kp pg sp it pi yu lt n43 (-1) 3)) ∨
    ((∀ {post : Int32 → SX → Prop}, post 0 (us, nI t, sl, st, rg, ps, tb, pd, sa, kp, pg, sp, it, pi, ua, lt) → ∃ n24 : Nat, wX_findTurn_24 post us (nI t) sl st rg ps tb pd sa kp pg sp it pi ua lt n24 1) ∧
      (∀ {J : rn_J} {x1 x2 : Int32} {post : Int32 → SY → Prop}, post x2 (nw, nI t, sl, st, rg, ps, tb, pd, sa, kp, pg, sp, it, pi, yu, lt) → ∃ n43 : Nat, wY_run_43 post J x1 x2 nw (nI t) sl st rg ps tb pd sa kp pg sp it pi yu lt n43 (-1) 3)) := by
  by_cases h1 : rn_A ps pd sa ((t + 1) % 3)
  · refine Or.inl ⟨(t + 1) % 3, Nat.mod_lt _ (by omega), ?_, ?_⟩
    · intro post hp
      exact ⟨4, fx_hit (i := 1) ht (by omega) h1 hp⟩
    · intro J x1 x2 post hp
      exact ⟨4, fy_any (i := 2) ht (by omega) hP (fun _ => fy_any (i := 1) ht (by omega) hP (fun _ => fy_hit (i := 0) ht (by omega) hP h1 (fy_end (Nat.mod_lt _ (by omega)) hp)))⟩
  · by_cases h2 : rn_A ps pd sa ((t + 2) % 3)
    · refine Or.inl ⟨(t + 2) % 3, Nat.mod_lt _ (by omega), ?_, ?_⟩
      · intro post hp
        exact ⟨4, fx_miss (i := 1) ht (by omega) h1 (fx_hit (i := 2) ht (by omega) h2 hp)⟩
      · intro J x1 x2 post hp
        exact ⟨4, fy_any (i := 2) ht (by omega) hP (fun _ => fy_hit (i := 1) ht (by omega) hP h2 (fy_miss (i := 0) ht (by omega) h1 (fy_end (Nat.mod_lt _ (by omega)) hp)))⟩
    · by_cases h3 : rn_A ps pd sa ((t + 3) % 3)
      · refine Or.inl ⟨(t + 3) % 3, Nat.mod_lt _ (by omega), ?_, ?_⟩
        · intro post hp
          exact ⟨4, fx_miss (i := 1) ht (by omega) h1 (fx_miss (i := 2) ht (by omega) h2 (fx_hit (i := 3) ht (by omega) h3 hp))⟩
        · intro J x1 x2 post hp
          exact ⟨4, fy_hit (i := 2) ht (by omega) hP h3 (fy_miss (i := 1) ht (by omega) h2 (fy_miss (i := 0) ht (by omega) h1 (fy_end (Nat.mod_lt _ (by omega)) hp)))⟩
      · refine Or.inr ⟨?_, ?_⟩
        · intro post hp
          exact ⟨4, fx_miss (i := 1) ht (by omega) h1 (fx_miss (i := 2) ht (by omega) h2 (fx_miss (i := 3) ht (by omega) h3 (fx_end hp)))⟩
        · intro J x1 x2 post hp
          exact ⟨4, fy_miss (i := 2) ht (by omega) h3 (fy_miss (i := 1) ht (by omega) h2 (fy_miss (i := 0) ht (by omega) h1 (fy_none hp)))⟩
theorem ft_both {t s : Nat} (ht : t < 3) (hs : s ≤ 4) (hP : sm_PD pd) :
    (∃ c e, c < 3 ∧ e < 4 ∧ (∀ {post : Int32 → SX → Prop}, post 1 (us, nI c, nI (e + 1), st, rg, ps, tb, pd, sa, kp, pg, sp, it, pi, ua, lt) → wpX_findTurn post (us, nI t, nI s, st, rg, ps, tb, pd, sa, kp, pg, sp, it, pi, ua, lt)) ∧
      (∀ {J : rn_J} {x1 x2 : Int32} {post : Int32 → SY → Prop}, wY_run_93 post J x1 x2 nw (nI c) (nI (e + 1)) st rg ps tb pd sa kp pg sp it pi yu lt → (vp_in (nI t) 5 ∧ ((sa (nI t).toNatClampNeg = 1 → ((nI s = 0 → ∃ n43 : Nat, wY_run_43 post J x1 x2 nw (nI t) (nI s) st rg ps tb pd sa kp pg sp it pi yu lt n43 (-1) 3) ∧ (¬ nI s = 0 → wY_run_93 post J x1 x2 nw (nI t) (nI s) st rg ps tb pd sa kp pg sp it pi yu lt))) ∧ (¬ sa (nI t).toNatClampNeg = 1 → ∃ n43 : Nat, wY_run_43 post J x1 x2 nw (nI t) (nI s) st rg ps tb pd sa kp pg sp it pi yu lt n43 (-1) 3))))) ∨
    ((∀ {post : Int32 → SX → Prop}, post 0 (us, nI t, nI s, st, rg, ps, tb, pd, sa, kp, pg, sp, it, pi, ua, lt) → wpX_findTurn post (us, nI t, nI s, st, rg, ps, tb, pd, sa, kp, pg, sp, it, pi, ua, lt)) ∧
      (∀ {J : rn_J} {x1 x2 : Int32} {post : Int32 → SY → Prop}, post x2 (nw, nI t, nI s, st, rg, ps, tb, pd, sa, kp, pg, sp, it, pi, yu, lt) → (vp_in (nI t) 5 ∧ ((sa (nI t).toNatClampNeg = 1 → ((nI s = 0 → ∃ n43 : Nat, wY_run_43 post J x1 x2 nw (nI t) (nI s) st rg ps tb pd sa kp pg sp it pi yu lt n43 (-1) 3) ∧ (¬ nI s = 0 → wY_run_93 post J x1 x2 nw (nI t) (nI s) st rg ps tb pd sa kp pg sp it pi yu lt))) ∧ (¬ sa (nI t).toNatClampNeg = 1 → ∃ n43 : Nat, wY_run_43 post J x1 x2 nw (nI t) (nI s) st rg ps tb pd sa kp pg sp it pi yu lt n43 (-1) 3))))) := by
  have et : (nI t).toNatClampNeg = t := nI_clamp (by omega)
  have vt : vp_in (nI t) 5 := vp_in_nI (by omega) (by omega)
  have K := ft_search (us := us) (nw := nw) (sl := nI s) (st := st) (rg := rg) (ps := ps) (tb := tb) (pd := pd) (sa := sa) (kp := kp) (pg := pg) (sp := sp) (it := it) (pi := pi) (ua := ua) (yu := yu) (lt := lt) ht hP
  by_cases h1 : sa t = 1
  · have h1' : sa (nI t).toNatClampNeg = 1 := by rw [et]; exact h1
    by_cases h0 : s = 0
    · subst h0
      rcases K with ⟨c, hc, hX, hY⟩ | ⟨hX, hY⟩
      · refine Or.inl ⟨c, 3, hc, by omega, ?_, ?_⟩
        · intro post hp
          exact ⟨vt, br_t h1' (br_t (by decide) (hX hp))⟩
        · intro J x1 x2 post hp
          exact ⟨vt, br_t h1' (br_t (by decide) (hY hp))⟩
      · refine Or.inr ⟨?_, ?_⟩
        · intro post hp
          exact ⟨vt, br_t h1' (br_t (by decide) (hX hp))⟩
        · intro J x1 x2 post hp
          exact ⟨vt, br_t h1' (br_t (by decide) (hY hp))⟩
    · obtain ⟨e, rfl⟩ : ∃ e, s = e + 1 := ⟨s - 1, by omega⟩
      refine Or.inl ⟨t, e, ht, by omega, ?_, ?_⟩
      · intro post hp
        exact ⟨vt, br_t h1' (br_f (nI_nle (by omega) (by omega)) hp)⟩
      · intro J x1 x2 post hp
        exact ⟨vt, br_t h1' (br_f (nI_ne0 (by omega) (by omega)) hp)⟩
  · have h1' : ¬ sa (nI t).toNatClampNeg = 1 := by rw [et]; exact h1
    rcases K with ⟨c, hc, hX, hY⟩ | ⟨hX, hY⟩
    · refine Or.inl ⟨c, 3, hc, by omega, ?_, ?_⟩
      · intro post hp
        exact ⟨vt, br_f h1' (hX hp)⟩
      · intro J x1 x2 post hp
        exact ⟨vt, br_f h1' (hY hp)⟩
    · refine Or.inr ⟨?_, ?_⟩
      · intro post hp
        exact ⟨vt, br_f h1' (hX hp)⟩
      · intro J x1 x2 post hp
        exact ⟨vt, br_f h1' (hY hp)⟩
end
section
variable {us nw : Int64} {tg sl : Int32} {st rg ps tb pd sa kp pg sp it pi : Nat → Int32} {ua yu lt : Nat → Int64}
/-- the relation, with a bound on the stamps -/
def rl_R (B : Nat) (u : SX) (v : SY) : Prop :=
  ∃ (us nw : Int64) (t s : Nat) (st rg ps tb pd sa kp pg sp it pi : Nat → Int32) (ua yu lt : Nat → Int64),
    u = (us, nI t, nI s, st, rg, ps, tb, pd, sa, kp, pg, sp, it, pi, ua, lt) ∧ v = (nw, nI t, nI s, st, rg, ps, tb, pd, sa, kp, pg, sp, it, pi, yu, lt) ∧ t < 3 ∧ s ≤ 4 ∧ fr_RF B pi ua us yu nw ∧ sm_PD pd
theorem rl_mono {B B' : Nat} {u : SX} {v : SY} (h : rl_R B u v) (hB : B ≤ B') : rl_R B' u v := by
  obtain ⟨us, nw, t, s, st, rg, ps, tb, pd, sa, kp, pg, sp, it, pi, ua, yu, lt, e1, e2, ht, hs, hR, hP⟩ := h
  exact ⟨us, nw, t, s, st, rg, ps, tb, pd, sa, kp, pg, sp, it, pi, ua, yu, lt, e1, e2, ht, hs, fr_mono hR hB, hP⟩
theorem rn_loop {n : Nat} (hn : n ≤ 100) : ∀ (d m B t s : Nat) (us nw : Int64) (st rg ps tb pd sa kp pg sp it pi : Nat → Int32) (ua yu lt : Nat → Int64), m + d = n → B + 5 * d + 8 < 2 ^ 30 → t < 3 → s ≤ 4 → fr_RF B pi ua us yu nw → sm_PD pd →
    ∃ (r : Int32) (u : SX) (v : SY), rl_R (B + 5 * d) u v ∧ (∀ post : Int32 → SX → Prop, post r u → wX_run_14 post (nI n) (d + 1) (nI m) us (nI t) (nI s) st rg ps tb pd sa kp pg sp it pi ua lt) ∧
      (∀ post : Int32 → SY → Prop, post r v → wY_run_13 post (nI n) (d + 1) (nI m) nw (nI t) (nI s) st rg ps tb pd sa kp pg sp it pi yu lt) := by
  intro d
  induction d with
  | zero =>
    intro m B t s us nw st rg ps tb pd sa kp pg sp it pi ua yu lt hm hB ht hs hR hP
    have e : m = n := by omega
    subst e
    have hle : nI m ≤ nI m := nI_le (Nat.le_refl _) (by omega)
    exact ⟨nI m, (us, nI t, nI s, st, rg, ps, tb, pd, sa, kp, pg, sp, it, pi, ua, lt), (nw, nI t, nI s, st, rg, ps, tb, pd, sa, kp, pg, sp, it, pi, yu, lt), ⟨us, nw, t, s, st, rg, ps, tb, pd, sa, kp, pg, sp, it, pi, ua, yu, lt, rfl, rfl, ht, hs, hR, hP⟩, fun post hp => br_t hle hp, fun post hp => br_t hle hp⟩
  | succ d ih =>
    intro m B t s us nw st rg ps tb pd sa kp pg sp it pi ua yu lt hm hB ht hs hR hP
    have hle : ¬ nI n ≤ nI m := nI_ge (by omega) (by omega)
    rcases ft_both (us := us) (nw := nw) (st := st) (rg := rg) (ps := ps) (tb := tb) (pd := pd) (sa := sa) (kp := kp) (pg := pg) (sp := sp) (it := it) (pi := pi) (ua := ua) (yu := yu) (lt := lt) ht hs hP with ⟨c, e, hc, he, hX, hY⟩ | ⟨hX, hY⟩
    · obtain ⟨st', rg', ps', tb', pd', sa', pg', sp', it', pi', ua', us', yu', nw', lt', hR', hP', hX', hY'⟩ := sp_step (tg := nI c) (sl := nI (e + 1)) (sl2 := nI e) (kp := kp) (st := st) (rg := rg) (ps := ps) (tb := tb) (sa := sa) (pg := pg) (sp := sp) (it := it) (lt := lt) (B := B) (by omega) hc hR hP
      obtain ⟨r, u, v, hr, iX, iY⟩ := ih (m + 1) (B + 5) c e us' nw' st' rg' ps' tb' pd' sa' kp pg' sp' it' pi' ua' yu' lt' (by omega) (by omega) hc (by omega) hR' hP'
      refine ⟨r, u, v, rl_mono hr (by omega), ?_, ?_⟩
      · intro post hp
        exact br_f hle (hX (br_f (by decide) (hX' _ (nm_r (nI_pred e) (nm_r (nI_1 m) (iX post hp))))))
      · intro post hp
        exact br_f hle (hY (nm_r (nI_pred e) (hY' _ (nm_r (nI_1 m) (iY post hp)))))
    · refine ⟨nI m, (us, nI t, nI s, st, rg, ps, tb, pd, sa, kp, pg, sp, it, pi, ua, lt), (nw, nI t, nI s, st, rg, ps, tb, pd, sa, kp, pg, sp, it, pi, yu, lt), ⟨us, nw, t, s, st, rg, ps, tb, pd, sa, kp, pg, sp, it, pi, ua, yu, lt, rfl, rfl, ht, hs, fr_mono hR (by omega), hP⟩, ?_, ?_⟩
      · intro post hp
        exact br_f hle (hX (br_t rfl hp))
      · intro post hp
        exact br_f hle (hY hp)
end
