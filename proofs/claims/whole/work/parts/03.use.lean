section
variable {us nw : Int64} {tg sl : Int32} {st rg ps tb pd sa kp pg sp it pi : Nat → Int32} {ua yu lt : Nat → Int64}
/-! the class's use -/
theorem ux_111 {post : SX → Prop} {b : Nat} (hb : b < 6) (h : post (us + 1, tg, sl, st, rg, ps, tb, pd, sa, kp, pg, sp, it, pi, vp_updL ua b (us + 1), lt)) : wX_use_111 post (nI b) us tg sl st rg ps tb pd sa kp pg sp it pi ua lt := by
  refine nm_e ⟨vp_in_nI hb (by omega), nm_e ?_⟩
  rw [nI_clamp (by omega)]
  exact h
theorem ux_54 {g : Nat} (hg : g < 3) (P : Int32) (pi pg : Nat → Int32) (us : Int64) (ua : Nat → Int64) : ∀ d i f : Nat, i + d = 6 → f < 6 → ((∀ j, j < i → pi j ≠ P) ∨ pi f = P) →
    ∃ b, b < 6 ∧ (pi b = P ∨ (b = f ∧ ∀ j, j < 6 → pi j ≠ P)) ∧
      ∀ {tg sl : Int32} {st rg ps tb pd sa kp sp it : Nat → Int32} {lt : Nat → Int64} {post : SX → Prop}, post (us + 1, tg, sl, st, rg, ps, tb, pd, sa, kp, if pi b = P then pg else upd pg g (pg g + 1), sp, it, upd pi b P, vp_updL ua b (us + 1), lt) → wX_use_54 post (nI g) P us tg sl st rg ps tb pd sa kp pg sp it pi ua lt (d + 1) (nI f) (nI i) := by
  intro d
  induction d with
  | zero =>
    intro i f hi hf hH
    have hi6 : i = 6 := by omega
    subst hi6
    have ef : (nI f).toNatClampNeg = f := nI_clamp (by omega)
    have eg : (nI g).toNatClampNeg = g := nI_clamp (by omega)
    by_cases hP : pi f = P
    · refine ⟨f, hf, Or.inl hP, ?_⟩
      intro tg sl st rg ps tb pd sa kp sp it lt post hp
      rw [if_pos hP, fr_upd_same hP] at hp
      refine br_t (nI_le (a := 6) (by omega) (by omega)) ⟨vp_in_nI hf (by omega), br_t (by rw [ef]; exact hP) (ux_111 hf hp)⟩
    · refine ⟨f, hf, Or.inr ⟨rfl, hH.resolve_right hP⟩, ?_⟩
      intro tg sl st rg ps tb pd sa kp sp it lt post hp
      rw [if_neg hP] at hp
      refine br_t (nI_le (a := 6) (by omega) (by omega)) ⟨vp_in_nI hf (by omega), br_f (by rw [ef]; exact hP) ⟨vp_in_nI hf (by omega), nm_r (by rw [ef]) ⟨vp_in_nI hg (by omega), vp_in_nI hg (by omega), nm_r (by rw [eg]) (ux_111 hf hp)⟩⟩⟩
  | succ d ih =>
    intro i f hi hf hH
    have ei : (nI i).toNatClampNeg = i := nI_clamp (by omega)
    have h6 : ¬ (6 : Int32) ≤ nI i := nI_ge (b := 6) (by omega) (by decide)
    by_cases hP : pi i = P
    · obtain ⟨b, hb, hr, hw⟩ := ih (i + 1) i (by omega) (by omega) (Or.inr hP)
      refine ⟨b, hb, Or.inl (hr.elim id (fun z => absurd hP (z.2 i (by omega)))), ?_⟩
      intro tg sl st rg ps tb pd sa kp sp it lt post hp
      exact br_f h6 ⟨vp_in_nI (by omega) (by omega), br_t (by rw [ei]; exact hP) (nm_r (nI_1 i) (hw hp))⟩
    · obtain ⟨b, hb, hr, hw⟩ := ih (i + 1) f (by omega) hf (hH.elim (fun z => Or.inl (lt_s z hP)) Or.inr)
      refine ⟨b, hb, hr, ?_⟩
      intro tg sl st rg ps tb pd sa kp sp it lt post hp
      exact br_f h6 ⟨vp_in_nI (by omega) (by omega), br_f (by rw [ei]; exact hP) (nm_r (nI_1 i) (hw hp))⟩
theorem ux_16 {g : Nat} (P : Int32) (pi pg : Nat → Int32) (us : Int64) (ua : Nat → Int64) (U : Nat → Nat) (hU : ∀ f, f < 6 → ua f = lN (U f) ∧ U f < 2 ^ 31) : ∀ d i f : Nat, i + d = 6 → f < 6 → f < i → (∀ j, j < i → U f ≤ U j) → (∀ j, j < f → U f < U j) →
    ∃ b, b < 6 ∧ (∀ j, j < 6 → U b ≤ U j) ∧ (∀ j, j < b → U b < U j) ∧
      ∀ {tg sl : Int32} {st rg ps tb pd sa kp sp it : Nat → Int32} {lt : Nat → Int64} {post : SX → Prop}, (∃ n54 : Nat, wX_use_54 post (nI g) P us tg sl st rg ps tb pd sa kp pg sp it pi ua lt n54 (nI b) 0) → wX_use_16 post (nI g) P us tg sl st rg ps tb pd sa kp pg sp it pi ua lt (d + 1) (nI f) (nI i) := by
  intro d
  induction d with
  | zero =>
    intro i f hi hf hfi h1 h2
    have hi6 : i = 6 := by omega
    subst hi6
    refine ⟨f, hf, h1, h2, ?_⟩
    intro tg sl st rg ps tb pd sa kp sp it lt post hp
    exact br_t (nI_le (a := 6) (by omega) (by omega)) hp
  | succ d ih =>
    intro i f hi hf hfi h1 h2
    have ei : (nI i).toNatClampNeg = i := nI_clamp (by omega)
    have ef : (nI f).toNatClampNeg = f := nI_clamp (by omega)
    have h6 : ¬ (6 : Int32) ≤ nI i := nI_ge (b := 6) (by omega) (by decide)
    obtain ⟨ui, bi⟩ := hU i (by omega)
    obtain ⟨uf, bf⟩ := hU f hf
    have hc : ua (nI f).toNatClampNeg ≤ ua (nI i).toNatClampNeg ↔ U f ≤ U i := by rw [ei, ef, ui, uf, lN_le bf bi]
    by_cases hP : U f ≤ U i
    · obtain ⟨b, hb, r1, r2, hw⟩ := ih (i + 1) f (by omega) hf (by omega) (lt_s h1 hP) h2
      refine ⟨b, hb, r1, r2, ?_⟩
      intro tg sl st rg ps tb pd sa kp sp it lt post hp
      exact br_f h6 ⟨vp_in_nI (by omega) (by omega), vp_in_nI hf (by omega), br_t (hc.mpr hP) (nm_r (nI_1 i) (hw hp))⟩
    · have g1 : ∀ j, j < i → U i ≤ U j := fun j hj => by have := h1 j hj; omega
      have g2 : ∀ j, j < i → U i < U j := fun j hj => by have := h1 j hj; omega
      obtain ⟨b, hb, r1, r2, hw⟩ := ih (i + 1) i (by omega) (by omega) (by omega) (lt_s g1 (Nat.le_refl _)) g2
      refine ⟨b, hb, r1, r2, ?_⟩
      intro tg sl st rg ps tb pd sa kp sp it lt post hp
      exact br_f h6 ⟨vp_in_nI (by omega) (by omega), vp_in_nI hf (by omega), br_f (fun z => hP (hc.mp z)) (nm_r (nI_1 i) (hw hp))⟩
theorem ux_use {g a : Nat} (hg : g < 3) (ha : a < 64) (pi pg : Nat → Int32) (us : Int64) (ua : Nat → Int64) (U : Nat → Nat) (hU : ∀ f, f < 6 → ua f = lN (U f) ∧ U f < 2 ^ 31) :
    ∃ b, fr_CX pi U (nI (8 * g + a / 8)) b ∧
      ∀ {tg sl : Int32} {st rg ps tb pd sa kp sp it : Nat → Int32} {lt : Nat → Int64} {post : SX → Prop}, post (us + 1, tg, sl, st, rg, ps, tb, pd, sa, kp, if pi b = nI (8 * g + a / 8) then pg else upd pg g (pg g + 1), sp, it, upd pi b (nI (8 * g + a / 8)), vp_updL ua b (us + 1), lt) → wpX_use post (us, tg, sl, st, rg, ps, tb, pd, sa, kp, pg, sp, it, pi, ua, lt) (nI g) (nI a) := by
  obtain ⟨b0, hb0, r1, r2, hw1⟩ := ux_16 (g := g) (nI (8 * g + a / 8)) pi pg us ua U hU 5 1 0 (by omega) (by omega) (by omega) (fun j hj => Nat.le_of_eq (congrArg U (by omega))) (fun j hj => absurd hj (by omega))
  obtain ⟨b, hb, r3, hw2⟩ := ux_54 hg (nI (8 * g + a / 8)) pi pg us ua 6 0 b0 (by omega) hb0 (Or.inl (fun j hj => absurd hj (by omega)))
  refine ⟨b, ⟨hb, r3.elim Or.inl (fun z => Or.inr ⟨z.2, by rw [z.1]; exact r1, by rw [z.1]; exact r2⟩)⟩, ?_⟩
  intro tg sl st rg ps tb pd sa kp sp it lt post hp
  exact ⟨by decide, nm_r (ix_p ha) ⟨_, hw1 ⟨_, hw2 hp⟩⟩⟩
/-! the reference's use -/
def uy_HB (pi : Nat → Int32) (P : Int32) (i : Nat) (x : Int32) : Prop := (x = -1 ∧ ∀ j, i ≤ j → j < 6 → pi j ≠ P) ∨ ∃ b, b < 6 ∧ x = nI b ∧ pi b = P
def uy_HF (pi : Nat → Int32) (i : Nat) (x : Int32) : Prop := (x = -1 ∧ ∀ j, i ≤ j → j < 6 → pi j ≠ -1) ∨ ∃ c, i ≤ c ∧ c < 6 ∧ x = nI c ∧ pi c = -1 ∧ ∀ j, i ≤ j → j < c → pi j ≠ -1
def uy_HO (V : Nat → Nat) (i : Nat) (x : Int32) : Prop := ∃ o, o < 6 ∧ x = nI o ∧ ∀ j, i ≤ j → j < 6 → V o ≤ V j
theorem uy_sB {pi : Nat → Int32} {P : Int32} {i : Nat} {x : Int32} (hi : i < 6) (h : uy_HB pi P (i + 1) x) : ∃ y, uy_HB pi P i y ∧ ∀ W : Int32 → Prop, W y → ((pi (nI i).toNatClampNeg = P → W (nI i)) ∧ (¬ pi (nI i).toNatClampNeg = P → W x)) := by
  have ei : (nI i).toNatClampNeg = i := nI_clamp (by omega)
  rw [ei]
  by_cases hP : pi i = P
  · exact ⟨nI i, Or.inr ⟨i, hi, rfl, hP⟩, fun W hW => br_t hP hW⟩
  · refine ⟨x, ?_, fun W hW => br_f hP hW⟩
    rcases h with ⟨e, h⟩ | h
    · refine Or.inl ⟨e, fun j h1 h2 => ?_⟩
      by_cases hj : j = i
      · rw [hj]; exact hP
      · exact h j (by omega) h2
    · exact Or.inr h
theorem uy_sF {pi : Nat → Int32} {i : Nat} {x : Int32} (hi : i < 6) (hv : pi i = -1 ∨ ∃ p, p < 24 ∧ pi i = nI p) (h : uy_HF pi (i + 1) x) : ∃ y, uy_HF pi i y ∧ ∀ W : Int32 → Prop, W y → ((0 ≤ pi (nI i).toNatClampNeg → W x) ∧ (¬ 0 ≤ pi (nI i).toNatClampNeg → W (nI i))) := by
  have ei : (nI i).toNatClampNeg = i := nI_clamp (by omega)
  rw [ei]
  rcases hv with hv | ⟨p, hp, hv⟩
  · refine ⟨nI i, Or.inr ⟨i, Nat.le_refl _, hi, rfl, hv, fun j h1 h2 => absurd h2 (by omega)⟩, fun W hW => br_f (by rw [hv]; decide) hW⟩
  · refine ⟨x, ?_, fun W hW => br_t (by rw [hv]; exact nI_pos' (by omega)) hW⟩
    have hne : pi i ≠ -1 := by rw [hv]; exact fr_nm1 hp
    rcases h with ⟨e, h⟩ | ⟨c, h1, h2, h3, h4, h5⟩
    · refine Or.inl ⟨e, fun j h1 h2 => ?_⟩
      by_cases hj : j = i
      · rw [hj]; exact hne
      · exact h j (by omega) h2
    · refine Or.inr ⟨c, by omega, h2, h3, h4, fun j g1 g2 => ?_⟩
      by_cases hj : j = i
      · rw [hj]; exact hne
      · exact h5 j (by omega) g2
theorem uy_sO {yu : Nat → Int64} {V : Nat → Nat} {i : Nat} {x : Int32} (hi : i < 6) (hV : ∀ f, f < 6 → yu f = lN (V f) ∧ V f < 2 ^ 31) (h : uy_HO V (i + 1) x) : ∃ y, uy_HO V i y ∧ ∀ W : Int32 → Prop, W y → (vp_in x 6 ∧ ((yu x.toNatClampNeg ≤ yu (nI i).toNatClampNeg → W x) ∧ (¬ yu x.toNatClampNeg ≤ yu (nI i).toNatClampNeg → W (nI i)))) := by
  obtain ⟨o, ho, rfl, h⟩ := h
  have ei : (nI i).toNatClampNeg = i := nI_clamp (by omega)
  have eo : (nI o).toNatClampNeg = o := nI_clamp (by omega)
  obtain ⟨vi, bi⟩ := hV i hi
  obtain ⟨vo, bo⟩ := hV o ho
  have hc : yu (nI o).toNatClampNeg ≤ yu (nI i).toNatClampNeg ↔ V o ≤ V i := by rw [ei, eo, vi, vo, lN_le bo bi]
  by_cases hP : V o ≤ V i
  · refine ⟨nI o, ⟨o, ho, rfl, fun j h1 h2 => ?_⟩, fun W hW => ⟨vp_in_nI ho (by omega), br_t (hc.mpr hP) hW⟩⟩
    by_cases hj : j = i
    · rw [hj]; exact hP
    · exact h j (by omega) h2
  · refine ⟨nI i, ⟨i, hi, rfl, fun j h1 h2 => ?_⟩, fun W hW => ⟨vp_in_nI ho (by omega), br_f (fun z => hP (hc.mp z)) hW⟩⟩
    by_cases hj : j = i
    · rw [hj]; exact Nat.le_refl _
    · have := h j (by omega) h2
      omega
theorem uy_111 {g c : Nat} (hg : g < 3) (hc : c < 6) {P : Int32} {post : SY → Prop} (h : post (nw, tg, sl, st, rg, ps, tb, pd, sa, kp, upd pg g (pg g + 1), sp, it, upd pi c P, vp_updL yu c nw, lt)) : wY_use_111 post (nI g) P (nI c) nw tg sl st rg ps tb pd sa kp pg sp it pi yu lt := by
  have ec : (nI c).toNatClampNeg = c := nI_clamp (by omega)
  have eg : (nI g).toNatClampNeg = g := nI_clamp (by omega)
  exact ⟨vp_in_nI hc (by omega), nm_r (by rw [ec]) ⟨vp_in_nI hg (by omega), vp_in_nI hg (by omega), nm_r (by rw [eg]) ⟨vp_in_nI hc (by omega), nm_r (by rw [ec]) h⟩⟩⟩
theorem uy_22 {g : Nat} (hg : g < 3) (P : Int32) (pi pg : Nat → Int32) (nw : Int64) (yu : Nat → Int64) (V : Nat → Nat) (hV : ∀ f, f < 6 → yu f = lN (V f) ∧ V f < 2 ^ 31) (hv : ∀ f, f < 6 → pi f = -1 ∨ ∃ p, p < 24 ∧ pi f = nI p) : ∀ (i : Nat) (x y z : Int32), i ≤ 6 → uy_HB pi P i x → uy_HF pi i y → uy_HO V i z →
    ∃ c, fr_CY pi V P c ∧
      ∀ {tg sl : Int32} {st rg ps tb pd sa kp sp it : Nat → Int32} {lt : Nat → Int64} {post : SY → Prop}, post (nw + 1, tg, sl, st, rg, ps, tb, pd, sa, kp, if pi c = P then pg else upd pg g (pg g + 1), sp, it, upd pi c P, vp_updL yu c (nw + 1), lt) → wY_use_22 post (nI g) P nw tg sl st rg ps tb pd sa kp pg sp it pi yu lt (i + 1) x y z (nI i + (-1)) := by
  intro i
  induction i with
  | zero =>
    intro x y z _ hB hF hO
    have hm : nI 0 + (-1) < 0 := by decide
    rcases hB with ⟨rfl, hB⟩ | ⟨b, hb, rfl, hB⟩
    · have hn : ∀ j, j < 6 → pi j ≠ P := fun j hj => hB j (by omega) hj
      rcases hF with ⟨rfl, hF⟩ | ⟨c, -, hc, rfl, hF, hF2⟩
      · obtain ⟨o, ho, rfl, hO⟩ := hO
        refine ⟨o, ⟨ho, Or.inr ⟨hn, Or.inr ⟨fun j hj => hF j (by omega) hj, fun j hj => hO j (by omega) hj⟩⟩⟩, ?_⟩
        intro tg sl st rg ps tb pd sa kp sp it lt post hp
        rw [if_neg (hn o ho)] at hp
        exact br_t hm (nm_e (br_f (by decide) (br_t (by decide) (uy_111 hg ho hp))))
      · refine ⟨c, ⟨hc, Or.inr ⟨hn, Or.inl ⟨hF, fun j hj => hF2 j (by omega) hj⟩⟩⟩, ?_⟩
        intro tg sl st rg ps tb pd sa kp sp it lt post hp
        rw [if_neg (hn c hc)] at hp
        exact br_t hm (nm_e (br_f (by decide) (br_f (nI_pos (by omega)) (uy_111 hg hc hp))))
    · refine ⟨b, ⟨hb, Or.inl hB⟩, ?_⟩
      intro tg sl st rg ps tb pd sa kp sp it lt post hp
      rw [if_pos hB, fr_upd_same hB] at hp
      have eb : (nI b).toNatClampNeg = b := nI_clamp (by omega)
      exact br_t hm (nm_e (br_t (nI_pos' (by omega)) ⟨vp_in_nI hb (by omega), nm_r (by rw [eb]) hp⟩))
  | succ i ih =>
    intro x y z hi hB hF hO
    obtain ⟨x', hB', wB⟩ := uy_sB (by omega) hB
    obtain ⟨y', hF', wF⟩ := uy_sF (by omega) (hv i (by omega)) hF
    obtain ⟨z', hO', wO⟩ := uy_sO (by omega) hV hO
    obtain ⟨c, hc, hw⟩ := ih x' y' z' (by omega) hB' hF' hO'
    refine ⟨c, hc, ?_⟩
    intro tg sl st rg ps tb pd sa kp sp it lt post hp
    have hin : vp_in (nI i) 6 := vp_in_nI (by omega) (by omega)
    rw [pk_m1]
    refine br_f (nI_pos (by omega)) ⟨hin, wB (fun x => wY_use_42 post (wY_use_22 post (nI g) P nw tg sl st rg ps tb pd sa kp pg sp it pi yu lt (i + 1)) (nI g) P x y z (nI i) nw tg sl st rg ps tb pd sa kp pg sp it pi yu lt) ?_⟩
    refine ⟨hin, wF (fun y => wY_use_56 post (wY_use_22 post (nI g) P nw tg sl st rg ps tb pd sa kp pg sp it pi yu lt (i + 1)) (nI g) P x' y z (nI i) nw tg sl st rg ps tb pd sa kp pg sp it pi yu lt) ?_⟩
    refine ⟨hin, wO (fun z => ∀ w : Int32, w = nI i + (-1) → wY_use_22 post (nI g) P nw tg sl st rg ps tb pd sa kp pg sp it pi yu lt (i + 1) x' y' z w) ?_⟩
    exact nm_e (hw hp)
theorem uy_use {g a : Nat} (hg : g < 3) (ha : a < 64) (pi pg : Nat → Int32) (nw : Int64) (yu : Nat → Int64) (V : Nat → Nat) (hV : ∀ f, f < 6 → yu f = lN (V f) ∧ V f < 2 ^ 31) (hv : ∀ f, f < 6 → pi f = -1 ∨ ∃ p, p < 24 ∧ pi f = nI p) :
    ∃ c, fr_CY pi V (nI (8 * g + a / 8)) c ∧
      ∀ {tg sl : Int32} {st rg ps tb pd sa kp sp it : Nat → Int32} {lt : Nat → Int64} {post : SY → Prop}, post (nw + 1, tg, sl, st, rg, ps, tb, pd, sa, kp, if pi c = nI (8 * g + a / 8) then pg else upd pg g (pg g + 1), sp, it, upd pi c (nI (8 * g + a / 8)), vp_updL yu c (nw + 1), lt) → wpY_use post (nw, tg, sl, st, rg, ps, tb, pd, sa, kp, pg, sp, it, pi, yu, lt) (nI g) (nI a) := by
  obtain ⟨c, hc, hw⟩ := uy_22 hg (nI (8 * g + a / 8)) pi pg nw yu V hV hv 6 (-1) (-1) 0 (by omega) (Or.inl ⟨rfl, fun j h1 h2 => absurd h1 (by omega)⟩) (Or.inl ⟨rfl, fun j h1 h2 => absurd h1 (by omega)⟩) ⟨0, by omega, rfl, fun j h1 h2 => absurd h1 (by omega)⟩
  refine ⟨c, hc, ?_⟩
  intro tg sl st rg ps tb pd sa kp sp it lt post hp
  exact ⟨by decide, nm_r (iy_p ha) ⟨_, hw hp⟩⟩
/-! both together -/
theorem us_use {B g a : Nat} (hB : B < 2 ^ 30) (hg : g < 3) (ha : a < 64) {pi pg : Nat → Int32} {us nw : Int64} {ua yu : Nat → Int64} (h : fr_RF B pi ua us yu nw) :
    ∃ b pg', fr_T b (B + 1) (upd pi b (nI (8 * g + a / 8))) (vp_updL ua b (us + 1)) (us + 1) (vp_updL yu b (nw + 1)) (nw + 1) ∧
      (∀ j, j < 6 → j ≠ b → upd pi b (nI (8 * g + a / 8)) j ≠ nI (8 * g + a / 8)) ∧
      (∀ {tg sl : Int32} {st rg ps tb pd sa kp sp it : Nat → Int32} {lt : Nat → Int64} {post : SX → Prop}, post (us + 1, tg, sl, st, rg, ps, tb, pd, sa, kp, pg', sp, it, upd pi b (nI (8 * g + a / 8)), vp_updL ua b (us + 1), lt) → wpX_use post (us, tg, sl, st, rg, ps, tb, pd, sa, kp, pg, sp, it, pi, ua, lt) (nI g) (nI a)) ∧
      (∀ {tg sl : Int32} {st rg ps tb pd sa kp sp it : Nat → Int32} {lt : Nat → Int64} {post : SY → Prop}, post (nw + 1, tg, sl, st, rg, ps, tb, pd, sa, kp, pg', sp, it, upd pi b (nI (8 * g + a / 8)), vp_updL yu b (nw + 1), lt) → wpY_use post (nw, tg, sl, st, rg, ps, tb, pd, sa, kp, pg, sp, it, pi, yu, lt) (nI g) (nI a)) := by
  obtain ⟨U, V, n, m, hR⟩ := h
  have hR' := hR
  obtain ⟨h1, h2, h3, h4, h5, h6, h7⟩ := hR'
  have hU : ∀ f, f < 6 → ua f = lN (U f) ∧ U f < 2 ^ 31 := fun f hf => ⟨(h5 f hf).1, by have := (h5 f hf).2.2.1; omega⟩
  have hV : ∀ f, f < 6 → yu f = lN (V f) ∧ V f < 2 ^ 31 := fun f hf => ⟨(h5 f hf).2.1, by have := (h5 f hf).2.2.2; omega⟩
  have hv : ∀ f, f < 6 → pi f = -1 ∨ ∃ p, p < 24 ∧ pi f = nI p := fun f hf => (h6 f hf).elim (fun z => Or.inl z.1) (fun ⟨p, hp, e, _⟩ => Or.inr ⟨p, hp, e⟩)
  obtain ⟨b, hb, hX⟩ := ux_use hg ha pi pg us ua U hU
  obtain ⟨c, hc, hY⟩ := uy_use hg ha pi pg nw yu V hV hv
  have hp24 : 8 * g + a / 8 < 24 := by omega
  have e : c = b := fr_pick hR hp24 hb hc
  subst e
  have ho := fr_only hR hp24 hb
  exact ⟨c, _, fr_new hR hb.1 hp24 ho, fun j hj hjb => by rw [pk_un hjb]; exact ho j hj hjb, hX, hY⟩
/-- the reference uses the page that it has just used -/
theorem us_again {B b g a : Nat} (hB : B < 2 ^ 30) (hg : g < 3) (ha : a < 64) {pi pg : Nat → Int32} {us nw : Int64} {ua yu : Nat → Int64} (h : fr_T b B pi ua us yu nw)
    (hb : pi b = nI (8 * g + a / 8)) (ho : ∀ j, j < 6 → j ≠ b → pi j ≠ nI (8 * g + a / 8)) :
    ∀ {tg sl : Int32} {st rg ps tb pd sa kp sp it : Nat → Int32} {lt : Nat → Int64} {post : SY → Prop}, post (nw + 1, tg, sl, st, rg, ps, tb, pd, sa, kp, pg, sp, it, pi, vp_updL yu b (nw + 1), lt) → wpY_use post (nw, tg, sl, st, rg, ps, tb, pd, sa, kp, pg, sp, it, pi, yu, lt) (nI g) (nI a) := by
  obtain ⟨U, V, n, m, hR, hb6, -⟩ := h
  obtain ⟨h1, h2, h3, h4, h5, h6, h7⟩ := hR
  have hV : ∀ f, f < 6 → yu f = lN (V f) ∧ V f < 2 ^ 31 := fun f hf => ⟨(h5 f hf).2.1, by have := (h5 f hf).2.2.2; omega⟩
  have hv : ∀ f, f < 6 → pi f = -1 ∨ ∃ p, p < 24 ∧ pi f = nI p := fun f hf => (h6 f hf).elim (fun z => Or.inl z.1) (fun ⟨p, hp, e, _⟩ => Or.inr ⟨p, hp, e⟩)
  obtain ⟨c, hc, hY⟩ := uy_use hg ha pi pg nw yu V hV hv
  have e : c = b := by
    rcases hc with ⟨hc6, hc | ⟨hc, -⟩⟩
    · exact Classical.byContradiction (fun z => ho c hc6 z hc)
    · exact absurd hb (hc b hb6)
  subst e
  rw [fr_upd_same hb, if_pos hb] at hY
  intro tg sl st rg ps tb pd sa kp sp it lt post hp
  exact hY hp
end
