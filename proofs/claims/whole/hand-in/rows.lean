section
theorem pk_us {f : Nat → Int32} {k : Nat} {x : Int32} : upd f k x k = x := if_pos rfl
theorem pk_un {f : Nat → Int32} {k j : Nat} {x : Int32} (h : j ≠ k) : upd f k x j = f j := if_neg h
theorem pk_uLs {f : Nat → Int64} {k : Nat} {x : Int64} : vp_updL f k x k = x := if_pos rfl
theorem pk_uLn {f : Nat → Int64} {k j : Nat} {x : Int64} (h : j ≠ k) : vp_updL f k x j = f j := if_neg h
theorem pk_sub {a b : Nat} (h : b ≤ a) : nI a - nI b = nI (a - b) := by
  obtain ⟨c, rfl⟩ : ∃ c, a = c + b := ⟨a - b, by omega⟩
  rw [← nI_add, Int32.add_sub_cancel, Nat.add_sub_cancel]
theorem pk_m1 (n : Nat) : nI (n + 1) + (-1) = nI n := by
  rw [← nI_1, Int32.add_assoc, show (1 : Int32) + (-1) = 0 from rfl, Int32.add_zero]
theorem pk_mul (a b : Nat) : nI a * nI b = nI (a * b) := (Int32.ofNat_mul a b).symm
theorem pk_div {a d : Nat} (ha : a < 2 ^ 31) (h0 : 0 < d) (hd : d < 2 ^ 31) : nI a / nI d = nI (a / d) := by
  apply Int32.toInt_inj.mp
  rw [lg_idiv_nonneg (by rw [nI_toInt ha]; omega) (by rw [nI_toInt hd]; omega), nI_toInt ha, nI_toInt hd, nI_toInt (Nat.lt_of_le_of_lt (Nat.div_le_self a d) ha)]
  first | rfl | exact (Int.natCast_ediv _ _).symm
theorem pk_rem {a d : Nat} (ha : a < 2 ^ 31) (h0 : 0 < d) (hd : d < 2 ^ 31) : nI a - nI a / nI d * nI d = nI (a % d) := by
  rw [pk_div ha h0 hd, pk_mul, pk_sub (Nat.div_mul_le_self a d)]
  exact congrArg nI (by have := Nat.div_add_mod' a d; omega)
theorem pk_sub_toInt {a b : Nat} (ha : a < 2 ^ 30) (hb : b < 2 ^ 30) : (nI a - nI b).toInt = (a : Int) - b := by
  rw [Int32.toInt_sub, nI_toInt (by omega), nI_toInt (by omega)]
  exact Int.bmod_eq_of_le (by omega) (by omega)
theorem pk_sneg {a b : Nat} (hb : b < 2 ^ 30) (h : a < b) : nI a - nI b < 0 := by
  rw [Int32.lt_iff_toInt_lt, pk_sub_toInt (by omega) hb, show (0 : Int32).toInt = 0 from by decide]
  omega
theorem pk_ix (x : Int32) {n : Nat} (hn : n < 2 ^ 31) : x < 0 ∨ nI n ≤ x ∨ ∃ j : Nat, j < n ∧ x = nI j := by
  by_cases h : x < 0
  · exact Or.inl h
  · obtain ⟨j, hj, rfl⟩ := nI_of h
    by_cases h2 : j < n
    · exact Or.inr (Or.inr ⟨j, h2, rfl⟩)
    · exact Or.inr (Or.inl (nI_le (by omega) hj))
theorem pk_le {x y : Int32} {A B : Prop} (a b : Nat) (f : a ≤ b → A) (g : b < a → B) (hx : x = nI a := by rfl) (hy : y = nI b := by rfl) (ha : a < 2 ^ 31 := by omega) (hb : b < 2 ^ 31 := by omega) : (x ≤ y → A) ∧ (¬ x ≤ y → B) := by
  subst hx hy
  rw [nI_leI ha hb]
  exact ⟨f, fun z => g (by omega)⟩
theorem pk_lt {x y : Int32} {A B : Prop} (a b : Nat) (f : a < b → A) (g : b ≤ a → B) (hx : x = nI a := by rfl) (hy : y = nI b := by rfl) (ha : a < 2 ^ 31 := by omega) (hb : b < 2 ^ 31 := by omega) : (x < y → A) ∧ (¬ x < y → B) := by
  subst hx hy
  rw [nI_ltI ha hb]
  exact ⟨f, fun z => g (by omega)⟩
theorem pk_eq {x y : Int32} {A B : Prop} (a b : Nat) (f : a = b → A) (g : a ≠ b → B) (hx : x = nI a := by rfl) (hy : y = nI b := by rfl) (ha : a < 2 ^ 31 := by omega) (hb : b < 2 ^ 31 := by omega) : (x = y → A) ∧ (¬ x = y → B) := by
  subst hx hy
  rw [nI_eq ha hb]
  exact ⟨f, g⟩
theorem pk_in {x : Int32} (n N : Nat) (h : n < N) (hx : x = nI n := by rfl) (hN : N < 2 ^ 31 := by omega) : vp_in x N := by
  subst hx
  exact vp_in_nI h hN
theorem pk_cl {x : Int32} (n : Nat) (hx : x = nI n := by rfl) (h : n < 2 ^ 31 := by omega) : x.toNatClampNeg = n := by
  subst hx
  exact nI_clamp h
theorem pk_tn {n : Nat} (h : n < 2 ^ 32) : (nI n).toBitVec.toNat = n := Nat.mod_eq_of_lt h
theorem pk_and (x : Int32) {m : Int32} (k : Nat) (hm : m.toBitVec.toNat = 2 ^ k - 1) : x &&& m = nI (x.toBitVec.toNat % 2 ^ k) := by
  apply Int32.toBitVec_inj.mp
  apply BitVec.eq_of_toNat_eq
  rw [Int32.toBitVec_and, BitVec.toNat_and, hm, Nat.and_two_pow_sub_one_eq_mod]
  show _ = (BitVec.ofNat 32 _).toNat
  rw [BitVec.toNat_ofNat]
  exact (Nat.mod_eq_of_lt (Nat.lt_of_le_of_lt (Nat.mod_le _ _) x.toBitVec.isLt)).symm
theorem pk_andN {n : Nat} (h : n < 2 ^ 32) {m : Int32} (k : Nat) (hm : m.toBitVec.toNat = 2 ^ k - 1) : nI n &&& m = nI (n % 2 ^ k) := by
  rw [pk_and _ k hm, pk_tn h]
theorem pk_andE (x : Int32) {m : Int32} (k : Nat) (hm : m.toBitVec.toNat = 2 ^ k - 1) : ∃ j : Nat, j < 2 ^ k ∧ x &&& m = nI j := ⟨_, Nat.mod_lt _ (Nat.two_pow_pos k), pk_and x k hm⟩
theorem pk_andIn (x : Int32) {m : Int32} (k : Nat) (hm : m.toBitVec.toNat = 2 ^ k - 1) (hk : k ≤ 30) : vp_in (x &&& m) (2 ^ k) := by
  obtain ⟨j, hj, e⟩ := pk_andE x k hm
  rw [e]
  exact vp_in_nI hj (Nat.lt_of_le_of_lt (Nat.pow_le_pow_right (by decide) hk) (by decide))
theorem pk_shl (a s : Int32) (k : Nat) (hs : (s.toBitVec.smod 32).toNat = k) : (a <<< s).toBitVec.toNat = a.toBitVec.toNat * 2 ^ k % 2 ^ 32 := by
  show (a.toBitVec <<< (s.toBitVec.smod 32).toNat).toNat = _
  rw [hs, BitVec.toNat_shiftLeft, Nat.shiftLeft_eq]
theorem pk_shlN {n : Nat} (s : Int32) (k : Nat) (hs : (s.toBitVec.smod 32).toNat = k) (h : n * 2 ^ k < 2 ^ 32) : nI n <<< s = nI (n * 2 ^ k) := by
  apply Int32.toBitVec_inj.mp
  apply BitVec.eq_of_toNat_eq
  have hn : n < 2 ^ 32 := Nat.lt_of_le_of_lt (Nat.le_mul_of_pos_right n (Nat.two_pow_pos k)) h
  rw [pk_shl _ _ k hs, pk_tn hn, pk_tn h, Nat.mod_eq_of_lt h]
theorem pk_shr (a s : Int32) (k : Nat) (hs : (s.toBitVec.smod 32).toNat = k) : (a >>> s).toInt = a.toInt >>> k := by
  show (a.toBitVec.sshiftRight (s.toBitVec.smod 32).toNat).toInt = _
  rw [hs, BitVec.toInt_sshiftRight]
  rfl
theorem pk_shrN {n : Nat} (h : n < 2 ^ 31) (s : Int32) (k : Nat) (hs : (s.toBitVec.smod 32).toNat = k) : nI n >>> s = nI (n / 2 ^ k) := by
  apply Int32.toInt_inj.mp
  have h2 : n / 2 ^ k ≤ n := Nat.div_le_self _ _
  rw [pk_shr _ _ k hs, nI_toInt h, nI_toInt (by omega), Int.shiftRight_eq_div_pow]
  rfl
theorem pk_ushr (x s : Int32) (k : Nat) (hs : ((s.toUInt32 &&& Int32.toUInt32 31).toBitVec % 32).toNat = k) : (x.toUInt32 >>> (s.toUInt32 &&& Int32.toUInt32 31)).toInt32.toBitVec.toNat = x.toBitVec.toNat / 2 ^ k := by
  have e : (x.toUInt32 >>> (s.toUInt32 &&& Int32.toUInt32 31)).toInt32.toBitVec = x.toBitVec >>> k := by
    rw [← hs]
    exact UInt32.toBitVec_shiftRight _ _
  rw [e, BitVec.toNat_ushiftRight, Nat.shiftRight_eq_div_pow]
theorem pk_ushrN {n : Nat} (hn : n < 2 ^ 32) (s : Int32) (k : Nat) (hs : ((s.toUInt32 &&& Int32.toUInt32 31).toBitVec % 32).toNat = k) : ((nI n).toUInt32 >>> (s.toUInt32 &&& Int32.toUInt32 31)).toInt32 = nI (n / 2 ^ k) := by
  apply Int32.toBitVec_inj.mp
  apply BitVec.eq_of_toNat_eq
  rw [pk_ushr _ s k hs, pk_tn hn, pk_tn (Nat.lt_of_le_of_lt (Nat.div_le_self _ _) hn)]
/-! frames: the class's stamps (U) and the reference's (V) order the filled frames alike -/
def fr_R (B : Nat) (pi : Nat → Int32) (ua : Nat → Int64) (us : Int64) (yu : Nat → Int64) (nw : Int64) (U V : Nat → Nat) (n m : Nat) : Prop :=
  us = lN n ∧ nw = lN m ∧ n ≤ B ∧ m ≤ B ∧
  (∀ f, f < 6 → ua f = lN (U f) ∧ yu f = lN (V f) ∧ U f ≤ n ∧ V f ≤ m) ∧
  (∀ f, f < 6 → (pi f = -1 ∧ U f = 0) ∨ (∃ p, p < 24 ∧ pi f = nI p ∧ 0 < U f)) ∧
  (∀ f g, f < 6 → g < 6 → f ≠ g → pi f ≠ -1 → pi g ≠ -1 → pi f ≠ pi g ∧ U f ≠ U g ∧ (U f < U g ↔ V f < V g))
def fr_RF (B : Nat) (pi : Nat → Int32) (ua : Nat → Int64) (us : Int64) (yu : Nat → Int64) (nw : Int64) : Prop :=
  ∃ U V n m, fr_R B pi ua us yu nw U V n m
def fr_T (b B : Nat) (pi : Nat → Int32) (ua : Nat → Int64) (us : Int64) (yu : Nat → Int64) (nw : Int64) : Prop :=
  ∃ U V n m, fr_R B pi ua us yu nw U V n m ∧ b < 6 ∧ pi b ≠ -1 ∧ (∀ f, f < 6 → f ≠ b → pi f ≠ -1 → U f < U b)
theorem fr_T_RF {b B : Nat} {pi : Nat → Int32} {ua : Nat → Int64} {us : Int64} {yu : Nat → Int64} {nw : Int64} (h : fr_T b B pi ua us yu nw) : fr_RF B pi ua us yu nw := by
  obtain ⟨U, V, n, m, h, -⟩ := h
  exact ⟨U, V, n, m, h⟩
theorem fr_mono {B B' : Nat} {pi : Nat → Int32} {ua : Nat → Int64} {us : Int64} {yu : Nat → Int64} {nw : Int64} (h : fr_RF B pi ua us yu nw) (hB : B ≤ B') : fr_RF B' pi ua us yu nw := by
  obtain ⟨U, V, n, m, h1, h2, h3, h4, h5⟩ := h
  exact ⟨U, V, n, m, h1, h2, Nat.le_trans h3 hB, Nat.le_trans h4 hB, h5⟩
theorem fr_nm1 {p : Nat} (h : p < 24) : nI p ≠ -1 := by
  intro e
  have e2 := congrArg Int32.toInt e
  rw [nI_toInt (by omega), show (-1 : Int32).toInt = -1 from by decide] at e2
  omega
theorem fr_new {b B p : Nat} {pi : Nat → Int32} {ua : Nat → Int64} {us : Int64} {yu : Nat → Int64} {nw : Int64} {U V : Nat → Nat} {n m : Nat}
    (h : fr_R B pi ua us yu nw U V n m) (hb : b < 6) (hp : p < 24) (hu : ∀ j, j < 6 → j ≠ b → pi j ≠ nI p) :
    fr_T b (B + 1) (upd pi b (nI p)) (vp_updL ua b (us + 1)) (us + 1) (vp_updL yu b (nw + 1)) (nw + 1) := by
  obtain ⟨h1, h2, h3, h4, h5, h6, h7⟩ := h
  have hn : us + 1 = lN (n + 1) := by rw [h1]; exact lN_1 n
  have hm : nw + 1 = lN (m + 1) := by rw [h2]; exact lN_1 m
  have hpn := fr_nm1 hp
  refine ⟨fun f => if f = b then n + 1 else U f, fun f => if f = b then m + 1 else V f, n + 1, m + 1, ⟨hn, hm, by omega, by omega, ?_, ?_, ?_⟩, hb, ?_, ?_⟩
  · intro f hf
    obtain ⟨a1, a2, a3, a4⟩ := h5 f hf
    by_cases e : f = b
    · subst e
      simp only [if_true, pk_uLs]
      exact ⟨hn, hm, Nat.le_refl _, Nat.le_refl _⟩
    · simp only [if_neg e, pk_uLn e]
      exact ⟨a1, a2, by omega, by omega⟩
  · intro f hf
    by_cases e : f = b
    · subst e
      simp only [if_true, pk_us]
      exact Or.inr ⟨p, hp, rfl, by omega⟩
    · simp only [if_neg e, pk_un e]
      exact h6 f hf
  · intro f g hf hg hfg
    by_cases e : f = b
    · subst e
      have e2 : g ≠ f := fun z => hfg z.symm
      simp only [if_true, pk_us, if_neg e2, pk_un e2]
      intro _ hgn
      obtain ⟨-, -, a3, a4⟩ := h5 g hg
      exact ⟨fun z => hu g hg e2 z.symm, by omega, by omega⟩
    · by_cases e2 : g = b
      · subst e2
        simp only [if_true, pk_us, if_neg e, pk_un e]
        intro hfn _
        obtain ⟨-, -, a3, a4⟩ := h5 f hf
        exact ⟨hu f hf e, by omega, by omega⟩
      · simp only [if_neg e, if_neg e2, pk_un e, pk_un e2]
        exact h7 f g hf hg hfg
  · rw [pk_us]; exact hpn
  · intro f hf e
    simp only [if_true, if_neg e]
    intro _
    obtain ⟨-, -, a3, -⟩ := h5 f hf
    omega
theorem fr_again {b B : Nat} {pi : Nat → Int32} {ua : Nat → Int64} {us : Int64} {yu : Nat → Int64} {nw : Int64}
    (h : fr_T b B pi ua us yu nw) : fr_T b (B + 1) pi ua us (vp_updL yu b (nw + 1)) (nw + 1) := by
  obtain ⟨U, V, n, m, ⟨h1, h2, h3, h4, h5, h6, h7⟩, hb, hpb, ht⟩ := h
  have hm : nw + 1 = lN (m + 1) := by rw [h2]; exact lN_1 m
  refine ⟨U, fun f => if f = b then m + 1 else V f, n, m + 1, ⟨h1, hm, by omega, by omega, ?_, h6, ?_⟩, hb, hpb, ht⟩
  · intro f hf
    obtain ⟨a1, a2, a3, a4⟩ := h5 f hf
    by_cases e : f = b
    · subst e
      simp only [if_true, pk_uLs]
      exact ⟨a1, hm, a3, Nat.le_refl _⟩
    · simp only [if_neg e, pk_uLn e]
      exact ⟨a1, a2, a3, by omega⟩
  · intro f g hf hg hfg hfn hgn
    obtain ⟨c1, c2, c3⟩ := h7 f g hf hg hfg hfn hgn
    obtain ⟨-, -, a3, a4⟩ := h5 f hf
    obtain ⟨-, -, a5, a6⟩ := h5 g hg
    by_cases e : f = b
    · subst e
      have e2 : g ≠ f := fun z => hfg z.symm
      have := ht g hg e2 hgn
      simp only [if_true, if_neg e2]
      exact ⟨c1, c2, by omega⟩
    · by_cases e2 : g = b
      · subst e2
        have := ht f hf e hfn
        simp only [if_true, if_neg e]
        exact ⟨c1, c2, by omega⟩
      · simp only [if_neg e, if_neg e2]
        exact ⟨c1, c2, c3⟩
theorem fr_free {B f : Nat} {pi : Nat → Int32} {ua : Nat → Int64} {us : Int64} {yu : Nat → Int64} {nw : Int64}
    (h : fr_RF B pi ua us yu nw) : fr_RF B (upd pi f (-1)) (vp_updL ua f 0) us yu nw := by
  obtain ⟨U, V, n, m, h1, h2, h3, h4, h5, h6, h7⟩ := h
  refine ⟨fun j => if j = f then 0 else U j, V, n, m, h1, h2, h3, h4, ?_, ?_, ?_⟩
  · intro j hj
    obtain ⟨a1, a2, a3, a4⟩ := h5 j hj
    by_cases e : j = f
    · subst e
      simp only [if_true, pk_uLs]
      exact ⟨rfl, a2, by omega, a4⟩
    · simp only [if_neg e, pk_uLn e]
      exact ⟨a1, a2, a3, a4⟩
  · intro j hj
    by_cases e : j = f
    · subst e
      simp only [if_true, pk_us]
      exact Or.inl ⟨by trivial, by trivial⟩
    · simp only [if_neg e, pk_un e]
      exact h6 j hj
  · intro i j hi hj hij
    by_cases e : i = f
    · subst e
      rw [pk_us]
      exact fun z => absurd rfl z
    · by_cases e2 : j = f
      · subst e2
        rw [pk_us]
        exact fun _ z => absurd rfl z
      · simp only [if_neg e, if_neg e2, pk_un e, pk_un e2]
        exact h7 i j hi hj hij
/-- what the class's two loops find -/
def fr_CX (pi : Nat → Int32) (U : Nat → Nat) (P : Int32) (b : Nat) : Prop :=
  b < 6 ∧ (pi b = P ∨ ((∀ j, j < 6 → pi j ≠ P) ∧ (∀ j, j < 6 → U b ≤ U j) ∧ (∀ j, j < b → U b < U j)))
/-- what the reference's loop finds -/
def fr_CY (pi : Nat → Int32) (V : Nat → Nat) (P : Int32) (b : Nat) : Prop :=
  b < 6 ∧ (pi b = P ∨ ((∀ j, j < 6 → pi j ≠ P) ∧ ((pi b = -1 ∧ ∀ j, j < b → pi j ≠ -1) ∨ ((∀ j, j < 6 → pi j ≠ -1) ∧ ∀ j, j < 6 → V b ≤ V j))))
theorem fr_pick {B p b c : Nat} {pi : Nat → Int32} {ua : Nat → Int64} {us : Int64} {yu : Nat → Int64} {nw : Int64} {U V : Nat → Nat} {n m : Nat}
    (h : fr_R B pi ua us yu nw U V n m) (hp : p < 24) (hx : fr_CX pi U (nI p) b) (hy : fr_CY pi V (nI p) c) : c = b := by
  obtain ⟨h1, h2, h3, h4, h5, h6, h7⟩ := h
  obtain ⟨hb, hx⟩ := hx
  obtain ⟨hc, hy⟩ := hy
  have hpn := fr_nm1 hp
  apply Classical.byContradiction
  intro hne
  have hbc : b ≠ c := fun z => hne z.symm
  rcases hx with hx | ⟨x1, x2, x3⟩
  · rcases hy with hy | ⟨y1, -⟩
    · exact (h7 b c hb hc hbc (by rw [hx]; exact hpn) (by rw [hy]; exact hpn)).1 (by rw [hx, hy])
    · exact y1 b hb hx
  · rcases hy with hy | ⟨y1, ⟨y2, y3⟩ | ⟨y2, y3⟩⟩
    · exact x1 c hc hy
    · have hu : U c = 0 := by
        rcases h6 c hc with ⟨-, e⟩ | ⟨p', hp', e, -⟩
        · exact e
        · exact absurd (e.symm.trans y2) (fr_nm1 hp')
      have hub : U b = 0 := by have := x2 c hc; omega
      have hbf : pi b = -1 := by
        rcases h6 b hb with ⟨e, -⟩ | ⟨_, _, _, e⟩
        · exact e
        · omega
      have hlt : c < b ∨ b < c := by omega
      rcases hlt with hl | hl
      · have := x3 c hl; omega
      · exact y3 b hl hbf
    · obtain ⟨-, c2, c3⟩ := h7 b c hb hc hbc (y2 b hb) (y2 c hc)
      have := x2 c hc
      have := y3 b hb
      omega
theorem fr_upd_same {pi : Nat → Int32} {b : Nat} {P : Int32} (h : pi b = P) : upd pi b P = pi := by
  funext j
  unfold upd
  by_cases e : j = b
  · rw [if_pos e, e, h]
  · rw [if_neg e]
theorem fr_upd2 {f : Nat → Int32} {k : Nat} {x y : Int32} : upd (upd f k x) k y = upd f k y := by
  funext j
  unfold upd
  by_cases e : j = k
  · rw [if_pos e, if_pos e]
  · rw [if_neg e, if_neg e, if_neg e]
theorem fr_only {B p b : Nat} {pi : Nat → Int32} {ua : Nat → Int64} {us : Int64} {yu : Nat → Int64} {nw : Int64} {U V : Nat → Nat} {n m : Nat}
    (h : fr_R B pi ua us yu nw U V n m) (hp : p < 24) (hx : fr_CX pi U (nI p) b) : ∀ j, j < 6 → j ≠ b → pi j ≠ nI p := by
  obtain ⟨h1, h2, h3, h4, h5, h6, h7⟩ := h
  obtain ⟨hb, hx⟩ := hx
  have hpn := fr_nm1 hp
  intro j hj hjb e
  rcases hx with hx | ⟨x1, -⟩
  · exact (h7 j b hj hb hjb (by rw [e]; exact hpn) (by rw [hx]; exact hpn)).1 (by rw [e, hx])
  · exact x1 j hj e
end
section
def bt (x : Int32) (i : Nat) : Bool := x.toBitVec.getLsbD i
theorem b_ext {x y : Int32} (h : ∀ i, i < 32 → bt x i = bt y i) : x = y := Int32.toBitVec_inj.mp (BitVec.eq_of_getLsbD_eq (fun i hi => h i hi))
theorem b_or (x y : Int32) (i : Nat) : bt (x ||| y) i = (bt x i || bt y i) := by unfold bt; rw [Int32.toBitVec_or, BitVec.getLsbD_or]
theorem b_and (x y : Int32) (i : Nat) : bt (x &&& y) i = (bt x i && bt y i) := by unfold bt; rw [Int32.toBitVec_and, BitVec.getLsbD_and]
theorem b_xor (x y : Int32) (i : Nat) : bt (x ^^^ y) i = (bt x i ^^ bt y i) := by unfold bt; rw [Int32.toBitVec_xor, BitVec.getLsbD_xor]
theorem bi_63 : ∀ i, i < 32 → bt 63 i = decide (i < 6) := by decide +kernel
theorem bi_m64 : ∀ i, i < 32 → bt (-64) i = decide (6 ≤ i) := by decide +kernel
theorem bi_keep (x y : Int32) : ((x &&& (-64)) ||| (y &&& 63)) &&& (-64) = x &&& (-64) := by
  apply b_ext
  intro i hi
  rw [b_and, b_or, b_and, b_and, bi_63 i hi, bi_m64 i hi]
  by_cases h : 6 ≤ i
  · rw [decide_eq_true h, decide_eq_false (by omega)]
    cases bt x i <;> cases bt y i <;> rfl
  · rw [decide_eq_false h]
    cases bt x i <;> cases bt y i <;> simp
theorem bi_next (x : Int32) : (x + 1) &&& 63 = ((x &&& 63) + 1) &&& 63 := by
  have hm : (63 : Int32).toBitVec.toNat = 2 ^ 6 - 1 := by decide
  have e : (x + 1).toBitVec.toNat = (x.toBitVec.toNat + 1) % 2 ^ 32 := by
    rw [Int32.toBitVec_add, BitVec.toNat_add]
    rfl
  rw [pk_and _ 6 hm, pk_and x 6 hm, nI_1, pk_andN (by omega) 6 hm, e]
  exact congrArg nI (by omega)
theorem bi_63N {a : Nat} (h : a < 64) : nI a &&& 63 = nI a := by
  rw [pk_andN (by omega) 6 (by decide), Nat.mod_eq_of_lt (by omega)]
theorem bi_E63 (x : Int32) : ∃ j : Nat, j < 64 ∧ x &&& 63 = nI j := pk_andE x 6 (by decide)
theorem bi_E15 (x : Int32) : ∃ j : Nat, j < 16 ∧ x &&& 15 = nI j := pk_andE x 4 (by decide)
theorem bi_E7 (x : Int32) : ∃ j : Nat, j < 8 ∧ x &&& 7 = nI j := pk_andE x 3 (by decide)
theorem bi_E3 (x : Int32) : ∃ j : Nat, j < 4 ∧ x &&& 3 = nI j := pk_andE x 2 (by decide)
/-! indices -/
theorem ix_64 (g a : Nat) : nI g * 64 + nI a = nI (64 * g + a) := by
  show nI g * nI 64 + nI a = _
  rw [pk_mul, nI_add, Nat.mul_comm]
theorem iy_64 (g a : Nat) : 64 * nI g + nI a = nI (64 * g + a) := by
  show nI 64 * nI g + nI a = _
  rw [pk_mul, nI_add]
theorem ix_4 (g a : Nat) : nI g * 4 + nI a = nI (4 * g + a) := by
  show nI g * nI 4 + nI a = _
  rw [pk_mul, nI_add, Nat.mul_comm]
theorem iy_4 (g a : Nat) : 4 * nI g + nI a = nI (4 * g + a) := by
  show nI 4 * nI g + nI a = _
  rw [pk_mul, nI_add]
theorem iy_4' (g : Nat) : 4 * nI g = nI (4 * g) := by
  show nI 4 * nI g = _
  rw [pk_mul]
theorem ix_p {g a : Nat} (ha : a < 64) : nI g * 8 + nI a / 8 = nI (8 * g + a / 8) := by
  show nI g * nI 8 + nI a / nI 8 = _
  rw [pk_div (by omega) (by decide) (by decide), pk_mul, nI_add, Nat.mul_comm]
theorem iy_p {g a : Nat} (ha : a < 64) : 8 * nI g + nI a / 8 = nI (8 * g + a / 8) := by
  show nI 8 * nI g + nI a / nI 8 = _
  rw [pk_div (by omega) (by decide) (by decide), pk_mul, nI_add]
theorem ix_pl {q a : Nat} (ha : a < 64) : nI q * 8 + (nI a - nI a / 8 * 8) = nI (8 * q + a % 8) := by
  show nI q * nI 8 + (nI a - nI a / nI 8 * nI 8) = _
  rw [pk_rem (by omega) (by decide) (by decide), pk_mul, nI_add, Nat.mul_comm]
theorem iy_pl {q a : Nat} (ha : a < 64) : 8 * nI q + (nI a - nI a / 8 * 8) = nI (8 * q + a % 8) := by
  show nI 8 * nI q + (nI a - nI a / nI 8 * nI 8) = _
  rw [pk_rem (by omega) (by decide) (by decide), pk_mul, nI_add]
theorem ix_m3 {a : Nat} (ha : a < 1000) : nI a - nI a / 3 * 3 = nI (a % 3) := pk_rem (d := 3) (by omega) (by decide) (by decide)
theorem ix_f {p : Nat} (h : p < 24) : nI p / 8 = nI (p / 8) := pk_div (d := 8) (by omega) (by decide) (by decide)
theorem ix_g (g : Int32) : g < 0 ∨ 3 ≤ g ∨ ∃ j : Nat, j < 3 ∧ g = nI j := pk_ix g (n := 3) (by decide)
theorem ix_a (g : Int32) : g < 0 ∨ 64 ≤ g ∨ ∃ j : Nat, j < 64 ∧ g = nI j := pk_ix g (n := 64) (by decide)
theorem ix_s (g : Int32) : g < 0 ∨ 2 ≤ g ∨ ∃ j : Nat, j < 2 ∧ g = nI j := pk_ix g (n := 2) (by decide)
theorem ix_8 (g : Int32) : g < 0 ∨ 8 ≤ g ∨ ∃ j : Nat, j < 8 ∧ g = nI j := pk_ix g (n := 8) (by decide)
end
section
section
variable {us nw : Int64} {tg sl : Int32} {st rg ps tb pd sa kp pg sp it pi : Nat → Int32} {ua yu lt : Nat → Int64}
/-! the class's use -/
theorem ux_111 {post : SX → Prop} {b : Nat} (hb : b < 6) (h : post (us + 1, tg, sl, st, rg, ps, tb, pd, sa, kp, pg, sp, it, pi, vp_updL ua b (us + 1), lt)) : wX_use_111 post (nI b) us tg sl st rg ps tb pd sa kp pg sp it pi ua lt := by
  refine nm_e ⟨vp_in_nI hb (by omega), nm_e ?_⟩
  rw [nI_clamp (by omega)]
  exact h
theorem ux_54 {g : Nat} (hg : g < 3) (P : Int32) (pi pg : Nat → Int32) (us : Int64) (ua : Nat → Int64) : ∀ d i f : Nat, i + d = 6 → f < 6 → ((∀ j, j < i → pi j ≠ P) ∨ pi f = P) →
    ∃ b, b < 6 ∧ (pi b = P ∨ (b = f ∧ ∀ j, j < 6 → pi j ≠ P)) ∧
      ∀ {tg sl : Int32} {st rg ps tb pd sa kp sp it : Nat → Int32} {lt : Nat → Int64} {post : SX → Prop}, post (us + 1, tg, sl, st, rg, ps, tb, pd, sa, kp, if pi b = P then pg else upd pg g (pg g + 1), sp, it, upd pi b P, vp_updL ua b (us + 1), lt) → wX_use_54 post (nI g) P us tg sl st rg ps tb pd sa kp pg sp it pi ua lt (d + 1) (nI f) (nI i) := by
  intro d
  induction d with
  | zero =>
    intro i f hi hf hH
    have hi6 : i = 6 := by omega
    subst hi6
    have ef : (nI f).toNatClampNeg = f := nI_clamp (by omega)
    have eg : (nI g).toNatClampNeg = g := nI_clamp (by omega)
    by_cases hP : pi f = P
    · refine ⟨f, hf, Or.inl hP, ?_⟩
      intro tg sl st rg ps tb pd sa kp sp it lt post hp
      rw [if_pos hP, fr_upd_same hP] at hp
      refine br_t (nI_le (a := 6) (by omega) (by omega)) ⟨vp_in_nI hf (by omega), br_t (by rw [ef]; exact hP) (ux_111 hf hp)⟩
    · refine ⟨f, hf, Or.inr ⟨rfl, hH.resolve_right hP⟩, ?_⟩
      intro tg sl st rg ps tb pd sa kp sp it lt post hp
      rw [if_neg hP] at hp
      refine br_t (nI_le (a := 6) (by omega) (by omega)) ⟨vp_in_nI hf (by omega), br_f (by rw [ef]; exact hP) ⟨vp_in_nI hf (by omega), nm_r (by rw [ef]) ⟨vp_in_nI hg (by omega), vp_in_nI hg (by omega), nm_r (by rw [eg]) (ux_111 hf hp)⟩⟩⟩
  | succ d ih =>
    intro i f hi hf hH
    have ei : (nI i).toNatClampNeg = i := nI_clamp (by omega)
    have h6 : ¬ (6 : Int32) ≤ nI i := nI_ge (b := 6) (by omega) (by decide)
    by_cases hP : pi i = P
    · obtain ⟨b, hb, hr, hw⟩ := ih (i + 1) i (by omega) (by omega) (Or.inr hP)
      refine ⟨b, hb, Or.inl (hr.elim id (fun z => absurd hP (z.2 i (by omega)))), ?_⟩
      intro tg sl st rg ps tb pd sa kp sp it lt post hp
      exact br_f h6 ⟨vp_in_nI (by omega) (by omega), br_t (by rw [ei]; exact hP) (nm_r (nI_1 i) (hw hp))⟩
    · obtain ⟨b, hb, hr, hw⟩ := ih (i + 1) f (by omega) hf (hH.elim (fun z => Or.inl (lt_s z hP)) Or.inr)
      refine ⟨b, hb, hr, ?_⟩
      intro tg sl st rg ps tb pd sa kp sp it lt post hp
      exact br_f h6 ⟨vp_in_nI (by omega) (by omega), br_f (by rw [ei]; exact hP) (nm_r (nI_1 i) (hw hp))⟩
theorem ux_16 {g : Nat} (P : Int32) (pi pg : Nat → Int32) (us : Int64) (ua : Nat → Int64) (U : Nat → Nat) (hU : ∀ f, f < 6 → ua f = lN (U f) ∧ U f < 2 ^ 31) : ∀ d i f : Nat, i + d = 6 → f < 6 → f < i → (∀ j, j < i → U f ≤ U j) → (∀ j, j < f → U f < U j) →
    ∃ b, b < 6 ∧ (∀ j, j < 6 → U b ≤ U j) ∧ (∀ j, j < b → U b < U j) ∧
      ∀ {tg sl : Int32} {st rg ps tb pd sa kp sp it : Nat → Int32} {lt : Nat → Int64} {post : SX → Prop}, (∃ n54 : Nat, wX_use_54 post (nI g) P us tg sl st rg ps tb pd sa kp pg sp it pi ua lt n54 (nI b) 0) → wX_use_16 post (nI g) P us tg sl st rg ps tb pd sa kp pg sp it pi ua lt (d + 1) (nI f) (nI i) := by
  intro d
  induction d with
  | zero =>
    intro i f hi hf hfi h1 h2
    have hi6 : i = 6 := by omega
    subst hi6
    refine ⟨f, hf, h1, h2, ?_⟩
    intro tg sl st rg ps tb pd sa kp sp it lt post hp
    exact br_t (nI_le (a := 6) (by omega) (by omega)) hp
  | succ d ih =>
    intro i f hi hf hfi h1 h2
    have ei : (nI i).toNatClampNeg = i := nI_clamp (by omega)
    have ef : (nI f).toNatClampNeg = f := nI_clamp (by omega)
    have h6 : ¬ (6 : Int32) ≤ nI i := nI_ge (b := 6) (by omega) (by decide)
    obtain ⟨ui, bi⟩ := hU i (by omega)
    obtain ⟨uf, bf⟩ := hU f hf
    have hc : ua (nI f).toNatClampNeg ≤ ua (nI i).toNatClampNeg ↔ U f ≤ U i := by rw [ei, ef, ui, uf, lN_le bf bi]
    by_cases hP : U f ≤ U i
    · obtain ⟨b, hb, r1, r2, hw⟩ := ih (i + 1) f (by omega) hf (by omega) (lt_s h1 hP) h2
      refine ⟨b, hb, r1, r2, ?_⟩
      intro tg sl st rg ps tb pd sa kp sp it lt post hp
      exact br_f h6 ⟨vp_in_nI (by omega) (by omega), vp_in_nI hf (by omega), br_t (hc.mpr hP) (nm_r (nI_1 i) (hw hp))⟩
    · have g1 : ∀ j, j < i → U i ≤ U j := fun j hj => by have := h1 j hj; omega
      have g2 : ∀ j, j < i → U i < U j := fun j hj => by have := h1 j hj; omega
      obtain ⟨b, hb, r1, r2, hw⟩ := ih (i + 1) i (by omega) (by omega) (by omega) (lt_s g1 (Nat.le_refl _)) g2
      refine ⟨b, hb, r1, r2, ?_⟩
      intro tg sl st rg ps tb pd sa kp sp it lt post hp
      exact br_f h6 ⟨vp_in_nI (by omega) (by omega), vp_in_nI hf (by omega), br_f (fun z => hP (hc.mp z)) (nm_r (nI_1 i) (hw hp))⟩
theorem ux_use {g a : Nat} (hg : g < 3) (ha : a < 64) (pi pg : Nat → Int32) (us : Int64) (ua : Nat → Int64) (U : Nat → Nat) (hU : ∀ f, f < 6 → ua f = lN (U f) ∧ U f < 2 ^ 31) :
    ∃ b, fr_CX pi U (nI (8 * g + a / 8)) b ∧
      ∀ {tg sl : Int32} {st rg ps tb pd sa kp sp it : Nat → Int32} {lt : Nat → Int64} {post : SX → Prop}, post (us + 1, tg, sl, st, rg, ps, tb, pd, sa, kp, if pi b = nI (8 * g + a / 8) then pg else upd pg g (pg g + 1), sp, it, upd pi b (nI (8 * g + a / 8)), vp_updL ua b (us + 1), lt) → wpX_use post (us, tg, sl, st, rg, ps, tb, pd, sa, kp, pg, sp, it, pi, ua, lt) (nI g) (nI a) := by
  obtain ⟨b0, hb0, r1, r2, hw1⟩ := ux_16 (g := g) (nI (8 * g + a / 8)) pi pg us ua U hU 5 1 0 (by omega) (by omega) (by omega) (fun j hj => Nat.le_of_eq (congrArg U (by omega))) (fun j hj => absurd hj (by omega))
  obtain ⟨b, hb, r3, hw2⟩ := ux_54 hg (nI (8 * g + a / 8)) pi pg us ua 6 0 b0 (by omega) hb0 (Or.inl (fun j hj => absurd hj (by omega)))
  refine ⟨b, ⟨hb, r3.elim Or.inl (fun z => Or.inr ⟨z.2, by rw [z.1]; exact r1, by rw [z.1]; exact r2⟩)⟩, ?_⟩
  intro tg sl st rg ps tb pd sa kp sp it lt post hp
  exact ⟨by decide, nm_r (ix_p ha) ⟨_, hw1 ⟨_, hw2 hp⟩⟩⟩
/-! the reference's use -/
def uy_HB (pi : Nat → Int32) (P : Int32) (i : Nat) (x : Int32) : Prop := (x = -1 ∧ ∀ j, i ≤ j → j < 6 → pi j ≠ P) ∨ ∃ b, b < 6 ∧ x = nI b ∧ pi b = P
def uy_HF (pi : Nat → Int32) (i : Nat) (x : Int32) : Prop := (x = -1 ∧ ∀ j, i ≤ j → j < 6 → pi j ≠ -1) ∨ ∃ c, i ≤ c ∧ c < 6 ∧ x = nI c ∧ pi c = -1 ∧ ∀ j, i ≤ j → j < c → pi j ≠ -1
def uy_HO (V : Nat → Nat) (i : Nat) (x : Int32) : Prop := ∃ o, o < 6 ∧ x = nI o ∧ ∀ j, i ≤ j → j < 6 → V o ≤ V j
theorem uy_sB {pi : Nat → Int32} {P : Int32} {i : Nat} {x : Int32} (hi : i < 6) (h : uy_HB pi P (i + 1) x) : ∃ y, uy_HB pi P i y ∧ ∀ W : Int32 → Prop, W y → ((pi (nI i).toNatClampNeg = P → W (nI i)) ∧ (¬ pi (nI i).toNatClampNeg = P → W x)) := by
  have ei : (nI i).toNatClampNeg = i := nI_clamp (by omega)
  rw [ei]
  by_cases hP : pi i = P
  · exact ⟨nI i, Or.inr ⟨i, hi, rfl, hP⟩, fun W hW => br_t hP hW⟩
  · refine ⟨x, ?_, fun W hW => br_f hP hW⟩
    rcases h with ⟨e, h⟩ | h
    · refine Or.inl ⟨e, fun j h1 h2 => ?_⟩
      by_cases hj : j = i
      · rw [hj]; exact hP
      · exact h j (by omega) h2
    · exact Or.inr h
theorem uy_sF {pi : Nat → Int32} {i : Nat} {x : Int32} (hi : i < 6) (hv : pi i = -1 ∨ ∃ p, p < 24 ∧ pi i = nI p) (h : uy_HF pi (i + 1) x) : ∃ y, uy_HF pi i y ∧ ∀ W : Int32 → Prop, W y → ((0 ≤ pi (nI i).toNatClampNeg → W x) ∧ (¬ 0 ≤ pi (nI i).toNatClampNeg → W (nI i))) := by
  have ei : (nI i).toNatClampNeg = i := nI_clamp (by omega)
  rw [ei]
  rcases hv with hv | ⟨p, hp, hv⟩
  · refine ⟨nI i, Or.inr ⟨i, Nat.le_refl _, hi, rfl, hv, fun j h1 h2 => absurd h2 (by omega)⟩, fun W hW => br_f (by rw [hv]; decide) hW⟩
  · refine ⟨x, ?_, fun W hW => br_t (by rw [hv]; exact nI_pos' (by omega)) hW⟩
    have hne : pi i ≠ -1 := by rw [hv]; exact fr_nm1 hp
    rcases h with ⟨e, h⟩ | ⟨c, h1, h2, h3, h4, h5⟩
    · refine Or.inl ⟨e, fun j h1 h2 => ?_⟩
      by_cases hj : j = i
      · rw [hj]; exact hne
      · exact h j (by omega) h2
    · refine Or.inr ⟨c, by omega, h2, h3, h4, fun j g1 g2 => ?_⟩
      by_cases hj : j = i
      · rw [hj]; exact hne
      · exact h5 j (by omega) g2
theorem uy_sO {yu : Nat → Int64} {V : Nat → Nat} {i : Nat} {x : Int32} (hi : i < 6) (hV : ∀ f, f < 6 → yu f = lN (V f) ∧ V f < 2 ^ 31) (h : uy_HO V (i + 1) x) : ∃ y, uy_HO V i y ∧ ∀ W : Int32 → Prop, W y → (vp_in x 6 ∧ ((yu x.toNatClampNeg ≤ yu (nI i).toNatClampNeg → W x) ∧ (¬ yu x.toNatClampNeg ≤ yu (nI i).toNatClampNeg → W (nI i)))) := by
  obtain ⟨o, ho, rfl, h⟩ := h
  have ei : (nI i).toNatClampNeg = i := nI_clamp (by omega)
  have eo : (nI o).toNatClampNeg = o := nI_clamp (by omega)
  obtain ⟨vi, bi⟩ := hV i hi
  obtain ⟨vo, bo⟩ := hV o ho
  have hc : yu (nI o).toNatClampNeg ≤ yu (nI i).toNatClampNeg ↔ V o ≤ V i := by rw [ei, eo, vi, vo, lN_le bo bi]
  by_cases hP : V o ≤ V i
  · refine ⟨nI o, ⟨o, ho, rfl, fun j h1 h2 => ?_⟩, fun W hW => ⟨vp_in_nI ho (by omega), br_t (hc.mpr hP) hW⟩⟩
    by_cases hj : j = i
    · rw [hj]; exact hP
    · exact h j (by omega) h2
  · refine ⟨nI i, ⟨i, hi, rfl, fun j h1 h2 => ?_⟩, fun W hW => ⟨vp_in_nI ho (by omega), br_f (fun z => hP (hc.mp z)) hW⟩⟩
    by_cases hj : j = i
    · rw [hj]; exact Nat.le_refl _
    · have := h j (by omega) h2
      omega
theorem uy_111 {g c : Nat} (hg : g < 3) (hc : c < 6) {P : Int32} {post : SY → Prop} (h : post (nw, tg, sl, st, rg, ps, tb, pd, sa, kp, upd pg g (pg g + 1), sp, it, upd pi c P, vp_updL yu c nw, lt)) : wY_use_111 post (nI g) P (nI c) nw tg sl st rg ps tb pd sa kp pg sp it pi yu lt := by
  have ec : (nI c).toNatClampNeg = c := nI_clamp (by omega)
  have eg : (nI g).toNatClampNeg = g := nI_clamp (by omega)
  exact ⟨vp_in_nI hc (by omega), nm_r (by rw [ec]) ⟨vp_in_nI hg (by omega), vp_in_nI hg (by omega), nm_r (by rw [eg]) ⟨vp_in_nI hc (by omega), nm_r (by rw [ec]) h⟩⟩⟩
theorem uy_22 {g : Nat} (hg : g < 3) (P : Int32) (pi pg : Nat → Int32) (nw : Int64) (yu : Nat → Int64) (V : Nat → Nat) (hV : ∀ f, f < 6 → yu f = lN (V f) ∧ V f < 2 ^ 31) (hv : ∀ f, f < 6 → pi f = -1 ∨ ∃ p, p < 24 ∧ pi f = nI p) : ∀ (i : Nat) (x y z : Int32), i ≤ 6 → uy_HB pi P i x → uy_HF pi i y → uy_HO V i z →
    ∃ c, fr_CY pi V P c ∧
      ∀ {tg sl : Int32} {st rg ps tb pd sa kp sp it : Nat → Int32} {lt : Nat → Int64} {post : SY → Prop}, post (nw + 1, tg, sl, st, rg, ps, tb, pd, sa, kp, if pi c = P then pg else upd pg g (pg g + 1), sp, it, upd pi c P, vp_updL yu c (nw + 1), lt) → wY_use_22 post (nI g) P nw tg sl st rg ps tb pd sa kp pg sp it pi yu lt (i + 1) x y z (nI i + (-1)) := by
  intro i
  induction i with
  | zero =>
    intro x y z _ hB hF hO
    have hm : nI 0 + (-1) < 0 := by decide
    rcases hB with ⟨rfl, hB⟩ | ⟨b, hb, rfl, hB⟩
    · have hn : ∀ j, j < 6 → pi j ≠ P := fun j hj => hB j (by omega) hj
      rcases hF with ⟨rfl, hF⟩ | ⟨c, -, hc, rfl, hF, hF2⟩
      · obtain ⟨o, ho, rfl, hO⟩ := hO
        refine ⟨o, ⟨ho, Or.inr ⟨hn, Or.inr ⟨fun j hj => hF j (by omega) hj, fun j hj => hO j (by omega) hj⟩⟩⟩, ?_⟩
        intro tg sl st rg ps tb pd sa kp sp it lt post hp
        rw [if_neg (hn o ho)] at hp
        exact br_t hm (nm_e (br_f (by decide) (br_t (by decide) (uy_111 hg ho hp))))
      · refine ⟨c, ⟨hc, Or.inr ⟨hn, Or.inl ⟨hF, fun j hj => hF2 j (by omega) hj⟩⟩⟩, ?_⟩
        intro tg sl st rg ps tb pd sa kp sp it lt post hp
        rw [if_neg (hn c hc)] at hp
        exact br_t hm (nm_e (br_f (by decide) (br_f (nI_pos (by omega)) (uy_111 hg hc hp))))
    · refine ⟨b, ⟨hb, Or.inl hB⟩, ?_⟩
      intro tg sl st rg ps tb pd sa kp sp it lt post hp
      rw [if_pos hB, fr_upd_same hB] at hp
      have eb : (nI b).toNatClampNeg = b := nI_clamp (by omega)
      exact br_t hm (nm_e (br_t (nI_pos' (by omega)) ⟨vp_in_nI hb (by omega), nm_r (by rw [eb]) hp⟩))
  | succ i ih =>
    intro x y z hi hB hF hO
    obtain ⟨x', hB', wB⟩ := uy_sB (by omega) hB
    obtain ⟨y', hF', wF⟩ := uy_sF (by omega) (hv i (by omega)) hF
    obtain ⟨z', hO', wO⟩ := uy_sO (by omega) hV hO
    obtain ⟨c, hc, hw⟩ := ih x' y' z' (by omega) hB' hF' hO'
    refine ⟨c, hc, ?_⟩
    intro tg sl st rg ps tb pd sa kp sp it lt post hp
    have hin : vp_in (nI i) 6 := vp_in_nI (by omega) (by omega)
    rw [pk_m1]
    refine br_f (nI_pos (by omega)) ⟨hin, wB (fun x => wY_use_42 post (wY_use_22 post (nI g) P nw tg sl st rg ps tb pd sa kp pg sp it pi yu lt (i + 1)) (nI g) P x y z (nI i) nw tg sl st rg ps tb pd sa kp pg sp it pi yu lt) ?_⟩
    refine ⟨hin, wF (fun y => wY_use_56 post (wY_use_22 post (nI g) P nw tg sl st rg ps tb pd sa kp pg sp it pi yu lt (i + 1)) (nI g) P x' y z (nI i) nw tg sl st rg ps tb pd sa kp pg sp it pi yu lt) ?_⟩
    refine ⟨hin, wO (fun z => ∀ w : Int32, w = nI i + (-1) → wY_use_22 post (nI g) P nw tg sl st rg ps tb pd sa kp pg sp it pi yu lt (i + 1) x' y' z w) ?_⟩
    exact nm_e (hw hp)
theorem uy_use {g a : Nat} (hg : g < 3) (ha : a < 64) (pi pg : Nat → Int32) (nw : Int64) (yu : Nat → Int64) (V : Nat → Nat) (hV : ∀ f, f < 6 → yu f = lN (V f) ∧ V f < 2 ^ 31) (hv : ∀ f, f < 6 → pi f = -1 ∨ ∃ p, p < 24 ∧ pi f = nI p) :
    ∃ c, fr_CY pi V (nI (8 * g + a / 8)) c ∧
      ∀ {tg sl : Int32} {st rg ps tb pd sa kp sp it : Nat → Int32} {lt : Nat → Int64} {post : SY → Prop}, post (nw + 1, tg, sl, st, rg, ps, tb, pd, sa, kp, if pi c = nI (8 * g + a / 8) then pg else upd pg g (pg g + 1), sp, it, upd pi c (nI (8 * g + a / 8)), vp_updL yu c (nw + 1), lt) → wpY_use post (nw, tg, sl, st, rg, ps, tb, pd, sa, kp, pg, sp, it, pi, yu, lt) (nI g) (nI a) := by
  obtain ⟨c, hc, hw⟩ := uy_22 hg (nI (8 * g + a / 8)) pi pg nw yu V hV hv 6 (-1) (-1) 0 (by omega) (Or.inl ⟨rfl, fun j h1 h2 => absurd h1 (by omega)⟩) (Or.inl ⟨rfl, fun j h1 h2 => absurd h1 (by omega)⟩) ⟨0, by omega, rfl, fun j h1 h2 => absurd h1 (by omega)⟩
  refine ⟨c, hc, ?_⟩
  intro tg sl st rg ps tb pd sa kp sp it lt post hp
  exact ⟨by decide, nm_r (iy_p ha) ⟨_, hw hp⟩⟩
/-! both together -/
theorem us_use {B g a : Nat} (hB : B < 2 ^ 30) (hg : g < 3) (ha : a < 64) {pi pg : Nat → Int32} {us nw : Int64} {ua yu : Nat → Int64} (h : fr_RF B pi ua us yu nw) :
    ∃ b pg', fr_T b (B + 1) (upd pi b (nI (8 * g + a / 8))) (vp_updL ua b (us + 1)) (us + 1) (vp_updL yu b (nw + 1)) (nw + 1) ∧
      (∀ j, j < 6 → j ≠ b → upd pi b (nI (8 * g + a / 8)) j ≠ nI (8 * g + a / 8)) ∧
      (∀ {tg sl : Int32} {st rg ps tb pd sa kp sp it : Nat → Int32} {lt : Nat → Int64} {post : SX → Prop}, post (us + 1, tg, sl, st, rg, ps, tb, pd, sa, kp, pg', sp, it, upd pi b (nI (8 * g + a / 8)), vp_updL ua b (us + 1), lt) → wpX_use post (us, tg, sl, st, rg, ps, tb, pd, sa, kp, pg, sp, it, pi, ua, lt) (nI g) (nI a)) ∧
      (∀ {tg sl : Int32} {st rg ps tb pd sa kp sp it : Nat → Int32} {lt : Nat → Int64} {post : SY → Prop}, post (nw + 1, tg, sl, st, rg, ps, tb, pd, sa, kp, pg', sp, it, upd pi b (nI (8 * g + a / 8)), vp_updL yu b (nw + 1), lt) → wpY_use post (nw, tg, sl, st, rg, ps, tb, pd, sa, kp, pg, sp, it, pi, yu, lt) (nI g) (nI a)) := by
  obtain ⟨U, V, n, m, hR⟩ := h
  have hR' := hR
  obtain ⟨h1, h2, h3, h4, h5, h6, h7⟩ := hR'
  have hU : ∀ f, f < 6 → ua f = lN (U f) ∧ U f < 2 ^ 31 := fun f hf => ⟨(h5 f hf).1, by have := (h5 f hf).2.2.1; omega⟩
  have hV : ∀ f, f < 6 → yu f = lN (V f) ∧ V f < 2 ^ 31 := fun f hf => ⟨(h5 f hf).2.1, by have := (h5 f hf).2.2.2; omega⟩
  have hv : ∀ f, f < 6 → pi f = -1 ∨ ∃ p, p < 24 ∧ pi f = nI p := fun f hf => (h6 f hf).elim (fun z => Or.inl z.1) (fun ⟨p, hp, e, _⟩ => Or.inr ⟨p, hp, e⟩)
  obtain ⟨b, hb, hX⟩ := ux_use hg ha pi pg us ua U hU
  obtain ⟨c, hc, hY⟩ := uy_use hg ha pi pg nw yu V hV hv
  have hp24 : 8 * g + a / 8 < 24 := by omega
  have e : c = b := fr_pick hR hp24 hb hc
  subst e
  have ho := fr_only hR hp24 hb
  exact ⟨c, _, fr_new hR hb.1 hp24 ho, fun j hj hjb => by rw [pk_un hjb]; exact ho j hj hjb, hX, hY⟩
/-- the reference uses the page that it has just used -/
theorem us_again {B b g a : Nat} (hB : B < 2 ^ 30) (hg : g < 3) (ha : a < 64) {pi pg : Nat → Int32} {us nw : Int64} {ua yu : Nat → Int64} (h : fr_T b B pi ua us yu nw)
    (hb : pi b = nI (8 * g + a / 8)) (ho : ∀ j, j < 6 → j ≠ b → pi j ≠ nI (8 * g + a / 8)) :
    ∀ {tg sl : Int32} {st rg ps tb pd sa kp sp it : Nat → Int32} {lt : Nat → Int64} {post : SY → Prop}, post (nw + 1, tg, sl, st, rg, ps, tb, pd, sa, kp, pg, sp, it, pi, vp_updL yu b (nw + 1), lt) → wpY_use post (nw, tg, sl, st, rg, ps, tb, pd, sa, kp, pg, sp, it, pi, yu, lt) (nI g) (nI a) := by
  obtain ⟨U, V, n, m, hR, hb6, -⟩ := h
  obtain ⟨h1, h2, h3, h4, h5, h6, h7⟩ := hR
  have hV : ∀ f, f < 6 → yu f = lN (V f) ∧ V f < 2 ^ 31 := fun f hf => ⟨(h5 f hf).2.1, by have := (h5 f hf).2.2.2; omega⟩
  have hv : ∀ f, f < 6 → pi f = -1 ∨ ∃ p, p < 24 ∧ pi f = nI p := fun f hf => (h6 f hf).elim (fun z => Or.inl z.1) (fun ⟨p, hp, e, _⟩ => Or.inr ⟨p, hp, e⟩)
  obtain ⟨c, hc, hY⟩ := uy_use hg ha pi pg nw yu V hV hv
  have e : c = b := by
    rcases hc with ⟨hc6, hc | ⟨hc, -⟩⟩
    · exact Classical.byContradiction (fun z => ho c hc6 z hc)
    · exact absurd hb (hc b hb6)
  subst e
  rw [fr_upd_same hb, if_pos hb] at hY
  intro tg sl st rg ps tb pd sa kp sp it lt post hp
  exact hY hp
end
end
section
section
variable {us nw : Int64} {tg sl : Int32} {st rg ps tb pd sa kp pg sp it pi : Nat → Int32} {ua yu lt : Nat → Int64}
/-! where an address leads -/
theorem wk_both {g a : Nat} (hg : g < 3) (ha : a < 64) (w x : Int32) (hx : x &&& 63 = nI a) (ps tb st : Nat → Int32) :
    ∃ r : Int32, (r = -4 ∨ r = -5 ∨ ∃ p, p < 64 ∧ r = nI p) ∧
      (∀ {us : Int64} {tg sl : Int32} {rg pd sa kp pg sp it pi : Nat → Int32} {ua lt : Nat → Int64} {post : Int32 → Prop}, post r → wpX_placeOf post (us, tg, sl, st, rg, ps, tb, pd, sa, kp, pg, sp, it, pi, ua, lt) (nI g) (nI a) w) ∧
      (∀ {nw : Int64} {tg sl : Int32} {rg pd sa kp pg sp it pi : Nat → Int32} {yu lt : Nat → Int64} {post : Int32 → Prop}, post r → wpY_walk post (nw, tg, sl, st, rg, ps, tb, pd, sa, kp, pg, sp, it, pi, yu, lt) (nI g) x w) := by
  have eg : (nI g).toNatClampNeg = g := nI_clamp (by omega)
  have vg : vp_in (nI g) 5 := vp_in_nI (by omega) (by omega)
  by_cases hM : ps g &&& 128 = 0
  · refine ⟨nI a, Or.inr (Or.inr ⟨a, ha, rfl⟩), ?_, ?_⟩
    · intro us tg sl rg pd sa kp pg sp it pi ua lt post hp
      exact ⟨vg, br_t (by rw [eg]; exact hM) hp⟩
    · intro nw tg sl rg pd sa kp pg sp it pi yu lt post hp
      exact nm_r hx ⟨vg, br_t (by rw [eg]; exact hM) hp⟩
  · obtain ⟨j, hj, ej⟩ := bi_E63 (tb g + nI a / 8)
    have iX : nI g * 64 + ((tb (nI g).toNatClampNeg + nI a / 8) &&& 63) = nI (64 * g + j) := by rw [eg, ej, ix_64]
    have iY : 64 * nI g + ((tb (nI g).toNatClampNeg + nI a / 8) &&& 63) = nI (64 * g + j) := by rw [eg, ej, iy_64]
    have vX : vp_in (nI g * 64 + ((tb (nI g).toNatClampNeg + nI a / 8) &&& 63)) 320 := by rw [iX]; exact vp_in_nI (by omega) (by omega)
    have vY : vp_in (64 * nI g + ((tb (nI g).toNatClampNeg + nI a / 8) &&& 63)) 320 := by rw [iY]; exact vp_in_nI (by omega) (by omega)
    have cX : st (nI g * 64 + ((tb (nI g).toNatClampNeg + nI a / 8) &&& 63)).toNatClampNeg = st (64 * g + j) := by rw [iX, nI_clamp (by omega)]
    have cY : st (64 * nI g + ((tb (nI g).toNatClampNeg + nI a / 8) &&& 63)).toNatClampNeg = st (64 * g + j) := by rw [iY, nI_clamp (by omega)]
    have hM' : ¬ (ps (nI g).toNatClampNeg &&& 128) = 0 := by rw [eg]; exact hM
    have h8 : ¬ (8 : Int32) = 0 := by decide
    obtain ⟨q, hq, eq⟩ := bi_E7 (st (64 * g + j) >>> ((2 : Int32) &&& 31))
    have oX : ((st (64 * g + j) >>> ((2 : Int32) &&& 31)) &&& 7) * 8 + (nI a - nI a / 8 * 8) = nI (8 * q + a % 8) := by rw [eq, ix_pl ha]
    have oY : 8 * ((st (64 * g + j) >>> ((2 : Int32) &&& 31)) &&& 7) + (nI a - nI a / 8 * 8) = nI (8 * q + a % 8) := by rw [eq, iy_pl ha]
    by_cases h1 : st (64 * g + j) &&& 1 = 0
    · refine ⟨-4, Or.inl rfl, ?_, ?_⟩
      · intro us tg sl rg pd sa kp pg sp it pi ua lt post hp
        exact ⟨vg, br_f hM' ⟨vg, h8, vX, nm_r cX (br_t h1 hp)⟩⟩
      · intro nw tg sl rg pd sa kp pg sp it pi yu lt post hp
        exact nm_r hx ⟨vg, br_f hM' ⟨vg, h8, vY, nm_r cY (br_t h1 hp)⟩⟩
    · by_cases hw : w = 0
      · refine ⟨nI (8 * q + a % 8), Or.inr (Or.inr ⟨_, by omega, rfl⟩), ?_, ?_⟩
        · intro us tg sl rg pd sa kp pg sp it pi ua lt post hp
          exact ⟨vg, br_f hM' ⟨vg, h8, vX, nm_r cX (br_f h1 (br_t hw ⟨h8, by rw [oX]; exact hp⟩))⟩⟩
        · intro nw tg sl rg pd sa kp pg sp it pi yu lt post hp
          exact nm_r hx ⟨vg, br_f hM' ⟨vg, h8, vY, nm_r cY (br_f h1 (br_t hw ⟨h8, by rw [oY]; exact hp⟩))⟩⟩
      · by_cases h2 : st (64 * g + j) &&& 2 = 0
        · refine ⟨nI (8 * q + a % 8), Or.inr (Or.inr ⟨_, by omega, rfl⟩), ?_, ?_⟩
          · intro us tg sl rg pd sa kp pg sp it pi ua lt post hp
            exact ⟨vg, br_f hM' ⟨vg, h8, vX, nm_r cX (br_f h1 (br_f hw (br_t h2 ⟨h8, by rw [oX]; exact hp⟩)))⟩⟩
          · intro nw tg sl rg pd sa kp pg sp it pi yu lt post hp
            exact nm_r hx ⟨vg, br_f hM' ⟨vg, h8, vY, nm_r cY (br_f h1 (br_f hw (br_t h2 ⟨h8, by rw [oY]; exact hp⟩)))⟩⟩
        · refine ⟨-5, Or.inr (Or.inl rfl), ?_, ?_⟩
          · intro us tg sl rg pd sa kp pg sp it pi ua lt post hp
            exact ⟨vg, br_f hM' ⟨vg, h8, vX, nm_r cX (br_f h1 (br_f hw (br_f h2 hp)))⟩⟩
          · intro nw tg sl rg pd sa kp pg sp it pi yu lt post hp
            exact nm_r hx ⟨vg, br_f hM' ⟨vg, h8, vY, nm_r cY (br_f h1 (br_f hw (br_f h2 hp)))⟩⟩
/-! get and put -/
theorem gp_get {g a : Nat} (hg : g < 3) (ha : a < 64) {u : SY} {post : Int32 → SY → Prop}
    (hY : ∀ {q : SY → Prop}, q (nw, tg, sl, st, rg, ps, tb, pd, sa, kp, pg, sp, it, pi, yu, lt) → wpY_use q u (nI g) (nI a)) (h : post (st (64 * g + a)) (nw, tg, sl, st, rg, ps, tb, pd, sa, kp, pg, sp, it, pi, yu, lt)) : wpY_get post u (nI g) (nI a) := by
  have e : 64 * nI g + nI a = nI (64 * g + a) := iy_64 g a
  unfold wpY_get
  refine hY ?_
  refine ⟨by rw [e]; exact vp_in_nI (by omega) (by omega), ?_⟩
  rw [e, nI_clamp (by omega)]
  exact h
theorem gp_put {g a : Nat} (hg : g < 3) (ha : a < 64) {u : SY} {w : Int32} {post : SY → Prop}
    (hY : ∀ {q : SY → Prop}, q (nw, tg, sl, st, rg, ps, tb, pd, sa, kp, pg, sp, it, pi, yu, lt) → wpY_use q u (nI g) (nI a)) (h : post (nw, tg, sl, upd st (64 * g + a) w, rg, ps, tb, pd, sa, kp, pg, sp, it, pi, yu, lt)) : wpY_put post u (nI g) (nI a) w := by
  have e : 64 * nI g + nI a = nI (64 * g + a) := iy_64 g a
  unfold wpY_put
  refine hY ?_
  exact ⟨by rw [e]; exact vp_in_nI (by omega) (by omega), nm_r (by rw [e, nI_clamp (by omega)]) h⟩
/-! an interrupt -/
theorem it_both {B g i : Nat} (hB : B + 4 < 2 ^ 30) (hg : g < 3) (hi : i < 3) (code addr : Int32) {pi pg : Nat → Int32} {us nw : Int64} {ua yu : Nat → Int64} (h : fr_RF B pi ua us yu nw) (st ps sa it : Nat → Int32) :
    ∃ (st' ps' sa' it' pg' pi' : Nat → Int32) (ua' : Nat → Int64) (us' : Int64) (yu' : Nat → Int64) (nw' : Int64), fr_RF (B + 4) pi' ua' us' yu' nw' ∧
      (∀ {tg sl : Int32} {rg tb pd kp sp : Nat → Int32} {lt : Nat → Int64} {post : SX → Prop}, post (us', tg, sl, st', rg, ps', tb, pd, sa', kp, pg', sp, it', pi', ua', lt) → wpX_interrupt post (us, tg, sl, st, rg, ps, tb, pd, sa, kp, pg, sp, it, pi, ua, lt) (nI g) (nI i) code addr) ∧
      (∀ {tg sl : Int32} {rg tb pd kp sp : Nat → Int32} {lt : Nat → Int64} {post : SY → Prop}, post (nw', tg, sl, st', rg, ps', tb, pd, sa', kp, pg', sp, it', pi', yu', lt) → wpY_interrupt post (nw, tg, sl, st, rg, ps, tb, pd, sa, kp, pg, sp, it, pi, yu, lt) (nI g) (nI i) code addr) := by
  obtain ⟨b, pg', hT, ho, hX, hY⟩ := us_use (B := B) (g := g) (a := 4 * i) (by omega) hg (by omega) (pg := pg) h
  have hd1 : (4 * i + 1) / 8 = 4 * i / 8 := by omega
  have hd2 : (4 * i + 2) / 8 = 4 * i / 8 := by omega
  have hd3 : (4 * i + 3) / 8 = 4 * i / 8 := by omega
  have hT1 := fr_again hT
  have hT2 := fr_again hT1
  have hT3 := fr_again hT2
  have hpb : upd pi b (nI (8 * g + 4 * i / 8)) b = nI (8 * g + 4 * i / 8) := pk_us
  have eg : (nI g).toNatClampNeg = g := nI_clamp (by omega)
  have vg : vp_in (nI g) 5 := vp_in_nI (by omega) (by omega)
  have vg3 : vp_in (nI g) 3 := vp_in_nI (by omega) (by omega)
  refine ⟨upd (upd (upd st (64 * g + 4 * i) (ps g)) (64 * g + (4 * i + 1)) code) (64 * g + (4 * i + 2)) addr, upd ps g ((upd (upd (upd st (64 * g + 4 * i) (ps g)) (64 * g + (4 * i + 1)) code) (64 * g + (4 * i + 2)) addr) (64 * g + (4 * i + 3)) &&& 511), upd sa g 1, upd it g (it g + 1), pg', _, _, _, _, _, fr_T_RF hT3, ?_, ?_⟩
  · intro tg sl rg tb pd kp sp lt post hp
    have e1 : nI (64 * g + 4 * i) + 1 = nI (64 * g + (4 * i + 1)) := nI_1 _
    have e2 : nI (64 * g + 4 * i) + 2 = nI (64 * g + (4 * i + 2)) := nI_add _ 2
    have e3 : nI (64 * g + 4 * i) + 3 = nI (64 * g + (4 * i + 3)) := nI_add _ 3
    have c0 : (nI (64 * g + 4 * i)).toNatClampNeg = 64 * g + 4 * i := nI_clamp (by omega)
    have c1 : (nI (64 * g + 4 * i) + 1).toNatClampNeg = 64 * g + (4 * i + 1) := by rw [e1, nI_clamp (by omega)]
    have c2 : (nI (64 * g + 4 * i) + 2).toNatClampNeg = 64 * g + (4 * i + 2) := by rw [e2, nI_clamp (by omega)]
    have c3 : (nI (64 * g + 4 * i) + 3).toNatClampNeg = 64 * g + (4 * i + 3) := by rw [e3, nI_clamp (by omega)]
    have v0 : vp_in (nI (64 * g + 4 * i)) 320 := vp_in_nI (by omega) (by omega)
    have v1 : vp_in (nI (64 * g + 4 * i) + 1) 320 := by rw [e1]; exact vp_in_nI (by omega) (by omega)
    have v2 : vp_in (nI (64 * g + 4 * i) + 2) 320 := by rw [e2]; exact vp_in_nI (by omega) (by omega)
    have v3 : vp_in (nI (64 * g + 4 * i) + 3) 320 := by rw [e3]; exact vp_in_nI (by omega) (by omega)
    unfold wpX_interrupt
    refine nm_r (iy_4' i) (nm_r (ix_64 g (4 * i)) (hX ?_))
    refine ⟨vg, v0, nm_r (by rw [c0, eg]) ⟨v1, nm_r (by rw [c1]) ⟨v2, nm_r (by rw [c2]) ⟨v3, vg, nm_r (by rw [c3, eg]) ⟨vg, nm_r (by rw [eg]) ⟨vg3, vg3, nm_r (by rw [eg]) hp⟩⟩⟩⟩⟩⟩
  · intro tg sl rg tb pd kp sp lt post hp
    have e0 : 4 * nI i = nI (4 * i) := iy_4' i
    have e1 : nI (4 * i) + 1 = nI (4 * i + 1) := nI_1 _
    have e2 : nI (4 * i) + 2 = nI (4 * i + 2) := nI_add _ 2
    have e3 : nI (4 * i) + 3 = nI (4 * i + 3) := nI_add _ 3
    unfold wpY_interrupt
    rw [e0, e1, e2, e3, eg]
    refine ⟨vg, gp_put hg (by omega) hY ?_⟩
    refine gp_put hg (by omega) (us_again (by omega) hg (by omega) hT (by rw [hd1]; exact hpb) (by rw [hd1]; exact ho)) ?_
    refine gp_put hg (by omega) (us_again (by omega) hg (by omega) hT1 (by rw [hd2]; exact hpb) (by rw [hd2]; exact ho)) ?_
    refine gp_get hg (by omega) (us_again (by omega) hg (by omega) hT2 (by rw [hd3]; exact hpb) (by rw [hd3]; exact ho)) ?_
    exact ⟨vg, nm_e ⟨vg, nm_e ⟨vg3, vg3, nm_e hp⟩⟩⟩
end
end
section
section
variable {us nw : Int64} {tg sl : Int32} {st rg ps tb pd sa kp pg sp it pi : Nat → Int32} {ua yu lt : Nat → Int64}
def sm_PD (pd : Nat → Int32) : Prop := ∀ i, i < 5 → pd i = -1 ∨ 0 ≤ pd i
/-- from here both sides come to related states -/
def sm_S (B : Nat) (tg sl sl2 : Int32) (kp : Nat → Int32) (WX : (SX → Prop) → Prop) (WY : (SY → Prop) → Prop) : Prop :=
  ∃ (st rg ps tb pd sa pg sp it pi : Nat → Int32) (ua : Nat → Int64) (us : Int64) (yu : Nat → Int64) (nw : Int64) (lt : Nat → Int64), fr_RF B pi ua us yu nw ∧ sm_PD pd ∧
    (∀ post : SX → Prop, post (us, tg, sl, st, rg, ps, tb, pd, sa, kp, pg, sp, it, pi, ua, lt) → WX post) ∧ (∀ post : SY → Prop, post (nw, tg, sl2, st, rg, ps, tb, pd, sa, kp, pg, sp, it, pi, yu, lt) → WY post)
theorem sm_mono {B B' : Nat} {tg sl sl2 : Int32} {WX : (SX → Prop) → Prop} {WY : (SY → Prop) → Prop} (h : sm_S B tg sl sl2 kp WX WY) (hB : B ≤ B') : sm_S B' tg sl sl2 kp WX WY := by
  obtain ⟨st', rg', ps', tb', pd', sa', pg', sp', it', pi', ua', us', yu', nw', lt', hR, hP, hX, hY⟩ := h
  exact ⟨st', rg', ps', tb', pd', sa', pg', sp', it', pi', ua', us', yu', nw', lt', fr_mono hR hB, hP, hX, hY⟩
theorem sm_int {B g i : Nat} {sl2 : Int32} (hB : B + 4 < 2 ^ 30) (hg : g < 3) (hi : i < 3) (code addr : Int32) (h : fr_RF B pi ua us yu nw) (hP : sm_PD pd) :
    sm_S (B + 4) tg sl sl2 kp (fun post => wpX_interrupt post (us, tg, sl, st, rg, ps, tb, pd, sa, kp, pg, sp, it, pi, ua, lt) (nI g) (nI i) code addr) (fun post => wpY_interrupt post (nw, tg, sl2, st, rg, ps, tb, pd, sa, kp, pg, sp, it, pi, yu, lt) (nI g) (nI i) code addr) := by
  obtain ⟨st', ps', sa', it', pg', pi', ua', us', yu', nw', hR, hX, hY⟩ := it_both hB hg hi code addr h st ps sa it (pg := pg)
  exact ⟨st', rg, ps', tb, pd, sa', pg', sp, it', pi', ua', us', yu', nw', lt, hR, hP, fun post hp => hX hp, fun post hp => hY hp⟩
theorem sm_prog {g : Nat} {code addr : Int32} {u u' : SY} {post : SY → Prop} (hY : ∀ q : SY → Prop, q u' → wpY_interrupt q u (nI g) (nI 1) code addr) (hp : post u') : wpY_program post u (nI g) code addr := by
  obtain ⟨nw, tg, sl, st, rg, ps, tb, pd, sa, kp, pg, sp, it, pi, yu, lt⟩ := u
  obtain ⟨nw', tg', sl', st', rg', ps', tb', pd', sa', kp', pg', sp', it', pi', yu', lt'⟩ := u'
  unfold wpY_program
  exact hY _ hp
/-! access -/
theorem ac_ok {g a p : Nat} {w : Int32} (hp : p < 64) {u : SX} {post : Int32 → SX → Prop} (hpl : ∀ {q : Int32 → Prop}, q (nI p) → wpX_placeOf q u (nI g) (nI a) w)
    (hu : ∀ {q : SX → Prop}, q (us, tg, sl, st, rg, ps, tb, pd, sa, kp, pg, sp, it, pi, ua, lt) → wpX_use q u (nI g) (nI p)) (h : post (nI (64 * g + p)) (us, tg, sl, st, rg, ps, tb, pd, sa, kp, pg, sp, it, pi, ua, lt)) : wpX_access post u (nI g) (nI a) w := by
  unfold wpX_access
  refine hpl (br_t (nI_pos' (by omega)) (hu ?_))
  show post (nI g * 64 + nI p) (us, tg, sl, st, rg, ps, tb, pd, sa, kp, pg, sp, it, pi, ua, lt)
  rw [ix_64]
  exact h
theorem ac_bad {g a : Nat} {w r : Int32} (hr : r = -4 ∨ r = -5) {u : SX} {post : Int32 → SX → Prop} (hpl : ∀ {q : Int32 → Prop}, q r → wpX_placeOf q u (nI g) (nI a) w)
    (hu : ∀ q : SX → Prop, q (us, tg, sl, st, rg, ps, tb, pd, sa, kp, pg, sp, it, pi, ua, lt) → wpX_interrupt q u (nI g) (nI 1) (-r) (nI a)) (h : post (-1) (us, tg, sl, st, rg, ps, tb, pd, sa, kp, pg, sp, it, pi, ua, lt)) : wpX_access post u (nI g) (nI a) w := by
  have hn : ¬ 0 ≤ r := by
    rcases hr with rfl | rfl <;> decide
  unfold wpX_access
  exact hpl (br_f hn (hu _ h))
/-! going on at the next word -/
theorem go_X {g : Nat} (hg : g < 3) {x : Int32} {post : SX → Prop} (h : post (us, tg, sl, st, rg, upd ps g ((ps g &&& (-64)) ||| (x &&& 63)), tb, pd, sa, kp, pg, sp, it, pi, ua, lt)) : wpX_goOnAt post (us, tg, sl, st, rg, ps, tb, pd, sa, kp, pg, sp, it, pi, ua, lt) (nI g) x := by
  have eg : (nI g).toNatClampNeg = g := nI_clamp (by omega)
  have vg : vp_in (nI g) 5 := vp_in_nI (by omega) (by omega)
  exact ⟨vg, vg, nm_r (by rw [eg]) h⟩
theorem go_Y {g : Nat} (hg : g < 3) {x : Int32} {post : SY → Prop} (h : post (nw, tg, sl, st, rg, upd ps g ((ps g &&& (-64)) ||| (x &&& 63)), tb, pd, sa, kp, pg, sp, it, pi, yu, lt)) : wpY_next post (nw, tg, sl, st, rg, ps, tb, pd, sa, kp, pg, sp, it, pi, yu, lt) (nI g) x := by
  have eg : (nI g).toNatClampNeg = g := nI_clamp (by omega)
  have vg : vp_in (nI g) 5 := vp_in_nI (by omega) (by omega)
  exact ⟨vg, vg, nm_r (by rw [eg]) h⟩
theorem go_179 {g : Nat} (hg : g < 3) {post : SX → Prop} (h : post (us, tg, sl, st, rg, upd ps g ((ps g &&& (-64)) ||| ((ps g + 1) &&& 63)), tb, pd, sa, kp, pg, sp, it, pi, ua, lt)) : wX_carryOutWithWord_179 post (nI g) us tg sl st rg ps tb pd sa kp pg sp it pi ua lt := by
  have eg : (nI g).toNatClampNeg = g := nI_clamp (by omega)
  have vg : vp_in (nI g) 5 := vp_in_nI (by omega) (by omega)
  unfold wX_carryOutWithWord_179
  rw [eg]
  exact ⟨vg, go_X hg h⟩
/-! the instructions that access a word -/
theorem me_77 {B g o rr a h : Nat} {sl2 : Int32} (hB : B + 4 < 2 ^ 30) (hg : g < 3) (ho : o = 0 ∨ o = 1 ∨ o = 2 ∨ o = 8 ∨ o = 9 ∨ o = 11) (hrr : rr < 20) (ha : a < 64) (hh : ps g &&& 63 = nI h)
    (hR : fr_RF B pi ua us yu nw) (hP : sm_PD pd) (w : Int32) (hw : w = if o = 1 ∨ o = 9 then 1 else 0) :
    sm_S (B + 4) tg sl sl2 kp (fun post => wX_carryOutWithWord_77 post (nI g) (nI o) (nI rr) w (nI a) (nI g) us tg sl st rg ps tb pd sa kp pg sp it pi ua lt) (fun post => wY_memory_78 post (nI g) (nI h) (nI o) (nI rr) (nI a) w nw tg sl2 st rg ps tb pd sa kp pg sp it pi yu lt) := by
  obtain ⟨r, hr, hpx, hpy⟩ := wk_both hg ha w (nI a) (bi_63N ha) ps tb st
  have er : (nI rr).toNatClampNeg = rr := nI_clamp (by omega)
  have vr : vp_in (nI rr) 20 := vp_in_nI (by omega) (by omega)
  have eg : (nI g).toNatClampNeg = g := nI_clamp (by omega)
  have vg : vp_in (nI g) 5 := vp_in_nI (by omega) (by omega)
  have hr' : (r = -4 ∨ r = -5) ∨ ∃ p, p < 64 ∧ r = nI p := by
    rcases hr with h | h | h
    · exact Or.inl (Or.inl h)
    · exact Or.inl (Or.inr h)
    · exact Or.inr h
  rcases hr' with hr | ⟨p, hp64, rfl⟩
  · obtain ⟨st', rg', ps', tb', pd', sa', pg', sp', it', pi', ua', us', yu', nw', lt', hR', hP', hX, hY⟩ := sm_int (tg := tg) (sl := sl) (sl2 := sl2) (kp := kp) (st := st) (rg := rg) (ps := ps) (tb := tb) (sa := sa) (pg := pg) (sp := sp) (it := it) (lt := lt) hB hg (i := 1) (by omega) (-r) (nI a) hR hP
    have hn : ¬ 0 ≤ r := by
      rcases hr with rfl | rfl <;> decide
    refine ⟨st', rg', ps', tb', pd', sa', pg', sp', it', pi', ua', us', yu', nw', lt', hR', hP', ?_, ?_⟩
    · intro post hp
      unfold wX_carryOutWithWord_77
      exact ac_bad hr hpx hX (br_t rfl hp)
    · intro post hp
      unfold wY_memory_78
      exact hpy (br_f hn (sm_prog hY hp))
  · obtain ⟨b, pg', hT, -, hX, hY⟩ := us_use (B := B) (g := g) (a := p) (by omega) hg hp64 (pg := pg) hR
    have hq : (ps g + 1) &&& 63 = (nI h + 1) &&& 63 := by rw [bi_next, hh]
    have hn : nI (64 * g + p) ≠ -1 := by
      intro e
      have e2 := congrArg Int32.toInt e
      rw [nI_toInt (by omega), show (-1 : Int32).toInt = -1 from by decide] at e2
      omega
    have ei : (nI (64 * g + p)).toNatClampNeg = 64 * g + p := nI_clamp (by omega)
    have vi : vp_in (nI (64 * g + p)) 320 := vp_in_nI (by omega) (by omega)
    have hRF := fr_mono (fr_T_RF hT) (show B + 1 ≤ B + 4 by omega)
    have h0 : 0 ≤ nI p := nI_pos' (by omega)
    rcases ho with rfl | rfl | rfl | rfl | rfl | rfl
    · -- load
      refine ⟨st, upd rg rr (st (64 * g + p)), upd ps g ((ps g &&& (-64)) ||| ((ps g + 1) &&& 63)), tb, pd, sa, pg', sp, it, _, _, _, _, _, lt, hRF, hP, ?_, ?_⟩
      · intro post hp
        unfold wX_carryOutWithWord_77
        refine ac_ok hp64 hpx hX ?_
        exact br_f hn (br_f (by decide) (br_t (by decide) ⟨vi, vr, nm_r (by rw [er, ei]) (go_179 hg hp)⟩))
      · intro post hp
        rw [hq] at hp
        unfold wY_memory_78
        refine hpy (br_t h0 (go_Y hg (br_t (by rw [hw]; decide) (gp_get hg hp64 hY ?_))))
        exact br_f (by decide) (br_f (by decide) ⟨vr, nm_r (by rw [er]) hp⟩)
    · -- store
      refine ⟨upd st (64 * g + p) (rg rr), rg, upd ps g ((ps g &&& (-64)) ||| ((ps g + 1) &&& 63)), tb, pd, sa, pg', sp, it, _, _, _, _, _, lt, hRF, hP, ?_, ?_⟩
      · intro post hp
        unfold wX_carryOutWithWord_77
        refine ac_ok hp64 hpx hX ?_
        exact br_f hn (br_f (by decide) (br_f (by decide) (br_f (by decide) (br_f (by decide) ⟨vr, vi, nm_r (by rw [er, ei]) (go_179 hg hp)⟩))))
      · intro post hp
        rw [hq] at hp
        unfold wY_memory_78
        refine hpy (br_t h0 (go_Y hg (br_f (by rw [hw]; decide) ⟨vr, ?_⟩)))
        rw [er]
        exact gp_put hg hp64 hY hp
    · -- add
      refine ⟨st, upd rg rr (rg rr + st (64 * g + p)), upd ps g ((ps g &&& (-64)) ||| ((ps g + 1) &&& 63)), tb, pd, sa, pg', sp, it, _, _, _, _, _, lt, hRF, hP, ?_, ?_⟩
      · intro post hp
        unfold wX_carryOutWithWord_77
        refine ac_ok hp64 hpx hX ?_
        exact br_f hn (br_f (by decide) (br_f (by decide) (br_f (by decide) (br_t (by decide) ⟨vr, vi, vr, nm_r (by rw [er, ei]) (go_179 hg hp)⟩))))
      · intro post hp
        rw [hq] at hp
        unfold wY_memory_78
        refine hpy (br_t h0 (go_Y hg (br_t (by rw [hw]; decide) (gp_get hg hp64 hY ?_))))
        exact br_f (by decide) (br_t (by decide) ⟨vr, vr, nm_r (by rw [er]) hp⟩)
    · -- fetch
      refine ⟨st, upd rg rr (st (64 * g + p)), upd ps g ((ps g &&& (-64)) ||| ((ps g + 1) &&& 63)), tb, pd, sa, pg', sp, it, _, _, _, _, _, lt, hRF, hP, ?_, ?_⟩
      · intro post hp
        unfold wX_carryOutWithWord_77
        refine ac_ok hp64 hpx hX ?_
        exact br_f hn (br_f (by decide) (br_f (by decide) (br_t (by decide) ⟨vi, vr, nm_r (by rw [er, ei]) (go_179 hg hp)⟩)))
      · intro post hp
        rw [hq] at hp
        unfold wY_memory_78
        refine hpy (br_t h0 (go_Y hg (br_t (by rw [hw]; decide) (gp_get hg hp64 hY ?_))))
        exact br_f (by decide) (br_f (by decide) ⟨vr, nm_r (by rw [er]) hp⟩)
    · -- place
      refine ⟨upd st (64 * g + p) (rg rr), rg, upd ps g ((ps g &&& (-64)) ||| ((ps g + 1) &&& 63)), tb, pd, sa, pg', sp, it, _, _, _, _, _, lt, hRF, hP, ?_, ?_⟩
      · intro post hp
        unfold wX_carryOutWithWord_77
        refine ac_ok hp64 hpx hX ?_
        exact br_f hn (br_f (by decide) (br_f (by decide) (br_f (by decide) (br_f (by decide) ⟨vr, vi, nm_r (by rw [er, ei]) (go_179 hg hp)⟩))))
      · intro post hp
        rw [hq] at hp
        unfold wY_memory_78
        refine hpy (br_t h0 (go_Y hg (br_f (by rw [hw]; decide) ⟨vr, ?_⟩)))
        rw [er]
        exact gp_put hg hp64 hY hp
    · -- psw
      refine ⟨st, rg, upd ps g (st (64 * g + p) &&& 511), tb, pd, sa, pg', sp, it, _, _, _, _, _, lt, hRF, hP, ?_, ?_⟩
      · intro post hp
        unfold wX_carryOutWithWord_77
        refine ac_ok hp64 hpx hX ?_
        exact br_f hn (br_t (by decide) ⟨vi, vg, nm_r (by rw [eg, ei]) hp⟩)
      · intro post hp
        unfold wY_memory_78
        refine hpy (br_t h0 (go_Y hg (br_t (by rw [hw]; decide) (gp_get hg hp64 hY ?_))))
        exact br_t (by decide) ⟨vg, nm_r (by rw [eg, fr_upd2]) hp⟩
theorem me_with {B g o h : Nat} {sl2 w : Int32} (hB : B + 4 < 2 ^ 30) (hg : g < 3) (ho : o = 0 ∨ o = 1 ∨ o = 2 ∨ o = 8 ∨ o = 9 ∨ o = 11) (hw : w &&& 15 = nI o) (hh : ps g &&& 63 = nI h)
    (hR : fr_RF B pi ua us yu nw) (hP : sm_PD pd) :
    sm_S (B + 4) tg sl sl2 kp (fun post => wpX_carryOutWithWord post (us, tg, sl, st, rg, ps, tb, pd, sa, kp, pg, sp, it, pi, ua, lt) (nI g) w) (fun post => wpY_memory post (nw, tg, sl2, st, rg, ps, tb, pd, sa, kp, pg, sp, it, pi, yu, lt) (nI g) w (nI h)) := by
  obtain ⟨q, hq, eq⟩ := bi_E3 (w >>> ((4 : Int32) &&& 31))
  obtain ⟨a, ha, ea⟩ := bi_E63 (w >>> ((6 : Int32) &&& 31))
  obtain ⟨q2, hq2, eq2⟩ := bi_E3 (w >>> ((12 : Int32) &&& 31))
  obtain ⟨a2, ha2, ea2⟩ := bi_E63 (rg (4 * g + q2))
  have rX : nI g * 4 + ((w >>> ((4 : Int32) &&& 31)) &&& 3) = nI (4 * g + q) := by rw [eq, ix_4]
  have rY : 4 * nI g + ((w >>> ((4 : Int32) &&& 31)) &&& 3) = nI (4 * g + q) := by rw [eq, iy_4]
  have sX : nI g * 4 + ((w >>> ((12 : Int32) &&& 31)) &&& 3) = nI (4 * g + q2) := by rw [eq2, ix_4]
  have sY : 4 * nI g + ((w >>> ((12 : Int32) &&& 31)) &&& 3) = nI (4 * g + q2) := by rw [eq2, iy_4]
  have vX : vp_in (nI g * 4 + ((w >>> ((12 : Int32) &&& 31)) &&& 3)) 20 := by rw [sX]; exact vp_in_nI (by omega) (by omega)
  have vY : vp_in (4 * nI g + ((w >>> ((12 : Int32) &&& 31)) &&& 3)) 20 := by rw [sY]; exact vp_in_nI (by omega) (by omega)
  have fX : rg (nI g * 4 + ((w >>> ((12 : Int32) &&& 31)) &&& 3)).toNatClampNeg &&& 63 = nI a2 := by rw [sX, nI_clamp (by omega), ea2]
  have fY : rg (4 * nI g + ((w >>> ((12 : Int32) &&& 31)) &&& 3)).toNatClampNeg &&& 63 = nI a2 := by rw [sY, nI_clamp (by omega), ea2]
  have K : ∀ (c : Nat), c < 64 → sm_S (B + 4) tg sl sl2 kp (fun post => wX_carryOutWithWord_77 post (nI g) (nI o) (nI (4 * g + q)) (if o = 1 ∨ o = 9 then 1 else 0) (nI c) (nI g) us tg sl st rg ps tb pd sa kp pg sp it pi ua lt) (fun post => wY_memory_78 post (nI g) (nI h) (nI o) (nI (4 * g + q)) (nI c) (if o = 1 ∨ o = 9 then 1 else 0) nw tg sl2 st rg ps tb pd sa kp pg sp it pi yu lt) :=
    fun c hc => me_77 hB hg ho (by omega) hc hh hR hP _ rfl
  rcases ho with rfl | rfl | rfl | rfl | rfl | rfl
  · obtain ⟨st', rg', ps', tb', pd', sa', pg', sp', it', pi', ua', us', yu', nw', lt', hR', hP', hX, hY⟩ := K a ha
    exact ⟨st', rg', ps', tb', pd', sa', pg', sp', it', pi', ua', us', yu', nw', lt', hR', hP', fun post hp => nm_r hw (nm_r rX (nm_r ea (br_f (by decide) (br_f (by decide) (br_f (by decide) (br_f (by decide) (hX _ hp))))))), fun post hp => nm_r hw (nm_r rY (nm_r ea (br_f (by decide) (br_f (by decide) (br_f (by decide) (br_f (by decide) (hY _ hp)))))))⟩
  · obtain ⟨st', rg', ps', tb', pd', sa', pg', sp', it', pi', ua', us', yu', nw', lt', hR', hP', hX, hY⟩ := K a ha
    exact ⟨st', rg', ps', tb', pd', sa', pg', sp', it', pi', ua', us', yu', nw', lt', hR', hP', fun post hp => nm_r hw (nm_r rX (nm_r ea (br_f (by decide) (br_f (by decide) (br_t (by decide) (hX _ hp)))))), fun post hp => nm_r hw (nm_r rY (nm_r ea (br_f (by decide) (br_f (by decide) (br_t (by decide) (hY _ hp))))))⟩
  · obtain ⟨st', rg', ps', tb', pd', sa', pg', sp', it', pi', ua', us', yu', nw', lt', hR', hP', hX, hY⟩ := K a ha
    exact ⟨st', rg', ps', tb', pd', sa', pg', sp', it', pi', ua', us', yu', nw', lt', hR', hP', fun post hp => nm_r hw (nm_r rX (nm_r ea (br_f (by decide) (br_f (by decide) (br_f (by decide) (br_f (by decide) (hX _ hp))))))), fun post hp => nm_r hw (nm_r rY (nm_r ea (br_f (by decide) (br_f (by decide) (br_f (by decide) (br_f (by decide) (hY _ hp)))))))⟩
  · obtain ⟨st', rg', ps', tb', pd', sa', pg', sp', it', pi', ua', us', yu', nw', lt', hR', hP', hX, hY⟩ := K a2 ha2
    exact ⟨st', rg', ps', tb', pd', sa', pg', sp', it', pi', ua', us', yu', nw', lt', hR', hP', fun post hp => nm_r hw (nm_r rX (nm_e (br_t (by decide) ⟨vX, nm_r fX (br_f (by decide) (br_f (by decide) (hX _ hp)))⟩))), fun post hp => nm_r hw (nm_r rY (nm_e (br_t (by decide) ⟨vY, nm_r fY (br_f (by decide) (br_f (by decide) (hY _ hp)))⟩)))⟩
  · obtain ⟨st', rg', ps', tb', pd', sa', pg', sp', it', pi', ua', us', yu', nw', lt', hR', hP', hX, hY⟩ := K a2 ha2
    exact ⟨st', rg', ps', tb', pd', sa', pg', sp', it', pi', ua', us', yu', nw', lt', hR', hP', fun post hp => nm_r hw (nm_r rX (nm_e (br_f (by decide) (br_t (by decide) ⟨vX, nm_r fX (br_f (by decide) (br_t (by decide) (hX _ hp)))⟩)))), fun post hp => nm_r hw (nm_r rY (nm_e (br_f (by decide) (br_t (by decide) ⟨vY, nm_r fY (br_f (by decide) (br_t (by decide) (hY _ hp)))⟩))))⟩
  · obtain ⟨st', rg', ps', tb', pd', sa', pg', sp', it', pi', ua', us', yu', nw', lt', hR', hP', hX, hY⟩ := K a ha
    exact ⟨st', rg', ps', tb', pd', sa', pg', sp', it', pi', ua', us', yu', nw', lt', hR', hP', fun post hp => nm_r hw (nm_r rX (nm_r ea (br_f (by decide) (br_f (by decide) (br_f (by decide) (br_f (by decide) (hX _ hp))))))), fun post hp => nm_r hw (nm_r rY (nm_r ea (br_f (by decide) (br_f (by decide) (br_f (by decide) (br_f (by decide) (hY _ hp)))))))⟩
end
end
section
section
variable {us nw : Int64} {tg sl : Int32} {st rg ps tb pd sa kp pg sp it pi : Nat → Int32} {ua yu lt : Nat → Int64}
/-! tell -/
theorem te_both (x1 x2 : Int32) : ∀ (i : Nat) (lt : Nat → Int64), i ≤ 7 → ∃ lt' : Nat → Int64,
    (∀ {us : Int64} {tg sl : Int32} {st rg ps tb pd sa kp pg sp it pi : Nat → Int32} {ua : Nat → Int64} {post : SX → Prop}, post (us, tg, sl, st, rg, ps, tb, pd, sa, kp, pg, sp, it, pi, ua, lt') → wX_tell_3 post x1 x2 us tg sl (i + 1) (nI i) st rg ps tb pd sa kp pg sp it pi ua lt) ∧
    (∀ {nw : Int64} {tg sl : Int32} {st rg ps tb pd sa kp pg sp it pi : Nat → Int32} {yu : Nat → Int64} {post : SY → Prop}, post (nw, tg, sl, st, rg, ps, tb, pd, sa, kp, pg, sp, it, pi, yu, lt') → wY_tell_3 post x1 x2 nw tg sl (i + 1) (nI i) st rg ps tb pd sa kp pg sp it pi yu lt) := by
  intro i
  induction i with
  | zero =>
    intro lt _
    refine ⟨vp_updL lt 0 (((8589934592 * x1.toInt64) + x2.toInt64) + 4294967296), ?_, ?_⟩
    · intro us tg sl st rg ps tb pd sa kp pg sp it pi ua post hp
      exact br_t (by decide) (nm_e hp)
    · intro nw tg sl st rg ps tb pd sa kp pg sp it pi yu post hp
      exact br_t (by decide) (nm_e hp)
  | succ i ih =>
    intro lt hi
    have e1 : nI (i + 1) - 1 = nI i := nI_pred i
    have v1 : vp_in (nI (i + 1) - 1) 8 := by rw [e1]; exact vp_in_nI (by omega) (by omega)
    have v2 : vp_in (nI (i + 1)) 8 := vp_in_nI (by omega) (by omega)
    have c1 : (nI (i + 1) - 1).toNatClampNeg = i := by rw [e1, nI_clamp (by omega)]
    have c2 : (nI (i + 1)).toNatClampNeg = i + 1 := nI_clamp (by omega)
    obtain ⟨lt', hX, hY⟩ := ih (vp_updL lt (i + 1) (lt i)) (by omega)
    refine ⟨lt', ?_, ?_⟩
    · intro us tg sl st rg ps tb pd sa kp pg sp it pi ua post hp
      exact br_f (nI_nle (by omega) (by omega)) ⟨v1, v2, nm_r (by rw [c1, c2]) (nm_r (pk_m1 i) (hX hp))⟩
    · intro nw tg sl st rg ps tb pd sa kp pg sp it pi yu post hp
      exact br_f (nI_nle (by omega) (by omega)) ⟨v1, v2, nm_r (by rw [c1, c2]) (nm_r (pk_m1 i) (hY hp))⟩
theorem te_tell (x1 x2 : Int32) (lt : Nat → Int64) : ∃ lt' : Nat → Int64,
    (∀ {us : Int64} {tg sl : Int32} {st rg ps tb pd sa kp pg sp it pi : Nat → Int32} {ua : Nat → Int64} {post : SX → Prop}, post (us, tg, sl, st, rg, ps, tb, pd, sa, kp, pg, sp, it, pi, ua, lt') → wpX_tell post (us, tg, sl, st, rg, ps, tb, pd, sa, kp, pg, sp, it, pi, ua, lt) x1 x2) ∧
    (∀ {nw : Int64} {tg sl : Int32} {st rg ps tb pd sa kp pg sp it pi : Nat → Int32} {yu : Nat → Int64} {post : SY → Prop}, post (nw, tg, sl, st, rg, ps, tb, pd, sa, kp, pg, sp, it, pi, yu, lt') → wpY_tell post (nw, tg, sl, st, rg, ps, tb, pd, sa, kp, pg, sp, it, pi, yu, lt) x1 x2) := by
  obtain ⟨lt', hX, hY⟩ := te_both x1 x2 7 lt (by omega)
  refine ⟨lt', ?_, ?_⟩
  · intro us tg sl st rg ps tb pd sa kp pg sp it pi ua post hp
    exact ⟨8, hX hp⟩
  · intro nw tg sl st rg ps tb pd sa kp pg sp it pi yu post hp
    exact ⟨8, hY hp⟩
/-! the instructions that access no word -/
theorem al_208 {g : Nat} (hg : g < 3) {w x5 x6 x : Int32} {post : SY → Prop} (hn : ¬ (w &&& 15) = 10) (h : post (nw, tg, sl, st, rg, upd ps g ((ps g &&& (-64)) ||| (x &&& 63)), tb, pd, sa, kp, pg, sp, it, pi, yu, lt)) : wY_plain_208 post (nI g) w x5 x6 x nw tg sl st rg ps tb pd sa kp pg sp it pi yu lt := by
  unfold wY_plain_208
  exact go_Y hg (br_f hn h)
theorem al_g2 {g : Nat} (z B : Int32) : upd (upd ps g ((ps g &&& (-64)) ||| (z &&& 63))) g ((upd ps g ((ps g &&& (-64)) ||| (z &&& 63)) g &&& (-64)) ||| B) = upd ps g ((ps g &&& (-64)) ||| B) := by
  rw [pk_us, bi_keep, fr_upd2]
theorem al_3 {B g h : Nat} {sl2 w : Int32} (hB : B + 4 < 2 ^ 30) (hg : g < 3) (hw : w &&& 15 = nI 3) (hh : ps g &&& 63 = nI h) (hR : fr_RF B pi ua us yu nw) (hP : sm_PD pd) :
    sm_S (B + 4) tg sl sl2 kp (fun post => wpX_carryOutAlone post (us, tg, sl, st, rg, ps, tb, pd, sa, kp, pg, sp, it, pi, ua, lt) (nI g) w) (fun post => wpY_plain post (nw, tg, sl2, st, rg, ps, tb, pd, sa, kp, pg, sp, it, pi, yu, lt) (nI g) w (nI h)) := by
  obtain ⟨q, hq4, eq⟩ := bi_E3 (w >>> ((4 : Int32) &&& 31))
  obtain ⟨a, ha, ea⟩ := bi_E63 (w >>> ((6 : Int32) &&& 31))
  have rX : nI g * 4 + ((w >>> ((4 : Int32) &&& 31)) &&& 3) = nI (4 * g + q) := by rw [eq, ix_4]
  have rY : 4 * nI g + ((w >>> ((4 : Int32) &&& 31)) &&& 3) = nI (4 * g + q) := by rw [eq, iy_4]
  have eg : (nI g).toNatClampNeg = g := nI_clamp (by omega)
  have vg : vp_in (nI g) 5 := vp_in_nI (by omega) (by omega)
  have er : (nI (4 * g + q)).toNatClampNeg = 4 * g + q := nI_clamp (by omega)
  have vr : vp_in (nI (4 * g + q)) 20 := vp_in_nI (by omega) (by omega)
  have hq : (ps g + 1) &&& 63 = (nI h + 1) &&& 63 := by rw [bi_next, hh]
  have hn : ¬ (w &&& 15) = 10 := by rw [hw]; decide
  have hRF := fr_mono hR (show B ≤ B + 4 by omega)
  refine ⟨st, upd rg (4 * g + q) (w >>> ((12 : Int32) &&& 31)), upd ps g ((ps g &&& (-64)) ||| ((ps g + 1) &&& 63)), tb, pd, sa, pg, sp, it, pi, ua, us, yu, nw, lt, hRF, hP, ?_, ?_⟩
  · intro post hp
    unfold wpX_carryOutAlone
    rw [eg]
    refine nm_r rX (nm_r ea (nm_e ⟨vg, go_X hg (nm_r hw ?_)⟩))
    exact br_f (by decide) (br_f (by decide) (br_t (by decide) (⟨vr, nm_r (by rw [er]) hp⟩)))
  · intro post hp
    rw [hq] at hp
    unfold wpY_plain
    rw [eg]
    refine nm_r rY (nm_r ea (nm_e (nm_e (nm_r hw ?_))))
    exact br_f (by decide) (br_f (by decide) (br_t (by decide) (⟨vr, nm_r (by rw [er]) (al_208 hg hn hp)⟩)))
theorem al_4 {B g h : Nat} {sl2 w : Int32} (hB : B + 4 < 2 ^ 30) (hg : g < 3) (hw : w &&& 15 = nI 4) (hh : ps g &&& 63 = nI h) (hR : fr_RF B pi ua us yu nw) (hP : sm_PD pd) :
    sm_S (B + 4) tg sl sl2 kp (fun post => wpX_carryOutAlone post (us, tg, sl, st, rg, ps, tb, pd, sa, kp, pg, sp, it, pi, ua, lt) (nI g) w) (fun post => wpY_plain post (nw, tg, sl2, st, rg, ps, tb, pd, sa, kp, pg, sp, it, pi, yu, lt) (nI g) w (nI h)) := by
  obtain ⟨q, hq4, eq⟩ := bi_E3 (w >>> ((4 : Int32) &&& 31))
  obtain ⟨a, ha, ea⟩ := bi_E63 (w >>> ((6 : Int32) &&& 31))
  have rX : nI g * 4 + ((w >>> ((4 : Int32) &&& 31)) &&& 3) = nI (4 * g + q) := by rw [eq, ix_4]
  have rY : 4 * nI g + ((w >>> ((4 : Int32) &&& 31)) &&& 3) = nI (4 * g + q) := by rw [eq, iy_4]
  have eg : (nI g).toNatClampNeg = g := nI_clamp (by omega)
  have vg : vp_in (nI g) 5 := vp_in_nI (by omega) (by omega)
  have er : (nI (4 * g + q)).toNatClampNeg = 4 * g + q := nI_clamp (by omega)
  have vr : vp_in (nI (4 * g + q)) 20 := vp_in_nI (by omega) (by omega)
  have hq : (ps g + 1) &&& 63 = (nI h + 1) &&& 63 := by rw [bi_next, hh]
  have hn : ¬ (w &&& 15) = 10 := by rw [hw]; decide
  have hRF := fr_mono hR (show B ≤ B + 4 by omega)
  refine ⟨st, upd rg (4 * g + q) (rg (4 * g + q) + (w >>> ((12 : Int32) &&& 31))), upd ps g ((ps g &&& (-64)) ||| ((ps g + 1) &&& 63)), tb, pd, sa, pg, sp, it, pi, ua, us, yu, nw, lt, hRF, hP, ?_, ?_⟩
  · intro post hp
    unfold wpX_carryOutAlone
    rw [eg]
    refine nm_r rX (nm_r ea (nm_e ⟨vg, go_X hg (nm_r hw ?_)⟩))
    exact br_f (by decide) (br_f (by decide) (br_f (by decide) (br_t (by decide) (⟨vr, vr, nm_r (by rw [er]) hp⟩))))
  · intro post hp
    rw [hq] at hp
    unfold wpY_plain
    rw [eg]
    refine nm_r rY (nm_r ea (nm_e (nm_e (nm_r hw ?_))))
    exact br_f (by decide) (br_f (by decide) (br_f (by decide) (br_t (by decide) (⟨vr, vr, nm_r (by rw [er]) (al_208 hg hn hp)⟩))))
theorem al_5 {B g h : Nat} {sl2 w : Int32} (hB : B + 4 < 2 ^ 30) (hg : g < 3) (hw : w &&& 15 = nI 5) (hh : ps g &&& 63 = nI h) (hR : fr_RF B pi ua us yu nw) (hP : sm_PD pd) :
    sm_S (B + 4) tg sl sl2 kp (fun post => wpX_carryOutAlone post (us, tg, sl, st, rg, ps, tb, pd, sa, kp, pg, sp, it, pi, ua, lt) (nI g) w) (fun post => wpY_plain post (nw, tg, sl2, st, rg, ps, tb, pd, sa, kp, pg, sp, it, pi, yu, lt) (nI g) w (nI h)) := by
  obtain ⟨q, hq4, eq⟩ := bi_E3 (w >>> ((4 : Int32) &&& 31))
  obtain ⟨a, ha, ea⟩ := bi_E63 (w >>> ((6 : Int32) &&& 31))
  have rX : nI g * 4 + ((w >>> ((4 : Int32) &&& 31)) &&& 3) = nI (4 * g + q) := by rw [eq, ix_4]
  have rY : 4 * nI g + ((w >>> ((4 : Int32) &&& 31)) &&& 3) = nI (4 * g + q) := by rw [eq, iy_4]
  have eg : (nI g).toNatClampNeg = g := nI_clamp (by omega)
  have vg : vp_in (nI g) 5 := vp_in_nI (by omega) (by omega)
  have er : (nI (4 * g + q)).toNatClampNeg = 4 * g + q := nI_clamp (by omega)
  have vr : vp_in (nI (4 * g + q)) 20 := vp_in_nI (by omega) (by omega)
  have hq : (ps g + 1) &&& 63 = (nI h + 1) &&& 63 := by rw [bi_next, hh]
  have hn : ¬ (w &&& 15) = 10 := by rw [hw]; decide
  have hRF := fr_mono hR (show B ≤ B + 4 by omega)
  refine ⟨st, rg, upd ps g ((ps g &&& (-64)) ||| (nI a &&& 63)), tb, pd, sa, pg, sp, it, pi, ua, us, yu, nw, lt, hRF, hP, ?_, ?_⟩
  · intro post hp
    unfold wpX_carryOutAlone
    rw [eg]
    refine nm_r rX (nm_r ea (nm_e ⟨vg, go_X hg (nm_r hw ?_)⟩))
    exact br_f (by decide) (br_f (by decide) (br_f (by decide) (br_f (by decide) (br_t (by decide) (go_X hg (by rw [al_g2]; exact hp))))))
  · intro post hp
    unfold wpY_plain
    rw [eg]
    refine nm_r rY (nm_r ea (nm_e (nm_e (nm_r hw ?_))))
    exact br_f (by decide) (br_f (by decide) (br_f (by decide) (br_f (by decide) (br_t (by decide) (al_208 hg hn hp)))))
theorem al_6 {B g h : Nat} {sl2 w : Int32} (hB : B + 4 < 2 ^ 30) (hg : g < 3) (hw : w &&& 15 = nI 6) (hh : ps g &&& 63 = nI h) (hR : fr_RF B pi ua us yu nw) (hP : sm_PD pd) :
    sm_S (B + 4) tg sl sl2 kp (fun post => wpX_carryOutAlone post (us, tg, sl, st, rg, ps, tb, pd, sa, kp, pg, sp, it, pi, ua, lt) (nI g) w) (fun post => wpY_plain post (nw, tg, sl2, st, rg, ps, tb, pd, sa, kp, pg, sp, it, pi, yu, lt) (nI g) w (nI h)) := by
  obtain ⟨q, hq4, eq⟩ := bi_E3 (w >>> ((4 : Int32) &&& 31))
  obtain ⟨a, ha, ea⟩ := bi_E63 (w >>> ((6 : Int32) &&& 31))
  have rX : nI g * 4 + ((w >>> ((4 : Int32) &&& 31)) &&& 3) = nI (4 * g + q) := by rw [eq, ix_4]
  have rY : 4 * nI g + ((w >>> ((4 : Int32) &&& 31)) &&& 3) = nI (4 * g + q) := by rw [eq, iy_4]
  have eg : (nI g).toNatClampNeg = g := nI_clamp (by omega)
  have vg : vp_in (nI g) 5 := vp_in_nI (by omega) (by omega)
  have er : (nI (4 * g + q)).toNatClampNeg = 4 * g + q := nI_clamp (by omega)
  have vr : vp_in (nI (4 * g + q)) 20 := vp_in_nI (by omega) (by omega)
  have hq : (ps g + 1) &&& 63 = (nI h + 1) &&& 63 := by rw [bi_next, hh]
  have hn : ¬ (w &&& 15) = 10 := by rw [hw]; decide
  have hRF := fr_mono hR (show B ≤ B + 4 by omega)
  by_cases hz : rg (4 * g + q) = 0
  · refine ⟨st, rg, upd ps g ((ps g &&& (-64)) ||| (nI a &&& 63)), tb, pd, sa, pg, sp, it, pi, ua, us, yu, nw, lt, hRF, hP, ?_, ?_⟩
    · intro post hp
      unfold wpX_carryOutAlone
      rw [eg]
      refine nm_r rX (nm_r ea (nm_e ⟨vg, go_X hg (nm_r hw ?_)⟩))
      exact br_f (by decide) (br_f (by decide) (br_f (by decide) (br_f (by decide) (br_f (by decide) (br_t (by decide) (⟨vr, br_t (by rw [er]; exact hz) (go_X hg (by rw [al_g2]; exact hp))⟩))))))
    · intro post hp
      unfold wpY_plain
      rw [eg]
      refine nm_r rY (nm_r ea (nm_e (nm_e (nm_r hw ?_))))
      exact br_f (by decide) (br_f (by decide) (br_f (by decide) (br_f (by decide) (br_f (by decide) (br_t (by decide) (⟨vr, br_t (by rw [er]; exact hz) (al_208 hg hn hp)⟩))))))
  · refine ⟨st, rg, upd ps g ((ps g &&& (-64)) ||| ((ps g + 1) &&& 63)), tb, pd, sa, pg, sp, it, pi, ua, us, yu, nw, lt, hRF, hP, ?_, ?_⟩
    · intro post hp
      unfold wpX_carryOutAlone
      rw [eg]
      refine nm_r rX (nm_r ea (nm_e ⟨vg, go_X hg (nm_r hw ?_)⟩))
      exact br_f (by decide) (br_f (by decide) (br_f (by decide) (br_f (by decide) (br_f (by decide) (br_t (by decide) (⟨vr, br_f (by rw [er]; exact hz) hp⟩))))))
    · intro post hp
      rw [hq] at hp
      unfold wpY_plain
      rw [eg]
      refine nm_r rY (nm_r ea (nm_e (nm_e (nm_r hw ?_))))
      exact br_f (by decide) (br_f (by decide) (br_f (by decide) (br_f (by decide) (br_f (by decide) (br_t (by decide) (⟨vr, br_f (by rw [er]; exact hz) (al_208 hg hn hp)⟩))))))
theorem al_7 {B g h : Nat} {sl2 w : Int32} (hB : B + 4 < 2 ^ 30) (hg : g < 3) (hw : w &&& 15 = nI 7) (hh : ps g &&& 63 = nI h) (hR : fr_RF B pi ua us yu nw) (hP : sm_PD pd) :
    sm_S (B + 4) tg sl sl2 kp (fun post => wpX_carryOutAlone post (us, tg, sl, st, rg, ps, tb, pd, sa, kp, pg, sp, it, pi, ua, lt) (nI g) w) (fun post => wpY_plain post (nw, tg, sl2, st, rg, ps, tb, pd, sa, kp, pg, sp, it, pi, yu, lt) (nI g) w (nI h)) := by
  obtain ⟨q, hq4, eq⟩ := bi_E3 (w >>> ((4 : Int32) &&& 31))
  obtain ⟨a, ha, ea⟩ := bi_E63 (w >>> ((6 : Int32) &&& 31))
  have rX : nI g * 4 + ((w >>> ((4 : Int32) &&& 31)) &&& 3) = nI (4 * g + q) := by rw [eq, ix_4]
  have rY : 4 * nI g + ((w >>> ((4 : Int32) &&& 31)) &&& 3) = nI (4 * g + q) := by rw [eq, iy_4]
  have eg : (nI g).toNatClampNeg = g := nI_clamp (by omega)
  have vg : vp_in (nI g) 5 := vp_in_nI (by omega) (by omega)
  have er : (nI (4 * g + q)).toNatClampNeg = 4 * g + q := nI_clamp (by omega)
  have vr : vp_in (nI (4 * g + q)) 20 := vp_in_nI (by omega) (by omega)
  have hq : (ps g + 1) &&& 63 = (nI h + 1) &&& 63 := by rw [bi_next, hh]
  have hn : ¬ (w &&& 15) = 10 := by rw [hw]; decide
  have hRF := fr_mono hR (show B ≤ B + 4 by omega)
  by_cases hz : 0 ≤ rg (4 * g + q)
  · refine ⟨st, rg, upd ps g ((ps g &&& (-64)) ||| ((ps g + 1) &&& 63)), tb, pd, sa, pg, sp, it, pi, ua, us, yu, nw, lt, hRF, hP, ?_, ?_⟩
    · intro post hp
      unfold wpX_carryOutAlone
      rw [eg]
      refine nm_r rX (nm_r ea (nm_e ⟨vg, go_X hg (nm_r hw ?_)⟩))
      exact br_f (by decide) (br_f (by decide) (br_f (by decide) (br_f (by decide) (br_f (by decide) (br_f (by decide) (br_t (by decide) (⟨vr, br_t (by rw [er]; exact hz) hp⟩)))))))
    · intro post hp
      rw [hq] at hp
      unfold wpY_plain
      rw [eg]
      refine nm_r rY (nm_r ea (nm_e (nm_e (nm_r hw ?_))))
      exact br_f (by decide) (br_f (by decide) (br_f (by decide) (br_f (by decide) (br_f (by decide) (br_f (by decide) (br_t (by decide) (⟨vr, br_t (by rw [er]; exact hz) (al_208 hg hn hp)⟩)))))))
  · refine ⟨st, rg, upd ps g ((ps g &&& (-64)) ||| (nI a &&& 63)), tb, pd, sa, pg, sp, it, pi, ua, us, yu, nw, lt, hRF, hP, ?_, ?_⟩
    · intro post hp
      unfold wpX_carryOutAlone
      rw [eg]
      refine nm_r rX (nm_r ea (nm_e ⟨vg, go_X hg (nm_r hw ?_)⟩))
      exact br_f (by decide) (br_f (by decide) (br_f (by decide) (br_f (by decide) (br_f (by decide) (br_f (by decide) (br_t (by decide) (⟨vr, br_f (by rw [er]; exact hz) (go_X hg (by rw [al_g2]; exact hp))⟩)))))))
    · intro post hp
      unfold wpY_plain
      rw [eg]
      refine nm_r rY (nm_r ea (nm_e (nm_e (nm_r hw ?_))))
      exact br_f (by decide) (br_f (by decide) (br_f (by decide) (br_f (by decide) (br_f (by decide) (br_f (by decide) (br_t (by decide) (⟨vr, br_f (by rw [er]; exact hz) (al_208 hg hn hp)⟩)))))))
theorem al_10 {B g h : Nat} {sl2 w : Int32} (hB : B + 4 < 2 ^ 30) (hg : g < 3) (hw : w &&& 15 = nI 10) (hh : ps g &&& 63 = nI h) (hR : fr_RF B pi ua us yu nw) (hP : sm_PD pd) :
    sm_S (B + 4) tg sl sl2 kp (fun post => wpX_carryOutAlone post (us, tg, sl, st, rg, ps, tb, pd, sa, kp, pg, sp, it, pi, ua, lt) (nI g) w) (fun post => wpY_plain post (nw, tg, sl2, st, rg, ps, tb, pd, sa, kp, pg, sp, it, pi, yu, lt) (nI g) w (nI h)) := by
  obtain ⟨q, hq4, eq⟩ := bi_E3 (w >>> ((4 : Int32) &&& 31))
  obtain ⟨a, ha, ea⟩ := bi_E63 (w >>> ((6 : Int32) &&& 31))
  have rX : nI g * 4 + ((w >>> ((4 : Int32) &&& 31)) &&& 3) = nI (4 * g + q) := by rw [eq, ix_4]
  have rY : 4 * nI g + ((w >>> ((4 : Int32) &&& 31)) &&& 3) = nI (4 * g + q) := by rw [eq, iy_4]
  have eg : (nI g).toNatClampNeg = g := nI_clamp (by omega)
  have vg : vp_in (nI g) 5 := vp_in_nI (by omega) (by omega)
  have er : (nI (4 * g + q)).toNatClampNeg = 4 * g + q := nI_clamp (by omega)
  have vr : vp_in (nI (4 * g + q)) 20 := vp_in_nI (by omega) (by omega)
  have hq : (ps g + 1) &&& 63 = (nI h + 1) &&& 63 := by rw [bi_next, hh]
  obtain ⟨st', rg', ps', tb', pd', sa', pg', sp', it', pi', ua', us', yu', nw', lt', hR', hP', hX, hY⟩ := sm_int (tg := tg) (sl := sl) (sl2 := sl2) (kp := kp) (st := st) (rg := rg) (ps := upd ps g ((ps g &&& (-64)) ||| ((ps g + 1) &&& 63))) (tb := tb) (sa := sa) (pg := pg) (sp := sp) (it := it) (lt := lt) hB hg (i := 0) (by omega) ((w >>> ((12 : Int32) &&& 31)) &&& 255) (nI a) hR hP
  refine ⟨st', rg', ps', tb', pd', sa', pg', sp', it', pi', ua', us', yu', nw', lt', hR', hP', ?_, ?_⟩
  · intro post hp
    unfold wpX_carryOutAlone
    rw [eg]
    refine nm_r rX (nm_r ea (nm_e ⟨vg, go_X hg (nm_r hw ?_)⟩))
    exact br_f (by decide) (br_f (by decide) (br_f (by decide) (br_f (by decide) (br_f (by decide) (br_f (by decide) (br_f (by decide) (br_f (by decide) (br_f (by decide) (br_t (by decide) (hX _ hp))))))))))
  · intro post hp
    rw [hq] at hY
    unfold wpY_plain
    rw [eg]
    refine nm_r rY (nm_r ea (nm_e (nm_e (nm_r hw ?_))))
    refine br_f (by decide) (br_f (by decide) (br_f (by decide) (br_f (by decide) (br_f (by decide) (br_f (by decide) (br_f (by decide) (br_f (by decide) (br_f (by decide) (br_t (by decide) (?_))))))))))
    unfold wY_plain_208
    exact go_Y hg (br_t (by rw [hw]; decide) (hY _ hp))
theorem al_12 {B g h : Nat} {sl2 w : Int32} (hB : B + 4 < 2 ^ 30) (hg : g < 3) (hw : w &&& 15 = nI 12) (hh : ps g &&& 63 = nI h) (hR : fr_RF B pi ua us yu nw) (hP : sm_PD pd) :
    sm_S (B + 4) tg sl sl2 kp (fun post => wpX_carryOutAlone post (us, tg, sl, st, rg, ps, tb, pd, sa, kp, pg, sp, it, pi, ua, lt) (nI g) w) (fun post => wpY_plain post (nw, tg, sl2, st, rg, ps, tb, pd, sa, kp, pg, sp, it, pi, yu, lt) (nI g) w (nI h)) := by
  obtain ⟨q, hq4, eq⟩ := bi_E3 (w >>> ((4 : Int32) &&& 31))
  obtain ⟨a, ha, ea⟩ := bi_E63 (w >>> ((6 : Int32) &&& 31))
  have rX : nI g * 4 + ((w >>> ((4 : Int32) &&& 31)) &&& 3) = nI (4 * g + q) := by rw [eq, ix_4]
  have rY : 4 * nI g + ((w >>> ((4 : Int32) &&& 31)) &&& 3) = nI (4 * g + q) := by rw [eq, iy_4]
  have eg : (nI g).toNatClampNeg = g := nI_clamp (by omega)
  have vg : vp_in (nI g) 5 := vp_in_nI (by omega) (by omega)
  have er : (nI (4 * g + q)).toNatClampNeg = 4 * g + q := nI_clamp (by omega)
  have vr : vp_in (nI (4 * g + q)) 20 := vp_in_nI (by omega) (by omega)
  have hq : (ps g + 1) &&& 63 = (nI h + 1) &&& 63 := by rw [bi_next, hh]
  have hn : ¬ (w &&& 15) = 10 := by rw [hw]; decide
  have hRF := fr_mono hR (show B ≤ B + 4 by omega)
  refine ⟨st, rg, upd ps g ((ps g &&& (-64)) ||| ((ps g + 1) &&& 63)), upd tb g (rg (4 * g + q) &&& 63), pd, sa, pg, sp, it, pi, ua, us, yu, nw, lt, hRF, hP, ?_, ?_⟩
  · intro post hp
    unfold wpX_carryOutAlone
    rw [eg]
    refine nm_r rX (nm_r ea (nm_e ⟨vg, go_X hg (nm_r hw ?_)⟩))
    exact br_f (by decide) (br_f (by decide) (br_f (by decide) (br_f (by decide) (br_f (by decide) (br_f (by decide) (br_f (by decide) (br_f (by decide) (br_f (by decide) (br_f (by decide) (br_f (by decide) (br_t (by decide) (⟨vr, vg, nm_r (by rw [er]) hp⟩))))))))))))
  · intro post hp
    rw [hq] at hp
    unfold wpY_plain
    rw [eg]
    refine nm_r rY (nm_r ea (nm_e (nm_e (nm_r hw ?_))))
    exact br_f (by decide) (br_f (by decide) (br_f (by decide) (br_f (by decide) (br_f (by decide) (br_f (by decide) (br_f (by decide) (br_f (by decide) (br_f (by decide) (br_f (by decide) (br_f (by decide) (br_t (by decide) (⟨vr, vg, nm_r (by rw [er]) (al_208 hg hn hp)⟩))))))))))))
theorem al_13 {B g h : Nat} {sl2 w : Int32} (hB : B + 4 < 2 ^ 30) (hg : g < 3) (hw : w &&& 15 = nI 13) (hh : ps g &&& 63 = nI h) (hR : fr_RF B pi ua us yu nw) (hP : sm_PD pd) :
    sm_S (B + 4) tg sl sl2 kp (fun post => wpX_carryOutAlone post (us, tg, sl, st, rg, ps, tb, pd, sa, kp, pg, sp, it, pi, ua, lt) (nI g) w) (fun post => wpY_plain post (nw, tg, sl2, st, rg, ps, tb, pd, sa, kp, pg, sp, it, pi, yu, lt) (nI g) w (nI h)) := by
  obtain ⟨q, hq4, eq⟩ := bi_E3 (w >>> ((4 : Int32) &&& 31))
  obtain ⟨a, ha, ea⟩ := bi_E63 (w >>> ((6 : Int32) &&& 31))
  have rX : nI g * 4 + ((w >>> ((4 : Int32) &&& 31)) &&& 3) = nI (4 * g + q) := by rw [eq, ix_4]
  have rY : 4 * nI g + ((w >>> ((4 : Int32) &&& 31)) &&& 3) = nI (4 * g + q) := by rw [eq, iy_4]
  have eg : (nI g).toNatClampNeg = g := nI_clamp (by omega)
  have vg : vp_in (nI g) 5 := vp_in_nI (by omega) (by omega)
  have er : (nI (4 * g + q)).toNatClampNeg = 4 * g + q := nI_clamp (by omega)
  have vr : vp_in (nI (4 * g + q)) 20 := vp_in_nI (by omega) (by omega)
  have hq : (ps g + 1) &&& 63 = (nI h + 1) &&& 63 := by rw [bi_next, hh]
  have hn : ¬ (w &&& 15) = 10 := by rw [hw]; decide
  have hRF := fr_mono hR (show B ≤ B + 4 by omega)
  obtain ⟨lt', tX, tY⟩ := te_tell (nI g) (rg (4 * g + q)) lt
  refine ⟨st, rg, upd ps g ((ps g &&& (-64)) ||| ((ps g + 1) &&& 63)), tb, pd, sa, pg, sp, it, pi, ua, us, yu, nw, lt', hRF, hP, ?_, ?_⟩
  · intro post hp
    unfold wpX_carryOutAlone
    rw [eg]
    refine nm_r rX (nm_r ea (nm_e ⟨vg, go_X hg (nm_r hw ?_)⟩))
    exact br_f (by decide) (br_f (by decide) (br_f (by decide) (br_f (by decide) (br_f (by decide) (br_f (by decide) (br_f (by decide) (br_f (by decide) (br_f (by decide) (br_f (by decide) (br_f (by decide) (br_f (by decide) (br_t (by decide) (⟨vr, by rw [er]; exact tX hp⟩)))))))))))))
  · intro post hp
    rw [hq] at hp
    unfold wpY_plain
    rw [eg]
    refine nm_r rY (nm_r ea (nm_e (nm_e (nm_r hw ?_))))
    exact br_f (by decide) (br_f (by decide) (br_f (by decide) (br_f (by decide) (br_f (by decide) (br_f (by decide) (br_f (by decide) (br_f (by decide) (br_f (by decide) (br_f (by decide) (br_f (by decide) (br_f (by decide) (br_t (by decide) (⟨vr, by rw [er]; exact tY (al_208 hg hn hp)⟩)))))))))))))
theorem al_14 {B g h : Nat} {sl2 w : Int32} (hB : B + 4 < 2 ^ 30) (hg : g < 3) (hw : w &&& 15 = nI 14) (hh : ps g &&& 63 = nI h) (hR : fr_RF B pi ua us yu nw) (hP : sm_PD pd) :
    sm_S (B + 4) tg sl sl2 kp (fun post => wpX_carryOutAlone post (us, tg, sl, st, rg, ps, tb, pd, sa, kp, pg, sp, it, pi, ua, lt) (nI g) w) (fun post => wpY_plain post (nw, tg, sl2, st, rg, ps, tb, pd, sa, kp, pg, sp, it, pi, yu, lt) (nI g) w (nI h)) := by
  obtain ⟨q, hq4, eq⟩ := bi_E3 (w >>> ((4 : Int32) &&& 31))
  obtain ⟨a, ha, ea⟩ := bi_E63 (w >>> ((6 : Int32) &&& 31))
  have rX : nI g * 4 + ((w >>> ((4 : Int32) &&& 31)) &&& 3) = nI (4 * g + q) := by rw [eq, ix_4]
  have rY : 4 * nI g + ((w >>> ((4 : Int32) &&& 31)) &&& 3) = nI (4 * g + q) := by rw [eq, iy_4]
  have eg : (nI g).toNatClampNeg = g := nI_clamp (by omega)
  have vg : vp_in (nI g) 5 := vp_in_nI (by omega) (by omega)
  have er : (nI (4 * g + q)).toNatClampNeg = 4 * g + q := nI_clamp (by omega)
  have vr : vp_in (nI (4 * g + q)) 20 := vp_in_nI (by omega) (by omega)
  have hq : (ps g + 1) &&& 63 = (nI h + 1) &&& 63 := by rw [bi_next, hh]
  have hn : ¬ (w &&& 15) = 10 := by rw [hw]; decide
  have hRF := fr_mono hR (show B ≤ B + 4 by omega)
  refine ⟨st, rg, upd ps g ((ps g &&& (-64)) ||| ((ps g + 1) &&& 63)), tb, pd, upd sa g 2, pg, sp, it, pi, ua, us, yu, nw, lt, hRF, hP, ?_, ?_⟩
  · intro post hp
    unfold wpX_carryOutAlone
    rw [eg]
    refine nm_r rX (nm_r ea (nm_e ⟨vg, go_X hg (nm_r hw ?_)⟩))
    exact br_f (by decide) (br_f (by decide) (br_f (by decide) (br_f (by decide) (br_f (by decide) (br_f (by decide) (br_f (by decide) (br_f (by decide) (br_f (by decide) (br_f (by decide) (br_f (by decide) (br_f (by decide) (br_f (by decide) (br_t (by decide) (⟨vg, nm_e hp⟩))))))))))))))
  · intro post hp
    rw [hq] at hp
    unfold wpY_plain
    rw [eg]
    refine nm_r rY (nm_r ea (nm_e (nm_e (nm_r hw ?_))))
    exact br_f (by decide) (br_f (by decide) (br_f (by decide) (br_f (by decide) (br_f (by decide) (br_f (by decide) (br_f (by decide) (br_f (by decide) (br_f (by decide) (br_f (by decide) (br_f (by decide) (br_f (by decide) (br_f (by decide) (br_t (by decide) (⟨vg, nm_e (al_208 hg hn hp)⟩))))))))))))))
theorem al_any {B g h o : Nat} {sl2 w : Int32} (hB : B + 4 < 2 ^ 30) (hg : g < 3) (ho : o = 3 ∨ o = 4 ∨ o = 5 ∨ o = 6 ∨ o = 7 ∨ o = 10 ∨ o = 12 ∨ o = 13 ∨ o = 14) (hw : w &&& 15 = nI o) (hh : ps g &&& 63 = nI h) (hR : fr_RF B pi ua us yu nw) (hP : sm_PD pd) :
    sm_S (B + 4) tg sl sl2 kp (fun post => wpX_carryOutAlone post (us, tg, sl, st, rg, ps, tb, pd, sa, kp, pg, sp, it, pi, ua, lt) (nI g) w) (fun post => wpY_plain post (nw, tg, sl2, st, rg, ps, tb, pd, sa, kp, pg, sp, it, pi, yu, lt) (nI g) w (nI h)) := by
  rcases ho with rfl | rfl | rfl | rfl | rfl | rfl | rfl | rfl | rfl
  · exact al_3 hB hg hw hh hR hP
  · exact al_4 hB hg hw hh hR hP
  · exact al_5 hB hg hw hh hR hP
  · exact al_6 hB hg hw hh hR hP
  · exact al_7 hB hg hw hh hR hP
  · exact al_10 hB hg hw hh hR hP
  · exact al_12 hB hg hw hh hR hP
  · exact al_13 hB hg hw hh hR hP
  · exact al_14 hB hg hw hh hR hP
end
end
section
section
variable {us nw : Int64} {tg sl : Int32} {st rg ps tb pd sa kp pg sp it pi : Nat → Int32} {ua yu lt : Nat → Int64}
theorem sp_128 {B g h o : Nat} {sl2 w : Int32} (hB : B + 4 < 2 ^ 30) (hg : g < 3) (ho : o < 15) (hw : w &&& 15 = nI o) (hh : ps g &&& 63 = nI h) (hR : fr_RF B pi ua us yu nw) (hP : sm_PD pd) :
    sm_S (B + 4) tg sl sl2 kp (fun post => wX_step_128 post (nI g) w (nI o) us tg sl st rg ps tb pd sa kp pg sp it pi ua lt) (fun post => wY_step_147 post (nI g) (nI h) w (nI o) nw tg sl2 st rg ps tb pd sa kp pg sp it pi yu lt) := by
  by_cases hc : o = 0 ∨ o = 1 ∨ o = 2 ∨ o = 8 ∨ o = 9 ∨ o = 11
  · obtain ⟨st', rg', ps', tb', pd', sa', pg', sp', it', pi', ua', us', yu', nw', lt', hR', hP', hX, hY⟩ := me_with (tg := tg) (sl := sl) (sl2 := sl2) (kp := kp) (st := st) (rg := rg) (ps := ps) (tb := tb) (sa := sa) (pg := pg) (sp := sp) (it := it) (lt := lt) hB hg hc hw hh hR hP
    have kX : ∀ post : SX → Prop, post (us', tg, sl, st', rg', ps', tb', pd', sa', kp, pg', sp', it', pi', ua', lt') → wX_step_155 post (nI g) w us tg sl st rg ps tb pd sa kp pg sp it pi ua lt := by
      intro post hp
      unfold wX_step_155
      exact hX _ hp
    have kY : ∀ post : SY → Prop, post (nw', tg, sl2, st', rg', ps', tb', pd', sa', kp, pg', sp', it', pi', yu', lt') → wY_step_174 post (nI g) (nI h) w nw tg sl2 st rg ps tb pd sa kp pg sp it pi yu lt := by
      intro post hp
      unfold wY_step_174
      exact hY _ hp
    refine ⟨st', rg', ps', tb', pd', sa', pg', sp', it', pi', ua', us', yu', nw', lt', hR', hP', ?_, ?_⟩
    · intro post hp
      rcases hc with rfl | rfl | rfl | rfl | rfl | rfl
      · exact br_t (by decide) (kX _ hp)
      · exact br_t (by decide) (kX _ hp)
      · exact br_t (by decide) (kX _ hp)
      · exact br_f (by decide) (br_t (by decide) (kX _ hp))
      · exact br_f (by decide) (br_f (by decide) (br_t (by decide) (kX _ hp)))
      · exact br_f (by decide) (br_f (by decide) (br_f (by decide) (br_t (by decide) (kX _ hp))))
    · intro post hp
      rcases hc with rfl | rfl | rfl | rfl | rfl | rfl
      · exact br_t (by decide) (kY _ hp)
      · exact br_t (by decide) (kY _ hp)
      · exact br_t (by decide) (kY _ hp)
      · exact br_f (by decide) (br_t (by decide) (kY _ hp))
      · exact br_f (by decide) (br_f (by decide) (br_t (by decide) (kY _ hp)))
      · exact br_f (by decide) (br_f (by decide) (br_f (by decide) (br_t (by decide) (kY _ hp))))
  · obtain ⟨st', rg', ps', tb', pd', sa', pg', sp', it', pi', ua', us', yu', nw', lt', hR', hP', hX, hY⟩ := al_any (tg := tg) (sl := sl) (sl2 := sl2) (kp := kp) (st := st) (rg := rg) (ps := ps) (tb := tb) (sa := sa) (pg := pg) (sp := sp) (it := it) (lt := lt) (o := o) hB hg (by omega) hw hh hR hP
    have n2 : ¬ nI o ≤ 2 := nI_ge (a := 2) (by omega) (by omega)
    have n3 : ¬ nI o < 3 := nI_nlt (b := 3) (by omega) (by omega)
    have n8 : ¬ nI o = 8 := fun z => absurd ((nI_eq (b := 8) (by omega) (by omega)).mp z) (by omega)
    have n9 : ¬ nI o = 9 := fun z => absurd ((nI_eq (b := 9) (by omega) (by omega)).mp z) (by omega)
    have n11 : ¬ nI o = 11 := fun z => absurd ((nI_eq (b := 11) (by omega) (by omega)).mp z) (by omega)
    exact ⟨st', rg', ps', tb', pd', sa', pg', sp', it', pi', ua', us', yu', nw', lt', hR', hP', fun post hp => br_f n2 (br_f n8 (br_f n9 (br_f n11 (hX _ hp)))), fun post hp => br_f n3 (br_f n8 (br_f n9 (br_f n11 (hY _ hp))))⟩
theorem tx_0 {g : Nat} (hg : g < 3) (h : ps g &&& 256 = 0 ∨ pd g = -1) {post : Int32 → Prop} (hp : post 0) : wpX_takesExternal post (us, tg, sl, st, rg, ps, tb, pd, sa, kp, pg, sp, it, pi, ua, lt) (nI g) := by
  have eg : (nI g).toNatClampNeg = g := nI_clamp (by omega)
  have vg : vp_in (nI g) 5 := vp_in_nI (by omega) (by omega)
  by_cases h1 : ps g &&& 256 = 0
  · exact ⟨vg, br_t (by rw [eg]; exact h1) hp⟩
  · exact ⟨vg, br_f (by rw [eg]; exact h1) ⟨vg, br_t (by rw [eg]; exact h.resolve_left h1) hp⟩⟩
theorem tx_1 {g : Nat} (hg : g < 3) (h1 : ¬ ps g &&& 256 = 0) (h2 : ¬ pd g = -1) {post : Int32 → Prop} (hp : post 1) : wpX_takesExternal post (us, tg, sl, st, rg, ps, tb, pd, sa, kp, pg, sp, it, pi, ua, lt) (nI g) := by
  have eg : (nI g).toNatClampNeg = g := nI_clamp (by omega)
  have vg : vp_in (nI g) 5 := vp_in_nI (by omega) (by omega)
  exact ⟨vg, br_f (by rw [eg]; exact h1) ⟨vg, br_f (by rw [eg]; exact h2) hp⟩⟩
theorem sm_PDu {g : Nat} (hP : sm_PD pd) : sm_PD (upd pd g (-1)) := by
  intro i hi
  by_cases e : i = g
  · rw [e, pk_us]; exact Or.inl rfl
  · rw [pk_un e]; exact hP i hi
theorem ne_Y {g : Nat} (hg : g < 3) (hE : ps g &&& 256 = 0 ∨ pd g = -1) {post : SY → Prop} (h : wY_step_55 post (nI g) nw tg sl st rg ps tb pd sa kp pg (upd sp g (sp g + 1)) it pi yu lt) : wpY_step post (nw, tg, sl, st, rg, ps, tb, pd, sa, kp, pg, sp, it, pi, yu, lt) (nI g) := by
  have eg : (nI g).toNatClampNeg = g := nI_clamp (by omega)
  have vg : vp_in (nI g) 5 := vp_in_nI (by omega) (by omega)
  have v3 : vp_in (nI g) 3 := vp_in_nI (by omega) (by omega)
  by_cases h1 : ps g &&& 256 = 0
  · exact ⟨v3, v3, nm_r (by rw [eg]) ⟨vg, br_t (by rw [eg]; exact h1) h⟩⟩
  · exact ⟨v3, v3, nm_r (by rw [eg]) ⟨vg, br_f (by rw [eg]; exact h1) ⟨vg, br_t (by rw [eg, hE.resolve_left h1]; decide) h⟩⟩⟩
theorem sp_step {B g : Nat} {sl2 : Int32} (hB : B + 8 < 2 ^ 30) (hg : g < 3) (hR : fr_RF B pi ua us yu nw) (hP : sm_PD pd) :
    sm_S (B + 5) tg sl sl2 kp (fun post => wpX_step post (us, tg, sl, st, rg, ps, tb, pd, sa, kp, pg, sp, it, pi, ua, lt) (nI g)) (fun post => wpY_step post (nw, tg, sl2, st, rg, ps, tb, pd, sa, kp, pg, sp, it, pi, yu, lt) (nI g)) := by
  have eg : (nI g).toNatClampNeg = g := nI_clamp (by omega)
  have vg : vp_in (nI g) 5 := vp_in_nI (by omega) (by omega)
  have v3 : vp_in (nI g) 3 := vp_in_nI (by omega) (by omega)
  by_cases hE : ps g &&& 256 = 0 ∨ pd g = -1
  · obtain ⟨h, hh64, hh⟩ := bi_E63 (ps g)
    obtain ⟨r, hr, hpx, hpy⟩ := wk_both hg hh64 0 (nI h) (bi_63N hh64) ps tb st
    have hh' : ps (nI g).toNatClampNeg &&& 63 = nI h := by rw [eg]; exact hh
    have hr' : (r = -4 ∨ r = -5) ∨ ∃ p, p < 64 ∧ r = nI p := by
      rcases hr with h | h | h
      · exact Or.inl (Or.inl h)
      · exact Or.inl (Or.inr h)
      · exact Or.inr h
    rcases hr' with hr | ⟨p, hp64, rfl⟩
    · obtain ⟨st', rg', ps', tb', pd', sa', pg', sp', it', pi', ua', us', yu', nw', lt', hR', hP', hX, hY⟩ := sm_int (tg := tg) (sl := sl) (sl2 := sl2) (kp := kp) (st := st) (rg := rg) (ps := ps) (tb := tb) (sa := sa) (pg := pg) (sp := upd sp g (sp g + 1)) (it := it) (lt := lt) (B := B) (by omega) hg (i := 1) (by omega) (-r) (nI h) hR hP
      have hn : ¬ 0 ≤ r := by
        rcases hr with rfl | rfl <;> decide
      refine ⟨st', rg', ps', tb', pd', sa', pg', sp', it', pi', ua', us', yu', nw', lt', fr_mono hR' (by omega), hP', ?_, ?_⟩
      · intro post hp
        unfold wpX_step
        refine ⟨v3, v3, nm_r (by rw [eg]) (tx_0 hg hE (br_t rfl ⟨vg, nm_r hh' ?_⟩))⟩
        exact ac_bad hr hpx hX (br_t rfl hp)
      · intro post hp
        refine ne_Y hg hE ?_
        unfold wY_step_55
        exact ⟨vg, nm_r hh' (hpy (br_f hn (sm_prog hY hp)))⟩
    · obtain ⟨b, pg', hT, -, hX, hY⟩ := us_use (B := B) (g := g) (a := p) (by omega) hg hp64 (pg := pg) hR
      have hn : nI (64 * g + p) ≠ -1 := by
        intro e
        have e2 := congrArg Int32.toInt e
        rw [nI_toInt (by omega), show (-1 : Int32).toInt = -1 from by decide] at e2
        omega
      have ei : (nI (64 * g + p)).toNatClampNeg = 64 * g + p := nI_clamp (by omega)
      have vi : vp_in (nI (64 * g + p)) 320 := vp_in_nI (by omega) (by omega)
      have hRF := fr_T_RF hT
      have h0 : 0 ≤ nI p := nI_pos' (by omega)
      obtain ⟨o, ho, hw⟩ := bi_E15 (st (64 * g + p))
      by_cases h15 : o = 15
      · subst h15
        obtain ⟨st', rg', ps', tb', pd', sa', pg', sp', it', pi', ua', us', yu', nw', lt', hR', hP', hX', hY'⟩ := sm_int (tg := tg) (sl := sl) (sl2 := sl2) (kp := kp) (st := st) (rg := rg) (ps := ps) (tb := tb) (sa := sa) (pg := pg') (sp := upd sp g (sp g + 1)) (it := it) (lt := lt) (B := B + 1) (by omega) hg (i := 1) (by omega) 1 (nI h) hRF hP
        refine ⟨st', rg', ps', tb', pd', sa', pg', sp', it', pi', ua', us', yu', nw', lt', fr_mono hR' (by omega), hP', ?_, ?_⟩
        · intro post hp
          unfold wpX_step
          refine ⟨v3, v3, nm_r (by rw [eg]) (tx_0 hg hE (br_t rfl ⟨vg, nm_r hh' ?_⟩))⟩
          refine ac_ok hp64 hpx hX (br_f hn ⟨vi, nm_r (by rw [ei]) (nm_r hw ?_)⟩)
          exact br_t (by decide) (hX' _ hp)
        · intro post hp
          refine ne_Y hg hE ?_
          unfold wY_step_55
          refine ⟨vg, nm_r hh' (hpy (br_t h0 (gp_get hg hp64 hY (nm_r hw ?_))))⟩
          exact br_t (by decide) (sm_prog hY' hp)
      · have n15 : ¬ nI o = 15 := fun z => absurd ((nI_eq (b := 15) (by omega) (by omega)).mp z) (by omega)
        by_cases h11 : o < 11
        · obtain ⟨st', rg', ps', tb', pd', sa', pg', sp', it', pi', ua', us', yu', nw', lt', hR', hP', hX', hY'⟩ := sp_128 (tg := tg) (sl := sl) (sl2 := sl2) (kp := kp) (st := st) (rg := rg) (ps := ps) (tb := tb) (sa := sa) (pg := pg') (sp := upd sp g (sp g + 1)) (it := it) (lt := lt) (B := B + 1) (by omega) hg (by omega) hw hh hRF hP
          refine ⟨st', rg', ps', tb', pd', sa', pg', sp', it', pi', ua', us', yu', nw', lt', fr_mono hR' (by omega), hP', ?_, ?_⟩
          · intro post hp
            unfold wpX_step
            refine ⟨v3, v3, nm_r (by rw [eg]) (tx_0 hg hE (br_t rfl ⟨vg, nm_r hh' ?_⟩))⟩
            refine ac_ok hp64 hpx hX (br_f hn ⟨vi, nm_r (by rw [ei]) (nm_r hw ?_)⟩)
            exact br_f n15 (br_t (nI_lt (b := 11) h11 (by omega)) (hX' _ hp))
          · intro post hp
            refine ne_Y hg hE ?_
            unfold wY_step_55
            refine ⟨vg, nm_r hh' (hpy (br_t h0 (gp_get hg hp64 hY (nm_r hw ?_))))⟩
            exact br_f n15 (br_t (nI_le (b := 10) (by omega) (by omega)) (hY' _ hp))
        · have n11 : ¬ nI o < 11 := nI_nlt (b := 11) (by omega) (by omega)
          have n10 : ¬ nI o ≤ 10 := nI_ge (a := 10) (by omega) (by omega)
          by_cases h64 : ps g &&& 64 = 0
          · obtain ⟨st', rg', ps', tb', pd', sa', pg', sp', it', pi', ua', us', yu', nw', lt', hR', hP', hX', hY'⟩ := sp_128 (tg := tg) (sl := sl) (sl2 := sl2) (kp := kp) (st := st) (rg := rg) (ps := ps) (tb := tb) (sa := sa) (pg := pg') (sp := upd sp g (sp g + 1)) (it := it) (lt := lt) (B := B + 1) (by omega) hg (by omega) hw hh hRF hP
            refine ⟨st', rg', ps', tb', pd', sa', pg', sp', it', pi', ua', us', yu', nw', lt', fr_mono hR' (by omega), hP', ?_, ?_⟩
            · intro post hp
              unfold wpX_step
              refine ⟨v3, v3, nm_r (by rw [eg]) (tx_0 hg hE (br_t rfl ⟨vg, nm_r hh' ?_⟩))⟩
              refine ac_ok hp64 hpx hX (br_f hn ⟨vi, nm_r (by rw [ei]) (nm_r hw ?_)⟩)
              exact br_f n15 (br_f n11 ⟨vg, br_t (by rw [eg]; exact h64) (hX' _ hp)⟩)
            · intro post hp
              refine ne_Y hg hE ?_
              unfold wY_step_55
              refine ⟨vg, nm_r hh' (hpy (br_t h0 (gp_get hg hp64 hY (nm_r hw ?_))))⟩
              exact br_f n15 (br_f n10 ⟨vg, br_t (by rw [eg]; exact h64) (hY' _ hp)⟩)
          · obtain ⟨st', rg', ps', tb', pd', sa', pg', sp', it', pi', ua', us', yu', nw', lt', hR', hP', hX', hY'⟩ := sm_int (tg := tg) (sl := sl) (sl2 := sl2) (kp := kp) (st := st) (rg := rg) (ps := ps) (tb := tb) (sa := sa) (pg := pg') (sp := upd sp g (sp g + 1)) (it := it) (lt := lt) (B := B + 1) (by omega) hg (i := 1) (by omega) 2 (nI h) hRF hP
            refine ⟨st', rg', ps', tb', pd', sa', pg', sp', it', pi', ua', us', yu', nw', lt', fr_mono hR' (by omega), hP', ?_, ?_⟩
            · intro post hp
              unfold wpX_step
              refine ⟨v3, v3, nm_r (by rw [eg]) (tx_0 hg hE (br_t rfl ⟨vg, nm_r hh' ?_⟩))⟩
              refine ac_ok hp64 hpx hX (br_f hn ⟨vi, nm_r (by rw [ei]) (nm_r hw ?_)⟩)
              exact br_f n15 (br_f n11 ⟨vg, br_f (by rw [eg]; exact h64) (hX' _ hp)⟩)
            · intro post hp
              refine ne_Y hg hE ?_
              unfold wY_step_55
              refine ⟨vg, nm_r hh' (hpy (br_t h0 (gp_get hg hp64 hY (nm_r hw ?_))))⟩
              exact br_f n15 (br_f n10 ⟨vg, br_f (by rw [eg]; exact h64) (sm_prog hY' hp)⟩)
  · have h1 : ¬ ps g &&& 256 = 0 := fun z => hE (Or.inl z)
    have h2 : ¬ pd g = -1 := fun z => hE (Or.inr z)
    have h3 : ¬ pd g < 0 := Int32.not_lt.mpr ((hP g (by omega)).resolve_left h2)
    obtain ⟨st', rg', ps', tb', pd', sa', pg', sp', it', pi', ua', us', yu', nw', lt', hR', hP', hX, hY⟩ := sm_int (tg := tg) (sl := sl) (sl2 := sl2) (kp := kp) (st := st) (rg := rg) (ps := ps) (tb := tb) (pd := upd pd g (-1)) (sa := sa) (pg := pg) (sp := upd sp g (sp g + 1)) (it := it) (lt := lt) (B := B) (by omega) hg (i := 2) (by omega) (pd g) 0 hR (sm_PDu hP)
    refine ⟨st', rg', ps', tb', pd', sa', pg', sp', it', pi', ua', us', yu', nw', lt', fr_mono hR' (by omega), hP', ?_, ?_⟩
    · intro post hp
      unfold wpX_step
      exact ⟨v3, v3, nm_r (by rw [eg]) (tx_1 hg h1 h2 (br_f (by decide) ⟨vg, nm_r (by rw [eg]) ⟨vg, nm_r (by rw [eg]) (hX _ hp)⟩⟩))⟩
    · intro post hp
      unfold wpY_step
      exact ⟨v3, v3, nm_r (by rw [eg]) ⟨vg, br_f (by rw [eg]; exact h1) ⟨vg, br_f (by rw [eg]; exact h3) ⟨vg, nm_r (by rw [eg]) ⟨vg, nm_r (by rw [eg]) (hY _ hp)⟩⟩⟩⟩⟩
end
end
section
section
variable {us nw : Int64} {tg sl : Int32} {st rg ps tb pd sa kp pg sp it pi : Nat → Int32} {ua yu lt : Nat → Int64}
/-! who can make a step -/
abbrev rn_J : Type := Int32 → Int64 → Int32 → Int32 → (Nat → Int32) → (Nat → Int32) → (Nat → Int32) → (Nat → Int32) → (Nat → Int32) → (Nat → Int32) → (Nat → Int32) → (Nat → Int32) → (Nat → Int32) → (Nat → Int32) → (Nat → Int32) → (Nat → Int64) → (Nat → Int64) → Prop
def rn_A (ps pd sa : Nat → Int32) (h : Nat) : Prop := sa h = 1 ∨ (sa h = 2 ∧ ¬ (ps h &&& 256) = 0 ∧ ¬ pd h = -1)
theorem cs_X1 {g : Nat} (hg : g < 3) (hA : rn_A ps pd sa g) {post : Int32 → Prop} (hp : post 1) : wpX_canStep post (us, tg, sl, st, rg, ps, tb, pd, sa, kp, pg, sp, it, pi, ua, lt) (nI g) := by
  have eg : (nI g).toNatClampNeg = g := nI_clamp (by omega)
  have vg : vp_in (nI g) 5 := vp_in_nI (by omega) (by omega)
  by_cases h1 : sa g = 1
  · exact ⟨vg, br_t (by rw [eg]; exact h1) hp⟩
  · obtain ⟨h2, h3, h4⟩ := hA.resolve_left h1
    exact ⟨vg, br_f (by rw [eg]; exact h1) ⟨vg, br_t (by rw [eg]; exact h2) (tx_1 hg h3 h4 (br_f (by decide) hp))⟩⟩
theorem cs_X0 {g : Nat} (hg : g < 3) (hA : ¬ rn_A ps pd sa g) {post : Int32 → Prop} (hp : post 0) : wpX_canStep post (us, tg, sl, st, rg, ps, tb, pd, sa, kp, pg, sp, it, pi, ua, lt) (nI g) := by
  have eg : (nI g).toNatClampNeg = g := nI_clamp (by omega)
  have vg : vp_in (nI g) 5 := vp_in_nI (by omega) (by omega)
  have h1 : ¬ sa g = 1 := fun z => hA (Or.inl z)
  by_cases h2 : sa g = 2
  · have h3 : ps g &&& 256 = 0 ∨ pd g = -1 := by
      by_cases h3 : ps g &&& 256 = 0
      · exact Or.inl h3
      · exact Or.inr (Classical.byContradiction (fun h4 => hA (Or.inr ⟨h2, h3, h4⟩)))
    exact ⟨vg, br_f (by rw [eg]; exact h1) ⟨vg, br_t (by rw [eg]; exact h2) (tx_0 hg h3 (br_t rfl hp))⟩⟩
  · exact ⟨vg, br_f (by rw [eg]; exact h1) ⟨vg, br_f (by rw [eg]; exact h2) hp⟩⟩
theorem cs_Y1 {g : Nat} (hg : g < 3) (hP : sm_PD pd) (hA : rn_A ps pd sa g) {post : Int32 → Prop} (hp : post 1) : wpY_able post (nw, tg, sl, st, rg, ps, tb, pd, sa, kp, pg, sp, it, pi, yu, lt) (nI g) := by
  have eg : (nI g).toNatClampNeg = g := nI_clamp (by omega)
  have vg : vp_in (nI g) 5 := vp_in_nI (by omega) (by omega)
  by_cases h1 : sa g = 1
  · exact ⟨vg, br_t (by rw [eg]; exact h1) hp⟩
  · obtain ⟨h2, h3, h4⟩ := hA.resolve_left h1
    have h5 : ¬ pd g < 0 := Int32.not_lt.mpr ((hP g (by omega)).resolve_left h4)
    exact ⟨vg, br_f (by rw [eg]; exact h1) ⟨vg, br_t (by rw [eg]; exact h2) ⟨vg, br_f (by rw [eg]; exact h3) ⟨vg, br_f (by rw [eg]; exact h5) hp⟩⟩⟩⟩
theorem cs_Y0 {g : Nat} (hg : g < 3) (hA : ¬ rn_A ps pd sa g) {post : Int32 → Prop} (hp : post 0) : wpY_able post (nw, tg, sl, st, rg, ps, tb, pd, sa, kp, pg, sp, it, pi, yu, lt) (nI g) := by
  have eg : (nI g).toNatClampNeg = g := nI_clamp (by omega)
  have vg : vp_in (nI g) 5 := vp_in_nI (by omega) (by omega)
  have h1 : ¬ sa g = 1 := fun z => hA (Or.inl z)
  by_cases h2 : sa g = 2
  · by_cases h3 : ps g &&& 256 = 0
    · exact ⟨vg, br_f (by rw [eg]; exact h1) ⟨vg, br_t (by rw [eg]; exact h2) ⟨vg, br_t (by rw [eg]; exact h3) hp⟩⟩⟩
    · have h4 : pd g = -1 := Classical.byContradiction (fun h4 => hA (Or.inr ⟨h2, h3, h4⟩))
      exact ⟨vg, br_f (by rw [eg]; exact h1) ⟨vg, br_t (by rw [eg]; exact h2) ⟨vg, br_f (by rw [eg]; exact h3) ⟨vg, br_t (by rw [eg, h4]; decide) hp⟩⟩⟩⟩
  · exact ⟨vg, br_f (by rw [eg]; exact h1) ⟨vg, br_f (by rw [eg]; exact h2) hp⟩⟩
/-! the search for the next -/
theorem rn_m3 {t i : Nat} (ht : t < 3) (hi : i < 4) : (nI t + nI i) - (nI t + nI i) / 3 * 3 = nI ((t + i) % 3) := by
  rw [nI_add, ix_m3 (by omega)]
theorem fx_hit {t i n : Nat} (ht : t < 3) (hi : i < 4) (hA : rn_A ps pd sa ((t + i) % 3)) {post : Int32 → SX → Prop} (h : post 1 (us, nI ((t + i) % 3), 4, st, rg, ps, tb, pd, sa, kp, pg, sp, it, pi, ua, lt)) : wX_findTurn_24 post us (nI t) sl st rg ps tb pd sa kp pg sp it pi ua lt (n + 1) (nI i) := by
  have h3 : ¬ (3 : Int32) < nI i := nI_nlt (a := 3) (by omega) (by omega)
  exact br_f h3 ⟨by decide, nm_r (rn_m3 ht hi) (cs_X1 (Nat.mod_lt _ (by omega)) hA (br_f (by decide) h))⟩
theorem fx_miss {t i n : Nat} (ht : t < 3) (hi : i < 4) (hA : ¬ rn_A ps pd sa ((t + i) % 3)) {post : Int32 → SX → Prop} (h : wX_findTurn_24 post us (nI t) sl st rg ps tb pd sa kp pg sp it pi ua lt n (nI (i + 1))) : wX_findTurn_24 post us (nI t) sl st rg ps tb pd sa kp pg sp it pi ua lt (n + 1) (nI i) := by
  have h3 : ¬ (3 : Int32) < nI i := nI_nlt (a := 3) (by omega) (by omega)
  exact br_f h3 ⟨by decide, nm_r (rn_m3 ht hi) (cs_X0 (Nat.mod_lt _ (by omega)) hA (br_t rfl (nm_r (nI_1 i) h)))⟩
theorem fx_end {t n : Nat} {post : Int32 → SX → Prop} (h : post 0 (us, nI t, sl, st, rg, ps, tb, pd, sa, kp, pg, sp, it, pi, ua, lt)) : wX_findTurn_24 post us (nI t) sl st rg ps tb pd sa kp pg sp it pi ua lt (n + 1) (nI 4) :=
  br_t (by decide) h
variable {J : rn_J} {x1 x2 : Int32}
theorem fy_hit {t i n : Nat} {x : Int32} (ht : t < 3) (hi : i < 3) (hP : sm_PD pd) (hA : rn_A ps pd sa ((t + (i + 1)) % 3)) {post : Int32 → SY → Prop} (h : wY_run_43 post J x1 x2 nw (nI t) sl st rg ps tb pd sa kp pg sp it pi yu lt n (nI ((t + (i + 1)) % 3)) (nI i)) : wY_run_43 post J x1 x2 nw (nI t) sl st rg ps tb pd sa kp pg sp it pi yu lt (n + 1) x (nI (i + 1)) := by
  exact br_f (nI_nle (by omega) (by omega)) ⟨by decide, nm_r (rn_m3 ht (by omega)) (cs_Y1 (Nat.mod_lt _ (by omega)) hP hA (br_f (by decide) (nm_r (pk_m1 i) h)))⟩
theorem fy_miss {t i n : Nat} {x : Int32} (ht : t < 3) (hi : i < 3) (hA : ¬ rn_A ps pd sa ((t + (i + 1)) % 3)) {post : Int32 → SY → Prop} (h : wY_run_43 post J x1 x2 nw (nI t) sl st rg ps tb pd sa kp pg sp it pi yu lt n x (nI i)) : wY_run_43 post J x1 x2 nw (nI t) sl st rg ps tb pd sa kp pg sp it pi yu lt (n + 1) x (nI (i + 1)) := by
  exact br_f (nI_nle (by omega) (by omega)) ⟨by decide, nm_r (rn_m3 ht (by omega)) (cs_Y0 (Nat.mod_lt _ (by omega)) hA (br_t rfl (nm_r (pk_m1 i) h)))⟩
theorem fy_any {t i n : Nat} {x : Int32} (ht : t < 3) (hi : i < 3) (hP : sm_PD pd) {post : Int32 → SY → Prop} (h : ∀ x, wY_run_43 post J x1 x2 nw (nI t) sl st rg ps tb pd sa kp pg sp it pi yu lt n x (nI i)) : wY_run_43 post J x1 x2 nw (nI t) sl st rg ps tb pd sa kp pg sp it pi yu lt (n + 1) x (nI (i + 1)) := by
  by_cases hA : rn_A ps pd sa ((t + (i + 1)) % 3)
  · exact fy_hit ht hi hP hA (h _)
  · exact fy_miss ht hi hA (h _)
theorem fy_end {t c n : Nat} (hc : c < 3) {post : Int32 → SY → Prop} (h : wY_run_93 post J x1 x2 nw (nI c) 4 st rg ps tb pd sa kp pg sp it pi yu lt) : wY_run_43 post J x1 x2 nw (nI t) sl st rg ps tb pd sa kp pg sp it pi yu lt (n + 1) (nI c) (nI 0) :=
  br_t (by decide) (br_t (nI_pos' (by omega)) h)
theorem fy_none {t n : Nat} {post : Int32 → SY → Prop} (h : post x2 (nw, nI t, sl, st, rg, ps, tb, pd, sa, kp, pg, sp, it, pi, yu, lt)) : wY_run_43 post J x1 x2 nw (nI t) sl st rg ps tb pd sa kp pg sp it pi yu lt (n + 1) (-1) (nI 0) :=
  br_t (by decide) (br_f (by decide) h)
theorem ft_search {t : Nat} (ht : t < 3) (hP : sm_PD pd) :
    (∃ c, c < 3 ∧ (∀ {post : Int32 → SX → Prop}, post 1 (us, nI c, 4, st, rg, ps, tb, pd, sa, kp, pg, sp, it, pi, ua, lt) → ∃ n24 : Nat, wX_findTurn_24 post us (nI t) sl st rg ps tb pd sa kp pg sp it pi ua lt n24 1) ∧
      (∀ {J : rn_J} {x1 x2 : Int32} {post : Int32 → SY → Prop}, wY_run_93 post J x1 x2 nw (nI c) 4 st rg ps tb pd sa kp pg sp it pi yu lt → ∃ n43 : Nat, wY_run_43 post J x1 x2 nw (nI t) sl st rg ps tb pd sa kp pg sp it pi yu lt n43 (-1) 3)) ∨
    ((∀ {post : Int32 → SX → Prop}, post 0 (us, nI t, sl, st, rg, ps, tb, pd, sa, kp, pg, sp, it, pi, ua, lt) → ∃ n24 : Nat, wX_findTurn_24 post us (nI t) sl st rg ps tb pd sa kp pg sp it pi ua lt n24 1) ∧
      (∀ {J : rn_J} {x1 x2 : Int32} {post : Int32 → SY → Prop}, post x2 (nw, nI t, sl, st, rg, ps, tb, pd, sa, kp, pg, sp, it, pi, yu, lt) → ∃ n43 : Nat, wY_run_43 post J x1 x2 nw (nI t) sl st rg ps tb pd sa kp pg sp it pi yu lt n43 (-1) 3)) := by
  by_cases h1 : rn_A ps pd sa ((t + 1) % 3)
  · refine Or.inl ⟨(t + 1) % 3, Nat.mod_lt _ (by omega), ?_, ?_⟩
    · intro post hp
      exact ⟨4, fx_hit (i := 1) ht (by omega) h1 hp⟩
    · intro J x1 x2 post hp
      exact ⟨4, fy_any (i := 2) ht (by omega) hP (fun _ => fy_any (i := 1) ht (by omega) hP (fun _ => fy_hit (i := 0) ht (by omega) hP h1 (fy_end (Nat.mod_lt _ (by omega)) hp)))⟩
  · by_cases h2 : rn_A ps pd sa ((t + 2) % 3)
    · refine Or.inl ⟨(t + 2) % 3, Nat.mod_lt _ (by omega), ?_, ?_⟩
      · intro post hp
        exact ⟨4, fx_miss (i := 1) ht (by omega) h1 (fx_hit (i := 2) ht (by omega) h2 hp)⟩
      · intro J x1 x2 post hp
        exact ⟨4, fy_any (i := 2) ht (by omega) hP (fun _ => fy_hit (i := 1) ht (by omega) hP h2 (fy_miss (i := 0) ht (by omega) h1 (fy_end (Nat.mod_lt _ (by omega)) hp)))⟩
    · by_cases h3 : rn_A ps pd sa ((t + 3) % 3)
      · refine Or.inl ⟨(t + 3) % 3, Nat.mod_lt _ (by omega), ?_, ?_⟩
        · intro post hp
          exact ⟨4, fx_miss (i := 1) ht (by omega) h1 (fx_miss (i := 2) ht (by omega) h2 (fx_hit (i := 3) ht (by omega) h3 hp))⟩
        · intro J x1 x2 post hp
          exact ⟨4, fy_hit (i := 2) ht (by omega) hP h3 (fy_miss (i := 1) ht (by omega) h2 (fy_miss (i := 0) ht (by omega) h1 (fy_end (Nat.mod_lt _ (by omega)) hp)))⟩
      · refine Or.inr ⟨?_, ?_⟩
        · intro post hp
          exact ⟨4, fx_miss (i := 1) ht (by omega) h1 (fx_miss (i := 2) ht (by omega) h2 (fx_miss (i := 3) ht (by omega) h3 (fx_end hp)))⟩
        · intro J x1 x2 post hp
          exact ⟨4, fy_miss (i := 2) ht (by omega) h3 (fy_miss (i := 1) ht (by omega) h2 (fy_miss (i := 0) ht (by omega) h1 (fy_none hp)))⟩
theorem ft_both {t s : Nat} (ht : t < 3) (hs : s ≤ 4) (hP : sm_PD pd) :
    (∃ c e, c < 3 ∧ e < 4 ∧ (∀ {post : Int32 → SX → Prop}, post 1 (us, nI c, nI (e + 1), st, rg, ps, tb, pd, sa, kp, pg, sp, it, pi, ua, lt) → wpX_findTurn post (us, nI t, nI s, st, rg, ps, tb, pd, sa, kp, pg, sp, it, pi, ua, lt)) ∧
      (∀ {J : rn_J} {x1 x2 : Int32} {post : Int32 → SY → Prop}, wY_run_93 post J x1 x2 nw (nI c) (nI (e + 1)) st rg ps tb pd sa kp pg sp it pi yu lt → (vp_in (nI t) 5 ∧ ((sa (nI t).toNatClampNeg = 1 → ((nI s = 0 → ∃ n43 : Nat, wY_run_43 post J x1 x2 nw (nI t) (nI s) st rg ps tb pd sa kp pg sp it pi yu lt n43 (-1) 3) ∧ (¬ nI s = 0 → wY_run_93 post J x1 x2 nw (nI t) (nI s) st rg ps tb pd sa kp pg sp it pi yu lt))) ∧ (¬ sa (nI t).toNatClampNeg = 1 → ∃ n43 : Nat, wY_run_43 post J x1 x2 nw (nI t) (nI s) st rg ps tb pd sa kp pg sp it pi yu lt n43 (-1) 3))))) ∨
    ((∀ {post : Int32 → SX → Prop}, post 0 (us, nI t, nI s, st, rg, ps, tb, pd, sa, kp, pg, sp, it, pi, ua, lt) → wpX_findTurn post (us, nI t, nI s, st, rg, ps, tb, pd, sa, kp, pg, sp, it, pi, ua, lt)) ∧
      (∀ {J : rn_J} {x1 x2 : Int32} {post : Int32 → SY → Prop}, post x2 (nw, nI t, nI s, st, rg, ps, tb, pd, sa, kp, pg, sp, it, pi, yu, lt) → (vp_in (nI t) 5 ∧ ((sa (nI t).toNatClampNeg = 1 → ((nI s = 0 → ∃ n43 : Nat, wY_run_43 post J x1 x2 nw (nI t) (nI s) st rg ps tb pd sa kp pg sp it pi yu lt n43 (-1) 3) ∧ (¬ nI s = 0 → wY_run_93 post J x1 x2 nw (nI t) (nI s) st rg ps tb pd sa kp pg sp it pi yu lt))) ∧ (¬ sa (nI t).toNatClampNeg = 1 → ∃ n43 : Nat, wY_run_43 post J x1 x2 nw (nI t) (nI s) st rg ps tb pd sa kp pg sp it pi yu lt n43 (-1) 3))))) := by
  have et : (nI t).toNatClampNeg = t := nI_clamp (by omega)
  have vt : vp_in (nI t) 5 := vp_in_nI (by omega) (by omega)
  have K := ft_search (us := us) (nw := nw) (sl := nI s) (st := st) (rg := rg) (ps := ps) (tb := tb) (pd := pd) (sa := sa) (kp := kp) (pg := pg) (sp := sp) (it := it) (pi := pi) (ua := ua) (yu := yu) (lt := lt) ht hP
  by_cases h1 : sa t = 1
  · have h1' : sa (nI t).toNatClampNeg = 1 := by rw [et]; exact h1
    by_cases h0 : s = 0
    · subst h0
      rcases K with ⟨c, hc, hX, hY⟩ | ⟨hX, hY⟩
      · refine Or.inl ⟨c, 3, hc, by omega, ?_, ?_⟩
        · intro post hp
          exact ⟨vt, br_t h1' (br_t (by decide) (hX hp))⟩
        · intro J x1 x2 post hp
          exact ⟨vt, br_t h1' (br_t (by decide) (hY hp))⟩
      · refine Or.inr ⟨?_, ?_⟩
        · intro post hp
          exact ⟨vt, br_t h1' (br_t (by decide) (hX hp))⟩
        · intro J x1 x2 post hp
          exact ⟨vt, br_t h1' (br_t (by decide) (hY hp))⟩
    · obtain ⟨e, rfl⟩ : ∃ e, s = e + 1 := ⟨s - 1, by omega⟩
      refine Or.inl ⟨t, e, ht, by omega, ?_, ?_⟩
      · intro post hp
        exact ⟨vt, br_t h1' (br_f (nI_nle (by omega) (by omega)) hp)⟩
      · intro J x1 x2 post hp
        exact ⟨vt, br_t h1' (br_f (nI_ne0 (by omega) (by omega)) hp)⟩
  · have h1' : ¬ sa (nI t).toNatClampNeg = 1 := by rw [et]; exact h1
    rcases K with ⟨c, hc, hX, hY⟩ | ⟨hX, hY⟩
    · refine Or.inl ⟨c, 3, hc, by omega, ?_, ?_⟩
      · intro post hp
        exact ⟨vt, br_f h1' (hX hp)⟩
      · intro J x1 x2 post hp
        exact ⟨vt, br_f h1' (hY hp)⟩
    · refine Or.inr ⟨?_, ?_⟩
      · intro post hp
        exact ⟨vt, br_f h1' (hX hp)⟩
      · intro J x1 x2 post hp
        exact ⟨vt, br_f h1' (hY hp)⟩
end
section
variable {us nw : Int64} {tg sl : Int32} {st rg ps tb pd sa kp pg sp it pi : Nat → Int32} {ua yu lt : Nat → Int64}
/-- the relation, with a bound on the stamps -/
def rl_R (B : Nat) (u : SX) (v : SY) : Prop :=
  ∃ (us nw : Int64) (t s : Nat) (st rg ps tb pd sa kp pg sp it pi : Nat → Int32) (ua yu lt : Nat → Int64),
    u = (us, nI t, nI s, st, rg, ps, tb, pd, sa, kp, pg, sp, it, pi, ua, lt) ∧ v = (nw, nI t, nI s, st, rg, ps, tb, pd, sa, kp, pg, sp, it, pi, yu, lt) ∧ t < 3 ∧ s ≤ 4 ∧ fr_RF B pi ua us yu nw ∧ sm_PD pd
theorem rl_mono {B B' : Nat} {u : SX} {v : SY} (h : rl_R B u v) (hB : B ≤ B') : rl_R B' u v := by
  obtain ⟨us, nw, t, s, st, rg, ps, tb, pd, sa, kp, pg, sp, it, pi, ua, yu, lt, e1, e2, ht, hs, hR, hP⟩ := h
  exact ⟨us, nw, t, s, st, rg, ps, tb, pd, sa, kp, pg, sp, it, pi, ua, yu, lt, e1, e2, ht, hs, fr_mono hR hB, hP⟩
theorem rn_loop {n : Nat} (hn : n ≤ 100) : ∀ (d m B t s : Nat) (us nw : Int64) (st rg ps tb pd sa kp pg sp it pi : Nat → Int32) (ua yu lt : Nat → Int64), m + d = n → B + 5 * d + 8 < 2 ^ 30 → t < 3 → s ≤ 4 → fr_RF B pi ua us yu nw → sm_PD pd →
    ∃ (r : Int32) (u : SX) (v : SY), rl_R (B + 5 * d) u v ∧ (∀ post : Int32 → SX → Prop, post r u → wX_run_14 post (nI n) (d + 1) (nI m) us (nI t) (nI s) st rg ps tb pd sa kp pg sp it pi ua lt) ∧
      (∀ post : Int32 → SY → Prop, post r v → wY_run_13 post (nI n) (d + 1) (nI m) nw (nI t) (nI s) st rg ps tb pd sa kp pg sp it pi yu lt) := by
  intro d
  induction d with
  | zero =>
    intro m B t s us nw st rg ps tb pd sa kp pg sp it pi ua yu lt hm hB ht hs hR hP
    have e : m = n := by omega
    subst e
    have hle : nI m ≤ nI m := nI_le (Nat.le_refl _) (by omega)
    exact ⟨nI m, (us, nI t, nI s, st, rg, ps, tb, pd, sa, kp, pg, sp, it, pi, ua, lt), (nw, nI t, nI s, st, rg, ps, tb, pd, sa, kp, pg, sp, it, pi, yu, lt), ⟨us, nw, t, s, st, rg, ps, tb, pd, sa, kp, pg, sp, it, pi, ua, yu, lt, rfl, rfl, ht, hs, hR, hP⟩, fun post hp => br_t hle hp, fun post hp => br_t hle hp⟩
  | succ d ih =>
    intro m B t s us nw st rg ps tb pd sa kp pg sp it pi ua yu lt hm hB ht hs hR hP
    have hle : ¬ nI n ≤ nI m := nI_ge (by omega) (by omega)
    rcases ft_both (us := us) (nw := nw) (st := st) (rg := rg) (ps := ps) (tb := tb) (pd := pd) (sa := sa) (kp := kp) (pg := pg) (sp := sp) (it := it) (pi := pi) (ua := ua) (yu := yu) (lt := lt) ht hs hP with ⟨c, e, hc, he, hX, hY⟩ | ⟨hX, hY⟩
    · obtain ⟨st', rg', ps', tb', pd', sa', pg', sp', it', pi', ua', us', yu', nw', lt', hR', hP', hX', hY'⟩ := sp_step (tg := nI c) (sl := nI (e + 1)) (sl2 := nI e) (kp := kp) (st := st) (rg := rg) (ps := ps) (tb := tb) (sa := sa) (pg := pg) (sp := sp) (it := it) (lt := lt) (B := B) (by omega) hc hR hP
      obtain ⟨r, u, v, hr, iX, iY⟩ := ih (m + 1) (B + 5) c e us' nw' st' rg' ps' tb' pd' sa' kp pg' sp' it' pi' ua' yu' lt' (by omega) (by omega) hc (by omega) hR' hP'
      refine ⟨r, u, v, rl_mono hr (by omega), ?_, ?_⟩
      · intro post hp
        exact br_f hle (hX (br_f (by decide) (hX' _ (nm_r (nI_pred e) (nm_r (nI_1 m) (iX post hp))))))
      · intro post hp
        exact br_f hle (hY (nm_r (nI_pred e) (hY' _ (nm_r (nI_1 m) (iY post hp)))))
    · refine ⟨nI m, (us, nI t, nI s, st, rg, ps, tb, pd, sa, kp, pg, sp, it, pi, ua, lt), (nw, nI t, nI s, st, rg, ps, tb, pd, sa, kp, pg, sp, it, pi, yu, lt), ⟨us, nw, t, s, st, rg, ps, tb, pd, sa, kp, pg, sp, it, pi, ua, yu, lt, rfl, rfl, ht, hs, fr_mono hR (by omega), hP⟩, ?_, ?_⟩
      · intro post hp
        exact br_f hle (hX (br_t rfl hp))
      · intro post hp
        exact br_f hle (hY hp)
end
end
section
section
variable {us nw : Int64} {tg sl : Int32} {st rg ps tb pd sa kp pg sp it pi : Nat → Int32} {ua yu lt : Nat → Int64}
/-! copy an image -/
theorem cp_64 {f t : Nat} (hf : f < 5) (ht : t < 5) : ∀ (d a : Nat) (st : Nat → Int32), a + d = 64 → ∃ st' : Nat → Int32,
    (∀ {us : Int64} {tg sl : Int32} {rg ps tb pd sa kp pg sp it pi : Nat → Int32} {ua lt : Nat → Int64} {post : SX → Prop}, (∃ n38 : Nat, wX_copyImage_38 post (nI f) (nI t) us tg sl n38 0 st' rg ps tb pd sa kp pg sp it pi ua lt) → wX_copyImage_2 post (nI f) (nI t) us tg sl (d + 1) (nI a) st rg ps tb pd sa kp pg sp it pi ua lt) ∧
    (∀ {nw : Int64} {tg sl : Int32} {rg ps tb pd sa kp pg sp it pi : Nat → Int32} {yu lt : Nat → Int64} {post : SY → Prop}, (∃ n38 : Nat, wY_become_38 post (nI f) (nI t) nw tg sl n38 0 st' rg ps tb pd sa kp pg sp it pi yu lt) → wY_become_2 post (nI f) (nI t) nw tg sl (d + 1) (nI a) st rg ps tb pd sa kp pg sp it pi yu lt) := by
  intro d
  induction d with
  | zero =>
    intro a st h
    have e : a = 64 := by omega
    subst e
    refine ⟨st, ?_, ?_⟩
    · intro us tg sl rg ps tb pd sa kp pg sp it pi ua lt post hp
      exact br_t (by decide) hp
    · intro nw tg sl rg ps tb pd sa kp pg sp it pi yu lt post hp
      exact br_t (by decide) hp
  | succ d ih =>
    intro a st h
    obtain ⟨st', hX, hY⟩ := ih (a + 1) (upd st (64 * t + a) (st (64 * f + a))) (by omega)
    have h6 : ¬ (64 : Int32) ≤ nI a := nI_ge (b := 64) (by omega) (by omega)
    have e1 : nI f * 64 + nI a = nI (64 * f + a) := ix_64 f a
    have e2 : nI t * 64 + nI a = nI (64 * t + a) := ix_64 t a
    have e3 : 64 * nI f + nI a = nI (64 * f + a) := iy_64 f a
    have e4 : 64 * nI t + nI a = nI (64 * t + a) := iy_64 t a
    have c1 : (nI (64 * f + a)).toNatClampNeg = 64 * f + a := nI_clamp (by omega)
    have c2 : (nI (64 * t + a)).toNatClampNeg = 64 * t + a := nI_clamp (by omega)
    have v1 : vp_in (nI (64 * f + a)) 320 := vp_in_nI (by omega) (by omega)
    have v2 : vp_in (nI (64 * t + a)) 320 := vp_in_nI (by omega) (by omega)
    refine ⟨st', ?_, ?_⟩
    · intro us tg sl rg ps tb pd sa kp pg sp it pi ua lt post hp
      exact br_f h6 ⟨by rw [e1]; exact v1, by rw [e2]; exact v2, nm_r (by rw [e1, e2, c1, c2]) (nm_r (nI_1 a) (hX hp))⟩
    · intro nw tg sl rg ps tb pd sa kp pg sp it pi yu lt post hp
      exact br_f h6 ⟨by rw [e3]; exact v1, by rw [e4]; exact v2, nm_r (by rw [e3, e4, c1, c2]) (nm_r (nI_1 a) (hY hp))⟩
theorem cp_4 {f t : Nat} (hf : f < 5) (ht : t < 5) : ∀ (d a : Nat) (rg : Nat → Int32), a + d = 4 → ∃ rg' : Nat → Int32,
    (∀ {us : Int64} {tg sl : Int32} {st ps tb pd sa kp pg sp it pi : Nat → Int32} {ua lt : Nat → Int64} {post : SX → Prop}, post (us, tg, sl, st, rg', upd ps t (ps f), upd tb t (tb f), upd pd t (pd f), upd sa t (sa f), kp, pg, sp, it, pi, ua, lt) → wX_copyImage_38 post (nI f) (nI t) us tg sl (d + 1) (nI a) st rg ps tb pd sa kp pg sp it pi ua lt) ∧
    (∀ {nw : Int64} {tg sl : Int32} {st ps tb pd sa kp pg sp it pi : Nat → Int32} {yu lt : Nat → Int64} {post : SY → Prop}, post (nw, tg, sl, st, rg', upd ps t (ps f), upd tb t (tb f), upd pd t (pd f), upd sa t (sa f), kp, pg, sp, it, pi, yu, lt) → wY_become_38 post (nI f) (nI t) nw tg sl (d + 1) (nI a) st rg ps tb pd sa kp pg sp it pi yu lt) := by
  have ef : (nI f).toNatClampNeg = f := nI_clamp (by omega)
  have et : (nI t).toNatClampNeg = t := nI_clamp (by omega)
  have vf : vp_in (nI f) 5 := vp_in_nI (by omega) (by omega)
  have vt : vp_in (nI t) 5 := vp_in_nI (by omega) (by omega)
  intro d
  induction d with
  | zero =>
    intro a rg h
    have e : a = 4 := by omega
    subst e
    refine ⟨rg, ?_, ?_⟩
    · intro us tg sl st ps tb pd sa kp pg sp it pi ua lt post hp
      exact br_t (by decide) ⟨vf, vt, nm_r (by rw [ef, et]) ⟨vf, vt, nm_r (by rw [ef, et]) ⟨vf, vt, nm_r (by rw [ef, et]) ⟨vf, vt, nm_r (by rw [ef, et]) hp⟩⟩⟩⟩
    · intro nw tg sl st ps tb pd sa kp pg sp it pi yu lt post hp
      exact br_t (by decide) ⟨vf, vt, nm_r (by rw [ef, et]) ⟨vf, vt, nm_r (by rw [ef, et]) ⟨vf, vt, nm_r (by rw [ef, et]) ⟨vf, vt, nm_r (by rw [ef, et]) hp⟩⟩⟩⟩
  | succ d ih =>
    intro a rg h
    obtain ⟨rg', hX, hY⟩ := ih (a + 1) (upd rg (4 * t + a) (rg (4 * f + a))) (by omega)
    have h6 : ¬ (4 : Int32) ≤ nI a := nI_ge (b := 4) (by omega) (by omega)
    have e1 : nI f * 4 + nI a = nI (4 * f + a) := ix_4 f a
    have e2 : nI t * 4 + nI a = nI (4 * t + a) := ix_4 t a
    have e3 : 4 * nI f + nI a = nI (4 * f + a) := iy_4 f a
    have e4 : 4 * nI t + nI a = nI (4 * t + a) := iy_4 t a
    have c1 : (nI (4 * f + a)).toNatClampNeg = 4 * f + a := nI_clamp (by omega)
    have c2 : (nI (4 * t + a)).toNatClampNeg = 4 * t + a := nI_clamp (by omega)
    have v1 : vp_in (nI (4 * f + a)) 20 := vp_in_nI (by omega) (by omega)
    have v2 : vp_in (nI (4 * t + a)) 20 := vp_in_nI (by omega) (by omega)
    refine ⟨rg', ?_, ?_⟩
    · intro us tg sl st ps tb pd sa kp pg sp it pi ua lt post hp
      exact br_f h6 ⟨by rw [e1]; exact v1, by rw [e2]; exact v2, nm_r (by rw [e1, e2, c1, c2]) (nm_r (nI_1 a) (hX hp))⟩
    · intro nw tg sl st ps tb pd sa kp pg sp it pi yu lt post hp
      exact br_f h6 ⟨by rw [e3]; exact v1, by rw [e4]; exact v2, nm_r (by rw [e3, e4, c1, c2]) (nm_r (nI_1 a) (hY hp))⟩
theorem cp_both {f t : Nat} (hf : f < 5) (ht : t < 5) (st rg : Nat → Int32) : ∃ st' rg' : Nat → Int32,
    (∀ {us : Int64} {tg sl : Int32} {ps tb pd sa kp pg sp it pi : Nat → Int32} {ua lt : Nat → Int64} {post : SX → Prop}, post (us, tg, sl, st', rg', upd ps t (ps f), upd tb t (tb f), upd pd t (pd f), upd sa t (sa f), kp, pg, sp, it, pi, ua, lt) → wpX_copyImage post (us, tg, sl, st, rg, ps, tb, pd, sa, kp, pg, sp, it, pi, ua, lt) (nI f) (nI t)) ∧
    (∀ {nw : Int64} {tg sl : Int32} {ps tb pd sa kp pg sp it pi : Nat → Int32} {yu lt : Nat → Int64} {post : SY → Prop}, post (nw, tg, sl, st', rg', upd ps t (ps f), upd tb t (tb f), upd pd t (pd f), upd sa t (sa f), kp, pg, sp, it, pi, yu, lt) → wpY_become post (nw, tg, sl, st, rg, ps, tb, pd, sa, kp, pg, sp, it, pi, yu, lt) (nI f) (nI t)) := by
  obtain ⟨st', hX, hY⟩ := cp_64 hf ht 64 0 st (by omega)
  obtain ⟨rg', kX, kY⟩ := cp_4 hf ht 4 0 rg (by omega)
  refine ⟨st', rg', ?_, ?_⟩
  · intro us tg sl ps tb pd sa kp pg sp it pi ua lt post hp
    exact ⟨65, hX ⟨5, kX hp⟩⟩
  · intro nw tg sl ps tb pd sa kp pg sp it pi yu lt post hp
    exact ⟨65, hY ⟨5, kY hp⟩⟩
theorem cp_PD {f t : Nat} (hf : f < 5) (hP : sm_PD pd) : sm_PD (upd pd t (pd f)) := by
  intro i hi
  by_cases e : i = t
  · rw [e, pk_us]; exact hP f hf
  · rw [pk_un e]; exact hP i hi
theorem cl_X {g : Nat} (hg : g < 3) {post : SX → Prop} (h : post (us, tg, sl, st, rg, ps, tb, pd, sa, kp, upd pg g 0, upd sp g 0, upd it g 0, pi, ua, lt)) : wpX_clearCounts post (us, tg, sl, st, rg, ps, tb, pd, sa, kp, pg, sp, it, pi, ua, lt) (nI g) := by
  have eg : (nI g).toNatClampNeg = g := nI_clamp (by omega)
  have vg : vp_in (nI g) 3 := vp_in_nI (by omega) (by omega)
  exact ⟨vg, nm_r (by rw [eg]) ⟨vg, nm_r (by rw [eg]) ⟨vg, nm_r (by rw [eg]) h⟩⟩⟩
theorem cl_Y {g : Nat} (hg : g < 3) {post : SY → Prop} (h : post (nw, tg, sl, st, rg, ps, tb, pd, sa, kp, upd pg g 0, upd sp g 0, upd it g 0, pi, yu, lt)) : wpY_forget post (nw, tg, sl, st, rg, ps, tb, pd, sa, kp, pg, sp, it, pi, yu, lt) (nI g) := by
  have eg : (nI g).toNatClampNeg = g := nI_clamp (by omega)
  have vg : vp_in (nI g) 3 := vp_in_nI (by omega) (by omega)
  exact ⟨vg, nm_r (by rw [eg]) ⟨vg, nm_r (by rw [eg]) ⟨vg, nm_r (by rw [eg]) h⟩⟩⟩
theorem ff_loop {B g : Nat} {us nw : Int64} {yu : Nat → Int64} : ∀ (d i : Nat) (pi : Nat → Int32) (ua : Nat → Int64), i + d = 6 → fr_RF B pi ua us yu nw → ∃ (pi' : Nat → Int32) (ua' : Nat → Int64), fr_RF B pi' ua' us yu nw ∧
    (∀ {tg sl : Int32} {st rg ps tb pd sa kp pg sp it : Nat → Int32} {lt : Nat → Int64} {post : SX → Prop}, post (us, tg, sl, st, rg, ps, tb, pd, sa, kp, pg, sp, it, pi', ua', lt) → wX_freeFrames_2 post (nI g) us tg sl (d + 1) (nI i) st rg ps tb pd sa kp pg sp it pi ua lt) ∧
    (∀ {tg sl : Int32} {st rg ps tb pd sa kp pg sp it : Nat → Int32} {lt : Nat → Int64} {post : SY → Prop}, post (nw, tg, sl, st, rg, ps, tb, pd, sa, kp, pg, sp, it, pi', yu, lt) → wY_clearFrames_2 post (nI g) nw tg sl (d + 1) (nI i) st rg ps tb pd sa kp pg sp it pi yu lt) := by
  intro d
  induction d with
  | zero =>
    intro i pi ua h hR
    have e : i = 6 := by omega
    subst e
    refine ⟨pi, ua, hR, ?_, ?_⟩
    · intro tg sl st rg ps tb pd sa kp pg sp it lt post hp
      exact br_t (by decide) hp
    · intro tg sl st rg ps tb pd sa kp pg sp it lt post hp
      exact br_t (by decide) hp
  | succ d ih =>
    intro i pi ua h hR
    have h6 : ¬ (6 : Int32) ≤ nI i := nI_ge (b := 6) (by omega) (by omega)
    have ei : (nI i).toNatClampNeg = i := nI_clamp (by omega)
    have vi : vp_in (nI i) 6 := vp_in_nI (by omega) (by omega)
    have hv : pi i = -1 ∨ ∃ p, p < 24 ∧ pi i = nI p := by
      obtain ⟨U, V, n, m, h1, h2, h3, h4, h5, h6, h7⟩ := hR
      exact (h6 i (by omega)).elim (fun z => Or.inl z.1) (fun ⟨p, hp, e, _⟩ => Or.inr ⟨p, hp, e⟩)
    rcases hv with hv | ⟨p, hp24, hv⟩
    · obtain ⟨pi', ua', hR', hX, hY⟩ := ih (i + 1) pi ua (by omega) hR
      refine ⟨pi', ua', hR', ?_, ?_⟩
      · intro tg sl st rg ps tb pd sa kp pg sp it lt post hp
        exact br_f h6 ⟨vi, br_t (by rw [ei]; exact hv) (nm_r (nI_1 i) (hX hp))⟩
      · intro tg sl st rg ps tb pd sa kp pg sp it lt post hp
        exact br_f h6 ⟨vi, br_t (by rw [ei, hv]; decide) (nm_r (nI_1 i) (hY hp))⟩
    · have n1 : ¬ pi (nI i).toNatClampNeg = -1 := by rw [ei, hv]; exact fr_nm1 hp24
      have n2 : ¬ pi (nI i).toNatClampNeg < 0 := by rw [ei, hv]; exact nI_pos (by omega)
      by_cases hd : pi i / 8 = nI g
      · obtain ⟨pi', ua', hR', hX, hY⟩ := ih (i + 1) (upd pi i (-1)) (vp_updL ua i 0) (by omega) (fr_free hR)
        refine ⟨pi', ua', hR', ?_, ?_⟩
        · intro tg sl st rg ps tb pd sa kp pg sp it lt post hp
          exact br_f h6 ⟨vi, br_f n1 ⟨vi, by decide, br_t (by rw [ei]; exact hd) ⟨vi, nm_r (by rw [ei]) ⟨vi, nm_r (by rw [ei]) (nm_r (nI_1 i) (hX hp))⟩⟩⟩⟩
        · intro tg sl st rg ps tb pd sa kp pg sp it lt post hp
          exact br_f h6 ⟨vi, br_f n2 ⟨vi, by decide, br_t (by rw [ei]; exact hd) ⟨vi, nm_r (by rw [ei]) (nm_r (nI_1 i) (hY hp))⟩⟩⟩
      · obtain ⟨pi', ua', hR', hX, hY⟩ := ih (i + 1) pi ua (by omega) hR
        refine ⟨pi', ua', hR', ?_, ?_⟩
        · intro tg sl st rg ps tb pd sa kp pg sp it lt post hp
          exact br_f h6 ⟨vi, br_f n1 ⟨vi, by decide, br_f (by rw [ei]; exact hd) (nm_r (nI_1 i) (hX hp))⟩⟩
        · intro tg sl st rg ps tb pd sa kp pg sp it lt post hp
          exact br_f h6 ⟨vi, br_f n2 ⟨vi, by decide, br_f (by rw [ei]; exact hd) (nm_r (nI_1 i) (hY hp))⟩⟩
theorem ff_both {B g : Nat} {us nw : Int64} {pi : Nat → Int32} {ua yu : Nat → Int64} (hR : fr_RF B pi ua us yu nw) : ∃ (pi' : Nat → Int32) (ua' : Nat → Int64), fr_RF B pi' ua' us yu nw ∧
    (∀ {tg sl : Int32} {st rg ps tb pd sa kp pg sp it : Nat → Int32} {lt : Nat → Int64} {post : SX → Prop}, post (us, tg, sl, st, rg, ps, tb, pd, sa, kp, pg, sp, it, pi', ua', lt) → wpX_freeFrames post (us, tg, sl, st, rg, ps, tb, pd, sa, kp, pg, sp, it, pi, ua, lt) (nI g)) ∧
    (∀ {tg sl : Int32} {st rg ps tb pd sa kp pg sp it : Nat → Int32} {lt : Nat → Int64} {post : SY → Prop}, post (nw, tg, sl, st, rg, ps, tb, pd, sa, kp, pg, sp, it, pi', yu, lt) → wpY_clearFrames post (nw, tg, sl, st, rg, ps, tb, pd, sa, kp, pg, sp, it, pi, yu, lt) (nI g)) := by
  obtain ⟨pi', ua', hR', hX, hY⟩ := ff_loop (g := g) 6 0 pi ua (by omega) hR
  refine ⟨pi', ua', hR', ?_, ?_⟩
  · intro tg sl st rg ps tb pd sa kp pg sp it lt post hp
    exact ⟨7, hX hp⟩
  · intro tg sl st rg ps tb pd sa kp pg sp it lt post hp
    exact ⟨7, hY hp⟩
theorem sa_loop {g : Nat} (hg : g < 3) : ∀ (d a : Nat) (rg : Nat → Int32), a + d = 4 → ∃ rg' : Nat → Int32,
    (∀ {us : Int64} {tg sl : Int32} {st ps tb pd sa kp pg sp it pi : Nat → Int32} {ua lt : Nat → Int64} {post : Int32 → SX → Prop}, post 1 (us, tg, sl, st, rg', ps, upd tb g 0, upd pd g (-1), upd sa g 1, kp, upd pg g 0, upd sp g 0, upd it g 0, pi, ua, lt) → wX_start_22 post (nI g) us tg sl (d + 1) (nI a) st rg ps tb pd sa kp pg sp it pi ua lt) ∧
    (∀ {nw : Int64} {tg sl : Int32} {st ps tb pd sa kp pg sp it pi : Nat → Int32} {yu lt : Nat → Int64} {post : Int32 → SY → Prop}, post 1 (nw, tg, sl, st, rg', ps, upd tb g 0, upd pd g (-1), upd sa g 1, kp, upd pg g 0, upd sp g 0, upd it g 0, pi, yu, lt) → wY_start_23 post (nI g) nw tg sl (d + 1) (nI a) st rg ps tb pd sa kp pg sp it pi yu lt) := by
  have eg : (nI g).toNatClampNeg = g := nI_clamp (by omega)
  have vg : vp_in (nI g) 5 := vp_in_nI (by omega) (by omega)
  intro d
  induction d with
  | zero =>
    intro a rg h
    have e : a = 4 := by omega
    subst e
    refine ⟨rg, ?_, ?_⟩
    · intro us tg sl st ps tb pd sa kp pg sp it pi ua lt post hp
      exact br_t (by decide) ⟨vg, nm_r (by rw [eg]) ⟨vg, nm_r (by rw [eg]) ⟨vg, nm_r (by rw [eg]) (cl_X hg hp)⟩⟩⟩
    · intro nw tg sl st ps tb pd sa kp pg sp it pi yu lt post hp
      exact br_t (by decide) ⟨vg, nm_r (by rw [eg]) ⟨vg, nm_r (by rw [eg]) ⟨vg, nm_r (by rw [eg]) (cl_Y hg hp)⟩⟩⟩
  | succ d ih =>
    intro a rg h
    obtain ⟨rg', hX, hY⟩ := ih (a + 1) (upd rg (4 * g + a) 0) (by omega)
    have h6 : ¬ (4 : Int32) ≤ nI a := nI_ge (b := 4) (by omega) (by omega)
    have e1 : nI g * 4 + nI a = nI (4 * g + a) := ix_4 g a
    have e3 : 4 * nI g + nI a = nI (4 * g + a) := iy_4 g a
    have c1 : (nI (4 * g + a)).toNatClampNeg = 4 * g + a := nI_clamp (by omega)
    have v1 : vp_in (nI (4 * g + a)) 20 := vp_in_nI (by omega) (by omega)
    refine ⟨rg', ?_, ?_⟩
    · intro us tg sl st ps tb pd sa kp pg sp it pi ua lt post hp
      exact br_f h6 ⟨by rw [e1]; exact v1, nm_r (by rw [e1, c1]) (nm_r (nI_1 a) (hX hp))⟩
    · intro nw tg sl st ps tb pd sa kp pg sp it pi yu lt post hp
      exact br_f h6 ⟨by rw [e3]; exact v1, nm_r (by rw [e3, c1]) (nm_r (nI_1 a) (hY hp))⟩
/-! the constructors -/
theorem in_lt : ∀ (d i : Nat) (lt : Nat → Int64), i + d = 8 → (∀ j, j < i → lt j = -1) → ∃ lt' : Nat → Int64, (∀ j, j < 8 → lt' j = -1) ∧
    (∀ {us : Int64} {tg sl : Int32} {st rg ps tb pd sa kp pg sp it pi : Nat → Int32} {ua : Nat → Int64} {post : SX → Prop}, post (us, tg, sl, st, rg, ps, tb, pd, sa, kp, pg, sp, it, pi, ua, lt') → wX_init_159 post us tg sl (d + 1) (nI i) st rg ps tb pd sa kp pg sp it pi ua lt) ∧
    (∀ {nw : Int64} {tg sl : Int32} {st rg ps tb pd sa kp pg sp it pi : Nat → Int32} {yu : Nat → Int64} {post : SY → Prop}, post (nw, tg, sl, st, rg, ps, tb, pd, sa, kp, pg, sp, it, pi, yu, lt') → wY_init_149 post nw tg sl (d + 1) (nI i) st rg ps tb pd sa kp pg sp it pi yu lt) := by
  intro d
  induction d with
  | zero =>
    intro i lt h hA
    have e : i = 8 := by omega
    subst e
    refine ⟨lt, hA, ?_, ?_⟩
    · intro us tg sl st rg ps tb pd sa kp pg sp it pi ua post hp
      exact br_t (by decide) hp
    · intro nw tg sl st rg ps tb pd sa kp pg sp it pi yu post hp
      exact br_t (by decide) hp
  | succ d ih =>
    intro i lt h hA
    have h6 : ¬ (8 : Int32) ≤ nI i := nI_ge (b := 8) (by omega) (by omega)
    have ei : (nI i).toNatClampNeg = i := nI_clamp (by omega)
    have vi : vp_in (nI i) 8 := vp_in_nI (by omega) (by omega)
    obtain ⟨lt', hA', hX, hY⟩ := ih (i + 1) (vp_updL lt i (-1)) (by omega) (fun j hj => by
      by_cases e : j = i
      · rw [e, pk_uLs]
      · rw [pk_uLn e]; exact hA j (by omega))
    refine ⟨lt', hA', ?_, ?_⟩
    · intro us tg sl st rg ps tb pd sa kp pg sp it pi ua post hp
      exact br_f h6 ⟨vi, nm_r (by rw [ei]) (nm_r (nI_1 i) (hX hp))⟩
    · intro nw tg sl st rg ps tb pd sa kp pg sp it pi yu post hp
      exact br_f h6 ⟨vi, nm_r (by rw [ei]) (nm_r (nI_1 i) (hY hp))⟩
theorem in_pi : ∀ (d i : Nat) (pi : Nat → Int32), i + d = 6 → (∀ j, j < i → pi j = -1) → ∃ pi' : Nat → Int32, (∀ j, j < 6 → pi' j = -1) ∧
    (∀ {us : Int64} {tg sl : Int32} {st rg ps tb pd sa kp pg sp it : Nat → Int32} {ua lt : Nat → Int64} {post : SX → Prop}, (∃ n159 : Nat, wX_init_159 post us tg sl n159 0 st rg ps tb pd sa kp pg sp it pi' ua lt) → wX_init_138 post us tg sl (d + 1) (nI i) st rg ps tb pd sa kp pg sp it pi ua lt) ∧
    (∀ {nw : Int64} {tg sl : Int32} {st rg ps tb pd sa kp pg sp it : Nat → Int32} {yu lt : Nat → Int64} {post : SY → Prop}, (∃ n149 : Nat, wY_init_149 post nw tg sl n149 0 st rg ps tb pd sa kp pg sp it pi' yu lt) → wY_init_128 post nw tg sl (d + 1) (nI i) st rg ps tb pd sa kp pg sp it pi yu lt) := by
  intro d
  induction d with
  | zero =>
    intro i pi h hA
    have e : i = 6 := by omega
    subst e
    refine ⟨pi, hA, ?_, ?_⟩
    · intro us tg sl st rg ps tb pd sa kp pg sp it ua lt post hp
      exact br_t (by decide) hp
    · intro nw tg sl st rg ps tb pd sa kp pg sp it yu lt post hp
      exact br_t (by decide) hp
  | succ d ih =>
    intro i pi h hA
    have h6 : ¬ (6 : Int32) ≤ nI i := nI_ge (b := 6) (by omega) (by omega)
    have ei : (nI i).toNatClampNeg = i := nI_clamp (by omega)
    have vi : vp_in (nI i) 6 := vp_in_nI (by omega) (by omega)
    obtain ⟨pi', hA', hX, hY⟩ := ih (i + 1) (upd pi i (-1)) (by omega) (fun j hj => by
      by_cases e : j = i
      · rw [e, pk_us]
      · rw [pk_un e]; exact hA j (by omega))
    refine ⟨pi', hA', ?_, ?_⟩
    · intro us tg sl st rg ps tb pd sa kp pg sp it ua lt post hp
      exact br_f h6 ⟨vi, nm_r (by rw [ei]) (nm_r (nI_1 i) (hX hp))⟩
    · intro nw tg sl st rg ps tb pd sa kp pg sp it yu lt post hp
      exact br_f h6 ⟨vi, nm_r (by rw [ei]) (nm_r (nI_1 i) (hY hp))⟩
theorem in_pd : ∀ (d i : Nat) (pd : Nat → Int32), i + d = 5 → (∀ j, j < i → pd j = -1) → ∃ pd' : Nat → Int32, (∀ j, j < 5 → pd' j = -1) ∧
    (∀ {us : Int64} {tg sl : Int32} {st rg ps tb sa kp pg sp it pi : Nat → Int32} {ua lt : Nat → Int64} {post : SX → Prop}, (∃ n138 : Nat, wX_init_138 post us tg sl n138 0 st rg ps tb pd' sa kp pg sp it pi ua lt) → wX_init_118 post us tg sl (d + 1) (nI i) st rg ps tb pd sa kp pg sp it pi ua lt) ∧
    (∀ {nw : Int64} {tg sl : Int32} {st rg ps tb sa kp pg sp it pi : Nat → Int32} {yu lt : Nat → Int64} {post : SY → Prop}, (∃ n128 : Nat, wY_init_128 post nw tg sl n128 0 st rg ps tb pd' sa kp pg sp it pi yu lt) → wY_init_108 post nw tg sl (d + 1) (nI i) st rg ps tb pd sa kp pg sp it pi yu lt) := by
  intro d
  induction d with
  | zero =>
    intro i pd h hA
    have e : i = 5 := by omega
    subst e
    refine ⟨pd, hA, ?_, ?_⟩
    · intro us tg sl st rg ps tb sa kp pg sp it pi ua lt post hp
      exact br_t (by decide) hp
    · intro nw tg sl st rg ps tb sa kp pg sp it pi yu lt post hp
      exact br_t (by decide) hp
  | succ d ih =>
    intro i pd h hA
    have h6 : ¬ (5 : Int32) ≤ nI i := nI_ge (b := 5) (by omega) (by omega)
    have ei : (nI i).toNatClampNeg = i := nI_clamp (by omega)
    have vi : vp_in (nI i) 5 := vp_in_nI (by omega) (by omega)
    obtain ⟨pd', hA', hX, hY⟩ := ih (i + 1) (upd pd i (-1)) (by omega) (fun j hj => by
      by_cases e : j = i
      · rw [e, pk_us]
      · rw [pk_un e]; exact hA j (by omega))
    refine ⟨pd', hA', ?_, ?_⟩
    · intro us tg sl st rg ps tb sa kp pg sp it pi ua lt post hp
      exact br_f h6 ⟨vi, nm_r (by rw [ei]) (nm_r (nI_1 i) (hX hp))⟩
    · intro nw tg sl st rg ps tb sa kp pg sp it pi yu lt post hp
      exact br_f h6 ⟨vi, nm_r (by rw [ei]) (nm_r (nI_1 i) (hY hp))⟩
end
end
section
section
variable {us nw : Int64} {tg sl : Int32} {st rg ps tb pd sa kp pg sp it pi : Nat → Int32} {ua yu lt : Nat → Int64}
/-! guards -/
theorem gd_g (x : Int32) : (x < 0 ∨ 3 ≤ x) ∨ ∃ j : Nat, j < 3 ∧ x = nI j := (pk_ix x (n := 3) (by decide)).elim (fun z => Or.inl (Or.inl z)) (fun z => z.elim (fun z => Or.inl (Or.inr z)) Or.inr)
theorem gd_a (x : Int32) : (x < 0 ∨ 64 ≤ x) ∨ ∃ j : Nat, j < 64 ∧ x = nI j := (pk_ix x (n := 64) (by decide)).elim (fun z => Or.inl (Or.inl z)) (fun z => z.elim (fun z => Or.inl (Or.inr z)) Or.inr)
theorem gd_s (x : Int32) : (x < 0 ∨ 2 ≤ x) ∨ ∃ j : Nat, j < 2 ∧ x = nI j := (pk_ix x (n := 2) (by decide)).elim (fun z => Or.inl (Or.inl z)) (fun z => z.elim (fun z => Or.inl (Or.inr z)) Or.inr)
theorem gd_8 (x : Int32) : (x < 0 ∨ 8 ≤ x) ∨ ∃ j : Nat, j < 8 ∧ x = nI j := (pk_ix x (n := 8) (by decide)).elim (fun z => Or.inl (Or.inl z)) (fun z => z.elim (fun z => Or.inl (Or.inr z)) Or.inr)
theorem gd_c (x : Int32) : (x < 0 ∨ 256 ≤ x) ∨ ∃ j : Nat, j < 256 ∧ x = nI j := (pk_ix x (n := 256) (by decide)).elim (fun z => Or.inl (Or.inl z)) (fun z => z.elim (fun z => Or.inl (Or.inr z)) Or.inr)
theorem gd_n (x : Int32) : (x < 0 ∨ 101 ≤ x) ∨ ∃ j : Nat, j < 101 ∧ x = nI j := (pk_ix x (n := 101) (by decide)).elim (fun z => Or.inl (Or.inl z)) (fun z => z.elim (fun z => Or.inl (Or.inr z)) Or.inr)
theorem gd_11 (x : Int32) : (x < 0 ∨ 11 ≤ x) ∨ ∃ j : Nat, j < 11 ∧ x = nI j := (pk_ix x (n := 11) (by decide)).elim (fun z => Or.inl (Or.inl z)) (fun z => z.elim (fun z => Or.inl (Or.inr z)) Or.inr)
theorem gd_Y0 {x N : Int32} {post : Int32 → Prop} (h : x < 0 ∨ N ≤ x) (hp : post 1) : wpY_out post x N := by
  by_cases h0 : x < 0
  · exact br_t h0 hp
  · exact br_f h0 (br_f (Int32.not_lt.mpr (h.resolve_left h0)) hp)
theorem gd_Y1 {j N : Nat} {post : Int32 → Prop} (h : j < N) (hN : N < 2 ^ 31) (hp : post 0) : wpY_out post (nI j) (nI N) :=
  br_f (nI_pos (by omega)) (br_t (nI_lt h hN) hp)
theorem gd_Guest0 {x : Int32} {post : Int32 → Prop} (h : x < 0 ∨ 3 ≤ x) (hp : post 0) : wpX_isGuest post x := by
  by_cases h0 : x < 0
  · exact br_t h0 hp
  · exact br_f h0 (br_t (h.resolve_left h0) hp)
theorem gd_Guest1 {j : Nat} {post : Int32 → Prop} (h : j < 3) (hp : post 1) : wpX_isGuest post (nI j) :=
  br_f (nI_pos (by omega)) (br_f (nI_ge (b := 3) h (by omega)) hp)
theorem gd_Address0 {x : Int32} {post : Int32 → Prop} (h : x < 0 ∨ 64 ≤ x) (hp : post 0) : wpX_isAddress post x := by
  by_cases h0 : x < 0
  · exact br_t h0 hp
  · exact br_f h0 (br_t (h.resolve_left h0) hp)
theorem gd_Address1 {j : Nat} {post : Int32 → Prop} (h : j < 64) (hp : post 1) : wpX_isAddress post (nI j) :=
  br_f (nI_pos (by omega)) (br_f (nI_ge (b := 64) h (by omega)) hp)
theorem gd_Slot0 {x : Int32} {post : Int32 → Prop} (h : x < 0 ∨ 2 ≤ x) (hp : post 0) : wpX_isSlot post x := by
  by_cases h0 : x < 0
  · exact br_t h0 hp
  · exact br_f h0 (br_t (h.resolve_left h0) hp)
theorem gd_Slot1 {j : Nat} {post : Int32 → Prop} (h : j < 2) (hp : post 1) : wpX_isSlot post (nI j) :=
  br_f (nI_pos (by omega)) (br_f (nI_ge (b := 2) h (by omega)) hp)
end
def i_Rel (k : Nat) (u : SX) (v : SY) : Prop := rl_R (200 * k) u v
theorem ev_store {B B' : Nat} {u : SX} {v : SY} (I : rl_R B u v) (hB : B + 600 ≤ B') (hB2 : B' < 2 ^ 29) (v1 v2 v3 : Int32) :
    ∃ (r : Int32) (u' : SX) (v' : SY), rl_R B' u' v' ∧ (∀ post : Int32 → SX → Prop, post r u' → wpX_store post u v1 v2 v3) ∧ (∀ post : Int32 → SY → Prop, post r v' → wpY_store post v v1 v2 v3) := by
  obtain ⟨us, nw, t, s, st, rg, ps, tb, pd, sa, kp, pg, sp, it, pi, ua, yu, lt, rfl, rfl, ht, hs, hR, hP⟩ := I
  rcases gd_g v1 with h | ⟨g, hg, rfl⟩
  · refine ⟨0, (us, nI t, nI s, st, rg, ps, tb, pd, sa, kp, pg, sp, it, pi, ua, lt), (nw, nI t, nI s, st, rg, ps, tb, pd, sa, kp, pg, sp, it, pi, yu, lt), ⟨us, nw, t, s, st, rg, ps, tb, pd, sa, kp, pg, sp, it, pi, ua, yu, lt, rfl, rfl, ht, hs, fr_mono hR (by omega), hP⟩, ?_, ?_⟩
    · intro post hp
      unfold wpX_store
      exact gd_Guest0 h (br_t rfl hp)
    · intro post hp
      unfold wpY_store
      exact gd_Y0 h (br_f (by decide) hp)
  · rcases gd_a v2 with h | ⟨a, ha, rfl⟩
    · refine ⟨0, (us, nI t, nI s, st, rg, ps, tb, pd, sa, kp, pg, sp, it, pi, ua, lt), (nw, nI t, nI s, st, rg, ps, tb, pd, sa, kp, pg, sp, it, pi, yu, lt), ⟨us, nw, t, s, st, rg, ps, tb, pd, sa, kp, pg, sp, it, pi, ua, yu, lt, rfl, rfl, ht, hs, fr_mono hR (by omega), hP⟩, ?_, ?_⟩
      · intro post hp
        unfold wpX_store
        exact gd_Guest1 hg (br_f (by decide) (gd_Address0 h (br_t rfl hp)))
      · intro post hp
        unfold wpY_store
        exact gd_Y1 (N := 3) hg (by decide) (br_t rfl (gd_Y0 h (br_f (by decide) hp)))
    · have e1 : nI g * 64 + nI a = nI (64 * g + a) := ix_64 g a
      have e2 : 64 * nI g + nI a = nI (64 * g + a) := iy_64 g a
      have v : vp_in (nI (64 * g + a)) 320 := vp_in_nI (by omega) (by omega)
      have c : (nI (64 * g + a)).toNatClampNeg = 64 * g + a := nI_clamp (by omega)
      refine ⟨1, (us, nI t, nI s, upd st (64 * g + a) v3, rg, ps, tb, pd, sa, kp, pg, sp, it, pi, ua, lt), (nw, nI t, nI s, upd st (64 * g + a) v3, rg, ps, tb, pd, sa, kp, pg, sp, it, pi, yu, lt), ⟨us, nw, t, s, upd st (64 * g + a) v3, rg, ps, tb, pd, sa, kp, pg, sp, it, pi, ua, yu, lt, rfl, rfl, ht, hs, fr_mono hR (by omega), hP⟩, ?_, ?_⟩
      · intro post hp
        unfold wpX_store
        exact gd_Guest1 hg (br_f (by decide) (gd_Address1 ha (br_f (by decide) ⟨by rw [e1]; exact v, nm_r (by rw [e1, c]) hp⟩)))
      · intro post hp
        unfold wpY_store
        exact gd_Y1 (N := 3) hg (by decide) (br_t rfl (gd_Y1 (N := 64) ha (by decide) (br_t rfl ⟨by rw [e2]; exact v, nm_r (by rw [e2, c]) hp⟩)))
theorem ev_start {B B' : Nat} {u : SX} {v : SY} (I : rl_R B u v) (hB : B + 600 ≤ B') (hB2 : B' < 2 ^ 29) (v1 v2 : Int32) :
    ∃ (r : Int32) (u' : SX) (v' : SY), rl_R B' u' v' ∧ (∀ post : Int32 → SX → Prop, post r u' → wpX_start post u v1 v2) ∧ (∀ post : Int32 → SY → Prop, post r v' → wpY_start post v v1 v2) := by
  obtain ⟨us, nw, t, s, st, rg, ps, tb, pd, sa, kp, pg, sp, it, pi, ua, yu, lt, rfl, rfl, ht, hs, hR, hP⟩ := I
  rcases gd_g v1 with h | ⟨g, hg, rfl⟩
  · refine ⟨0, (us, nI t, nI s, st, rg, ps, tb, pd, sa, kp, pg, sp, it, pi, ua, lt), (nw, nI t, nI s, st, rg, ps, tb, pd, sa, kp, pg, sp, it, pi, yu, lt), ⟨us, nw, t, s, st, rg, ps, tb, pd, sa, kp, pg, sp, it, pi, ua, yu, lt, rfl, rfl, ht, hs, fr_mono hR (by omega), hP⟩, ?_, ?_⟩
    · intro post hp
      unfold wpX_start
      exact gd_Guest0 h (br_t rfl hp)
    · intro post hp
      unfold wpY_start
      exact gd_Y0 h (br_f (by decide) hp)
  · obtain ⟨rg', lX, lY⟩ := sa_loop hg 4 0 rg (by omega)
    have eg : (nI g).toNatClampNeg = g := nI_clamp (by omega)
    have vg : vp_in (nI g) 5 := vp_in_nI (by omega) (by omega)
    refine ⟨1, (us, nI t, nI s, st, rg', upd ps g (v2 &&& 511), upd tb g 0, upd pd g (-1), upd sa g 1, kp, upd pg g 0, upd sp g 0, upd it g 0, pi, ua, lt), (nw, nI t, nI s, st, rg', upd ps g (v2 &&& 511), upd tb g 0, upd pd g (-1), upd sa g 1, kp, upd pg g 0, upd sp g 0, upd it g 0, pi, yu, lt), ⟨us, nw, t, s, st, rg', upd ps g (v2 &&& 511), upd tb g 0, upd pd g (-1), upd sa g 1, kp, upd pg g 0, upd sp g 0, upd it g 0, pi, ua, yu, lt, rfl, rfl, ht, hs, fr_mono hR (by omega), sm_PDu hP⟩, ?_, ?_⟩
    · intro post hp
      unfold wpX_start
      exact gd_Guest1 hg (br_f (by decide) (⟨vg, nm_r (by rw [eg]) ⟨5, lX hp⟩⟩))
    · intro post hp
      unfold wpY_start
      exact gd_Y1 (N := 3) hg (by decide) (br_t rfl (⟨vg, nm_r (by rw [eg]) ⟨5, lY hp⟩⟩))
theorem ev_stop {B B' : Nat} {u : SX} {v : SY} (I : rl_R B u v) (hB : B + 600 ≤ B') (hB2 : B' < 2 ^ 29) (v1 : Int32) :
    ∃ (r : Int32) (u' : SX) (v' : SY), rl_R B' u' v' ∧ (∀ post : Int32 → SX → Prop, post r u' → wpX_stop post u v1) ∧ (∀ post : Int32 → SY → Prop, post r v' → wpY_stop post v v1) := by
  obtain ⟨us, nw, t, s, st, rg, ps, tb, pd, sa, kp, pg, sp, it, pi, ua, yu, lt, rfl, rfl, ht, hs, hR, hP⟩ := I
  rcases gd_g v1 with h | ⟨g, hg, rfl⟩
  · refine ⟨0, (us, nI t, nI s, st, rg, ps, tb, pd, sa, kp, pg, sp, it, pi, ua, lt), (nw, nI t, nI s, st, rg, ps, tb, pd, sa, kp, pg, sp, it, pi, yu, lt), ⟨us, nw, t, s, st, rg, ps, tb, pd, sa, kp, pg, sp, it, pi, ua, yu, lt, rfl, rfl, ht, hs, fr_mono hR (by omega), hP⟩, ?_, ?_⟩
    · intro post hp
      unfold wpX_stop
      exact gd_Guest0 h (br_t rfl hp)
    · intro post hp
      unfold wpY_stop
      exact gd_Y0 h (br_f (by decide) hp)
  · have eg : (nI g).toNatClampNeg = g := nI_clamp (by omega)
    have vg : vp_in (nI g) 5 := vp_in_nI (by omega) (by omega)
    by_cases h0 : sa g = 0
    · refine ⟨0, (us, nI t, nI s, st, rg, ps, tb, pd, sa, kp, pg, sp, it, pi, ua, lt), (nw, nI t, nI s, st, rg, ps, tb, pd, sa, kp, pg, sp, it, pi, yu, lt), ⟨us, nw, t, s, st, rg, ps, tb, pd, sa, kp, pg, sp, it, pi, ua, yu, lt, rfl, rfl, ht, hs, fr_mono hR (by omega), hP⟩, ?_, ?_⟩
      · intro post hp
        unfold wpX_stop
        exact gd_Guest1 hg (br_f (by decide) (⟨vg, br_t (by rw [eg]; exact h0) hp⟩))
      · intro post hp
        unfold wpY_stop
        exact gd_Y1 (N := 3) hg (by decide) (br_t rfl (⟨vg, br_t (by rw [eg]; exact h0) hp⟩))
    · refine ⟨1, (us, nI t, nI s, st, rg, ps, tb, pd, upd sa g 0, kp, pg, sp, it, pi, ua, lt), (nw, nI t, nI s, st, rg, ps, tb, pd, upd sa g 0, kp, pg, sp, it, pi, yu, lt), ⟨us, nw, t, s, st, rg, ps, tb, pd, upd sa g 0, kp, pg, sp, it, pi, ua, yu, lt, rfl, rfl, ht, hs, fr_mono hR (by omega), hP⟩, ?_, ?_⟩
      · intro post hp
        unfold wpX_stop
        exact gd_Guest1 hg (br_f (by decide) (⟨vg, br_f (by rw [eg]; exact h0) ⟨vg, nm_r (by rw [eg]) hp⟩⟩))
      · intro post hp
        unfold wpY_stop
        exact gd_Y1 (N := 3) hg (by decide) (br_t rfl (⟨vg, br_f (by rw [eg]; exact h0) ⟨vg, nm_r (by rw [eg]) hp⟩⟩))
theorem ev_resume {B B' : Nat} {u : SX} {v : SY} (I : rl_R B u v) (hB : B + 600 ≤ B') (hB2 : B' < 2 ^ 29) (v1 : Int32) :
    ∃ (r : Int32) (u' : SX) (v' : SY), rl_R B' u' v' ∧ (∀ post : Int32 → SX → Prop, post r u' → wpX_resume post u v1) ∧ (∀ post : Int32 → SY → Prop, post r v' → wpY_resume post v v1) := by
  obtain ⟨us, nw, t, s, st, rg, ps, tb, pd, sa, kp, pg, sp, it, pi, ua, yu, lt, rfl, rfl, ht, hs, hR, hP⟩ := I
  rcases gd_g v1 with h | ⟨g, hg, rfl⟩
  · refine ⟨0, (us, nI t, nI s, st, rg, ps, tb, pd, sa, kp, pg, sp, it, pi, ua, lt), (nw, nI t, nI s, st, rg, ps, tb, pd, sa, kp, pg, sp, it, pi, yu, lt), ⟨us, nw, t, s, st, rg, ps, tb, pd, sa, kp, pg, sp, it, pi, ua, yu, lt, rfl, rfl, ht, hs, fr_mono hR (by omega), hP⟩, ?_, ?_⟩
    · intro post hp
      unfold wpX_resume
      exact gd_Guest0 h (br_t rfl hp)
    · intro post hp
      unfold wpY_resume
      exact gd_Y0 h (br_f (by decide) hp)
  · have eg : (nI g).toNatClampNeg = g := nI_clamp (by omega)
    have vg : vp_in (nI g) 5 := vp_in_nI (by omega) (by omega)
    by_cases h0 : sa g = 0
    · refine ⟨1, (us, nI t, nI s, st, rg, ps, tb, pd, upd sa g 1, kp, pg, sp, it, pi, ua, lt), (nw, nI t, nI s, st, rg, ps, tb, pd, upd sa g 1, kp, pg, sp, it, pi, yu, lt), ⟨us, nw, t, s, st, rg, ps, tb, pd, upd sa g 1, kp, pg, sp, it, pi, ua, yu, lt, rfl, rfl, ht, hs, fr_mono hR (by omega), hP⟩, ?_, ?_⟩
      · intro post hp
        unfold wpX_resume
        exact gd_Guest1 hg (br_f (by decide) (⟨vg, br_t (by rw [eg]; exact h0) ⟨vg, nm_r (by rw [eg]) hp⟩⟩))
      · intro post hp
        unfold wpY_resume
        exact gd_Y1 (N := 3) hg (by decide) (br_t rfl (⟨vg, br_t (by rw [eg]; exact h0) ⟨vg, nm_r (by rw [eg]) hp⟩⟩))
    · refine ⟨0, (us, nI t, nI s, st, rg, ps, tb, pd, sa, kp, pg, sp, it, pi, ua, lt), (nw, nI t, nI s, st, rg, ps, tb, pd, sa, kp, pg, sp, it, pi, yu, lt), ⟨us, nw, t, s, st, rg, ps, tb, pd, sa, kp, pg, sp, it, pi, ua, yu, lt, rfl, rfl, ht, hs, fr_mono hR (by omega), hP⟩, ?_, ?_⟩
      · intro post hp
        unfold wpX_resume
        exact gd_Guest1 hg (br_f (by decide) (⟨vg, br_f (by rw [eg]; exact h0) hp⟩))
      · intro post hp
        unfold wpY_resume
        exact gd_Y1 (N := 3) hg (by decide) (br_t rfl (⟨vg, br_f (by rw [eg]; exact h0) hp⟩))
theorem ev_copy {B B' : Nat} {u : SX} {v : SY} (I : rl_R B u v) (hB : B + 600 ≤ B') (hB2 : B' < 2 ^ 29) (v1 v2 : Int32) :
    ∃ (r : Int32) (u' : SX) (v' : SY), rl_R B' u' v' ∧ (∀ post : Int32 → SX → Prop, post r u' → wpX_copy post u v1 v2) ∧ (∀ post : Int32 → SY → Prop, post r v' → wpY_copy post v v1 v2) := by
  obtain ⟨us, nw, t, s, st, rg, ps, tb, pd, sa, kp, pg, sp, it, pi, ua, yu, lt, rfl, rfl, ht, hs, hR, hP⟩ := I
  rcases gd_g v1 with h | ⟨g, hg, rfl⟩
  · refine ⟨0, (us, nI t, nI s, st, rg, ps, tb, pd, sa, kp, pg, sp, it, pi, ua, lt), (nw, nI t, nI s, st, rg, ps, tb, pd, sa, kp, pg, sp, it, pi, yu, lt), ⟨us, nw, t, s, st, rg, ps, tb, pd, sa, kp, pg, sp, it, pi, ua, yu, lt, rfl, rfl, ht, hs, fr_mono hR (by omega), hP⟩, ?_, ?_⟩
    · intro post hp
      unfold wpX_copy
      exact gd_Guest0 h (br_t rfl hp)
    · intro post hp
      unfold wpY_copy
      exact gd_Y0 h (br_f (by decide) hp)
  · rcases gd_g v2 with h | ⟨a, ha, rfl⟩
    · refine ⟨0, (us, nI t, nI s, st, rg, ps, tb, pd, sa, kp, pg, sp, it, pi, ua, lt), (nw, nI t, nI s, st, rg, ps, tb, pd, sa, kp, pg, sp, it, pi, yu, lt), ⟨us, nw, t, s, st, rg, ps, tb, pd, sa, kp, pg, sp, it, pi, ua, yu, lt, rfl, rfl, ht, hs, fr_mono hR (by omega), hP⟩, ?_, ?_⟩
      · intro post hp
        unfold wpX_copy
        exact gd_Guest1 hg (br_f (by decide) (gd_Guest0 h (br_t rfl hp)))
      · intro post hp
        unfold wpY_copy
        exact gd_Y1 (N := 3) hg (by decide) (br_t rfl (gd_Y0 h (br_f (by decide) hp)))
    · by_cases he : nI g = nI a
      · refine ⟨0, (us, nI t, nI s, st, rg, ps, tb, pd, sa, kp, pg, sp, it, pi, ua, lt), (nw, nI t, nI s, st, rg, ps, tb, pd, sa, kp, pg, sp, it, pi, yu, lt), ⟨us, nw, t, s, st, rg, ps, tb, pd, sa, kp, pg, sp, it, pi, ua, yu, lt, rfl, rfl, ht, hs, fr_mono hR (by omega), hP⟩, ?_, ?_⟩
        · intro post hp
          unfold wpX_copy
          exact gd_Guest1 hg (br_f (by decide) (gd_Guest1 ha (br_f (by decide) (br_t he hp))))
        · intro post hp
          unfold wpY_copy
          exact gd_Y1 (N := 3) hg (by decide) (br_t rfl (gd_Y1 (N := 3) ha (by decide) (br_t rfl (br_t he hp))))
      · obtain ⟨st', rg', cX, cY⟩ := cp_both (f := g) (t := a) (by omega) (by omega) st rg
        obtain ⟨pi', ua', hR', fX, fY⟩ := ff_both (g := a) hR
        refine ⟨1, (us, nI t, nI s, st', rg', upd ps a (ps g), upd tb a (tb g), upd pd a (pd g), upd sa a (sa g), kp, upd pg a 0, upd sp a 0, upd it a 0, pi', ua', lt), (nw, nI t, nI s, st', rg', upd ps a (ps g), upd tb a (tb g), upd pd a (pd g), upd sa a (sa g), kp, upd pg a 0, upd sp a 0, upd it a 0, pi', yu, lt), ⟨us, nw, t, s, st', rg', upd ps a (ps g), upd tb a (tb g), upd pd a (pd g), upd sa a (sa g), kp, upd pg a 0, upd sp a 0, upd it a 0, pi', ua', yu, lt, rfl, rfl, ht, hs, fr_mono hR' (by omega), cp_PD (by omega) hP⟩, ?_, ?_⟩
        · intro post hp
          unfold wpX_copy
          exact gd_Guest1 hg (br_f (by decide) (gd_Guest1 ha (br_f (by decide) (br_f he (cX (cl_X ha (fX hp)))))))
        · intro post hp
          unfold wpY_copy
          exact gd_Y1 (N := 3) hg (by decide) (br_t rfl (gd_Y1 (N := 3) ha (by decide) (br_t rfl (br_f he (cY (cl_Y ha (fY hp)))))))
theorem ev_keep {B B' : Nat} {u : SX} {v : SY} (I : rl_R B u v) (hB : B + 600 ≤ B') (hB2 : B' < 2 ^ 29) (v1 v2 : Int32) :
    ∃ (r : Int32) (u' : SX) (v' : SY), rl_R B' u' v' ∧ (∀ post : Int32 → SX → Prop, post r u' → wpX_keep post u v1 v2) ∧ (∀ post : Int32 → SY → Prop, post r v' → wpY_keep post v v1 v2) := by
  obtain ⟨us, nw, t, s, st, rg, ps, tb, pd, sa, kp, pg, sp, it, pi, ua, yu, lt, rfl, rfl, ht, hs, hR, hP⟩ := I
  rcases gd_g v1 with h | ⟨g, hg, rfl⟩
  · refine ⟨0, (us, nI t, nI s, st, rg, ps, tb, pd, sa, kp, pg, sp, it, pi, ua, lt), (nw, nI t, nI s, st, rg, ps, tb, pd, sa, kp, pg, sp, it, pi, yu, lt), ⟨us, nw, t, s, st, rg, ps, tb, pd, sa, kp, pg, sp, it, pi, ua, yu, lt, rfl, rfl, ht, hs, fr_mono hR (by omega), hP⟩, ?_, ?_⟩
    · intro post hp
      unfold wpX_keep
      exact gd_Guest0 h (br_t rfl hp)
    · intro post hp
      unfold wpY_keep
      exact gd_Y0 h (br_f (by decide) hp)
  · rcases gd_s v2 with h | ⟨a, ha, rfl⟩
    · refine ⟨0, (us, nI t, nI s, st, rg, ps, tb, pd, sa, kp, pg, sp, it, pi, ua, lt), (nw, nI t, nI s, st, rg, ps, tb, pd, sa, kp, pg, sp, it, pi, yu, lt), ⟨us, nw, t, s, st, rg, ps, tb, pd, sa, kp, pg, sp, it, pi, ua, yu, lt, rfl, rfl, ht, hs, fr_mono hR (by omega), hP⟩, ?_, ?_⟩
      · intro post hp
        unfold wpX_keep
        exact gd_Guest1 hg (br_f (by decide) (gd_Slot0 h (br_t rfl hp)))
      · intro post hp
        unfold wpY_keep
        exact gd_Y1 (N := 3) hg (by decide) (br_t rfl (gd_Y0 h (br_f (by decide) hp)))
    · have e3 : 3 + nI a = nI (3 + a) := nI_add 3 a
      have ea : (nI a).toNatClampNeg = a := nI_clamp (by omega)
      have va : vp_in (nI a) 2 := vp_in_nI (by omega) (by omega)
      obtain ⟨st', rg', cX, cY⟩ := cp_both (f := g) (t := 3 + a) (by omega) (by omega) st rg
      rw [← e3] at cX cY
      refine ⟨1, (us, nI t, nI s, st', rg', upd ps (3 + a) (ps g), upd tb (3 + a) (tb g), upd pd (3 + a) (pd g), upd sa (3 + a) (sa g), upd kp a (vp_nar .boolean 1), pg, sp, it, pi, ua, lt), (nw, nI t, nI s, st', rg', upd ps (3 + a) (ps g), upd tb (3 + a) (tb g), upd pd (3 + a) (pd g), upd sa (3 + a) (sa g), upd kp a (vp_nar .boolean 1), pg, sp, it, pi, yu, lt), ⟨us, nw, t, s, st', rg', upd ps (3 + a) (ps g), upd tb (3 + a) (tb g), upd pd (3 + a) (pd g), upd sa (3 + a) (sa g), upd kp a (vp_nar .boolean 1), pg, sp, it, pi, ua, yu, lt, rfl, rfl, ht, hs, fr_mono hR (by omega), cp_PD (by omega) hP⟩, ?_, ?_⟩
      · intro post hp
        unfold wpX_keep
        exact gd_Guest1 hg (br_f (by decide) (gd_Slot1 ha (br_f (by decide) (cX ⟨va, nm_r (by rw [ea]) hp⟩))))
      · intro post hp
        unfold wpY_keep
        exact gd_Y1 (N := 3) hg (by decide) (br_t rfl (gd_Y1 (N := 2) ha (by decide) (br_t rfl (cY ⟨va, nm_r (by rw [ea]) hp⟩))))
theorem ev_back {B B' : Nat} {u : SX} {v : SY} (I : rl_R B u v) (hB : B + 600 ≤ B') (hB2 : B' < 2 ^ 29) (v1 v2 : Int32) :
    ∃ (r : Int32) (u' : SX) (v' : SY), rl_R B' u' v' ∧ (∀ post : Int32 → SX → Prop, post r u' → wpX_back post u v1 v2) ∧ (∀ post : Int32 → SY → Prop, post r v' → wpY_back post v v1 v2) := by
  obtain ⟨us, nw, t, s, st, rg, ps, tb, pd, sa, kp, pg, sp, it, pi, ua, yu, lt, rfl, rfl, ht, hs, hR, hP⟩ := I
  rcases gd_g v1 with h | ⟨g, hg, rfl⟩
  · refine ⟨0, (us, nI t, nI s, st, rg, ps, tb, pd, sa, kp, pg, sp, it, pi, ua, lt), (nw, nI t, nI s, st, rg, ps, tb, pd, sa, kp, pg, sp, it, pi, yu, lt), ⟨us, nw, t, s, st, rg, ps, tb, pd, sa, kp, pg, sp, it, pi, ua, yu, lt, rfl, rfl, ht, hs, fr_mono hR (by omega), hP⟩, ?_, ?_⟩
    · intro post hp
      unfold wpX_back
      exact gd_Guest0 h (br_t rfl hp)
    · intro post hp
      unfold wpY_back
      exact gd_Y0 h (br_f (by decide) hp)
  · rcases gd_s v2 with h | ⟨a, ha, rfl⟩
    · refine ⟨0, (us, nI t, nI s, st, rg, ps, tb, pd, sa, kp, pg, sp, it, pi, ua, lt), (nw, nI t, nI s, st, rg, ps, tb, pd, sa, kp, pg, sp, it, pi, yu, lt), ⟨us, nw, t, s, st, rg, ps, tb, pd, sa, kp, pg, sp, it, pi, ua, yu, lt, rfl, rfl, ht, hs, fr_mono hR (by omega), hP⟩, ?_, ?_⟩
      · intro post hp
        unfold wpX_back
        exact gd_Guest1 hg (br_f (by decide) (gd_Slot0 h (br_t rfl hp)))
      · intro post hp
        unfold wpY_back
        exact gd_Y1 (N := 3) hg (by decide) (br_t rfl (gd_Y0 h (br_f (by decide) hp)))
    · have e3 : 3 + nI a = nI (3 + a) := nI_add 3 a
      have ea : (nI a).toNatClampNeg = a := nI_clamp (by omega)
      have va : vp_in (nI a) 2 := vp_in_nI (by omega) (by omega)
      by_cases hk : kp a = 0
      · refine ⟨0, (us, nI t, nI s, st, rg, ps, tb, pd, sa, kp, pg, sp, it, pi, ua, lt), (nw, nI t, nI s, st, rg, ps, tb, pd, sa, kp, pg, sp, it, pi, yu, lt), ⟨us, nw, t, s, st, rg, ps, tb, pd, sa, kp, pg, sp, it, pi, ua, yu, lt, rfl, rfl, ht, hs, fr_mono hR (by omega), hP⟩, ?_, ?_⟩
        · intro post hp
          unfold wpX_back
          exact gd_Guest1 hg (br_f (by decide) (gd_Slot1 ha (br_f (by decide) ⟨va, br_t (by rw [ea]; exact hk) hp⟩)))
        · intro post hp
          unfold wpY_back
          exact gd_Y1 (N := 3) hg (by decide) (br_t rfl (gd_Y1 (N := 2) ha (by decide) (br_t rfl ⟨va, br_t (by rw [ea]; exact hk) hp⟩)))
      · obtain ⟨st', rg', cX, cY⟩ := cp_both (f := 3 + a) (t := g) (by omega) (by omega) st rg
        obtain ⟨pi', ua', hR', fX, fY⟩ := ff_both (g := g) hR
        rw [← e3] at cX cY
        refine ⟨1, (us, nI t, nI s, st', rg', upd ps g (ps (3 + a)), upd tb g (tb (3 + a)), upd pd g (pd (3 + a)), upd sa g (sa (3 + a)), kp, pg, sp, it, pi', ua', lt), (nw, nI t, nI s, st', rg', upd ps g (ps (3 + a)), upd tb g (tb (3 + a)), upd pd g (pd (3 + a)), upd sa g (sa (3 + a)), kp, pg, sp, it, pi', yu, lt), ⟨us, nw, t, s, st', rg', upd ps g (ps (3 + a)), upd tb g (tb (3 + a)), upd pd g (pd (3 + a)), upd sa g (sa (3 + a)), kp, pg, sp, it, pi', ua', yu, lt, rfl, rfl, ht, hs, fr_mono hR' (by omega), cp_PD (by omega) hP⟩, ?_, ?_⟩
        · intro post hp
          unfold wpX_back
          exact gd_Guest1 hg (br_f (by decide) (gd_Slot1 ha (br_f (by decide) ⟨va, br_f (by rw [ea]; exact hk) (cX (fX hp))⟩)))
        · intro post hp
          unfold wpY_back
          exact gd_Y1 (N := 3) hg (by decide) (br_t rfl (gd_Y1 (N := 2) ha (by decide) (br_t rfl ⟨va, br_f (by rw [ea]; exact hk) (cY (fY hp))⟩)))
theorem ev_post {B B' : Nat} {u : SX} {v : SY} (I : rl_R B u v) (hB : B + 600 ≤ B') (hB2 : B' < 2 ^ 29) (v1 v2 : Int32) :
    ∃ (r : Int32) (u' : SX) (v' : SY), rl_R B' u' v' ∧ (∀ post : Int32 → SX → Prop, post r u' → wpX_post post u v1 v2) ∧ (∀ post : Int32 → SY → Prop, post r v' → wpY_post post v v1 v2) := by
  obtain ⟨us, nw, t, s, st, rg, ps, tb, pd, sa, kp, pg, sp, it, pi, ua, yu, lt, rfl, rfl, ht, hs, hR, hP⟩ := I
  rcases gd_g v1 with h | ⟨g, hg, rfl⟩
  · refine ⟨0, (us, nI t, nI s, st, rg, ps, tb, pd, sa, kp, pg, sp, it, pi, ua, lt), (nw, nI t, nI s, st, rg, ps, tb, pd, sa, kp, pg, sp, it, pi, yu, lt), ⟨us, nw, t, s, st, rg, ps, tb, pd, sa, kp, pg, sp, it, pi, ua, yu, lt, rfl, rfl, ht, hs, fr_mono hR (by omega), hP⟩, ?_, ?_⟩
    · intro post hp
      unfold wpX_post
      exact gd_Guest0 h (br_t rfl hp)
    · intro post hp
      unfold wpY_post
      exact gd_Y0 h (br_f (by decide) hp)
  · have eg : (nI g).toNatClampNeg = g := nI_clamp (by omega)
    have vg : vp_in (nI g) 5 := vp_in_nI (by omega) (by omega)
    rcases gd_c v2 with h | ⟨a, ha, rfl⟩
    · by_cases h0 : v2 < 0
      · refine ⟨0, (us, nI t, nI s, st, rg, ps, tb, pd, sa, kp, pg, sp, it, pi, ua, lt), (nw, nI t, nI s, st, rg, ps, tb, pd, sa, kp, pg, sp, it, pi, yu, lt), ⟨us, nw, t, s, st, rg, ps, tb, pd, sa, kp, pg, sp, it, pi, ua, yu, lt, rfl, rfl, ht, hs, fr_mono hR (by omega), hP⟩, ?_, ?_⟩
        · intro post hp
          unfold wpX_post
          exact gd_Guest1 hg (br_f (by decide) (br_t h0 hp))
        · intro post hp
          unfold wpY_post
          exact gd_Y1 (N := 3) hg (by decide) (br_t rfl (gd_Y0 h (br_f (by decide) hp)))
      · have hn : ¬ v2 ≤ 255 := fun z => absurd (Int32.le_trans (h.resolve_left h0) z) (by decide)
        refine ⟨0, (us, nI t, nI s, st, rg, ps, tb, pd, sa, kp, pg, sp, it, pi, ua, lt), (nw, nI t, nI s, st, rg, ps, tb, pd, sa, kp, pg, sp, it, pi, yu, lt), ⟨us, nw, t, s, st, rg, ps, tb, pd, sa, kp, pg, sp, it, pi, ua, yu, lt, rfl, rfl, ht, hs, fr_mono hR (by omega), hP⟩, ?_, ?_⟩
        · intro post hp
          unfold wpX_post
          exact gd_Guest1 hg (br_f (by decide) (br_f h0 (br_f hn hp)))
        · intro post hp
          unfold wpY_post
          exact gd_Y1 (N := 3) hg (by decide) (br_t rfl (gd_Y0 h (br_f (by decide) hp)))
    · have hPp : sm_PD (upd pd g (nI a)) := by
        intro i hi
        by_cases e : i = g
        · rw [e, pk_us]; exact Or.inr (nI_pos' (by omega))
        · rw [pk_un e]; exact hP i hi
      refine ⟨1, (us, nI t, nI s, st, rg, ps, tb, upd pd g (nI a), sa, kp, pg, sp, it, pi, ua, lt), (nw, nI t, nI s, st, rg, ps, tb, upd pd g (nI a), sa, kp, pg, sp, it, pi, yu, lt), ⟨us, nw, t, s, st, rg, ps, tb, upd pd g (nI a), sa, kp, pg, sp, it, pi, ua, yu, lt, rfl, rfl, ht, hs, fr_mono hR (by omega), hPp⟩, ?_, ?_⟩
      · intro post hp
        unfold wpX_post
        exact gd_Guest1 hg (br_f (by decide) (br_f (nI_pos (by omega)) (br_t (nI_le (b := 255) (by omega) (by omega)) ⟨vg, nm_r (by rw [eg]) hp⟩)))
      · intro post hp
        unfold wpY_post
        exact gd_Y1 (N := 3) hg (by decide) (br_t rfl (gd_Y1 (N := 256) ha (by decide) (br_t rfl ⟨vg, nm_r (by rw [eg]) hp⟩)))
theorem ev_run {B B' : Nat} {u : SX} {v : SY} (I : rl_R B u v) (hB : B + 600 ≤ B') (hB2 : B' < 2 ^ 29) (v1 : Int32) :
    ∃ (r : Int32) (u' : SX) (v' : SY), rl_R B' u' v' ∧ (∀ post : Int32 → SX → Prop, post r u' → wpX_run post u v1) ∧ (∀ post : Int32 → SY → Prop, post r v' → wpY_run post v v1) := by
  obtain ⟨us, nw, t, s, st, rg, ps, tb, pd, sa, kp, pg, sp, it, pi, ua, yu, lt, rfl, rfl, ht, hs, hR, hP⟩ := I
  rcases gd_n v1 with h | ⟨n, hn, rfl⟩
  · by_cases h0 : v1 < 0
    · refine ⟨-1, (us, nI t, nI s, st, rg, ps, tb, pd, sa, kp, pg, sp, it, pi, ua, lt), (nw, nI t, nI s, st, rg, ps, tb, pd, sa, kp, pg, sp, it, pi, yu, lt), ⟨us, nw, t, s, st, rg, ps, tb, pd, sa, kp, pg, sp, it, pi, ua, yu, lt, rfl, rfl, ht, hs, fr_mono hR (by omega), hP⟩, ?_, ?_⟩
      · intro post hp
        unfold wpX_run
        exact br_t h0 hp
      · intro post hp
        unfold wpY_run
        exact gd_Y0 h (br_f (by decide) hp)
    · have hn : ¬ v1 ≤ 100 := fun z => absurd (Int32.le_trans (h.resolve_left h0) z) (by decide)
      refine ⟨-1, (us, nI t, nI s, st, rg, ps, tb, pd, sa, kp, pg, sp, it, pi, ua, lt), (nw, nI t, nI s, st, rg, ps, tb, pd, sa, kp, pg, sp, it, pi, yu, lt), ⟨us, nw, t, s, st, rg, ps, tb, pd, sa, kp, pg, sp, it, pi, ua, yu, lt, rfl, rfl, ht, hs, fr_mono hR (by omega), hP⟩, ?_, ?_⟩
      · intro post hp
        unfold wpX_run
        exact br_f h0 (br_f hn hp)
      · intro post hp
        unfold wpY_run
        exact gd_Y0 h (br_f (by decide) hp)
  · obtain ⟨r, u, v, hr, hX, hY⟩ := rn_loop (n := n) (by omega) n 0 B t s us nw st rg ps tb pd sa kp pg sp it pi ua yu lt (by omega) (by omega) ht hs hR hP
    refine ⟨r, u, v, rl_mono hr (by omega), ?_, ?_⟩
    · intro post hp
      unfold wpX_run
      exact br_f (nI_pos (by omega)) (br_t (nI_le (b := 100) (by omega) (by omega)) ⟨_, hX post hp⟩)
    · intro post hp
      unfold wpY_run
      exact gd_Y1 (N := 101) hn (by decide) (br_t rfl ⟨_, hY post hp⟩)
section
variable {us nw : Int64} {tg sl : Int32} {st rg ps tb pd sa kp pg sp it pi : Nat → Int32} {ua yu lt : Nat → Int64}
theorem fm_loop {g p : Nat} (pi : Nat → Int32) : ∀ (d i : Nat), i + d = 6 → ∃ r : Int32,
    (∀ {us : Int64} {tg sl : Int32} {st rg ps tb pd sa kp pg sp it : Nat → Int32} {ua lt : Nat → Int64} {post : Int32 → Prop}, post r → wX_frame_22 post (nI g) (nI p) us tg sl st rg ps tb pd sa kp pg sp it pi ua lt (d + 1) (nI i)) ∧
    (∀ {nw : Int64} {tg sl : Int32} {st rg ps tb pd sa kp pg sp it : Nat → Int32} {yu lt : Nat → Int64} {post : Int32 → Prop}, post r → wY_frame_22 post (nI g) (nI p) nw tg sl st rg ps tb pd sa kp pg sp it pi yu lt (d + 1) (nI i)) := by
  have e1 : nI g * 8 + nI p = nI (8 * g + p) := by
    show nI g * nI 8 + nI p = _
    rw [pk_mul, nI_add, Nat.mul_comm]
  have e2 : 8 * nI g + nI p = nI (8 * g + p) := by
    show nI 8 * nI g + nI p = _
    rw [pk_mul, nI_add]
  intro d
  induction d with
  | zero =>
    intro i h
    have e : i = 6 := by omega
    subst e
    refine ⟨-1, ?_, ?_⟩
    · intro us tg sl st rg ps tb pd sa kp pg sp it ua lt post hp
      exact br_t (by decide) hp
    · intro nw tg sl st rg ps tb pd sa kp pg sp it yu lt post hp
      exact br_t (by decide) hp
  | succ d ih =>
    intro i h
    have h6 : ¬ (6 : Int32) ≤ nI i := nI_ge (b := 6) (by omega) (by omega)
    have ei : (nI i).toNatClampNeg = i := nI_clamp (by omega)
    have vi : vp_in (nI i) 6 := vp_in_nI (by omega) (by omega)
    by_cases hq : pi i = nI (8 * g + p)
    · refine ⟨nI i, ?_, ?_⟩
      · intro us tg sl st rg ps tb pd sa kp pg sp it ua lt post hp
        exact br_f h6 ⟨vi, br_t (by rw [ei, e1]; exact hq) hp⟩
      · intro nw tg sl st rg ps tb pd sa kp pg sp it yu lt post hp
        exact br_f h6 ⟨vi, br_t (by rw [ei, e2]; exact hq) hp⟩
    · obtain ⟨r, hX, hY⟩ := ih (i + 1) (by omega)
      refine ⟨r, ?_, ?_⟩
      · intro us tg sl st rg ps tb pd sa kp pg sp it ua lt post hp
        exact br_f h6 ⟨vi, br_f (by rw [ei, e1]; exact hq) (nm_r (nI_1 i) (hX hp))⟩
      · intro nw tg sl st rg ps tb pd sa kp pg sp it yu lt post hp
        exact br_f h6 ⟨vi, br_f (by rw [ei, e2]; exact hq) (nm_r (nI_1 i) (hY hp))⟩
end
theorem ev_word {B : Nat} {u : SX} {v : SY} (I : rl_R B u v) (v1 v2 : Int32) :
    ∃ r : Int32, (∀ post : Int32 → Prop, post r → wpX_word post u v1 v2) ∧ (∀ post : Int32 → Prop, post r → wpY_word post v v1 v2) := by
  obtain ⟨us, nw, t, s, st, rg, ps, tb, pd, sa, kp, pg, sp, it, pi, ua, yu, lt, rfl, rfl, ht, hs, hR, hP⟩ := I
  rcases gd_g v1 with h | ⟨g, hg, rfl⟩
  · refine ⟨0, ?_, ?_⟩
    · intro post hp
      unfold wpX_word
      exact gd_Guest0 h (br_t rfl hp)
    · intro post hp
      unfold wpY_word
      exact gd_Y0 h (br_f (by decide) hp)
  · rcases gd_a v2 with h | ⟨a, ha, rfl⟩
    · refine ⟨0, ?_, ?_⟩
      · intro post hp
        unfold wpX_word
        exact gd_Guest1 hg (br_f (by decide) (gd_Address0 h (br_t rfl hp)))
      · intro post hp
        unfold wpY_word
        exact gd_Y1 (N := 3) hg (by decide) (br_t rfl (gd_Y0 h (br_f (by decide) hp)))
    · have e1 : nI g * 64 + nI a = nI (64 * g + a) := ix_64 g a
      have e2 : 64 * nI g + nI a = nI (64 * g + a) := iy_64 g a
      have v : vp_in (nI (64 * g + a)) 320 := vp_in_nI (by omega) (by omega)
      have c : (nI (64 * g + a)).toNatClampNeg = 64 * g + a := nI_clamp (by omega)
      refine ⟨st (64 * g + a), ?_, ?_⟩
      · intro post hp
        unfold wpX_word
        exact gd_Guest1 hg (br_f (by decide) (gd_Address1 ha (br_f (by decide) ⟨by rw [e1]; exact v, by rw [e1, c]; exact hp⟩)))
      · intro post hp
        unfold wpY_word
        exact gd_Y1 (N := 3) hg (by decide) (br_t rfl (gd_Y1 (N := 64) ha (by decide) (br_t rfl ⟨by rw [e2]; exact v, by rw [e2, c]; exact hp⟩)))
theorem ev_guest {B : Nat} {u : SX} {v : SY} (I : rl_R B u v) (v1 v2 : Int32) :
    ∃ r : Int32, (∀ post : Int32 → Prop, post r → wpX_guest post u v1 v2) ∧ (∀ post : Int32 → Prop, post r → wpY_guest post v v1 v2) := by
  obtain ⟨us, nw, t, s, st, rg, ps, tb, pd, sa, kp, pg, sp, it, pi, ua, yu, lt, rfl, rfl, ht, hs, hR, hP⟩ := I
  rcases gd_g v1 with h | ⟨g, hg, rfl⟩
  · refine ⟨0, ?_, ?_⟩
    · intro post hp
      unfold wpX_guest
      exact gd_Guest0 h (br_t rfl hp)
    · intro post hp
      unfold wpY_guest
      exact gd_Y0 h (br_f (by decide) hp)
  · have eg : (nI g).toNatClampNeg = g := nI_clamp (by omega)
    have vg : vp_in (nI g) 5 := vp_in_nI (by omega) (by omega)
    have v3 : vp_in (nI g) 3 := vp_in_nI (by omega) (by omega)
    rcases gd_11 v2 with h | ⟨j, hj, rfl⟩
    · by_cases h0 : v2 < 0
      · refine ⟨0, ?_, ?_⟩
        · intro post hp
          unfold wpX_guest
          exact gd_Guest1 hg (br_f (by decide) (br_t h0 hp))
        · intro post hp
          unfold wpY_guest
          exact gd_Y1 (N := 3) hg (by decide) (br_t rfl (br_t h0 hp))
      · have h10 : 10 < v2 := Int32.lt_of_lt_of_le (by decide) (h.resolve_left h0)
        refine ⟨0, ?_, ?_⟩
        · intro post hp
          unfold wpX_guest
          exact gd_Guest1 hg (br_f (by decide) (br_f h0 (br_t h10 hp)))
        · intro post hp
          unfold wpY_guest
          exact gd_Y1 (N := 3) hg (by decide) (br_t rfl (br_f h0 (br_t h10 hp)))
    · have hc : j = 0 ∨ j = 1 ∨ j = 2 ∨ j = 3 ∨ j = 4 ∨ j = 5 ∨ j = 6 ∨ j = 7 ∨ j = 8 ∨ j = 9 ∨ j = 10 := by omega
      rcases hc with rfl | rfl | rfl | rfl | rfl | rfl | rfl | rfl | rfl | rfl | rfl
      · refine ⟨sa g, ?_, ?_⟩
        · intro post hp
          unfold wpX_guest
          exact gd_Guest1 hg (br_f (by decide) (br_f (by decide) (br_f (by decide) (br_t (by decide) (⟨vg, by rw [eg]; exact hp⟩)))))
        · intro post hp
          unfold wpY_guest
          exact gd_Y1 (N := 3) hg (by decide) (br_t rfl (br_f (by decide) (br_f (by decide) (br_t (by decide) (⟨vg, by rw [eg]; exact hp⟩)))))
      · refine ⟨ps g, ?_, ?_⟩
        · intro post hp
          unfold wpX_guest
          exact gd_Guest1 hg (br_f (by decide) (br_f (by decide) (br_f (by decide) (br_f (by decide) (br_t (by decide) (⟨vg, by rw [eg]; exact hp⟩))))))
        · intro post hp
          unfold wpY_guest
          exact gd_Y1 (N := 3) hg (by decide) (br_t rfl (br_f (by decide) (br_f (by decide) (br_f (by decide) (br_t (by decide) (⟨vg, by rw [eg]; exact hp⟩))))))
      · refine ⟨tb g, ?_, ?_⟩
        · intro post hp
          unfold wpX_guest
          exact gd_Guest1 hg (br_f (by decide) (br_f (by decide) (br_f (by decide) (br_f (by decide) (br_f (by decide) (br_t (by decide) (⟨vg, by rw [eg]; exact hp⟩)))))))
        · intro post hp
          unfold wpY_guest
          exact gd_Y1 (N := 3) hg (by decide) (br_t rfl (br_f (by decide) (br_f (by decide) (br_f (by decide) (br_f (by decide) (br_t (by decide) (⟨vg, by rw [eg]; exact hp⟩)))))))
      · have e1 : nI g * 4 + nI 3 - 3 = nI (4 * g + 0) := by rw [ix_4]; exact pk_sub (a := 4 * g + 3) (b := 3) (by omega)
        have e2 : 4 * nI g + nI 3 - 3 = nI (4 * g + 0) := by rw [iy_4]; exact pk_sub (a := 4 * g + 3) (b := 3) (by omega)
        have c : (nI (4 * g + 0)).toNatClampNeg = 4 * g + 0 := nI_clamp (by omega)
        have v : vp_in (nI (4 * g + 0)) 20 := vp_in_nI (by omega) (by omega)
        refine ⟨rg (4 * g + 0), ?_, ?_⟩
        · intro post hp
          unfold wpX_guest
          exact gd_Guest1 hg (br_f (by decide) (br_f (by decide) (br_f (by decide) (br_f (by decide) (br_f (by decide) (br_f (by decide) (br_t (by decide) (⟨by rw [e1]; exact v, by rw [e1, c]; exact hp⟩))))))))
        · intro post hp
          unfold wpY_guest
          exact gd_Y1 (N := 3) hg (by decide) (br_t rfl (br_f (by decide) (br_f (by decide) (br_f (by decide) (br_f (by decide) (br_f (by decide) (br_t (by decide) (⟨by rw [e2]; exact v, by rw [e2, c]; exact hp⟩))))))))
      · have e1 : nI g * 4 + nI 4 - 3 = nI (4 * g + 1) := by rw [ix_4]; exact pk_sub (a := 4 * g + 4) (b := 3) (by omega)
        have e2 : 4 * nI g + nI 4 - 3 = nI (4 * g + 1) := by rw [iy_4]; exact pk_sub (a := 4 * g + 4) (b := 3) (by omega)
        have c : (nI (4 * g + 1)).toNatClampNeg = 4 * g + 1 := nI_clamp (by omega)
        have v : vp_in (nI (4 * g + 1)) 20 := vp_in_nI (by omega) (by omega)
        refine ⟨rg (4 * g + 1), ?_, ?_⟩
        · intro post hp
          unfold wpX_guest
          exact gd_Guest1 hg (br_f (by decide) (br_f (by decide) (br_f (by decide) (br_f (by decide) (br_f (by decide) (br_f (by decide) (br_f (by decide) (br_t (by decide) (⟨by rw [e1]; exact v, by rw [e1, c]; exact hp⟩)))))))))
        · intro post hp
          unfold wpY_guest
          exact gd_Y1 (N := 3) hg (by decide) (br_t rfl (br_f (by decide) (br_f (by decide) (br_f (by decide) (br_f (by decide) (br_f (by decide) (br_f (by decide) (br_t (by decide) (⟨by rw [e2]; exact v, by rw [e2, c]; exact hp⟩)))))))))
      · have e1 : nI g * 4 + nI 5 - 3 = nI (4 * g + 2) := by rw [ix_4]; exact pk_sub (a := 4 * g + 5) (b := 3) (by omega)
        have e2 : 4 * nI g + nI 5 - 3 = nI (4 * g + 2) := by rw [iy_4]; exact pk_sub (a := 4 * g + 5) (b := 3) (by omega)
        have c : (nI (4 * g + 2)).toNatClampNeg = 4 * g + 2 := nI_clamp (by omega)
        have v : vp_in (nI (4 * g + 2)) 20 := vp_in_nI (by omega) (by omega)
        refine ⟨rg (4 * g + 2), ?_, ?_⟩
        · intro post hp
          unfold wpX_guest
          exact gd_Guest1 hg (br_f (by decide) (br_f (by decide) (br_f (by decide) (br_f (by decide) (br_f (by decide) (br_f (by decide) (br_f (by decide) (br_f (by decide) (br_t (by decide) (⟨by rw [e1]; exact v, by rw [e1, c]; exact hp⟩))))))))))
        · intro post hp
          unfold wpY_guest
          exact gd_Y1 (N := 3) hg (by decide) (br_t rfl (br_f (by decide) (br_f (by decide) (br_f (by decide) (br_f (by decide) (br_f (by decide) (br_f (by decide) (br_f (by decide) (br_t (by decide) (⟨by rw [e2]; exact v, by rw [e2, c]; exact hp⟩))))))))))
      · have e1 : nI g * 4 + nI 6 - 3 = nI (4 * g + 3) := by rw [ix_4]; exact pk_sub (a := 4 * g + 6) (b := 3) (by omega)
        have e2 : 4 * nI g + nI 6 - 3 = nI (4 * g + 3) := by rw [iy_4]; exact pk_sub (a := 4 * g + 6) (b := 3) (by omega)
        have c : (nI (4 * g + 3)).toNatClampNeg = 4 * g + 3 := nI_clamp (by omega)
        have v : vp_in (nI (4 * g + 3)) 20 := vp_in_nI (by omega) (by omega)
        refine ⟨rg (4 * g + 3), ?_, ?_⟩
        · intro post hp
          unfold wpX_guest
          exact gd_Guest1 hg (br_f (by decide) (br_f (by decide) (br_f (by decide) (br_f (by decide) (br_f (by decide) (br_f (by decide) (br_f (by decide) (br_f (by decide) (br_f (by decide) (br_t (by decide) (⟨by rw [e1]; exact v, by rw [e1, c]; exact hp⟩)))))))))))
        · intro post hp
          unfold wpY_guest
          exact gd_Y1 (N := 3) hg (by decide) (br_t rfl (br_f (by decide) (br_f (by decide) (br_f (by decide) (br_f (by decide) (br_f (by decide) (br_f (by decide) (br_f (by decide) (br_f (by decide) (br_t (by decide) (⟨by rw [e2]; exact v, by rw [e2, c]; exact hp⟩)))))))))))
      · refine ⟨pd g, ?_, ?_⟩
        · intro post hp
          unfold wpX_guest
          exact gd_Guest1 hg (br_f (by decide) (br_f (by decide) (br_f (by decide) (br_f (by decide) (br_f (by decide) (br_f (by decide) (br_f (by decide) (br_f (by decide) (br_f (by decide) (br_f (by decide) (br_t (by decide) (⟨vg, by rw [eg]; exact hp⟩))))))))))))
        · intro post hp
          unfold wpY_guest
          exact gd_Y1 (N := 3) hg (by decide) (br_t rfl (br_f (by decide) (br_f (by decide) (br_f (by decide) (br_f (by decide) (br_f (by decide) (br_f (by decide) (br_f (by decide) (br_f (by decide) (br_f (by decide) (br_t (by decide) (⟨vg, by rw [eg]; exact hp⟩))))))))))))
      · refine ⟨pg g, ?_, ?_⟩
        · intro post hp
          unfold wpX_guest
          exact gd_Guest1 hg (br_f (by decide) (br_f (by decide) (br_f (by decide) (br_f (by decide) (br_f (by decide) (br_f (by decide) (br_f (by decide) (br_f (by decide) (br_f (by decide) (br_f (by decide) (br_f (by decide) (br_t (by decide) (⟨v3, by rw [eg]; exact hp⟩)))))))))))))
        · intro post hp
          unfold wpY_guest
          exact gd_Y1 (N := 3) hg (by decide) (br_t rfl (br_f (by decide) (br_f (by decide) (br_f (by decide) (br_f (by decide) (br_f (by decide) (br_f (by decide) (br_f (by decide) (br_f (by decide) (br_f (by decide) (br_f (by decide) (br_t (by decide) (⟨v3, by rw [eg]; exact hp⟩)))))))))))))
      · refine ⟨sp g, ?_, ?_⟩
        · intro post hp
          unfold wpX_guest
          exact gd_Guest1 hg (br_f (by decide) (br_f (by decide) (br_f (by decide) (br_f (by decide) (br_f (by decide) (br_f (by decide) (br_f (by decide) (br_f (by decide) (br_f (by decide) (br_f (by decide) (br_f (by decide) (br_f (by decide) (br_t (by decide) (⟨v3, by rw [eg]; exact hp⟩))))))))))))))
        · intro post hp
          unfold wpY_guest
          exact gd_Y1 (N := 3) hg (by decide) (br_t rfl (br_f (by decide) (br_f (by decide) (br_f (by decide) (br_f (by decide) (br_f (by decide) (br_f (by decide) (br_f (by decide) (br_f (by decide) (br_f (by decide) (br_f (by decide) (br_f (by decide) (br_t (by decide) (⟨v3, by rw [eg]; exact hp⟩))))))))))))))
      · refine ⟨it g, ?_, ?_⟩
        · intro post hp
          unfold wpX_guest
          exact gd_Guest1 hg (br_f (by decide) (br_f (by decide) (br_f (by decide) (br_f (by decide) (br_f (by decide) (br_f (by decide) (br_f (by decide) (br_f (by decide) (br_f (by decide) (br_f (by decide) (br_f (by decide) (br_f (by decide) (br_f (by decide) (br_t (by decide) (⟨v3, by rw [eg]; exact hp⟩)))))))))))))))
        · intro post hp
          unfold wpY_guest
          exact gd_Y1 (N := 3) hg (by decide) (br_t rfl (br_f (by decide) (br_f (by decide) (br_f (by decide) (br_f (by decide) (br_f (by decide) (br_f (by decide) (br_f (by decide) (br_f (by decide) (br_f (by decide) (br_f (by decide) (br_f (by decide) (br_f (by decide) (br_t (by decide) (⟨v3, by rw [eg]; exact hp⟩)))))))))))))))
theorem ev_frame {B : Nat} {u : SX} {v : SY} (I : rl_R B u v) (v1 v2 : Int32) :
    ∃ r : Int32, (∀ post : Int32 → Prop, post r → wpX_frame post u v1 v2) ∧ (∀ post : Int32 → Prop, post r → wpY_frame post v v1 v2) := by
  obtain ⟨us, nw, t, s, st, rg, ps, tb, pd, sa, kp, pg, sp, it, pi, ua, yu, lt, rfl, rfl, ht, hs, hR, hP⟩ := I
  rcases gd_g v1 with h | ⟨g, hg, rfl⟩
  · refine ⟨-2, ?_, ?_⟩
    · intro post hp
      unfold wpX_frame
      exact gd_Guest0 h (br_t rfl hp)
    · intro post hp
      unfold wpY_frame
      exact gd_Y0 h (br_f (by decide) hp)
  · rcases gd_8 v2 with h | ⟨p, hp8, rfl⟩
    · by_cases h0 : v2 < 0
      · refine ⟨-2, ?_, ?_⟩
        · intro post hp
          unfold wpX_frame
          exact gd_Guest1 hg (br_f (by decide) (br_t h0 hp))
        · intro post hp
          unfold wpY_frame
          exact gd_Y1 (N := 3) hg (by decide) (br_t rfl (gd_Y0 h (br_f (by decide) hp)))
      · refine ⟨-2, ?_, ?_⟩
        · intro post hp
          unfold wpX_frame
          exact gd_Guest1 hg (br_f (by decide) (br_f h0 (br_f (Int32.not_lt.mpr (h.resolve_left h0)) hp)))
        · intro post hp
          unfold wpY_frame
          exact gd_Y1 (N := 3) hg (by decide) (br_t rfl (gd_Y0 h (br_f (by decide) hp)))
    · obtain ⟨r, fX, fY⟩ := fm_loop (g := g) (p := p) pi 6 0 (by omega)
      refine ⟨r, ?_, ?_⟩
      · intro post hp
        unfold wpX_frame
        exact gd_Guest1 hg (br_f (by decide) (br_f (nI_pos (by omega)) (br_t (nI_lt (b := 8) hp8 (by omega)) ⟨7, fX hp⟩)))
      · intro post hp
        unfold wpY_frame
        exact gd_Y1 (N := 3) hg (by decide) (br_t rfl (gd_Y1 (N := 8) hp8 (by decide) (br_t rfl ⟨7, fY hp⟩)))
theorem ev_leads {B : Nat} {u : SX} {v : SY} (I : rl_R B u v) (v1 v2 v3 : Int32) :
    ∃ r : Int32, (∀ post : Int32 → Prop, post r → wpX_leads post u v1 v2 v3) ∧ (∀ post : Int32 → Prop, post r → wpY_leads post v v1 v2 v3) := by
  obtain ⟨us, nw, t, s, st, rg, ps, tb, pd, sa, kp, pg, sp, it, pi, ua, yu, lt, rfl, rfl, ht, hs, hR, hP⟩ := I
  rcases gd_g v1 with h | ⟨g, hg, rfl⟩
  · refine ⟨-1, ?_, ?_⟩
    · intro post hp
      unfold wpX_leads
      exact gd_Guest0 h (br_t rfl hp)
    · intro post hp
      unfold wpY_leads
      exact gd_Y0 h (br_f (by decide) hp)
  · obtain ⟨a, ha, ea⟩ := bi_E63 v2
    obtain ⟨r, -, hX, hY⟩ := wk_both hg ha v3 v2 ea ps tb st
    refine ⟨r, ?_, ?_⟩
    · intro post hp
      unfold wpX_leads
      rw [ea]
      exact gd_Guest1 hg (br_f (by decide) (hX hp))
    · intro post hp
      unfold wpY_leads
      exact gd_Y1 (N := 3) hg (by decide) (br_t rfl (hY hp))
theorem ev_told {B : Nat} {u : SX} {v : SY} (I : rl_R B u v) (v1 : Int32) :
    ∃ r : Int64, (∀ post : Int64 → Prop, post r → wpX_told post u v1) ∧ (∀ post : Int64 → Prop, post r → wpY_told post v v1) := by
  obtain ⟨us, nw, t, s, st, rg, ps, tb, pd, sa, kp, pg, sp, it, pi, ua, yu, lt, rfl, rfl, ht, hs, hR, hP⟩ := I
  rcases gd_8 v1 with h | ⟨j, hj, rfl⟩
  · by_cases h0 : v1 < 0
    · refine ⟨-1, ?_, ?_⟩
      · intro post hp
        unfold wpX_told
        exact br_t h0 hp
      · intro post hp
        unfold wpY_told
        exact gd_Y0 h (br_f (by decide) hp)
    · refine ⟨-1, ?_, ?_⟩
      · intro post hp
        unfold wpX_told
        exact br_f h0 (br_f (Int32.not_lt.mpr (h.resolve_left h0)) hp)
      · intro post hp
        unfold wpY_told
        exact gd_Y0 h (br_f (by decide) hp)
  · have e : (nI j).toNatClampNeg = j := nI_clamp (by omega)
    have v : vp_in (nI j) 8 := vp_in_nI (by omega) (by omega)
    refine ⟨lt j, ?_, ?_⟩
    · intro post hp
      unfold wpX_told
      exact br_f (nI_pos (by omega)) (br_t (nI_lt (b := 8) hj (by omega)) ⟨v, by rw [e]; exact hp⟩)
    · intro post hp
      unfold wpY_told
      exact gd_Y1 (N := 8) hj (by decide) (br_t rfl ⟨v, by rw [e]; exact hp⟩)
theorem ev_turn {B : Nat} {u : SX} {v : SY} (I : rl_R B u v) (v1 : Int32) :
    ∃ r : Int32, (∀ post : Int32 → Prop, post r → wpX_turn post u v1) ∧ (∀ post : Int32 → Prop, post r → wpY_turn post v v1) := by
  obtain ⟨us, nw, t, s, st, rg, ps, tb, pd, sa, kp, pg, sp, it, pi, ua, yu, lt, rfl, rfl, ht, hs, hR, hP⟩ := I
  by_cases h0 : v1 = 0
  · refine ⟨nI t, ?_, ?_⟩
    · intro post hp
      unfold wpX_turn
      exact br_t h0 hp
    · intro post hp
      unfold wpY_turn
      exact br_t h0 hp
  · refine ⟨nI s, ?_, ?_⟩
    · intro post hp
      unfold wpX_turn
      exact br_f h0 hp
    · intro post hp
      unfold wpY_turn
      exact br_f h0 hp
end
section
theorem i_up {k : Nat} {u : SX} {v : SY} (h : i_Rel k u v) : i_Rel (k + 4) u v := by
  exact rl_mono h (by omega)
theorem i_vc0 : wpX_init (fun u => wpY_init (fun v => i_Rel 0 u v)) := by
  obtain ⟨lt', hl, lX, lY⟩ := in_lt 8 0 (fun _ => 0) (by omega) (fun j hj => absurd hj (by omega))
  obtain ⟨pi', hpi, pX, pY⟩ := in_pi 6 0 (fun _ => 0) (by omega) (fun j hj => absurd hj (by omega))
  obtain ⟨pd', hpd, dX, dY⟩ := in_pd 5 0 (fun _ => 0) (by omega) (fun j hj => absurd hj (by omega))
  refine ⟨6, dX ⟨7, pX ⟨9, lX ?_⟩⟩⟩
  refine ⟨6, dY ⟨7, pY ⟨9, lY ?_⟩⟩⟩
  refine ⟨0, 0, 0, 4, fun _ => 0, fun _ => 0, fun _ => 0, fun _ => 0, pd', fun _ => 0, fun _ => 0, fun _ => 0, fun _ => 0, fun _ => 0, pi', fun _ => 0, fun _ => 0, lt', rfl, rfl, by omega, by omega, ⟨fun _ => 0, fun _ => 0, 0, 0, rfl, rfl, by omega, by omega, fun f hf => ⟨rfl, rfl, Nat.le_refl _, Nat.le_refl _⟩, fun f hf => Or.inl ⟨hpi f hf, rfl⟩, fun f g hf hg hne h1 h2 => absurd (hpi f hf) h1⟩, fun i hi => Or.inl (hpd i hi)⟩
theorem i_vc_store {k : Nat} {u : SX} {v : SY} (I : i_Rel k u v) (hk : k + 4 ≤ 2048) (v1 : Int32) (v2 : Int32) (v3 : Int32) : wpX_store (fun r u' => wpY_store (fun r' v' => r' = r ∧ i_Rel (k + 4) u' v') v v1 v2 v3) u v1 v2 v3 := by
  obtain ⟨r, u', v', h, hX, hY⟩ := ev_store I (B' := 200 * (k + 4)) (by omega) (by omega) v1 v2 v3
  exact hX _ (hY _ ⟨rfl, h⟩)
theorem i_vc_word {k : Nat} {u : SX} {v : SY} (I : i_Rel k u v) (hk : k + 4 ≤ 2048) (v1 : Int32) (v2 : Int32) : wpX_word (fun r => wpY_word (fun r' => r' = r ∧ i_Rel (k + 4) u v) v v1 v2) u v1 v2 := by
  obtain ⟨r, hX, hY⟩ := ev_word I v1 v2
  exact hX _ (hY _ ⟨rfl, i_up I⟩)
theorem i_vc_start {k : Nat} {u : SX} {v : SY} (I : i_Rel k u v) (hk : k + 4 ≤ 2048) (v1 : Int32) (v2 : Int32) : wpX_start (fun r u' => wpY_start (fun r' v' => r' = r ∧ i_Rel (k + 4) u' v') v v1 v2) u v1 v2 := by
  obtain ⟨r, u', v', h, hX, hY⟩ := ev_start I (B' := 200 * (k + 4)) (by omega) (by omega) v1 v2
  exact hX _ (hY _ ⟨rfl, h⟩)
theorem i_vc_stop {k : Nat} {u : SX} {v : SY} (I : i_Rel k u v) (hk : k + 4 ≤ 2048) (v1 : Int32) : wpX_stop (fun r u' => wpY_stop (fun r' v' => r' = r ∧ i_Rel (k + 4) u' v') v v1) u v1 := by
  obtain ⟨r, u', v', h, hX, hY⟩ := ev_stop I (B' := 200 * (k + 4)) (by omega) (by omega) v1
  exact hX _ (hY _ ⟨rfl, h⟩)
theorem i_vc_resume {k : Nat} {u : SX} {v : SY} (I : i_Rel k u v) (hk : k + 4 ≤ 2048) (v1 : Int32) : wpX_resume (fun r u' => wpY_resume (fun r' v' => r' = r ∧ i_Rel (k + 4) u' v') v v1) u v1 := by
  obtain ⟨r, u', v', h, hX, hY⟩ := ev_resume I (B' := 200 * (k + 4)) (by omega) (by omega) v1
  exact hX _ (hY _ ⟨rfl, h⟩)
theorem i_vc_copy {k : Nat} {u : SX} {v : SY} (I : i_Rel k u v) (hk : k + 4 ≤ 2048) (v1 : Int32) (v2 : Int32) : wpX_copy (fun r u' => wpY_copy (fun r' v' => r' = r ∧ i_Rel (k + 4) u' v') v v1 v2) u v1 v2 := by
  obtain ⟨r, u', v', h, hX, hY⟩ := ev_copy I (B' := 200 * (k + 4)) (by omega) (by omega) v1 v2
  exact hX _ (hY _ ⟨rfl, h⟩)
theorem i_vc_keep {k : Nat} {u : SX} {v : SY} (I : i_Rel k u v) (hk : k + 4 ≤ 2048) (v1 : Int32) (v2 : Int32) : wpX_keep (fun r u' => wpY_keep (fun r' v' => r' = r ∧ i_Rel (k + 4) u' v') v v1 v2) u v1 v2 := by
  obtain ⟨r, u', v', h, hX, hY⟩ := ev_keep I (B' := 200 * (k + 4)) (by omega) (by omega) v1 v2
  exact hX _ (hY _ ⟨rfl, h⟩)
theorem i_vc_back {k : Nat} {u : SX} {v : SY} (I : i_Rel k u v) (hk : k + 4 ≤ 2048) (v1 : Int32) (v2 : Int32) : wpX_back (fun r u' => wpY_back (fun r' v' => r' = r ∧ i_Rel (k + 4) u' v') v v1 v2) u v1 v2 := by
  obtain ⟨r, u', v', h, hX, hY⟩ := ev_back I (B' := 200 * (k + 4)) (by omega) (by omega) v1 v2
  exact hX _ (hY _ ⟨rfl, h⟩)
theorem i_vc_post {k : Nat} {u : SX} {v : SY} (I : i_Rel k u v) (hk : k + 4 ≤ 2048) (v1 : Int32) (v2 : Int32) : wpX_post (fun r u' => wpY_post (fun r' v' => r' = r ∧ i_Rel (k + 4) u' v') v v1 v2) u v1 v2 := by
  obtain ⟨r, u', v', h, hX, hY⟩ := ev_post I (B' := 200 * (k + 4)) (by omega) (by omega) v1 v2
  exact hX _ (hY _ ⟨rfl, h⟩)
theorem i_vc_run {k : Nat} {u : SX} {v : SY} (I : i_Rel k u v) (hk : k + 4 ≤ 2048) (v1 : Int32) : wpX_run (fun r u' => wpY_run (fun r' v' => r' = r ∧ i_Rel (k + 4) u' v') v v1) u v1 := by
  obtain ⟨r, u', v', h, hX, hY⟩ := ev_run I (B' := 200 * (k + 4)) (by omega) (by omega) v1
  exact hX _ (hY _ ⟨rfl, h⟩)
theorem i_vc_guest {k : Nat} {u : SX} {v : SY} (I : i_Rel k u v) (hk : k + 4 ≤ 2048) (v1 : Int32) (v2 : Int32) : wpX_guest (fun r => wpY_guest (fun r' => r' = r ∧ i_Rel (k + 4) u v) v v1 v2) u v1 v2 := by
  obtain ⟨r, hX, hY⟩ := ev_guest I v1 v2
  exact hX _ (hY _ ⟨rfl, i_up I⟩)
theorem i_vc_frame {k : Nat} {u : SX} {v : SY} (I : i_Rel k u v) (hk : k + 4 ≤ 2048) (v1 : Int32) (v2 : Int32) : wpX_frame (fun r => wpY_frame (fun r' => r' = r ∧ i_Rel (k + 4) u v) v v1 v2) u v1 v2 := by
  obtain ⟨r, hX, hY⟩ := ev_frame I v1 v2
  exact hX _ (hY _ ⟨rfl, i_up I⟩)
theorem i_vc_leads {k : Nat} {u : SX} {v : SY} (I : i_Rel k u v) (hk : k + 4 ≤ 2048) (v1 : Int32) (v2 : Int32) (v3 : Int32) : wpX_leads (fun r => wpY_leads (fun r' => r' = r ∧ i_Rel (k + 4) u v) v v1 v2 (lw_bz v3)) u v1 v2 (lw_bz v3) := by
  obtain ⟨r, hX, hY⟩ := ev_leads I v1 v2 (lw_bz v3)
  exact hX _ (hY _ ⟨rfl, i_up I⟩)
theorem i_vc_told {k : Nat} {u : SX} {v : SY} (I : i_Rel k u v) (hk : k + 4 ≤ 2048) (v1 : Int32) : wpX_told (fun r => wpY_told (fun r' => r' = r ∧ i_Rel (k + 4) u v) v v1) u v1 := by
  obtain ⟨r, hX, hY⟩ := ev_told I v1
  exact hX _ (hY _ ⟨rfl, i_up I⟩)
theorem i_vc_turn {k : Nat} {u : SX} {v : SY} (I : i_Rel k u v) (hk : k + 4 ≤ 2048) (v1 : Int32) : wpX_turn (fun r => wpY_turn (fun r' => r' = r ∧ i_Rel (k + 4) u v) v (lw_bz v1)) u (lw_bz v1) := by
  obtain ⟨r, hX, hY⟩ := ev_turn I (lw_bz v1)
  exact hX _ (hY _ ⟨rfl, i_up I⟩)
end
