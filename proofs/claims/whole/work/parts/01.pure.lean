theorem pk_us {f : Nat → Int32} {k : Nat} {x : Int32} : upd f k x k = x := if_pos rfl
theorem pk_un {f : Nat → Int32} {k j : Nat} {x : Int32} (h : j ≠ k) : upd f k x j = f j := if_neg h
theorem pk_uLs {f : Nat → Int64} {k : Nat} {x : Int64} : vp_updL f k x k = x := if_pos rfl
theorem pk_uLn {f : Nat → Int64} {k j : Nat} {x : Int64} (h : j ≠ k) : vp_updL f k x j = f j := if_neg h
theorem pk_sub {a b : Nat} (h : b ≤ a) : nI a - nI b = nI (a - b) := by
  obtain ⟨c, rfl⟩ : ∃ c, a = c + b := ⟨a - b, by omega⟩
  rw [← nI_add, Int32.add_sub_cancel, Nat.add_sub_cancel]
theorem pk_m1 (n : Nat) : nI (n + 1) + (-1) = nI n := by
  rw [← nI_1, Int32.add_assoc, show (1 : Int32) + (-1) = 0 from rfl, Int32.add_zero]
theorem pk_mul (a b : Nat) : nI a * nI b = nI (a * b) := (Int32.ofNat_mul a b).symm
theorem pk_div {a d : Nat} (ha : a < 2 ^ 31) (h0 : 0 < d) (hd : d < 2 ^ 31) : nI a / nI d = nI (a / d) := by
  apply Int32.toInt_inj.mp
  rw [lg_idiv_nonneg (by rw [nI_toInt ha]; omega) (by rw [nI_toInt hd]; omega), nI_toInt ha, nI_toInt hd, nI_toInt (Nat.lt_of_le_of_lt (Nat.div_le_self a d) ha)]
  first | rfl | exact (Int.natCast_ediv _ _).symm
theorem pk_rem {a d : Nat} (ha : a < 2 ^ 31) (h0 : 0 < d) (hd : d < 2 ^ 31) : nI a - nI a / nI d * nI d = nI (a % d) := by
  rw [pk_div ha h0 hd, pk_mul, pk_sub (Nat.div_mul_le_self a d)]
  exact congrArg nI (by have := Nat.div_add_mod' a d; omega)
theorem pk_sub_toInt {a b : Nat} (ha : a < 2 ^ 30) (hb : b < 2 ^ 30) : (nI a - nI b).toInt = (a : Int) - b := by
  rw [Int32.toInt_sub, nI_toInt (by omega), nI_toInt (by omega)]
  exact Int.bmod_eq_of_le (by omega) (by omega)
theorem pk_sneg {a b : Nat} (hb : b < 2 ^ 30) (h : a < b) : nI a - nI b < 0 := by
  rw [Int32.lt_iff_toInt_lt, pk_sub_toInt (by omega) hb, show (0 : Int32).toInt = 0 from by decide]
  omega
theorem pk_ix (x : Int32) {n : Nat} (hn : n < 2 ^ 31) : x < 0 ∨ nI n ≤ x ∨ ∃ j : Nat, j < n ∧ x = nI j := by
  by_cases h : x < 0
  · exact Or.inl h
  · obtain ⟨j, hj, rfl⟩ := nI_of h
    by_cases h2 : j < n
    · exact Or.inr (Or.inr ⟨j, h2, rfl⟩)
    · exact Or.inr (Or.inl (nI_le (by omega) hj))
theorem pk_le {x y : Int32} {A B : Prop} (a b : Nat) (f : a ≤ b → A) (g : b < a → B) (hx : x = nI a := by rfl) (hy : y = nI b := by rfl) (ha : a < 2 ^ 31 := by omega) (hb : b < 2 ^ 31 := by omega) : (x ≤ y → A) ∧ (¬ x ≤ y → B) := by
  subst hx hy
  rw [nI_leI ha hb]
  exact ⟨f, fun z => g (by omega)⟩
theorem pk_lt {x y : Int32} {A B : Prop} (a b : Nat) (f : a < b → A) (g : b ≤ a → B) (hx : x = nI a := by rfl) (hy : y = nI b := by rfl) (ha : a < 2 ^ 31 := by omega) (hb : b < 2 ^ 31 := by omega) : (x < y → A) ∧ (¬ x < y → B) := by
  subst hx hy
  rw [nI_ltI ha hb]
  exact ⟨f, fun z => g (by omega)⟩
theorem pk_eq {x y : Int32} {A B : Prop} (a b : Nat) (f : a = b → A) (g : a ≠ b → B) (hx : x = nI a := by rfl) (hy : y = nI b := by rfl) (ha : a < 2 ^ 31 := by omega) (hb : b < 2 ^ 31 := by omega) : (x = y → A) ∧ (¬ x = y → B) := by
  subst hx hy
  rw [nI_eq ha hb]
  exact ⟨f, g⟩
theorem pk_in {x : Int32} (n N : Nat) (h : n < N) (hx : x = nI n := by rfl) (hN : N < 2 ^ 31 := by omega) : vp_in x N := by
  subst hx
  exact vp_in_nI h hN
theorem pk_cl {x : Int32} (n : Nat) (hx : x = nI n := by rfl) (h : n < 2 ^ 31 := by omega) : x.toNatClampNeg = n := by
  subst hx
  exact nI_clamp h
theorem pk_tn {n : Nat} (h : n < 2 ^ 32) : (nI n).toBitVec.toNat = n := Nat.mod_eq_of_lt h
theorem pk_and (x : Int32) {m : Int32} (k : Nat) (hm : m.toBitVec.toNat = 2 ^ k - 1) : x &&& m = nI (x.toBitVec.toNat % 2 ^ k) := by
  apply Int32.toBitVec_inj.mp
  apply BitVec.eq_of_toNat_eq
  rw [Int32.toBitVec_and, BitVec.toNat_and, hm, Nat.and_two_pow_sub_one_eq_mod]
  show _ = (BitVec.ofNat 32 _).toNat
  rw [BitVec.toNat_ofNat]
  exact (Nat.mod_eq_of_lt (Nat.lt_of_le_of_lt (Nat.mod_le _ _) x.toBitVec.isLt)).symm
theorem pk_andN {n : Nat} (h : n < 2 ^ 32) {m : Int32} (k : Nat) (hm : m.toBitVec.toNat = 2 ^ k - 1) : nI n &&& m = nI (n % 2 ^ k) := by
  rw [pk_and _ k hm, pk_tn h]
theorem pk_andE (x : Int32) {m : Int32} (k : Nat) (hm : m.toBitVec.toNat = 2 ^ k - 1) : ∃ j : Nat, j < 2 ^ k ∧ x &&& m = nI j := ⟨_, Nat.mod_lt _ (Nat.two_pow_pos k), pk_and x k hm⟩
theorem pk_andIn (x : Int32) {m : Int32} (k : Nat) (hm : m.toBitVec.toNat = 2 ^ k - 1) (hk : k ≤ 30) : vp_in (x &&& m) (2 ^ k) := by
  obtain ⟨j, hj, e⟩ := pk_andE x k hm
  rw [e]
  exact vp_in_nI hj (Nat.lt_of_le_of_lt (Nat.pow_le_pow_right (by decide) hk) (by decide))
theorem pk_shl (a s : Int32) (k : Nat) (hs : (s.toBitVec.smod 32).toNat = k) : (a <<< s).toBitVec.toNat = a.toBitVec.toNat * 2 ^ k % 2 ^ 32 := by
  show (a.toBitVec <<< (s.toBitVec.smod 32).toNat).toNat = _
  rw [hs, BitVec.toNat_shiftLeft, Nat.shiftLeft_eq]
theorem pk_shlN {n : Nat} (s : Int32) (k : Nat) (hs : (s.toBitVec.smod 32).toNat = k) (h : n * 2 ^ k < 2 ^ 32) : nI n <<< s = nI (n * 2 ^ k) := by
  apply Int32.toBitVec_inj.mp
  apply BitVec.eq_of_toNat_eq
  have hn : n < 2 ^ 32 := Nat.lt_of_le_of_lt (Nat.le_mul_of_pos_right n (Nat.two_pow_pos k)) h
  rw [pk_shl _ _ k hs, pk_tn hn, pk_tn h, Nat.mod_eq_of_lt h]
theorem pk_shr (a s : Int32) (k : Nat) (hs : (s.toBitVec.smod 32).toNat = k) : (a >>> s).toInt = a.toInt >>> k := by
  show (a.toBitVec.sshiftRight (s.toBitVec.smod 32).toNat).toInt = _
  rw [hs, BitVec.toInt_sshiftRight]
  rfl
theorem pk_shrN {n : Nat} (h : n < 2 ^ 31) (s : Int32) (k : Nat) (hs : (s.toBitVec.smod 32).toNat = k) : nI n >>> s = nI (n / 2 ^ k) := by
  apply Int32.toInt_inj.mp
  have h2 : n / 2 ^ k ≤ n := Nat.div_le_self _ _
  rw [pk_shr _ _ k hs, nI_toInt h, nI_toInt (by omega), Int.shiftRight_eq_div_pow]
  rfl
theorem pk_ushr (x s : Int32) (k : Nat) (hs : ((s.toUInt32 &&& Int32.toUInt32 31).toBitVec % 32).toNat = k) : (x.toUInt32 >>> (s.toUInt32 &&& Int32.toUInt32 31)).toInt32.toBitVec.toNat = x.toBitVec.toNat / 2 ^ k := by
  have e : (x.toUInt32 >>> (s.toUInt32 &&& Int32.toUInt32 31)).toInt32.toBitVec = x.toBitVec >>> k := by
    rw [← hs]
    exact UInt32.toBitVec_shiftRight _ _
  rw [e, BitVec.toNat_ushiftRight, Nat.shiftRight_eq_div_pow]
theorem pk_ushrN {n : Nat} (hn : n < 2 ^ 32) (s : Int32) (k : Nat) (hs : ((s.toUInt32 &&& Int32.toUInt32 31).toBitVec % 32).toNat = k) : ((nI n).toUInt32 >>> (s.toUInt32 &&& Int32.toUInt32 31)).toInt32 = nI (n / 2 ^ k) := by
  apply Int32.toBitVec_inj.mp
  apply BitVec.eq_of_toNat_eq
  rw [pk_ushr _ s k hs, pk_tn hn, pk_tn (Nat.lt_of_le_of_lt (Nat.div_le_self _ _) hn)]
/-! frames: the class's stamps (U) and the reference's (V) order the filled frames alike -/
def fr_R (B : Nat) (pi : Nat → Int32) (ua : Nat → Int64) (us : Int64) (yu : Nat → Int64) (nw : Int64) (U V : Nat → Nat) (n m : Nat) : Prop :=
  us = lN n ∧ nw = lN m ∧ n ≤ B ∧ m ≤ B ∧
  (∀ f, f < 6 → ua f = lN (U f) ∧ yu f = lN (V f) ∧ U f ≤ n ∧ V f ≤ m) ∧
  (∀ f, f < 6 → (pi f = -1 ∧ U f = 0) ∨ (∃ p, p < 24 ∧ pi f = nI p ∧ 0 < U f)) ∧
  (∀ f g, f < 6 → g < 6 → f ≠ g → pi f ≠ -1 → pi g ≠ -1 → pi f ≠ pi g ∧ U f ≠ U g ∧ (U f < U g ↔ V f < V g))
def fr_RF (B : Nat) (pi : Nat → Int32) (ua : Nat → Int64) (us : Int64) (yu : Nat → Int64) (nw : Int64) : Prop :=
  ∃ U V n m, fr_R B pi ua us yu nw U V n m
def fr_T (b B : Nat) (pi : Nat → Int32) (ua : Nat → Int64) (us : Int64) (yu : Nat → Int64) (nw : Int64) : Prop :=
  ∃ U V n m, fr_R B pi ua us yu nw U V n m ∧ b < 6 ∧ pi b ≠ -1 ∧ (∀ f, f < 6 → f ≠ b → pi f ≠ -1 → U f < U b)
theorem fr_T_RF {b B : Nat} {pi : Nat → Int32} {ua : Nat → Int64} {us : Int64} {yu : Nat → Int64} {nw : Int64} (h : fr_T b B pi ua us yu nw) : fr_RF B pi ua us yu nw := by
  obtain ⟨U, V, n, m, h, -⟩ := h
  exact ⟨U, V, n, m, h⟩
theorem fr_mono {B B' : Nat} {pi : Nat → Int32} {ua : Nat → Int64} {us : Int64} {yu : Nat → Int64} {nw : Int64} (h : fr_RF B pi ua us yu nw) (hB : B ≤ B') : fr_RF B' pi ua us yu nw := by
  obtain ⟨U, V, n, m, h1, h2, h3, h4, h5⟩ := h
  exact ⟨U, V, n, m, h1, h2, Nat.le_trans h3 hB, Nat.le_trans h4 hB, h5⟩
theorem fr_nm1 {p : Nat} (h : p < 24) : nI p ≠ -1 := by
  intro e
  have e2 := congrArg Int32.toInt e
  rw [nI_toInt (by omega), show (-1 : Int32).toInt = -1 from by decide] at e2
  omega
theorem fr_new {b B p : Nat} {pi : Nat → Int32} {ua : Nat → Int64} {us : Int64} {yu : Nat → Int64} {nw : Int64} {U V : Nat → Nat} {n m : Nat}
    (h : fr_R B pi ua us yu nw U V n m) (hb : b < 6) (hp : p < 24) (hu : ∀ j, j < 6 → j ≠ b → pi j ≠ nI p) :
    fr_T b (B + 1) (upd pi b (nI p)) (vp_updL ua b (us + 1)) (us + 1) (vp_updL yu b (nw + 1)) (nw + 1) := by
  obtain ⟨h1, h2, h3, h4, h5, h6, h7⟩ := h
  have hn : us + 1 = lN (n + 1) := by rw [h1]; exact lN_1 n
  have hm : nw + 1 = lN (m + 1) := by rw [h2]; exact lN_1 m
  have hpn := fr_nm1 hp
  refine ⟨fun f => if f = b then n + 1 else U f, fun f => if f = b then m + 1 else V f, n + 1, m + 1, ⟨hn, hm, by omega, by omega, ?_, ?_, ?_⟩, hb, ?_, ?_⟩
  · intro f hf
    obtain ⟨a1, a2, a3, a4⟩ := h5 f hf
    by_cases e : f = b
    · subst e
      simp only [if_true, pk_uLs]
      exact ⟨hn, hm, Nat.le_refl _, Nat.le_refl _⟩
    · simp only [if_neg e, pk_uLn e]
      exact ⟨a1, a2, by omega, by omega⟩
  · intro f hf
    by_cases e : f = b
    · subst e
      simp only [if_true, pk_us]
      exact Or.inr ⟨p, hp, rfl, by omega⟩
    · simp only [if_neg e, pk_un e]
      exact h6 f hf
  · intro f g hf hg hfg
    by_cases e : f = b
    · subst e
      have e2 : g ≠ f := fun z => hfg z.symm
      simp only [if_true, pk_us, if_neg e2, pk_un e2]
      intro _ hgn
      obtain ⟨-, -, a3, a4⟩ := h5 g hg
      exact ⟨fun z => hu g hg e2 z.symm, by omega, by omega⟩
    · by_cases e2 : g = b
      · subst e2
        simp only [if_true, pk_us, if_neg e, pk_un e]
        intro hfn _
        obtain ⟨-, -, a3, a4⟩ := h5 f hf
        exact ⟨hu f hf e, by omega, by omega⟩
      · simp only [if_neg e, if_neg e2, pk_un e, pk_un e2]
        exact h7 f g hf hg hfg
  · rw [pk_us]; exact hpn
  · intro f hf e
    simp only [if_true, if_neg e]
    intro _
    obtain ⟨-, -, a3, -⟩ := h5 f hf
    omega
theorem fr_again {b B : Nat} {pi : Nat → Int32} {ua : Nat → Int64} {us : Int64} {yu : Nat → Int64} {nw : Int64}
    (h : fr_T b B pi ua us yu nw) : fr_T b (B + 1) pi ua us (vp_updL yu b (nw + 1)) (nw + 1) := by
  obtain ⟨U, V, n, m, ⟨h1, h2, h3, h4, h5, h6, h7⟩, hb, hpb, ht⟩ := h
  have hm : nw + 1 = lN (m + 1) := by rw [h2]; exact lN_1 m
  refine ⟨U, fun f => if f = b then m + 1 else V f, n, m + 1, ⟨h1, hm, by omega, by omega, ?_, h6, ?_⟩, hb, hpb, ht⟩
  · intro f hf
    obtain ⟨a1, a2, a3, a4⟩ := h5 f hf
    by_cases e : f = b
    · subst e
      simp only [if_true, pk_uLs]
      exact ⟨a1, hm, a3, Nat.le_refl _⟩
    · simp only [if_neg e, pk_uLn e]
      exact ⟨a1, a2, a3, by omega⟩
  · intro f g hf hg hfg hfn hgn
    obtain ⟨c1, c2, c3⟩ := h7 f g hf hg hfg hfn hgn
    obtain ⟨-, -, a3, a4⟩ := h5 f hf
    obtain ⟨-, -, a5, a6⟩ := h5 g hg
    by_cases e : f = b
    · subst e
      have e2 : g ≠ f := fun z => hfg z.symm
      have := ht g hg e2 hgn
      simp only [if_true, if_neg e2]
      exact ⟨c1, c2, by omega⟩
    · by_cases e2 : g = b
      · subst e2
        have := ht f hf e hfn
        simp only [if_true, if_neg e]
        exact ⟨c1, c2, by omega⟩
      · simp only [if_neg e, if_neg e2]
        exact ⟨c1, c2, c3⟩
theorem fr_free {B f : Nat} {pi : Nat → Int32} {ua : Nat → Int64} {us : Int64} {yu : Nat → Int64} {nw : Int64}
    (h : fr_RF B pi ua us yu nw) : fr_RF B (upd pi f (-1)) (vp_updL ua f 0) us yu nw := by
  obtain ⟨U, V, n, m, h1, h2, h3, h4, h5, h6, h7⟩ := h
  refine ⟨fun j => if j = f then 0 else U j, V, n, m, h1, h2, h3, h4, ?_, ?_, ?_⟩
  · intro j hj
    obtain ⟨a1, a2, a3, a4⟩ := h5 j hj
    by_cases e : j = f
    · subst e
      simp only [if_true, pk_uLs]
      exact ⟨rfl, a2, by omega, a4⟩
    · simp only [if_neg e, pk_uLn e]
      exact ⟨a1, a2, a3, a4⟩
  · intro j hj
    by_cases e : j = f
    · subst e
      simp only [if_true, pk_us]
      exact Or.inl ⟨by trivial, by trivial⟩
    · simp only [if_neg e, pk_un e]
      exact h6 j hj
  · intro i j hi hj hij
    by_cases e : i = f
    · subst e
      rw [pk_us]
      exact fun z => absurd rfl z
    · by_cases e2 : j = f
      · subst e2
        rw [pk_us]
        exact fun _ z => absurd rfl z
      · simp only [if_neg e, if_neg e2, pk_un e, pk_un e2]
        exact h7 i j hi hj hij
/-- what the class's two loops find -/
def fr_CX (pi : Nat → Int32) (U : Nat → Nat) (P : Int32) (b : Nat) : Prop :=
  b < 6 ∧ (pi b = P ∨ ((∀ j, j < 6 → pi j ≠ P) ∧ (∀ j, j < 6 → U b ≤ U j) ∧ (∀ j, j < b → U b < U j)))
/-- what the reference's loop finds -/
def fr_CY (pi : Nat → Int32) (V : Nat → Nat) (P : Int32) (b : Nat) : Prop :=
  b < 6 ∧ (pi b = P ∨ ((∀ j, j < 6 → pi j ≠ P) ∧ ((pi b = -1 ∧ ∀ j, j < b → pi j ≠ -1) ∨ ((∀ j, j < 6 → pi j ≠ -1) ∧ ∀ j, j < 6 → V b ≤ V j))))
theorem fr_pick {B p b c : Nat} {pi : Nat → Int32} {ua : Nat → Int64} {us : Int64} {yu : Nat → Int64} {nw : Int64} {U V : Nat → Nat} {n m : Nat}
    (h : fr_R B pi ua us yu nw U V n m) (hp : p < 24) (hx : fr_CX pi U (nI p) b) (hy : fr_CY pi V (nI p) c) : c = b := by
  obtain ⟨h1, h2, h3, h4, h5, h6, h7⟩ := h
  obtain ⟨hb, hx⟩ := hx
  obtain ⟨hc, hy⟩ := hy
  have hpn := fr_nm1 hp
  apply Classical.byContradiction
  intro hne
  have hbc : b ≠ c := fun z => hne z.symm
  rcases hx with hx | ⟨x1, x2, x3⟩
  · rcases hy with hy | ⟨y1, -⟩
    · exact (h7 b c hb hc hbc (by rw [hx]; exact hpn) (by rw [hy]; exact hpn)).1 (by rw [hx, hy])
    · exact y1 b hb hx
  · rcases hy with hy | ⟨y1, ⟨y2, y3⟩ | ⟨y2, y3⟩⟩
    · exact x1 c hc hy
    · have hu : U c = 0 := by
        rcases h6 c hc with ⟨-, e⟩ | ⟨p', hp', e, -⟩
        · exact e
        · exact absurd (e.symm.trans y2) (fr_nm1 hp')
      have hub : U b = 0 := by have := x2 c hc; omega
      have hbf : pi b = -1 := by
        rcases h6 b hb with ⟨e, -⟩ | ⟨_, _, _, e⟩
        · exact e
        · omega
      have hlt : c < b ∨ b < c := by omega
      rcases hlt with hl | hl
      · have := x3 c hl; omega
      · exact y3 b hl hbf
    · obtain ⟨-, c2, c3⟩ := h7 b c hb hc hbc (y2 b hb) (y2 c hc)
      have := x2 c hc
      have := y3 b hb
      omega
theorem fr_upd_same {pi : Nat → Int32} {b : Nat} {P : Int32} (h : pi b = P) : upd pi b P = pi := by
  funext j
  unfold upd
  by_cases e : j = b
  · rw [if_pos e, e, h]
  · rw [if_neg e]
theorem fr_upd2 {f : Nat → Int32} {k : Nat} {x y : Int32} : upd (upd f k x) k y = upd f k y := by
  funext j
  unfold upd
  by_cases e : j = k
  · rw [if_pos e, if_pos e]
  · rw [if_neg e, if_neg e, if_neg e]
theorem fr_only {B p b : Nat} {pi : Nat → Int32} {ua : Nat → Int64} {us : Int64} {yu : Nat → Int64} {nw : Int64} {U V : Nat → Nat} {n m : Nat}
    (h : fr_R B pi ua us yu nw U V n m) (hp : p < 24) (hx : fr_CX pi U (nI p) b) : ∀ j, j < 6 → j ≠ b → pi j ≠ nI p := by
  obtain ⟨h1, h2, h3, h4, h5, h6, h7⟩ := h
  obtain ⟨hb, hx⟩ := hx
  have hpn := fr_nm1 hp
  intro j hj hjb e
  rcases hx with hx | ⟨x1, -⟩
  · exact (h7 j b hj hb hjb (by rw [e]; exact hpn) (by rw [hx]; exact hpn)).1 (by rw [e, hx])
  · exact x1 j hj e
