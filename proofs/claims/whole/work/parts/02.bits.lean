def bt (x : Int32) (i : Nat) : Bool := x.toBitVec.getLsbD i
theorem b_ext {x y : Int32} (h : ∀ i, i < 32 → bt x i = bt y i) : x = y := Int32.toBitVec_inj.mp (BitVec.eq_of_getLsbD_eq (fun i hi => h i hi))
theorem b_or (x y : Int32) (i : Nat) : bt (x ||| y) i = (bt x i || bt y i) := by unfold bt; rw [Int32.toBitVec_or, BitVec.getLsbD_or]
theorem b_and (x y : Int32) (i : Nat) : bt (x &&& y) i = (bt x i && bt y i) := by unfold bt; rw [Int32.toBitVec_and, BitVec.getLsbD_and]
theorem b_xor (x y : Int32) (i : Nat) : bt (x ^^^ y) i = (bt x i ^^ bt y i) := by unfold bt; rw [Int32.toBitVec_xor, BitVec.getLsbD_xor]
theorem bi_63 : ∀ i, i < 32 → bt 63 i = decide (i < 6) := by decide +kernel
theorem bi_m64 : ∀ i, i < 32 → bt (-64) i = decide (6 ≤ i) := by decide +kernel
theorem bi_keep (x y : Int32) : ((x &&& (-64)) ||| (y &&& 63)) &&& (-64) = x &&& (-64) := by
  apply b_ext
  intro i hi
  rw [b_and, b_or, b_and, b_and, bi_63 i hi, bi_m64 i hi]
  by_cases h : 6 ≤ i
  · rw [decide_eq_true h, decide_eq_false (by omega)]
    cases bt x i <;> cases bt y i <;> rfl
  · rw [decide_eq_false h]
    cases bt x i <;> cases bt y i <;> simp
theorem bi_next (x : Int32) : (x + 1) &&& 63 = ((x &&& 63) + 1) &&& 63 := by
  have hm : (63 : Int32).toBitVec.toNat = 2 ^ 6 - 1 := by decide
  have e : (x + 1).toBitVec.toNat = (x.toBitVec.toNat + 1) % 2 ^ 32 := by
    rw [Int32.toBitVec_add, BitVec.toNat_add]
    rfl
  rw [pk_and _ 6 hm, pk_and x 6 hm, nI_1, pk_andN (by omega) 6 hm, e]
  exact congrArg nI (by omega)
theorem bi_63N {a : Nat} (h : a < 64) : nI a &&& 63 = nI a := by
  rw [pk_andN (by omega) 6 (by decide), Nat.mod_eq_of_lt (by omega)]
theorem bi_E63 (x : Int32) : ∃ j : Nat, j < 64 ∧ x &&& 63 = nI j := pk_andE x 6 (by decide)
theorem bi_E15 (x : Int32) : ∃ j : Nat, j < 16 ∧ x &&& 15 = nI j := pk_andE x 4 (by decide)
theorem bi_E7 (x : Int32) : ∃ j : Nat, j < 8 ∧ x &&& 7 = nI j := pk_andE x 3 (by decide)
theorem bi_E3 (x : Int32) : ∃ j : Nat, j < 4 ∧ x &&& 3 = nI j := pk_andE x 2 (by decide)
/-! indices -/
theorem ix_64 (g a : Nat) : nI g * 64 + nI a = nI (64 * g + a) := by
  show nI g * nI 64 + nI a = _
  rw [pk_mul, nI_add, Nat.mul_comm]
theorem iy_64 (g a : Nat) : 64 * nI g + nI a = nI (64 * g + a) := by
  show nI 64 * nI g + nI a = _
  rw [pk_mul, nI_add]
theorem ix_4 (g a : Nat) : nI g * 4 + nI a = nI (4 * g + a) := by
  show nI g * nI 4 + nI a = _
  rw [pk_mul, nI_add, Nat.mul_comm]
theorem iy_4 (g a : Nat) : 4 * nI g + nI a = nI (4 * g + a) := by
  show nI 4 * nI g + nI a = _
  rw [pk_mul, nI_add]
theorem iy_4' (g : Nat) : 4 * nI g = nI (4 * g) := by
  show nI 4 * nI g = _
  rw [pk_mul]
theorem ix_p {g a : Nat} (ha : a < 64) : nI g * 8 + nI a / 8 = nI (8 * g + a / 8) := by
  show nI g * nI 8 + nI a / nI 8 = _
  rw [pk_div (by omega) (by decide) (by decide), pk_mul, nI_add, Nat.mul_comm]
theorem iy_p {g a : Nat} (ha : a < 64) : 8 * nI g + nI a / 8 = nI (8 * g + a / 8) := by
  show nI 8 * nI g + nI a / nI 8 = _
  rw [pk_div (by omega) (by decide) (by decide), pk_mul, nI_add]
theorem ix_pl {q a : Nat} (ha : a < 64) : nI q * 8 + (nI a - nI a / 8 * 8) = nI (8 * q + a % 8) := by
  show nI q * nI 8 + (nI a - nI a / nI 8 * nI 8) = _
  rw [pk_rem (by omega) (by decide) (by decide), pk_mul, nI_add, Nat.mul_comm]
theorem iy_pl {q a : Nat} (ha : a < 64) : 8 * nI q + (nI a - nI a / 8 * 8) = nI (8 * q + a % 8) := by
  show nI 8 * nI q + (nI a - nI a / nI 8 * nI 8) = _
  rw [pk_rem (by omega) (by decide) (by decide), pk_mul, nI_add]
theorem ix_m3 {a : Nat} (ha : a < 1000) : nI a - nI a / 3 * 3 = nI (a % 3) := pk_rem (d := 3) (by omega) (by decide) (by decide)
theorem ix_f {p : Nat} (h : p < 24) : nI p / 8 = nI (p / 8) := pk_div (d := 8) (by omega) (by decide) (by decide)
theorem ix_g (g : Int32) : g < 0 ∨ 3 ≤ g ∨ ∃ j : Nat, j < 3 ∧ g = nI j := pk_ix g (n := 3) (by decide)
theorem ix_a (g : Int32) : g < 0 ∨ 64 ≤ g ∨ ∃ j : Nat, j < 64 ∧ g = nI j := pk_ix g (n := 64) (by decide)
theorem ix_s (g : Int32) : g < 0 ∨ 2 ≤ g ∨ ∃ j : Nat, j < 2 ∧ g = nI j := pk_ix g (n := 2) (by decide)
theorem ix_8 (g : Int32) : g < 0 ∨ 8 ≤ g ∨ ∃ j : Nat, j < 8 ∧ g = nI j := pk_ix g (n := 8) (by decide)
