/-! THE PURE PART, sets of bits -/
theorem Z_p2 (k : Nat) : (0 : Int) < ((2 ^ k : Nat) : Int) := by
  have : 0 < (2 : Nat) ^ k := Nat.pow_pos (by decide)
  omega
/-- bit k of a number -/
def bt' (M : Int) (k : Nat) : Prop := M / ((2 ^ k : Nat) : Int) % 2 = 1
theorem bt_nat (a k : Nat) : bt' (a : Int) k ↔ a.testBit k = true := by
  unfold bt'
  rw [Nat.testBit_eq_decide_div_mod_eq, ← Int.natCast_ediv, decide_eq_true_eq]
  omega
theorem ior_bit {M : Int} {k n : Nat} (M0 : 0 ≤ M) (hk : k < n) (hn : n ≤ 31) (M1 : M < ((2 ^ n : Nat) : Int)) : 0 ≤ ior M (ishl 1 (k : Int)) ∧ ior M (ishl 1 (k : Int)) < ((2 ^ n : Nat) : Int) ∧ ∀ j, bt' (ior M (ishl 1 (k : Int))) j ↔ (bt' M j ∨ j = k) := by
  obtain ⟨a, ha⟩ : ∃ a : Nat, M = (a : Int) := ⟨M.toNat, by omega⟩
  subst ha
  have p1 : (2 : Nat) ^ n ≤ 2 ^ 31 := Nat.pow_le_pow_right (by decide) hn
  have p2 : (2 : Nat) ^ k < 2 ^ n := Nat.pow_lt_pow_right (by decide) hk
  have e31 : (2 : Nat) ^ 31 = 2147483648 := by decide
  have pk := Z_p2 k
  have sh : ishl 1 (k : Int) = ((2 ^ k : Nat) : Int) := by
    rw [Z_shl (by omega), Int.one_mul, Z_wI (by omega)]
  have a1 : a < 2 ^ n := by omega
  rw [sh, Z_orN _ _ (by omega) (by omega)]
  have l : a ||| 2 ^ k < 2 ^ n := Nat.or_lt_two_pow a1 p2
  refine ⟨by omega, by omega, fun j => ?_⟩
  rw [bt_nat, bt_nat, Nat.testBit_or, Nat.testBit_two_pow, Bool.or_eq_true, decide_eq_true_eq]
  constructor
  · rintro (w | w)
    · exact Or.inl w
    · exact Or.inr w.symm
  · rintro (w | w)
    · exact Or.inl w
    · exact Or.inr w.symm
theorem bt_0 (k : Nat) : ¬ bt' 0 k := by
  unfold bt'
  rw [Int.zero_ediv]
  decide
/-- the set is empty where no bit is -/
theorem bt_none {M : Int} {n : Nat} (M0 : 0 ≤ M) (M1 : M < ((2 ^ n : Nat) : Int)) (h : ∀ j, j < n → ¬ bt' M j) : M = 0 := by
  obtain ⟨a, ha⟩ : ∃ a : Nat, M = (a : Int) := ⟨M.toNat, by omega⟩
  subst ha
  have : a = 0 := by
    apply Nat.eq_of_testBit_eq
    intro i
    rw [Nat.zero_testBit]
    rcases Nat.lt_or_ge i n with q | q
    · have := h i q
      rw [bt_nat] at this
      simpa using this
    · exact Nat.testBit_lt_two_pow (Nat.lt_of_lt_of_le (by omega : a < 2 ^ n) (Nat.pow_le_pow_right (by decide) q))
  omega
theorem iand_bit {M : Int} {k : Nat} (M0 : 0 ≤ M) (M1 : M < 2147483648) (hk : k < 32) : iand (ishr M (k : Int)) 1 = M / ((2 ^ k : Nat) : Int) % 2 := by
  rw [Z_shr hk ⟨by omega, M1⟩, Z_and1]
theorem bt_01 (M : Int) (k : Nat) : M / ((2 ^ k : Nat) : Int) % 2 = 0 ∨ M / ((2 ^ k : Nat) : Int) % 2 = 1 := by omega
