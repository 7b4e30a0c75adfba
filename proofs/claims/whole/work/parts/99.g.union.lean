/-! THE PURE PART, least: unions of sets, lone places -/
def unN (S : Nat → Nat) (s : Nat) : Nat → Nat
  | 0 => 0
  | k + 1 => if s / 2 ^ k % 2 = 1 then unN S s k ||| S k else unN S s k
theorem unN_lt {S : Nat → Nat} {s m : Nat} (hS : ∀ k, S k < 2 ^ m) : ∀ k, unN S s k < 2 ^ m := by
  intro k
  induction k with
  | zero => exact Nat.two_pow_pos m
  | succ k ih =>
    show (if s / 2 ^ k % 2 = 1 then unN S s k ||| S k else unN S s k) < 2 ^ m
    split
    · exact Nat.or_lt_two_pow ih (hS k)
    · exact ih
theorem unN_bit (S : Nat → Nat) (s j : Nat) : ∀ k, Nat.testBit (unN S s k) j = true ↔ ∃ i, i < k ∧ Nat.testBit s i = true ∧ Nat.testBit (S i) j = true := by
  intro k
  induction k with
  | zero =>
    show Nat.testBit 0 j = true ↔ _
    rw [Nat.zero_testBit]
    exact ⟨fun h => absurd h (by decide), fun ⟨i, h, _⟩ => by omega⟩
  | succ k ih =>
    show Nat.testBit (if s / 2 ^ k % 2 = 1 then unN S s k ||| S k else unN S s k) j = true ↔ _
    have tb : Nat.testBit s k = true ↔ s / 2 ^ k % 2 = 1 := by rw [Nat.testBit_eq_decide_div_mod_eq]; exact decide_eq_true_iff
    by_cases q : s / 2 ^ k % 2 = 1
    · rw [if_pos q, Nat.testBit_or, Bool.or_eq_true, ih]
      constructor
      · rintro (⟨i, h1, h2, h3⟩ | h)
        · exact ⟨i, by omega, h2, h3⟩
        · exact ⟨k, by omega, tb.mpr q, h⟩
      · rintro ⟨i, h1, h2, h3⟩
        by_cases e : i = k
        · rw [e] at h3; exact Or.inr h3
        · exact Or.inl ⟨i, by omega, h2, h3⟩
    · rw [if_neg q, ih]
      constructor
      · rintro ⟨i, h1, h2, h3⟩
        exact ⟨i, by omega, h2, h3⟩
      · rintro ⟨i, h1, h2, h3⟩
        by_cases e : i = k
        · rw [e] at h2; exact absurd (tb.mp h2) q
        · exact ⟨i, by omega, h2, h3⟩
theorem C_union {h : mH} {A : Int} {n s : Nat} {S : Nat → Nat} (A0 : A ≠ 0) (hN : h.N A = n) (hn : n ≤ 14) (hM : ∀ k : Nat, k < n → h.M A (k : Int) = (S k : Int)) (hS : ∀ k, S k < 2 ^ 14) (hs : s < 16384) : Cl kX_unionOf [vR 100 A, vI (s : Int)] h = some (some (vI (unN S s n : Int)), h) := by
  have main : ∀ (f k : Nat), k + f = n → Rn kX_unionOf 1 [vR 100 A, vI (s : Int), vI (unN S s k : Int), vI (k : Int)] [] h = some (some (vI (unN S s n : Int)), h) := by
    intro f
    induction f with
    | zero =>
      intro k e
      rw [E_X_unionOf_1, gd_t A0, hN, if_neg (by omega), show k = n by omega]
    | succ f ih =>
      intro k e
      have ib := iand_bit (M := (s : Int)) (k := k) (by omega) (by omega) (by omega)
      have eb : (s : Int) / ((2 ^ k : Nat) : Int) % 2 = ((s / 2 ^ k % 2 : Nat) : Int) := by
        rw [Int.natCast_emod, Int.natCast_ediv]
        rfl
      have l := unN_lt (s := s) hS k
      have l2 := hS k
      have st : unN S s (k + 1) = if s / 2 ^ k % 2 = 1 then unN S s k ||| S k else unN S s k := rfl
      rw [E_X_unionOf_1, gd_t A0, hN, if_pos (by omega), ib, eb, Z_wI (z := (k : Int) + 1) (by omega)]
      have r := ih (k + 1) (by omega)
      by_cases q : s / 2 ^ k % 2 = 1
      · rw [if_pos (by omega), gd_t ⟨by omega, by omega, A0⟩, hM k (by omega), Z_orN _ _ (by omega) (by omega)]
        rw [st, if_pos q] at r
        exact r
      · rw [if_neg (by omega)]
        rw [st, if_neg q] at r
        exact r
  rw [E_X_unionOf]
  exact main n 0 (by omega)
