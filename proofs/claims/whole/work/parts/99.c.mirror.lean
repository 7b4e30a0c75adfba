/-! THE PURE PART, least: sets mirrored -/
def mrN (s : Nat) : Nat → Nat
  | 0 => 0
  | k + 1 => 2 * mrN s k + s / 2 ^ k % 2
theorem mrN_lt (s : Nat) : ∀ k, mrN s k < 2 ^ k := by
  intro k
  induction k with
  | zero => exact Nat.one_pos
  | succ k ih =>
    show 2 * mrN s k + s / 2 ^ k % 2 < 2 ^ (k + 1)
    rw [Nat.pow_succ]
    omega
theorem mrN_bit (s : Nat) : ∀ k j, j < k → Nat.testBit (mrN s k) j = Nat.testBit s (k - 1 - j) := by
  intro k
  induction k with
  | zero => intro j hj; omega
  | succ k ih =>
    intro j hj
    show Nat.testBit (2 * mrN s k + s / 2 ^ k % 2) j = _
    cases j with
    | zero =>
      rw [Nat.testBit_zero, show k + 1 - 1 - 0 = k by omega, Nat.testBit_eq_decide_div_mod_eq, show (2 * mrN s k + s / 2 ^ k % 2) % 2 = s / 2 ^ k % 2 by omega]
    | succ j =>
      rw [Nat.testBit_succ, show (2 * mrN s k + s / 2 ^ k % 2) / 2 = mrN s k by omega, ih j (by omega), show k + 1 - 1 - (j + 1) = k - 1 - j by omega]
theorem pcn_top : ∀ (k x : Nat), pcn (k + 1) x = pcn k x + x / 2 ^ k % 2 := by
  intro k
  induction k with
  | zero =>
    intro x
    show x % 2 + 0 = 0 + x / 2 ^ 0 % 2
    omega
  | succ k ih =>
    intro x
    show x % 2 + pcn (k + 1) (x / 2) = x % 2 + pcn k (x / 2) + x / 2 ^ (k + 1) % 2
    rw [ih, Nat.div_div_eq_div_mul, Nat.pow_succ, Nat.mul_comm (2 ^ k) 2]
    omega
theorem pcn_mr (s : Nat) : ∀ k, pcn k (mrN s k) = pcn k s := by
  intro k
  induction k with
  | zero => rfl
  | succ k ih =>
    rw [pcn_top k s]
    show (2 * mrN s k + s / 2 ^ k % 2) % 2 + pcn k ((2 * mrN s k + s / 2 ^ k % 2) / 2) = _
    rw [show (2 * mrN s k + s / 2 ^ k % 2) / 2 = mrN s k by omega, ih]
    omega
theorem pcn_ge {x : Nat} : ∀ (g k : Nat), x < 2 ^ k → pcn (k + g) x = pcn k x := by
  intro g
  induction g with
  | zero => intro k _; rfl
  | succ g ih =>
    intro k hk
    have l : x < 2 ^ (k + g) := Nat.lt_of_lt_of_le hk (Nat.pow_le_pow_right (by decide) (by omega))
    rw [← Nat.add_assoc, pcn_top, ih k hk, Nat.div_eq_of_lt l]
    rfl
theorem lt_bit : ∀ (i a b : Nat), Nat.testBit a i = false → Nat.testBit b i = true → (∀ j, i < j → Nat.testBit a j = Nat.testBit b j) → a < b := by
  intro i
  induction i with
  | zero =>
    intro a b ha hb e
    rw [Nat.testBit_zero] at ha hb
    have h1 := of_decide_eq_false ha
    have h2 := of_decide_eq_true hb
    have h3 : a / 2 = b / 2 := Nat.eq_of_testBit_eq fun j => by
      rw [← Nat.testBit_succ, ← Nat.testBit_succ]
      exact e (j + 1) (by omega)
    omega
  | succ i ih =>
    intro a b ha hb e
    rw [Nat.testBit_succ] at ha hb
    have := ih (a / 2) (b / 2) ha hb fun j hj => by
      rw [← Nat.testBit_succ, ← Nat.testBit_succ]
      exact e (j + 1) (by omega)
    omega
/-- which of two sets of the same size is told first: at the lowest place where they differ -/
theorem mr_lt {n a b j : Nat} (jn : j < n) (ha : Nat.testBit a j = false) (hb : Nat.testBit b j = true) (e : ∀ i, i < j → Nat.testBit a i = Nat.testBit b i) : mrN a n < mrN b n := by
  refine lt_bit (n - 1 - j) _ _ ?_ ?_ fun i hi => ?_
  · rw [mrN_bit a n _ (by omega), show n - 1 - (n - 1 - j) = j by omega]; exact ha
  · rw [mrN_bit b n _ (by omega), show n - 1 - (n - 1 - j) = j by omega]; exact hb
  · by_cases q : i < n
    · rw [mrN_bit a n i q, mrN_bit b n i q]
      exact e _ (by omega)
    · have p : 2 ^ n ≤ 2 ^ i := Nat.pow_le_pow_right (by decide) (by omega)
      rw [Nat.testBit_lt_two_pow (Nat.lt_of_lt_of_le (mrN_lt a n) p), Nat.testBit_lt_two_pow (Nat.lt_of_lt_of_le (mrN_lt b n) p)]
theorem mr_mr {n s : Nat} (hs : s < 2 ^ n) : mrN (mrN s n) n = s := by
  refine Nat.eq_of_testBit_eq fun i => ?_
  by_cases q : i < n
  · rw [mrN_bit _ n i q, mrN_bit s n _ (by omega), show n - 1 - (n - 1 - i) = i by omega]
  · have p : 2 ^ n ≤ 2 ^ i := Nat.pow_le_pow_right (by decide) (by omega)
    rw [Nat.testBit_lt_two_pow (Nat.lt_of_lt_of_le (mrN_lt _ n) p), Nat.testBit_lt_two_pow (Nat.lt_of_lt_of_le hs p)]
theorem C_mirror {s n : Nat} (hs : s < 16384) (hn : n ≤ 14) (h : mH) : Cl kX_mirrorOf [vI (s : Int), vI (n : Int)] h = some (some (vI (mrN s n : Int)), h) := by
  have main : ∀ (f k : Nat), k + f = n → Rn kX_mirrorOf 1 [vI (s : Int), vI (n : Int), vI (mrN s k : Int), vI (k : Int)] [] h = some (some (vI (mrN s n : Int)), h) := by
    intro f
    induction f with
    | zero =>
      intro k e
      rw [E_X_mirrorOf_1, if_neg (by omega), show k = n by omega]
    | succ f ih =>
      intro k e
      have l := mrN_lt s k
      have p : 2 ^ k ≤ 2 ^ 14 := Nat.pow_le_pow_right (by decide) (by omega)
      have ib := iand_bit (M := (s : Int)) (k := k) (by omega) (by omega) (by omega)
      have eb : (s : Int) / ((2 ^ k : Nat) : Int) % 2 = ((s / 2 ^ k % 2 : Nat) : Int) := by
        rw [Int.natCast_emod, Int.natCast_ediv]
        rfl
      have es : ishl (mrN s k : Int) 1 = (mrN s k : Int) * ((2 ^ 1 : Nat) : Int) := (Z_shl (k := 1) (by decide) _).trans (Z_wI (by omega))
      have m2 : s / 2 ^ k % 2 < 2 := Nat.mod_lt _ (by decide)
      have eo : ior ((mrN s k : Int) * ((2 ^ 1 : Nat) : Int)) ((s / 2 ^ k % 2 : Nat) : Int) = (mrN s k : Int) * ((2 ^ 1 : Nat) : Int) + ((s / 2 ^ k % 2 : Nat) : Int) := Z_orA (k := 1) (by omega) (by omega) (by omega) (by omega)
      have em : (mrN s k : Int) * ((2 ^ 1 : Nat) : Int) + ((s / 2 ^ k % 2 : Nat) : Int) = (mrN s (k + 1) : Int) := by
        show _ = ((2 * mrN s k + s / 2 ^ k % 2 : Nat) : Int)
        omega
      rw [E_X_mirrorOf_1, if_pos (by omega), ib, eb, es, eo, em, Z_wI (by omega)]
      exact ih (k + 1) (by omega)
  rw [E_X_mirrorOf]
  exact main n 0 (by omega)
