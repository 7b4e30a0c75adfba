/-! THE PURE PART, least: lone places; whether a set does all -/
def loN (S : Nat → Nat) : Nat → Nat
  | 0 => 0
  | k + 1 => if S k = 2 ^ k then loN S k ||| 2 ^ k else loN S k
theorem loN_lt (S : Nat → Nat) : ∀ k, loN S k < 2 ^ k := by
  intro k
  induction k with
  | zero => exact Nat.one_pos
  | succ k ih =>
    show (if S k = 2 ^ k then loN S k ||| 2 ^ k else loN S k) < 2 ^ (k + 1)
    have p : 2 ^ k < 2 ^ (k + 1) := by rw [Nat.pow_succ]; have := Nat.two_pow_pos k; omega
    split
    · exact Nat.or_lt_two_pow (Nat.lt_trans ih p) p
    · exact Nat.lt_trans ih p
theorem loN_bit (S : Nat → Nat) (j : Nat) : ∀ k, Nat.testBit (loN S k) j = true ↔ j < k ∧ S j = 2 ^ j := by
  intro k
  induction k with
  | zero =>
    show Nat.testBit 0 j = true ↔ _
    rw [Nat.zero_testBit]
    exact ⟨fun h => absurd h (by decide), fun h => by omega⟩
  | succ k ih =>
    show Nat.testBit (if S k = 2 ^ k then loN S k ||| 2 ^ k else loN S k) j = true ↔ _
    by_cases q : S k = 2 ^ k
    · rw [if_pos q, Nat.testBit_or, Bool.or_eq_true, ih, Nat.testBit_two_pow, decide_eq_true_iff]
      constructor
      · rintro (⟨h1, h2⟩ | h)
        · exact ⟨by omega, h2⟩
        · rw [← h]; exact ⟨by omega, q⟩
      · rintro ⟨h1, h2⟩
        by_cases e : k = j
        · exact Or.inr e
        · exact Or.inl ⟨by omega, h2⟩
    · rw [if_neg q, ih]
      constructor
      · rintro ⟨h1, h2⟩
        exact ⟨by omega, h2⟩
      · rintro ⟨h1, h2⟩
        by_cases e : j = k
        · rw [e] at h2; exact absurd h2 q
        · exact ⟨by omega, h2⟩
theorem shl_1 {k : Nat} (hk : k ≤ 14) : ishl 1 (k : Int) = ((2 ^ k : Nat) : Int) := by
  have p : 2 ^ k ≤ 2 ^ 14 := Nat.pow_le_pow_right (by decide) hk
  have gen : ∀ m : Nat, m ≤ 16384 → wI (m : Int) = m := fun m hm => Z_wI (by omega)
  rw [Z_shl (by omega), Int.one_mul]
  exact gen _ (Nat.le_trans p (by decide))
theorem C_lone {h : mH} {A : Int} {n : Nat} {S : Nat → Nat} (A0 : A ≠ 0) (hN : h.N A = n) (hn : n ≤ 14) (hM : ∀ k : Nat, k < n → h.M A (k : Int) = (S k : Int)) : Cl kX_loneOf [vR 100 A] h = some (some (vI (loN S n : Int)), h) := by
  have main : ∀ (f k : Nat), k + f = n → Rn kX_loneOf 1 [vR 100 A, vI (loN S k : Int), vI (k : Int)] [] h = some (some (vI (loN S n : Int)), h) := by
    intro f
    induction f with
    | zero =>
      intro k e
      rw [E_X_loneOf_1, gd_t A0, hN, if_neg (by omega), show k = n by omega]
    | succ f ih =>
      intro k e
      have l := loN_lt S k
      have p : 2 ^ k ≤ 2 ^ 14 := Nat.pow_le_pow_right (by decide) (by omega)
      have st : loN S (k + 1) = if S k = 2 ^ k then loN S k ||| 2 ^ k else loN S k := rfl
      rw [E_X_loneOf_1, gd_t A0, hN, if_pos (by omega), gd_t ⟨by omega, by omega, A0⟩, hM k (by omega), shl_1 (by omega), Z_wI (z := (k : Int) + 1) (by omega), Z_orN _ _ (by omega) (by omega)]
      have r := ih (k + 1) (by omega)
      by_cases q : S k = 2 ^ k
      · rw [if_pos (by rw [q])]
        rw [st, if_pos q] at r
        exact r
      · rw [if_neg (show ¬ (S k : Int) = ((2 ^ k : Nat) : Int) from fun z => q (Int.ofNat.inj z))]
        rw [st, if_neg q] at r
        exact r
  rw [E_X_loneOf]
  exact main n 0 (by omega)
theorem and_0 {a b : Nat} : a &&& b = 0 ↔ ¬ ∃ j, Nat.testBit a j = true ∧ Nat.testBit b j = true := by
  constructor
  · rintro e ⟨j, h1, h2⟩
    have t : Nat.testBit (a &&& b) j = Nat.testBit 0 j := congrArg (fun x => Nat.testBit x j) e
    rw [Nat.testBit_and, h1, h2, Nat.zero_testBit] at t
    exact absurd t (by decide)
  · intro e
    refine Nat.eq_of_testBit_eq fun j => ?_
    rw [Nat.testBit_and, Nat.zero_testBit]
    cases h1 : Nat.testBit a j
    · rfl
    · cases h2 : Nat.testBit b j
      · rfl
      · exact absurd ⟨j, h1, h2⟩ e
theorem R_doAll {h : mH} (L : lay h) {n t : Nat} {D : Nat → Nat} (hn : n ≤ 14) (ht : t < 16384) (hD : ∀ k, D k < 16384) (hM : ∀ k : Nat, k < n → h.M 50 (k : Int) = (D k : Int)) : Cl kM_doAll [vO 11 9, vI (t : Int), vI (n : Int)] h = some (some (vI (cb (∀ k, k < n → ∃ j, Nat.testBit (D k) j = true ∧ Nat.testBit t j = true))), h) := by
  have main : ∀ (f k : Nat), k + f = n → (∀ i, i < k → ∃ j, Nat.testBit (D i) j = true ∧ Nat.testBit t j = true) → Rn kM_doAll 1 [vO 11 9, vI (t : Int), vI (n : Int), vI (k : Int)] [] h = some (some (vI (cb (∀ k, k < n → ∃ j, Nat.testBit (D k) j = true ∧ Nat.testBit t j = true))), h) := by
    intro f
    induction f with
    | zero =>
      intro k e R
      rw [E_M_doAll_1, if_neg (by omega), gd_t (by decide), cb_t (p := ∀ k, k < n → ∃ j, Nat.testBit (D k) j = true ∧ Nat.testBit t j = true) fun i hi => R i (by omega)]
    | succ f ih =>
      intro k e R
      have dk := hD k
      have al : D k &&& t ≤ t := Nat.and_le_right
      rw [E_M_doAll_1, if_pos (by omega), lm55 L, ln50 L, gd_t ⟨by omega, by omega, by decide⟩, hM k (by omega), Z_andN _ _ (by omega) (by omega), Z_wI (z := (k : Int) + 1) (by omega)]
      by_cases z : D k &&& t = 0
      · rw [if_pos (by rw [z]; rfl), gd_t (by decide), cb_f fun q => and_0.mp z (q k (by omega))]
      · rw [if_neg (by omega)]
        refine ih (k + 1) (by omega) fun i hi => ?_
        by_cases q : i = k
        · rw [q]
          exact Classical.byContradiction fun y => z (and_0.mpr y)
        · exact R i (by omega)
  rw [E_M_doAll]
  exact main n 0 (by omega) fun i hi => by omega
