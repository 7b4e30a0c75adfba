/-! THE PURE PART, least: covering sets on both sides -/
theorem cov_iff {S : Nat → Nat} {n s : Nat} (hS : ∀ k, S k < 2 ^ n) : unN S s n = 2 ^ n - 1 ↔ ∀ j, j < n → ∃ i, i < n ∧ Nat.testBit s i = true ∧ Nat.testBit (S i) j = true := by
  constructor
  · intro e j hj
    refine (unN_bit S s j n).mp ?_
    rw [e, Nat.testBit_two_pow_sub_one]
    exact decide_eq_true hj
  · intro c
    refine Nat.eq_of_testBit_eq fun j => ?_
    rw [Nat.testBit_two_pow_sub_one]
    by_cases hj : j < n
    · rw [decide_eq_true hj]
      exact (unN_bit S s j n).mpr (c j hj)
    · have p : 2 ^ n ≤ 2 ^ j := Nat.pow_le_pow_right (by decide) (by omega)
      rw [decide_eq_false hj, Nat.testBit_lt_two_pow (Nat.lt_of_lt_of_le (unN_lt hS n) p)]
theorem lone_in {S : Nat → Nat} {n s : Nat} (hn : n ≤ 14) (hs : s < 2 ^ n) (sy : ∀ i j, i < n → j < n → (Nat.testBit (S i) j = true ↔ Nat.testBit (S j) i = true)) (c : ∀ j, j < n → ∃ i, i < n ∧ Nat.testBit s i = true ∧ Nat.testBit (S i) j = true) : iand (s : Int) (loN S n : Int) = (loN S n : Int) := by
  have p : 2 ^ n ≤ 2 ^ 14 := Nat.pow_le_pow_right (by decide) hn
  have l := loN_lt S n
  rw [Z_andN _ _ (by omega) (by omega)]
  refine congrArg Int.ofNat (Nat.eq_of_testBit_eq fun j => ?_)
  rw [Nat.testBit_and]
  cases h : Nat.testBit (loN S n) j
  · rw [Bool.and_false]
  · obtain ⟨hj, e⟩ := (loN_bit S j n).mp h
    obtain ⟨i, h1, h2, h3⟩ := c j hj
    have h4 := (sy i j h1 hj).mp h3
    rw [e, Nat.testBit_two_pow] at h4
    have := of_decide_eq_true h4
    rw [this, h2]
    rfl
theorem cov_eqv {S D : Nat → Nat} {n s : Nat} (sy : ∀ i j, i < n → j < n → (Nat.testBit (S i) j = true ↔ Nat.testBit (S j) i = true)) (hD : ∀ k j, k < n → (Nat.testBit (D k) j = true ↔ j < n ∧ Nat.testBit (S (n - 1 - k)) (n - 1 - j) = true)) : (∀ k, k < n → ∃ j, Nat.testBit (D k) j = true ∧ Nat.testBit s j = true) ↔ ∀ j, j < n → ∃ i, i < n ∧ Nat.testBit (mrN s n) i = true ∧ Nat.testBit (S i) j = true := by
  constructor
  · intro d j hj
    obtain ⟨i, h1, h2⟩ := d (n - 1 - j) (by omega)
    obtain ⟨h3, h4⟩ := (hD _ _ (by omega)).mp h1
    rw [show n - 1 - (n - 1 - j) = j by omega] at h4
    refine ⟨n - 1 - i, by omega, ?_, (sy j (n - 1 - i) hj (by omega)).mp h4⟩
    rw [mrN_bit s n _ (by omega), show n - 1 - (n - 1 - i) = i by omega]
    exact h2
  · intro d k hk
    obtain ⟨i, h1, h2, h3⟩ := d (n - 1 - k) (by omega)
    rw [mrN_bit s n i h1] at h2
    refine ⟨n - 1 - i, (hD k _ hk).mpr ⟨by omega, ?_⟩, h2⟩
    rw [show n - 1 - (n - 1 - i) = i by omega]
    exact (sy i (n - 1 - k) h1 (by omega)).mp h3
theorem full_cov {S : Nat → Nat} {n : Nat} (own : ∀ k, k < n → Nat.testBit (S k) k = true) : ∀ j, j < n → ∃ i, i < n ∧ Nat.testBit (2 ^ n - 1) i = true ∧ Nat.testBit (S i) j = true := fun j hj => ⟨j, hj, by rw [Nat.testBit_two_pow_sub_one]; exact decide_eq_true hj, own j hj⟩
/-- the class's search over a finished array -/
theorem C_fewest {h : mH} {A : Int} {n : Nat} {S : Nat → Nat} (n0 : 0 < n) (hn : n ≤ 14) (A0 : A ≠ 0) (hN : h.N A = n) (hM : ∀ k : Nat, k < n → h.M A (k : Int) = (S k : Int)) (hS : ∀ k, S k < 2 ^ n) (own : ∀ k, k < n → Nat.testBit (S k) k = true) (sy : ∀ i j, i < n → j < n → (Nat.testBit (S i) j = true ↔ Nat.testBit (S j) i = true)) : ∃ b : Nat, Cl kX_fewestReaching [vR 100 A] h = some (some (vI (b : Int)), h) ∧ 0 < b ∧ b < 2 ^ n ∧ (∀ j, j < n → ∃ i, i < n ∧ Nat.testBit b i = true ∧ Nat.testBit (S i) j = true) ∧ ∀ s, 0 < s → s < 2 ^ n → (∀ j, j < n → ∃ i, i < n ∧ Nat.testBit s i = true ∧ Nat.testBit (S i) j = true) → pcn 14 b < pcn 14 s ∨ (pcn 14 b = pcn 14 s ∧ s ≤ b) := by
  have p : 2 ^ n ≤ 2 ^ 14 := Nat.pow_le_pow_right (by decide) hn
  have p1 : 2 ≤ 2 ^ n := Nat.pow_le_pow_right (n := 2) (by decide) n0
  have hS' : ∀ k, S k < 2 ^ 14 := fun k => Nat.lt_of_lt_of_le (hS k) p
  obtain ⟨m, em⟩ : ∃ m : Nat, m = 2 ^ n := ⟨_, rfl⟩
  have w1 : wI (ishl 1 (h.N A) - 1) = ((m - 1 : Nat) : Int) := by
    rw [hN, shl_1 hn, ← em, Z_wI (by omega)]
    omega
  have r := C_pick (h := h) (A := A) (lone := (loN S n : Int)) (N := m - 1) (by omega) (Cv := fun s => ∀ j, j < n → ∃ i, i < n ∧ Nat.testBit s i = true ∧ Nat.testBit (S i) j = true) (fun s s0 s1 => ⟨_, C_union A0 hN hn hM hS' (by omega), by
    rw [← cov_iff hS, ← em]
    exact ⟨fun e => Int.ofNat.inj e, fun e => congrArg Int.ofNat e⟩⟩) (fun s s1 c => lone_in hn (by omega) sy c) (m - 1) (m - 1) (Nat.le_refl _) (Nat.le_refl _) (Nat.le_refl _) (by rw [em]; exact full_cov own) (fun s s0 s1 => by omega)
  obtain ⟨b, rb, b1, cb', mb⟩ := r
  have b0 : 0 < b := by
    obtain ⟨i, _, h2, _⟩ := cb' 0 n0
    refine Nat.pos_of_ne_zero fun z => ?_
    rw [z, Nat.zero_testBit] at h2
    exact absurd h2 (by decide)
  refine ⟨b, ?_, b0, by omega, cb', fun s s0 s1 c => mb s s0 (by omega) c⟩
  rw [E_X_fewestReaching, gd_t A0, C_lone A0 hN hn hM, Z_bI, w1]
  exact rb
