/-! THE PURE PART, reading: what a text is, blanks, numbers; the model's reading (exact), the class's Reader -/
def tpo (T : Int → Int) (n : Int) : Prop := 0 ≤ n ∧ n ≤ 160 ∧ (∀ i, n ≤ i → T i = -1) ∧ (∀ i, 0 ≤ i → i < n → 1 ≤ T i ∧ T i ≤ 255)
def skp (T : Int → Int) : Nat → Int → Int
  | 0, a => a
  | n + 1, a => if T a = 32 then skp T n (a + 1) else a
def sk (T : Int → Int) (a : Int) : Int := skp T (161 - a).toNat a
theorem sk_no {T : Int → Int} {a : Int} (h : T a ≠ 32) : sk T a = a := by
  unfold sk
  cases (161 - a).toNat with
  | zero => rfl
  | succ m => exact if_neg h
theorem sk_yes {T : Int → Int} {n a : Int} (hT : tpo T n) (h : T a = 32) : sk T a = sk T (a + 1) := by
  obtain ⟨_, h2, h3, _⟩ := hT
  have ha : a < n := by
    rcases Int.lt_or_le a n with q | q
    · exact q
    · rw [h3 a q] at h; omega
  unfold sk
  rw [show (161 - a).toNat = (161 - (a + 1)).toNat + 1 by omega]
  exact if_pos h
theorem sk_all {T : Int → Int} {n : Int} (hT : tpo T n) : ∀ (m : Nat) (a : Int), a + m = n → 0 ≤ a → a ≤ sk T a ∧ sk T a ≤ n ∧ T (sk T a) ≠ 32 ∧ sk T (sk T a) = sk T a := by
  intro m
  induction m with
  | zero =>
    intro a e h0
    have ht : T a = -1 := hT.2.2.1 a (by omega)
    have q : T a ≠ 32 := by omega
    rw [sk_no q]
    exact ⟨by omega, by omega, q, sk_no q⟩
  | succ m ih =>
    intro a e h0
    by_cases q : T a = 32
    · rw [sk_yes hT q]
      obtain ⟨h1, h2, h3, h4⟩ := ih (a + 1) (by omega) (by omega)
      exact ⟨by omega, h2, h3, h4⟩
    · rw [sk_no q]
      exact ⟨by omega, by omega, q, sk_no q⟩
theorem sk_b {T : Int → Int} {n : Int} (hT : tpo T n) {a : Int} (h0 : 0 ≤ a) (h : a ≤ n) : a ≤ sk T a ∧ sk T a ≤ n ∧ T (sk T a) ≠ 32 ∧ sk T (sk T a) = sk T a := sk_all hT (n - a).toNat a (by omega) h0
theorem tp_lt {T : Int → Int} {n : Int} (hT : tpo T n) {a : Int} (h : T a ≠ -1) : a < n := by
  rcases Int.lt_or_le a n with q | q
  · exact q
  · exact absurd (hT.2.2.1 a q) h
theorem tp_le {T : Int → Int} {n : Int} (hT : tpo T n) {a : Int} (h : 0 ≤ a) : -1 ≤ T a ∧ T a ≤ 255 ∧ T a ≠ 0 := by
  rcases Int.lt_or_le a n with q | q
  · have := hT.2.2.2 a h q; omega
  · have := hT.2.2.1 a q; omega
def dgs (T : Int → Int) : Nat → Int → Int → Int × Int
  | 0, a, v => (a, v)
  | n + 1, a, v => if 48 ≤ T a ∧ T a ≤ 57 then dgs T n (a + 1) (10 * v + T a - 48) else (a, v)
theorem dgs_z (T : Int → Int) (a v : Int) : dgs T 0 a v = (a, v) := rfl
theorem dgs_s (T : Int → Int) (n : Nat) (a v : Int) : dgs T (n + 1) a v = if 48 ≤ T a ∧ T a ≤ 57 then dgs T n (a + 1) (10 * v + T a - 48) else (a, v) := rfl
theorem dgs_b {T : Int → Int} {n : Int} (hT : tpo T n) : ∀ (m : Nat) (a v : Int), 0 ≤ a → a ≤ n → 0 ≤ v → a ≤ (dgs T m a v).1 ∧ (dgs T m a v).1 ≤ n ∧ (dgs T m a v).1 ≤ a + m ∧ 0 ≤ (dgs T m a v).2 ∧ ((dgs T m a v).1 < a + m → ¬ (48 ≤ T (dgs T m a v).1 ∧ T (dgs T m a v).1 ≤ 57)) := by
  intro m
  induction m with
  | zero => intro a v h0 h1 h2; rw [dgs_z]; exact ⟨by omega, by omega, by omega, by omega, fun q => by omega⟩
  | succ m ih =>
    intro a v h0 h1 h2
    rw [dgs_s]
    by_cases q : 48 ≤ T a ∧ T a ≤ 57
    · rw [if_pos q]
      have l := tp_lt hT (a := a) (by omega)
      obtain ⟨r1, r2, r3, r4, r5⟩ := ih (a + 1) (10 * v + T a - 48) (by omega) (by omega) (by omega)
      exact ⟨by omega, by omega, by omega, by omega, fun z => r5 (by omega)⟩
    · rw [if_neg q]
      exact ⟨by omega, by omega, by omega, by omega, fun _ => q⟩
theorem dgs_v {T : Int → Int} : ∀ (m : Nat) (a v c : Int), 0 ≤ v → v < c → (dgs T m a v).2 < c * 10 ^ m := by
  intro m
  induction m with
  | zero => intro a v c h0 h1; rw [dgs_z]; simp only [Int.pow_zero]; omega
  | succ m ih =>
    intro a v c h0 h1
    rw [dgs_s]
    have p : (1 : Int) ≤ 10 ^ m := by
      have : (0 : Int) < 10 ^ m := Int.pow_pos (by decide)
      omega
    split
    · have := ih (a + 1) (10 * v + T a - 48) (10 * c) (by omega) (by omega)
      rw [Int.pow_succ, Int.mul_comm (10 ^ m) 10, ← Int.mul_assoc, Int.mul_comm c 10]
      exact this
    · show v < c * 10 ^ (m + 1)
      rw [Int.pow_succ]
      have h2 : c * 1 ≤ c * (10 ^ m * 10) := Int.mul_le_mul_of_nonneg_left (by omega) (by omega)
      omega
/-- a number from a place on: what it is, where it ends, the fault -/
def nm (T : Int → Int) (lo hi a : Int) : Int × Int × Int :=
  if 48 ≤ T (sk T a) ∧ T (sk T a) ≤ 57 then
    if 48 ≤ T (dgs T 4 (sk T a) 0).1 ∧ T (dgs T 4 (sk T a) 0).1 ≤ 57 then ((dgs T 4 (sk T a) 0).2, (dgs T 4 (sk T a) 0).1, (dgs T 4 (sk T a) 0).1)
    else if lo ≤ (dgs T 4 (sk T a) 0).2 ∧ (dgs T 4 (sk T a) 0).2 ≤ hi then ((dgs T 4 (sk T a) 0).2, (dgs T 4 (sk T a) 0).1, -1)
    else ((dgs T 4 (sk T a) 0).2, (dgs T 4 (sk T a) 0).1, (dgs T 4 (sk T a) 0).1 - 1)
  else (lo, sk T a, sk T a)
theorem nm_b {T : Int → Int} {n : Int} (hT : tpo T n) {a lo hi : Int} (h0 : 0 ≤ a) (h1 : a ≤ n) (hlo : 0 ≤ lo ∧ lo ≤ 9999) : a ≤ (nm T lo hi a).2.1 ∧ (nm T lo hi a).2.1 ≤ n ∧ -1 ≤ (nm T lo hi a).2.2 ∧ (nm T lo hi a).2.2 ≤ n ∧ 0 ≤ (nm T lo hi a).1 ∧ (nm T lo hi a).1 ≤ 9999 ∧ ((nm T lo hi a).2.2 = -1 → lo ≤ (nm T lo hi a).1 ∧ (nm T lo hi a).1 ≤ hi ∧ a < (nm T lo hi a).2.1 ∧ ¬ (48 ≤ T (nm T lo hi a).2.1 ∧ T (nm T lo hi a).2.1 ≤ 57)) := by
  have s := sk_b hT h0 h1
  have d := dgs_b hT 4 (sk T a) 0 (by omega) (by omega) (by omega)
  have v := dgs_v (T := T) 4 (sk T a) 0 1 (by omega) (by omega)
  have e : (1 : Int) * 10 ^ 4 = 10000 := by decide
  unfold nm
  split
  · have dd : sk T a < (dgs T 4 (sk T a) 0).1 := by
      rcases Int.lt_or_le (sk T a) (dgs T 4 (sk T a) 0).1 with q | q
      · exact q
      · have e2 : (dgs T 4 (sk T a) 0).1 = sk T a := by omega
        have := d.2.2.2.2 (by omega)
        rw [e2] at this
        exact absurd (by assumption) this
    split
    · dsimp only
      exact ⟨by omega, by omega, by omega, by omega, by omega, by omega, fun q => by omega⟩
    · split
      · dsimp only
        exact ⟨by omega, by omega, by omega, by omega, by omega, by omega, fun q => ⟨by omega, by omega, by omega, by assumption⟩⟩
      · dsimp only
        exact ⟨by omega, by omega, by omega, by omega, by omega, by omega, fun q => by omega⟩
  · dsimp only
    exact ⟨by omega, by omega, by omega, by omega, by omega, by omega, fun q => by omega⟩
