/-! THE PURE PART, least: ties between sets of one size -/
theorem Z_xorN (a b : Nat) (ha : a < 2147483648) (hb : b < 2147483648) : ixor (a : Int) (b : Int) = ((a ^^^ b : Nat) : Int) := by
  show (BitVec.ofInt 32 (a : Int) ^^^ BitVec.ofInt 32 (b : Int)).toInt = _
  rw [BitVec.ofInt_natCast, BitVec.ofInt_natCast]
  have l : a ^^^ b < 2 ^ 31 := Nat.xor_lt_two_pow (by omega) (by omega)
  have e : (BitVec.ofNat 32 a ^^^ BitVec.ofNat 32 b).toNat = a ^^^ b := by
    rw [BitVec.toNat_xor, BitVec.toNat_ofNat, BitVec.toNat_ofNat, Nat.mod_eq_of_lt (by omega), Nat.mod_eq_of_lt (by omega)]
  rw [BitVec.toInt_eq_toNat_of_lt (by rw [e]; omega), e]
theorem low_x {x d : Nat} (hx : x < 2147483648) (d0 : 0 < d) (d1 : d < 2147483648) : iand (x : Int) (wI (-(d : Int))) = ((x &&& (4294967296 - d) : Nat) : Int) := by
  rw [Z_wI (by omega)]
  show (BitVec.ofInt 32 (x : Int) &&& BitVec.ofInt 32 (-(d : Int))).toInt = _
  have e2 : (BitVec.ofInt 32 (-(d : Int))).toNat = 4294967296 - d := by
    rw [BitVec.toNat_ofInt]
    omega
  have l : x &&& (4294967296 - d) ≤ x := Nat.and_le_left
  have e : (BitVec.ofInt 32 (x : Int) &&& BitVec.ofInt 32 (-(d : Int))).toNat = x &&& (4294967296 - d) := by
    rw [BitVec.toNat_and, e2, BitVec.ofInt_natCast, BitVec.toNat_ofNat, Nat.mod_eq_of_lt (by omega)]
  rw [BitVec.toInt_eq_toNat_of_lt (by rw [e]; omega), e]
theorem tie_ok {n a b : Nat} (hn : n ≤ 14) (ha : a < 2 ^ n) (hb : b < 2 ^ n) : iand (iand (b : Int) (ixor (a : Int) (b : Int))) (wI (-(ixor (a : Int) (b : Int)))) = 0 ↔ ¬ mrN a n < mrN b n := by
  have p : 2 ^ n ≤ 2 ^ 14 := Nat.pow_le_pow_right (by decide) hn
  have dl : a ^^^ b < 2 ^ n := Nat.xor_lt_two_pow ha hb
  rw [Z_xorN a b (by omega) (by omega)]
  have al : b &&& (a ^^^ b) ≤ b := Nat.and_le_left
  rw [Z_andN b (a ^^^ b) (by omega) (by omega)]
  by_cases z : a ^^^ b = 0
  · have ab : a = b := Nat.eq_of_testBit_eq fun i => by
      have : Nat.testBit (a ^^^ b) i = Nat.testBit 0 i := congrArg (fun x => Nat.testBit x i) z
      rw [Nat.testBit_xor, Nat.zero_testBit] at this
      cases h1 : Nat.testBit a i <;> cases h2 : Nat.testBit b i <;> rw [h1, h2] at this <;> first | rfl | exact absurd this (by decide)
    rw [z, ab]
    refine ⟨fun _ => Nat.lt_irrefl _, fun _ => ?_⟩
    rw [Nat.and_zero]
    decide
  · have d0 : 0 < a ^^^ b := Nat.pos_of_ne_zero z
    rw [low_x (by omega) d0 (by omega), Nat.and_assoc]
    obtain ⟨j, ej, hj⟩ := low_eq d0 (Nat.lt_of_lt_of_le dl p)
    have ok : Nat.testBit (a ^^^ b) j = true ∧ ∀ i, i < j → Nat.testBit (a ^^^ b) i = false := by
      rcases hj with hj | hj
      · rw [hj]; exact lwb_ok 14 _ d0 (Nat.lt_of_lt_of_le dl p)
      · rw [hj]; exact lwb_ok 15 _ d0 (Nat.lt_of_lt_of_le dl (Nat.le_trans p (by decide)))
    rw [ej]
    have jn : j < n := by
      refine Classical.byContradiction fun q => ?_
      have pj : 2 ^ n ≤ 2 ^ j := Nat.pow_le_pow_right (by decide) (by omega)
      rw [Nat.testBit_lt_two_pow (Nat.lt_of_lt_of_le dl pj)] at ok
      exact absurd ok.1 (by decide)
    have e1 := ok.1
    rw [Nat.testBit_xor] at e1
    have eb : ∀ i, i < j → Nat.testBit a i = Nat.testBit b i := fun i hi => by
      have := ok.2 i hi
      rw [Nat.testBit_xor] at this
      cases h1 : Nat.testBit a i <;> cases h2 : Nat.testBit b i <;> rw [h1, h2] at this <;> first | rfl | exact absurd this (by decide)
    have pj : 0 < 2 ^ j := Nat.two_pow_pos j
    cases h2 : Nat.testBit b j
    · have h1 : Nat.testBit a j = true := by
        cases h1 : Nat.testBit a j
        · rw [h1, h2] at e1; exact absurd e1 (by decide)
        · rfl
      have := mr_lt jn h2 h1 fun i hi => (eb i hi).symm
      refine ⟨fun _ => by omega, fun _ => ?_⟩
      have zz : b &&& 2 ^ j = 0 := Nat.eq_of_testBit_eq fun i => by
        rw [Nat.testBit_and, Nat.testBit_two_pow, Nat.zero_testBit]
        by_cases q : j = i
        · rw [← q, h2]
          rfl
        · rw [decide_eq_false q, Bool.and_false]
      rw [zz]
      rfl
    · have h1 : Nat.testBit a j = false := by
        cases h1 : Nat.testBit a j
        · rfl
        · rw [h1, h2] at e1; exact absurd e1 (by decide)
      have := mr_lt jn h1 h2 eb
      refine ⟨fun e => ?_, fun q => absurd this q⟩
      have zz : b &&& 2 ^ j = 0 := by omega
      have t : Nat.testBit (b &&& 2 ^ j) j = Nat.testBit 0 j := congrArg (fun x => Nat.testBit x j) zz
      rw [Nat.testBit_and, Nat.testBit_two_pow, h2, decide_eq_true rfl, Nat.zero_testBit] at t
      exact absurd t (by decide)
