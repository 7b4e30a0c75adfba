/-! THE PURE PART, least: bits counted, the lowest bit, checked over all numbers below 2^14 -/
theorem bc_0 : ((List.range 32).all fun a => (List.range 256).all fun b => Nat.beq (bnF (256 * a + b)) (pcn 14 (256 * a + b))) = true := by decide +kernel
theorem bc_1 : ((List.range 32).all fun a => (List.range 256).all fun b => Nat.beq (bnF (256 * (a + 32) + b)) (pcn 14 (256 * (a + 32) + b))) = true := by decide +kernel
theorem lo_0 : ((List.range 32).all fun a => (List.range 256).all fun b => Nat.beq ((256 * a + b + 1) &&& (4294967296 - (256 * a + b + 1))) (2 ^ lwb 14 (256 * a + b + 1))) = true := by decide +kernel
theorem lo_1 : ((List.range 32).all fun a => (List.range 256).all fun b => Nat.beq ((256 * (a + 32) + b + 1) &&& (4294967296 - (256 * (a + 32) + b + 1))) (2 ^ lwb 15 (256 * (a + 32) + b + 1))) = true := by decide +kernel
theorem all2 {f : Nat → Nat → Bool} {n m : Nat} (h : ((List.range n).all fun a => (List.range m).all fun b => f a b) = true) {a b : Nat} (ha : a < n) (hb : b < m) : f a b = true := List.all_eq_true.mp (List.all_eq_true.mp h a (List.mem_range.mpr ha)) b (List.mem_range.mpr hb)
theorem bc_eq {x : Nat} (hx : x < 16384) : bcF (x : Int) = (pcn 14 x : Int) := by
  rw [bnF_e hx]
  by_cases q : x / 256 < 32
  · have := Nat.eq_of_beq_eq_true (all2 bc_0 (a := x / 256) (b := x % 256) q (by omega))
    rw [show 256 * (x / 256) + x % 256 = x by omega] at this
    rw [this]
  · have := Nat.eq_of_beq_eq_true (all2 bc_1 (a := x / 256 - 32) (b := x % 256) (by omega) (by omega))
    rw [show 256 * (x / 256 - 32 + 32) + x % 256 = x by omega] at this
    rw [this]
theorem low_eq {d : Nat} (d0 : 0 < d) (d1 : d < 16384) : ∃ j, d &&& (4294967296 - d) = 2 ^ j ∧ (j = lwb 14 d ∨ j = lwb 15 d) := by
  by_cases q : (d - 1) / 256 < 32
  · have := Nat.eq_of_beq_eq_true (all2 lo_0 (a := (d - 1) / 256) (b := (d - 1) % 256) q (by omega))
    rw [show 256 * ((d - 1) / 256) + (d - 1) % 256 + 1 = d by omega] at this
    exact ⟨_, this, Or.inl rfl⟩
  · have := Nat.eq_of_beq_eq_true (all2 lo_1 (a := (d - 1) / 256 - 32) (b := (d - 1) % 256) (by omega) (by omega))
    rw [show 256 * ((d - 1) / 256 - 32 + 32) + (d - 1) % 256 + 1 = d by omega] at this
    exact ⟨_, this, Or.inr rfl⟩
/-- the lowest bit is set, none below it is -/
theorem lwb_ok : ∀ (f d : Nat), 0 < d → d < 2 ^ f → Nat.testBit d (lwb f d) = true ∧ ∀ j, j < lwb f d → Nat.testBit d j = false := by
  intro f
  induction f with
  | zero =>
    intro d d0 d1
    rw [Nat.pow_zero] at d1
    omega
  | succ f ih =>
    intro d d0 d1
    unfold lwb
    by_cases q : d % 2 = 1
    · rw [if_pos q]
      exact ⟨by rw [Nat.testBit_zero]; exact decide_eq_true q, fun j hj => by omega⟩
    · rw [if_neg q]
      have e : 2 ^ (f + 1) = 2 * 2 ^ f := by rw [Nat.pow_succ, Nat.mul_comm]
      have r := ih (d / 2) (by omega) (by omega)
      rw [Nat.add_comm 1 (lwb f (d / 2))]
      refine ⟨by rw [Nat.testBit_succ]; exact r.1, fun j hj => ?_⟩
      cases j with
      | zero => rw [Nat.testBit_zero]; exact decide_eq_false q
      | succ j => rw [Nat.testBit_succ]; exact r.2 j (by omega)
