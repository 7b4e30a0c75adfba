/-! THE PURE PART, least: both searches find the same set -/
theorem mrN_0 : ∀ k, mrN 0 k = 0 := by
  intro k
  induction k with
  | zero => rfl
  | succ k ih =>
    show 2 * mrN 0 k + 0 / 2 ^ k % 2 = 0
    rw [ih, Nat.zero_div]
theorem mrN_pos {n s : Nat} (hs : s < 2 ^ n) (s0 : 0 < s) : 0 < mrN s n := by
  refine Nat.pos_of_ne_zero fun z => ?_
  have := mr_mr hs
  rw [z, mrN_0] at this
  omega
theorem pcn_14 {n s : Nat} (hn : n ≤ 14) (hs : s < 2 ^ n) : pcn 14 (mrN s n) = pcn 14 s := by
  have a := pcn_ge (x := mrN s n) (14 - n) n (mrN_lt s n)
  have b := pcn_ge (x := s) (14 - n) n hs
  rw [show n + (14 - n) = 14 by omega] at a b
  rw [a, b, pcn_mr]
theorem pick_eq {n bc br : Nat} (hn : n ≤ 14) {Cv Dv : Nat → Prop} (eqv : ∀ s, s < 2 ^ n → (Dv s ↔ Cv (mrN s n))) (bc0 : 0 < bc) (br0 : 0 < br) (bc1 : bc < 2 ^ n) (br1 : br < 2 ^ n) (cC : Cv bc) (dR : Dv br) (C : ∀ s, 0 < s → s < 2 ^ n → Cv s → pcn 14 bc < pcn 14 s ∨ (pcn 14 bc = pcn 14 s ∧ s ≤ bc)) (R : ∀ s, 0 < s → s < 2 ^ n → Dv s → pcn 14 br < pcn 14 s ∨ (pcn 14 br = pcn 14 s ∧ mrN s n ≤ mrN br n)) : br = mrN bc n ∧ pcn 14 br = pcn 14 bc := by
  have m1 := mrN_lt bc n
  have m2 := mrN_lt br n
  have d := (eqv (mrN bc n) m1).mpr (by rw [mr_mr bc1]; exact cC)
  have c := (eqv br br1).mp dR
  have r1 := R (mrN bc n) (mrN_pos bc1 bc0) m1 d
  have c1 := C (mrN br n) (mrN_pos br1 br0) m2 c
  rw [pcn_14 hn bc1, mr_mr bc1] at r1
  rw [pcn_14 hn br1] at c1
  have e : mrN br n = bc := by omega
  exact ⟨by rw [← e, mr_mr br1], by omega⟩
