/-! THE PURE PART, least: the class's sets, bit by bit -/
theorem or_bit (x_y9 b_y9 t_y9 : Nat) : Nat.testBit (x_y9 ||| 2 ^ b_y9) t_y9 = true ↔ Nat.testBit x_y9 t_y9 = true ∨ t_y9 = b_y9 := by
  rw [Nat.testBit_or, Bool.or_eq_true, Nat.testBit_two_pow, decide_eq_true_iff]
  exact ⟨fun r_y9 => r_y9.elim Or.inl fun z_y9 => Or.inr z_y9.symm, fun r_y9 => r_y9.elim Or.inl fun z_y9 => Or.inr z_y9.symm⟩
theorem or_in {x_y9 b_y9 n_y9 : Nat} (hx_y9 : x_y9 < 2 ^ n_y9) (hb_y9 : b_y9 < n_y9) : x_y9 ||| 2 ^ b_y9 < 2 ^ n_y9 := by
  have p_y9 : 2 ^ (b_y9 + 1) ≤ 2 ^ n_y9 := Nat.pow_le_pow_right (by decide) hb_y9
  have p1_y9 := Nat.two_pow_pos b_y9
  exact Nat.or_lt_two_pow hx_y9 (by rw [Nat.pow_succ] at p_y9; omega)
def pb2 (S_y9 : Nat → Nat) (a_y9 b_y9 : Nat) : Nat → Nat := fun t_y9 => if t_y9 = a_y9 then S_y9 a_y9 ||| 2 ^ b_y9 else S_y9 t_y9
theorem pb2_bit (S_y9 : Nat → Nat) (a_y9 b_y9 t_y9 s_y9 : Nat) : Nat.testBit (pb2 S_y9 a_y9 b_y9 t_y9) s_y9 = true ↔ Nat.testBit (S_y9 t_y9) s_y9 = true ∨ (t_y9 = a_y9 ∧ s_y9 = b_y9) := by
  unfold pb2
  by_cases q_y9 : t_y9 = a_y9
  · rw [if_pos q_y9, or_bit, q_y9]
    exact ⟨fun r_y9 => r_y9.elim Or.inl fun z_y9 => Or.inr ⟨rfl, z_y9⟩, fun r_y9 => r_y9.elim Or.inl fun z_y9 => Or.inr z_y9.2⟩
  · rw [if_neg q_y9]
    exact ⟨Or.inl, fun r_y9 => r_y9.elim id fun z_y9 => absurd z_y9.1 q_y9⟩
theorem pb2_in {S_y9 : Nat → Nat} {a_y9 b_y9 n_y9 : Nat} (hS_y9 : ∀ t_y9, S_y9 t_y9 < 2 ^ n_y9) (hb_y9 : b_y9 < n_y9) (t_y9 : Nat) : pb2 S_y9 a_y9 b_y9 t_y9 < 2 ^ n_y9 := by
  unfold pb2
  by_cases q_y9 : t_y9 = a_y9
  · rw [if_pos q_y9]
    exact or_in (hS_y9 a_y9) hb_y9
  · rw [if_neg q_y9]
    exact hS_y9 t_y9
def Qb (P_y9 : Nat → Nat → Prop) (i_y9 j_y9 a_y9 b_y9 : Nat) : Prop := P_y9 a_y9 b_y9 ∧ (i_y9 < a_y9 ∨ i_y9 < b_y9 ∨ (a_y9 = i_y9 ∧ j_y9 ≤ b_y9) ∨ (b_y9 = i_y9 ∧ j_y9 ≤ a_y9))
def Qo (P_y9 : Nat → Nat → Prop) (i_y9 a_y9 b_y9 : Nat) : Prop := P_y9 a_y9 b_y9 ∧ (i_y9 ≤ a_y9 ∨ i_y9 ≤ b_y9)
def sbs (n_y9 : Nat) (S_y9 : Nat → Nat) (Q_y9 : Nat → Nat → Prop) : Prop := (∀ a_y9, S_y9 a_y9 < 2 ^ n_y9) ∧ ∀ a_y9 b_y9, a_y9 < n_y9 → b_y9 < n_y9 → (Nat.testBit (S_y9 a_y9) b_y9 = true ↔ Q_y9 a_y9 b_y9)
theorem sbs.cg {n_y9 : Nat} {S_y9 : Nat → Nat} {Q_y9 Qq_y9 : Nat → Nat → Prop} (B_y9 : sbs n_y9 S_y9 Q_y9) (e_y9 : ∀ a_y9 b_y9, a_y9 < n_y9 → b_y9 < n_y9 → (Q_y9 a_y9 b_y9 ↔ Qq_y9 a_y9 b_y9)) : sbs n_y9 S_y9 Qq_y9 := ⟨B_y9.1, fun a_y9 b_y9 a0_y9 b0_y9 => (B_y9.2 a_y9 b_y9 a0_y9 b0_y9).trans (e_y9 a_y9 b_y9 a0_y9 b0_y9)⟩
theorem sbs_0 {n_y9 : Nat} (P_y9 : Nat → Nat → Prop) : sbs n_y9 (fun _ => 0) (Qo P_y9 n_y9) := ⟨fun _ => Nat.two_pow_pos n_y9, fun a_y9 b_y9 a0_y9 b0_y9 => by
  rw [Nat.zero_testBit]
  exact ⟨fun z_y9 => absurd z_y9 (by decide), fun z_y9 => by have := z_y9.2; omega⟩⟩
theorem sbs_own {n_y9 i_y9 : Nat} {S_y9 : Nat → Nat} {P_y9 : Nat → Nat → Prop} (B_y9 : sbs n_y9 S_y9 (Qo P_y9 (i_y9 + 1))) (hi_y9 : i_y9 < n_y9) (pi_y9 : P_y9 i_y9 i_y9) : sbs n_y9 (pb2 S_y9 i_y9 i_y9) (Qb P_y9 i_y9 i_y9) := ⟨pb2_in B_y9.1 hi_y9, fun a_y9 b_y9 a0_y9 b0_y9 => by
  rw [pb2_bit, B_y9.2 a_y9 b_y9 a0_y9 b0_y9]
  unfold Qo Qb
  constructor
  · rintro (⟨r1_y9, r2_y9⟩ | ⟨r1_y9, r2_y9⟩)
    · exact ⟨r1_y9, by omega⟩
    · rw [r1_y9, r2_y9]
      exact ⟨pi_y9, by omega⟩
  · rintro ⟨r1_y9, r2_y9⟩
    by_cases z_y9 : a_y9 = i_y9 ∧ b_y9 = i_y9
    · exact Or.inr z_y9
    · exact Or.inl ⟨r1_y9, by omega⟩⟩
theorem sbs_keep {n_y9 i_y9 j_y9 : Nat} {S_y9 : Nat → Nat} {P_y9 : Nat → Nat → Prop} (B_y9 : sbs n_y9 S_y9 (Qb P_y9 i_y9 (j_y9 + 1))) (no_y9 : ¬ P_y9 i_y9 j_y9) (noq_y9 : ¬ P_y9 j_y9 i_y9) : sbs n_y9 S_y9 (Qb P_y9 i_y9 j_y9) := B_y9.cg fun a_y9 b_y9 a0_y9 b0_y9 => by
  unfold Qb
  constructor
  · rintro ⟨r1_y9, r2_y9⟩
    exact ⟨r1_y9, by omega⟩
  · rintro ⟨r1_y9, r2_y9⟩
    refine ⟨r1_y9, ?_⟩
    by_cases z1_y9 : a_y9 = i_y9 ∧ b_y9 = j_y9
    · rw [z1_y9.1, z1_y9.2] at r1_y9
      exact absurd r1_y9 no_y9
    · by_cases z2_y9 : a_y9 = j_y9 ∧ b_y9 = i_y9
      · rw [z2_y9.1, z2_y9.2] at r1_y9
        exact absurd r1_y9 noq_y9
      · omega
theorem sbs_add {n_y9 i_y9 j_y9 : Nat} {S_y9 : Nat → Nat} {P_y9 : Nat → Nat → Prop} (B_y9 : sbs n_y9 S_y9 (Qb P_y9 i_y9 (j_y9 + 1))) (hi_y9 : i_y9 < n_y9) (hj_y9 : j_y9 < i_y9) (p_y9 : P_y9 i_y9 j_y9) (pq_y9 : P_y9 j_y9 i_y9) : sbs n_y9 (pb2 (pb2 S_y9 i_y9 j_y9) j_y9 i_y9) (Qb P_y9 i_y9 j_y9) := ⟨pb2_in (pb2_in B_y9.1 (by omega)) hi_y9, fun a_y9 b_y9 a0_y9 b0_y9 => by
  rw [pb2_bit, pb2_bit, B_y9.2 a_y9 b_y9 a0_y9 b0_y9]
  unfold Qb
  constructor
  · rintro ((⟨r1_y9, r2_y9⟩ | ⟨r1_y9, r2_y9⟩) | ⟨r1_y9, r2_y9⟩)
    · exact ⟨r1_y9, by omega⟩
    · rw [r1_y9, r2_y9]
      exact ⟨p_y9, by omega⟩
    · rw [r1_y9, r2_y9]
      exact ⟨pq_y9, by omega⟩
  · rintro ⟨r1_y9, r2_y9⟩
    by_cases z1_y9 : a_y9 = i_y9 ∧ b_y9 = j_y9
    · exact Or.inl (Or.inr z1_y9)
    · by_cases z2_y9 : a_y9 = j_y9 ∧ b_y9 = i_y9
      · exact Or.inr z2_y9
      · exact Or.inl (Or.inl ⟨r1_y9, by omega⟩)⟩
theorem sbs_end {n_y9 i_y9 : Nat} {S_y9 : Nat → Nat} {P_y9 : Nat → Nat → Prop} (B_y9 : sbs n_y9 S_y9 (Qb P_y9 i_y9 0)) : sbs n_y9 S_y9 (Qo P_y9 i_y9) := B_y9.cg fun a_y9 b_y9 a0_y9 b0_y9 => by
  unfold Qb Qo
  constructor
  · rintro ⟨r1_y9, r2_y9⟩
    exact ⟨r1_y9, by omega⟩
  · rintro ⟨r1_y9, r2_y9⟩
    exact ⟨r1_y9, by omega⟩
theorem sbs_none {n_y9 i_y9 : Nat} {S_y9 : Nat → Nat} {P_y9 : Nat → Nat → Prop} (B_y9 : sbs n_y9 S_y9 (Qb P_y9 i_y9 i_y9)) (no_y9 : ∀ j_y9, j_y9 < i_y9 → ¬ P_y9 i_y9 j_y9 ∧ ¬ P_y9 j_y9 i_y9) : sbs n_y9 S_y9 (Qo P_y9 i_y9) := B_y9.cg fun a_y9 b_y9 a0_y9 b0_y9 => by
  unfold Qb Qo
  constructor
  · rintro ⟨r1_y9, r2_y9⟩
    exact ⟨r1_y9, by omega⟩
  · rintro ⟨r1_y9, r2_y9⟩
    refine ⟨r1_y9, ?_⟩
    by_cases z1_y9 : a_y9 = i_y9 ∧ b_y9 < i_y9
    · rw [z1_y9.1] at r1_y9
      exact absurd r1_y9 (no_y9 b_y9 z1_y9.2).1
    · by_cases z2_y9 : b_y9 = i_y9 ∧ a_y9 < i_y9
      · rw [z2_y9.1] at r1_y9
        exact absurd r1_y9 (no_y9 a_y9 z2_y9.2).2
      · omega
/-- the class's array of sets -/
def ars (h_y9 : mH) (A_y9 : Int) (n_y9 : Nat) (S_y9 : Nat → Nat) : Prop := ∀ k_y9 : Nat, k_y9 < n_y9 → h_y9.M A_y9 (k_y9 : Int) = (S_y9 k_y9 : Int)
theorem ars.put {h_y9 : mH} {A_y9 : Int} {n_y9 : Nat} {S_y9 : Nat → Nat} (I_y9 : ars h_y9 A_y9 n_y9 S_y9) (a_y9 b_y9 : Nat) {v_y9 : Int} (e_y9 : v_y9 = ((S_y9 a_y9 ||| 2 ^ b_y9 : Nat) : Int)) : ars (h_y9.set A_y9 (a_y9 : Int) v_y9) A_y9 n_y9 (pb2 S_y9 a_y9 b_y9) := fun k_y9 hk_y9 => by
  unfold pb2
  by_cases q_y9 : k_y9 = a_y9
  · rw [if_pos q_y9, q_y9, Z_Mt, e_y9]
  · rw [if_neg q_y9, Z_Mn (by omega)]
    exact I_y9 k_y9 hk_y9
