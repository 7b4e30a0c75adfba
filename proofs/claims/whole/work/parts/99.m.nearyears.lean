/-! THE PURE PART, least: the reference's near years, row by row -/
theorem ifG (x_y9 y_y9 : Int) (A_y9 B_y9 : mR) : (if lcmp64 x_y9 y_y9 ≤ 0 then A_y9 else B_y9) = if x_y9 ≤ y_y9 then A_y9 else B_y9 := by
  simp only [Z_cmpG]
theorem bit_in {d_y9 j_y9 : Nat} {P_y9 : Nat → Prop} (B_y9 : ∀ b_y9, Nat.testBit d_y9 b_y9 = true ↔ b_y9 < j_y9 ∧ P_y9 b_y9) (p_y9 : P_y9 j_y9) (b_y9 : Nat) : Nat.testBit (d_y9 ||| 2 ^ j_y9) b_y9 = true ↔ b_y9 < j_y9 + 1 ∧ P_y9 b_y9 := by
  rw [Nat.testBit_or, Bool.or_eq_true, B_y9, Nat.testBit_two_pow, decide_eq_true_iff]
  constructor
  · rintro (⟨r1_y9, r2_y9⟩ | r_y9)
    · exact ⟨by omega, r2_y9⟩
    · rw [← r_y9]
      exact ⟨by omega, p_y9⟩
  · rintro ⟨r1_y9, r2_y9⟩
    by_cases q_y9 : j_y9 = b_y9
    · exact Or.inr q_y9
    · exact Or.inl ⟨by omega, r2_y9⟩
theorem bit_out {d_y9 j_y9 : Nat} {P_y9 : Nat → Prop} (B_y9 : ∀ b_y9, Nat.testBit d_y9 b_y9 = true ↔ b_y9 < j_y9 ∧ P_y9 b_y9) (p_y9 : ¬ P_y9 j_y9) (b_y9 : Nat) : Nat.testBit d_y9 b_y9 = true ↔ b_y9 < j_y9 + 1 ∧ P_y9 b_y9 := by
  rw [B_y9]
  constructor
  · rintro ⟨r1_y9, r2_y9⟩
    exact ⟨by omega, r2_y9⟩
  · rintro ⟨r1_y9, r2_y9⟩
    by_cases q_y9 : b_y9 = j_y9
    · rw [q_y9] at r2_y9
      exact absurd r2_y9 p_y9
    · exact ⟨by omega, r2_y9⟩
theorem bit_lt {d_y9 j_y9 : Nat} (e_y9 : d_y9 < 2 ^ j_y9) : d_y9 ||| 2 ^ j_y9 < 2 ^ (j_y9 + 1) ∧ d_y9 < 2 ^ (j_y9 + 1) := by
  have p_y9 : 2 ^ j_y9 < 2 ^ (j_y9 + 1) := by rw [Nat.pow_succ]; have := Nat.two_pow_pos j_y9; omega
  exact ⟨Nat.or_lt_two_pow (Nat.lt_trans e_y9 p_y9) p_y9, Nat.lt_trans e_y9 p_y9⟩
theorem R_nb8 {a_y9 y_y9 c_y9 : Int} {n_y9 k_y9 : Nat} (hn_y9 : n_y9 ≤ 14) (hk_y9 : k_y9 < n_y9) (y0_y9 : 1 ≤ y_y9) (y1_y9 : y_y9 + n_y9 ≤ 10000) {f_y9 : Int → Int} (fb : ∀ u_y9, 1 ≤ u_y9 → u_y9 < 10000 → 0 ≤ f_y9 u_y9 ∧ f_y9 u_y9 ≤ 1152921504606846976 ∧ (f_y9 u_y9 ≠ 1152921504606846976 → f_y9 u_y9 % 16384 ≤ 9999 ∧ f_y9 u_y9 / 16384 ≤ 989901)) : ∀ (m_y9 j_y9 d_y9 : Nat) (h_y9 : mH) (u7_y9 u8_y9 : mV), j_y9 + m_y9 = n_y9 → lay h_y9 → (∀ u_y9, 1 ≤ u_y9 → u_y9 ≤ 9999 → flu h_y9 8 u_y9 = gL (f_y9 u_y9)) → h_y9.M 50 (k_y9 : Int) = (d_y9 : Int) → d_y9 < 2 ^ j_y9 → (∀ b_y9, Nat.testBit d_y9 b_y9 = true ↔ b_y9 < j_y9 ∧ nea c_y9 f_y9 (y_y9 + (b_y9 : Int))) →
    ∃ (h1_y9 : mH) (e_y9 : Nat) (v7_y9 v8_y9 : mV), Rn kM_nearYears 8 [vO 11 9, vI a_y9, vI y_y9, vI (n_y9 : Int), vI c_y9, vI (k_y9 : Int), vI (j_y9 : Int), u7_y9, u8_y9] [] h_y9 = Rn kM_nearYears 1 [vO 11 9, vI a_y9, vI y_y9, vI (n_y9 : Int), vI c_y9, vI ((k_y9 : Int) + 1), vI (n_y9 : Int), v7_y9, v8_y9] [] h1_y9 ∧ Ew (fun b_y9 t_y9 => b_y9 = 50 ∧ t_y9 = (k_y9 : Int)) h_y9 h1_y9 ∧ h1_y9.M 50 (k_y9 : Int) = (e_y9 : Int) ∧ e_y9 < 2 ^ n_y9 ∧ ∀ b_y9, Nat.testBit e_y9 b_y9 = true ↔ b_y9 < n_y9 ∧ nea c_y9 f_y9 (y_y9 + (b_y9 : Int)) := by
  intro m_y9
  induction m_y9 with
  | zero =>
    intro j_y9 d_y9 h_y9 u7_y9 u8_y9 ej_y9 L_y9 S_y9 ed_y9 dl_y9 B_y9
    have : j_y9 = n_y9 := by omega
    subst this
    exact ⟨h_y9, d_y9, u7_y9, u8_y9, by rw [E_M_nearYears_8, if_neg (by omega), Z_wI (z := (k_y9 : Int) + 1) (by omega)], Ew.rf _ _, ed_y9, dl_y9, B_y9⟩
  | succ m_y9 ih_y9 =>
    intro j_y9 d_y9 h_y9 u7_y9 u8_y9 ej_y9 L_y9 S_y9 ed_y9 dl_y9 B_y9
    have p14_y9 : 2 ^ (j_y9 + 1) ≤ 2 ^ 14 := Nat.pow_le_pow_right (by decide) (by omega)
    have bl_y9 := bit_lt dl_y9
    have pj_y9 : 2 ^ j_y9 < 2 ^ (j_y9 + 1) := by rw [Nat.pow_succ]; have := Nat.two_pow_pos j_y9; omega
    have w1_y9 : wI (wI (80008 + y_y9) + (j_y9 : Int)) = 80008 + y_y9 + (j_y9 : Int) := by rw [Z_wI (z := 80008 + y_y9) (by omega), Z_wI (by omega)]
    have val_y9 : h_y9.M 33 (80008 + y_y9 + (j_y9 : Int)) = gL (f_y9 (y_y9 + (j_y9 : Int))) := by
      have := S_y9 (y_y9 + (j_y9 : Int)) (by omega) (by omega)
      unfold flu at this
      rw [show 80008 + y_y9 + (j_y9 : Int) = 10001 * 8 + (y_y9 + (j_y9 : Int)) by omega]
      exact this
    have fj_y9 := fb (y_y9 + (j_y9 : Int)) (by omega) (by omega)
    have L1_y9 : ∀ v_y9, lay (h_y9.set 50 (k_y9 : Int) v_y9) := fun v_y9 => L_y9.st v_y9 (layA_n _ (by decide) (by decide))
    have S1_y9 : ∀ v_y9 u_y9, 1 ≤ u_y9 → u_y9 ≤ 9999 → flu (h_y9.set 50 (k_y9 : Int) v_y9) 8 u_y9 = gL (f_y9 u_y9) := fun v_y9 u_y9 u0_y9 u1_y9 => by
      have := S_y9 u_y9 u0_y9 u1_y9
      unfold flu at this ⊢
      rw [Z_Mn (by omega)]
      exact this
    have x1_y9 : ∀ v_y9, Ew (fun b_y9 t_y9 => b_y9 = 50 ∧ t_y9 = (k_y9 : Int)) h_y9 (h_y9.set 50 (k_y9 : Int) v_y9) := fun v_y9 => Ew.st h_y9 v_y9 ⟨rfl, rfl⟩
    have keep_y9 : ¬ nea c_y9 f_y9 (y_y9 + (j_y9 : Int)) → ∀ u7_y9 u8_y9 : mV, ∃ (h1_y9 : mH) (e_y9 : Nat) (v7_y9 v8_y9 : mV), Rn kM_nearYears 8 [vO 11 9, vI a_y9, vI y_y9, vI (n_y9 : Int), vI c_y9, vI (k_y9 : Int), vI ((j_y9 : Int) + 1), u7_y9, u8_y9] [] (h_y9.set 50 (k_y9 : Int) (d_y9 : Int)) = Rn kM_nearYears 1 [vO 11 9, vI a_y9, vI y_y9, vI (n_y9 : Int), vI c_y9, vI ((k_y9 : Int) + 1), vI (n_y9 : Int), v7_y9, v8_y9] [] h1_y9 ∧ Ew (fun b_y9 t_y9 => b_y9 = 50 ∧ t_y9 = (k_y9 : Int)) h_y9 h1_y9 ∧ h1_y9.M 50 (k_y9 : Int) = (e_y9 : Int) ∧ e_y9 < 2 ^ n_y9 ∧ ∀ b_y9, Nat.testBit e_y9 b_y9 = true ↔ b_y9 < n_y9 ∧ nea c_y9 f_y9 (y_y9 + (b_y9 : Int)) := fun no_y9 u7_y9 u8_y9 => by
      obtain ⟨h1_y9, e_y9, v7_y9, v8_y9, r_y9, x2_y9, r1_y9, r2_y9, r3_y9⟩ := ih_y9 (j_y9 + 1) d_y9 (h_y9.set 50 (k_y9 : Int) (d_y9 : Int)) u7_y9 u8_y9 (by omega) (L1_y9 _) (S1_y9 _) (Z_Mt ..) bl_y9.2 (bit_out (P_y9 := fun b_y9 => nea c_y9 f_y9 (y_y9 + (b_y9 : Int))) B_y9 no_y9)
      exact ⟨h1_y9, e_y9, v7_y9, v8_y9, r_y9, (x1_y9 _).tr x2_y9, r1_y9, r2_y9, r3_y9⟩
    rw [E_M_nearYears_8, if_pos (by omega), w1_y9, lm30 L_y9, ln33 L_y9, gd_t (by omega), lm55 L_y9, ln50 L_y9, gd_t (by omega), gd_t (by omega), gd_t (by omega), gd_t (by omega), val_y9, ifL, ed_y9, Z_wI (z := (j_y9 : Int) + 1) (by omega), Z_or0 (by omega), shl_1 (by omega), Z_orN _ _ (by omega) (by omega)]
    by_cases q_y9 : f_y9 (y_y9 + (j_y9 : Int)) = 1152921504606846976
    · rw [if_neg (by rw [q_y9, gL_F]; omega), Z_hl]
      exact keep_y9 (fun z_y9 => z_y9.1 q_y9) _ _
    · have fc_y9 := fj_y9.2.2 q_y9
      have gv_y9 := gL_n q_y9
      have dv : wL (Int.tdiv (gL (f_y9 (y_y9 + (j_y9 : Int)))) 100000) = f_y9 (y_y9 + (j_y9 : Int)) / 16384 := by
        rw [Z_tdiv (by omega), Z_wL (by omega)]
        omega
      rw [if_pos (by omega), dv, ifG]
      by_cases z_y9 : f_y9 (y_y9 + (j_y9 : Int)) / 16384 ≤ c_y9
      · rw [if_pos z_y9, Z_hl]
        obtain ⟨h1_y9, e_y9, v7_y9, v8_y9, r_y9, x2_y9, r1_y9, r2_y9, r3_y9⟩ := ih_y9 (j_y9 + 1) (d_y9 ||| 2 ^ j_y9) (h_y9.set 50 (k_y9 : Int) ((d_y9 ||| 2 ^ j_y9 : Nat) : Int)) (vL (gL (f_y9 (y_y9 + (j_y9 : Int))))) vU (by omega) (L1_y9 _) (S1_y9 _) (Z_Mt ..) bl_y9.1 (bit_in (P_y9 := fun b_y9 => nea c_y9 f_y9 (y_y9 + (b_y9 : Int))) B_y9 ⟨q_y9, z_y9⟩)
        exact ⟨h1_y9, e_y9, v7_y9, v8_y9, r_y9, (x1_y9 _).tr x2_y9, r1_y9, r2_y9, r3_y9⟩
      · rw [if_neg z_y9, Z_hl]
        exact keep_y9 (fun t_y9 => z_y9 t_y9.2) _ _
theorem fq_z {h_y9 : mH} (a_y9 : h_y9.M 9 34 = 0) (b_y9 : h_y9.M 9 35 = 0) (z_y9 : ∀ u_y9, 1 ≤ u_y9 → u_y9 ≤ 9999 → h_y9.M 36 u_y9 = 0) : fq h_y9 := by
  refine ⟨by rw [a_y9]; decide, ?_, fun i_y9 i0_y9 i1_y9 => ?_, fun i_y9 j_y9 i0_y9 ij_y9 j1_y9 => ?_, fun u_y9 u0_y9 u1_y9 => Or.inl (z_y9 u_y9 u0_y9 u1_y9)⟩
  · rw [b_y9]
    exact cn_0 _ _ fun i_y9 i0_y9 i1_y9 => by rw [z_y9 i_y9 i0_y9 (by omega)]; decide
  · rw [b_y9] at i1_y9
    omega
  · rw [b_y9] at j1_y9
    omega
/-- what a row of near years writes -/
def WNr : Int → Int → Prop := fun b_y9 t_y9 => WFl 8 b_y9 t_y9 ∨ b_y9 = 50
theorem WNr_lay {b_y9 t_y9 : Int} (w_y9 : WNr b_y9 t_y9) : layA b_y9 t_y9 = 0 := by
  rcases w_y9 with w_y9 | w_y9
  · exact WFl_lay w_y9
  · rw [w_y9]
    exact layA_n _ (by decide) (by decide)
theorem WNy_fl {b_y9 t_y9 : Int} (w_y9 : WNy b_y9 t_y9) : WFl 8 b_y9 t_y9 := by
  unfold WNy at w_y9
  unfold WFl
  omega
theorem mst.nr {h_y9 h1_y9 : mH} {a_y9 : Int} {H_y9 : HD} (S_y9 : mst h_y9 a_y9 H_y9) (x_y9 : Ew WNr h_y9 h1_y9) : mst h1_y9 a_y9 H_y9 := ⟨(x_y9.2 23 a_y9 fun y_y9 => by unfold WNr WFl at y_y9; omega).trans S_y9.1, fun i_y9 i0_y9 i1_y9 => ⟨(x_y9.2 24 _ fun y_y9 => by unfold WNr WFl at y_y9; omega).trans (S_y9.2 i_y9 i0_y9 i1_y9).1, (x_y9.2 25 _ fun y_y9 => by unfold WNr WFl at y_y9; omega).trans (S_y9.2 i_y9 i0_y9 i1_y9).2⟩⟩
theorem R_nrow {a_y9 y_y9 c_y9 : Int} {n_y9 k_y9 : Nat} (a0_y9 : 0 ≤ a_y9) (a1_y9 : a_y9 < 9) {H_y9 : HD} (V_y9 : hdv H_y9) (hn_y9 : n_y9 ≤ 14) (hk_y9 : k_y9 < n_y9) (y0_y9 : 1 ≤ y_y9) (y1_y9 : y_y9 + n_y9 ≤ 10000) {f_y9 nx_y9 en_y9 : Int → Int} (F_y9 : rsp 10000 (2 * H_y9 3 0) (stO H_y9) (stC H_y9) (fun t_y9 => t_y9 = y_y9 + (k_y9 : Int)) f_y9 nx_y9 en_y9) {h_y9 : mH} (u6_y9 u7_y9 u8_y9 : mV) (L_y9 : lay h_y9) (S_y9 : mst h_y9 a_y9 H_y9) :
    ∃ (h1_y9 : mH) (e_y9 : Nat) (v6_y9 v7_y9 v8_y9 : mV), Rn kM_nearYears 1 [vO 11 9, vI a_y9, vI y_y9, vI (n_y9 : Int), vI c_y9, vI (k_y9 : Int), u6_y9, u7_y9, u8_y9] [] h_y9 = Rn kM_nearYears 1 [vO 11 9, vI a_y9, vI y_y9, vI (n_y9 : Int), vI c_y9, vI ((k_y9 : Int) + 1), v6_y9, v7_y9, v8_y9] [] h1_y9 ∧ Ew (fun b_y9 t_y9 => WFl 8 b_y9 t_y9 ∨ (b_y9 = 50 ∧ t_y9 = (k_y9 : Int))) h_y9 h1_y9 ∧ wz h1_y9 ∧ h1_y9.M 50 (k_y9 : Int) = (e_y9 : Int) ∧ e_y9 < 2 ^ n_y9 ∧ ∀ b_y9, Nat.testBit e_y9 b_y9 = true ↔ b_y9 < n_y9 ∧ nea c_y9 f_y9 (y_y9 + (b_y9 : Int)) := by
  have K_y9 := st_ok V_y9
  have BL_y9 := rsp_lbo F_y9 (by decide)
  have x2_y9 : Ew (WFl 8) h_y9 ((h_y9.set 9 34 0).set 9 35 0) := (Ew.st (W := WFl 8) h_y9 _ (Or.inl ⟨rfl, Or.inl rfl⟩)).tr (Ew.st _ _ (Or.inl ⟨rfl, Or.inr rfl⟩))
  have e34_y9 : ((h_y9.set 9 34 0).set 9 35 0).M 9 34 = 0 := by rw [Z_Mn (by omega), Z_Mt]
  have e35_y9 : ((h_y9.set 9 34 0).set 9 35 0).M 9 35 = 0 := Z_Mt ..
  have r1_y9 : Rn kM_nearYears 1 [vO 11 9, vI a_y9, vI y_y9, vI (n_y9 : Int), vI c_y9, vI (k_y9 : Int), u6_y9, u7_y9, u8_y9] [] h_y9 = Rn kM_nearYears 3 [vO 11 9, vI a_y9, vI y_y9, vI (n_y9 : Int), vI c_y9, vI (k_y9 : Int), vI 0, u7_y9, u8_y9] [] ((h_y9.set 9 34 0).set 9 35 0) := by
    rw [E_M_nearYears_1, if_pos (by omega), Z_hl, Z_hl]
  generalize (h_y9.set 9 34 0).set 9 35 0 = h2_y9 at x2_y9 e34_y9 e35_y9 r1_y9
  have L2_y9 := L_y9.ew x2_y9 fun _ _ => WFl_lay
  obtain ⟨h3_y9, r3_y9, x3_y9, A3_y9⟩ := R_ny3 (a := a_y9) (x2 := y_y9) (x3 := (n_y9 : Int)) (x4 := c_y9) (x5 := (k_y9 : Int)) u7_y9 u8_y9 10001 0 h2_y9 (by decide) (by decide) L2_y9 (fun u_y9 u0_y9 u1_y9 => by omega)
  have x3q_y9 : Ew (WFl 8) h2_y9 h3_y9 := x3_y9.mono fun _ _ => WNy_fl
  have L3_y9 := L2_y9.ew x3q_y9 fun _ _ => WFl_lay
  have x4_y9 : Ew (WFl 8) h3_y9 (h3_y9.set 33 (80008 + y_y9 + (k_y9 : Int)) 0) := Ew.st h3_y9 _ (by unfold WFl; omega)
  have g4_y9 : ∀ u_y9, flu (h3_y9.set 33 (80008 + y_y9 + (k_y9 : Int)) 0) 8 u_y9 = if u_y9 = y_y9 + (k_y9 : Int) then 0 else flu h3_y9 8 u_y9 := fun u_y9 => by
    show (h3_y9.set 33 (80008 + y_y9 + (k_y9 : Int)) 0).M 33 (10001 * 8 + u_y9) = _
    rw [Z_Ms]
    by_cases q_y9 : u_y9 = y_y9 + (k_y9 : Int)
    · rw [if_pos ⟨rfl, by omega⟩, if_pos q_y9]
    · rw [if_neg (by omega), if_neg q_y9]
      rfl
  have g36_y9 : ∀ u_y9, (h3_y9.set 33 (80008 + y_y9 + (k_y9 : Int)) 0).M 36 u_y9 = h3_y9.M 36 u_y9 := fun u_y9 => Z_Mn (by omega)
  have g34_y9 : (h3_y9.set 33 (80008 + y_y9 + (k_y9 : Int)) 0).M 9 34 = 0 := (Z_Mn (by omega)).trans ((x3_y9.2 9 34 fun w_y9 => by unfold WNy at w_y9; omega).trans e34_y9)
  have g35_y9 : (h3_y9.set 33 (80008 + y_y9 + (k_y9 : Int)) 0).M 9 35 = 0 := (Z_Mn (by omega)).trans ((x3_y9.2 9 35 fun w_y9 => by unfold WNy at w_y9; omega).trans e35_y9)
  have r4_y9 : Rn kM_nearYears 3 [vO 11 9, vI a_y9, vI y_y9, vI (n_y9 : Int), vI c_y9, vI (k_y9 : Int), vI 10001, u7_y9, u8_y9] [] h3_y9 = bV (Cl kM_push [vO 11 9, vI (y_y9 + (k_y9 : Int))] (h3_y9.set 33 (80008 + y_y9 + (k_y9 : Int)) 0)) fun h2_y9 => bV (Cl kM_flood [vO 11 9, vI a_y9, vI 8] h2_y9) fun h3_y9 => gd ((0 : Int) ≤ (k_y9 : Int) ∧ (k_y9 : Int) < h3_y9.N (h3_y9.M 9 55) ∧ (h3_y9.M 9 55) ≠ 0) <| hl (h3_y9.set (h3_y9.M 9 55) (k_y9 : Int) 0) fun h4_y9 => Rn kM_nearYears 8 [vO 11 9, vI a_y9, vI y_y9, vI (n_y9 : Int), vI c_y9, vI (k_y9 : Int), vI 0, u7_y9, u8_y9] [] h4_y9 := by
    rw [E_M_nearYears_3, if_neg (by decide), Z_wI (z := 80008 + y_y9) (by omega), Z_wI (z := 80008 + y_y9 + (k_y9 : Int)) (by omega), lm30 L3_y9, ln33 L3_y9, gd_t (by omega), Z_hl, Z_wI (z := y_y9 + (k_y9 : Int)) (by omega)]
  generalize h3_y9.set 33 (80008 + y_y9 + (k_y9 : Int)) 0 = h4_y9 at x4_y9 g4_y9 g36_y9 g34_y9 g35_y9 r4_y9
  have L4_y9 := L3_y9.ew x4_y9 fun _ _ => WFl_lay
  have z4_y9 : ∀ u_y9, 1 ≤ u_y9 → u_y9 ≤ 9999 → h4_y9.M 36 u_y9 = 0 := fun u_y9 u0_y9 u1_y9 => (g36_y9 u_y9).trans (A3_y9 u_y9 u0_y9 u1_y9).2
  have Q4_y9 := fq_z g34_y9 g35_y9 z4_y9
  have pe_y9 := R_push L4_y9 (y := y_y9 + (k_y9 : Int)) (by omega) (by omega) Q4_y9
  rw [if_pos (z4_y9 _ (by omega) (by omega))] at pe_y9
  have Q5_y9 := fq_push Q4_y9 (y := y_y9 + (k_y9 : Int)) (by omega) (by omega) (z4_y9 _ (by omega) (by omega))
  have x5_y9 := psh_ew h4_y9 (y_y9 + (k_y9 : Int)) 8
  have p36_y9 : ∀ u_y9, 1 ≤ u_y9 → u_y9 ≤ 9999 → (psh h4_y9 (y_y9 + (k_y9 : Int))).M 36 u_y9 = if u_y9 = y_y9 + (k_y9 : Int) then 1 else 0 := fun u_y9 u0_y9 u1_y9 => by
    rw [psh_M, if_neg (by omega), if_neg (by omega)]
    by_cases q_y9 : u_y9 = y_y9 + (k_y9 : Int)
    · rw [if_pos ⟨rfl, q_y9⟩, if_pos q_y9]
    · rw [if_neg (by omega), if_neg q_y9]
      exact z4_y9 u_y9 u0_y9 u1_y9
  have pf_y9 : ∀ u_y9, 1 ≤ u_y9 → u_y9 ≤ 9999 → flu (psh h4_y9 (y_y9 + (k_y9 : Int))) 8 u_y9 = if u_y9 = y_y9 + (k_y9 : Int) then 0 else 1152921504606846976 := fun u_y9 u0_y9 u1_y9 => by
    show (psh h4_y9 (y_y9 + (k_y9 : Int))).M 33 (10001 * 8 + u_y9) = _
    rw [psh_M, if_neg (by omega), if_neg (by omega), if_neg (by omega)]
    have g_y9 := g4_y9 u_y9
    by_cases q_y9 : u_y9 = y_y9 + (k_y9 : Int)
    · rw [if_pos q_y9] at g_y9 ⊢
      exact g_y9
    · rw [if_neg q_y9] at g_y9 ⊢
      exact g_y9.trans (A3_y9 u_y9 u0_y9 u1_y9).1
  generalize psh h4_y9 (y_y9 + (k_y9 : Int)) = h5_y9 at pe_y9 Q5_y9 x5_y9 p36_y9 pf_y9
  have x25_y9 : Ew (WFl 8) h_y9 h5_y9 := ((x2_y9.tr x3q_y9).tr x4_y9).tr x5_y9
  have S5_y9 : mst h5_y9 a_y9 H_y9 := S_y9.ew x25_y9
  have F5_y9 : FI h5_y9 a_y9 8 H_y9 f_y9 := ⟨L4_y9.ew x5_y9 fun _ _ => WFl_lay, S5_y9, Q5_y9, fun u_y9 u0_y9 u1_y9 => by
    have b_y9 := BL_y9.1 u_y9 u0_y9 (by omega)
    have gl0_y9 := gL_le b_y9.1 fun z_y9 => (b_y9.2.2 z_y9).2
    rw [pf_y9 u_y9 u0_y9 u1_y9, p36_y9 u_y9 u0_y9 u1_y9]
    by_cases q_y9 : u_y9 = y_y9 + (k_y9 : Int)
    · have f0_y9 := (F_y9.2.1 u_y9 u0_y9 (by omega)).mpr q_y9
      rw [if_pos q_y9, if_pos q_y9, f0_y9]
      exact ⟨by decide, by decide, by decide, fun _ => by decide⟩
    · rw [if_neg q_y9, if_neg q_y9]
      exact ⟨gl0_y9, by decide, by decide, fun z_y9 => absurd z_y9 (by decide)⟩⟩
  have C5_y9 : clo h5_y9 8 H_y9 0 0 := fun u_y9 l_y9 u0_y9 u1_y9 nw_y9 nf_y9 => by
    rw [p36_y9 u_y9 u0_y9 u1_y9] at nw_y9
    rw [pf_y9 u_y9 u0_y9 u1_y9] at nf_y9
    by_cases q_y9 : u_y9 = y_y9 + (k_y9 : Int)
    · rw [if_pos q_y9] at nw_y9
      exact absurd rfl nw_y9
    · rw [if_neg q_y9] at nf_y9
      exact absurd rfl nf_y9
  have A5_y9 : fat h5_y9 8 H_y9 := fun u_y9 u0_y9 u1_y9 => by
    rw [pf_y9 u_y9 u0_y9 u1_y9]
    by_cases q_y9 : u_y9 = y_y9 + (k_y9 : Int)
    · rw [if_pos q_y9]
      exact Or.inl rfl
    · rw [if_neg q_y9]
      exact Or.inr (Or.inl rfl)
  obtain ⟨h6_y9, r6_y9, x6_y9, F6_y9, N6_y9, C6_y9, A6_y9, d6_y9⟩ := R_flood0 a0_y9 a1_y9 V_y9 (p := 8) (by decide) (by decide) BL_y9 (msr h5_y9 8).toNat h5_y9 vU vU F5_y9 C5_y9 A5_y9 (by omega)
  have L6_y9 : lay h6_y9 := F6_y9.1
  have Y6_y9 : ∀ u_y9, 1 ≤ u_y9 → u_y9 < 10000 → flu h6_y9 8 u_y9 = gL (f_y9 u_y9) := flu_eq K_y9 (by decide) F_y9 (fun u_y9 u0_y9 u1_y9 => ⟨(F6_y9.2.2.2 u_y9 u0_y9 (by omega)).1, (F6_y9.2.2.2 u_y9 u0_y9 (by omega)).2.1⟩) (fun u_y9 b_y9 t_y9 u0_y9 u1_y9 nf_y9 ⟨l_y9, l0_y9, l1_y9, eb_y9, ec_y9, nz⟩ => by
    have := C6_y9 u_y9 l_y9 u0_y9 (by omega) (N6_y9 u_y9 u0_y9 (by omega)) nf_y9 l0_y9 l1_y9 (fun z_y9 => by omega) (by rw [eb_y9]; exact nz)
    rw [eb_y9, ec_y9] at this
    exact this) (fun u_y9 u0_y9 u1_y9 z_y9 => by
    have q_y9 : u_y9 = y_y9 + (k_y9 : Int) := (F_y9.2.1 u_y9 u0_y9 u1_y9).mp z_y9
    have := d6_y9 u_y9 u0_y9 (by omega)
    rw [pf_y9 u_y9 u0_y9 (by omega), if_pos q_y9] at this
    exact this)
  have W6_y9 : wz h6_y9 := fun u_y9 u0_y9 u1_y9 => (F6_y9.2.2.1.2.2.2.2 u_y9 u0_y9 u1_y9).elim id fun z_y9 => absurd z_y9 (N6_y9 u_y9 u0_y9 u1_y9)
  obtain ⟨h8_y9, e_y9, v7_y9, v8_y9, r8_y9, x8_y9, q1_y9, q2_y9, q3_y9⟩ := R_nb8 (a_y9 := a_y9) (c_y9 := c_y9) hn_y9 hk_y9 y0_y9 y1_y9 BL_y9.1 n_y9 0 0 (h6_y9.set 50 (k_y9 : Int) 0) u7_y9 u8_y9 (by omega) (L6_y9.st 0 (layA_n _ (by decide) (by decide))) (fun u_y9 u0_y9 u1_y9 => by
    have := Y6_y9 u_y9 u0_y9 (by omega)
    unfold flu at this ⊢
    rw [Z_Mn (by omega)]
    exact this) (Z_Mt ..) (by decide) (fun b_y9 => by
    rw [Nat.zero_testBit]
    exact ⟨fun z_y9 => absurd z_y9 (by decide), fun z_y9 => by omega⟩)
  have x68_y9 : Ew (fun b_y9 t_y9 => b_y9 = 50 ∧ t_y9 = (k_y9 : Int)) h6_y9 h8_y9 := (Ew.st (W := fun b_y9 t_y9 => b_y9 = 50 ∧ t_y9 = (k_y9 : Int)) h6_y9 _ ⟨rfl, rfl⟩).tr x8_y9
  refine ⟨h8_y9, e_y9, vI (n_y9 : Int), v7_y9, v8_y9, ?_, ((x25_y9.tr x6_y9).mono fun _ _ => Or.inl).tr (x68_y9.mono fun _ _ => Or.inr), fun u_y9 u0_y9 u1_y9 => (x68_y9.2 36 u_y9 fun w_y9 => by omega).trans (W6_y9 u_y9 u0_y9 u1_y9), q1_y9, q2_y9, q3_y9⟩
  rw [r1_y9, r3_y9, r4_y9, pe_y9, Z_bV, E_M_flood, r6_y9, Z_bV, lm55 L6_y9, ln50 L6_y9, gd_t (by omega), Z_hl]
  exact r8_y9
theorem R_near {a_y9 y_y9 c_y9 : Int} {n_y9 : Nat} (a0_y9 : 0 ≤ a_y9) (a1_y9 : a_y9 < 9) {H_y9 : HD} (V_y9 : hdv H_y9) (hn_y9 : n_y9 ≤ 14) (y0_y9 : 1 ≤ y_y9) (y1_y9 : y_y9 + n_y9 ≤ 10000) {D_y9 : Int → Int → Int} (hD_y9 : ∀ u_y9, 1 ≤ u_y9 → u_y9 < 10000 → ∃ nx_y9 en_y9, rsp 10000 (2 * H_y9 3 0) (stO H_y9) (stC H_y9) (fun t_y9 => t_y9 = u_y9) (D_y9 u_y9) nx_y9 en_y9) : ∀ (m_y9 k_y9 : Nat) (h_y9 : mH) (u6_y9 u7_y9 u8_y9 : mV) (E_y9 : Nat → Nat), k_y9 + m_y9 = n_y9 → lay h_y9 → mst h_y9 a_y9 H_y9 → wz h_y9 → (∀ i_y9, E_y9 i_y9 < 2 ^ n_y9) → (∀ i_y9 : Nat, i_y9 < k_y9 → h_y9.M 50 (i_y9 : Int) = (E_y9 i_y9 : Int) ∧ ∀ b_y9, Nat.testBit (E_y9 i_y9) b_y9 = true ↔ b_y9 < n_y9 ∧ nea c_y9 (D_y9 (y_y9 + (i_y9 : Int))) (y_y9 + (b_y9 : Int))) →
    ∃ (h1_y9 : mH) (Eq_y9 : Nat → Nat), Rn kM_nearYears 1 [vO 11 9, vI a_y9, vI y_y9, vI (n_y9 : Int), vI c_y9, vI (k_y9 : Int), u6_y9, u7_y9, u8_y9] [] h_y9 = some (none, h1_y9) ∧ Ew WNr h_y9 h1_y9 ∧ wz h1_y9 ∧ (∀ i_y9, Eq_y9 i_y9 < 2 ^ n_y9) ∧ ∀ i_y9 : Nat, i_y9 < n_y9 → h1_y9.M 50 (i_y9 : Int) = (Eq_y9 i_y9 : Int) ∧ ∀ b_y9, Nat.testBit (Eq_y9 i_y9) b_y9 = true ↔ b_y9 < n_y9 ∧ nea c_y9 (D_y9 (y_y9 + (i_y9 : Int))) (y_y9 + (b_y9 : Int)) := by
  intro m_y9
  induction m_y9 with
  | zero =>
    intro k_y9 h_y9 u6_y9 u7_y9 u8_y9 E_y9 ek_y9 L_y9 S_y9 W_y9 EL_y9 I_y9
    have : k_y9 = n_y9 := by omega
    subst this
    exact ⟨h_y9, E_y9, by rw [E_M_nearYears_1, if_neg (by omega)], Ew.rf _ _, W_y9, EL_y9, I_y9⟩
  | succ m_y9 ih_y9 =>
    intro k_y9 h_y9 u6_y9 u7_y9 u8_y9 E_y9 ek_y9 L_y9 S_y9 W_y9 EL_y9 I_y9
    obtain ⟨nx_y9, en_y9, F_y9⟩ := hD_y9 (y_y9 + (k_y9 : Int)) (by omega) (by omega)
    obtain ⟨h1_y9, e_y9, v6_y9, v7_y9, v8_y9, r_y9, x_y9, W1_y9, q1_y9, q2_y9, q3_y9⟩ := R_nrow (c_y9 := c_y9) a0_y9 a1_y9 V_y9 hn_y9 (by omega : k_y9 < n_y9) y0_y9 y1_y9 F_y9 u6_y9 u7_y9 u8_y9 L_y9 S_y9
    have x1_y9 : Ew WNr h_y9 h1_y9 := x_y9.mono fun b_y9 t_y9 w_y9 => w_y9.elim Or.inl fun z_y9 => Or.inr z_y9.1
    obtain ⟨h2_y9, Eq_y9, r2_y9, x2_y9, W2_y9, EL2_y9, I2_y9⟩ := ih_y9 (k_y9 + 1) h1_y9 v6_y9 v7_y9 v8_y9 (fun i_y9 => if i_y9 = k_y9 then e_y9 else E_y9 i_y9) (by omega) (L_y9.ew x1_y9 fun _ _ => WNr_lay) (S_y9.nr x1_y9) W1_y9 (fun i_y9 => by
      show (if i_y9 = k_y9 then e_y9 else E_y9 i_y9) < 2 ^ n_y9
      by_cases q_y9 : i_y9 = k_y9
      · rw [if_pos q_y9]
        exact q2_y9
      · rw [if_neg q_y9]
        exact EL_y9 i_y9) (fun i_y9 hi_y9 => by
      show h1_y9.M 50 (i_y9 : Int) = ((if i_y9 = k_y9 then e_y9 else E_y9 i_y9 : Nat) : Int) ∧ ∀ b_y9, Nat.testBit (if i_y9 = k_y9 then e_y9 else E_y9 i_y9) b_y9 = true ↔ b_y9 < n_y9 ∧ nea c_y9 (D_y9 (y_y9 + (i_y9 : Int))) (y_y9 + (b_y9 : Int))
      by_cases q_y9 : i_y9 = k_y9
      · rw [if_pos q_y9, q_y9]
        exact ⟨q1_y9, q3_y9⟩
      · rw [if_neg q_y9]
        have := I_y9 i_y9 (by omega)
        refine ⟨(x_y9.2 50 (i_y9 : Int) fun w_y9 => ?_).trans this.1, this.2⟩
        rcases w_y9 with w_y9 | w_y9
        · unfold WFl at w_y9
          omega
        · omega)
    exact ⟨h2_y9, Eq_y9, r_y9.trans r2_y9, x1_y9.tr x2_y9, W2_y9, EL2_y9, I2_y9⟩
