/-! THE PURE PART, least: the class's array of sets is filled -/
def WRf (hp_y9 w_y9 A_y9 : Int) : Int → Int → Prop := fun b_y9 k_y9 => WFn hp_y9 w_y9 b_y9 k_y9 ∨ b_y9 = A_y9
theorem rdo.set {h_y9 : mH} {hp_y9 w_y9 u_y9 lst_y9 c_y9 : Int} {f_y9 : Int → Int} (I_y9 : rdo h_y9 hp_y9 w_y9 u_y9 lst_y9 c_y9 f_y9) {A_y9 : Int} (k_y9 v_y9 : Int) (a0_y9 : A_y9 < hp_y9 ∨ hp_y9 + 2 < A_y9) (a1_y9 : A_y9 < w_y9 ∨ w_y9 + 3 < A_y9) : rdo (h_y9.set A_y9 k_y9 v_y9) hp_y9 w_y9 u_y9 lst_y9 c_y9 f_y9 := by
  obtain ⟨G_y9, R_y9, ne_y9, b_y9⟩ := I_y9
  have e_y9 : (h_y9.set A_y9 k_y9 v_y9).M (w_y9 + 1) = h_y9.M (w_y9 + 1) := funext fun t_y9 => Z_Mn (by omega)
  refine ⟨G_y9.cg (fun b_y9 k_y9 b0_y9 b1_y9 => Z_Mn (by omega)) (fun _ _ _ => rfl), R_y9.cg (fun k_y9 => Z_Mn (by omega)) (fun _ _ _ => rfl), ?_, ?_⟩
  · rw [e_y9]
    exact ne_y9
  · rw [e_y9]
    exact b_y9
/-- what the loops stand on -/
def rfl0 (h_y9 : mH) (H_y9 : HD) (q_y9 hp_y9 w_y9 A_y9 n_y9 : Int) : Prop := chl h_y9 q_y9 ∧ chd h_y9 q_y9 H_y9 ∧ h_y9.M 1 18 = hp_y9 ∧ h_y9.M 1 19 = w_y9 ∧ h_y9.N A_y9 = n_y9 ∧ 56 < hp_y9 ∧ 56 < w_y9 ∧ 56 < q_y9 ∧ 56 < A_y9 ∧ hp_y9 + 2 < w_y9 ∧ (q_y9 + 11 < hp_y9 ∨ hp_y9 + 2 < q_y9) ∧ (q_y9 + 11 < w_y9 ∨ w_y9 + 3 < q_y9) ∧ (A_y9 < hp_y9 ∨ hp_y9 + 2 < A_y9) ∧ (A_y9 < w_y9 ∨ w_y9 + 3 < A_y9) ∧ (A_y9 < q_y9 ∨ q_y9 + 11 < A_y9)
theorem rfl0.ew {h_y9 h1_y9 : mH} {H_y9 : HD} {q_y9 hp_y9 w_y9 A_y9 n_y9 : Int} (I_y9 : rfl0 h_y9 H_y9 q_y9 hp_y9 w_y9 A_y9 n_y9) (x_y9 : Ew (WRf hp_y9 w_y9 A_y9) h_y9 h1_y9) : rfl0 h1_y9 H_y9 q_y9 hp_y9 w_y9 A_y9 n_y9 := by
  obtain ⟨C_y9, Dc_y9, e18_y9, e19_y9, eN_y9, r_y9⟩ := I_y9
  have rq_y9 := r_y9
  obtain ⟨p1_y9, p2_y9, p3_y9, p4_y9, p5_y9, p6_y9, p7_y9, p8_y9, p9_y9, p10_y9⟩ := rq_y9
  have out_y9 : ∀ b_y9 k_y9, q_y9 ≤ b_y9 → b_y9 ≤ q_y9 + 11 → ¬ WRf hp_y9 w_y9 A_y9 b_y9 k_y9 := fun b_y9 k_y9 b0_y9 b1_y9 t_y9 => by
    unfold WRf WFn at t_y9
    omega
  exact ⟨C_y9.cg (fun b_y9 k_y9 z_y9 => x_y9.2 b_y9 k_y9 (out_y9 b_y9 k_y9 (by unfold plc at z_y9; omega) (by unfold plc at z_y9; omega))) (fun b_y9 _ _ => by rw [x_y9.N]), Dc_y9.cg fun b_y9 k_y9 z_y9 => x_y9.2 b_y9 k_y9 (out_y9 b_y9 k_y9 (by omega) (by omega)), (x_y9.2 1 18 fun t_y9 => by unfold WRf WFn at t_y9; omega).trans e18_y9, (x_y9.2 1 19 fun t_y9 => by unfold WRf WFn at t_y9; omega).trans e19_y9, by rw [x_y9.N]; exact eN_y9, r_y9⟩
theorem D_rf9 {H_y9 : HD} {q_y9 hp_y9 w_y9 A_y9 y_y9 c_y9 lst_y9 : Int} {n_y9 i_y9 : Nat} (hn_y9 : n_y9 ≤ 14) (hi_y9 : i_y9 < n_y9) (ey_y9 : lst_y9 = y_y9 + n_y9 - 1) (y0_y9 : 1 ≤ y_y9) (y1_y9 : lst_y9 ≤ 9999) (c0_y9 : 0 ≤ c_y9) {P_y9 : Nat → Nat → Prop} {f_y9 : Int → Int} (pf_y9 : ∀ j_y9 : Nat, j_y9 < i_y9 → (nea c_y9 f_y9 (lst_y9 - (j_y9 : Int)) ↔ P_y9 i_y9 j_y9)) (ps_y9 : ∀ a_y9 b_y9, a_y9 < n_y9 → b_y9 < n_y9 → (P_y9 a_y9 b_y9 ↔ P_y9 b_y9 a_y9)) (u2_y9 u3_y9 : mV) : ∀ (j_y9 : Nat) (h_y9 : mH) (S_y9 : Nat → Nat) (u10_y9 : mV), j_y9 ≤ i_y9 → rfl0 h_y9 H_y9 q_y9 hp_y9 w_y9 A_y9 n_y9 → rdo h_y9 hp_y9 w_y9 (lst_y9 - (i_y9 : Int)) lst_y9 c_y9 f_y9 → ars h_y9 A_y9 n_y9 S_y9 → sbs n_y9 S_y9 (Qb P_y9 i_y9 j_y9) →
    ∃ (hq_y9 : mH) (Sq_y9 : Nat → Nat) (v8_y9 v9_y9 v10_y9 : mV), Rn kX_reachedFrom 9 [vO 10 1, vR 2 q_y9, u2_y9, u3_y9, vI c_y9, vR 100 A_y9, vI lst_y9, vI (i_y9 : Int), vI lst_y9, vI ((j_y9 : Int) - 1), u10_y9] [] h_y9 = Rn kX_reachedFrom 6 [vO 10 1, vR 2 q_y9, u2_y9, u3_y9, vI c_y9, vR 100 A_y9, vI lst_y9, vI ((i_y9 : Int) - 1), v8_y9, v9_y9, v10_y9] [] hq_y9 ∧ Ew (WRf hp_y9 w_y9 A_y9) h_y9 hq_y9 ∧ hph hq_y9 hp_y9 ∧ rwo hq_y9 w_y9 10000 ∧ ars hq_y9 A_y9 n_y9 Sq_y9 ∧ sbs n_y9 Sq_y9 (Qo P_y9 i_y9) := by
  intro j_y9
  induction j_y9 with
  | zero =>
    intro h_y9 S_y9 u10_y9 ji_y9 I_y9 T_y9 Ar_y9 B_y9
    exact ⟨h_y9, S_y9, vI lst_y9, vI (((0 : Nat) : Int) - 1), u10_y9, by rw [E_X_reachedFrom_9, if_pos (by omega), E_X_reachedFrom_16, Z_wI (z := (i_y9 : Int) + -1) (by omega), show (i_y9 : Int) + -1 = (i_y9 : Int) - 1 by omega], Ew.rf _ _, T_y9.1, T_y9.2.1, Ar_y9, sbs_end B_y9⟩
  | succ j_y9 ih_y9 =>
    intro h_y9 S_y9 u10_y9 ji_y9 I_y9 T_y9 Ar_y9 B_y9
    have Iq_y9 := I_y9
    obtain ⟨C_y9, Dc_y9, e18_y9, e19_y9, eN_y9, p1_y9, p2_y9, p3_y9, p4_y9, p5_y9, p6_y9, p7_y9, p8_y9, p9_y9, p10_y9⟩ := Iq_y9
    have R_y9 := T_y9.2.1
    have p14_y9 : 2 ^ n_y9 ≤ 2 ^ 14 := Nat.pow_le_pow_right (by decide) hn_y9
    have ej_y9 : ((j_y9 + 1 : Nat) : Int) - 1 = (j_y9 : Int) := by omega
    have bv_y9 := T_y9.2.2.2 (lst_y9 - (j_y9 : Int)) (by omega) (by omega)
    have nv_y9 := T_y9.2.2.1 (lst_y9 - (j_y9 : Int)) (by omega) (by omega)
    have pj_y9 := pf_y9 j_y9 (by omega)
    have w14_y9 : wI ((j_y9 : Int) + -1) = (j_y9 : Int) - 1 := by rw [Z_wI (by omega)]; omega
    have step_y9 : Rn kX_reachedFrom 9 [vO 10 1, vR 2 q_y9, u2_y9, u3_y9, vI c_y9, vR 100 A_y9, vI lst_y9, vI (i_y9 : Int), vI lst_y9, vI (((j_y9 + 1 : Nat) : Int) - 1), u10_y9] [] h_y9 = Rn kX_reachedFrom 12 [vO 10 1, vR 2 q_y9, u2_y9, u3_y9, vI c_y9, vR 100 A_y9, vI lst_y9, vI (i_y9 : Int), vI lst_y9, vI (j_y9 : Int), u10_y9] [vI (if h_y9.M (w_y9 + 1) (lst_y9 - (j_y9 : Int)) = 1152921504606846976 then -1 else h_y9.M (w_y9 + 1) (lst_y9 - (j_y9 : Int)) / 16384)] h_y9 := by
      rw [ej_y9, E_X_reachedFrom_9, if_neg (by omega), E_X_reachedFrom_10, Z_wI (z := lst_y9 - (j_y9 : Int)) (by omega), if_pos (by omega), E_X_reachedFrom_11, e19_y9, gd_t (by omega), Z_wI (z := lst_y9 - (j_y9 : Int)) (by omega), C_rwCost R_y9 (by omega) (by omega) bv_y9, Z_bI]
    have keep_y9 : ¬ P_y9 i_y9 j_y9 → ∀ u10_y9 : mV, ∃ (hq_y9 : mH) (Sq_y9 : Nat → Nat) (v8_y9 v9_y9 v10_y9 : mV), Rn kX_reachedFrom 15 [vO 10 1, vR 2 q_y9, u2_y9, u3_y9, vI c_y9, vR 100 A_y9, vI lst_y9, vI (i_y9 : Int), vI lst_y9, vI (j_y9 : Int), u10_y9] [] h_y9 = Rn kX_reachedFrom 6 [vO 10 1, vR 2 q_y9, u2_y9, u3_y9, vI c_y9, vR 100 A_y9, vI lst_y9, vI ((i_y9 : Int) - 1), v8_y9, v9_y9, v10_y9] [] hq_y9 ∧ Ew (WRf hp_y9 w_y9 A_y9) h_y9 hq_y9 ∧ hph hq_y9 hp_y9 ∧ rwo hq_y9 w_y9 10000 ∧ ars hq_y9 A_y9 n_y9 Sq_y9 ∧ sbs n_y9 Sq_y9 (Qo P_y9 i_y9) := fun no_y9 u10_y9 => by
      obtain ⟨hq_y9, Sq_y9, v8_y9, v9_y9, v10_y9, r_y9, x_y9, Gq_y9, Rq_y9, Aq_y9, Bq_y9⟩ := ih_y9 h_y9 S_y9 u10_y9 (by omega) I_y9 T_y9 Ar_y9 (sbs_keep B_y9 no_y9 fun z_y9 => no_y9 ((ps_y9 j_y9 i_y9 (by omega) hi_y9).mp z_y9))
      exact ⟨hq_y9, Sq_y9, v8_y9, v9_y9, v10_y9, by rw [E_X_reachedFrom_15, w14_y9]; exact r_y9, x_y9, Gq_y9, Rq_y9, Aq_y9, Bq_y9⟩
    rw [step_y9, E_X_reachedFrom_12]
    by_cases q1_y9 : h_y9.M (w_y9 + 1) (lst_y9 - (j_y9 : Int)) = 1152921504606846976
    · rw [if_pos q1_y9, if_pos rfl]
      exact keep_y9 (fun z_y9 => (nv_y9.mpr (pj_y9.mpr z_y9)).1 q1_y9) _
    · rw [if_neg q1_y9, if_neg (by omega), E_X_reachedFrom_13]
      by_cases q2_y9 : h_y9.M (w_y9 + 1) (lst_y9 - (j_y9 : Int)) / 16384 ≤ c_y9
      · have p_y9 : P_y9 i_y9 j_y9 := pj_y9.mp (nv_y9.mp ⟨q1_y9, q2_y9⟩)
        have pq_y9 : P_y9 j_y9 i_y9 := (ps_y9 i_y9 j_y9 hi_y9 (by omega)).mp p_y9
        have si_y9 := B_y9.1 i_y9
        have sj_y9 := B_y9.1 j_y9
        have A1_y9 := Ar_y9.put i_y9 j_y9 (v_y9 := ior (S_y9 i_y9 : Int) (ishl 1 (j_y9 : Int))) (by rw [shl_1 (by omega), Z_orN _ _ (by omega) (by have : 2 ^ j_y9 ≤ 2 ^ 14 := Nat.pow_le_pow_right (by decide) (by omega); omega)])
        have x1_y9 : Ew (WRf hp_y9 w_y9 A_y9) h_y9 (h_y9.set A_y9 (i_y9 : Int) (ior (S_y9 i_y9 : Int) (ishl 1 (j_y9 : Int)))) := Ew.st h_y9 _ (Or.inr rfl)
        have aj_y9 : (h_y9.set A_y9 (i_y9 : Int) (ior (S_y9 i_y9 : Int) (ishl 1 (j_y9 : Int)))).M A_y9 (j_y9 : Int) = (S_y9 j_y9 : Int) := (Z_Mn (by omega)).trans (Ar_y9 j_y9 (by omega))
        have T1_y9 := T_y9.set (A_y9 := A_y9) (i_y9 : Int) (ior (S_y9 i_y9 : Int) (ishl 1 (j_y9 : Int))) p8_y9 p9_y9
        have I1_y9 := I_y9.ew x1_y9
        have a14_y9 : Rn kX_reachedFrom 14 [vO 10 1, vR 2 q_y9, u2_y9, u3_y9, vI c_y9, vR 100 A_y9, vI lst_y9, vI (i_y9 : Int), vI lst_y9, vI (j_y9 : Int), vI (h_y9.M (w_y9 + 1) (lst_y9 - (j_y9 : Int)) / 16384)] [] h_y9 = Rn kX_reachedFrom 9 [vO 10 1, vR 2 q_y9, u2_y9, u3_y9, vI c_y9, vR 100 A_y9, vI lst_y9, vI (i_y9 : Int), vI lst_y9, vI ((j_y9 : Int) - 1), vI (h_y9.M (w_y9 + 1) (lst_y9 - (j_y9 : Int)) / 16384)] [] ((h_y9.set A_y9 (i_y9 : Int) (ior (S_y9 i_y9 : Int) (ishl 1 (j_y9 : Int)))).set A_y9 (j_y9 : Int) (ior (S_y9 j_y9 : Int) (ishl 1 (i_y9 : Int)))) := by
          rw [E_X_reachedFrom_14, eN_y9, gd_t (by omega), gd_t (by omega), Z_hl, Ar_y9 i_y9 hi_y9, Z_Ns, eN_y9, gd_t (by omega), gd_t (by omega), Z_hl, aj_y9, E_X_reachedFrom_15, w14_y9]
        generalize h_y9.set A_y9 (i_y9 : Int) (ior (S_y9 i_y9 : Int) (ishl 1 (j_y9 : Int))) = h1_y9 at A1_y9 x1_y9 aj_y9 T1_y9 I1_y9 a14_y9
        have A2_y9 := A1_y9.put j_y9 i_y9 (v_y9 := ior (S_y9 j_y9 : Int) (ishl 1 (i_y9 : Int))) (by
          have : pb2 S_y9 i_y9 j_y9 j_y9 = S_y9 j_y9 := by unfold pb2; rw [if_neg (by omega)]
          rw [this, shl_1 (by omega), Z_orN _ _ (by omega) (by have : 2 ^ i_y9 ≤ 2 ^ 14 := Nat.pow_le_pow_right (by decide) (by omega); omega)])
        have x2_y9 : Ew (WRf hp_y9 w_y9 A_y9) h1_y9 (h1_y9.set A_y9 (j_y9 : Int) (ior (S_y9 j_y9 : Int) (ishl 1 (i_y9 : Int)))) := Ew.st h1_y9 _ (Or.inr rfl)
        have T2_y9 := T1_y9.set (A_y9 := A_y9) (j_y9 : Int) (ior (S_y9 j_y9 : Int) (ishl 1 (i_y9 : Int))) p8_y9 p9_y9
        have I2_y9 := I1_y9.ew x2_y9
        obtain ⟨hq_y9, Sq_y9, v8_y9, v9_y9, v10_y9, r_y9, x_y9, Gq_y9, Rq_y9, Aq_y9, Bq_y9⟩ := ih_y9 _ _ (vI (h_y9.M (w_y9 + 1) (lst_y9 - (j_y9 : Int)) / 16384)) (by omega) I2_y9 T2_y9 A2_y9 (sbs_add B_y9 hi_y9 (by omega) p_y9 pq_y9)
        exact ⟨hq_y9, Sq_y9, v8_y9, v9_y9, v10_y9, by rw [if_pos q2_y9, a14_y9]; exact r_y9, (x1_y9.tr x2_y9).tr x_y9, Gq_y9, Rq_y9, Aq_y9, Bq_y9⟩
      · rw [if_neg q2_y9]
        exact keep_y9 (fun z_y9 => q2_y9 (nv_y9.mpr (pj_y9.mpr z_y9)).2) _
theorem D_rf6 {H_y9 : HD} (V_y9 : hdv H_y9) {q_y9 hp_y9 w_y9 A_y9 y_y9 c_y9 lst_y9 : Int} {n_y9 : Nat} (hn_y9 : n_y9 ≤ 14) (ey_y9 : lst_y9 = y_y9 + n_y9 - 1) (y0_y9 : 1 ≤ y_y9) (y1_y9 : lst_y9 ≤ 9999) (c0_y9 : 0 ≤ c_y9) {D_y9 : Int → Int → Int} (hD_y9 : ∀ u_y9, 1 ≤ u_y9 → u_y9 < 10000 → ∃ nx_y9 en_y9, rsp 10000 (2 * H_y9 3 0) (stO H_y9) (stC H_y9) (fun t_y9 => t_y9 = u_y9) (D_y9 u_y9) nx_y9 en_y9) (u2_y9 u3_y9 : mV) : ∀ (i_y9 : Nat) (h_y9 : mH) (S_y9 : Nat → Nat) (u8_y9 u9_y9 u10_y9 : mV), i_y9 ≤ n_y9 → rfl0 h_y9 H_y9 q_y9 hp_y9 w_y9 A_y9 n_y9 → hph h_y9 hp_y9 → rwo h_y9 w_y9 10000 → ars h_y9 A_y9 n_y9 S_y9 → sbs n_y9 S_y9 (Qo (fun a_y9 b_y9 => nea c_y9 (D_y9 (lst_y9 - (a_y9 : Int))) (lst_y9 - (b_y9 : Int))) i_y9) →
    ∃ (hq_y9 : mH) (Sq_y9 : Nat → Nat), Rn kX_reachedFrom 6 [vO 10 1, vR 2 q_y9, u2_y9, u3_y9, vI c_y9, vR 100 A_y9, vI lst_y9, vI ((i_y9 : Int) - 1), u8_y9, u9_y9, u10_y9] [] h_y9 = some (some (vR 100 A_y9), hq_y9) ∧ Ew (WRf hp_y9 w_y9 A_y9) h_y9 hq_y9 ∧ hph hq_y9 hp_y9 ∧ rwo hq_y9 w_y9 10000 ∧ ars hq_y9 A_y9 n_y9 Sq_y9 ∧ sbs n_y9 Sq_y9 (fun a_y9 b_y9 => nea c_y9 (D_y9 (lst_y9 - (a_y9 : Int))) (lst_y9 - (b_y9 : Int))) := by
  have K_y9 := st_ok V_y9
  have ps_y9 : ∀ a_y9 b_y9 : Nat, a_y9 < n_y9 → b_y9 < n_y9 → (nea c_y9 (D_y9 (lst_y9 - (a_y9 : Int))) (lst_y9 - (b_y9 : Int)) ↔ nea c_y9 (D_y9 (lst_y9 - (b_y9 : Int))) (lst_y9 - (a_y9 : Int))) := fun a_y9 b_y9 a0_y9 b0_y9 => by
    obtain ⟨nx_y9, en_y9, F_y9⟩ := hD_y9 (lst_y9 - (a_y9 : Int)) (by omega) (by omega)
    obtain ⟨ng_y9, eg_y9, G_y9⟩ := hD_y9 (lst_y9 - (b_y9 : Int)) (by omega) (by omega)
    exact nea_sy K_y9 (by omega) (by omega) (by omega) (by omega) F_y9 G_y9
  intro i_y9
  induction i_y9 with
  | zero =>
    intro h_y9 S_y9 u8_y9 u9_y9 u10_y9 ni_y9 I_y9 G_y9 R_y9 Ar_y9 B_y9
    exact ⟨h_y9, S_y9, by rw [E_X_reachedFrom_6, if_pos (by omega), E_X_reachedFrom_17], Ew.rf _ _, G_y9, R_y9, Ar_y9, B_y9.cg fun a_y9 b_y9 a0_y9 b0_y9 => ⟨fun z_y9 => z_y9.1, fun z_y9 => ⟨z_y9, Or.inl (Nat.zero_le _)⟩⟩⟩
  | succ i_y9 ih_y9 =>
    intro h_y9 S_y9 u8_y9 u9_y9 u10_y9 ni_y9 I_y9 G_y9 R_y9 Ar_y9 B_y9
    have Iq_y9 := I_y9
    obtain ⟨C_y9, Dc_y9, e18_y9, e19_y9, eN_y9, p1_y9, p2_y9, p3_y9, p4_y9, p5_y9, p6_y9, p7_y9, p8_y9, p9_y9, p10_y9⟩ := Iq_y9
    have p14_y9 : 2 ^ n_y9 ≤ 2 ^ 14 := Nat.pow_le_pow_right (by decide) hn_y9
    have ei_y9 : ((i_y9 + 1 : Nat) : Int) - 1 = (i_y9 : Int) := by omega
    obtain ⟨nx_y9, en_y9, F_y9⟩ := hD_y9 (lst_y9 - (i_y9 : Int)) (by omega) (by omega)
    have si_y9 := B_y9.1 i_y9
    have pi_y9 : nea c_y9 (D_y9 (lst_y9 - (i_y9 : Int))) (lst_y9 - (i_y9 : Int)) := nea_rf F_y9 (by omega) (by omega) c0_y9
    have B1_y9 := sbs_own (P_y9 := fun a_y9 b_y9 => nea c_y9 (D_y9 (lst_y9 - (a_y9 : Int))) (lst_y9 - (b_y9 : Int))) B_y9 (by omega) pi_y9
    have A1_y9 := Ar_y9.put i_y9 i_y9 (v_y9 := ior (S_y9 i_y9 : Int) (ishl 1 (i_y9 : Int))) (by rw [shl_1 (by omega), Z_orN _ _ (by omega) (by have : 2 ^ i_y9 ≤ 2 ^ 14 := Nat.pow_le_pow_right (by decide) (by omega); omega)])
    have x1_y9 : Ew (WRf hp_y9 w_y9 A_y9) h_y9 (h_y9.set A_y9 (i_y9 : Int) (ior (S_y9 i_y9 : Int) (ishl 1 (i_y9 : Int)))) := Ew.st h_y9 _ (Or.inr rfl)
    have I1_y9 := I_y9.ew x1_y9
    have G1_y9 : hph (h_y9.set A_y9 (i_y9 : Int) (ior (S_y9 i_y9 : Int) (ishl 1 (i_y9 : Int)))) hp_y9 := G_y9.cg (fun b_y9 k_y9 b0_y9 b1_y9 => Z_Mn (by omega)) (fun _ _ _ => rfl)
    have R1_y9 : rwo (h_y9.set A_y9 (i_y9 : Int) (ior (S_y9 i_y9 : Int) (ishl 1 (i_y9 : Int)))) w_y9 10000 := R_y9.cg (fun k_y9 => Z_Mn (by omega)) (fun _ _ _ => rfl)
    have q3_y9 : (h_y9.set A_y9 (i_y9 : Int) (ior (S_y9 i_y9 : Int) (ishl 1 (i_y9 : Int)))).M q_y9 3 = q_y9 + 3 := I1_y9.1.1.2.2.1
    have r7_y9 : Rn kX_reachedFrom 6 [vO 10 1, vR 2 q_y9, u2_y9, u3_y9, vI c_y9, vR 100 A_y9, vI lst_y9, vI (((i_y9 + 1 : Nat) : Int) - 1), u8_y9, u9_y9, u10_y9] [] h_y9 = bI (Cl kRw_reach [vO 6 w_y9, vR 8 (q_y9 + 3), vR 3 hp_y9, vI (lst_y9 - (i_y9 : Int)), vI lst_y9, vI c_y9] (h_y9.set A_y9 (i_y9 : Int) (ior (S_y9 i_y9 : Int) (ishl 1 (i_y9 : Int))))) fun z2_y9 h2_y9 => Rn kX_reachedFrom 8 [vO 10 1, vR 2 q_y9, u2_y9, u3_y9, vI c_y9, vR 100 A_y9, vI lst_y9, vI (i_y9 : Int), u8_y9, u9_y9, u10_y9] [vI z2_y9] h2_y9 := by
      rw [ei_y9, E_X_reachedFrom_6, if_neg (by omega), E_X_reachedFrom_7, eN_y9, gd_t (by omega), gd_t (by omega), Z_hl, Ar_y9 i_y9 (by omega), gd_t (by omega), I1_y9.2.2.1, I1_y9.2.2.2.1, gd_t (by omega), q3_y9, Z_wI (z := lst_y9 - (i_y9 : Int)) (by omega)]
    generalize h_y9.set A_y9 (i_y9 : Int) (ior (S_y9 i_y9 : Int) (ishl 1 (i_y9 : Int))) = h1_y9 at A1_y9 x1_y9 I1_y9 G1_y9 R1_y9 q3_y9 r7_y9
    obtain ⟨h2_y9, r_y9, e2_y9, x2_y9, G2_y9, R2_y9, alt_y9⟩ := D_reach V_y9 (c_y9 := c_y9) I1_y9.1 I1_y9.2.1 G1_y9 R1_y9 p5_y9 p6_y9 p7_y9 (u_y9 := lst_y9 - (i_y9 : Int)) (lst_y9 := lst_y9) (by omega) y1_y9 (by omega) F_y9
    have x2q_y9 : Ew (WRf hp_y9 w_y9 A_y9) h1_y9 h2_y9 := x2_y9.mono fun _ _ => Or.inl
    have I2_y9 := I1_y9.ew x2q_y9
    have A2_y9 : ars h2_y9 A_y9 n_y9 (pb2 S_y9 i_y9 i_y9) := fun k_y9 hk_y9 => (x2_y9.2 A_y9 (k_y9 : Int) fun t_y9 => by unfold WFn at t_y9; omega).trans (A1_y9 k_y9 hk_y9)
    have wi_y9 : wI ((i_y9 : Int) - 1) = (i_y9 : Int) - 1 := Z_wI (by omega)
    rcases alt_y9 with ⟨er_y9, no_y9⟩ | ⟨er_y9, ro_y9⟩
    · have B2_y9 := sbs_none B1_y9 fun j_y9 hj_y9 => by
        have := no_y9 (lst_y9 - (j_y9 : Int)) (by omega) (by omega)
        exact ⟨this, fun z_y9 => this ((ps_y9 j_y9 i_y9 (by omega) (by omega)).mp z_y9)⟩
      have r9_y9 : ∃ v8_y9 v9_y9 v10_y9, Rn kX_reachedFrom 9 [vO 10 1, vR 2 q_y9, u2_y9, u3_y9, vI c_y9, vR 100 A_y9, vI lst_y9, vI (i_y9 : Int), vI (lst_y9 - (i_y9 : Int)), vI ((i_y9 : Int) - 1), u10_y9] [] h2_y9 = Rn kX_reachedFrom 6 [vO 10 1, vR 2 q_y9, u2_y9, u3_y9, vI c_y9, vR 100 A_y9, vI lst_y9, vI ((i_y9 : Int) - 1), v8_y9, v9_y9, v10_y9] [] h2_y9 := by
        have w16_y9 : wI ((i_y9 : Int) + -1) = (i_y9 : Int) - 1 := by rw [Z_wI (by omega)]; omega
        refine ⟨vI (lst_y9 - (i_y9 : Int)), vI ((i_y9 : Int) - 1), u10_y9, ?_⟩
        rw [E_X_reachedFrom_9]
        by_cases z_y9 : (i_y9 : Int) - 1 < 0
        · rw [if_pos z_y9, E_X_reachedFrom_16, w16_y9]
        · rw [if_neg z_y9, E_X_reachedFrom_10, Z_wI (by omega), if_neg (by omega), E_X_reachedFrom_16, w16_y9]
      obtain ⟨v8_y9, v9_y9, v10_y9, r9_y9⟩ := r9_y9
      obtain ⟨h3_y9, S3_y9, e3_y9, x3_y9, G3_y9, R3_y9, A3_y9, B3_y9⟩ := ih_y9 h2_y9 _ v8_y9 v9_y9 v10_y9 (by omega) I2_y9 G2_y9 R2_y9 A2_y9 B2_y9
      exact ⟨h3_y9, S3_y9, by rw [r7_y9, e2_y9, Z_bI, E_X_reachedFrom_8, wi_y9, er_y9, r9_y9]; exact e3_y9, (x1_y9.tr x2q_y9).tr x3_y9, G3_y9, R3_y9, A3_y9, B3_y9⟩
    · obtain ⟨h3_y9, S3_y9, v8_y9, v9_y9, v10_y9, e3_y9, x3_y9, G3_y9, R3_y9, A3_y9, B3_y9⟩ := D_rf9 hn_y9 (by omega : i_y9 < n_y9) ey_y9 y0_y9 y1_y9 c0_y9 (P_y9 := fun a_y9 b_y9 => nea c_y9 (D_y9 (lst_y9 - (a_y9 : Int))) (lst_y9 - (b_y9 : Int))) (f_y9 := D_y9 (lst_y9 - (i_y9 : Int))) (fun j_y9 _ => Iff.rfl) ps_y9 u2_y9 u3_y9 i_y9 h2_y9 (pb2 S_y9 i_y9 i_y9) u10_y9 (Nat.le_refl _) I2_y9 ro_y9 A2_y9 B1_y9
      obtain ⟨h4_y9, S4_y9, e4_y9, x4_y9, G4_y9, R4_y9, A4_y9, B4_y9⟩ := ih_y9 h3_y9 _ v8_y9 v9_y9 v10_y9 (by omega) (I2_y9.ew x3_y9) G3_y9 R3_y9 A3_y9 B3_y9
      exact ⟨h4_y9, S4_y9, by rw [r7_y9, e2_y9, Z_bI, E_X_reachedFrom_8, wi_y9, er_y9, e3_y9]; exact e4_y9, ((x1_y9.tr x2q_y9).tr x3_y9).tr x4_y9, G4_y9, R4_y9, A4_y9, B4_y9⟩
