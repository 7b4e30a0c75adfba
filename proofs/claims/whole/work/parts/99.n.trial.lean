/-! THE PURE PART, least: the class's trial search -/
/-- what a trial writes: as finding, without the next ones -/
theorem D_step10 {n_y9 lc_y9 : Int} {ov_y9 : Int → Int → Int} {ct_y9 : Int → Int} (K_y9 : ntok n_y9 lc_y9 ov_y9 ct_y9) {tn_y9 : Nat} {x_y9 w_y9 hp_y9 : Int} (p0_y9 : 56 < hp_y9) (o_y9 : hp_y9 + 2 < w_y9) {src_y9 : Int → Prop} {h0_y9 : mH} (hN_y9 : ∀ hq_y9, Ew (WFn hp_y9 w_y9) h0_y9 hq_y9 → nto hq_y9 tn_y9 x_y9 n_y9 lc_y9 ov_y9 ct_y9) {k_y9 s_y9 : Int} {h_y9 : mH} (x0_y9 : Ew (WFn hp_y9 w_y9) h0_y9 h_y9) (R_y9 : rwo h_y9 w_y9 n_y9) (P_y9 : hpo h_y9 hp_y9 (hp_y9 + 1) (hp_y9 + 2) (w_y9 + 1) s_y9 10000 n_y9) (W_y9 : wfh (h_y9.M (hp_y9 + 1)) (h_y9.M (hp_y9 + 2)) s_y9 10000 n_y9) (O_y9 : ordh (h_y9.M (hp_y9 + 1)) (h_y9.M (w_y9 + 1)) s_y9) {ng_y9 eg_y9 : Int → Int} (D_y9 : DJ n_y9 lc_y9 ov_y9 ct_y9 src_y9 (h_y9.M (w_y9 + 1)) ng_y9 eg_y9 (wto h_y9 hp_y9 n_y9) k_y9) (s1_y9 : 1 ≤ s_y9) :
    ∃ h1_y9 v_y9, Cl kHp_takeLeast [vO 3 hp_y9, vR 101 (w_y9 + 1)] h_y9 = some (some (vI v_y9), h1_y9) ∧ Ew (WFn hp_y9 w_y9) h_y9 h1_y9 ∧ rwo h1_y9 w_y9 n_y9 ∧ h1_y9.M (w_y9 + 1) = h_y9.M (w_y9 + 1) ∧ wto h_y9 hp_y9 n_y9 v_y9 ∧ (∀ u_y9, wto h_y9 hp_y9 n_y9 u_y9 → h_y9.M (w_y9 + 1) v_y9 ≤ h_y9.M (w_y9 + 1) u_y9) ∧ hpo h1_y9 hp_y9 (hp_y9 + 1) (hp_y9 + 2) (w_y9 + 1) (s_y9 - 1) 10000 n_y9 ∧ wfh (h1_y9.M (hp_y9 + 1)) (h1_y9.M (hp_y9 + 2)) (s_y9 - 1) 10000 n_y9 ∧
    ∃ h3_y9 s3_y9, Cl kRw_goOn [vO 6 w_y9, vR tn_y9 x_y9, vR 3 hp_y9, vI v_y9] h1_y9 = some (none, h3_y9) ∧ Ew (WFn hp_y9 w_y9) h_y9 h3_y9 ∧ rwo h3_y9 w_y9 n_y9 ∧ hpo h3_y9 hp_y9 (hp_y9 + 1) (hp_y9 + 2) (w_y9 + 1) s3_y9 10000 n_y9 ∧ wfh (h3_y9.M (hp_y9 + 1)) (h3_y9.M (hp_y9 + 2)) s3_y9 10000 n_y9 ∧ ordh (h3_y9.M (hp_y9 + 1)) (h3_y9.M (w_y9 + 1)) s3_y9 ∧ (∃ nxq_y9 enq_y9, DJ n_y9 lc_y9 ov_y9 ct_y9 src_y9 (h3_y9.M (w_y9 + 1)) nxq_y9 enq_y9 (wto h3_y9 hp_y9 n_y9) (k_y9 + 1)) ∧ ∀ a_y9, stl n_y9 (h3_y9.M (w_y9 + 1)) (wto h3_y9 hp_y9 n_y9) a_y9 ↔ (stl n_y9 (h_y9.M (w_y9 + 1)) (wto h_y9 hp_y9 n_y9) a_y9 ∨ a_y9 = v_y9) := by
  have kx_y9 := R_y9.2.2.2.2
  obtain ⟨h1_y9, v_y9, e1_y9, x1_y9, P1_y9, W1_y9, O1_y9, v0_y9, v1_y9, v2_y9, vm_y9, C1_y9⟩ := D_take (len := h_y9.M (w_y9 + 1)) P_y9 (fun _ _ _ => rfl) W_y9 O_y9 s1_y9
  have y1_y9 : Ew (WFn hp_y9 w_y9) h_y9 h1_y9 := x1_y9.mono fun p_y9 t_y9 y_y9 => by unfold WNP at y_y9; unfold WFn; omega
  have R1_y9 : rwo h1_y9 w_y9 n_y9 := R_y9.ew o_y9 y1_y9
  have l1_y9 : h1_y9.M (w_y9 + 1) = h_y9.M (w_y9 + 1) := funext fun t_y9 => x1_y9.2 (w_y9 + 1) t_y9 fun y_y9 => by unfold WNP at y_y9; omega
  have lb_y9 : ∀ u_y9, 1 ≤ u_y9 → u_y9 < n_y9 → 0 ≤ h1_y9.M (w_y9 + 1) u_y9 ∧ h1_y9.M (w_y9 + 1) u_y9 ≤ 1152921504606846976 := fun u_y9 u0_y9 u1_y9 => by
    rw [l1_y9]
    have := D_y9.1 u_y9 u0_y9 u1_y9
    exact ⟨this.1, this.2.1⟩
  have wv_y9 : wto h_y9 hp_y9 n_y9 v_y9 := ⟨v0_y9, v1_y9, v2_y9⟩
  obtain ⟨h3_y9, s3_y9, e3_y9, x3_y9, P3_y9, W3_y9, O3_y9, A3_y9, B3_y9, C3_y9⟩ := D_go4 K_y9 (by omega : 0 < hp_y9) o_y9 hN_y9 v0_y9 v1_y9 lc_y9.toNat 0 vU vU vU h1_y9 (s_y9 - 1) (by have := K_y9.1; omega) (by omega) (x0_y9.tr y1_y9) R1_y9 P1_y9 W1_y9 (by rw [l1_y9]; exact O1_y9) lb_y9
  have y3_y9 : Ew (WFn hp_y9 w_y9) h1_y9 h3_y9 := x3_y9.mono fun _ _ => WFg_n
  have R3_y9 : rwo h3_y9 w_y9 n_y9 := R1_y9.ew o_y9 y3_y9
  rw [l1_y9] at A3_y9 B3_y9 C3_y9
  have D3_y9 := DJ_step0 K_y9 kx_y9 D_y9 (lenq_y9 := h3_y9.M (w_y9 + 1)) (wtq_y9 := wto h3_y9 hp_y9 n_y9) wv_y9 (fun u_y9 q_y9 => vm_y9 u_y9 q_y9.1 q_y9.2.1 q_y9.2.2) (fun u_y9 u0_y9 u1_y9 => by
    obtain ⟨q1_y9, q2_y9⟩ := A3_y9 u_y9 u0_y9 u1_y9
    refine ⟨q1_y9, ?_⟩
    rcases q2_y9 with q2_y9 | ⟨l_y9, a1_y9, a2_y9, a3_y9, a4_y9⟩
    · exact Or.inl q2_y9
    · exact Or.inr ⟨ct_y9 l_y9, ⟨l_y9, a1_y9, a2_y9, a3_y9, rfl, by omega⟩, a4_y9⟩) (fun u_y9 cq_y9 ⟨l_y9, a1_y9, a2_y9, a3_y9, a4_y9, a5_y9⟩ => by
    have := B3_y9 l_y9 a1_y9 a2_y9 (by rw [a3_y9]; exact a5_y9)
    rw [a3_y9, a4_y9] at this
    exact this) (fun u_y9 => by
    constructor
    · intro q_y9
      obtain ⟨q0_y9, q1_y9, q2_y9⟩ := q_y9
      refine ⟨q0_y9, q1_y9, ?_⟩
      rcases (C3_y9 u_y9 q0_y9 q1_y9).mp q2_y9 with y_y9 | y_y9
      · have := (C1_y9 u_y9).mp y_y9
        exact Or.inl ⟨⟨q0_y9, q1_y9, this.1⟩, this.2⟩
      · exact Or.inr y_y9
    · rintro ⟨q0_y9, q1_y9, q2_y9⟩
      refine ⟨q0_y9, q1_y9, (C3_y9 u_y9 q0_y9 q1_y9).mpr ?_⟩
      rcases q2_y9 with y_y9 | y_y9
      · exact Or.inl ((C1_y9 u_y9).mpr ⟨y_y9.1.2.2, y_y9.2⟩)
      · exact Or.inr y_y9)
  refine ⟨h1_y9, v_y9, e1_y9, y1_y9, R1_y9, l1_y9, wv_y9, fun u_y9 q_y9 => vm_y9 u_y9 q_y9.1 q_y9.2.1 q_y9.2.2, P1_y9, W1_y9, h3_y9, s3_y9, ?_, y1_y9.tr y3_y9, R3_y9, P3_y9, W3_y9, O3_y9, D3_y9.1, D3_y9.2⟩
  rw [E_Rw_goOn, C_rwHas R1_y9, Z_bI, bz_t ⟨v0_y9, v1_y9⟩, if_neg (by decide), e3_y9]
theorem C_rwCost {h_y9 : mH} {w_y9 n_y9 : Int} (R_y9 : rwo h_y9 w_y9 n_y9) {v_y9 : Int} (v0_y9 : 1 ≤ v_y9) (v1_y9 : v_y9 < n_y9) (b_y9 : 0 ≤ h_y9.M (w_y9 + 1) v_y9 ∧ h_y9.M (w_y9 + 1) v_y9 ≤ 1152921504606846976 ∧ (h_y9.M (w_y9 + 1) v_y9 ≠ 1152921504606846976 → h_y9.M (w_y9 + 1) v_y9 / 16384 ≤ 989901)) : Cl kRw_costOf [vO 6 w_y9, vI v_y9] h_y9 = some (some (vI (if h_y9.M (w_y9 + 1) v_y9 = 1152921504606846976 then -1 else h_y9.M (w_y9 + 1) v_y9 / 16384)), h_y9) := by
  have w0_y9 := R_y9.2.2.1
  rw [E_Rw_costOf, C_rwHas R_y9, Z_bI, bz_t ⟨v0_y9, v1_y9⟩, if_neg (by decide), R_y9.1.1, R_y9.2.1.1, gd_t (by omega), gd_t (by omega), gd_t (by decide), ifL]
  by_cases q_y9 : h_y9.M (w_y9 + 1) v_y9 = 1152921504606846976
  · rw [if_neg (by omega), if_pos q_y9]
  · have := b_y9.2.2 q_y9
    rw [if_pos (by omega), if_neg q_y9, Z_tdiv b_y9.1, Z_wL (by omega), Z_wI (by omega)]
theorem mul_pos1 {d_y9 j_y9 : Int} (d1_y9 : 1 ≤ d_y9) (p_y9 : 0 < d_y9 * j_y9) : 1 ≤ j_y9 := Classical.byContradiction fun z_y9 => by
  have := Int.mul_le_mul_of_nonneg_left (show j_y9 ≤ 0 by omega) (show 0 ≤ d_y9 by omega)
  rw [Int.mul_zero] at this
  omega
theorem mul_in {d_y9 j_y9 g_y9 : Int} (d1_y9 : 1 ≤ d_y9) (p_y9 : d_y9 * j_y9 ≤ g_y9) : j_y9 ≤ g_y9 / d_y9 := Int.le_ediv_of_mul_le (by omega) (by rw [Int.mul_comm]; exact p_y9)
theorem mul_out {d_y9 j_y9 g_y9 : Int} (d1_y9 : 1 ≤ d_y9) (p_y9 : j_y9 ≤ g_y9 / d_y9) : d_y9 * j_y9 ≤ g_y9 := by
  have := (Int.le_ediv_iff_mul_le (show 0 < d_y9 by omega)).mp p_y9
  rw [Int.mul_comm]
  exact this
theorem mul_up {d_y9 j_y9 : Int} (d1_y9 : 1 ≤ d_y9) (j1_y9 : 1 ≤ j_y9) : 0 < d_y9 * j_y9 := by
  have := Int.mul_le_mul_of_nonneg_left j1_y9 (show 0 ≤ d_y9 by omega)
  rw [Int.mul_one] at this
  omega
theorem D_reach0 {h_y9 : mH} {w_y9 hp_y9 x_y9 u_y9 lst_y9 c_y9 k_y9 : Int} (u8_y9 : mV) (R_y9 : rwo h_y9 w_y9 10000) (p0_y9 : 56 < hp_y9) : Rn kRw_reach 10 [vO 6 w_y9, vR 8 x_y9, vR 3 hp_y9, vI u_y9, vI lst_y9, vI c_y9, vI 0, vI k_y9, u8_y9] [] h_y9 = some (some (vI lst_y9), h_y9) := by
  have w0_y9 := R_y9.2.2.1
  rw [E_Rw_reach_10, R_y9.1.1, gd_t (by omega), R_y9.2.1.1]
  by_cases q_y9 : k_y9 < 10000
  · rw [if_pos q_y9, gd_t (by omega)]
    by_cases z_y9 : h_y9.M hp_y9 2 ≤ 0
    · rw [if_pos z_y9]
    · rw [if_neg z_y9, if_pos (by decide)]
  · rw [if_neg q_y9]
/-- what a search leaves -/
def rdo (h_y9 : mH) (hp_y9 w_y9 u_y9 lst_y9 c_y9 : Int) (f_y9 : Int → Int) : Prop := hph h_y9 hp_y9 ∧ rwo h_y9 w_y9 10000 ∧ (∀ v_y9, u_y9 < v_y9 → v_y9 ≤ lst_y9 → (nea c_y9 (h_y9.M (w_y9 + 1)) v_y9 ↔ nea c_y9 f_y9 v_y9)) ∧ ∀ v_y9, 1 ≤ v_y9 → v_y9 < 10000 → 0 ≤ h_y9.M (w_y9 + 1) v_y9 ∧ h_y9.M (w_y9 + 1) v_y9 ≤ 1152921504606846976 ∧ (h_y9.M (w_y9 + 1) v_y9 ≠ 1152921504606846976 → h_y9.M (w_y9 + 1) v_y9 / 16384 ≤ 989901)
theorem D_reach10 {H_y9 : HD} (V_y9 : hdv H_y9) {x_y9 d_y9 w_y9 hp_y9 u_y9 lst_y9 c_y9 : Int} (S_y9 : strd H_y9 d_y9) (d1_y9 : 1 ≤ d_y9) (p0_y9 : 56 < hp_y9) (o_y9 : hp_y9 + 2 < w_y9) (u0_y9 : 1 ≤ u_y9) (l1_y9 : lst_y9 ≤ 9999) (ul_y9 : u_y9 ≤ lst_y9) {f_y9 nx_y9 en_y9 : Int → Int} (F_y9 : rsp 10000 (2 * H_y9 3 0) (stO H_y9) (stC H_y9) (fun t_y9 => t_y9 = u_y9) f_y9 nx_y9 en_y9) {h0_y9 : mH} (hN_y9 : ∀ hq_y9, Ew (WFn hp_y9 w_y9) h0_y9 hq_y9 → nto hq_y9 8 x_y9 10000 (2 * H_y9 3 0) (stO H_y9) (stC H_y9)) : ∀ (m_y9 : Nat) (k_y9 t6_y9 : Int) (u8_y9 : mV) (h_y9 : mH) (s_y9 : Int) (ng_y9 eg_y9 : Int → Int), k_y9 + m_y9 = 10000 → Ew (WFn hp_y9 w_y9) h0_y9 h_y9 → rwo h_y9 w_y9 10000 → hpo h_y9 hp_y9 (hp_y9 + 1) (hp_y9 + 2) (w_y9 + 1) s_y9 10000 10000 → wfh (h_y9.M (hp_y9 + 1)) (h_y9.M (hp_y9 + 2)) s_y9 10000 10000 → ordh (h_y9.M (hp_y9 + 1)) (h_y9.M (w_y9 + 1)) s_y9 → DJ 10000 (2 * H_y9 3 0) (stO H_y9) (stC H_y9) (fun t_y9 => t_y9 = u_y9) (h_y9.M (w_y9 + 1)) ng_y9 eg_y9 (wto h_y9 hp_y9 10000) k_y9 → t6_y9 + cn (fun j_y9 => stl 10000 (h_y9.M (w_y9 + 1)) (wto h_y9 hp_y9 10000) (u_y9 + d_y9 * j_y9)) ((lst_y9 - u_y9) / d_y9).toNat 1 = (lst_y9 - u_y9) / d_y9 →
    ∃ hq_y9, Rn kRw_reach 10 [vO 6 w_y9, vR 8 x_y9, vR 3 hp_y9, vI u_y9, vI lst_y9, vI c_y9, vI t6_y9, vI k_y9, u8_y9] [] h_y9 = some (some (vI lst_y9), hq_y9) ∧ Ew (WFn hp_y9 w_y9) h_y9 hq_y9 ∧ rdo hq_y9 hp_y9 w_y9 u_y9 lst_y9 c_y9 f_y9 := by
  have K_y9 := st_ok V_y9
  have g0_y9 : 0 ≤ (lst_y9 - u_y9) / d_y9 := Int.ediv_nonneg (by omega) (by omega)
  intro m_y9
  induction m_y9 with
  | zero =>
    intro k_y9 t6_y9 u8_y9 h_y9 s_y9 ng_y9 eg_y9 ek_y9 x0_y9 R_y9 P_y9 W_y9 O_y9 D_y9 ew_y9
    have kb_y9 := cn_b (stl 10000 (h_y9.M (w_y9 + 1)) (wto h_y9 hp_y9 10000)) (10000 - 1 : Int).toNat 1
    have kk_y9 := D_y9.2.2.2.2.2.2.2.2.2
    omega
  | succ m_y9 ih_y9 =>
    intro k_y9 t6_y9 u8_y9 h_y9 s_y9 ng_y9 eg_y9 ek_y9 x0_y9 R_y9 P_y9 W_y9 O_y9 D_y9 ew_y9
    have kb_y9 := cn_b (stl 10000 (h_y9.M (w_y9 + 1)) (wto h_y9 hp_y9 10000)) (10000 - 1 : Int).toNat 1
    have kk_y9 := D_y9.2.2.2.2.2.2.2.2.2
    have w0_y9 := R_y9.2.2.1
    have gb_y9 : (lst_y9 - u_y9) / d_y9 ≤ lst_y9 - u_y9 := by
      have r1_y9 := mul_out d1_y9 (Int.le_refl ((lst_y9 - u_y9) / d_y9))
      have r2_y9 := Int.mul_le_mul_of_nonneg_right d1_y9 g0_y9
      rw [Int.one_mul] at r2_y9
      omega
    have cb1_y9 := cn_b (fun j_y9 => stl 10000 (h_y9.M (w_y9 + 1)) (wto h_y9 hp_y9 10000) (u_y9 + d_y9 * j_y9)) ((lst_y9 - u_y9) / d_y9).toNat 1
    have fin_y9 : ∀ hq_y9, hq_y9.M (w_y9 + 1) = h_y9.M (w_y9 + 1) → rwo hq_y9 w_y9 10000 → hph hq_y9 hp_y9 → (∀ v_y9, u_y9 < v_y9 → v_y9 ≤ lst_y9 → (nea c_y9 (h_y9.M (w_y9 + 1)) v_y9 ↔ nea c_y9 f_y9 v_y9)) → rdo hq_y9 hp_y9 w_y9 u_y9 lst_y9 c_y9 f_y9 := fun hq_y9 el_y9 Rq_y9 Gq_y9 ne_y9 => by
      refine ⟨Gq_y9, Rq_y9, fun v_y9 v0_y9 v1_y9 => by rw [el_y9]; exact ne_y9 v_y9 v0_y9 v1_y9, fun v_y9 v0_y9 v1_y9 => ?_⟩
      rw [el_y9]
      have b_y9 := D_y9.1 v_y9 v0_y9 v1_y9
      exact ⟨b_y9.1, b_y9.2.1, fun z_y9 => by have := b_y9.2.2 z_y9; omega⟩
    rw [E_Rw_reach_10, R_y9.1.1, gd_t (by omega), R_y9.2.1.1, if_pos (by omega), gd_t (by omega), P_y9.2.2.1]
    by_cases z_y9 : s_y9 ≤ 0
    · rw [if_pos z_y9]
      refine ⟨h_y9, rfl, Ew.rf _ _, fin_y9 h_y9 rfl R_y9 (hph_fin p0_y9 P_y9 W_y9) fun v_y9 v0_y9 v1_y9 => DJ_cut K_y9 F_y9 D_y9 (fun b_y9 wb_y9 => ?_) (by omega) (by omega)⟩
      obtain ⟨b0_y9, b1_y9, b2_y9⟩ := wb_y9
      rcases W_y9.2.2.2 b_y9 b0_y9 (by omega) with y_y9 | y_y9
      · exact absurd y_y9 b2_y9
      · omega
    · rw [if_neg z_y9]
      by_cases y_y9 : t6_y9 ≤ 0
      · rw [if_pos y_y9]
        refine ⟨h_y9, rfl, Ew.rf _ _, fin_y9 h_y9 rfl R_y9 (hph_fin p0_y9 P_y9 W_y9) fun v_y9 v0_y9 v1_y9 => DJ_all V_y9 S_y9 F_y9 D_y9 (fun j_y9 j0_y9 j1_y9 => ?_) v0_y9 v1_y9 u0_y9 l1_y9⟩
        have r1_y9 := mul_pos1 d1_y9 (by omega : 0 < d_y9 * j_y9)
        have r2_y9 := mul_in d1_y9 (by omega : d_y9 * j_y9 ≤ lst_y9 - u_y9)
        exact cn_full (p_y9 := fun j_y9 => stl 10000 (h_y9.M (w_y9 + 1)) (wto h_y9 hp_y9 10000) (u_y9 + d_y9 * j_y9)) ((lst_y9 - u_y9) / d_y9).toNat 1 (by omega) j_y9 r1_y9 (by omega)
      · obtain ⟨h1_y9, v_y9, e1_y9, y1_y9, R1_y9, m1_y9, wv_y9, vm_y9, P1_y9, W1_y9, h3_y9, s3_y9, e3_y9, y3_y9, R3_y9, P3_y9, W3_y9, O3_y9, ⟨ngq_y9, egq_y9, D3_y9⟩, st3_y9⟩ := D_step10 K_y9 p0_y9 o_y9 hN_y9 x0_y9 R_y9 P_y9 W_y9 O_y9 D_y9 (by omega)
        have bv_y9 := D_y9.1 v_y9 wv_y9.1 wv_y9.2.1
        have nv_y9 := (D_y9.2.2.1 v_y9 wv_y9).2.2
        have cv_y9 : Cl kRw_costOf [vO 6 w_y9, vI v_y9] h1_y9 = some (some (vI (h_y9.M (w_y9 + 1) v_y9 / 16384)), h1_y9) := by
          rw [C_rwCost R1_y9 wv_y9.1 wv_y9.2.1 (by rw [m1_y9]; exact ⟨bv_y9.1, bv_y9.2.1, fun z_y9 => by have := bv_y9.2.2 z_y9; omega⟩), m1_y9, if_neg nv_y9]
        rw [if_neg y_y9, gd_t (by omega), e1_y9, Z_bI, cv_y9, Z_bI]
        by_cases cz_y9 : h_y9.M (w_y9 + 1) v_y9 / 16384 ≤ c_y9
        · rw [if_pos cz_y9, e3_y9, Z_bV, Z_wI (z := k_y9 + 1) (by omega), Z_wI (z := t6_y9 - 0) (by omega), Z_wI (z := t6_y9 - 1) (by omega)]
          have same_y9 : ¬ (u_y9 < v_y9 ∧ v_y9 ≤ lst_y9) → cn (fun j_y9 => stl 10000 (h3_y9.M (w_y9 + 1)) (wto h3_y9 hp_y9 10000) (u_y9 + d_y9 * j_y9)) ((lst_y9 - u_y9) / d_y9).toNat 1 = cn (fun j_y9 => stl 10000 (h_y9.M (w_y9 + 1)) (wto h_y9 hp_y9 10000) (u_y9 + d_y9 * j_y9)) ((lst_y9 - u_y9) / d_y9).toNat 1 := fun no_y9 => cn_cg ((lst_y9 - u_y9) / d_y9).toNat 1 fun j_y9 j0_y9 j1_y9 => by
            have r1_y9 := mul_up d1_y9 j0_y9
            have r2_y9 := mul_out d1_y9 (show j_y9 ≤ (lst_y9 - u_y9) / d_y9 by omega)
            rw [st3_y9]
            exact ⟨fun t_y9 => t_y9.elim id fun t_y9 => absurd ⟨by omega, by omega⟩ no_y9, Or.inl⟩
          by_cases q1_y9 : v_y9 ≤ u_y9
          · obtain ⟨hq_y9, r_y9, xq_y9, ro_y9⟩ := ih_y9 (k_y9 + 1) (t6_y9 - 0) (vI v_y9) h3_y9 s3_y9 ngq_y9 egq_y9 (by omega) (x0_y9.tr y3_y9) R3_y9 P3_y9 W3_y9 O3_y9 D3_y9 (by rw [same_y9 (by omega)]; omega)
            exact ⟨hq_y9, by rw [if_pos q1_y9]; exact r_y9, y3_y9.tr xq_y9, ro_y9⟩
          · by_cases q2_y9 : v_y9 ≤ lst_y9
            · have sv_y9 : stl 10000 (h3_y9.M (w_y9 + 1)) (wto h3_y9 hp_y9 10000) v_y9 := (st3_y9 v_y9).mpr (Or.inr rfl)
              have ev_y9 := DJ_set K_y9 F_y9 D3_y9 sv_y9
              have nf_y9 : f_y9 v_y9 ≠ 1152921504606846976 := by rw [← ev_y9]; exact sv_y9.2.2.1
              have fv_y9 := F_y9.1 v_y9 wv_y9.1 wv_y9.2.1
              obtain ⟨j_y9, hj_y9⟩ := rsp_dvd V_y9 S_y9 F_y9 (f_y9 v_y9).toNat v_y9 (by omega) wv_y9.1 wv_y9.2.1 nf_y9
              have r1_y9 := mul_pos1 d1_y9 (by omega : 0 < d_y9 * j_y9)
              have r2_y9 := mul_in d1_y9 (by omega : d_y9 * j_y9 ≤ lst_y9 - u_y9)
              have more_y9 : cn (fun j_y9 => stl 10000 (h3_y9.M (w_y9 + 1)) (wto h3_y9 hp_y9 10000) (u_y9 + d_y9 * j_y9)) ((lst_y9 - u_y9) / d_y9).toNat 1 = cn (fun j_y9 => stl 10000 (h_y9.M (w_y9 + 1)) (wto h_y9 hp_y9 10000) (u_y9 + d_y9 * j_y9)) ((lst_y9 - u_y9) / d_y9).toNat 1 + 1 := cn_one (m := j_y9) (by rw [← hj_y9]; exact fun t_y9 => t_y9.2.2.2 wv_y9) (by rw [← hj_y9]; exact sv_y9) (fun i_y9 ni_y9 => by
                rw [st3_y9]
                exact ⟨fun t_y9 => t_y9.elim id fun t_y9 => absurd (Int.eq_of_mul_eq_mul_left (show d_y9 ≠ 0 by omega) (show d_y9 * i_y9 = d_y9 * j_y9 by omega)) ni_y9, Or.inl⟩) ((lst_y9 - u_y9) / d_y9).toNat 1 r1_y9 (by omega)
              obtain ⟨hq_y9, r_y9, xq_y9, ro_y9⟩ := ih_y9 (k_y9 + 1) (t6_y9 - 1) (vI v_y9) h3_y9 s3_y9 ngq_y9 egq_y9 (by omega) (x0_y9.tr y3_y9) R3_y9 P3_y9 W3_y9 O3_y9 D3_y9 (by rw [more_y9]; omega)
              exact ⟨hq_y9, by rw [if_neg q1_y9, if_pos q2_y9]; exact r_y9, y3_y9.tr xq_y9, ro_y9⟩
            · obtain ⟨hq_y9, r_y9, xq_y9, ro_y9⟩ := ih_y9 (k_y9 + 1) (t6_y9 - 0) (vI v_y9) h3_y9 s3_y9 ngq_y9 egq_y9 (by omega) (x0_y9.tr y3_y9) R3_y9 P3_y9 W3_y9 O3_y9 D3_y9 (by rw [same_y9 (by omega)]; omega)
              exact ⟨hq_y9, by rw [if_neg q1_y9, if_neg q2_y9]; exact r_y9, y3_y9.tr xq_y9, ro_y9⟩
        · rw [if_neg cz_y9, D_reach0 _ R1_y9 p0_y9]
          refine ⟨h1_y9, rfl, y1_y9, fin_y9 h1_y9 m1_y9 R1_y9 (hph_fin p0_y9 P1_y9 W1_y9) fun t_y9 t0_y9 t1_y9 => DJ_cut K_y9 F_y9 D_y9 (fun b_y9 wb_y9 => ?_) (by omega) (by omega)⟩
          have := vm_y9 b_y9 wb_y9
          omega
