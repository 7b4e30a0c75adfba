/-! THE PURE PART, least: how far years lie apart (numbers alone) -/
theorem rsp_le {n_y9 lc_y9 : Int} {ov_y9 : Int → Int → Int} {ct_y9 : Int → Int} (K_y9 : ntok n_y9 lc_y9 ov_y9 ct_y9) {u_y9 : Int} (u0_y9 : 1 ≤ u_y9) (u1_y9 : u_y9 < n_y9) {sp_y9 : Int → Prop} {f_y9 nx_y9 en_y9 g_y9 ng_y9 eg_y9 : Int → Int} (F_y9 : rsp n_y9 lc_y9 ov_y9 ct_y9 (fun t_y9 => t_y9 = u_y9) f_y9 nx_y9 en_y9) (G_y9 : rsp n_y9 lc_y9 ov_y9 ct_y9 sp_y9 g_y9 ng_y9 eg_y9) : ∀ (m_y9 : Nat) (w_y9 : Int), f_y9 w_y9 ≤ m_y9 → 1 ≤ w_y9 → w_y9 < n_y9 → f_y9 w_y9 ≠ 1152921504606846976 → g_y9 u_y9 ≤ f_y9 w_y9 + g_y9 w_y9 := by
  have zero : ∀ w_y9, 1 ≤ w_y9 → w_y9 < n_y9 → f_y9 w_y9 = 0 → g_y9 u_y9 ≤ f_y9 w_y9 + g_y9 w_y9 := fun w_y9 w0_y9 w1_y9 z_y9 => by
    have : w_y9 = u_y9 := (F_y9.2.1 w_y9 w0_y9 w1_y9).mp z_y9
    rw [z_y9, this]
    omega
  intro m_y9
  induction m_y9 with
  | zero =>
    intro w_y9 e_y9 w0_y9 w1_y9 _
    have b_y9 := (F_y9.1 w_y9 w0_y9 w1_y9).1
    exact zero w_y9 w0_y9 w1_y9 (by omega)
  | succ m_y9 ih_y9 =>
    intro w_y9 e_y9 w0_y9 w1_y9 nf_y9
    have b_y9 := F_y9.1 w_y9 w0_y9 w1_y9
    by_cases z_y9 : f_y9 w_y9 = 0
    · exact zero w_y9 w0_y9 w1_y9 z_y9
    · obtain ⟨⟨c_y9, ed_y9, q_y9⟩, _⟩ := F_y9.2.2.2.1 w_y9 w0_y9 w1_y9 nf_y9 z_y9
      have eb_y9 := edl_b K_y9 w0_y9 w1_y9 ed_y9
      have bb_y9 := F_y9.1 (nx_y9 w_y9) eb_y9.1 eb_y9.2.1
      have k1_y9 := ih_y9 (nx_y9 w_y9) (by omega) eb_y9.1 eb_y9.2.1 (by omega)
      have gw_y9 := G_y9.1 w_y9 w0_y9 w1_y9
      have gu_y9 := G_y9.1 u_y9 u0_y9 u1_y9
      by_cases y_y9 : g_y9 w_y9 = 1152921504606846976
      · omega
      · have k2_y9 := G_y9.2.2.1 w_y9 (nx_y9 w_y9) c_y9 w0_y9 w1_y9 y_y9 ed_y9
        omega
/-- as far there as back -/
theorem rsp_sym {n_y9 lc_y9 : Int} {ov_y9 : Int → Int → Int} {ct_y9 : Int → Int} (K_y9 : ntok n_y9 lc_y9 ov_y9 ct_y9) {u_y9 v_y9 : Int} (u0_y9 : 1 ≤ u_y9) (u1_y9 : u_y9 < n_y9) (v0_y9 : 1 ≤ v_y9) (v1_y9 : v_y9 < n_y9) {f_y9 nx_y9 en_y9 g_y9 ng_y9 eg_y9 : Int → Int} (F_y9 : rsp n_y9 lc_y9 ov_y9 ct_y9 (fun t_y9 => t_y9 = u_y9) f_y9 nx_y9 en_y9) (G_y9 : rsp n_y9 lc_y9 ov_y9 ct_y9 (fun t_y9 => t_y9 = v_y9) g_y9 ng_y9 eg_y9) : f_y9 v_y9 = g_y9 u_y9 := by
  have fv_y9 := F_y9.1 v_y9 v0_y9 v1_y9
  have gu_y9 := G_y9.1 u_y9 u0_y9 u1_y9
  have gv_y9 : g_y9 v_y9 = 0 := (G_y9.2.1 v_y9 v0_y9 v1_y9).mpr rfl
  have fu_y9 : f_y9 u_y9 = 0 := (F_y9.2.1 u_y9 u0_y9 u1_y9).mpr rfl
  have a_y9 : f_y9 v_y9 ≠ 1152921504606846976 → g_y9 u_y9 ≤ f_y9 v_y9 := fun z_y9 => by
    have := rsp_le K_y9 u0_y9 u1_y9 F_y9 G_y9 (f_y9 v_y9).toNat v_y9 (by omega) v0_y9 v1_y9 z_y9
    omega
  have b_y9 : g_y9 u_y9 ≠ 1152921504606846976 → f_y9 v_y9 ≤ g_y9 u_y9 := fun z_y9 => by
    have := rsp_le K_y9 v0_y9 v1_y9 G_y9 F_y9 (g_y9 u_y9).toNat u_y9 (by omega) u0_y9 u1_y9 z_y9
    omega
  by_cases z_y9 : f_y9 v_y9 = 1152921504606846976
  · by_cases y_y9 : g_y9 u_y9 = 1152921504606846976
    · omega
    · have := b_y9 y_y9
      omega
  · have k1_y9 := a_y9 z_y9
    have k2_y9 := b_y9 (by omega)
    omega
theorem stO_dvd {H_y9 : HD} {d_y9 : Int} (S_y9 : strd H_y9 d_y9) {a_y9 b_y9 c_y9 : Int} (ed_y9 : edl (2 * H_y9 3 0) (stO H_y9) (stC H_y9) a_y9 b_y9 c_y9) : ∃ j_y9, b_y9 = a_y9 + d_y9 * j_y9 := by
  obtain ⟨l_y9, l0_y9, l1_y9, r1_y9, r2_y9, r3_y9⟩ := ed_y9
  obtain ⟨j_y9, hj_y9⟩ := S_y9.2.2.2.2 (l_y9 / 2) (by omega) (by omega)
  by_cases q_y9 : l_y9 % 2 = 0
  · rw [stO_e q_y9] at r1_y9
    by_cases z_y9 : 1 ≤ a_y9 - H_y9 4 (l_y9 / 2) ∧ a_y9 - H_y9 4 (l_y9 / 2) ≤ 9999
    · rw [if_pos z_y9] at r1_y9
      exact ⟨-j_y9, by rw [Int.mul_neg]; omega⟩
    · rw [if_neg z_y9] at r1_y9
      exact absurd r1_y9.symm r3_y9
  · rw [stO_o q_y9] at r1_y9
    by_cases z_y9 : 1 ≤ a_y9 + H_y9 4 (l_y9 / 2) ∧ a_y9 + H_y9 4 (l_y9 / 2) ≤ 9999
    · rw [if_pos z_y9] at r1_y9
      exact ⟨j_y9, by omega⟩
    · rw [if_neg z_y9] at r1_y9
      exact absurd r1_y9.symm r3_y9
/-- whoever is reached lies some steps' common divisors away -/
theorem rsp_dvd {H_y9 : HD} (V_y9 : hdv H_y9) {d_y9 : Int} (S_y9 : strd H_y9 d_y9) {u_y9 : Int} {f_y9 nx_y9 en_y9 : Int → Int} (F_y9 : rsp 10000 (2 * H_y9 3 0) (stO H_y9) (stC H_y9) (fun t_y9 => t_y9 = u_y9) f_y9 nx_y9 en_y9) : ∀ (m_y9 : Nat) (w_y9 : Int), f_y9 w_y9 ≤ m_y9 → 1 ≤ w_y9 → w_y9 < 10000 → f_y9 w_y9 ≠ 1152921504606846976 → ∃ j_y9, w_y9 = u_y9 + d_y9 * j_y9 := by
  have K_y9 := st_ok V_y9
  have zero : ∀ w_y9, 1 ≤ w_y9 → w_y9 < 10000 → f_y9 w_y9 = 0 → ∃ j_y9, w_y9 = u_y9 + d_y9 * j_y9 := fun w_y9 w0_y9 w1_y9 z_y9 => by
    have : w_y9 = u_y9 := (F_y9.2.1 w_y9 w0_y9 w1_y9).mp z_y9
    exact ⟨0, by rw [Int.mul_zero]; omega⟩
  intro m_y9
  induction m_y9 with
  | zero =>
    intro w_y9 e_y9 w0_y9 w1_y9 _
    have b_y9 := (F_y9.1 w_y9 w0_y9 w1_y9).1
    exact zero w_y9 w0_y9 w1_y9 (by omega)
  | succ m_y9 ih_y9 =>
    intro w_y9 e_y9 w0_y9 w1_y9 nf_y9
    by_cases z_y9 : f_y9 w_y9 = 0
    · exact zero w_y9 w0_y9 w1_y9 z_y9
    · obtain ⟨⟨c_y9, ed_y9, q_y9⟩, _⟩ := F_y9.2.2.2.1 w_y9 w0_y9 w1_y9 nf_y9 z_y9
      have eb_y9 := edl_b K_y9 w0_y9 w1_y9 ed_y9
      have bb_y9 := F_y9.1 (nx_y9 w_y9) eb_y9.1 eb_y9.2.1
      have b_y9 := F_y9.1 w_y9 w0_y9 w1_y9
      obtain ⟨i_y9, hi_y9⟩ := ih_y9 (nx_y9 w_y9) (by omega) eb_y9.1 eb_y9.2.1 (by omega)
      obtain ⟨j_y9, hj_y9⟩ := stO_dvd S_y9 ed_y9
      exact ⟨i_y9 - j_y9, by rw [Int.mul_sub]; omega⟩
/-! a search that isn't at its end -/
theorem DJ_lo {n_y9 lc_y9 : Int} {ov_y9 : Int → Int → Int} {ct_y9 : Int → Int} (K_y9 : ntok n_y9 lc_y9 ov_y9 ct_y9) {src_y9 : Int → Prop} {f_y9 nx_y9 en_y9 len_y9 ng_y9 eg_y9 : Int → Int} {wt_y9 : Int → Prop} {k_y9 : Int} (F_y9 : rsp n_y9 lc_y9 ov_y9 ct_y9 src_y9 f_y9 nx_y9 en_y9) (D_y9 : DJ n_y9 lc_y9 ov_y9 ct_y9 src_y9 len_y9 ng_y9 eg_y9 wt_y9 k_y9) : ∀ (m_y9 : Nat) (w_y9 : Int), len_y9 w_y9 ≤ m_y9 → 1 ≤ w_y9 → w_y9 < n_y9 → f_y9 w_y9 ≤ len_y9 w_y9 := by
  obtain ⟨d1_y9, d2_y9, d3_y9, d4_y9, d5_y9, d6_y9, _⟩ := D_y9
  have zero : ∀ w_y9, 1 ≤ w_y9 → w_y9 < n_y9 → len_y9 w_y9 = 0 → f_y9 w_y9 ≤ len_y9 w_y9 := fun w_y9 w0_y9 w1_y9 z_y9 => by
    have := (F_y9.2.1 w_y9 w0_y9 w1_y9).mpr ((d2_y9 w_y9 w0_y9 w1_y9).mp z_y9)
    omega
  intro m_y9
  induction m_y9 with
  | zero =>
    intro w_y9 e_y9 w0_y9 w1_y9
    have b_y9 := (d1_y9 w_y9 w0_y9 w1_y9).1
    exact zero w_y9 w0_y9 w1_y9 (by omega)
  | succ m_y9 ih_y9 =>
    intro w_y9 e_y9 w0_y9 w1_y9
    have b_y9 := d1_y9 w_y9 w0_y9 w1_y9
    have fw_y9 := F_y9.1 w_y9 w0_y9 w1_y9
    by_cases z_y9 : len_y9 w_y9 = 0
    · exact zero w_y9 w0_y9 w1_y9 z_y9
    · by_cases y_y9 : len_y9 w_y9 = 1152921504606846976
      · omega
      · obtain ⟨a_y9, c_y9, sa_y9, ed_y9, q_y9⟩ := d6_y9 w_y9 w0_y9 w1_y9 y_y9 z_y9
        have ba_y9 := d1_y9 a_y9 sa_y9.1 sa_y9.2.1
        have na_y9 := sa_y9.2.2.1
        have eb_y9 := edl_b K_y9 sa_y9.1 sa_y9.2.1 ed_y9
        have k1_y9 := ih_y9 a_y9 (by omega) sa_y9.1 sa_y9.2.1
        have k2_y9 := F_y9.2.2.1 a_y9 w_y9 c_y9 sa_y9.1 sa_y9.2.1 (by omega) ed_y9
        omega
theorem DJ_up {n_y9 lc_y9 : Int} {ov_y9 : Int → Int → Int} {ct_y9 : Int → Int} (K_y9 : ntok n_y9 lc_y9 ov_y9 ct_y9) {src_y9 : Int → Prop} {f_y9 nx_y9 en_y9 len_y9 ng_y9 eg_y9 : Int → Int} {wt_y9 : Int → Prop} {k_y9 : Int} (F_y9 : rsp n_y9 lc_y9 ov_y9 ct_y9 src_y9 f_y9 nx_y9 en_y9) (D_y9 : DJ n_y9 lc_y9 ov_y9 ct_y9 src_y9 len_y9 ng_y9 eg_y9 wt_y9 k_y9) : ∀ (m_y9 : Nat) (w_y9 : Int), f_y9 w_y9 ≤ m_y9 → 1 ≤ w_y9 → w_y9 < n_y9 → f_y9 w_y9 ≠ 1152921504606846976 → len_y9 w_y9 ≤ f_y9 w_y9 ∨ ∃ b_y9, wt_y9 b_y9 ∧ len_y9 b_y9 ≤ f_y9 w_y9 := by
  obtain ⟨d1_y9, d2_y9, d3_y9, d4_y9, d5_y9, d6_y9, _⟩ := D_y9
  have zero : ∀ w_y9, 1 ≤ w_y9 → w_y9 < n_y9 → f_y9 w_y9 = 0 → len_y9 w_y9 ≤ f_y9 w_y9 ∨ ∃ b_y9, wt_y9 b_y9 ∧ len_y9 b_y9 ≤ f_y9 w_y9 := fun w_y9 w0_y9 w1_y9 z_y9 => by
    have := (d2_y9 w_y9 w0_y9 w1_y9).mpr ((F_y9.2.1 w_y9 w0_y9 w1_y9).mp z_y9)
    exact Or.inl (by omega)
  intro m_y9
  induction m_y9 with
  | zero =>
    intro w_y9 e_y9 w0_y9 w1_y9 _
    have b_y9 := (F_y9.1 w_y9 w0_y9 w1_y9).1
    exact zero w_y9 w0_y9 w1_y9 (by omega)
  | succ m_y9 ih_y9 =>
    intro w_y9 e_y9 w0_y9 w1_y9 nf_y9
    have b_y9 := F_y9.1 w_y9 w0_y9 w1_y9
    by_cases z_y9 : f_y9 w_y9 = 0
    · exact zero w_y9 w0_y9 w1_y9 z_y9
    · obtain ⟨⟨c_y9, ed_y9, q_y9⟩, _⟩ := F_y9.2.2.2.1 w_y9 w0_y9 w1_y9 nf_y9 z_y9
      have eb_y9 := edl_b K_y9 w0_y9 w1_y9 ed_y9
      have bb_y9 := F_y9.1 (nx_y9 w_y9) eb_y9.1 eb_y9.2.1
      rcases ih_y9 (nx_y9 w_y9) (by omega) eb_y9.1 eb_y9.2.1 (by omega) with y_y9 | ⟨a_y9, wa, y_y9⟩
      · by_cases t_y9 : wt_y9 (nx_y9 w_y9)
        · exact Or.inr ⟨nx_y9 w_y9, t_y9, by omega⟩
        · have k2_y9 := d5_y9 (nx_y9 w_y9) w_y9 c_y9 ⟨eb_y9.1, eb_y9.2.1, by omega, t_y9⟩ (K_y9.2.2.2.2 w_y9 (nx_y9 w_y9) c_y9 w0_y9 w1_y9 ed_y9)
          exact Or.inl (by omega)
      · exact Or.inr ⟨a_y9, wa, by omega⟩
/-- whoever is done with has its row -/
theorem DJ_set {n_y9 lc_y9 : Int} {ov_y9 : Int → Int → Int} {ct_y9 : Int → Int} (K_y9 : ntok n_y9 lc_y9 ov_y9 ct_y9) {src_y9 : Int → Prop} {f_y9 nx_y9 en_y9 len_y9 ng_y9 eg_y9 : Int → Int} {wt_y9 : Int → Prop} {k_y9 : Int} (F_y9 : rsp n_y9 lc_y9 ov_y9 ct_y9 src_y9 f_y9 nx_y9 en_y9) (D_y9 : DJ n_y9 lc_y9 ov_y9 ct_y9 src_y9 len_y9 ng_y9 eg_y9 wt_y9 k_y9) {w_y9 : Int} (s_y9 : stl n_y9 len_y9 wt_y9 w_y9) : len_y9 w_y9 = f_y9 w_y9 := by
  have b_y9 := D_y9.1 w_y9 s_y9.1 s_y9.2.1
  have fw_y9 := F_y9.1 w_y9 s_y9.1 s_y9.2.1
  have lo_y9 := DJ_lo K_y9 F_y9 D_y9 (len_y9 w_y9).toNat w_y9 (by omega) s_y9.1 s_y9.2.1
  have ns_y9 := s_y9.2.2.1
  rcases DJ_up K_y9 F_y9 D_y9 (f_y9 w_y9).toNat w_y9 (by omega) s_y9.1 s_y9.2.1 (by omega) with y_y9 | ⟨a_y9, wa, y_y9⟩
  · omega
  · have := D_y9.2.2.2.1 w_y9 a_y9 s_y9 wa
    omega
/-- a row of no more than so much cost -/
def nea (c_y9 : Int) (f_y9 : Int → Int) (w_y9 : Int) : Prop := f_y9 w_y9 ≠ 1152921504606846976 ∧ f_y9 w_y9 / 16384 ≤ c_y9
theorem nea_rf {n_y9 lc_y9 : Int} {ov_y9 : Int → Int → Int} {ct_y9 : Int → Int} {u_y9 c_y9 : Int} {f_y9 nx_y9 en_y9 : Int → Int} (F_y9 : rsp n_y9 lc_y9 ov_y9 ct_y9 (fun t_y9 => t_y9 = u_y9) f_y9 nx_y9 en_y9) (u0_y9 : 1 ≤ u_y9) (u1_y9 : u_y9 < n_y9) (c0_y9 : 0 ≤ c_y9) : nea c_y9 f_y9 u_y9 := by
  have : f_y9 u_y9 = 0 := (F_y9.2.1 u_y9 u0_y9 u1_y9).mpr rfl
  unfold nea
  omega
theorem nea_sy {n_y9 lc_y9 : Int} {ov_y9 : Int → Int → Int} {ct_y9 : Int → Int} (K_y9 : ntok n_y9 lc_y9 ov_y9 ct_y9) {u_y9 v_y9 c_y9 : Int} (u0_y9 : 1 ≤ u_y9) (u1_y9 : u_y9 < n_y9) (v0_y9 : 1 ≤ v_y9) (v1_y9 : v_y9 < n_y9) {f_y9 nx_y9 en_y9 g_y9 ng_y9 eg_y9 : Int → Int} (F_y9 : rsp n_y9 lc_y9 ov_y9 ct_y9 (fun t_y9 => t_y9 = u_y9) f_y9 nx_y9 en_y9) (G_y9 : rsp n_y9 lc_y9 ov_y9 ct_y9 (fun t_y9 => t_y9 = v_y9) g_y9 ng_y9 eg_y9) : nea c_y9 f_y9 v_y9 ↔ nea c_y9 g_y9 u_y9 := by
  unfold nea
  rw [rsp_sym K_y9 u0_y9 u1_y9 v0_y9 v1_y9 F_y9 G_y9]
/-- it ends where all that wait cost more -/
theorem DJ_cut {n_y9 lc_y9 : Int} {ov_y9 : Int → Int → Int} {ct_y9 : Int → Int} (K_y9 : ntok n_y9 lc_y9 ov_y9 ct_y9) {src_y9 : Int → Prop} {f_y9 nx_y9 en_y9 len_y9 ng_y9 eg_y9 : Int → Int} {wt_y9 : Int → Prop} {k_y9 c_y9 : Int} (F_y9 : rsp n_y9 lc_y9 ov_y9 ct_y9 src_y9 f_y9 nx_y9 en_y9) (D_y9 : DJ n_y9 lc_y9 ov_y9 ct_y9 src_y9 len_y9 ng_y9 eg_y9 wt_y9 k_y9) (far_y9 : ∀ b_y9, wt_y9 b_y9 → c_y9 < len_y9 b_y9 / 16384) {w_y9 : Int} (w0_y9 : 1 ≤ w_y9) (w1_y9 : w_y9 < n_y9) : nea c_y9 len_y9 w_y9 ↔ nea c_y9 f_y9 w_y9 := by
  have b_y9 := D_y9.1 w_y9 w0_y9 w1_y9
  have fw_y9 := F_y9.1 w_y9 w0_y9 w1_y9
  have lo_y9 := DJ_lo K_y9 F_y9 D_y9 (len_y9 w_y9).toNat w_y9 (by omega) w0_y9 w1_y9
  unfold nea
  constructor
  · rintro ⟨r1_y9, r2_y9⟩
    omega
  · rintro ⟨r1_y9, r2_y9⟩
    rcases DJ_up K_y9 F_y9 D_y9 (f_y9 w_y9).toNat w_y9 (by omega) w0_y9 w1_y9 r1_y9 with y_y9 | ⟨a_y9, wa, y_y9⟩
    · omega
    · have := far_y9 a_y9 wa
      omega
/-- it ends where all that can be reached are done with -/
theorem DJ_all {H_y9 : HD} (V_y9 : hdv H_y9) {d_y9 u_y9 : Int} (S_y9 : strd H_y9 d_y9) {f_y9 nx_y9 en_y9 len_y9 ng_y9 eg_y9 : Int → Int} {wt_y9 : Int → Prop} {k_y9 c_y9 lst_y9 : Int} (F_y9 : rsp 10000 (2 * H_y9 3 0) (stO H_y9) (stC H_y9) (fun t_y9 => t_y9 = u_y9) f_y9 nx_y9 en_y9) (D_y9 : DJ 10000 (2 * H_y9 3 0) (stO H_y9) (stC H_y9) (fun t_y9 => t_y9 = u_y9) len_y9 ng_y9 eg_y9 wt_y9 k_y9) (al_y9 : ∀ j_y9, u_y9 < u_y9 + d_y9 * j_y9 → u_y9 + d_y9 * j_y9 ≤ lst_y9 → stl 10000 len_y9 wt_y9 (u_y9 + d_y9 * j_y9)) {w_y9 : Int} (w0_y9 : u_y9 < w_y9) (w1_y9 : w_y9 ≤ lst_y9) (u0_y9 : 1 ≤ u_y9) (l1_y9 : lst_y9 ≤ 9999) : nea c_y9 len_y9 w_y9 ↔ nea c_y9 f_y9 w_y9 := by
  have K_y9 := st_ok V_y9
  have b_y9 := D_y9.1 w_y9 (by omega) (by omega)
  have fw_y9 := F_y9.1 w_y9 (by omega) (by omega)
  have lo_y9 := DJ_lo K_y9 F_y9 D_y9 (len_y9 w_y9).toNat w_y9 (by omega) (by omega) (by omega)
  by_cases z_y9 : ∃ j_y9, w_y9 = u_y9 + d_y9 * j_y9
  · obtain ⟨j_y9, hj_y9⟩ := z_y9
    have s_y9 := al_y9 j_y9 (by omega) (by omega)
    rw [← hj_y9] at s_y9
    have := DJ_set K_y9 F_y9 D_y9 s_y9
    unfold nea
    rw [this]
  · have nf_y9 : f_y9 w_y9 = 1152921504606846976 := Classical.byContradiction fun y_y9 => z_y9 (rsp_dvd V_y9 S_y9 F_y9 (f_y9 w_y9).toNat w_y9 (by omega) (by omega) (by omega) y_y9)
    unfold nea
    omega
