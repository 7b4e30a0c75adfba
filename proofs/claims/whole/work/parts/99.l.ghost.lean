/-! THE PURE PART, least: a search's step without the next ones (they are thought of) -/
theorem min_ex {P_y9 : Int → Prop} (p0_y9 : ∀ b_y9, P_y9 b_y9 → 0 ≤ b_y9) : ∀ (m_y9 : Nat) (b_y9 : Int), P_y9 b_y9 → b_y9 ≤ m_y9 → ∃ a_y9, P_y9 a_y9 ∧ ∀ w_y9, P_y9 w_y9 → a_y9 ≤ w_y9 := by
  intro m_y9
  induction m_y9 with
  | zero =>
    intro b_y9 pb_y9 e_y9
    exact ⟨b_y9, pb_y9, fun w_y9 pw_y9 => by have := p0_y9 w_y9 pw_y9; omega⟩
  | succ m_y9 ih_y9 =>
    intro b_y9 pb_y9 e_y9
    by_cases z_y9 : ∃ a_y9, P_y9 a_y9 ∧ a_y9 < b_y9
    · obtain ⟨a_y9, pa_y9, y_y9⟩ := z_y9
      exact ih_y9 a_y9 pa_y9 (by omega)
    · exact ⟨b_y9, pb_y9, fun w_y9 pw_y9 => Classical.byContradiction fun y_y9 => z_y9 ⟨w_y9, pw_y9, by omega⟩⟩
theorem DJ_step0 {n_y9 lc_y9 : Int} {ov_y9 : Int → Int → Int} {ct_y9 : Int → Int} (K_y9 : ntok n_y9 lc_y9 ov_y9 ct_y9) {src_y9 : Int → Prop} {len_y9 nx_y9 en_y9 lenq_y9 : Int → Int} {wt_y9 wtq_y9 : Int → Prop} {k_y9 v_y9 : Int} (n1_y9 : n_y9 ≤ 10000) (D_y9 : DJ n_y9 lc_y9 ov_y9 ct_y9 src_y9 len_y9 nx_y9 en_y9 wt_y9 k_y9) (hv_y9 : wt_y9 v_y9) (vm_y9 : ∀ u_y9, wt_y9 u_y9 → len_y9 v_y9 ≤ len_y9 u_y9)
    (hl : ∀ u_y9, 1 ≤ u_y9 → u_y9 < n_y9 → lenq_y9 u_y9 ≤ len_y9 u_y9 ∧ (lenq_y9 u_y9 = len_y9 u_y9 ∨ ∃ c_y9, edl lc_y9 ov_y9 ct_y9 v_y9 u_y9 c_y9 ∧ lenq_y9 u_y9 = len_y9 v_y9 + 16384 * c_y9 + 1)) (hr_y9 : ∀ u_y9 c_y9, edl lc_y9 ov_y9 ct_y9 v_y9 u_y9 c_y9 → lenq_y9 u_y9 ≤ len_y9 v_y9 + 16384 * c_y9 + 1)
    (hw_y9 : ∀ u_y9, wtq_y9 u_y9 ↔ (1 ≤ u_y9 ∧ u_y9 < n_y9 ∧ ((wt_y9 u_y9 ∧ u_y9 ≠ v_y9) ∨ lenq_y9 u_y9 ≠ len_y9 u_y9))) : (∃ nxq_y9 enq_y9, DJ n_y9 lc_y9 ov_y9 ct_y9 src_y9 lenq_y9 nxq_y9 enq_y9 wtq_y9 (k_y9 + 1)) ∧ ∀ a_y9, stl n_y9 lenq_y9 wtq_y9 a_y9 ↔ (stl n_y9 len_y9 wt_y9 a_y9 ∨ a_y9 = v_y9) := by
  have Dq_y9 := D_y9
  obtain ⟨d1_y9, d2_y9, d3_y9, d4_y9, d5_y9, d6_y9, d7_y9, d8_y9, d9_y9, d10_y9⟩ := Dq_y9
  obtain ⟨v0_y9, v1_y9, v2_y9⟩ := d3_y9 v_y9 hv_y9
  have dv := d1_y9 v_y9 v0_y9 v1_y9
  refine ⟨?_, fun a_y9 => ?_⟩
  · by_cases z_y9 : len_y9 v_y9 = 0
    · exact ⟨nx_y9, en_y9, DJ_step K_y9 n1_y9 D_y9 hv_y9 vm_y9 (fun _ => ⟨rfl, rfl⟩) (fun y_y9 => absurd z_y9 y_y9) (fun _ _ => ⟨rfl, rfl⟩) hl hr_y9 hw_y9⟩
    · obtain ⟨a_y9, c_y9, sa_y9, ed_y9, q_y9⟩ := d6_y9 v_y9 v0_y9 v1_y9 v2_y9 z_y9
      obtain ⟨b_y9, pb_y9, mb_y9⟩ := min_ex (P_y9 := fun b_y9 => ∃ c_y9, edl lc_y9 ov_y9 ct_y9 v_y9 b_y9 c_y9 ∧ len_y9 b_y9 + 16384 * c_y9 + 1 = len_y9 v_y9) (fun b_y9 ⟨c_y9, r_y9, _⟩ => by have := edl_b K_y9 v0_y9 v1_y9 r_y9; omega) a_y9.toNat a_y9 ⟨c_y9, K_y9.2.2.2.2 a_y9 v_y9 c_y9 sa_y9.1 sa_y9.2.1 ed_y9, q_y9.symm⟩ (by have := sa_y9.1; omega)
      exact ⟨upf nx_y9 v_y9 b_y9, upf en_y9 v_y9 (en_y9 b_y9), DJ_step K_y9 n1_y9 D_y9 hv_y9 vm_y9 (fun y_y9 => absurd y_y9 z_y9) (fun _ => Or.inr (by rw [upf_s, upf_s]; exact ⟨pb_y9, fun t_y9 c_y9 r_y9 y_y9 => mb_y9 t_y9 ⟨c_y9, r_y9, y_y9⟩, rfl⟩)) (fun u_y9 nu_y9 => ⟨upf_n _ nu_y9, upf_n _ nu_y9⟩) hl hr_y9 hw_y9⟩
  · have lv_y9 : lenq_y9 v_y9 = len_y9 v_y9 := by
      rcases (hl v_y9 v0_y9 v1_y9).2 with q_y9 | ⟨c_y9, r_y9, q_y9⟩
      · exact q_y9
      · have := edl_b K_y9 v0_y9 v1_y9 r_y9
        have := (hl v_y9 v0_y9 v1_y9).1
        omega
    have nwv_y9 : ¬ wtq_y9 v_y9 := fun w_y9 => by
      rcases ((hw_y9 v_y9).mp w_y9).2.2 with q_y9 | q_y9
      · exact q_y9.2 rfl
      · exact q_y9 lv_y9
    have ls_y9 : ∀ a_y9, stl n_y9 len_y9 wt_y9 a_y9 → lenq_y9 a_y9 = len_y9 a_y9 := fun a_y9 sa_y9 => by
      rcases (hl a_y9 sa_y9.1 sa_y9.2.1).2 with q_y9 | ⟨c_y9, r_y9, q_y9⟩
      · exact q_y9
      · have := edl_b K_y9 v0_y9 v1_y9 r_y9
        have r1_y9 := (hl a_y9 sa_y9.1 sa_y9.2.1).1
        have r2_y9 := d4_y9 a_y9 v_y9 sa_y9 hv_y9
        omega
    constructor
    · intro sa_y9
      by_cases q_y9 : a_y9 = v_y9
      · exact Or.inr q_y9
      · left
        have eq_y9 : lenq_y9 a_y9 = len_y9 a_y9 := by
          by_cases z_y9 : lenq_y9 a_y9 = len_y9 a_y9
          · exact z_y9
          · exact absurd ((hw_y9 a_y9).mpr ⟨sa_y9.1, sa_y9.2.1, Or.inr z_y9⟩) sa_y9.2.2.2
        exact ⟨sa_y9.1, sa_y9.2.1, by rw [← eq_y9]; exact sa_y9.2.2.1, fun w_y9 => sa_y9.2.2.2 ((hw_y9 a_y9).mpr ⟨sa_y9.1, sa_y9.2.1, Or.inl ⟨w_y9, q_y9⟩⟩)⟩
    · rintro (sa_y9 | q_y9)
      · exact ⟨sa_y9.1, sa_y9.2.1, by rw [ls_y9 a_y9 sa_y9]; exact sa_y9.2.2.1, fun w_y9 => by
          rcases ((hw_y9 a_y9).mp w_y9).2.2 with q_y9 | q_y9
          · exact sa_y9.2.2.2 q_y9.1
          · exact q_y9 (ls_y9 a_y9 sa_y9)⟩
      · rw [q_y9]
        exact ⟨v0_y9, v1_y9, by rw [lv_y9]; exact v2_y9, nwv_y9⟩
theorem cn_le {p_y9 q_y9 : Int → Prop} : ∀ (n_y9 : Nat) (a_y9 : Int), (∀ i_y9, a_y9 ≤ i_y9 → i_y9 < a_y9 + n_y9 → p_y9 i_y9 → q_y9 i_y9) → cn p_y9 n_y9 a_y9 ≤ cn q_y9 n_y9 a_y9 := by
  intro n_y9
  induction n_y9 with
  | zero => intro a_y9 _; exact Int.le_refl _
  | succ n_y9 ih_y9 =>
    intro a_y9 s_y9
    rw [cn_s, cn_s]
    have r1_y9 := ih_y9 (a_y9 + 1) fun i_y9 i0_y9 i1_y9 => s_y9 i_y9 (by omega) (by omega)
    have r2_y9 := s_y9 a_y9 (by omega) (by omega)
    by_cases z_y9 : p_y9 a_y9
    · rw [cb_t z_y9, cb_t (r2_y9 z_y9)]
      omega
    · have := cb_01 (q_y9 a_y9)
      rw [cb_f z_y9]
      omega
theorem cn_full {p_y9 : Int → Prop} : ∀ (n_y9 : Nat) (a_y9 : Int), (n_y9 : Int) ≤ cn p_y9 n_y9 a_y9 → ∀ i_y9, a_y9 ≤ i_y9 → i_y9 < a_y9 + n_y9 → p_y9 i_y9 := by
  intro n_y9
  induction n_y9 with
  | zero => intro a_y9 _ i_y9 i0_y9 i1_y9; omega
  | succ n_y9 ih_y9 =>
    intro a_y9 e_y9 i_y9 i0_y9 i1_y9
    rw [cn_s] at e_y9
    have b_y9 := cn_b p_y9 n_y9 (a_y9 + 1)
    by_cases z_y9 : p_y9 a_y9
    · rw [cb_t z_y9] at e_y9
      by_cases y_y9 : i_y9 = a_y9
      · rw [y_y9]; exact z_y9
      · exact ih_y9 (a_y9 + 1) (by omega) i_y9 (by omega) (by omega)
    · rw [cb_f z_y9] at e_y9
      omega
