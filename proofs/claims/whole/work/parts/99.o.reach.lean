/-! THE PURE PART, least: the class's trial search, whole -/
theorem no_near {H_y9 : HD} {u_y9 v_y9 c_y9 : Int} {f_y9 nx_y9 en_y9 : Int → Int} (V_y9 : hdv H_y9) (F_y9 : rsp 10000 (2 * H_y9 3 0) (stO H_y9) (stC H_y9) (fun t_y9 => t_y9 = u_y9) f_y9 nx_y9 en_y9) (v0_y9 : 1 ≤ v_y9) (v1_y9 : v_y9 < 10000) (uv_y9 : u_y9 < v_y9) (z_y9 : H_y9 3 0 = 0) : ¬ nea c_y9 f_y9 v_y9 := fun ⟨n_y9, _⟩ => by
  have n0_y9 : f_y9 v_y9 ≠ 0 := fun y_y9 => by
    have : v_y9 = u_y9 := (F_y9.2.1 v_y9 v0_y9 v1_y9).mp y_y9
    omega
  obtain ⟨⟨t_y9, ⟨l_y9, l0_y9, l1_y9, _⟩, _⟩, _⟩ := F_y9.2.2.2.1 v_y9 v0_y9 v1_y9 n_y9 n0_y9
  omega
theorem no_near2 {H_y9 : HD} {u_y9 v_y9 c_y9 d_y9 : Int} {f_y9 nx_y9 en_y9 : Int → Int} (V_y9 : hdv H_y9) (F_y9 : rsp 10000 (2 * H_y9 3 0) (stO H_y9) (stC H_y9) (fun t_y9 => t_y9 = u_y9) f_y9 nx_y9 en_y9) (S_y9 : strd H_y9 d_y9) (d1_y9 : 1 ≤ d_y9) (v0_y9 : 1 ≤ v_y9) (v1_y9 : v_y9 < 10000) (uv_y9 : u_y9 < v_y9) (z_y9 : v_y9 - u_y9 < d_y9) : ¬ nea c_y9 f_y9 v_y9 := fun ⟨n_y9, _⟩ => by
  obtain ⟨j_y9, hj_y9⟩ := rsp_dvd V_y9 S_y9 F_y9 (f_y9 v_y9).toNat v_y9 (by have := (F_y9.1 v_y9 v0_y9 v1_y9).1; omega) v0_y9 v1_y9 n_y9
  have r1_y9 := mul_pos1 d1_y9 (by omega : 0 < d_y9 * j_y9)
  have r2_y9 := Int.mul_le_mul_of_nonneg_left r1_y9 (show 0 ≤ d_y9 by omega)
  rw [Int.mul_one] at r2_y9
  omega
theorem DJ_new {n_y9 lc_y9 : Int} {ov_y9 : Int → Int → Int} {ct_y9 len_y9 : Int → Int} {wt_y9 : Int → Prop} {u_y9 : Int} (lu_y9 : ∀ t_y9, 1 ≤ t_y9 → t_y9 < n_y9 → len_y9 t_y9 = if t_y9 = u_y9 then 0 else 1152921504606846976) (wu_y9 : ∀ t_y9, wt_y9 t_y9 ↔ (1 ≤ t_y9 ∧ t_y9 < n_y9 ∧ t_y9 = u_y9)) : DJ n_y9 lc_y9 ov_y9 ct_y9 (fun t_y9 => t_y9 = u_y9) len_y9 (fun _ => 0) (fun t_y9 => if t_y9 = u_y9 then u_y9 else 0) wt_y9 0 ∧ ∀ a_y9, ¬ stl n_y9 len_y9 wt_y9 a_y9 := by
  have le_y9 : ∀ t_y9, 1 ≤ t_y9 → t_y9 < n_y9 → t_y9 = u_y9 → len_y9 t_y9 = 0 := fun t_y9 t0_y9 t1_y9 z_y9 => by rw [lu_y9 t_y9 t0_y9 t1_y9, if_pos z_y9]
  have ln_y9 : ∀ t_y9, 1 ≤ t_y9 → t_y9 < n_y9 → t_y9 ≠ u_y9 → len_y9 t_y9 = 1152921504606846976 := fun t_y9 t0_y9 t1_y9 z_y9 => by rw [lu_y9 t_y9 t0_y9 t1_y9, if_neg z_y9]
  have ns_y9 : ∀ a_y9, ¬ stl n_y9 len_y9 wt_y9 a_y9 := fun a_y9 ⟨q0_y9, q1_y9, q2_y9, q3_y9⟩ => by
    by_cases z_y9 : a_y9 = u_y9
    · exact q3_y9 ((wu_y9 a_y9).mpr ⟨q0_y9, q1_y9, z_y9⟩)
    · exact q2_y9 (ln_y9 a_y9 q0_y9 q1_y9 z_y9)
  refine ⟨⟨fun t_y9 t0_y9 t1_y9 => ?_, fun t_y9 t0_y9 t1_y9 => ?_, fun t_y9 q_y9 => ?_, fun a_y9 b_y9 s_y9 => absurd s_y9 (ns_y9 a_y9), fun a_y9 b_y9 c_y9 s_y9 => absurd s_y9 (ns_y9 a_y9), fun t_y9 t0_y9 t1_y9 q1_y9 q2_y9 => ?_, fun t_y9 s_y9 => absurd s_y9 (ns_y9 t_y9), fun t_y9 t0_y9 t1_y9 q_y9 => ?_, fun t_y9 t0_y9 t1_y9 q_y9 => ?_, cn_0 _ _ fun t_y9 _ _ => ns_y9 t_y9⟩, ns_y9⟩
  · by_cases z_y9 : t_y9 = u_y9
    · rw [le_y9 t_y9 t0_y9 t1_y9 z_y9]
      exact ⟨by decide, by decide, fun _ => ⟨by decide, by decide⟩⟩
    · rw [ln_y9 t_y9 t0_y9 t1_y9 z_y9]
      exact ⟨by decide, by decide, fun q_y9 => absurd rfl q_y9⟩
  · constructor
    · intro q_y9
      by_cases z_y9 : t_y9 = u_y9
      · exact z_y9
      · rw [ln_y9 t_y9 t0_y9 t1_y9 z_y9] at q_y9
        exact absurd q_y9 (by decide)
    · exact le_y9 t_y9 t0_y9 t1_y9
  · obtain ⟨q0_y9, q1_y9, q2_y9⟩ := (wu_y9 t_y9).mp q_y9
    rw [le_y9 t_y9 q0_y9 q1_y9 q2_y9]
    exact ⟨q0_y9, q1_y9, by decide⟩
  · exfalso
    by_cases z_y9 : t_y9 = u_y9
    · exact q2_y9 (le_y9 t_y9 t0_y9 t1_y9 z_y9)
    · exact q1_y9 (ln_y9 t_y9 t0_y9 t1_y9 z_y9)
  · by_cases z_y9 : t_y9 = u_y9
    · show (if t_y9 = u_y9 then u_y9 else 0) = t_y9
      rw [if_pos z_y9]
      exact z_y9.symm
    · rw [ln_y9 t_y9 t0_y9 t1_y9 z_y9] at q_y9
      exact absurd q_y9 (by decide)
  · by_cases z_y9 : t_y9 = u_y9
    · rw [le_y9 t_y9 t0_y9 t1_y9 z_y9] at q_y9
      exact absurd q_y9 (by decide)
    · show (if t_y9 = u_y9 then u_y9 else 0) = 0 ∧ (0 : Int) = 0
      rw [if_neg z_y9]
      exact ⟨rfl, rfl⟩
theorem D_reach {H_y9 : HD} (V_y9 : hdv H_y9) {q_y9 w_y9 hp_y9 u_y9 lst_y9 c_y9 : Int} {h_y9 : mH} (C_y9 : chl h_y9 q_y9) (Dc_y9 : chd h_y9 q_y9 H_y9) (G_y9 : hph h_y9 hp_y9) (R_y9 : rwo h_y9 w_y9 10000) (o_y9 : hp_y9 + 2 < w_y9) (dis_y9 : q_y9 + 11 < hp_y9 ∨ hp_y9 + 2 < q_y9) (dis2_y9 : q_y9 + 11 < w_y9 ∨ w_y9 + 3 < q_y9) (u0_y9 : 1 ≤ u_y9) (l1_y9 : lst_y9 ≤ 9999) (ul_y9 : u_y9 ≤ lst_y9) {f_y9 nx_y9 en_y9 : Int → Int} (F_y9 : rsp 10000 (2 * H_y9 3 0) (stO H_y9) (stC H_y9) (fun t_y9 => t_y9 = u_y9) f_y9 nx_y9 en_y9) :
    ∃ hq_y9 r_y9, Cl kRw_reach [vO 6 w_y9, vR 8 (q_y9 + 3), vR 3 hp_y9, vI u_y9, vI lst_y9, vI c_y9] h_y9 = some (some (vI r_y9), hq_y9) ∧ Ew (WFn hp_y9 w_y9) h_y9 hq_y9 ∧ hph hq_y9 hp_y9 ∧ rwo hq_y9 w_y9 10000 ∧ ((r_y9 = u_y9 ∧ ∀ v_y9, u_y9 < v_y9 → v_y9 ≤ lst_y9 → ¬ nea c_y9 f_y9 v_y9) ∨ (r_y9 = lst_y9 ∧ rdo hq_y9 hp_y9 w_y9 u_y9 lst_y9 c_y9 f_y9)) := by
  have S_y9 : strd H_y9 (h_y9.M (q_y9 + 3) 3) := Dc_y9.2.2.2.1
  have w0_y9 := R_y9.2.2.1
  have p0_y9 := G_y9.1
  have q0_y9 := C_y9.2.2.2.2.2.2.2
  rw [E_Rw_reach, gd_t (by omega)]
  by_cases z1_y9 : h_y9.M (q_y9 + 3) 3 < 1
  · have h30_y9 : H_y9 3 0 = 0 := by
      have r1_y9 := S_y9.2.2.2.1
      have r2_y9 := V_y9.2.1
      omega
    rw [if_pos z1_y9]
    exact ⟨h_y9, u_y9, rfl, Ew.rf _ _, G_y9, R_y9, Or.inl ⟨rfl, fun v_y9 v0_y9 v1_y9 => no_near V_y9 F_y9 (by omega) (by omega) v0_y9 h30_y9⟩⟩
  · rw [if_neg z1_y9, C_rwHas R_y9, Z_bI, bz_t (by omega), if_neg (by decide), gd_t (by omega), Z_wI (z := lst_y9 - u_y9) (by omega)]
    by_cases z2_y9 : lst_y9 - u_y9 < h_y9.M (q_y9 + 3) 3
    · rw [if_pos z2_y9]
      exact ⟨h_y9, u_y9, rfl, Ew.rf _ _, G_y9, R_y9, Or.inl ⟨rfl, fun v_y9 v0_y9 v1_y9 => no_near2 V_y9 F_y9 S_y9 (by omega) (by omega) (by omega) v0_y9 (by omega)⟩⟩
    · obtain ⟨d_y9, hd_y9⟩ : ∃ d_y9, d_y9 = h_y9.M (q_y9 + 3) 3 := ⟨_, rfl⟩
      rw [← hd_y9] at S_y9 z1_y9 z2_y9
      have d1_y9 : 1 ≤ d_y9 := by omega
      have gg0_y9 : 0 ≤ (lst_y9 - u_y9) / d_y9 := Int.ediv_nonneg (by omega) (by omega)
      have gb_y9 : (lst_y9 - u_y9) / d_y9 ≤ lst_y9 - u_y9 := by
        have r1_y9 := mul_out d1_y9 (Int.le_refl ((lst_y9 - u_y9) / d_y9))
        have r2_y9 := Int.mul_le_mul_of_nonneg_right d1_y9 gg0_y9
        rw [Int.one_mul] at r2_y9
        omega
      obtain ⟨h1_y9, e1_y9, x1_y9, f1_y9⟩ := C_fill (a := w_y9 + 1) (v := 1152921504606846976) (by omega) (by decide) (by decide : (10000 : Int) ≤ 20000) R_y9.2.1.1
      have y1_y9 : Ew (WFn hp_y9 w_y9) h_y9 h1_y9 := x1_y9.mono fun b_y9 k_y9 y_y9 => by unfold WFn; omega
      have R1_y9 : rwo h1_y9 w_y9 10000 := R_y9.ew o_y9 y1_y9
      have G1_y9 : hph h1_y9 hp_y9 := G_y9.cg (fun b_y9 k_y9 b0_y9 b1_y9 => x1_y9.2 b_y9 k_y9 fun y_y9 => by omega) (fun b_y9 _ _ => by rw [x1_y9.N])
      obtain ⟨n0_y9, n1_y9, W1_y9⟩ := G1_y9.2.2
      obtain ⟨h2_y9, e2_y9, x2_y9, P2_y9, W2_y9, Z2_y9⟩ := D_empty (hph_hpo G1_y9 R1_y9 o_y9) W1_y9 (by omega)
      have y2_y9 : Ew (WFn hp_y9 w_y9) h1_y9 h2_y9 := x2_y9.mono fun b_y9 k_y9 y_y9 => by unfold WFn; omega
      have R2_y9 : rwo h2_y9 w_y9 10000 := R1_y9.ew o_y9 y2_y9
      have G2_y9 : hph h2_y9 hp_y9 := hph_fin p0_y9 P2_y9 W2_y9
      have e3_y9 := C_know R2_y9 u0_y9 (by omega : u_y9 < 10000)
      have x3_y9 := know_ew h2_y9 w_y9 u_y9
      have l3_y9 : ∀ t_y9, 0 ≤ t_y9 → t_y9 < 10000 → ((h2_y9.set (w_y9 + 1) u_y9 0).set (w_y9 + 3) u_y9 u_y9).M (w_y9 + 1) t_y9 = if t_y9 = u_y9 then 0 else 1152921504606846976 := fun t_y9 t0_y9 t1_y9 => by
        rw [Z_Mn (by omega), Z_Ms]
        by_cases y_y9 : t_y9 = u_y9
        · rw [if_pos ⟨rfl, y_y9⟩, if_pos y_y9]
        · rw [if_neg (by omega), if_neg y_y9, x2_y9.2 (w_y9 + 1) t_y9 fun y_y9 => by omega]
          exact f1_y9 t_y9 t0_y9 t1_y9
      generalize (h2_y9.set (w_y9 + 1) u_y9 0).set (w_y9 + 3) u_y9 u_y9 = h3_y9 at e3_y9 x3_y9 l3_y9
      have y3_y9 : Ew (WFn hp_y9 w_y9) h2_y9 h3_y9 := x3_y9.mono fun b_y9 k_y9 y_y9 => by unfold WKn at y_y9; unfold WFn; omega
      have R3_y9 : rwo h3_y9 w_y9 10000 := R2_y9.ew o_y9 y3_y9
      have m3_y9 : ∀ b_y9 k_y9, b_y9 ≤ hp_y9 + 2 → h3_y9.M b_y9 k_y9 = h2_y9.M b_y9 k_y9 := fun b_y9 k_y9 hb_y9 => x3_y9.2 b_y9 k_y9 fun y_y9 => by unfold WKn at y_y9; omega
      have G3_y9 : hph h3_y9 hp_y9 := G2_y9.cg (fun b_y9 k_y9 _ b1_y9 => m3_y9 b_y9 k_y9 b1_y9) (fun b_y9 _ _ => by rw [x3_y9.N])
      have P3_y9 : hpo h3_y9 hp_y9 (hp_y9 + 1) (hp_y9 + 2) (w_y9 + 1) 0 10000 10000 := by
        have := hph_hpo G3_y9 R3_y9 o_y9
        rw [m3_y9 hp_y9 2 (by omega), P2_y9.2.2.1] at this
        exact this
      have W3_y9 : wfh (h3_y9.M (hp_y9 + 1)) (h3_y9.M (hp_y9 + 2)) 0 10000 10000 := by
        rw [show h3_y9.M (hp_y9 + 1) = h2_y9.M (hp_y9 + 1) from funext fun k_y9 => m3_y9 _ k_y9 (by omega), show h3_y9.M (hp_y9 + 2) = h2_y9.M (hp_y9 + 2) from funext fun k_y9 => m3_y9 _ k_y9 (by omega)]
        exact W2_y9
      obtain ⟨h4_y9, s4_y9, e4_y9, x4_y9, P4_y9, W4_y9, O4_y9, s41_y9, C4_y9⟩ := D_put (len := h3_y9.M (w_y9 + 1)) (lo := h3_y9.M (w_y9 + 1)) P3_y9 (fun _ _ _ => rfl) W3_y9 (fun t_y9 t0_y9 t1_y9 => by omega) u0_y9 (by omega : u_y9 < 10000) (fun t_y9 tn_y9 => rfl) (fun _ => Int.le_refl _)
      have y4_y9 : Ew (WFn hp_y9 w_y9) h3_y9 h4_y9 := x4_y9.mono fun p_y9 t_y9 y_y9 => by unfold WNP at y_y9; unfold WFn; omega
      have R4_y9 : rwo h4_y9 w_y9 10000 := R3_y9.ew o_y9 y4_y9
      have m4_y9 : h4_y9.M (w_y9 + 1) = h3_y9.M (w_y9 + 1) := funext fun t_y9 => x4_y9.2 _ t_y9 fun y_y9 => by unfold WNP at y_y9; omega
      have y14_y9 : Ew (WFn hp_y9 w_y9) h_y9 h4_y9 := ((y1_y9.tr y2_y9).tr y3_y9).tr y4_y9
      obtain ⟨D4_y9, ns_y9⟩ := DJ_new (n_y9 := 10000) (lc_y9 := 2 * H_y9 3 0) (ov_y9 := stO H_y9) (ct_y9 := stC H_y9) (len_y9 := h4_y9.M (w_y9 + 1)) (wt_y9 := wto h4_y9 hp_y9 10000) (u_y9 := u_y9) (fun t_y9 t0_y9 t1_y9 => by rw [m4_y9]; exact l3_y9 t_y9 (by omega) t1_y9) (fun t_y9 => by
        constructor
        · rintro ⟨r0_y9, r1_y9, r2_y9⟩
          refine ⟨r0_y9, r1_y9, ?_⟩
          rcases (C4_y9 t_y9).mp r2_y9 with y_y9 | y_y9
          · exact absurd ((m3_y9 (hp_y9 + 2) t_y9 (by omega)).trans (Z2_y9 t_y9 r0_y9 (by omega))) y_y9
          · exact y_y9
        · rintro ⟨r0_y9, r1_y9, r2_y9⟩
          exact ⟨r0_y9, r1_y9, (C4_y9 t_y9).mpr (Or.inr r2_y9)⟩)
      have out_y9 : ∀ b_y9 k_y9, q_y9 ≤ b_y9 → b_y9 ≤ q_y9 + 11 → ¬ WFn hp_y9 w_y9 b_y9 k_y9 := fun b_y9 k_y9 b0_y9 b1_y9 t_y9 => by
        unfold WFn at t_y9
        omega
      have c0_y9 : cn (fun j_y9 => stl 10000 (h4_y9.M (w_y9 + 1)) (wto h4_y9 hp_y9 10000) (u_y9 + d_y9 * j_y9)) ((lst_y9 - u_y9) / d_y9).toNat 1 = 0 := cn_0 _ _ fun j_y9 _ _ => ns_y9 _
      obtain ⟨h5_y9, r5_y9, x5_y9, ro_y9⟩ := D_reach10 V_y9 (x_y9 := q_y9 + 3) (c_y9 := c_y9) S_y9 d1_y9 p0_y9 o_y9 u0_y9 l1_y9 ul_y9 F_y9 (h0_y9 := h_y9) (fun hq_y9 x_y9 => nto_st V_y9 (C_y9.cg (fun b_y9 k_y9 z_y9 => x_y9.2 b_y9 k_y9 (out_y9 b_y9 k_y9 (by unfold plc at z_y9; omega) (by unfold plc at z_y9; omega))) (fun b_y9 _ _ => by rw [x_y9.N])) (Dc_y9.cg fun b_y9 k_y9 z_y9 => x_y9.2 b_y9 k_y9 (out_y9 b_y9 k_y9 (by omega) (by omega)))) 10000 0 ((lst_y9 - u_y9) / d_y9) vU h4_y9 s4_y9 _ _ (by decide) y14_y9 R4_y9 P4_y9 W4_y9 (by rw [m4_y9]; exact O4_y9) D4_y9 (by rw [c0_y9]; omega)
      refine ⟨h5_y9, lst_y9, ?_, y14_y9.tr x5_y9, ro_y9.1, ro_y9.2.1, Or.inr ⟨rfl, ro_y9⟩⟩
      rw [← hd_y9, if_neg z2_y9, gd_t (by omega), gd_t (by omega), R_y9.1.1, e1_y9, Z_bV, gd_t (by omega), e2_y9, Z_bV, e3_y9, Z_bV, gd_t (by omega), R3_y9.1.1, e4_y9, Z_bV, Z_tdiv (by omega), Z_wI (by omega)]
      exact r5_y9
