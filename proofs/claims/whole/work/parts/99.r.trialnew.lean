/-! THE PURE PART, least: the trial rows are made; far rows are there; what stands afterwards -/
theorem ex_rsp {H_y9 : HD} (V_y9 : hdv H_y9) {q_y9 w_y9 hp_y9 : Int} {h_y9 : mH} (C_y9 : chl h_y9 q_y9) (Dc_y9 : chd h_y9 q_y9 H_y9) (G_y9 : hph h_y9 hp_y9) (R_y9 : rwo h_y9 w_y9 10000) (o_y9 : hp_y9 + 2 < w_y9) (dis_y9 : q_y9 + 11 < hp_y9 ∨ hp_y9 + 2 < q_y9) (dis2_y9 : q_y9 + 11 < w_y9 ∨ w_y9 + 3 < q_y9) (u_y9 : Int) : ∃ L_y9 nx_y9 en_y9, rsp 10000 (2 * H_y9 3 0) (stO H_y9) (stC H_y9) (fun t_y9 => t_y9 = u_y9) L_y9 nx_y9 en_y9 := by
  obtain ⟨g_y9, eg_y9⟩ : ∃ g_y9 : mH, g_y9 = (fun b_y9 k_y9 => if b_y9 = w_y9 + 1 then (if k_y9 = u_y9 then 0 else 1152921504606846976) else if b_y9 = w_y9 + 2 then 0 else if b_y9 = w_y9 + 3 then (if k_y9 = u_y9 then u_y9 else 0) else h_y9.M b_y9 k_y9, h_y9.2) := ⟨_, rfl⟩
  have gM_y9 : ∀ b_y9 k_y9, g_y9.M b_y9 k_y9 = if b_y9 = w_y9 + 1 then (if k_y9 = u_y9 then 0 else 1152921504606846976) else if b_y9 = w_y9 + 2 then 0 else if b_y9 = w_y9 + 3 then (if k_y9 = u_y9 then u_y9 else 0) else h_y9.M b_y9 k_y9 := fun b_y9 k_y9 => congrFun (congrFun (congrArg Prod.fst eg_y9) b_y9) k_y9
  have x_y9 : Ew (WFn hp_y9 w_y9) h_y9 g_y9 := ⟨Eq.trans (congrArg Prod.snd eg_y9) rfl, fun b_y9 k_y9 nw_y9 => by
    unfold WFn at nw_y9
    rw [gM_y9, if_neg (by omega), if_neg (by omega), if_neg (by omega)]⟩
  have out_y9 : ∀ b_y9 k_y9, q_y9 ≤ b_y9 → b_y9 ≤ q_y9 + 11 → ¬ WFn hp_y9 w_y9 b_y9 k_y9 := fun b_y9 k_y9 b0_y9 b1_y9 t_y9 => by
    unfold WFn at t_y9
    omega
  have C1_y9 : chl g_y9 q_y9 := C_y9.cg (fun b_y9 k_y9 z_y9 => x_y9.2 b_y9 k_y9 (out_y9 b_y9 k_y9 (by unfold plc at z_y9; omega) (by unfold plc at z_y9; omega))) (fun b_y9 _ _ => by rw [x_y9.N])
  have D1_y9 : chd g_y9 q_y9 H_y9 := Dc_y9.cg fun b_y9 k_y9 z_y9 => x_y9.2 b_y9 k_y9 (out_y9 b_y9 k_y9 (by omega) (by omega))
  have G1_y9 : hph g_y9 hp_y9 := G_y9.cg (fun b_y9 k_y9 b0_y9 b1_y9 => by rw [gM_y9, if_neg (by omega), if_neg (by omega), if_neg (by omega)]) (fun b_y9 _ _ => by rw [x_y9.N])
  have R1_y9 : rwo g_y9 w_y9 10000 := R_y9.ew o_y9 x_y9
  obtain ⟨hq_y9, _, _, _, r_y9⟩ := D_find (st_ok V_y9) (tn := 8) (x := q_y9 + 3) (w := w_y9) (hp := hp_y9) o_y9 (src := fun t_y9 => t_y9 = u_y9) (h := g_y9) (fun hq_y9 x_y9 => nto_st V_y9 (C1_y9.cg (fun b_y9 k_y9 z_y9 => x_y9.2 b_y9 k_y9 (out_y9 b_y9 k_y9 (by unfold plc at z_y9; omega) (by unfold plc at z_y9; omega))) (fun b_y9 _ _ => by rw [x_y9.N])) (D1_y9.cg fun b_y9 k_y9 z_y9 => x_y9.2 b_y9 k_y9 (out_y9 b_y9 k_y9 (by omega) (by omega)))) G1_y9 R1_y9 (fun t_y9 t0_y9 t1_y9 => by
    have a1_y9 := gM_y9 (w_y9 + 1) t_y9
    have a2_y9 := gM_y9 (w_y9 + 2) t_y9
    have a3_y9 := gM_y9 (w_y9 + 3) t_y9
    rw [if_pos rfl] at a1_y9
    rw [if_neg (by omega), if_pos rfl] at a2_y9
    rw [if_neg (by omega), if_neg (by omega), if_pos rfl] at a3_y9
    constructor
    · intro (z_y9 : t_y9 = u_y9)
      rw [if_pos z_y9] at a1_y9 a3_y9
      exact ⟨a1_y9, a3_y9.trans z_y9.symm⟩
    · intro (z_y9 : ¬ t_y9 = u_y9)
      rw [if_neg z_y9] at a1_y9 a3_y9
      exact ⟨a1_y9, a3_y9, a2_y9⟩)
  exact ⟨_, _, _, r_y9⟩
theorem ex_dst {H_y9 : HD} (V_y9 : hdv H_y9) {q_y9 w_y9 hp_y9 : Int} {h_y9 : mH} (C_y9 : chl h_y9 q_y9) (Dc_y9 : chd h_y9 q_y9 H_y9) (G_y9 : hph h_y9 hp_y9) (R_y9 : rwo h_y9 w_y9 10000) (o_y9 : hp_y9 + 2 < w_y9) (dis_y9 : q_y9 + 11 < hp_y9 ∨ hp_y9 + 2 < q_y9) (dis2_y9 : q_y9 + 11 < w_y9 ∨ w_y9 + 3 < q_y9) : ∃ D_y9 : Int → Int → Int, ∀ u_y9, 1 ≤ u_y9 → u_y9 < 10000 → ∃ nx_y9 en_y9, rsp 10000 (2 * H_y9 3 0) (stO H_y9) (stC H_y9) (fun t_y9 => t_y9 = u_y9) (D_y9 u_y9) nx_y9 en_y9 := ⟨fun u_y9 => Classical.choose (ex_rsp V_y9 C_y9 Dc_y9 G_y9 R_y9 o_y9 dis_y9 dis2_y9 u_y9), fun u_y9 _ _ => Classical.choose_spec (ex_rsp V_y9 C_y9 Dc_y9 G_y9 R_y9 o_y9 dis_y9 dis2_y9 u_y9)⟩
theorem C_trial {h_y9 : mH} {q_y9 y_y9 c_y9 A_y9 hp_y9 : Int} {n_y9 : Nat} (c56_y9 : 56 ≤ h_y9.cnt) (e18_y9 : h_y9.M 1 18 = hp_y9) (hp0_y9 : 56 < hp_y9) (hc_y9 : hp_y9 + 2 ≤ h_y9.cnt) (g_y9 : h_y9.M 1 19 = 0 ∨ (rwo h_y9 (h_y9.M 1 19) 10000 ∧ h_y9.M 1 19 + 3 ≤ h_y9.cnt ∧ hp_y9 + 2 < h_y9.M 1 19)) (u6_y9 u7_y9 u8_y9 u9_y9 u10_y9 : mV) : ∃ h4_y9 w_y9, Rn kX_reachedFrom 2 [vO 10 1, vR 2 q_y9, vI y_y9, vI (n_y9 : Int), vI c_y9, vR 100 A_y9, u6_y9, u7_y9, u8_y9, u9_y9, u10_y9] [] h_y9 = Rn kX_reachedFrom 5 [vO 10 1, vR 2 q_y9, vI y_y9, vI (n_y9 : Int), vI c_y9, vR 100 A_y9, u6_y9, u7_y9, u8_y9, u9_y9, u10_y9] [] h4_y9 ∧ h4_y9.M 1 19 = w_y9 ∧ rwo h4_y9 w_y9 10000 ∧ hp_y9 + 2 < w_y9 ∧ w_y9 + 3 ≤ h4_y9.cnt ∧ Fb h_y9.cnt (fun b_y9 k_y9 => b_y9 = 1 ∧ k_y9 = 19) h_y9 h4_y9 ∧ ((h_y9.M 1 19 = w_y9 ∧ h4_y9.cnt = h_y9.cnt ∧ h4_y9.sl = h_y9.sl) ∨ (h_y9.M 1 19 = 0 ∧ h_y9.cnt < w_y9 ∧ h4_y9.cnt = h_y9.cnt + 4 ∧ h4_y9.sl = h_y9.sl + 30003)) := by
  by_cases z_y9 : h_y9.M 1 19 = 0
  · have tp_y9 : h_y9.top = h_y9.cnt + 1 := rfl
    obtain ⟨hq_y9, r_y9, cq_y9, sq_y9, Xq_y9, Mq_y9, Nq_y9, Rq_y9, _⟩ := D_rwInit (w := h_y9.top) (n := 10000) (h := h_y9.new 6 3) (by rw [Z_cw]; omega) (by omega) (by decide) (by decide)
    have f_y9 : Fb h_y9.cnt (fun _ _ => False) h_y9 hq_y9 := ⟨fun b_y9 k_y9 q_y9 _ => (Mq_y9 b_y9 k_y9 (by omega)).trans (by rw [Z_Mw, if_neg (by omega)]), fun b_y9 q_y9 => (Nq_y9 b_y9 (by omega)).trans (by rw [Z_Nw, if_neg (by omega)]), by rw [cq_y9, Z_cw]; omega, by rw [Xq_y9]; rfl⟩
    have x_y9 : Fb h_y9.cnt (fun b_y9 k_y9 => b_y9 = 1 ∧ k_y9 = 19) h_y9 (hq_y9.set 1 19 h_y9.top) := Fb.tr ⟨fun b_y9 k_y9 q_y9 _ => f_y9.1 b_y9 k_y9 q_y9 fun w_y9 => w_y9, f_y9.2⟩ (Ew.fb (Ew.st (W := fun b_y9 k_y9 => b_y9 = 1 ∧ k_y9 = 19) hq_y9 h_y9.top ⟨rfl, rfl⟩) fun b_y9 k_y9 _ w_y9 => w_y9)
    refine ⟨hq_y9.set 1 19 h_y9.top, h_y9.top, ?_, Z_Mt .., Rq_y9.cg (fun k_y9 => Z_Mn (by omega)) (fun _ _ _ => rfl), by omega, ?_, x_y9, Or.inr ⟨z_y9, by omega, by rw [Z_cs, cq_y9, Z_cw], ?_⟩⟩
    · rw [E_X_reachedFrom_2, if_pos z_y9, E_X_reachedFrom_3, Z_hl, r_y9, Z_bV, E_X_reachedFrom_4, Z_hl]
    · rw [Z_cs, cq_y9, Z_cw]
      omega
    · rw [Z_ss, sq_y9, Z_sw]
      omega
  · rcases g_y9 with g_y9 | ⟨g_y9, g1_y9, g2_y9⟩
    · exact absurd g_y9 z_y9
    · exact ⟨h_y9, h_y9.M 1 19, by rw [E_X_reachedFrom_2, if_neg z_y9], rfl, g_y9, g2_y9, g1_y9, Fb.rf _ _ _, Or.inl ⟨rfl, rfl, rfl⟩⟩
theorem INV.tl {h_y9 h4_y9 : mH} {T_y9 : Int → Int} {n_y9 nc_y9 : Int} {Ds_y9 : Int → Int → Int → Int → Int} {nh_y9 : Int} {Xs_y9 : Int → HX} (I_y9 : INV h_y9 T_y9 n_y9 nc_y9 Ds_y9 nh_y9 Xs_y9) {hp_y9 w_y9 : Int} (e18_y9 : h_y9.M 1 18 = hp_y9) (hp0_y9 : 56 < hp_y9) (o_y9 : hp_y9 + 2 < w_y9) (hc_y9 : hp_y9 + 2 ≤ h_y9.cnt) (ew_y9 : h_y9.M 1 19 = w_y9 ∨ (h_y9.M 1 19 = 0 ∧ h_y9.cnt < w_y9)) (lo_y9 : ∀ b_y9 k_y9 : Int, b_y9 ≤ h_y9.cnt → ¬ WFn hp_y9 w_y9 b_y9 k_y9 → ¬ (b_y9 = 1 ∧ k_y9 = 19) → ¬ WNr b_y9 k_y9 → h4_y9.M b_y9 k_y9 = h_y9.M b_y9 k_y9) (N_y9 : ∀ b_y9 : Int, b_y9 ≤ h_y9.cnt → h4_y9.N b_y9 = h_y9.N b_y9) (cc_y9 : h_y9.cnt ≤ h4_y9.cnt) (e19_y9 : h4_y9.M 1 19 = w_y9) (G_y9 : hph h4_y9 hp_y9) (R_y9 : rwo h4_y9 w_y9 10000) (wc_y9 : w_y9 + 3 ≤ h4_y9.cnt) (Z_y9 : wz h4_y9) : INV h4_y9 T_y9 n_y9 nc_y9 Ds_y9 nh_y9 Xs_y9 := by
  have Iq_y9 := I_y9
  have nb_y9 := I_y9.nh
  obtain ⟨L_y9, it_y9, ic_y9, ih_y9, _, _, _, _, _, _, _⟩ := Iq_y9
  have c56_y9 := L_y9.2.2
  have l56_y9 : ∀ b_y9 k_y9 : Int, b_y9 ≤ 56 → ¬ (b_y9 = 1 ∧ k_y9 = 19) → ¬ WNr b_y9 k_y9 → h4_y9.M b_y9 k_y9 = h_y9.M b_y9 k_y9 := fun b_y9 k_y9 hb_y9 r1_y9 r2_y9 => lo_y9 b_y9 k_y9 (by omega) (fun t_y9 => by unfold WFn at t_y9; omega) r1_y9 r2_y9
  have L4_y9 : lay h4_y9 := ⟨fun b_y9 k_y9 z_y9 => (l56_y9 b_y9 k_y9 (by have := layA_le z_y9; omega) (fun t_y9 => by
    rw [t_y9.1, t_y9.2] at z_y9
    exact z_y9 rfl) (fun t_y9 => z_y9 (WNr_lay t_y9))).trans (L_y9.1 b_y9 k_y9 z_y9), fun b_y9 z_y9 => (N_y9 b_y9 (by have := layN_le z_y9; omega)).trans (L_y9.2.1 b_y9 z_y9), by omega⟩
  have e18q_y9 : h4_y9.M 1 18 = hp_y9 := (l56_y9 1 18 (by decide) (by decide) (fun t_y9 => by unfold WNr WFl at t_y9; omega)).trans e18_y9
  have e5_y9 : h4_y9.M 1 5 = h_y9.M 1 5 := l56_y9 1 5 (by decide) (by decide) (fun t_y9 => by unfold WNr WFl at t_y9; omega)
  have e4_y9 : ∀ i_y9, h4_y9.M 4 i_y9 = h_y9.M 4 i_y9 := fun i_y9 => l56_y9 4 i_y9 (by decide) (by omega) (fun t_y9 => by unfold WNr WFl at t_y9; omega)
  have fz_y9 : ∀ b_y9 k_y9 kq_y9 : Int, Fz h_y9 b_y9 k_y9 → h4_y9.M b_y9 kq_y9 = h_y9.M b_y9 kq_y9 := fun b_y9 k_y9 kq_y9 F_y9 => by
    obtain ⟨f1_y9, f2_y9, f3_y9, f4_y9, f5_y9⟩ := F_y9
    refine lo_y9 b_y9 kq_y9 f2_y9 (fun t_y9 => ?_) (fun t_y9 => by omega) (fun t_y9 => by unfold WNr WFl at t_y9; omega)
    rw [e18_y9] at f3_y9
    unfold WFn at t_y9
    rcases ew_y9 with y_y9 | ⟨y_y9, yq_y9⟩
    · rw [y_y9] at f4_y9
      omega
    · omega
  have K_y9 : Kz h_y9 h4_y9 := by
    refine ⟨fun b_y9 k_y9 F_y9 => ⟨fz_y9 b_y9 k_y9 k_y9 F_y9, ?_⟩, N_y9, cc_y9⟩
    obtain ⟨f1_y9, f2_y9, f3_y9, f4_y9, f5_y9⟩ := F_y9
    unfold Fz
    rw [e18q_y9, e19_y9, e5_y9]
    rw [e18_y9] at f3_y9
    refine ⟨f1_y9, by omega, f3_y9, fun t_y9 => ?_, fun ⟨k8_y9, i_y9, i0_y9, i1_y9, i2_y9⟩ => f5_y9 ⟨k8_y9, i_y9, i0_y9, i1_y9, (e4_y9 i_y9).symm.trans i2_y9⟩⟩
    rcases ew_y9 with y_y9 | ⟨y_y9, yq_y9⟩
    · rw [y_y9] at f4_y9
      exact f4_y9 t_y9
    · omega
  have e8_y9 : ∀ c_y9, 0 ≤ c_y9 → c_y9 < nh_y9 → h4_y9.M (h_y9.M 4 c_y9) 8 = h_y9.M (h_y9.M 4 c_y9) 8 := fun c_y9 c0_y9 c1_y9 => fz_y9 _ 0 8 ((ih_y9.2.2.2.2.1 c_y9 c0_y9 c1_y9).2.2.2.2.1 (h_y9.M 4 c_y9) 0 (Or.inl ⟨by omega, by omega⟩) (by omega))
  obtain ⟨ia_y9, ip_y9, ie_y9, ik_y9, ib_y9, iw_y9⟩ := I_y9.pt K_y9 fun b_y9 k_y9 hb_y9 nq_y9 => l56_y9 b_y9 k_y9 hb_y9 (fun t_y9 => nq_y9 (by unfold Qok; omega)) (fun t_y9 => nq_y9 (by unfold WNr WFl at t_y9; unfold Qok; omega))
  refine ⟨L4_y9, it_y9.cg fun b_y9 k_y9 z_y9 => l56_y9 b_y9 k_y9 (by unfold rT at z_y9; omega) (by unfold rT at z_y9; omega) (fun t_y9 => by unfold rT at z_y9; unfold WNr WFl at t_y9; omega), ic_y9.cg K_y9 fun b_y9 k_y9 z_y9 => ?_, ih_y9.cg K_y9 (fun b_y9 k_y9 z_y9 => ?_) e8_y9, ia_y9, ip_y9, ie_y9, ik_y9, ib_y9, iw_y9, ?_⟩
  · rcases z_y9 with z_y9 | z_y9 | z_y9 | ⟨_, _, _, z_y9⟩
    · exact l56_y9 b_y9 k_y9 (by omega) (by omega) (fun t_y9 => by unfold WNr WFl at t_y9; omega)
    · exact l56_y9 b_y9 k_y9 (by omega) (by omega) (fun t_y9 => by unfold WNr WFl at t_y9; omega)
    · exact l56_y9 b_y9 k_y9 (by omega) (by omega) (fun t_y9 => by unfold WNr WFl at t_y9; omega)
    · have := mreg_b z_y9
      exact l56_y9 b_y9 k_y9 (by omega) (by omega) (fun t_y9 => by unfold WNr WFl at t_y9; omega)
  · rcases z_y9 with z_y9 | z_y9 | z_y9 | ⟨c_y9, r0_y9, r1_y9, z_y9⟩
    · exact l56_y9 b_y9 k_y9 (by omega) (by omega) (fun t_y9 => by unfold WNr WFl at t_y9; omega)
    · exact l56_y9 b_y9 k_y9 (by omega) (by omega) (fun t_y9 => by unfold WNr WFl at t_y9; omega)
    · exact l56_y9 b_y9 k_y9 (by omega) (by omega) (fun t_y9 => by unfold WNr WFl at t_y9; omega)
    · have := mhr_b z_y9
      exact l56_y9 b_y9 k_y9 (by omega) (by omega) (fun t_y9 => by
        unfold mhr hreg at z_y9
        unfold WNr WFl at t_y9
        omega)
  · unfold iG
    rw [e18q_y9, e19_y9]
    exact ⟨Or.inr ⟨G_y9, by omega⟩, Or.inr ⟨R_y9, wc_y9, by omega, o_y9⟩, fun z_y9 => by omega, Z_y9⟩
