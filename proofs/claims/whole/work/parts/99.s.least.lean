/-! THE PURE PART, least: all of it -/
theorem D_reached {h_y9 : mH} {T_y9 : Int → Int} {n_y9 nc_y9 : Int} {Ds_y9 : Int → Int → Int → Int → Int} {nh_y9 : Int} {Xs_y9 : Int → HX} (I_y9 : INV h_y9 T_y9 n_y9 nc_y9 Ds_y9 nh_y9 Xs_y9) {a_y9 y_y9 c_y9 : Int} {m_y9 : Nat} (a0_y9 : 0 ≤ a_y9) (a1_y9 : a_y9 < nh_y9) (m0_y9 : 1 ≤ m_y9) (hm_y9 : m_y9 ≤ 14) (y0_y9 : 1 ≤ y_y9) (y1_y9 : y_y9 + m_y9 - 1 ≤ 9999) (c0_y9 : 0 ≤ c_y9) :
    ∃ (h4_y9 : mH) (A_y9 w_y9 hp_y9 : Int) (S_y9 : Nat → Nat) (D_y9 : Int → Int → Int), Cl kX_reachedFrom [vO 10 1, vR 2 (h_y9.M 4 a_y9), vI y_y9, vI (m_y9 : Int), vI c_y9] h_y9 = some (some (vR 100 A_y9), h4_y9) ∧ A_y9 ≠ 0 ∧ h4_y9.N A_y9 = m_y9 ∧ ars h4_y9 A_y9 m_y9 S_y9 ∧ sbs m_y9 S_y9 (fun s_y9 t_y9 => nea c_y9 (D_y9 (y_y9 + m_y9 - 1 - (s_y9 : Int))) (y_y9 + m_y9 - 1 - (t_y9 : Int))) ∧ (∀ u_y9, 1 ≤ u_y9 → u_y9 < 10000 → ∃ nx_y9 en_y9, rsp 10000 (2 * hH (Xs_y9 a_y9) 3 0) (stO (hH (Xs_y9 a_y9))) (stC (hH (Xs_y9 a_y9))) (fun t_y9 => t_y9 = u_y9) (D_y9 u_y9) nx_y9 en_y9) ∧
      h_y9.M 1 18 = hp_y9 ∧ 56 < hp_y9 ∧ hp_y9 + 2 < w_y9 ∧ hp_y9 + 2 ≤ h_y9.cnt ∧ (h_y9.M 1 19 = w_y9 ∨ (h_y9.M 1 19 = 0 ∧ h_y9.cnt < w_y9)) ∧ (∀ b_y9 k_y9 : Int, b_y9 ≤ h_y9.cnt → ¬ WFn hp_y9 w_y9 b_y9 k_y9 → ¬ (b_y9 = 1 ∧ k_y9 = 19) → h4_y9.M b_y9 k_y9 = h_y9.M b_y9 k_y9) ∧ (∀ b_y9 : Int, b_y9 ≤ h_y9.cnt → h4_y9.N b_y9 = h_y9.N b_y9) ∧ h_y9.cnt ≤ h4_y9.cnt ∧ h4_y9.M 1 19 = w_y9 ∧ hph h4_y9 hp_y9 ∧ rwo h4_y9 w_y9 10000 ∧ w_y9 + 3 ≤ h4_y9.cnt ∧ h4_y9.X = h_y9.X ∧ h4_y9.cnt ≤ h_y9.cnt + 5 ∧ (h4_y9.sl : Int) - (if h4_y9.M 1 19 = 0 then 0 else 40000) ≤ (h_y9.sl : Int) - (if h_y9.M 1 19 = 0 then 0 else 40000) + 14 := by
  have L_y9 := I_y9.1
  have c56_y9 := L_y9.2.2
  have tp_y9 : h_y9.top = h_y9.cnt + 1 := rfl
  have V_y9 := (I_y9.hik a0_y9 a1_y9).1.1
  have F_y9 := (I_y9.hik a0_y9 a1_y9).2.2.2.2.1
  have e5_y9 := I_y9.2.2.2.1.2.1
  have ig_y9 := I_y9.2.2.2.2.2.2.2.2.2.2
  obtain ⟨g1_y9, g2_y9, g3_y9, _⟩ := ig_y9
  have n18_y9 : h_y9.M 1 18 ≠ 0 := fun z_y9 => by
    have := g3_y9 z_y9
    omega
  obtain ⟨hp_y9, ehp_y9⟩ : ∃ hp_y9, h_y9.M 1 18 = hp_y9 := ⟨_, rfl⟩
  obtain ⟨q_y9, eqq_y9⟩ : ∃ q_y9, h_y9.M 4 a_y9 = q_y9 := ⟨_, rfl⟩
  have n18q_y9 := n18_y9
  have Fq_y9 : ∀ b_y9, q_y9 ≤ b_y9 → b_y9 ≤ q_y9 + 11 → Fz h_y9 b_y9 0 := fun b_y9 b0_y9 b1_y9 => F_y9 b_y9 0 (Or.inl (by rw [eqq_y9]; exact ⟨b0_y9, b1_y9⟩)) (by omega)
  rw [ehp_y9] at n18_y9
  have g1q_y9 : hph h_y9 hp_y9 ∧ hp_y9 + 2 ≤ h_y9.cnt := by
    rw [ehp_y9] at g1_y9
    rcases g1_y9 with z_y9 | z_y9
    · exact absurd z_y9 n18_y9
    · exact z_y9
  obtain ⟨g1a_y9, g1b_y9⟩ := g1q_y9
  have hp0_y9 := g1a_y9.1
  have g2q_y9 : h_y9.M 1 19 = 0 ∨ (rwo h_y9 (h_y9.M 1 19) 10000 ∧ h_y9.M 1 19 + 3 ≤ h_y9.cnt ∧ hp_y9 + 2 < h_y9.M 1 19) := by
    rcases g2_y9 with z_y9 | ⟨z1_y9, z2_y9, z3_y9, z4_y9⟩
    · exact Or.inl z_y9
    · rw [ehp_y9] at z4_y9
      exact Or.inr ⟨z1_y9, z2_y9, z4_y9⟩
  have x1_y9 : Fb h_y9.cnt (fun _ _ => False) h_y9 (h_y9.new 100 (m_y9 : Int)) := (Fr.nw (fun _ _ => False) h_y9 100 (m_y9 : Int)).fb (Int.le_refl _) fun _ _ _ w_y9 => w_y9.elim
  have I1_y9 : INV (h_y9.new 100 (m_y9 : Int)) T_y9 n_y9 nc_y9 Ds_y9 nh_y9 Xs_y9 := I_y9.kp ⟨fun b_y9 k_y9 r_y9 _ => x1_y9.1 b_y9 k_y9 r_y9 fun w_y9 => w_y9, x1_y9.2⟩
  have lo1_y9 : ∀ b_y9 k_y9 : Int, b_y9 ≤ h_y9.cnt → (h_y9.new 100 (m_y9 : Int)).M b_y9 k_y9 = h_y9.M b_y9 k_y9 := fun b_y9 k_y9 hb_y9 => x1_y9.1 b_y9 k_y9 hb_y9 fun w_y9 => w_y9
  have N1_y9 : ∀ b_y9 : Int, b_y9 ≤ h_y9.cnt → (h_y9.new 100 (m_y9 : Int)).N b_y9 = h_y9.N b_y9 := x1_y9.2.1
  have c1_y9 : (h_y9.new 100 (m_y9 : Int)).cnt = h_y9.cnt + 1 := rfl
  have s1_y9 : (h_y9.new 100 (m_y9 : Int)).sl = h_y9.sl + (m_y9 : Int).toNat := rfl
  have X1_y9 : (h_y9.new 100 (m_y9 : Int)).X = h_y9.X := rfl
  have NA_y9 : (h_y9.new 100 (m_y9 : Int)).N h_y9.top = m_y9 := by rw [Z_Nw, if_pos rfl]
  have MA_y9 : ∀ k_y9, (h_y9.new 100 (m_y9 : Int)).M h_y9.top k_y9 = 0 := fun k_y9 => by rw [Z_Mw, if_pos rfl]
  have r0_y9 : Cl kX_reachedFrom [vO 10 1, vR 2 q_y9, vI y_y9, vI (m_y9 : Int), vI c_y9] h_y9 = Rn kX_reachedFrom 2 [vO 10 1, vR 2 q_y9, vI y_y9, vI (m_y9 : Int), vI c_y9, vR 100 h_y9.top, vU, vU, vU, vU, vU] [] (h_y9.new 100 (m_y9 : Int)) := by
    rw [E_X_reachedFrom, gd_t (by omega), Z_hl, if_neg (by rw [lo1_y9 1 18 (by omega)]; exact n18q_y9)]
  have Q1_y9 := (I1_y9.hik a0_y9 a1_y9).2.2.1
  generalize h_y9.new 100 (m_y9 : Int) = h1_y9 at x1_y9 I1_y9 lo1_y9 N1_y9 c1_y9 s1_y9 X1_y9 NA_y9 MA_y9 r0_y9 Q1_y9
  rw [lo1_y9 4 a_y9 (by omega), eqq_y9] at Q1_y9
  have G1_y9 : hph h1_y9 hp_y9 := g1a_y9.cg (fun b_y9 k_y9 _ b1_y9 => lo1_y9 b_y9 k_y9 (by omega)) (fun b_y9 _ b1_y9 => N1_y9 b_y9 (by omega))
  have e118_y9 : h1_y9.M 1 18 = hp_y9 := (lo1_y9 1 18 (by omega)).trans ehp_y9
  have e119_y9 : h1_y9.M 1 19 = h_y9.M 1 19 := lo1_y9 1 19 (by omega)
  obtain ⟨h3_y9, w_y9, r3_y9, e319_y9, R3_y9, o3_y9, wc3_y9, x3_y9, alt_y9⟩ := C_trial (h_y9 := h1_y9) (q_y9 := q_y9) (y_y9 := y_y9) (c_y9 := c_y9) (A_y9 := h_y9.top) (hp_y9 := hp_y9) (n_y9 := m_y9) (by omega) e118_y9 hp0_y9 (by omega) (by
    rw [e119_y9]
    rcases g2q_y9 with z_y9 | ⟨z1_y9, z2_y9, z3_y9⟩
    · exact Or.inl z_y9
    · exact Or.inr ⟨z1_y9.cg (fun k_y9 => lo1_y9 _ k_y9 (by omega)) (fun b_y9 _ b1_y9 => N1_y9 b_y9 (by omega)), by omega, z3_y9⟩) vU vU vU vU vU
  rw [e119_y9] at alt_y9
  have ww_y9 : h_y9.M 1 19 = w_y9 ∨ (h_y9.M 1 19 = 0 ∧ h_y9.cnt < w_y9) := by
    rcases alt_y9 with z_y9 | z_y9
    · exact Or.inl z_y9.1
    · exact Or.inr ⟨z_y9.1, by omega⟩
  have lo3_y9 : ∀ b_y9 k_y9 : Int, b_y9 ≤ h_y9.cnt + 1 → ¬ (b_y9 = 1 ∧ k_y9 = 19) → h3_y9.M b_y9 k_y9 = h1_y9.M b_y9 k_y9 := fun b_y9 k_y9 hb_y9 nk_y9 => x3_y9.1 b_y9 k_y9 (by omega) nk_y9
  have N3_y9 : ∀ b_y9 : Int, b_y9 ≤ h_y9.cnt + 1 → h3_y9.N b_y9 = h1_y9.N b_y9 := fun b_y9 hb_y9 => x3_y9.2.1 b_y9 (by omega)
  have w0_y9 : 56 < w_y9 := by omega
  have f0_y9 := Fq_y9 q_y9 (by omega) (by omega)
  have f11_y9 := Fq_y9 (q_y9 + 11) (by omega) (by omega)
  have d1_y9 : q_y9 + 11 < hp_y9 ∨ hp_y9 + 2 < q_y9 := by
    by_cases z_y9 : q_y9 ≤ hp_y9
    · by_cases z2_y9 : hp_y9 ≤ q_y9 + 11
      · have := (Fq_y9 hp_y9 z_y9 z2_y9).2.2.1
        rw [ehp_y9] at this
        omega
      · omega
    · have := f0_y9.2.2.1
      rw [ehp_y9] at this
      omega
  have d2_y9 : q_y9 + 11 < w_y9 ∨ w_y9 + 3 < q_y9 := by
    have u11_y9 := f11_y9.2.1
    rcases ww_y9 with z_y9 | ⟨_, z_y9⟩
    · by_cases z1_y9 : q_y9 ≤ w_y9
      · by_cases z2_y9 : w_y9 ≤ q_y9 + 11
        · have := (Fq_y9 w_y9 z1_y9 z2_y9).2.2.2.1
          rw [z_y9] at this
          omega
        · omega
      · have := f0_y9.2.2.2.1
        rw [z_y9] at this
        omega
    · omega
  have u11_y9 := f11_y9.2.1
  have q56_y9 := f0_y9.1
  have G3_y9 : hph h3_y9 hp_y9 := G1_y9.cg (fun b_y9 k_y9 _ b1_y9 => lo3_y9 b_y9 k_y9 (by omega) (by omega)) (fun b_y9 _ b1_y9 => N3_y9 b_y9 (by omega))
  have C3_y9 : chl h3_y9 q_y9 := Q1_y9.1.cg (fun b_y9 k_y9 z_y9 => lo3_y9 b_y9 k_y9 (by unfold plc at z_y9; omega) (by unfold plc at z_y9; omega)) (fun b_y9 b0_y9 b1_y9 => N3_y9 b_y9 (by omega))
  have D3_y9 : chd h3_y9 q_y9 (hH (Xs_y9 a_y9)) := Q1_y9.2.1.cg fun b_y9 k_y9 z_y9 => lo3_y9 b_y9 k_y9 (by omega) (by omega)
  have dA_y9 : h_y9.top < w_y9 ∨ w_y9 + 3 < h_y9.top := by
    rcases ww_y9 with z_y9 | ⟨z_y9, zq_y9⟩
    · rcases g2q_y9 with t_y9 | ⟨t1_y9, t2_y9, t3_y9⟩
      · omega
      · omega
    · rcases alt_y9 with t_y9 | t_y9
      · omega
      · omega
  have I3_y9 : rfl0 h3_y9 (hH (Xs_y9 a_y9)) q_y9 hp_y9 w_y9 h_y9.top m_y9 := ⟨C3_y9, D3_y9, (lo3_y9 1 18 (by omega) (by omega)).trans e118_y9, e319_y9, (N3_y9 _ (by omega)).trans NA_y9, hp0_y9, w0_y9, q56_y9, by omega, o3_y9, d1_y9, d2_y9, by omega, dA_y9, by omega⟩
  obtain ⟨D_y9, hD_y9⟩ := ex_dst V_y9 C3_y9 D3_y9 G3_y9 R3_y9 o3_y9 d1_y9 d2_y9
  obtain ⟨h4_y9, S_y9, r4_y9, x4_y9, G4_y9, R4_y9, A4_y9, B4_y9⟩ := D_rf6 V_y9 (q_y9 := q_y9) (hp_y9 := hp_y9) (w_y9 := w_y9) (A_y9 := h_y9.top) (y_y9 := y_y9) (c_y9 := c_y9) (lst_y9 := y_y9 + m_y9 - 1) hm_y9 rfl y0_y9 y1_y9 c0_y9 hD_y9 (vI y_y9) (vI (m_y9 : Int)) m_y9 h3_y9 (fun _ => 0) vU vU vU (Nat.le_refl _) I3_y9 G3_y9 R3_y9 (fun k_y9 _ => (lo3_y9 _ _ (by omega) (by omega)).trans (MA_y9 _)) (sbs_0 _)
  have cnt4_y9 := x4_y9.cnt
  have sl4_y9 := x4_y9.sl
  have e419_y9 : h4_y9.M 1 19 = w_y9 := (I3_y9.ew x4_y9).2.2.2.1
  refine ⟨h4_y9, h_y9.top, w_y9, hp_y9, S_y9, D_y9, ?_, by omega, (I3_y9.ew x4_y9).2.2.2.2.1, A4_y9, B4_y9, hD_y9, ehp_y9, hp0_y9, o3_y9, g1b_y9, ww_y9, fun b_y9 k_y9 hb_y9 r1_y9 r2_y9 => ?_, fun b_y9 hb_y9 => ?_, ?_, e419_y9, G4_y9, R4_y9, ?_, x4_y9.X.trans (x3_y9.2.2.2.trans X1_y9), ?_, ?_⟩
  · rw [eqq_y9, r0_y9, r3_y9, E_X_reachedFrom_5, Z_wI (z := y_y9 + (m_y9 : Int)) (by omega), Z_wI (z := y_y9 + (m_y9 : Int) - 1) (by omega), Z_wI (z := (m_y9 : Int) - 1) (by omega)]
    exact r4_y9
  · rw [x4_y9.2 b_y9 k_y9 (fun t_y9 => t_y9.elim r1_y9 fun t_y9 => by omega), lo3_y9 b_y9 k_y9 (by omega) r2_y9, lo1_y9 b_y9 k_y9 hb_y9]
  · rw [x4_y9.N, N3_y9 b_y9 (by omega), N1_y9 b_y9 hb_y9]
  · rw [cnt4_y9]
    have := x3_y9.2.2.1
    omega
  · rw [cnt4_y9]
    exact wc3_y9
  · rw [cnt4_y9]
    rcases alt_y9 with t_y9 | t_y9
    · omega
    · omega
  · rw [e419_y9, sl4_y9, if_neg (by omega)]
    rcases alt_y9 with t_y9 | t_y9
    · rw [t_y9.1, if_neg (by omega)]
      omega
    · rw [if_pos t_y9.1]
      omega
theorem ok_least {h_y9 : mH} {T_y9 : Int → Int} {n_y9 nc_y9 : Int} {Ds_y9 : Int → Int → Int → Int → Int} {nh_y9 : Int} {Xs_y9 : Int → HX} (I_y9 : INV h_y9 T_y9 n_y9 nc_y9 Ds_y9 nh_y9 Xs_y9) {a_y9 y_y9 c_y9 e_y9 : Int} {m_y9 : Nat} (a0_y9 : 0 ≤ a_y9) (a1_y9 : a_y9 < nh_y9) (m0_y9 : 1 ≤ m_y9) (hm_y9 : m_y9 ≤ 14) (y0_y9 : 1 ≤ y_y9) (y1_y9 : y_y9 + m_y9 - 1 ≤ 9999) (c0_y9 : 0 ≤ c_y9) (c1_y9 : c_y9 ≤ 999) (e0_y9 : 0 ≤ e_y9) (e1_y9 : e_y9 ≤ 1) : ∃ v_y9 h1_y9 h2_y9, Cl kX_least [vO 10 1, vI a_y9, vI y_y9, vI (m_y9 : Int), vI c_y9, vI e_y9] h_y9 = some (some (vI v_y9), h1_y9) ∧ Cl kM_least [vO 11 9, vI a_y9, vI y_y9, vI (m_y9 : Int), vI c_y9, vI e_y9] h1_y9 = some (some (vI v_y9), h2_y9) ∧ IV h2_y9 ∧ stp h_y9 h2_y9 ∧ h1_y9.X = h_y9.X := by
  have nb_y9 := I_y9.nh
  have V_y9 := (I_y9.hik a0_y9 a1_y9).1.1
  obtain ⟨h4_y9, A_y9, w_y9, hp_y9, S_y9, D_y9, r4_y9, A0_y9, NA_y9, A4_y9, B4_y9, hD_y9, e18_y9, hp0_y9, o_y9, hc_y9, ew_y9, lo_y9, N4_y9, cc_y9, e19_y9, G4_y9, R4_y9, wc_y9, X4_y9, cm_y9, sm4_y9⟩ := D_reached I_y9 a0_y9 a1_y9 m0_y9 hm_y9 y0_y9 y1_y9 c0_y9
  have p14_y9 : 2 ^ m_y9 ≤ 2 ^ 14 := Nat.pow_le_pow_right (by decide) hm_y9
  have p1_y9 : 2 ≤ 2 ^ m_y9 := Nat.pow_le_pow_right (n := 2) (by decide) m0_y9
  have own_y9 : ∀ k_y9 : Nat, k_y9 < m_y9 → Nat.testBit (S_y9 k_y9) k_y9 = true := fun k_y9 hk_y9 => (B4_y9.2 k_y9 k_y9 hk_y9 hk_y9).mpr (by
    obtain ⟨nx_y9, en_y9, F_y9⟩ := hD_y9 (y_y9 + m_y9 - 1 - (k_y9 : Int)) (by omega) (by omega)
    exact nea_rf F_y9 (by omega) (by omega) c0_y9)
  have sy_y9 : ∀ i_y9 j_y9 : Nat, i_y9 < m_y9 → j_y9 < m_y9 → (Nat.testBit (S_y9 i_y9) j_y9 = true ↔ Nat.testBit (S_y9 j_y9) i_y9 = true) := fun i_y9 j_y9 hi_y9 hj_y9 => by
    rw [B4_y9.2 i_y9 j_y9 hi_y9 hj_y9, B4_y9.2 j_y9 i_y9 hj_y9 hi_y9]
    obtain ⟨nx_y9, en_y9, F_y9⟩ := hD_y9 (y_y9 + m_y9 - 1 - (i_y9 : Int)) (by omega) (by omega)
    obtain ⟨ng_y9, eg_y9, G_y9⟩ := hD_y9 (y_y9 + m_y9 - 1 - (j_y9 : Int)) (by omega) (by omega)
    exact nea_sy (st_ok V_y9) (by omega) (by omega) (by omega) (by omega) F_y9 G_y9
  obtain ⟨bc_y9, rF_y9, bc0_y9, bc1, cC_y9, mC_y9⟩ := C_fewest m0_y9 hm_y9 A0_y9 NA_y9 A4_y9 B4_y9.1 own_y9 sy_y9
  have vX_y9 : Cl kX_least [vO 10 1, vI a_y9, vI y_y9, vI (m_y9 : Int), vI c_y9, vI e_y9] h_y9 = some (some (vI (if e_y9 = 0 then (pcn 14 bc_y9 : Int) else (mrN bc_y9 m_y9 : Int))), h4_y9) := by
    rw [E_X_least, C_headAt I_y9, Z_bR, if_pos (show 0 ≤ a_y9 ∧ a_y9 < nh_y9 from ⟨a0_y9, a1_y9⟩), if_neg (I_y9.q0 a0_y9 a1_y9), C_isYear, Z_bI, bz_t (by omega), if_neg n10, if_neg (by omega), if_pos (by omega), Z_wI (z := y_y9 + (m_y9 : Int)) (by omega), Z_wI (by omega), if_pos (by omega), if_neg (by omega), if_pos (by omega), if_neg (by omega), if_pos (by omega), r4_y9, Z_bR, rF_y9, Z_bI]
    by_cases z_y9 : e_y9 = 0
    · rw [if_pos z_y9, if_pos z_y9, J_bc, Z_bI, bc_eq (by omega)]
    · rw [if_neg z_y9, if_neg z_y9, C_mirror (by omega) hm_y9, Z_bI]
  have Z4_y9 : wz h4_y9 := fun u_y9 u0_y9 u1_y9 => (lo_y9 36 u_y9 (by have := I_y9.1.2.2; omega) (fun t_y9 => by unfold WFn at t_y9; omega) (by omega)).trans (I_y9.2.2.2.2.2.2.2.2.2.2.2.2.2 u_y9 u0_y9 u1_y9)
  have I4_y9 : INV h4_y9 T_y9 n_y9 nc_y9 Ds_y9 nh_y9 Xs_y9 := I_y9.tl e18_y9 hp0_y9 o_y9 hc_y9 ew_y9 (fun b_y9 k_y9 hb_y9 q1_y9 q2_y9 _ => lo_y9 b_y9 k_y9 hb_y9 q1_y9 q2_y9) N4_y9 cc_y9 e19_y9 G4_y9 R4_y9 wc_y9 Z4_y9
  have mp := (I4_y9.hik a0_y9 a1_y9).2.1.1
  obtain ⟨h5_y9, E_y9, r5_y9, x5_y9, Z5_y9, EL_y9, E5_y9⟩ := R_near (a_y9 := a_y9) (c_y9 := c_y9) a0_y9 (by omega) V_y9 hm_y9 y0_y9 (by omega) hD_y9 m_y9 0 h4_y9 vU vU vU (fun _ => 0) (by omega) I4_y9.1 ⟨mp.2.1, mp.2.2.2.2.1⟩ Z4_y9 (fun _ => Nat.two_pow_pos m_y9) (fun i_y9 hi_y9 => by omega)
  have r5q_y9 : Rn kM_nearYears 1 [vO 11 9, vI a_y9, vI y_y9, vI (m_y9 : Int), vI c_y9, vI 0, vU, vU, vU] [] h4_y9 = some (none, h5_y9) := r5_y9
  have n5_y9 : ∀ b_y9 k_y9 : Int, ¬ WNr b_y9 k_y9 → h5_y9.M b_y9 k_y9 = h4_y9.M b_y9 k_y9 := x5_y9.2
  have h15_y9 : ∀ b_y9 k_y9 : Int, b_y9 ≠ 9 → b_y9 ≠ 33 → b_y9 ≠ 35 → b_y9 ≠ 36 → b_y9 ≠ 50 → h5_y9.M b_y9 k_y9 = h4_y9.M b_y9 k_y9 := fun b_y9 k_y9 q1_y9 q2_y9 q3_y9 q4_y9 q5_y9 => n5_y9 b_y9 k_y9 fun t_y9 => by unfold WNr WFl at t_y9; omega
  have G5_y9 : hph h5_y9 hp_y9 := G4_y9.cg (fun b_y9 k_y9 b0_y9 _ => h15_y9 b_y9 k_y9 (by omega) (by omega) (by omega) (by omega) (by omega)) (fun b_y9 _ _ => by rw [x5_y9.N])
  have R5_y9 : rwo h5_y9 w_y9 10000 := R4_y9.cg (fun k_y9 => h15_y9 w_y9 k_y9 (by omega) (by omega) (by omega) (by omega) (by omega)) (fun b_y9 _ _ => by rw [x5_y9.N])
  have e519_y9 : h5_y9.M 1 19 = w_y9 := (h15_y9 1 19 (by decide) (by decide) (by decide) (by decide) (by decide)).trans e19_y9
  have I5_y9 : INV h5_y9 T_y9 n_y9 nc_y9 Ds_y9 nh_y9 Xs_y9 := I_y9.tl e18_y9 hp0_y9 o_y9 hc_y9 ew_y9 (fun b_y9 k_y9 hb_y9 q1_y9 q2_y9 q3_y9 => (n5_y9 b_y9 k_y9 q3_y9).trans (lo_y9 b_y9 k_y9 hb_y9 q1_y9 q2_y9)) (fun b_y9 hb_y9 => by rw [x5_y9.N]; exact N4_y9 b_y9 hb_y9) (by rw [x5_y9.cnt]; exact cc_y9) e519_y9 G5_y9 R5_y9 (by rw [x5_y9.cnt]; exact wc_y9) Z5_y9
  have w1_y9 : wI (ishl 1 (m_y9 : Int) - 1) = ((2 ^ m_y9 - 1 : Nat) : Int) := by
    obtain ⟨g_y9, eg_y9⟩ : ∃ g_y9 : Nat, g_y9 = 2 ^ m_y9 := ⟨_, rfl⟩
    rw [shl_1 hm_y9, ← eg_y9, Z_wI (by omega)]
    omega
  have full_y9 : ∀ k_y9 : Nat, k_y9 < m_y9 → ∃ j_y9, Nat.testBit (E_y9 k_y9) j_y9 = true ∧ Nat.testBit (2 ^ m_y9 - 1) j_y9 = true := fun k_y9 hk_y9 => ⟨k_y9, ((E5_y9 k_y9 hk_y9).2 k_y9).mpr ⟨hk_y9, by
    obtain ⟨nx_y9, en_y9, F_y9⟩ := hD_y9 (y_y9 + (k_y9 : Int)) (by omega) (by omega)
    exact nea_rf F_y9 (by omega) (by omega) c0_y9⟩, by rw [Nat.testBit_two_pow_sub_one]; exact decide_eq_true hk_y9⟩
  obtain ⟨br_y9, v8_y9, v9_y9, rP, br1_y9, dR_y9, mR⟩ := R_pick (h := h5_y9) (n := m_y9) hm_y9 (Dv := fun t_y9 => ∀ k_y9 : Nat, k_y9 < m_y9 → ∃ j_y9, Nat.testBit (E_y9 k_y9) j_y9 = true ∧ Nat.testBit t_y9 j_y9 = true) (u1 := vI a_y9) (u2 := vI y_y9) (u4 := vI c_y9) (w := e_y9) (fun t_y9 _ t1_y9 => R_doAll I5_y9.1 hm_y9 (by omega) (fun k_y9 => by have := EL_y9 k_y9; omega) (fun k_y9 hk_y9 => (E5_y9 k_y9 hk_y9).1)) (2 ^ m_y9 - 1) 1 (2 ^ m_y9 - 1) vU vU (by omega) (by decide) (by omega) full_y9 (fun s_y9 s0_y9 s1_y9 => by omega)
  have br0_y9 : 0 < br_y9 := Nat.pos_of_ne_zero fun z_y9 => by
    obtain ⟨j_y9, _, q_y9⟩ := dR_y9 0 (by omega)
    rw [z_y9, Nat.zero_testBit] at q_y9
    exact absurd q_y9 (by decide)
  have eqv_y9 : ∀ s_y9, s_y9 < 2 ^ m_y9 → ((∀ k_y9 : Nat, k_y9 < m_y9 → ∃ j_y9, Nat.testBit (E_y9 k_y9) j_y9 = true ∧ Nat.testBit s_y9 j_y9 = true) ↔ ∀ j_y9, j_y9 < m_y9 → ∃ i_y9, i_y9 < m_y9 ∧ Nat.testBit (mrN s_y9 m_y9) i_y9 = true ∧ Nat.testBit (S_y9 i_y9) j_y9 = true) := fun s_y9 _ => cov_eqv sy_y9 fun k_y9 j_y9 hk_y9 => by
    rw [(E5_y9 k_y9 hk_y9).2 j_y9]
    constructor
    · rintro ⟨q1_y9, q2_y9⟩
      refine ⟨q1_y9, (B4_y9.2 (m_y9 - 1 - k_y9) (m_y9 - 1 - j_y9) (by omega) (by omega)).mpr ?_⟩
      show nea c_y9 (D_y9 (y_y9 + m_y9 - 1 - ((m_y9 - 1 - k_y9 : Nat) : Int))) (y_y9 + m_y9 - 1 - ((m_y9 - 1 - j_y9 : Nat) : Int))
      rw [show y_y9 + (m_y9 : Int) - 1 - ((m_y9 - 1 - k_y9 : Nat) : Int) = y_y9 + (k_y9 : Int) by omega, show y_y9 + (m_y9 : Int) - 1 - ((m_y9 - 1 - j_y9 : Nat) : Int) = y_y9 + (j_y9 : Int) by omega]
      exact q2_y9
    · rintro ⟨q1_y9, q2_y9⟩
      refine ⟨q1_y9, ?_⟩
      have q3_y9 : nea c_y9 (D_y9 (y_y9 + m_y9 - 1 - ((m_y9 - 1 - k_y9 : Nat) : Int))) (y_y9 + m_y9 - 1 - ((m_y9 - 1 - j_y9 : Nat) : Int)) := (B4_y9.2 (m_y9 - 1 - k_y9) (m_y9 - 1 - j_y9) (by omega) (by omega)).mp q2_y9
      rw [show y_y9 + (m_y9 : Int) - 1 - ((m_y9 - 1 - k_y9 : Nat) : Int) = y_y9 + (k_y9 : Int) by omega, show y_y9 + (m_y9 : Int) - 1 - ((m_y9 - 1 - j_y9 : Nat) : Int) = y_y9 + (j_y9 : Int) by omega] at q3_y9
      exact q3_y9
  obtain ⟨q1_y9, q2_y9⟩ := pick_eq (Cv := fun s_y9 => ∀ j_y9, j_y9 < m_y9 → ∃ i_y9, i_y9 < m_y9 ∧ Nat.testBit s_y9 i_y9 = true ∧ Nat.testBit (S_y9 i_y9) j_y9 = true) (Dv := fun t_y9 => ∀ k_y9 : Nat, k_y9 < m_y9 → ∃ j_y9, Nat.testBit (E_y9 k_y9) j_y9 = true ∧ Nat.testBit t_y9 j_y9 = true) hm_y9 eqv_y9 bc0_y9 br0_y9 bc1 br1_y9 cC_y9 dR_y9 mC_y9 mR
  have vM_y9 : Cl kM_least [vO 11 9, vI a_y9, vI y_y9, vI (m_y9 : Int), vI c_y9, vI e_y9] h4_y9 = some (some (vI (if e_y9 = 0 then (pcn 14 bc_y9 : Int) else (mrN bc_y9 m_y9 : Int))), h5_y9) := by
    rw [E_M_least, R_isHead I4_y9, Z_bI, bz_t ⟨a0_y9, a1_y9⟩, if_neg n10, R_in, Z_bI, bz_t (by omega), if_neg n10, R_in, Z_bI, bz_t (by omega), if_neg n10, Z_wI (z := y_y9 + (m_y9 : Int)) (by omega), Z_wI (by omega), if_pos (by omega), R_in, Z_bI, bz_t (by omega), if_neg n10, R_in, Z_bI, bz_t (by omega), if_neg n10, E_M_nearYears, r5q_y9, Z_bV, w1_y9, ← q2_y9, ← q1_y9]
    exact rP
  have cm5_y9 := x5_y9.cnt
  have sl5_y9 := x5_y9.sl
  have z3_y9 : h5_y9.M 1 3 = h_y9.M 1 3 := (h15_y9 1 3 (by decide) (by decide) (by decide) (by decide) (by decide)).trans (lo_y9 1 3 (by have := I_y9.1.2.2; omega) (fun t_y9 => by unfold WFn at t_y9; omega) (by omega))
  have z5_y9 : h5_y9.M 1 5 = h_y9.M 1 5 := (h15_y9 1 5 (by decide) (by decide) (by decide) (by decide) (by decide)).trans (lo_y9 1 5 (by have := I_y9.1.2.2; omega) (fun t_y9 => by unfold WFn at t_y9; omega) (by omega))
  have z18_y9 : h5_y9.M 1 18 = h_y9.M 1 18 := (h15_y9 1 18 (by decide) (by decide) (by decide) (by decide) (by decide)).trans (lo_y9 1 18 (by have := I_y9.1.2.2; omega) (fun t_y9 => by unfold WFn at t_y9; omega) (by omega))
  refine ⟨_, h4_y9, h5_y9, vX_y9, vM_y9, ⟨T_y9, n_y9, nc_y9, Ds_y9, nh_y9, Xs_y9, I5_y9⟩, ⟨by rw [cm5_y9]; omega, ?_, x5_y9.X.trans X4_y9⟩, X4_y9⟩
  unfold pot
  rw [z3_y9, z5_y9, z18_y9, e519_y9, sl5_y9, ← e19_y9]
  generalize (if h4_y9.M 1 19 = 0 then (0 : Int) else 40000) = t1_y9 at sm4_y9 ⊢
  generalize (if h_y9.M 1 19 = 0 then (0 : Int) else 40000) = t2_y9 at sm4_y9 ⊢
  generalize (if h_y9.M 1 18 = 0 then (0 : Int) else 40000) = t3_y9
  omega
theorem least_ok : LEAST := fun a_y9 y_y9 c_y9 d_y9 e_y9 h_y9 ⟨T_y9, n_y9, nc_y9, Ds_y9, nh_y9, Xs_y9, I_y9⟩ => by
  have nah_y9 : Cl kX_least [vO 10 1, vI a_y9, vI y_y9, vI c_y9, vI d_y9, vI e_y9] h_y9 = some (some (vI (-1)), h_y9) → Cl kM_least [vO 11 9, vI a_y9, vI y_y9, vI c_y9, vI d_y9, vI e_y9] h_y9 = some (some (vI (-1)), h_y9) → ∃ v_y9 h1_y9 h2_y9, Cl kX_least [vO 10 1, vI a_y9, vI y_y9, vI c_y9, vI d_y9, vI e_y9] h_y9 = some (some (vI v_y9), h1_y9) ∧ Cl kM_least [vO 11 9, vI a_y9, vI y_y9, vI c_y9, vI d_y9, vI e_y9] h1_y9 = some (some (vI v_y9), h2_y9) ∧ IV h2_y9 ∧ stp h_y9 h2_y9 ∧ h1_y9.X = h_y9.X := fun r1_y9 r2_y9 => ⟨-1, h_y9, h_y9, r1_y9, r2_y9, ⟨T_y9, n_y9, nc_y9, Ds_y9, nh_y9, Xs_y9, I_y9⟩, ⟨by omega, by omega, rfl⟩, rfl⟩
  by_cases q1_y9 : 0 ≤ a_y9 ∧ a_y9 < nh_y9
  · by_cases q2_y9 : 1 ≤ y_y9 ∧ y_y9 ≤ 9999
    · by_cases q3_y9 : 1 ≤ c_y9 ∧ c_y9 ≤ 14
      · by_cases q4_y9 : y_y9 + c_y9 - 1 ≤ 9999
        · by_cases q5_y9 : 0 ≤ d_y9 ∧ d_y9 ≤ 999
          · by_cases q6_y9 : 0 ≤ e_y9 ∧ e_y9 ≤ 1
            · obtain ⟨m_y9, em_y9⟩ : ∃ m_y9 : Nat, c_y9 = (m_y9 : Int) := ⟨c_y9.toNat, by omega⟩
              rw [em_y9]
              exact ok_least I_y9 q1_y9.1 q1_y9.2 (by omega) (by omega) q2_y9.1 (by omega) q5_y9.1 q5_y9.2 q6_y9.1 q6_y9.2
            · refine nah_y9 ?_ ?_
              · rw [E_X_least, C_headAt I_y9, Z_bR, if_pos q1_y9, if_neg (I_y9.q0 q1_y9.1 q1_y9.2), C_isYear, Z_bI, bz_t q2_y9, if_neg n10, if_neg (by omega), if_pos q3_y9.2, Z_wI (z := y_y9 + c_y9) (by omega), Z_wI (by omega), if_pos q4_y9, if_neg (by omega), if_pos q5_y9.2]
                by_cases z_y9 : e_y9 < 0
                · rw [if_pos z_y9]
                · rw [if_neg z_y9, if_neg (by omega)]
              · rw [E_M_least, R_isHead I_y9, Z_bI, bz_t q1_y9, if_neg n10, R_in, Z_bI, bz_t q2_y9, if_neg n10, R_in, Z_bI, bz_t q3_y9, if_neg n10, Z_wI (z := y_y9 + c_y9) (by omega), Z_wI (by omega), if_pos q4_y9, R_in, Z_bI, bz_t q5_y9, if_neg n10, R_in, Z_bI, bz_f q6_y9, if_pos rfl]
          · refine nah_y9 ?_ ?_
            · rw [E_X_least, C_headAt I_y9, Z_bR, if_pos q1_y9, if_neg (I_y9.q0 q1_y9.1 q1_y9.2), C_isYear, Z_bI, bz_t q2_y9, if_neg n10, if_neg (by omega), if_pos q3_y9.2, Z_wI (z := y_y9 + c_y9) (by omega), Z_wI (by omega), if_pos q4_y9]
              by_cases z_y9 : d_y9 < 0
              · rw [if_pos z_y9]
              · rw [if_neg z_y9, if_neg (by omega)]
            · rw [E_M_least, R_isHead I_y9, Z_bI, bz_t q1_y9, if_neg n10, R_in, Z_bI, bz_t q2_y9, if_neg n10, R_in, Z_bI, bz_t q3_y9, if_neg n10, Z_wI (z := y_y9 + c_y9) (by omega), Z_wI (by omega), if_pos q4_y9, R_in, Z_bI, bz_f q5_y9, if_pos rfl]
        · refine nah_y9 ?_ ?_
          · rw [E_X_least, C_headAt I_y9, Z_bR, if_pos q1_y9, if_neg (I_y9.q0 q1_y9.1 q1_y9.2), C_isYear, Z_bI, bz_t q2_y9, if_neg n10, if_neg (by omega), if_pos q3_y9.2, Z_wI (z := y_y9 + c_y9) (by omega), Z_wI (by omega), if_neg q4_y9]
          · rw [E_M_least, R_isHead I_y9, Z_bI, bz_t q1_y9, if_neg n10, R_in, Z_bI, bz_t q2_y9, if_neg n10, R_in, Z_bI, bz_t q3_y9, if_neg n10, Z_wI (z := y_y9 + c_y9) (by omega), Z_wI (by omega), if_neg q4_y9]
      · refine nah_y9 ?_ ?_
        · rw [E_X_least, C_headAt I_y9, Z_bR, if_pos q1_y9, if_neg (I_y9.q0 q1_y9.1 q1_y9.2), C_isYear, Z_bI, bz_t q2_y9, if_neg n10]
          by_cases z_y9 : c_y9 < 1
          · rw [if_pos z_y9]
          · rw [if_neg z_y9, if_neg (by omega)]
        · rw [E_M_least, R_isHead I_y9, Z_bI, bz_t q1_y9, if_neg n10, R_in, Z_bI, bz_t q2_y9, if_neg n10, R_in, Z_bI, bz_f q3_y9, if_pos rfl]
    · refine nah_y9 ?_ ?_
      · rw [E_X_least, C_headAt I_y9, Z_bR, if_pos q1_y9, if_neg (I_y9.q0 q1_y9.1 q1_y9.2), C_isYear, Z_bI, bz_f q2_y9, if_pos rfl]
      · rw [E_M_least, R_isHead I_y9, Z_bI, bz_t q1_y9, if_neg n10, R_in, Z_bI, bz_f q2_y9, if_pos rfl]
  · refine nah_y9 ?_ ?_
    · rw [E_X_least, C_headAt I_y9, Z_bR, if_neg q1_y9, if_pos rfl]
    · rw [E_M_least, R_isHead I_y9, Z_bI, bz_f q1_y9, if_pos rfl]
theorem pure_ok : PURE := pure_of least_ok
