/-! THE PURE PART, the start: PURE out of LEAST (printed by wip/gen/init.py) -/
theorem start_lay {h : mH} (c : h.cnt = 56) (h9 : ∀ k : Fin 70, layA 9 (k.val : Int) = 0 ∨ h.M 9 (k.val : Int) = layA 9 (k.val : Int)) (h1 : ∀ k : Fin 70, layA 1 (k.val : Int) = 0 ∨ h.M 1 (k.val : Int) = layA 1 (k.val : Int)) (hN : ∀ b : Fin 57, layN (b.val : Int) = 0 ∨ h.N (b.val : Int) = layN (b.val : Int)) : lay h := by
  refine ⟨fun b k q => ?_, fun b q => ?_, by omega⟩
  · have kb := layA_k q
    have e : ((k.toNat : Nat) : Int) = k := by omega
    rcases layA_le q with z | z
    · rcases h9 ⟨k.toNat, by omega⟩ with w | w
      · rw [z] at q
        exact absurd (by rw [← e]; exact w) q
      · rw [z, ← e]; exact w
    · rcases h1 ⟨k.toNat, by omega⟩ with w | w
      · rw [z] at q
        exact absurd (by rw [← e]; exact w) q
      · rw [z, ← e]; exact w
  · have b0 := layN_0 q
    have b1 := layN_le q
    have e : ((b.toNat : Nat) : Int) = b := by omega
    rcases hN ⟨b.toNat, by omega⟩ with w | w
    · exact absurd (by rw [← e]; exact w) q
    · rw [← e]; exact w
theorem lay_sX {h : mH} (L : lay h) (X : Int → Int) : lay (sX h X) := L
theorem G_lay (X : Int → Int) : lay (sX G56 X) := lay_sX (start_lay G_cnt G_9 G_1 G_N) X
theorem mks_z : ∀ (L : List (Int × Int × Nat × Int)) (h : mH), L.all (fun q => decide (q.1 ≠ 36)) = true → (∀ u, h.M 36 u = 0) → ∀ u, (mks h L).M 36 u = 0 := by
  intro L
  induction L with
  | nil => intro h _ z u; exact z u
  | cons q L ih =>
    intro h a z
    rw [List.all_cons, Bool.and_eq_true] at a
    rw [mks_c]
    refine ih _ a.2 fun u => ?_
    have n36 : q.1 ≠ 36 := of_decide_eq_true a.1
    have nw : (h.new q.2.2.1 q.2.2.2).M 36 u = 0 := by
      rw [Z_Mw]
      split
      · rfl
      · exact z u
    unfold mk1
    split
    · exact nw
    · split
      · exact (Z_Mn (by omega)).trans (z u)
      · exact (Z_Mn (by omega)).trans nw
theorem G_wz (u : Int) : G56.M 36 u = 0 := mks_z L56 (h0X fun _ => 0) (by decide +kernel) (fun _ => rfl) u
theorem G_9_2 : G56.M 9 2 = 0 := by decide +kernel
theorem G_1_1 : G56.M 1 1 = 0 := by decide +kernel
theorem G_9_14 : G56.M 9 14 = 0 := by decide +kernel
theorem G_1_3 : G56.M 1 3 = 0 := by decide +kernel
theorem G_9_28 : G56.M 9 28 = 0 := by decide +kernel
theorem G_1_5 : G56.M 1 5 = 0 := by decide +kernel
theorem G_9_49 : G56.M 9 49 = 0 := by decide +kernel
theorem G_1_7 : G56.M 1 7 = 0 := by decide +kernel
theorem G_9_54 : G56.M 9 54 = 0 := by decide +kernel
theorem G_1_9 : G56.M 1 9 = 0 := by decide +kernel
theorem G_9_63 : G56.M 9 63 = 0 := by decide +kernel
theorem G_1_12 : G56.M 1 12 = 0 := by decide +kernel
theorem G_9_64 : G56.M 9 64 = 0 := by decide +kernel
theorem G_1_13 : G56.M 1 13 = 0 := by decide +kernel
theorem G_9_65 : G56.M 9 65 = 0 := by decide +kernel
theorem G_1_14 : G56.M 1 14 = 0 := by decide +kernel
theorem G_1_17 : G56.M 1 17 = 0 := by decide +kernel
theorem G_9_69 : G56.M 9 69 = 0 := by decide +kernel
theorem G_1_16 : G56.M 1 16 = 0 := by decide +kernel
theorem G_1_15 : G56.M 1 15 = 0 := by decide +kernel
theorem G_1_18 : G56.M 1 18 = 0 := by decide +kernel
theorem G_1_19 : G56.M 1 19 = 0 := by decide +kernel
theorem G_9_56 : G56.M 9 56 = -1 := by decide +kernel
theorem start_IV {h : mH} (L : lay h) (a92 : h.M 9 2 = 0) (a11 : h.M 1 1 = 0) (a914 : h.M 9 14 = 0) (a13 : h.M 1 3 = 0) (a928 : h.M 9 28 = 0) (a15 : h.M 1 5 = 0) (a949 : h.M 9 49 = 0) (a17 : h.M 1 7 = 0) (a954 : h.M 9 54 = 0) (a19 : h.M 1 9 = 0) (a963 : h.M 9 63 = 0) (a112 : h.M 1 12 = 0) (a964 : h.M 9 64 = 0) (a113 : h.M 1 13 = 0) (a965 : h.M 9 65 = 0) (a114 : h.M 1 14 = 0) (a117 : h.M 1 17 = 0) (a969 : h.M 9 69 = 0) (a116 : h.M 1 16 = 0) (a115 : h.M 1 15 = 0) (a118 : h.M 1 18 = 0) (a119 : h.M 1 19 = 0) (a956 : h.M 9 56 = -1) (w : wz h) : IV h := by
  refine ⟨fun _ => -1, 0, 0, fun _ _ _ _ => 0, 0, fun _ => (H00, fun _ => 0, fun _ => 0, fun _ => 0, fun _ => 0, fun _ => 0, fun _ => 0), L, ⟨⟨Int.le_refl _, by decide, fun _ _ => rfl, fun i i0 i1 => by omega⟩, a92, a11, fun i i0 i1 => by omega⟩, ⟨a914, a13, by decide, by decide, fun i i0 i1 => by omega⟩, ⟨a928, a15, by decide, by decide, fun i i0 i1 => by omega, fun i j i0 ij j1 => by omega⟩, ⟨a949.trans a17.symm, by omega, by omega, fun i i0 i1 => by omega, fun i j i0 ij j1 => by omega⟩, ⟨a954.trans a19.symm, by omega, by omega, fun i i0 i1 => by omega⟩, ⟨a963.trans a112.symm, by omega, by omega, fun i i0 i1 => by omega⟩, ⟨by omega, by omega, by omega, by omega, by omega, by omega⟩, Or.inl ⟨a117, a956⟩, ⟨by omega, by omega, by omega, Or.inl ⟨a115, a116⟩⟩, ⟨Or.inl a118, Or.inl a119, fun _ => a15, w⟩⟩
theorem sM {h : mH} {X : Int → Int} {b k v : Int} (e : h.M b k = v) : (sX h X).M b k = v := e
theorem G_IV (X : Int → Int) : IV (sX G56 X) := start_IV (G_lay X) (sM G_9_2) (sM G_1_1) (sM G_9_14) (sM G_1_3) (sM G_9_28) (sM G_1_5) (sM G_9_49) (sM G_1_7) (sM G_9_54) (sM G_1_9) (sM G_9_63) (sM G_1_12) (sM G_9_64) (sM G_1_13) (sM G_9_65) (sM G_1_14) (sM G_1_17) (sM G_9_69) (sM G_1_16) (sM G_1_15) (sM G_1_18) (sM G_1_19) (sM G_9_56) (fun u _ _ => sM (G_wz u))
theorem tops : (h0X fun _ => 0).top = 1 ∧ (mks (mk1 (h0X fun _ => 0) (0, 0, 10, 20)) qX0).top = 9 ∧ (mks (mk1 (mks (mk1 (h0X fun _ => 0) (0, 0, 10, 20)) qX0) (0, 0, 11, 71)) qM0).top = 56 := by decide +kernel
theorem sX_top (h : mH) (X : Int → Int) : (sX h X).top = h.top := rfl
theorem law_start (X : Int → Int) : Cl kL_law [vS 2] (h0X X) = Rn kL_law 3 [vS 2, vR 10 1, vR 11 9, vR 101 56, vI 0, vU, vU] [] (sX G56 X) := by
  have e0 : h0X X = sX (h0X fun _ => 0) X := rfl
  have n1 : (h0X X).new 10 20 = sX (mk1 (h0X fun _ => 0) (0, 0, 10, 20)) X := rfl
  have n2 : ∀ h : mH, (sX h X).new 11 71 = sX (mk1 h (0, 0, 11, 71)) X := fun h => (mk1_X h X (0, 0, 11, 71))
  have n3 : ∀ h : mH, (sX h X).new 101 1 = sX (mk1 h (0, 0, 101, 1)) X := fun h => (mk1_X h X (0, 0, 101, 1))
  rw [E_L_law, Z_hl, n1, show (h0X X).top = 1 from tops.1, qXr0, Z_bV, E_L_law_1, mks_X, Z_hl, n2, sX_top, tops.2.1, qMr0, Z_bV, E_L_law_2, gd_t (by decide), mks_X, Z_hl, n3, sX_top, tops.2.2]
  have e : mk1 (mks (mk1 (mks (mk1 (h0X fun _ => 0) (0, 0, 10, 20)) qX0) (0, 0, 11, 71)) qM0) (0, 0, 101, 1) = G56 := by
    unfold G56 L56
    rw [mks_c, mks_a, mks_c, mks_a, mks_c]
    rfl
  rw [e]
/-- THE PURE PART: on every script the small machine's law answers 1, within the room -/
def PURE : Prop := ∀ X : Int → Int, 0 ≤ X (-1) → X (-1) ≤ 4096 → (∀ j, inI (X j)) → ∃ (n : Nat) (hf : mH), mex prog n kL_law 0 (mloc 7 [vS 2]) [] (h0X X) = some (some (vI 1), hf) ∧ hf.cnt ≤ 601024 ∧ hf.sl ≤ 7293034
theorem pot_0 {h : mH} (a : h.M 1 3 = 0) (b : h.M 1 5 = 0) (c : h.M 1 18 = 0) (d : h.M 1 19 = 0) : pot h = 0 := by
  unfold pot
  rw [a, b, c, d]
  rfl
theorem pot_le {h : mH} (J : IV h) : pot h ≤ 1000000 := by
  obtain ⟨T, n, nc, Ds, nh, Xs, I⟩ := J
  have n1 := I.nc
  have n2 := I.nh
  unfold pot
  rw [I.2.2.1.2.1, I.2.2.2.1.2.1]
  split <;> split <;> omega
theorem pure_loop (LE : LEAST) {h : mH} (J : IV h) (c : h.cnt = 56) (s : h.sl ≤ 1000000) (p : pot h = 0) (x0 : 0 ≤ h.X (-1)) (x1 : h.X (-1) ≤ 4096) (xI : ∀ j, inI (h.X j)) : ∃ hf, Rn kL_law 3 [vS 2, vR 10 1, vR 11 9, vR 101 56, vI 0, vU, vU] [] h = some (some (vI 1), hf) ∧ hf.cnt ≤ 601024 ∧ hf.sl ≤ 7293034 := by
  obtain ⟨hf, r, c', s', J'⟩ := lw_loop LE 512 h 0 vU vU J (by decide) (by omega) x0 x1 (by decide) xI
  have p1 := pot_le J'
  exact ⟨hf, r, by omega, by omega⟩
theorem pure_of (LE : LEAST) : PURE := fun X x0 x1 xI => by
  obtain ⟨hf, r, c, s⟩ := pure_loop LE (G_IV X) (h := sX G56 X) G_cnt G_sl (pot_0 (sM G_1_3) (sM G_1_5) (sM G_1_18) (sM G_1_19)) x0 x1 xI
  have r0 : Rn kL_law 0 [vS 2, vU, vU, vU, vU, vU, vU] [] (h0X X) = some (some (vI 1), hf) := by
    have a := (E_L_law (h := h0X X)).symm.trans ((law_start X).trans r)
    rw [Z_hl] at a
    rw [B_L_law_0]
    exact a
  obtain ⟨m, hm⟩ := (rn_iff pok_prog kL_law 0 (mloc 7 [vS 2]) [] (h0X X) (some (vI 1), hf)).mp r0
  exact ⟨m, hf, hm, c, s⟩
