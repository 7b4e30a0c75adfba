/-! THE PURE PART, a change, read by the reference -/
def WH (c s : Int) : Int → Int → Prop := fun b k => WL s b k ∨ (b = 16 ∧ k = s - 1) ∨ ((b = 17 ∨ b = 18) ∧ k = s) ∨ (b = 12 ∧ k = c)
theorem WH_tp {c s b k : Int} (w : WH c s b k) : layA b k = 0 ∧ ¬ (b = 9 ∧ k = 2) ∧ b ≠ 10 := by
  rcases w with w | w
  · exact WL_tp w
  · exact ⟨layA_n _ (by omega) (by omega), by omega, by omega⟩
theorem R_chA {T : Int → Int} {N : Int} (hT : tpo T N) {c s : Int} (s0 : 1 ≤ s) (s1 : s < 28) {h : mH} (H : mtp h T N) {st : Int × Int} (g : gs N st) {lp : Int → Int} (R : mlr h (s - 1) lp) {ft : Int × Int × Int} (V : vdT lp ft) (hf : h.M 17 (s - 1) = codT ft) : Cl kM_change [vO 11 9, vI c, vI s] (pss h st) = Rn kM_change 11 [vO 11 9, vI c, vI s, vI (chY T st).1, vI (chM T st).1, vI (chD T st).1, vU] [] (pss h (chE T lp (keyT ft) st)) := by
  obtain ⟨g1, g2, g3, g4, g5, g6, g7, g8, g9⟩ := ch_g hT lp (keyT ft) g
  have e1 := R_plain hT H g (lo := 1) 9999 (by omega)
  have e2 := R_sign hT H g1 46
  have e3 := R_plain hT H g2 (lo := 1) 12 (by omega)
  have e4 := R_sign hT H g3 46
  have e5 := R_num hT H g4 1 31
  rw [E_M_change, e1, Z_bI]
  rw [show pss h (nmS T 1 9999 st).2 = pss h (chY T st).2 from rfl, e2, Z_bV, e3, Z_bI]
  rw [show pss h (nmS T 1 12 (sgn T 46 (chY T st).2)).2 = pss h (chM T st).2 from rfl, e4, Z_bV, e5, Z_bI]
  rw [show nmS T 1 31 (sgn T 46 (chM T st).2) = chD T st from rfl, show nmS T 1 12 (sgn T 46 (chY T st).2) = chM T st from rfl, show nmS T 1 9999 st = chY T st from rfl]
  have e9 : (pss h (chD T st).2).M 9 4 = (chD T st).2.2 := rfl
  have L := (pst_tp H (chD T st).2.1 (chD T st).2.2).1
  rw [e9]
  by_cases q : (chD T st).2.2 = -1
  · have p4 := nmS_b hT g4 (lo := 1) 31 (by omega)
    have p2 := nmS_b hT g2 (lo := 1) 12 (by omega)
    have p0 := nmS_b hT g (lo := 1) 9999 (by omega)
    have r4 := p4.2.2.2 q
    have q3 := (sgn_ok r4.1 (gs_sk hT g3)).1
    have r2 := p2.2.2.2 q3
    have q1 := (sgn_ok r2.1 (gs_sk hT g1)).1
    have r0 := p0.2.2.2 q1
    have y1 : 1 ≤ (chY T st).1 ∧ (chY T st).1 ≤ 9999 := ⟨r0.2.1, r0.2.2.1⟩
    have m1 : 1 ≤ (chM T st).1 ∧ (chM T st).1 ≤ 12 := ⟨r2.2.1, r2.2.2.1⟩
    have d1 : 1 ≤ (chD T st).1 ∧ (chD T st).1 ≤ 31 := ⟨r4.2.1, r4.2.2.1⟩
    have R1 : mlr (pst h (chD T st).2.1 (chD T st).2.2) (s - 1) lp := R.ew (pst_ew _ _ _) fun b k w v => by have := v.1; omega
    have wal : ∀ B : Int → mH → mR, (bV (Cl kM_wrongAtLast [vO 11 9] (pss h (chD T st).2)) fun h8 => Rn kM_change 11 [vO 11 9, vI c, vI s, vI (chY T st).1, vI (chM T st).1, vI (chD T st).1, vU] [] h8) = Rn kM_change 11 [vO 11 9, vI c, vI s, vI (chY T st).1, vI (chM T st).1, vI (chD T st).1, vU] [] (pss h (wlS (chD T st).2)) := by
      intro B
      have p5 := nmS_pos hT g4 (lo := 1) 31 (by omega) q
      have t5 : (chD T st).2.1 ≤ N := (g5 q).2
      have := hT.2.1
      have p6 : 0 < (chD T st).2.1 := p5
      unfold pss wlS
      rw [R_wal, Z_bV, if_pos q, if_pos q, Z_wI (by omega)]
    rw [if_pos q]
    unfold pss
    rw [Z_wI (z := s - 1) (by omega), R_daysOf L (by omega) (by omega) R1 (by omega), Z_bI]
    unfold chE
    have dm := dim_b (lp (chY T st).1) (chM T st).1
    have df := dim_b (lp ft.1) ft.2.1
    obtain ⟨v1, v2, v3, v4, v5⟩ := V
    by_cases a : (chD T st).1 ≤ dim (lp (chY T st).1) (chM T st).1
    · rw [if_pos a, R_code _ (by omega) (by omega) (by omega) (by omega) (by omega) (by omega), Z_bI, lm11 L, ln17 L, gd_t (by omega), show (pst h (chD T st).2.1 (chD T st).2.2).M 17 (s - 1) = codT ft from hf]
      have ck := cod_key (y := ft.1) (m := ft.2.1) (d := ft.2.2) (y' := (chY T st).1) (m' := (chM T st).1) (d' := (chD T st).1) (by omega) (by omega) (by omega) (by omega) (by omega) (by omega) (by omega) (by omega)
      have ck' : codT ft ≤ cod (chY T st).1 (chM T st).1 (chD T st).1 ↔ keyT ft ≤ key (chY T st).1 (chM T st).1 (chD T st).1 := ck
      by_cases b : keyT ft ≤ key (chY T st).1 (chM T st).1 (chD T st).1
      · rw [if_neg (by omega), if_pos ⟨a, b⟩]
      · rw [if_pos (by omega), if_neg fun z => b z.2]
        exact wal fun _ _ => none
    · rw [if_neg a, if_neg fun z => a z.1]
      exact wal fun _ _ => none
  · rw [if_neg q]
    have : chE T lp (keyT ft) st = (chD T st).2 := by
      unfold chE wlS
      split <;> rfl
    rw [this]
theorem ord_up {lp : Int → Int} {y m d : Int} (v : vd lp y m d) (h : y ≤ 10000) : ord lp y m d < yb lp 10001 := by
  have b := ord_b v
  have c := yb_lt lp (y := y) (y' := 10001) v.1 (by omega)
  generalize yb lp 10001 = Z at c ⊢
  omega
theorem R_chB {T : Int → Int} {N : Int} (hT : tpo T N) {c s : Int} (c0 : 0 ≤ c) (c1 : c < 7) (s0 : 1 ≤ s) (s1 : s < 28) {h : mH} (H : mtp h T N) {st : Int × Int} (g : gs N st) (sw : -1 ≤ st.2) {lp : Int → Int} (R : mlr h (s - 1) lp) (F : mbf h (s - 1) lp) {ft : Int × Int × Int} (V : vdT lp ft) (Vy : ft.1 ≤ 10000) (hf : h.M 17 (s - 1) = codT ft) {dd cn : Int} (hd : h.M 18 (s - 1) = dd) (dd0 : 0 ≤ dd) (dd1 : dd ≤ 100000000) (hc : h.M 12 c = cn) (cn0 : 0 ≤ cn) (cn1 : cn ≤ 4) : ∃ h', Rn kM_change 11 [vO 11 9, vI c, vI s, vI (chY T st).1, vI (chM T st).1, vI (chD T st).1, vU] [] (pss h (chE T lp (keyT ft) st)) = some (none, h') ∧ Ew (WH c s) h h' ∧ h'.M 9 3 = (chR T lp (keyT ft) st).2.2.2.1 ∧ h'.M 9 4 = (chR T lp (keyT ft) st).2.2.2.2 ∧ ((chR T lp (keyT ft) st).2.2.2.2 = -1 → h'.M 16 (s - 1) = cod (chY T st).1 (chM T st).1 (chD T st).1 ∧ h'.M 17 s = codT (chF (lpR (chR T lp (keyT ft) st)) (chY T st).1 (chM T st).1 (chD T st).1 (chN T lp (keyT ft) st).1) ∧ h'.M 18 s = dd + ord lp (chY T st).1 (chM T st).1 (chD T st).1 - ordT lp ft + 1 ∧ mlr h' s (lpR (chR T lp (keyT ft) st)) ∧ mbf h' s (lpR (chR T lp (keyT ft) st)) ∧ h'.M 12 c = cn + 1) ∧ ((chR T lp (keyT ft) st).2.2.2.2 ≠ -1 → h'.M 12 c = cn) := by
  obtain ⟨g1, g2, g3, g4, g5, g6, g7, g8, g9⟩ := ch_g hT lp (keyT ft) g
  have e1 := R_close hT H g6 (fun q => by
    by_cases z : (chD T st).1 ≤ dim (lp (chY T st).1) (chM T st).1 ∧ keyT ft ≤ key (chY T st).1 (chM T st).1 (chD T st).1
    · unfold chE at q ⊢
      rw [if_pos z] at q ⊢
      exact ((nmS_b hT g4 (lo := 1) 31 (by omega)).2.2.2 q).2.2.2
    · unfold chE at q
      rw [if_neg z] at q
      exact absurd q (wlS_g g5 (nmS_pos hT g4 (lo := 1) 31 (by omega))).2)
  have e2 := R_sign hT H g6 45
  have e3 := R_plain hT H g7 (lo := 0) 30 (by omega)
  have e4 := R_sign hT H g8 58
  obtain ⟨h5, e5, x5, w3, w4, wR⟩ := R_leaps hT (s := s) (by omega) s1 H g9
  have x5' : Ew (WH c s) h h5 := x5.mono fun _ _ w => Or.inl w
  have H5 := Ew.mtp H x5' fun _ _ w => WH_tp w
  have L5 := H5.1
  rw [E_M_change_11, e1, Z_bV, e2, Z_bV, e3, Z_bI]
  rw [show pss h (nmS T 0 30 (sgn T 45 (chE T lp (keyT ft) st))).2 = pss h (chN T lp (keyT ft) st).2 from rfl, e4, Z_bV, e5, Z_bV]
  clear e1 e2 e3 e4 e5
  rw [show nmS T 0 30 (sgn T 45 (chE T lp (keyT ft) st)) = chN T lp (keyT ft) st from rfl]
  have w40 : h5.M 9 4 = (chR T lp (keyT ft) st).2.2.2.2 := w4
  by_cases q : (chR T lp (keyT ft) st).2.2.2.2 = -1
  · obtain ⟨⟨y1, y2⟩, ⟨m1, m2⟩, ⟨d1, d2⟩, ⟨n1, n2⟩, dm, kf, sw2⟩ := ch_ok hT g sw q
    obtain ⟨R5, F5⟩ := wR q
    obtain ⟨lq, hlq⟩ : ∃ lq, lq = lpR (chR T lp (keyT ft) st) := ⟨_, rfl⟩
    have R5' : mlr h5 s lq := by rw [hlq]; exact R5
    have F5' : mbf h5 s lq := by rw [hlq]; exact F5
    rw [← hlq]
    clear R5 F5 wR
    generalize (chY T st).1 = Y at *
    generalize (chM T st).1 = M at *
    generalize (chD T st).1 = D at *
    generalize (chN T lp (keyT ft) st).1 = n at *
    have sep : ∀ b k, WL s b k → ¬ (b = 13 ∧ k = s - 1 ∨ (b = 14 ∨ b = 15) ∧ 8 * (s - 1) ≤ k ∧ k < 8 * (s - 1) + 8) := by
      intro b k w; unfold WL at w; omega
    have x5b := x5
    have Rp : mlr h5 (s - 1) lp := R.ew x5b fun b k w v => sep b k v w
    have Fp : mbf h5 (s - 1) lp := F.ew x5b fun k a1 a2 v => by unfold WL at v; omega
    have hf5 : h5.M 17 (s - 1) = codT ft := (x5b.2 17 _ fun v => by unfold WL at v; omega).trans hf
    have hd5 : h5.M 18 (s - 1) = dd := (x5b.2 18 _ fun v => by unfold WL at v; omega).trans hd
    have hc5 : h5.M 12 c = cn := (x5b.2 12 _ fun v => by unfold WL at v; omega).trans hc
    -- the last date ahead
    have x7 : Ew (WH c s) h5 (h5.set 16 (s - 1) (cod Y M D)) := Ew.st _ _ (Or.inr (Or.inl ⟨rfl, rfl⟩))
    have L7 : lay (h5.set 16 (s - 1) (cod Y M D)) := L5.st _ (layA_n _ (by decide) (by decide))
    have k7 : ∀ b k, b ≠ 16 → (h5.set 16 (s - 1) (cod Y M D)).M b k = h5.M b k := fun b k hb => Z_Mn (Or.inl hb)
    generalize hh7 : h5.set 16 (s - 1) (cod Y M D) = h7 at x7 L7 k7
    have v16 : h7.M 16 (s - 1) = cod Y M D := by rw [← hh7, Z_Mt]
    have e7 : h7.2 = h5.2 := x7.1
    have Rp7 : mlr h7 (s - 1) lp := Rp.cg fun b k w => k7 b k (by omega)
    have Fp7 : mbf h7 (s - 1) lp := fun y a b => (k7 _ _ (by decide)).trans (Fp y a b)
    have R7 : mlr h7 s lq := R5'.cg fun b k w => k7 b k (by omega)
    have F7 : mbf h7 s lq := fun y a b => (k7 _ _ (by decide)).trans (F5' y a b)
    have o1 := R_ordinal L7 (s := s - 1) (by omega) (by omega) Rp7 Fp7 (y := Y) (m := M) (d := D) y1 (by omega) m1 m2 d1 d2
    obtain ⟨v1, v2, v3, v4, v5⟩ := V
    have df := dim_b (lp ft.1) ft.2.1
    have o2 := R_ordinal L7 (s := s - 1) (by omega) (by omega) Rp7 Fp7 (y := ft.1) (m := ft.2.1) (d := ft.2.2) v1 Vy v2 v3 v4 (by omega)
    have b1 := ord_b (lp := lp) (y := Y) (m := M) (d := D) ⟨y1, m1, m2, d1, dm⟩
    have b2 := ord_b (lp := lp) (y := ft.1) (m := ft.2.1) (d := ft.2.2) ⟨v1, v2, v3, v4, v5⟩
    have c1 := yb_b lp y1
    have c2 := yb_b lp v1
    have yl1 := ylen_b (lp Y)
    have yl2 := ylen_b (lp ft.1)
    have val : wI (wI (wI (dd + ord lp Y M D) - ordT lp ft) + 1) = dd + ord lp Y M D - ordT lp ft + 1 := by
      have : ordT lp ft = ord lp ft.1 ft.2.1 ft.2.2 := rfl
      rw [Z_wI (z := dd + ord lp Y M D) (by omega), Z_wI (z := dd + ord lp Y M D - ordT lp ft) (by omega), Z_wI (by omega)]
    -- the first day behind
    have x11 : Ew (WH c s) h7 (h7.set 18 s (dd + ord lp Y M D - ordT lp ft + 1)) := Ew.st _ _ (Or.inr (Or.inr (Or.inl ⟨Or.inr rfl, rfl⟩)))
    have L11 : lay (h7.set 18 s (dd + ord lp Y M D - ordT lp ft + 1)) := L7.st _ (layA_n _ (by decide) (by decide))
    have k11 : ∀ b k, b ≠ 18 → (h7.set 18 s (dd + ord lp Y M D - ordT lp ft + 1)).M b k = h7.M b k := fun b k hb => Z_Mn (Or.inl hb)
    have v18 : (h7.set 18 s (dd + ord lp Y M D - ordT lp ft + 1)).M 18 s = dd + ord lp Y M D - ordT lp ft + 1 := Z_Mt ..
    have R11 : mlr (h7.set 18 s (dd + ord lp Y M D - ordT lp ft + 1)) s lq := R7.cg fun b k w => k11 b k (by omega)
    have F11 : mbf (h7.set 18 s (dd + ord lp Y M D - ordT lp ft + 1)) s lq := fun y a b => (k11 _ _ (by decide)).trans (F7 y a b)
    have dq := dim_b (lq Y) M
    have iq := imin_b d1 (x := dim (lq Y) M) (by omega)
    have o3 := R_ordinal L11 (s := s) (by omega) s1 R11 F11 (y := Y) (m := M) (d := imin D (dim (lq Y) M)) y1 (by omega) m1 m2 (by omega) (by omega)
    have vF := chF_v lq y1 m1 m2 d1 n1 n2
    have bF := ord_b vF.1
    have b3 := ord_b (lp := lq) (y := Y) (m := M) (d := imin D (dim (lq Y) M)) ⟨y1, m1, m2, by omega, by omega⟩
    have c3 := yb_b lq y1
    have ylq := ylen_b (lq Y)
    have up : ord lq (chF lq Y M D n).1 (chF lq Y M D n).2.1 (chF lq Y M D n).2.2 < yb lq 10001 := by
      exact ord_up vF.1 (by omega)
    have oe : ord lq (chF lq Y M D n).1 (chF lq Y M D n).2.1 (chF lq Y M D n).2.2 = ord lq Y M (imin D (dim (lq Y) M)) + n + 1 := vF.2.1
    obtain ⟨y', m', d', w1, w2, w3', w4'⟩ := R_dated L11 (s := s) (by omega) s1 R11 F11 (o := ord lq Y M (imin D (dim (lq Y) M)) + n + 1) (by omega) (by rw [← oe]; exact up)
    obtain ⟨z1, z2, z3⟩ := ord_inj w1 vF.1 (w3'.trans oe.symm)
    have val2 : wI (wI (ord lq Y M (imin D (dim (lq Y) M)) + n) + 1) = ord lq Y M (imin D (dim (lq Y) M)) + n + 1 := by
      rw [Z_wI (z := ord lq Y M (imin D (dim (lq Y) M)) + n) (by omega), Z_wI (by omega)]
    rw [z1, z2, z3] at w4'
    have N7 : ∀ b, h7.N b = h5.N b := fun b => by rw [x7.N]
    have x17 : Ew (WH c s) (h7.set 18 s (dd + ord lp Y M D - ordT lp ft + 1)) ((h7.set 18 s (dd + ord lp Y M D - ordT lp ft + 1)).set 17 s (codT (chF lq Y M D n))) := Ew.st _ _ (Or.inr (Or.inr (Or.inl ⟨Or.inl rfl, rfl⟩)))
    have L17 : lay ((h7.set 18 s (dd + ord lp Y M D - ordT lp ft + 1)).set 17 s (codT (chF lq Y M D n))) := L11.st _ (layA_n _ (by decide) (by decide))
    have k17 : ∀ b k, b ≠ 17 → b ≠ 18 → ((h7.set 18 s (dd + ord lp Y M D - ordT lp ft + 1)).set 17 s (codT (chF lq Y M D n))).M b k = h7.M b k := fun b k hb hb2 => (Z_Mn (Or.inl hb)).trans (k11 b k hb2)
    have hc17 : ((h7.set 18 s (dd + ord lp Y M D - ordT lp ft + 1)).set 17 s (codT (chF lq Y M D n))).M 12 c = cn := by
      rw [k17 _ _ (by decide) (by decide), k7 _ _ (by decide)]; exact hc5
    refine ⟨((h7.set 18 s (dd + ord lp Y M D - ordT lp ft + 1)).set 17 s (codT (chF lq Y M D n))).set 12 c (cn + 1), ?_, ((((x5'.tr x7).tr x11).tr x17).tr (Ew.st _ _ (Or.inr (Or.inr (Or.inr ⟨rfl, rfl⟩))))), ?_, ?_, fun _ => ⟨?_, ?_, ?_, ?_, ?_, Z_Mt ..⟩, fun z => absurd q z⟩
    · rw [w40, if_pos q, R_code _ (by omega) (by omega) (by omega) (by omega) (by omega) (by omega), Z_bI, Z_wI (z := s - 1) (by omega), lm10 L5, ln16 L5, gd_t (by omega), Z_hl, hh7, lm12 L7, ln18 L7, gd_t (by omega), R_code _ (by omega) (by omega) (by omega) (by omega) (by omega) (by omega), Z_bI, o1, Z_bI, lm11 L7, ln17 L7, gd_t (by omega), k7 17 _ (by decide), hf5, show codT ft = cod ft.1 ft.2.1 ft.2.2 from rfl, o2, Z_bI, ln18 L7, gd_t (by omega), k7 18 _ (by decide), hd5, show ord lp ft.1 ft.2.1 ft.2.2 = ordT lp ft from rfl, val, Z_hl, R_daysOf L11 (by omega) s1 R11 (by omega), Z_bI, D_min, Z_bI, R_code _ (by omega) (by omega) (by omega) (by omega) (by omega) (by omega), Z_bI, o3, Z_bI, val2, w4', Z_bI, lm11 L11, ln17 L11, gd_t (by omega), Z_hl]
      rw [show cod (chF lq Y M D n).1 (chF lq Y M D n).2.1 (chF lq Y M D n).2.2 = codT (chF lq Y M D n) from rfl, lm6 L17, ln12 L17, gd_t (by omega), gd_t (by omega), hc17, Z_wI (z := cn + 1) (by omega), Z_hl]
    · rw [Z_Mn (by omega), k17 _ _ (by decide) (by decide), k7 _ _ (by decide)]; exact w3
    · rw [Z_Mn (by omega), k17 _ _ (by decide) (by decide), k7 _ _ (by decide)]; exact w4
    · rw [Z_Mn (by omega), k17 _ _ (by decide) (by decide)]; exact v16
    · rw [Z_Mn (by omega), Z_Mt]
    · rw [Z_Mn (by omega), Z_Mn (by omega)]; exact v18
    · exact R7.cg fun b k w => by rw [Z_Mn (by omega)]; exact k17 b k (by omega) (by omega)
    · exact fun y a b => by rw [Z_Mn (by omega), k17 _ _ (by decide) (by decide)]; exact F7 y a b
  · refine ⟨h5, ?_, x5', w3, w4, fun z => absurd z q, fun _ => (x5.2 12 _ fun v => by unfold WL at v; omega).trans hc⟩
    rw [w40, if_neg q]
