/-! THE PURE PART, calls: a calendar, faults -/
def Qok (nc b k : Int) : Prop := (b = 9 ∧ (k = 0 ∨ k = 2 ∨ k = 3 ∨ k = 4 ∨ k = 14 ∨ k = 28 ∨ k = 29 ∨ k = 34 ∨ k = 35 ∨ k = 38 ∨ k = 39 ∨ k = 40 ∨ k = 41 ∨ k = 70)) ∨ (b = 1 ∧ (k = 1 ∨ k = 3 ∨ k = 5 ∨ k = 18 ∨ k = 19)) ∨ (b = 3 ∧ k = nc) ∨ b = 2 ∨ b = 4 ∨ (11 ≤ b ∧ b ≤ 38) ∨ b = 50 ∨ b = 56
theorem scr_q {nc nh b k : Int} (w : Scr nc nh b k) : Qok nc b k := by
  have := scr_b w
  unfold Qok
  omega
theorem INV.pt {h h1 : mH} {T : Int → Int} {n nc : Int} {Ds : Int → Int → Int → Int → Int} {nh : Int} {Xs : Int → HX} (I : INV h T n nc Ds nh Xs) (K : Kz h h1) (e : ∀ b k, b ≤ 56 → ¬ Qok nc b k → h1.M b k = h.M b k) : iA h1 nc Ds ∧ iP h1 nc Ds ∧ iE h1 ∧ iK h1 ∧ iB h1 nc Ds ∧ iW h1 := by
  obtain ⟨L, it, ic, ih, ia, ip, ie, ik, ib, iw, ig⟩ := I
  refine ⟨ia.cg K fun b j z => e b j ?_ ?_, ip.cg K fun b j z => e b j ?_ ?_, ie.cg fun b j z => e b j ?_ ?_, ?_, ib.cg K fun b j z => e b j ?_ ?_, iw.cg K fun b j z => e b j ?_ ?_⟩
  · unfold rA at z; omega
  · unfold rA at z; unfold Qok; omega
  · unfold rP at z; omega
  · unfold rP at z; unfold Qok; omega
  · unfold rE at z; omega
  · unfold rE at z; unfold Qok; omega
  · unfold iK
    rw [e 9 64 (by omega) (by unfold Qok; omega), e 9 65 (by omega) (by unfold Qok; omega), e 1 13 (by omega) (by unfold Qok; omega), e 1 14 (by omega) (by unfold Qok; omega), e 1 7 (by omega) (by unfold Qok; omega), e 1 12 (by omega) (by unfold Qok; omega)]
    exact ik
  · unfold rB at z; omega
  · unfold rB at z; unfold Qok; omega
  · unfold rW at z; omega
  · unfold rW at z; unfold Qok; omega
theorem spt_up {h : mH} {nc : Int} {Ds Ds' : Int → Int → Int → Int → Int} (E : ∀ c, 0 ≤ c → c < nc → Ds' c = Ds c) {s c y m d : Int} (S : spt h nc Ds s c y m d) : spt h (nc + 1) Ds' s c y m d := by
  obtain ⟨i, a⟩ := S
  have e := E c i.1.1 i.1.2
  unfold spt isd
  rw [e]
  exact ⟨⟨⟨i.1.1, by have := i.1.2; omega⟩, i.2⟩, a⟩
theorem iA_up {h : mH} {nc : Int} {Ds Ds' : Int → Int → Int → Int → Int} (E : ∀ c, 0 ≤ c → c < nc → Ds' c = Ds c) (I : iA h nc Ds) : iA h (nc + 1) Ds' := ⟨I.1, I.2.1, I.2.2.1, fun i i0 i1 => ⟨spt_up E (I.2.2.2.1 i i0 i1).1, (I.2.2.2.1 i i0 i1).2⟩, I.2.2.2.2⟩
theorem iP_up {h : mH} {nc : Int} {Ds Ds' : Int → Int → Int → Int → Int} (E : ∀ c, 0 ≤ c → c < nc → Ds' c = Ds c) (I : iP h nc Ds) : iP h (nc + 1) Ds' := ⟨I.1, I.2.1, I.2.2.1, fun i i0 i1 => spt_up E (I.2.2.2 i i0 i1)⟩
theorem iB_up {h : mH} {nc : Int} {Ds Ds' : Int → Int → Int → Int → Int} (E : ∀ c, 0 ≤ c → c < nc → Ds' c = Ds c) (I : iB h nc Ds) : iB h (nc + 1) Ds' := by
  rcases I with I | ⟨I, J⟩
  · exact Or.inl I
  · refine Or.inr ⟨spt_up E I, ?_⟩
    rw [J, E _ I.1.1.1 I.1.1.2]
theorem scr_lay {nc nh b k : Int} (w : Scr nc nh b k) : layA b k = 0 := by
  have q := scr_b w
  clear w
  rcases q with ⟨rfl, q⟩ | q
  · rcases q with rfl | rfl | rfl | rfl | rfl | rfl | rfl | rfl | rfl | rfl | rfl <;> rfl
  · exact layA_n k (by omega) (by omega)
theorem wcal_scr {nc nh c b k : Int} (hc : nc ≤ c) (w : WCal c b k) : Scr nc nh b k := by
  unfold WCal at w
  rcases w with w | w
  · exact Or.inl (by omega)
  · exact Or.inr (Or.inr (Or.inr (Or.inr (Or.inr (Or.inr (Or.inl ⟨c, hc, w⟩))))))
theorem whd_scr {nc nh c b k : Int} (hc : nh ≤ c) (w : WHdp c b k) : Scr nc nh b k := by
  unfold WHdp at w
  rcases w with w | w
  · exact Or.inr (Or.inr (Or.inr (Or.inr (Or.inr (Or.inr (Or.inr ⟨c, hc, Or.inl w⟩))))))
  · exact Or.inl (by omega)
theorem ok_fault0 {h : mH} {T : Int → Int} {n nc : Int} {Ds : Int → Int → Int → Int → Int} {nh : Int} {Xs : Int → HX} (I : INV h T n nc Ds nh Xs) : dne kX_fault kM_fault [vI 0] h := by
  have c := I.1.2.2
  have nb := I.nc
  have tp : h.top = h.cnt + 1 := rfl
  obtain ⟨h2, r2, x2, c2, s2, H, S⟩ := C_rdNew I
  obtain ⟨h3, a3, r3, x3, ea, c3, s3, f3, _⟩ := D_readCal I.2.1.1 (r := h.top) (by omega) (by omega) H S
  have x3' : Fb h.cnt (fun _ _ => False) h h3 := by
    have y := (x2.fb (W := fun b _ => (h.cnt : Int) < b) (Int.le_refl _) fun _ _ _ w => w.elim).tr ⟨fun b k q w => x3.1 b k (by omega) fun v => w (show (h.cnt : Int) < b by have := v.1; omega), fun b q => x3.2.1 b (by omega), x3.2.2.1, x3.2.2.2⟩
    exact ⟨fun b k q _ => y.1 b k q (show ¬ (h.cnt : Int) < b by omega), y.2⟩
  have M3 : mtp h3 T n := I.mtp.fb x3' fun _ _ w => w.elim
  obtain ⟨h4, r4, x4, _⟩ := R_readCal I.2.1.1 (c := 6) (by decide) (by decide) M3
  have tn : h.top ≠ 0 := by omega
  have a : Cl kX_fault [vO 10 1, vI 0] h = some (some (vI (pCw T)), h3) := by
    rw [E_X_fault, Z_hl, r2, Z_bV, E_X_fault_1, if_pos rfl, E_X_fault_2, r3, Z_bR, E_X_fault_3, gd_t tn, f3]
  have b : Cl kM_fault [vO 11 9, vI 0] h3 = some (some (vI (pCw T)), h4) := by
    rw [E_M_fault, if_pos rfl, r4, Z_bI]
  exact okw2 I a b ((Fb.tr ⟨fun b k q _ => x3'.1 b k q fun w => w, x3'.2⟩ (x4.fb fun b k _ w => wcal_scr nb.2 w))) (by rw [x4.cnt]; omega) (by rw [x4.sl]; omega) x3'.2.2.2
theorem ok_fault1 {h : mH} {T : Int → Int} {n nc : Int} {Ds : Int → Int → Int → Int → Int} {nh : Int} {Xs : Int → HX} (I : INV h T n nc Ds nh Xs) : dne kX_fault kM_fault [vI 1] h := by
  have c := I.1.2.2
  have nb := I.nh
  have tp : h.top = h.cnt + 1 := rfl
  obtain ⟨h2, r2, x2, c2, s2, H, S⟩ := C_rdNew I
  obtain ⟨h3, a3, r3, ea, x3, c3, s3, f3, _⟩ := D_readHead I.2.1.1 (r := h.top) (by omega) (by omega) H S
  have x3' : Fb h.cnt (fun _ _ => False) h h3 := by
    have y := (x2.fb (W := fun b _ => (h.cnt : Int) < b) (Int.le_refl _) fun _ _ _ w => w.elim).tr ⟨fun b k q w => x3.1 b k (by omega) fun v => w (show (h.cnt : Int) < b by have := v.1; omega), fun b q => x3.2.1 b (by omega), x3.2.2.1, x3.2.2.2⟩
    exact ⟨fun b k q _ => y.1 b k q (show ¬ (h.cnt : Int) < b by omega), y.2⟩
  have M3 : mtp h3 T n := I.mtp.fb x3' fun _ _ w => w.elim
  obtain ⟨h4, r4, x4, _⟩ := R_readHead I.2.1.1 (a := 8) (by decide) (by decide) M3
  have tn : h.top ≠ 0 := by omega
  have a : Cl kX_fault [vO 10 1, vI 1] h = some (some (vI (hdw T)), h3) := by
    rw [E_X_fault, Z_hl, r2, Z_bV, E_X_fault_1, if_neg (by decide), if_pos rfl, E_X_fault_4, r3, Z_bR, E_X_fault_5, gd_t tn, f3]
  have b : Cl kM_fault [vO 11 9, vI 1] h3 = some (some (vI (hdw T)), h4) := by
    rw [E_M_fault, if_neg (by decide), if_pos rfl, r4, Z_bI]
  exact okw2 I a b ((Fb.tr ⟨fun b k q _ => x3'.1 b k q fun w => w, x3'.2⟩ (x4.fb fun b k _ w => whd_scr nb.2 w))) (by rw [x4.cnt]; omega) (by rw [x4.sl]; omega) x3'.2.2.2
theorem ok_fault {k : Int} : okc kX_fault kM_fault [vI k] := fun h ⟨T, n, nc, Ds, nh, Xs, I⟩ => by
  show dne kX_fault kM_fault [vI k] h
  by_cases k0 : k = 0
  · rw [k0]; exact ok_fault0 I
  by_cases k1 : k = 1
  · rw [k1]; exact ok_fault1 I
  by_cases k2 : k = 2
  · rw [k2]; exact ok_fault2 I
  obtain ⟨h2, r2, x2, c2, s2, H, S⟩ := C_rdNew I
  exact okw2 I (v := -2) (h1 := h2) (h2 := h2) (by rw [E_X_fault, Z_hl, r2, Z_bV, E_X_fault_1, if_neg k0, if_neg k1, if_neg k2, E_X_fault_8]) (by rw [E_M_fault, if_neg k0, if_neg k1, if_neg k2]) (x2.fb (Int.le_refl _) fun _ _ _ w => w.elim) (by omega) (by omega) x2.2.2.2.2.2
def Wt0 (nc nh : Int) : Int → Int → Prop := fun b k => Scr nc nh b k ∨ (b = 1 ∧ (k = 1 ∨ k = 3)) ∨ (b = 9 ∧ (k = 2 ∨ k = 14)) ∨ (b = 3 ∧ k = nc)
theorem ok_text0 {h : mH} {T : Int → Int} {n nc : Int} {Ds : Int → Int → Int → Int → Int} {nh : Int} {Xs : Int → HX} (I : INV h T n nc Ds nh Xs) : dne kX_text kM_text [vI 0] h := by
  have L := I.1
  have c := L.2.2
  have nb := I.nc
  have e13 := I.2.2.1.2.1
  have e914 := I.2.2.1.1
  have tp : h.top = h.cnt + 1 := rfl
  have tn : h.top ≠ 0 := by omega
  by_cases n6 : nc < 6
  · obtain ⟨h2, r2, x2, c2, s2, H, S⟩ := C_rdNew I
    obtain ⟨h3, a3, r3, x3, ea, c3, s3, f3, g3⟩ := D_readCal I.2.1.1 (r := h.top) (by omega) (by omega) H S
    have x3' : Fb h.cnt (fun _ _ => False) h h3 := by
      have y := (x2.fb (W := fun b _ => (h.cnt : Int) < b) (Int.le_refl _) fun _ _ _ w => w.elim).tr ⟨fun b k q w => x3.1 b k (by omega) fun v => w (show (h.cnt : Int) < b by have := v.1; omega), fun b q => x3.2.1 b (by omega), x3.2.2.1, x3.2.2.2⟩
      exact ⟨fun b k q _ => y.1 b k q (show ¬ (h.cnt : Int) < b by omega), y.2⟩
    have M3 : mtp h3 T n := I.mtp.fb x3' fun _ _ w => w.elim
    by_cases q : pCw T = -1
    · obtain ⟨g1, g2, g4, g5, g6, g7, g8, g9⟩ := g3.2 q
      obtain ⟨h4, c1, r4, x4, c4, s4, ec1, A4⟩ := D_alLay g2 g5 g6 (c0 := (h2.cnt : Int)) (a := a3) (by omega) g1 (by rw [g4, g9]) g3.1
      have x4' : Fb h.cnt (fun _ _ => False) h h4 := x3'.tr ⟨fun b k qq w => x4.1 b k (by omega) w, fun b qq => x4.2.1 b (by omega), x4.2.2.1, x4.2.2.2⟩
      have M4 : mtp h4 T n := I.mtp.fb x4' fun _ _ w => w.elim
      have L4 := M4.1
      have f4 : ∀ b k : Int, b ≤ 56 → h4.M b k = h.M b k := fun b k hb => x4'.1 b k (by omega) fun w => w
      have an : a3 ≠ 0 := by omega
      have e134 : h4.M 1 3 = nc := (f4 1 3 (by decide)).trans e13
      have a : Cl kX_text [vO 10 1, vI 0] h = some (some (vI nc), ((h4.set 3 nc a3).set 1 3 (nc + 1)).set 1 1 0) := by
        rw [E_X_text, if_pos rfl, E_X_takeAlmanac, e13, if_pos n6, Z_hl, r2, Z_bV, r3, Z_bR, gd_t tn, D_isRight, f3, bz_t q, Z_bI, if_neg n10, gd_t an, r4, Z_bV, e134, lx2 L4, ln3 L4, gd_t (by omega), gd_t an, Z_hl, show (h4.set 3 nc a3).M 1 3 = nc from e134, Z_wI (z := nc + 1) (by omega), Z_hl, Z_hl, show (((h4.set 3 nc a3).set 1 3 (nc + 1)).set 1 1 0).M 1 3 = nc + 1 from rfl, Z_wI (by omega), Z_bI, show nc + 1 - 1 = nc by omega]
      have xa : Ew (Wt0 nc nh) h4 (((h4.set 3 nc a3).set 1 3 (nc + 1)).set 1 1 0) := ((Ew.st (W := Wt0 nc nh) h4 _ (Or.inr (Or.inr (Or.inr ⟨rfl, rfl⟩)))).tr (Ew.st _ _ (Or.inr (Or.inl ⟨rfl, by decide⟩)))).tr (Ew.st _ _ (Or.inr (Or.inl ⟨rfl, by decide⟩)))
      have v3 : (((h4.set 3 nc a3).set 1 3 (nc + 1)).set 1 1 0).M 3 nc = a3 := (Z_Mn (by omega)).trans ((Z_Mn (by omega)).trans (Z_Mt ..))
      have v13 : (((h4.set 3 nc a3).set 1 3 (nc + 1)).set 1 1 0).M 1 3 = nc + 1 := rfl
      have v11 : (((h4.set 3 nc a3).set 1 3 (nc + 1)).set 1 1 0).M 1 1 = 0 := rfl
      have v914 : (((h4.set 3 nc a3).set 1 3 (nc + 1)).set 1 1 0).M 9 14 = nc := (f4 9 14 (by decide)).trans e914
      have M5 : mtp (((h4.set 3 nc a3).set 1 3 (nc + 1)).set 1 1 0) T n := ⟨((L4.st a3 (layA_n (b := 3) nc (by decide) (by decide))).st (nc + 1) rfl).st 0 rfl, M4.2.1, M4.2.2⟩
      generalize ((h4.set 3 nc a3).set 1 3 (nc + 1)).set 1 1 0 = H5 at a xa v3 v13 v11 v914 M5
      obtain ⟨h6, r6, x6, g6'⟩ := R_readCal I.2.1.1 (c := nc) nb.1 (by omega) M5
      obtain ⟨m1, m2, m3, m4, m5⟩ := g6' q
      have e6 : ∀ b k, ¬ WCal nc b k → h6.M b k = H5.M b k := x6.2
      have w914 : h6.M 9 14 = nc := (e6 9 14 (by unfold WCal; omega)).trans v914
      have b : Cl kM_text [vO 11 9, vI 0] H5 = some (some (vI nc), (h6.set 9 2 0).set 9 14 (nc + 1)) := by
        rw [E_M_text, if_pos rfl, v914, if_neg (by omega), r6, Z_bI, if_pos q, Z_hl, show (h6.set 9 2 0).M 9 14 = nc from w914, Z_wI (z := nc + 1) (by omega), Z_hl, show ((h6.set 9 2 0).set 9 14 (nc + 1)).M 9 14 = nc + 1 from rfl, Z_wI (by omega), show nc + 1 - 1 = nc by omega]
      have xb : Ew (Wt0 nc nh) H5 ((h6.set 9 2 0).set 9 14 (nc + 1)) := ((Ew.mono (W := Wt0 nc nh) x6 fun b k w => Or.inl (wcal_scr (Int.le_refl nc) w)).tr (Ew.st _ _ (Or.inr (Or.inr (Or.inl ⟨rfl, by decide⟩))))).tr (Ew.st _ _ (Or.inr (Or.inr (Or.inl ⟨rfl, by decide⟩))))
      have w92 : ((h6.set 9 2 0).set 9 14 (nc + 1)).M 9 2 = 0 := rfl
      have w14 : ((h6.set 9 2 0).set 9 14 (nc + 1)).M 9 14 = nc + 1 := rfl
      have w6 : ∀ b k, b ≠ 9 → ((h6.set 9 2 0).set 9 14 (nc + 1)).M b k = h6.M b k := fun b k hb => (Z_Mn (by omega)).trans (Z_Mn (by omega))
      have MK : mok ((h6.set 9 2 0).set 9 14 (nc + 1)) nc (DC ((pCa T).1 + 1).toNat (pCa T).2.1) := mok.cg (h := h6) ⟨_, _, m4, m5, m2, rfl, m1, m3⟩ fun b k z => w6 b k (by have := mreg_b z; omega)
      generalize (h6.set 9 2 0).set 9 14 (nc + 1) = H7 at b xb w92 w14 w6 MK
      have wlow : ∀ b k, Wt0 nc nh b k → b ≤ 56 ∧ ¬ (b = 1 ∧ (k = 18 ∨ k = 19 ∨ k = 5)) ∧ b ≠ 4 := fun b k w => by
        rcases w with w | w
        · have := scr_b w; omega
        · omega
      have xall : Fb h.cnt (Wt0 nc nh) h H7 := (Fb.tr ⟨fun b k qq _ => x4'.1 b k qq fun w => w, x4'.2⟩ ((xa.tr xb).fb fun b k _ w => w))
      have K := xall.kz L wlow
      have e : ∀ b k, b ≤ 56 → ¬ Wt0 nc nh b k → H7.M b k = h.M b k := fun b k hb w => xall.1 b k (by omega) w
      have wq : ∀ b k, Wt0 nc nh b k → Qok nc b k := fun b k w => by
        rcases w with w | w
        · exact scr_q w
        · unfold Qok; omega
      have u11 : H7.M 1 1 = 0 := (w6 1 1 (by decide)).trans ((e6 1 1 (by unfold WCal; omega)).trans v11)
      have u13 : H7.M 1 3 = nc + 1 := (w6 1 3 (by decide)).trans ((e6 1 3 (by unfold WCal; omega)).trans v13)
      have u3 : H7.M 3 nc = a3 := (w6 3 nc (by decide)).trans ((e6 3 nc (by unfold WCal; omega)).trans v3)
      have cH : H7.cnt = h4.cnt := by rw [xb.cnt, xa.cnt]
      have eh : ∀ b k : Int, 56 < b → b ≤ h4.cnt → H7.M b k = h4.M b k := fun b k b0 b1 => ((xa.tr xb).2 b k fun w => by have := (wlow b k w).1; omega)
      have e18 := e 1 18 (by decide) (fun w => (wlow _ _ w).2.1 ⟨rfl, by decide⟩)
      have e19 := e 1 19 (by decide) (fun w => (wlow _ _ w).2.1 ⟨rfl, by decide⟩)
      have e15 := e 1 5 (by decide) (fun w => (wlow _ _ w).2.1 ⟨rfl, by decide⟩)
      obtain ⟨ia, ip, ie, ik, ib, iw⟩ := I.pt K fun b k hb w => e b k hb fun z => w (wq b k z)
      obtain ⟨_, it, ic, ih, _, _, _, _, _, _, ig⟩ := I
      have L7 : lay H7 := by
        refine (M5.1.ew xb fun b k w => ?_)
        rcases w with w | w | w | w
        · exact scr_lay w
        · obtain ⟨rfl, rfl | rfl⟩ := w <;> rfl
        · obtain ⟨rfl, rfl | rfl⟩ := w <;> rfl
        · exact layA_n k (by omega) (by omega)
      let Ds' : Int → Int → Int → Int → Int := fun i => if i = nc then DC ((pCa T).1 + 1).toNat (pCa T).2.1 else Ds i
      have E : ∀ i, 0 ≤ i → i < nc → Ds' i = Ds i := fun i _ i1 => if_neg (by omega)
      have En : Ds' nc = DC ((pCa T).1 + 1).toNat (pCa T).2.1 := if_pos rfl
      have CK : cck H7 a3 (DC ((pCa T).1 + 1).toNat (pCa T).2.1) := ⟨h2.cnt, c1, A4.cg (fun b k b0 b1 => eh b k (by omega) (by omega)) (fun b b0 b1 => by rw [xb.N, xa.N]), by omega, fun b k b0 b1 => Fz_new8 ig ih c e18 e19 e15 (fun i _ _ => e 4 i (by decide) fun w => (wlow _ _ w).2.2 rfl) (by omega) (by omega)⟩
      refine ⟨nc, H5, H7, a, b, ⟨fun _ => -1, 0, nc + 1, Ds', nh, Xs, L7, ⟨⟨Int.le_refl _, by decide, fun _ _ => rfl, fun i i0 i1 => by omega⟩, w92, u11, fun i i0 i1 => by omega⟩, ⟨w14, u13, by omega, by omega, fun i i0 i1 => ?_⟩, ?_, iA_up E ia, iP_up E ip, ie, ik, iB_up E ib, iw, ?_⟩, ⟨?_, ?_, ?_⟩, xa.X.trans x4'.2.2.2⟩
      · by_cases z : i = nc
        · rw [z, En, u3]
          exact ⟨MK, CK⟩
        · have o := ic.2.2.2.2 i i0 (by omega)
          rw [E i i0 (by omega), e 3 i (by decide) (by
            intro w
            rcases w with w | w
            · have := scr_b w; omega
            · omega)]
          refine ⟨o.1.cg fun b k zz => e b k (by have := mreg_b zz; omega) fun w => ?_, o.2.cg K⟩
          rcases w with w | w
          · exact scr_c zz (by omega) w
          · have := mreg_b zz; omega
      · refine ih.cg K (fun b k z => e b k ?_ ?_) fun i i0 i1 => ?_
        · rcases z with z | z | z | ⟨_, _, _, z⟩
          · omega
          · omega
          · omega
          · have := mhr_b z; omega
        · intro w
          rcases w with w | w
          · rcases z with z | z | z | ⟨_, _, z1, z⟩
            · have := scr_b w; omega
            · have := scr_b w; omega
            · have := scr_b w; omega
            · exact scr_h z z1 w
          · rcases z with z | z | z | ⟨_, _, _, z⟩
            · omega
            · omega
            · omega
            · have := mhr_b z; omega
        · have HH := ih.2.2.2.2.1 i i0 i1
          have hF := HH.2.2.2.2.1 (h.M 4 i) 0 (Or.inl ⟨by omega, by omega⟩) (by omega)
          have hF1 := hF.1
          exact xall.1 _ _ hF.2.1 fun w => by have := (wlow _ _ w).1; omega
      · obtain ⟨g1, g2, g3, g4⟩ := ig
        have hi : ∀ b k : Int, 56 < b → b ≤ h.cnt → H7.M b k = h.M b k := fun b k b0 b1 => xall.1 b k b1 fun w => by have := (wlow _ _ w).1; omega
        have hcc := xall.2.2.1
        unfold iG
        rw [e18, e19, e15]
        refine ⟨?_, ?_, g3, fun u u0 u1 => (e 36 u (by omega) fun w => ?_).trans (g4 u u0 u1)⟩
        · rcases g1 with g1 | ⟨g1, g5⟩
          · exact Or.inl g1
          · exact Or.inr ⟨g1.cg (fun b k b0 b1 => hi b k (by have := g1.1; omega) (by omega)) (fun b b0 b1 => xall.2.1 b (by omega)), by omega⟩
        · rcases g2 with g2 | ⟨g2, g5, g6⟩
          · exact Or.inl g2
          · exact Or.inr ⟨g2.cg (fun k => hi _ k g2.2.2.1 (by omega)) (fun b b0 b1 => xall.2.1 b (by omega)), by omega, g6⟩
        · rcases w with w | w
          · have := scr_b w
            rcases w with w | w | w | w | w | w | ⟨_, _, w⟩ | ⟨_, _, w⟩
            · omega
            · omega
            · omega
            · omega
            · omega
            · omega
            · have := mreg_b w; omega
            · have := mhr_b w; omega
          · omega
      · omega
      · unfold pot
        rw [u13, e15, e18, e19, xb.sl, xa.sl, e13]
        omega
      · exact xall.2.2.2
    · have a : Cl kX_text [vO 10 1, vI 0] h = some (some (vI (-1)), h3) := by
        rw [E_X_text, if_pos rfl, E_X_takeAlmanac, e13, if_pos n6, Z_hl, r2, Z_bV, r3, Z_bR, gd_t tn, D_isRight, f3, bz_f q, Z_bI, if_pos rfl, Z_bI]
      obtain ⟨h4, r4, x4, _⟩ := R_readCal I.2.1.1 (c := nc) nb.1 (by omega) M3
      have b : Cl kM_text [vO 11 9, vI 0] h3 = some (some (vI (-1)), h4) := by
        rw [E_M_text, if_pos rfl, show h3.M 9 14 = nc from (x3'.1 9 14 (by omega) fun w => w).trans e914, if_neg (by omega), r4, Z_bI, if_neg q]
      exact okw2 I a b ((Fb.tr ⟨fun b k q _ => x3'.1 b k q fun w => w, x3'.2⟩ (x4.fb fun b k _ w => wcal_scr (Int.le_refl nc) w))) (by rw [x4.cnt]; omega) (by rw [x4.sl]; omega) x3'.2.2.2
  · exact okw2 I (v := -1) (h1 := h) (h2 := h) (by rw [E_X_text, if_pos rfl, E_X_takeAlmanac, e13, if_neg n6, Z_bI]) (by rw [E_M_text, if_pos rfl, e914, if_pos (by omega)]) (Fb.rf _ _ _) (by omega) (by omega) rfl
