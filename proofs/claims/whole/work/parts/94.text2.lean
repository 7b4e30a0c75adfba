/-! THE PURE PART, calls: a row of things, its fault -/
def dne (kx km : Nat) (as : List mV) (h : mH) : Prop := ∃ v h1 h2, Cl kx (vO 10 1 :: as) h = some (some (vI v), h1) ∧ Cl km (vO 11 9 :: as) h1 = some (some (vI v), h2) ∧ IV h2 ∧ stp h h2 ∧ h1.X = h.X
theorem okw1 {kx km : Nat} {as : List mV} {h : mH} {T : Int → Int} {n nc : Int} {Ds : Int → Int → Int → Int → Int} {nh : Int} {Xs : Int → HX} (I : INV h T n nc Ds nh Xs) {v : Int} {h1 h2 : mH} {W : Int → Int → Prop} (e1 : Cl kx (vO 10 1 :: as) h = some (some (vI v), h1)) (e2 : Cl km (vO 11 9 :: as) h1 = some (some (vI v), h2)) (x : Fr W 50 900 h h2) (hw : ∀ b k, W b k → Wok b k) (J : IV h2) (xX : h1.X = h.X) : dne kx km as h := by
  have c := I.1.2.2
  have e : ∀ k, k = 3 ∨ k = 5 ∨ k = 18 ∨ k = 19 → h2.M 1 k = h.M 1 k := fun k hk => x.1 1 k (by omega) fun w => by
    have := hw _ _ w
    unfold Wok at this
    omega
  refine ⟨v, h1, h2, e1, e2, J, ⟨by have := x.2.2.2.1; omega, ?_, x.2.2.2.2.2⟩, xX⟩
  rw [pot_eq (e 3 (by omega)) (e 5 (by omega)) (e 18 (by omega)) (e 19 (by omega))]
  have := x.2.2.2.2.1
  omega
/-- nothing that stands is written, new things aside -/
theorem okw2 {kx km : Nat} {as : List mV} {h : mH} {T : Int → Int} {n nc : Int} {Ds : Int → Int → Int → Int → Int} {nh : Int} {Xs : Int → HX} (I : INV h T n nc Ds nh Xs) {v : Int} {h1 h2 : mH} (e1 : Cl kx (vO 10 1 :: as) h = some (some (vI v), h1)) (e2 : Cl km (vO 11 9 :: as) h1 = some (some (vI v), h2)) (x : Fb h.cnt (Scr nc nh) h h2) (xc : h2.cnt ≤ h.cnt + 100) (xs : h2.sl ≤ h.sl + 1000) (xX : h1.X = h.X) : dne kx km as h := by
  have c := I.1.2.2
  have e : ∀ k, k = 3 ∨ k = 5 ∨ k = 18 ∨ k = 19 → h2.M 1 k = h.M 1 k := fun k hk => x.1 1 k (by omega) fun w => by have := scr_b w; omega
  refine ⟨v, h1, h2, e1, e2, ⟨T, n, nc, Ds, nh, Xs, I.kp x⟩, ⟨xc, ?_, x.2.2.2⟩, xX⟩
  rw [pot_eq (e 3 (by omega)) (e 5 (by omega)) (e 18 (by omega)) (e 19 (by omega))]
  omega
theorem INV.mtp {h : mH} {T : Int → Int} {n nc : Int} {Ds : Int → Int → Int → Int → Int} {nh : Int} {Xs : Int → HX} (I : INV h T n nc Ds nh Xs) : mtp h T n := ⟨I.1, I.2.1.2.1, fun i i0 i1 => (I.2.1.2.2.2 i i0 i1).1⟩
theorem mtp.fb {h h1 : mH} {T : Int → Int} {n : Int} (H : mtp h T n) {W : Int → Int → Prop} (x : Fb h.cnt W h h1) (hw : ∀ b k, W b k → b > 56) : mtp h1 T n := by
  obtain ⟨L, a, b⟩ := H
  have c := L.2.2
  have e : ∀ b k, b ≤ 56 → h1.M b k = h.M b k := fun b k hb => x.1 b k (by omega) fun w => by have := hw b k w; omega
  exact ⟨⟨fun b k q => (e b k (by have := layA_le q; omega)).trans (L.1 b k q), fun b q => (x.2.1 b (by have := layN_le q; omega)).trans (L.2.1 b q), by have := x.2.2.1; omega⟩, (e 9 2 (by decide)).trans a, fun i i0 i1 => (e 10 i (by decide)).trans (b i i0 i1)⟩
/-- a reader is made -/
theorem C_rdNew {h : mH} {T : Int → Int} {n nc : Int} {Ds : Int → Int → Int → Int → Int} {nh : Int} {Xs : Int → HX} (I : INV h T n nc Ds nh Xs) : ∃ h2, Cl kRd_init [vO 5 h.top, vR 100 ((h.new 5 6).M 1 0), vI ((h.new 5 6).M 1 1)] (h.new 5 6) = some (none, h2) ∧ Fr (fun _ _ => False) 1 6 h h2 ∧ h2.cnt = h.cnt + 1 ∧ h2.sl = h.sl + 6 ∧ rtp h2 h.top T n ∧ rst5 h2 h.top T (0, -1) := by
  have L := I.1
  have c := L.2.2
  have tp : h.top = h.cnt + 1 := rfl
  have m : ∀ b k : Int, b ≤ h.cnt → (h.new 5 6).M b k = h.M b k := fun b k hb => by rw [Z_Mw, if_neg (by omega)]
  have e0 : (h.new 5 6).M 1 0 = 2 := (m 1 0 (by omega)).trans (lx0 L)
  have e1 : (h.new 5 6).M 1 1 = n := (m 1 1 (by omega)).trans I.2.1.2.2.1
  obtain ⟨h2, r, x, R, S⟩ := D_rdInit I.2.1.1 (r := h.top) (h := h.new 5 6) (by omega) (by rw [Z_Nw, if_neg (by omega)]; exact ln2 L) (fun i i0 i1 => (m 2 i (by omega)).trans (I.2.1.2.2.2 i i0 i1).2)
  refine ⟨h2, by rw [e0, e1]; exact r, Fr.nwo x, by rw [x.cnt]; rfl, by rw [x.sl, Z_sw]; rfl, R, S⟩
/-- the class reads a row -/
theorem C_row {h : mH} {T : Int → Int} {n nc : Int} {Ds : Int → Int → Int → Int → Int} {nh : Int} {Xs : Int → HX} (I : INV h T n nc Ds nh Xs) {h2 : mH} {r : Int} (rr : r = h.top) (x2 : Fr (fun _ _ => False) 1 6 h h2) (c2 : h2.cnt = h.cnt + 1) (H : rtp h2 r T n) (S : rst5 h2 r T (0, -1)) : ∃ K h', Cl kX_readThings [vR 5 r, vR 100 h2.top] (h2.new 100 80) = some (some (vI K), h') ∧ Fr (fun _ _ => False) 2 86 h h' ∧ h'.cnt = h.cnt + 2 ∧ h'.N h2.top = 80 ∧ h'.M r 5 = (fnS T (rws T 81 (0, -1) 0 (fun _ => (0, 0, 0))).2.2).2 ∧ ((fnS T (rws T 81 (0, -1) 0 (fun _ => (0, 0, 0))).2.2).2 = -1 → K = (rws T 81 (0, -1) 0 (fun _ => (0, 0, 0))).1 ∧ 0 ≤ K ∧ K ≤ 80 ∧ tgs h' h2.top K (rws T 81 (0, -1) 0 (fun _ => (0, 0, 0))).2.1) := by
  have c := I.1.2.2
  have tp : h.top = h.cnt + 1 := rfl
  have tp2 : h2.top = h2.cnt + 1 := rfl
  have hT := I.2.1.1
  have mm : ∀ b k : Int, b ≤ h2.cnt → (h2.new 100 80).M b k = h2.M b k := fun b k hb => by rw [Z_Mw, if_neg (by omega)]
  have H3 : rtp (h2.new 100 80) r T n := ⟨(mm r 0 (by omega)).trans H.1, (mm r 1 (by omega)).trans H.2.1, by rw [Z_Nw, if_neg (by omega)]; exact H.2.2.1, fun i i0 i1 => (mm 2 i (by omega)).trans (H.2.2.2.1 i i0 i1), H.2.2.2.2⟩
  have S3 : rst5 (h2.new 100 80) r T (0, -1) := ⟨(mm r 5 (by omega)).trans S.1, fun z => ⟨(mm r 2 (by omega)).trans (S.2.1 z).1, (mm r 3 (by omega)).trans (S.2.1 z).2⟩, fun z => (mm r 3 (by omega)).trans (S.2.2 z)⟩
  obtain ⟨K, h', e, x, f, g⟩ := D_rows hT (r := r) (A := h2.top) (by omega) (by omega) (by omega) 81 0 0 (fun _ => (0, 0, 0)) _ H3 S3 (by rw [Z_Nw, if_pos rfl]) (by decide) (by decide) (by decide) hT.1 (fun i i0 i1 => by omega)
  have fr : Fr (fun _ _ => False) 2 86 h h' := by
    have y : Fr (fun b _ => h.cnt < b) 2 86 h h' := ((x2.mono (fun _ _ w => w.elim) (Nat.le_refl _) (Nat.le_refl _)).tr ((Fr.nw (fun b _ => h.cnt < b) h2 100 80).tr (x.mono (fun b j w => show (h.cnt : Int) < b by
      rcases w with w | w
      · have := w.1; omega
      · omega)).fr)).mono (fun _ _ w => w) (by decide) (by decide)
    exact ⟨fun b k q _ => y.1 b k q (show ¬ (h.cnt : Int) < b by omega), y.2⟩
  refine ⟨K, h', by rw [E_X_readThings]; exact e, fr, by rw [x.cnt, Z_cw, c2], by rw [x.N, Z_Nw, if_pos rfl], f, g⟩
theorem R_readRow {T : Int → Int} {n : Int} (hT : tpo T n) {h : mH} (H : mtp h T n) {c : Int} (c01 : c = 0 ∨ c = 1) : ∃ h1 w, Cl kM_readRow [vO 11 9, vI c] h = some (some (vI (fnS T (rws T 81 (0, -1) 0 (fun _ => (0, 0, 0))).2.2).2), pss h1 w) ∧ Ew (Wrw c) h h1 ∧ (c = 1 → h1.M 9 69 = (rws T 81 (0, -1) 0 (fun _ => (0, 0, 0))).1 ∧ rwV h1 (rws T 81 (0, -1) 0 (fun _ => (0, 0, 0))).1 (rws T 81 (0, -1) 0 (fun _ => (0, 0, 0))).2.1) := by
  rw [E_M_readRow, Z_hl, Z_hl]
  exact R_rows hT c01 81 0 0 (fun _ => (0, 0, 0)) h H (by decide) (by decide) (by decide) hT.1 (fun _ i i0 i1 => by omega)
theorem pss_ew (h : mH) (w : Int × Int) : Ew (fun b k => b = 9 ∧ (k = 3 ∨ k = 4)) h (pss h w) := (Ew.st (W := fun b k => b = 9 ∧ (k = 3 ∨ k = 4)) h w.1 ⟨rfl, Or.inl rfl⟩).tr (Ew.st _ w.2 ⟨rfl, Or.inr rfl⟩)
theorem ok_fault2 {h : mH} {T : Int → Int} {n nc : Int} {Ds : Int → Int → Int → Int → Int} {nh : Int} {Xs : Int → HX} (I : INV h T n nc Ds nh Xs) : dne kX_fault kM_fault [vI 2] h := by
  have c := I.1.2.2
  have tp : h.top = h.cnt + 1 := rfl
  obtain ⟨h2, r2, x2, c2, s2, H, S⟩ := C_rdNew I
  obtain ⟨K, h3, r3, x3, c3, n3, f3, g3⟩ := C_row I rfl x2 c2 H S
  have M3 : mtp h3 T n := I.mtp.fb (x3.fb (Int.le_refl _) fun b k _ w => w) fun _ _ w => w.elim
  obtain ⟨h4, w, r4, x4, _⟩ := R_readRow I.2.1.1 M3 (c := 0) (Or.inl rfl)
  have tn : h.top ≠ 0 := by omega
  have a : Cl kX_fault [vO 10 1, vI 2] h = some (some (vI (fnS T (rws T 81 (0, -1) 0 (fun _ => (0, 0, 0))).2.2).2), h3) := by
    rw [E_X_fault, Z_hl, r2, Z_bV, E_X_fault_1, if_neg (by decide), if_neg (by decide), if_pos rfl, E_X_fault_6, gd_t (by decide), Z_hl, r3, Z_bI, E_X_fault_7, gd_t tn, f3]
  have b : Cl kM_fault [vO 11 9, vI 2] h3 = some (some (vI (fnS T (rws T 81 (0, -1) 0 (fun _ => (0, 0, 0))).2.2).2), pss h4 w) := by
    rw [E_M_fault, if_neg (by decide), if_neg (by decide), if_pos rfl, r4, Z_bI]
  have xx : Fr (Scr nc nh) 2 86 h (pss h4 w) := (x3.mono (fun _ _ w => w.elim) (Nat.le_refl _) (Nat.le_refl _)).tr ((x4.mono fun b k w => by unfold Wrw at w; omega).tr ((pss_ew h4 w).mono fun b k w => Or.inl (by omega))).fr
  exact okw2 I a b (xx.fb (Int.le_refl _) fun b k _ w => w) (by have := xx.2.2.2.1; omega) (by have := xx.2.2.2.2.1; omega) x3.2.2.2.2.2
/-- a cell just made, of any place, that is no head -/
theorem Fz_new8 {h h2 : mH} {nh : Int} {Xs : Int → HX} (g : iG h) (ih : iH h nh Xs) (c56 : 56 ≤ h.cnt) (e18 : h2.M 1 18 = h.M 1 18) (e19 : h2.M 1 19 = h.M 1 19) (e5 : h2.M 1 5 = h.M 1 5) (e4 : ∀ i, 0 ≤ i → i < nh → h2.M 4 i = h.M 4 i) {b k : Int} (b0 : h.cnt < b) (b1 : b ≤ h2.cnt) : Fz h2 b k := by
  by_cases k8 : k = 8
  · have := Fz_new (h2 := h2) (b := b) (k := 0) g c56 e18 e19 b0 b1 (by decide)
    refine ⟨this.1, this.2.1, this.2.2.1, this.2.2.2.1, fun ⟨_, i, i0, i1, i2⟩ => ?_⟩
    rw [e5, ih.2.1] at i1
    rw [e4 i i0 i1] at i2
    have := (ih.2.2.2.2.1 i i0 i1).2.2.2.2.1 (h.M 4 i) 0 (Or.inl ⟨by omega, by omega⟩) (by omega)
    have := this.2.1
    omega
  · exact Fz_new g c56 e18 e19 b0 b1 k8
def Wt2 (b k : Int) : Prop := (b = 1 ∧ (k = 1 ∨ k = 15 ∨ k = 16)) ∨ (b = 9 ∧ (k = 2 ∨ k = 3 ∨ k = 4 ∨ k = 69)) ∨ b = 53 ∨ b = 54 ∨ b = 55
theorem ok_text2 {h : mH} {T : Int → Int} {n nc : Int} {Ds : Int → Int → Int → Int → Int} {nh : Int} {Xs : Int → HX} (I : INV h T n nc Ds nh Xs) : dne kX_text kM_text [vI 2] h := by
  have c := I.1.2.2
  have tp : h.top = h.cnt + 1 := rfl
  obtain ⟨h2, r2, x2, c2, s2, H, S⟩ := C_rdNew I
  have tp2 : h2.top = h2.cnt + 1 := rfl
  obtain ⟨K, h3, r3, x3, c3, n3, f3, g3⟩ := C_row I rfl x2 c2 H S
  have tn : h.top ≠ 0 := by omega
  generalize eR : rws T 81 (0, -1) 0 (fun _ => (0, 0, 0)) = R at f3 g3
  by_cases q : (fnS T R.2.2).2 = -1
  · obtain ⟨g1, g2, g4, g5⟩ := g3 q
    let A := h2.top
    have a : Cl kX_text [vO 10 1, vI 2] h = some (some (vI K), ((h3.set 1 15 h2.top).set 1 16 K).set 1 1 0) := by
      rw [E_X_text, if_neg (by decide), if_neg (by decide), if_pos rfl, E_X_takeThings, Z_hl, r2, Z_bV, E_X_takeThings_1, gd_t (by decide), Z_hl, r3, Z_bI, E_X_takeThings_2, gd_t tn, D_isRight, f3, bz_t q, Z_bI, E_X_takeThings_3, if_neg n10, E_X_takeThings_5, Z_hl, E_X_takeThings_6, Z_hl, E_X_takeThings_7, Z_hl, E_X_takeThings_8, Z_bI]
      rfl
    have xa : Ew Wt2 h3 (((h3.set 1 15 h2.top).set 1 16 K).set 1 1 0) := ((Ew.st (W := Wt2) h3 _ (Or.inl ⟨rfl, by decide⟩)).tr (Ew.st _ _ (Or.inl ⟨rfl, by decide⟩))).tr (Ew.st _ _ (Or.inl ⟨rfl, by decide⟩))
    have v15 : (((h3.set 1 15 h2.top).set 1 16 K).set 1 1 0).M 1 15 = h2.top := rfl
    have v16 : (((h3.set 1 15 h2.top).set 1 16 K).set 1 1 0).M 1 16 = K := rfl
    have v1 : (((h3.set 1 15 h2.top).set 1 16 K).set 1 1 0).M 1 1 = 0 := rfl
    have vA : ∀ i, (((h3.set 1 15 h2.top).set 1 16 K).set 1 1 0).M h2.top i = h3.M h2.top i := fun i => (Z_Mn (by omega)).trans ((Z_Mn (by omega)).trans (Z_Mn (by omega)))
    have v92 : (((h3.set 1 15 h2.top).set 1 16 K).set 1 1 0).M 9 2 = h3.M 9 2 := rfl
    have v10 : ∀ i, (((h3.set 1 15 h2.top).set 1 16 K).set 1 1 0).M 10 i = h3.M 10 i := fun i => rfl
    generalize ((h3.set 1 15 h2.top).set 1 16 K).set 1 1 0 = H4 at a xa v15 v16 v1 vA v92 v10
    have M3 : mtp h3 T n := I.mtp.fb (x3.fb (Int.le_refl _) fun b k _ w => w) fun _ _ w => w.elim
    have hw : ∀ b k, Wt2 b k → Wok b k := fun b k w => by unfold Wt2 at w; unfold Wok; omega
    have M4 : mtp H4 T n := ⟨M3.1.ew xa fun b k w => wok_lay (hw b k w), v92.trans M3.2.1, fun i i0 i1 => (v10 i).trans (M3.2.2 i i0 i1)⟩
    obtain ⟨h5, w5, r5, x5, _⟩ := R_readRow I.2.1.1 M4 (c := 0) (Or.inl rfl)
    have M5 : mtp (pss h5 w5) T n := by
      have M : mtp h5 T n := ⟨M4.1.ew x5 fun b k w => by unfold Wrw at w; omega, (x5.2 9 2 (by unfold Wrw; omega)).trans M4.2.1, fun i i0 i1 => (x5.2 10 i (by unfold Wrw; omega)).trans (M4.2.2 i i0 i1)⟩
      exact pst_tp M w5.1 w5.2
    obtain ⟨h6, w6, r6, x6, g6⟩ := R_readRow I.2.1.1 M5 (c := 1) (Or.inr rfl)
    rw [eR] at r5 r6 g6
    obtain ⟨g7, g8⟩ := g6 rfl
    have b : Cl kM_text [vO 11 9, vI 2] H4 = some (some (vI K), (pss h6 w6).set 9 2 0) := by
      rw [E_M_text, if_neg (by decide), if_pos rfl, E_M_takeRow, r5, Z_bI, if_pos q, r6, Z_bI, Z_hl, Z_bI]
      show some (some (vI (h6.M 9 69)), _) = _
      rw [g7, g1]
    have xb : Ew Wt2 H4 ((pss h6 w6).set 9 2 0) := ((((x5.mono fun b k w => by unfold Wrw at w; omega).tr ((pss_ew h5 w5).mono fun b k w => by unfold Wt2; omega)).tr (x6.mono fun b k w => by unfold Wrw at w; unfold Wt2; omega)).tr ((pss_ew h6 w6).mono fun b k w => by unfold Wt2; omega)).tr (Ew.st _ _ (Or.inr (Or.inl ⟨rfl, by decide⟩)))
    have u1 : ∀ b k, b ≠ 9 → ((pss h6 w6).set 9 2 0).M b k = h6.M b k := fun b k hb => (Z_Mn (by omega)).trans (pss_n h6 w6 (Or.inl hb))
    have u69 : ((pss h6 w6).set 9 2 0).M 9 69 = K := by
      rw [g1, ← g7]
      rfl
    have u92 : ((pss h6 w6).set 9 2 0).M 9 2 = 0 := rfl
    have u6 : ∀ b k, ¬ (b = 9) → b ≠ 53 → b ≠ 54 → b ≠ 55 → ((pss h6 w6).set 9 2 0).M b k = H4.M b k := fun b k n1 n2 n3 n4 => (u1 b k n1).trans ((x6.2 b k (by unfold Wrw; omega)).trans ((pss_n h5 w5 (Or.inl n1)).trans (x5.2 b k (by unfold Wrw; omega))))
    have u5 : rwV ((pss h6 w6).set 9 2 0) K R.2.1 := fun i i0 i1 => by
      rw [u1 53 i (by decide), u1 54 i (by decide), u1 55 i (by decide)]
      exact g8 i i0 (by omega)
    generalize (pss h6 w6).set 9 2 0 = H7 at b xb u1 u69 u92 u5 u6
    have x : Fr Wt2 2 86 h H7 := (x3.mono (fun _ _ w => w.elim) (Nat.le_refl _) (Nat.le_refl _)).tr (xa.tr xb).fr
    have cH : H7.cnt = h.cnt + 2 := by rw [xb.cnt, xa.cnt, c3]
    have NA : H7.N h2.top = 80 := by rw [xb.N, xa.N]; exact n3
    obtain ⟨L7, ic, ih', ig, Kz7, e⟩ := I.wr x hw
    have fz : ∀ k, Fz H7 h2.top k := fun k => Fz_new8 I.2.2.2.2.2.2.2.2.2.2 I.2.2.2.1 c (e 1 18 (by decide) (by unfold Wt2; omega)) (e 1 19 (by decide) (by unfold Wt2; omega)) (e 1 5 (by decide) (by unfold Wt2; omega)) (fun i _ _ => e 4 i (by decide) (by unfold Wt2; omega)) (by omega) (by omega)
    have iw7 : iW H7 := by
      unfold iW
      rw [u69, u6 1 16 (by decide) (by decide) (by decide) (by decide), v16, u6 1 15 (by decide) (by decide) (by decide) (by decide), v15]
      refine ⟨rfl, g2, g4, Or.inr ⟨by omega, NA, fun k _ _ => fz k, fun i i0 i1 => ?_⟩⟩
      have t := g5 i i0 i1
      obtain ⟨y1, y2, y3⟩ := u5 i i0 i1
      rw [u6 h2.top i (by omega) (by omega) (by omega) (by omega), vA, y1, y2, y3]
      exact t
    have v1' : H7.M 1 1 = 0 := (u6 1 1 (by decide) (by decide) (by decide) (by decide)).trans v1
    refine okw1 I a b (x.mono (fun _ _ w => w) (by decide) (by decide)) hw ?_ (xa.X.trans x3.2.2.2.2.2)
    obtain ⟨L, it, _, _, ia, ip, ie, ik, ib, iw, _⟩ := I
    refine ⟨fun _ => -1, 0, nc, Ds, nh, Xs, L7, ⟨⟨Int.le_refl _, by decide, fun _ _ => rfl, fun i i0 i1 => by omega⟩, u92, v1', fun i i0 i1 => by omega⟩, ic, ih', ia.cg Kz7 fun b j z => e b j ?_ ?_, ip.cg Kz7 fun b j z => e b j ?_ ?_, ie.cg fun b j z => e b j ?_ ?_, ?_, ib.cg Kz7 fun b j z => e b j ?_ ?_, iw7, ig⟩
    · unfold rA at z; omega
    · unfold rA at z; unfold Wt2; omega
    · unfold rP at z; omega
    · unfold rP at z; unfold Wt2; omega
    · unfold rE at z; omega
    · unfold rE at z; unfold Wt2; omega
    · unfold iK
      rw [e 9 64 (by omega) (by unfold Wt2; omega), e 9 65 (by omega) (by unfold Wt2; omega), e 1 13 (by omega) (by unfold Wt2; omega), e 1 14 (by omega) (by unfold Wt2; omega), e 1 7 (by omega) (by unfold Wt2; omega), e 1 12 (by omega) (by unfold Wt2; omega)]
      exact ik
    · unfold rB at z; omega
    · unfold rB at z; unfold Wt2; omega
  · have a : Cl kX_text [vO 10 1, vI 2] h = some (some (vI (-1)), h3) := by
      rw [E_X_text, if_neg (by decide), if_neg (by decide), if_pos rfl, E_X_takeThings, Z_hl, r2, Z_bV, E_X_takeThings_1, gd_t (by decide), Z_hl, r3, Z_bI, E_X_takeThings_2, gd_t tn, D_isRight, f3, bz_f q, Z_bI, E_X_takeThings_3, if_pos rfl, E_X_takeThings_4, Z_bI]
    have M3 : mtp h3 T n := I.mtp.fb (x3.fb (Int.le_refl _) fun b k _ w => w) fun _ _ w => w.elim
    obtain ⟨h4, w, r4, x4, _⟩ := R_readRow I.2.1.1 M3 (c := 0) (Or.inl rfl)
    rw [eR] at r4
    have b : Cl kM_text [vO 11 9, vI 2] h3 = some (some (vI (-1)), pss h4 w) := by
      rw [E_M_text, if_neg (by decide), if_pos rfl, E_M_takeRow, r4, Z_bI, if_neg q, Z_bI]
    have xx : Fr (Scr nc nh) 2 86 h (pss h4 w) := (x3.mono (fun _ _ w => w.elim) (Nat.le_refl _) (Nat.le_refl _)).tr ((x4.mono fun b k w => by unfold Wrw at w; omega).tr ((pss_ew h4 w).mono fun b k w => Or.inl (by omega))).fr
    exact okw2 I a b (xx.fb (Int.le_refl _) fun b k _ w => w) (by have := xx.2.2.2.1; omega) (by have := xx.2.2.2.2.1; omega) x3.2.2.2.2.2
