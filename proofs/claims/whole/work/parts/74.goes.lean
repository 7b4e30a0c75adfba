/-! THE PURE PART, the way: the reference's rows, its answer; what the class tells -/
theorem INV.mcs {h : mH} {T : Int → Int} {n nc : Int} {Ds : Int → Int → Int → Int → Int} {nh : Int} {Xs : Int → HX} (I : INV h T n nc Ds nh Xs) : mcs h nc Ds := ⟨I.1, I.2.2.1.1, I.2.2.1.2.2.1, I.2.2.1.2.2.2.1, fun c c0 c1 => (I.2.2.1.2.2.2.2 c c0 c1).1⟩
theorem INV.hik {h : mH} {T : Int → Int} {n nc : Int} {Ds : Int → Int → Int → Int → Int} {nh : Int} {Xs : Int → HX} (I : INV h T n nc Ds nh Xs) {c : Int} (c0 : 0 ≤ c) (c1 : c < nh) : hik h c (h.M 4 c) (Xs c) := I.2.2.2.1.2.2.2.2.1 c c0 c1
theorem INV.nh {h : mH} {T : Int → Int} {n nc : Int} {Ds : Int → Int → Int → Int → Int} {nh : Int} {Xs : Int → HX} (I : INV h T n nc Ds nh Xs) : 0 ≤ nh ∧ nh ≤ 8 := ⟨I.2.2.2.1.2.2.1, I.2.2.2.1.2.2.2.1⟩
theorem INV.nc {h : mH} {T : Int → Int} {n nc : Int} {Ds : Int → Int → Int → Int → Int} {nh : Int} {Xs : Int → HX} (I : INV h T n nc Ds nh Xs) : 0 ≤ nc ∧ nc ≤ 6 := ⟨I.2.2.1.2.2.1, I.2.2.1.2.2.2.1⟩
theorem INV.cok {h : mH} {T : Int → Int} {n nc : Int} {Ds : Int → Int → Int → Int → Int} {nh : Int} {Xs : Int → HX} (I : INV h T n nc Ds nh Xs) {c : Int} (c0 : 0 ≤ c) (c1 : c < nc) : cck h (h.M 3 c) (Ds c) := (I.2.2.1.2.2.2.2 c c0 c1).2
theorem INV.dok {h : mH} {T : Int → Int} {n nc : Int} {Ds : Int → Int → Int → Int → Int} {nh : Int} {Xs : Int → HX} (I : INV h T n nc Ds nh Xs) {c : Int} (c0 : 0 ≤ c) (c1 : c < nc) : Dok (Ds c) := (I.2.2.1.2.2.2.2 c c0 c1).1.ok
theorem INV.ew {h h1 : mH} {T : Int → Int} {n nc : Int} {Ds : Int → Int → Int → Int → Int} {nh : Int} {Xs : Int → HX} (I : INV h T n nc Ds nh Xs) {W : Int → Int → Prop} (x : Ew W h h1) (hw : ∀ b k, W b k → Scr nc nh b k) : INV h1 T n nc Ds nh Xs := I.kp (x.fb fun b k _ w => hw b k w)
def Wgo : Int → Int → Prop := fun b k => (b = 9 ∧ (k = 38 ∨ k = 39)) ∨ b = 37 ∨ b = 38
theorem Wgo_scr {nc nh b k : Int} (w : Wgo b k) : Scr nc nh b k := by
  rcases w with ⟨a, w⟩ | w | w
  · exact Or.inl ⟨a, by omega⟩
  · exact Or.inr (Or.inr (Or.inl w))
  · exact Or.inr (Or.inr (Or.inr (Or.inl w)))
theorem Wgo_lay {b k : Int} (w : Wgo b k) : layA b k = 0 := by
  rcases w with ⟨rfl, rfl | rfl⟩ | rfl | rfl
  · rfl
  · rfl
  · exact layA_n _ (by decide) (by decide)
  · exact layA_n _ (by decide) (by decide)
theorem mst.go {h h1 : mH} {a : Int} {H : HD} (S : mst h a H) (x : Ew Wgo h h1) : mst h1 a H := ⟨(x.2 23 a fun y => by unfold Wgo at y; omega).trans S.1, fun i i0 i1 => ⟨(x.2 24 _ fun y => by unfold Wgo at y; omega).trans (S.2 i i0 i1).1, (x.2 25 _ fun y => by unfold Wgo at y; omega).trans (S.2 i i0 i1).2⟩⟩
theorem mpr.go {h h1 : mH} {a : Int} {H : HD} (S : mpr h a H) (x : Ew Wgo h h1) : mpr h1 a H := ⟨(x.2 26 a fun y => by unfold Wgo at y; omega).trans S.1, fun i i0 i1 => ⟨(x.2 27 _ fun y => by unfold Wgo at y; omega).trans (S.2 i i0 i1).1, (x.2 28 _ fun y => by unfold Wgo at y; omega).trans (S.2 i i0 i1).2.1, (x.2 29 _ fun y => by unfold Wgo at y; omega).trans (S.2 i i0 i1).2.2⟩⟩
theorem R_goes4 {c cal mm : Int} (c0 : 0 ≤ c) (c1 : c < 9) {H : HD} (V : hdv H) {src : Int → Prop} {L N E : Int → Int} (R : rsp 10000 (2 * H 3 0) (stO H) (stC H) src L N E) (u3 : mV) : ∀ (s : Nat) (x j : Int) (h : mH), lay h → mst h c H → (∀ u, 1 ≤ u → u ≤ 9999 → h.M 33 (10001 * c + u) = gL (L u)) → h.M 9 38 = j → 0 ≤ j → j + s ≤ 9999 → 1 ≤ x → x ≤ 9999 → L x ≠ 1152921504606846976 → L x % 16384 = s →
    ∃ h', Rn kM_goes 4 [vO 11 9, vI c, vI cal, u3, vI mm, vI x] [] h = Rn kM_goes 4 [vO 11 9, vI c, vI cal, u3, vI mm, vI (-1)] [] h' ∧ Ew Wgo h h' ∧ h'.M 9 38 = j + s + 1 ∧ (∀ i : Nat, i ≤ s → h'.M 37 (j + i) = itn N i x) ∧ ∀ i, i < j → h'.M 37 i = h.M 37 i := by
  intro s
  induction s with
  | zero =>
    intro x j h Lh S F e j0 j1 x0 x1 nf es
    have z := (rsp_z (st_ok V) (by decide) R x0 (by omega) nf).mp es
    have i2 : wI (wI (10001 * c) + x) = 10001 * c + x := by rw [Z_wI (z := 10001 * c) (by omega), Z_wI (by omega)]
    have x1' : Ew Wgo h ((h.set 37 j x).set 9 38 (j + 1)) := (Ew.st (W := Wgo) h _ (Or.inr (Or.inl rfl))).tr (Ew.st _ _ (Or.inl ⟨rfl, Or.inl rfl⟩))
    have L1 := Lh.ew x1' fun _ _ => Wgo_lay
    have e38 : (h.set 37 j x).M 9 38 = j := (Z_Mn (by omega)).trans e
    have f33 : ((h.set 37 j x).set 9 38 (j + 1)).M 33 (10001 * c + x) = gL (L x) := (x1'.2 33 _ fun y => by unfold Wgo at y; omega).trans (F x x0 x1)
    refine ⟨_, ?_, x1', by rw [Z_Mt]; omega, fun i hi => ?_, fun i hi => ?_⟩
    · rw [E_M_goes_4, if_neg (by omega), e, lm36 Lh, ln37 Lh, gd_t (by omega), Z_hl, e38, Z_wI (by omega), Z_hl, i2, lm30 L1, Z_Ns, Z_Ns, ln33 Lh, gd_t (by omega), f33, ifE, if_pos (by rw [z]; rfl)]
    · have : i = 0 := by omega
      subst this
      rw [Z_Mn (by omega), show j + ((0 : Nat) : Int) = j by omega, Z_Mt, itn_z]
    · rw [Z_Mn (by omega), Z_Mn (by omega)]
  | succ s ih =>
    intro x j h Lh S F e j0 j1 x0 x1 nf es
    have nz : L x ≠ 0 := fun z => by
      rw [z] at es
      omega
    obtain ⟨n0, n1, nn, ns, ne⟩ := rsp_nx (st_ok V) (by decide) R x0 (by omega) nf nz
    have g0 := (gL_0F (by decide) R x0 (by omega : x < 10000)).2.1
    have i2 : wI (wI (10001 * c) + x) = 10001 * c + x := by rw [Z_wI (z := 10001 * c) (by omega), Z_wI (by omega)]
    have x1' : Ew Wgo h ((h.set 37 j x).set 9 38 (j + 1)) := (Ew.st (W := Wgo) h _ (Or.inr (Or.inl rfl))).tr (Ew.st _ _ (Or.inl ⟨rfl, Or.inl rfl⟩))
    have L1 := Lh.ew x1' fun _ _ => Wgo_lay
    have S1 := S.go x1'
    have e38 : (h.set 37 j x).M 9 38 = j := (Z_Mn (by omega)).trans e
    have F1 : ∀ u, 1 ≤ u → u ≤ 9999 → ((h.set 37 j x).set 9 38 (j + 1)).M 33 (10001 * c + u) = gL (L u) := fun u u0 u1 => (x1'.2 33 _ fun y => by unfold Wgo at y; omega).trans (F u u0 u1)
    obtain ⟨h', e1, x2, m1, r1, q1⟩ := ih (N x) (j + 1) _ L1 S1 F1 (Z_Mt ..) (by omega) (by omega) n0 (by omega) nn (by omega)
    refine ⟨h', ?_, x1'.tr x2, by omega, fun i hi => ?_, fun i hi => ?_⟩
    · rw [E_M_goes_4, if_neg (by omega), e, lm36 Lh, ln37 Lh, gd_t (by omega), Z_hl, e38, Z_wI (by omega), Z_hl, i2, lm30 L1, Z_Ns, Z_Ns, ln33 Lh, gd_t (by omega), F1 x x0 x1, ifE, if_neg fun z => nz (g0.mp z), R_nextYear L1 c0 c1 V S1 R F1 x0 x1 nf nz, Z_bI]
      exact e1
    · cases i with
      | zero => rw [q1 _ (by omega), Z_Mn (by omega), show j + ((0 : Nat) : Int) = j by omega, Z_Mt, itn_z]
      | succ i =>
        have := r1 i (by omega)
        rw [itn_s, ← this]
        congr 1
        omega
    · rw [q1 i (by omega), Z_Mn (by omega), Z_Mn (by omega)]
theorem R_goes10 {c cal : Int} (c0 : 0 ≤ c) (c1 : c < 9) {H : HD} (V : hdv H) {src : Int → Prop} {L N E : Int → Int} (R : rsp 13 (H 6 0) (prO H) (prC H) src L N E) (u3 u4 : mV) : ∀ (s : Nat) (x j : Int) (h : mH), lay h → mpr h c H → (∀ u, 1 ≤ u → u ≤ 12 → h.M 34 (13 * c + u) = gL (L u)) → h.M 9 39 = j → 0 ≤ j → j + s ≤ 12 → 1 ≤ x → x ≤ 12 → L x ≠ 1152921504606846976 → L x % 16384 = s →
    ∃ h', Rn kM_goes 10 [vO 11 9, vI c, vI cal, u3, u4, vI x] [] h = Rn kM_goes 10 [vO 11 9, vI c, vI cal, u3, u4, vI (-1)] [] h' ∧ Ew Wgo h h' ∧ h'.M 9 39 = j + s + 1 ∧ (∀ i : Nat, i ≤ s → h'.M 38 (j + i) = itn N i x) ∧ (∀ i, i < j → h'.M 38 i = h.M 38 i) ∧ h'.M 9 38 = h.M 9 38 ∧ h'.M 37 = h.M 37 := by
  intro s
  induction s with
  | zero =>
    intro x j h Lh S F e j0 j1 x0 x1 nf es
    have z := (rsp_z (pr_ok V) (by decide) R x0 (by omega) nf).mp es
    have i2 : wI (wI (13 * c) + x) = 13 * c + x := by rw [Z_wI (z := 13 * c) (by omega), Z_wI (by omega)]
    have x1' : Ew Wgo h ((h.set 38 j x).set 9 39 (j + 1)) := (Ew.st (W := Wgo) h _ (Or.inr (Or.inr rfl))).tr (Ew.st _ _ (Or.inl ⟨rfl, Or.inr rfl⟩))
    have L1 := Lh.ew x1' fun _ _ => Wgo_lay
    have e39 : (h.set 38 j x).M 9 39 = j := (Z_Mn (by omega)).trans e
    have f34 : ((h.set 38 j x).set 9 39 (j + 1)).M 34 (13 * c + x) = gL (L x) := (x1'.2 34 _ fun y => by unfold Wgo at y; omega).trans (F x x0 x1)
    refine ⟨_, ?_, x1', by rw [Z_Mt]; omega, fun i hi => ?_, fun i hi => ?_, ?_, funext fun t => ?_⟩
    · rw [E_M_goes_10, if_neg (by omega), e, lm37 Lh, ln38 Lh, gd_t (by omega), Z_hl, e39, Z_wI (by omega), Z_hl, i2, lm31 L1, Z_Ns, Z_Ns, ln34 Lh, gd_t (by omega), f34, ifE, if_pos (by rw [z]; rfl)]
    · have : i = 0 := by omega
      subst this
      rw [Z_Mn (by omega), show j + ((0 : Nat) : Int) = j by omega, Z_Mt, itn_z]
    · rw [Z_Mn (by omega), Z_Mn (by omega)]
    · rw [Z_Mn (by omega), Z_Mn (by omega)]
    · rw [Z_Mn (by omega), Z_Mn (by omega)]
  | succ s ih =>
    intro x j h Lh S F e j0 j1 x0 x1 nf es
    have nz : L x ≠ 0 := fun z => by
      rw [z] at es
      omega
    obtain ⟨n0, n1, nn, ns, ne⟩ := rsp_nx (pr_ok V) (by decide) R x0 (by omega) nf nz
    have g0 := (gL_0F (by decide) R x0 (by omega : x < 13)).2.1
    have i2 : wI (wI (13 * c) + x) = 13 * c + x := by rw [Z_wI (z := 13 * c) (by omega), Z_wI (by omega)]
    have x1' : Ew Wgo h ((h.set 38 j x).set 9 39 (j + 1)) := (Ew.st (W := Wgo) h _ (Or.inr (Or.inr rfl))).tr (Ew.st _ _ (Or.inl ⟨rfl, Or.inr rfl⟩))
    have L1 := Lh.ew x1' fun _ _ => Wgo_lay
    have S1 := S.go x1'
    have e39 : (h.set 38 j x).M 9 39 = j := (Z_Mn (by omega)).trans e
    have F1 : ∀ u, 1 ≤ u → u ≤ 12 → ((h.set 38 j x).set 9 39 (j + 1)).M 34 (13 * c + u) = gL (L u) := fun u u0 u1 => (x1'.2 34 _ fun y => by unfold Wgo at y; omega).trans (F u u0 u1)
    obtain ⟨h', e1, x2, m1, r1, q1, q2, q3⟩ := ih (N x) (j + 1) _ L1 S1 F1 (Z_Mt ..) (by omega) (by omega) n0 (by omega) nn (by omega)
    refine ⟨h', ?_, x1'.tr x2, by omega, fun i hi => ?_, fun i hi => ?_, ?_, funext fun t => ?_⟩
    · rw [E_M_goes_10, if_neg (by omega), e, lm37 Lh, ln38 Lh, gd_t (by omega), Z_hl, e39, Z_wI (by omega), Z_hl, i2, lm31 L1, Z_Ns, Z_Ns, ln34 Lh, gd_t (by omega), F1 x x0 x1, ifE, if_neg fun z => nz (g0.mp z), R_nextMonth L1 c0 c1 V S1 R F1 x0 x1 nf nz, Z_bI]
      exact e1
    · cases i with
      | zero => rw [q1 _ (by omega), Z_Mn (by omega), show j + ((0 : Nat) : Int) = j by omega, Z_Mt, itn_z]
      | succ i =>
        have := r1 i (by omega)
        rw [itn_s, ← this]
        congr 1
        omega
    · rw [q1 i (by omega), Z_Mn (by omega), Z_Mn (by omega)]
    · rw [q2, Z_Mn (by omega), Z_Mn (by omega)]
    · rw [q3, Z_Mn (by omega), Z_Mn (by omega)]
/-- the rows of the way, as the reference lays them -/
def rowd (h : mH) (X : HX) (y m : Int) : Prop := (hLY X y ≠ 1152921504606846976 ∧ hLM X m ≠ 1152921504606846976) ∧ h.M 9 38 = hLY X y % 16384 + 1 ∧ (∀ i : Nat, (i : Int) ≤ hLY X y % 16384 → h.M 37 i = itn (hNY X) i y) ∧ h.M 9 39 = hLM X m % 16384 + 1 ∧ ∀ i : Nat, (i : Int) ≤ hLM X m % 16384 → h.M 38 i = itn (hNM X) i m
theorem rowd.end_ {h : mH} {X : HX} {y m : Int} (V : hxv X) (y0 : 1 ≤ y) (y1 : y ≤ 9999) (m0 : 1 ≤ m) (m1 : m ≤ 12) (r : rowd h X y m) : h.M 37 (hLY X y % 16384) = hEY X y ∧ h.M 38 (hLM X m % 16384) = hEM X m ∧ (0 ≤ hLY X y % 16384 ∧ hLY X y % 16384 ≤ 9999) ∧ (0 ≤ hLM X m % 16384 ∧ hLM X m % 16384 ≤ 12) := by
  obtain ⟨V1, RY, RM⟩ := V
  obtain ⟨⟨ny, nm⟩, _, ry, _, rm⟩ := r
  have by' := (RY.1 y y0 (by omega)).2.2 ny
  have bm := (RM.1 m m0 (by omega)).2.2 nm
  have py := (rsp_path (st_ok V1) (by decide) RY (hLY X y % 16384).toNat y y0 (by omega) ny (by omega)).2
  have pm := (rsp_path (pr_ok V1) (by decide) RM (hLM X m % 16384).toNat m m0 (by omega) nm (by omega)).2
  have a := ry (hLY X y % 16384).toNat (by omega)
  have b := rm (hLM X m % 16384).toNat (by omega)
  rw [py, show (((hLY X y % 16384).toNat : Nat) : Int) = hLY X y % 16384 by omega] at a
  rw [pm, show (((hLM X m % 16384).toNat : Nat) : Int) = hLM X m % 16384 by omega] at b
  exact ⟨a, b, by omega, by omega⟩
theorem isd_no {nc : Int} {Ds : Int → Int → Int → Int → Int} (O : ∀ c, 0 ≤ c → c < nc → Dok (Ds c)) {c y m d : Int} (h : ¬ dtl y m d) : ¬ isd nc Ds c y m d := fun ⟨⟨a, b⟩, e⟩ => h ((O c a b).2.1 y m d e)
theorem R_goes {h : mH} {T : Int → Int} {n nc : Int} {Ds : Int → Int → Int → Int → Int} {nh : Int} {Xs : Int → HX} (I : INV h T n nc Ds nh Xs) {c : Int} (c0 : 0 ≤ c) (c1 : c < nh) {y m : Int} (y0 : 1 ≤ y) (y1 : y ≤ 9999) (m0 : 1 ≤ m) (m1 : m ≤ 12) (cal : Int) : ∃ h', Cl kM_goes [vO 11 9, vI c, vI cal, vI y, vI m] h = some (some (vI (cb (isd nc Ds cal (hEY (Xs c) y) (hEM (Xs c) m) 1))), h') ∧ Ew Wgo h h' ∧ (isd nc Ds cal (hEY (Xs c) y) (hEM (Xs c) m) 1 → rowd h' (Xs c) y m) := by
  have nb := I.nh
  obtain ⟨⟨V1, RY, RM⟩, ⟨P, FY, FM⟩, _⟩ := I.hik c0 c1
  have Lh := I.1
  have O : ∀ c, 0 ≤ c → c < nc → Dok (Ds c) := fun c a b => I.dok a b
  have gy := gL_0F (by decide) RY y0 (by omega : y < 10000)
  have gm := gL_0F (by decide) RM m0 (by omega : m < 13)
  have i2 : wI (wI (10001 * c) + y) = 10001 * c + y := by rw [Z_wI (z := 10001 * c) (by omega), Z_wI (by omega)]
  have i3 : wI (wI (13 * c) + m) = 13 * c + m := by rw [Z_wI (z := 13 * c) (by omega), Z_wI (by omega)]
  rw [E_M_goes, i2, lm30 Lh, ln33 Lh, gd_t (by omega), FY y y0 y1, ifL]
  by_cases ny : hLY (Xs c) y = 1152921504606846976
  · have e0 := (RY.2.2.2.2.2 y y0 (by omega) ny).1
    rw [if_neg fun z => (gy.1.mp z) ny, gd_t (by decide), cb_f (isd_no O fun d => by have := d.1.1; omega)]
    exact ⟨h, rfl, Ew.rf _ _, fun i => absurd i (isd_no O fun d => by have := d.1.1; omega)⟩
  · rw [if_pos (gy.1.mpr ny), i3, lm31 Lh, ln34 Lh, gd_t (by omega), FM m m0 m1, ifL]
    by_cases nm : hLM (Xs c) m = 1152921504606846976
    · have e0 := (RM.2.2.2.2.2 m m0 (by omega) nm).1
      rw [if_neg fun z => (gm.1.mp z) nm, gd_t (by decide), cb_f (isd_no O fun d => by have := d.2.1.1; omega)]
      exact ⟨h, rfl, Ew.rf _ _, fun i => absurd i (isd_no O fun d => by have := d.2.1.1; omega)⟩
    · rw [if_pos (gm.1.mpr nm), Z_hl]
      have by' := (RY.1 y y0 (by omega)).2.2 ny
      have bm := (RM.1 m m0 (by omega)).2.2 nm
      have x1 : Ew Wgo h (h.set 9 38 0) := Ew.st (W := Wgo) h _ (Or.inl ⟨rfl, Or.inl rfl⟩)
      obtain ⟨p1, p2, p3, p4, p5, p6, p7, p8⟩ := P
      obtain ⟨h2, e2, x2, m2, r2, _⟩ := R_goes4 (cal := cal) (mm := m) c0 (by omega) V1 RY (vI y) (hLY (Xs c) y % 16384).toNat y 0 (h.set 9 38 0) (Lh.ew x1 fun _ _ => Wgo_lay) (mst.go ⟨p2, p5⟩ x1) (fun u u0 u1 => (x1.2 33 _ fun z => by unfold Wgo at z; omega).trans (FY u u0 u1)) (Z_Mt ..) (by omega) (by omega) y0 y1 ny (by omega)
      have x3 : Ew Wgo h2 (h2.set 9 39 0) := Ew.st (W := Wgo) h2 _ (Or.inl ⟨rfl, Or.inr rfl⟩)
      have x123 := (x1.tr x2).tr x3
      obtain ⟨h4, e4, x4, m4, r4, _, q1, q2⟩ := R_goes10 (cal := cal) c0 (by omega) V1 RM (vI y) (vI m) (hLM (Xs c) m % 16384).toNat m 0 (h2.set 9 39 0) (Lh.ew x123 fun _ _ => Wgo_lay) (mpr.go ⟨p3, p6⟩ x123) (fun u u0 u1 => (x123.2 34 _ fun z => by unfold Wgo at z; omega).trans (FM u u0 u1)) (Z_Mt ..) (by omega) (by omega) m0 m1 nm (by omega)
      have x := x123.tr x4
      have I4 := I.ew x fun _ _ w => Wgo_scr w
      have L4 := I4.1
      have rd : rowd h4 (Xs c) y m := by
        refine ⟨⟨ny, nm⟩, ?_, fun i hi => ?_, by omega, fun i hi => ?_⟩
        · rw [q1, Z_Mn (by omega), m2]
          omega
        · have := r2 i (by omega)
          rw [q2, Z_Mn (by omega), ← this]
          congr 1
          omega
        · have := r4 i (by omega)
          rw [← this]
          congr 1
          omega
      have re := rd.end_ ⟨V1, RY, RM⟩ y0 y1 m0 m1
      refine ⟨h4, ?_, x, fun _ => rd⟩
      have w1 : wI (h4.M 9 38 - 1) = hLY (Xs c) y % 16384 := by rw [rd.2.1, Z_wI (by omega)]; omega
      have w2 : wI (h4.M 9 39 - 1) = hLM (Xs c) m % 16384 := by rw [rd.2.2.2.1, Z_wI (by omega)]; omega
      rw [e2, E_M_goes_4, if_pos rfl, Z_hl, e4, E_M_goes_10, if_pos rfl, w1, w2, lm36 L4, lm37 L4, ln37 L4, ln38 L4, gd_t (by omega), gd_t (by omega), re.1, re.2.1, R_isDate I4.mcs, Z_bI, gd_t (cb_01 _)]
