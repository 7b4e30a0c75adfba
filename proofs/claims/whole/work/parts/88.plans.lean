/-! THE PURE PART, calls that write: plan, born, ask -/
theorem spt_new {h h1 h2 : mH} {T : Int → Int} {n nc : Int} {Ds : Int → Int → Int → Int → Int} {nh : Int} {Xs : Int → HX} (I : INV h T n nc Ds nh Xs) {s c y m d : Int} (i : isd nc Ds c y m d) (es : s = h.top) (m0 : h1.M s 0 = c) (m1 : h1.M s 1 = h.M 3 c) (m2 : h1.M s 2 = y) (m3 : h1.M s 3 = m) (m4 : h1.M s 4 = d) (m5 : h1.M s 5 = Ds c y m d) (e : ∀ k, h2.M s k = h1.M s k) (e3 : h2.M 3 c = h.M 3 c) (e18 : h2.M 1 18 = h.M 1 18) (e19 : h2.M 1 19 = h.M 1 19) (hc : h.cnt + 1 ≤ h2.cnt) : spt h2 nc Ds s c y m d := by
  have c56 := I.1.2.2
  have tp : h.top = h.cnt + 1 := rfl
  refine ⟨i, (e 0).trans m0, ((e 1).trans m1).trans e3.symm, (e 2).trans m2, (e 3).trans m3, (e 4).trans m4, (e 5).trans m5, by omega, fun k k0 k1 => Fz_new I.2.2.2.2.2.2.2.2.2.2 c56 e18 e19 (by omega) (by omega) (by omega)⟩
def Wpl (k : Int) : Int → Int → Prop := fun b j => (b = 1 ∧ j = 9) ∨ (b = 9 ∧ j = 54) ∨ ((b = 6 ∨ (46 ≤ b ∧ b ≤ 49)) ∧ j = k)
theorem ok_plan {c y m d : Int} : okc kX_plan kM_plan [vI c, vI y, vI m, vI d] := okw fun h T n nc Ds nh Xs I => by
  have L := I.1
  have c56 := L.2.2
  obtain ⟨v0, v1, v2, v3⟩ := I.2.2.2.2.2.1
  obtain ⟨s, h1, rS, q⟩ := C_spotOn I c y m d
  by_cases w : h.M 1 9 < 8
  · rcases q with ⟨i, es, xf, cn1, m0, m1, m2, m3, m4, m5⟩ | ⟨i, es, eh⟩
    · have tp : h.top = h.cnt + 1 := rfl
      have sn : ¬ s = 0 := by omega
      let k := h.M 1 9
      have kk : h.M 1 9 = k := rfl
      have k0 : 0 ≤ k := v1
      have k8 : k < 8 := w
      have L1 : lay h1 := L.fr xf fun b k w => w.elim
      have f1 : ∀ b j : Int, b ≤ 56 → h1.M b j = h.M b j := fun b j hb => xf.1 b j (by omega) fun w => w
      have La := L1.st s (layA_n (b := 6) k (by decide) (by decide))
      have Lb := La.st (k + 1) (wok_lay (b := 1) (k := 9) (Or.inl ⟨rfl, by decide⟩))
      have Lc := Lb.st c (layA_n (b := 46) k (by decide) (by decide))
      have Ld := Lc.st y (layA_n (b := 47) k (by decide) (by decide))
      have Le := Ld.st m (layA_n (b := 48) k (by decide) (by decide))
      have h19 : h1.M 1 9 = k := (f1 1 9 (by decide)).trans kk
      have h54 : h1.M 9 54 = k := (f1 9 54 (by decide)).trans v0
      have a : Cl kX_plan [vO 10 1, vI c, vI y, vI m, vI d] h = some (some (vI k), (h1.set 6 k s).set 1 9 (k + 1)) := by
        rw [E_X_plan, if_pos w, rS, Z_bR, if_neg sn, h19, lx8 L1, ln6 L1, gd_t (by omega), gd_t sn, Z_hl, show (h1.set 6 k s).M 1 9 = k from h19, Z_wI (z := k + 1) (by omega), Z_hl, show ((h1.set 6 k s).set 1 9 (k + 1)).M 1 9 = k + 1 from rfl, Z_wI (by omega), show k + 1 - 1 = k by omega]
      have xa : Ew (Wpl k) h1 ((h1.set 6 k s).set 1 9 (k + 1)) := (Ew.st (W := Wpl k) h1 _ (Or.inr (Or.inr ⟨by decide, rfl⟩))).tr (Ew.st _ _ (Or.inl ⟨rfl, rfl⟩))
      have hw : ∀ b j, Wpl k b j → Wok b j := fun b j w => by unfold Wpl at w; unfold Wok; omega
      have S1 : mcs ((h1.set 6 k s).set 1 9 (k + 1)) nc Ds := by
        obtain ⟨L1, ic, _⟩ := I.wr ((xf.mono (fun _ _ w => w.elim) (Nat.le_refl _) (Nat.le_refl _)).tr xa.fr) hw
        exact ⟨L1, ic.1, ic.2.2.1, ic.2.2.2.1, fun c c0 c1 => (ic.2.2.2.2 c c0 c1).1⟩
      have b : Cl kM_plan [vO 11 9, vI c, vI y, vI m, vI d] ((h1.set 6 k s).set 1 9 (k + 1)) = some (some (vI k), ((((((h1.set 6 k s).set 1 9 (k + 1)).set 46 k c).set 47 k y).set 48 k m).set 49 k d).set 9 54 (k + 1)) := by
        rw [E_M_plan, R_isDate S1, Z_bI, cb_t i, if_neg n10, show ((h1.set 6 k s).set 1 9 (k + 1)).M 9 54 = k from h54, if_neg (by omega), lm50 Lb, ln46 Lb, gd_t (by omega), Z_hl, show (((h1.set 6 k s).set 1 9 (k + 1)).set 46 k c).M 9 54 = k from h54, lm51 Lc, ln47 Lc, gd_t (by omega), Z_hl, show ((((h1.set 6 k s).set 1 9 (k + 1)).set 46 k c).set 47 k y).M 9 54 = k from h54, lm52 Ld, ln48 Ld, gd_t (by omega), Z_hl, show (((((h1.set 6 k s).set 1 9 (k + 1)).set 46 k c).set 47 k y).set 48 k m).M 9 54 = k from h54, lm53 Le, ln49 Le, gd_t (by omega), Z_hl, show ((((((h1.set 6 k s).set 1 9 (k + 1)).set 46 k c).set 47 k y).set 48 k m).set 49 k d).M 9 54 = k from h54, Z_wI (z := k + 1) (by omega), Z_hl, show (((((((h1.set 6 k s).set 1 9 (k + 1)).set 46 k c).set 47 k y).set 48 k m).set 49 k d).set 9 54 (k + 1)).M 9 54 = k + 1 from rfl, Z_wI (by omega), show k + 1 - 1 = k by omega]
      have xb : Ew (Wpl k) h1 (((((((h1.set 6 k s).set 1 9 (k + 1)).set 46 k c).set 47 k y).set 48 k m).set 49 k d).set 9 54 (k + 1)) := ((((xa.tr (Ew.st _ _ (Or.inr (Or.inr ⟨by decide, rfl⟩)))).tr (Ew.st _ _ (Or.inr (Or.inr ⟨by decide, rfl⟩)))).tr (Ew.st _ _ (Or.inr (Or.inr ⟨by decide, rfl⟩)))).tr (Ew.st _ _ (Or.inr (Or.inr ⟨by decide, rfl⟩)))).tr (Ew.st _ _ (Or.inr (Or.inl ⟨rfl, rfl⟩)))
      have x := (xf.mono (W := Wpl k) (fun _ _ w => w.elim) (Nat.le_refl _) (Nat.le_refl _)).tr xb.fr
      obtain ⟨L2, ic, ih, ig, K, e⟩ := I.wr x hw
      have hs : ∀ j, (((((((h1.set 6 k s).set 1 9 (k + 1)).set 46 k c).set 47 k y).set 48 k m).set 49 k d).set 9 54 (k + 1)).M s j = h1.M s j := fun j => xb.2 s j (by unfold Wpl; omega)
      have q6 : (((((((h1.set 6 k s).set 1 9 (k + 1)).set 46 k c).set 47 k y).set 48 k m).set 49 k d).set 9 54 (k + 1)).M 6 k = s := (Z_Mn (by omega)).trans ((Z_Mn (by omega)).trans ((Z_Mn (by omega)).trans ((Z_Mn (by omega)).trans ((Z_Mn (by omega)).trans ((Z_Mn (by omega)).trans (Z_Mt ..))))))
      have q46 : (((((((h1.set 6 k s).set 1 9 (k + 1)).set 46 k c).set 47 k y).set 48 k m).set 49 k d).set 9 54 (k + 1)).M 46 k = c := (Z_Mn (by omega)).trans ((Z_Mn (by omega)).trans ((Z_Mn (by omega)).trans ((Z_Mn (by omega)).trans (Z_Mt ..))))
      have q47 : (((((((h1.set 6 k s).set 1 9 (k + 1)).set 46 k c).set 47 k y).set 48 k m).set 49 k d).set 9 54 (k + 1)).M 47 k = y := (Z_Mn (by omega)).trans ((Z_Mn (by omega)).trans ((Z_Mn (by omega)).trans (Z_Mt ..)))
      have q48 : (((((((h1.set 6 k s).set 1 9 (k + 1)).set 46 k c).set 47 k y).set 48 k m).set 49 k d).set 9 54 (k + 1)).M 48 k = m := (Z_Mn (by omega)).trans ((Z_Mn (by omega)).trans (Z_Mt ..))
      have q49 : (((((((h1.set 6 k s).set 1 9 (k + 1)).set 46 k c).set 47 k y).set 48 k m).set 49 k d).set 9 54 (k + 1)).M 49 k = d := (Z_Mn (by omega)).trans (Z_Mt ..)
      have SP := spt_new (h2 := ((((((h1.set 6 k s).set 1 9 (k + 1)).set 46 k c).set 47 k y).set 48 k m).set 49 k d).set 9 54 (k + 1)) I i es m0 m1 m2 m3 m4 m5 hs (e 3 c (by decide) (by unfold Wpl; omega)) (e 1 18 (by decide) (by unfold Wpl; omega)) (e 1 19 (by decide) (by unfold Wpl; omega)) (by rw [xb.cnt, cn1]; exact Nat.le_refl _)
      obtain ⟨L, it, _, _, ia, ip, ie, ik, ib, iw, _⟩ := I
      refine ⟨_, _, _, Wpl k, a, b, x.mono (fun _ _ w => w) (by decide) (by decide), hw, ⟨T, n, nc, Ds, nh, Xs, L2, it.cg fun b j z => e b j ?_ ?_, ic, ih, ia.cg K fun b j z => e b j ?_ ?_, ⟨rfl, show (0 : Int) ≤ k + 1 by omega, show k + 1 ≤ (8 : Int) by omega, fun p h0 h1 => ?_⟩, ie.cg fun b j z => e b j ?_ ?_, ?_, ib.cg K fun b j z => e b j ?_ ?_, iw.cg K fun b j z => e b j ?_ ?_, ig⟩, xf.2.2.2.2.2⟩
      · unfold rT at z; omega
      · unfold rT at z; unfold Wpl; omega
      · unfold rA at z; omega
      · unfold rA at z; unfold Wpl; omega
      · replace h1 : p < k + 1 := h1
        by_cases z : p = k
        · rw [z, q6, q46, q47, q48, q49]
          exact SP
        · rw [e 6 p (by omega) (by unfold Wpl; omega), e 46 p (by omega) (by unfold Wpl; omega), e 47 p (by omega) (by unfold Wpl; omega), e 48 p (by omega) (by unfold Wpl; omega), e 49 p (by omega) (by unfold Wpl; omega)]
          exact (v3 p h0 (by omega)).cg K fun j j0 j1 => e 3 j (by omega) (by unfold Wpl; omega)
      · unfold rE at z; omega
      · unfold rE at z; unfold Wpl; omega
      · unfold iK
        rw [e 9 64 (by omega) (by unfold Wpl; omega), e 9 65 (by omega) (by unfold Wpl; omega), e 1 13 (by omega) (by unfold Wpl; omega), e 1 14 (by omega) (by unfold Wpl; omega), e 1 7 (by omega) (by unfold Wpl; omega), e 1 12 (by omega) (by unfold Wpl; omega)]
        exact ik
      · unfold rB at z; omega
      · unfold rB at z; unfold Wpl; omega
      · unfold rW at z; omega
      · unfold rW at z; unfold Wpl; omega
    · exact okw0 I (v := -1) (by rw [E_X_plan, if_pos w, rS, Z_bR, if_pos es, eh]) (by rw [E_M_plan, R_isDate I.mcs, Z_bI, cb_f i, if_pos rfl])
  · refine okw0 I (v := -1) (by rw [E_X_plan, if_neg w]) ?_
    rw [E_M_plan, R_isDate I.mcs, Z_bI]
    by_cases i : isd nc Ds c y m d
    · rw [cb_t i, if_neg n10, if_pos (by omega)]
    · rw [cb_f i, if_pos rfl]
def Wbo (b j : Int) : Prop := (b = 1 ∧ j = 17) ∨ (b = 9 ∧ 56 ≤ j ∧ j ≤ 60)
theorem ok_born {c y m d : Int} : okc kX_born kM_born [vI c, vI y, vI m, vI d] := okw fun h T n nc Ds nh Xs I => by
  have L := I.1
  have c56 := L.2.2
  obtain ⟨s, h1, rS, q⟩ := C_spotOn I c y m d
  rcases q with ⟨i, es, xf, cn1, m0, m1, m2, m3, m4, m5⟩ | ⟨i, es, eh⟩
  · have tp : h.top = h.cnt + 1 := rfl
    have sn : ¬ s = 0 := by omega
    have a : Cl kX_born [vO 10 1, vI c, vI y, vI m, vI d] h = some (some (vI 1), h1.set 1 17 s) := by
      rw [E_X_born, rS, Z_bR, if_neg sn, Z_hl, gd_t (by decide)]
    have xa : Ew Wbo h1 (h1.set 1 17 s) := Ew.st (W := Wbo) h1 _ (Or.inl ⟨rfl, rfl⟩)
    have hw : ∀ b j, Wbo b j → Wok b j := fun b j w => by unfold Wbo at w; unfold Wok; omega
    have S1 : mcs (h1.set 1 17 s) nc Ds := by
      obtain ⟨L1, ic, _⟩ := I.wr ((xf.mono (fun _ _ w => w.elim) (Nat.le_refl _) (Nat.le_refl _)).tr xa.fr) hw
      exact ⟨L1, ic.1, ic.2.2.1, ic.2.2.2.1, fun c c0 c1 => (ic.2.2.2.2 c c0 c1).1⟩
    have b : Cl kM_born [vO 11 9, vI c, vI y, vI m, vI d] (h1.set 1 17 s) = some (some (vI 1), (((((h1.set 1 17 s).set 9 56 (Ds c y m d)).set 9 57 c).set 9 58 y).set 9 59 m).set 9 60 d) := by
      rw [E_M_born, R_isDate S1, Z_bI, cb_t i, if_neg n10, R_dayOf S1 i, Z_bI, Z_hl, Z_hl, Z_hl, Z_hl, Z_hl, gd_t (by decide)]
    have xb : Ew Wbo h1 ((((((h1.set 1 17 s).set 9 56 (Ds c y m d)).set 9 57 c).set 9 58 y).set 9 59 m).set 9 60 d) := ((((xa.tr (Ew.st _ _ (Or.inr ⟨rfl, by decide, by decide⟩))).tr (Ew.st _ _ (Or.inr ⟨rfl, by decide, by decide⟩))).tr (Ew.st _ _ (Or.inr ⟨rfl, by decide, by decide⟩))).tr (Ew.st _ _ (Or.inr ⟨rfl, by decide, by decide⟩))).tr (Ew.st _ _ (Or.inr ⟨rfl, by decide, by decide⟩))
    have x := (xf.mono (W := Wbo) (fun _ _ w => w.elim) (Nat.le_refl _) (Nat.le_refl _)).tr xb.fr
    obtain ⟨L2, ic, ih, ig, K, e⟩ := I.wr x hw
    have hs : ∀ j, ((((((h1.set 1 17 s).set 9 56 (Ds c y m d)).set 9 57 c).set 9 58 y).set 9 59 m).set 9 60 d).M s j = h1.M s j := fun j => xb.2 s j (by unfold Wbo; omega)
    have SP := spt_new (h2 := (((((h1.set 1 17 s).set 9 56 (Ds c y m d)).set 9 57 c).set 9 58 y).set 9 59 m).set 9 60 d) I i es m0 m1 m2 m3 m4 m5 hs (e 3 c (by decide) (by unfold Wbo; omega)) (e 1 18 (by decide) (by unfold Wbo; omega)) (e 1 19 (by decide) (by unfold Wbo; omega)) (by rw [xb.cnt, cn1]; exact Nat.le_refl _)
    obtain ⟨L, it, _, _, ia, ip, ie, ik, ib, iw, _⟩ := I
    refine ⟨_, _, _, Wbo, a, b, x.mono (fun _ _ w => w) (by decide) (by decide), hw, ⟨T, n, nc, Ds, nh, Xs, L2, it.cg fun b j z => e b j ?_ ?_, ic, ih, ia.cg K fun b j z => e b j ?_ ?_, ip.cg K fun b j z => e b j ?_ ?_, ie.cg fun b j z => e b j ?_ ?_, ?_, Or.inr ⟨SP, rfl⟩, iw.cg K fun b j z => e b j ?_ ?_, ig⟩, xf.2.2.2.2.2⟩
    · unfold rT at z; omega
    · unfold rT at z; unfold Wbo; omega
    · unfold rA at z; omega
    · unfold rA at z; unfold Wbo; omega
    · unfold rP at z; omega
    · unfold rP at z; unfold Wbo; omega
    · unfold rE at z; omega
    · unfold rE at z; unfold Wbo; omega
    · unfold iK
      rw [e 9 64 (by omega) (by unfold Wbo; omega), e 9 65 (by omega) (by unfold Wbo; omega), e 1 13 (by omega) (by unfold Wbo; omega), e 1 14 (by omega) (by unfold Wbo; omega), e 1 7 (by omega) (by unfold Wbo; omega), e 1 12 (by omega) (by unfold Wbo; omega)]
      exact ik
    · unfold rW at z; omega
    · unfold rW at z; unfold Wbo; omega
  · exact okw0 I (v := 0) (by rw [E_X_born, rS, Z_bR, if_pos es, eh, gd_t (by decide)]) (by rw [E_M_born, R_isDate I.mcs, Z_bI, cb_f i, if_pos rfl, gd_t (by decide)])
