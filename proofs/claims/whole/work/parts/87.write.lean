/-! THE PURE PART, calls that write: event, plan, ask, born -/
theorem isSort_c (s : Int) (h : mH) : Cl kX_isSort [vI s] h = some (some (vI (bz (0 ≤ s ∧ s ≤ 3))), h) := by
  rw [E_X_isSort]
  by_cases q : s < 0
  · rw [if_pos q, gd_t (by decide), bz_f (by omega)]
  · rw [if_neg q]
    by_cases w : s ≤ 3
    · rw [if_pos w, gd_t (by decide), bz_t (by omega)]
    · rw [if_neg w, gd_t (by decide), bz_f (by omega)]
theorem INV.dayb {h : mH} {T : Int → Int} {n nc : Int} {Ds : Int → Int → Int → Int → Int} {nh : Int} {Xs : Int → HX} (I : INV h T n nc Ds nh Xs) {c y m d : Int} (i : isd nc Ds c y m d) : 0 ≤ Ds c y m d ∧ Ds c y m d ≤ 20000000 := by
  have O := I.dok i.1.1 i.1.2
  have db := O.1 y m d
  have := i.2
  omega
def Wev (k : Int) : Int → Int → Prop := fun b j => (b = 1 ∧ j = 12) ∨ (b = 9 ∧ j = 63) ∨ ((b = 7 ∨ b = 8 ∨ b = 51 ∨ b = 52) ∧ j = k)
theorem ok_event {c y m d s : Int} : okc kX_event kM_event [vI c, vI y, vI m, vI d, vI s] := okw fun h T n nc Ds nh Xs I => by
  have L := I.1
  obtain ⟨v0, v1, v2, v3⟩ := I.ev
  by_cases i : isd nc Ds c y m d
  · by_cases q : 0 ≤ s ∧ s ≤ 3
    · by_cases w : h.M 1 12 < 30
      · have dn : Cl kX_dayIn [vO 10 1, vI c, vI y, vI m, vI d] h = some (some (vI (Ds c y m d)), h) := by rw [C_dayIn I, if_pos i.1]
        have db := I.dayb i
        let k := h.M 1 12
        have k0 : 0 ≤ k := v1
        have kk : h.M 1 12 = k := rfl
        have k30 : k < 30 := w
        have L2 := L.st (Ds c y m d) (layA_n (b := 7) k (by decide) (by decide))
        have L3 := L2.st s (layA_n (b := 8) k (by decide) (by decide))
        have L4 := L3.st (wI (k + 1)) (wok_lay (b := 1) (k := 12) (Or.inl ⟨rfl, by decide⟩))
        have a : Cl kX_event [vO 10 1, vI c, vI y, vI m, vI d, vI s] h = some (some (vI (k + 1)), ((h.set 7 k (Ds c y m d)).set 8 k s).set 1 12 (k + 1)) := by
          rw [E_X_event, dn, Z_bI, if_neg i.2, isSort_c, Z_bI, bz_t q, if_neg n10, if_pos w, lx10 L, ln7 L, kk, gd_t (by omega), Z_hl, lx11 L2, ln8 L2, show (h.set 7 k (Ds c y m d)).M 1 12 = k from rfl, gd_t (by omega), Z_hl, show ((h.set 7 k (Ds c y m d)).set 8 k s).M 1 12 = k from rfl, Z_wI (by omega), Z_hl]
          rfl
        have L5 : lay (((h.set 7 k (Ds c y m d)).set 8 k s).set 1 12 (k + 1)) := L3.st (k + 1) (wok_lay (b := 1) (k := 12) (Or.inl ⟨rfl, by decide⟩))
        have L6 := L5.st (Ds c y m d) (layA_n (b := 51) k (by decide) (by decide))
        have x1 : Ew (Wev k) h (((h.set 7 k (Ds c y m d)).set 8 k s).set 1 12 (k + 1)) := ((Ew.st (W := Wev k) h _ (Or.inr (Or.inr ⟨by decide, rfl⟩))).tr (Ew.st _ _ (Or.inr (Or.inr ⟨by decide, rfl⟩)))).tr (Ew.st _ _ (Or.inl ⟨rfl, rfl⟩))
        have x : Fr (Wev k) 0 0 h ((((((h.set 7 k (Ds c y m d)).set 8 k s).set 1 12 (k + 1)).set 51 k (Ds c y m d)).set 52 k s).set 9 63 (k + 1)) := (((x1.tr (Ew.st _ _ (Or.inr (Or.inr ⟨by decide, rfl⟩)))).tr (Ew.st _ _ (Or.inr (Or.inr ⟨by decide, rfl⟩)))).tr (Ew.st _ _ (Or.inr (Or.inl ⟨rfl, rfl⟩)))).fr
        have S1 : mcs (((h.set 7 k (Ds c y m d)).set 8 k s).set 1 12 (k + 1)) nc Ds := by
          have hw1 : ∀ b j, Wev k b j → Wok b j := fun b j w => by unfold Wev at w; unfold Wok; omega
          obtain ⟨L1, ic, _⟩ := I.wr x1.fr hw1
          exact ⟨L1, ic.1, ic.2.2.1, ic.2.2.2.1, fun c c0 c1 => (ic.2.2.2.2 c c0 c1).1⟩
        have b : Cl kM_event [vO 11 9, vI c, vI y, vI m, vI d, vI s] (((h.set 7 k (Ds c y m d)).set 8 k s).set 1 12 (k + 1)) = some (some (vI (k + 1)), (((((h.set 7 k (Ds c y m d)).set 8 k s).set 1 12 (k + 1)).set 51 k (Ds c y m d)).set 52 k s).set 9 63 (k + 1)) := by
          have e63 : (((h.set 7 k (Ds c y m d)).set 8 k s).set 1 12 (k + 1)).M 9 63 = k := v0
          rw [E_M_event, R_isDate S1, Z_bI, cb_t i, if_neg n10, R_in, Z_bI, bz_t q, if_neg n10, e63, if_neg (by omega), R_dayOf S1 i, Z_bI, lm61 L5, ln51 L5, gd_t (by omega), Z_hl, lm62 L6, ln52 L6, show ((((h.set 7 k (Ds c y m d)).set 8 k s).set 1 12 (k + 1)).set 51 k (Ds c y m d)).M 9 63 = k from v0, gd_t (by omega), Z_hl, show (((((h.set 7 k (Ds c y m d)).set 8 k s).set 1 12 (k + 1)).set 51 k (Ds c y m d)).set 52 k s).M 9 63 = k from v0, Z_wI (by omega), Z_hl]
          rfl
        have hw : ∀ b j, Wev k b j → Wok b j := fun b j w => by unfold Wev at w; unfold Wok; omega
        obtain ⟨L1, ic, ih, ig, K, e⟩ := I.wr x hw
        obtain ⟨L, it, _, _, ia, ip, ie, ik, ib, iw, _⟩ := I
        refine ⟨_, _, _, Wev k, a, b, x.mono (fun _ _ w => w) (by decide) (by decide), hw, ⟨T, n, nc, Ds, nh, Xs, L1, it.cg fun b j z => e b j ?_ ?_, ic, ih, ia.cg K fun b j z => e b j ?_ ?_, ip.cg K fun b j z => e b j ?_ ?_, ⟨rfl, show (0 : Int) ≤ k + 1 by omega, show k + 1 ≤ (30 : Int) by omega, fun e0 h0 h1 => ?_⟩, ⟨ik.1, ik.2.1, ik.2.2.1, ik.2.2.2.1, ik.2.2.2.2.1, show h.M 1 14 ≤ k + 1 by have := ik.2.2.2.2.2; omega⟩, ib.cg K fun b j z => e b j ?_ ?_, iw.cg K fun b j z => e b j ?_ ?_, ig⟩, rfl⟩
        · unfold rT at z; omega
        · unfold rT at z; unfold Wev; omega
        · unfold rA at z; omega
        · unfold rA at z; unfold Wev; omega
        · unfold rP at z; omega
        · unfold rP at z; unfold Wev; omega
        · replace h1 : e0 < k + 1 := h1
          by_cases z : e0 = k
          · rw [z]
            have q7 : ((((((h.set 7 k (Ds c y m d)).set 8 k s).set 1 12 (k + 1)).set 51 k (Ds c y m d)).set 52 k s).set 9 63 (k + 1)).M 7 k = Ds c y m d := (Z_Mn (by omega)).trans ((Z_Mn (by omega)).trans ((Z_Mn (by omega)).trans ((Z_Mn (by omega)).trans ((Z_Mn (by omega)).trans (Z_Mt ..)))))
            have q8 : ((((((h.set 7 k (Ds c y m d)).set 8 k s).set 1 12 (k + 1)).set 51 k (Ds c y m d)).set 52 k s).set 9 63 (k + 1)).M 8 k = s := (Z_Mn (by omega)).trans ((Z_Mn (by omega)).trans ((Z_Mn (by omega)).trans ((Z_Mn (by omega)).trans (Z_Mt ..))))
            have q51 : ((((((h.set 7 k (Ds c y m d)).set 8 k s).set 1 12 (k + 1)).set 51 k (Ds c y m d)).set 52 k s).set 9 63 (k + 1)).M 51 k = Ds c y m d := (Z_Mn (by omega)).trans ((Z_Mn (by omega)).trans (Z_Mt ..))
            have q52 : ((((((h.set 7 k (Ds c y m d)).set 8 k s).set 1 12 (k + 1)).set 51 k (Ds c y m d)).set 52 k s).set 9 63 (k + 1)).M 52 k = s := (Z_Mn (by omega)).trans (Z_Mt ..)
            rw [q7, q8, q51, q52]
            exact ⟨rfl, rfl, q, db⟩
          · rw [e 7 e0 (by omega) (by unfold Wev; omega), e 8 e0 (by omega) (by unfold Wev; omega), e 51 e0 (by omega) (by unfold Wev; omega), e 52 e0 (by omega) (by unfold Wev; omega)]
            exact v3 e0 h0 (by omega)
        · unfold rB at z; omega
        · unfold rB at z; unfold Wev; omega
        · unfold rW at z; omega
        · unfold rW at z; unfold Wev; omega
      · exact okw0 I (v := -1) (by rw [E_X_event, C_dayIn I, Z_bI, if_pos i.1, if_neg i.2, isSort_c, Z_bI, bz_t q, if_neg n10, if_neg w]) (by rw [E_M_event, R_isDate I.mcs, Z_bI, cb_t i, if_neg n10, R_in, Z_bI, bz_t q, if_neg n10, v0, if_pos (by omega)])
    · exact okw0 I (v := -1) (by rw [E_X_event, C_dayIn I, Z_bI, if_pos i.1, if_neg i.2, isSort_c, Z_bI, bz_f q, if_pos rfl]) (by rw [E_M_event, R_isDate I.mcs, Z_bI, cb_t i, if_neg n10, R_in, Z_bI, bz_f q, if_pos rfl])
  · exact okw0 I (v := -1) (by
      rw [E_X_event, C_dayIn I, Z_bI]
      by_cases q : 0 ≤ c ∧ c < nc
      · rw [if_pos q, if_pos (Classical.byContradiction fun t => i ⟨q, t⟩)]
      · rw [if_neg q, if_pos rfl]) (by rw [E_M_event, R_isDate I.mcs, Z_bI, cb_f i, if_pos rfl])
/-! a spot is made -/
theorem Fr.nwo {h h1 : mH} {t : Nat} {n : Int} (x : Ew (fun b _ => b = h.top) (h.new t n) h1) : Fr (fun _ _ => False) 1 n.toNat h h1 := by
  have y := Fr.nw (fun b _ => b = h.top) h t n
  have z := (y.tr x.fr).mono (c' := 1) (s' := n.toNat) (fun _ _ w => w) (by omega) (by omega)
  exact ⟨fun b k q _ => z.1 b k q (show ¬ b = h.top by unfold mH.top; omega), z.2⟩
theorem C_spotOn {h : mH} {T : Int → Int} {n nc : Int} {Ds : Int → Int → Int → Int → Int} {nh : Int} {Xs : Int → HX} (I : INV h T n nc Ds nh Xs) (c y m d : Int) : ∃ s h1, Cl kX_spotOn [vO 10 1, vI c, vI y, vI m, vI d] h = some (some (vR 7 s), h1) ∧ ((isd nc Ds c y m d ∧ s = h.top ∧ Fr (fun _ _ => False) 1 6 h h1 ∧ h1.cnt = h.cnt + 1 ∧ h1.M s 0 = c ∧ h1.M s 1 = h.M 3 c ∧ h1.M s 2 = y ∧ h1.M s 3 = m ∧ h1.M s 4 = d ∧ h1.M s 5 = Ds c y m d) ∨ (¬ isd nc Ds c y m d ∧ s = 0 ∧ h1 = h)) := by
  rw [E_X_spotOn, C_almAt I, Z_bR]
  by_cases q : 0 ≤ c ∧ c < nc
  · have A := I.cok q.1 q.2
    rw [if_pos q, if_neg A.a0, gd_t A.a0, A.day, Z_bI]
    by_cases z : Ds c y m d = -1
    · exact ⟨0, h, by rw [if_pos z], Or.inr ⟨fun i => i.2 z, rfl, rfl⟩⟩
    · have i : isd nc Ds c y m d := ⟨q, z⟩
      have TD := (I.dok q.1 q.2).2.1 _ _ _ z
      obtain ⟨ty, tm, td⟩ := TD
      have db := (I.dok q.1 q.2).1 y m d
      have mb : 0 ≤ m ∧ m ≤ 15 ∧ 1 ≤ d ∧ d ≤ 31 := by omega
      have kb : 0 ≤ key y m d ∧ key y m d < 2147483648 := by unfold key; omega
      have ky := key_y (y := y) (m := m) (d := d) mb.1 mb.2.1 (by omega) mb.2.2.2
      rw [if_neg z, Z_hl, C_keyOf _ (by omega) (by omega) mb.1 mb.2.1 (by omega) mb.2.2.2, Z_bI, E_Sp_init, Z_hl, Z_hl, C_yearOfKey _ kb.1 kb.2, Z_bI, Z_hl, C_monthOfKey _ kb.1 kb.2, Z_bI, Z_hl, C_dateOfKey, Z_bI, Z_hl, Z_hl, Z_bV, ky.1, ky.2.1, ky.2.2]
      refine ⟨h.top, _, rfl, Or.inl ⟨i, rfl, Fr.nwo ((((((Ew.st (W := fun b _ => b = h.top) _ _ rfl).tr (Ew.st _ _ rfl)).tr (Ew.st _ _ rfl)).tr (Ew.st _ _ rfl)).tr (Ew.st _ _ rfl)).tr (Ew.st _ _ rfl)), rfl, ?_, ?_, ?_, ?_, ?_, ?_⟩⟩
      · exact (Z_Mn (by omega)).trans ((Z_Mn (by omega)).trans ((Z_Mn (by omega)).trans ((Z_Mn (by omega)).trans ((Z_Mn (by omega)).trans (Z_Mt ..)))))
      · exact (Z_Mn (by omega)).trans ((Z_Mn (by omega)).trans ((Z_Mn (by omega)).trans ((Z_Mn (by omega)).trans (Z_Mt ..))))
      · exact (Z_Mn (by omega)).trans ((Z_Mn (by omega)).trans ((Z_Mn (by omega)).trans (Z_Mt ..)))
      · exact (Z_Mn (by omega)).trans ((Z_Mn (by omega)).trans (Z_Mt ..))
      · exact (Z_Mn (by omega)).trans (Z_Mt ..)
      · exact Z_Mt ..
  · exact ⟨0, h, by rw [if_neg q, if_pos rfl], Or.inr ⟨fun i => q i.1, rfl, rfl⟩⟩
/-- a cell just made is never written again -/
theorem Fz_new {h h2 : mH} (g : iG h) (c56 : 56 ≤ h.cnt) (e18 : h2.M 1 18 = h.M 1 18) (e19 : h2.M 1 19 = h.M 1 19) {b k : Int} (b0 : h.cnt < b) (b1 : b ≤ h2.cnt) (k8 : k ≠ 8) : Fz h2 b k := by
  unfold Fz
  rw [e18, e19]
  refine ⟨by omega, b1, fun z => ?_, fun z => ?_, fun z => k8 z.1⟩
  · rcases g.1 with w | w
    · exact z.1 w
    · omega
  · rcases g.2.1 with w | w
    · exact z.1 w
    · omega
