/-! THE PURE PART, calls: a head -/
theorem C_heap {h : mH} {q : Int} (u1 : mV) (g : h.M 1 18 = 0 ∨ (hph h (h.M 1 18) ∧ h.M 1 18 + 2 ≤ h.cnt)) (c : 56 ≤ h.cnt) : ∃ h4 hp, Rn kX_takeHead 7 [vO 10 1, u1, vR 2 q] [] h = Rn kX_takeHead 10 [vO 10 1, u1, vR 2 q] [] h4 ∧ hph h4 hp ∧ h4.M 1 18 = hp ∧ hp + 2 ≤ h4.cnt ∧ Fb h.cnt (fun b k => b = 1 ∧ k = 18) h h4 ∧ ((h.M 1 18 ≠ 0 ∧ h4 = h ∧ hp = h.M 1 18) ∨ (h.M 1 18 = 0 ∧ hp = (h.cnt : Int) + 1 ∧ h4.cnt = h.cnt + 3 ∧ h4.sl = h.sl + 20005)) := by
  by_cases z : h.M 1 18 = 0
  · have tp : h.top = h.cnt + 1 := rfl
    obtain ⟨h', r, c', s', X', M', N', G⟩ := D_hpInit (hp := h.top) (h := h.new 3 3) (by rw [Z_cw]; omega) (by omega) (fun k => by rw [Z_Mw, if_pos rfl])
    have f : Fb h.cnt (fun _ _ => False) h h' := ⟨fun b k q _ => (M' b k (by omega)).trans (by rw [Z_Mw, if_neg (by omega)]), fun b q => (N' b (by omega)).trans (by rw [Z_Nw, if_neg (by omega)]), by rw [c', Z_cw]; omega, by rw [X']; rfl⟩
    have x : Fb h.cnt (fun b k => b = 1 ∧ k = 18) h (h'.set 1 18 h.top) := Fb.tr ⟨fun b k q _ => f.1 b k q fun w => w, f.2⟩ (Ew.fb (Ew.st (W := fun b k => b = 1 ∧ k = 18) h' h.top ⟨rfl, rfl⟩) fun b k _ w => w)
    refine ⟨h'.set 1 18 h.top, h.top, ?_, ?_, Z_Mt .., ?_, x, Or.inr ⟨z, tp, by rw [Z_cs, c', Z_cw], ?_⟩⟩
    · rw [E_X_takeHead_7, if_pos z, E_X_takeHead_8, Z_hl, r, Z_bV, E_X_takeHead_9, Z_hl]
    · exact G.cg (fun b k b0 b1 => Z_Mn (by omega)) (fun b _ _ => rfl)
    · rw [Z_cs, c', Z_cw]; omega
    · rw [Z_ss, s', Z_sw]
      omega
  · rcases g with g | ⟨g, g'⟩
    · exact absurd g z
    · exact ⟨h, h.M 1 18, by rw [E_X_takeHead_7, if_neg z], g, rfl, g', Fb.rf _ _ _, Or.inl ⟨z, rfl, rfl⟩⟩
def Wt1 (nc nh : Int) : Int → Int → Prop := fun b k => Scr nc nh b k ∨ (b = 1 ∧ (k = 1 ∨ k = 5 ∨ k = 18)) ∨ (b = 9 ∧ (k = 2 ∨ k = 28)) ∨ (b = 4 ∧ k = nh) ∨ (b = 32 ∧ k = nh) ∨ b = 36
theorem wt1_b {nc nh b k : Int} (w : Wt1 nc nh b k) : ((b = 9 ∧ (k = 0 ∨ k = 3 ∨ k = 4 ∨ k = 29 ∨ k = 34 ∨ k = 35 ∨ k = 38 ∨ k = 39 ∨ k = 40 ∨ k = 41 ∨ k = 70)) ∨ (11 ≤ b ∧ b ≤ 35 ∧ b ≠ 32) ∨ b = 37 ∨ b = 38 ∨ b = 50 ∨ b = 56) ∨ (b = 1 ∧ (k = 1 ∨ k = 5 ∨ k = 18)) ∨ (b = 9 ∧ (k = 2 ∨ k = 28)) ∨ (b = 4 ∧ k = nh) ∨ (b = 32 ∧ k = nh) ∨ b = 36 := by
  rcases w with w | w
  · exact Or.inl (scr_b w)
  · exact Or.inr w
theorem wsp_t1 {nc nh b k : Int} (w : WSp nh b k) : Wt1 nc nh b k := by
  rcases w with w | w
  · unfold WFl at w
    rcases w with w | w | w | w
    · exact Or.inl (Or.inl (by omega))
    · exact Or.inl (Or.inr (Or.inl w))
    · exact Or.inr (Or.inr (Or.inr (Or.inr (Or.inr w))))
    · exact Or.inl (Or.inr (Or.inr (Or.inr (Or.inr (Or.inr (Or.inr (Or.inr ⟨nh, Int.le_refl _, Or.inr (Or.inl ⟨w.1, w.2.1, w.2.2⟩)⟩)))))))
  · unfold WMo at w
    exact Or.inl (Or.inr (Or.inr (Or.inr (Or.inr (Or.inr (Or.inr (Or.inr ⟨nh, Int.le_refl _, Or.inr (Or.inr ⟨w.1, w.2.1, w.2.2⟩)⟩)))))))
theorem wt1_lay {nc nh b k : Int} (w : Wt1 nc nh b k) : layA b k = 0 := by
  rcases w with w | w | w | w | w | w
  · exact scr_lay w
  · obtain ⟨rfl, rfl | rfl | rfl⟩ := w <;> rfl
  · obtain ⟨rfl, rfl | rfl⟩ := w <;> rfl
  · exact layA_n k (by omega) (by omega)
  · exact layA_n k (by omega) (by omega)
  · exact layA_n k (by omega) (by omega)
theorem ok_text1 {h : mH} {T : Int → Int} {n nc : Int} {Ds : Int → Int → Int → Int → Int} {nh : Int} {Xs : Int → HX} (I : INV h T n nc Ds nh Xs) : dne kX_text kM_text [vI 1] h := by
  have L := I.1
  have c := L.2.2
  have nb := I.nh
  have e15 := I.2.2.2.1.2.1
  have e928 := I.2.2.2.1.1
  have tp : h.top = h.cnt + 1 := rfl
  have tn : h.top ≠ 0 := by omega
  by_cases n8 : nh < 8
  · obtain ⟨h2, r2, x2, c2, s2, H, S⟩ := C_rdNew I
    obtain ⟨h3, q, r3, eq, x3, c3, s3, f3, g3⟩ := D_readHead I.2.1.1 (r := h.top) (by omega) (by omega) H S
    have x3' : Fb h.cnt (fun _ _ => False) h h3 := by
      have y := (x2.fb (W := fun b _ => (h.cnt : Int) < b) (Int.le_refl _) fun _ _ _ w => w.elim).tr ⟨fun b k q w => x3.1 b k (by omega) fun v => w (show (h.cnt : Int) < b by have := v.1; omega), fun b q => x3.2.1 b (by omega), x3.2.2.1, x3.2.2.2⟩
      exact ⟨fun b k q _ => y.1 b k q (show ¬ (h.cnt : Int) < b by omega), y.2⟩
    have M3 : mtp h3 T n := I.mtp.fb x3' fun _ _ w => w.elim
    by_cases qq : hdw T = -1
    · obtain ⟨V, CL, CD0, q8⟩ := g3 qq
      have qn : q ≠ 0 := by omega
      have lo3 : ∀ b k : Int, b ≤ h.cnt → h3.M b k = h.M b k := fun b k hb => x3'.1 b k hb fun w => w
      have ig := I.2.2.2.2.2.2.2.2.2.2
      have e118 : h3.M 1 18 = h.M 1 18 := lo3 1 18 (by omega)
      have g1 := ig.1
      have gg : h3.M 1 18 = 0 ∨ (hph h3 (h3.M 1 18) ∧ h3.M 1 18 + 2 ≤ h3.cnt) := by
        rw [e118]
        rcases g1 with g1 | ⟨g1, g5⟩
        · exact Or.inl g1
        · exact Or.inr ⟨g1.cg (fun b k b0 b1 => lo3 b k (by omega)) (fun b b0 b1 => x3'.2.1 b (by omega)), by omega⟩
      obtain ⟨h4, hp, r4, G4, p4, pc4, x4, k4⟩ := C_heap (q := q) (vR 5 h.top) gg (by omega)
      have hpw : (h.M 1 18 ≠ 0 ∧ hp = h.M 1 18 ∧ hp + 2 ≤ h.cnt) ∨ (h.M 1 18 = 0 ∧ hp = (h3.cnt : Int) + 1) := by
        rcases k4 with ⟨a, b, d⟩ | ⟨a, b, _⟩
        · left
          rw [e118] at a d
          rcases g1 with g1 | ⟨_, g5⟩
          · exact absurd g1 a
          · exact ⟨a, d, by omega⟩
        · rw [e118] at a
          exact Or.inr ⟨a, b⟩
      have c4 : h3.cnt ≤ h4.cnt ∧ h4.cnt ≤ h3.cnt + 3 ∧ (h4.sl : Int) ≤ h3.sl + (if h.M 1 18 = 0 then 20005 else 0) := by
        rcases k4 with ⟨a, b, d⟩ | ⟨a, b, d, s⟩
        · rw [b]; split <;> omega
        · rw [e118] at a
          rw [if_pos a]
          omega
      have lo4 : ∀ b k : Int, b ≤ h3.cnt → ¬ (b = 1 ∧ k = 18) → h4.M b k = h3.M b k := fun b k hb w => x4.1 b k hb w
      have CL4 : chl h4 q := CL.cg (fun b k w => lo4 b k (by unfold plc at w; omega) (by unfold plc at w; omega)) (fun b b0 b1 => x4.2.1 b (by omega))
      have CD4 : chd h4 q (hdP T).1 := CD0.cg fun b k w => lo4 b k (by omega) (by omega)
      obtain ⟨h5, LY, NY, EY, LM, NM, EM, r5, x5, c5, s5, G5, CL5, CD5, q9, q10, WY, WM, RY, RM⟩ := D_findRows V CL4 CD4 G4 (by omega) pc4 (by omega)
      have q85 : h5.M q 8 = 1 := by
        rw [x5.1 q 8 (by omega) (by unfold WF0; omega), lo4 q 8 (by omega) (by omega)]
        exact q8
      have lo5 : ∀ b k : Int, b ≤ h.cnt → ¬ (b = 1 ∧ k = 18) → ¬ (h.M 1 18 ≠ 0 ∧ WF0 (h.M 1 18) b k) → h5.M b k = h.M b k := fun b k hb w1 w2 => by
        rw [x5.1 b k (by omega) ?_, lo4 b k (by omega) w1, lo3 b k hb]
        rintro (w | w)
        · omega
        · rcases hpw with ⟨a, b', d⟩ | ⟨a, b'⟩
          · rw [b'] at w; exact w2 ⟨a, w⟩
          · unfold WF0 at w; omega
      have l56 : ∀ b k : Int, b ≤ 56 → ¬ (b = 1 ∧ k = 18) → h5.M b k = h.M b k := fun b k hb w => lo5 b k (by omega) w fun z => by
        have z2 := z.2
        have z1 := z.1
        unfold WF0 at z2
        rcases g1 with g1 | ⟨g1, _⟩
        · exact z1 g1
        · have := g1.1; omega
      have N5 : ∀ b : Int, b ≤ h.cnt → h5.N b = h.N b := fun b hb => (x5.2.1 b (by omega)).trans ((x4.2.1 b (by omega)).trans (x3'.2.1 b hb))
      have L5 : lay h5 := ⟨fun b k z => (l56 b k (by have := layA_le z; omega) fun w => by
        rw [w.1, w.2] at z
        exact z rfl).trans (L.1 b k z), fun b z => (N5 b (by have := layN_le z; omega)).trans (L.2.1 b z), by omega⟩
      have p5 : h5.M 1 18 = hp := (x5.1 1 18 (by omega) (by unfold WF0; have := G4.1; omega)).trans p4
      have e155 : h5.M 1 5 = nh := (l56 1 5 (by decide) (by decide)).trans e15
      have a : Cl kX_text [vO 10 1, vI 1] h = some (some (vI nh), ((h5.set 4 nh q).set 1 5 (nh + 1)).set 1 1 0) := by
        rw [E_X_text, if_neg (by decide), if_pos rfl, E_X_takeHead, e15, if_pos n8, E_X_takeHead_2, Z_hl, r2, Z_bV, E_X_takeHead_3, r3, Z_bR, E_X_takeHead_4, gd_t tn, D_isRight, f3, bz_t qq, Z_bI, E_X_takeHead_5, if_neg n10]
        have tail : ∀ u1, Rn kX_takeHead 10 [vO 10 1, u1, vR 2 q] [] h4 = some (some (vI nh), ((h5.set 4 nh q).set 1 5 (nh + 1)).set 1 1 0) := fun u1 => by
          rw [E_X_takeHead_10, gd_t qn, p4, r5, Z_bV, E_X_takeHead_11, e155, lx4 L5, ln4 L5, gd_t (by omega), gd_t qn, Z_hl, show (h5.set 4 nh q).M 1 5 = nh from e155, Z_wI (z := nh + 1) (by omega), Z_hl, E_X_takeHead_12, Z_hl, E_X_takeHead_13, show (((h5.set 4 nh q).set 1 5 (nh + 1)).set 1 1 0).M 1 5 = nh + 1 from rfl, Z_wI (by omega), show nh + 1 - 1 = nh by omega]
        have e7 : Rn kX_takeHead 7 [vO 10 1, vR 5 h.top, vR 2 q] [] h3 = some (some (vI nh), ((h5.set 4 nh q).set 1 5 (nh + 1)).set 1 1 0) := r4.trans (tail _)
        rw [e7, Z_bI]
      have xa : Ew (Wt1 nc nh) h5 (((h5.set 4 nh q).set 1 5 (nh + 1)).set 1 1 0) := ((Ew.st (W := Wt1 nc nh) h5 _ (Or.inr (Or.inr (Or.inr (Or.inl ⟨rfl, rfl⟩))))).tr (Ew.st _ _ (Or.inr (Or.inl ⟨rfl, by decide⟩)))).tr (Ew.st _ _ (Or.inr (Or.inl ⟨rfl, by decide⟩)))
      have v4 : (((h5.set 4 nh q).set 1 5 (nh + 1)).set 1 1 0).M 4 nh = q := (Z_Mn (by omega)).trans ((Z_Mn (by omega)).trans (Z_Mt ..))
      have v15 : (((h5.set 4 nh q).set 1 5 (nh + 1)).set 1 1 0).M 1 5 = nh + 1 := rfl
      have v11 : (((h5.set 4 nh q).set 1 5 (nh + 1)).set 1 1 0).M 1 1 = 0 := rfl
      have v18 : (((h5.set 4 nh q).set 1 5 (nh + 1)).set 1 1 0).M 1 18 = hp := p5
      have v928 : (((h5.set 4 nh q).set 1 5 (nh + 1)).set 1 1 0).M 9 28 = nh := (l56 9 28 (by decide) (by decide)).trans e928
      have v92 : (((h5.set 4 nh q).set 1 5 (nh + 1)).set 1 1 0).M 9 2 = h.M 9 2 := l56 9 2 (by decide) (by decide)
      have v10 : ∀ i, (((h5.set 4 nh q).set 1 5 (nh + 1)).set 1 1 0).M 10 i = h.M 10 i := fun i => l56 10 i (by decide) (by omega)
      have v36 : ∀ i, (((h5.set 4 nh q).set 1 5 (nh + 1)).set 1 1 0).M 36 i = h.M 36 i := fun i => l56 36 i (by decide) (by omega)
      generalize ((h5.set 4 nh q).set 1 5 (nh + 1)).set 1 1 0 = H6 at a xa v4 v15 v11 v18 v928 v92 v10 v36
      have M6 : mtp H6 T n := ⟨L5.ew xa fun b k w => wt1_lay w, v92.trans I.mtp.2.1, fun i i0 i1 => (v10 i).trans (I.mtp.2.2 i i0 i1)⟩
      obtain ⟨h7, r7, x7, g7⟩ := R_readHead I.2.1.1 (a := nh) nb.1 (by omega) M6
      have MH7 := (g7 qq).2
      have x7' : Ew (Wt1 nc nh) H6 h7 := x7.mono fun b k w => Or.inl (whd_scr (Int.le_refl nh) w)
      have w928 : h7.M 9 28 = nh := (x7.2 9 28 (by unfold WHdp hreg; omega)).trans v928
      have La : lay (h7.set 9 2 0) := (M6.1.ew x7' fun b k w => wt1_lay w).st 0 rfl
      have Lb : lay ((h7.set 9 2 0).set 32 nh 1) := La.st 1 (layA_n nh (by decide) (by decide))
      have MH8 : mhp ((h7.set 9 2 0).set 32 nh 1) nh (hdP T).1 := MH7.cg V fun b k w => by
        unfold hreg at w
        exact (Z_Mn (by omega)).trans (Z_Mn (by omega))
      have wz8 : wz ((h7.set 9 2 0).set 32 nh 1) := fun u u0 u1 => ((Z_Mn (by omega)).trans (Z_Mn (by omega))).trans ((x7.2 36 u (by unfold WHdp hreg; omega)).trans ((v36 u).trans (ig.2.2.2 u u0 u1)))
      obtain ⟨h9, r9, x9, wz9, y9, m9⟩ := R_spread nb.1 (by omega) V (hdP_0 I.2.1.1 qq) Lb MH8 wz8 RY RM
      have w928b : h9.M 9 28 = nh := (x9.2 9 28 (by unfold WSp WFl WMo; omega)).trans w928
      have b : Cl kM_text [vO 11 9, vI 1] H6 = some (some (vI nh), h9.set 9 28 (nh + 1)) := by
        rw [E_M_text, if_neg (by decide), if_neg (by decide), if_pos rfl, v928, if_neg (by omega), r7, Z_bI, if_pos qq, Z_hl, show (h7.set 9 2 0).M 9 28 = nh from w928, lm27 La, ln32 La, gd_t (by omega), Z_hl, show ((h7.set 9 2 0).set 32 nh 1).M 9 28 = nh from w928, r9, Z_bV, w928b, Z_wI (z := nh + 1) (by omega), Z_hl, show (h9.set 9 28 (nh + 1)).M 9 28 = nh + 1 from rfl, Z_wI (by omega), show nh + 1 - 1 = nh by omega]
      have xb : Ew (Wt1 nc nh) H6 (h9.set 9 28 (nh + 1)) := (((x7'.tr (Ew.st _ _ (Or.inr (Or.inr (Or.inl ⟨rfl, by decide⟩))))).tr (Ew.st _ _ (Or.inr (Or.inr (Or.inr (Or.inr (Or.inl ⟨rfl, rfl⟩))))))).tr (x9.mono fun b k w => wsp_t1 w)).tr (Ew.st _ _ (Or.inr (Or.inr (Or.inl ⟨rfl, by decide⟩))))
      have w92 : (h9.set 9 28 (nh + 1)).M 9 2 = 0 := (x9.2 9 2 (by unfold WSp WFl WMo; omega)).trans rfl
      have w28 : (h9.set 9 28 (nh + 1)).M 9 28 = nh + 1 := rfl
      have w32 : (h9.set 9 28 (nh + 1)).M 32 nh = 1 := (Z_Mn (by omega)).trans ((x9.2 32 nh (by unfold WSp WFl WMo; omega)).trans (Z_Mt ..))
      have w36 : wz (h9.set 9 28 (nh + 1)) := fun u u0 u1 => (Z_Mn (by omega)).trans (wz9 u u0 u1)
      have w6 : ∀ b k : Int, b = 1 ∨ b = 4 ∨ 56 < b → (h9.set 9 28 (nh + 1)).M b k = H6.M b k := fun b k hb => (Z_Mn (by omega)).trans ((x9.2 b k (by unfold WSp WFl WMo; omega)).trans ((Z_Mn (by omega)).trans ((Z_Mn (by omega)).trans (x7.2 b k (by unfold WHdp hreg; omega)))))
      have MH : mhp (h9.set 9 28 (nh + 1)) nh (hdP T).1 := MH8.cg V fun b k w => by
        unfold hreg at w
        exact (Z_Mn (by omega)).trans (x9.2 b k (by unfold WSp WFl WMo; omega))
      have yy : ∀ u, 1 ≤ u → u ≤ 9999 → (h9.set 9 28 (nh + 1)).M 33 (10001 * nh + u) = gL (LY u) := fun u u0 u1 => (Z_Mn (by omega)).trans (y9 u u0 u1)
      have mm : ∀ m, 1 ≤ m → m ≤ 12 → (h9.set 9 28 (nh + 1)).M 34 (13 * nh + m) = gL (LM m) := fun m m0 m1 => (Z_Mn (by omega)).trans (m9 m m0 m1)
      generalize h9.set 9 28 (nh + 1) = H7 at b xb w92 w28 w32 w36 w6 MH yy mm
      have u4 : H7.M 4 nh = q := (w6 4 nh (by omega)).trans v4
      have u15 : H7.M 1 5 = nh + 1 := (w6 1 5 (by omega)).trans v15
      have u11 : H7.M 1 1 = 0 := (w6 1 1 (by omega)).trans v11
      have u18 : H7.M 1 18 = hp := (w6 1 18 (by omega)).trans v18
      have xab := xa.tr xb
      have cH : H7.cnt = h5.cnt := xab.cnt
      have NH : H7.N = h5.N := xab.N
      have hi : ∀ b k : Int, 56 < b → H7.M b k = h5.M b k := fun b k hb => xab.2 b k fun w => by have := wt1_b w; omega
      have lo : ∀ b k : Int, b ≤ h.cnt → ¬ Wt1 nc nh b k → ¬ (h.M 1 18 ≠ 0 ∧ WF0 (h.M 1 18) b k) → H7.M b k = h.M b k := fun b k hb w1 w2 => (xab.2 b k w1).trans (lo5 b k hb (fun z => w1 (Or.inr (Or.inl ⟨z.1, Or.inr (Or.inr z.2)⟩))) w2)
      have lo56 : ∀ b k : Int, b ≤ 56 → ¬ Wt1 nc nh b k → H7.M b k = h.M b k := fun b k hb w1 => (xab.2 b k w1).trans (l56 b k hb fun z => w1 (Or.inr (Or.inl ⟨z.1, Or.inr (Or.inr z.2)⟩)))
      have hp0 : 56 < hp := G4.1
      have u19 : H7.M 1 19 = h.M 1 19 := lo56 1 19 (by decide) fun w => by have := wt1_b w; omega
      have u13 : H7.M 1 3 = h.M 1 3 := lo56 1 3 (by decide) fun w => by have := wt1_b w; omega
      have e4 : ∀ i, i ≠ nh → H7.M 4 i = h.M 4 i := fun i hi => lo56 4 i (by decide) fun w => by have := wt1_b w; omega
      have K : Kz h H7 := by
        refine ⟨fun b k F => ⟨lo b k F.2.1 (fun w => by have := wt1_b w; have := F.1; omega) fun z => ?_, ?_⟩, fun b hb => by rw [NH]; exact N5 b hb, by omega⟩
        · have z2 := z.2
          unfold WF0 at z2
          exact F.2.2.1 ⟨z.1, by omega, by omega⟩
        · obtain ⟨f1, f2, f3, f4, f5⟩ := F
          unfold Fz
          rw [u18, u19, u15]
          refine ⟨f1, by omega, fun z => ?_, f4, fun ⟨k8, i, i0, i1, i2⟩ => ?_⟩
          · rcases hpw with ⟨a1, a2, a3⟩ | ⟨a1, a2⟩
            · exact f3 ⟨a1, by omega, by omega⟩
            · omega
          · by_cases z : i = nh
            · rw [z, u4] at i2
              omega
            · rw [e4 i z] at i2
              exact f5 ⟨k8, i, i0, by omega, i2⟩
      have wq : ∀ b k, Wt1 nc nh b k → Qok nc b k := fun b k w => by have := wt1_b w; unfold Qok; omega
      obtain ⟨ia, ip, ie, ik, ib, iw⟩ := I.pt K fun b k hb w => lo56 b k hb fun z => w (wq b k z)
      obtain ⟨_, it, ic, ih, _, _, _, _, _, _, _⟩ := I
      obtain ⟨_, g2, _, _⟩ := ig
      have q9' : H7.M q 9 = (h4.cnt : Int) + 1 := (hi q 9 (by omega)).trans q9
      have q10' : H7.M q 10 = (h4.cnt : Int) + 5 := (hi q 10 (by omega)).trans q10
      have old : ∀ i, 0 ≤ i → i < nh → 56 < h.M 4 i ∧ h.M 4 i ≤ h.cnt ∧ ¬ (h.M 1 18 ≠ 0 ∧ WF0 (h.M 1 18) (h.M 4 i) 8) := fun i i0 i1 => by
        have F := (ih.2.2.2.2.1 i i0 i1).2.2.2.2.1 (h.M 4 i) 0 (Or.inl ⟨by omega, by omega⟩) (by omega)
        refine ⟨F.1, F.2.1, fun z => ?_⟩
        have z2 := z.2
        unfold WF0 at z2
        exact F.2.2.1 ⟨z.1, by omega, by omega⟩
      let X : HX := ((hdP T).1, LY, NY, EY, LM, NM, EM)
      let Xs' : Int → HX := fun i => if i = nh then X else Xs i
      have En : Xs' nh = X := if_pos rfl
      have Eo : ∀ i, i ≠ nh → Xs' i = Xs i := fun i z => if_neg z
      have HN : hik H7 nh q X := by
        refine ⟨⟨V, RY, RM⟩, ⟨MH, yy, mm⟩, ⟨CL5.cg (fun b k w => hi b k (by unfold plc at w; omega)) (fun b _ _ => by rw [NH]), CD5.cg fun b k w => hi b k (by omega), ?_, ?_⟩, by rw [q9', q10']; omega, fun b k z w => ?_, by rw [w32, hi q 8 (by omega)]; exact q85, by rw [w32]; decide, by rw [w32]; decide⟩
        · rw [q9']
          exact WY.cg (fun b k b0 b1 => hi b k (by omega)) (fun b _ _ => by rw [NH])
        · rw [q10']
          exact WM.cg (fun b k b0 b1 => hi b k (by omega)) (fun b _ _ => by rw [NH])
        · unfold hrg at z
          rw [q9', q10'] at z
          unfold Fz
          rw [u18, u19, u15]
          refine ⟨by omega, by omega, fun y => ?_, fun y => ?_, fun ⟨k8, i, i0, i1, i2⟩ => ?_⟩
          · rcases hpw with ⟨a1, a2, a3⟩ | ⟨a1, a2⟩
            · omega
            · omega
          · rcases g2 with g2 | ⟨_, g5, _⟩
            · exact y.1 g2
            · omega
          · by_cases zz : i = nh
            · rw [zz, u4] at i2
              exact w ⟨i2.symm, k8⟩
            · rw [e4 i zz] at i2
              have := old i i0 (by omega)
              omega
      have L7 : lay H7 := M6.1.ew xb fun b k w => wt1_lay w
      refine ⟨nh, H6, H7, a, b, ⟨fun _ => -1, 0, nc, Ds, nh + 1, Xs', L7, ⟨⟨Int.le_refl _, by decide, fun _ _ => rfl, fun i i0 i1 => by omega⟩, w92, u11, fun i i0 i1 => by omega⟩, ic.cg K fun b k z => lo56 b k ?_ fun w => ?_, ⟨w28, u15, by omega, by omega, fun i i0 i1 => ?_, fun i j i0 ij j1 => ?_⟩, ia, ip, ie, ik, ib, iw, ⟨Or.inr ?_, ?_, ?_, w36⟩⟩, ⟨?_, ?_, ?_⟩, xa.X.trans (x5.2.2.2.trans (x4.2.2.2.trans x3'.2.2.2))⟩
      · rcases z with z | z | z | ⟨_, _, _, z⟩
        · omega
        · omega
        · omega
        · have := mreg_b z; omega
      · rcases z with z | z | z | ⟨_, _, z1, z⟩
        · have := wt1_b w; omega
        · have := wt1_b w; omega
        · have := wt1_b w; omega
        · have zb := mreg_b z
          rcases w with w | w
          · exact scr_c z z1 w
          · omega
      · by_cases z : i = nh
        · rw [z, u4, En]
          exact HN
        · have i1' : i < nh := by omega
          have o := old i i0 i1'
          have HH := ih.2.2.2.2.1 i i0 i1'
          have e32 : H7.M 32 i = h.M 32 i := lo56 32 i (by decide) fun w => by have := wt1_b w; omega
          have e8 : H7.M (h.M 4 i) 8 = h.M (h.M 4 i) 8 := lo _ 8 o.2.1 (fun w => by have := wt1_b w; omega) o.2.2
          rw [e4 i z, Eo i z]
          refine HH.cg K (fun b k zz => lo56 b k (by have := mhr_b zz; omega) fun w => ?_) (by rw [e8, e32]; exact HH.2.2.2.2.2.1) (by rw [e32]; exact HH.2.2.2.2.2.2)
          have zb := mhr_b zz
          rcases w with w | w
          · exact scr_h zz i1' w
          · omega
      · by_cases z : j = nh
        · rw [z, u4, e4 i (by omega)]
          have := old i i0 (by omega)
          omega
        · rw [e4 i (by omega), e4 j z]
          exact ih.2.2.2.2.2 i j i0 ij (by omega)
      · rw [u18]
        exact ⟨G5.cg (fun b k b0 b1 => hi b k (by omega)) (fun b _ _ => by rw [NH]), by omega⟩
      · rw [u18, u19]
        rcases g2 with g2 | ⟨g2, g5, g6, g7⟩
        · exact Or.inl g2
        · have hh : hp = h.M 1 18 := by
            rcases hpw with ⟨a1, a2, a3⟩ | ⟨a1, a2⟩
            · exact a2
            · exact absurd a1 g6
          have t0 := g2.2.2.1
          refine Or.inr ⟨g2.cg (fun k => lo _ k (by omega) (fun w => by have := wt1_b w; omega) fun z => ?_) (fun b b0 b1 => by rw [NH]; exact N5 b (by omega)), by omega, by omega, by omega⟩
          have z2 := z.2
          unfold WF0 at z2
          omega
      · intro z
        rw [u18] at z
        omega
      · omega
      · unfold pot
        rw [u13, u15, u18, u19, e15, xab.sl, if_neg (show ¬ hp = 0 by omega)]
        by_cases z : h.M 1 18 = 0
        · rw [if_pos z]
          rw [if_pos z] at c4
          omega
        · rw [if_neg z]
          rw [if_neg z] at c4
          omega
      · exact xab.X.trans (x5.2.2.2.trans (x4.2.2.2.trans x3'.2.2.2))
    · have a : Cl kX_text [vO 10 1, vI 1] h = some (some (vI (-1)), h3) := by
        rw [E_X_text, if_neg (by decide), if_pos rfl, E_X_takeHead, e15, if_pos n8, E_X_takeHead_2, Z_hl, r2, Z_bV, E_X_takeHead_3, r3, Z_bR, E_X_takeHead_4, gd_t tn, D_isRight, f3, bz_f qq, Z_bI, E_X_takeHead_5, if_pos rfl, E_X_takeHead_6, Z_bI]
      obtain ⟨h4, r4, x4, _⟩ := R_readHead I.2.1.1 (a := nh) nb.1 (by omega) M3
      have b : Cl kM_text [vO 11 9, vI 1] h3 = some (some (vI (-1)), h4) := by
        rw [E_M_text, if_neg (by decide), if_neg (by decide), if_pos rfl, show h3.M 9 28 = nh from (x3'.1 9 28 (by omega) fun w => w).trans e928, if_neg (by omega), r4, Z_bI, if_neg qq]
      exact okw2 I a b ((Fb.tr ⟨fun b k q _ => x3'.1 b k q fun w => w, x3'.2⟩ (x4.fb fun b k _ w => whd_scr (Int.le_refl nh) w))) (by rw [x4.cnt]; omega) (by rw [x4.sl]; omega) x3'.2.2.2
  · exact okw2 I (v := -1) (h1 := h) (h2 := h) (by rw [E_X_text, if_neg (by decide), if_pos rfl, E_X_takeHead, e15, if_neg n8, E_X_takeHead_1, Z_bI]) (by rw [E_M_text, if_neg (by decide), if_neg (by decide), if_pos rfl, e928, if_pos (by omega)]) (Fb.rf _ _ _) (by omega) (by omega) rfl
theorem ok_text {k : Int} : okc kX_text kM_text [vI k] := fun h ⟨T, n, nc, Ds, nh, Xs, I⟩ => by
  show dne kX_text kM_text [vI k] h
  by_cases k0 : k = 0
  · rw [k0]; exact ok_text0 I
  by_cases k1 : k = 1
  · rw [k1]; exact ok_text1 I
  by_cases k2 : k = 2
  · rw [k2]; exact ok_text2 I
  exact okw2 I (v := -1) (h1 := h) (h2 := h) (by rw [E_X_text, if_neg k0, if_neg k1, if_neg k2]) (by rw [E_M_text, if_neg k0, if_neg k2, if_neg k1]) (Fb.rf _ _ _) (by omega) (by omega) rfl
