/-! THE PURE PART, a head's text, read by the reference: pairs of months, months, extras; the whole of it -/
theorem R_itM {T : Int → Int} {N : Int} (hT : tpo T N) {a : Int} (a0 : 0 ≤ a) (a1 : a < 9) {h : mH} (Hm : mtp h T N) {H : HD} (V : hdv H) (P : mhp h a H) (G : mgv h H) (hk : H 6 0 < 12) {q : Int} (q0 : 0 ≤ q) (q1 : q < N) (u : mV) : ∃ h1, Rn kM_item 8 [vO 11 9, vI a, vI 109, u] [] (pst h q (-1)) = some (none, pss h1 (itM T H (q + 1, -1)).2) ∧ Ew (WHd a) h h1 ∧ mhp h1 a (itM T H (q + 1, -1)).1 ∧ mgv h1 (itM T H (q + 1, -1)).1 := by
  have L := Hm.1
  have n160 := hT.2.1
  obtain ⟨s, hs⟩ : ∃ s : Int × Int, s = (q + 1, -1) := ⟨_, rfl⟩
  have g : gs N s := by rw [hs]; exact gs_1 (by omega) (by omega)
  obtain ⟨k, hk'⟩ : ∃ k, k = H 6 0 := ⟨_, rfl⟩
  have V1 := V.2.2.1
  have P1 := P.2.2.1
  rw [← hk'] at hk V1 P1
  obtain ⟨g1, g2, g3, g4, o4⟩ := itM3_ok hT g
  obtain ⟨x, hx⟩ : ∃ x, x = (itM1 T s).1 := ⟨_, rfl⟩
  obtain ⟨y, hy⟩ : ∃ y, y = (itM2 T s).1 := ⟨_, rfl⟩
  obtain ⟨z, hz⟩ : ∃ z, z = (itM4 T s).1 := ⟨_, rfl⟩
  have e1 : Cl kM_plain [vO 11 9, vI 1, vI 12] (pst h (q + 1) (-1)) = some (some (vI x), pss h (itM1 T s).2) := by
    rw [hs] at g hx ⊢
    rw [hx]
    exact R_plain hT Hm g 12 (by omega)
  have Hm2 := Hm.set (12 * a + k) x (b := 27) (by omega)
  have L2 := Hm2.1
  have e2 := R_sign hT Hm2 g1 61
  have e3 : Cl kM_number [vO 11 9, vI 1, vI 12] (pss (h.set 27 (12 * a + k) x) (sgn T 61 (itM1 T s).2)) = some (some (vI y), pss (h.set 27 (12 * a + k) x) (itM2 T s).2) := by
    rw [hy]
    exact R_num hT Hm2 g2 1 12
  have Hm3 := Hm2.set (12 * a + k) y (b := 28) (by omega)
  have L3 := Hm3.1
  obtain ⟨h3, hh3⟩ : ∃ u, u = (h.set 27 (12 * a + k) x).set 28 (12 * a + k) y := ⟨_, rfl⟩
  rw [← hh3] at Hm3 L3
  have p27 : h3.M 27 (12 * a + k) = x := by rw [hh3, Z_Mn (by omega), Z_Mt]
  have p28 : h3.M 28 (12 * a + k) = y := by rw [hh3, Z_Mt]
  have p26 : h3.M 26 a = k := by rw [hh3, Z_Mn (by omega), Z_Mn (by omega)]; exact P1
  have b2 : gs N (itM2 T s).2 ∧ 0 ≤ (itM2 T s).1 ∧ (itM2 T s).1 ≤ 9999 ∧ ((itM2 T s).2.2 = -1 → (sgn T 61 (itM1 T s).2).2 = -1 ∧ 1 ≤ (itM2 T s).1 ∧ (itM2 T s).1 ≤ 12 ∧ ¬ (48 ≤ T (itM2 T s).2.1 ∧ T (itM2 T s).2.1 ≤ 57)) := nmS_b hT g2 (lo := 1) 12 (by omega)
  have pp2 : (itM2 T s).2.2 = -1 → 0 < (itM2 T s).2.1 := nmS_pos hT g2 (lo := 1) 12 (by omega)
  -- from the colon on
  have e5 : Cl kM_closeNumber [vO 11 9] (pss h3 (itM3 T s)) = some (none, pss h3 (itM3 T s)) := R_close hT Hm3 g4 fun w => by
    have w2 := (o4 w).2
    rw [w2]
    rw [w2] at w
    exact (b2.2.2.2 w).2.2.2
  have e6 := R_sign hT Hm3 g4 58
  have g5 := sgn_g hT g4 (c := 58) (by decide)
  have e7 : Cl kM_plain [vO 11 9, vI 0, vI 99] (pss h3 (sgn T 58 (itM3 T s))) = some (some (vI z), pss h3 (itM4 T s).2) := by
    rw [hz]
    exact R_plain hT Hm3 g5 99 (by omega)
  have Hm4 := Hm3.set (12 * a + k) z (b := 29) (by omega)
  have L4 := Hm4.1
  have p26' : (h3.set 29 (12 * a + k) z).M 26 a = k := (Z_Mn (by omega)).trans p26
  have f : ∀ b j, b ≠ 6 → b ≠ 7 → b ≠ 8 → b ≠ 9 → (itM T H s).1 b j = H b j := fun b j n0 n1 n2 n3 => by
    show up2 (up2 (up2 (up2 H 7 (H 6 0) (itM1 T s).1) 8 (H 6 0) (itM2 T s).1) 9 (H 6 0) (itM4 T s).1) 6 0 (H 6 0 + 1) b j = H b j
    rw [up2_n _ (Or.inl n0), up2_n _ (Or.inl n3), up2_n _ (Or.inl n2), up2_n _ (Or.inl n1)]
  -- the tail, from an unbroken or broken state
  have tail : (bV (Cl kM_closeNumber [vO 11 9] (pss h3 (itM3 T s))) fun h6 => bV (Cl kM_sign [vO 11 9, vI 58] h6) fun h7 => bI (Cl kM_plain [vO 11 9, vI 0, vI 99] h7) fun z8 h8 => gd ((0 : Int) ≤ 12 * a + k ∧ 12 * a + k < h8.N (h7.M 9 24) ∧ (h7.M 9 24) ≠ 0) <| hl (h8.set (h7.M 9 24) (12 * a + k) z8) fun h9 => gd ((0 : Int) ≤ a ∧ a < h9.N (h9.M 9 21) ∧ (h9.M 9 21) ≠ 0) <| gd ((0 : Int) ≤ a ∧ a < h9.N (h9.M 9 21) ∧ (h9.M 9 21) ≠ 0) <| hl (h9.set (h9.M 9 21) a (wI ((h9.M (h9.M 9 21) a) + 1))) fun h10 => some (none, h10)) = some (none, pss ((h3.set 29 (12 * a + k) z).set 26 a (k + 1)) (itM4 T s).2) := by
    rw [e5, Z_bV, e6, Z_bV, e7, Z_bI, lm24 (pss_lay L3 _), pss_N, ln29 L3, gd_t (by omega), pss_set _ _ _ _ (by omega), Z_hl, lm21 (pss_lay L4 _), pss_N, ln26 L4, gd_t (by omega), gd_t (by omega), pss_n (b := 26) _ _ (by omega), p26', Z_wI (by omega), pss_set _ _ _ _ (by omega), Z_hl]
  refine ⟨(h3.set 29 (12 * a + k) z).set 26 a (k + 1), ?_, ?_, ?_, ?_⟩
  · rw [← hs, E_M_item_8, if_neg (by decide), if_pos rfl, lm21 (pst_lay L _ _), pst_N, ln26 L, gd_t (by omega), pst_n (b := 26) _ _ _ (by omega), P1, if_pos hk, pst_3, pst_s3, Z_wI (z := q + 1) (by omega), Z_hl, E_M_readLike, lm21 (pst_lay L _ _), pst_N, ln26 L, gd_t (by omega), e1, Z_bI, pst_n (b := 26) _ _ _ (by omega), P1, Z_wI (z := 12 * a) (by omega), Z_wI (z := 12 * a + k) (by omega), lm22 (pst_lay L _ _), pss_N, ln27 L, gd_t (by omega), pss_set _ _ _ _ (by omega), Z_hl, e2, Z_bV, e3, Z_bI, lm23 (pss_lay L2 _), pss_N, ln28 L2, gd_t (by omega), pss_set _ _ _ _ (by omega), Z_hl, ← hh3, pss_4]
    have em : itM3 T s = if (itM2 T s).1 = (itM1 T s).1 then wlS (itM2 T s).2 else (itM2 T s).2 := rfl
    rw [← hx, ← hy] at em
    by_cases w : (itM2 T s).2.2 = -1
    · rw [if_pos w, lm23 (pss_lay L3 _), pss_N, ln28 L3, gd_t (by omega), lm22 (pss_lay L3 _), ln27 L3, gd_t (by omega), pss_n (b := 28) _ _ (by omega), pss_n (b := 27) _ _ (by omega), p27, p28]
      by_cases w2 : y = x
      · have e8 : Cl kM_wrongAtLast [vO 11 9] (pss h3 (itM2 T s).2) = some (none, pss h3 (itM3 T s)) := by
          have := R_wal h3 (itM2 T s).2.1 (itM2 T s).2.2
          have b3 := b2.1 w
          rw [if_pos w, Z_wI (by omega)] at this
          rw [em, if_pos w2]
          unfold wlS
          rw [if_pos w]
          exact this
        rw [if_pos w2, e8, Z_bV, tail, Z_bV]
        rfl
      · rw [if_neg w2]
        rw [if_neg w2] at em
        rw [← em, tail, Z_bV]
        rfl
    · have em2 : itM3 T s = (itM2 T s).2 := by
        rw [em]
        by_cases w2 : y = x
        · rw [if_pos w2]; exact if_neg w
        · rw [if_neg w2]
      rw [if_neg w, ← em2, tail, Z_bV]
      rfl
  · rw [hh3]
    exact (((Ew.st (W := WHd a) h _ (by unfold WHd hreg; omega)).tr (Ew.st _ _ (by unfold WHd hreg; omega))).tr (Ew.st _ _ (by unfold WHd hreg; omega))).tr (Ew.st _ _ (by unfold WHd hreg; omega))
  · obtain ⟨r1, r2, r3, r4, r5, r6, r7, r8⟩ := P
    rw [← hs]
    have f0 : (itM T H s).1 6 0 = k + 1 := by
      show up2 (up2 (up2 (up2 H 7 (H 6 0) (itM1 T s).1) 8 (H 6 0) (itM2 T s).1) 9 (H 6 0) (itM4 T s).1) 6 0 (H 6 0 + 1) 6 0 = k + 1
      rw [up2_s, ← hk']
    have f1 : ∀ j, (itM T H s).1 7 j = if j = k then x else H 7 j := fun j => by
      show up2 (up2 (up2 (up2 H 7 (H 6 0) (itM1 T s).1) 8 (H 6 0) (itM2 T s).1) 9 (H 6 0) (itM4 T s).1) 6 0 (H 6 0 + 1) 7 j = _
      rw [up2_n _ (by omega), up2_n _ (by omega), up2_n _ (by omega), up2_e, ← hk', ← hx]
      by_cases w : j = k
      · rw [if_pos ⟨rfl, w⟩, if_pos w]
      · rw [if_neg fun y => w y.2, if_neg w]
    have f2 : ∀ j, (itM T H s).1 8 j = if j = k then y else H 8 j := fun j => by
      show up2 (up2 (up2 (up2 H 7 (H 6 0) (itM1 T s).1) 8 (H 6 0) (itM2 T s).1) 9 (H 6 0) (itM4 T s).1) 6 0 (H 6 0 + 1) 8 j = _
      rw [up2_n _ (by omega), up2_n _ (by omega), up2_e, ← hk', ← hy]
      by_cases w : j = k
      · rw [if_pos ⟨rfl, w⟩, if_pos w]
      · rw [if_neg fun y => w y.2, if_neg w, up2_n _ (by omega)]
    have f3 : ∀ j, (itM T H s).1 9 j = if j = k then z else H 9 j := fun j => by
      show up2 (up2 (up2 (up2 H 7 (H 6 0) (itM1 T s).1) 8 (H 6 0) (itM2 T s).1) 9 (H 6 0) (itM4 T s).1) 6 0 (H 6 0 + 1) 9 j = _
      rw [up2_n _ (by omega), up2_e, ← hk', ← hz]
      by_cases w : j = k
      · rw [if_pos ⟨rfl, w⟩, if_pos w]
      · rw [if_neg fun y => w y.2, if_neg w, up2_n _ (by omega), up2_n _ (by omega)]
    have m3 : ∀ b j, b ≠ 29 → b ≠ 26 → ((h3.set 29 (12 * a + k) z).set 26 a (k + 1)).M b j = h3.M b j := fun b j n0 n1 => by rw [Z_Mn (Or.inl n1), Z_Mn (Or.inl n0)]
    have m4 : ∀ b j, b ≠ 27 → b ≠ 28 → h3.M b j = h.M b j := fun b j n0 n1 => by rw [hh3, Z_Mn (Or.inl n1), Z_Mn (Or.inl n0)]
    unfold mhp
    rw [f0, f 0 0 (by decide) (by decide) (by decide) (by decide), f 3 0 (by decide) (by decide) (by decide) (by decide)]
    refine ⟨?_, ?_, Z_Mt .., fun i i0 i1 => ?_, fun i i0 i1 => ?_, fun i i0 i1 => ?_, ?_, fun j j0 j1 => ?_⟩
    · rw [m3 _ _ (by decide) (by decide), m4 _ _ (by decide) (by decide)]; exact r1
    · rw [m3 _ _ (by decide) (by decide), m4 _ _ (by decide) (by decide)]; exact r2
    · rw [f 1 i (by decide) (by decide) (by decide) (by decide), f 2 i (by decide) (by decide) (by decide) (by decide), m3 _ _ (by decide) (by decide), m4 _ _ (by decide) (by decide), m3 _ _ (by decide) (by decide), m4 _ _ (by decide) (by decide)]
      exact r4 i i0 i1
    · rw [f 4 i (by decide) (by decide) (by decide) (by decide), f 5 i (by decide) (by decide) (by decide) (by decide), m3 _ _ (by decide) (by decide), m4 _ _ (by decide) (by decide), m3 _ _ (by decide) (by decide), m4 _ _ (by decide) (by decide)]
      exact r5 i i0 i1
    · rw [f1, f2, f3, m3 27 _ (by decide) (by decide), m3 28 _ (by decide) (by decide), Z_Mn (b := 29) (by omega), Z_Ms]
      by_cases w : i = k
      · rw [if_pos w, if_pos w, if_pos w, if_pos ⟨rfl, by omega⟩, w]; exact ⟨p27, p28, rfl⟩
      · rw [if_neg w, if_neg w, if_neg w, if_neg (by omega), hh3, Z_Mn (b := 27) (by omega), Z_Mn (b := 27) (by omega), Z_Mn (b := 28) (by omega), Z_Mn (b := 28) (by omega), Z_Mn (b := 29) (by omega), Z_Mn (b := 29) (by omega)]
        exact r6 i i0 (by omega)
    · rw [m3 _ _ (by decide) (by decide), m4 _ _ (by decide) (by decide)]
      exact ⟨r7.1, r7.2.1, fun m => by rw [f 10 _ (by decide) (by decide) (by decide) (by decide)]; exact r7.2.2 m⟩
    · rw [f 11 j (by decide) (by decide) (by decide) (by decide), m3 _ _ (by decide) (by decide), m4 _ _ (by decide) (by decide)]
      exact r8 j j0 j1
  · rw [← hs]
    unfold mgv
    rw [Z_Mn (by omega), Z_Mn (by omega), hh3, Z_Mn (by omega), Z_Mn (by omega)]
    exact ⟨G.1, G.2.1, fun j hj => by rw [f 11 _ (by decide) (by decide) (by decide) (by decide)]; exact G.2.2 j hj⟩
theorem R_itO {T : Int → Int} {N : Int} (hT : tpo T N) {a : Int} (a0 : 0 ≤ a) (a1 : a < 9) {h : mH} (Hm : mtp h T N) {H : HD} (V : hdv H) (P : mhp h a H) (G : mgv h H) {q : Int} (q0 : 0 ≤ q) (q1 : q < N) (u : mV) : ∃ h1, Rn kM_item 16 [vO 11 9, vI a, vI 111, u] [] (pst h q (-1)) = some (none, pss h1 (itO T H (q + 1, -1)).2) ∧ Ew (WHd a) h h1 ∧ ((itO T H (q + 1, -1)).2.2 = -1 → mhp h1 a (itO T H (q + 1, -1)).1 ∧ mgv h1 (itO T H (q + 1, -1)).1) := by
  have L := Hm.1
  have n160 := hT.2.1
  obtain ⟨s, hs⟩ : ∃ s : Int × Int, s = (q + 1, -1) := ⟨_, rfl⟩
  have g : gs N s := by rw [hs]; exact gs_1 (by omega) (by omega)
  obtain ⟨x, hx⟩ : ∃ x, x = (itM1 T s).1 := ⟨_, rfl⟩
  have e1 : Cl kM_number [vO 11 9, vI 1, vI 12] (pst h (q + 1) (-1)) = some (some (vI x), pss h (itM1 T s).2) := by
    rw [hs] at g hx ⊢
    rw [hx]
    exact R_num hT Hm g 1 12
  have b1 : gs N (itM1 T s).2 ∧ 0 ≤ (itM1 T s).1 ∧ (itM1 T s).1 ≤ 9999 ∧ ((itM1 T s).2.2 = -1 → s.2 = -1 ∧ 1 ≤ (itM1 T s).1 ∧ (itM1 T s).1 ≤ 12 ∧ ¬ (48 ≤ T (itM1 T s).2.1 ∧ T (itM1 T s).2.1 ≤ 57)) := nmS_b hT g (lo := 1) 12 (by omega)
  have pp1 : (itM1 T s).2.2 = -1 → 0 < (itM1 T s).2.1 := nmS_pos hT g (lo := 1) 12 (by omega)
  rw [← hx] at b1
  obtain ⟨P30a, P30b, P30c⟩ := P.2.2.2.2.2.2.1
  have eo : (itO T H s).2 = if H 10 x = 1 then wlS (itM1 T s).2 else (itM1 T s).2 := by rw [hx]; rfl
  -- broken: nothing known anew
  have brk : ∀ s' : Int × Int, s'.2 ≠ -1 → (hl ((pss h s').set 30 a (ior ((pss h s').M 30 a) 0)) fun h4 => (some (none, h4) : mR)) = some (none, pss (h.set 30 a (ior (h.M 30 a) 0)) s') := fun s' _ => by
    rw [pss_n (b := 30) _ _ (by omega), pss_set _ _ _ _ (by omega), Z_hl]
  rw [← hs, E_M_item_16, if_pos rfl, pst_3, pst_s3, Z_wI (z := q + 1) (by omega), Z_hl, e1, Z_bI, pss_4, lm25 (pss_lay L _), pss_N, ln30 L, pss_n (b := 30) _ _ (by omega)]
  by_cases w : (itM1 T s).2.2 = -1
  · obtain ⟨c1, c2, c3, c4⟩ := b1.2.2.2 w
    have xn : x = ((x.toNat : Nat) : Int) := by omega
    have bit : iand (ishr (h.M 30 a) x) 1 = h.M 30 a / ((2 ^ x.toNat : Nat) : Int) % 2 := by
      rw [xn]
      exact iand_bit P30a (by omega) (by omega)
    have pb := P30c x.toNat
    rw [← xn] at pb
    unfold bt' at pb
    rw [if_pos w, gd_t (by omega), bit]
    by_cases w2 : H 10 x = 1
    · have w3 := pb.mpr w2
      rw [if_pos w2] at eo
      have e8 : Cl kM_wrongAtLast [vO 11 9] (pss h (itM1 T s).2) = some (none, pss h (itO T H s).2) := by
        have := R_wal h (itM1 T s).2.1 (itM1 T s).2.2
        have b3 := b1.1 w
        rw [if_pos w, Z_wI (by omega)] at this
        rw [eo]
        unfold wlS
        rw [if_pos w]
        exact this
      have bad : (itO T H s).2.2 ≠ -1 := by
        rw [eo]
        exact (wlS_g b1.1 pp1).2
      have gO : gs N (itO T H s).2 := by
        rw [eo]
        exact (wlS_g b1.1 pp1).1
      have e9 := R_close hT Hm gO fun z => absurd z bad
      refine ⟨h.set 30 a (ior (h.M 30 a) 0), ?_, Ew.st _ _ (by unfold WHd hreg; omega), fun z => absurd z bad⟩
      rw [if_pos w3, e8, Z_bV, e9, Z_bV, lm25 (pss_lay L _), pss_N, ln30 L, gd_t (by omega), pss_4, if_neg bad, gd_t (by omega)]
      exact brk _ bad
    · have w3 : ¬ h.M 30 a / ((2 ^ x.toNat : Nat) : Int) % 2 = 1 := fun z => w2 (pb.mp z)
      rw [if_neg w2] at eo
      have e9 := R_close hT Hm b1.1 fun z => c4
      have ib := ior_bit (M := h.M 30 a) (k := x.toNat) (n := 13) P30a (by omega) (by omega) P30b
      rw [← xn] at ib
      refine ⟨h.set 30 a (ior (h.M 30 a) (ishl 1 x)), ?_, Ew.st _ _ (by unfold WHd hreg; omega), fun _ => ?_⟩
      · rw [if_neg w3, e9, Z_bV, lm25 (pss_lay L _), pss_N, ln30 L, gd_t (by omega), pss_4, if_pos w, gd_t (by omega), pss_n (b := 30) _ _ (by omega), pss_set _ _ _ _ (by omega), Z_hl, eo]
      · have f : ∀ b j, b ≠ 10 → (itO T H s).1 b j = H b j := fun b j n0 => by
          show up2 H 10 (itM1 T s).1 1 b j = H b j
          rw [up2_n _ (Or.inl n0)]
        obtain ⟨r1, r2, r3, r4, r5, r6, r7, r8⟩ := P
        refine ⟨?_, ?_⟩
        · unfold mhp
          rw [f 0 0 (by decide), f 3 0 (by decide), f 6 0 (by decide)]
          refine ⟨?_, ?_, ?_, fun i i0 i1 => ?_, fun i i0 i1 => ?_, fun i i0 i1 => ?_, ?_, fun j j0 j1 => ?_⟩
          · rw [Z_Mn (by omega)]; exact r1
          · rw [Z_Mn (by omega)]; exact r2
          · rw [Z_Mn (by omega)]; exact r3
          · rw [f 1 i (by decide), f 2 i (by decide), Z_Mn (by omega), Z_Mn (by omega)]; exact r4 i i0 i1
          · rw [f 4 i (by decide), f 5 i (by decide), Z_Mn (by omega), Z_Mn (by omega)]; exact r5 i i0 i1
          · rw [f 7 i (by decide), f 8 i (by decide), f 9 i (by decide), Z_Mn (by omega), Z_Mn (by omega), Z_Mn (by omega)]; exact r6 i i0 i1
          · rw [Z_Mt]
            refine ⟨ib.1, ib.2.1, fun m => ?_⟩
            rw [ib.2.2 m, P30c m]
            show (H 10 (m : Int) = 1 ∨ m = x.toNat) ↔ up2 H 10 (itM1 T s).1 1 10 (m : Int) = 1
            rw [up2_e, ← hx]
            by_cases y : (m : Int) = x
            · rw [if_pos ⟨rfl, y⟩]
              exact ⟨fun _ => rfl, fun _ => Or.inr (by omega)⟩
            · rw [if_neg fun v => y v.2]
              constructor
              · rintro (v | v)
                · exact v
                · exact absurd (by omega) y
              · exact fun v => Or.inl v
          · rw [f 11 j (by decide), Z_Mn (by omega)]; exact r8 j j0 j1
        · unfold mgv
          rw [Z_Mn (by omega)]
          exact ⟨G.1, G.2.1, fun j hj => by rw [f 11 _ (by decide)]; exact G.2.2 j hj⟩
  · have eo2 : (itO T H s).2 = (itM1 T s).2 := by
      rw [eo]
      by_cases w2 : H 10 x = 1
      · rw [if_pos w2]; exact if_neg w
      · rw [if_neg w2]
    have e9 := R_close hT Hm b1.1 fun z => absurd z w
    refine ⟨h.set 30 a (ior (h.M 30 a) 0), ?_, Ew.st _ _ (by unfold WHd hreg; omega), fun z => absurd (by rw [← eo2]; exact z) w⟩
    rw [if_neg w, e9, Z_bV, lm25 (pss_lay L _), pss_N, ln30 L, gd_t (by omega), pss_4, if_neg w, gd_t (by omega), eo2]
    exact brk _ w
theorem pst_s29 (h : mH) (a w v : Int) : (pst h a w).set 9 29 v = pst (h.set 9 29 v) a w := by
  unfold pst
  rw [set_comm (h.set 9 3 a) w v (Or.inr (by decide)), set_comm h a v (Or.inr (by decide))]
theorem R_itX {T : Int → Int} {N : Int} (hT : tpo T N) {a : Int} (a0 : 0 ≤ a) (a1 : a < 9) {h : mH} (Hm : mtp h T N) {H : HD} (V : hdv H) (P : mhp h a H) (G : mgv h H) {q : Int} (q0 : 0 ≤ q) (q1 : q < N) {k : Int} (k0 : 0 ≤ k) (k4 : k < 4) (hk : H 11 k = -1) (u u' : mV) : ∃ h1, Rn kM_readCost 9 [vO 11 9, vI a, u, u'] [vI k] (pst h q (-1)) = some (none, pss h1 (itX T H k (q + 1, -1)).2) ∧ Ew (WHd a) h h1 ∧ ((itX T H k (q + 1, -1)).2.2 = -1 → mhp h1 a (itX T H k (q + 1, -1)).1 ∧ mgv h1 (itX T H k (q + 1, -1)).1) := by
  have L := Hm.1
  have n160 := hT.2.1
  obtain ⟨s, hs⟩ : ∃ s : Int × Int, s = (q + 1, -1) := ⟨_, rfl⟩
  have g : gs N s := by rw [hs]; exact gs_1 (by omega) (by omega)
  obtain ⟨G1, G2, G3⟩ := G
  have kn : k = ((k.toNat : Nat) : Int) := by omega
  have bit : iand (ishr (h.M 9 29) k) 1 = h.M 9 29 / ((2 ^ k.toNat : Nat) : Int) % 2 := by
    rw [kn]
    exact iand_bit G1 (by omega) (by omega)
  have pb := G3 k.toNat (by omega)
  rw [← kn] at pb
  unfold bt' at pb
  have nb : ¬ h.M 9 29 / ((2 ^ k.toNat : Nat) : Int) % 2 = 1 := fun z => (pb.mp z) hk
  have ib := ior_bit (M := h.M 9 29) (k := k.toNat) (n := 4) G1 (by omega) (by omega) G2
  rw [← kn] at ib
  obtain ⟨v, hv⟩ : ∃ v, v = ior (h.M 9 29) (ishl 1 k) := ⟨_, rfl⟩
  rw [← hv] at ib
  have Hm2 : mtp (h.set 9 29 v) T N := ⟨L.st v (by decide), (Z_Mn (by omega)).trans Hm.2.1, fun i i0 i1 => (Z_Mn (by omega)).trans (Hm.2.2 i i0 i1)⟩
  have L2 := Hm2.1
  obtain ⟨z, hz⟩ : ∃ z, z = (nmS T 0 99 s).1 := ⟨_, rfl⟩
  have e1 : Cl kM_plain [vO 11 9, vI 0, vI 99] (pst (h.set 9 29 v) (q + 1) (-1)) = some (some (vI z), pss (h.set 9 29 v) (itX T H k s).2) := by
    rw [hs] at g hz ⊢
    rw [hz]
    exact R_plain hT Hm2 g 99 (by omega)
  have b1 := nmS_b hT g (lo := 0) 99 (by omega)
  refine ⟨(h.set 9 29 v).set 31 (4 * a + k) z, ?_, (Ew.st (W := WHd a) h _ (by unfold WHd hreg; omega)).tr (Ew.st _ _ (by unfold WHd hreg; omega)), fun w => ?_⟩
  · rw [← hs, E_M_readCost_9, if_neg (by omega), pst_n (b := 9) (k := 29) _ _ _ (by omega), bit, if_neg nb, ← hv, pst_s29, Z_hl, pst_3, pst_s3, Z_wI (z := q + 1) (by omega), Z_hl, e1, Z_bI, Z_wI (z := 4 * a) (by omega), Z_wI (z := 4 * a + k) (by omega), lm26 (pst_lay L2 _ _), pss_N, ln31 L2, gd_t (by omega), pss_set _ _ _ _ (by omega), Z_hl]
  · rw [← hs] at w ⊢
    have b2 := b1.2.2.2 w
    rw [← hz] at b2
    have f : ∀ b j, b ≠ 11 → (itX T H k s).1 b j = H b j := fun b j n0 => by
      show up2 H 11 k (nmS T 0 99 s).1 b j = H b j
      rw [up2_n _ (Or.inl n0)]
    have f1 : ∀ j, (itX T H k s).1 11 j = if j = k then z else H 11 j := fun j => by
      show up2 H 11 k (nmS T 0 99 s).1 11 j = _
      rw [up2_e, ← hz]
      by_cases y : j = k
      · rw [if_pos ⟨rfl, y⟩, if_pos y]
      · rw [if_neg fun w => y w.2, if_neg y]
    have m3 : ∀ b j, b ≠ 9 → b ≠ 31 → ((h.set 9 29 v).set 31 (4 * a + k) z).M b j = h.M b j := fun b j n0 n1 => by rw [Z_Mn (Or.inl n1), Z_Mn (Or.inl n0)]
    obtain ⟨r1, r2, r3, r4, r5, r6, r7, r8⟩ := P
    refine ⟨?_, ?_⟩
    · unfold mhp
      rw [f 0 0 (by decide), f 3 0 (by decide), f 6 0 (by decide)]
      refine ⟨?_, ?_, ?_, fun i i0 i1 => ?_, fun i i0 i1 => ?_, fun i i0 i1 => ?_, ?_, fun j j0 j1 => ?_⟩
      · rw [m3 _ _ (by decide) (by decide)]; exact r1
      · rw [m3 _ _ (by decide) (by decide)]; exact r2
      · rw [m3 _ _ (by decide) (by decide)]; exact r3
      · rw [f 1 i (by decide), f 2 i (by decide), m3 _ _ (by decide) (by decide), m3 _ _ (by decide) (by decide)]; exact r4 i i0 i1
      · rw [f 4 i (by decide), f 5 i (by decide), m3 _ _ (by decide) (by decide), m3 _ _ (by decide) (by decide)]; exact r5 i i0 i1
      · rw [f 7 i (by decide), f 8 i (by decide), f 9 i (by decide), m3 _ _ (by decide) (by decide), m3 _ _ (by decide) (by decide), m3 _ _ (by decide) (by decide)]; exact r6 i i0 i1
      · rw [m3 _ _ (by decide) (by decide)]
        exact ⟨r7.1, r7.2.1, fun m => by rw [f 10 _ (by decide)]; exact r7.2.2 m⟩
      · rw [f1, Z_Ms]
        by_cases y : j = k
        · rw [if_pos ⟨rfl, by omega⟩, if_pos y, if_neg (by omega)]
        · rw [if_neg (by omega), if_neg y, Z_Mn (by omega)]; exact r8 j j0 j1
    · unfold mgv
      rw [Z_Mn (by omega), Z_Mt]
      refine ⟨ib.1, ib.2.1, fun j hj => ?_⟩
      rw [ib.2.2 j, f1, G3 j hj]
      by_cases y : (j : Int) = k
      · rw [if_pos y]
        exact ⟨fun _ => by omega, fun _ => Or.inr (by omega)⟩
      · rw [if_neg y]
        constructor
        · rintro (t | t)
          · exact t
          · exact absurd (by omega) y
        · exact fun t => Or.inl t
theorem R_itX' {a : Int} {h : mH} {H : HD} (G : mgv h H) {q k : Int} (hk : k = -1 ∨ (0 ≤ k ∧ k < 4 ∧ H 11 k ≠ -1)) (u u' : mV) : Rn kM_readCost 9 [vO 11 9, vI a, u, u'] [vI k] (pst h q (-1)) = some (none, pss h (q, q)) := by
  have e1 : Cl kM_bad [vO 11 9] (pst h q (-1)) = some (none, pss h (q, q)) := R_bad h q (-1)
  rw [E_M_readCost_9]
  by_cases z : k = -1
  · rw [if_pos z, e1, Z_bV]
  · obtain ⟨G1, G2, G3⟩ := G
    have hk2 : 0 ≤ k ∧ k < 4 ∧ H 11 k ≠ -1 := by
      rcases hk with y | y
      · exact absurd y z
      · exact y
    have kn : k = ((k.toNat : Nat) : Int) := by omega
    have bit : iand (ishr (h.M 9 29) k) 1 = h.M 9 29 / ((2 ^ k.toNat : Nat) : Int) % 2 := by
      rw [kn]
      exact iand_bit G1 (by omega) (by omega)
    have pb := G3 k.toNat (by omega)
    rw [← kn] at pb
    unfold bt' at pb
    rw [if_neg z, pst_n (b := 9) (k := 29) _ _ _ (by omega), bit, if_pos (pb.mpr hk2.2.2), e1, Z_bV]
theorem R_item {T : Int → Int} {N : Int} (hT : tpo T N) {a : Int} (a0 : 0 ≤ a) (a1 : a < 9) {h : mH} (Hm : mtp h T N) {H : HD} (V : hdv H) (P : mhp h a H) (G : mgv h H) {p : Int} (p0 : 0 ≤ p) (p1 : p ≤ N) : ∃ h1, Cl kM_item [vO 11 9, vI a] (pst h p (-1)) = some (none, pss h1 (itS T H (p, -1)).2) ∧ Ew (WHd a) h h1 ∧ ((itS T H (p, -1)).2.2 = -1 → mhp h1 a (itS T H (p, -1)).1 ∧ mgv h1 (itS T H (p, -1)).1) := by
  have L := Hm.1
  have sb := sk_b hT p0 p1
  have s0 := sb.1
  have qN : ∀ c : Int, T (sk T p) = c → c ≠ -1 → sk T p < N := fun c hc n => tp_lt hT (by rw [hc]; exact n)
  unfold itS
  dsimp only
  by_cases c1 : T (sk T p) = 107 ∧ H 0 0 < 6
  · rw [if_pos c1]
    obtain ⟨h1, x1, x2, x3, x4⟩ := R_itK hT a0 a1 Hm V P G c1.2 p0 p1 c1.1
    exact ⟨h1, x1, x2, fun _ => ⟨x3, x4⟩⟩
  · rw [if_neg c1, R_item8 hT a0 a1 Hm P p0 p1 c1]
    by_cases c2 : T (sk T p) = 121 ∧ H 3 0 < 6
    · rw [if_pos c2, c2.1]
      obtain ⟨h1, x1, x2, x3, x4⟩ := R_itY hT a0 a1 Hm V P G c2.2 (q := sk T p) (by omega) (qN _ c2.1 (by decide)) vU
      exact ⟨h1, x1, x2, fun _ => ⟨x3, x4⟩⟩
    · rw [if_neg c2]
      by_cases c3 : T (sk T p) = 109 ∧ H 6 0 < 12
      · rw [if_pos c3, c3.1]
        obtain ⟨h1, x1, x2, x3, x4⟩ := R_itM hT a0 a1 Hm V P G c3.2 (q := sk T p) (by omega) (qN _ c3.1 (by decide)) vU
        exact ⟨h1, x1, x2, fun _ => ⟨x3, x4⟩⟩
      · rw [if_neg c3, R_item16 a0 a1 L P c2 c3]
        by_cases c4 : T (sk T p) = 111
        · rw [if_pos c4, c4]
          exact R_itO hT a0 a1 Hm V P G (by omega) (qN _ c4 (by decide)) vU
        · rw [if_neg c4, E_M_item_16, if_neg c4, E_M_readCost]
          have lift : ∀ {x : mR} {s : HD × Int × Int}, (∃ h1, x = some (none, pss h1 s.2) ∧ Ew (WHd a) h h1 ∧ (s.2.2 = -1 → mhp h1 a s.1 ∧ mgv h1 s.1)) → ∃ h1, (bV x fun h1 => some (none, h1)) = some (none, pss h1 s.2) ∧ Ew (WHd a) h h1 ∧ (s.2.2 = -1 → mhp h1 a s.1 ∧ mgv h1 s.1) := fun {x s} ⟨h1, y1, y2, y3⟩ => ⟨h1, by rw [y1, Z_bV], y2, y3⟩
          have bad : ∀ k : Int, (k = -1 ∨ (0 ≤ k ∧ k < 4 ∧ H 11 k ≠ -1)) → ∃ h1, Rn kM_readCost 9 [vO 11 9, vI a, vI (T (sk T p)), vU] [vI k] (pst h (sk T p) (-1)) = some (none, pss h1 (H, sk T p, sk T p).2) ∧ Ew (WHd a) h h1 ∧ ((H, sk T p, sk T p).2.2 = -1 → mhp h1 a (H, sk T p, sk T p).1 ∧ mgv h1 (H, sk T p, sk T p).1) := fun k hk => ⟨h, R_itX' G hk _ _, Ew.rf _ _, fun z => by dsimp only at z; omega⟩
          by_cases d1 : T (sk T p) = 115
          · rw [if_pos d1]
            by_cases d2 : H 11 0 = -1
            · rw [if_pos ⟨d1, d2⟩]
              exact lift (R_itX hT a0 a1 Hm V P G (by omega) (qN _ d1 (by decide)) (by decide) (by decide) d2 _ _)
            · rw [if_neg fun w => d2 w.2, if_neg fun w => by omega, if_neg fun w => by omega, if_neg fun w => by omega]
              exact lift (bad 0 (Or.inr ⟨by decide, by decide, d2⟩))
          · rw [if_neg d1, if_neg (c := T (sk T p) = 115 ∧ H 11 0 = -1) fun w => d1 w.1]
            by_cases d3 : T (sk T p) = 114
            · rw [if_pos d3]
              by_cases d2 : H 11 1 = -1
              · rw [if_pos ⟨d3, d2⟩]
                exact lift (R_itX hT a0 a1 Hm V P G (by omega) (qN _ d3 (by decide)) (by decide) (by decide) d2 _ _)
              · rw [if_neg fun w => d2 w.2, if_neg fun w => by omega, if_neg fun w => by omega]
                exact lift (bad 1 (Or.inr ⟨by decide, by decide, d2⟩))
            · rw [if_neg d3, if_neg (c := T (sk T p) = 114 ∧ H 11 1 = -1) fun w => d3 w.1]
              by_cases d4 : T (sk T p) = 98
              · rw [if_pos d4]
                by_cases d2 : H 11 2 = -1
                · rw [if_pos ⟨d4, d2⟩]
                  exact lift (R_itX hT a0 a1 Hm V P G (by omega) (qN _ d4 (by decide)) (by decide) (by decide) d2 _ _)
                · rw [if_neg fun w => d2 w.2, if_neg fun w => by omega]
                  exact lift (bad 2 (Or.inr ⟨by decide, by decide, d2⟩))
              · rw [if_neg d4, if_neg (c := T (sk T p) = 98 ∧ H 11 2 = -1) fun w => d4 w.1]
                by_cases d5 : T (sk T p) = 108
                · rw [if_pos d5]
                  by_cases d2 : H 11 3 = -1
                  · rw [if_pos ⟨d5, d2⟩]
                    exact lift (R_itX hT a0 a1 Hm V P G (by omega) (qN _ d5 (by decide)) (by decide) (by decide) d2 _ _)
                  · rw [if_neg fun w => d2 w.2]
                    exact lift (bad 3 (Or.inr ⟨by decide, by decide, d2⟩))
                · rw [if_neg d5, if_neg (c := T (sk T p) = 108 ∧ H 11 3 = -1) fun w => d5 w.1]
                  exact lift (bad (-1) (Or.inl rfl))
noncomputable def hdP (T : Int → Int) : HD × Int × Int := itsS T 159 (itS T H00 (0, -1)).1 (itS T H00 (0, -1)).2
noncomputable def hdw (T : Int → Int) : Int := (fnS T (hdP T).2).2
theorem R_rh4 {T : Int → Int} {N : Int} (hT : tpo T N) {a : Int} (a0 : 0 ≤ a) (a1 : a < 9) (u : mV) : ∀ (f : Nat) (H : HD) (s : Int × Int) (h : mH), mtp h T N → gs N s → (s.2 = -1 → hdv H ∧ mhp h a H ∧ mgv h H ∧ N < s.1 + f) → ∃ h1 w, Rn kM_readHead 4 [vO 11 9, vI a, u] [] (pss h s) = some (some (vI (fnS T (itsS T f H s).2).2), pss h1 w) ∧ Ew (WHd a) h h1 ∧ ((fnS T (itsS T f H s).2).2 = -1 → hdv (itsS T f H s).1 ∧ mhp h1 a (itsS T f H s).1) := by
  intro f
  induction f with
  | zero =>
    intro H s h Hm g I
    have sb : s.2 ≠ -1 := fun z => by have := I z; have := g z; omega
    have e : (fnS T (itsS T 0 H s).2).2 = s.2 := by
      show (fnS T s).2 = s.2
      unfold fnS
      rw [if_neg fun w => sb w.1]
    rw [E_M_readHead_4, pss_4, if_neg sb, if_neg sb, e]
    exact ⟨h, s, rfl, Ew.rf _ _, fun z => absurd z sb⟩
  | succ f ih =>
    intro H s h Hm g I
    by_cases s0 : s.2 = -1
    · obtain ⟨V, P, G, hf⟩ := I s0
      obtain ⟨p0, p1⟩ := g s0
      obtain ⟨p, w⟩ := s
      dsimp only at s0 p0 p1 hf
      subst s0
      have L := Hm.1
      have sb := sk_b hT p0 p1
      have n160 := hT.2.1
      have lk : Cl kM_look [vO 11 9] (pss h (p, -1)) = some (some (vI (T (sk T p))), pss h (sk T p, -1)) := R_look hT Hm (-1) p0 p1
      have lk2 : Cl kM_look [vO 11 9] (pss h (sk T p, -1)) = some (some (vI (T (sk T p))), pss h (sk T p, -1)) := by
        have := R_look hT Hm (-1) (by omega : 0 ≤ sk T p) sb.2.1
        rw [sb.2.2.2] at this
        exact this
      have u1 : itsS T (f + 1) H (p, -1) = if (-1 : Int) = -1 ∧ T (sk T p) = 44 then itsS T f (itS T H (sk T p + 1, -1)).1 (itS T H (sk T p + 1, -1)).2 else (H, p, -1) := rfl
      rw [E_M_readHead_4, pss_4, if_pos rfl, lk, Z_bI]
      by_cases c : T (sk T p) = 44
      · have lt := tp_lt hT (a := sk T p) (by omega)
        rw [if_pos ⟨rfl, c⟩] at u1
        rw [if_pos c, u1]
        have st : (pss h (sk T p, -1)).set 9 3 (wI ((pss h (sk T p, -1)).M 9 3 + 1)) = pst h (sk T p + 1) (-1) := by
          show (pst h (sk T p) (-1)).set 9 3 (wI ((pst h (sk T p) (-1)).M 9 3 + 1)) = _
          rw [pst_3, pst_s3, Z_wI (by omega)]
        obtain ⟨h1, e1, x1, r1⟩ := R_item hT a0 a1 Hm V P G (p := sk T p + 1) (by omega) (by omega)
        have iv := itS_v hT V (s := (sk T p + 1, -1)) (gs_1 (by omega) (by omega)) rfl
        obtain ⟨h2, w2, e2, x2, r2⟩ := ih (itS T H (sk T p + 1, -1)).1 (itS T H (sk T p + 1, -1)).2 h1 (Hm.ew x1 fun b k w => WHd_tp w) iv.1 (fun z => ⟨(iv.2 z).1, (r1 z).1, (r1 z).2, by have := (iv.2 z).2; dsimp only at this; omega⟩)
        exact ⟨h2, w2, by rw [st, Z_hl, e1, Z_bV]; exact e2, x1.tr x2, r2⟩
      · rw [if_neg fun w => c w.2] at u1
        rw [if_neg c, u1, pss_4, if_pos rfl, lk2, Z_bI]
        by_cases z : T (sk T p) = -1
        · have e : (fnS T (H, p, (-1 : Int)).2).2 = -1 := by
            unfold fnS
            rw [if_neg fun w => w.2 z]
          rw [if_pos z, pss_4, e]
          exact ⟨h, _, rfl, Ew.rf _ _, fun _ => ⟨V, P⟩⟩
        · have e : (fnS T (H, p, (-1 : Int)).2).2 = sk T p := by
            unfold fnS
            rw [if_pos ⟨rfl, z⟩]
          have e1 : Cl kM_bad [vO 11 9] (pss h (sk T p, -1)) = some (none, pss h (sk T p, sk T p)) := R_bad h (sk T p) (-1)
          rw [if_neg z, e1, Z_bV, pss_4, e]
          exact ⟨h, _, rfl, Ew.rf _ _, fun y => by omega⟩
    · have e : (fnS T (itsS T (f + 1) H s).2).2 = s.2 := by
        have u1 : itsS T (f + 1) H s = (H, s) := if_neg fun w => s0 w.1
        rw [u1]
        unfold fnS
        rw [if_neg fun w => s0 w.1]
      rw [E_M_readHead_4, pss_4, if_neg s0, if_neg s0, e]
      exact ⟨h, s, rfl, Ew.rf _ _, fun z => absurd z s0⟩
theorem R_rh1 {a : Int} (a0 : 0 ≤ a) (a1 : a < 9) : ∀ (m : Nat) (i : Int) (h : mH), lay h → i + m = 4 → 0 ≤ i → (∀ j, 0 ≤ j → j < i → h.M 31 (4 * a + j) = 0) → ∃ h1, Rn kM_readHead 1 [vO 11 9, vI a, vI i] [] h = (bV (Cl kM_item [vO 11 9, vI a] h1) fun h2 => Rn kM_readHead 4 [vO 11 9, vI a, vI 4] [] h2) ∧ Ew (fun b k => b = 31 ∧ 4 * a ≤ k ∧ k < 4 * a + 4) h h1 ∧ ∀ j, 0 ≤ j → j < 4 → h1.M 31 (4 * a + j) = 0 := by
  intro m
  induction m with
  | zero =>
    intro i h L e i0 Z
    have : i = 4 := by omega
    subst this
    exact ⟨h, by rw [E_M_readHead_1, if_neg (by decide)], Ew.rf _ _, Z⟩
  | succ m ih =>
    intro i h L e i0 Z
    have x : Ew (fun b k => b = 31 ∧ 4 * a ≤ k ∧ k < 4 * a + 4) h (h.set 31 (4 * a + i) 0) := Ew.st _ _ ⟨rfl, by omega, by omega⟩
    obtain ⟨h1, e1, x1, z1⟩ := ih (i + 1) (h.set 31 (4 * a + i) 0) (L.st 0 (layA_n _ (by decide) (by decide))) (by omega) (by omega) (fun j j0 j1 => by
      by_cases y : j = i
      · rw [y, Z_Mt]
      · rw [Z_Mn (by omega)]; exact Z j j0 (by omega))
    refine ⟨h1, ?_, x.tr x1, z1⟩
    rw [E_M_readHead_1, if_pos (by omega), Z_wI (z := 4 * a) (by omega), Z_wI (z := 4 * a + i) (by omega), lm26 L, ln31 L, gd_t (by omega), Z_hl, Z_wI (z := i + 1) (by omega)]
    exact e1
def WHdp (a : Int) : Int → Int → Prop := fun b k => hreg a b k ∨ (b = 9 ∧ (k = 3 ∨ k = 4 ∨ k = 29))
theorem WHd_p {a b k : Int} (w : WHd a b k) : WHdp a b k := by
  rcases w with w | w
  · exact Or.inl w
  · exact Or.inr ⟨w.1, Or.inr (Or.inr w.2)⟩
theorem R_readHead {T : Int → Int} {N : Int} (hT : tpo T N) {a : Int} (a0 : 0 ≤ a) (a1 : a < 9) {h : mH} (Hm : mtp h T N) : ∃ h', Cl kM_readHead [vO 11 9, vI a] h = some (some (vI (hdw T)), h') ∧ Ew (WHdp a) h h' ∧ (hdw T = -1 → hdv (hdP T).1 ∧ mhp h' a (hdP T).1) := by
  have L := Hm.1
  have n160 := hT.2.1
  have nn := hT.1
  obtain ⟨h3, hh3⟩ : ∃ u, u = ((((h.set 9 29 0).set 20 a 0).set 23 a 0).set 26 a 0).set 30 a 0 := ⟨_, rfl⟩
  have x3 : Ew (WHd a) h h3 := by
    rw [hh3]
    exact ((((Ew.st (W := WHd a) h _ (by unfold WHd hreg; omega)).tr (Ew.st _ _ (by unfold WHd hreg; omega))).tr (Ew.st _ _ (by unfold WHd hreg; omega))).tr (Ew.st _ _ (by unfold WHd hreg; omega))).tr (Ew.st _ _ (by unfold WHd hreg; omega))
  have Hm3 : mtp h3 T N := Hm.ew x3 fun b k w => WHd_tp w
  have L3 := Hm3.1
  obtain ⟨h4, e4, x4, z4⟩ := R_rh1 a0 a1 4 0 (pst h3 0 (-1)) (pst_lay L3 _ _) (by omega) (by omega) (fun j j0 j1 => by omega)
  have h4M : ∀ b k, ¬ (b = 31 ∧ 4 * a ≤ k ∧ k < 4 * a + 4) → h4.M b k = (pst h3 0 (-1)).M b k := x4.2
  have h4s : h4 = pst h4 0 (-1) := pst_of ((h4M 9 3 (by omega)).trans rfl) ((h4M 9 4 (by omega)).trans rfl)
  have x4' : Ew (WHdp a) h h4 := by
    refine ⟨x4.1.trans x3.1, fun b k w => ?_⟩
    have w1 : ¬ (b = 31 ∧ 4 * a ≤ k ∧ k < 4 * a + 4) := fun y => w (by unfold WHdp hreg; omega)
    have w2 : b ≠ 9 ∨ (k ≠ 3 ∧ k ≠ 4) := by
      by_cases y : b = 9
      · right; constructor <;> intro y2 <;> exact w (by unfold WHdp; omega)
      · exact Or.inl y
    rw [h4M b k w1, pst_n _ _ _ w2]
    exact x3.2 b k fun y => w (WHd_p y)
  have tpW : ∀ b k, WHdp a b k → layA b k = 0 ∧ ¬ (b = 9 ∧ k = 2) ∧ b ≠ 10 := fun b k w => by
    unfold WHdp at w
    rcases w with w | w
    · exact WHd_tp (Or.inl w)
    · rcases w.2 with y | y | y <;> rw [w.1, y] <;> exact ⟨by decide, by decide, by decide⟩
  have Hm4 : mtp h4 T N := Hm.ew x4' tpW
  have P4 : mhp h4 a H00 := by
    have m : ∀ b k, b ≠ 31 → b ≠ 9 → h4.M b k = h3.M b k := fun b k n1 n2 => (h4M b k fun y => n1 y.1).trans (pst_n _ _ _ (Or.inl n2))
    refine ⟨?_, ?_, ?_, fun i i0 i1 => ?_, fun i i0 i1 => ?_, fun i i0 i1 => ?_, ?_, fun j j0 j1 => ?_⟩
    · rw [m _ _ (by decide) (by decide), hh3, Z_Mn (by omega), Z_Mn (by omega), Z_Mn (by omega), Z_Mt]; rfl
    · rw [m _ _ (by decide) (by decide), hh3, Z_Mn (by omega), Z_Mn (by omega), Z_Mt]; rfl
    · rw [m _ _ (by decide) (by decide), hh3, Z_Mn (by omega), Z_Mt]; rfl
    · exact absurd i1 (by show ¬ i < (0 : Int); omega)
    · exact absurd i1 (by show ¬ i < (0 : Int); omega)
    · exact absurd i1 (by show ¬ i < (0 : Int); omega)
    · rw [m _ _ (by decide) (by decide), hh3, Z_Mt]
      exact ⟨by decide, by decide, fun m => ⟨fun y => absurd y (bt_0 m), fun y => absurd y (by show ¬ (0 : Int) = 1; decide)⟩⟩
    · rw [z4 j j0 j1]; rfl
  have G4 : mgv h4 H00 := by
    have e : h4.M 9 29 = 0 := by
      rw [h4M 9 29 (by omega), pst_n _ _ _ (by omega), hh3, Z_Mn (by omega), Z_Mn (by omega), Z_Mn (by omega), Z_Mn (by omega), Z_Mt]
    unfold mgv
    rw [e]
    exact ⟨by decide, by decide, fun k _ => ⟨fun y => absurd y (bt_0 k), fun y => absurd rfl y⟩⟩
  obtain ⟨h6, e6, x6, r6⟩ := R_item hT a0 a1 Hm4 H00_v P4 G4 (p := 0) (by omega) nn
  have iv := itS_v hT H00_v (s := (0, -1)) (gs_1 (by omega) nn) rfl
  obtain ⟨h7, w7, e7, x7, r7⟩ := R_rh4 hT a0 a1 (vI 4) 159 (itS T H00 (0, -1)).1 (itS T H00 (0, -1)).2 h6 (Hm4.ew x6 fun b k w => WHd_tp w) iv.1 (fun z => ⟨(iv.2 z).1, (r6 z).1, (r6 z).2, by have := (iv.2 z).2; dsimp only at this; omega⟩)
  have x7' : Ew (WHdp a) h (pss h7 w7) := by
    have y : Ew (WHdp a) h h7 := (x4'.tr (x6.mono fun b k w => WHd_p w)).tr (x7.mono fun b k w => WHd_p w)
    exact (y.tr (Ew.st _ _ (Or.inr ⟨rfl, Or.inl rfl⟩))).tr (Ew.st _ _ (Or.inr ⟨rfl, Or.inr (Or.inl rfl)⟩))
  refine ⟨pss h7 w7, ?_, x7', fun z => ⟨(r7 z).1, (r7 z).2.cg (r7 z).1 fun b k w => pss_n _ _ (Or.inl (by unfold hreg at w; omega))⟩⟩
  have st0 : ((((((h.set 9 3 0).set 9 4 (-1)).set 9 29 0).set 20 a 0).set 23 a 0).set 26 a 0).set 30 a 0 = pst h3 0 (-1) := by
    show ((((((pst h 0 (-1)).set 9 29 0).set 20 a 0).set 23 a 0).set 26 a 0).set 30 a 0) = _
    rw [pst_s29, pst_set _ _ _ _ _ (by decide), pst_set _ _ _ _ _ (by decide), pst_set _ _ _ _ _ (by decide), pst_set _ _ _ _ _ (by decide), hh3]
  have La : lay (((h.set 9 3 0).set 9 4 (-1)).set 9 29 0) := ((L.st 0 (by decide)).st _ (by decide)).st _ (by decide)
  have Lb := La.st (a := 20) (k := a) 0 (layA_n _ (by decide) (by decide))
  have Lc := Lb.st (a := 23) (k := a) 0 (layA_n _ (by decide) (by decide))
  have Ld := Lc.st (a := 26) (k := a) 0 (layA_n _ (by decide) (by decide))
  rw [E_M_readHead, Z_hl, Z_hl, Z_hl, lm15 La, ln20 La, gd_t (by omega), Z_hl, lm18 Lb, ln23 Lb, gd_t (by omega), Z_hl, lm21 Lc, ln26 Lc, gd_t (by omega), Z_hl, lm25 Ld, ln30 Ld, gd_t (by omega), Z_hl, st0, e4]
  rw [h4s, e6, Z_bV]
  exact e7
