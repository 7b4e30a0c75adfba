/-! THE PURE PART, the class lays a calendar out: the whole of it -/
/-- a calendar while it is being laid out: its stretches below i are laid -/
def alp (h : mH) (c0 c1 a j : Int) (C : CD) (i : Int) : Prop := c0 < a ∧ h.M a 1 = a + 1 ∧ h.N (a + 1) = 4 ∧ h.M a 2 = j + 1 ∧ (∀ k, 0 ≤ k → k ≤ j → a + 2 < h.M (a + 1) k ∧ h.M (a + 1) k + 3 ≤ c1) ∧ (∀ k, 0 ≤ k → k < j → h.M (a + 1) k + 3 < h.M (a + 1) (k + 1)) ∧ (∀ k, 0 ≤ k → k < i → k ≤ j → slo h (h.M (a + 1) k) C k ∧ h.M (h.M (a + 1) k) 8 = h8v C k ∧ (h.M (h.M (a + 1) k) 9 = h.M (a + 1) k + 3 ∨ (c1 < h.M (h.M (a + 1) k) 9 ∧ h.M (h.M (a + 1) k) 9 ≤ h.cnt))) ∧ (∀ k, i ≤ k → 0 ≤ k → k ≤ j → cst h (h.M (a + 1) k) (C.1 k) (C.2.1 k) ∧ h.M (h.M (a + 1) k) 6 = keyT (C.2.2.2 k)) ∧ c1 ≤ h.cnt
theorem alp_lt {h : mH} {c0 c1 a j : Int} {C : CD} {i : Int} (D : alp h c0 c1 a j C i) : ∀ (n : Nat) (k : Int), 0 ≤ k → k + n + 1 ≤ j → h.M (a + 1) k + 3 < h.M (a + 1) (k + n + 1) := by
  intro n
  induction n with
  | zero => intro k k0 k1; rw [show k + ((0 : Nat) : Int) + 1 = k + 1 by omega]; exact D.2.2.2.2.2.1 k k0 (by omega)
  | succ n ih =>
    intro k k0 k1
    have a1 := ih k k0 (by omega)
    have a2 := D.2.2.2.2.2.1 (k + n + 1) (by omega) (by omega)
    rw [show k + ((n + 1 : Nat) : Int) + 1 = k + n + 1 + 1 by omega]
    omega
theorem D_alLayT {C : CD} {j : Int} (V : cdv j C) (j3 : j ≤ 3) {h : mH} {c0 c1 a i : Int} (cc : 56 ≤ c0) (D : alp h c0 c1 a j C i) (i0 : 0 ≤ i) (i1 : i ≤ j) (u3 u4 u5 : mV) : ∃ h' dv, Rn kAl_lay 1 [vO 0 a, vI (C.2.2.1 i), vI i, u3, u4, u5] [] h = Rn kAl_lay 1 [vO 0 a, vI dv, vI (i + 1), u3, u4, u5] [] h' ∧ alp h' c0 c1 a j C (i + 1) ∧ (i < j → dv = C.2.2.1 (i + 1)) ∧ Fb c0 (fun _ _ => False) h h' ∧ h'.M a 3 = h.M a 3 ∧ h'.cnt ≤ h.cnt + 1 ∧ h'.sl ≤ h.sl + 10001 := by
  have lt := alp_lt D
  obtain ⟨d1, d2, d3, d4, d5, d6, d7, d8, d9⟩ := D
  obtain ⟨q, hq⟩ : ∃ q, q = h.M (a + 1) i := ⟨_, rfl⟩
  obtain ⟨e1, e2⟩ := d5 i i0 i1
  obtain ⟨e3, e4⟩ := d8 i (Int.le_refl _) i0 i1
  rw [← hq] at e1 e2 e3 e4
  obtain ⟨h', el, xl, S, v8, v9⟩ := D_shLay V i0 i1 j3 (by omega) (by omega) e3 e4
  have kk : ∀ b k, b ≤ (h.cnt : Int) → b ≠ q → h'.M b k = h.M b k := fun b k hb hn => xl.1 b k hb fun w => hn w.1
  have nn : ∀ b, b ≤ (h.cnt : Int) → h'.N b = h.N b := xl.2.1
  have p1 : h'.M a 1 = a + 1 := (kk a 1 (by omega) (by omega)).trans d2
  have pn : h'.N (a + 1) = 4 := (nn _ (by omega)).trans d3
  have p2 : h'.M a 2 = j + 1 := (kk a 2 (by omega) (by omega)).trans d4
  have pr : ∀ k, h'.M (a + 1) k = h.M (a + 1) k := fun k => kk (a + 1) k (by omega) (by omega)
  have cu : h.cnt ≤ h'.cnt := xl.2.2.1
  have vb := cdv_at V i0 i1 j3
  have bF := ord_b vb.1
  have bL := ord_b vb.2.2.2.2.2.1
  have cF := yb_b (C.1 i) vb.1.1
  have cL := yb_b (C.1 i) vb.2.2.2.2.2.1.1
  have yF := ylen_b (C.1 i (C.2.1 i).1)
  have yL := ylen_b (C.1 i (C.2.2.2 i).1)
  have eF : ordT (C.1 i) (C.2.1 i) = ord (C.1 i) (C.2.1 i).1 (C.2.1 i).2.1 (C.2.1 i).2.2 := rfl
  have eL : ordT (C.1 i) (C.2.2.2 i) = ord (C.1 i) (C.2.2.2 i).1 (C.2.2.2 i).2.1 (C.2.2.2 i).2.2 := rfl
  have v8b : -1 ≤ h'.M q 8 ∧ h'.M q 8 < 100000000 := by
    rw [v8]
    split
    · rename_i K
      have := (ord_mono vb.1 vb.2.2.2.2.2.1).mp K
      omega
    · omega
  -- a stretch other than this one
  have oth : ∀ k, 0 ≤ k → k ≤ j → k ≠ i → h.M (a + 1) k + 3 < q ∨ q + 3 < h.M (a + 1) k := fun k k0 k1 ne => by
    rcases Int.lt_or_le k i with w | w
    · left
      have := lt (i - k - 1).toNat k k0 (by omega)
      rw [show k + ((i - k - 1).toNat : Int) + 1 = i by omega, ← hq] at this
      exact this
    · right
      have := lt (k - i - 1).toNat i i0 (by omega)
      rw [show i + ((k - i - 1).toNat : Int) + 1 = k by omega, ← hq] at this
      exact this
  refine ⟨h', h'.M q 8 + 1, ?_, ⟨d1, p1, pn, p2, fun k k0 k1 => ?_, fun k k0 k1 => ?_, fun k k0 k1 k2 => ?_, fun k k0 k1 k2 => ?_, by omega⟩, fun w => ?_, xl.fb (by omega) (fun b k hb w => by have := w.1; omega), kk a 3 (by omega) (by omega), xl.2.2.2.1, xl.2.2.2.2.1⟩
  · rw [E_Al_lay_1, d4, if_pos (by omega), d2, d3, gd_t (by omega), ← hq, gd_t (by omega), el, Z_bV, p1, pn, gd_t (by omega), pr, ← hq, gd_t (by omega), Z_wI (z := h'.M q 8 + 1) (by omega), Z_wI (z := i + 1) (by omega)]
  · rw [pr]; exact d5 k k0 k1
  · rw [pr, pr]; exact d6 k k0 k1
  · rw [pr]
    by_cases z : k = i
    · subst z
      rw [← hq]
      refine ⟨S, v8, ?_⟩
      rcases v9 with w | w
      · exact Or.inl w
      · exact Or.inr ⟨by omega, by omega⟩
    · obtain ⟨f1, f2, f3⟩ := d7 k k0 (by omega) k2
      have o := oth k k0 k2 z
      have b5 := d5 k k0 k2
      have sa : h.M (h.M (a + 1) k) 9 ≤ (h.cnt : Int) ∧ h.M (h.M (a + 1) k) 9 ≠ q := by
        rcases f3 with w | w
        · rw [w]; omega
        · omega
      have s9 : h'.M (h.M (a + 1) k) 9 = h.M (h.M (a + 1) k) 9 := kk _ 9 (by omega) (by omega)
      refine ⟨f1.cg (fun p => kk _ p (by omega) (by omega)) (fun p => kk _ p sa.1 sa.2) (nn _ sa.1), (kk _ 8 (by omega) (by omega)).trans f2, ?_⟩
      rw [s9]
      rcases f3 with w | w
      · exact Or.inl w
      · exact Or.inr ⟨w.1, by omega⟩
  · rw [pr]
    obtain ⟨f1, f2⟩ := d8 k (by omega) k1 k2
    have o := oth k k1 k2 (by omega)
    have b5 := d5 k k1 k2
    exact ⟨f1.cg (fun p _ => kk _ p (by omega) (by omega)) (fun p => kk _ p (by omega) (by omega)) (fun p => kk _ p (by omega) (by omega)) (nn _ (by omega)) (nn _ (by omega)) (nn _ (by omega)), (kk _ 6 (by omega) (by omega)).trans f2⟩
  · have b := V.2.1 i i0 w
    rw [v8, if_pos b.2.2.1, b.2.2.2.2]
theorem D_alLay1 {C : CD} {j : Int} (V : cdv j C) (j3 : j ≤ 3) {c0 c1 a : Int} (cc : 56 ≤ c0) (u3 u4 u5 : mV) : ∀ (n : Nat) (i dv : Int) (h : mH), alp h c0 c1 a j C i → 0 ≤ i → i + n = j + 1 → (i ≤ j → dv = C.2.2.1 i) → ∃ h' dv', Rn kAl_lay 1 [vO 0 a, vI dv, vI i, u3, u4, u5] [] h = Rn kAl_lay 1 [vO 0 a, vI dv', vI (j + 1), u3, u4, u5] [] h' ∧ alp h' c0 c1 a j C (j + 1) ∧ Fb c0 (fun _ _ => False) h h' ∧ h'.cnt ≤ h.cnt + n ∧ h'.sl ≤ h.sl + 10001 * n := by
  intro n
  induction n with
  | zero =>
    intro i dv h D i0 e d
    have : i = j + 1 := by omega
    subst this
    exact ⟨h, dv, rfl, D, Fb.rf _ _ _, by omega, by omega⟩
  | succ n ih =>
    intro i dv h D i0 e d
    rw [d (by omega)]
    obtain ⟨h1, d1, e1, D1, w1, x1, _, c1', s1⟩ := D_alLayT V j3 cc D i0 (by omega) u3 u4 u5
    obtain ⟨h2, d2, e2, D2, x2, c2, s2⟩ := ih (i + 1) d1 h1 D1 (by omega) (by omega) (fun w => w1 (by omega))
    exact ⟨h2, d2, e1.trans e2, D2, x1.tr x2, by omega, by omega⟩
theorem alp_alo {h : mH} {c0 c1 a j : Int} {C : CD} (D : alp h c0 c1 a j C (j + 1)) (j0 : 0 ≤ j) : alo h c0 h.cnt a j C := by
  obtain ⟨d1, d2, d3, d4, d5, d6, d7, d8, d9⟩ := D
  have := d5 0 (by omega) j0
  refine ⟨d1, by omega, d2, d3, d4, fun i i0 i1 => ?_⟩
  obtain ⟨e1, e2⟩ := d5 i i0 i1
  obtain ⟨f1, f2, f3⟩ := d7 i i0 (by omega) i1
  refine ⟨⟨by omega, by omega, by omega⟩, ?_, f1, f2⟩
  rcases f3 with w | w
  · rw [w]; exact ⟨by omega, by omega, by omega⟩
  · exact ⟨by omega, by omega, by omega⟩
/-- the kinds of years -/
theorem D_kinds {C : CD} {j : Int} (V : cdv j C) (j0 : 0 ≤ j) (j3 : j ≤ 3) {c0 c1 a ks : Int} (cc : 56 ≤ c0) (k0 : c1 < ks) (u1 : mV) : ∀ (n : Nat) (y : Int) (h : mH) (u3 u4 u5 : mV), alo h c0 c1 a j C → h.M a 3 = ks → h.N ks = 10000 → y + n = 10000 → 1 ≤ y → (∀ p, 1 ≤ p → p < y → h.M ks p = kdD (DC (j + 1).toNat C) p) → ∃ h', Rn kAl_lay 5 [vO 0 a, u1, vI y, u3, u4, u5] [] h = some (none, h') ∧ Ew (fun b _ => b = ks) h h' ∧ ∀ p, 1 ≤ p → p ≤ 9999 → h'.M ks p = kdD (DC (j + 1).toNat C) p := by
  have O := DC_ok V j0 j3
  intro n
  induction n with
  | zero =>
    intro y h u3 u4 u5 A h3 hN e y1 M
    exact ⟨h, by rw [E_Al_lay_5, if_neg (by omega)], Ew.rf _ _, fun p p1 p2 => M p p1 (by omega)⟩
  | succ n ih =>
    intro y h u3 u4 u5 A h3 hN e y1 M
    have a0 := A.1
    have a1 := A.2.1
    have D1 := C_alDay V j0 j3 (by omega) A y 1 1
    have D2 := C_alDay V j0 j3 (by omega) A y 12 31
    have b1 := O.1 y 1 1
    have b2 := O.1 y 12 31
    have go : ∀ (v : Int) (w3 w4 w5 : mV), v = kdD (DC (j + 1).toNat C) y → ∃ h', Rn kAl_lay 5 [vO 0 a, u1, vI (y + 1), w3, w4, w5] [] (h.set ks y v) = some (none, h') ∧ Ew (fun b _ => b = ks) h h' ∧ ∀ p, 1 ≤ p → p ≤ 9999 → h'.M ks p = kdD (DC (j + 1).toNat C) p := by
      intro v w3 w4 w5 hv
      have x : Ew (fun b _ => b = ks) h (h.set ks y v) := Ew.st _ _ rfl
      obtain ⟨h', e1, x1, m1⟩ := ih (y + 1) (h.set ks y v) w3 w4 w5 (A.cg (Int.le_refl _) (fun b k p1 p2 _ => Z_Mn (by omega)) (fun b _ _ => rfl)) (by rw [Z_Mn (by omega)]; exact h3) hN (by omega) (by omega) (fun p p1 p2 => by
        by_cases z : p = y
        · rw [z, Z_Mt, hv]
        · rw [Z_Mn (by omega)]; exact M p p1 (by omega))
      exact ⟨h', e1, x.tr x1, m1⟩
    obtain ⟨f, hf⟩ : ∃ f, f = DC (j + 1).toNat C y 1 1 := ⟨_, rfl⟩
    obtain ⟨g, hg⟩ : ∃ g, g = DC (j + 1).toNat C y 12 31 := ⟨_, rfl⟩
    have hk : kdD (DC (j + 1).toNat C) y = @ite _ (f ≠ -1 ∧ g ≠ -1 ∧ (g - f = 364 ∨ g - f = 365)) (Classical.propDecidable _) (2 * (f % 7) + (g - f - 364)) (-1) := by
      unfold kdD
      rw [← hf, ← hg]
    rw [← hf] at D1 b1
    rw [← hg] at D2 b2
    rw [E_Al_lay_5, if_pos (by omega), D1, Z_bI, D2, Z_bI, h3, hN, Z_wI (z := g - f) (by omega), Z_wI (z := y + 1) (by omega)]
    by_cases z1 : f = -1
    · rw [if_pos z1, gd_t (by omega), Z_hl]
      exact go _ _ _ _ (by rw [hk, if_neg (fun w => w.1 z1)])
    · rw [if_neg z1]
      have tm : Int.tmod f 7 = f % 7 := Z_tmod (by omega)
      have val : (g - f = 364 ∨ g - f = 365) → wI (wI (2 * (Int.tmod f 7)) + wI (g - f - 364)) = kdD (DC (j + 1).toNat C) y := fun w => by
        rw [tm, Z_wI (z := 2 * (f % 7)) (by omega), Z_wI (z := g - f - 364) (by omega), Z_wI (by omega), hk, if_pos ⟨z1, by omega, w⟩]
      by_cases z2 : g - f = 364
      · rw [if_pos z2, gd_t (by decide), gd_t (by omega), Z_hl]
        exact go _ _ _ _ (val (Or.inl z2))
      · rw [if_neg z2]
        by_cases z3 : g - f = 365
        · rw [if_pos z3, gd_t (by decide), gd_t (by omega), Z_hl]
          exact go _ _ _ _ (val (Or.inr z3))
        · rw [if_neg z3, gd_t (by omega), Z_hl]
          exact go _ _ _ _ (by rw [hk, if_neg (fun w => by rcases w.2.2 with w | w; exact z2 w; exact z3 w)])
theorem D_alLay {C : CD} {j : Int} (V : cdv j C) (j0 : 0 ≤ j) (j3 : j ≤ 3) {h : mH} {c0 a : Int} (cc : 56 ≤ c0) (D : ccd h c0 a j C) (h0 : h.M a 0 = C.2.2.1 0) (ac : a ≤ h.cnt) : ∃ h' c1, Cl kAl_lay [vO 0 a] h = some (none, h') ∧ Fb c0 (fun _ _ => False) h h' ∧ h'.cnt ≤ h.cnt + 5 ∧ h'.sl ≤ h.sl + 50004 ∧ c1 = (h'.cnt : Int) ∧ aok h' c0 c1 a (DC (j + 1).toNat C) := by
  obtain ⟨d1, d2, d3, d4, d5, d6⟩ := D
  have P : alp h c0 h.cnt a j C 0 := ⟨d1, d2, d3, d4, fun k k0 k1 => ⟨(d5 k k0 k1).1, (d5 k k0 k1).2.1⟩, d6, fun k k0 k1 => by omega, fun k _ k0 k1 => (d5 k k0 k1).2.2, Int.le_refl _⟩
  obtain ⟨h1, dv, e1, P1, x1, c1, s1⟩ := D_alLay1 V j3 cc vU vU vU (j + 1).toNat 0 (C.2.2.1 0) h P (by omega) (by omega) (fun _ => rfl)
  have A1 := alp_alo P1 j0
  have c1' : h1.cnt ≤ h.cnt + 4 := by omega
  have s1' : h1.sl ≤ h.sl + 40004 := by omega
  obtain ⟨ks, hk⟩ : ∃ ks, ks = (h1.cnt : Int) + 1 := ⟨_, rfl⟩
  have tk : h1.top = ks := by rw [Z_top, hk]
  obtain ⟨h2, hh⟩ : ∃ u, u = (h1.new 100 10000).set a 3 ks := ⟨_, rfl⟩
  have a1 := A1.1
  have a2 := A1.2.1
  have m2 : ∀ b k, b ≤ (h1.cnt : Int) → ¬ (b = a ∧ k = 3) → h2.M b k = h1.M b k := fun b k hb hn => by rw [hh, Z_Mn (by omega), Z_Mw, if_neg (by omega)]
  have n2 : ∀ b, b ≤ (h1.cnt : Int) → h2.N b = h1.N b := fun b hb => by rw [hh, Z_Ns, Z_Nw, if_neg (by omega)]
  have A2 : alo h2 c0 h1.cnt a j C := A1.cg (Int.le_refl _) (fun b k _ p2 p3 => m2 b k p2 p3) (fun b _ p2 => n2 b p2)
  have f3 : h2.M a 3 = ks := by rw [hh, Z_Mt]
  have fN : h2.N ks = 10000 := by rw [hh, Z_Ns, Z_Nw, if_pos tk.symm]
  obtain ⟨h3, e3, x3, m3⟩ := D_kinds V j0 j3 cc (by omega : (h1.cnt : Int) < ks) (vI dv) 9999 1 h2 vU vU vU A2 f3 fN (by omega) (by omega) (fun p p1 p2 => by omega)
  have c3 : h3.cnt = h1.cnt + 1 := by rw [x3.cnt, hh]; rfl
  have s3 : h3.sl = h1.sl + 10000 := by rw [x3.sl, hh]; rfl
  have A3 : alo h3 c0 h3.cnt a j C := A2.cg (by omega) (fun b k _ p2 _ => x3.2 b k fun w => by omega) (fun b _ _ => by rw [x3.N])
  refine ⟨h3, h3.cnt, ?_, x1.tr ⟨fun b k hb _ => (x3.2 b k fun w => by omega).trans (m2 b k (by omega) (by omega)), fun b hb => by rw [x3.N]; exact n2 b (by omega), by omega, by rw [x3.X, hh]; rfl⟩, by omega, by omega, rfl, j, C, j0, j3, V, rfl, by omega, A3, ?_⟩
  · rw [E_Al_lay, h0, e1, E_Al_lay_1, P1.2.2.2.1, if_neg (by omega), gd_t (by decide), Z_hl, Z_hl, tk, ← hh]
    exact e3
  · rw [x3.2 a 3 fun w => by omega, f3]
    exact ⟨⟨by omega, by omega⟩, by rw [x3.N]; exact fN, m3⟩
