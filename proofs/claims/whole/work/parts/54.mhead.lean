/-! THE PURE PART, a head's text, read by the reference -/
def mhp (h : mH) (a : Int) (H : HD) : Prop := h.M 20 a = H 0 0 ∧ h.M 23 a = H 3 0 ∧ h.M 26 a = H 6 0 ∧ (∀ i, 0 ≤ i → i < H 0 0 → h.M 21 (6 * a + i) = H 1 i ∧ h.M 22 (6 * a + i) = H 2 i) ∧ (∀ i, 0 ≤ i → i < H 3 0 → h.M 24 (6 * a + i) = H 4 i ∧ h.M 25 (6 * a + i) = H 5 i) ∧ (∀ i, 0 ≤ i → i < H 6 0 → h.M 27 (12 * a + i) = H 7 i ∧ h.M 28 (12 * a + i) = H 8 i ∧ h.M 29 (12 * a + i) = H 9 i) ∧ (0 ≤ h.M 30 a ∧ h.M 30 a < 8192 ∧ ∀ m : Nat, bt' (h.M 30 a) m ↔ H 10 (m : Int) = 1) ∧ ∀ k, 0 ≤ k → k < 4 → h.M 31 (4 * a + k) = (if H 11 k = -1 then 0 else H 11 k)
/-- which letters were there -/
def mgv (h : mH) (H : HD) : Prop := 0 ≤ h.M 9 29 ∧ h.M 9 29 < 16 ∧ ∀ k : Nat, k < 4 → (bt' (h.M 9 29) k ↔ H 11 (k : Int) ≠ -1)
/-- where head a's data lie -/
def hreg (a b k : Int) : Prop := ((b = 20 ∨ b = 23 ∨ b = 26 ∨ b = 30) ∧ k = a) ∨ ((b = 21 ∨ b = 22 ∨ b = 24 ∨ b = 25) ∧ 6 * a ≤ k ∧ k < 6 * a + 6) ∨ ((b = 27 ∨ b = 28 ∨ b = 29) ∧ 12 * a ≤ k ∧ k < 12 * a + 12) ∨ (b = 31 ∧ 4 * a ≤ k ∧ k < 4 * a + 4)
def WHd (a : Int) : Int → Int → Prop := fun b k => hreg a b k ∨ (b = 9 ∧ k = 29)
theorem WHd_tp {a b k : Int} (w : WHd a b k) : layA b k = 0 ∧ ¬ (b = 9 ∧ k = 2) ∧ b ≠ 10 := by
  unfold WHd hreg at w
  by_cases q : b = 9
  · have : k = 29 := by omega
    rw [q, this]
    exact ⟨by decide, by omega, by omega⟩
  · exact ⟨layA_n k q (by omega), by omega, by omega⟩
theorem mtp.ew {h h1 : mH} {T : Int → Int} {n : Int} (H : mtp h T n) {W : Int → Int → Prop} (x : Ew W h h1) (hw : ∀ b k, W b k → layA b k = 0 ∧ ¬ (b = 9 ∧ k = 2) ∧ b ≠ 10) : mtp h1 T n := ⟨H.1.ew x fun b k w => (hw b k w).1, (x.2 9 2 fun w => (hw 9 2 w).2.1 ⟨rfl, rfl⟩).trans H.2.1, fun i i0 i1 => (x.2 10 i fun w => (hw 10 i w).2.2 rfl).trans (H.2.2 i i0 i1)⟩
theorem mhp.cg {h h1 : mH} {a : Int} {H : HD} (P : mhp h a H) (V : hdv H) (e : ∀ b k, hreg a b k → h1.M b k = h.M b k) : mhp h1 a H := by
  obtain ⟨p1, p2, p3, p4, p5, p6, ⟨p7, p8, p9⟩, p10⟩ := P
  obtain ⟨v1, v2, v3, _⟩ := V
  have e30 : h1.M 30 a = h.M 30 a := e _ _ (by unfold hreg; omega)
  refine ⟨(e _ _ (by unfold hreg; omega)).trans p1, (e _ _ (by unfold hreg; omega)).trans p2, (e _ _ (by unfold hreg; omega)).trans p3, fun i i0 i1 => ⟨(e _ _ (by unfold hreg; omega)).trans (p4 i i0 i1).1, (e _ _ (by unfold hreg; omega)).trans (p4 i i0 i1).2⟩, fun i i0 i1 => ⟨(e _ _ (by unfold hreg; omega)).trans (p5 i i0 i1).1, (e _ _ (by unfold hreg; omega)).trans (p5 i i0 i1).2⟩, fun i i0 i1 => ⟨(e _ _ (by unfold hreg; omega)).trans (p6 i i0 i1).1, (e _ _ (by unfold hreg; omega)).trans (p6 i i0 i1).2.1, (e _ _ (by unfold hreg; omega)).trans (p6 i i0 i1).2.2⟩, ?_, fun k k0 k1 => (e _ _ (by unfold hreg; omega)).trans (p10 k k0 k1)⟩
  rw [e30]
  exact ⟨p7, p8, p9⟩
theorem mtp.set {h : mH} {T : Int → Int} {n : Int} (H : mtp h T n) {b : Int} (k v : Int) (hb : 11 ≤ b) : mtp (h.set b k v) T n := ⟨H.1.st v (layA_n k (by omega) (by omega)), (Z_Mn (by omega)).trans H.2.1, fun i i0 i1 => (Z_Mn (by omega)).trans (H.2.2 i i0 i1)⟩
theorem pss_set (h : mH) (s : Int × Int) {b : Int} (k v : Int) (hb : b ≠ 9) : (pss h s).set b k v = pss (h.set b k v) s := pst_set h s.1 s.2 k v hb
theorem pss_lay {h : mH} (L : lay h) (s : Int × Int) : lay (pss h s) := pst_lay L s.1 s.2
theorem pss_n (h : mH) (s : Int × Int) {b k : Int} (q : b ≠ 9 ∨ (k ≠ 3 ∧ k ≠ 4)) : (pss h s).M b k = h.M b k := pst_n h s.1 s.2 q
theorem pss_N (h : mH) (s : Int × Int) : (pss h s).N = h.N := rfl
theorem pss_4 (h : mH) (s : Int × Int) : (pss h s).M 9 4 = s.2 := rfl
theorem gs_1 {n a : Int} (h0 : 0 ≤ a) (h1 : a ≤ n) : gs n (a, -1) := fun _ => by
  show 0 ≤ a ∧ a ≤ n
  exact ⟨h0, h1⟩
theorem R_itK {T : Int → Int} {N : Int} (hT : tpo T N) {a : Int} (a0 : 0 ≤ a) (a1 : a < 9) {h : mH} (Hm : mtp h T N) {H : HD} (V : hdv H) (P : mhp h a H) (G : mgv h H) (hk : H 0 0 < 6) {p : Int} (p0 : 0 ≤ p) (p1 : p ≤ N) (c : T (sk T p) = 107) : ∃ h1, Cl kM_item [vO 11 9, vI a] (pst h p (-1)) = some (none, pss h1 (itK T H (sk T p + 1, -1)).2) ∧ Ew (WHd a) h h1 ∧ mhp h1 a (itK T H (sk T p + 1, -1)).1 ∧ mgv h1 (itK T H (sk T p + 1, -1)).1 := by
  have L := Hm.1
  have sb := sk_b hT p0 p1
  have ql := tp_lt hT (a := sk T p) (by omega)
  have n160 := hT.2.1
  obtain ⟨s, hs⟩ : ∃ s : Int × Int, s = (sk T p + 1, -1) := ⟨_, rfl⟩
  have g : gs N s := by rw [hs]; exact gs_1 (by omega) (by omega)
  obtain ⟨k, hk'⟩ : ∃ k, k = H 0 0 := ⟨_, rfl⟩
  have V1 := V.1
  have P1 := P.1
  rw [← hk'] at hk V1 P1
  have e1 : Cl kM_plain [vO 11 9, vI 1, vI 9999] (pst h (sk T p + 1) (-1)) = some (some (vI (itK1 T s).1), pss h (itK1 T s).2) := by
    rw [hs] at g ⊢
    exact R_plain hT Hm g 9999 (by omega)
  have b1 : gs N (itK1 T s).2 ∧ 0 ≤ (itK1 T s).1 ∧ (itK1 T s).1 ≤ 9999 ∧ _ := nmS_b hT g (lo := 1) 9999 (by omega)
  have Hm2 := Hm.set (6 * a + k) (itK1 T s).1 (b := 21) (by omega)
  have e2 := R_sign hT Hm2 b1.1 45
  have g2 := sgn_g hT b1.1 (c := 45) (by decide)
  have im := imax_b 1 (itK1 T s).1
  have e4 : Cl kM_plain [vO 11 9, vI (imax 1 (itK1 T s).1), vI 9999] (pss (h.set 21 (6 * a + k) (itK1 T s).1) (sgn T 45 (itK1 T s).2)) = some (some (vI (itK2 T s).1), pss (h.set 21 (6 * a + k) (itK1 T s).1) (itK2 T s).2) := R_plain hT Hm2 g2 9999 (by omega)
  have L2 := Hm2.1
  have pk2 : (h.set 21 (6 * a + k) (itK1 T s).1).M 20 a = k := (Z_Mn (by omega)).trans P1
  have Hm3 := Hm2.set (6 * a + k) (itK2 T s).1 (b := 22) (by omega)
  have L3 := Hm3.1
  have pk3 : ((h.set 21 (6 * a + k) (itK1 T s).1).set 22 (6 * a + k) (itK2 T s).1).M 20 a = k := (Z_Mn (by omega)).trans pk2
  refine ⟨((h.set 21 (6 * a + k) (itK1 T s).1).set 22 (6 * a + k) (itK2 T s).1).set 20 a (k + 1), ?_, ?_, ?_, ?_⟩
  · rw [E_M_item, R_look hT Hm (-1) p0 p1, Z_bI, if_pos c, lm15 (pst_lay L _ _), pst_N, ln20 L, gd_t (by omega), pst_n (b := 20) _ _ _ (by omega), P1, if_pos hk, pst_3, pst_s3, Z_wI (z := sk T p + 1) (by omega), Z_hl, lm15 (pst_lay L _ _), pst_N, ln20 L, gd_t (by omega), e1, Z_bI, pst_n (b := 20) _ _ _ (by omega), P1, Z_wI (z := 6 * a) (by omega), Z_wI (z := 6 * a + k) (by omega), lm16 (pst_lay L _ _), pss_N, ln21 L, gd_t (by omega), pss_set _ _ _ _ (by omega), Z_hl, e2, Z_bV, lm15 (pss_lay L2 _), pss_N, ln20 L2, gd_t (by omega), gd_t (by omega), pss_n (b := 20) _ _ (by omega), pk2, Z_wI (z := 6 * a + k) (by omega), lm16 (pss_lay L2 _), ln21 L2, gd_t (by omega), pss_n (b := 21) _ _ (by omega), Z_Mt, D_max, Z_bI, e4, Z_bI, lm17 (pss_lay L2 _), pss_N, ln22 L2, gd_t (by omega), pss_set _ _ _ _ (by omega), Z_hl, lm15 (pss_lay L3 _), pss_N, ln20 L3, gd_t (by omega), gd_t (by omega), pss_n (b := 20) _ _ (by omega), pk3, Z_wI (by omega), pss_set _ _ _ _ (by omega), Z_hl, hs]
    rfl
  · exact ((Ew.st (W := WHd a) h _ (by unfold WHd hreg; omega)).tr (Ew.st _ _ (by unfold WHd hreg; omega))).tr (Ew.st _ _ (by unfold WHd hreg; omega))
  · obtain ⟨q1, q2, q3, q4, q5, q6, q7, q8⟩ := P
    rw [← hs]
    have f : ∀ b j, b ≠ 0 → b ≠ 1 → b ≠ 2 → (itK T H s).1 b j = H b j := fun b j n0 n1 n2 => by
      show up2 (up2 (up2 H 1 (H 0 0) (itK1 T s).1) 2 (H 0 0) (itK2 T s).1) 0 0 (H 0 0 + 1) b j = H b j
      rw [up2_n _ (Or.inl n0), up2_n _ (Or.inl n2), up2_n _ (Or.inl n1)]
    have f0 : (itK T H s).1 0 0 = k + 1 := by
      show up2 (up2 (up2 H 1 (H 0 0) (itK1 T s).1) 2 (H 0 0) (itK2 T s).1) 0 0 (H 0 0 + 1) 0 0 = k + 1
      rw [up2_s, ← hk']
    have f1 : ∀ j, (itK T H s).1 1 j = if j = k then (itK1 T s).1 else H 1 j := fun j => by
      show up2 (up2 (up2 H 1 (H 0 0) (itK1 T s).1) 2 (H 0 0) (itK2 T s).1) 0 0 (H 0 0 + 1) 1 j = _
      rw [up2_n _ (by omega), up2_n _ (by omega), up2_e, ← hk']
      by_cases w : j = k
      · rw [if_pos ⟨rfl, w⟩, if_pos w]
      · rw [if_neg fun y => w y.2, if_neg w]
    have f2 : ∀ j, (itK T H s).1 2 j = if j = k then (itK2 T s).1 else H 2 j := fun j => by
      show up2 (up2 (up2 H 1 (H 0 0) (itK1 T s).1) 2 (H 0 0) (itK2 T s).1) 0 0 (H 0 0 + 1) 2 j = _
      rw [up2_n _ (by omega), up2_e, ← hk']
      by_cases w : j = k
      · rw [if_pos ⟨rfl, w⟩, if_pos w]
      · rw [if_neg fun y => w y.2, if_neg w, up2_n _ (by omega)]
    unfold mhp
    rw [f0, f 3 0 (by decide) (by decide) (by decide), f 6 0 (by decide) (by decide) (by decide)]
    refine ⟨Z_Mt .., ?_, ?_, fun i i0 i1 => ?_, fun i i0 i1 => ?_, fun i i0 i1 => ?_, ?_, fun j j0 j1 => ?_⟩
    · rw [Z_Mn (by omega), Z_Mn (by omega), Z_Mn (by omega)]; exact q2
    · rw [Z_Mn (by omega), Z_Mn (by omega), Z_Mn (by omega)]; exact q3
    · have m1 : (((h.set 21 (6 * a + k) (itK1 T s).1).set 22 (6 * a + k) (itK2 T s).1).set 20 a (k + 1)).M 21 (6 * a + i) = if i = k then (itK1 T s).1 else h.M 21 (6 * a + i) := by
        rw [Z_Mn (by omega), Z_Mn (by omega), Z_Ms]
        by_cases w : i = k
        · rw [if_pos ⟨rfl, by omega⟩, if_pos w]
        · rw [if_neg (by omega), if_neg w]
      have m2 : (((h.set 21 (6 * a + k) (itK1 T s).1).set 22 (6 * a + k) (itK2 T s).1).set 20 a (k + 1)).M 22 (6 * a + i) = if i = k then (itK2 T s).1 else h.M 22 (6 * a + i) := by
        rw [Z_Mn (by omega), Z_Ms]
        by_cases w : i = k
        · rw [if_pos ⟨rfl, by omega⟩, if_pos w]
        · rw [if_neg (by omega), if_neg w, Z_Mn (by omega)]
      rw [f1, f2, m1, m2]
      by_cases w : i = k
      · rw [if_pos w, if_pos w, if_pos w, if_pos w]; exact ⟨rfl, rfl⟩
      · rw [if_neg w, if_neg w, if_neg w, if_neg w]
        exact q4 i i0 (by omega)
    · rw [f 4 i (by decide) (by decide) (by decide), f 5 i (by decide) (by decide) (by decide), Z_Mn (by omega), Z_Mn (by omega), Z_Mn (by omega), Z_Mn (by omega), Z_Mn (by omega), Z_Mn (by omega)]
      exact q5 i i0 i1
    · rw [f 7 i (by decide) (by decide) (by decide), f 8 i (by decide) (by decide) (by decide), f 9 i (by decide) (by decide) (by decide), Z_Mn (by omega), Z_Mn (by omega), Z_Mn (by omega), Z_Mn (by omega), Z_Mn (by omega), Z_Mn (by omega), Z_Mn (by omega), Z_Mn (by omega), Z_Mn (by omega)]
      exact q6 i i0 i1
    · rw [Z_Mn (by omega), Z_Mn (by omega), Z_Mn (by omega)]
      exact ⟨q7.1, q7.2.1, fun m => by rw [f 10 _ (by decide) (by decide) (by decide)]; exact q7.2.2 m⟩
    · rw [f 11 j (by decide) (by decide) (by decide), Z_Mn (by omega), Z_Mn (by omega), Z_Mn (by omega)]
      exact q8 j j0 j1
  · rw [← hs]
    have f : ∀ j, (itK T H s).1 11 j = H 11 j := fun j => by
      show up2 (up2 (up2 H 1 (H 0 0) (itK1 T s).1) 2 (H 0 0) (itK2 T s).1) 0 0 (H 0 0 + 1) 11 j = H 11 j
      rw [up2_n _ (by omega), up2_n _ (by omega), up2_n _ (by omega)]
    unfold mgv
    rw [Z_Mn (by omega), Z_Mn (by omega), Z_Mn (by omega)]
    exact ⟨G.1, G.2.1, fun j hj => by rw [f]; exact G.2.2 j hj⟩
theorem R_item8 {T : Int → Int} {N : Int} (hT : tpo T N) {a : Int} (a0 : 0 ≤ a) (a1 : a < 9) {h : mH} (Hm : mtp h T N) {H : HD} (P : mhp h a H) {p : Int} (p0 : 0 ≤ p) (p1 : p ≤ N) (c : ¬ (T (sk T p) = 107 ∧ H 0 0 < 6)) : Cl kM_item [vO 11 9, vI a] (pst h p (-1)) = Rn kM_item 8 [vO 11 9, vI a, vI (T (sk T p)), vU] [] (pst h (sk T p) (-1)) := by
  have L := Hm.1
  rw [E_M_item, R_look hT Hm (-1) p0 p1, Z_bI]
  by_cases q : T (sk T p) = 107
  · rw [if_pos q, lm15 (pst_lay L _ _), pst_N, ln20 L, gd_t (by omega), pst_n (b := 20) _ _ _ (by omega), P.1, if_neg fun w => c ⟨q, w⟩]
  · rw [if_neg q]
theorem R_item16 {a : Int} (a0 : 0 ≤ a) (a1 : a < 9) {h : mH} (L : lay h) {H : HD} (P : mhp h a H) {q c : Int} (c1 : ¬ (c = 121 ∧ H 3 0 < 6)) (c2 : ¬ (c = 109 ∧ H 6 0 < 12)) (u : mV) : Rn kM_item 8 [vO 11 9, vI a, vI c, u] [] (pst h q (-1)) = Rn kM_item 16 [vO 11 9, vI a, vI c, u] [] (pst h q (-1)) := by
  rw [E_M_item_8]
  by_cases q1 : c = 121
  · have q2 : ¬ c = 109 := by omega
    rw [if_pos q1, lm18 (pst_lay L _ _), pst_N, ln23 L, gd_t (by omega), pst_n (b := 23) _ _ _ (by omega), P.2.1, if_neg fun w => c1 ⟨q1, w⟩, if_neg q2]
  · rw [if_neg q1]
    by_cases q2 : c = 109
    · rw [if_pos q2, lm21 (pst_lay L _ _), pst_N, ln26 L, gd_t (by omega), pst_n (b := 26) _ _ _ (by omega), P.2.2.1, if_neg fun w => c2 ⟨q2, w⟩]
    · rw [if_neg q2]
/-- the step's width against those that were there -/
theorem R_rs2 {a : Int} (a0 : 0 ≤ a) (a1 : a < 9) {h : mH} (L : lay h) {H : HD} (V : hdv H) (P : mhp h a H) {n : Int} {s : Int × Int} (sp : s.2 = -1 → 0 < s.1 ∧ s.1 ≤ 160) : ∀ (m : Nat) (i : Int), i + m = H 3 0 → 0 ≤ i → (∀ j, 0 ≤ j → j < i → H 4 j ≠ n) → ∃ u, Rn kM_readStep 2 [vO 11 9, vI a, vI n, vI i] [] (pss h s) = Rn kM_readStep 7 [vO 11 9, vI a, vI n, u] [] (pss h (@ite _ (hasW H n) (Classical.propDecidable _) (wlS s) s)) := by
  have V2 := V.2.1
  intro m
  induction m with
  | zero =>
    intro i e i0 no
    refine ⟨vI i, ?_⟩
    have nw : ¬ hasW H n := fun ⟨j, j0, j1, j2⟩ => no j j0 (by omega) j2
    rw [if_neg nw, E_M_readStep_2, lm18 (pss_lay L _), pss_N, ln23 L, gd_t (by omega), pss_n (b := 23) _ _ (by omega), P.2.1, if_neg (by omega)]
  | succ m ih =>
    intro i e i0 no
    by_cases s0 : s.2 = -1
    · have pi := (P.2.2.2.2.1 i i0 (by omega)).1
      obtain ⟨sp1, sp2⟩ := sp s0
      rw [E_M_readStep_2, lm18 (pss_lay L _), pss_N, ln23 L, gd_t (by omega), pss_n (b := 23) _ _ (by omega), P.2.1, if_pos (by omega), pss_4, if_pos s0, lm19 (pss_lay L _), ln24 L, Z_wI (z := 6 * a) (by omega), Z_wI (z := 6 * a + i) (by omega), gd_t (by omega), pss_n (b := 24) _ _ (by omega), pi, Z_wI (z := i + 1) (by omega)]
      by_cases q : H 4 i = n
      · have w : hasW H n := ⟨i, i0, by omega, q⟩
        have e1 : Cl kM_wrongAtLast [vO 11 9] (pss h s) = some (none, pss h (wlS s)) := by
          have := R_wal h s.1 s.2
          rw [if_pos s0, Z_wI (by omega)] at this
          unfold wlS
          rw [if_pos s0]
          exact this
        have w2 : (wlS s).2 ≠ -1 := by
          unfold wlS
          rw [if_pos s0]
          show s.1 - 1 ≠ -1
          omega
        rw [if_pos q, e1, Z_bV, if_pos w]
        refine ⟨vI (i + 1), ?_⟩
        rw [E_M_readStep_2, lm18 (pss_lay L _), pss_N, ln23 L, gd_t (by omega), pss_n (b := 23) _ _ (by omega), P.2.1]
        by_cases z : i + 1 < H 3 0
        · rw [if_pos z, pss_4, if_neg w2]
        · rw [if_neg z]
      · rw [if_neg q]
        exact ih (i + 1) (by omega) (by omega) fun j j0 j1 => by
          by_cases z : j = i
          · rw [z]; exact q
          · exact no j j0 (by omega)
    · have ws : wlS s = s := if_neg s0
      refine ⟨vI i, ?_⟩
      have e2 : (@ite _ (hasW H n) (Classical.propDecidable _) (wlS s) s) = s := by
        by_cases w : hasW H n
        · rw [if_pos w, ws]
        · rw [if_neg w]
      rw [e2, E_M_readStep_2, lm18 (pss_lay L _), pss_N, ln23 L, gd_t (by omega), pss_n (b := 23) _ _ (by omega), P.2.1, if_pos (by omega), pss_4, if_neg s0]
theorem R_itY {T : Int → Int} {N : Int} (hT : tpo T N) {a : Int} (a0 : 0 ≤ a) (a1 : a < 9) {h : mH} (Hm : mtp h T N) {H : HD} (V : hdv H) (P : mhp h a H) (G : mgv h H) (hk : H 3 0 < 6) {q : Int} (q0 : 0 ≤ q) (q1 : q < N) (u : mV) : ∃ h1, Rn kM_item 8 [vO 11 9, vI a, vI 121, u] [] (pst h q (-1)) = some (none, pss h1 (itY T H (q + 1, -1)).2) ∧ Ew (WHd a) h h1 ∧ mhp h1 a (itY T H (q + 1, -1)).1 ∧ mgv h1 (itY T H (q + 1, -1)).1 := by
  have L := Hm.1
  have n160 := hT.2.1
  obtain ⟨s, hs⟩ : ∃ s : Int × Int, s = (q + 1, -1) := ⟨_, rfl⟩
  have g : gs N s := by rw [hs]; exact gs_1 (by omega) (by omega)
  obtain ⟨k, hk'⟩ : ∃ k, k = H 3 0 := ⟨_, rfl⟩
  have V1 := V.2.1
  have P1 := P.2.1
  rw [← hk'] at hk V1 P1
  have e1 : Cl kM_number [vO 11 9, vI 1, vI 400] (pst h (q + 1) (-1)) = some (some (vI (itY1 T s).1), pss h (itY1 T s).2) := by
    rw [hs] at g ⊢
    exact R_num hT Hm g 1 400
  have b1 : gs N (itY1 T s).2 ∧ 0 ≤ (itY1 T s).1 ∧ (itY1 T s).1 ≤ 9999 ∧ ((itY1 T s).2.2 = -1 → s.2 = -1 ∧ 1 ≤ (itY1 T s).1 ∧ (itY1 T s).1 ≤ 400 ∧ ¬ (48 ≤ T (itY1 T s).2.1 ∧ T (itY1 T s).2.1 ≤ 57)) := nmS_b hT g (lo := 1) 400 (by omega)
  have p1 : (itY1 T s).2.2 = -1 → 0 < (itY1 T s).2.1 := nmS_pos hT g (lo := 1) 400 (by omega)
  obtain ⟨u2, e2⟩ := R_rs2 a0 a1 L V P (n := (itY1 T s).1) (s := (itY1 T s).2) (fun z => ⟨p1 z, by have := b1.1 z; omega⟩) (H 3 0).toNat 0 (by omega) (by omega) (fun j j0 j1 => by omega)
  have o2 := itY2_ok hT (H := H) g
  have e2' : Rn kM_readStep 2 [vO 11 9, vI a, vI (itY1 T s).1, vI 0] [] (pss h (itY1 T s).2) = Rn kM_readStep 7 [vO 11 9, vI a, vI (itY1 T s).1, u2] [] (pss h (itY2 T H s)) := e2
  have e3 : Cl kM_closeNumber [vO 11 9] (pss h (itY2 T H s)) = some (none, pss h (itY2 T H s)) := R_close hT Hm o2.1 fun z => by
    have w := (o2.2 z).2
    rw [w]
    rw [w] at z
    exact (b1.2.2.2 z).2.2.2
  have e4 := R_sign hT Hm o2.1 58
  have g2 := sgn_g hT o2.1 (c := 58) (by decide)
  have Hm2 := Hm.set (6 * a + k) (itY1 T s).1 (b := 24) (by omega)
  have L2 := Hm2.1
  have pk2 : (h.set 24 (6 * a + k) (itY1 T s).1).M 23 a = k := (Z_Mn (by omega)).trans P1
  have e5 : Cl kM_plain [vO 11 9, vI 0, vI 99] (pss (h.set 24 (6 * a + k) (itY1 T s).1) (sgn T 58 (itY2 T H s))) = some (some (vI (itY3 T H s).1), pss (h.set 24 (6 * a + k) (itY1 T s).1) (itY3 T H s).2) := R_plain hT Hm2 g2 99 (by omega)
  have Hm3 := Hm2.set (6 * a + k) (itY3 T H s).1 (b := 25) (by omega)
  have L3 := Hm3.1
  have pk3 : ((h.set 24 (6 * a + k) (itY1 T s).1).set 25 (6 * a + k) (itY3 T H s).1).M 23 a = k := (Z_Mn (by omega)).trans pk2
  have f : ∀ b j, b ≠ 3 → b ≠ 4 → b ≠ 5 → (itY T H s).1 b j = H b j := fun b j n0 n1 n2 => by
    show up2 (up2 (up2 H 4 (H 3 0) (itY1 T s).1) 5 (H 3 0) (itY3 T H s).1) 3 0 (H 3 0 + 1) b j = H b j
    rw [up2_n _ (Or.inl n0), up2_n _ (Or.inl n2), up2_n _ (Or.inl n1)]
  refine ⟨((h.set 24 (6 * a + k) (itY1 T s).1).set 25 (6 * a + k) (itY3 T H s).1).set 23 a (k + 1), ?_, ?_, ?_, ?_⟩
  · rw [E_M_item_8, if_pos rfl, lm18 (pst_lay L _ _), pst_N, ln23 L, gd_t (by omega), pst_n (b := 23) _ _ _ (by omega), P1, if_pos hk, pst_3, pst_s3, Z_wI (z := q + 1) (by omega), Z_hl, E_M_readStep, e1, Z_bI, e2', E_M_readStep_7, e3, Z_bV, e4, Z_bV, lm18 (pss_lay L _), pss_N, ln23 L, gd_t (by omega), pss_n (b := 23) _ _ (by omega), P1, Z_wI (z := 6 * a) (by omega), Z_wI (z := 6 * a + k) (by omega), lm19 (pss_lay L _), ln24 L, gd_t (by omega), pss_set _ _ _ _ (by omega), Z_hl, lm18 (pss_lay L2 _), pss_N, ln23 L2, gd_t (by omega), e5, Z_bI, pss_n (b := 23) _ _ (by omega), pk2, Z_wI (z := 6 * a + k) (by omega), lm20 (pss_lay L2 _), pss_N, ln25 L2, gd_t (by omega), pss_set _ _ _ _ (by omega), Z_hl, lm18 (pss_lay L3 _), pss_N, ln23 L3, gd_t (by omega), gd_t (by omega), pss_n (b := 23) _ _ (by omega), pk3, Z_wI (by omega), pss_set _ _ _ _ (by omega), Z_hl, Z_bV, hs]
    rfl
  · exact ((Ew.st (W := WHd a) h _ (by unfold WHd hreg; omega)).tr (Ew.st _ _ (by unfold WHd hreg; omega))).tr (Ew.st _ _ (by unfold WHd hreg; omega))
  · obtain ⟨r1, r2, r3, r4, r5, r6, r7, r8⟩ := P
    rw [← hs]
    have f0 : (itY T H s).1 3 0 = k + 1 := by
      show up2 (up2 (up2 H 4 (H 3 0) (itY1 T s).1) 5 (H 3 0) (itY3 T H s).1) 3 0 (H 3 0 + 1) 3 0 = k + 1
      rw [up2_s, ← hk']
    have f1 : ∀ j, (itY T H s).1 4 j = if j = k then (itY1 T s).1 else H 4 j := fun j => by
      show up2 (up2 (up2 H 4 (H 3 0) (itY1 T s).1) 5 (H 3 0) (itY3 T H s).1) 3 0 (H 3 0 + 1) 4 j = _
      rw [up2_n _ (by omega), up2_n _ (by omega), up2_e, ← hk']
      by_cases w : j = k
      · rw [if_pos ⟨rfl, w⟩, if_pos w]
      · rw [if_neg fun y => w y.2, if_neg w]
    have f2 : ∀ j, (itY T H s).1 5 j = if j = k then (itY3 T H s).1 else H 5 j := fun j => by
      show up2 (up2 (up2 H 4 (H 3 0) (itY1 T s).1) 5 (H 3 0) (itY3 T H s).1) 3 0 (H 3 0 + 1) 5 j = _
      rw [up2_n _ (by omega), up2_e, ← hk']
      by_cases w : j = k
      · rw [if_pos ⟨rfl, w⟩, if_pos w]
      · rw [if_neg fun y => w y.2, if_neg w, up2_n _ (by omega)]
    unfold mhp
    rw [f0, f 0 0 (by decide) (by decide) (by decide), f 6 0 (by decide) (by decide) (by decide)]
    refine ⟨?_, Z_Mt .., ?_, fun i i0 i1 => ?_, fun i i0 i1 => ?_, fun i i0 i1 => ?_, ?_, fun j j0 j1 => ?_⟩
    · rw [Z_Mn (by omega), Z_Mn (by omega), Z_Mn (by omega)]; exact r1
    · rw [Z_Mn (by omega), Z_Mn (by omega), Z_Mn (by omega)]; exact r3
    · rw [f 1 i (by decide) (by decide) (by decide), f 2 i (by decide) (by decide) (by decide), Z_Mn (by omega), Z_Mn (by omega), Z_Mn (by omega), Z_Mn (by omega), Z_Mn (by omega), Z_Mn (by omega)]
      exact r4 i i0 i1
    · have m1 : (((h.set 24 (6 * a + k) (itY1 T s).1).set 25 (6 * a + k) (itY3 T H s).1).set 23 a (k + 1)).M 24 (6 * a + i) = if i = k then (itY1 T s).1 else h.M 24 (6 * a + i) := by
        rw [Z_Mn (by omega), Z_Mn (by omega), Z_Ms]
        by_cases w : i = k
        · rw [if_pos ⟨rfl, by omega⟩, if_pos w]
        · rw [if_neg (by omega), if_neg w]
      have m2 : (((h.set 24 (6 * a + k) (itY1 T s).1).set 25 (6 * a + k) (itY3 T H s).1).set 23 a (k + 1)).M 25 (6 * a + i) = if i = k then (itY3 T H s).1 else h.M 25 (6 * a + i) := by
        rw [Z_Mn (by omega), Z_Ms]
        by_cases w : i = k
        · rw [if_pos ⟨rfl, by omega⟩, if_pos w]
        · rw [if_neg (by omega), if_neg w, Z_Mn (by omega)]
      rw [f1, f2, m1, m2]
      by_cases w : i = k
      · rw [if_pos w, if_pos w, if_pos w, if_pos w]; exact ⟨rfl, rfl⟩
      · rw [if_neg w, if_neg w, if_neg w, if_neg w]
        exact r5 i i0 (by omega)
    · rw [f 7 i (by decide) (by decide) (by decide), f 8 i (by decide) (by decide) (by decide), f 9 i (by decide) (by decide) (by decide), Z_Mn (by omega), Z_Mn (by omega), Z_Mn (by omega), Z_Mn (by omega), Z_Mn (by omega), Z_Mn (by omega), Z_Mn (by omega), Z_Mn (by omega), Z_Mn (by omega)]
      exact r6 i i0 i1
    · rw [Z_Mn (by omega), Z_Mn (by omega), Z_Mn (by omega)]
      exact ⟨r7.1, r7.2.1, fun m => by rw [f 10 _ (by decide) (by decide) (by decide)]; exact r7.2.2 m⟩
    · rw [f 11 j (by decide) (by decide) (by decide), Z_Mn (by omega), Z_Mn (by omega), Z_Mn (by omega)]
      exact r8 j j0 j1
  · rw [← hs]
    unfold mgv
    rw [Z_Mn (by omega), Z_Mn (by omega), Z_Mn (by omega)]
    exact ⟨G.1, G.2.1, fun j hj => by rw [f 11 _ (by decide) (by decide) (by decide)]; exact G.2.2 j hj⟩
