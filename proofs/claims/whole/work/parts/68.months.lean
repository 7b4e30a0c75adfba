/-! THE PURE PART, the reference's rows of months, twelve rounds -/
theorem it0 {T : Int → Int} {N : Int} (hT : tpo T N) {H : HD} (V : hdv H) {s : Int × Int} (g : gs N s) (s0 : s.2 = -1) (z : (itS T H s).2.2 = -1) : (itS T H s).1 10 0 = H 10 0 := by
  have gl : ∀ c : Int, T (sk T s.1) = c → c ≠ -1 → gs N (sk T s.1 + 1, -1) := fun c h hc => fun _ => by
    obtain ⟨g1, g2⟩ := g s0
    have sb := sk_b hT g1 g2
    have := tp_lt hT (a := sk T s.1) (by omega)
    dsimp only
    omega
  unfold itS at z ⊢
  by_cases a1 : T (sk T s.1) = 107 ∧ H 0 0 < 6
  · rw [if_pos a1]
    exact itK_n T H _ 0 (by decide) (by decide) (by decide)
  · rw [if_neg a1] at z ⊢
    by_cases a2 : T (sk T s.1) = 121 ∧ H 3 0 < 6
    · rw [if_pos a2]
      exact itY_n T H _ 0 (by decide) (by decide) (by decide)
    · rw [if_neg a2] at z ⊢
      by_cases a3 : T (sk T s.1) = 109 ∧ H 6 0 < 12
      · rw [if_pos a3]
        exact itM_n T H _ 0 (by decide) (by decide) (by decide) (by decide)
      · rw [if_neg a3] at z ⊢
        by_cases a4 : T (sk T s.1) = 111
        · rw [if_pos a4] at z ⊢
          have w := itO_v hT V (gl 111 a4 (by decide))
          have b1 := nmS_b hT (gl 111 a4 (by decide)) (lo := 1) 12 (by omega)
          have e := (w.2 z).2.2.2.2
          have m1 : 1 ≤ (itM1 T (sk T s.1 + 1, -1)).1 := (b1.2.2.2 e).2.1
          rw [itO_1, if_neg (by omega)]
        · rw [if_neg a4]
          by_cases a5 : T (sk T s.1) = 115 ∧ H 11 0 = -1
          · rw [if_pos a5]; exact itX_n T H 0 _ 0 (by decide)
          · rw [if_neg a5]
            by_cases a6 : T (sk T s.1) = 114 ∧ H 11 1 = -1
            · rw [if_pos a6]; exact itX_n T H 1 _ 0 (by decide)
            · rw [if_neg a6]
              by_cases a7 : T (sk T s.1) = 98 ∧ H 11 2 = -1
              · rw [if_pos a7]; exact itX_n T H 2 _ 0 (by decide)
              · rw [if_neg a7]
                by_cases a8 : T (sk T s.1) = 108 ∧ H 11 3 = -1
                · rw [if_pos a8]; exact itX_n T H 3 _ 0 (by decide)
                · rw [if_neg a8]
theorem its_r {T : Int → Int} : ∀ (f : Nat) (H : HD) (s : Int × Int), (itsS T f H s).2.2 = -1 → s.2 = -1 := by
  intro f H s z
  cases f with
  | zero => exact z
  | succ n =>
    unfold itsS at z
    by_cases q : s.2 = -1 ∧ T (sk T s.1) = 44
    · exact q.1
    · rw [if_neg q] at z; exact z
theorem its0 {T : Int → Int} {N : Int} (hT : tpo T N) : ∀ (f : Nat) (H : HD) (s : Int × Int), (s.2 = -1 → hdv H) → gs N s → (itsS T f H s).2.2 = -1 → (itsS T f H s).1 10 0 = H 10 0 := by
  intro f
  induction f with
  | zero => intro H s _ _ _; rfl
  | succ n ih =>
    intro H s V g z
    unfold itsS at z ⊢
    by_cases q : s.2 = -1 ∧ T (sk T s.1) = 44
    · rw [if_pos q] at z ⊢
      obtain ⟨g1, g2⟩ := g q.1
      have sb := sk_b hT g1 g2
      have lt := tp_lt hT (a := sk T s.1) (by rw [q.2]; decide)
      have g' : gs N (sk T s.1 + 1, -1) := gs_1 (by omega) (by omega)
      have v := itS_v hT (V q.1) g' rfl
      have r := its_r n _ _ z
      rw [ih _ _ (fun w => (v.2 w).1) v.1 z, it0 hT (V q.1) g' rfl r]
    · rw [if_neg q]
theorem hdP_0 {T : Int → Int} {N : Int} (hT : tpo T N) (h : hdw T = -1) : (hdP T).1 10 0 = 0 := by
  have v := itS_v hT H00_v (s := (0, -1)) (gs_1 (Int.le_refl 0) hT.1) rfl
  have z : (hdP T).2.2 = -1 := by
    by_cases w : (hdP T).2.2 = -1
    · exact w
    · unfold hdw fnS at h
      rw [if_neg fun y => w y.1] at h
      exact h
  have r := its_r 159 _ _ z
  have e := its0 hT 159 (itS T H00 (0, -1)).1 (itS T H00 (0, -1)).2 (fun w => (v.2 w).1) v.1 z
  rw [it0 hT H00_v (s := (0, -1)) (gs_1 (Int.le_refl 0) hT.1) rfl r] at e
  exact e
def srcM (H : HD) (m : Int) : Prop := H 10 m = 1 ∨ ((∀ i, 1 ≤ i → i ≤ 12 → H 10 i ≠ 1) ∧ m = 1)
def srcY (H : HD) (y : Int) : Prop := ∃ i, 0 ≤ i ∧ i < H 0 0 ∧ H 1 i ≤ y ∧ y ≤ H 2 i
def mnI (a b : Int) : Int := if a ≤ b then a else b
theorem mnI_b (a b : Int) : mnI a b ≤ a ∧ mnI a b ≤ b ∧ (mnI a b = a ∨ mnI a b = b) := by
  unfold mnI
  split <;> omega
theorem R_minL (a b : Int) (h : mH) : Cl kJ_minL [vL a, vL b] h = some (some (vL (mnI a b)), h) := by
  rw [E_J_minL]
  unfold mnI
  by_cases q : a ≤ b
  · rw [if_pos q, if_pos ((Z_cmpG a b).mpr q)]
  · rw [if_neg q, if_neg fun w => q ((Z_cmpG a b).mp w)]
def mfl (h : mH) (a u : Int) : Int := h.M 34 (13 * a + u)
def mpr (h : mH) (a : Int) (H : HD) : Prop := h.M 26 a = H 6 0 ∧ ∀ i, 0 ≤ i → i < H 6 0 → h.M 27 (12 * a + i) = H 7 i ∧ h.M 28 (12 * a + i) = H 8 i ∧ h.M 29 (12 * a + i) = H 9 i
def WMo (a : Int) : Int → Int → Prop := fun b k => b = 34 ∧ 13 * a ≤ k ∧ k < 13 * a + 13
theorem WMo_lay {a b k : Int} (w : WMo a b k) : layA b k = 0 := layA_n _ (by have := w.1; omega) (by have := w.1; omega)
theorem mpr.ew {h h1 : mH} {a p : Int} {H : HD} (S : mpr h a H) (x : Ew (WMo p) h h1) : mpr h1 a H := ⟨(x.2 26 a fun y => by unfold WMo at y; omega).trans S.1, fun i i0 i1 => ⟨(x.2 27 _ fun y => by unfold WMo at y; omega).trans (S.2 i i0 i1).1, (x.2 28 _ fun y => by unfold WMo at y; omega).trans (S.2 i i0 i1).2.1, (x.2 29 _ fun y => by unfold WMo at y; omega).trans (S.2 i i0 i1).2.2⟩⟩
def mlo (h : mH) (a : Int) (len : Int → Int) : Prop := ∀ u, 1 ≤ u → u ≤ 12 → gL (len u) ≤ mfl h a u ∧ mfl h a u ≤ 1152921504606846976 ∧ 0 ≤ mfl h a u
def mup (h : mH) (a : Int) (len : Int → Int) (r : Int) : Prop := ∀ u, 1 ≤ u → u ≤ 12 → len u ≠ 1152921504606846976 → len u % 16384 ≤ r → mfl h a u ≤ gL (len u)
def muk (h : mH) (a : Int) (H : HD) (len : Int → Int) (r k : Int) : Prop := ∀ u l, 1 ≤ u → u ≤ 12 → 0 ≤ l → l < k → prO H u l ≠ 0 → len u ≠ 1152921504606846976 → len (prO H u l) + 16384 * prC H l + 1 = len u → len u % 16384 ≤ r + 1 → mfl h a u ≤ gL (len u)
theorem R_mon25 {a : Int} (a0 : 0 ≤ a) (a1 : a < 9) {H : HD} (V : hdv H) {src : Int → Prop} {len nx en : Int → Int} (R : rsp 13 (H 6 0) (prO H) (prC H) src len nx en) {r : Int} (r0 : 0 ≤ r) (r1 : r < 12) : ∀ (m : Nat) (k : Int) (h : mH) (u4 u5 u6 u7 : mV), k + m = H 6 0 → 0 ≤ k → lay h → mpr h a H → mlo h a len → mup h a len r → muk h a H len r k →
    ∃ h' w3 w4 w5 w6 w7, Rn kM_spread 25 [vO 11 9, vI a, vI r, vI k, u4, u5, u6, u7] [] h = Rn kM_spread 23 [vO 11 9, vI a, vI (r + 1), w3, w4, w5, w6, w7] [] h' ∧ Ew (WMo a) h h' ∧ mlo h' a len ∧ mup h' a len (r + 1) := by
  have K := pr_ok V
  have v6 := V.2.2.1
  intro m
  induction m with
  | zero =>
    intro k h u4 u5 u6 u7 e k0 L P lo up uk
    refine ⟨h, vI k, u4, u5, u6, u7, ?_, Ew.rf _ _, lo, fun u u0 u1 nf st => ?_⟩
    · rw [E_M_spread_25, lm21 L, ln26 L, gd_t (by omega), P.1, if_neg (by omega), Z_wI (by omega)]
    · by_cases z : len u = 0
      · exact up u u0 u1 nf (by rw [z]; omega)
      · obtain ⟨⟨c, ⟨l, l0, l1, e1, e2, e3⟩, q⟩, _⟩ := R.2.2.2.1 u u0 (by omega) nf z
        exact uk u l u0 u1 l0 (by omega) (by rw [e1]; exact e3) nf (by rw [e1, e2]; exact q) st
  | succ m ih =>
    intro k h u4 u5 u6 u7 e k0 L P lo up uk
    have s := V.2.2.2.2.2.1 k k0 (by omega)
    obtain ⟨p7, p8, p9⟩ := P.2 k k0 (by omega)
    have la := lo (H 7 k) (by omega) (by omega)
    have lb := lo (H 8 k) (by omega) (by omega)
    have i1 : wI (wI (12 * a) + k) = 12 * a + k := by rw [Z_wI (z := 12 * a) (by omega), Z_wI (by omega)]
    have i2 : wI (wI (13 * a) + H 7 k) = 13 * a + H 7 k := by rw [Z_wI (z := 13 * a) (by omega), Z_wI (by omega)]
    have i3 : wI (wI (13 * a) + H 8 k) = 13 * a + H 8 k := by rw [Z_wI (z := 13 * a) (by omega), Z_wI (by omega)]
    have ic : wL (wL (100000 * H 9 k) + 1) = 100000 * H 9 k + 1 := by rw [Z_wL (z := 100000 * H 9 k) (by omega), Z_wL (by omega)]
    have t1 : wL (h.M 34 (13 * a + H 8 k) + (100000 * H 9 k + 1)) = h.M 34 (13 * a + H 8 k) + (100000 * H 9 k + 1) := Z_wL (by unfold mfl at lb; omega)
    have A := mnI_b (h.M 34 (13 * a + H 7 k)) (h.M 34 (13 * a + H 8 k) + (100000 * H 9 k + 1))
    generalize hA : mnI (h.M 34 (13 * a + H 7 k)) (h.M 34 (13 * a + H 8 k) + (100000 * H 9 k + 1)) = va at A
    have x1 : Ew (WMo a) h (h.set 34 (13 * a + H 7 k) va) := Ew.st h _ ⟨rfl, by omega, by omega⟩
    have L1 := L.ew x1 fun _ _ => WMo_lay
    have ma : (h.set 34 (13 * a + H 7 k) va).M 34 (13 * a + H 7 k) = va := Z_Mt ..
    have mb : (h.set 34 (13 * a + H 7 k) va).M 34 (13 * a + H 8 k) = h.M 34 (13 * a + H 8 k) := Z_Mn (by omega)
    have t2 : wL (va + (100000 * H 9 k + 1)) = va + (100000 * H 9 k + 1) := Z_wL (by unfold mfl at la lb; omega)
    have B := mnI_b (h.M 34 (13 * a + H 8 k)) (va + (100000 * H 9 k + 1))
    generalize hB : mnI (h.M 34 (13 * a + H 8 k)) (va + (100000 * H 9 k + 1)) = vb at B
    have x2 : Ew (WMo a) (h.set 34 (13 * a + H 7 k) va) ((h.set 34 (13 * a + H 7 k) va).set 34 (13 * a + H 8 k) vb) := Ew.st _ _ ⟨rfl, by omega, by omega⟩
    have mf : ∀ u, mfl ((h.set 34 (13 * a + H 7 k) va).set 34 (13 * a + H 8 k) vb) a u = if u = H 8 k then vb else if u = H 7 k then va else mfl h a u := fun u => by
      unfold mfl
      rw [Z_Ms]
      by_cases z : u = H 8 k
      · rw [if_pos ⟨rfl, by omega⟩, if_pos z]
      · rw [if_neg (by omega), if_neg z, Z_Ms]
        by_cases w : u = H 7 k
        · rw [if_pos ⟨rfl, by omega⟩, if_pos w]
        · rw [if_neg (by omega), if_neg w]
    have fa : mfl h a (H 7 k) = h.M 34 (13 * a + H 7 k) := rfl
    have fb : mfl h a (H 8 k) = h.M 34 (13 * a + H 8 k) := rfl
    rw [fa] at la
    rw [fb] at lb
    -- the rows' lengths differ by this line at most
    have Ra := R.1 (H 7 k) (by omega) (by omega)
    have Rb := R.1 (H 8 k) (by omega) (by omega)
    have ea : prO H (H 7 k) k = H 8 k := by unfold prO; rw [if_pos rfl]
    have eb : prO H (H 8 k) k = H 7 k := by unfold prO; rw [if_neg (by omega), if_pos rfl]
    have ga : len (H 8 k) ≠ 1152921504606846976 → gL (len (H 7 k)) ≤ gL (len (H 8 k)) + 100000 * H 9 k + 1 := fun z => gL_step ⟨Rb.1, by have := Rb.2.2 z; omega, by have := Rb.2.2 z; omega⟩ ⟨Ra.1, fun y => by have := Ra.2.2 y; omega⟩ (by omega) (R.2.2.1 (H 8 k) (H 7 k) (H 9 k) (by omega) (by omega) z ⟨k, k0, by omega, eb, rfl, by omega⟩)
    have gb : len (H 7 k) ≠ 1152921504606846976 → gL (len (H 8 k)) ≤ gL (len (H 7 k)) + 100000 * H 9 k + 1 := fun z => gL_step ⟨Ra.1, by have := Ra.2.2 z; omega, by have := Ra.2.2 z; omega⟩ ⟨Rb.1, fun y => by have := Rb.2.2 y; omega⟩ (by omega) (R.2.2.1 (H 7 k) (H 8 k) (H 9 k) (by omega) (by omega) z ⟨k, k0, by omega, ea, rfl, by omega⟩)
    have va0 : gL (len (H 7 k)) ≤ va ∧ 0 ≤ va := by
      by_cases z : len (H 8 k) = 1152921504606846976
      · rw [z, gL_F] at lb
        omega
      · have := ga z
        omega
    have vb0 : gL (len (H 8 k)) ≤ vb ∧ 0 ≤ vb := by
      by_cases z : len (H 7 k) = 1152921504606846976
      · rw [z, gL_F] at va0
        omega
      · have := gb z
        omega
    have lo2 : mlo ((h.set 34 (13 * a + H 7 k) va).set 34 (13 * a + H 8 k) vb) a len := fun u u0 u1 => by
      rw [mf]
      split
      · rename_i z; rw [z]; omega
      · split
        · rename_i z; rw [z]; omega
        · exact lo u u0 u1
    have dn : ∀ u, mfl ((h.set 34 (13 * a + H 7 k) va).set 34 (13 * a + H 8 k) vb) a u ≤ mfl h a u := fun u => by
      rw [mf]
      split
      · rename_i z; rw [z, fb]; omega
      · split
        · rename_i z; rw [z, fa]; omega
        · exact Int.le_refl _
    obtain ⟨h', w3, w4, w5, w6, w7, e3, x3, lo3, up3⟩ := ih (k + 1) ((h.set 34 (13 * a + H 7 k) va).set 34 (13 * a + H 8 k) vb) (vL (100000 * H 9 k + 1)) vU (vI (13 * a + H 7 k)) (vI (13 * a + H 8 k)) (by omega) (by omega) (L1.ew x2 fun _ _ => WMo_lay) ((P.ew x1).ew x2) lo2 (fun u u0 u1 nf st => Int.le_trans (dn u) (up u u0 u1 nf st)) (fun u l u0 u1 l0 l1 nz nf q st => by
      by_cases z : l = k
      · rw [z] at nz q
        have hc : prC H k = H 9 k := rfl
        rw [hc] at q
        by_cases y : u = H 7 k
        · rw [y, ea] at q
          rw [y] at nf st ⊢
          have nb : len (H 8 k) ≠ 1152921504606846976 := by have := Ra.2.2 nf; omega
          have b2 := Rb.2.2 nb
          have hb := up (H 8 k) (by omega) (by omega) nb (by omega)
          rw [mf, if_neg (by omega), if_pos rfl, gL_n nf]
          rw [gL_n nb, fb] at hb
          omega
        · by_cases y' : u = H 8 k
          · rw [y', eb] at q
            rw [y'] at nf st ⊢
            have na : len (H 7 k) ≠ 1152921504606846976 := by have := Rb.2.2 nf; omega
            have b2 := Ra.2.2 na
            have ha := up (H 7 k) (by omega) (by omega) na (by omega)
            rw [mf, if_pos rfl, gL_n nf]
            rw [gL_n na, fa] at ha
            omega
          · exfalso
            apply nz
            unfold prO
            rw [if_neg fun t => y t.symm, if_neg fun t => y' t.symm]
      · exact Int.le_trans (dn u) (uk u l u0 u1 l0 (by omega) nz nf q st))
    refine ⟨h', w3, w4, w5, w6, w7, ?_, (x1.tr x2).tr x3, lo3, up3⟩
    rw [E_M_spread_25, lm21 L, ln26 L, gd_t (by omega), P.1, if_pos (by omega), i1, lm22 L, lm23 L, lm24 L, ln27 L, ln28 L, ln29 L, gd_t (by omega), gd_t (by omega), gd_t (by omega), p7, p8, p9, i2, i3, lm31 L, ln34 L, gd_t (by omega), gd_t (by omega), ic, t1, R_minL, Z_bL, hA, ln34 L, gd_t (by omega), Z_hl, lm31 L1, Z_Ns, ln34 L, gd_t (by omega), gd_t (by omega), mb, ma, t2, R_minL, Z_bL, hB, Z_Ns, ln34 L, gd_t (by omega), Z_hl, Z_wI (z := k + 1) (by omega)]
    exact e3
theorem R_mon23 {a : Int} (a0 : 0 ≤ a) (a1 : a < 9) {H : HD} (V : hdv H) {src : Int → Prop} {len nx en : Int → Int} (R : rsp 13 (H 6 0) (prO H) (prC H) src len nx en) : ∀ (m : Nat) (r : Int) (h : mH) (u3 u4 u5 u6 u7 : mV), r + m = 12 → 0 ≤ r → lay h → mpr h a H → mlo h a len → mup h a len r →
    ∃ h', Rn kM_spread 23 [vO 11 9, vI a, vI r, u3, u4, u5, u6, u7] [] h = some (none, h') ∧ Ew (WMo a) h h' ∧ mlo h' a len ∧ mup h' a len 12 := by
  intro m
  induction m with
  | zero =>
    intro r h u3 u4 u5 u6 u7 e r0 L P lo up
    exact ⟨h, by rw [E_M_spread_23, if_neg (by omega)], Ew.rf _ _, lo, by rw [show (12 : Int) = r by omega]; exact up⟩
  | succ m ih =>
    intro r h u3 u4 u5 u6 u7 e r0 L P lo up
    obtain ⟨h1, w3, w4, w5, w6, w7, e1, x1, lo1, up1⟩ := R_mon25 a0 a1 V R r0 (by omega) (H 6 0).toNat 0 h u4 u5 u6 u7 (by have := V.2.2.1; omega) (by omega) L P lo up (fun u l _ _ l0 l1 => by omega)
    obtain ⟨h2, e2, x2, lo2, up2⟩ := ih (r + 1) h1 w3 w4 w5 w6 w7 (by omega) (by omega) (L.ew x1 fun _ _ => WMo_lay) (P.ew x1) lo1 up1
    exact ⟨h2, by rw [E_M_spread_23, if_pos (by omega), e1]; exact e2, x1.tr x2, lo2, up2⟩
/-- the known months laid, then twelve rounds -/
theorem R_mon10 {a : Int} (a0 : 0 ≤ a) (a1 : a < 9) {H : HD} (V : hdv H) (H0 : H 10 0 = 0) {M : Int} (M0 : 0 ≤ M) (M1 : M < 8192) (Mb : ∀ m : Nat, bt' M m ↔ H 10 (m : Int) = 1) : ∀ (m : Nat) (k : Int) (h : mH) (u3 u4 u5 u6 u7 : mV), k + m = 13 → 1 ≤ k → lay h → h.M 30 a = M → (∀ u, 1 ≤ u → u < k → (srcM H u → mfl h a u = 0) ∧ (¬ srcM H u → mfl h a u = 1152921504606846976)) →
    ∃ h' w3, Rn kM_spread 10 [vO 11 9, vI a, vI k, u3, u4, u5, u6, u7] [] h = Rn kM_spread 23 [vO 11 9, vI a, vI 0, w3, u4, u5, u6, u7] [] h' ∧ Ew (WMo a) h h' ∧ ∀ u, 1 ≤ u → u ≤ 12 → (srcM H u → mfl h' a u = 0) ∧ (¬ srcM H u → mfl h' a u = 1152921504606846976) := by
  intro m
  induction m with
  | zero =>
    intro k h u3 u4 u5 u6 u7 e k0 L hm I
    exact ⟨h, u3, by rw [E_M_spread_10, if_neg (by omega)], Ew.rf _ _, fun u u0 u1 => I u u0 (by omega)⟩
  | succ m ih =>
    intro k h u3 u4 u5 u6 u7 e k0 L hm I
    have ii : wI (wI (13 * a) + k) = 13 * a + k := by rw [Z_wI (z := 13 * a) (by omega), Z_wI (by omega)]
    have none_ : M = 0 → ∀ i, 1 ≤ i → i ≤ 12 → H 10 i ≠ 1 := fun z i i0 i1 w => by
      have := (Mb i.toNat).mpr (by rw [show ((i.toNat : Nat) : Int) = i by omega]; exact w)
      rw [z] at this
      exact bt_0 _ this
    have some_ : M ≠ 0 → ¬ ∀ i, 1 ≤ i → i ≤ 12 → H 10 i ≠ 1 := fun z w => z (bt_none (n := 13) M0 (by omega) fun j hj b => by
      have := (Mb j).mp b
      by_cases t : j = 0
      · rw [t] at this
        have e0 : H 10 ((0 : Nat) : Int) = 0 := H0
        omega
      · exact w j (by omega) (by omega) this)
    -- what the place gets
    have go : ∀ (b : Prop), (srcM H k ↔ b) → ∀ s0, (b → s0 = (1 : Int)) → (¬ b → s0 = 0) → ∃ h' w3, Rn kM_spread 18 [vO 11 9, vI a, vI k, u3, u4, u5, u6, u7] [vI s0] h = Rn kM_spread 23 [vO 11 9, vI a, vI 0, w3, u4, u5, u6, u7] [] h' ∧ Ew (WMo a) h h' ∧ ∀ u, 1 ≤ u → u ≤ 12 → (srcM H u → mfl h' a u = 0) ∧ (¬ srcM H u → mfl h' a u = 1152921504606846976) := by
      intro b hb s0 y1 y0
      have put : ∀ v : Int, (srcM H k → v = 0) → (¬ srcM H k → v = 1152921504606846976) → ∃ h' w3, Rn kM_spread 10 [vO 11 9, vI a, vI (k + 1), vI s0, u4, u5, u6, u7] [] (h.set 34 (13 * a + k) v) = Rn kM_spread 23 [vO 11 9, vI a, vI 0, w3, u4, u5, u6, u7] [] h' ∧ Ew (WMo a) h h' ∧ ∀ u, 1 ≤ u → u ≤ 12 → (srcM H u → mfl h' a u = 0) ∧ (¬ srcM H u → mfl h' a u = 1152921504606846976) := by
        intro v v1 v0
        have x1 : Ew (WMo a) h (h.set 34 (13 * a + k) v) := Ew.st h _ ⟨rfl, by omega, by omega⟩
        obtain ⟨h', w3, e1, x2, r⟩ := ih (k + 1) (h.set 34 (13 * a + k) v) (vI s0) u4 u5 u6 u7 (by omega) (by omega) (L.ew x1 fun _ _ => WMo_lay) ((Z_Mn (by omega)).trans hm) (fun u u0 u1 => by
          unfold mfl
          rw [Z_Ms]
          by_cases z : u = k
          · rw [if_pos ⟨rfl, by omega⟩, z]
            exact ⟨v1, v0⟩
          · rw [if_neg (by omega)]
            exact I u u0 (by omega))
        exact ⟨h', w3, e1, x1.tr x2, r⟩
      rw [E_M_spread_18, ii, lm31 L, ln34 L, Z_wI (z := k + 1) (by omega)]
      by_cases q : b
      · rw [if_neg (by rw [y1 q]; decide), gd_t (by omega), Z_hl]
        exact put 0 (fun _ => rfl) (fun z => absurd (hb.mpr q) z)
      · rw [if_pos (y0 q), gd_t (by omega), Z_hl]
        exact put 1152921504606846976 (fun z => absurd (hb.mp z) q) (fun _ => rfl)
    rw [E_M_spread_10, if_pos (by omega), lm25 L, ln30 L, gd_t (by omega), hm]
    by_cases q : M = 0
    · rw [if_pos q]
      have nn := none_ q
      by_cases w : k = 1
      · rw [if_pos w]
        exact go True ⟨fun _ => trivial, fun _ => Or.inr ⟨nn, w⟩⟩ 1 (fun _ => rfl) (fun z => absurd trivial z)
      · rw [if_neg w]
        exact go False ⟨fun z => z.elim (fun t => nn k k0 (by omega) t) fun t => w t.2, fun z => z.elim⟩ 0 (fun z => z.elim) (fun _ => rfl)
    · rw [if_neg q, gd_t (by omega)]
      have nn := some_ q
      have eb : iand (ishr M k) 1 = M / ((2 ^ k.toNat : Nat) : Int) % 2 := by
        have := iand_bit (M := M) (k := k.toNat) M0 (by omega) (by omega)
        rw [show ((k.toNat : Nat) : Int) = k by omega] at this
        exact this
      have mb := Mb k.toNat
      rw [show ((k.toNat : Nat) : Int) = k by omega] at mb
      by_cases w : H 10 k = 1
      · have t : iand (ishr M k) 1 = 1 := by rw [eb]; exact mb.mpr w
        rw [if_pos t]
        exact go True ⟨fun _ => trivial, fun _ => Or.inl w⟩ 1 (fun _ => rfl) (fun z => absurd trivial z)
      · have t : ¬ iand (ishr M k) 1 = 1 := by rw [eb]; exact fun z => w (mb.mp z)
        rw [if_neg t]
        exact go False ⟨fun z => z.elim (fun t => w t) fun t => nn t.1, fun z => z.elim⟩ 0 (fun z => z.elim) (fun _ => rfl)
