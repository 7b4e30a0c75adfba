/-! THE PURE PART, the reference's spread: rows of years and of months -/
def mkn (h : mH) (a : Int) (H : HD) : Prop := h.M 20 a = H 0 0 ∧ ∀ i, 0 ≤ i → i < H 0 0 → h.M 21 (6 * a + i) = H 1 i ∧ h.M 22 (6 * a + i) = H 2 i
theorem R_knows1 {h : mH} (L : lay h) {a : Int} (a0 : 0 ≤ a) (a1 : a < 9) {H : HD} (V : hdv H) (S : mkn h a H) (y : Int) : ∀ (m : Nat) (k : Int), k + m = H 0 0 → 0 ≤ k → (∀ i, 0 ≤ i → i < k → ¬ (H 1 i ≤ y ∧ y ≤ H 2 i)) → Rn kM_knowsYear 1 [vO 11 9, vI a, vI y, vI k] [] h = some (some (vI (cb (srcY H y))), h) := by
  have v0 := V.1
  intro m
  induction m with
  | zero =>
    intro k e k0 I
    rw [E_M_knowsYear_1, lm15 L, ln20 L, gd_t (by omega), S.1, if_neg (by omega), gd_t (by decide), cb_f fun ⟨i, i0, i1, i2⟩ => I i i0 (by omega) i2]
  | succ m ih =>
    intro k e k0 I
    have i1 : wI (wI (6 * a) + k) = 6 * a + k := by rw [Z_wI (z := 6 * a) (by omega), Z_wI (by omega)]
    rw [E_M_knowsYear_1, lm15 L, ln20 L, gd_t (by omega), S.1, if_pos (by omega), i1, lm16 L, lm17 L, ln21 L, ln22 L, gd_t (by omega), gd_t (by omega), (S.2 k k0 (by omega)).1, (S.2 k k0 (by omega)).2, R_in, Z_bI]
    by_cases q : H 1 k ≤ y ∧ y ≤ H 2 k
    · rw [bz_t q, if_neg (by decide), gd_t (by decide), cb_t ⟨k, k0, by omega, q⟩]
    · rw [bz_f q, if_pos rfl, Z_wI (by omega)]
      exact ih (k + 1) (by omega) (by omega) fun i i0 i1 => by
        by_cases z : i = k
        · rw [z]; exact q
        · exact I i i0 (by omega)
theorem R_knows {h : mH} (L : lay h) {a : Int} (a0 : 0 ≤ a) (a1 : a < 9) {H : HD} (V : hdv H) (S : mkn h a H) (y : Int) : Cl kM_knowsYear [vO 11 9, vI a, vI y] h = some (some (vI (cb (srcY H y))), h) := by
  rw [E_M_knowsYear]
  exact R_knows1 L a0 a1 V S y (H 0 0).toNat 0 (by have := V.1; omega) (by omega) fun i i0 i1 => by omega
theorem fq.cg {h h1 : mH} (Q : fq h) (a : h1.M 9 34 = h.M 9 34) (b : h1.M 9 35 = h.M 9 35) (c : ∀ k, h1.M 35 k = h.M 35 k) (d : ∀ u, 1 ≤ u → u ≤ 9999 → h1.M 36 u = h.M 36 u) : fq h1 := by
  obtain ⟨f, q2, q3, q4, q5⟩ := Q
  refine ⟨by rw [a]; exact f, ?_, fun i i0 i1 => ?_, fun i j i0 ij j1 => ?_, fun u u0 u1 => by rw [d u u0 u1]; exact q5 u u0 u1⟩
  · rw [b, ← q2]
    exact cn_cg 9999 1 fun i i0 i1 => by rw [d i i0 (by omega)]
  · rw [b] at i1
    have := q3 i i0 i1
    rw [a, c, d _ this.1 this.2.1]
    exact this
  · rw [b] at j1
    rw [a, c, c]
    exact q4 i j i0 ij j1
theorem gL_le {l : Int} (h0 : 0 ≤ l) (h : l ≠ 1152921504606846976 → l / 16384 ≤ 989901) : gL l ≤ 1152921504606846976 := by
  by_cases q : l = 1152921504606846976
  · rw [q, gL_F]; exact Int.le_refl _
  · rw [gL_n q]
    have := h q
    omega
/-- no year waits -/
def wz (h : mH) : Prop := ∀ u, 1 ≤ u → u ≤ 9999 → h.M 36 u = 0
def WSp (a : Int) : Int → Int → Prop := fun b k => WFl a b k ∨ WMo a b k
theorem WSp_lay {a b k : Int} (w : WSp a b k) : layA b k = 0 := w.elim WFl_lay WMo_lay
theorem mkn.ew {h h1 : mH} {a p : Int} {H : HD} (S : mkn h a H) (x : Ew (WFl p) h h1) : mkn h1 a H := ⟨(x.2 20 a fun y => by unfold WFl at y; omega).trans S.1, fun i i0 i1 => ⟨(x.2 21 _ fun y => by unfold WFl at y; omega).trans (S.2 i i0 i1).1, (x.2 22 _ fun y => by unfold WFl at y; omega).trans (S.2 i i0 i1).2⟩⟩
theorem R_sp1 {a : Int} (a0 : 0 ≤ a) (a1 : a < 9) {H : HD} (V : hdv H) (u3 u4 u5 u6 u7 : mV) : ∀ (m : Nat) (y : Int) (h : mH), y + m = 10001 → 0 ≤ y → lay h → mkn h a H → fq h → (∀ u, y ≤ u → 1 ≤ u → u ≤ 9999 → h.M 36 u = 0) → (∀ u, 1 ≤ u → u < y → u ≤ 9999 → (srcY H u → flu h a u = 0 ∧ h.M 36 u = 1) ∧ (¬ srcY H u → flu h a u = 1152921504606846976 ∧ h.M 36 u = 0)) →
    ∃ h', Rn kM_spread 1 [vO 11 9, vI a, vI y, u3, u4, u5, u6, u7] [] h = Rn kM_spread 1 [vO 11 9, vI a, vI 10001, u3, u4, u5, u6, u7] [] h' ∧ Ew (WFl a) h h' ∧ fq h' ∧ ∀ u, 1 ≤ u → u ≤ 9999 → (srcY H u → flu h' a u = 0 ∧ h'.M 36 u = 1) ∧ (¬ srcY H u → flu h' a u = 1152921504606846976 ∧ h'.M 36 u = 0) := by
  intro m
  induction m with
  | zero =>
    intro y h e y0 L S Q Z I
    exact ⟨h, by rw [show y = 10001 by omega], Ew.rf _ _, Q, fun u u0 u1 => I u u0 (by omega) u1⟩
  | succ m ih =>
    intro y h e y0 L S Q Z I
    have ii : wI (wI (10001 * a) + y) = 10001 * a + y := by rw [Z_wI (z := 10001 * a) (by omega), Z_wI (by omega)]
    have x1 : Ew (WFl a) h (h.set 33 (10001 * a + y) 1152921504606846976) := Ew.st h _ (Or.inr (Or.inr (Or.inr ⟨rfl, by omega, by omega⟩)))
    have L1 := L.ew x1 fun _ _ => WFl_lay
    have x2 : Ew (WFl a) (h.set 33 (10001 * a + y) 1152921504606846976) ((h.set 33 (10001 * a + y) 1152921504606846976).set 36 y 0) := Ew.st _ _ (Or.inr (Or.inr (Or.inl rfl)))
    have L2 := L1.ew x2 fun _ _ => WFl_lay
    generalize hh : (h.set 33 (10001 * a + y) 1152921504606846976).set 36 y 0 = g at x2 L2
    have g36 : ∀ u, 1 ≤ u → u ≤ 9999 → g.M 36 u = h.M 36 u := fun u u0 u1 => by
      rw [← hh, Z_Ms]
      by_cases t : u = y
      · rw [if_pos ⟨rfl, t⟩, t]
        exact (Z y (by omega) (by omega) (by omega)).symm
      · rw [if_neg (by omega), Z_Mn (by omega)]
    have Qg : fq g := by
      refine Q.cg ?_ ?_ (fun k => ?_) g36
      · rw [← hh, Z_Mn (by omega), Z_Mn (by omega)]
      · rw [← hh, Z_Mn (by omega), Z_Mn (by omega)]
      · rw [← hh, Z_Mn (by omega), Z_Mn (by omega)]
    have gf : ∀ u, flu g a u = if u = y then 1152921504606846976 else flu h a u := fun u => by
      show g.M 33 (10001 * a + u) = _
      rw [← hh, Z_Mn (by omega), Z_Ms]
      by_cases t : u = y
      · rw [if_pos ⟨rfl, by omega⟩, if_pos t]
      · rw [if_neg (by omega), if_neg t]
        rfl
    have Sg : mkn g a H := (S.ew x1).ew x2
    -- without a known year here
    have no : ¬ (1 ≤ y ∧ y ≤ 9999 ∧ srcY H y) → ∃ h', Rn kM_spread 1 [vO 11 9, vI a, vI (y + 1), u3, u4, u5, u6, u7] [] g = Rn kM_spread 1 [vO 11 9, vI a, vI 10001, u3, u4, u5, u6, u7] [] h' ∧ Ew (WFl a) h h' ∧ fq h' ∧ ∀ u, 1 ≤ u → u ≤ 9999 → (srcY H u → flu h' a u = 0 ∧ h'.M 36 u = 1) ∧ (¬ srcY H u → flu h' a u = 1152921504606846976 ∧ h'.M 36 u = 0) := fun ns => by
      obtain ⟨h', e1, x3, r⟩ := ih (y + 1) g (by omega) (by omega) L2 Sg Qg (fun u uy u0 u1 => by rw [g36 u u0 u1]; exact Z u (by omega) u0 u1) (fun u u0 uy u1 => by
        rw [gf, g36 u u0 u1]
        by_cases t : u = y
        · rw [if_pos t]
          refine ⟨fun w => absurd ⟨by omega, by omega, by rw [← t]; exact w⟩ ns, fun _ => ⟨rfl, Z u (by omega) u0 u1⟩⟩
        · rw [if_neg t]
          exact I u u0 (by omega) u1)
      exact ⟨h', e1, (x1.tr x2).tr x3, r⟩
    rw [E_M_spread_1, if_pos (by omega), ii, lm30 L, ln33 L, gd_t (by omega), Z_hl, lm33 L1, Z_Ns, ln36 L, gd_t (by omega), gd_t (by decide), Z_hl, hh, Z_wI (z := y + 1) (by omega)]
    by_cases q0 : y ≤ 0
    · rw [if_pos q0]
      exact no fun z => by omega
    · rw [if_neg q0]
      by_cases q1 : y ≤ 9999
      · rw [if_pos q1, R_knows L2 a0 a1 V Sg, Z_bI]
        by_cases q : srcY H y
        · have x3 : Ew (WFl a) g (g.set 33 (10001 * a + y) 0) := Ew.st _ _ (Or.inr (Or.inr (Or.inr ⟨rfl, by omega, by omega⟩)))
          have L3 := L2.ew x3 fun _ _ => WFl_lay
          have Q3 : fq (g.set 33 (10001 * a + y) 0) := Qg
          have z36 : (g.set 33 (10001 * a + y) 0).M 36 y = 0 := by
            rw [Z_Mn (by omega), g36 y (by omega) q1]
            exact Z y (by omega) (by omega) q1
          have pe := R_push L3 (y := y) (by omega) (by omega) Q3
          rw [if_pos z36] at pe
          have Q4 := fq_push Q3 (by omega : 1 ≤ y) q1 z36
          have x4 := psh_ew (g.set 33 (10001 * a + y) 0) y a
          have p36 : ∀ u, (psh (g.set 33 (10001 * a + y) 0) y).M 36 u = if u = y then 1 else g.M 36 u := fun u => by
            rw [psh_M, if_neg (by omega), if_neg (by omega)]
            by_cases t : u = y
            · rw [if_pos ⟨rfl, t⟩, if_pos t]
            · rw [if_neg (by omega), if_neg t, Z_Mn (by omega)]
          have pf : ∀ u, flu (psh (g.set 33 (10001 * a + y) 0) y) a u = if u = y then 0 else flu h a u := fun u => by
            show (psh (g.set 33 (10001 * a + y) 0) y).M 33 (10001 * a + u) = _
            rw [psh_M, if_neg (by omega), if_neg (by omega), if_neg (by omega), Z_Ms]
            by_cases t : u = y
            · rw [if_pos ⟨rfl, by omega⟩, if_pos t]
            · rw [if_neg (by omega), if_neg t]
              have := gf u
              rw [if_neg t] at this
              exact this
          obtain ⟨h', e1, x5, r⟩ := ih (y + 1) _ (by omega) (by omega) (L3.ew x4 fun _ _ => WFl_lay) ((Sg.ew x3).ew x4) Q4 (fun u uy u0 u1 => by rw [p36, if_neg (by omega), g36 u u0 u1]; exact Z u (by omega) u0 u1) (fun u u0 uy u1 => by
            rw [pf, p36]
            by_cases t : u = y
            · rw [if_pos t, if_pos t]
              exact ⟨fun _ => ⟨rfl, rfl⟩, fun w => absurd (by rw [t]; exact q) w⟩
            · rw [if_neg t, if_neg t, g36 u u0 u1]
              exact I u u0 (by omega) u1)
          refine ⟨h', ?_, (((x1.tr x2).tr x3).tr x4).tr x5, r⟩
          rw [cb_t q, if_neg (by decide), lm30 L2, ← hh, Z_Ns, Z_Ns, ln33 L, hh, gd_t (by omega), Z_hl, pe, Z_bV]
          exact e1
        · rw [cb_f q, if_pos rfl]
          exact no fun z => q z.2.2
      · rw [if_neg q1]
        exact no fun z => q1 z.2.1
theorem R_spread {a : Int} (a0 : 0 ≤ a) (a1 : a < 9) {H : HD} (V : hdv H) (H0 : H 10 0 = 0) {h : mH} (L : lay h) (P : mhp h a H) (wz0 : wz h) {LY NY EY LM NM EM : Int → Int} (RY : rsp 10000 (2 * H 3 0) (stO H) (stC H) (srcY H) LY NY EY) (RM : rsp 13 (H 6 0) (prO H) (prC H) (srcM H) LM NM EM) :
    ∃ h', Cl kM_spread [vO 11 9, vI a] h = some (none, h') ∧ Ew (WSp a) h h' ∧ wz h' ∧ (∀ u, 1 ≤ u → u ≤ 9999 → h'.M 33 (10001 * a + u) = gL (LY u)) ∧ ∀ m, 1 ≤ m → m ≤ 12 → h'.M 34 (13 * a + m) = gL (LM m) := by
  obtain ⟨p1, p2, p3, p4, p5, p6, p7, p8⟩ := P
  have KY := st_ok V
  have BY := rsp_lbo RY (by decide)
  have x1 : Ew (WFl a) h ((h.set 9 34 0).set 9 35 0) := (Ew.st (W := WFl a) h _ (Or.inl ⟨rfl, Or.inl rfl⟩)).tr (Ew.st _ _ (Or.inl ⟨rfl, Or.inr rfl⟩))
  have L1 := L.ew x1 fun _ _ => WFl_lay
  have S1 : mkn ((h.set 9 34 0).set 9 35 0) a H := mkn.ew ⟨p1, p4⟩ x1
  have T1 : mst ((h.set 9 34 0).set 9 35 0) a H := mst.ew ⟨p2, p5⟩ x1
  have z1 : ∀ u, 1 ≤ u → u ≤ 9999 → ((h.set 9 34 0).set 9 35 0).M 36 u = 0 := fun u u0 u1 => by
    rw [Z_Mn (by omega), Z_Mn (by omega)]
    exact wz0 u u0 u1
  have e34 : ((h.set 9 34 0).set 9 35 0).M 9 34 = 0 := by rw [Z_Mn (by omega), Z_Mt]
  have e35 : ((h.set 9 34 0).set 9 35 0).M 9 35 = 0 := Z_Mt ..
  have Q1 : fq ((h.set 9 34 0).set 9 35 0) := by
    refine ⟨by rw [e34]; decide, ?_, fun i i0 i1 => ?_, fun i j i0 ij j1 => ?_, fun u u0 u1 => Or.inl (z1 u u0 u1)⟩
    · rw [e35]
      exact cn_0 _ _ fun i i0 i1 => by rw [z1 i i0 (by omega)]; decide
    · rw [e35] at i1; omega
    · rw [e35] at j1; omega
  obtain ⟨h2, e2, x2, Q2, I2⟩ := R_sp1 a0 a1 V vU vU vU vU vU 10001 0 _ (by decide) (by decide) L1 S1 Q1 (fun u _ u0 u1 => z1 u u0 u1) (fun u u0 u1 _ => by omega)
  have L2 := L1.ew x2 fun _ _ => WFl_lay
  have F2 : FI h2 a a H LY := ⟨L2, T1.ew x2, Q2, fun u u0 u1 => by
    have b := BY.1 u u0 (by omega)
    have g0 := gL_le b.1 fun z => (b.2.2 z).2
    have g1 := gL_0 b.1
    by_cases q : srcY H u
    · have l0 := (RY.2.1 u u0 (by omega)).mpr q
      rw [((I2 u u0 u1).1 q).1, l0]
      exact ⟨by decide, by decide, by decide, fun _ => by decide⟩
    · rw [((I2 u u0 u1).2 q).1, ((I2 u u0 u1).2 q).2]
      exact ⟨g0, by decide, by decide, fun z => absurd z (by decide)⟩⟩
  have C2 : clo h2 a H 0 0 := fun u l u0 u1 nw nf => by
    by_cases q : srcY H u
    · exact absurd ((I2 u u0 u1).1 q).2 nw
    · exact absurd ((I2 u u0 u1).2 q).1 nf
  have A2 : fat h2 a H := fun u u0 u1 => by
    by_cases q : srcY H u
    · exact Or.inl ((I2 u u0 u1).1 q).1
    · exact Or.inr (Or.inl ((I2 u u0 u1).2 q).1)
  obtain ⟨h3, e3, x3, F3, N3, C3, A3, d3⟩ := R_flood0 a0 a1 V a0 a1 BY (msr h2 a).toNat h2 vU vU F2 C2 A2 (by omega)
  have W3 : wz h3 := fun u u0 u1 => (F3.2.2.1.2.2.2.2 u u0 u1).elim id fun z => absurd z (N3 u u0 u1)
  have Y3 : ∀ u, 1 ≤ u → u < 10000 → flu h3 a u = gL (LY u) := flu_eq KY (by decide) RY (fun u u0 u1 => ⟨(F3.2.2.2 u u0 (by omega)).1, (F3.2.2.2 u u0 (by omega)).2.1⟩) (fun u b c u0 u1 nf ⟨l, l0, l1, eb, ec, nz⟩ => by
    have := C3 u l u0 (by omega) (N3 u u0 (by omega)) nf l0 l1 (fun z => by omega) (by rw [eb]; exact nz)
    rw [eb, ec] at this
    exact this) (fun u u0 u1 z => by
    have q := (RY.2.1 u u0 u1).mp z
    have := d3 u u0 (by omega)
    rw [((I2 u u0 (by omega)).1 q).1] at this
    exact this)
  have x13 : Ew (WFl a) h h3 := (x1.tr x2).tr x3
  have L3 := L.ew x13 fun _ _ => WFl_lay
  have fx : ∀ b k, b ≠ 9 → b ≠ 33 → b ≠ 35 → b ≠ 36 → h3.M b k = h.M b k := fun b k n1 n2 n3 n4 => x13.2 b k fun y => by unfold WFl at y; omega
  obtain ⟨q1, q2, q3⟩ := p7
  have Mb : ∀ m : Nat, bt' (h.M 30 a) m ↔ H 10 (m : Int) = 1 := q3
  obtain ⟨h4, w3, e4, x4, I4⟩ := R_mon10 a0 a1 V H0 q1 q2 Mb 12 1 h3 vU vU vU vU vU (by decide) (by decide) L3 (fx 30 a (by decide) (by decide) (by decide) (by decide)) (fun u u0 u1 => by omega)
  have L4 := L3.ew x4 fun _ _ => WMo_lay
  have P4 : mpr h4 a H := by
    have fy : ∀ b k, b ≠ 9 → b ≠ 33 → b ≠ 35 → b ≠ 36 → b ≠ 34 → h4.M b k = h.M b k := fun b k n1 n2 n3 n4 n5 => (x4.2 b k fun y => n5 y.1).trans (fx b k n1 n2 n3 n4)
    refine ⟨(fy 26 a (by decide) (by decide) (by decide) (by decide) (by decide)).trans p3, fun i i0 i1 => ?_⟩
    rw [fy 27 _ (by decide) (by decide) (by decide) (by decide) (by decide), fy 28 _ (by decide) (by decide) (by decide) (by decide) (by decide), fy 29 _ (by decide) (by decide) (by decide) (by decide) (by decide)]
    exact p6 i i0 i1
  have lo4 : mlo h4 a LM := fun u u0 u1 => by
    have b := RM.1 u u0 (by omega)
    have g0 := gL_le b.1 fun z => by have := (b.2.2 z).2; omega
    by_cases q : srcM H u
    · have l0 := (RM.2.1 u u0 (by omega)).mpr q
      rw [(I4 u u0 u1).1 q, l0]
      exact ⟨by decide, by decide, by decide⟩
    · rw [(I4 u u0 u1).2 q]
      exact ⟨g0, by decide, by decide⟩
  have up4 : mup h4 a LM 0 := fun u u0 u1 nf st => by
    have b := RM.1 u u0 (by omega)
    by_cases z : LM u = 0
    · rw [(I4 u u0 u1).1 ((RM.2.1 u u0 (by omega)).mp z)]
      exact gL_0 b.1
    · exfalso
      obtain ⟨⟨c, ed, q⟩, _⟩ := RM.2.2.2.1 u u0 (by omega) nf z
      have eb := edl_b (pr_ok V) u0 (by omega) ed
      have bb := RM.1 (NM u) eb.1 eb.2.1
      have nb : LM (NM u) ≠ 1152921504606846976 := by have := b.2.2 nf; omega
      have := bb.2.2 nb
      omega
  obtain ⟨h5, e5, x5, lo5, up5⟩ := R_mon23 a0 a1 V RM 12 0 h4 w3 vU vU vU vU (by decide) (by decide) L4 P4 lo4 up4
  refine ⟨h5, ?_, ((x13.mono fun _ _ => Or.inl).tr ((x4.tr x5).mono fun _ _ => Or.inr)), fun u u0 u1 => ?_, fun u u0 u1 => ?_, fun u u0 u1 => ?_⟩
  · rw [E_M_spread, Z_hl, Z_hl, e2, E_M_spread_1, if_neg (by decide), E_M_flood, e3, Z_bV, e4, e5]
  · rw [(x4.tr x5).2 36 u fun y => by have := y.1; omega]
    exact W3 u u0 u1
  · rw [(x4.tr x5).2 33 _ fun y => by have := y.1; omega]
    exact Y3 u u0 (by omega)
  · have b := RM.1 u u0 (by omega)
    have l := lo5 u u0 u1
    unfold mfl at l
    by_cases q : LM u = 1152921504606846976
    · rw [q, gL_F] at l ⊢
      omega
    · have := up5 u u0 u1 q (by have := (b.2.2 q).1; omega)
      unfold mfl at this
      omega
