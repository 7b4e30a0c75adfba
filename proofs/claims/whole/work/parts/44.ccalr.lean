/-! THE PURE PART, a calendar's text; the class reads it -/
/-- below c0 only W is written -/
def Fb (c0 : Int) (W : Int → Int → Prop) (h h' : mH) : Prop := (∀ b k, b ≤ c0 → ¬ W b k → h'.M b k = h.M b k) ∧ (∀ b, b ≤ c0 → h'.N b = h.N b) ∧ h.cnt ≤ h'.cnt ∧ h'.X = h.X
theorem Fb.rf (c0 : Int) (W : Int → Int → Prop) (h : mH) : Fb c0 W h h := ⟨fun _ _ _ _ => rfl, fun _ _ => rfl, Nat.le_refl _, rfl⟩
theorem Fb.tr {c0 : Int} {W : Int → Int → Prop} {h h1 h2 : mH} (x : Fb c0 W h h1) (y : Fb c0 W h1 h2) : Fb c0 W h h2 := ⟨fun b k q w => (y.1 b k q w).trans (x.1 b k q w), fun b q => (y.2.1 b q).trans (x.2.1 b q), Nat.le_trans x.2.2.1 y.2.2.1, y.2.2.2.trans x.2.2.2⟩
theorem Ew.fb {c0 : Int} {V W : Int → Int → Prop} {h h1 : mH} (x : Ew V h h1) (hw : ∀ b k, b ≤ c0 → V b k → W b k) : Fb c0 W h h1 := ⟨fun b k q w => x.2 b k fun v => w (hw b k q v), fun b _ => by rw [x.N], by rw [x.cnt]; exact Nat.le_refl _, x.X⟩
theorem Fr.fb {c0 : Int} {V W : Int → Int → Prop} {c s : Nat} {h h1 : mH} (x : Fr V c s h h1) (hc : c0 ≤ (h.cnt : Int)) (hw : ∀ b k, b ≤ c0 → V b k → W b k) : Fb c0 W h h1 := ⟨fun b k q w => x.1 b k (by omega) fun v => w (hw b k q v), fun b q => x.2.1 b (by omega), x.2.2.1, x.2.2.2.2.2⟩
theorem rtp.fb {c0 : Int} {h h1 : mH} {r : Int} {T : Int → Int} {n : Int} (H : rtp h r T n) (x : Fb c0 (WR r) h h1) (hr : r ≤ c0) (h2 : 2 ≤ c0) : rtp h1 r T n := by
  obtain ⟨a, b, c, d, e⟩ := H
  exact ⟨(x.1 r 0 hr fun w => by have := w.2; omega).trans a, (x.1 r 1 hr fun w => by have := w.2; omega).trans b, (x.2.1 2 h2).trans c, fun i i0 i1 => (x.1 2 i h2 fun w => e w.1.symm).trans (d i i0 i1), e⟩
/-- a Stretch object: its leaps, its first date, its base -/
def cst (h : mH) (q : Int) (lp : Int → Int) (ft : Int × Int × Int) : Prop := clr h q lp ∧ h.M q 0 = q + 1 ∧ h.M q 1 = q + 2 ∧ h.M q 5 = keyT ft ∧ (1 ≤ h.M q 3 ∧ h.M q 3 ≤ ft.1 ∧ ft.1 ≤ h.M q 3 + 1) ∧ (1 ≤ h.M q 4 ∧ h.M q 4 ≤ 500) ∧ yb lp (h.M q 3) + h.M q 4 = ordT lp ft + 1 ∧ h.M q 9 = q + 3 ∧ h.N (q + 3) = 0
theorem cst.cg {h h1 : mH} {q : Int} {lp : Int → Int} {ft : Int × Int × Int} (R : cst h q lp ft) (e : ∀ k, k ≠ 6 → h1.M q k = h.M q k) (a1 : ∀ j, h1.M (q + 1) j = h.M (q + 1) j) (a2 : ∀ j, h1.M (q + 2) j = h.M (q + 2) j) (n1 : h1.N (q + 1) = h.N (q + 1)) (n2 : h1.N (q + 2) = h.N (q + 2)) (n3 : h1.N (q + 3) = h.N (q + 3)) : cst h1 q lp ft := by
  obtain ⟨b1, b2, b3, b4, b5, b6, b7, b8, b9⟩ := R
  unfold cst
  rw [e 0 (by decide), e 1 (by decide), e 3 (by decide), e 4 (by decide), e 5 (by decide), e 9 (by decide)]
  refine ⟨b1.cg (e 0 (by decide)) (e 1 (by decide)) (e 2 (by decide)) ?_ ?_ ?_ ?_, b2, b3, b4, b5, b6, b7, b8, n3.trans b9⟩
  · rw [b2]; exact a1
  · rw [b3]; exact a2
  · rw [b2]; exact n1
  · rw [b3]; exact n2
def ccd (h : mH) (c0 a j : Int) (C : CD) : Prop := c0 < a ∧ h.M a 1 = a + 1 ∧ h.N (a + 1) = 4 ∧ h.M a 2 = j + 1 ∧ (∀ i, 0 ≤ i → i ≤ j → a + 2 < h.M (a + 1) i ∧ h.M (a + 1) i + 3 ≤ h.cnt ∧ cst h (h.M (a + 1) i) (C.1 i) (C.2.1 i) ∧ h.M (h.M (a + 1) i) 6 = keyT (C.2.2.2 i)) ∧ ∀ i, 0 ≤ i → i < j → h.M (a + 1) i + 3 < h.M (a + 1) (i + 1)
/-- stretches lie one behind the other -/
theorem ccd_lt {h : mH} {c0 a j : Int} {C : CD} (D : ccd h c0 a j C) : ∀ (n : Nat) (i : Int), 0 ≤ i → i + n + 1 ≤ j → h.M (a + 1) i + 3 < h.M (a + 1) (i + n + 1) := by
  intro n
  induction n with
  | zero => intro i i0 i1; rw [show i + ((0 : Nat) : Int) + 1 = i + 1 by omega]; exact D.2.2.2.2.2 i i0 (by omega)
  | succ n ih =>
    intro i i0 i1
    have a1 := ih i i0 (by omega)
    have a2 := D.2.2.2.2.2 (i + n + 1) (by omega) (by omega)
    rw [show i + ((n + 1 : Nat) : Int) + 1 = i + n + 1 + 1 by omega]
    omega
theorem D_add {h : mH} {a : Int} (h1 : h.M a 1 = a + 1) (a0 : 0 < a) (hN : h.N (a + 1) = 4) {k : Int} (hk : h.M a 2 = k) (k0 : 0 ≤ k) (k1 : k ≤ 4) {t : Int} (t0 : t ≠ 0) : Cl kAl_add [vO 0 a, vR 9 t] h = some (none, if k < 4 then (h.set (a + 1) k t).set a 2 (k + 1) else h) := by
  rw [E_Al_add, h1, gd_t (by omega), hk, hN]
  by_cases q : k < 4
  · have e : (h.set (a + 1) k t).M a 2 = k := by rw [Z_Mn (by omega)]; exact hk
    rw [if_pos q, if_pos q, gd_t (by omega), gd_t t0, Z_hl, e, Z_wI (by omega), Z_hl]
  · rw [if_neg q, if_neg q]
/-- one change, and its Stretch laid into the row -/
theorem D_calT {T : Int → Int} {N : Int} (hT : tpo T N) {c0 r a : Int} (r0 : 56 < r) (rc : r ≤ c0) {j : Int} (j0 : 0 ≤ j) (j1 : j < 3) {C : CD} (V : cdv j C) {h : mH} (D : ccd h c0 a j C) (H : rtp h r T N) {s : Int × Int} (S : rst5 h r T s) (g : gs N s) (s0 : s.2 = -1) : ∃ h' t, (bR 9 (Cl kAl_readChange [vR 5 r, vR 9 (h.M (a + 1) j)] h) fun z1 h1 => Rn kAl_readFrom 12 [vR 5 r, vR 0 a, vR 9 (h.M (a + 1) j), vI j] [vR 9 z1] h1) = Rn kAl_readFrom 8 [vR 5 r, vR 0 a, vR 9 t, vI (j + 1)] [] h' ∧ Fb c0 (WR r) h h' ∧ h'.cnt = h.cnt + 4 ∧ h'.sl ≤ h.sl + 26 ∧ rst5 h' r T (chR T (C.1 j) (keyT (C.2.1 j)) s).2.2.2 ∧ h'.M a 1 = a + 1 ∧ h'.N (a + 1) = 4 ∧ h'.M a 2 = j + 2 ∧ h'.M a 0 = h.M a 0 ∧ ((chR T (C.1 j) (keyT (C.2.1 j)) s).2.2.2.2 = -1 → t = h'.M (a + 1) (j + 1) ∧ ccd h' c0 a (j + 1) (caU T C j s)) := by
  have D0 := D
  obtain ⟨d1, d2, d3, d4, d5, d6⟩ := D
  obtain ⟨e1, e2, e3, e4⟩ := d5 j j0 (by omega)
  obtain ⟨q, hq⟩ : ∃ q, q = h.M (a + 1) j := ⟨_, rfl⟩
  rw [← hq] at e1 e2 e3 e4 ⊢
  obtain ⟨f1, f2, f3, f4, f5, f6, f7, f8, f9⟩ := e3
  have Q : shq h q r h.cnt := ⟨by omega, by omega, r0, by omega, by omega, by omega, by omega, by omega, by unfold ne2; omega, by unfold ne2; omega, by unfold ne2; omega, by unfold ne2; omega, by unfold ne2; omega⟩
  obtain ⟨h2, t, ec, xc, ht, cc, S2, w2⟩ := D_change hT f1 Q H S g (by omega) f4
  have xb : Fb c0 (WR r) h h2 := xc.fb (by omega) (fun b k hb w => by
    rcases w with w | w
    · exact w
    · omega)
  have a1 : h2.M a 1 = a + 1 := (xc.1 a 1 (by omega) fun w => by rcases w with w | w <;> omega).trans d2
  have a2 : h2.M a 2 = j + 1 := (xc.1 a 2 (by omega) fun w => by rcases w with w | w <;> omega).trans d4
  have a0 : h2.M a 0 = h.M a 0 := xc.1 a 0 (by omega) fun w => by rcases w with w | w <;> omega
  have an : h2.N (a + 1) = 4 := (xc.2.1 _ (by omega)).trans d3
  have ea := D_add a1 (by omega) an a2 (by omega) (by omega) (t := t) (by omega)
  rw [if_pos (by omega)] at ea
  have k3 : ∀ b k, b ≠ a → b ≠ a + 1 → ((h2.set (a + 1) (j + 1) t).set a 2 (j + 1 + 1)).M b k = h2.M b k := fun b k p1 p2 => by
    rw [Z_Mn (Or.inl p1), Z_Mn (Or.inl p2)]
  have ka : ∀ k, k ≠ 2 → ((h2.set (a + 1) (j + 1) t).set a 2 (j + 1 + 1)).M a k = h2.M a k := fun k p => by
    rw [Z_Mn (Or.inr p), Z_Mn (Or.inl (by omega))]
  have kr : ∀ k, k ≠ j + 1 → ((h2.set (a + 1) (j + 1) t).set a 2 (j + 1 + 1)).M (a + 1) k = h.M (a + 1) k := fun k p => by
    rw [Z_Mn (Or.inl (by omega)), Z_Mn (Or.inr p)]
    exact xc.1 _ k (by omega) fun w => by rcases w with w | w <;> omega
  have kt : ((h2.set (a + 1) (j + 1) t).set a 2 (j + 1 + 1)).M (a + 1) (j + 1) = t := by
    rw [Z_Mn (Or.inl (by omega)), Z_Mt]
  refine ⟨(h2.set (a + 1) (j + 1) t).set a 2 (j + 1 + 1), t, ?_, xb.tr ⟨fun b k hb w => k3 b k (by omega) (by omega), fun b hb => rfl, Nat.le_refl _, rfl⟩, cc, xc.2.2.2.2.1, S2.cg fun k => k3 r k (by omega) (by omega), (ka 1 (by decide)).trans a1, an, ?_, (ka 0 (by decide)).trans a0, fun z => ?_⟩
  · rw [ec, Z_bR, E_Al_readFrom_12, gd_t (by omega), ea, Z_bV, E_Al_readFrom_13, Z_wI (by omega)]
  · rw [Z_Mt]; omega
  · obtain ⟨w1, w3, w4, w5, w6, w7, w8, w9, wn, w10⟩ := w2 z
    obtain ⟨⟨y1, y2⟩, ⟨m1, m2⟩, ⟨n1, n2⟩, ⟨l1, l2⟩, dm, kk, _⟩ := ch_ok hT g (by omega) z
    have vF := chF_v (lpR (chR T (C.1 j) (keyT (C.2.1 j)) s)) y1 m1 m2 n1 l1 l2
    refine ⟨kt.symm, d1, (ka 1 (by decide)).trans a1, an, by rw [Z_Mt], fun i i0 i1 => ?_, fun i i0 i1 => ?_⟩
    · by_cases y : i = j + 1
      · subst y
        rw [kt]
        unfold caU
        dsimp only
        simp only [if_pos rfl, if_neg (show ¬ j + 1 = j by omega)]
        have eT : ∀ k, ((h2.set (a + 1) (j + 1) t).set a 2 (j + 1 + 1)).M t k = h2.M t k := fun k => k3 t k (by omega) (by omega)
        have im := imin_b n1 (x := dim (lpR (chR T (C.1 j) (keyT (C.2.1 j)) s) (chY T s).1) (chM T s).1) (by have := dim_b (lpR (chR T (C.1 j) (keyT (C.2.1 j)) s) (chY T s).1) (chM T s).1; omega)
        have db := dbm_0 (lpR (chR T (C.1 j) (keyT (C.2.1 j)) s) (chY T s).1) m1 m2
        have dd := dim_b (lpR (chR T (C.1 j) (keyT (C.2.1 j)) s) (chY T s).1) (chM T s).1
        have yl := ylen_b (lpR (chR T (C.1 j) (keyT (C.2.1 j)) s) (chY T s).1)
        refine ⟨by omega, by rw [Z_cs, Z_cs, cc]; omega, ?_, ?_⟩
        · have R9 : cst h2 t (lpR (chR T (C.1 j) (keyT (C.2.1 j)) s)) (chF (lpR (chR T (C.1 j) (keyT (C.2.1 j)) s)) (chY T s).1 (chM T s).1 (chD T s).1 (chN T (C.1 j) (keyT (C.2.1 j)) s).1) := by
            refine ⟨w1, w3, w4, w7, ?_, ?_, ?_, w9, wn⟩
            · rw [w5]; exact ⟨y1, vF.2.2.1, vF.2.2.2⟩
            · rw [w6]; omega
            · rw [w5, w6, vF.2.1]
              unfold ord
              omega
          exact R9.cg (fun k _ => eT k) (fun k => k3 _ k (by omega) (by omega)) (fun k => k3 _ k (by omega) (by omega)) rfl rfl rfl
        · rw [eT, w8, V.2.2.2 (j + 1) (by omega)]
          rfl
      · obtain ⟨b1, b2, b3, b4⟩ := d5 i i0 (by omega)
        rw [kr i y]
        unfold caU
        dsimp only
        simp only [if_neg y]
        -- what lies at this stretch
        have sp : i ≠ j → h.M (a + 1) i + 3 < q := fun ne => by
          have := ccd_lt D0 (j - i - 1).toNat i i0 (by omega)
          rw [show i + ((j - i - 1).toNat : Int) + 1 = j by omega, ← hq] at this
          exact this
        have kq : ∀ b k, (b = h.M (a + 1) i ∨ b = h.M (a + 1) i + 1 ∨ b = h.M (a + 1) i + 2) → ¬ (b = q ∧ k = 6) → ((h2.set (a + 1) (j + 1) t).set a 2 (j + 1 + 1)).M b k = h.M b k := fun b k hb hn => by
          rw [k3 b k (by omega) (by omega)]
          exact xc.1 b k (by omega) fun w => by
            rcases w with w | w
            · omega
            · exact hn w
        have nq : ∀ b, b ≤ (h.cnt : Int) → ((h2.set (a + 1) (j + 1) t).set a 2 (j + 1 + 1)).N b = h.N b := fun b hb => xc.2.1 b hb
        refine ⟨b1, by rw [Z_cs, Z_cs, cc]; omega, ?_, ?_⟩
        · exact b3.cg (fun k k6 => kq _ k (Or.inl rfl) (by omega)) (fun k => kq _ k (Or.inr (Or.inl rfl)) (by
            by_cases y2 : i = j
            · subst y2; rw [hq]; omega
            · have := sp y2; omega)) (fun k => kq _ k (Or.inr (Or.inr rfl)) (by
            by_cases y2 : i = j
            · subst y2; rw [hq]; omega
            · have := sp y2; omega)) (nq _ (by omega)) (nq _ (by omega)) (nq _ (by omega))
        · by_cases y2 : i = j
          · subst y2
            rw [if_pos rfl, ← hq, k3 q 6 (by omega) (by omega)]
            exact w10
          · rw [if_neg y2, kq _ 6 (Or.inl rfl) (by have := sp y2; omega)]
            exact b4
    · by_cases y : i = j
      · subst y
        rw [kt, kr i (by omega), ← hq]
        omega
      · rw [kr i (by omega), kr (i + 1) (by omega)]
        exact d6 i i0 (by omega)
theorem D_cal7 {T : Int → Int} {N : Int} (hT : tpo T N) {c0 r a : Int} (r0 : 56 < r) (rc : r ≤ c0) (ac : c0 < a) : ∀ (f : Nat) (j : Int) (C : CD) (s : Int × Int) (h : mH) (q : Int), rtp h r T N → rst5 h r T s → gs N s → j + f = 3 → 0 ≤ j → h.M a 1 = a + 1 → h.N (a + 1) = 4 → h.M a 2 = j + 1 → (s.2 = -1 → q = h.M (a + 1) j ∧ ccd h c0 a j C ∧ cdv j C) → ∃ h' q' j', Rn kAl_readFrom 8 [vR 5 r, vR 0 a, vR 9 q, vI j] [] h = Rn kAl_readFrom 14 [vR 5 r, vR 0 a, vR 9 q', vI j'] [] h' ∧ Fb c0 (WR r) h h' ∧ h'.cnt ≤ h.cnt + 4 * f ∧ h'.sl ≤ h.sl + 26 * f ∧ h'.M a 0 = h.M a 0 ∧ rst5 h' r T (caS T f j C s).2.2 ∧ gs N (caS T f j C s).2.2 ∧ ((caS T f j C s).2.2.2 = -1 → ccd h' c0 a (caS T f j C s).1 (caS T f j C s).2.1 ∧ cdv (caS T f j C s).1 (caS T f j C s).2.1 ∧ 0 ≤ (caS T f j C s).1 ∧ (caS T f j C s).1 ≤ 3) := by
  have hn := hT.2.1
  intro f
  induction f with
  | zero =>
    intro j C s h q H S g e j0 a1 an a2 D
    refine ⟨h, q, j, ?_, Fb.rf _ _ _, by omega, by omega, rfl, S, g, fun z => ⟨(D z).2.1, (D z).2.2, j0, by show j ≤ 3; omega⟩⟩
    rw [E_Al_readFrom_8, if_neg (by omega)]
  | succ f ih =>
    intro j C s h q H S g e j0 a1 an a2 D
    obtain ⟨h1, e1, x1, S1, g1⟩ := D_takes hT H S g (c := 64) (by decide)
    have H1 := H.ew x1
    have xb1 : Fb c0 (WR r) h h1 := x1.fb fun _ _ _ w => w
    have go : Rn kAl_readFrom 8 [vR 5 r, vR 0 a, vR 9 q, vI j] [] h = (if bz (s.2 = -1 ∧ T (sk T s.1) = 64) = 0 then (Rn kAl_readFrom 14 [vR 5 r, vR 0 a, vR 9 q, vI j] [] h1) else (Rn kAl_readFrom 11 [vR 5 r, vR 0 a, vR 9 q, vI j] [] h1)) := by
      rw [E_Al_readFrom_8, if_pos (by omega), E_Al_readFrom_9, gd_t (by omega), e1, Z_bI, E_Al_readFrom_10]
    have ka : ∀ b k, b ≠ r → h1.M b k = h.M b k := fun b k hb => x1.2 b k fun w => hb w.1
    by_cases z : s.2 = -1 ∧ T (sk T s.1) = 64
    · obtain ⟨z1, z2⟩ := z
      obtain ⟨gg1, gg2⟩ := g z1
      have sb := sk_b hT gg1 gg2
      obtain ⟨D1, D2, D3⟩ := D z1
      have t1 : tkS T 64 s = (sk T s.1 + 1, -1) := if_pos ⟨z1, z2⟩
      rw [t1] at S1 g1
      have q1 : q = h1.M (a + 1) j := by rw [ka _ _ (by omega)]; exact D1
      have E1 : ccd h1 c0 a j C := by
        obtain ⟨b1, b2, b3, b4, b5, b6⟩ := D2
        refine ⟨b1, (ka a 1 (by omega)).trans b2, by rw [x1.N]; exact b3, (ka a 2 (by omega)).trans b4, fun i i0 i1 => ?_, fun i i0 i1 => ?_⟩
        · obtain ⟨u1, u2, u3, u4⟩ := b5 i i0 i1
          rw [ka (a + 1) i (by omega)]
          exact ⟨u1, by rw [x1.cnt]; exact u2, u3.cg (fun k _ => ka _ k (by omega)) (fun k => ka _ k (by omega)) (fun k => ka _ k (by omega)) (by rw [x1.N]) (by rw [x1.N]) (by rw [x1.N]), (ka _ 6 (by omega)).trans u4⟩
        · rw [ka (a + 1) i (by omega), ka (a + 1) (i + 1) (by omega)]
          exact b6 i i0 i1
      obtain ⟨h2, t, e2, x2, c2, s2, S2, p1, pn, p2, p0, w2⟩ := D_calT hT r0 rc j0 (by omega) D3 E1 H1 S1 g1 rfl
      have H2 := H1.fb x2 rc (by omega)
      have st : Rn kAl_readFrom 8 [vR 5 r, vR 0 a, vR 9 q, vI j] [] h = Rn kAl_readFrom 8 [vR 5 r, vR 0 a, vR 9 t, vI (j + 1)] [] h2 := by
        rw [go, bz_t ⟨z1, z2⟩, if_neg (by decide), q1, E_Al_readFrom_11, e2]
      have c1 : h1.cnt = h.cnt := x1.cnt
      have s1 : h1.sl = h.sl := x1.sl
      have m0 : h2.M a 0 = h.M a 0 := p0.trans (ka a 0 (by omega))
      by_cases w : (chR T (C.1 j) (keyT (C.2.1 j)) (sk T s.1 + 1, -1)).2.2.2.2 = -1
      · have gR : gs N (chR T (C.1 j) (keyT (C.2.1 j)) (sk T s.1 + 1, -1)).2.2.2 := by
          rcases rlS_b hT 8 0 lf0 lf0 _ (ch_g hT (C.1 j) (keyT (C.2.1 j)) g1).2.2.2.2.2.2.2.2 with y | y
          · exact y.1
          · exfalso
            have q : (sgn T 58 (chN T (C.1 j) (keyT (C.2.1 j)) (sk T s.1 + 1, -1)).2).2 ≠ -1 := by omega
            have e : (chR T (C.1 j) (keyT (C.2.1 j)) (sk T s.1 + 1, -1)) = (0, lf0, lf0, (nmS T 1 9999 (sgn T 58 (chN T (C.1 j) (keyT (C.2.1 j)) (sk T s.1 + 1, -1)).2)).2) := rlS_bad (n := 7) (by unfold nmS; rw [if_neg q]; exact q)
            rw [e] at w
            dsimp only at w
            unfold nmS at w
            rw [if_neg q] at w
            exact q w
        rw [caS_on ⟨z1, z2⟩ w]
        obtain ⟨h3, q3, j3, e3, x3, c3, s3, m3, S3, rr⟩ := ih (j + 1) (caU T C j (sk T s.1 + 1, -1)) (chR T (C.1 j) (keyT (C.2.1 j)) (sk T s.1 + 1, -1)).2.2.2 h2 t H2 S2 gR (by omega) (by omega) p1 pn (by omega) (fun _ => ⟨(w2 w).1, (w2 w).2, cdv_up hT D3 j0 g1 rfl w⟩)
        exact ⟨h3, q3, j3, st.trans e3, (xb1.tr x2).tr x3, by omega, by omega, m3.trans m0, S3, rr⟩
      · rw [caS_bad ⟨z1, z2⟩ w]
        -- a fault: the row ends
        obtain ⟨h3, e3, x3, S3, g3⟩ := D_takes hT H2 S2 (fun y => absurd y w) (c := 64) (by decide)
        have t3 : tkS T 64 (chR T (C.1 j) (keyT (C.2.1 j)) (sk T s.1 + 1, -1)).2.2.2 = (chR T (C.1 j) (keyT (C.2.1 j)) (sk T s.1 + 1, -1)).2.2.2 := if_neg fun y => w y.1
        rw [t3] at S3
        by_cases y : j + 1 < 3
        · refine ⟨h3, t, j + 1, ?_, (xb1.tr x2).tr (x3.fb fun _ _ _ w => w), by rw [x3.cnt]; omega, by rw [x3.sl]; omega, ?_, S3, fun v => absurd v w, fun v => absurd v w⟩
          · rw [st, E_Al_readFrom_8, if_pos y, E_Al_readFrom_9, gd_t (by omega), e3, Z_bI, E_Al_readFrom_10, bz_f fun v => w v.1, if_pos rfl]
          · rw [x3.2 a 0 fun v => by have := v.1; omega]; exact m0
        · refine ⟨h2, t, j + 1, ?_, xb1.tr x2, by omega, by omega, m0, S2, fun v => absurd v w, fun v => absurd v w⟩
          rw [st, E_Al_readFrom_8, if_neg y]
    · have t1 : tkS T 64 s = s := if_neg z
      rw [t1] at S1
      rw [caS_no z]
      refine ⟨h1, q, j, ?_, xb1, by rw [x1.cnt]; omega, by rw [x1.sl]; omega, ka a 0 (by omega), S1, g, fun y => ?_⟩
      · rw [go, bz_f z, if_pos rfl]
      · obtain ⟨D1, D2, D3⟩ := D y
        refine ⟨?_, D3, j0, by show j ≤ 3; omega⟩
        obtain ⟨b1, b2, b3, b4, b5, b6⟩ := D2
        refine ⟨b1, (ka a 1 (by omega)).trans b2, by rw [x1.N]; exact b3, (ka a 2 (by omega)).trans b4, fun i i0 i1 => ?_, fun i i0 i1 => ?_⟩
        · obtain ⟨u1, u2, u3, u4⟩ := b5 i i0 i1
          rw [ka (a + 1) i (by omega)]
          exact ⟨u1, by rw [x1.cnt]; exact u2, u3.cg (fun k _ => ka _ k (by omega)) (fun k => ka _ k (by omega)) (fun k => ka _ k (by omega)) (by rw [x1.N]) (by rw [x1.N]) (by rw [x1.N]), (ka _ 6 (by omega)).trans u4⟩
        · rw [ka (a + 1) i (by omega), ka (a + 1) (i + 1) (by omega)]
          exact b6 i i0 i1
