/-! THE PURE PART, a head's text, read by the class -/
/-- where the pointers of head object q are -/
def plc (q b k : Int) : Prop := (b = q ∧ (k = 0 ∨ k = 1 ∨ k = 3 ∨ k = 4 ∨ k = 5 ∨ k = 7)) ∨ (b = q + 3 ∧ (k = 0 ∨ k = 1)) ∨ (b = q + 6 ∧ (k = 0 ∨ k = 1 ∨ k = 2))
def chl (h : mH) (q : Int) : Prop := (h.M q 0 = q + 1 ∧ h.M q 1 = q + 2 ∧ h.M q 3 = q + 3 ∧ h.M q 4 = q + 6 ∧ h.M q 5 = q + 10 ∧ h.M q 7 = q + 11) ∧ (h.M (q + 3) 0 = q + 4 ∧ h.M (q + 3) 1 = q + 5) ∧ (h.M (q + 6) 0 = q + 7 ∧ h.M (q + 6) 1 = q + 8 ∧ h.M (q + 6) 2 = q + 9) ∧ (h.N (q + 1) = 6 ∧ h.N (q + 2) = 6 ∧ h.N (q + 4) = 6 ∧ h.N (q + 5) = 6) ∧ (h.N (q + 7) = 12 ∧ h.N (q + 8) = 12 ∧ h.N (q + 9) = 12) ∧ h.N (q + 10) = 13 ∧ h.N (q + 11) = 4 ∧ 56 < q
theorem chl.cg {h h1 : mH} {q : Int} (C : chl h q) (e : ∀ b k, plc q b k → h1.M b k = h.M b k) (n : ∀ b, q < b → b ≤ q + 11 → h1.N b = h.N b) : chl h1 q := by
  obtain ⟨⟨a1, a2, a3, a4, a5, a6⟩, ⟨b1, b2⟩, ⟨c1, c2, c3⟩, ⟨d1, d2, d3, d4⟩, ⟨f1, f2, f3⟩, g1, g2, g3⟩ := C
  exact ⟨⟨(e _ _ (by unfold plc; omega)).trans a1, (e _ _ (by unfold plc; omega)).trans a2, (e _ _ (by unfold plc; omega)).trans a3, (e _ _ (by unfold plc; omega)).trans a4, (e _ _ (by unfold plc; omega)).trans a5, (e _ _ (by unfold plc; omega)).trans a6⟩, ⟨(e _ _ (by unfold plc; omega)).trans b1, (e _ _ (by unfold plc; omega)).trans b2⟩, ⟨(e _ _ (by unfold plc; omega)).trans c1, (e _ _ (by unfold plc; omega)).trans c2, (e _ _ (by unfold plc; omega)).trans c3⟩, ⟨(n _ (by omega) (by omega)).trans d1, (n _ (by omega) (by omega)).trans d2, (n _ (by omega) (by omega)).trans d3, (n _ (by omega) (by omega)).trans d4⟩, ⟨(n _ (by omega) (by omega)).trans f1, (n _ (by omega) (by omega)).trans f2, (n _ (by omega) (by omega)).trans f3⟩, (n _ (by omega) (by omega)).trans g1, (n _ (by omega) (by omega)).trans g2, g3⟩
theorem chl.ew {h h1 : mH} {q r : Int} (C : chl h q) (x : Ew (WR r) h h1) (hr : r < q) : chl h1 q := C.cg (fun b k w => x.2 b k fun y => by unfold plc at w; unfold WR at y; omega) (fun b _ _ => by rw [x.N])
theorem chl.st {h : mH} {q b k : Int} (C : chl h q) (v : Int) (hn : ¬ plc q b k) : chl (h.set b k v) q := C.cg (fun b' k' w => Z_Mn (by
  by_cases y : b' = b
  · right; intro y2; rw [y, y2] at w; exact hn w
  · exact Or.inl y)) (fun _ _ _ => rfl)
/-- what divides all widths -/
def strd (H : HD) (d : Int) : Prop := 0 ≤ d ∧ d ≤ 400 ∧ (H 3 0 = 0 → d = 0) ∧ (0 < H 3 0 → 1 ≤ d) ∧ ∀ i, 0 ≤ i → i < H 3 0 → d ∣ H 4 i
def chd (h : mH) (q : Int) (H : HD) : Prop := (h.M q 2 = H 0 0 ∧ h.M (q + 3) 2 = H 3 0 ∧ h.M (q + 6) 3 = H 6 0) ∧ (∀ i, h.M (q + 1) i = H 1 i ∧ h.M (q + 2) i = H 2 i ∧ h.M (q + 4) i = H 4 i ∧ h.M (q + 5) i = H 5 i ∧ h.M (q + 7) i = H 7 i ∧ h.M (q + 8) i = H 8 i ∧ h.M (q + 9) i = H 9 i ∧ h.M (q + 10) i = H 10 i) ∧ (∀ k, 0 ≤ k → k < 4 → h.M (q + 11) k = H 11 k) ∧ strd H (h.M (q + 3) 3) ∧ h.M q 6 = cn (fun m => H 10 m = 1) 12 1
theorem chd.cg {h h1 : mH} {q : Int} {H : HD} (D : chd h q H) (e : ∀ b k, (b = q ∧ (k = 2 ∨ k = 6)) ∨ (q + 1 ≤ b ∧ b ≤ q + 11) → h1.M b k = h.M b k) : chd h1 q H := by
  obtain ⟨⟨a1, a2, a3⟩, b, c, d, f⟩ := D
  refine ⟨⟨(e _ _ (by omega)).trans a1, (e _ _ (by omega)).trans a2, (e _ _ (by omega)).trans a3⟩, fun i => ?_, fun k k0 k1 => (e _ _ (by omega)).trans (c k k0 k1), by rw [e _ _ (by omega)]; exact d, (e _ _ (by omega)).trans f⟩
  obtain ⟨b1, b2, b3, b4, b5, b6, b7, b8⟩ := b i
  exact ⟨(e _ _ (by omega)).trans b1, (e _ _ (by omega)).trans b2, (e _ _ (by omega)).trans b3, (e _ _ (by omega)).trans b4, (e _ _ (by omega)).trans b5, (e _ _ (by omega)).trans b6, (e _ _ (by omega)).trans b7, (e _ _ (by omega)).trans b8⟩
/-- what an item's reading writes -/
def WHc (r q : Int) : Int → Int → Prop := fun b k => WR r b k ∨ (b = q ∧ (k = 2 ∨ k = 6)) ∨ ((b = q + 3 ∧ (k = 2 ∨ k = 3)) ∨ (b = q + 6 ∧ k = 3)) ∨ ((q + 1 ≤ b ∧ b ≤ q + 11) ∧ b ≠ q + 3 ∧ b ≠ q + 6)
theorem WHc_R {r q b k : Int} (w : WR r b k) : WHc r q b k := Or.inl w
/-- numbers of the class's Reader, put another way -/
theorem D_num {T : Int → Int} {n : Int} (hT : tpo T n) {r : Int} {h : mH} (H : rtp h r T n) {s : Int × Int} (S : rst5 h r T s) (g : gs n s) {lo hi : Int} (l0 : 0 ≤ lo ∧ lo ≤ 9999) (lh : lo ≤ hi) : ∃ v h', Cl kRd_number [vO 5 r, vI lo, vI hi] h = some (some (vI v), h') ∧ Ew (WR r) h h' ∧ rtp h' r T n ∧ rst5 h' r T (nmS T lo hi s).2 ∧ gs n (nmS T lo hi s).2 ∧ ((nmS T lo hi s).2.2 = -1 → v = (nmS T lo hi s).1 ∧ h'.M r 4 = (nmS T lo hi s).2.1 - 1 ∧ 0 < (nmS T lo hi s).2.1) ∧ lo ≤ v ∧ v ≤ hi := by
  obtain ⟨v, h', e, x, S', a, b⟩ := D_number hT H S g lo hi
  exact ⟨v, h', e, x, H.ew x, S', (nmS_b hT g hi l0).1, a, (b lh).1, (b lh).2⟩
theorem D_exp {T : Int → Int} {n : Int} (hT : tpo T n) {r : Int} {h : mH} (H : rtp h r T n) {s : Int × Int} (S : rst5 h r T s) (g : gs n s) {c : Int} (hc : c ≠ -1) : ∃ h', Cl kRd_expect [vO 5 r, vI c] h = some (none, h') ∧ Ew (WR r) h h' ∧ rtp h' r T n ∧ rst5 h' r T (sgn T c s) ∧ gs n (sgn T c s) := by
  obtain ⟨h', e, x, S'⟩ := D_expect hT H S g hc
  exact ⟨h', e, x, H.ew x, S', sgn_g hT g hc⟩
theorem rst5.st {h : mH} {r : Int} {T : Int → Int} {s : Int × Int} (S : rst5 h r T s) {b : Int} (k v : Int) (hb : b ≠ r) : rst5 (h.set b k v) r T s := ⟨(Z_Mn (Or.inl fun e => hb e.symm)).trans S.1, fun z => ⟨(Z_Mn (Or.inl fun e => hb e.symm)).trans (S.2.1 z).1, (Z_Mn (Or.inl fun e => hb e.symm)).trans (S.2.1 z).2⟩, fun z => (Z_Mn (Or.inl fun e => hb e.symm)).trans (S.2.2 z)⟩
theorem rtp.st {h : mH} {r : Int} {T : Int → Int} {n : Int} (S : rtp h r T n) {b : Int} (k v : Int) (hb : b ≠ r) (h2 : b ≠ 2) : rtp (h.set b k v) r T n := ⟨(Z_Mn (Or.inl fun e => hb e.symm)).trans S.1, (Z_Mn (Or.inl fun e => hb e.symm)).trans S.2.1, S.2.2.1, fun i i0 i1 => (Z_Mn (Or.inl fun e => h2 e.symm)).trans (S.2.2.2.1 i i0 i1), S.2.2.2.2⟩
/-- the sign that an item begins with is taken -/
theorem D_tk {T : Int → Int} {n : Int} (hT : tpo T n) {r : Int} {h : mH} (H : rtp h r T n) {p : Int} (S : rst5 h r T (p, -1)) (g : gs n (p, -1)) {c : Int} (hc : c ≠ -1) (e : T (sk T p) = c) : ∃ h', Cl kRd_takes [vO 5 r, vI c] h = some (some (vI 1), h') ∧ Ew (WR r) h h' ∧ rtp h' r T n ∧ rst5 h' r T (sk T p + 1, -1) ∧ gs n (sk T p + 1, -1) := by
  obtain ⟨h', a, x, S', g'⟩ := D_takes hT H S g hc
  have q : tkS T c (p, -1) = (sk T p + 1, -1) := if_pos ⟨rfl, e⟩
  rw [q] at S' g'
  rw [bz_t ⟨rfl, e⟩] at a
  exact ⟨h', a, x, H.ew x, S', g'⟩
theorem nmS_lo {T : Int → Int} {n : Int} (hT : tpo T n) {s : Int × Int} (g : gs n s) {b : Int} (b1 : 1 ≤ b) (b2 : b ≤ 9999) : (nmS T b 9999 s).2 = (if (nmS T 1 9999 s).2.2 = -1 ∧ (nmS T 1 9999 s).1 < b then wlS (nmS T 1 9999 s).2 else (nmS T 1 9999 s).2) ∧ ((nmS T b 9999 s).2.2 = -1 → (nmS T b 9999 s).1 = (nmS T 1 9999 s).1 ∧ (nmS T 1 9999 s).2.2 = -1) := by
  by_cases q : s.2 = -1
  · have n1 : ∀ lo, nmS T lo 9999 s = nm T lo 9999 s.1 := fun lo => if_pos q
    rw [n1, n1]
    obtain ⟨g1, g2⟩ := g q
    have sb := sk_b hT g1 g2
    have B1 := (nm_b hT (lo := 1) (hi := 9999) g1 g2 (by omega)).2.2.2.2.2.2
    have Bb := (nm_b hT (lo := b) (hi := 9999) g1 g2 (by omega)).2.2.2.2.2.2
    have db := dgs_b hT 4 (sk T s.1) 0 (by omega) (by omega) (by omega)
    by_cases d : 48 ≤ T (sk T s.1) ∧ T (sk T s.1) ≤ 57
    · by_cases d5 : 48 ≤ T (dgs T 4 (sk T s.1) 0).1 ∧ T (dgs T 4 (sk T s.1) 0).1 ≤ 57
      · have e1 : ∀ lo, nm T lo 9999 s.1 = ((dgs T 4 (sk T s.1) 0).2, (dgs T 4 (sk T s.1) 0).1, (dgs T 4 (sk T s.1) 0).1) := fun lo => by
          unfold nm
          rw [if_pos d, if_pos d5]
        have ne : (dgs T 4 (sk T s.1) 0).1 ≠ -1 := by omega
        rw [e1, e1, if_neg fun w => ne w.1]
        exact ⟨rfl, fun w => absurd w ne⟩
      · have e1 : ∀ lo, nm T lo 9999 s.1 = if lo ≤ (dgs T 4 (sk T s.1) 0).2 ∧ (dgs T 4 (sk T s.1) 0).2 ≤ 9999 then ((dgs T 4 (sk T s.1) 0).2, (dgs T 4 (sk T s.1) 0).1, -1) else ((dgs T 4 (sk T s.1) 0).2, (dgs T 4 (sk T s.1) 0).1, (dgs T 4 (sk T s.1) 0).1 - 1) := fun lo => by
          unfold nm
          rw [if_pos d, if_neg d5]
        generalize dgs T 4 (sk T s.1) 0 = D at e1
        by_cases w1 : 1 ≤ D.2 ∧ D.2 ≤ 9999
        · by_cases wb : b ≤ D.2 ∧ D.2 ≤ 9999
          · rw [e1, e1, if_pos wb, if_pos w1, if_neg (by dsimp only; omega)]
            exact ⟨rfl, fun _ => ⟨rfl, rfl⟩⟩
          · have ne : D.1 - 1 ≠ -1 := fun z => by
              have t := Bb
              rw [e1, if_neg wb] at t
              exact wb ⟨(t z).1, (t z).2.1⟩
            rw [e1, e1, if_neg wb, if_pos w1, if_pos ⟨rfl, by dsimp only; omega⟩]
            exact ⟨(if_pos rfl).symm, fun z => absurd z ne⟩
        · have wb : ¬ (b ≤ D.2 ∧ D.2 ≤ 9999) := by omega
          have ne : D.1 - 1 ≠ -1 := fun z => by
            have t := B1
            rw [e1, if_neg w1] at t
            exact w1 ⟨(t z).1, (t z).2.1⟩
          rw [e1, e1, if_neg wb, if_neg w1, if_neg fun w => ne w.1]
          exact ⟨rfl, fun z => absurd z ne⟩
    · have e1 : ∀ lo, nm T lo 9999 s.1 = (lo, sk T s.1, sk T s.1) := fun lo => by
        unfold nm
        rw [if_neg d]
      have ne : sk T s.1 ≠ -1 := by omega
      rw [e1, e1, if_neg fun w => ne w.1]
      exact ⟨rfl, fun w => absurd w ne⟩
  · have n1 : ∀ lo, nmS T lo 9999 s = (lo, s) := fun lo => if_neg q
    rw [n1, n1, if_neg fun w => q w.1]
    exact ⟨rfl, fun w => absurd w q⟩
theorem D_itK {T : Int → Int} {N : Int} (hT : tpo T N) {r q : Int} (r0 : 56 < r) (rq : r < q) {h : mH} (C : chl h q) {H : HD} (V : hdv H) (D : chd h q H) (Hr : rtp h r T N) {p : Int} (S : rst5 h r T (p, -1)) (g : gs N (p, -1)) (hk : H 0 0 < 6) (c : T (sk T p) = 107) : ∃ h', Cl kHd_readRange [vO 2 q, vR 5 r] h = some (none, h') ∧ Ew (WHc r q) h h' ∧ rst5 h' r T (itK T H (sk T p + 1, -1)).2 ∧ ((itK T H (sk T p + 1, -1)).2.2 = -1 → chd h' q (itK T H (sk T p + 1, -1)).1) := by
  obtain ⟨k, hk'⟩ : ∃ k, k = H 0 0 := ⟨_, rfl⟩
  have V1 := V.1
  have D1 := D.1.1
  rw [← hk'] at hk V1 D1
  obtain ⟨s, hs⟩ : ∃ s : Int × Int, s = (sk T p + 1, -1) := ⟨_, rfl⟩
  obtain ⟨h1, e1, x1, T1, S1, g1⟩ := D_tk hT Hr S g (c := 107) (by decide) c
  rw [← hs] at S1 g1 ⊢
  have C1 := C.ew x1 rq
  have k1 : h1.M q 2 = k := (x1.2 q 2 fun y => by have := y.1; omega).trans D1
  obtain ⟨v1, h2, e2, x2, T2, S2, g2, a2, b2⟩ := D_num hT T1 S1 g1 (lo := 1) (hi := 9999) (by omega) (by omega)
  have C2 := C1.ew x2 rq
  have k2 : h2.M q 2 = k := (x2.2 q 2 fun y => by have := y.1; omega).trans k1
  have C3 : chl (h2.set (q + 1) k v1) q := C2.st v1 (by unfold plc; omega)
  have S3 := S2.st (b := q + 1) k v1 (by omega)
  have T3 := T2.st (b := q + 1) k v1 (by omega) (by omega)
  have k3 : (h2.set (q + 1) k v1).M q 2 = k := (Z_Mn (by omega)).trans k2
  obtain ⟨h4, e4, x4, T4, S4, g4⟩ := D_exp hT T3 S3 g2 (c := 45) (by decide)
  have C4 := C3.ew x4 rq
  have k4 : h4.M q 2 = k := (x4.2 q 2 fun y => by have := y.1; omega).trans k3
  obtain ⟨v2, h5, e5, x5, T5, S5, g5, a5, b5⟩ := D_num hT T4 S4 g4 (lo := 1) (hi := 9999) (by omega) (by omega)
  have C5 := C4.ew x5 rq
  have k5 : h5.M q 2 = k := (x5.2 q 2 fun y => by have := y.1; omega).trans k4
  have C6 : chl (h5.set (q + 2) k v2) q := C5.st v2 (by unfold plc; omega)
  have S6 := S5.st (b := q + 2) k v2 (by omega)
  have k6 : (h5.set (q + 2) k v2).M q 2 = k := (Z_Mn (by omega)).trans k5
  have m4 : h4.M (q + 1) k = v1 := (x4.2 (q + 1) k fun y => by have := y.1; omega).trans (Z_Mt ..)
  have m5 : h5.M (q + 1) k = v1 := (x5.2 (q + 1) k fun y => by have := y.1; omega).trans m4
  have m6 : (h5.set (q + 2) k v2).M (q + 1) k = v1 := (Z_Mn (by omega)).trans m5
  obtain ⟨h6, hh6⟩ : ∃ u, u = h5.set (q + 2) k v2 := ⟨_, rfl⟩
  have N1 := C.2.2.2.1
  have q0 := C.2.2.2.2.2.2.2
  -- all up to the end of the second number
  have x6 : Ew (WHc r q) h h6 := by
    rw [hh6]
    exact ((((x1.mono fun _ _ w => WHc_R w).tr (x2.mono fun _ _ w => WHc_R w)).tr (Ew.st _ _ (by unfold WHc; omega))).tr (x4.mono fun _ _ w => WHc_R w)).tr ((x5.mono fun _ _ w => WHc_R w).tr (Ew.st _ _ (by unfold WHc; omega)))
  have F6 : ∀ b j, q ≤ b → b ≤ q + 11 → h6.M b j = if b = q + 2 ∧ j = k then v2 else if b = q + 1 ∧ j = k then v1 else h.M b j := fun b j b0 b1 => by
    have nr : ∀ j, ¬ WR r b j := fun j y => by have := y.1; omega
    rw [hh6, Z_Ms]
    by_cases y : b = q + 2 ∧ j = k
    · rw [if_pos y, if_pos y]
    · rw [if_neg y, if_neg y, x5.2 b j (nr j), x4.2 b j (nr j), Z_Ms]
      by_cases y2 : b = q + 1 ∧ j = k
      · rw [if_pos y2, if_pos y2]
      · rw [if_neg y2, if_neg y2, x2.2 b j (nr j), x1.2 b j (nr j)]
  have run : Cl kHd_readRange [vO 2 q, vR 5 r] h = (if v2 < v1 then (gd (r ≠ (0 : Int)) <| bV (Cl kRd_refuseNumber [vO 5 r] h6) fun h7 => hl (h7.set q 2 (wI ((h7.M q 2) + 1))) fun h8 => some (none, h8)) else (hl (h6.set q 2 (wI (k + 1))) fun h7 => some (none, h7))) := by
    rw [E_Hd_readRange, D1, if_pos hk, gd_t (by omega), e1, Z_bI, gd_t (by omega), e2, Z_bI, k1, C1.1.1, C2.2.2.2.1.1, gd_t (by omega), Z_hl, gd_t (by omega), e4, Z_bV, gd_t (by omega), e5, Z_bI, k4, C4.1.2.1, C5.2.2.2.1.2.1, gd_t (by omega), Z_hl, k6, C6.1.2.1, C6.2.2.2.1.2.1, gd_t (by omega), C6.1.1, C6.2.2.2.1.1, gd_t (by omega), Z_Mt, m6, ← hh6]
  have k6' : h6.M q 2 = k := by rw [hh6]; exact k6
  rw [← hh6] at S6
  obtain ⟨s5, hs5⟩ : ∃ s5, s5 = (nmS T 1 9999 (sgn T 45 (itK1 T s).2)).2 := ⟨_, rfl⟩
  have S6' : rst5 h6 r T s5 := by rw [hs5]; exact S6
  have a5' : s5.2 = -1 → v2 = (nmS T 1 9999 (sgn T 45 (itK1 T s).2)).1 ∧ h5.M r 4 = s5.1 - 1 ∧ 0 < s5.1 := by rw [hs5]; exact a5
  have g4' : gs N (sgn T 45 (itK1 T s).2) := g4
  have i9 : (itK1 T s).1 ≤ 9999 := (nmS_b hT g1 (lo := 1) 9999 (by omega)).2.2.1
  have im := imax_b 1 (itK1 T s).1
  have lo := nmS_lo hT g4' (b := imax 1 (itK1 T s).1) (by omega) (by omega)
  have lo1 : (itK2 T s).2 = (if s5.2 = -1 ∧ (nmS T 1 9999 (sgn T 45 (itK1 T s).2)).1 < imax 1 (itK1 T s).1 then wlS s5 else s5) := by rw [hs5]; exact lo.1
  have lo2 : (itK2 T s).2.2 = -1 → (itK2 T s).1 = (nmS T 1 9999 (sgn T 45 (itK1 T s).2)).1 ∧ s5.2 = -1 := by rw [hs5]; exact lo.2
  have up : s5.2 = -1 → v1 = (itK1 T s).1 ∧ imax 1 (itK1 T s).1 = v1 := fun z => by
    rw [hs5] at z
    have z2 := (nmS_b hT g4' (lo := 1) 9999 (by omega)).2.2.2 z
    have z3 := (sgn_ok z2.1 (gs_sk hT g2)).1
    have z4 : v1 = (itK1 T s).1 := (a2 z3).1
    exact ⟨z4, by omega⟩
  have key : (v2 < v1 → wlS s5 = (itK2 T s).2) ∧ (¬ v2 < v1 → s5 = (itK2 T s).2) ∧ ((itK2 T s).2.2 = -1 → ¬ v2 < v1 ∧ v1 = (itK1 T s).1 ∧ v2 = (itK2 T s).1) := by
    by_cases z5 : s5.2 = -1
    · obtain ⟨u1, u2⟩ := up z5
      have u3 := (a5' z5).1
      rw [u2, ← u3] at lo1
      refine ⟨fun y => by rw [lo1, if_pos ⟨z5, y⟩], fun y => by rw [lo1, if_neg fun w => y w.2], fun z => ?_⟩
      have u4 := (lo2 z).1
      refine ⟨fun y => ?_, u1, by rw [u4]; exact u3⟩
      rw [lo1, if_pos ⟨z5, y⟩] at z
      exact (wlS_g (n := N) (s := s5) (by rw [hs5]; exact g5) fun _ => (a5' z5).2.2).2 z
    · have u1 : wlS s5 = s5 := if_neg z5
      have u2 : (itK2 T s).2 = s5 := by rw [lo1, if_neg fun w => z5 w.1]
      exact ⟨fun _ => by rw [u1, u2], fun _ => u2.symm, fun z => absurd (by rw [← u2]; exact z) z5⟩
  rw [run]
  by_cases y : v2 < v1
  · have l6 : s5.2 = -1 → h6.M r 4 = s5.1 - 1 ∧ 0 < s5.1 := fun z => by
      obtain ⟨_, u1, u2⟩ := a5' z
      exact ⟨by rw [hh6, Z_Mn (by omega)]; exact u1, u2⟩
    obtain ⟨h7, e7, x7, S7⟩ := D_refuseNumber S6' l6
    have k7 : h7.M q 2 = k := (x7.2 q 2 fun y => by have := y.1; omega).trans k6'
    refine ⟨h7.set q 2 (k + 1), by rw [if_pos y, gd_t (by omega), e7, Z_bV, k7, Z_wI (by omega), Z_hl], (x6.tr (x7.mono fun _ _ w => WHc_R w)).tr (Ew.st _ _ (by unfold WHc; omega)), ?_, fun z => absurd y (key.2.2 z).1⟩
    rw [key.1 y] at S7
    exact S7.st 2 (k + 1) (by omega)
  · refine ⟨h6.set q 2 (k + 1), by rw [if_neg y, Z_wI (by omega), Z_hl], x6.tr (Ew.st _ _ (by unfold WHc; omega)), ?_, fun z => ?_⟩
    · rw [key.2.1 y] at S6'
      exact S6'.st 2 (k + 1) (by omega)
    · obtain ⟨_, w1, w2⟩ := key.2.2 z
      have F7 : ∀ b j, q ≤ b → b ≤ q + 11 → ¬ (b = q ∧ j = 2) → (h6.set q 2 (k + 1)).M b j = if b = q + 2 ∧ j = k then v2 else if b = q + 1 ∧ j = k then v1 else h.M b j := fun b j b0 b1 n => by rw [Z_Ms, if_neg n, F6 b j b0 b1]
      obtain ⟨⟨d1, d2, d3⟩, d4, d5, d6, d7⟩ := D
      refine ⟨⟨?_, ?_, ?_⟩, fun i => ?_, fun j j0 j1 => ?_, ?_, ?_⟩
      · rw [Z_Mt, itK_0, hk']
      · rw [F7 _ _ (by omega) (by omega) (by omega), if_neg (by omega), if_neg (by omega), itK_n _ _ _ _ (by decide) (by decide) (by decide)]; exact d2
      · rw [F7 _ _ (by omega) (by omega) (by omega), if_neg (by omega), if_neg (by omega), itK_n _ _ _ _ (by decide) (by decide) (by decide)]; exact d3
      · obtain ⟨f1, f2, f3, f4, f5, f6, f7, f8⟩ := d4 i
        refine ⟨?_, ?_, ?_, ?_, ?_, ?_, ?_, ?_⟩
        · rw [F7 _ _ (by omega) (by omega) (by omega), if_neg (by omega), itK_1, ← hk', ← w1]
          by_cases t : i = k
          · rw [if_pos ⟨rfl, t⟩, if_pos t]
          · rw [if_neg fun t2 => t t2.2, if_neg t]; exact f1
        · rw [F7 _ _ (by omega) (by omega) (by omega), itK_2, ← hk', ← w2]
          by_cases t : i = k
          · rw [if_pos ⟨rfl, t⟩, if_pos t]
          · rw [if_neg fun t2 => t t2.2, if_neg (by omega), if_neg t]; exact f2
        all_goals rw [F7 _ _ (by omega) (by omega) (by omega), if_neg (by omega), if_neg (by omega), itK_n _ _ _ _ (by decide) (by decide) (by decide)]
        · exact f3
        · exact f4
        · exact f5
        · exact f6
        · exact f7
        · exact f8
      · rw [F7 _ _ (by omega) (by omega) (by omega), if_neg (by omega), if_neg (by omega), itK_n _ _ _ _ (by decide) (by decide) (by decide)]; exact d5 j j0 j1
      · rw [F7 _ _ (by omega) (by omega) (by omega), if_neg (by omega), if_neg (by omega)]
        obtain ⟨t1, t2, t3, t4, t5⟩ := d6
        unfold strd
        rw [itK_n _ _ _ (b := 3) _ (by decide) (by decide) (by decide)]
        exact ⟨t1, t2, t3, t4, fun i i0 i1 => by rw [itK_n _ _ _ (b := 4) _ (by decide) (by decide) (by decide)]; exact t5 i i0 i1⟩
      · rw [F7 _ _ (by omega) (by omega) (by omega), if_neg (by omega), if_neg (by omega), d7]
        exact cn_cg 12 1 fun i _ _ => by rw [itK_n _ _ _ (b := 10) _ (by decide) (by decide) (by decide)]
