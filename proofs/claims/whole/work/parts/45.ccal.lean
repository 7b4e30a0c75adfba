/-! THE PURE PART, a calendar read by the class: the whole of it -/
theorem D_rdInit {T : Int → Int} {n : Int} (hT : tpo T n) {r : Int} {h : mH} (r2 : r ≠ 2) (hN : h.N 2 = 160) (hM : ∀ i, 0 ≤ i → i < n → h.M 2 i = T i) : ∃ h', Cl kRd_init [vO 5 r, vR 100 2, vI n] h = some (none, h') ∧ Ew (fun b _ => b = r) h h' ∧ rtp h' r T n ∧ rst5 h' r T (0, -1) := by
  obtain ⟨h5, hh⟩ : ∃ q, q = (((h.set r 4 (-1)).set r 5 (-1)).set r 0 2).set r 1 n := ⟨_, rfl⟩
  have x5 : Ew (fun b _ => b = r) h h5 := by
    rw [hh]
    exact (((Ew.st (W := fun b _ => b = r) h _ rfl).tr (Ew.st _ _ rfl)).tr (Ew.st _ _ rfl)).tr (Ew.st _ _ rfl)
  have H5 : rtp h5 r T n := ⟨by rw [hh, Z_Mn (by omega), Z_Mt], by rw [hh, Z_Mt], by rw [x5.N]; exact hN, fun i i0 i1 => (x5.2 2 i fun w => r2 w.symm).trans (hM i i0 i1), r2⟩
  obtain ⟨h', e, x, m2, m3, m4, m5⟩ := D_goTo hT H5 (a := 0) (by decide) hT.1
  have f5 : h5.M r 5 = -1 := by rw [hh, Z_Mn (by omega), Z_Mn (by omega), Z_Mt]
  rw [f5, if_pos rfl] at m3
  refine ⟨h', ?_, x5.tr (x.mono fun _ _ w => w.1), H5.ew x, ⟨m5.trans f5, fun _ => ⟨m2, m3⟩, fun z => absurd rfl z⟩⟩
  have mn : imin n 160 = n := by
    unfold imin
    rw [if_pos hT.2.1]
  rw [E_Rd_init, Z_hl, Z_hl, Z_hl, gd_t (by decide), D_min, Z_bI, Z_Ns, Z_Ns, Z_Ns, hN, mn, Z_hl, ← hh, e, Z_bV]
theorem C_alInit {a : Int} {h : mH} (ha : (h.cnt : Int) = a) : ∃ h', Cl kAl_init [vO 0 a] h = some (none, h') ∧ h'.cnt = h.cnt + 2 ∧ h'.sl = h.sl + 4 ∧ h'.X = h.X ∧ (∀ b k, b < a → h'.M b k = h.M b k) ∧ (∀ b, b ≤ a → h'.N b = h.N b) ∧ h'.M a 0 = h.M a 0 ∧ h'.M a 1 = a + 1 ∧ h'.M a 2 = h.M a 2 ∧ h'.M a 3 = a + 2 ∧ h'.N (a + 1) = 4 := by
  have q : Cl kAl_init [vO 0 a] h = some (none, (((h.new 209 4).set a 1 (h.top)).new 100 0).set a 3 ((h.new 209 4).set a 1 (h.top)).top) := by
    rw [E_Al_init, gd_t (by decide), Z_hl, Z_hl, E_Al_init_1, gd_t (by decide), Z_hl, Z_hl, E_Al_init_2]
  refine ⟨_, q, rfl, rfl, rfl, ?_, ?_, ?_, ?_, ?_, ?_, ?_⟩
  all_goals intros
  all_goals simp only [Z_Ms, Z_Mw, Z_Nw, Z_Ns, Z_ts, Z_tw, Z_top, Z_cs, Z_cw, Int.reduceEq, true_and, and_true, false_and, and_false, if_true, if_false]
  all_goals (repeat' split)
  all_goals first | omega | rfl
/-- the first day stays -/
theorem caS_d0 (T : Int → Int) : ∀ (f : Nat) (j : Int) (C : CD) (s : Int × Int), 0 ≤ j → (caS T f j C s).2.1.2.2.1 0 = C.2.2.1 0 := by
  intro f
  induction f with
  | zero => intro j C s _; rfl
  | succ f ih =>
    intro j C s j0
    by_cases z : s.2 = -1 ∧ T (sk T s.1) = 64
    · by_cases w : (chR T (C.1 j) (keyT (C.2.1 j)) (sk T s.1 + 1, -1)).2.2.2.2 = -1
      · rw [caS_on z w, ih _ _ _ (by omega)]
        unfold caU
        dsimp only
        rw [if_neg (by omega)]
      · rw [caS_bad z w]
    · rw [caS_no z]
set_option maxHeartbeats 8000000 in
theorem D_readCal {T : Int → Int} {N : Int} (hT : tpo T N) {r : Int} (r0 : 56 < r) {h : mH} (rc : r ≤ h.cnt) (H : rtp h r T N) (S : rst5 h r T (0, -1)) : ∃ h' a, Cl kAl_readFrom [vR 5 r] h = some (some (vR 0 a), h') ∧ Fb h.cnt (WR r) h h' ∧ a = (h.cnt : Int) + 1 ∧ h'.cnt ≤ h.cnt + 19 ∧ h'.sl ≤ h.sl + 112 ∧ h'.M r 5 = pCw T ∧ a ≤ h'.cnt ∧ (pCw T = -1 → ccd h' h.cnt a (pCa T).1 (pCa T).2.1 ∧ cdv (pCa T).1 (pCa T).2.1 ∧ h'.M a 0 = (pS0 T).1 ∧ 0 ≤ (pCa T).1 ∧ (pCa T).1 ≤ 3 ∧ 0 ≤ (pS0 T).1 ∧ (pS0 T).1 ≤ 9 ∧ (pCa T).2.1.2.2.1 0 = (pS0 T).1) := by
  obtain ⟨c0, hc0⟩ : ∃ c0, c0 = (h.cnt : Int) := ⟨_, rfl⟩
  obtain ⟨a, ha⟩ : ∃ a, a = c0 + 1 := ⟨_, rfl⟩
  have tt : h.top = a := by rw [Z_top, ha, hc0]
  have g0 : gs N (0, -1) := fun _ => ⟨by decide, hT.1⟩
  obtain ⟨h2, e2, c2, s2, X2, M2, N2, f0, f1, f2, f3, na⟩ := C_alInit (a := a) (h := h.new 0 4) (by rw [Z_cw]; omega)
  have M2' : ∀ b k, b ≤ c0 → h2.M b k = h.M b k := fun b k hb => by rw [M2 b k (by omega), Z_Mw, if_neg (by omega)]
  have N2' : ∀ b, b ≤ c0 → h2.N b = h.N b := fun b hb => by rw [N2 b (by omega), Z_Nw, if_neg (by omega)]
  have c2' : h2.cnt = h.cnt + 3 := c2
  have s2' : h2.sl = h.sl + 8 := s2
  have x2 : Fb c0 (WR r) h h2 := ⟨fun b k hb _ => M2' b k hb, N2', by omega, X2⟩
  have z2 : h2.M a 2 = 0 := by rw [f2, Z_Mw, if_pos tt.symm]
  have H2 := H.fb x2 (by omega) (by omega)
  have S2 : rst5 h2 r T (0, -1) := S.cg fun k => M2' r k (by omega)
  obtain ⟨v, h3, e3, x3, S3, u3, v3⟩ := D_number hT H2 S2 g0 0 9
  have H3 := H2.ew x3
  have b3 := nmS_b hT g0 (lo := 0) 9 (by omega)
  have gS : gs N (pS0 T).2 := b3.1
  have S3' : rst5 (h3.set a 0 v) r T (pS0 T).2 := S3.cg fun k => Z_Mn (by omega)
  have x3' : Fb c0 (WR r) h3 (h3.set a 0 v) := (Ew.st (W := fun b k => b = a ∧ k = 0) h3 v ⟨rfl, rfl⟩).fb fun b k hb w => by omega
  have H3' := H3.fb x3' (by omega) (by omega)
  obtain ⟨h4, e4, x4, S4⟩ := D_expect hT H3' S3' gS (c := 58) (by decide)
  have H4 := H3'.ew x4
  have g4 := sgn_g hT gS (c := 58) (by decide)
  have k4 : ∀ b k, b ≠ r → ¬ (b = a ∧ k = 0) → h4.M b k = h2.M b k := fun b k hb hk => by
    rw [x4.2 b k fun w => hb w.1, Z_Mn (by omega), x3.2 b k fun w => hb w.1]
  have n4 : h4.N = h2.N := by rw [x4.N, Z_Ns, x3.N]
  have c4 : h4.cnt = h.cnt + 3 := by rw [x4.cnt, Z_cs, x3.cnt, c2']
  have s4 : h4.sl = h.sl + 8 := by rw [x4.sl, Z_ss, x3.sl, s2']
  have a4 : h4.M a 0 = v := by rw [x4.2 a 0 fun w => by have := w.1; omega, Z_Mt]
  obtain ⟨q, hq⟩ : ∃ q, q = c0 + 4 := ⟨_, rfl⟩
  have tq : h4.top = q := by rw [Z_top, c4]; omega
  obtain ⟨h5, e5, c5, s5, X5, M5, N5, q0, q1, q2, q5, q3, q4, q6, q9, nb, nc, nd, z5⟩ := C_shInit (t := q) (h := h4.new 9 10) (by rw [Z_cw, c4]; omega) (by omega)
  have M5' : ∀ b k, b < q → h5.M b k = h4.M b k := fun b k hb => by rw [M5 b k hb, Z_Mw, if_neg (by omega)]
  have N5' : ∀ b, b < q → h5.N b = h4.N b := fun b hb => by rw [N5 b (by omega), Z_Nw, if_neg (by omega)]
  have P5 : shp h5 q (q + 1) (q + 2) r := ⟨q0, q1, nb, nc, by unfold ne2; omega, by unfold ne2; omega, by unfold ne2; omega, by unfold ne2; omega, by unfold ne2; omega, by unfold ne2; omega, by unfold ne2; omega, by unfold ne2; omega, by unfold ne2; omega, by unfold ne2; omega, by unfold ne2; omega, by unfold ne2; omega⟩
  have x5 : Fb c0 (WR r) h4 h5 := ⟨fun b k hb _ => M5' b k (by omega), fun b hb => N5' b (by omega), by rw [c5, Z_cw]; omega, X5⟩
  have H5 := H4.fb x5 (by omega) (by omega)
  have S5 : rst5 h5 r T (sgn T 58 (pS0 T).2) := S4.cg fun k => M5' r k (by omega)
  have y2 : h5.M q 2 = 0 := by rw [q2, Z_Mw, if_pos tq.symm]
  obtain ⟨h6, lq, e6, x6, S6, R6, w6⟩ := D_leaps hT P5 H5 S5 g4 y2 (fun j _ _ => Or.inl (z5 j))
  have x6' : Fb c0 (WR r) h5 h6 := x6.fb fun b k hb w => by
    rcases w with w | w | w | w
    · exact w
    · omega
    · omega
    · omega
  have H6 := H5.fb x6' (by omega) (by omega)
  have k6 : ∀ b k, b < q → b ≠ r → h6.M b k = h4.M b k := fun b k hb hr => by
    rw [x6.2 b k fun w => by
      rcases w with w | w | w | w
      · exact hr w.1
      · omega
      · omega
      · omega, M5' b k hb]
  have kq : ∀ k, k ≠ 2 → h6.M q k = h5.M q k := fun k hk => x6.2 q k fun w => by
    rcases w with w | w | w | w <;> omega
  have p1 : h6.M a 1 = a + 1 := by rw [k6 a 1 (by omega) (by omega), k4 a 1 (by omega) (by omega)]; exact f1
  have p2 : h6.M a 2 = 0 := by rw [k6 a 2 (by omega) (by omega), k4 a 2 (by omega) (by omega)]; exact z2
  have p0 : h6.M a 0 = v := by rw [k6 a 0 (by omega) (by omega)]; exact a4
  have pn : h6.N (a + 1) = 4 := by rw [x6.N, N5' _ (by omega), n4]; exact na
  have c6 : h6.cnt = h.cnt + 7 := by rw [x6.cnt, c5, Z_cw, c4]
  have s6 : h6.sl = h.sl + 34 := by rw [x6.sl, s5, Z_sw, s4]; rfl
  have ea := D_add p1 (by omega) pn p2 (by omega) (by omega) (t := q) (by omega)
  rw [if_pos (by omega)] at ea
  obtain ⟨h7, hh7⟩ : ∃ u, u = (h6.set (a + 1) 0 q).set a 2 (0 + 1) := ⟨_, rfl⟩
  rw [← hh7] at ea
  have k7 : ∀ b k, b ≠ a → b ≠ a + 1 → h7.M b k = h6.M b k := fun b k u1 u2 => by rw [hh7, Z_Mn (Or.inl u1), Z_Mn (Or.inl u2)]
  have m1 : h7.M a 1 = a + 1 := by rw [hh7, Z_Mn (by omega), Z_Mn (by omega)]; exact p1
  have m0 : h7.M a 0 = v := by rw [hh7, Z_Mn (by omega), Z_Mn (by omega)]; exact p0
  have m2 : h7.M a 2 = 0 + 1 := by rw [hh7, Z_Mt]
  have mq : h7.M (a + 1) 0 = q := by rw [hh7, Z_Mn (by omega), Z_Mt]
  have n7 : h7.N = h6.N := by rw [hh7]; rfl
  have c7 : h7.cnt = h6.cnt := by rw [hh7]; rfl
  have s7 : h7.sl = h6.sl := by rw [hh7]; rfl
  have x7 : Fb c0 (WR r) h6 h7 := ⟨fun b k hb _ => k7 b k (by omega) (by omega), fun b _ => by rw [n7], by rw [c7]; exact Nat.le_refl _, by rw [hh7]; rfl⟩
  have H7 := H6.fb x7 (by omega) (by omega)
  have S7 : rst5 h7 r T (pL0 T).2.2.2 := S6.cg fun k => k7 r k (by omega) (by omega)
  have gL : gs N (pL0 T).2.2.2 := by
    rcases rlS_b hT 8 0 lf0 lf0 _ g4 with y | y
    · exact y.1
    · intro z
      exfalso
      have q : (sgn T 58 (pS0 T).2).2 ≠ -1 := by
        have : (sgn T 58 (pS0 T).2).2 < -1 := y
        omega
      have e : pL0 T = (0, lf0, lf0, (nmS T 1 9999 (sgn T 58 (pS0 T).2)).2) := rlS_bad (n := 7) (by unfold nmS; rw [if_neg q]; exact q)
      rw [e] at z
      dsimp only at z
      unfold nmS at z
      rw [if_neg q] at z
      exact q z
  have D7 : (pL0 T).2.2.2.2 = -1 → q = h7.M (a + 1) 0 ∧ ccd h7 c0 a 0 (pC0 T) ∧ cdv 0 (pC0 T) := fun z => by
    refine ⟨mq.symm, ⟨by omega, m1, by rw [n7]; exact pn, m2, fun i i0 i1 => ?_, fun i i0 i1 => by omega⟩, (pC0_v hT z).1⟩
    have i9 : i = 0 := by omega
    subst i9
    rw [mq]
    have el : lq = lpR (pL0 T) := w6 z
    have kk : ∀ k, k ≠ 2 → h7.M q k = h5.M q k := fun k hk => (k7 q k (by omega) (by omega)).trans (kq k hk)
    refine ⟨by omega, by rw [c7, c6]; omega, ⟨?_, (kk 0 (by decide)).trans q0, (kk 1 (by decide)).trans q1, (kk 5 (by decide)).trans q5, ?_, ?_, ?_, (kk 9 (by decide)).trans q9, by rw [n7, x6.N]; exact nd⟩, ?_⟩
    · have R7 : clr h7 q lq := R6.cg (k7 q 0 (by omega) (by omega)) (k7 q 1 (by omega) (by omega)) (k7 q 2 (by omega) (by omega)) (fun j => k7 _ j (by rw [kq 0 (by decide), q0]; omega) (by rw [kq 0 (by decide), q0]; omega)) (fun j => k7 _ j (by rw [kq 1 (by decide), q1]; omega) (by rw [kq 1 (by decide), q1]; omega)) (by rw [n7]) (by rw [n7])
      rw [el] at R7
      exact R7
    · rw [(kk 3 (by decide)).trans q3]
      exact ⟨by decide, (by decide : (1 : Int) ≤ 1), (by decide : (1 : Int) ≤ 1 + 1)⟩
    · rw [(kk 4 (by decide)).trans q4]
      exact ⟨by decide, by decide⟩
    · rw [(kk 3 (by decide)).trans q3, (kk 4 (by decide)).trans q4, yb_1]
      show (0 : Int) + 1 = ord (lpR (pL0 T)) 1 1 1 + 1
      unfold ord
      rw [yb_1, dbm_1]
      decide
    · exact ((kk 6 (by decide)).trans q6).trans (show (5119903 : Int) = key 9999 12 31 by decide)
  obtain ⟨h8, q8, j8, e8, x8, c8, s8, m8, S8, g8, w8⟩ := D_cal7 hT r0 (by omega) (by omega : c0 < a) 3 0 (pC0 T) (pL0 T).2.2.2 h7 q H7 S7 gL (by omega) (by omega) m1 (by rw [n7]; exact pn) m2 D7
  have H8 := H7.fb x8 (by omega) (by omega)
  obtain ⟨h9, e9, x9, w9⟩ := D_finish hT S8 g8
  have hw : h9.M r 5 = pCw T := w9
  have x9' : Fb c0 (WR r) h8 h9 := x9.fb fun _ _ _ w => w
  have xs : Fb c0 (WR r) h h9 := ((((((x2.tr (x3.fb fun _ _ _ w => w)).tr x3').tr (x4.fb fun _ _ _ w => w)).tr x5).tr x6').tr x7).tr (x8.tr x9')
  refine ⟨h9, a, ?_, by rw [← hc0]; exact xs, by omega, ?_, ?_, hw, ?_, fun z => ?_⟩
  · rw [E_Al_readFrom, Z_hl, tt, e2, Z_bV, E_Al_readFrom_1, gd_t (by omega), e3, Z_bI, E_Al_readFrom_2, gd_t (by omega), Z_hl, E_Al_readFrom_3, gd_t (by omega), e4, Z_bV, E_Al_readFrom_4, Z_hl, tq, e5, Z_bV, E_Al_readFrom_5, gd_t (by omega), e6, Z_bV, E_Al_readFrom_6, gd_t (by omega), ea, Z_bV, E_Al_readFrom_7, e8, E_Al_readFrom_14, gd_t (by omega), e9, Z_bV, E_Al_readFrom_15]
  · rw [x9.cnt]; omega
  · rw [x9.sl]; omega
  · rw [x9.cnt]; have := x8.2.2.1; omega
  · have z2 : (caS T 3 0 (pC0 T) (pL0 T).2.2.2).2.2.2 = -1 := by
      by_cases q : (pCa T).2.2.2 = -1
      · exact q
      · unfold pCw fnS at z
        rw [if_neg fun w => q w.1] at z
        exact absurd z q
    have zL : (pL0 T).2.2.2.2 = -1 := by
      by_cases y : (pL0 T).2.2.2.2 = -1
      · exact y
      · rw [caS_no fun w => y w.1] at z2
        exact absurd z2 y
    obtain ⟨r1, r2, r3, r4⟩ := w8 z2
    have pv := pC0_v hT zL
    have ev : v = (pS0 T).1 := (u3 pv.2.2.2).1
    have kr : ∀ b k, b ≠ r → h9.M b k = h8.M b k := fun b k hb => x9.2 b k fun w => hb w.1
    refine ⟨?_, r2, ?_, r3, r4, pv.2.1, pv.2.2.1, ?_⟩
    · obtain ⟨b1, b2, b3, b4, b5, b6⟩ := r1
      rw [← hc0]
      refine ⟨b1, (kr a 1 (by omega)).trans b2, by rw [x9.N]; exact b3, (kr a 2 (by omega)).trans b4, fun i i0 i1 => ?_, fun i i0 i1 => ?_⟩
      · obtain ⟨u1, u2, u3, u4⟩ := b5 i i0 i1
        rw [kr (a + 1) i (by omega)]
        exact ⟨u1, by rw [x9.cnt]; exact u2, u3.cg (fun k _ => kr _ k (by omega)) (fun k => kr _ k (by omega)) (fun k => kr _ k (by omega)) (by rw [x9.N]) (by rw [x9.N]) (by rw [x9.N]), (kr _ 6 (by omega)).trans u4⟩
      · rw [kr (a + 1) i (by omega), kr (a + 1) (i + 1) (by omega)]
        exact b6 i i0 i1
    · rw [kr a 0 (by omega), m8, m0, ev]
    · exact caS_d0 T 3 0 (pC0 T) (pL0 T).2.2.2 (by omega)
