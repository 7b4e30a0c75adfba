/-! THE PURE PART, a change, read by the class -/
def WQ (q r : Int) : Int → Int → Prop := fun b k => (b = r ∧ 2 ≤ k) ∨ (b = q ∧ k = 6)
/-- where a Stretch and the Reader lie, all below c -/
def shq (h : mH) (q r c : Int) : Prop := 56 < q ∧ q ≤ c ∧ 56 < r ∧ r ≤ c ∧ 56 < h.M q 0 ∧ h.M q 0 ≤ c ∧ 56 < h.M q 1 ∧ h.M q 1 ≤ c ∧ ne2 q r ∧ ne2 (h.M q 0) r ∧ ne2 (h.M q 1) r ∧ ne2 (h.M q 0) q ∧ ne2 (h.M q 1) q
theorem clr.wr {h h1 : mH} {q r c : Int} {lp : Int → Int} (R : clr h q lp) (Q : shq h q r c) (x : Ew (WR r) h h1) : clr h1 q lp ∧ shq h1 q r c := by
  obtain ⟨q1, q2, q3, q4, q5, q6, q7, q8, n1, n2, n3, n4, n5⟩ := Q
  have e0 : h1.M q 0 = h.M q 0 := x.2 q 0 fun w => n1 w.1
  have e1 : h1.M q 1 = h.M q 1 := x.2 q 1 fun w => n1 w.1
  refine ⟨R.ew x (fun k _ w => n1 w.1) (fun j w => n2 w.1) (fun j w => n3 w.1), ?_⟩
  unfold shq
  rw [e0, e1]
  exact ⟨q1, q2, q3, q4, q5, q6, q7, q8, n1, n2, n3, n4, n5⟩
theorem D_chA {T : Int → Int} {N : Int} (hT : tpo T N) {q r c : Int} {h : mH} {lp : Int → Int} (R : clr h q lp) (Q : shq h q r c) (H : rtp h r T N) {st : Int × Int} (S : rst5 h r T st) (g : gs N st) {kf : Int} (hk : h.M q 5 = kf) : ∃ h' y m d, Cl kAl_readChange [vR 5 r, vR 9 q] h = Rn kAl_readChange 8 [vR 5 r, vR 9 q, vI y, vI m, vI d, vU, vU] [] h' ∧ Ew (WR r) h h' ∧ rst5 h' r T (chE T lp kf st) ∧ (1 ≤ y ∧ y ≤ 9999) ∧ (1 ≤ m ∧ m ≤ 12) ∧ (1 ≤ d ∧ d ≤ 31) ∧ ((chD T st).2.2 = -1 → y = (chY T st).1 ∧ m = (chM T st).1 ∧ d = (chD T st).1) := by
  obtain ⟨g1, g2, g3, g4, g5, g6, g7, g8, g9⟩ := ch_g hT lp kf g
  have r0 : r ≠ 0 := by have := Q.2.2.1; omega
  have q0 : q ≠ 0 := by have := Q.1; omega
  have nq : ne2 q r := Q.2.2.2.2.2.2.2.2.1
  obtain ⟨y, h1, e1, x1, S1, u1, y1⟩ := D_number hT H S g 1 9999
  have H1 := H.ew x1
  obtain ⟨h2, e2, x2, S2⟩ := D_expect hT H1 S1 g1 (c := 46) (by decide)
  have H2 := H1.ew x2
  obtain ⟨m, h3, e3, x3, S3, u3, m1⟩ := D_number hT H2 S2 g2 1 12
  have H3 := H2.ew x3
  obtain ⟨h4, e4, x4, S4⟩ := D_expect hT H3 S3 g3 (c := 46) (by decide)
  have H4 := H3.ew x4
  obtain ⟨d, h5, e5, x5, S5, u5, d1⟩ := D_number hT H4 S4 g4 1 31
  have H5 := H4.ew x5
  have xx := ((((x1.tr x2).tr x3).tr x4).tr x5)
  obtain ⟨R5, Q5⟩ := R.wr Q xx
  obtain ⟨y1a, y1b⟩ := y1 (by omega)
  obtain ⟨m1a, m1b⟩ := m1 (by omega)
  obtain ⟨d1a, d1b⟩ := d1 (by omega)
  have k5 : h5.M q 5 = kf := (xx.2 q 5 fun w => nq w.1).trans hk
  have S5' : rst5 h5 r T (chD T st).2 := S5
  have ce := C_canEndOn R5 y1a y1b m1a m1b d1a d1b
  rw [k5] at ce
  have head : Cl kAl_readChange [vR 5 r, vR 9 q] h = (if bz (d ≤ dim (lp y) m ∧ kf ≤ key y m d) = 0 then (gd (r ≠ (0 : Int)) <| bV (Cl kRd_refuseNumber [vO 5 r] h5) fun h7 => Rn kAl_readChange 8 [vR 5 r, vR 9 q, vI y, vI m, vI d, vU, vU] [] h7) else (Rn kAl_readChange 8 [vR 5 r, vR 9 q, vI y, vI m, vI d, vU, vU] [] h5)) := by
    rw [E_Al_readChange, gd_t r0, e1, Z_bI, gd_t r0, e2, Z_bV, gd_t r0, e3, Z_bI, gd_t r0, e4, Z_bV, gd_t r0, e5, Z_bI, gd_t q0, ce, Z_bI]
  by_cases z : (chD T st).2.2 = -1
  · have p4 := (nmS_b hT g4 (lo := 1) 31 (by omega)).2.2.2 z
    have z3 := (sgn_ok p4.1 (gs_sk hT g3)).1
    have p2 := (nmS_b hT g2 (lo := 1) 12 (by omega)).2.2.2 z3
    have z1 := (sgn_ok p2.1 (gs_sk hT g1)).1
    have ey : y = (chY T st).1 := (u1 z1).1
    have em : m = (chM T st).1 := (u3 z3).1
    have ed : d = (chD T st).1 := (u5 z).1
    by_cases w : d ≤ dim (lp y) m ∧ kf ≤ key y m d
    · rw [bz_t w, if_neg (by decide)] at head
      refine ⟨h5, y, m, d, head, xx, ?_, ⟨y1a, y1b⟩, ⟨m1a, m1b⟩, ⟨d1a, d1b⟩, fun _ => ⟨ey, em, ed⟩⟩
      unfold chE
      rw [← ey, ← em, ← ed, if_pos w]
      exact S5'
    · obtain ⟨h6, e6, x6, S6⟩ := D_refuseNumber S5' (fun _ => (u5 z).2)
      rw [bz_f w, if_pos rfl, gd_t r0, e6, Z_bV] at head
      refine ⟨h6, y, m, d, head, xx.tr x6, ?_, ⟨y1a, y1b⟩, ⟨m1a, m1b⟩, ⟨d1a, d1b⟩, fun _ => ⟨ey, em, ed⟩⟩
      unfold chE
      rw [← ey, ← em, ← ed, if_neg w]
      exact S6
  · have e9 : chE T lp kf st = (chD T st).2 := by
      unfold chE wlS
      rw [if_neg z]
      split <;> rfl
    by_cases w : d ≤ dim (lp y) m ∧ kf ≤ key y m d
    · rw [bz_t w, if_neg (by decide)] at head
      exact ⟨h5, y, m, d, head, xx, by rw [e9]; exact S5', ⟨y1a, y1b⟩, ⟨m1a, m1b⟩, ⟨d1a, d1b⟩, fun y => absurd y z⟩
    · obtain ⟨h6, e6, x6, S6⟩ := D_refuseNumber S5' (fun y => absurd y z)
      rw [bz_f w, if_pos rfl, gd_t r0, e6, Z_bV] at head
      refine ⟨h6, y, m, d, head, xx.tr x6, ?_, ⟨y1a, y1b⟩, ⟨m1a, m1b⟩, ⟨d1a, d1b⟩, fun y => absurd y z⟩
      rw [e9]
      unfold wlS at S6
      rw [if_neg z] at S6
      exact S6
theorem D_chB {T : Int → Int} {N : Int} (hT : tpo T N) {q r : Int} {h : mH} {lp : Int → Int} (R : clr h q lp) (Q : shq h q r h.cnt) (H : rtp h r T N) {st : Int × Int} {kf : Int} (S : rst5 h r T (chE T lp kf st)) (g : gs N st) (sw : -1 ≤ st.2) {y m d : Int} (y1 : 1 ≤ y ∧ y ≤ 9999) (m1 : 1 ≤ m ∧ m ≤ 12) (d1 : 1 ≤ d ∧ d ≤ 31) (he : (chD T st).2.2 = -1 → y = (chY T st).1 ∧ m = (chM T st).1 ∧ d = (chD T st).1) : ∃ h' t, Rn kAl_readChange 8 [vR 5 r, vR 9 q, vI y, vI m, vI d, vU, vU] [] h = some (some (vR 9 t), h') ∧ Fr (WQ q r) 4 26 h h' ∧ t = (h.cnt : Int) + 1 ∧ h'.cnt = h.cnt + 4 ∧ rst5 h' r T (chR T lp kf st).2.2.2 ∧ ((chR T lp kf st).2.2.2.2 = -1 → clr h' t (lpR (chR T lp kf st)) ∧ h'.M t 0 = t + 1 ∧ h'.M t 1 = t + 2 ∧ h'.M t 3 = (chY T st).1 ∧ h'.M t 4 = dbm (lpR (chR T lp kf st) (chY T st).1) (chM T st).1 + imin (chD T st).1 (dim (lpR (chR T lp kf st) (chY T st).1) (chM T st).1) + (chN T lp kf st).1 + 1 ∧ h'.M t 5 = keyT (chF (lpR (chR T lp kf st)) (chY T st).1 (chM T st).1 (chD T st).1 (chN T lp kf st).1) ∧ h'.M t 6 = 5119903 ∧ h'.M t 9 = t + 3 ∧ h'.N (t + 3) = 0 ∧ h'.M q 6 = key (chY T st).1 (chM T st).1 (chD T st).1) := by
  obtain ⟨g1, g2, g3, g4, g5, g6, g7, g8, g9⟩ := ch_g hT lp kf g
  have Q' := Q
  obtain ⟨q1, q2, q3, q4, q5, q6, q7, q8, n1, n2, n3, n4, n5⟩ := Q
  have r0 : r ≠ 0 := by omega
  have q0 : q ≠ 0 := by omega
  obtain ⟨h1, e1, x1, S1⟩ := D_expect hT H S g6 (c := 45) (by decide)
  have H1 := H.ew x1
  obtain ⟨n, h2, e2, x2, S2, u2, nb⟩ := D_number hT H1 S1 g7 0 30
  have H2 := H1.ew x2
  obtain ⟨h3, e3, x3, S3⟩ := D_expect hT H2 S2 g8 (c := 58) (by decide)
  have H3 := H2.ew x3
  have xa := (x1.tr x2).tr x3
  obtain ⟨nb1, nb2⟩ := nb (by omega)
  have ca : h3.cnt = h.cnt := xa.cnt
  have sa : h3.sl = h.sl := xa.sl
  obtain ⟨t, ht⟩ : ∃ t, t = (h.cnt : Int) + 1 := ⟨_, rfl⟩
  have tt : h3.top = t := by rw [Z_top, ca, ht]
  -- the new Stretch
  obtain ⟨h5, e5, c5, s5, X5, M5, N5, f0, f1, f2, f5, f3, f4, f6, f9, na, nbb, ncc, z5⟩ := C_shInit (t := t) (h := h3.new 9 10) (by rw [Z_cw, ca, ht]; rfl) (by omega)
  have M5' : ∀ b k, b < t → h5.M b k = h3.M b k := fun b k hb => by rw [M5 b k hb, Z_Mw, if_neg (by omega)]
  have N5' : ∀ b, b < t → h5.N b = h3.N b := fun b hb => by rw [N5 b (by omega), Z_Nw, if_neg (by omega)]
  have P5 : shp h5 t (t + 1) (t + 2) r := ⟨f0, f1, na, nbb, by unfold ne2; omega, by unfold ne2; omega, by unfold ne2; omega, by unfold ne2; omega, by unfold ne2; omega, by unfold ne2; omega, by unfold ne2; omega, by unfold ne2; omega, by unfold ne2; omega, by unfold ne2; omega, by unfold ne2; omega, by unfold ne2; omega⟩
  have H5 : rtp h5 r T N := by
    obtain ⟨a1, a2, a3, a4, a5⟩ := H3
    exact ⟨(M5' r 0 (by omega)).trans a1, (M5' r 1 (by omega)).trans a2, (N5' 2 (by omega)).trans a3, fun i i0 i1 => (M5' 2 i (by omega)).trans (a4 i i0 i1), a5⟩
  have S5 : rst5 h5 r T (sgn T 58 (chN T lp kf st).2) := S3.cg fun k => M5' r k (by omega)
  have z2 : h5.M t 2 = 0 := by rw [f2, Z_Mw, if_pos tt.symm]
  obtain ⟨h6, lq, e6, x6, S6, R6, w6⟩ := D_leaps hT P5 H5 S5 g9 z2 (fun j _ _ => Or.inl (z5 j))
  obtain ⟨a0, a1, _⟩ := P5.ew x6
  have M6 : ∀ b k, b < t → ¬ (b = r ∧ 2 ≤ k) → h6.M b k = h3.M b k := fun b k hb hr => (x6.2 b k fun w => by
    rcases w with w | w | w | w
    · exact hr w
    · omega
    · omega
    · omega).trans (M5' b k hb)
  have T6 : ∀ k, 3 ≤ k → h6.M t k = h5.M t k := fun k hk => x6.2 t k fun w => by
    rcases w with w | w | w | w <;> omega
  -- the last date ahead
  have R7 : clr (h6.set q 6 (key y m d)) t lq := R6.cg (Z_Mn (by omega)) (Z_Mn (by omega)) (Z_Mn (by omega)) (fun j => by rw [a0]; exact Z_Mn (by omega)) (fun j => by rw [a1]; exact Z_Mn (by omega)) rfl rfl
  have b0 : (h6.set q 6 (key y m d)).M t 0 = t + 1 := by rw [Z_Mn (by omega)]; exact a0
  have b1 : (h6.set q 6 (key y m d)).M t 1 = t + 2 := by rw [Z_Mn (by omega)]; exact a1
  obtain ⟨h8, e8, x8, v3, v4, v5⟩ := C_takeOver R7 (by rw [b0]; unfold ne2; omega) (by rw [b1]; unfold ne2; omega) y1.1 y1.2 m1.1 m1.2 d1.1 d1.2 nb1 nb2
  have k7 : (h6.set q 6 (key y m d)).M q 6 = key y m d := Z_Mt ..
  have c8 : h8.cnt = h.cnt + 4 := by rw [x8.cnt, Z_cs, x6.cnt, c5, Z_cw, ca]
  have s8 : h8.sl = h.sl + 26 := by rw [x8.sl, Z_ss, x6.sl, s5, Z_sw, sa]; rfl
  have X8 : h8.X = h.X := by rw [x8.X, Z_Xs, x6.X, X5, Z_Xw, xa.X]
  refine ⟨h8, t, ?_, ⟨fun b k hb w => ?_, fun b hb => ?_, by omega, by omega, by omega, X8⟩, ht, c8, ?_, fun z => ?_⟩
  · rw [E_Al_readChange_8, gd_t r0, e1, Z_bV, gd_t r0, e2, Z_bI, gd_t r0, e3, Z_bV, Z_hl, tt, e5, Z_bV, gd_t (by omega), e6, Z_bV, C_keyOf _ (by omega) (by omega) (by omega) (by omega) (by omega) (by omega), Z_bI, gd_t q0, Z_hl, gd_t q0, gd_t (by omega), k7, e8, Z_bV]
  · rw [x8.2 b k fun v => by have := v.1; omega, Z_Mn (by
      by_cases z : b = q
      · right; intro z2; exact w (Or.inr ⟨z, z2⟩)
      · left; exact z), M6 b k (by omega) fun v => w (Or.inl v), xa.2 b k fun v => w (Or.inl v)]
  · rw [x8.N, Z_Ns, x6.N, N5' b (by omega), xa.N]
  · have e9 : ∀ k, h8.M r k = h6.M r k := fun k => by
      rw [x8.2 r k fun v => by have := v.1; omega, Z_Mn (Or.inl n1.sy)]
    exact S6.cg e9
  · obtain ⟨⟨_, _⟩, ⟨_, _⟩, ⟨_, _⟩, ⟨_, _⟩, dm, kk, _⟩ := ch_ok hT g sw z
    have zz9 : (sgn T 58 (chN T lp kf st).2).2 = -1 := by
      rcases rlS_b hT 8 0 lf0 lf0 _ g9 with w | w
      · exact w.2.1 z
      · exfalso
        have q : (sgn T 58 (chN T lp kf st).2).2 ≠ -1 := by omega
        have e : (chR T lp kf st) = (0, lf0, lf0, (nmS T 1 9999 (sgn T 58 (chN T lp kf st).2)).2) := rlS_bad (n := 7) (by unfold nmS; rw [if_neg q]; exact q)
        rw [e] at z
        dsimp only at z
        unfold nmS at z
        rw [if_neg q] at z
        exact q z
    have z8 := (sgn_ok zz9 (gs_sk hT g8)).1
    have p8 := (nmS_b hT g7 (lo := 0) 30 (by omega)).2.2.2 z8
    have z6 := (sgn_ok p8.1 (gs_sk hT g6)).1
    have z5' : (chD T st).2.2 = -1 := by
      unfold chE at z6
      rw [if_pos ⟨dm, kk⟩] at z6
      exact z6
    obtain ⟨ey, em, ed⟩ := he z5'
    have en : n = (chN T lp kf st).1 := (u2 z8).1
    have el : lq = lpR (chR T lp kf st) := w6 z
    rw [← ey, ← em, ← ed, ← en, ← el]
    have tk : ∀ k, ¬ (k = 3 ∨ k = 4 ∨ k = 5) → h8.M t k = h6.M t k := fun k hk => by
      rw [x8.2 t k fun v => hk v.2, Z_Mn (by omega)]
    refine ⟨R7.ew x8 (fun k k3 v => by have := v.2; omega) (fun j v => by have := v.1; rw [b0] at this; omega) (fun j v => by have := v.1; rw [b1] at this; omega), (tk 0 (by omega)).trans a0, (tk 1 (by omega)).trans a1, v3, v4, v5, ?_, ?_, by rw [x8.N, Z_Ns, x6.N]; exact ncc, ?_⟩
    · rw [tk 6 (by omega), T6 6 (by omega)]; exact f6
    · rw [tk 9 (by omega), T6 9 (by omega)]; exact f9
    · rw [x8.2 q 6 fun v => by have := v.1; omega]; exact k7
theorem D_change {T : Int → Int} {N : Int} (hT : tpo T N) {q r : Int} {h : mH} {lp : Int → Int} (R : clr h q lp) (Q : shq h q r h.cnt) (H : rtp h r T N) {st : Int × Int} (S : rst5 h r T st) (g : gs N st) (sw : -1 ≤ st.2) {kf : Int} (hk : h.M q 5 = kf) : ∃ h' t, Cl kAl_readChange [vR 5 r, vR 9 q] h = some (some (vR 9 t), h') ∧ Fr (WQ q r) 4 26 h h' ∧ t = (h.cnt : Int) + 1 ∧ h'.cnt = h.cnt + 4 ∧ rst5 h' r T (chR T lp kf st).2.2.2 ∧ ((chR T lp kf st).2.2.2.2 = -1 → clr h' t (lpR (chR T lp kf st)) ∧ h'.M t 0 = t + 1 ∧ h'.M t 1 = t + 2 ∧ h'.M t 3 = (chY T st).1 ∧ h'.M t 4 = dbm (lpR (chR T lp kf st) (chY T st).1) (chM T st).1 + imin (chD T st).1 (dim (lpR (chR T lp kf st) (chY T st).1) (chM T st).1) + (chN T lp kf st).1 + 1 ∧ h'.M t 5 = keyT (chF (lpR (chR T lp kf st)) (chY T st).1 (chM T st).1 (chD T st).1 (chN T lp kf st).1) ∧ h'.M t 6 = 5119903 ∧ h'.M t 9 = t + 3 ∧ h'.N (t + 3) = 0 ∧ h'.M q 6 = key (chY T st).1 (chM T st).1 (chD T st).1) := by
  obtain ⟨h1, y, m, d, e1, x1, S1, y1, m1, d1, he⟩ := D_chA hT R Q H S g hk
  obtain ⟨R1, Q1⟩ := R.wr Q x1
  have c1 : h1.cnt = h.cnt := x1.cnt
  rw [← c1] at Q1
  obtain ⟨h', t, e2, x2, t2, c2, S2, w2⟩ := D_chB hT R1 Q1 (H.ew x1) S1 g sw y1 m1 d1 he
  refine ⟨h', t, e1.trans e2, (x1.fr.mono (fun b k w => (Or.inl w : WQ q r b k)) (Nat.le_refl _) (Nat.le_refl _)).tr x2 |>.mono (fun _ _ w => w) (by omega) (by omega), by rw [t2, c1], by rw [c2, c1], S2, w2⟩
