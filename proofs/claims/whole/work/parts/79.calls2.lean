/-! THE PURE PART, calls: true steps, gaps and costs, rises -/
theorem R_areYears (a b : Int) (h : mH) : Cl kM_areYears [vO 11 9, vI a, vI b] h = some (some (vI (bz ((1 ≤ a ∧ a ≤ 9999) ∧ a ≤ b ∧ b ≤ 9999))), h) := by
  rw [E_M_areYears, R_in, Z_bI]
  by_cases q : 1 ≤ a ∧ a ≤ 9999
  · rw [bz_t q, if_neg n10, R_in, Z_bI]
    by_cases w : a ≤ b ∧ b ≤ 9999
    · rw [bz_t w, if_neg n10, gd_t (by decide), bz_t ⟨q, w⟩]
    · rw [bz_f w, if_pos rfl, gd_t (by decide), bz_f fun z => w z.2]
  · rw [bz_f q, if_pos rfl, gd_t (by decide), bz_f fun z => q z.1]
theorem ts_both {h : mH} {T : Int → Int} {n nc : Int} {Ds : Int → Int → Int → Int → Int} {nh : Int} {Xs : Int → HX} (I : INV h T n nc Ds nh Xs) {c : Int} (q : 0 ≤ c ∧ c < nc) {by' to : Int} (b0 : 1 ≤ by' ∧ by' ≤ 400) (t0 : to ≤ 9999) (u0 u2 u3 w3 : mV) : ∀ (f : Nat) (y x : Int) (w7 : mV), y + f = 10001 → 1 ≤ y → 0 ≤ x → x ≤ y → ∃ v, Rn kHd_trueSteps 1 [u0, vR 0 (h.M 3 c), u2, u3, vI to, vI by', vI x, vI y] [] h = some (some (vI v), h) ∧ Rn kM_stepTrue 1 [vO 11 9, vI c, vI by', w3, vI to, vI x, vI y, w7] [] h = some (some (vI v), h) := by
  have A := I.cok q.1 q.2
  intro f
  induction f with
  | zero =>
    intro y x w7 e y0 x0 x1
    exact ⟨x, by rw [E_Hd_trueSteps_1, Z_wI (by omega), if_neg (by omega)], by rw [E_M_stepTrue_1, Z_wI (by omega), if_neg (by omega)]⟩
  | succ f ih =>
    intro y x w7 e y0 x0 x1
    have w1 : wI (y + by') = y + by' := Z_wI (by omega)
    rw [E_Hd_trueSteps_1, E_M_stepTrue_1, w1]
    by_cases k : y + by' ≤ to
    · rw [if_pos k, if_pos k, gd_t A.a0, A.like, Z_bI, R_kindOf I.mcs q.1 q.2, Z_bI, kd_Y A.ok, Z_wI (z := y + 1) (by omega), Z_wI (z := x + 1) (by omega), Z_wI (z := x + 0) (by omega), Int.add_zero]
      by_cases k1 : kdY (Ds c) y = -1
      · obtain ⟨v, e1, e2⟩ := ih (y + 1) x (vI (kdY (Ds c) y)) (by omega) (by omega) x0 (by omega)
        exact ⟨v, by rw [cb_f fun t => t.1 k1, if_pos rfl]; exact e1, by rw [if_pos k1]; exact e2⟩
      · rw [if_neg k1, R_kindOf I.mcs q.1 q.2, Z_bI, kd_Y A.ok]
        by_cases k2 : kdY (Ds c) y = kdY (Ds c) (y + by')
        · obtain ⟨v, e1, e2⟩ := ih (y + 1) (x + 1) (vI (kdY (Ds c) y)) (by omega) (by omega) (by omega) (by omega)
          exact ⟨v, by rw [cb_t ⟨k1, k2⟩, if_neg n10]; exact e1, by rw [if_pos k2]; exact e2⟩
        · obtain ⟨v, e1, e2⟩ := ih (y + 1) x (vI (kdY (Ds c) y)) (by omega) (by omega) x0 (by omega)
          exact ⟨v, by rw [cb_f fun t => k2 t.2, if_pos rfl]; exact e1, by rw [if_neg k2]; exact e2⟩
    · exact ⟨x, by rw [if_neg k], by rw [if_neg k]⟩
theorem tp_both {h : mH} {T : Int → Int} {n nc : Int} {Ds : Int → Int → Int → Int → Int} {nh : Int} {Xs : Int → HX} (I : INV h T n nc Ds nh Xs) {hd c : Int} (p : 0 ≤ hd ∧ hd < nh) (q : 0 ≤ c ∧ c < nc) {k to : Int} (k0 : 0 ≤ k) (k1 : k < hH (Xs hd) 6 0) (t0 : to ≤ 9999) (u3 w4 : mV) : ∀ (f : Nat) (y x : Int), y + f = to + 1 → 1 ≤ y → 0 ≤ x → x ≤ y → ∃ v, Rn kHd_truePairs 1 [vO 2 (h.M 4 hd), vR 0 (h.M 3 c), vI k, u3, vI to, vI x, vI y] [] h = some (some (vI v), h) ∧ Rn kM_monthsTrue 1 [vO 11 9, vI c, vI (hH (Xs hd) 7 k), vI (hH (Xs hd) 8 k), w4, vI to, vI x, vI y] [] h = some (some (vI v), h) := by
  have A := I.cok q.1 q.2
  obtain ⟨V, _, ⟨C, D, _⟩, _⟩ := I.hik p.1 p.2
  have q0 := C.2.2.2.2.2.2.2
  have v6 := V.1.2.2.1
  intro f
  induction f with
  | zero =>
    intro y x e y0 x0 x1
    exact ⟨x, by rw [E_Hd_truePairs_1, if_neg (by omega)], by rw [E_M_monthsTrue_1, if_neg (by omega)]⟩
  | succ f ih =>
    intro y x e y0 x0 x1
    have b1 := A.ok.1 y (hH (Xs hd) 7 k) 1
    have b2 := A.ok.1 y (hH (Xs hd) 8 k) 1
    rw [E_Hd_truePairs_1, if_pos (by omega), C.1.2.2.2.1, C.2.2.1.1, C.2.2.1.2.1, C.2.2.2.2.1.1, C.2.2.2.2.1.2.1, gd_t (by omega), gd_t (by omega), gd_t (by omega), gd_t (by omega), (D.2.1 k).2.2.2.2.1, (D.2.1 k).2.2.2.2.2.1, gd_t A.a0, A.alike, Z_bI, E_M_monthsTrue_1, if_pos (show y ≤ to by omega), R_isDate I.mcs, Z_bI, Z_wI (z := y + 1) (by omega), Z_wI (z := x + 1) (by omega), Z_wI (z := x + 0) (by omega), Int.add_zero]
    obtain ⟨va, ea1, ea2⟩ := ih (y + 1) x (by omega) (by omega) x0 (by omega)
    obtain ⟨vb, eb1, eb2⟩ := ih (y + 1) (x + 1) (by omega) (by omega) (by omega) (by omega)
    by_cases z1 : Ds c y (hH (Xs hd) 7 k) 1 = -1
    · exact ⟨va, by rw [cb_f fun t => t.1 z1, if_pos rfl]; exact ea1, by rw [cb_f fun t => t.2 z1, if_pos rfl]; exact ea2⟩
    · have i1 : isd nc Ds c y (hH (Xs hd) 7 k) 1 := ⟨q, z1⟩
      rw [cb_t (p := isd nc Ds c y (hH (Xs hd) 7 k) 1) i1, if_neg n10, R_isDate I.mcs, Z_bI]
      by_cases z2 : Ds c y (hH (Xs hd) 8 k) 1 = -1
      · exact ⟨va, by rw [cb_f fun t => t.2.1 z2, if_pos rfl]; exact ea1, by rw [cb_f fun t => t.2 z2, if_pos rfl]; exact ea2⟩
      · have i2 : isd nc Ds c y (hH (Xs hd) 8 k) 1 := ⟨q, z2⟩
        rw [cb_t (p := isd nc Ds c y (hH (Xs hd) 8 k) 1) i2, if_neg n10, R_dayOf I.mcs i1, Z_bI, gd_t (by decide), R_dayOf I.mcs i2, Z_bI, gd_t (by decide), Z_tmod (by omega), Z_tmod (by omega)]
        by_cases z3 : Ds c y (hH (Xs hd) 7 k) 1 % 7 = Ds c y (hH (Xs hd) 8 k) 1 % 7
        · exact ⟨vb, by rw [cb_t ⟨z1, z2, z3⟩, if_neg n10]; exact eb1, by rw [if_pos z3]; exact eb2⟩
        · exact ⟨va, by rw [cb_f fun t => z3 t.2.2, if_pos rfl]; exact ea1, by rw [if_neg z3]; exact ea2⟩
theorem ok_holds {hd c w k a b : Int} : okc kX_holds kM_holds [vI hd, vI c, vI w, vI k, vI a, vI b] := okq0 fun h T n nc Ds nh Xs I => by
  have L := I.1
  have nb := I.nh
  rw [E_X_holds, C_headAt I, Z_bR, C_almAt I, Z_bR, E_M_holds, R_isHead I, Z_bI]
  by_cases p : 0 ≤ hd ∧ hd < nh
  · obtain ⟨V, M, O, _⟩ := I.hik p.1 p.2
    have q0 := I.q0 p.1 p.2
    rw [if_pos p, if_neg q0, bz_t p, if_neg n10, R_isCal I.mcs, Z_bI]
    by_cases q : 0 ≤ c ∧ c < nc
    · have A := I.cok q.1 q.2
      rw [if_pos q, if_neg A.a0, bz_t q, if_neg n10, C_areYears, Z_bI, R_areYears, Z_bI]
      by_cases yy : (1 ≤ a ∧ a ≤ 9999) ∧ a ≤ b ∧ b ≤ 9999
      · obtain ⟨C, D, _⟩ := O
        have v3 := V.1.2.1
        have v6 := V.1.2.2.1
        have qz := C.2.2.2.2.2.2.2
        obtain ⟨p1, p2, p3, p4, p5, p6, p7, p8⟩ := M.1
        rw [bz_t yy, if_neg n10, if_neg n10, C.1.2.2.1, C.1.2.2.2.1, D.1.2.1, D.1.2.2]
        by_cases w0 : w = 0
        · rw [if_pos w0, if_pos w0, lm18 L, ln23 L, gd_t (show (0 : Int) ≤ hd ∧ hd < 9 ∧ (23 : Int) ≠ 0 by omega), p2, Z_wI (z := hH (Xs hd) 3 0 - 1) (by omega), R_in, Z_bI]
          by_cases k0 : 0 ≤ k ∧ k ≤ hH (Xs hd) 3 0 - 1
          · have s := V.1.2.2.2.2.1 k k0.1 (by omega)
            have i1 : wI (wI (6 * hd) + k) = 6 * hd + k := by rw [Z_wI (z := 6 * hd) (by omega), Z_wI (by omega)]
            obtain ⟨v, e1, e2⟩ := ts_both I q (by' := hH (Xs hd) 4 k) ⟨s.1, s.2.1⟩ yy.2.2 (vO 2 (h.M 4 hd)) (vI k) (vI a) (vI a) (10001 - a).toNat a 0 vU (by omega) yy.1.1 (by omega) (by omega)
            refine ⟨v, ?_, ?_⟩
            · rw [if_neg (by omega), gd_t q0, gd_t (by omega), if_pos (by omega), gd_t q0, E_Hd_trueSteps, C.1.2.2.1, gd_t (by omega), C.2.1.1, C.2.2.2.1.2.2.1, gd_t (by omega), (D.2.1 k).2.2.1, e1, Z_bI]
            · rw [bz_t k0, if_neg n10, i1, lm19 L, ln24 L, gd_t (by omega), (p5 k k0.1 (by omega)).1, E_M_stepTrue, e2, Z_bI]
          · refine ⟨-1, ?_, by rw [bz_f k0, if_pos rfl]⟩
            by_cases kn : k < 0
            · rw [if_pos kn]
            · rw [if_neg kn, gd_t q0, gd_t (by omega), if_neg (by omega), if_neg (by omega)]
        · rw [if_neg w0, if_neg w0]
          by_cases w1 : w = 1
          · rw [if_pos w1, if_pos w1, lm21 L, ln26 L, gd_t (show (0 : Int) ≤ hd ∧ hd < 9 ∧ (26 : Int) ≠ 0 by omega), p3, Z_wI (z := hH (Xs hd) 6 0 - 1) (by omega), R_in, Z_bI]
            by_cases k0 : 0 ≤ k ∧ k ≤ hH (Xs hd) 6 0 - 1
            · have i1 : wI (wI (12 * hd) + k) = 12 * hd + k := by rw [Z_wI (z := 12 * hd) (by omega), Z_wI (by omega)]
              obtain ⟨v, e1, e2⟩ := tp_both I p q (k := k) (to := b) k0.1 (by omega) yy.2.2 (vI a) (vI a) (b + 1 - a).toNat a 0 (by omega) yy.1.1 (by omega) (by omega)
              refine ⟨v, ?_, ?_⟩
              · rw [if_neg (by omega), gd_t q0, gd_t (by omega), if_pos (by omega), gd_t q0, E_Hd_truePairs, e1, Z_bI]
              · rw [bz_t k0, if_neg n10, i1, lm22 L, lm23 L, ln27 L, ln28 L, gd_t (by omega), gd_t (by omega), (p6 k k0.1 (by omega)).1, (p6 k k0.1 (by omega)).2.1, E_M_monthsTrue, e2, Z_bI]
            · refine ⟨-1, ?_, by rw [bz_f k0, if_pos rfl]⟩
              by_cases kn : k < 0
              · rw [if_pos kn]
              · rw [if_neg kn, gd_t q0, gd_t (by omega), if_neg (by omega)]
          · refine ⟨-1, ?_, by rw [if_neg w1]⟩
            rw [if_neg w1]
            by_cases kn : k < 0
            · rw [if_pos kn]
            · rw [if_neg kn]
      · exact ⟨-1, by rw [bz_f yy, if_pos rfl], by rw [bz_f yy, if_pos rfl]⟩
    · exact ⟨-1, by rw [if_neg q, if_pos rfl], by rw [bz_f q, if_pos rfl]⟩
  · exact ⟨-1, by rw [if_neg p, if_pos rfl], by rw [bz_f p, if_pos rfl]⟩
theorem R_costOf {h : mH} {T : Int → Int} {n nc : Int} {Ds : Int → Int → Int → Int → Int} {nh : Int} {Xs : Int → HX} (I : INV h T n nc Ds nh Xs) {hd y : Int} (p : 0 ≤ hd ∧ hd < nh) (y0 : 1 ≤ y ∧ y ≤ 9999) (nf : hLY (Xs hd) y ≠ 1152921504606846976) : Cl kM_costOf [vO 11 9, vI hd, vI y] h = some (some (vI (hLY (Xs hd) y / 16384)), h) := by
  have L := I.1
  have nb := I.nh
  obtain ⟨V, M, O, _⟩ := I.hik p.1 p.2
  have g := gL_0F (by decide) V.2.1 y0.1 (by omega : y < 10000)
  have g5 := g.2.2.2.2 nf
  have i1 : wI (wI (10001 * hd) + y) = 10001 * hd + y := by rw [Z_wI (z := 10001 * hd) (by omega), Z_wI (by omega)]
  rw [E_M_costOf, i1, lm30 L, ln33 L, gd_t (by omega), gd_t (by decide), M.2.1 y y0.1 y0.2, Z_tdiv g.2.2.1, g5.1]
  have b := (V.2.1.1 y y0.1 (by omega)).2.2 nf
  have b0 := (V.2.1.1 y y0.1 (by omega)).1
  rw [Z_wL (by omega), Z_wI (by omega)]
theorem coR_n {n : Int} {L : Int → Int} {v : Int} (h : 1 ≤ v ∧ v < n) (nf : L v ≠ 1152921504606846976) : coR n L v = L v / 16384 := if_pos ⟨h, nf⟩
theorem coR_f {n : Int} {L : Int → Int} {v : Int} (nf : L v = 1152921504606846976) : coR n L v = -1 := if_neg fun z => z.2 nf
theorem lk_m {h : mH} {T : Int → Int} {n nc : Int} {Ds : Int → Int → Int → Int → Int} {nh : Int} {Xs : Int → HX} (I : INV h T n nc Ds nh Xs) {hd : Int} (p : 0 ≤ hd ∧ hd < nh) (w2 w3 w4 : mV) : ∀ (f : Nat) (m x : Int), m + f = 13 → 1 ≤ m → inI x → ∃ v, Rn kHd_monthsLacked 1 [vO 2 (h.M 4 hd), vI x, vI m] [] h = some (some (vI v), h) ∧ Rn kM_lacks 7 [vO 11 9, vI hd, w2, w3, w4, vI x, vI m] [] h = some (some (vI v), h) := by
  have L := I.1
  have nb := I.nh
  obtain ⟨V, M, O, _⟩ := I.hik p.1 p.2
  have w10 : h.M (h.M 4 hd) 10 ≠ 0 := by have := O.2.2.2.1.2.2.1; omega
  have B := rsp_lnb (by decide) V.2.2
  intro f
  induction f with
  | zero =>
    intro m x e m0 xI
    exact ⟨x, by rw [E_Hd_monthsLacked_1, if_neg (by omega)], by rw [E_M_lacks_7, if_neg (by omega)]⟩
  | succ f ih =>
    intro m x e m0 xI
    have g := gL_0F (by decide) V.2.2 m0 (by omega : m < 13)
    have bb := B m m0 (by omega)
    have i1 : wI (wI (13 * hd) + m) = 13 * hd + m := by rw [Z_wI (z := 13 * hd) (by omega), Z_wI (by omega)]
    rw [E_Hd_monthsLacked_1, if_pos (by omega), gd_t w10, C_costOf O.2.2.2 B, Z_bI, E_M_lacks_7, if_pos (show m ≤ 12 by omega), i1, lm31 L, ln34 L, gd_t (by omega), M.2.2 m m0 (by omega), ifL, Z_or0 xI, Z_wI (z := m + 1) (by omega)]
    by_cases z : hLM (Xs hd) m = 1152921504606846976
    · obtain ⟨v, e1, e2⟩ := ih (m + 1) (ior x (ishl 1 (wI (m - 1)))) (by omega) (by omega) (Z_orIn _ _)
      exact ⟨v, by rw [coR_f z, if_pos rfl]; exact e1, by rw [if_neg fun t => (g.1.mp t) z]; exact e2⟩
    · obtain ⟨v, e1, e2⟩ := ih (m + 1) x (by omega) (by omega) xI
      exact ⟨v, by rw [coR_n ⟨m0, by omega⟩ z, if_neg (by omega)]; exact e1, by rw [if_pos (g.1.mpr z)]; exact e2⟩
theorem lk_y {h : mH} {T : Int → Int} {n nc : Int} {Ds : Int → Int → Int → Int → Int} {nh : Int} {Xs : Int → HX} (I : INV h T n nc Ds nh Xs) {hd : Int} (p : 0 ≤ hd ∧ hd < nh) {to w : Int} (t0 : to ≤ 9999) (u0 u1 u2 w2 : mV) : ∀ (f : Nat) (y g d ms : Int) (u10 : mV), y + f = to + 1 → 1 ≤ y → 0 ≤ g → g ≤ y → ((d = -1 ∧ ms = -1) ∨ ((1 ≤ d ∧ d ≤ 9999) ∧ hLY (Xs hd) d ≠ 1152921504606846976 ∧ ms = hLY (Xs hd) d / 16384)) → ∃ v, Rn kX_lacks 12 [u0, u1, u2, vI to, vI w, vR 2 (h.M 4 hd), vI g, vI d, vI ms, vI y, u10] [] h = some (some (vI v), h) ∧ Rn kM_yearsLack 1 [vO 11 9, vI hd, w2, vI to, vI w, vI g, vI d, vI y] [] h = some (some (vI v), h) := by
  have L := I.1
  have nb := I.nh
  have q0 := I.q0 p.1 p.2
  obtain ⟨V, M, O, _⟩ := I.hik p.1 p.2
  have w9 : h.M (h.M 4 hd) 9 ≠ 0 := by have := O.2.2.1.1.2.2.1; omega
  have B := rsp_lnb (by decide) V.2.1
  intro f
  induction f with
  | zero =>
    intro y g d ms u10 e y0 g0 g1 S
    rw [E_X_lacks_12, if_neg (by omega), E_M_yearsLack_1, if_neg (show ¬ y ≤ to by omega)]
    by_cases w0 : w = 0
    · exact ⟨g, by rw [if_pos w0], by rw [if_pos w0]⟩
    · rw [if_neg w0, if_neg w0]
      by_cases w1 : w = 1
      · exact ⟨d, by rw [if_pos w1], by rw [if_pos w1]⟩
      · rw [if_neg w1, if_neg w1]
        rcases S with ⟨s1, s2⟩ | ⟨s1, s2, s3⟩
        · exact ⟨ms, rfl, by rw [if_pos s1, s1, s2]⟩
        · exact ⟨ms, rfl, by rw [if_neg (by omega), R_costOf I p s1 s2, Z_bI, s3]⟩
  | succ f ih =>
    intro y g d ms u10 e y0 g0 g1 S
    have gl := gL_0F (by decide) V.2.1 y0 (by omega : y < 10000)
    have bb := B y y0 (by omega)
    have i1 : wI (wI (10001 * hd) + y) = 10001 * hd + y := by rw [Z_wI (z := 10001 * hd) (by omega), Z_wI (by omega)]
    rw [E_X_lacks_12, if_pos (by omega), gd_t q0, gd_t w9, C_costOf O.2.2.1 B, Z_bI, E_M_yearsLack_1, if_pos (show y ≤ to by omega), i1, lm30 L, ln33 L, gd_t (by omega), M.2.1 y y0 (by omega), ifL, Z_wI (z := y + 1) (by omega), Z_wI (z := g + 1) (by omega)]
    by_cases z : hLY (Xs hd) y = 1152921504606846976
    · obtain ⟨v, e1, e2⟩ := ih (y + 1) (g + 1) d ms (vI (-1)) (by omega) (by omega) (by omega) (by omega) S
      exact ⟨v, by rw [coR_f z, if_pos rfl]; exact e1, by rw [if_neg fun t => (gl.1.mp t) z]; exact e2⟩
    · have yb : 1 ≤ y ∧ y ≤ 9999 := ⟨y0, by omega⟩
      obtain ⟨va, ea1, ea2⟩ := ih (y + 1) g d ms (vI (hLY (Xs hd) y / 16384)) (by omega) (by omega) g0 (by omega) S
      obtain ⟨vb, eb1, eb2⟩ := ih (y + 1) g y (hLY (Xs hd) y / 16384) (vI (hLY (Xs hd) y / 16384)) (by omega) (by omega) g0 (by omega) (Or.inr ⟨yb, z, rfl⟩)
      rw [coR_n ⟨y0, by omega⟩ z, if_neg (by omega : ¬ hLY (Xs hd) y / 16384 = -1), if_pos (gl.1.mpr z)]
      rcases S with ⟨s1, s2⟩ | ⟨s1, s2, s3⟩
      · exact ⟨vb, by rw [if_neg (by omega)]; exact eb1, by rw [if_pos s1]; exact eb2⟩
      · rw [if_neg (by omega : ¬ d = -1), R_costOf I p yb z, Z_bI, R_costOf I p s1 s2, Z_bI, s3]
        rw [s3] at ea1
        by_cases k : hLY (Xs hd) y / 16384 ≤ hLY (Xs hd) d / 16384
        · exact ⟨va, by rw [if_pos k]; exact ea1, by rw [if_pos k]; exact ea2⟩
        · exact ⟨vb, by rw [if_neg k]; exact eb1, by rw [if_neg k]; exact eb2⟩
theorem ok_lacks {hd a b w : Int} : okc kX_lacks kM_lacks [vI hd, vI a, vI b, vI w] := okq0 fun h T n nc Ds nh Xs I => by
  rw [E_X_lacks, C_headAt I, Z_bR, E_M_lacks, R_isHead I, Z_bI]
  by_cases p : 0 ≤ hd ∧ hd < nh
  · have q0 := I.q0 p.1 p.2
    rw [if_pos p, if_neg q0, bz_t p, if_neg n10, R_in, Z_bI]
    by_cases w0 : 0 ≤ w ∧ w ≤ 3
    · rw [if_neg (by omega : ¬ w < 0), if_pos w0.2, bz_t w0, if_neg n10]
      by_cases w3 : w = 3
      · obtain ⟨v, e1, e2⟩ := lk_m I p (vI a) (vI b) (vI w) 12 1 0 (by decide) (by decide) ⟨by decide, by decide⟩
        exact ⟨v, by rw [if_pos w3, gd_t q0, E_Hd_monthsLacked, e1, Z_bI], by rw [if_pos w3, e2]⟩
      · rw [if_neg w3, if_neg w3, C_areYears, Z_bI, R_areYears, Z_bI]
        by_cases yy : (1 ≤ a ∧ a ≤ 9999) ∧ a ≤ b ∧ b ≤ 9999
        · obtain ⟨v, e1, e2⟩ := lk_y I p (w := w) yy.2.2 (vO 10 1) (vI hd) (vI a) (vI a) (b + 1 - a).toNat a 0 (-1) (-1) vU (by omega) yy.1.1 (by omega) (by omega) (Or.inl ⟨rfl, rfl⟩)
          exact ⟨v, by rw [bz_t yy, if_neg n10]; exact e1, by rw [bz_t yy, if_neg n10, E_M_yearsLack, e2, Z_bI]⟩
        · exact ⟨-1, by rw [bz_f yy, if_pos rfl], by rw [bz_f yy, if_pos rfl]⟩
    · refine ⟨-1, ?_, by rw [bz_f w0, if_pos rfl]⟩
      by_cases z : w < 0
      · rw [if_pos z]
      · rw [if_neg z, if_neg (by omega)]
  · exact ⟨-1, by rw [if_neg p, if_pos rfl], by rw [bz_f p, if_pos rfl]⟩
def cmpV (a b : Int) : Int := if a < b then -1 else if a = b then 0 else 1
theorem cmpV_b (a b : Int) : -1 ≤ cmpV a b ∧ cmpV a b ≤ 1 := by
  unfold cmpV
  split
  · omega
  · split <;> omega
theorem C_cmp (a b : Int) (h : mH) : Cl kJ_compare [vI a, vI b] h = some (some (vI (cmpV a b)), h) := by
  rw [E_J_compare]
  unfold cmpV
  by_cases q : a < b
  · rw [if_pos q, if_pos q]
  · rw [if_neg q, if_neg q]
    by_cases w : a = b
    · rw [if_pos w, if_pos w]
    · rw [if_neg w, if_neg w]
theorem rs_both {h : mH} {T : Int → Int} {n nc : Int} {Ds : Int → Int → Int → Int → Int} {nh : Int} {Xs : Int → HX} (I : INV h T n nc Ds nh Xs) {a b : Int} (p : 0 ≤ a ∧ a < nh) (q : 0 ≤ b ∧ b < nh) {to : Int} (t0 : to ≤ 9999) (u0 u1 u2 u3 w3 : mV) : ∀ (f : Nat) (y x : Int) (u9 u10 w7 : mV), y + f = to + 1 → 1 ≤ y → -y ≤ x → x ≤ y → ∃ v, Rn kX_rises 8 [u0, u1, u2, u3, vI to, vR 2 (h.M 4 a), vR 2 (h.M 4 b), vI x, vI y, u9, u10] [] h = some (some (vI v), h) ∧ Rn kM_rises 8 [vO 11 9, vI a, vI b, w3, vI to, vI x, vI y, w7] [] h = some (some (vI v), h) := by
  have L := I.1
  have nb := I.nh
  have q0 := I.q0 p.1 p.2
  have q1 := I.q0 q.1 q.2
  obtain ⟨V, M, O, _⟩ := I.hik p.1 p.2
  obtain ⟨V', M', O', _⟩ := I.hik q.1 q.2
  have w9 : h.M (h.M 4 a) 9 ≠ 0 := by have := O.2.2.1.1.2.2.1; omega
  have w9' : h.M (h.M 4 b) 9 ≠ 0 := by have := O'.2.2.1.1.2.2.1; omega
  have B := rsp_lnb (by decide) V.2.1
  have B' := rsp_lnb (by decide) V'.2.1
  intro f
  induction f with
  | zero =>
    intro y x u9 u10 w7 e y0 x0 x1
    exact ⟨x, by rw [E_X_rises_8, if_neg (by omega)], by rw [E_M_rises_8, if_neg (by omega)]⟩
  | succ f ih =>
    intro y x u9 u10 w7 e y0 x0 x1
    have gl := gL_0F (by decide) V.2.1 y0 (by omega : y < 10000)
    have gl' := gL_0F (by decide) V'.2.1 y0 (by omega : y < 10000)
    have bb := B y y0 (by omega)
    have bb' := B' y y0 (by omega)
    have yb : 1 ≤ y ∧ y ≤ 9999 := ⟨y0, by omega⟩
    have i1 : wI (wI (10001 * a) + y) = 10001 * a + y := by rw [Z_wI (z := 10001 * a) (by omega), Z_wI (by omega)]
    have i2 : wI (wI (10001 * b) + y) = 10001 * b + y := by rw [Z_wI (z := 10001 * b) (by omega), Z_wI (by omega)]
    rw [E_X_rises_8, if_pos (by omega), gd_t q0, gd_t w9, C_costOf O.2.2.1 B, Z_bI, gd_t q1, gd_t w9', C_costOf O'.2.2.1 B', Z_bI, E_M_rises_8, if_pos (show y ≤ to by omega), i1, i2, lm30 L, ln33 L, gd_t (by omega), M.2.1 y y0 (by omega), M'.2.1 y y0 (by omega), ifL, Z_wI (z := y + 1) (by omega), Z_wI (z := x + 0) (by omega), Int.add_zero]
    by_cases z : hLY (Xs a) y = 1152921504606846976
    · obtain ⟨v, e1, e2⟩ := ih (y + 1) x (vI (-1)) (vI (coR 10000 (hLY (Xs b)) y)) (vI 0) (by omega) (by omega) (by omega) (by omega)
      exact ⟨v, by rw [coR_f z, if_pos rfl]; exact e1, by rw [if_neg fun t => (gl.1.mp t) z]; exact e2⟩
    · rw [coR_n (n := 10000) (L := hLY (Xs a)) ⟨y0, by omega⟩ z, if_neg (by omega : ¬ hLY (Xs a) y / 16384 = -1), if_pos (gl.1.mpr z), gd_t (by omega), ifL]
      by_cases z' : hLY (Xs b) y = 1152921504606846976
      · obtain ⟨v, e1, e2⟩ := ih (y + 1) x (vI (hLY (Xs a) y / 16384)) (vI (-1)) (vI 0) (by omega) (by omega) (by omega) (by omega)
        exact ⟨v, by rw [coR_f z', if_pos rfl]; exact e1, by rw [if_neg fun t => (gl'.1.mp t) z']; exact e2⟩
      · have cb' := cmpV_b (hLY (Xs a) y / 16384) (hLY (Xs b) y / 16384)
        obtain ⟨v, e1, e2⟩ := ih (y + 1) (x + cmpV (hLY (Xs a) y / 16384) (hLY (Xs b) y / 16384)) (vI (hLY (Xs a) y / 16384)) (vI (hLY (Xs b) y / 16384)) (vI 1) (by omega) (by omega) (by omega) (by omega)
        exact ⟨v, by rw [coR_n ⟨y0, by omega⟩ z', if_neg (by omega), C_cmp, Z_bI, Z_wI (by omega)]; exact e1, by rw [if_pos (gl'.1.mpr z'), R_costOf I p yb z, Z_bI, R_costOf I q yb z', Z_bI, C_cmp, Z_bI, Z_wI (by omega)]; exact e2⟩
theorem ok_rises {a b y z : Int} : okc kX_rises kM_rises [vI a, vI b, vI y, vI z] := okq0 fun h T n nc Ds nh Xs I => by
  rw [E_X_rises, C_headAt I, Z_bR, C_headAt I, Z_bR, E_M_rises, R_isHead I, Z_bI]
  by_cases p : 0 ≤ a ∧ a < nh
  · rw [if_pos p, if_neg (I.q0 p.1 p.2), bz_t p, if_neg n10, R_isHead I, Z_bI]
    by_cases q : 0 ≤ b ∧ b < nh
    · rw [if_pos q, if_neg (I.q0 q.1 q.2), bz_t q, if_neg n10, C_areYears, Z_bI, R_areYears, Z_bI]
      by_cases yy : (1 ≤ y ∧ y ≤ 9999) ∧ y ≤ z ∧ z ≤ 9999
      · obtain ⟨v, e1, e2⟩ := rs_both I p q yy.2.2 (vO 10 1) (vI a) (vI b) (vI y) (vI y) (z + 1 - y).toNat y 0 vU vU vU (by omega) yy.1.1 (by omega) (by omega)
        exact ⟨v, by rw [bz_t yy, if_neg n10]; exact e1, by rw [bz_t yy, if_neg n10]; exact e2⟩
      · exact ⟨-1000, by rw [bz_f yy, if_pos rfl], by rw [bz_f yy, if_pos rfl]⟩
    · exact ⟨-1000, by rw [if_neg q, if_pos rfl], by rw [bz_f q, if_pos rfl]⟩
  · exact ⟨-1000, by rw [if_neg p, if_pos rfl], by rw [bz_f p, if_pos rfl]⟩
