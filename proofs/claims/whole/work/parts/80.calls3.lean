/-! THE PURE PART, calls: right, part, row -/
theorem R_ansW {g : mH} {T : Int → Int} {n nc : Int} {Ds : Int → Int → Int → Int → Int} {nh : Int} {Xs : Int → HX} (J : INV g T n nc Ds nh Xs) {hd c y m d : Int} (p : 0 ≤ hd ∧ hd < nh) (i : isd nc Ds c y m d) : ∃ g', Cl kM_answer [vO 11 9, vI hd, vI c, vI y, vI m, vI d] g = some (some (vI (cb (toD (Xs hd) (Ds c) y m d ≠ -1))), g') ∧ Ew Wan g g' ∧ (toD (Xs hd) (Ds c) y m d ≠ -1 → g'.M 9 40 = toD (Xs hd) (Ds c) y m d % 7 ∧ g'.M 9 41 = toD (Xs hd) (Ds c) y m d / 7 ∧ 0 ≤ toD (Xs hd) (Ds c) y m d ∧ toD (Xs hd) (Ds c) y m d ≤ 20000000) := by
  have H := J.hik p.1 p.2
  have O := J.dok i.1.1 i.1.2
  rcases toD_cases H.1 O y m d with ⟨d1, d2, T, t1, t2, tb⟩ | ⟨t1, t2⟩
  · obtain ⟨g', e, x, r⟩ := R_answer J p.1 p.2 T.1 T.2.1 T.2.2 c
    have i2 : isd nc Ds c (hEY (Xs hd) y) (hEM (Xs hd) m) 1 := ⟨i.1, d2⟩
    obtain ⟨_, m40, m41⟩ := r i2
    refine ⟨g', by rw [cb_t t2, e, cb_t i2], x, fun _ => ⟨?_, ?_, ?_, ?_⟩⟩
    · rw [m40]; omega
    · rw [m41]; omega
    · omega
    · omega
  · rcases t2 with t2 | ⟨_, t3, T⟩
    · exact absurd t2 i.2
    · obtain ⟨g', e, x, r⟩ := R_answer J p.1 p.2 T.1 T.2.1 T.2.2 c
      refine ⟨g', ?_, x, fun t => absurd t1 t⟩
      rw [cb_f (p := toD (Xs hd) (Ds c) y m d ≠ -1) (fun t => t t1), e, cb_f fun t => t.2 t3]
theorem R_ansT {g : mH} {T : Int → Int} {n nc : Int} {Ds : Int → Int → Int → Int → Int} {nh : Int} {Xs : Int → HX} (J : INV g T n nc Ds nh Xs) {hd c y m d : Int} (p : 0 ≤ hd ∧ hd < nh) (i : isd nc Ds c y m d) : ∃ g', Cl kM_answer [vO 11 9, vI hd, vI c, vI y, vI m, vI d] g = some (some (vI (cb (toD (Xs hd) (Ds c) y m d ≠ -1))), g') ∧ Ew (Scr nc nh) g g' ∧ (toD (Xs hd) (Ds c) y m d ≠ -1 → g'.M 9 40 = toD (Xs hd) (Ds c) y m d % 7 ∧ g'.M 9 41 = toD (Xs hd) (Ds c) y m d / 7 ∧ 0 ≤ toD (Xs hd) (Ds c) y m d ∧ toD (Xs hd) (Ds c) y m d ≤ 20000000) := by
  obtain ⟨g', e, x, r⟩ := R_ansW J p i
  exact ⟨g', e, x.mono fun _ _ z => Wan_scr z, r⟩
theorem toD_no {X : HX} {D : Int → Int → Int → Int} {y m d : Int} (h : D y m d = -1) : toD X D y m d = -1 := if_pos h
theorem toD_lo {X : HX} (V : hxv X) {D : Int → Int → Int → Int} (O : Dok D) (y m d : Int) : -1 ≤ toD X D y m d ∧ toD X D y m d ≤ 20000000 := by
  rcases toD_cases V O y m d with ⟨d1, d2, T, t1, t2, tb⟩ | ⟨t1, t2⟩
  · omega
  · omega
theorem INV.told {h : mH} {T : Int → Int} {n nc : Int} {Ds : Int → Int → Int → Int → Int} {nh : Int} {Xs : Int → HX} (I : INV h T n nc Ds nh Xs) {hd c : Int} (p : 0 ≤ hd ∧ hd < nh) (q : 0 ≤ c ∧ c < nc) (y m d : Int) : Cl kHd_toldFor [vO 2 (h.M 4 hd), vR 0 (h.M 3 c), vI y, vI m, vI d] h = some (some (vI (toD (Xs hd) (Ds c) y m d)), h) := C_toldFor (I.hik p.1 p.2).1 (I.hik p.1 p.2).2.2.1 (I.cok q.1 q.2) y m d
theorem rt_in {h : mH} {T : Int → Int} {n nc : Int} {Ds : Int → Int → Int → Int → Int} {nh : Int} {Xs : Int → HX} (I : INV h T n nc Ds nh Xs) {hd c : Int} (p : 0 ≤ hd ∧ hd < nh) (q : 0 ≤ c ∧ c < nc) {y m w : Int} (w0 : w = 0 ∨ w = 1) (m0 : 1 ≤ m ∧ m ≤ 12) (u0 u1 u2 : mV) : ∀ (f : Nat) (d x : Int) (u10 u8 : mV) (g : mH), d + f = 32 → 1 ≤ d → INV g T n nc Ds nh Xs → 0 ≤ x → x + f ≤ 1000 →
    ∃ x' w9 w10 w7 w8 g', Rn kX_right 12 [u0, u1, u2, vI y, vI w, vR 2 (h.M 4 hd), vR 0 (h.M 3 c), vI x, vI m, vI d, u10] [] h = Rn kX_right 10 [u0, u1, u2, vI y, vI w, vR 2 (h.M 4 hd), vR 0 (h.M 3 c), vI x', vI (m + 1), w9, w10] [] h ∧ Rn kM_right 12 [vO 11 9, vI hd, vI c, vI y, vI w, vI x, vI m, vI d, u8] [] g = Rn kM_right 10 [vO 11 9, vI hd, vI c, vI y, vI w, vI x', vI (m + 1), w7, w8] [] g' ∧ Ew (Scr nc nh) g g' ∧ x ≤ x' ∧ x' ≤ x + f := by
  have q0 := I.q0 p.1 p.2
  have A := I.cok q.1 q.2
  intro f
  induction f with
  | zero =>
    intro d x u10 u8 g e d0 J x0 x1
    exact ⟨x, vI d, u10, vI d, u8, g, by rw [E_X_right_12, if_neg (by omega), Z_wI (by omega)], by rw [E_M_right_12, if_neg (by omega), Z_wI (by omega)], Ew.rf _ _, by omega, by omega⟩
  | succ f ih =>
    intro d x u10 u8 g e d0 J x0 x1
    have O := A.ok
    have db := O.1 y m d
    rw [E_X_right_12, if_pos (by omega), gd_t q0, I.told p q, Z_bI, E_M_right_12, if_pos (show d ≤ 31 by omega), R_isDate J.mcs, Z_bI, Z_wI (z := d + 1) (by omega)]
    by_cases z : Ds c y m d = -1
    · obtain ⟨x', w9, w10, w7, w8, g', e1, e2, y2, b1, b2⟩ := ih (d + 1) x (vI (toD (Xs hd) (Ds c) y m d)) (vI 0) g (by omega) (by omega) J x0 (by omega)
      refine ⟨x', w9, w10, w7, w8, g', ?_, ?_, y2, b1, by omega⟩
      · rw [if_pos (toD_no z)]
        exact e1
      · rw [cb_f fun t => t.2 z, if_pos rfl, E_M_right_19, if_pos rfl, Z_wI (z := x + 0) (by omega), Z_wI (z := d + 1) (by omega), Int.add_zero]
        exact e2
    · have i : isd nc Ds c y m d := ⟨q, z⟩
      obtain ⟨g1, e0, y0, r0⟩ := R_ansT J p i
      have J1 := J.ew y0 fun _ _ t => t
      rw [cb_t i, if_neg n10, e0, Z_bI]
      by_cases t : toD (Xs hd) (Ds c) y m d = -1
      · obtain ⟨x', w9, w10, w7, w8, g', e1, e2, y2, b1, b2⟩ := ih (d + 1) x (vI (toD (Xs hd) (Ds c) y m d)) (vI 0) g1 (by omega) (by omega) J1 x0 (by omega)
        refine ⟨x', w9, w10, w7, w8, g', ?_, ?_, y0.tr y2, b1, by omega⟩
        · rw [if_pos t]
          exact e1
        · rw [cb_f fun k => k t, if_pos rfl, E_M_right_19, if_pos rfl, Z_wI (z := x + 0) (by omega), Z_wI (z := d + 1) (by omega), Int.add_zero]
          exact e2
      · obtain ⟨m40, m41, tb⟩ := r0 t
        have an : Int.tmod (toD (Xs hd) (Ds c) y m d) 7 = toD (Xs hd) (Ds c) y m d % 7 := Z_tmod tb.1
        obtain ⟨xa, wa9, wa10, wa7, wa8, ga, ea1, ea2, ya, ba1, ba2⟩ := ih (d + 1) x (vI (toD (Xs hd) (Ds c) y m d)) (vI 1) g1 (by omega) (by omega) J1 x0 (by omega)
        obtain ⟨xb, wb9, wb10, wb7, wb8, gb, eb1, eb2, yb, bb1, bb2⟩ := ih (d + 1) (x + 1) (vI (toD (Xs hd) (Ds c) y m d)) (vI 1) g1 (by omega) (by omega) J1 (by omega) (by omega)
        rw [if_neg t, gd_t (by decide), gd_t A.a0, A.day, Z_bI, an, C_offBy (by omega) (by omega), Z_bI, cb_t t, if_neg n10, E_M_right_19, if_neg n10, R_dayOf J1.mcs i, Z_bI, m40, R_round (by omega) (by omega), Z_bI, Z_wI (z := x + 0) (by omega), Z_wI (z := x + 1) (by omega), Z_wI (z := d + 1) (by omega), Int.add_zero]
        by_cases k : offV (toD (Xs hd) (Ds c) y m d % 7) (Ds c y m d) = 0
        · rw [if_pos k, if_pos k, E_X_right_20]
          rcases w0 with w0 | w0
          · exact ⟨xb, wb9, wb10, wb7, wb8, gb, by rw [if_pos w0, if_pos rfl, Z_wI (by omega), Z_wI (by omega)]; exact eb1, by rw [if_pos w0]; exact eb2, y0.tr yb, by omega, by omega⟩
          · exact ⟨xa, wa9, wa10, wa7, wa8, ga, by rw [if_neg (by omega), if_neg (by omega), Z_wI (by omega)]; exact ea1, by rw [if_neg (by omega)]; exact ea2, y0.tr ya, ba1, by omega⟩
        · rw [if_neg k, if_neg k, E_X_right_20]
          rcases w0 with w0 | w0
          · exact ⟨xa, wa9, wa10, wa7, wa8, ga, by rw [if_pos w0, if_neg (by omega), Z_wI (by omega)]; exact ea1, by rw [if_pos w0]; exact ea2, y0.tr ya, ba1, by omega⟩
          · exact ⟨xb, wb9, wb10, wb7, wb8, gb, by rw [if_neg (by omega), if_pos rfl, Z_wI (by omega), Z_wI (by omega)]; exact eb1, by rw [if_neg (by omega)]; exact eb2, y0.tr yb, by omega, by omega⟩
theorem rt_out {h : mH} {T : Int → Int} {n nc : Int} {Ds : Int → Int → Int → Int → Int} {nh : Int} {Xs : Int → HX} (I : INV h T n nc Ds nh Xs) {hd c : Int} (p : 0 ≤ hd ∧ hd < nh) (q : 0 ≤ c ∧ c < nc) {y w : Int} (w0 : w = 0 ∨ w = 1) (u0 u1 u2 : mV) : ∀ (f : Nat) (m x : Int) (u9 u10 u7 u8 : mV) (g : mH), m + f = 13 → 1 ≤ m → INV g T n nc Ds nh Xs → 0 ≤ x → x ≤ 31 * m →
    ∃ v g', Rn kX_right 10 [u0, u1, u2, vI y, vI w, vR 2 (h.M 4 hd), vR 0 (h.M 3 c), vI x, vI m, u9, u10] [] h = some (some (vI v), h) ∧ Rn kM_right 10 [vO 11 9, vI hd, vI c, vI y, vI w, vI x, vI m, u7, u8] [] g = some (some (vI v), g') ∧ Ew (Scr nc nh) g g' := by
  intro f
  induction f with
  | zero =>
    intro m x u9 u10 u7 u8 g e m0 J x0 x1
    exact ⟨x, g, by rw [E_X_right_10, if_neg (by omega)], by rw [E_M_right_10, if_neg (by omega)], Ew.rf _ _⟩
  | succ f ih =>
    intro m x u9 u10 u7 u8 g e m0 J x0 x1
    obtain ⟨x', w9, w10, w7, w8, g1, e1, e2, y1, b1, b2⟩ := rt_in I p q w0 ⟨m0, by omega⟩ u0 u1 u2 31 1 x u10 u8 g (by decide) (by decide) J x0 (by omega)
    obtain ⟨v, g2, e3, e4, y2⟩ := ih (m + 1) x' w9 w10 w7 w8 g1 (by omega) (by omega) (J.ew y1 fun _ _ t => t) (by omega) (by omega)
    exact ⟨v, g2, by rw [E_X_right_10, if_pos (by omega), e1]; exact e3, by rw [E_M_right_10, if_pos (by omega), e2]; exact e4, y1.tr y2⟩
theorem ok_right {hd c y w : Int} : okc kX_right kM_right [vI hd, vI c, vI y, vI w] := okq1 fun h T n nc Ds nh Xs I => by
  rw [E_X_right, C_headAt I, Z_bR, C_almAt I, Z_bR, E_M_right, R_isHead I, Z_bI]
  by_cases p : 0 ≤ hd ∧ hd < nh
  · rw [if_pos p, if_neg (I.q0 p.1 p.2), bz_t p, if_neg n10, R_isCal I.mcs, Z_bI]
    by_cases q : 0 ≤ c ∧ c < nc
    · rw [if_pos q, if_neg (I.cok q.1 q.2).a0, bz_t q, if_neg n10, C_isYear, Z_bI, R_in, Z_bI]
      by_cases y0 : 1 ≤ y ∧ y ≤ 9999
      · rw [bz_t y0, if_neg n10, if_neg n10, R_in, Z_bI]
        by_cases w0 : 0 ≤ w ∧ w ≤ 1
        · obtain ⟨v, g', e1, e2, x2⟩ := rt_out I p q (y := y) (w := w) (by omega) (vO 10 1) (vI hd) (vI c) 12 1 0 vU vU vU vU h (by decide) (by decide) I (by decide) (by decide)
          exact ⟨v, g', by rw [if_neg (by omega), if_pos w0.2]; exact e1, by rw [bz_t w0, if_neg n10]; exact e2, x2⟩
        · refine ⟨-1, h, ?_, by rw [bz_f w0, if_pos rfl], Ew.rf _ _⟩
          by_cases z : w < 0
          · rw [if_pos z]
          · rw [if_neg z, if_neg (by omega)]
      · exact ⟨-1, h, by rw [bz_f y0, if_pos rfl], by rw [bz_f y0, if_pos rfl], Ew.rf _ _⟩
    · exact ⟨-1, h, by rw [if_neg q, if_pos rfl], by rw [bz_f q, if_pos rfl], Ew.rf _ _⟩
  · exact ⟨-1, h, by rw [if_neg p, if_pos rfl], by rw [bz_f p, if_pos rfl], Ew.rf _ _⟩
/-! two heads parted -/
theorem R_areApart {g : mH} {T : Int → Int} {n nc : Int} {Ds : Int → Int → Int → Int → Int} {nh : Int} {Xs : Int → HX} (J : INV g T n nc Ds nh Xs) {a b c y m d : Int} (p : 0 ≤ a ∧ a < nh) (p' : 0 ≤ b ∧ b < nh) (i : isd nc Ds c y m d) : ∃ g', Cl kM_areApart [vO 11 9, vI a, vI b, vI c, vI y, vI m, vI d] g = some (some (vI (cb (toD (Xs a) (Ds c) y m d ≠ toD (Xs b) (Ds c) y m d))), g') ∧ Ew (Scr nc nh) g g' := by
  obtain ⟨g1, e1, x1, r1⟩ := R_ansT J p i
  have J1 := J.ew x1 fun _ _ t => t
  obtain ⟨g2, e2, x2, r2⟩ := R_ansT J1 p' i
  refine ⟨g2, ?_, x1.tr x2⟩
  rw [E_M_areApart, e1, Z_bI, e2, Z_bI]
  generalize toD (Xs a) (Ds c) y m d = s at r1 ⊢
  generalize toD (Xs b) (Ds c) y m d = t at r2 ⊢
  by_cases q : s = -1
  · rw [cb_f (p := s ≠ -1) fun k => k q]
    by_cases w : t = -1
    · rw [cb_f (p := t ≠ -1) fun k => k w, if_pos rfl, if_pos rfl, gd_t (by decide), cb_f fun k => k (by rw [q, w])]
    · rw [cb_t (p := t ≠ -1) w, if_neg (by decide), gd_t (by decide), cb_t (p := s ≠ t) fun k => w (by rw [← k]; exact q)]
  · obtain ⟨a1, a2, a3, a4⟩ := r1 q
    rw [cb_t (p := s ≠ -1) q]
    by_cases w : t = -1
    · rw [cb_f (p := t ≠ -1) fun k => k w, if_neg (by decide), gd_t (by decide), cb_t (p := s ≠ t) fun k => q (by rw [k]; exact w)]
    · obtain ⟨b1, b2, b3, b4⟩ := r2 w
      rw [cb_t (p := t ≠ -1) w, if_pos rfl, if_neg n10, a1, a2, b1, b2]
      by_cases k1 : s % 7 = t % 7
      · rw [if_pos k1]
        by_cases k2 : s / 7 = t / 7
        · rw [if_pos k2, gd_t (by decide), cb_f fun k => k (by omega)]
        · rw [if_neg k2, gd_t (by decide), cb_t (p := s ≠ t) fun k => k2 (by rw [k])]
      · rw [if_neg k1, gd_t (by decide), cb_t (p := s ≠ t) fun k => k1 (by rw [k])]
theorem pt_d {h : mH} {T : Int → Int} {n nc : Int} {Ds : Int → Int → Int → Int → Int} {nh : Int} {Xs : Int → HX} (I : INV h T n nc Ds nh Xs) {a b c : Int} (p : 0 ≤ a ∧ a < nh) (p' : 0 ≤ b ∧ b < nh) (q : 0 ≤ c ∧ c < nc) {y m y1 ys : Int} (m0 : 1 ≤ m ∧ m ≤ 12) : ∀ (f : Nat) (d : Int) (g : mH), d + f = 32 → 1 ≤ d → INV g T n nc Ds nh Xs →
    ∃ g', Ew (Scr nc nh) g g' ∧ ((∃ v, v ≠ -1 ∧ Rn kX_partInYear 3 [vR 2 (h.M 4 a), vR 2 (h.M 4 b), vR 0 (h.M 3 c), vI y, vI m, vI d] [] h = some (some (vI v), h) ∧ Rn kM_part 17 [vO 11 9, vI a, vI b, vI c, vI y1, vI ys, vI y, vI m, vI d] [] g = some (some (vI v), g')) ∨ (Rn kX_partInYear 3 [vR 2 (h.M 4 a), vR 2 (h.M 4 b), vR 0 (h.M 3 c), vI y, vI m, vI d] [] h = Rn kX_partInYear 1 [vR 2 (h.M 4 a), vR 2 (h.M 4 b), vR 0 (h.M 3 c), vI y, vI (m + 1), vI 32] [] h ∧ Rn kM_part 17 [vO 11 9, vI a, vI b, vI c, vI y1, vI ys, vI y, vI m, vI d] [] g = Rn kM_part 15 [vO 11 9, vI a, vI b, vI c, vI y1, vI ys, vI y, vI (m + 1), vI 32] [] g')) := by
  have qa := I.q0 p.1 p.2
  have qb := I.q0 p'.1 p'.2
  have A := I.cok q.1 q.2
  intro f
  induction f with
  | zero =>
    intro d g e d0 J
    refine ⟨g, Ew.rf _ _, Or.inr ⟨?_, ?_⟩⟩
    · rw [E_X_partInYear_3, if_neg (by omega), Z_wI (by omega), show d = 32 by omega]
    · rw [E_M_part_17, if_neg (by omega), Z_wI (by omega), show d = 32 by omega]
  | succ f ih =>
    intro d g e d0 J
    rw [E_X_partInYear_3, if_pos (by omega), gd_t qa, I.told p q, Z_bI, gd_t qb, I.told p' q, Z_bI, E_M_part_17, if_pos (show d ≤ 31 by omega), R_isDate J.mcs, Z_bI, Z_wI (z := d + 1) (by omega)]
    by_cases z : Ds c y m d = -1
    · rw [if_pos (by rw [toD_no z, toD_no z]), cb_f (p := isd nc Ds c y m d) fun t => t.2 z, if_pos z00]
      exact ih (d + 1) g (by omega) (by omega) J
    · have i : isd nc Ds c y m d := ⟨q, z⟩
      obtain ⟨g1, e1, x1⟩ := R_areApart J p p' i
      have J1 := J.ew x1 fun _ _ t => t
      rw [cb_t (p := isd nc Ds c y m d) i, if_neg n10, e1, Z_bI]
      by_cases k : toD (Xs a) (Ds c) y m d = toD (Xs b) (Ds c) y m d
      · obtain ⟨g2, x2, r⟩ := ih (d + 1) g1 (by omega) (by omega) J1
        rw [if_pos k, cb_f (p := toD (Xs a) (Ds c) y m d ≠ toD (Xs b) (Ds c) y m d) fun t => t k, if_pos z00]
        exact ⟨g2, x1.tr x2, r⟩
      · rw [if_neg k, cb_t (p := toD (Xs a) (Ds c) y m d ≠ toD (Xs b) (Ds c) y m d) k, if_neg n10]
        exact ⟨g1, x1, Or.inl ⟨Ds c y m d, z, by rw [gd_t A.a0, A.day, Z_bI], by rw [R_dayOf J1.mcs i, Z_bI]⟩⟩
theorem pt_m {h : mH} {T : Int → Int} {n nc : Int} {Ds : Int → Int → Int → Int → Int} {nh : Int} {Xs : Int → HX} (I : INV h T n nc Ds nh Xs) {a b c : Int} (p : 0 ≤ a ∧ a < nh) (p' : 0 ≤ b ∧ b < nh) (q : 0 ≤ c ∧ c < nc) {y y1 ys : Int} (yb : 1 ≤ y ∧ y ≤ 9999) : ∀ (f : Nat) (m : Int) (u5 u8 : mV) (g : mH), m + f = 13 → 1 ≤ m → INV g T n nc Ds nh Xs →
    ∃ g', Ew (Scr nc nh) g g' ∧ ((∃ v, v ≠ -1 ∧ Rn kX_partInYear 1 [vR 2 (h.M 4 a), vR 2 (h.M 4 b), vR 0 (h.M 3 c), vI y, vI m, u5] [] h = some (some (vI v), h) ∧ Rn kM_part 15 [vO 11 9, vI a, vI b, vI c, vI y1, vI ys, vI y, vI m, u8] [] g = some (some (vI v), g')) ∨ (∃ w7 w8, Rn kX_partInYear 1 [vR 2 (h.M 4 a), vR 2 (h.M 4 b), vR 0 (h.M 3 c), vI y, vI m, u5] [] h = some (some (vI (-1)), h) ∧ Rn kM_part 15 [vO 11 9, vI a, vI b, vI c, vI y1, vI ys, vI y, vI m, u8] [] g = Rn kM_part 12 [vO 11 9, vI a, vI b, vI c, vI y1, vI ys, vI (y + 1), w7, w8] [] g')) := by
  intro f
  induction f with
  | zero =>
    intro m u5 u8 g e m0 J
    exact ⟨g, Ew.rf _ _, Or.inr ⟨vI m, u8, by rw [E_X_partInYear_1, if_neg (by omega)], by rw [E_M_part_15, if_neg (by omega), Z_wI (by omega)]⟩⟩
  | succ f ih =>
    intro m u5 u8 g e m0 J
    rw [E_X_partInYear_1, if_pos (by omega), E_M_part_15, if_pos (show m ≤ 12 by omega)]
    obtain ⟨g1, x1, r⟩ := pt_d I p p' q (y := y) (y1 := y1) (ys := ys) ⟨m0, by omega⟩ 31 1 g (by decide) (by decide) J
    rcases r with ⟨v, v0, e1, e2⟩ | ⟨e1, e2⟩
    · exact ⟨g1, x1, Or.inl ⟨v, v0, e1, e2⟩⟩
    · obtain ⟨g2, x2, r⟩ := ih (m + 1) (vI 32) (vI 32) g1 (by omega) (by omega) (J.ew x1 fun _ _ t => t)
      rw [e1, e2]
      exact ⟨g2, x1.tr x2, r⟩
theorem pt_y {h : mH} {T : Int → Int} {n nc : Int} {Ds : Int → Int → Int → Int → Int} {nh : Int} {Xs : Int → HX} (I : INV h T n nc Ds nh Xs) {a b c : Int} (p : 0 ≤ a ∧ a < nh) (p' : 0 ≤ b ∧ b < nh) (q : 0 ≤ c ∧ c < nc) {y1 ys : Int} (yb : 1 ≤ y1 ∧ y1 ≤ 9999) (sb : 1 ≤ ys ∧ ys ≤ 20) (u0 u1 u2 u3 u4 u5 : mV) : ∀ (f : Nat) (y : Int) (u11 u7 u8 : mV) (g : mH), y + f = imin (y1 + ys) 10000 → 1 ≤ y → INV g T n nc Ds nh Xs →
    ∃ v g', Rn kX_part 14 [u0, u1, u2, u3, u4, u5, vR 2 (h.M 4 a), vR 2 (h.M 4 b), vR 0 (h.M 3 c), vI (imin (y1 + ys - 1) 9999), vI y, u11] [] h = some (some (vI v), h) ∧ Rn kM_part 12 [vO 11 9, vI a, vI b, vI c, vI y1, vI ys, vI y, u7, u8] [] g = some (some (vI v), g') ∧ Ew (Scr nc nh) g g' := by
  have im : imin (y1 + ys - 1) 9999 + 1 = imin (y1 + ys) 10000 ∧ imin (y1 + ys) 10000 ≤ 10000 := by
    unfold imin
    split <;> split <;> omega
  intro f
  induction f with
  | zero =>
    intro y u11 u7 u8 g e y0 J
    exact ⟨-1, g, by rw [E_X_part_14, if_neg (by omega)], by rw [E_M_part_12, Z_wI (by omega), D_min, Z_bI, if_neg (by omega)], Ew.rf _ _⟩
  | succ f ih =>
    intro y u11 u7 u8 g e y0 J
    obtain ⟨g1, x1, r⟩ := pt_m I p p' q (y := y) (y1 := y1) (ys := ys) ⟨y0, by omega⟩ 12 1 vU u8 g (by decide) (by decide) J
    rw [E_X_part_14, if_pos (by omega), E_X_partInYear, E_M_part_12, Z_wI (z := y1 + ys) (by omega), D_min, Z_bI, if_pos (show y < imin (y1 + ys) 10000 by omega)]
    rcases r with ⟨v, v0, e1, e2⟩ | ⟨w7, w8, e1, e2⟩
    · exact ⟨v, g1, by rw [e1, Z_bI, if_neg v0], e2, x1⟩
    · obtain ⟨v, g2, e3, e4, x2⟩ := ih (y + 1) (vI (-1)) w7 w8 g1 (by omega) (by omega) (J.ew x1 fun _ _ t => t)
      exact ⟨v, g2, by rw [e1, Z_bI, if_pos rfl, Z_wI (by omega)]; exact e3, by rw [e2]; exact e4, x1.tr x2⟩
theorem ok_part {a b c y ys : Int} : okc kX_part kM_part [vI a, vI b, vI c, vI y, vI ys] := okq1 fun h T n nc Ds nh Xs I => by
  rw [E_X_part, C_headAt I, Z_bR, C_headAt I, Z_bR, C_almAt I, Z_bR, E_M_part, R_isHead I, Z_bI]
  by_cases p : 0 ≤ a ∧ a < nh
  · rw [if_pos p, if_neg (I.q0 p.1 p.2), bz_t p, if_neg n10, R_isHead I, Z_bI]
    by_cases p' : 0 ≤ b ∧ b < nh
    · rw [if_pos p', if_neg (I.q0 p'.1 p'.2), bz_t p', if_neg n10, R_isCal I.mcs, Z_bI]
      by_cases q : 0 ≤ c ∧ c < nc
      · rw [if_pos q, if_neg (I.cok q.1 q.2).a0, bz_t q, if_neg n10, C_isYear, Z_bI, R_in, Z_bI]
        by_cases s0 : 1 ≤ ys ∧ ys ≤ 20
        · rw [bz_t s0, if_neg n10, R_in, Z_bI]
          by_cases y0 : 1 ≤ y ∧ y ≤ 9999
          · have im : y ≤ imin (y + ys) 10000 := by
              unfold imin
              split <;> omega
            obtain ⟨v, g', e1, e2, x2⟩ := pt_y I p p' q y0 s0 (vO 10 1) (vI a) (vI b) (vI c) (vI y) (vI ys) (imin (y + ys) 10000 - y).toNat y vU vU vU h (by omega) y0.1 I
            exact ⟨v, g', by rw [bz_t y0, if_neg n10, if_neg (by omega), if_pos s0.2, Z_wI (z := y + ys) (by omega), Z_wI (by omega), D_min, Z_bI]; exact e1, by rw [bz_t y0, if_neg n10]; exact e2, x2⟩
          · exact ⟨-1, h, by rw [bz_f y0, if_pos rfl], by rw [bz_f y0, if_pos rfl], Ew.rf _ _⟩
        · refine ⟨-1, h, ?_, by rw [bz_f s0, if_pos rfl], Ew.rf _ _⟩
          by_cases y0 : 1 ≤ y ∧ y ≤ 9999
          · rw [bz_t y0, if_neg n10]
            by_cases z : ys < 1
            · rw [if_pos z]
            · rw [if_neg z, if_neg (by omega)]
          · rw [bz_f y0, if_pos rfl]
      · exact ⟨-1, h, by rw [if_neg q, if_pos rfl], by rw [bz_f q, if_pos rfl], Ew.rf _ _⟩
    · exact ⟨-1, h, by rw [if_neg p', if_pos rfl], by rw [bz_f p', if_pos rfl], Ew.rf _ _⟩
  · exact ⟨-1, h, by rw [if_neg p, if_pos rfl], by rw [bz_f p, if_pos rfl], Ew.rf _ _⟩
/-! the row of things -/
theorem rw_sil {T : Int → Int} {n nc : Int} {Ds : Int → Int → Int → Int → Int} {nh : Int} {Xs : Int → HX} {hd c i : Int} (i1 : i < 80) : ∀ (f : Nat) (k v : Int) (u7 : mV) (g : mH), k + f = i + 1 → 0 ≤ k → (f = 0 → v = 8) → Rn kM_row 8 [vO 11 9, vI hd, vI c, vI i, vI 3, vI v, vI k, u7] [] g = some (some (vI 8), g) := by
  intro f
  induction f with
  | zero =>
    intro k v u7 g e k0 hv
    rw [E_M_row_8, if_neg (by omega), hv rfl]
  | succ f ih =>
    intro k v u7 g e k0 hv
    rw [E_M_row_8, if_pos (by omega), if_neg (by decide), E_M_row_16, if_pos rfl, Z_wI (by omega)]
    exact ih (k + 1) 8 (vI 0) g (by omega) (by omega) fun _ => rfl
theorem rw_both {h : mH} {T : Int → Int} {n nc : Int} {Ds : Int → Int → Int → Int → Int} {nh : Int} {Xs : Int → HX} (I : INV h T n nc Ds nh Xs) {hd c i : Int} (p : 0 ≤ hd ∧ hd < nh) (q : 0 ≤ c ∧ c < nc) (i1 : i < h.M 1 16) (u1 u2 : mV) : ∀ (f : Nat) (k s v v' : Int) (u7 : mV) (g : mH), k + f = i + 1 → 0 ≤ k → Ew (Scr nc nh) h g → 0 ≤ s → s ≤ 3 → (f = 0 → v = v' ∧ s ≤ 3 ∧ (s = 3 → v = 7)) →
    ∃ r g', Rn kX_row 10 [vO 10 1, u1, u2, vI i, vR 2 (h.M 4 hd), vR 0 (h.M 3 c), vI s, vI v, vI k] [] h = some (some (vI r), h) ∧ Rn kM_row 8 [vO 11 9, vI hd, vI c, vI i, vI s, vI v', vI k, u7] [] g = some (some (vI r), g') ∧ Ew (Scr nc nh) g g' := by
  have L := I.1
  have q0 := I.q0 p.1 p.2
  have A := I.cok q.1 q.2
  have V := (I.hik p.1 p.2).1
  obtain ⟨w1, w2, w3, w4⟩ := I.2.2.2.2.2.2.2.2.2.1
  intro f
  induction f with
  | zero =>
    intro k s v v' u7 g e k0 x s0 s1 hz
    exact ⟨v, g, by rw [E_X_row_10, if_neg (by omega)], by rw [E_M_row_8, if_neg (by omega), (hz rfl).1], Ew.rf _ _⟩
  | succ f ih =>
    intro k s v v' u7 g e k0 x s0 s1 hz
    have J := I.ew x fun _ _ t => t
    have Lg := J.1
    rcases w4 with ⟨_, w5⟩ | ⟨t0, tN, tF, tR⟩
    · omega
    · rw [E_X_row_10, if_pos (by omega), E_M_row_8, if_pos (show k ≤ i by omega)]
      by_cases s3 : s < 3
      · have tk := tR k k0 (by omega)
        have r53 : g.M 53 k = h.M 53 k := x.2 53 k fun z => by have := scr_b z; omega
        have r54 : g.M 54 k = h.M 54 k := x.2 54 k fun z => by have := scr_b z; omega
        have r55 : g.M 55 k = h.M 55 k := x.2 55 k fun z => by have := scr_b z; omega
        rw [if_pos s3, if_pos s3, tN, gd_t (by omega), gd_t q0, lm66 Lg, lm67 Lg, lm68 Lg, ln53 Lg, ln54 Lg, ln55 Lg, gd_t (by omega), gd_t (by omega), gd_t (by omega), r53, r54, r55, R_isDate J.mcs, Z_bI, lm66 Lg, lm67 Lg, lm68 Lg, ln53 Lg, ln54 Lg, ln55 Lg, gd_t (by omega), gd_t (by omega), gd_t (by omega), r53, r54, r55]
        -- what the class's head says
        have sy : Cl kHd_saysTo [vO 2 (h.M 4 hd), vR 0 (h.M 3 c), vI (h.M (h.M 1 15) k)] h = some (some (vI (if toD (Xs hd) (Ds c) (h.M 53 k) (h.M 54 k) (h.M 55 k) = -1 then 7 else toD (Xs hd) (Ds c) (h.M 53 k) (h.M 54 k) (h.M 55 k) % 7)), h) := by
          have tl := toD_lo V A.ok (h.M 53 k) (h.M 54 k) (h.M 55 k)
          rcases tk with ⟨⟨ty, tm, td⟩, tk⟩ | ⟨nt, tk⟩
          · have kb : 0 ≤ key (h.M 53 k) (h.M 54 k) (h.M 55 k) ∧ key (h.M 53 k) (h.M 54 k) (h.M 55 k) < 2147483648 := by
              unfold key
              omega
            have ky := key_y (y := h.M 53 k) (m := h.M 54 k) (d := h.M 55 k) (by omega) (by omega) (by omega) (by omega)
            rw [E_Hd_saysTo, tk, C_yearOfKey h kb.1 kb.2, Z_bI, C_monthOfKey h kb.1 kb.2, Z_bI, C_dateOfKey, Z_bI, ky.1, ky.2.1, ky.2.2, I.told p q, Z_bI]
            by_cases z : toD (Xs hd) (Ds c) (h.M 53 k) (h.M 54 k) (h.M 55 k) = -1
            · rw [if_pos z, if_pos z]
            · rw [if_neg z, if_neg z, gd_t (by decide), Z_tmod (by omega)]
          · have n1 : Ds c (h.M 53 k) (h.M 54 k) (h.M 55 k) = -1 := by
              by_cases z : Ds c (h.M 53 k) (h.M 54 k) (h.M 55 k) = -1
              · exact z
              · exact absurd (A.ok.2.1 _ _ _ z) nt
            have n2 : Ds c 0 0 0 = -1 := by
              by_cases z : Ds c 0 0 0 = -1
              · exact z
              · have := (A.ok.2.1 _ _ _ z).1
                omega
            rw [E_Hd_saysTo, tk, C_yearOfKey h (by decide) (by decide), Z_bI, C_monthOfKey h (by decide) (by decide), Z_bI, C_dateOfKey, Z_bI]
            show bI (Cl kHd_toldFor [vO 2 (h.M 4 hd), vR 0 (h.M 3 c), vI 0, vI 0, vI 0] h) _ = _
            rw [I.told p q, Z_bI, toD_no n1, toD_no n2, if_pos rfl, if_pos rfl]
        rw [sy, Z_bI]
        -- the reference's side, from its sign on
        have fin : ∀ (b : Int) (g1 : mH), Ew (Scr nc nh) g g1 → ((b = 0 ∧ toD (Xs hd) (Ds c) (h.M 53 k) (h.M 54 k) (h.M 55 k) = -1) ∨ (b = 1 ∧ toD (Xs hd) (Ds c) (h.M 53 k) (h.M 54 k) (h.M 55 k) ≠ -1 ∧ g1.M 9 40 = toD (Xs hd) (Ds c) (h.M 53 k) (h.M 54 k) (h.M 55 k) % 7)) → ∃ r g', (if (if toD (Xs hd) (Ds c) (h.M 53 k) (h.M 54 k) (h.M 55 k) = -1 then 7 else toD (Xs hd) (Ds c) (h.M 53 k) (h.M 54 k) (h.M 55 k) % 7) = 7 then Rn kX_row 10 [vO 10 1, u1, u2, vI i, vR 2 (h.M 4 hd), vR 0 (h.M 3 c), vI (wI (s + 1)), vI (if toD (Xs hd) (Ds c) (h.M 53 k) (h.M 54 k) (h.M 55 k) = -1 then 7 else toD (Xs hd) (Ds c) (h.M 53 k) (h.M 54 k) (h.M 55 k) % 7), vI (wI (k + 1))] [] h else Rn kX_row 10 [vO 10 1, u1, u2, vI i, vR 2 (h.M 4 hd), vR 0 (h.M 3 c), vI 0, vI (if toD (Xs hd) (Ds c) (h.M 53 k) (h.M 54 k) (h.M 55 k) = -1 then 7 else toD (Xs hd) (Ds c) (h.M 53 k) (h.M 54 k) (h.M 55 k) % 7), vI (wI (k + 1))] [] h) = some (some (vI r), h) ∧ Rn kM_row 16 [vO 11 9, vI hd, vI c, vI i, vI s, vI v', vI k, u7] [vI b] g1 = some (some (vI r), g') ∧ Ew (Scr nc nh) g g' := by
          intro b g1 x1 hb
          rw [E_M_row_16, if_neg (by omega : ¬ s = 3), Z_wI (z := k + 1) (by omega), Z_wI (z := s + 1) (by omega)]
          rcases hb with ⟨b0, t⟩ | ⟨b1, t, m40⟩
          · obtain ⟨r, g2, e1, e2, x2⟩ := ih (k + 1) (s + 1) 7 7 (vI b) g1 (by omega) (by omega) (x.tr x1) (by omega) (by omega) (fun _ => ⟨rfl, by omega, fun _ => rfl⟩)
            exact ⟨r, g2, by rw [if_pos t, if_pos rfl]; exact e1, by rw [if_pos b0]; exact e2, x1.tr x2⟩
          · obtain ⟨r, g2, e1, e2, x2⟩ := ih (k + 1) 0 (toD (Xs hd) (Ds c) (h.M 53 k) (h.M 54 k) (h.M 55 k) % 7) (toD (Xs hd) (Ds c) (h.M 53 k) (h.M 54 k) (h.M 55 k) % 7) (vI b) g1 (by omega) (by omega) (x.tr x1) (by omega) (by omega) (fun _ => ⟨rfl, by omega, fun z => by omega⟩)
            exact ⟨r, g2, by rw [if_neg t, if_neg (by omega)]; exact e1, by rw [if_neg (by omega), m40, if_neg (by omega), if_neg (by omega)]; exact e2, x1.tr x2⟩
        by_cases z : Ds c (h.M 53 k) (h.M 54 k) (h.M 55 k) = -1
        · rw [cb_f (p := isd nc Ds c (h.M 53 k) (h.M 54 k) (h.M 55 k)) fun t => t.2 z, if_pos z00]
          exact fin 0 g (Ew.rf _ _) (Or.inl ⟨rfl, toD_no z⟩)
        · have id1 : isd nc Ds c (h.M 53 k) (h.M 54 k) (h.M 55 k) := ⟨q, z⟩
          obtain ⟨g1, e1, x1, r1⟩ := R_ansT J p id1
          rw [cb_t (p := isd nc Ds c (h.M 53 k) (h.M 54 k) (h.M 55 k)) id1, if_neg n10, e1, Z_bI]
          by_cases t : toD (Xs hd) (Ds c) (h.M 53 k) (h.M 54 k) (h.M 55 k) = -1
          · rw [cb_f (p := toD (Xs hd) (Ds c) (h.M 53 k) (h.M 54 k) (h.M 55 k) ≠ -1) fun y => y t, if_pos z00]
            exact fin 0 g1 x1 (Or.inl ⟨rfl, t⟩)
          · rw [cb_t (p := toD (Xs hd) (Ds c) (h.M 53 k) (h.M 54 k) (h.M 55 k) ≠ -1) t, if_neg n10]
            exact fin 1 g1 x1 (Or.inr ⟨rfl, t, (r1 t).1⟩)
      · have s3' : s = 3 := by omega
        have := rw_sil (T := T) (n := n) (nc := nc) (Ds := Ds) (nh := nh) (Xs := Xs) (hd := hd) (c := c) (i := i) (by omega) (f + 1) k v' u7 g (by omega) k0 (fun t => by omega)
        rw [E_M_row_8, if_pos (by omega)] at this
        rw [s3']
        exact ⟨8, g, by rw [if_neg (by decide)], this, Ew.rf _ _⟩
theorem ok_row {hd c i : Int} : okc kX_row kM_row [vI hd, vI c, vI i] := okq1 fun h T n nc Ds nh Xs I => by
  obtain ⟨w1, w2, w3, w4⟩ := I.2.2.2.2.2.2.2.2.2.1
  rw [E_X_row, C_headAt I, Z_bR, C_almAt I, Z_bR, E_M_row, R_isHead I, Z_bI]
  by_cases p : 0 ≤ hd ∧ hd < nh
  · rw [if_pos p, if_neg (I.q0 p.1 p.2), bz_t p, if_neg n10, R_isCal I.mcs, Z_bI]
    by_cases q : 0 ≤ c ∧ c < nc
    · rw [if_pos q, if_neg (I.cok q.1 q.2).a0, bz_t q, if_neg n10, w1, Z_wI (by omega), R_in, Z_bI]
      by_cases i0 : 0 ≤ i ∧ i ≤ h.M 1 16 - 1
      · rcases w4 with ⟨_, w5⟩ | ⟨t0, tN, tF, tR⟩
        · omega
        · obtain ⟨r, g', e1, e2, x2⟩ := rw_both I p q (i := i) (by omega) (vI hd) (vI c) (i + 1).toNat 0 0 8 0 vU h (by omega) (by omega) (Ew.rf _ _) (by omega) (by omega) (fun z => by omega)
          exact ⟨r, g', by rw [if_neg t0, if_neg (by omega), if_pos (by omega), gd_t t0, tN, if_pos (by omega)]; exact e1, by rw [bz_t i0, if_neg n10]; exact e2, x2⟩
      · refine ⟨-1, h, ?_, by rw [bz_f i0, if_pos rfl], Ew.rf _ _⟩
        by_cases t0 : h.M 1 15 = 0
        · rw [if_pos t0]
        · rw [if_neg t0]
          by_cases z : i < 0
          · rw [if_pos z]
          · rw [if_neg z, if_neg (by omega)]
    · exact ⟨-1, h, by rw [if_neg q, if_pos rfl], by rw [bz_f q, if_pos rfl], Ew.rf _ _⟩
  · exact ⟨-1, h, by rw [if_neg p, if_pos rfl], by rw [bz_f p, if_pos rfl], Ew.rf _ _⟩
