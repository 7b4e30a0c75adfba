/-! THE PURE PART, calls: months, like years, thirteenths, mates, unlike days -/
noncomputable def nin (D : Int → Int → Int → Int) (y m : Int) : Int := cn (fun d => D y m d ≠ -1) 31 1
theorem nin_b (D : Int → Int → Int → Int) (y m : Int) : 0 ≤ nin D y m ∧ nin D y m ≤ 31 := cn_b _ 31 1
theorem C_many11 {h : mH} {a : Int} {D : Int → Int → Int → Int} (A : cck h a D) {y : Int} (y0 : 1 ≤ y ∧ y ≤ 9999) (u0 u1 u3 : mV) : ∀ (f : Nat) (k x : Int), k + f = 13 → 1 ≤ k → 0 ≤ x → x ≤ 31 * k → Rn kX_many 11 [u0, u1, vI y, u3, vR 0 a, vI x, vI k] [] h = some (some (vI (x + sm (nin D y) f k)), h) := by
  intro f
  induction f with
  | zero =>
    intro k x e k0 x0 x1
    rw [E_X_many_11, if_neg (by omega)]
    show _ = some (some (vI (x + 0)), h)
    rw [Int.add_zero]
  | succ f ih =>
    intro k x e k0 x0 x1
    have b := nin_b D y k
    have ed : Cl kAl_datesIn [vO 0 a, vI y, vI k] h = some (some (vI (nin D y k)), h) := A.dates y0.1 y0.2 k0 (by omega)
    rw [E_X_many_11, if_pos (by omega), gd_t A.a0, ed, Z_bI, Z_wI (by omega), Z_wI (by omega), ih (k + 1) _ (by omega) (by omega) (by omega) (by omega), sm_s, Int.add_assoc]
theorem R_many16 {h : mH} {nc : Int} {Ds : Int → Int → Int → Int → Int} (S : mcs h nc Ds) {c y m k : Int} (c0 : 0 ≤ c ∧ c < nc) (kb : 1 ≤ k ∧ k ≤ 12) : ∀ (f : Nat) (d x : Int), d + f = 32 → 1 ≤ d → 0 ≤ x → x + f ≤ 1000 → Rn kM_many 16 [vO 11 9, vI c, vI y, vI m, vI x, vI k, vI d] [] h = Rn kM_many 11 [vO 11 9, vI c, vI y, vI m, vI (x + cn (fun d => Ds c y k d ≠ -1) f d), vI (k + 1), vI 32] [] h := by
  intro f
  induction f with
  | zero =>
    intro d x e d0 x0 x1
    rw [E_M_many_16, if_neg (by omega), Z_wI (by omega), show d = 32 by omega]
    show _ = Rn kM_many 11 [vO 11 9, vI c, vI y, vI m, vI (x + 0), vI (k + 1), vI 32] [] h
    rw [Int.add_zero]
  | succ f ih =>
    intro d x e d0 x0 x1
    rw [E_M_many_16, if_pos (by omega), R_isDate S, Z_bI, cn_s]
    by_cases q : Ds c y k d = -1
    · rw [cb_f fun z => z.2 q, if_pos rfl, cb_f fun z => z q, Z_wI (by omega), Z_wI (by omega), ih (d + 1) _ (by omega) (by omega) (by omega) (by omega), Int.add_assoc]
    · rw [cb_t ⟨c0, q⟩, if_neg n10, cb_t q, Z_wI (by omega), Z_wI (by omega), ih (d + 1) _ (by omega) (by omega) (by omega) (by omega), Int.add_assoc]
theorem R_many11 {h : mH} {nc : Int} {Ds : Int → Int → Int → Int → Int} (S : mcs h nc Ds) {c y : Int} (c0 : 0 ≤ c ∧ c < nc) : ∀ (f : Nat) (k x : Int) (u : mV), k + f = 13 → 1 ≤ k → 0 ≤ x → x ≤ 31 * k → Rn kM_many 11 [vO 11 9, vI c, vI y, vI 0, vI x, vI k, u] [] h = some (some (vI (x + sm (nin (Ds c) y) f k)), h) := by
  intro f
  induction f with
  | zero =>
    intro k x u e k0 x0 x1
    rw [E_M_many_11, if_pos rfl, if_neg (by omega)]
    show _ = some (some (vI (x + 0)), h)
    rw [Int.add_zero]
  | succ f ih =>
    intro k x u e k0 x0 x1
    have b := nin_b (Ds c) y k
    have b' : nin (Ds c) y k = cn (fun d => Ds c y k d ≠ -1) 31 1 := rfl
    rw [E_M_many_11, if_pos rfl, if_pos (by omega), R_many16 S c0 ⟨k0, by omega⟩ 31 1 x (by omega) (by omega) x0 (by omega), ← b', ih (k + 1) _ _ (by omega) (by omega) (by omega) (by omega), sm_s, Int.add_assoc]
theorem ok_many {c y m : Int} : okc kX_many kM_many [vI c, vI y, vI m] := okq0 fun h T n nc Ds nh Xs I => by
  rw [E_X_many, C_almAt I, Z_bR, E_M_many, R_isCal I.mcs, Z_bI]
  by_cases q : 0 ≤ c ∧ c < nc
  · have A := I.cok q.1 q.2
    rw [if_pos q, if_neg A.a0, bz_t q, if_neg n10, C_isYear, Z_bI, R_in, Z_bI]
    by_cases y0 : 1 ≤ y ∧ y ≤ 9999
    · rw [bz_t y0, if_neg n10, if_neg n10, R_in, Z_bI]
      by_cases m0 : 0 ≤ m ∧ m ≤ 12
      · rw [bz_t m0, if_neg n10, if_neg (by omega : ¬ m < 0), if_pos m0.2]
        by_cases z : m = 0
        · refine ⟨0 + sm (nin (Ds c) y) 12 1, ?_, ?_⟩
          · rw [if_pos (by omega), C_many11 A y0 _ _ _ 12 1 0 (by decide) (by decide) (by decide) (by decide)]
          · rw [if_pos z, z, R_many11 I.mcs q 12 1 0 vU (by decide) (by decide) (by decide) (by decide)]
        · have b' : nin (Ds c) y m = cn (fun d => Ds c y m d ≠ -1) 31 1 := rfl
          refine ⟨nin (Ds c) y m, ?_, ?_⟩
          · rw [if_neg (by omega), gd_t A.a0, A.dates y0.1 y0.2 (by omega) m0.2, Z_bI, b']
          · rw [if_neg z, E_M_many_11, if_neg z, if_pos (Int.le_refl _), R_many16 I.mcs q ⟨by omega, m0.2⟩ 31 1 0 (by decide) (by decide) (by decide) (by decide), ← b', E_M_many_11, if_neg z, if_neg (by omega), Int.zero_add]
      · rw [bz_f m0]
        by_cases z : m < 0
        · exact ⟨-1, by rw [if_pos z], by rw [if_pos rfl]⟩
        · exact ⟨-1, by rw [if_neg z, if_neg (by omega)], by rw [if_pos rfl]⟩
    · exact ⟨-1, by rw [bz_f y0, if_pos rfl], by rw [bz_f y0, if_pos rfl]⟩
  · exact ⟨-1, by rw [if_neg q, if_pos rfl], by rw [bz_f q, if_pos rfl]⟩
theorem like_both {h : mH} {T : Int → Int} {n nc : Int} {Ds : Int → Int → Int → Int → Int} {nh : Int} {Xs : Int → HX} (I : INV h T n nc Ds nh Xs) {c : Int} (q : 0 ≤ c ∧ c < nc) {kd i : Int} (k0 : kd ≠ -1) (iI : inI i) (u0 u1 u2 u3 w2 : mV) : ∀ (f : Nat) (y j : Int), y + f = 10000 → 1 ≤ y → 0 ≤ j → j ≤ y → j ≤ i → ∃ v, Rn kX_like 7 [u0, u1, u2, u3, vI kd, vR 0 (h.M 3 c), vI (i - j), vI y] [] h = some (some (vI v), h) ∧ Rn kM_like 8 [vO 11 9, vI c, w2, vI i, vI kd, vI j, vI y] [] h = some (some (vI v), h) := by
  have A := I.cok q.1 q.2
  intro f
  induction f with
  | zero =>
    intro y j e y0 j0 jy ji
    exact ⟨-1, by rw [E_X_like_7, if_neg (by omega)], by rw [E_M_like_8, if_neg (by omega)]⟩
  | succ f ih =>
    intro y j e y0 j0 jy ji
    unfold inI at iI
    rw [E_X_like_7, if_pos (by omega), gd_t A.a0, A.kind, Z_bI, E_M_like_8, if_pos (show y ≤ 9999 by omega), if_neg k0, R_kindOf I.mcs q.1 q.2, Z_bI, kd_Y A.ok, Z_wI (z := y + 1) (by omega), Z_wI (z := j + 1) (by omega)]
    by_cases z : kdY (Ds c) y = kd
    · rw [if_pos z, if_pos z]
      by_cases w : j = i
      · exact ⟨y, by rw [if_pos (by omega)], by rw [if_pos w]⟩
      · obtain ⟨v, e1, e2⟩ := ih (y + 1) (j + 1) (by omega) (by omega) (by omega) (by omega) (by omega)
        exact ⟨v, by rw [if_neg (by omega), Z_wI (by omega), show i - j + -1 = i - (j + 1) by omega]; exact e1, by rw [if_neg w]; exact e2⟩
    · obtain ⟨v, e1, e2⟩ := ih (y + 1) j (by omega) (by omega) j0 (by omega) ji
      exact ⟨v, by rw [if_neg z]; exact e1, by rw [if_neg z]; exact e2⟩
theorem ok_like {c y i : Int} (iI : inI i) : okc kX_like kM_like [vI c, vI y, vI i] := okq0 fun h T n nc Ds nh Xs I => by
  rw [E_X_like, E_X_kind, C_almAt I, Z_bR, E_M_like, R_isCal I.mcs, Z_bI]
  by_cases q : 0 ≤ c ∧ c < nc
  · have A := I.cok q.1 q.2
    rw [if_pos q, if_neg A.a0, gd_t A.a0, A.kind, Z_bI, Z_bI, C_almAt I, Z_bR, if_pos q, if_neg A.a0, bz_t q, if_neg n10, R_in, Z_bI]
    by_cases y0 : 1 ≤ y ∧ y ≤ 9999
    · rw [bz_t y0, if_neg n10]
      by_cases i0 : i < 0
      · refine ⟨-1, ?_, by rw [if_pos i0]⟩
        by_cases k0 : kdY (Ds c) y = -1
        · rw [if_pos k0]
        · rw [if_neg k0, if_pos i0]
      · rw [if_neg i0, if_neg i0, R_kindOf I.mcs q.1 q.2, Z_bI, kd_Y A.ok, Z_wI (z := y + 1) (by omega)]
        by_cases k0 : kdY (Ds c) y = -1
        · refine ⟨-1, by rw [if_pos k0], ?_⟩
          rw [E_M_like_8]
          by_cases yy : y + 1 ≤ 9999
          · rw [if_pos yy, if_pos k0]
          · rw [if_neg yy]
        · rw [if_neg k0]
          obtain ⟨v, e1, e2⟩ := like_both I q (i := i) k0 iI (vO 10 1) (vI c) (vI y) (vI i) (vI y) (9999 - y).toNat (y + 1) 0 (by omega) (by omega) (by omega) (by omega) (by omega)
          rw [Int.sub_zero] at e1
          exact ⟨v, e1, e2⟩
    · refine ⟨-1, ?_, by rw [bz_f y0, if_pos rfl]⟩
      rw [if_pos (show kdY (Ds c) y = -1 from if_neg y0)]
  · exact ⟨-1, by rw [if_neg q, if_pos rfl, Z_bI, C_almAt I, Z_bR, if_neg q, if_pos rfl], by rw [bz_f q, if_pos rfl]⟩
theorem C_areYears (a b : Int) (h : mH) : Cl kX_areYears [vI a, vI b] h = some (some (vI (bz ((1 ≤ a ∧ a ≤ 9999) ∧ a ≤ b ∧ b ≤ 9999))), h) := by
  rw [E_X_areYears, C_isYear, Z_bI]
  by_cases q : 1 ≤ a ∧ a ≤ 9999
  · rw [bz_t q, if_neg n10, C_isYear, Z_bI]
    by_cases w : 1 ≤ b ∧ b ≤ 9999
    · rw [bz_t w, if_neg n10]
      by_cases z : a ≤ b
      · rw [if_pos z, gd_t (by decide), bz_t (by omega)]
      · rw [if_neg z, gd_t (by decide), bz_f (by omega)]
    · rw [bz_f w, if_pos rfl, gd_t (by decide), bz_f (by omega)]
  · rw [bz_f q, if_pos rfl, gd_t (by decide), bz_f (by omega)]
theorem th_in {h : mH} {T : Int → Int} {n nc : Int} {Ds : Int → Int → Int → Int → Int} {nh : Int} {Xs : Int → HX} (I : INV h T n nc Ds nh Xs) {c : Int} (q : 0 ≤ c ∧ c < nc) {to wk y : Int} (yb : 1 ≤ y ∧ y ≤ 9999) (u0 u1 u2 w2 : mV) : ∀ (f : Nat) (m x : Int) (u9 : mV), m + f = 13 → 1 ≤ m → 0 ≤ x → x + f ≤ 1000000 → ∃ x' w8 w9 w7, Rn kX_thirteenths 10 [u0, u1, u2, vI to, vI wk, vR 0 (h.M 3 c), vI x, vI y, vI m, u9] [] h = Rn kX_thirteenths 8 [u0, u1, u2, vI to, vI wk, vR 0 (h.M 3 c), vI x', vI (y + 1), w8, w9] [] h ∧ Rn kM_thirteenths 12 [vO 11 9, vI c, w2, vI to, vI wk, vI x, vI y, vI m] [] h = Rn kM_thirteenths 10 [vO 11 9, vI c, w2, vI to, vI wk, vI x', vI (y + 1), w7] [] h ∧ x ≤ x' ∧ x' ≤ x + f := by
  have A := I.cok q.1 q.2
  intro f
  induction f with
  | zero =>
    intro m x u9 e m0 x0 x1
    exact ⟨x, vI m, u9, vI m, by rw [E_X_thirteenths_10, if_neg (by omega), Z_wI (by omega)], by rw [E_M_thirteenths_12, if_neg (by omega), Z_wI (by omega)], by omega, by omega⟩
  | succ f ih =>
    intro m x u9 e m0 x0 x1
    have db := A.ok.1 y m 13
    rw [E_X_thirteenths_10, if_pos (by omega), gd_t A.a0, A.day, Z_bI, E_M_thirteenths_12, if_pos (show m ≤ 12 by omega), R_isDate I.mcs, Z_bI, Z_wI (z := m + 1) (by omega), Z_wI (z := x + 0) (by omega), Z_wI (z := x + 1) (by omega)]
    by_cases z : Ds c y m 13 = -1
    · obtain ⟨x', w8, w9, w7, e1, e2, h1, h2⟩ := ih (m + 1) x (vI (Ds c y m 13)) (by omega) (by omega) x0 (by omega)
      exact ⟨x', w8, w9, w7, by rw [if_pos z]; exact e1, by rw [cb_f fun t => t.2 z, if_pos rfl, Int.add_zero]; exact e2, h1, by omega⟩
    · have p : isd nc Ds c y m 13 := ⟨q, z⟩
      rw [if_neg z, gd_t (by decide), cb_t p, if_neg n10, R_dayOf I.mcs p, Z_bI, gd_t (by decide)]
      by_cases w : Int.tmod (Ds c y m 13) 7 = wk
      · obtain ⟨x', w8, w9, w7, e1, e2, h1, h2⟩ := ih (m + 1) (x + 1) (vI (Ds c y m 13)) (by omega) (by omega) (by omega) (by omega)
        exact ⟨x', w8, w9, w7, by rw [if_pos w]; exact e1, by rw [if_pos w]; exact e2, by omega, by omega⟩
      · obtain ⟨x', w8, w9, w7, e1, e2, h1, h2⟩ := ih (m + 1) x (vI (Ds c y m 13)) (by omega) (by omega) x0 (by omega)
        exact ⟨x', w8, w9, w7, by rw [if_neg w]; exact e1, by rw [if_neg w, Int.add_zero]; exact e2, h1, by omega⟩
theorem th_out {h : mH} {T : Int → Int} {n nc : Int} {Ds : Int → Int → Int → Int → Int} {nh : Int} {Xs : Int → HX} (I : INV h T n nc Ds nh Xs) {c : Int} (q : 0 ≤ c ∧ c < nc) {to wk : Int} (tb : to ≤ 9999) (u0 u1 u2 w2 : mV) : ∀ (f : Nat) (y x : Int) (u8 u9 u7 : mV), y + f = to + 1 → 1 ≤ y → 0 ≤ x → x ≤ 12 * y → ∃ v, Rn kX_thirteenths 8 [u0, u1, u2, vI to, vI wk, vR 0 (h.M 3 c), vI x, vI y, u8, u9] [] h = some (some (vI v), h) ∧ Rn kM_thirteenths 10 [vO 11 9, vI c, w2, vI to, vI wk, vI x, vI y, u7] [] h = some (some (vI v), h) := by
  intro f
  induction f with
  | zero =>
    intro y x u8 u9 u7 e y0 x0 x1
    exact ⟨x, by rw [E_X_thirteenths_8, if_neg (by omega)], by rw [E_M_thirteenths_10, if_neg (by omega)]⟩
  | succ f ih =>
    intro y x u8 u9 u7 e y0 x0 x1
    obtain ⟨x', w8, w9, w7, e1, e2, h1, h2⟩ := th_in I q (to := to) (wk := wk) ⟨y0, by omega⟩ u0 u1 u2 w2 12 1 x u9 (by omega) (by omega) x0 (by omega)
    obtain ⟨v, e3, e4⟩ := ih (y + 1) x' w8 w9 w7 (by omega) (by omega) (by omega) (by omega)
    exact ⟨v, by rw [E_X_thirteenths_8, if_pos (by omega), e1]; exact e3, by rw [E_M_thirteenths_10, if_pos (by omega), e2]; exact e4⟩
theorem ok_thirteenths {c a b w : Int} : okc kX_thirteenths kM_thirteenths [vI c, vI a, vI b, vI w] := okq0 fun h T n nc Ds nh Xs I => by
  rw [E_X_thirteenths, C_almAt I, Z_bR, E_M_thirteenths, R_isCal I.mcs, Z_bI]
  by_cases q : 0 ≤ c ∧ c < nc
  · have A := I.cok q.1 q.2
    rw [if_pos q, if_neg A.a0, bz_t q, if_neg n10, C_areYears, Z_bI, R_in, Z_bI]
    by_cases y0 : 1 ≤ a ∧ a ≤ 9999
    · rw [bz_t y0, if_neg n10, R_in, Z_bI]
      by_cases y1 : a ≤ b ∧ b ≤ 9999
      · rw [bz_t y1, if_neg n10, bz_t ⟨y0, y1⟩, if_neg n10, R_in, Z_bI]
        by_cases w0 : 0 ≤ w ∧ w ≤ 6
        · obtain ⟨v, e1, e2⟩ := th_out I q (to := b) (wk := w) y1.2 (vO 10 1) (vI c) (vI a) (vI a) (b + 1 - a).toNat a 0 vU vU vU (by omega) y0.1 (by omega) (by omega)
          exact ⟨v, by rw [if_neg (by omega), if_pos w0.2]; exact e1, by rw [bz_t w0, if_neg n10]; exact e2⟩
        · refine ⟨-1, ?_, by rw [bz_f w0, if_pos rfl]⟩
          by_cases z : w < 0
          · rw [if_pos z]
          · rw [if_neg z, if_neg (by omega)]
      · exact ⟨-1, by rw [bz_f fun z => y1 z.2, if_pos rfl], by rw [bz_f y1, if_pos rfl]⟩
    · exact ⟨-1, by rw [bz_f fun z => y0 z.1, if_pos rfl], by rw [bz_f y0, if_pos rfl]⟩
  · exact ⟨-1, by rw [if_neg q, if_pos rfl], by rw [bz_f q, if_pos rfl]⟩
def alk (D : Int → Int → Int → Int) (y m o : Int) : Prop := D y m 1 ≠ -1 ∧ D y o 1 ≠ -1 ∧ D y m 1 % 7 = D y o 1 % 7
theorem cck.alike {h : mH} {a : Int} {D : Int → Int → Int → Int} (A : cck h a D) (y m o : Int) : Cl kAl_areAlike [vO 0 a, vI y, vI m, vI o] h = some (some (vI (cb (alk D y m o))), h) := by
  have b1 := A.ok.1 y m 1
  have b2 := A.ok.1 y o 1
  rw [E_Al_areAlike, A.day, Z_bI, A.day, Z_bI]
  by_cases q : D y m 1 = -1
  · rw [if_pos q, gd_t (by decide), cb_f fun z => z.1 q]
  · rw [if_neg q]
    by_cases w : D y o 1 = -1
    · rw [if_pos w, gd_t (by decide), cb_f fun z => z.2.1 w]
    · rw [if_neg w, gd_t (by decide), gd_t (by decide), Z_tmod (by omega), Z_tmod (by omega)]
      by_cases x : D y m 1 % 7 = D y o 1 % 7
      · rw [if_pos x, gd_t (by decide), cb_t ⟨q, w, x⟩]
      · rw [if_neg x, gd_t (by decide), cb_f fun z => x z.2.2]
def lyk (D : Int → Int → Int → Int) (y o : Int) : Prop := kdY D y ≠ -1 ∧ kdY D y = kdY D o
theorem cck.like {h : mH} {a : Int} {D : Int → Int → Int → Int} (A : cck h a D) (y o : Int) : Cl kAl_areLike [vO 0 a, vI y, vI o] h = some (some (vI (cb (lyk D y o))), h) := by
  rw [E_Al_areLike, A.kind, Z_bI]
  by_cases q : kdY D y = -1
  · rw [if_pos q, gd_t (by decide), cb_f fun z => z.1 q]
  · rw [if_neg q, A.kind, Z_bI, A.kind, Z_bI]
    by_cases w : kdY D y = kdY D o
    · rw [if_pos w, gd_t (by decide), cb_t ⟨q, w⟩]
    · rw [if_neg w, gd_t (by decide), cb_f fun z => w z.2]
theorem mates_both {h : mH} {T : Int → Int} {n nc : Int} {Ds : Int → Int → Int → Int → Int} {nh : Int} {Xs : Int → HX} (I : INV h T n nc Ds nh Xs) {c : Int} (q : 0 ≤ c ∧ c < nc) {y m : Int} (p : isd nc Ds c y m 1) (u0 u1 : mV) : ∀ (f : Nat) (k x : Int), k + f = 13 → 1 ≤ k → inI x → ∃ v, Rn kX_mates 6 [u0, u1, vI y, vI m, vR 0 (h.M 3 c), vI x, vI k] [] h = some (some (vI v), h) ∧ Rn kM_mates 4 [vO 11 9, vI c, vI y, vI m, vI x, vI k] [] h = some (some (vI v), h) := by
  have A := I.cok q.1 q.2
  intro f
  induction f with
  | zero =>
    intro k x e k0 xI
    exact ⟨x, by rw [E_X_mates_6, if_neg (by omega)], by rw [E_M_mates_4, if_neg (by omega)]⟩
  | succ f ih =>
    intro k x e k0 xI
    have b1 := A.ok.1 y m 1
    have b2 := A.ok.1 y k 1
    rw [E_X_mates_6, if_pos (by omega), gd_t A.a0, A.alike, Z_bI, E_M_mates_4, if_pos (show k ≤ 12 by omega), R_isDate I.mcs, Z_bI, Z_wI (z := k + 1) (by omega), Z_or0 xI]
    by_cases z : Ds c y k 1 = -1
    · obtain ⟨v, e1, e2⟩ := ih (k + 1) x (by omega) (by omega) xI
      exact ⟨v, by rw [cb_f fun t => t.2.1 z, if_pos rfl]; exact e1, by rw [cb_f fun t => t.2 z, if_pos rfl]; exact e2⟩
    · have p2 : isd nc Ds c y k 1 := ⟨q, z⟩
      have d1 := p.2
      rw [cb_t (p := isd nc Ds c y k 1) p2, if_neg n10, R_dayOf I.mcs p2, Z_bI, gd_t (by decide), R_dayOf I.mcs p, Z_bI, gd_t (by decide), Z_tmod (by omega), Z_tmod (by omega)]
      by_cases w : Ds c y m 1 % 7 = Ds c y k 1 % 7
      · obtain ⟨v, e1, e2⟩ := ih (k + 1) (ior x (ishl 1 (wI (k - 1)))) (by omega) (by omega) (Z_orIn _ _)
        exact ⟨v, by rw [cb_t ⟨d1, z, w⟩, if_neg n10]; exact e1, by rw [if_pos w.symm]; exact e2⟩
      · obtain ⟨v, e1, e2⟩ := ih (k + 1) x (by omega) (by omega) xI
        exact ⟨v, by rw [cb_f fun t => w t.2.2, if_pos rfl]; exact e1, by rw [if_neg fun t => w t.symm]; exact e2⟩
theorem ok_mates {c y m : Int} : okc kX_mates kM_mates [vI c, vI y, vI m] := okq0 fun h T n nc Ds nh Xs I => by
  rw [E_X_mates, C_almAt I, Z_bR, E_M_mates, R_isDate I.mcs, Z_bI]
  by_cases q : 0 ≤ c ∧ c < nc
  · have A := I.cok q.1 q.2
    rw [if_pos q, if_neg A.a0, gd_t A.a0, A.day, Z_bI]
    by_cases z : Ds c y m 1 = -1
    · exact ⟨-1, by rw [if_pos z], by rw [cb_f fun t => t.2 z, if_pos rfl]⟩
    · have p : isd nc Ds c y m 1 := ⟨q, z⟩
      rw [if_neg z, cb_t p, if_neg n10]
      exact mates_both I q p _ _ 12 1 0 (by decide) (by decide) ⟨by decide, by decide⟩
  · exact ⟨-1, by rw [if_neg q, if_pos rfl], by rw [cb_f fun t => q t.1, if_pos rfl]⟩
theorem unl_iff {D E : Int → Int → Int → Int} (O : Dok D) (P : Dok E) (day : Int) : kyD D day = kyD E day ↔ cyD D day = cyD E day := by
  rcases day_both O day with ⟨y, m, d, ⟨ty, tm, td⟩, b, e, f, g, k1, k2, d0⟩ | ⟨f, g⟩
  · rcases day_both P day with ⟨y', m', d', ⟨ty', tm', td'⟩, b', e', f', g', k1', k2', d0'⟩ | ⟨f', g'⟩
    · rw [f, f', g, g']
      constructor
      · intro h
        have := key_inj (by omega) (by omega) (by omega) (by omega) (by omega) (by omega) (by omega) (by omega) h
        rw [this.1, this.2.1, this.2.2]
      · unfold key cod
        intro h
        omega
    · rw [f, g, f', g']
      exact ⟨fun h => absurd h k1, fun h => absurd h k2⟩
  · rcases day_both P day with ⟨y', m', d', _, b', e', f', g', k1', k2', d0'⟩ | ⟨f', g'⟩
    · rw [f, g, f', g']
      exact ⟨fun h => absurd h.symm k1', fun h => absurd h.symm k2'⟩
    · rw [f, g, f', g']
theorem unl_both {h : mH} {T : Int → Int} {n nc : Int} {Ds : Int → Int → Int → Int → Int} {nh : Int} {Xs : Int → HX} (I : INV h T n nc Ds nh Xs) {a b : Int} (q : 0 ≤ a ∧ a < nc) (r : 0 ≤ b ∧ b < nc) {d : Int} (d0 : 0 ≤ d) (d1 : d ≤ 4000000) (u0 u1 u2 : mV) : ∀ (f : Nat) (k : Int), k + f = d + 5000 → d ≤ k → ∃ v, Rn kX_unlike 8 [u0, u1, u2, vI d, vR 0 (h.M 3 a), vR 0 (h.M 3 b), vI k] [] h = some (some (vI v), h) ∧ Rn kM_unlike 8 [vO 11 9, vI a, vI b, vI d, vI k] [] h = some (some (vI v), h) := by
  have A := I.cok q.1 q.2
  have B := I.cok r.1 r.2
  intro f
  induction f with
  | zero =>
    intro k e k0
    exact ⟨-1, by rw [E_X_unlike_8, Z_wI (by omega), if_neg (by omega)], by rw [E_M_unlike_8, Z_wI (by omega), if_neg (by omega)]⟩
  | succ f ih =>
    intro k e k0
    rw [E_X_unlike_8, Z_wI (by omega), if_pos (by omega), gd_t A.a0, A.key, Z_bI, gd_t B.a0, B.key, Z_bI, E_M_unlike_8, Z_wI (z := d + 5000) (by omega), if_pos (show k < d + 5000 by omega), R_dateOf I.mcs q.1 q.2 (by omega), Z_bI, R_dateOf I.mcs r.1 r.2 (by omega), Z_bI, Z_wI (z := k + 1) (by omega)]
    by_cases z : kyD (Ds a) k = kyD (Ds b) k
    · obtain ⟨v, e1, e2⟩ := ih (k + 1) (by omega) (by omega)
      exact ⟨v, by rw [if_pos z]; exact e1, by rw [if_pos ((unl_iff A.ok B.ok k).mp z)]; exact e2⟩
    · exact ⟨k, by rw [if_neg z], by rw [if_neg fun t => z ((unl_iff A.ok B.ok k).mpr t)]⟩
theorem ok_unlike {a b d : Int} : okc kX_unlike kM_unlike [vI a, vI b, vI d] := okq0 fun h T n nc Ds nh Xs I => by
  rw [E_X_unlike, C_almAt I, Z_bR, C_almAt I, Z_bR, E_M_unlike, R_isCal I.mcs, Z_bI]
  by_cases q : 0 ≤ a ∧ a < nc
  · have A := I.cok q.1 q.2
    rw [if_pos q, if_neg A.a0, bz_t q, if_neg n10, R_isCal I.mcs, Z_bI]
    by_cases r : 0 ≤ b ∧ b < nc
    · have B := I.cok r.1 r.2
      rw [if_pos r, if_neg B.a0, bz_t r, if_neg n10, R_in, Z_bI]
      by_cases d0 : 0 ≤ d ∧ d ≤ 4000000
      · obtain ⟨v, e1, e2⟩ := unl_both I q r d0.1 d0.2 (vO 10 1) (vI a) (vI b) 5000 d (by omega) (by omega)
        exact ⟨v, by rw [if_neg (by omega), if_pos d0.2]; exact e1, by rw [bz_t d0, if_neg n10]; exact e2⟩
      · refine ⟨-1, ?_, by rw [bz_f d0, if_pos rfl]⟩
        by_cases z : d < 0
        · rw [if_pos z]
        · rw [if_neg z, if_neg (by omega)]
    · exact ⟨-1, by rw [if_neg r, if_pos rfl], by rw [bz_f r, if_pos rfl]⟩
  · exact ⟨-1, by rw [if_neg q, if_pos rfl], by rw [bz_f q, if_pos rfl]⟩
