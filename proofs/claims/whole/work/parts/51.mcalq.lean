/-! THE PURE PART, the reference's calendars, asked -/
def mok (h : mH) (c : Int) (D : Int → Int → Int → Int) : Prop := ∃ j C, 0 ≤ j ∧ j ≤ 3 ∧ cdv j C ∧ D = DC (j + 1).toNat C ∧ mcd h c j C ∧ h.M 16 (4 * c + j) = codT (C.2.2.2 j)
/-- where calendar c's data lie -/
def mreg (c b k : Int) : Prop := ((b = 11 ∨ b = 12) ∧ k = c) ∨ ((b = 13 ∨ b = 16 ∨ b = 17 ∨ b = 18) ∧ 4 * c ≤ k ∧ k < 4 * c + 4) ∨ ((b = 14 ∨ b = 15) ∧ 32 * c ≤ k ∧ k < 32 * c + 32) ∨ (b = 19 ∧ 40004 * c ≤ k ∧ k < 40004 * c + 40004)
theorem mcd.cg {h h1 : mH} {c j : Int} {C : CD} (D : mcd h c j C) (j3 : j ≤ 3) (e : ∀ b k, mreg c b k → h1.M b k = h.M b k) : mcd h1 c j C := by
  obtain ⟨a, b, d⟩ := D
  refine ⟨(e _ _ (by unfold mreg; omega)).trans a, fun i i0 i1 => ?_, fun i i0 i1 => (e _ _ (by unfold mreg; omega)).trans (d i i0 i1)⟩
  obtain ⟨b1, b2, b3, b4⟩ := b i i0 i1
  exact ⟨b1.cg fun b k w => e b k (by unfold mreg; omega), fun y p q => (e _ _ (by unfold mreg; omega)).trans (b2 y p q), (e _ _ (by unfold mreg; omega)).trans b3, (e _ _ (by unfold mreg; omega)).trans b4⟩
theorem mok.cg {h h1 : mH} {c : Int} {D : Int → Int → Int → Int} (M : mok h c D) (e : ∀ b k, mreg c b k → h1.M b k = h.M b k) : mok h1 c D := by
  obtain ⟨j, C, j0, j3, V, hD, m, l⟩ := M
  exact ⟨j, C, j0, j3, V, hD, m.cg j3 e, (e _ _ (by unfold mreg; omega)).trans l⟩
theorem mok.ok {h : mH} {c : Int} {D : Int → Int → Int → Int} (M : mok h c D) : Dok D := by
  obtain ⟨j, C, j0, j3, V, hD, _⟩ := M
  rw [hD]
  exact DC_ok V j0 j3
/-- the reference's calendars: nc of them, with these days -/
def mcs (h : mH) (nc : Int) (Ds : Int → Int → Int → Int → Int) : Prop := lay h ∧ h.M 9 14 = nc ∧ 0 ≤ nc ∧ nc ≤ 6 ∧ ∀ c, 0 ≤ c → c < nc → mok h c (Ds c)
theorem R_isCal {h : mH} {nc : Int} {Ds : Int → Int → Int → Int → Int} (S : mcs h nc Ds) (c : Int) : Cl kM_isCalendar [vO 11 9, vI c] h = some (some (vI (bz (0 ≤ c ∧ c < nc))), h) := by
  have n1 := S.2.2.1
  have n2 := S.2.2.2.1
  rw [E_M_isCalendar, S.2.1, Z_wI (by omega), R_in, Z_bI, gd_t (bz_01 _)]
  by_cases q : 0 ≤ c ∧ c < nc
  · rw [bz_t q, bz_t (by omega)]
  · rw [bz_f q, bz_f (by omega)]
theorem mcd_st {h : mH} {c j : Int} {C : CD} (M : mcd h c j C) (l : h.M 16 (4 * c + j) = codT (C.2.2.2 j)) {i : Int} (i0 : 0 ≤ i) (i1 : i ≤ j) : h.M 16 (4 * c + i) = codT (C.2.2.2 i) := by
  rcases Int.lt_or_le i j with q | q
  · exact M.2.2 i i0 q
  · rw [show i = j by omega]; exact l
theorem cod_lt {t : Int × Int × Int} {lp : Int → Int} (v : vdT lp t) {y m d : Int} (T : dtl y m d) : (cod y m d < codT t ↔ key y m d < keyT t) ∧ (cod y m d ≤ codT t ↔ key y m d ≤ keyT t) := by
  obtain ⟨v1, v2, v3, v4, v5⟩ := v
  have dd := dim_b (lp t.1) t.2.1
  obtain ⟨⟨t1, t2⟩, ⟨t3, t4⟩, t5, t6⟩ := T
  have a := cod_key (y := y) (m := m) (d := d) (y' := t.1) (m' := t.2.1) (d' := t.2.2) (by omega) (by omega) (by omega) (by omega) (by omega) (by omega) (by omega) (by omega)
  have b := cod_key (y := t.1) (m := t.2.1) (d := t.2.2) (y' := y) (m' := m) (d' := d) (by omega) (by omega) (by omega) (by omega) (by omega) (by omega) (by omega) (by omega)
  have e1 : codT t = cod t.1 t.2.1 t.2.2 := rfl
  have e2 : keyT t = key t.1 t.2.1 t.2.2 := rfl
  omega
theorem codT_lt {t u : Int × Int × Int} {lp lq : Int → Int} (v : vdT lp t) (w : vdT lq u) : (codT t < codT u ↔ keyT t < keyT u) := by
  obtain ⟨v1, v2, v3, v4, v5⟩ := v
  obtain ⟨w1, w2, w3, w4, w5⟩ := w
  have dd := dim_b (lp t.1) t.2.1
  have de := dim_b (lq u.1) u.2.1
  have b := cod_key (y := u.1) (m := u.2.1) (d := u.2.2) (y' := t.1) (m' := t.2.1) (d' := t.2.2) (by omega) (by omega) (by omega) (by omega) (by omega) (by omega) (by omega) (by omega)
  have e1 : codT t = cod t.1 t.2.1 t.2.2 := rfl
  have e2 : keyT t = key t.1 t.2.1 t.2.2 := rfl
  have e3 : codT u = cod u.1 u.2.1 u.2.2 := rfl
  have e4 : keyT u = key u.1 u.2.1 u.2.2 := rfl
  omega
theorem R_str10 {h : mH} (L : lay h) {c : Int} (c0 : 0 ≤ c) (c1 : c < 7) {j : Int} {C : CD} (j0 : 0 ≤ j) (j3 : j ≤ 3) (V : cdv j C) (M : mcd h c j C) (l : h.M 16 (4 * c + j) = codT (C.2.2.2 j)) {y m d : Int} (T : dtl y m d) : ∀ (n : Nat) (i : Int), i + n = j + 1 → 0 ≤ i → (∃ i', i ≤ i' ∧ i' ≤ j ∧ inS C i' y m d ∧ Rn kM_stretchOf 10 [vO 11 9, vI c, vI y, vI m, vI d, vI (4 * c + i)] [] h = some (some (vI (4 * c + i')), h)) ∨ ((∀ i', i ≤ i' → i' ≤ j → ¬ inS C i' y m d) ∧ Rn kM_stretchOf 10 [vO 11 9, vI c, vI y, vI m, vI d, vI (4 * c + i)] [] h = some (some (vI (-1)), h)) := by
  have T0 := T
  obtain ⟨⟨t1, t2⟩, ⟨t3, t4⟩, t5, t6⟩ := T
  have m1 := M.1
  intro n
  induction n with
  | zero =>
    intro i e i0
    right
    refine ⟨fun i' h1 h2 => by omega, ?_⟩
    rw [E_M_stretchOf_10, lm6 L, ln12 L, gd_t (by omega), m1, Z_wI (z := 4 * c) (by omega), Z_wI (z := 4 * c + (j + 1)) (by omega), if_neg (by omega)]
  | succ n ih =>
    intro i e i0
    obtain ⟨b1, b2, b3, b4⟩ := M.2.1 i i0 (by omega)
    have b5 := mcd_st M l i0 (by omega : i ≤ j)
    have va := cdv_at V i0 (by omega : i ≤ j) j3
    have kF := cod_lt va.1 T0
    have kL := cod_lt va.2.2.2.2.2.1 T0
    have nx : Rn kM_stretchOf 10 [vO 11 9, vI c, vI y, vI m, vI d, vI (wI (4 * c + i + 1))] [] h = Rn kM_stretchOf 10 [vO 11 9, vI c, vI y, vI m, vI d, vI (4 * c + (i + 1))] [] h := by
      rw [Z_wI (by omega), show 4 * c + i + 1 = 4 * c + (i + 1) by omega]
    have st : Rn kM_stretchOf 10 [vO 11 9, vI c, vI y, vI m, vI d, vI (4 * c + i)] [] h = (if cod y m d < codT (C.2.1 i) then (Rn kM_stretchOf 10 [vO 11 9, vI c, vI y, vI m, vI d, vI (4 * c + (i + 1))] [] h) else (if cod y m d ≤ codT (C.2.2.2 i) then (if d ≤ dim (C.1 i y) m then (some (some (vI (4 * c + i)), h)) else (Rn kM_stretchOf 10 [vO 11 9, vI c, vI y, vI m, vI d, vI (4 * c + (i + 1))] [] h)) else (Rn kM_stretchOf 10 [vO 11 9, vI c, vI y, vI m, vI d, vI (4 * c + (i + 1))] [] h))) := by
      rw [E_M_stretchOf_10, lm6 L, ln12 L, gd_t (by omega), m1, Z_wI (z := 4 * c) (by omega), Z_wI (z := 4 * c + (j + 1)) (by omega), if_pos (by omega), R_code h (by omega) (by omega) (by omega) (by omega) (by omega) (by omega), Z_bI, lm11 L, ln17 L, gd_t (by omega), b3]
      by_cases q1 : cod y m d < codT (C.2.1 i)
      · rw [if_pos q1, if_pos q1, nx]
      · rw [if_neg q1, if_neg q1, R_code h (by omega) (by omega) (by omega) (by omega) (by omega) (by omega), Z_bI, lm10 L, ln16 L, gd_t (by omega), b5]
        by_cases q2 : cod y m d ≤ codT (C.2.2.2 i)
        · rw [if_pos q2, if_pos q2, R_daysOf L (by omega) (by omega) b1 (by omega), Z_bI]
          by_cases q3 : d ≤ dim (C.1 i y) m
          · rw [if_pos q3, if_pos q3]
          · rw [if_neg q3, if_neg q3, nx]
        · rw [if_neg q2, if_neg q2, nx]
    rw [st]
    by_cases s : inS C i y m d
    · left
      have s1 := s.1
      have s2 := s.2.1
      refine ⟨i, Int.le_refl _, by omega, s, ?_⟩
      rw [if_neg (by omega), if_pos (by omega), if_pos s.2.2]
    · have go : (if cod y m d < codT (C.2.1 i) then (Rn kM_stretchOf 10 [vO 11 9, vI c, vI y, vI m, vI d, vI (4 * c + (i + 1))] [] h) else (if cod y m d ≤ codT (C.2.2.2 i) then (if d ≤ dim (C.1 i y) m then (some (some (vI (4 * c + i)), h)) else (Rn kM_stretchOf 10 [vO 11 9, vI c, vI y, vI m, vI d, vI (4 * c + (i + 1))] [] h)) else (Rn kM_stretchOf 10 [vO 11 9, vI c, vI y, vI m, vI d, vI (4 * c + (i + 1))] [] h))) = Rn kM_stretchOf 10 [vO 11 9, vI c, vI y, vI m, vI d, vI (4 * c + (i + 1))] [] h := by
        by_cases q1 : cod y m d < codT (C.2.1 i)
        · rw [if_pos q1]
        · rw [if_neg q1]
          by_cases q2 : cod y m d ≤ codT (C.2.2.2 i)
          · rw [if_pos q2, if_neg fun q3 => s ⟨by omega, by omega, q3⟩]
          · rw [if_neg q2]
      rw [go]
      rcases ih (i + 1) (by omega) (by omega) with w | w
      · obtain ⟨i', h1, h2, s2, e2⟩ := w
        exact Or.inl ⟨i', by omega, h2, s2, e2⟩
      · obtain ⟨no, e2⟩ := w
        refine Or.inr ⟨fun i' h1 h2 s2 => ?_, e2⟩
        rcases Int.lt_or_le i i' with z | z
        · exact no i' (by omega) h2 s2
        · have : i' = i := by omega
          subst this
          exact s s2
/-- a date that is there by calendar c -/
def isd (nc : Int) (Ds : Int → Int → Int → Int → Int) (c y m d : Int) : Prop := (0 ≤ c ∧ c < nc) ∧ Ds c y m d ≠ -1
theorem R_stretch {h : mH} {nc : Int} {Ds : Int → Int → Int → Int → Int} (S : mcs h nc Ds) (c y m d : Int) : (isd nc Ds c y m d ∧ ∃ j C i, 0 ≤ j ∧ j ≤ 3 ∧ cdv j C ∧ Ds c = DC (j + 1).toNat C ∧ mcd h c j C ∧ h.M 16 (4 * c + j) = codT (C.2.2.2 j) ∧ dtl y m d ∧ 0 ≤ i ∧ i ≤ j ∧ inS C i y m d ∧ Ds c y m d = dyS C i y m d ∧ Cl kM_stretchOf [vO 11 9, vI c, vI y, vI m, vI d] h = some (some (vI (4 * c + i)), h)) ∨ (¬ isd nc Ds c y m d ∧ Cl kM_stretchOf [vO 11 9, vI c, vI y, vI m, vI d] h = some (some (vI (-1)), h)) := by
  rw [E_M_stretchOf, R_isCal S, Z_bI]
  by_cases q : 0 ≤ c ∧ c < nc
  · obtain ⟨j, C, j0, j3, V, hD, M, l⟩ := S.2.2.2.2 c q.1 q.2
    have nl := S.2.2.2.1
    rw [bz_t q, if_neg (by decide), R_in, Z_bI]
    by_cases T : dtl y m d
    · have T0 := T
      obtain ⟨⟨t1, t2⟩, ⟨t3, t4⟩, t5, t6⟩ := T
      rw [bz_t ⟨t1, t2⟩, if_neg (by decide), R_in, Z_bI, bz_t ⟨t3, t4⟩, if_neg (by decide), R_in, Z_bI, bz_t ⟨t5, t6⟩, if_neg (by decide), Z_wI (by omega)]
      have r0 := R_str10 S.1 q.1 (by omega) j0 j3 V M l T0 (j + 1).toNat 0 (by omega) (by omega)
      rw [Int.add_zero] at r0
      rcases r0 with w | w
      · obtain ⟨i, h1, h2, s, e⟩ := w
        have e1 : Ds c y m d = dyS C i y m d := by rw [hD]; exact DC_at V (by omega) T0 h1 h2 s
        have db := dyS_b V h1 h2 T0 s
        have dd := (V.1 i h1 h2).2.2.1
        exact Or.inl ⟨⟨q, by omega⟩, j, C, i, j0, j3, V, hD, M, l, T0, h1, h2, s, e1, e⟩
      · refine Or.inr ⟨fun z => ?_, w.2⟩
        rw [isd, hD] at z
        obtain ⟨_, i, i0, i1, s, _⟩ := DC_of V (n := (j + 1).toNat) (by omega) z.2
        exact w.1 i i0 i1 s
    · refine Or.inr ⟨fun z => ?_, ?_⟩
      · rw [isd, hD] at z
        exact T (DC_of V (n := (j + 1).toNat) (by omega) z.2).1
      · by_cases a : 1 ≤ y ∧ y ≤ 9999
        · rw [bz_t a, if_neg (by decide), R_in, Z_bI]
          by_cases b : 1 ≤ m ∧ m ≤ 12
          · rw [bz_t b, if_neg (by decide), R_in, Z_bI, bz_f fun w => T ⟨a, b, w⟩, if_pos rfl]
          · rw [bz_f b, if_pos rfl]
        · rw [bz_f a, if_pos rfl]
  · rw [bz_f q, if_pos rfl]
    exact Or.inr ⟨fun z => q z.1, rfl⟩
theorem R_isDate {h : mH} {nc : Int} {Ds : Int → Int → Int → Int → Int} (S : mcs h nc Ds) (c y m d : Int) : Cl kM_isDate [vO 11 9, vI c, vI y, vI m, vI d] h = some (some (vI (cb (isd nc Ds c y m d))), h) := by
  rw [E_M_isDate]
  rcases R_stretch S c y m d with w | w
  · obtain ⟨a, j, C, i, j0, j3, V, hD, M, l, T, h1, h2, s, e1, e⟩ := w
    have := a.1.1
    rw [e, Z_bI, if_neg (by omega), gd_t (Or.inr rfl), cb_t a]
  · rw [w.2, Z_bI, if_pos rfl, gd_t (Or.inl rfl), cb_f w.1]
theorem R_dayOf {h : mH} {nc : Int} {Ds : Int → Int → Int → Int → Int} (S : mcs h nc Ds) {c y m d : Int} (I : isd nc Ds c y m d) : Cl kM_dayOf [vO 11 9, vI c, vI y, vI m, vI d] h = some (some (vI (Ds c y m d)), h) := by
  rw [E_M_dayOf]
  rcases R_stretch S c y m d with w | w
  · obtain ⟨a, j, C, i, j0, j3, V, hD, M, l, T, h1, h2, s, e1, e⟩ := w
    have L := S.1
    have n6 := S.2.2.2.1
    have c0 := a.1
    obtain ⟨b1, b2, b3, b4⟩ := M.2.1 i h1 h2
    have va := cdv_at V h1 h2 j3
    obtain ⟨v1, v2, v3, v4, v5⟩ := va.1
    have df := dim_b (C.1 i (C.2.1 i).1) (C.2.1 i).2.1
    obtain ⟨vv, oo⟩ := cdv_ord V h1 h2 T s
    have bo := ord_b vv
    have cy := yb_b (C.1 i) vv.1
    have yl := ylen_b (C.1 i y)
    have bf := ord_b va.1
    have cf := yb_b (C.1 i) v1
    have T0 := T
    obtain ⟨⟨t1, t2⟩, ⟨t3, t4⟩, t5, t6⟩ := T
    have o1 := R_ordinal L (s := 4 * c + i) (by omega) (by omega) b1 b2 (y := y) (m := m) (d := d) t1 (by omega) t3 t4 t5 t6
    have o2 := R_ordinal L (s := 4 * c + i) (by omega) (by omega) b1 b2 (y := (C.2.1 i).1) (m := (C.2.1 i).2.1) (d := (C.2.1 i).2.2) v1 va.2.1 v2 v3 v4 (by omega)
    have eF : ordT (C.1 i) (C.2.1 i) = ord (C.1 i) (C.2.1 i).1 (C.2.1 i).2.1 (C.2.1 i).2.2 := rfl
    rw [e, Z_bI, lm12 L, ln18 L, gd_t (by omega), R_code h (by omega) (by omega) (by omega) (by omega) (by omega) (by omega), Z_bI, o1, Z_bI, lm11 L, ln17 L, gd_t (by omega), b3, show codT (C.2.1 i) = cod (C.2.1 i).1 (C.2.1 i).2.1 (C.2.1 i).2.2 from rfl, o2, Z_bI, b4, Z_wI (z := C.2.2.1 i + ord (C.1 i) y m d) (by omega), Z_wI (by omega), e1]
    rfl
  · exact absurd I w.1
/-- the date of a day, as the reference's code -/
noncomputable def cyD (D : Int → Int → Int → Int) (day : Int) : Int := @dite _ (∃ t : Int × Int × Int, D t.1 t.2.1 t.2.2 = day ∧ day ≠ -1) (Classical.propDecidable _) (fun h => codT (Classical.choose h)) (fun _ => -1)
theorem cyD_at {D : Int → Int → Int → Int} (O : Dok D) {y m d : Int} (h : D y m d ≠ -1) : cyD D (D y m d) = cod y m d := by
  have q : ∃ t : Int × Int × Int, D t.1 t.2.1 t.2.2 = D y m d ∧ D y m d ≠ -1 := ⟨(y, m, d), rfl, h⟩
  unfold cyD
  rw [dif_pos q]
  obtain ⟨a, b⟩ := Classical.choose_spec q
  obtain ⟨e1, e2, e3⟩ := O.2.2 _ _ _ y m d (by rw [a]; exact b) a
  unfold codT
  rw [e1, e2, e3]
theorem cyD_no {D : Int → Int → Int → Int} {day : Int} (h : ∀ y m d, D y m d = day → day = -1) : cyD D day = -1 := dif_neg fun ⟨t, a, b⟩ => b (h _ _ _ a)
/-- a day has a date, or none -/
theorem dy_cases {D : Int → Int → Int → Int} (O : Dok D) (day : Int) : (∃ y m d, dtl y m d ∧ D y m d = day ∧ day ≠ -1 ∧ kyD D day = key y m d ∧ cyD D day = cod y m d) ∨ (kyD D day = -1 ∧ cyD D day = -1) := by
  by_cases q : ∃ t : Int × Int × Int, D t.1 t.2.1 t.2.2 = day ∧ day ≠ -1
  · obtain ⟨t, a, b⟩ := q
    left
    refine ⟨t.1, t.2.1, t.2.2, O.2.1 _ _ _ (by rw [a]; exact b), a, b, ?_, ?_⟩
    · rw [← a]; exact kyD_at O (by rw [a]; exact b)
    · rw [← a]; exact cyD_at O (by rw [a]; exact b)
  · exact Or.inr ⟨dif_neg q, dif_neg q⟩
theorem R_dateOf1 {h : mH} (L : lay h) {c : Int} (c0 : 0 ≤ c) (c1 : c < 7) {j : Int} {C : CD} (j0 : 0 ≤ j) (j3 : j ≤ 3) (V : cdv j C) (M : mcd h c j C) (l : h.M 16 (4 * c + j) = codT (C.2.2.2 j)) {day : Int} (dI : -2147483648 ≤ day ∧ day < 2147483648) : ∀ (n : Nat) (i : Int) (u4 u5 : mV), i + n = j + 1 → 0 ≤ i → (∃ y m d i', i ≤ i' ∧ i' ≤ j ∧ dtl y m d ∧ inS C i' y m d ∧ dyS C i' y m d = day ∧ Rn kM_dateOf 1 [vO 11 9, vI c, vI day, vI (4 * c + i), u4, u5] [] h = some (some (vI (cod y m d)), h)) ∨ ((∀ y m d i', i ≤ i' → i' ≤ j → dtl y m d → inS C i' y m d → dyS C i' y m d ≠ day) ∧ Rn kM_dateOf 1 [vO 11 9, vI c, vI day, vI (4 * c + i), u4, u5] [] h = some (some (vI (-1)), h)) := by
  have m1 := M.1
  intro n
  induction n with
  | zero =>
    intro i u4 u5 e i0
    right
    refine ⟨fun y m d i' h1 h2 => by omega, ?_⟩
    rw [E_M_dateOf_1, lm6 L, ln12 L, gd_t (by omega), m1, Z_wI (z := 4 * c) (by omega), Z_wI (z := 4 * c + (j + 1)) (by omega), if_neg (by omega)]
  | succ n ih =>
    intro i u4 u5 e i0
    obtain ⟨b1, b2, b3, b4⟩ := M.2.1 i i0 (by omega)
    have b5 := mcd_st M l i0 (by omega : i ≤ j)
    have va := cdv_at V i0 (by omega : i ≤ j) j3
    obtain ⟨v1, v2, v3, v4, v5⟩ := va.1
    obtain ⟨w1, w2, w3, w4, w5⟩ := va.2.2.2.2.2.1
    have df := dim_b (C.1 i (C.2.1 i).1) (C.2.1 i).2.1
    have dl := dim_b (C.1 i (C.2.2.2 i).1) (C.2.2.2 i).2.1
    have kk := codT_lt va.2.2.2.2.2.1 va.1
    have bf := ord_b va.1
    have cf := yb_b (C.1 i) v1
    have bl := ord_b va.2.2.2.2.2.1
    have cl' := yb_b (C.1 i) w1
    have yF := ylen_b (C.1 i (C.2.1 i).1)
    have yL := ylen_b (C.1 i (C.2.2.2 i).1)
    have eF : ordT (C.1 i) (C.2.1 i) = ord (C.1 i) (C.2.1 i).1 (C.2.1 i).2.1 (C.2.1 i).2.2 := rfl
    have eL : ordT (C.1 i) (C.2.2.2 i) = ord (C.1 i) (C.2.2.2 i).1 (C.2.2.2 i).2.1 (C.2.2.2 i).2.2 := rfl
    have o1 := R_ordinal L (s := 4 * c + i) (by omega) (by omega) b1 b2 (y := (C.2.1 i).1) (m := (C.2.1 i).2.1) (d := (C.2.1 i).2.2) v1 va.2.1 v2 v3 v4 (by omega)
    have o2 := R_ordinal L (s := 4 * c + i) (by omega) (by omega) b1 b2 (y := (C.2.2.2 i).1) (m := (C.2.2.2 i).2.1) (d := (C.2.2.2 i).2.2) w1 (by have := va.2.2.2.2.2.2; omega) w2 w3 w4 (by omega)
    rw [← eF, show cod (C.2.1 i).1 (C.2.1 i).2.1 (C.2.1 i).2.2 = codT (C.2.1 i) from rfl] at o1
    rw [← eL, show cod (C.2.2.2 i).1 (C.2.2.2 i).2.1 (C.2.2.2 i).2.2 = codT (C.2.2.2 i) from rfl] at o2
    have nx : wI (4 * c + i + 1) = 4 * c + (i + 1) := by rw [Z_wI (by omega)]; omega
    -- nothing of this stretch: on to the next
    have no : (∀ y m d, dtl y m d → inS C i y m d → dyS C i y m d ≠ day) → (∀ u u' : mV, Rn kM_dateOf 1 [vO 11 9, vI c, vI day, vI (4 * c + i), u4, u5] [] h = Rn kM_dateOf 1 [vO 11 9, vI c, vI day, vI (4 * c + (i + 1)), vI (ordT (C.1 i) (C.2.1 i)), vI 0] [] h) → (∃ y m d i', i ≤ i' ∧ i' ≤ j ∧ dtl y m d ∧ inS C i' y m d ∧ dyS C i' y m d = day ∧ Rn kM_dateOf 1 [vO 11 9, vI c, vI day, vI (4 * c + i), u4, u5] [] h = some (some (vI (cod y m d)), h)) ∨ ((∀ y m d i', i ≤ i' → i' ≤ j → dtl y m d → inS C i' y m d → dyS C i' y m d ≠ day) ∧ Rn kM_dateOf 1 [vO 11 9, vI c, vI day, vI (4 * c + i), u4, u5] [] h = some (some (vI (-1)), h)) := by
      intro hn hg
      rw [hg u4 u5]
      rcases ih (i + 1) (vI (ordT (C.1 i) (C.2.1 i))) (vI 0) (by omega) (by omega) with w | w
      · obtain ⟨y, m, d, i', h1, h2, T, s, e1, e2⟩ := w
        exact Or.inl ⟨y, m, d, i', by omega, h2, T, s, e1, e2⟩
      · obtain ⟨hm, e2⟩ := w
        refine Or.inr ⟨fun y m d i' h1 h2 T s => ?_, e2⟩
        rcases Int.lt_or_le i i' with z | z
        · exact hm y m d i' (by omega) h2 T s
        · have : i' = i := by omega
          subst this
          exact hn y m d T s
    have lim : ∀ y m d, dtl y m d → inS C i y m d → keyT (C.2.1 i) ≤ keyT (C.2.2.2 i) ∧ C.2.2.1 i ≤ dyS C i y m d ∧ dyS C i y m d ≤ C.2.2.1 i + ordT (C.1 i) (C.2.2.2 i) - ordT (C.1 i) (C.2.1 i) := by
      intro y m d T s
      obtain ⟨v, o⟩ := cdv_ord V i0 (by omega : i ≤ j) T s
      have := (ord_mono v va.2.2.2.2.2.1).mp s.2.1
      have a1 := s.1
      have a2 := s.2.1
      unfold dyS
      omega
    by_cases q1 : codT (C.2.2.2 i) < codT (C.2.1 i)
    · refine no (fun y m d T s z => ?_) (fun _ _ => ?_)
      · have := (lim y m d T s).1
        omega
      · rw [E_M_dateOf_1, lm6 L, ln12 L, gd_t (by omega), m1, Z_wI (z := 4 * c) (by omega), Z_wI (z := 4 * c + (j + 1)) (by omega), if_pos (by omega), lm11 L, ln17 L, gd_t (by omega), b3, o1, Z_bI, lm10 L, ln16 L, gd_t (by omega), lm11 L, ln17 L, gd_t (by omega), b5, b3, if_pos q1, nx]
    · by_cases q2 : day < C.2.2.1 i
      · refine no (fun y m d T s z => ?_) (fun _ _ => ?_)
        · have := (lim y m d T s).2
          omega
        · rw [E_M_dateOf_1, lm6 L, ln12 L, gd_t (by omega), m1, Z_wI (z := 4 * c) (by omega), Z_wI (z := 4 * c + (j + 1)) (by omega), if_pos (by omega), lm11 L, ln17 L, gd_t (by omega), b3, o1, Z_bI, lm10 L, ln16 L, gd_t (by omega), lm11 L, ln17 L, gd_t (by omega), b5, b3, if_neg q1, lm12 L, ln18 L, gd_t (by omega), b4, if_pos q2, nx]
      · have vz : 0 ≤ C.2.2.1 i := va.2.2.1
        have vz2 : C.2.2.1 i ≤ 13000000 := va.2.2.2.1
        have st : Rn kM_dateOf 1 [vO 11 9, vI c, vI day, vI (4 * c + i), u4, u5] [] h = (if day - C.2.2.1 i ≤ ordT (C.1 i) (C.2.2.2 i) - ordT (C.1 i) (C.2.1 i) then (bI (Cl kM_dated [vO 11 9, vI (4 * c + i), vI (wI (day - C.2.2.1 i + ordT (C.1 i) (C.2.1 i)))] h) fun z3 h3 => some (some (vI z3), h3)) else Rn kM_dateOf 1 [vO 11 9, vI c, vI day, vI (4 * c + (i + 1)), vI (ordT (C.1 i) (C.2.1 i)), vI 0] [] h) := by
          rw [E_M_dateOf_1, lm6 L, ln12 L, gd_t (by omega), m1, Z_wI (z := 4 * c) (by omega), Z_wI (z := 4 * c + (j + 1)) (by omega), if_pos (by omega), lm11 L, ln17 L, gd_t (by omega), b3, o1, Z_bI, lm10 L, ln16 L, gd_t (by omega), lm11 L, ln17 L, gd_t (by omega), b5, b3, if_neg q1, lm12 L, ln18 L, gd_t (by omega), b4, if_neg q2, gd_t (by omega), gd_t (by omega), o2, Z_bI, Z_wI (z := day - C.2.2.1 i) (by omega), Z_wI (z := ordT (C.1 i) (C.2.2.2 i) - ordT (C.1 i) (C.2.1 i)) (by omega)]
          by_cases q3 : day - C.2.2.1 i ≤ ordT (C.1 i) (C.2.2.2 i) - ordT (C.1 i) (C.2.1 i)
          · rw [if_pos q3, if_pos q3, lm12 L, ln18 L, gd_t (by omega), b4, Z_wI (z := day - C.2.2.1 i) (by omega)]
          · rw [if_neg q3, if_neg q3, nx]
        by_cases q3 : day - C.2.2.1 i ≤ ordT (C.1 i) (C.2.2.2 i) - ordT (C.1 i) (C.2.1 i)
        · have up := ord_up va.2.2.2.2.2.1 (by have := va.2.2.2.2.2.2; omega)
          rw [← eL] at up
          obtain ⟨y, m, d, vv, y2, oo, ed⟩ := R_dated L (s := 4 * c + i) (by omega) (by omega) b1 b2 (o := day - C.2.2.1 i + ordT (C.1 i) (C.2.1 i)) (by omega) (by
            generalize yb (C.1 i) 10001 = Z at up ⊢
            omega)
          have kF := (ord_mono va.1 vv).mpr (by omega)
          have kL := (ord_mono vv va.2.2.2.2.2.1).mpr (by omega)
          have dm := dim_b (C.1 i y) m
          obtain ⟨x1, x2, x3, x4, x5⟩ := vv
          have y9 : y ≤ 9999 := by
            have e3 : key y m d ≤ key (C.2.2.2 i).1 (C.2.2.2 i).2.1 (C.2.2.2 i).2.2 := kL
            have := va.2.2.2.2.2.2
            unfold key at e3
            omega
          refine Or.inl ⟨y, m, d, i, Int.le_refl _, by omega, ⟨⟨x1, y9⟩, ⟨x2, x3⟩, x4, by omega⟩, ⟨kF, kL, x5⟩, by unfold dyS; omega, ?_⟩
          rw [st, if_pos q3, Z_wI (by omega), ed, Z_bI]
        · refine no (fun y m d T s z => ?_) (fun _ _ => ?_)
          · have := (lim y m d T s).2
            omega
          · rw [st, if_neg q3]
theorem R_dateOf {h : mH} {nc : Int} {Ds : Int → Int → Int → Int → Int} (S : mcs h nc Ds) {c : Int} (c0 : 0 ≤ c) (c1 : c < nc) {day : Int} (dI : -2147483648 ≤ day ∧ day < 2147483648) : Cl kM_dateOf [vO 11 9, vI c, vI day] h = some (some (vI (cyD (Ds c) day)), h) := by
  obtain ⟨j, C, j0, j3, V, hD, M, l⟩ := S.2.2.2.2 c c0 c1
  have n6 := S.2.2.2.1
  have O := DC_ok V j0 j3
  rw [E_M_dateOf, Z_wI (by omega)]
  have r0 := R_dateOf1 S.1 c0 (by omega) j0 j3 V M l dI (j + 1).toNat 0 vU vU (by omega) (by omega)
  rw [Int.add_zero] at r0
  rw [hD]
  rcases r0 with w | w
  · obtain ⟨y, m, d, i', h1, h2, T, s, e1, e2⟩ := w
    have e3 := DC_at V (n := (j + 1).toNat) (by omega) T h1 h2 s
    have db := dyS_b V h1 h2 T s
    have dd := (V.1 i' h1 h2).2.2.1
    have : DC (j + 1).toNat C y m d = day := e3.trans e1
    rw [e2, ← this, cyD_at O (by omega)]
  · rw [w.2, cyD_no]
    intro y m d e
    by_cases q : DC (j + 1).toNat C y m d = -1
    · omega
    · obtain ⟨T, i, i0, i1, s, e3⟩ := DC_of V (n := (j + 1).toNat) (by omega) q
      exact absurd (e3.symm.trans e) (w.1 y m d i i0 i1 T s)
theorem R_kindOf {h : mH} {nc : Int} {Ds : Int → Int → Int → Int → Int} (S : mcs h nc Ds) {c : Int} (c0 : 0 ≤ c) (c1 : c < nc) (y : Int) : Cl kM_kindOf [vO 11 9, vI c, vI y] h = some (some (vI (kdD (Ds c) y)), h) := by
  have O := (S.2.2.2.2 c c0 c1).ok
  have b1 := O.1 y 1 1
  have b2 := O.1 y 12 31
  unfold kdD
  rw [E_M_kindOf, R_isDate S, Z_bI]
  by_cases q1 : Ds c y 1 1 = -1
  · rw [cb_f fun w => w.2 q1, if_pos rfl, if_neg fun w => w.1 q1]
  · rw [cb_t ⟨⟨c0, c1⟩, q1⟩, if_neg (by decide), R_isDate S, Z_bI]
    by_cases q2 : Ds c y 12 31 = -1
    · rw [cb_f fun w => w.2 q2, if_pos rfl, if_neg fun w => w.2.1 q2]
    · rw [cb_t ⟨⟨c0, c1⟩, q2⟩, if_neg (by decide), R_dayOf S ⟨⟨c0, c1⟩, q1⟩, Z_bI, R_dayOf S ⟨⟨c0, c1⟩, q2⟩, Z_bI, Z_wI (z := Ds c y 12 31 - Ds c y 1 1) (by omega), R_in, Z_bI]
      by_cases q3 : Ds c y 12 31 - Ds c y 1 1 = 364 ∨ Ds c y 12 31 - Ds c y 1 1 = 365
      · rw [bz_t (by omega), if_neg (by decide), gd_t (by decide), if_pos ⟨q1, q2, q3⟩, Z_tmod (by omega), Z_wI (z := 2 * (Ds c y 1 1 % 7)) (by omega), Z_wI (z := 2 * (Ds c y 1 1 % 7) + (Ds c y 12 31 - Ds c y 1 1)) (by omega), Z_wI (by omega)]
        rw [show 2 * (Ds c y 1 1 % 7) + (Ds c y 12 31 - Ds c y 1 1) - 364 = 2 * (Ds c y 1 1 % 7) + (Ds c y 12 31 - Ds c y 1 1 - 364) by omega]
      · rw [bz_f (by omega), if_pos rfl, if_neg fun w => q3 w.2.2]
