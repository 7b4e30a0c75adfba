/-! THE PURE PART, days and dates of a calendar's data -/
def inS (C : CD) (i y m d : Int) : Prop := keyT (C.2.1 i) ≤ key y m d ∧ key y m d ≤ keyT (C.2.2.2 i) ∧ d ≤ dim (C.1 i y) m
def dyS (C : CD) (i y m d : Int) : Int := C.2.2.1 i + ord (C.1 i) y m d - ordT (C.1 i) (C.2.1 i)
def dtl (y m d : Int) : Prop := (1 ≤ y ∧ y ≤ 9999) ∧ (1 ≤ m ∧ m ≤ 12) ∧ 1 ≤ d ∧ d ≤ 31
noncomputable def vS1 (C : CD) (i y m d : Int) : Int := @ite _ (inS C i y m d) (Classical.propDecidable _) (dyS C i y m d) (-1)
noncomputable def dyN (C : CD) (y m d : Int) : Nat → Int → Int
  | 0, _ => -1
  | n + 1, i => @ite _ (inS C i y m d) (Classical.propDecidable _) (dyS C i y m d) (dyN C y m d n (i + 1))
noncomputable def DC (n : Nat) (C : CD) (y m d : Int) : Int := @ite _ (dtl y m d) (Classical.propDecidable _) (dyN C y m d n 0) (-1)
theorem cdv_ord {j : Int} {C : CD} (V : cdv j C) {i y m d : Int} (i0 : 0 ≤ i) (i1 : i ≤ j) (h : dtl y m d) (s : inS C i y m d) : vd (C.1 i) y m d ∧ ordT (C.1 i) (C.2.1 i) ≤ ord (C.1 i) y m d := by
  obtain ⟨⟨a1, a2⟩, ⟨b1, b2⟩, c1, c2⟩ := h
  have v : vd (C.1 i) y m d := ⟨a1, b1, b2, c1, s.2.2⟩
  exact ⟨v, (ord_mono (V.1 i i0 i1).1 v).mp s.1⟩
theorem dyS_b {j : Int} {C : CD} (V : cdv j C) {i y m d : Int} (i0 : 0 ≤ i) (i1 : i ≤ j) (h : dtl y m d) (s : inS C i y m d) : C.2.2.1 i ≤ dyS C i y m d ∧ dyS C i y m d ≤ C.2.2.1 i + 3700000 := by
  obtain ⟨v, o⟩ := cdv_ord V i0 i1 h s
  have b := ord_b v
  have c := yb_b (C.1 i) v.1
  have yl := ylen_b (C.1 i y)
  have b2 := ord_b (V.1 i i0 i1).1
  have c2 := yb_b (C.1 i) (y := (C.2.1 i).1) (V.1 i i0 i1).1.1
  have e : ordT (C.1 i) (C.2.1 i) = ord (C.1 i) (C.2.1 i).1 (C.2.1 i).2.1 (C.2.1 i).2.2 := rfl
  have := h.1.2
  unfold dyS
  omega
/-- stretches come one behind the other -/
theorem cdv_lt {j : Int} {C : CD} (V : cdv j C) : ∀ (n : Nat) (i : Int), 0 ≤ i → i + n + 1 ≤ j → keyT (C.2.2.2 i) < keyT (C.2.1 (i + n + 1)) ∧ C.2.2.1 i + ordT (C.1 i) (C.2.2.2 i) - ordT (C.1 i) (C.2.1 i) < C.2.2.1 (i + n + 1) := by
  intro n
  induction n with
  | zero =>
    intro i i0 i1
    have a := V.2.1 i i0 (by omega)
    rw [show i + ((0 : Nat) : Int) + 1 = i + 1 by omega]
    exact ⟨a.2.2.2.1, by omega⟩
  | succ n ih =>
    intro i i0 i1
    have a := ih i i0 (by omega)
    have b := V.2.1 (i + n + 1) (by omega) (by omega)
    have c := (ord_mono (V.1 (i + n + 1) (by omega) (by omega)).1 b.1).mp b.2.2.1
    have e1 : ordT (C.1 (i + n + 1)) (C.2.1 (i + n + 1)) = ord (C.1 (i + n + 1)) (C.2.1 (i + n + 1)).1 (C.2.1 (i + n + 1)).2.1 (C.2.1 (i + n + 1)).2.2 := rfl
    have e2 : ordT (C.1 (i + n + 1)) (C.2.2.2 (i + n + 1)) = ord (C.1 (i + n + 1)) (C.2.2.2 (i + n + 1)).1 (C.2.2.2 (i + n + 1)).2.1 (C.2.2.2 (i + n + 1)).2.2 := rfl
    rw [show i + ((n + 1 : Nat) : Int) + 1 = i + n + 1 + 1 by omega]
    omega
theorem inS_one {j : Int} {C : CD} (V : cdv j C) {i i' y m d : Int} (i0 : 0 ≤ i) (i1 : i < i') (i2 : i' ≤ j) (s : inS C i y m d) : ¬ inS C i' y m d := by
  intro s'
  have a := (cdv_lt V (i' - i - 1).toNat i i0 (by omega)).1
  rw [show i + ((i' - i - 1).toNat : Int) + 1 = i' by omega] at a
  have := s.2.1
  have := s'.1
  omega
/-- the stretch of a date says its day -/
theorem dyN_at {j : Int} {C : CD} (V : cdv j C) {y m d : Int} : ∀ (n : Nat) (i i' : Int), 0 ≤ i → i ≤ i' → i' < i + n → i' ≤ j → inS C i' y m d → dyN C y m d n i = dyS C i' y m d := by
  intro n
  induction n with
  | zero => intro i i' i0 i1 i2; omega
  | succ n ih =>
    intro i i' i0 i1 i2 i3 s
    show @ite _ (inS C i y m d) (Classical.propDecidable _) _ _ = _
    by_cases q : i = i'
    · subst q
      rw [if_pos s]
    · have : ¬ inS C i y m d := fun w => inS_one V i0 (by omega) i3 w s
      rw [if_neg this]
      exact ih (i + 1) i' (by omega) (by omega) (by omega) i3 s
theorem dyN_no {C : CD} {y m d : Int} : ∀ (n : Nat) (i : Int), (∀ i', i ≤ i' → i' < i + n → ¬ inS C i' y m d) → dyN C y m d n i = -1 := by
  intro n
  induction n with
  | zero => intro i _; rfl
  | succ n ih =>
    intro i h
    show @ite _ (inS C i y m d) (Classical.propDecidable _) _ _ = _
    rw [if_neg (h i (by omega) (by omega))]
    exact ih (i + 1) fun i' h1 h2 => h i' (by omega) (by omega)
theorem DC_at {j : Int} {C : CD} (V : cdv j C) {n : Nat} (hn : (n : Int) = j + 1) {i y m d : Int} (h : dtl y m d) (i0 : 0 ≤ i) (i1 : i ≤ j) (s : inS C i y m d) : DC n C y m d = dyS C i y m d := by
  unfold DC
  rw [if_pos h]
  exact dyN_at V n 0 i (by omega) i0 (by omega) i1 s
theorem DC_of {j : Int} {C : CD} (V : cdv j C) {n : Nat} (hn : (n : Int) = j + 1) {y m d : Int} (h : DC n C y m d ≠ -1) : dtl y m d ∧ ∃ i, 0 ≤ i ∧ i ≤ j ∧ inS C i y m d ∧ DC n C y m d = dyS C i y m d := by
  by_cases q : dtl y m d
  · refine ⟨q, ?_⟩
    by_cases w : ∃ i, 0 ≤ i ∧ i ≤ j ∧ inS C i y m d
    · obtain ⟨i, i0, i1, s⟩ := w
      exact ⟨i, i0, i1, s, DC_at V hn q i0 i1 s⟩
    · exfalso
      apply h
      unfold DC
      rw [if_pos q]
      exact dyN_no n 0 fun i' h1 h2 s => w ⟨i', h1, by omega, s⟩
  · exfalso
    apply h
    unfold DC
    rw [if_neg q]
theorem DC_no {C : CD} {n : Nat} {y m d : Int} (h : ¬ dtl y m d) : DC n C y m d = -1 := if_neg h
theorem DC_b {j : Int} {C : CD} (V : cdv j C) {n : Nat} (hn : (n : Int) = j + 1) (j3 : j ≤ 3) (y m d : Int) : -1 ≤ DC n C y m d ∧ DC n C y m d ≤ 20000000 := by
  by_cases q : DC n C y m d = -1
  · omega
  · obtain ⟨h, i, i0, i1, s, e⟩ := DC_of V hn q
    have a := dyS_b V i0 i1 h s
    have b := (V.1 i i0 i1).2.2
    omega
/-- two dates of one day are one date -/
theorem DC_inj {j : Int} {C : CD} (V : cdv j C) {n : Nat} (hn : (n : Int) = j + 1) {y m d y' m' d' : Int} (h : DC n C y m d ≠ -1) (e : DC n C y m d = DC n C y' m' d') : y = y' ∧ m = m' ∧ d = d' := by
  obtain ⟨q1, i, i0, i1, s, e1⟩ := DC_of V hn h
  obtain ⟨q2, i', i0', i1', s', e2⟩ := DC_of V hn (e ▸ h)
  obtain ⟨v1, o1⟩ := cdv_ord V i0 i1 q1 s
  obtain ⟨v2, o2⟩ := cdv_ord V i0' i1' q2 s'
  have ee : dyS C i y m d = dyS C i' y' m' d' := by rw [← e1, ← e2, e]
  -- the last date of an earlier stretch is ahead of the first of a later
  have key2 : ∀ i i' y m d y' m' d', 0 ≤ i → i < i' → i' ≤ j → dtl y m d → inS C i y m d → vd (C.1 i) y m d → ordT (C.1 i') (C.2.1 i') ≤ ord (C.1 i') y' m' d' → dyS C i y m d < dyS C i' y' m' d' := by
    intro i i' y m d y' m' d' a0 a1 a2 hq hs hv ho
    have a := (cdv_lt V (i' - i - 1).toNat i a0 (by omega)).2
    rw [show i + ((i' - i - 1).toNat : Int) + 1 = i' by omega] at a
    have b := V.2.1 i a0 (by omega)
    have c := (ord_mono hv b.1).mp hs.2.1
    have e3 : ordT (C.1 i) (C.2.2.2 i) = ord (C.1 i) (C.2.2.2 i).1 (C.2.2.2 i).2.1 (C.2.2.2 i).2.2 := rfl
    unfold dyS
    omega
  rcases Int.lt_trichotomy i i' with w | w | w
  · have := key2 i i' y m d y' m' d' i0 w i1' q1 s v1 o2
    omega
  · subst w
    unfold dyS at ee
    exact ord_inj v1 v2 (by omega)
  · have := key2 i' i y' m' d' y m d i0' w i1 q2 s' v2 o1
    omega
noncomputable def kdD (D : Int → Int → Int → Int) (y : Int) : Int := @ite _ (D y 1 1 ≠ -1 ∧ D y 12 31 ≠ -1 ∧ (D y 12 31 - D y 1 1 = 364 ∨ D y 12 31 - D y 1 1 = 365)) (Classical.propDecidable _) (2 * (D y 1 1 % 7) + (D y 12 31 - D y 1 1 - 364)) (-1)
theorem kdD_b {D : Int → Int → Int → Int} (h : ∀ y m d, -1 ≤ D y m d) (y : Int) : -1 ≤ kdD D y ∧ kdD D y ≤ 13 := by
  unfold kdD
  split
  · rename_i q
    have := h y 1 1
    have := q.1
    omega
  · omega
/-! a laid Stretch of the class -/
def slo (h : mH) (q : Int) (C : CD) (i : Int) : Prop := (1 ≤ h.M q 3 ∧ h.M q 3 ≤ (C.2.1 i).1 ∧ (C.2.1 i).1 ≤ h.M q 3 + 1) ∧ h.M q 5 = keyT (C.2.1 i) ∧ h.M q 6 = keyT (C.2.2.2 i) ∧ h.M q 7 = C.2.2.1 i ∧ h.M q 9 ≠ 0 ∧ ((keyT (C.2.1 i) ≤ keyT (C.2.2.2 i) ∧ h.N (h.M q 9) = (C.2.2.2 i).1 - h.M q 3 + 2 ∧ ∀ k, 0 ≤ k → k ≤ (C.2.2.2 i).1 - h.M q 3 + 1 → h.M (h.M q 9) k = C.2.2.1 i - ordT (C.1 i) (C.2.1 i) - 1 + yb (C.1 i) (h.M q 3 + k)) ∨ (keyT (C.2.2.2 i) < keyT (C.2.1 i) ∧ h.N (h.M q 9) = 0))
/-- what holds of stretch i of valid data -/
theorem cdv_at {j : Int} {C : CD} (V : cdv j C) {i : Int} (i0 : 0 ≤ i) (i1 : i ≤ j) (j3 : j ≤ 3) : vdT (C.1 i) (C.2.1 i) ∧ (C.2.1 i).1 ≤ 10000 ∧ 0 ≤ C.2.2.1 i ∧ C.2.2.1 i ≤ 13000000 ∧ (∀ y, C.1 i y = 0 ∨ C.1 i y = 1) ∧ vdT (C.1 i) (C.2.2.2 i) ∧ (C.2.2.2 i).1 ≤ 9999 := by
  obtain ⟨a1, a2, a3, a4, a5⟩ := V.1 i i0 i1
  refine ⟨a1, a2, a3, by omega, a5, ?_⟩
  rcases Int.lt_or_le i j with q | q
  · have := V.2.1 i i0 q
    exact ⟨this.1, this.2.1⟩
  · rw [V.2.2.2 i q]
    exact ⟨⟨(by decide : (1 : Int) ≤ 9999), (by decide : (1 : Int) ≤ 12), (by decide : (12 : Int) ≤ 12), (by decide : (1 : Int) ≤ 31), by show (31 : Int) ≤ dim _ 12; rw [dim_12]; decide⟩, (by decide : (9999 : Int) ≤ 9999)⟩
theorem keyT_y {t : Int × Int × Int} {lp : Int → Int} (v : vdT lp t) : t.1 * 512 < keyT t ∧ keyT t < t.1 * 512 + 512 := by
  obtain ⟨v1, v2, v3, v4, v5⟩ := v
  have := dim_b (lp t.1) t.2.1
  unfold keyT key
  omega
theorem key_yy {y m d : Int} (h : dtl y m d) : y * 512 < key y m d ∧ key y m d < y * 512 + 512 := by
  obtain ⟨⟨a1, a2⟩, ⟨b1, b2⟩, c1, c2⟩ := h
  unfold key
  omega
theorem C_isLeapAt {h : mH} {q : Int} {C : CD} {i : Int} (S : slo h q C i) (lp01 : ∀ y, C.1 i y = 0 ∨ C.1 i y = 1) (K : keyT (C.2.1 i) ≤ keyT (C.2.2.2 i)) {k : Int} (k0 : 0 ≤ k) (k1 : k ≤ (C.2.2.2 i).1 - h.M q 3) (l9 : (C.2.2.2 i).1 ≤ 9999) (bd : 0 ≤ C.2.2.1 i ∧ C.2.2.1 i ≤ 13000000) (fb : 0 ≤ ordT (C.1 i) (C.2.1 i) ∧ ordT (C.1 i) (C.2.1 i) ≤ 4000000) : Cl kSh_isLeapAt [vO 9 q, vI k] h = some (some (vI (C.1 i (h.M q 3 + k))), h) := by
  obtain ⟨⟨s1, s2, s3⟩, s4, s5, s6, s7, s8⟩ := S
  obtain ⟨_, n1, m1⟩ : keyT (C.2.1 i) ≤ keyT (C.2.2.2 i) ∧ h.N (h.M q 9) = (C.2.2.2 i).1 - h.M q 3 + 2 ∧ ∀ k, 0 ≤ k → k ≤ (C.2.2.2 i).1 - h.M q 3 + 1 → h.M (h.M q 9) k = C.2.2.1 i - ordT (C.1 i) (C.2.1 i) - 1 + yb (C.1 i) (h.M q 3 + k) := by
    rcases s8 with s8 | s8
    · exact s8
    · have := s8.1; omega
  have yy := yb_s (C.1 i) (y := h.M q 3 + k) (by omega)
  have b1 := yb_b (C.1 i) (y := h.M q 3 + k) (by omega)
  have yl := ylen_b (C.1 i (h.M q 3 + k))
  have e1 := m1 k k0 (by omega)
  have e2 := m1 (k + 1) (by omega) (by omega)
  rw [show h.M q 3 + (k + 1) = h.M q 3 + k + 1 by omega, yy] at e2
  rw [E_Sh_isLeapAt, if_neg (by omega), gd_t s7, Z_wI (z := k + 1) (by omega), n1, if_pos (by omega), gd_t ⟨by omega, by omega, s7⟩, gd_t ⟨by omega, by omega, s7⟩, e1, e2, Z_wI (by omega)]
  unfold ylen
  rcases lp01 (h.M q 3 + k) with w | w
  · rw [w, if_pos rfl, if_neg (by omega), gd_t (Or.inl rfl)]
  · rw [w, if_neg (show ¬ (1 : Int) = 0 by decide), if_pos (by omega), gd_t (Or.inr rfl)]
theorem C_shDayOn {h : mH} {q : Int} {C : CD} {i j : Int} (V : cdv j C) (i0 : 0 ≤ i) (i1 : i ≤ j) (j3 : j ≤ 3) (S : slo h q C i) {y m d : Int} (T : dtl y m d) : Cl kSh_dayOn [vO 9 q, vI (key y m d)] h = some (some (vI (vS1 C i y m d)), h) := by
  obtain ⟨v1, v2, v3, v4, v5, v6, v7⟩ := cdv_at V i0 i1 j3
  have bF := ord_b v1
  have cF := yb_b (C.1 i) v1.1
  have yF := ylen_b (C.1 i (C.2.1 i).1)
  have eF : ordT (C.1 i) (C.2.1 i) = ord (C.1 i) (C.2.1 i).1 (C.2.1 i).2.1 (C.2.1 i).2.2 := rfl
  have S0 := S
  obtain ⟨⟨s1, s2, s3⟩, s4, s5, s6, s7, s8⟩ := S
  have k1 := key_yy T
  have k2 := keyT_y v1
  have k3 := keyT_y v6
  have T0 := T
  obtain ⟨⟨a1, a2⟩, ⟨b1, b2⟩, c1, c2⟩ := T
  have kk := key_y (y := y) (m := m) (d := d) (by omega) (by omega) (by omega) (by omega)
  have kb : 0 ≤ key y m d ∧ key y m d < 2147483648 := by omega
  rw [E_Sh_dayOn, C_yearOfKey h kb.1 kb.2, Z_bI, kk.1, s4, s5]
  by_cases q1 : key y m d < keyT (C.2.1 i)
  · have ns : ¬ inS C i y m d := fun w => by have := w.1; omega
    unfold vS1
    rw [if_pos q1, if_neg ns]
  · rw [if_neg q1]
    by_cases q2 : key y m d ≤ keyT (C.2.2.2 i)
    · have K : keyT (C.2.1 i) ≤ keyT (C.2.2.2 i) := by omega
      obtain ⟨_, n1, m1⟩ : keyT (C.2.1 i) ≤ keyT (C.2.2.2 i) ∧ h.N (h.M q 9) = (C.2.2.2 i).1 - h.M q 3 + 2 ∧ ∀ k, 0 ≤ k → k ≤ (C.2.2.2 i).1 - h.M q 3 + 1 → h.M (h.M q 9) k = C.2.2.1 i - ordT (C.1 i) (C.2.1 i) - 1 + yb (C.1 i) (h.M q 3 + k) := by
        rcases s8 with s8 | s8
        · exact s8
        · have := s8.1; omega
      have cY := yb_b (C.1 i) a1
      have lp := C_isLeapAt S0 v5 K (k := y - h.M q 3) (by omega) (by omega) v7 ⟨v3, v4⟩ (by omega)
      rw [show h.M q 3 + (y - h.M q 3) = y by omega] at lp
      have mk := m1 (y - h.M q 3) (by omega) (by omega)
      rw [show h.M q 3 + (y - h.M q 3) = y by omega] at mk
      have db := dbm_0 (C.1 i y) b1 b2
      have dd := dim_b (C.1 i y) m
      have yl := ylen_b (C.1 i y)
      rw [if_pos q2, Z_wI (z := y - h.M q 3) (by omega), if_neg (by omega), gd_t s7, Z_wI (z := y - h.M q 3 + 1) (by omega), n1, if_pos (by omega), lp, Z_bI, C_monthOfKey h kb.1 kb.2, Z_bI, kk.2.1, C_dateOfKey, Z_bI, kk.2.2, C_monthLength _ h b1 b2, Z_bI]
      unfold vS1
      by_cases q3 : d ≤ dim (C.1 i y) m
      · rw [if_pos q3, n1, gd_t ⟨by omega, by omega, s7⟩, C_placeInYear _ h b1 b2 (by omega) (by omega), Z_bI, mk, if_pos ⟨by omega, q2, q3⟩, Z_wI (by omega)]
        unfold dyS ord
        rw [show C.2.2.1 i - ordT (C.1 i) (C.2.1 i) - 1 + yb (C.1 i) y + (dbm (C.1 i y) m + d) = C.2.2.1 i + (yb (C.1 i) y + dbm (C.1 i y) m + d - 1) - ordT (C.1 i) (C.2.1 i) by omega]
      · have ns : ¬ inS C i y m d := fun w => q3 w.2.2
        rw [if_neg q3, if_neg ns]
    · have ns : ¬ inS C i y m d := fun w => q2 w.2.1
      unfold vS1
      rw [if_neg q2, if_neg ns]
