/-! THE PURE PART, the class's calendar, laid out -/
def h8v (C : CD) (i : Int) : Int := if keyT (C.2.1 i) ≤ keyT (C.2.2.2 i) then C.2.2.1 i + ordT (C.1 i) (C.2.2.2 i) - ordT (C.1 i) (C.2.1 i) else C.2.2.1 i - 1
def alo (h : mH) (c0 c1 a j : Int) (C : CD) : Prop := c0 < a ∧ a + 2 ≤ c1 ∧ h.M a 1 = a + 1 ∧ h.N (a + 1) = 4 ∧ h.M a 2 = j + 1 ∧ ∀ i, 0 ≤ i → i ≤ j → (c0 < h.M (a + 1) i ∧ h.M (a + 1) i ≤ c1 ∧ h.M (a + 1) i ≠ a) ∧ (c0 < h.M (h.M (a + 1) i) 9 ∧ h.M (h.M (a + 1) i) 9 ≤ c1 ∧ h.M (h.M (a + 1) i) 9 ≠ a) ∧ slo h (h.M (a + 1) i) C i ∧ h.M (h.M (a + 1) i) 8 = h8v C i
theorem slo.cg {h h1 : mH} {q : Int} {C : CD} {i : Int} (S : slo h q C i) (e : ∀ k, h1.M q k = h.M q k) (a : ∀ k, h1.M (h.M q 9) k = h.M (h.M q 9) k) (n : h1.N (h.M q 9) = h.N (h.M q 9)) : slo h1 q C i := by
  unfold slo
  rw [e 3, e 5, e 6, e 7, e 9, n]
  obtain ⟨s1, s2, s3, s4, s5, s6⟩ := S
  refine ⟨s1, s2, s3, s4, s5, ?_⟩
  rcases s6 with w | w
  · exact Or.inl ⟨w.1, w.2.1, fun k k0 k1 => by rw [a]; exact w.2.2 k k0 k1⟩
  · exact Or.inr w
theorem alo.cg {h h1 : mH} {c0 c1 c2 a j : Int} {C : CD} (A : alo h c0 c1 a j C) (hc : c1 ≤ c2) (e : ∀ b k, c0 < b → b ≤ c1 → ¬ (b = a ∧ k = 3) → h1.M b k = h.M b k) (n : ∀ b, c0 < b → b ≤ c1 → h1.N b = h.N b) : alo h1 c0 c2 a j C := by
  obtain ⟨a1, a2, a3, a4, a5, a6⟩ := A
  refine ⟨a1, by omega, (e a 1 a1 (by omega) (by omega)).trans a3, (n _ (by omega) (by omega)).trans a4, (e a 2 a1 (by omega) (by omega)).trans a5, fun i i0 i1 => ?_⟩
  obtain ⟨⟨b1, b2, b3⟩, ⟨d1, d2, d3⟩, b4, b5⟩ := a6 i i0 i1
  rw [e (a + 1) i (by omega) (by omega) (by omega)]
  rw [e (h.M (a + 1) i) 9 b1 b2 (by omega), e (h.M (a + 1) i) 8 b1 b2 (by omega)]
  exact ⟨⟨b1, by omega, b3⟩, ⟨d1, by omega, d3⟩, b4.cg (fun k => e _ k b1 b2 (by omega)) (fun k => e _ k d1 d2 (by omega)) (n _ d1 d2), b5⟩
theorem C_alDay4 {C : CD} {j : Int} (V : cdv j C) (j0 : 0 ≤ j) (j3 : j ≤ 3) {h : mH} {c0 c1 a : Int} (cc : 0 ≤ c0) (A : alo h c0 c1 a j C) {y m d : Int} (T : dtl y m d) : ∀ (n : Nat) (i : Int), i + n = j + 1 → 0 ≤ i → Rn kAl_dayOn 4 [vO 0 a, vI y, vI m, vI d, vI (-1), vI i] [] h = some (some (vI (dyN C y m d n i)), h) := by
  obtain ⟨a1, a2, a3, a4, a5, a6⟩ := A
  intro n
  induction n with
  | zero => intro i e i0; rw [E_Al_dayOn_4, a5, if_neg (by omega)]; rfl
  | succ n ih =>
    intro i e i0
    obtain ⟨⟨b1, b2, b3⟩, ⟨d1, d2, d3⟩, b4, b5⟩ := a6 i i0 (by omega)
    have T0 := T
    obtain ⟨⟨t1, t2⟩, ⟨t3, t4⟩, t5, t6⟩ := T
    rw [E_Al_dayOn_4, a5, if_pos (by omega), if_pos rfl, a3, a4, gd_t (by omega), C_keyOf h (by omega) (by omega) (by omega) (by omega) (by omega) (by omega), Z_bI, gd_t (by omega), C_shDayOn V i0 (by omega) j3 b4 T0, Z_bI, Z_wI (by omega)]
    show _ = some (some (vI (@ite _ (inS C i y m d) (Classical.propDecidable _) (dyS C i y m d) (dyN C y m d n (i + 1)))), h)
    unfold vS1
    by_cases s : inS C i y m d
    · have db := dyS_b V i0 (by omega) T0 s
      have dd := (V.1 i i0 (by omega)).2.2.1
      rw [if_pos s, if_pos s, E_Al_dayOn_4, a5]
      by_cases z : i + 1 < j + 1
      · rw [if_pos z, if_neg (by omega)]
      · rw [if_neg z]
    · rw [if_neg s, if_neg s]
      exact ih (i + 1) (by omega) (by omega)
theorem C_alDay {C : CD} {j : Int} (V : cdv j C) (j0 : 0 ≤ j) (j3 : j ≤ 3) {h : mH} {c0 c1 a : Int} (cc : 0 ≤ c0) (A : alo h c0 c1 a j C) (y m d : Int) : Cl kAl_dayOn [vO 0 a, vI y, vI m, vI d] h = some (some (vI (DC (j + 1).toNat C y m d)), h) := by
  rw [E_Al_dayOn, C_isDatelike, Z_bI]
  unfold DC
  by_cases T : dtl y m d
  · rw [cb_t T, if_neg (by decide), if_pos T]
    exact C_alDay4 V j0 j3 cc A T (j + 1).toNat 0 (by omega) (by omega)
  · rw [cb_f T, if_pos rfl, if_neg T]
theorem C_alKey1 {C : CD} {j : Int} (V : cdv j C) (j0 : 0 ≤ j) (j3 : j ≤ 3) {h : mH} {c0 c1 a : Int} (cc : 0 ≤ c0) (A : alo h c0 c1 a j C) (day : Int) : ∀ (n : Nat) (i : Int), i + n = j + 1 → 0 ≤ i → (∃ y m d i', i ≤ i' ∧ i' ≤ j ∧ dtl y m d ∧ inS C i' y m d ∧ dyS C i' y m d = day ∧ Rn kAl_keyOn 1 [vO 0 a, vI day, vI (-1), vI i] [] h = some (some (vI (key y m d)), h)) ∨ ((∀ y m d i', i ≤ i' → i' ≤ j → dtl y m d → inS C i' y m d → dyS C i' y m d ≠ day) ∧ Rn kAl_keyOn 1 [vO 0 a, vI day, vI (-1), vI i] [] h = some (some (vI (-1)), h)) := by
  obtain ⟨a1, a2, a3, a4, a5, a6⟩ := A
  intro n
  induction n with
  | zero => intro i e i0; right; exact ⟨fun y m d i' h1 h2 => by omega, by rw [E_Al_keyOn_1, a5, if_neg (by omega)]⟩
  | succ n ih =>
    intro i e i0
    obtain ⟨⟨b1, b2, b3⟩, ⟨d1, d2, d3⟩, b4, b5⟩ := a6 i i0 (by omega)
    have st : ∀ k : Int, Cl kSh_keyOn [vO 9 (h.M (a + 1) i), vI day] h = some (some (vI k), h) → Rn kAl_keyOn 1 [vO 0 a, vI day, vI (-1), vI i] [] h = Rn kAl_keyOn 1 [vO 0 a, vI day, vI k, vI (i + 1)] [] h := fun k hk => by
      rw [E_Al_keyOn_1, a5, if_pos (by omega), if_pos rfl, a3, a4, gd_t (by omega), gd_t (by omega), hk, Z_bI, Z_wI (by omega)]
    rcases C_shKeyOn V i0 (by omega) j3 b4 b5 day with ⟨y, m, d, T, s, e1, e2⟩ | ⟨no, e2⟩
    · left
      refine ⟨y, m, d, i, Int.le_refl _, by omega, T, s, e1, ?_⟩
      have := key_yy T
      have := T.1.1
      rw [st _ e2, E_Al_keyOn_1, a5]
      by_cases z : i + 1 < j + 1
      · rw [if_pos z, if_neg (by omega)]
      · rw [if_neg z]
    · rw [st _ e2]
      rcases ih (i + 1) (by omega) (by omega) with ⟨y, m, d, i', h1, h2, T, s, e1, e3⟩ | ⟨no2, e3⟩
      · exact Or.inl ⟨y, m, d, i', by omega, h2, T, s, e1, e3⟩
      · refine Or.inr ⟨fun y m d i' h1 h2 T s => ?_, e3⟩
        rcases Int.lt_or_le i i' with z | z
        · exact no2 y m d i' (by omega) h2 T s
        · have : i' = i := by omega
          subst this
          exact no y m d T s
/-- the date of a day, as a key -/
noncomputable def kyD (D : Int → Int → Int → Int) (day : Int) : Int := @dite _ (∃ t : Int × Int × Int, D t.1 t.2.1 t.2.2 = day ∧ day ≠ -1) (Classical.propDecidable _) (fun h => keyT (Classical.choose h)) (fun _ => -1)
/-- what the numbers of a calendar's days keep -/
def Dok (D : Int → Int → Int → Int) : Prop := (∀ y m d, -1 ≤ D y m d ∧ D y m d ≤ 20000000) ∧ (∀ y m d, D y m d ≠ -1 → dtl y m d) ∧ ∀ y m d y' m' d', D y m d ≠ -1 → D y m d = D y' m' d' → y = y' ∧ m = m' ∧ d = d'
theorem DC_ok {C : CD} {j : Int} (V : cdv j C) (j0 : 0 ≤ j) (j3 : j ≤ 3) : Dok (DC (j + 1).toNat C) := ⟨fun y m d => DC_b V (by omega) j3 y m d, fun y m d h => (DC_of V (by omega) h).1, fun y m d y' m' d' h e => DC_inj V (by omega) h e⟩
theorem kyD_at {D : Int → Int → Int → Int} (O : Dok D) {y m d : Int} (h : D y m d ≠ -1) : kyD D (D y m d) = key y m d := by
  have q : ∃ t : Int × Int × Int, D t.1 t.2.1 t.2.2 = D y m d ∧ D y m d ≠ -1 := ⟨(y, m, d), rfl, h⟩
  unfold kyD
  rw [dif_pos q]
  obtain ⟨a, b⟩ := Classical.choose_spec q
  obtain ⟨e1, e2, e3⟩ := O.2.2 _ _ _ y m d (by rw [a]; exact b) a
  unfold keyT
  rw [e1, e2, e3]
theorem kyD_no {D : Int → Int → Int → Int} {day : Int} (h : ∀ y m d, D y m d = day → day = -1) : kyD D day = -1 := dif_neg fun ⟨t, a, b⟩ => b (h _ _ _ a)
theorem C_alKey {C : CD} {j : Int} (V : cdv j C) (j0 : 0 ≤ j) (j3 : j ≤ 3) {h : mH} {c0 c1 a : Int} (cc : 0 ≤ c0) (A : alo h c0 c1 a j C) (day : Int) : Cl kAl_keyOn [vO 0 a, vI day] h = some (some (vI (kyD (DC (j + 1).toNat C) day)), h) := by
  have O := DC_ok V j0 j3
  rw [E_Al_keyOn]
  rcases C_alKey1 V j0 j3 cc A day (j + 1).toNat 0 (by omega) (by omega) with ⟨y, m, d, i', h1, h2, T, s, e1, e2⟩ | ⟨no, e2⟩
  · have e3 := DC_at V (n := (j + 1).toNat) (by omega) T h1 h2 s
    have db := dyS_b V h1 h2 T s
    have dd := (V.1 i' h1 h2).2.2.1
    have : DC (j + 1).toNat C y m d = day := e3.trans e1
    rw [e2, ← this, kyD_at O (by omega)]
  · rw [e2, kyD_no]
    intro y m d e
    by_cases q : DC (j + 1).toNat C y m d = -1
    · omega
    · obtain ⟨T, i, i0, i1, s, e3⟩ := DC_of V (n := (j + 1).toNat) (by omega) q
      exact absurd (e3.symm.trans e) (no y m d i i0 i1 T s)
theorem C_alDates1 {C : CD} {j : Int} (V : cdv j C) (j0 : 0 ≤ j) (j3 : j ≤ 3) {h : mH} {c0 c1 a : Int} (cc : 0 ≤ c0) (A : alo h c0 c1 a j C) {y m : Int} (y1 : 1 ≤ y) (y2 : y ≤ 9999) (m1 : 1 ≤ m) (m2 : m ≤ 12) : ∀ (n : Nat) (i x : Int), i + n = j + 1 → 0 ≤ i → 0 ≤ x → x ≤ 31 * i → Rn kAl_datesIn 1 [vO 0 a, vI y, vI m, vI x, vI i] [] h = some (some (vI (x + cn (fun d => ∃ i', i ≤ i' ∧ i' ≤ j ∧ inS C i' y m d) 31 1)), h) := by
  obtain ⟨a1, a2, a3, a4, a5, a6⟩ := A
  intro n
  induction n with
  | zero =>
    intro i x e i0 x0 x1
    rw [E_Al_datesIn_1, a5, if_neg (by omega), cn_0 31 1 (fun d _ _ ⟨i', h1, h2, _⟩ => by omega), Int.add_zero]
  | succ n ih =>
    intro i x e i0 x0 x1
    obtain ⟨⟨b1, b2, b3⟩, ⟨d1, d2, d3⟩, b4, b5⟩ := a6 i i0 (by omega)
    have cb' := cn_b (fun d => inS C i y m d) 31 1
    have ca : cn (fun d => ∃ i', i ≤ i' ∧ i' ≤ j ∧ inS C i' y m d) 31 1 = cn (fun d => inS C i y m d) 31 1 + cn (fun d => ∃ i', i + 1 ≤ i' ∧ i' ≤ j ∧ inS C i' y m d) 31 1 := by
      refine cn_add 31 1 fun d _ _ => ⟨⟨fun w => ?_, fun w => ?_⟩, fun w => ?_⟩
      · obtain ⟨i', h1, h2, s⟩ := w
        rcases Int.lt_or_le i i' with z | z
        · exact Or.inr ⟨i', by omega, h2, s⟩
        · have : i' = i := by omega
          subst this
          exact Or.inl s
      · rcases w with w | w
        · exact ⟨i, Int.le_refl _, by omega, w⟩
        · obtain ⟨i', h1, h2, s⟩ := w
          exact ⟨i', by omega, h2, s⟩
      · obtain ⟨s1, i', h1, h2, s2⟩ := w
        exact inS_one V i0 (by omega) h2 s1 s2
    rw [ca]
    have sh := C_shDatesIn V i0 (by omega) j3 b4 y1 y2 m1 m2
    have ih' := ih (i + 1) (x + cn (fun d => inS C i y m d) 31 1) (by omega) (by omega) (by omega) (by omega)
    rw [E_Al_datesIn_1, a5, if_pos (by omega), a3, a4, gd_t (by omega), gd_t (by omega), sh, Z_bI, Z_wI (z := x + cn (fun d => inS C i y m d) 31 1) (by omega), Z_wI (z := i + 1) (by omega), ih', Int.add_assoc]
theorem C_alDates {C : CD} {j : Int} (V : cdv j C) (j0 : 0 ≤ j) (j3 : j ≤ 3) {h : mH} {c0 c1 a : Int} (cc : 0 ≤ c0) (A : alo h c0 c1 a j C) {y m : Int} (y1 : 1 ≤ y) (y2 : y ≤ 9999) (m1 : 1 ≤ m) (m2 : m ≤ 12) : Cl kAl_datesIn [vO 0 a, vI y, vI m] h = some (some (vI (cn (fun d => DC (j + 1).toNat C y m d ≠ -1) 31 1)), h) := by
  rw [E_Al_datesIn, C_alDates1 V j0 j3 cc A y1 y2 m1 m2 (j + 1).toNat 0 0 (by omega) (by omega) (by omega) (by omega), Int.zero_add]
  have ca : cn (fun d => ∃ i', 0 ≤ i' ∧ i' ≤ j ∧ inS C i' y m d) 31 1 = cn (fun d => DC (j + 1).toNat C y m d ≠ -1) 31 1 := by
    refine cn_cg 31 1 fun d d1 d2 => ⟨fun w => ?_, fun w => ?_⟩
    · obtain ⟨i', h1, h2, s⟩ := w
      have T : dtl y m d := ⟨⟨y1, y2⟩, ⟨m1, m2⟩, d1, by omega⟩
      rw [DC_at V (by omega) T h1 h2 s]
      have db := dyS_b V h1 h2 T s
      have dd := (V.1 i' h1 h2).2.2.1
      omega
    · obtain ⟨T, i, i0, i1, s, e3⟩ := DC_of V (n := (j + 1).toNat) (by omega) w
      exact ⟨i, i0, i1, s⟩
  rw [ca]
/-- the class's calendar object at a, all of it between c0 and c1 -/
def aok (h : mH) (c0 c1 a : Int) (D : Int → Int → Int → Int) : Prop := ∃ j C, 0 ≤ j ∧ j ≤ 3 ∧ cdv j C ∧ D = DC (j + 1).toNat C ∧ 0 ≤ c0 ∧ alo h c0 c1 a j C ∧ (c0 < h.M a 3 ∧ h.M a 3 ≤ c1) ∧ h.N (h.M a 3) = 10000 ∧ ∀ y, 1 ≤ y → y ≤ 9999 → h.M (h.M a 3) y = kdD D y
theorem aok.cg {h h1 : mH} {c0 c1 a : Int} {D : Int → Int → Int → Int} (A : aok h c0 c1 a D) (e : ∀ b k, c0 < b → b ≤ c1 → h1.M b k = h.M b k) (n : ∀ b, c0 < b → b ≤ c1 → h1.N b = h.N b) : aok h1 c0 c1 a D := by
  obtain ⟨j, C, j0, j3, V, hD, cc, A, ⟨k1, k2⟩, k3, k4⟩ := A
  have a1 := A.1
  have a2 := A.2.1
  refine ⟨j, C, j0, j3, V, hD, cc, A.cg (Int.le_refl _) (fun b k b1 b2 _ => e b k b1 b2) n, ?_⟩
  rw [e a 3 a1 (by omega)]
  exact ⟨⟨k1, k2⟩, (n _ k1 k2).trans k3, fun y y1 y2 => (e _ y k1 k2).trans (k4 y y1 y2)⟩
theorem aok.ok {h : mH} {c0 c1 a : Int} {D : Int → Int → Int → Int} (A : aok h c0 c1 a D) : Dok D := by
  obtain ⟨j, C, j0, j3, V, hD, _⟩ := A
  rw [hD]
  exact DC_ok V j0 j3
theorem aok.a0 {h : mH} {c0 c1 a : Int} {D : Int → Int → Int → Int} (A : aok h c0 c1 a D) : a ≠ 0 := by
  obtain ⟨j, C, j0, j3, V, hD, cc, A, _⟩ := A
  have := A.1
  omega
theorem A_day {h : mH} {c0 c1 a : Int} {D : Int → Int → Int → Int} (A : aok h c0 c1 a D) (y m d : Int) : Cl kAl_dayOn [vO 0 a, vI y, vI m, vI d] h = some (some (vI (D y m d)), h) := by
  obtain ⟨j, C, j0, j3, V, hD, cc, A, _⟩ := A
  rw [hD]
  exact C_alDay V j0 j3 cc A y m d
theorem A_key {h : mH} {c0 c1 a : Int} {D : Int → Int → Int → Int} (A : aok h c0 c1 a D) (day : Int) : Cl kAl_keyOn [vO 0 a, vI day] h = some (some (vI (kyD D day)), h) := by
  obtain ⟨j, C, j0, j3, V, hD, cc, A, _⟩ := A
  rw [hD]
  exact C_alKey V j0 j3 cc A day
theorem A_dates {h : mH} {c0 c1 a : Int} {D : Int → Int → Int → Int} (A : aok h c0 c1 a D) {y m : Int} (y1 : 1 ≤ y) (y2 : y ≤ 9999) (m1 : 1 ≤ m) (m2 : m ≤ 12) : Cl kAl_datesIn [vO 0 a, vI y, vI m] h = some (some (vI (cn (fun d => D y m d ≠ -1) 31 1)), h) := by
  obtain ⟨j, C, j0, j3, V, hD, cc, A, _⟩ := A
  rw [hD]
  exact C_alDates V j0 j3 cc A y1 y2 m1 m2
noncomputable def kdY (D : Int → Int → Int → Int) (y : Int) : Int := if 1 ≤ y ∧ y ≤ 9999 then kdD D y else -1
theorem A_kind {h : mH} {c0 c1 a : Int} {D : Int → Int → Int → Int} (A : aok h c0 c1 a D) (y : Int) : Cl kAl_kindOf [vO 0 a, vI y] h = some (some (vI (kdY D y)), h) := by
  obtain ⟨j, C, j0, j3, V, hD, cc, A, ⟨k1, k2⟩, k3, k4⟩ := A
  rw [E_Al_kindOf]
  unfold kdY
  by_cases q : y < 1
  · rw [if_pos q, if_neg (by omega)]
  · rw [if_neg q, gd_t (by omega), k3]
    by_cases q2 : y < 10000
    · rw [if_pos q2, gd_t (by omega), if_pos (by omega), k4 y (by omega) (by omega)]
    · rw [if_neg q2, if_neg (by omega)]
