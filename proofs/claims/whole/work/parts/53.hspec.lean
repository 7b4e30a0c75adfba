/-! THE PURE PART, a head's text: what it says -/
/-- the data of a head: 0 how many ranges, 1 2 these; 3 how many steps, 4 5 widths, costs; 6 how many pairs, 7 8 9 these, costs; 10 months known; 11 what sevens, rests, beginnings, leap years take (-1: not told) -/
abbrev HD : Type := Int → Int → Int
def up2 (H : HD) (a k v : Int) : HD := fun b j => if b = a ∧ j = k then v else H b j
theorem up2_s (H : HD) (a k v : Int) : up2 H a k v a k = v := if_pos ⟨rfl, rfl⟩
theorem up2_n (H : HD) {a k v b j : Int} (h : b ≠ a ∨ j ≠ k) : up2 H a k v b j = H b j := if_neg (by omega)
theorem up2_e (H : HD) (a k v b j : Int) : up2 H a k v b j = if b = a ∧ j = k then v else H b j := rfl
def H00 : HD := fun b _ => if b = 11 then -1 else 0
def itK1 (T : Int → Int) (s : Int × Int) : Int × Int × Int := nmS T 1 9999 s
def itK2 (T : Int → Int) (s : Int × Int) : Int × Int × Int := nmS T (imax 1 (itK1 T s).1) 9999 (sgn T 45 (itK1 T s).2)
def itK (T : Int → Int) (H : HD) (s : Int × Int) : HD × Int × Int := (up2 (up2 (up2 H 1 (H 0 0) (itK1 T s).1) 2 (H 0 0) (itK2 T s).1) 0 0 (H 0 0 + 1), (itK2 T s).2)
def hasW (H : HD) (w : Int) : Prop := ∃ i, 0 ≤ i ∧ i < H 3 0 ∧ H 4 i = w
def itY1 (T : Int → Int) (s : Int × Int) : Int × Int × Int := nmS T 1 400 s
noncomputable def itY2 (T : Int → Int) (H : HD) (s : Int × Int) : Int × Int := @ite _ (hasW H (itY1 T s).1) (Classical.propDecidable _) (wlS (itY1 T s).2) (itY1 T s).2
noncomputable def itY3 (T : Int → Int) (H : HD) (s : Int × Int) : Int × Int × Int := nmS T 0 99 (sgn T 58 (itY2 T H s))
noncomputable def itY (T : Int → Int) (H : HD) (s : Int × Int) : HD × Int × Int := (up2 (up2 (up2 H 4 (H 3 0) (itY1 T s).1) 5 (H 3 0) (itY3 T H s).1) 3 0 (H 3 0 + 1), (itY3 T H s).2)
def itM1 (T : Int → Int) (s : Int × Int) : Int × Int × Int := nmS T 1 12 s
def itM2 (T : Int → Int) (s : Int × Int) : Int × Int × Int := nmS T 1 12 (sgn T 61 (itM1 T s).2)
def itM3 (T : Int → Int) (s : Int × Int) : Int × Int := if (itM2 T s).1 = (itM1 T s).1 then wlS (itM2 T s).2 else (itM2 T s).2
def itM4 (T : Int → Int) (s : Int × Int) : Int × Int × Int := nmS T 0 99 (sgn T 58 (itM3 T s))
def itM (T : Int → Int) (H : HD) (s : Int × Int) : HD × Int × Int := (up2 (up2 (up2 (up2 H 7 (H 6 0) (itM1 T s).1) 8 (H 6 0) (itM2 T s).1) 9 (H 6 0) (itM4 T s).1) 6 0 (H 6 0 + 1), (itM4 T s).2)
def itO (T : Int → Int) (H : HD) (s : Int × Int) : HD × Int × Int := (up2 H 10 (itM1 T s).1 1, if H 10 (itM1 T s).1 = 1 then wlS (itM1 T s).2 else (itM1 T s).2)
def itX (T : Int → Int) (H : HD) (k : Int) (s : Int × Int) : HD × Int × Int := (up2 H 11 k (nmS T 0 99 s).1, (nmS T 0 99 s).2)
theorem up2_i {H : HD} {a k v i : Int} : up2 H a k v a i = if i = k then v else H a i := by
  rw [up2_e]
  by_cases w : i = k
  · rw [if_pos ⟨rfl, w⟩, if_pos w]
  · rw [if_neg fun y => w y.2, if_neg w]
theorem itK_0 (T : Int → Int) (H : HD) (s : Int × Int) : (itK T H s).1 0 0 = H 0 0 + 1 := by
  show up2 (up2 (up2 H 1 (H 0 0) (itK1 T s).1) 2 (H 0 0) (itK2 T s).1) 0 0 (H 0 0 + 1) 0 0 = _
  rw [up2_s]
theorem itK_1 (T : Int → Int) (H : HD) (s : Int × Int) (j : Int) : (itK T H s).1 1 j = if j = H 0 0 then (itK1 T s).1 else H 1 j := by
  show up2 (up2 (up2 H 1 (H 0 0) (itK1 T s).1) 2 (H 0 0) (itK2 T s).1) 0 0 (H 0 0 + 1) 1 j = _
  rw [up2_n _ (Or.inl (by decide)), up2_n _ (Or.inl (by decide)), up2_i]
theorem itK_2 (T : Int → Int) (H : HD) (s : Int × Int) (j : Int) : (itK T H s).1 2 j = if j = H 0 0 then (itK2 T s).1 else H 2 j := by
  show up2 (up2 (up2 H 1 (H 0 0) (itK1 T s).1) 2 (H 0 0) (itK2 T s).1) 0 0 (H 0 0 + 1) 2 j = _
  rw [up2_n _ (Or.inl (by decide)), up2_i, up2_n _ (Or.inl (by decide))]
theorem itK_n (T : Int → Int) (H : HD) (s : Int × Int) {b : Int} (j : Int) (n0 : b ≠ 0) (n1 : b ≠ 1) (n2 : b ≠ 2) : (itK T H s).1 b j = H b j := by
  show up2 (up2 (up2 H 1 (H 0 0) (itK1 T s).1) 2 (H 0 0) (itK2 T s).1) 0 0 (H 0 0 + 1) b j = H b j
  rw [up2_n _ (Or.inl n0), up2_n _ (Or.inl n2), up2_n _ (Or.inl n1)]
theorem itY_0 (T : Int → Int) (H : HD) (s : Int × Int) : (itY T H s).1 3 0 = H 3 0 + 1 := by
  show up2 (up2 (up2 H 4 (H 3 0) (itY1 T s).1) 5 (H 3 0) (itY3 T H s).1) 3 0 (H 3 0 + 1) 3 0 = _
  rw [up2_s]
theorem itY_1 (T : Int → Int) (H : HD) (s : Int × Int) (j : Int) : (itY T H s).1 4 j = if j = H 3 0 then (itY1 T s).1 else H 4 j := by
  show up2 (up2 (up2 H 4 (H 3 0) (itY1 T s).1) 5 (H 3 0) (itY3 T H s).1) 3 0 (H 3 0 + 1) 4 j = _
  rw [up2_n _ (Or.inl (by decide)), up2_n _ (Or.inl (by decide)), up2_i]
theorem itY_2 (T : Int → Int) (H : HD) (s : Int × Int) (j : Int) : (itY T H s).1 5 j = if j = H 3 0 then (itY3 T H s).1 else H 5 j := by
  show up2 (up2 (up2 H 4 (H 3 0) (itY1 T s).1) 5 (H 3 0) (itY3 T H s).1) 3 0 (H 3 0 + 1) 5 j = _
  rw [up2_n _ (Or.inl (by decide)), up2_i, up2_n _ (Or.inl (by decide))]
theorem itY_n (T : Int → Int) (H : HD) (s : Int × Int) {b : Int} (j : Int) (n0 : b ≠ 3) (n1 : b ≠ 4) (n2 : b ≠ 5) : (itY T H s).1 b j = H b j := by
  show up2 (up2 (up2 H 4 (H 3 0) (itY1 T s).1) 5 (H 3 0) (itY3 T H s).1) 3 0 (H 3 0 + 1) b j = H b j
  rw [up2_n _ (Or.inl n0), up2_n _ (Or.inl n2), up2_n _ (Or.inl n1)]
theorem itM_0 (T : Int → Int) (H : HD) (s : Int × Int) : (itM T H s).1 6 0 = H 6 0 + 1 := by
  show up2 (up2 (up2 (up2 H 7 (H 6 0) (itM1 T s).1) 8 (H 6 0) (itM2 T s).1) 9 (H 6 0) (itM4 T s).1) 6 0 (H 6 0 + 1) 6 0 = _
  rw [up2_s]
theorem itM_1 (T : Int → Int) (H : HD) (s : Int × Int) (j : Int) : (itM T H s).1 7 j = if j = H 6 0 then (itM1 T s).1 else H 7 j := by
  show up2 (up2 (up2 (up2 H 7 (H 6 0) (itM1 T s).1) 8 (H 6 0) (itM2 T s).1) 9 (H 6 0) (itM4 T s).1) 6 0 (H 6 0 + 1) 7 j = _
  rw [up2_n _ (Or.inl (by decide)), up2_n _ (Or.inl (by decide)), up2_n _ (Or.inl (by decide)), up2_i]
theorem itM_2 (T : Int → Int) (H : HD) (s : Int × Int) (j : Int) : (itM T H s).1 8 j = if j = H 6 0 then (itM2 T s).1 else H 8 j := by
  show up2 (up2 (up2 (up2 H 7 (H 6 0) (itM1 T s).1) 8 (H 6 0) (itM2 T s).1) 9 (H 6 0) (itM4 T s).1) 6 0 (H 6 0 + 1) 8 j = _
  rw [up2_n _ (Or.inl (by decide)), up2_n _ (Or.inl (by decide)), up2_i, up2_n _ (Or.inl (by decide))]
theorem itM_3 (T : Int → Int) (H : HD) (s : Int × Int) (j : Int) : (itM T H s).1 9 j = if j = H 6 0 then (itM4 T s).1 else H 9 j := by
  show up2 (up2 (up2 (up2 H 7 (H 6 0) (itM1 T s).1) 8 (H 6 0) (itM2 T s).1) 9 (H 6 0) (itM4 T s).1) 6 0 (H 6 0 + 1) 9 j = _
  rw [up2_n _ (Or.inl (by decide)), up2_i, up2_n _ (Or.inl (by decide)), up2_n _ (Or.inl (by decide))]
theorem itM_n (T : Int → Int) (H : HD) (s : Int × Int) {b : Int} (j : Int) (n0 : b ≠ 6) (n1 : b ≠ 7) (n2 : b ≠ 8) (n3 : b ≠ 9) : (itM T H s).1 b j = H b j := by
  show up2 (up2 (up2 (up2 H 7 (H 6 0) (itM1 T s).1) 8 (H 6 0) (itM2 T s).1) 9 (H 6 0) (itM4 T s).1) 6 0 (H 6 0 + 1) b j = H b j
  rw [up2_n _ (Or.inl n0), up2_n _ (Or.inl n3), up2_n _ (Or.inl n2), up2_n _ (Or.inl n1)]
theorem itO_1 (T : Int → Int) (H : HD) (s : Int × Int) (j : Int) : (itO T H s).1 10 j = if j = (itM1 T s).1 then 1 else H 10 j := up2_i
theorem itO_n (T : Int → Int) (H : HD) (s : Int × Int) {b : Int} (j : Int) (n0 : b ≠ 10) : (itO T H s).1 b j = H b j := up2_n _ (Or.inl n0)
theorem itX_1 (T : Int → Int) (H : HD) (k : Int) (s : Int × Int) (j : Int) : (itX T H k s).1 11 j = if j = k then (nmS T 0 99 s).1 else H 11 j := up2_i
theorem itX_n (T : Int → Int) (H : HD) (k : Int) (s : Int × Int) {b : Int} (j : Int) (n0 : b ≠ 11) : (itX T H k s).1 b j = H b j := up2_n _ (Or.inl n0)
/-- one item, from an unbroken state on -/
noncomputable def itS (T : Int → Int) (H : HD) (s : Int × Int) : HD × Int × Int :=
  if T (sk T s.1) = 107 ∧ H 0 0 < 6 then itK T H (sk T s.1 + 1, -1) else
  if T (sk T s.1) = 121 ∧ H 3 0 < 6 then itY T H (sk T s.1 + 1, -1) else
  if T (sk T s.1) = 109 ∧ H 6 0 < 12 then itM T H (sk T s.1 + 1, -1) else
  if T (sk T s.1) = 111 then itO T H (sk T s.1 + 1, -1) else
  if T (sk T s.1) = 115 ∧ H 11 0 = -1 then itX T H 0 (sk T s.1 + 1, -1) else
  if T (sk T s.1) = 114 ∧ H 11 1 = -1 then itX T H 1 (sk T s.1 + 1, -1) else
  if T (sk T s.1) = 98 ∧ H 11 2 = -1 then itX T H 2 (sk T s.1 + 1, -1) else
  if T (sk T s.1) = 108 ∧ H 11 3 = -1 then itX T H 3 (sk T s.1 + 1, -1) else (H, sk T s.1, sk T s.1)
/-- items behind the first one -/
noncomputable def itsS (T : Int → Int) : Nat → HD → Int × Int → HD × Int × Int
  | 0, H, s => (H, s)
  | n + 1, H, s => if s.2 = -1 ∧ T (sk T s.1) = 44 then itsS T n (itS T H (sk T s.1 + 1, -1)).1 (itS T H (sk T s.1 + 1, -1)).2 else (H, s)
/-- what a head's data keep -/
def hdv (H : HD) : Prop := (0 ≤ H 0 0 ∧ H 0 0 ≤ 6) ∧ (0 ≤ H 3 0 ∧ H 3 0 ≤ 6) ∧ (0 ≤ H 6 0 ∧ H 6 0 ≤ 12) ∧ (∀ i, 0 ≤ i → i < H 0 0 → 1 ≤ H 1 i ∧ H 1 i ≤ H 2 i ∧ H 2 i ≤ 9999) ∧ (∀ i, 0 ≤ i → i < H 3 0 → 1 ≤ H 4 i ∧ H 4 i ≤ 400 ∧ 0 ≤ H 5 i ∧ H 5 i ≤ 99) ∧ (∀ i, 0 ≤ i → i < H 6 0 → 1 ≤ H 7 i ∧ H 7 i ≤ 12 ∧ 1 ≤ H 8 i ∧ H 8 i ≤ 12 ∧ H 7 i ≠ H 8 i ∧ 0 ≤ H 9 i ∧ H 9 i ≤ 99) ∧ (∀ m, H 10 m = 0 ∨ H 10 m = 1) ∧ ∀ k, -1 ≤ H 11 k ∧ H 11 k ≤ 99
theorem H00_v : hdv H00 := ⟨by decide, by decide, by decide, fun i i0 i1 => absurd i1 (by show ¬ i < (0 : Int); omega), fun i i0 i1 => absurd i1 (by show ¬ i < (0 : Int); omega), fun i i0 i1 => absurd i1 (by show ¬ i < (0 : Int); omega), fun _ => Or.inl rfl, fun _ => (by decide : (-1 : Int) ≤ -1 ∧ (-1 : Int) ≤ 99)⟩
theorem imax_b (a b : Int) : a ≤ imax a b ∧ b ≤ imax a b ∧ (imax a b = a ∨ imax a b = b) := by
  unfold imax
  split <;> omega
theorem nmS_adv {T : Int → Int} {n : Int} (hT : tpo T n) {s : Int × Int} (g : gs n s) {lo : Int} (hi : Int) (hlo : 0 ≤ lo ∧ lo ≤ 9999) (z : (nmS T lo hi s).2.2 = -1) : s.1 + 1 ≤ (nmS T lo hi s).2.1 := by
  have q := (nmS_b hT g hi hlo).2.2.2 z
  unfold nmS at z ⊢
  rw [if_pos q.1] at z ⊢
  have := ((nm_b hT (hi := hi) (g q.1).1 (g q.1).2 hlo).2.2.2.2.2.2 z).2.2.1
  omega
theorem sgn_adv {T : Int → Int} {n : Int} (hT : tpo T n) {s : Int × Int} (g : gs n s) {c : Int} (z : (sgn T c s).2 = -1) : s.1 ≤ (sgn T c s).1 := by
  have q := sgn_ok z (gs_sk hT g)
  obtain ⟨g1, g2⟩ := g q.1
  have sb := sk_b hT g1 g2
  have := hT.2.1
  unfold sgn
  rw [if_pos q.1, Z_wI (by omega)]
  show s.1 ≤ sk T s.1 + 1
  omega
/-- states of an item: in order; unbroken at its end only if all of it was right -/
theorem itK_v {T : Int → Int} {N : Int} (hT : tpo T N) {H : HD} (V : hdv H) {s : Int × Int} (g : gs N s) (hk : H 0 0 < 6) : gs N (itK T H s).2 ∧ ((itK T H s).2.2 = -1 → hdv (itK T H s).1 ∧ s.2 = -1 ∧ s.1 + 1 ≤ (itK T H s).2.1) := by
  have b1 := nmS_b hT g (lo := 1) 9999 (by omega)
  have g2 := sgn_g hT b1.1 (c := 45) (by decide)
  have im := imax_b 1 (itK1 T s).1
  have v9 : (itK1 T s).1 ≤ 9999 := b1.2.2.1
  have b3 := nmS_b hT g2 (lo := imax 1 (itK1 T s).1) 9999 (by omega)
  refine ⟨b3.1, fun z => ?_⟩
  obtain ⟨c1, c2, c3, _⟩ := b3.2.2.2 z
  have c4 := (sgn_ok c1 (gs_sk hT b1.1)).1
  obtain ⟨d1, d2, d3, _⟩ := b1.2.2.2 c4
  obtain ⟨V1, V2, V3, V4, V5, V6, V7, V8⟩ := V
  have e1 : 1 ≤ (itK1 T s).1 := d2
  have e2 : (itK1 T s).1 ≤ (itK2 T s).1 := by have : imax 1 (itK1 T s).1 ≤ (itK2 T s).1 := c2; omega
  have e3 : (itK2 T s).1 ≤ 9999 := c3
  refine ⟨?_, d1, ?_⟩
  · unfold hdv
    rw [itK_0, itK_n _ _ _ _ (by decide) (by decide) (by decide), itK_n _ _ _ _ (by decide) (by decide) (by decide)]
    refine ⟨by omega, V2, V3, fun i i0 i1 => ?_, fun i i0 i1 => ?_, fun i i0 i1 => ?_, fun m => ?_, fun k => ?_⟩
    · rw [itK_1, itK_2]
      by_cases w : i = H 0 0
      · rw [if_pos w, if_pos w]; exact ⟨e1, e2, e3⟩
      · rw [if_neg w, if_neg w]; exact V4 i i0 (by omega)
    · rw [itK_n _ _ _ _ (by decide) (by decide) (by decide), itK_n _ _ _ _ (by decide) (by decide) (by decide)]
      exact V5 i i0 i1
    · rw [itK_n _ _ _ (b := 7) _ (by decide) (by decide) (by decide), itK_n _ _ _ (b := 8) _ (by decide) (by decide) (by decide), itK_n _ _ _ (b := 9) _ (by decide) (by decide) (by decide)]
      exact V6 i i0 i1
    · rw [itK_n _ _ _ _ (by decide) (by decide) (by decide)]; exact V7 m
    · rw [itK_n _ _ _ _ (by decide) (by decide) (by decide)]; exact V8 k
  · have p1 := nmS_adv hT g (lo := 1) 9999 (by omega) c4
    have p2 := sgn_adv hT b1.1 c1
    have p3 := nmS_adv hT g2 (lo := imax 1 (itK1 T s).1) 9999 (by omega) z
    have q1 : (nmS T 1 9999 s).2.1 = (itK1 T s).2.1 := rfl
    show s.1 + 1 ≤ (itK2 T s).2.1
    have q2 : (sgn T 45 (itK1 T s).2).1 + 1 ≤ (itK2 T s).2.1 := p3
    have q3 : (itK1 T s).2.1 ≤ (sgn T 45 (itK1 T s).2).1 := p2
    omega
theorem itY2_ok {T : Int → Int} {N : Int} (hT : tpo T N) {H : HD} {s : Int × Int} (g : gs N s) : gs N (itY2 T H s) ∧ ((itY2 T H s).2 = -1 → ¬ hasW H (itY1 T s).1 ∧ itY2 T H s = (itY1 T s).2) := by
  have b1 := nmS_b hT g (lo := 1) 400 (by omega)
  have p1 := nmS_pos hT g (lo := 1) 400 (by omega)
  unfold itY2
  by_cases w : hasW H (itY1 T s).1
  · rw [if_pos w]
    have := wlS_g (s := (itY1 T s).2) b1.1 p1
    exact ⟨this.1, fun z => absurd z this.2⟩
  · rw [if_neg w]
    exact ⟨b1.1, fun _ => ⟨w, rfl⟩⟩
theorem itY_v {T : Int → Int} {N : Int} (hT : tpo T N) {H : HD} (V : hdv H) {s : Int × Int} (g : gs N s) (hk : H 3 0 < 6) : gs N (itY T H s).2 ∧ ((itY T H s).2.2 = -1 → hdv (itY T H s).1 ∧ s.2 = -1 ∧ s.1 + 1 ≤ (itY T H s).2.1) := by
  have b1 := nmS_b hT g (lo := 1) 400 (by omega)
  have o2 := itY2_ok hT (H := H) g
  have g2 := sgn_g hT o2.1 (c := 58) (by decide)
  have b3 := nmS_b hT g2 (lo := 0) 99 (by omega)
  refine ⟨b3.1, fun z => ?_⟩
  obtain ⟨c1, c2, c3, _⟩ := b3.2.2.2 z
  have c4 := (sgn_ok c1 (gs_sk hT o2.1)).1
  obtain ⟨w1, w2⟩ := o2.2 c4
  have c5 : (itY1 T s).2.2 = -1 := by rw [← w2]; exact c4
  obtain ⟨d1, d2, d3, _⟩ := b1.2.2.2 c5
  have e1 : 1 ≤ (itY1 T s).1 ∧ (itY1 T s).1 ≤ 400 := ⟨d2, d3⟩
  have e3 : 0 ≤ (itY3 T H s).1 ∧ (itY3 T H s).1 ≤ 99 := ⟨c2, c3⟩
  obtain ⟨V1, V2, V3, V4, V5, V6, V7, V8⟩ := V
  refine ⟨?_, d1, ?_⟩
  · unfold hdv
    rw [itY_0, itY_n _ _ _ (b := 0) _ (by decide) (by decide) (by decide), itY_n _ _ _ (b := 6) _ (by decide) (by decide) (by decide)]
    refine ⟨V1, by omega, V3, fun i i0 i1 => ?_, fun i i0 i1 => ?_, fun i i0 i1 => ?_, fun m => ?_, fun k => ?_⟩
    · rw [itY_n _ _ _ (b := 1) _ (by decide) (by decide) (by decide), itY_n _ _ _ (b := 2) _ (by decide) (by decide) (by decide)]
      exact V4 i i0 i1
    · rw [itY_1, itY_2]
      by_cases w : i = H 3 0
      · rw [if_pos w, if_pos w]; exact ⟨e1.1, e1.2, e3.1, e3.2⟩
      · rw [if_neg w, if_neg w]; exact V5 i i0 (by omega)
    · rw [itY_n _ _ _ (b := 7) _ (by decide) (by decide) (by decide), itY_n _ _ _ (b := 8) _ (by decide) (by decide) (by decide), itY_n _ _ _ (b := 9) _ (by decide) (by decide) (by decide)]
      exact V6 i i0 i1
    · rw [itY_n _ _ _ _ (by decide) (by decide) (by decide)]; exact V7 m
    · rw [itY_n _ _ _ _ (by decide) (by decide) (by decide)]; exact V8 k
  · have p1 := nmS_adv hT g (lo := 1) 400 (by omega) c5
    have p2 := sgn_adv hT o2.1 c1
    have p3 := nmS_adv hT g2 (lo := 0) 99 (by omega) z
    rw [w2] at p2
    have q1 : s.1 + 1 ≤ (itY1 T s).2.1 := p1
    have q2 : (sgn T 58 (itY2 T H s)).1 + 1 ≤ (itY3 T H s).2.1 := p3
    rw [w2] at q2
    show s.1 + 1 ≤ (itY3 T H s).2.1
    omega
theorem itM3_ok {T : Int → Int} {N : Int} (hT : tpo T N) {s : Int × Int} (g : gs N s) : gs N (itM1 T s).2 ∧ gs N (sgn T 61 (itM1 T s).2) ∧ gs N (itM2 T s).2 ∧ gs N (itM3 T s) ∧ ((itM3 T s).2 = -1 → (itM2 T s).1 ≠ (itM1 T s).1 ∧ itM3 T s = (itM2 T s).2) := by
  have b1 := nmS_b hT g (lo := 1) 12 (by omega)
  have g2 := sgn_g hT b1.1 (c := 61) (by decide)
  have b2 := nmS_b hT g2 (lo := 1) 12 (by omega)
  have p2 := nmS_pos hT g2 (lo := 1) 12 (by omega)
  refine ⟨b1.1, g2, b2.1, ?_⟩
  unfold itM3
  by_cases w : (itM2 T s).1 = (itM1 T s).1
  · rw [if_pos w]
    have := wlS_g (s := (itM2 T s).2) b2.1 p2
    exact ⟨this.1, fun z => absurd z this.2⟩
  · rw [if_neg w]
    exact ⟨b2.1, fun _ => ⟨w, rfl⟩⟩
theorem itM_v {T : Int → Int} {N : Int} (hT : tpo T N) {H : HD} (V : hdv H) {s : Int × Int} (g : gs N s) (hk : H 6 0 < 12) : gs N (itM T H s).2 ∧ ((itM T H s).2.2 = -1 → hdv (itM T H s).1 ∧ s.2 = -1 ∧ s.1 + 1 ≤ (itM T H s).2.1) := by
  obtain ⟨g1, g2, g3, g4, o4⟩ := itM3_ok hT g
  have b1 := nmS_b hT g (lo := 1) 12 (by omega)
  have b2 := nmS_b hT g2 (lo := 1) 12 (by omega)
  have g5 := sgn_g hT g4 (c := 58) (by decide)
  have b3 := nmS_b hT g5 (lo := 0) 99 (by omega)
  refine ⟨b3.1, fun z => ?_⟩
  obtain ⟨c1, c2, c3, _⟩ := b3.2.2.2 z
  have c4 := (sgn_ok c1 (gs_sk hT g4)).1
  obtain ⟨w1, w2⟩ := o4 c4
  have c5 : (itM2 T s).2.2 = -1 := by rw [← w2]; exact c4
  obtain ⟨d1, d2, d3, _⟩ := b2.2.2.2 c5
  have c6 := (sgn_ok d1 (gs_sk hT g1)).1
  obtain ⟨f1, f2, f3, _⟩ := b1.2.2.2 c6
  have e1 : 1 ≤ (itM1 T s).1 ∧ (itM1 T s).1 ≤ 12 := ⟨f2, f3⟩
  have e2 : 1 ≤ (itM2 T s).1 ∧ (itM2 T s).1 ≤ 12 := ⟨d2, d3⟩
  have e3 : 0 ≤ (itM4 T s).1 ∧ (itM4 T s).1 ≤ 99 := ⟨c2, c3⟩
  obtain ⟨V1, V2, V3, V4, V5, V6, V7, V8⟩ := V
  refine ⟨?_, f1, ?_⟩
  · unfold hdv
    rw [itM_0, itM_n _ _ _ (b := 0) _ (by decide) (by decide) (by decide) (by decide), itM_n _ _ _ (b := 3) _ (by decide) (by decide) (by decide) (by decide)]
    refine ⟨V1, V2, by omega, fun i i0 i1 => ?_, fun i i0 i1 => ?_, fun i i0 i1 => ?_, fun m => ?_, fun k => ?_⟩
    · rw [itM_n _ _ _ (b := 1) _ (by decide) (by decide) (by decide) (by decide), itM_n _ _ _ (b := 2) _ (by decide) (by decide) (by decide) (by decide)]
      exact V4 i i0 i1
    · rw [itM_n _ _ _ (b := 4) _ (by decide) (by decide) (by decide) (by decide), itM_n _ _ _ (b := 5) _ (by decide) (by decide) (by decide) (by decide)]
      exact V5 i i0 i1
    · rw [itM_1, itM_2, itM_3]
      by_cases w : i = H 6 0
      · rw [if_pos w, if_pos w, if_pos w]
        exact ⟨e1.1, e1.2, e2.1, e2.2, fun y => w1 y.symm, e3.1, e3.2⟩
      · rw [if_neg w, if_neg w, if_neg w]
        exact V6 i i0 (by omega)
    · rw [itM_n _ _ _ _ (by decide) (by decide) (by decide) (by decide)]; exact V7 m
    · rw [itM_n _ _ _ _ (by decide) (by decide) (by decide) (by decide)]; exact V8 k
  · have p1 := nmS_adv hT g (lo := 1) 12 (by omega) c6
    have p2 := sgn_adv hT g1 d1
    have p3 := nmS_adv hT g2 (lo := 1) 12 (by omega) c5
    have p4 := sgn_adv hT g4 c1
    have p5 := nmS_adv hT g5 (lo := 0) 99 (by omega) z
    rw [w2] at p4
    have q1 : s.1 + 1 ≤ (itM1 T s).2.1 := p1
    have q3 : (sgn T 61 (itM1 T s).2).1 + 1 ≤ (itM2 T s).2.1 := p3
    have q5 : (sgn T 58 (itM3 T s)).1 + 1 ≤ (itM4 T s).2.1 := p5
    rw [w2] at q5
    show s.1 + 1 ≤ (itM4 T s).2.1
    omega
theorem itO_v {T : Int → Int} {N : Int} (hT : tpo T N) {H : HD} (V : hdv H) {s : Int × Int} (g : gs N s) : gs N (itO T H s).2 ∧ ((itO T H s).2.2 = -1 → hdv (itO T H s).1 ∧ s.2 = -1 ∧ s.1 + 1 ≤ (itO T H s).2.1 ∧ H 10 (itM1 T s).1 = 0 ∧ (itM1 T s).2.2 = -1) := by
  have b1 := nmS_b hT g (lo := 1) 12 (by omega)
  have p1 := nmS_pos hT g (lo := 1) 12 (by omega)
  have V' := V
  obtain ⟨V1, V2, V3, V4, V5, V6, V7, V8⟩ := V
  unfold itO
  dsimp only
  by_cases w : H 10 (itM1 T s).1 = 1
  · rw [if_pos w]
    have := wlS_g (s := (itM1 T s).2) b1.1 p1
    exact ⟨this.1, fun z => absurd z this.2⟩
  · rw [if_neg w]
    refine ⟨b1.1, fun z => ⟨?_, (b1.2.2.2 z).1, nmS_adv hT g (lo := 1) 12 (by omega) z, ?_, z⟩⟩
    · have f : ∀ b j, b ≠ 10 → up2 H 10 (itM1 T s).1 1 b j = H b j := fun b j q1 => by rw [up2_n _ (Or.inl q1)]
      unfold hdv
      rw [f 0 0 (by decide), f 3 0 (by decide), f 6 0 (by decide)]
      refine ⟨V1, V2, V3, fun i i0 i1 => ?_, fun i i0 i1 => ?_, fun i i0 i1 => ?_, fun m => ?_, fun k => ?_⟩
      · rw [f 1 i (by decide), f 2 i (by decide)]; exact V4 i i0 i1
      · rw [f 4 i (by decide), f 5 i (by decide)]; exact V5 i i0 i1
      · rw [f 7 i (by decide), f 8 i (by decide), f 9 i (by decide)]; exact V6 i i0 i1
      · rw [up2_e]
        split
        · exact Or.inr rfl
        · exact V7 m
      · rw [f 11 k (by decide)]; exact V8 k
    · have := V7 (itM1 T s).1
      omega
theorem itX_v {T : Int → Int} {N : Int} (hT : tpo T N) {H : HD} (V : hdv H) {s : Int × Int} (g : gs N s) (k : Int) : gs N (itX T H k s).2 ∧ ((itX T H k s).2.2 = -1 → hdv (itX T H k s).1 ∧ s.2 = -1 ∧ s.1 + 1 ≤ (itX T H k s).2.1) := by
  have b1 := nmS_b hT g (lo := 0) 99 (by omega)
  obtain ⟨V1, V2, V3, V4, V5, V6, V7, V8⟩ := V
  unfold itX
  dsimp only
  refine ⟨b1.1, fun z => ⟨?_, (b1.2.2.2 z).1, nmS_adv hT g (lo := 0) 99 (by omega) z⟩⟩
  have f : ∀ b j, b ≠ 11 → up2 H 11 k (nmS T 0 99 s).1 b j = H b j := fun b j q1 => by rw [up2_n _ (Or.inl q1)]
  unfold hdv
  rw [f 0 0 (by decide), f 3 0 (by decide), f 6 0 (by decide)]
  refine ⟨V1, V2, V3, fun i i0 i1 => ?_, fun i i0 i1 => ?_, fun i i0 i1 => ?_, fun m => ?_, fun p => ?_⟩
  · rw [f 1 i (by decide), f 2 i (by decide)]; exact V4 i i0 i1
  · rw [f 4 i (by decide), f 5 i (by decide)]; exact V5 i i0 i1
  · rw [f 7 i (by decide), f 8 i (by decide), f 9 i (by decide)]; exact V6 i i0 i1
  · rw [f 10 m (by decide)]; exact V7 m
  · rw [up2_e]
    have := b1.2.2.2 z
    split
    · omega
    · exact V8 p
theorem itS_v {T : Int → Int} {N : Int} (hT : tpo T N) {H : HD} (V : hdv H) {s : Int × Int} (g : gs N s) (s0 : s.2 = -1) : gs N (itS T H s).2 ∧ ((itS T H s).2.2 = -1 → hdv (itS T H s).1 ∧ s.1 + 2 ≤ (itS T H s).2.1) := by
  obtain ⟨g1, g2⟩ := g s0
  have sb := sk_b hT g1 g2
  have gl : ∀ c : Int, T (sk T s.1) = c → c ≠ -1 → gs N (sk T s.1 + 1, -1) := fun c h hc => fun _ => by
    have := tp_lt hT (a := sk T s.1) (by omega)
    dsimp only
    omega
  unfold itS
  by_cases a1 : T (sk T s.1) = 107 ∧ H 0 0 < 6
  · rw [if_pos a1]
    have := itK_v hT V (gl 107 a1.1 (by decide)) a1.2
    exact ⟨this.1, fun z => ⟨(this.2 z).1, by have q := (this.2 z).2.2; dsimp only at q; omega⟩⟩
  · rw [if_neg a1]
    by_cases a2 : T (sk T s.1) = 121 ∧ H 3 0 < 6
    · rw [if_pos a2]
      have := itY_v hT V (gl 121 a2.1 (by decide)) a2.2
      exact ⟨this.1, fun z => ⟨(this.2 z).1, by have q := (this.2 z).2.2; dsimp only at q; omega⟩⟩
    · rw [if_neg a2]
      by_cases a3 : T (sk T s.1) = 109 ∧ H 6 0 < 12
      · rw [if_pos a3]
        have := itM_v hT V (gl 109 a3.1 (by decide)) a3.2
        exact ⟨this.1, fun z => ⟨(this.2 z).1, by have q := (this.2 z).2.2; dsimp only at q; omega⟩⟩
      · rw [if_neg a3]
        by_cases a4 : T (sk T s.1) = 111
        · rw [if_pos a4]
          have := itO_v hT V (gl 111 a4 (by decide))
          exact ⟨this.1, fun z => ⟨(this.2 z).1, by have q := (this.2 z).2.2.1; dsimp only at q; omega⟩⟩
        · rw [if_neg a4]
          have xs : ∀ (c k : Int), T (sk T s.1) = c → c ≠ -1 → gs N (itX T H k (sk T s.1 + 1, -1)).2 ∧ ((itX T H k (sk T s.1 + 1, -1)).2.2 = -1 → hdv (itX T H k (sk T s.1 + 1, -1)).1 ∧ s.1 + 2 ≤ (itX T H k (sk T s.1 + 1, -1)).2.1) := fun c k h hc => by
            have := itX_v hT V (gl c h hc) k
            exact ⟨this.1, fun z => ⟨(this.2 z).1, by have q := (this.2 z).2.2; dsimp only at q; omega⟩⟩
          by_cases a5 : T (sk T s.1) = 115 ∧ H 11 0 = -1
          · rw [if_pos a5]; exact xs 115 0 a5.1 (by decide)
          · rw [if_neg a5]
            by_cases a6 : T (sk T s.1) = 114 ∧ H 11 1 = -1
            · rw [if_pos a6]; exact xs 114 1 a6.1 (by decide)
            · rw [if_neg a6]
              by_cases a7 : T (sk T s.1) = 98 ∧ H 11 2 = -1
              · rw [if_pos a7]; exact xs 98 2 a7.1 (by decide)
              · rw [if_neg a7]
                by_cases a8 : T (sk T s.1) = 108 ∧ H 11 3 = -1
                · rw [if_pos a8]; exact xs 108 3 a8.1 (by decide)
                · rw [if_neg a8]
                  exact ⟨fun z => by dsimp only at z; omega, fun z => by dsimp only at z; omega⟩
