/-! THE PURE PART, the reference's calendars: leaps, ordinals, dates -/
def lpk (b i : Int → Int) : Nat → Int → Int
  | 0, _ => 0
  | k + 1, y => if 0 < b (k : Int) ∧ y % b (k : Int) = 0 then i (k : Int) else lpk b i k y
theorem lpk_s (b i : Int → Int) (k : Nat) (y : Int) : lpk b i (k + 1) y = if 0 < b (k : Int) ∧ y % b (k : Int) = 0 then i (k : Int) else lpk b i k y := rfl
theorem lpk_cg {b i b' i' : Int → Int} : ∀ (k : Nat) (y : Int), (∀ j : Int, 0 ≤ j → j < k → b j = b' j ∧ i j = i' j) → lpk b i k y = lpk b' i' k y := by
  intro k
  induction k with
  | zero => intro y _; rfl
  | succ k ih =>
    intro y e
    obtain ⟨e1, e2⟩ := e k (by omega) (by omega)
    rw [lpk_s, lpk_s, e1, e2, ih y fun j h1 h2 => e j h1 (by omega)]
theorem lpk_01 {b i : Int → Int} : ∀ (k : Nat) (y : Int), (∀ j : Int, 0 ≤ j → j < k → i j = 0 ∨ i j = 1) → lpk b i k y = 0 ∨ lpk b i k y = 1 := by
  intro k
  induction k with
  | zero => intro y _; exact Or.inl rfl
  | succ k ih =>
    intro y e
    rw [lpk_s]
    split
    · exact e k (by omega) (by omega)
    · exact ih y fun j h1 h2 => e j h1 (by omega)
/-- the reference's slot s holds these leaps -/
def mlr (h : mH) (s : Int) (lp : Int → Int) : Prop := 0 ≤ h.M 13 s ∧ h.M 13 s ≤ 8 ∧ (∀ i, 0 ≤ i → i < h.M 13 s → 1 ≤ h.M 14 (8 * s + i) ∧ h.M 14 (8 * s + i) ≤ 9999 ∧ (h.M 15 (8 * s + i) = 0 ∨ h.M 15 (8 * s + i) = 1)) ∧ ∀ y, lp y = lpk (fun i => h.M 14 (8 * s + i)) (fun i => h.M 15 (8 * s + i)) (h.M 13 s).toNat y
def mbf (h : mH) (s : Int) (lp : Int → Int) : Prop := ∀ y, 1 ≤ y → y ≤ 10000 → h.M 19 (10001 * s + y) = yb lp y
theorem mlr.cg {h h1 : mH} {s : Int} {lp : Int → Int} (R : mlr h s lp) (e : ∀ b k, (b = 13 ∧ k = s) ∨ ((b = 14 ∨ b = 15) ∧ 8 * s ≤ k ∧ k < 8 * s + 8) → h1.M b k = h.M b k) : mlr h1 s lp := by
  obtain ⟨a, b, c, d⟩ := R
  have e0 := e 13 s (Or.inl ⟨rfl, rfl⟩)
  have e1 : ∀ i, 0 ≤ i → i < h.M 13 s → h1.M 14 (8 * s + i) = h.M 14 (8 * s + i) := fun i i1 i2 => e 14 _ (Or.inr ⟨Or.inl rfl, by omega, by omega⟩)
  have e2 : ∀ i, 0 ≤ i → i < h.M 13 s → h1.M 15 (8 * s + i) = h.M 15 (8 * s + i) := fun i i1 i2 => e 15 _ (Or.inr ⟨Or.inr rfl, by omega, by omega⟩)
  unfold mlr
  rw [e0]
  refine ⟨a, b, fun i i1 i2 => by rw [e1 i i1 i2, e2 i i1 i2]; exact c i i1 i2, fun y => ?_⟩
  rw [d y]
  exact lpk_cg _ _ fun j j1 j2 => ⟨(e1 j j1 (by omega)).symm, (e2 j j1 (by omega)).symm⟩
theorem mlr.ew {W : Int → Int → Prop} {h h1 : mH} {s : Int} {lp : Int → Int} (R : mlr h s lp) (x : Ew W h h1) (hw : ∀ b k, (b = 13 ∧ k = s) ∨ ((b = 14 ∨ b = 15) ∧ 8 * s ≤ k ∧ k < 8 * s + 8) → ¬ W b k) : mlr h1 s lp := R.cg fun b k q => x.2 b k (hw b k q)
theorem mlr.r01 {h : mH} {s : Int} {lp : Int → Int} (R : mlr h s lp) (y : Int) : lp y = 0 ∨ lp y = 1 := by
  rw [R.2.2.2 y]
  exact lpk_01 _ _ fun j j1 j2 => (R.2.2.1 j j1 (by have := R.1; omega)).2.2
theorem mbf.ew {W : Int → Int → Prop} {h h1 : mH} {s : Int} {lp : Int → Int} (R : mbf h s lp) (x : Ew W h h1) (hw : ∀ k, 10001 * s ≤ k → k < 10001 * s + 10001 → ¬ W 19 k) : mbf h1 s lp := fun y h0 h2 => (x.2 19 _ (hw _ (by omega) (by omega))).trans (R y h0 h2)
theorem R_isLeap1 {h : mH} (L : lay h) {s : Int} (s0 : 0 ≤ s) (s1 : s < 28) {lp : Int → Int} (R : mlr h s lp) {y : Int} (y0 : 0 ≤ y) : ∀ (n k : Nat), (k : Int) + n = h.M 13 s → Rn kM_isLeap 1 [vO 11 9, vI s, vI y, vI (lpk (fun i => h.M 14 (8 * s + i)) (fun i => h.M 15 (8 * s + i)) k y), vI (k : Int)] [] h = some (some (vI (lp y)), h) := by
  obtain ⟨a, b, c, d⟩ := R
  intro n
  induction n with
  | zero =>
    intro k e
    have q : lpk (fun i => h.M 14 (8 * s + i)) (fun i => h.M 15 (8 * s + i)) k y = lp y := by
      rw [d y, show (h.M 13 s).toNat = k by omega]
    rw [E_M_isLeap_1, lm7 L, ln13 L, gd_t (by omega), if_neg (by omega), q, gd_t (mlr.r01 ⟨a, b, c, d⟩ y)]
  | succ n ih =>
    intro k e
    obtain ⟨c1, c2, c3⟩ := c k (by omega) (by omega)
    rw [E_M_isLeap_1, lm7 L, ln13 L, gd_t (by omega), if_pos (by omega), lm8 L, ln14 L, Z_wI (z := 8 * s) (by omega), Z_wI (z := 8 * s + k) (by omega), gd_t (by omega), gd_t (by omega), Z_tmod y0, lm9 L, ln15 L, Z_wI (by omega)]
    have := ih (k + 1) (by omega)
    rw [lpk_s] at this
    by_cases q : y % h.M 14 (8 * s + k) = 0
    · rw [if_pos ⟨by omega, q⟩] at this
      rw [if_pos q, gd_t (by omega)]
      exact this
    · rw [if_neg (fun z => q z.2)] at this
      rw [if_neg q]
      exact this
theorem R_isLeap {h : mH} (L : lay h) {s : Int} (s0 : 0 ≤ s) (s1 : s < 28) {lp : Int → Int} (R : mlr h s lp) {y : Int} (y0 : 0 ≤ y) : Cl kM_isLeap [vO 11 9, vI s, vI y] h = some (some (vI (lp y)), h) := by
  rw [E_M_isLeap]
  exact R_isLeap1 L s0 s1 R y0 (h.M 13 s).toNat 0 (by have := R.1; omega)
theorem R_daysOf {h : mH} (L : lay h) {s : Int} (s0 : 0 ≤ s) (s1 : s < 28) {lp : Int → Int} (R : mlr h s lp) {y : Int} (y0 : 0 ≤ y) (m : Int) : Cl kM_daysOf [vO 11 9, vI s, vI y, vI m] h = some (some (vI (dim (lp y) m)), h) := by
  rw [E_M_daysOf]
  unfold dim
  by_cases q : m = 2
  · rw [if_pos q, if_pos q, R_isLeap L s0 s1 R y0, Z_bI]
    split <;> rfl
  · rw [if_neg q, if_neg q]
    repeat' split
    all_goals rfl
theorem R_code {y m d : Int} (h : mH) (y0 : 0 ≤ y) (y1 : y ≤ 100000) (m0 : 0 ≤ m) (m1 : m ≤ 10000) (d0 : 0 ≤ d) (d1 : d ≤ 10000) : Cl kM_code [vI y, vI m, vI d] h = some (some (vI (cod y m d)), h) := by
  rw [E_M_code, Z_wI (z := 10000 * y) (by omega), Z_wI (z := 100 * m) (by omega), Z_wI (z := 10000 * y + 100 * m) (by omega), Z_wI (by omega)]
  rfl
theorem R_ordinal1 {h : mH} (L : lay h) {s : Int} (s0 : 0 ≤ s) (s1 : s < 28) {lp : Int → Int} (R : mlr h s lp) {y m : Int} (y0 : 0 ≤ y) (m2 : m ≤ 12) (u : mV) {c : Int} (c0 : 0 ≤ c) (c1 : c ≤ 100000000) : ∀ (n : Nat) (k : Int), k + n = m → 1 ≤ k → Rn kM_ordinal 1 [vO 11 9, vI s, u, vI y, vI m, vI (c + dbm (lp y) k), vI k] [] h = some (some (vI (c + dbm (lp y) m)), h) := by
  intro n
  induction n with
  | zero => intro k e k1; rw [E_M_ordinal_1, if_neg (by omega), show k = m by omega]
  | succ n ih =>
    intro k e k1
    have a := dbm_0 (lp y) (m := k) k1 (by omega)
    have b := dim_b (lp y) k
    have yl := ylen_b (lp y)
    rw [E_M_ordinal_1, if_pos (by omega), R_daysOf L s0 s1 R y0, Z_bI, Z_wI (z := k + 1) (by omega), Z_wI (by omega), Int.add_assoc, ← dbm_s (lp y) k1 (by omega)]
    exact ih (k + 1) (by omega) (by omega)
theorem R_ordinal {h : mH} (L : lay h) {s : Int} (s0 : 0 ≤ s) (s1 : s < 28) {lp : Int → Int} (R : mlr h s lp) (F : mbf h s lp) {y m d : Int} (y1 : 1 ≤ y) (y2 : y ≤ 10000) (m1 : 1 ≤ m) (m2 : m ≤ 12) (d1 : 1 ≤ d) (d2 : d ≤ 31) : Cl kM_ordinal [vO 11 9, vI s, vI (cod y m d)] h = some (some (vI (ord lp y m d)), h) := by
  have b := yb_b lp y1
  have e1 : cod y m d / 10000 = y := by unfold cod; omega
  have e2 : cod y m d / 100 % 100 = m := by unfold cod; omega
  have e3 : cod y m d % 100 = d := by unfold cod; omega
  have e0 : 0 ≤ cod y m d ∧ cod y m d < 2000000000 := by unfold cod; omega
  rw [E_M_ordinal, gd_t (by decide), gd_t (by decide), gd_t (by decide), Z_tdiv (by omega), Z_tdiv (by omega), Z_tmod (a := cod y m d) (by omega), e1, e3, Z_wI (z := y) (by omega), Z_wI (z := cod y m d / 100) (by omega), Z_tmod (by omega), e2, lm13 L, ln19 L, Z_wI (z := 10001 * s) (by omega), Z_wI (z := 10001 * s + y) (by omega), gd_t (by omega), gd_t (by decide), F y y1 y2, Z_wI (z := yb lp y + d) (by omega), Z_wI (by omega)]
  have := R_ordinal1 L s0 s1 R (y := y) (by omega) m2 (vI (cod y m d)) (c := yb lp y + d - 1) (by omega) (by omega) (m - 1).toNat 1 (by omega) (by omega)
  rw [dbm_1, Int.add_zero] at this
  rw [this]
  unfold ord
  rw [show yb lp y + d - 1 + dbm (lp y) m = yb lp y + dbm (lp y) m + d - 1 by omega]
theorem R_dated7 {h : mH} (L : lay h) {s : Int} (s0 : 0 ≤ s) (s1 : s < 28) {lp : Int → Int} (R : mlr h s lp) {y : Int} (y1 : 1 ≤ y) (y2 : y ≤ 10000) (u u' : mV) {p : Int} (p2 : p < ylen (lp y)) : ∀ (n : Nat) (m x : Int), m + n = 12 → 1 ≤ m → 0 ≤ x → dbm (lp y) m + x = p → ∃ m' d', 1 ≤ m' ∧ m' ≤ 12 ∧ 1 ≤ d' ∧ d' ≤ dim (lp y) m' ∧ dbm (lp y) m' + d' = p + 1 ∧ Rn kM_dated 7 [vO 11 9, vI s, u, vI y, u', vI x, vI m] [] h = some (some (vI (cod y m' d')), h) := by
  intro n
  induction n with
  | zero =>
    intro m x e m1 x1 hp
    have q : m = 12 := by omega
    subst q
    have := dbm_12 (lp y)
    refine ⟨12, x + 1, by omega, by omega, by omega, by rw [dim_12]; omega, by omega, ?_⟩
    rw [E_M_dated_7, if_neg (by omega), Z_wI (by omega), R_code h (by omega) (by omega) (by omega) (by omega) (by omega) (by omega), Z_bI]
  | succ n ih =>
    intro m x e m1 x1 hp
    have b := dim_b (lp y) m
    have c := dbm_0 (lp y) m1 (by omega)
    have yl := ylen_b (lp y)
    rw [E_M_dated_7, if_pos (by omega), R_daysOf L s0 s1 R (by omega), Z_bI]
    by_cases q : x < dim (lp y) m
    · refine ⟨m, x + 1, m1, by omega, by omega, by omega, by omega, ?_⟩
      rw [if_pos q, Z_wI (by omega), R_code h (by omega) (by omega) (by omega) (by omega) (by omega) (by omega), Z_bI]
    · rw [if_neg q, R_daysOf L s0 s1 R (by omega), Z_bI, Z_wI (by omega), Z_wI (by omega)]
      exact ih (m + 1) (x - dim (lp y) m) (by omega) (by omega) (by omega) (by rw [dbm_s (lp y) m1 (by omega)]; omega)
theorem R_dated1 {h : mH} (L : lay h) {s : Int} (s0 : 0 ≤ s) (s1 : s < 28) {lp : Int → Int} (R : mlr h s lp) (F : mbf h s lp) {o : Int} (o1 : o < 4000000) : ∀ (n : Nat) (lo hi : Int) (u u' : mV), hi - lo ≤ n → 1 ≤ lo → lo ≤ hi → hi ≤ 10000 → yb lp lo ≤ o → o < yb lp (hi + 1) → ∃ y m d, vd lp y m d ∧ y ≤ 10000 ∧ ord lp y m d = o ∧ Rn kM_dated 1 [vO 11 9, vI s, vI o, vI lo, vI hi, u, u'] [] h = some (some (vI (cod y m d)), h) := by
  have fin : ∀ (lo : Int) (u u' : mV), 1 ≤ lo → lo ≤ 10000 → yb lp lo ≤ o → o < yb lp (lo + 1) → ∃ y m d, vd lp y m d ∧ y ≤ 10000 ∧ ord lp y m d = o ∧ Rn kM_dated 1 [vO 11 9, vI s, vI o, vI lo, vI lo, u, u'] [] h = some (some (vI (cod y m d)), h) := by
    intro lo u u' l1 l2 h1 h2
    have b := yb_b lp l1
    rw [yb_s lp l1] at h2
    have yl := ylen_b (lp lo)
    obtain ⟨m, d, a1, a2, a3, a4, a5, a6⟩ := R_dated7 L s0 s1 R l1 l2 (vI o) (vI lo) (p := o - yb lp lo) (by omega) 11 1 (o - yb lp lo) (by omega) (by omega) (by omega) (by rw [dbm_1]; omega)
    refine ⟨lo, m, d, ⟨l1, a1, a2, a3, a4⟩, l2, by unfold ord; omega, ?_⟩
    rw [E_M_dated_1, if_neg (by omega), lm13 L, ln19 L, Z_wI (z := 10001 * s) (by omega), Z_wI (z := 10001 * s + lo) (by omega), gd_t (by omega), F lo l1 l2, Z_wI (by omega)]
    exact a6
  intro n
  induction n with
  | zero =>
    intro lo hi u u' e l1 l2 l3 h1 h2
    have q : hi = lo := by omega
    subst q
    exact fin hi u u' l1 l3 h1 h2
  | succ n ih =>
    intro lo hi u u' e l1 l2 l3 h1 h2
    by_cases q : lo < hi
    · rw [E_M_dated_1, if_pos q, gd_t (by decide), Z_wI (z := lo + hi) (by omega), Z_wI (z := lo + hi + 1) (by omega), Z_tdiv (by omega), Z_wI (z := (lo + hi + 1) / 2) (by omega), lm13 L, ln19 L, Z_wI (z := 10001 * s) (by omega), Z_wI (z := 10001 * s + (lo + hi + 1) / 2) (by omega), gd_t (by omega), F _ (by omega) (by omega)]
      by_cases q2 : yb lp ((lo + hi + 1) / 2) ≤ o
      · rw [if_pos q2]
        exact ih ((lo + hi + 1) / 2) hi _ _ (by omega) (by omega) (by omega) l3 q2 h2
      · rw [if_neg q2, Z_wI (by omega)]
        exact ih lo ((lo + hi + 1) / 2 - 1) _ _ (by omega) (by omega) (by omega) (by omega) h1 (by rw [show (lo + hi + 1) / 2 - 1 + 1 = (lo + hi + 1) / 2 by omega]; omega)
    · have q : hi = lo := by omega
      subst q
      exact fin hi u u' l1 l3 h1 h2
theorem R_dated {h : mH} (L : lay h) {s : Int} (s0 : 0 ≤ s) (s1 : s < 28) {lp : Int → Int} (R : mlr h s lp) (F : mbf h s lp) {o : Int} (o0 : 0 ≤ o) (o2 : o < yb lp 10001) : ∃ y m d, vd lp y m d ∧ y ≤ 10000 ∧ ord lp y m d = o ∧ Cl kM_dated [vO 11 9, vI s, vI o] h = some (some (vI (cod y m d)), h) := by
  rw [E_M_dated]
  have := yb_b lp (y := 10001) (by omega)
  exact R_dated1 L s0 s1 R F (by omega) 9999 1 10000 _ _ (by omega) (by omega) (by omega) (by omega) (by rw [yb_1]; exact o0) o2
def WB (s : Int) : Int → Int → Prop := fun b k => b = 19 ∧ 10001 * s ≤ k ∧ k < 10001 * s + 10001
theorem R_layOut1 {s : Int} (s0 : 0 ≤ s) (s1 : s < 28) {lp : Int → Int} : ∀ (n : Nat) (y : Int) (h : mH), lay h → mlr h s lp → y + n = 10001 → 1 ≤ y → ∃ h', Rn kM_layOut 1 [vO 11 9, vI s, vI (yb lp y), vI y] [] h = some (none, h') ∧ Ew (WB s) h h' ∧ (∀ j, y ≤ j → j ≤ 10000 → h'.M 19 (10001 * s + j) = yb lp j) ∧ ∀ j, j < 10001 * s + y → h'.M 19 j = h.M 19 j := by
  intro n
  induction n with
  | zero =>
    intro y h L R e y1
    refine ⟨h, by rw [E_M_layOut_1, if_neg (by omega)], Ew.rf _ _, fun j j1 j2 => by omega, fun j _ => rfl⟩
  | succ n ih =>
    intro y h L R e y1
    have b := yb_b lp y1
    have x : Ew (WB s) h (h.set 19 (10001 * s + y) (yb lp y)) := Ew.st h _ ⟨rfl, by omega, by omega⟩
    have L1 : lay (h.set 19 (10001 * s + y) (yb lp y)) := L.st _ (layA_n _ (by decide) (by decide))
    have R1 : mlr (h.set 19 (10001 * s + y) (yb lp y)) s lp := R.ew x fun b k q w => by have := w.1; omega
    have st : ∀ l : Int, (if l = 0 then Rn kM_layOut 1 [vO 11 9, vI s, vI (wI (yb lp y + 365)), vI (y + 1)] [] (h.set 19 (10001 * s + y) (yb lp y)) else Rn kM_layOut 1 [vO 11 9, vI s, vI (wI (yb lp y + 366)), vI (y + 1)] [] (h.set 19 (10001 * s + y) (yb lp y))) = Rn kM_layOut 1 [vO 11 9, vI s, vI (yb lp y + ylen l), vI (y + 1)] [] (h.set 19 (10001 * s + y) (yb lp y)) := by
      intro l
      unfold ylen
      by_cases q : l = 0
      · rw [if_pos q, if_pos q, Z_wI (by omega)]
      · rw [if_neg q, if_neg q, Z_wI (by omega)]
    obtain ⟨h', e1, x1, m1, m2⟩ := ih (y + 1) _ L1 R1 (by omega) (by omega)
    refine ⟨h', ?_, x.tr x1, fun j j1 j2 => ?_, fun j j1 => ?_⟩
    · rw [E_M_layOut_1, if_pos (by omega), lm13 L, ln19 L, Z_wI (z := 10001 * s) (by omega), Z_wI (z := 10001 * s + y) (by omega), gd_t (by omega), Z_hl, R_isLeap L1 s0 s1 R1 (by omega), Z_bI, Z_wI (z := y + 1) (by omega), st, ← yb_s lp y1]
      exact e1
    · rcases Int.lt_or_le y j with q | q
      · exact m1 j (by omega) j2
      · rw [m2 _ (by omega), show j = y by omega, Z_Mt]
    · rw [m2 _ (by omega), Z_Mn (by omega)]
theorem R_layOut {s : Int} (s0 : 0 ≤ s) (s1 : s < 28) {lp : Int → Int} {h : mH} (L : lay h) (R : mlr h s lp) : ∃ h', Cl kM_layOut [vO 11 9, vI s] h = some (none, h') ∧ Ew (WB s) h h' ∧ mbf h' s lp := by
  obtain ⟨h', e1, x1, m1, _⟩ := R_layOut1 s0 s1 10000 1 h L R (by omega) (by omega)
  refine ⟨h', ?_, x1, fun j j1 j2 => m1 j j1 j2⟩
  rw [E_M_layOut]
  rw [yb_1] at e1
  exact e1
