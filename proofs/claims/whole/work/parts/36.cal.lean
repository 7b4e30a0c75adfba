/-! THE PURE PART, calendars: numbers of days, dates, their order -/
def dim (l m : Int) : Int := if m = 2 then (if l = 0 then 28 else 29) else if m = 4 then 30 else if m = 6 then 30 else if m = 9 then 30 else if m = 11 then 30 else 31
def dbm (l m : Int) : Int := fzM 1 m + (if l = 0 then 0 else if m ≤ 2 then 0 else 1)
def ylen (l : Int) : Int := if l = 0 then 365 else 366
def key (y m d : Int) : Int := 512 * y + 32 * m + d
def cod (y m d : Int) : Int := 10000 * y + 100 * m + d
theorem m12 {m : Int} (h1 : 1 ≤ m) (h2 : m ≤ 12) : m = 1 ∨ m = 2 ∨ m = 3 ∨ m = 4 ∨ m = 5 ∨ m = 6 ∨ m = 7 ∨ m = 8 ∨ m = 9 ∨ m = 10 ∨ m = 11 ∨ m = 12 := by omega
theorem dim_b (l m : Int) : 28 ≤ dim l m ∧ dim l m ≤ 31 := by
  unfold dim
  repeat' split
  all_goals omega
theorem dbm_1 (l : Int) : dbm l 1 = 0 := by
  unfold dbm
  by_cases h : l = 0
  · rw [if_pos h]; rfl
  · rw [if_neg h]; rfl
theorem dbm_s (l : Int) {m : Int} (h1 : 1 ≤ m) (h2 : m < 12) : dbm l (m + 1) = dbm l m + dim l m := by
  have e : ∀ k : Int, 1 ≤ k → k < 12 → (∀ l : Int, l = 0 → dbm 0 (k + 1) = dbm 0 k + dim 0 k) ∧ dbm 1 (k + 1) = dbm 1 k + dim 1 k := by
    intro k k1 k2
    rcases m12 k1 (by omega) with q | q | q | q | q | q | q | q | q | q | q | q <;> subst q <;> first | exact ⟨fun _ _ => by decide, by decide⟩ | omega
  by_cases h : l = 0
  · subst h
    exact (e m h1 h2).1 0 rfl
  · have a : ∀ k, dbm l k = dbm 1 k := by
      intro k
      unfold dbm
      rw [if_neg h, if_neg (show ¬ (1 : Int) = 0 by decide)]
    have b : ∀ k, dim l k = dim 1 k := by
      intro k
      unfold dim
      rw [if_neg h, if_neg (show ¬ (1 : Int) = 0 by decide)]
    rw [a, a, b]
    exact (e m h1 h2).2
theorem dbm_12 (l : Int) : dbm l 12 + 31 = ylen l := by
  unfold dbm ylen
  by_cases h : l = 0
  · rw [if_pos h, if_pos h]; rfl
  · rw [if_neg h, if_neg h]; rfl
theorem dim_12 (l : Int) : dim l 12 = 31 := rfl
theorem dbm_lt (l : Int) : ∀ (n : Nat) (m : Int), 1 ≤ m → m + n + 1 ≤ 12 → dbm l m + dim l m ≤ dbm l (m + n + 1) := by
  intro n
  induction n with
  | zero => intro m h1 h2; rw [show m + ((0 : Nat) : Int) + 1 = m + 1 by omega, dbm_s l h1 (by omega)]; omega
  | succ n ih =>
    intro m h1 h2
    have a := ih m h1 (by omega)
    have b := dbm_s l (m := m + n + 1) (by omega) (by omega)
    have c := dim_b l (m + n + 1)
    rw [show m + ((n + 1 : Nat) : Int) + 1 = m + n + 1 + 1 by omega]
    omega
theorem dbm_le (l : Int) {m m' : Int} (h1 : 1 ≤ m) (h : m < m') (h2 : m' ≤ 12) : dbm l m + dim l m ≤ dbm l m' := by
  have := dbm_lt l (m' - m - 1).toNat m h1 (by omega)
  rw [show m + ((m' - m - 1).toNat : Int) + 1 = m' by omega] at this
  exact this
theorem dbm_0 (l : Int) {m : Int} (h1 : 1 ≤ m) (h2 : m ≤ 12) : 0 ≤ dbm l m ∧ dbm l m + dim l m ≤ ylen l := by
  constructor
  · rcases Int.lt_or_le 1 m with q | q
    · have := dbm_le l (m := 1) (m' := m) (by omega) q h2
      have := dim_b l 1
      rw [dbm_1] at *
      omega
    · rw [show m = 1 by omega, dbm_1]; omega
  · have e := dbm_12 l
    rcases Int.lt_or_le m 12 with q | q
    · have := dbm_le l h1 q (by omega)
      omega
    · rw [show m = 12 by omega, dim_12]; omega
theorem ylen_b (l : Int) : 365 ≤ ylen l ∧ ylen l ≤ 366 := by
  unfold ylen
  split <;> omega
/-- a place in a year is one month and day -/
theorem pl_inj (l : Int) {m d m' d' : Int} (a1 : 1 ≤ m) (a2 : m ≤ 12) (a3 : 1 ≤ d) (a4 : d ≤ dim l m) (b1 : 1 ≤ m') (b2 : m' ≤ 12) (b3 : 1 ≤ d') (b4 : d' ≤ dim l m') (e : dbm l m + d = dbm l m' + d') : m = m' ∧ d = d' := by
  rcases Int.lt_trichotomy m m' with q | q | q
  · have := dbm_le l a1 q b2; omega
  · subst q; omega
  · have := dbm_le l b1 q a2; omega
theorem pl_mono (l : Int) {m d m' d' : Int} (a1 : 1 ≤ m) (a2 : m ≤ 12) (a3 : 1 ≤ d) (a4 : d ≤ dim l m) (b1 : 1 ≤ m') (b2 : m' ≤ 12) (b3 : 1 ≤ d') (b4 : d' ≤ dim l m') : (32 * m + d ≤ 32 * m' + d') ↔ (dbm l m + d ≤ dbm l m' + d') := by
  have := dim_b l m
  have := dim_b l m'
  rcases Int.lt_trichotomy m m' with q | q | q
  · have := dbm_le l a1 q b2; omega
  · subst q; omega
  · have := dbm_le l b1 q a2; omega
def ybN (lp : Int → Int) : Nat → Int
  | 0 => 0
  | n + 1 => ybN lp n + ylen (lp ((n : Int) + 1))
/-- days ahead of a year -/
def yb (lp : Int → Int) (y : Int) : Int := ybN lp (y - 1).toNat
theorem yb_1 (lp : Int → Int) : yb lp 1 = 0 := rfl
theorem yb_s (lp : Int → Int) {y : Int} (h : 1 ≤ y) : yb lp (y + 1) = yb lp y + ylen (lp y) := by
  unfold yb
  rw [show (y + 1 - 1).toNat = (y - 1).toNat + 1 by omega]
  show ybN lp (y - 1).toNat + ylen (lp (((y - 1).toNat : Int) + 1)) = _
  rw [show (((y - 1).toNat : Int) + 1) = y by omega]
theorem yb_n (lp : Int → Int) : ∀ (n : Nat) (y : Int), 1 ≤ y → 365 * (n : Int) ≤ yb lp (y + n) - yb lp y ∧ yb lp (y + n) - yb lp y ≤ 366 * (n : Int) := by
  intro n
  induction n with
  | zero => intro y h; rw [show y + ((0 : Nat) : Int) = y by omega]; omega
  | succ n ih =>
    intro y h
    have a := ih y h
    have b := yb_s lp (y := y + n) (by omega)
    have c := ylen_b (lp (y + n))
    rw [show y + ((n + 1 : Nat) : Int) = y + n + 1 by omega]
    omega
theorem yb_d (lp : Int → Int) {y y' : Int} (h : 1 ≤ y) (h2 : y ≤ y') : 365 * (y' - y) ≤ yb lp y' - yb lp y ∧ yb lp y' - yb lp y ≤ 366 * (y' - y) := by
  have := yb_n lp (y' - y).toNat y h
  rw [show y + ((y' - y).toNat : Int) = y' by omega, show ((y' - y).toNat : Int) = y' - y by omega] at this
  exact this
theorem yb_b (lp : Int → Int) {y : Int} (h : 1 ≤ y) : 365 * (y - 1) ≤ yb lp y ∧ yb lp y ≤ 366 * (y - 1) := by
  have := yb_d lp (y := 1) (y' := y) (by omega) h
  rw [yb_1] at this
  omega
theorem yb_lt (lp : Int → Int) {y y' : Int} (h : 1 ≤ y) (h2 : y < y') : yb lp y + ylen (lp y) ≤ yb lp y' := by
  have := yb_d lp (y := y + 1) (y' := y') (by omega) (by omega)
  rw [yb_s lp h] at this
  omega
/-- a date's number from 1.1.1 on, by one row of leaps -/
def ord (lp : Int → Int) (y m d : Int) : Int := yb lp y + dbm (lp y) m + d - 1
def vd (lp : Int → Int) (y m d : Int) : Prop := 1 ≤ y ∧ 1 ≤ m ∧ m ≤ 12 ∧ 1 ≤ d ∧ d ≤ dim (lp y) m
theorem ord_b {lp : Int → Int} {y m d : Int} (v : vd lp y m d) : yb lp y ≤ ord lp y m d ∧ ord lp y m d < yb lp y + ylen (lp y) := by
  obtain ⟨a, b, c, e, f⟩ := v
  have := dbm_0 (lp y) b c
  unfold ord
  omega
theorem ord_mono {lp : Int → Int} {y m d y' m' d' : Int} (v : vd lp y m d) (w : vd lp y' m' d') : (key y m d ≤ key y' m' d') ↔ (ord lp y m d ≤ ord lp y' m' d') := by
  have a := ord_b v
  have b := ord_b w
  have q1 := dim_b (lp y) m
  have q2 := dim_b (lp y') m'
  obtain ⟨v1, v2, v3, v4, v5⟩ := v
  obtain ⟨w1, w2, w3, w4, w5⟩ := w
  unfold key
  rcases Int.lt_trichotomy y y' with q | q | q
  · have := yb_lt lp v1 q; omega
  · subst q
    have := pl_mono (lp y) v2 v3 v4 v5 w2 w3 w4 w5
    unfold ord
    omega
  · have := yb_lt lp w1 q; omega
theorem key_inj {y m d y' m' d' : Int} (a1 : 0 ≤ m) (a2 : m ≤ 15) (a3 : 0 ≤ d) (a4 : d ≤ 31) (b1 : 0 ≤ m') (b2 : m' ≤ 15) (b3 : 0 ≤ d') (b4 : d' ≤ 31) (e : key y m d = key y' m' d') : y = y' ∧ m = m' ∧ d = d' := by
  unfold key at e
  omega
theorem ord_inj {lp : Int → Int} {y m d y' m' d' : Int} (v : vd lp y m d) (w : vd lp y' m' d') (e : ord lp y m d = ord lp y' m' d') : y = y' ∧ m = m' ∧ d = d' := by
  have a := ord_mono v w
  have b := ord_mono w v
  have q1 := dim_b (lp y) m
  have q2 := dim_b (lp y') m'
  exact key_inj (by have := v.2.1; omega) (by have := v.2.2.1; omega) (by have := v.2.2.2.1; omega) (by have := v.2.2.2.2; omega) (by have := w.2.1; omega) (by have := w.2.2.1; omega) (by have := w.2.2.2.1; omega) (by have := w.2.2.2.2; omega) (by omega)
theorem cod_key {y m d y' m' d' : Int} (a1 : 0 ≤ m) (a2 : m ≤ 15) (a3 : 0 ≤ d) (a4 : d ≤ 31) (b1 : 0 ≤ m') (b2 : m' ≤ 15) (b3 : 0 ≤ d') (b4 : d' ≤ 31) : (cod y m d ≤ cod y' m' d') ↔ (key y m d ≤ key y' m' d') := by
  unfold cod key
  omega
theorem ord_step {lp : Int → Int} {o : Int} : ∀ (n : Nat) (y : Int), 1 ≤ y → yb lp y ≤ o → o < yb lp (y + n) → ∃ y', y ≤ y' ∧ y' < y + n ∧ yb lp y' ≤ o ∧ o < yb lp y' + ylen (lp y') := by
  intro n
  induction n with
  | zero => intro y h1 h2 h3; rw [show y + ((0 : Nat) : Int) = y by omega] at h3; omega
  | succ n ih =>
    intro y h1 h2 h3
    rcases Int.lt_or_le o (yb lp y + ylen (lp y)) with q | q
    · exact ⟨y, by omega, by omega, h2, q⟩
    · rw [← yb_s lp h1] at q
      obtain ⟨y', a, b, c, e⟩ := ih (y + 1) (by omega) q (by rw [show y + 1 + (n : Int) = y + ((n + 1 : Nat) : Int) by omega]; exact h3)
      exact ⟨y', by omega, by omega, c, e⟩
/-! the class's small methods on dates -/
theorem C_keyOf {y m d : Int} (h : mH) (y0 : 0 ≤ y) (y1 : y ≤ 100000) (m0 : 0 ≤ m) (m1 : m ≤ 15) (d0 : 0 ≤ d) (d1 : d ≤ 31) : Cl kX_keyOf [vI y, vI m, vI d] h = some (some (vI (key y m d)), h) := by
  rw [E_X_keyOf]
  have e1 : ishl y 9 = y * 512 := by
    have := Z_shl (k := 9) (by decide) y
    rw [show ((2 ^ 9 : Nat) : Int) = 512 from rfl, Z_wI (by omega)] at this
    exact this
  have e2 : ishl m 5 = m * 32 := by
    have := Z_shl (k := 5) (by decide) m
    rw [show ((2 ^ 5 : Nat) : Int) = 32 from rfl, Z_wI (by omega)] at this
    exact this
  have e3 : ior (y * 512) (m * 32) = y * 512 + m * 32 := by
    have := Z_orA (k := 9) (a := y) (b := m * 32) y0 (by omega) (by show _ < (512 : Int); omega) (by show y * 512 + m * 32 < (2147483648 : Int); omega)
    exact this
  have e4 : ior (y * 512 + m * 32) d = y * 512 + m * 32 + d := by
    have := Z_orA (k := 5) (a := y * 16 + m) (b := d) (by omega) (by omega) (by show _ < (32 : Int); omega) (by show (y * 16 + m) * 32 + d < (2147483648 : Int); omega)
    rw [show ((2 ^ 5 : Nat) : Int) = 32 from rfl, show (y * 16 + m) * 32 = y * 512 + m * 32 by omega] at this
    exact this
  rw [e1, e2, e3, e4]
  unfold key
  rw [show y * 512 + m * 32 + d = 512 * y + 32 * m + d by omega]
theorem C_yearOfKey {k : Int} (h : mH) (k0 : 0 ≤ k) (k1 : k < 2147483648) : Cl kX_yearOfKey [vI k] h = some (some (vI (k / 512)), h) := by
  have := Z_shr (k := 9) (x := k) (by decide) (by omega)
  rw [E_X_yearOfKey, show ishr k 9 = k / 512 from this]
theorem C_monthOfKey {k : Int} (h : mH) (k0 : 0 ≤ k) (k1 : k < 2147483648) : Cl kX_monthOfKey [vI k] h = some (some (vI (k / 32 % 16)), h) := by
  have := Z_shr (k := 5) (x := k) (by decide) (by omega)
  rw [E_X_monthOfKey, show ishr k 5 = k / 32 from this, Z_and15]
theorem C_dateOfKey (k : Int) (h : mH) : Cl kX_dateOfKey [vI k] h = some (some (vI (k % 32)), h) := by
  rw [E_X_dateOfKey, Z_and31]
theorem key_y {y m d : Int} (m0 : 0 ≤ m) (m1 : m ≤ 15) (d0 : 0 ≤ d) (d1 : d ≤ 31) : key y m d / 512 = y ∧ key y m d / 32 % 16 = m ∧ key y m d % 32 = d := by
  unfold key
  omega
theorem fzM_0 {m : Int} (m1 : 1 ≤ m) (m2 : m ≤ 12) : fzM 0 m = dim 0 m := by
  rcases m12 m1 m2 with q | q | q | q | q | q | q | q | q | q | q | q <;> subst q <;> decide
theorem C_monthLength (l : Int) {m : Int} (h : mH) (m1 : 1 ≤ m) (m2 : m ≤ 12) : Cl kX_monthLength [vI l, vI m] h = some (some (vI (dim l m)), h) := by
  rw [E_X_monthLength, if_neg (by omega), if_pos m2]
  by_cases q : l = 0
  · rw [if_pos q, gd_t (by omega), fzM_0 m1 m2, q]
  · rw [if_neg q]
    by_cases q2 : m = 2
    · rw [if_pos q2]
      unfold dim
      rw [if_pos q2, if_neg q]
    · rw [if_neg q2, gd_t (by omega), fzM_0 m1 m2]
      unfold dim
      rw [if_neg q2, if_neg q2]
theorem C_placeInYear (l : Int) {m d : Int} (h : mH) (m1 : 1 ≤ m) (m2 : m ≤ 12) (d1 : -1000 ≤ d) (d2 : d ≤ 1000) : Cl kX_placeInYear [vI l, vI m, vI d] h = some (some (vI (dbm l m + d)), h) := by
  have b : 0 ≤ fzM 1 m ∧ fzM 1 m ≤ 334 := by
    rcases m12 m1 m2 with q | q | q | q | q | q | q | q | q | q | q | q <;> subst q <;> decide
  rw [E_X_placeInYear, if_neg (by omega), if_pos m2, gd_t (by omega)]
  unfold dbm
  by_cases q : l = 0
  · rw [if_pos q, if_pos q, Z_wI (z := fzM 1 m + 0) (by omega), Z_wI (by omega)]
  · rw [if_neg q, if_neg q]
    by_cases q2 : m ≤ 2
    · rw [if_pos q2, if_pos q2, Z_wI (z := fzM 1 m + 0) (by omega), Z_wI (by omega)]
    · rw [if_neg q2, if_neg q2, Z_wI (z := fzM 1 m + 1) (by omega), Z_wI (by omega)]
theorem C_yearLength (l : Int) (h : mH) : Cl kX_yearLength [vI l] h = some (some (vI (ylen l)), h) := by
  rw [E_X_yearLength]
  unfold ylen
  split <;> rfl
theorem C_keyAt1 {y : Int} (l : Int) (h : mH) (u : mV) (y0 : 0 ≤ y) (y1 : y ≤ 100000) {p : Int} (p2 : p ≤ ylen l) : ∀ (n : Nat) (m x : Int), m + n = 12 → 1 ≤ m → 1 ≤ x → dbm l m + x = p → ∃ m' d', 1 ≤ m' ∧ m' ≤ 12 ∧ 1 ≤ d' ∧ d' ≤ dim l m' ∧ dbm l m' + d' = p ∧ Rn kX_keyAt 1 [vI y, vI l, u, vI m, vI x] [] h = some (some (vI (key y m' d')), h) := by
  intro n
  induction n with
  | zero =>
    intro m x e m1 x1 hp
    have q : m = 12 := by omega
    subst q
    have := dbm_12 l
    refine ⟨12, x, by omega, by omega, x1, by rw [dim_12]; omega, hp, ?_⟩
    rw [E_X_keyAt_1, if_neg (by omega), C_keyOf h y0 y1 (by omega) (by omega) (by omega) (by omega), Z_bI]
  | succ n ih =>
    intro m x e m1 x1 hp
    have b := dim_b l m
    have c := dbm_0 l m1 (by omega)
    have yl := ylen_b l
    rw [E_X_keyAt_1, if_pos (by omega), C_monthLength l h m1 (by omega), Z_bI]
    by_cases q : x ≤ dim l m
    · refine ⟨m, x, m1, by omega, x1, q, hp, ?_⟩
      rw [if_pos q, C_keyOf h y0 y1 (by omega) (by omega) (by omega) (by omega), Z_bI]
    · rw [if_neg q, C_monthLength l h m1 (by omega), Z_bI, Z_wI (by omega), Z_wI (by omega)]
      exact ih (m + 1) (x - dim l m) (by omega) (by omega) (by omega) (by rw [dbm_s l m1 (by omega)]; omega)
theorem C_keyAt {y l p : Int} (h : mH) (y0 : 0 ≤ y) (y1 : y ≤ 100000) (p1 : 1 ≤ p) (p2 : p ≤ ylen l) : ∃ m' d', 1 ≤ m' ∧ m' ≤ 12 ∧ 1 ≤ d' ∧ d' ≤ dim l m' ∧ dbm l m' + d' = p ∧ Cl kX_keyAt [vI y, vI l, vI p] h = some (some (vI (key y m' d')), h) := by
  rw [E_X_keyAt]
  exact C_keyAt1 l h (vI p) y0 y1 p2 11 1 p (by omega) (by omega) p1 (by rw [dbm_1]; omega)
