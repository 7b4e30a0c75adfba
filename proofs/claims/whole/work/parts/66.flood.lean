/-! THE PURE PART, the reference's flood of years: bounds from below, closed at the end -/
def gL (l : Int) : Int := if l = 1152921504606846976 then l else 100000 * (l / 16384) + l % 16384
theorem gL_F : gL 1152921504606846976 = 1152921504606846976 := if_pos rfl
theorem gL_n {l : Int} (h : l ≠ 1152921504606846976) : gL l = 100000 * (l / 16384) + l % 16384 := if_neg h
theorem gL_0 {l : Int} (h : 0 ≤ l) : 0 ≤ gL l := by
  unfold gL
  split <;> omega
def lbo (n lc : Int) (ov : Int → Int → Int) (ct lb : Int → Int) : Prop := (∀ u, 1 ≤ u → u < n → 0 ≤ lb u ∧ lb u ≤ 1152921504606846976 ∧ (lb u ≠ 1152921504606846976 → lb u % 16384 ≤ 9999 ∧ lb u / 16384 ≤ 989901)) ∧ ∀ a b c, 1 ≤ a → a < n → lb a ≠ 1152921504606846976 → edl lc ov ct a b c → lb b ≤ lb a + 16384 * c + 1
theorem rsp_lbo {n lc : Int} {ov : Int → Int → Int} {ct : Int → Int} {src : Int → Prop} {len nx en : Int → Int} (R : rsp n lc ov ct src len nx en) (n1 : n ≤ 10000) : lbo n lc ov ct len := ⟨fun u u0 u1 => ⟨(R.1 u u0 u1).1, (R.1 u u0 u1).2.1, fun q => by have := (R.1 u u0 u1).2.2 q; omega⟩, R.2.2.1⟩
theorem gL_step {a b c : Int} (a1 : 0 ≤ a ∧ a % 16384 ≤ 9999 ∧ a / 16384 ≤ 989901) (b1 : 0 ≤ b ∧ (b ≠ 1152921504606846976 → b % 16384 ≤ 9999)) (c1 : 0 ≤ c ∧ c ≤ 99) (h : b ≤ a + 16384 * c + 1) : gL b ≤ gL a + 100000 * c + 1 := by
  rw [gL_n (l := a) (by omega), gL_n (l := b) (by omega)]
  have := b1.2 (by omega)
  omega
/-! sums -/
def sm (f : Int → Int) : Nat → Int → Int
  | 0, _ => 0
  | n + 1, a => f a + sm f n (a + 1)
theorem sm_s (f : Int → Int) (n : Nat) (a : Int) : sm f (n + 1) a = f a + sm f n (a + 1) := rfl
theorem sm_0 {f : Int → Int} : ∀ (n : Nat) (a : Int), (∀ i, a ≤ i → i < a + n → 0 ≤ f i) → 0 ≤ sm f n a := by
  intro n
  induction n with
  | zero => intro a _; exact Int.le_refl _
  | succ n ih =>
    intro a h
    rw [sm_s]
    have h1 := h a (by omega) (by omega)
    have h2 := ih (a + 1) fun i i0 i1 => h i (by omega) (by omega)
    omega
theorem sm_le {f g : Int → Int} : ∀ (n : Nat) (a : Int), (∀ i, a ≤ i → i < a + n → f i ≤ g i) → sm f n a ≤ sm g n a := by
  intro n
  induction n with
  | zero => intro a _; exact Int.le_refl _
  | succ n ih =>
    intro a h
    rw [sm_s, sm_s]
    have h1 := h a (by omega) (by omega)
    have h2 := ih (a + 1) fun i i0 i1 => h i (by omega) (by omega)
    omega
theorem sm_lt {f g : Int → Int} {j : Int} (hj : f j + 1 ≤ g j) : ∀ (n : Nat) (a : Int), a ≤ j → j < a + n → (∀ i, a ≤ i → i < a + n → f i ≤ g i) → sm f n a + 1 ≤ sm g n a := by
  intro n
  induction n with
  | zero => intro a h0 h1 _; omega
  | succ n ih =>
    intro a h0 h1 h
    rw [sm_s, sm_s]
    by_cases q : a = j
    · have h2 := sm_le (f := f) (g := g) n (a + 1) fun i i0 i1 => h i (by omega) (by omega)
      rw [q] at h2 ⊢
      omega
    · have h1 := h a (by omega) (by omega)
      have h2 := ih (a + 1) (by omega) (by omega) fun i i0 i1 => h i (by omega) (by omega)
      omega
/-! the queue -/
def fq (h : mH) : Prop :=
  (0 ≤ h.M 9 34 ∧ h.M 9 34 ≤ 10000) ∧
  cn (fun y => h.M 36 y = 1) 9999 1 = h.M 9 35 ∧
  (∀ i, 0 ≤ i → i < h.M 9 35 → 1 ≤ h.M 35 ((h.M 9 34 + i) % 10001) ∧ h.M 35 ((h.M 9 34 + i) % 10001) ≤ 9999 ∧ h.M 36 (h.M 35 ((h.M 9 34 + i) % 10001)) = 1) ∧
  (∀ i j, 0 ≤ i → i < j → j < h.M 9 35 → h.M 35 ((h.M 9 34 + i) % 10001) ≠ h.M 35 ((h.M 9 34 + j) % 10001)) ∧
  ∀ y, 1 ≤ y → y ≤ 9999 → h.M 36 y = 0 ∨ h.M 36 y = 1
theorem fq_w {h : mH} (Q : fq h) : 0 ≤ h.M 9 35 ∧ h.M 9 35 ≤ 9999 := by
  have b := cn_b (fun y => h.M 36 y = 1) 9999 1
  have := Q.2.1
  omega
def psh (h : mH) (y : Int) : mH := ((h.set 36 y 1).set 35 ((h.M 9 34 + h.M 9 35) % 10001) y).set 9 35 (h.M 9 35 + 1)
theorem psh_M (h : mH) (y b k : Int) : (psh h y).M b k = if b = 9 ∧ k = 35 then h.M 9 35 + 1 else if b = 35 ∧ k = (h.M 9 34 + h.M 9 35) % 10001 then y else if b = 36 ∧ k = y then 1 else h.M b k := rfl
theorem R_push {h : mH} (L : lay h) {y : Int} (y0 : 0 ≤ y) (y1 : y ≤ 10000) (Q : fq h) : Cl kM_push [vO 11 9, vI y] h = some (none, if h.M 36 y = 0 then psh h y else h) := by
  obtain ⟨f0, f1⟩ := Q.1
  obtain ⟨w0, w1⟩ := fq_w Q
  rw [E_M_push, lm33 L, ln36 L, gd_t (by omega)]
  by_cases q : h.M 36 y = 0
  · have e34 : (h.set 36 y 1).M 9 34 = h.M 9 34 := Z_Mn (by omega)
    have e35 : (h.set 36 y 1).M 9 35 = h.M 9 35 := Z_Mn (by omega)
    have L1 : lay (h.set 36 y 1) := L.st _ (layA_n _ (by decide) (by decide))
    rw [if_pos q, if_pos q, gd_t (by omega), gd_t (by omega), Z_hl, gd_t (by omega), e34, e35, lm32 L1, ln35 L1, Z_wI (z := h.M 9 34 + h.M 9 35) (by omega), Z_tmod (by omega), gd_t (by omega), Z_hl, Z_hl, Z_Mn (by omega), e35, Z_wI (by omega)]
    rfl
  · rw [if_neg q, if_neg q]
theorem fq_push {h : mH} (Q : fq h) {y : Int} (y0 : 1 ≤ y) (y1 : y ≤ 9999) (z : h.M 36 y = 0) : fq (psh h y) := by
  obtain ⟨w0, w1⟩ := fq_w Q
  obtain ⟨⟨f0, f1⟩, q2, q3, q4, q5⟩ := Q
  have e34 : (psh h y).M 9 34 = h.M 9 34 := by rw [psh_M, if_neg (by omega), if_neg (by omega), if_neg (by omega)]
  have e35 : (psh h y).M 9 35 = h.M 9 35 + 1 := by rw [psh_M, if_pos ⟨rfl, rfl⟩]
  have e36 : ∀ k, (psh h y).M 36 k = if k = y then 1 else h.M 36 k := fun k => by
    rw [psh_M, if_neg (by omega), if_neg (by omega)]
    by_cases t : k = y
    · rw [if_pos ⟨rfl, t⟩, if_pos t]
    · rw [if_neg (by omega), if_neg t]
  have eq : ∀ i, 0 ≤ i → i < h.M 9 35 → (psh h y).M 35 ((h.M 9 34 + i) % 10001) = h.M 35 ((h.M 9 34 + i) % 10001) := fun i i0 i1 => by
    rw [psh_M, if_neg (by omega), if_neg (by omega), if_neg (by omega)]
  have el : (psh h y).M 35 ((h.M 9 34 + h.M 9 35) % 10001) = y := by rw [psh_M, if_neg (by omega), if_pos ⟨rfl, rfl⟩]
  have cw : cn (fun y' => (psh h y).M 36 y' = 1) 9999 1 = h.M 9 35 + 1 := by
    rw [← q2]
    exact cn_one (m := y) (by omega) (by rw [e36, if_pos rfl]) (fun i n => by rw [e36, if_neg n]) 9999 1 y0 (by omega)
  refine ⟨by rw [e34]; omega, by rw [e35]; exact cw, fun i i0 i1 => ?_, fun i j i0 ij j1 => ?_, fun k k0 k1 => ?_⟩
  · rw [e35] at i1
    rw [e34]
    by_cases t : i = h.M 9 35
    · rw [t, el, e36, if_pos rfl]
      omega
    · rw [eq i i0 (by omega), e36]
      have := q3 i i0 (by omega)
      refine ⟨this.1, this.2.1, ?_⟩
      split
      · rfl
      · exact this.2.2
  · rw [e35] at j1
    rw [e34, eq i i0 (by omega)]
    have h1 := q3 i i0 (by omega)
    by_cases t : j = h.M 9 35
    · rw [t, el]
      intro e
      rw [e] at h1
      omega
    · rw [eq j (by omega) (by omega)]
      exact q4 i j i0 ij (by omega)
  · rw [e36]
    split
    · exact Or.inr rfl
    · exact q5 k k0 k1
/-! the years' rows -/
def flu (h : mH) (p u : Int) : Int := h.M 33 (10001 * p + u)
def fvl (h : mH) (p : Int) (lb : Int → Int) : Prop := ∀ y, 1 ≤ y → y ≤ 9999 → gL (lb y) ≤ flu h p y ∧ flu h p y ≤ 1152921504606846976 ∧ 0 ≤ flu h p y ∧ (h.M 36 y = 1 → flu h p y ≠ 1152921504606846976)
def msr (h : mH) (p : Int) : Int := 20000 * sm (flu h p) 9999 1 + h.M 9 35
def WFl (p : Int) : Int → Int → Prop := fun b k => (b = 9 ∧ (k = 34 ∨ k = 35)) ∨ b = 35 ∨ b = 36 ∨ (b = 33 ∧ 10001 * p ≤ k ∧ k < 10001 * p + 10001)
theorem WFl_lay {p b k : Int} (w : WFl p b k) : layA b k = 0 := by
  rcases w with ⟨rfl, rfl | rfl⟩ | rfl | rfl | ⟨rfl, _⟩
  · rfl
  · rfl
  · exact layA_n _ (by decide) (by decide)
  · exact layA_n _ (by decide) (by decide)
  · exact layA_n _ (by decide) (by decide)
theorem psh_ew (h : mH) (y p : Int) : Ew (WFl p) h (psh h y) := ((Ew.st (W := WFl p) h _ (Or.inr (Or.inr (Or.inl rfl)))).tr (Ew.st _ _ (Or.inr (Or.inl rfl)))).tr (Ew.st _ _ (Or.inl ⟨rfl, Or.inr rfl⟩))
theorem R_touch {h : mH} (L : lay h) {p : Int} (p0 : 0 ≤ p) (p1 : p < 9) {lb : Int → Int} (Q : fq h) (V : fvl h p lb) {x y c : Int} (x0 : 1 ≤ x) (x1 : x ≤ 9999) (yb : -100000 ≤ y ∧ y ≤ 100000) (c0 : 0 ≤ c) (c1 : c ≤ 99) (nxy : y ≠ x) (hb : 1 ≤ y → y ≤ 9999 → gL (lb y) ≤ flu h p x + 100000 * c + 1) (sx : flu h p x ≠ 1152921504606846976) :
    ∃ h', Cl kM_touch [vO 11 9, vI p, vI x, vI y, vI c] h = some (none, h') ∧ Ew (WFl p) h h' ∧ fq h' ∧ fvl h' p lb ∧ (∀ u, 1 ≤ u → u ≤ 9999 → flu h' p u ≤ flu h p u ∧ (flu h' p u = flu h p u ∨ (u = y ∧ flu h' p u = flu h p x + 100000 * c + 1 ∧ h'.M 36 u = 1)) ∧ (h'.M 36 u ≠ 1 → h.M 36 u ≠ 1)) ∧ (1 ≤ y → y ≤ 9999 → flu h' p y ≤ flu h p x + 100000 * c + 1) ∧ flu h' p x = flu h p x ∧ msr h' p ≤ msr h p := by
  have vx := V x x0 x1
  rw [E_M_touch, R_in, Z_bI]
  by_cases q : 1 ≤ y ∧ y ≤ 9999
  · have vy := V y q.1 q.2
    have e1 : wI (wI (10001 * p) + x) = 10001 * p + x := by rw [Z_wI (z := 10001 * p) (by omega), Z_wI (by omega)]
    have e2 : wI (wI (10001 * p) + y) = 10001 * p + y := by rw [Z_wI (z := 10001 * p) (by omega), Z_wI (by omega)]
    have e3 : wL (wL (h.M 33 (10001 * p + x) + wL (100000 * c)) + 1) = flu h p x + 100000 * c + 1 := by
      unfold flu at vx ⊢
      rw [Z_wL (z := 100000 * c) (by omega), Z_wL (z := h.M 33 (10001 * p + x) + 100000 * c) (by omega), Z_wL (by omega)]
    rw [bz_t q, if_neg (by decide), lm30 L, e1, e2, ln33 L, gd_t (by omega), gd_t (by omega), e3, ifL]
    by_cases z : flu h p x + 100000 * c + 1 < h.M 33 (10001 * p + y)
    · have L1 : lay (h.set 33 (10001 * p + y) (flu h p x + 100000 * c + 1)) := L.st _ (layA_n _ (by decide) (by decide))
      have Q1 : fq (h.set 33 (10001 * p + y) (flu h p x + 100000 * c + 1)) := Q
      have x1' : Ew (WFl p) h (h.set 33 (10001 * p + y) (flu h p x + 100000 * c + 1)) := Ew.st h _ (Or.inr (Or.inr (Or.inr ⟨rfl, by omega, by omega⟩)))
      have fu : ∀ u, flu (h.set 33 (10001 * p + y) (flu h p x + 100000 * c + 1)) p u = if u = y then flu h p x + 100000 * c + 1 else flu h p u := fun u => by
        show (h.set 33 (10001 * p + y) (flu h p x + 100000 * c + 1)).M 33 (10001 * p + u) = _
        rw [Z_Ms]
        by_cases t : u = y
        · rw [if_pos t, if_pos ⟨rfl, by omega⟩]
        · rw [if_neg t, if_neg (by omega)]
          rfl
      have pe := R_push L1 (y := y) (by omega) (by omega) Q1
      rw [if_pos z, gd_t (by omega), Z_hl, pe, Z_bV]
      have g36 : ∀ u, (h.set 33 (10001 * p + y) (flu h p x + 100000 * c + 1)).M 36 u = h.M 36 u := fun u => Z_Mn (by omega)
      have yz : flu h p y = h.M 33 (10001 * p + y) := rfl
      have sl : sm (flu (h.set 33 (10001 * p + y) (flu h p x + 100000 * c + 1)) p) 9999 1 + 1 ≤ sm (flu h p) 9999 1 := sm_lt (j := y) (by rw [fu, if_pos rfl, yz]; omega) 9999 1 q.1 (by omega) fun i i0 i1 => by
        rw [fu]
        by_cases t : i = y
        · rw [if_pos t, t, yz]; omega
        · rw [if_neg t]; exact Int.le_refl _
      by_cases w : h.M 36 y = 0
      · rw [if_pos (by rw [g36]; exact w)]
        have fu2 : ∀ u, flu (psh (h.set 33 (10001 * p + y) (flu h p x + 100000 * c + 1)) y) p u = if u = y then flu h p x + 100000 * c + 1 else flu h p u := fun u => by
          rw [← fu u]
          show (psh (h.set 33 (10001 * p + y) (flu h p x + 100000 * c + 1)) y).M 33 _ = _
          rw [psh_M, if_neg (by omega), if_neg (by omega), if_neg (by omega)]
          rfl
        have w2 : ∀ u, (psh (h.set 33 (10001 * p + y) (flu h p x + 100000 * c + 1)) y).M 36 u = if u = y then 1 else h.M 36 u := fun u => by
          rw [psh_M, if_neg (by omega), if_neg (by omega)]
          by_cases t : u = y
          · rw [if_pos ⟨rfl, t⟩, if_pos t]
          · rw [if_neg (by omega), if_neg t]
            exact g36 u
        refine ⟨_, rfl, x1'.tr (psh_ew _ _ _), fq_push Q1 q.1 q.2 (by rw [g36]; exact w), fun u u0 u1 => ?_, fun u u0 u1 => ?_, fun _ _ => ?_, ?_, ?_⟩
        · rw [fu2, w2]
          by_cases t : u = y
          · rw [if_pos t, if_pos t, t]
            exact ⟨hb q.1 q.2, by omega, by omega, fun _ => by omega⟩
          · rw [if_neg t, if_neg t]
            exact V u u0 u1
        · rw [fu2, w2]
          by_cases t : u = y
          · rw [if_pos t, if_pos t, t, yz]
            exact ⟨by omega, Or.inr ⟨rfl, rfl, rfl⟩, fun e => absurd rfl e⟩
          · rw [if_neg t, if_neg t]
            exact ⟨Int.le_refl _, Or.inl rfl, fun e => e⟩
        · rw [fu2, if_pos rfl]; exact Int.le_refl _
        · rw [fu2, if_neg (by omega)]
        · have s2 : sm (flu (psh (h.set 33 (10001 * p + y) (flu h p x + 100000 * c + 1)) y) p) 9999 1 ≤ sm (flu (h.set 33 (10001 * p + y) (flu h p x + 100000 * c + 1)) p) 9999 1 := sm_le 9999 1 fun i _ _ => by rw [fu2, fu]; exact Int.le_refl _
          have e35 : (psh (h.set 33 (10001 * p + y) (flu h p x + 100000 * c + 1)) y).M 9 35 = h.M 9 35 + 1 := by
            rw [psh_M, if_pos ⟨rfl, rfl⟩]
            rfl
          unfold msr
          rw [e35]
          omega
      · rw [if_neg (by rw [g36]; exact w)]
        refine ⟨_, rfl, x1', Q1, fun u u0 u1 => ?_, fun u u0 u1 => ?_, fun _ _ => ?_, ?_, ?_⟩
        · rw [fu, g36]
          by_cases t : u = y
          · rw [if_pos t, t]
            exact ⟨hb q.1 q.2, by omega, by omega, fun _ => by omega⟩
          · rw [if_neg t]
            exact V u u0 u1
        · rw [fu, g36]
          by_cases t : u = y
          · rw [if_pos t, t, yz]
            have := Q.2.2.2.2 y q.1 q.2
            exact ⟨by omega, Or.inr ⟨rfl, rfl, by omega⟩, fun e => e⟩
          · rw [if_neg t]
            exact ⟨Int.le_refl _, Or.inl rfl, fun e => e⟩
        · rw [fu, if_pos rfl]; exact Int.le_refl _
        · rw [fu, if_neg (by omega)]
        · unfold msr
          have e35 : (h.set 33 (10001 * p + y) (flu h p x + 100000 * c + 1)).M 9 35 = h.M 9 35 := Z_Mn (by omega)
          rw [e35]
          omega
    · rw [if_neg z]
      exact ⟨h, rfl, Ew.rf _ _, Q, V, fun u u0 u1 => ⟨Int.le_refl _, Or.inl rfl, fun e => e⟩, fun _ _ => by show h.M 33 (10001 * p + y) ≤ _; omega, rfl, Int.le_refl _⟩
  · rw [bz_f q, if_pos rfl]
    exact ⟨h, rfl, Ew.rf _ _, Q, V, fun u u0 u1 => ⟨Int.le_refl _, Or.inl rfl, fun e => e⟩, fun h1 h2 => absurd ⟨h1, h2⟩ q, rfl, Int.le_refl _⟩
