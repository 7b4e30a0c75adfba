/-! THE PURE PART, a Stretch of the class: dates of days, dates of a month, its laying -/
theorem C_keyOn5 {h : mH} {q : Int} {C : CD} {i j : Int} (V : cdv j C) (i0 : 0 ≤ i) (i1 : i ≤ j) (j3 : j ≤ 3) (S : slo h q C i) (K : keyT (C.2.1 i) ≤ keyT (C.2.2.2 i)) {o : Int} (o0 : ordT (C.1 i) (C.2.1 i) ≤ o) (o1 : o ≤ ordT (C.1 i) (C.2.2.2 i)) : ∀ (w : Nat) (at' : Int), w ≤ 13 → 0 ≤ at' → at' ≤ (C.2.2.2 i).1 - h.M q 3 → yb (C.1 i) (h.M q 3 + at') ≤ o → (at' + 2 * 2 ^ w ≤ (C.2.2.2 i).1 - h.M q 3 + 1 → o < yb (C.1 i) (h.M q 3 + at' + 2 * 2 ^ w)) → ∃ y m d, dtl y m d ∧ inS C i y m d ∧ ord (C.1 i) y m d = o ∧ Rn kSh_keyOn 5 [vO 9 q, vI (C.2.2.1 i + o - ordT (C.1 i) (C.2.1 i)), vI at', vI (((2 ^ w : Nat) : Int))] [] h = some (some (vI (key y m d)), h) := by
  obtain ⟨v1, v2, v3, v4, v5, v6, v7⟩ := cdv_at V i0 i1 j3
  have bF := ord_b v1
  have cF := yb_b (C.1 i) v1.1
  have yF := ylen_b (C.1 i (C.2.1 i).1)
  have eF : ordT (C.1 i) (C.2.1 i) = ord (C.1 i) (C.2.1 i).1 (C.2.1 i).2.1 (C.2.1 i).2.2 := rfl
  have bL := ord_b v6
  have cL := yb_b (C.1 i) v6.1
  have yL := ylen_b (C.1 i (C.2.2.2 i).1)
  have eL : ordT (C.1 i) (C.2.2.2 i) = ord (C.1 i) (C.2.2.2 i).1 (C.2.2.2 i).2.1 (C.2.2.2 i).2.2 := rfl
  have S0 := S
  obtain ⟨⟨s1, s2, s3⟩, s4, s5, s6, s7, s8⟩ := S
  obtain ⟨_, n1, m1⟩ : keyT (C.2.1 i) ≤ keyT (C.2.2.2 i) ∧ h.N (h.M q 9) = (C.2.2.2 i).1 - h.M q 3 + 2 ∧ ∀ k, 0 ≤ k → k ≤ (C.2.2.2 i).1 - h.M q 3 + 1 → h.M (h.M q 9) k = C.2.2.1 i - ordT (C.1 i) (C.2.1 i) - 1 + yb (C.1 i) (h.M q 3 + k) := by
    rcases s8 with s8 | s8
    · exact s8
    · have := s8.1; omega
  -- one turn: a width w, to a place at2
  have fin : ∀ (at' : Int), 0 ≤ at' → at' ≤ (C.2.2.2 i).1 - h.M q 3 → yb (C.1 i) (h.M q 3 + at') ≤ o → o < yb (C.1 i) (h.M q 3 + at' + 1) → ∃ y m d, dtl y m d ∧ inS C i y m d ∧ ord (C.1 i) y m d = o ∧ Rn kSh_keyOn 5 [vO 9 q, vI (C.2.2.1 i + o - ordT (C.1 i) (C.2.1 i)), vI at', vI 0] [] h = some (some (vI (key y m d)), h) := by
    intro at' a0 a1 a2 a3
    have ys := yb_s (C.1 i) (y := h.M q 3 + at') (by omega)
    have yl := ylen_b (C.1 i (h.M q 3 + at'))
    have cy := yb_b (C.1 i) (y := h.M q 3 + at') (by omega)
    have mk := m1 at' a0 (by omega)
    obtain ⟨m, d, b1, b2, b3, b4, b5, b6⟩ := C_keyAt h (y := h.M q 3 + at') (l := C.1 i (h.M q 3 + at')) (p := o - yb (C.1 i) (h.M q 3 + at') + 1) (by omega) (by omega) (by omega) (by omega)
    have dd := dim_b (C.1 i (h.M q 3 + at')) m
    have vv : vd (C.1 i) (h.M q 3 + at') m d := ⟨by omega, b1, b2, b3, b4⟩
    have oo : ord (C.1 i) (h.M q 3 + at') m d = o := by unfold ord; omega
    have kF := (ord_mono v1 vv).mpr (by rw [oo]; exact o0)
    have kL := (ord_mono vv v6).mpr (by rw [oo]; exact o1)
    refine ⟨h.M q 3 + at', m, d, ⟨⟨by omega, by omega⟩, ⟨b1, b2⟩, b3, by omega⟩, ⟨kF, kL, b4⟩, oo, ?_⟩
    rw [E_Sh_keyOn_5, if_pos (by decide), C_isLeapAt S0 v5 K a0 a1 v7 ⟨v3, v4⟩ (by omega), Z_bI, n1, gd_t ⟨a0, by omega, s7⟩, mk, Z_wI (z := h.M q 3 + at') (by omega), Z_wI (by omega), show C.2.2.1 i + o - ordT (C.1 i) (C.2.1 i) - (C.2.2.1 i - ordT (C.1 i) (C.2.1 i) - 1 + yb (C.1 i) (h.M q 3 + at')) = o - yb (C.1 i) (h.M q 3 + at') + 1 by omega, b6, Z_bI]
  have turn : ∀ (w : Nat) (at' : Int), w ≤ 13 → 0 ≤ at' → at' ≤ (C.2.2.2 i).1 - h.M q 3 → yb (C.1 i) (h.M q 3 + at') ≤ o → (at' + 2 * 2 ^ w ≤ (C.2.2.2 i).1 - h.M q 3 + 1 → o < yb (C.1 i) (h.M q 3 + at' + 2 * 2 ^ w)) → ∃ at2, 0 ≤ at2 ∧ at2 ≤ (C.2.2.2 i).1 - h.M q 3 ∧ yb (C.1 i) (h.M q 3 + at2) ≤ o ∧ (at2 + 2 ^ w ≤ (C.2.2.2 i).1 - h.M q 3 + 1 → o < yb (C.1 i) (h.M q 3 + at2 + 2 ^ w)) ∧ Rn kSh_keyOn 5 [vO 9 q, vI (C.2.2.1 i + o - ordT (C.1 i) (C.2.1 i)), vI at', vI (((2 ^ w : Nat) : Int))] [] h = Rn kSh_keyOn 5 [vO 9 q, vI (C.2.2.1 i + o - ordT (C.1 i) (C.2.1 i)), vI at2, vI (((2 ^ w : Nat) : Int) / 2)] [] h := by
    intro w at' w13 a0 a1 a2 a3
    have p1 : (2 : Nat) ^ w ≤ 2 ^ 13 := Nat.pow_le_pow_right (by decide) w13
    have p0 : 0 < (2 : Nat) ^ w := Nat.pow_pos (by decide)
    have pe : ((2 : Int) ^ w) = ((2 ^ w : Nat) : Int) := by rw [Int.natCast_pow]; rfl
    rw [pe] at a3 ⊢
    obtain ⟨W, hW⟩ : ∃ W : Int, W = ((2 ^ w : Nat) : Int) := ⟨_, rfl⟩
    rw [← hW] at a3 ⊢
    have W1 : 1 ≤ W ∧ W ≤ 8192 := by
      have : (2 : Nat) ^ 13 = 8192 := by decide
      omega
    have sh : ishr W 1 = W / 2 := Z_shr (k := 1) (by decide) (by omega)
    by_cases q1 : at' + W ≤ (C.2.2.2 i).1 - h.M q 3 + 1
    · have mk := m1 (at' + W) (by omega) q1
      have cy := yb_b (C.1 i) (y := h.M q 3 + (at' + W)) (by omega)
      have st : Rn kSh_keyOn 5 [vO 9 q, vI (C.2.2.1 i + o - ordT (C.1 i) (C.2.1 i)), vI at', vI W] [] h = (if C.2.2.1 i - ordT (C.1 i) (C.2.1 i) - 1 + yb (C.1 i) (h.M q 3 + (at' + W)) < C.2.2.1 i + o - ordT (C.1 i) (C.2.1 i) then (Rn kSh_keyOn 5 [vO 9 q, vI (C.2.2.1 i + o - ordT (C.1 i) (C.2.1 i)), vI (at' + W), vI (W / 2)] [] h) else (Rn kSh_keyOn 5 [vO 9 q, vI (C.2.2.1 i + o - ordT (C.1 i) (C.2.1 i)), vI at', vI (W / 2)] [] h)) := by
        rw [E_Sh_keyOn_5, if_neg (by omega), gd_t s7, Z_wI (z := at' + W) (by omega), n1, if_pos (by omega), gd_t ⟨by omega, by omega, s7⟩, mk, sh]
      rw [st]
      by_cases q2 : yb (C.1 i) (h.M q 3 + (at' + W)) ≤ o
      · -- a greater place
        have lt : at' + W ≤ (C.2.2.2 i).1 - h.M q 3 := by
          rcases Int.lt_or_le ((C.2.2.2 i).1 - h.M q 3) (at' + W) with z | z
          · have e : h.M q 3 + (at' + W) = (C.2.2.2 i).1 + 1 := by omega
            rw [e, yb_s (C.1 i) v6.1] at q2
            omega
          · exact z
        refine ⟨at' + W, by omega, lt, q2, fun z => ?_, by rw [if_pos (by omega)]⟩
        have := a3 (by omega)
        rw [show h.M q 3 + (at' + W) + W = h.M q 3 + at' + 2 * W by omega]
        exact this
      · refine ⟨at', a0, a1, a2, fun z => ?_, by rw [if_neg (by omega)]⟩
        rw [show h.M q 3 + at' + W = h.M q 3 + (at' + W) by omega]
        omega
    · refine ⟨at', a0, a1, a2, fun z => absurd z q1, ?_⟩
      rw [E_Sh_keyOn_5, if_neg (by omega), gd_t s7, Z_wI (z := at' + W) (by omega), n1, if_neg (by omega), sh]
  intro w
  induction w with
  | zero =>
    intro at' w13 a0 a1 a2 a3
    obtain ⟨at2, c0, c1, c2, c3, c4⟩ := turn 0 at' w13 a0 a1 a2 a3
    have c3' : o < yb (C.1 i) (h.M q 3 + at2 + 1) := by
      by_cases z : at2 + 1 ≤ (C.2.2.2 i).1 - h.M q 3 + 1
      · exact c3 z
      · omega
    rw [c4]
    exact fin at2 c0 c1 c2 c3'
  | succ w ih =>
    intro at' w13 a0 a1 a2 a3
    obtain ⟨at2, c0, c1, c2, c3, c4⟩ := turn (w + 1) at' w13 a0 a1 a2 a3
    have e : ((2 ^ (w + 1) : Nat) : Int) / 2 = ((2 ^ w : Nat) : Int) := by
      rw [Nat.pow_succ]
      omega
    have e2 : (2 : Int) ^ (w + 1) = 2 * 2 ^ w := by rw [Int.pow_succ]; omega
    rw [c4, e]
    rw [e2] at c3
    exact ih at2 (by omega) c0 c1 c2 c3
theorem C_shKeyOn {h : mH} {q : Int} {C : CD} {i j : Int} (V : cdv j C) (i0 : 0 ≤ i) (i1 : i ≤ j) (j3 : j ≤ 3) (S : slo h q C i) (h8 : h.M q 8 = (if keyT (C.2.1 i) ≤ keyT (C.2.2.2 i) then C.2.2.1 i + ordT (C.1 i) (C.2.2.2 i) - ordT (C.1 i) (C.2.1 i) else C.2.2.1 i - 1)) (day : Int) : (∃ y m d, dtl y m d ∧ inS C i y m d ∧ dyS C i y m d = day ∧ Cl kSh_keyOn [vO 9 q, vI day] h = some (some (vI (key y m d)), h)) ∨ ((∀ y m d, dtl y m d → inS C i y m d → dyS C i y m d ≠ day) ∧ Cl kSh_keyOn [vO 9 q, vI day] h = some (some (vI (-1)), h)) := by
  obtain ⟨v1, v2, v3, v4, v5, v6, v7⟩ := cdv_at V i0 i1 j3
  have S0 := S
  obtain ⟨⟨s1, s2, s3⟩, s4, s5, s6, s7, s8⟩ := S
  have lim : ∀ y m d, dtl y m d → inS C i y m d → C.2.2.1 i ≤ dyS C i y m d ∧ dyS C i y m d ≤ h.M q 8 := by
    intro y m d T s
    obtain ⟨v, o⟩ := cdv_ord V i0 i1 T s
    have := (ord_mono v v6).mp s.2.1
    have eL : ordT (C.1 i) (C.2.2.2 i) = ord (C.1 i) (C.2.2.2 i).1 (C.2.2.2 i).2.1 (C.2.2.2 i).2.2 := rfl
    have : keyT (C.2.1 i) ≤ keyT (C.2.2.2 i) := by have := s.1; have := s.2.1; omega
    rw [h8, if_pos this]
    unfold dyS
    omega
  rw [E_Sh_keyOn, s6]
  by_cases q1 : day < C.2.2.1 i
  · right
    rw [if_pos q1]
    exact ⟨fun y m d T s e => by have := lim y m d T s; omega, rfl⟩
  · rw [if_neg q1]
    by_cases q2 : day ≤ h.M q 8
    · by_cases K : keyT (C.2.1 i) ≤ keyT (C.2.2.2 i)
      · left
        rw [h8, if_pos K] at q2
        obtain ⟨_, n1, m1⟩ : keyT (C.2.1 i) ≤ keyT (C.2.2.2 i) ∧ h.N (h.M q 9) = (C.2.2.2 i).1 - h.M q 3 + 2 ∧ ∀ k, 0 ≤ k → k ≤ (C.2.2.2 i).1 - h.M q 3 + 1 → h.M (h.M q 9) k = C.2.2.1 i - ordT (C.1 i) (C.2.1 i) - 1 + yb (C.1 i) (h.M q 3 + k) := by
          rcases s8 with s8 | s8
          · exact s8
          · have := s8.1; omega
        have k2 := keyT_y v1
        have k3 := keyT_y v6
        have bF := ord_b v1
        have eF : ordT (C.1 i) (C.2.1 i) = ord (C.1 i) (C.2.1 i).1 (C.2.1 i).2.1 (C.2.1 i).2.2 := rfl
        have yB := yb_d (C.1 i) (y := h.M q 3) (y' := (C.2.1 i).1) s1 s2
        obtain ⟨y, m, d, T, s, oo, e⟩ := C_keyOn5 V i0 i1 j3 S0 K (o := day - C.2.2.1 i + ordT (C.1 i) (C.2.1 i)) (by omega) (by omega) 13 0 (by omega) (by omega) (by omega) (by rw [Int.add_zero]; omega) (fun z => by
          exfalso
          have : (2 : Int) ^ 13 = 8192 := by decide
          omega)
        refine ⟨y, m, d, T, s, by unfold dyS; omega, ?_⟩
        rw [show C.2.2.1 i + (day - C.2.2.1 i + ordT (C.1 i) (C.2.1 i)) - ordT (C.1 i) (C.2.1 i) = day by omega] at e
        rw [h8, if_pos K, if_pos q2, gd_t s7, n1, if_neg (by omega)]
        exact e
      · rw [h8, if_neg K] at q2
        omega
    · right
      rw [if_neg q2]
      exact ⟨fun y m d T s e => by have := lim y m d T s; omega, rfl⟩
/-! counting -/
def imax (a b : Int) : Int := if a < b then b else a
theorem D_max (a b : Int) (h : mH) : Cl kJ_max [vI a, vI b] h = some (some (vI (imax a b)), h) := by
  rw [E_J_max]
  unfold imax
  split <;> rfl
noncomputable def cb (p : Prop) : Int := @ite _ p (Classical.propDecidable p) 1 0
theorem cb_t {p : Prop} (h : p) : cb p = 1 := if_pos h
theorem cb_f {p : Prop} (h : ¬ p) : cb p = 0 := if_neg h
theorem cb_01 (p : Prop) : cb p = 0 ∨ cb p = 1 := by
  by_cases h : p
  · exact Or.inr (cb_t h)
  · exact Or.inl (cb_f h)
/-- how many of a row of numbers have a property -/
noncomputable def cn (p : Int → Prop) : Nat → Int → Int
  | 0, _ => 0
  | n + 1, a => cb (p a) + cn p n (a + 1)
theorem cn_s (p : Int → Prop) (n : Nat) (a : Int) : cn p (n + 1) a = cb (p a) + cn p n (a + 1) := rfl
theorem cn_b (p : Int → Prop) : ∀ (n : Nat) (a : Int), 0 ≤ cn p n a ∧ cn p n a ≤ n := by
  intro n
  induction n with
  | zero => intro a; exact ⟨Int.le_refl _, Int.le_refl _⟩
  | succ n ih =>
    intro a
    have := ih (a + 1)
    rw [cn_s]
    rcases cb_01 (p a) with h | h <;> rw [h] <;> omega
theorem cn_cg {p q : Int → Prop} : ∀ (n : Nat) (a : Int), (∀ i, a ≤ i → i < a + n → (p i ↔ q i)) → cn p n a = cn q n a := by
  intro n
  induction n with
  | zero => intro a _; rfl
  | succ n ih =>
    intro a h
    have e : cb (p a) = cb (q a) := by
      have := h a (by omega) (by omega)
      by_cases w : p a
      · rw [cb_t w, cb_t (this.mp w)]
      · rw [cb_f w, cb_f fun z => w (this.mpr z)]
    rw [cn_s, cn_s, e, ih (a + 1) fun i h1 h2 => h i (by omega) (by omega)]
theorem cn_add {p q r : Int → Prop} : ∀ (n : Nat) (a : Int), (∀ i, a ≤ i → i < a + n → (r i ↔ (p i ∨ q i)) ∧ ¬ (p i ∧ q i)) → cn r n a = cn p n a + cn q n a := by
  intro n
  induction n with
  | zero => intro a _; rfl
  | succ n ih =>
    intro a h
    obtain ⟨h1, h2⟩ := h a (by omega) (by omega)
    rw [cn_s, cn_s, cn_s, ih (a + 1) fun i h3 h4 => h i (by omega) (by omega)]
    by_cases w : p a
    · have w2 : ¬ q a := fun z => h2 ⟨w, z⟩
      rw [cb_t w, cb_f w2, cb_t (h1.mpr (Or.inl w))]
      omega
    · by_cases w2 : q a
      · rw [cb_f w, cb_t w2, cb_t (h1.mpr (Or.inr w2))]
        omega
      · rw [cb_f w, cb_f w2, cb_f fun z => by rcases h1.mp z with y | y; exact w y; exact w2 y]
        omega
theorem cn_0 {p : Int → Prop} (n : Nat) (a : Int) (h : ∀ i, a ≤ i → i < a + n → ¬ p i) : cn p n a = 0 := by
  induction n generalizing a with
  | zero => rfl
  | succ n ih => rw [cn_s, cb_f (h a (by omega) (by omega)), ih (a + 1) fun i h1 h2 => h i (by omega) (by omega)]; rfl
/-- of a row of numbers those between two -/
theorem cn_iv (A B : Int) : ∀ (n : Nat) (a : Int), cn (fun i => A ≤ i ∧ i ≤ B) n a = imax (imin B (a + n - 1) - imax A a + 1) 0 := by
  intro n
  induction n with
  | zero =>
    intro a
    show (0 : Int) = _
    unfold imax imin
    repeat' split
    all_goals omega
  | succ n ih =>
    intro a
    rw [cn_s, ih (a + 1)]
    by_cases w : A ≤ a ∧ a ≤ B
    · rw [cb_t w]
      unfold imax imin
      repeat' split
      all_goals omega
    · rw [cb_f w]
      unfold imax imin
      repeat' split
      all_goals omega
theorem C_shDatesIn {h : mH} {q : Int} {C : CD} {i j : Int} (V : cdv j C) (i0 : 0 ≤ i) (i1 : i ≤ j) (j3 : j ≤ 3) (S : slo h q C i) {y m : Int} (y1 : 1 ≤ y) (y2 : y ≤ 9999) (m1 : 1 ≤ m) (m2 : m ≤ 12) : Cl kSh_datesIn [vO 9 q, vI y, vI m] h = some (some (vI (cn (fun d => inS C i y m d) 31 1)), h) := by
  obtain ⟨v1, v2, v3, v4, v5, v6, v7⟩ := cdv_at V i0 i1 j3
  have bF := ord_b v1
  have cF := yb_b (C.1 i) v1.1
  have yF := ylen_b (C.1 i (C.2.1 i).1)
  have eF : ordT (C.1 i) (C.2.1 i) = ord (C.1 i) (C.2.1 i).1 (C.2.1 i).2.1 (C.2.1 i).2.2 := rfl
  have S0 := S
  obtain ⟨⟨s1, s2, s3⟩, s4, s5, s6, s7, s8⟩ := S
  have k2 := keyT_y v1
  have k3 := keyT_y v6
  have none_ : (y < h.M q 3 ∨ (C.2.2.2 i).1 < y ∨ keyT (C.2.2.2 i) < keyT (C.2.1 i)) → cn (fun d => inS C i y m d) 31 1 = 0 := fun w => cn_0 31 1 fun d d1 d2 s => by
    have a := s.1
    have b := s.2.1
    unfold key at a b
    omega
  rw [E_Sh_datesIn, Z_wI (z := y - h.M q 3) (by omega)]
  by_cases q1 : y - h.M q 3 < 0
  · rw [if_pos q1, none_ (Or.inl (by omega))]
  · rw [if_neg q1, gd_t s7, Z_wI (z := y - h.M q 3 + 1) (by omega)]
    rcases s8 with ⟨K, n1, mk⟩ | ⟨K, n1⟩
    · rw [n1]
      by_cases q2 : y ≤ (C.2.2.2 i).1
      · have lp := C_isLeapAt S0 v5 K (k := y - h.M q 3) (by omega) (by omega) v7 ⟨v3, v4⟩ (by omega)
        rw [show h.M q 3 + (y - h.M q 3) = y by omega] at lp
        have dd := dim_b (C.1 i y) m
        rw [if_pos (by omega), C_keyOf h (by omega) (by omega) (by omega) (by omega) (by omega) (by omega), Z_bI, D_max, Z_bI, lp, Z_bI, C_monthLength _ h m1 m2, Z_bI, C_keyOf h (by omega) (by omega) (by omega) (by omega) (by omega) (by omega), Z_bI, D_min, Z_bI, s4, s5]
        have b1 : key y m 1 = 512 * y + 32 * m + 1 := rfl
        have b2 : key y m (dim (C.1 i y) m) = 512 * y + 32 * m + dim (C.1 i y) m := rfl
        have c1 : 0 ≤ imax (key y m 1) (keyT (C.2.1 i)) ∧ imax (key y m 1) (keyT (C.2.1 i)) < 10000000 := by unfold imax; split <;> omega
        have c2 : 0 ≤ imin (key y m (dim (C.1 i y) m)) (keyT (C.2.2.2 i)) ∧ imin (key y m (dim (C.1 i y) m)) (keyT (C.2.2.2 i)) < 10000000 := by unfold imin; split <;> omega
        rw [Z_wI (z := imin (key y m (dim (C.1 i y) m)) (keyT (C.2.2.2 i)) - imax (key y m 1) (keyT (C.2.1 i))) (by omega), Z_wI (by omega), D_max, Z_bI]
        have e : cn (fun d => inS C i y m d) 31 1 = cn (fun d => keyT (C.2.1 i) - (512 * y + 32 * m) ≤ d ∧ d ≤ imin (dim (C.1 i y) m) (keyT (C.2.2.2 i) - (512 * y + 32 * m))) 31 1 := cn_cg 31 1 fun d d1 d2 => by
          unfold inS imin key
          split <;> omega
        have e9 : imax (imin (512 * y + 32 * m + dim (C.1 i y) m) (keyT (C.2.2.2 i)) - imax (512 * y + 32 * m + 1) (keyT (C.2.1 i)) + 1) 0 = imax (imin (imin (dim (C.1 i y) m) (keyT (C.2.2.2 i) - (512 * y + 32 * m))) (1 + ((31 : Nat) : Int) - 1) - imax (keyT (C.2.1 i) - (512 * y + 32 * m)) 1 + 1) 0 := by
          unfold imax imin
          repeat' split
          all_goals omega
        rw [e, cn_iv, b1, b2, e9]
      · rw [if_neg (by omega), none_ (Or.inr (Or.inl (by omega)))]
    · rw [n1, if_neg (by omega), none_ (Or.inr (Or.inr K))]
