/-! THE PURE PART, the reference's reading, exact -/
theorem mH_ext {h h' : mH} (e : h.2 = h'.2) (m : ∀ b k, h.M b k = h'.M b k) : h = h' := Prod.ext (funext fun b => funext fun k => m b k) e
theorem set_same (h : mH) (a k : Int) : h.set a k (h.M a k) = h := mH_ext rfl fun b j => by
  rw [Z_Ms]
  split
  · rename_i q; rw [q.1, q.2]
  · rfl
theorem set_set (h : mH) (a k v w : Int) : (h.set a k v).set a k w = h.set a k w := mH_ext rfl fun b j => by
  rw [Z_Ms, Z_Ms, Z_Ms]
  split <;> rfl
theorem set_comm (h : mH) {a k a' k' : Int} (v w : Int) (hn : a ≠ a' ∨ k ≠ k') : (h.set a k v).set a' k' w = (h.set a' k' w).set a k v := mH_ext rfl fun b j => by
  rw [Z_Ms, Z_Ms, Z_Ms, Z_Ms]
  by_cases q : b = a ∧ j = k
  · rw [if_pos q, if_neg (by omega), if_pos q]
  · rw [if_neg q, if_neg q]
def bz (p : Prop) [Decidable p] : Int := if p then 1 else 0
theorem bz_t {p : Prop} [Decidable p] (h : p) : bz p = 1 := if_pos h
theorem bz_f {p : Prop} [Decidable p] (h : ¬ p) : bz p = 0 := if_neg h
theorem bz_01 (p : Prop) [Decidable p] : bz p = 0 ∨ bz p = 1 := by
  unfold bz
  split
  · exact Or.inr rfl
  · exact Or.inl rfl
theorem bz_z (p : Prop) [Decidable p] : (bz p = 0) = ¬ p := by
  unfold bz
  apply propext
  split
  · exact ⟨fun q => absurd q (by decide), fun q => absurd (by assumption) q⟩
  · exact ⟨fun _ => by assumption, fun _ => rfl⟩
theorem bz_o (p : Prop) [Decidable p] : (bz p = 1) = p := by
  unfold bz
  apply propext
  split
  · exact ⟨fun _ => by assumption, fun _ => rfl⟩
  · exact ⟨fun q => absurd q (by decide), fun q => absurd q (by assumption)⟩
theorem R_in (v lo hi : Int) (h : mH) : Cl kM_in [vI v, vI lo, vI hi] h = some (some (vI (bz (lo ≤ v ∧ v ≤ hi))), h) := by
  rw [E_M_in]
  by_cases q : v < lo
  · rw [if_pos q, gd_t (Or.inl rfl), bz_f (by omega)]
  · rw [if_neg q]
    by_cases q2 : v ≤ hi
    · rw [if_pos q2, gd_t (Or.inr rfl), bz_t (by omega)]
    · rw [if_neg q2, gd_t (Or.inl rfl), bz_f (by omega)]
theorem R_isDigit (v : Int) (h : mH) : Cl kM_isDigit [vI v] h = some (some (vI (bz (48 ≤ v ∧ v ≤ 57))), h) := by
  rw [E_M_isDigit]
  by_cases q : v < 48
  · rw [if_pos q, gd_t (Or.inl rfl), bz_f (by omega)]
  · rw [if_neg q]
    by_cases q2 : v ≤ 57
    · rw [if_pos q2, gd_t (Or.inr rfl), bz_t (by omega)]
    · rw [if_neg q2, gd_t (Or.inl rfl), bz_f (by omega)]
def mtp (h : mH) (T : Int → Int) (n : Int) : Prop := lay h ∧ h.M 9 2 = n ∧ ∀ i, 0 ≤ i → i < n → h.M 10 i = T i
def pst (h : mH) (a w : Int) : mH := (h.set 9 3 a).set 9 4 w
theorem pst_M (h : mH) (a w b k : Int) : (pst h a w).M b k = if b = 9 ∧ k = 4 then w else if b = 9 ∧ k = 3 then a else h.M b k := rfl
theorem pst_3 (h : mH) (a w : Int) : (pst h a w).M 9 3 = a := rfl
theorem pst_4 (h : mH) (a w : Int) : (pst h a w).M 9 4 = w := rfl
theorem pst_n (h : mH) (a w : Int) {b k : Int} (q : b ≠ 9 ∨ (k ≠ 3 ∧ k ≠ 4)) : (pst h a w).M b k = h.M b k := by rw [pst_M, if_neg (by omega), if_neg (by omega)]
theorem pst_N (h : mH) (a w : Int) : (pst h a w).N = h.N := rfl
theorem pst_2 (h : mH) (a w : Int) : (pst h a w).2 = h.2 := rfl
theorem pst_lay {h : mH} (L : lay h) (a w : Int) : lay (pst h a w) := (L.st a rfl).st w rfl
theorem pst_tp {h : mH} {T : Int → Int} {n : Int} (H : mtp h T n) (a w : Int) : mtp (pst h a w) T n := ⟨pst_lay H.1 a w, H.2.1, H.2.2⟩
theorem pst_pst (h : mH) (a w a' w' : Int) : pst (pst h a w) a' w' = pst h a' w' := mH_ext rfl fun b k => by
  rw [pst_M, pst_M, pst_M]
  by_cases q : b = 9 ∧ k = 4
  · rw [if_pos q, if_pos q]
  · rw [if_neg q, if_neg q]
    split <;> rfl
theorem pst_s3 (h : mH) (a w a' : Int) : (pst h a w).set 9 3 a' = pst h a' w := mH_ext rfl fun b k => by
  rw [Z_Ms, pst_M, pst_M]
  by_cases q : b = 9 ∧ k = 4
  · rw [if_neg (by omega), if_pos q, if_pos q]
  · rw [if_neg q, if_neg q]
    split <;> rfl
theorem pst_s4 (h : mH) (a w w' : Int) : (pst h a w).set 9 4 w' = pst h a w' := set_set _ _ _ _ _
theorem pst_self (h : mH) : pst h (h.M 9 3) (h.M 9 4) = h := by
  unfold pst
  rw [set_same, set_same]
theorem pst_of {h : mH} {a w : Int} (ha : h.M 9 3 = a) (hw : h.M 9 4 = w) : h = pst h a w := by rw [← ha, ← hw, pst_self]
theorem R_here {h : mH} {T : Int → Int} {n a w : Int} (hT : tpo T n) (H : mtp h T n) (h0 : 0 ≤ a) : Cl kM_here [vO 11 9] (pst h a w) = some (some (vI (T a)), pst h a w) := by
  have L := pst_lay H.1 a w
  have e2 : (pst h a w).M 9 2 = n := H.2.1
  rw [E_M_here, pst_3, e2, lm1 L, ln10 L]
  have := hT.2.1
  by_cases q : a < n
  · rw [if_pos q, gd_t (by omega)]
    have e : (pst h a w).M 10 a = T a := H.2.2 a h0 q
    rw [e]
  · rw [if_neg q, hT.2.2.1 a (by omega)]
theorem R_look0 {T : Int → Int} {n : Int} (hT : tpo T n) {h : mH} (H : mtp h T n) (w : Int) : ∀ (m : Nat) (a : Int), a + m = n → 0 ≤ a → Rn kM_look 0 [vO 11 9] [] (pst h a w) = some (some (vI (T (sk T a))), pst h (sk T a) w) := by
  have hn := hT.2.1
  intro m
  induction m with
  | zero =>
    intro a e h0
    have t := hT.2.2.1 a (by omega)
    rw [E_M_look_0, R_here hT H h0, Z_bI, if_neg (by omega), R_here hT H h0, Z_bI, sk_no (by omega)]
  | succ m ih =>
    intro a e h0
    rw [E_M_look_0, R_here hT H h0, Z_bI]
    by_cases q : T a = 32
    · rw [if_pos q, Z_hl, pst_3, Z_wI (by omega), pst_s3, ih (a + 1) (by omega) (by omega), ← sk_yes hT q]
    · rw [if_neg q, R_here hT H h0, Z_bI, sk_no q]
theorem R_look {T : Int → Int} {n : Int} (hT : tpo T n) {h : mH} (H : mtp h T n) {a : Int} (w : Int) (h0 : 0 ≤ a) (h1 : a ≤ n) : Cl kM_look [vO 11 9] (pst h a w) = some (some (vI (T (sk T a))), pst h (sk T a) w) := by
  rw [E_M_look, R_look0 hT H w (n - a).toNat a (by omega) h0]
theorem R_bad (h : mH) (a w : Int) : Cl kM_bad [vO 11 9] (pst h a w) = some (none, pst h a (if w = -1 then a else w)) := by
  rw [E_M_bad, pst_4, pst_3]
  by_cases q : w = -1
  · rw [if_pos q, if_pos q, Z_hl, pst_s4]
  · rw [if_neg q, if_neg q, Z_hl, pst_s4]
theorem R_wal (h : mH) (a w : Int) : Cl kM_wrongAtLast [vO 11 9] (pst h a w) = some (none, pst h a (if w = -1 then wI (a - 1) else w)) := by
  rw [E_M_wrongAtLast, pst_4, pst_3]
  by_cases q : w = -1
  · rw [if_pos q, if_pos q, Z_hl, pst_s4]
  · rw [if_neg q, if_neg q, Z_hl, pst_s4]
def gs (n : Int) (s : Int × Int) : Prop := s.2 = -1 → 0 ≤ s.1 ∧ s.1 ≤ n
/-- a sign that must come -/
def sgn (T : Int → Int) (c : Int) (s : Int × Int) : Int × Int := if s.2 = -1 then (wI (sk T s.1 + 1), if T (sk T s.1) = c then -1 else sk T s.1) else (wI (s.1 + 1), s.2)
def nmS (T : Int → Int) (lo hi : Int) (s : Int × Int) : Int × Int × Int := if s.2 = -1 then nm T lo hi s.1 else (lo, s)
def pss (h : mH) (s : Int × Int) : mH := pst h s.1 s.2
theorem R_sign {T : Int → Int} {n : Int} (hT : tpo T n) {h : mH} (H : mtp h T n) {s : Int × Int} (g : gs n s) (c : Int) : Cl kM_sign [vO 11 9, vI c] (pss h s) = some (none, pss h (sgn T c s)) := by
  obtain ⟨a, w⟩ := s
  unfold pss sgn
  dsimp only
  rw [E_M_sign, pst_4]
  by_cases q : w = -1
  · obtain ⟨g1, g2⟩ := g q
    have sb := sk_b hT g1 g2
    rw [if_pos q, if_pos q, R_look hT H w g1 g2, Z_bI]
    by_cases q2 : T (sk T a) = c
    · rw [if_pos q2, Z_hl, pst_3, pst_s3, if_pos q2, q]
    · rw [if_neg q2, R_bad, Z_bV, Z_hl, pst_3, pst_s3, if_pos q, if_neg q2]
  · rw [if_neg q, if_neg q, Z_hl, pst_3, pst_s3]
theorem sgn_g {T : Int → Int} {n : Int} (hT : tpo T n) {s : Int × Int} (g : gs n s) {c : Int} (hc : c ≠ -1) : gs n (sgn T c s) := by
  obtain ⟨a, w⟩ := s
  have hn := hT.2.1
  unfold sgn gs
  dsimp only
  by_cases q : w = -1
  · obtain ⟨g1, g2⟩ := g q
    dsimp only at g1 g2
    have sb := sk_b hT g1 g2
    rw [if_pos q]
    dsimp only
    by_cases q2 : T (sk T a) = c
    · have := tp_lt hT (a := sk T a) (by rw [q2]; exact hc)
      rw [if_pos q2, Z_wI (by omega)]
      intro _; omega
    · rw [if_neg q2]
      intro q3; omega
  · rw [if_neg q]
    intro q3; exact absurd q3 q
theorem R_num7 {T : Int → Int} {n : Int} (hT : tpo T n) {h : mH} (H : mtp h T n) (lo hi : Int) : ∀ (m : Nat) (a v k : Int), k + m = 4 → 0 ≤ k → 0 ≤ a → a ≤ n → 0 ≤ v → (k = 0 → v ≤ 0) ∧ (k = 1 → v ≤ 9) ∧ (k = 2 → v ≤ 99) ∧ (k = 3 → v ≤ 999) → Rn kM_number 7 [vO 11 9, vI lo, vI hi, vI v, vI k] [] (pst h a (-1)) = some (some (vI (dgs T m a v).2), pst h (dgs T m a v).1 (if 48 ≤ T (dgs T m a v).1 ∧ T (dgs T m a v).1 ≤ 57 then (dgs T m a v).1 else if lo ≤ (dgs T m a v).2 ∧ (dgs T m a v).2 ≤ hi then -1 else (dgs T m a v).1 - 1)) := by
  have hn := hT.2.1
  have hn0 := hT.1
  intro m
  induction m with
  | zero =>
    intro a v k e k0 h0 h1 v0 vb
    rw [E_M_number_7, if_neg (by omega), R_here hT H h0, Z_bI, R_isDigit, Z_bI, dgs_z]
    dsimp only
    by_cases q : 48 ≤ T a ∧ T a ≤ 57
    · rw [bz_t q, if_neg (by decide), R_bad, Z_bV, if_pos rfl, if_pos q]
    · rw [bz_f q, if_pos rfl, R_in, Z_bI, if_neg q]
      by_cases q2 : lo ≤ v ∧ v ≤ hi
      · rw [bz_t q2, if_neg (by decide), if_pos q2]
      · rw [bz_f q2, if_pos rfl, R_wal, Z_bV, if_pos rfl, if_neg q2, Z_wI (by omega)]
  | succ m ih =>
    intro a v k e k0 h0 h1 v0 vb
    rw [E_M_number_7, if_pos (by omega), R_here hT H h0, Z_bI, R_isDigit, Z_bI, dgs_s]
    by_cases q : 48 ≤ T a ∧ T a ≤ 57
    · have := tp_lt hT (a := a) (by omega)
      rw [bz_t q, if_neg (by decide), R_here hT H h0, Z_bI, Z_hl, pst_3, pst_s3, Z_wI (z := a + 1) (by omega), Z_wI (z := 10 * v) (by omega), Z_wI (z := 10 * v + T a) (by omega), Z_wI (z := 10 * v + T a - 48) (by omega), Z_wI (z := k + 1) (by omega), ih (a + 1) (10 * v + T a - 48) (k + 1) (by omega) (by omega) (by omega) (by omega) (by omega) (by omega), if_pos q]
    · rw [bz_f q, if_pos rfl, R_here hT H h0, Z_bI, R_isDigit, Z_bI, bz_f q, if_pos rfl, R_in, Z_bI, if_neg q]
      dsimp only
      rw [if_neg q]
      by_cases q2 : lo ≤ v ∧ v ≤ hi
      · rw [bz_t q2, if_neg (by decide), if_pos q2]
      · rw [bz_f q2, if_pos rfl, R_wal, Z_bV, if_pos rfl, if_neg q2, Z_wI (by omega)]
theorem R_num {T : Int → Int} {n : Int} (hT : tpo T n) {h : mH} (H : mtp h T n) {s : Int × Int} (g : gs n s) (lo hi : Int) : Cl kM_number [vO 11 9, vI lo, vI hi] (pss h s) = some (some (vI (nmS T lo hi s).1), pss h (nmS T lo hi s).2) := by
  obtain ⟨a, w⟩ := s
  unfold pss nmS
  dsimp only
  rw [E_M_number, pst_4]
  by_cases q : w = -1
  · obtain ⟨g1, g2⟩ := g q
    dsimp only at g1 g2
    have sb := sk_b hT g1 g2
    rw [if_pos q, if_pos q, R_look hT H w g1 g2, Z_bI, R_isDigit, Z_bI]
    unfold nm
    by_cases q2 : 48 ≤ T (sk T a) ∧ T (sk T a) ≤ 57
    · rw [bz_t q2, if_neg (by decide), q, R_num7 hT H lo hi 4 (sk T a) 0 0 (by omega) (by omega) (by omega) (by omega) (by omega) (by omega), if_pos q2]
      by_cases q3 : 48 ≤ T (dgs T 4 (sk T a) 0).1 ∧ T (dgs T 4 (sk T a) 0).1 ≤ 57
      · rw [if_pos q3, if_pos q3]
      · rw [if_neg q3, if_neg q3]
        by_cases q4 : lo ≤ (dgs T 4 (sk T a) 0).2 ∧ (dgs T 4 (sk T a) 0).2 ≤ hi
        · rw [if_pos q4, if_pos q4]
        · rw [if_neg q4, if_neg q4]
    · rw [bz_f q2, if_pos rfl, R_bad, Z_bV, if_pos q, if_neg q2]
  · rw [if_neg q, if_neg q, R_bad, Z_bV, if_neg q]
theorem nmS_b {T : Int → Int} {n : Int} (hT : tpo T n) {s : Int × Int} (g : gs n s) {lo : Int} (hi : Int) (hlo : 0 ≤ lo ∧ lo ≤ 9999) : gs n (nmS T lo hi s).2 ∧ 0 ≤ (nmS T lo hi s).1 ∧ (nmS T lo hi s).1 ≤ 9999 ∧ ((nmS T lo hi s).2.2 = -1 → s.2 = -1 ∧ lo ≤ (nmS T lo hi s).1 ∧ (nmS T lo hi s).1 ≤ hi ∧ ¬ (48 ≤ T (nmS T lo hi s).2.1 ∧ T (nmS T lo hi s).2.1 ≤ 57)) := by
  obtain ⟨a, w⟩ := s
  unfold nmS gs
  dsimp only
  by_cases q : w = -1
  · obtain ⟨g1, g2⟩ := g q
    dsimp only at g1 g2
    have b := nm_b hT (hi := hi) g1 g2 hlo
    rw [if_pos q]
    exact ⟨fun _ => ⟨by omega, by omega⟩, by omega, by omega, fun z => ⟨q, (b.2.2.2.2.2.2 z).1, (b.2.2.2.2.2.2 z).2.1, (b.2.2.2.2.2.2 z).2.2.2⟩⟩
  · rw [if_neg q]
    exact ⟨fun z => absurd z q, by omega, by omega, fun z => absurd z q⟩
theorem R_close {T : Int → Int} {n : Int} (hT : tpo T n) {h : mH} (H : mtp h T n) {s : Int × Int} (g : gs n s) (hd : s.2 = -1 → ¬ (48 ≤ T s.1 ∧ T s.1 ≤ 57)) : Cl kM_closeNumber [vO 11 9] (pss h s) = some (none, pss h s) := by
  obtain ⟨a, w⟩ := s
  unfold pss
  dsimp only at hd ⊢
  rw [E_M_closeNumber, pst_4]
  by_cases q : w = -1
  · rw [if_pos q, R_here hT H (g q).1, Z_bI, R_isDigit, Z_bI, bz_f (hd q), if_pos rfl]
  · rw [if_neg q]
theorem R_plain {T : Int → Int} {n : Int} (hT : tpo T n) {h : mH} (H : mtp h T n) {s : Int × Int} (g : gs n s) {lo : Int} (hi : Int) (hlo : 0 ≤ lo ∧ lo ≤ 9999) : Cl kM_plain [vO 11 9, vI lo, vI hi] (pss h s) = some (some (vI (nmS T lo hi s).1), pss h (nmS T lo hi s).2) := by
  rw [E_M_plain, R_num hT H g, Z_bI, R_close hT H (nmS_b hT g hi hlo).1 (fun q => ((nmS_b hT g hi hlo).2.2.2 q).2.2.2), Z_bV]
