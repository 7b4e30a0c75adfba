/-! THE PURE PART, the class's Reader -/
def WR (r : Int) : Int → Int → Prop := fun b k => b = r ∧ 2 ≤ k
def rtp (h : mH) (r : Int) (T : Int → Int) (n : Int) : Prop := h.M r 0 = 2 ∧ h.M r 1 = n ∧ h.N 2 = 160 ∧ (∀ i, 0 ≤ i → i < n → h.M 2 i = T i) ∧ r ≠ 2
theorem rtp.ew {h h1 : mH} {r : Int} {T : Int → Int} {n : Int} (H : rtp h r T n) (x : Ew (WR r) h h1) : rtp h1 r T n := by
  obtain ⟨a, b, c, d, e⟩ := H
  refine ⟨(x.2 r 0 (fun q => by have := q.2; omega)).trans a, (x.2 r 1 (fun q => by have := q.2; omega)).trans b, by rw [x.N]; exact c, fun i h0 h2 => (x.2 2 i (fun q => e q.1.symm)).trans (d i h0 h2), e⟩
/-- what the Reader's fields say of a state of reading: the place (blanks passed), the sign there, the fault -/
def rst5 (h : mH) (r : Int) (T : Int → Int) (s : Int × Int) : Prop := h.M r 5 = s.2 ∧ (s.2 = -1 → h.M r 2 = sk T s.1 ∧ h.M r 3 = T (sk T s.1)) ∧ (s.2 ≠ -1 → h.M r 3 = -1)
theorem D_goTo1 {T : Int → Int} {n : Int} (hT : tpo T n) {r : Int} : ∀ (m : Nat) (a : Int) (u : mV) (h : mH), rtp h r T n → a + m = n → 0 ≤ a → h.M r 2 = a → ∃ h', Rn kRd_goTo 1 [vO 5 r, u] [] h = some (none, h') ∧ Ew (WR r) h h' ∧ h'.M r 2 = sk T a ∧ h'.M r 3 = (if h.M r 5 = -1 then T (sk T a) else -1) ∧ h'.M r 4 = h.M r 4 ∧ h'.M r 5 = h.M r 5 := by
  have hn := hT.2.1
  intro m
  induction m with
  | zero =>
    intro a u h H e h0 ha
    have t := hT.2.2.1 a (by omega)
    have q : Rn kRd_goTo 1 [vO 5 r, u] [] h = some (none, h.set r 3 (-1)) := by
      rw [E_Rd_goTo_1, ha, H.2.1, if_neg (by omega)]
      by_cases z : h.M r 5 = -1
      · rw [if_pos z, if_neg (by omega), Z_hl]
      · rw [if_neg z, Z_hl]
    refine ⟨_, q, Ew.st h _ ⟨rfl, by omega⟩, ?_, ?_, ?_, ?_⟩
    · rw [Z_Mn (by omega), ha, sk_no (by omega)]
    · rw [Z_Mt, sk_no (by omega), t]
      split <;> rfl
    · rw [Z_Mn (by omega)]
    · rw [Z_Mn (by omega)]
  | succ m ih =>
    intro a u h H e h0 ha
    have tt : h.M 2 a = T a := H.2.2.2.1 a h0 (by omega)
    by_cases q : T a = 32
    · have q2 : Rn kRd_goTo 1 [vO 5 r, u] [] h = Rn kRd_goTo 1 [vO 5 r, u] [] (h.set r 2 (a + 1)) := by
        rw [E_Rd_goTo_1, ha, H.2.1, if_pos (by omega), H.1, H.2.2.1, gd_t (by omega), tt, if_pos q, Z_hl, Z_wI (by omega)]
      have x : Ew (WR r) h (h.set r 2 (a + 1)) := Ew.st h _ ⟨rfl, by omega⟩
      obtain ⟨h', e1, x1, r2, r3, r4, r5⟩ := ih (a + 1) u (h.set r 2 (a + 1)) (H.ew x) (by omega) (by omega) (Z_Mt ..)
      rw [Z_Mn (by omega)] at r3 r4 r5
      rw [q2]
      exact ⟨h', e1, x.tr x1, by rw [r2, sk_yes hT q], by rw [r3, sk_yes hT q], r4, r5⟩
    · have q2 : Rn kRd_goTo 1 [vO 5 r, u] [] h = some (none, h.set r 3 (if h.M r 5 = -1 then T a else -1)) := by
        rw [E_Rd_goTo_1, ha, H.2.1, if_pos (by omega), H.1, H.2.2.1, gd_t (by omega), tt, if_neg q, if_pos (show a < n by omega), gd_t (by omega)]
        by_cases q5 : h.M r 5 = -1
        · rw [if_pos q5, if_pos q5, Z_hl]
        · rw [if_neg q5, if_neg q5, Z_hl]
      refine ⟨_, q2, Ew.st h _ ⟨rfl, by omega⟩, ?_, ?_, ?_, ?_⟩
      · rw [Z_Mn (by omega), ha, sk_no q]
      · rw [Z_Mt, sk_no q]
      · rw [Z_Mn (by omega)]
      · rw [Z_Mn (by omega)]
theorem D_goTo {T : Int → Int} {n : Int} (hT : tpo T n) {r a : Int} {h : mH} (H : rtp h r T n) (h0 : 0 ≤ a) (h1 : a ≤ n) : ∃ h', Cl kRd_goTo [vO 5 r, vI a] h = some (none, h') ∧ Ew (WR r) h h' ∧ h'.M r 2 = sk T a ∧ h'.M r 3 = (if h.M r 5 = -1 then T (sk T a) else -1) ∧ h'.M r 4 = h.M r 4 ∧ h'.M r 5 = h.M r 5 := by
  have x : Ew (WR r) h (h.set r 2 a) := Ew.st h _ ⟨rfl, by omega⟩
  obtain ⟨h', e1, x1, r2, r3, r4, r5⟩ := D_goTo1 hT (n - a).toNat a (vI a) (h.set r 2 a) (H.ew x) (by omega) h0 (Z_Mt ..)
  rw [Z_Mn (by omega)] at r3 r4 r5
  exact ⟨h', by rw [E_Rd_goTo, Z_hl]; exact e1, x.tr x1, r2, r3, r4, r5⟩
theorem D_refuseAt (h : mH) (r a : Int) : ∃ h', Cl kRd_refuseAt [vO 5 r, vI a] h = some (none, h') ∧ Ew (WR r) h h' ∧ h'.M r 3 = -1 ∧ h'.M r 5 = (if h.M r 5 = -1 then a else h.M r 5) ∧ h'.M r 4 = h.M r 4 := by
  by_cases q : h.M r 5 = -1
  · refine ⟨(h.set r 5 a).set r 3 (-1), by rw [E_Rd_refuseAt, if_pos q, Z_hl, Z_hl], (Ew.st h _ ⟨rfl, by omega⟩).tr (Ew.st _ _ ⟨rfl, by omega⟩), Z_Mt .., ?_, ?_⟩
    · rw [Z_Mn (by omega), Z_Mt, if_pos q]
    · rw [Z_Mn (by omega), Z_Mn (by omega)]
  · refine ⟨h.set r 3 (-1), by rw [E_Rd_refuseAt, if_neg q, Z_hl], Ew.st h _ ⟨rfl, by omega⟩, Z_Mt .., ?_, ?_⟩
    · rw [Z_Mn (by omega), if_neg q]
    · rw [Z_Mn (by omega)]
/-- refusing: at the next sign -/
def rfS (T : Int → Int) (s : Int × Int) : Int × Int := if s.2 = -1 then (s.1, sk T s.1) else s
def tkS (T : Int → Int) (c : Int) (s : Int × Int) : Int × Int := if s.2 = -1 ∧ T (sk T s.1) = c then (sk T s.1 + 1, -1) else s
def fnS (T : Int → Int) (s : Int × Int) : Int × Int := if s.2 = -1 ∧ T (sk T s.1) ≠ -1 then (s.1, sk T s.1) else s
theorem D_refuseAt2 {T : Int → Int} {n : Int} (hT : tpo T n) {r : Int} {h : mH} {s : Int × Int} (S : rst5 h r T s) (g : gs n s) : ∃ h', Cl kRd_refuseAt [vO 5 r, vI (h.M r 2)] h = some (none, h') ∧ Ew (WR r) h h' ∧ rst5 h' r T (rfS T s) ∧ (rfS T s).2 ≠ -1 := by
  obtain ⟨h', e, x, r3, r5, r4⟩ := D_refuseAt h r (h.M r 2)
  obtain ⟨s5, su, sb⟩ := S
  refine ⟨h', e, x, ?_⟩
  unfold rfS
  by_cases q : s.2 = -1
  · obtain ⟨g1, g2⟩ := g q
    have := sk_b hT g1 g2
    rw [if_pos q]
    rw [s5, if_pos q, (su q).1] at r5
    exact ⟨⟨r5, fun z => by dsimp only at z; omega, fun _ => r3⟩, by dsimp only; omega⟩
  · rw [if_neg q]
    rw [s5, if_neg q] at r5
    exact ⟨⟨r5, fun z => absurd z q, fun _ => r3⟩, q⟩
theorem D_refuse {T : Int → Int} {n : Int} (hT : tpo T n) {r : Int} {h : mH} {s : Int × Int} (S : rst5 h r T s) (g : gs n s) : ∃ h', Cl kRd_refuse [vO 5 r] h = some (none, h') ∧ Ew (WR r) h h' ∧ rst5 h' r T (rfS T s) ∧ (rfS T s).2 ≠ -1 := by
  obtain ⟨h', e, x, y⟩ := D_refuseAt2 hT S g
  exact ⟨h', by rw [E_Rd_refuse, e, Z_bV], x, y⟩
theorem D_isRight (h : mH) (r : Int) : Cl kRd_isRight [vO 5 r] h = some (some (vI (bz (h.M r 5 = -1))), h) := by
  rw [E_Rd_isRight]
  by_cases q : h.M r 5 = -1
  · rw [if_pos q, gd_t (Or.inr rfl), bz_t q]
  · rw [if_neg q, gd_t (Or.inl rfl), bz_f q]
theorem D_seesDigit (h : mH) (r : Int) : Cl kRd_seesDigit [vO 5 r] h = some (some (vI (bz (48 ≤ h.M r 3 ∧ h.M r 3 ≤ 57))), h) := by
  rw [E_Rd_seesDigit]
  by_cases q : h.M r 3 < 48
  · rw [if_pos q, gd_t (Or.inl rfl), bz_f (by omega)]
  · rw [if_neg q]
    by_cases q2 : h.M r 3 ≤ 57
    · rw [if_pos q2, gd_t (Or.inr rfl), bz_t (by omega)]
    · rw [if_neg q2, gd_t (Or.inl rfl), bz_f (by omega)]
theorem D_go {T : Int → Int} {n : Int} (hT : tpo T n) {r : Int} {h : mH} (H : rtp h r T n) {s : Int × Int} (S : rst5 h r T s) (g : gs n s) {c : Int} (hc : c ≠ -1) (q : h.M r 3 = c) : s.2 = -1 ∧ T (sk T s.1) = c ∧ 0 ≤ sk T s.1 ∧ sk T s.1 < n ∧ ∃ h', Cl kRd_goTo [vO 5 r, vI (wI (h.M r 2 + 1))] h = some (none, h') ∧ Ew (WR r) h h' ∧ rst5 h' r T (sk T s.1 + 1, -1) ∧ gs n (sk T s.1 + 1, -1) := by
  obtain ⟨s5, su, sb⟩ := S
  have hn := hT.2.1
  have q2 : s.2 = -1 := by
    by_cases z : s.2 = -1
    · exact z
    · have := sb z; omega
  obtain ⟨g1, g2⟩ := g q2
  obtain ⟨u1, u2⟩ := su q2
  have k := sk_b hT g1 g2
  have l := tp_lt hT (a := sk T s.1) (by omega)
  obtain ⟨h', e, x, r2, r3, r4, r5⟩ := D_goTo hT (a := sk T s.1 + 1) H (by omega) (by omega)
  rw [u1, Z_wI (by omega)]
  refine ⟨q2, by omega, by omega, l, h', e, x, ⟨by rw [r5, s5, q2], fun _ => ⟨r2, ?_⟩, fun z => absurd rfl z⟩, fun _ => by dsimp only; omega⟩
  rw [r3, if_pos (by omega)]
theorem D_takes {T : Int → Int} {n : Int} (hT : tpo T n) {r : Int} {h : mH} (H : rtp h r T n) {s : Int × Int} (S : rst5 h r T s) (g : gs n s) {c : Int} (hc : c ≠ -1) : ∃ h', Cl kRd_takes [vO 5 r, vI c] h = some (some (vI (bz (s.2 = -1 ∧ T (sk T s.1) = c))), h') ∧ Ew (WR r) h h' ∧ rst5 h' r T (tkS T c s) ∧ gs n (tkS T c s) := by
  rw [E_Rd_takes]
  unfold tkS
  by_cases q : h.M r 3 = c
  · obtain ⟨q2, q3, _, _, h', e, x, S', g'⟩ := D_go hT H S g hc q
    rw [if_pos q, if_pos ⟨q2, q3⟩, bz_t ⟨q2, q3⟩, e, Z_bV, gd_t (Or.inr rfl)]
    exact ⟨h', rfl, x, S', g'⟩
  · have q2 : ¬ (s.2 = -1 ∧ T (sk T s.1) = c) := fun z => q (by rw [(S.2.1 z.1).2]; exact z.2)
    rw [if_neg q, if_neg q2, bz_f q2, gd_t (Or.inl rfl)]
    exact ⟨h, rfl, Ew.rf _ _, S, g⟩
theorem D_expect {T : Int → Int} {n : Int} (hT : tpo T n) {r : Int} {h : mH} (H : rtp h r T n) {s : Int × Int} (S : rst5 h r T s) (g : gs n s) {c : Int} (hc : c ≠ -1) : ∃ h', Cl kRd_expect [vO 5 r, vI c] h = some (none, h') ∧ Ew (WR r) h h' ∧ rst5 h' r T (sgn T c s) := by
  have hn := hT.2.1
  rw [E_Rd_expect]
  by_cases q : h.M r 3 = c
  · obtain ⟨q2, q3, q4, q5, h', e, x, S', g'⟩ := D_go hT H S g hc q
    rw [if_pos q, e, Z_bV]
    refine ⟨h', rfl, x, ?_⟩
    unfold sgn
    rw [if_pos q2, if_pos q3, Z_wI (by omega)]
    exact S'
  · obtain ⟨h', e, x, S', z⟩ := D_refuseAt2 hT S g
    rw [if_neg q, e, Z_bV]
    refine ⟨h', rfl, x, ?_⟩
    unfold sgn
    unfold rfS at S' z
    by_cases q2 : s.2 = -1
    · rw [if_pos q2, if_neg (fun z => q (by rw [(S.2.1 q2).2]; exact z))]
      rw [if_pos q2] at S' z
      exact ⟨S'.1, fun y => absurd y z, S'.2.2⟩
    · rw [if_neg q2]
      rw [if_neg q2] at S' z
      exact ⟨S'.1, fun y => absurd y z, S'.2.2⟩
theorem D_finish {T : Int → Int} {n : Int} (hT : tpo T n) {r : Int} {h : mH} {s : Int × Int} (S : rst5 h r T s) (g : gs n s) : ∃ h', Cl kRd_finish [vO 5 r] h = some (none, h') ∧ Ew (WR r) h h' ∧ h'.M r 5 = (fnS T s).2 := by
  rw [E_Rd_finish]
  unfold fnS
  by_cases q : h.M r 3 = -1
  · rw [if_pos q]
    refine ⟨h, rfl, Ew.rf _ _, ?_⟩
    rw [if_neg (fun z => z.2 (by rw [← (S.2.1 z.1).2]; exact q))]
    exact S.1
  · obtain ⟨h', e, x, S', z⟩ := D_refuseAt2 hT S g
    rw [if_neg q, e, Z_bV]
    refine ⟨h', rfl, x, ?_⟩
    have q2 : s.2 = -1 := by
      by_cases z : s.2 = -1
      · exact z
      · exact absurd (S.2.2 z) q
    rw [if_pos ⟨q2, fun z => q (by rw [(S.2.1 q2).2]; exact z)⟩]
    unfold rfS at S'
    rw [if_pos q2] at S'
    exact S'.1
/-- the number just read is wrong at its last digit -/
def wlS (s : Int × Int) : Int × Int := if s.2 = -1 then (s.1, s.1 - 1) else s
theorem D_refuseNumber {T : Int → Int} {r : Int} {h : mH} {s : Int × Int} (S : rst5 h r T s) (l : s.2 = -1 → h.M r 4 = s.1 - 1 ∧ 0 < s.1) : ∃ h', Cl kRd_refuseNumber [vO 5 r] h = some (none, h') ∧ Ew (WR r) h h' ∧ rst5 h' r T (wlS s) := by
  obtain ⟨h', e, x, r3, r5, r4⟩ := D_refuseAt h r (h.M r 4)
  rw [E_Rd_refuseNumber, e, Z_bV]
  refine ⟨h', rfl, x, ?_⟩
  obtain ⟨s5, su, sb⟩ := S
  unfold wlS
  by_cases q : s.2 = -1
  · rw [if_pos q]
    obtain ⟨l1, l2⟩ := l q
    rw [s5, if_pos q, l1] at r5
    exact ⟨r5, fun z => by dsimp only at z; omega, fun _ => r3⟩
  · rw [if_neg q]
    rw [s5, if_neg q] at r5
    exact ⟨r5, fun z => absurd z q, fun _ => r3⟩
theorem D_numT {T : Int → Int} {n : Int} (hT : tpo T n) {r : Int} {h : mH} (H : rtp h r T n) (h5 : h.M r 5 = -1) {e : Int} (v lo hi : Int) (h1 : 1 ≤ e) (h2 : e ≤ n) : ∃ v' h', (hl (h.set r 4 (wI (e - 1))) fun h1 => (if v < lo then (bV (Cl kRd_refuseAt [vO 5 r, vI (h1.M r 4)] h1) fun h2 => some (some (vI lo), h2)) else (if v ≤ hi then (bV (Cl kRd_goTo [vO 5 r, vI e] h1) fun h2 => some (some (vI v), h2)) else (bV (Cl kRd_refuseAt [vO 5 r, vI (h1.M r 4)] h1) fun h2 => some (some (vI lo), h2))))) = some (some (vI v'), h') ∧ Ew (WR r) h h' ∧ rst5 h' r T (e, if lo ≤ v ∧ v ≤ hi then -1 else e - 1) ∧ v' = (if lo ≤ v ∧ v ≤ hi then v else lo) ∧ h'.M r 4 = e - 1 := by
  have hn := hT.2.1
  have x : Ew (WR r) h (h.set r 4 (wI (e - 1))) := Ew.st h _ ⟨rfl, by omega⟩
  have H1 := H.ew x
  have e4 : (h.set r 4 (wI (e - 1))).M r 4 = e - 1 := by rw [Z_Mt, Z_wI (by omega)]
  have e5 : (h.set r 4 (wI (e - 1))).M r 5 = -1 := by rw [Z_Mn (by omega), h5]
  rw [Z_hl]
  generalize h.set r 4 (wI (e - 1)) = h1 at x H1 e4 e5 ⊢
  by_cases q : lo ≤ v ∧ v ≤ hi
  · obtain ⟨h', e1, x1, r2, r3, r4, r5⟩ := D_goTo hT H1 (a := e) (by omega) h2
    rw [if_neg (by omega), if_pos q.2, e1, Z_bV, if_pos q, if_pos q]
    rw [e5, if_pos rfl] at r3
    exact ⟨v, h', rfl, x.tr x1, ⟨by rw [r5, e5], fun _ => ⟨r2, r3⟩, fun z => absurd rfl z⟩, rfl, by rw [r4, e4]⟩
  · obtain ⟨h', e1, x1, r3, r5, r4⟩ := D_refuseAt h1 r (e - 1)
    rw [if_neg q, if_neg q, e4]
    rw [e5, if_pos rfl] at r5
    have S : rst5 h' r T (e, e - 1) := ⟨r5, fun z => by dsimp only at z; omega, fun _ => r3⟩
    by_cases q2 : v < lo
    · rw [if_pos q2, e1, Z_bV]
      exact ⟨lo, h', rfl, x.tr x1, S, rfl, by rw [r4, e4]⟩
    · rw [if_neg q2, if_neg (by omega), e1, Z_bV]
      exact ⟨lo, h', rfl, x.tr x1, S, rfl, by rw [r4, e4]⟩
theorem D_num5 {T : Int → Int} {n : Int} (hT : tpo T n) {r : Int} {h : mH} (H : rtp h r T n) (h5 : h.M r 5 = -1) (lo hi : Int) {b : Int} (hb : h.M r 2 = b) (b0 : 0 ≤ b) : ∀ (m : Nat) (a v : Int), a + m = b + 4 → b ≤ a → a ≤ n → (1 ≤ a ∨ (48 ≤ T a ∧ T a ≤ 57)) → 0 ≤ v → (a = b → v ≤ 0) ∧ (a = b + 1 → v ≤ 9) ∧ (a = b + 2 → v ≤ 99) ∧ (a = b + 3 → v ≤ 999) → ∃ v' h', Rn kRd_number 5 [vO 5 r, vI lo, vI hi, vI v, vI a] [] h = some (some (vI v'), h') ∧ Ew (WR r) h h' ∧ rst5 h' r T ((dgs T m a v).1, if 48 ≤ T (dgs T m a v).1 ∧ T (dgs T m a v).1 ≤ 57 then (dgs T m a v).1 else if lo ≤ (dgs T m a v).2 ∧ (dgs T m a v).2 ≤ hi then -1 else (dgs T m a v).1 - 1) ∧ (v' = lo ∨ v' = (dgs T m a v).2 ∧ lo ≤ v' ∧ v' ≤ hi) ∧ ((if 48 ≤ T (dgs T m a v).1 ∧ T (dgs T m a v).1 ≤ 57 then (dgs T m a v).1 else if lo ≤ (dgs T m a v).2 ∧ (dgs T m a v).2 ≤ hi then -1 else (dgs T m a v).1 - 1) = -1 → v' = (dgs T m a v).2 ∧ h'.M r 4 = (dgs T m a v).1 - 1 ∧ 0 < (dgs T m a v).1) := by
  have hn := hT.2.1
  have tail : ∀ a v, 1 ≤ a → a ≤ n → ¬ (48 ≤ T a ∧ T a ≤ 57) → ∃ v' h', Rn kRd_number 5 [vO 5 r, vI lo, vI hi, vI v, vI a] [] h = some (some (vI v'), h') ∧ Ew (WR r) h h' ∧ rst5 h' r T (a, if lo ≤ v ∧ v ≤ hi then -1 else a - 1) ∧ v' = (if lo ≤ v ∧ v ≤ hi then v else lo) ∧ h'.M r 4 = a - 1 := by
    intro a v h1 h2 hd
    obtain ⟨v', h', e, x⟩ := D_numT hT H h5 v lo hi h1 h2
    refine ⟨v', h', ?_, x⟩
    rw [E_Rd_number_5, H.2.1, H.1, H.2.2.1]
    by_cases q : a < n
    · rw [if_pos q, gd_t (by omega), H.2.2.2.1 a (by omega) q]
      by_cases q2 : T a < 48
      · rw [if_pos q2]
        exact e
      · rw [if_neg q2, gd_t (by omega), if_neg (by omega)]
        exact e
    · rw [if_neg q]
      exact e
  intro m
  induction m with
  | zero =>
    intro a v e ba an ha v0 vb
    rw [dgs_z]
    dsimp only
    by_cases q : 48 ≤ T a ∧ T a ≤ 57
    · have l := tp_lt hT (a := a) (by omega)
      obtain ⟨h', e1, x1, r3, r5, r4⟩ := D_refuseAt h r a
      rw [h5, if_pos rfl] at r5
      rw [if_pos q]
      refine ⟨lo, h', ?_, x1, ⟨r5, fun z => by dsimp only at z; omega, fun _ => r3⟩, Or.inl rfl, fun z => by omega⟩
      rw [E_Rd_number_5, H.2.1, H.1, H.2.2.1, if_pos l, gd_t (by omega), H.2.2.2.1 a (by omega) l, if_neg (by omega), gd_t (by omega), if_pos (by omega), hb, Z_wI (by omega), if_pos (by omega), e1, Z_bV]
    · obtain ⟨v', h', e1, x1, S, w1, w2⟩ := tail a v (by omega) an q
      rw [if_neg q]
      refine ⟨v', h', e1, x1, S, ?_, ?_⟩
      · by_cases z : lo ≤ v ∧ v ≤ hi
        · rw [if_pos z] at w1; right; omega
        · rw [if_neg z] at w1; left; exact w1
      · by_cases z : lo ≤ v ∧ v ≤ hi
        · rw [if_pos z] at w1; exact fun _ => ⟨w1, w2, by omega⟩
        · rw [if_neg z]; intro y; omega
  | succ m ih =>
    intro a v e ba an ha v0 vb
    rw [dgs_s]
    by_cases q : 48 ≤ T a ∧ T a ≤ 57
    · have l := tp_lt hT (a := a) (by omega)
      rw [if_pos q, E_Rd_number_5, H.2.1, H.1, H.2.2.1, if_pos l, gd_t (by omega), H.2.2.2.1 a (by omega) l, if_neg (by omega), gd_t (by omega), if_pos (by omega), hb, Z_wI (z := a - b) (by omega), if_neg (by omega), gd_t (by omega), Z_wI (z := v * 10) (by omega), Z_wI (z := T a - 48) (by omega), Z_wI (by omega), Z_wI (by omega), show v * 10 + (T a - 48) = 10 * v + T a - 48 by omega]
      exact ih (a + 1) (10 * v + T a - 48) (by omega) (by omega) (by omega) (by omega) (by omega) (by omega)
    · obtain ⟨v', h', e1, x1, S, w1, w2⟩ := tail a v (by omega) an q
      rw [if_neg q]
      dsimp only
      rw [if_neg q]
      refine ⟨v', h', e1, x1, S, ?_, ?_⟩
      · by_cases z : lo ≤ v ∧ v ≤ hi
        · rw [if_pos z] at w1; right; omega
        · rw [if_neg z] at w1; left; exact w1
      · by_cases z : lo ≤ v ∧ v ≤ hi
        · rw [if_pos z] at w1; exact fun _ => ⟨w1, w2, by omega⟩
        · rw [if_neg z]; intro y; omega
theorem D_number {T : Int → Int} {n : Int} (hT : tpo T n) {r : Int} {h : mH} (H : rtp h r T n) {s : Int × Int} (S : rst5 h r T s) (g : gs n s) (lo hi : Int) : ∃ v h', Cl kRd_number [vO 5 r, vI lo, vI hi] h = some (some (vI v), h') ∧ Ew (WR r) h h' ∧ rst5 h' r T (nmS T lo hi s).2 ∧ ((nmS T lo hi s).2.2 = -1 → v = (nmS T lo hi s).1 ∧ h'.M r 4 = (nmS T lo hi s).2.1 - 1 ∧ 0 < (nmS T lo hi s).2.1) ∧ (lo ≤ hi → lo ≤ v ∧ v ≤ hi) := by
  have hn := hT.2.1
  rw [E_Rd_number, D_seesDigit, Z_bI]
  have S0 := S
  obtain ⟨s5, su, sb⟩ := S
  unfold nmS
  by_cases q : s.2 = -1
  · obtain ⟨g1, g2⟩ := g q
    obtain ⟨u1, u2⟩ := su q
    have k := sk_b hT g1 g2
    rw [if_pos q, u2]
    unfold nm
    by_cases q2 : 48 ≤ T (sk T s.1) ∧ T (sk T s.1) ≤ 57
    · obtain ⟨v', h', e1, x1, S1, w1, w2⟩ := D_num5 hT H (s5.trans q) lo hi u1 (by omega) 4 (sk T s.1) 0 (by omega) (by omega) (by omega) (Or.inr q2) (by omega) (by omega)
      rw [bz_t q2, if_neg (by decide), u1, e1, if_pos q2]
      refine ⟨v', h', rfl, x1, ?_⟩
      by_cases q3 : 48 ≤ T (dgs T 4 (sk T s.1) 0).1 ∧ T (dgs T 4 (sk T s.1) 0).1 ≤ 57
      · rw [if_pos q3] at S1 w2 ⊢
        exact ⟨S1, w2, fun z => by omega⟩
      · rw [if_neg q3] at S1 w2 ⊢
        by_cases q4 : lo ≤ (dgs T 4 (sk T s.1) 0).2 ∧ (dgs T 4 (sk T s.1) 0).2 ≤ hi
        · rw [if_pos q4] at S1 w2 ⊢
          exact ⟨S1, w2, fun z => by omega⟩
        · rw [if_neg q4] at S1 w2 ⊢
          exact ⟨S1, w2, fun z => by omega⟩
    · obtain ⟨h', e, x, S', z⟩ := D_refuseAt2 hT S0 g
      rw [bz_f q2, if_pos rfl, e, Z_bV, if_neg q2]
      unfold rfS at S'
      rw [if_pos q] at S'
      refine ⟨lo, h', rfl, x, ⟨S'.1, fun z => ?_, S'.2.2⟩, fun z => ?_, fun z => ⟨by omega, z⟩⟩ <;> (dsimp only at z; omega)
  · have u2 := sb q
    obtain ⟨h', e, x, S', z⟩ := D_refuseAt2 hT S0 g
    unfold rfS at S'
    rw [if_neg q] at S'
    rw [u2, bz_f (by omega), if_pos rfl, e, Z_bV, if_neg q]
    exact ⟨lo, h', rfl, x, S', fun z => absurd z q, fun z => ⟨by omega, z⟩⟩
