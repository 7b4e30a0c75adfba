/-! THE PURE PART, calls that write: feed -/
theorem Z_a255 (z : Int) : iand z 255 = z % 256 := by
  show (BitVec.ofInt 32 z &&& BitVec.ofInt 32 255).toInt = _
  have e : (BitVec.ofInt 32 z &&& BitVec.ofInt 32 255).toNat = (z % 4294967296).toNat % 256 := by
    rw [BitVec.toNat_and, BitVec.toNat_ofInt]
    exact Nat.and_two_pow_sub_one_eq_mod _ 8
  rw [BitVec.toInt_eq_toNat_of_lt (by rw [e]; omega), e]
  omega
theorem sh_eq {x k : Int} (hx : inI x) (hk : k = 0 ∨ k = 8 ∨ k = 16 ∨ k = 24) : iand (iushr x k) 255 = iand (ishr x k) 255 := by
  rw [Z_a255, Z_a255]
  rcases hk with rfl | rfl | rfl | rfl
  · have a := Z_shr (k := 0) (by decide) hx
    rw [Z_ushr0 hx, show ishr x 0 = x / ((2 ^ 0 : Nat) : Int) from a]
    omega
  · have a := Z_shr (k := 8) (by decide) hx
    have b := Z_ushr (k := 8) (by decide) (by decide) x
    rw [show ishr x 8 = x / ((2 ^ 8 : Nat) : Int) from a, show iushr x 8 = x % 4294967296 / ((2 ^ 8 : Nat) : Int) from b]
    omega
  · have a := Z_shr (k := 16) (by decide) hx
    have b := Z_ushr (k := 16) (by decide) (by decide) x
    rw [show ishr x 16 = x / ((2 ^ 16 : Nat) : Int) from a, show iushr x 16 = x % 4294967296 / ((2 ^ 16 : Nat) : Int) from b]
    omega
  · have a := Z_shr (k := 24) (by decide) hx
    have b := Z_ushr (k := 24) (by decide) (by decide) x
    rw [show ishr x 24 = x / ((2 ^ 24 : Nat) : Int) from a, show iushr x 24 = x % 4294967296 / ((2 ^ 24 : Nat) : Int) from b]
    omega
/-- the signs of a feed -/
def fb (x1 x2 x3 x4 x5 k : Int) : Int := iand (ishr (if k < 4 then x1 else if k < 8 then x2 else if k < 12 then x3 else if k < 16 then x4 else x5) (24 - 8 * (k % 4))) 255
theorem fb_b (x1 x2 x3 x4 x5 k : Int) : 0 ≤ fb x1 x2 x3 x4 x5 k ∧ fb x1 x2 x3 x4 x5 k ≤ 255 := by
  unfold fb
  rw [Z_a255]
  omega
def nz (B : Int → Int) : Nat → Int → Int
  | 0, _ => 0
  | f + 1, a => (if B a = 0 then 0 else 1) + nz B f (a + 1)
theorem nz_b (B : Int → Int) : ∀ (f : Nat) (a : Int), 0 ≤ nz B f a ∧ nz B f a ≤ f := by
  intro f
  induction f with
  | zero =>
    intro a
    exact ⟨Int.le_refl _, Int.le_refl _⟩
  | succ f ih =>
    intro a
    have := ih (a + 1)
    show 0 ≤ (if B a = 0 then 0 else 1) + nz B f (a + 1) ∧ (if B a = 0 then 0 else 1) + nz B f (a + 1) ≤ ((f + 1 : Nat) : Int)
    split <;> omega
theorem nz_add (B : Int → Int) : ∀ (f g : Nat) (a : Int), nz B (f + g) a = nz B f a + nz B g (a + f) := by
  intro f
  induction f with
  | zero =>
    intro g a
    rw [show 0 + g = g by omega, show a + ((0 : Nat) : Int) = a by omega]
    show _ = 0 + nz B g a
    omega
  | succ f ih =>
    intro g a
    rw [show f + 1 + g = (f + g) + 1 by omega]
    show (if B a = 0 then 0 else 1) + nz B (f + g) (a + 1) = (if B a = 0 then 0 else 1) + nz B f (a + 1) + nz B g (a + ((f + 1 : Nat) : Int))
    rw [ih, show a + 1 + (f : Int) = a + ((f + 1 : Nat) : Int) by omega]
    omega
def apT (p : (Int → Int) × Int) (b : Int) : (Int → Int) × Int := if b = 0 then p else (fun i => if i = p.2 then b else p.1 i, p.2 + 1)
def apL (B : Int → Int) : Nat → Int → (Int → Int) × Int → (Int → Int) × Int
  | 0, _, p => p
  | f + 1, a, p => apL B f (a + 1) (apT p (B a))
theorem apL_add (B : Int → Int) : ∀ (f g : Nat) (a : Int) (p : (Int → Int) × Int), apL B (f + g) a p = apL B g (a + f) (apL B f a p) := by
  intro f
  induction f with
  | zero =>
    intro g a p
    rw [show 0 + g = g by omega, show a + ((0 : Nat) : Int) = a by omega]
    rfl
  | succ f ih =>
    intro g a p
    rw [show f + 1 + g = (f + g) + 1 by omega]
    show apL B (f + g) (a + 1) (apT p (B a)) = apL B g (a + ((f + 1 : Nat) : Int)) (apL B f (a + 1) (apT p (B a)))
    rw [ih, show a + 1 + (f : Int) = a + ((f + 1 : Nat) : Int) by omega]
theorem apL_n (B : Int → Int) : ∀ (f : Nat) (a : Int) (p : (Int → Int) × Int), (apL B f a p).2 = p.2 + nz B f a := by
  intro f
  induction f with
  | zero =>
    intro a p
    show p.2 = p.2 + 0
    omega
  | succ f ih =>
    intro a p
    show (apL B f (a + 1) (apT p (B a))).2 = p.2 + ((if B a = 0 then 0 else 1) + nz B f (a + 1))
    rw [ih]
    unfold apT
    split
    · omega
    · show p.2 + 1 + _ = _
      omega
theorem apL_tpo {B : Int → Int} (hB : ∀ k, 0 ≤ B k ∧ B k ≤ 255) : ∀ (f : Nat) (a : Int) (p : (Int → Int) × Int), tpo p.1 p.2 → p.2 + nz B f a ≤ 160 → tpo (apL B f a p).1 (apL B f a p).2 := by
  intro f
  induction f with
  | zero =>
    intro a p t _
    exact t
  | succ f ih =>
    intro a p t l
    have l' : p.2 + ((if B a = 0 then 0 else 1) + nz B f (a + 1)) ≤ 160 := l
    have nn := nz_b B f (a + 1)
    show tpo (apL B f (a + 1) (apT p (B a))).1 (apL B f (a + 1) (apT p (B a))).2
    unfold apT
    by_cases z : B a = 0
    · rw [if_pos z] at l' ⊢
      exact ih (a + 1) p t (by omega)
    · rw [if_neg z] at l' ⊢
      obtain ⟨t0, t1, t2, t3⟩ := t
      refine ih (a + 1) _ ⟨show 0 ≤ p.2 + 1 by omega, show p.2 + 1 ≤ 160 by omega, fun i h0 => ?_, fun i h0 h1 => ?_⟩ (show p.2 + 1 + nz B f (a + 1) ≤ 160 by omega)
      · replace h0 : p.2 + 1 ≤ i := h0
        show (if i = p.2 then B a else p.1 i) = -1
        rw [if_neg (by omega)]
        exact t2 i (by omega)
      · replace h1 : i < p.2 + 1 := h1
        show 1 ≤ (if i = p.2 then B a else p.1 i) ∧ (if i = p.2 then B a else p.1 i) ≤ 255
        have := hB a
        split
        · omega
        · exact t3 i h0 (by omega)
/-- a tape that holds the text -/
def TH (o k t : Int) (h : mH) (p : (Int → Int) × Int) : Prop := h.M o k = p.2 ∧ ∀ i, 0 ≤ i → i < p.2 → h.M t i = p.1 i
def Wfe (b j : Int) : Prop := (b = 1 ∧ j = 1) ∨ b = 2 ∨ (b = 9 ∧ j = 2) ∨ b = 10
def Wfc (b j : Int) : Prop := (b = 1 ∧ j = 1) ∨ b = 2
def Wfm (b j : Int) : Prop := (b = 9 ∧ j = 2) ∨ b = 10
theorem wfc_e {b j : Int} (w : Wfc b j) : Wfe b j := by unfold Wfc at w; unfold Wfe; omega
theorem wfm_e {b j : Int} (w : Wfm b j) : Wfe b j := by unfold Wfm at w; unfold Wfe; omega
theorem wfe_lay {b j : Int} (w : Wfe b j) : layA b j = 0 := wok_lay (by unfold Wfe at w; unfold Wok; omega)
theorem TH_st {o k t : Int} {h : mH} {p : (Int → Int) × Int} {b : Int} (X : TH o k t h p) (z : b ≠ 0) (p0 : 0 ≤ p.2) (ot : o ≠ t) : TH o k t ((h.set t p.2 b).set o k (p.2 + 1)) (apT p b) := by
  unfold apT
  rw [if_neg z]
  refine ⟨Z_Mt .., fun i i0 i1 => ?_⟩
  replace i1 : i < p.2 + 1 := i1
  show _ = if i = p.2 then b else p.1 i
  rw [Z_Mn (by omega)]
  by_cases q : i = p.2
  · rw [if_pos q, q]
    exact Z_Mt ..
  · rw [if_neg q, Z_Mn (by omega)]
    exact X.2 i i0 (by omega)
theorem C_signs {h : mH} {x : Int} (hx : inI x) (B : Int → Int) : ∀ (f : Nat) (a c k : Int), f ≤ 4 → k + 8 = 8 * f → (∀ j : Int, 0 ≤ j → j < f → B (a + j) = iand (ishr x (8 * (f - 1 - j))) 255) → 0 ≤ c → c + f ≤ 100 → Rn kX_signsIn 1 [vI x, vI c, vI k] [] h = some (some (vI (c + nz B f a)), h) := by
  intro f
  induction f with
  | zero =>
    intro a c k f4 e hB c0 c1
    rw [E_X_signsIn_1, if_pos (by omega)]
    show _ = some (some (vI (c + 0)), h)
    rw [Int.add_zero]
  | succ f ih =>
    intro a c k f4 e hB c0 c1
    have b0 := hB 0 (by omega) (by omega)
    rw [Int.add_zero, show 8 * ((((f + 1 : Nat) : Int)) - 1 - 0) = k by omega] at b0
    have rest : ∀ j : Int, 0 ≤ j → j < f → B (a + 1 + j) = iand (ishr x (8 * ((f : Int) - 1 - j))) 255 := fun j j0 j1 => by
      have := hB (j + 1) (by omega) (by omega)
      rw [show a + 1 + j = a + (j + 1) by omega, this, show ((f + 1 : Nat) : Int) - 1 - (j + 1) = (f : Int) - 1 - j by omega]
    rw [E_X_signsIn_1, if_neg (by omega), sh_eq hx (by omega), ← b0, Z_wI (z := k + -8) (by omega)]
    show _ = some (some (vI (c + ((if B a = 0 then 0 else 1) + nz B f (a + 1)))), h)
    by_cases z : B a = 0
    · rw [if_pos z, if_pos z, ih (a + 1) c (k + -8) (by omega) (by omega) rest c0 (by omega), Int.zero_add]
    · rw [if_neg z, if_neg z, Z_wI (by omega)]
      rw [ih (a + 1) (c + 1) (k + -8) (by omega) (by omega) rest (by omega) (by omega), Int.add_assoc]
theorem C_append {x : Int} (hx : inI x) (B : Int → Int) : ∀ (f : Nat) (a k : Int) (u : mV) (h : mH) (p : (Int → Int) × Int), f ≤ 4 → k + 8 = 8 * f → (∀ j : Int, 0 ≤ j → j < f → B (a + j) = iand (ishr x (8 * (f - 1 - j))) 255) → lay h → TH 1 1 2 h p → 0 ≤ p.2 → p.2 + nz B f a ≤ 160 → ∃ h', Rn kX_append 1 [vO 10 1, vI x, vI k, u] [] h = some (none, h') ∧ Ew Wfc h h' ∧ TH 1 1 2 h' (apL B f a p) := by
  intro f
  induction f with
  | zero =>
    intro a k u h p f4 e hB L X p0 l
    exact ⟨h, by rw [E_X_append_1, if_pos (by omega)], Ew.rf _ _, X⟩
  | succ f ih =>
    intro a k u h p f4 e hB L X p0 l
    have b0 := hB 0 (by omega) (by omega)
    rw [Int.add_zero, show 8 * ((((f + 1 : Nat) : Int)) - 1 - 0) = k by omega] at b0
    have rest : ∀ j : Int, 0 ≤ j → j < f → B (a + 1 + j) = iand (ishr x (8 * ((f : Int) - 1 - j))) 255 := fun j j0 j1 => by
      have := hB (j + 1) (by omega) (by omega)
      rw [show a + 1 + j = a + (j + 1) by omega, this, show ((f + 1 : Nat) : Int) - 1 - (j + 1) = (f : Int) - 1 - j by omega]
    have l' : p.2 + ((if B a = 0 then 0 else 1) + nz B f (a + 1)) ≤ 160 := l
    have nn := nz_b B f (a + 1)
    rw [E_X_append_1, if_neg (by omega), sh_eq hx (by omega), ← b0, Z_wI (z := k + -8) (by omega)]
    show ∃ h', _ ∧ _ ∧ TH 1 1 2 h' (apL B f (a + 1) (apT p (B a)))
    by_cases z : B a = 0
    · rw [if_pos z] at l' ⊢
      have := ih (a + 1) (k + -8) (vI (B a)) h p (by omega) (by omega) rest L X p0 (by omega)
      rw [show apT p (B a) = p from if_pos z]
      exact this
    · rw [if_neg z] at l' ⊢
      have e1 := X.1
      rw [e1, if_pos (by omega), lx0 L, ln2 L, gd_t (by omega), Z_hl, show (h.set 2 p.2 (B a)).M 1 1 = p.2 from e1, Z_wI (by omega), Z_hl]
      have x : Ew Wfc h ((h.set 2 p.2 (B a)).set 1 1 (p.2 + 1)) := (Ew.st (W := Wfc) h _ (Or.inr rfl)).tr (Ew.st _ _ (Or.inl ⟨rfl, rfl⟩))
      have p1 : (apT p (B a)).2 = p.2 + 1 := by unfold apT; rw [if_neg z]
      obtain ⟨h', r, x', X'⟩ := ih (a + 1) (k + -8) (vI (B a)) _ (apT p (B a)) (by omega) (by omega) rest (L.ew x fun b j w => wfe_lay (wfc_e w)) (TH_st X z p0 (by decide)) (by omega) (by omega)
      exact ⟨h', r, x.tr x', X'⟩
theorem R_byteOf (x1 x2 x3 x4 x5 : Int) {k : Int} (k0 : 0 ≤ k) (k1 : k < 20) (h : mH) : Cl kM_byteOf [vI x1, vI x2, vI x3, vI x4, vI x5, vI k] h = some (some (vI (fb x1 x2 x3 x4 x5 k)), h) := by
  have tm : Int.tmod k 4 = k % 4 := Z_tmod k0
  have w1 : wI (8 * (k % 4)) = 8 * (k % 4) := Z_wI (by omega)
  have w2 : wI (24 - 8 * (k % 4)) = 24 - 8 * (k % 4) := Z_wI (by omega)
  rw [E_M_byteOf, tm, w1, w2]
  unfold fb
  by_cases a : k < 4
  · rw [if_pos a, if_pos a, gd_t (by decide)]
  rw [if_neg a, if_neg a]
  by_cases b : k < 8
  · rw [if_pos b, if_pos b, gd_t (by decide)]
  rw [if_neg b, if_neg b]
  by_cases c : k < 12
  · rw [if_pos c, if_pos c, gd_t (by decide)]
  rw [if_neg c, if_neg c]
  by_cases d : k < 16
  · rw [if_pos d, if_pos d, gd_t (by decide)]
  rw [if_neg d, if_neg d, gd_t (by decide)]
theorem R_feed1 (x1 x2 x3 x4 x5 : Int) (u : mV) (h : mH) : ∀ (f : Nat) (k c : Int), k + f = 20 → 0 ≤ k → 0 ≤ c → c ≤ k → Rn kM_feed 1 [vO 11 9, vI x1, vI x2, vI x3, vI x4, vI x5, vI c, vI k, u] [] h = if wI (h.M 9 2 + (c + nz (fb x1 x2 x3 x4 x5) f k)) ≤ 160 then Rn kM_feed 10 [vO 11 9, vI x1, vI x2, vI x3, vI x4, vI x5, vI (c + nz (fb x1 x2 x3 x4 x5) f k), vI 0, u] [] h else some (some (vI (-1)), h) := by
  intro f
  induction f with
  | zero =>
    intro k c e k0 c0 c1
    rw [E_M_feed_1, if_neg (by omega)]
    show _ = if wI (h.M 9 2 + (c + 0)) ≤ 160 then Rn kM_feed 10 [vO 11 9, vI x1, vI x2, vI x3, vI x4, vI x5, vI (c + 0), vI 0, u] [] h else some (some (vI (-1)), h)
    rw [Int.add_zero]
  | succ f ih =>
    intro k c e k0 c0 c1
    rw [E_M_feed_1, if_pos (by omega), R_byteOf _ _ _ _ _ k0 (by omega), Z_bI, Z_wI (z := c + 0) (by omega), Z_wI (z := c + 1) (by omega), Z_wI (z := k + 1) (by omega), Int.add_zero]
    show _ = if wI (h.M 9 2 + (c + ((if fb x1 x2 x3 x4 x5 k = 0 then 0 else 1) + nz (fb x1 x2 x3 x4 x5) f (k + 1)))) ≤ 160 then Rn kM_feed 10 [vO 11 9, vI x1, vI x2, vI x3, vI x4, vI x5, vI (c + ((if fb x1 x2 x3 x4 x5 k = 0 then 0 else 1) + nz (fb x1 x2 x3 x4 x5) f (k + 1))), vI 0, u] [] h else some (some (vI (-1)), h)
    by_cases z : fb x1 x2 x3 x4 x5 k = 0
    · rw [if_pos z, if_pos z, ih (k + 1) c (by omega) (by omega) c0 (by omega), Int.zero_add]
    · rw [if_neg z, if_neg z, ih (k + 1) (c + 1) (by omega) (by omega) (by omega) (by omega), Int.add_assoc]
theorem R_feed10 (x1 x2 x3 x4 x5 : Int) (u6 : mV) : ∀ (f : Nat) (k : Int) (u : mV) (h : mH) (p : (Int → Int) × Int), k + f = 20 → 0 ≤ k → lay h → TH 9 2 10 h p → 0 ≤ p.2 → p.2 + nz (fb x1 x2 x3 x4 x5) f k ≤ 160 → ∃ h', Rn kM_feed 10 [vO 11 9, vI x1, vI x2, vI x3, vI x4, vI x5, u6, vI k, u] [] h = some (some (vI (p.2 + nz (fb x1 x2 x3 x4 x5) f k)), h') ∧ Ew Wfm h h' ∧ TH 9 2 10 h' (apL (fb x1 x2 x3 x4 x5) f k p) := by
  intro f
  induction f with
  | zero =>
    intro k u h p e k0 L X p0 l
    refine ⟨h, ?_, Ew.rf _ _, X⟩
    rw [E_M_feed_10, if_neg (by omega), X.1]
    show _ = some (some (vI (p.2 + 0)), h)
    rw [Int.add_zero]
  | succ f ih =>
    intro k u h p e k0 L X p0 l
    have l' : p.2 + ((if fb x1 x2 x3 x4 x5 k = 0 then 0 else 1) + nz (fb x1 x2 x3 x4 x5) f (k + 1)) ≤ 160 := l
    have nn := nz_b (fb x1 x2 x3 x4 x5) f (k + 1)
    rw [E_M_feed_10, if_pos (by omega), R_byteOf _ _ _ _ _ k0 (by omega), Z_bI, Z_wI (z := k + 1) (by omega)]
    show ∃ h', _ = some (some (vI (p.2 + ((if fb x1 x2 x3 x4 x5 k = 0 then 0 else 1) + nz (fb x1 x2 x3 x4 x5) f (k + 1)))), h') ∧ _ ∧ TH 9 2 10 h' (apL (fb x1 x2 x3 x4 x5) f (k + 1) (apT p (fb x1 x2 x3 x4 x5 k)))
    by_cases z : fb x1 x2 x3 x4 x5 k = 0
    · rw [if_pos z] at l'
      rw [if_pos z, if_pos z, show apT p (fb x1 x2 x3 x4 x5 k) = p from if_pos z, Int.zero_add]
      exact ih (k + 1) _ h p (by omega) (by omega) L X p0 (by omega)
    · rw [if_neg z] at l'
      have e1 := X.1
      rw [if_neg z, if_neg z, e1, lm1 L, ln10 L, gd_t (by omega), Z_hl, show (h.set 10 p.2 (fb x1 x2 x3 x4 x5 k)).M 9 2 = p.2 from e1, Z_wI (z := p.2 + 1) (by omega), Z_hl]
      have x : Ew Wfm h ((h.set 10 p.2 (fb x1 x2 x3 x4 x5 k)).set 9 2 (p.2 + 1)) := (Ew.st (W := Wfm) h _ (Or.inr rfl)).tr (Ew.st _ _ (Or.inl ⟨rfl, rfl⟩))
      have p1 : (apT p (fb x1 x2 x3 x4 x5 k)).2 = p.2 + 1 := by unfold apT; rw [if_neg z]
      obtain ⟨h', r, x', X'⟩ := ih (k + 1) (vI (fb x1 x2 x3 x4 x5 k)) _ (apT p (fb x1 x2 x3 x4 x5 k)) (by omega) (by omega) (L.ew x fun b j w => wfe_lay (wfm_e w)) (TH_st X z p0 (by decide)) (by omega) (by omega)
      rw [p1, Int.add_assoc] at r
      exact ⟨h', r, x.tr x', X'⟩
theorem ok_feed {x1 x2 x3 x4 x5 : Int} (i1 : inI x1) (i2 : inI x2) (i3 : inI x3) (i4 : inI x4) (i5 : inI x5) : okc kX_feed kM_feed [vI x1, vI x2, vI x3, vI x4, vI x5] := okw fun h T n nc Ds nh Xs I => by
  have L := I.1
  obtain ⟨t0, t1, t2, t3⟩ := I.2.1
  have tn := t0
  obtain ⟨n0, n1, _, _⟩ := tn
  generalize eB : fb x1 x2 x3 x4 x5 = B
  have hB : ∀ k, 0 ≤ B k ∧ B k ≤ 255 := fun k => by rw [← eB]; exact fb_b ..
  have s1 : ∀ j : Int, 0 ≤ j → j < (4 : Nat) → B (0 + j) = iand (ishr x1 (8 * (((4 : Nat) : Int) - 1 - j))) 255 := fun j j0 j1 => by
    rw [← eB]; unfold fb
    rw [if_pos (by omega), show 24 - 8 * ((0 + j) % 4) = 8 * (((4 : Nat) : Int) - 1 - j) by omega]
  have s2 : ∀ j : Int, 0 ≤ j → j < (4 : Nat) → B (4 + j) = iand (ishr x2 (8 * (((4 : Nat) : Int) - 1 - j))) 255 := fun j j0 j1 => by
    rw [← eB]; unfold fb
    rw [if_neg (by omega), if_pos (by omega), show 24 - 8 * ((4 + j) % 4) = 8 * (((4 : Nat) : Int) - 1 - j) by omega]
  have s3 : ∀ j : Int, 0 ≤ j → j < (4 : Nat) → B (8 + j) = iand (ishr x3 (8 * (((4 : Nat) : Int) - 1 - j))) 255 := fun j j0 j1 => by
    rw [← eB]; unfold fb
    rw [if_neg (by omega), if_neg (by omega), if_pos (by omega), show 24 - 8 * ((8 + j) % 4) = 8 * (((4 : Nat) : Int) - 1 - j) by omega]
  have s4 : ∀ j : Int, 0 ≤ j → j < (4 : Nat) → B (12 + j) = iand (ishr x4 (8 * (((4 : Nat) : Int) - 1 - j))) 255 := fun j j0 j1 => by
    rw [← eB]; unfold fb
    rw [if_neg (by omega), if_neg (by omega), if_neg (by omega), if_pos (by omega), show 24 - 8 * ((12 + j) % 4) = 8 * (((4 : Nat) : Int) - 1 - j) by omega]
  have s5 : ∀ j : Int, 0 ≤ j → j < (4 : Nat) → B (16 + j) = iand (ishr x5 (8 * (((4 : Nat) : Int) - 1 - j))) 255 := fun j j0 j1 => by
    rw [← eB]; unfold fb
    rw [if_neg (by omega), if_neg (by omega), if_neg (by omega), if_neg (by omega), show 24 - 8 * ((16 + j) % 4) = 8 * (((4 : Nat) : Int) - 1 - j) by omega]
  have c1 : ∀ g : mH, Cl kX_signsIn [vI x1] g = some (some (vI (0 + nz B 4 0)), g) := fun g => by rw [E_X_signsIn]; exact C_signs i1 B 4 0 0 24 (by decide) (by decide) s1 (by decide) (by decide)
  have c2 : ∀ g : mH, Cl kX_signsIn [vI x2] g = some (some (vI (0 + nz B 4 4)), g) := fun g => by rw [E_X_signsIn]; exact C_signs i2 B 4 4 0 24 (by decide) (by decide) s2 (by decide) (by decide)
  have c3 : ∀ g : mH, Cl kX_signsIn [vI x3] g = some (some (vI (0 + nz B 4 8)), g) := fun g => by rw [E_X_signsIn]; exact C_signs i3 B 4 8 0 24 (by decide) (by decide) s3 (by decide) (by decide)
  have c4 : ∀ g : mH, Cl kX_signsIn [vI x4] g = some (some (vI (0 + nz B 4 12)), g) := fun g => by rw [E_X_signsIn]; exact C_signs i4 B 4 12 0 24 (by decide) (by decide) s4 (by decide) (by decide)
  have c5 : ∀ g : mH, Cl kX_signsIn [vI x5] g = some (some (vI (0 + nz B 4 16)), g) := fun g => by rw [E_X_signsIn]; exact C_signs i5 B 4 16 0 24 (by decide) (by decide) s5 (by decide) (by decide)
  have tot : nz B 20 0 = nz B 4 0 + nz B 4 4 + nz B 4 8 + nz B 4 12 + nz B 4 16 := by
    have a := nz_add B 4 16 0
    have b := nz_add B 4 12 4
    have c := nz_add B 4 8 8
    have d := nz_add B 4 4 12
    exact Eq.trans a (by rw [show (0 : Int) + ((4 : Nat) : Int) = 4 from rfl, show nz B 16 4 = _ from b, show (4 : Int) + ((4 : Nat) : Int) = 8 from rfl, show nz B 12 8 = _ from c, show (8 : Int) + ((4 : Nat) : Int) = 12 from rfl, show nz B 8 12 = _ from d, show (12 : Int) + ((4 : Nat) : Int) = 16 from rfl]; omega)
  have b1 := nz_b B 4 0
  have b2 := nz_b B 4 4
  have b3 := nz_b B 4 8
  have b4 := nz_b B 4 12
  have b5 := nz_b B 4 16
  have cl : ∀ {R}, (if n + nz B 20 0 ≤ 160 then (bV (Cl kX_append [vO 10 1, vI x1] h) fun h6 => bV (Cl kX_append [vO 10 1, vI x2] h6) fun h7 => bV (Cl kX_append [vO 10 1, vI x3] h7) fun h8 => bV (Cl kX_append [vO 10 1, vI x4] h8) fun h9 => bV (Cl kX_append [vO 10 1, vI x5] h9) fun h10 => some (some (vI (h10.M 1 1)), h10)) else (some (some (vI (-1)), h))) = R → Cl kX_feed [vO 10 1, vI x1, vI x2, vI x3, vI x4, vI x5] h = R := fun {R} hR => by
    rw [E_X_feed, c1, Z_bI, c2, Z_bI, c3, Z_bI, c4, Z_bI, c5, Z_bI, t2, Int.zero_add, Int.zero_add, Int.zero_add, Int.zero_add, Int.zero_add, Z_wI (z := nz B 4 0 + nz B 4 4) (by omega), Z_wI (z := nz B 4 0 + nz B 4 4 + nz B 4 8) (by omega), Z_wI (z := nz B 4 0 + nz B 4 4 + nz B 4 8 + nz B 4 12) (by omega), Z_wI (z := nz B 4 0 + nz B 4 4 + nz B 4 8 + nz B 4 12 + nz B 4 16) (by omega), ← tot, Z_wI (by omega)]
    exact hR
  have rl : ∀ g : mH, g.M 9 2 = n → Cl kM_feed [vO 11 9, vI x1, vI x2, vI x3, vI x4, vI x5] g = if n + nz B 20 0 ≤ 160 then Rn kM_feed 10 [vO 11 9, vI x1, vI x2, vI x3, vI x4, vI x5, vI (0 + nz B 20 0), vI 0, vU] [] g else some (some (vI (-1)), g) := fun g gn => by
    rw [E_M_feed, R_feed1 x1 x2 x3 x4 x5 vU g 20 0 0 (by decide) (by decide) (by decide) (by decide), eB, gn, Z_wI (by omega), Int.zero_add]
  by_cases z : n + nz B 20 0 ≤ 160
  · have ap : ∀ {x : Int} (_ : inI x) (a : Int) (_ : ∀ j : Int, 0 ≤ j → j < (4 : Nat) → B (a + j) = iand (ishr x (8 * (((4 : Nat) : Int) - 1 - j))) 255) (g : mH) (p : (Int → Int) × Int), lay g → TH 1 1 2 g p → 0 ≤ p.2 → p.2 + nz B 4 a ≤ 160 → ∃ h', Cl kX_append [vO 10 1, vI x] g = some (none, h') ∧ Ew Wfc g h' ∧ TH 1 1 2 h' (apL B 4 a p) := fun {x} ix a s g p Lg X p0 l => by
      rw [E_X_append]
      exact C_append ix B 4 a 24 vU g p (by decide) (by decide) s Lg X p0 l
    have X0 : TH 1 1 2 h (T, n) := ⟨t2, fun i i0 i1 => (t3 i i0 i1).2⟩
    obtain ⟨h1, r1, x1', X1⟩ := ap i1 0 s1 h (T, n) L X0 n0 (show n + _ ≤ 160 by omega)
    have L1 := L.ew x1' fun b j w => wfe_lay (wfc_e w)
    have q1 : (apL B 4 0 (T, n)).2 = n + nz B 4 0 := apL_n ..
    obtain ⟨h2, r2, x2', X2⟩ := ap i2 4 s2 h1 _ L1 X1 (by omega) (by omega)
    have L2 := L1.ew x2' fun b j w => wfe_lay (wfc_e w)
    have q2 : (apL B 4 4 (apL B 4 0 (T, n))).2 = n + nz B 4 0 + nz B 4 4 := (apL_n ..).trans (by rw [q1])
    obtain ⟨h3, r3, x3', X3⟩ := ap i3 8 s3 h2 _ L2 X2 (by omega) (by omega)
    have L3 := L2.ew x3' fun b j w => wfe_lay (wfc_e w)
    have q3 : (apL B 4 8 (apL B 4 4 (apL B 4 0 (T, n)))).2 = n + nz B 4 0 + nz B 4 4 + nz B 4 8 := (apL_n ..).trans (by rw [q2])
    obtain ⟨h4, r4, x4', X4⟩ := ap i4 12 s4 h3 _ L3 X3 (by omega) (by omega)
    have L4 := L3.ew x4' fun b j w => wfe_lay (wfc_e w)
    have q4 : (apL B 4 12 (apL B 4 8 (apL B 4 4 (apL B 4 0 (T, n))))).2 = n + nz B 4 0 + nz B 4 4 + nz B 4 8 + nz B 4 12 := (apL_n ..).trans (by rw [q3])
    obtain ⟨h5, r5, x5', X5⟩ := ap i5 16 s5 h4 _ L4 X4 (by omega) (by omega)
    have L5 := L4.ew x5' fun b j w => wfe_lay (wfc_e w)
    have all : apL B 20 0 (T, n) = apL B 4 16 (apL B 4 12 (apL B 4 8 (apL B 4 4 (apL B 4 0 (T, n))))) := by
      have a := apL_add B 4 16 0 (T, n)
      have b := apL_add B 4 12 4 (apL B 4 0 (T, n))
      have c := apL_add B 4 8 8 (apL B 4 4 (apL B 4 0 (T, n)))
      have d := apL_add B 4 4 12 (apL B 4 8 (apL B 4 4 (apL B 4 0 (T, n))))
      exact a.trans (b.trans (c.trans d))
    rw [← all] at X5
    have xx := (((x1'.tr x2').tr x3').tr x4').tr x5'
    have q5 : (apL B 20 0 (T, n)).2 = n + nz B 20 0 := apL_n ..
    have a : Cl kX_feed [vO 10 1, vI x1, vI x2, vI x3, vI x4, vI x5] h = some (some (vI (n + nz B 20 0)), h5) := cl (by rw [if_pos z, r1, Z_bV, r2, Z_bV, r3, Z_bV, r4, Z_bV, r5, Z_bV, X5.1, q5])
    have Y0 : TH 9 2 10 h5 (T, n) := ⟨(xx.2 9 2 (by unfold Wfc; omega)).trans t1, fun i i0 i1 => (xx.2 10 i (by unfold Wfc; omega)).trans (t3 i i0 i1).1⟩
    have rr := R_feed10 x1 x2 x3 x4 x5 (vI (0 + nz B 20 0)) 20 0 vU h5 (T, n) (by decide) (by decide) L5 Y0 n0 (by rw [eB]; exact z)
    rw [eB] at rr
    obtain ⟨h6, r6, x6, Y6⟩ := rr
    have b : Cl kM_feed [vO 11 9, vI x1, vI x2, vI x3, vI x4, vI x5] h5 = some (some (vI (n + nz B 20 0)), h6) := by
      rw [rl h5 Y0.1, if_pos z]
      exact r6
    have x : Fr Wfe 0 0 h h6 := ((xx.mono fun _ _ w => wfc_e w).tr (x6.mono fun _ _ w => wfm_e w)).fr
    have hw : ∀ b j, Wfe b j → Wok b j := fun b j w => by unfold Wfe at w; unfold Wok; omega
    have tp := apL_tpo hB 20 0 (T, n) t0 z
    have X6 : TH 1 1 2 h6 (apL B 20 0 (T, n)) := ⟨(x6.2 1 1 (by unfold Wfm; omega)).trans X5.1, fun i i0 i1 => (x6.2 2 i (by unfold Wfm; omega)).trans (X5.2 i i0 i1)⟩
    obtain ⟨L6, ic, ih, ig, K, e⟩ := I.wr x hw
    obtain ⟨_, it, _, _, ia, ip, ie, ik, ib, iw, _⟩ := I
    refine ⟨_, _, _, Wfe, a, b, x.mono (fun _ _ w => w) (by decide) (by decide), hw, ⟨(apL B 20 0 (T, n)).1, (apL B 20 0 (T, n)).2, nc, Ds, nh, Xs, L6, ⟨tp, Y6.1, X6.1, fun i i0 i1 => ⟨Y6.2 i i0 i1, X6.2 i i0 i1⟩⟩, ic, ih, ia.cg K fun b j z => e b j ?_ ?_, ip.cg K fun b j z => e b j ?_ ?_, ie.cg fun b j z => e b j ?_ ?_, ?_, ib.cg K fun b j z => e b j ?_ ?_, iw.cg K fun b j z => e b j ?_ ?_, ig⟩, xx.X⟩
    · unfold rA at z; omega
    · unfold rA at z; unfold Wfe; omega
    · unfold rP at z; omega
    · unfold rP at z; unfold Wfe; omega
    · unfold rE at z; omega
    · unfold rE at z; unfold Wfe; omega
    · unfold iK
      rw [e 9 64 (by omega) (by unfold Wfe; omega), e 9 65 (by omega) (by unfold Wfe; omega), e 1 13 (by omega) (by unfold Wfe; omega), e 1 14 (by omega) (by unfold Wfe; omega), e 1 7 (by omega) (by unfold Wfe; omega), e 1 12 (by omega) (by unfold Wfe; omega)]
      exact ik
    · unfold rB at z; omega
    · unfold rB at z; unfold Wfe; omega
    · unfold rW at z; omega
    · unfold rW at z; unfold Wfe; omega
  · exact okw0 I (v := -1) (cl (by rw [if_neg z])) (by rw [rl h t1, if_neg z])
