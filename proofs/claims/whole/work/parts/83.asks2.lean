/-! THE PURE PART, calls: what asks tell together -/
theorem sm_last (f : Int → Int) : ∀ (n : Nat) (a : Int), sm f (n + 1) a = sm f n a + f (a + n) := by
  intro n
  induction n with
  | zero => intro a; show f a + 0 = 0 + f (a + 0); rw [Int.add_zero, Int.zero_add, Int.add_zero]
  | succ n ih =>
    intro a
    have e : a + 1 + (n : Int) = a + ((n + 1 : Nat) : Int) := by omega
    rw [sm_s, ih, sm_s f n a, e]
    omega
theorem sm_add (f g : Int → Int) : ∀ (n : Nat) (a : Int), sm (fun i => f i + g i) n a = sm f n a + sm g n a := by
  intro n
  induction n with
  | zero => intro a; rfl
  | succ n ih =>
    intro a
    rw [sm_s, sm_s, sm_s, ih]
    omega
theorem sm_cg {f g : Int → Int} : ∀ (n : Nat) (a : Int), (∀ i, a ≤ i → i < a + n → f i = g i) → sm f n a = sm g n a := by
  intro n
  induction n with
  | zero => intro a _; rfl
  | succ n ih =>
    intro a e
    rw [sm_s, sm_s, e a (by omega) (by omega), ih (a + 1) fun i h0 h1 => e i (by omega) (by omega)]
theorem sm_b {f : Int → Int} {c : Int} : ∀ (n : Nat) (a : Int), (∀ i, a ≤ i → i < a + n → -c ≤ f i ∧ f i ≤ c) → -(c * n) ≤ sm f n a ∧ sm f n a ≤ c * n := by
  intro n
  induction n with
  | zero => intro a _; show -(c * 0) ≤ 0 ∧ 0 ≤ c * 0; omega
  | succ n ih =>
    intro a e
    have h1 := e a (by omega) (by omega)
    have h2 := ih (a + 1) fun i h0 h1 => e i (by omega) (by omega)
    rw [sm_s]
    have : c * ((n + 1 : Nat) : Int) = c * (n : Int) + c := by
      rw [Int.natCast_add, Int.mul_add]
      omega
    omega
/-- pairs: the later ones of each, the earlier ones of each -/
theorem tri (F : Int → Int → Int) : ∀ n : Nat, sm (fun a => sm (F a) ((n : Int) - 1 - a).toNat (a + 1)) n 0 = sm (fun b => sm (fun a => F a b) b.toNat 0) n 0 := by
  intro n
  induction n with
  | zero => rfl
  | succ n ih =>
    rw [sm_last, sm_last, ← ih]
    have z : sm (F (0 + (n : Int))) (((n + 1 : Nat) : Int) - 1 - (0 + (n : Int))).toNat (0 + (n : Int) + 1) = 0 := by
      rw [show (((n + 1 : Nat) : Int) - 1 - (0 + (n : Int))).toNat = 0 by omega]
      rfl
    rw [z, Int.add_zero]
    have e : sm (fun a => sm (F a) (((n + 1 : Nat) : Int) - 1 - a).toNat (a + 1)) n 0 = sm (fun a => sm (F a) ((n : Int) - 1 - a).toNat (a + 1) + F a n) n 0 := sm_cg n 0 fun i i0 i1 => by
      rw [show (((n + 1 : Nat) : Int) - 1 - i).toNat = ((n : Int) - 1 - i).toNat + 1 by omega, sm_last]
      congr 2
      omega
    rw [e, sm_add]
    congr 1
    rw [Int.zero_add]
    rw [show ((n : Int)).toNat = n by omega]
theorem cmpV_a (a b : Int) : cmpV a b = -cmpV b a := by
  unfold cmpV
  by_cases q : a < b
  · rw [if_pos q, if_neg (by omega), if_neg (by omega)]
  · rw [if_neg q]
    by_cases w : a = b
    · rw [if_pos w, if_neg (by omega), if_pos w.symm]
      rfl
    · rw [if_neg w, if_pos (by omega)]
      rfl
def frV (h : mH) (now a b : Int) : Int := cmpV (iab (h.M 41 a - now)) (iab (h.M 41 b - now)) * cmpV (h.M 45 a) (h.M 45 b)
theorem frV_s (h : mH) (now a b : Int) : frV h now a b = frV h now b a := by
  unfold frV
  rw [cmpV_a, cmpV_a (h.M 45 a), Int.neg_mul_neg]
theorem frV_b (h : mH) (now a b : Int) : -1 ≤ frV h now a b ∧ frV h now a b ≤ 1 := by
  have h1 := cmpV_b (iab (h.M 41 a - now)) (iab (h.M 41 b - now))
  have h2 := cmpV_b (h.M 45 a) (h.M 45 b)
  unfold frV
  generalize cmpV (iab (h.M 41 a - now)) (iab (h.M 41 b - now)) = x at h1 ⊢
  generalize cmpV (h.M 45 a) (h.M 45 b) = y at h2 ⊢
  have hx : x = -1 ∨ x = 0 ∨ x = 1 := by omega
  rcases hx with rfl | rfl | rfl <;> omega
theorem C_yearsFrom {h : mH} {T : Int → Int} {n nc : Int} {Ds : Int → Int → Int → Int → Int} {nh : Int} {Xs : Int → HX} (I : INV h T n nc Ds nh Xs) {i now : Int} (i0 : 0 ≤ i) (i1 : i < h.M 1 7) (n0 : 1 ≤ now ∧ now ≤ 9999) : Cl kAk_yearsFrom [vO 1 (h.M 5 i), vI now] h = some (some (vI (iab (h.M 41 i - now))), h) := by
  obtain ⟨S, _⟩ := I.ask i0 i1
  have T := (I.dok S.1.1.1 S.1.1.2).2.1 _ _ _ S.1.2
  have y := T.1
  rw [E_Ak_yearsFrom, gd_t S.2.2.2.2.2.2.2.1, S.2.2.2.1, Z_wI (z := h.M 41 i - now) (by omega), C_abs (by omega), Z_bI]
theorem C_fur6 {h : mH} {T : Int → Int} {n nc : Int} {Ds : Int → Int → Int → Int → Int} {nh : Int} {Xs : Int → HX} (I : INV h T n nc Ds nh Xs) {a now : Int} (a0 : 0 ≤ a) (a1 : a < h.M 1 7) (n0 : 1 ≤ now ∧ now ≤ 9999) : ∀ (f : Nat) (b x : Int) (u5 : mV), b + f = h.M 1 7 → a < b → -10000 ≤ x - f ∧ x + f ≤ 10000 → ∃ w4 w5, Rn kX_further 6 [vO 10 1, vI now, vI x, vI a, vI b, u5] [] h = Rn kX_further 4 [vO 10 1, vI now, vI (x + sm (frV h now a) f b), vI (a + 1), w4, w5] [] h := by
  have L := I.1
  have nb := I.na
  intro f
  induction f with
  | zero =>
    intro b x u5 e ab xb
    refine ⟨vI b, u5, ?_⟩
    rw [E_X_further_6, if_neg (by omega), Z_wI (by omega)]
    show _ = Rn kX_further 4 [vO 10 1, vI now, vI (x + 0), vI (a + 1), vI b, u5] [] h
    rw [Int.add_zero]
  | succ f ih =>
    intro b x u5 e ab xb
    have A := I.ask a0 a1
    have B := I.ask (i := b) (by omega) (by omega)
    have fb := frV_b h now a b
    have ff : cmpV (iab (h.M 41 a - now)) (iab (h.M 41 b - now)) * cmpV (h.M 45 a) (h.M 45 b) = frV h now a b := rfl
    obtain ⟨w4, w5, e1⟩ := ih (b + 1) (x + frV h now a b) (vI (cmpV (iab (h.M 41 a - now)) (iab (h.M 41 b - now)))) (by omega) (by omega) (by omega)
    refine ⟨w4, w5, ?_⟩
    rw [E_X_further_6, if_pos (by omega), lx6 L, ln5 L, gd_t (by omega), gd_t A.2.2.2.2.2.2.2.1, C_yearsFrom I a0 a1 n0, Z_bI, lx6 L, ln5 L, gd_t (by omega), gd_t B.2.2.2.2.2.2.2.1, C_yearsFrom I (by omega) (by omega) n0, Z_bI, C_cmp, Z_bI, lx6 L, ln5 L, gd_t (by omega), gd_t A.2.2.2.2.2.2.2.1, gd_t (by omega), gd_t B.2.2.2.2.2.2.2.1, A.2.2.2.1, B.2.2.2.1, C_cmp, Z_bI, ff, Z_wI (z := frV h now a b) (by omega), Z_wI (z := x + frV h now a b) (by omega), Z_wI (z := b + 1) (by omega), e1, sm_s, Int.add_assoc]
theorem R_fur6 {h : mH} {T : Int → Int} {n nc : Int} {Ds : Int → Int → Int → Int → Int} {nh : Int} {Xs : Int → HX} (I : INV h T n nc Ds nh Xs) {a now : Int} (a0 : 0 ≤ a) (a1 : a < h.M 1 7) (n0 : 1 ≤ now ∧ now ≤ 9999) : ∀ (f : Nat) (b x : Int) (u5 : mV), b + f = a → 0 ≤ b → -10000 ≤ x - f ∧ x + f ≤ 10000 → ∃ w4 w5, Rn kM_further 6 [vO 11 9, vI now, vI x, vI a, vI b, u5] [] h = Rn kM_further 4 [vO 11 9, vI now, vI (x + sm (fun b => frV h now b a) f b), vI (a + 1), w4, w5] [] h := by
  have L := I.1
  have nb := I.na
  intro f
  induction f with
  | zero =>
    intro b x u5 e ab xb
    refine ⟨vI b, u5, ?_⟩
    rw [E_M_further_6, if_neg (by omega), Z_wI (by omega)]
    show _ = Rn kM_further 4 [vO 11 9, vI now, vI (x + 0), vI (a + 1), vI b, u5] [] h
    rw [Int.add_zero]
  | succ f ih =>
    intro b x u5 e ab xb
    have A := I.ask a0 a1
    have B := I.ask (i := b) (by omega) (by omega)
    have ya := ((I.dok A.1.1.1.1 A.1.1.1.2).2.1 _ _ _ A.1.1.2).1
    have yb := ((I.dok B.1.1.1.1 B.1.1.1.2).2.1 _ _ _ B.1.1.2).1
    have fb := frV_b h now b a
    have ff : cmpV (iab (h.M 41 a - now)) (iab (h.M 41 b - now)) * cmpV (h.M 45 a) (h.M 45 b) = frV h now b a := frV_s h now a b
    obtain ⟨w4, w5, e1⟩ := ih (b + 1) (x + frV h now b a) (vI (cmpV (iab (h.M 41 a - now)) (iab (h.M 41 b - now)))) (by omega) (by omega) (by omega)
    refine ⟨w4, w5, ?_⟩
    rw [E_M_further_6, if_pos (by omega), lm44 L, ln41 L, gd_t (by omega), Z_wI (z := h.M 41 a - now) (by omega), C_abs (by omega), Z_bI, lm44 L, ln41 L, gd_t (by omega), Z_wI (z := h.M 41 b - now) (by omega), C_abs (by omega), Z_bI, C_cmp, Z_bI, lm48 L, ln45 L, gd_t (by omega), gd_t (by omega), C_cmp, Z_bI, ff, Z_wI (z := frV h now b a) (by omega), Z_wI (z := x + frV h now b a) (by omega), Z_wI (z := b + 1) (by omega), e1, sm_s, Int.add_assoc]
theorem ok_further {now : Int} : okc kX_further kM_further [vI now] := okq0 fun h T n nc Ds nh Xs I => by
  have L := I.1
  have nb := I.na
  rw [E_X_further, C_isYear, Z_bI, E_M_further, R_in, Z_bI]
  by_cases n0 : 1 ≤ now ∧ now ≤ 9999
  · have mc : ∀ (f : Nat) (a x : Int) (u4 u5 : mV), a + f = h.M 1 7 → 0 ≤ a → -60 * a ≤ x ∧ x ≤ 60 * a → Rn kX_further 4 [vO 10 1, vI now, vI x, vI a, u4, u5] [] h = some (some (vI (x + sm (fun a => sm (frV h now a) (h.M 1 7 - 1 - a).toNat (a + 1)) f a)), h) := by
      intro f
      induction f with
      | zero =>
        intro a x u4 u5 e a0 x0
        rw [E_X_further_4, if_neg (by omega)]
        show _ = some (some (vI (x + 0)), h)
        rw [Int.add_zero]
      | succ f ih =>
        intro a x u4 u5 e a0 x0
        obtain ⟨w4, w5, e1⟩ := C_fur6 I (a := a) a0 (by omega) n0 (h.M 1 7 - 1 - a).toNat (a + 1) x u5 (by omega) (by omega) (by omega)
        have b := sm_b (f := frV h now a) (c := 1) (h.M 1 7 - 1 - a).toNat (a + 1) fun i _ _ => frV_b h now a i
        rw [E_X_further_4, if_pos (by omega), Z_wI (by omega), e1, ih (a + 1) _ w4 w5 (by omega) (by omega) (by omega), sm_s, Int.add_assoc]
    have mm : ∀ (f : Nat) (a x : Int) (u4 u5 : mV), a + f = h.M 1 7 → 0 ≤ a → -60 * a ≤ x ∧ x ≤ 60 * a → Rn kM_further 4 [vO 11 9, vI now, vI x, vI a, u4, u5] [] h = some (some (vI (x + sm (fun a => sm (fun b => frV h now b a) a.toNat 0) f a)), h) := by
      intro f
      induction f with
      | zero =>
        intro a x u4 u5 e a0 x0
        rw [E_M_further_4, nb.1, if_neg (by omega)]
        show _ = some (some (vI (x + 0)), h)
        rw [Int.add_zero]
      | succ f ih =>
        intro a x u4 u5 e a0 x0
        obtain ⟨w4, w5, e1⟩ := R_fur6 I (a := a) a0 (by omega) n0 a.toNat 0 x u5 (by omega) (by omega) (by omega)
        have b := sm_b (f := fun b => frV h now b a) (c := 1) a.toNat 0 fun i _ _ => frV_b h now i a
        rw [E_M_further_4, nb.1, if_pos (by omega), e1, ih (a + 1) _ w4 w5 (by omega) (by omega) (by omega), sm_s, Int.add_assoc]
    have t := tri (frV h now) (h.M 1 7).toNat
    rw [show (((h.M 1 7).toNat : Nat) : Int) = h.M 1 7 by omega] at t
    refine ⟨0 + sm (fun a => sm (fun b => frV h now b a) a.toNat 0) (h.M 1 7).toNat 0, ?_, ?_⟩
    · rw [bz_t n0, if_neg n10, mc (h.M 1 7).toNat 0 0 _ _ (by omega) (by omega) (by omega), t]
    · rw [bz_t n0, if_neg n10, mm (h.M 1 7).toNat 0 0 _ _ (by omega) (by omega) (by omega)]
  · exact ⟨-1000, by rw [bz_f n0, if_pos rfl], by rw [bz_f n0, if_pos rfl]⟩
theorem R_mean {s k : Int} (s0 : 0 ≤ s ∧ s ≤ 600000) (k0 : 0 ≤ k) (h : mH) : Cl kM_mean [vI s, vI k] h = some (some (vI (if k = 0 then -1 else s / k)), h) := by
  rw [E_M_mean]
  by_cases q : k = 0
  · rw [if_pos q, if_pos q]
  · have h1 : 0 ≤ s / k := Int.ediv_nonneg s0.1 k0
    have h2 : s / k ≤ s := Int.ediv_le_self k s0.1
    rw [if_neg q, if_neg q, gd_t q, Z_tdiv s0.1, Z_wI (by omega)]
theorem lv_both {h : mH} {T : Int → Int} {n nc : Int} {Ds : Int → Int → Int → Int → Int} {nh : Int} {Xs : Int → HX} (I : INV h T n nc Ds nh Xs) (b0 : h.M 1 17 ≠ 0) {w : Int} (w0 : w = 0 ∨ w = 1) : ∀ (f : Nat) (i s k : Int), i + f = h.M 1 7 → 0 ≤ i → 0 ≤ s → s ≤ 9999 * i → 0 ≤ k → k ≤ i → ∃ v, Rn kX_lived 5 [vO 10 1, vI w, vI s, vI k, vI i] [] h = some (some (vI v), h) ∧ Rn kM_lived 5 [vO 11 9, vI w, vI s, vI k, vI i] [] h = some (some (vI v), h) := by
  have L := I.1
  have nb := I.na
  have ib : spt h nc Ds (h.M 1 17) (h.M 9 57) (h.M 9 58) (h.M 9 59) (h.M 9 60) ∧ h.M 9 56 = Ds (h.M 9 57) (h.M 9 58) (h.M 9 59) (h.M 9 60) := by
    rcases I.2.2.2.2.2.2.2.2.1 with ⟨b1, b2⟩ | b1
    · exact absurd b1 b0
    · exact b1
  intro f
  induction f with
  | zero =>
    intro i s k e i0 s0 s1 k0 k1
    refine ⟨if k = 0 then -1 else s / k, ?_, ?_⟩
    · rw [E_X_lived_5, if_neg (by omega)]
      by_cases q : k = 0
      · rw [if_pos q, if_pos q]
      · have h1 : 0 ≤ s / k := Int.ediv_nonneg s0 k0
        have h2 : s / k ≤ s := Int.ediv_le_self k s0
        rw [if_neg q, if_neg q, gd_t q, Z_tdiv s0, Z_wI (by omega)]
    · rw [E_M_lived_5, nb.1, if_neg (by omega), R_mean ⟨s0, by omega⟩ k0, Z_bI]
  | succ f ih =>
    intro i s k e i0 s0 s1 k0 k1
    have A := I.ask i0 (by omega)
    have pa := A.2.2.2.2.2.2.2.1
    have tb := A.2.2.2.2.2.2.1
    rw [E_X_lived_5, if_pos (by omega), lx6 L, ln5 L, gd_t (by omega), gd_t pa, gd_t A.1.2.2.2.2.2.2.2.1, gd_t b0, A.1.2.2.2.2.2.2.1, ib.1.2.2.2.2.2.2.1, E_M_lived_5, nb.1, if_pos (show i < h.M 1 7 by omega), R_askDay I i0 (by omega), Z_bI, ib.2]
    obtain ⟨va, ea1, ea2⟩ := ih (i + 1) s k (by omega) (by omega) s0 (by omega) k0 (by omega)
    obtain ⟨vb, eb1, eb2⟩ := ih (i + 1) (s + h.M 45 i) (k + 1) (by omega) (by omega) (by omega) (by omega) (by omega) (by omega)
    have add1 : ∀ z : Int, z = 1 ∨ z = 0 → (w = 0 ∧ z = 1) ∨ (w = 1 ∧ z = 0) → Rn kX_lived 9 [vO 10 1, vI w, vI s, vI k, vI i] [vI z] h = some (some (vI vb), h) ∧ Rn kM_lived 10 [vO 11 9, vI w, vI s, vI k, vI i] [vI z] h = some (some (vI vb), h) := fun z _ hz => by
      rw [E_X_lived_9, E_M_lived_10]
      rcases hz with ⟨a, b⟩ | ⟨a, b⟩
      · rw [if_pos a, if_pos b, lx6 L, ln5 L, gd_t (by omega), gd_t pa, A.2.2.2.1, if_pos a, if_pos b, lm48 L, ln45 L, gd_t (by omega), Z_wI (z := s + h.M 45 i) (by omega), Z_wI (z := k + 1) (by omega), Z_wI (z := i + 1) (by omega)]
        exact ⟨eb1, eb2⟩
      · rw [if_neg (by omega), if_pos b, lx6 L, ln5 L, gd_t (by omega), gd_t pa, A.2.2.2.1, if_neg (by omega), if_pos b, lm48 L, ln45 L, gd_t (by omega), Z_wI (z := s + h.M 45 i) (by omega), Z_wI (z := k + 1) (by omega), Z_wI (z := i + 1) (by omega)]
        exact ⟨eb1, eb2⟩
    have not1 : ∀ z : Int, (w = 0 ∧ z = 0) ∨ (w = 1 ∧ z = 1) → Rn kX_lived 9 [vO 10 1, vI w, vI s, vI k, vI i] [vI z] h = some (some (vI va), h) ∧ Rn kM_lived 10 [vO 11 9, vI w, vI s, vI k, vI i] [vI z] h = some (some (vI va), h) := fun z hz => by
      rw [E_X_lived_9, E_M_lived_10]
      rcases hz with ⟨a, b⟩ | ⟨a, b⟩
      · rw [if_pos a, if_neg (by omega), if_pos a, if_neg (by omega), Z_wI (z := i + 1) (by omega)]
        exact ⟨ea1, ea2⟩
      · rw [if_neg (by omega), if_neg (by omega), if_neg (by omega), if_neg (by omega), Z_wI (z := i + 1) (by omega)]
        exact ⟨ea1, ea2⟩
    by_cases q : Ds (h.M 40 i) (h.M 41 i) (h.M 42 i) (h.M 43 i) < Ds (h.M 9 57) (h.M 9 58) (h.M 9 59) (h.M 9 60)
    · rw [if_pos q, if_pos q]
      rcases w0 with w0 | w0
      · exact ⟨va, not1 0 (Or.inl ⟨w0, rfl⟩)⟩
      · exact ⟨vb, add1 0 (Or.inr rfl) (Or.inr ⟨w0, rfl⟩)⟩
    · rw [if_neg q, if_neg q]
      rcases w0 with w0 | w0
      · exact ⟨vb, add1 1 (Or.inl rfl) (Or.inl ⟨w0, rfl⟩)⟩
      · exact ⟨va, not1 1 (Or.inr ⟨w0, rfl⟩)⟩
theorem ok_lived {w : Int} : okc kX_lived kM_lived [vI w] := okq0 fun h T n nc Ds nh Xs I => by
  have nb := I.na
  rw [E_X_lived, E_M_lived, R_in, Z_bI]
  rcases I.2.2.2.2.2.2.2.2.1 with ⟨b1, b2⟩ | ⟨b1, b2⟩
  · exact ⟨-1, by rw [if_pos b1], by rw [if_pos b2]⟩
  · rw [if_neg b1.2.2.2.2.2.2.2.1, if_neg (show ¬ h.M 9 56 = -1 by rw [b2]; exact b1.1.2)]
    by_cases w0 : 0 ≤ w ∧ w ≤ 1
    · obtain ⟨v, e1, e2⟩ := lv_both I b1.2.2.2.2.2.2.2.1 (w := w) (by omega) (h.M 1 7).toNat 0 0 0 (by omega) (by omega) (by omega) (by omega) (by omega) (by omega)
      exact ⟨v, by rw [if_neg (by omega), if_pos w0.2]; exact e1, by rw [bz_t w0, if_neg n10]; exact e2⟩
    · refine ⟨-1, ?_, by rw [bz_f w0, if_pos rfl]⟩
      by_cases z : w < 0
      · rw [if_pos z]
      · rw [if_neg z, if_neg (by omega)]
theorem af_both {h : mH} {T : Int → Int} {n nc : Int} {Ds : Int → Int → Int → Int → Int} {nh : Int} {Xs : Int → HX} (I : INV h T n nc Ds nh Xs) {w : Int} (w0 : w = 0 ∨ w = 1) : ∀ (f : Nat) (i s k : Int) (u5 u6 : mV), (i + f = h.M 1 7 ∨ (f = 0 ∧ h.M 1 7 ≤ i ∧ i ≤ 60)) → 1 ≤ i → 0 ≤ s → s ≤ 9999 * i → 0 ≤ k → k ≤ i → ∃ v, Rn kX_after 4 [vO 10 1, vI w, vI s, vI k, vI i] [] h = some (some (vI v), h) ∧ Rn kM_after 4 [vO 11 9, vI w, vI s, vI k, vI i, u5, u6] [] h = some (some (vI v), h) := by
  have L := I.1
  have nb := I.na
  intro f
  induction f with
  | zero =>
    intro i s k u5 u6 e i0 s0 s1 k0 k1
    refine ⟨if k = 0 then -1 else s / k, ?_, ?_⟩
    · rw [E_X_after_4, if_neg (by omega)]
      by_cases q : k = 0
      · rw [if_pos q, if_pos q]
      · have h1 : 0 ≤ s / k := Int.ediv_nonneg s0 k0
        have h2 : s / k ≤ s := Int.ediv_le_self k s0
        rw [if_neg q, if_neg q, gd_t q, Z_tdiv s0, Z_wI (by omega)]
    · rw [E_M_after_4, nb.1, if_neg (by omega), R_mean ⟨s0, by omega⟩ k0, Z_bI]
  | succ f ih =>
    intro i s k u5 u6 e i0 s0 s1 k0 k1
    have ib : i + ((f + 1 : Nat) : Int) = h.M 1 7 := by omega
    have A := I.ask (i := i) (by omega) (by omega)
    have B := I.ask (i := i - 1) (by omega) (by omega)
    have pa := A.2.2.2.2.2.2.2.1
    have pb := B.2.2.2.2.2.2.2.1
    have tb := A.2.2.2.2.2.2.1
    have OA := I.dok A.1.1.1.1 A.1.1.1.2
    have OB := I.dok B.1.1.1.1 B.1.1.1.2
    -- one ask more, or none
    have fin : ∀ (z : Int) (v5 : mV), z = 0 ∨ z = 1 → ∃ v, (if w = 0 then if z = 1 then gd ((0 : Int) ≤ i ∧ i < h.N 5 ∧ (5 : Int) ≠ 0) <| gd (h.M 5 i ≠ 0) <| Rn kX_after 4 [vO 10 1, vI w, vI (wI (s + h.M (h.M 5 i) 3)), vI (wI (k + 1)), vI (wI (i + 1))] [] h else Rn kX_after 4 [vO 10 1, vI w, vI s, vI k, vI (wI (i + 1))] [] h else if z = 0 then gd ((0 : Int) ≤ i ∧ i < h.N 5 ∧ (5 : Int) ≠ 0) <| gd (h.M 5 i ≠ 0) <| Rn kX_after 4 [vO 10 1, vI w, vI (wI (s + h.M (h.M 5 i) 3)), vI (wI (k + 1)), vI (wI (i + 1))] [] h else Rn kX_after 4 [vO 10 1, vI w, vI s, vI k, vI (wI (i + 1))] [] h) = some (some (vI v), h) ∧ Rn kM_after 11 [vO 11 9, vI w, vI s, vI k, vI i, v5, u6] [vI z] h = some (some (vI v), h) := by
      intro z v5 hz
      obtain ⟨va, ea1, ea2⟩ := ih (i + 1) s k v5 (vI z) (by omega) (by omega) s0 (by omega) k0 (by omega)
      obtain ⟨vb, eb1, eb2⟩ := ih (i + 1) (s + h.M 45 i) (k + 1) v5 (vI z) (by omega) (by omega) (by omega) (by omega) (by omega) (by omega)
      rw [E_M_after_11, ln5 L, A.2.2.2.1, lm48 L, ln45 L, Z_wI (z := s + h.M 45 i) (by omega), Z_wI (z := k + 1) (by omega), Z_wI (z := i + 1) (by omega)]
      rcases w0 with w0 | w0
      · rw [if_pos w0, if_pos w0]
        by_cases q : z = 1
        · exact ⟨vb, by rw [if_pos q, gd_t (by omega), gd_t pa]; exact eb1, by rw [if_pos q, gd_t (by omega)]; exact eb2⟩
        · exact ⟨va, by rw [if_neg q]; exact ea1, by rw [if_neg q]; exact ea2⟩
      · rw [if_neg (by omega : ¬ w = 0), if_neg (by omega : ¬ w = 0)]
        by_cases q : z = 0
        · exact ⟨vb, by rw [if_pos q, gd_t (by omega), gd_t pa]; exact eb1, by rw [if_pos q, gd_t (by omega)]; exact eb2⟩
        · exact ⟨va, by rw [if_neg q]; exact ea1, by rw [if_neg q]; exact ea2⟩
    rw [E_X_after_4, if_pos (by omega), lx6 L, gd_t (by rw [ln5 L]; omega), gd_t pa, Z_wI (z := i - 1) (by omega), gd_t (by rw [ln5 L]; omega), gd_t pb, gd_t A.1.2.2.2.2.2.2.2.1, C_spLike I A.1 B.1, Z_bI, lx6 L, E_M_after_4, nb.1, if_pos (show i < h.M 1 7 by omega), lm43 L, lm44 L, ln40 L, ln41 L, gd_t (show (0 : Int) ≤ i ∧ i < 60 ∧ (40 : Int) ≠ 0 by omega), gd_t (show (0 : Int) ≤ i ∧ i < 60 ∧ (41 : Int) ≠ 0 by omega), R_kindOf I.mcs A.1.1.1.1 A.1.1.1.2, Z_bI, kd_Y OA]
    by_cases k1' : kdY (Ds (h.M 40 i)) (h.M 41 i) = -1
    · rw [cb_f (p := kdY (Ds (h.M 40 i)) (h.M 41 i) ≠ -1 ∧ kdY (Ds (h.M 40 i)) (h.M 41 i) = kdY (Ds (h.M 40 (i - 1))) (h.M 41 (i - 1))) fun z => z.1 k1', if_pos k1']
      exact fin 0 _ (Or.inl rfl)
    · rw [if_neg k1', Z_wI (z := i - 1) (by omega), lm43 L, lm44 L, ln40 L, ln41 L, gd_t (show (0 : Int) ≤ i - 1 ∧ i - 1 < 60 ∧ (40 : Int) ≠ 0 by omega), gd_t (show (0 : Int) ≤ i - 1 ∧ i - 1 < 60 ∧ (41 : Int) ≠ 0 by omega), R_kindOf I.mcs B.1.1.1.1 B.1.1.1.2, Z_bI, kd_Y OB]
      by_cases k2 : kdY (Ds (h.M 40 i)) (h.M 41 i) = kdY (Ds (h.M 40 (i - 1))) (h.M 41 (i - 1))
      · rw [cb_t ⟨k1', k2⟩, if_pos k2]
        exact fin 1 _ (Or.inr rfl)
      · rw [cb_f (p := kdY (Ds (h.M 40 i)) (h.M 41 i) ≠ -1 ∧ kdY (Ds (h.M 40 i)) (h.M 41 i) = kdY (Ds (h.M 40 (i - 1))) (h.M 41 (i - 1))) fun z => k2 z.2, if_neg k2]
        exact fin 0 _ (Or.inl rfl)
theorem ok_after {w : Int} : okc kX_after kM_after [vI w] := okq0 fun h T n nc Ds nh Xs I => by
  have nb := I.na
  rw [E_X_after, E_M_after, R_in, Z_bI]
  by_cases w0 : 0 ≤ w ∧ w ≤ 1
  · obtain ⟨v, e1, e2⟩ := af_both I (w := w) (by omega) (h.M 1 7 - 1).toNat 1 0 0 vU vU (by omega) (by omega) (by omega) (by omega) (by omega) (by omega)
    exact ⟨v, by rw [if_neg (by omega), if_pos w0.2]; exact e1, by rw [bz_t w0, if_neg n10]; exact e2⟩
  · refine ⟨-1, ?_, by rw [bz_f w0, if_pos rfl]⟩
    by_cases z : w < 0
    · rw [if_pos z]
    · rw [if_neg z, if_neg (by omega)]
