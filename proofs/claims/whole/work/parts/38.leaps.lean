/-! THE PURE PART, rows of leaps: what a text says, how both read it -/
def upf (f : Int → Int) (k v : Int) : Int → Int := fun i => if i = k then v else f i
def rlS (T : Int → Int) : Nat → Int → (Int → Int) → (Int → Int) → Int × Int → Int × (Int → Int) × (Int → Int) × Int × Int
  | 0, k, b, i, s => (k, b, i, s.1, if s.2 = -1 then s.1 else s.2)
  | n + 1, k, b, i, s =>
    if (nmS T 1 9999 s).2.2 = -1 then
      if T (sk T (nmS T 1 9999 s).2.1) = 43 ∨ T (sk T (nmS T 1 9999 s).2.1) = 45 then
        if 48 ≤ T (sk T (sk T (nmS T 1 9999 s).2.1 + 1)) ∧ T (sk T (sk T (nmS T 1 9999 s).2.1 + 1)) ≤ 57 then
          rlS T n (k + 1) (upf b k (nmS T 1 9999 s).1) (upf i k (if T (sk T (nmS T 1 9999 s).2.1) = 43 then 1 else 0)) (sk T (sk T (nmS T 1 9999 s).2.1 + 1), -1)
        else (k + 1, upf b k (nmS T 1 9999 s).1, upf i k (if T (sk T (nmS T 1 9999 s).2.1) = 43 then 1 else 0), sk T (sk T (nmS T 1 9999 s).2.1 + 1), -1)
      else (k, b, i, sk T (nmS T 1 9999 s).2.1, sk T (nmS T 1 9999 s).2.1)
    else (k, b, i, (nmS T 1 9999 s).2)
theorem rlS_z (T : Int → Int) (k : Int) (b i : Int → Int) (s : Int × Int) : rlS T 0 k b i s = (k, b, i, s.1, if s.2 = -1 then s.1 else s.2) := rfl
theorem rlS_bad {T : Int → Int} {n : Nat} {k : Int} {b i : Int → Int} {s : Int × Int} (h : (nmS T 1 9999 s).2.2 ≠ -1) : rlS T (n + 1) k b i s = (k, b, i, (nmS T 1 9999 s).2) := if_neg h
theorem rlS_no {T : Int → Int} {n : Nat} {k : Int} {b i : Int → Int} {s : Int × Int} (h : (nmS T 1 9999 s).2.2 = -1) (h2 : ¬ (T (sk T (nmS T 1 9999 s).2.1) = 43 ∨ T (sk T (nmS T 1 9999 s).2.1) = 45)) : rlS T (n + 1) k b i s = (k, b, i, sk T (nmS T 1 9999 s).2.1, sk T (nmS T 1 9999 s).2.1) := (if_pos h).trans (if_neg h2)
theorem rlS_end {T : Int → Int} {n : Nat} {k : Int} {b i : Int → Int} {s : Int × Int} (h : (nmS T 1 9999 s).2.2 = -1) (h2 : T (sk T (nmS T 1 9999 s).2.1) = 43 ∨ T (sk T (nmS T 1 9999 s).2.1) = 45) (h3 : ¬ (48 ≤ T (sk T (sk T (nmS T 1 9999 s).2.1 + 1)) ∧ T (sk T (sk T (nmS T 1 9999 s).2.1 + 1)) ≤ 57)) : rlS T (n + 1) k b i s = (k + 1, upf b k (nmS T 1 9999 s).1, upf i k (if T (sk T (nmS T 1 9999 s).2.1) = 43 then 1 else 0), sk T (sk T (nmS T 1 9999 s).2.1 + 1), -1) := ((if_pos h).trans (if_pos h2)).trans (if_neg h3)
theorem rlS_on {T : Int → Int} {n : Nat} {k : Int} {b i : Int → Int} {s : Int × Int} (h : (nmS T 1 9999 s).2.2 = -1) (h2 : T (sk T (nmS T 1 9999 s).2.1) = 43 ∨ T (sk T (nmS T 1 9999 s).2.1) = 45) (h3 : 48 ≤ T (sk T (sk T (nmS T 1 9999 s).2.1 + 1)) ∧ T (sk T (sk T (nmS T 1 9999 s).2.1 + 1)) ≤ 57) : rlS T (n + 1) k b i s = rlS T n (k + 1) (upf b k (nmS T 1 9999 s).1) (upf i k (if T (sk T (nmS T 1 9999 s).2.1) = 43 then 1 else 0)) (sk T (sk T (nmS T 1 9999 s).2.1 + 1), -1) := ((if_pos h).trans (if_pos h2)).trans (if_pos h3)
def lpR (r : Int × (Int → Int) × (Int → Int) × Int × Int) : Int → Int := lpk r.2.1 r.2.2.1 r.1.toNat
theorem rlS_b {T : Int → Int} {N : Int} (hT : tpo T N) : ∀ (n : Nat) (k : Int) (b i : Int → Int) (s : Int × Int), gs N s → gs N (rlS T n k b i s).2.2.2 ∧ ((rlS T n k b i s).2.2.2.2 = -1 → s.2 = -1) ∧ -1 ≤ (rlS T n k b i s).2.2.2.2 ∨ s.2 < -1 := by
  intro n
  induction n with
  | zero =>
    intro k b i s g
    rw [rlS_z]
    by_cases q : s.2 = -1
    · obtain ⟨g1, g2⟩ := g q
      left
      dsimp only
      rw [if_pos q]
      exact ⟨fun z => by dsimp only at z; omega, fun _ => q, by omega⟩
    · dsimp only
      rw [if_neg q]
      rcases Int.lt_or_le s.2 (-1) with z | z
      · exact Or.inr z
      · exact Or.inl ⟨fun z => absurd z q, fun z => absurd z q, by omega⟩
  | succ n ih =>
    intro k b i s g
    have hn := hT.2.1
    have m := nmS_b hT g (lo := 1) 9999 (by omega)
    rcases Int.lt_or_le s.2 (-1) with zz | zz
    · exact Or.inr zz
    left
    have mm : -1 ≤ (nmS T 1 9999 s).2.2 := by
      unfold nmS
      by_cases q : s.2 = -1
      · rw [if_pos q]
        exact (nm_b hT (g q).1 (g q).2 (by omega)).2.2.1
      · rw [if_neg q]
        exact zz
    by_cases h : (nmS T 1 9999 s).2.2 = -1
    · obtain ⟨m1, m2⟩ := m.1 h
      have s1 := sk_b hT m1 m2
      by_cases h2 : T (sk T (nmS T 1 9999 s).2.1) = 43 ∨ T (sk T (nmS T 1 9999 s).2.1) = 45
      · have l := tp_lt hT (a := sk T (nmS T 1 9999 s).2.1) (by omega)
        have s2 := sk_b hT (a := sk T (nmS T 1 9999 s).2.1 + 1) (by omega) (by omega)
        by_cases h3 : 48 ≤ T (sk T (sk T (nmS T 1 9999 s).2.1 + 1)) ∧ T (sk T (sk T (nmS T 1 9999 s).2.1 + 1)) ≤ 57
        · rw [rlS_on h h2 h3]
          rcases ih (k + 1) (upf b k (nmS T 1 9999 s).1) (upf i k (if T (sk T (nmS T 1 9999 s).2.1) = 43 then 1 else 0)) (sk T (sk T (nmS T 1 9999 s).2.1 + 1), -1) (fun _ => by dsimp only; omega) with z | z
          · exact ⟨z.1, fun _ => (m.2.2.2 h).1, z.2.2⟩
          · dsimp only at z; omega
        · rw [rlS_end h h2 h3]
          exact ⟨fun _ => by dsimp only; omega, fun _ => (m.2.2.2 h).1, by dsimp only; omega⟩
      · rw [rlS_no h h2]
        exact ⟨fun z => by dsimp only at z; omega, fun z => by dsimp only at z; omega, by dsimp only; omega⟩
    · rw [rlS_bad h]
      exact ⟨m.1, fun z => absurd z h, mm⟩
/-! the reference -/
def WL (s : Int) : Int → Int → Prop := fun b k => (b = 9 ∧ (k = 3 ∨ k = 4)) ∨ (b = 13 ∧ k = s) ∨ ((b = 14 ∨ b = 15) ∧ 8 * s ≤ k ∧ k < 8 * s + 8) ∨ (b = 19 ∧ 10001 * s ≤ k ∧ k < 10001 * s + 10001)
theorem WL_lay {s b k : Int} (w : WL s b k) : layA b k = 0 := by
  rcases w with w | w | w | w
  · obtain ⟨rfl, w⟩ := w
    rcases w with rfl | rfl <;> rfl
  · exact layA_n _ (by omega) (by omega)
  · exact layA_n _ (by omega) (by omega)
  · exact layA_n _ (by omega) (by omega)
theorem Ew.mtp {W : Int → Int → Prop} {h h1 : mH} {T : Int → Int} {n : Int} (H : mtp h T n) (x : Ew W h h1) (hw : ∀ b k, W b k → layA b k = 0 ∧ ¬ (b = 9 ∧ k = 2) ∧ b ≠ 10) : mtp h1 T n := ⟨H.1.ew x fun b k w => (hw b k w).1, (x.2 9 2 fun w => (hw _ _ w).2.1 ⟨rfl, rfl⟩).trans H.2.1, fun i i0 i1 => (x.2 10 i fun w => (hw _ _ w).2.2 rfl).trans (H.2.2 i i0 i1)⟩
theorem WL_tp {s b k : Int} (w : WL s b k) : layA b k = 0 ∧ ¬ (b = 9 ∧ k = 2) ∧ b ≠ 10 := by
  refine ⟨WL_lay w, ?_, ?_⟩ <;> (unfold WL at w; omega)
def WP : Int → Int → Prop := fun b k => b = 9 ∧ (k = 3 ∨ k = 4)
theorem pst_ew (h : mH) (a w : Int) : Ew WP h (pst h a w) := (Ew.st h a (W := WP) ⟨rfl, Or.inl rfl⟩).tr (Ew.st _ w ⟨rfl, Or.inr rfl⟩)
theorem WP_WL {s b k : Int} (w : WP b k) : WL s b k := Or.inl w
theorem R_leaps0 {T : Int → Int} {N : Int} {s : Int} (s0 : 0 ≤ s) (s1 : s < 28) {h : mH} (H : mtp h T N) {a : Int} (h4 : h.M 9 4 = -1) (h3 : h.M 9 3 = a) {b i : Int → Int} {k : Int} (hk : h.M 13 s = k) (k0 : 0 ≤ k) (k1 : k ≤ 8) (hb : ∀ j, 0 ≤ j → j < k → h.M 14 (8 * s + j) = b j ∧ h.M 15 (8 * s + j) = i j ∧ 1 ≤ b j ∧ b j ≤ 9999 ∧ (i j = 0 ∨ i j = 1)) (u3 u4 : mV) : ∃ h', Rn kM_readLeaps 1 [vO 11 9, vI s, vI 0, u3, u4] [] h = some (none, h') ∧ Ew (WL s) h h' ∧ h'.M 9 3 = a ∧ h'.M 9 4 = -1 ∧ mlr h' s (lpk b i k.toNat) ∧ mbf h' s (lpk b i k.toNat) := by
  have R : mlr h s (lpk b i k.toNat) := by
    refine ⟨by omega, by omega, fun j j0 j1 => ?_, fun y => ?_⟩
    · obtain ⟨a1, a2, a3, a4, a5⟩ := hb j j0 (by omega)
      rw [a1, a2]
      exact ⟨a3, a4, a5⟩
    · rw [hk]
      exact lpk_cg _ _ fun j j0 j1 => ⟨(hb j j0 (by omega)).1.symm, (hb j j0 (by omega)).2.1.symm⟩
  obtain ⟨h', e, x, F⟩ := R_layOut s0 s1 H.1 R
  refine ⟨h', by rw [E_M_readLeaps_1, if_pos rfl, if_pos h4, e, Z_bV], x.mono fun p q w => Or.inr (Or.inr (Or.inr w)), (x.2 9 3 fun w => by have := w.1; omega).trans h3, (x.2 9 4 fun w => by have := w.1; omega).trans h4, R.ew x fun p q w v => by have := v.1; omega, F⟩
theorem R_leaps15 {T : Int → Int} {N : Int} (hT : tpo T N) {s : Int} (s0 : 0 ≤ s) (s1 : s < 28) {h : mH} (H : mtp h T N) {c a v : Int} (h4 : h.M 9 4 = -1) (h3 : h.M 9 3 = a) (a0 : 0 ≤ a) (a1 : a < N) (hc : c = 43 ∨ c = 45) {k : Int} (hk : h.M 13 s = k) (k0 : 0 ≤ k) (k1 : k < 8) (u : mV) : ∃ h1, Rn kM_readLeaps 15 [vO 11 9, vI s, u, vI v, vI c] [] h = Rn kM_readLeaps 1 [vO 11 9, vI s, vI (bz (48 ≤ T (sk T (a + 1)) ∧ T (sk T (a + 1)) ≤ 57)), vI v, vI c] [] h1 ∧ Ew (WL s) h h1 ∧ h1.M 9 3 = sk T (a + 1) ∧ h1.M 9 4 = -1 ∧ h1.M 13 s = k + 1 ∧ (∀ j, h1.M 14 j = if j = 8 * s + k then v else h.M 14 j) ∧ ∀ j, h1.M 15 j = if j = 8 * s + k then (if c = 43 then 1 else 0) else h.M 15 j := by
  have hn := hT.2.1
  have sb := sk_b hT (a := a + 1) (by omega) (by omega)
  obtain ⟨h4h, e4⟩ : ∃ q, q = (((h.set 9 3 (a + 1)).set 14 (8 * s + k) v).set 15 (8 * s + k) (if c = 43 then 1 else 0)).set 13 s (k + 1) := ⟨_, rfl⟩
  have x : Ew (WL s) h h4h := by
    rw [e4]
    exact (((Ew.st h _ (Or.inl ⟨rfl, Or.inl rfl⟩)).tr (Ew.st _ _ (Or.inr (Or.inr (Or.inl ⟨Or.inl rfl, by omega, by omega⟩))))).tr (Ew.st _ _ (Or.inr (Or.inr (Or.inl ⟨Or.inr rfl, by omega, by omega⟩))))).tr (Ew.st _ _ (Or.inr (Or.inl ⟨rfl, rfl⟩)))
  have H4 : mtp h4h T N := Ew.mtp H x fun _ _ w => WL_tp w
  have p4 : h4h = pst h4h (a + 1) (-1) := pst_of (by rw [e4]; simp only [Z_Ms, Int.reduceEq, false_and, true_and, if_false, if_true, and_true]) (by rw [e4]; simp only [Z_Ms, Int.reduceEq, false_and, true_and, if_false, if_true, and_false]; exact h4)
  refine ⟨pst h4h (sk T (a + 1)) (-1), ?_, x.tr ((pst_ew _ _ _).mono fun _ _ w => WP_WL w), rfl, rfl, ?_, fun j => ?_, fun j => ?_⟩
  · have L := H.1
    have tail : (bI (Cl kM_look [vO 11 9] h4h) fun z5 h5 => bI (Cl kM_isDigit [vI z5] h5) fun z6 h6 => Rn kM_readLeaps 1 [vO 11 9, vI s, vI z6, vI v, vI c] [] h6) = Rn kM_readLeaps 1 [vO 11 9, vI s, vI (bz (48 ≤ T (sk T (a + 1)) ∧ T (sk T (a + 1)) ≤ 57)), vI v, vI c] [] (pst h4h (sk T (a + 1)) (-1)) := by
      rw [p4, R_look hT H4 (-1) (by omega) (by omega), Z_bI, R_isDigit, Z_bI, pst_pst]
    rw [← tail, e4]
    have e15 : ∀ w : Int, ((h.set 9 3 (a + 1)).set 14 (8 * s + k) v).set 15 (8 * s + k) w = ((h.set 9 3 (a + 1)).set 14 (8 * s + k) v).set 15 (8 * s + k) w := fun _ => rfl
    rw [E_M_readLeaps_15, h3, Z_wI (z := a + 1) (by omega)]
    simp only [Z_hl, Z_Ms, Z_Ns, Int.reduceEq, false_and, and_false, if_false, lm7 L, lm8 L, lm9 L, ln13 L, ln14 L, ln15 L, hk]
    rw [Z_wI (z := 8 * s) (by omega), Z_wI (z := 8 * s + k) (by omega), Z_wI (z := k + 1) (by omega), gd_t (by omega), gd_t (by omega), gd_t (by omega)]
    rcases hc with hc | hc
    · rw [if_pos hc, gd_t (by omega), gd_t (by simp), gd_t (by omega), gd_t (by omega), if_pos hc]
    · rw [if_neg (by omega), gd_t (by omega), gd_t (by simp), gd_t (by omega), gd_t (by omega), if_neg (by omega)]
  · rw [pst_n _ _ _ (by omega), e4, Z_Mt]
  · rw [pst_n _ _ _ (by omega), e4]
    simp only [Z_Ms, Int.reduceEq, false_and, true_and, if_false]
  · rw [pst_n _ _ _ (by omega), e4]
    simp only [Z_Ms, Int.reduceEq, false_and, true_and, if_false]
theorem R_leaps1 {T : Int → Int} {N : Int} (hT : tpo T N) {s : Int} (s0 : 0 ≤ s) (s1 : s < 28) : ∀ (n : Nat) (k : Int) (b i : Int → Int) (st : Int × Int) (h : mH) (u3 u4 : mV), mtp h T N → h.M 9 3 = st.1 → h.M 9 4 = st.2 → gs N st → h.M 13 s = k → k + n = 8 → 0 ≤ k → (∀ j, 0 ≤ j → j < k → h.M 14 (8 * s + j) = b j ∧ h.M 15 (8 * s + j) = i j ∧ 1 ≤ b j ∧ b j ≤ 9999 ∧ (i j = 0 ∨ i j = 1)) → ∃ h', Rn kM_readLeaps 1 [vO 11 9, vI s, vI 1, u3, u4] [] h = some (none, h') ∧ Ew (WL s) h h' ∧ h'.M 9 3 = (rlS T n k b i st).2.2.2.1 ∧ h'.M 9 4 = (rlS T n k b i st).2.2.2.2 ∧ ((rlS T n k b i st).2.2.2.2 = -1 → mlr h' s (lpR (rlS T n k b i st)) ∧ mbf h' s (lpR (rlS T n k b i st))) := by
  have hn := hT.2.1
  intro n
  induction n with
  | zero =>
    intro k b i st h u3 u4 H h3 h4 g hk e k0 hb
    rw [rlS_z]
    have L := H.1
    by_cases q : st.2 = -1
    · refine ⟨pst h st.1 st.1, ?_, (pst_ew _ _ _).mono fun _ _ w => WP_WL w, rfl, ?_, fun z => ?_⟩
      · rw [E_M_readLeaps_1, if_neg (by decide), h4, if_pos q, lm7 L, ln13 L, gd_t (by omega), if_pos (by omega)]
        rw [pst_of h3 h4, R_bad, Z_bV, if_pos q, pst_pst]
      · dsimp only
        rw [if_pos q]
        rfl
      · dsimp only at z
        rw [if_pos q] at z
        have := (g q).1
        omega
    · refine ⟨h, ?_, Ew.rf _ _, h3, ?_, fun z => ?_⟩
      · rw [E_M_readLeaps_1, if_neg (by decide), h4, if_neg q, if_neg q]
      · dsimp only
        rw [if_neg q]
        exact h4
      · dsimp only at z
        rw [if_neg q] at z
        exact absurd z q
  | succ n ih =>
    intro k b i st h u3 u4 H h3 h4 g hk e k0 hb
    have L := H.1
    have m := nmS_b hT g (lo := 1) 9999 (by omega)
    by_cases q : st.2 = -1
    · have q9 : pss h st = h := (pst_of h3 h4).symm
      have st1 : Rn kM_readLeaps 1 [vO 11 9, vI s, vI 1, u3, u4] [] h = (if (nmS T 1 9999 st).2.2 = -1 then (bI (Cl kM_look [vO 11 9] (pss h (nmS T 1 9999 st).2)) fun z2 h2 => (if z2 = 43 then (Rn kM_readLeaps 15 [vO 11 9, vI s, vI 1, vI (nmS T 1 9999 st).1, vI z2] [] h2) else (if z2 = 45 then (Rn kM_readLeaps 15 [vO 11 9, vI s, vI 1, vI (nmS T 1 9999 st).1, vI z2] [] h2) else (bV (Cl kM_bad [vO 11 9] h2) fun h3 => some (none, h3))))) else (bV (Cl kM_bad [vO 11 9] (pss h (nmS T 1 9999 st).2)) fun h2 => some (none, h2))) := by
        rw [E_M_readLeaps_1, if_neg (by decide), h4, if_pos q, lm7 L, ln13 L, gd_t (by omega), if_neg (by omega)]
        have p := R_plain hT H g (lo := 1) 9999 (by omega)
        rw [q9] at p
        rw [p, Z_bI]
        rfl
      rw [st1]
      by_cases h2 : (nmS T 1 9999 st).2.2 = -1
      · obtain ⟨m1, m2⟩ := m.1 h2
        have s2 := sk_b hT m1 m2
        rw [if_pos h2]
        unfold pss
        rw [R_look hT H _ m1 m2, Z_bI]
        by_cases c : T (sk T (nmS T 1 9999 st).2.1) = 43 ∨ T (sk T (nmS T 1 9999 st).2.1) = 45
        · have l := tp_lt hT (a := sk T (nmS T 1 9999 st).2.1) (by omega)
          have H2 := pst_tp H (sk T (nmS T 1 9999 st).2.1) (nmS T 1 9999 st).2.2
          obtain ⟨h1, e1, x1, w3, w4, wk, wb, wi⟩ := R_leaps15 hT s0 s1 H2 (c := T (sk T (nmS T 1 9999 st).2.1)) (a := sk T (nmS T 1 9999 st).2.1) (v := (nmS T 1 9999 st).1) h2 rfl (by omega) l c (k := k) hk k0 (by omega) (vI 1)
          have xx : Ew (WL s) h h1 := ((pst_ew _ _ _).mono fun _ _ w => WP_WL w).tr x1
          have go : ∀ B : mR, (if T (sk T (nmS T 1 9999 st).2.1) = 43 then (Rn kM_readLeaps 15 [vO 11 9, vI s, vI 1, vI (nmS T 1 9999 st).1, vI (T (sk T (nmS T 1 9999 st).2.1))] [] (pst h (sk T (nmS T 1 9999 st).2.1) (nmS T 1 9999 st).2.2)) else (if T (sk T (nmS T 1 9999 st).2.1) = 45 then (Rn kM_readLeaps 15 [vO 11 9, vI s, vI 1, vI (nmS T 1 9999 st).1, vI (T (sk T (nmS T 1 9999 st).2.1))] [] (pst h (sk T (nmS T 1 9999 st).2.1) (nmS T 1 9999 st).2.2)) else B)) = Rn kM_readLeaps 15 [vO 11 9, vI s, vI 1, vI (nmS T 1 9999 st).1, vI (T (sk T (nmS T 1 9999 st).2.1))] [] (pst h (sk T (nmS T 1 9999 st).2.1) (nmS T 1 9999 st).2.2) := by
            intro B
            rcases c with c | c
            · rw [if_pos c]
            · rw [if_neg (by omega), if_pos c]
          rw [go, e1]
          have hb1 : ∀ j, 0 ≤ j → j < k + 1 → h1.M 14 (8 * s + j) = upf b k (nmS T 1 9999 st).1 j ∧ h1.M 15 (8 * s + j) = upf i k (if T (sk T (nmS T 1 9999 st).2.1) = 43 then 1 else 0) j ∧ 1 ≤ upf b k (nmS T 1 9999 st).1 j ∧ upf b k (nmS T 1 9999 st).1 j ≤ 9999 ∧ (upf i k (if T (sk T (nmS T 1 9999 st).2.1) = 43 then 1 else 0) j = 0 ∨ upf i k (if T (sk T (nmS T 1 9999 st).2.1) = 43 then 1 else 0) j = 1) := by
            intro j j0 j1
            unfold upf
            by_cases z : j = k
            · have e8 : 8 * s + j = 8 * s + k := by omega
              rw [wb, wi]
              simp only [if_pos z, if_pos e8]
              refine ⟨trivial, trivial, (m.2.2.2 h2).2.1, (m.2.2.2 h2).2.2.1, ?_⟩
              split
              · exact Or.inr rfl
              · exact Or.inl rfl
            · obtain ⟨a1, a2, a3⟩ := hb j j0 (by omega)
              have e8 : ¬ 8 * s + j = 8 * s + k := by omega
              rw [wb, wi]
              simp only [if_neg z, if_neg e8]
              rw [pst_n _ _ _ (by omega), pst_n _ _ _ (by omega)]
              exact ⟨a1, a2, a3⟩
          have H1 := Ew.mtp H xx fun _ _ w => WL_tp w
          by_cases d : 48 ≤ T (sk T (sk T (nmS T 1 9999 st).2.1 + 1)) ∧ T (sk T (sk T (nmS T 1 9999 st).2.1 + 1)) ≤ 57
          · rw [bz_t d, rlS_on h2 c d]
            have sb2 := sk_b hT (a := sk T (nmS T 1 9999 st).2.1 + 1) (by omega) (by omega)
            obtain ⟨h', e2, x2, r⟩ := ih (k + 1) (upf b k (nmS T 1 9999 st).1) (upf i k (if T (sk T (nmS T 1 9999 st).2.1) = 43 then 1 else 0)) (sk T (sk T (nmS T 1 9999 st).2.1 + 1), -1) h1 _ _ H1 w3 w4 (fun _ => by dsimp only; omega) wk (by omega) (by omega) hb1
            exact ⟨h', e2, xx.tr x2, r⟩
          · rw [bz_f d, rlS_end h2 c d]
            obtain ⟨h', e2, x2, r3, r4, rR, rF⟩ := R_leaps0 s0 s1 H1 w4 w3 wk (by omega) (by omega) hb1 (vI (nmS T 1 9999 st).1) (vI (T (sk T (nmS T 1 9999 st).2.1)))
            exact ⟨h', e2, xx.tr x2, r3, r4, fun _ => ⟨rR, rF⟩⟩
        · rw [rlS_no h2 c, if_neg (fun z => c (Or.inl z)), if_neg (fun z => c (Or.inr z)), R_bad, Z_bV, if_pos h2, ]
          refine ⟨_, rfl, (pst_ew _ _ _).mono fun _ _ w => WP_WL w, rfl, rfl, fun z => ?_⟩
          dsimp only at z
          omega
      · rw [rlS_bad h2, if_neg h2]
        unfold pss
        rw [R_bad, Z_bV, if_neg h2]
        exact ⟨_, rfl, (pst_ew _ _ _).mono fun _ _ w => WP_WL w, rfl, rfl, fun z => absurd z h2⟩
    · have z : nmS T 1 9999 st = (1, st) := if_neg q
      rw [rlS_bad (by rw [z]; exact q), z]
      refine ⟨h, ?_, Ew.rf _ _, h3, h4, fun y => absurd y q⟩
      rw [E_M_readLeaps_1, if_neg (by decide), h4, if_neg q, if_neg q]
def lf0 : Int → Int := fun _ => 0
theorem R_leaps {T : Int → Int} {N : Int} (hT : tpo T N) {s : Int} (s0 : 0 ≤ s) (s1 : s < 28) {h : mH} (H : mtp h T N) {st : Int × Int} (g : gs N st) : ∃ h', Cl kM_readLeaps [vO 11 9, vI s] (pss h st) = some (none, h') ∧ Ew (WL s) h h' ∧ h'.M 9 3 = (rlS T 8 0 lf0 lf0 st).2.2.2.1 ∧ h'.M 9 4 = (rlS T 8 0 lf0 lf0 st).2.2.2.2 ∧ ((rlS T 8 0 lf0 lf0 st).2.2.2.2 = -1 → mlr h' s (lpR (rlS T 8 0 lf0 lf0 st)) ∧ mbf h' s (lpR (rlS T 8 0 lf0 lf0 st))) := by
  have L := (pst_tp H st.1 st.2).1
  have x : Ew (WL s) (pss h st) ((pss h st).set 13 s 0) := Ew.st _ _ (Or.inr (Or.inl ⟨rfl, rfl⟩))
  have H1 := Ew.mtp (pst_tp H st.1 st.2) x fun _ _ w => WL_tp w
  obtain ⟨h', e, x1, r⟩ := R_leaps1 hT s0 s1 8 0 lf0 lf0 st _ vU vU H1 (by rw [Z_Mn (by omega)]; rfl) (by rw [Z_Mn (by omega)]; rfl) g (Z_Mt ..) (by omega) (by omega) (fun j j0 j1 => by omega)
  refine ⟨h', ?_, (((pst_ew _ _ _).mono fun _ _ w => WP_WL w).tr x).tr x1, r⟩
  unfold pss at *
  rw [E_M_readLeaps, lm7 L, ln13 L, gd_t (by omega), Z_hl]
  exact e
