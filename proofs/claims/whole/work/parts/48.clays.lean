/-! THE PURE PART, the class lays a calendar out -/
theorem C_isYear (y : Int) (h : mH) : Cl kX_isYear [vI y] h = some (some (vI (bz (1 ≤ y ∧ y ≤ 9999))), h) := by
  rw [E_X_isYear]
  by_cases a : y < 1
  · rw [if_pos a, gd_t (Or.inl rfl), bz_f (by omega)]
  · rw [if_neg a]
    by_cases b : y ≤ 9999
    · rw [if_pos b, gd_t (Or.inr rfl), bz_t (by omega)]
    · rw [if_neg b, gd_t (Or.inl rfl), bz_f (by omega)]
theorem C_isDatelike (y m d : Int) (h : mH) : Cl kX_isDatelike [vI y, vI m, vI d] h = some (some (vI (cb (dtl y m d))), h) := by
  rw [E_X_isDatelike, C_isYear, Z_bI]
  by_cases a : 1 ≤ y ∧ y ≤ 9999
  · rw [bz_t a, if_neg (by decide)]
    by_cases b : m < 1
    · rw [if_pos b, gd_t (Or.inl rfl), cb_f fun w => by have := w.2.1.1; omega]
    · rw [if_neg b]
      by_cases c : m ≤ 12
      · rw [if_pos c]
        by_cases e : d < 1
        · rw [if_pos e, gd_t (Or.inl rfl), cb_f fun w => by have := w.2.2.1; omega]
        · rw [if_neg e]
          by_cases f : d ≤ 31
          · rw [if_pos f, gd_t (Or.inr rfl), cb_t ⟨a, ⟨by omega, c⟩, by omega, f⟩]
          · rw [if_neg f, gd_t (Or.inl rfl), cb_f fun w => f w.2.2.2]
      · rw [if_neg c, gd_t (Or.inl rfl), cb_f fun w => c w.2.1.2]
  · rw [bz_f a, if_pos rfl, gd_t (Or.inl rfl), cb_f fun w => a w.1]
def WY (q : Int) : Int → Int → Prop := fun b k => b = q ∧ (k = 7 ∨ k = 8 ∨ k = 9)
theorem D_shLay5 {C : CD} {i j : Int} (V : cdv j C) (i0 : 0 ≤ i) (i1 : i ≤ j) (j3 : j ≤ 3) (K : keyT (C.2.1 i) ≤ keyT (C.2.2.2 i)) {q sa B : Int} (B0 : 1 ≤ B ∧ B ≤ (C.2.1 i).1 ∧ (C.2.1 i).1 ≤ B + 1) (hs : sa ≠ 0) (sq : sa ≠ q ∧ sa ≠ q + 1 ∧ sa ≠ q + 2) (u : mV) : ∀ (n : Nat) (k : Int) (h : mH), clr h q (C.1 i) → h.M q 0 = q + 1 → h.M q 1 = q + 2 → h.M q 3 = B → h.M q 5 = keyT (C.2.1 i) → h.M q 6 = keyT (C.2.2.2 i) → h.M q 7 = C.2.2.1 i → h.M q 9 = sa → h.N sa = (C.2.2.2 i).1 - B + 2 → k + n = (C.2.2.2 i).1 - B + 1 → 0 ≤ k → (∀ p, 0 ≤ p → p ≤ k → h.M sa p = C.2.2.1 i - ordT (C.1 i) (C.2.1 i) - 1 + yb (C.1 i) (B + p)) → ∃ h', Rn kSh_lay 5 [vO 9 q, u, vI ((C.2.2.2 i).1 - B + 1), vI k] [] h = some (none, h') ∧ Ew (fun b k => b = sa ∨ (b = q ∧ k = 8)) h h' ∧ slo h' q C i ∧ h'.M q 8 = C.2.2.1 i + ordT (C.1 i) (C.2.2.2 i) - ordT (C.1 i) (C.2.1 i) := by
  obtain ⟨v1, v2, v3, v4, v5, v6, v7⟩ := cdv_at V i0 i1 j3
  have bF := ord_b v1
  have cF := yb_b (C.1 i) v1.1
  have yF := ylen_b (C.1 i (C.2.1 i).1)
  have eF : ordT (C.1 i) (C.2.1 i) = ord (C.1 i) (C.2.1 i).1 (C.2.1 i).2.1 (C.2.1 i).2.2 := rfl
  intro n
  induction n with
  | zero =>
    intro k h R h0 h1 h3 h5 h6 h7 h9 hN e k0 M
    have S : slo h q C i := ⟨by rw [h3]; exact B0, h5, h6, h7, by rw [h9]; exact hs, Or.inl ⟨K, by rw [h9, h3]; exact hN, fun p p0 p1 => by rw [h9, h3]; rw [h3] at p1; exact M p p0 (by omega)⟩⟩
    have T : dtl (C.2.2.2 i).1 (C.2.2.2 i).2.1 (C.2.2.2 i).2.2 := ⟨⟨v6.1, v7⟩, ⟨v6.2.1, v6.2.2.1⟩, v6.2.2.2.1, by have := v6.2.2.2.2; have := dim_b (C.1 i (C.2.2.2 i).1) (C.2.2.2 i).2.1; omega⟩
    have dy := C_shDayOn V i0 i1 j3 S T
    have iS : inS C i (C.2.2.2 i).1 (C.2.2.2 i).2.1 (C.2.2.2 i).2.2 := ⟨K, Int.le_refl _, v6.2.2.2.2⟩
    unfold vS1 at dy
    rw [if_pos iS] at dy
    refine ⟨h.set q 8 (dyS C i (C.2.2.2 i).1 (C.2.2.2 i).2.1 (C.2.2.2 i).2.2), ?_, Ew.st _ _ (Or.inr ⟨rfl, rfl⟩), ?_, Z_Mt ..⟩
    · rw [E_Sh_lay_5, if_neg (by omega), h6, show keyT (C.2.2.2 i) = key (C.2.2.2 i).1 (C.2.2.2 i).2.1 (C.2.2.2 i).2.2 from rfl, dy, Z_bI, Z_hl]
    · have kk : ∀ b p, ¬ (b = q ∧ p = 8) → (h.set q 8 (dyS C i (C.2.2.2 i).1 (C.2.2.2 i).2.1 (C.2.2.2 i).2.2)).M b p = h.M b p := fun b p hb => Z_Mn (by omega)
      unfold slo
      rw [kk q 3 (by omega), kk q 5 (by omega), kk q 6 (by omega), kk q 7 (by omega), kk q 9 (by omega)]
      refine ⟨S.1, S.2.1, S.2.2.1, S.2.2.2.1, S.2.2.2.2.1, ?_⟩
      rcases S.2.2.2.2.2 with w | w
      · exact Or.inl ⟨w.1, w.2.1, fun p p0 p1 => by rw [kk _ p (by rw [h9]; omega)]; exact w.2.2 p p0 p1⟩
      · exact Or.inr w
  | succ n ih =>
    intro k h R h0 h1 h3 h5 h6 h7 h9 hN e k0 M
    have yy := yb_s (C.1 i) (y := B + k) (by omega)
    have yb1 := yb_b (C.1 i) (y := B + k) (by omega)
    have yl := ylen_b (C.1 i (B + k))
    have x : Ew (fun b k => b = sa ∨ (b = q ∧ k = 8)) h (h.set sa (k + 1) (C.2.2.1 i - ordT (C.1 i) (C.2.1 i) - 1 + yb (C.1 i) (B + (k + 1)))) := Ew.st _ _ (Or.inl rfl)
    have kk : ∀ b p, b ≠ sa → (h.set sa (k + 1) (C.2.2.1 i - ordT (C.1 i) (C.2.1 i) - 1 + yb (C.1 i) (B + (k + 1)))).M b p = h.M b p := fun b p hb => Z_Mn (Or.inl hb)
    obtain ⟨h', e1, x1, r⟩ := ih (k + 1) (h.set sa (k + 1) (C.2.2.1 i - ordT (C.1 i) (C.2.1 i) - 1 + yb (C.1 i) (B + (k + 1)))) (R.cg (kk q 0 (by omega)) (kk q 1 (by omega)) (kk q 2 (by omega)) (fun p => kk _ p (by omega)) (fun p => kk _ p (by omega)) rfl rfl) ((kk q 0 (by omega)).trans h0) ((kk q 1 (by omega)).trans h1) ((kk q 3 (by omega)).trans h3) ((kk q 5 (by omega)).trans h5) ((kk q 6 (by omega)).trans h6) ((kk q 7 (by omega)).trans h7) ((kk q 9 (by omega)).trans h9) hN (by omega) (by omega) (fun p p0 p1 => by
      rcases Int.lt_or_le k p with w | w
      · rw [show p = k + 1 by omega, Z_Mt]
      · rw [Z_Mn (by omega)]; exact M p p0 w)
    refine ⟨h', ?_, x.tr x1, r⟩
    rw [E_Sh_lay_5, if_pos (by omega), h9, hN, gd_t ⟨k0, by omega, hs⟩, h3, Z_wI (z := B + k) (by omega), C_hasLeap R (by omega), Z_bI, C_yearLength, Z_bI, Z_wI (z := k + 1) (by omega), hN, gd_t ⟨by omega, by omega, hs⟩, M k k0 (by omega), Z_wI (z := C.2.2.1 i - ordT (C.1 i) (C.2.1 i) - 1 + yb (C.1 i) (B + k) + ylen (C.1 i (B + k))) (by omega), Z_hl, show C.2.2.1 i - ordT (C.1 i) (C.2.1 i) - 1 + yb (C.1 i) (B + k) + ylen (C.1 i (B + k)) = C.2.2.1 i - ordT (C.1 i) (C.2.1 i) - 1 + yb (C.1 i) (B + (k + 1)) by rw [show B + (k + 1) = B + k + 1 by omega, yy]; omega]
    exact e1
theorem D_shLay {C : CD} {i j : Int} (V : cdv j C) (i0 : 0 ≤ i) (i1 : i ≤ j) (j3 : j ≤ 3) {h : mH} {q : Int} (q0 : 56 < q) (qc : q + 3 ≤ h.cnt) (R : cst h q (C.1 i) (C.2.1 i)) (h6 : h.M q 6 = keyT (C.2.2.2 i)) : ∃ h', Cl kSh_lay [vO 9 q, vI (C.2.2.1 i)] h = some (none, h') ∧ Fr (WY q) 1 10001 h h' ∧ slo h' q C i ∧ h'.M q 8 = (if keyT (C.2.1 i) ≤ keyT (C.2.2.2 i) then C.2.2.1 i + ordT (C.1 i) (C.2.2.2 i) - ordT (C.1 i) (C.2.1 i) else C.2.2.1 i - 1) ∧ (h'.M q 9 = q + 3 ∨ (h'.M q 9 = (h.cnt : Int) + 1 ∧ h'.cnt = h.cnt + 1)) := by
  obtain ⟨v1, v2, v3, v4, v5, v6, v7⟩ := cdv_at V i0 i1 j3
  have bF := ord_b v1
  have cF := yb_b (C.1 i) v1.1
  have yF := ylen_b (C.1 i (C.2.1 i).1)
  have eF : ordT (C.1 i) (C.2.1 i) = ord (C.1 i) (C.2.1 i).1 (C.2.1 i).2.1 (C.2.1 i).2.2 := rfl
  obtain ⟨r1, r2, r3, r4, r5, r6, r7, r8, hz⟩ := R
  have k2 := keyT_y v1
  have k3 := keyT_y v6
  have kv : keyT (C.2.2.2 i) / 512 = (C.2.2.2 i).1 := by omega
  have l1 : 1 ≤ (C.2.2.2 i).1 := v6.1
  obtain ⟨h2, hh⟩ : ∃ u, u = (h.set q 7 (C.2.2.1 i)).set q 8 (C.2.2.1 i - 1) := ⟨_, rfl⟩
  have x2 : Ew (WY q) h h2 := by
    rw [hh]
    exact (Ew.st (W := WY q) h _ ⟨rfl, Or.inl rfl⟩).tr (Ew.st _ _ ⟨rfl, Or.inr (Or.inl rfl)⟩)
  have f : ∀ k, ¬ (k = 7 ∨ k = 8 ∨ k = 9) → h2.M q k = h.M q k := fun k hk => x2.2 q k fun w => hk w.2
  have g : ∀ b k, b ≠ q → h2.M b k = h.M b k := fun b k hb => x2.2 b k fun w => hb w.1
  have f7 : h2.M q 7 = C.2.2.1 i := by rw [hh, Z_Mn (by omega), Z_Mt]
  have f8 : h2.M q 8 = C.2.2.1 i - 1 := by rw [hh, Z_Mt]
  have f9 : h2.M q 9 = q + 3 := by rw [hh, Z_Mn (by omega), Z_Mn (by omega)]; exact r8
  have f6 : h2.M q 6 = keyT (C.2.2.2 i) := (f 6 (by decide)).trans h6
  have f5 : h2.M q 5 = keyT (C.2.1 i) := (f 5 (by decide)).trans r4
  have f3 : h2.M q 3 = h.M q 3 := f 3 (by decide)
  have f4 : h2.M q 4 = h.M q 4 := f 4 (by decide)
  have c2 : h2.cnt = h.cnt := x2.cnt
  have head : ∀ A B : mR, (if keyT (C.2.1 i) ≤ keyT (C.2.2.2 i) then A else B) = (if h2.M q 5 ≤ h2.M q 6 then A else B) := fun A B => by rw [f5, f6]
  by_cases K : keyT (C.2.1 i) ≤ keyT (C.2.2.2 i)
  · obtain ⟨sa, hsa⟩ : ∃ sa, sa = (h.cnt : Int) + 1 := ⟨_, rfl⟩
    have st : h2.top = sa := by rw [Z_top, c2, hsa]
    obtain ⟨Y, hY⟩ : ∃ Y, Y = (C.2.2.2 i).1 - h.M q 3 + 1 := ⟨_, rfl⟩
    obtain ⟨h6', hh6⟩ : ∃ u, u = ((h2.new 100 (Y + 1)).set q 9 sa).set sa 0 (C.2.2.1 i - h.M q 4) := ⟨_, rfl⟩
    have m6 : ∀ b k, b ≠ sa → ¬ (b = q ∧ k = 9) → h6'.M b k = h2.M b k := fun b k hb hq => by
      rw [hh6, Z_Mn (Or.inl hb), Z_Mn (by omega), Z_Mw, if_neg (by rw [st]; exact hb)]
    have n6 : ∀ b, b ≠ sa → h6'.N b = h2.N b := fun b hb => by
      rw [hh6, Z_Ns, Z_Ns, Z_Nw, if_neg (by rw [st]; exact hb)]
    have n6s : h6'.N sa = Y + 1 := by rw [hh6, Z_Ns, Z_Ns, Z_Nw, if_pos st.symm]
    have m9 : h6'.M q 9 = sa := by rw [hh6, Z_Mn (by omega), Z_Mt]
    have ms : h6'.M sa 0 = C.2.2.1 i - h.M q 4 := by rw [hh6, Z_Mt]
    have qs : q ≠ sa := by omega
    obtain ⟨h', e5, x5, S5, w8⟩ := D_shLay5 V i0 i1 j3 K (q := q) (sa := sa) (B := h.M q 3) r5 (by omega) (by omega) (vI (C.2.2.1 i)) Y.toNat 0 h6' (r1.cg ((m6 q 0 qs (by omega)).trans (f 0 (by decide))) ((m6 q 1 qs (by omega)).trans (f 1 (by decide))) ((m6 q 2 qs (by omega)).trans (f 2 (by decide))) (fun p => (m6 _ p (by omega) (by omega)).trans (g _ p (by omega))) (fun p => (m6 _ p (by omega) (by omega)).trans (g _ p (by omega))) ((n6 _ (by omega)).trans (by rw [x2.N])) ((n6 _ (by omega)).trans (by rw [x2.N]))) ((m6 q 0 qs (by omega)).trans ((f 0 (by decide)).trans r2)) ((m6 q 1 qs (by omega)).trans ((f 1 (by decide)).trans r3)) ((m6 q 3 qs (by omega)).trans f3) ((m6 q 5 qs (by omega)).trans f5) ((m6 q 6 qs (by omega)).trans f6) ((m6 q 7 qs (by omega)).trans f7) m9 (by rw [n6s]; omega) (by omega) (by omega) (fun p p0 p1 => by
      rw [show p = 0 by omega, ms, Int.add_zero]
      omega)
    have c6 : h6'.cnt = h.cnt + 1 := by rw [hh6, Z_cs, Z_cs, Z_cw, c2]
    have s6 : h6'.sl = h.sl + (Y + 1).toNat := by rw [hh6, Z_ss, Z_ss, Z_sw, x2.sl]
    have X6 : h6'.X = h.X := by rw [hh6, Z_Xs, Z_Xs, Z_Xw, x2.X]
    have c' : h'.cnt = h.cnt + 1 := by rw [x5.cnt, c6]
    refine ⟨h', ?_, ⟨fun b k hb w => ?_, fun b hb => ?_, by omega, by omega, by rw [x5.sl, s6]; omega, by rw [x5.X, X6]⟩, S5, by rw [if_pos K]; exact w8, Or.inr ⟨?_, c'⟩⟩
    · rw [E_Sh_lay, Z_wI (z := C.2.2.1 i - 1) (by omega), Z_hl, Z_hl, ← hh, f6, C_yearOfKey _ (by omega) (by omega), Z_bI, kv, f5, f6, if_pos K, f3, Z_wI (z := (C.2.2.2 i).1 - h.M q 3) (by omega), Z_wI (z := (C.2.2.2 i).1 - h.M q 3 + 1) (by omega), ← hY, if_neg (by omega), Z_wI (z := Y + 1) (by omega), gd_t (by omega), Z_hl, Z_hl, st, Z_Mt, Z_Ns, Z_Nw, if_pos st.symm, gd_t (by omega), Z_Mn (by omega), Z_Mw, if_neg (by omega), f7, Z_Mn (by omega), Z_Mw, if_neg (by omega), f4, Z_wI (by omega), Z_hl, ← hh6]
      rw [← hY] at e5
      exact e5
    · rw [x5.2 b k fun v => by
        rcases v with v | v
        · omega
        · exact w ⟨v.1, Or.inr (Or.inl v.2)⟩, m6 b k (by omega) fun v => w ⟨v.1, Or.inr (Or.inr v.2)⟩]
      exact x2.2 b k w
    · rw [x5.N, n6 b (by omega), x2.N]
    · rw [x5.2 q 9 fun v => by omega, m9, hsa]
  · refine ⟨h2, ?_, x2.fr.mono (fun _ _ w => w) (by omega) (by omega), ⟨by rw [f3]; exact r5, f5, f6, f7, by rw [f9]; omega, Or.inr ⟨by omega, by rw [f9, x2.N]; exact hz⟩⟩, by rw [if_neg K]; exact f8, Or.inl f9⟩
    rw [E_Sh_lay, Z_wI (z := C.2.2.1 i - 1) (by omega), Z_hl, Z_hl, ← hh, f6, C_yearOfKey _ (by omega) (by omega), Z_bI, kv, f5, f6, if_neg K]
