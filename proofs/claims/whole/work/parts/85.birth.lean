/-! THE PURE PART, calls: held, spell, age -/
theorem INV.ev {h : mH} {T : Int → Int} {n nc : Int} {Ds : Int → Int → Int → Int → Int} {nh : Int} {Xs : Int → HX} (I : INV h T n nc Ds nh Xs) : h.M 9 63 = h.M 1 12 ∧ 0 ≤ h.M 1 12 ∧ h.M 1 12 ≤ 30 ∧ ∀ i, 0 ≤ i → i < h.M 1 12 → h.M 7 i = h.M 51 i ∧ h.M 8 i = h.M 52 i ∧ (0 ≤ h.M 52 i ∧ h.M 52 i ≤ 3) ∧ 0 ≤ h.M 51 i ∧ h.M 51 i ≤ 20000000 := I.2.2.2.2.2.2.1
theorem hd_both {h : mH} {T : Int → Int} {n nc : Int} {Ds : Int → Int → Int → Int → Int} {nh : Int} {Xs : Int → HX} (I : INV h T n nc Ds nh Xs) {c y m d : Int} (i : isd nc Ds c y m d) : ∀ (f : Nat) (k x : Int), k + f = h.M 1 12 → 0 ≤ k → inI x → ∃ v, Rn kX_sortsOn 1 [vO 10 1, vI (Ds c y m d), vI x, vI k] [] h = some (some (vI v), h) ∧ Rn kM_held 4 [vO 11 9, vI c, vI y, vI m, vI d, vI x, vI k] [] h = some (some (vI v), h) := by
  have L := I.1
  obtain ⟨e1, e2, e3, e4⟩ := I.ev
  intro f
  induction f with
  | zero =>
    intro k x e k0 xI
    exact ⟨x, by rw [E_X_sortsOn_1, if_neg (by omega)], by rw [E_M_held_4, e1, if_neg (by omega)]⟩
  | succ f ih =>
    intro k x e k0 xI
    obtain ⟨a1, a2, a3, a4⟩ := e4 k k0 (by omega)
    rw [E_X_sortsOn_1, if_pos (by omega), lx10 L, lx11 L, ln7 L, ln8 L, gd_t (by omega), a1, a2, E_M_held_4, e1, if_pos (show k < h.M 1 12 by omega), lm61 L, ln51 L, gd_t (show (0 : Int) ≤ k ∧ k < 30 ∧ (51 : Int) ≠ 0 by omega), R_dayOf I.mcs i, Z_bI, Z_or0 xI, Z_wI (z := k + 1) (by omega)]
    by_cases z : h.M 51 k = Ds c y m d
    · obtain ⟨v, r1, r2⟩ := ih (k + 1) (ior x (ishl 1 (h.M 52 k))) (by omega) (by omega) (Z_orIn _ _)
      exact ⟨v, by rw [if_pos z, gd_t (by omega)]; exact r1, by rw [if_pos z, lm62 L, ln52 L, gd_t (by omega)]; exact r2⟩
    · obtain ⟨v, r1, r2⟩ := ih (k + 1) x (by omega) (by omega) xI
      exact ⟨v, by rw [if_neg z]; exact r1, by rw [if_neg z]; exact r2⟩
theorem ok_held {c y m d : Int} : okc kX_held kM_held [vI c, vI y, vI m, vI d] := okq0 fun h T n nc Ds nh Xs I => by
  obtain ⟨e1, e2, e3, e4⟩ := I.ev
  rw [E_X_held, C_dayIn I, Z_bI, E_M_held, R_isDate I.mcs, Z_bI]
  by_cases q : 0 ≤ c ∧ c < nc
  · rw [if_pos q]
    by_cases z : Ds c y m d = -1
    · exact ⟨-1, by rw [if_pos z], by rw [cb_f fun t => t.2 z, if_pos rfl]⟩
    · obtain ⟨v, r1, r2⟩ := hd_both I ⟨q, z⟩ (h.M 1 12).toNat 0 0 (by omega) (by omega) ⟨by decide, by decide⟩
      exact ⟨v, by rw [if_neg z, E_X_sortsOn, r1, Z_bI], by rw [cb_t (p := isd nc Ds c y m d) ⟨q, z⟩, if_neg n10]; exact r2⟩
  · exact ⟨-1, by rw [if_neg q, if_pos rfl], by rw [cb_f fun t => q t.1, if_pos rfl]⟩
/-! the longest spell -/
def hvP (h : mH) (day s : Int) : Prop := ∃ e, 0 ≤ e ∧ e < h.M 1 12 ∧ h.M 51 e = day ∧ h.M 52 e = s
theorem C_sortsOn {h : mH} {T : Int → Int} {n nc : Int} {Ds : Int → Int → Int → Int → Int} {nh : Int} {Xs : Int → HX} (I : INV h T n nc Ds nh Xs) (day : Int) : ∃ B, Cl kX_sortsOn [vO 10 1, vI day] h = some (some (vI B), h) ∧ 0 ≤ B ∧ B < 16 ∧ ∀ j : Nat, bt' B j ↔ hvP h day j := by
  have L := I.1
  obtain ⟨e1, e2, e3, e4⟩ := I.ev
  have main : ∀ (f : Nat) (k x : Int), k + f = h.M 1 12 → 0 ≤ k → 0 ≤ x → x < 16 → (∀ j : Nat, bt' x j ↔ ∃ e, 0 ≤ e ∧ e < k ∧ h.M 51 e = day ∧ h.M 52 e = j) → ∃ B, Rn kX_sortsOn 1 [vO 10 1, vI day, vI x, vI k] [] h = some (some (vI B), h) ∧ 0 ≤ B ∧ B < 16 ∧ ∀ j : Nat, bt' B j ↔ hvP h day j := by
    intro f
    induction f with
    | zero =>
      intro k x e k0 x0 x1 C
      refine ⟨x, by rw [E_X_sortsOn_1, if_neg (by omega)], x0, x1, fun j => (C j).trans ?_⟩
      rw [show k = h.M 1 12 by omega]
      rfl
    | succ f ih =>
      intro k x e k0 x0 x1 C
      obtain ⟨a1, a2, a3, a4⟩ := e4 k k0 (by omega)
      rw [E_X_sortsOn_1, if_pos (by omega), lx10 L, lx11 L, ln7 L, ln8 L, gd_t (by omega), a1, a2, Z_wI (z := k + 1) (by omega)]
      by_cases z : h.M 51 k = day
      · have ib := ior_bit (M := x) (k := (h.M 52 k).toNat) (n := 4) x0 (by omega) (by decide) x1
        rw [show (((h.M 52 k).toNat : Nat) : Int) = h.M 52 k by omega] at ib
        rw [if_pos z, gd_t (by omega)]
        refine ih (k + 1) _ (by omega) (by omega) ib.1 ib.2.1 fun j => ?_
        rw [ib.2.2 j, C j]
        constructor
        · rintro (⟨e, h0, h1, h2, h3⟩ | w)
          · exact ⟨e, h0, by omega, h2, h3⟩
          · exact ⟨k, k0, by omega, z, by omega⟩
        · rintro ⟨e, h0, h1, h2, h3⟩
          by_cases w : e = k
          · right
            rw [w] at h3
            omega
          · exact Or.inl ⟨e, h0, by omega, h2, h3⟩
      · rw [if_neg z]
        refine ih (k + 1) x (by omega) (by omega) x0 x1 fun j => ?_
        rw [C j]
        constructor
        · rintro ⟨e, h0, h1, h2, h3⟩
          exact ⟨e, h0, by omega, h2, h3⟩
        · rintro ⟨e, h0, h1, h2, h3⟩
          by_cases w : e = k
          · rw [w] at h2; exact absurd h2 z
          · exact ⟨e, h0, by omega, h2, h3⟩
  obtain ⟨B, r, b0, b1, C⟩ := main (h.M 1 12).toNat 0 0 (by omega) (by omega) (by decide) (by decide) (fun j => ⟨fun w => absurd w (bt_0 j), fun ⟨e, h0, h1, _⟩ => by omega⟩)
  exact ⟨B, by rw [E_X_sortsOn]; exact r, b0, b1, C⟩
theorem C_spellFrom {h : mH} {T : Int → Int} {n nc : Int} {Ds : Int → Int → Int → Int → Int} {nh : Int} {Xs : Int → HX} (I : INV h T n nc Ds nh Xs) {day s : Int} (d0 : 0 ≤ day ∧ day ≤ 20000000) (s0 : 0 ≤ s ∧ s ≤ 3) : ∃ l, Cl kX_spellFrom [vO 10 1, vI day, vI s] h = some (some (vI l), h) ∧ 0 ≤ l ∧ l ≤ h.M 1 12 ∧ (∀ i, 0 ≤ i → i < l → hvP h (day + i) s) ∧ (l = h.M 1 12 ∨ ¬ hvP h (day + l) s) := by
  obtain ⟨e1, e2, e3, e4⟩ := I.ev
  have loop : ∀ (f : Nat) (k : Int), k + f = h.M 1 12 → 0 ≤ k → (∀ i, 0 ≤ i → i < k → hvP h (day + i) s) → ∃ l, Rn kX_spellFrom 1 [vO 10 1, vI day, vI s, vI k] [] h = some (some (vI l), h) ∧ 0 ≤ l ∧ l ≤ h.M 1 12 ∧ (∀ i, 0 ≤ i → i < l → hvP h (day + i) s) ∧ (l = h.M 1 12 ∨ ¬ hvP h (day + l) s) := by
    intro f
    induction f with
    | zero =>
      intro k e k0 A
      exact ⟨k, by rw [E_X_spellFrom_1, if_neg (by omega)], k0, by omega, A, Or.inl (by omega)⟩
    | succ f ih =>
      intro k e k0 A
      obtain ⟨B, r, b0, b1, C⟩ := C_sortsOn I (day + k)
      have ib := iand_bit (M := B) (k := s.toNat) b0 (by omega) (by omega)
      have cj := C s.toNat
      rw [show ((s.toNat : Nat) : Int) = s by omega] at ib cj
      rw [E_X_spellFrom_1, if_pos (by omega), Z_wI (z := day + k) (by omega), r, Z_bI, ib, Z_wI (z := k + 1) (by omega)]
      by_cases z : hvP h (day + k) s
      · rw [if_pos (show B / ((2 ^ s.toNat : Nat) : Int) % 2 = 1 from cj.mpr z)]
        refine ih (k + 1) (by omega) (by omega) fun i i0 i1 => ?_
        by_cases w : i = k
        · rw [w]; exact z
        · exact A i i0 (by omega)
      · rw [if_neg (show ¬ B / ((2 ^ s.toNat : Nat) : Int) % 2 = 1 from fun w => z (cj.mp w))]
        exact ⟨k, rfl, k0, by omega, A, Or.inr z⟩
  obtain ⟨l, r⟩ := loop (h.M 1 12).toNat 0 (by omega) (by omega) (fun i i0 i1 => by omega)
  exact ⟨l, by rw [E_X_spellFrom]; exact r.1, r.2⟩
theorem R_hasEvent {h : mH} {T : Int → Int} {n nc : Int} {Ds : Int → Int → Int → Int → Int} {nh : Int} {Xs : Int → HX} (I : INV h T n nc Ds nh Xs) (day s : Int) : Cl kM_hasEvent [vO 11 9, vI day, vI s] h = some (some (vI (cb (hvP h day s))), h) := by
  have L := I.1
  obtain ⟨e1, e2, e3, e4⟩ := I.ev
  have main : ∀ (f : Nat) (k : Int), k + f = h.M 1 12 → 0 ≤ k → (∀ e, 0 ≤ e → e < k → ¬ (h.M 51 e = day ∧ h.M 52 e = s)) → Rn kM_hasEvent 1 [vO 11 9, vI day, vI s, vI k] [] h = some (some (vI (cb (hvP h day s))), h) := by
    intro f
    induction f with
    | zero =>
      intro k e k0 A
      rw [E_M_hasEvent_1, e1, if_neg (by omega), gd_t (by decide), cb_f fun ⟨e, h0, h1, h2⟩ => A e h0 (by omega) h2]
    | succ f ih =>
      intro k e k0 A
      have nx : ¬ (h.M 51 k = day ∧ h.M 52 k = s) → Rn kM_hasEvent 1 [vO 11 9, vI day, vI s, vI (wI (k + 1))] [] h = some (some (vI (cb (hvP h day s))), h) := fun nn => by
        rw [Z_wI (by omega)]
        refine ih (k + 1) (by omega) (by omega) fun e h0 h1 => ?_
        by_cases w : e = k
        · rw [w]; exact nn
        · exact A e h0 (by omega)
      rw [E_M_hasEvent_1, e1, if_pos (by omega), lm61 L, ln51 L, gd_t (by omega)]
      by_cases z : h.M 51 k = day
      · rw [if_pos z, lm62 L, ln52 L, gd_t (by omega)]
        by_cases w : h.M 52 k = s
        · rw [if_pos w, gd_t (by decide), cb_t ⟨k, k0, by omega, z, w⟩]
        · rw [if_neg w]
          exact nx fun t => w t.2
      · rw [if_neg z]
        exact nx fun t => z t.1
  rw [E_M_hasEvent]
  exact main (h.M 1 12).toNat 0 (by omega) (by omega) fun e h0 h1 => by omega
theorem hv_most {h : mH} {day s k : Int} (n0 : 0 ≤ h.M 1 12) (k0 : 0 ≤ k) (A : ∀ i, 0 ≤ i → i < k → hvP h (day + i) s) : k ≤ h.M 1 12 := by
  have ch : ∀ i : Nat, ∃ e : Nat, (i : Int) < k → (e : Int) < h.M 1 12 ∧ h.M 51 e = day + i := fun i => by
    by_cases q : (i : Int) < k
    · obtain ⟨e, h0, h1, h2, h3⟩ := A i (by omega) q
      exact ⟨e.toNat, fun _ => ⟨by omega, by rw [show ((e.toNat : Nat) : Int) = e by omega]; exact h2⟩⟩
    · exact ⟨0, fun z => absurd z q⟩
  have := fb_holes (h.M 1 12).toNat k.toNat (fun i => Classical.choose (ch i)) (fun i hi => by
    have := (Classical.choose_spec (ch i) (by omega)).1
    omega) (fun i j ij hj e => by
    have a := (Classical.choose_spec (ch i) (by omega)).2
    have b := (Classical.choose_spec (ch j) (by omega)).2
    rw [e] at a
    omega)
  omega
theorem R_spell6 {h : mH} {T : Int → Int} {n nc : Int} {Ds : Int → Int → Int → Int → Int} {nh : Int} {Xs : Int → HX} (I : INV h T n nc Ds nh Xs) {s e most : Int} (h0 : 0 ≤ e) (h1 : e < h.M 1 12) (hs : h.M 52 e = s) : ∀ (f : Nat) (k : Int), k + f = h.M 1 12 + 1 → 0 ≤ k → (∀ i, 0 ≤ i → i < k → hvP h (h.M 51 e + i) s) → ∃ l, Rn kM_spell 6 [vO 11 9, vI s, vI most, vI e, vI k] [] h = Rn kM_spell 4 [vO 11 9, vI s, vI (imax most l), vI (e + 1), vI l] [] h ∧ (∀ i, 0 ≤ i → i < l → hvP h (h.M 51 e + i) s) ∧ ¬ hvP h (h.M 51 e + l) s ∧ 0 ≤ l := by
  have L := I.1
  obtain ⟨e1, e2, e3, e4⟩ := I.ev
  obtain ⟨a1, a2, a3, a4⟩ := e4 e h0 h1
  intro f
  induction f with
  | zero =>
    intro k ek k0 A
    have := hv_most e2 k0 A
    omega
  | succ f ih =>
    intro k ek k0 A
    rw [E_M_spell_6, lm62 L, ln52 L, gd_t (by omega), if_pos hs, lm61 L, ln51 L, gd_t (by omega), Z_wI (z := h.M 51 e + k) (by omega), R_hasEvent I, Z_bI]
    by_cases z : hvP h (h.M 51 e + k) s
    · rw [cb_t z, if_neg n10, Z_wI (by omega)]
      refine ih (k + 1) (by omega) (by omega) fun i i0 i1 => ?_
      by_cases w : i = k
      · rw [w]; exact z
      · exact A i i0 (by omega)
    · refine ⟨k, ?_, A, z, k0⟩
      rw [cb_f z, if_pos rfl, D_max, Z_bI, Z_wI (by omega)]
theorem ok_spell {s : Int} : okc kX_spell kM_spell [vI s] := okq0 fun h T n nc Ds nh Xs I => by
  have L := I.1
  obtain ⟨e1, e2, e3, e4⟩ := I.ev
  have isr : Cl kX_isSort [vI s] h = some (some (vI (bz (0 ≤ s ∧ s ≤ 3))), h) := by
    rw [E_X_isSort]
    by_cases q : s < 0
    · rw [if_pos q, gd_t (by decide), bz_f (by omega)]
    · rw [if_neg q]
      by_cases w : s ≤ 3
      · rw [if_pos w, gd_t (by decide), bz_t (by omega)]
      · rw [if_neg w, gd_t (by decide), bz_f (by omega)]
  rw [E_X_spell, isr, Z_bI, E_M_spell, R_in, Z_bI]
  by_cases s0 : 0 ≤ s ∧ s ≤ 3
  · have main : ∀ (f : Nat) (e most : Int) (u4 : mV), e + f = h.M 1 12 → 0 ≤ e → 0 ≤ most → ∃ v, Rn kX_spell 4 [vO 10 1, vI s, vI most, vI e] [] h = some (some (vI v), h) ∧ Rn kM_spell 4 [vO 11 9, vI s, vI most, vI e, u4] [] h = some (some (vI v), h) := by
      intro f
      induction f with
      | zero =>
        intro e most u4 ee h0 m0
        exact ⟨most, by rw [E_X_spell_4, if_neg (by omega)], by rw [E_M_spell_4, e1, if_neg (by omega)]⟩
      | succ f ih =>
        intro e most u4 ee h0 m0
        obtain ⟨a1, a2, a3, a4⟩ := e4 e h0 (by omega)
        rw [E_X_spell_4, if_pos (by omega), lx10 L, lx11 L, ln7 L, ln8 L, gd_t (by omega), a1, a2, E_M_spell_4, e1, if_pos (show e < h.M 1 12 by omega)]
        by_cases z : h.M 52 e = s
        · obtain ⟨l, r, l0, l1, lA, lB⟩ := C_spellFrom I (day := h.M 51 e) (s := s) ⟨a4.1, a4.2⟩ s0
          obtain ⟨l', r', lA', lB', l0'⟩ := R_spell6 I (most := most) h0 (by omega) z (h.M 1 12 + 1).toNat 0 (by omega) (by omega) (fun i i0 i1 => by omega)
          have l1' := hv_most e2 l0' lA'
          have ll : l = l' := by
            rcases Int.lt_trichotomy l l' with q | q | q
            · rcases lB with w | w
              · omega
              · exact absurd (lA' l l0 q) w
            · exact q
            · exact absurd (lA l' l0' q) lB'
          have m1 : 0 ≤ imax most l' := by unfold imax; split <;> omega
          obtain ⟨v, r1, r2⟩ := ih (e + 1) (imax most l') (vI l') (by omega) (by omega) m1
          exact ⟨v, by rw [if_pos z, gd_t (by omega), r, Z_bI, D_max, Z_bI, ll, Z_wI (by omega)]; exact r1, by rw [r']; exact r2⟩
        · have im : imax most 0 = most := by unfold imax; split <;> omega
          obtain ⟨v, r1, r2⟩ := ih (e + 1) most (vI 0) (by omega) (by omega) m0
          exact ⟨v, by rw [if_neg z, Z_wI (by omega)]; exact r1, by rw [E_M_spell_6, lm62 L, ln52 L, gd_t (by omega), if_neg z, D_max, Z_bI, im, Z_wI (by omega)]; exact r2⟩
    obtain ⟨v, r1, r2⟩ := main (h.M 1 12).toNat 0 0 vU (by omega) (by omega) (by omega)
    exact ⟨v, by rw [bz_t s0, if_neg n10]; exact r1, by rw [bz_t s0, if_neg n10]; exact r2⟩
  · exact ⟨-1, by rw [bz_f s0, if_pos rfl], by rw [bz_f s0, if_pos rfl]⟩
/-! birthdays -/
def fsp (D : Int → Int → Int → Int) (y bM bD v : Int) : Prop := (v = -1 ∧ ∀ k m d, (k = y ∨ k = y + 1) → dtl k m d → cod y bM bD ≤ cod k m d → D k m d = -1) ∨ ∃ k m d, (k = y ∨ k = y + 1) ∧ dtl k m d ∧ cod y bM bD ≤ cod k m d ∧ D k m d = v ∧ v ≠ -1 ∧ ∀ k' m' d', (k' = y ∨ k' = y + 1) → dtl k' m' d' → cod y bM bD ≤ cod k' m' d' → cod k' m' d' < cod k m d → D k' m' d' = -1
theorem fsp_u {D : Int → Int → Int → Int} {y bM bD v v' : Int} (h : fsp D y bM bD v) (h' : fsp D y bM bD v') : v = v' := by
  rcases h with ⟨a, b⟩ | ⟨k, m, d, k0, t, c, e, n, b⟩
  · rcases h' with ⟨a', b'⟩ | ⟨k', m', d', k0', t', c', e', n', b'⟩
    · rw [a, a']
    · rw [b k' m' d' k0' t' c'] at e'
      exact absurd e'.symm n'
  · rcases h' with ⟨a', b'⟩ | ⟨k', m', d', k0', t', c', e', n', b'⟩
    · rw [b' k m d k0 t c] at e
      exact absurd e.symm n
    · rcases Int.lt_trichotomy (cod k m d) (cod k' m' d') with q | q | q
      · rw [b' k m d k0 t c q] at e
        exact absurd e.symm n
      · obtain ⟨ty, tm, td⟩ := t
        obtain ⟨ty', tm', td'⟩ := t'
        unfold cod at q
        have q1 : k = k' := by omega
        have q2 : m = m' := by omega
        have q3 : d = d' := by omega
        rw [← e, ← e', q1, q2, q3]
      · rw [b k' m' d' k0' t' c' q] at e'
        exact absurd e'.symm n'
theorem C_firstIn {h : mH} {a : Int} {D : Int → Int → Int → Int} (A : cck h a D) {y m : Int} (u3 : mV) : ∀ (f : Nat) (d : Int), d + f = 32 → 1 ≤ d → ∃ v, Rn kAl_firstInMonth 1 [vO 0 a, vI y, vI m, u3, vI (-1), vI d] [] h = some (some (vI v), h) ∧ ((v = -1 ∧ ∀ d', d ≤ d' → d' ≤ 31 → D y m d' = -1) ∨ ∃ d', d ≤ d' ∧ d' ≤ 31 ∧ D y m d' = v ∧ v ≠ -1 ∧ ∀ e, d ≤ e → e < d' → D y m e = -1) := by
  intro f
  induction f with
  | zero =>
    intro d e d0
    exact ⟨-1, by rw [E_Al_firstInMonth_1, if_neg (by omega)], Or.inl ⟨rfl, fun d' h0 h1 => by omega⟩⟩
  | succ f ih =>
    intro d e d0
    rw [E_Al_firstInMonth_1, if_pos (by omega), if_pos rfl, A.day, Z_bI, Z_wI (by omega)]
    by_cases z : D y m d = -1
    · obtain ⟨v, r, w⟩ := ih (d + 1) (by omega) (by omega)
      rw [z]
      refine ⟨v, r, ?_⟩
      rcases w with ⟨w1, w2⟩ | ⟨d', h0, h1, h2, h3, h4⟩
      · refine Or.inl ⟨w1, fun d' h0 h1 => ?_⟩
        by_cases q : d' = d
        · rw [q]; exact z
        · exact w2 d' (by omega) h1
      · refine Or.inr ⟨d', by omega, h1, h2, h3, fun e h5 h6 => ?_⟩
        by_cases q : e = d
        · rw [q]; exact z
        · exact h4 e (by omega) h6
    · refine ⟨D y m d, ?_, Or.inr ⟨d, Int.le_refl _, by omega, rfl, z, fun e h5 h6 => by omega⟩⟩
      rw [E_Al_firstInMonth_1]
      by_cases q : d + 1 ≤ 31
      · rw [if_pos q, if_neg z]
      · rw [if_neg q]
theorem C_firstFrom {h : mH} {a : Int} {D : Int → Int → Int → Int} (A : cck h a D) {y bM bD : Int} (y0 : 1 ≤ y ∧ y ≤ 9999) (m0 : 1 ≤ bM ∧ bM ≤ 12) (d0 : 1 ≤ bD ∧ bD ≤ 31) : ∃ v, Cl kAl_firstFrom [vO 0 a, vI y, vI bM, vI bD] h = some (some (vI v), h) ∧ fsp D y bM bD v := by
  have O := A.ok
  -- the next year's months
  have nxt : ∀ (f : Nat) (m : Int) (u2 u3 : mV), m + f = 13 → 1 ≤ m → (∀ k m' d', (k = y ∨ k = y + 1) → dtl k m' d' → cod y bM bD ≤ cod k m' d' → (k = y ∨ m' < m) → D k m' d' = -1) → ∃ v, Rn kAl_firstFrom 9 [vO 0 a, vI y, u2, u3, vI (-1), vI m] [] h = some (some (vI v), h) ∧ fsp D y bM bD v := by
    intro f
    induction f with
    | zero =>
      intro m u2 u3 e h0 B
      refine ⟨-1, by rw [E_Al_firstFrom_9, if_neg (by omega)], Or.inl ⟨rfl, fun k m' d' h1 h2 h3 => B k m' d' h1 h2 h3 ?_⟩⟩
      have := h2.2.1
      omega
    | succ f ih =>
      intro m u2 u3 e h0 B
      obtain ⟨v, r, w⟩ := C_firstIn A (y := y + 1) (m := m) (vI 1) 31 1 (by decide) (by decide)
      rw [E_Al_firstFrom_9, if_pos (by omega), if_pos rfl, Z_wI (z := y + 1) (by omega), E_Al_firstInMonth, r, Z_bI, Z_wI (z := m + 1) (by omega)]
      rcases w with ⟨w1, w2⟩ | ⟨d', h1, h2, h3, h4, h5⟩
      · rw [w1]
        refine ih (m + 1) u2 u3 (by omega) (by omega) fun k m' d' h1 h2 h3 h4 => ?_
        by_cases q : k = y ∨ m' < m
        · exact B k m' d' h1 h2 h3 q
        · have mm : m' = m := by omega
          have kk : k = y + 1 := by omega
          have := h2.2.2
          rw [mm, kk]
          exact w2 d' this.1 this.2
      · refine ⟨v, ?_, Or.inr ⟨y + 1, m, d', Or.inr rfl, O.2.1 _ _ _ (by rw [h3]; exact h4), by unfold cod; omega, h3, h4, fun k' m' e' g1 g2 g3 g4 => ?_⟩⟩
        · rw [E_Al_firstFrom_9]
          by_cases q : m + 1 ≤ 12
          · rw [if_pos q, if_neg h4]
          · rw [if_neg q]
        · by_cases q : k' = y ∨ m' < m
          · exact B k' m' e' g1 g2 g3 q
          · have kk : k' = y + 1 := by omega
            rw [kk] at g4
            have t := g2
            obtain ⟨ty, tm, td⟩ := t
            unfold cod at g4
            have mm : m' = m := by omega
            rw [mm, kk]
            rw [mm] at g4
            exact h5 e' td.1 (by omega)
  -- this year's months
  have ths : ∀ (f : Nat) (m : Int), m + f = 13 → bM ≤ m → (∀ m' d', dtl y m' d' → cod y bM bD ≤ cod y m' d' → m' < m → D y m' d' = -1) → ∃ v, Rn kAl_firstFrom 1 [vO 0 a, vI y, vI bM, vI bD, vI (-1), vI m] [] h = some (some (vI v), h) ∧ fsp D y bM bD v := by
    intro f
    induction f with
    | zero =>
      intro m e h0 B
      rw [E_Al_firstFrom_1, if_neg (by omega)]
      refine nxt 12 1 _ _ (by decide) (by decide) fun k m' d' h1 h2 h3 h4 => ?_
      have t := h2.2.1
      have kk : k = y := by omega
      rw [kk] at h2 h3 ⊢
      exact B m' d' h2 h3 (by omega)
    | succ f ih =>
      intro m e h0 B
      -- from a day of this month on
      have st : ∀ fr, (m = bM → fr = bD) → (m ≠ bM → fr = 1) → 1 ≤ fr ∧ fr ≤ 31 → ∃ v, (bI (Cl kAl_firstInMonth [vO 0 a, vI y, vI m, vI fr] h) fun z1 h1 => Rn kAl_firstFrom 1 [vO 0 a, vI y, vI bM, vI bD, vI z1, vI (wI (m + 1))] [] h1) = some (some (vI v), h) ∧ fsp D y bM bD v := by
        intro fr f1 f2 f3
        have ge : ∀ d', dtl y m d' → (cod y bM bD ≤ cod y m d' ↔ fr ≤ d') := fun d' t => by
          obtain ⟨ty, tm, td⟩ := t
          unfold cod
          by_cases q : m = bM
          · rw [f1 q, q]
            omega
          · have := f2 q
            omega
        obtain ⟨v, r, w⟩ := C_firstIn A (y := y) (m := m) (vI fr) (32 - fr).toNat fr (by omega) f3.1
        rw [E_Al_firstInMonth, r, Z_bI, Z_wI (z := m + 1) (by omega)]
        rcases w with ⟨w1, w2⟩ | ⟨d', h1, h2, h3, h4, h5⟩
        · rw [w1]
          refine ih (m + 1) (by omega) (by omega) fun m' d' g1 g2 g3 => ?_
          by_cases q : m' < m
          · exact B m' d' g1 g2 q
          · have mm : m' = m := by omega
            rw [mm] at g1 g2 ⊢
            exact w2 d' ((ge d' g1).mp g2) g1.2.2.2
        · have T := O.2.1 y m d' (by rw [h3]; exact h4)
          refine ⟨v, ?_, Or.inr ⟨y, m, d', Or.inl rfl, T, (ge d' T).mpr h1, h3, h4, fun k' m' e' g1 g2 g3 g4 => ?_⟩⟩
          · have e9 : ∀ u2 u3, Rn kAl_firstFrom 9 [vO 0 a, vI y, u2, u3, vI v, vI 1] [] h = some (some (vI v), h) := fun u2 u3 => by rw [E_Al_firstFrom_9, if_pos (by decide), if_neg h4]
            rw [E_Al_firstFrom_1]
            by_cases q : m + 1 ≤ 12
            · rw [if_pos q, if_neg h4]
              exact e9 _ _
            · rw [if_neg q]
              exact e9 _ _
          · have t := g2
            obtain ⟨ty, tm, td⟩ := t
            have kk : k' = y := by
              unfold cod at g4
              obtain ⟨_, tm2, td2⟩ := T
              omega
            rw [kk] at g2 g3 g4 ⊢
            by_cases q : m' < m
            · exact B m' e' g2 g3 q
            · have mm : m' = m := by
                unfold cod at g4
                obtain ⟨_, tm2, td2⟩ := T
                omega
              rw [mm] at g2 g3 g4 ⊢
              exact h5 e' ((ge e' g2).mp g3) (by unfold cod at g4; omega)
      rw [E_Al_firstFrom_1, if_pos (by omega), if_pos rfl]
      by_cases q : m = bM
      · rw [if_pos q]
        exact st bD (fun _ => rfl) (fun z => absurd q z) d0
      · rw [if_neg q]
        exact st 1 (fun z => absurd z q) (fun _ => rfl) ⟨by decide, by decide⟩
  rw [E_Al_firstFrom]
  refine ths (13 - bM).toNat bM (by omega) (Int.le_refl _) fun m' d' t g1 g2 => ?_
  obtain ⟨ty, tm, td⟩ := t
  unfold cod at g1
  omega
theorem R_firstFrom {h : mH} {T : Int → Int} {n nc : Int} {Ds : Int → Int → Int → Int → Int} {nh : Int} {Xs : Int → HX} (I : INV h T n nc Ds nh Xs) {c : Int} (q : 0 ≤ c ∧ c < nc) {y bM bD : Int} (e59 : h.M 9 59 = bM) (e60 : h.M 9 60 = bD) (y0 : 1 ≤ y ∧ y ≤ 9999) (m0 : 1 ≤ bM ∧ bM ≤ 12) (d0 : 1 ≤ bD ∧ bD ≤ 31) : ∃ v, Cl kM_firstFrom [vO 11 9, vI c, vI y] h = some (some (vI v), h) ∧ fsp (Ds c) y bM bD v := by
  have O := I.dok q.1 q.2
  have im : imin 9999 (y + 1) = if y = 9999 then 9999 else y + 1 := by
    unfold imin
    split <;> split <;> omega
  -- B k m d: nothing before that place
  have days : ∀ (f : Nat) (k m d : Int), d + f = 32 → 1 ≤ d → (k = y ∨ k = y + 1) → (1 ≤ k ∧ k ≤ 9999) → (1 ≤ m ∧ m ≤ 12) → (∀ k' m' d', (k' = y ∨ k' = y + 1) → dtl k' m' d' → cod y bM bD ≤ cod k' m' d' → cod k' m' d' < cod k m d → Ds c k' m' d' = -1) → (∃ v, Rn kM_firstFrom 6 [vO 11 9, vI c, vI y, vI k, vI m, vI d] [] h = some (some (vI v), h) ∧ fsp (Ds c) y bM bD v) ∨ (Rn kM_firstFrom 6 [vO 11 9, vI c, vI y, vI k, vI m, vI d] [] h = Rn kM_firstFrom 4 [vO 11 9, vI c, vI y, vI k, vI (m + 1), vI 32] [] h ∧ ∀ k' m' d', (k' = y ∨ k' = y + 1) → dtl k' m' d' → cod y bM bD ≤ cod k' m' d' → cod k' m' d' < cod k m 32 → Ds c k' m' d' = -1) := by
    intro f
    induction f with
    | zero =>
      intro k m d e h0 kk kb mb B
      right
      have d32 : d = 32 := by omega
      rw [d32] at B ⊢
      exact ⟨by rw [E_M_firstFrom_6, if_neg (by decide), Z_wI (by omega)], B⟩
    | succ f ih =>
      intro k m d e h0 kk kb mb B
      have go : Ds c k m d = -1 ∨ cod k m d < cod y bM bD → ∀ k' m' d', (k' = y ∨ k' = y + 1) → dtl k' m' d' → cod y bM bD ≤ cod k' m' d' → cod k' m' d' < cod k m (d + 1) → Ds c k' m' d' = -1 := fun hz k' m' d' g1 g2 g3 g4 => by
        by_cases w : cod k' m' d' < cod k m d
        · exact B k' m' d' g1 g2 g3 w
        · obtain ⟨ty, tm, td⟩ := g2
          have q1 : cod k' m' d' = cod k m d := by
            unfold cod at g4 w ⊢
            omega
          unfold cod at q1
          have a1 : k' = k := by omega
          have a2 : m' = m := by omega
          have a3 : d' = d := by omega
          rcases hz with z | z
          · rw [a1, a2, a3]; exact z
          · rw [a1, a2, a3] at g3
            omega
      rw [E_M_firstFrom_6, if_pos (by omega), R_code h (by omega) (by omega) (by omega) (by omega) (by omega) (by omega), Z_bI, e59, e60, R_code h (by omega) (by omega) (by omega) (by omega) (by omega) (by omega), Z_bI, Z_wI (z := d + 1) (by omega)]
      by_cases w : cod k m d < cod y bM bD
      · rw [if_pos w]
        exact ih k m (d + 1) (by omega) (by omega) kk kb mb (go (Or.inr w))
      · rw [if_neg w, R_isDate I.mcs, Z_bI]
        by_cases z : Ds c k m d = -1
        · rw [cb_f fun t => t.2 z, if_pos z00]
          exact ih k m (d + 1) (by omega) (by omega) kk kb mb (go (Or.inl z))
        · have i : isd nc Ds c k m d := ⟨q, z⟩
          rw [cb_t (p := isd nc Ds c k m d) i, if_neg n10, R_dayOf I.mcs i, Z_bI]
          exact Or.inl ⟨_, rfl, Or.inr ⟨k, m, d, kk, O.2.1 _ _ _ z, by omega, rfl, z, B⟩⟩
  have mons : ∀ (f : Nat) (k m : Int) (u5 : mV), m + f = 13 → 1 ≤ m → (k = y ∨ k = y + 1) → (1 ≤ k ∧ k ≤ 9999) → (∀ k' m' d', (k' = y ∨ k' = y + 1) → dtl k' m' d' → cod y bM bD ≤ cod k' m' d' → cod k' m' d' < cod k m 1 → Ds c k' m' d' = -1) → (∃ v, Rn kM_firstFrom 4 [vO 11 9, vI c, vI y, vI k, vI m, u5] [] h = some (some (vI v), h) ∧ fsp (Ds c) y bM bD v) ∨ (∃ w4 w5, Rn kM_firstFrom 4 [vO 11 9, vI c, vI y, vI k, vI m, u5] [] h = Rn kM_firstFrom 1 [vO 11 9, vI c, vI y, vI (k + 1), w4, w5] [] h ∧ ∀ k' m' d', (k' = y ∨ k' = y + 1) → dtl k' m' d' → cod y bM bD ≤ cod k' m' d' → cod k' m' d' < cod (k + 1) 1 1 → Ds c k' m' d' = -1) := by
    intro f
    induction f with
    | zero =>
      intro k m u5 e h0 kk kb B
      right
      refine ⟨vI m, u5, by rw [E_M_firstFrom_4, if_neg (by omega), Z_wI (by omega)], fun k' m' d' g1 g2 g3 g4 => B k' m' d' g1 g2 g3 ?_⟩
      obtain ⟨ty, tm, td⟩ := g2
      unfold cod at g4 ⊢
      omega
    | succ f ih =>
      intro k m u5 e h0 kk kb B
      rw [E_M_firstFrom_4, if_pos (by omega)]
      rcases days 31 k m 1 (by decide) (by decide) kk kb ⟨h0, by omega⟩ B with r | ⟨r, B'⟩
      · exact Or.inl r
      · rw [r]
        refine ih k (m + 1) _ (by omega) (by omega) kk kb fun k' m' d' g1 g2 g3 g4 => B' k' m' d' g1 g2 g3 ?_
        obtain ⟨ty, tm, td⟩ := g2
        unfold cod at g4 ⊢
        omega
  have fin : ∀ k, 9999 < k ∨ y + 1 < k → ∀ (u4 u5 : mV), (∀ k' m' d', (k' = y ∨ k' = y + 1) → dtl k' m' d' → cod y bM bD ≤ cod k' m' d' → cod k' m' d' < cod k 1 1 → Ds c k' m' d' = -1) → ∃ v, Rn kM_firstFrom 1 [vO 11 9, vI c, vI y, vI k, u4, u5] [] h = some (some (vI v), h) ∧ fsp (Ds c) y bM bD v := fun k hk u4 u5 B => by
    refine ⟨-1, ?_, Or.inl ⟨rfl, fun k' m' d' g1 g2 g3 => B k' m' d' g1 g2 g3 ?_⟩⟩
    · rw [E_M_firstFrom_1, Z_wI (by omega), D_min, Z_bI, im, if_neg (by split <;> omega)]
    · obtain ⟨ty, tm, td⟩ := g2
      unfold cod
      omega
  have one : ∀ k, (k = y ∨ k = y + 1) → (1 ≤ k ∧ k ≤ 9999) → ∀ (u4 u5 : mV), (∀ k' m' d', (k' = y ∨ k' = y + 1) → dtl k' m' d' → cod y bM bD ≤ cod k' m' d' → cod k' m' d' < cod k 1 1 → Ds c k' m' d' = -1) → (∃ v, Rn kM_firstFrom 1 [vO 11 9, vI c, vI y, vI k, u4, u5] [] h = some (some (vI v), h) ∧ fsp (Ds c) y bM bD v) ∨ (∃ w4 w5, Rn kM_firstFrom 1 [vO 11 9, vI c, vI y, vI k, u4, u5] [] h = Rn kM_firstFrom 1 [vO 11 9, vI c, vI y, vI (k + 1), w4, w5] [] h ∧ ∀ k' m' d', (k' = y ∨ k' = y + 1) → dtl k' m' d' → cod y bM bD ≤ cod k' m' d' → cod k' m' d' < cod (k + 1) 1 1 → Ds c k' m' d' = -1) := fun k kk kb u4 u5 B => by
    rw [E_M_firstFrom_1, Z_wI (by omega), D_min, Z_bI, im, if_pos (by split <;> omega)]
    exact mons 12 k 1 u5 (by decide) (by decide) kk kb B
  rw [E_M_firstFrom]
  rcases one y (Or.inl rfl) y0 vU vU (fun k' m' d' g1 g2 g3 g4 => by
    obtain ⟨ty, tm, td⟩ := g2
    unfold cod at g3 g4
    omega) with r | ⟨w4, w5, r, B⟩
  · exact r
  · rw [r]
    by_cases z : y = 9999
    · exact fin (y + 1) (by omega) w4 w5 B
    · rcases one (y + 1) (Or.inr rfl) (by omega) w4 w5 B with r2 | ⟨w4', w5', r2, B2⟩
      · exact r2
      · rw [r2]
        exact fin (y + 1 + 1) (by omega) w4' w5' B2
theorem ok_age {c y m d : Int} : okc kX_age kM_age [vI c, vI y, vI m, vI d] := okq0 fun h T n nc Ds nh Xs I => by
  rw [E_X_age, C_dayIn I, Z_bI, E_M_age]
  rcases I.2.2.2.2.2.2.2.2.1 with ⟨b1, b2⟩ | ⟨b1, b2⟩
  · exact ⟨-1, by rw [if_pos b1], by rw [if_pos b2]⟩
  · obtain ⟨bi, s0, s1, s2, s3, s4, s5, sn, sF⟩ := b1
    have TB := (I.dok bi.1.1 bi.1.2).2.1 _ _ _ bi.2
    rw [if_neg sn, gd_t sn, s0, if_neg (show ¬ h.M 9 56 = -1 by rw [b2]; exact bi.2)]
    by_cases q : c = h.M 9 57
    · have cb1 : 0 ≤ c ∧ c < nc := by rw [q]; exact bi.1
      have A := I.cok cb1.1 cb1.2
      have O := A.ok
      rw [if_pos q.symm, if_pos cb1, if_pos q, R_isDate I.mcs, Z_bI]
      by_cases z : Ds c y m d = -1
      · exact ⟨-1, by rw [if_pos z], by rw [cb_f fun t => t.2 z, if_pos rfl]⟩
      · have i : isd nc Ds c y m d := ⟨cb1, z⟩
        have TD := O.2.1 _ _ _ z
        have db := O.1 y m d
        rw [if_neg z, gd_t sn, s5, cb_t i, if_neg n10, R_dayOf I.mcs i, Z_bI, b2]
        by_cases w : Ds c y m d < Ds (h.M 9 57) (h.M 9 58) (h.M 9 59) (h.M 9 60)
        · exact ⟨-1, by rw [if_pos w], by rw [if_pos w]⟩
        · rw [if_neg w, if_neg w, gd_t sn, s2]
          have main : ∀ (f : Nat) (k x : Int) (u1 u3 u4 u8 u7 : mV), k + f = y + 1 ∨ (f = 0 ∧ y < k) → 1 ≤ k → 0 ≤ x → x ≤ k → ∃ v, Rn kX_age 7 [vO 10 1, u1, vI y, u3, u4, vI (Ds c y m d), vI x, vI k, u8] [] h = some (some (vI v), h) ∧ Rn kM_age 8 [vO 11 9, vI c, vI y, vI m, vI d, vI x, vI k, u7] [] h = some (some (vI v), h) := by
            intro f
            induction f with
            | zero =>
              intro k x u1 u3 u4 u8 u7 e k0 x0 x1
              exact ⟨x, by rw [E_X_age_7, if_neg (by omega)], by rw [E_M_age_8, if_neg (by omega)]⟩
            | succ f ih =>
              intro k x u1 u3 u4 u8 u7 e k0 x0 x1
              have ky : 1 ≤ k ∧ k ≤ 9999 := by have := TD.1; omega
              have A' : cck h (h.M 3 (h.M 9 57)) (Ds c) := by rw [← q]; exact A
              obtain ⟨v1, r1, p1⟩ := C_firstFrom A' ky TB.2.1 TB.2.2
              obtain ⟨v2, r2, p2⟩ := R_firstFrom I cb1 rfl rfl ky TB.2.1 TB.2.2
              have vv := fsp_u p1 p2
              rw [E_X_age_7, if_pos (by omega), gd_t sn, gd_t sn, gd_t sn, s1, gd_t A'.a0, s3, s4, r1, Z_bI, E_M_age_8, if_pos (show k ≤ y by omega), r2, Z_bI, vv, Z_wI (z := k + 1) (by omega), Z_wI (z := x + 1) (by omega), Z_wI (z := x + 0) (by omega), Int.add_zero]
              obtain ⟨va, ea1, ea2⟩ := ih (k + 1) x u1 u3 u4 (vI v2) (vI v2) (by omega) (by omega) x0 (by omega)
              obtain ⟨vb, eb1, eb2⟩ := ih (k + 1) (x + 1) u1 u3 u4 (vI v2) (vI v2) (by omega) (by omega) (by omega) (by omega)
              by_cases t : v2 = -1
              · exact ⟨va, by rw [if_pos t]; exact ea1, by rw [if_pos t]; exact ea2⟩
              · rw [if_neg t, if_neg t, R_dayOf I.mcs i, Z_bI]
                by_cases t2 : v2 ≤ Ds c y m d
                · exact ⟨vb, by rw [if_pos t2]; exact eb1, by rw [if_pos t2]; exact eb2⟩
                · exact ⟨va, by rw [if_neg t2]; exact ea1, by rw [if_neg t2]; exact ea2⟩
          have yb := TB.1
          have w1 : wI (h.M 9 58 + 1) = h.M 9 58 + 1 := Z_wI (by omega)
          rw [w1]
          exact main (y + 1 - (h.M 9 58 + 1)).toNat (h.M 9 58 + 1) 0 _ _ _ _ _ (by omega) (by omega) (by omega) (by omega)
    · exact ⟨-1, by rw [if_neg fun t => q t.symm], by rw [if_neg q]⟩
