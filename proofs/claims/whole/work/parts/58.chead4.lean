/-! THE PURE PART, a head's text, read by the class: items, the whole text -/
theorem rst5_br {h : mH} {r : Int} {T : Int → Int} {s s' : Int × Int} (S : rst5 h r T s) (e : s.2 = s'.2) (n : s.2 ≠ -1) : rst5 h r T s' := ⟨S.1.trans e, fun z => absurd (e.trans z) n, fun _ => S.2.2 n⟩
theorem D_ref {T : Int → Int} {N : Int} (hT : tpo T N) {r : Int} {h : mH} {p : Int} (S : rst5 h r T (p, -1)) (g : gs N (p, -1)) : ∃ h', Cl kRd_refuse [vO 5 r] h = some (none, h') ∧ Ew (WR r) h h' ∧ rst5 h' r T (sk T p, sk T p) ∧ sk T p ≠ -1 := by
  obtain ⟨h', e, x, S', n⟩ := D_refuse hT S g
  have t : rfS T (p, -1) = (p, sk T p) := if_pos rfl
  rw [t] at S' n
  exact ⟨h', e, x, rst5_br S' rfl n, n⟩
theorem D_item {T : Int → Int} {N : Int} (hT : tpo T N) {r q : Int} (r0 : 56 < r) (rq : r < q) {h : mH} (C : chl h q) {H : HD} (V : hdv H) (D : chd h q H) (Hr : rtp h r T N) {p : Int} (S : rst5 h r T (p, -1)) (g : gs N (p, -1)) : ∃ h', Cl kHd_readItem [vO 2 q, vR 5 r] h = some (none, h') ∧ Ew (WHc r q) h h' ∧ rst5 h' r T (itS T H (p, -1)).2 ∧ ((itS T H (p, -1)).2.2 = -1 → chd h' q (itS T H (p, -1)).1) := by
  have q0 := C.2.2.2.2.2.2.2
  have s3 : h.M r 3 = T (sk T p) := (S.2.1 rfl).2
  obtain ⟨hf, ef, xf, Sf, nf⟩ := D_ref hT S g
  have bad : ∃ h', (some (none, hf) : mR) = some (none, h') ∧ Ew (WHc r q) h h' ∧ rst5 h' r T (H, sk T p, sk T p).2 ∧ ((H, sk T p, sk T p).2.2 = -1 → chd h' q (H, sk T p, sk T p).1) := ⟨hf, rfl, xf.mono fun _ _ w => WHc_R w, Sf, fun z => absurd z nf⟩
  have lift : ∀ {x : mR} {s : HD × Int × Int}, (∃ h1, x = some (none, h1) ∧ Ew (WHc r q) h h1 ∧ rst5 h1 r T s.2 ∧ (s.2.2 = -1 → chd h1 q s.1)) → ∃ h1, (bV x fun h1 => some (none, h1)) = some (none, h1) ∧ Ew (WHc r q) h h1 ∧ rst5 h1 r T s.2 ∧ (s.2.2 = -1 → chd h1 q s.1) := fun {x s} ⟨h1, y1, y2, y3, y4⟩ => ⟨h1, by rw [y1, Z_bV], y2, y3, y4⟩
  have e3 : h.M q 3 = q + 3 := C.1.2.2.1
  have e4 : h.M q 4 = q + 6 := C.1.2.2.2.1
  have r1 : r ≠ 0 := by omega
  unfold itS
  dsimp only
  rw [E_Hd_readItem, gd_t r1, s3]
  by_cases c0 : T (sk T p) = 107
  · rw [if_neg (c := T (sk T p) = 98) (by omega), if_neg (c := T (sk T p) = 99) (by omega), if_neg (c := T (sk T p) = 100) (by omega), if_neg (c := T (sk T p) = 101) (by omega), if_neg (c := T (sk T p) = 102) (by omega), if_neg (c := T (sk T p) = 103) (by omega), if_neg (c := T (sk T p) = 104) (by omega), if_neg (c := T (sk T p) = 105) (by omega), if_neg (c := T (sk T p) = 106) (by omega), if_pos (c := T (sk T p) = 107) c0]
    by_cases f0 : H 0 0 < 6
    · rw [if_pos (c := T (sk T p) = 107 ∧ H 0 0 < 6) ⟨c0, f0⟩]
      exact lift (D_itK hT r0 rq C V D Hr S g f0 c0)
    · rw [if_neg (c := T (sk T p) = 107 ∧ H 0 0 < 6) fun w => f0 w.2, if_neg (c := T (sk T p) = 121 ∧ H 3 0 < 6) fun w => by omega, if_neg (c := T (sk T p) = 109 ∧ H 6 0 < 12) fun w => by omega, if_neg (c := T (sk T p) = 111) (by omega), if_neg (c := T (sk T p) = 115 ∧ H 11 0 = -1) fun w => by omega, if_neg (c := T (sk T p) = 114 ∧ H 11 1 = -1) fun w => by omega, if_neg (c := T (sk T p) = 98 ∧ H 11 2 = -1) fun w => by omega, if_neg (c := T (sk T p) = 108 ∧ H 11 3 = -1) fun w => by omega, E_Hd_readRange, D.1.1, if_neg f0, gd_t r1, ef, Z_bV, Z_bV]
      exact bad
  by_cases c0 : T (sk T p) = 121
  · rw [if_neg (c := T (sk T p) = 98) (by omega), if_neg (c := T (sk T p) = 99) (by omega), if_neg (c := T (sk T p) = 100) (by omega), if_neg (c := T (sk T p) = 101) (by omega), if_neg (c := T (sk T p) = 102) (by omega), if_neg (c := T (sk T p) = 103) (by omega), if_neg (c := T (sk T p) = 104) (by omega), if_neg (c := T (sk T p) = 105) (by omega), if_neg (c := T (sk T p) = 106) (by omega), if_neg (c := T (sk T p) = 107) (by omega), if_neg (c := T (sk T p) = 108) (by omega), if_neg (c := T (sk T p) = 109) (by omega), if_neg (c := T (sk T p) = 110) (by omega), if_neg (c := T (sk T p) = 111) (by omega), if_neg (c := T (sk T p) = 112) (by omega), if_neg (c := T (sk T p) = 113) (by omega), if_neg (c := T (sk T p) = 114) (by omega), if_neg (c := T (sk T p) = 115) (by omega), if_neg (c := T (sk T p) = 116) (by omega), if_neg (c := T (sk T p) = 117) (by omega), if_neg (c := T (sk T p) = 118) (by omega), if_neg (c := T (sk T p) = 119) (by omega), if_neg (c := T (sk T p) = 120) (by omega), if_pos (c := T (sk T p) = 121) c0]
    rw [e3, gd_t (by omega)]
    by_cases f0 : H 3 0 < 6
    · rw [if_neg (c := T (sk T p) = 107 ∧ H 0 0 < 6) fun w => by omega, if_pos (c := T (sk T p) = 121 ∧ H 3 0 < 6) ⟨c0, f0⟩]
      exact lift (D_itY hT r0 rq C V D Hr S g f0 c0)
    · rw [if_neg (c := T (sk T p) = 107 ∧ H 0 0 < 6) fun w => by omega, if_neg (c := T (sk T p) = 121 ∧ H 3 0 < 6) fun w => f0 w.2, if_neg (c := T (sk T p) = 109 ∧ H 6 0 < 12) fun w => by omega, if_neg (c := T (sk T p) = 111) (by omega), if_neg (c := T (sk T p) = 115 ∧ H 11 0 = -1) fun w => by omega, if_neg (c := T (sk T p) = 114 ∧ H 11 1 = -1) fun w => by omega, if_neg (c := T (sk T p) = 98 ∧ H 11 2 = -1) fun w => by omega, if_neg (c := T (sk T p) = 108 ∧ H 11 3 = -1) fun w => by omega, E_St_readFrom, D.1.2.1, if_neg f0, gd_t r1, ef, Z_bV, Z_bV]
      exact bad
  by_cases c0 : T (sk T p) = 109
  · rw [if_neg (c := T (sk T p) = 98) (by omega), if_neg (c := T (sk T p) = 99) (by omega), if_neg (c := T (sk T p) = 100) (by omega), if_neg (c := T (sk T p) = 101) (by omega), if_neg (c := T (sk T p) = 102) (by omega), if_neg (c := T (sk T p) = 103) (by omega), if_neg (c := T (sk T p) = 104) (by omega), if_neg (c := T (sk T p) = 105) (by omega), if_neg (c := T (sk T p) = 106) (by omega), if_neg (c := T (sk T p) = 107) (by omega), if_neg (c := T (sk T p) = 108) (by omega), if_pos (c := T (sk T p) = 109) c0]
    rw [e4, gd_t (by omega)]
    by_cases f0 : H 6 0 < 12
    · rw [if_neg (c := T (sk T p) = 107 ∧ H 0 0 < 6) fun w => by omega, if_neg (c := T (sk T p) = 121 ∧ H 3 0 < 6) fun w => by omega, if_pos (c := T (sk T p) = 109 ∧ H 6 0 < 12) ⟨c0, f0⟩]
      exact lift (D_itM hT r0 rq C V D Hr S g f0 c0)
    · rw [if_neg (c := T (sk T p) = 107 ∧ H 0 0 < 6) fun w => by omega, if_neg (c := T (sk T p) = 121 ∧ H 3 0 < 6) fun w => by omega, if_neg (c := T (sk T p) = 109 ∧ H 6 0 < 12) fun w => f0 w.2, if_neg (c := T (sk T p) = 111) (by omega), if_neg (c := T (sk T p) = 115 ∧ H 11 0 = -1) fun w => by omega, if_neg (c := T (sk T p) = 114 ∧ H 11 1 = -1) fun w => by omega, if_neg (c := T (sk T p) = 98 ∧ H 11 2 = -1) fun w => by omega, if_neg (c := T (sk T p) = 108 ∧ H 11 3 = -1) fun w => by omega, E_Pr_readFrom, D.1.2.2, if_neg f0, gd_t r1, ef, Z_bV, Z_bV]
      exact bad
  by_cases c0 : T (sk T p) = 111
  · rw [if_neg (c := T (sk T p) = 98) (by omega), if_neg (c := T (sk T p) = 99) (by omega), if_neg (c := T (sk T p) = 100) (by omega), if_neg (c := T (sk T p) = 101) (by omega), if_neg (c := T (sk T p) = 102) (by omega), if_neg (c := T (sk T p) = 103) (by omega), if_neg (c := T (sk T p) = 104) (by omega), if_neg (c := T (sk T p) = 105) (by omega), if_neg (c := T (sk T p) = 106) (by omega), if_neg (c := T (sk T p) = 107) (by omega), if_neg (c := T (sk T p) = 108) (by omega), if_neg (c := T (sk T p) = 109) (by omega), if_neg (c := T (sk T p) = 110) (by omega), if_pos (c := T (sk T p) = 111) c0]
    rw [if_neg (c := T (sk T p) = 107 ∧ H 0 0 < 6) fun w => by omega, if_neg (c := T (sk T p) = 121 ∧ H 3 0 < 6) fun w => by omega, if_neg (c := T (sk T p) = 109 ∧ H 6 0 < 12) fun w => by omega, if_pos (c := T (sk T p) = 111) c0]
    exact lift (D_itO hT r0 rq C V D Hr S g c0)
  by_cases c0 : T (sk T p) = 115
  · rw [if_neg (c := T (sk T p) = 98) (by omega), if_neg (c := T (sk T p) = 99) (by omega), if_neg (c := T (sk T p) = 100) (by omega), if_neg (c := T (sk T p) = 101) (by omega), if_neg (c := T (sk T p) = 102) (by omega), if_neg (c := T (sk T p) = 103) (by omega), if_neg (c := T (sk T p) = 104) (by omega), if_neg (c := T (sk T p) = 105) (by omega), if_neg (c := T (sk T p) = 106) (by omega), if_neg (c := T (sk T p) = 107) (by omega), if_neg (c := T (sk T p) = 108) (by omega), if_neg (c := T (sk T p) = 109) (by omega), if_neg (c := T (sk T p) = 110) (by omega), if_neg (c := T (sk T p) = 111) (by omega), if_neg (c := T (sk T p) = 112) (by omega), if_neg (c := T (sk T p) = 113) (by omega), if_neg (c := T (sk T p) = 114) (by omega), if_pos (c := T (sk T p) = 115) c0]
    by_cases f0 : H 11 0 = -1
    · rw [if_neg (c := T (sk T p) = 107 ∧ H 0 0 < 6) fun w => by omega, if_neg (c := T (sk T p) = 121 ∧ H 3 0 < 6) fun w => by omega, if_neg (c := T (sk T p) = 109 ∧ H 6 0 < 12) fun w => by omega, if_neg (c := T (sk T p) = 111) (by omega), if_pos (c := T (sk T p) = 115 ∧ H 11 0 = -1) ⟨c0, f0⟩]
      exact lift (D_itX hT r0 rq C V D Hr S g (by decide) (by decide) f0 (by decide) c0)
    · rw [if_neg (c := T (sk T p) = 107 ∧ H 0 0 < 6) fun w => by omega, if_neg (c := T (sk T p) = 121 ∧ H 3 0 < 6) fun w => by omega, if_neg (c := T (sk T p) = 109 ∧ H 6 0 < 12) fun w => by omega, if_neg (c := T (sk T p) = 111) (by omega), if_neg (c := T (sk T p) = 115 ∧ H 11 0 = -1) fun w => f0 w.2, if_neg (c := T (sk T p) = 114 ∧ H 11 1 = -1) fun w => by omega, if_neg (c := T (sk T p) = 98 ∧ H 11 2 = -1) fun w => by omega, if_neg (c := T (sk T p) = 108 ∧ H 11 3 = -1) fun w => by omega, E_Hd_readExtra, C.1.2.2.2.2.2, C.2.2.2.2.2.2.1, gd_t ⟨by decide, by decide, by omega⟩, D.2.2.1 0 (by decide) (by decide), if_neg f0, gd_t r1, ef, Z_bV, Z_bV]
      exact bad
  by_cases c0 : T (sk T p) = 114
  · rw [if_neg (c := T (sk T p) = 98) (by omega), if_neg (c := T (sk T p) = 99) (by omega), if_neg (c := T (sk T p) = 100) (by omega), if_neg (c := T (sk T p) = 101) (by omega), if_neg (c := T (sk T p) = 102) (by omega), if_neg (c := T (sk T p) = 103) (by omega), if_neg (c := T (sk T p) = 104) (by omega), if_neg (c := T (sk T p) = 105) (by omega), if_neg (c := T (sk T p) = 106) (by omega), if_neg (c := T (sk T p) = 107) (by omega), if_neg (c := T (sk T p) = 108) (by omega), if_neg (c := T (sk T p) = 109) (by omega), if_neg (c := T (sk T p) = 110) (by omega), if_neg (c := T (sk T p) = 111) (by omega), if_neg (c := T (sk T p) = 112) (by omega), if_neg (c := T (sk T p) = 113) (by omega), if_pos (c := T (sk T p) = 114) c0]
    by_cases f0 : H 11 1 = -1
    · rw [if_neg (c := T (sk T p) = 107 ∧ H 0 0 < 6) fun w => by omega, if_neg (c := T (sk T p) = 121 ∧ H 3 0 < 6) fun w => by omega, if_neg (c := T (sk T p) = 109 ∧ H 6 0 < 12) fun w => by omega, if_neg (c := T (sk T p) = 111) (by omega), if_neg (c := T (sk T p) = 115 ∧ H 11 0 = -1) fun w => by omega, if_pos (c := T (sk T p) = 114 ∧ H 11 1 = -1) ⟨c0, f0⟩]
      exact lift (D_itX hT r0 rq C V D Hr S g (by decide) (by decide) f0 (by decide) c0)
    · rw [if_neg (c := T (sk T p) = 107 ∧ H 0 0 < 6) fun w => by omega, if_neg (c := T (sk T p) = 121 ∧ H 3 0 < 6) fun w => by omega, if_neg (c := T (sk T p) = 109 ∧ H 6 0 < 12) fun w => by omega, if_neg (c := T (sk T p) = 111) (by omega), if_neg (c := T (sk T p) = 115 ∧ H 11 0 = -1) fun w => by omega, if_neg (c := T (sk T p) = 114 ∧ H 11 1 = -1) fun w => f0 w.2, if_neg (c := T (sk T p) = 98 ∧ H 11 2 = -1) fun w => by omega, if_neg (c := T (sk T p) = 108 ∧ H 11 3 = -1) fun w => by omega, E_Hd_readExtra, C.1.2.2.2.2.2, C.2.2.2.2.2.2.1, gd_t ⟨by decide, by decide, by omega⟩, D.2.2.1 1 (by decide) (by decide), if_neg f0, gd_t r1, ef, Z_bV, Z_bV]
      exact bad
  by_cases c0 : T (sk T p) = 98
  · rw [if_pos (c := T (sk T p) = 98) c0]
    by_cases f0 : H 11 2 = -1
    · rw [if_neg (c := T (sk T p) = 107 ∧ H 0 0 < 6) fun w => by omega, if_neg (c := T (sk T p) = 121 ∧ H 3 0 < 6) fun w => by omega, if_neg (c := T (sk T p) = 109 ∧ H 6 0 < 12) fun w => by omega, if_neg (c := T (sk T p) = 111) (by omega), if_neg (c := T (sk T p) = 115 ∧ H 11 0 = -1) fun w => by omega, if_neg (c := T (sk T p) = 114 ∧ H 11 1 = -1) fun w => by omega, if_pos (c := T (sk T p) = 98 ∧ H 11 2 = -1) ⟨c0, f0⟩]
      exact lift (D_itX hT r0 rq C V D Hr S g (by decide) (by decide) f0 (by decide) c0)
    · rw [if_neg (c := T (sk T p) = 107 ∧ H 0 0 < 6) fun w => by omega, if_neg (c := T (sk T p) = 121 ∧ H 3 0 < 6) fun w => by omega, if_neg (c := T (sk T p) = 109 ∧ H 6 0 < 12) fun w => by omega, if_neg (c := T (sk T p) = 111) (by omega), if_neg (c := T (sk T p) = 115 ∧ H 11 0 = -1) fun w => by omega, if_neg (c := T (sk T p) = 114 ∧ H 11 1 = -1) fun w => by omega, if_neg (c := T (sk T p) = 98 ∧ H 11 2 = -1) fun w => f0 w.2, if_neg (c := T (sk T p) = 108 ∧ H 11 3 = -1) fun w => by omega, E_Hd_readExtra, C.1.2.2.2.2.2, C.2.2.2.2.2.2.1, gd_t ⟨by decide, by decide, by omega⟩, D.2.2.1 2 (by decide) (by decide), if_neg f0, gd_t r1, ef, Z_bV, Z_bV]
      exact bad
  by_cases c0 : T (sk T p) = 108
  · rw [if_neg (c := T (sk T p) = 98) (by omega), if_neg (c := T (sk T p) = 99) (by omega), if_neg (c := T (sk T p) = 100) (by omega), if_neg (c := T (sk T p) = 101) (by omega), if_neg (c := T (sk T p) = 102) (by omega), if_neg (c := T (sk T p) = 103) (by omega), if_neg (c := T (sk T p) = 104) (by omega), if_neg (c := T (sk T p) = 105) (by omega), if_neg (c := T (sk T p) = 106) (by omega), if_neg (c := T (sk T p) = 107) (by omega), if_pos (c := T (sk T p) = 108) c0]
    by_cases f0 : H 11 3 = -1
    · rw [if_neg (c := T (sk T p) = 107 ∧ H 0 0 < 6) fun w => by omega, if_neg (c := T (sk T p) = 121 ∧ H 3 0 < 6) fun w => by omega, if_neg (c := T (sk T p) = 109 ∧ H 6 0 < 12) fun w => by omega, if_neg (c := T (sk T p) = 111) (by omega), if_neg (c := T (sk T p) = 115 ∧ H 11 0 = -1) fun w => by omega, if_neg (c := T (sk T p) = 114 ∧ H 11 1 = -1) fun w => by omega, if_neg (c := T (sk T p) = 98 ∧ H 11 2 = -1) fun w => by omega, if_pos (c := T (sk T p) = 108 ∧ H 11 3 = -1) ⟨c0, f0⟩]
      exact lift (D_itX hT r0 rq C V D Hr S g (by decide) (by decide) f0 (by decide) c0)
    · rw [if_neg (c := T (sk T p) = 107 ∧ H 0 0 < 6) fun w => by omega, if_neg (c := T (sk T p) = 121 ∧ H 3 0 < 6) fun w => by omega, if_neg (c := T (sk T p) = 109 ∧ H 6 0 < 12) fun w => by omega, if_neg (c := T (sk T p) = 111) (by omega), if_neg (c := T (sk T p) = 115 ∧ H 11 0 = -1) fun w => by omega, if_neg (c := T (sk T p) = 114 ∧ H 11 1 = -1) fun w => by omega, if_neg (c := T (sk T p) = 98 ∧ H 11 2 = -1) fun w => by omega, if_neg (c := T (sk T p) = 108 ∧ H 11 3 = -1) fun w => f0 w.2, E_Hd_readExtra, C.1.2.2.2.2.2, C.2.2.2.2.2.2.1, gd_t ⟨by decide, by decide, by omega⟩, D.2.2.1 3 (by decide) (by decide), if_neg f0, gd_t r1, ef, Z_bV, Z_bV]
      exact bad
  have sp : (if T (sk T p) = 107 ∧ H 0 0 < 6 then itK T H (sk T p + 1, -1) else (if T (sk T p) = 121 ∧ H 3 0 < 6 then itY T H (sk T p + 1, -1) else (if T (sk T p) = 109 ∧ H 6 0 < 12 then itM T H (sk T p + 1, -1) else (if T (sk T p) = 111 then itO T H (sk T p + 1, -1) else (if T (sk T p) = 115 ∧ H 11 0 = -1 then itX T H 0 (sk T p + 1, -1) else (if T (sk T p) = 114 ∧ H 11 1 = -1 then itX T H 1 (sk T p + 1, -1) else (if T (sk T p) = 98 ∧ H 11 2 = -1 then itX T H 2 (sk T p + 1, -1) else (if T (sk T p) = 108 ∧ H 11 3 = -1 then itX T H 3 (sk T p + 1, -1) else (H, sk T p, sk T p))))))))) = (H, sk T p, sk T p) := by
    rw [if_neg (c := T (sk T p) = 107 ∧ H 0 0 < 6) fun w => by omega, if_neg (c := T (sk T p) = 121 ∧ H 3 0 < 6) fun w => by omega, if_neg (c := T (sk T p) = 109 ∧ H 6 0 < 12) fun w => by omega, if_neg (c := T (sk T p) = 111) (by omega), if_neg (c := T (sk T p) = 115 ∧ H 11 0 = -1) fun w => by omega, if_neg (c := T (sk T p) = 114 ∧ H 11 1 = -1) fun w => by omega, if_neg (c := T (sk T p) = 98 ∧ H 11 2 = -1) fun w => by omega, if_neg (c := T (sk T p) = 108 ∧ H 11 3 = -1) fun w => by omega]
  rw [sp]
  rw [if_neg (c := T (sk T p) = 98) (by omega)]
  by_cases x99 : T (sk T p) = 99
  · rw [if_pos x99, gd_t r1, ef, Z_bV]
    exact bad
  rw [if_neg x99]
  by_cases x100 : T (sk T p) = 100
  · rw [if_pos x100, gd_t r1, ef, Z_bV]
    exact bad
  rw [if_neg x100]
  by_cases x101 : T (sk T p) = 101
  · rw [if_pos x101, gd_t r1, ef, Z_bV]
    exact bad
  rw [if_neg x101]
  by_cases x102 : T (sk T p) = 102
  · rw [if_pos x102, gd_t r1, ef, Z_bV]
    exact bad
  rw [if_neg x102]
  by_cases x103 : T (sk T p) = 103
  · rw [if_pos x103, gd_t r1, ef, Z_bV]
    exact bad
  rw [if_neg x103]
  by_cases x104 : T (sk T p) = 104
  · rw [if_pos x104, gd_t r1, ef, Z_bV]
    exact bad
  rw [if_neg x104]
  by_cases x105 : T (sk T p) = 105
  · rw [if_pos x105, gd_t r1, ef, Z_bV]
    exact bad
  rw [if_neg x105]
  by_cases x106 : T (sk T p) = 106
  · rw [if_pos x106, gd_t r1, ef, Z_bV]
    exact bad
  rw [if_neg x106]
  rw [if_neg (c := T (sk T p) = 107) (by omega)]
  rw [if_neg (c := T (sk T p) = 108) (by omega)]
  rw [if_neg (c := T (sk T p) = 109) (by omega)]
  by_cases x110 : T (sk T p) = 110
  · rw [if_pos x110, gd_t r1, ef, Z_bV]
    exact bad
  rw [if_neg x110]
  rw [if_neg (c := T (sk T p) = 111) (by omega)]
  by_cases x112 : T (sk T p) = 112
  · rw [if_pos x112, gd_t r1, ef, Z_bV]
    exact bad
  rw [if_neg x112]
  by_cases x113 : T (sk T p) = 113
  · rw [if_pos x113, gd_t r1, ef, Z_bV]
    exact bad
  rw [if_neg x113]
  rw [if_neg (c := T (sk T p) = 114) (by omega)]
  rw [if_neg (c := T (sk T p) = 115) (by omega)]
  by_cases x116 : T (sk T p) = 116
  · rw [if_pos x116, gd_t r1, ef, Z_bV]
    exact bad
  rw [if_neg x116]
  by_cases x117 : T (sk T p) = 117
  · rw [if_pos x117, gd_t r1, ef, Z_bV]
    exact bad
  rw [if_neg x117]
  by_cases x118 : T (sk T p) = 118
  · rw [if_pos x118, gd_t r1, ef, Z_bV]
    exact bad
  rw [if_neg x118]
  by_cases x119 : T (sk T p) = 119
  · rw [if_pos x119, gd_t r1, ef, Z_bV]
    exact bad
  rw [if_neg x119]
  by_cases x120 : T (sk T p) = 120
  · rw [if_pos x120, gd_t r1, ef, Z_bV]
    exact bad
  rw [if_neg x120]
  rw [if_neg (c := T (sk T p) = 121) (by omega)]
  rw [gd_t r1, ef, Z_bV]
  exact bad
theorem WHc_rtp {r q : Int} (r0 : 56 < r) (rq : r < q) {T : Int → Int} {n : Int} {h h1 : mH} (H : rtp h r T n) (x : Ew (WHc r q) h h1) : rtp h1 r T n := by
  have n0 : ∀ k, k < 2 → ¬ WHc r q r k := fun k k2 w => by
    unfold WHc WR at w
    omega
  have n2 : ∀ k, ¬ WHc r q 2 k := fun k w => by
    unfold WHc WR at w
    omega
  exact ⟨(x.2 r 0 (n0 0 (by decide))).trans H.1, (x.2 r 1 (n0 1 (by decide))).trans H.2.1, by rw [x.N]; exact H.2.2.1, fun i i0 i1 => (x.2 2 i (n2 i)).trans (H.2.2.2.1 i i0 i1), H.2.2.2.2⟩
theorem chl.wh {h h1 : mH} {r q : Int} (C : chl h q) (rq : r < q) (x : Ew (WHc r q) h h1) : chl h1 q := C.cg (fun b k w => x.2 b k fun y => by unfold plc at w; unfold WHc WR at y; omega) (fun b _ _ => by rw [x.N])
theorem D_rf3 {T : Int → Int} {N : Int} (hT : tpo T N) {r q : Int} (r0 : 56 < r) (rq : r < q) : ∀ (f : Nat) (H : HD) (s : Int × Int) (i : Int) (h : mH), i + f = 160 → 1 ≤ i → rtp h r T N → rst5 h r T s → gs N s → chl h q → (s.2 = -1 → hdv H ∧ chd h q H) → ∃ h', Rn kHd_readFrom 3 [vR 5 r, vR 2 q, vI i] [] h = some (some (vR 2 q), h') ∧ Ew (WHc r q) h h' ∧ h'.M r 5 = (fnS T (itsS T f H s).2).2 ∧ chl h' q ∧ ((fnS T (itsS T f H s).2).2 = -1 → hdv (itsS T f H s).1 ∧ chd h' q (itsS T f H s).1) := by
  intro f
  induction f with
  | zero =>
    intro H s i h ei i1 Hr S g C I
    obtain ⟨h', e, x, m⟩ := D_finish hT S g
    refine ⟨h', by rw [E_Hd_readFrom_3, if_neg (by omega), gd_t (by omega), e, Z_bV], x.mono fun _ _ w => WHc_R w, m, C.ew x rq, fun z => ?_⟩
    have s0 : s.2 = -1 := by
      have z' : (fnS T s).2 = -1 := z
      unfold fnS at z'
      by_cases y : s.2 = -1 ∧ T (sk T s.1) ≠ -1
      · exact y.1
      · rw [if_neg y] at z'; exact z'
    obtain ⟨V, D⟩ := I s0
    exact ⟨V, D.cg fun b k w => x.2 b k fun y => by have := y.1; omega⟩
  | succ f ih =>
    intro H s i h ei i1 Hr S g C I
    obtain ⟨h1, e1, x1, S1, g1⟩ := D_takes hT Hr S g (c := 44) (by decide)
    have C1 := C.ew x1 rq
    have T1 := Hr.ew x1
    rw [E_Hd_readFrom_3, if_pos (by omega), gd_t (by omega), e1, Z_bI]
    by_cases w : s.2 = -1 ∧ T (sk T s.1) = 44
    · obtain ⟨V, D⟩ := I w.1
      have D1 : chd h1 q H := D.cg fun b k w => x1.2 b k fun y => by have := y.1; omega
      have t : tkS T 44 s = (sk T s.1 + 1, -1) := if_pos w
      rw [t] at S1 g1
      have u : itsS T (f + 1) H s = itsS T f (itS T H (sk T s.1 + 1, -1)).1 (itS T H (sk T s.1 + 1, -1)).2 := if_pos w
      obtain ⟨h2, e2, x2, S2, D2⟩ := D_item hT r0 rq C1 V D1 T1 S1 g1
      have iv := itS_v hT V g1 rfl
      obtain ⟨h3, e3, x3, m3, C3, D3⟩ := ih (itS T H (sk T s.1 + 1, -1)).1 (itS T H (sk T s.1 + 1, -1)).2 (i + 1) h2 (by omega) (by omega) (WHc_rtp r0 rq T1 x2) S2 iv.1 (C1.wh rq x2) (fun z => ⟨(iv.2 z).1, D2 z⟩)
      refine ⟨h3, ?_, ((x1.mono fun _ _ w => WHc_R w).tr x2).tr x3, by rw [u]; exact m3, C3, by rw [u]; exact D3⟩
      rw [bz_t w, if_neg (by decide), gd_t (by omega), e2, Z_bV, Z_wI (by omega)]
      exact e3
    · have t : tkS T 44 s = s := if_neg w
      rw [t] at S1 g1
      have u : itsS T (f + 1) H s = (H, s) := if_neg w
      obtain ⟨h', e, x, m⟩ := D_finish hT S1 g1
      rw [u, bz_f w, if_pos rfl, gd_t (by omega), e, Z_bV]
      refine ⟨h', rfl, (x1.mono fun _ _ w => WHc_R w).tr (x.mono fun _ _ w => WHc_R w), m, C1.ew x rq, fun z => ?_⟩
      have s0 : s.2 = -1 := by
        have z' : (fnS T s).2 = -1 := z
        unfold fnS at z'
        by_cases y : s.2 = -1 ∧ T (sk T s.1) ≠ -1
        · exact y.1
        · rw [if_neg y] at z'; exact z'
      obtain ⟨V, D⟩ := I s0
      exact ⟨V, (D.cg fun b k w => x1.2 b k fun y => by have := y.1; omega).cg fun b k w => x.2 b k fun y => by have := y.1; omega⟩
theorem C_stInit {t : Int} {h : mH} (ht : (h.cnt : Int) = t) : ∃ h', Cl kSt_init [vO 8 t] h = some (none, h') ∧ h'.cnt = h.cnt + 2 ∧ h'.sl = h.sl + 12 ∧ h'.X = h.X ∧ (∀ b k, h'.M b k = if b = t ∧ k = 1 then t + 2 else if b = t ∧ k = 0 then t + 1 else if b = t + 1 ∨ b = t + 2 then 0 else h.M b k) ∧ ∀ b, h'.N b = if b = t + 1 ∨ b = t + 2 then 6 else h.N b := by
  have q : Cl kSt_init [vO 8 t] h = some (none, (((h.new 100 6).set t 0 (h.top)).new 100 6).set t 1 ((h.new 100 6).set t 0 (h.top)).top) := by
    rw [E_St_init, gd_t (by decide), Z_hl, Z_hl, E_St_init_1, gd_t (by decide), Z_hl, Z_hl, E_St_init_2]
  refine ⟨_, q, rfl, rfl, rfl, ?_, ?_⟩
  all_goals intros
  all_goals simp only [Z_Ms, Z_Mw, Z_Nw, Z_Ns, Z_ts, Z_tw, Z_top, Z_cs, Z_cw]
  all_goals (repeat' split)
  all_goals first | omega | rfl
theorem C_prInit {t : Int} {h : mH} (ht : (h.cnt : Int) = t) : ∃ h', Cl kPr_init [vO 4 t] h = some (none, h') ∧ h'.cnt = h.cnt + 3 ∧ h'.sl = h.sl + 36 ∧ h'.X = h.X ∧ (∀ b k, h'.M b k = if b = t ∧ k = 2 then t + 3 else if b = t ∧ k = 1 then t + 2 else if b = t ∧ k = 0 then t + 1 else if b = t + 1 ∨ b = t + 2 ∨ b = t + 3 then 0 else h.M b k) ∧ ∀ b, h'.N b = if b = t + 1 ∨ b = t + 2 ∨ b = t + 3 then 12 else h.N b := by
  have q : Cl kPr_init [vO 4 t] h = some (none, (((((h.new 100 12).set t 0 (h.top)).new 100 12).set t 1 ((h.new 100 12).set t 0 (h.top)).top).new 100 12).set t 2 ((((h.new 100 12).set t 0 (h.top)).new 100 12).set t 1 ((h.new 100 12).set t 0 (h.top)).top).top) := by
    rw [E_Pr_init, gd_t (by decide), Z_hl, Z_hl, E_Pr_init_1, gd_t (by decide), Z_hl, Z_hl, E_Pr_init_2, gd_t (by decide), Z_hl, Z_hl, E_Pr_init_3]
  refine ⟨_, q, rfl, rfl, rfl, ?_, ?_⟩
  all_goals intros
  all_goals simp only [Z_Ms, Z_Mw, Z_Nw, Z_Ns, Z_ts, Z_tw, Z_top, Z_cs, Z_cw]
  all_goals (repeat' split)
  all_goals first | omega | rfl
set_option maxHeartbeats 8000000 in
theorem C_hdInit {q : Int} {h : mH} (hq : (h.cnt : Int) = q) (q0 : 56 < q) (z : ∀ k, h.M q k = 0) : ∃ h', Cl kHd_init [vO 2 q] h = some (none, h') ∧ h'.cnt = h.cnt + 11 ∧ h'.sl = h.sl + 85 ∧ h'.X = h.X ∧ (∀ b k, b < q → h'.M b k = h.M b k) ∧ (∀ b, b ≤ q → h'.N b = h.N b) ∧ chl h' q ∧ chd h' q H00 ∧ h'.M q 8 = 1 := by
  obtain ⟨hB, eB⟩ : ∃ u, u = (((h.new 100 6).set q 0 (h.top)).new 100 6).set q 1 (((h.new 100 6).set q 0 (h.top)).top) := ⟨_, rfl⟩
  have cB : hB.cnt = h.cnt + 2 := by rw [eB]; rfl
  have sB : hB.sl = h.sl + 12 := by rw [eB]; rfl
  have XB : hB.X = h.X := by rw [eB]; rfl
  have MB : ∀ b k, hB.M b k = if b = q ∧ k = 1 then q + 2 else if b = q ∧ k = 0 then q + 1 else if b = q + 1 ∨ b = q + 2 then 0 else h.M b k := by
    intro b k
    rw [eB]
    simp only [Z_Ms, Z_Mw, Z_ts, Z_tw, Z_top, Z_cs, Z_cw]
    (repeat' split)
    all_goals first | omega | rfl
  have NB : ∀ b, hB.N b = if b = q + 1 ∨ b = q + 2 then 6 else h.N b := by
    intro b
    rw [eB]
    simp only [Z_Nw, Z_Ns, Z_ts, Z_tw, Z_top, Z_cs, Z_cw]
    (repeat' split)
    all_goals first | omega | rfl
  have tB : hB.top = q + 3 := by rw [Z_top, cB]; omega
  obtain ⟨hC, e1, cC, sC, XC, MC, NC⟩ := C_stInit (t := q + 3) (h := hB.new 8 4) (by rw [Z_cw, cB]; omega)
  obtain ⟨hD, eD⟩ : ∃ u, u = hC.set q 3 (q + 3) := ⟨_, rfl⟩
  have cC' : hC.cnt = h.cnt + 5 := by rw [cC, Z_cw, cB]
  have tD : hD.top = q + 6 := by rw [eD, Z_ts, Z_top, cC']; omega
  obtain ⟨hE, e2, cE, sE, XE, ME, NE⟩ := C_prInit (t := q + 6) (h := hD.new 4 4) (by rw [Z_cw, eD, Z_cs, cC']; omega)
  have cE' : hE.cnt = h.cnt + 9 := by rw [cE, Z_cw, eD, Z_cs, cC']
  obtain ⟨hF, eF⟩ : ∃ u, u = hE.set q 4 (q + 6) := ⟨_, rfl⟩
  have tF : hF.top = q + 10 := by rw [eF, Z_ts, Z_top, cE']; omega
  obtain ⟨hG, eG⟩ : ∃ u, u = (hF.new 102 13).set q 5 (q + 10) := ⟨_, rfl⟩
  have tG : hG.top = q + 11 := by rw [eG, Z_ts, Z_tw, tF]; omega
  obtain ⟨hI, eI⟩ : ∃ u, u = ((((((hG.new 100 4).set (q + 11) 0 (-1)).set (q + 11) 1 (-1)).set (q + 11) 2 (-1)).set (q + 11) 3 (-1)).set q 7 (q + 11)).set q 8 1 := ⟨_, rfl⟩
  have MI : ∀ b k, hI.M b k = if b = q ∧ k = 8 then 1 else if b = q ∧ k = 7 then q + 11 else if b = q + 11 then (if 0 ≤ k ∧ k < 4 then -1 else 0) else if b = q ∧ k = 5 then q + 10 else if b = q + 10 then 0 else if b = q ∧ k = 4 then q + 6 else hE.M b k := by
    intro b k
    rw [eI, Z_Ms]
    by_cases c1 : b = q ∧ k = 8
    · rw [if_pos c1, if_pos c1]
    rw [if_neg c1, if_neg c1, Z_Ms]
    by_cases c2 : b = q ∧ k = 7
    · rw [if_pos c2, if_pos c2]
    rw [if_neg c2, if_neg c2, Z_Ms, Z_Ms, Z_Ms, Z_Ms, Z_Mw, tG]
    by_cases c3 : b = q + 11
    · rw [if_pos c3 (c := b = q + 11), if_pos c3 (c := b = q + 11)]
      by_cases d3 : k = 3
      · rw [if_pos ⟨c3, d3⟩, if_pos (by omega)]
      rw [if_neg fun w => d3 w.2]
      by_cases d2 : k = 2
      · rw [if_pos ⟨c3, d2⟩, if_pos (by omega)]
      rw [if_neg fun w => d2 w.2]
      by_cases d1 : k = 1
      · rw [if_pos ⟨c3, d1⟩, if_pos (by omega)]
      rw [if_neg fun w => d1 w.2]
      by_cases d0 : k = 0
      · rw [if_pos ⟨c3, d0⟩, if_pos (by omega)]
      rw [if_neg (fun w => d0 w.2), if_neg (by omega)]
    rw [if_neg (fun w => c3 w.1), if_neg (fun w => c3 w.1), if_neg (fun w => c3 w.1), if_neg (fun w => c3 w.1), if_neg c3, if_neg c3, eG, Z_Ms]
    by_cases c4 : b = q ∧ k = 5
    · rw [if_pos c4, if_pos c4]
    rw [if_neg c4, if_neg c4, Z_Mw, tF]
    by_cases c5 : b = q + 10
    · rw [if_pos c5, if_pos c5]
    rw [if_neg c5, if_neg c5, eF, Z_Ms]
  have NI : ∀ b, hI.N b = if b = q + 11 then 4 else if b = q + 10 then 13 else hE.N b := by
    intro b
    rw [eI]
    show (hG.new 100 4).N b = _
    rw [Z_Nw, tG, eG]
    show (if b = q + 11 then (4 : Int) else (hF.new 102 13).N b) = _
    rw [Z_Nw, tF, eF]
    rfl
  have MD : ∀ b k, (hD.new 4 4).M b k = if b = q + 6 then 0 else if b = q ∧ k = 3 then q + 3 else hC.M b k := by
    intro b k
    rw [Z_Mw, tD, eD, Z_Ms]
  have ND : ∀ b, (hD.new 4 4).N b = if b = q + 6 then 4 else hC.N b := by
    intro b
    rw [Z_Nw, tD, eD, Z_Ns]
  have MB' : ∀ b k, (hB.new 8 4).M b k = if b = q + 3 then 0 else hB.M b k := by
    intro b k
    rw [Z_Mw, tB]
  have NB' : ∀ b, (hB.new 8 4).N b = if b = q + 3 then 4 else hB.N b := by
    intro b
    rw [Z_Nw, tB]
  have gN : (hG.new 100 4).N (q + 11) = 4 := by rw [Z_Nw, tG, if_pos rfl]
  refine ⟨hI, ?_, ?_, ?_, ?_, ?_, ?_, ?_, ?_, ?_⟩
  · have tb : (h.new 100 6).top = q + 2 := by rw [Z_tw, Z_top]; omega
    rw [E_Hd_init, gd_t (by decide), Z_hl, Z_hl, E_Hd_init_1, gd_t (by decide), Z_hl, Z_hl, ← eB, E_Hd_init_2, Z_hl, tB, e1, Z_bV, E_Hd_init_3, Z_hl, ← eD, E_Hd_init_4, Z_hl, tD, e2, Z_bV, E_Hd_init_5, Z_hl, ← eF, E_Hd_init_6, gd_t (by decide), Z_hl, Z_hl, tF, ← eG, E_Hd_init_7, gd_t (by decide), Z_hl, tG, gN, gd_t (by omega), Z_hl, Z_Ns, gN, gd_t (by omega), Z_hl, Z_Ns, Z_Ns, gN, gd_t (by omega), Z_hl, Z_Ns, Z_Ns, Z_Ns, gN, gd_t (by omega), Z_hl, Z_hl, E_Hd_init_8, Z_hl, E_Hd_init_9, ← eI]
  · rw [eI]
    show hG.cnt + 1 = _
    rw [eG]
    show hF.cnt + 1 + 1 = _
    rw [eF]
    show hE.cnt + 1 + 1 = _
    rw [cE']
  · rw [eI]
    show hG.sl + 4 = _
    rw [eG]
    show hF.sl + 13 + 4 = _
    rw [eF]
    show hE.sl + 13 + 4 = _
    rw [sE]
    show hD.sl + 4 + 36 + 13 + 4 = _
    rw [eD]
    show hC.sl + 4 + 36 + 13 + 4 = _
    rw [sC]
    show hB.sl + 4 + 12 + 4 + 36 + 13 + 4 = _
    rw [sB]
  · rw [eI]
    show hG.X = _
    rw [eG]
    show hF.X = _
    rw [eF]
    show hE.X = _
    rw [XE]
    show hD.X = _
    rw [eD]
    show hC.X = _
    rw [XC]
    exact XB
  · intro b k hb
    rw [MI, if_neg (by omega), if_neg (by omega), if_neg (by omega), if_neg (by omega), if_neg (by omega), if_neg (by omega), ME, if_neg (by omega), if_neg (by omega), if_neg (by omega), if_neg (by omega), MD, if_neg (by omega), if_neg (by omega), MC, if_neg (by omega), if_neg (by omega), if_neg (by omega), MB', if_neg (by omega), MB, if_neg (by omega), if_neg (by omega), if_neg (by omega)]
  · intro b hb
    rw [NI, if_neg (by omega), if_neg (by omega), NE, if_neg (by omega), ND, if_neg (by omega), NC, if_neg (by omega), NB', if_neg (by omega), NB, if_neg (by omega)]
  · refine ⟨⟨?_, ?_, ?_, ?_, ?_, ?_⟩, ⟨?_, ?_⟩, ⟨?_, ?_, ?_⟩, ⟨?_, ?_, ?_, ?_⟩, ⟨?_, ?_, ?_⟩, ?_, ?_, q0⟩
    · rw [MI, if_neg (by omega), if_neg (by omega), if_neg (by omega), if_neg (by omega), if_neg (by omega), if_neg (by omega), ME, if_neg (by omega), if_neg (by omega), if_neg (by omega), if_neg (by omega), MD, if_neg (by omega), if_neg (by omega), MC, if_neg (by omega), if_neg (by omega), if_neg (by omega), MB', if_neg (by omega), MB, if_neg (by omega), if_pos (by omega)] <;> omega
    · rw [MI, if_neg (by omega), if_neg (by omega), if_neg (by omega), if_neg (by omega), if_neg (by omega), if_neg (by omega), ME, if_neg (by omega), if_neg (by omega), if_neg (by omega), if_neg (by omega), MD, if_neg (by omega), if_neg (by omega), MC, if_neg (by omega), if_neg (by omega), if_neg (by omega), MB', if_neg (by omega), MB, if_pos (by omega)] <;> omega
    · rw [MI, if_neg (by omega), if_neg (by omega), if_neg (by omega), if_neg (by omega), if_neg (by omega), if_neg (by omega), ME, if_neg (by omega), if_neg (by omega), if_neg (by omega), if_neg (by omega), MD, if_neg (by omega), if_pos (by omega)] <;> omega
    · rw [MI, if_neg (by omega), if_neg (by omega), if_neg (by omega), if_neg (by omega), if_neg (by omega), if_pos (by omega)] <;> omega
    · rw [MI, if_neg (by omega), if_neg (by omega), if_neg (by omega), if_pos (by omega)] <;> omega
    · rw [MI, if_neg (by omega), if_pos (by omega)] <;> omega
    · rw [MI, if_neg (by omega), if_neg (by omega), if_neg (by omega), if_neg (by omega), if_neg (by omega), if_neg (by omega), ME, if_neg (by omega), if_neg (by omega), if_neg (by omega), if_neg (by omega), MD, if_neg (by omega), if_neg (by omega), MC, if_neg (by omega), if_pos (by omega)] <;> omega
    · rw [MI, if_neg (by omega), if_neg (by omega), if_neg (by omega), if_neg (by omega), if_neg (by omega), if_neg (by omega), ME, if_neg (by omega), if_neg (by omega), if_neg (by omega), if_neg (by omega), MD, if_neg (by omega), if_neg (by omega), MC, if_pos (by omega)] <;> omega
    · rw [MI, if_neg (by omega), if_neg (by omega), if_neg (by omega), if_neg (by omega), if_neg (by omega), if_neg (by omega), ME, if_neg (by omega), if_neg (by omega), if_pos (by omega)] <;> omega
    · rw [MI, if_neg (by omega), if_neg (by omega), if_neg (by omega), if_neg (by omega), if_neg (by omega), if_neg (by omega), ME, if_neg (by omega), if_pos (by omega)] <;> omega
    · rw [MI, if_neg (by omega), if_neg (by omega), if_neg (by omega), if_neg (by omega), if_neg (by omega), if_neg (by omega), ME, if_pos (by omega)] <;> omega
    · rw [NI, if_neg (by omega), if_neg (by omega), NE, if_neg (by omega), ND, if_neg (by omega), NC, if_neg (by omega), NB', if_neg (by omega), NB, if_pos (by omega)]
    · rw [NI, if_neg (by omega), if_neg (by omega), NE, if_neg (by omega), ND, if_neg (by omega), NC, if_neg (by omega), NB', if_neg (by omega), NB, if_pos (by omega)]
    · rw [NI, if_neg (by omega), if_neg (by omega), NE, if_neg (by omega), ND, if_neg (by omega), NC, if_pos (by omega)]
    · rw [NI, if_neg (by omega), if_neg (by omega), NE, if_neg (by omega), ND, if_neg (by omega), NC, if_pos (by omega)]
    · rw [NI, if_neg (by omega), if_neg (by omega), NE, if_pos (by omega)]
    · rw [NI, if_neg (by omega), if_neg (by omega), NE, if_pos (by omega)]
    · rw [NI, if_neg (by omega), if_neg (by omega), NE, if_pos (by omega)]
    · rw [NI, if_neg (by omega), if_pos (by omega)]
    · rw [NI, if_pos (by omega)]
  · have c0 : cn (fun m => H00 10 m = 1) 12 1 = 0 := cn_0 12 1 fun i _ _ w => absurd w (by show ¬ (0 : Int) = 1; decide)
    have hz : ∀ b j, b ≠ 11 → H00 b j = 0 := fun b j n => if_neg n
    have h11 : ∀ j, H00 11 j = -1 := fun j => if_pos rfl
    have z2 := z 2
    have z6 := z 6
    have st : strd H00 0 := by
      unfold strd
      rw [hz 3 0 (by decide)]
      exact ⟨by decide, by decide, fun _ => rfl, fun w => by omega, fun i i0 i1 => by omega⟩
    have s33 : hI.M (q + 3) 3 = 0 := by
      rw [MI, if_neg (by omega), if_neg (by omega), if_neg (by omega), if_neg (by omega), if_neg (by omega), if_neg (by omega), ME, if_neg (by omega), if_neg (by omega), if_neg (by omega), if_neg (by omega), MD, if_neg (by omega), if_neg (by omega), MC, if_neg (by omega), if_neg (by omega), if_neg (by omega), MB', if_pos (by omega)]
    refine ⟨⟨?_, ?_, ?_⟩, fun i => ⟨?_, ?_, ?_, ?_, ?_, ?_, ?_, ?_⟩, fun j j0 j1 => ?_, by rw [s33]; exact st, ?_⟩
    · rw [hz 0 0 (by decide), MI, if_neg (by omega), if_neg (by omega), if_neg (by omega), if_neg (by omega), if_neg (by omega), if_neg (by omega), ME, if_neg (by omega), if_neg (by omega), if_neg (by omega), if_neg (by omega), MD, if_neg (by omega), if_neg (by omega), MC, if_neg (by omega), if_neg (by omega), if_neg (by omega), MB', if_neg (by omega), MB, if_neg (by omega), if_neg (by omega), if_neg (by omega)]; exact z2
    · rw [hz 3 0 (by decide), MI, if_neg (by omega), if_neg (by omega), if_neg (by omega), if_neg (by omega), if_neg (by omega), if_neg (by omega), ME, if_neg (by omega), if_neg (by omega), if_neg (by omega), if_neg (by omega), MD, if_neg (by omega), if_neg (by omega), MC, if_neg (by omega), if_neg (by omega), if_neg (by omega), MB', if_pos (by omega)]
    · rw [hz 6 0 (by decide), MI, if_neg (by omega), if_neg (by omega), if_neg (by omega), if_neg (by omega), if_neg (by omega), if_neg (by omega), ME, if_neg (by omega), if_neg (by omega), if_neg (by omega), if_neg (by omega), MD, if_pos (by omega)]
    · rw [hz 1 i (by decide), MI, if_neg (by omega), if_neg (by omega), if_neg (by omega), if_neg (by omega), if_neg (by omega), if_neg (by omega), ME, if_neg (by omega), if_neg (by omega), if_neg (by omega), if_neg (by omega), MD, if_neg (by omega), if_neg (by omega), MC, if_neg (by omega), if_neg (by omega), if_neg (by omega), MB', if_neg (by omega), MB, if_neg (by omega), if_neg (by omega), if_pos (by omega)]
    · rw [hz 2 i (by decide), MI, if_neg (by omega), if_neg (by omega), if_neg (by omega), if_neg (by omega), if_neg (by omega), if_neg (by omega), ME, if_neg (by omega), if_neg (by omega), if_neg (by omega), if_neg (by omega), MD, if_neg (by omega), if_neg (by omega), MC, if_neg (by omega), if_neg (by omega), if_neg (by omega), MB', if_neg (by omega), MB, if_neg (by omega), if_neg (by omega), if_pos (by omega)]
    · rw [hz 4 i (by decide), MI, if_neg (by omega), if_neg (by omega), if_neg (by omega), if_neg (by omega), if_neg (by omega), if_neg (by omega), ME, if_neg (by omega), if_neg (by omega), if_neg (by omega), if_neg (by omega), MD, if_neg (by omega), if_neg (by omega), MC, if_neg (by omega), if_neg (by omega), if_pos (by omega)]
    · rw [hz 5 i (by decide), MI, if_neg (by omega), if_neg (by omega), if_neg (by omega), if_neg (by omega), if_neg (by omega), if_neg (by omega), ME, if_neg (by omega), if_neg (by omega), if_neg (by omega), if_neg (by omega), MD, if_neg (by omega), if_neg (by omega), MC, if_neg (by omega), if_neg (by omega), if_pos (by omega)]
    · rw [hz 7 i (by decide), MI, if_neg (by omega), if_neg (by omega), if_neg (by omega), if_neg (by omega), if_neg (by omega), if_neg (by omega), ME, if_neg (by omega), if_neg (by omega), if_neg (by omega), if_pos (by omega)]
    · rw [hz 8 i (by decide), MI, if_neg (by omega), if_neg (by omega), if_neg (by omega), if_neg (by omega), if_neg (by omega), if_neg (by omega), ME, if_neg (by omega), if_neg (by omega), if_neg (by omega), if_pos (by omega)]
    · rw [hz 9 i (by decide), MI, if_neg (by omega), if_neg (by omega), if_neg (by omega), if_neg (by omega), if_neg (by omega), if_neg (by omega), ME, if_neg (by omega), if_neg (by omega), if_neg (by omega), if_pos (by omega)]
    · rw [hz 10 i (by decide), MI, if_neg (by omega), if_neg (by omega), if_neg (by omega), if_neg (by omega), if_pos (by omega)]
    · rw [h11 j, MI, if_neg (by omega), if_neg (by omega), if_pos rfl, if_pos ⟨j0, j1⟩]
    · rw [c0, MI, if_neg (by omega), if_neg (by omega), if_neg (by omega), if_neg (by omega), if_neg (by omega), if_neg (by omega), ME, if_neg (by omega), if_neg (by omega), if_neg (by omega), if_neg (by omega), MD, if_neg (by omega), if_neg (by omega), MC, if_neg (by omega), if_neg (by omega), if_neg (by omega), MB', if_neg (by omega), MB, if_neg (by omega), if_neg (by omega), if_neg (by omega)]; exact z6
  · rw [MI, if_pos ⟨rfl, rfl⟩]
theorem D_readHead {T : Int → Int} {N : Int} (hT : tpo T N) {r : Int} (r0 : 56 < r) {h : mH} (rc : r ≤ h.cnt) (Hr : rtp h r T N) (S : rst5 h r T (0, -1)) : ∃ h' q, Cl kHd_readFrom [vR 5 r] h = some (some (vR 2 q), h') ∧ q = (h.cnt : Int) + 1 ∧ Fb h.cnt (WR r) h h' ∧ h'.cnt = h.cnt + 12 ∧ h'.sl = h.sl + 96 ∧ h'.M r 5 = hdw T ∧ (hdw T = -1 → hdv (hdP T).1 ∧ chl h' q ∧ chd h' q (hdP T).1 ∧ h'.M q 8 = 1) := by
  obtain ⟨q, hq⟩ : ∃ q, q = h.top := ⟨_, rfl⟩
  have qc : q = (h.cnt : Int) + 1 := hq
  obtain ⟨h1, e1, c1, s1, X1, M1, N1, C1, D1, w1⟩ := C_hdInit (q := q) (h := h.new 2 11) (by rw [Z_cw]; omega) (by omega) (fun k => by rw [Z_Mw, ← hq, if_pos rfl])
  have m1 : ∀ b k, b < q → h1.M b k = h.M b k := fun b k hb => (M1 b k hb).trans (by rw [Z_Mw, if_neg (by rw [← hq]; omega)])
  have n1 : ∀ b, b < q → h1.N b = h.N b := fun b hb => (N1 b (by omega)).trans (by rw [Z_Nw, if_neg (by rw [← hq]; omega)])
  have T1 : rtp h1 r T N := ⟨(m1 r 0 (by omega)).trans Hr.1, (m1 r 1 (by omega)).trans Hr.2.1, (n1 2 (by omega)).trans Hr.2.2.1, fun i i0 i1 => (m1 2 i (by omega)).trans (Hr.2.2.2.1 i i0 i1), Hr.2.2.2.2⟩
  have S1 : rst5 h1 r T (0, -1) := ⟨(m1 r 5 (by omega)).trans S.1, fun z => ⟨(m1 r 2 (by omega)).trans (S.2.1 z).1, (m1 r 3 (by omega)).trans (S.2.1 z).2⟩, fun z => (m1 r 3 (by omega)).trans (S.2.2 z)⟩
  have g0 : gs N (0, -1) := gs_1 (Int.le_refl _) hT.1
  obtain ⟨h2, e2, x2, S2, D2⟩ := D_item hT r0 (by omega : r < q) C1 H00_v D1 T1 S1 g0
  have iv := itS_v hT H00_v g0 rfl
  obtain ⟨h3, e3, x3, m3, C3, D3⟩ := D_rf3 hT r0 (by omega : r < q) 159 (itS T H00 (0, -1)).1 (itS T H00 (0, -1)).2 1 h2 (by omega) (by omega) (WHc_rtp r0 (by omega) T1 x2) S2 iv.1 (C1.wh (by omega) x2) (fun z => ⟨(iv.2 z).1, D2 z⟩)
  have x := x2.tr x3
  have low : ∀ b k, b < q → WHc r q b k → WR r b k := fun b k hb w => by
    rcases w with w | w
    · exact w
    · exfalso; omega
  refine ⟨h3, q, ?_, qc, ⟨fun b k hb w => (x.2 b k fun y => w (low b k (by omega) y)).trans (m1 b k (by omega)), fun b hb => by rw [x.N]; exact n1 b (by omega), by rw [x.cnt, c1, Z_cw]; omega, by rw [x.X, X1, Z_Xw]⟩, by rw [x.cnt, c1, Z_cw], by rw [x.sl, s1, Z_sw]; rfl, m3, fun z => ⟨(D3 z).1, C3, (D3 z).2, ?_⟩⟩
  · rw [E_Hd_readFrom, Z_hl, ← hq, e1, Z_bV, gd_t (by omega), e2, Z_bV]
    exact e3
  · exact (x.2 q 8 fun w => by unfold WHc WR at w; omega).trans w1
