/-! THE PURE PART, a head's text, read by the class: steps -/
theorem C_gcd3 (u0 u1 : mV) (h : mH) : ∀ (m : Nat) (x y n : Int) (u4 : mV), y < m → 0 ≤ y → 1 ≤ x → x ≤ 400 → y ≤ 400 → 0 ≤ n → n + y ≤ 400 → ∃ g, Rn kSt_commonDivisor 3 [u0, u1, vI x, vI y, vI n, u4] [] h = some (some (vI g), h) ∧ 1 ≤ g ∧ g ≤ 400 ∧ g ∣ x ∧ g ∣ y := by
  intro m
  induction m with
  | zero => intro x y n u4 h0 h1; omega
  | succ m ih =>
    intro x y n u4 h0 h1 h2 h3 h4 n0 n1
    rw [E_St_commonDivisor_3]
    by_cases z : y ≤ 0
    · have : y = 0 := by omega
      subst this
      exact ⟨x, by rw [if_pos z, ite_self], h2, h3, Int.dvd_refl _, Int.dvd_zero _⟩
    · have t : Int.tmod x y = x % y := Z_tmod (by omega)
      have m1 := Int.emod_nonneg x (show y ≠ 0 by omega)
      have m2 := Int.emod_lt_of_pos x (show 0 < y by omega)
      obtain ⟨g, e, g1, g2, g3, g4⟩ := ih y (x % y) (n + 1) (vI (x % y)) (by omega) m1 (by omega) h4 (by omega) (by omega) (by omega)
      refine ⟨g, by rw [if_pos (by omega), if_neg z, gd_t (by omega), t, Z_wI (by omega)]; exact e, g1, g2, ?_, g3⟩
      have q := Int.mul_ediv_add_emod x y
      rw [← q]
      exact Int.dvd_add (Int.dvd_mul_of_dvd_left g3) g4
theorem C_gcd (h : mH) {d w : Int} (d0 : 0 ≤ d) (d1 : d ≤ 400) (w0 : 1 ≤ w) (w1 : w ≤ 400) : ∃ g, Cl kSt_commonDivisor [vI d, vI w] h = some (some (vI g), h) ∧ 1 ≤ g ∧ g ≤ 400 ∧ g ∣ d ∧ g ∣ w := by
  rw [E_St_commonDivisor, D_max, Z_bI, D_min, Z_bI]
  have a := imax_b d w
  have b : imin d w = if d ≤ w then d else w := rfl
  obtain ⟨g, e, g1, g2, g3, g4⟩ := C_gcd3 (vI d) (vI w) h 401 (imax d w) (imin d w) 0 vU (by rw [b]; split <;> omega) (by rw [b]; split <;> omega) (by omega) (by omega) (by rw [b]; split <;> omega) (by omega) (by rw [b]; split <;> omega)
  refine ⟨g, e, g1, g2, ?_, ?_⟩
  · by_cases z : d ≤ w
    · rw [b, if_pos z] at g4; exact g4
    · rw [show imax d w = d by omega] at g3; exact g3
  · by_cases z : d ≤ w
    · have t : imax d w = w := by
        unfold imax
        by_cases y : d < w
        · rw [if_pos y]
        · rw [if_neg y]; omega
      rw [t] at g3; exact g3
    · rw [b, if_neg z] at g4; exact g4
theorem C_has1 {h : mH} {a : Int} {H : HD} (hk : H 3 0 ≤ 6) (e0 : h.M a 0 ≠ 0) (e2 : h.M a 2 = H 3 0) (n : h.N (h.M a 0) = 6) (m : ∀ i, h.M (h.M a 0) i = H 4 i) (w : Int) : ∀ (f : Nat) (i : Int), i + f = H 3 0 → 0 ≤ i → (∀ j, 0 ≤ j → j < i → H 4 j ≠ w) → Rn kSt_has 1 [vO 8 a, vI w, vI i] [] h = some (some (vI (cb (hasW H w))), h) := by
  intro f
  induction f with
  | zero =>
    intro i e i0 no
    have nw : ¬ hasW H w := fun ⟨j, j0, j1, j2⟩ => no j j0 (by omega) j2
    rw [E_St_has_1, e2, if_neg (by omega), gd_t (by decide), cb_f nw]
  | succ f ih =>
    intro i e i0 no
    rw [E_St_has_1, e2, if_pos (by omega), n, gd_t ⟨i0, by omega, e0⟩, m]
    by_cases q : H 4 i = w
    · rw [if_pos q, gd_t (by decide), cb_t ⟨i, i0, by omega, q⟩]
    · rw [if_neg q, Z_wI (by omega)]
      exact ih (i + 1) (by omega) (by omega) fun j j0 j1 => by
        by_cases z : j = i
        · rw [z]; exact q
        · exact no j j0 (by omega)
theorem D_itY {T : Int → Int} {N : Int} (hT : tpo T N) {r q : Int} (r0 : 56 < r) (rq : r < q) {h : mH} (C : chl h q) {H : HD} (V : hdv H) (D : chd h q H) (Hr : rtp h r T N) {p : Int} (S : rst5 h r T (p, -1)) (g : gs N (p, -1)) (hk : H 3 0 < 6) (c : T (sk T p) = 121) : ∃ h', Cl kSt_readFrom [vO 8 (q + 3), vR 5 r] h = some (none, h') ∧ Ew (WHc r q) h h' ∧ rst5 h' r T (itY T H (sk T p + 1, -1)).2 ∧ ((itY T H (sk T p + 1, -1)).2.2 = -1 → chd h' q (itY T H (sk T p + 1, -1)).1) := by
  obtain ⟨k, hk'⟩ : ∃ k, k = H 3 0 := ⟨_, rfl⟩
  have V1 := V.2.1
  have D1 := D.1.2.1
  obtain ⟨d, hd⟩ : ∃ d, d = h.M (q + 3) 3 := ⟨_, rfl⟩
  have D6 := D.2.2.2.1
  rw [← hd] at D6
  rw [← hk'] at hk V1 D1
  obtain ⟨s, hs⟩ : ∃ s : Int × Int, s = (sk T p + 1, -1) := ⟨_, rfl⟩
  have nW : ∀ b, q ≤ b → ∀ j, ¬ WR r b j := fun b b0 j y => by have := y.1; omega
  obtain ⟨h1, e1, x1, T1, S1, g1⟩ := D_tk hT Hr S g (c := 121) (by decide) c
  rw [← hs] at S1 g1 ⊢
  have C1 := C.ew x1 rq
  have m1 : ∀ b, q ≤ b → ∀ j, h1.M b j = h.M b j := fun b b0 j => x1.2 b j (nW b b0 j)
  obtain ⟨v1, h2, e2, x2, T2, S2, g2, a2, b2⟩ := D_num hT T1 S1 g1 (lo := 1) (hi := 400) (by omega) (by omega)
  have C2 := C1.ew x2 rq
  have m2 : ∀ b, q ≤ b → ∀ j, h2.M b j = h.M b j := fun b b0 j => (x2.2 b j (nW b b0 j)).trans (m1 b b0 j)
  have D4 : ∀ i, h2.M (q + 4) i = H 4 i := fun i => (m2 _ (by omega) i).trans (D.2.1 i).2.2.1
  have e3 : Cl kSt_has [vO 8 (q + 3), vI v1] h2 = some (some (vI (cb (hasW H v1))), h2) := by
    rw [E_St_has]
    exact C_has1 (by omega) (by rw [C2.2.1.1]; have := C2.2.2.2.2.2.2.2; omega) ((m2 _ (by omega) 2).trans (D1.trans hk')) (by rw [C2.2.1.1]; exact C2.2.2.2.1.2.2.1) (fun i => by rw [C2.2.1.1]; exact D4 i) v1 (H 3 0).toNat 0 (by omega) (by omega) (fun j j0 j1 => by omega)
  -- the width refused, or not
  have iy2 : itY2 T H s = @ite _ (hasW H (itY1 T s).1) (Classical.propDecidable _) (wlS (itY1 T s).2) (itY1 T s).2 := rfl
  have mid : ∃ h4, Cl kSt_readFrom [vO 8 (q + 3), vR 5 r] h = Rn kSt_readFrom 8 [vO 8 (q + 3), vR 5 r, vI v1] [] h4 ∧ Ew (WR r) h2 h4 ∧ rst5 h4 r T (itY2 T H s) := by
    rw [E_St_readFrom, D1, if_pos hk, gd_t (by omega), e1, Z_bI, gd_t (by omega), e2, Z_bI, e3, Z_bI]
    by_cases w : hasW H v1
    · obtain ⟨h4, e4, x4, S4⟩ := D_refuseNumber S2 fun z => (a2 z).2
      refine ⟨h4, by rw [cb_t w, if_neg (by decide), gd_t (by omega), e4, Z_bV], x4, ?_⟩
      have e : itY2 T H s = wlS (nmS T 1 400 s).2 := by
        rw [iy2]
        by_cases z : (nmS T 1 400 s).2.2 = -1
        · have t : v1 = (itY1 T s).1 := (a2 z).1
          rw [← t, if_pos w]
          rfl
        · have t : wlS (nmS T 1 400 s).2 = (nmS T 1 400 s).2 := if_neg z
          have t2 : wlS (itY1 T s).2 = (itY1 T s).2 := t
          rw [t, t2]
          by_cases y : hasW H (itY1 T s).1
          · rw [if_pos y]; rfl
          · rw [if_neg y]; rfl
      rw [e]
      exact S4
    · refine ⟨h2, by rw [cb_f w, if_pos rfl], Ew.rf _ _, ?_⟩
      have e : itY2 T H s = (nmS T 1 400 s).2 := by
        rw [iy2]
        by_cases z : (nmS T 1 400 s).2.2 = -1
        · have t : v1 = (itY1 T s).1 := (a2 z).1
          rw [← t, if_neg w]
          rfl
        · have t2 : wlS (itY1 T s).2 = (itY1 T s).2 := if_neg z
          rw [t2]
          by_cases y : hasW H (itY1 T s).1
          · rw [if_pos y]; rfl
          · rw [if_neg y]; rfl
      rw [e]
      exact S2
  obtain ⟨h4, e4, x4, S4⟩ := mid
  have o2 := itY2_ok hT (H := H) g1
  have T4 := T2.ew x4
  have C4 := C2.ew x4 rq
  have m4 : ∀ b, q ≤ b → ∀ j, h4.M b j = h.M b j := fun b b0 j => (x4.2 b j (nW b b0 j)).trans (m2 b b0 j)
  obtain ⟨h5, e5, x5, T5, S5, g5⟩ := D_exp hT T4 S4 o2.1 (c := 58) (by decide)
  have C5 := C4.ew x5 rq
  have m5 : ∀ b, q ≤ b → ∀ j, h5.M b j = h.M b j := fun b b0 j => (x5.2 b j (nW b b0 j)).trans (m4 b b0 j)
  obtain ⟨h6, hh6⟩ : ∃ u, u = h5.set (q + 4) k v1 := ⟨_, rfl⟩
  have C6 : chl h6 q := by rw [hh6]; exact C5.st v1 (by unfold plc; omega)
  have S6 : rst5 h6 r T (sgn T 58 (itY2 T H s)) := by rw [hh6]; exact S5.st k v1 (by omega)
  have T6 : rtp h6 r T N := by rw [hh6]; exact T5.st k v1 (by omega) (by omega)
  obtain ⟨v2, h7, e7, x7, T7, S7, g7, a7, b7⟩ := D_num hT T6 S6 g5 (lo := 0) (hi := 99) (by omega) (by omega)
  have C7 := C6.ew x7 rq
  obtain ⟨h8, hh8⟩ : ∃ u, u = h7.set (q + 5) k v2 := ⟨_, rfl⟩
  have C8 : chl h8 q := by rw [hh8]; exact C7.st v2 (by unfold plc; omega)
  have S8 : rst5 h8 r T (itY3 T H s).2 := by rw [hh8]; exact S7.st k v2 (by omega)
  have F8 : ∀ b j, q ≤ b → h8.M b j = if b = q + 5 ∧ j = k then v2 else if b = q + 4 ∧ j = k then v1 else h.M b j := fun b j b0 => by
    rw [hh8, Z_Ms]
    by_cases y : b = q + 5 ∧ j = k
    · rw [if_pos y, if_pos y]
    · rw [if_neg y, if_neg y, x7.2 b j (nW b b0 j), hh6, Z_Ms]
      by_cases y2 : b = q + 4 ∧ j = k
      · rw [if_pos y2, if_pos y2]
      · rw [if_neg y2, if_neg y2, m5 b b0 j]
  have k5 : h5.M (q + 3) 2 = k := (m5 _ (by omega) 2).trans D1
  have k6 : h6.M (q + 3) 2 = k := by rw [hh6, Z_Mn (by omega)]; exact k5
  have k8 : h8.M (q + 3) 3 = d := by rw [F8 _ _ (by omega), if_neg (by omega), if_neg (by omega)]; exact hd.symm
  have k8b : h8.M (q + 3) 2 = k := by rw [F8 _ _ (by omega), if_neg (by omega), if_neg (by omega)]; exact D1
  obtain ⟨gg, e9, gg1, gg2, gg3, gg4⟩ := C_gcd h8 D6.1 D6.2.1 b2.1 b2.2
  have q0 := C.2.2.2.2.2.2.2
  have x6 : Ew (WHc r q) h2 h6 := by
    rw [hh6]
    exact (x4.mono fun _ _ w => WHc_R w).tr ((x5.mono fun _ _ w => WHc_R w).tr (Ew.st _ _ (by unfold WHc; omega)))
  have x8 : Ew (WHc r q) h h8 := by
    rw [hh8]
    exact ((x1.mono fun _ _ w => WHc_R w).tr (x2.mono fun _ _ w => WHc_R w)).tr (x6.tr ((x7.mono fun _ _ w => WHc_R w).tr (Ew.st _ _ (by unfold WHc; omega))))
  refine ⟨(h8.set (q + 3) 3 gg).set (q + 3) 2 (k + 1), ?_, x8.tr ((Ew.st _ _ (by unfold WHc; omega)).tr (Ew.st _ _ (by unfold WHc; omega))), (S8.st 3 gg (by omega)).st 2 (k + 1) (by omega), fun z => ?_⟩
  · have n0 : q + 4 ≠ 0 := by omega
    rw [e4, E_St_readFrom_8, gd_t (by omega), e5, Z_bV, k5, C5.2.1.1, C5.2.2.2.1.2.2.1, gd_t (by omega), Z_hl, ← hh6, gd_t (by omega), e7, Z_bI, k6, C6.2.1.2, C7.2.2.2.1.2.2.2, gd_t (by omega), Z_hl, ← hh8, k8, e9, Z_bI, Z_hl, Z_Mn (b := q + 3) (by omega), k8b, Z_wI (by omega), Z_hl]
  · have z7 : (nmS T 0 99 (sgn T 58 (itY2 T H s))).2.2 = -1 := z
    have z6 := (nmS_b hT g5 (lo := 0) 99 (by omega)).2.2.2 z7
    have z5 := (sgn_ok z6.1 (gs_sk hT o2.1)).1
    obtain ⟨z4, z3⟩ := o2.2 z5
    have z2 : (nmS T 1 400 s).2.2 = -1 := by
      have t : (itY1 T s).2.2 = -1 := by rw [← z3]; exact z5
      exact t
    have w1 : v1 = (itY1 T s).1 := (a2 z2).1
    have w2 : v2 = (itY3 T H s).1 := (a7 z7).1
    have F9 : ∀ b j, q ≤ b → ¬ (b = q + 3 ∧ (j = 2 ∨ j = 3)) → ((h8.set (q + 3) 3 gg).set (q + 3) 2 (k + 1)).M b j = if b = q + 5 ∧ j = k then v2 else if b = q + 4 ∧ j = k then v1 else h.M b j := fun b j b0 n => by rw [Z_Mn (by omega), Z_Mn (by omega), F8 b j b0]
    obtain ⟨⟨d1, d2, d3⟩, d4, d5, d6, d7⟩ := D
    refine ⟨⟨?_, ?_, ?_⟩, fun i => ?_, fun j j0 j1 => ?_, ?_, ?_⟩
    · rw [F9 _ _ (by omega) (by omega), if_neg (by omega), if_neg (by omega), itY_n _ _ _ _ (by decide) (by decide) (by decide)]; exact d1
    · rw [Z_Mt, itY_0, hk']
    · rw [F9 _ _ (by omega) (by omega), if_neg (by omega), if_neg (by omega), itY_n _ _ _ _ (by decide) (by decide) (by decide)]; exact d3
    · obtain ⟨f1, f2, f3, f4, f5, f6, f7, f8⟩ := d4 i
      refine ⟨?_, ?_, ?_, ?_, ?_, ?_, ?_, ?_⟩
      · rw [F9 _ _ (by omega) (by omega), if_neg (by omega), if_neg (by omega), itY_n _ _ _ _ (by decide) (by decide) (by decide)]; exact f1
      · rw [F9 _ _ (by omega) (by omega), if_neg (by omega), if_neg (by omega), itY_n _ _ _ _ (by decide) (by decide) (by decide)]; exact f2
      · rw [F9 _ _ (by omega) (by omega), if_neg (by omega), itY_1, ← hk', ← w1]
        by_cases t : i = k
        · rw [if_pos ⟨rfl, t⟩, if_pos t]
        · rw [if_neg fun t2 => t t2.2, if_neg t]; exact f3
      · rw [F9 _ _ (by omega) (by omega), itY_2, ← hk', ← w2]
        by_cases t : i = k
        · rw [if_pos ⟨rfl, t⟩, if_pos t]
        · rw [if_neg fun t2 => t t2.2, if_neg (by omega), if_neg t]; exact f4
      all_goals rw [F9 _ _ (by omega) (by omega), if_neg (by omega), if_neg (by omega), itY_n _ _ _ _ (by decide) (by decide) (by decide)]
      · exact f5
      · exact f6
      · exact f7
      · exact f8
    · rw [F9 _ _ (by omega) (by omega), if_neg (by omega), if_neg (by omega), itY_n _ _ _ _ (by decide) (by decide) (by decide)]; exact d5 j j0 j1
    · rw [Z_Mn (by omega), Z_Mt]
      obtain ⟨t1, t2, t3, t4, t5⟩ := D6
      unfold strd
      rw [itY_0, ← hk']
      refine ⟨by omega, by omega, fun y => by omega, fun _ => gg1, fun i i0 i1 => ?_⟩
      rw [itY_1, ← hk', ← w1]
      by_cases t : i = k
      · rw [if_pos t]; exact gg4
      · rw [if_neg t]; exact Int.dvd_trans gg3 (t5 i i0 (by omega))
    · rw [F9 _ _ (by omega) (by omega), if_neg (by omega), if_neg (by omega), d7]
      exact cn_cg 12 1 fun i _ _ => by rw [itY_n _ _ _ (b := 10) _ (by decide) (by decide) (by decide)]
