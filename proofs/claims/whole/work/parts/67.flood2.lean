/-! THE PURE PART, the reference's flood, to its end -/
def stR (H : HD) (x l : Int) : Int := if l % 2 = 0 then x - H 4 (l / 2) else x + H 4 (l / 2)
theorem stO_R (H : HD) (x l : Int) : stO H x l = if 1 ≤ stR H x l ∧ stR H x l ≤ 9999 then stR H x l else 0 := by
  unfold stR
  by_cases q : l % 2 = 0
  · rw [if_pos q, stO_e q]
  · rw [if_neg q, stO_o q]
def mst (h : mH) (a : Int) (H : HD) : Prop := h.M 23 a = H 3 0 ∧ ∀ i, 0 ≤ i → i < H 3 0 → h.M 24 (6 * a + i) = H 4 i ∧ h.M 25 (6 * a + i) = H 5 i
theorem mst.ew {h h1 : mH} {a p : Int} {H : HD} (S : mst h a H) (x : Ew (WFl p) h h1) : mst h1 a H := ⟨(x.2 23 a fun y => by unfold WFl at y; omega).trans S.1, fun i i0 i1 => ⟨(x.2 24 _ fun y => by unfold WFl at y; omega).trans (S.2 i i0 i1).1, (x.2 25 _ fun y => by unfold WFl at y; omega).trans (S.2 i i0 i1).2⟩⟩
def FI (h : mH) (a p : Int) (H : HD) (lb : Int → Int) : Prop := lay h ∧ mst h a H ∧ fq h ∧ fvl h p lb
/-- closed, but for x from the line k on -/
def clo (h : mH) (p : Int) (H : HD) (x k : Int) : Prop := ∀ u l, 1 ≤ u → u ≤ 9999 → h.M 36 u ≠ 1 → flu h p u ≠ 1152921504606846976 → 0 ≤ l → l < 2 * H 3 0 → (u = x → l < k) → stO H u l ≠ 0 → flu h p (stO H u l) ≤ flu h p u + 100000 * stC H l + 1
def fat (h : mH) (p : Int) (H : HD) : Prop := ∀ u, 1 ≤ u → u ≤ 9999 → flu h p u = 0 ∨ flu h p u = 1152921504606846976 ∨ ∃ b c, 1 ≤ b ∧ b ≤ 9999 ∧ edl (2 * H 3 0) (stO H) (stC H) b u c ∧ flu h p b + 100000 * c + 1 ≤ flu h p u
theorem FI_touch {h : mH} {a p : Int} {H : HD} {lb : Int → Int} (V : hdv H) (p0 : 0 ≤ p) (p1 : p < 9) (B : lbo 10000 (2 * H 3 0) (stO H) (stC H) lb) (I : FI h a p H lb) {x l : Int} (x0 : 1 ≤ x) (x1 : x ≤ 9999) (l0 : 0 ≤ l) (l1 : l < 2 * H 3 0) (sx : flu h p x ≠ 1152921504606846976) (C : clo h p H x l) (A : fat h p H) :
    ∃ h', Cl kM_touch [vO 11 9, vI p, vI x, vI (stR H x l), vI (stC H l)] h = some (none, h') ∧ Ew (WFl p) h h' ∧ FI h' a p H lb ∧ clo h' p H x (l + 1) ∧ fat h' p H ∧ (∀ u, 1 ≤ u → u ≤ 9999 → flu h' p u ≤ flu h p u) ∧ flu h' p x = flu h p x ∧ msr h' p ≤ msr h p := by
  have K := st_ok V
  obtain ⟨L, S, Q, W⟩ := I
  have s := V.2.2.2.2.1 (l / 2) (by omega) (by omega)
  have cb : 0 ≤ stC H l ∧ stC H l ≤ 99 := K.2.2.2.1 l l0 l1
  have wx := W x x0 x1
  have bx := B.1 x x0 (by omega)
  have lx : lb x ≠ 1152921504606846976 := fun e => by
    rw [e, gL_F] at wx
    omega
  have rb : -100000 ≤ stR H x l ∧ stR H x l ≤ 100000 ∧ stR H x l ≠ x := by
    unfold stR
    split <;> omega
  have ro : 1 ≤ stR H x l → stR H x l ≤ 9999 → stO H x l = stR H x l := fun h1 h2 => by rw [stO_R, if_pos ⟨h1, h2⟩]
  obtain ⟨h', e, x', Q', W', d, dy, dx, m⟩ := R_touch L p0 p1 Q W x0 x1 ⟨rb.1, rb.2.1⟩ cb.1 cb.2 rb.2.2 (fun y0 y1 => by
    have hl := B.2 x (stR H x l) (stC H l) x0 (by omega) lx ⟨l, l0, l1, ro y0 y1, rfl, by omega⟩
    have by' := B.1 (stR H x l) y0 (by omega)
    have := gL_step ⟨bx.1, bx.2.2 lx⟩ ⟨by'.1, fun z => (by'.2.2 z).1⟩ cb hl
    omega) sx
  refine ⟨h', e, x', ⟨L.ew x' fun _ _ => WFl_lay, S.ew x', Q', W'⟩, ?_, ?_, fun u u0 u1 => (d u u0 u1).1, dx, m⟩
  · intro u t u0 u1 nw nf t0 t1 tk nz
    have ob := K.2.2.1 u t u0 (by omega) t0 t1
    have db := (d (stO H u t) (by omega) (by omega)).1
    have du := d u u0 u1
    have eu : flu h' p u = flu h p u := by
      rcases du.2.1 with z | z
      · exact z
      · exact absurd z.2.2 nw
    rw [eu] at nf ⊢
    by_cases q : u = x ∧ t = l
    · rw [q.1, q.2] at nz ⊢
      rw [stO_R] at nz ⊢
      by_cases z : 1 ≤ stR H x l ∧ stR H x l ≤ 9999
      · rw [if_pos z]
        exact dy z.1 z.2
      · rw [if_neg z] at nz
        exact absurd rfl nz
    · have := C u t u0 u1 (du.2.2 nw) nf t0 t1 (fun z => by have := tk z; omega) nz
      omega
  · intro u u0 u1
    rcases (d u u0 u1).2.1 with z | ⟨z, w, _⟩
    · rw [z]
      rcases A u u0 u1 with q | q | ⟨b, c, b0, b1, eb, le⟩
      · exact Or.inl q
      · exact Or.inr (Or.inl q)
      · have := (d b b0 b1).1
        exact Or.inr (Or.inr ⟨b, c, b0, b1, eb, by omega⟩)
    · right; right
      refine ⟨x, stC H l, x0, x1, ⟨l, l0, l1, by rw [ro (by omega) (by omega)]; exact z.symm, rfl, by omega⟩, ?_⟩
      rw [dx, w]
      exact Int.le_refl _
theorem R_flood2 {a p : Int} (a0 : 0 ≤ a) (a1 : a < 9) {H : HD} {lb : Int → Int} (V : hdv H) (p0 : 0 ≤ p) (p1 : p < 9) (B : lbo 10000 (2 * H 3 0) (stO H) (stC H) lb) {x : Int} (x0 : 1 ≤ x) (x1 : x ≤ 9999) : ∀ (m : Nat) (k : Int) (h : mH), k + m = H 3 0 → 0 ≤ k → FI h a p H lb → flu h p x ≠ 1152921504606846976 → clo h p H x (2 * k) → fat h p H →
    ∃ h', Rn kM_flood 2 [vO 11 9, vI a, vI p, vI x, vI k] [] h = Rn kM_flood 0 [vO 11 9, vI a, vI p, vI x, vI (H 3 0)] [] h' ∧ Ew (WFl p) h h' ∧ FI h' a p H lb ∧ clo h' p H x (2 * H 3 0) ∧ fat h' p H ∧ (∀ u, 1 ≤ u → u ≤ 9999 → flu h' p u ≤ flu h p u) ∧ msr h' p ≤ msr h p := by
  have v3 := V.2.1
  intro m
  induction m with
  | zero =>
    intro k h e k0 I sx C A
    obtain ⟨L, S, Q, W⟩ := I
    refine ⟨h, ?_, Ew.rf _ _, ⟨L, S, Q, W⟩, by rw [show 2 * H 3 0 = 2 * k by omega]; exact C, A, fun _ _ _ => Int.le_refl _, Int.le_refl _⟩
    rw [E_M_flood_2, lm18 L, ln23 L, gd_t (by omega), S.1, if_neg (by omega), show k = H 3 0 by omega]
  | succ m ih =>
    intro k h e k0 I sx C A
    have I' := I
    obtain ⟨L, S, Q, W⟩ := I'
    have s := V.2.2.2.2.1 k k0 (by omega)
    have i1 : wI (wI (6 * a) + k) = 6 * a + k := by rw [Z_wI (z := 6 * a) (by omega), Z_wI (by omega)]
    obtain ⟨h1, e1, x1', I1, C1, A1, d1, dx1, m1⟩ := FI_touch V p0 p1 B I x0 x1 (l := 2 * k) (by omega) (by omega) sx C A
    obtain ⟨h2, e2, x2', I2, C2, A2, d2, dx2, m2⟩ := FI_touch V p0 p1 B I1 x0 x1 (l := 2 * k + 1) (by omega) (by omega) (by rw [dx1]; exact sx) C1 A1
    have r1 : stR H x (2 * k) = x - H 4 k := by
      unfold stR
      rw [if_pos (by omega), show 2 * k / 2 = k by omega]
    have r2 : stR H x (2 * k + 1) = x + H 4 k := by
      unfold stR
      rw [if_neg (by omega), show (2 * k + 1) / 2 = k by omega]
    have c1 : stC H (2 * k) = H 5 k := by unfold stC; rw [show 2 * k / 2 = k by omega]
    have c2 : stC H (2 * k + 1) = H 5 k := by unfold stC; rw [show (2 * k + 1) / 2 = k by omega]
    rw [r1, c1] at e1
    rw [r2, c2] at e2
    obtain ⟨L1, S1, _⟩ := I1
    obtain ⟨h3, e3, x3, I3, C3, A3, d3, m3⟩ := ih (k + 1) h2 (by omega) (by omega) I2 (by rw [dx2, dx1]; exact sx) (by rw [show 2 * (k + 1) = 2 * k + 1 + 1 by omega]; exact C2) A2
    refine ⟨h3, ?_, (x1'.tr x2').tr x3, I3, C3, A3, fun u u0 u1 => ?_, by omega⟩
    · rw [E_M_flood_2, lm18 L, ln23 L, gd_t (by omega), S.1, if_pos (by omega), i1, lm19 L, ln24 L, gd_t (by omega), lm20 L, ln25 L, gd_t (by omega), (S.2 k k0 (by omega)).1, (S.2 k k0 (by omega)).2, Z_wI (z := x - H 4 k) (by omega), e1, Z_bV, lm19 L1, ln24 L1, gd_t (by omega), lm20 L1, ln25 L1, gd_t (by omega), (S1.2 k k0 (by omega)).1, (S1.2 k k0 (by omega)).2, Z_wI (z := x + H 4 k) (by omega), e2, Z_bV, Z_wI (z := k + 1) (by omega)]
      exact e3
    · have := d1 u u0 u1
      have := d2 u u0 u1
      have := d3 u u0 u1
      omega
/-- one year taken off the queue -/
def pop (h : mH) : mH := ((h.set 9 34 ((h.M 9 34 + 1) % 10001)).set 9 35 (h.M 9 35 - 1)).set 36 (h.M 35 (h.M 9 34)) 0
theorem pop_M (h : mH) (b k : Int) : (pop h).M b k = if b = 36 ∧ k = h.M 35 (h.M 9 34) then 0 else if b = 9 ∧ k = 35 then h.M 9 35 - 1 else if b = 9 ∧ k = 34 then (h.M 9 34 + 1) % 10001 else h.M b k := rfl
theorem fq_pop {h : mH} (Q : fq h) (w : 0 < h.M 9 35) : fq (pop h) ∧ 1 ≤ h.M 35 (h.M 9 34) ∧ h.M 35 (h.M 9 34) ≤ 9999 ∧ h.M 36 (h.M 35 (h.M 9 34)) = 1 ∧ (pop h).M 9 35 = h.M 9 35 - 1 := by
  obtain ⟨⟨f0, f1⟩, q2, q3, q4, q5⟩ := Q
  have f : (h.M 9 34 + 0) % 10001 = h.M 9 34 := by omega
  have y := q3 0 (by omega) w
  rw [f] at y
  have e34 : (pop h).M 9 34 = (h.M 9 34 + 1) % 10001 := by rw [pop_M, if_neg (by omega), if_neg (by omega), if_pos ⟨rfl, rfl⟩]
  have e35 : (pop h).M 9 35 = h.M 9 35 - 1 := by rw [pop_M, if_neg (by omega), if_pos ⟨rfl, rfl⟩]
  have eq : ∀ k, (pop h).M 35 k = h.M 35 k := fun k => by rw [pop_M, if_neg (by omega), if_neg (by omega), if_neg (by omega)]
  have e36 : ∀ k, (pop h).M 36 k = if k = h.M 35 (h.M 9 34) then 0 else h.M 36 k := fun k => by
    rw [pop_M]
    by_cases t : k = h.M 35 (h.M 9 34)
    · rw [if_pos ⟨rfl, t⟩, if_pos t]
    · rw [if_neg (by omega), if_neg t, if_neg (by omega), if_neg (by omega)]
  have pl : ∀ i, 0 ≤ i → ((h.M 9 34 + 1) % 10001 + i) % 10001 = (h.M 9 34 + (i + 1)) % 10001 := fun i i0 => by omega
  refine ⟨⟨by rw [e34]; omega, ?_, fun i i0 i1 => ?_, fun i j i0 ij j1 => ?_, fun k k0 k1 => ?_⟩, y.1, y.2.1, y.2.2, e35⟩
  · rw [e35, ← q2]
    have := cn_one (p := fun y' => (pop h).M 36 y' = 1) (q := fun y' => h.M 36 y' = 1) (m := h.M 35 (h.M 9 34)) (by rw [e36, if_pos rfl]; decide) y.2.2 (fun i n => by rw [e36, if_neg n]) 9999 1 y.1 (by omega)
    omega
  · rw [e35] at i1
    rw [e34, eq, pl i i0, e36]
    have t := q3 (i + 1) (by omega) (by omega)
    have n := q4 0 (i + 1) (by omega) (by omega) (by omega)
    rw [f] at n
    rw [if_neg fun z => n z.symm]
    exact t
  · rw [e35] at j1
    rw [e34, eq, eq, pl i i0, pl j (by omega)]
    exact q4 (i + 1) (j + 1) (by omega) (by omega) (by omega)
  · rw [e36]
    split
    · exact Or.inl rfl
    · exact q5 k k0 k1
theorem pop_ew (h : mH) (p : Int) : Ew (WFl p) h (pop h) := ((Ew.st (W := WFl p) h _ (Or.inl ⟨rfl, Or.inl rfl⟩)).tr (Ew.st _ _ (Or.inl ⟨rfl, Or.inr rfl⟩))).tr (Ew.st _ _ (Or.inr (Or.inr (Or.inl rfl))))
theorem R_flood0 {a p : Int} (a0 : 0 ≤ a) (a1 : a < 9) {H : HD} {lb : Int → Int} (V : hdv H) (p0 : 0 ≤ p) (p1 : p < 9) (B : lbo 10000 (2 * H 3 0) (stO H) (stC H) lb) : ∀ (m : Nat) (h : mH) (u3 u4 : mV), FI h a p H lb → clo h p H 0 0 → fat h p H → msr h p ≤ m →
    ∃ h', Rn kM_flood 0 [vO 11 9, vI a, vI p, u3, u4] [] h = some (none, h') ∧ Ew (WFl p) h h' ∧ FI h' a p H lb ∧ (∀ u, 1 ≤ u → u ≤ 9999 → h'.M 36 u ≠ 1) ∧ clo h' p H 0 0 ∧ fat h' p H ∧ ∀ u, 1 ≤ u → u ≤ 9999 → flu h' p u ≤ flu h p u := by
  intro m
  induction m with
  | zero =>
    intro h u3 u4 I C A me
    have wb := fq_w I.2.2.1
    have s0 := sm_0 (f := flu h p) 9999 1 fun i i0 i1 => (I.2.2.2 i i0 (by omega)).2.2.1
    have w0 : h.M 9 35 = 0 := by unfold msr at me; omega
    refine ⟨h, by rw [E_M_flood_0, if_pos (by omega)], Ew.rf _ _, I, fun u u0 u1 e => ?_, C, A, fun _ _ _ => Int.le_refl _⟩
    have := cn_one (p := fun _ => False) (q := fun y => h.M 36 y = 1 ∧ y = u) (m := u) (fun z => z) ⟨e, rfl⟩ (fun i n => ⟨fun z => absurd z.2 n, fun z => absurd z id⟩) 9999 1 u0 (by omega)
    have h1 := cn_b (fun _ : Int => False) 9999 1
    have h2 : cn (fun y => h.M 36 y = 1 ∧ y = u) 9999 1 ≤ cn (fun y => h.M 36 y = 1) 9999 1 := by
      have := cn_add (p := fun y => h.M 36 y = 1 ∧ y = u) (q := fun y => h.M 36 y = 1 ∧ y ≠ u) (r := fun y => h.M 36 y = 1) 9999 1 (fun i _ _ => ⟨⟨fun z => by
        by_cases t : i = u
        · exact Or.inl ⟨z, t⟩
        · exact Or.inr ⟨z, t⟩, fun z => z.elim (fun t => t.1) fun t => t.1⟩, fun z => z.2.2 z.1.2⟩)
      have := cn_b (fun y => h.M 36 y = 1 ∧ y ≠ u) 9999 1
      omega
    have := I.2.2.1.2.1
    omega
  | succ m ih =>
    intro h u3 u4 I C A me
    have I' := I
    obtain ⟨L, S, Q, W⟩ := I'
    have wb := fq_w Q
    by_cases w : h.M 9 35 ≤ 0
    · refine ⟨h, by rw [E_M_flood_0, if_pos w], Ew.rf _ _, I, fun u u0 u1 e => ?_, C, A, fun _ _ _ => Int.le_refl _⟩
      have := cn_one (p := fun _ => False) (q := fun y => h.M 36 y = 1 ∧ y = u) (m := u) (fun z => z) ⟨e, rfl⟩ (fun i n => ⟨fun z => absurd z.2 n, fun z => absurd z id⟩) 9999 1 u0 (by omega)
      have h1 := cn_b (fun _ : Int => False) 9999 1
      have h2 : cn (fun y => h.M 36 y = 1 ∧ y = u) 9999 1 ≤ cn (fun y => h.M 36 y = 1) 9999 1 := by
        have := cn_add (p := fun y => h.M 36 y = 1 ∧ y = u) (q := fun y => h.M 36 y = 1 ∧ y ≠ u) (r := fun y => h.M 36 y = 1) 9999 1 (fun i _ _ => ⟨⟨fun z => by
          by_cases t : i = u
          · exact Or.inl ⟨z, t⟩
          · exact Or.inr ⟨z, t⟩, fun z => z.elim (fun t => t.1) fun t => t.1⟩, fun z => z.2.2 z.1.2⟩)
        have := cn_b (fun y => h.M 36 y = 1 ∧ y ≠ u) 9999 1
        omega
      have := Q.2.1
      omega
    · obtain ⟨Qp, y0, y1, yw, ep⟩ := fq_pop Q (by omega)
      have xp := pop_ew h p
      have fp : ∀ u, flu (pop h) p u = flu h p u := fun u => by
        show (pop h).M 33 _ = _
        rw [pop_M, if_neg (by omega), if_neg (by omega), if_neg (by omega)]
        rfl
      have e36 : ∀ k, (pop h).M 36 k = if k = h.M 35 (h.M 9 34) then 0 else h.M 36 k := fun k => by
        rw [pop_M]
        by_cases t : k = h.M 35 (h.M 9 34)
        · rw [if_pos ⟨rfl, t⟩, if_pos t]
        · rw [if_neg (by omega), if_neg t, if_neg (by omega), if_neg (by omega)]
      have Ip : FI (pop h) a p H lb := ⟨L.ew xp fun _ _ => WFl_lay, S.ew xp, Qp, fun u u0 u1 => by
        have := W u u0 u1
        rw [fp, e36]
        refine ⟨this.1, this.2.1, this.2.2.1, fun z => ?_⟩
        split at z
        · exact absurd z (by decide)
        · exact this.2.2.2 z⟩
      have sx : flu (pop h) p (h.M 35 (h.M 9 34)) ≠ 1152921504606846976 := by
        rw [fp]
        exact (W _ y0 y1).2.2.2 yw
      obtain ⟨h1, e1, x1, I1, C1, A1, d1, m1⟩ := R_flood2 a0 a1 V p0 p1 B y0 y1 (H 3 0).toNat 0 (pop h) (by have := V.2.1; omega) (by omega) Ip sx (fun u l u0 u1 nw nf l0 l1 ux nz => by
        rw [fp] at nf
        rw [fp, fp]
        rw [e36] at nw
        have un : u ≠ h.M 35 (h.M 9 34) := fun z => by have := ux z; omega
        rw [if_neg un] at nw
        exact C u l u0 u1 nw nf l0 l1 (fun z => by omega) nz) (fun u u0 u1 => by
        rcases A u u0 u1 with q | q | ⟨b, c, b0, b1, eb, le⟩
        · exact Or.inl (by rw [fp]; exact q)
        · exact Or.inr (Or.inl (by rw [fp]; exact q))
        · exact Or.inr (Or.inr ⟨b, c, b0, b1, eb, by rw [fp, fp]; exact le⟩))
      have mp : msr (pop h) p + 1 ≤ msr h p := by
        unfold msr
        rw [ep]
        have : sm (flu (pop h) p) 9999 1 ≤ sm (flu h p) 9999 1 := sm_le 9999 1 fun i _ _ => by rw [fp]; exact Int.le_refl _
        omega
      obtain ⟨h2, e2, x2, I2, N2, C2, A2, d2⟩ := ih h1 (vI (h.M 35 (h.M 9 34))) (vI (H 3 0)) I1 (fun u l u0 u1 nw nf l0 l1 _ nz => C1 u l u0 u1 nw nf l0 l1 (fun _ => l1) nz) A1 (by omega)
      refine ⟨h2, ?_, (xp.tr x1).tr x2, I2, N2, C2, A2, fun u u0 u1 => ?_⟩
      · have hp : ∀ v, ((h.set 9 34 ((h.M 9 34 + 1) % 10001)).set 9 35 v).M 9 33 = 36 := fun v => by
          rw [Z_Mn (by omega), Z_Mn (by omega)]; exact lm33 L
        have e35 : (h.set 9 34 ((h.M 9 34 + 1) % 10001)).M 9 35 = h.M 9 35 := Z_Mn (by omega)
        rw [E_M_flood_0, if_neg w, lm32 L, ln35 L, gd_t (by have := Q.1; omega), gd_t (by decide), Z_wI (z := h.M 9 34 + 1) (by have := Q.1; omega), Z_tmod (by have := Q.1; omega), Z_hl, Z_hl, e35, Z_wI (z := h.M 9 35 - 1) (by omega), hp, Z_Ns, Z_Ns, ln36 L, gd_t (by omega), gd_t (by decide), Z_hl]
        exact e1.trans e2
      · have h1 := d1 u u0 u1
        have h2 := d2 u u0 u1
        rw [fp] at h1
        omega
/-- numbers alone: what is closed, and no less than the best rows, is the best rows -/
theorem flu_eq {n lc : Int} {ov : Int → Int → Int} {ct : Int → Int} {src : Int → Prop} {len nx en : Int → Int} (K : ntok n lc ov ct) (n1 : n ≤ 10000) (R : rsp n lc ov ct src len nx en) {S : Int → Int} (lo : ∀ u, 1 ≤ u → u < n → gL (len u) ≤ S u ∧ S u ≤ 1152921504606846976) (cl : ∀ u b c, 1 ≤ u → u < n → S u ≠ 1152921504606846976 → edl lc ov ct u b c → S b ≤ S u + 100000 * c + 1) (s0 : ∀ u, 1 ≤ u → u < n → len u = 0 → S u ≤ 0) : ∀ u, 1 ≤ u → u < n → S u = gL (len u) := by
  have up : ∀ (m : Nat) (u : Int), 1 ≤ u → u < n → len u ≤ m → len u ≠ 1152921504606846976 → S u ≤ gL (len u) := by
    intro m
    induction m with
    | zero =>
      intro u u0 u1 e nf
      have b := (R.1 u u0 u1).1
      have := s0 u u0 u1 (by omega)
      have := gL_0 b
      omega
    | succ m ih =>
      intro u u0 u1 e nf
      have b := R.1 u u0 u1
      by_cases z : len u = 0
      · have := s0 u u0 u1 z
        have := gL_0 b.1
        omega
      · obtain ⟨⟨c, ed, q⟩, _⟩ := R.2.2.2.1 u u0 u1 nf z
        have eb := edl_b K u0 u1 ed
        have bb := R.1 (nx u) eb.1 eb.2.1
        have nb : len (nx u) ≠ 1152921504606846976 := by omega
        have h1 := ih (nx u) eb.1 eb.2.1 (by omega) nb
        have g1 := gL_n nb
        have g2 := gL_n nf
        have b2 := b.2.2 nf
        have b3 := bb.2.2 nb
        have h2 := cl (nx u) u c eb.1 eb.2.1 (by omega) (K.2.2.2.2 u (nx u) c u0 u1 ed)
        omega
  intro u u0 u1
  have l := lo u u0 u1
  by_cases q : len u = 1152921504606846976
  · rw [q, gL_F] at l ⊢
    omega
  · have := up (len u).toNat u u0 u1 (by have := (R.1 u u0 u1).1; omega) q
    omega
