/-! THE PURE PART, calls: learnt, parted, next -/
def PMn (P : Int → Prop) (mo : Int → Int) (lo hi M : Int) : Prop := (M = 1000 ∧ ∀ a, lo ≤ a → a < hi → P a) ∨ ∃ a, lo ≤ a ∧ a < hi ∧ ¬ P a ∧ M = mo a ∧ ∀ b, lo ≤ b → b < a → P b
def PLt (P : Int → Prop) (mo : Int → Int) (hi l : Int) : Prop := (l = 0 ∧ ∀ a, 0 ≤ a → a < hi → P a) ∨ ∃ a, 0 ≤ a ∧ a < hi ∧ ¬ P a ∧ l = mo a + 1 ∧ ∀ b, a < b → b < hi → P b
theorem PMn_u {P : Int → Prop} {mo : Int → Int} {lo hi M M' : Int} (h : PMn P mo lo hi M) (h' : PMn P mo lo hi M') : M = M' := by
  rcases h with ⟨a, b⟩ | ⟨a, a0, a1, a2, a3, a4⟩
  · rcases h' with ⟨a', b'⟩ | ⟨a', a0', a1', a2', _⟩
    · rw [a, a']
    · exact absurd (b a' a0' a1') a2'
  · rcases h' with ⟨a', b'⟩ | ⟨a', a0', a1', a2', a3', a4'⟩
    · exact absurd (b' a a0 a1) a2
    · rcases Int.lt_trichotomy a a' with q | q | q
      · exact absurd (a4' a a0 q) a2
      · rw [a3, a3', q]
      · exact absurd (a4 a' a0' q) a2'
theorem PLt_u {P : Int → Prop} {mo : Int → Int} {hi M M' : Int} (h : PLt P mo hi M) (h' : PLt P mo hi M') : M = M' := by
  rcases h with ⟨a, b⟩ | ⟨a, a0, a1, a2, a3, a4⟩
  · rcases h' with ⟨a', b'⟩ | ⟨a', a0', a1', a2', _⟩
    · rw [a, a']
    · exact absurd (b a' a0' a1') a2'
  · rcases h' with ⟨a', b'⟩ | ⟨a', a0', a1', a2', a3', a4'⟩
    · exact absurd (b' a a0 a1) a2
    · rcases Int.lt_trichotomy a a' with q | q | q
      · exact absurd (a4 a' q a1') a2'
      · rw [a3, a3', q]
      · exact absurd (a4' a q a1) a2
theorem C_learn10 {h : mH} {T : Int → Int} {n nc : Int} {Ds : Int → Int → Int → Int → Int} {nh : Int} {Xs : Int → HX} (I : INV h T n nc Ds nh Xs) {a b : Int} (p : 0 ≤ a ∧ a < nh) (q : 0 ≤ b ∧ b < nh) {sl w : Int} (u1 u2 : mV) : ∀ (f : Nat) (i l M : Int), i + f = h.M 1 7 → 0 ≤ i → PMn (soP h Ds (Xs a) sl) (h.M 39) 0 i M → PLt (soP h Ds (Xs b) sl) (h.M 39) i l →
    ∃ l' M', PMn (soP h Ds (Xs a) sl) (h.M 39) 0 (h.M 1 7) M' ∧ PLt (soP h Ds (Xs b) sl) (h.M 39) (h.M 1 7) l' ∧ Rn kX_learnt 10 [vO 10 1, u1, u2, vI sl, vI w, vR 2 (h.M 4 a), vR 2 (h.M 4 b), vI l, vI M, vI i] [] h = some (some (vI (if l' ≤ M' then (if w = 0 then l' else M') else -1)), h) := by
  have L := I.1
  have nb := I.na
  have mono := I.2.2.2.2.1.2.2.2.2
  intro f
  induction f with
  | zero =>
    intro i l M e i0 PM PL
    have ei : i = h.M 1 7 := by omega
    refine ⟨l, M, by rw [← ei]; exact PM, by rw [← ei]; exact PL, ?_⟩
    rw [E_X_learnt_10, if_neg (by omega)]
    by_cases z : l ≤ M
    · rw [if_pos z, if_pos z]
      by_cases y : w = 0
      · rw [if_pos y, if_pos y]
      · rw [if_neg y, if_neg y]
    · rw [if_neg z, if_neg z]
  | succ f ih =>
    intro i l M e i0 PM PL
    have A := I.ask i0 (by omega)
    have pa := A.2.2.2.2.2.2.2.1
    have mb := A.2.2.2.2.1
    -- the second head's part
    have snd : ∀ M', PMn (soP h Ds (Xs a) sl) (h.M 39) 0 (i + 1) M' → ∃ l' M'', PMn (soP h Ds (Xs a) sl) (h.M 39) 0 (h.M 1 7) M'' ∧ PLt (soP h Ds (Xs b) sl) (h.M 39) (h.M 1 7) l' ∧ Rn kX_learnt 15 [vO 10 1, u1, u2, vI sl, vI w, vR 2 (h.M 4 a), vR 2 (h.M 4 b), vI l, vI M', vI i] [] h = some (some (vI (if l' ≤ M'' then (if w = 0 then l' else M'') else -1)), h) := by
      intro M' PM'
      rw [E_X_learnt_15, lx6 L, ln5 L, gd_t (by omega), gd_t pa, C_isSo I q i0 (by omega), Z_bI, Z_wI (z := i + 1) (by omega)]
      by_cases z : soP h Ds (Xs b) sl i
      · rw [cb_t z, if_neg n10]
        refine ih (i + 1) l M' (by omega) (by omega) PM' ?_
        rcases PL with ⟨a1, a2⟩ | ⟨t, t0, t1, t2, t3, t4⟩
        · refine Or.inl ⟨a1, fun k k0 k1 => ?_⟩
          by_cases y : k = i
          · rw [y]; exact z
          · exact a2 k k0 (by omega)
        · refine Or.inr ⟨t, t0, by omega, t2, t3, fun k k0 k1 => ?_⟩
          by_cases y : k = i
          · rw [y]; exact z
          · exact t4 k k0 (by omega)
      · have im : imax l (h.M 39 i + 1) = h.M 39 i + 1 := by
          unfold imax
          rcases PL with ⟨a1, a2⟩ | ⟨t, t0, t1, t2, t3, t4⟩
          · rw [if_pos (by omega)]
          · have := mono t i t0 (by omega) (by omega)
            split <;> omega
        rw [cb_f z, if_pos rfl, lx6 L, ln5 L, gd_t (by omega), gd_t pa, A.2.1, Z_wI (z := h.M 39 i + 1) (by omega), D_max, Z_bI, im]
        exact ih (i + 1) (h.M 39 i + 1) M' (by omega) (by omega) PM' (Or.inr ⟨i, i0, by omega, z, rfl, fun k k0 k1 => by omega⟩)
    rw [E_X_learnt_10, if_pos (by omega), lx6 L, ln5 L, gd_t (by omega), gd_t pa, C_isSo I p i0 (by omega), Z_bI]
    by_cases z : soP h Ds (Xs a) sl i
    · rw [cb_t z, if_neg n10]
      refine snd M ?_
      rcases PM with ⟨a1, a2⟩ | ⟨t, t0, t1, t2, t3, t4⟩
      · refine Or.inl ⟨a1, fun k k0 k1 => ?_⟩
        by_cases y : k = i
        · rw [y]; exact z
        · exact a2 k k0 (by omega)
      · exact Or.inr ⟨t, t0, by omega, t2, t3, t4⟩
    · rw [cb_f z, if_pos rfl, lx6 L, ln5 L, gd_t (by omega), gd_t pa, A.2.1, D_min, Z_bI]
      refine snd _ ?_
      rcases PM with ⟨a1, a2⟩ | ⟨t, t0, t1, t2, t3, t4⟩
      · refine Or.inr ⟨i, i0, by omega, z, ?_, fun k k0 k1 => a2 k k0 k1⟩
        unfold imin
        rw [if_neg (by omega)]
      · refine Or.inr ⟨t, t0, by omega, t2, ?_, t4⟩
        have := mono t i t0 (by omega) (by omega)
        unfold imin
        rw [if_pos (by omega), t3]
theorem R_learn17 {h : mH} {T : Int → Int} {n nc : Int} {Ds : Int → Int → Int → Int → Int} {nh : Int} {Xs : Int → HX} (I : INV h T n nc Ds nh Xs) {b : Int} (q : 0 ≤ b ∧ b < nh) {sl w M : Int} (u1 : mV) : ∀ (f : Nat) (i l : Int) (g : mH), i + f = h.M 1 7 → 0 ≤ i → Ew (Scr nc nh) h g → PLt (soP h Ds (Xs b) sl) (h.M 39) i l →
    ∃ l' g', PLt (soP h Ds (Xs b) sl) (h.M 39) (h.M 1 7) l' ∧ Rn kM_learnt 17 [vO 11 9, u1, vI b, vI sl, vI w, vI M, vI l, vI i] [] g = some (some (vI (if l' ≤ M then (if w = 0 then l' else M) else -1)), g') ∧ Ew (Scr nc nh) g g' := by
  have nb := I.na
  intro f
  induction f with
  | zero =>
    intro i l g e i0 xg PL
    have J := I.ew xg fun _ _ z => z
    have n7 : g.M 1 7 = h.M 1 7 := xg.2 1 7 fun z => by have := scr_b z; omega
    refine ⟨l, g, by rw [show h.M 1 7 = i by omega]; exact PL, ?_, Ew.rf _ _⟩
    rw [E_M_learnt_17, J.na.1, n7, if_neg (by omega)]
    by_cases z : l ≤ M
    · rw [if_pos z, if_pos z]
      by_cases y : w = 0
      · rw [if_pos y, if_pos y]
      · rw [if_neg y, if_neg y]
    · rw [if_neg z, if_neg z]
  | succ f ih =>
    intro i l g e i0 xg PL
    have J := I.ew xg fun _ _ z => z
    have n7 : g.M 1 7 = h.M 1 7 := xg.2 1 7 fun z => by have := scr_b z; omega
    have mb := (I.ask i0 (by omega)).2.2.2.2.1
    obtain ⟨g1, e1, x1⟩ := R_isSo J q (i := i) i0 (by omega) sl
    rw [soP_cg xg] at e1
    have L1 := (J.ew x1 fun _ _ z => z).1
    have m39 : g1.M 39 i = h.M 39 i := (xg.tr x1).2 39 i fun z => by have := scr_b z; omega
    rw [E_M_learnt_17, J.na.1, n7, if_pos (by omega), e1, Z_bI, Z_wI (z := i + 1) (by omega)]
    by_cases z : soP h Ds (Xs b) sl i
    · obtain ⟨l', g2, r1, e2, x2⟩ := ih (i + 1) l g1 (by omega) (by omega) (xg.tr x1) (by
        rcases PL with ⟨a1, a2⟩ | ⟨t, t0, t1, t2, t3, t4⟩
        · refine Or.inl ⟨a1, fun k k0 k1 => ?_⟩
          by_cases y : k = i
          · rw [y]; exact z
          · exact a2 k k0 (by omega)
        · refine Or.inr ⟨t, t0, by omega, t2, t3, fun k k0 k1 => ?_⟩
          by_cases y : k = i
          · rw [y]; exact z
          · exact t4 k k0 (by omega))
      exact ⟨l', g2, r1, by rw [cb_t z, if_neg n10]; exact e2, x1.tr x2⟩
    · obtain ⟨l', g2, r1, e2, x2⟩ := ih (i + 1) (h.M 39 i + 1) g1 (by omega) (by omega) (xg.tr x1) (Or.inr ⟨i, i0, by omega, z, rfl, fun k k0 k1 => by omega⟩)
      exact ⟨l', g2, r1, by rw [cb_f z, if_pos rfl, lm42 L1, ln39 L1, gd_t (by omega), m39, Z_wI (z := h.M 39 i + 1) (by omega)]; exact e2, x1.tr x2⟩
theorem R_learn10 {h : mH} {T : Int → Int} {n nc : Int} {Ds : Int → Int → Int → Int → Int} {nh : Int} {Xs : Int → HX} (I : INV h T n nc Ds nh Xs) {a b : Int} (p : 0 ≤ a ∧ a < nh) {sl w : Int} : ∀ (f : Nat) (i M : Int) (g : mH), i + 1 = f → i < h.M 1 7 → Ew (Scr nc nh) h g → PMn (soP h Ds (Xs a) sl) (h.M 39) (i + 1) (h.M 1 7) M →
    ∃ M' g', PMn (soP h Ds (Xs a) sl) (h.M 39) 0 (h.M 1 7) M' ∧ Rn kM_learnt 10 [vO 11 9, vI a, vI b, vI sl, vI w, vI M, vI 0, vI i] [] g = Rn kM_learnt 17 [vO 11 9, vI a, vI b, vI sl, vI w, vI M', vI 0, vI 0] [] g' ∧ Ew (Scr nc nh) g g' := by
  have nb := I.na
  intro f
  induction f with
  | zero =>
    intro i M g e i1 xg PM
    refine ⟨M, g, by rw [show (0 : Int) = i + 1 by omega]; exact PM, ?_, Ew.rf _ _⟩
    rw [E_M_learnt_10, if_pos (by omega)]
  | succ f ih =>
    intro i M g e i1 xg PM
    have J := I.ew xg fun _ _ z => z
    have n7 : g.M 1 7 = h.M 1 7 := xg.2 1 7 fun z => by have := scr_b z; omega
    obtain ⟨g1, e1, x1⟩ := R_isSo J p (i := i) (by omega) (by omega) sl
    rw [soP_cg xg] at e1
    have L1 := (J.ew x1 fun _ _ z => z).1
    have m39 : g1.M 39 i = h.M 39 i := (xg.tr x1).2 39 i fun z => by have := scr_b z; omega
    rw [E_M_learnt_10, if_neg (by omega), e1, Z_bI, Z_wI (z := i + -1) (by omega)]
    by_cases z : soP h Ds (Xs a) sl i
    · obtain ⟨M', g2, r1, e2, x2⟩ := ih (i + -1) M g1 (by omega) (by omega) (xg.tr x1) (by
        rw [show i + -1 + 1 = i by omega]
        rcases PM with ⟨a1, a2⟩ | ⟨t, t0, t1, t2, t3, t4⟩
        · refine Or.inl ⟨a1, fun k k0 k1 => ?_⟩
          by_cases y : k = i
          · rw [y]; exact z
          · exact a2 k (by omega) k1
        · refine Or.inr ⟨t, by omega, t1, t2, t3, fun k k0 k1 => ?_⟩
          by_cases y : k = i
          · rw [y]; exact z
          · exact t4 k (by omega) k1)
      exact ⟨M', g2, r1, by rw [cb_t z, if_neg n10]; exact e2, x1.tr x2⟩
    · obtain ⟨M', g2, r1, e2, x2⟩ := ih (i + -1) (h.M 39 i) g1 (by omega) (by omega) (xg.tr x1) (Or.inr ⟨i, by omega, i1, z, rfl, fun k k0 k1 => by omega⟩)
      exact ⟨M', g2, r1, by rw [cb_f z, if_pos rfl, lm42 L1, ln39 L1, gd_t (by omega), m39]; exact e2, x1.tr x2⟩
theorem ok_learnt {a b sl w : Int} : okc kX_learnt kM_learnt [vI a, vI b, vI sl, vI w] := okq1 fun h T n nc Ds nh Xs I => by
  have nb := I.na
  rw [E_X_learnt, C_headAt I, Z_bR, C_headAt I, Z_bR, E_M_learnt, R_isHead I, Z_bI]
  by_cases p : 0 ≤ a ∧ a < nh
  · rw [if_pos p, if_neg (I.q0 p.1 p.2), bz_t p, if_neg n10, R_isHead I, Z_bI]
    by_cases q : 0 ≤ b ∧ b < nh
    · rw [if_pos q, if_neg (I.q0 q.1 q.2), bz_t q, if_neg n10, C_isSlack, Z_bI, R_isSlack, Z_bI]
      by_cases s0 : 0 ≤ sl ∧ sl ≤ 999
      · rw [bz_t s0, if_neg n10, if_neg n10, R_in, Z_bI, nb.1, Z_wI (z := h.M 1 7 - 1) (by omega)]
        by_cases w0 : 0 ≤ w ∧ w ≤ 1
        · obtain ⟨l1, M1, r1, r2, e1⟩ := C_learn10 I p q (sl := sl) (w := w) (vI a) (vI b) (h.M 1 7).toNat 0 0 1000 (by omega) (by omega) (Or.inl ⟨rfl, fun k k0 k1 => by omega⟩) (Or.inl ⟨rfl, fun k k0 k1 => by omega⟩)
          obtain ⟨M2, g1, r3, e2, x2⟩ := R_learn10 I p (b := b) (sl := sl) (w := w) (h.M 1 7).toNat (h.M 1 7 - 1) 1000 h (by omega) (by omega) (Ew.rf _ _) (Or.inl ⟨rfl, fun k k0 k1 => by omega⟩)
          obtain ⟨l2, g2, r4, e3, x3⟩ := R_learn17 I q (sl := sl) (w := w) (M := M2) (vI a) (h.M 1 7).toNat 0 0 g1 (by omega) (by omega) x2 (Or.inl ⟨rfl, fun k k0 k1 => by omega⟩)
          have em := PMn_u r1 r3
          have el := PLt_u r2 r4
          rw [em, el] at e1
          exact ⟨_, g2, by rw [if_neg (by omega), if_pos w0.2]; exact e1, by rw [bz_t w0, if_neg n10, e2]; exact e3, x2.tr x3⟩
        · refine ⟨-1, h, ?_, by rw [bz_f w0, if_pos rfl], Ew.rf _ _⟩
          by_cases z : w < 0
          · rw [if_pos z]
          · rw [if_neg z, if_neg (by omega)]
      · exact ⟨-1, h, by rw [bz_f s0, if_pos rfl], by rw [bz_f s0, if_pos rfl], Ew.rf _ _⟩
    · exact ⟨-1, h, by rw [if_neg q, if_pos rfl], by rw [bz_f q, if_pos rfl], Ew.rf _ _⟩
  · exact ⟨-1, h, by rw [if_neg p, if_pos rfl], by rw [bz_f p, if_pos rfl], Ew.rf _ _⟩
/-! pairs of heads parted -/
def hbt (bits a : Int) : Prop := iand (ishr bits a) 1 = 1
noncomputable def prI (bits : Int) (td : Int → Int) (a : Int) : Int := cn (fun b => hbt bits a ∧ hbt bits b ∧ td a ≠ td b) a.toNat 0
noncomputable def prV (bits : Int) (td : Int → Int) (nh : Int) : Int := sm (prI bits td) nh.toNat 0
theorem prI_b (bits : Int) (td : Int → Int) {a : Int} (a0 : 0 ≤ a) : 0 ≤ prI bits td a ∧ prI bits td a ≤ a := by
  have := cn_b (fun b => hbt bits a ∧ hbt bits b ∧ td a ≠ td b) a.toNat 0
  unfold prI
  omega
theorem cn_last (p : Int → Prop) : ∀ (n : Nat) (a : Int), cn p (n + 1) a = cn p n a + cb (p (a + n)) := by
  intro n
  induction n with
  | zero =>
    intro a
    rw [cn_s]
    show cb (p a) + 0 = 0 + cb (p (a + 0))
    rw [Int.add_zero, Int.zero_add, Int.add_zero]
  | succ n ih =>
    intro a
    have e : a + 1 + (n : Int) = a + ((n + 1 : Nat) : Int) := by omega
    rw [cn_s, ih, cn_s p n a, e]
    omega
theorem C_pairs5 {bits a : Int} (u7 : mV) {t s : Int} (t0 : t ≠ 0) {h : mH} {q nh : Int} (hN : h.N t = nh) (q0 : 0 ≤ q) (q1 : q < nh) (q8 : nh ≤ 8) : ∀ (f : Nat) (j x : Int), j + f = q → 0 ≤ j → 0 ≤ x → x + f ≤ 1000 → Rn kX_pairsParted 5 [vO 10 1, vR 7 s, vI bits, vR 100 t, vI q, vI x, vI a, vI j] [] h = Rn kX_pairsParted 1 [vO 10 1, vR 7 s, vI bits, vR 100 t, vI (q + 1), vI (x + cn (fun j => h.M t j ≠ h.M t q) f j), vI (wI (a + 1)), vI q] [] h := by
  intro f
  induction f with
  | zero =>
    intro j x e j0 x0 x1
    rw [E_X_pairsParted_5, if_neg (by omega), Z_wI (z := q + 1) (by omega), show j = q by omega]
    show _ = Rn kX_pairsParted 1 [vO 10 1, vR 7 s, vI bits, vR 100 t, vI (q + 1), vI (x + 0), vI (wI (a + 1)), vI q] [] h
    rw [Int.add_zero]
  | succ f ih =>
    intro j x e j0 x0 x1
    rw [E_X_pairsParted_5, if_pos (by omega), hN, gd_t (by omega), gd_t (by omega), Z_wI (z := j + 1) (by omega), Z_wI (z := x + 1) (by omega), cn_s]
    by_cases z : h.M t j = h.M t q
    · rw [if_pos z, cb_f fun y => y z, ih (j + 1) x (by omega) (by omega) x0 (by omega), Int.zero_add]
    · rw [if_neg z, cb_t z, ih (j + 1) (x + 1) (by omega) (by omega) (by omega) (by omega), Int.add_assoc]
theorem C_pairs {h : mH} {T : Int → Int} {n nc : Int} {Ds : Int → Int → Int → Int → Int} {nh : Int} {Xs : Int → HX} (I : INV h T n nc Ds nh Xs) {s c y m d : Int} (S : spt h nc Ds s c y m d) (bits : Int) : ∃ h1, Cl kX_pairsParted [vO 10 1, vR 7 s, vI bits] h = some (some (vI (prV bits (fun a => toD (Xs a) (Ds c) y m d) nh)), h1) ∧ Fr (fun _ _ => False) 1 8 h h1 := by
  have nb := I.nh
  have h5 := I.2.2.2.1.2.1
  obtain ⟨t, ht⟩ : ∃ t, t = h.top := ⟨_, rfl⟩
  have tc : t = (h.cnt : Int) + 1 := ht
  have cc := I.1.2.2
  have frn : Fr (fun _ _ => False) 1 8 h (h.new 100 nh) := (Fr.nw (fun _ _ => False) h 100 nh).mono (fun _ _ w => w) (by decide) (by omega)
  have main : ∀ (f : Nat) (k q x : Int) (u7 : mV) (g : mH), k + f = nh → 0 ≤ k → 0 ≤ q → q ≤ k → 0 ≤ x → x ≤ 8 * k → Fr (fun _ _ => False) 1 8 h g → g.N t = nh → (∀ v, cn (fun j => g.M t j ≠ v) q.toNat 0 = cn (fun b => hbt bits b ∧ toD (Xs b) (Ds c) y m d ≠ v) k.toNat 0) →
      ∃ g', Rn kX_pairsParted 1 [vO 10 1, vR 7 s, vI bits, vR 100 t, vI q, vI x, vI k, u7] [] g = some (some (vI (x + sm (prI bits (fun a => toD (Xs a) (Ds c) y m d)) f k)), g') ∧ Fr (fun _ _ => False) 1 8 h g' := by
    intro f
    induction f with
    | zero =>
      intro k q x u7 g e k0 q0 qk x0 x1 xg gN C
      have J := I.kp (xg.fb (Int.le_refl _) fun b k _ w => w.elim)
      refine ⟨g, ?_, xg⟩
      rw [E_X_pairsParted_1, J.2.2.2.1.2.1, if_neg (by omega)]
      show _ = some (some (vI (x + 0)), g)
      rw [Int.add_zero]
    | succ f ih =>
      intro k q x u7 g e k0 q0 qk x0 x1 xg gN C
      have J := I.kp (xg.fb (Int.le_refl _) fun b k _ w => w.elim)
      have p : 0 ≤ k ∧ k < nh := ⟨k0, by omega⟩
      have pb := prI_b bits (fun a => toD (Xs a) (Ds c) y m d) k0
      have Sg : spt g nc Ds s c y m d := S.cg ((xg.fb (W := fun _ _ => False) (Int.le_refl _) fun b k _ w => w).kz I.1 fun b k w => w.elim) fun k _ _ => xg.1 3 k (by omega) fun w => w
      rw [E_X_pairsParted_1, J.2.2.2.1.2.1, if_pos (by omega), sm_s]
      by_cases z : iand (ishr bits k) 1 = 1
      · have fs : Fr (fun _ _ => False) 1 8 h (g.set t q (toD (Xs k) (Ds c) y m d)) := by
          obtain ⟨x1, x2, x3, x4, x5, x6⟩ := xg
          exact ⟨fun b j hb w => by rw [Z_Mn (by omega)]; exact x1 b j hb w, x2, x3, x4, x5, x6⟩
        have g2t : (g.set t q (toD (Xs k) (Ds c) y m d)).M t q = toD (Xs k) (Ds c) y m d := Z_Mt ..
        have low : ∀ j, j < q → (g.set t q (toD (Xs k) (Ds c) y m d)).M t j = g.M t j := fun j hj => Z_Mn (by omega)
        have cnt1 : cn (fun j => (g.set t q (toD (Xs k) (Ds c) y m d)).M t j ≠ (g.set t q (toD (Xs k) (Ds c) y m d)).M t q) q.toNat 0 = prI bits (fun a => toD (Xs a) (Ds c) y m d) k := by
          rw [g2t, cn_cg (q := fun j => g.M t j ≠ toD (Xs k) (Ds c) y m d) q.toNat 0 (fun i i0 i1 => by rw [low i (by omega)]), C]
          exact cn_cg k.toNat 0 fun i i0 i1 => ⟨fun w => ⟨z, w.1, fun v => w.2 v.symm⟩, fun w => ⟨w.2.1, fun v => w.2.2 v.symm⟩⟩
        obtain ⟨g', e1, x2⟩ := ih (k + 1) (q + 1) (x + prI bits (fun a => toD (Xs a) (Ds c) y m d) k) (vI q) (g.set t q (toD (Xs k) (Ds c) y m d)) (by omega) (by omega) (by omega) (by omega) (by omega) (by omega) fs gN (fun v => by
          rw [show (q + 1).toNat = q.toNat + 1 by omega, show (k + 1).toNat = k.toNat + 1 by omega, cn_last, cn_last, show (0 : Int) + (q.toNat : Int) = q by omega, show (0 : Int) + (k.toNat : Int) = k by omega, g2t, ← C v, cn_cg (q := fun j => g.M t j ≠ v) q.toNat 0 (fun i i0 i1 => by rw [low i (by omega)])]
          congr 1
          by_cases w : toD (Xs k) (Ds c) y m d = v
          · rw [cb_f (p := toD (Xs k) (Ds c) y m d ≠ v) fun r => r w, cb_f (p := hbt bits k ∧ toD (Xs k) (Ds c) y m d ≠ v) fun r => r.2 w]
          · rw [cb_t (p := toD (Xs k) (Ds c) y m d ≠ v) w, cb_t (p := hbt bits k ∧ toD (Xs k) (Ds c) y m d ≠ v) ⟨z, w⟩])
        refine ⟨g', ?_, x2⟩
        have m4 : g.M 4 k ≠ 0 := J.q0 p.1 p.2
        rw [if_pos z, lx4 J.1, ln4 J.1, gd_t (by omega), gd_t m4, C_toldAt J p Sg, Z_bI, gN, gd_t (by omega), Z_hl, C_pairs5 (vU) (by omega) (h := g.set t q (toD (Xs k) (Ds c) y m d)) gN q0 (by omega) nb.2 q.toNat 0 x (by omega) (by omega) x0 (by omega), cnt1, Z_wI (z := k + 1) (by omega), e1, Int.add_assoc]
      · have p0 : prI bits (fun a => toD (Xs a) (Ds c) y m d) k = 0 := cn_0 _ _ fun i _ _ w => z w.1
        obtain ⟨g', e1, x2⟩ := ih (k + 1) q x u7 g (by omega) (by omega) q0 (by omega) x0 (by omega) xg gN (fun v => by
          rw [C v, show (k + 1).toNat = k.toNat + 1 by omega, cn_last, show (0 : Int) + (k.toNat : Int) = k by omega, cb_f (p := hbt bits k ∧ toD (Xs k) (Ds c) y m d ≠ v) fun r => z r.1, Int.add_zero])
        exact ⟨g', by rw [if_neg z, Z_wI (z := k + 1) (by omega), e1, p0, Int.zero_add], x2⟩
  obtain ⟨g', e, x⟩ := main nh.toNat 0 0 0 vU (h.new 100 nh) (by omega) (by omega) (by omega) (by omega) (by omega) (by omega) frn (by rw [Z_Nw, if_pos ht]) (fun v => rfl)
  refine ⟨g', ?_, x⟩
  rw [E_X_pairsParted, h5, gd_t (by omega), Z_hl, ← ht, e, Int.zero_add]
  rfl
theorem R_partedBy {g : mH} {T : Int → Int} {n nc : Int} {Ds : Int → Int → Int → Int → Int} {nh : Int} {Xs : Int → HX} (J : INV g T n nc Ds nh Xs) {p : Int} (p0 : 0 ≤ p) (p1 : p < g.M 1 9) (bits : Int) : ∃ g', Cl kM_partedBy [vO 11 9, vI p, vI bits] g = some (some (vI (prV bits (fun a => pto g Ds (Xs a) p) nh)), g') ∧ Ew (Scr nc nh) g g' := by
  have nb := J.nh
  obtain ⟨a1, a2, a3, a4⟩ := J.2.2.2.2.2.1
  have S := a4 p p0 p1
  have inner : ∀ (f : Nat) (a b x : Int) (u6 : mV) (g1 : mH), b + f = a → 0 ≤ b → a < nh → 0 ≤ x → x + f ≤ 1000 → Ew (Scr nc nh) g g1 → ∃ g' w5 w6, Rn kM_partedBy 3 [vO 11 9, vI p, vI bits, vI x, vI a, vI b, u6] [] g1 = Rn kM_partedBy 1 [vO 11 9, vI p, vI bits, vI (x + cn (fun b => hbt bits a ∧ hbt bits b ∧ pto g Ds (Xs a) p ≠ pto g Ds (Xs b) p) f b), vI (a + 1), w5, w6] [] g' ∧ Ew (Scr nc nh) g1 g' := by
    intro f
    induction f with
    | zero =>
      intro a b x u6 g1 e b0 an x0 x1 xg
      refine ⟨g1, vI b, u6, ?_, Ew.rf _ _⟩
      rw [E_M_partedBy_3, if_neg (by omega), Z_wI (by omega)]
      show _ = Rn kM_partedBy 1 [vO 11 9, vI p, vI bits, vI (x + 0), vI (a + 1), vI b, u6] [] g1
      rw [Int.add_zero]
    | succ f ih =>
      intro a b x u6 g1 e b0 an x0 x1 xg
      have J1 := J.ew xg fun _ _ z => z
      have c : ∀ b k, 46 ≤ b ∧ b ≤ 49 → g1.M b k = g.M b k := fun b k hb => xg.2 b k fun z => by have := scr_b z; omega
      -- without a pair
      have no : ¬ (hbt bits a ∧ hbt bits b ∧ pto g Ds (Xs a) p ≠ pto g Ds (Xs b) p) → ∀ (s0 : Int) (g2 : mH), Ew (Scr nc nh) g1 g2 → ∃ g' w5 w6, Rn kM_partedBy 3 [vO 11 9, vI p, vI bits, vI (wI (x + 0)), vI a, vI (wI (b + 1)), vI s0] [] g2 = Rn kM_partedBy 1 [vO 11 9, vI p, vI bits, vI (x + cn (fun b => hbt bits a ∧ hbt bits b ∧ pto g Ds (Xs a) p ≠ pto g Ds (Xs b) p) (f + 1) b), vI (a + 1), w5, w6] [] g' ∧ Ew (Scr nc nh) g1 g' := fun nn s0 g2 x2 => by
        obtain ⟨g', w5, w6, e1, x3⟩ := ih a (b + 1) (x + 0) (vI s0) g2 (by omega) (by omega) an (by omega) (by omega) (xg.tr x2)
        refine ⟨g', w5, w6, ?_, x2.tr x3⟩
        rw [Z_wI (z := x + 0) (by omega), Z_wI (z := b + 1) (by omega), e1, cn_s, cb_f nn, Int.add_assoc]
      rw [E_M_partedBy_3, if_pos (by omega)]
      by_cases z1 : iand (ishr bits a) 1 = 1
      · rw [if_pos z1]
        by_cases z2 : iand (ishr bits b) 1 = 1
        · obtain ⟨g2, e2, x2⟩ := R_areApart J1 (a := a) (b := b) ⟨by omega, an⟩ ⟨b0, by omega⟩ S.1
          have tt : ∀ k, toD (Xs k) (Ds (g.M 46 p)) (g.M 47 p) (g.M 48 p) (g.M 49 p) = pto g Ds (Xs k) p := fun k => rfl
          rw [tt, tt] at e2
          have L1 := J1.1
          rw [if_pos z2, E_M_partedBy_8, if_neg n10, lm50 L1, lm51 L1, lm52 L1, lm53 L1, ln46 L1, ln47 L1, ln48 L1, ln49 L1, gd_t (by omega), gd_t (by omega), gd_t (by omega), gd_t (by omega), c 46 p (by omega), c 47 p (by omega), c 48 p (by omega), c 49 p (by omega), e2, Z_bI]
          by_cases z3 : pto g Ds (Xs a) p = pto g Ds (Xs b) p
          · rw [cb_f (p := pto g Ds (Xs a) p ≠ pto g Ds (Xs b) p) fun w => w z3, if_pos rfl]
            exact no (fun w => w.2.2 z3) 1 g2 x2
          · obtain ⟨g', w5, w6, e1, x3⟩ := ih a (b + 1) (x + 1) (vI 1) g2 (by omega) (by omega) an (by omega) (by omega) (xg.tr x2)
            refine ⟨g', w5, w6, ?_, x2.tr x3⟩
            rw [cb_t (p := pto g Ds (Xs a) p ≠ pto g Ds (Xs b) p) z3, if_neg n10, Z_wI (z := x + 1) (by omega), Z_wI (z := b + 1) (by omega), e1, cn_s, cb_t ⟨z1, z2, z3⟩, Int.add_assoc]
        · rw [if_neg z2, E_M_partedBy_8, if_pos rfl]
          exact no (fun w => z2 w.2.1) 0 g1 (Ew.rf _ _)
      · rw [if_neg z1, E_M_partedBy_8, if_pos rfl]
        exact no (fun w => z1 w.1) 0 g1 (Ew.rf _ _)
  have outer : ∀ (f : Nat) (a x : Int) (u5 u6 : mV) (g1 : mH), a + f = nh → 0 ≤ a → 0 ≤ x → x ≤ 8 * a → Ew (Scr nc nh) g g1 → ∃ g', Rn kM_partedBy 1 [vO 11 9, vI p, vI bits, vI x, vI a, u5, u6] [] g1 = some (some (vI (x + sm (prI bits (fun a => pto g Ds (Xs a) p)) f a)), g') ∧ Ew (Scr nc nh) g1 g' := by
    intro f
    induction f with
    | zero =>
      intro a x u5 u6 g1 e a0 x0 x1 xg
      have J1 := J.ew xg fun _ _ z => z
      refine ⟨g1, ?_, Ew.rf _ _⟩
      rw [E_M_partedBy_1, J1.2.2.2.1.1, if_neg (by omega)]
      show _ = some (some (vI (x + 0)), g1)
      rw [Int.add_zero]
    | succ f ih =>
      intro a x u5 u6 g1 e a0 x0 x1 xg
      have J1 := J.ew xg fun _ _ z => z
      have pb := prI_b bits (fun a => pto g Ds (Xs a) p) a0
      have pe : prI bits (fun a => pto g Ds (Xs a) p) a = cn (fun b => hbt bits a ∧ hbt bits b ∧ pto g Ds (Xs a) p ≠ pto g Ds (Xs b) p) a.toNat 0 := rfl
      obtain ⟨g2, w5, w6, e2, x2⟩ := inner a.toNat a 0 x u6 g1 (by omega) (by omega) (by omega) x0 (by omega) xg
      rw [← pe] at e2
      obtain ⟨g3, e3, x3⟩ := ih (a + 1) (x + prI bits (fun a => pto g Ds (Xs a) p) a) w5 w6 g2 (by omega) (by omega) (by omega) (by omega) (xg.tr x2)
      refine ⟨g3, ?_, x2.tr x3⟩
      rw [E_M_partedBy_1, J1.2.2.2.1.1, if_pos (by omega), e2, e3, sm_s, Int.add_assoc]
  obtain ⟨g', e, x⟩ := outer nh.toNat 0 0 vU vU g (by omega) (by omega) (by omega) (by omega) (Ew.rf _ _)
  refine ⟨g', ?_, x⟩
  rw [E_M_partedBy, e, Int.zero_add]
  rfl
def ahP (bits nh : Int) : Prop := 0 ≤ bits ∧ bits < ((2 ^ nh.toNat : Nat) : Int)
theorem areH {h : mH} {T : Int → Int} {n nc : Int} {Ds : Int → Int → Int → Int → Int} {nh : Int} {Xs : Int → HX} (I : INV h T n nc Ds nh Xs) {bits : Int} (bI' : inI bits) : Cl kX_areHeads [vO 10 1, vI bits] h = some (some (vI (cb (ahP bits nh))), h) ∧ Cl kM_areHeads [vO 11 9, vI bits] h = some (some (vI (cb (ahP bits nh))), h) := by
  have nb := I.nh
  have P1 : (1 : Int) ≤ ((2 ^ nh.toNat : Nat) : Int) := by
    have := Nat.pow_pos (n := nh.toNat) (show 0 < 2 by decide)
    omega
  have P2 : ((2 ^ nh.toNat : Nat) : Int) ≤ 256 := by
    have := Nat.pow_le_pow_right (n := 2) (by decide) (show nh.toNat ≤ 8 by omega)
    omega
  have es : ishl 1 nh = ((2 ^ nh.toNat : Nat) : Int) := by
    have := Z_shl (k := nh.toNat) (by omega) 1
    rw [show ((nh.toNat : Nat) : Int) = nh by omega, Int.one_mul, Z_wI (by omega)] at this
    exact this
  have er : ishr bits nh = bits / ((2 ^ nh.toNat : Nat) : Int) := by
    have := Z_shr (k := nh.toNat) (by omega) bI'
    rw [show ((nh.toNat : Nat) : Int) = nh by omega] at this
    exact this
  rw [E_X_areHeads, E_M_areHeads, I.2.2.2.1.2.1, I.2.2.2.1.1, es, er]
  unfold ahP
  generalize ((2 ^ nh.toNat : Nat) : Int) = P at P1 P2
  by_cases q : bits < 0
  · rw [if_pos q, if_pos q, gd_t (by decide), cb_f (by omega)]
    exact ⟨rfl, rfl⟩
  · rw [if_neg q, if_neg q]
    by_cases w : bits < P
    · rw [if_pos w, if_pos (Int.ediv_eq_zero_of_lt (by omega) w), gd_t (by decide), cb_t (by omega)]
      exact ⟨rfl, rfl⟩
    · have : 1 ≤ bits / P := Int.le_ediv_of_mul_le (by omega) (by omega)
      rw [if_neg w, if_neg (by omega), gd_t (by decide), cb_f (by omega)]
      exact ⟨rfl, rfl⟩
theorem ok_parted {p bits : Int} (bI' : inI bits) : okc kX_parted kM_parted [vI p, vI bits] := okq fun h T n nc Ds nh Xs I => by
  obtain ⟨a1, a2, a3, a4⟩ := I.2.2.2.2.2.1
  have fr0 : Fr (fun _ _ => False) 50 900 h h := (Fr.rf _ h).mono (fun _ _ w => w) (by decide) (by decide)
  rw [E_X_parted, (areH I bI').1, Z_bI]
  by_cases q : 0 ≤ p ∧ p ≤ h.M 1 9 - 1
  · rw [if_neg (by omega), if_pos (by omega)]
    by_cases w : ahP bits nh
    · have S := a4 p q.1 (by omega)
      obtain ⟨h1, e1, x1⟩ := C_pairs I S bits
      have J := I.kp (x1.fb (Int.le_refl _) fun b k _ w => w.elim)
      have c : ∀ b k, b ≤ 56 → h1.M b k = h.M b k := fun b k hb => x1.1 b k (by have := I.1.2.2; omega) fun w => w
      obtain ⟨g', e2, x2⟩ := R_partedBy J (p := p) q.1 (by rw [c 1 9 (by omega)]; omega) bits
      have pe : (fun a => pto h1 Ds (Xs a) p) = fun a => toD (Xs a) (Ds (h.M 46 p)) (h.M 47 p) (h.M 48 p) (h.M 49 p) := funext fun a => by
        unfold pto
        rw [c 46 p (by omega), c 47 p (by omega), c 48 p (by omega), c 49 p (by omega)]
      rw [pe] at e2
      refine ⟨prV bits (fun a => toD (Xs a) (Ds (h.M 46 p)) (h.M 47 p) (h.M 48 p) (h.M 49 p)) nh, h1, g', ?_, x1.mono (fun _ _ w => w) (by decide) (by decide), ?_, x2⟩
      · rw [cb_t w, if_neg n10, lx8 I.1, ln6 I.1, gd_t (by omega), e1, Z_bI]
      · rw [E_M_parted, J.2.2.2.2.2.1.1, c 1 9 (by omega), Z_wI (by omega), R_in, Z_bI, bz_t q, if_neg n10, (areH J bI').2, Z_bI, cb_t w, if_neg n10, e2, Z_bI]
    · refine ⟨-1, h, h, by rw [cb_f w, if_pos rfl], fr0, ?_, Ew.rf _ _⟩
      rw [E_M_parted, a1, Z_wI (by omega), R_in, Z_bI, bz_t q, if_neg n10, (areH I bI').2, Z_bI, cb_f w, if_pos rfl]
  · refine ⟨-1, h, h, ?_, fr0, ?_, Ew.rf _ _⟩
    · by_cases z : p < 0
      · rw [if_pos z]
      · rw [if_neg z, if_neg (by omega)]
    · rw [E_M_parted, a1, Z_wI (by omega), R_in, Z_bI, bz_f q, if_pos rfl]
def nxf (pv : Int → Int) : Nat → Int → Int → Int → Int
  | 0, _, best, _ => best
  | n + 1, p, best, most => if pv p ≤ most then nxf pv n (p + 1) best most else nxf pv n (p + 1) p (pv p)
theorem nxf_s (pv : Int → Int) (n : Nat) (p best most : Int) : nxf pv (n + 1) p best most = if pv p ≤ most then nxf pv n (p + 1) best most else nxf pv n (p + 1) p (pv p) := rfl
theorem ok_next {bits : Int} (bI' : inI bits) : okc kX_next kM_next [vI bits] := okq fun h T n nc Ds nh Xs I => by
  obtain ⟨a1, a2, a3, a4⟩ := I.2.2.2.2.2.1
  have cc := I.1.2.2
  have fr0 : Fr (fun _ _ => False) 50 900 h h := (Fr.rf _ h).mono (fun _ _ w => w) (by decide) (by decide)
  obtain ⟨pv, hpv⟩ : ∃ pv : Int → Int, pv = fun p => prV bits (fun a => pto h Ds (Xs a) p) nh := ⟨_, rfl⟩
  have mc : ∀ (f : Nat) (p best most : Int) (u5 : mV) (g : mH), p + f = h.M 1 9 → 0 ≤ p → Fr (fun _ _ => False) p.toNat (8 * p.toNat) h g → ∃ g', Rn kX_next 4 [vO 10 1, vI bits, vI best, vI most, vI p, u5] [] g = some (some (vI (nxf pv f p best most)), g') ∧ Fr (fun _ _ => False) 8 64 h g' := by
    intro f
    induction f with
    | zero =>
      intro p best most u5 g e p0 xg
      have c : ∀ b k, b ≤ 56 → g.M b k = h.M b k := fun b k hb => xg.1 b k (by omega) fun w => w
      exact ⟨g, by rw [E_X_next_4, c 1 9 (by omega), if_neg (by omega)]; rfl, xg.mono (fun _ _ w => w) (by omega) (by omega)⟩
    | succ f ih =>
      intro p best most u5 g e p0 xg
      have c : ∀ b k, b ≤ 56 → g.M b k = h.M b k := fun b k hb => xg.1 b k (by omega) fun w => w
      have J := I.kp (xg.fb (Int.le_refl _) fun b k _ w => w.elim)
      have S := J.2.2.2.2.2.1.2.2.2 p p0 (by rw [c 1 9 (by omega)]; omega)
      obtain ⟨g1, e1, x1⟩ := C_pairs J S bits
      have ep : prV bits (fun a => toD (Xs a) (Ds (g.M 46 p)) (g.M 47 p) (g.M 48 p) (g.M 49 p)) nh = pv p := by
        rw [hpv, c 46 p (by omega), c 47 p (by omega), c 48 p (by omega), c 49 p (by omega)]
        rfl
      rw [ep] at e1
      have xt' : Fr (fun _ _ => False) (p + 1).toNat (8 * (p + 1).toNat) h g1 := (xg.tr x1).mono (fun _ _ w => w) (by omega) (by omega)
      rw [E_X_next_4, c 1 9 (by omega), if_pos (by omega), lx8 J.1, ln6 J.1, gd_t (by omega), e1, Z_bI, Z_wI (z := p + 1) (by omega), nxf_s]
      by_cases z : pv p ≤ most
      · rw [if_pos z, if_pos z]
        exact ih (p + 1) best most _ g1 (by omega) (by omega) xt'
      · rw [if_neg z, if_neg z]
        exact ih (p + 1) p (pv p) _ g1 (by omega) (by omega) xt'
  have mm : ∀ (g0 : mH), INV g0 T n nc Ds nh Xs → (∀ b k, b ≤ 56 → g0.M b k = h.M b k) → ∀ (f : Nat) (p best most : Int) (u5 : mV) (g : mH), p + f = h.M 1 9 → 0 ≤ p → Ew (Scr nc nh) g0 g → ∃ g', Rn kM_next 4 [vO 11 9, vI bits, vI best, vI most, vI p, u5] [] g = some (some (vI (nxf pv f p best most)), g') ∧ Ew (Scr nc nh) g g' := by
    intro g0 J0 c0 f
    induction f with
    | zero =>
      intro p best most u5 g e p0 xg
      have J := J0.ew xg fun _ _ z => z
      have p9 : g.M 1 9 = h.M 1 9 := (xg.2 1 9 fun z => by have := scr_b z; omega).trans (c0 1 9 (by omega))
      exact ⟨g, by rw [E_M_next_4, J.2.2.2.2.2.1.1, p9, if_neg (by omega)]; rfl, Ew.rf _ _⟩
    | succ f ih =>
      intro p best most u5 g e p0 xg
      have J := J0.ew xg fun _ _ z => z
      have c : ∀ b k, (b = 1 ∧ k = 9) ∨ (46 ≤ b ∧ b ≤ 49) → g.M b k = h.M b k := fun b k hb => (xg.2 b k fun z => by have := scr_b z; omega).trans (c0 b k (by omega))
      obtain ⟨g1, e1, x1⟩ := R_partedBy J (p := p) p0 (by rw [c 1 9 (by omega)]; omega) bits
      have ep : prV bits (fun a => pto g Ds (Xs a) p) nh = pv p := by
        have : (fun a => pto g Ds (Xs a) p) = fun a => pto h Ds (Xs a) p := funext fun a => by
          unfold pto
          rw [c 46 p (by omega), c 47 p (by omega), c 48 p (by omega), c 49 p (by omega)]
        rw [hpv, this]
      rw [ep] at e1
      rw [E_M_next_4, J.2.2.2.2.2.1.1, c 1 9 (by omega), if_pos (by omega), e1, Z_bI, D_max, Z_bI, Z_wI (z := p + 1) (by omega), nxf_s]
      by_cases z : pv p ≤ most
      · have im : imax most (pv p) = most := by unfold imax; rw [if_neg (by omega)]
        obtain ⟨g2, e2, x2⟩ := ih (p + 1) best most (vI (pv p)) g1 (by omega) (by omega) (xg.tr x1)
        exact ⟨g2, by rw [if_pos z, if_pos z, im]; exact e2, x1.tr x2⟩
      · have im : imax most (pv p) = pv p := by unfold imax; rw [if_pos (by omega)]
        obtain ⟨g2, e2, x2⟩ := ih (p + 1) p (pv p) (vI (pv p)) g1 (by omega) (by omega) (xg.tr x1)
        exact ⟨g2, by rw [if_neg z, if_neg z, im]; exact e2, x1.tr x2⟩
  rw [E_X_next, (areH I bI').1, Z_bI]
  by_cases w : ahP bits nh
  · obtain ⟨h1, e1, x1⟩ := mc (h.M 1 9).toNat 0 (-1) (-1) vU h (by omega) (by omega) (Fr.rf _ _)
    have J := I.kp (x1.fb (Int.le_refl _) fun b k _ w => w.elim)
    obtain ⟨g', e2, x2⟩ := mm h1 J (fun b k hb => x1.1 b k (by omega) fun w => w) (h.M 1 9).toNat 0 (-1) (-1) vU h1 (by omega) (by omega) (Ew.rf _ _)
    refine ⟨nxf pv (h.M 1 9).toNat 0 (-1) (-1), h1, g', by rw [cb_t w, if_neg n10]; exact e1, x1.mono (fun _ _ w => w) (by decide) (by decide), ?_, x2⟩
    rw [E_M_next, (areH J bI').2, Z_bI, cb_t w, if_neg n10]
    exact e2
  · exact ⟨-1, h, h, by rw [cb_f w, if_pos rfl], fr0, by rw [E_M_next, (areH I bI').2, Z_bI, cb_f w, if_pos rfl], Ew.rf _ _⟩
