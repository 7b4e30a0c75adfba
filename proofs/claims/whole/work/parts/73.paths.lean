/-! THE PURE PART, the reference's way: next years, next months, rows -/
def itn (f : Int → Int) : Nat → Int → Int
  | 0, x => x
  | n + 1, x => itn f n (f x)
theorem itn_z (f : Int → Int) (x : Int) : itn f 0 x = x := rfl
theorem itn_s (f : Int → Int) (n : Nat) (x : Int) : itn f (n + 1) x = itn f n (f x) := rfl
theorem itn_l (f : Int → Int) : ∀ (n : Nat) (x : Int), itn f (n + 1) x = f (itn f n x) := by
  intro n
  induction n with
  | zero => intro x; rfl
  | succ n ih => intro x; rw [itn_s, ih, itn_s]
theorem rsp_nx {n lc : Int} {ov : Int → Int → Int} {ct : Int → Int} {src : Int → Prop} {L N E : Int → Int} (K : ntok n lc ov ct) (n1 : n ≤ 10000) (R : rsp n lc ov ct src L N E) {u : Int} (u0 : 1 ≤ u) (u1 : u < n) (nf : L u ≠ 1152921504606846976) (nz : L u ≠ 0) : 1 ≤ N u ∧ N u < n ∧ L (N u) ≠ 1152921504606846976 ∧ L (N u) % 16384 + 1 = L u % 16384 ∧ E u = E (N u) := by
  obtain ⟨⟨c, ed, q⟩, _, ee⟩ := R.2.2.2.1 u u0 u1 nf nz
  have eb := edl_b K u0 u1 ed
  have bu := R.1 u u0 u1
  have bn := R.1 (N u) eb.1 eb.2.1
  have b1 := bu.2.2 nf
  have nb : L (N u) ≠ 1152921504606846976 := by omega
  have b2 := bn.2.2 nb
  exact ⟨eb.1, eb.2.1, nb, by omega, ee⟩
theorem rsp_z {n lc : Int} {ov : Int → Int → Int} {ct : Int → Int} {src : Int → Prop} {L N E : Int → Int} (K : ntok n lc ov ct) (n1 : n ≤ 10000) (R : rsp n lc ov ct src L N E) {u : Int} (u0 : 1 ≤ u) (u1 : u < n) (nf : L u ≠ 1152921504606846976) : L u % 16384 = 0 ↔ L u = 0 := by
  constructor
  · intro h
    by_cases nz : L u = 0
    · exact nz
    · have := rsp_nx K n1 R u0 u1 nf nz
      have bn := (R.1 (N u) this.1 this.2.1).2.2 this.2.2.1
      omega
  · intro h
    rw [h]
    decide
theorem rsp_path {n lc : Int} {ov : Int → Int → Int} {ct : Int → Int} {src : Int → Prop} {L N E : Int → Int} (K : ntok n lc ov ct) (n1 : n ≤ 10000) (R : rsp n lc ov ct src L N E) : ∀ (s : Nat) (u : Int), 1 ≤ u → u < n → L u ≠ 1152921504606846976 → L u % 16384 = s → (∀ i : Nat, i ≤ s → 1 ≤ itn N i u ∧ itn N i u < n ∧ L (itn N i u) ≠ 1152921504606846976 ∧ L (itn N i u) % 16384 = s - i ∧ E (itn N i u) = E u) ∧ itn N s u = E u := by
  intro s
  induction s with
  | zero =>
    intro u u0 u1 nf e
    have z := (rsp_z K n1 R u0 u1 nf).mp e
    refine ⟨fun i hi => ?_, (R.2.2.2.2.1 u u0 u1 z).symm⟩
    have : i = 0 := by omega
    subst this
    exact ⟨u0, u1, nf, e, rfl⟩
  | succ s ih =>
    intro u u0 u1 nf e
    have nz : L u ≠ 0 := fun z => by
      rw [z] at e
      omega
    obtain ⟨a, b, c, d, f⟩ := rsp_nx K n1 R u0 u1 nf nz
    obtain ⟨p, q⟩ := ih (N u) a b c (by omega)
    refine ⟨fun i hi => ?_, by rw [itn_s, q, f]⟩
    cases i with
    | zero => exact ⟨u0, u1, nf, by rw [itn_z, e]; omega, rfl⟩
    | succ i =>
      obtain ⟨p1, p2, p3, p4, p5⟩ := p i (by omega)
      rw [itn_s]
      exact ⟨p1, p2, p3, by rw [p4]; omega, by rw [p5, f]⟩
/-- the lines that the row may go on by -/
def gdl (ov : Int → Int → Int) (ct L : Int → Int) (u l : Int) : Prop := ov u l ≠ 0 ∧ L (ov u l) + 16384 * ct l + 1 = L u
def bnv (ov : Int → Int → Int) (ct L : Int → Int) (u k best : Int) : Prop := (best = -1 ∧ ∀ l, 0 ≤ l → l < k → ¬ gdl ov ct L u l) ∨ (1 ≤ best ∧ (∃ l, 0 ≤ l ∧ l < k ∧ gdl ov ct L u l ∧ ov u l = best) ∧ ∀ l, 0 ≤ l → l < k → gdl ov ct L u l → best ≤ ov u l)
theorem bnv_same {ov : Int → Int → Int} {ct L : Int → Int} {u k best : Int} (B : bnv ov ct L u k best) (h : ¬ gdl ov ct L u k ∨ (best ≠ -1 ∧ best ≤ ov u k)) : bnv ov ct L u (k + 1) best := by
  rcases B with ⟨a, b⟩ | ⟨a, ⟨l, l0, l1, l2⟩, b⟩
  · refine Or.inl ⟨a, fun l l0 l1 g => ?_⟩
    by_cases z : l = k
    · rw [z] at g
      rcases h with h | h
      · exact h g
      · exact h.1 a
    · exact b l l0 (by omega) g
  · refine Or.inr ⟨a, ⟨l, l0, by omega, l2⟩, fun t t0 t1 g => ?_⟩
    by_cases z : t = k
    · rw [z] at g ⊢
      rcases h with h | h
      · exact absurd g h
      · exact h.2
    · exact b t t0 (by omega) g
theorem bnv_new {ov : Int → Int → Int} {ct L : Int → Int} {u k best : Int} (k0 : 0 ≤ k) (B : bnv ov ct L u k best) (g : gdl ov ct L u k) (p : 1 ≤ ov u k) (h : best = -1 ∨ ov u k < best) : bnv ov ct L u (k + 1) (ov u k) := by
  refine Or.inr ⟨p, ⟨k, k0, by omega, g, rfl⟩, fun t t0 t1 gt => ?_⟩
  by_cases z : t = k
  · rw [z]; exact Int.le_refl _
  · rcases B with ⟨a, b⟩ | ⟨a, _, b⟩
    · exact absurd gt (b t t0 (by omega))
    · have := b t t0 (by omega) gt
      omega
theorem bnv_end {n lc : Int} {ov : Int → Int → Int} {ct : Int → Int} {src : Int → Prop} {L N E : Int → Int} (R : rsp n lc ov ct src L N E) {u best : Int} (u0 : 1 ≤ u) (u1 : u < n) (nf : L u ≠ 1152921504606846976) (nz : L u ≠ 0) (B : bnv ov ct L u lc best) : best = N u := by
  obtain ⟨⟨c, ⟨l, l0, l1, e1, e2, e3⟩, q⟩, mn, _⟩ := R.2.2.2.1 u u0 u1 nf nz
  have g : gdl ov ct L u l := ⟨by rw [e1]; exact e3, by rw [e1, e2]; exact q⟩
  rcases B with ⟨_, b⟩ | ⟨_, ⟨t, t0, t1, t2, t3⟩, b⟩
  · exact absurd g (b l l0 l1)
  · have h1 := b l l0 l1 g
    rw [e1] at h1
    have h2 := mn best (ct t) ⟨t, t0, t1, t3, rfl, by rw [← t3]; exact t2.1⟩ (by rw [← t3]; exact t2.2)
    omega
theorem gL_eq {a b c : Int} (a0 : 0 ≤ a ∧ a % 16384 ≤ 9999 ∧ a / 16384 ≤ 989901) (b0 : 0 ≤ b ∧ (b ≠ 1152921504606846976 → b % 16384 ≤ 9999)) (c0 : 0 ≤ c ∧ c ≤ 99) : gL b = gL a - 100000 * c - 1 ↔ b + 16384 * c + 1 = a := by
  rw [gL_n (l := a) (by omega)]
  by_cases q : b = 1152921504606846976
  · rw [q, gL_F]
    omega
  · rw [gL_n q]
    have := b0.2 q
    omega
theorem gL_0F {n lc : Int} {ov : Int → Int → Int} {ct : Int → Int} {src : Int → Prop} {L N E : Int → Int} (n1 : n ≤ 10000) (R : rsp n lc ov ct src L N E) {u : Int} (u0 : 1 ≤ u) (u1 : u < n) : (gL (L u) < 1152921504606846976 ↔ L u ≠ 1152921504606846976) ∧ (gL (L u) = 0 ↔ L u = 0) ∧ 0 ≤ gL (L u) ∧ gL (L u) ≤ 1152921504606846976 ∧ (L u ≠ 1152921504606846976 → gL (L u) / 100000 = L u / 16384 ∧ gL (L u) ≤ 100000000000) := by
  have b := R.1 u u0 u1
  by_cases q : L u = 1152921504606846976
  · rw [q, gL_F]
    exact ⟨by omega, by omega, by omega, by omega, fun z => absurd rfl z⟩
  · rw [gL_n q]
    have := b.2.2 q
    exact ⟨by omega, by omega, by omega, by omega, fun _ => by omega⟩
theorem R_nextYear {h : mH} (Lh : lay h) {c : Int} (c0 : 0 ≤ c) (c1 : c < 9) {H : HD} (V : hdv H) (S : mst h c H) {src : Int → Prop} {L N E : Int → Int} (R : rsp 10000 (2 * H 3 0) (stO H) (stC H) src L N E) (F : ∀ u, 1 ≤ u → u ≤ 9999 → h.M 33 (10001 * c + u) = gL (L u)) {u : Int} (u0 : 1 ≤ u) (u1 : u ≤ 9999) (nf : L u ≠ 1152921504606846976) (nz : L u ≠ 0) : Cl kM_nextYear [vO 11 9, vI c, vI u] h = some (some (vI (N u)), h) := by
  have v3 := V.2.1
  have bu := R.1 u u0 (by omega)
  have bu2 := bu.2.2 nf
  have gu := (gL_0F (by decide) R u0 (by omega : u < 10000)).2.2.2.2 nf
  have main : ∀ (m : Nat) (k best : Int) (u5 u6 u7 u8 : mV), k + m = H 3 0 → 0 ≤ k → bnv (stO H) (stC H) L u (2 * k) best → Rn kM_nextYear 1 [vO 11 9, vI c, vI u, vI best, vI k, u5, u6, u7, u8] [] h = some (some (vI (N u)), h) := by
    intro m
    induction m with
    | zero =>
      intro k best u5 u6 u7 u8 e k0 B
      rw [E_M_nextYear_1, lm18 Lh, ln23 Lh, gd_t (by omega), S.1, if_neg (by omega), bnv_end (best := best) R u0 (by omega) nf nz (by rw [show 2 * H 3 0 = 2 * k by omega]; exact B)]
    | succ m ih =>
      intro k best u5 u6 u7 u8 e k0 B
      have s := V.2.2.2.2.1 k k0 (by omega)
      have i1 : wI (wI (6 * c) + k) = 6 * c + k := by rw [Z_wI (z := 6 * c) (by omega), Z_wI (by omega)]
      have i2 : wI (wI (10001 * c) + u) = 10001 * c + u := by rw [Z_wI (z := 10001 * c) (by omega), Z_wI (by omega)]
      have r1 : stO H u (2 * k) = if 1 ≤ u - H 4 k ∧ u - H 4 k ≤ 9999 then u - H 4 k else 0 := by
        rw [stO_e (by omega), show 2 * k / 2 = k by omega]
      have r2 : stO H u (2 * k + 1) = if 1 ≤ u + H 4 k ∧ u + H 4 k ≤ 9999 then u + H 4 k else 0 := by
        rw [stO_o (by omega), show (2 * k + 1) / 2 = k by omega]
      have t1 : stC H (2 * k) = H 5 k := by unfold stC; rw [show 2 * k / 2 = k by omega]
      have t2 : stC H (2 * k + 1) = H 5 k := by unfold stC; rw [show (2 * k + 1) / 2 = k by omega]
      have lf : wL (wL (gL (L u) - wL (100000 * H 5 k)) - 1) = gL (L u) - 100000 * H 5 k - 1 := by
        have := gL_0 bu.1
        rw [Z_wL (z := 100000 * H 5 k) (by omega), Z_wL (z := gL (L u) - 100000 * H 5 k) (by omega), Z_wL (by omega)]
      -- the higher year
      have hi : ∀ (best' : Int) (w7 : mV), bnv (stO H) (stC H) L u (2 * k + 1) best' → Rn kM_nextYear 8 [vO 11 9, vI c, vI u, vI best', vI k, vL (gL (L u) - 100000 * H 5 k - 1), vU, w7, vI (u + H 4 k)] [] h = some (some (vI (N u)), h) := by
        intro best' w7 B'
        have go : ∀ best'', bnv (stO H) (stC H) L u (2 * k + 1 + 1) best'' → Rn kM_nextYear 1 [vO 11 9, vI c, vI u, vI best'', vI (k + 1), vL (gL (L u) - 100000 * H 5 k - 1), vU, w7, vI (u + H 4 k)] [] h = some (some (vI (N u)), h) := fun best'' B'' => ih (k + 1) best'' _ _ _ _ (by omega) (by omega) (by rw [show 2 * (k + 1) = 2 * k + 1 + 1 by omega]; exact B'')
        rw [E_M_nextYear_8, R_in, Z_bI, Z_wI (z := k + 1) (by omega)]
        by_cases q : 1 ≤ u + H 4 k ∧ u + H 4 k ≤ 9999
        · have i3 : wI (wI (10001 * c) + (u + H 4 k)) = 10001 * c + (u + H 4 k) := by rw [Z_wI (z := 10001 * c) (by omega), Z_wI (by omega)]
          have bb := R.1 (u + H 4 k) q.1 (by omega)
          have ge := gL_eq (b := L (u + H 4 k)) (c := H 5 k) ⟨bu.1, by omega, by omega⟩ ⟨bb.1, fun z => by have := bb.2.2 z; omega⟩ ⟨s.2.2.1, s.2.2.2⟩
          rw [if_pos q] at r2
          rw [bz_t q, if_neg (by decide), i3, lm30 Lh, ln33 Lh, gd_t (by omega), F _ q.1 q.2, ifE]
          by_cases w : gL (L (u + H 4 k)) = gL (L u) - 100000 * H 5 k - 1
          · have g : gdl (stO H) (stC H) L u (2 * k + 1) := ⟨by rw [r2]; omega, by rw [r2, t2]; exact ge.mp w⟩
            rw [if_pos w]
            by_cases x : best' = -1
            · rw [if_pos x]
              have := bnv_new (by omega) B' g (by rw [r2]; exact q.1) (Or.inl x)
              rw [r2] at this
              exact go _ this
            · rw [if_neg x]
              by_cases y : u + H 4 k < best'
              · rw [if_pos y]
                have := bnv_new (by omega) B' g (by rw [r2]; exact q.1) (Or.inr (by rw [r2]; exact y))
                rw [r2] at this
                exact go _ this
              · rw [if_neg y]
                exact go _ (bnv_same B' (Or.inr ⟨x, by rw [r2]; omega⟩))
          · rw [if_neg w]
            exact go _ (bnv_same B' (Or.inl fun g => w (ge.mpr (by have := g.2; rw [r2, t2] at this; exact this))))
        · rw [if_neg q] at r2
          rw [bz_f q, if_pos rfl]
          exact go _ (bnv_same B' (Or.inl fun g => g.1 r2))
      rw [E_M_nextYear_1, lm18 Lh, ln23 Lh, gd_t (by omega), S.1, if_pos (by omega), i1, i2, lm30 Lh, lm20 Lh, lm19 Lh, ln33 Lh, ln24 Lh, ln25 Lh, gd_t (by omega), gd_t (by omega), gd_t (by omega), gd_t (by omega), (S.2 k k0 (by omega)).1, (S.2 k k0 (by omega)).2, F u u0 u1, lf, Z_wI (z := u - H 4 k) (by omega), Z_wI (z := u + H 4 k) (by omega), R_in, Z_bI]
      by_cases q : 1 ≤ u - H 4 k ∧ u - H 4 k ≤ 9999
      · have i3 : wI (wI (10001 * c) + (u - H 4 k)) = 10001 * c + (u - H 4 k) := by rw [Z_wI (z := 10001 * c) (by omega), Z_wI (by omega)]
        have bb := R.1 (u - H 4 k) q.1 (by omega)
        have ge := gL_eq (b := L (u - H 4 k)) (c := H 5 k) ⟨bu.1, by omega, by omega⟩ ⟨bb.1, fun z => by have := bb.2.2 z; omega⟩ ⟨s.2.2.1, s.2.2.2⟩
        rw [if_pos q] at r1
        rw [bz_t q, if_neg (by decide), i3, lm30 Lh, ln33 Lh, gd_t (by omega), F _ q.1 q.2, ifE]
        by_cases w : gL (L (u - H 4 k)) = gL (L u) - 100000 * H 5 k - 1
        · have g : gdl (stO H) (stC H) L u (2 * k) := ⟨by rw [r1]; omega, by rw [r1, t1]; exact ge.mp w⟩
          rw [if_pos w]
          by_cases x : best = -1
          · rw [if_pos x]
            have := bnv_new (by omega) B g (by rw [r1]; exact q.1) (Or.inl x)
            rw [r1] at this
            exact hi _ _ this
          · rw [if_neg x]
            by_cases y : u - H 4 k < best
            · rw [if_pos y]
              have := bnv_new (by omega) B g (by rw [r1]; exact q.1) (Or.inr (by rw [r1]; exact y))
              rw [r1] at this
              exact hi _ _ this
            · rw [if_neg y]
              exact hi _ _ (bnv_same B (Or.inr ⟨x, by rw [r1]; omega⟩))
        · rw [if_neg w]
          exact hi _ _ (bnv_same B (Or.inl fun g => w (ge.mpr (by have := g.2; rw [r1, t1] at this; exact this))))
      · rw [if_neg q] at r1
        rw [bz_f q, if_pos rfl]
        exact hi _ _ (bnv_same B (Or.inl fun g => g.1 r1))
  rw [E_M_nextYear]
  exact main (H 3 0).toNat 0 (-1) _ _ _ _ (by omega) (by omega) (Or.inl ⟨rfl, fun l l0 l1 => by omega⟩)
theorem R_nextMonth {h : mH} (Lh : lay h) {c : Int} (c0 : 0 ≤ c) (c1 : c < 9) {H : HD} (V : hdv H) (S : mpr h c H) {src : Int → Prop} {L N E : Int → Int} (R : rsp 13 (H 6 0) (prO H) (prC H) src L N E) (F : ∀ u, 1 ≤ u → u ≤ 12 → h.M 34 (13 * c + u) = gL (L u)) {u : Int} (u0 : 1 ≤ u) (u1 : u ≤ 12) (nf : L u ≠ 1152921504606846976) (nz : L u ≠ 0) : Cl kM_nextMonth [vO 11 9, vI c, vI u] h = some (some (vI (N u)), h) := by
  have v6 := V.2.2.1
  have bu := R.1 u u0 (by omega)
  have bu2 := bu.2.2 nf
  have gu := (gL_0F (by decide) R u0 (by omega : u < 13)).2.2.2.2 nf
  have main : ∀ (m : Nat) (k best : Int) (u5 u6 u7 : mV), k + m = H 6 0 → 0 ≤ k → bnv (prO H) (prC H) L u k best → Rn kM_nextMonth 1 [vO 11 9, vI c, vI u, vI best, vI k, u5, u6, u7] [] h = some (some (vI (N u)), h) := by
    intro m
    induction m with
    | zero =>
      intro k best u5 u6 u7 e k0 B
      rw [E_M_nextMonth_1, lm21 Lh, ln26 Lh, gd_t (by omega), S.1, if_neg (by omega), bnv_end (best := best) R u0 (by omega) nf nz (by rw [show H 6 0 = k by omega]; exact B)]
    | succ m ih =>
      intro k best u5 u6 u7 e k0 B
      have s := V.2.2.2.2.2.1 k k0 (by omega)
      have i1 : wI (wI (12 * c) + k) = 12 * c + k := by rw [Z_wI (z := 12 * c) (by omega), Z_wI (by omega)]
      have i2 : wI (wI (13 * c) + u) = 13 * c + u := by rw [Z_wI (z := 13 * c) (by omega), Z_wI (by omega)]
      have lf : wL (wL (gL (L u) - wL (100000 * H 9 k)) - 1) = gL (L u) - 100000 * H 9 k - 1 := by
        have := gL_0 bu.1
        rw [Z_wL (z := 100000 * H 9 k) (by omega), Z_wL (z := gL (L u) - 100000 * H 9 k) (by omega), Z_wL (by omega)]
      have tc : prC H k = H 9 k := rfl
      -- the other month
      have hi : ∀ (o : Int) (w5 w6 w7 : mV), (o = -1 ∧ prO H u k = 0) ∨ (1 ≤ o ∧ o ≤ 12 ∧ prO H u k = o) → Rn kM_nextMonth 7 [vO 11 9, vI c, vI u, vI best, vI k, w5, w6, w7] [vI o] h = some (some (vI (N u)), h) := by
        intro o w5 w6 w7 ho
        have go : ∀ (best'' : Int) (w7' : mV), bnv (prO H) (prC H) L u (k + 1) best'' → Rn kM_nextMonth 1 [vO 11 9, vI c, vI u, vI best'', vI (k + 1), w5, w6, w7'] [] h = some (some (vI (N u)), h) := fun best'' w7' B'' => ih (k + 1) best'' _ _ _ (by omega) (by omega) B''
        rw [E_M_nextMonth_7, Z_wI (z := k + 1) (by omega)]
        rcases ho with ⟨o1, o2⟩ | ⟨o1, o2, o3⟩
        · rw [if_pos o1]
          exact go _ _ (bnv_same B (Or.inl fun g => g.1 o2))
        · have i3 : wI (wI (13 * c) + o) = 13 * c + o := by rw [Z_wI (z := 13 * c) (by omega), Z_wI (by omega)]
          have bb := R.1 o o1 (by omega)
          have ge := gL_eq (b := L o) (c := H 9 k) ⟨bu.1, by omega, by omega⟩ ⟨bb.1, fun z => by have := bb.2.2 z; omega⟩ ⟨s.2.2.2.2.2.1, s.2.2.2.2.2.2⟩
          rw [if_neg (by omega), i1, i2, i3, lm31 Lh, lm24 Lh, ln34 Lh, ln29 Lh, gd_t (by omega), gd_t (by omega), gd_t (by omega), F o o1 o2, F u u0 u1, (S.2 k k0 (by omega)).2.2, lf, ifE]
          by_cases w : gL (L o) = gL (L u) - 100000 * H 9 k - 1
          · have g : gdl (prO H) (prC H) L u k := ⟨by rw [o3]; omega, by rw [o3, tc]; exact ge.mp w⟩
            rw [if_pos w]
            by_cases x : best = -1
            · rw [if_pos x]
              have := bnv_new (by omega) B g (by rw [o3]; exact o1) (Or.inl x)
              rw [o3] at this
              exact go _ _ this
            · rw [if_neg x]
              by_cases y : o < best
              · rw [if_pos y]
                have := bnv_new (by omega) B g (by rw [o3]; exact o1) (Or.inr (by rw [o3]; exact y))
                rw [o3] at this
                exact go _ _ this
              · rw [if_neg y]
                exact go _ _ (bnv_same B (Or.inr ⟨x, by rw [o3]; omega⟩))
          · rw [if_neg w]
            exact go _ _ (bnv_same B (Or.inl fun g => w (ge.mpr (by have := g.2; rw [o3, tc] at this; exact this))))
      rw [E_M_nextMonth_1, lm21 Lh, ln26 Lh, gd_t (by omega), S.1, if_pos (by omega), i1, lm22 Lh, lm23 Lh, ln27 Lh, ln28 Lh, gd_t (by omega), gd_t (by omega), (S.2 k k0 (by omega)).1, (S.2 k k0 (by omega)).2.1]
      by_cases q : H 7 k = u
      · rw [if_pos q]
        exact hi _ _ _ _ (Or.inr ⟨by omega, by omega, by unfold prO; rw [if_pos q]⟩)
      · rw [if_neg q]
        by_cases w : H 8 k = u
        · rw [if_pos w]
          exact hi _ _ _ _ (Or.inr ⟨by omega, by omega, by unfold prO; rw [if_neg q, if_pos w]⟩)
        · rw [if_neg w]
          exact hi _ _ _ _ (Or.inl ⟨rfl, by unfold prO; rw [if_neg q, if_neg w]⟩)
  rw [E_M_nextMonth]
  exact main (H 6 0).toNat 0 (-1) _ _ _ (by omega) (by omega) (Or.inl ⟨rfl, fun l l0 l1 => by omega⟩)
