/-! THE PURE PART, the class's Rows: all rows found -/
/-- the heap's object between uses -/
def hph (h : mH) (hp : Int) : Prop := 56 < hp ∧ (h.M hp 0 = hp + 1 ∧ h.M hp 1 = hp + 2 ∧ h.N (hp + 1) = 10001 ∧ h.N (hp + 2) = 10001) ∧ ∃ n0, n0 ≤ 10001 ∧ wfh (h.M (hp + 1)) (h.M (hp + 2)) (h.M hp 2) 10000 n0
theorem hph_hpo {h : mH} {hp w n : Int} (H : hph h hp) (R : rwo h w n) (o : hp + 2 < w) : hpo h hp (hp + 1) (hp + 2) (w + 1) (h.M hp 2) 10000 n := by
  obtain ⟨a, ⟨b, c, d, e⟩, _⟩ := H
  obtain ⟨⟨a1, b1, c1⟩, ⟨d1, f1, g1⟩, i, j, k⟩ := R
  exact ⟨b, c, rfl, by rw [d]; decide, by rw [e]; decide, d1, by omega, by omega, by omega, by omega, by omega, by unfold ne2; omega, by unfold ne2; omega, by unfold ne2; omega, by unfold ne2; omega, by unfold ne2; omega, by unfold ne2; omega⟩
theorem hph_fin {h : mH} {hp w s n : Int} (hp0 : 56 < hp) (P : hpo h hp (hp + 1) (hp + 2) (w + 1) s 10000 n) (W : wfh (h.M (hp + 1)) (h.M (hp + 2)) s 10000 n) : hph h hp := by
  obtain ⟨a, b, c, d, e, f, g, i, j, k, _⟩ := P
  exact ⟨hp0, ⟨a, b, by rw [d]; decide, by rw [e]; decide⟩, n, by omega, by rw [c]; exact W⟩
def WF0 (hp : Int) : Int → Int → Prop := fun b k => (b = hp ∧ k = 2) ∨ b = hp + 1 ∨ b = hp + 2
theorem D_find2 {n : Int} {tn : Nat} {x w hp : Int} (p0 : 56 < hp) (o : hp + 2 < w) (u4 : mV) : ∀ (m : Nat) (v : Int) (h : mH) (s : Int), v + m = n → 1 ≤ v → rwo h w n → hpo h hp (hp + 1) (hp + 2) (w + 1) s 10000 n → wfh (h.M (hp + 1)) (h.M (hp + 2)) s 10000 n → ordh (h.M (hp + 1)) (h.M (w + 1)) s → (∀ u, 1 ≤ u → u < n → (h.M (hp + 2) u ≠ 0 ↔ (u < v ∧ h.M (w + 1) u = 0))) → ∃ h' s', Rn kRw_find 2 [vO 6 w, vR tn x, vR 3 hp, vI v, u4] [] h = Rn kRw_find 7 [vO 6 w, vR tn x, vR 3 hp, vI 0, u4] [] h' ∧ Ew (WF0 hp) h h' ∧ hpo h' hp (hp + 1) (hp + 2) (w + 1) s' 10000 n ∧ wfh (h'.M (hp + 1)) (h'.M (hp + 2)) s' 10000 n ∧ ordh (h'.M (hp + 1)) (h'.M (w + 1)) s' ∧ ∀ u, 1 ≤ u → u < n → (h'.M (hp + 2) u ≠ 0 ↔ h'.M (w + 1) u = 0) := by
  intro m
  induction m with
  | zero =>
    intro v h s e v0 R P W O Q
    have R' := R
    obtain ⟨⟨a, b, c⟩, ⟨d, f, g⟩, i, j, k⟩ := R'
    exact ⟨h, s, by rw [E_Rw_find_2, a, gd_t (by omega), d, if_neg (by omega)], Ew.rf _ _, P, W, O, fun u u0 u1 => (Q u u0 u1).trans ⟨fun y => y.2, fun y => ⟨by omega, y⟩⟩⟩
  | succ m ih =>
    intro v h s e v0 R P W O Q
    have R' := R
    obtain ⟨⟨a, b, c⟩, ⟨d, f, g⟩, i, j, k⟩ := R'
    rw [E_Rw_find_2, a, gd_t (by omega), d, if_pos (by omega), gd_t (by omega), ifE, Z_wI (z := v + 1) (by omega)]
    by_cases z : h.M (w + 1) v = 0
    · obtain ⟨h2, s2, e2, x2, P2, W2, O2, s1, C2⟩ := D_put (len := h.M (w + 1)) (lo := h.M (w + 1)) P (fun _ _ _ => rfl) W O (x := v) (by omega) (by omega) (fun t tn => rfl) (fun _ => Int.le_refl _)
      have y2 : Ew (WF0 hp) h h2 := x2.mono fun p t y => by unfold WNP at y; unfold WF0; omega
      have la : h2.M (w + 1) = h.M (w + 1) := funext fun t => y2.2 (w + 1) t fun y => by unfold WF0 at y; omega
      have R2 : rwo h2 w n := R.cg (fun k => y2.2 w k fun y => by unfold WF0 at y; omega) (fun b _ _ => by rw [y2.N])
      obtain ⟨h', s', e3, x3, r⟩ := ih (v + 1) h2 s2 (by omega) (by omega) R2 P2 W2 (by rw [la]; exact O2) (fun u u0 u1 => by
        rw [C2 u, Q u u0 u1, la]
        constructor
        · rintro (y | y)
          · exact ⟨by omega, y.2⟩
          · rw [y]; exact ⟨by omega, z⟩
        · intro y
          by_cases t : u = v
          · exact Or.inr t
          · exact Or.inl ⟨by omega, y.2⟩)
      exact ⟨h', s', by rw [if_pos z, gd_t (by omega), e2, Z_bV]; exact e3, y2.tr x3, r⟩
    · rw [if_neg z]
      exact ih (v + 1) h s (by omega) (by omega) R P W O (fun u u0 u1 => by
        rw [Q u u0 u1]
        constructor
        · exact fun y => ⟨by omega, y.2⟩
        · intro y
          by_cases t : u = v
          · rw [t] at y; exact absurd y.2 z
          · exact ⟨by omega, y.2⟩)
def wto (h : mH) (hp n : Int) : Int → Prop := fun u => 1 ≤ u ∧ u < n ∧ h.M (hp + 2) u ≠ 0
theorem D_find7 {n lc : Int} {ov : Int → Int → Int} {ct : Int → Int} (K : ntok n lc ov ct) {tn : Nat} {x w hp : Int} (p0 : 56 < hp) (o : hp + 2 < w) {src : Int → Prop} {h0 : mH} (hN : ∀ h', Ew (WFn hp w) h0 h' → nto h' tn x n lc ov ct) : ∀ (m : Nat) (k : Int) (u4 : mV) (h : mH) (s : Int), k + m = n → Ew (WFn hp w) h0 h → rwo h w n → hpo h hp (hp + 1) (hp + 2) (w + 1) s 10000 n → wfh (h.M (hp + 1)) (h.M (hp + 2)) s 10000 n → ordh (h.M (hp + 1)) (h.M (w + 1)) s → DJ n lc ov ct src (h.M (w + 1)) (h.M (w + 2)) (h.M (w + 3)) (wto h hp n) k → ∃ h', Rn kRw_find 7 [vO 6 w, vR tn x, vR 3 hp, vI k, u4] [] h = some (none, h') ∧ Ew (WFn hp w) h h' ∧ hph h' hp ∧ rsp n lc ov ct src (h'.M (w + 1)) (h'.M (w + 2)) (h'.M (w + 3)) := by
  intro m
  induction m with
  | zero =>
    intro k u4 h s e x0 R P W O D
    have kb := cn_b (stl n (h.M (w + 1)) (wto h hp n)) (n - 1).toNat 1
    have := D.2.2.2.2.2.2.2.2.2
    have := R.2.2.2.1
    omega
  | succ m ih =>
    intro k u4 h s e x0 R P W O D
    have kb := cn_b (stl n (h.M (w + 1)) (wto h hp n)) (n - 1).toNat 1
    have kk := D.2.2.2.2.2.2.2.2.2
    have R' := R
    obtain ⟨⟨a, b, c⟩, ⟨d, f, g⟩, i, j, kx⟩ := R'
    have P' := P
    obtain ⟨pa, pb, pc, _⟩ := P'
    rw [E_Rw_find_7, a, gd_t (by omega), d, if_pos (by omega), gd_t (by omega), pc]
    by_cases z : s ≤ 0
    · refine ⟨h, by rw [if_pos z], Ew.rf _ _, hph_fin p0 P W, DJ_end D kx fun u q => ?_⟩
      rcases W.2.2.2 u q.1 (by have := q.2.1; omega) with y | y
      · exact q.2.2 y
      · omega
    · obtain ⟨h1, v, e1, x1, P1, W1, O1, v0, v1, v2, vm, C1⟩ := D_take (len := h.M (w + 1)) P (fun _ _ _ => rfl) W O (by omega)
      have y1 : Ew (WFn hp w) h h1 := x1.mono fun p t y => by unfold WNP at y; unfold WFn; omega
      have R1 : rwo h1 w n := R.ew o y1
      have m1 : ∀ b, w + 1 ≤ b → h1.M b = h.M b := fun b hb => funext fun t => x1.2 b t fun y => by unfold WNP at y; omega
      have l1 := m1 (w + 1) (by omega)
      have lb : ∀ u, 1 ≤ u → u < n → 0 ≤ h1.M (w + 1) u ∧ h1.M (w + 1) u ≤ 1152921504606846976 := fun u u0 u1 => by
        rw [l1]
        have := D.1 u u0 u1
        exact ⟨this.1, this.2.1⟩
      have wv : wto h hp n v := ⟨v0, v1, v2⟩
      -- the next one is chosen
      have cho : ∃ h2, Cl kRw_chooseNext [vO 6 w, vR tn x, vI v] h1 = some (none, h2) ∧ Ew (fun b _ => b = w + 2 ∨ b = w + 3) h1 h2 ∧ (h.M (w + 1) v = 0 → h2 = h1) ∧ (∀ u, u ≠ v → h2.M (w + 2) u = h.M (w + 2) u ∧ h2.M (w + 3) u = h.M (w + 3) u) ∧ (h.M (w + 1) v ≠ 0 → (h2.M (w + 2) v = 0 ∧ (∀ b c, edl lc ov ct v b c → h.M (w + 1) b + 16384 * c + 1 ≠ h.M (w + 1) v)) ∨ ((∃ c, edl lc ov ct v (h2.M (w + 2) v) c ∧ h.M (w + 1) (h2.M (w + 2) v) + 16384 * c + 1 = h.M (w + 1) v) ∧ (∀ b c, edl lc ov ct v b c → h.M (w + 1) b + 16384 * c + 1 = h.M (w + 1) v → h2.M (w + 2) v ≤ b) ∧ h2.M (w + 3) v = h.M (w + 3) (h2.M (w + 2) v))) := by
        rw [E_Rw_chooseNext, C_rwHas R1, Z_bI, bz_t ⟨v0, v1⟩, if_neg (by decide), R1.1.1, R1.2.1.1, gd_t (by omega), ifE, l1]
        by_cases q : h.M (w + 1) v = 0
        · exact ⟨h1, by rw [if_pos q], Ew.rf _ _, fun _ => rfl, fun u _ => by rw [m1 _ (by omega), m1 _ (by omega)]; exact ⟨rfl, rfl⟩, fun y => absurd q y⟩
        · obtain ⟨best, e2, rb, I⟩ := D_cn5 K R1 (hN h1 (x0.tr y1)) v0 v1 lb lc.toNat 0 0 vU (by have := K.1; omega) (by omega) (Or.inl rfl) ⟨fun _ l' h0 h1 => by omega, fun y => absurd rfl y⟩
          rw [if_neg q, e2]
          refine ⟨_, rfl, (Ew.st (W := fun b _ => b = w + 2 ∨ b = w + 3) h1 _ (Or.inl rfl)).tr (Ew.st _ _ (Or.inr rfl)), fun y => absurd y q, fun u nu => ?_, fun _ => ?_⟩
          · rw [Z_Mn (by omega), Z_Mn (by omega), Z_Mn (by omega), Z_Mn (by omega), m1 _ (by omega), m1 _ (by omega)]
            exact ⟨rfl, rfl⟩
          · have n2 : ((h1.set (w + 2) v best).set (w + 3) v (if best = 0 then 0 else h1.M (w + 3) best)).M (w + 2) v = best := by rw [Z_Mn (by omega), Z_Mt]
            have n3 : ((h1.set (w + 2) v best).set (w + 3) v (if best = 0 then 0 else h1.M (w + 3) best)).M (w + 3) v = (if best = 0 then 0 else h1.M (w + 3) best) := Z_Mt ..
            rw [n2, n3]
            rw [l1] at I
            by_cases y : best = 0
            · left
              refine ⟨y, fun b c ⟨l, a1, a2, a3, a4, a5⟩ => ?_⟩
              have := I.1 y l a1 a2 (by rw [a3]; exact a5)
              rw [a3, a4] at this
              exact this
            · right
              obtain ⟨⟨l, a1, a2, a3, a4⟩, mn⟩ := I.2 y
              refine ⟨⟨ct l, ⟨l, a1, a2, a3, rfl, y⟩, a4⟩, fun b c ⟨l, a1, a2, a3, a4, a5⟩ eq => ?_, by rw [if_neg y, m1 _ (by omega)]⟩
              have := mn l a1 a2 (by rw [a3]; exact a5) (by rw [a3, a4]; exact eq)
              rw [a3] at this
              exact this
      obtain ⟨h2, e2, x2, q2, no2, nx2⟩ := cho
      have y2 : Ew (WFn hp w) h1 h2 := x2.mono fun p t y => by unfold WFn; omega
      have R2 : rwo h2 w n := R1.ew o y2
      have P2 : hpo h2 hp (hp + 1) (hp + 2) (w + 1) (s - 1) 10000 n := by
        obtain ⟨t1, t2, t3, t4, t5, t6, t7⟩ := P1
        have fz : ∀ t, h2.M hp t = h1.M hp t := fun t => x2.2 hp t fun y => by omega
        exact ⟨(fz 0).trans t1, (fz 1).trans t2, (fz 2).trans t3, by rw [x2.N]; exact t4, by rw [x2.N]; exact t5, by rw [x2.N]; exact t6, t7⟩
      have fh : ∀ b, b < w + 2 → h2.M b = h1.M b := fun b hb => funext fun t => x2.2 b t fun y => by omega
      obtain ⟨h3, s3, e3, x3, P3, W3, O3, A3, B3, C3⟩ := D_go4 K (by omega : 0 < hp) o hN v0 v1 lc.toNat 0 vU vU vU h2 (s - 1) (by have := K.1; omega) (by omega) ((x0.tr y1).tr y2) R2 P2 (by rw [fh _ (by omega), fh _ (by omega)]; exact W1) (by rw [fh _ (by omega), fh _ (by omega), l1]; exact O1) (by rw [fh _ (by omega)]; exact lb)
      have y3 : Ew (WFn hp w) h2 h3 := x3.mono fun _ _ => WFg_n
      have R3 : rwo h3 w n := R2.ew o y3
      have l2 : h2.M (w + 1) = h.M (w + 1) := (fh _ (by omega)).trans l1
      rw [l2] at A3 B3 C3
      have m3 : ∀ b, w + 2 ≤ b → h3.M b = h2.M b := fun b hb => funext fun t => x3.2 b t fun y => by unfold WFg at y; omega
      have D3 : DJ n lc ov ct src (h3.M (w + 1)) (h3.M (w + 2)) (h3.M (w + 3)) (wto h3 hp n) (k + 1) := by
        refine DJ_step K kx D wv (fun u q => vm u q.1 q.2.1 q.2.2) (fun q => ?_) (fun q => ?_) (fun u nu => ?_) (fun u u0 u1 => ?_) (fun u c' ⟨l, a1, a2, a3, a4, a5⟩ => ?_) (fun u => ?_)
        · rw [m3 _ (by omega), m3 _ (by omega), q2 q, m1 _ (by omega), m1 _ (by omega)]
          exact ⟨rfl, rfl⟩
        · rw [m3 _ (by omega), m3 _ (by omega)]
          exact nx2 q
        · rw [m3 _ (by omega), m3 _ (by omega)]
          exact no2 u nu
        · obtain ⟨q1, q2⟩ := A3 u u0 u1
          refine ⟨q1, ?_⟩
          rcases q2 with q2 | ⟨l, a1, a2, a3, a4⟩
          · exact Or.inl q2
          · exact Or.inr ⟨ct l, ⟨l, a1, a2, a3, rfl, by omega⟩, a4⟩
        · have := B3 l a1 a2 (by rw [a3]; exact a5)
          rw [a3, a4] at this
          exact this
        · constructor
          · intro q
            obtain ⟨q0, q1, q2⟩ := q
            refine ⟨q0, q1, ?_⟩
            rcases (C3 u q0 q1).mp q2 with y | y
            · rw [fh _ (by omega)] at y
              have := (C1 u).mp y
              exact Or.inl ⟨⟨q0, q1, this.1⟩, this.2⟩
            · exact Or.inr y
          · rintro ⟨q0, q1, q2⟩
            refine ⟨q0, q1, (C3 u q0 q1).mpr ?_⟩
            rcases q2 with y | y
            · left
              rw [fh _ (by omega)]
              exact (C1 u).mpr ⟨y.1.2.2, y.2⟩
            · exact Or.inr y
      obtain ⟨h', e4, x4, H4, r4⟩ := ih (k + 1) (vI v) h3 s3 (by omega) (((x0.tr y1).tr y2).tr y3) R3 P3 W3 O3 D3
      refine ⟨h', ?_, ((y1.tr y2).tr y3).tr x4, H4, r4⟩
      rw [if_neg z, gd_t (by omega), e1, Z_bI, e2, Z_bV, E_Rw_goOn, C_rwHas R2, Z_bI, bz_t ⟨v0, v1⟩, if_neg (by decide), e3, Z_bV, Z_wI (by omega)]
      exact e4
theorem D_find {n lc : Int} {ov : Int → Int → Int} {ct : Int → Int} (K : ntok n lc ov ct) {tn : Nat} {x w hp : Int} (o : hp + 2 < w) {src : Int → Prop} {h : mH} (hN : ∀ h', Ew (WFn hp w) h h' → nto h' tn x n lc ov ct) (H : hph h hp) (R : rwo h w n) (i0 : ∀ u, 1 ≤ u → u < n → (src u → h.M (w + 1) u = 0 ∧ h.M (w + 3) u = u) ∧ (¬ src u → h.M (w + 1) u = 1152921504606846976 ∧ h.M (w + 3) u = 0 ∧ h.M (w + 2) u = 0)) : ∃ h', Cl kRw_find [vO 6 w, vR tn x, vR 3 hp] h = some (none, h') ∧ Ew (WFn hp w) h h' ∧ hph h' hp ∧ rsp n lc ov ct src (h'.M (w + 1)) (h'.M (w + 2)) (h'.M (w + 3)) := by
  have hp0 := H.1
  have P := hph_hpo H R o
  obtain ⟨n0, n1, W⟩ := H.2.2
  obtain ⟨h1, e1, x1, P1, W1, Z1⟩ := D_empty P W (by omega)
  have y1 : Ew (WFn hp w) h h1 := x1.mono fun p t y => by unfold WFn; omega
  have R1 : rwo h1 w n := R.ew o y1
  have kx := R.2.2.2.2
  obtain ⟨h2, s2, e2, x2, P2, W2, O2, Q2⟩ := D_find2 (n := n) (tn := tn) (x := x) hp0 o vU (n - 1).toNat 1 h1 0 (by have := R.2.2.2.1; omega) (by omega) R1 P1 W1 (fun t t0 t1 => by omega) (fun u u0 u1 => ⟨fun y => absurd (Z1 u u0 (by omega)) y, fun y => by omega⟩)
  have y2 : Ew (WFn hp w) h1 h2 := x2.mono fun p t y => by unfold WF0 at y; unfold WFn; omega
  have m2 : ∀ b, w + 1 ≤ b → h2.M b = h.M b := fun b hb => funext fun t => (x2.2 b t fun y => by unfold WF0 at y; omega).trans (x1.2 b t fun y => by omega)
  have D0 : DJ n lc ov ct src (h2.M (w + 1)) (h2.M (w + 2)) (h2.M (w + 3)) (wto h2 hp n) 0 := by
    rw [m2 (w + 1) (by omega)] at Q2
    rw [m2 (w + 1) (by omega), m2 (w + 2) (by omega), m2 (w + 3) (by omega)]
    have ns : ∀ u, ¬ stl n (h.M (w + 1)) (wto h2 hp n) u := fun u ⟨q0, q1, q2, q3⟩ => by
      by_cases y : src u
      · exact q3 ⟨q0, q1, (Q2 u q0 q1).mpr ((i0 u q0 q1).1 y).1⟩
      · exact q2 ((i0 u q0 q1).2 y).1
    refine ⟨fun u u0 u1 => ?_, fun u u0 u1 => ?_, fun u q => ?_, fun a b s => absurd s (ns a), fun a b c s => absurd s (ns a), fun u u0 u1 u2 u3 => ?_, fun u s => absurd s (ns u), fun u u0 u1 u2 => ?_, fun u u0 u1 u2 => ?_, cn_0 _ _ fun u _ _ => ns u⟩
    · by_cases y : src u
      · have := ((i0 u u0 u1).1 y).1
        rw [this]
        exact ⟨by decide, by decide, fun _ => ⟨by decide, by decide⟩⟩
      · have := ((i0 u u0 u1).2 y).1
        rw [this]
        exact ⟨by decide, by decide, fun q => absurd rfl q⟩
    · by_cases y : src u
      · exact ⟨fun _ => y, fun _ => ((i0 u u0 u1).1 y).1⟩
      · have := ((i0 u u0 u1).2 y).1
        exact ⟨fun q => by omega, fun q => absurd q y⟩
    · obtain ⟨q0, q1, q2⟩ := q
      have := (Q2 u q0 q1).mp q2
      exact ⟨q0, q1, by omega⟩
    · exfalso
      by_cases y : src u
      · exact u3 ((i0 u u0 u1).1 y).1
      · exact u2 ((i0 u u0 u1).2 y).1
    · by_cases y : src u
      · exact ((i0 u u0 u1).1 y).2
      · have := ((i0 u u0 u1).2 y).1
        omega
    · by_cases y : src u
      · have := ((i0 u u0 u1).1 y).1
        omega
      · exact ((i0 u u0 u1).2 y).2
  obtain ⟨h3, e3, x3, H3, r3⟩ := D_find7 K hp0 o hN n.toNat 0 vU h2 s2 (by have := R.2.2.2.1; omega) (y1.tr y2) (R1.ew o y2) P2 W2 O2 D0
  refine ⟨h3, ?_, (y1.tr y2).tr x3, H3, r3⟩
  rw [E_Rw_find, gd_t (by omega), e1, Z_bV, e2]
  exact e3
