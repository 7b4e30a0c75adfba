/-! THE PURE PART, the class's Rows: how the best rows are found -/
def nto (h : mH) (tn : Nat) (x n lc : Int) (ov : Int → Int → Int) (ct : Int → Int) : Prop := x ≠ 0 ∧ Cl (ifc_lineCount tn) [vO tn x] h = some (some (vI lc), h) ∧ (∀ y l, 1 ≤ y → y < n → 0 ≤ l → l < lc → Cl (ifc_over tn) [vO tn x, vI y, vI l] h = some (some (vI (ov y l)), h)) ∧ ∀ l, 0 ≤ l → l < lc → Cl (ifc_costOf tn) [vO tn x, vI l] h = some (some (vI (ct l)), h)
/-- a Rows object at w, its arrays behind it -/
def rwo (h : mH) (w n : Int) : Prop := (h.M w 0 = w + 1 ∧ h.M w 1 = w + 2 ∧ h.M w 2 = w + 3) ∧ (h.N (w + 1) = n ∧ h.N (w + 2) = n ∧ h.N (w + 3) = n) ∧ 56 < w ∧ 1 ≤ n ∧ n ≤ 10000
theorem rwo.cg {h h1 : mH} {w n : Int} (R : rwo h w n) (e : ∀ k, h1.M w k = h.M w k) (m : ∀ b, w < b → b ≤ w + 3 → h1.N b = h.N b) : rwo h1 w n := by
  obtain ⟨⟨a, b, c⟩, ⟨d, f, g⟩, i⟩ := R
  exact ⟨⟨(e 0).trans a, (e 1).trans b, (e 2).trans c⟩, ⟨(m _ (by omega) (by omega)).trans d, (m _ (by omega) (by omega)).trans f, (m _ (by omega) (by omega)).trans g⟩, i⟩
/-- what finding writes: all, and without the next ones -/
def WFn (hp w : Int) : Int → Int → Prop := fun b k => (b = hp ∧ k = 2) ∨ b = hp + 1 ∨ b = hp + 2 ∨ b = w + 1 ∨ b = w + 2 ∨ b = w + 3
theorem rwo.ew {h h1 : mH} {hp w n : Int} (R : rwo h w n) (o : hp + 2 < w) (x : Ew (WFn hp w) h h1) : rwo h1 w n := R.cg (fun k => x.2 w k fun y => by unfold WFn at y; omega) (fun b _ _ => by rw [x.N])
theorem C_rwHas {h : mH} {w n : Int} (R : rwo h w n) (v : Int) : Cl kRw_has [vO 6 w, vI v] h = some (some (vI (bz (1 ≤ v ∧ v < n))), h) := by
  obtain ⟨⟨a, b, c⟩, ⟨d, f, g⟩, i, j, k⟩ := R
  rw [E_Rw_has]
  by_cases q : v ≤ 0
  · rw [if_pos q, gd_t (by decide), bz_f (by omega)]
  · rw [if_neg q, a, gd_t (by omega), d]
    by_cases y : v < n
    · rw [if_pos y, gd_t (by decide), bz_t (by omega)]
    · rw [if_neg y, gd_t (by decide), bz_f (by omega)]
theorem ifE (x y : Int) (A B : mR) : (if lcmp64 x y = 0 then A else B) = if x = y then A else B := by
  by_cases q : x = y
  · rw [if_pos q, if_pos ((Z_cmpE x y).mpr q)]
  · rw [if_neg q, if_neg fun w => q ((Z_cmpE x y).mp w)]
theorem ifL (x y : Int) (A B : mR) : (if lcmp64 x y < 0 then A else B) = if x < y then A else B := by
  by_cases q : x < y
  · rw [if_pos q, if_pos ((Z_cmpL x y).mpr q)]
  · rw [if_neg q, if_neg fun w => q ((Z_cmpL x y).mp w)]
theorem wL_len {a c : Int} (a0 : 0 ≤ a) (a1 : a ≤ 1152921504606846976) (c0 : 0 ≤ c) (c1 : c ≤ 99) : wL (wL (a + wL (c * 16384)) + 1) = a + 16384 * c + 1 := by
  rw [Z_wL (z := c * 16384) (by omega), Z_wL (z := a + c * 16384) (by omega), Z_wL (by omega)]
  omega
/-- the best one among the lines below l -/
def cinv (ov : Int → Int → Int) (ct len : Int → Int) (v l best : Int) : Prop := (best = 0 → ∀ l', 0 ≤ l' → l' < l → ov v l' ≠ 0 → len (ov v l') + 16384 * ct l' + 1 ≠ len v) ∧ (best ≠ 0 → (∃ l', 0 ≤ l' ∧ l' < l ∧ ov v l' = best ∧ len best + 16384 * ct l' + 1 = len v) ∧ ∀ l', 0 ≤ l' → l' < l → ov v l' ≠ 0 → len (ov v l') + 16384 * ct l' + 1 = len v → best ≤ ov v l')
theorem cinv_same {ov : Int → Int → Int} {ct len : Int → Int} {v l best : Int} (I : cinv ov ct len v l best) (h : ov v l = 0 ∨ len (ov v l) + 16384 * ct l + 1 ≠ len v ∨ (best ≠ 0 ∧ best ≤ ov v l)) : cinv ov ct len v (l + 1) best := by
  refine ⟨fun z l' h0 h1 n => ?_, fun z => ?_⟩
  · by_cases q : l' = l
    · subst q
      rcases h with h | h | h
      · exact absurd h n
      · exact h
      · exact absurd z h.1
    · exact I.1 z l' h0 (by omega) n
  · obtain ⟨⟨l', a, b, c⟩, d⟩ := I.2 z
    refine ⟨⟨l', a, by omega, c⟩, fun t h0 h1 n e => ?_⟩
    by_cases q : t = l
    · subst q
      rcases h with h | h | h
      · exact absurd h n
      · exact absurd e h
      · exact h.2
    · exact d t h0 (by omega) n e
theorem cinv_new {ov : Int → Int → Int} {ct len : Int → Int} {v l best : Int} (l0 : 0 ≤ l) (I : cinv ov ct len v l best) (n : ov v l ≠ 0) (e : len (ov v l) + 16384 * ct l + 1 = len v) (h : best = 0 ∨ ov v l < best) : cinv ov ct len v (l + 1) (ov v l) := by
  refine ⟨fun z => absurd z n, fun _ => ⟨⟨l, l0, by omega, rfl, e⟩, fun t h0 h1 n' e' => ?_⟩⟩
  by_cases q : t = l
  · rw [q]; exact Int.le_refl _
  · by_cases z : best = 0
    · exact absurd e' (I.1 z t h0 (by omega) n')
    · have := (I.2 z).2 t h0 (by omega) n' e'
      omega
theorem D_cn5 {n lc : Int} {ov : Int → Int → Int} {ct : Int → Int} (K : ntok n lc ov ct) {tn : Nat} {x w : Int} {h : mH} (R : rwo h w n) (Nt : nto h tn x n lc ov ct) {v : Int} (v0 : 1 ≤ v) (v1 : v < n) (lb : ∀ u, 1 ≤ u → u < n → 0 ≤ h.M (w + 1) u ∧ h.M (w + 1) u ≤ 1152921504606846976) : ∀ (m : Nat) (l best : Int) (u5 : mV), l + m = lc → 0 ≤ l → (best = 0 ∨ (1 ≤ best ∧ best < n)) → cinv ov ct (h.M (w + 1)) v l best → ∃ best', Rn kRw_chooseNext 5 [vO 6 w, vR tn x, vI v, vI best, vI l, u5] [] h = some (none, (h.set (w + 2) v best').set (w + 3) v (if best' = 0 then 0 else h.M (w + 3) best')) ∧ (best' = 0 ∨ (1 ≤ best' ∧ best' < n)) ∧ cinv ov ct (h.M (w + 1)) v lc best' := by
  obtain ⟨k0, k1, k2, k3, k4⟩ := K
  obtain ⟨x0, n1, n2, n3⟩ := Nt
  have R' := R
  obtain ⟨⟨a, b, c⟩, ⟨d, f, g⟩, i, j, k⟩ := R'
  intro m
  induction m with
  | zero =>
    intro l best u5 e l0 rb I
    have : l = lc := by omega
    subst this
    refine ⟨best, ?_, rb, I⟩
    have R2 : rwo (h.set (w + 2) v best) w n := R.cg (fun k => Z_Mn (by omega)) (fun _ _ _ => rfl)
    rw [E_Rw_chooseNext_5, gd_t x0, n1, Z_bI, if_neg (by omega), b, f, gd_t (by omega), Z_hl, C_rwHas R2, Z_bI, R2.1.2.2, R2.2.1.2.2]
    rcases rb with q | q
    · rw [bz_f (by omega), if_pos rfl, gd_t (by omega), Z_hl, if_pos q]
    · rw [bz_t (by omega), if_neg (by decide), gd_t (by omega), gd_t (by omega), Z_hl, if_neg (by omega), Z_Mn (b := w + 3) (by omega)]
  | succ m ih =>
    intro l best u5 e l0 rb I
    have ul := k2 v l v0 v1 l0 (by omega)
    have cl := k3 l l0 (by omega)
    rw [E_Rw_chooseNext_5, gd_t x0, n1, Z_bI, if_pos (by omega), gd_t x0, n2 v l v0 v1 l0 (by omega), Z_bI, C_rwHas R, Z_bI, Z_wI (z := l + 1) (by omega)]
    by_cases q : ov v l = 0
    · rw [bz_f (by omega), if_pos rfl]
      exact ih (l + 1) best _ (by omega) (by omega) rb (cinv_same I (Or.inl q))
    · have bu := lb (ov v l) (by omega) (by omega)
      have wl := wL_len bu.1 bu.2 cl.1 cl.2
      rw [bz_t (by omega), if_neg (by decide), a, d, gd_t (by omega), gd_t x0, n3 l l0 (by omega), Z_bI, a, d, gd_t (by omega), wl, ifE]
      by_cases eq : h.M (w + 1) (ov v l) + 16384 * ct l + 1 = h.M (w + 1) v
      · rw [if_pos eq]
        by_cases q1 : best = 0
        · rw [if_pos q1]
          exact ih (l + 1) (ov v l) _ (by omega) (by omega) (by omega) (cinv_new l0 I q eq (Or.inl q1))
        · rw [if_neg q1]
          by_cases q2 : ov v l < best
          · rw [if_pos q2]
            exact ih (l + 1) (ov v l) _ (by omega) (by omega) (by omega) (cinv_new l0 I q eq (Or.inr q2))
          · rw [if_neg q2]
            exact ih (l + 1) best _ (by omega) (by omega) rb (cinv_same I (Or.inr (Or.inr ⟨q1, by omega⟩)))
      · rw [if_neg eq]
        have := ih (l + 1) best (vI (ov v l)) (by omega) (by omega) rb (cinv_same I (Or.inr (Or.inl eq)))
        by_cases q1 : best = 0
        · rw [if_pos q1]; exact this
        · rw [if_neg q1]
          by_cases q2 : ov v l < best
          · rw [if_pos q2]; exact this
          · rw [if_neg q2]; exact this
/-- the heap's object, with the lengths at w + 1 -/
theorem hpo.la {h : mH} {hp nd pc la s cap n : Int} (P : hpo h hp nd pc la s cap n) (k v : Int) : hpo (h.set la k v) hp nd pc la s cap n := by
  obtain ⟨a, b, c, d, e, f, g, i, j, k', l, m, o, p, q, r, t⟩ := P
  have z : ∀ t', (h.set la k v).M hp t' = h.M hp t' := fun t' => Z_Mn (Or.inl t.sy)
  exact ⟨(z 0).trans a, (z 1).trans b, (z 2).trans c, d, e, f, g, i, j, k', l, m, o, p, q, r, t⟩
def WFg (hp w : Int) : Int → Int → Prop := fun b k => (b = hp ∧ k = 2) ∨ b = hp + 1 ∨ b = hp + 2 ∨ b = w + 1
theorem WFg_n {hp w b k : Int} (y : WFg hp w b k) : WFn hp w b k := by
  unfold WFg at y
  unfold WFn
  omega
theorem D_go4 {n lc : Int} {ov : Int → Int → Int} {ct : Int → Int} (K : ntok n lc ov ct) {tn : Nat} {x w hp : Int} (p0 : 0 < hp) (o : hp + 2 < w) {h0 : mH} (hN : ∀ h', Ew (WFn hp w) h0 h' → nto h' tn x n lc ov ct) {v : Int} (v0 : 1 ≤ v) (v1 : v < n) : ∀ (m : Nat) (l : Int) (u5 u6 u7 : mV) (h : mH) (s : Int), l + m = lc → 0 ≤ l → Ew (WFn hp w) h0 h → rwo h w n → hpo h hp (hp + 1) (hp + 2) (w + 1) s 10000 n → wfh (h.M (hp + 1)) (h.M (hp + 2)) s 10000 n → ordh (h.M (hp + 1)) (h.M (w + 1)) s → (∀ u, 1 ≤ u → u < n → 0 ≤ h.M (w + 1) u ∧ h.M (w + 1) u ≤ 1152921504606846976) → ∃ h' s', Rn kRw_goOn 4 [vO 6 w, vR tn x, vR 3 hp, vI v, vI l, u5, u6, u7] [] h = some (none, h') ∧ Ew (WFg hp w) h h' ∧ hpo h' hp (hp + 1) (hp + 2) (w + 1) s' 10000 n ∧ wfh (h'.M (hp + 1)) (h'.M (hp + 2)) s' 10000 n ∧ ordh (h'.M (hp + 1)) (h'.M (w + 1)) s' ∧ (∀ u, 1 ≤ u → u < n → h'.M (w + 1) u ≤ h.M (w + 1) u ∧ (h'.M (w + 1) u = h.M (w + 1) u ∨ ∃ l', l ≤ l' ∧ l' < lc ∧ ov v l' = u ∧ h'.M (w + 1) u = h.M (w + 1) v + 16384 * ct l' + 1)) ∧ (∀ l', l ≤ l' → l' < lc → ov v l' ≠ 0 → h'.M (w + 1) (ov v l') ≤ h.M (w + 1) v + 16384 * ct l' + 1) ∧ ∀ u, 1 ≤ u → u < n → (h'.M (hp + 2) u ≠ 0 ↔ (h.M (hp + 2) u ≠ 0 ∨ h'.M (w + 1) u ≠ h.M (w + 1) u)) := by
  have K' := K
  obtain ⟨k0, k1, k2, k3, k4⟩ := K'
  intro m
  induction m with
  | zero =>
    intro l u5 u6 u7 h s e l0 x0 R P W O lb
    obtain ⟨nx, n1, n2, n3⟩ := hN h x0
    exact ⟨h, s, by rw [E_Rw_goOn_4, gd_t nx, n1, Z_bI, if_neg (by omega)], Ew.rf _ _, P, W, O, fun u _ _ => ⟨Int.le_refl _, Or.inl rfl⟩, fun l' a b => by omega, fun u _ _ => ⟨Or.inl, fun q => by
      rcases q with q | q
      · exact q
      · exact absurd rfl q⟩⟩
  | succ m ih =>
    intro l u5 u6 u7 h s e l0 x0 R P W O lb
    obtain ⟨nx, n1, n2, n3⟩ := hN h x0
    have R' := R
    obtain ⟨⟨a, b, c⟩, ⟨d, f, g⟩, i, j, k⟩ := R'
    have ul := k2 v l v0 v1 l0 (by omega)
    have cl := k3 l l0 (by omega)
    have bv := lb v v0 v1
    have wl := wL_len bv.1 bv.2 cl.1 cl.2
    rw [E_Rw_goOn_4, gd_t nx, n1, Z_bI, if_pos (by omega), gd_t nx, n2 v l v0 v1 l0 (by omega), Z_bI, a, d, gd_t (by omega), gd_t nx, n3 l l0 (by omega), Z_bI, C_rwHas R, Z_bI, a, d, wl, Z_wI (z := l + 1) (by omega)]
    -- no change at this line
    have same : (ov v l = 0 ∨ h.M (w + 1) (ov v l) ≤ h.M (w + 1) v + 16384 * ct l + 1) → ∀ u5 u6 u7 : mV, ∃ h' s', Rn kRw_goOn 4 [vO 6 w, vR tn x, vR 3 hp, vI v, vI (l + 1), u5, u6, u7] [] h = some (none, h') ∧ Ew (WFg hp w) h h' ∧ hpo h' hp (hp + 1) (hp + 2) (w + 1) s' 10000 n ∧ wfh (h'.M (hp + 1)) (h'.M (hp + 2)) s' 10000 n ∧ ordh (h'.M (hp + 1)) (h'.M (w + 1)) s' ∧ (∀ u, 1 ≤ u → u < n → h'.M (w + 1) u ≤ h.M (w + 1) u ∧ (h'.M (w + 1) u = h.M (w + 1) u ∨ ∃ l', l ≤ l' ∧ l' < lc ∧ ov v l' = u ∧ h'.M (w + 1) u = h.M (w + 1) v + 16384 * ct l' + 1)) ∧ (∀ l', l ≤ l' → l' < lc → ov v l' ≠ 0 → h'.M (w + 1) (ov v l') ≤ h.M (w + 1) v + 16384 * ct l' + 1) ∧ ∀ u, 1 ≤ u → u < n → (h'.M (hp + 2) u ≠ 0 ↔ (h.M (hp + 2) u ≠ 0 ∨ h'.M (w + 1) u ≠ h.M (w + 1) u)) := by
      intro hs u5 u6 u7
      obtain ⟨h', s', e1, x1, P1, W1, O1, A1, B1, C1⟩ := ih (l + 1) u5 u6 u7 h s (by omega) (by omega) x0 R P W O lb
      refine ⟨h', s', e1, x1, P1, W1, O1, fun u u0 u1 => ⟨(A1 u u0 u1).1, ?_⟩, fun l' a b n' => ?_, C1⟩
      · rcases (A1 u u0 u1).2 with q | ⟨l', q1, q2⟩
        · exact Or.inl q
        · exact Or.inr ⟨l', by omega, q2⟩
      · by_cases q : l' = l
        · subst q
          rcases hs with y | y
          · exact absurd y n'
          · have := (A1 (ov v l') (by omega) (by omega)).1
            omega
        · exact B1 l' (by omega) b n'
    by_cases q : ov v l = 0
    · rw [bz_f (by omega), if_pos rfl]
      exact same (Or.inl q) _ _ _
    · obtain ⟨u, hu⟩ : ∃ u, u = ov v l := ⟨_, rfl⟩
      obtain ⟨L, hL⟩ : ∃ L, L = h.M (w + 1) v + 16384 * ct l + 1 := ⟨_, rfl⟩
      rw [bz_t (by omega), if_neg (by decide), gd_t (by omega), ← hL, ifL, ← hu]
      rw [← hu] at ul q
      by_cases lt : L < h.M (w + 1) u
      · have uv : u ≠ v := fun z => by rw [z] at lt; omega
        have P1 : hpo (h.set (w + 1) u L) hp (hp + 1) (hp + 2) (w + 1) s 10000 n := P.la u L
        have en : (h.set (w + 1) u L).M (hp + 1) = h.M (hp + 1) := funext fun t => Z_Mn (by omega)
        have ec : (h.set (w + 1) u L).M (hp + 2) = h.M (hp + 2) := funext fun t => Z_Mn (by omega)
        have eL : ∀ t, (h.set (w + 1) u L).M (w + 1) t = if t = u then L else h.M (w + 1) t := fun t => by
          rw [Z_Ms]
          by_cases z : t = u
          · rw [if_pos ⟨rfl, z⟩, if_pos z]
          · rw [if_neg fun y => z y.2, if_neg z]
        obtain ⟨h2, s2, e2, x2, P2, W2, O2, s1, C2⟩ := D_put (len := (h.set (w + 1) u L).M (w + 1)) (lo := h.M (w + 1)) P1 (fun _ _ _ => rfl) (by rw [en, ec]; exact W) (by rw [en]; exact O) (x := u) (by omega) (by omega) (fun t tn => by rw [eL, if_neg tn]) (fun _ => by rw [eL, if_pos rfl]; omega)
        have y2 : Ew (WFg hp w) h h2 := (Ew.st (W := WFg hp w) h _ (by unfold WFg; omega)).tr (x2.mono fun p t y => by unfold WNP at y; unfold WFg; omega)
        have la2 : ∀ t, h2.M (w + 1) t = if t = u then L else h.M (w + 1) t := fun t => (x2.2 (w + 1) t fun y => by unfold WNP at y; omega).trans (eL t)
        have R2 : rwo h2 w n := R.ew o (y2.mono fun _ _ => WFg_n)
        have O2' : ordh (h2.M (hp + 1)) (h2.M (w + 1)) s2 := by
          have : h2.M (w + 1) = (h.set (w + 1) u L).M (w + 1) := funext fun t => by rw [la2, eL]
          rw [this]
          exact O2
        obtain ⟨h', s', e3, x3, P3, W3, O3, A3, B3, C3⟩ := ih (l + 1) (vI u) (vL L) vU h2 s2 (by omega) (by omega) (x0.tr (y2.mono fun _ _ => WFg_n)) R2 P2 W2 O2' (fun t t0 t1 => by
          rw [la2]
          have := lb t t0 t1
          have := lb u (by omega) (by omega)
          split <;> omega)
        have lv : h2.M (w + 1) v = h.M (w + 1) v := by rw [la2, if_neg (fun z => uv z.symm)]
        rw [lv] at A3 B3
        refine ⟨h', s', ?_, y2.tr x3, P3, W3, O3, fun t t0 t1 => ?_, fun l' a b n' => ?_, fun t t0 t1 => ?_⟩
        · have R1 : rwo (h.set (w + 1) u L) w n := R.cg (fun k => Z_Mn (by omega)) (fun _ _ _ => rfl)
          rw [if_pos lt, gd_t (by omega), Z_hl, gd_t (by omega), R1.1.1, e2, Z_bV]
          exact e3
        · have h1 := A3 t t0 t1
          rw [la2] at h1
          by_cases z : t = u
          · rw [if_pos z] at h1
            rw [z] at h1 ⊢
            refine ⟨by omega, ?_⟩
            rcases h1.2 with y | ⟨l', y1, y2⟩
            · exact Or.inr ⟨l, Int.le_refl _, by omega, hu.symm, by rw [y]; exact hL⟩
            · exact Or.inr ⟨l', by omega, y2⟩
          · rw [if_neg z] at h1
            refine ⟨h1.1, ?_⟩
            rcases h1.2 with y | ⟨l', y1, y2⟩
            · exact Or.inl y
            · exact Or.inr ⟨l', by omega, y2⟩
        · by_cases z : l' = l
          · rw [z, ← hu]
            have h1 := (A3 u (by omega) (by omega)).1
            rw [la2, if_pos rfl] at h1
            omega
          · exact B3 l' (by omega) b n'
        · rw [C3 t t0 t1, C2 t, ec, la2]
          by_cases z : t = u
          · rw [if_pos z, z]
            constructor
            · intro _
              right
              have h1 := (A3 u (by omega) (by omega)).1
              rw [la2, if_pos rfl] at h1
              omega
            · intro _
              exact Or.inl (Or.inr rfl)
          · rw [if_neg z]
            constructor
            · rintro ((y | y) | y)
              · exact Or.inl y
              · exact absurd y z
              · exact Or.inr y
            · rintro (y | y)
              · exact Or.inl (Or.inl y)
              · exact Or.inr y
      · rw [if_neg lt]
        exact same (Or.inr (by rw [← hu]; omega)) _ _ _
