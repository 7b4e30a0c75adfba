/-! THE PURE PART, the class's Rows: made, filled, what is known -/
theorem D_fill {a v : Int} (a0 : a ≠ 0) {n : Int} (n1 : n ≤ 20000) : ∀ (m : Nat) (k : Int) (h : mH), k + m = n → 0 ≤ k → h.N a = n → ∃ h', Rn kJ_fill 1 [vR 101 a, vL v, vU, vI k, vI n] [] h = some (none, h') ∧ Ew (fun b _ => b = a) h h' ∧ (∀ j, k ≤ j → j < n → h'.M a j = v) ∧ ∀ j, j < k → h'.M a j = h.M a j := by
  intro m
  induction m with
  | zero =>
    intro k h e k0 hN
    exact ⟨h, by rw [E_J_fill_1, if_neg (by omega)], Ew.rf _ _, fun j j0 j1 => by omega, fun _ _ => rfl⟩
  | succ m ih =>
    intro k h e k0 hN
    have x1 : Ew (fun b _ => b = a) h (h.set a k v) := Ew.st (W := fun b _ => b = a) h _ rfl
    obtain ⟨h', e1, x2, f1, f2⟩ := ih (k + 1) (h.set a k v) (by omega) (by omega) hN
    refine ⟨h', ?_, x1.tr x2, fun j j0 j1 => ?_, fun j j1 => ?_⟩
    · rw [E_J_fill_1, if_pos (by omega), hN, gd_t (by omega), Z_hl, Z_wI (by omega)]
      exact e1
    · by_cases z : j = k
      · rw [z, f2 k (by omega), Z_Mt]
      · exact f1 j (by omega) j1
    · rw [f2 j (by omega), Z_Mn (by omega)]
theorem C_fill {a v : Int} (a0 : a ≠ 0) {n : Int} (n0 : 0 ≤ n) (n1 : n ≤ 20000) {h : mH} (hN : h.N a = n) : ∃ h', Cl kJ_fill [vR 101 a, vL v] h = some (none, h') ∧ Ew (fun b _ => b = a) h h' ∧ ∀ j, 0 ≤ j → j < n → h'.M a j = v := by
  obtain ⟨h', e, x, f, _⟩ := D_fill (v := v) a0 n1 n.toNat 0 h (by omega) (by omega) hN
  exact ⟨h', by rw [E_J_fill, gd_t a0, hN]; exact e, x, f⟩
theorem D_rwInit {w n : Int} {h : mH} (hw : (h.cnt : Int) = w) (w0 : 56 < w) (n0 : 1 ≤ n) (n1 : n ≤ 10000) : ∃ h', Cl kRw_init [vO 6 w, vI n] h = some (none, h') ∧ h'.cnt = h.cnt + 3 ∧ h'.sl = h.sl + 3 * n.toNat ∧ h'.X = h.X ∧ (∀ b k, b < w → h'.M b k = h.M b k) ∧ (∀ b, b ≤ w → h'.N b = h.N b) ∧ rwo h' w n ∧ ∀ u, 1 ≤ u → u < n → h'.M (w + 1) u = 1152921504606846976 ∧ h'.M (w + 2) u = 0 ∧ h'.M (w + 3) u = 0 := by
  obtain ⟨hA, eA⟩ : ∃ u, u = ((h.new 101 n).set w 0 (h.top)).new 100 n := ⟨_, rfl⟩
  obtain ⟨hB, eB⟩ : ∃ u, u = ((hA.set w 1 (((h.new 101 n).set w 0 (h.top)).top)).new 100 n).set w 2 ((hA.set w 1 (((h.new 101 n).set w 0 (h.top)).top)).top) := ⟨_, rfl⟩
  have cB : hB.cnt = h.cnt + 3 := by rw [eB, eA]; rfl
  have sB : hB.sl = h.sl + 3 * n.toNat := by
    rw [eB, eA]
    show h.sl + n.toNat + n.toNat + n.toNat = _
    omega
  have XB : hB.X = h.X := by rw [eB, eA]; rfl
  have MB : ∀ b k, hB.M b k = if b = w ∧ k = 2 then w + 3 else if b = w ∧ k = 1 then w + 2 else if b = w ∧ k = 0 then w + 1 else if b = w + 1 ∨ b = w + 2 ∨ b = w + 3 then 0 else h.M b k := by
    intro b k
    rw [eB, eA]
    simp only [Z_Ms, Z_Mw, Z_ts, Z_tw, Z_top, Z_cs, Z_cw]
    (repeat' split)
    all_goals first | omega | rfl
  have NB : ∀ b, hB.N b = if b = w + 1 ∨ b = w + 2 ∨ b = w + 3 then n else h.N b := by
    intro b
    rw [eB, eA]
    simp only [Z_Nw, Z_Ns, Z_ts, Z_tw, Z_top, Z_cs, Z_cw]
    (repeat' split)
    all_goals first | omega | rfl
  obtain ⟨h1, e1, x1, f1⟩ := C_fill (a := w + 1) (v := 1152921504606846976) (by omega) (by omega) (by omega) (h := hB) (n := n) (by rw [NB, if_pos (Or.inl rfl)])
  have m0 : hB.M w 0 = w + 1 := by rw [MB, if_neg (by omega), if_neg (by omega), if_pos ⟨rfl, rfl⟩]
  have o1 : ∀ b k, b ≠ w + 1 → h1.M b k = hB.M b k := fun b k nb => x1.2 b k fun y => nb y
  refine ⟨h1, ?_, by rw [x1.cnt, cB], by rw [x1.sl, sB], by rw [x1.X, XB], fun b k hb => ?_, fun b hb => ?_, ⟨⟨?_, ?_, ?_⟩, ⟨?_, ?_, ?_⟩, w0, n0, n1⟩, fun u u0 u1 => ⟨f1 u (by omega) u1, ?_, ?_⟩⟩
  · rw [E_Rw_init, gd_t (by omega), Z_hl, Z_hl, E_Rw_init_1, gd_t (by omega), Z_hl, Z_hl, ← eA, E_Rw_init_2, gd_t (by omega), Z_hl, Z_hl, ← eB, E_Rw_init_3, m0, e1, Z_bV, E_Rw_init_4]
  · rw [o1 b k (by omega), MB, if_neg (by omega), if_neg (by omega), if_neg (by omega), if_neg (by omega)]
  · rw [x1.N, NB, if_neg (by omega)]
  · rw [o1 _ _ (by omega)]; exact m0
  · rw [o1 _ _ (by omega), MB, if_neg (by omega), if_pos ⟨rfl, rfl⟩]
  · rw [o1 _ _ (by omega), MB, if_pos ⟨rfl, rfl⟩]
  · rw [x1.N, NB, if_pos (by omega)]
  · rw [x1.N, NB, if_pos (by omega)]
  · rw [x1.N, NB, if_pos (by omega)]
  · rw [o1 _ _ (by omega), MB, if_neg (by omega), if_neg (by omega), if_neg (by omega), if_pos (by omega)]
  · rw [o1 _ _ (by omega), MB, if_neg (by omega), if_neg (by omega), if_neg (by omega), if_pos (by omega)]
theorem C_know {h : mH} {w n : Int} (R : rwo h w n) {v : Int} (v0 : 1 ≤ v) (v1 : v < n) : Cl kRw_know [vO 6 w, vI v] h = some (none, (h.set (w + 1) v 0).set (w + 3) v v) := by
  have R' := R
  obtain ⟨⟨a, b, c⟩, ⟨d, f, g⟩, i, j, k⟩ := R'
  have c1 : (h.set (w + 1) v 0).M w 2 = w + 3 := by rw [Z_Mn (by omega)]; exact c
  rw [E_Rw_know, C_rwHas R, Z_bI, bz_t ⟨v0, v1⟩, if_neg (by decide), a, d, gd_t (by omega), Z_hl, c1, Z_Ns, g, gd_t (by omega), Z_hl]
/-- what is known so far, and nothing found yet -/
def ksr (h : mH) (w n : Int) (K : Int → Prop) : Prop := ∀ u, 1 ≤ u → u < n → (K u → h.M (w + 1) u = 0 ∧ h.M (w + 3) u = u) ∧ (¬ K u → h.M (w + 1) u = 1152921504606846976 ∧ h.M (w + 3) u = 0 ∧ h.M (w + 2) u = 0)
theorem ksr.cg {h : mH} {w n : Int} {K K' : Int → Prop} (S : ksr h w n K) (e : ∀ u, 1 ≤ u → u < n → (K' u ↔ K u)) : ksr h w n K' := fun u u0 u1 => ⟨fun k => (S u u0 u1).1 ((e u u0 u1).mp k), fun k => (S u u0 u1).2 fun z => k ((e u u0 u1).mpr z)⟩
theorem ksr.know {h : mH} {w n : Int} {K : Int → Prop} (S : ksr h w n K) (v : Int) : ksr ((h.set (w + 1) v 0).set (w + 3) v v) w n (fun u => K u ∨ u = v) := fun u u0 u1 => by
  have e1 : ((h.set (w + 1) v 0).set (w + 3) v v).M (w + 1) u = if u = v then 0 else h.M (w + 1) u := by
    rw [Z_Mn (by omega), Z_Ms]
    by_cases z : u = v
    · rw [if_pos ⟨rfl, z⟩, if_pos z]
    · rw [if_neg (by omega), if_neg z]
  have e2 : ((h.set (w + 1) v 0).set (w + 3) v v).M (w + 2) u = h.M (w + 2) u := by rw [Z_Mn (by omega), Z_Mn (by omega)]
  have e3 : ((h.set (w + 1) v 0).set (w + 3) v v).M (w + 3) u = if u = v then v else h.M (w + 3) u := by
    rw [Z_Ms]
    by_cases z : u = v
    · rw [if_pos ⟨rfl, z⟩, if_pos z]
    · rw [if_neg (by omega), if_neg z, Z_Mn (by omega)]
  rw [e1, e2, e3]
  by_cases z : u = v
  · rw [if_pos z, if_pos z]
    exact ⟨fun _ => ⟨rfl, z.symm⟩, fun k => absurd (Or.inr z) k⟩
  · rw [if_neg z, if_neg z]
    exact ⟨fun k => (S u u0 u1).1 (k.elim id fun t => absurd t z), fun k => (S u u0 u1).2 fun t => k (Or.inl t)⟩
def WKn (w : Int) : Int → Int → Prop := fun b _ => b = w + 1 ∨ b = w + 3
theorem know_ew (h : mH) (w v : Int) : Ew (WKn w) h ((h.set (w + 1) v 0).set (w + 3) v v) := (Ew.st (W := WKn w) h _ (Or.inl rfl)).tr (Ew.st _ _ (Or.inr rfl))
theorem rwo.kn {h h1 : mH} {w n : Int} (R : rwo h w n) (x : Ew (WKn w) h h1) : rwo h1 w n := R.cg (fun k => x.2 w k fun y => by unfold WKn at y; omega) (fun b _ _ => by rw [x.N])
/-- the years of one range -/
theorem D_fr5 {q w : Int} (qw : q + 11 < w) {H : HD} (V : hdv H) {i : Int} (i0 : 0 ≤ i) (i1 : i < H 0 0) {K : Int → Prop} (hp : Int) : ∀ (m : Nat) (y : Int) (h : mH), y + m = H 2 i + 1 → H 1 i ≤ y → chl h q → chd h q H → h.M q 9 = w → rwo h w 10000 → ksr h w 10000 (fun u => K u ∨ (H 1 i ≤ u ∧ u < y)) →
    ∃ h' y', Rn kHd_findRows 5 [vO 2 q, vR 3 hp, vI i, vI y] [] h = Rn kHd_findRows 3 [vO 2 q, vR 3 hp, vI (i + 1), vI y'] [] h' ∧ Ew (WKn w) h h' ∧ ksr h' w 10000 (fun u => K u ∨ (H 1 i ≤ u ∧ u ≤ H 2 i)) := by
  have v0 := V.1
  have vi := V.2.2.2.1 i i0 i1
  intro m
  induction m with
  | zero =>
    intro y h e y0 C D h9 R S
    refine ⟨h, y, ?_, Ew.rf _ _, S.cg fun u _ _ => ⟨fun z => z.elim Or.inl fun t => Or.inr ⟨t.1, by omega⟩, fun z => z.elim Or.inl fun t => Or.inr ⟨t.1, by omega⟩⟩⟩
    rw [E_Hd_findRows_5, C.1.2.1, C.2.2.2.1.2.1, gd_t (by have := C.2.2.2.2.2.2.2; omega), (D.2.1 i).2.1, if_neg (by omega), E_Hd_findRows_8, Z_wI (by omega)]
  | succ m ih =>
    intro y h e y0 C D h9 R S
    have x1 := know_ew h w y
    have C1 : chl ((h.set (w + 1) y 0).set (w + 3) y y) q := C.cg (fun b k z => x1.2 b k fun t => by unfold plc at z; unfold WKn at t; omega) (fun b _ _ => by rw [x1.N])
    have D1 : chd ((h.set (w + 1) y 0).set (w + 3) y y) q H := D.cg fun b k z => x1.2 b k fun t => by unfold WKn at t; omega
    obtain ⟨h', y', e1, x2, S2⟩ := ih (y + 1) _ (by omega) (by omega) C1 D1 ((x1.2 q 9 fun t => by unfold WKn at t; omega).trans h9) (R.kn x1) ((S.know y).cg fun u _ _ => ⟨fun z => z.elim (fun t => Or.inl (Or.inl t)) fun t => by
      by_cases uy : u = y
      · exact Or.inr uy
      · exact Or.inl (Or.inr ⟨t.1, by omega⟩), fun z => z.elim (fun t => t.elim Or.inl fun t => Or.inr ⟨t.1, by omega⟩) fun t => Or.inr ⟨by omega, by omega⟩⟩)
    refine ⟨h', y', ?_, x1.tr x2, S2⟩
    rw [E_Hd_findRows_5, C.1.2.1, C.2.2.2.1.2.1, gd_t (by have := C.2.2.2.2.2.2.2; omega), (D.2.1 i).2.1, if_pos (by omega), E_Hd_findRows_6, h9, gd_t (by have := R.2.2.1; omega), C_know R (by omega) (by omega), Z_bV, E_Hd_findRows_7, Z_wI (by omega)]
    exact e1
theorem D_fr3 {q w : Int} (qw : q + 11 < w) {H : HD} (V : hdv H) (hp : Int) : ∀ (m : Nat) (i : Int) (u3 : mV) (h : mH), i + m = H 0 0 → 0 ≤ i → chl h q → chd h q H → h.M q 9 = w → rwo h w 10000 → ksr h w 10000 (fun u => ∃ j, 0 ≤ j ∧ j < i ∧ H 1 j ≤ u ∧ u ≤ H 2 j) →
    ∃ h' w2 w3, Rn kHd_findRows 3 [vO 2 q, vR 3 hp, vI i, u3] [] h = Rn kHd_findRows 9 [vO 2 q, vR 3 hp, w2, w3] [] h' ∧ Ew (WKn w) h h' ∧ ksr h' w 10000 (srcY H) := by
  have v0 := V.1
  intro m
  induction m with
  | zero =>
    intro i u3 h e i0 C D h9 R S
    exact ⟨h, vI i, u3, by rw [E_Hd_findRows_3, D.1.1, if_neg (by omega)], Ew.rf _ _, S.cg fun u _ _ => ⟨fun ⟨j, a, b, c⟩ => ⟨j, a, by omega, c⟩, fun ⟨j, a, b, c⟩ => ⟨j, a, by omega, c⟩⟩⟩
  | succ m ih =>
    intro i u3 h e i0 C D h9 R S
    have vi := V.2.2.2.1 i i0 (by omega)
    obtain ⟨h1, y', e1, x1, S1⟩ := D_fr5 qw V i0 (by omega) hp (H 2 i + 1 - H 1 i).toNat (H 1 i) h (by omega) (by omega) C D h9 R (S.cg fun u _ _ => ⟨fun z => z.elim id fun t => by omega, fun z => Or.inl z⟩)
    have C1 : chl h1 q := C.cg (fun b k z => x1.2 b k fun t => by unfold plc at z; unfold WKn at t; omega) (fun b _ _ => by rw [x1.N])
    have D1 : chd h1 q H := D.cg fun b k z => x1.2 b k fun t => by unfold WKn at t; omega
    obtain ⟨h2, w2, w3, e2, x2, S2⟩ := ih (i + 1) (vI y') h1 (by omega) (by omega) C1 D1 ((x1.2 q 9 fun t => by unfold WKn at t; omega).trans h9) (R.kn x1) (S1.cg fun u _ _ => ⟨fun ⟨j, a, b, c⟩ => by
      by_cases z : j = i
      · rw [z] at c; exact Or.inr c
      · exact Or.inl ⟨j, a, by omega, c⟩, fun z => z.elim (fun ⟨j, a, b, c⟩ => ⟨j, a, by omega, c⟩) fun c => ⟨i, i0, by omega, c⟩⟩)
    refine ⟨h2, w2, w3, ?_, x1.tr x2, S2⟩
    rw [E_Hd_findRows_3, D.1.1, if_pos (by omega), E_Hd_findRows_4, C.1.1, C.2.2.2.1.1, gd_t (by have := C.2.2.2.2.2.2.2; omega), (D.2.1 i).1, e1]
    exact e2
/-- the months that are known -/
theorem D_fr13 {q w : Int} (qw : q + 11 < w) {H : HD} (V : hdv H) (hp : Int) (u3 : mV) : ∀ (m : Nat) (k : Int) (h : mH), k + m = 13 → 1 ≤ k → chl h q → chd h q H → h.M q 10 = w → rwo h w 13 → ksr h w 13 (fun u => u < k ∧ srcM H u) →
    ∃ h' w2, Rn kHd_findRows 13 [vO 2 q, vR 3 hp, vI k, u3] [] h = Rn kHd_findRows 19 [vO 2 q, vR 3 hp, w2, u3] [] h' ∧ Ew (WKn w) h h' ∧ ksr h' w 13 (srcM H) := by
  intro m
  induction m with
  | zero =>
    intro k h e k0 C D h10 R S
    exact ⟨h, vI k, by rw [E_Hd_findRows_13, if_neg (by omega)], Ew.rf _ _, S.cg fun u _ u1 => ⟨fun z => ⟨by omega, z⟩, fun z => z.2⟩⟩
  | succ m ih =>
    intro k h e k0 C D h10 R S
    have q0 := C.2.2.2.2.2.2.2
    have h01 := V.2.2.2.2.2.2.1
    have yes : srcM H k → ∃ h' w2, Rn kHd_findRows 17 [vO 2 q, vR 3 hp, vI k, u3] [] h = Rn kHd_findRows 19 [vO 2 q, vR 3 hp, w2, u3] [] h' ∧ Ew (WKn w) h h' ∧ ksr h' w 13 (srcM H) := fun sk => by
      have x1 := know_ew h w k
      have C1 : chl ((h.set (w + 1) k 0).set (w + 3) k k) q := C.cg (fun b k z => x1.2 b k fun t => by unfold plc at z; unfold WKn at t; omega) (fun b _ _ => by rw [x1.N])
      have D1 : chd ((h.set (w + 1) k 0).set (w + 3) k k) q H := D.cg fun b k z => x1.2 b k fun t => by unfold WKn at t; omega
      obtain ⟨h', w2, e1, x2, S2⟩ := ih (k + 1) _ (by omega) (by omega) C1 D1 ((x1.2 q 10 fun t => by unfold WKn at t; omega).trans h10) (R.kn x1) ((S.know k).cg fun u _ _ => ⟨fun z => by
        by_cases uk : u = k
        · exact Or.inr uk
        · exact Or.inl ⟨by omega, z.2⟩, fun z => z.elim (fun t => ⟨by omega, t.2⟩) fun t => ⟨by omega, by rw [t]; exact sk⟩⟩)
      refine ⟨h', w2, ?_, x1.tr x2, S2⟩
      rw [E_Hd_findRows_17, h10, gd_t (by have := R.2.2.1; omega), C_know R (by omega) (by omega), Z_bV, E_Hd_findRows_18, Z_wI (by omega)]
      exact e1
    have no : ¬ srcM H k → ∃ h' w2, Rn kHd_findRows 18 [vO 2 q, vR 3 hp, vI k, u3] [] h = Rn kHd_findRows 19 [vO 2 q, vR 3 hp, w2, u3] [] h' ∧ Ew (WKn w) h h' ∧ ksr h' w 13 (srcM H) := fun sk => by
      obtain ⟨h', w2, e1, x2, S2⟩ := ih (k + 1) h (by omega) (by omega) C D h10 R (S.cg fun u _ _ => ⟨fun z => ⟨by
        by_cases uk : u = k
        · rw [uk] at z; exact absurd z.2 sk
        · omega, z.2⟩, fun z => ⟨by omega, z.2⟩⟩)
      refine ⟨h', w2, ?_, x2, S2⟩
      rw [E_Hd_findRows_18, Z_wI (by omega)]
      exact e1
    rw [E_Hd_findRows_13, if_pos (by omega), E_Hd_findRows_14, C.1.2.2.2.2.1, C.2.2.2.2.2.1, gd_t (by omega), (D.2.1 k).2.2.2.2.2.2.2]
    by_cases z : H 10 k = 0
    · rw [if_pos z, E_Hd_findRows_15, D.2.2.2.2]
      have cb0 := cn_b (fun m => H 10 m = 1) 12 1
      by_cases y : cn (fun m => H 10 m = 1) 12 1 = 0
      · have all : ∀ i, 1 ≤ i → i ≤ 12 → H 10 i ≠ 1 := fun i i0 i1 w => by
          have h1 := cn_one (p := fun _ => False) (q := fun y => H 10 y = 1 ∧ y = i) (m := i) (fun z => z) ⟨w, rfl⟩ (fun j n => ⟨fun z => absurd z.2 n, fun z => absurd z id⟩) 12 1 i0 (by omega)
          have h2 := cn_b (fun _ : Int => False) 12 1
          have h3 := cn_add (p := fun y => H 10 y = 1 ∧ y = i) (q := fun y => H 10 y = 1 ∧ y ≠ i) (r := fun y => H 10 y = 1) 12 1 (fun j _ _ => ⟨⟨fun z => by
            by_cases t : j = i
            · exact Or.inl ⟨z, t⟩
            · exact Or.inr ⟨z, t⟩, fun z => z.elim (fun t => t.1) fun t => t.1⟩, fun z => z.2.2 z.1.2⟩)
          have h4 := cn_b (fun y => H 10 y = 1 ∧ y ≠ i) 12 1
          omega
        rw [if_pos y, E_Hd_findRows_16]
        by_cases x : k = 1
        · rw [if_pos x]
          exact yes (Or.inr ⟨all, x⟩)
        · rw [if_neg x]
          exact no fun t => t.elim (fun t => by omega) fun t => x t.2
      · rw [if_neg y]
        refine no fun t => t.elim (fun t => by omega) fun t => y ?_
        exact cn_0 12 1 fun i i0 i1 => t.1 i i0 (by omega)
    · rw [if_neg z]
      exact yes (Or.inl (by have := h01 k; omega))
