/-! THE PURE PART, best rows: what is found, node by node (numbers alone) -/
def edl (lc : Int) (ov : Int → Int → Int) (ct : Int → Int) (a b c : Int) : Prop := ∃ l, 0 ≤ l ∧ l < lc ∧ ov a l = b ∧ ct l = c ∧ b ≠ 0
/-- what a net keeps -/
def ntok (n lc : Int) (ov : Int → Int → Int) (ct : Int → Int) : Prop := 0 ≤ lc ∧ lc ≤ 24 ∧ (∀ y l, 1 ≤ y → y < n → 0 ≤ l → l < lc → 0 ≤ ov y l ∧ ov y l < n) ∧ (∀ l, 0 ≤ l → l < lc → 0 ≤ ct l ∧ ct l ≤ 99) ∧ ∀ a b c, 1 ≤ a → a < n → edl lc ov ct a b c → edl lc ov ct b a c
theorem edl_b {n lc : Int} {ov : Int → Int → Int} {ct : Int → Int} (K : ntok n lc ov ct) {a b c : Int} (a0 : 1 ≤ a) (a1 : a < n) (e : edl lc ov ct a b c) : 1 ≤ b ∧ b < n ∧ 0 ≤ c ∧ c ≤ 99 := by
  obtain ⟨l, l0, l1, e1, e2, e3⟩ := e
  have p := K.2.2.1 a l a0 a1 l0 l1
  have q := K.2.2.2.1 l l0 l1
  rw [e1] at p
  rw [e2] at q
  omega
/-- done with: has a row, waits no more -/
def stl (n : Int) (len : Int → Int) (wt : Int → Prop) (a : Int) : Prop := 1 ≤ a ∧ a < n ∧ len a ≠ 1152921504606846976 ∧ ¬ wt a
def nxp (lc : Int) (ov : Int → Int → Int) (ct : Int → Int) (len nx en : Int → Int) (u : Int) : Prop := (∃ c, edl lc ov ct u (nx u) c ∧ len (nx u) + 16384 * c + 1 = len u) ∧ (∀ b c, edl lc ov ct u b c → len b + 16384 * c + 1 = len u → nx u ≤ b) ∧ en u = en (nx u)
def DJ (n lc : Int) (ov : Int → Int → Int) (ct : Int → Int) (src : Int → Prop) (len nx en : Int → Int) (wt : Int → Prop) (k : Int) : Prop :=
  (∀ u, 1 ≤ u → u < n → 0 ≤ len u ∧ len u ≤ 1152921504606846976 ∧ (len u ≠ 1152921504606846976 → len u % 16384 ≤ k ∧ len u / 16384 ≤ 99 * k)) ∧
  (∀ u, 1 ≤ u → u < n → (len u = 0 ↔ src u)) ∧
  (∀ u, wt u → 1 ≤ u ∧ u < n ∧ len u ≠ 1152921504606846976) ∧
  (∀ a b, stl n len wt a → wt b → len a ≤ len b) ∧
  (∀ a b c, stl n len wt a → edl lc ov ct a b c → len b ≤ len a + 16384 * c + 1) ∧
  (∀ u, 1 ≤ u → u < n → len u ≠ 1152921504606846976 → len u ≠ 0 → ∃ a c, stl n len wt a ∧ edl lc ov ct a u c ∧ len u = len a + 16384 * c + 1) ∧
  (∀ u, stl n len wt u → len u ≠ 0 → nxp lc ov ct len nx en u) ∧
  (∀ u, 1 ≤ u → u < n → len u = 0 → en u = u) ∧
  (∀ u, 1 ≤ u → u < n → len u = 1152921504606846976 → en u = 0 ∧ nx u = 0) ∧
  cn (stl n len wt) (n - 1).toNat 1 = k
/-- what is found at the end -/
def rsp (n lc : Int) (ov : Int → Int → Int) (ct : Int → Int) (src : Int → Prop) (len nx en : Int → Int) : Prop :=
  (∀ u, 1 ≤ u → u < n → 0 ≤ len u ∧ len u ≤ 1152921504606846976 ∧ (len u ≠ 1152921504606846976 → len u % 16384 ≤ n - 1 ∧ len u / 16384 ≤ 99 * (n - 1))) ∧
  (∀ u, 1 ≤ u → u < n → (len u = 0 ↔ src u)) ∧
  (∀ a b c, 1 ≤ a → a < n → len a ≠ 1152921504606846976 → edl lc ov ct a b c → len b ≤ len a + 16384 * c + 1) ∧
  (∀ u, 1 ≤ u → u < n → len u ≠ 1152921504606846976 → len u ≠ 0 → nxp lc ov ct len nx en u) ∧
  (∀ u, 1 ≤ u → u < n → len u = 0 → en u = u) ∧
  ∀ u, 1 ≤ u → u < n → len u = 1152921504606846976 → en u = 0 ∧ nx u = 0
theorem DJ_end {n lc : Int} {ov : Int → Int → Int} {ct : Int → Int} {src : Int → Prop} {len nx en : Int → Int} {wt : Int → Prop} {k : Int} (D : DJ n lc ov ct src len nx en wt k) (n1 : n ≤ 10000) (h : ∀ u, ¬ wt u) : rsp n lc ov ct src len nx en := by
  obtain ⟨d1, d2, d3, d4, d5, d6, d7, d8, d9, d10⟩ := D
  have kb := cn_b (stl n len wt) (n - 1).toNat 1
  have s : ∀ a, 1 ≤ a → a < n → len a ≠ 1152921504606846976 → stl n len wt a := fun a a0 a1 a2 => ⟨a0, a1, a2, h a⟩
  exact ⟨fun u u0 u1 => ⟨(d1 u u0 u1).1, (d1 u u0 u1).2.1, fun q => by have := (d1 u u0 u1).2.2 q; omega⟩, d2, fun a b c a0 a1 a2 e => d5 a b c (s a a0 a1 a2) e, fun u u0 u1 u2 u3 => d7 u (s u u0 u1 u2) u3, d8, d9⟩
/-- one node more -/
theorem DJ_step {n lc : Int} {ov : Int → Int → Int} {ct : Int → Int} (K : ntok n lc ov ct) {src : Int → Prop} {len nx en len' nx' en' : Int → Int} {wt wt' : Int → Prop} {k v : Int} (n1 : n ≤ 10000) (D : DJ n lc ov ct src len nx en wt k) (hv : wt v) (vm : ∀ u, wt u → len v ≤ len u)
    (hx0 : len v = 0 → nx' v = nx v ∧ en' v = en v) (hx1 : len v ≠ 0 → (nx' v = 0 ∧ (∀ b c, edl lc ov ct v b c → len b + 16384 * c + 1 ≠ len v)) ∨ ((∃ c, edl lc ov ct v (nx' v) c ∧ len (nx' v) + 16384 * c + 1 = len v) ∧ (∀ b c, edl lc ov ct v b c → len b + 16384 * c + 1 = len v → nx' v ≤ b) ∧ en' v = en (nx' v)))
    (hxo : ∀ u, u ≠ v → nx' u = nx u ∧ en' u = en u)
    (hl : ∀ u, 1 ≤ u → u < n → len' u ≤ len u ∧ (len' u = len u ∨ ∃ c, edl lc ov ct v u c ∧ len' u = len v + 16384 * c + 1)) (hr : ∀ u c, edl lc ov ct v u c → len' u ≤ len v + 16384 * c + 1)
    (hw : ∀ u, wt' u ↔ (1 ≤ u ∧ u < n ∧ ((wt u ∧ u ≠ v) ∨ len' u ≠ len u))) : DJ n lc ov ct src len' nx' en' wt' (k + 1) := by
  obtain ⟨d1, d2, d3, d4, d5, d6, d7, d8, d9, d10⟩ := D
  obtain ⟨v0, v1, v2⟩ := d3 v hv
  have kb := cn_b (stl n len wt) (n - 1).toNat 1
  have dv := d1 v v0 v1
  have dv3 := dv.2.2 v2
  -- v's own length stays
  have lv : len' v = len v := by
    rcases (hl v v0 v1).2 with q | ⟨c, e, q⟩
    · exact q
    · have := edl_b K v0 v1 e
      have := (hl v v0 v1).1
      omega
  have nwv : ¬ wt' v := fun w => by
    rcases ((hw v).mp w).2.2 with q | q
    · exact q.2 rfl
    · exact q lv
  -- what is done with keeps its length
  have ls : ∀ a, stl n len wt a → len' a = len a := fun a sa => by
    rcases (hl a sa.1 sa.2.1).2 with q | ⟨c, e, q⟩
    · exact q
    · have := edl_b K v0 v1 e
      have h1 := (hl a sa.1 sa.2.1).1
      have h2 := d4 a v sa hv
      omega
  have ss : ∀ a, stl n len wt a → stl n len' wt' a := fun a sa => ⟨sa.1, sa.2.1, by rw [ls a sa]; exact sa.2.2.1, fun w => by
    rcases ((hw a).mp w).2.2 with q | q
    · exact sa.2.2.2 q.1
    · exact q (ls a sa)⟩
  have sv : stl n len' wt' v := ⟨v0, v1, by rw [lv]; exact v2, nwv⟩
  have nsv : ¬ stl n len wt v := fun w => w.2.2.2 hv
  -- who is done with now: those before, and v
  have si : ∀ a, stl n len' wt' a → a = v ∨ stl n len wt a := fun a sa => by
    by_cases q : a = v
    · exact Or.inl q
    · right
      have e : len' a = len a := by
        by_cases z : len' a = len a
        · exact z
        · exact absurd ((hw a).mpr ⟨sa.1, sa.2.1, Or.inr z⟩) sa.2.2.2
      exact ⟨sa.1, sa.2.1, by rw [← e]; exact sa.2.2.1, fun w => sa.2.2.2 ((hw a).mpr ⟨sa.1, sa.2.1, Or.inl ⟨w, q⟩⟩)⟩
  -- whoever isn't done with is no nearer than v
  have far : ∀ a, 1 ≤ a → a < n → ¬ stl n len' wt' a → len v ≤ len' a ∧ len v ≤ len a := fun a a0 a1 na => by
    have ba := d1 a a0 a1
    have la : len v ≤ len a := by
      by_cases z : len a = 1152921504606846976
      · omega
      · by_cases y : wt a
        · exact vm a y
        · exact absurd (ss a ⟨a0, a1, z, y⟩) na
    rcases (hl a a0 a1).2 with q | ⟨c, e, q⟩
    · omega
    · have := edl_b K v0 v1 e
      omega
  have sle : ∀ a, stl n len' wt' a → len' a ≤ len v := fun a sa => by
    rcases si a sa with q | q
    · rw [q, lv]; exact Int.le_refl _
    · rw [ls a q]; exact d4 a v q hv
  refine ⟨fun u u0 u1 => ?_, fun u u0 u1 => ?_, fun u w => ?_, fun a b sa wb => ?_, fun a b c sa e => ?_, fun u u0 u1 u2 u3 => ?_, fun u su u3 => ?_, fun u u0 u1 u2 => ?_, fun u u0 u1 u2 => ?_, ?_⟩
  · obtain ⟨b1, b2, b3⟩ := d1 u u0 u1
    rcases (hl u u0 u1).2 with q | ⟨c, e, q⟩
    · rw [q]
      exact ⟨b1, b2, fun z => by have := b3 z; omega⟩
    · have := edl_b K v0 v1 e
      have h1 := (hl u u0 u1).1
      refine ⟨by omega, by omega, fun _ => ?_⟩
      omega
  · have b := d1 u u0 u1
    rw [← d2 u u0 u1]
    rcases (hl u u0 u1).2 with q | ⟨c, e, q⟩
    · rw [q]
    · have := edl_b K v0 v1 e
      have h1 := (hl u u0 u1).1
      omega
  · obtain ⟨w0, w1, w2⟩ := (hw u).mp w
    refine ⟨w0, w1, ?_⟩
    rcases w2 with q | q
    · have := (d3 u q.1).2.2
      have := (hl u w0 w1).1
      have := (d1 u w0 w1).2.1
      omega
    · have := (hl u w0 w1).1
      have := (d1 u w0 w1).2.1
      omega
  · have wb' := (hw b).mp wb
    have h1 := far b wb'.1 wb'.2.1 fun s => s.2.2.2 wb
    have h2 := sle a sa
    omega
  · rcases si a sa with q | q
    · rw [q] at e ⊢
      rw [lv]
      exact hr b c e
    · rw [ls a q]
      have h1 := d5 a b c q e
      have eb := edl_b K sa.1 sa.2.1 e
      have h2 := (hl b eb.1 eb.2.1).1
      omega
  · rcases (hl u u0 u1).2 with q | ⟨c, e, q⟩
    · rw [q] at u2 u3 ⊢
      obtain ⟨a, c, sa, e, h1⟩ := d6 u u0 u1 u2 u3
      exact ⟨a, c, ss a sa, e, by rw [ls a sa]; exact h1⟩
    · exact ⟨v, c, sv, e, by rw [lv]; exact q⟩
  · -- the next one of a node that is done with
    have core : ∀ u, stl n len' wt' u → len' u ≠ 0 → (∃ c, edl lc ov ct u (nx' u) c ∧ len (nx' u) + 16384 * c + 1 = len u) → (∀ b c, edl lc ov ct u b c → len b + 16384 * c + 1 = len u → nx' u ≤ b) → en' u = en (nx' u) → len' u = len u → nxp lc ov ct len' nx' en' u := by
      intro u su u3 h1 h2 h3 lu
      obtain ⟨c, e, q⟩ := h1
      have eb := edl_b K su.1 su.2.1 e
      have lb := (d1 (nx' u) eb.1 eb.2.1)
      have lu2 := sle u su
      have bs : stl n len' wt' (nx' u) := by
        by_cases z : stl n len' wt' (nx' u)
        · exact z
        · have := far (nx' u) eb.1 eb.2.1 z
          omega
      have nv : nx' u ≠ v := fun z => by
        rw [z] at q
        omega
      have bo : stl n len wt (nx' u) := by
        rcases si _ bs with z | z
        · exact absurd z nv
        · exact z
      refine ⟨⟨c, e, by rw [ls _ bo, lu]; exact q⟩, fun b c' e' q' => ?_, by rw [h3, (hxo _ nv).2]⟩
      have eb' := edl_b K su.1 su.2.1 e'
      by_cases z : stl n len' wt' b
      · have lb' : len' b = len b := by
          rcases si b z with y | y
          · rw [y]; exact lv
          · exact ls b y
        exact h2 b c' e' (by rw [← lb', ← lu]; exact q')
      · have := far b eb'.1 eb'.2.1 z
        omega
    rcases si u su with q | q
    · rw [q] at u3 su ⊢
      rw [lv] at u3
      rcases hx1 u3 with ⟨_, no⟩ | ⟨h1, h2, h3⟩
      · exfalso
        obtain ⟨a, c, sa, e, h1⟩ := d6 v v0 v1 v2 u3
        exact no a c (K.2.2.2.2 a v c sa.1 sa.2.1 e) h1.symm
      · exact core v su (by rw [lv]; exact u3) h1 h2 h3 lv
    · have nv : u ≠ v := fun z => by rw [z] at q; exact nsv q
      have lu := ls u q
      obtain ⟨h1, h2, h3⟩ := d7 u q (by rw [← lu]; exact u3)
      exact core u su u3 (by rw [(hxo u nv).1]; exact h1) (by rw [(hxo u nv).1]; exact h2) (by rw [(hxo u nv).1, (hxo u nv).2]; exact h3) lu
  · have l0 : len u = 0 := by
      have b := d1 u u0 u1
      rcases (hl u u0 u1).2 with q | ⟨c, e, q⟩
      · omega
      · have := edl_b K v0 v1 e
        omega
    by_cases z : u = v
    · rw [z] at l0 ⊢
      rw [(hx0 l0).2]
      exact d8 v v0 v1 l0
    · rw [(hxo u z).2]
      exact d8 u u0 u1 l0
  · have l0 : len u = 1152921504606846976 := by
      have h1 := (hl u u0 u1).1
      have h2 := (d1 u u0 u1).2.1
      omega
    have z : u ≠ v := fun z => v2 (by rw [← z]; exact l0)
    rw [(hxo u z).1, (hxo u z).2]
    exact d9 u u0 u1 l0
  · rw [← d10]
    exact cn_one nsv sv (fun i ni => ⟨fun s => by
      rcases si i s with q | q
      · exact absurd q ni
      · exact q, ss i⟩) (n - 1).toNat 1 (by omega) (by omega)
