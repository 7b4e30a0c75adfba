/-! THE PURE PART, the class's heap of waiting nodes -/
def wfh (nd pl : Int → Int) (s cap n : Int) : Prop := 0 ≤ s ∧ s ≤ cap ∧ (∀ i, 1 ≤ i → i ≤ s → 1 ≤ nd i ∧ nd i < n ∧ pl (nd i) = i) ∧ ∀ v, 1 ≤ v → v ≤ cap → pl v = 0 ∨ (1 ≤ pl v ∧ pl v ≤ s ∧ nd (pl v) = v)
def ordh (nd len : Int → Int) (s : Int) : Prop := ∀ i, 2 ≤ i → i ≤ s → len (nd (i / 2)) ≤ len (nd i)
theorem upf_s (f : Int → Int) (k v : Int) : upf f k v k = v := if_pos rfl
theorem upf_n (f : Int → Int) {k v i : Int} (h : i ≠ k) : upf f k v i = f i := if_neg h
/-- the node on top has the least length -/
theorem heap_min {nd pl len : Int → Int} {s cap n : Int} (W : wfh nd pl s cap n) (O : ordh nd len s) : ∀ (m : Nat) (i : Int), i ≤ m → 1 ≤ i → i ≤ s → len (nd 1) ≤ len (nd i) := by
  intro m
  induction m with
  | zero => intro i h0 h1 h2; omega
  | succ m ih =>
    intro i h0 h1 h2
    by_cases q : i = 1
    · rw [q]; exact Int.le_refl _
    · have a := ih (i / 2) (by omega) (by omega) (by omega)
      have b := O i (by omega) h2
      omega
/-- where the heap object lies -/
def hpo (h : mH) (hp nd pc la s cap n : Int) : Prop := h.M hp 0 = nd ∧ h.M hp 1 = pc ∧ h.M hp 2 = s ∧ h.N nd = cap + 1 ∧ h.N pc = cap + 1 ∧ h.N la = n ∧ nd ≠ 0 ∧ pc ≠ 0 ∧ la ≠ 0 ∧ n ≤ cap + 1 ∧ cap ≤ 20000 ∧ ne2 hp nd ∧ ne2 hp pc ∧ ne2 nd pc ∧ ne2 la nd ∧ ne2 la pc ∧ ne2 la hp
def WNP (nd pc : Int) : Int → Int → Prop := fun b _ => b = nd ∨ b = pc
theorem hpo.ew {h h1 : mH} {hp nd pc la s cap n : Int} (P : hpo h hp nd pc la s cap n) (x : Ew (WNP nd pc) h h1) : hpo h1 hp nd pc la s cap n := by
  obtain ⟨a, b, c, d, e, f, g, i, j, k, l, m, o, p⟩ := P
  have q : ∀ t, h1.M hp t = h.M hp t := fun t => x.2 hp t fun w => by
    rcases w with w | w
    · exact m w
    · exact o w
  exact ⟨(q 0).trans a, (q 1).trans b, (q 2).trans c, by rw [x.N]; exact d, by rw [x.N]; exact e, by rw [x.N]; exact f, g, i, j, k, l, m, o, p⟩
theorem D_hset {h : mH} {hp nd pc la s cap n : Int} (P : hpo h hp nd pc la s cap n) {p x : Int} (p0 : 0 ≤ p) (p1 : p ≤ cap) (x0 : 0 ≤ x) (x1 : x ≤ cap) : Cl kHp_set [vO 3 hp, vI p, vI x] h = some (none, (h.set nd p x).set pc x p) ∧ Ew (WNP nd pc) h ((h.set nd p x).set pc x p) ∧ (∀ i, ((h.set nd p x).set pc x p).M nd i = upf (h.M nd) p x i) ∧ (∀ i, ((h.set nd p x).set pc x p).M pc i = upf (h.M pc) x p i) := by
  obtain ⟨a, b, c, d, e, f, g, i, j, k, l, m, o, q, _⟩ := P
  have b1 : (h.set nd p x).M hp 1 = pc := by rw [Z_Mn (Or.inl m)]; exact b
  refine ⟨?_, (Ew.st (W := WNP nd pc) h _ (Or.inl rfl)).tr (Ew.st _ _ (Or.inr rfl)), fun i => ?_, fun i => ?_⟩
  · rw [E_Hp_set, a, d, gd_t ⟨p0, by omega, g⟩, Z_hl, b1, Z_Ns, e, gd_t ⟨x0, by omega, i⟩, Z_hl]
  · rw [Z_Mn (Or.inl q), Z_Ms]
    unfold upf
    by_cases z : i = p
    · rw [if_pos ⟨rfl, z⟩, if_pos z]
    · rw [if_neg fun w => z w.2, if_neg z]
  · rw [Z_Ms]
    unfold upf
    by_cases z : i = x
    · rw [if_pos ⟨rfl, z⟩, if_pos z]
    · rw [if_neg fun w => z w.2, if_neg z, Z_Mn (Or.inl q.sy)]
/-- a hole at p for x that goes up: all else in order -/
def hup (nd pl len : Int → Int) (x p s cap n : Int) : Prop := wfh (upf nd p x) (upf pl x p) s cap n ∧ 1 ≤ p ∧ p ≤ s ∧ 1 ≤ x ∧ x < n ∧ x ≤ cap ∧ (∀ i, 2 ≤ i → i ≤ s → i ≠ p → len (upf nd p x (i / 2)) ≤ len (upf nd p x i)) ∧ ∀ i, 2 ≤ i → i ≤ s → i / 2 = p → 2 ≤ p → len (upf nd p x (p / 2)) ≤ len (upf nd p x i)
theorem hup_end {nd pl len : Int → Int} {x p s cap n : Int} (U : hup nd pl len x p s cap n) (h : p = 1 ∨ len (upf nd p x (p / 2)) ≤ len x) : wfh (upf nd p x) (upf pl x p) s cap n ∧ ordh (upf nd p x) len s := by
  obtain ⟨u1, u2, u3, u4, u5, u6, u7, u8⟩ := U
  refine ⟨u1, fun i i0 i1 => ?_⟩
  by_cases q : i = p
  · subst q
    rcases h with h | h
    · omega
    · rw [upf_s]; exact h
  · exact u7 i i0 i1 q
theorem hup_step {nd pl len : Int → Int} {x p s cap n : Int} (U : hup nd pl len x p s cap n) (h1 : p ≠ 1) (h2 : len x < len (nd (p / 2))) : hup (upf nd p (nd (p / 2))) (upf pl (nd (p / 2)) p) len x (p / 2) s cap n := by
  obtain ⟨u1, u2, u3, u4, u5, u6, u7, u8⟩ := U
  obtain ⟨w1, w2, w3, w4⟩ := u1
  obtain ⟨q, hq⟩ : ∃ q, q = p / 2 := ⟨_, rfl⟩
  obtain ⟨y, hy⟩ : ∃ y, y = nd q := ⟨_, rfl⟩
  rw [← hq, ← hy] at h2 ⊢
  rw [← hq] at u8
  have q1 : 1 ≤ q ∧ q < p := by omega
  -- y lies at q
  have eq1 : upf nd p x q = y := by rw [upf_n _ (by omega)]; exact hy.symm
  have wq := w3 q q1.1 (by omega)
  rw [eq1] at wq
  have xy : y ≠ x := fun e => by
    have := wq.2.2
    rw [e, upf_s] at this
    omega
  have ply : pl y = q := by have := wq.2.2; rw [upf_n _ xy] at this; exact this
  -- the new virtual rows
  have en : ∀ i, upf (upf nd p y) q x i = if i = q then x else if i = p then y else nd i := fun i => by unfold upf; rfl
  have ep : ∀ v, upf (upf pl y p) x q v = if v = x then q else if v = y then p else pl v := fun v => by unfold upf; rfl
  have old : ∀ i, upf nd p x i = if i = p then x else nd i := fun i => rfl
  have opl : ∀ v, upf pl x p v = if v = x then p else pl v := fun v => rfl
  refine ⟨⟨w1, w2, fun i i0 i1 => ?_, fun v v0 v1 => ?_⟩, q1.1, by omega, u4, u5, u6, fun i i0 i1 iq => ?_, fun i i0 i1 ih iq => ?_⟩
  · rw [en]
    by_cases z1 : i = q
    · rw [if_pos z1, ep, if_pos rfl]; exact ⟨u4, u5, z1.symm⟩
    · rw [if_neg z1]
      by_cases z2 : i = p
      · rw [if_pos z2, ep, if_neg xy, if_pos rfl]; exact ⟨wq.1, wq.2.1, z2.symm⟩
      · rw [if_neg z2]
        have := w3 i i0 i1
        rw [old, if_neg z2, opl] at this
        have nx : nd i ≠ x := fun e => by rw [if_pos e] at this; omega
        rw [if_neg nx] at this
        have ny : nd i ≠ y := fun e => by rw [e, ply] at this; omega
        rw [ep, if_neg nx, if_neg ny]
        exact this
  · rw [ep]
    by_cases z1 : v = x
    · rw [if_pos z1]; right; exact ⟨q1.1, by omega, by rw [en, if_pos rfl]; exact z1.symm⟩
    · rw [if_neg z1]
      by_cases z2 : v = y
      · rw [if_pos z2]; right; exact ⟨u2, u3, by rw [en, if_neg (by omega), if_pos rfl]; exact z2.symm⟩
      · rw [if_neg z2]
        have := w4 v v0 v1
        rw [opl, if_neg z1, old] at this
        rcases this with t | ⟨t1, t2, t3⟩
        · exact Or.inl t
        · right
          have n1 : pl v ≠ p := fun e => by rw [if_pos e] at t3; exact z1 t3.symm
          have n2 : pl v ≠ q := fun e => by rw [if_neg n1, e, ← hy] at t3; exact z2 t3.symm
          rw [if_neg n1] at t3
          exact ⟨t1, t2, by rw [en, if_neg n2, if_neg n1]; exact t3⟩
  · rw [en, en, if_neg iq]
    by_cases z2 : i = p
    · -- the old parent below x
      rw [if_pos z2, if_pos (by omega)]
      omega
    · rw [if_neg z2]
      have o := u7 i i0 i1 z2
      rw [old, old, if_neg z2] at o
      by_cases z3 : i / 2 = q
      · rw [if_pos z3]
        rw [if_neg (by omega), z3, ← hy] at o
        omega
      · rw [if_neg z3]
        by_cases z4 : i / 2 = p
        · rw [if_pos z4]
          have := u8 i i0 i1 z4 (by omega)
          rw [old, old, if_neg z2, if_neg (by omega), ← hy] at this
          exact this
        · rw [if_neg z4]
          rw [if_neg z4] at o
          exact o
  · -- children of q against the parent of q
    rw [en, en, if_neg (by omega), if_neg (by omega), if_neg (by omega)]
    have oq := u7 q (by omega) (by omega) (by omega)
    rw [old, old, if_neg (by omega), if_neg (by omega), ← hy] at oq
    by_cases z2 : i = p
    · rw [if_pos z2]; exact oq
    · rw [if_neg z2]
      have o := u7 i i0 i1 z2
      rw [old, old, if_neg z2, if_neg (by omega), ih, ← hy] at o
      omega
/-- which nodes wait -/
theorem hup_set {nd pl len : Int → Int} {x p s cap n : Int} (U : hup nd pl len x p s cap n) (h1 : p ≠ 1) (v : Int) : upf (upf pl (nd (p / 2)) p) x (p / 2) v ≠ 0 ↔ upf pl x p v ≠ 0 := by
  obtain ⟨u1, u2, u3, u4, u5, u6, u7, u8⟩ := U
  have wq := u1.2.2.1 (p / 2) (by omega) (by omega)
  rw [upf_n _ (by omega : p / 2 ≠ p)] at wq
  unfold upf at *
  by_cases z1 : v = x
  · rw [if_pos z1, if_pos z1]; omega
  · rw [if_neg z1, if_neg z1]
    by_cases z2 : v = nd (p / 2)
    · rw [if_pos z2]
      have := wq.2.2
      rw [← z2, if_neg z1] at this
      omega
    · rw [if_neg z2]
theorem D_put9 {la hp nd pc s cap n x : Int} {len : Int → Int} : ∀ (m : Nat) (p : Int) (h : mH), p ≤ m → hpo h hp nd pc la s cap n → (∀ v, 1 ≤ v → v < n → h.M la v = len v) → hup (h.M nd) (h.M pc) len x p s cap n → ∃ h', Rn kHp_put 9 [vO 3 hp, vI x, vR 101 la, vI p] [] h = some (none, h') ∧ Ew (WNP nd pc) h h' ∧ wfh (h'.M nd) (h'.M pc) s cap n ∧ ordh (h'.M nd) len s ∧ ∀ v, h'.M pc v ≠ 0 ↔ upf (h.M pc) x p v ≠ 0 := by
  intro m
  induction m with
  | zero => intro p h pm P L U; have := U.2.1; omega
  | succ m ih =>
    intro p h pm P L U
    obtain ⟨u1, u2, u3, u4, u5, u6, u7, u8⟩ := U
    have U : hup (h.M nd) (h.M pc) len x p s cap n := ⟨u1, u2, u3, u4, u5, u6, u7, u8⟩
    have sc := u1.2.1
    obtain ⟨e1, x1, n1, c1⟩ := D_hset P (p := p) (x := x) (by omega) (by omega) (by omega) u6
    have P' := P
    obtain ⟨a, b, c, d, e, f, g, i, j, k, l, mm, o, q⟩ := P'
    -- x stays at p
    have stop : (p = 1 ∨ len (upf (h.M nd) p x (p / 2)) ≤ len x) → (bV (Cl kHp_set [vO 3 hp, vI p, vI x] h) fun h1 => some (none, h1)) = some (none, (h.set nd p x).set pc x p) ∧ Ew (WNP nd pc) h ((h.set nd p x).set pc x p) ∧ wfh (((h.set nd p x).set pc x p).M nd) (((h.set nd p x).set pc x p).M pc) s cap n ∧ ordh (((h.set nd p x).set pc x p).M nd) len s ∧ ∀ v, ((h.set nd p x).set pc x p).M pc v ≠ 0 ↔ upf (h.M pc) x p v ≠ 0 := fun hh => by
      have en : ((h.set nd p x).set pc x p).M nd = upf (h.M nd) p x := funext n1
      have ec : ((h.set nd p x).set pc x p).M pc = upf (h.M pc) x p := funext c1
      rw [en, ec]
      obtain ⟨w, oo⟩ := hup_end U hh
      exact ⟨by rw [e1, Z_bV], x1, w, oo, fun v => Iff.rfl⟩
    by_cases z : p ≤ 1
    · refine ⟨_, ?_, (stop (Or.inl (by omega))).2⟩
      rw [E_Hp_put_9, if_pos z]
      exact (stop (Or.inl (by omega))).1
    · have sh : ishr p 1 = p / 2 := Z_shr (k := 1) (by decide) (by omega)
      have wq := u1.2.2.1 (p / 2) (by omega) (by omega)
      rw [upf_n _ (by omega : p / 2 ≠ p)] at wq
      have st : Rn kHp_put 9 [vO 3 hp, vI x, vR 101 la, vI p] [] h = (if len (h.M nd (p / 2)) ≤ len x then (bV (Cl kHp_set [vO 3 hp, vI p, vI x] h) fun h1 => some (none, h1)) else (bV (Cl kHp_set [vO 3 hp, vI p, vI (h.M nd (p / 2))] h) fun h1 => Rn kHp_put 9 [vO 3 hp, vI x, vR 101 la, vI (p / 2)] [] h1)) := by
        rw [E_Hp_put_9, if_neg z, sh, a, d, gd_t ⟨by omega, by omega, g⟩, f, gd_t ⟨by omega, by omega, j⟩, gd_t ⟨by omega, by omega, j⟩, L _ wq.1 wq.2.1, L x u4 u5]
        have gg : ∀ A B : mR, (if lcmp64 (len (h.M nd (p / 2))) (len x) ≤ 0 then A else B) = (if len (h.M nd (p / 2)) ≤ len x then A else B) := fun A B => by simp only [Z_cmpG]
        rw [gg, gd_t ⟨by omega, by omega, g⟩]
      rw [st]
      by_cases y : len (h.M nd (p / 2)) ≤ len x
      · rw [if_pos y]
        have hh : p = 1 ∨ len (upf (h.M nd) p x (p / 2)) ≤ len x := Or.inr (by rw [upf_n _ (by omega)]; exact y)
        exact ⟨_, stop hh⟩
      · rw [if_neg y]
        obtain ⟨e2, x2, n2, c2⟩ := D_hset P (p := p) (x := h.M nd (p / 2)) (by omega) (by omega) (by omega) (by omega)
        have U2 := hup_step U (by omega) (by omega)
        have en : ((h.set nd p (h.M nd (p / 2))).set pc (h.M nd (p / 2)) p).M nd = upf (h.M nd) p (h.M nd (p / 2)) := funext n2
        have ec : ((h.set nd p (h.M nd (p / 2))).set pc (h.M nd (p / 2)) p).M pc = upf (h.M pc) (h.M nd (p / 2)) p := funext c2
        obtain ⟨h', e3, x3, w3, o3, s3⟩ := ih (p / 2) _ (by omega) (P.ew x2) (fun v v0 v1 => (x2.2 la v fun w => by
          rcases w with w | w
          · exact q.2.1 w
          · exact q.2.2.1 w).trans (L v v0 v1)) (by rw [en, ec]; exact U2)
        refine ⟨h', by rw [e2, Z_bV]; exact e3, x2.tr x3, w3, o3, fun v => ?_⟩
        rw [s3 v, ec]
        exact hup_set U (by omega) v
