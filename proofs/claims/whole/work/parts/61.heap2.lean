/-! THE PURE PART, the class's heap: put, take, empty -/
/-- who doesn't wait leaves room -/
theorem wfh_room {nd pl : Int → Int} {s cap n x : Int} (W : wfh nd pl s cap n) (x0 : 1 ≤ x) (x1 : x < n) (hx : pl x = 0) : s + 2 ≤ n := by
  obtain ⟨w1, w2, w3, w4⟩ := W
  have key := fb_holes (n - 2).toNat s.toNat (fun i => if nd ((i : Int) + 1) < x then (nd ((i : Int) + 1) - 1).toNat else (nd ((i : Int) + 1) - 2).toNat) (fun i hi => by
    obtain ⟨a, b, c⟩ := w3 ((i : Int) + 1) (by omega) (by omega)
    have ne : nd ((i : Int) + 1) ≠ x := fun e => by rw [e, hx] at c; omega
    split <;> omega) (fun i j hij hj => by
    obtain ⟨a, b, c⟩ := w3 ((i : Int) + 1) (by omega) (by omega)
    obtain ⟨a2, b2, c2⟩ := w3 ((j : Int) + 1) (by omega) (by omega)
    have ne : nd ((i : Int) + 1) ≠ x := fun e => by rw [e, hx] at c; omega
    have ne2 : nd ((j : Int) + 1) ≠ x := fun e => by rw [e, hx] at c2; omega
    have ne3 : nd ((i : Int) + 1) ≠ nd ((j : Int) + 1) := fun e => by rw [e, c2] at c; omega
    split <;> split <;> omega)
  omega
theorem upf_id {f : Int → Int} {k v : Int} (h : f k = v) : upf f k v = f := funext fun i => by
  unfold upf
  split
  · rename_i q; rw [q, h]
  · rfl
theorem D_put {la hp nd pc s cap n x : Int} {len lo : Int → Int} {h : mH} (P : hpo h hp nd pc la s cap n) (L : ∀ v, 1 ≤ v → v < n → h.M la v = len v) (W : wfh (h.M nd) (h.M pc) s cap n) (O : ordh (h.M nd) lo s) (x0 : 1 ≤ x) (x1 : x < n) (hl : ∀ v, v ≠ x → len v = lo v) (hx : h.M pc x ≠ 0 → len x ≤ lo x) : ∃ h' s', Cl kHp_put [vO 3 hp, vI x, vR 101 la] h = some (none, h') ∧ Ew (fun b k => WNP nd pc b k ∨ (b = hp ∧ k = 2)) h h' ∧ hpo h' hp nd pc la s' cap n ∧ wfh (h'.M nd) (h'.M pc) s' cap n ∧ ordh (h'.M nd) len s' ∧ 1 ≤ s' ∧ ∀ v, h'.M pc v ≠ 0 ↔ (h.M pc v ≠ 0 ∨ v = x) := by
  have P' := P
  obtain ⟨a, b, c, d, e, f, g, i, j, k, l, mm, o, q⟩ := P'
  have W' := W
  obtain ⟨w1, w2, w3, w4⟩ := W'
  have xcap : x ≤ cap := by omega
  by_cases z : h.M pc x = 0
  · -- it is put in
    have rm := wfh_room W x0 x1 z
    have xs : Ew (fun b k => WNP nd pc b k ∨ (b = hp ∧ k = 2)) h (h.set hp 2 (s + 1)) := Ew.st h _ (Or.inr ⟨rfl, rfl⟩)
    have P1 : hpo (h.set hp 2 (s + 1)) hp nd pc la (s + 1) cap n := ⟨by rw [Z_Mn (Or.inr (by decide))]; exact a, by rw [Z_Mn (Or.inr (by decide))]; exact b, Z_Mt .., d, e, f, g, i, j, k, l, mm, o, q⟩
    obtain ⟨e1, x1', n1, c1⟩ := D_hset P1 (p := s + 1) (x := x) (by omega) (by omega) (by omega) xcap
    have en : ((((h.set hp 2 (s + 1)).set nd (s + 1) x).set pc x (s + 1)).M nd) = upf (h.M nd) (s + 1) x := funext fun t => by
      rw [n1 t, show (h.set hp 2 (s + 1)).M nd = h.M nd from funext fun t => Z_Mn (Or.inl mm.sy)]
    have ec : ((((h.set hp 2 (s + 1)).set nd (s + 1) x).set pc x (s + 1)).M pc) = upf (h.M pc) x (s + 1) := funext fun t => by
      rw [c1 t, show (h.set hp 2 (s + 1)).M pc = h.M pc from funext fun t => Z_Mn (Or.inl o.sy)]
    have U : hup (((((h.set hp 2 (s + 1)).set nd (s + 1) x).set pc x (s + 1)).M nd)) (((((h.set hp 2 (s + 1)).set nd (s + 1) x).set pc x (s + 1)).M pc)) len x (s + 1) (s + 1) cap n := by
      rw [en, ec]
      have e2 : upf (upf (h.M nd) (s + 1) x) (s + 1) x = upf (h.M nd) (s + 1) x := upf_id (upf_s ..)
      have e3 : upf (upf (h.M pc) x (s + 1)) x (s + 1) = upf (h.M pc) x (s + 1) := upf_id (upf_s ..)
      unfold hup
      rw [e2, e3]
      refine ⟨⟨by omega, by omega, fun t t0 t1 => ?_, fun v v0 v1 => ?_⟩, by omega, by omega, x0, x1, xcap, fun t t0 t1 tn => ?_, fun t t0 t1 th _ => by omega⟩
      · by_cases y : t = s + 1
        · rw [y, upf_s, upf_s]; exact ⟨x0, x1, rfl⟩
        · rw [upf_n _ y]
          have := w3 t t0 (by omega)
          have ne : h.M nd t ≠ x := fun e => by rw [e, z] at this; omega
          rw [upf_n _ ne]
          exact this
      · by_cases y : v = x
        · rw [y, upf_s]; right; exact ⟨by omega, by omega, upf_s ..⟩
        · rw [upf_n _ y]
          rcases w4 v v0 v1 with w | ⟨t1, t2, t3⟩
          · exact Or.inl w
          · right; exact ⟨t1, by omega, by rw [upf_n _ (by omega)]; exact t3⟩
      · rw [upf_n _ (by omega), upf_n _ tn]
        have o1 := O t t0 (by omega)
        have a1 := w3 t (by omega) (by omega)
        have a2 := w3 (t / 2) (by omega) (by omega)
        have ne1 : h.M nd t ≠ x := fun e => by rw [e, z] at a1; omega
        have ne2 : h.M nd (t / 2) ≠ x := fun e => by rw [e, z] at a2; omega
        rw [hl _ ne1, hl _ ne2]
        exact o1
    have L2 : ∀ v, 1 ≤ v → v < n → (((h.set hp 2 (s + 1)).set nd (s + 1) x).set pc x (s + 1)).M la v = len v := fun v v0 v1 => by
      rw [x1'.2 la v fun w => by
        rcases w with w | w
        · exact q.2.1 w
        · exact q.2.2.1 w, Z_Mn (Or.inl q.2.2.2)]
      exact L v v0 v1
    obtain ⟨h', e4, x4, w5, o5, s5⟩ := D_put9 (s + 1).toNat (s + 1) _ (by omega) (P1.ew x1') L2 U
    refine ⟨h', s + 1, ?_, (xs.tr (x1'.mono fun _ _ w => Or.inl w)).tr (x4.mono fun _ _ w => Or.inl w), (P1.ew x1').ew x4, w5, o5, by omega, fun v => ?_⟩
    · have t1 : (h.set hp 2 (s + 1)).M hp 2 = s + 1 := Z_Mt ..
      have P2 := P1.ew x1'
      have t2 : (((h.set hp 2 (s + 1)).set nd (s + 1) x).set pc x (s + 1)).M hp 1 = pc := P2.2.1
      have t3 : (((h.set hp 2 (s + 1)).set nd (s + 1) x).set pc x (s + 1)).M pc x = s + 1 := Z_Mt ..
      rw [E_Hp_put, if_neg (by omega), b, gd_t i, e, if_pos (by omega), gd_t j, f, if_pos x1, gd_t ⟨by omega, by omega, i⟩, if_pos z, a, gd_t g, c, Z_wI (by omega), d, if_pos (by omega), Z_hl, t1, e1, Z_bV, t2, Z_Ns, Z_Ns, Z_Ns, e, gd_t ⟨by omega, by omega, i⟩, t3]
      exact e4
    · rw [s5 v, ec]
      unfold upf
      by_cases y : v = x
      · rw [if_pos y]
        exact ⟨fun _ => Or.inr y, fun _ => by omega⟩
      · rw [if_neg y, if_neg y]
        exact ⟨fun w => Or.inl w, fun w => w.resolve_right y⟩
  · -- it waits: it goes up
    obtain ⟨p, hp'⟩ : ∃ p, p = h.M pc x := ⟨_, rfl⟩
    rw [← hp'] at z
    rcases w4 x x0 xcap with w | ⟨p1, p2, p3⟩
    · omega
    · rw [← hp'] at p1 p2 p3
      have e2 : upf (h.M nd) p x = h.M nd := upf_id p3
      have e3 : upf (h.M pc) x p = h.M pc := upf_id hp'.symm
      have lx : len x ≤ lo x := hx (by rw [← hp']; exact z)
      have le : ∀ t, 1 ≤ t → t ≤ s → t ≠ p → len (h.M nd t) = lo (h.M nd t) := fun t t0 t1 tn => hl _ fun e => by
        have := (w3 t t0 t1).2.2
        rw [e, ← hp'] at this
        exact tn this.symm
      have U : hup (h.M nd) (h.M pc) len x p s cap n := by
        unfold hup
        rw [e2, e3]
        refine ⟨W, p1, p2, x0, x1, xcap, fun t t0 t1 tn => ?_, fun t t0 t1 th tp => ?_⟩
        · have o1 := O t t0 t1
          rw [le t (by omega) t1 tn]
          by_cases y : t / 2 = p
          · rw [y, p3] at o1 ⊢
            omega
          · rw [le (t / 2) (by omega) (by omega) y]
            exact o1
        · have o1 := O t t0 t1
          have o2 := O p (by omega) (by omega)
          rw [le (p / 2) (by omega) (by omega) (by omega), le t (by omega) t1 (by omega)]
          rw [th, p3] at o1
          rw [p3] at o2
          omega
      obtain ⟨h', e4, x4, w5, o5, s5⟩ := D_put9 p.toNat p h (by omega) P L U
      refine ⟨h', s, ?_, x4.mono fun _ _ w => Or.inl w, P.ew x4, w5, o5, by omega, fun v => ?_⟩
      · rw [E_Hp_put, if_neg (by omega), b, gd_t i, e, if_pos (by omega), gd_t j, f, if_pos x1, gd_t ⟨by omega, by omega, i⟩, ← hp', if_neg z, gd_t ⟨by omega, by omega, i⟩]
        exact e4
      · rw [s5 v, e3]
        refine ⟨fun w => Or.inl w, fun w => ?_⟩
        rcases w with w | w
        · exact w
        · rw [w, ← hp']; exact z
/-- a hole at p for x that goes down -/
def hdn (nd pl len : Int → Int) (x p s cap n : Int) : Prop := wfh (upf nd p x) (upf pl x p) s cap n ∧ 1 ≤ p ∧ p ≤ s ∧ 1 ≤ x ∧ x < n ∧ x ≤ cap ∧ (∀ i, 2 ≤ i → i ≤ s → i / 2 ≠ p → len (upf nd p x (i / 2)) ≤ len (upf nd p x i)) ∧ ∀ i, 2 ≤ i → i ≤ s → i / 2 = p → 2 ≤ p → len (upf nd p x (p / 2)) ≤ len (upf nd p x i)
theorem hdn_end {nd pl len : Int → Int} {x p s cap n : Int} (U : hdn nd pl len x p s cap n) (h : ∀ i, 2 ≤ i → i ≤ s → i / 2 = p → len x ≤ len (nd i)) : wfh (upf nd p x) (upf pl x p) s cap n ∧ ordh (upf nd p x) len s := by
  obtain ⟨u1, u2, u3, u4, u5, u6, u7, u8⟩ := U
  refine ⟨u1, fun i i0 i1 => ?_⟩
  by_cases q : i / 2 = p
  · have := h i i0 i1 q
    rw [q, upf_s, upf_n _ (by omega)]
    exact this
  · exact u7 i i0 i1 q
theorem hdn_step {nd pl len : Int → Int} {x p s cap n c : Int} (U : hdn nd pl len x p s cap n) (c1 : c / 2 = p) (c2 : c ≤ s) (hy : len (nd c) < len x) (hc : ∀ i, 2 ≤ i → i ≤ s → i / 2 = p → len (nd c) ≤ len (nd i)) : hdn (upf nd p (nd c)) (upf pl (nd c) p) len x c s cap n := by
  obtain ⟨u1, u2, u3, u4, u5, u6, u7, u8⟩ := U
  obtain ⟨w1, w2, w3, w4⟩ := u1
  obtain ⟨y, hyy⟩ : ∃ y, y = nd c := ⟨_, rfl⟩
  rw [← hyy] at hy hc ⊢
  have q1 : p < c ∧ 2 ≤ c := by omega
  have eq1 : upf nd p x c = y := by rw [upf_n _ (by omega)]; exact hyy.symm
  have wq := w3 c (by omega) c2
  rw [eq1] at wq
  have xy : y ≠ x := fun e => by
    have := wq.2.2
    rw [e, upf_s] at this
    omega
  have ply : pl y = c := by have := wq.2.2; rw [upf_n _ xy] at this; exact this
  have en : ∀ i, upf (upf nd p y) c x i = if i = c then x else if i = p then y else nd i := fun i => by unfold upf; rfl
  have ep : ∀ v, upf (upf pl y p) x c v = if v = x then c else if v = y then p else pl v := fun v => by unfold upf; rfl
  have old : ∀ i, upf nd p x i = if i = p then x else nd i := fun i => rfl
  have opl : ∀ v, upf pl x p v = if v = x then p else pl v := fun v => rfl
  refine ⟨⟨w1, w2, fun i i0 i1 => ?_, fun v v0 v1 => ?_⟩, by omega, c2, u4, u5, u6, fun i i0 i1 iq => ?_, fun i i0 i1 ih iq => ?_⟩
  · rw [en]
    by_cases z1 : i = c
    · rw [if_pos z1, ep, if_pos rfl]; exact ⟨u4, u5, z1.symm⟩
    · rw [if_neg z1]
      by_cases z2 : i = p
      · rw [if_pos z2, ep, if_neg xy, if_pos rfl]; exact ⟨wq.1, wq.2.1, z2.symm⟩
      · rw [if_neg z2]
        have := w3 i i0 i1
        rw [old, if_neg z2, opl] at this
        have nx : nd i ≠ x := fun e => by rw [if_pos e] at this; omega
        rw [if_neg nx] at this
        have ny : nd i ≠ y := fun e => by rw [e, ply] at this; omega
        rw [ep, if_neg nx, if_neg ny]
        exact this
  · rw [ep]
    by_cases z1 : v = x
    · rw [if_pos z1]; right; exact ⟨by omega, c2, by rw [en, if_pos rfl]; exact z1.symm⟩
    · rw [if_neg z1]
      by_cases z2 : v = y
      · rw [if_pos z2]; right; exact ⟨u2, u3, by rw [en, if_neg (by omega), if_pos rfl]; exact z2.symm⟩
      · rw [if_neg z2]
        have := w4 v v0 v1
        rw [opl, if_neg z1, old] at this
        rcases this with t | ⟨t1, t2, t3⟩
        · exact Or.inl t
        · right
          have n1 : pl v ≠ p := fun e => by rw [if_pos e] at t3; exact z1 t3.symm
          have n2 : pl v ≠ c := fun e => by rw [if_neg n1, e, ← hyy] at t3; exact z2 t3.symm
          rw [if_neg n1] at t3
          exact ⟨t1, t2, by rw [en, if_neg n2, if_neg n1]; exact t3⟩
  · rw [en, en, if_neg iq]
    by_cases z1 : i / 2 = p
    · rw [if_pos z1]
      by_cases z2 : i = c
      · rw [if_pos z2]; omega
      · rw [if_neg z2, if_neg (by omega)]
        exact hc i i0 i1 z1
    · rw [if_neg z1, if_neg (by omega)]
      have o := u7 i i0 i1 z1
      rw [old, old, if_neg z1] at o
      by_cases z3 : i = p
      · rw [if_pos z3]
        have := u8 c (by omega) c2 c1 (by omega)
        rw [old, old, if_neg (by omega), if_neg (by omega), ← hyy] at this
        rw [z3]
        exact this
      · rw [if_neg z3]
        rw [if_neg z3] at o
        exact o
  · rw [en, en, c1, if_neg (by omega), if_pos rfl, if_neg (by omega), if_neg (by omega)]
    have o := u7 i i0 i1 (by omega)
    rw [old, old, ih, if_neg (by omega), if_neg (by omega), ← hyy] at o
    exact o
theorem hdn_set {nd pl len : Int → Int} {x p s cap n c : Int} (U : hdn nd pl len x p s cap n) (c1 : c / 2 = p) (c2 : c ≤ s) (v : Int) : upf (upf pl (nd c) p) x c v ≠ 0 ↔ upf pl x p v ≠ 0 := by
  obtain ⟨u1, u2, u3, u4, u5, u6, u7, u8⟩ := U
  have wq := u1.2.2.1 c (by omega) (by omega)
  rw [upf_n _ (by omega : c ≠ p)] at wq
  unfold upf at *
  by_cases z1 : v = x
  · rw [if_pos z1, if_pos z1]; omega
  · rw [if_neg z1, if_neg z1]
    by_cases z2 : v = nd c
    · rw [if_pos z2]
      have := wq.2.2
      rw [← z2, if_neg z1] at this
      omega
    · rw [if_neg z2]
/-- the lesser child -/
theorem D_lesser {la hp nd pc s cap n p : Int} {len : Int → Int} {h : mH} (P : hpo h hp nd pc la s cap n) (L : ∀ v, 1 ≤ v → v < n → h.M la v = len v) (p1 : 1 ≤ p) (p2 : p ≤ cap) (s1 : s ≤ cap) (W : ∀ i, i ≠ p → 1 ≤ i → i ≤ s → 1 ≤ h.M nd i ∧ h.M nd i < n) : ∃ c, Cl kHp_lesserChild [vO 3 hp, vI p, vR 101 la] h = some (some (vI c), h) ∧ ((c = 0 ∧ ∀ i, 2 ≤ i → i ≤ s → i / 2 ≠ p) ∨ (c / 2 = p ∧ 2 ≤ c ∧ c ≤ s ∧ ∀ i, 2 ≤ i → i ≤ s → i / 2 = p → len (h.M nd c) ≤ len (h.M nd i))) := by
  obtain ⟨a, b, c, d, e, f, g, i, j, k, l, mm, o, q⟩ := P
  rw [E_Hp_lesserChild, Z_wI (z := 2 * p) (by omega), c]
  by_cases z : 2 * p ≤ s
  · rw [if_pos z]
    have w1 := W (2 * p) (by omega) (by omega) z
    by_cases z2 : 2 * p < s
    · have w2 := W (2 * p + 1) (by omega) (by omega) (by omega)
      rw [if_pos z2, Z_wI (z := 2 * p + 1) (by omega), a, d, gd_t ⟨by omega, by omega, g⟩, f, gd_t ⟨by omega, by omega, j⟩, gd_t ⟨by omega, by omega, g⟩, gd_t ⟨by omega, by omega, j⟩, L _ w2.1 w2.2, L _ w1.1 w1.2]
      have gg : ∀ A B : mR, (if lcmp64 (len (h.M nd (2 * p + 1))) (len (h.M nd (2 * p))) < 0 then A else B) = (if len (h.M nd (2 * p + 1)) < len (h.M nd (2 * p)) then A else B) := fun A B => by simp only [Z_cmpL]
      rw [gg]
      by_cases z3 : len (h.M nd (2 * p + 1)) < len (h.M nd (2 * p))
      · rw [if_pos z3]
        refine ⟨2 * p + 1, rfl, Or.inr ⟨by omega, by omega, by omega, fun t t0 t1 th => ?_⟩⟩
        rcases (by omega : t = 2 * p ∨ t = 2 * p + 1) with y | y <;> rw [y] <;> omega
      · rw [if_neg z3]
        refine ⟨2 * p, rfl, Or.inr ⟨by omega, by omega, by omega, fun t t0 t1 th => ?_⟩⟩
        rcases (by omega : t = 2 * p ∨ t = 2 * p + 1) with y | y <;> rw [y] <;> omega
    · rw [if_neg z2]
      refine ⟨2 * p, rfl, Or.inr ⟨by omega, by omega, by omega, fun t t0 t1 th => ?_⟩⟩
      rw [show t = 2 * p by omega]
      exact Int.le_refl _
  · rw [if_neg z]
    exact ⟨0, rfl, Or.inl ⟨rfl, fun t t0 t1 => by omega⟩⟩
/-- powers of two: no way down the heap is longer -/
def hpw : Nat → Int
  | 0 => 1
  | m + 1 => 2 * hpw m
theorem hpw_0 : ∀ m, 0 ≤ hpw m
  | 0 => by decide
  | m + 1 => by
    have := hpw_0 m
    show 0 ≤ 2 * hpw m
    omega
theorem hpw_u {s p c : Int} {m : Nat} (a : s < p * hpw (m + 1)) (b : 2 * p ≤ c) : s < c * hpw m := by
  have w := Int.mul_le_mul_of_nonneg_right b (hpw_0 m)
  have e : p * hpw (m + 1) = 2 * p * hpw m := by
    show p * (2 * hpw m) = _
    rw [← Int.mul_assoc, Int.mul_comm p 2]
  omega
theorem D_sink2 {la hp nd pc s cap n x : Int} {len : Int → Int} : ∀ (m : Nat) (p c lvl : Int) (h : mH), s < p * hpw m → 0 ≤ lvl → lvl + m = 31 → hpo h hp nd pc la s cap n → (∀ v, 1 ≤ v → v < n → h.M la v = len v) → hdn (h.M nd) (h.M pc) len x p s cap n → ((c = 0 ∧ ∀ i, 2 ≤ i → i ≤ s → i / 2 ≠ p) ∨ (c / 2 = p ∧ 2 ≤ c ∧ c ≤ s ∧ ∀ i, 2 ≤ i → i ≤ s → i / 2 = p → len (h.M nd c) ≤ len (h.M nd i))) → ∃ h', Rn kHp_sink 2 [vO 3 hp, vI x, vR 101 la, vI p, vI c, vI lvl] [] h = some (none, h') ∧ Ew (WNP nd pc) h h' ∧ wfh (h'.M nd) (h'.M pc) s cap n ∧ ordh (h'.M nd) len s ∧ ∀ v, h'.M pc v ≠ 0 ↔ upf (h.M pc) x p v ≠ 0 := by
  intro m
  induction m with
  | zero => intro p c lvl h pm l0 lm P L U; have := U.2.2.1; have e : p * hpw 0 = p := Int.mul_one p; omega
  | succ m ih =>
    intro p c lvl h pm l0 lm P L U hc
    have U' := U
    obtain ⟨u1, u2, u3, u4, u5, u6, u7, u8⟩ := U'
    have sc := u1.2.1
    obtain ⟨e1, x1, n1, c1⟩ := D_hset P (p := p) (x := x) (by omega) (by omega) (by omega) u6
    have P' := P
    obtain ⟨a, b, cc, d, e, f, g, i, j, k, l, mm, o, q⟩ := P'
    have stop : (∀ i, 2 ≤ i → i ≤ s → i / 2 = p → len x ≤ len (h.M nd i)) → (bV (Cl kHp_set [vO 3 hp, vI p, vI x] h) fun h1 => some (none, h1)) = some (none, (h.set nd p x).set pc x p) ∧ Ew (WNP nd pc) h ((h.set nd p x).set pc x p) ∧ wfh (((h.set nd p x).set pc x p).M nd) (((h.set nd p x).set pc x p).M pc) s cap n ∧ ordh (((h.set nd p x).set pc x p).M nd) len s ∧ ∀ v, ((h.set nd p x).set pc x p).M pc v ≠ 0 ↔ upf (h.M pc) x p v ≠ 0 := fun hh => by
      have en : ((h.set nd p x).set pc x p).M nd = upf (h.M nd) p x := funext n1
      have ec : ((h.set nd p x).set pc x p).M pc = upf (h.M pc) x p := funext c1
      rw [en, ec]
      obtain ⟨w, oo⟩ := hdn_end U hh
      exact ⟨by rw [e1, Z_bV], x1, w, oo, fun v => Iff.rfl⟩
    rcases hc with ⟨c0, hno⟩ | ⟨h1, h2, h3, h4⟩
    · have hh : ∀ i, 2 ≤ i → i ≤ s → i / 2 = p → len x ≤ len (h.M nd i) := fun t t0 t1 th => absurd th (hno t t0 t1)
      refine ⟨_, ?_, (stop hh).2⟩
      rw [E_Hp_sink_2, if_pos (by omega), if_pos c0]
      exact (stop hh).1
    · have wq := u1.2.2.1 c (by omega) h3
      rw [upf_n _ (by omega : c ≠ p)] at wq
      have gg : ∀ A B : mR, (if lcmp64 (len (h.M nd c)) (len x) < 0 then A else B) = (if len (h.M nd c) < len x then A else B) := fun A B => by simp only [Z_cmpL]
      by_cases y : len (h.M nd c) < len x
      · obtain ⟨e2, x2, n2, c2⟩ := D_hset P (p := p) (x := h.M nd c) (by omega) (by omega) (by omega) (by omega)
        have U2 := hdn_step U h1 h3 y h4
        have en : ((h.set nd p (h.M nd c)).set pc (h.M nd c) p).M nd = upf (h.M nd) p (h.M nd c) := funext n2
        have ec : ((h.set nd p (h.M nd c)).set pc (h.M nd c) p).M pc = upf (h.M pc) (h.M nd c) p := funext c2
        have L2 : ∀ v, 1 ≤ v → v < n → ((h.set nd p (h.M nd c)).set pc (h.M nd c) p).M la v = len v := fun v v0 v1 => (x2.2 la v fun w => by
          rcases w with w | w
          · exact q.2.1 w
          · exact q.2.2.1 w).trans (L v v0 v1)
        have P2 := P.ew x2
        have U3 : hdn (((h.set nd p (h.M nd c)).set pc (h.M nd c) p).M nd) (((h.set nd p (h.M nd c)).set pc (h.M nd c) p).M pc) len x c s cap n := by rw [en, ec]; exact U2
        obtain ⟨c', e5, hc'⟩ := D_lesser P2 L2 (p := c) (by omega) (by omega) sc (fun t tn t0 t1 => by
          have := U3.1.2.2.1 t t0 t1
          rw [upf_n _ tn] at this
          exact ⟨this.1, this.2.1⟩)
        obtain ⟨h', e3, x3, w3, o3, s3⟩ := ih c c' (lvl + 1) _ (hpw_u pm (by omega)) (by omega) (by omega) P2 L2 U3 hc'
        refine ⟨h', ?_, x2.tr x3, w3, o3, fun v => ?_⟩
        · rw [E_Hp_sink_2, if_pos (by omega), if_neg (by omega), a, d, gd_t ⟨by omega, by omega, g⟩, f, gd_t ⟨by omega, by omega, j⟩, gd_t ⟨by omega, by omega, j⟩, L _ wq.1 wq.2.1, L x u4 u5, gg, if_pos y, gd_t ⟨by omega, by omega, g⟩, e2, Z_bV, e5, Z_bI, Z_wI (by omega)]
          exact e3
        · rw [s3 v, ec]
          exact hdn_set U h1 h3 v
      · have hh : ∀ i, 2 ≤ i → i ≤ s → i / 2 = p → len x ≤ len (h.M nd i) := fun t t0 t1 th => by have := h4 t t0 t1 th; omega
        refine ⟨_, ?_, (stop hh).2⟩
        rw [E_Hp_sink_2, if_pos (by omega), if_neg (by omega), a, d, gd_t ⟨by omega, by omega, g⟩, f, gd_t ⟨by omega, by omega, j⟩, gd_t ⟨by omega, by omega, j⟩, L _ wq.1 wq.2.1, L x u4 u5, gg, if_neg y]
        exact (stop hh).1
theorem D_take {la hp nd pc s cap n : Int} {len : Int → Int} {h : mH} (P : hpo h hp nd pc la s cap n) (L : ∀ v, 1 ≤ v → v < n → h.M la v = len v) (W : wfh (h.M nd) (h.M pc) s cap n) (O : ordh (h.M nd) len s) (s1 : 1 ≤ s) : ∃ h' v, Cl kHp_takeLeast [vO 3 hp, vR 101 la] h = some (some (vI v), h') ∧ Ew (fun b k => WNP nd pc b k ∨ (b = hp ∧ k = 2)) h h' ∧ hpo h' hp nd pc la (s - 1) cap n ∧ wfh (h'.M nd) (h'.M pc) (s - 1) cap n ∧ ordh (h'.M nd) len (s - 1) ∧ 1 ≤ v ∧ v < n ∧ h.M pc v ≠ 0 ∧ (∀ w, 1 ≤ w → w < n → h.M pc w ≠ 0 → len v ≤ len w) ∧ (∀ w, h'.M pc w ≠ 0 ↔ (h.M pc w ≠ 0 ∧ w ≠ v)) := by
  have P' := P
  obtain ⟨a, b, c, d, e, f, g, i, j, k, l, mm, o, q⟩ := P'
  obtain ⟨w1, w2, w3, w4⟩ := W
  obtain ⟨v, hv⟩ : ∃ v, v = h.M nd 1 := ⟨_, rfl⟩
  have t1 := w3 1 (by omega) s1
  rw [← hv] at t1
  obtain ⟨h2, hh2⟩ : ∃ u, u = (h.set pc v 0).set hp 2 (s - 1) := ⟨_, rfl⟩
  have x2 : Ew (fun b k => WNP nd pc b k ∨ (b = hp ∧ k = 2)) h h2 := by
    rw [hh2]
    exact (Ew.st (W := fun b k => WNP nd pc b k ∨ (b = hp ∧ k = 2)) h _ (Or.inl (Or.inr rfl))).tr (Ew.st _ _ (Or.inr ⟨rfl, rfl⟩))
  have mn : ∀ t, h2.M nd t = h.M nd t := fun t => by rw [hh2, Z_Mn (Or.inl mm.sy), Z_Mn (Or.inl q.1)]
  have mp : ∀ t, h2.M pc t = upf (h.M pc) v 0 t := fun t => by
    rw [hh2, Z_Mn (Or.inl o.sy), Z_Ms]
    unfold upf
    by_cases y : t = v
    · rw [if_pos ⟨rfl, y⟩, if_pos y]
    · rw [if_neg fun w => y w.2, if_neg y]
  have P2 : hpo h2 hp nd pc la (s - 1) cap n := ⟨by rw [hh2, Z_Mn (Or.inr (by decide)), Z_Mn (Or.inl o)]; exact a, by rw [hh2, Z_Mn (Or.inr (by decide)), Z_Mn (Or.inl o)]; exact b, by rw [hh2, Z_Mt], by rw [hh2]; exact d, by rw [hh2]; exact e, by rw [hh2]; exact f, g, i, j, k, l, mm, o, q⟩
  have L2 : ∀ t, 1 ≤ t → t < n → h2.M la t = len t := fun t t0 t1 => (x2.2 la t fun w => by
    rcases w with (w | w) | w
    · exact q.2.1 w
    · exact q.2.2.1 w
    · exact q.2.2.2 w.1).trans (L t t0 t1)
  have min : ∀ w, 1 ≤ w → w < n → h.M pc w ≠ 0 → len v ≤ len w := fun w w0 w1' hw => by
    rcases w4 w w0 (by omega) with y | ⟨y1, y2, y3⟩
    · exact absurd y hw
    · have := heap_min ⟨w1, w2, w3, w4⟩ O (h.M pc w).toNat (h.M pc w) (by omega) y1 y2
      rw [← hv, y3] at this
      exact this
  have vc : v ≤ cap := by omega
  have pv : h.M pc v ≠ 0 := by omega
  have e1 : (h.set pc v 0).M hp 2 = s := by rw [Z_Mn (Or.inl o)]; exact c
  have e0 : (h.set pc v 0).M hp 0 = nd := by rw [Z_Mn (Or.inl o)]; exact a
  have el : (h.set pc v 0).M nd s = h.M nd s := by rw [Z_Mn (Or.inl q.1)]
  have e2 : h2.M hp 2 = s - 1 := P2.2.2.1
  have head : Cl kHp_takeLeast [vO 3 hp, vR 101 la] h = (if s - 1 ≤ 0 then (some (some (vI v), h2)) else (bV (Cl kHp_sink [vO 3 hp, vI (h.M nd s), vR 101 la] h2) fun h3 => some (some (vI v), h3))) := by
    rw [E_Hp_takeLeast, c, if_neg (by omega), a, gd_t g, d, if_pos (by omega), gd_t ⟨by omega, by omega, g⟩, b, e, ← hv, gd_t ⟨by omega, by omega, i⟩, Z_hl, e1, e0, Z_Ns, d, gd_t ⟨by omega, by omega, g⟩, Z_wI (z := s - 1) (by omega), Z_hl, ← hh2, e2, el]
  rw [head]
  by_cases z : s - 1 ≤ 0
  · rw [if_pos z]
    have s1' : s = 1 := by omega
    refine ⟨h2, v, rfl, x2, P2, ⟨by omega, by omega, fun t t0 t1 => by omega, fun t t0 t1 => ?_⟩, fun t t0 t1 => by omega, t1.1, t1.2.1, pv, min, fun w => ?_⟩
    · rw [mp]
      left
      by_cases y : t = v
      · rw [y, upf_s]
      · rw [upf_n _ y]
        rcases w4 t t0 t1 with y1 | ⟨y1, y2, y3⟩
        · exact y1
        · exfalso
          rw [show h.M pc t = 1 by omega, ← hv] at y3
          exact y y3.symm
    · rw [mp]
      unfold upf
      by_cases y : w = v
      · rw [if_pos y]
        exact ⟨fun u => absurd rfl u, fun u => absurd y u.2⟩
      · rw [if_neg y]
        exact ⟨fun u => ⟨u, y⟩, fun u => u.1⟩
  · rw [if_neg z]
    obtain ⟨x, hx⟩ : ∃ x, x = h.M nd s := ⟨_, rfl⟩
    rw [← hx]
    have ts := w3 s (by omega) (Int.le_refl _)
    rw [← hx] at ts
    have xv : x ≠ v := fun e => by rw [e] at ts; omega
    have U : hdn (h2.M nd) (h2.M pc) len x 1 (s - 1) cap n := by
      have en : h2.M nd = h.M nd := funext mn
      have ec : h2.M pc = upf (h.M pc) v 0 := funext mp
      rw [en, ec]
      have old : ∀ t, upf (h.M nd) 1 x t = if t = 1 then x else h.M nd t := fun t => rfl
      have opl : ∀ t, upf (upf (h.M pc) v 0) x 1 t = if t = x then 1 else if t = v then 0 else h.M pc t := fun t => rfl
      refine ⟨⟨by omega, by omega, fun t t0 t1' => ?_, fun t t0 t1' => ?_⟩, by omega, by omega, ts.1, ts.2.1, by omega, fun t t0 t1' th => ?_, fun t t0 t1' th tp => by omega⟩
      · rw [old]
        by_cases y : t = 1
        · rw [if_pos y, opl, if_pos rfl]; exact ⟨ts.1, ts.2.1, y.symm⟩
        · rw [if_neg y]
          have := w3 t t0 (by omega)
          have nx : h.M nd t ≠ x := fun e => by rw [e] at this; omega
          have nv : h.M nd t ≠ v := fun e => by rw [e] at this; omega
          rw [opl, if_neg nx, if_neg nv]
          exact this
      · rw [opl]
        by_cases y : t = x
        · rw [if_pos y]; right; exact ⟨by omega, by omega, by rw [old, if_pos rfl]; exact y.symm⟩
        · rw [if_neg y]
          by_cases y2 : t = v
          · rw [if_pos y2]; exact Or.inl rfl
          · rw [if_neg y2]
            rcases w4 t t0 t1' with y3 | ⟨y3, y4, y5⟩
            · exact Or.inl y3
            · right
              have n1 : h.M pc t ≠ s := fun e => by rw [e, ← hx] at y5; exact y y5.symm
              have n2 : h.M pc t ≠ 1 := fun e => by rw [e, ← hv] at y5; exact y2 y5.symm
              exact ⟨y3, by omega, by rw [old, if_neg n2]; exact y5⟩
      · rw [old, old, if_neg th, if_neg (by omega)]
        exact O t t0 (by omega)
    obtain ⟨c', e5, hc'⟩ := D_lesser P2 L2 (p := 1) (by omega) (by omega) (by omega) (fun t tn t0 t1' => by
      have := U.1.2.2.1 t t0 t1'
      rw [upf_n _ tn] at this
      exact ⟨this.1, this.2.1⟩)
    obtain ⟨h', e3, x3, w5, o5, s5⟩ := D_sink2 31 1 c' 0 h2 (by rw [show (1 : Int) * hpw 31 = 2147483648 from rfl]; omega) (by omega) (by omega) P2 L2 U hc'
    refine ⟨h', v, ?_, x2.tr (x3.mono fun _ _ w => Or.inl w), P2.ew x3, w5, o5, t1.1, t1.2.1, pv, min, fun w => ?_⟩
    · rw [E_Hp_sink, e5, Z_bI, e3, Z_bV]
    · rw [s5 w]
      unfold upf
      by_cases y : w = x
      · rw [if_pos y]
        exact ⟨fun _ => ⟨by rw [y]; omega, by rw [y]; exact xv⟩, fun _ => by omega⟩
      · rw [if_neg y, mp]
        unfold upf
        by_cases y2 : w = v
        · rw [if_pos y2]
          exact ⟨fun u => absurd rfl u, fun u => absurd y2 u.2⟩
        · rw [if_neg y2]
          exact ⟨fun u => ⟨u, y2⟩, fun u => u.1⟩
theorem D_empty1 {hp nd pc s cap n : Int} (hs : s ≤ cap) (c2 : cap ≤ 20000) (nn : n ≤ cap + 1) (g : nd ≠ 0) (i : pc ≠ 0) (mm : ne2 hp nd) (o : ne2 hp pc) (qq : ne2 nd pc) : ∀ (m : Nat) (k : Int) (h : mH), h.M hp 0 = nd → h.M hp 1 = pc → h.M hp 2 = s → h.N nd = cap + 1 → h.N pc = cap + 1 → k + m = s + 1 → 1 ≤ k → (∀ t, 1 ≤ t → t ≤ s → 1 ≤ h.M nd t ∧ h.M nd t < n) → (∀ v, 1 ≤ v → v ≤ cap → h.M pc v = 0 ∨ (k ≤ h.M pc v ∧ h.M pc v ≤ s ∧ h.M nd (h.M pc v) = v)) → ∃ h', Rn kHp_empty 1 [vO 3 hp, vI k] [] h = some (none, h') ∧ Ew (fun b k => b = pc ∨ (b = hp ∧ k = 2)) h h' ∧ h'.M hp 2 = 0 ∧ ∀ v, 1 ≤ v → v ≤ cap → h'.M pc v = 0 := by
  intro m
  induction m with
  | zero =>
    intro k h a b c d e ek k1 W V
    refine ⟨h.set hp 2 0, by rw [E_Hp_empty_1, c, if_neg (by omega), Z_hl], Ew.st _ _ (Or.inr ⟨rfl, rfl⟩), Z_Mt .., fun v v0 v1 => ?_⟩
    rw [Z_Mn (Or.inl o.sy)]
    rcases V v v0 v1 with w | w
    · exact w
    · omega
  | succ m ih =>
    intro k h a b c d e ek k1 W V
    have wk := W k k1 (by omega)
    have x : Ew (fun b k => b = pc ∨ (b = hp ∧ k = 2)) h (h.set pc (h.M nd k) 0) := Ew.st _ _ (Or.inl rfl)
    have mn : ∀ t, (h.set pc (h.M nd k) 0).M nd t = h.M nd t := fun t => Z_Mn (Or.inl qq)
    have mh : ∀ t, (h.set pc (h.M nd k) 0).M hp t = h.M hp t := fun t => Z_Mn (Or.inl o)
    obtain ⟨h', e1, x1, r⟩ := ih (k + 1) (h.set pc (h.M nd k) 0) ((mh 0).trans a) ((mh 1).trans b) ((mh 2).trans c) d e (by omega) (by omega) (fun t t0 t1 => by rw [mn]; exact W t t0 t1) (fun v v0 v1 => by
      by_cases y : v = h.M nd k
      · left; rw [y, Z_Mt]
      · rw [Z_Mn (Or.inr y), mn]
        rcases V v v0 v1 with w | ⟨w1, w2, w3⟩
        · exact Or.inl w
        · right
          refine ⟨?_, w2, w3⟩
          rcases Int.lt_or_le k (h.M pc v) with z | z
          · omega
          · exfalso
            rw [show h.M pc v = k by omega] at w3
            exact y w3.symm)
    refine ⟨h', ?_, x.tr x1, r⟩
    rw [E_Hp_empty_1, c, if_pos (by omega), a, gd_t g, d, if_pos (by omega), gd_t ⟨by omega, by omega, g⟩, b, e, gd_t ⟨by omega, by omega, i⟩, Z_hl, Z_wI (by omega)]
    exact e1
theorem D_empty {la hp nd pc s cap n n0 : Int} {h : mH} (P : hpo h hp nd pc la s cap n) (W : wfh (h.M nd) (h.M pc) s cap n0) (nn : n0 ≤ cap + 1) : ∃ h', Cl kHp_empty [vO 3 hp] h = some (none, h') ∧ Ew (fun b k => b = pc ∨ (b = hp ∧ k = 2)) h h' ∧ hpo h' hp nd pc la 0 cap n ∧ wfh (h'.M nd) (h'.M pc) 0 cap n ∧ ∀ v, 1 ≤ v → v ≤ cap → h'.M pc v = 0 := by
  have P' := P
  obtain ⟨a, b, c, d, e, f, g, i, j, k, l, mm, o, q⟩ := P'
  obtain ⟨w1, w2, w3, w4⟩ := W
  obtain ⟨h', e1, x1, r1, r2⟩ := D_empty1 (hp := hp) (nd := nd) (pc := pc) (s := s) w2 l nn g i mm o q.1 s.toNat 1 h a b c d e (by omega) (by omega) (fun t t0 t1 => ⟨(w3 t t0 t1).1, (w3 t t0 t1).2.1⟩) (fun v v0 v1 => w4 v v0 v1)
  refine ⟨h', by rw [E_Hp_empty]; exact e1, x1, ⟨(x1.2 hp 0 fun w => by
    rcases w with w | w
    · exact o w
    · exact absurd w.2 (by decide)).trans a, (x1.2 hp 1 fun w => by
    rcases w with w | w
    · exact o w
    · exact absurd w.2 (by decide)).trans b, r1, by rw [x1.N]; exact d, by rw [x1.N]; exact e, by rw [x1.N]; exact f, g, i, j, k, l, mm, o, q⟩, ⟨Int.le_refl _, by omega, fun t t0 t1 => by omega, fun v v0 v1 => Or.inl (r2 v v0 v1)⟩, r2⟩
