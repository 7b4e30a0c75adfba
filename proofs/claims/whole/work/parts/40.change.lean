/-! THE PURE PART, changes of a calendar: what a text says; the class's Stretch made, taken over -/
noncomputable def dto (lp : Int → Int) (o : Int) : Int × Int × Int := @dite _ (∃ t : Int × Int × Int, vd lp t.1 t.2.1 t.2.2 ∧ ord lp t.1 t.2.1 t.2.2 = o) (Classical.propDecidable _) (fun h => Classical.choose h) (fun _ => (0, 0, 0))
theorem dto_ord {lp : Int → Int} {y m d o : Int} (v : vd lp y m d) (e : ord lp y m d = o) : dto lp o = (y, m, d) := by
  have h : ∃ t : Int × Int × Int, vd lp t.1 t.2.1 t.2.2 ∧ ord lp t.1 t.2.1 t.2.2 = o := ⟨(y, m, d), v, e⟩
  unfold dto
  rw [dif_pos h]
  obtain ⟨a, b⟩ := Classical.choose_spec h
  obtain ⟨q1, q2, q3⟩ := ord_inj a v (b.trans e.symm)
  exact Prod.ext q1 (Prod.ext q2 q3)
def keyT (t : Int × Int × Int) : Int := key t.1 t.2.1 t.2.2
def codT (t : Int × Int × Int) : Int := cod t.1 t.2.1 t.2.2
def ordT (lp : Int → Int) (t : Int × Int × Int) : Int := ord lp t.1 t.2.1 t.2.2
def vdT (lp : Int → Int) (t : Int × Int × Int) : Prop := vd lp t.1 t.2.1 t.2.2
def imin (a b : Int) : Int := if a ≤ b then a else b
theorem D_min (a b : Int) (h : mH) : Cl kJ_min [vI a, vI b] h = some (some (vI (imin a b)), h) := by
  rw [E_J_min]
  unfold imin
  split <;> rfl
/-- a change, read behind its sign: year, month, day, how many are left out, the leaps behind -/
def chY (T : Int → Int) (s : Int × Int) : Int × Int × Int := nmS T 1 9999 s
def chM (T : Int → Int) (s : Int × Int) : Int × Int × Int := nmS T 1 12 (sgn T 46 (chY T s).2)
def chD (T : Int → Int) (s : Int × Int) : Int × Int × Int := nmS T 1 31 (sgn T 46 (chM T s).2)
def chE (T : Int → Int) (lp : Int → Int) (kf : Int) (s : Int × Int) : Int × Int := if (chD T s).1 ≤ dim (lp (chY T s).1) (chM T s).1 ∧ kf ≤ key (chY T s).1 (chM T s).1 (chD T s).1 then (chD T s).2 else wlS (chD T s).2
def chN (T : Int → Int) (lp : Int → Int) (kf : Int) (s : Int × Int) : Int × Int × Int := nmS T 0 30 (sgn T 45 (chE T lp kf s))
def chR (T : Int → Int) (lp : Int → Int) (kf : Int) (s : Int × Int) : Int × (Int → Int) × (Int → Int) × Int × Int := rlS T 8 0 lf0 lf0 (sgn T 58 (chN T lp kf s).2)
theorem sgn_ok {T : Int → Int} {c : Int} {s : Int × Int} (h : (sgn T c s).2 = -1) (g : s.2 = -1 → sk T s.1 ≠ -1) : s.2 = -1 ∧ T (sk T s.1) = c := by
  unfold sgn at h
  by_cases q : s.2 = -1
  · rw [if_pos q] at h
    by_cases q2 : T (sk T s.1) = c
    · exact ⟨q, q2⟩
    · rw [if_neg q2] at h
      exact absurd h (g q)
  · rw [if_neg q] at h
    exact absurd h q
theorem gs_sk {T : Int → Int} {n : Int} (hT : tpo T n) {s : Int × Int} (g : gs n s) : s.2 = -1 → sk T s.1 ≠ -1 := fun q => by
  have := sk_b hT (g q).1 (g q).2
  have := (g q).1
  omega
theorem wlS_g {n : Int} {s : Int × Int} (g : gs n s) (h : s.2 = -1 → 0 < s.1) : gs n (wlS s) ∧ (wlS s).2 ≠ -1 := by
  unfold wlS
  by_cases q : s.2 = -1
  · rw [if_pos q]
    have := h q
    exact ⟨fun z => by dsimp only at z; omega, by dsimp only; omega⟩
  · rw [if_neg q]
    exact ⟨g, q⟩
theorem nmS_pos {T : Int → Int} {n : Int} (hT : tpo T n) {s : Int × Int} (g : gs n s) {lo : Int} (hi : Int) (hlo : 0 ≤ lo ∧ lo ≤ 9999) : (nmS T lo hi s).2.2 = -1 → 0 < (nmS T lo hi s).2.1 := by
  unfold nmS
  by_cases q : s.2 = -1
  · rw [if_pos q]
    intro z
    have := (nm_b hT (hi := hi) (g q).1 (g q).2 hlo).2.2.2.2.2.2 z
    have := (g q).1
    omega
  · rw [if_neg q]
    intro z
    exact absurd z q
/-- the states of reading in a change -/
theorem ch_g {T : Int → Int} {n : Int} (hT : tpo T n) (lp : Int → Int) (kf : Int) {s : Int × Int} (g : gs n s) : gs n (chY T s).2 ∧ gs n (sgn T 46 (chY T s).2) ∧ gs n (chM T s).2 ∧ gs n (sgn T 46 (chM T s).2) ∧ gs n (chD T s).2 ∧ gs n (chE T lp kf s) ∧ gs n (sgn T 45 (chE T lp kf s)) ∧ gs n (chN T lp kf s).2 ∧ gs n (sgn T 58 (chN T lp kf s).2) := by
  have g1 := (nmS_b hT g (lo := 1) 9999 (by omega)).1
  have g2 := sgn_g hT g1 (c := 46) (by decide)
  have g3 := (nmS_b hT g2 (lo := 1) 12 (by omega)).1
  have g4 := sgn_g hT g3 (c := 46) (by decide)
  have g5 := (nmS_b hT g4 (lo := 1) 31 (by omega)).1
  have p5 := nmS_pos hT g4 (lo := 1) 31 (by omega)
  have g6 : gs n (chE T lp kf s) := by
    unfold chE
    split
    · exact g5
    · exact (wlS_g g5 p5).1
  have g7 := sgn_g hT g6 (c := 45) (by decide)
  have g8 := (nmS_b hT g7 (lo := 0) 30 (by omega)).1
  have g9 := sgn_g hT g8 (c := 58) (by decide)
  exact ⟨g1, g2, g3, g4, g5, g6, g7, g8, g9⟩
theorem ch_ok {T : Int → Int} {n : Int} (hT : tpo T n) {lp : Int → Int} {kf : Int} {s : Int × Int} (g : gs n s) (s0 : -1 ≤ s.2) (h : (chR T lp kf s).2.2.2.2 = -1) : (1 ≤ (chY T s).1 ∧ (chY T s).1 ≤ 9999) ∧ (1 ≤ (chM T s).1 ∧ (chM T s).1 ≤ 12) ∧ (1 ≤ (chD T s).1 ∧ (chD T s).1 ≤ 31) ∧ (0 ≤ (chN T lp kf s).1 ∧ (chN T lp kf s).1 ≤ 30) ∧ (chD T s).1 ≤ dim (lp (chY T s).1) (chM T s).1 ∧ kf ≤ key (chY T s).1 (chM T s).1 (chD T s).1 ∧ s.2 = -1 := by
  obtain ⟨g1, g2, g3, g4, g5, g6, g7, g8, g9⟩ := ch_g hT lp kf g
  have a9 : (sgn T 58 (chN T lp kf s).2).2 = -1 := by
    rcases rlS_b hT 8 0 lf0 lf0 _ g9 with z | z
    · exact z.2.1 h
    · exfalso
      have q : (sgn T 58 (chN T lp kf s).2).2 ≠ -1 := by omega
      have e : (chR T lp kf s) = (0, lf0, lf0, (nmS T 1 9999 (sgn T 58 (chN T lp kf s).2)).2) := rlS_bad (n := 7) (by unfold nmS; rw [if_neg q]; exact q)
      rw [e] at h
      dsimp only at h
      unfold nmS at h
      rw [if_neg q] at h
      exact q h
  have a8 := (sgn_ok a9 (gs_sk hT g8)).1
  have b8 := (nmS_b hT g7 (lo := 0) 30 (by omega)).2.2.2 a8
  have a6 := (sgn_ok b8.1 (gs_sk hT g6)).1
  have c6 : (chD T s).1 ≤ dim (lp (chY T s).1) (chM T s).1 ∧ kf ≤ key (chY T s).1 (chM T s).1 (chD T s).1 := by
    by_cases z : (chD T s).1 ≤ dim (lp (chY T s).1) (chM T s).1 ∧ kf ≤ key (chY T s).1 (chM T s).1 (chD T s).1
    · exact z
    · exfalso
      unfold chE at a6
      rw [if_neg z] at a6
      exact (wlS_g g5 (nmS_pos hT g4 (lo := 1) 31 (by omega))).2 a6
  have a5 : (chD T s).2.2 = -1 := by
    unfold chE at a6
    rw [if_pos c6] at a6
    exact a6
  have b5 := (nmS_b hT g4 (lo := 1) 31 (by omega)).2.2.2 a5
  have a3 := (sgn_ok b5.1 (gs_sk hT g3)).1
  have b3 := (nmS_b hT g2 (lo := 1) 12 (by omega)).2.2.2 a3
  have a1 := (sgn_ok b3.1 (gs_sk hT g1)).1
  have b1 := (nmS_b hT g (lo := 1) 9999 (by omega)).2.2.2 a1
  exact ⟨⟨b1.2.1, b1.2.2.1⟩, ⟨b3.2.1, b3.2.2.1⟩, ⟨b5.2.1, b5.2.2.1⟩, ⟨b8.2.1, b8.2.2.1⟩, c6.1, c6.2, b1.1⟩
/-- the first date behind a change -/
noncomputable def chF (lp : Int → Int) (y m d n : Int) : Int × Int × Int := dto lp (ord lp y m (imin d (dim (lp y) m)) + n + 1)
theorem imin_b {d x : Int} (d1 : 1 ≤ d) (x1 : 1 ≤ x) : 1 ≤ imin d x ∧ imin d x ≤ x ∧ imin d x ≤ d := by
  unfold imin
  split <;> omega
/-- there is such a date, in that year or the next -/
theorem chF_ex (lp : Int → Int) {y m d n : Int} (y1 : 1 ≤ y) (m1 : 1 ≤ m) (m2 : m ≤ 12) (d1 : 1 ≤ d) (n0 : 0 ≤ n) (n1 : n ≤ 30) : ∃ m' d', (vd lp y m' d' ∧ ord lp y m' d' = ord lp y m (imin d (dim (lp y) m)) + n + 1 ∧ dbm (lp y) m + imin d (dim (lp y) m) + n + 1 ≤ ylen (lp y) ∧ dbm (lp y) m' + d' = dbm (lp y) m + imin d (dim (lp y) m) + n + 1) ∨ (vd lp (y + 1) m' d' ∧ ord lp (y + 1) m' d' = ord lp y m (imin d (dim (lp y) m)) + n + 1 ∧ ylen (lp y) < dbm (lp y) m + imin d (dim (lp y) m) + n + 1 ∧ dbm (lp (y + 1)) m' + d' = dbm (lp y) m + imin d (dim (lp y) m) + n + 1 - ylen (lp y)) := by
  have a := dbm_0 (lp y) m1 m2
  have b := dim_b (lp y) m
  have i := imin_b d1 (x := dim (lp y) m) (by omega)
  have yl := ylen_b (lp y)
  have yl2 := ylen_b (lp (y + 1))
  have ys := yb_s lp y1
  rcases Int.lt_or_le (ylen (lp y)) (dbm (lp y) m + imin d (dim (lp y) m) + n + 1) with q | q
  · obtain ⟨m', d', a1, a2, a3, a4, a5, _⟩ := C_keyAt (h := (fun _ _ => 0, fun _ => 0, fun _ => 0, 0, 0, fun _ => 0)) (y := 1) (l := lp (y + 1)) (p := dbm (lp y) m + imin d (dim (lp y) m) + n + 1 - ylen (lp y)) (by omega) (by omega) (by omega) (by omega)
    refine ⟨m', d', Or.inr ⟨⟨by omega, a1, a2, a3, a4⟩, ?_, q, a5⟩⟩
    unfold ord
    omega
  · obtain ⟨m', d', a1, a2, a3, a4, a5, _⟩ := C_keyAt (h := (fun _ _ => 0, fun _ => 0, fun _ => 0, 0, 0, fun _ => 0)) (y := 1) (l := lp y) (p := dbm (lp y) m + imin d (dim (lp y) m) + n + 1) (by omega) (by omega) (by omega) (by omega)
    refine ⟨m', d', Or.inl ⟨⟨by omega, a1, a2, a3, a4⟩, ?_, q, a5⟩⟩
    unfold ord
    omega
theorem chF_v (lp : Int → Int) {y m d n : Int} (y1 : 1 ≤ y) (m1 : 1 ≤ m) (m2 : m ≤ 12) (d1 : 1 ≤ d) (n0 : 0 ≤ n) (n1 : n ≤ 30) : vdT lp (chF lp y m d n) ∧ ordT lp (chF lp y m d n) = ord lp y m (imin d (dim (lp y) m)) + n + 1 ∧ y ≤ (chF lp y m d n).1 ∧ (chF lp y m d n).1 ≤ y + 1 := by
  obtain ⟨m', d', ⟨v, o, _⟩ | ⟨v, o, _⟩⟩ := chF_ex lp y1 m1 m2 d1 n0 n1
  · have e : chF lp y m d n = (y, m', d') := dto_ord v o
    rw [e]
    exact ⟨v, o, by dsimp only; omega, by dsimp only; omega⟩
  · have e : chF lp y m d n = (y + 1, m', d') := dto_ord v o
    rw [e]
    exact ⟨v, o, by dsimp only; omega, by dsimp only; omega⟩
/-! the class: a Stretch is made -/
theorem C_shInit {t : Int} {h : mH} (ht : (h.cnt : Int) = t) (t0 : 0 < t) : ∃ h', Cl kSh_init [vO 9 t] h = some (none, h') ∧ h'.cnt = h.cnt + 3 ∧ h'.sl = h.sl + 16 ∧ h'.X = h.X ∧ (∀ b k, b < t → h'.M b k = h.M b k) ∧ (∀ b, b ≤ t → h'.N b = h.N b) ∧ h'.M t 0 = t + 1 ∧ h'.M t 1 = t + 2 ∧ h'.M t 2 = h.M t 2 ∧ h'.M t 5 = key 1 1 1 ∧ h'.M t 3 = 1 ∧ h'.M t 4 = 1 ∧ h'.M t 6 = 5119903 ∧ h'.M t 9 = t + 3 ∧ h'.N (t + 1) = 8 ∧ h'.N (t + 2) = 8 ∧ h'.N (t + 3) = 0 ∧ ∀ k, h'.M (t + 2) k = 0 := by
  have q : Cl kSh_init [vO 9 t] h = some (none, ((((((((((h.new 100 8).set t 0 (h.top)).new 102 8).set t 1 ((h.new 100 8).set t 0 (h.top)).top).set t 3 1).set t 4 1).set t 5 (key 1 1 1)).set t 6 5119903).new 100 0).set t 9 (((((((h.new 100 8).set t 0 (h.top)).new 102 8).set t 1 ((h.new 100 8).set t 0 (h.top)).top).set t 3 1).set t 4 1).set t 5 (key 1 1 1)).top)) := by
    rw [E_Sh_init, gd_t (by decide), Z_hl, Z_hl, E_Sh_init_1, gd_t (by decide), Z_hl, Z_hl, E_Sh_init_2, Z_hl, E_Sh_init_3, Z_hl, E_Sh_init_4, C_keyOf _ (by decide) (by decide) (by decide) (by decide) (by decide) (by decide), Z_bI, E_Sh_init_5, Z_hl, E_Sh_init_6, Z_hl, E_Sh_init_7, gd_t (by decide), Z_hl, Z_hl, E_Sh_init_8]
    rfl
  refine ⟨_, q, rfl, rfl, rfl, ?_, ?_, ?_, ?_, ?_, ?_, ?_, ?_, ?_, ?_, ?_, ?_, ?_, ?_⟩
  all_goals intros
  all_goals simp only [Z_Ms, Z_Mw, Z_Nw, Z_Ns, Z_ts, Z_tw, Z_top, Z_cs, Z_cw, Int.reduceEq, true_and, and_true, false_and, and_false, if_true, if_false]
  all_goals (repeat' split)
  all_goals first | omega | rfl
theorem clr.ew {W : Int → Int → Prop} {h h1 : mH} {q : Int} {lp : Int → Int} (R : clr h q lp) (x : Ew W h h1) (hq : ∀ k, k < 3 → ¬ W q k) (g0 : ∀ j, ¬ W (h.M q 0) j) (g1 : ∀ j, ¬ W (h.M q 1) j) : clr h1 q lp := R.cg (x.2 q 0 (hq 0 (by decide))) (x.2 q 1 (hq 1 (by decide))) (x.2 q 2 (hq 2 (by decide))) (fun j => x.2 _ j (g0 j)) (fun j => x.2 _ j (g1 j)) (by rw [x.N]) (by rw [x.N])
def WTk (t : Int) : Int → Int → Prop := fun b k => b = t ∧ (k = 3 ∨ k = 4 ∨ k = 5)
theorem C_takeOver {h : mH} {t : Int} {lp : Int → Int} (R : clr h t lp) (n0 : ne2 (h.M t 0) t) (n1 : ne2 (h.M t 1) t) {y m d n : Int} (y1 : 1 ≤ y) (y2 : y ≤ 9999) (m1 : 1 ≤ m) (m2 : m ≤ 12) (d1 : 1 ≤ d) (d2 : d ≤ 31) (k0 : 0 ≤ n) (k1 : n ≤ 30) : ∃ h', Cl kSh_takeOver [vO 9 t, vI (key y m d), vI n] h = some (none, h') ∧ Ew (WTk t) h h' ∧ h'.M t 3 = y ∧ h'.M t 4 = dbm (lp y) m + imin d (dim (lp y) m) + n + 1 ∧ h'.M t 5 = keyT (chF lp y m d n) := by
  have kk := key_y (y := y) (m := m) (d := d) (by omega) (by omega) (by omega) (by omega)
  have kb : 0 ≤ key y m d ∧ key y m d < 2147483648 := by unfold key; omega
  have a := dbm_0 (lp y) m1 m2
  have b := dim_b (lp y) m
  have i := imin_b d1 (x := dim (lp y) m) (by omega)
  have yl := ylen_b (lp y)
  have x1 : Ew (WTk t) h (h.set t 3 y) := Ew.st h _ ⟨rfl, Or.inl rfl⟩
  have R1 : clr (h.set t 3 y) t lp := R.ew x1 (fun k k3 w => by have := w.2; omega) (fun j w => n0 w.1) (fun j w => n1 w.1)
  have fp : wI (wI (dbm (lp y) m + imin d (dim (lp y) m) + n) + 1) = dbm (lp y) m + imin d (dim (lp y) m) + n + 1 := by
    rw [Z_wI (z := dbm (lp y) m + imin d (dim (lp y) m) + n) (by omega), Z_wI (by omega)]
  have x2 : Ew (WTk t) (h.set t 3 y) ((h.set t 3 y).set t 4 (dbm (lp y) m + imin d (dim (lp y) m) + n + 1)) := Ew.st _ _ ⟨rfl, Or.inr (Or.inl rfl)⟩
  have R2 : clr ((h.set t 3 y).set t 4 (dbm (lp y) m + imin d (dim (lp y) m) + n + 1)) t lp := R1.ew x2 (fun k k3 w => by have := w.2; omega) (fun j w => n0 (by have := w.1; rw [Z_Mn (by omega)] at this; exact this)) (fun j w => n1 (by have := w.1; rw [Z_Mn (by omega)] at this; exact this))
  have e3 : (h.set t 3 y).M t 3 = y := Z_Mt ..
  have e4 : ((h.set t 3 y).set t 4 (dbm (lp y) m + imin d (dim (lp y) m) + n + 1)).M t 4 = dbm (lp y) m + imin d (dim (lp y) m) + n + 1 := Z_Mt ..
  have e5 : ((h.set t 3 y).set t 4 (dbm (lp y) m + imin d (dim (lp y) m) + n + 1)).M t 3 = y := by rw [Z_Mn (by omega)]; exact e3
  refine ⟨((h.set t 3 y).set t 4 (dbm (lp y) m + imin d (dim (lp y) m) + n + 1)).set t 5 (keyT (chF lp y m d n)), ?_, (x1.tr x2).tr (Ew.st _ _ ⟨rfl, Or.inr (Or.inr rfl)⟩), ?_, ?_, Z_Mt ..⟩
  · rw [E_Sh_takeOver, C_yearOfKey h kb.1 kb.2, Z_bI, kk.1, Z_hl, e3, C_hasLeap R1 (by omega), Z_bI, C_monthOfKey _ kb.1 kb.2, Z_bI, kk.2.1, C_dateOfKey, Z_bI, kk.2.2, C_monthLength _ _ m1 m2, Z_bI, D_min, Z_bI, C_placeInYear _ _ m1 m2 (by omega) (by omega), Z_bI, fp, Z_hl, C_yearLength, Z_bI, e4, e5, Z_wI (z := dbm (lp y) m + imin d (dim (lp y) m) + n + 1 - ylen (lp y)) (by omega)]
    obtain ⟨m', d', ⟨v, o, l, p⟩ | ⟨v, o, l, p⟩⟩ := chF_ex lp y1 m1 m2 d1 k0 k1
    · have e : chF lp y m d n = (y, m', d') := dto_ord v o
      obtain ⟨m2', d2', c1, c2, c3, c4, c5, c6⟩ := C_keyAt ((h.set t 3 y).set t 4 (dbm (lp y) m + imin d (dim (lp y) m) + n + 1)) (y := y) (l := lp y) (p := dbm (lp y) m + imin d (dim (lp y) m) + n + 1) (by omega) (by omega) (by omega) l
      obtain ⟨v1, v2, v3, v4, v5⟩ := v
      obtain ⟨q1, q2⟩ := pl_inj (lp y) c1 c2 c3 c4 v2 v3 v4 v5 (c5.trans p.symm)
      rw [if_pos (by omega), c6, Z_bI, Z_hl, e, q1, q2]
      rfl
    · have e : chF lp y m d n = (y + 1, m', d') := dto_ord v o
      have yl2 := ylen_b (lp (y + 1))
      obtain ⟨m2', d2', c1, c2, c3, c4, c5, c6⟩ := C_keyAt ((h.set t 3 y).set t 4 (dbm (lp y) m + imin d (dim (lp y) m) + n + 1)) (y := y + 1) (l := lp (y + 1)) (p := dbm (lp y) m + imin d (dim (lp y) m) + n + 1 - ylen (lp y)) (by omega) (by omega) (by omega) (by omega)
      obtain ⟨v1, v2, v3, v4, v5⟩ := v
      obtain ⟨q1, q2⟩ := pl_inj (lp (y + 1)) c1 c2 c3 c4 v2 v3 v4 v5 (c5.trans p.symm)
      rw [if_neg (by omega), Z_wI (z := y + 1) (by omega), C_hasLeap R2 (by omega), Z_bI, c6, Z_bI, Z_hl, e, q1, q2]
      rfl
  · rw [Z_Mn (by omega)]; exact e5
  · rw [Z_Mn (by omega)]; exact e4
theorem C_canEndOn {h : mH} {q : Int} {lp : Int → Int} (R : clr h q lp) {y m d : Int} (y1 : 1 ≤ y) (y2 : y ≤ 9999) (m1 : 1 ≤ m) (m2 : m ≤ 12) (d1 : 1 ≤ d) (d2 : d ≤ 31) : Cl kSh_canEndOn [vO 9 q, vI y, vI m, vI d] h = some (some (vI (bz (d ≤ dim (lp y) m ∧ h.M q 5 ≤ key y m d))), h) := by
  rw [E_Sh_canEndOn, C_hasLeap R (by omega), Z_bI, C_monthLength _ _ m1 m2, Z_bI]
  by_cases a : d ≤ dim (lp y) m
  · rw [if_pos a, C_keyOf _ (by omega) (by omega) (by omega) (by omega) (by omega) (by omega), Z_bI]
    by_cases b : key y m d < h.M q 5
    · rw [if_pos b, gd_t (Or.inl rfl), bz_f fun z => by have := z.2; omega]
    · rw [if_neg b, gd_t (Or.inr rfl), bz_t ⟨a, by omega⟩]
  · rw [if_neg a, gd_t (Or.inl rfl), bz_f fun z => a z.1]
