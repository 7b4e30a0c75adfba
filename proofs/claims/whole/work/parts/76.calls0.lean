/-! THE PURE PART, calls: what a call owes; calendars' calls -/
theorem n10 : ¬ ((1 : Int) = 0) := by decide
theorem z00 : (0 : Int) = 0 := rfl
def pot (h : mH) : Int := 60000 * (h.M 1 3 + h.M 1 5) + (if h.M 1 18 = 0 then 0 else 40000) + (if h.M 1 19 = 0 then 0 else 40000)
def stp (h h2 : mH) : Prop := h2.cnt ≤ h.cnt + 100 ∧ (h2.sl : Int) - pot h2 ≤ (h.sl : Int) - pot h + 1000 ∧ h2.X = h.X
def IV (h : mH) : Prop := ∃ T n nc Ds nh Xs, INV h T n nc Ds nh Xs
def okc (kx km : Nat) (as : List mV) : Prop := ∀ h, IV h → ∃ v h1 h2, Cl kx (vO 10 1 :: as) h = some (some (vI v), h1) ∧ Cl km (vO 11 9 :: as) h1 = some (some (vI v), h2) ∧ IV h2 ∧ stp h h2 ∧ h1.X = h.X
theorem pot_eq {h h2 : mH} (a : h2.M 1 3 = h.M 1 3) (b : h2.M 1 5 = h.M 1 5) (c : h2.M 1 18 = h.M 1 18) (d : h2.M 1 19 = h.M 1 19) : pot h2 = pot h := by
  unfold pot
  rw [a, b, c, d]
/-- a query: nothing that stands is written -/
theorem okq {kx km : Nat} {as : List mV} (Q : ∀ h T n nc Ds nh Xs, INV h T n nc Ds nh Xs → ∃ v h1 h2, Cl kx (vO 10 1 :: as) h = some (some (vI v), h1) ∧ Fr (fun _ _ => False) 50 900 h h1 ∧ Cl km (vO 11 9 :: as) h1 = some (some (vI v), h2) ∧ Ew (Scr nc nh) h1 h2) : okc kx km as := by
  intro h ⟨T, n, nc, Ds, nh, Xs, I⟩
  obtain ⟨v, h1, h2, e1, x1, e2, x2⟩ := Q h T n nc Ds nh Xs I
  have I1 := I.kp (x1.fb (Int.le_refl _) fun b k _ w => w.elim)
  have I2 := I1.ew x2 fun _ _ w => w
  have c := I.1.2.2
  have e : ∀ k, k = 3 ∨ k = 5 ∨ k = 18 ∨ k = 19 → h2.M 1 k = h.M 1 k := fun k hk => (x2.2 1 k fun w => by have := scr_b w; omega).trans (x1.1 1 k (by omega) fun w => w)
  refine ⟨v, h1, h2, e1, e2, ⟨T, n, nc, Ds, nh, Xs, I2⟩, ⟨?_, ?_, ?_⟩, x1.2.2.2.2.2⟩
  · rw [x2.cnt]; have := x1.2.2.2.1; omega
  · rw [pot_eq (e 3 (by omega)) (e 5 (by omega)) (e 18 (by omega)) (e 19 (by omega)), x2.sl]
    have := x1.2.2.2.2.1
    omega
  · rw [x2.X]; exact x1.2.2.2.2.2
theorem okq1 {kx km : Nat} {as : List mV} (Q : ∀ h T n nc Ds nh Xs, INV h T n nc Ds nh Xs → ∃ v h2, Cl kx (vO 10 1 :: as) h = some (some (vI v), h) ∧ Cl km (vO 11 9 :: as) h = some (some (vI v), h2) ∧ Ew (Scr nc nh) h h2) : okc kx km as := okq fun h T n nc Ds nh Xs I => by
  obtain ⟨v, h2, e1, e2, x2⟩ := Q h T n nc Ds nh Xs I
  exact ⟨v, h, h2, e1, (Fr.rf _ h).mono (fun _ _ w => w) (by decide) (by decide), e2, x2⟩
theorem okq0 {kx km : Nat} {as : List mV} (Q : ∀ h T n nc Ds nh Xs, INV h T n nc Ds nh Xs → ∃ v, Cl kx (vO 10 1 :: as) h = some (some (vI v), h) ∧ Cl km (vO 11 9 :: as) h = some (some (vI v), h)) : okc kx km as := okq1 fun h T n nc Ds nh Xs I => by
  obtain ⟨v, e1, e2⟩ := Q h T n nc Ds nh Xs I
  exact ⟨v, h, e1, e2, Ew.rf _ _⟩
theorem C_almAt {h : mH} {T : Int → Int} {n nc : Int} {Ds : Int → Int → Int → Int → Int} {nh : Int} {Xs : Int → HX} (I : INV h T n nc Ds nh Xs) (c : Int) : Cl kX_almanacAt [vO 10 1, vI c] h = some (some (vR 0 (if 0 ≤ c ∧ c < nc then h.M 3 c else 0)), h) := by
  have L := I.1
  have nb := I.nc
  rw [E_X_almanacAt, I.2.2.1.2.1, lx2 L, ln3 L]
  by_cases q : c < 0
  · rw [if_pos q, if_neg (by omega)]
  · rw [if_neg q]
    by_cases w : c < nc
    · rw [if_pos w, gd_t (by omega), if_pos (by omega)]
    · rw [if_neg w, if_neg (by omega)]
theorem C_headAt {h : mH} {T : Int → Int} {n nc : Int} {Ds : Int → Int → Int → Int → Int} {nh : Int} {Xs : Int → HX} (I : INV h T n nc Ds nh Xs) (c : Int) : Cl kX_headAt [vO 10 1, vI c] h = some (some (vR 2 (if 0 ≤ c ∧ c < nh then h.M 4 c else 0)), h) := by
  have L := I.1
  have nb := I.nh
  rw [E_X_headAt, I.2.2.2.1.2.1, lx4 L, ln4 L]
  by_cases q : c < 0
  · rw [if_pos q, if_neg (by omega)]
  · rw [if_neg q]
    by_cases w : c < nh
    · rw [if_pos w, gd_t (by omega), if_pos (by omega)]
    · rw [if_neg w, if_neg (by omega)]
theorem INV.q0 {h : mH} {T : Int → Int} {n nc : Int} {Ds : Int → Int → Int → Int → Int} {nh : Int} {Xs : Int → HX} (I : INV h T n nc Ds nh Xs) {c : Int} (c0 : 0 ≤ c) (c1 : c < nh) : h.M 4 c ≠ 0 := by
  have := (I.hik c0 c1).2.2.1.1.2.2.2.2.2.2.2
  omega
theorem R_isHead {h : mH} {T : Int → Int} {n nc : Int} {Ds : Int → Int → Int → Int → Int} {nh : Int} {Xs : Int → HX} (I : INV h T n nc Ds nh Xs) (c : Int) : Cl kM_isHead [vO 11 9, vI c] h = some (some (vI (bz (0 ≤ c ∧ c < nh))), h) := by
  have nb := I.nh
  rw [E_M_isHead, I.2.2.2.1.1, Z_wI (by omega), R_in, Z_bI, gd_t (bz_01 _)]
  by_cases q : 0 ≤ c ∧ c < nh
  · rw [bz_t q, bz_t (by omega)]
  · rw [bz_f q, bz_f (by omega)]
theorem C_dayIn {h : mH} {T : Int → Int} {n nc : Int} {Ds : Int → Int → Int → Int → Int} {nh : Int} {Xs : Int → HX} (I : INV h T n nc Ds nh Xs) (c y m d : Int) : Cl kX_dayIn [vO 10 1, vI c, vI y, vI m, vI d] h = some (some (vI (if 0 ≤ c ∧ c < nc then Ds c y m d else -1)), h) := by
  rw [E_X_dayIn, C_almAt I, Z_bR]
  by_cases q : 0 ≤ c ∧ c < nc
  · have A := I.cok q.1 q.2
    rw [if_pos q, if_neg A.a0, gd_t A.a0, A.day, Z_bI, if_pos q]
  · rw [if_neg q, if_pos rfl, if_neg q]
def prt (w y m d : Int) : Int := if w = 0 then y else if w = 1 then m else d
theorem C_partOfKey {y m d : Int} (T : dtl y m d) (w : Int) (h : mH) : Cl kX_partOfKey [vI (key y m d), vI w] h = some (some (vI (prt w y m d)), h) := by
  obtain ⟨ty, tm, td⟩ := T
  have kb : 0 ≤ key y m d ∧ key y m d < 2147483648 := by
    unfold key
    omega
  have k := key_y (y := y) (m := m) (d := d) (by omega) (by omega) (by omega) (by omega)
  rw [E_X_partOfKey, C_yearOfKey h kb.1 kb.2, C_monthOfKey h kb.1 kb.2, C_dateOfKey, Z_bI, Z_bI, Z_bI, k.1, k.2.1, k.2.2]
  unfold prt
  by_cases a : w = 0
  · rw [if_pos a, if_pos a]
  · rw [if_neg a, if_neg a]
    by_cases b : w = 1
    · rw [if_pos b, if_pos b]
    · rw [if_neg b, if_neg b]
theorem R_partOf {y m d : Int} (T : dtl y m d) (w : Int) (h : mH) : Cl kM_partOf [vI (cod y m d), vI w] h = some (some (vI (prt w y m d)), h) := by
  obtain ⟨ty, tm, td⟩ := T
  have c0 : 0 ≤ cod y m d ∧ cod y m d / 10000 = y ∧ cod y m d / 100 % 100 = m ∧ cod y m d % 100 = d ∧ cod y m d ≤ 100000000 := by
    unfold cod
    omega
  rw [E_M_partOf, gd_t (by decide), gd_t (by decide), gd_t (by decide), gd_t (by decide), Z_tdiv c0.1, Z_tdiv c0.1, Z_tmod c0.1, Z_wI (z := cod y m d / 10000) (by omega), Z_wI (z := cod y m d / 100) (by omega), Z_tmod (by omega), c0.2.1, c0.2.2.1, c0.2.2.2.1]
  unfold prt
  by_cases a : w = 0
  · rw [if_pos a, if_pos a]
  · rw [if_neg a, if_neg a]
    by_cases b : w = 1
    · rw [if_pos b, if_pos b]
    · rw [if_neg b, if_neg b]
theorem cck.key {h : mH} {a : Int} {D : Int → Int → Int → Int} (A : cck h a D) (day : Int) : Cl kAl_keyOn [vO 0 a, vI day] h = some (some (vI (kyD D day)), h) := by
  obtain ⟨c0, c1, A, _⟩ := A
  exact A_key A day
theorem cck.dates {h : mH} {a : Int} {D : Int → Int → Int → Int} (A : cck h a D) {y m : Int} (y1 : 1 ≤ y) (y2 : y ≤ 9999) (m1 : 1 ≤ m) (m2 : m ≤ 12) : Cl kAl_datesIn [vO 0 a, vI y, vI m] h = some (some (vI (cn (fun d => D y m d ≠ -1) 31 1)), h) := by
  obtain ⟨c0, c1, A, _⟩ := A
  exact A_dates A y1 y2 m1 m2
/-- the date of a day: one answer of both -/
theorem day_both {D : Int → Int → Int → Int} (O : Dok D) (day : Int) : (∃ y m d, dtl y m d ∧ D y m d = day ∧ day ≠ -1 ∧ kyD D day = key y m d ∧ cyD D day = cod y m d ∧ key y m d ≠ -1 ∧ cod y m d ≠ -1 ∧ 0 ≤ day) ∨ (kyD D day = -1 ∧ cyD D day = -1) := by
  rcases dy_cases O day with ⟨y, m, d, a, b, c, e, f⟩ | g
  · left
    refine ⟨y, m, d, a, b, c, e, f, ?_, ?_, ?_⟩
    · obtain ⟨ty, tm, td⟩ := a
      unfold key
      omega
    · obtain ⟨ty, tm, td⟩ := a
      unfold cod
      omega
    · have := (O.1 y m d).1
      omega
  · exact Or.inr g
theorem ok_date {c day w : Int} (dI : inI day) : okc kX_date kM_date [vI c, vI day, vI w] := okq0 fun h T n nc Ds nh Xs I => by
  rw [E_X_date, C_almAt I, Z_bR, E_M_date, R_isCal I.mcs, Z_bI]
  by_cases q : 0 ≤ c ∧ c < nc
  · have A := I.cok q.1 q.2
    rw [if_pos q, if_neg A.a0, bz_t q, if_neg n10, R_in, Z_bI]
    by_cases w0 : w < 0
    · exact ⟨-1, by rw [if_pos w0], by rw [bz_f (by omega), if_pos rfl]⟩
    · rw [if_neg w0]
      by_cases w3 : w ≤ 3
      · rw [if_pos w3, gd_t A.a0, A.key, Z_bI, bz_t (by omega), if_neg n10, R_dateOf I.mcs q.1 q.2 dI, Z_bI]
        rcases day_both A.ok day with ⟨y, m, d, a, b, e, f, g, k1, k2, d0⟩ | ⟨f, g⟩
        · rw [f, g, if_neg k1, if_neg k2]
          by_cases w4 : w = 3
          · exact ⟨_, by rw [if_pos w4, gd_t (by decide)], by rw [if_pos w4, gd_t (by decide)]⟩
          · exact ⟨_, by rw [if_neg w4, C_partOfKey a, Z_bI], by rw [if_neg w4, R_partOf a, Z_bI]⟩
        · exact ⟨-1, by rw [f, if_pos rfl], by rw [g, if_pos rfl]⟩
      · exact ⟨-1, by rw [if_neg w3], by rw [bz_f (by omega), if_pos rfl]⟩
  · exact ⟨-1, by rw [if_neg q, if_pos rfl], by rw [bz_f q, if_pos rfl]⟩
theorem ok_turned {c y m d o w : Int} : okc kX_turned kM_turned [vI c, vI y, vI m, vI d, vI o, vI w] := okq0 fun h T n nc Ds nh Xs I => by
  rw [E_X_turned, C_almAt I, Z_bR, C_dayIn I, Z_bI, E_M_turned, R_isDate I.mcs, Z_bI]
  by_cases p : isd nc Ds c y m d
  · have O := I.dok p.1.1 p.1.2
    have db := O.1 y m d
    have d1 := p.2
    rw [if_pos p.1, cb_t p, if_neg n10, R_isCal I.mcs, Z_bI]
    by_cases q : 0 ≤ o ∧ o < nc
    · have A := I.cok q.1 q.2
      rw [if_pos q, if_neg A.a0, bz_t q, if_neg n10, R_in, Z_bI, if_neg d1]
      by_cases w0 : w < 0
      · exact ⟨-1, by rw [if_pos w0], by rw [bz_f (by omega), if_pos rfl]⟩
      · rw [if_neg w0]
        by_cases w3 : w ≤ 2
        · rw [if_pos w3, gd_t A.a0, A.key, Z_bI, bz_t (by omega), if_neg n10, R_dayOf I.mcs p, Z_bI, E_M_date, R_isCal I.mcs, Z_bI, bz_t q, if_neg n10, R_in, Z_bI, bz_t (by omega), if_neg n10, R_dateOf I.mcs q.1 q.2 (by omega), Z_bI]
          rcases day_both A.ok (Ds c y m d) with ⟨y', m', d', a, b, e, f, g, k1, k2, d0⟩ | ⟨f, g⟩
          · rw [f, g, if_neg k1, if_neg k2, if_neg (by omega)]
            exact ⟨_, by rw [C_partOfKey a, Z_bI], by rw [R_partOf a, Z_bI, Z_bI]⟩
          · exact ⟨-1, by rw [f, if_pos rfl], by rw [g, if_pos rfl, Z_bI]⟩
        · exact ⟨-1, by rw [if_neg w3], by rw [bz_f (by omega), if_pos rfl]⟩
    · exact ⟨-1, by rw [if_neg q, if_pos rfl], by rw [bz_f q, if_pos rfl]⟩
  · refine ⟨-1, ?_, by rw [cb_f p, if_pos rfl]⟩
    have e : (if 0 ≤ c ∧ c < nc then Ds c y m d else -1) = -1 := by
      by_cases q : 0 ≤ c ∧ c < nc
      · rw [if_pos q]
        by_cases r : Ds c y m d = -1
        · exact r
        · exact absurd ⟨q, r⟩ p
      · rw [if_neg q]
    rw [e, if_pos rfl]
    by_cases z : (if 0 ≤ o ∧ o < nc then h.M 3 o else 0) = 0
    · rw [if_pos z]
    · rw [if_neg z]
theorem kd_Y {D : Int → Int → Int → Int} (O : Dok D) (y : Int) : kdD D y = kdY D y := by
  unfold kdY
  by_cases q : 1 ≤ y ∧ y ≤ 9999
  · rw [if_pos q]
  · rw [if_neg q]
    unfold kdD
    exact if_neg fun z => q (O.2.1 y 1 1 z.1).1
theorem ok_kind {c y : Int} : okc kX_kind kM_kind [vI c, vI y] := okq0 fun h T n nc Ds nh Xs I => by
  rw [E_X_kind, C_almAt I, Z_bR, E_M_kind, R_isCal I.mcs, Z_bI]
  by_cases q : 0 ≤ c ∧ c < nc
  · have A := I.cok q.1 q.2
    exact ⟨kdY (Ds c) y, by rw [if_pos q, if_neg A.a0, gd_t A.a0, A.kind, Z_bI], by rw [bz_t q, if_neg n10, R_kindOf I.mcs q.1 q.2, Z_bI, kd_Y A.ok]⟩
  · exact ⟨-1, by rw [if_neg q, if_pos rfl], by rw [bz_f q, if_pos rfl]⟩
theorem ok_count {w : Int} : okc kX_count kM_count [vI w] := okq0 fun h T n nc Ds nh Xs I => by
  obtain ⟨L, it, ic, ih, ia, ip, ie, ik, ib, iw, ig⟩ := I
  rw [E_X_count, E_M_count, ic.1, ic.2.1, ih.1, ih.2.1, ia.1, ip.1, ie.1, it.2.1, it.2.2.1, iw.1]
  by_cases w0 : w = 0
  · exact ⟨nc, by rw [if_pos w0], by rw [if_pos w0]⟩
  · rw [if_neg w0, if_neg w0]
    by_cases w1 : w = 1
    · exact ⟨nh, by rw [if_pos w1], by rw [if_pos w1]⟩
    · rw [if_neg w1, if_neg w1]
      by_cases w2 : w = 2
      · exact ⟨_, by rw [if_pos w2], by rw [if_pos w2]⟩
      · rw [if_neg w2, if_neg w2]
        by_cases w3 : w = 3
        · exact ⟨_, by rw [if_pos w3], by rw [if_pos w3]⟩
        · rw [if_neg w3, if_neg w3]
          by_cases w4 : w = 4
          · exact ⟨_, by rw [if_pos w4], by rw [if_pos w4]⟩
          · rw [if_neg w4, if_neg w4]
            by_cases w5 : w = 5
            · exact ⟨_, by rw [if_pos w5], by rw [if_pos w5]⟩
            · rw [if_neg w5, if_neg w5]
              by_cases w6 : w = 6
              · rw [if_pos w6, if_pos w6]
                rcases ib with ⟨b1, b2⟩ | ⟨b1, b2⟩
                · exact ⟨-1, by rw [if_pos b1], by rw [b2]⟩
                · refine ⟨_, by rw [if_neg b1.2.2.2.2.2.2.2.1, gd_t b1.2.2.2.2.2.2.2.1], ?_⟩
                  rw [b2, b1.2.2.2.2.2.2.1]
              · rw [if_neg w6, if_neg w6]
                by_cases w7 : w = 7
                · exact ⟨_, by rw [if_pos w7], by rw [if_pos w7]⟩
                · exact ⟨_, by rw [if_neg w7], by rw [if_neg w7]⟩
