/-! THE PURE PART, what a head tells: the class, the reference -/
theorem mulb {a b A B : Int} (a0 : 0 ≤ a) (a1 : a ≤ A) (b0 : 0 ≤ b) (b1 : b ≤ B) : 0 ≤ a * b ∧ a * b ≤ A * B := ⟨Int.mul_nonneg a0 b0, Int.mul_le_mul a1 b1 b0 (Int.le_trans a0 a1)⟩
theorem C_endOf {h : mH} {w n : Int} {L N E : Int → Int} (R : rwk h w n L N E) (v : Int) : Cl kRw_endOf [vO 6 w, vI v] h = some (some (vI (if 1 ≤ v ∧ v < n then E v else 0)), h) := by
  have R1 := R.1
  obtain ⟨⟨a, b, c⟩, ⟨d, f, g⟩, i, j, k⟩ := R1
  rw [E_Rw_endOf, C_rwHas R.1, Z_bI]
  by_cases q : 1 ≤ v ∧ v < n
  · rw [bz_t q, if_neg (by decide), c, g, gd_t (by omega), (R.2 v q.1 q.2).2.2, if_pos q]
  · rw [bz_f q, if_pos rfl, if_neg q]
theorem C_nextOf {h : mH} {w n : Int} {L N E : Int → Int} (R : rwk h w n L N E) (v : Int) : Cl kRw_nextOf [vO 6 w, vI v] h = some (some (vI (if 1 ≤ v ∧ v < n then N v else 0)), h) := by
  have R1 := R.1
  obtain ⟨⟨a, b, c⟩, ⟨d, f, g⟩, i, j, k⟩ := R1
  rw [E_Rw_nextOf, C_rwHas R.1, Z_bI]
  by_cases q : 1 ≤ v ∧ v < n
  · rw [bz_t q, if_neg (by decide), b, f, gd_t (by omega), (R.2 v q.1 q.2).2.1, if_pos q]
  · rw [bz_f q, if_pos rfl, if_neg q]
def lnb (n : Int) (L : Int → Int) : Prop := ∀ u, 1 ≤ u → u < n → 0 ≤ L u ∧ L u ≤ 1152921504606846976 ∧ (L u ≠ 1152921504606846976 → L u / 16384 ≤ 989901 ∧ L u % 16384 ≤ 9999)
theorem rsp_lnb {n lc : Int} {ov : Int → Int → Int} {ct : Int → Int} {src : Int → Prop} {L N E : Int → Int} (n1 : n ≤ 10000) (R : rsp n lc ov ct src L N E) : lnb n L := fun u u0 u1 => ⟨(R.1 u u0 u1).1, (R.1 u u0 u1).2.1, fun z => by have := (R.1 u u0 u1).2.2 z; omega⟩
def coR (n : Int) (L : Int → Int) (v : Int) : Int := if (1 ≤ v ∧ v < n) ∧ L v ≠ 1152921504606846976 then L v / 16384 else -1
theorem C_costOf {h : mH} {w n : Int} {L N E : Int → Int} (R : rwk h w n L N E) (B : lnb n L) (v : Int) : Cl kRw_costOf [vO 6 w, vI v] h = some (some (vI (coR n L v)), h) := by
  have R1 := R.1
  obtain ⟨⟨a, b, c⟩, ⟨d, f, g⟩, i, j, k⟩ := R1
  rw [E_Rw_costOf, C_rwHas R.1, Z_bI]
  unfold coR
  by_cases q : 1 ≤ v ∧ v < n
  · have bv := B v q.1 q.2
    rw [bz_t q, if_neg (by decide), a, d, gd_t (by omega), (R.2 v q.1 q.2).1, ifL]
    by_cases z : L v = 1152921504606846976
    · rw [if_neg (by omega), if_neg fun w => w.2 z]
    · have b2 := bv.2.2 z
      rw [if_pos (by omega), gd_t (by omega), gd_t (by decide), if_pos ⟨q, z⟩, Z_tdiv bv.1, Z_wL (by omega), Z_wI (by omega)]
  · rw [bz_f q, if_pos rfl, if_neg fun w => q w.1]
def scR (n : Int) (L : Int → Int) (v : Int) : Int := if (1 ≤ v ∧ v < n) ∧ L v ≠ 1152921504606846976 then L v % 16384 else 0
theorem C_stepCount {h : mH} {w n : Int} {L N E : Int → Int} (R : rwk h w n L N E) (B : lnb n L) (v : Int) : Cl kRw_stepCount [vO 6 w, vI v] h = some (some (vI (scR n L v)), h) := by
  have R1 := R.1
  obtain ⟨⟨a, b, c⟩, ⟨d, f, g⟩, i, j, k⟩ := R1
  rw [E_Rw_stepCount, C_rwHas R.1, Z_bI]
  unfold scR
  by_cases q : 1 ≤ v ∧ v < n
  · have bv := B v q.1 q.2
    rw [bz_t q, if_neg (by decide), a, d, gd_t (by omega), (R.2 v q.1 q.2).1, ifL]
    by_cases z : L v = 1152921504606846976
    · rw [if_neg (by omega), if_neg fun w => w.2 z]
    · have b2 := bv.2.2 z
      rw [if_pos (by omega), gd_t (by omega), gd_t (by decide), if_pos ⟨q, z⟩, Z_tmod bv.1, Z_wI (by omega)]
  · rw [bz_f q, if_pos rfl, if_neg fun w => q w.1]
def xt (H : HD) (k : Int) : Int := imax (H 11 k) 0
theorem xt_b {H : HD} (V : hdv H) (k : Int) : 0 ≤ xt H k ∧ xt H k ≤ 99 ∧ (if H 11 k = -1 then 0 else H 11 k) = xt H k := by
  have := V.2.2.2.2.2.2.2 k
  unfold xt imax
  split <;> split <;> omega
def anD (X : HX) (D : Int → Int → Int → Int) (y m d : Int) : Int := (D (hEY X y) (hEM X m) 1 + (d - 1)) % 7
def tnD (X : HX) (D : Int → Int → Int → Int) (y m d : Int) : Int := xt (hH X) 2 + (hLY X y / 16384 + hLM X m / 16384) + xt (hH X) 0 * ((d - 1) / 7) + xt (hH X) 1 * ((d - 1) % 7) + (if D (hEY X y) 2 29 = -1 then 0 else xt (hH X) 3)
def toD (X : HX) (D : Int → Int → Int → Int) (y m d : Int) : Int := if D y m d = -1 then -1 else if D (hEY X y) (hEM X m) 1 = -1 then -1 else 7 * tnD X D y m d + anD X D y m d
theorem told_a {b cy cm s r f d : Int} (b0 : 0 ≤ b ∧ b ≤ 99) (y0 : 0 ≤ cy ∧ cy ≤ 1000000) (m0 : 0 ≤ cm ∧ cm ≤ 1000000) (s0 : 0 ≤ s ∧ s ≤ 99) (r0 : 0 ≤ r ∧ r ≤ 99) (f0 : 0 ≤ f ∧ f ≤ 20000000) (d0 : 1 ≤ d ∧ d ≤ 31) : wI (wI (wI (wI (wI (b + cy) + cm) + wI (wI (s * wI (Int.tdiv (wI (d - 1)) 7)) + wI (r * Int.tmod (wI (d - 1)) 7))) * 7) + Int.tmod (wI (f + wI (d - 1))) 7) = 7 * (b + (cy + cm) + s * ((d - 1) / 7) + r * ((d - 1) % 7) + 0) + (f + (d - 1)) % 7 := by
  have p := mulb s0.1 s0.2 (by omega : 0 ≤ (d - 1) / 7) (by omega : (d - 1) / 7 ≤ 4)
  have q := mulb r0.1 r0.2 (by omega : 0 ≤ (d - 1) % 7) (by omega : (d - 1) % 7 ≤ 6)
  rw [Z_wI (z := d - 1) (by omega), Z_tdiv (by omega), Z_tmod (a := d - 1) (by omega), Z_wI (z := (d - 1) / 7) (by omega)]
  generalize s * ((d - 1) / 7) = u at p ⊢
  generalize r * ((d - 1) % 7) = v at q ⊢
  rw [Z_wI (z := u) (by omega), Z_wI (z := v) (by omega), Z_wI (z := u + v) (by omega), Z_wI (z := b + cy) (by omega), Z_wI (z := b + cy + cm) (by omega), Z_wI (z := b + cy + cm + (u + v)) (by omega), Z_wI (z := (b + cy + cm + (u + v)) * 7) (by omega), Z_wI (z := f + (d - 1)) (by omega), Z_tmod (by omega), Z_wI (by omega)]
  omega
theorem told_b {b cy cm s r l f d : Int} (b0 : 0 ≤ b ∧ b ≤ 99) (y0 : 0 ≤ cy ∧ cy ≤ 1000000) (m0 : 0 ≤ cm ∧ cm ≤ 1000000) (s0 : 0 ≤ s ∧ s ≤ 99) (r0 : 0 ≤ r ∧ r ≤ 99) (l0 : 0 ≤ l ∧ l ≤ 99) (f0 : 0 ≤ f ∧ f ≤ 20000000) (d0 : 1 ≤ d ∧ d ≤ 31) : wI (wI (wI (wI (wI (wI (b + cy) + cm) + wI (wI (s * wI (Int.tdiv (wI (d - 1)) 7)) + wI (r * Int.tmod (wI (d - 1)) 7))) + l) * 7) + Int.tmod (wI (f + wI (d - 1))) 7) = 7 * (b + (cy + cm) + s * ((d - 1) / 7) + r * ((d - 1) % 7) + l) + (f + (d - 1)) % 7 := by
  have p := mulb s0.1 s0.2 (by omega : 0 ≤ (d - 1) / 7) (by omega : (d - 1) / 7 ≤ 4)
  have q := mulb r0.1 r0.2 (by omega : 0 ≤ (d - 1) % 7) (by omega : (d - 1) % 7 ≤ 6)
  rw [Z_wI (z := d - 1) (by omega), Z_tdiv (by omega), Z_tmod (a := d - 1) (by omega), Z_wI (z := (d - 1) / 7) (by omega)]
  generalize s * ((d - 1) / 7) = u at p ⊢
  generalize r * ((d - 1) % 7) = v at q ⊢
  rw [Z_wI (z := u) (by omega), Z_wI (z := v) (by omega), Z_wI (z := u + v) (by omega), Z_wI (z := b + cy) (by omega), Z_wI (z := b + cy + cm) (by omega), Z_wI (z := b + cy + cm + (u + v)) (by omega), Z_wI (z := b + cy + cm + (u + v) + l) (by omega), Z_wI (z := (b + cy + cm + (u + v) + l) * 7) (by omega), Z_wI (z := f + (d - 1)) (by omega), Z_tmod (by omega), Z_wI (by omega)]
  omega
theorem told_m {b sy sn s r l d : Int} (b0 : 0 ≤ b ∧ b ≤ 99) (y0 : 0 ≤ sy ∧ sy ≤ 100000000000) (m0 : 0 ≤ sn ∧ sn ≤ 100000000000) (s0 : 0 ≤ s ∧ s ≤ 99) (r0 : 0 ≤ r ∧ r ≤ 99) (l0 : 0 ≤ l ∧ l ≤ 99) (d0 : 1 ≤ d ∧ d ≤ 31) : wI (wI (wI (wI (b + wI (wL (wL (Int.tdiv sy 100000) + wL (Int.tdiv sn 100000)))) + wI (s * wI (Int.tdiv (wI (d - 1)) 7))) + wI (r * Int.tmod (wI (d - 1)) 7)) + l) = b + (sy / 100000 + sn / 100000) + s * ((d - 1) / 7) + r * ((d - 1) % 7) + l := by
  have p := mulb s0.1 s0.2 (by omega : 0 ≤ (d - 1) / 7) (by omega : (d - 1) / 7 ≤ 4)
  have q := mulb r0.1 r0.2 (by omega : 0 ≤ (d - 1) % 7) (by omega : (d - 1) % 7 ≤ 6)
  rw [Z_wI (z := d - 1) (by omega), Z_tdiv (a := d - 1) (by omega), Z_tmod (a := d - 1) (by omega), Z_wI (z := (d - 1) / 7) (by omega), Z_tdiv y0.1, Z_tdiv m0.1]
  generalize s * ((d - 1) / 7) = u at p ⊢
  generalize r * ((d - 1) % 7) = v at q ⊢
  rw [Z_wL (z := sy / 100000) (by omega), Z_wL (z := sn / 100000) (by omega), Z_wL (by omega), Z_wI (z := sy / 100000 + sn / 100000) (by omega), Z_wI (z := u) (by omega), Z_wI (z := v) (by omega), Z_wI (z := b + (sy / 100000 + sn / 100000)) (by omega), Z_wI (z := b + (sy / 100000 + sn / 100000) + u) (by omega), Z_wI (z := b + (sy / 100000 + sn / 100000) + u + v) (by omega), Z_wI (by omega)]
theorem C_extraOf {h : mH} {q : Int} {H : HD} (C : chl h q) (D : chd h q H) {k : Int} (k0 : 0 ≤ k) (k4 : k < 4) : Cl kHd_extraOf [vO 2 q, vI k] h = some (some (vI (xt H k)), h) := by
  rw [E_Hd_extraOf, C.1.2.2.2.2.2, C.2.2.2.2.2.2.1, gd_t (by have := C.2.2.2.2.2.2.2; omega), D.2.2.1 k k0 k4, D_max, Z_bI]
  rfl
theorem cck.day {h : mH} {a : Int} {D : Int → Int → Int → Int} (A : cck h a D) (y m d : Int) : Cl kAl_dayOn [vO 0 a, vI y, vI m, vI d] h = some (some (vI (D y m d)), h) := by
  obtain ⟨c0, c1, A, _⟩ := A
  exact A_day A y m d
theorem cck.kind {h : mH} {a : Int} {D : Int → Int → Int → Int} (A : cck h a D) (y : Int) : Cl kAl_kindOf [vO 0 a, vI y] h = some (some (vI (kdY D y)), h) := by
  obtain ⟨c0, c1, A, _⟩ := A
  exact A_kind A y
theorem cck.ok {h : mH} {a : Int} {D : Int → Int → Int → Int} (A : cck h a D) : Dok D := by
  obtain ⟨c0, c1, A, _⟩ := A
  exact A.ok
/-- with a first of the known month there are rows -/
theorem hx_row {X : HX} (V : hxv X) {D : Int → Int → Int → Int} (O : Dok D) {y m : Int} (y0 : 1 ≤ y ∧ y ≤ 9999) (m0 : 1 ≤ m ∧ m ≤ 12) (h : D (hEY X y) (hEM X m) 1 ≠ -1) : hLY X y ≠ 1152921504606846976 ∧ hLM X m ≠ 1152921504606846976 := by
  have d := O.2.1 _ _ _ h
  constructor
  · intro z
    have := (V.2.1.2.2.2.2.2 y y0.1 (by omega) z).1
    have := d.1.1
    omega
  · intro z
    have := (V.2.2.2.2.2.2.2 m m0.1 (by omega) z).1
    have := d.2.1.1
    omega
theorem C_toldFor {h : mH} {q a : Int} {X : HX} {D : Int → Int → Int → Int} (V : hxv X) (Q : hokk h q X) (A : cck h a D) (y m d : Int) : Cl kHd_toldFor [vO 2 q, vR 0 a, vI y, vI m, vI d] h = some (some (vI (toD X D y m d)), h) := by
  have O := A.ok
  have a0 := A.a0
  obtain ⟨C, K, Y, M⟩ := Q
  have w0 : h.M q 9 ≠ 0 := by have := Y.1.2.2.1; omega
  have v0 : h.M q 10 ≠ 0 := by have := M.1.2.2.1; omega
  rw [E_Hd_toldFor, gd_t a0, A.day, Z_bI]
  unfold toD
  by_cases e : D y m d = -1
  · rw [if_pos e, if_pos e]
  · obtain ⟨ty, tm, td⟩ := O.2.1 y m d e
    rw [if_neg e, if_neg e, gd_t w0, C_endOf Y, Z_bI, gd_t v0, C_endOf M, Z_bI, if_pos (by omega), if_pos (by omega), gd_t a0, A.day, Z_bI]
    by_cases f : D (hEY X y) (hEM X m) 1 = -1
    · rw [if_pos f, if_pos f]
    · obtain ⟨ny, nm⟩ := hx_row V O ty tm f
      have ly := rsp_lnb (by decide) V.2.1
      have lm := rsp_lnb (by decide) V.2.2
      have by' := ly y ty.1 (by omega)
      have bm := lm m tm.1 (by omega)
      have by2 := by'.2.2 ny
      have bm2 := bm.2.2 nm
      have cy : coR 10000 (hLY X) y = hLY X y / 16384 := if_pos ⟨by omega, ny⟩
      have cm : coR 13 (hLM X) m = hLM X m / 16384 := if_pos ⟨by omega, nm⟩
      have x0 := xt_b V.1 0
      have x1 := xt_b V.1 1
      have x2 := xt_b V.1 2
      have x3 := xt_b V.1 3
      have fb := O.1 (hEY X y) (hEM X m) 1
      rw [if_neg f, if_neg f, C_extraOf C K (by decide) (by decide), Z_bI, gd_t w0, C_costOf Y ly, Z_bI, gd_t v0, C_costOf M lm, Z_bI, C_extraOf C K (by decide) (by decide), Z_bI, gd_t (by decide), C_extraOf C K (by decide) (by decide), Z_bI, gd_t (by decide), gd_t a0, A.day, Z_bI, cy, cm]
      unfold tnD anD
      by_cases g : D (hEY X y) 2 29 = -1
      · rw [if_pos g, if_pos g, gd_t (by decide), told_a ⟨x2.1, x2.2.1⟩ (by omega) (by omega) ⟨x0.1, x0.2.1⟩ ⟨x1.1, x1.2.1⟩ (by omega) td]
      · rw [if_neg g, if_neg g, C_extraOf C K (by decide) (by decide), Z_bI, gd_t (by decide), told_b ⟨x2.1, x2.2.1⟩ (by omega) (by omega) ⟨x0.1, x0.2.1⟩ ⟨x1.1, x1.2.1⟩ ⟨x3.1, x3.2.1⟩ (by omega) td]
def Wan : Int → Int → Prop := fun b k => (b = 9 ∧ 38 ≤ k ∧ k ≤ 41) ∨ b = 37 ∨ b = 38
theorem Wan_scr {nc nh b k : Int} (w : Wan b k) : Scr nc nh b k := by
  rcases w with ⟨a, w⟩ | w | w
  · exact Or.inl ⟨a, by omega⟩
  · exact Or.inr (Or.inr (Or.inl w))
  · exact Or.inr (Or.inr (Or.inr (Or.inl w)))
theorem tnD_b {X : HX} (V : hxv X) {D : Int → Int → Int → Int} (O : Dok D) {y m d : Int} (y0 : 1 ≤ y ∧ y ≤ 9999) (m0 : 1 ≤ m ∧ m ≤ 12) (d0 : 1 ≤ d ∧ d ≤ 31) (f : D (hEY X y) (hEM X m) 1 ≠ -1) : 0 ≤ tnD X D y m d ∧ tnD X D y m d ≤ 2000000 ∧ 0 ≤ anD X D y m d ∧ anD X D y m d ≤ 6 := by
  obtain ⟨ny, nm⟩ := hx_row V O y0 m0 f
  have by' := rsp_lnb (by decide) V.2.1 y y0.1 (by omega)
  have bm := rsp_lnb (by decide) V.2.2 m m0.1 (by omega)
  have by2 := by'.2.2 ny
  have bm2 := bm.2.2 nm
  have x0 := xt_b V.1 0
  have x1 := xt_b V.1 1
  have x2 := xt_b V.1 2
  have x3 := xt_b V.1 3
  have p := mulb x0.1 x0.2.1 (by omega : 0 ≤ (d - 1) / 7) (by omega : (d - 1) / 7 ≤ 4)
  have q := mulb x1.1 x1.2.1 (by omega : 0 ≤ (d - 1) % 7) (by omega : (d - 1) % 7 ≤ 6)
  unfold tnD anD
  generalize xt (hH X) 0 * ((d - 1) / 7) = u at p ⊢
  generalize xt (hH X) 1 * ((d - 1) % 7) = v at q ⊢
  split <;> omega
theorem R_answer {h : mH} {T : Int → Int} {n nc : Int} {Ds : Int → Int → Int → Int → Int} {nh : Int} {Xs : Int → HX} (I : INV h T n nc Ds nh Xs) {c : Int} (c0 : 0 ≤ c) (c1 : c < nh) {y m d : Int} (y0 : 1 ≤ y ∧ y ≤ 9999) (m0 : 1 ≤ m ∧ m ≤ 12) (d0 : 1 ≤ d ∧ d ≤ 31) (cal : Int) : ∃ h', Cl kM_answer [vO 11 9, vI c, vI cal, vI y, vI m, vI d] h = some (some (vI (cb (isd nc Ds cal (hEY (Xs c) y) (hEM (Xs c) m) 1))), h') ∧ Ew Wan h h' ∧ (isd nc Ds cal (hEY (Xs c) y) (hEM (Xs c) m) 1 → rowd h' (Xs c) y m ∧ h'.M 9 40 = anD (Xs c) (Ds cal) y m d ∧ h'.M 9 41 = tnD (Xs c) (Ds cal) y m d) := by
  have nb := I.nh
  obtain ⟨h1, e1, x1, r1⟩ := R_goes I c0 c1 y0.1 y0.2 m0.1 m0.2 cal
  rw [E_M_answer, e1, Z_bI]
  by_cases i : isd nc Ds cal (hEY (Xs c) y) (hEM (Xs c) m) 1
  · have V := (I.hik c0 c1).1
    have rd := r1 i
    have re := rd.end_ V y0.1 y0.2 m0.1 m0.2
    have O := I.dok i.1.1 i.1.2
    have I1 := I.ew x1 fun _ _ w => Wgo_scr w
    have L1 := I1.1
    have w1 : wI (h1.M 9 38 - 1) = hLY (Xs c) y % 16384 := by rw [rd.2.1, Z_wI (by omega)]; omega
    have w2 : wI (h1.M 9 39 - 1) = hLM (Xs c) m % 16384 := by rw [rd.2.2.2.1, Z_wI (by omega)]; omega
    have fb := O.1 (hEY (Xs c) y) (hEM (Xs c) m) 1
    have f0 := i.2
    have a1 : Int.tmod (wI (wI (Ds cal (hEY (Xs c) y) (hEM (Xs c) m) 1 + d) - 1)) 7 = anD (Xs c) (Ds cal) y m d := by
      unfold anD
      rw [Z_wI (z := Ds cal (hEY (Xs c) y) (hEM (Xs c) m) 1 + d) (by omega), Z_wI (by omega), Z_tmod (by omega)]
      congr 1
      omega
    have x2 : Ew Wan h1 (h1.set 9 40 (anD (Xs c) (Ds cal) y m d)) := Ew.st (W := Wan) h1 _ (Or.inl ⟨rfl, by omega, by omega⟩)
    have x12 : Ew Wan h (h1.set 9 40 (anD (Xs c) (Ds cal) y m d)) := (x1.mono fun p t z => by unfold Wgo at z; unfold Wan; omega).tr x2
    have I2 := I.ew x12 fun _ _ w => Wan_scr w
    have L2 := I2.1
    obtain ⟨_, ⟨P, FY, FM⟩, _⟩ := I2.hik c0 c1
    have i2 : wI (wI (10001 * c) + y) = 10001 * c + y := by rw [Z_wI (z := 10001 * c) (by omega), Z_wI (by omega)]
    have i3 : wI (wI (13 * c) + m) = 13 * c + m := by rw [Z_wI (z := 13 * c) (by omega), Z_wI (by omega)]
    have i4 : wI (4 * c) = 4 * c := Z_wI (by omega)
    have i5 : wI (4 * c + 1) = 4 * c + 1 := Z_wI (by omega)
    have i6 : wI (4 * c + 2) = 4 * c + 2 := Z_wI (by omega)
    have i7 : wI (4 * c + 3) = 4 * c + 3 := Z_wI (by omega)
    have x0 := xt_b V.1 0
    have xa := xt_b V.1 1
    have xb := xt_b V.1 2
    have xc := xt_b V.1 3
    have k0 := (P.2.2.2.2.2.2.2 0 (by decide) (by decide)).trans x0.2.2
    have k1 := (P.2.2.2.2.2.2.2 1 (by decide) (by decide)).trans xa.2.2
    have k2 := (P.2.2.2.2.2.2.2 2 (by decide) (by decide)).trans xb.2.2
    have k3 := (P.2.2.2.2.2.2.2 3 (by decide) (by decide)).trans xc.2.2
    rw [Int.add_zero] at k0
    have gy := (gL_0F (by decide) V.2.1 y0.1 (by omega : y < 10000))
    have gm := (gL_0F (by decide) V.2.2 m0.1 (by omega : m < 13))
    have gy5 := gy.2.2.2.2 rd.1.1
    have gm5 := gm.2.2.2.2 rd.1.2
    have tl : ∀ l, 0 ≤ l ∧ l ≤ 99 → wI (wI (wI (wI (xt (hH (Xs c)) 2 + wI (wL (wL (Int.tdiv (gL (hLY (Xs c) y)) 100000) + wL (Int.tdiv (gL (hLM (Xs c) m)) 100000)))) + wI (xt (hH (Xs c)) 0 * wI (Int.tdiv (wI (d - 1)) 7))) + wI (xt (hH (Xs c)) 1 * Int.tmod (wI (d - 1)) 7)) + l) = xt (hH (Xs c)) 2 + (hLY (Xs c) y / 16384 + hLM (Xs c) m / 16384) + xt (hH (Xs c)) 0 * ((d - 1) / 7) + xt (hH (Xs c)) 1 * ((d - 1) % 7) + l := fun l l0 => by
      rw [told_m ⟨xb.1, xb.2.1⟩ ⟨gy.2.2.1, gy5.2⟩ ⟨gm.2.2.1, gm5.2⟩ ⟨x0.1, x0.2.1⟩ ⟨xa.1, xa.2.1⟩ l0 d0, gy5.1, gm5.1]
    have dn : isd nc Ds cal (hEY (Xs c) y) 2 29 ↔ Ds cal (hEY (Xs c) y) 2 29 ≠ -1 := ⟨fun z => z.2, fun z => ⟨i.1, z⟩⟩
    have fin : ∀ v, v = tnD (Xs c) (Ds cal) y m d → ∃ h', some (some (vI 1), (h1.set 9 40 (anD (Xs c) (Ds cal) y m d)).set 9 41 v) = some (some (vI (cb (isd nc Ds cal (hEY (Xs c) y) (hEM (Xs c) m) 1))), h') ∧ Ew Wan h h' ∧ (isd nc Ds cal (hEY (Xs c) y) (hEM (Xs c) m) 1 → rowd h' (Xs c) y m ∧ h'.M 9 40 = anD (Xs c) (Ds cal) y m d ∧ h'.M 9 41 = tnD (Xs c) (Ds cal) y m d) := fun v hv => by
      rw [cb_t i]
      refine ⟨_, rfl, x12.tr (Ew.st (W := Wan) _ _ (Or.inl ⟨rfl, by omega, by omega⟩)), fun _ => ⟨?_, ?_, ?_⟩⟩
      · exact rd
      · rw [Z_Mn (by omega), Z_Mt]
      · rw [Z_Mt]; exact hv
    rw [cb_t i, if_neg (by decide), w1, w2, lm36 L1, lm37 L1, ln37 L1, ln38 L1, gd_t (by omega), gd_t (by omega), re.1, re.2.1, R_dayOf I1.mcs i, Z_bI, gd_t (by decide), a1, Z_hl, i2, i3, i4, i5, i6, i7, lm30 L2, lm31 L2, lm26 L2, ln33 L2, ln34 L2, ln31 L2, gd_t (by omega), gd_t (by decide), gd_t (by omega), gd_t (by decide), gd_t (by omega), gd_t (by omega), gd_t (by decide), gd_t (by omega), gd_t (by decide), FY y y0.1 y0.2, FM m m0.1 m0.2, k0, k1, k2, R_isDate I2.mcs, Z_bI]
    rw [cb_t i] at fin
    by_cases g : Ds cal (hEY (Xs c) y) 2 29 = -1
    · rw [cb_f fun z => (dn.mp z) g, if_pos rfl, Z_hl, gd_t (by decide), tl 0 (by decide)]
      exact fin _ (by unfold tnD; rw [if_pos g])
    · rw [cb_t (dn.mpr g), if_neg (by decide), lm26 L2, ln31 L2, gd_t (by omega), Z_hl, gd_t (by decide), k3, tl _ ⟨xc.1, xc.2.1⟩]
      exact fin _ (by unfold tnD; rw [if_neg g])
  · rw [cb_f i, if_pos rfl, gd_t (by decide)]
    exact ⟨h1, rfl, x1.mono fun p t z => by unfold Wgo at z; unfold Wan; omega, fun z => absurd z i⟩
