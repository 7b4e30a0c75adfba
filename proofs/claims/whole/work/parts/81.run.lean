/-! THE PURE PART, calls: a run -/
theorem lushr_b (x : Int) : 0 ≤ lushr64 x 33 ∧ lushr64 x 33 < 2147483648 := by
  have hc : (((Int32.ofInt (33 : Int)).toInt64.toUInt64 &&& Int64.toUInt64 63).toBitVec % 64).toNat = 33 := by decide +kernel
  have e : lushr64 x 33 = ((BitVec.ofInt 64 x) >>> (((Int32.ofInt (33 : Int)).toInt64.toUInt64 &&& Int64.toUInt64 63).toBitVec % 64)).toInt := rfl
  rw [e, BitVec.ushiftRight_eq', hc]
  have l : (BitVec.ofInt 64 x >>> 33).toNat = (BitVec.ofInt 64 x).toNat / 2 ^ 33 := by
    rw [BitVec.toNat_ushiftRight, Nat.shiftRight_eq_div_pow]
  have lt := (BitVec.ofInt 64 x).isLt
  rw [BitVec.toInt_eq_toNat_of_lt (by rw [l]; omega), l]
  omega
def nxD (x : Int) : Int := wL (wL (x * 6364136223846793005) + 1442695040888963407)
def drw (x j : Int) : Int := wI (Int.tmod (lushr64 x 33) (j + 1))
theorem drw_b (x : Int) {j : Int} (j0 : 0 ≤ j) (j1 : j ≤ 99) : 0 ≤ drw x j ∧ drw x j ≤ 99 := by
  have b := lushr_b x
  unfold drw
  have h1 := Int.emod_nonneg (lushr64 x 33) (by omega : j + 1 ≠ 0)
  have h2 := Int.emod_lt_of_pos (lushr64 x 33) (by omega : 0 < j + 1)
  rw [Z_tmod b.1, Z_wI (by omega)]
  omega
theorem C_spLike {h : mH} {T : Int → Int} {n nc : Int} {Ds : Int → Int → Int → Int → Int} {nh : Int} {Xs : Int → HX} (I : INV h T n nc Ds nh Xs) {s c y m d s' c' y' m' d' : Int} (S : spt h nc Ds s c y m d) (S' : spt h nc Ds s' c' y' m' d') : Cl kSp_isLike [vO 7 s, vR 7 s'] h = some (some (vI (cb (kdY (Ds c) y ≠ -1 ∧ kdY (Ds c) y = kdY (Ds c') y'))), h) := by
  have A := I.cok S.1.1.1 S.1.1.2
  have A' := I.cok S'.1.1.1 S'.1.1.2
  rw [E_Sp_isLike, S.2.2.1, gd_t A.a0, S.2.2.2.1, A.kind, Z_bI]
  by_cases q : kdY (Ds c) y = -1
  · rw [if_pos q, gd_t (by decide), cb_f fun z => z.1 q]
  · rw [if_neg q, gd_t S'.2.2.2.2.2.2.2.1, gd_t S'.2.2.2.2.2.2.2.1, S'.2.2.1, gd_t A'.a0, S'.2.2.2.1, A'.kind, Z_bI]
    by_cases w : kdY (Ds c) y = kdY (Ds c') y'
    · rw [if_pos w, gd_t (by decide), cb_t ⟨q, w⟩]
    · rw [if_neg w, gd_t (by decide), cb_f fun z => w z.2]
theorem C_toldAt {h : mH} {T : Int → Int} {n nc : Int} {Ds : Int → Int → Int → Int → Int} {nh : Int} {Xs : Int → HX} (I : INV h T n nc Ds nh Xs) {hd : Int} (p : 0 ≤ hd ∧ hd < nh) {s c y m d : Int} (S : spt h nc Ds s c y m d) : Cl kHd_toldAt [vO 2 (h.M 4 hd), vR 7 s] h = some (some (vI (toD (Xs hd) (Ds c) y m d)), h) := by
  have s0 := S.2.2.2.2.2.2.2.1
  rw [E_Hd_toldAt, gd_t s0, gd_t s0, gd_t s0, gd_t s0, S.2.2.1, S.2.2.2.1, S.2.2.2.2.1, S.2.2.2.2.2.1, I.told p S.1.1, Z_bI]
/-- like the one ahead -/
def plk (h : mH) (Ds : Int → Int → Int → Int → Int) (p : Int) : Prop := 0 < p ∧ kdY (Ds (h.M 46 p)) (h.M 47 p) ≠ -1 ∧ kdY (Ds (h.M 46 p)) (h.M 47 p) = kdY (Ds (h.M 46 (p - 1))) (h.M 47 (p - 1))
noncomputable def rnV (t x j e : Int) (lk : Prop) : Int := if t = -1 then -1 else if cb lk = 0 then t / 7 + drw (nxD x) j else imax (t / 7 + drw (nxD x) j - e) 0
def pto (h : mH) (Ds : Int → Int → Int → Int → Int) (X : HX) (p : Int) : Int := toD X (Ds (h.M 46 p)) (h.M 47 p) (h.M 48 p) (h.M 49 p)
theorem rnV_b {t x j e : Int} {lk : Prop} (t0 : -1 ≤ t ∧ t ≤ 20000000) (j0 : 0 ≤ j ∧ j ≤ 99) (e0 : 0 ≤ e ∧ e ≤ 99) : -1 ≤ rnV t x j e lk ∧ rnV t x j e lk ≤ 3000000 := by
  have d := drw_b (nxD x) j0.1 j0.2
  unfold rnV imax
  split
  · omega
  · split
    · omega
    · split <;> omega
theorem C_run1 {h : mH} {T : Int → Int} {n nc : Int} {Ds : Int → Int → Int → Int → Int} {nh : Int} {Xs : Int → HX} (I : INV h T n nc Ds nh Xs) {hd : Int} (q : 0 ≤ hd ∧ hd < nh) {j e i : Int} (j0 : 0 ≤ j ∧ j ≤ 99) (e0 : 0 ≤ e ∧ e ≤ 99) (u1 u2 u3 u12 u13 : mV) {p x sum : Int} (p0 : 0 ≤ p) (p1 : p < h.M 1 9) (s0 : 0 ≤ sum ∧ sum ≤ 3000000 * p) :
    ∃ w12 w13, Rn kX_run 10 [vO 10 1, u1, u2, u3, vI j, vI e, vI i, vR 2 (h.M 4 hd), vL x, vU, vI sum, vI p, u12, u13] [] h = if p = i then some (some (vI (rnV (pto h Ds (Xs hd) p) x j e (plk h Ds p))), h) else Rn kX_run 10 [vO 10 1, u1, u2, u3, vI j, vI e, vI i, vR 2 (h.M 4 hd), vL (if pto h Ds (Xs hd) p = -1 then x else nxD x), vU, vI (if pto h Ds (Xs hd) p = -1 then sum else sum + rnV (pto h Ds (Xs hd) p) x j e (plk h Ds p)), vI (p + 1), w12, w13] [] h := by
  have L := I.1
  obtain ⟨a1, a2, a3, a4⟩ := I.2.2.2.2.2.1
  have S := a4 p p0 p1
  have tl := toD_lo (I.hik q.1 q.2).1 (I.dok S.1.1.1 S.1.1.2) (h.M 47 p) (h.M 48 p) (h.M 49 p)
  have vb := rnV_b (x := x) (lk := plk h Ds p) tl j0 e0
  have db := drw_b (nxD x) j0.1 j0.2
  have tt : toD (Xs hd) (Ds (h.M 46 p)) (h.M 47 p) (h.M 48 p) (h.M 49 p) = pto h Ds (Xs hd) p := rfl
  rw [tt] at tl vb
  rw [E_X_run_10, if_pos p1, lx8 L, ln6 L, gd_t (by omega), gd_t (I.q0 q.1 q.2), C_toldAt I q S, Z_bI, tt, Z_wI (z := p + 1) (by omega), Z_wI (z := j + 1) (by omega)]
  by_cases t : pto h Ds (Xs hd) p = -1
  · have rv : rnV (pto h Ds (Xs hd) p) x j e (plk h Ds p) = -1 := if_pos t
    refine ⟨vI (-1), vI (pto h Ds (Xs hd) p), ?_⟩
    rw [if_pos t, if_pos t, if_pos t, rv]
  · have T1 : wI (wI (Int.tdiv (pto h Ds (Xs hd) p) 7) + wI (Int.tmod (lushr64 (wL (wL (x * 6364136223846793005) + 1442695040888963407)) 33) (j + 1))) = pto h Ds (Xs hd) p / 7 + drw (nxD x) j := by
      have dd : wI (Int.tmod (lushr64 (wL (wL (x * 6364136223846793005) + 1442695040888963407)) 33) (j + 1)) = drw (nxD x) j := rfl
      rw [dd, Z_tdiv (by omega), Z_wI (z := pto h Ds (Xs hd) p / 7) (by omega), Z_wI (by omega)]
    have nn : wL (wL (x * 6364136223846793005) + 1442695040888963407) = nxD x := rfl
    have rv : rnV (pto h Ds (Xs hd) p) x j e (plk h Ds p) = if cb (plk h Ds p) = 0 then pto h Ds (Xs hd) p / 7 + drw (nxD x) j else imax (pto h Ds (Xs hd) p / 7 + drw (nxD x) j - e) 0 := if_neg t
    rw [if_neg t, if_neg t, if_neg t, gd_t (by decide), gd_t (by omega), T1, nn]
    by_cases z : p ≤ 0
    · have lk0 : ¬ plk h Ds p := fun k => by have := k.1; omega
      have rv0 : rnV (pto h Ds (Xs hd) p) x j e (plk h Ds p) = pto h Ds (Xs hd) p / 7 + drw (nxD x) j := by rw [rv, cb_f lk0, if_pos rfl]
      refine ⟨vI (pto h Ds (Xs hd) p / 7 + drw (nxD x) j), vI (pto h Ds (Xs hd) p), ?_⟩
      rw [if_pos z, rv0, Z_wI (by omega)]
    · have S' := a4 (p - 1) (by omega) (by omega)
      have lkq : (kdY (Ds (h.M 46 p)) (h.M 47 p) ≠ -1 ∧ kdY (Ds (h.M 46 p)) (h.M 47 p) = kdY (Ds (h.M 46 (p - 1))) (h.M 47 (p - 1))) = plk h Ds p := propext ⟨fun k => ⟨by omega, k⟩, fun k => k.2⟩
      rw [if_neg z, lx8 L, ln6 L, gd_t (by omega), Z_wI (z := p - 1) (by omega), gd_t (by omega), gd_t S.2.2.2.2.2.2.2.1, C_spLike I S S', Z_bI, lkq]
      by_cases k : plk h Ds p
      · have rv1 : rnV (pto h Ds (Xs hd) p) x j e (plk h Ds p) = imax (pto h Ds (Xs hd) p / 7 + drw (nxD x) j - e) 0 := by rw [rv, cb_t k, if_neg n10]
        refine ⟨vI (rnV (pto h Ds (Xs hd) p) x j e (plk h Ds p)), vI (pto h Ds (Xs hd) p), ?_⟩
        rw [cb_t k, if_neg n10, Z_wI (z := pto h Ds (Xs hd) p / 7 + drw (nxD x) j - e) (by omega), D_max, Z_bI, ← rv1, Z_wI (by omega)]
      · have rv1 : rnV (pto h Ds (Xs hd) p) x j e (plk h Ds p) = pto h Ds (Xs hd) p / 7 + drw (nxD x) j := by rw [rv, cb_f k, if_pos rfl]
        refine ⟨vI (rnV (pto h Ds (Xs hd) p) x j e (plk h Ds p)), vI (pto h Ds (Xs hd) p), ?_⟩
        rw [cb_f k, if_pos rfl, ← rv1, Z_wI (by omega)]
theorem R_isEased {g : mH} {T : Int → Int} {n nc : Int} {Ds : Int → Int → Int → Int → Int} {nh : Int} {Xs : Int → HX} (J : INV g T n nc Ds nh Xs) {p : Int} (p0 : 0 ≤ p) (p1 : p < g.M 1 9) : Cl kM_isEased [vO 11 9, vI p] g = some (some (vI (cb (plk g Ds p))), g) := by
  have L := J.1
  obtain ⟨a1, a2, a3, a4⟩ := J.2.2.2.2.2.1
  have S := a4 p p0 p1
  rw [E_M_isEased]
  by_cases z : p = 0
  · rw [if_pos z, gd_t (by decide), cb_f fun k => by have := k.1; omega]
  · have S' := a4 (p - 1) (by omega) (by omega)
    have O := J.dok S.1.1.1 S.1.1.2
    have O' := J.dok S'.1.1.1 S'.1.1.2
    rw [if_neg z, lm50 L, lm51 L, ln46 L, ln47 L, gd_t (by omega), gd_t (by omega), R_kindOf J.mcs S.1.1.1 S.1.1.2, Z_bI, kd_Y O]
    by_cases k1 : kdY (Ds (g.M 46 p)) (g.M 47 p) = -1
    · rw [if_pos k1, gd_t (by decide), cb_f fun k => k.2.1 k1]
    · rw [if_neg k1, Z_wI (z := p - 1) (by omega), lm50 L, lm51 L, ln46 L, ln47 L, gd_t (by omega), gd_t (by omega), R_kindOf J.mcs S'.1.1.1 S'.1.1.2, Z_bI, kd_Y O']
      by_cases k2 : kdY (Ds (g.M 46 p)) (g.M 47 p) = kdY (Ds (g.M 46 (p - 1))) (g.M 47 (p - 1))
      · rw [if_pos k2, gd_t (by decide), cb_t ⟨by omega, k1, k2⟩]
      · rw [if_neg k2, gd_t (by decide), cb_f fun k => k2 k.2.2]
theorem R_run1 {g : mH} {T : Int → Int} {n nc : Int} {Ds : Int → Int → Int → Int → Int} {nh : Int} {Xs : Int → HX} (J : INV g T n nc Ds nh Xs) {hd : Int} (q : 0 ≤ hd ∧ hd < nh) {j e i : Int} (j0 : 0 ≤ j ∧ j ≤ 99) (e0 : 0 ≤ e ∧ e ≤ 99) (u2 u3 u10 u11 : mV) {p x sum its : Int} (p0 : 0 ≤ p) (p1 : p < g.M 1 9) (s0 : 0 ≤ sum ∧ sum ≤ 3000000 * p) (x0 : g.M 9 70 = x) :
    ∃ g' w10 w11, Rn kM_run 10 [vO 11 9, vI hd, u2, u3, vI j, vI e, vI i, vI sum, vI its, vI p, u10, u11] [] g = Rn kM_run 10 [vO 11 9, vI hd, u2, u3, vI j, vI e, vI i, vI (if pto g Ds (Xs hd) p = -1 then sum else sum + rnV (pto g Ds (Xs hd) p) x j e (plk g Ds p)), vI (if p = i then rnV (pto g Ds (Xs hd) p) x j e (plk g Ds p) else its), vI (p + 1), w10, w11] [] g' ∧ Ew (Scr nc nh) g g' ∧ g'.M 9 70 = if pto g Ds (Xs hd) p = -1 then x else nxD x := by
  have L := J.1
  obtain ⟨a1, a2, a3, a4⟩ := J.2.2.2.2.2.1
  have S := a4 p p0 p1
  have tl := toD_lo (J.hik q.1 q.2).1 (J.dok S.1.1.1 S.1.1.2) (g.M 47 p) (g.M 48 p) (g.M 49 p)
  have vb := rnV_b (x := x) (lk := plk g Ds p) tl j0 e0
  have db := drw_b (nxD x) j0.1 j0.2
  have tt : toD (Xs hd) (Ds (g.M 46 p)) (g.M 47 p) (g.M 48 p) (g.M 49 p) = pto g Ds (Xs hd) p := rfl
  obtain ⟨g1, e1, x1, r1⟩ := R_ansW J q S.1
  rw [tt] at tl vb e1 r1
  have m70 : g1.M 9 70 = x := (x1.2 9 70 fun z => by unfold Wan at z; omega).trans x0
  rw [E_M_run_10, a1, if_pos p1, lm50 L, lm51 L, lm52 L, lm53 L, ln46 L, ln47 L, ln48 L, ln49 L, gd_t (by omega), gd_t (by omega), gd_t (by omega), gd_t (by omega), e1, Z_bI, Z_wI (z := p + 1) (by omega)]
  have xs1 : Ew (Scr nc nh) g g1 := x1.mono fun _ _ z => Wan_scr z
  by_cases t : pto g Ds (Xs hd) p = -1
  · have rv : rnV (pto g Ds (Xs hd) p) x j e (plk g Ds p) = -1 := if_pos t
    rw [cb_f (p := pto g Ds (Xs hd) p ≠ -1) fun k => k t, if_pos rfl, if_pos t, if_pos t, rv]
    by_cases pi : p = i
    · exact ⟨g1, vI (-1), u11, by rw [if_pos pi, if_pos pi], xs1, m70⟩
    · exact ⟨g1, vI (-1), u11, by rw [if_neg pi, if_neg pi], xs1, m70⟩
  · obtain ⟨m40, m41, tb⟩ := r1 t
    have J1 := J.ew xs1 fun _ _ z => z
    have x2 : Ew (Scr nc nh) g1 (g1.set 9 70 (nxD x)) := Ew.st (W := Scr nc nh) g1 _ (Or.inl ⟨rfl, by omega⟩)
    have J2 := J1.ew x2 fun _ _ z => z
    have xx : Ew (Scr nc nh) g (g1.set 9 70 (nxD x)) := xs1.tr x2
    have dr : Cl kM_draw [vO 11 9, vI (wI (j + 1))] g1 = some (some (vI (drw (nxD x) j)), g1.set 9 70 (nxD x)) := by
      have nn : wL (wL (x * 6364136223846793005) + 1442695040888963407) = nxD x := rfl
      rw [E_M_draw, m70, nn, Z_hl, Z_wI (z := j + 1) (by omega), gd_t (by omega), Z_Mt]
      rfl
    have pl : plk (g1.set 9 70 (nxD x)) Ds p = plk g Ds p := by
      have c : ∀ b k, b = 46 ∨ b = 47 → (g1.set 9 70 (nxD x)).M b k = g.M b k := fun b k hb => xx.2 b k fun z => by have := scr_b z; omega
      unfold plk
      rw [c 46 p (by omega), c 47 p (by omega), c 46 (p - 1) (by omega), c 47 (p - 1) (by omega)]
    have p9 : (g1.set 9 70 (nxD x)).M 1 9 = g.M 1 9 := xx.2 1 9 fun z => by have := scr_b z; omega
    have es := R_isEased J2 p0 (by rw [p9]; exact p1)
    rw [pl] at es
    have rv : rnV (pto g Ds (Xs hd) p) x j e (plk g Ds p) = if cb (plk g Ds p) = 0 then pto g Ds (Xs hd) p / 7 + drw (nxD x) j else imax (pto g Ds (Xs hd) p / 7 + drw (nxD x) j - e) 0 := if_neg t
    have T1 : wI (pto g Ds (Xs hd) p / 7 + drw (nxD x) j) = pto g Ds (Xs hd) p / 7 + drw (nxD x) j := Z_wI (by omega)
    rw [cb_t (p := pto g Ds (Xs hd) p ≠ -1) t, if_neg n10, dr, Z_bI, es, Z_bI, m41, T1, if_neg t, if_neg t]
    by_cases k : plk g Ds p
    · have im : imax 0 (pto g Ds (Xs hd) p / 7 + drw (nxD x) j - e) = imax (pto g Ds (Xs hd) p / 7 + drw (nxD x) j - e) 0 := by
        unfold imax
        split <;> split <;> omega
      rw [cb_t k, if_neg n10] at rv
      rw [cb_t k, if_neg n10, Z_wI (z := pto g Ds (Xs hd) p / 7 + drw (nxD x) j - e) (by omega), D_max, Z_bI, im, ← rv, Z_wI (by omega)]
      by_cases pi : p = i
      · exact ⟨_, _, _, by rw [if_pos pi, if_pos pi], xx, Z_Mt ..⟩
      · exact ⟨_, _, _, by rw [if_neg pi, if_neg pi], xx, Z_Mt ..⟩
    · rw [cb_f k, if_pos rfl] at rv
      rw [cb_f k, if_pos rfl, ← rv, Z_wI (by omega)]
      by_cases pi : p = i
      · exact ⟨_, _, _, by rw [if_pos pi, if_pos pi], xx, Z_Mt ..⟩
      · exact ⟨_, _, _, by rw [if_neg pi, if_neg pi], xx, Z_Mt ..⟩
/-- behind the plan that is asked for -/
theorem R_rest {T : Int → Int} {n nc : Int} {Ds : Int → Int → Int → Int → Int} {nh : Int} {Xs : Int → HX} {hd : Int} (q : 0 ≤ hd ∧ hd < nh) {j e i : Int} (j0 : 0 ≤ j ∧ j ≤ 99) (e0 : 0 ≤ e ∧ e ≤ 99) (i0 : 0 ≤ i) (u2 u3 : mV) (its : Int) : ∀ (f : Nat) (p sum : Int) (u10 u11 : mV) (g : mH), INV g T n nc Ds nh Xs → p + f = g.M 1 9 → i < p → 0 ≤ sum → sum ≤ 3000000 * p →
    ∃ g', Rn kM_run 10 [vO 11 9, vI hd, u2, u3, vI j, vI e, vI i, vI sum, vI its, vI p, u10, u11] [] g = some (some (vI its), g') ∧ Ew (Scr nc nh) g g' := by
  intro f
  induction f with
  | zero =>
    intro p sum u10 u11 g J e1 ip s0 s1
    exact ⟨g, by rw [E_M_run_10, J.2.2.2.2.2.1.1, if_neg (by omega), if_neg (by omega)], Ew.rf _ _⟩
  | succ f ih =>
    intro p sum u10 u11 g J e1 ip s0 s1
    have S := J.2.2.2.2.2.1.2.2.2 p (by omega) (by omega)
    have vb := rnV_b (x := g.M 9 70) (lk := plk g Ds p) (toD_lo (J.hik q.1 q.2).1 (J.dok S.1.1.1 S.1.1.2) (g.M 47 p) (g.M 48 p) (g.M 49 p)) j0 e0
    have tt : toD (Xs hd) (Ds (g.M 46 p)) (g.M 47 p) (g.M 48 p) (g.M 49 p) = pto g Ds (Xs hd) p := rfl
    rw [tt] at vb
    obtain ⟨g1, w10, w11, e2, x1, _⟩ := R_run1 J q (i := i) j0 e0 u2 u3 u10 u11 (its := its) (by omega) (by omega) ⟨s0, s1⟩ rfl
    have p9 : g1.M 1 9 = g.M 1 9 := x1.2 1 9 fun z => by have := scr_b z; omega
    have ns : 0 ≤ (if pto g Ds (Xs hd) p = -1 then sum else sum + rnV (pto g Ds (Xs hd) p) (g.M 9 70) j e (plk g Ds p)) ∧ (if pto g Ds (Xs hd) p = -1 then sum else sum + rnV (pto g Ds (Xs hd) p) (g.M 9 70) j e (plk g Ds p)) ≤ 3000000 * (p + 1) := by
      by_cases t : pto g Ds (Xs hd) p = -1
      · rw [if_pos t]; omega
      · have db := drw_b (nxD (g.M 9 70)) j0.1 j0.2
        have tl := toD_lo (J.hik q.1 q.2).1 (J.dok S.1.1.1 S.1.1.2) (g.M 47 p) (g.M 48 p) (g.M 49 p)
        rw [tt] at tl
        have : 0 ≤ rnV (pto g Ds (Xs hd) p) (g.M 9 70) j e (plk g Ds p) := by
          unfold rnV imax
          rw [if_neg t]
          split
          · omega
          · split <;> omega
        rw [if_neg t]
        omega
    obtain ⟨g2, e3, x2⟩ := ih (p + 1) _ w10 w11 g1 (J.ew x1 fun _ _ z => z) (by omega) (by omega) ns.1 ns.2
    rw [if_neg (by omega : ¬ p = i)] at e2
    exact ⟨g2, e2.trans e3, x1.tr x2⟩
theorem run_both {h : mH} {T : Int → Int} {n nc : Int} {Ds : Int → Int → Int → Int → Int} {nh : Int} {Xs : Int → HX} (I : INV h T n nc Ds nh Xs) {hd : Int} (q : 0 ≤ hd ∧ hd < nh) {j e i : Int} (j0 : 0 ≤ j ∧ j ≤ 99) (e0 : 0 ≤ e ∧ e ≤ 99) (i0 : -1 ≤ i ∧ i < h.M 1 9) (u1 u2 u3 w2 w3 : mV) : ∀ (f : Nat) (p x sum : Int) (u12 u13 u10 u11 : mV) (g : mH), p + f = h.M 1 9 → 0 ≤ p → (i = -1 ∨ p ≤ i) → 0 ≤ sum → sum ≤ 3000000 * p → Ew (Scr nc nh) h g → g.M 9 70 = x →
    ∃ v g', Rn kX_run 10 [vO 10 1, u1, u2, u3, vI j, vI e, vI i, vR 2 (h.M 4 hd), vL x, vU, vI sum, vI p, u12, u13] [] h = some (some (vI v), h) ∧ Rn kM_run 10 [vO 11 9, vI hd, w2, w3, vI j, vI e, vI i, vI sum, vI (-1), vI p, u10, u11] [] g = some (some (vI v), g') ∧ Ew (Scr nc nh) g g' := by
  intro f
  induction f with
  | zero =>
    intro p x sum u12 u13 u10 u11 g e1 p0 ip s0 s1 xg mg
    have J := I.ew xg fun _ _ z => z
    have p9 : g.M 1 9 = h.M 1 9 := xg.2 1 9 fun z => by have := scr_b z; omega
    exact ⟨sum, g, by rw [E_X_run_10, if_neg (by omega)], by rw [E_M_run_10, J.2.2.2.2.2.1.1, p9, if_neg (by omega), if_pos (by omega)], Ew.rf _ _⟩
  | succ f ih =>
    intro p x sum u12 u13 u10 u11 g e1 p0 ip s0 s1 xg mg
    have J := I.ew xg fun _ _ z => z
    have p9 : g.M 1 9 = h.M 1 9 := xg.2 1 9 fun z => by have := scr_b z; omega
    have S := I.2.2.2.2.2.1.2.2.2 p (by omega) (by omega)
    have c : ∀ b k, b = 46 ∨ b = 47 ∨ b = 48 ∨ b = 49 → g.M b k = h.M b k := fun b k hb => xg.2 b k fun z => by have := scr_b z; omega
    have pl : plk g Ds p = plk h Ds p := by
      unfold plk
      rw [c 46 p (by omega), c 47 p (by omega), c 46 (p - 1) (by omega), c 47 (p - 1) (by omega)]
    have pt : pto g Ds (Xs hd) p = pto h Ds (Xs hd) p := by
      unfold pto
      rw [c 46 p (by omega), c 47 p (by omega), c 48 p (by omega), c 49 p (by omega)]
    have tl := toD_lo (I.hik q.1 q.2).1 (I.dok S.1.1.1 S.1.1.2) (h.M 47 p) (h.M 48 p) (h.M 49 p)
    have tt : toD (Xs hd) (Ds (h.M 46 p)) (h.M 47 p) (h.M 48 p) (h.M 49 p) = pto h Ds (Xs hd) p := rfl
    have vb := rnV_b (x := x) (lk := plk h Ds p) tl j0 e0
    rw [tt] at tl vb
    obtain ⟨w12, w13, ec⟩ := C_run1 I q (i := i) j0 e0 u1 u2 u3 u12 u13 (x := x) p0 (by omega) ⟨s0, s1⟩
    obtain ⟨g1, w10, w11, er, x1, m1⟩ := R_run1 J q (i := i) j0 e0 w2 w3 u10 u11 (its := -1) p0 (by omega) ⟨s0, s1⟩ mg
    rw [pl, pt] at er
    rw [pt] at m1
    have ns : 0 ≤ (if pto h Ds (Xs hd) p = -1 then sum else sum + rnV (pto h Ds (Xs hd) p) x j e (plk h Ds p)) ∧ (if pto h Ds (Xs hd) p = -1 then sum else sum + rnV (pto h Ds (Xs hd) p) x j e (plk h Ds p)) ≤ 3000000 * (p + 1) := by
      by_cases t : pto h Ds (Xs hd) p = -1
      · rw [if_pos t]; omega
      · have db := drw_b (nxD x) j0.1 j0.2
        have : 0 ≤ rnV (pto h Ds (Xs hd) p) x j e (plk h Ds p) := by
          unfold rnV imax
          rw [if_neg t]
          split
          · omega
          · split <;> omega
        rw [if_neg t]
        omega
    have J1 := J.ew x1 fun _ _ z => z
    have p91 : g1.M 1 9 = g.M 1 9 := x1.2 1 9 fun z => by have := scr_b z; omega
    by_cases pi : p = i
    · rw [if_pos pi] at ec er
      obtain ⟨g2, e3, x2⟩ := R_rest (T := T) (n := n) (nc := nc) (Ds := Ds) (nh := nh) (Xs := Xs) q (i := i) j0 e0 (by omega) w2 w3 (rnV (pto h Ds (Xs hd) p) x j e (plk h Ds p)) f (p + 1) _ w10 w11 g1 J1 (by omega) (by omega) ns.1 ns.2
      exact ⟨_, g2, ec, er.trans e3, x1.tr x2⟩
    · rw [if_neg pi] at ec er
      obtain ⟨v, g2, e3, e4, x2⟩ := ih (p + 1) _ _ w12 w13 w10 w11 g1 (by omega) (by omega) (by omega) ns.1 ns.2 (xg.tr x1) m1
      exact ⟨v, g2, ec.trans e3, er.trans e4, x1.tr x2⟩
theorem ok_run {hd s j e i : Int} : okc kX_run kM_run [vI hd, vL s, vI j, vI e, vI i] := okq1 fun h T n nc Ds nh Xs I => by
  have pl := I.2.2.2.2.2.1
  have pb0 := pl.2.1
  have pb1 := pl.2.2.1
  rw [E_X_run, C_headAt I, Z_bR, E_M_run, R_isHead I, Z_bI]
  by_cases p : 0 ≤ hd ∧ hd < nh
  · rw [if_pos p, if_neg (I.q0 p.1 p.2), bz_t p, if_neg n10, R_in, Z_bI]
    by_cases j0 : 0 ≤ j ∧ j ≤ 99
    · rw [if_neg (by omega : ¬ j < 0), if_pos j0.2, bz_t j0, if_neg n10, R_in, Z_bI]
      by_cases e0 : 0 ≤ e ∧ e ≤ 99
      · rw [if_neg (by omega : ¬ e < 0), if_pos e0.2, bz_t e0, if_neg n10, pl.1, Z_wI (by omega), R_in, Z_bI]
        by_cases i0 : -1 ≤ i ∧ i ≤ h.M 1 9 - 1
        · have x1 : Ew (Scr nc nh) h (h.set 9 70 s) := Ew.st (W := Scr nc nh) h _ (Or.inl ⟨rfl, by omega⟩)
          obtain ⟨v, g', e1, e2, x2⟩ := run_both I p j0 e0 (i := i) ⟨i0.1, by omega⟩ (vI hd) (vL s) vU (vL s) vU (h.M 1 9).toNat 0 s 0 vU vU vU vU (h.set 9 70 s) (by omega) (by omega) (by omega) (by omega) (by omega) x1 (Z_Mt ..)
          exact ⟨v, g', by rw [if_neg (by omega), if_pos (by omega)]; exact e1, by rw [bz_t i0, if_neg n10, Z_hl]; exact e2, x1.tr x2⟩
        · refine ⟨-1, h, ?_, by rw [bz_f i0, if_pos rfl], Ew.rf _ _⟩
          by_cases z : i < -1
          · rw [if_pos z]
          · rw [if_neg z, if_neg (by omega)]
      · refine ⟨-1, h, ?_, by rw [bz_f e0, if_pos rfl], Ew.rf _ _⟩
        by_cases z : e < 0
        · rw [if_pos z]
        · rw [if_neg z, if_neg (by omega)]
    · refine ⟨-1, h, ?_, by rw [bz_f j0, if_pos rfl], Ew.rf _ _⟩
      by_cases z : j < 0
      · rw [if_pos z]
      · rw [if_neg z, if_neg (by omega)]
  · exact ⟨-1, h, by rw [if_neg p, if_pos rfl], by rw [bz_f p, if_pos rfl], Ew.rf _ _⟩
