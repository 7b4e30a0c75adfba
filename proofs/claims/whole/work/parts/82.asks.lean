/-! THE PURE PART, calls: asks -/
theorem INV.ask {h : mH} {T : Int → Int} {n nc : Int} {Ds : Int → Int → Int → Int → Int} {nh : Int} {Xs : Int → HX} (I : INV h T n nc Ds nh Xs) {i : Int} (i0 : 0 ≤ i) (i1 : i < h.M 1 7) : aik h nc Ds i := I.2.2.2.2.1.2.2.2.1 i i0 i1
theorem INV.na {h : mH} {T : Int → Int} {n nc : Int} {Ds : Int → Int → Int → Int → Int} {nh : Int} {Xs : Int → HX} (I : INV h T n nc Ds nh Xs) : h.M 9 49 = h.M 1 7 ∧ 0 ≤ h.M 1 7 ∧ h.M 1 7 ≤ 60 := ⟨I.2.2.2.2.1.1, I.2.2.2.2.1.2.1, I.2.2.2.2.1.2.2.1⟩
theorem R_askDay {g : mH} {T : Int → Int} {n nc : Int} {Ds : Int → Int → Int → Int → Int} {nh : Int} {Xs : Int → HX} (J : INV g T n nc Ds nh Xs) {i : Int} (i0 : 0 ≤ i) (i1 : i < g.M 1 7) : Cl kM_askDay [vO 11 9, vI i] g = some (some (vI (Ds (g.M 40 i) (g.M 41 i) (g.M 42 i) (g.M 43 i))), g) := by
  have L := J.1
  have nb := J.na
  have A := J.ask i0 i1
  rw [E_M_askDay, lm43 L, lm44 L, lm45 L, lm46 L, ln40 L, ln41 L, ln42 L, ln43 L, gd_t (by omega), gd_t (by omega), gd_t (by omega), gd_t (by omega), R_dayOf J.mcs A.1.1, Z_bI]
theorem ok_asked {i w : Int} : okc kX_asked kM_asked [vI i, vI w] := okq0 fun h T n nc Ds nh Xs I => by
  have L := I.1
  have nb := I.na
  rw [E_X_asked, E_M_asked, nb.1, Z_wI (z := h.M 1 7 - 1) (by omega), R_in, Z_bI]
  by_cases i0 : 0 ≤ i ∧ i ≤ h.M 1 7 - 1
  · obtain ⟨S, m0, a0, t0, mb, ab, tb, p0, F⟩ := I.ask i0.1 (by omega)
    have db := (I.dok S.1.1.1 S.1.1.2).1 (h.M 41 i) (h.M 42 i) (h.M 43 i)
    have d1 := S.1.2
    have s0 := S.2.2.2.2.2.2.2.1
    rw [if_neg (by omega : ¬ i < 0), if_pos (show i < h.M 1 7 by omega), lx6 L, ln5 L, gd_t (by omega), bz_t i0, if_neg n10, R_in, Z_bI]
    by_cases w5 : 0 ≤ w ∧ w ≤ 5
    · rw [bz_t w5, if_neg n10]
      by_cases w0 : w = 0
      · exact ⟨_, by rw [if_pos w0, gd_t p0], by rw [if_pos w0, lm42 L, ln39 L, gd_t (by omega), m0]⟩
      · rw [if_neg w0, if_neg w0]
        by_cases w1 : w = 1
        · exact ⟨_, by rw [if_pos w1, gd_t p0, gd_t s0], by rw [if_pos w1, lm43 L, ln40 L, gd_t (by omega), S.2.1]⟩
        · rw [if_neg w1, if_neg w1]
          by_cases w2 : w = 2
          · exact ⟨_, by rw [if_pos w2, gd_t p0, gd_t s0], by rw [if_pos w2, R_askDay I i0.1 (by omega), Z_bI, S.2.2.2.2.2.2.1]⟩
          · rw [if_neg w2, if_neg w2]
            by_cases w3 : w = 3
            · exact ⟨_, by rw [if_pos w3, gd_t p0], by rw [if_pos w3, lm47 L, ln44 L, gd_t (by omega), a0]⟩
            · rw [if_neg w3, if_neg w3]
              by_cases w4 : w = 4
              · exact ⟨_, by rw [if_pos w4, gd_t p0], by rw [if_pos w4, lm48 L, ln45 L, gd_t (by omega), t0]⟩
              · refine ⟨offV (h.M 44 i) (Ds (h.M 40 i) (h.M 41 i) (h.M 42 i) (h.M 43 i)), ?_, ?_⟩
                · rw [if_neg w4, if_pos (by omega), gd_t p0, gd_t p0, gd_t s0, a0, S.2.2.2.2.2.2.1, C_offBy ab (by omega), Z_bI]
                · rw [if_neg w4, lm47 L, ln44 L, gd_t (by omega), R_askDay I i0.1 (by omega), Z_bI, R_round ab (by omega), Z_bI]
    · refine ⟨-1000, ?_, by rw [bz_f w5, if_pos rfl]⟩
      rw [if_neg (by omega), if_neg (by omega), if_neg (by omega), if_neg (by omega), if_neg (by omega), if_neg (by omega)]
  · refine ⟨-1000, ?_, by rw [bz_f i0, if_pos rfl]⟩
    by_cases z : i < 0
    · rw [if_pos z]
    · rw [if_neg z, if_neg (by omega)]
def iab (x : Int) : Int := if x < 0 then -x else x
theorem C_abs {x : Int} (hx : -2147483647 ≤ x ∧ x < 2147483648) (h : mH) : Cl kJ_abs [vI x] h = some (some (vI (iab x)), h) := by
  rw [E_J_abs]
  unfold iab
  by_cases q : x < 0
  · rw [if_pos q, if_pos q, Z_wI (by omega)]
  · rw [if_neg q, if_neg q]
def ato (h : mH) (Ds : Int → Int → Int → Int → Int) (X : HX) (i : Int) : Int := toD X (Ds (h.M 40 i)) (h.M 41 i) (h.M 42 i) (h.M 43 i)
def soP (h : mH) (Ds : Int → Int → Int → Int → Int) (X : HX) (sl i : Int) : Prop := ato h Ds X i ≠ -1 ∧ ato h Ds X i % 7 = h.M 44 i ∧ iab (ato h Ds X i / 7 - h.M 45 i) ≤ sl
theorem C_isSo {h : mH} {T : Int → Int} {n nc : Int} {Ds : Int → Int → Int → Int → Int} {nh : Int} {Xs : Int → HX} (I : INV h T n nc Ds nh Xs) {hd : Int} (p : 0 ≤ hd ∧ hd < nh) {i : Int} (i0 : 0 ≤ i) (i1 : i < h.M 1 7) (sl : Int) : Cl kAk_isSoWith [vO 1 (h.M 5 i), vR 2 (h.M 4 hd), vI sl] h = some (some (vI (cb (soP h Ds (Xs hd) sl i))), h) := by
  obtain ⟨S, m0, a0, t0, mb, ab, tb, p0, F⟩ := I.ask i0 i1
  have s0 := S.2.2.2.2.2.2.2.1
  have tl := toD_lo (I.hik p.1 p.2).1 (I.dok S.1.1.1 S.1.1.2) (h.M 41 i) (h.M 42 i) (h.M 43 i)
  have tt : toD (Xs hd) (Ds (h.M 40 i)) (h.M 41 i) (h.M 42 i) (h.M 43 i) = ato h Ds (Xs hd) i := rfl
  rw [tt] at tl
  rw [E_Ak_isSoWith, gd_t s0, gd_t s0, gd_t s0, gd_t s0, gd_t (I.q0 p.1 p.2), S.2.2.1, S.2.2.2.1, S.2.2.2.2.1, S.2.2.2.2.2.1, I.told p S.1.1, Z_bI, tt]
  by_cases q : ato h Ds (Xs hd) i = -1
  · rw [if_pos q, gd_t (by decide), cb_f fun z => z.1 q]
  · rw [if_neg q, gd_t (by decide), Z_tmod (by omega), a0]
    by_cases w : ato h Ds (Xs hd) i % 7 = h.M 44 i
    · rw [if_pos w, gd_t (by decide), Z_tdiv (by omega), Z_wI (z := ato h Ds (Xs hd) i / 7) (by omega), t0, Z_wI (z := ato h Ds (Xs hd) i / 7 - h.M 45 i) (by omega), C_abs (by omega), Z_bI]
      by_cases z : iab (ato h Ds (Xs hd) i / 7 - h.M 45 i) ≤ sl
      · rw [if_pos z, gd_t (by decide), cb_t ⟨q, w, z⟩]
      · rw [if_neg z, gd_t (by decide), cb_f fun y => z y.2.2]
    · rw [if_neg w, gd_t (by decide), cb_f fun y => w y.2.1]
theorem R_isSo {g : mH} {T : Int → Int} {n nc : Int} {Ds : Int → Int → Int → Int → Int} {nh : Int} {Xs : Int → HX} (J : INV g T n nc Ds nh Xs) {hd : Int} (p : 0 ≤ hd ∧ hd < nh) {i : Int} (i0 : 0 ≤ i) (i1 : i < g.M 1 7) (sl : Int) : ∃ g', Cl kM_isSo [vO 11 9, vI hd, vI i, vI sl] g = some (some (vI (cb (soP g Ds (Xs hd) sl i))), g') ∧ Ew (Scr nc nh) g g' := by
  obtain ⟨S, m0, a0, t0, mb, ab, tb, p0, F⟩ := J.ask i0 i1
  have L := J.1
  have nb := J.na
  obtain ⟨g', e, x, r⟩ := R_ansT J p S.1
  have tt : toD (Xs hd) (Ds (g.M 40 i)) (g.M 41 i) (g.M 42 i) (g.M 43 i) = ato g Ds (Xs hd) i := rfl
  rw [tt] at e r
  have L' := (J.ew x fun _ _ z => z).1
  refine ⟨g', ?_, x⟩
  have c44 : g'.M 44 i = g.M 44 i := x.2 44 i fun z => by have := scr_b z; omega
  have c45 : g'.M 45 i = g.M 45 i := x.2 45 i fun z => by have := scr_b z; omega
  rw [E_M_isSo, lm43 L, lm44 L, lm45 L, lm46 L, ln40 L, ln41 L, ln42 L, ln43 L, gd_t (by omega), gd_t (by omega), gd_t (by omega), gd_t (by omega), e, Z_bI]
  by_cases q : ato g Ds (Xs hd) i = -1
  · rw [cb_f (p := ato g Ds (Xs hd) i ≠ -1) fun z => z q, if_pos rfl, gd_t (by decide), cb_f fun z => z.1 q]
  · obtain ⟨m40, m41, b1, b2⟩ := r q
    rw [cb_t (p := ato g Ds (Xs hd) i ≠ -1) q, if_neg n10, lm47 L', ln44 L', gd_t (by omega), m40, c44]
    by_cases w : ato g Ds (Xs hd) i % 7 = g.M 44 i
    · rw [if_pos w, lm48 L', ln45 L', gd_t (by omega), m41, c45, Z_wI (z := ato g Ds (Xs hd) i / 7 - g.M 45 i) (by omega), C_abs (by omega), Z_bI]
      by_cases z : iab (ato g Ds (Xs hd) i / 7 - g.M 45 i) ≤ sl
      · rw [if_pos z, gd_t (by decide), cb_t ⟨q, w, z⟩]
      · rw [if_neg z, gd_t (by decide), cb_f fun y => z y.2.2]
    · rw [if_neg w, gd_t (by decide), cb_f fun y => w y.2.1]
theorem soP_cg {h g : mH} {nc nh : Int} (x : Ew (Scr nc nh) h g) (Ds : Int → Int → Int → Int → Int) (X : HX) (sl i : Int) : soP g Ds X sl i = soP h Ds X sl i := by
  have c : ∀ b, 40 ≤ b ∧ b ≤ 45 → g.M b i = h.M b i := fun b hb => x.2 b i fun z => by have := scr_b z; omega
  unfold soP ato
  rw [c 40 (by omega), c 41 (by omega), c 42 (by omega), c 43 (by omega), c 44 (by omega), c 45 (by omega)]
noncomputable def soN (h : mH) (Ds : Int → Int → Int → Int → Int) (X : HX) (sl : Int) : Int := cn (soP h Ds X sl) (h.M 1 7).toNat 0
theorem soN_cg {h g : mH} {nc nh : Int} (x : Ew (Scr nc nh) h g) (Ds : Int → Int → Int → Int → Int) (X : HX) (sl : Int) : soN g Ds X sl = soN h Ds X sl := by
  unfold soN
  rw [x.2 1 7 fun z => by have := scr_b z; omega]
  exact cn_cg _ _ fun i _ _ => by rw [soP_cg x]
theorem C_soCount {h : mH} {T : Int → Int} {n nc : Int} {Ds : Int → Int → Int → Int → Int} {nh : Int} {Xs : Int → HX} (I : INV h T n nc Ds nh Xs) {hd : Int} (p : 0 ≤ hd ∧ hd < nh) (sl : Int) : Cl kX_soCount [vO 10 1, vR 2 (h.M 4 hd), vI sl] h = some (some (vI (soN h Ds (Xs hd) sl)), h) := by
  have L := I.1
  have nb := I.na
  have main : ∀ (f : Nat) (i x : Int), i + f = h.M 1 7 → 0 ≤ i → 0 ≤ x → x ≤ i → Rn kX_soCount 1 [vO 10 1, vR 2 (h.M 4 hd), vI sl, vI x, vI i] [] h = some (some (vI (x + cn (soP h Ds (Xs hd) sl) f i)), h) := by
    intro f
    induction f with
    | zero =>
      intro i x e i0 x0 x1
      rw [E_X_soCount_1, if_neg (by omega)]
      show _ = some (some (vI (x + 0)), h)
      rw [Int.add_zero]
    | succ f ih =>
      intro i x e i0 x0 x1
      have A := I.ask i0 (by omega)
      rw [E_X_soCount_1, if_pos (by omega), lx6 L, ln5 L, gd_t (by omega), gd_t A.2.2.2.2.2.2.2.1, C_isSo I p i0 (by omega), Z_bI, cn_s]
      by_cases q : soP h Ds (Xs hd) sl i
      · rw [cb_t q, if_neg n10, Z_wI (by omega), Z_wI (by omega), ih (i + 1) _ (by omega) (by omega) (by omega) (by omega), Int.add_assoc]
      · rw [cb_f q, if_pos rfl, Z_wI (by omega), ih (i + 1) _ (by omega) (by omega) (by omega) (by omega), Int.zero_add]
  rw [E_X_soCount, main (h.M 1 7).toNat 0 0 (by omega) (by omega) (by omega) (by omega), Int.zero_add]
  rfl
theorem R_soMany {g : mH} {T : Int → Int} {n nc : Int} {Ds : Int → Int → Int → Int → Int} {nh : Int} {Xs : Int → HX} (J : INV g T n nc Ds nh Xs) {hd : Int} (p : 0 ≤ hd ∧ hd < nh) (sl : Int) : ∃ g', Cl kM_soMany [vO 11 9, vI hd, vI sl] g = some (some (vI (soN g Ds (Xs hd) sl)), g') ∧ Ew (Scr nc nh) g g' := by
  have main : ∀ (f : Nat) (i x : Int) (g1 : mH), i + f = g.M 1 7 → 0 ≤ i → 0 ≤ x → x ≤ i → Ew (Scr nc nh) g g1 → ∃ g', Rn kM_soMany 1 [vO 11 9, vI hd, vI sl, vI x, vI i] [] g1 = some (some (vI (x + cn (soP g Ds (Xs hd) sl) f i)), g') ∧ Ew (Scr nc nh) g1 g' := by
    intro f
    induction f with
    | zero =>
      intro i x g1 e i0 x0 x1 xg
      have J1 := J.ew xg fun _ _ z => z
      have n7 : g1.M 1 7 = g.M 1 7 := xg.2 1 7 fun z => by have := scr_b z; omega
      refine ⟨g1, ?_, Ew.rf _ _⟩
      rw [E_M_soMany_1, J1.na.1, n7, if_neg (by omega)]
      show _ = some (some (vI (x + 0)), g1)
      rw [Int.add_zero]
    | succ f ih =>
      intro i x g1 e i0 x0 x1 xg
      have J1 := J.ew xg fun _ _ z => z
      have nb := J.na
      have n7 : g1.M 1 7 = g.M 1 7 := xg.2 1 7 fun z => by have := scr_b z; omega
      obtain ⟨g2, e2, x2⟩ := R_isSo J1 p (i := i) i0 (by omega) sl
      rw [soP_cg xg] at e2
      rw [E_M_soMany_1, J1.na.1, n7, if_pos (by omega), e2, Z_bI, cn_s, Z_wI (z := x + 0) (by omega), Z_wI (z := x + 1) (by omega), Z_wI (z := i + 1) (by omega)]
      by_cases q : soP g Ds (Xs hd) sl i
      · obtain ⟨g3, e3, x3⟩ := ih (i + 1) (x + 1) g2 (by omega) (by omega) (by omega) (by omega) (xg.tr x2)
        exact ⟨g3, by rw [cb_t q, if_neg n10, e3, Int.add_assoc], x2.tr x3⟩
      · obtain ⟨g3, e3, x3⟩ := ih (i + 1) (x + 0) g2 (by omega) (by omega) (by omega) (by omega) (xg.tr x2)
        exact ⟨g3, by rw [cb_f q, if_pos rfl, e3, Int.add_assoc], x2.tr x3⟩
  have nb := J.na
  obtain ⟨g', e, x⟩ := main (g.M 1 7).toNat 0 0 g (by omega) (by omega) (by omega) (by omega) (Ew.rf _ _)
  refine ⟨g', ?_, x⟩
  rw [E_M_soMany, e, Int.zero_add]
  rfl
theorem C_isSlack (s : Int) (h : mH) : Cl kX_isSlack [vI s] h = some (some (vI (bz (0 ≤ s ∧ s ≤ 999))), h) := by
  rw [E_X_isSlack]
  by_cases q : s < 0
  · rw [if_pos q, gd_t (by decide), bz_f (by omega)]
  · rw [if_neg q]
    by_cases w : s ≤ 999
    · rw [if_pos w, gd_t (by decide), bz_t (by omega)]
    · rw [if_neg w, gd_t (by decide), bz_f (by omega)]
theorem R_isSlack (s : Int) (h : mH) : Cl kM_isSlack [vO 11 9, vI s] h = some (some (vI (bz (0 ≤ s ∧ s ≤ 999))), h) := by
  rw [E_M_isSlack, R_in, Z_bI, gd_t (bz_01 _)]
theorem ok_so {hd sl : Int} : okc kX_so kM_so [vI hd, vI sl] := okq1 fun h T n nc Ds nh Xs I => by
  rw [E_X_so, C_headAt I, Z_bR, E_M_so, R_isHead I, Z_bI]
  by_cases p : 0 ≤ hd ∧ hd < nh
  · rw [if_pos p, if_neg (I.q0 p.1 p.2), bz_t p, if_neg n10, C_isSlack, Z_bI, R_isSlack, Z_bI]
    by_cases s0 : 0 ≤ sl ∧ sl ≤ 999
    · obtain ⟨g', e, x⟩ := R_soMany I p sl
      exact ⟨soN h Ds (Xs hd) sl, g', by rw [bz_t s0, if_neg n10, C_soCount I p, Z_bI], by rw [bz_t s0, if_neg n10, e, Z_bI], x⟩
    · exact ⟨-1, h, by rw [bz_f s0, if_pos rfl], by rw [bz_f s0, if_pos rfl], Ew.rf _ _⟩
  · exact ⟨-1, h, by rw [if_neg p, if_pos rfl], by rw [bz_f p, if_pos rfl], Ew.rf _ _⟩
/-! heads as bits -/
noncomputable def hwm (P : Int → Prop) : Nat → Int → Int → Int
  | 0, _, x => x
  | n + 1, k, x => hwm P n (k + 1) (if cb (P k) = 1 then ior x (ishl 1 k) else x)
theorem hwm_s (P : Int → Prop) (n : Nat) (k x : Int) : hwm P (n + 1) k x = hwm P n (k + 1) (if cb (P k) = 1 then ior x (ishl 1 k) else x) := rfl
theorem hwm_cg {P Q : Int → Prop} : ∀ (n : Nat) (k x : Int), (∀ i, k ≤ i → i < k + n → (P i ↔ Q i)) → hwm P n k x = hwm Q n k x := by
  intro n
  induction n with
  | zero => intro k x _; rfl
  | succ n ih =>
    intro k x e
    have : P k = Q k := propext (e k (by omega) (by omega))
    rw [hwm_s, hwm_s, this]
    exact ih _ _ fun i h0 h1 => e i (by omega) (by omega)
theorem soN_b (h : mH) (Ds : Int → Int → Int → Int → Int) (X : HX) (sl : Int) (h0 : 0 ≤ h.M 1 7) : 0 ≤ soN h Ds X sl ∧ soN h Ds X sl ≤ h.M 1 7 := by
  have := cn_b (soP h Ds X sl) (h.M 1 7).toNat 0
  unfold soN
  omega
theorem C_hwm {h : mH} {T : Int → Int} {n nc : Int} {Ds : Int → Int → Int → Int → Int} {nh : Int} {Xs : Int → HX} (I : INV h T n nc Ds nh Xs) (sl wr : Int) : Cl kX_headsWrongAtMost [vO 10 1, vI sl, vI wr] h = some (some (vI (hwm (fun k => h.M 1 7 - soN h Ds (Xs k) sl ≤ wr) nh.toNat 0 0)), h) := by
  have L := I.1
  have nb := I.na
  have hb := I.nh
  have h5 := I.2.2.2.1.2.1
  have main : ∀ (f : Nat) (k x : Int), k + f = nh → 0 ≤ k → Rn kX_headsWrongAtMost 1 [vO 10 1, vI sl, vI wr, vI x, vI k] [] h = some (some (vI (hwm (fun k => h.M 1 7 - soN h Ds (Xs k) sl ≤ wr) f k x)), h) := by
    intro f
    induction f with
    | zero =>
      intro k x e k0
      rw [E_X_headsWrongAtMost_1, h5, if_neg (by omega)]
      rfl
    | succ f ih =>
      intro k x e k0
      have p : 0 ≤ k ∧ k < nh := ⟨k0, by omega⟩
      have sb := soN_b h Ds (Xs k) sl nb.2.1
      rw [E_X_headsWrongAtMost_1, h5, if_pos (by omega), lx4 L, ln4 L, gd_t (by omega), C_soCount I p, Z_bI, Z_wI (z := h.M 1 7 - soN h Ds (Xs k) sl) (by omega), Z_wI (by omega), hwm_s]
      by_cases q : h.M 1 7 - soN h Ds (Xs k) sl ≤ wr
      · rw [if_pos q, cb_t q, if_pos rfl]
        exact ih (k + 1) _ (by omega) (by omega)
      · rw [if_neg q, cb_f q, if_neg (by decide)]
        exact ih (k + 1) _ (by omega) (by omega)
  rw [E_X_headsWrongAtMost]
  exact main nh.toNat 0 0 (by omega) (by omega)
theorem ok_fits {sl : Int} : okc kX_fits kM_fits [vI sl] := okq1 fun h T n nc Ds nh Xs I => by
  have nb := I.na
  have hb := I.nh
  have main : ∀ (f : Nat) (k x : Int) (g : mH), k + f = nh → 0 ≤ k → inI x → Ew (Scr nc nh) h g → ∃ g', Rn kM_fits 4 [vO 11 9, vI sl, vI x, vI k] [] g = some (some (vI (hwm (fun k => h.M 1 7 - soN h Ds (Xs k) sl ≤ 0) f k x)), g') ∧ Ew (Scr nc nh) g g' := by
    intro f
    induction f with
    | zero =>
      intro k x g e k0 xI xg
      have J := I.ew xg fun _ _ z => z
      exact ⟨g, by rw [E_M_fits_4, J.2.2.2.1.1, if_neg (by omega)]; rfl, Ew.rf _ _⟩
    | succ f ih =>
      intro k x g e k0 xI xg
      have J := I.ew xg fun _ _ z => z
      have p : 0 ≤ k ∧ k < nh := ⟨k0, by omega⟩
      have sb := soN_b h Ds (Xs k) sl nb.2.1
      obtain ⟨g1, e1, x1⟩ := R_soMany J p sl
      have J1 := J.ew x1 fun _ _ z => z
      rw [soN_cg xg] at e1
      have n7 : g1.M 1 7 = h.M 1 7 := (xg.tr x1).2 1 7 fun z => by have := scr_b z; omega
      rw [E_M_fits_4, J.2.2.2.1.1, if_pos (by omega), e1, Z_bI, J1.na.1, n7, hwm_s, Z_or0 xI, Z_wI (z := k + 1) (by omega)]
      by_cases q : soN h Ds (Xs k) sl = h.M 1 7
      · obtain ⟨g2, e2, x2⟩ := ih (k + 1) (ior x (ishl 1 k)) g1 (by omega) (by omega) (Z_orIn _ _) (xg.tr x1)
        exact ⟨g2, by rw [if_pos q, cb_t (by omega), if_pos rfl]; exact e2, x1.tr x2⟩
      · obtain ⟨g2, e2, x2⟩ := ih (k + 1) x g1 (by omega) (by omega) xI (xg.tr x1)
        exact ⟨g2, by rw [if_neg q, cb_f (by omega), if_neg (by decide)]; exact e2, x1.tr x2⟩
  rw [E_X_fits, C_isSlack, Z_bI, E_M_fits, R_isSlack, Z_bI]
  by_cases s0 : 0 ≤ sl ∧ sl ≤ 999
  · obtain ⟨g', e, x⟩ := main nh.toNat 0 0 h (by omega) (by omega) ⟨by decide, by decide⟩ (Ew.rf _ _)
    exact ⟨_, g', by rw [bz_t s0, if_neg n10, C_hwm I, Z_bI], by rw [bz_t s0, if_neg n10]; exact e, x⟩
  · exact ⟨-1, h, by rw [bz_f s0, if_pos rfl], by rw [bz_f s0, if_pos rfl], Ew.rf _ _⟩
theorem ok_spare {sl wr : Int} : okc kX_spare kM_spare [vI sl, vI wr] := okq1 fun h T n nc Ds nh Xs I => by
  have nb := I.na
  have hb := I.nh
  have main : ∀ (f : Nat) (k x : Int) (g : mH), k + f = nh → 0 ≤ k → inI x → Ew (Scr nc nh) h g → ∃ g', Rn kM_spare 6 [vO 11 9, vI sl, vI wr, vI x, vI k] [] g = some (some (vI (hwm (fun k => h.M 1 7 - soN h Ds (Xs k) sl ≤ wr) f k x)), g') ∧ Ew (Scr nc nh) g g' := by
    intro f
    induction f with
    | zero =>
      intro k x g e k0 xI xg
      have J := I.ew xg fun _ _ z => z
      exact ⟨g, by rw [E_M_spare_6, J.2.2.2.1.1, if_neg (by omega)]; rfl, Ew.rf _ _⟩
    | succ f ih =>
      intro k x g e k0 xI xg
      have J := I.ew xg fun _ _ z => z
      have p : 0 ≤ k ∧ k < nh := ⟨k0, by omega⟩
      have sb := soN_b h Ds (Xs k) sl nb.2.1
      obtain ⟨g1, e1, x1⟩ := R_soMany J p sl
      rw [soN_cg xg] at e1
      have n7 : g.M 1 7 = h.M 1 7 := xg.2 1 7 fun z => by have := scr_b z; omega
      rw [E_M_spare_6, J.2.2.2.1.1, if_pos (by omega), e1, Z_bI, J.na.1, n7, hwm_s, Z_or0 xI, Z_wI (z := k + 1) (by omega), Z_wI (z := h.M 1 7 - soN h Ds (Xs k) sl) (by omega)]
      by_cases q : h.M 1 7 - soN h Ds (Xs k) sl ≤ wr
      · obtain ⟨g2, e2, x2⟩ := ih (k + 1) (ior x (ishl 1 k)) g1 (by omega) (by omega) (Z_orIn _ _) (xg.tr x1)
        exact ⟨g2, by rw [if_pos q, cb_t q, if_pos rfl]; exact e2, x1.tr x2⟩
      · obtain ⟨g2, e2, x2⟩ := ih (k + 1) x g1 (by omega) (by omega) xI (xg.tr x1)
        exact ⟨g2, by rw [if_neg q, cb_f q, if_neg (by decide)]; exact e2, x1.tr x2⟩
  rw [E_X_spare, C_isSlack, Z_bI, E_M_spare, R_isSlack, Z_bI]
  by_cases s0 : 0 ≤ sl ∧ sl ≤ 999
  · rw [bz_t s0, if_neg n10, if_neg n10, R_in, Z_bI]
    by_cases w0 : 0 ≤ wr ∧ wr ≤ 60
    · obtain ⟨g', e, x⟩ := main nh.toNat 0 0 h (by omega) (by omega) ⟨by decide, by decide⟩ (Ew.rf _ _)
      exact ⟨_, g', by rw [if_neg (by omega), if_pos w0.2, C_hwm I, Z_bI], by rw [bz_t w0, if_neg n10]; exact e, x⟩
    · refine ⟨-1, h, ?_, by rw [bz_f w0, if_pos rfl], Ew.rf _ _⟩
      by_cases z : wr < 0
      · rw [if_pos z]
      · rw [if_neg z, if_neg (by omega)]
  · exact ⟨-1, h, by rw [bz_f s0, if_pos rfl], by rw [bz_f s0, if_pos rfl], Ew.rf _ _⟩
theorem hwm_bit {P : Int → Prop} : ∀ (f : Nat) (k x : Int), 0 ≤ k → k + f ≤ 8 → 0 ≤ x → x < 256 → 0 ≤ hwm P f k x ∧ hwm P f k x < 256 ∧ ∀ j : Nat, bt' (hwm P f k x) j ↔ (bt' x j ∨ (k ≤ j ∧ (j : Int) < k + f ∧ P j)) := by
  intro f
  induction f with
  | zero =>
    intro k x k0 k1 x0 x1
    exact ⟨x0, x1, fun j => ⟨Or.inl, fun z => z.elim id fun t => by omega⟩⟩
  | succ f ih =>
    intro k x k0 k1 x0 x1
    have ib := ior_bit (M := x) (k := k.toNat) (n := 8) x0 (by omega) (by decide) x1
    rw [show ((k.toNat : Nat) : Int) = k by omega] at ib
    rw [hwm_s]
    by_cases q : P k
    · rw [cb_t q, if_pos rfl]
      obtain ⟨a, b, c⟩ := ih (k + 1) (ior x (ishl 1 k)) (by omega) (by omega) ib.1 ib.2.1
      refine ⟨a, b, fun j => ?_⟩
      rw [c j, ib.2.2 j]
      constructor
      · rintro ((z | z) | z)
        · exact Or.inl z
        · right
          have jk : (j : Int) = k := by omega
          exact ⟨by omega, by omega, by rw [jk]; exact q⟩
        · exact Or.inr ⟨by omega, by omega, z.2.2⟩
      · rintro (z | z)
        · exact Or.inl (Or.inl z)
        · by_cases t : (j : Int) = k
          · exact Or.inl (Or.inr (by omega))
          · exact Or.inr ⟨by omega, by omega, z.2.2⟩
    · rw [cb_f q, if_neg (by decide)]
      obtain ⟨a, b, c⟩ := ih (k + 1) x (by omega) (by omega) x0 x1
      refine ⟨a, b, fun j => ?_⟩
      rw [c j]
      constructor
      · rintro (z | z)
        · exact Or.inl z
        · exact Or.inr ⟨by omega, by omega, z.2.2⟩
      · rintro (z | z)
        · exact Or.inl z
        · by_cases t : (j : Int) = k
          · rw [t] at z; exact absurd z.2.2 q
          · exact Or.inr ⟨by omega, by omega, z.2.2⟩
theorem ok_odds {hd sl : Int} : okc kX_odds kM_odds [vI hd, vI sl] := okq1 fun h T n nc Ds nh Xs I => by
  have L := I.1
  have nb := I.na
  have hb := I.nh
  have h5 := I.2.2.2.1.2.1
  obtain ⟨B, eB⟩ : ∃ B, B = hwm (fun k => h.M 1 7 - soN h Ds (Xs k) sl ≤ 0) nh.toNat 0 0 := ⟨_, rfl⟩
  have bb := hwm_bit (P := fun k => h.M 1 7 - soN h Ds (Xs k) sl ≤ 0) nh.toNat 0 0 (by decide) (by omega) (by decide) (by decide)
  rw [← eB] at bb
  have main : ∀ (f : Nat) (k x : Int) (g : mH), k + f = nh → 0 ≤ k → 0 ≤ x → x ≤ 9 * k → Ew (Scr nc nh) h g → ∃ v g', Rn kX_odds 7 [vO 10 1, vI hd, vI sl, vI B, vI x, vI k] [] h = some (some (vI v), h) ∧ Rn kM_odds 7 [vO 11 9, vI hd, vI sl, vI x, vI k] [] g = some (some (vI v), g') ∧ Ew (Scr nc nh) g g' := by
    intro f
    induction f with
    | zero =>
      intro k x g e k0 x0 x1 xg
      have J := I.ew xg fun _ _ z => z
      exact ⟨x, g, by rw [E_X_odds_7, h5, if_neg (by omega)], by rw [E_M_odds_7, J.2.2.2.1.1, if_neg (by omega)], Ew.rf _ _⟩
    | succ f ih =>
      intro k x g e k0 x0 x1 xg
      have J := I.ew xg fun _ _ z => z
      have p : 0 ≤ k ∧ k < nh := ⟨k0, by omega⟩
      have sb := soN_b h Ds (Xs k) sl nb.2.1
      obtain ⟨g1, e1, x1'⟩ := R_soMany J p sl
      have J1 := J.ew x1' fun _ _ z => z
      rw [soN_cg xg] at e1
      have n7 : g1.M 1 7 = h.M 1 7 := (xg.tr x1').2 1 7 fun z => by have := scr_b z; omega
      have w32 : g1.M 32 k = h.M 32 k := (xg.tr x1').2 32 k fun z => by have := scr_b z; omega
      have H := I.hik p.1 p.2
      have wq : h.M (h.M 4 k) 8 = h.M 32 k := H.2.2.2.2.2.1
      have wb := H.2.2.2.2.2.2
      have bit : iand (ishr B k) 1 = 1 ↔ soN h Ds (Xs k) sl = h.M 1 7 := by
        have ib := iand_bit (M := B) (k := k.toNat) bb.1 (by omega) (by omega)
        have bj := bb.2.2 k.toNat
        rw [show ((k.toNat : Nat) : Int) = k by omega] at ib bj
        rw [ib]
        refine bj.trans ⟨fun z => z.elim (fun t => absurd t (bt_0 _)) fun t => by have := t.2.2; omega, fun z => Or.inr ⟨by omega, by omega, by omega⟩⟩
      obtain ⟨va, ga, ea1, ea2, xa⟩ := ih (k + 1) x g1 (by omega) (by omega) x0 (by omega) (xg.tr x1')
      obtain ⟨vb, gb, eb1, eb2, xb⟩ := ih (k + 1) (x + h.M 32 k) g1 (by omega) (by omega) (by omega) (by omega) (xg.tr x1')
      obtain ⟨vc, gc, ec1, ec2, xc⟩ := ih (k + 1) x g (by omega) (by omega) x0 (by omega) xg
      -- one head's part, where it counts
      have one : ∃ v g', (if iand (ishr B k) 1 = 1 then gd ((0 : Int) ≤ k ∧ k < h.N (h.M 1 4) ∧ h.M 1 4 ≠ 0) <| gd (h.M (h.M 1 4) k ≠ 0) <| Rn kX_odds 7 [vO 10 1, vI hd, vI sl, vI B, vI (wI (x + h.M (h.M (h.M 1 4) k) 8)), vI (wI (k + 1))] [] h else Rn kX_odds 7 [vO 10 1, vI hd, vI sl, vI B, vI x, vI (wI (k + 1))] [] h) = some (some (vI v), h) ∧ (bI (Cl kM_soMany [vO 11 9, vI k, vI sl] g) fun z1 h1 => if z1 = h1.M 9 49 then gd ((0 : Int) ≤ k ∧ k < h1.N (h1.M 9 27) ∧ h1.M 9 27 ≠ 0) <| Rn kM_odds 7 [vO 11 9, vI hd, vI sl, vI (wI (x + h1.M (h1.M 9 27) k)), vI (wI (k + 1))] [] h1 else Rn kM_odds 7 [vO 11 9, vI hd, vI sl, vI (wI (x + 0)), vI (wI (k + 1))] [] h1) = some (some (vI v), g') ∧ Ew (Scr nc nh) g g' := by
        rw [e1, Z_bI, J1.na.1, n7, Z_wI (z := k + 1) (by omega)]
        by_cases q : soN h Ds (Xs k) sl = h.M 1 7
        · refine ⟨vb, gb, ?_, ?_, x1'.tr xb⟩
          · rw [if_pos (bit.mpr q), lx4 L, ln4 L, gd_t (by omega), gd_t (I.q0 p.1 p.2), wq, Z_wI (by omega)]
            exact eb1
          · rw [if_pos q, lm27 J1.1, ln32 J1.1, gd_t (by omega), w32, Z_wI (by omega)]
            exact eb2
        · refine ⟨va, ga, ?_, ?_, x1'.tr xa⟩
          · rw [if_neg fun z => q (bit.mp z)]
            exact ea1
          · rw [if_neg q, Z_wI (by omega), Int.add_zero]
            exact ea2
      rw [E_X_odds_7, h5, if_pos (by omega), E_M_odds_7, J.2.2.2.1.1, if_pos (show k < nh by omega)]
      by_cases a : hd = -1
      · rw [if_pos a, if_pos a]
        exact one
      · rw [if_neg a, if_neg a]
        by_cases b : hd = k
        · rw [if_pos b, if_pos b]
          exact one
        · rw [if_neg b, if_neg b]
          exact ⟨vc, gc, by rw [Z_wI (z := k + 1) (by omega)]; exact ec1, by rw [Z_wI (z := k + 1) (by omega), Z_wI (by omega), Int.add_zero]; exact ec2, xc⟩
  rw [E_X_odds, C_isSlack, Z_bI, E_M_odds, R_isSlack, Z_bI, R_isHead I, Z_bI, R_isSlack, Z_bI, h5]
  by_cases s0 : 0 ≤ sl ∧ sl ≤ 999
  · by_cases a : -1 ≤ hd ∧ hd < nh
    · obtain ⟨v, g', e1, e2, x⟩ := main nh.toNat 0 0 h (by omega) (by omega) (by omega) (by omega) (Ew.rf _ _)
      refine ⟨v, g', ?_, ?_, x⟩
      · rw [bz_t s0, if_neg n10, if_neg (by omega), if_pos a.2, C_hwm I, Z_bI, ← eB]
        exact e1
      · rw [bz_t s0, if_neg n10]
        by_cases b : hd = -1
        · rw [if_pos b]
          exact e2
        · rw [if_neg b, bz_t (by omega), if_neg n10]
          exact e2
    · refine ⟨-1, h, ?_, ?_, Ew.rf _ _⟩
      · rw [bz_t s0, if_neg n10]
        by_cases z : hd < -1
        · rw [if_pos z]
        · rw [if_neg z, if_neg (by omega)]
      · rw [if_neg (by omega), bz_f (p := 0 ≤ hd ∧ hd < nh) (by omega), if_pos rfl]
  · refine ⟨-1, h, by rw [bz_f s0, if_pos rfl], ?_, Ew.rf _ _⟩
    rw [bz_f s0, if_pos z00]
    by_cases b : hd = -1
    · rw [if_pos b]
    · rw [if_neg b]
      by_cases a : 0 ≤ hd ∧ hd < nh
      · rw [bz_t a, if_neg n10]
      · rw [bz_f a, if_pos z00]
