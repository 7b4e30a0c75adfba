/-! THE PURE PART, the row of things: reading on both sides -/
def thn (T : Int → Int) (s : Int × Int) : (Int × Int × Int) × (Int × Int) := if T (sk T s.1) = 63 then ((-1, 0, 0), (sk T s.1 + 1, -1)) else (((nmS T 0 9999 s).1, (nmS T 0 9999 (sgn T 46 (nmS T 0 9999 s).2)).1, (nmS T 0 9999 (sgn T 46 (nmS T 0 9999 (sgn T 46 (nmS T 0 9999 s).2)).2)).1), (nmS T 0 9999 (sgn T 46 (nmS T 0 9999 (sgn T 46 (nmS T 0 9999 s).2)).2)).2)
def rws (T : Int → Int) : Nat → Int × Int → Int → (Int → Int × Int × Int) → Int × (Int → Int × Int × Int) × (Int × Int)
  | 0, s, k, V => (k, V, s)
  | f + 1, s, k, V => if (thn T s).2.2 = -1 ∧ T (sk T (thn T s).2.1) = 59 then rws T f (sk T (thn T s).2.1 + 1, -1) (k + 1) (fun i => if i = k then (thn T s).1 else V i) else (k + 1, (fun i => if i = k then (thn T s).1 else V i), (thn T s).2)
theorem sgn_2 {T : Int → Int} {c : Int} {s : Int × Int} (z : (sgn T c s).2 = -1) : s.2 = -1 := by
  unfold sgn at z
  by_cases q : s.2 = -1
  · exact q
  · rw [if_neg q] at z
    exact z
theorem thn_g {T : Int → Int} {n : Int} (hT : tpo T n) {a : Int} (h0 : 0 ≤ a) (h1 : a ≤ n) : gs n (thn T (a, -1)).2 ∧ ((thn T (a, -1)).2.2 = -1 → a + 1 ≤ (thn T (a, -1)).2.1) := by
  have sb := sk_b hT h0 h1
  unfold thn
  by_cases q : T (sk T a) = 63
  · have l := tp_lt hT (a := sk T a) (by omega)
    rw [if_pos q]
    exact ⟨gs_1 (show 0 ≤ sk T a + 1 by omega) (show sk T a + 1 ≤ n by omega), fun _ => show a + 1 ≤ sk T a + 1 by omega⟩
  · rw [if_neg q]
    have g0 : gs n (a, -1) := gs_1 h0 h1
    have g1 := (nmS_b hT g0 (lo := 0) 9999 (by decide)).1
    have g2 := sgn_g hT g1 (c := 46) (by decide)
    have b3 := nmS_b hT g2 (lo := 0) 9999 (by decide)
    have g3 := b3.1
    have g4 := sgn_g hT g3 (c := 46) (by decide)
    have b5 := nmS_b hT g4 (lo := 0) 9999 (by decide)
    refine ⟨b5.1, fun z => ?_⟩
    have z4 := (b5.2.2.2 z).1
    have z3 := sgn_2 z4
    have z2 := (b3.2.2.2 z3).1
    have z1 := sgn_2 z2
    have a1 := nmS_adv hT g0 (lo := 0) 9999 (by decide) z1
    have a2 := sgn_adv hT g1 z2
    have a3 := nmS_adv hT g2 (lo := 0) 9999 (by decide) z3
    have a4 := sgn_adv hT g3 z4
    have a5 := nmS_adv hT g4 (lo := 0) 9999 (by decide) z
    have e : (nmS T 0 9999 (a, -1)).2.1 ≤ (nmS T 0 9999 (sgn T 46 (nmS T 0 9999 (sgn T 46 (nmS T 0 9999 (a, -1)).2)).2)).2.1 := by omega
    exact Int.le_trans a1 e
theorem nmS_sk {T : Int → Int} {n : Int} (hT : tpo T n) {a : Int} (h0 : 0 ≤ a) (h1 : a ≤ n) (lo hi : Int) : nmS T lo hi (sk T a, -1) = nmS T lo hi (a, -1) := by
  have sb := (sk_b hT h0 h1).2.2.2
  unfold nmS
  rw [if_pos rfl, if_pos rfl]
  show nm T lo hi (sk T a) = nm T lo hi a
  unfold nm
  rw [sb]
/-- the last place of the tape: nothing is left -/
theorem thn_end {T : Int → Int} {n : Int} (hT : tpo T n) : (thn T (n, -1)).2 = (n, n) ∨ ((thn T (n, -1)).2.2 = n ∧ n ≠ -1) := by
  have n0 := hT.1
  have sb := sk_b hT n0 (Int.le_refl n)
  have sn : sk T n = n := by omega
  have tn : T n = -1 := hT.2.2.1 n (Int.le_refl n)
  have e : nmS T 0 9999 (n, -1) = (0, n, n) := by
    unfold nmS
    rw [if_pos rfl]
    show nm T 0 9999 n = _
    unfold nm
    rw [sn, tn, if_neg (by omega)]
  have q : ¬ n = -1 := by omega
  right
  unfold thn
  rw [if_neg (show ¬ T (sk T n) = 63 by rw [sn, tn]; decide), e]
  refine ⟨?_, q⟩
  unfold sgn nmS
  dsimp only
  rw [if_neg q, if_neg q, if_neg q, if_neg q]
def wr3 (h : mH) (k : Int) (t : Int × Int × Int) : mH := ((h.set 53 k t.1).set 54 k t.2.1).set 55 k t.2.2
theorem R_wr3 {h : mH} (L : lay h) {s : Int × Int} {k : Int} (k0 : 0 ≤ k) (k1 : k < 160) (t : Int × Int × Int) : (gd ((0 : Int) ≤ k ∧ k < (pss h s).N ((pss h s).M 9 66) ∧ ((pss h s).M 9 66) ≠ 0) <| hl ((pss h s).set ((pss h s).M 9 66) k t.1) fun h7 => gd ((0 : Int) ≤ k ∧ k < h7.N (h7.M 9 67) ∧ (h7.M 9 67) ≠ 0) <| hl (h7.set (h7.M 9 67) k t.2.1) fun h8 => gd ((0 : Int) ≤ k ∧ k < h8.N (h8.M 9 68) ∧ (h8.M 9 68) ≠ 0) <| hl (h8.set (h8.M 9 68) k t.2.2) fun h9 => (some (none, h9) : mR)) = some (none, pss (wr3 h k t) s) := by
  have L0 := pss_lay L s
  have L1 := L.st t.1 (layA_n (b := 53) k (by decide) (by decide))
  have L2 := L1.st t.2.1 (layA_n (b := 54) k (by decide) (by decide))
  rw [lm66 L0, ln53 L0, gd_t (by omega), Z_hl, pss_set h s k t.1 (b := 53) (by decide), lm67 (pss_lay L1 s), ln54 (pss_lay L1 s), gd_t (by omega), Z_hl, pss_set _ s k t.2.1 (b := 54) (by decide), lm68 (pss_lay L2 s), ln55 (pss_lay L2 s), gd_t (by omega), Z_hl, pss_set _ s k t.2.2 (b := 55) (by decide)]
  rfl
theorem R_thing {T : Int → Int} {n : Int} (hT : tpo T n) {h : mH} (H : mtp h T n) {a : Int} (h0 : 0 ≤ a) (h1 : a ≤ n) {k c : Int} (k0 : 0 ≤ k) (k1 : k < 160) : Cl kM_readThing [vO 11 9, vI k, vI c] (pst h a (-1)) = some (none, pss (if c = 0 then h else wr3 h k (thn T (a, -1)).1) (thn T (a, -1)).2) := by
  have sb := sk_b hT h0 h1
  rw [E_M_readThing, R_look hT H (-1) h0 h1, Z_bI]
  unfold thn
  by_cases q : T (sk T a) = 63
  · have l := tp_lt hT (a := sk T a) (by omega)
    have t2 := hT.2.1
    rw [if_pos q, if_pos q, pst_3, Z_wI (by omega), pst_s3, Z_hl]
    by_cases z : c = 0
    · rw [if_pos z, if_pos z]
      rfl
    · rw [if_neg z, if_neg z]
      exact R_wr3 H.1 (s := (sk T a + 1, -1)) k0 k1 (-1, 0, 0)
  · have g0 : gs n (sk T a, -1) := gs_1 (by omega) sb.2.1
    have g1 := (nmS_b hT g0 (lo := 0) 9999 (by decide)).1
    have g2 := sgn_g hT g1 (c := 46) (by decide)
    have g3 := (nmS_b hT g2 (lo := 0) 9999 (by decide)).1
    have g4 := sgn_g hT g3 (c := 46) (by decide)
    rw [if_neg q, if_neg q, show pst h (sk T a) (-1) = pss h (sk T a, -1) from rfl, R_plain hT H g0 9999 (by decide), Z_bI, R_sign hT H g1, Z_bV, R_plain hT H g2 9999 (by decide), Z_bI, R_sign hT H g3, Z_bV, R_plain hT H g4 9999 (by decide), Z_bI, nmS_sk hT h0 h1]
    by_cases z : c = 0
    · rw [if_pos z, if_pos z]
    · rw [if_neg z, if_neg z]
      exact R_wr3 H.1 k0 k1 ((nmS T 0 9999 (a, -1)).1, (nmS T 0 9999 (sgn T 46 (nmS T 0 9999 (a, -1)).2)).1, (nmS T 0 9999 (sgn T 46 (nmS T 0 9999 (sgn T 46 (nmS T 0 9999 (a, -1)).2)).2)).1)
theorem D_thing {T : Int → Int} {n : Int} (hT : tpo T n) {r : Int} (r0 : r ≠ 0) {h : mH} (H : rtp h r T n) {a : Int} (h0 : 0 ≤ a) (h1 : a ≤ n) (S : rst5 h r T (a, -1)) : ∃ z h', Cl kX_readThing [vR 5 r] h = some (some (vI z), h') ∧ Ew (WR r) h h' ∧ rst5 h' r T (thn T (a, -1)).2 ∧ ((thn T (a, -1)).2.2 = -1 → thg z (thn T (a, -1)).1.1 (thn T (a, -1)).1.2.1 (thn T (a, -1)).1.2.2) := by
  have sb := sk_b hT h0 h1
  have g0 : gs n (a, -1) := gs_1 h0 h1
  obtain ⟨ha, ra, xa, Sa, ga⟩ := D_takes hT H S g0 (c := 63) (by decide)
  have Ha := H.ew xa
  rw [E_X_readThing, gd_t r0, ra, Z_bI]
  unfold thn
  unfold tkS at Sa ga
  by_cases q : T (sk T a) = 63
  · rw [if_pos q]
    rw [if_pos ⟨rfl, q⟩] at Sa
    refine ⟨0, ha, by rw [bz_t ⟨rfl, q⟩, if_neg n10], xa, Sa, fun _ => Or.inr ⟨fun t => ?_, rfl⟩⟩
    have := t.1
    dsimp only at this
    omega
  · rw [if_neg q]
    rw [if_neg fun t => q t.2] at Sa ga
    obtain ⟨v1, hb, rb, xb, Hb, Sb, gb, wb, lb1, lb2⟩ := D_num hT Ha Sa ga (lo := 0) (hi := 9999) (by decide) (by decide)
    obtain ⟨hc, rc, xc, Hc, Sc, gc⟩ := D_exp hT Hb Sb gb (c := 46) (by decide)
    obtain ⟨v2, hd, rd, xd, Hd, Sd, gd', wd, ld1, ld2⟩ := D_num hT Hc Sc gc (lo := 0) (hi := 9999) (by decide) (by decide)
    obtain ⟨he, re, xe, He, Se, ge⟩ := D_exp hT Hd Sd gd' (c := 46) (by decide)
    obtain ⟨v3, hf, rf, xf, Hf, Sf, gf, wf, lf1, lf2⟩ := D_num hT He Se ge (lo := 0) (hi := 9999) (by decide) (by decide)
    have xx := ((((xa.tr xb).tr xc).tr xd).tr xe).tr xf
    have eq : (nmS T 0 9999 (sgn T 46 (nmS T 0 9999 (sgn T 46 (nmS T 0 9999 (a, -1)).2)).2)).2.2 = -1 → v1 = (nmS T 0 9999 (a, -1)).1 ∧ v2 = (nmS T 0 9999 (sgn T 46 (nmS T 0 9999 (a, -1)).2)).1 ∧ v3 = (nmS T 0 9999 (sgn T 46 (nmS T 0 9999 (sgn T 46 (nmS T 0 9999 (a, -1)).2)).2)).1 := fun z => by
      have z4 := ((nmS_b hT ge (lo := 0) 9999 (by decide)).2.2.2 z).1
      have z3 := sgn_2 z4
      have z2 := ((nmS_b hT gc (lo := 0) 9999 (by decide)).2.2.2 z3).1
      have z1 := sgn_2 z2
      exact ⟨(wb z1).1, (wd z3).1, (wf z).1⟩
    rw [bz_f fun t => q t.2, if_pos rfl, gd_t r0, rb, Z_bI, gd_t r0, rc, Z_bV, gd_t r0, rd, Z_bI, gd_t r0, re, Z_bV, gd_t r0, rf, Z_bI, C_isDatelike, Z_bI]
    by_cases z : dtl v1 v2 v3
    · obtain ⟨ty, tm, td⟩ := z
      refine ⟨key v1 v2 v3, hf, by rw [cb_t (p := dtl v1 v2 v3) ⟨ty, tm, td⟩, if_neg n10, C_keyOf _ (by omega) (by omega) (by omega) (by omega) (by omega) (by omega), Z_bI], xx, Sf, fun zz => ?_⟩
      obtain ⟨q1, q2, q3⟩ := eq zz
      exact Or.inl (by rw [← q1, ← q2, ← q3]; exact ⟨⟨ty, tm, td⟩, rfl⟩)
    · refine ⟨0, hf, by rw [cb_f z, if_pos rfl], xx, Sf, fun zz => ?_⟩
      obtain ⟨q1, q2, q3⟩ := eq zz
      exact Or.inr (by rw [← q1, ← q2, ← q3]; exact ⟨z, rfl⟩)
