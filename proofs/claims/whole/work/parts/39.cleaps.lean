/-! THE PURE PART, rows of leaps in the class -/
/-- a Stretch object's arrays and its leaps -/
def clr (h : mH) (q : Int) (lp : Int → Int) : Prop := h.M q 0 ≠ 0 ∧ h.M q 1 ≠ 0 ∧ h.N (h.M q 0) = 8 ∧ h.N (h.M q 1) = 8 ∧ 0 ≤ h.M q 2 ∧ h.M q 2 ≤ 8 ∧ (∀ i, 0 ≤ i → i < 8 → h.M (h.M q 1) i = 0 ∨ h.M (h.M q 1) i = 1) ∧ ∀ y, lp y = lpk (h.M (h.M q 0)) (h.M (h.M q 1)) (h.M q 2).toNat y
theorem clr.r01 {h : mH} {q : Int} {lp : Int → Int} (R : clr h q lp) (y : Int) : lp y = 0 ∨ lp y = 1 := by
  obtain ⟨_, _, _, _, _, a, b, c⟩ := R
  rw [c]
  exact lpk_01 _ _ fun j j0 j1 => b j j0 (by omega)
/-- the leaps stay where the object and its arrays stay -/
theorem clr.cg {h h1 : mH} {q : Int} {lp : Int → Int} (R : clr h q lp) (e0 : h1.M q 0 = h.M q 0) (e1 : h1.M q 1 = h.M q 1) (e2 : h1.M q 2 = h.M q 2) (a0 : ∀ j, h1.M (h.M q 0) j = h.M (h.M q 0) j) (a1 : ∀ j, h1.M (h.M q 1) j = h.M (h.M q 1) j) (n0 : h1.N (h.M q 0) = h.N (h.M q 0)) (n1 : h1.N (h.M q 1) = h.N (h.M q 1)) : clr h1 q lp := by
  obtain ⟨b1, b2, b3, b4, b5, b6, b7, b8⟩ := R
  unfold clr
  rw [e0, e1, e2]
  refine ⟨b1, b2, by rw [n0]; exact b3, by rw [n1]; exact b4, b5, b6, fun i i0 i1 => by rw [a1]; exact b7 i i0 i1, fun y => ?_⟩
  rw [b8 y]
  exact lpk_cg _ _ fun j _ _ => ⟨(a0 j).symm, (a1 j).symm⟩
theorem C_hasLeap1 {h : mH} {q : Int} {lp : Int → Int} (R : clr h q lp) {y : Int} (y0 : 0 ≤ y) : ∀ (k : Nat), (k : Int) ≤ 8 → Rn kSh_hasLeapDay 1 [vO 9 q, vI y, vI ((k : Int) - 1)] [] h = some (some (vI (lpk (h.M (h.M q 0)) (h.M (h.M q 1)) k y)), h) := by
  obtain ⟨b1, b2, b3, b4, b5, b6, b7, b8⟩ := R
  intro k
  induction k with
  | zero =>
    intro _
    rw [E_Sh_hasLeapDay_1, if_pos (by omega), gd_t (Or.inl rfl)]
    rfl
  | succ k ih =>
    intro k8
    rw [E_Sh_hasLeapDay_1, if_neg (by omega), b3, show ((k + 1 : Nat) : Int) - 1 = (k : Int) by omega, gd_t (by omega), lpk_s, Z_wI (z := (k : Int) + -1) (by omega), show (k : Int) + -1 = (k : Int) - 1 by omega]
    have := ih (by omega)
    by_cases c : h.M (h.M q 0) k ≤ 0
    · rw [if_pos c, if_neg (by omega)]
      exact this
    · rw [if_neg c, gd_t (by omega), gd_t (by omega), Z_tmod y0, b4]
      by_cases d : y % h.M (h.M q 0) k = 0
      · rw [if_pos d, gd_t (by omega), gd_t (b7 k (by omega) (by omega)), if_pos (by omega)]
      · rw [if_neg d, if_neg (fun z => d z.2)]
        exact this
theorem C_hasLeap {h : mH} {q : Int} {lp : Int → Int} (R : clr h q lp) {y : Int} (y0 : 0 ≤ y) : Cl kSh_hasLeapDay [vO 9 q, vI y] h = some (some (vI (lp y)), h) := by
  have a := C_hasLeap1 R y0 (h.M q 2).toNat (by have := R.2.2.2.2.2.1; omega)
  obtain ⟨b1, b2, b3, b4, b5, b6, b7, b8⟩ := R
  rw [E_Sh_hasLeapDay, Z_wI (by omega), b8 y]
  rw [show ((h.M q 2).toNat : Int) = h.M q 2 by omega] at a
  exact a
/-- what reading a row of leaps writes: the Reader, the object's count, its arrays -/
def WS (q dv gv r : Int) : Int → Int → Prop := fun b k => (b = r ∧ 2 ≤ k) ∨ (b = q ∧ k = 2) ∨ b = dv ∨ b = gv
theorem WR_WS {q dv gv r b k : Int} (w : WR r b k) : WS q dv gv r b k := Or.inl w
/-- a difference that a search of cases does not see -/
def ne2 (a b : Int) : Prop := a ≠ b
theorem ne2.sy {a b : Int} (h : ne2 a b) : ne2 b a := fun e => h e.symm
/-- where a Stretch that is being read lies -/
def shp (h : mH) (q dv gv r : Int) : Prop := h.M q 0 = dv ∧ h.M q 1 = gv ∧ h.N dv = 8 ∧ h.N gv = 8 ∧ ne2 dv 0 ∧ ne2 gv 0 ∧ ne2 q dv ∧ ne2 q gv ∧ ne2 q r ∧ ne2 dv gv ∧ ne2 dv r ∧ ne2 gv r ∧ ne2 dv 2 ∧ ne2 gv 2 ∧ ne2 q 2 ∧ ne2 r 0
theorem shp.ew {h h1 : mH} {q dv gv r : Int} (P : shp h q dv gv r) (x : Ew (WS q dv gv r) h h1) : shp h1 q dv gv r := by
  obtain ⟨a, b, c, d, p5, p6, p7, p8, p9, e⟩ := P
  have f : ∀ k, k ≠ 2 → h1.M q k = h.M q k := fun k k2 => x.2 q k fun w => by
    rcases w with w | w | w | w
    · exact p9 w.1
    · exact k2 w.2
    · exact p7 w
    · exact p8 w
  exact ⟨(f 0 (by decide)).trans a, (f 1 (by decide)).trans b, by rw [x.N]; exact c, by rw [x.N]; exact d, p5, p6, p7, p8, p9, e⟩
theorem rtp.ws {h h1 : mH} {r q dv gv : Int} {T : Int → Int} {n : Int} (H : rtp h r T n) (P : shp h q dv gv r) (x : Ew (WS q dv gv r) h h1) : rtp h1 r T n := by
  obtain ⟨a, b, c, d, e⟩ := H
  obtain ⟨_, _, _, _, p1, p2, p3, p4, p5, p6, p7, p8, p9, p10, p11, p12⟩ := P
  have f : ∀ k, k < 2 → h1.M r k = h.M r k := fun k k2 => x.2 r k fun w => by
    rcases w with w | w | w | w
    · have := w.2; omega
    · exact p5 w.1.symm
    · exact p7 w.symm
    · exact p8 w.symm
  refine ⟨(f 0 (by decide)).trans a, (f 1 (by decide)).trans b, by rw [x.N]; exact c, fun i i0 i1 => (x.2 2 i fun w => ?_).trans (d i i0 i1), e⟩
  rcases w with w | w | w | w
  · exact e w.1.symm
  · exact p11 w.1.symm
  · exact p9 w.symm
  · exact p10 w.symm
theorem rst5.cg {h h1 : mH} {r : Int} {T : Int → Int} {s : Int × Int} (S : rst5 h r T s) (e : ∀ k, h1.M r k = h.M r k) : rst5 h1 r T s := by
  unfold rst5
  rw [e, e, e]
  exact S
theorem rst5.sk {T : Int → Int} {n : Int} (hT : tpo T n) {h : mH} {r a : Int} (S : rst5 h r T (a, -1)) (a0 : 0 ≤ a) (a1 : a ≤ n) : rst5 h r T (sk T a, -1) := by
  obtain ⟨s5, su, sb⟩ := S
  obtain ⟨u1, u2⟩ := su rfl
  have := sk_b hT a0 a1
  exact ⟨s5, fun _ => by dsimp only at u1 u2 ⊢; rw [this.2.2.2]; exact ⟨u1, u2⟩, fun z => absurd rfl z⟩
theorem D_leaps0 {T : Int → Int} {N : Int} {q r : Int} (h : mH) : Rn kSh_readLeaps 1 [vO 9 q, vR 5 r, vI 0] [] h = some (none, h) := by
  rw [E_Sh_readLeaps_1, if_pos rfl, if_pos rfl]
/-- one turn: a number, a sign -/
theorem D_leapsT {T : Int → Int} {N : Int} (hT : tpo T N) {q dv gv r : Int} {h : mH} (P : shp h q dv gv r) (H : rtp h r T N) {st : Int × Int} (S : rst5 h r T st) (g : gs N st) {k : Int} (hk : h.M q 2 = k) (k0 : 0 ≤ k) (k1 : k < 8) : ∃ h' st' v d, Rn kSh_readLeaps 1 [vO 9 q, vR 5 r, vI 1] [] h = Rn kSh_readLeaps 1 [vO 9 q, vR 5 r, vI (bz (st'.2 = -1 ∧ 48 ≤ T (sk T st'.1) ∧ T (sk T st'.1) ≤ 57))] [] h' ∧ Ew (WS q dv gv r) h h' ∧ rst5 h' r T st' ∧ gs N st' ∧ h'.M q 2 = k + 1 ∧ (∀ j, h'.M dv j = if j = k then v else h.M dv j) ∧ (∀ j, h'.M gv j = if j = k then d else h.M gv j) ∧ (d = 0 ∨ d = 1) ∧ ((nmS T 1 9999 st).2.2 ≠ -1 → st'.2 = (nmS T 1 9999 st).2.2) ∧ ((nmS T 1 9999 st).2.2 = -1 → ¬ (T (sk T (nmS T 1 9999 st).2.1) = 43 ∨ T (sk T (nmS T 1 9999 st).2.1) = 45) → st'.2 = sk T (nmS T 1 9999 st).2.1) ∧ ((nmS T 1 9999 st).2.2 = -1 → (T (sk T (nmS T 1 9999 st).2.1) = 43 ∨ T (sk T (nmS T 1 9999 st).2.1) = 45) → st' = (sk T (nmS T 1 9999 st).2.1 + 1, -1) ∧ v = (nmS T 1 9999 st).1 ∧ d = (if T (sk T (nmS T 1 9999 st).2.1) = 43 then 1 else 0)) := by
  have hn := hT.2.1
  have PP := P
  obtain ⟨p1, p2, p3, p4, p5, p6, p7, p8, p9, p10, p11, p12, p13, p14, p15, p16⟩ := P
  have mb := nmS_b hT g (lo := 1) 9999 (by omega)
  obtain ⟨v, h1, e1, x1, S1, w1, w2⟩ := D_number hT H S g 1 9999
  have H1 := H.ew x1
  -- the array of numbers
  have y1 : Ew (WS q dv gv r) h1 (h1.set dv k v) := Ew.st _ _ (Or.inr (Or.inr (Or.inl rfl)))
  have P1 := PP.ew (x1.mono fun _ _ w => WR_WS w)
  have H2 := H1.ws P1 y1
  have P2 := P1.ew y1
  have S2 : rst5 (h1.set dv k v) r T (nmS T 1 9999 st).2 := S1.cg fun j => Z_Mn (Or.inl p11.sy)
  obtain ⟨h3, e3, x3, S3, g3⟩ := D_takes hT H2 S2 mb.1 (c := 43) (by decide)
  have H3 := H2.ew x3
  have P3 := P2.ew (x3.mono fun _ _ w => WR_WS w)
  obtain ⟨d, hd⟩ : ∃ d, d = bz ((nmS T 1 9999 st).2.2 = -1 ∧ T (sk T (nmS T 1 9999 st).2.1) = 43) := ⟨_, rfl⟩
  rw [← hd] at e3
  have d01 : d = 0 ∨ d = 1 := by rw [hd]; exact bz_01 _
  have y3 : Ew (WS q dv gv r) h3 (h3.set gv k d) := Ew.st _ _ (Or.inr (Or.inr (Or.inr rfl)))
  have H4 := H3.ws P3 y3
  have P4 := P3.ew y3
  have S4 : rst5 (h3.set gv k d) r T (tkS T 43 (nmS T 1 9999 st).2) := S3.cg fun j => Z_Mn (Or.inl p12.sy)
  -- what stands
  have xa : Ew (WS q dv gv r) h (h3.set gv k d) := (((x1.mono fun _ _ w => WR_WS w).tr y1).tr (x3.mono fun _ _ w => WR_WS w)).tr y3
  have q0 : h1.M q 0 = dv := P1.1
  have q2 : h1.M q 2 = k := (x1.2 q 2 fun w => p9 w.1).trans hk
  have a0 : (h1.set dv k v).M q 1 = gv := P2.2.1
  have a2 : (h1.set dv k v).M q 2 = k := by rw [Z_Mn (Or.inl p7)]; exact q2
  have b1 : (h3.set gv k d).M q 1 = gv := P4.2.1
  have b2 : (h3.set gv k d).M q 2 = k := by rw [Z_Mn (Or.inl p8), x3.2 q 2 fun w => p9 w.1]; exact a2
  have n1 : h1.N dv = 8 := P1.2.2.1
  have n3 : h3.N gv = 8 := P3.2.2.2.1
  have n4 : (h3.set gv k d).N gv = 8 := n3
  have dvj : ∀ j, (h3.set gv k d).M dv j = if j = k then v else h.M dv j := by
    intro j
    rw [Z_Mn (Or.inl p10), x3.2 dv j fun w => p11 w.1, Z_Ms, x1.2 dv j fun w => p11 w.1]
    by_cases z : j = k
    · rw [if_pos z, if_pos ⟨rfl, z⟩]
    · rw [if_neg z, if_neg fun y => z y.2]
  have gvj : ∀ j, (h3.set gv k d).M gv j = if j = k then d else h.M gv j := by
    intro j
    rw [Z_Ms, x3.2 gv j fun w => p12 w.1, Z_Mn (Or.inl p10.sy), x1.2 gv j fun w => p12 w.1]
    by_cases z : j = k
    · rw [if_pos z, if_pos ⟨rfl, z⟩]
    · rw [if_neg z, if_neg fun y => z y.2]
  -- behind the sign
  have step : ∀ (h5 : mH) (st' : Int × Int), Ew (WR r) (h3.set gv k d) h5 → rst5 h5 r T st' → gs N st' → (hl (h5.set q 2 (wI (h5.M q 2 + 1))) fun h6 => gd (r ≠ (0 : Int)) <| bI (Cl kRd_seesDigit [vO 5 r] h6) fun z7 h7 => Rn kSh_readLeaps 1 [vO 9 q, vR 5 r, vI z7] [] h7) = Rn kSh_readLeaps 1 [vO 9 q, vR 5 r, vI (bz (st'.2 = -1 ∧ 48 ≤ T (sk T st'.1) ∧ T (sk T st'.1) ≤ 57))] [] (h5.set q 2 (k + 1)) ∧ Ew (WS q dv gv r) h (h5.set q 2 (k + 1)) ∧ rst5 (h5.set q 2 (k + 1)) r T st' ∧ (h5.set q 2 (k + 1)).M q 2 = k + 1 ∧ (∀ j, (h5.set q 2 (k + 1)).M dv j = if j = k then v else h.M dv j) ∧ (∀ j, (h5.set q 2 (k + 1)).M gv j = if j = k then d else h.M gv j) := by
    intro h5 st' x5 S5 g5
    have c2 : h5.M q 2 = k := (x5.2 q 2 fun w => p9 w.1).trans b2
    have S6 : rst5 (h5.set q 2 (k + 1)) r T st' := S5.cg fun j => Z_Mn (Or.inl p9.sy)
    refine ⟨?_, (xa.tr (x5.mono fun _ _ w => WR_WS w)).tr (Ew.st _ _ (Or.inr (Or.inl ⟨rfl, rfl⟩))), S6, Z_Mt .., fun j => ?_, fun j => ?_⟩
    · rw [c2, Z_wI (by omega), Z_hl, gd_t (show r ≠ 0 from p16), D_seesDigit, Z_bI]
      congr 1
      have : bz (48 ≤ (h5.set q 2 (k + 1)).M r 3 ∧ (h5.set q 2 (k + 1)).M r 3 ≤ 57) = bz (st'.2 = -1 ∧ 48 ≤ T (sk T st'.1) ∧ T (sk T st'.1) ≤ 57) := by
        by_cases z : st'.2 = -1
        · rw [(S6.2.1 z).2]
          by_cases y : 48 ≤ T (sk T st'.1) ∧ T (sk T st'.1) ≤ 57
          · rw [bz_t y, bz_t ⟨z, y⟩]
          · rw [bz_f y, bz_f fun w => y w.2]
        · rw [S6.2.2 z, bz_f (by decide), bz_f fun w => z w.1]
      rw [this]
    · rw [Z_Mn (Or.inl p7.sy), x5.2 dv j fun w => p11 w.1]; exact dvj j
    · rw [Z_Mn (Or.inl p8.sy), x5.2 gv j fun w => p12 w.1]; exact gvj j
  have head : Rn kSh_readLeaps 1 [vO 9 q, vR 5 r, vI 1] [] h = (if d = 0 then (bV (Cl kRd_expect [vO 5 r, vI 45] (h3.set gv k d)) fun h5 => hl (h5.set q 2 (wI (h5.M q 2 + 1))) fun h6 => gd (r ≠ (0 : Int)) <| bI (Cl kRd_seesDigit [vO 5 r] h6) fun z7 h7 => Rn kSh_readLeaps 1 [vO 9 q, vR 5 r, vI z7] [] h7) else (hl ((h3.set gv k d).set q 2 (wI ((h3.set gv k d).M q 2 + 1))) fun h6 => gd (r ≠ (0 : Int)) <| bI (Cl kRd_seesDigit [vO 5 r] h6) fun z7 h7 => Rn kSh_readLeaps 1 [vO 9 q, vR 5 r, vI z7] [] h7)) := by
    rw [E_Sh_readLeaps_1, if_neg (by decide), hk, if_pos k1, gd_t (show r ≠ 0 from p16), e1, Z_bI, p1, n1, gd_t ⟨k0, k1, p5⟩, Z_hl, gd_t (show r ≠ 0 from p16), e3, Z_bI, a0, a2, n3, gd_t ⟨k0, k1, p6⟩, gd_t d01, Z_hl, b1, b2, n4, gd_t ⟨k0, k1, p6⟩, gvj, if_pos rfl]
    by_cases z : d = 0
    · rw [if_pos z, if_pos z, gd_t (show r ≠ 0 from p16)]
    · rw [if_neg z, if_neg z]
  rw [head]
  by_cases c0 : (nmS T 1 9999 st).2.2 = -1 ∧ T (sk T (nmS T 1 9999 st).2.1) = 43
  · have d1 : d = 1 := by rw [hd]; exact bz_t c0
    obtain ⟨s1, s2, s3, s4, s5, s6⟩ := step (h3.set gv k d) (tkS T 43 (nmS T 1 9999 st).2) (Ew.rf _ _) S4 g3
    have t3 : tkS T 43 (nmS T 1 9999 st).2 = (sk T (nmS T 1 9999 st).2.1 + 1, -1) := if_pos c0
    rw [if_neg (by omega)]
    refine ⟨_, _, v, d, s1, s2, s3, g3, s4, s5, s6, d01, fun z => absurd c0.1 z, fun _ z => absurd (Or.inl c0.2) z, fun _ _ => ⟨t3, (w1 c0.1).1, ?_⟩⟩
    rw [if_pos c0.2]; exact d1
  · have d1 : d = 0 := by rw [hd]; exact bz_f c0
    have t3 : tkS T 43 (nmS T 1 9999 st).2 = (nmS T 1 9999 st).2 := if_neg c0
    rw [t3] at S4
    obtain ⟨h5, e5, x5, S5⟩ := D_expect hT H4 S4 mb.1 (c := 45) (by decide)
    have g5 := sgn_g hT mb.1 (c := 45) (by decide)
    obtain ⟨s1, s2, s3, s4, s5, s6⟩ := step h5 _ x5 S5 g5
    rw [if_pos d1, e5, Z_bV]
    refine ⟨_, _, v, d, s1, s2, s3, g5, s4, s5, s6, d01, fun z => ?_, fun z y => ?_, fun z y => ⟨?_, (w1 z).1, ?_⟩⟩
    · unfold sgn; rw [if_neg z]
    · unfold sgn; rw [if_pos z, if_neg fun w => y (Or.inr w)]
    · have y2 : T (sk T (nmS T 1 9999 st).2.1) = 45 := by
        rcases y with y | y
        · exact absurd ⟨z, y⟩ c0
        · exact y
      obtain ⟨m1, m2⟩ := mb.1 z
      have s9 := sk_b hT m1 m2
      have l := tp_lt hT (a := sk T (nmS T 1 9999 st).2.1) (by omega)
      unfold sgn
      rw [if_pos z, if_pos y2, Z_wI (by omega)]
    · rw [if_neg fun w => c0 ⟨z, w⟩]; exact d1
theorem D_leaps1 {T : Int → Int} {N : Int} (hT : tpo T N) {q dv gv r : Int} : ∀ (n : Nat) (k : Int) (b i : Int → Int) (st : Int × Int) (h : mH), shp h q dv gv r → rtp h r T N → rst5 h r T st → gs N st → h.M q 2 = k → k + n = 8 → 0 ≤ k → (∀ j, 0 ≤ j → j < k → h.M dv j = b j ∧ h.M gv j = i j) → (∀ j, 0 ≤ j → j < 8 → h.M gv j = 0 ∨ h.M gv j = 1) → (n = 0 → sk T st.1 = st.1) → ∃ h', Rn kSh_readLeaps 1 [vO 9 q, vR 5 r, vI 1] [] h = some (none, h') ∧ Ew (WS q dv gv r) h h' ∧ rst5 h' r T (rlS T n k b i st).2.2.2 ∧ 0 ≤ h'.M q 2 ∧ h'.M q 2 ≤ 8 ∧ (∀ j, 0 ≤ j → j < 8 → h'.M gv j = 0 ∨ h'.M gv j = 1) ∧ ((rlS T n k b i st).2.2.2.2 = -1 → h'.M q 2 = (rlS T n k b i st).1 ∧ 0 ≤ (rlS T n k b i st).1 ∧ ∀ j, 0 ≤ j → j < (rlS T n k b i st).1 → h'.M dv j = (rlS T n k b i st).2.1 j ∧ h'.M gv j = (rlS T n k b i st).2.2.1 j) := by
  have hn := hT.2.1
  intro n
  induction n with
  | zero =>
    intro k b i st h P H S g hk e k0 hb g01 sk0
    obtain ⟨h', e1, x1, S1, z1⟩ := D_refuse hT S g
    have p16 : r ≠ 0 := P.2.2.2.2.2.2.2.2.2.2.2.2.2.2.2
    have pq : q ≠ r := P.2.2.2.2.2.2.2.2.1
    have pg : gv ≠ r := P.2.2.2.2.2.2.2.2.2.2.2.1
    have p2 : h'.M q 2 = k := (x1.2 q 2 fun w => pq w.1).trans hk
    rw [rlS_z]
    unfold rfS at S1 z1
    refine ⟨h', by rw [E_Sh_readLeaps_1, if_neg (by decide), hk, if_neg (by omega), if_neg (by decide), gd_t (show r ≠ 0 from p16), e1, Z_bV], x1.mono fun _ _ w => WR_WS w, ?_, by omega, by omega, fun j j0 j1 => by rw [x1.2 gv j fun w => pg w.1]; exact g01 j j0 j1, fun y => ?_⟩
    · by_cases z : st.2 = -1
      · rw [if_pos z] at S1 ⊢
        rw [sk0 rfl] at S1
        exact S1
      · rw [if_neg z] at S1 ⊢
        exact S1
    · exfalso
      dsimp only at y
      by_cases z : st.2 = -1
      · rw [if_pos z] at y
        have := (g z).1
        omega
      · rw [if_neg z] at y
        exact z y
  | succ n ih =>
    intro k b i st h P H S g hk e k0 hb g01 sk0
    obtain ⟨h1, st', v, d, e1, x1, S1, g1, k1, dvj, gvj, d01, f1, f2, f3⟩ := D_leapsT hT P H S g hk k0 (by omega)
    have mb := nmS_b hT g (lo := 1) 9999 (by omega)
    have P1 := P.ew x1
    have H1 := H.ws P x1
    have g01' : ∀ j, 0 ≤ j → j < 8 → h1.M gv j = 0 ∨ h1.M gv j = 1 := by
      intro j j0 j1
      rw [gvj]
      split
      · exact d01
      · exact g01 j j0 j1
    -- a fault: nothing more is read
    have bad : st'.2 ≠ -1 → ∃ h', Rn kSh_readLeaps 1 [vO 9 q, vR 5 r, vI 1] [] h = some (none, h') ∧ Ew (WS q dv gv r) h h' ∧ rst5 h' r T st' ∧ 0 ≤ h'.M q 2 ∧ h'.M q 2 ≤ 8 ∧ ∀ j, 0 ≤ j → j < 8 → h'.M gv j = 0 ∨ h'.M gv j = 1 := by
      intro z
      rw [bz_f fun w => z w.1, D_leaps0 (T := T) (N := N)] at e1
      exact ⟨h1, e1, x1, S1, by omega, by omega, g01'⟩
    by_cases h2 : (nmS T 1 9999 st).2.2 = -1
    · obtain ⟨m1, m2⟩ := mb.1 h2
      have s2 := sk_b hT m1 m2
      by_cases c : T (sk T (nmS T 1 9999 st).2.1) = 43 ∨ T (sk T (nmS T 1 9999 st).2.1) = 45
      · obtain ⟨t1, t2, t3⟩ := f3 h2 c
        subst t1
        have l := tp_lt hT (a := sk T (nmS T 1 9999 st).2.1) (by omega)
        have s3 := sk_b hT (a := sk T (nmS T 1 9999 st).2.1 + 1) (by omega) (by omega)
        have hb1 : ∀ j, 0 ≤ j → j < k + 1 → h1.M dv j = upf b k (nmS T 1 9999 st).1 j ∧ h1.M gv j = upf i k (if T (sk T (nmS T 1 9999 st).2.1) = 43 then 1 else 0) j := by
          intro j j0 j1
          rw [dvj, gvj, t2, t3]
          unfold upf
          by_cases z : j = k
          · simp only [if_pos z, and_self]
          · simp only [if_neg z]
            exact hb j j0 (by omega)
        by_cases dd : 48 ≤ T (sk T (sk T (nmS T 1 9999 st).2.1 + 1)) ∧ T (sk T (sk T (nmS T 1 9999 st).2.1 + 1)) ≤ 57
        · rw [rlS_on h2 c dd]
          rw [bz_t ⟨rfl, dd⟩] at e1
          obtain ⟨h', e3, x3, r⟩ := ih (k + 1) (upf b k (nmS T 1 9999 st).1) (upf i k (if T (sk T (nmS T 1 9999 st).2.1) = 43 then 1 else 0)) (sk T (sk T (nmS T 1 9999 st).2.1 + 1), -1) h1 P1 H1 (rst5.sk hT S1 (by omega) (by omega)) (fun _ => by dsimp only; omega) k1 (by omega) (by omega) hb1 g01' (fun _ => s3.2.2.2)
          exact ⟨h', e1.trans e3, x1.tr x3, r⟩
        · rw [rlS_end h2 c dd]
          rw [bz_f fun w => dd w.2, D_leaps0 (T := T) (N := N)] at e1
          exact ⟨h1, e1, x1, rst5.sk hT S1 (by omega) (by omega), by omega, by omega, g01', fun _ => ⟨k1, by dsimp only; omega, hb1⟩⟩
      · have t := f2 h2 c
        obtain ⟨h', e3, x3, S3, r⟩ := bad (by omega)
        rw [rlS_no h2 c]
        exact ⟨h', e3, x3, ⟨S3.1.trans t, fun z => by dsimp only at z; omega, fun _ => S3.2.2 (by omega)⟩, r.1, r.2.1, r.2.2, fun z => by dsimp only at z; omega⟩
    · have t := f1 h2
      obtain ⟨h', e3, x3, S3, r⟩ := bad (by omega)
      rw [rlS_bad h2]
      exact ⟨h', e3, x3, ⟨S3.1.trans t, fun z => absurd z h2, fun _ => S3.2.2 (by omega)⟩, r.1, r.2.1, r.2.2, fun z => absurd z h2⟩
/-- a Stretch as it is made, then read: its leaps are the text's, if there is no fault -/
theorem D_leaps {T : Int → Int} {N : Int} (hT : tpo T N) {q dv gv r : Int} {h : mH} (P : shp h q dv gv r) (H : rtp h r T N) {st : Int × Int} (S : rst5 h r T st) (g : gs N st) (h2 : h.M q 2 = 0) (g0 : ∀ j, 0 ≤ j → j < 8 → h.M gv j = 0 ∨ h.M gv j = 1) : ∃ h' lp, Cl kSh_readLeaps [vO 9 q, vR 5 r] h = some (none, h') ∧ Ew (WS q dv gv r) h h' ∧ rst5 h' r T (rlS T 8 0 lf0 lf0 st).2.2.2 ∧ clr h' q lp ∧ ((rlS T 8 0 lf0 lf0 st).2.2.2.2 = -1 → lp = lpR (rlS T 8 0 lf0 lf0 st)) := by
  obtain ⟨h', e, x, S1, a1, a2, a3, a4⟩ := D_leaps1 hT 8 0 lf0 lf0 st h P H S g h2 (by omega) (by omega) (fun j j0 j1 => by omega) g0 (fun z => by omega)
  obtain ⟨p1, p2, p3, p4, p5, p6, _⟩ := P.ew x
  refine ⟨h', lpk (h'.M dv) (h'.M gv) (h'.M q 2).toNat, by rw [E_Sh_readLeaps]; exact e, x, S1, ?_, fun z => ?_⟩
  · unfold clr
    rw [p1, p2]
    exact ⟨p5, p6, p3, p4, a1, a2, a3, fun y => rfl⟩
  · obtain ⟨b1, b2, b3⟩ := a4 z
    funext y
    unfold lpR
    rw [b1]
    exact lpk_cg _ _ fun j j0 j1 => ⟨(b3 j j0 (by omega)).1, (b3 j j0 (by omega)).2⟩
