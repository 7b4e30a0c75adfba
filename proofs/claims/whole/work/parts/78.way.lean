/-! THE PURE PART, calls: way, answers -/
theorem C_stepOf7 {h : mH} {w n : Int} {L N E : Int → Int} (R : rwk h w n L N E) {v i : Int} (i1 : i ≤ 20000) (u1 u3 : mV) (hr : ∀ t : Nat, (t : Int) < i → 1 ≤ itn N t v ∧ itn N t v < n) : ∀ (f j : Nat), (j : Int) + f = i → Rn kRw_stepOf 7 [vO 6 w, u1, vI i, u3, vI (itn N j v), vI (j : Int)] [] h = some (some (vI (itn N i.toNat v)), h) := by
  intro f
  induction f with
  | zero =>
    intro j e
    rw [E_Rw_stepOf_7, if_neg (by omega), show i.toNat = j by omega]
  | succ f ih =>
    intro j e
    have r := hr j (by omega)
    have := ih (j + 1) (by omega)
    rw [itn_l] at this
    rw [E_Rw_stepOf_7, if_pos (by omega), C_nextOf R, Z_bI, if_pos r, Z_wI (by omega)]
    exact this
def wyV (L N : Int → Int) (v i : Int) : Int := if i = -1 then L v % 16384 else if 0 ≤ i ∧ i ≤ L v % 16384 then itn N i.toNat v else -1
theorem C_stepOf {h : mH} {w n lc : Int} {ov : Int → Int → Int} {ct : Int → Int} {src : Int → Prop} {L N E : Int → Int} (R : rwk h w n L N E) (K : ntok n lc ov ct) (n1 : n ≤ 10000) (S : rsp n lc ov ct src L N E) {v : Int} (v0 : 1 ≤ v) (v1 : v < n) (nf : L v ≠ 1152921504606846976) (i : Int) : Cl kRw_stepOf [vO 6 w, vI v, vI i] h = some (some (vI (wyV L N v i)), h) := by
  have B := rsp_lnb n1 S
  have bv := (B v v0 v1).2.2 nf
  have p := (rsp_path K n1 S (L v % 16384).toNat v v0 v1 nf (by omega)).1
  have sc : scR n L v = L v % 16384 := if_pos ⟨⟨v0, v1⟩, nf⟩
  rw [E_Rw_stepOf, C_stepCount R B, Z_bI, sc]
  unfold wyV
  by_cases q : i = -1
  · rw [if_pos q, if_pos q]
  · rw [if_neg q, if_neg q]
    by_cases z : i < 0
    · rw [if_pos z, if_neg (by omega)]
    · rw [if_neg z]
      by_cases w : i ≤ L v % 16384
      · rw [if_pos w, if_pos (by omega)]
        exact C_stepOf7 R (i := i) (v := v) (by omega) _ _ (fun t ht => by have := p t (by omega); exact ⟨this.1, this.2.1⟩) i.toNat 0 (by omega)
      · rw [if_neg w, if_neg (by omega)]
theorem toD_cases {X : HX} (V : hxv X) {D : Int → Int → Int → Int} (O : Dok D) (y m d : Int) : (D y m d ≠ -1 ∧ D (hEY X y) (hEM X m) 1 ≠ -1 ∧ ((1 ≤ y ∧ y ≤ 9999) ∧ (1 ≤ m ∧ m ≤ 12) ∧ 1 ≤ d ∧ d ≤ 31) ∧ toD X D y m d = 7 * tnD X D y m d + anD X D y m d ∧ toD X D y m d ≠ -1 ∧ 0 ≤ tnD X D y m d ∧ tnD X D y m d ≤ 2000000 ∧ 0 ≤ anD X D y m d ∧ anD X D y m d ≤ 6) ∨ (toD X D y m d = -1 ∧ (D y m d = -1 ∨ (D y m d ≠ -1 ∧ D (hEY X y) (hEM X m) 1 = -1 ∧ (1 ≤ y ∧ y ≤ 9999) ∧ (1 ≤ m ∧ m ≤ 12) ∧ 1 ≤ d ∧ d ≤ 31))) := by
  unfold toD
  by_cases e : D y m d = -1
  · rw [if_pos e]
    exact Or.inr ⟨rfl, Or.inl e⟩
  · have T := O.2.1 y m d e
    by_cases f : D (hEY X y) (hEM X m) 1 = -1
    · rw [if_neg e, if_pos f]
      exact Or.inr ⟨rfl, Or.inr ⟨e, f, T⟩⟩
    · have b := tnD_b V O T.1 T.2.1 T.2.2 f
      rw [if_neg e, if_neg f]
      exact Or.inl ⟨e, f, T, rfl, by omega, b⟩
theorem ok_way {hd c y m d w i : Int} : okc kX_way kM_way [vI hd, vI c, vI y, vI m, vI d, vI w, vI i] := okq1 fun h T n nc Ds nh Xs I => by
  rw [E_X_way, C_headAt I, Z_bR, C_almAt I, Z_bR, E_M_way, R_isHead I, Z_bI]
  by_cases p : 0 ≤ hd ∧ hd < nh
  · have H := I.hik p.1 p.2
    have q0 := I.q0 p.1 p.2
    rw [if_pos p, if_neg q0, bz_t p, if_neg n10, R_isDate I.mcs, Z_bI]
    by_cases q : 0 ≤ c ∧ c < nc
    · have A := I.cok q.1 q.2
      rw [if_pos q, if_neg A.a0, gd_t q0, C_toldFor H.1 H.2.2.1 A, Z_bI]
      rcases toD_cases H.1 A.ok y m d with ⟨d1, d2, T, t1, t2, _⟩ | ⟨t1, t2⟩
      · have id1 : isd nc Ds c y m d := ⟨q, d1⟩
        have id2 : isd nc Ds c (hEY (Xs hd) y) (hEM (Xs hd) m) 1 := ⟨q, d2⟩
        obtain ⟨h', e', x', r'⟩ := R_goes I p.1 p.2 T.1.1 T.1.2 T.2.1.1 T.2.1.2 c
        have rd := r' id2
        have re := rd.end_ H.1 T.1.1 T.1.2 T.2.1.1 T.2.1.2
        have L' := (I.ew x' fun _ _ z => Wgo_scr z).1
        have hY := C_stepOf H.2.2.1.2.2.1 (st_ok H.1.1) (by decide) H.1.2.1 T.1.1 (by omega) rd.1.1 i
        have hM := C_stepOf H.2.2.1.2.2.2 (pr_ok H.1.1) (by decide) H.1.2.2 T.2.1.1 (by omega) rd.1.2 i
        have w9 : h.M (h.M 4 hd) 9 ≠ 0 := by have := H.2.2.1.2.2.1.1.2.2.1; omega
        have w10 : h.M (h.M 4 hd) 10 ≠ 0 := by have := H.2.2.1.2.2.2.1.2.2.1; omega
        have sY : wI (h'.M 9 38 - 1) = hLY (Xs hd) y % 16384 := by rw [rd.2.1, Z_wI (by omega)]; omega
        have sM : wI (h'.M 9 39 - 1) = hLM (Xs hd) m % 16384 := by rw [rd.2.2.2.1, Z_wI (by omega)]; omega
        rw [if_neg t2, cb_t id1, if_neg n10, R_in, Z_bI]
        by_cases w0 : w = 0
        · refine ⟨wyV (hLY (Xs hd)) (hNY (Xs hd)) y i, h', ?_, ?_, x'.mono fun _ _ z => Wgo_scr z⟩
          · rw [if_pos w0, gd_t q0, gd_t w9, hY, Z_bI]
          · rw [bz_t (by omega), if_neg n10, e', Z_bI, cb_t id2, if_neg n10, if_pos w0, sY]
            unfold wyV
            by_cases i0 : i = -1
            · rw [if_pos i0, if_pos i0]
            · rw [if_neg i0, if_neg i0, R_in, Z_bI]
              by_cases i1 : 0 ≤ i ∧ i ≤ hLY (Xs hd) y % 16384
              · have := rd.2.2.1 i.toNat (by omega)
                rw [show ((i.toNat : Nat) : Int) = i by omega] at this
                rw [bz_t i1, if_neg n10, if_pos w0, lm36 L', ln37 L', gd_t (by omega), if_pos i1, this]
              · rw [bz_f i1, if_pos rfl, if_neg i1]
        · by_cases w1 : w = 1
          · refine ⟨wyV (hLM (Xs hd)) (hNM (Xs hd)) m i, h', ?_, ?_, x'.mono fun _ _ z => Wgo_scr z⟩
            · rw [if_neg w0, if_pos w1, gd_t q0, gd_t w10, hM, Z_bI]
            · rw [bz_t (by omega), if_neg n10, e', Z_bI, cb_t id2, if_neg n10, if_neg w0, sM]
              unfold wyV
              by_cases i0 : i = -1
              · rw [if_pos i0, if_pos i0]
              · rw [if_neg i0, if_neg i0, R_in, Z_bI]
                by_cases i1 : 0 ≤ i ∧ i ≤ hLM (Xs hd) m % 16384
                · have := rd.2.2.2.2 i.toNat (by omega)
                  rw [show ((i.toNat : Nat) : Int) = i by omega] at this
                  rw [bz_t i1, if_neg n10, if_neg w0, lm37 L', ln38 L', gd_t (by omega), if_pos i1, this]
                · rw [bz_f i1, if_pos rfl, if_neg i1]
          · exact ⟨-1, h, by rw [if_neg w0, if_neg w1], by rw [bz_f (by omega), if_pos rfl], Ew.rf _ _⟩
      · rcases t2 with t2 | ⟨t2, t3, T⟩
        · exact ⟨-1, h, by rw [if_pos t1], by rw [cb_f fun z => z.2 t2, if_pos rfl], Ew.rf _ _⟩
        · obtain ⟨h', e', x', _⟩ := R_goes I p.1 p.2 T.1.1 T.1.2 T.2.1.1 T.2.1.2 c
          have id1 : isd nc Ds c y m d := ⟨q, t2⟩
          rw [if_pos t1, cb_t id1, if_neg n10, R_in, Z_bI]
          by_cases w0 : 0 ≤ w ∧ w ≤ 1
          · exact ⟨-1, h', rfl, by rw [bz_t w0, if_neg n10, e', Z_bI, cb_f fun z => z.2 t3, if_pos rfl], x'.mono fun _ _ z => Wgo_scr z⟩
          · exact ⟨-1, h, rfl, by rw [bz_f w0, if_pos rfl], Ew.rf _ _⟩
    · exact ⟨-1, h, by rw [if_neg q, if_pos rfl], by rw [cb_f fun z => q z.1, if_pos rfl], Ew.rf _ _⟩
  · exact ⟨-1, h, by rw [if_neg p, if_pos rfl], by rw [bz_f p, if_pos rfl], Ew.rf _ _⟩
/-! how far off -/
def offV (a d : Int) : Int := (a - d + 3) % 7 - 3
theorem ixor7 {x : Int} (hx : inI x) : (ixor x 7 < 0) ↔ x < 0 := by
  show ((BitVec.ofInt 32 x) ^^^ (BitVec.ofInt 32 7)).toInt < 0 ↔ x < 0
  have e : (BitVec.ofInt 32 x).toInt = x := by
    rw [BitVec.toInt_ofInt]
    exact Z_wI hx
  have m : ((BitVec.ofInt 32 x) ^^^ (BitVec.ofInt 32 7)).msb = (BitVec.ofInt 32 x).msb := by
    rw [BitVec.msb_xor, show (BitVec.ofInt 32 7).msb = false from rfl, Bool.xor_false]
  rw [BitVec.msb_eq_toInt, BitVec.msb_eq_toInt, e] at m
  exact decide_eq_decide.mp m
theorem tmod7 {x : Int} : Int.tmod x 7 = if 0 ≤ x then x % 7 else -((-x) % 7) := by
  by_cases q : 0 ≤ x
  · rw [if_pos q, Z_tmod q]
  · have h := Int.neg_tmod (-x) 7
    rw [Int.neg_neg] at h
    rw [if_neg q, h, Z_tmod (by omega)]
theorem C_floorMod {x : Int} (hx : inI x) (h : mH) : Cl kJ_floorMod [vI x, vI 7] h = some (some (vI (x % 7)), h) := by
  rw [E_J_floorMod, gd_t (by decide)]
  by_cases q : x < 0
  · have e : Int.tmod x 7 = -((-x) % 7) := by rw [tmod7, if_neg (by omega)]
    rw [if_pos ((ixor7 hx).mpr q), e]
    by_cases z : -(-x % 7) = 0
    · rw [if_pos z, show -(-x % 7) = x % 7 by omega]
    · rw [if_neg z, Z_wI (by omega), show -(-x % 7) + 7 = x % 7 by omega]
  · rw [if_neg fun w => q ((ixor7 hx).mp w), Z_tmod (by omega)]
theorem C_offBy {a d : Int} (a0 : 0 ≤ a ∧ a ≤ 6) (d0 : 0 ≤ d ∧ d ≤ 20000000) (h : mH) : Cl kX_offBy [vI a, vI d] h = some (some (vI (offV a d)), h) := by
  rw [E_X_offBy, Z_wI (z := a - d) (by omega), Z_wI (z := a - d + 3) (by omega), C_floorMod ⟨by omega, by omega⟩, Z_bI, Z_wI (by omega)]
  rfl
theorem R_round {a d : Int} (a0 : 0 ≤ a ∧ a ≤ 6) (d0 : 0 ≤ d ∧ d ≤ 20000000) (h : mH) : Cl kM_round [vI (wI (a - d))] h = some (some (vI (offV a d)), h) := by
  have e : Int.tmod (wI (Int.tmod (a - d) 7 + 7)) 7 = (a - d) % 7 := by
    rw [tmod7 (x := a - d)]
    split
    · rw [Z_wI (by omega), Z_tmod (by omega)]
      omega
    · rw [Z_wI (by omega), Z_tmod (by omega)]
      omega
  rw [E_M_round, gd_t (by decide), gd_t (by decide), Z_wI (z := a - d) (by omega), e]
  unfold offV
  by_cases q : (a - d) % 7 ≤ 3
  · rw [if_pos q, show (a - d) % 7 = (a - d + 3) % 7 - 3 by omega]
  · rw [if_neg q, Z_wI (by omega), show (a - d) % 7 - 7 = (a - d + 3) % 7 - 3 by omega]
/-! the first step that is false -/
theorem fs_m {h h' : mH} {T : Int → Int} {n nc : Int} {Ds : Int → Int → Int → Int → Int} {nh : Int} {Xs : Int → HX} (I : INV h T n nc Ds nh Xs) (I' : INV h' T n nc Ds nh Xs) {hd c y m : Int} (p : 0 ≤ hd ∧ hd < nh) (q : 0 ≤ c ∧ c < nc) (y0 : 1 ≤ y ∧ y ≤ 9999) (m0 : 1 ≤ m ∧ m ≤ 12) (rd : rowd h' (Xs hd) y m) (u2 : mV) : ∀ (f j : Nat) (u4 : mV), (j : Int) + f = hLM (Xs hd) m % 16384 → ∃ v, Rn kHd_falseStep 10 [vO 2 (h.M 4 hd), vR 0 (h.M 3 c), u2, vI m, vI (hLY (Xs hd) y % 16384), vI (hEY (Xs hd) y), vI (itn (hNM (Xs hd)) j m), vI (j : Int)] [] h = some (some (vI v), h) ∧ Rn kM_falseStep 9 [vO 11 9, vI c, vI (hEY (Xs hd) y), vI ((j : Int) + 1), u4] [] h' = some (some (vI v), h') := by
  have H := I.hik p.1 p.2
  have A := I.cok q.1 q.2
  have O := A.ok
  have L' := I'.1
  have w10 : h.M (h.M 4 hd) 10 ≠ 0 := by have := H.2.2.1.2.2.2.1.2.2.1; omega
  have B := rsp_lnb (by decide) H.1.2.2
  have re := rd.end_ H.1 y0.1 y0.2 m0.1 m0.2
  have sc : scR 13 (hLM (Xs hd)) m = hLM (Xs hd) m % 16384 := if_pos ⟨⟨m0.1, by omega⟩, rd.1.2⟩
  have pth := (rsp_path (pr_ok H.1.1) (by decide) H.1.2.2 (hLM (Xs hd) m % 16384).toNat m m0.1 (by omega) rd.1.2 (by omega)).1
  intro f
  induction f with
  | zero =>
    intro j u4 e
    exact ⟨-1, by rw [E_Hd_falseStep_10, gd_t w10, C_stepCount H.2.2.1.2.2.2 B, Z_bI, sc, if_neg (by omega)], by rw [E_M_falseStep_9, rd.2.2.2.1, if_neg (by omega)]⟩
  | succ f ih =>
    intro j u4 e
    have pj := pth j (by omega)
    have r1 := rd.2.2.2.2 j (by omega)
    have r2 := rd.2.2.2.2 (j + 1) (by omega)
    have nx := itn_l (hNM (Xs hd)) j m
    have db1 := O.1 (hEY (Xs hd) y) (itn (hNM (Xs hd)) j m) 1
    have db2 := O.1 (hEY (Xs hd) y) (hNM (Xs hd) (itn (hNM (Xs hd)) j m)) 1
    rw [nx, show (((j + 1 : Nat)) : Int) = (j : Int) + 1 by omega] at r2
    rw [E_Hd_falseStep_10, gd_t w10, C_stepCount H.2.2.1.2.2.2 B, Z_bI, sc, if_pos (by omega), gd_t w10, C_nextOf H.2.2.1.2.2.2, Z_bI, if_pos ⟨pj.1, pj.2.1⟩, gd_t A.a0, A.alike, Z_bI, gd_t w10, E_M_falseStep_9, rd.2.2.2.1, if_pos (show (j : Int) + 1 < hLM (Xs hd) m % 16384 + 1 by omega), Z_wI (z := (j : Int) + 1 - 1) (by omega), show (j : Int) + 1 - 1 = (j : Int) by omega, lm37 L', ln38 L', gd_t (by omega), r1, R_isDate I'.mcs, Z_bI]
    have fin : ∀ b, (b = (0 : Int) ∨ b = 1) → (b = 0 → ¬ (Ds c (hEY (Xs hd) y) (itn (hNM (Xs hd)) j m) 1 ≠ -1 ∧ Ds c (hEY (Xs hd) y) (hNM (Xs hd) (itn (hNM (Xs hd)) j m)) 1 ≠ -1)) → (b = 1 → Ds c (hEY (Xs hd) y) (itn (hNM (Xs hd)) j m) 1 ≠ -1 ∧ Ds c (hEY (Xs hd) y) (hNM (Xs hd) (itn (hNM (Xs hd)) j m)) 1 ≠ -1) → ∃ v, (if cb (alk (Ds c) (hEY (Xs hd) y) (itn (hNM (Xs hd)) j m) (hNM (Xs hd) (itn (hNM (Xs hd)) j m))) = 0 then some (some (vI (wI (hLY (Xs hd) y % 16384 + (j : Int)))), h) else bI (Cl kRw_nextOf [vO 6 (h.M (h.M 4 hd) 10), vI (itn (hNM (Xs hd)) j m)] h) fun z4 h4 => Rn kHd_falseStep 10 [vO 2 (h.M 4 hd), vR 0 (h.M 3 c), u2, vI m, vI (hLY (Xs hd) y % 16384), vI (hEY (Xs hd) y), vI z4, vI (wI ((j : Int) + 1))] [] h4) = some (some (vI v), h) ∧ Rn kM_falseStep 16 [vO 11 9, vI c, vI (hEY (Xs hd) y), vI ((j : Int) + 1), u4] [vI b] h' = some (some (vI v), h') := by
      intro b hb b0 b1
      rw [E_M_falseStep_16]
      rcases hb with z | z
      · refine ⟨hLY (Xs hd) y % 16384 + (j : Int), ?_, ?_⟩
        · rw [cb_f fun t => b0 z ⟨t.1, t.2.1⟩, if_pos rfl, Z_wI (by omega)]
        · rw [if_pos z, rd.2.1, Z_wI (z := hLY (Xs hd) y % 16384 + 1 + ((j : Int) + 1)) (by omega), Z_wI (by omega), show hLY (Xs hd) y % 16384 + 1 + ((j : Int) + 1) - 2 = hLY (Xs hd) y % 16384 + (j : Int) by omega]
      · obtain ⟨c1, c2⟩ := b1 z
        have i1 : isd nc Ds c (hEY (Xs hd) y) (itn (hNM (Xs hd)) j m) 1 := ⟨q, c1⟩
        have i2 : isd nc Ds c (hEY (Xs hd) y) (hNM (Xs hd) (itn (hNM (Xs hd)) j m)) 1 := ⟨q, c2⟩
        rw [if_neg (by omega : ¬ b = 0), Z_wI (z := (j : Int) + 1 - 1) (by omega), show (j : Int) + 1 - 1 = (j : Int) by omega, lm37 L', ln38 L', gd_t (by omega), r1, R_dayOf I'.mcs i1, Z_bI, gd_t (by decide), lm37 L', ln38 L', gd_t (by omega), r2, R_dayOf I'.mcs i2, Z_bI, gd_t (by decide), Z_tmod (by omega), Z_tmod (by omega)]
        by_cases k : Ds c (hEY (Xs hd) y) (itn (hNM (Xs hd)) j m) 1 % 7 = Ds c (hEY (Xs hd) y) (hNM (Xs hd) (itn (hNM (Xs hd)) j m)) 1 % 7
        · obtain ⟨v, e1, e2⟩ := ih (j + 1) (vI b) (by omega)
          rw [nx, show (((j + 1 : Nat)) : Int) = (j : Int) + 1 by omega] at e1
          rw [show (((j + 1 : Nat)) : Int) = (j : Int) + 1 by omega] at e2
          refine ⟨v, ?_, ?_⟩
          · rw [cb_t ⟨c1, c2, k⟩, if_neg n10, C_nextOf H.2.2.1.2.2.2, Z_bI, if_pos ⟨pj.1, pj.2.1⟩, Z_wI (by omega)]
            exact e1
          · rw [if_pos k, Z_wI (by omega)]
            exact e2
        · refine ⟨hLY (Xs hd) y % 16384 + (j : Int), ?_, ?_⟩
          · rw [cb_f fun t => k t.2.2, if_pos rfl, Z_wI (by omega)]
          · rw [if_neg k, rd.2.1, Z_wI (z := hLY (Xs hd) y % 16384 + 1 + ((j : Int) + 1)) (by omega), Z_wI (by omega), show hLY (Xs hd) y % 16384 + 1 + ((j : Int) + 1) - 2 = hLY (Xs hd) y % 16384 + (j : Int) by omega]
    by_cases k1 : Ds c (hEY (Xs hd) y) (itn (hNM (Xs hd)) j m) 1 = -1
    · rw [cb_f (p := isd nc Ds c (hEY (Xs hd) y) (itn (hNM (Xs hd)) j m) 1) fun t => t.2 k1, if_pos z00]
      exact fin 0 (Or.inl rfl) (fun _ t => t.1 k1) (fun t => absurd t (by decide))
    · rw [cb_t (p := isd nc Ds c (hEY (Xs hd) y) (itn (hNM (Xs hd)) j m) 1) ⟨q, k1⟩, if_neg n10, lm37 L', ln38 L', gd_t (by omega), r2, R_isDate I'.mcs, Z_bI]
      by_cases k2 : Ds c (hEY (Xs hd) y) (hNM (Xs hd) (itn (hNM (Xs hd)) j m)) 1 = -1
      · rw [cb_f (p := isd nc Ds c (hEY (Xs hd) y) (hNM (Xs hd) (itn (hNM (Xs hd)) j m)) 1) fun t => t.2 k2, if_pos z00]
        exact fin 0 (Or.inl rfl) (fun _ t => t.2 k2) (fun t => absurd t (by decide))
      · rw [cb_t (p := isd nc Ds c (hEY (Xs hd) y) (hNM (Xs hd) (itn (hNM (Xs hd)) j m)) 1) ⟨q, k2⟩, if_neg n10]
        exact fin 1 (Or.inr rfl) (fun t => absurd t (by decide)) (fun _ => ⟨k1, k2⟩)
theorem fs_y {h h' : mH} {T : Int → Int} {n nc : Int} {Ds : Int → Int → Int → Int → Int} {nh : Int} {Xs : Int → HX} (I : INV h T n nc Ds nh Xs) (I' : INV h' T n nc Ds nh Xs) {hd c y m : Int} (p : 0 ≤ hd ∧ hd < nh) (q : 0 ≤ c ∧ c < nc) (y0 : 1 ≤ y ∧ y ≤ 9999) (m0 : 1 ≤ m ∧ m ≤ 12) (rd : rowd h' (Xs hd) y m) (u2 u7 u4 : mV) : ∀ (f j : Nat) (u3 : mV), (j : Int) + f = hLY (Xs hd) y % 16384 → ∃ v, Rn kHd_falseStep 2 [vO 2 (h.M 4 hd), vR 0 (h.M 3 c), u2, vI m, vI (hLY (Xs hd) y % 16384), vI (itn (hNY (Xs hd)) j y), vI (j : Int), u7] [] h = some (some (vI v), h) ∧ Rn kM_falseStep 1 [vO 11 9, vI c, vI ((j : Int) + 1), u3, u4] [] h' = some (some (vI v), h') := by
  have H := I.hik p.1 p.2
  have A := I.cok q.1 q.2
  have O := A.ok
  have L' := I'.1
  have w9 : h.M (h.M 4 hd) 9 ≠ 0 := by have := H.2.2.1.2.2.1.1.2.2.1; omega
  have re := rd.end_ H.1 y0.1 y0.2 m0.1 m0.2
  have pe := rsp_path (st_ok H.1.1) (by decide) H.1.2.1 (hLY (Xs hd) y % 16384).toNat y y0.1 (by omega) rd.1.1 (by omega)
  have pth := pe.1
  intro f
  induction f with
  | zero =>
    intro j u3 e
    have ej : itn (hNY (Xs hd)) j y = hEY (Xs hd) y := by
      rw [← pe.2]
      congr 1
      omega
    obtain ⟨v, e1, e2⟩ := fs_m I I' p q y0 m0 rd u2 (hLM (Xs hd) m % 16384).toNat 0 u4 (by omega)
    refine ⟨v, ?_, ?_⟩
    · rw [E_Hd_falseStep_2, if_neg (by omega), ej]
      exact e1
    · have w1 : wI (h'.M 9 38 - 1) = hLY (Xs hd) y % 16384 := by rw [rd.2.1, Z_wI (by omega)]; omega
      rw [E_M_falseStep_1, w1, rd.2.1, if_neg (by omega), lm36 L', ln37 L', gd_t (by omega), re.1]
      exact e2
  | succ f ih =>
    intro j u3 e
    have pj := pth j (by omega)
    have r1 := rd.2.2.1 j (by omega)
    have r2 := rd.2.2.1 (j + 1) (by omega)
    have nx := itn_l (hNY (Xs hd)) j y
    rw [nx, show (((j + 1 : Nat)) : Int) = (j : Int) + 1 by omega] at r2
    rw [E_Hd_falseStep_2, if_pos (by omega), gd_t w9, C_nextOf H.2.2.1.2.2.1, Z_bI, if_pos ⟨pj.1, pj.2.1⟩, gd_t A.a0, A.like, Z_bI, gd_t w9, E_M_falseStep_1, rd.2.1, if_pos (show (j : Int) + 1 < hLY (Xs hd) y % 16384 + 1 by omega), Z_wI (z := (j : Int) + 1 - 1) (by omega), show (j : Int) + 1 - 1 = (j : Int) by omega, lm36 L', ln37 L', gd_t (by omega), r1, R_kindOf I'.mcs q.1 q.2, Z_bI, kd_Y O]
    by_cases k1 : kdY (Ds c) (itn (hNY (Xs hd)) j y) = -1
    · exact ⟨j, by rw [cb_f fun t => t.1 k1, if_pos rfl], by rw [if_pos k1]⟩
    · rw [if_neg k1, lm36 L', ln37 L', gd_t (by omega), r2, R_kindOf I'.mcs q.1 q.2, Z_bI, kd_Y O]
      by_cases k2 : kdY (Ds c) (itn (hNY (Xs hd)) j y) = kdY (Ds c) (hNY (Xs hd) (itn (hNY (Xs hd)) j y))
      · obtain ⟨v, e1, e2⟩ := ih (j + 1) (vI (kdY (Ds c) (itn (hNY (Xs hd)) j y))) (by omega)
        rw [nx, show (((j + 1 : Nat)) : Int) = (j : Int) + 1 by omega] at e1
        rw [show (((j + 1 : Nat)) : Int) = (j : Int) + 1 by omega] at e2
        refine ⟨v, ?_, ?_⟩
        · rw [cb_t ⟨k1, k2⟩, if_neg n10, C_nextOf H.2.2.1.2.2.1, Z_bI, if_pos ⟨pj.1, pj.2.1⟩, Z_wI (by omega)]
          exact e1
        · rw [if_pos k2, Z_wI (by omega)]
          exact e2
      · exact ⟨j, by rw [cb_f fun t => k2 t.2, if_pos rfl], by rw [if_neg k2]⟩
theorem ok_answers {hd c y m d w : Int} : okc kX_answers kM_answers [vI hd, vI c, vI y, vI m, vI d, vI w] := okq1 fun h T n nc Ds nh Xs I => by
  rw [E_X_answers, C_headAt I, Z_bR, C_almAt I, Z_bR, E_M_answers, R_isHead I, Z_bI]
  by_cases p : 0 ≤ hd ∧ hd < nh
  · have H := I.hik p.1 p.2
    have q0 := I.q0 p.1 p.2
    rw [if_pos p, if_neg q0, bz_t p, if_neg n10, R_isDate I.mcs, Z_bI]
    by_cases q : 0 ≤ c ∧ c < nc
    · have A := I.cok q.1 q.2
      have db := A.ok.1 y m d
      rw [if_pos q, if_neg A.a0, gd_t q0, C_toldFor H.1 H.2.2.1 A, Z_bI]
      rcases toD_cases H.1 A.ok y m d with ⟨d1, d2, T, t1, t2, tb⟩ | ⟨t1, t2⟩
      · have id1 : isd nc Ds c y m d := ⟨q, d1⟩
        have id2 : isd nc Ds c (hEY (Xs hd) y) (hEM (Xs hd) m) 1 := ⟨q, d2⟩
        obtain ⟨h', e', x', r'⟩ := R_answer I p.1 p.2 T.1 T.2.1 T.2.2 c
        obtain ⟨rd, m40, m41⟩ := r' id2
        have I' := I.ew x' fun _ _ z => Wan_scr z
        have xs : Ew (Scr nc nh) h h' := x'.mono fun _ _ z => Wan_scr z
        rw [if_neg t2, cb_t id1, if_neg n10, R_in, Z_bI]
        have md : Int.tmod (toD (Xs hd) (Ds c) y m d) 7 = anD (Xs hd) (Ds c) y m d := by rw [Z_tmod (by omega)]; omega
        have dv : wI (Int.tdiv (toD (Xs hd) (Ds c) y m d) 7) = tnD (Xs hd) (Ds c) y m d := by
          rw [Z_tdiv (by omega), Z_wI (by omega)]
          omega
        by_cases w3 : 0 ≤ w ∧ w ≤ 3
        · rw [bz_t w3, if_neg n10, e', Z_bI, cb_t id2, if_neg n10]
          by_cases w0 : w = 0
          · exact ⟨_, h', by rw [if_pos w0, gd_t (by decide)], by rw [if_pos w0, m40, md], xs⟩
          · rw [if_neg w0, if_neg w0]
            by_cases w1 : w = 1
            · exact ⟨_, h', by rw [if_pos w1, gd_t (by decide)], by rw [if_pos w1, m41, dv], xs⟩
            · rw [if_neg w1, if_neg w1]
              by_cases w2 : w = 2
              · exact ⟨_, h', by rw [if_pos w2, gd_t (by decide), gd_t A.a0, A.day, Z_bI, md, C_offBy ⟨tb.2.2.1, tb.2.2.2⟩ (by omega), Z_bI], by rw [if_pos w2, R_dayOf I'.mcs id1, Z_bI, m40, R_round ⟨tb.2.2.1, tb.2.2.2⟩ (by omega), Z_bI], xs⟩
              · have B := rsp_lnb (by decide) H.1.2.1
                have w9 : h.M (h.M 4 hd) 9 ≠ 0 := by have := H.2.2.1.2.2.1.1.2.2.1; omega
                have sc : scR 10000 (hLY (Xs hd)) y = hLY (Xs hd) y % 16384 := if_pos ⟨⟨T.1.1, by omega⟩, rd.1.1⟩
                have bb := (B y T.1.1 (by omega)).2.2 rd.1.1
                obtain ⟨v, e1, e2⟩ := fs_y I I' p q T.1 T.2.1 rd (vI y) vU vU (hLY (Xs hd) y % 16384).toNat 0 vU (by omega)
                refine ⟨v, h', ?_, ?_, xs⟩
                · rw [if_neg w2, if_pos (by omega), gd_t q0, E_Hd_falseStep, gd_t w9, C_stepCount H.2.2.1.2.2.1 B, Z_bI, sc]
                  show bI (Rn kHd_falseStep 2 [vO 2 (h.M 4 hd), vR 0 (h.M 3 c), vI y, vI m, vI (hLY (Xs hd) y % 16384), vI (itn (hNY (Xs hd)) 0 y), vI ((0 : Nat) : Int), vU] [] h) _ = _
                  rw [e1, Z_bI]
                · rw [if_neg w2, E_M_falseStep]
                  show bI (Rn kM_falseStep 1 [vO 11 9, vI c, vI (((0 : Nat) : Int) + 1), vU, vU] [] h') _ = _
                  rw [e2, Z_bI]
        · refine ⟨-1000, h, ?_, by rw [bz_f w3, if_pos rfl], Ew.rf _ _⟩
          rw [if_neg (by omega), if_neg (by omega), if_neg (by omega), if_neg (by omega)]
      · rcases t2 with t2 | ⟨t2, t3, T⟩
        · exact ⟨-1000, h, by rw [if_pos t1], by rw [cb_f fun z => z.2 t2, if_pos rfl], Ew.rf _ _⟩
        · obtain ⟨h', e', x', _⟩ := R_answer I p.1 p.2 T.1 T.2.1 T.2.2 c
          have id1 : isd nc Ds c y m d := ⟨q, t2⟩
          rw [if_pos t1, cb_t id1, if_neg n10, R_in, Z_bI]
          by_cases w0 : 0 ≤ w ∧ w ≤ 3
          · exact ⟨-1000, h', rfl, by rw [bz_t w0, if_neg n10, e', Z_bI, cb_f fun z => z.2 t3, if_pos rfl], x'.mono fun _ _ z => Wan_scr z⟩
          · exact ⟨-1000, h, rfl, by rw [bz_f w0, if_pos rfl], Ew.rf _ _⟩
    · exact ⟨-1000, h, by rw [if_neg q, if_pos rfl], by rw [cb_f fun z => q z.1, if_pos rfl], Ew.rf _ _⟩
  · exact ⟨-1000, h, by rw [if_neg p, if_pos rfl], by rw [bz_f p, if_pos rfl], Ew.rf _ _⟩
