/-! THE PURE PART, a head's text, read by the class: pairs, months, extras; the whole of it -/
theorem D_itM {T : Int → Int} {N : Int} (hT : tpo T N) {r q : Int} (r0 : 56 < r) (rq : r < q) {h : mH} (C : chl h q) {H : HD} (V : hdv H) (D : chd h q H) (Hr : rtp h r T N) {p : Int} (S : rst5 h r T (p, -1)) (g : gs N (p, -1)) (hk : H 6 0 < 12) (c : T (sk T p) = 109) : ∃ h', Cl kPr_readFrom [vO 4 (q + 6), vR 5 r] h = some (none, h') ∧ Ew (WHc r q) h h' ∧ rst5 h' r T (itM T H (sk T p + 1, -1)).2 ∧ ((itM T H (sk T p + 1, -1)).2.2 = -1 → chd h' q (itM T H (sk T p + 1, -1)).1) := by
  obtain ⟨k, hk'⟩ : ∃ k, k = H 6 0 := ⟨_, rfl⟩
  have V1 := V.2.2.1
  have D1 := D.1.2.2
  rw [← hk'] at hk V1 D1
  obtain ⟨s, hs⟩ : ∃ s : Int × Int, s = (sk T p + 1, -1) := ⟨_, rfl⟩
  have nW : ∀ b, q ≤ b → ∀ j, ¬ WR r b j := fun b b0 j y => by have := y.1; omega
  obtain ⟨h1, e1, x1, T1, S1, g1⟩ := D_tk hT Hr S g (c := 109) (by decide) c
  rw [← hs] at S1 g1 ⊢
  obtain ⟨gg1, gg2, gg3, gg4, o4⟩ := itM3_ok hT g1
  have C1 := C.ew x1 rq
  have m1 : ∀ b, q ≤ b → ∀ j, h1.M b j = h.M b j := fun b b0 j => x1.2 b j (nW b b0 j)
  obtain ⟨v1, h2, e2, x2, T2, S2, g2, a2, b2⟩ := D_num hT T1 S1 g1 (lo := 1) (hi := 12) (by omega) (by omega)
  have C2 := C1.ew x2 rq
  have m2 : ∀ b, q ≤ b → ∀ j, h2.M b j = h.M b j := fun b b0 j => (x2.2 b j (nW b b0 j)).trans (m1 b b0 j)
  obtain ⟨h3, hh3⟩ : ∃ u, u = h2.set (q + 7) k v1 := ⟨_, rfl⟩
  have C3 : chl h3 q := by rw [hh3]; exact C2.st v1 (by unfold plc; omega)
  have S3 : rst5 h3 r T (itM1 T s).2 := by rw [hh3]; exact S2.st k v1 (by omega)
  have T3 : rtp h3 r T N := by rw [hh3]; exact T2.st k v1 (by omega) (by omega)
  obtain ⟨h4, e4, x4, T4, S4, g4⟩ := D_exp hT T3 S3 gg1 (c := 61) (by decide)
  have C4 := C3.ew x4 rq
  obtain ⟨v2, h5, e5, x5, T5, S5, g5, a5, b5⟩ := D_num hT T4 S4 g4 (lo := 1) (hi := 12) (by omega) (by omega)
  have C5 := C4.ew x5 rq
  obtain ⟨h6, hh6⟩ : ∃ u, u = h5.set (q + 8) k v2 := ⟨_, rfl⟩
  have C6 : chl h6 q := by rw [hh6]; exact C5.st v2 (by unfold plc; omega)
  have S6 : rst5 h6 r T (itM2 T s).2 := by rw [hh6]; exact S5.st k v2 (by omega)
  have T6 : rtp h6 r T N := by rw [hh6]; exact T5.st k v2 (by omega) (by omega)
  have F6 : ∀ b j, q ≤ b → h6.M b j = if b = q + 8 ∧ j = k then v2 else if b = q + 7 ∧ j = k then v1 else h.M b j := fun b j b0 => by
    rw [hh6, Z_Ms]
    by_cases y : b = q + 8 ∧ j = k
    · rw [if_pos y, if_pos y]
    · rw [if_neg y, if_neg y, x5.2 b j (nW b b0 j), x4.2 b j (nW b b0 j), hh3, Z_Ms]
      by_cases y2 : b = q + 7 ∧ j = k
      · rw [if_pos y2, if_pos y2]
      · rw [if_neg y2, if_neg y2, m2 b b0 j]
  have q0 := C.2.2.2.2.2.2.2
  have l6 : (itM2 T s).2.2 = -1 → h6.M r 4 = (itM2 T s).2.1 - 1 ∧ 0 < (itM2 T s).2.1 := fun z => by
    rw [hh6, Z_Mn (by omega)]
    exact (a5 z).2
  have em : itM3 T s = if (itM2 T s).1 = (itM1 T s).1 then wlS (itM2 T s).2 else (itM2 T s).2 := rfl
  have val : (itM2 T s).2.2 = -1 → v2 = (itM2 T s).1 ∧ v1 = (itM1 T s).1 := fun z => by
    have z2 := (nmS_b hT gg2 (lo := 1) 12 (by omega)).2.2.2 z
    have z3 := (sgn_ok z2.1 (gs_sk hT gg1)).1
    exact ⟨(a5 z).1, (a2 z3).1⟩
  have x6 : Ew (WHc r q) h h6 := by
    rw [hh6]
    have y3 : Ew (WHc r q) h2 h3 := by rw [hh3]; exact Ew.st _ _ (by unfold WHc; omega)
    exact ((((x1.mono fun _ _ w => WHc_R w).tr (x2.mono fun _ _ w => WHc_R w)).tr y3).tr (x4.mono fun _ _ w => WHc_R w)).tr ((x5.mono fun _ _ w => WHc_R w).tr (Ew.st _ _ (by unfold WHc; omega)))
  have k1 : h1.M (q + 6) 3 = k := (m1 _ (by omega) 3).trans D1
  have k4 : h4.M (q + 6) 3 = k := by rw [x4.2 _ _ (nW _ (by omega) _), hh3, Z_Mn (by omega), m2 _ (by omega)]; exact D1
  have k6 : h6.M (q + 6) 3 = k := by rw [F6 _ _ (by omega), if_neg (by omega), if_neg (by omega)]; exact D1
  have w8 : h6.M (q + 8) k = v2 := by rw [F6 _ _ (by omega), if_pos ⟨rfl, rfl⟩]
  have w7 : h6.M (q + 7) k = v1 := by rw [F6 _ _ (by omega), if_neg (by omega), if_pos ⟨rfl, rfl⟩]
  -- from the state at the colon on
  have tail : ∀ h7 : mH, Ew (WR r) h6 h7 → rst5 h7 r T (itM3 T s) → ∃ h', (bV (Cl kRd_expect [vO 5 r, vI 58] h7) fun h8 => gd (r ≠ (0 : Int)) <| bI (Cl kRd_number [vO 5 r, vI 0, vI 99] h8) fun z9 h9 => gd ((0 : Int) ≤ (h8.M (q + 6) 3) ∧ (h8.M (q + 6) 3) < h9.N (h8.M (q + 6) 2) ∧ (h8.M (q + 6) 2) ≠ 0) <| hl (h9.set (h8.M (q + 6) 2) (h8.M (q + 6) 3) z9) fun h10 => hl (h10.set (q + 6) 3 (wI ((h10.M (q + 6) 3) + 1))) fun h11 => some (none, h11)) = some (none, h') ∧ Ew (WHc r q) h h' ∧ rst5 h' r T (itM T H s).2 ∧ ((itM T H s).2.2 = -1 → chd h' q (itM T H s).1) := by
    intro h7 x7 S7
    have C7 := C6.ew x7 rq
    have T7 := T6.ew x7
    obtain ⟨h8, e8, x8, T8, S8, g8⟩ := D_exp hT T7 S7 gg4 (c := 58) (by decide)
    have C8 := C7.ew x8 rq
    obtain ⟨v3, h9, e9, x9, T9, S9, g9, a9, b9⟩ := D_num hT T8 S8 g8 (lo := 0) (hi := 99) (by omega) (by omega)
    have C9 := C8.ew x9 rq
    have k8 : h8.M (q + 6) 3 = k := by rw [x8.2 _ _ (nW _ (by omega) _), x7.2 _ _ (nW _ (by omega) _)]; exact k6
    have k9 : (h9.set (q + 9) k v3).M (q + 6) 3 = k := by rw [Z_Mn (by omega), x9.2 _ _ (nW _ (by omega) _)]; exact k8
    refine ⟨(h9.set (q + 9) k v3).set (q + 6) 3 (k + 1), ?_, x6.tr ((((x7.mono fun _ _ w => WHc_R w).tr (x8.mono fun _ _ w => WHc_R w)).tr (x9.mono fun _ _ w => WHc_R w)).tr ((Ew.st _ _ (by unfold WHc; omega)).tr (Ew.st _ _ (by unfold WHc; omega)))), (S9.st (b := q + 9) k v3 (by omega)).st 3 (k + 1) (by omega), fun z => ?_⟩
    · rw [e8, Z_bV, gd_t (by omega), e9, Z_bI, k8, C8.2.2.1.2.2, C9.2.2.2.2.1.2.2, gd_t (by omega), Z_hl, k9, Z_wI (by omega), Z_hl]
    · have z9 : (nmS T 0 99 (sgn T 58 (itM3 T s))).2.2 = -1 := z
      have z8 := (nmS_b hT g8 (lo := 0) 99 (by omega)).2.2.2 z9
      have z7 := (sgn_ok z8.1 (gs_sk hT gg4)).1
      obtain ⟨n1, n2⟩ := o4 z7
      have z6 : (itM2 T s).2.2 = -1 := by rw [← n2]; exact z7
      obtain ⟨w2, w1⟩ := val z6
      have w3 : v3 = (itM4 T s).1 := (a9 z9).1
      have F9 : ∀ b j, q ≤ b → ¬ (b = q + 6 ∧ j = 3) → ((h9.set (q + 9) k v3).set (q + 6) 3 (k + 1)).M b j = if b = q + 9 ∧ j = k then v3 else if b = q + 8 ∧ j = k then v2 else if b = q + 7 ∧ j = k then v1 else h.M b j := fun b j b0 n => by
        rw [Z_Mn (by omega), Z_Ms]
        by_cases y : b = q + 9 ∧ j = k
        · rw [if_pos y, if_pos y]
        · rw [if_neg y, if_neg y, x9.2 b j (nW b b0 j), x8.2 b j (nW b b0 j), x7.2 b j (nW b b0 j), F6 b j b0]
      obtain ⟨⟨d1, d2, d3⟩, d4, d5, d6, d7⟩ := D
      have old : ∀ b j, q ≤ b → ¬ (b = q + 6 ∧ j = 3) → b ≠ q + 7 → b ≠ q + 8 → b ≠ q + 9 → ((h9.set (q + 9) k v3).set (q + 6) 3 (k + 1)).M b j = h.M b j := fun b j b0 n n7 n8 n9 => by rw [F9 b j b0 n, if_neg fun y => n9 y.1, if_neg fun y => n8 y.1, if_neg fun y => n7 y.1]
      refine ⟨⟨?_, ?_, ?_⟩, fun i => ?_, fun j j0 j1 => ?_, ?_, ?_⟩
      · rw [old _ _ (by omega) (by omega) (by omega) (by omega) (by omega), itM_n _ _ _ _ (by decide) (by decide) (by decide) (by decide)]; exact d1
      · rw [old _ _ (by omega) (by omega) (by omega) (by omega) (by omega), itM_n _ _ _ _ (by decide) (by decide) (by decide) (by decide)]; exact d2
      · rw [Z_Mt, itM_0, hk']
      · obtain ⟨f1, f2, f3, f4, f5, f6, f7, f8⟩ := d4 i
        refine ⟨?_, ?_, ?_, ?_, ?_, ?_, ?_, ?_⟩
        · rw [old _ _ (by omega) (by omega) (by omega) (by omega) (by omega), itM_n _ _ _ _ (by decide) (by decide) (by decide) (by decide)]; exact f1
        · rw [old _ _ (by omega) (by omega) (by omega) (by omega) (by omega), itM_n _ _ _ _ (by decide) (by decide) (by decide) (by decide)]; exact f2
        · rw [old _ _ (by omega) (by omega) (by omega) (by omega) (by omega), itM_n _ _ _ _ (by decide) (by decide) (by decide) (by decide)]; exact f3
        · rw [old _ _ (by omega) (by omega) (by omega) (by omega) (by omega), itM_n _ _ _ _ (by decide) (by decide) (by decide) (by decide)]; exact f4
        · rw [F9 _ _ (by omega) (by omega), if_neg (by omega), if_neg (by omega), itM_1, ← hk', ← w1]
          by_cases t : i = k
          · rw [if_pos ⟨rfl, t⟩, if_pos t]
          · rw [if_neg fun t2 => t t2.2, if_neg t]; exact f5
        · rw [F9 _ _ (by omega) (by omega), if_neg (by omega), itM_2, ← hk', ← w2]
          by_cases t : i = k
          · rw [if_pos ⟨rfl, t⟩, if_pos t]
          · rw [if_neg fun t2 => t t2.2, if_neg (by omega), if_neg t]; exact f6
        · rw [F9 _ _ (by omega) (by omega), itM_3, ← hk', ← w3]
          by_cases t : i = k
          · rw [if_pos ⟨rfl, t⟩, if_pos t]
          · rw [if_neg fun t2 => t t2.2, if_neg (by omega), if_neg (by omega), if_neg t]; exact f7
        · rw [old _ _ (by omega) (by omega) (by omega) (by omega) (by omega), itM_n _ _ _ _ (by decide) (by decide) (by decide) (by decide)]; exact f8
      · rw [old _ _ (by omega) (by omega) (by omega) (by omega) (by omega), itM_n _ _ _ _ (by decide) (by decide) (by decide) (by decide)]; exact d5 j j0 j1
      · rw [old _ _ (by omega) (by omega) (by omega) (by omega) (by omega)]
        obtain ⟨t1, t2, t3, t4, t5⟩ := d6
        unfold strd
        rw [itM_n _ _ _ (b := 3) _ (by decide) (by decide) (by decide) (by decide)]
        exact ⟨t1, t2, t3, t4, fun i i0 i1 => by rw [itM_n _ _ _ (b := 4) _ (by decide) (by decide) (by decide) (by decide)]; exact t5 i i0 i1⟩
      · rw [old _ _ (by omega) (by omega) (by omega) (by omega) (by omega), d7]
        exact cn_cg 12 1 fun i _ _ => by rw [itM_n _ _ _ (b := 10) _ (by decide) (by decide) (by decide) (by decide)]
  rw [E_Pr_readFrom, D1, if_pos hk, gd_t (by omega), e1, Z_bI, gd_t (by omega), e2, Z_bI, k1, C1.2.2.1.1, C2.2.2.2.2.1.1, gd_t (by omega), Z_hl, ← hh3, gd_t (by omega), e4, Z_bV, gd_t (by omega), e5, Z_bI, k4, C4.2.2.1.2.1, C5.2.2.2.2.1.2.1, gd_t (by omega), Z_hl, ← hh6, k6, C6.2.2.1.2.1, C6.2.2.2.2.1.2.1, gd_t (by omega), C6.2.2.1.1, C6.2.2.2.2.1.1, gd_t (by omega), w8, w7]
  by_cases y : v2 = v1
  · obtain ⟨h7, e7, x7, S7⟩ := D_refuseNumber S6 l6
    have e : wlS (itM2 T s).2 = itM3 T s := by
      rw [em]
      by_cases z : (itM2 T s).2.2 = -1
      · obtain ⟨u1, u2⟩ := val z
        rw [if_pos (by rw [← u1, ← u2]; exact y)]
      · have t : wlS (itM2 T s).2 = (itM2 T s).2 := if_neg z
        rw [t]
        by_cases w : (itM2 T s).1 = (itM1 T s).1
        · rw [if_pos w]
        · rw [if_neg w]
    rw [e] at S7
    rw [if_pos y, gd_t (by omega), e7, Z_bV, gd_t (by omega)]
    exact tail h7 x7 S7
  · have e : (itM2 T s).2 = itM3 T s := by
      rw [em]
      by_cases z : (itM2 T s).2.2 = -1
      · obtain ⟨u1, u2⟩ := val z
        rw [if_neg (by rw [← u1, ← u2]; exact y)]
      · have t : wlS (itM2 T s).2 = (itM2 T s).2 := if_neg z
        by_cases w : (itM2 T s).1 = (itM1 T s).1
        · rw [if_pos w, t]
        · rw [if_neg w]
    rw [e] at S6
    rw [if_neg y, gd_t (by omega)]
    exact tail h6 (Ew.rf _ _) S6
/-- one more of a row -/
theorem cn_one {p q : Int → Prop} {m : Int} (hp : ¬ p m) (hq : q m) (o : ∀ i, i ≠ m → (q i ↔ p i)) : ∀ (n : Nat) (a : Int), a ≤ m → m < a + n → cn q n a = cn p n a + 1 := by
  intro n
  induction n with
  | zero => intro a h0 h1; omega
  | succ n ih =>
    intro a h0 h1
    rw [cn_s, cn_s]
    by_cases y : a = m
    · subst y
      rw [cb_t hq, cb_f hp, cn_cg n (a + 1) fun i i0 i1 => o i (by omega)]
      omega
    · have e : cb (q a) = cb (p a) := by
        by_cases w : p a
        · rw [cb_t w, cb_t ((o a y).mpr w)]
        · rw [cb_f w, cb_f fun z => w ((o a y).mp z)]
      rw [e, ih (a + 1) (by omega) (by omega)]
      omega
theorem D_itO {T : Int → Int} {N : Int} (hT : tpo T N) {r q : Int} (r0 : 56 < r) (rq : r < q) {h : mH} (C : chl h q) {H : HD} (V : hdv H) (D : chd h q H) (Hr : rtp h r T N) {p : Int} (S : rst5 h r T (p, -1)) (g : gs N (p, -1)) (c : T (sk T p) = 111) : ∃ h', Cl kHd_readMonth [vO 2 q, vR 5 r] h = some (none, h') ∧ Ew (WHc r q) h h' ∧ rst5 h' r T (itO T H (sk T p + 1, -1)).2 ∧ ((itO T H (sk T p + 1, -1)).2.2 = -1 → chd h' q (itO T H (sk T p + 1, -1)).1) := by
  obtain ⟨s, hs⟩ : ∃ s : Int × Int, s = (sk T p + 1, -1) := ⟨_, rfl⟩
  have nW : ∀ b, q ≤ b → ∀ j, ¬ WR r b j := fun b b0 j y => by have := y.1; omega
  obtain ⟨h1, e1, x1, T1, S1, g1⟩ := D_tk hT Hr S g (c := 111) (by decide) c
  rw [← hs] at S1 g1 ⊢
  have C1 := C.ew x1 rq
  have m1 : ∀ b, q ≤ b → ∀ j, h1.M b j = h.M b j := fun b b0 j => x1.2 b j (nW b b0 j)
  obtain ⟨v, h2, e2, x2, T2, S2, g2, a2, b2⟩ := D_num hT T1 S1 g1 (lo := 1) (hi := 12) (by omega) (by omega)
  have C2 := C1.ew x2 rq
  have m2 : ∀ b, q ≤ b → ∀ j, h2.M b j = h.M b j := fun b b0 j => (x2.2 b j (nW b b0 j)).trans (m1 b b0 j)
  have q0 := C.2.2.2.2.2.2.2
  have S2' : rst5 h2 r T (itM1 T s).2 := S2
  have a2' : (itM1 T s).2.2 = -1 → v = (itM1 T s).1 ∧ h2.M r 4 = (itM1 T s).2.1 - 1 ∧ 0 < (itM1 T s).2.1 := a2
  have x12 : Ew (WHc r q) h h2 := (x1.mono fun _ _ w => WHc_R w).tr (x2.mono fun _ _ w => WHc_R w)
  have mv : h2.M (q + 10) v = H 10 v := (m2 _ (by omega) v).trans (D.2.1 v).2.2.2.2.2.2.2
  have V7 := V.2.2.2.2.2.2.1 v
  have eo : (itO T H s).2 = if H 10 (itM1 T s).1 = 1 then wlS (itM1 T s).2 else (itM1 T s).2 := rfl
  have D7 := D.2.2.2.2
  have cb6 := cn_b (fun m => H 10 m = 1) 12 1
  have k6 : h2.M q 6 = cn (fun m => H 10 m = 1) 12 1 := (m2 _ (by omega) 6).trans D7
  rw [E_Hd_readMonth, gd_t (by omega), e1, Z_bI, gd_t (by omega), e2, Z_bI, if_neg (by omega), if_pos b2.2, C2.1.2.2.2.2.1, C2.2.2.2.2.2.1, gd_t (by omega), mv]
  by_cases y : H 10 v = 0
  · rw [if_pos y, gd_t (by omega), gd_t (by decide), Z_hl, Z_Mn (by omega), k6, Z_wI (by omega), Z_hl]
    refine ⟨_, rfl, x12.tr ((Ew.st _ _ (by unfold WHc; omega)).tr (Ew.st _ _ (by unfold WHc; omega))), ?_, fun z => ?_⟩
    · have e : (itM1 T s).2 = (itO T H s).2 := by
        rw [eo]
        by_cases z : (itM1 T s).2.2 = -1
        · rw [← (a2' z).1, if_neg (by omega)]
        · have t : wlS (itM1 T s).2 = (itM1 T s).2 := if_neg z
          by_cases w : H 10 (itM1 T s).1 = 1
          · rw [if_pos w, t]
          · rw [if_neg w]
      rw [e] at S2'
      exact (S2'.st (b := q + 10) v 1 (by omega)).st (b := q) 6 _ (by omega)
    · have z1 : (itM1 T s).2.2 = -1 := by
        rw [eo] at z
        by_cases w : H 10 (itM1 T s).1 = 1
        · rw [if_pos w] at z
          by_cases t : (itM1 T s).2.2 = -1
          · exact t
          · rw [show wlS (itM1 T s).2 = (itM1 T s).2 from if_neg t] at z
            exact z
        · rw [if_neg w] at z; exact z
      have vv : v = (itM1 T s).1 := (a2' z1).1
      obtain ⟨⟨d1, d2, d3⟩, d4, d5, d6, d7⟩ := D
      have F : ∀ b j, q ≤ b → ¬ (b = q ∧ j = 6) → ((h2.set (q + 10) v 1).set q 6 (cn (fun m => H 10 m = 1) 12 1 + 1)).M b j = if b = q + 10 ∧ j = v then 1 else h.M b j := fun b j b0 n => by
        rw [Z_Mn (by omega), Z_Ms]
        by_cases y : b = q + 10 ∧ j = v
        · rw [if_pos y, if_pos y]
        · rw [if_neg y, if_neg y, m2 b b0 j]
      refine ⟨⟨?_, ?_, ?_⟩, fun i => ?_, fun j j0 j1 => ?_, ?_, ?_⟩
      · rw [F _ _ (by omega) (by omega), if_neg (by omega), itO_n _ _ _ _ (by decide)]; exact d1
      · rw [F _ _ (by omega) (by omega), if_neg (by omega), itO_n _ _ _ _ (by decide)]; exact d2
      · rw [F _ _ (by omega) (by omega), if_neg (by omega), itO_n _ _ _ _ (by decide)]; exact d3
      · obtain ⟨f1, f2, f3, f4, f5, f6, f7, f8⟩ := d4 i
        refine ⟨?_, ?_, ?_, ?_, ?_, ?_, ?_, ?_⟩
        · rw [F _ _ (by omega) (by omega), if_neg (by omega), itO_n _ _ _ _ (by decide)]; exact f1
        · rw [F _ _ (by omega) (by omega), if_neg (by omega), itO_n _ _ _ _ (by decide)]; exact f2
        · rw [F _ _ (by omega) (by omega), if_neg (by omega), itO_n _ _ _ _ (by decide)]; exact f3
        · rw [F _ _ (by omega) (by omega), if_neg (by omega), itO_n _ _ _ _ (by decide)]; exact f4
        · rw [F _ _ (by omega) (by omega), if_neg (by omega), itO_n _ _ _ _ (by decide)]; exact f5
        · rw [F _ _ (by omega) (by omega), if_neg (by omega), itO_n _ _ _ _ (by decide)]; exact f6
        · rw [F _ _ (by omega) (by omega), if_neg (by omega), itO_n _ _ _ _ (by decide)]; exact f7
        · rw [F _ _ (by omega) (by omega), itO_1, ← vv]
          by_cases t : i = v
          · rw [if_pos ⟨rfl, t⟩, if_pos t]
          · rw [if_neg fun t2 => t t2.2, if_neg t]; exact f8
      · rw [F _ _ (by omega) (by omega), if_neg (by omega), itO_n _ _ _ _ (by decide)]; exact d5 j j0 j1
      · rw [F _ _ (by omega) (by omega), if_neg (by omega)]
        obtain ⟨t1, t2, t3, t4, t5⟩ := d6
        unfold strd
        rw [itO_n _ _ _ (b := 3) _ (by decide)]
        exact ⟨t1, t2, t3, t4, fun i i0 i1 => by rw [itO_n _ _ _ (b := 4) _ (by decide)]; exact t5 i i0 i1⟩
      · rw [Z_Mt]
        exact (cn_one (p := fun m => H 10 m = 1) (q := fun m => (itO T H s).1 10 m = 1) (m := v) (by omega) (by
          show (itO T H s).1 10 v = 1
          rw [itO_1, if_pos vv]) (fun i ni => by
          show (itO T H s).1 10 i = 1 ↔ H 10 i = 1
          rw [itO_1, if_neg (by omega)]) 12 1 (by omega) (by omega)).symm
  · have y1 : H 10 v = 1 := by omega
    obtain ⟨h3, e3, x3, S3⟩ := D_refuseNumber S2' fun z => (a2' z).2
    have e : wlS (itM1 T s).2 = (itO T H s).2 := by
      rw [eo]
      by_cases z : (itM1 T s).2.2 = -1
      · rw [← (a2' z).1, if_pos y1]
      · have t : wlS (itM1 T s).2 = (itM1 T s).2 := if_neg z
        by_cases w : H 10 (itM1 T s).1 = 1
        · rw [if_pos w]
        · rw [if_neg w, t]
    have bad := (wlS_g (n := N) (s := (itM1 T s).2) g2 fun z => (a2' z).2.2).2
    rw [e] at S3 bad
    exact ⟨h3, by rw [if_neg y, gd_t (by omega), e3, Z_bV], x12.tr (x3.mono fun _ _ w => WHc_R w), S3, fun z => absurd z bad⟩
theorem D_itX {T : Int → Int} {N : Int} (hT : tpo T N) {r q : Int} (r0 : 56 < r) (rq : r < q) {h : mH} (C : chl h q) {H : HD} (V : hdv H) (D : chd h q H) (Hr : rtp h r T N) {p : Int} (S : rst5 h r T (p, -1)) (g : gs N (p, -1)) {k c : Int} (k0 : 0 ≤ k) (k4 : k < 4) (hk : H 11 k = -1) (c0 : c ≠ -1) (hc : T (sk T p) = c) : ∃ h', Cl kHd_readExtra [vO 2 q, vR 5 r, vI k] h = some (none, h') ∧ Ew (WHc r q) h h' ∧ rst5 h' r T (itX T H k (sk T p + 1, -1)).2 ∧ ((itX T H k (sk T p + 1, -1)).2.2 = -1 → chd h' q (itX T H k (sk T p + 1, -1)).1) := by
  obtain ⟨s, hs⟩ : ∃ s : Int × Int, s = (sk T p + 1, -1) := ⟨_, rfl⟩
  have nW : ∀ b, q ≤ b → ∀ j, ¬ WR r b j := fun b b0 j y => by have := y.1; omega
  obtain ⟨h1, e1, x1, T1, S1, g1⟩ := D_tk hT Hr S g (c := c) c0 hc
  rw [← hs] at S1 g1 ⊢
  have C1 := C.ew x1 rq
  have m1 : ∀ b, q ≤ b → ∀ j, h1.M b j = h.M b j := fun b b0 j => x1.2 b j (nW b b0 j)
  obtain ⟨v, h2, e2, x2, T2, S2, g2, a2, b2⟩ := D_num hT T1 S1 g1 (lo := 0) (hi := 99) (by omega) (by omega)
  have C2 := C1.ew x2 rq
  have m2 : ∀ b, q ≤ b → ∀ j, h2.M b j = h.M b j := fun b b0 j => (x2.2 b j (nW b b0 j)).trans (m1 b b0 j)
  have q0 := C.2.2.2.2.2.2.2
  have s3 : h.M r 3 = c := (S.2.1 rfl).2.trans hc
  have x12 : Ew (WHc r q) h h2 := (x1.mono fun _ _ w => WHc_R w).tr (x2.mono fun _ _ w => WHc_R w)
  refine ⟨h2.set (q + 11) k v, ?_, x12.tr (Ew.st _ _ (by unfold WHc; omega)), S2.st (b := q + 11) k v (by omega), fun z => ?_⟩
  · rw [E_Hd_readExtra, C.1.2.2.2.2.2, C.2.2.2.2.2.2.1, gd_t (by omega), D.2.2.1 k k0 k4, if_pos hk, gd_t (by omega), gd_t (by omega), s3, e1, Z_bI, gd_t (by omega), e2, Z_bI, C1.1.2.2.2.2.2, C2.2.2.2.2.2.2.1, gd_t (by omega), Z_hl]
  · have vv : v = (nmS T 0 99 s).1 := (a2 z).1
    obtain ⟨⟨d1, d2, d3⟩, d4, d5, d6, d7⟩ := D
    have F : ∀ b j, q ≤ b → b ≠ q + 11 → (h2.set (q + 11) k v).M b j = h.M b j := fun b j b0 n => by rw [Z_Mn (Or.inl n), m2 b b0 j]
    refine ⟨⟨?_, ?_, ?_⟩, fun i => ?_, fun j j0 j1 => ?_, ?_, ?_⟩
    · rw [F _ _ (by omega) (by omega), itX_n _ _ _ _ _ (by decide)]; exact d1
    · rw [F _ _ (by omega) (by omega), itX_n _ _ _ _ _ (by decide)]; exact d2
    · rw [F _ _ (by omega) (by omega), itX_n _ _ _ _ _ (by decide)]; exact d3
    · obtain ⟨f1, f2, f3, f4, f5, f6, f7, f8⟩ := d4 i
      refine ⟨?_, ?_, ?_, ?_, ?_, ?_, ?_, ?_⟩
      all_goals rw [F _ _ (by omega) (by omega), itX_n _ _ _ _ _ (by decide)]
      · exact f1
      · exact f2
      · exact f3
      · exact f4
      · exact f5
      · exact f6
      · exact f7
      · exact f8
    · rw [Z_Ms, itX_1, ← vv]
      by_cases t : j = k
      · rw [if_pos ⟨rfl, t⟩, if_pos t]
      · rw [if_neg fun t2 => t t2.2, if_neg t, m2 _ (by omega)]; exact d5 j j0 j1
    · rw [F _ _ (by omega) (by omega)]
      obtain ⟨t1, t2, t3, t4, t5⟩ := d6
      unfold strd
      rw [itX_n _ _ _ _ (b := 3) _ (by decide)]
      exact ⟨t1, t2, t3, t4, fun i i0 i1 => by rw [itX_n _ _ _ _ (b := 4) _ (by decide)]; exact t5 i i0 i1⟩
    · rw [F _ _ (by omega) (by omega), d7]
      exact cn_cg 12 1 fun i _ _ => by rw [itX_n _ _ _ _ (b := 10) _ (by decide)]
