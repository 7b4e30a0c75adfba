/-! THE PURE PART, the row of things: whole rows -/
theorem pst_s69 (h : mH) (a w v : Int) : (pst h a w).set 9 69 v = pst (h.set 9 69 v) a w := by
  unfold pst
  rw [set_comm _ w v (a := 9) (k := 4) (a' := 9) (k' := 69) (Or.inr (by decide)), set_comm _ a v (a := 9) (k := 3) (a' := 9) (k' := 69) (Or.inr (by decide))]
theorem R_row13 {T : Int → Int} {n : Int} (hT : tpo T n) {h : mH} (H : mtp h T n) {s : Int × Int} (g : gs n s) (c k : Int) (u : mV) : ∃ w, Rn kM_readRow 13 [vO 11 9, vI c, vI k, u] [] (pss h s) = some (some (vI (fnS T s).2), pss (if c = 0 then h else h.set 9 69 k) w) := by
  obtain ⟨a, w⟩ := s
  have en : ∀ (a' w' : Int), (if c = 0 then (hl ((pst h a' w').set 9 69 ((pst h a' w').M 9 69)) fun h2 => (some (some (vI (h2.M 9 4)), h2) : mR)) else (hl ((pst h a' w').set 9 69 k) fun h2 => some (some (vI (h2.M 9 4)), h2))) = some (some (vI w'), pss (if c = 0 then h else h.set 9 69 k) (a', w')) := fun a' w' => by
    by_cases z : c = 0
    · rw [if_pos z, if_pos z, set_same, Z_hl]
      rfl
    · rw [if_neg z, if_neg z, pst_s69, Z_hl]
      rfl
  by_cases q : w = -1
  · have a0 : 0 ≤ a := (g q).1
    have a1 : a ≤ n := (g q).2
    by_cases z : T (sk T a) = -1
    · have e : (fnS T (a, w)).2 = -1 := by
        unfold fnS
        dsimp only
        rw [if_neg fun t => t.2 z, q]
      refine ⟨(sk T a, -1), ?_⟩
      rw [e, E_M_readRow_13, show pss h (a, w) = pst h a (-1) by rw [q]; rfl, pst_4, if_pos rfl, R_look hT H (-1) a0 a1, Z_bI, if_pos z]
      exact en (sk T a) (-1)
    · have e : (fnS T (a, w)).2 = sk T a := by
        unfold fnS
        dsimp only
        rw [if_pos ⟨q, z⟩]
      refine ⟨(sk T a, sk T a), ?_⟩
      rw [e, E_M_readRow_13, show pss h (a, w) = pst h a (-1) by rw [q]; rfl, pst_4, if_pos rfl, R_look hT H (-1) a0 a1, Z_bI, if_neg z, R_bad, Z_bV, if_pos rfl]
      exact en (sk T a) (sk T a)
  · have e : (fnS T (a, w)).2 = w := by
      unfold fnS
      dsimp only
      rw [if_neg fun t => q t.1]
    refine ⟨(a, w), ?_⟩
    rw [e, E_M_readRow_13, show pss h (a, w) = pst h a w from rfl, pst_4, if_neg q]
    exact en a w
theorem fnS_sk {T : Int → Int} {n : Int} (hT : tpo T n) {a : Int} (h0 : 0 ≤ a) (h1 : a ≤ n) : (fnS T (sk T a, -1)).2 = (fnS T (a, -1)).2 := by
  have sb := (sk_b hT h0 h1).2.2.2
  unfold fnS
  dsimp only
  rw [sb]
  split <;> rfl
def Wrw (c : Int) : Int → Int → Prop := fun b j => c = 1 ∧ (b = 53 ∨ b = 54 ∨ b = 55 ∨ (b = 9 ∧ j = 69))
def rwV (h : mH) (k : Int) (V : Int → Int × Int × Int) : Prop := ∀ i, 0 ≤ i → i < k → h.M 53 i = (V i).1 ∧ h.M 54 i = (V i).2.1 ∧ h.M 55 i = (V i).2.2
theorem rwV_st {h : mH} {k : Int} {V : Int → Int × Int × Int} (R : rwV h k V) (t : Int × Int × Int) : rwV (wr3 h k t) (k + 1) (fun i => if i = k then t else V i) := fun i i0 i1 => by
  unfold wr3
  dsimp only
  by_cases q : i = k
  · rw [if_pos q, q]
    exact ⟨(Z_Mn (by omega)).trans ((Z_Mn (by omega)).trans (Z_Mt ..)), (Z_Mn (by omega)).trans (Z_Mt ..), Z_Mt ..⟩
  · rw [if_neg q]
    have := R i i0 (by omega)
    exact ⟨(Z_Mn (by omega)).trans ((Z_Mn (by omega)).trans ((Z_Mn (by omega)).trans this.1)), (Z_Mn (by omega)).trans ((Z_Mn (by omega)).trans ((Z_Mn (by omega)).trans this.2.1)), (Z_Mn (by omega)).trans ((Z_Mn (by omega)).trans ((Z_Mn (by omega)).trans this.2.2))⟩
theorem mtp_wr3 {h : mH} {T : Int → Int} {n : Int} (H : mtp h T n) (k : Int) (t : Int × Int × Int) : mtp (wr3 h k t) T n := ((H.set k t.1 (b := 53) (by decide)).set k t.2.1 (b := 54) (by decide)).set k t.2.2 (b := 55) (by decide)
theorem wr3_ew (h : mH) (k : Int) (t : Int × Int × Int) : Ew (Wrw 1) h (wr3 h k t) := ((Ew.st (W := Wrw 1) h _ ⟨rfl, Or.inl rfl⟩).tr (Ew.st _ _ ⟨rfl, Or.inr (Or.inl rfl)⟩)).tr (Ew.st _ _ ⟨rfl, Or.inr (Or.inr (Or.inl rfl))⟩)
theorem R_rows {T : Int → Int} {n : Int} (hT : tpo T n) {c : Int} (c01 : c = 0 ∨ c = 1) : ∀ (f : Nat) (a k : Int) (V : Int → Int × Int × Int) (h : mH), mtp h T n → k + f = 81 → 0 ≤ k → 2 * k ≤ a → a ≤ n → (c = 1 → rwV h k V) → ∃ h1 w, Rn kM_readRow 1 [vO 11 9, vI c, vI k, vI 1] [] (pst h a (-1)) = some (some (vI (fnS T (rws T f (a, -1) k V).2.2).2), pss h1 w) ∧ Ew (Wrw c) h h1 ∧ (c = 1 → h1.M 9 69 = (rws T f (a, -1) k V).1 ∧ rwV h1 (rws T f (a, -1) k V).1 (rws T f (a, -1) k V).2.1) := by
  have n160 := hT.2.1
  intro f
  induction f with
  | zero =>
    intro a k V h H e k0 ka an R
    omega
  | succ f ih =>
    intro a k V h H e k0 ka an R
    have sb := sk_b hT (a := a) (by omega) an
    have TG := thn_g hT (a := a) (by omega) an
    have tg := TG.1
    show ∃ h1 w, _ = some (some (vI (fnS T (if (thn T (a, -1)).2.2 = -1 ∧ T (sk T (thn T (a, -1)).2.1) = 59 then rws T f (sk T (thn T (a, -1)).2.1 + 1, -1) (k + 1) (fun i => if i = k then (thn T (a, -1)).1 else V i) else (k + 1, (fun i => if i = k then (thn T (a, -1)).1 else V i), (thn T (a, -1)).2)).2.2).2), pss h1 w) ∧ Ew (Wrw c) h h1 ∧ (c = 1 → h1.M 9 69 = (if (thn T (a, -1)).2.2 = -1 ∧ T (sk T (thn T (a, -1)).2.1) = 59 then rws T f (sk T (thn T (a, -1)).2.1 + 1, -1) (k + 1) (fun i => if i = k then (thn T (a, -1)).1 else V i) else (k + 1, (fun i => if i = k then (thn T (a, -1)).1 else V i), (thn T (a, -1)).2)).1 ∧ rwV h1 (if (thn T (a, -1)).2.2 = -1 ∧ T (sk T (thn T (a, -1)).2.1) = 59 then rws T f (sk T (thn T (a, -1)).2.1 + 1, -1) (k + 1) (fun i => if i = k then (thn T (a, -1)).1 else V i) else (k + 1, (fun i => if i = k then (thn T (a, -1)).1 else V i), (thn T (a, -1)).2)).1 (if (thn T (a, -1)).2.2 = -1 ∧ T (sk T (thn T (a, -1)).2.1) = 59 then rws T f (sk T (thn T (a, -1)).2.1 + 1, -1) (k + 1) (fun i => if i = k then (thn T (a, -1)).1 else V i) else (k + 1, (fun i => if i = k then (thn T (a, -1)).1 else V i), (thn T (a, -1)).2)).2.1)
    have RT := R_thing hT H (a := a) (by omega) an (k := k) (c := c) k0 (by omega)
    generalize eh2 : (if c = 0 then h else wr3 h k (thn T (a, -1)).1) = h2 at RT
    have H2 : mtp h2 T n := by
      rw [← eh2]
      split
      · exact H
      · exact mtp_wr3 H k _
    have x2 : Ew (Wrw c) h h2 := by
      rw [← eh2]
      rcases c01 with z | z
      · rw [if_pos z]; exact Ew.rf _ _
      · rw [if_neg (by omega), z]; exact wr3_ew h k _
    have R2 : c = 1 → rwV h2 (k + 1) (fun i => if i = k then (thn T (a, -1)).1 else V i) := fun z => by
      rw [← eh2, if_neg (by omega)]
      exact rwV_st (R z) _
    rw [E_M_readRow_1, if_neg n10, pst_4, if_pos rfl, RT, Z_bV, pss_4]
    generalize (fun i => if i = k then (thn T (a, -1)).1 else V i) = V' at R2 ⊢
    generalize (thn T (a, -1)).2 = s at RT tg TG ⊢
    obtain ⟨p, w⟩ := s
    dsimp only at RT tg TG ⊢
    have fin : ∀ (s : Int × Int), gs n s → (fnS T s).2 = (fnS T (p, w)).2 → ∃ h1 w', Rn kM_readRow 1 [vO 11 9, vI c, vI (k + 1), vI 0] [] (pss h2 s) = some (some (vI (fnS T (p, w)).2), pss h1 w') ∧ Ew (Wrw c) h h1 ∧ (c = 1 → h1.M 9 69 = k + 1 ∧ rwV h1 (k + 1) V') := fun s g es => by
      obtain ⟨w', r⟩ := R_row13 hT H2 g c (k + 1) (vI 0)
      refine ⟨_, w', by rw [E_M_readRow_1, if_pos rfl, r, es], ?_, fun z => ?_⟩
      · rcases c01 with z | z
        · rw [if_pos z]; exact x2
        · rw [if_neg (by omega)]
          exact x2.tr (Ew.st _ _ ⟨z, Or.inr (Or.inr (Or.inr ⟨rfl, rfl⟩))⟩)
      · rw [if_neg (by omega)]
        refine ⟨rfl, fun i i0 i1 => ?_⟩
        have := R2 z i i0 i1
        exact ⟨(Z_Mn (by omega)).trans this.1, (Z_Mn (by omega)).trans this.2.1, (Z_Mn (by omega)).trans this.2.2⟩
    by_cases q : w = -1
    · have tgq : 0 ≤ p ∧ p ≤ n := tg q
      have adv : a + 1 ≤ p := TG.2 q
      have sp := sk_b hT tgq.1 tgq.2
      rw [if_pos q, show pss h2 (p, w) = pst h2 p (-1) by rw [q]; rfl, R_look hT H2 (-1) tgq.1 tgq.2, Z_bI, Z_wI (z := k + 1) (by omega)]
      by_cases z : T (sk T p) = 59
      · have l := tp_lt hT (a := sk T p) (by omega)
        rw [if_pos z, if_pos ⟨q, z⟩, pst_3, Z_wI (by omega), pst_s3, Z_hl]
        obtain ⟨h1, w', r, x, c1⟩ := ih (sk T p + 1) (k + 1) V' h2 H2 (by omega) (by omega) (by omega) (by omega) R2
        exact ⟨h1, w', r, x2.tr x, c1⟩
      · rw [if_neg z, if_neg fun t => z t.2, pst_3, Z_wI (by omega), Int.add_zero, pst_s3, Z_hl]
        exact fin (sk T p, -1) (gs_1 (by omega) sp.2.1) (by rw [q]; exact fnS_sk hT tgq.1 tgq.2)
    · rw [if_neg q, if_neg fun t => q t.1, Z_wI (z := k + 1) (by omega)]
      have e3 : (pss h2 (p, w)).set 9 3 (wI ((pss h2 (p, w)).M 9 3 + 0)) = pss h2 (wI (p + 0), w) := pst_s3 ..
      rw [e3, Z_hl]
      refine fin (wI (p + 0), w) (fun t => absurd t q) ?_
      unfold fnS
      dsimp only
      rw [if_neg fun t => q t.1, if_neg fun t => q t.1]
/-! the class -/
def tgs (h : mH) (A k : Int) (V : Int → Int × Int × Int) : Prop := ∀ i, 0 ≤ i → i < k → thg (h.M A i) (V i).1 (V i).2.1 (V i).2.2
theorem D_rows {T : Int → Int} {n : Int} (hT : tpo T n) {r A : Int} (r0 : 56 < r) (A0 : 56 < A) (rA : r ≠ A) : ∀ (f : Nat) (a k : Int) (V : Int → Int × Int × Int) (h : mH), rtp h r T n → rst5 h r T (a, -1) → h.N A = 80 → k + f = 81 → 0 ≤ k → 2 * k ≤ a → a ≤ n → tgs h A k V → ∃ K h', Rn kX_readThings 1 [vR 5 r, vR 100 A, vI k, vI 1] [] h = some (some (vI K), h') ∧ Ew (fun b j => WR r b j ∨ b = A) h h' ∧ h'.M r 5 = (fnS T (rws T f (a, -1) k V).2.2).2 ∧ ((fnS T (rws T f (a, -1) k V).2.2).2 = -1 → K = (rws T f (a, -1) k V).1 ∧ 0 ≤ K ∧ K ≤ 80 ∧ tgs h' A K (rws T f (a, -1) k V).2.1) := by
  have n160 := hT.2.1
  have rn : r ≠ 0 := by omega
  have An : A ≠ 0 := by omega
  intro f
  induction f with
  | zero =>
    intro a k V h H S NA e k0 ka an R
    omega
  | succ f ih =>
    intro a k V h H S NA e k0 ka an R
    have TG := thn_g hT (a := a) (by omega) an
    have tg := TG.1
    show ∃ K h', _ ∧ _ ∧ h'.M r 5 = (fnS T (if (thn T (a, -1)).2.2 = -1 ∧ T (sk T (thn T (a, -1)).2.1) = 59 then rws T f (sk T (thn T (a, -1)).2.1 + 1, -1) (k + 1) (fun i => if i = k then (thn T (a, -1)).1 else V i) else (k + 1, (fun i => if i = k then (thn T (a, -1)).1 else V i), (thn T (a, -1)).2)).2.2).2 ∧ ((fnS T (if (thn T (a, -1)).2.2 = -1 ∧ T (sk T (thn T (a, -1)).2.1) = 59 then rws T f (sk T (thn T (a, -1)).2.1 + 1, -1) (k + 1) (fun i => if i = k then (thn T (a, -1)).1 else V i) else (k + 1, (fun i => if i = k then (thn T (a, -1)).1 else V i), (thn T (a, -1)).2)).2.2).2 = -1 → K = (if (thn T (a, -1)).2.2 = -1 ∧ T (sk T (thn T (a, -1)).2.1) = 59 then rws T f (sk T (thn T (a, -1)).2.1 + 1, -1) (k + 1) (fun i => if i = k then (thn T (a, -1)).1 else V i) else (k + 1, (fun i => if i = k then (thn T (a, -1)).1 else V i), (thn T (a, -1)).2)).1 ∧ 0 ≤ K ∧ K ≤ 80 ∧ tgs h' A K (if (thn T (a, -1)).2.2 = -1 ∧ T (sk T (thn T (a, -1)).2.1) = 59 then rws T f (sk T (thn T (a, -1)).2.1 + 1, -1) (k + 1) (fun i => if i = k then (thn T (a, -1)).1 else V i) else (k + 1, (fun i => if i = k then (thn T (a, -1)).1 else V i), (thn T (a, -1)).2)).2.1)
    by_cases k80 : k = 80
    · have an' : a = n := by omega
      have n16 : n = 160 := by omega
      have sn : sk T n = n := by have := sk_b hT hT.1 (Int.le_refl n); omega
      have te : (thn T (n, -1)).2.2 = n := by
        rcases thn_end hT with z | z
        · rw [z]
        · exact z.1
      have nq : ¬ (thn T (n, -1)).2.2 = -1 := by omega
      obtain ⟨ha, ra, xa, Sa, sa⟩ := D_refuse hT S (gs_1 (by omega) an)
      have ers : rfS T (a, -1) = (a, sk T a) := if_pos rfl
      rw [ers] at Sa
      obtain ⟨hb, rb, xb, Sb⟩ := D_finish hT Sa (fun t => absurd t (show ¬ sk T a = -1 by rw [an', sn]; omega))
      have e5 : (fnS T (a, sk T a)).2 = n := by
        unfold fnS
        dsimp only
        rw [an', sn, if_neg fun t => by omega]
      rw [an', if_neg fun t => nq t.1]
      have ef : (fnS T (thn T (n, -1)).2).2 = n := by
        unfold fnS
        rw [if_neg fun t => nq t.1, te]
      refine ⟨k, hb, ?_, (xa.tr xb).mono fun _ _ w => Or.inl w, by rw [Sb, e5]; exact ef.symm, fun z => ?_⟩
      · rw [E_X_readThings_1, if_neg n10, gd_t An, if_neg (by rw [NA]; omega), if_neg n10, gd_t rn, ra, Z_bV, gd_t rn, rb, Z_bV]
      · exact absurd (ef.symm.trans z) (by omega)
    · obtain ⟨z, ha, ra, xa, Sa, ta⟩ := D_thing hT rn H (by omega) an S
      have Ha := H.ew xa
      have Hs : rtp (ha.set A k z) r T n := Ha.st k z (Ne.symm rA) (by omega)
      have Ss := Sa.st (b := A) k z (Ne.symm rA)
      obtain ⟨hc, rc, xc, Sc, gc⟩ := D_takes hT Hs Ss tg (c := 59) (by decide)
      have Hc := Hs.ew xc
      have xs : Ew (fun b j => WR r b j ∨ b = A) h hc := ((Ew.mono (W := fun b j => WR r b j ∨ b = A) xa fun _ _ w => Or.inl w).tr (Ew.st ha z (Or.inr rfl))).tr (Ew.mono (W := fun b j => WR r b j ∨ b = A) xc fun _ _ w => Or.inl w)
      have NA' : hc.N A = 80 := by rw [xs.N]; exact NA
      have mA : ∀ i, hc.M A i = (ha.set A k z).M A i := fun i => xc.2 A i fun w => rA w.1.symm
      have tA : (thn T (a, -1)).2.2 = -1 → tgs hc A (k + 1) (fun i => if i = k then (thn T (a, -1)).1 else V i) := fun zz i i0 i1 => by
        dsimp only
        rw [mA]
        by_cases q : i = k
        · rw [if_pos q, q, Z_Mt]
          exact ta zz
        · rw [if_neg q, Z_Mn (by omega), xa.2 A i fun w => rA w.1.symm]
          exact R i i0 (by omega)
      rw [E_X_readThings_1, if_neg n10, gd_t An, if_pos (by rw [NA]; omega), ra, Z_bI, gd_t ⟨k0, by rw [xa.N, NA]; omega, An⟩, Z_hl, gd_t rn, rc, Z_bI, Z_wI (z := k + 1) (by omega)]
      generalize (fun i => if i = k then (thn T (a, -1)).1 else V i) = V' at tA ⊢
      unfold tkS at Sc gc
      by_cases q : (thn T (a, -1)).2.2 = -1 ∧ T (sk T (thn T (a, -1)).2.1) = 59
      · rw [if_pos q] at Sc
        have tgq := tg q.1
        have adv := TG.2 q.1
        have sp := sk_b hT tgq.1 tgq.2
        have l := tp_lt hT (a := sk T (thn T (a, -1)).2.1) (by omega)
        rw [bz_t q, if_pos q]
        obtain ⟨K, h', r', x', f', c'⟩ := ih (sk T (thn T (a, -1)).2.1 + 1) (k + 1) V' hc Hc Sc NA' (by omega) (by omega) (by omega) (by omega) (tA q.1)
        exact ⟨K, h', r', xs.tr x', f', c'⟩
      · rw [if_neg q] at Sc gc
        obtain ⟨hd, rd, xd, Sd⟩ := D_finish hT Sc gc
        rw [bz_f q, if_neg q]
        refine ⟨k + 1, hd, ?_, xs.tr (xd.mono fun _ _ w => Or.inl w), Sd, fun zz => ⟨rfl, by omega, by omega, fun i i0 i1 => ?_⟩⟩
        · rw [E_X_readThings_1, if_pos rfl, if_pos rfl, gd_t rn, rd, Z_bV]
        · have zt : (thn T (a, -1)).2.2 = -1 := by
            replace zz : (fnS T (thn T (a, -1)).2).2 = -1 := zz
            unfold fnS at zz
            split at zz
            · rename_i y; exact y.1
            · exact zz
          rw [xd.2 A i fun w => rA w.1.symm]
          exact tA zt i i0 i1
