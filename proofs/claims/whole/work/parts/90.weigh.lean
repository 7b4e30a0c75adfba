/-! THE PURE PART, calls that write: weigh -/
def Wwe (q k : Int) : Int → Int → Prop := fun b j => (b = q ∧ j = 8) ∨ (b = 32 ∧ j = k)
theorem ok_weigh {c v : Int} : okc kX_weigh kM_weigh [vI c, vI v] := fun h ⟨T, n, nc, Ds, nh, Xs, I⟩ => by
  have L := I.1
  have c56 := L.2.2
  have nb := I.nh
  have no : ∀ {w : Int}, Cl kX_weigh [vO 10 1, vI c, vI v] h = some (some (vI w), h) → Cl kM_weigh [vO 11 9, vI c, vI v] h = some (some (vI w), h) → ∃ v' h1 h2, Cl kX_weigh [vO 10 1, vI c, vI v] h = some (some (vI v'), h1) ∧ Cl kM_weigh [vO 11 9, vI c, vI v] h1 = some (some (vI v'), h2) ∧ IV h2 ∧ stp h h2 ∧ h1.X = h.X := fun {w} a b => ⟨w, h, h, a, b, ⟨T, n, nc, Ds, nh, Xs, I⟩, ⟨by omega, by omega, rfl⟩, rfl⟩
  by_cases p : 0 ≤ c ∧ c < nh
  · have q0 := I.q0 p.1 p.2
    by_cases z1 : v < 1
    · exact no (w := 0) (by rw [E_X_weigh, C_headAt I, Z_bR, if_pos p, if_neg q0, if_pos z1, gd_t (by decide)]) (by rw [E_M_weigh, R_isHead I, Z_bI, bz_t p, if_neg n10, R_in, Z_bI, bz_f (by omega), if_pos rfl, gd_t (by decide)])
    by_cases z2 : v ≤ 9
    · have HK := I.hik p.1 p.2
      have F0 := HK.2.2.2.2.1 (h.M 4 c) 0 (Or.inl ⟨by omega, by omega⟩) (by omega)
      generalize eq : h.M 4 c = q at HK F0 q0
      have fq56 : 56 < q := F0.1
      have fqc : q ≤ h.cnt := F0.2.1
      have a : Cl kX_weigh [vO 10 1, vI c, vI v] h = some (some (vI 1), h.set q 8 v) := by
        rw [E_X_weigh, C_headAt I, Z_bR, if_pos p, eq, if_neg q0, if_neg z1, if_pos z2, gd_t q0, Z_hl, gd_t (by decide)]
      have La : lay (h.set q 8 v) := L.st v (layA_n 8 (by omega) (by omega))
      have e928 : (h.set q 8 v).M 9 28 = nh := (Z_Mn (by omega)).trans I.2.2.2.1.1
      have b : Cl kM_weigh [vO 11 9, vI c, vI v] (h.set q 8 v) = some (some (vI 1), (h.set q 8 v).set 32 c v) := by
        rw [E_M_weigh, E_M_isHead, e928, Z_wI (by omega), R_in, Z_bI, gd_t (bz_01 _), bz_t (by omega), Z_bI, if_neg n10, R_in, Z_bI, bz_t (by omega), if_neg n10, lm27 La, ln32 La, gd_t (by omega), Z_hl, gd_t (by decide)]
      have x : Ew (Wwe q c) h ((h.set q 8 v).set 32 c v) := (Ew.st (W := Wwe q c) h _ (Or.inl ⟨rfl, rfl⟩)).tr (Ew.st _ _ (Or.inr ⟨rfl, rfl⟩))
      have w1 : ((h.set q 8 v).set 32 c v).M q 8 = v := (Z_Mn (by omega)).trans (Z_Mt ..)
      have w2 : ((h.set q 8 v).set 32 c v).M 32 c = v := Z_Mt ..
      generalize (h.set q 8 v).set 32 c v = H2 at b x w1 w2
      have L2 : lay H2 := L.ew x fun b j w => by
        unfold Wwe at w
        exact layA_n j (by omega) (by omega)
      have e : ∀ b j, b ≠ q → b ≠ 32 → H2.M b j = h.M b j := fun b j n1 n2 => x.2 b j (by unfold Wwe; omega)
      have fzq : ∀ b k, Fz h b k → ¬ (b = q ∧ k = 8) := fun b k F z => by
        rw [z.1, z.2] at F
        exact F.2.2.2.2 ⟨rfl, c, p.1, by rw [I.2.2.2.1.2.1]; exact p.2, eq⟩
      have K : Kz h H2 := by
        refine ⟨fun b k F => ⟨x.2 b k ?_, ?_⟩, fun b _ => by rw [x.N], by rw [x.cnt]; exact Nat.le_refl _⟩
        · have := fzq b k F
          have := F.1
          unfold Wwe
          omega
        · obtain ⟨f1, f2, f3, f4, f5⟩ := F
          unfold Fz
          rw [x.cnt, e 1 18 (by omega) (by omega), e 1 19 (by omega) (by omega), e 1 5 (by omega) (by omega)]
          exact ⟨f1, f2, f3, f4, fun ⟨k8, i, i0, i1, i2⟩ => f5 ⟨k8, i, i0, i1, (e 4 i (by omega) (by omega)).symm.trans i2⟩⟩
      obtain ⟨_, it, ic, ih, ia, ip, ie, ik, ib, iw, ig⟩ := I
      obtain ⟨j1, j2, j3, j4, j5, j6⟩ := ih
      have dst : ∀ i, 0 ≤ i → i < nh → i ≠ c → h.M 4 i ≠ q := fun i i0 i1 ic => by
        rcases Int.lt_or_lt_of_ne ic with l | l
        · have := j6 i c i0 l p.2; omega
        · have := j6 c i p.1 l i1; omega
      have hg : ∀ i, 0 ≤ i → i < nh → 56 < h.M 4 i ∧ h.M 4 i ≤ h.cnt := fun i i0 i1 => by
        have := (j5 i i0 i1).2.2.2.2.1 (h.M 4 i) 0 (Or.inl ⟨by omega, by omega⟩) (by omega)
        exact ⟨this.1, this.2.1⟩
      have iG2 : iG H2 := by
        obtain ⟨g1, g2, g3, g4⟩ := ig
        have F8 : ∀ b, h.M 1 18 ≠ 0 → h.M 1 18 ≤ b → b ≤ h.M 1 18 + 2 → b ≠ q := fun b b0 b1 b2 z => F0.2.2.1 ⟨b0, by omega, by omega⟩
        have F9 : ∀ b, h.M 1 19 ≠ 0 → h.M 1 19 ≤ b → b ≤ h.M 1 19 + 3 → b ≠ q := fun b b0 b1 b2 z => F0.2.2.2.1 ⟨b0, by omega, by omega⟩
        unfold iG
        rw [e 1 18 (by omega) (by omega), e 1 19 (by omega) (by omega), e 1 5 (by omega) (by omega), x.cnt]
        refine ⟨?_, ?_, g3, fun u u0 u1 => (e 36 u (by omega) (by omega)).trans (g4 u u0 u1)⟩
        · rcases g1 with g1 | ⟨g1, g5⟩
          · exact Or.inl g1
          · have g0 := g1.1
            exact Or.inr ⟨g1.cg (fun b k b0 b1 => e b k (F8 b (by omega) b0 b1) (by omega)) (fun b _ _ => by rw [x.N]), g5⟩
        · rcases g2 with g2 | ⟨g2, g5, g6⟩
          · exact Or.inl g2
          · have g0 := g2.2.2.1
            exact Or.inr ⟨g2.cg (fun k => e _ k (F9 _ (by omega) (Int.le_refl _) (by omega)) (by omega)) (fun b _ _ => by rw [x.N]), g5, g6⟩
      refine ⟨1, _, _, a, b, ⟨T, n, nc, Ds, nh, Xs, L2, it.cg fun b j z => e b j ?_ ?_, ic.cg K fun b j z => ?_, ⟨(e 9 28 (by omega) (by omega)).trans j1, (e 1 5 (by omega) (by omega)).trans j2, j3, j4, fun i i0 i1 => ?_, fun i j i0 ij j1 => ?_⟩, ia.cg K fun b j z => e b j ?_ ?_, ip.cg K fun b j z => e b j ?_ ?_, ie.cg fun b j z => e b j ?_ ?_, ?_, ib.cg K fun b j z => e b j ?_ ?_, iw.cg K fun b j z => e b j ?_ ?_, iG2⟩, ⟨?_, ?_, x.X⟩, rfl⟩
      · unfold rT at z; omega
      · unfold rT at z; omega
      · rcases z with z | z | z | ⟨c', c0, c1, z⟩
        · exact e b j (by omega) (by omega)
        · exact e b j (by omega) (by omega)
        · exact e b j (by omega) (by omega)
        · have := mreg_b z
          exact e b j (by omega) (by omega)
      · have e4 : H2.M 4 i = h.M 4 i := e 4 i (by omega) (by omega)
        rw [e4]
        have em : ∀ b k, mhr i b k → H2.M b k = h.M b k := fun b k z => by
          have := mhr_b z
          exact e b k (by omega) (by omega)
        by_cases z : i = c
        · rw [z, eq, ← z]
          rw [z] at em ⊢
          exact HK.cg K em (w1.trans w2.symm) (by rw [w2]; omega)
        · have e32 : H2.M 32 i = h.M 32 i := x.2 32 i (by unfold Wwe; omega)
          have e8 : H2.M (h.M 4 i) 8 = h.M (h.M 4 i) 8 := e _ 8 (dst i i0 i1 z) (by have := hg i i0 i1; omega)
          have := (j5 i i0 i1).2.2.2.2.2
          exact (j5 i i0 i1).cg K em (by rw [e8, e32]; exact this.1) (by rw [e32]; exact this.2)
      · rw [e 4 i (by omega) (by omega), e 4 j (by omega) (by omega)]
        exact j6 i j i0 ij j1
      · unfold rA at z; omega
      · unfold rA at z; omega
      · unfold rP at z; omega
      · unfold rP at z; omega
      · unfold rE at z; omega
      · unfold rE at z; omega
      · unfold iK
        rw [e 9 64 (by omega) (by omega), e 9 65 (by omega) (by omega), e 1 13 (by omega) (by omega), e 1 14 (by omega) (by omega), e 1 7 (by omega) (by omega), e 1 12 (by omega) (by omega)]
        exact ik
      · unfold rB at z; omega
      · unfold rB at z; omega
      · unfold rW at z; omega
      · unfold rW at z; omega
      · rw [x.cnt]; omega
      · rw [x.sl, pot_eq (e 1 3 (by omega) (by omega) |> fun z => z) (e 1 5 (by omega) (by omega)) (e 1 18 (by omega) (by omega)) (e 1 19 (by omega) (by omega))]
        omega
    · exact no (w := 0) (by rw [E_X_weigh, C_headAt I, Z_bR, if_pos p, if_neg q0, if_neg z1, if_neg z2, gd_t (by decide)]) (by rw [E_M_weigh, R_isHead I, Z_bI, bz_t p, if_neg n10, R_in, Z_bI, bz_f (by omega), if_pos rfl, gd_t (by decide)])
  · exact no (w := 0) (by rw [E_X_weigh, C_headAt I, Z_bR, if_neg p, if_pos rfl, gd_t (by decide)]) (by rw [E_M_weigh, R_isHead I, Z_bI, bz_f p, if_pos rfl, gd_t (by decide)])
