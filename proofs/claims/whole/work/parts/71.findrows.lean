/-! THE PURE PART, the class's head finds its rows -/
def rwk (h : mH) (w n : Int) (L N E : Int → Int) : Prop := rwo h w n ∧ ∀ u, 1 ≤ u → u < n → h.M (w + 1) u = L u ∧ h.M (w + 2) u = N u ∧ h.M (w + 3) u = E u
theorem rwk.cg {h h1 : mH} {w n : Int} {L N E : Int → Int} (R : rwk h w n L N E) (e : ∀ b k, w ≤ b → b ≤ w + 3 → h1.M b k = h.M b k) (m : ∀ b, w ≤ b → b ≤ w + 3 → h1.N b = h.N b) : rwk h1 w n L N E := ⟨R.1.cg (fun k => e w k (by omega) (by omega)) (fun b b0 b1 => m b (by omega) b1), fun u u0 u1 => by
  rw [e _ _ (by omega) (by omega), e _ _ (by omega) (by omega), e _ _ (by omega) (by omega)]
  exact R.2 u u0 u1⟩
theorem hph.cg {h h1 : mH} {hp : Int} (G : hph h hp) (e : ∀ b k, hp ≤ b → b ≤ hp + 2 → h1.M b k = h.M b k) (m : ∀ b, hp ≤ b → b ≤ hp + 2 → h1.N b = h.N b) : hph h1 hp := by
  obtain ⟨a, ⟨b, c, d, f⟩, n0, n1, W⟩ := G
  have e1 : h1.M (hp + 1) = h.M (hp + 1) := funext fun k => e _ k (by omega) (by omega)
  have e2 : h1.M (hp + 2) = h.M (hp + 2) := funext fun k => e _ k (by omega) (by omega)
  exact ⟨a, ⟨(e hp 0 (by omega) (by omega)).trans b, (e hp 1 (by omega) (by omega)).trans c, (m _ (by omega) (by omega)).trans d, (m _ (by omega) (by omega)).trans f⟩, n0, n1, by rw [e1, e2, e hp 2 (by omega) (by omega)]; exact W⟩
set_option maxHeartbeats 4000000 in
theorem D_findRows {h : mH} {q hp : Int} {H : HD} (V : hdv H) (C : chl h q) (D : chd h q H) (G : hph h hp) (qc : q + 11 ≤ h.cnt) (hc : hp + 2 ≤ h.cnt) (dis : hp + 2 < q ∨ q + 11 < hp) : ∃ h' LY NY EY LM NM EM, Cl kHd_findRows [vO 2 q, vR 3 hp] h = some (none, h') ∧ Fb h.cnt (fun b k => (b = q ∧ (k = 9 ∨ k = 10)) ∨ WF0 hp b k) h h' ∧ h'.cnt = h.cnt + 8 ∧ h'.sl = h.sl + 30045 ∧ hph h' hp ∧ chl h' q ∧ chd h' q H ∧ h'.M q 9 = (h.cnt : Int) + 1 ∧ h'.M q 10 = (h.cnt : Int) + 5 ∧ rwk h' ((h.cnt : Int) + 1) 10000 LY NY EY ∧ rwk h' ((h.cnt : Int) + 5) 13 LM NM EM ∧ rsp 10000 (2 * H 3 0) (stO H) (stC H) (srcY H) LY NY EY ∧ rsp 13 (H 6 0) (prO H) (prC H) (srcM H) LM NM EM := by
  have q0 := C.2.2.2.2.2.2.2
  have hp0 := G.1
  obtain ⟨w, hw⟩ : ∃ w, w = (h.cnt : Int) + 1 := ⟨_, rfl⟩
  have tw : h.top = w := hw.symm
  -- the years' rows, made
  obtain ⟨h1, e1, c1, s1, X1, M1, N1, R1, F1⟩ := D_rwInit (w := w) (n := 10000) (h := h.new 6 3) (by rw [Z_cw]; omega) (by omega) (by omega) (by omega)
  have m1 : ∀ b k, b < w → h1.M b k = h.M b k := fun b k hb => (M1 b k hb).trans (by rw [Z_Mw, if_neg (by rw [tw]; omega)])
  have n1 : ∀ b, b < w → h1.N b = h.N b := fun b hb => (N1 b (by omega)).trans (by rw [Z_Nw, if_neg (by rw [tw]; omega)])
  obtain ⟨h2, eh2⟩ : ∃ u, u = h1.set q 9 w := ⟨_, rfl⟩
  have m2 : ∀ b k, b < w → ¬ (b = q ∧ k = 9) → h2.M b k = h.M b k := fun b k hb nk => by rw [eh2, Z_Mn (by omega)]; exact m1 b k hb
  have n2 : ∀ b, b < w → h2.N b = h.N b := fun b hb => by rw [eh2]; exact n1 b hb
  have C2 : chl h2 q := C.cg (fun b k z => m2 b k (by unfold plc at z; omega) (by unfold plc at z; omega)) (fun b _ _ => n2 b (by omega))
  have D2 : chd h2 q H := D.cg fun b k z => m2 b k (by omega) (by omega)
  have g2 : ∀ b k, w ≤ b → h2.M b k = h1.M b k := fun b k hb => by rw [eh2, Z_Mn (by omega)]
  have R2 : rwo h2 w 10000 := R1.cg (fun k => g2 w k (by omega)) (fun b _ _ => by rw [eh2]; rfl)
  have h29 : h2.M q 9 = w := by rw [eh2]; exact Z_Mt ..
  obtain ⟨h3, w2, w3, e3, x3, S3⟩ := D_fr3 (q := q) (w := w) (by omega) V hp (H 0 0).toNat 0 vU h2 (by have := V.1; omega) (by omega) C2 D2 h29 R2 (fun u u0 u1 => by
    rw [g2 _ _ (by omega), g2 _ _ (by omega), g2 _ _ (by omega)]
    have := F1 u u0 u1
    exact ⟨fun ⟨j, j0, j1, _⟩ => by omega, fun _ => ⟨this.1, this.2.2, this.2.1⟩⟩)
  have o3 : ∀ b k, b < w → h3.M b k = h2.M b k := fun b k hb => x3.2 b k fun t => by unfold WKn at t; omega
  have C3 : chl h3 q := C2.cg (fun b k z => o3 b k (by unfold plc at z; omega)) (fun b _ _ => by rw [x3.N])
  have D3 : chd h3 q H := D2.cg fun b k z => o3 b k (by omega)
  have R3 : rwo h3 w 10000 := R2.kn x3
  have G3 : hph h3 hp := G.cg (fun b k b0 b1 => (o3 b k (by omega)).trans (m2 b k (by omega) (by omega))) (fun b b0 b1 => by rw [x3.N]; exact n2 b (by omega))
  have low : ∀ b k, b < w → ¬ WF0 hp b k → ¬ WFn hp w b k := fun b k hb nw t => by
    unfold WFn at t
    unfold WF0 at nw
    omega
  have out : ∀ b k, q ≤ b → b ≤ q + 11 → ¬ WFn hp w b k := fun b k b0 b1 t => by
    unfold WFn at t
    omega
  obtain ⟨h4, e4, x4, G4, r4⟩ := D_find (st_ok V) (tn := 8) (x := q + 3) (w := w) (hp := hp) (by omega) (src := srcY H) (h := h3) (fun h' x => nto_st V (C3.cg (fun b k z => x.2 b k (out b k (by unfold plc at z; omega) (by unfold plc at z; omega))) (fun b _ _ => by rw [x.N])) (D3.cg fun b k z => x.2 b k (out b k (by omega) (by omega)))) G3 R3 S3
  have C4 : chl h4 q := C3.cg (fun b k z => x4.2 b k (out b k (by unfold plc at z; omega) (by unfold plc at z; omega))) (fun b _ _ => by rw [x4.N])
  have D4 : chd h4 q H := D3.cg fun b k z => x4.2 b k (out b k (by omega) (by omega))
  have R4 : rwo h4 w 10000 := R3.ew (by omega) x4
  have cnt4 : h4.cnt = h.cnt + 4 := by rw [x4.cnt, x3.cnt, eh2, Z_cs, c1, Z_cw]
  have sl4 : h4.sl = h.sl + 30003 := by
    rw [x4.sl, x3.sl, eh2, Z_ss, s1, Z_sw]
    omega
  have h49 : h4.M q 9 = w := (x4.2 q 9 (out q 9 (by omega) (by omega))).trans ((o3 q 9 (by omega)).trans h29)
  have b4 : ∀ b k, b < w → ¬ (b = q ∧ k = 9) → ¬ WF0 hp b k → h4.M b k = h.M b k := fun b k hb nk nw => (x4.2 b k (low b k hb nw)).trans ((o3 b k hb).trans (m2 b k hb nk))
  have bn4 : ∀ b, b < w → h4.N b = h.N b := fun b hb => by rw [x4.N, x3.N]; exact n2 b hb
  -- the months' rows
  obtain ⟨v, hv⟩ : ∃ v, v = (h4.cnt : Int) + 1 := ⟨_, rfl⟩
  have vw : v = w + 4 := by omega
  have tv : h4.top = v := hv.symm
  obtain ⟨h5, e5, c5, s5, X5, M5, N5, R5, F5⟩ := D_rwInit (w := v) (n := 13) (h := h4.new 6 3) (by rw [Z_cw]; omega) (by omega) (by omega) (by omega)
  have m5 : ∀ b k, b < v → h5.M b k = h4.M b k := fun b k hb => (M5 b k hb).trans (by rw [Z_Mw, if_neg (by rw [tv]; omega)])
  have n5 : ∀ b, b < v → h5.N b = h4.N b := fun b hb => (N5 b (by omega)).trans (by rw [Z_Nw, if_neg (by rw [tv]; omega)])
  obtain ⟨h6, eh6⟩ : ∃ u, u = h5.set q 10 v := ⟨_, rfl⟩
  have m6 : ∀ b k, b < v → ¬ (b = q ∧ k = 10) → h6.M b k = h4.M b k := fun b k hb nk => by rw [eh6, Z_Mn (by omega)]; exact m5 b k hb
  have n6 : ∀ b, b < v → h6.N b = h4.N b := fun b hb => by rw [eh6]; exact n5 b hb
  have C6 : chl h6 q := C4.cg (fun b k z => m6 b k (by unfold plc at z; omega) (by unfold plc at z; omega)) (fun b _ _ => n6 b (by omega))
  have D6 : chd h6 q H := D4.cg fun b k z => m6 b k (by omega) (by omega)
  have g6 : ∀ b k, v ≤ b → h6.M b k = h5.M b k := fun b k hb => by rw [eh6, Z_Mn (by omega)]
  have R6 : rwo h6 v 13 := R5.cg (fun k => g6 v k (by omega)) (fun b _ _ => by rw [eh6]; rfl)
  have h610 : h6.M q 10 = v := by rw [eh6]; exact Z_Mt ..
  obtain ⟨h7, v2, e7, x7, S7⟩ := D_fr13 (q := q) (w := v) (by omega) V hp w3 12 1 h6 (by omega) (by omega) C6 D6 h610 R6 (fun u u0 u1 => by
    rw [g6 _ _ (by omega), g6 _ _ (by omega), g6 _ _ (by omega)]
    have := F5 u u0 u1
    exact ⟨fun z => by omega, fun _ => ⟨this.1, this.2.2, this.2.1⟩⟩)
  have o7 : ∀ b k, b < v → h7.M b k = h6.M b k := fun b k hb => x7.2 b k fun t => by unfold WKn at t; omega
  have C7 : chl h7 q := C6.cg (fun b k z => o7 b k (by unfold plc at z; omega)) (fun b _ _ => by rw [x7.N])
  have D7 : chd h7 q H := D6.cg fun b k z => o7 b k (by omega)
  have R7 : rwo h7 v 13 := R6.kn x7
  have G7 : hph h7 hp := G4.cg (fun b k b0 b1 => (o7 b k (by omega)).trans (m6 b k (by omega) (by omega))) (fun b b0 b1 => by rw [x7.N]; exact n6 b (by omega))
  have out2 : ∀ b k, q ≤ b → b ≤ q + 11 → ¬ WFn hp v b k := fun b k b0 b1 t => by
    unfold WFn at t
    omega
  obtain ⟨h8, e8, x8, G8, r8⟩ := D_find (pr_ok V) (tn := 4) (x := q + 6) (w := v) (hp := hp) (by omega) (src := srcM H) (h := h7) (fun h' x => nto_pr V (C7.cg (fun b k z => x.2 b k (out2 b k (by unfold plc at z; omega) (by unfold plc at z; omega))) (fun b _ _ => by rw [x.N])) (D7.cg fun b k z => x.2 b k (out2 b k (by omega) (by omega)))) G7 R7 S7
  have C8 : chl h8 q := C7.cg (fun b k z => x8.2 b k (out2 b k (by unfold plc at z; omega) (by unfold plc at z; omega))) (fun b _ _ => by rw [x8.N])
  have D8 : chd h8 q H := D7.cg fun b k z => x8.2 b k (out2 b k (by omega) (by omega))
  have R8 : rwo h8 v 13 := R7.ew (by omega) x8
  have b8 : ∀ b k, b < v → ¬ (b = q ∧ k = 10) → ¬ WF0 hp b k → h8.M b k = h4.M b k := fun b k hb nk nw => (x8.2 b k fun t => by unfold WFn at t; unfold WF0 at nw; omega).trans ((o7 b k hb).trans (m6 b k hb nk))
  have bn8 : ∀ b, b < v → h8.N b = h4.N b := fun b hb => by rw [x8.N, x7.N]; exact n6 b hb
  have cnt6 : h6.cnt = h.cnt + 8 := by rw [eh6, Z_cs, c5, Z_cw, cnt4]
  have sl6 : h6.sl = h.sl + 30045 := by
    rw [eh6, Z_ss, s5, Z_sw, sl4]
    omega
  have wv : ∀ b k, w ≤ b → b ≤ w + 3 → h8.M b k = h4.M b k := fun b k b0 b1 => b8 b k (by omega) (by omega) (by unfold WF0; omega)
  refine ⟨h8, h4.M (w + 1), h4.M (w + 2), h4.M (w + 3), h8.M (v + 1), h8.M (v + 2), h8.M (v + 3), ?_, ⟨fun b k hb nw => ?_, fun b hb => ?_, ?_, ?_⟩, ?_, ?_, G8, C8, D8, ?_, ?_, ?_, ?_, r4, r8⟩
  · rw [E_Hd_findRows, Z_hl, tw, e1, Z_bV, E_Hd_findRows_1, Z_hl, ← eh2, E_Hd_findRows_2, e3, E_Hd_findRows_9, (o3 q 9 (by omega)).trans h29, gd_t (by omega), C3.1.2.2.1, e4, Z_bV, E_Hd_findRows_10, Z_hl, tv, e5, Z_bV, E_Hd_findRows_11, Z_hl, ← eh6, E_Hd_findRows_12, e7, E_Hd_findRows_19, (o7 q 10 (by omega)).trans h610, gd_t (by omega), C7.1.2.2.2.1, e8, Z_bV, E_Hd_findRows_20]
  · have n0 : ¬ WF0 hp b k := fun t => nw (Or.inr t)
    have n9 : ¬ (b = q ∧ k = 9) := fun t => nw (Or.inl ⟨t.1, Or.inl t.2⟩)
    have n10 : ¬ (b = q ∧ k = 10) := fun t => nw (Or.inl ⟨t.1, Or.inr t.2⟩)
    exact (b8 b k (by omega) n10 n0).trans (b4 b k (by omega) n9 n0)
  · exact (bn8 b (by omega)).trans (bn4 b (by omega))
  · rw [x8.cnt, x7.cnt, cnt6]; omega
  · rw [x8.X, x7.X, eh6, Z_Xs, X5, Z_Xw, x4.X, x3.X, eh2, Z_Xs, X1, Z_Xw]
  · rw [x8.cnt, x7.cnt, cnt6]
  · rw [x8.sl, x7.sl, sl6]
  · rw [b8 q 9 (by omega) (by omega) (by unfold WF0; omega), h49, hw]
  · rw [x8.2 q 10 (out2 q 10 (by omega) (by omega)), o7 q 10 (by omega), h610]
    omega
  · rw [← hw]
    exact ⟨R4.cg (fun k => wv w k (by omega) (by omega)) (fun b b0 b1 => bn8 b (by omega)), fun u u0 u1 => ⟨wv _ _ (by omega) (by omega), wv _ _ (by omega) (by omega), wv _ _ (by omega) (by omega)⟩⟩
  · rw [show (h.cnt : Int) + 5 = v by omega]
    exact ⟨R8, fun u u0 u1 => ⟨rfl, rfl, rfl⟩⟩
theorem D_hpInit {hp : Int} {h : mH} (hh : (h.cnt : Int) = hp) (h0 : 56 < hp) (z : ∀ k, h.M hp k = 0) : ∃ h', Cl kHp_init [vO 3 hp, vI 10000] h = some (none, h') ∧ h'.cnt = h.cnt + 2 ∧ h'.sl = h.sl + 20002 ∧ h'.X = h.X ∧ (∀ b k, b < hp → h'.M b k = h.M b k) ∧ (∀ b, b ≤ hp → h'.N b = h.N b) ∧ hph h' hp := by
  obtain ⟨hB, eB⟩ : ∃ u, u = (((h.new 100 10001).set hp 0 (h.top)).new 100 10001).set hp 1 (((h.new 100 10001).set hp 0 (h.top)).top) := ⟨_, rfl⟩
  have MB : ∀ b k, hB.M b k = if b = hp ∧ k = 1 then hp + 2 else if b = hp ∧ k = 0 then hp + 1 else if b = hp + 1 ∨ b = hp + 2 then 0 else h.M b k := by
    intro b k
    rw [eB]
    simp only [Z_Ms, Z_Mw, Z_ts, Z_tw, Z_top, Z_cs, Z_cw]
    (repeat' split)
    all_goals first | omega | rfl
  have NB : ∀ b, hB.N b = if b = hp + 1 ∨ b = hp + 2 then 10001 else h.N b := by
    intro b
    rw [eB]
    simp only [Z_Nw, Z_Ns, Z_ts, Z_tw, Z_top, Z_cs, Z_cw]
    (repeat' split)
    all_goals first | omega | rfl
  have w1 : wI (10000 + 1) = 10001 := (Z_wI (by omega)).trans (by decide)
  have sB : hB.sl = h.sl + 20002 := by
    rw [eB, Z_ss, Z_sw, Z_ss, Z_sw]
    omega
  refine ⟨hB, ?_, by rw [eB]; rfl, sB, by rw [eB]; rfl, fun b k hb => ?_, fun b hb => ?_, h0, ⟨?_, ?_, ?_, ?_⟩, 0, by omega, ?_⟩
  · rw [E_Hp_init, w1, gd_t (by decide), Z_hl, Z_hl, E_Hp_init_1, w1, gd_t (by decide), Z_hl, Z_hl, ← eB, E_Hp_init_2]
  · rw [MB, if_neg (by omega), if_neg (by omega), if_neg (by omega)]
  · rw [NB, if_neg (by omega)]
  · rw [MB, if_neg (by omega), if_pos ⟨rfl, rfl⟩]
  · rw [MB, if_pos ⟨rfl, rfl⟩]
  · rw [NB, if_pos (by omega)]
  · rw [NB, if_pos (by omega)]
  · rw [show hB.M hp 2 = 0 by rw [MB, if_neg (by omega), if_neg (by omega), if_neg (by omega)]; exact z 2]
    exact ⟨by omega, by omega, fun i i0 i1 => by omega, fun u u0 u1 => Or.inl (by rw [MB, if_neg (by omega), if_neg (by omega), if_pos (by omega)])⟩
