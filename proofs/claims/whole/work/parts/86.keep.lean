/-! THE PURE PART, calls that write: keep, back, end, event -/
def Wok (b k : Int) : Prop := (b = 1 ∧ (k = 1 ∨ k = 7 ∨ k = 9 ∨ (12 ≤ k ∧ k ≤ 17))) ∨ (b = 9 ∧ (k = 2 ∨ k = 3 ∨ k = 4 ∨ k = 49 ∨ k = 54 ∨ (56 ≤ k ∧ k ≤ 60) ∨ (63 ≤ k ∧ k ≤ 65) ∨ k = 69)) ∨ b = 2 ∨ (5 ≤ b ∧ b ≤ 8) ∨ b = 10 ∨ (39 ≤ b ∧ b ≤ 49) ∨ (51 ≤ b ∧ b ≤ 55)
theorem wok_lay {b k : Int} (w : Wok b k) : layA b k = 0 := by
  rcases w with ⟨rfl, w⟩ | ⟨rfl, w⟩ | w
  · have : k = 1 ∨ k = 7 ∨ k = 9 ∨ k = 12 ∨ k = 13 ∨ k = 14 ∨ k = 15 ∨ k = 16 ∨ k = 17 := by omega
    rcases this with rfl | rfl | rfl | rfl | rfl | rfl | rfl | rfl | rfl <;> rfl
  · have : k = 2 ∨ k = 3 ∨ k = 4 ∨ k = 49 ∨ k = 54 ∨ k = 56 ∨ k = 57 ∨ k = 58 ∨ k = 59 ∨ k = 60 ∨ k = 63 ∨ k = 64 ∨ k = 65 ∨ k = 69 := by omega
    rcases this with rfl | rfl | rfl | rfl | rfl | rfl | rfl | rfl | rfl | rfl | rfl | rfl | rfl | rfl <;> rfl
  · exact layA_n k (by omega) (by omega)
theorem INV.wr {h h1 : mH} {T : Int → Int} {n nc : Int} {Ds : Int → Int → Int → Int → Int} {nh : Int} {Xs : Int → HX} (I : INV h T n nc Ds nh Xs) {W : Int → Int → Prop} {cc ss : Nat} (x : Fr W cc ss h h1) (hw : ∀ b k, W b k → Wok b k) : lay h1 ∧ iC h1 nc Ds ∧ iH h1 nh Xs ∧ iG h1 ∧ Kz h h1 ∧ ∀ b k, b ≤ 56 → ¬ W b k → h1.M b k = h.M b k := by
  obtain ⟨L, it, ic, ih, ia, ip, ie, ik, ib, iw, ig⟩ := I
  have c := L.2.2
  have F : Fb h.cnt W h h1 := x.fb (Int.le_refl _) fun b k _ w => w
  have K : Kz h h1 := F.kz L fun b k w => by have := hw b k w; unfold Wok at this; omega
  have e : ∀ b k, b ≤ 56 → ¬ Wok b k → h1.M b k = h.M b k := fun b k hb n => x.1 b k (by omega) fun w => n (hw b k w)
  have hi : ∀ b k : Int, 56 < b → b ≤ h.cnt → h1.M b k = h.M b k := fun b k b0 b1 => x.1 b k b1 fun w => by
    have := hw b k w
    unfold Wok at this
    omega
  have e8 : ∀ c, 0 ≤ c → c < nh → h1.M (h.M 4 c) 8 = h.M (h.M 4 c) 8 := fun c c0 c1 => by
    have H := ih.2.2.2.2.1 c c0 c1
    have := H.2.2.2.2.1 (h.M 4 c) 0 (Or.inl ⟨by omega, by omega⟩) (by omega)
    exact hi _ _ this.1 this.2.1
  refine ⟨L.fr x fun b k w => wok_lay (hw b k w), ic.cg K fun b k z => e b k ?_ ?_, ih.cg K (fun b k z => e b k ?_ ?_) e8, ?_, K, fun b k hb n => x.1 b k (by omega) n⟩
  · rcases z with z | z | z | ⟨c, _, _, z⟩
    · omega
    · omega
    · omega
    · have := mreg_b z; omega
  · intro w
    unfold Wok at w
    rcases z with z | z | z | ⟨c, _, _, z⟩
    · omega
    · omega
    · omega
    · have := mreg_b z; omega
  · rcases z with z | z | z | ⟨c, _, _, z⟩
    · omega
    · omega
    · omega
    · have := mhr_b z; omega
  · intro w
    unfold Wok at w
    rcases z with z | z | z | ⟨c, _, _, z⟩
    · omega
    · omega
    · omega
    · have := mhr_b z; omega
  · obtain ⟨g1, g2, g3, g4⟩ := ig
    have e' : ∀ b k, b ≤ 56 → (b = 1 ∧ (k = 18 ∨ k = 19 ∨ k = 5)) ∨ b = 36 → h1.M b k = h.M b k := fun b k hb z => e b k hb fun w => by unfold Wok at w; omega
    unfold iG
    rw [e' 1 18 (by omega) (by omega), e' 1 19 (by omega) (by omega), e' 1 5 (by omega) (by omega)]
    have := x.2.2.1
    refine ⟨?_, ?_, g3, fun u u0 u1 => (e' 36 u (by omega) (by omega)).trans (g4 u u0 u1)⟩
    · rcases g1 with g1 | ⟨g1, g5⟩
      · exact Or.inl g1
      · exact Or.inr ⟨g1.cg (fun b k b0 b1 => hi b k (by have := g1.1; omega) (by omega)) (fun b b0 b1 => x.2.1 b (by omega)), by omega⟩
    · rcases g2 with g2 | ⟨g2, g5, g6⟩
      · exact Or.inl g2
      · exact Or.inr ⟨g2.cg (fun k => hi _ k g2.2.2.1 (by omega)) (fun b b0 b1 => x.2.1 b (by omega)), by omega, g6⟩
theorem okw {kx km : Nat} {as : List mV} (Q : ∀ h T n nc Ds nh Xs, INV h T n nc Ds nh Xs → ∃ v h1 h2 W, Cl kx (vO 10 1 :: as) h = some (some (vI v), h1) ∧ Cl km (vO 11 9 :: as) h1 = some (some (vI v), h2) ∧ Fr W 50 900 h h2 ∧ (∀ b k, W b k → Wok b k) ∧ IV h2 ∧ h1.X = h.X) : okc kx km as := by
  intro h ⟨T, n, nc, Ds, nh, Xs, I⟩
  obtain ⟨v, h1, h2, W, e1, e2, x, hw, J, xX⟩ := Q h T n nc Ds nh Xs I
  have c := I.1.2.2
  have e : ∀ k, k = 3 ∨ k = 5 ∨ k = 18 ∨ k = 19 → h2.M 1 k = h.M 1 k := fun k hk => x.1 1 k (by omega) fun w => by
    have := hw _ _ w
    unfold Wok at this
    omega
  refine ⟨v, h1, h2, e1, e2, J, ⟨by have := x.2.2.2.1; omega, ?_, x.2.2.2.2.2⟩, xX⟩
  rw [pot_eq (e 3 (by omega)) (e 5 (by omega)) (e 18 (by omega)) (e 19 (by omega))]
  have := x.2.2.2.2.1
  omega
/-- nothing is written: the answer is the same -/
theorem okw0 {h : mH} {T : Int → Int} {n nc : Int} {Ds : Int → Int → Int → Int → Int} {nh : Int} {Xs : Int → HX} (I : INV h T n nc Ds nh Xs) {kx km : Nat} {as : List mV} {v : Int} (e1 : Cl kx (vO 10 1 :: as) h = some (some (vI v), h)) (e2 : Cl km (vO 11 9 :: as) h = some (some (vI v), h)) : ∃ v h1 h2 W, Cl kx (vO 10 1 :: as) h = some (some (vI v), h1) ∧ Cl km (vO 11 9 :: as) h1 = some (some (vI v), h2) ∧ Fr W 50 900 h h2 ∧ (∀ b k, W b k → Wok b k) ∧ IV h2 ∧ h1.X = h.X := ⟨v, h, h, fun _ _ => False, e1, e2, (Fr.rf _ h).mono (fun _ _ w => w) (by decide) (by decide), fun _ _ w => w.elim, ⟨T, n, nc, Ds, nh, Xs, I⟩, rfl⟩
theorem aik.cx {h h1 : mH} {nc : Int} {Ds : Int → Int → Int → Int → Int} {i : Int} (I : aik h nc Ds i) (K : Kz h h1) (g : ∀ b, b = 5 ∨ (39 ≤ b ∧ b ≤ 45) → h1.M b i = h.M b i) (e3 : ∀ k, 0 ≤ k → k < nc → h1.M 3 k = h.M 3 k) : aik h1 nc Ds i := by
  obtain ⟨a, b0, b1, b2, b3, b4, b5, b6, F⟩ := I
  have f : ∀ k, 0 ≤ k → k ≤ 3 → h1.M (h.M 5 i) k = h.M (h.M 5 i) k := fun k k0 k1 => (K.1 _ k (F k k0 k1)).1
  unfold aik
  rw [g 5 (by omega), g 39 (by omega), g 40 (by omega), g 41 (by omega), g 42 (by omega), g 43 (by omega), g 44 (by omega), g 45 (by omega), f 0 (by omega) (by omega), f 1 (by omega) (by omega), f 2 (by omega) (by omega), f 3 (by omega) (by omega)]
  exact ⟨a.cg K e3, b0, b1, b2, b3, b4, b5, b6, fun k k0 k1 => (K.1 _ k (F k k0 k1)).2⟩
def Wkp (b k : Int) : Prop := (b = 1 ∧ (k = 13 ∨ k = 14)) ∨ (b = 9 ∧ (k = 64 ∨ k = 65))
theorem ok_keep : okc kX_keep kM_keep [] := okw fun h T n nc Ds nh Xs I => by
  obtain ⟨m0, m1, m2⟩ := I.na
  obtain ⟨v0, v1, v2, v3⟩ := I.ev
  have a : Cl kX_keep [vO 10 1] h = some (some (vI (wI (h.M 1 7 + h.M 1 12))), (h.set 1 13 (h.M 1 7)).set 1 14 (h.M 1 12)) := (E_X_keep ..).trans rfl
  have b : Cl kM_keep [vO 11 9] ((h.set 1 13 (h.M 1 7)).set 1 14 (h.M 1 12)) = some (some (vI (wI (h.M 9 49 + h.M 9 63))), (((h.set 1 13 (h.M 1 7)).set 1 14 (h.M 1 12)).set 9 64 (h.M 9 49)).set 9 65 (h.M 9 63)) := (E_M_keep ..).trans rfl
  have x : Fr Wkp 0 0 h ((((h.set 1 13 (h.M 1 7)).set 1 14 (h.M 1 12)).set 9 64 (h.M 9 49)).set 9 65 (h.M 9 63)) := ((((Ew.st (W := Wkp) h _ (Or.inl ⟨rfl, Or.inl rfl⟩)).tr (Ew.st _ _ (Or.inl ⟨rfl, Or.inr rfl⟩))).tr (Ew.st _ _ (Or.inr ⟨rfl, Or.inl rfl⟩))).tr (Ew.st _ _ (Or.inr ⟨rfl, Or.inr rfl⟩))).fr
  have hw : ∀ b k, Wkp b k → Wok b k := fun b k w => by unfold Wkp at w; unfold Wok; omega
  obtain ⟨L1, ic, ih, ig, K, e⟩ := I.wr x hw
  obtain ⟨L, it, _, _, ia, ip, ie, ik, ib, iw, _⟩ := I
  refine ⟨_, _, _, Wkp, a, by rw [b, m0, v0], x.mono (fun _ _ w => w) (by decide) (by decide), hw, ⟨T, n, nc, Ds, nh, Xs, L1, it.cg fun b k z => e b k ?_ ?_, ic, ih, ia.cg K fun b k z => e b k ?_ ?_, ip.cg K fun b k z => e b k ?_ ?_, ie.cg fun b k z => e b k ?_ ?_, ⟨m0, v0, m1, Int.le_refl _, v1, Int.le_refl _⟩, ib.cg K fun b k z => e b k ?_ ?_, iw.cg K fun b k z => e b k ?_ ?_, ig⟩, rfl⟩
  · unfold rT at z; omega
  · unfold rT at z; unfold Wkp; omega
  · unfold rA at z; omega
  · unfold rA at z; unfold Wkp; omega
  · unfold rP at z; omega
  · unfold rP at z; unfold Wkp; omega
  · unfold rE at z; omega
  · unfold rE at z; unfold Wkp; omega
  · unfold rB at z; omega
  · unfold rB at z; unfold Wkp; omega
  · unfold rW at z; omega
  · unfold rW at z; unfold Wkp; omega
def Wbk (b k : Int) : Prop := (b = 1 ∧ (k = 7 ∨ k = 12)) ∨ (b = 9 ∧ (k = 49 ∨ k = 63))
theorem ok_back : okc kX_back kM_back [] := okw fun h T n nc Ds nh Xs I => by
  obtain ⟨m0, m1, m2⟩ := I.na
  obtain ⟨v0, v1, v2, v3⟩ := I.ev
  obtain ⟨k0, k1, k2, k3, k4, k5⟩ := I.2.2.2.2.2.2.2.1
  have a : Cl kX_back [vO 10 1] h = some (some (vI (wI (h.M 1 13 + h.M 1 14))), (h.set 1 7 (h.M 1 13)).set 1 12 (h.M 1 14)) := (E_X_back ..).trans rfl
  have i1 : imin (h.M 9 49) (h.M 9 64) = h.M 1 13 := by unfold imin; split <;> omega
  have i2 : imin (h.M 9 63) (h.M 9 65) = h.M 1 14 := by unfold imin; split <;> omega
  have b : Cl kM_back [vO 11 9] ((h.set 1 7 (h.M 1 13)).set 1 12 (h.M 1 14)) = some (some (vI (wI (h.M 1 13 + h.M 1 14))), (((h.set 1 7 (h.M 1 13)).set 1 12 (h.M 1 14)).set 9 49 (h.M 1 13)).set 9 63 (h.M 1 14)) := by
    rw [E_M_back, D_min, Z_bI, Z_hl, D_min, Z_bI, Z_hl]
    show some (some (vI (wI (imin (h.M 9 49) (h.M 9 64) + imin (h.M 9 63) (h.M 9 65)))), (((h.set 1 7 (h.M 1 13)).set 1 12 (h.M 1 14)).set 9 49 (imin (h.M 9 49) (h.M 9 64))).set 9 63 (imin (h.M 9 63) (h.M 9 65))) = _
    rw [i1, i2]
  have x : Fr Wbk 0 0 h ((((h.set 1 7 (h.M 1 13)).set 1 12 (h.M 1 14)).set 9 49 (h.M 1 13)).set 9 63 (h.M 1 14)) := ((((Ew.st (W := Wbk) h _ (Or.inl ⟨rfl, Or.inl rfl⟩)).tr (Ew.st _ _ (Or.inl ⟨rfl, Or.inr rfl⟩))).tr (Ew.st _ _ (Or.inr ⟨rfl, Or.inl rfl⟩))).tr (Ew.st _ _ (Or.inr ⟨rfl, Or.inr rfl⟩))).fr
  have hw : ∀ b k, Wbk b k → Wok b k := fun b k w => by unfold Wbk at w; unfold Wok; omega
  obtain ⟨L1, ic, ih, ig, K, e⟩ := I.wr x hw
  obtain ⟨L, it, _, _, ia, ip, ie, ik, ib, iw, _⟩ := I
  refine ⟨_, _, _, Wbk, a, b, x.mono (fun _ _ w => w) (by decide) (by decide), hw, ⟨T, n, nc, Ds, nh, Xs, L1, it.cg fun b k z => e b k ?_ ?_, ic, ih, ⟨rfl, k2, Int.le_trans k3 m2, fun i h0 h1 => (ia.2.2.2.1 i h0 (Int.lt_of_lt_of_le h1 k3)).cx K (fun b z => e b i ?_ ?_) fun k h2 h3 => e 3 k ?_ ?_, fun i j h0 h1 h2 => ?_⟩, ip.cg K fun b k z => e b k ?_ ?_, ⟨rfl, k4, Int.le_trans k5 v2, fun i h0 h1 => ?_⟩, ⟨k0, k1, k2, Int.le_refl _, k4, Int.le_refl _⟩, ib.cg K fun b k z => e b k ?_ ?_, iw.cg K fun b k z => e b k ?_ ?_, ig⟩, rfl⟩
  · unfold rT at z; omega
  · unfold rT at z; unfold Wbk; omega
  · omega
  · unfold Wbk; omega
  · omega
  · unfold Wbk; omega
  · rw [e 39 i (by omega) (by unfold Wbk; omega), e 39 j (by omega) (by unfold Wbk; omega)]
    exact ia.2.2.2.2 i j h0 h1 (Int.lt_of_lt_of_le h2 k3)
  · unfold rP at z; omega
  · unfold rP at z; unfold Wbk; omega
  · rw [e 7 i (by omega) (by unfold Wbk; omega), e 8 i (by omega) (by unfold Wbk; omega), e 51 i (by omega) (by unfold Wbk; omega), e 52 i (by omega) (by unfold Wbk; omega)]
    exact v3 i h0 (Int.lt_of_lt_of_le h1 k5)
  · unfold rB at z; omega
  · unfold rB at z; unfold Wbk; omega
  · unfold rW at z; omega
  · unfold rW at z; unfold Wbk; omega
def Wen (b k : Int) : Prop := (b = 1 ∧ k = 1) ∨ (b = 9 ∧ k = 2)
theorem ok_end {m : Int} : okc kX_end kM_end [vI m] := okw fun h T n nc Ds nh Xs I => by
  have t1 := I.2.1.2.1
  have t2 := I.2.1.2.2.1
  by_cases q : m < 0
  · exact okw0 I (v := 0) (by rw [E_X_end, if_pos q, gd_t (by decide)]) (by rw [E_M_end, if_pos q, gd_t (by decide)])
  by_cases w : m ≤ n
  · have x : Fr Wen 0 0 h ((h.set 1 1 m).set 9 2 m) := ((Ew.st (W := Wen) h _ (Or.inl ⟨rfl, rfl⟩)).tr (Ew.st _ _ (Or.inr ⟨rfl, rfl⟩))).fr
    have hw : ∀ b k, Wen b k → Wok b k := fun b k w => by unfold Wen at w; unfold Wok; omega
    obtain ⟨L1, ic, ih, ig, K, e⟩ := I.wr x hw
    obtain ⟨L, it, _, _, ia, ip, ie, ik, ib, iw, _⟩ := I
    obtain ⟨p0, p1, p2, p3⟩ := it.1
    refine ⟨1, h.set 1 1 m, (h.set 1 1 m).set 9 2 m, Wen, by rw [E_X_end, if_neg q, t2, if_pos w, Z_hl, gd_t (by decide)], by rw [E_M_end, if_neg q, if_pos (show m ≤ (h.set 1 1 m).M 9 2 from t1.symm ▸ w), Z_hl, gd_t (by decide)], x.mono (fun _ _ w => w) (by decide) (by decide), hw, ⟨fun i => if i < m then T i else -1, m, nc, Ds, nh, Xs, L1, ⟨⟨by omega, by omega, fun i h0 => if_neg (by omega), fun i h0 h1 => ?_⟩, rfl, rfl, fun i h0 h1 => ?_⟩, ic, ih, ia.cg K fun b k z => e b k ?_ ?_, ip.cg K fun b k z => e b k ?_ ?_, ie.cg fun b k z => e b k ?_ ?_, ik, ib.cg K fun b k z => e b k ?_ ?_, iw.cg K fun b k z => e b k ?_ ?_, ig⟩, rfl⟩
    · show 1 ≤ (if i < m then T i else -1) ∧ (if i < m then T i else -1) ≤ 255
      rw [if_pos h1]; exact p3 i h0 (by omega)
    · show _ = (if i < m then T i else -1) ∧ _ = (if i < m then T i else -1)
      rw [if_pos h1, e 10 i (by omega) (by unfold Wen; omega), e 2 i (by omega) (by unfold Wen; omega)]
      exact it.2.2.2 i h0 (by omega)
    · unfold rA at z; omega
    · unfold rA at z; unfold Wen; omega
    · unfold rP at z; omega
    · unfold rP at z; unfold Wen; omega
    · unfold rE at z; omega
    · unfold rE at z; unfold Wen; omega
    · unfold rB at z; omega
    · unfold rB at z; unfold Wen; omega
    · unfold rW at z; omega
    · unfold rW at z; unfold Wen; omega
  · exact okw0 I (v := 0) (by rw [E_X_end, if_neg q, t2, if_neg w, gd_t (by decide)]) (by rw [E_M_end, if_neg q, t1, if_neg w, gd_t (by decide)])
