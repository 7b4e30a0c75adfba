/-! THE PURE PART, what stands between calls -/
abbrev HX : Type := HD × (Int → Int) × (Int → Int) × (Int → Int) × (Int → Int) × (Int → Int) × (Int → Int)
def hH (X : HX) : HD := X.1
def hLY (X : HX) : Int → Int := X.2.1
def hNY (X : HX) : Int → Int := X.2.2.1
def hEY (X : HX) : Int → Int := X.2.2.2.1
def hLM (X : HX) : Int → Int := X.2.2.2.2.1
def hNM (X : HX) : Int → Int := X.2.2.2.2.2.1
def hEM (X : HX) : Int → Int := X.2.2.2.2.2.2
def hxv (X : HX) : Prop := hdv (hH X) ∧ rsp 10000 (2 * hH X 3 0) (stO (hH X)) (stC (hH X)) (srcY (hH X)) (hLY X) (hNY X) (hEY X) ∧ rsp 13 (hH X 6 0) (prO (hH X)) (prC (hH X)) (srcM (hH X)) (hLM X) (hNM X) (hEM X)
/-- a head of the class, with its rows -/
def hokk (h : mH) (q : Int) (X : HX) : Prop := chl h q ∧ chd h q (hH X) ∧ rwk h (h.M q 9) 10000 (hLY X) (hNY X) (hEY X) ∧ rwk h (h.M q 10) 13 (hLM X) (hNM X) (hEM X)
def hrg (h : mH) (q b : Int) : Prop := (q ≤ b ∧ b ≤ q + 11) ∨ (h.M q 9 ≤ b ∧ b ≤ h.M q 9 + 3) ∨ (h.M q 10 ≤ b ∧ b ≤ h.M q 10 + 3)
theorem hokk.cg {h h1 : mH} {q : Int} {X : HX} (O : hokk h q X) (e : ∀ b k, hrg h q b → ¬ (b = q ∧ k = 8) → h1.M b k = h.M b k) (m : ∀ b, hrg h q b → h1.N b = h.N b) (d : q < h.M q 9 ∧ q < h.M q 10) : hokk h1 q X := by
  obtain ⟨C, D, Y, M⟩ := O
  have r : ∀ b, q ≤ b → b ≤ q + 11 → hrg h q b := fun b b0 b1 => Or.inl ⟨b0, b1⟩
  have e9 : h1.M q 9 = h.M q 9 := e q 9 (r q (by omega) (by omega)) (by omega)
  have e10 : h1.M q 10 = h.M q 10 := e q 10 (r q (by omega) (by omega)) (by omega)
  refine ⟨C.cg (fun b k z => e b k (r b (by unfold plc at z; omega) (by unfold plc at z; omega)) (by unfold plc at z; omega)) (fun b b0 b1 => m b (r b (by omega) b1)), D.cg fun b k z => e b k (r b (by omega) (by omega)) (by omega), ?_, ?_⟩
  · rw [e9]
    exact Y.cg (fun b k b0 b1 => e b k (Or.inr (Or.inl ⟨b0, b1⟩)) (by omega)) (fun b b0 b1 => m b (Or.inr (Or.inl ⟨b0, b1⟩)))
  · rw [e10]
    exact M.cg (fun b k b0 b1 => e b k (Or.inr (Or.inr ⟨b0, b1⟩)) (by omega)) (fun b b0 b1 => m b (Or.inr (Or.inr ⟨b0, b1⟩)))
/-- a head of the reference -/
def mhok (h : mH) (c : Int) (X : HX) : Prop := mhp h c (hH X) ∧ (∀ u, 1 ≤ u → u ≤ 9999 → h.M 33 (10001 * c + u) = gL (hLY X u)) ∧ ∀ m, 1 ≤ m → m ≤ 12 → h.M 34 (13 * c + m) = gL (hLM X m)
def mhr (c b k : Int) : Prop := hreg c b k ∨ (b = 33 ∧ 10001 * c ≤ k ∧ k < 10001 * c + 10001) ∨ (b = 34 ∧ 13 * c ≤ k ∧ k < 13 * c + 13)
theorem mhok.cg {h h1 : mH} {c : Int} {X : HX} (O : mhok h c X) (V : hdv (hH X)) (e : ∀ b k, mhr c b k → h1.M b k = h.M b k) : mhok h1 c X := ⟨O.1.cg V fun b k z => e b k (Or.inl z), fun u u0 u1 => (e 33 _ (Or.inr (Or.inl ⟨rfl, by omega, by omega⟩))).trans (O.2.1 u u0 u1), fun m m0 m1 => (e 34 _ (Or.inr (Or.inr ⟨rfl, by omega, by omega⟩))).trans (O.2.2 m m0 m1)⟩
theorem mreg_dj {c c' b k : Int} (h : c < c') (z : mreg c b k) : ¬ mreg c' b k := fun w => by
  unfold mreg at z w
  omega
theorem mhr_dj {c c' b k : Int} (h : c < c') (z : mhr c b k) : ¬ mhr c' b k := fun w => by
  unfold mhr hreg at z w
  omega
theorem mreg_b {c b k : Int} (z : mreg c b k) : 11 ≤ b ∧ b ≤ 19 := by
  unfold mreg at z
  omega
theorem mhr_b {c b k : Int} (z : mhr c b k) : 20 ≤ b ∧ b ≤ 34 ∧ b ≠ 32 := by
  unfold mhr hreg at z
  omega
/-- a cell that is never written again -/
def Fz (h : mH) (b k : Int) : Prop := 56 < b ∧ b ≤ h.cnt ∧ ¬ (h.M 1 18 ≠ 0 ∧ h.M 1 18 ≤ b ∧ b ≤ h.M 1 18 + 2) ∧ ¬ (h.M 1 19 ≠ 0 ∧ h.M 1 19 ≤ b ∧ b ≤ h.M 1 19 + 3) ∧ ¬ (k = 8 ∧ ∃ i, 0 ≤ i ∧ i < h.M 1 5 ∧ h.M 4 i = b)
/-- what was made stays -/
def Kz (h h1 : mH) : Prop := (∀ b k, Fz h b k → h1.M b k = h.M b k ∧ Fz h1 b k) ∧ (∀ b : Int, b ≤ h.cnt → h1.N b = h.N b) ∧ h.cnt ≤ h1.cnt
def iT (h : mH) (T : Int → Int) (n : Int) : Prop := tpo T n ∧ h.M 9 2 = n ∧ h.M 1 1 = n ∧ ∀ i, 0 ≤ i → i < n → h.M 10 i = T i ∧ h.M 2 i = T i
def rT (n b k : Int) : Prop := (b = 9 ∧ k = 2) ∨ (b = 1 ∧ k = 1) ∨ ((b = 2 ∨ b = 10) ∧ 0 ≤ k ∧ k < n)
theorem iT.cg {h h1 : mH} {T : Int → Int} {n : Int} (I : iT h T n) (e : ∀ b k, rT n b k → h1.M b k = h.M b k) : iT h1 T n := ⟨I.1, (e 9 2 (Or.inl ⟨rfl, rfl⟩)).trans I.2.1, (e 1 1 (Or.inr (Or.inl ⟨rfl, rfl⟩))).trans I.2.2.1, fun i i0 i1 => ⟨(e 10 i (Or.inr (Or.inr ⟨Or.inr rfl, i0, i1⟩))).trans (I.2.2.2 i i0 i1).1, (e 2 i (Or.inr (Or.inr ⟨Or.inl rfl, i0, i1⟩))).trans (I.2.2.2 i i0 i1).2⟩⟩
def cck (h : mH) (a : Int) (D : Int → Int → Int → Int) : Prop := ∃ c0 c1, aok h c0 c1 a D ∧ 56 ≤ c0 ∧ ∀ b k, c0 < b → b ≤ c1 → Fz h b k
theorem cck.cg {h h1 : mH} {a : Int} {D : Int → Int → Int → Int} (I : cck h a D) (K : Kz h h1) : cck h1 a D := by
  obtain ⟨c0, c1, A, c, F⟩ := I
  exact ⟨c0, c1, A.cg (fun b k b0 b1 => (K.1 b k (F b k b0 b1)).1) (fun b b0 b1 => K.2.1 b (F b 0 b0 b1).2.1), c, fun b k b0 b1 => (K.1 b k (F b k b0 b1)).2⟩
theorem cck.a0 {h : mH} {a : Int} {D : Int → Int → Int → Int} (I : cck h a D) : a ≠ 0 := by
  obtain ⟨c0, c1, A, c, F⟩ := I
  exact A.a0
def iC (h : mH) (nc : Int) (Ds : Int → Int → Int → Int → Int) : Prop := h.M 9 14 = nc ∧ h.M 1 3 = nc ∧ 0 ≤ nc ∧ nc ≤ 6 ∧ ∀ c, 0 ≤ c → c < nc → mok h c (Ds c) ∧ cck h (h.M 3 c) (Ds c)
def rC (nc b k : Int) : Prop := (b = 9 ∧ k = 14) ∨ (b = 1 ∧ k = 3) ∨ (b = 3 ∧ 0 ≤ k ∧ k < nc) ∨ ∃ c, 0 ≤ c ∧ c < nc ∧ mreg c b k
theorem iC.cg {h h1 : mH} {nc : Int} {Ds : Int → Int → Int → Int → Int} (I : iC h nc Ds) (K : Kz h h1) (e : ∀ b k, rC nc b k → h1.M b k = h.M b k) : iC h1 nc Ds := ⟨(e 9 14 (Or.inl ⟨rfl, rfl⟩)).trans I.1, (e 1 3 (Or.inr (Or.inl ⟨rfl, rfl⟩))).trans I.2.1, I.2.2.1, I.2.2.2.1, fun c c0 c1 => ⟨(I.2.2.2.2 c c0 c1).1.cg fun b k z => e b k (Or.inr (Or.inr (Or.inr ⟨c, c0, c1, z⟩))), by
  rw [e 3 c (Or.inr (Or.inr (Or.inl ⟨rfl, c0, c1⟩)))]
  exact (I.2.2.2.2 c c0 c1).2.cg K⟩⟩
def hik (h : mH) (c q : Int) (X : HX) : Prop := hxv X ∧ mhok h c X ∧ hokk h q X ∧ (q < h.M q 9 ∧ q < h.M q 10) ∧ (∀ b k, hrg h q b → ¬ (b = q ∧ k = 8) → Fz h b k) ∧ h.M q 8 = h.M 32 c ∧ 1 ≤ h.M 32 c ∧ h.M 32 c ≤ 9
theorem hrg_cg {h h1 : mH} {q b : Int} (e9 : h1.M q 9 = h.M q 9) (e10 : h1.M q 10 = h.M q 10) (z : hrg h1 q b) : hrg h q b := by
  unfold hrg at z ⊢
  rw [e9, e10] at z
  exact z
theorem hik.cg {h h1 : mH} {c q : Int} {X : HX} (I : hik h c q X) (K : Kz h h1) (e : ∀ b k, mhr c b k → h1.M b k = h.M b k) (w8 : h1.M q 8 = h1.M 32 c) (w1 : 1 ≤ h1.M 32 c ∧ h1.M 32 c ≤ 9) : hik h1 c q X := by
  obtain ⟨V, M, O, d, F, _, _⟩ := I
  have f : ∀ b, hrg h q b → b ≤ h.cnt := fun b z => (F b 0 z (by omega)).2.1
  have e9 : h1.M q 9 = h.M q 9 := (K.1 q 9 (F q 9 (Or.inl ⟨by omega, by omega⟩) (by omega))).1
  have e10 : h1.M q 10 = h.M q 10 := (K.1 q 10 (F q 10 (Or.inl ⟨by omega, by omega⟩) (by omega))).1
  refine ⟨V, M.cg V.1 e, O.cg (fun b k z n => (K.1 b k (F b k z n)).1) (fun b z => K.2.1 b (f b z)) d, by rw [e9, e10]; exact d, fun b k z n => (K.1 b k (F b k (hrg_cg e9 e10 z) n)).2, w8, w1⟩
def iH (h : mH) (nh : Int) (Xs : Int → HX) : Prop := h.M 9 28 = nh ∧ h.M 1 5 = nh ∧ 0 ≤ nh ∧ nh ≤ 8 ∧ (∀ c, 0 ≤ c → c < nh → hik h c (h.M 4 c) (Xs c)) ∧ ∀ i j, 0 ≤ i → i < j → j < nh → h.M 4 i < h.M 4 j
def rH (nh b k : Int) : Prop := (b = 9 ∧ k = 28) ∨ (b = 1 ∧ k = 5) ∨ ((b = 4 ∨ b = 32) ∧ 0 ≤ k ∧ k < nh) ∨ ∃ c, 0 ≤ c ∧ c < nh ∧ mhr c b k
theorem iH.cg {h h1 : mH} {nh : Int} {Xs : Int → HX} (I : iH h nh Xs) (K : Kz h h1) (e : ∀ b k, rH nh b k → h1.M b k = h.M b k) (w : ∀ c, 0 ≤ c → c < nh → h1.M (h.M 4 c) 8 = h.M (h.M 4 c) 8) : iH h1 nh Xs := by
  obtain ⟨i1, i2, i3, i4, i5, i6⟩ := I
  have e4 : ∀ c, 0 ≤ c → c < nh → h1.M 4 c = h.M 4 c := fun c c0 c1 => e 4 c (Or.inr (Or.inr (Or.inl ⟨Or.inl rfl, c0, c1⟩)))
  refine ⟨(e 9 28 (Or.inl ⟨rfl, rfl⟩)).trans i1, (e 1 5 (Or.inr (Or.inl ⟨rfl, rfl⟩))).trans i2, i3, i4, fun c c0 c1 => ?_, fun i j h0 h1 h2 => ?_⟩
  · have H := i5 c c0 c1
    have e32 : h1.M 32 c = h.M 32 c := e 32 c (Or.inr (Or.inr (Or.inl ⟨Or.inr rfl, c0, c1⟩)))
    rw [e4 c c0 c1]
    exact H.cg K (fun b k z => e b k (Or.inr (Or.inr (Or.inr ⟨c, c0, c1, z⟩)))) (by rw [w c c0 c1, e32]; exact H.2.2.2.2.2.1) (by rw [e32]; exact H.2.2.2.2.2.2)
  · rw [e4 i h0 (by omega), e4 j (by omega) h2]
    exact i6 i j h0 h1 h2
/-- a date by a calendar, and its day: an object of the class -/
def spt (h : mH) (nc : Int) (Ds : Int → Int → Int → Int → Int) (s c y m d : Int) : Prop := isd nc Ds c y m d ∧ h.M s 0 = c ∧ h.M s 1 = h.M 3 c ∧ h.M s 2 = y ∧ h.M s 3 = m ∧ h.M s 4 = d ∧ h.M s 5 = Ds c y m d ∧ s ≠ 0 ∧ ∀ k, 0 ≤ k → k ≤ 5 → Fz h s k
theorem spt.cg {h h1 : mH} {nc : Int} {Ds : Int → Int → Int → Int → Int} {s c y m d : Int} (S : spt h nc Ds s c y m d) (K : Kz h h1) (e : ∀ k, 0 ≤ k → k < nc → h1.M 3 k = h.M 3 k) : spt h1 nc Ds s c y m d := by
  obtain ⟨a, b0, b1, b2, b3, b4, b5, b6, F⟩ := S
  have f : ∀ k, 0 ≤ k → k ≤ 5 → h1.M s k = h.M s k := fun k k0 k1 => (K.1 s k (F k k0 k1)).1
  refine ⟨a, ?_, ?_, ?_, ?_, ?_, ?_, b6, fun k k0 k1 => (K.1 s k (F k k0 k1)).2⟩
  · rw [f 0 (by omega) (by omega)]; exact b0
  · rw [f 1 (by omega) (by omega), e c a.1.1 a.1.2]; exact b1
  · rw [f 2 (by omega) (by omega)]; exact b2
  · rw [f 3 (by omega) (by omega)]; exact b3
  · rw [f 4 (by omega) (by omega)]; exact b4
  · rw [f 5 (by omega) (by omega)]; exact b5
def aik (h : mH) (nc : Int) (Ds : Int → Int → Int → Int → Int) (i : Int) : Prop := spt h nc Ds (h.M (h.M 5 i) 1) (h.M 40 i) (h.M 41 i) (h.M 42 i) (h.M 43 i) ∧ h.M (h.M 5 i) 0 = h.M 39 i ∧ h.M (h.M 5 i) 2 = h.M 44 i ∧ h.M (h.M 5 i) 3 = h.M 45 i ∧ (0 ≤ h.M 39 i ∧ h.M 39 i ≤ 999) ∧ (0 ≤ h.M 44 i ∧ h.M 44 i ≤ 6) ∧ (0 ≤ h.M 45 i ∧ h.M 45 i ≤ 9999) ∧ h.M 5 i ≠ 0 ∧ ∀ k, 0 ≤ k → k ≤ 3 → Fz h (h.M 5 i) k
def iA (h : mH) (nc : Int) (Ds : Int → Int → Int → Int → Int) : Prop := h.M 9 49 = h.M 1 7 ∧ 0 ≤ h.M 1 7 ∧ h.M 1 7 ≤ 60 ∧ (∀ i, 0 ≤ i → i < h.M 1 7 → aik h nc Ds i) ∧ ∀ i j, 0 ≤ i → i ≤ j → j < h.M 1 7 → h.M 39 i ≤ h.M 39 j
def rA (na nc b k : Int) : Prop := (b = 9 ∧ k = 49) ∨ (b = 1 ∧ k = 7) ∨ (b = 3 ∧ 0 ≤ k ∧ k < nc) ∨ ((b = 5 ∨ (39 ≤ b ∧ b ≤ 45)) ∧ 0 ≤ k ∧ k < na)
theorem aik.cg {h h1 : mH} {nc : Int} {Ds : Int → Int → Int → Int → Int} {i na : Int} (I : aik h nc Ds i) (K : Kz h h1) (i0 : 0 ≤ i) (i1 : i < na) (e : ∀ b k, rA na nc b k → h1.M b k = h.M b k) : aik h1 nc Ds i := by
  obtain ⟨a, b0, b1, b2, b3, b4, b5, b6, F⟩ := I
  have g : ∀ b, b = 5 ∨ (39 ≤ b ∧ b ≤ 45) → h1.M b i = h.M b i := fun b z => e b i (Or.inr (Or.inr (Or.inr ⟨z, i0, i1⟩)))
  have f : ∀ k, 0 ≤ k → k ≤ 3 → h1.M (h.M 5 i) k = h.M (h.M 5 i) k := fun k k0 k1 => (K.1 _ k (F k k0 k1)).1
  unfold aik
  rw [g 5 (by omega), g 39 (by omega), g 40 (by omega), g 41 (by omega), g 42 (by omega), g 43 (by omega), g 44 (by omega), g 45 (by omega), f 0 (by omega) (by omega), f 1 (by omega) (by omega), f 2 (by omega) (by omega), f 3 (by omega) (by omega)]
  exact ⟨a.cg K fun k k0 k1 => e 3 k (Or.inr (Or.inr (Or.inl ⟨rfl, k0, k1⟩))), b0, b1, b2, b3, b4, b5, b6, fun k k0 k1 => (K.1 _ k (F k k0 k1)).2⟩
theorem iA.cg {h h1 : mH} {nc : Int} {Ds : Int → Int → Int → Int → Int} (I : iA h nc Ds) (K : Kz h h1) (e : ∀ b k, rA (h.M 1 7) nc b k → h1.M b k = h.M b k) : iA h1 nc Ds := by
  obtain ⟨i1, i2, i3, i4, i5⟩ := I
  have e7 : h1.M 1 7 = h.M 1 7 := e 1 7 (Or.inr (Or.inl ⟨rfl, rfl⟩))
  unfold iA
  rw [e7, e 9 49 (Or.inl ⟨rfl, rfl⟩)]
  refine ⟨i1, i2, i3, fun i i0 i1 => (i4 i i0 i1).cg K i0 i1 e, fun i j i0 ij j1 => ?_⟩
  have g : ∀ k, 0 ≤ k → k < h.M 1 7 → h1.M 39 k = h.M 39 k := fun k k0 k1 => e 39 k (Or.inr (Or.inr (Or.inr ⟨Or.inr ⟨by omega, by omega⟩, k0, k1⟩)))
  rw [g i i0 (by omega), g j (by omega) j1]
  exact i5 i j i0 ij j1
def iP (h : mH) (nc : Int) (Ds : Int → Int → Int → Int → Int) : Prop := h.M 9 54 = h.M 1 9 ∧ 0 ≤ h.M 1 9 ∧ h.M 1 9 ≤ 8 ∧ ∀ i, 0 ≤ i → i < h.M 1 9 → spt h nc Ds (h.M 6 i) (h.M 46 i) (h.M 47 i) (h.M 48 i) (h.M 49 i)
def rP (np nc b k : Int) : Prop := (b = 9 ∧ k = 54) ∨ (b = 1 ∧ k = 9) ∨ (b = 3 ∧ 0 ≤ k ∧ k < nc) ∨ ((b = 6 ∨ (46 ≤ b ∧ b ≤ 49)) ∧ 0 ≤ k ∧ k < np)
theorem iP.cg {h h1 : mH} {nc : Int} {Ds : Int → Int → Int → Int → Int} (I : iP h nc Ds) (K : Kz h h1) (e : ∀ b k, rP (h.M 1 9) nc b k → h1.M b k = h.M b k) : iP h1 nc Ds := by
  obtain ⟨i1, i2, i3, i4⟩ := I
  have e9 : h1.M 1 9 = h.M 1 9 := e 1 9 (Or.inr (Or.inl ⟨rfl, rfl⟩))
  unfold iP
  rw [e9, e 9 54 (Or.inl ⟨rfl, rfl⟩)]
  refine ⟨i1, i2, i3, fun i i0 i1 => ?_⟩
  have g : ∀ b, b = 6 ∨ (46 ≤ b ∧ b ≤ 49) → h1.M b i = h.M b i := fun b z => e b i (Or.inr (Or.inr (Or.inr ⟨z, i0, i1⟩)))
  rw [g 6 (by omega), g 46 (by omega), g 47 (by omega), g 48 (by omega), g 49 (by omega)]
  exact (i4 i i0 i1).cg K fun k k0 k1 => e 3 k (Or.inr (Or.inr (Or.inl ⟨rfl, k0, k1⟩)))
def iE (h : mH) : Prop := h.M 9 63 = h.M 1 12 ∧ 0 ≤ h.M 1 12 ∧ h.M 1 12 ≤ 30 ∧ ∀ i, 0 ≤ i → i < h.M 1 12 → h.M 7 i = h.M 51 i ∧ h.M 8 i = h.M 52 i ∧ (0 ≤ h.M 52 i ∧ h.M 52 i ≤ 3) ∧ 0 ≤ h.M 51 i ∧ h.M 51 i ≤ 20000000
def rE (ne b k : Int) : Prop := (b = 9 ∧ k = 63) ∨ (b = 1 ∧ k = 12) ∨ ((b = 7 ∨ b = 8 ∨ b = 51 ∨ b = 52) ∧ 0 ≤ k ∧ k < ne)
theorem iE.cg {h h1 : mH} (I : iE h) (e : ∀ b k, rE (h.M 1 12) b k → h1.M b k = h.M b k) : iE h1 := by
  obtain ⟨i1, i2, i3, i4⟩ := I
  have e12 : h1.M 1 12 = h.M 1 12 := e 1 12 (Or.inr (Or.inl ⟨rfl, rfl⟩))
  unfold iE
  rw [e12, e 9 63 (Or.inl ⟨rfl, rfl⟩)]
  refine ⟨i1, i2, i3, fun i i0 i1 => ?_⟩
  have g : ∀ b, b = 7 ∨ b = 8 ∨ b = 51 ∨ b = 52 → h1.M b i = h.M b i := fun b z => e b i (Or.inr (Or.inr ⟨z, i0, i1⟩))
  rw [g 7 (by omega), g 8 (by omega), g 51 (by omega), g 52 (by omega)]
  exact i4 i i0 i1
/-- what was kept -/
def iK (h : mH) : Prop := h.M 9 64 = h.M 1 13 ∧ h.M 9 65 = h.M 1 14 ∧ 0 ≤ h.M 1 13 ∧ h.M 1 13 ≤ h.M 1 7 ∧ 0 ≤ h.M 1 14 ∧ h.M 1 14 ≤ h.M 1 12
def iB (h : mH) (nc : Int) (Ds : Int → Int → Int → Int → Int) : Prop := (h.M 1 17 = 0 ∧ h.M 9 56 = -1) ∨ (spt h nc Ds (h.M 1 17) (h.M 9 57) (h.M 9 58) (h.M 9 59) (h.M 9 60) ∧ h.M 9 56 = Ds (h.M 9 57) (h.M 9 58) (h.M 9 59) (h.M 9 60))
def rB (nc b k : Int) : Prop := (b = 1 ∧ k = 17) ∨ (b = 9 ∧ 56 ≤ k ∧ k ≤ 60) ∨ (b = 3 ∧ 0 ≤ k ∧ k < nc)
theorem iB.cg {h h1 : mH} {nc : Int} {Ds : Int → Int → Int → Int → Int} (I : iB h nc Ds) (K : Kz h h1) (e : ∀ b k, rB nc b k → h1.M b k = h.M b k) : iB h1 nc Ds := by
  have g : ∀ k, 56 ≤ k → k ≤ 60 → h1.M 9 k = h.M 9 k := fun k k0 k1 => e 9 k (Or.inr (Or.inl ⟨rfl, k0, k1⟩))
  unfold iB
  rw [e 1 17 (Or.inl ⟨rfl, rfl⟩), g 56 (by omega) (by omega), g 57 (by omega) (by omega), g 58 (by omega) (by omega), g 59 (by omega) (by omega), g 60 (by omega) (by omega)]
  rcases I with I | ⟨I, J⟩
  · exact Or.inl I
  · exact Or.inr ⟨I.cg K fun k k0 k1 => e 3 k (Or.inr (Or.inr ⟨rfl, k0, k1⟩)), J⟩
/-- the row of things -/
def thg (t y m d : Int) : Prop := (dtl y m d ∧ t = key y m d) ∨ (¬ dtl y m d ∧ t = 0)
def iW (h : mH) : Prop := h.M 9 69 = h.M 1 16 ∧ 0 ≤ h.M 1 16 ∧ h.M 1 16 ≤ 80 ∧ ((h.M 1 15 = 0 ∧ h.M 1 16 = 0) ∨ (h.M 1 15 ≠ 0 ∧ h.N (h.M 1 15) = 80 ∧ (∀ k, 0 ≤ k → k < 80 → Fz h (h.M 1 15) k) ∧ ∀ i, 0 ≤ i → i < h.M 1 16 → thg (h.M (h.M 1 15) i) (h.M 53 i) (h.M 54 i) (h.M 55 i)))
def rW (nt b k : Int) : Prop := (b = 9 ∧ k = 69) ∨ (b = 1 ∧ (k = 15 ∨ k = 16)) ∨ ((b = 53 ∨ b = 54 ∨ b = 55) ∧ 0 ≤ k ∧ k < nt)
theorem iW.cg {h h1 : mH} (I : iW h) (K : Kz h h1) (e : ∀ b k, rW (h.M 1 16) b k → h1.M b k = h.M b k) : iW h1 := by
  obtain ⟨i1, i2, i3, i4⟩ := I
  have e16 : h1.M 1 16 = h.M 1 16 := e 1 16 (Or.inr (Or.inl ⟨rfl, Or.inr rfl⟩))
  unfold iW
  rw [e16, e 9 69 (Or.inl ⟨rfl, rfl⟩), e 1 15 (Or.inr (Or.inl ⟨rfl, Or.inl rfl⟩))]
  refine ⟨i1, i2, i3, ?_⟩
  rcases i4 with i4 | ⟨a, b, F, c⟩
  · exact Or.inl i4
  · refine Or.inr ⟨a, ?_, fun k k0 k1 => (K.1 _ k (F k k0 k1)).2, fun i i0 i1 => ?_⟩
    · rw [K.2.1 _ (F 0 (by omega) (by omega)).2.1]; exact b
    · have g : ∀ b, b = 53 ∨ b = 54 ∨ b = 55 → h1.M b i = h.M b i := fun b z => e b i (Or.inr (Or.inr ⟨z, i0, i1⟩))
      rw [g 53 (by omega), g 54 (by omega), g 55 (by omega), (K.1 _ i (F i i0 (by omega))).1]
      exact c i i0 i1
/-- the heap and the trial rows; no year waits -/
def iG (h : mH) : Prop := (h.M 1 18 = 0 ∨ (hph h (h.M 1 18) ∧ h.M 1 18 + 2 ≤ h.cnt)) ∧ (h.M 1 19 = 0 ∨ (rwo h (h.M 1 19) 10000 ∧ h.M 1 19 + 3 ≤ h.cnt ∧ h.M 1 18 ≠ 0 ∧ h.M 1 18 + 2 < h.M 1 19)) ∧ (h.M 1 18 = 0 → h.M 1 5 = 0) ∧ wz h
def INV (h : mH) (T : Int → Int) (n nc : Int) (Ds : Int → Int → Int → Int → Int) (nh : Int) (Xs : Int → HX) : Prop := lay h ∧ iT h T n ∧ iC h nc Ds ∧ iH h nh Xs ∧ iA h nc Ds ∧ iP h nc Ds ∧ iE h ∧ iK h ∧ iB h nc Ds ∧ iW h ∧ iG h
/-- what calls may write that nobody reads across calls -/
def Scr (nc nh : Int) : Int → Int → Prop := fun b k => (b = 9 ∧ (k = 0 ∨ k = 3 ∨ k = 4 ∨ k = 29 ∨ k = 34 ∨ k = 35 ∨ k = 38 ∨ k = 39 ∨ k = 40 ∨ k = 41 ∨ k = 70)) ∨ b = 35 ∨ b = 37 ∨ b = 38 ∨ b = 50 ∨ b = 56 ∨ (∃ c, nc ≤ c ∧ mreg c b k) ∨ ∃ c, nh ≤ c ∧ mhr c b k
theorem scr_b {nc nh b k : Int} (w : Scr nc nh b k) : (b = 9 ∧ (k = 0 ∨ k = 3 ∨ k = 4 ∨ k = 29 ∨ k = 34 ∨ k = 35 ∨ k = 38 ∨ k = 39 ∨ k = 40 ∨ k = 41 ∨ k = 70)) ∨ (11 ≤ b ∧ b ≤ 35 ∧ b ≠ 32) ∨ b = 37 ∨ b = 38 ∨ b = 50 ∨ b = 56 := by
  rcases w with w | w | w | w | w | w | ⟨c, _, w⟩ | ⟨c, _, w⟩
  · exact Or.inl w
  · omega
  · omega
  · omega
  · omega
  · omega
  · have := mreg_b w; omega
  · have := mhr_b w; omega
theorem scr_c {nc nh c b k : Int} (z : mreg c b k) (h : c < nc) : ¬ Scr nc nh b k := fun w => by
  have zb := mreg_b z
  rcases w with w | w | w | w | w | w | ⟨c', h', w⟩ | ⟨c', h', w⟩
  · omega
  · omega
  · omega
  · omega
  · omega
  · omega
  · exact mreg_dj (by omega) z w
  · have := mhr_b w; omega
theorem scr_h {nc nh c b k : Int} (z : mhr c b k) (h : c < nh) : ¬ Scr nc nh b k := fun w => by
  have zb := mhr_b z
  rcases w with w | w | w | w | w | w | ⟨c', h', w⟩ | ⟨c', h', w⟩
  · omega
  · omega
  · omega
  · omega
  · omega
  · omega
  · have := mreg_b w; omega
  · exact mhr_dj (by omega) z w
theorem Fb.kz {h h1 : mH} {W : Int → Int → Prop} (x : Fb h.cnt W h h1) (L : lay h) (hw : ∀ b k, W b k → b ≤ 56 ∧ ¬ (b = 1 ∧ (k = 18 ∨ k = 19 ∨ k = 5)) ∧ b ≠ 4) : Kz h h1 := by
  have c := L.2.2
  refine ⟨fun b k F => ?_, x.2.1, x.2.2.1⟩
  have e : ∀ b k : Int, b ≤ h.cnt → ¬ W b k → h1.M b k = h.M b k := x.1
  refine ⟨e b k F.2.1 fun w => by have := (hw b k w).1; have := F.1; omega, ?_⟩
  obtain ⟨f1, f2, f3, f4, f5⟩ := F
  unfold Fz
  rw [e 1 18 (by omega) (fun w => (hw _ _ w).2.1 ⟨rfl, by omega⟩), e 1 19 (by omega) (fun w => (hw _ _ w).2.1 ⟨rfl, by omega⟩), e 1 5 (by omega) (fun w => (hw _ _ w).2.1 ⟨rfl, by omega⟩)]
  refine ⟨f1, by have := x.2.2.1; omega, f3, f4, fun ⟨k8, i, i0, i1, i2⟩ => f5 ⟨k8, i, i0, i1, ?_⟩⟩
  rw [← i2]
  exact (e 4 i (by omega) (fun w => (hw _ _ w).2.2 rfl)).symm
theorem INV.kp {h h1 : mH} {T : Int → Int} {n nc : Int} {Ds : Int → Int → Int → Int → Int} {nh : Int} {Xs : Int → HX} (I : INV h T n nc Ds nh Xs) (x : Fb h.cnt (Scr nc nh) h h1) : INV h1 T n nc Ds nh Xs := by
  obtain ⟨L, it, ic, ih, ia, ip, ie, ik, ib, iw, ig⟩ := I
  have cc := L.2.2
  have K : Kz h h1 := x.kz L fun b k w => by have := scr_b w; omega
  have e : ∀ b k, b ≤ 56 → ¬ ((b = 9 ∧ (k = 0 ∨ k = 3 ∨ k = 4 ∨ k = 29 ∨ k = 34 ∨ k = 35 ∨ k = 38 ∨ k = 39 ∨ k = 40 ∨ k = 41 ∨ k = 70)) ∨ (11 ≤ b ∧ b ≤ 35 ∧ b ≠ 32) ∨ b = 37 ∨ b = 38 ∨ b = 50 ∨ b = 56) → h1.M b k = h.M b k := fun b k hb n => x.1 b k (by omega) fun w => n (scr_b w)
  have hi : ∀ b k : Int, 56 < b → b ≤ h.cnt → h1.M b k = h.M b k := fun b k b0 b1 => x.1 b k b1 fun w => by have := scr_b w; omega
  have L1 : lay h1 := ⟨fun b k q => (e b k (by have := layA_le q; omega) (fun w => by
    have := layA_le q
    rcases w with ⟨rfl, w⟩ | w
    · apply q
      rcases w with rfl | rfl | rfl | rfl | rfl | rfl | rfl | rfl | rfl | rfl | rfl <;> rfl
    · omega)).trans (L.1 b k q), fun b q => by rw [x.2.1 b (by have := layN_le q; omega)]; exact L.2.1 b q, by have := x.2.2.1; omega⟩
  have e8 : ∀ c, 0 ≤ c → c < nh → h1.M (h.M 4 c) 8 = h.M (h.M 4 c) 8 := fun c c0 c1 => by
    have H := ih.2.2.2.2.1 c c0 c1
    have := H.2.2.2.2.1 (h.M 4 c) 0 (Or.inl ⟨by omega, by omega⟩) (by omega)
    exact hi _ _ this.1 this.2.1
  refine ⟨L1, it.cg fun b k z => e b k (by unfold rT at z; omega) (by unfold rT at z; omega), ic.cg K fun b k z => ?_, ih.cg K (fun b k z => ?_) e8, ia.cg K fun b k z => e b k (by unfold rA at z; omega) (by unfold rA at z; omega), ip.cg K fun b k z => e b k (by unfold rP at z; omega) (by unfold rP at z; omega), ie.cg fun b k z => e b k (by unfold rE at z; omega) (by unfold rE at z; omega), ?_, ib.cg K fun b k z => e b k (by unfold rB at z; omega) (by unfold rB at z; omega), iw.cg K fun b k z => e b k (by unfold rW at z; omega) (by unfold rW at z; omega), ?_⟩
  · rcases z with z | z | z | ⟨c, c0, c1, z⟩
    · exact e b k (by omega) (by omega)
    · exact e b k (by omega) (by omega)
    · exact e b k (by omega) (by omega)
    · exact x.1 b k (by have := mreg_b z; omega) (scr_c z c1)
  · rcases z with z | z | z | ⟨c, c0, c1, z⟩
    · exact e b k (by omega) (by omega)
    · exact e b k (by omega) (by omega)
    · exact e b k (by omega) (by omega)
    · exact x.1 b k (by have := mhr_b z; omega) (scr_h z c1)
  · unfold iK
    rw [e 9 64 (by omega) (by omega), e 9 65 (by omega) (by omega), e 1 13 (by omega) (by omega), e 1 14 (by omega) (by omega), e 1 7 (by omega) (by omega), e 1 12 (by omega) (by omega)]
    exact ik
  · obtain ⟨g1, g2, g3, g4⟩ := ig
    unfold iG
    rw [e 1 18 (by omega) (by omega), e 1 19 (by omega) (by omega), e 1 5 (by omega) (by omega)]
    refine ⟨?_, ?_, g3, fun u u0 u1 => (e 36 u (by omega) (by omega)).trans (g4 u u0 u1)⟩
    · rcases g1 with g1 | ⟨g1, g5⟩
      · exact Or.inl g1
      · exact Or.inr ⟨g1.cg (fun b k b0 b1 => hi b k (by have := g1.1; omega) (by omega)) (fun b b0 b1 => x.2.1 b (by omega)), by have := x.2.2.1; omega⟩
    · rcases g2 with g2 | ⟨g2, g5, g6⟩
      · exact Or.inl g2
      · exact Or.inr ⟨g2.cg (fun k => hi _ k g2.2.2.1 (by omega)) (fun b b0 b1 => x.2.1 b (by omega)), by have := x.2.2.1; omega, g6⟩
