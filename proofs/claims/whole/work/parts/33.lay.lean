/-! where what stands lies: the arrays of the class (object 1) and of the reference (object 9) -/
def layA (b k : Int) : Int :=
  if b = 9 then
    if k = 1 then 10 else
    if k = 5 then 11 else
    if k = 6 then 12 else
    if k = 7 then 13 else
    if k = 8 then 14 else
    if k = 9 then 15 else
    if k = 10 then 16 else
    if k = 11 then 17 else
    if k = 12 then 18 else
    if k = 13 then 19 else
    if k = 15 then 20 else
    if k = 16 then 21 else
    if k = 17 then 22 else
    if k = 18 then 23 else
    if k = 19 then 24 else
    if k = 20 then 25 else
    if k = 21 then 26 else
    if k = 22 then 27 else
    if k = 23 then 28 else
    if k = 24 then 29 else
    if k = 25 then 30 else
    if k = 26 then 31 else
    if k = 27 then 32 else
    if k = 30 then 33 else
    if k = 31 then 34 else
    if k = 32 then 35 else
    if k = 33 then 36 else
    if k = 36 then 37 else
    if k = 37 then 38 else
    if k = 42 then 39 else
    if k = 43 then 40 else
    if k = 44 then 41 else
    if k = 45 then 42 else
    if k = 46 then 43 else
    if k = 47 then 44 else
    if k = 48 then 45 else
    if k = 50 then 46 else
    if k = 51 then 47 else
    if k = 52 then 48 else
    if k = 53 then 49 else
    if k = 55 then 50 else
    if k = 61 then 51 else
    if k = 62 then 52 else
    if k = 66 then 53 else
    if k = 67 then 54 else
    if k = 68 then 55 else
    0
  else if b = 1 then
    if k = 0 then 2 else
    if k = 2 then 3 else
    if k = 4 then 4 else
    if k = 6 then 5 else
    if k = 8 then 6 else
    if k = 10 then 7 else
    if k = 11 then 8 else
    0
  else 0
def layN (b : Int) : Int :=
  if b = 2 then 160 else
  if b = 3 then 6 else
  if b = 4 then 8 else
  if b = 5 then 60 else
  if b = 6 then 8 else
  if b = 7 then 30 else
  if b = 8 then 30 else
  if b = 10 then 160 else
  if b = 11 then 7 else
  if b = 12 then 7 else
  if b = 13 then 28 else
  if b = 14 then 224 else
  if b = 15 then 224 else
  if b = 16 then 28 else
  if b = 17 then 28 else
  if b = 18 then 28 else
  if b = 19 then 280028 else
  if b = 20 then 9 else
  if b = 21 then 54 else
  if b = 22 then 54 else
  if b = 23 then 9 else
  if b = 24 then 54 else
  if b = 25 then 54 else
  if b = 26 then 9 else
  if b = 27 then 108 else
  if b = 28 then 108 else
  if b = 29 then 108 else
  if b = 30 then 9 else
  if b = 31 then 36 else
  if b = 32 then 8 else
  if b = 33 then 90009 else
  if b = 34 then 117 else
  if b = 35 then 10001 else
  if b = 36 then 10001 else
  if b = 37 then 10000 else
  if b = 38 then 13 else
  if b = 39 then 60 else
  if b = 40 then 60 else
  if b = 41 then 60 else
  if b = 42 then 60 else
  if b = 43 then 60 else
  if b = 44 then 60 else
  if b = 45 then 60 else
  if b = 46 then 8 else
  if b = 47 then 8 else
  if b = 48 then 8 else
  if b = 49 then 8 else
  if b = 50 then 14 else
  if b = 51 then 30 else
  if b = 52 then 30 else
  if b = 53 then 160 else
  if b = 54 then 160 else
  if b = 55 then 160 else
  if b = 56 then 1 else 0
def lay (h : mH) : Prop := (∀ b k, layA b k ≠ 0 → h.M b k = layA b k) ∧ (∀ b, layN b ≠ 0 → h.N b = layN b) ∧ 56 ≤ h.cnt
theorem lay.ew {W : Int → Int → Prop} {h h1 : mH} (L : lay h) (x : Ew W h h1) (hw : ∀ b k, W b k → layA b k = 0) : lay h1 := ⟨fun b k q => (x.2 b k fun w => q (hw b k w)).trans (L.1 b k q), fun b q => by rw [x.N]; exact L.2.1 b q, by rw [x.cnt]; exact L.2.2⟩
theorem layN_le {b : Int} (h : layN b ≠ 0) : b ≤ 56 := by
  rcases Int.lt_or_le 56 b with q | q
  · exfalso; apply h; unfold layN
    rw [if_neg (by omega)]
    rw [if_neg (by omega)]
    rw [if_neg (by omega)]
    rw [if_neg (by omega)]
    rw [if_neg (by omega)]
    rw [if_neg (by omega)]
    rw [if_neg (by omega)]
    rw [if_neg (by omega)]
    rw [if_neg (by omega)]
    rw [if_neg (by omega)]
    rw [if_neg (by omega)]
    rw [if_neg (by omega)]
    rw [if_neg (by omega)]
    rw [if_neg (by omega)]
    rw [if_neg (by omega)]
    rw [if_neg (by omega)]
    rw [if_neg (by omega)]
    rw [if_neg (by omega)]
    rw [if_neg (by omega)]
    rw [if_neg (by omega)]
    rw [if_neg (by omega)]
    rw [if_neg (by omega)]
    rw [if_neg (by omega)]
    rw [if_neg (by omega)]
    rw [if_neg (by omega)]
    rw [if_neg (by omega)]
    rw [if_neg (by omega)]
    rw [if_neg (by omega)]
    rw [if_neg (by omega)]
    rw [if_neg (by omega)]
    rw [if_neg (by omega)]
    rw [if_neg (by omega)]
    rw [if_neg (by omega)]
    rw [if_neg (by omega)]
    rw [if_neg (by omega)]
    rw [if_neg (by omega)]
    rw [if_neg (by omega)]
    rw [if_neg (by omega)]
    rw [if_neg (by omega)]
    rw [if_neg (by omega)]
    rw [if_neg (by omega)]
    rw [if_neg (by omega)]
    rw [if_neg (by omega)]
    rw [if_neg (by omega)]
    rw [if_neg (by omega)]
    rw [if_neg (by omega)]
    rw [if_neg (by omega)]
    rw [if_neg (by omega)]
    rw [if_neg (by omega)]
    rw [if_neg (by omega)]
    rw [if_neg (by omega)]
    rw [if_neg (by omega)]
    rw [if_neg (by omega)]
    rw [if_neg (by omega)]
  · exact q
theorem layA_le {b k : Int} (h : layA b k ≠ 0) : b = 9 ∨ b = 1 := by
  by_cases q : b = 9
  · exact Or.inl q
  · by_cases q2 : b = 1
    · exact Or.inr q2
    · exfalso; apply h; unfold layA; rw [if_neg q, if_neg q2]
theorem lay.fr {W : Int → Int → Prop} {c s : Nat} {h h1 : mH} (L : lay h) (x : Fr W c s h h1) (hw : ∀ b k, W b k → layA b k = 0) : lay h1 := ⟨fun b k q => (x.1 b k (by have := layA_le q; have := L.2.2; omega) fun w => q (hw b k w)).trans (L.1 b k q), fun b q => by rw [x.2.1 b (by have := layN_le q; have := L.2.2; omega)]; exact L.2.1 b q, by have := L.2.2; have := x.2.2.1; omega⟩
theorem lay.st {h : mH} (L : lay h) {a k : Int} (v : Int) (hk : layA a k = 0) : lay (h.set a k v) := L.ew (W := fun b j => b = a ∧ j = k) (Ew.st h v ⟨rfl, rfl⟩) (fun b j q => by rw [q.1, q.2]; exact hk)
theorem layA_n {b : Int} (k : Int) (h9 : b ≠ 9) (h1 : b ≠ 1) : layA b k = 0 := by unfold layA; rw [if_neg h9, if_neg h1]
theorem lm1 {h : mH} (L : lay h) : h.M 9 1 = 10 := L.1 9 1 (by decide)
theorem lm5 {h : mH} (L : lay h) : h.M 9 5 = 11 := L.1 9 5 (by decide)
theorem lm6 {h : mH} (L : lay h) : h.M 9 6 = 12 := L.1 9 6 (by decide)
theorem lm7 {h : mH} (L : lay h) : h.M 9 7 = 13 := L.1 9 7 (by decide)
theorem lm8 {h : mH} (L : lay h) : h.M 9 8 = 14 := L.1 9 8 (by decide)
theorem lm9 {h : mH} (L : lay h) : h.M 9 9 = 15 := L.1 9 9 (by decide)
theorem lm10 {h : mH} (L : lay h) : h.M 9 10 = 16 := L.1 9 10 (by decide)
theorem lm11 {h : mH} (L : lay h) : h.M 9 11 = 17 := L.1 9 11 (by decide)
theorem lm12 {h : mH} (L : lay h) : h.M 9 12 = 18 := L.1 9 12 (by decide)
theorem lm13 {h : mH} (L : lay h) : h.M 9 13 = 19 := L.1 9 13 (by decide)
theorem lm15 {h : mH} (L : lay h) : h.M 9 15 = 20 := L.1 9 15 (by decide)
theorem lm16 {h : mH} (L : lay h) : h.M 9 16 = 21 := L.1 9 16 (by decide)
theorem lm17 {h : mH} (L : lay h) : h.M 9 17 = 22 := L.1 9 17 (by decide)
theorem lm18 {h : mH} (L : lay h) : h.M 9 18 = 23 := L.1 9 18 (by decide)
theorem lm19 {h : mH} (L : lay h) : h.M 9 19 = 24 := L.1 9 19 (by decide)
theorem lm20 {h : mH} (L : lay h) : h.M 9 20 = 25 := L.1 9 20 (by decide)
theorem lm21 {h : mH} (L : lay h) : h.M 9 21 = 26 := L.1 9 21 (by decide)
theorem lm22 {h : mH} (L : lay h) : h.M 9 22 = 27 := L.1 9 22 (by decide)
theorem lm23 {h : mH} (L : lay h) : h.M 9 23 = 28 := L.1 9 23 (by decide)
theorem lm24 {h : mH} (L : lay h) : h.M 9 24 = 29 := L.1 9 24 (by decide)
theorem lm25 {h : mH} (L : lay h) : h.M 9 25 = 30 := L.1 9 25 (by decide)
theorem lm26 {h : mH} (L : lay h) : h.M 9 26 = 31 := L.1 9 26 (by decide)
theorem lm27 {h : mH} (L : lay h) : h.M 9 27 = 32 := L.1 9 27 (by decide)
theorem lm30 {h : mH} (L : lay h) : h.M 9 30 = 33 := L.1 9 30 (by decide)
theorem lm31 {h : mH} (L : lay h) : h.M 9 31 = 34 := L.1 9 31 (by decide)
theorem lm32 {h : mH} (L : lay h) : h.M 9 32 = 35 := L.1 9 32 (by decide)
theorem lm33 {h : mH} (L : lay h) : h.M 9 33 = 36 := L.1 9 33 (by decide)
theorem lm36 {h : mH} (L : lay h) : h.M 9 36 = 37 := L.1 9 36 (by decide)
theorem lm37 {h : mH} (L : lay h) : h.M 9 37 = 38 := L.1 9 37 (by decide)
theorem lm42 {h : mH} (L : lay h) : h.M 9 42 = 39 := L.1 9 42 (by decide)
theorem lm43 {h : mH} (L : lay h) : h.M 9 43 = 40 := L.1 9 43 (by decide)
theorem lm44 {h : mH} (L : lay h) : h.M 9 44 = 41 := L.1 9 44 (by decide)
theorem lm45 {h : mH} (L : lay h) : h.M 9 45 = 42 := L.1 9 45 (by decide)
theorem lm46 {h : mH} (L : lay h) : h.M 9 46 = 43 := L.1 9 46 (by decide)
theorem lm47 {h : mH} (L : lay h) : h.M 9 47 = 44 := L.1 9 47 (by decide)
theorem lm48 {h : mH} (L : lay h) : h.M 9 48 = 45 := L.1 9 48 (by decide)
theorem lm50 {h : mH} (L : lay h) : h.M 9 50 = 46 := L.1 9 50 (by decide)
theorem lm51 {h : mH} (L : lay h) : h.M 9 51 = 47 := L.1 9 51 (by decide)
theorem lm52 {h : mH} (L : lay h) : h.M 9 52 = 48 := L.1 9 52 (by decide)
theorem lm53 {h : mH} (L : lay h) : h.M 9 53 = 49 := L.1 9 53 (by decide)
theorem lm55 {h : mH} (L : lay h) : h.M 9 55 = 50 := L.1 9 55 (by decide)
theorem lm61 {h : mH} (L : lay h) : h.M 9 61 = 51 := L.1 9 61 (by decide)
theorem lm62 {h : mH} (L : lay h) : h.M 9 62 = 52 := L.1 9 62 (by decide)
theorem lm66 {h : mH} (L : lay h) : h.M 9 66 = 53 := L.1 9 66 (by decide)
theorem lm67 {h : mH} (L : lay h) : h.M 9 67 = 54 := L.1 9 67 (by decide)
theorem lm68 {h : mH} (L : lay h) : h.M 9 68 = 55 := L.1 9 68 (by decide)
theorem lx0 {h : mH} (L : lay h) : h.M 1 0 = 2 := L.1 1 0 (by decide)
theorem lx2 {h : mH} (L : lay h) : h.M 1 2 = 3 := L.1 1 2 (by decide)
theorem lx4 {h : mH} (L : lay h) : h.M 1 4 = 4 := L.1 1 4 (by decide)
theorem lx6 {h : mH} (L : lay h) : h.M 1 6 = 5 := L.1 1 6 (by decide)
theorem lx8 {h : mH} (L : lay h) : h.M 1 8 = 6 := L.1 1 8 (by decide)
theorem lx10 {h : mH} (L : lay h) : h.M 1 10 = 7 := L.1 1 10 (by decide)
theorem lx11 {h : mH} (L : lay h) : h.M 1 11 = 8 := L.1 1 11 (by decide)
theorem ln2 {h : mH} (L : lay h) : h.N 2 = 160 := L.2.1 2 (by decide)
theorem ln3 {h : mH} (L : lay h) : h.N 3 = 6 := L.2.1 3 (by decide)
theorem ln4 {h : mH} (L : lay h) : h.N 4 = 8 := L.2.1 4 (by decide)
theorem ln5 {h : mH} (L : lay h) : h.N 5 = 60 := L.2.1 5 (by decide)
theorem ln6 {h : mH} (L : lay h) : h.N 6 = 8 := L.2.1 6 (by decide)
theorem ln7 {h : mH} (L : lay h) : h.N 7 = 30 := L.2.1 7 (by decide)
theorem ln8 {h : mH} (L : lay h) : h.N 8 = 30 := L.2.1 8 (by decide)
theorem ln10 {h : mH} (L : lay h) : h.N 10 = 160 := L.2.1 10 (by decide)
theorem ln11 {h : mH} (L : lay h) : h.N 11 = 7 := L.2.1 11 (by decide)
theorem ln12 {h : mH} (L : lay h) : h.N 12 = 7 := L.2.1 12 (by decide)
theorem ln13 {h : mH} (L : lay h) : h.N 13 = 28 := L.2.1 13 (by decide)
theorem ln14 {h : mH} (L : lay h) : h.N 14 = 224 := L.2.1 14 (by decide)
theorem ln15 {h : mH} (L : lay h) : h.N 15 = 224 := L.2.1 15 (by decide)
theorem ln16 {h : mH} (L : lay h) : h.N 16 = 28 := L.2.1 16 (by decide)
theorem ln17 {h : mH} (L : lay h) : h.N 17 = 28 := L.2.1 17 (by decide)
theorem ln18 {h : mH} (L : lay h) : h.N 18 = 28 := L.2.1 18 (by decide)
theorem ln19 {h : mH} (L : lay h) : h.N 19 = 280028 := L.2.1 19 (by decide)
theorem ln20 {h : mH} (L : lay h) : h.N 20 = 9 := L.2.1 20 (by decide)
theorem ln21 {h : mH} (L : lay h) : h.N 21 = 54 := L.2.1 21 (by decide)
theorem ln22 {h : mH} (L : lay h) : h.N 22 = 54 := L.2.1 22 (by decide)
theorem ln23 {h : mH} (L : lay h) : h.N 23 = 9 := L.2.1 23 (by decide)
theorem ln24 {h : mH} (L : lay h) : h.N 24 = 54 := L.2.1 24 (by decide)
theorem ln25 {h : mH} (L : lay h) : h.N 25 = 54 := L.2.1 25 (by decide)
theorem ln26 {h : mH} (L : lay h) : h.N 26 = 9 := L.2.1 26 (by decide)
theorem ln27 {h : mH} (L : lay h) : h.N 27 = 108 := L.2.1 27 (by decide)
theorem ln28 {h : mH} (L : lay h) : h.N 28 = 108 := L.2.1 28 (by decide)
theorem ln29 {h : mH} (L : lay h) : h.N 29 = 108 := L.2.1 29 (by decide)
theorem ln30 {h : mH} (L : lay h) : h.N 30 = 9 := L.2.1 30 (by decide)
theorem ln31 {h : mH} (L : lay h) : h.N 31 = 36 := L.2.1 31 (by decide)
theorem ln32 {h : mH} (L : lay h) : h.N 32 = 8 := L.2.1 32 (by decide)
theorem ln33 {h : mH} (L : lay h) : h.N 33 = 90009 := L.2.1 33 (by decide)
theorem ln34 {h : mH} (L : lay h) : h.N 34 = 117 := L.2.1 34 (by decide)
theorem ln35 {h : mH} (L : lay h) : h.N 35 = 10001 := L.2.1 35 (by decide)
theorem ln36 {h : mH} (L : lay h) : h.N 36 = 10001 := L.2.1 36 (by decide)
theorem ln37 {h : mH} (L : lay h) : h.N 37 = 10000 := L.2.1 37 (by decide)
theorem ln38 {h : mH} (L : lay h) : h.N 38 = 13 := L.2.1 38 (by decide)
theorem ln39 {h : mH} (L : lay h) : h.N 39 = 60 := L.2.1 39 (by decide)
theorem ln40 {h : mH} (L : lay h) : h.N 40 = 60 := L.2.1 40 (by decide)
theorem ln41 {h : mH} (L : lay h) : h.N 41 = 60 := L.2.1 41 (by decide)
theorem ln42 {h : mH} (L : lay h) : h.N 42 = 60 := L.2.1 42 (by decide)
theorem ln43 {h : mH} (L : lay h) : h.N 43 = 60 := L.2.1 43 (by decide)
theorem ln44 {h : mH} (L : lay h) : h.N 44 = 60 := L.2.1 44 (by decide)
theorem ln45 {h : mH} (L : lay h) : h.N 45 = 60 := L.2.1 45 (by decide)
theorem ln46 {h : mH} (L : lay h) : h.N 46 = 8 := L.2.1 46 (by decide)
theorem ln47 {h : mH} (L : lay h) : h.N 47 = 8 := L.2.1 47 (by decide)
theorem ln48 {h : mH} (L : lay h) : h.N 48 = 8 := L.2.1 48 (by decide)
theorem ln49 {h : mH} (L : lay h) : h.N 49 = 8 := L.2.1 49 (by decide)
theorem ln50 {h : mH} (L : lay h) : h.N 50 = 14 := L.2.1 50 (by decide)
theorem ln51 {h : mH} (L : lay h) : h.N 51 = 30 := L.2.1 51 (by decide)
theorem ln52 {h : mH} (L : lay h) : h.N 52 = 30 := L.2.1 52 (by decide)
theorem ln53 {h : mH} (L : lay h) : h.N 53 = 160 := L.2.1 53 (by decide)
theorem ln54 {h : mH} (L : lay h) : h.N 54 = 160 := L.2.1 54 (by decide)
theorem ln55 {h : mH} (L : lay h) : h.N 55 = 160 := L.2.1 55 (by decide)
theorem ln56 {h : mH} (L : lay h) : h.N 56 = 1 := L.2.1 56 (by decide)
