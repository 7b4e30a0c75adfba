/-! THE PURE PART, the start: the constructors, what stands at first, PURE (printed by wip/gen/init.py) -/
def mk1 (h : mH) (q : Int × Int × Nat × Int) : mH := if q.1 = 0 then h.new q.2.2.1 q.2.2.2 else if q.2.2.1 = 0 then h.set q.1 q.2.1 (-1) else (h.new q.2.2.1 q.2.2.2).set q.1 q.2.1 h.top
def mks (h : mH) (L : List (Int × Int × Nat × Int)) : mH := L.foldl mk1 h
theorem mk1_n {h : mH} {o k n : Int} {t : Nat} (o0 : o ≠ 0) (t0 : t ≠ 0) : mk1 h (o, k, t, n) = (h.new t n).set o k h.top := by
  unfold mk1
  rw [if_neg o0, if_neg t0]
theorem mk1_b {h : mH} {o k : Int} (o0 : o ≠ 0 := by decide) : mk1 h (o, k, 0, 0) = h.set o k (-1) := by
  unfold mk1
  rw [if_neg o0, if_pos rfl]
theorem mks_c (h : mH) (q : Int × Int × Nat × Int) (L : List (Int × Int × Nat × Int)) : mks h (q :: L) = mks (mk1 h q) L := rfl
theorem mks_a (h : mH) (L L' : List (Int × Int × Nat × Int)) : mks h (L ++ L') = mks (mks h L) L' := List.foldl_append ..
def qX7 : List (Int × Int × Nat × Int) := []
theorem qXr7 (h : mH) : Rn kX_init 7 [vO 10 1] [] h = some (none, mks h qX7) := E_X_init_7 ..
def qX6 : List (Int × Int × Nat × Int) := (1, 11, 100, 30) :: qX7
theorem qXr6 (h : mH) : Rn kX_init 6 [vO 10 1] [] h = some (none, mks h qX6) := by
  rw [E_X_init_6, gd_t (by decide), Z_hl, Z_hl, ← mk1_n (o := 1) (by decide) (by decide), qXr7]
  exact congrArg (fun z => (some (none, z) : mR)) (mks_c h (1, 11, 100, 30) qX7).symm
def qX5 : List (Int × Int × Nat × Int) := (1, 10, 100, 30) :: qX6
theorem qXr5 (h : mH) : Rn kX_init 5 [vO 10 1] [] h = some (none, mks h qX5) := by
  rw [E_X_init_5, gd_t (by decide), Z_hl, Z_hl, ← mk1_n (o := 1) (by decide) (by decide), qXr6]
  exact congrArg (fun z => (some (none, z) : mR)) (mks_c h (1, 10, 100, 30) qX6).symm
def qX4 : List (Int × Int × Nat × Int) := (1, 8, 207, 8) :: qX5
theorem qXr4 (h : mH) : Rn kX_init 4 [vO 10 1] [] h = some (none, mks h qX4) := by
  rw [E_X_init_4, gd_t (by decide), Z_hl, Z_hl, ← mk1_n (o := 1) (by decide) (by decide), qXr5]
  exact congrArg (fun z => (some (none, z) : mR)) (mks_c h (1, 8, 207, 8) qX5).symm
def qX3 : List (Int × Int × Nat × Int) := (1, 6, 201, 60) :: qX4
theorem qXr3 (h : mH) : Rn kX_init 3 [vO 10 1] [] h = some (none, mks h qX3) := by
  rw [E_X_init_3, gd_t (by decide), Z_hl, Z_hl, ← mk1_n (o := 1) (by decide) (by decide), qXr4]
  exact congrArg (fun z => (some (none, z) : mR)) (mks_c h (1, 6, 201, 60) qX4).symm
def qX2 : List (Int × Int × Nat × Int) := (1, 4, 202, 8) :: qX3
theorem qXr2 (h : mH) : Rn kX_init 2 [vO 10 1] [] h = some (none, mks h qX2) := by
  rw [E_X_init_2, gd_t (by decide), Z_hl, Z_hl, ← mk1_n (o := 1) (by decide) (by decide), qXr3]
  exact congrArg (fun z => (some (none, z) : mR)) (mks_c h (1, 4, 202, 8) qX3).symm
def qX1 : List (Int × Int × Nat × Int) := (1, 2, 200, 6) :: qX2
theorem qXr1 (h : mH) : Rn kX_init 1 [vO 10 1] [] h = some (none, mks h qX1) := by
  rw [E_X_init_1, gd_t (by decide), Z_hl, Z_hl, ← mk1_n (o := 1) (by decide) (by decide), qXr2]
  exact congrArg (fun z => (some (none, z) : mR)) (mks_c h (1, 2, 200, 6) qX2).symm
def qX0 : List (Int × Int × Nat × Int) := (1, 0, 100, 160) :: qX1
theorem qXr0 (h : mH) : Cl kX_init [vO 10 1] h = some (none, mks h qX0) := by
  rw [E_X_init, gd_t (by decide), Z_hl, Z_hl, ← mk1_n (o := 1) (by decide) (by decide), qXr1]
  exact congrArg (fun z => (some (none, z) : mR)) (mks_c h (1, 0, 100, 160) qX1).symm
def qM47 : List (Int × Int × Nat × Int) := []
theorem qMr47 (h : mH) : Rn kM_init 47 [vO 11 9] [] h = some (none, mks h qM47) := E_M_init_47 ..
def qM46 : List (Int × Int × Nat × Int) := (9, 68, 100, 160) :: qM47
theorem qMr46 (h : mH) : Rn kM_init 46 [vO 11 9] [] h = some (none, mks h qM46) := by
  rw [E_M_init_46, gd_t (by decide), Z_hl, Z_hl, ← mk1_n (o := 9) (by decide) (by decide), qMr47]
  exact congrArg (fun z => (some (none, z) : mR)) (mks_c h (9, 68, 100, 160) qM47).symm
def qM45 : List (Int × Int × Nat × Int) := (9, 67, 100, 160) :: qM46
theorem qMr45 (h : mH) : Rn kM_init 45 [vO 11 9] [] h = some (none, mks h qM45) := by
  rw [E_M_init_45, gd_t (by decide), Z_hl, Z_hl, ← mk1_n (o := 9) (by decide) (by decide), qMr46]
  exact congrArg (fun z => (some (none, z) : mR)) (mks_c h (9, 67, 100, 160) qM46).symm
def qM44 : List (Int × Int × Nat × Int) := (9, 66, 100, 160) :: qM45
theorem qMr44 (h : mH) : Rn kM_init 44 [vO 11 9] [] h = some (none, mks h qM44) := by
  rw [E_M_init_44, gd_t (by decide), Z_hl, Z_hl, ← mk1_n (o := 9) (by decide) (by decide), qMr45]
  exact congrArg (fun z => (some (none, z) : mR)) (mks_c h (9, 66, 100, 160) qM45).symm
def qM43 : List (Int × Int × Nat × Int) := (9, 62, 100, 30) :: qM44
theorem qMr43 (h : mH) : Rn kM_init 43 [vO 11 9] [] h = some (none, mks h qM43) := by
  rw [E_M_init_43, gd_t (by decide), Z_hl, Z_hl, ← mk1_n (o := 9) (by decide) (by decide), qMr44]
  exact congrArg (fun z => (some (none, z) : mR)) (mks_c h (9, 62, 100, 30) qM44).symm
def qM42 : List (Int × Int × Nat × Int) := (9, 61, 100, 30) :: qM43
theorem qMr42 (h : mH) : Rn kM_init 42 [vO 11 9] [] h = some (none, mks h qM42) := by
  rw [E_M_init_42, gd_t (by decide), Z_hl, Z_hl, ← mk1_n (o := 9) (by decide) (by decide), qMr43]
  exact congrArg (fun z => (some (none, z) : mR)) (mks_c h (9, 61, 100, 30) qM43).symm
def qM41 : List (Int × Int × Nat × Int) := (9, 56, 0, 0) :: qM42
theorem qMr41 (h : mH) : Rn kM_init 41 [vO 11 9] [] h = some (none, mks h qM41) := by
  rw [E_M_init_41, Z_hl, ← mk1_b (o := 9), qMr42]
  exact congrArg (fun z => (some (none, z) : mR)) (mks_c h (9, 56, 0, 0) qM42).symm
def qM40 : List (Int × Int × Nat × Int) := (9, 55, 100, 14) :: qM41
theorem qMr40 (h : mH) : Rn kM_init 40 [vO 11 9] [] h = some (none, mks h qM40) := by
  rw [E_M_init_40, gd_t (by decide), Z_hl, Z_hl, ← mk1_n (o := 9) (by decide) (by decide), qMr41]
  exact congrArg (fun z => (some (none, z) : mR)) (mks_c h (9, 55, 100, 14) qM41).symm
def qM39 : List (Int × Int × Nat × Int) := (9, 53, 100, 8) :: qM40
theorem qMr39 (h : mH) : Rn kM_init 39 [vO 11 9] [] h = some (none, mks h qM39) := by
  rw [E_M_init_39, gd_t (by decide), Z_hl, Z_hl, ← mk1_n (o := 9) (by decide) (by decide), qMr40]
  exact congrArg (fun z => (some (none, z) : mR)) (mks_c h (9, 53, 100, 8) qM40).symm
def qM38 : List (Int × Int × Nat × Int) := (9, 52, 100, 8) :: qM39
theorem qMr38 (h : mH) : Rn kM_init 38 [vO 11 9] [] h = some (none, mks h qM38) := by
  rw [E_M_init_38, gd_t (by decide), Z_hl, Z_hl, ← mk1_n (o := 9) (by decide) (by decide), qMr39]
  exact congrArg (fun z => (some (none, z) : mR)) (mks_c h (9, 52, 100, 8) qM39).symm
def qM37 : List (Int × Int × Nat × Int) := (9, 51, 100, 8) :: qM38
theorem qMr37 (h : mH) : Rn kM_init 37 [vO 11 9] [] h = some (none, mks h qM37) := by
  rw [E_M_init_37, gd_t (by decide), Z_hl, Z_hl, ← mk1_n (o := 9) (by decide) (by decide), qMr38]
  exact congrArg (fun z => (some (none, z) : mR)) (mks_c h (9, 51, 100, 8) qM38).symm
def qM36 : List (Int × Int × Nat × Int) := (9, 50, 100, 8) :: qM37
theorem qMr36 (h : mH) : Rn kM_init 36 [vO 11 9] [] h = some (none, mks h qM36) := by
  rw [E_M_init_36, gd_t (by decide), Z_hl, Z_hl, ← mk1_n (o := 9) (by decide) (by decide), qMr37]
  exact congrArg (fun z => (some (none, z) : mR)) (mks_c h (9, 50, 100, 8) qM37).symm
def qM35 : List (Int × Int × Nat × Int) := (9, 48, 100, 60) :: qM36
theorem qMr35 (h : mH) : Rn kM_init 35 [vO 11 9] [] h = some (none, mks h qM35) := by
  rw [E_M_init_35, gd_t (by decide), Z_hl, Z_hl, ← mk1_n (o := 9) (by decide) (by decide), qMr36]
  exact congrArg (fun z => (some (none, z) : mR)) (mks_c h (9, 48, 100, 60) qM36).symm
def qM34 : List (Int × Int × Nat × Int) := (9, 47, 100, 60) :: qM35
theorem qMr34 (h : mH) : Rn kM_init 34 [vO 11 9] [] h = some (none, mks h qM34) := by
  rw [E_M_init_34, gd_t (by decide), Z_hl, Z_hl, ← mk1_n (o := 9) (by decide) (by decide), qMr35]
  exact congrArg (fun z => (some (none, z) : mR)) (mks_c h (9, 47, 100, 60) qM35).symm
def qM33 : List (Int × Int × Nat × Int) := (9, 46, 100, 60) :: qM34
theorem qMr33 (h : mH) : Rn kM_init 33 [vO 11 9] [] h = some (none, mks h qM33) := by
  rw [E_M_init_33, gd_t (by decide), Z_hl, Z_hl, ← mk1_n (o := 9) (by decide) (by decide), qMr34]
  exact congrArg (fun z => (some (none, z) : mR)) (mks_c h (9, 46, 100, 60) qM34).symm
def qM32 : List (Int × Int × Nat × Int) := (9, 45, 100, 60) :: qM33
theorem qMr32 (h : mH) : Rn kM_init 32 [vO 11 9] [] h = some (none, mks h qM32) := by
  rw [E_M_init_32, gd_t (by decide), Z_hl, Z_hl, ← mk1_n (o := 9) (by decide) (by decide), qMr33]
  exact congrArg (fun z => (some (none, z) : mR)) (mks_c h (9, 45, 100, 60) qM33).symm
def qM31 : List (Int × Int × Nat × Int) := (9, 44, 100, 60) :: qM32
theorem qMr31 (h : mH) : Rn kM_init 31 [vO 11 9] [] h = some (none, mks h qM31) := by
  rw [E_M_init_31, gd_t (by decide), Z_hl, Z_hl, ← mk1_n (o := 9) (by decide) (by decide), qMr32]
  exact congrArg (fun z => (some (none, z) : mR)) (mks_c h (9, 44, 100, 60) qM32).symm
def qM30 : List (Int × Int × Nat × Int) := (9, 43, 100, 60) :: qM31
theorem qMr30 (h : mH) : Rn kM_init 30 [vO 11 9] [] h = some (none, mks h qM30) := by
  rw [E_M_init_30, gd_t (by decide), Z_hl, Z_hl, ← mk1_n (o := 9) (by decide) (by decide), qMr31]
  exact congrArg (fun z => (some (none, z) : mR)) (mks_c h (9, 43, 100, 60) qM31).symm
def qM29 : List (Int × Int × Nat × Int) := (9, 42, 100, 60) :: qM30
theorem qMr29 (h : mH) : Rn kM_init 29 [vO 11 9] [] h = some (none, mks h qM29) := by
  rw [E_M_init_29, gd_t (by decide), Z_hl, Z_hl, ← mk1_n (o := 9) (by decide) (by decide), qMr30]
  exact congrArg (fun z => (some (none, z) : mR)) (mks_c h (9, 42, 100, 60) qM30).symm
def qM28 : List (Int × Int × Nat × Int) := (9, 37, 100, 13) :: qM29
theorem qMr28 (h : mH) : Rn kM_init 28 [vO 11 9] [] h = some (none, mks h qM28) := by
  rw [E_M_init_28, gd_t (by decide), Z_hl, Z_hl, ← mk1_n (o := 9) (by decide) (by decide), qMr29]
  exact congrArg (fun z => (some (none, z) : mR)) (mks_c h (9, 37, 100, 13) qM29).symm
def qM27 : List (Int × Int × Nat × Int) := (9, 36, 100, 10000) :: qM28
theorem qMr27 (h : mH) : Rn kM_init 27 [vO 11 9] [] h = some (none, mks h qM27) := by
  rw [E_M_init_27, gd_t (by decide), Z_hl, Z_hl, ← mk1_n (o := 9) (by decide) (by decide), qMr28]
  exact congrArg (fun z => (some (none, z) : mR)) (mks_c h (9, 36, 100, 10000) qM28).symm
def qM26 : List (Int × Int × Nat × Int) := (9, 33, 102, 10001) :: qM27
theorem qMr26 (h : mH) : Rn kM_init 26 [vO 11 9] [] h = some (none, mks h qM26) := by
  rw [E_M_init_26, gd_t (by decide), Z_hl, Z_hl, ← mk1_n (o := 9) (by decide) (by decide), qMr27]
  exact congrArg (fun z => (some (none, z) : mR)) (mks_c h (9, 33, 102, 10001) qM27).symm
def qM25 : List (Int × Int × Nat × Int) := (9, 32, 100, 10001) :: qM26
theorem qMr25 (h : mH) : Rn kM_init 25 [vO 11 9] [] h = some (none, mks h qM25) := by
  rw [E_M_init_25, gd_t (by decide), Z_hl, Z_hl, ← mk1_n (o := 9) (by decide) (by decide), qMr26]
  exact congrArg (fun z => (some (none, z) : mR)) (mks_c h (9, 32, 100, 10001) qM26).symm
def qM24 : List (Int × Int × Nat × Int) := (9, 31, 101, 117) :: qM25
theorem qMr24 (h : mH) : Rn kM_init 24 [vO 11 9] [] h = some (none, mks h qM24) := by
  rw [E_M_init_24, gd_t (by decide), Z_hl, Z_hl, ← mk1_n (o := 9) (by decide) (by decide), qMr25]
  exact congrArg (fun z => (some (none, z) : mR)) (mks_c h (9, 31, 101, 117) qM25).symm
def qM23 : List (Int × Int × Nat × Int) := (9, 30, 101, 90009) :: qM24
theorem qMr23 (h : mH) : Rn kM_init 23 [vO 11 9] [] h = some (none, mks h qM23) := by
  rw [E_M_init_23, gd_t (by decide), Z_hl, Z_hl, ← mk1_n (o := 9) (by decide) (by decide), qMr24]
  exact congrArg (fun z => (some (none, z) : mR)) (mks_c h (9, 30, 101, 90009) qM24).symm
def qM22 : List (Int × Int × Nat × Int) := (9, 27, 100, 8) :: qM23
theorem qMr22 (h : mH) : Rn kM_init 22 [vO 11 9] [] h = some (none, mks h qM22) := by
  rw [E_M_init_22, gd_t (by decide), Z_hl, Z_hl, ← mk1_n (o := 9) (by decide) (by decide), qMr23]
  exact congrArg (fun z => (some (none, z) : mR)) (mks_c h (9, 27, 100, 8) qM23).symm
def qM21 : List (Int × Int × Nat × Int) := (9, 26, 100, 36) :: qM22
theorem qMr21 (h : mH) : Rn kM_init 21 [vO 11 9] [] h = some (none, mks h qM21) := by
  rw [E_M_init_21, gd_t (by decide), Z_hl, Z_hl, ← mk1_n (o := 9) (by decide) (by decide), qMr22]
  exact congrArg (fun z => (some (none, z) : mR)) (mks_c h (9, 26, 100, 36) qM22).symm
def qM20 : List (Int × Int × Nat × Int) := (9, 25, 100, 9) :: qM21
theorem qMr20 (h : mH) : Rn kM_init 20 [vO 11 9] [] h = some (none, mks h qM20) := by
  rw [E_M_init_20, gd_t (by decide), Z_hl, Z_hl, ← mk1_n (o := 9) (by decide) (by decide), qMr21]
  exact congrArg (fun z => (some (none, z) : mR)) (mks_c h (9, 25, 100, 9) qM21).symm
def qM19 : List (Int × Int × Nat × Int) := (9, 24, 100, 108) :: qM20
theorem qMr19 (h : mH) : Rn kM_init 19 [vO 11 9] [] h = some (none, mks h qM19) := by
  rw [E_M_init_19, gd_t (by decide), Z_hl, Z_hl, ← mk1_n (o := 9) (by decide) (by decide), qMr20]
  exact congrArg (fun z => (some (none, z) : mR)) (mks_c h (9, 24, 100, 108) qM20).symm
def qM18 : List (Int × Int × Nat × Int) := (9, 23, 100, 108) :: qM19
theorem qMr18 (h : mH) : Rn kM_init 18 [vO 11 9] [] h = some (none, mks h qM18) := by
  rw [E_M_init_18, gd_t (by decide), Z_hl, Z_hl, ← mk1_n (o := 9) (by decide) (by decide), qMr19]
  exact congrArg (fun z => (some (none, z) : mR)) (mks_c h (9, 23, 100, 108) qM19).symm
def qM17 : List (Int × Int × Nat × Int) := (9, 22, 100, 108) :: qM18
theorem qMr17 (h : mH) : Rn kM_init 17 [vO 11 9] [] h = some (none, mks h qM17) := by
  rw [E_M_init_17, gd_t (by decide), Z_hl, Z_hl, ← mk1_n (o := 9) (by decide) (by decide), qMr18]
  exact congrArg (fun z => (some (none, z) : mR)) (mks_c h (9, 22, 100, 108) qM18).symm
def qM16 : List (Int × Int × Nat × Int) := (9, 21, 100, 9) :: qM17
theorem qMr16 (h : mH) : Rn kM_init 16 [vO 11 9] [] h = some (none, mks h qM16) := by
  rw [E_M_init_16, gd_t (by decide), Z_hl, Z_hl, ← mk1_n (o := 9) (by decide) (by decide), qMr17]
  exact congrArg (fun z => (some (none, z) : mR)) (mks_c h (9, 21, 100, 9) qM17).symm
def qM15 : List (Int × Int × Nat × Int) := (9, 20, 100, 54) :: qM16
theorem qMr15 (h : mH) : Rn kM_init 15 [vO 11 9] [] h = some (none, mks h qM15) := by
  rw [E_M_init_15, gd_t (by decide), Z_hl, Z_hl, ← mk1_n (o := 9) (by decide) (by decide), qMr16]
  exact congrArg (fun z => (some (none, z) : mR)) (mks_c h (9, 20, 100, 54) qM16).symm
def qM14 : List (Int × Int × Nat × Int) := (9, 19, 100, 54) :: qM15
theorem qMr14 (h : mH) : Rn kM_init 14 [vO 11 9] [] h = some (none, mks h qM14) := by
  rw [E_M_init_14, gd_t (by decide), Z_hl, Z_hl, ← mk1_n (o := 9) (by decide) (by decide), qMr15]
  exact congrArg (fun z => (some (none, z) : mR)) (mks_c h (9, 19, 100, 54) qM15).symm
def qM13 : List (Int × Int × Nat × Int) := (9, 18, 100, 9) :: qM14
theorem qMr13 (h : mH) : Rn kM_init 13 [vO 11 9] [] h = some (none, mks h qM13) := by
  rw [E_M_init_13, gd_t (by decide), Z_hl, Z_hl, ← mk1_n (o := 9) (by decide) (by decide), qMr14]
  exact congrArg (fun z => (some (none, z) : mR)) (mks_c h (9, 18, 100, 9) qM14).symm
def qM12 : List (Int × Int × Nat × Int) := (9, 17, 100, 54) :: qM13
theorem qMr12 (h : mH) : Rn kM_init 12 [vO 11 9] [] h = some (none, mks h qM12) := by
  rw [E_M_init_12, gd_t (by decide), Z_hl, Z_hl, ← mk1_n (o := 9) (by decide) (by decide), qMr13]
  exact congrArg (fun z => (some (none, z) : mR)) (mks_c h (9, 17, 100, 54) qM13).symm
def qM11 : List (Int × Int × Nat × Int) := (9, 16, 100, 54) :: qM12
theorem qMr11 (h : mH) : Rn kM_init 11 [vO 11 9] [] h = some (none, mks h qM11) := by
  rw [E_M_init_11, gd_t (by decide), Z_hl, Z_hl, ← mk1_n (o := 9) (by decide) (by decide), qMr12]
  exact congrArg (fun z => (some (none, z) : mR)) (mks_c h (9, 16, 100, 54) qM12).symm
def qM10 : List (Int × Int × Nat × Int) := (9, 15, 100, 9) :: qM11
theorem qMr10 (h : mH) : Rn kM_init 10 [vO 11 9] [] h = some (none, mks h qM10) := by
  rw [E_M_init_10, gd_t (by decide), Z_hl, Z_hl, ← mk1_n (o := 9) (by decide) (by decide), qMr11]
  exact congrArg (fun z => (some (none, z) : mR)) (mks_c h (9, 15, 100, 9) qM11).symm
def qM9 : List (Int × Int × Nat × Int) := (9, 13, 100, 280028) :: qM10
theorem qMr9 (h : mH) : Rn kM_init 9 [vO 11 9] [] h = some (none, mks h qM9) := by
  rw [E_M_init_9, gd_t (by decide), Z_hl, Z_hl, ← mk1_n (o := 9) (by decide) (by decide), qMr10]
  exact congrArg (fun z => (some (none, z) : mR)) (mks_c h (9, 13, 100, 280028) qM10).symm
def qM8 : List (Int × Int × Nat × Int) := (9, 12, 100, 28) :: qM9
theorem qMr8 (h : mH) : Rn kM_init 8 [vO 11 9] [] h = some (none, mks h qM8) := by
  rw [E_M_init_8, gd_t (by decide), Z_hl, Z_hl, ← mk1_n (o := 9) (by decide) (by decide), qMr9]
  exact congrArg (fun z => (some (none, z) : mR)) (mks_c h (9, 12, 100, 28) qM9).symm
def qM7 : List (Int × Int × Nat × Int) := (9, 11, 100, 28) :: qM8
theorem qMr7 (h : mH) : Rn kM_init 7 [vO 11 9] [] h = some (none, mks h qM7) := by
  rw [E_M_init_7, gd_t (by decide), Z_hl, Z_hl, ← mk1_n (o := 9) (by decide) (by decide), qMr8]
  exact congrArg (fun z => (some (none, z) : mR)) (mks_c h (9, 11, 100, 28) qM8).symm
def qM6 : List (Int × Int × Nat × Int) := (9, 10, 100, 28) :: qM7
theorem qMr6 (h : mH) : Rn kM_init 6 [vO 11 9] [] h = some (none, mks h qM6) := by
  rw [E_M_init_6, gd_t (by decide), Z_hl, Z_hl, ← mk1_n (o := 9) (by decide) (by decide), qMr7]
  exact congrArg (fun z => (some (none, z) : mR)) (mks_c h (9, 10, 100, 28) qM7).symm
def qM5 : List (Int × Int × Nat × Int) := (9, 9, 102, 224) :: qM6
theorem qMr5 (h : mH) : Rn kM_init 5 [vO 11 9] [] h = some (none, mks h qM5) := by
  rw [E_M_init_5, gd_t (by decide), Z_hl, Z_hl, ← mk1_n (o := 9) (by decide) (by decide), qMr6]
  exact congrArg (fun z => (some (none, z) : mR)) (mks_c h (9, 9, 102, 224) qM6).symm
def qM4 : List (Int × Int × Nat × Int) := (9, 8, 100, 224) :: qM5
theorem qMr4 (h : mH) : Rn kM_init 4 [vO 11 9] [] h = some (none, mks h qM4) := by
  rw [E_M_init_4, gd_t (by decide), Z_hl, Z_hl, ← mk1_n (o := 9) (by decide) (by decide), qMr5]
  exact congrArg (fun z => (some (none, z) : mR)) (mks_c h (9, 8, 100, 224) qM5).symm
def qM3 : List (Int × Int × Nat × Int) := (9, 7, 100, 28) :: qM4
theorem qMr3 (h : mH) : Rn kM_init 3 [vO 11 9] [] h = some (none, mks h qM3) := by
  rw [E_M_init_3, gd_t (by decide), Z_hl, Z_hl, ← mk1_n (o := 9) (by decide) (by decide), qMr4]
  exact congrArg (fun z => (some (none, z) : mR)) (mks_c h (9, 7, 100, 28) qM4).symm
def qM2 : List (Int × Int × Nat × Int) := (9, 6, 100, 7) :: qM3
theorem qMr2 (h : mH) : Rn kM_init 2 [vO 11 9] [] h = some (none, mks h qM2) := by
  rw [E_M_init_2, gd_t (by decide), Z_hl, Z_hl, ← mk1_n (o := 9) (by decide) (by decide), qMr3]
  exact congrArg (fun z => (some (none, z) : mR)) (mks_c h (9, 6, 100, 7) qM3).symm
def qM1 : List (Int × Int × Nat × Int) := (9, 5, 100, 7) :: qM2
theorem qMr1 (h : mH) : Rn kM_init 1 [vO 11 9] [] h = some (none, mks h qM1) := by
  rw [E_M_init_1, gd_t (by decide), Z_hl, Z_hl, ← mk1_n (o := 9) (by decide) (by decide), qMr2]
  exact congrArg (fun z => (some (none, z) : mR)) (mks_c h (9, 5, 100, 7) qM2).symm
def qM0 : List (Int × Int × Nat × Int) := (9, 1, 100, 160) :: qM1
theorem qMr0 (h : mH) : Cl kM_init [vO 11 9] h = some (none, mks h qM0) := by
  rw [E_M_init, gd_t (by decide), Z_hl, Z_hl, ← mk1_n (o := 9) (by decide) (by decide), qMr1]
  exact congrArg (fun z => (some (none, z) : mR)) (mks_c h (9, 1, 100, 160) qM1).symm
def L56 : List (Int × Int × Nat × Int) := (0, 0, 10, 20) :: (qX0 ++ ((0, 0, 11, 71) :: (qM0 ++ [(0, 0, 101, 1)])))
def h0X (X : Int → Int) : mH := (fun _ _ => 0, fun _ => 0, fun _ => 0, 0, 0, X)
def sX (h : mH) (X : Int → Int) : mH := (h.1, h.2.1, h.2.2.1, h.2.2.2.1, h.2.2.2.2.1, X)
theorem mk1_X (h : mH) (X : Int → Int) (q : Int × Int × Nat × Int) : mk1 (sX h X) q = sX (mk1 h q) X := by
  unfold mk1
  split
  · rfl
  · split <;> rfl
theorem mks_X (X : Int → Int) : ∀ (L : List (Int × Int × Nat × Int)) (h : mH), mks (sX h X) L = sX (mks h L) X := by
  intro L
  induction L with
  | nil => intro h; rfl
  | cons q L ih => intro h; rw [mks_c, mks_c, mk1_X, ih]
def G56 : mH := mks (h0X fun _ => 0) L56
theorem layA_k {b k : Int} (h : layA b k ≠ 0) : 0 ≤ k ∧ k < 70 := by
  refine Classical.byContradiction fun q => h ?_
  have e : ∀ j : Int, 0 ≤ j → j < 70 → ¬ k = j := fun j j0 j1 z => q (by omega)
  unfold layA
  by_cases h9 : b = 9
  · rw [if_pos h9, if_neg (e 1 (by decide) (by decide)), if_neg (e 5 (by decide) (by decide)), if_neg (e 6 (by decide) (by decide)), if_neg (e 7 (by decide) (by decide)), if_neg (e 8 (by decide) (by decide)), if_neg (e 9 (by decide) (by decide)), if_neg (e 10 (by decide) (by decide)), if_neg (e 11 (by decide) (by decide)), if_neg (e 12 (by decide) (by decide)), if_neg (e 13 (by decide) (by decide)), if_neg (e 15 (by decide) (by decide)), if_neg (e 16 (by decide) (by decide)), if_neg (e 17 (by decide) (by decide)), if_neg (e 18 (by decide) (by decide)), if_neg (e 19 (by decide) (by decide)), if_neg (e 20 (by decide) (by decide)), if_neg (e 21 (by decide) (by decide)), if_neg (e 22 (by decide) (by decide)), if_neg (e 23 (by decide) (by decide)), if_neg (e 24 (by decide) (by decide)), if_neg (e 25 (by decide) (by decide)), if_neg (e 26 (by decide) (by decide)), if_neg (e 27 (by decide) (by decide)), if_neg (e 30 (by decide) (by decide)), if_neg (e 31 (by decide) (by decide)), if_neg (e 32 (by decide) (by decide)), if_neg (e 33 (by decide) (by decide)), if_neg (e 36 (by decide) (by decide)), if_neg (e 37 (by decide) (by decide)), if_neg (e 42 (by decide) (by decide)), if_neg (e 43 (by decide) (by decide)), if_neg (e 44 (by decide) (by decide)), if_neg (e 45 (by decide) (by decide)), if_neg (e 46 (by decide) (by decide)), if_neg (e 47 (by decide) (by decide)), if_neg (e 48 (by decide) (by decide)), if_neg (e 50 (by decide) (by decide)), if_neg (e 51 (by decide) (by decide)), if_neg (e 52 (by decide) (by decide)), if_neg (e 53 (by decide) (by decide)), if_neg (e 55 (by decide) (by decide)), if_neg (e 61 (by decide) (by decide)), if_neg (e 62 (by decide) (by decide)), if_neg (e 66 (by decide) (by decide)), if_neg (e 67 (by decide) (by decide)), if_neg (e 68 (by decide) (by decide))]
  rw [if_neg h9]
  by_cases h1 : b = 1
  · rw [if_pos h1, if_neg (e 0 (by decide) (by decide)), if_neg (e 2 (by decide) (by decide)), if_neg (e 4 (by decide) (by decide)), if_neg (e 6 (by decide) (by decide)), if_neg (e 8 (by decide) (by decide)), if_neg (e 10 (by decide) (by decide)), if_neg (e 11 (by decide) (by decide))]
  rw [if_neg h1]
theorem layN_0 {b : Int} (h : layN b ≠ 0) : 0 ≤ b := by
  refine Classical.byContradiction fun q => h ?_
  have e : ∀ j : Int, 0 ≤ j → ¬ b = j := fun j j0 z => q (by omega)
  unfold layN
  rw [if_neg (e 2 (by decide)), if_neg (e 3 (by decide)), if_neg (e 4 (by decide)), if_neg (e 5 (by decide)), if_neg (e 6 (by decide)), if_neg (e 7 (by decide)), if_neg (e 8 (by decide)), if_neg (e 10 (by decide)), if_neg (e 11 (by decide)), if_neg (e 12 (by decide)), if_neg (e 13 (by decide)), if_neg (e 14 (by decide)), if_neg (e 15 (by decide)), if_neg (e 16 (by decide)), if_neg (e 17 (by decide)), if_neg (e 18 (by decide)), if_neg (e 19 (by decide)), if_neg (e 20 (by decide)), if_neg (e 21 (by decide)), if_neg (e 22 (by decide)), if_neg (e 23 (by decide)), if_neg (e 24 (by decide)), if_neg (e 25 (by decide)), if_neg (e 26 (by decide)), if_neg (e 27 (by decide)), if_neg (e 28 (by decide)), if_neg (e 29 (by decide)), if_neg (e 30 (by decide)), if_neg (e 31 (by decide)), if_neg (e 32 (by decide)), if_neg (e 33 (by decide)), if_neg (e 34 (by decide)), if_neg (e 35 (by decide)), if_neg (e 36 (by decide)), if_neg (e 37 (by decide)), if_neg (e 38 (by decide)), if_neg (e 39 (by decide)), if_neg (e 40 (by decide)), if_neg (e 41 (by decide)), if_neg (e 42 (by decide)), if_neg (e 43 (by decide)), if_neg (e 44 (by decide)), if_neg (e 45 (by decide)), if_neg (e 46 (by decide)), if_neg (e 47 (by decide)), if_neg (e 48 (by decide)), if_neg (e 49 (by decide)), if_neg (e 50 (by decide)), if_neg (e 51 (by decide)), if_neg (e 52 (by decide)), if_neg (e 53 (by decide)), if_neg (e 54 (by decide)), if_neg (e 55 (by decide)), if_neg (e 56 (by decide))]
