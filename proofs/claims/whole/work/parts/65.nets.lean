/-! THE PURE PART, the two nets: steps of years, pairs of months -/
def stO (H : HD) (y l : Int) : Int :=
  if l % 2 = 0 then (if 1 ≤ y - H 4 (l / 2) ∧ y - H 4 (l / 2) ≤ 9999 then y - H 4 (l / 2) else 0)
  else (if 1 ≤ y + H 4 (l / 2) ∧ y + H 4 (l / 2) ≤ 9999 then y + H 4 (l / 2) else 0)
def stC (H : HD) (l : Int) : Int := H 5 (l / 2)
def prO (H : HD) (m l : Int) : Int := if H 7 l = m then H 8 l else if H 8 l = m then H 7 l else 0
def prC (H : HD) (l : Int) : Int := H 9 l
theorem stO_e {H : HD} {y l : Int} (h : l % 2 = 0) : stO H y l = if 1 ≤ y - H 4 (l / 2) ∧ y - H 4 (l / 2) ≤ 9999 then y - H 4 (l / 2) else 0 := if_pos h
theorem stO_o {H : HD} {y l : Int} (h : ¬ l % 2 = 0) : stO H y l = if 1 ≤ y + H 4 (l / 2) ∧ y + H 4 (l / 2) ≤ 9999 then y + H 4 (l / 2) else 0 := if_neg h
theorem st_ok {H : HD} (V : hdv H) : ntok 10000 (2 * H 3 0) (stO H) (stC H) := by
  obtain ⟨_, v3, _, _, vs, _⟩ := V
  refine ⟨by omega, by omega, fun y l y0 y1 l0 l1 => ?_, fun l l0 l1 => ?_, fun a b c a0 a1 ⟨l, l0, l1, e1, e2, e3⟩ => ?_⟩
  · by_cases q : l % 2 = 0
    · rw [stO_e q]
      split <;> omega
    · rw [stO_o q]
      split <;> omega
  · have := vs (l / 2) (by omega) (by omega)
    unfold stC
    omega
  · have s := vs (l / 2) (by omega) (by omega)
    by_cases q : l % 2 = 0
    · rw [stO_e q] at e1
      by_cases z : 1 ≤ a - H 4 (l / 2) ∧ a - H 4 (l / 2) ≤ 9999
      · rw [if_pos z] at e1
        refine ⟨l + 1, by omega, by omega, ?_, ?_, by omega⟩
        · rw [stO_o (by omega), show (l + 1) / 2 = l / 2 by omega, if_pos (by omega)]
          omega
        · unfold stC at e2 ⊢
          rw [show (l + 1) / 2 = l / 2 by omega]
          exact e2
      · rw [if_neg z] at e1
        omega
    · rw [stO_o q] at e1
      by_cases z : 1 ≤ a + H 4 (l / 2) ∧ a + H 4 (l / 2) ≤ 9999
      · rw [if_pos z] at e1
        refine ⟨l - 1, by omega, by omega, ?_, ?_, by omega⟩
        · rw [stO_e (by omega), show (l - 1) / 2 = l / 2 by omega, if_pos (by omega)]
          omega
        · unfold stC at e2 ⊢
          rw [show (l - 1) / 2 = l / 2 by omega]
          exact e2
      · rw [if_neg z] at e1
        omega
theorem pr_ok {H : HD} (V : hdv H) : ntok 13 (H 6 0) (prO H) (prC H) := by
  obtain ⟨_, _, v6, _, _, vp, _⟩ := V
  refine ⟨by omega, by omega, fun y l y0 y1 l0 l1 => ?_, fun l l0 l1 => ?_, fun a b c a0 a1 ⟨l, l0, l1, e1, e2, e3⟩ => ?_⟩
  · have := vp l l0 l1
    unfold prO
    split
    · omega
    · split <;> omega
  · have := vp l l0 l1
    unfold prC
    omega
  · have s := vp l l0 l1
    unfold prO at e1
    by_cases q : H 7 l = a
    · rw [if_pos q] at e1
      refine ⟨l, l0, l1, ?_, e2, by omega⟩
      unfold prO
      rw [if_neg (by omega), if_pos e1]
      exact q
    · rw [if_neg q] at e1
      by_cases z : H 8 l = a
      · rw [if_pos z] at e1
        refine ⟨l, l0, l1, ?_, e2, by omega⟩
        unfold prO
        rw [if_pos e1]
        exact z
      · rw [if_neg z] at e1
        omega
theorem nto_st {h : mH} {q : Int} {H : HD} (V : hdv H) (C : chl h q) (D : chd h q H) : nto h 8 (q + 3) 10000 (2 * H 3 0) (stO H) (stC H) := by
  obtain ⟨_, v3, _, _, vs, _⟩ := V
  obtain ⟨_, ⟨c0, c1⟩, _, ⟨_, _, n4, n5⟩, _, _, _, q0⟩ := C
  obtain ⟨⟨_, d2, _⟩, dm, _⟩ := D
  refine ⟨by omega, ?_, fun y l y0 y1 l0 l1 => ?_, fun l l0 l1 => ?_⟩
  · show Cl kSt_lineCount [vO 8 (q + 3)] h = _
    rw [E_St_lineCount, d2, Z_wI (by omega)]
  · show Cl kSt_over [vO 8 (q + 3), vI y, vI l] h = _
    have s := vs (l / 2) (by omega) (by omega)
    have e : ishr l 1 = l / 2 := Z_shr (k := 1) (by decide) (by omega)
    rw [E_St_over, e, d2, if_neg (by omega), if_pos (by omega), Z_and1, c0, n4, gd_t (by omega), gd_t (by omega), (dm (l / 2)).2.2.1]
    by_cases z : l % 2 = 0
    · rw [if_pos z, stO_e z, Z_wI (z := y - H 4 (l / 2)) (by omega), C_isYear, Z_bI]
      by_cases w : 1 ≤ y - H 4 (l / 2) ∧ y - H 4 (l / 2) ≤ 9999
      · rw [bz_t w, if_neg (by decide), if_pos w]
      · rw [bz_f w, if_pos rfl, if_neg w]
    · rw [if_neg z, stO_o z, Z_wI (z := y + H 4 (l / 2)) (by omega), C_isYear, Z_bI]
      by_cases w : 1 ≤ y + H 4 (l / 2) ∧ y + H 4 (l / 2) ≤ 9999
      · rw [bz_t w, if_neg (by decide), if_pos w]
      · rw [bz_f w, if_pos rfl, if_neg w]
  · show Cl kSt_costOf [vO 8 (q + 3), vI l] h = _
    have e : ishr l 1 = l / 2 := Z_shr (k := 1) (by decide) (by omega)
    rw [E_St_costOf, e, d2, if_neg (by omega), if_pos (by omega), c1, n5, gd_t (by omega), (dm (l / 2)).2.2.2.1]
    rfl
theorem nto_pr {h : mH} {q : Int} {H : HD} (V : hdv H) (C : chl h q) (D : chd h q H) : nto h 4 (q + 6) 13 (H 6 0) (prO H) (prC H) := by
  obtain ⟨_, _, v6, _, _, vp, _⟩ := V
  obtain ⟨_, _, ⟨c0, c1, c2⟩, _, ⟨n7, n8, n9⟩, _, _, q0⟩ := C
  obtain ⟨⟨_, _, d3⟩, dm, _⟩ := D
  refine ⟨by omega, ?_, fun y l y0 y1 l0 l1 => ?_, fun l l0 l1 => ?_⟩
  · show Cl kPr_lineCount [vO 4 (q + 6)] h = _
    rw [E_Pr_lineCount, d3]
  · show Cl kPr_over [vO 4 (q + 6), vI y, vI l] h = _
    rw [E_Pr_over, d3, if_neg (by omega), if_pos (by omega), c0, c1, n7, n8, gd_t (by omega), gd_t (by omega), gd_t (by omega), gd_t (by omega), (dm l).2.2.2.2.1, (dm l).2.2.2.2.2.1]
    unfold prO
    by_cases z : H 7 l = y
    · rw [if_pos z, if_pos z]
    · rw [if_neg z, if_neg z]
      by_cases w : H 8 l = y
      · rw [if_pos w, if_pos w]
      · rw [if_neg w, if_neg w]
  · show Cl kPr_costOf [vO 4 (q + 6), vI l] h = _
    rw [E_Pr_costOf, d3, if_neg (by omega), if_pos (by omega), c2, n9, gd_t (by omega), (dm l).2.2.2.2.2.2.1]
    rfl
