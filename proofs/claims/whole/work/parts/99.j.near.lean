/-! THE PURE PART, least: the reference's near years, how a row begins -/
/-- what clearing the row writes -/
def WNy : Int → Int → Prop := fun b k => b = 36 ∨ (b = 33 ∧ 80008 ≤ k ∧ k < 90009)
theorem R_ny3 {a x2 x3 x4 x5 : Int} (u7 u8 : mV) : ∀ (m : Nat) (y : Int) (h : mH), y + m = 10001 → 0 ≤ y → lay h → (∀ u, 1 ≤ u → u < y → u ≤ 9999 → flu h 8 u = 1152921504606846976 ∧ h.M 36 u = 0) → ∃ h1, Rn kM_nearYears 3 [vO 11 9, vI a, vI x2, vI x3, vI x4, vI x5, vI y, u7, u8] [] h = Rn kM_nearYears 3 [vO 11 9, vI a, vI x2, vI x3, vI x4, vI x5, vI 10001, u7, u8] [] h1 ∧ Ew WNy h h1 ∧ ∀ u, 1 ≤ u → u ≤ 9999 → flu h1 8 u = 1152921504606846976 ∧ h1.M 36 u = 0 := by
  intro m
  induction m with
  | zero =>
    intro y h e y0 L A
    exact ⟨h, by rw [show y = 10001 by omega], Ew.rf _ _, fun u u0 u1 => A u u0 (by omega) u1⟩
  | succ m ih =>
    intro y h e y0 L A
    have La := L.st (1152921504606846976) (layA_n (b := 33) (80008 + y) (by decide) (by decide))
    have Lb := La.st 0 (layA_n (b := 36) y (by decide) (by decide))
    have x : Ew WNy h ((h.set 33 (80008 + y) 1152921504606846976).set 36 y 0) := (Ew.st (W := WNy) h _ (by unfold WNy; omega)).tr (Ew.st _ _ (by unfold WNy; omega))
    rw [E_M_nearYears_3, if_pos (by omega), Z_wI (z := 80008 + y) (by omega), lm30 L, ln33 L, gd_t (by omega), Z_hl, lm33 La, ln36 La, gd_t (by omega), gd_t (by decide), Z_hl, Z_wI (z := y + 1) (by omega)]
    obtain ⟨h1, r, x1, B⟩ := ih (y + 1) _ (by omega) (by omega) Lb fun u u0 u1 u2 => by
      unfold flu
      by_cases q : u = y
      · rw [q]
        exact ⟨(Z_Mn (by omega)).trans (by rw [show 10001 * 8 + y = 80008 + y by omega]; exact Z_Mt ..), Z_Mt ..⟩
      · have := A u u0 (by omega) u2
        unfold flu at this
        exact ⟨(Z_Mn (by omega)).trans ((Z_Mn (by omega)).trans this.1), (Z_Mn (by omega)).trans ((Z_Mn (by omega)).trans this.2)⟩
    exact ⟨h1, r, x.tr x1, B⟩
