/-! THE PURE PART, least: the two searches for a best set -/
theorem C_pick {h : mH} {A lone : Int} {N : Nat} (fN : N < 16384) {Cv : Nat → Prop} (hU : ∀ s : Nat, 0 < s → s ≤ N → ∃ u, Cl kX_unionOf [vR 100 A, vI (s : Int)] h = some (some (vI u), h) ∧ (u = (N : Int) ↔ Cv s)) (hL : ∀ s : Nat, s ≤ N → Cv s → iand (s : Int) lone = lone) : ∀ (f b : Nat), f ≤ N → f ≤ b → b ≤ N → Cv b → (∀ s, f < s → s ≤ N → Cv s → pcn 14 b < pcn 14 s ∨ (pcn 14 b = pcn 14 s ∧ s ≤ b)) → ∃ b' : Nat, Rn kX_fewestReaching 2 [vR 100 A, vI (N : Int), vI lone, vI (b : Int), vI (f : Int)] [] h = some (some (vI (b' : Int)), h) ∧ b' ≤ N ∧ Cv b' ∧ ∀ s, 0 < s → s ≤ N → Cv s → pcn 14 b' < pcn 14 s ∨ (pcn 14 b' = pcn 14 s ∧ s ≤ b') := by
  intro f
  induction f with
  | zero =>
    intro b f1 fb b1 C R
    exact ⟨b, by rw [E_X_fewestReaching_2, if_pos (by omega)], b1, C, R⟩
  | succ f ih =>
    intro b f1 fb b1 C R
    have w1 : wI (((f + 1 : Nat) : Int) + -1) = (f : Int) := by rw [Z_wI (by omega)]; omega
    rw [E_X_fewestReaching_2, if_neg (by omega), w1]
    have keep : (Cv (f + 1) → pcn 14 b ≤ pcn 14 (f + 1)) → ∃ b' : Nat, Rn kX_fewestReaching 2 [vR 100 A, vI (N : Int), vI lone, vI (b : Int), vI (f : Int)] [] h = some (some (vI (b' : Int)), h) ∧ b' ≤ N ∧ Cv b' ∧ ∀ s, 0 < s → s ≤ N → Cv s → pcn 14 b' < pcn 14 s ∨ (pcn 14 b' = pcn 14 s ∧ s ≤ b') := fun k => ih b (by omega) (by omega) b1 C fun s s0 s1 cs => by
      by_cases q : s = f + 1
      · rw [q] at cs ⊢
        have := k cs
        omega
      · exact R s (by omega) s1 cs
    by_cases l : iand ((f + 1 : Nat) : Int) lone = lone
    · rw [if_pos l, J_bc, Z_bI, J_bc, Z_bI, bc_eq (by omega), bc_eq (by omega)]
      by_cases z : pcn 14 (f + 1) < pcn 14 b
      · obtain ⟨u, ru, hu⟩ := hU (f + 1) (by omega) f1
        rw [if_pos (by omega), ru, Z_bI]
        by_cases q : u = (N : Int)
        · rw [if_pos q]
          refine ih (f + 1) (by omega) (by omega) f1 (hu.mp q) fun s s0 s1 cs => ?_
          by_cases e : s = f + 1
          · right; rw [e]; exact ⟨rfl, Nat.le_refl _⟩
          · have := R s (by omega) s1 cs
            omega
        · rw [if_neg q]
          exact keep fun c => absurd (hu.mpr c) q
      · rw [if_neg (by omega)]
        exact keep fun _ => by omega
    · rw [if_neg l]
      exact keep fun c => absurd (hL _ f1 c) l
theorem R_pick {h : mH} {n : Nat} (hn : n ≤ 14) {Dv : Nat → Prop} {u1 u2 u4 : mV} {w : Int} (hD : ∀ t : Nat, 0 < t → t < 2 ^ n → Cl kM_doAll [vO 11 9, vI (t : Int), vI (n : Int)] h = some (some (vI (cb (Dv t))), h)) : ∀ (f t b : Nat) (u8 u9 : mV), t + f = 2 ^ n → 0 < t → b < 2 ^ n → Dv b → (∀ s, 0 < s → s < t → Dv s → pcn 14 b < pcn 14 s ∨ (pcn 14 b = pcn 14 s ∧ mrN s n ≤ mrN b n)) → ∃ (b' : Nat) (v8 v9 : mV), Rn kM_least 14 [vO 11 9, u1, u2, vI (n : Int), u4, vI w, vI (b : Int), vI (t : Int), u8, u9] [] h = some (some (vI (if w = 0 then (pcn 14 b' : Int) else (b' : Int))), h) ∧ b' < 2 ^ n ∧ Dv b' ∧ ∀ s, 0 < s → s < 2 ^ n → Dv s → pcn 14 b' < pcn 14 s ∨ (pcn 14 b' = pcn 14 s ∧ mrN s n ≤ mrN b' n) := by
  have p : 2 ^ n ≤ 2 ^ 14 := Nat.pow_le_pow_right (by decide) hn
  have sh : ishl 1 (n : Int) = ((2 ^ n : Nat) : Int) := by
    have gen : ∀ m : Nat, m ≤ 16384 → wI (m : Int) = m := fun m hm => Z_wI (by omega)
    rw [Z_shl (by omega), Int.one_mul]
    exact gen _ (Nat.le_trans p (by decide))
  intro f
  induction f with
  | zero =>
    intro t b u8 u9 e t0 b1 C R
    refine ⟨b, vU, vU, ?_, b1, C, fun s s0 s1 cs => R s s0 (by omega) cs⟩
    rw [E_M_least_14, sh, if_neg (by omega)]
    by_cases z : w = 0
    · rw [if_pos z, if_pos z, J_bc, Z_bI, bc_eq (by omega)]
    · rw [if_neg z, if_neg z]
  | succ f ih =>
    intro t b u8 u9 e t0 b1 C R
    have t1 : t < 2 ^ n := by omega
    rw [E_M_least_14, sh, if_pos (by omega), J_bc, Z_bI, J_bc, Z_bI, bc_eq (by omega), bc_eq (by omega), Z_wI (z := (t : Int) + 1) (by omega)]
    have pb : ∀ x, pcn 14 x ≤ 14 := fun x => by
      have g : ∀ k x, pcn k x ≤ k := by
        intro k
        induction k with
        | zero => intro x; exact Nat.le_refl _
        | succ k ih => intro x; show x % 2 + pcn k (x / 2) ≤ k + 1; have := ih (x / 2); omega
      exact g 14 x
    have pb1 := pb b
    have pb2 := pb t
    rw [Z_wI (z := (pcn 14 b : Int) - (pcn 14 t : Int)) (by omega)]
    have keep : ∀ u8 u9 : mV, (Dv t → pcn 14 b < pcn 14 t ∨ (pcn 14 b = pcn 14 t ∧ mrN t n ≤ mrN b n)) → ∃ (b' : Nat) (v8 v9 : mV), Rn kM_least 14 [vO 11 9, u1, u2, vI (n : Int), u4, vI w, vI (b : Int), vI ((t : Int) + 1), u8, u9] [] h = some (some (vI (if w = 0 then (pcn 14 b' : Int) else (b' : Int))), h) ∧ b' < 2 ^ n ∧ Dv b' ∧ ∀ s, 0 < s → s < 2 ^ n → Dv s → pcn 14 b' < pcn 14 s ∨ (pcn 14 b' = pcn 14 s ∧ mrN s n ≤ mrN b' n) := fun u8 u9 k => ih (t + 1) b u8 u9 (by omega) (by omega) b1 C fun s s0 s1 cs => by
      by_cases q : s = t
      · rw [q] at cs ⊢
        exact k cs
      · exact R s s0 (by omega) cs
    have take : ∀ u8 u9 : mV, Dv t → (pcn 14 t < pcn 14 b ∨ (pcn 14 t = pcn 14 b ∧ mrN b n ≤ mrN t n)) → ∃ (b' : Nat) (v8 v9 : mV), Rn kM_least 14 [vO 11 9, u1, u2, vI (n : Int), u4, vI w, vI (t : Int), vI ((t : Int) + 1), u8, u9] [] h = some (some (vI (if w = 0 then (pcn 14 b' : Int) else (b' : Int))), h) ∧ b' < 2 ^ n ∧ Dv b' ∧ ∀ s, 0 < s → s < 2 ^ n → Dv s → pcn 14 b' < pcn 14 s ∨ (pcn 14 b' = pcn 14 s ∧ mrN s n ≤ mrN b' n) := fun u8 u9 c k => ih (t + 1) t u8 u9 (by omega) (by omega) t1 c fun s s0 s1 cs => by
      by_cases q : s = t
      · rw [q]
        exact Or.inr ⟨rfl, Nat.le_refl _⟩
      · have := R s s0 (by omega) cs
        omega
    by_cases z : (pcn 14 b : Int) - (pcn 14 t : Int) ≤ 0
    · rw [if_pos z]
      by_cases z0 : (pcn 14 b : Int) - (pcn 14 t : Int) = 0
      · rw [if_pos z0]
        by_cases y : iand (iand (t : Int) (ixor (b : Int) (t : Int))) (wI (-(ixor (b : Int) (t : Int)))) = 0
        · rw [if_pos y]
          have := (tie_ok hn b1 t1).mp y
          exact keep _ _ fun _ => Or.inr ⟨by omega, by omega⟩
        · rw [if_neg y, hD t t0 t1, Z_bI]
          have ml : mrN b n < mrN t n := Classical.byContradiction fun q => y ((tie_ok hn b1 t1).mpr q)
          by_cases d : Dv t
          · rw [cb_t d, if_neg n10]
            exact take _ _ d (Or.inr ⟨by omega, by omega⟩)
          · rw [cb_f d, if_pos rfl]
            exact keep _ _ fun c => absurd c d
      · rw [if_neg z0]
        exact keep _ _ fun _ => Or.inl (by omega)
    · rw [if_neg z, hD t t0 t1, Z_bI]
      by_cases d : Dv t
      · rw [cb_t d, if_neg n10]
        exact take _ _ d (Or.inl (by omega))
      · rw [cb_f d, if_pos rfl]
        exact keep _ _ fun c => absurd c d
