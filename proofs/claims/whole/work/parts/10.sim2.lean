/-! THE TIE, 3: what an instruction that went on says of its stack (inversions) -/
theorem gd_some {α : Type} {c : Prop} [Decidable c] {x : Option α} {r : α} (h : gd c x = some r) : c ∧ x = some r := by
  unfold gd at h
  by_cases hc : c
  · rw [if_pos hc] at h; exact ⟨hc, h⟩
  · rw [if_neg hc] at h; cases h
theorem if_some {α : Type} {c : Prop} [Decidable c] {x : Option α} {r : α} (h : (if c then x else none) = some r) : c ∧ x = some r := by
  by_cases hc : c
  · rw [if_pos hc] at h; exact ⟨hc, h⟩
  · rw [if_neg hc] at h; cases h
section INV
variable {lo st : List mV} {h : mH} {k : List mV → List mV → mH → mR} {r : Option mV × mH}
theorem inv_il {i : Nat} (e : s_il i lo st h k = some r) : ∃ z, mget lo i = vI z ∧ k lo (vI z :: st) h = some r := by
  unfold s_il at e; split at e
  · rename_i z hz; exact ⟨z, hz, e⟩
  · cases e
theorem inv_ll {i : Nat} (e : s_ll i lo st h k = some r) : ∃ z, mget lo i = vL z ∧ isU (mget lo (i + 1)) = true ∧ k lo (vL z :: st) h = some r := by
  unfold s_ll at e; split at e
  · rename_i z u hz hu; exact ⟨z, hz, by rw [hu]; rfl, e⟩
  · cases e
theorem inv_al {i : Nat} (e : s_al i lo st h k = some r) : (∃ q, mget lo i = .inr (.inr (.inl q)) ∧ k lo (.inr (.inr (.inl q)) :: st) h = some r) ∨ (∃ q, mget lo i = .inr (.inr (.inr (.inl q))) ∧ k lo (.inr (.inr (.inr (.inl q))) :: st) h = some r) ∨ ∃ j, mget lo i = vS j ∧ k lo (vS j :: st) h = some r := by
  unfold s_al at e; split at e
  · rename_i z hz; exact Or.inl ⟨z, hz, e⟩
  · rename_i z hz; exact Or.inr (Or.inl ⟨z, hz, e⟩)
  · rename_i z hz; exact Or.inr (Or.inr ⟨z, hz, e⟩)
  · cases e
theorem inv_is {i : Nat} (e : s_is i lo st h k = some r) : ∃ z rr, st = vI z :: rr ∧ k (mput lo i (vI z)) rr h = some r := by
  unfold s_is at e; split at e
  · exact ⟨_, _, rfl, e⟩
  · cases e
theorem inv_ls {i : Nat} (e : s_ls i lo st h k = some r) : ∃ z rr, st = vL z :: rr ∧ k (mput (mput lo i (vL z)) (i + 1) vU) rr h = some r := by
  unfold s_ls at e; split at e
  · exact ⟨_, _, rfl, e⟩
  · cases e
theorem inv_as {i : Nat} (e : s_as i lo st h k = some r) : ∃ (q : Nat × Int) (rr : List mV), (st = .inr (.inr (.inl q)) :: rr ∨ st = .inr (.inr (.inr (.inl q))) :: rr) ∧ k (mput lo i (.inr (.inr (.inl q)))) rr h = some r := by
  unfold s_as at e; split at e
  · exact ⟨_, _, Or.inl rfl, e⟩
  · exact ⟨_, _, Or.inr rfl, e⟩
  · cases e
theorem inv_inc {i : Nat} {n : Int} (e : s_inc i n lo st h k = some r) : ∃ z, mget lo i = vI z ∧ k (mput lo i (vI (wI (z + n)))) st h = some r := by
  unfold s_inc at e; split at e
  · rename_i z hz; exact ⟨z, hz, e⟩
  · cases e
theorem inv_dup (e : s_dup lo st h k = some r) : ∃ v rr, st = v :: rr ∧ isLong v = false ∧ isU v = false ∧ k lo (v :: v :: rr) h = some r := by
  unfold s_dup at e; split at e
  · exact ⟨_, _, rfl, rfl, rfl, e⟩
  · exact ⟨_, _, rfl, rfl, rfl, e⟩
  · exact ⟨_, _, rfl, rfl, rfl, e⟩
  · cases e
theorem inv_pop (e : s_pop lo st h k = some r) : ∃ v rr, st = v :: rr ∧ isLong v = false ∧ k lo rr h = some r := by
  unfold s_pop at e; split at e
  · exact ⟨_, _, rfl, rfl, e⟩
  · exact ⟨_, _, rfl, rfl, e⟩
  · exact ⟨_, _, rfl, rfl, e⟩
  · cases e
theorem inv_dup2 (e : s_dup2 lo st h k = some r) : ∃ z q rr, st = vI z :: .inr (.inr (.inl q)) :: rr ∧ k lo (vI z :: .inr (.inr (.inl q)) :: vI z :: .inr (.inr (.inl q)) :: rr) h = some r := by
  unfold s_dup2 at e; split at e
  · exact ⟨_, _, _, rfl, e⟩
  · cases e
theorem inv_i2 {f : Int → Int → Int} (e : s_i2 f lo st h k = some r) : ∃ y x rr, st = vI y :: vI x :: rr ∧ k lo (vI (f x y) :: rr) h = some r := by
  unfold s_i2 at e; split at e
  · exact ⟨_, _, _, rfl, e⟩
  · cases e
theorem inv_l2 {f : Int → Int → Int} (e : s_l2 f lo st h k = some r) : ∃ y x rr, st = vL y :: vL x :: rr ∧ k lo (vL (f x y) :: rr) h = some r := by
  unfold s_l2 at e; split at e
  · exact ⟨_, _, _, rfl, e⟩
  · cases e
theorem inv_idiv (e : s_idiv lo st h k = some r) : ∃ y x rr, st = vI y :: vI x :: rr ∧ y ≠ 0 ∧ k lo (vI (wI (x.tdiv y)) :: rr) h = some r := by
  unfold s_idiv at e; split at e
  · obtain ⟨a, b⟩ := gd_some e; exact ⟨_, _, _, rfl, a, b⟩
  · cases e
theorem inv_irem (e : s_irem lo st h k = some r) : ∃ y x rr, st = vI y :: vI x :: rr ∧ y ≠ 0 ∧ k lo (vI (x.tmod y) :: rr) h = some r := by
  unfold s_irem at e; split at e
  · obtain ⟨a, b⟩ := gd_some e; exact ⟨_, _, _, rfl, a, b⟩
  · cases e
theorem inv_ldiv (e : s_ldiv lo st h k = some r) : ∃ y x rr, st = vL y :: vL x :: rr ∧ y ≠ 0 ∧ k lo (vL (wL (x.tdiv y)) :: rr) h = some r := by
  unfold s_ldiv at e; split at e
  · obtain ⟨a, b⟩ := gd_some e; exact ⟨_, _, _, rfl, a, b⟩
  · cases e
theorem inv_lrem (e : s_lrem lo st h k = some r) : ∃ y x rr, st = vL y :: vL x :: rr ∧ y ≠ 0 ∧ k lo (vL (x.tmod y) :: rr) h = some r := by
  unfold s_lrem at e; split at e
  · obtain ⟨a, b⟩ := gd_some e; exact ⟨_, _, _, rfl, a, b⟩
  · cases e
theorem inv_ineg (e : s_ineg lo st h k = some r) : ∃ x rr, st = vI x :: rr ∧ k lo (vI (wI (-x)) :: rr) h = some r := by
  unfold s_ineg at e; split at e
  · exact ⟨_, _, rfl, e⟩
  · cases e
theorem inv_lshl (e : s_lshl lo st h k = some r) : ∃ y x rr, st = vI y :: vL x :: rr ∧ k lo (vL (lshl64 x y) :: rr) h = some r := by
  unfold s_lshl at e; split at e
  · exact ⟨_, _, _, rfl, e⟩
  · cases e
theorem inv_lushr (e : s_lushr lo st h k = some r) : ∃ y x rr, st = vI y :: vL x :: rr ∧ k lo (vL (lushr64 x y) :: rr) h = some r := by
  unfold s_lushr at e; split at e
  · exact ⟨_, _, _, rfl, e⟩
  · cases e
theorem inv_lcmp (e : s_lcmp lo st h k = some r) : ∃ y x rr, st = vL y :: vL x :: rr ∧ k lo (vI (lcmp64 x y) :: rr) h = some r := by
  unfold s_lcmp at e; split at e
  · exact ⟨_, _, _, rfl, e⟩
  · cases e
theorem inv_i2l (e : s_i2l lo st h k = some r) : ∃ x rr, st = vI x :: rr ∧ k lo (vL x :: rr) h = some r := by
  unfold s_i2l at e; split at e
  · exact ⟨_, _, rfl, e⟩
  · cases e
theorem inv_l2i (e : s_l2i lo st h k = some r) : ∃ x rr, st = vL x :: rr ∧ k lo (vI (wI x) :: rr) h = some r := by
  unfold s_l2i at e; split at e
  · exact ⟨_, _, rfl, e⟩
  · cases e
theorem inv_get {ci kd : Nat} {f : Int} (e : s_get ci f kd lo st h k = some r) : ∃ a rr, ((st = vR ci a :: rr ∧ a ≠ 0) ∨ st = vO ci a :: rr) ∧ k lo (mk_v kd (h.M a f) :: rr) h = some r := by
  unfold s_get at e; split at e
  · replace e := if_some e
    obtain ⟨t, e⟩ := e
    subst t
    obtain ⟨x, e⟩ := gd_some e
    exact ⟨_, _, Or.inl ⟨rfl, x⟩, e⟩
  · replace e := if_some e
    obtain ⟨t, e⟩ := e
    subst t
    exact ⟨_, _, Or.inr rfl, e⟩
  · cases e
/-- a value of a kind, its number -/
def isV (kd : Nat) (v : mV) (z : Int) : Prop := match kd with
  | 0 => v = vI z
  | 1 => v = vL z
  | t + 2 => v = vR t z ∨ v = vO t z
theorem inv_un {kd : Nat} {v : mV} {kk : Int → mR} (e : un_v kd v kk = some r) : ∃ z, isV kd v z ∧ kk z = some r := by
  unfold un_v at e; split at e
  · exact ⟨_, rfl, e⟩
  · exact ⟨_, rfl, e⟩
  · replace e := if_some e
    obtain ⟨t, e⟩ := e
    subst t
    exact ⟨_, Or.inl rfl, e⟩
  · replace e := if_some e
    obtain ⟨t, e⟩ := e
    subst t
    exact ⟨_, Or.inr rfl, e⟩
  · cases e
theorem inv_put {ci kd : Nat} {f : Int} (e : s_put ci f kd lo st h k = some r) : ∃ v a rr z, ((st = v :: vR ci a :: rr ∧ a ≠ 0) ∨ st = v :: vO ci a :: rr) ∧ isV kd v z ∧ k lo rr (h.set a f z) = some r := by
  unfold s_put at e; split at e
  · replace e := if_some e
    obtain ⟨t, e⟩ := e
    subst t
    obtain ⟨x, e⟩ := gd_some e
    obtain ⟨z, i, e⟩ := inv_un e
    exact ⟨_, _, _, z, Or.inl ⟨rfl, x⟩, i, e⟩
  · replace e := if_some e
    obtain ⟨t, e⟩ := e
    subst t
    obtain ⟨z, i, e⟩ := inv_un e
    exact ⟨_, _, _, z, Or.inr rfl, i, e⟩
  · cases e
theorem inv_iald {ta kd : Nat} (e : s_iald ta kd lo st h k = some r) : ∃ i a rr, st = vI i :: vR ta a :: rr ∧ (0 ≤ i ∧ i < h.N a ∧ a ≠ 0) ∧ k lo (mk_v kd (h.M a i) :: rr) h = some r := by
  unfold s_iald at e; split at e
  · replace e := if_some e
    obtain ⟨t, e⟩ := e
    subst t
    obtain ⟨x, e⟩ := gd_some e
    exact ⟨_, _, _, rfl, x, e⟩
  · cases e
theorem inv_fald {j : Nat} {n : Int} (e : s_fald j n lo st h k = some r) : ∃ i rr, st = vI i :: vS j :: rr ∧ (0 ≤ i ∧ i < n) ∧ k lo (vI (fzM j i) :: rr) h = some r := by
  unfold s_fald at e; split at e
  · replace e := if_some e
    obtain ⟨t, e⟩ := e
    subst t
    obtain ⟨x, e⟩ := gd_some e
    exact ⟨_, _, rfl, x, e⟩
  · cases e
theorem inv_iast {ta kd : Nat} (e : s_iast ta kd lo st h k = some r) : ∃ v i a rr z, st = v :: vI i :: vR ta a :: rr ∧ (0 ≤ i ∧ i < h.N a ∧ a ≠ 0) ∧ isV kd v z ∧ k lo rr (h.set a i z) = some r := by
  unfold s_iast at e; split at e
  · replace e := if_some e
    obtain ⟨t, e⟩ := e
    subst t
    obtain ⟨x, e⟩ := gd_some e
    obtain ⟨z, i, e⟩ := inv_un e
    exact ⟨_, _, _, _, z, rfl, x, i, e⟩
  · cases e
theorem inv_zast (e : s_zast lo st h k = some r) : ∃ z i a rr, st = vI z :: vI i :: vR 102 a :: rr ∧ (0 ≤ i ∧ i < h.N a ∧ a ≠ 0) ∧ (z = 0 ∨ z = 1) ∧ k lo rr (h.set a i z) = some r := by
  unfold s_zast at e; split at e
  · replace e := if_some e
    obtain ⟨t, e⟩ := e
    subst t
    obtain ⟨x, e⟩ := gd_some e
    obtain ⟨y, e⟩ := gd_some e
    exact ⟨_, _, _, _, rfl, x, y, e⟩
  · cases e
theorem inv_aast {ta kd : Nat} (e : s_aast ta kd lo st h k = some r) : ∃ v i a rr z, st = v :: vI i :: vR ta a :: rr ∧ (0 ≤ i ∧ i < h.N a ∧ a ≠ 0) ∧ isV kd v z ∧ z ≠ 0 ∧ k lo rr (h.set a i z) = some r := by
  unfold s_aast at e; split at e
  · replace e := if_some e
    obtain ⟨t, e⟩ := e
    subst t
    obtain ⟨x, e⟩ := gd_some e
    obtain ⟨z, i, e⟩ := inv_un e
    obtain ⟨y, e⟩ := gd_some e
    exact ⟨_, _, _, _, z, rfl, x, i, y, e⟩
  · cases e
theorem inv_alen {ta : Nat} (e : s_alen ta lo st h k = some r) : ∃ a rr, st = vR ta a :: rr ∧ a ≠ 0 ∧ k lo (vI (h.N a) :: rr) h = some r := by
  unfold s_alen at e; split at e
  · replace e := if_some e
    obtain ⟨t, e⟩ := e
    subst t
    obtain ⟨x, e⟩ := gd_some e
    exact ⟨_, _, rfl, x, e⟩
  · cases e
theorem inv_newa {ta : Nat} (e : s_newa ta lo st h k = some r) : ∃ n rr, st = vI n :: rr ∧ (0 ≤ n ∧ n ≤ 1000000) ∧ k lo (vR ta h.top :: rr) (h.new ta n) = some r := by
  unfold s_newa at e; split at e
  · obtain ⟨x, e⟩ := gd_some e
    exact ⟨_, _, rfl, x, e⟩
  · cases e
theorem inv_oi (e : s_oi lo st h k = some r) : ∃ q, st = [.inr (.inr (.inr (.inl q)))] ∧ k lo [] h = some r := by
  unfold s_oi at e; split at e
  · exact ⟨_, rfl, e⟩
  · cases e
theorem inv_wk (e : s_wk lo st h k = some r) : ∃ q rr, st = .inr (.inr (.inr (.inl q))) :: rr ∧ k lo (.inr (.inr (.inl q)) :: rr) h = some r := by
  unfold s_wk at e; split at e
  · exact ⟨_, _, rfl, e⟩
  · cases e
theorem inv_xlen (e : s_xlen lo st h k = some r) : ∃ rr, st = vS 2 :: rr ∧ k lo (vI (h.X (-1)) :: rr) h = some r := by
  unfold s_xlen at e; split at e
  · replace e := if_some e
    obtain ⟨t, e⟩ := e
    subst t
    exact ⟨_, rfl, e⟩
  · cases e
theorem inv_xald (e : s_xald lo st h k = some r) : ∃ i rr, st = vI i :: vS 2 :: rr ∧ (0 ≤ i ∧ i < h.X (-1)) ∧ k lo (vI (h.X i) :: rr) h = some r := by
  unfold s_xald at e; split at e
  · replace e := if_some e
    obtain ⟨t, e⟩ := e
    subst t
    obtain ⟨x, e⟩ := gd_some e
    exact ⟨_, _, rfl, x, e⟩
  · cases e
end INV
