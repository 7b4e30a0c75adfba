/-! each instruction goes on in one way; each end of a block is a jump, an answer or a call -/
theorem ok_s_c (z : Int) : iok (s_c z) := by
  intro l s h
  unfold s_c
  repeat' split
  all_goals first
    | exact Or.inl fun _ => rfl
    | exact Or.inr ⟨_, _, _, mExt.rf _, fun _ => rfl⟩
    | exact Or.inr ⟨_, _, _, mExt.st _ _ _ _, fun _ => rfl⟩
    | exact Or.inr ⟨_, _, _, mExt.nw _ _ _, fun _ => rfl⟩
theorem ok_s_cl (z : Int) : iok (s_cl z) := by
  intro l s h
  unfold s_cl
  repeat' split
  all_goals first
    | exact Or.inl fun _ => rfl
    | exact Or.inr ⟨_, _, _, mExt.rf _, fun _ => rfl⟩
    | exact Or.inr ⟨_, _, _, mExt.st _ _ _ _, fun _ => rfl⟩
    | exact Or.inr ⟨_, _, _, mExt.nw _ _ _, fun _ => rfl⟩
theorem ok_s_nul (t : Nat) : iok (s_nul t) := by
  intro l s h
  unfold s_nul
  repeat' split
  all_goals first
    | exact Or.inl fun _ => rfl
    | exact Or.inr ⟨_, _, _, mExt.rf _, fun _ => rfl⟩
    | exact Or.inr ⟨_, _, _, mExt.st _ _ _ _, fun _ => rfl⟩
    | exact Or.inr ⟨_, _, _, mExt.nw _ _ _, fun _ => rfl⟩
theorem ok_s_gs (j : Nat) : iok (s_gs j) := by
  intro l s h
  unfold s_gs
  repeat' split
  all_goals first
    | exact Or.inl fun _ => rfl
    | exact Or.inr ⟨_, _, _, mExt.rf _, fun _ => rfl⟩
    | exact Or.inr ⟨_, _, _, mExt.st _ _ _ _, fun _ => rfl⟩
    | exact Or.inr ⟨_, _, _, mExt.nw _ _ _, fun _ => rfl⟩
theorem ok_s_il (i : Nat) : iok (s_il i) := by
  intro l s h
  unfold s_il
  repeat' split
  all_goals first
    | exact Or.inl fun _ => rfl
    | exact Or.inr ⟨_, _, _, mExt.rf _, fun _ => rfl⟩
    | exact Or.inr ⟨_, _, _, mExt.st _ _ _ _, fun _ => rfl⟩
    | exact Or.inr ⟨_, _, _, mExt.nw _ _ _, fun _ => rfl⟩
theorem ok_s_ll (i : Nat) : iok (s_ll i) := by
  intro l s h
  unfold s_ll
  repeat' split
  all_goals first
    | exact Or.inl fun _ => rfl
    | exact Or.inr ⟨_, _, _, mExt.rf _, fun _ => rfl⟩
    | exact Or.inr ⟨_, _, _, mExt.st _ _ _ _, fun _ => rfl⟩
    | exact Or.inr ⟨_, _, _, mExt.nw _ _ _, fun _ => rfl⟩
theorem ok_s_al (i : Nat) : iok (s_al i) := by
  intro l s h
  unfold s_al
  repeat' split
  all_goals first
    | exact Or.inl fun _ => rfl
    | exact Or.inr ⟨_, _, _, mExt.rf _, fun _ => rfl⟩
    | exact Or.inr ⟨_, _, _, mExt.st _ _ _ _, fun _ => rfl⟩
    | exact Or.inr ⟨_, _, _, mExt.nw _ _ _, fun _ => rfl⟩
theorem ok_s_is (i : Nat) : iok (s_is i) := by
  intro l s h
  unfold s_is
  repeat' split
  all_goals first
    | exact Or.inl fun _ => rfl
    | exact Or.inr ⟨_, _, _, mExt.rf _, fun _ => rfl⟩
    | exact Or.inr ⟨_, _, _, mExt.st _ _ _ _, fun _ => rfl⟩
    | exact Or.inr ⟨_, _, _, mExt.nw _ _ _, fun _ => rfl⟩
theorem ok_s_as (i : Nat) : iok (s_as i) := by
  intro l s h
  unfold s_as
  repeat' split
  all_goals first
    | exact Or.inl fun _ => rfl
    | exact Or.inr ⟨_, _, _, mExt.rf _, fun _ => rfl⟩
    | exact Or.inr ⟨_, _, _, mExt.st _ _ _ _, fun _ => rfl⟩
    | exact Or.inr ⟨_, _, _, mExt.nw _ _ _, fun _ => rfl⟩
theorem ok_s_ls (i : Nat) : iok (s_ls i) := by
  intro l s h
  unfold s_ls
  repeat' split
  all_goals first
    | exact Or.inl fun _ => rfl
    | exact Or.inr ⟨_, _, _, mExt.rf _, fun _ => rfl⟩
    | exact Or.inr ⟨_, _, _, mExt.st _ _ _ _, fun _ => rfl⟩
    | exact Or.inr ⟨_, _, _, mExt.nw _ _ _, fun _ => rfl⟩
theorem ok_s_inc (i : Nat) (n : Int) : iok (s_inc i n) := by
  intro l s h
  unfold s_inc
  repeat' split
  all_goals first
    | exact Or.inl fun _ => rfl
    | exact Or.inr ⟨_, _, _, mExt.rf _, fun _ => rfl⟩
    | exact Or.inr ⟨_, _, _, mExt.st _ _ _ _, fun _ => rfl⟩
    | exact Or.inr ⟨_, _, _, mExt.nw _ _ _, fun _ => rfl⟩
theorem ok_s_dup : iok (s_dup) := by
  intro l s h
  unfold s_dup
  repeat' split
  all_goals first
    | exact Or.inl fun _ => rfl
    | exact Or.inr ⟨_, _, _, mExt.rf _, fun _ => rfl⟩
    | exact Or.inr ⟨_, _, _, mExt.st _ _ _ _, fun _ => rfl⟩
    | exact Or.inr ⟨_, _, _, mExt.nw _ _ _, fun _ => rfl⟩
theorem ok_s_pop : iok (s_pop) := by
  intro l s h
  unfold s_pop
  repeat' split
  all_goals first
    | exact Or.inl fun _ => rfl
    | exact Or.inr ⟨_, _, _, mExt.rf _, fun _ => rfl⟩
    | exact Or.inr ⟨_, _, _, mExt.st _ _ _ _, fun _ => rfl⟩
    | exact Or.inr ⟨_, _, _, mExt.nw _ _ _, fun _ => rfl⟩
theorem ok_s_dup2 : iok (s_dup2) := by
  intro l s h
  unfold s_dup2
  repeat' split
  all_goals first
    | exact Or.inl fun _ => rfl
    | exact Or.inr ⟨_, _, _, mExt.rf _, fun _ => rfl⟩
    | exact Or.inr ⟨_, _, _, mExt.st _ _ _ _, fun _ => rfl⟩
    | exact Or.inr ⟨_, _, _, mExt.nw _ _ _, fun _ => rfl⟩
theorem ok_s_i2 (f : Int → Int → Int) : iok (s_i2 f) := by
  intro l s h
  unfold s_i2
  repeat' split
  all_goals first
    | exact Or.inl fun _ => rfl
    | exact Or.inr ⟨_, _, _, mExt.rf _, fun _ => rfl⟩
    | exact Or.inr ⟨_, _, _, mExt.st _ _ _ _, fun _ => rfl⟩
    | exact Or.inr ⟨_, _, _, mExt.nw _ _ _, fun _ => rfl⟩
theorem ok_s_ineg : iok (s_ineg) := by
  intro l s h
  unfold s_ineg
  repeat' split
  all_goals first
    | exact Or.inl fun _ => rfl
    | exact Or.inr ⟨_, _, _, mExt.rf _, fun _ => rfl⟩
    | exact Or.inr ⟨_, _, _, mExt.st _ _ _ _, fun _ => rfl⟩
    | exact Or.inr ⟨_, _, _, mExt.nw _ _ _, fun _ => rfl⟩
theorem ok_s_l2 (f : Int → Int → Int) : iok (s_l2 f) := by
  intro l s h
  unfold s_l2
  repeat' split
  all_goals first
    | exact Or.inl fun _ => rfl
    | exact Or.inr ⟨_, _, _, mExt.rf _, fun _ => rfl⟩
    | exact Or.inr ⟨_, _, _, mExt.st _ _ _ _, fun _ => rfl⟩
    | exact Or.inr ⟨_, _, _, mExt.nw _ _ _, fun _ => rfl⟩
theorem ok_s_lshl : iok (s_lshl) := by
  intro l s h
  unfold s_lshl
  repeat' split
  all_goals first
    | exact Or.inl fun _ => rfl
    | exact Or.inr ⟨_, _, _, mExt.rf _, fun _ => rfl⟩
    | exact Or.inr ⟨_, _, _, mExt.st _ _ _ _, fun _ => rfl⟩
    | exact Or.inr ⟨_, _, _, mExt.nw _ _ _, fun _ => rfl⟩
theorem ok_s_lushr : iok (s_lushr) := by
  intro l s h
  unfold s_lushr
  repeat' split
  all_goals first
    | exact Or.inl fun _ => rfl
    | exact Or.inr ⟨_, _, _, mExt.rf _, fun _ => rfl⟩
    | exact Or.inr ⟨_, _, _, mExt.st _ _ _ _, fun _ => rfl⟩
    | exact Or.inr ⟨_, _, _, mExt.nw _ _ _, fun _ => rfl⟩
theorem ok_s_lcmp : iok (s_lcmp) := by
  intro l s h
  unfold s_lcmp
  repeat' split
  all_goals first
    | exact Or.inl fun _ => rfl
    | exact Or.inr ⟨_, _, _, mExt.rf _, fun _ => rfl⟩
    | exact Or.inr ⟨_, _, _, mExt.st _ _ _ _, fun _ => rfl⟩
    | exact Or.inr ⟨_, _, _, mExt.nw _ _ _, fun _ => rfl⟩
theorem ok_s_i2l : iok (s_i2l) := by
  intro l s h
  unfold s_i2l
  repeat' split
  all_goals first
    | exact Or.inl fun _ => rfl
    | exact Or.inr ⟨_, _, _, mExt.rf _, fun _ => rfl⟩
    | exact Or.inr ⟨_, _, _, mExt.st _ _ _ _, fun _ => rfl⟩
    | exact Or.inr ⟨_, _, _, mExt.nw _ _ _, fun _ => rfl⟩
theorem ok_s_l2i : iok (s_l2i) := by
  intro l s h
  unfold s_l2i
  repeat' split
  all_goals first
    | exact Or.inl fun _ => rfl
    | exact Or.inr ⟨_, _, _, mExt.rf _, fun _ => rfl⟩
    | exact Or.inr ⟨_, _, _, mExt.st _ _ _ _, fun _ => rfl⟩
    | exact Or.inr ⟨_, _, _, mExt.nw _ _ _, fun _ => rfl⟩
theorem ok_s_new (ci : Nat) (n : Int) : iok (s_new ci n) := by
  intro l s h
  unfold s_new
  repeat' split
  all_goals first
    | exact Or.inl fun _ => rfl
    | exact Or.inr ⟨_, _, _, mExt.rf _, fun _ => rfl⟩
    | exact Or.inr ⟨_, _, _, mExt.st _ _ _ _, fun _ => rfl⟩
    | exact Or.inr ⟨_, _, _, mExt.nw _ _ _, fun _ => rfl⟩
theorem ok_s_oi : iok (s_oi) := by
  intro l s h
  unfold s_oi
  repeat' split
  all_goals first
    | exact Or.inl fun _ => rfl
    | exact Or.inr ⟨_, _, _, mExt.rf _, fun _ => rfl⟩
    | exact Or.inr ⟨_, _, _, mExt.st _ _ _ _, fun _ => rfl⟩
    | exact Or.inr ⟨_, _, _, mExt.nw _ _ _, fun _ => rfl⟩
theorem ok_s_xlen : iok (s_xlen) := by
  intro l s h
  unfold s_xlen
  repeat' split
  all_goals first
    | exact Or.inl fun _ => rfl
    | exact Or.inr ⟨_, _, _, mExt.rf _, fun _ => rfl⟩
    | exact Or.inr ⟨_, _, _, mExt.st _ _ _ _, fun _ => rfl⟩
    | exact Or.inr ⟨_, _, _, mExt.nw _ _ _, fun _ => rfl⟩
theorem ok_s_wk : iok s_wk := by
  intro l s h
  unfold s_wk
  repeat' split
  all_goals first
    | exact Or.inl fun _ => rfl
    | exact Or.inr ⟨_, _, _, mExt.rf _, fun _ => rfl⟩
    | exact Or.inr ⟨_, _, _, mExt.st _ _ _ _, fun _ => rfl⟩
    | exact Or.inr ⟨_, _, _, mExt.nw _ _ _, fun _ => rfl⟩
theorem ok_s_iadd : iok s_iadd := ok_s_i2 _
theorem ok_s_isub : iok s_isub := ok_s_i2 _
theorem ok_s_imul : iok s_imul := ok_s_i2 _
theorem ok_s_iand : iok s_iand := ok_s_i2 _
theorem ok_s_ior : iok s_ior := ok_s_i2 _
theorem ok_s_ixor : iok s_ixor := ok_s_i2 _
theorem ok_s_ishl : iok s_ishl := ok_s_i2 _
theorem ok_s_ishr : iok s_ishr := ok_s_i2 _
theorem ok_s_iushr : iok s_iushr := ok_s_i2 _
theorem ok_s_ladd : iok s_ladd := ok_s_l2 _
theorem ok_s_lsub : iok s_lsub := ok_s_l2 _
theorem ok_s_lmul : iok s_lmul := ok_s_l2 _
theorem ok_s_land : iok s_land := ok_s_l2 _
theorem ok_s_lor : iok s_lor := ok_s_l2 _
theorem ok_gd {c : Prop} [Decidable c] {h : mH} (l' s' : List mV) (h' : mH) (x : mExt h h') : (∀ k : List mV → List mV → mH → mR, gd c (k l' s' h') = none) ∨ ∃ l2 s2 h2, mExt h h2 ∧ ∀ k : List mV → List mV → mH → mR, gd c (k l' s' h') = k l2 s2 h2 := by
  by_cases hc : c
  · exact Or.inr ⟨_, _, _, x, fun k => if_pos hc⟩
  · exact Or.inl fun k => if_neg hc
theorem ok_gd2 {c d : Prop} [Decidable c] [Decidable d] {h : mH} (l' s' : List mV) (h' : mH) (x : mExt h h') : (∀ k : List mV → List mV → mH → mR, gd c (gd d (k l' s' h')) = none) ∨ ∃ l2 s2 h2, mExt h h2 ∧ ∀ k : List mV → List mV → mH → mR, gd c (gd d (k l' s' h')) = k l2 s2 h2 := by
  by_cases hc : c
  · by_cases hd : d
    · exact Or.inr ⟨_, _, _, x, fun k => (if_pos hc).trans (if_pos hd)⟩
    · exact Or.inl fun k => (if_pos hc).trans (if_neg hd)
  · exact Or.inl fun k => if_neg hc
theorem ok_un (kd : Nat) (v : mV) : (∀ k, un_v kd v k = none) ∨ ∃ z, ∀ k, un_v kd v k = k z := by
  unfold un_v
  repeat' split
  all_goals first
    | exact Or.inl fun _ => rfl
    | exact Or.inr ⟨_, fun _ => rfl⟩
theorem ok_s_idiv : iok (s_idiv) := by
  intro l s h
  unfold s_idiv
  repeat' split
  all_goals first
    | exact Or.inl fun _ => rfl
    | exact Or.inr ⟨_, _, _, mExt.rf _, fun _ => rfl⟩
    | exact Or.inr ⟨_, _, _, mExt.st _ _ _ _, fun _ => rfl⟩
    | exact Or.inr ⟨_, _, _, mExt.nw _ _ _, fun _ => rfl⟩
    | exact ok_gd _ _ _ (mExt.rf _)
    | exact ok_gd _ _ _ (mExt.st _ _ _ _)
    | exact ok_gd _ _ _ (mExt.nw _ _ _)
theorem ok_s_irem : iok (s_irem) := by
  intro l s h
  unfold s_irem
  repeat' split
  all_goals first
    | exact Or.inl fun _ => rfl
    | exact Or.inr ⟨_, _, _, mExt.rf _, fun _ => rfl⟩
    | exact Or.inr ⟨_, _, _, mExt.st _ _ _ _, fun _ => rfl⟩
    | exact Or.inr ⟨_, _, _, mExt.nw _ _ _, fun _ => rfl⟩
    | exact ok_gd _ _ _ (mExt.rf _)
    | exact ok_gd _ _ _ (mExt.st _ _ _ _)
    | exact ok_gd _ _ _ (mExt.nw _ _ _)
theorem ok_s_ldiv : iok (s_ldiv) := by
  intro l s h
  unfold s_ldiv
  repeat' split
  all_goals first
    | exact Or.inl fun _ => rfl
    | exact Or.inr ⟨_, _, _, mExt.rf _, fun _ => rfl⟩
    | exact Or.inr ⟨_, _, _, mExt.st _ _ _ _, fun _ => rfl⟩
    | exact Or.inr ⟨_, _, _, mExt.nw _ _ _, fun _ => rfl⟩
    | exact ok_gd _ _ _ (mExt.rf _)
    | exact ok_gd _ _ _ (mExt.st _ _ _ _)
    | exact ok_gd _ _ _ (mExt.nw _ _ _)
theorem ok_s_lrem : iok (s_lrem) := by
  intro l s h
  unfold s_lrem
  repeat' split
  all_goals first
    | exact Or.inl fun _ => rfl
    | exact Or.inr ⟨_, _, _, mExt.rf _, fun _ => rfl⟩
    | exact Or.inr ⟨_, _, _, mExt.st _ _ _ _, fun _ => rfl⟩
    | exact Or.inr ⟨_, _, _, mExt.nw _ _ _, fun _ => rfl⟩
    | exact ok_gd _ _ _ (mExt.rf _)
    | exact ok_gd _ _ _ (mExt.st _ _ _ _)
    | exact ok_gd _ _ _ (mExt.nw _ _ _)
theorem ok_s_get (ci : Nat) (f : Int) (kd : Nat) : iok (s_get ci f kd) := by
  intro l s h
  unfold s_get
  repeat' split
  all_goals first
    | exact Or.inl fun _ => rfl
    | exact Or.inr ⟨_, _, _, mExt.rf _, fun _ => rfl⟩
    | exact Or.inr ⟨_, _, _, mExt.st _ _ _ _, fun _ => rfl⟩
    | exact Or.inr ⟨_, _, _, mExt.nw _ _ _, fun _ => rfl⟩
    | exact ok_gd _ _ _ (mExt.rf _)
    | exact ok_gd _ _ _ (mExt.st _ _ _ _)
    | exact ok_gd _ _ _ (mExt.nw _ _ _)
theorem ok_s_iald (ta kd : Nat) : iok (s_iald ta kd) := by
  intro l s h
  unfold s_iald
  repeat' split
  all_goals first
    | exact Or.inl fun _ => rfl
    | exact Or.inr ⟨_, _, _, mExt.rf _, fun _ => rfl⟩
    | exact Or.inr ⟨_, _, _, mExt.st _ _ _ _, fun _ => rfl⟩
    | exact Or.inr ⟨_, _, _, mExt.nw _ _ _, fun _ => rfl⟩
    | exact ok_gd _ _ _ (mExt.rf _)
    | exact ok_gd _ _ _ (mExt.st _ _ _ _)
    | exact ok_gd _ _ _ (mExt.nw _ _ _)
theorem ok_s_fald (j : Nat) (n : Int) : iok (s_fald j n) := by
  intro l s h
  unfold s_fald
  repeat' split
  all_goals first
    | exact Or.inl fun _ => rfl
    | exact Or.inr ⟨_, _, _, mExt.rf _, fun _ => rfl⟩
    | exact Or.inr ⟨_, _, _, mExt.st _ _ _ _, fun _ => rfl⟩
    | exact Or.inr ⟨_, _, _, mExt.nw _ _ _, fun _ => rfl⟩
    | exact ok_gd _ _ _ (mExt.rf _)
    | exact ok_gd _ _ _ (mExt.st _ _ _ _)
    | exact ok_gd _ _ _ (mExt.nw _ _ _)
theorem ok_s_alen (ta : Nat) : iok (s_alen ta) := by
  intro l s h
  unfold s_alen
  repeat' split
  all_goals first
    | exact Or.inl fun _ => rfl
    | exact Or.inr ⟨_, _, _, mExt.rf _, fun _ => rfl⟩
    | exact Or.inr ⟨_, _, _, mExt.st _ _ _ _, fun _ => rfl⟩
    | exact Or.inr ⟨_, _, _, mExt.nw _ _ _, fun _ => rfl⟩
    | exact ok_gd _ _ _ (mExt.rf _)
    | exact ok_gd _ _ _ (mExt.st _ _ _ _)
    | exact ok_gd _ _ _ (mExt.nw _ _ _)
theorem ok_s_newa (ta : Nat) : iok (s_newa ta) := by
  intro l s h
  unfold s_newa
  repeat' split
  all_goals first
    | exact Or.inl fun _ => rfl
    | exact Or.inr ⟨_, _, _, mExt.rf _, fun _ => rfl⟩
    | exact Or.inr ⟨_, _, _, mExt.st _ _ _ _, fun _ => rfl⟩
    | exact Or.inr ⟨_, _, _, mExt.nw _ _ _, fun _ => rfl⟩
    | exact ok_gd _ _ _ (mExt.rf _)
    | exact ok_gd _ _ _ (mExt.st _ _ _ _)
    | exact ok_gd _ _ _ (mExt.nw _ _ _)
theorem ok_s_xald : iok (s_xald) := by
  intro l s h
  unfold s_xald
  repeat' split
  all_goals first
    | exact Or.inl fun _ => rfl
    | exact Or.inr ⟨_, _, _, mExt.rf _, fun _ => rfl⟩
    | exact Or.inr ⟨_, _, _, mExt.st _ _ _ _, fun _ => rfl⟩
    | exact Or.inr ⟨_, _, _, mExt.nw _ _ _, fun _ => rfl⟩
    | exact ok_gd _ _ _ (mExt.rf _)
    | exact ok_gd _ _ _ (mExt.st _ _ _ _)
    | exact ok_gd _ _ _ (mExt.nw _ _ _)
theorem ok_s_put (ci : Nat) (f : Int) (kd : Nat) : iok (s_put ci f kd) := by
  intro l s h
  unfold s_put
  split
  · rename_i v t a r
    rcases ok_un kd v with q | ⟨z, q⟩
    · refine Or.inl fun k => ?_
      simp only [q]; simp [gd]
    · simp only [q]
      split
      · exact ok_gd _ _ _ (mExt.st _ _ _ _)
      · exact Or.inl fun _ => rfl
  · rename_i v t a r
    rcases ok_un kd v with q | ⟨z, q⟩
    · refine Or.inl fun k => ?_
      simp only [q]; simp
    · simp only [q]
      split
      · exact Or.inr ⟨_, _, _, mExt.st _ _ _ _, fun _ => rfl⟩
      · exact Or.inl fun _ => rfl
  · exact Or.inl fun _ => rfl
theorem ok_s_iast (ta kd : Nat) : iok (s_iast ta kd) := by
  intro l s h
  unfold s_iast
  split
  · rename_i v i t a r
    rcases ok_un kd v with q | ⟨z, q⟩
    · refine Or.inl fun k => ?_
      simp only [q]; simp [gd]
    · simp only [q]
      split
      · exact ok_gd _ _ _ (mExt.st _ _ _ _)
      · exact Or.inl fun _ => rfl
  · exact Or.inl fun _ => rfl
theorem ok_s_zast : iok s_zast := by
  intro l s h
  unfold s_zast
  split
  · rename_i z i t a r
    split
    · exact ok_gd2 _ _ _ (mExt.st _ _ _ _)
    · exact Or.inl fun _ => rfl
  · exact Or.inl fun _ => rfl
theorem ok_s_aast (ta kd : Nat) : iok (s_aast ta kd) := by
  intro l s h
  unfold s_aast
  split
  · rename_i v i t a r
    rcases ok_un kd v with q | ⟨z, q⟩
    · refine Or.inl fun k => ?_
      simp only [q]; simp [gd]
    · simp only [q]
      split
      · exact ok_gd2 _ _ _ (mExt.st _ _ _ _)
      · exact Or.inl fun _ => rfl
  · exact Or.inl fun _ => rfl
theorem tokJ {h : mH} {f : ∀ (_ : Nat → List mV → List mV → mH → mR) (_ : Nat → List mV → mH → mR), mR} (b : Nat) (l s : List mV) (e : ∀ X C, f X C = X b l s h) : tokA h f := Or.inr (Or.inl ⟨b, l, s, h, mExt.rf h, e⟩)
theorem tokR {h : mH} {f : ∀ (_ : Nat → List mV → List mV → mH → mR) (_ : Nat → List mV → mH → mR), mR} (v : Option mV) (e : ∀ X C, f X C = some (v, h)) : tokA h f := Or.inr (Or.inr (Or.inl ⟨(v, h), mExt.rf h, e⟩))
theorem tokC {h : mH} {f : ∀ (_ : Nat → List mV → List mV → mH → mR) (_ : Nat → List mV → mH → mR), mR} (g : Nat) (as : List mV) (kd : Nat) (s : List mV) (b : Nat) (l : List mV) (e : ∀ X C, f X C = mback kd (C g as h) s fun s' h' => X b l s' h') : tokA h f := Or.inr (Or.inr (Or.inr ⟨g, as, h, kd, s, b, l, mExt.rf h, e⟩))
theorem tokN {h : mH} {f : ∀ (_ : Nat → List mV → List mV → mH → mR) (_ : Nat → List mV → mH → mR), mR} (e : ∀ X C, f X C = none) : tokA h f := Or.inl e
theorem tok_go (b : Nat) : tok (t_go b) := fun l s h => tokJ b l s fun _ _ => rfl
theorem tok_ieq (b1 b2 : Nat) : tok (t_ieq b1 b2) := by
  intro l s h
  unfold t_ieq
  repeat' split
  all_goals first
    | exact tokN fun _ _ => rfl
    | exact tokJ _ _ _ fun _ _ => rfl
theorem tok_ine (b1 b2 : Nat) : tok (t_ine b1 b2) := by
  intro l s h
  unfold t_ine
  repeat' split
  all_goals first
    | exact tokN fun _ _ => rfl
    | exact tokJ _ _ _ fun _ _ => rfl
theorem tok_ilt (b1 b2 : Nat) : tok (t_ilt b1 b2) := by
  intro l s h
  unfold t_ilt
  repeat' split
  all_goals first
    | exact tokN fun _ _ => rfl
    | exact tokJ _ _ _ fun _ _ => rfl
theorem tok_ige (b1 b2 : Nat) : tok (t_ige b1 b2) := by
  intro l s h
  unfold t_ige
  repeat' split
  all_goals first
    | exact tokN fun _ _ => rfl
    | exact tokJ _ _ _ fun _ _ => rfl
theorem tok_igt (b1 b2 : Nat) : tok (t_igt b1 b2) := by
  intro l s h
  unfold t_igt
  repeat' split
  all_goals first
    | exact tokN fun _ _ => rfl
    | exact tokJ _ _ _ fun _ _ => rfl
theorem tok_ile (b1 b2 : Nat) : tok (t_ile b1 b2) := by
  intro l s h
  unfold t_ile
  repeat' split
  all_goals first
    | exact tokN fun _ _ => rfl
    | exact tokJ _ _ _ fun _ _ => rfl
theorem tok_zeq (b1 b2 : Nat) : tok (t_zeq b1 b2) := by
  intro l s h
  unfold t_zeq
  repeat' split
  all_goals first
    | exact tokN fun _ _ => rfl
    | exact tokJ _ _ _ fun _ _ => rfl
theorem tok_zne (b1 b2 : Nat) : tok (t_zne b1 b2) := by
  intro l s h
  unfold t_zne
  repeat' split
  all_goals first
    | exact tokN fun _ _ => rfl
    | exact tokJ _ _ _ fun _ _ => rfl
theorem tok_zlt (b1 b2 : Nat) : tok (t_zlt b1 b2) := by
  intro l s h
  unfold t_zlt
  repeat' split
  all_goals first
    | exact tokN fun _ _ => rfl
    | exact tokJ _ _ _ fun _ _ => rfl
theorem tok_zge (b1 b2 : Nat) : tok (t_zge b1 b2) := by
  intro l s h
  unfold t_zge
  repeat' split
  all_goals first
    | exact tokN fun _ _ => rfl
    | exact tokJ _ _ _ fun _ _ => rfl
theorem tok_zgt (b1 b2 : Nat) : tok (t_zgt b1 b2) := by
  intro l s h
  unfold t_zgt
  repeat' split
  all_goals first
    | exact tokN fun _ _ => rfl
    | exact tokJ _ _ _ fun _ _ => rfl
theorem tok_zle (b1 b2 : Nat) : tok (t_zle b1 b2) := by
  intro l s h
  unfold t_zle
  repeat' split
  all_goals first
    | exact tokN fun _ _ => rfl
    | exact tokJ _ _ _ fun _ _ => rfl
theorem tok_nul (b1 b2 : Nat) : tok (t_nul b1 b2) := by
  intro l s h
  unfold t_nul
  repeat' split
  all_goals first
    | exact tokN fun _ _ => rfl
    | exact tokJ _ _ _ fun _ _ => rfl
theorem tok_nnul (b1 b2 : Nat) : tok (t_nnul b1 b2) := by
  intro l s h
  unfold t_nnul
  repeat' split
  all_goals first
    | exact tokN fun _ _ => rfl
    | exact tokJ _ _ _ fun _ _ => rfl
theorem swf_ok (x : Int) : ∀ (bs : List Nat) (d : Nat) (lo : Int), ∃ b, ∀ X : Nat → mR, swf bs d lo x X = X b := by
  intro bs
  induction bs with
  | nil => intro d lo; exact ⟨d, fun _ => rfl⟩
  | cons b r ih =>
    intro d lo
    by_cases e : x = lo
    · exact ⟨b, fun _ => if_pos e⟩
    · obtain ⟨b', q⟩ := ih d (lo + 1)
      exact ⟨b', fun X => (if_neg e).trans (q X)⟩
theorem swl_ok (x : Int) : ∀ (ps : List (Int × Nat)) (d : Nat), ∃ b, ∀ X : Nat → mR, swl ps d x X = X b := by
  intro ps
  induction ps with
  | nil => intro d; exact ⟨d, fun _ => rfl⟩
  | cons b r ih =>
    intro d
    by_cases e : x = b.1
    · exact ⟨b.2, fun _ => if_pos e⟩
    · obtain ⟨b', q⟩ := ih d
      exact ⟨b', fun X => (if_neg e).trans (q X)⟩
theorem tok_sw (lo : Int) (bs : List Nat) (d : Nat) : tok (t_sw lo bs d) := by
  intro l s h
  unfold t_sw
  split
  · rename_i x r
    obtain ⟨b, q⟩ := swf_ok x bs d lo
    exact tokJ b l r fun X _ => q _
  · exact tokN fun _ _ => rfl
theorem tok_lsw (ps : List (Int × Nat)) (d : Nat) : tok (t_lsw ps d) := by
  intro l s h
  unfold t_lsw
  split
  · rename_i x r
    obtain ⟨b, q⟩ := swl_ok x ps d
    exact tokJ b l r fun X _ => q _
  · exact tokN fun _ _ => rfl
theorem tok_rv : tok t_rv := by
  intro l s h
  unfold t_rv
  split
  · exact tokR none fun _ _ => rfl
  · exact tokN fun _ _ => rfl
theorem tok_rz : tok t_rz := by
  intro l s h
  unfold t_rz
  split
  · rename_i x
    by_cases c : x = 0 ∨ x = 1
    · exact tokR _ fun _ _ => gd_t c
    · exact tokN fun _ _ => gd_f c
  · exact tokN fun _ _ => rfl
theorem tok_ri : tok t_ri := by
  intro l s h
  unfold t_ri
  split
  · exact tokR _ fun _ _ => rfl
  · exact tokN fun _ _ => rfl
theorem tok_rl : tok t_rl := by
  intro l s h
  unfold t_rl
  split
  · exact tokR _ fun _ _ => rfl
  · exact tokN fun _ _ => rfl
theorem tok_ra (tt : Nat) : tok (t_ra tt) := by
  intro l s h
  unfold t_ra
  repeat' split
  all_goals first
    | exact tokN fun _ _ => rfl
    | exact tokR _ fun _ _ => rfl
theorem mfit_ok (n : Nat) (r : List mV) : (∀ x, mfit n r x = none) ∨ ∀ x, mfit n r x = x := by
  unfold mfit
  cases Nat.ble (wsum r) n
  · exact Or.inl fun _ => rfl
  · exact Or.inr fun _ => rfl
theorem margs_ok : ∀ (n : Nat) (as s : List mV), (∀ k, margs n as s k = none) ∨ ∃ as' s', ∀ k, margs n as s k = k as' s' := by
  intro n
  induction n with
  | zero => intro as s; exact Or.inr ⟨as, s, fun _ => rfl⟩
  | succ n ih =>
    intro as s
    match s with
    | [] => exact Or.inl fun _ => rfl
    | v :: r => exact ih (weak v :: as) r
theorem tok_cs (f n kd b : Nat) : tok (t_cs f n kd b) := by
  intro l s h
  rcases margs_ok n [] s with q | ⟨as, r, q⟩
  · exact tokN fun _ _ => q _
  · rcases mfit_ok 8 r with w | w
    · exact tokN fun _ _ => (q _).trans (w _)
    · exact tokC f as kd r b l fun _ _ => (q _).trans (w _)
theorem cvk_ok (w ci f kd b : Nat) (l : List mV) (h : mH) (as r : List mV) : tokA h fun X C => cvk w ci f kd b l h as r X C := by
  unfold cvk
  split
  · rename_i t a r'
    split
    · by_cases c : a ≠ 0
      · rcases mfit_ok w r' with v | v
        · exact tokN fun _ _ => (gd_t c).trans (v _)
        · exact tokC f (vO t a :: as) kd r' b l fun _ _ => (gd_t c).trans (v _)
      · exact tokN fun _ _ => gd_f c
    · exact tokN fun _ _ => rfl
  · rename_i t a r'
    split
    · rcases mfit_ok w r' with v | v
      · exact tokN fun _ _ => v _
      · exact tokC f (vO t a :: as) kd r' b l fun _ _ => v _
    · exact tokN fun _ _ => rfl
  · exact tokN fun _ _ => rfl
theorem cik_ok (f : Nat → Nat) (kd b : Nat) (l : List mV) (h : mH) (as r : List mV) : tokA h fun X C => cik f kd b l h as r X C := by
  unfold cik
  split
  · rename_i t a r'
    by_cases c : a ≠ 0
    · rcases mfit_ok 8 r' with w | w
      · exact tokN fun _ _ => (gd_t c).trans (w _)
      · exact tokC (f t) (vO t a :: as) kd r' b l fun _ _ => (gd_t c).trans (w _)
    · exact tokN fun _ _ => gd_f c
  · exact tokN fun _ _ => rfl
theorem tok_cv (ci f n kd b : Nat) : tok (t_cv ci f n kd b) := by
  intro l s h
  rcases margs_ok n [] s with q | ⟨as, r, q⟩
  · exact tokN fun _ _ => q _
  · have e : (fun X C => t_cv ci f n kd b X C l s h) = fun X C => cvk 8 ci f kd b l h as r X C := by
      funext X C
      exact q _
    rw [e]
    exact cvk_ok 8 ci f kd b l h as r
theorem tok_cw (ci f n kd b : Nat) : tok (t_cw ci f n kd b) := by
  intro l s h
  rcases margs_ok n [] s with q | ⟨as, r, q⟩
  · exact tokN fun _ _ => q _
  · have e : (fun X C => t_cw ci f n kd b X C l s h) = fun X C => cvk 10 ci f kd b l h as r X C := by
      funext X C
      exact q _
    rw [e]
    exact cvk_ok 10 ci f kd b l h as r
theorem tok_ci (f : Nat → Nat) (n kd b : Nat) : tok (t_ci f n kd b) := by
  intro l s h
  rcases margs_ok n [] s with q | ⟨as, r, q⟩
  · exact tokN fun _ _ => q _
  · have e : (fun X C => t_ci f n kd b X C l s h) = fun X C => cik f kd b l h as r X C := by
      funext X C
      exact q _
    rw [e]
    exact cik_ok f kd b l h as r
