/-! THE TIE, 10b: the call of the law's own 'day', which has an exception table -/
section CALLD
variable {mtab : List mI5} {own : String} {cc : ByteArray} {nL : Nat} {ini : Bool} {pcs : List Nat} {rF rL : Nat} {pc : Nat}
variable {f n kdc b index rFc rLc maxLc : Nat} {y : MethodName} {bytes : ByteArray} {retc : Option FieldType} {hh : List (Nat × Nat × Nat × Nat)}
theorem sndQ_csD (hb1 : pcs[b]? = some (pc + 3)) (hf : mtab[f]? = some (y, Cond.codeWith y bytes maxLc retc hh, rFc, rLc, kdc)) (w4 : Cond.codeWith y bytes maxLc retc hh ∈ wa) (w1 : Cond.methodLink own index y ∈ wa) (w2 : Cond.static y ∈ wa) (w3 : Cond.initialized y.cls ∈ wa) (hy :  y.cls ≠ "java/lang/invoke/MethodHandle" ∧ y.cls ≠ "java/lang/invoke/VarHandle" ∧ (parseMethodDescriptor y.desc).map (fun d => d.parameters.length) = some n) (qF : rFc + 1 ≤ rF) (qL : 8 + (maxLc + 11) + rLc ≤ rL) (hd : decode cc pc = .ok (.invokestatic index, 3)) : sndQ mtab own cc nL ini pcs rF rL pc (t_cs f n kdc b) := by
  intro p l e R s m args below meth c D fz X A φ0 h0 r Q C hlk hrF hrL lo st h Xf Cf ei hX hcc hcs hm hmC hC hC9 φ cA tys ls sv H locs cells slots hφ hR kk
  obtain ⟨hx, hb, hml, hown, hts, hini, hA, hSt, hNe⟩ := C
  obtain ⟨as, rr, P, vv, ek, rfl, hPn, has, hrr⟩ := margs_inv n [] st _ r [] sv ei rfl hR.2.1
  obtain ⟨hw8, ek⟩ := mfit_inv ek
  obtain ⟨r1, hr1⟩ := mback_some ek
  rw [hr1] at ek
  have has : rst fz φ h as P.reverse := by simpa using has
  have M := hC f as h r1 _ hr1 hf D fz φ cA tys P.reverse H.size has
  have hx1 := hmC _ _ _ _ hr1
  obtain ⟨rv, rh⟩ := r1
  obtain ⟨s2, e2⟩ := mback_heap ek
  obtain ⟨x1, x2, -⟩ := hm _ _ _ _ e2
  have y1 := hx1.1
  have y2 := hx1.2.1
  have z1 := hR.2.2.2.2.1
  have z2 := hR.2.2.2.2.2
  dsimp only at y1 y2
  have hf2 : cells + (rh.cnt - h.cnt) ≤ R.cells ∧ slots + (rh.sl - h.sl) ≤ R.slots := ⟨by omega, by omega⟩
  have hw8' := Nat.le_trans (wsum_cat _ _ hrr) hw8
  refine call_back3 hR.1 hrr hR.2.2.1 hR.2.2.2.1 hA hR.2.2.2.2.1 hR.2.2.2.2.2 hx1 ek (vx_runSW (As := P.reverse) (rest := vv) ⟨hx, hb, hml, hown, hts⟩ M (vx_cwSW n hts (wa_good (wa_app (wa_3 w1 w2 w3) w4)) rfl rfl rfl hy ⟨by show rFc + 1 ≤ R.frames; omega, by show 8 + (maxLc + 11) + rLc ≤ R.locals; omega⟩) ⟨pre_blind, fun U hU hW => ⟨rfl, pre_of hR.1 hR.2.2.2.1 hA hSt hX hNe hU hW⟩⟩ rfl (by simp [hPn]) hR.2.2.1.1.1 (by simp) (lv_room hw8') hd hf2) (fun s' h' e3 e4 φ' cA' tys' sv' H' locs' cells' slots' g1 g2 => ?_)
  subst e4
  exact kk b lo s' _ _ e3 hx1 hb1 φ' cA' tys' ls sv' H' locs' cells' slots' g1 g2
end CALLD
