/-! THE TIE, 10: switches; a call over a wider stack; calls by the interface -/
theorem swf_inv (x : Int) (X : Nat → mR) (y : Option mV × mH) : ∀ (bs : List Nat) (d : Nat) (lo : Int), swf bs d lo x X = some y → (∃ (i : Nat) (b : Nat), bs[i]? = some b ∧ x = lo + (i : Int) ∧ X b = some y) ∨ ((x < lo ∨ lo + (bs.length : Int) ≤ x) ∧ X d = some y) ∨ False := by
  intro bs
  induction bs with
  | nil =>
    intro d lo e
    refine Or.inr (Or.inl ⟨?_, e⟩)
    simp only [List.length_nil]
    omega
  | cons b r ih =>
    intro d lo e
    unfold swf at e
    by_cases hx : x = lo
    · rw [if_pos hx] at e
      exact Or.inl ⟨0, b, rfl, by omega, e⟩
    · rw [if_neg hx] at e
      rcases ih d (lo + 1) e with ⟨i, b', h1, h2, h3⟩ | ⟨h1, h2⟩ | h
      · exact Or.inl ⟨i + 1, b', h1, by omega, h3⟩
      · refine Or.inr (Or.inl ⟨?_, h2⟩)
        simp only [List.length_cons]
        omega
      · exact h.elim
def swchk (pc : Nat) (pcs : List Nat) (bs : List Nat) (offs : Array Int) : Bool := (List.range bs.length).all fun i => match offs[i]?, bs[i]? with
  | some off, some b => match pcs[b]? with
    | some t => decide ((pc : Int) + off = (t : Int))
    | none => false
  | _, _ => false
section SWS
variable {mtab : List mI5} {own : String} {cc : ByteArray} {nL : Nat} {ini : Bool} {ret : Option FieldType} {kd : Nat} {pcs : List Nat} {rF rL : Nat} {pc : Nat}
theorem sndQ_sw {dflt lo' hi : Int} {offs : Array Int} {len d tgt : Nat} {bs : List Nat} (hc : swchk pc pcs bs offs = true) (hd1 : pcs[d]? = some tgt) (ht : (pc : Int) + dflt = (tgt : Int)) (hhi : hi = lo' + (bs.length : Int) - 1) (hd : decode cc pc = .ok (.tableswitch dflt lo' hi offs, len)) : sndQ mtab own cc nL ini pcs rF rL pc (t_sw lo' bs d) := by
  intro p l e R s m args below meth c D fz X A φ0 h0 r Q C hlk hrF hrL lo st h Xf Cf ei hX hcc hcs hm hmC hC hC9 φ cA tys ls sv H locs cells slots hφ hR kk
  obtain ⟨hx, hb, hml, hown, hts, hini, hA, hSt, hNe⟩ := C
  unfold t_sw at ei
  match st with
  | .inl x :: rr =>
    obtain ⟨w1, v1, rfl, ⟨i1, rfl⟩, h3⟩ := hR.2.1
    dsimp only at ei
    rcases swf_inv x _ r bs d lo' ei with ⟨i, b, e1, e2, e3⟩ | ⟨e1, e2⟩ | e0
    · have hi1 : i < bs.length := (List.getElem?_eq_some_iff.mp e1).1
      have hq := List.all_eq_true.mp hc i (List.mem_range.mpr hi1)
      rw [e1] at hq
      cases ho : offs[i]? with
      | none => rw [ho] at hq; cases hq
      | some off =>
        rw [ho] at hq
        dsimp only at hq
        cases hp : pcs[b]? with
        | none => rw [hp] at hq; cases hq
        | some t =>
          rw [hp] at hq
          have hq := of_decide_eq_true hq
          refine lv_tableIn hx hb hd (by rw [toI i1]; omega) (by rw [toI i1]; omega) (off := off) (tgt := t) ?_ hq (kk b lo rr h t e3 (mExt.rf h) hp φ cA tys ls v1 H locs cells slots (fun _ _ => rfl) (hR.stk h3))
          rw [toI i1]
          have : (x - lo').toNat = i := by omega
          rw [this, ho]
    · refine lv_tableOut hx hb hd (by rw [toI i1]; omega) ht (kk d lo rr h tgt e2 (mExt.rf h) hd1 φ cA tys ls v1 H locs cells slots (fun _ _ => rfl) (hR.stk h3))
    · exact e0.elim
  | [] => cases ei
  | .inr _ :: _ => cases ei
/-- the one switch by keys: two keys -/
theorem sndQ_lsw2 {k1 k2 o1 o2 dflt : Int} {b1 b2 d t1 t2 t3 len : Nat} (hk : k1 < k2) (h1 : pcs[b1]? = some t1) (h2 : pcs[b2]? = some t2) (h3' : pcs[d]? = some t3) (e1 : (pc : Int) + o1 = (t1 : Int)) (e2 : (pc : Int) + o2 = (t2 : Int)) (e3 : (pc : Int) + dflt = (t3 : Int)) (hd : decode cc pc = .ok (.lookupswitch dflt #[(k1, o1), (k2, o2)], len)) : sndQ mtab own cc nL ini pcs rF rL pc (t_lsw [(k1, b1), (k2, b2)] d) := by
  intro p l e R s m args below meth c D fz X A φ0 h0 r Q C hlk hrF hrL lo st h Xf Cf ei hX hcc hcs hm hmC hC hC9 φ cA tys ls sv H locs cells slots hφ hR kk
  obtain ⟨hx, hb, hml, hown, hts, hini, hA, hSt, hNe⟩ := C
  unfold t_lsw at ei
  match st with
  | .inl x :: rr =>
    obtain ⟨w1, v1, rfl, ⟨i1, rfl⟩, h3⟩ := hR.2.1
    dsimp only [swl] at ei
    have hs : ((#[(k1, o1), (k2, o2)] : Array (Int × Int)).toList.zip ((#[(k1, o1), (k2, o2)] : Array (Int × Int)).toList.drop 1)).all (fun (a, next) => a.1 < next.1) = true := by simp [hk]
    by_cases q1 : x = k1
    · rw [if_pos q1] at ei
      refine lv_lookup hx hb hd hs (off := o1) (tgt := t1) ?_ e1 (kk b1 lo rr h t1 ei (mExt.rf h) h1 φ cA tys ls v1 H locs cells slots (fun _ _ => rfl) (hR.stk h3))
      rw [toI i1, q1]
      simp [Op.lookupswitch.offset]
    · rw [if_neg q1] at ei
      by_cases q2 : x = k2
      · rw [if_pos q2] at ei
        refine lv_lookup hx hb hd hs (off := o2) (tgt := t2) ?_ e2 (kk b2 lo rr h t2 ei (mExt.rf h) h2 φ cA tys ls v1 H locs cells slots (fun _ _ => rfl) (hR.stk h3))
        rw [toI i1, q2]
        have : k1 ≠ k2 := by omega
        simp [Op.lookupswitch.offset, this]
      · rw [if_neg q2] at ei
        refine lv_lookup hx hb hd hs (off := dflt) (tgt := t3) ?_ e3 (kk d lo rr h t3 ei (mExt.rf h) h3' φ cA tys ls v1 H locs cells slots (fun _ _ => rfl) (hR.stk h3))
        rw [toI i1]
        have a1 : ¬ k1 = x := fun z => q1 z.symm
        have a2 : ¬ k2 = x := fun z => q2 z.symm
        simp [Op.lookupswitch.offset, a1, a2, q1, q2]
  | [] => cases ei
  | .inr _ :: _ => cases ei
end SWS
section WIDE
variable {p : Program} {l : Launch} {e : Env} {R : Room} {s : State} {m : MethodId} {args : Array Value} {below : List Frame} {meth : Method} {c : Code} {H : Heap} {locs : List Loc} {cells slots : Nat}
variable {y : MethodName} {bytes cc : ByteArray} {maxL nL mc ms n index : Nat} {ret : Option FieldType} {ws : List Cond} {rm : Room} {Pc : Array Value → State → Prop} {Qc : Array Value → State → Outcome → State → Prop} {free : Addr → Prop} {Ts : List Cond} {own C : String} {b : Addr} {As rest : List Value} {g : JFrame}
/-- a virtual call whose caller's stack below is ten wide at most -/
theorem run_wide (S : CallFix p m c cc nL s args Ts own) (hM : Met l y ws rm Pc Qc mc ms free) (cw : CallW R s args own C index y bytes maxL ret ws rm mc ms n) (hlo : 10 + (maxL + 11) + rm.locals ≤ R.locals) (hp : PreV s H C b Pc As)
    (hg : g.method = m) (hn : As.length = n) (hsize : g.locals.size = nL) (hstack : g.stack = As.reverse ++ .ref b :: rest) (hW : 2 * g.monitorRoom + (rest.map fun v => v.category).sum ≤ 10) (hdg : decode cc g.pc = .ok (.invokevirtual index, 3)) (hf : cells + mc ≤ R.cells ∧ slots + ms ≤ R.slots) :
    va_Run p l e R s m args below meth c H locs cells slots mc ms g rest (Qc (Value.ref b :: As).toArray) (free) := by
  obtain ⟨⟨hrc, hrs, hfr, -, hws, hcw, hcode, hini, hy, hlen, hl⟩, hin, hse⟩ := cw
  have hK : Back l R p e below s args y 3 10 (PreOf R mc ms Pc) (PostOf Qc mc ms free) := back_of (bytes := bytes) (maxL := maxL) (ret := ret) hM hp.1 hrc hrs hfr hlo hws hcw (fun a' U hW => word_at hW (Or.inl (by first | rfl | simp [Cond.onTables, Cond.keeps, Cond.steady])) hini)
  obtain ⟨hx, hb, hml, ho, -⟩ := S
  obtain ⟨-, ⟨cellB, hcB, hoB, hclB⟩, hPc⟩ := hp
  intro T hT X
  obtain ⟨v, vm₁, ⟨U', l2, c2, s2⟩, hW₁, X', ⟨g', mk, t, L, e1, e2, hq, h1, hL, h2, h3⟩, st⟩ := callV X hx (C := C) (bytes := bytes) (maxL := maxL) (ret := ret) ho hl hin hse hcode hy hK (by rw [hT]; exact hcB) hoB hclB hg (hsize.trans hml.symm) (argsL := As) (rest := rest) (fun sig h => hn.trans (hlen sig h)) hstack hW (by rw [hb]; exact hdg)
    (fun vm₁ hW₁ => ⟨hf.1, hf.2, hPc (T.setVm vm₁) hT hW₁⟩)
  dsimp only [Pt.U, Pt.locs, Pt.cells, Pt.slots] at X' e1 e2 h1 h2 h3 st
  subst h1; subst h2; subst h3
  exact ⟨v, (T.setVm vm₁).calling g' mk (Value.ref b :: As).toArray, t, U', L, hT, X', hL, e1, e2, hq, st⟩
end WIDE
section CALLS2
variable {mtab : List mI5} {own : String} {cc : ByteArray} {nL : Nat} {ini : Bool} {ret : Option FieldType} {kd : Nat} {pcs : List Nat} {rF rL : Nat} {pc : Nat}
variable {f n kdc b index rFc rLc maxLc : Nat} {y : MethodName} {bytes : ByteArray} {retc : Option FieldType}
theorem sndQ_cw {ci N : Nat} {C : String} {T : u_T} (hcl : clX[ci]? = some (C, T, N)) (hci : ci < 13) (hb1 : pcs[b]? = some (pc + 3)) (hf : mtab[f]? = some (y, Cond.code y bytes maxLc retc, rFc, rLc, kdc)) (w4 : Cond.code y bytes maxLc retc ∈ wa) (w1 : Cond.methodLink own index y ∈ wa) (w2 : Cond.instanceMethod y ∈ wa) (w5 : Cond.selects C y y ∈ wa) (w3 : Cond.initialized C ∈ wa) (hy : y.cls = C ∧ y.cls ≠ "java/lang/invoke/MethodHandle" ∧ y.cls ≠ "java/lang/invoke/VarHandle" ∧ (parseMethodDescriptor y.desc).map (fun d => d.parameters.length) = some n) (qF : rFc + 1 ≤ rF) (qL : 10 + (maxLc + 11) + rLc ≤ rL) (hd : decode cc pc = .ok (.invokevirtual index, 3)) : sndQ mtab own cc nL ini pcs rF rL pc (t_cw ci f n kdc b) := by
  intro p l e R s m args below meth c D fz X A φ0 h0 r Q C hlk hrF hrL lo st h Xf Cf ei hX hcc hcs hm hmC hC hC9 φ cA tys ls sv H locs cells slots hφ hR kk
  obtain ⟨hx, hb, hml, hown, hts, hini, hA, hSt, hNe⟩ := C
  obtain ⟨as, r0, P, vv0, ek, rfl, hPn, has, hrr0⟩ := margs_inv n [] st _ r [] sv ei rfl hR.2.1
  obtain ⟨a, rr, hst, hw8, ek⟩ := cvk_inv ek
  obtain ⟨vv, rfl, ⟨a1, a2, a3⟩, hrr⟩ := obj_of hst hrr0
  have hg := wsX_get φ cA a1 a2
  rw [cel_obj a3 (by omega)] at hg
  obtain ⟨r1, hr1⟩ := mback_some ek
  rw [hr1] at ek
  have has : rst fz φ h (vO ci a :: as) (.ref (φ a) :: P.reverse) := ⟨_, _, rfl, ⟨⟨a1, a2, a3⟩, rfl⟩, by simpa using has⟩
  have M := hC f _ h r1 _ hr1 hf D fz φ cA tys (.ref (φ a) :: P.reverse) H.size has
  have hx1 := hmC _ _ _ _ hr1
  obtain ⟨rv, rh⟩ := r1
  obtain ⟨s2, e2⟩ := mback_heap ek
  obtain ⟨x1, x2, -⟩ := hm _ _ _ _ e2
  have y1 := hx1.1
  have y2 := hx1.2.1
  have z1 := hR.2.2.2.2.1
  have z2 := hR.2.2.2.2.2
  dsimp only at y1 y2
  have hf2 : cells + (rh.cnt - h.cnt) ≤ R.cells ∧ slots + (rh.sl - h.sl) ≤ R.slots := ⟨by omega, by omega⟩
  have hw8' := Nat.le_trans (wsum_cat _ _ hrr) hw8
  refine call_back3 hR.1 hrr hR.2.2.1 hR.2.2.2.1 hA hR.2.2.2.2.1 hR.2.2.2.2.2 hx1 ek (run_wide (As := P.reverse) (rest := vv) ⟨hx, hb, hml, hown, hts⟩ M (cwV n hts (wa_good (wa_app (wa_4 w1 w2 w5 w3) w4)) rfl rfl rfl hy ⟨by show rFc + 1 ≤ R.frames; omega, by show 8 + (maxLc + 11) + rLc ≤ R.locals; omega⟩) (by show 10 + (maxLc + 11) + rLc ≤ R.locals; omega) ⟨pre_blind, va_recv hR.1.2.2.1 hR.1.1 hcl hg, fun U hU hW => ⟨rfl, pre_of hR.1 hR.2.2.2.1 hA hSt hX hNe hU hW⟩⟩ rfl (by simp [hPn]) hR.2.2.1.1.1 (by simp) (by show 2 * 0 + _ ≤ 10; omega) hd hf2) (fun s' h' e3 e4 φ' cA' tys' sv' H' locs' cells' slots' g1 g2 => ?_)
  subst e4
  exact kk b lo s' _ _ e3 hx1 hb1 φ' cA' tys' ls sv' H' locs' cells' slots' g1 g2
theorem sndQ_if {fi : Nat → Nat} {f8 f4 cnt : Nat} {x y8 y4 : MethodName} {bytes8 bytes4 : ByteArray} {max8 max4 : Nat} {T8 T4 : u_T} {N8 N4 : Nat} {C8 C4 : String} (hc8 : clX[8]? = some (C8, T8, N8)) (hc4 : clX[4]? = some (C4, T4, N4)) (hfi : ∀ t, fi t = if t = 8 then f8 else if t = 4 then f4 else 9999)
    (hb1 : pcs[b]? = some (pc + 5)) (hf8 : mtab[f8]? = some (y8, Cond.code y8 bytes8 max8 retc, rFc, rLc, kdc)) (hf4 : mtab[f4]? = some (y4, Cond.code y4 bytes4 max4 retc, rFc, rLc, kdc)) (w48 : Cond.code y8 bytes8 max8 retc ∈ wa) (w44 : Cond.code y4 bytes4 max4 retc ∈ wa)
    (w1 : Cond.methodLink own index x ∈ wa) (v8 : (C8, x, y8) ∈ wF) (v4 : (C4, x, y4) ∈ wF) (a8 : Cond.selects C8 x y8 ∈ wa) (b8 : Cond.instanceMethod y8 ∈ wa) (i8 : Cond.initialized y8.cls ∈ wa)
    (a4 : Cond.selects C4 x y4 ∈ wa) (b4 : Cond.instanceMethod y4 ∈ wa) (i4 : Cond.initialized y4.cls ∈ wa)
    (hy : x.cls ≠ "java/lang/invoke/MethodHandle" ∧ x.cls ≠ "java/lang/invoke/VarHandle" ∧ (parseMethodDescriptor x.desc).map (fun d => d.parameters.length) = some n) (qF : rFc + 1 ≤ rF) (q8 : 8 + (max8 + 11) + rLc ≤ rL) (q4 : 8 + (max4 + 11) + rLc ≤ rL) (hd : decode cc pc = .ok (.invokeinterface index cnt, 5))
    (hnone : ∀ (Cf : Nat → List mV → mH → mR) (r : Option mV × mH), True) : sndQ mtab own cc nL ini pcs rF rL pc (t_ci fi n kdc b) := by
  intro p l e R s m args below meth c D fz X A φ0 h0 r Q C hlk hrF hrL lo st h Xf Cf ei hX hcc hcs hm hmC hC hC9 φ cA tys ls sv H locs cells slots hφ hR kk
  obtain ⟨hx, hb, hml, hown, hts, hini, hA, hSt, hNe⟩ := C
  obtain ⟨as, r0, P, vv0, ek, rfl, hPn, has, hrr0⟩ := margs_inv n [] st _ r [] sv ei rfl hR.2.1
  obtain ⟨t, a, rr, hst, hw8, ek⟩ := cik_inv ek
  obtain ⟨vv, rfl, ⟨a1, a2, a3⟩, hrr⟩ := obj_of (Or.inl hst) hrr0
  obtain ⟨r1, hr1⟩ := mback_some ek
  rw [hr1] at ek
  have has : rst fz φ h (vO t a :: as) (.ref (φ a) :: P.reverse) := ⟨_, _, rfl, ⟨⟨a1, a2, a3⟩, rfl⟩, by simpa using has⟩
  have hx1 := hmC _ _ _ _ hr1
  rw [hfi] at hr1
  have key : ∀ (ci f' maxx : Nat) (y' : MethodName) (C' : String) (T' : u_T) (N' : Nat) (bytes' : ByteArray), t = ci → ci < 13 → clX[ci]? = some (C', T', N') → Cf f' (vO t a :: as) h = some r1 → mtab[f']? = some (y', Cond.code y' bytes' maxx retc, rFc, rLc, kdc) → Cond.code y' bytes' maxx retc ∈ wa → (C', x, y') ∈ wF → Cond.selects C' x y' ∈ wa → Cond.instanceMethod y' ∈ wa → Cond.initialized y'.cls ∈ wa → 8 + (maxx + 11) + rLc ≤ rL →
      W p l e R s m args below meth c H locs cells slots Q (F0 m pc ls (P ++ .ref (φ a) :: vv)) := by
    intro ci f' maxx y' C' T' N' bytes' htc hci hcl hr1 hf w4 v8 a8 b8 i8 qL
    subst htc
    have hg := wsX_get φ cA a1 a2
    rw [cel_obj a3 (by omega)] at hg
    have M := hC f' _ h r1 _ hr1 hf D fz φ cA tys (.ref (φ a) :: P.reverse) H.size has
    obtain ⟨rv, rh⟩ := r1
    obtain ⟨s2, e2⟩ := mback_heap ek
    obtain ⟨x1, x2, -⟩ := hm _ _ _ _ e2
    have y1 := hx1.1
    have y2 := hx1.2.1
    have z1 := hR.2.2.2.2.1
    have z2 := hR.2.2.2.2.2
    dsimp only at y1 y2
    have hf2 : cells + (rh.cnt - h.cnt) ≤ R.cells ∧ slots + (rh.sl - h.sl) ≤ R.slots := ⟨by omega, by omega⟩
    have hw8' := Nat.le_trans (wsum_cat _ _ hrr) hw8
    have hat := (hR.1.2.2.1.1 _ _ hcl).2
    refine call_back5 hR.1 hrr hR.2.2.1 hR.2.2.2.1 hA hR.2.2.2.2.1 hR.2.2.2.2.2 hx1 ek (va_runF (As := P.reverse) (rest := vv) hat ⟨hx, hb, hml, hown, hts⟩ M (va_cwF n hts (wa_good (wa_app (wa_4 w1 a8 b8 i8) w4)) rfl rfl rfl (hNe.2.2.2.1 _ v8) hy ⟨by show rFc + 1 ≤ R.frames; omega, by show 8 + (maxx + 11) + rLc ≤ R.locals; omega⟩) ⟨pre_blind, va_recv hR.1.2.2.1 hR.1.1 hcl hg, fun U hU hW => ⟨rfl, pre_of hR.1 hR.2.2.2.1 hA hSt hX hNe hU hW⟩⟩ rfl (by simp [hPn]) hR.2.2.1.1.1 (by simp) (lv_room hw8') hd hf2) (fun s' h' e3 e4 φ' cA' tys' sv' H' locs' cells' slots' g1 g2 => ?_)
    subst e4
    exact kk b lo s' _ _ e3 hx1 hb1 φ' cA' tys' ls sv' H' locs' cells' slots' g1 g2
  by_cases t8 : t = 8
  · rw [if_pos t8] at hr1
    exact key 8 f8 max8 y8 C8 T8 N8 bytes8 t8 (by omega) hc8 hr1 hf8 w48 v8 a8 b8 i8 q8
  · rw [if_neg t8] at hr1
    by_cases t4 : t = 4
    · rw [if_pos t4] at hr1
      exact key 4 f4 max4 y4 C4 T4 N4 bytes4 t4 (by omega) hc4 hr1 hf4 w44 v4 a4 b4 i4 q4
    · rw [if_neg t4] at hr1
      rw [hC9] at hr1; cases hr1
end CALLS2
