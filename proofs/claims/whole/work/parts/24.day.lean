/-! THE TIE, 24: DayBoy.day, which throws; the law's day, which catches -/
noncomputable def gc {α : Type} (c : Prop) (x : Option α) : Option α := @gd α c (Classical.propDecidable c) x
theorem gc_t {α : Type} {c : Prop} {x : Option α} (h : c) : gc c x = x := @gd_t α c (Classical.propDecidable c) x h
theorem gc_f {α : Type} {c : Prop} {x : Option α} (h : ¬ c) : gc c x = none := @gd_f α c (Classical.propDecidable c) x h
theorem gc_some {α : Type} {c : Prop} {x : Option α} {r : α} (h : gc c x = some r) : c ∧ x = some r := @gd_some α c (Classical.propDecidable c) x r h
/-- the end of a stretch of which all is known -/
noncomputable def t_at (S : List mV) (i : Nat) (v : mV) : mT := fun _ _ l s h => gc (s = S ∧ mget l i = v) (some (none, h))
theorem tok_at (S : List mV) (i : Nat) (v : mV) : tok (t_at S i v) := by
  intro l s h
  by_cases e : s = S ∧ mget l i = v
  · exact Or.inr (Or.inr (Or.inl ⟨(none, h), mExt.rf h, fun _ _ => gc_t e⟩))
  · exact Or.inl fun _ _ => gc_f e
abbrev nX12 : String := "java/util/NoSuchElementException"
theorem w_1092 : Cond.classLink RX11 148 nX12 ∈ wa := mw_t (i := 1092) (by decide +kernel) (by decide +kernel)
theorem w_16 : Cond.initialized nX12 ∈ wa := mw_t (i := 16) (by decide +kernel) (by decide +kernel)
theorem w_1087 : Cond.classLink RL 13 nX12 ∈ wa := mw_t (i := 1087) (by decide +kernel) (by decide +kernel)
theorem w_l7 : Cond.methodLink RL 7 yX11_day ∈ wa := mw_t (i := 1088) (by decide +kernel) (by decide +kernel)
theorem w_i11 : Cond.instanceMethod yX11_day ∈ wa := mw_t (i := 1089) (by decide +kernel) (by decide +kernel)
theorem w_s11 : Cond.selects RX11 yX11_day yX11_day ∈ wa := mw_t (i := 1090) (by decide +kernel) (by decide +kernel)
theorem w_n11 : Cond.initialized RX11 ∈ wa := mw_t (i := 1) (by decide +kernel) (by decide +kernel)
theorem w_c11 : Cond.code yX11_day cX11_day 6 (some .int) ∈ wa := mw_t (i := 1091) (by decide +kernel) (by decide +kernel)
abbrev at12 : List Cond := vx_at0 RX11 150 nX12 ["java/lang/RuntimeException", "java/lang/Exception"]
theorem at12_good : ∀ w ∈ at12.filter goodWord, w ∈ tables_1 := by
  intro w hw
  have h := List.all_eq_true.mp (show (at12.filter goodWord).all (fun w => decide (w ∈ tables_1)) = true by decide +kernel) w hw
  exact of_decide_eq_true h
theorem at12_rest : ∀ w ∈ at12.filter (fun w => !goodWord w), w ∈ Cond.castable nX12 nX12 :: wD.map Cond.declares := by
  intro w hw
  have h := List.all_eq_true.mp (show (at12.filter (fun w => !goodWord w)).all (fun w => decide (w ∈ Cond.castable nX12 nX12 :: wD.map Cond.declares)) = true by decide +kernel) w hw
  exact of_decide_eq_true h
theorem at12_ot : ∀ w ∈ Cond.classLink RX11 148 nX12 :: Cond.initialized nX12 :: at12, vx_ot w = true := by
  intro w hw
  exact List.all_eq_true.mp (show (Cond.classLink RX11 148 nX12 :: Cond.initialized nX12 :: at12).all vx_ot = true by decide +kernel) w hw
theorem at12_s {s : State} {args : Array Value} (hts : ∀ w ∈ wa, w.before args s = true) (hNe : nest s) : ∀ w ∈ at12, w.before args s = true := by
  refine vx_hat (B := Cond.castable nX12 nX12 :: wD.map Cond.declares) (fun w hw => ?_) at12_rest (fun w hw => ?_)
  · exact hts w (wa_in (List.mem_append_right _ (at12_good w hw)) (List.mem_filter.mp hw).2)
  · rcases List.mem_cons.mp hw with rfl | hw
    · exact va_Nw.use rfl hNe.2.2.2.2.1
    · obtain ⟨x, hx, rfl⟩ := List.mem_map.mp hw
      exact va_Nw.use rfl (hNe.2.2.2.2.2 x hx)
theorem C9 (n : Nat) : ∀ as h1, mcl prog (mex prog n) 9999 as h1 = none := by
  intro as h1
  cases e9 : mcl prog (mex prog n) 9999 as h1 with
  | none => rfl
  | some r9 =>
    have q9 := (mcl_inv e9).2
    rw [mex_none prog n 9999 0 _ _ _ mb_9999] at q9
    cases q9
/-- DayBoy.day up to its branch -/
theorem day_pre {l : Launch} {n : Nat} (hM : Mst mtab l n) {a z1 z2 z3 z4 y : Int} {h h1 : mH} (hcall : mcl prog (mex prog n) kX_dayIn [vO 10 a, vI z1, vI z2, vI z3, vI z4] h = some (some (vI y), h1))
    {p : Program} {e : Env} {R : Room} {s : State} {m : MethodId} {args : Array Value} {below : List Frame} {meth : Method} {c : Code} {D : va_G} {fz : Nat → Nat} {X : Int → Int} {A : Nat → Prop} {Q : State → Prop}
    (C : ctxX p R s m args meth c RX11 cX11_day 6 false fz X A) (hlk : meth.locks = false) (hF : 4 ≤ R.frames) (hL : 103 ≤ R.locals) (hX : h.X = X) (hc1 : h1.cnt ≤ h.cnt + R.cells) (hs1 : h1.sl ≤ h.sl + R.slots)
    {φ : Int → Nat} {cA : Int → ClassId} {tys : List (ClassId × FieldType)} {ls : Array Slot} {H : Heap} (hR : RS D fz A s 6 h.cnt h.sl (mloc 6 [vO 10 a, vI z1, vI z2, vI z3, vI z4]) [] h φ cA tys ls [] H [] 0 0)
    (kk : ∀ (φ' : Int → Nat) (cA' : Int → ClassId) (tys' : List (ClassId × FieldType)) (lo' : List mV) (ls' : Array Slot) (sv' : List Value) (H' : Heap) (locs' : List Loc) (cells' slots' : Nat), mget lo' 5 = vI y → (∀ b : Int, b ≤ h.cnt → φ' b = φ b) → RS D fz A s 6 h.cnt h.sl lo' [vI (-1), vI y] h1 φ' cA' tys' ls' sv' H' locs' cells' slots' → W p l e R s m args below meth c H' locs' cells' slots' Q (F0 m 14 ls' sv')) :
    W p l e R s m args below meth c H [] 0 0 Q (F0 m 0 ls []) := by
  have hx1 : mExt h h1 := mex_ext pok_prog _ _ _ _ _ _ _ (mcl_inv hcall).2
  have hCe : ∀ (g : Nat) (as : List mV) (h2 : mH) (r1 : Option mV × mH), mcl prog (mex prog n) g as h2 = some r1 → mExt h2 r1.2 := fun g as h2 r1 q => mex_ext pok_prog _ _ _ _ _ _ _ (mcl_inv q).2
  have hXe : ∀ (b : Nat) (l2 s2 : List mV) (h2 : mH), gc (b = 1 ∧ s2 = [vI y] ∧ l2 = mloc 6 [vO 10 a, vI z1, vI z2, vI z3, vI z4]) (some ((none : Option mV), h2)) = some (none, h1) → mExt h2 h1 := by
    intro b l2 s2 h2 e2
    obtain ⟨-, e3⟩ := gc_some e2
    cases e3
    exact mExt.rf _
  have e0 : runL [s_al 0, s_il 1, s_il 2, s_il 3, s_il 4] (fun l2 s2 h2 => t_cv 10 kX_dayIn 4 1 1 (fun b l3 s3 h3 => gc (b = 1 ∧ s3 = [vI y] ∧ l3 = mloc 6 [vO 10 a, vI z1, vI z2, vI z3, vI z4]) (some ((none : Option mV), h3))) (fun f as => mcl prog (mex prog n) f as) l2 s2 h2) (mloc 6 [vO 10 a, vI z1, vI z2, vI z3, vI z4]) [] h = some (none, h1) := by
    have q : runL [s_al 0, s_il 1, s_il 2, s_il 3, s_il 4] (fun l2 s2 h2 => t_cv 10 kX_dayIn 4 1 1 (fun b l3 s3 h3 => gc (b = 1 ∧ s3 = [vI y] ∧ l3 = mloc 6 [vO 10 a, vI z1, vI z2, vI z3, vI z4]) (some ((none : Option mV), h3))) (fun f as => mcl prog (mex prog n) f as) l2 s2 h2) (mloc 6 [vO 10 a, vI z1, vI z2, vI z3, vI z4]) [] h = mback 1 (mcl prog (mex prog n) kX_dayIn [vO 10 a, vI z1, vI z2, vI z3, vI z4] h) [] (fun s3 h3 => gc ((1 : Nat) = 1 ∧ s3 = [vI y] ∧ mloc 6 [vO 10 a, vI z1, vI z2, vI z3, vI z4] = mloc 6 [vO 10 a, vI z1, vI z2, vI z3, vI z4]) (some ((none : Option mV), h3))) := rfl
    rw [q, hcall]
    exact gc_t ⟨rfl, rfl, rfl⟩
  refine runL_snd (r := (none, h1)) (c0 := h.cnt) (s0 := h.sl) (φ0 := φ) (hb0 := h) (pc' := 6) C (tok_cv 10 kX_dayIn 4 1 1) hXe hCe hc1 hs1 [s_al 0, s_il 1, s_il 2, s_il 3, s_il 4] ⟨ok_s_al 0, ok_s_il 1, ok_s_il 2, ok_s_il 3, ok_s_il 4, trivial⟩ 0 (sL_c (snd_aload_n dX11_day_0) (sL_c (snd_iload_n dX11_day_1) (sL_c (snd_iload_n dX11_day_2) (sL_c (snd_iload_n dX11_day_3) (sL_c (snd_iload dX11_day_4) sL_n))))) _ _ _ e0 hX (mExt.rf h) φ cA tys ls [] H [] 0 0 (fun _ _ => rfl) hR ?_
  intro l' s' h' e' hX' hx' φ' cA' tys' ls' sv' H' locs' cells' slots' hφ' hR'
  refine cs_RX11_144 (rF := 4) (rL := 103) (pcs := [0, 9]) (b := 1) rfl (by decide) (by decide) dX11_day_6 p l e R s m args below meth c D fz X A φ h (none, h1) Q C hlk hF hL l' s' h' _ _ e' hX' hc1 hs1 hXe hCe hM (C9 n) φ' cA' tys' ls' sv' H' locs' cells' slots' hφ' hR' ?_
  intro b2 l2 s2 h2 pb2 e2 hx2 hpb2 φ2 cA2 tys2 ls2 sv2 H2 locs2 cells2 slots2 hφ2 hR2
  obtain ⟨⟨rfl, rfl, rfl⟩, e3⟩ := gc_some e2
  cases e3
  have hpb : pb2 = 9 := (Option.some.inj hpb2).symm
  subst hpb
  have e1 : runL [s_is 5, s_il 5, s_c (-1)] (fun l2 s2 h2 => t_at [vI (-1), vI y] 5 (vI y) (fun _ _ _ _ => none) (fun _ _ _ => none) l2 s2 h2) (mloc 6 [vO 10 a, vI z1, vI z2, vI z3, vI z4]) [vI y] h1 = some (none, h1) := by
    show gc ([vI (-1), vI y] = [vI (-1), vI y] ∧ vI y = vI y) (some ((none : Option mV), h1)) = _
    exact gc_t ⟨rfl, rfl⟩
  refine runL_snd (r := (none, h1)) (c0 := h.cnt) (s0 := h.sl) (φ0 := φ2) (hb0 := h1) (pc' := 14) C (tok_at _ _ _) (fun _ _ _ _ q => by cases q) (fun _ _ _ _ q => by cases q) hc1 hs1 [s_is 5, s_il 5, s_c (-1)] ⟨ok_s_is 5, ok_s_il 5, ok_s_c (-1), trivial⟩ 9 (sL_c (snd_istore (by decide) dX11_day_9) (sL_c (snd_iload dX11_day_11) (sL_c (snd_iconst rfl ii_m1 dX11_day_13) sL_n))) _ _ _ e1 (hx1.2.2.1.trans hX) (mExt.rf h1) φ2 cA2 tys2 ls2 sv2 H2 locs2 cells2 slots2 (fun _ _ => rfl) hR2 ?_
  intro l3 s3 h3 e3 hX3 hx3 φ3 cA3 tys3 ls3 sv3 H3 locs3 cells3 slots3 hφ3 hR3
  obtain ⟨⟨rfl, hl5⟩, e4⟩ := gc_some e3
  cases e4
  have u := hx'.1
  have u1 := hx1.1
  exact kk φ3 cA3 tys3 l3 ls3 sv3 H3 locs3 cells3 slots3 hl5 (fun b hb => (hφ3 b (by omega)).trans ((hφ2 b (by omega)).trans (hφ' b hb))) hR3
/-- it answers -/
theorem dayMok {l : Launch} {n : Nat} (hM : Mst mtab l n) {a z1 z2 z3 z4 y : Int} {h h1 : mH} (hcall : mcl prog (mex prog n) kX_dayIn [vO 10 a, vI z1, vI z2, vI z3, vI z4] h = some (some (vI y), h1)) (hy : y ≠ -1) :
    metM l yX11_day (Cond.code yX11_day cX11_day 6 (some .int)) 6 103 1 [vO 10 a, vI z1, vI z2, vI z3, vI z4] h (some (vI y), h1) := by
  intro D fz φ cA tys av sz has
  refine Met.ofW (cc := cX11_day) (maxL := 6) (ret := some .int) (by decide +kernel) rfl ?_
  intro p e0 s m args below meth c s₁ B hml hv
  obtain ⟨rfl, hsz, hP, hD, hK, hWT, hAT, hSt, hNe⟩ := hv
  subst hsz
  have hx1 : mExt h h1 := mex_ext pok_prog _ _ _ _ _ _ _ (mcl_inv hcall).2
  have hts := atoms_spec (ws := Cond.code yX11_day cX11_day 6 (some .int) :: wa) B.pre
  have hown : s.vm.findClass yX11_day.cls = some m.cls := findClass_of_methodNamed B.named
  rw [lg_entry_eq]
  have C : ctxX p ({ frames := 6, cells := h1.cnt - h.cnt, slots := h1.sl - h.sl, locals := 103 } : Room) s m av.toArray meth c RX11 cX11_day 6 false fz h.X (va_A (wsX φ cA h) s.heap.size) := ⟨B.exec, B.bytes, hml, hown, fun w hw => hts w (List.mem_cons_of_mem _ hw), fun hi => (by cases hi), fun q hq => Or.inr hq, hSt, hNe⟩
  have hc1 : h1.cnt ≤ h.cnt + (h1.cnt - h.cnt) := by omega
  have hs1 : h1.sl ≤ h.sl + (h1.sl - h.sl) := by omega
  have hlo := rlo_entry (nL := 6) has (by show 5 ≤ 6; omega)
  refine day_pre hM hcall C B.notSynchronized (by show 4 ≤ 6; omega) (by show 103 ≤ 103; omega) rfl hc1 hs1 (φ := φ) (cA := cA) (tys := tys) ⟨⟨hP, hD.self, hK, hWT, hAT⟩, rfl, hlo, va_S.rf, Nat.zero_add _, Nat.zero_add _⟩ ?_
  intro φ' cA' tys' lo' ls' sv' H' locs' cells' slots' hl5 hφ' hR'
  obtain ⟨w1, v1, rfl, ⟨i1, rfl⟩, w2, v2, rfl, ⟨i2, rfl⟩, h3⟩ := hR'.2.1
  have h3 : v2 = [] := h3
  subst h3
  refine lv_icmp_ne B.exec B.bytes dX11_day_14 (by decide : (14 : Int) + 11 = ((25 : Nat) : Int)) (fun q => ?_) (fun q => absurd ((ofI_inj i2 i1).mp q) hy)
  have e3 : runL [s_il 5] (fun l2 s2 h2 => t_ri (fun _ _ _ _ => none) (fun _ _ _ => none) l2 s2 h2) lo' [] h1 = some (some (vI y), h1) := by
    show s_il 5 lo' [] h1 _ = _
    unfold s_il
    rw [hl5]
    rfl
  refine runL_snd (r := (some (vI y), h1)) (c0 := h.cnt) (s0 := h.sl) (φ0 := φ') (hb0 := h1) (pc' := 27) C tok_ri (fun _ _ _ _ q => by cases q) (fun _ _ _ _ q => by cases q) hc1 hs1 [s_il 5] ⟨ok_s_il 5, trivial⟩ 25 (sL_c (snd_iload dX11_day_25) sL_n) _ _ _ e3 hx1.2.2.1 (mExt.rf h1) φ' cA' tys' ls' [] H' locs' cells' slots' (fun _ _ => rfl) (hR'.stk rfl) ?_
  intro l3 s3 h3 e4 hX3 hx3 φ3 cA3 tys3 ls3 sv3 H3 locs3 cells3 slots3 hφ3 hR3
  have u1 := hx1.1
  exact sndT_ri (mtab := mtab) (pcs := []) (rF := 0) (rL := 0) (kd := 1) (ret := some .int) rfl rfl dX11_day_27 p l e0 _ s m av.toArray below meth c D fz h.X _ φ h (some (vI y), h1) C B.returns B.notSynchronized (Nat.zero_le _) (Nat.zero_le _) l3 s3 h3 _ _ e4 hX3 hc1 hs1 (fun _ _ _ _ q => by cases q) (fun _ _ _ _ q => by cases q) (fun _ _ _ _ _ q => by cases q) (fun _ _ => rfl) φ3 cA3 tys3 ls3 sv3 H3 locs3 cells3 slots3 (fun b hb => (hφ3 b (by omega)).trans (hφ' b hb)) hR3 (fun _ _ _ _ _ q => by cases q)
section THR
variable {p : Program} {l : Launch} {e : Env} {R : Room} {s : State} {m : MethodId} {args : Array Value} {below : List Frame} {meth : Method} {c : Code} {H : Heap} {locs : List Loc} {cells slots : Nat} {Q : State → Prop}
variable {mc ms : Nat} {free : Addr → Prop} {A0 A1 : Nat → Prop} {H0 : Heap} {a : Array Value} {ls : Array Slot} {st0 rest : List Value}
variable {Qc : Array Value → State → Outcome → State → Prop} {XC : String → State → State → Prop}
/-- the exceptions section's row of a throw, that says one thing more: the new object's cell -/
theorem thr0 {cc : ByteArray} {pc : Nat} (hexec : p.tables.exec = Jvm.exec) (hb : c.code = cc) (hl : l.stackTraces = false) {own cls : String} {names : List String} {ik ic mc ms : Nat} {A : Nat → Prop}
    (hown : s.vm.findClass own = some m.cls) (hcls : Bundle.fit cls = true) (hnames : ∀ n ∈ names, Bundle.fit n = true)
    (hk : (Cond.classLink own ik cls).before args s = true) (hini : (Cond.initialized cls).before args s = true) (hat : ∀ w ∈ vx_at0 own ic cls names, w.before args s = true)
    (hgood : ∀ w ∈ Cond.classLink own ik cls :: Cond.initialized cls :: vx_at0 own ic cls names, vx_ot w = true)
    (hU : vx_Zq Bundle.tN "UNASSIGNED_STACK" Bundle.steD A s s.heap) (hN : vx_Zq Bundle.tN "SUPPRESSED_SENTINEL" Bundle.listD A s s.heap) (hS : va_S A s.heap H locs) (hsize : ls.size = c.maxLocals)
    (d0 : decode cc pc = .ok (.new ik, 3)) (d3 : decode cc (pc + 3) = .ok (.dup, 1)) (d4 : decode cc (pc + 4) = .ok (.invokespecial ic, 3)) (d7 : decode cc (pc + 7) = .ok (.athrow, 1))
    (hout : ∀ x ∈ c.exceptionTable.toList, covers x (pc + 7) = false)
    (hRframes : names.length + 3 < R.frames) (hRlocals : (rest.map fun v => v.category).sum + (13 * (names.length + 1) + 42) ≤ R.locals) (hRcells : cells + 1 ≤ R.cells) (hRslots : slots + 6 ≤ R.slots) (hlocks : meth.locks = false)
    (hx : ∀ (t : State) (ce : Cell), s.vm.Alike t.vm → H.size ≤ t.heap.size → (∀ q : Nat, q < H.size → t.heap[q]? = H[q]?) → t.heap[H.size]? = some ce → ce.vm = .none → s.vm.findClass cls = some ce.cls → XC cls s t)
    (hf : ∀ z ∈ locs, free z.base) (hc : cells + 1 ≤ mc) (hs : slots + 6 ≤ ms) :
    W p l e R s m args below meth c H locs cells slots (vx_MQ below Qc XC args s mc ms free) (F0 m pc ls rest) := by
  intro T hT X
  have htr : e.platform.stackTraces = false := (show e.platform.stackTraces = l.stackTraces by rw [X.admits.platform]).trans hl
  have Y := vx_rebase X (R' := { frames := R.frames, locals := R.locals, cells := 1, slots := 6 }) (Nat.le_refl _) (Nat.le_refl _) hRcells hRslots
  obtain ⟨s', hA⟩ : ∃ z, z = (T.setVm s.vm).setFrames (.invoking m args :: below) := ⟨_, rfl⟩
  rw [← hA] at Y
  have hvm : s'.vm = s.vm := by rw [hA]; rfl
  have hhp : s'.heap = H := by rw [hA]; exact hT
  have hW0 : s.WarmedH s'.vm := by rw [hvm]; exact State.WarmedH.refl s
  have hat' : ∀ w ∈ vx_at0 own ic cls names, w.before args s' = true := fun w hw => vx_ot_at hW0 hvm.symm (hgood w (List.mem_cons_of_mem _ (List.mem_cons_of_mem _ hw))) (hat w hw)
  have hk' : (Cond.classLink own ik cls).before args s' = true := vx_ot_at hW0 hvm.symm (hgood _ List.mem_cons_self) hk
  have hini' : (Cond.initialized cls).before args s' = true := vx_ot_at hW0 hvm.symm (hgood _ (List.mem_cons_of_mem _ List.mem_cons_self)) hini
  have hU' : vx_Zq Bundle.tN "UNASSIGNED_STACK" Bundle.steD A s' s'.heap := by rw [hhp]; exact vx_Zq.moved hW0.alike (hU.kept hS.2.1)
  have hN' : vx_Zq Bundle.tN "SUPPRESSED_SENTINEL" Bundle.listD A s' s'.heap := by rw [hhp]; exact vx_Zq.moved hW0.alike (hN.kept hS.2.1)
  have h : ∀ w ∈ Bundle.ownAtoms0 own ic cls names, w.before args s' = true := vx_own hat' (vx_isRefq hU'.1) (vx_isRefq hN'.1) hU'.2.word hN'.2.word
  have hown' : s'.vm.findClass own = some m.cls := by rw [hvm]; exact hown
  have hins : (Cond.instantiable cls 6).before args s' = true := h _ (by simp [Bundle.ownAtoms0])
  obtain ⟨vm₁, cX, kX, hfX, hkX, -, -, X₁, st1⟩ := Y.newCold hexec (own := own) (C := cls) (index := ik) (n := 6) hown' hk' hins hini'
    (g := F0 m pc ls rest) rfl (by rw [hb]; exact d0) (Nat.le_refl _) (Nat.le_refl _)
  generalize hT1 : (T.setVm vm₁).pushCell { cls := cX, slots := kX.instanceTypes.map defaultValue, vm := .none } = T1 at X₁ st1
  have hcat : (Value.ref T.heap.size).category = 1 := rfl
  have hcellA : T1.heap[T.heap.size]? = some (freshCell cX kX) := by rw [← hT1]; exact State.heap_pushCell_size _ _
  have d3' : decode c.code (pc + 3) = .ok (.dup, 1) := by rw [hb]; exact d3
  obtain ⟨U, hsteps, hrun, hend, hW, hsame, ce, hce, hO⟩ := X₁.ctorThrow0 hexec htr (own := own) (cls := cls) (names := names) (ic := ic) hown' hcls hnames h (fun x hx => nomatch hx) hfX hkX hcellA (by rw [hhp, hT]; exact Nat.le_refl _)
    (g := { method := m, pc := pc + 4, locals := ls, stack := .ref T.heap.size :: .ref T.heap.size :: rest, locked := none }) rfl hsize rfl rfl (rest := rest) rfl
    (by rw [hb]; exact d4) (by rw [hb]; exact d7) hout hRframes (by simp only [List.map_cons, List.sum_cons, hcat]; omega) hlocks
  obtain ⟨f1, f2⟩ := vx_frame hsame
  rw [hhp] at f1 f2
  have hWs : s.WarmedH U.vm := State.WarmedH.trans hW0 hW
  have hcl : s.vm.findClass cls = some ce.cls := by
    have h9 := hO.cls
    rw [hvm] at h9
    exact h9
  have hall : s.sameButNew ({ U with vm := s.vm } : State) locs mc ms := by
    subst hA
    obtain ⟨e1, e2⟩ := hsame
    rw [State.setFrames_setFrames] at e1
    have h2 : (T.setVm s.vm).sameButNew ({ U with vm := s.vm } : State) [] (0 + 1) (0 + 6) := ⟨e1, e2⟩
    have h3 := X.same.trans h2
    rw [List.append_nil] at h3
    exact h3.mono hc hs
  refine ⟨U, ?_, .threw T.heap.size, hrun, hend, Or.inr ⟨T.heap.size, rfl, cls, ce, locs, hx U ce hWs.alike f1 (fun q hq => f2 q hq (fun z hz => nomatch hz)) (by rw [← hT]; exact hce) hO.vm hcl, hce, hO.vm, hcl, hWs, hall, hf⟩⟩
  refine st1 _ ?_
  show Steps p.tables e below (T1.setTop { method := m, pc := pc + 3, locals := ls, stack := .ref T.heap.size :: rest, locked := none }) _
  jvm_step X₁.here [X₁.here.top, hexec, d3', Value.category]
  exact hsteps
end THR
theorem rlo_junk {fz : Nat → Nat} {φ : Int → Nat} {h : mH} {l : List mV} {ls : Array Slot} {nL i : Nat} {w : Value} (q : rlo fz φ h l ls nL) (hi : i < nL) (hc : w.category = 1) : ∃ ls', storeLocals ls i w = some ls' ∧ rlo fz φ h (mpad nL) ls' nL := by
  obtain ⟨ls', e1, h1⟩ := lv_store1 (l := []) (v := w) ⟨q.1.1, q.2.1, fun _ h => by cases h⟩ hi hc
  exact ⟨ls', e1, ⟨h1.1, mpad_len nL⟩, h1.2.1, fun j => Or.inl ⟨(), mpad_get nL j⟩⟩
/-- what a throw says of the memory -/
def xc12 (D : va_G) (A : Nat → Prop) (φ0 : Int → Nat) (h0 h2 : mH) : String → State → State → Prop := vx_X (S := mU) (fun _ => True) (fun E u t => E = nX12 ∧ hok D A φ0 h0 h2 u t) A
/-- it throws -/
theorem dayMth {l : Launch} (hl : l.stackTraces = false) {n : Nat} (hM : Mst mtab l n) {a z1 z2 z3 z4 : Int} {h h1 : mH} (hcall : mcl prog (mex prog n) kX_dayIn [vO 10 a, vI z1, vI z2, vI z3, vI z4] h = some (some (vI (-1)), h1))
    (D : va_G) (fz : Nat → Nat) (φ : Int → Nat) (cA : Int → ClassId) (tys : List (ClassId × FieldType)) (av : List Value) (sz : Nat) (has : rst fz φ h [vO 10 a, vI z1, vI z2, vI z3, vI z4] av) :
    vx_Met l yX11_day (Cond.code yX11_day cX11_day 6 (some .int) :: wa) ({ frames := 6, cells := (h1.new 12 6).cnt - h.cnt, slots := (h1.new 12 6).sl - h.sl, locals := 103 } : Room) (va_Pc av (pre D fz φ cA tys h sz)) (va_Qi (S := mU) (fun _ _ => False) (fun _ _ => True) (va_A (wsX φ cA h) sz)) (xc12 D (va_A (wsX φ cA h) sz) φ h (h1.new 12 6)) ((h1.new 12 6).cnt - h.cnt) ((h1.new 12 6).sl - h.sl) (va_A (wsX φ cA h) sz) := by
  refine vx_ofW (cc := cX11_day) (maxL := 6) (ret := some .int) (by decide +kernel) rfl ?_
  intro p e0 s m args below meth c s₁ B hml ht hv
  obtain ⟨rfl, hsz, hP, hD, hK, hWT, hAT, hSt, hNe⟩ := hv
  subst hsz
  have hx1 : mExt h h1 := mex_ext pok_prog _ _ _ _ _ _ _ (mcl_inv hcall).2
  have hts := atoms_spec (ws := Cond.code yX11_day cX11_day 6 (some .int) :: wa) B.pre
  have hts' : ∀ w ∈ wa, w.before av.toArray s = true := fun w hw => hts w (List.mem_cons_of_mem _ hw)
  have hown : s.vm.findClass yX11_day.cls = some m.cls := findClass_of_methodNamed B.named
  rw [lg_entry_eq]
  have C : ctxX p ({ frames := 6, cells := (h1.new 12 6).cnt - h.cnt, slots := (h1.new 12 6).sl - h.sl, locals := 103 } : Room) s m av.toArray meth c RX11 cX11_day 6 false fz h.X (va_A (wsX φ cA h) s.heap.size) := ⟨B.exec, B.bytes, hml, hown, hts', fun hi => (by cases hi), fun q hq => Or.inr hq, hSt, hNe⟩
  have n1 : (h1.new 12 6).cnt = h1.cnt + 1 := rfl
  have n2 : (h1.new 12 6).sl = h1.sl + 6 := rfl
  have hc1 : h1.cnt ≤ h.cnt + ((h1.new 12 6).cnt - h.cnt) := by omega
  have hs1 : h1.sl ≤ h.sl + ((h1.new 12 6).sl - h.sl) := by omega
  have hlo := rlo_entry (nL := 6) has (by show 5 ≤ 6; omega)
  refine day_pre hM hcall C B.notSynchronized (by show 4 ≤ 6; omega) (by show 103 ≤ 103; omega) rfl hc1 hs1 (φ := φ) (cA := cA) (tys := tys) ⟨⟨hP, hD.self, hK, hWT, hAT⟩, rfl, hlo, va_S.rf, Nat.zero_add _, Nat.zero_add _⟩ ?_
  intro φ' cA' tys' lo' ls' sv' H' locs' cells' slots' hl5 hφ' hR'
  obtain ⟨w1, v1, rfl, ⟨i1, rfl⟩, w2, v2, rfl, ⟨i2, rfl⟩, h3⟩ := hR'.2.1
  have h3 : v2 = [] := h3
  subst h3
  refine lv_icmp_ne B.exec B.bytes dX11_day_14 (by decide : (14 : Int) + 11 = ((25 : Nat) : Int)) (fun q => absurd rfl q) (fun q => ?_)
  have x1 := hx1.1
  have x2 := hx1.2.1
  have c1 := hR'.2.2.2.2.1
  have c2 := hR'.2.2.2.2.2
  have hS := hR'.2.2.2.1
  refine thr0 (own := RX11) (cls := nX12) (names := ["java/lang/RuntimeException", "java/lang/Exception"]) (ik := 148) (ic := 150) (A := va_A (wsX φ cA h) s.heap.size) B.exec B.bytes hl hown (by decide +kernel) (by decide +kernel) (hts' _ w_1092) (hts' _ w_16) (at12_s hts' hNe) at12_ot hSt.2.2.2.2.2.2.2.2.1 hSt.2.2.2.2.2.2.2.2.2 hS (hR'.2.2.1.1.1.trans hml.symm) dX11_day_17 dX11_day_20 dX11_day_21 dX11_day_24 (fun x hx => (ht x hx).elim) (by show 2 + 3 < 6; omega) (by show 0 + (13 * (2 + 1) + 42) ≤ 103; omega) (by show cells' + 1 ≤ (h1.new 12 6).cnt - h.cnt; omega) (by show slots' + 6 ≤ (h1.new 12 6).sl - h.sl; omega) B.notSynchronized ?_ hS.2.2 (by omega) (by omega)
  intro t ce hal hz hold hnew hvm hcl
  obtain ⟨k12, -⟩ := (hR'.1.2.2.1.1 12 _ rfl).2
  have ecl : ce.cls = D.1 12 := Option.some.inj (hcl.symm.trans k12)
  have P2 : va_P D clX (wsX φ' cA' h1 ++ [(H'.size, .inr (12, []))]) t.heap := by
    refine (hR'.1.1.kept (fun k q hk => hold _ ((hR'.1.1 k q hk).lt))).app (fun k q hk => ?_)
    have hk1 : k < 1 := (List.getElem?_eq_some_iff.mp hk).1
    rw [show k = 0 by omega] at hk
    cases hk
    exact ⟨_, rfl, ce, hnew, ecl, hvm, fun j hj => absurd hj (Nat.not_lt_zero _)⟩
  have D2 : va_D (va_A (wsX φ cA h) s.heap.size) (wsX φ' cA' h1 ++ [(H'.size, .inr (12, []))]) := hR'.1.2.1.push hR'.1.1 rfl (Or.inr hS.1)
  have ews : wsX φ' cA' h1 ++ [(H'.size, .inr (12, []))] = wsX (phn φ' h1 H'.size) cA' (h1.new 12 6) := ws_newO (ci := 12) (n := 6) hR'.1.2.2.2.1 (by omega)
  rw [ews] at P2 D2
  exact ⟨(phn φ' h1 H'.size, cA', tys'), trivial, ⟨rfl, P2, D2, va_K.moved hal hR'.1.2.2.1, WT_new hR'.1.2.2.2.1 (Or.inl (by omega)), arr_newO (by omega) hR'.1.2.2.2.2, fun b hb => (phn_le _ _ _ (by omega)).trans (hφ' b hb)⟩, ⟨Nat.le_trans hS.1 hz, fun q g1 g2 => (hold q (Nat.lt_of_lt_of_le g1 hS.1)).trans (hS.2.1 q g1 g2)⟩⟩
/-! the law's day -/
theorem Met_ofWH {l : Launch} {y : MethodName} {ws ws' : List Cond} {rm : Room} {Pc : Array Value → State → Prop} {Qc : Array Value → State → Outcome → State → Prop} {mc ms : Nat} {free : Addr → Prop} {cc : ByteArray} {maxL : Nat} {ret : Option FieldType} {hh : List (Nat × Nat × Nat × Nat)}
    (hy : plainName y.cls = true) (hw : ws = Cond.codeWith y cc maxL ret hh :: ws')
    (body : ∀ p e s m args below meth c s₁, BodyLoose p l y (headSpec ws rm) cc maxL ret e s m args below meth c s₁ → c.maxLocals = maxL → Pc args s →
      W p l e (headSpec ws rm).room s m args below meth c s.heap [] 0 0 (MQ below Qc args s mc ms free) (entryFrame m args maxL)) : Met l y ws rm Pc Qc mc ms free := by
  refine MetFree.of_bodyS (code := cc) (maxLocals := maxL) (ret := ret) hy ?_ ?_
  · intro args s m h hn
    obtain ⟨m9, meth, c, hn9, h1, h2, h3, h4, -, h5, h6, -⟩ := Cond.codeWith_spec (atoms_spec (ws := ws) h _ (by rw [hw]; exact List.mem_cons_self))
    cases hn.symm.trans hn9
    exact ⟨meth, c, h1, h2, h3, h4, h5, h6⟩
  · intro p e s m args below meth c s₁ B hml hP _
    have hh0 : s₁.heap = s.heap := by rw [B.state]; rfl
    obtain ⟨t, a1, o, b1, b2, b3⟩ := body p e s m args below meth c s₁ B hml hP s₁ hh0 (Stand.of_body B)
    exact ⟨t, o, a1, b1, b2, b3⟩
theorem mback1_inv {x : mR} {s : List mV} {k : List mV → mH → mR} {r : Option mV × mH} (e : mback 1 x s k = some r) : ∃ z h, x = some (some (vI z), h) ∧ k (vI z :: s) h = some r := by
  have e : bI x (fun z h => k (.inl z :: s) h) = some r := e
  unfold bI at e
  split at e
  · exact ⟨_, _, rfl, e⟩
  · cases e
section STEPS
variable {L : List mI} {lo st : List mV} {h : mH} {K : List mV → List mV → mH → mR} {r : Option mV × mH}
theorem step_c {z : Int} : runL (s_c z :: L) K lo st h = runL L K lo (vI z :: st) h := rfl
theorem step_il {i : Nat} (e : runL (s_il i :: L) K lo st h = some r) : ∃ z, mget lo i = vI z ∧ ∀ K', runL (s_il i :: L) K' lo st h = runL L K' lo (vI z :: st) h := by
  have e : s_il i lo st h (fun l' s' h' => runL L K l' s' h') = some r := e
  obtain ⟨z, hz, -⟩ := inv_il e
  refine ⟨z, hz, fun K' => ?_⟩
  show s_il i lo st h (fun l' s' h' => runL L K' l' s' h') = _
  unfold s_il
  rw [hz]
theorem step_al {i : Nat} (e : runL (s_al i :: L) K lo st h = some r) : ∃ v, ∀ K', runL (s_al i :: L) K' lo st h = runL L K' lo (v :: st) h := by
  have e : s_al i lo st h (fun l' s' h' => runL L K l' s' h') = some r := e
  have key : ∀ v, mget lo i = v → (∀ K', s_al i lo st h K' = K' lo (v :: st) h) → ∃ v, ∀ K', runL (s_al i :: L) K' lo st h = runL L K' lo (v :: st) h := fun v _ q => ⟨v, fun K' => q (fun l' s' h' => runL L K' l' s' h')⟩
  rcases inv_al e with ⟨q, hz, -⟩ | ⟨q, hz, -⟩ | ⟨q, hz, -⟩
  · exact key _ hz (fun K' => by unfold s_al; rw [hz])
  · exact key _ hz (fun K' => by unfold s_al; rw [hz])
  · exact key _ hz (fun K' => by unfold s_al; rw [hz])
end STEPS
/-- the law's day behind the call -/
theorem law_tail {n : Nat} {lo : List mV} {y : Int} {v5 : mV} {h1 : mH} {r : Option mV × mH} (hlen : lo.length = 7) (e : mex prog n kL_day 1 lo [vI y, vI 0, v5] h1 = some r) :
    (y = -1 ∧ r = (some (vI 1), h1.new 12 6)) ∨ (y ≠ -1 ∧ ∃ b, v5 = vR 101 b ∧ ((0 : Int) ≤ 0 ∧ 0 < h1.N b ∧ b ≠ 0) ∧ r = (some (vI 0), h1.set b 0 y)) := by
  match n, e with
  | n + 1, e =>
    rw [mex_step prog n kL_day 1 _ _ _ b_L_day_1 rfl] at e
    have e : runL [s_il 6, s_c (-1)] (fun l2 s2 h2 => t_ieq 2 3 (fun b' => mex prog n kL_day b') (fun f as => mcl prog (mex prog n) f as) l2 s2 h2) (mput lo 6 (vI y)) [vI 0, v5] h1 = some r := e
    obtain ⟨z, hz, hk⟩ := step_il e
    rw [mgp_s lo 6 (vI y) (by omega)] at hz
    cases hz
    rw [hk] at e
    have e : (if y = -1 then mex prog n kL_day 2 (mput lo 6 (vI y)) [vI 0, v5] h1 else mex prog n kL_day 3 (mput lo 6 (vI y)) [vI 0, v5] h1) = some r := e
    by_cases hy : y = -1
    · rw [if_pos hy] at e
      match n, e with
      | n + 1, e =>
        rw [mex_step prog n kL_day 2 _ _ _ b_L_day_2 rfl] at e
        have e : s_pop (mput lo 6 (vI y)) [v5] h1 (fun l2 s2 h2 => runL [s_new 12 6, s_pop, s_c 1] (fun l3 s3 h3 => t_ri (fun b' => mex prog n kL_day b') (fun f as => mcl prog (mex prog n) f as) l3 s3 h3) l2 s2 h2) = some r := e
        obtain ⟨v, rr, e1, -, e2⟩ := inv_pop e
        cases e1
        have e2 : some (some (vI 1), h1.new 12 6) = some r := e2
        exact Or.inl ⟨hy, (Option.some.inj e2).symm⟩
    · rw [if_neg hy] at e
      match n, e with
      | n + 1, e =>
        rw [mex_step prog n kL_day 3 _ _ _ b_L_day_3 rfl] at e
        have e : runL [s_il 6, s_i2l, s_iast 101 1, s_c 0] (fun l3 s3 h3 => t_ri (fun b' => mex prog n kL_day b') (fun f as => mcl prog (mex prog n) f as) l3 s3 h3) (mput lo 6 (vI y)) [vI 0, v5] h1 = some r := e
        obtain ⟨z, hz, hk⟩ := step_il e
        rw [mgp_s lo 6 (vI y) (by omega)] at hz
        cases hz
        rw [hk] at e
        have e : s_iast 101 1 (mput lo 6 (vI y)) [vL y, vI 0, v5] h1 (fun l2 s2 h2 => runL [s_c 0] (fun l3 s3 h3 => t_ri (fun b' => mex prog n kL_day b') (fun f as => mcl prog (mex prog n) f as) l3 s3 h3) l2 s2 h2) = some r := e
        obtain ⟨v, i, b, rr, z, e1, hb, hv, e2⟩ := inv_iast e
        cases e1
        have hv : vL y = vL z := hv
        cases hv
        have e2 : some (some (vI 0), h1.set b 0 y) = some r := e2
        exact Or.inr ⟨hy, b, rfl, hb, (Option.some.inj e2).symm⟩
abbrev mt1 : List mI5 := [(yX11_day, Cond.code yX11_day cX11_day 6 (some .int), 6, 103, 1)]
/-- DayBoy.day where it answers, as a call of the small machine -/
noncomputable def cf1 (n : Nat) (AS : List mV) : Nat → List mV → mH → mR := fun g as h => match g with
  | 0 => gc (as = AS) (bI (mcl prog (mex prog n) kX_dayIn AS h) fun y h' => gd (y ≠ -1) (some (some (vI y), h')))
  | _ => none
theorem cf1_inv {n g : Nat} {AS as : List mV} {h : mH} {r : Option mV × mH} (e : cf1 n AS g as h = some r) : g = 0 ∧ as = AS ∧ ∃ y h', mcl prog (mex prog n) kX_dayIn AS h = some (some (vI y), h') ∧ y ≠ -1 ∧ r = (some (vI y), h') := by
  unfold cf1 at e
  split at e
  · obtain ⟨e1, e⟩ := gc_some e
    unfold bI at e
    split at e
    · rename_i z h2 hz
      obtain ⟨e2, e⟩ := gd_some e
      exact ⟨rfl, e1, z, h2, hz, e2, (Option.some.inj e).symm⟩
    · cases e
  · cases e
/-- the end of a body whose answer is an int, from a state where nothing of the locals is known -/
theorem fin_i {mtab : List mI5} {own : String} {cc : ByteArray} {nL : Nat} {pc : Nat} {z : Int} (hz : inI z) {nn : Int} (hv : Int32.ofInt nn = Int32.ofInt z) (d1 : decode cc pc = .ok (.iconst nn, 1)) (d2 : decode cc (pc + 1) = .ok (.ireturn, 1))
    {p : Program} {l : Launch} {e : Env} {R : Room} {s : State} {m : MethodId} {args : Array Value} {below : List Frame} {meth : Method} {c : Code} {D : va_G} {fz : Nat → Nat} {X : Int → Int} {A : Nat → Prop} {φ0 : Int → Nat} {h0 h : mH} (C : ctxX p R s m args meth c own cc nL false fz X A) (hret : meth.sig.returnType = some .int) (hlk : meth.locks = false)
    (hX : h.X = X) (hc1 : h.cnt ≤ h0.cnt + R.cells) (hs1 : h.sl ≤ h0.sl + R.slots) {φ : Int → Nat} {cA : Int → ClassId} {tys : List (ClassId × FieldType)} {lo : List mV} {ls : Array Slot} {H : Heap} {locs : List Loc} {cells slots : Nat} (hx0 : h0.cnt ≤ h.cnt) (hφ : ∀ b : Int, b ≤ h0.cnt → φ b = φ0 b) (hR : RS D fz A s nL h0.cnt h0.sl lo [] h φ cA tys ls [] H locs cells slots) :
    W p l e R s m args below meth c H locs cells slots (MQ below (qof 1 D A φ0 h0 (some (vI z), h)) args s (h.cnt - h0.cnt) (h.sl - h0.sl) A) (F0 m pc ls []) := by
  refine runL_snd (r := (some (vI z), h)) (c0 := h0.cnt) (s0 := h0.sl) (φ0 := φ) (hb0 := h) (pc' := pc + 1) C tok_ri (Xf := fun _ _ _ _ => none) (Cf := fun _ _ _ => none) (fun _ _ _ _ q => by cases q) (fun _ _ _ _ q => by cases q) hc1 hs1 [s_c z] ⟨ok_s_c z, trivial⟩ pc (sL_c (snd_iconst hv hz d1) sL_n) lo [] h rfl hX (mExt.rf h) φ cA tys ls [] H locs cells slots (fun _ _ => rfl) hR ?_
  intro l3 s3 h3 e4 hX3 hx3 φ3 cA3 tys3 ls3 sv3 H3 locs3 cells3 slots3 hφ3 hR3
  exact sndT_ri (mtab := []) (pcs := []) (rF := 0) (rL := 0) (kd := 1) (ret := some .int) rfl rfl d2 p l e R s m args below meth c D fz X A φ0 h0 (some (vI z), h) C hret hlk (Nat.zero_le _) (Nat.zero_le _) l3 s3 h3 (fun _ _ _ _ => none) (fun _ _ _ => none) e4 hX3 hc1 hs1 (fun _ _ _ _ q => by cases q) (fun _ _ _ _ q => by cases q) (fun _ _ _ _ _ q => by cases q) (fun _ _ => rfl) φ3 cA3 tys3 ls3 sv3 H3 locs3 cells3 slots3 (fun b hb => (hφ3 b (by omega)).trans (hφ b hb)) hR3 (fun _ _ _ _ _ q => by cases q)
theorem law_day {l : Launch} (hl : l.stackTraces = false) (n : Nat) (hM : Mst mtab l n) (as : List mV) (h : mH) (r : Option mV × mH) (q : mI5) (e : mcl prog (mex prog (n + 1)) kL_day as h = some r) (hq : mtab[kL_day]? = some q) : metM l q.1 q.2.1 q.2.2.1 q.2.2.2.1 q.2.2.2.2 as h r := by
  have hq := hq.symm.trans mt_L_day
  cases hq
  obtain ⟨hlen, e⟩ := mcl_inv e
  have hlen : mlen (mlay as) ≤ 7 := hlen
  have e : mex prog (n + 1) kL_day 0 (mloc 7 as) [] h = some r := e
  have hloc : (mloc 7 as).length = 7 := by
    rw [mlen_eq] at hlen
    unfold mloc
    rw [List.length_append, mpad_len, mlen_eq]
    omega
  rw [mex_step prog n kL_day 0 _ _ _ b_L_day_0 rfl] at e
  have e : runL [s_al 5, s_c 0, s_al 0, s_il 1, s_il 2, s_il 3, s_il 4] (fun l2 s2 h2 => t_cv 10 kX_dayIn 4 1 1 (fun b' => mex prog n kL_day b') (fun f as => mcl prog (mex prog n) f as) l2 s2 h2) (mloc 7 as) [] h = some r := e
  obtain ⟨v5, d5⟩ := step_al e
  have e := (d5 _).symm.trans e
  rw [step_c] at e
  obtain ⟨v0, d0⟩ := step_al e
  have e := (d0 _).symm.trans e
  obtain ⟨z1, -, d1⟩ := step_il e
  have e := (d1 _).symm.trans e
  obtain ⟨z2, -, d2⟩ := step_il e
  have e := (d2 _).symm.trans e
  obtain ⟨z3, -, d3⟩ := step_il e
  have e := (d3 _).symm.trans e
  obtain ⟨z4, -, d4⟩ := step_il e
  have e := (d4 _).symm.trans e
  have hk : ∀ K, runL [s_al 5, s_c 0, s_al 0, s_il 1, s_il 2, s_il 3, s_il 4] K (mloc 7 as) [] h = K (mloc 7 as) [vI z4, vI z3, vI z2, vI z1, v0, vI 0, v5] h := fun K => (d5 K).trans (step_c.trans ((d0 K).trans ((d1 K).trans ((d2 K).trans ((d3 K).trans (d4 K))))))
  have e9 : cvk 8 10 kX_dayIn 1 1 (mloc 7 as) h [vI z1, vI z2, vI z3, vI z4] [v0, vI 0, v5] (fun b' => mex prog n kL_day b') (fun f as => mcl prog (mex prog n) f as) = some r := e
  obtain ⟨a, rr, hst, hw8, ek⟩ := cvk_inv e9
  have hrr : rr = [vI 0, v5] := by
    rcases hst with ⟨q, -⟩ | q
    · exact (List.cons.inj q).2.symm
    · exact (List.cons.inj q).2.symm
  subst hrr
  obtain ⟨y, h1, hcall, ek⟩ := mback1_inv ek
  have hx1 : mExt h h1 := mex_ext pok_prog _ _ _ _ _ _ _ (mcl_inv hcall).2
  have ht := law_tail hloc ek
  intro D fz φ cA tys av sz has
  refine Met_ofWH (cc := cL_day) (maxL := 7) (ret := some .int) (hh := [(0, 14, 17, 13)]) (by decide +kernel) rfl ?_
  intro p e0 s m args below meth c s₁ B hml hv
  obtain ⟨rfl, hsz, hP, hD, hK, hWT, hAT, hSt, hNe⟩ := hv
  subst hsz
  have hts := atoms_spec (ws := Cond.codeWith yL_day cL_day 7 (some .int) [(0, 14, 17, 13)] :: wa) B.pre
  have hts' : ∀ w ∈ wa, w.before av.toArray s = true := fun w hw => hts w (List.mem_cons_of_mem _ hw)
  have htab := vx_table (x := yL_day) B (hts _ List.mem_cons_self)
  have hown : s.vm.findClass yL_day.cls = some m.cls := findClass_of_methodNamed B.named
  rw [lg_entry_eq]
  have C : ctxX p ({ frames := 7, cells := r.2.cnt - h.cnt, slots := r.2.sl - h.sl, locals := 128 } : Room) s m av.toArray meth c RL cL_day 7 false fz h.X (va_A (wsX φ cA h) s.heap.size) := ⟨B.exec, B.bytes, hml, hown, hts', fun hi => (by cases hi), fun q hq => Or.inr hq, hSt, hNe⟩
  have hlo := rlo_entry (nL := 7) has hlen
  refine runL_snd (r := (none, h)) (c0 := h.cnt) (s0 := h.sl) (φ0 := φ) (hb0 := h) (pc' := 9) C (tok_at [vI z4, vI z3, vI z2, vI z1, v0, vI 0, v5] 0 (mget (mloc 7 as) 0)) (Xf := fun _ _ _ _ => none) (Cf := fun _ _ _ => none) (fun _ _ _ _ q => by cases q) (fun _ _ _ _ q => by cases q) (Nat.le_add_right _ _) (Nat.le_add_right _ _) [s_al 5, s_c 0, s_al 0, s_il 1, s_il 2, s_il 3, s_il 4] ⟨ok_s_al 5, ok_s_c 0, ok_s_al 0, ok_s_il 1, ok_s_il 2, ok_s_il 3, ok_s_il 4, trivial⟩ 0 (sL_c (snd_aload dL_day_0) (sL_c (snd_iconst rfl ii_0 dL_day_2) (sL_c (snd_aload_n dL_day_3) (sL_c (snd_iload_n dL_day_4) (sL_c (snd_iload_n dL_day_5) (sL_c (snd_iload_n dL_day_6) (sL_c (snd_iload dL_day_7) sL_n))))))) (mloc 7 as) [] h ((hk _).trans (gc_t ⟨rfl, rfl⟩)) rfl (mExt.rf h) φ cA tys _ [] s.heap [] 0 0 (fun _ _ => rfl) ⟨⟨hP, hD.self, hK, hWT, hAT⟩, rfl, hlo, va_S.rf, Nat.zero_add _, Nat.zero_add _⟩ ?_
  intro l' s' h' e' hX' hx' φ' cA' tys' ls' sv' H' locs' cells' slots' hφ' hR'
  obtain ⟨⟨rfl, -⟩, e7⟩ := gc_some e'
  cases e7
  have hS := hR'.2.2.2.1
  have c1 := hR'.2.2.2.2.1
  have c2 := hR'.2.2.2.2.2
  have x1 := hx1.1
  have x2 := hx1.2.1
  rcases ht with ⟨rfl, rfl⟩ | ⟨hy, b, rfl, hb, rfl⟩
  · obtain ⟨x4, t4, rfl, ⟨i4, rfl⟩, x3, t3, rfl, ⟨i3, rfl⟩, xx2, t2, rfl, ⟨i2, rfl⟩, xx1, t1, rfl, ⟨i1, rfl⟩, hrest⟩ := hR'.2.1
    obtain ⟨vv, rfl, ⟨a1, a2, a3⟩, hvv⟩ := obj_of hst hrest
    have hg := wsX_get φ' cA' a1 a2
    rw [cel_obj a3 (by omega)] at hg
    have hasD : rst fz φ' h [vO 10 a, vI z1, vI z2, vI z3, vI z4] [.ref (φ' a), .int (Int32.ofInt z1), .int (Int32.ofInt z2), .int (Int32.ofInt z3), .int (Int32.ofInt z4)] := ⟨_, _, rfl, ⟨⟨a1, a2, a3⟩, rfl⟩, _, _, rfl, ⟨i1, rfl⟩, _, _, rfl, ⟨i2, rfl⟩, _, _, rfl, ⟨i3, rfl⟩, _, _, rfl, ⟨i4, rfl⟩, rfl⟩
    have M := dayMth hl hM hcall D fz φ' cA' tys' _ H'.size hasD
    have n1 : (h1.new 12 6).cnt = h1.cnt + 1 := rfl
    have n2 : (h1.new 12 6).sl = h1.sl + 6 := rfl
    have hw8' := Nat.le_trans (wsum_cat _ _ hvv) hw8
    have hwA := wsA hR'.1.2.1 (fun q hq => Or.inr hq) hS
    have hx2 : mExt h (h1.new 12 6) := hx1.tr (mExt.nw _ _ _)
    have hfc : cells' + ((h1.new 12 6).cnt - h.cnt) ≤ (h1.new 12 6).cnt - h.cnt := by omega
    have hfs : slots' + ((h1.new 12 6).sl - h.sl) ≤ (h1.new 12 6).sl - h.sl := by omega
    have hr := vx_runV (meth := meth) (c := c) (R := ({ frames := 7, cells := (h1.new 12 6).cnt - h.cnt, slots := (h1.new 12 6).sl - h.sl, locals := 128 } : Room)) (e := e0) (below := below) (locs := locs') (cells := cells') (slots := slots') (g := F0 m 9 ls' (.int (Int32.ofInt z4) :: .int (Int32.ofInt z3) :: .int (Int32.ofInt z2) :: .int (Int32.ofInt z1) :: .ref (φ' a) :: vv)) (As := [.int (Int32.ofInt z1), .int (Int32.ofInt z2), .int (Int32.ofInt z3), .int (Int32.ofInt z4)]) (rest := vv) (index := 7) ⟨B.exec, B.bytes, hml, hown, hts'⟩ M (cwV 4 hts' (wa_good (wa_app (wa_4 w_l7 w_i11 w_s11 w_n11) w_c11)) rfl rfl rfl ⟨rfl, by decide, by decide, by decide +kernel⟩ ⟨by show 6 + 1 ≤ 7; omega, by show 8 + (6 + 11) + 103 ≤ 128; omega⟩) ⟨pre_blind, va_recv hR'.1.2.2.1 hR'.1.1 cl_10 hg, fun U hU hW => ⟨rfl, pre_of hR'.1 hS (fun q hq => Or.inr hq) hSt rfl hNe hU hW⟩⟩ rfl rfl hR'.2.2.1.1.1 (by simp [F0]) (lv_room hw8') dL_day_9 ⟨hfc, hfs⟩
    refine vx_calli hr hS (fun q _ z => hwA q z) (fun q z => hwA q z) (fun q _ z => hwA q z) ?_ (fun _ _ _ _ _ _ _ z => z.elim)
    intro E ce q9 u t H1 locs1 ht9 hal _ hEB hz hold hS1 hce hcv hcl
    obtain ⟨rfl, B1, B2, B3, B4, B5, B6⟩ := hEB
    rw [ht9] at B1
    refine vx_catch (own := RL) (name := nX12) (E := nX12) hown [] _ [] htab (fun z hz => by cases hz) rfl (by decide) (hts' _ w_1087) (va_Nw.use rfl hNe.2.2.2.2.1) hce hcv hcl ?_
    obtain ⟨ls2, e2, hL2⟩ := rlo_junk (hR'.2.2.1.up hx2 B6) (i := 6) (w := .ref q9) (by omega) rfl
    refine W_astore B.exec B.bytes dL_day_17 e2 ?_
    exact fin_i (mtab := []) (by unfold inI; omega : inI 1) rfl dL_day_19 dL_day_20 C B.returns B.notSynchronized hx2.2.2.1 (by show _ ≤ _ + ((h1.new 12 6).cnt - h.cnt); omega) (by show _ ≤ _ + ((h1.new 12 6).sl - h.sl); omega) (φ := u.1) (cA := u.2.1) (tys := u.2.2) hx2.1 (fun b hb => (B6 b hb).trans (hφ' b hb)) ⟨⟨B1, B2.weaken (fun _ _ _ z => hwA _ z), va_K.moved hal.symm B3, B4, B5⟩, rfl, hL2, hS1, by omega, by omega⟩
  · have hc1 : h1.cnt ≤ h.cnt + (h1.cnt - h.cnt) := by omega
    have hs1 : h1.sl ≤ h.sl + (h1.sl - h.sl) := by omega
    have hXe : ∀ (b9 : Nat) (l2 s2 : List mV) (h2 : mH), gc (b9 = 1 ∧ s2 = [vI y, vI 0, vR 101 b]) (some ((none : Option mV), h2)) = some (none, h1) → mExt h2 h1 := by
      intro b9 l2 s2 h2 e2
      obtain ⟨-, e3⟩ := gc_some e2
      cases e3
      exact mExt.rf _
    have hC1 : cf1 n [vO 10 a, vI z1, vI z2, vI z3, vI z4] 0 [vO 10 a, vI z1, vI z2, vI z3, vI z4] h = some (some (vI y), h1) := by
      show gc _ (bI (mcl prog (mex prog n) kX_dayIn [vO 10 a, vI z1, vI z2, vI z3, vI z4] h) _) = _
      rw [hcall]
      exact (gc_t rfl).trans (gd_t hy)
    have eC0 : cvk 8 10 0 1 1 l' h [vI z1, vI z2, vI z3, vI z4] [v0, vI 0, vR 101 b] (fun b9 _ s2 h2 => gc (b9 = 1 ∧ s2 = [vI y, vI 0, vR 101 b]) (some ((none : Option mV), h2))) (cf1 n [vO 10 a, vI z1, vI z2, vI z3, vI z4]) = some (none, h1) := by
      rcases hst with ⟨q, hne⟩ | q
      · cases (List.cons.inj q).1
        have q2 : cvk 8 10 0 1 1 l' h [vI z1, vI z2, vI z3, vI z4] [vR 10 a, vI 0, vR 101 b] (fun b9 _ s2 h2 => gc (b9 = 1 ∧ s2 = [vI y, vI 0, vR 101 b]) (some ((none : Option mV), h2))) (cf1 n [vO 10 a, vI z1, vI z2, vI z3, vI z4]) = gd (a ≠ 0) (mback 1 (cf1 n [vO 10 a, vI z1, vI z2, vI z3, vI z4] 0 [vO 10 a, vI z1, vI z2, vI z3, vI z4] h) [vI 0, vR 101 b] (fun s2 h2 => gc ((1 : Nat) = 1 ∧ s2 = [vI y, vI 0, vR 101 b]) (some ((none : Option mV), h2)))) := rfl
        rw [q2, gd_t hne, hC1]
        exact gc_t ⟨rfl, rfl⟩
      · cases (List.cons.inj q).1
        have q2 : cvk 8 10 0 1 1 l' h [vI z1, vI z2, vI z3, vI z4] [vO 10 a, vI 0, vR 101 b] (fun b9 _ s2 h2 => gc (b9 = 1 ∧ s2 = [vI y, vI 0, vR 101 b]) (some ((none : Option mV), h2))) (cf1 n [vO 10 a, vI z1, vI z2, vI z3, vI z4]) = mback 1 (cf1 n [vO 10 a, vI z1, vI z2, vI z3, vI z4] 0 [vO 10 a, vI z1, vI z2, vI z3, vI z4] h) [vI 0, vR 101 b] (fun s2 h2 => gc ((1 : Nat) = 1 ∧ s2 = [vI y, vI 0, vR 101 b]) (some ((none : Option mV), h2))) := rfl
        rw [q2, hC1]
        exact gc_t ⟨rfl, rfl⟩
    have eC : t_cv 10 0 4 1 1 (fun b9 _ s2 h2 => gc (b9 = 1 ∧ s2 = [vI y, vI 0, vR 101 b]) (some ((none : Option mV), h2))) (cf1 n [vO 10 a, vI z1, vI z2, vI z3, vI z4]) l' [vI z4, vI z3, vI z2, vI z1, v0, vI 0, vR 101 b] h = some (none, h1) := eC0
    refine sndQ_cv (mtab := mt1) (own := RL) (ini := false) (rF := 7) (rL := 128) (pcs := [0, 12]) (b := 1) (f := 0) cl_10 (by decide) rfl rfl w_c11 w_l7 w_i11 w_s11 w_n11 ⟨rfl, by decide, by decide, by decide +kernel⟩ (by decide) (by decide) dL_day_9 p l e0 _ s m av.toArray below meth c D fz h.X _ φ h (none, h1) _ C B.notSynchronized (Nat.le_refl _) (Nat.le_refl _) l' _ h _ _ eC rfl hc1 hs1 hXe ?_ ?_ (fun _ _ => rfl) φ' cA' tys' ls' sv' H' locs' cells' slots' hφ' hR' ?_
    · intro f as2 h2 r2 e2
      obtain ⟨-, -, y2, h3, e3, -, rfl⟩ := cf1_inv e2
      exact mex_ext pok_prog _ _ _ _ _ _ _ (mcl_inv e3).2
    · intro f as2 h2 r2 q2 e2 hq2
      obtain ⟨rfl, rfl, y2, h3, e3, hy2, rfl⟩ := cf1_inv e2
      cases hq2
      exact dayMok hM e3 hy2
    · intro b2 l2 s2 h2 pb2 e2 hx2 hpb2 φ2 cA2 tys2 ls2 sv2 H2 locs2 cells2 slots2 hφ2 hR2
      obtain ⟨⟨rfl, rfl⟩, e3⟩ := gc_some e2
      cases e3
      have hpb : pb2 = 12 := (Option.some.inj hpb2).symm
      subst hpb
      have e5 : runL [s_i2l, s_iast 101 1] (fun l3 s3 h3 => t_at [] 0 (mget l2 0) (fun _ _ _ _ => none) (fun _ _ _ => none) l3 s3 h3) l2 [vI y, vI 0, vR 101 b] h1 = some (none, h1.set b 0 y) := by
        show (if (101 : Nat) = 101 then gd ((0 : Int) ≤ 0 ∧ 0 < h1.N b ∧ b ≠ 0) (un_v 1 (vL y) _) else none) = _
        rw [if_pos rfl, gd_t hb]
        exact gc_t ⟨rfl, rfl⟩
      refine runL_snd (r := (none, h1.set b 0 y)) (c0 := h.cnt) (s0 := h.sl) (φ0 := φ2) (hb0 := h1) (pc' := 14) C (tok_at _ _ _) (fun _ _ _ _ q => by cases q) (fun _ _ _ _ q => by cases q) hc1 hs1 [s_i2l, s_iast 101 1] ⟨ok_s_i2l, ok_s_iast 101 1, trivial⟩ 12 (sL_c (snd_i2l dL_day_12) (sL_c (snd_lastore dL_day_13) sL_n)) _ _ _ e5 hx1.2.2.1 (mExt.rf h1) φ2 cA2 tys2 ls2 sv2 H2 locs2 cells2 slots2 (fun _ _ => rfl) hR2 ?_
      intro l3 s3 h3 e6 hX3 hx3 φ3 cA3 tys3 ls3 sv3 H3 locs3 cells3 slots3 hφ3 hR3
      obtain ⟨⟨rfl, -⟩, e7⟩ := gc_some e6
      cases e7
      have h3 : sv3 = [] := hR3.2.1
      subst h3
      refine lv_goto B.exec B.bytes dL_day_14 (by decide : (14 : Int) + 7 = ((21 : Nat) : Int)) ?_
      exact fin_i (mtab := []) (h := h1.set b 0 y) (by unfold inI; omega : inI 0) rfl dL_day_21 dL_day_22 C B.returns B.notSynchronized hx1.2.2.1 hc1 hs1 hx1.1 (fun b9 hb9 => (hφ3 b9 (by omega)).trans ((hφ2 b9 hb9).trans (hφ' b9 hb9))) hR3
