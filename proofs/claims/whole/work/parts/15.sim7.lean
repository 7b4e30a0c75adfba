/-! THE TIE, 8: ends of blocks; calls -/
abbrev mU : Type := (Int → Nat) × (Int → ClassId) × List (ClassId × FieldType)
def arrT (cA : Int → ClassId) (tys : List (ClassId × FieldType)) (h : mH) : Prop := ∀ a : Int, 1 ≤ a → a ≤ h.cnt → 100 ≤ h.T a → ∃ t0 : Nat, tys[t0]? = some (cA a, aty (h.T a))
def hok (D : va_G) (A : Nat → Prop) (φ0 : Int → Nat) (h0 h' : mH) (u : mU) (t : State) : Prop :=
  va_P D clX (wsX u.1 u.2.1 h') t.heap ∧ va_D A (wsX u.1 u.2.1 h') ∧ va_K D clX u.2.2 t ∧ WT h' ∧ arrT u.2.1 u.2.2 h' ∧ ∀ a : Int, a ≤ h0.cnt → u.1 a = φ0 a
/-- what a method's end says, by the kind of its answer -/
def qof (kd : Nat) (D : va_G) (A : Nat → Prop) (φ0 : Int → Nat) (h0 : mH) (r : Option mV × mH) : Array Value → State → Outcome → State → Prop := match kd with
  | 0 => va_Qv (S := mU) (fun _ => True) (hok D A φ0 h0 r.2) A
  | 1 => va_Qi (S := mU) (fun z _ => ∃ y, r.1 = some (vI y) ∧ inI y ∧ z = Int32.ofInt y) (hok D A φ0 h0 r.2) A
  | 2 => va_Ql (S := mU) (fun z _ => ∃ y, r.1 = some (vL y) ∧ inL y ∧ z = Int64.ofInt y) (hok D A φ0 h0 r.2) A
  | t + 3 => va_Qq (S := mU) (fun o u => ∃ a, r.1 = some (vR t a) ∧ okv r.2 (t + 2) a ∧ o = if a = 0 then none else some (u.1 a)) (hok D A φ0 h0 r.2) A
def pre (D : va_G) (fz : Nat → Nat) (φ : Int → Nat) (cA : Int → ClassId) (tys : List (ClassId × FieldType)) (h : mH) (sz : Nat) (U : State) : Prop :=
  U.heap.size = sz ∧ va_P D clX (wsX φ cA h) U.heap ∧ va_D (fun _ => True) (wsX φ cA h) ∧ va_K D clX tys U ∧ WT h ∧ arrT cA tys h ∧ stand fz h.X (va_A (wsX φ cA h) sz) U U.heap ∧ nest U
/-- a method's contract at one run of the small machine -/
def metM (l : Launch) (y : MethodName) (w0 : Cond) (rF rL kd : Nat) (as : List mV) (h : mH) (r : Option mV × mH) : Prop :=
  ∀ (D : va_G) (fz : Nat → Nat) (φ : Int → Nat) (cA : Int → ClassId) (tys : List (ClassId × FieldType)) (av : List Value) (sz : Nat), rst fz φ h as av →
    Met l y (w0 :: wa) ({ frames := rF, cells := r.2.cnt - h.cnt, slots := r.2.sl - h.sl, locals := rL } : Room) (va_Pc av (pre D fz φ cA tys h sz)) (qof kd D (va_A (wsX φ cA h) sz) φ h r) (r.2.cnt - h.cnt) (r.2.sl - h.sl) (va_A (wsX φ cA h) sz)
/-- name, code word, frames, locals, kind of the answer -/
abbrev mI5 : Type := MethodName × Cond × Nat × Nat × Nat
theorem stand.moved {fz : Nat → Nat} {X : Int → Int} {A : Nat → Prop} {u U : State} {H : Heap} (hvm : u.vm.Alike U.vm) (q : stand fz X A u H) : stand fz X A U H :=
  ⟨q.1.moved hvm, q.2.1.moved hvm, q.2.2.1.moved hvm, q.2.2.2.1.moved hvm, q.2.2.2.2.1.moved hvm, q.2.2.2.2.2.1, q.2.2.2.2.2.2.1, q.2.2.2.2.2.2.2.1, q.2.2.2.2.2.2.2.2.1.moved hvm, q.2.2.2.2.2.2.2.2.2.moved hvm⟩
theorem stand.kept {fz : Nat → Nat} {X : Int → Int} {A : Nat → Prop} {U : State} {H H1 : Heap} (q : stand fz X A U H) (hq : ∀ a : Nat, a < H.size → ¬ A a → H1[a]? = H[a]?) : stand fz X A U H1 :=
  ⟨q.1.kept hq, q.2.1.kept hq, q.2.2.1.kept hq, q.2.2.2.1.kept hq, q.2.2.2.2.1.kept hq, q.2.2.2.2.2.1, q.2.2.2.2.2.2.1, q.2.2.2.2.2.2.2.1, q.2.2.2.2.2.2.2.2.1.kept hq, q.2.2.2.2.2.2.2.2.2.kept hq⟩
theorem stand.narrow {fz : Nat → Nat} {X : Int → Int} {A B : Nat → Prop} {U : State} {H : Heap} (q : stand fz X A U H) (hq : ∀ a, B a → A a) : stand fz X B U H :=
  ⟨q.1.narrow hq, q.2.1.narrow hq, q.2.2.1.narrow hq, q.2.2.2.1.narrow hq, q.2.2.2.2.1.narrow hq, q.2.2.2.2.2.1, q.2.2.2.2.2.2.1, q.2.2.2.2.2.2.2.1, q.2.2.2.2.2.2.2.2.1.narrow hq, q.2.2.2.2.2.2.2.2.2.narrow hq⟩
theorem pre_blind {D : va_G} {fz : Nat → Nat} {φ : Int → Nat} {cA : Int → ClassId} {tys : List (ClassId × FieldType)} {h : mH} {sz : Nat} {av : List Value} : FrameBlind (va_Pc av (pre D fz φ cA tys h sz)) := by
  intro a U g mk q
  obtain ⟨q0, q1, q2, q3, q4, q5, q6, q7, q8⟩ := q
  exact ⟨q0, q1, q2, q3, va_K.moved (u := U) (U := U.calling g mk a) (Vm.Alike.refl U.vm) q4, q5, q6, stand.moved (u := U) (U := U.calling g mk a) (Vm.Alike.refl U.vm) q7, nest.same (s := U) (U := U.calling g mk a) rfl (Vm.Alike.refl U.vm) q8⟩
theorem wsA {A : Nat → Prop} {φ : Int → Nat} {cA : Int → ClassId} {h : mH} {H0 H : Heap} {locs : List Loc} (hD : va_D A (wsX φ cA h)) (hA : ∀ q, H0.size ≤ q → A q) (hS : va_S A H0 H locs) : ∀ q, va_A (wsX φ cA h) H.size q → A q := by
  intro q hq
  rcases hq with ⟨k, e, hk⟩ | hq
  · exact hD.2 k _ hk
  · exact hA q (Nat.le_trans hS.1 hq)
/-- what a callee needs of the world, from the caller's -/
theorem pre_of {D : va_G} {fz : Nat → Nat} {X : Int → Int} {A : Nat → Prop} {s U : State} {φ : Int → Nat} {cA : Int → ClassId} {tys : List (ClassId × FieldType)} {h : mH} {H : Heap} {locs : List Loc} (hH : HR D A s φ cA tys h H) (hS : va_S A s.heap H locs) (hA : ∀ q, s.heap.size ≤ q → A q) (hSt : stand fz X A s s.heap) (hX : h.X = X) (hNe : nest s) (hU : U.heap = H) (hW0 : s.WarmedH U.vm) : pre D fz φ cA tys h H.size U := by
  subst hX
  have hW := hW0.alike
  refine ⟨by rw [hU], by rw [hU]; exact hH.1, hH.2.1.weaken (fun _ _ _ _ => trivial), va_K.moved hW hH.2.2.1, hH.2.2.2.1, hH.2.2.2.2, ?_, hNe.moved hW0⟩
  rw [hU]
  exact ((hSt.moved hW).kept (fun a h1 h2 => hS.2.1 a h1 h2)).narrow (wsA hH.2.1 hA hS)
def sndT (mtab : List mI5) (own : String) (cc : ByteArray) (nL : Nat) (ini : Bool) (ret : Option FieldType) (kd : Nat) (pcs : List Nat) (rF rL : Nat) (pc : Nat) (t : mT) : Prop :=
  ∀ (p : Program) (l : Launch) (e : Env) (R : Room) (s : State) (m : MethodId) (args : Array Value) (below : List Frame) (meth : Method) (c : Code) (D : va_G) (fz : Nat → Nat) (X : Int → Int) (A : Nat → Prop) (φ0 : Int → Nat) (h0 : mH) (r : Option mV × mH),
  ctxX p R s m args meth c own cc nL ini fz X A → meth.sig.returnType = ret → meth.locks = false → rF ≤ R.frames → rL ≤ R.locals →
  ∀ (lo st : List mV) (h : mH) (Xf : Nat → List mV → List mV → mH → mR) (Cf : Nat → List mV → mH → mR), t Xf Cf lo st h = some r → h.X = X → r.2.cnt ≤ h0.cnt + R.cells → r.2.sl ≤ h0.sl + R.slots →
  (∀ b l' s' h', Xf b l' s' h' = some r → mExt h' r.2) →
  (∀ f as h1 r1, Cf f as h1 = some r1 → mExt h1 r1.2) →
  (∀ f as h1 r1 q, Cf f as h1 = some r1 → mtab[f]? = some q → metM l q.1 q.2.1 q.2.2.1 q.2.2.2.1 q.2.2.2.2 as h1 r1) → (∀ as h1, Cf 9999 as h1 = none) →
  ∀ (φ : Int → Nat) (cA : Int → ClassId) (tys : List (ClassId × FieldType)) (ls : Array Slot) (sv : List Value) (H : Heap) (locs : List Loc) (cells slots : Nat), (∀ a : Int, a ≤ h0.cnt → φ a = φ0 a) → RS D fz A s nL h0.cnt h0.sl lo st h φ cA tys ls sv H locs cells slots →
  (∀ b l' s' h' pb, Xf b l' s' h' = some r → mExt h h' → pcs[b]? = some pb → ∀ (φ' : Int → Nat) (cA' : Int → ClassId) (tys' : List (ClassId × FieldType)) (ls' : Array Slot) (sv' : List Value) (H' : Heap) (locs' : List Loc) (cells' slots' : Nat), (∀ a : Int, a ≤ h.cnt → φ' a = φ a) → RS D fz A s nL h0.cnt h0.sl l' s' h' φ' cA' tys' ls' sv' H' locs' cells' slots' → W p l e R s m args below meth c H' locs' cells' slots' (MQ below (qof kd D A φ0 h0 r) args s (r.2.cnt - h0.cnt) (r.2.sl - h0.sl) A) (F0 m pb ls' sv')) →
  W p l e R s m args below meth c H locs cells slots (MQ below (qof kd D A φ0 h0 r) args s (r.2.cnt - h0.cnt) (r.2.sl - h0.sl) A) (F0 m pc ls sv)
def sndQ (mtab : List mI5) (own : String) (cc : ByteArray) (nL : Nat) (ini : Bool) (pcs : List Nat) (rF rL : Nat) (pc : Nat) (t : mT) : Prop :=
  ∀ (p : Program) (l : Launch) (e : Env) (R : Room) (s : State) (m : MethodId) (args : Array Value) (below : List Frame) (meth : Method) (c : Code) (D : va_G) (fz : Nat → Nat) (X : Int → Int) (A : Nat → Prop) (φ0 : Int → Nat) (h0 : mH) (r : Option mV × mH) (Q : State → Prop),
  ctxX p R s m args meth c own cc nL ini fz X A → meth.locks = false → rF ≤ R.frames → rL ≤ R.locals →
  ∀ (lo st : List mV) (h : mH) (Xf : Nat → List mV → List mV → mH → mR) (Cf : Nat → List mV → mH → mR), t Xf Cf lo st h = some r → h.X = X → r.2.cnt ≤ h0.cnt + R.cells → r.2.sl ≤ h0.sl + R.slots →
  (∀ b l' s' h', Xf b l' s' h' = some r → mExt h' r.2) →
  (∀ f as h1 r1, Cf f as h1 = some r1 → mExt h1 r1.2) →
  (∀ f as h1 r1 q, Cf f as h1 = some r1 → mtab[f]? = some q → metM l q.1 q.2.1 q.2.2.1 q.2.2.2.1 q.2.2.2.2 as h1 r1) → (∀ as h1, Cf 9999 as h1 = none) →
  ∀ (φ : Int → Nat) (cA : Int → ClassId) (tys : List (ClassId × FieldType)) (ls : Array Slot) (sv : List Value) (H : Heap) (locs : List Loc) (cells slots : Nat), (∀ a : Int, a ≤ h0.cnt → φ a = φ0 a) → RS D fz A s nL h0.cnt h0.sl lo st h φ cA tys ls sv H locs cells slots →
  (∀ b l' s' h' pb, Xf b l' s' h' = some r → mExt h h' → pcs[b]? = some pb → ∀ (φ' : Int → Nat) (cA' : Int → ClassId) (tys' : List (ClassId × FieldType)) (ls' : Array Slot) (sv' : List Value) (H' : Heap) (locs' : List Loc) (cells' slots' : Nat), (∀ a : Int, a ≤ h.cnt → φ' a = φ a) → RS D fz A s nL h0.cnt h0.sl l' s' h' φ' cA' tys' ls' sv' H' locs' cells' slots' → W p l e R s m args below meth c H' locs' cells' slots' Q (F0 m pb ls' sv')) →
  W p l e R s m args below meth c H locs cells slots Q (F0 m pc ls sv)
theorem sndT_of {mtab : List mI5} {own : String} {cc : ByteArray} {nL : Nat} {ini : Bool} {ret : Option FieldType} {kd : Nat} {pcs : List Nat} {rF rL : Nat} {pc : Nat} {t : mT} (H : sndQ mtab own cc nL ini pcs rF rL pc t) : sndT mtab own cc nL ini ret kd pcs rF rL pc t :=
  fun p l e R s m args below meth c D fz X A φ0 h0 r C _ hlk hrF hrL => H p l e R s m args below meth c D fz X A φ0 h0 r _ C hlk hrF hrL
section ENDS
variable {mtab : List mI5} {own : String} {cc : ByteArray} {nL : Nat} {ini : Bool} {ret : Option FieldType} {kd : Nat} {pcs : List Nat} {rF rL : Nat} {pc : Nat}
theorem sndQ_ft {b : Nat} (h1 : pcs[b]? = some pc) : sndQ mtab own cc nL ini pcs rF rL pc (t_go b) := by
  intro p l e R s m args below meth c D fz X A φ0 h0 r Q C hlk hrF hrL lo st h Xf Cf ei hX hcc hcs hm hmC hC hC9 φ cA tys ls sv H locs cells slots hφ hR kk
  obtain ⟨hx, hb, hml, hown, hts, hini, hA, hSt, hNe⟩ := C
  exact kk b lo st h pc ei (mExt.rf h) h1 φ cA tys ls sv H locs cells slots (fun _ _ => rfl) hR
theorem sndQ_go {b tgt : Nat} {off : Int} (h1 : pcs[b]? = some tgt) (hd : decode cc pc = .ok (.goto off, 3)) (ht : (pc : Int) + off = (tgt : Int)) : sndQ mtab own cc nL ini pcs rF rL pc (t_go b) := by
  intro p l e R s m args below meth c D fz X A φ0 h0 r Q C hlk hrF hrL lo st h Xf Cf ei hX hcc hcs hm hmC hC hC9 φ cA tys ls sv H locs cells slots hφ hR kk
  obtain ⟨hx, hb, hml, hown, hts, hini, hA, hSt, hNe⟩ := C
  exact lv_goto hx hb hd ht (kk b lo st h tgt ei (mExt.rf h) h1 φ cA tys ls sv H locs cells slots (fun _ _ => rfl) hR)
theorem sndQ_ieq {b1 b2 tgt : Nat} {off : Int} (h1 : pcs[b1]? = some tgt) (h2 : pcs[b2]? = some (pc + 3)) (hd : decode cc pc = .ok (.if_icmp .eq off, 3)) (ht : (pc : Int) + off = (tgt : Int)) : sndQ mtab own cc nL ini pcs rF rL pc (t_ieq b1 b2) := by
  intro p l e R s m args below meth c D fz X A φ0 h0 r Q C hlk hrF hrL lo st h Xf Cf ei hX hcc hcs hm hmC hC hC9 φ cA tys ls sv H locs cells slots hφ hR kk
  obtain ⟨hx, hb, hml, hown, hts, hini, hA, hSt, hNe⟩ := C
  unfold t_ieq at ei
  match st with
  | .inl y :: .inl x :: rr =>
    obtain ⟨w1, v1, rfl, ⟨i1, rfl⟩, w2, v2, rfl, ⟨i2, rfl⟩, h3⟩ := hR.2.1
    dsimp only at ei
    refine lv_icmp_eq hx hb hd ht (fun q => ?_) (fun q => ?_)
    · rw [if_pos ((ofI_inj i2 i1).mp q)] at ei
      exact (kk _ _ _ _ _ ei (mExt.rf h) h1 φ cA tys ls _ H locs cells slots (fun _ _ => rfl) (hR.stk h3))
    · rw [if_neg (fun z => q ((ofI_inj i2 i1).mpr z))] at ei
      exact (kk _ _ _ _ _ ei (mExt.rf h) h2 φ cA tys ls _ H locs cells slots (fun _ _ => rfl) (hR.stk h3))
  | [] => cases ei
  | [.inl _] => cases ei
  | .inr _ :: _ => cases ei
  | .inl _ :: .inr _ :: _ => cases ei
theorem sndQ_ine {b1 b2 tgt : Nat} {off : Int} (h1 : pcs[b1]? = some tgt) (h2 : pcs[b2]? = some (pc + 3)) (hd : decode cc pc = .ok (.if_icmp .ne off, 3)) (ht : (pc : Int) + off = (tgt : Int)) : sndQ mtab own cc nL ini pcs rF rL pc (t_ine b1 b2) := by
  intro p l e R s m args below meth c D fz X A φ0 h0 r Q C hlk hrF hrL lo st h Xf Cf ei hX hcc hcs hm hmC hC hC9 φ cA tys ls sv H locs cells slots hφ hR kk
  obtain ⟨hx, hb, hml, hown, hts, hini, hA, hSt, hNe⟩ := C
  unfold t_ine at ei
  match st with
  | .inl y :: .inl x :: rr =>
    obtain ⟨w1, v1, rfl, ⟨i1, rfl⟩, w2, v2, rfl, ⟨i2, rfl⟩, h3⟩ := hR.2.1
    dsimp only at ei
    refine lv_icmp_ne hx hb hd ht (fun q => ?_) (fun q => ?_)
    · rw [if_neg (fun z => q ((ofI_inj i2 i1).mpr z))] at ei
      exact (kk _ _ _ _ _ ei (mExt.rf h) h1 φ cA tys ls _ H locs cells slots (fun _ _ => rfl) (hR.stk h3))
    · rw [if_pos ((ofI_inj i2 i1).mp q)] at ei
      exact (kk _ _ _ _ _ ei (mExt.rf h) h2 φ cA tys ls _ H locs cells slots (fun _ _ => rfl) (hR.stk h3))
  | [] => cases ei
  | [.inl _] => cases ei
  | .inr _ :: _ => cases ei
  | .inl _ :: .inr _ :: _ => cases ei
theorem sndQ_ilt {b1 b2 tgt : Nat} {off : Int} (h1 : pcs[b1]? = some tgt) (h2 : pcs[b2]? = some (pc + 3)) (hd : decode cc pc = .ok (.if_icmp .lt off, 3)) (ht : (pc : Int) + off = (tgt : Int)) : sndQ mtab own cc nL ini pcs rF rL pc (t_ilt b1 b2) := by
  intro p l e R s m args below meth c D fz X A φ0 h0 r Q C hlk hrF hrL lo st h Xf Cf ei hX hcc hcs hm hmC hC hC9 φ cA tys ls sv H locs cells slots hφ hR kk
  obtain ⟨hx, hb, hml, hown, hts, hini, hA, hSt, hNe⟩ := C
  unfold t_ilt at ei
  match st with
  | .inl y :: .inl x :: rr =>
    obtain ⟨w1, v1, rfl, ⟨i1, rfl⟩, w2, v2, rfl, ⟨i2, rfl⟩, h3⟩ := hR.2.1
    dsimp only at ei
    refine lv_icmp_lt hx hb hd ht (fun q => ?_) (fun q => ?_)
    · rw [if_pos ((ofI_lt i2 i1).mp q)] at ei
      exact (kk _ _ _ _ _ ei (mExt.rf h) h1 φ cA tys ls _ H locs cells slots (fun _ _ => rfl) (hR.stk h3))
    · rw [if_neg (fun z => q ((ofI_lt i2 i1).mpr z))] at ei
      exact (kk _ _ _ _ _ ei (mExt.rf h) h2 φ cA tys ls _ H locs cells slots (fun _ _ => rfl) (hR.stk h3))
  | [] => cases ei
  | [.inl _] => cases ei
  | .inr _ :: _ => cases ei
  | .inl _ :: .inr _ :: _ => cases ei
theorem sndQ_ige {b1 b2 tgt : Nat} {off : Int} (h1 : pcs[b1]? = some tgt) (h2 : pcs[b2]? = some (pc + 3)) (hd : decode cc pc = .ok (.if_icmp .ge off, 3)) (ht : (pc : Int) + off = (tgt : Int)) : sndQ mtab own cc nL ini pcs rF rL pc (t_ige b1 b2) := by
  intro p l e R s m args below meth c D fz X A φ0 h0 r Q C hlk hrF hrL lo st h Xf Cf ei hX hcc hcs hm hmC hC hC9 φ cA tys ls sv H locs cells slots hφ hR kk
  obtain ⟨hx, hb, hml, hown, hts, hini, hA, hSt, hNe⟩ := C
  unfold t_ige at ei
  match st with
  | .inl y :: .inl x :: rr =>
    obtain ⟨w1, v1, rfl, ⟨i1, rfl⟩, w2, v2, rfl, ⟨i2, rfl⟩, h3⟩ := hR.2.1
    dsimp only at ei
    refine lv_icmp_ge hx hb hd ht (fun q => ?_) (fun q => ?_)
    · rw [if_neg (by have := (ofI_le i1 i2).mp q; omega)] at ei
      exact (kk _ _ _ _ _ ei (mExt.rf h) h1 φ cA tys ls _ H locs cells slots (fun _ _ => rfl) (hR.stk h3))
    · rw [if_pos (by by_cases z : x < y; exact z; exact absurd ((ofI_le i1 i2).mpr (by omega)) q)] at ei
      exact (kk _ _ _ _ _ ei (mExt.rf h) h2 φ cA tys ls _ H locs cells slots (fun _ _ => rfl) (hR.stk h3))
  | [] => cases ei
  | [.inl _] => cases ei
  | .inr _ :: _ => cases ei
  | .inl _ :: .inr _ :: _ => cases ei
theorem sndQ_igt {b1 b2 tgt : Nat} {off : Int} (h1 : pcs[b1]? = some tgt) (h2 : pcs[b2]? = some (pc + 3)) (hd : decode cc pc = .ok (.if_icmp .gt off, 3)) (ht : (pc : Int) + off = (tgt : Int)) : sndQ mtab own cc nL ini pcs rF rL pc (t_igt b1 b2) := by
  intro p l e R s m args below meth c D fz X A φ0 h0 r Q C hlk hrF hrL lo st h Xf Cf ei hX hcc hcs hm hmC hC hC9 φ cA tys ls sv H locs cells slots hφ hR kk
  obtain ⟨hx, hb, hml, hown, hts, hini, hA, hSt, hNe⟩ := C
  unfold t_igt at ei
  match st with
  | .inl y :: .inl x :: rr =>
    obtain ⟨w1, v1, rfl, ⟨i1, rfl⟩, w2, v2, rfl, ⟨i2, rfl⟩, h3⟩ := hR.2.1
    dsimp only at ei
    refine lv_icmp_gt hx hb hd ht (fun q => ?_) (fun q => ?_)
    · rw [if_neg (by have := (ofI_lt i1 i2).mp q; omega)] at ei
      exact (kk _ _ _ _ _ ei (mExt.rf h) h1 φ cA tys ls _ H locs cells slots (fun _ _ => rfl) (hR.stk h3))
    · rw [if_pos (by by_cases z : x ≤ y; exact z; exact absurd ((ofI_lt i1 i2).mpr (by omega)) q)] at ei
      exact (kk _ _ _ _ _ ei (mExt.rf h) h2 φ cA tys ls _ H locs cells slots (fun _ _ => rfl) (hR.stk h3))
  | [] => cases ei
  | [.inl _] => cases ei
  | .inr _ :: _ => cases ei
  | .inl _ :: .inr _ :: _ => cases ei
theorem sndQ_ile {b1 b2 tgt : Nat} {off : Int} (h1 : pcs[b1]? = some tgt) (h2 : pcs[b2]? = some (pc + 3)) (hd : decode cc pc = .ok (.if_icmp .le off, 3)) (ht : (pc : Int) + off = (tgt : Int)) : sndQ mtab own cc nL ini pcs rF rL pc (t_ile b1 b2) := by
  intro p l e R s m args below meth c D fz X A φ0 h0 r Q C hlk hrF hrL lo st h Xf Cf ei hX hcc hcs hm hmC hC hC9 φ cA tys ls sv H locs cells slots hφ hR kk
  obtain ⟨hx, hb, hml, hown, hts, hini, hA, hSt, hNe⟩ := C
  unfold t_ile at ei
  match st with
  | .inl y :: .inl x :: rr =>
    obtain ⟨w1, v1, rfl, ⟨i1, rfl⟩, w2, v2, rfl, ⟨i2, rfl⟩, h3⟩ := hR.2.1
    dsimp only at ei
    refine lv_icmp_le hx hb hd ht (fun q => ?_) (fun q => ?_)
    · rw [if_pos ((ofI_le i2 i1).mp q)] at ei
      exact (kk _ _ _ _ _ ei (mExt.rf h) h1 φ cA tys ls _ H locs cells slots (fun _ _ => rfl) (hR.stk h3))
    · rw [if_neg (fun z => q ((ofI_le i2 i1).mpr z))] at ei
      exact (kk _ _ _ _ _ ei (mExt.rf h) h2 φ cA tys ls _ H locs cells slots (fun _ _ => rfl) (hR.stk h3))
  | [] => cases ei
  | [.inl _] => cases ei
  | .inr _ :: _ => cases ei
  | .inl _ :: .inr _ :: _ => cases ei
theorem sndQ_zeq {b1 b2 tgt : Nat} {off : Int} (h1 : pcs[b1]? = some tgt) (h2 : pcs[b2]? = some (pc + 3)) (hd : decode cc pc = .ok (.ifCond .eq off, 3)) (ht : (pc : Int) + off = (tgt : Int)) : sndQ mtab own cc nL ini pcs rF rL pc (t_zeq b1 b2) := by
  intro p l e R s m args below meth c D fz X A φ0 h0 r Q C hlk hrF hrL lo st h Xf Cf ei hX hcc hcs hm hmC hC hC9 φ cA tys ls sv H locs cells slots hφ hR kk
  obtain ⟨hx, hb, hml, hown, hts, hini, hA, hSt, hNe⟩ := C
  unfold t_zeq at ei
  match st with
  | .inl x :: rr =>
    obtain ⟨w2, v2, rfl, ⟨i2, rfl⟩, h3⟩ := hR.2.1
    dsimp only at ei
    refine lv_if_eq hx hb hd ht (fun q => ?_) (fun q => ?_)
    · rw [if_pos ((ofI_inj i2 inI_0).mp q)] at ei
      exact (kk _ _ _ _ _ ei (mExt.rf h) h1 φ cA tys ls _ H locs cells slots (fun _ _ => rfl) (hR.stk h3))
    · rw [if_neg (fun z => q ((ofI_inj i2 inI_0).mpr z))] at ei
      exact (kk _ _ _ _ _ ei (mExt.rf h) h2 φ cA tys ls _ H locs cells slots (fun _ _ => rfl) (hR.stk h3))
  | [] => cases ei
  | .inr _ :: _ => cases ei
theorem sndQ_zne {b1 b2 tgt : Nat} {off : Int} (h1 : pcs[b1]? = some tgt) (h2 : pcs[b2]? = some (pc + 3)) (hd : decode cc pc = .ok (.ifCond .ne off, 3)) (ht : (pc : Int) + off = (tgt : Int)) : sndQ mtab own cc nL ini pcs rF rL pc (t_zne b1 b2) := by
  intro p l e R s m args below meth c D fz X A φ0 h0 r Q C hlk hrF hrL lo st h Xf Cf ei hX hcc hcs hm hmC hC hC9 φ cA tys ls sv H locs cells slots hφ hR kk
  obtain ⟨hx, hb, hml, hown, hts, hini, hA, hSt, hNe⟩ := C
  unfold t_zne at ei
  match st with
  | .inl x :: rr =>
    obtain ⟨w2, v2, rfl, ⟨i2, rfl⟩, h3⟩ := hR.2.1
    dsimp only at ei
    refine lv_if_ne hx hb hd ht (fun q => ?_) (fun q => ?_)
    · rw [if_neg (fun z => q ((ofI_inj i2 inI_0).mpr z))] at ei
      exact (kk _ _ _ _ _ ei (mExt.rf h) h1 φ cA tys ls _ H locs cells slots (fun _ _ => rfl) (hR.stk h3))
    · rw [if_pos ((ofI_inj i2 inI_0).mp q)] at ei
      exact (kk _ _ _ _ _ ei (mExt.rf h) h2 φ cA tys ls _ H locs cells slots (fun _ _ => rfl) (hR.stk h3))
  | [] => cases ei
  | .inr _ :: _ => cases ei
theorem sndQ_zlt {b1 b2 tgt : Nat} {off : Int} (h1 : pcs[b1]? = some tgt) (h2 : pcs[b2]? = some (pc + 3)) (hd : decode cc pc = .ok (.ifCond .lt off, 3)) (ht : (pc : Int) + off = (tgt : Int)) : sndQ mtab own cc nL ini pcs rF rL pc (t_zlt b1 b2) := by
  intro p l e R s m args below meth c D fz X A φ0 h0 r Q C hlk hrF hrL lo st h Xf Cf ei hX hcc hcs hm hmC hC hC9 φ cA tys ls sv H locs cells slots hφ hR kk
  obtain ⟨hx, hb, hml, hown, hts, hini, hA, hSt, hNe⟩ := C
  unfold t_zlt at ei
  match st with
  | .inl x :: rr =>
    obtain ⟨w2, v2, rfl, ⟨i2, rfl⟩, h3⟩ := hR.2.1
    dsimp only at ei
    refine lv_if_lt hx hb hd ht (fun q => ?_) (fun q => ?_)
    · rw [if_pos ((ofI_lt i2 inI_0).mp q)] at ei
      exact (kk _ _ _ _ _ ei (mExt.rf h) h1 φ cA tys ls _ H locs cells slots (fun _ _ => rfl) (hR.stk h3))
    · rw [if_neg (fun z => q ((ofI_lt i2 inI_0).mpr z))] at ei
      exact (kk _ _ _ _ _ ei (mExt.rf h) h2 φ cA tys ls _ H locs cells slots (fun _ _ => rfl) (hR.stk h3))
  | [] => cases ei
  | .inr _ :: _ => cases ei
theorem sndQ_zge {b1 b2 tgt : Nat} {off : Int} (h1 : pcs[b1]? = some tgt) (h2 : pcs[b2]? = some (pc + 3)) (hd : decode cc pc = .ok (.ifCond .ge off, 3)) (ht : (pc : Int) + off = (tgt : Int)) : sndQ mtab own cc nL ini pcs rF rL pc (t_zge b1 b2) := by
  intro p l e R s m args below meth c D fz X A φ0 h0 r Q C hlk hrF hrL lo st h Xf Cf ei hX hcc hcs hm hmC hC hC9 φ cA tys ls sv H locs cells slots hφ hR kk
  obtain ⟨hx, hb, hml, hown, hts, hini, hA, hSt, hNe⟩ := C
  unfold t_zge at ei
  match st with
  | .inl x :: rr =>
    obtain ⟨w2, v2, rfl, ⟨i2, rfl⟩, h3⟩ := hR.2.1
    dsimp only at ei
    refine lv_if_ge hx hb hd ht (fun q => ?_) (fun q => ?_)
    · rw [if_neg (by have := (ofI_le inI_0 i2).mp q; omega)] at ei
      exact (kk _ _ _ _ _ ei (mExt.rf h) h1 φ cA tys ls _ H locs cells slots (fun _ _ => rfl) (hR.stk h3))
    · rw [if_pos (by by_cases z : x < 0; exact z; exact absurd ((ofI_le inI_0 i2).mpr (by omega)) q)] at ei
      exact (kk _ _ _ _ _ ei (mExt.rf h) h2 φ cA tys ls _ H locs cells slots (fun _ _ => rfl) (hR.stk h3))
  | [] => cases ei
  | .inr _ :: _ => cases ei
theorem sndQ_zgt {b1 b2 tgt : Nat} {off : Int} (h1 : pcs[b1]? = some tgt) (h2 : pcs[b2]? = some (pc + 3)) (hd : decode cc pc = .ok (.ifCond .gt off, 3)) (ht : (pc : Int) + off = (tgt : Int)) : sndQ mtab own cc nL ini pcs rF rL pc (t_zgt b1 b2) := by
  intro p l e R s m args below meth c D fz X A φ0 h0 r Q C hlk hrF hrL lo st h Xf Cf ei hX hcc hcs hm hmC hC hC9 φ cA tys ls sv H locs cells slots hφ hR kk
  obtain ⟨hx, hb, hml, hown, hts, hini, hA, hSt, hNe⟩ := C
  unfold t_zgt at ei
  match st with
  | .inl x :: rr =>
    obtain ⟨w2, v2, rfl, ⟨i2, rfl⟩, h3⟩ := hR.2.1
    dsimp only at ei
    refine lv_if_gt hx hb hd ht (fun q => ?_) (fun q => ?_)
    · rw [if_neg (by have := (ofI_lt inI_0 i2).mp q; omega)] at ei
      exact (kk _ _ _ _ _ ei (mExt.rf h) h1 φ cA tys ls _ H locs cells slots (fun _ _ => rfl) (hR.stk h3))
    · rw [if_pos (by by_cases z : x ≤ 0; exact z; exact absurd ((ofI_lt inI_0 i2).mpr (by omega)) q)] at ei
      exact (kk _ _ _ _ _ ei (mExt.rf h) h2 φ cA tys ls _ H locs cells slots (fun _ _ => rfl) (hR.stk h3))
  | [] => cases ei
  | .inr _ :: _ => cases ei
theorem sndQ_zle {b1 b2 tgt : Nat} {off : Int} (h1 : pcs[b1]? = some tgt) (h2 : pcs[b2]? = some (pc + 3)) (hd : decode cc pc = .ok (.ifCond .le off, 3)) (ht : (pc : Int) + off = (tgt : Int)) : sndQ mtab own cc nL ini pcs rF rL pc (t_zle b1 b2) := by
  intro p l e R s m args below meth c D fz X A φ0 h0 r Q C hlk hrF hrL lo st h Xf Cf ei hX hcc hcs hm hmC hC hC9 φ cA tys ls sv H locs cells slots hφ hR kk
  obtain ⟨hx, hb, hml, hown, hts, hini, hA, hSt, hNe⟩ := C
  unfold t_zle at ei
  match st with
  | .inl x :: rr =>
    obtain ⟨w2, v2, rfl, ⟨i2, rfl⟩, h3⟩ := hR.2.1
    dsimp only at ei
    refine lv_if_le hx hb hd ht (fun q => ?_) (fun q => ?_)
    · rw [if_pos ((ofI_le i2 inI_0).mp q)] at ei
      exact (kk _ _ _ _ _ ei (mExt.rf h) h1 φ cA tys ls _ H locs cells slots (fun _ _ => rfl) (hR.stk h3))
    · rw [if_neg (fun z => q ((ofI_le i2 inI_0).mpr z))] at ei
      exact (kk _ _ _ _ _ ei (mExt.rf h) h2 φ cA tys ls _ H locs cells slots (fun _ _ => rfl) (hR.stk h3))
  | [] => cases ei
  | .inr _ :: _ => cases ei
theorem sndQ_nul {b1 b2 tgt : Nat} {off : Int} (h1 : pcs[b1]? = some tgt) (h2 : pcs[b2]? = some (pc + 3)) (hd : decode cc pc = .ok (.ifnull off, 3)) (ht : (pc : Int) + off = (tgt : Int)) : sndQ mtab own cc nL ini pcs rF rL pc (t_nul b1 b2) := by
  intro p l e R s m args below meth c D fz X A φ0 h0 r Q C hlk hrF hrL lo st h Xf Cf ei hX hcc hcs hm hmC hC hC9 φ cA tys ls sv H locs cells slots hφ hR kk
  obtain ⟨hx, hb, hml, hown, hts, hini, hA, hSt, hNe⟩ := C
  unfold t_nul at ei
  match st with
  | .inr (.inr (.inl (t, a))) :: rr =>
    obtain ⟨w2, v2, rfl, ⟨i2, rfl⟩, h3⟩ := hR.2.1
    dsimp only at ei
    by_cases ha : a = 0
    · rw [if_pos ha] at ei
      subst ha
      exact lv_ifnullN hx hb hd ht (kk _ _ _ _ _ ei (mExt.rf h) h1 φ cA tys ls _ H locs cells slots (fun _ _ => rfl) (hR.stk h3))
    · rw [if_neg ha] at ei
      have e1 : rvk φ (t + 2) a = .ref (φ a) := if_neg ha
      show W p l e R s m args below meth c H locs cells slots _ (F0 m pc ls (rvk φ (t + 2) a :: v2))
      rw [e1]
      exact lv_ifnull hx hb hd (kk _ _ _ _ _ ei (mExt.rf h) h2 φ cA tys ls _ H locs cells slots (fun _ _ => rfl) (hR.stk h3))
  | [] => cases ei
  | .inl _ :: _ => cases ei
  | .inr (.inl _) :: _ => cases ei
  | .inr (.inr (.inr _)) :: _ => cases ei
theorem sndQ_nnul {b1 b2 tgt : Nat} {off : Int} (h1 : pcs[b1]? = some tgt) (h2 : pcs[b2]? = some (pc + 3)) (hd : decode cc pc = .ok (.ifnonnull off, 3)) (ht : (pc : Int) + off = (tgt : Int)) : sndQ mtab own cc nL ini pcs rF rL pc (t_nnul b1 b2) := by
  intro p l e R s m args below meth c D fz X A φ0 h0 r Q C hlk hrF hrL lo st h Xf Cf ei hX hcc hcs hm hmC hC hC9 φ cA tys ls sv H locs cells slots hφ hR kk
  obtain ⟨hx, hb, hml, hown, hts, hini, hA, hSt, hNe⟩ := C
  unfold t_nnul at ei
  match st with
  | .inr (.inr (.inl (t, a))) :: rr =>
    obtain ⟨w2, v2, rfl, ⟨i2, rfl⟩, h3⟩ := hR.2.1
    dsimp only at ei
    by_cases ha : a = 0
    · rw [if_pos ha] at ei
      subst ha
      exact lv_ifnonnullN hx hb hd (kk _ _ _ _ _ ei (mExt.rf h) h2 φ cA tys ls _ H locs cells slots (fun _ _ => rfl) (hR.stk h3))
    · rw [if_neg ha] at ei
      have e1 : rvk φ (t + 2) a = .ref (φ a) := if_neg ha
      show W p l e R s m args below meth c H locs cells slots _ (F0 m pc ls (rvk φ (t + 2) a :: v2))
      rw [e1]
      exact lv_ifnonnull hx hb hd ht (kk _ _ _ _ _ ei (mExt.rf h) h1 φ cA tys ls _ H locs cells slots (fun _ _ => rfl) (hR.stk h3))
  | [] => cases ei
  | .inl _ :: _ => cases ei
  | .inr (.inl _) :: _ => cases ei
  | .inr (.inr (.inr _)) :: _ => cases ei
theorem sndT_rv (hk : kd = 0) (hr : ret = none) (hd : decode cc pc = .ok (.return_, 1)) : sndT mtab own cc nL ini ret kd pcs rF rL pc t_rv := by
  intro p l e R s m args below meth c D fz X A φ0 h0 r C hret hlk hrF hrL lo st h Xf Cf ei hX hcc hcs hm hmC hC hC9 φ cA tys ls sv H locs cells slots hφ hR kk
  obtain ⟨hx, hb, hml, hown, hts, hini, hA, hSt, hNe⟩ := C
  unfold t_rv at ei
  match st with
  | [] =>
    cases ei
    have h3 : sv = [] := hR.2.1
    subst h3
    subst hk
    have e1 : h.cnt - h0.cnt = cells := by have := hR.2.2.2.2.1; omega
    have e2 : h.sl - h0.sl = slots := by have := hR.2.2.2.2.2; omega
    show W p l e R s m args below meth c H locs cells slots (MQ below _ args s (h.cnt - h0.cnt) (h.sl - h0.sl) A) _
    rw [e1, e2]
    exact W.vret hx hb (hret.trans hr) (fun t ht hW => ⟨⟨(φ, cA, tys), rfl, trivial, ⟨by rw [ht]; exact hR.1.1, hR.1.2.1, va_K.moved hW.alike hR.1.2.2.1, hR.1.2.2.2.1, hR.1.2.2.2.2, hφ⟩⟩, hR.2.2.2.1.F ht⟩) hR.2.2.2.1.2.2 hd hlk
  | _ :: _ => cases ei
theorem sndT_ri (hk : kd = 1) (hr : ret = some .int) (hd : decode cc pc = .ok (.ireturn, 1)) : sndT mtab own cc nL ini ret kd pcs rF rL pc t_ri := by
  intro p l e R s m args below meth c D fz X A φ0 h0 r C hret hlk hrF hrL lo st h Xf Cf ei hX hcc hcs hm hmC hC hC9 φ cA tys ls sv H locs cells slots hφ hR kk
  obtain ⟨hx, hb, hml, hown, hts, hini, hA, hSt, hNe⟩ := C
  unfold t_ri at ei
  match st with
  | [.inl x] =>
    cases ei
    obtain ⟨w1, v1, rfl, ⟨i1, rfl⟩, h3⟩ := hR.2.1
    have h3 : v1 = [] := h3
    subst h3
    subst hk
    have e1 : h.cnt - h0.cnt = cells := by have := hR.2.2.2.2.1; omega
    have e2 : h.sl - h0.sl = slots := by have := hR.2.2.2.2.2; omega
    show W p l e R s m args below meth c H locs cells slots (MQ below _ args s (h.cnt - h0.cnt) (h.sl - h0.sl) A) _
    rw [e1, e2]
    exact W.iret hx hb (hret.trans hr) (fun t ht hW => ⟨⟨Int32.ofInt x, (φ, cA, tys), rfl, ⟨x, rfl, i1, rfl⟩, ⟨by rw [ht]; exact hR.1.1, hR.1.2.1, va_K.moved hW.alike hR.1.2.2.1, hR.1.2.2.2.1, hR.1.2.2.2.2, hφ⟩⟩, hR.2.2.2.1.F ht⟩) hR.2.2.2.1.2.2 hd hlk
  | [] => cases ei
  | .inr _ :: _ => cases ei
  | .inl _ :: _ :: _ => cases ei
theorem sndT_rl (hk : kd = 2) (hr : ret = some .long) (hd : decode cc pc = .ok (.lreturn, 1)) : sndT mtab own cc nL ini ret kd pcs rF rL pc t_rl := by
  intro p l e R s m args below meth c D fz X A φ0 h0 r C hret hlk hrF hrL lo st h Xf Cf ei hX hcc hcs hm hmC hC hC9 φ cA tys ls sv H locs cells slots hφ hR kk
  obtain ⟨hx, hb, hml, hown, hts, hini, hA, hSt, hNe⟩ := C
  unfold t_rl at ei
  match st with
  | [.inr (.inl x)] =>
    cases ei
    obtain ⟨w1, v1, rfl, ⟨i1, rfl⟩, h3⟩ := hR.2.1
    have h3 : v1 = [] := h3
    subst h3
    subst hk
    have e1 : h.cnt - h0.cnt = cells := by have := hR.2.2.2.2.1; omega
    have e2 : h.sl - h0.sl = slots := by have := hR.2.2.2.2.2; omega
    show W p l e R s m args below meth c H locs cells slots (MQ below _ args s (h.cnt - h0.cnt) (h.sl - h0.sl) A) _
    rw [e1, e2]
    exact W.lret hx hb (hret.trans hr) (fun t ht hW => ⟨⟨Int64.ofInt x, (φ, cA, tys), rfl, ⟨x, rfl, i1, rfl⟩, ⟨by rw [ht]; exact hR.1.1, hR.1.2.1, va_K.moved hW.alike hR.1.2.2.1, hR.1.2.2.2.1, hR.1.2.2.2.2, hφ⟩⟩, hR.2.2.2.1.F ht⟩) hR.2.2.2.1.2.2 hd hlk
  | [] => cases ei
  | .inl _ :: _ => cases ei
  | .inr (.inr _) :: _ => cases ei
  | .inr (.inl _) :: _ :: _ => cases ei
theorem sndT_rz (hk : kd = 1) (hr : ret = some .boolean) (hd : decode cc pc = .ok (.ireturn, 1)) : sndT mtab own cc nL ini ret kd pcs rF rL pc t_rz := by
  intro p l e R s m args below meth c D fz X A φ0 h0 r C hret hlk hrF hrL lo st h Xf Cf ei hX hcc hcs hm hmC hC hC9 φ cA tys ls sv H locs cells slots hφ hR kk
  obtain ⟨hx, hb, hml, hown, hts, hini, hA, hSt, hNe⟩ := C
  unfold t_rz at ei
  match st with
  | [.inl x] =>
    obtain ⟨hx01, ei⟩ := gd_some ei
    cases ei
    obtain ⟨w1, v1, rfl, ⟨i1, rfl⟩, h3⟩ := hR.2.1
    have h3 : v1 = [] := h3
    subst h3
    subst hk
    have e1 : h.cnt - h0.cnt = cells := by have := hR.2.2.2.2.1; omega
    have e2 : h.sl - h0.sl = slots := by have := hR.2.2.2.2.2; omega
    show W p l e R s m args below meth c H locs cells slots (MQ below _ args s (h.cnt - h0.cnt) (h.sl - h0.sl) A) _
    rw [e1, e2]
    have hn : narrow .boolean (.int (Int32.ofInt x)) = .int (Int32.ofInt x) := by rcases hx01 with rfl | rfl <;> rfl
    exact W.zret hx hb (hret.trans hr) hn (fun t ht hW => ⟨⟨Int32.ofInt x, (φ, cA, tys), rfl, ⟨x, rfl, i1, rfl⟩, ⟨by rw [ht]; exact hR.1.1, hR.1.2.1, va_K.moved hW.alike hR.1.2.2.1, hR.1.2.2.2.1, hR.1.2.2.2.2, hφ⟩⟩, hR.2.2.2.1.F ht⟩) hR.2.2.2.1.2.2 hd hlk
  | [] => cases ei
  | .inr _ :: _ => cases ei
  | .inl _ :: _ :: _ => cases ei
theorem sndT_ra {tt : Nat} {rt : FieldType} (hk : kd = tt + 3) (hr : ret = some rt) (hrt : (∃ n, rt = .object n) ∨ ∃ t, rt = .array t) (hd : decode cc pc = .ok (.areturn, 1)) : sndT mtab own cc nL ini ret kd pcs rF rL pc (t_ra tt) := by
  intro p l e R s m args below meth c D fz X A φ0 h0 r C hret hlk hrF hrL lo st h Xf Cf ei hX hcc hcs hm hmC hC hC9 φ cA tys ls sv H locs cells slots hφ hR kk
  obtain ⟨hx, hb, hml, hown, hts, hini, hA, hSt, hNe⟩ := C
  have hv : ∃ a w, sv = [w] ∧ rvl fz φ h (vR tt a) w ∧ r = (some (vR tt a), h) := by
    unfold t_ra at ei
    match st with
    | [.inr (.inr (.inl (t, a)))] =>
      replace ei := if_some ei
      obtain ⟨q, ei⟩ := ei
      subst q
      cases ei
      obtain ⟨w1, v1, rfl, hv, h3⟩ := hR.2.1
      have h3 : v1 = [] := h3
      subst h3
      exact ⟨a, w1, rfl, hv, rfl⟩
    | [.inr (.inr (.inr (.inl (t, a))))] =>
      replace ei := if_some ei
      obtain ⟨q, ei⟩ := ei
      subst q
      cases ei
      obtain ⟨w1, v1, rfl, ⟨⟨a1, a2, a3⟩, hv⟩, h3⟩ := hR.2.1
      have h3 : v1 = [] := h3
      subst h3
      exact ⟨a, w1, rfl, ⟨Or.inr ⟨a1, a2, a3⟩, by rw [hv]; exact (if_neg (by show ¬ a = 0; have : 1 ≤ a := a1; omega)).symm⟩, rfl⟩
    | [] => cases ei
    | .inl _ :: _ => cases ei
    | .inr (.inl _) :: _ => cases ei
    | .inr (.inr (.inl _)) :: _ :: _ => cases ei
    | .inr (.inr (.inr (.inl _))) :: _ :: _ => cases ei
    | .inr (.inr (.inr (.inr _))) :: _ => cases ei
  obtain ⟨a, w, rfl, ⟨oa, hw⟩, rfl⟩ := hv
  subst hk
  have e1 : h.cnt - h0.cnt = cells := by have := hR.2.2.2.2.1; omega
  have e2 : h.sl - h0.sl = slots := by have := hR.2.2.2.2.2; omega
  show W p l e R s m args below meth c H locs cells slots (MQ below _ args s (h.cnt - h0.cnt) (h.sl - h0.sl) A) _
  rw [e1, e2]
  have hw2 : w = va_rf (if a = 0 then none else some (φ a)) := by
    rw [hw]
    show (if a = 0 then Value.null else Value.ref (φ a)) = _
    split <;> rfl
  rw [hw2]
  exact W.aret hx hb (hret.trans hr) hrt (va_rf_or _) (fun t ht hW => ⟨⟨_, (φ, cA, tys), rfl, ⟨a, rfl, oa, rfl⟩, ⟨by rw [ht]; exact hR.1.1, hR.1.2.1, va_K.moved hW.alike hR.1.2.2.1, hR.1.2.2.2.1, hR.1.2.2.2.2, hφ⟩⟩, hR.2.2.2.1.F ht⟩) hR.2.2.2.1.2.2 hd hlk
end ENDS
