/-! THE TIE, 4: what holds all through a method; a row an instruction -/
/-- the words that every method of the program may use -/
def wa : List Cond := lw_tbl.filter goodWord
theorem wa_in {w : Cond} (h : w ∈ lw_tbl) (g : goodWord w = true) : w ∈ wa := List.mem_filter.mpr ⟨h, g⟩
theorem wa_good {ws : List Cond} (h : ∀ w ∈ ws, w ∈ wa) : GoodIn wa ws := fun w hw => ⟨h w hw, good_of_word (List.mem_filter.mp (h w hw)).2⟩
/-- the constructors that the thrown object's classes name -/
def wD : List MethodName := [Bundle.init0 "java/lang/RuntimeException", Bundle.init0 "java/lang/Exception", Bundle.init0 Bundle.tN]
/-- the words that go from state to state by their own laws: nest mates' links, arrays of classes, the interface's calls -/
def nest (U : State) : Prop := (∀ q ∈ wN1, va_Nw (.fieldLinkNest q.1 q.2.1 q.2.2.1 q.2.2.2.1 q.2.2.2.2.1 q.2.2.2.2.2) U) ∧ (∀ q ∈ wN2, va_Nw (.methodLinkNest q.1 q.2.1 q.2.2.1 q.2.2.2) U) ∧ (∀ C ∈ wO, va_AO C U) ∧ (∀ q ∈ wF, va_Fw q.1 q.2.1 q.2.2 U) ∧ va_Nw (.castable "java/util/NoSuchElementException" "java/util/NoSuchElementException") U ∧ ∀ x ∈ wD, va_Nw (.declares x) U
theorem nest.moved {s U : State} (hW : s.WarmedH U.vm) (h : nest s) : nest U :=
  ⟨fun q hq => va_Nw.warmF hW (h.1 q hq), fun q hq => va_Nw.warmM hW (h.2.1 q hq), fun C hC => (h.2.2.1 C hC).moved hW.alike, fun q hq => (h.2.2.2.1 q hq).moved (wF_ok q hq) hW.alike, va_Nw.warmC hW h.2.2.2.2.1, fun x hx => va_Nw.warmD hW (h.2.2.2.2.2 x hx)⟩
theorem nest.same {s U : State} (hv : s.vm = U.vm) (hal : s.vm.Alike U.vm) (h : nest s) : nest U :=
  ⟨fun q hq => va_Nw.same rfl hv (h.1 q hq), fun q hq => va_Nw.same rfl hv (h.2.1 q hq), fun C hC => (h.2.2.1 C hC).moved hal, fun q hq => (h.2.2.2.1 q hq).moved (wF_ok q hq) hal, va_Nw.same rfl hv h.2.2.2.2.1, fun x hx => va_Nw.same rfl hv (h.2.2.2.2.2 x hx)⟩
def ctxX (p : Program) (R : Room) (s : State) (m : MethodId) (args : Array Value) (meth : Method) (c : Code) (own : String) (cc : ByteArray) (nL : Nat) (ini : Bool) (fz : Nat → Nat) (X : Int → Int) (A : Nat → Prop) : Prop :=
  p.tables.exec = Jvm.exec ∧ c.code = cc ∧ c.maxLocals = nL ∧ s.vm.findClass own = some m.cls ∧ (∀ w ∈ wa, w.before args s = true) ∧ (ini = true → meth.name = "<init>" ∧ 1 ≤ R.frames ∧ 12 ≤ R.locals) ∧ (∀ q, s.heap.size ≤ q → A q) ∧ stand fz X A s s.heap ∧ nest s
def snd (own : String) (cc : ByteArray) (nL : Nat) (ini : Bool) (pc pc' : Nat) (i : mI) : Prop :=
  ∀ (p : Program) (l : Launch) (e : Env) (R : Room) (s : State) (m : MethodId) (args : Array Value) (below : List Frame) (meth : Method) (c : Code) (D : va_G) (fz : Nat → Nat) (X : Int → Int) (A : Nat → Prop) (Q : State → Prop) (c0 s0 : Nat), ctxX p R s m args meth c own cc nL ini fz X A →
  ∀ (lo st : List mV) (h : mH) (k : List mV → List mV → mH → mR) (r : Option mV × mH), i lo st h k = some r → h.X = X → r.2.cnt ≤ c0 + R.cells → r.2.sl ≤ s0 + R.slots → (∀ l' s' h', k l' s' h' = some r → mExt h' r.2) →
  ∀ (φ : Int → Nat) (cA : Int → ClassId) (tys : List (ClassId × FieldType)) (ls : Array Slot) (sv : List Value) (H : Heap) (locs : List Loc) (cells slots : Nat), RS D fz A s nL c0 s0 lo st h φ cA tys ls sv H locs cells slots →
  (∀ l' s' h', k l' s' h' = some r → mExt h h' → ∀ (φ' : Int → Nat) (cA' : Int → ClassId) (tys' : List (ClassId × FieldType)) (ls' : Array Slot) (sv' : List Value) (H' : Heap) (locs' : List Loc) (cells' slots' : Nat), (∀ a : Int, a ≤ h.cnt → φ' a = φ a) → RS D fz A s nL c0 s0 l' s' h' φ' cA' tys' ls' sv' H' locs' cells' slots' → W p l e R s m args below meth c H' locs' cells' slots' Q (F0 m pc' ls' sv')) →
  W p l e R s m args below meth c H locs cells slots Q (F0 m pc ls sv)
section ROWS
variable {own : String} {cc : ByteArray} {nL : Nat} {ini : Bool} {pc : Nat}
theorem snd_iconst {n z : Int} (hv : Int32.ofInt n = Int32.ofInt z) (hz : inI z) (hd : decode cc pc = .ok (.iconst n, 1)) : snd own cc nL ini pc (pc + 1) (s_c z) := by
  intro p l e R s m args below meth c D fz X A Q c0 s0 C lo st h k r ei hX hcc hcs hm φ cA tys ls sv H locs cells slots hR kk
  obtain ⟨hx, hb, hml, hown, hts, hini, hA, hSt, hNe⟩ := C
  exact lv_iconst hx hb hd hv (kk _ _ _ ei (mExt.rf h) φ cA tys ls _ H locs cells slots (fun _ _ => rfl) (hR.stk ⟨_, _, rfl, ⟨hz, rfl⟩, hR.2.1⟩))
theorem snd_bipush {n z : Int} (hv : (Int8.ofInt n).toInt32 = Int32.ofInt z) (hz : inI z) (hd : decode cc pc = .ok (.bipush n, 2)) : snd own cc nL ini pc (pc + 2) (s_c z) := by
  intro p l e R s m args below meth c D fz X A Q c0 s0 C lo st h k r ei hX hcc hcs hm φ cA tys ls sv H locs cells slots hR kk
  obtain ⟨hx, hb, hml, hown, hts, hini, hA, hSt, hNe⟩ := C
  exact lv_bipush hx hb hd hv (kk _ _ _ ei (mExt.rf h) φ cA tys ls _ H locs cells slots (fun _ _ => rfl) (hR.stk ⟨_, _, rfl, ⟨hz, rfl⟩, hR.2.1⟩))
theorem snd_sipush {n z : Int} (hv : (Int16.ofInt n).toInt32 = Int32.ofInt z) (hz : inI z) (hd : decode cc pc = .ok (.sipush n, 3)) : snd own cc nL ini pc (pc + 3) (s_c z) := by
  intro p l e R s m args below meth c D fz X A Q c0 s0 C lo st h k r ei hX hcc hcs hm φ cA tys ls sv H locs cells slots hR kk
  obtain ⟨hx, hb, hml, hown, hts, hini, hA, hSt, hNe⟩ := C
  exact lv_sipush hx hb hd hv (kk _ _ _ ei (mExt.rf h) φ cA tys ls _ H locs cells slots (fun _ _ => rfl) (hR.stk ⟨_, _, rfl, ⟨hz, rfl⟩, hR.2.1⟩))
theorem snd_lconst {n : Fin 2} {z : Int} (hv : Int64.ofNat (n : Nat) = Int64.ofInt z) (hz : inL z) (hd : decode cc pc = .ok (.lconst n, 1)) : snd own cc nL ini pc (pc + 1) (s_cl z) := by
  intro p l e R s m args below meth c D fz X A Q c0 s0 C lo st h k r ei hX hcc hcs hm φ cA tys ls sv H locs cells slots hR kk
  obtain ⟨hx, hb, hml, hown, hts, hini, hA, hSt, hNe⟩ := C
  exact lv_lconst hx hb hd hv (kk _ _ _ ei (mExt.rf h) φ cA tys ls _ H locs cells slots (fun _ _ => rfl) (hR.stk ⟨_, _, rfl, ⟨hz, rfl⟩, hR.2.1⟩))
theorem snd_ldc {i : Nat} {z : Int} {v : Int32} (hw : Jvm.Cond.constant own i v ∈ wa) (hv : v = Int32.ofInt z) (hz : inI z) (hd : decode cc pc = .ok (.ldc i, 2)) : snd own cc nL ini pc (pc + 2) (s_c z) := by
  intro p l e R s m args below meth c D fz X A Q c0 s0 C lo st h k r ei hX hcc hcs hm φ cA tys ls sv H locs cells slots hR kk
  obtain ⟨hx, hb, hml, hown, hts, hini, hA, hSt, hNe⟩ := C
  subst hv
  exact lv_ldc hx hb hown (hts _ hw) hd (kk _ _ _ ei (mExt.rf h) φ cA tys ls _ H locs cells slots (fun _ _ => rfl) (hR.stk ⟨_, _, rfl, ⟨hz, rfl⟩, hR.2.1⟩))
theorem snd_ldc_w {i : Nat} {z : Int} {v : Int32} (hw : Jvm.Cond.constant own i v ∈ wa) (hv : v = Int32.ofInt z) (hz : inI z) (hd : decode cc pc = .ok (.ldc_w i, 3)) : snd own cc nL ini pc (pc + 3) (s_c z) := by
  intro p l e R s m args below meth c D fz X A Q c0 s0 C lo st h k r ei hX hcc hcs hm φ cA tys ls sv H locs cells slots hR kk
  obtain ⟨hx, hb, hml, hown, hts, hini, hA, hSt, hNe⟩ := C
  subst hv
  exact lv_ldcw hx hb hown (hts _ hw) hd (kk _ _ _ ei (mExt.rf h) φ cA tys ls _ H locs cells slots (fun _ _ => rfl) (hR.stk ⟨_, _, rfl, ⟨hz, rfl⟩, hR.2.1⟩))
theorem snd_ldc2_w {i : Nat} {z : Int} {v : Int64} (hw : Jvm.Cond.constantLong own i v ∈ wa) (hv : v = Int64.ofInt z) (hz : inL z) (hd : decode cc pc = .ok (.ldc2_w i, 3)) : snd own cc nL ini pc (pc + 3) (s_cl z) := by
  intro p l e R s m args below meth c D fz X A Q c0 s0 C lo st h k r ei hX hcc hcs hm φ cA tys ls sv H locs cells slots hR kk
  obtain ⟨hx, hb, hml, hown, hts, hini, hA, hSt, hNe⟩ := C
  subst hv
  exact lv_ldc2 hx hb hown (hts _ hw) hd (kk _ _ _ ei (mExt.rf h) φ cA tys ls _ H locs cells slots (fun _ _ => rfl) (hR.stk ⟨_, _, rfl, ⟨hz, rfl⟩, hR.2.1⟩))
theorem snd_aconst_null {t : Nat} (hd : decode cc pc = .ok (.aconst_null, 1)) : snd own cc nL ini pc (pc + 1) (s_nul t) := by
  intro p l e R s m args below meth c D fz X A Q c0 s0 C lo st h k r ei hX hcc hcs hm φ cA tys ls sv H locs cells slots hR kk
  obtain ⟨hx, hb, hml, hown, hts, hini, hA, hSt, hNe⟩ := C
  exact lv_null hx hb hd (kk _ _ _ ei (mExt.rf h) φ cA tys ls _ H locs cells slots (fun _ _ => rfl) (hR.stk ⟨_, _, rfl, ⟨Or.inl rfl, rfl⟩, hR.2.1⟩))
theorem snd_iload_n {j : Fin 4} (hd : decode cc pc = .ok (.iload_n j, 1)) : snd own cc nL ini pc (pc + 1) (s_il (j : Nat)) := by
  intro p l e R s m args below meth c D fz X A Q c0 s0 C lo st h k r ei hX hcc hcs hm φ cA tys ls sv H locs cells slots hR kk
  obtain ⟨hx, hb, hml, hown, hts, hini, hA, hSt, hNe⟩ := C
  obtain ⟨z, hz, ek⟩ := inv_il ei
  have q := hR.2.2.1.2.2 (j : Nat)
  rw [hz] at q
  rcases q with ⟨u, q⟩ | ⟨q, -⟩ | ⟨w, ⟨q1, rfl⟩, q3⟩
  · cases q
  · cases q
  · exact lv_iload_n hx hb hd rfl q3 (kk _ _ _ ek (mExt.rf h) φ cA tys ls _ H locs cells slots (fun _ _ => rfl) (hR.stk ⟨_, _, rfl, ⟨q1, rfl⟩, hR.2.1⟩))
theorem snd_iload {i : Nat} (hd : decode cc pc = .ok (.iload i, 2)) : snd own cc nL ini pc (pc + 2) (s_il i) := by
  intro p l e R s m args below meth c D fz X A Q c0 s0 C lo st h k r ei hX hcc hcs hm φ cA tys ls sv H locs cells slots hR kk
  obtain ⟨hx, hb, hml, hown, hts, hini, hA, hSt, hNe⟩ := C
  obtain ⟨z, hz, ek⟩ := inv_il ei
  have q := hR.2.2.1.2.2 i
  rw [hz] at q
  rcases q with ⟨u, q⟩ | ⟨q, -⟩ | ⟨w, ⟨q1, rfl⟩, q3⟩
  · cases q
  · cases q
  · exact lv_iload hx hb hd q3 (kk _ _ _ ek (mExt.rf h) φ cA tys ls _ H locs cells slots (fun _ _ => rfl) (hR.stk ⟨_, _, rfl, ⟨q1, rfl⟩, hR.2.1⟩))
theorem snd_lload_n {j : Fin 4} (hd : decode cc pc = .ok (.lload_n j, 1)) : snd own cc nL ini pc (pc + 1) (s_ll (j : Nat)) := by
  intro p l e R s m args below meth c D fz X A Q c0 s0 C lo st h k r ei hX hcc hcs hm φ cA tys ls sv H locs cells slots hR kk
  obtain ⟨hx, hb, hml, hown, hts, hini, hA, hSt, hNe⟩ := C
  obtain ⟨z, hz, hu, ek⟩ := inv_ll ei
  have q := hR.2.2.1.2.2 (j : Nat)
  rw [hz] at q
  rcases q with ⟨u, q⟩ | ⟨-, q⟩ | ⟨w, ⟨q1, rfl⟩, q3⟩
  · cases q
  · rw [hu] at q; cases q
  · exact lv_lload_n hx hb hd rfl q3 (kk _ _ _ ek (mExt.rf h) φ cA tys ls _ H locs cells slots (fun _ _ => rfl) (hR.stk ⟨_, _, rfl, ⟨q1, rfl⟩, hR.2.1⟩))
theorem snd_lload {i : Nat} (hd : decode cc pc = .ok (.lload i, 2)) : snd own cc nL ini pc (pc + 2) (s_ll i) := by
  intro p l e R s m args below meth c D fz X A Q c0 s0 C lo st h k r ei hX hcc hcs hm φ cA tys ls sv H locs cells slots hR kk
  obtain ⟨hx, hb, hml, hown, hts, hini, hA, hSt, hNe⟩ := C
  obtain ⟨z, hz, hu, ek⟩ := inv_ll ei
  have q := hR.2.2.1.2.2 i
  rw [hz] at q
  rcases q with ⟨u, q⟩ | ⟨-, q⟩ | ⟨w, ⟨q1, rfl⟩, q3⟩
  · cases q
  · rw [hu] at q; cases q
  · exact lv_lload hx hb hd q3 (kk _ _ _ ek (mExt.rf h) φ cA tys ls _ H locs cells slots (fun _ _ => rfl) (hR.stk ⟨_, _, rfl, ⟨q1, rfl⟩, hR.2.1⟩))
theorem snd_aload_n {j : Fin 4} (hd : decode cc pc = .ok (.aload_n j, 1)) : snd own cc nL ini pc (pc + 1) (s_al (j : Nat)) := by
  intro p l e R s m args below meth c D fz X A Q c0 s0 C lo st h k r ei hX hcc hcs hm φ cA tys ls sv H locs cells slots hR kk
  obtain ⟨hx, hb, hml, hown, hts, hini, hA, hSt, hNe⟩ := C
  have q := hR.2.2.1.2.2 (j : Nat)
  rcases inv_al ei with ⟨⟨t, a⟩, hz, ek⟩ | ⟨⟨t, a⟩, hz, ek⟩ | ⟨j', hz, ek⟩
  · rw [hz] at q
    rcases q with ⟨u, q⟩ | ⟨q, -⟩ | ⟨w, ⟨q1, rfl⟩, q3⟩
    · cases q
    · cases q
    · by_cases ha : a = 0
      · subst ha
        have q3 : ls[(j : Nat)]? = some (.val .null) := q3
        exact lv_aload_nN hx hb hd rfl q3 (kk _ _ _ ek (mExt.rf h) φ cA tys ls _ H locs cells slots (fun _ _ => rfl) (hR.stk ⟨_, _, rfl, ⟨q1, rfl⟩, hR.2.1⟩))
      · have e1 : rvk φ (t + 2) a = .ref (φ a) := if_neg ha
        rw [e1] at q3
        exact lv_aload_n hx hb hd rfl q3 (kk _ _ _ ek (mExt.rf h) φ cA tys ls _ H locs cells slots (fun _ _ => rfl) (hR.stk ⟨_, _, rfl, ⟨q1, e1.symm⟩, hR.2.1⟩))
  · rw [hz] at q
    rcases q with ⟨u, q⟩ | ⟨q, -⟩ | ⟨w, ⟨q1, rfl⟩, q3⟩
    · cases q
    · cases q
    · exact lv_aload_n hx hb hd rfl q3 (kk _ _ _ ek (mExt.rf h) φ cA tys ls _ H locs cells slots (fun _ _ => rfl) (hR.stk ⟨_, _, rfl, ⟨q1, rfl⟩, hR.2.1⟩))
  · rw [hz] at q
    rcases q with ⟨u, q⟩ | ⟨q, -⟩ | ⟨w, q1, q3⟩
    · cases q
    · cases q
    · have q1 : w = .ref (fz j') := q1
      subst q1
      exact lv_aload_n hx hb hd rfl q3 (kk _ _ _ ek (mExt.rf h) φ cA tys ls _ H locs cells slots (fun _ _ => rfl) (hR.stk ⟨_, _, rfl, rfl, hR.2.1⟩))
theorem snd_aload {i : Nat} (hd : decode cc pc = .ok (.aload i, 2)) : snd own cc nL ini pc (pc + 2) (s_al i) := by
  intro p l e R s m args below meth c D fz X A Q c0 s0 C lo st h k r ei hX hcc hcs hm φ cA tys ls sv H locs cells slots hR kk
  obtain ⟨hx, hb, hml, hown, hts, hini, hA, hSt, hNe⟩ := C
  have q := hR.2.2.1.2.2 i
  rcases inv_al ei with ⟨⟨t, a⟩, hz, ek⟩ | ⟨⟨t, a⟩, hz, ek⟩ | ⟨j', hz, ek⟩
  · rw [hz] at q
    rcases q with ⟨u, q⟩ | ⟨q, -⟩ | ⟨w, ⟨q1, rfl⟩, q3⟩
    · cases q
    · cases q
    · by_cases ha : a = 0
      · subst ha
        have q3 : ls[i]? = some (.val .null) := q3
        exact lv_aloadN hx hb hd q3 (kk _ _ _ ek (mExt.rf h) φ cA tys ls _ H locs cells slots (fun _ _ => rfl) (hR.stk ⟨_, _, rfl, ⟨q1, rfl⟩, hR.2.1⟩))
      · have e1 : rvk φ (t + 2) a = .ref (φ a) := if_neg ha
        rw [e1] at q3
        exact lv_aload hx hb hd q3 (kk _ _ _ ek (mExt.rf h) φ cA tys ls _ H locs cells slots (fun _ _ => rfl) (hR.stk ⟨_, _, rfl, ⟨q1, e1.symm⟩, hR.2.1⟩))
  · rw [hz] at q
    rcases q with ⟨u, q⟩ | ⟨q, -⟩ | ⟨w, ⟨q1, rfl⟩, q3⟩
    · cases q
    · cases q
    · exact lv_aload hx hb hd q3 (kk _ _ _ ek (mExt.rf h) φ cA tys ls _ H locs cells slots (fun _ _ => rfl) (hR.stk ⟨_, _, rfl, ⟨q1, rfl⟩, hR.2.1⟩))
  · rw [hz] at q
    rcases q with ⟨u, q⟩ | ⟨q, -⟩ | ⟨w, q1, q3⟩
    · cases q
    · cases q
    · have q1 : w = .ref (fz j') := q1
      subst q1
      exact lv_aload hx hb hd q3 (kk _ _ _ ek (mExt.rf h) φ cA tys ls _ H locs cells slots (fun _ _ => rfl) (hR.stk ⟨_, _, rfl, rfl, hR.2.1⟩))
theorem snd_iadd (hd : decode cc pc = .ok (.iadd, 1)) : snd own cc nL ini pc (pc + 1) (s_iadd) := by
  intro p l e R s m args below meth c D fz X A Q c0 s0 C lo st h k r ei hX hcc hcs hm φ cA tys ls sv H locs cells slots hR kk
  obtain ⟨hx, hb, hml, hown, hts, hini, hA, hSt, hNe⟩ := C
  obtain ⟨y, x, rr, rfl, ek⟩ := inv_i2 ei
  obtain ⟨w1, v1, rfl, ⟨i1, rfl⟩, w2, v2, rfl, ⟨i2, rfl⟩, h3⟩ := hR.2.1
  exact lv_iadd hx hb hd (kk _ _ _ ek (mExt.rf h) φ cA tys ls _ H locs cells slots (fun _ _ => rfl) (hR.stk ⟨_, _, rfl, ⟨inI_lo _, by rw [ofI_w, Int32.ofInt_add]⟩, h3⟩))
theorem snd_isub (hd : decode cc pc = .ok (.isub, 1)) : snd own cc nL ini pc (pc + 1) (s_isub) := by
  intro p l e R s m args below meth c D fz X A Q c0 s0 C lo st h k r ei hX hcc hcs hm φ cA tys ls sv H locs cells slots hR kk
  obtain ⟨hx, hb, hml, hown, hts, hini, hA, hSt, hNe⟩ := C
  obtain ⟨y, x, rr, rfl, ek⟩ := inv_i2 ei
  obtain ⟨w1, v1, rfl, ⟨i1, rfl⟩, w2, v2, rfl, ⟨i2, rfl⟩, h3⟩ := hR.2.1
  exact lv_isub hx hb hd (kk _ _ _ ek (mExt.rf h) φ cA tys ls _ H locs cells slots (fun _ _ => rfl) (hR.stk ⟨_, _, rfl, ⟨inI_lo _, by rw [ofI_w, Int32.ofInt_sub]⟩, h3⟩))
theorem snd_imul (hd : decode cc pc = .ok (.imul, 1)) : snd own cc nL ini pc (pc + 1) (s_imul) := by
  intro p l e R s m args below meth c D fz X A Q c0 s0 C lo st h k r ei hX hcc hcs hm φ cA tys ls sv H locs cells slots hR kk
  obtain ⟨hx, hb, hml, hown, hts, hini, hA, hSt, hNe⟩ := C
  obtain ⟨y, x, rr, rfl, ek⟩ := inv_i2 ei
  obtain ⟨w1, v1, rfl, ⟨i1, rfl⟩, w2, v2, rfl, ⟨i2, rfl⟩, h3⟩ := hR.2.1
  exact lv_imul hx hb hd (kk _ _ _ ek (mExt.rf h) φ cA tys ls _ H locs cells slots (fun _ _ => rfl) (hR.stk ⟨_, _, rfl, ⟨inI_lo _, by rw [ofI_w, Int32.ofInt_mul]⟩, h3⟩))
theorem snd_iand (hd : decode cc pc = .ok (.iand, 1)) : snd own cc nL ini pc (pc + 1) (s_iand) := by
  intro p l e R s m args below meth c D fz X A Q c0 s0 C lo st h k r ei hX hcc hcs hm φ cA tys ls sv H locs cells slots hR kk
  obtain ⟨hx, hb, hml, hown, hts, hini, hA, hSt, hNe⟩ := C
  obtain ⟨y, x, rr, rfl, ek⟩ := inv_i2 ei
  obtain ⟨w1, v1, rfl, ⟨i1, rfl⟩, w2, v2, rfl, ⟨i2, rfl⟩, h3⟩ := hR.2.1
  exact lv_iand hx hb hd (kk _ _ _ ek (mExt.rf h) φ cA tys ls _ H locs cells slots (fun _ _ => rfl) (hR.stk ⟨_, _, rfl, ⟨inI_of _, (congrArg Value.int (Int32.ofInt_toInt _)).symm⟩, h3⟩))
theorem snd_ior (hd : decode cc pc = .ok (.ior, 1)) : snd own cc nL ini pc (pc + 1) (s_ior) := by
  intro p l e R s m args below meth c D fz X A Q c0 s0 C lo st h k r ei hX hcc hcs hm φ cA tys ls sv H locs cells slots hR kk
  obtain ⟨hx, hb, hml, hown, hts, hini, hA, hSt, hNe⟩ := C
  obtain ⟨y, x, rr, rfl, ek⟩ := inv_i2 ei
  obtain ⟨w1, v1, rfl, ⟨i1, rfl⟩, w2, v2, rfl, ⟨i2, rfl⟩, h3⟩ := hR.2.1
  exact lv_ior hx hb hd (kk _ _ _ ek (mExt.rf h) φ cA tys ls _ H locs cells slots (fun _ _ => rfl) (hR.stk ⟨_, _, rfl, ⟨inI_of _, (congrArg Value.int (Int32.ofInt_toInt _)).symm⟩, h3⟩))
theorem snd_ixor (hd : decode cc pc = .ok (.ixor, 1)) : snd own cc nL ini pc (pc + 1) (s_ixor) := by
  intro p l e R s m args below meth c D fz X A Q c0 s0 C lo st h k r ei hX hcc hcs hm φ cA tys ls sv H locs cells slots hR kk
  obtain ⟨hx, hb, hml, hown, hts, hini, hA, hSt, hNe⟩ := C
  obtain ⟨y, x, rr, rfl, ek⟩ := inv_i2 ei
  obtain ⟨w1, v1, rfl, ⟨i1, rfl⟩, w2, v2, rfl, ⟨i2, rfl⟩, h3⟩ := hR.2.1
  exact lv_ixor hx hb hd (kk _ _ _ ek (mExt.rf h) φ cA tys ls _ H locs cells slots (fun _ _ => rfl) (hR.stk ⟨_, _, rfl, ⟨inI_of _, (congrArg Value.int (Int32.ofInt_toInt _)).symm⟩, h3⟩))
theorem snd_ishl (hd : decode cc pc = .ok (.ishl, 1)) : snd own cc nL ini pc (pc + 1) (s_ishl) := by
  intro p l e R s m args below meth c D fz X A Q c0 s0 C lo st h k r ei hX hcc hcs hm φ cA tys ls sv H locs cells slots hR kk
  obtain ⟨hx, hb, hml, hown, hts, hini, hA, hSt, hNe⟩ := C
  obtain ⟨y, x, rr, rfl, ek⟩ := inv_i2 ei
  obtain ⟨w1, v1, rfl, ⟨i1, rfl⟩, w2, v2, rfl, ⟨i2, rfl⟩, h3⟩ := hR.2.1
  exact lv_ishl hx hb hd (kk _ _ _ ek (mExt.rf h) φ cA tys ls _ H locs cells slots (fun _ _ => rfl) (hR.stk ⟨_, _, rfl, ⟨inI_of _, (congrArg Value.int (Int32.ofInt_toInt _)).symm⟩, h3⟩))
theorem snd_ishr (hd : decode cc pc = .ok (.ishr, 1)) : snd own cc nL ini pc (pc + 1) (s_ishr) := by
  intro p l e R s m args below meth c D fz X A Q c0 s0 C lo st h k r ei hX hcc hcs hm φ cA tys ls sv H locs cells slots hR kk
  obtain ⟨hx, hb, hml, hown, hts, hini, hA, hSt, hNe⟩ := C
  obtain ⟨y, x, rr, rfl, ek⟩ := inv_i2 ei
  obtain ⟨w1, v1, rfl, ⟨i1, rfl⟩, w2, v2, rfl, ⟨i2, rfl⟩, h3⟩ := hR.2.1
  exact lv_ishr hx hb hd (kk _ _ _ ek (mExt.rf h) φ cA tys ls _ H locs cells slots (fun _ _ => rfl) (hR.stk ⟨_, _, rfl, ⟨inI_of _, (congrArg Value.int (Int32.ofInt_toInt _)).symm⟩, h3⟩))
theorem snd_iushr (hd : decode cc pc = .ok (.iushr, 1)) : snd own cc nL ini pc (pc + 1) (s_iushr) := by
  intro p l e R s m args below meth c D fz X A Q c0 s0 C lo st h k r ei hX hcc hcs hm φ cA tys ls sv H locs cells slots hR kk
  obtain ⟨hx, hb, hml, hown, hts, hini, hA, hSt, hNe⟩ := C
  obtain ⟨y, x, rr, rfl, ek⟩ := inv_i2 ei
  obtain ⟨w1, v1, rfl, ⟨i1, rfl⟩, w2, v2, rfl, ⟨i2, rfl⟩, h3⟩ := hR.2.1
  exact lv_iushr hx hb hd rfl (kk _ _ _ ek (mExt.rf h) φ cA tys ls _ H locs cells slots (fun _ _ => rfl) (hR.stk ⟨_, _, rfl, ⟨inI_of _, (congrArg Value.int (Int32.ofInt_toInt _)).symm⟩, h3⟩))
theorem snd_idiv (hd : decode cc pc = .ok (.idiv, 1)) : snd own cc nL ini pc (pc + 1) (s_idiv) := by
  intro p l e R s m args below meth c D fz X A Q c0 s0 C lo st h k r ei hX hcc hcs hm φ cA tys ls sv H locs cells slots hR kk
  obtain ⟨hx, hb, hml, hown, hts, hini, hA, hSt, hNe⟩ := C
  obtain ⟨y, x, rr, rfl, hy, ek⟩ := inv_idiv ei
  obtain ⟨w1, v1, rfl, ⟨i1, rfl⟩, w2, v2, rfl, ⟨i2, rfl⟩, h3⟩ := hR.2.1
  exact lv_idiv hx hb hd (fun q => hy ((ofI_inj i1 inI_0).mp q)) (kk _ _ _ ek (mExt.rf h) φ cA tys ls _ H locs cells slots (fun _ _ => rfl) (hR.stk ⟨_, _, rfl, ⟨inI_lo _, by rw [ofI_div i2 i1]⟩, h3⟩))
theorem snd_irem (hd : decode cc pc = .ok (.irem, 1)) : snd own cc nL ini pc (pc + 1) (s_irem) := by
  intro p l e R s m args below meth c D fz X A Q c0 s0 C lo st h k r ei hX hcc hcs hm φ cA tys ls sv H locs cells slots hR kk
  obtain ⟨hx, hb, hml, hown, hts, hini, hA, hSt, hNe⟩ := C
  obtain ⟨y, x, rr, rfl, hy, ek⟩ := inv_irem ei
  obtain ⟨w1, v1, rfl, ⟨i1, rfl⟩, w2, v2, rfl, ⟨i2, rfl⟩, h3⟩ := hR.2.1
  exact lv_irem hx hb hd (fun q => hy ((ofI_inj i1 inI_0).mp q)) (kk _ _ _ ek (mExt.rf h) φ cA tys ls _ H locs cells slots (fun _ _ => rfl) (hR.stk ⟨_, _, rfl, ⟨inI_tmod i2, by rw [ofI_rem i2 i1]⟩, h3⟩))
theorem snd_ineg (hd : decode cc pc = .ok (.ineg, 1)) : snd own cc nL ini pc (pc + 1) (s_ineg) := by
  intro p l e R s m args below meth c D fz X A Q c0 s0 C lo st h k r ei hX hcc hcs hm φ cA tys ls sv H locs cells slots hR kk
  obtain ⟨hx, hb, hml, hown, hts, hini, hA, hSt, hNe⟩ := C
  obtain ⟨x, rr, rfl, ek⟩ := inv_ineg ei
  obtain ⟨w1, v1, rfl, ⟨i1, rfl⟩, h3⟩ := hR.2.1
  exact lv_ineg hx hb hd (kk _ _ _ ek (mExt.rf h) φ cA tys ls _ H locs cells slots (fun _ _ => rfl) (hR.stk ⟨_, _, rfl, ⟨inI_lo _, by rw [ofI_w, Int32.ofInt_neg]⟩, h3⟩))
theorem snd_ladd (hd : decode cc pc = .ok (.ladd, 1)) : snd own cc nL ini pc (pc + 1) (s_ladd) := by
  intro p l e R s m args below meth c D fz X A Q c0 s0 C lo st h k r ei hX hcc hcs hm φ cA tys ls sv H locs cells slots hR kk
  obtain ⟨hx, hb, hml, hown, hts, hini, hA, hSt, hNe⟩ := C
  obtain ⟨y, x, rr, rfl, ek⟩ := inv_l2 ei
  obtain ⟨w1, v1, rfl, ⟨i1, rfl⟩, w2, v2, rfl, ⟨i2, rfl⟩, h3⟩ := hR.2.1
  exact lv_ladd hx hb hd (kk _ _ _ ek (mExt.rf h) φ cA tys ls _ H locs cells slots (fun _ _ => rfl) (hR.stk ⟨_, _, rfl, ⟨inL_lo _, by rw [ofL_w, Int64.ofInt_add]⟩, h3⟩))
theorem snd_lsub (hd : decode cc pc = .ok (.lsub, 1)) : snd own cc nL ini pc (pc + 1) (s_lsub) := by
  intro p l e R s m args below meth c D fz X A Q c0 s0 C lo st h k r ei hX hcc hcs hm φ cA tys ls sv H locs cells slots hR kk
  obtain ⟨hx, hb, hml, hown, hts, hini, hA, hSt, hNe⟩ := C
  obtain ⟨y, x, rr, rfl, ek⟩ := inv_l2 ei
  obtain ⟨w1, v1, rfl, ⟨i1, rfl⟩, w2, v2, rfl, ⟨i2, rfl⟩, h3⟩ := hR.2.1
  exact lv_lsub hx hb hd (kk _ _ _ ek (mExt.rf h) φ cA tys ls _ H locs cells slots (fun _ _ => rfl) (hR.stk ⟨_, _, rfl, ⟨inL_lo _, by rw [ofL_w, Int64.ofInt_sub]⟩, h3⟩))
theorem snd_lmul (hd : decode cc pc = .ok (.lmul, 1)) : snd own cc nL ini pc (pc + 1) (s_lmul) := by
  intro p l e R s m args below meth c D fz X A Q c0 s0 C lo st h k r ei hX hcc hcs hm φ cA tys ls sv H locs cells slots hR kk
  obtain ⟨hx, hb, hml, hown, hts, hini, hA, hSt, hNe⟩ := C
  obtain ⟨y, x, rr, rfl, ek⟩ := inv_l2 ei
  obtain ⟨w1, v1, rfl, ⟨i1, rfl⟩, w2, v2, rfl, ⟨i2, rfl⟩, h3⟩ := hR.2.1
  exact lv_lmul hx hb hd (kk _ _ _ ek (mExt.rf h) φ cA tys ls _ H locs cells slots (fun _ _ => rfl) (hR.stk ⟨_, _, rfl, ⟨inL_lo _, by rw [ofL_w, Int64.ofInt_mul]⟩, h3⟩))
theorem snd_land (hd : decode cc pc = .ok (.land, 1)) : snd own cc nL ini pc (pc + 1) (s_land) := by
  intro p l e R s m args below meth c D fz X A Q c0 s0 C lo st h k r ei hX hcc hcs hm φ cA tys ls sv H locs cells slots hR kk
  obtain ⟨hx, hb, hml, hown, hts, hini, hA, hSt, hNe⟩ := C
  obtain ⟨y, x, rr, rfl, ek⟩ := inv_l2 ei
  obtain ⟨w1, v1, rfl, ⟨i1, rfl⟩, w2, v2, rfl, ⟨i2, rfl⟩, h3⟩ := hR.2.1
  exact lv_land hx hb hd (kk _ _ _ ek (mExt.rf h) φ cA tys ls _ H locs cells slots (fun _ _ => rfl) (hR.stk ⟨_, _, rfl, ⟨inL_of _, (congrArg Value.long (Int64.ofInt_toInt _)).symm⟩, h3⟩))
theorem snd_lor (hd : decode cc pc = .ok (.lor, 1)) : snd own cc nL ini pc (pc + 1) (s_lor) := by
  intro p l e R s m args below meth c D fz X A Q c0 s0 C lo st h k r ei hX hcc hcs hm φ cA tys ls sv H locs cells slots hR kk
  obtain ⟨hx, hb, hml, hown, hts, hini, hA, hSt, hNe⟩ := C
  obtain ⟨y, x, rr, rfl, ek⟩ := inv_l2 ei
  obtain ⟨w1, v1, rfl, ⟨i1, rfl⟩, w2, v2, rfl, ⟨i2, rfl⟩, h3⟩ := hR.2.1
  exact lv_lor hx hb hd (kk _ _ _ ek (mExt.rf h) φ cA tys ls _ H locs cells slots (fun _ _ => rfl) (hR.stk ⟨_, _, rfl, ⟨inL_of _, (congrArg Value.long (Int64.ofInt_toInt _)).symm⟩, h3⟩))
theorem snd_ldiv (hd : decode cc pc = .ok (.ldiv, 1)) : snd own cc nL ini pc (pc + 1) (s_ldiv) := by
  intro p l e R s m args below meth c D fz X A Q c0 s0 C lo st h k r ei hX hcc hcs hm φ cA tys ls sv H locs cells slots hR kk
  obtain ⟨hx, hb, hml, hown, hts, hini, hA, hSt, hNe⟩ := C
  obtain ⟨y, x, rr, rfl, hy, ek⟩ := inv_ldiv ei
  obtain ⟨w1, v1, rfl, ⟨i1, rfl⟩, w2, v2, rfl, ⟨i2, rfl⟩, h3⟩ := hR.2.1
  exact lv_ldiv hx hb hd (fun q => hy ((ofL_inj i1 inL_0).mp q)) (kk _ _ _ ek (mExt.rf h) φ cA tys ls _ H locs cells slots (fun _ _ => rfl) (hR.stk ⟨_, _, rfl, ⟨inL_lo _, by rw [ofL_div i2 i1]⟩, h3⟩))
theorem snd_lrem (hd : decode cc pc = .ok (.lrem, 1)) : snd own cc nL ini pc (pc + 1) (s_lrem) := by
  intro p l e R s m args below meth c D fz X A Q c0 s0 C lo st h k r ei hX hcc hcs hm φ cA tys ls sv H locs cells slots hR kk
  obtain ⟨hx, hb, hml, hown, hts, hini, hA, hSt, hNe⟩ := C
  obtain ⟨y, x, rr, rfl, hy, ek⟩ := inv_lrem ei
  obtain ⟨w1, v1, rfl, ⟨i1, rfl⟩, w2, v2, rfl, ⟨i2, rfl⟩, h3⟩ := hR.2.1
  exact lv_lrem hx hb hd (fun q => hy ((ofL_inj i1 inL_0).mp q)) (kk _ _ _ ek (mExt.rf h) φ cA tys ls _ H locs cells slots (fun _ _ => rfl) (hR.stk ⟨_, _, rfl, ⟨inL_tmod i2, by rw [ofL_rem i2 i1]⟩, h3⟩))
theorem snd_lshl (hd : decode cc pc = .ok (.lshl, 1)) : snd own cc nL ini pc (pc + 1) (s_lshl) := by
  intro p l e R s m args below meth c D fz X A Q c0 s0 C lo st h k r ei hX hcc hcs hm φ cA tys ls sv H locs cells slots hR kk
  obtain ⟨hx, hb, hml, hown, hts, hini, hA, hSt, hNe⟩ := C
  obtain ⟨y, x, rr, rfl, ek⟩ := inv_lshl ei
  obtain ⟨w1, v1, rfl, ⟨i1, rfl⟩, w2, v2, rfl, ⟨i2, rfl⟩, h3⟩ := hR.2.1
  exact lv_lshl hx hb hd rfl (kk _ _ _ ek (mExt.rf h) φ cA tys ls _ H locs cells slots (fun _ _ => rfl) (hR.stk ⟨_, _, rfl, ⟨inL_of _, (congrArg Value.long (Int64.ofInt_toInt _)).symm⟩, h3⟩))
theorem snd_lushr (hd : decode cc pc = .ok (.lushr, 1)) : snd own cc nL ini pc (pc + 1) (s_lushr) := by
  intro p l e R s m args below meth c D fz X A Q c0 s0 C lo st h k r ei hX hcc hcs hm φ cA tys ls sv H locs cells slots hR kk
  obtain ⟨hx, hb, hml, hown, hts, hini, hA, hSt, hNe⟩ := C
  obtain ⟨y, x, rr, rfl, ek⟩ := inv_lushr ei
  obtain ⟨w1, v1, rfl, ⟨i1, rfl⟩, w2, v2, rfl, ⟨i2, rfl⟩, h3⟩ := hR.2.1
  exact lv_lushr hx hb hd rfl (kk _ _ _ ek (mExt.rf h) φ cA tys ls _ H locs cells slots (fun _ _ => rfl) (hR.stk ⟨_, _, rfl, ⟨inL_of _, (congrArg Value.long (Int64.ofInt_toInt _)).symm⟩, h3⟩))
theorem snd_lcmp (hd : decode cc pc = .ok (.lcmp, 1)) : snd own cc nL ini pc (pc + 1) (s_lcmp) := by
  intro p l e R s m args below meth c D fz X A Q c0 s0 C lo st h k r ei hX hcc hcs hm φ cA tys ls sv H locs cells slots hR kk
  obtain ⟨hx, hb, hml, hown, hts, hini, hA, hSt, hNe⟩ := C
  obtain ⟨y, x, rr, rfl, ek⟩ := inv_lcmp ei
  obtain ⟨w1, v1, rfl, ⟨i1, rfl⟩, w2, v2, rfl, ⟨i2, rfl⟩, h3⟩ := hR.2.1
  exact W.lcmp hx hb hd (kk _ _ _ ek (mExt.rf h) φ cA tys ls _ H locs cells slots (fun _ _ => rfl) (hR.stk ⟨_, _, rfl, ⟨inI_cmp _ _, by rw [ofI_cmp i2 i1]⟩, h3⟩))
theorem snd_i2l (hd : decode cc pc = .ok (.i2l, 1)) : snd own cc nL ini pc (pc + 1) (s_i2l) := by
  intro p l e R s m args below meth c D fz X A Q c0 s0 C lo st h k r ei hX hcc hcs hm φ cA tys ls sv H locs cells slots hR kk
  obtain ⟨hx, hb, hml, hown, hts, hini, hA, hSt, hNe⟩ := C
  obtain ⟨x, rr, rfl, ek⟩ := inv_i2l ei
  obtain ⟨w1, v1, rfl, ⟨i1, rfl⟩, h3⟩ := hR.2.1
  exact lv_i2l hx hb hd rfl (kk _ _ _ ek (mExt.rf h) φ cA tys ls _ H locs cells slots (fun _ _ => rfl) (hR.stk ⟨_, _, rfl, ⟨inI_i2l i1, by rw [ofI_i2l i1]⟩, h3⟩))
theorem snd_l2i (hd : decode cc pc = .ok (.l2i, 1)) : snd own cc nL ini pc (pc + 1) (s_l2i) := by
  intro p l e R s m args below meth c D fz X A Q c0 s0 C lo st h k r ei hX hcc hcs hm φ cA tys ls sv H locs cells slots hR kk
  obtain ⟨hx, hb, hml, hown, hts, hini, hA, hSt, hNe⟩ := C
  obtain ⟨x, rr, rfl, ek⟩ := inv_l2i ei
  obtain ⟨w1, v1, rfl, ⟨i1, rfl⟩, h3⟩ := hR.2.1
  exact lv_l2i hx hb hd rfl (kk _ _ _ ek (mExt.rf h) φ cA tys ls _ H locs cells slots (fun _ _ => rfl) (hR.stk ⟨_, _, rfl, ⟨inI_lo _, by rw [ofL_l2i]⟩, h3⟩))
theorem rvl_cat {fz : Nat → Nat} {φ : Int → Nat} {h : mH} {v : mV} {w : Value} (q : rvl fz φ h v w) (hl : isLong v = false) : w.category = 1 := by
  unfold rvl at q
  split at q
  · rw [q.2]; rfl
  · cases hl
  · rw [q.2]
    show (if _ then Value.null else Value.ref _).category = 1
    split <;> rfl
  · rw [q.2]; rfl
  · rw [q]; rfl
  · exact q.elim
theorem rvl_cat2 {fz : Nat → Nat} {φ : Int → Nat} {h : mH} {v : mV} {w : Value} (q : rvl fz φ h v w) : w.category = 2 → isLong v = true := by
  intro hc
  cases hl : isLong v with
  | true => rfl
  | false => rw [rvl_cat q hl] at hc; cases hc
theorem snd_dup (hd : decode cc pc = .ok (.dup, 1)) : snd own cc nL ini pc (pc + 1) (s_dup) := by
  intro p l e R s m args below meth c D fz X A Q c0 s0 C lo st h k r ei hX hcc hcs hm φ cA tys ls sv H locs cells slots hR kk
  obtain ⟨hx, hb, hml, hown, hts, hini, hA, hSt, hNe⟩ := C
  obtain ⟨v, rr, rfl, hl, hu, ek⟩ := inv_dup ei
  obtain ⟨w1, v1, rfl, i1, h3⟩ := hR.2.1
  exact lv_dup hx hb hd (rvl_cat i1 hl) (kk _ _ _ ek (mExt.rf h) φ cA tys ls _ H locs cells slots (fun _ _ => rfl) (hR.stk ⟨_, _, rfl, i1, _, _, rfl, i1, h3⟩))
theorem snd_pop (hd : decode cc pc = .ok (.pop, 1)) : snd own cc nL ini pc (pc + 1) (s_pop) := by
  intro p l e R s m args below meth c D fz X A Q c0 s0 C lo st h k r ei hX hcc hcs hm φ cA tys ls sv H locs cells slots hR kk
  obtain ⟨hx, hb, hml, hown, hts, hini, hA, hSt, hNe⟩ := C
  obtain ⟨v, rr, rfl, hl, ek⟩ := inv_pop ei
  obtain ⟨w1, v1, rfl, i1, h3⟩ := hR.2.1
  exact lv_pop hx hb hd (rvl_cat i1 hl) (kk _ _ _ ek (mExt.rf h) φ cA tys ls _ H locs cells slots (fun _ _ => rfl) (hR.stk h3))
theorem snd_dup2 (hd : decode cc pc = .ok (.dup2, 1)) : snd own cc nL ini pc (pc + 1) (s_dup2) := by
  intro p l e R s m args below meth c D fz X A Q c0 s0 C lo st h k r ei hX hcc hcs hm φ cA tys ls sv H locs cells slots hR kk
  obtain ⟨hx, hb, hml, hown, hts, hini, hA, hSt, hNe⟩ := C
  obtain ⟨z, q, rr, rfl, ek⟩ := inv_dup2 ei
  obtain ⟨w1, v1, rfl, i1, w2, v2, rfl, i2, h3⟩ := hR.2.1
  exact lv_dup2_11 hx hb hd (rvl_cat i1 rfl) (rvl_cat i2 rfl) (kk _ _ _ ek (mExt.rf h) φ cA tys ls _ H locs cells slots (fun _ _ => rfl) (hR.stk ⟨_, _, rfl, i1, _, _, rfl, i2, _, _, rfl, i1, _, _, rfl, i2, h3⟩))
end ROWS
