/-! THE TIE, 9: calls -/
theorem weak_rvl {fz : Nat → Nat} {φ : Int → Nat} {h : mH} {v : mV} {w : Value} (q : rvl fz φ h v w) : rvl fz φ h (weak v) w := by
  unfold weak
  split
  · rename_i x
    obtain ⟨⟨a1, a2, a3⟩, rfl⟩ := q
    exact ⟨Or.inr ⟨a1, a2, a3⟩, (if_neg (by have : 1 ≤ x.2 := a1; omega)).symm⟩
  · exact q
theorem margs_inv {fz : Nat → Nat} {φ : Int → Nat} {h : mH} : ∀ (n : Nat) (as0 st : List mV) (k : List mV → List mV → mR) (r : Option mV × mH) (As0 sv : List Value), margs n as0 st k = some r → rst fz φ h as0 As0 → rst fz φ h st sv →
    ∃ as rr P vv, k as rr = some r ∧ sv = P ++ vv ∧ P.length = n ∧ rst fz φ h as (P.reverse ++ As0) ∧ rst fz φ h rr vv := by
  intro n
  induction n with
  | zero => intro as0 st k r As0 sv e h1 h2; exact ⟨as0, st, [], sv, e, rfl, rfl, h1, h2⟩
  | succ n ih =>
    intro as0 st k r As0 sv e h1 h2
    match st with
    | [] => cases e
    | v :: st' =>
      obtain ⟨w, y, rfl, hv, h3⟩ := h2
      obtain ⟨as, rr, P, vv, e1, rfl, e3, e4, e5⟩ := ih (weak v :: as0) st' k r (w :: As0) y e ⟨w, As0, rfl, weak_rvl hv, h1⟩ h3
      exact ⟨as, rr, w :: P, vv, e1, rfl, by simp [e3], by simpa using e4, e5⟩
theorem mfit_inv {w : Nat} {r : List mV} {x : mR} {y : Option mV × mH} (e : mfit w r x = some y) : wsum r ≤ w ∧ x = some y := by
  unfold mfit at e
  split at e
  · rename_i q
    exact ⟨Nat.le_of_ble_eq_true q, e⟩
  · cases e
theorem wsum_cat {fz : Nat → Nat} {φ : Int → Nat} {h : mH} : ∀ (r : List mV) (v : List Value), rst fz φ h r v → (v.map fun v => v.category).sum ≤ wsum r := by
  intro r
  induction r with
  | nil => intro v e; have e : v = [] := e; subst e; exact Nat.le_refl _
  | cons a r ih =>
    intro v e
    obtain ⟨w, y, rfl, hw, h3⟩ := e
    have := ih y h3
    simp only [List.map_cons, List.sum_cons]
    cases hl : isLong a with
    | false =>
      rw [rvl_cat hw hl]
      unfold wsum
      split
      · cases hl
      · omega
    | true =>
      have hc : w.category ≤ 2 := by
        rcases lv_cat w with q | q <;> omega
      have e2 : wsum (a :: r) = wsum r + 2 := by
        unfold isLong at hl
        split at hl
        · rfl
        · cases hl
      omega
theorem cvk_inv {w ci f kd b : Nat} {l as r : List mV} {h : mH} {X : Nat → List mV → List mV → mH → mR} {C : Nat → List mV → mH → mR} {y : Option mV × mH} (e : cvk w ci f kd b l h as r X C = some y) :
    ∃ a r', ((r = vR ci a :: r' ∧ a ≠ 0) ∨ r = vO ci a :: r') ∧ wsum r' ≤ w ∧ mback kd (C f (vO ci a :: as) h) r' (fun s' h' => X b l s' h') = some y := by
  unfold cvk at e
  split at e
  · replace e := if_some e
    obtain ⟨q, e⟩ := e
    subst q
    obtain ⟨q2, e⟩ := gd_some e
    obtain ⟨q3, e⟩ := mfit_inv e
    exact ⟨_, _, Or.inl ⟨rfl, q2⟩, q3, e⟩
  · replace e := if_some e
    obtain ⟨q, e⟩ := e
    subst q
    obtain ⟨q3, e⟩ := mfit_inv e
    exact ⟨_, _, Or.inr rfl, q3, e⟩
  · cases e
theorem cik_inv {f : Nat → Nat} {kd b : Nat} {l as r : List mV} {h : mH} {X : Nat → List mV → List mV → mH → mR} {C : Nat → List mV → mH → mR} {y : Option mV × mH} (e : cik f kd b l h as r X C = some y) :
    ∃ t a r', (r = vR t a :: r' ∧ a ≠ 0) ∧ wsum r' ≤ 8 ∧ mback kd (C (f t) (vO t a :: as) h) r' (fun s' h' => X b l s' h') = some y := by
  unfold cik at e
  split at e
  · obtain ⟨q2, e⟩ := gd_some e
    obtain ⟨q3, e⟩ := mfit_inv e
    exact ⟨_, _, _, ⟨rfl, q2⟩, q3, e⟩
  · cases e
theorem call_back3 {p : Program} {l : Launch} {e : Env} {R : Room} {s : State} {m : MethodId} {args : Array Value} {below : List Frame} {meth : Method} {c : Code} {H : Heap} {locs : List Loc} {cells slots : Nat} {Q : State → Prop} {D : va_G} {fz : Nat → Nat} {A : Nat → Prop} {nL c0 s0 : Nat} {φ : Int → Nat} {cA : Int → ClassId} {tys : List (ClassId × FieldType)} {h : mH} {lo rr : List mV} {ls : Array Slot} {sv vv : List Value} {pc : Nat} {a : Array Value} {kd : Nat} {r1 : Option mV × mH} {K : List mV → mH → mR} {r : Option mV × mH}
    (hH : HR D A s φ cA tys h H) (hv : rst fz φ h rr vv) (hlo : rlo fz φ h lo ls nL) (hS : va_S A s.heap H locs) (hA : ∀ q, s.heap.size ≤ q → A q) (hc : cells + c0 = h.cnt) (hs : slots + s0 = h.sl) (hx1 : mExt h r1.2) (ek : mback kd (some r1) rr K = some r)
    (hr : va_Run p l e R s m args below meth c H locs cells slots (r1.2.cnt - h.cnt) (r1.2.sl - h.sl) (F0 m pc ls sv) vv (qof kd D (va_A (wsX φ cA h) H.size) φ h r1 a) (va_A (wsX φ cA h) H.size))
    (kk : ∀ s' h', K s' h' = some r → h' = r1.2 → ∀ (φ' : Int → Nat) (cA' : Int → ClassId) (tys' : List (ClassId × FieldType)) (sv' : List Value) (H' : Heap) (locs' : List Loc) (cells' slots' : Nat), (∀ a : Int, a ≤ h.cnt → φ' a = φ a) → RS D fz A s nL c0 s0 lo s' h' φ' cA' tys' ls sv' H' locs' cells' slots' → W p l e R s m args below meth c H' locs' cells' slots' Q (F0 m (pc + 3) ls sv')) :
    W p l e R s m args below meth c H locs cells slots Q (F0 m pc ls sv) := by
  have hwA := wsA hH.2.1 hA hS
  have hfin : ∀ (u : mU) (t : State) (H1 : Heap) (locs1 : List Loc), t.heap = H1 → s.vm.Alike t.vm → hok D (va_A (wsX φ cA h) H.size) φ h r1.2 u t → va_S A s.heap H1 locs1 → ∀ (s' : List mV) (sv' : List Value), rst fz u.1 r1.2 s' sv' → RS D fz A s nL c0 s0 lo s' r1.2 u.1 u.2.1 u.2.2 ls sv' H1 locs1 (cells + (r1.2.cnt - h.cnt)) (slots + (r1.2.sl - h.sl)) := by
    intro u t H1 locs1 ht hvm hB hS1 s' sv' hst
    obtain ⟨B1, B2, B3, B4, B5, B6⟩ := hB
    rw [ht] at B1
    have x1 := hx1.1
    have x2 := hx1.2.1
    exact ⟨⟨B1, B2.weaken (fun _ _ _ q => hwA _ q), va_K.moved hvm.symm B3, B4, B5⟩, hst, hlo.up hx1 B6, hS1, by omega, by omega⟩
  match kd with
  | 0 =>
    obtain ⟨rv, rh⟩ := r1
    match rv with
    | some _ => cases ek
    | none =>
      refine va_callv (a := a) hr hS (fun q _ z => hwA q z) (fun q z => hwA q z) (fun u t H1 locs1 ht hvm hw hB hz hk hS1 => ?_)
      exact kk rr rh ek rfl u.1 u.2.1 u.2.2 vv H1 locs1 _ _ hB.2.2.2.2.2 (hfin u t H1 locs1 ht hvm hB hS1 rr vv (hv.up hx1 hB.2.2.2.2.2))
  | 1 =>
    refine va_calli (a := a) hr hS (fun q _ z => hwA q z) (fun q z => hwA q z) (fun z u t H1 locs1 ht hvm hw hB hz hk hS1 => ?_)
    obtain ⟨y, hy, yi, rfl⟩ := hw
    obtain ⟨rv, rh⟩ := r1
    have hy : rv = some (vI y) := hy
    subst hy
    exact kk (vI y :: rr) rh ek rfl u.1 u.2.1 u.2.2 _ H1 locs1 _ _ hB.2.2.2.2.2 (hfin u t H1 locs1 ht hvm hB hS1 _ _ ⟨_, _, rfl, ⟨yi, rfl⟩, hv.up hx1 hB.2.2.2.2.2⟩)
  | 2 =>
    refine va_calll (a := a) hr hS (fun q _ z => hwA q z) (fun q z => hwA q z) (fun z u t H1 locs1 ht hvm hw hB hz hk hS1 => ?_)
    obtain ⟨y, hy, yi, rfl⟩ := hw
    obtain ⟨rv, rh⟩ := r1
    have hy : rv = some (vL y) := hy
    subst hy
    exact kk (vL y :: rr) rh ek rfl u.1 u.2.1 u.2.2 _ H1 locs1 _ _ hB.2.2.2.2.2 (hfin u t H1 locs1 ht hvm hB hS1 _ _ ⟨_, _, rfl, ⟨yi, rfl⟩, hv.up hx1 hB.2.2.2.2.2⟩)
  | t + 3 =>
    refine va_callq (a := a) hr hS (fun q _ z => hwA q z) (fun q z => hwA q z) (fun z u t' H1 locs1 ht hvm hw hB hz hk hS1 => ?_)
    obtain ⟨y, hy, yo, rfl⟩ := hw
    obtain ⟨rv, rh⟩ := r1
    have hy : rv = some (vR t y) := hy
    subst hy
    have ek2 : K (vR t y :: rr) rh = some r := by
      have e0 : mback (t + 3) (some (some (vR t y), rh)) rr K = K (vR t y :: rr) rh := if_pos rfl
      exact e0.symm.trans ek
    exact kk (vR t y :: rr) rh ek2 rfl u.1 u.2.1 u.2.2 _ H1 locs1 _ _ hB.2.2.2.2.2 (hfin u t' H1 locs1 ht hvm hB hS1 _ _ ⟨_, _, rfl, ⟨yo, by
      show va_rf (if y = 0 then none else some (u.1 y)) = if y = 0 then Value.null else Value.ref (u.1 y)
      split <;> rfl⟩, hv.up hx1 hB.2.2.2.2.2⟩)
theorem call_back5 {p : Program} {l : Launch} {e : Env} {R : Room} {s : State} {m : MethodId} {args : Array Value} {below : List Frame} {meth : Method} {c : Code} {H : Heap} {locs : List Loc} {cells slots : Nat} {Q : State → Prop} {D : va_G} {fz : Nat → Nat} {A : Nat → Prop} {nL c0 s0 : Nat} {φ : Int → Nat} {cA : Int → ClassId} {tys : List (ClassId × FieldType)} {h : mH} {lo rr : List mV} {ls : Array Slot} {sv vv : List Value} {pc : Nat} {a : Array Value} {kd : Nat} {r1 : Option mV × mH} {K : List mV → mH → mR} {r : Option mV × mH}
    (hH : HR D A s φ cA tys h H) (hv : rst fz φ h rr vv) (hlo : rlo fz φ h lo ls nL) (hS : va_S A s.heap H locs) (hA : ∀ q, s.heap.size ≤ q → A q) (hc : cells + c0 = h.cnt) (hs : slots + s0 = h.sl) (hx1 : mExt h r1.2) (ek : mback kd (some r1) rr K = some r)
    (hr : va_Run5 p l e R s m args below meth c H locs cells slots (r1.2.cnt - h.cnt) (r1.2.sl - h.sl) (F0 m pc ls sv) vv (qof kd D (va_A (wsX φ cA h) H.size) φ h r1 a) (va_A (wsX φ cA h) H.size))
    (kk : ∀ s' h', K s' h' = some r → h' = r1.2 → ∀ (φ' : Int → Nat) (cA' : Int → ClassId) (tys' : List (ClassId × FieldType)) (sv' : List Value) (H' : Heap) (locs' : List Loc) (cells' slots' : Nat), (∀ a : Int, a ≤ h.cnt → φ' a = φ a) → RS D fz A s nL c0 s0 lo s' h' φ' cA' tys' ls sv' H' locs' cells' slots' → W p l e R s m args below meth c H' locs' cells' slots' Q (F0 m (pc + 5) ls sv')) :
    W p l e R s m args below meth c H locs cells slots Q (F0 m pc ls sv) := by
  have hwA := wsA hH.2.1 hA hS
  have hfin : ∀ (u : mU) (t : State) (H1 : Heap) (locs1 : List Loc), t.heap = H1 → s.vm.Alike t.vm → hok D (va_A (wsX φ cA h) H.size) φ h r1.2 u t → va_S A s.heap H1 locs1 → ∀ (s' : List mV) (sv' : List Value), rst fz u.1 r1.2 s' sv' → RS D fz A s nL c0 s0 lo s' r1.2 u.1 u.2.1 u.2.2 ls sv' H1 locs1 (cells + (r1.2.cnt - h.cnt)) (slots + (r1.2.sl - h.sl)) := by
    intro u t H1 locs1 ht hvm hB hS1 s' sv' hst
    obtain ⟨B1, B2, B3, B4, B5, B6⟩ := hB
    rw [ht] at B1
    have x1 := hx1.1
    have x2 := hx1.2.1
    exact ⟨⟨B1, B2.weaken (fun _ _ _ q => hwA _ q), va_K.moved hvm.symm B3, B4, B5⟩, hst, hlo.up hx1 B6, hS1, by omega, by omega⟩
  match kd with
  | 0 =>
    obtain ⟨rv, rh⟩ := r1
    match rv with
    | some _ => cases ek
    | none =>
      refine va_callFv (a := a) hr hS (fun q _ z => hwA q z) (fun q z => hwA q z) (fun u t H1 locs1 ht hvm hw hB hz hk hS1 => ?_)
      exact kk rr rh ek rfl u.1 u.2.1 u.2.2 vv H1 locs1 _ _ hB.2.2.2.2.2 (hfin u t H1 locs1 ht hvm hB hS1 rr vv (hv.up hx1 hB.2.2.2.2.2))
  | 1 =>
    refine va_callFi (a := a) hr hS (fun q _ z => hwA q z) (fun q z => hwA q z) (fun z u t H1 locs1 ht hvm hw hB hz hk hS1 => ?_)
    obtain ⟨y, hy, yi, rfl⟩ := hw
    obtain ⟨rv, rh⟩ := r1
    have hy : rv = some (vI y) := hy
    subst hy
    exact kk (vI y :: rr) rh ek rfl u.1 u.2.1 u.2.2 _ H1 locs1 _ _ hB.2.2.2.2.2 (hfin u t H1 locs1 ht hvm hB hS1 _ _ ⟨_, _, rfl, ⟨yi, rfl⟩, hv.up hx1 hB.2.2.2.2.2⟩)
  | 2 =>
    refine va_callFl (a := a) hr hS (fun q _ z => hwA q z) (fun q z => hwA q z) (fun z u t H1 locs1 ht hvm hw hB hz hk hS1 => ?_)
    obtain ⟨y, hy, yi, rfl⟩ := hw
    obtain ⟨rv, rh⟩ := r1
    have hy : rv = some (vL y) := hy
    subst hy
    exact kk (vL y :: rr) rh ek rfl u.1 u.2.1 u.2.2 _ H1 locs1 _ _ hB.2.2.2.2.2 (hfin u t H1 locs1 ht hvm hB hS1 _ _ ⟨_, _, rfl, ⟨yi, rfl⟩, hv.up hx1 hB.2.2.2.2.2⟩)
  | t + 3 =>
    refine va_callFq (a := a) hr hS (fun q _ z => hwA q z) (fun q z => hwA q z) (fun z u t' H1 locs1 ht hvm hw hB hz hk hS1 => ?_)
    obtain ⟨y, hy, yo, rfl⟩ := hw
    obtain ⟨rv, rh⟩ := r1
    have hy : rv = some (vR t y) := hy
    subst hy
    have ek2 : K (vR t y :: rr) rh = some r := by
      have e0 : mback (t + 3) (some (some (vR t y), rh)) rr K = K (vR t y :: rr) rh := if_pos rfl
      exact e0.symm.trans ek
    exact kk (vR t y :: rr) rh ek2 rfl u.1 u.2.1 u.2.2 _ H1 locs1 _ _ hB.2.2.2.2.2 (hfin u t' H1 locs1 ht hvm hB hS1 _ _ ⟨_, _, rfl, ⟨yo, by
      show va_rf (if y = 0 then none else some (u.1 y)) = if y = 0 then Value.null else Value.ref (u.1 y)
      split <;> rfl⟩, hv.up hx1 hB.2.2.2.2.2⟩)
theorem wa_app {ws : List Cond} {w0 : Cond} (h : ∀ w ∈ ws, w ∈ wa) (h0 : w0 ∈ wa) : ∀ w ∈ ws ++ (w0 :: wa), w ∈ wa := by
  intro w hw
  rcases List.mem_append.mp hw with q | q
  · exact h w q
  · rcases List.mem_cons.mp q with rfl | q
    · exact h0
    · exact q
theorem wa_3 {a b c : Cond} (ha : a ∈ wa) (hb : b ∈ wa) (hc : c ∈ wa) : ∀ w ∈ [a, b, c], w ∈ wa := by
  intro w hw
  simp only [List.mem_cons, List.not_mem_nil, or_false] at hw
  rcases hw with rfl | rfl | rfl <;> assumption
theorem wa_4 {a b c d : Cond} (ha : a ∈ wa) (hb : b ∈ wa) (hc : c ∈ wa) (hd : d ∈ wa) : ∀ w ∈ [a, b, c, d], w ∈ wa := by
  intro w hw
  simp only [List.mem_cons, List.not_mem_nil, or_false] at hw
  rcases hw with rfl | rfl | rfl | rfl <;> assumption
section CALLS
variable {mtab : List mI5} {own : String} {cc : ByteArray} {nL : Nat} {ini : Bool} {ret : Option FieldType} {kd : Nat} {pcs : List Nat} {rF rL : Nat} {pc : Nat}
variable {f n kdc b index rFc rLc maxLc : Nat} {y : MethodName} {bytes : ByteArray} {retc : Option FieldType}
theorem sndQ_cs (hb1 : pcs[b]? = some (pc + 3)) (hf : mtab[f]? = some (y, Cond.code y bytes maxLc retc, rFc, rLc, kdc)) (w4 : Cond.code y bytes maxLc retc ∈ wa) (w1 : Cond.methodLink own index y ∈ wa) (w2 : Cond.static y ∈ wa) (w3 : Cond.initialized y.cls ∈ wa) (hy :  y.cls ≠ "java/lang/invoke/MethodHandle" ∧ y.cls ≠ "java/lang/invoke/VarHandle" ∧ (parseMethodDescriptor y.desc).map (fun d => d.parameters.length) = some n) (qF : rFc + 1 ≤ rF) (qL : 8 + (maxLc + 11) + rLc ≤ rL) (hd : decode cc pc = .ok (.invokestatic index, 3)) : sndQ mtab own cc nL ini pcs rF rL pc (t_cs f n kdc b) := by
  intro p l e R s m args below meth c D fz X A φ0 h0 r Q C hlk hrF hrL lo st h Xf Cf ei hX hcc hcs hm hmC hC hC9 φ cA tys ls sv H locs cells slots hφ hR kk
  obtain ⟨hx, hb, hml, hown, hts, hini, hA, hSt, hNe⟩ := C
  obtain ⟨as, rr, P, vv, ek, rfl, hPn, has, hrr⟩ := margs_inv n [] st _ r [] sv ei rfl hR.2.1
  obtain ⟨hw8, ek⟩ := mfit_inv ek
  obtain ⟨r1, hr1⟩ := mback_some ek
  rw [hr1] at ek
  have has : rst fz φ h as P.reverse := by simpa using has
  have M := hC f as h r1 _ hr1 hf D fz φ cA tys P.reverse H.size has
  have hx1 := hmC _ _ _ _ hr1
  obtain ⟨rv, rh⟩ := r1
  obtain ⟨s2, e2⟩ := mback_heap ek
  obtain ⟨x1, x2, -⟩ := hm _ _ _ _ e2
  have y1 := hx1.1
  have y2 := hx1.2.1
  have z1 := hR.2.2.2.2.1
  have z2 := hR.2.2.2.2.2
  dsimp only at y1 y2
  have hf2 : cells + (rh.cnt - h.cnt) ≤ R.cells ∧ slots + (rh.sl - h.sl) ≤ R.slots := ⟨by omega, by omega⟩
  have hw8' := Nat.le_trans (wsum_cat _ _ hrr) hw8
  refine call_back3 hR.1 hrr hR.2.2.1 hR.2.2.2.1 hA hR.2.2.2.2.1 hR.2.2.2.2.2 hx1 ek (va_runS (As := P.reverse) (rest := vv) ⟨hx, hb, hml, hown, hts⟩ M (va_cwS n hts (wa_good (wa_app (wa_3 w1 w2 w3) w4)) rfl rfl rfl hy ⟨by show rFc + 1 ≤ R.frames; omega, by show 8 + (maxLc + 11) + rLc ≤ R.locals; omega⟩) ⟨pre_blind, fun U hU hW => ⟨rfl, pre_of hR.1 hR.2.2.2.1 hA hSt hX hNe hU hW⟩⟩ rfl (by simp [hPn]) hR.2.2.1.1.1 (by simp) (lv_room hw8') hd hf2) (fun s' h' e3 e4 φ' cA' tys' sv' H' locs' cells' slots' g1 g2 => ?_)
  subst e4
  exact kk b lo s' _ _ e3 hx1 hb1 φ' cA' tys' ls sv' H' locs' cells' slots' g1 g2
theorem sndQ_csN {host : String} (hb1 : pcs[b]? = some (pc + 3)) (hf : mtab[f]? = some (y, Cond.code y bytes maxLc retc, rFc, rLc, kdc)) (w4 : Cond.code y bytes maxLc retc ∈ wa) (w1 : (own, index, y, host) ∈ wN2) (w2 : Cond.static y ∈ wa) (w3 : Cond.initialized y.cls ∈ wa) (hy :  y.cls ≠ "java/lang/invoke/MethodHandle" ∧ y.cls ≠ "java/lang/invoke/VarHandle" ∧ (parseMethodDescriptor y.desc).map (fun d => d.parameters.length) = some n) (qF : rFc + 1 ≤ rF) (qL : 8 + (maxLc + 11) + rLc ≤ rL) (hd : decode cc pc = .ok (.invokestatic index, 3)) : sndQ mtab own cc nL ini pcs rF rL pc (t_cs f n kdc b) := by
  intro p l e R s m args below meth c D fz X A φ0 h0 r Q C hlk hrF hrL lo st h Xf Cf ei hX hcc hcs hm hmC hC hC9 φ cA tys ls sv H locs cells slots hφ hR kk
  obtain ⟨hx, hb, hml, hown, hts, hini, hA, hSt, hNe⟩ := C
  obtain ⟨as, rr, P, vv, ek, rfl, hPn, has, hrr⟩ := margs_inv n [] st _ r [] sv ei rfl hR.2.1
  obtain ⟨hw8, ek⟩ := mfit_inv ek
  obtain ⟨r1, hr1⟩ := mback_some ek
  rw [hr1] at ek
  have has : rst fz φ h as P.reverse := by simpa using has
  have M := hC f as h r1 _ hr1 hf D fz φ cA tys P.reverse H.size has
  have hx1 := hmC _ _ _ _ hr1
  obtain ⟨rv, rh⟩ := r1
  obtain ⟨s2, e2⟩ := mback_heap ek
  obtain ⟨x1, x2, -⟩ := hm _ _ _ _ e2
  have y1 := hx1.1
  have y2 := hx1.2.1
  have z1 := hR.2.2.2.2.1
  have z2 := hR.2.2.2.2.2
  dsimp only at y1 y2
  have hf2 : cells + (rh.cnt - h.cnt) ≤ R.cells ∧ slots + (rh.sl - h.sl) ≤ R.slots := ⟨by omega, by omega⟩
  have hw8' := Nat.le_trans (wsum_cat _ _ hrr) hw8
  refine call_back3 hR.1 hrr hR.2.2.1 hR.2.2.2.1 hA hR.2.2.2.2.1 hR.2.2.2.2.2 hx1 ek (va_runSN (host := host) (As := P.reverse) (rest := vv) ⟨hx, hb, hml, hown, hts⟩ M ⟨va_cnB n hts (wa_good (wa_app (ws := []) (fun _ h => by cases h) w4)) rfl rfl rfl (hNe.2.1 _ w1) (hts _ w3) hy ⟨by show rFc + 1 ≤ R.frames; omega, by show 8 + (maxLc + 11) + rLc ≤ R.locals; omega⟩, hts _ w2, trivial⟩ ⟨pre_blind, fun U hU hW => ⟨rfl, pre_of hR.1 hR.2.2.2.1 hA hSt hX hNe hU hW⟩⟩ rfl (by simp [hPn]) hR.2.2.1.1.1 (by simp) (lv_room hw8') hd hf2) (fun s' h' e3 e4 φ' cA' tys' sv' H' locs' cells' slots' g1 g2 => ?_)
  subst e4
  exact kk b lo s' _ _ e3 hx1 hb1 φ' cA' tys' ls sv' H' locs' cells' slots' g1 g2
theorem sndQ_cv {ci N : Nat} {C : String} {T : u_T} (hcl : clX[ci]? = some (C, T, N)) (hci : ci < 13) (hb1 : pcs[b]? = some (pc + 3)) (hf : mtab[f]? = some (y, Cond.code y bytes maxLc retc, rFc, rLc, kdc)) (w4 : Cond.code y bytes maxLc retc ∈ wa) (w1 : Cond.methodLink own index y ∈ wa) (w2 : Cond.instanceMethod y ∈ wa) (w5 : Cond.selects C y y ∈ wa) (w3 : Cond.initialized C ∈ wa) (hy : y.cls = C ∧ y.cls ≠ "java/lang/invoke/MethodHandle" ∧ y.cls ≠ "java/lang/invoke/VarHandle" ∧ (parseMethodDescriptor y.desc).map (fun d => d.parameters.length) = some n) (qF : rFc + 1 ≤ rF) (qL : 8 + (maxLc + 11) + rLc ≤ rL) (hd : decode cc pc = .ok (.invokevirtual index, 3)) : sndQ mtab own cc nL ini pcs rF rL pc (t_cv ci f n kdc b) := by
  intro p l e R s m args below meth c D fz X A φ0 h0 r Q C hlk hrF hrL lo st h Xf Cf ei hX hcc hcs hm hmC hC hC9 φ cA tys ls sv H locs cells slots hφ hR kk
  obtain ⟨hx, hb, hml, hown, hts, hini, hA, hSt, hNe⟩ := C
  obtain ⟨as, r0, P, vv0, ek, rfl, hPn, has, hrr0⟩ := margs_inv n [] st _ r [] sv ei rfl hR.2.1
  obtain ⟨a, rr, hst, hw8, ek⟩ := cvk_inv ek
  obtain ⟨vv, rfl, ⟨a1, a2, a3⟩, hrr⟩ := obj_of hst hrr0
  have hg := wsX_get φ cA a1 a2
  rw [cel_obj a3 (by omega)] at hg
  obtain ⟨r1, hr1⟩ := mback_some ek
  rw [hr1] at ek
  have has : rst fz φ h (vO ci a :: as) (.ref (φ a) :: P.reverse) := ⟨_, _, rfl, ⟨⟨a1, a2, a3⟩, rfl⟩, by simpa using has⟩
  have M := hC f _ h r1 _ hr1 hf D fz φ cA tys (.ref (φ a) :: P.reverse) H.size has
  have hx1 := hmC _ _ _ _ hr1
  obtain ⟨rv, rh⟩ := r1
  obtain ⟨s2, e2⟩ := mback_heap ek
  obtain ⟨x1, x2, -⟩ := hm _ _ _ _ e2
  have y1 := hx1.1
  have y2 := hx1.2.1
  have z1 := hR.2.2.2.2.1
  have z2 := hR.2.2.2.2.2
  dsimp only at y1 y2
  have hf2 : cells + (rh.cnt - h.cnt) ≤ R.cells ∧ slots + (rh.sl - h.sl) ≤ R.slots := ⟨by omega, by omega⟩
  have hw8' := Nat.le_trans (wsum_cat _ _ hrr) hw8
  refine call_back3 hR.1 hrr hR.2.2.1 hR.2.2.2.1 hA hR.2.2.2.2.1 hR.2.2.2.2.2 hx1 ek (va_runV (As := P.reverse) (rest := vv) ⟨hx, hb, hml, hown, hts⟩ M (cwV n hts (wa_good (wa_app (wa_4 w1 w2 w5 w3) w4)) rfl rfl rfl hy ⟨by show rFc + 1 ≤ R.frames; omega, by show 8 + (maxLc + 11) + rLc ≤ R.locals; omega⟩) ⟨pre_blind, va_recv hR.1.2.2.1 hR.1.1 hcl hg, fun U hU hW => ⟨rfl, pre_of hR.1 hR.2.2.2.1 hA hSt hX hNe hU hW⟩⟩ rfl (by simp [hPn]) hR.2.2.1.1.1 (by simp) (lv_room hw8') hd hf2) (fun s' h' e3 e4 φ' cA' tys' sv' H' locs' cells' slots' g1 g2 => ?_)
  subst e4
  exact kk b lo s' _ _ e3 hx1 hb1 φ' cA' tys' ls sv' H' locs' cells' slots' g1 g2
theorem sndQ_cvN {host : String} {ci N : Nat} {C : String} {T : u_T} (hcl : clX[ci]? = some (C, T, N)) (hci : ci < 13) (hb1 : pcs[b]? = some (pc + 3)) (hf : mtab[f]? = some (y, Cond.code y bytes maxLc retc, rFc, rLc, kdc)) (w4 : Cond.code y bytes maxLc retc ∈ wa) (w1 : (own, index, y, host) ∈ wN2) (w2 : Cond.instanceMethod y ∈ wa) (w5 : Cond.selects C y y ∈ wa) (w3 : Cond.initialized y.cls ∈ wa) (hy :  y.cls ≠ "java/lang/invoke/MethodHandle" ∧ y.cls ≠ "java/lang/invoke/VarHandle" ∧ (parseMethodDescriptor y.desc).map (fun d => d.parameters.length) = some n) (qF : rFc + 1 ≤ rF) (qL : 8 + (maxLc + 11) + rLc ≤ rL) (hd : decode cc pc = .ok (.invokevirtual index, 3)) : sndQ mtab own cc nL ini pcs rF rL pc (t_cv ci f n kdc b) := by
  intro p l e R s m args below meth c D fz X A φ0 h0 r Q C hlk hrF hrL lo st h Xf Cf ei hX hcc hcs hm hmC hC hC9 φ cA tys ls sv H locs cells slots hφ hR kk
  obtain ⟨hx, hb, hml, hown, hts, hini, hA, hSt, hNe⟩ := C
  obtain ⟨as, r0, P, vv0, ek, rfl, hPn, has, hrr0⟩ := margs_inv n [] st _ r [] sv ei rfl hR.2.1
  obtain ⟨a, rr, hst, hw8, ek⟩ := cvk_inv ek
  obtain ⟨vv, rfl, ⟨a1, a2, a3⟩, hrr⟩ := obj_of hst hrr0
  have hg := wsX_get φ cA a1 a2
  rw [cel_obj a3 (by omega)] at hg
  obtain ⟨r1, hr1⟩ := mback_some ek
  rw [hr1] at ek
  have has : rst fz φ h (vO ci a :: as) (.ref (φ a) :: P.reverse) := ⟨_, _, rfl, ⟨⟨a1, a2, a3⟩, rfl⟩, by simpa using has⟩
  have M := hC f _ h r1 _ hr1 hf D fz φ cA tys (.ref (φ a) :: P.reverse) H.size has
  have hx1 := hmC _ _ _ _ hr1
  obtain ⟨rv, rh⟩ := r1
  obtain ⟨s2, e2⟩ := mback_heap ek
  obtain ⟨x1, x2, -⟩ := hm _ _ _ _ e2
  have y1 := hx1.1
  have y2 := hx1.2.1
  have z1 := hR.2.2.2.2.1
  have z2 := hR.2.2.2.2.2
  dsimp only at y1 y2
  have hf2 : cells + (rh.cnt - h.cnt) ≤ R.cells ∧ slots + (rh.sl - h.sl) ≤ R.slots := ⟨by omega, by omega⟩
  have hw8' := Nat.le_trans (wsum_cat _ _ hrr) hw8
  refine call_back3 hR.1 hrr hR.2.2.1 hR.2.2.2.1 hA hR.2.2.2.2.1 hR.2.2.2.2.2 hx1 ek (va_runVN (host := host) (As := P.reverse) (rest := vv) ⟨hx, hb, hml, hown, hts⟩ M ⟨va_cnB n hts (wa_good (wa_app (ws := []) (fun _ h => by cases h) w4)) rfl rfl rfl (hNe.2.1 _ w1) (hts _ w3) hy ⟨by show rFc + 1 ≤ R.frames; omega, by show 8 + (maxLc + 11) + rLc ≤ R.locals; omega⟩, hts _ w2, hts _ w5⟩ ⟨pre_blind, va_recv hR.1.2.2.1 hR.1.1 hcl hg, fun U hU hW => ⟨rfl, pre_of hR.1 hR.2.2.2.1 hA hSt hX hNe hU hW⟩⟩ rfl (by simp [hPn]) hR.2.2.1.1.1 (by simp) (lv_room hw8') hd hf2) (fun s' h' e3 e4 φ' cA' tys' sv' H' locs' cells' slots' g1 g2 => ?_)
  subst e4
  exact kk b lo s' _ _ e3 hx1 hb1 φ' cA' tys' ls sv' H' locs' cells' slots' g1 g2
theorem sndQ_ci {ci N : Nat} {C : String} {T : u_T} (hcl : clX[ci]? = some (C, T, N)) (hci : ci < 13) (hb1 : pcs[b]? = some (pc + 3)) (hf : mtab[f]? = some (y, Cond.code y bytes maxLc none, rFc, rLc, kdc)) (w4 : Cond.code y bytes maxLc none ∈ wa) (w1 : Cond.methodLink own index y ∈ wa) (w2 : Cond.instanceMethod y ∈ wa) (w3 : Cond.initialized y.cls ∈ wa) (hy1 : y.name = "<init>") (hy :  y.cls ≠ "java/lang/invoke/MethodHandle" ∧ y.cls ≠ "java/lang/invoke/VarHandle" ∧ (parseMethodDescriptor y.desc).map (fun d => d.parameters.length) = some n) (qF : rFc + 1 ≤ rF) (qL : 8 + (maxLc + 11) + rLc ≤ rL) (hd : decode cc pc = .ok (.invokespecial index, 3)) : sndQ mtab own cc nL ini pcs rF rL pc (t_cv ci f n kdc b) := by
  intro p l e R s m args below meth c D fz X A φ0 h0 r Q C hlk hrF hrL lo st h Xf Cf ei hX hcc hcs hm hmC hC hC9 φ cA tys ls sv H locs cells slots hφ hR kk
  obtain ⟨hx, hb, hml, hown, hts, hini, hA, hSt, hNe⟩ := C
  obtain ⟨as, r0, P, vv0, ek, rfl, hPn, has, hrr0⟩ := margs_inv n [] st _ r [] sv ei rfl hR.2.1
  obtain ⟨a, rr, hst, hw8, ek⟩ := cvk_inv ek
  obtain ⟨vv, rfl, ⟨a1, a2, a3⟩, hrr⟩ := obj_of hst hrr0
  have hg := wsX_get φ cA a1 a2
  rw [cel_obj a3 (by omega)] at hg
  obtain ⟨r1, hr1⟩ := mback_some ek
  rw [hr1] at ek
  have has : rst fz φ h (vO ci a :: as) (.ref (φ a) :: P.reverse) := ⟨_, _, rfl, ⟨⟨a1, a2, a3⟩, rfl⟩, by simpa using has⟩
  have M := hC f _ h r1 _ hr1 hf D fz φ cA tys (.ref (φ a) :: P.reverse) H.size has
  have hx1 := hmC _ _ _ _ hr1
  obtain ⟨rv, rh⟩ := r1
  obtain ⟨s2, e2⟩ := mback_heap ek
  obtain ⟨x1, x2, -⟩ := hm _ _ _ _ e2
  have y1 := hx1.1
  have y2 := hx1.2.1
  have z1 := hR.2.2.2.2.1
  have z2 := hR.2.2.2.2.2
  dsimp only at y1 y2
  have hf2 : cells + (rh.cnt - h.cnt) ≤ R.cells ∧ slots + (rh.sl - h.sl) ≤ R.slots := ⟨by omega, by omega⟩
  have hw8' := Nat.le_trans (wsum_cat _ _ hrr) hw8
  refine call_back3 hR.1 hrr hR.2.2.1 hR.2.2.2.1 hA hR.2.2.2.2.1 hR.2.2.2.2.2 hx1 ek (va_runI (As := P.reverse) (rest := vv) ⟨hx, hb, hml, hown, hts⟩ M (cwI n hts (wa_good (wa_app (ws := []) (fun _ h => by cases h) w4)) rfl rfl rfl (hts _ w3) (hts _ w1) (hts _ w2) hy1 hy ⟨by show rFc + 1 ≤ R.frames; omega, by show 8 + (maxLc + 11) + rLc ≤ R.locals; omega⟩) ⟨pre_blind, fun U hU hW => ⟨rfl, pre_of hR.1 hR.2.2.2.1 hA hSt hX hNe hU hW⟩⟩ rfl (by simp [hPn]) hR.2.2.1.1.1 (by simp) (lv_room hw8') hd hf2) (fun s' h' e3 e4 φ' cA' tys' sv' H' locs' cells' slots' g1 g2 => ?_)
  subst e4
  exact kk b lo s' _ _ e3 hx1 hb1 φ' cA' tys' ls sv' H' locs' cells' slots' g1 g2
theorem sndQ_ciN {host : String} {ci N : Nat} {C : String} {T : u_T} (hcl : clX[ci]? = some (C, T, N)) (hci : ci < 13) (hb1 : pcs[b]? = some (pc + 3)) (hf : mtab[f]? = some (y, Cond.code y bytes maxLc none, rFc, rLc, kdc)) (w4 : Cond.code y bytes maxLc none ∈ wa) (w1 : (own, index, y, host) ∈ wN2) (w2 : Cond.instanceMethod y ∈ wa) (w3 : Cond.initialized y.cls ∈ wa) (hy1 : y.name = "<init>") (hy :  y.cls ≠ "java/lang/invoke/MethodHandle" ∧ y.cls ≠ "java/lang/invoke/VarHandle" ∧ (parseMethodDescriptor y.desc).map (fun d => d.parameters.length) = some n) (qF : rFc + 1 ≤ rF) (qL : 8 + (maxLc + 11) + rLc ≤ rL) (hd : decode cc pc = .ok (.invokespecial index, 3)) : sndQ mtab own cc nL ini pcs rF rL pc (t_cv ci f n kdc b) := by
  intro p l e R s m args below meth c D fz X A φ0 h0 r Q C hlk hrF hrL lo st h Xf Cf ei hX hcc hcs hm hmC hC hC9 φ cA tys ls sv H locs cells slots hφ hR kk
  obtain ⟨hx, hb, hml, hown, hts, hini, hA, hSt, hNe⟩ := C
  obtain ⟨as, r0, P, vv0, ek, rfl, hPn, has, hrr0⟩ := margs_inv n [] st _ r [] sv ei rfl hR.2.1
  obtain ⟨a, rr, hst, hw8, ek⟩ := cvk_inv ek
  obtain ⟨vv, rfl, ⟨a1, a2, a3⟩, hrr⟩ := obj_of hst hrr0
  have hg := wsX_get φ cA a1 a2
  rw [cel_obj a3 (by omega)] at hg
  obtain ⟨r1, hr1⟩ := mback_some ek
  rw [hr1] at ek
  have has : rst fz φ h (vO ci a :: as) (.ref (φ a) :: P.reverse) := ⟨_, _, rfl, ⟨⟨a1, a2, a3⟩, rfl⟩, by simpa using has⟩
  have M := hC f _ h r1 _ hr1 hf D fz φ cA tys (.ref (φ a) :: P.reverse) H.size has
  have hx1 := hmC _ _ _ _ hr1
  obtain ⟨rv, rh⟩ := r1
  obtain ⟨s2, e2⟩ := mback_heap ek
  obtain ⟨x1, x2, -⟩ := hm _ _ _ _ e2
  have y1 := hx1.1
  have y2 := hx1.2.1
  have z1 := hR.2.2.2.2.1
  have z2 := hR.2.2.2.2.2
  dsimp only at y1 y2
  have hf2 : cells + (rh.cnt - h.cnt) ≤ R.cells ∧ slots + (rh.sl - h.sl) ≤ R.slots := ⟨by omega, by omega⟩
  have hw8' := Nat.le_trans (wsum_cat _ _ hrr) hw8
  refine call_back3 hR.1 hrr hR.2.2.1 hR.2.2.2.1 hA hR.2.2.2.2.1 hR.2.2.2.2.2 hx1 ek (va_runIN (host := host) (As := P.reverse) (rest := vv) ⟨hx, hb, hml, hown, hts⟩ M ⟨va_cnB n hts (wa_good (wa_app (ws := []) (fun _ h => by cases h) w4)) rfl rfl rfl (hNe.2.1 _ w1) (hts _ w3) hy ⟨by show rFc + 1 ≤ R.frames; omega, by show 8 + (maxLc + 11) + rLc ≤ R.locals; omega⟩, hy1, hts _ w2⟩ ⟨pre_blind, fun U hU hW => ⟨rfl, pre_of hR.1 hR.2.2.2.1 hA hSt hX hNe hU hW⟩⟩ rfl (by simp [hPn]) hR.2.2.1.1.1 (by simp) (lv_room hw8') hd hf2) (fun s' h' e3 e4 φ' cA' tys' sv' H' locs' cells' slots' g1 g2 => ?_)
  subst e4
  exact kk b lo s' _ _ e3 hx1 hb1 φ' cA' tys' ls sv' H' locs' cells' slots' g1 g2
end CALLS
