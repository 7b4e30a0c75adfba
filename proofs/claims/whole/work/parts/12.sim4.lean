/-! THE TIE, 5: stores into locals; fields; arrays; makings -/
theorem mput_len (l : List mV) (i : Nat) (v : mV) : (mput l i v).length = l.length := by
  induction l generalizing i with
  | nil => rfl
  | cons a r ih =>
    cases i with
    | zero => rfl
    | succ i => simp [mput, ih i]
theorem rvl_nU {fz : Nat → Nat} {φ : Int → Nat} {h : mH} {v : mV} {w : Value} (q : rvl fz φ h v w) : isU v = false := by
  unfold rvl at q
  split at q
  all_goals first | rfl | exact q.elim
theorem rlo_st1 {fz : Nat → Nat} {φ : Int → Nat} {h : mH} {l : List mV} {ls : Array Slot} {nL i : Nat} {v : mV} {w : Value} (q : rlo fz φ h l ls nL) (hi : i < nL) (hv : rvl fz φ h v w) (hl : isLong v = false) :
    ∃ ls', storeLocals ls i w = some ls' ∧ rlo fz φ h (mput l i v) ls' nL := by
  have hc := rvl_cat hv hl
  obtain ⟨ls', e1, h1⟩ := lv_store1 (l := []) (v := w) ⟨q.1.1, q.2.1, fun _ h => by cases h⟩ hi hc
  have hlen : i < l.length := by rw [q.1.2]; exact hi
  refine ⟨ls', e1, ⟨h1.1, by rw [mput_len]; exact q.1.2⟩, h1.2.1, fun j => ?_⟩
  by_cases hj : j = i
  · subst hj
    refine Or.inr (Or.inr ⟨w, ?_, ?_⟩)
    · rw [mgp_s l j v hlen]; exact hv
    · exact h1.2.2 (j, w) List.mem_cons_self
  · rw [mgp_n l i j v hj]
    rcases q.2.2 j with a | ⟨a, b⟩ | ⟨x, a, b⟩
    · exact Or.inl a
    · refine Or.inr (Or.inl ⟨a, ?_⟩)
      by_cases hj1 : j + 1 = i
      · rw [hj1, mgp_s l i v hlen]; exact rvl_nU hv
      · rw [mgp_n l i _ v hj1]; exact b
    · by_cases hj1 : j + 1 = i ∧ x.category = 2
      · refine Or.inr (Or.inl ⟨rvl_cat2 a hj1.2, ?_⟩)
        rw [hj1.1, mgp_s l i v hlen]; exact rvl_nU hv
      · refine Or.inr (Or.inr ⟨x, a, ?_⟩)
        obtain ⟨ls2, e2, h2⟩ := lv_store1 (l := [(j, x)]) (v := w) ⟨q.1.1, q.2.1, fun y hy => by rw [List.mem_singleton] at hy; subst hy; exact b⟩ hi hc
        rw [e1] at e2
        cases e2
        refine h2.2.2 (j, x) (List.mem_cons_of_mem _ (List.mem_filter.mpr ⟨List.mem_singleton.mpr rfl, ?_⟩))
        simp only [Bool.and_eq_true, Bool.not_eq_true', beq_eq_false_iff_ne, Bool.and_eq_false_iff, ne_eq]
        refine ⟨hj, ?_⟩
        by_cases hj2 : j + 1 = i
        · exact Or.inr (fun z => hj1 ⟨hj2, z⟩)
        · exact Or.inl hj2
theorem rlo_st2 {fz : Nat → Nat} {φ : Int → Nat} {h : mH} {l : List mV} {ls : Array Slot} {nL i : Nat} {z : Int} (q : rlo fz φ h l ls nL) (hi : i + 1 < nL) (hz : inL z) :
    ∃ ls', storeLocals ls i (.long (Int64.ofInt z)) = some ls' ∧ rlo fz φ h (mput (mput l i (vL z)) (i + 1) vU) ls' nL := by
  obtain ⟨ls', e1, h1⟩ := lv_store2 (l := []) (v := .long (Int64.ofInt z)) ⟨q.1.1, q.2.1, fun _ h => by cases h⟩ hi rfl
  have hlen : i + 1 < l.length := by rw [q.1.2]; exact hi
  refine ⟨ls', e1, ⟨h1.1, by rw [mput_len, mput_len]; exact q.1.2⟩, h1.2.1, fun j => ?_⟩
  by_cases hj : j = i
  · subst hj
    refine Or.inr (Or.inr ⟨.long (Int64.ofInt z), ?_, ?_⟩)
    · rw [mgp_n _ _ _ _ (by omega), mgp_s l j _ (by omega)]; exact ⟨hz, rfl⟩
    · exact h1.2.2 (j, _) List.mem_cons_self
  · by_cases hj0 : j = i + 1
    · subst hj0
      exact Or.inl ⟨(), mgp_s _ _ _ (by rw [mput_len]; exact hlen)⟩
    · rw [mgp_n _ _ j _ hj0, mgp_n l i j _ hj]
      rcases q.2.2 j with a | ⟨a, b⟩ | ⟨x, a, b⟩
      · exact Or.inl a
      · refine Or.inr (Or.inl ⟨a, ?_⟩)
        by_cases hj1 : j + 1 = i
        · rw [hj1, mgp_n _ _ _ _ (by omega), mgp_s l i _ (by omega)]; rfl
        · rw [mgp_n _ _ _ _ (by omega), mgp_n l i _ _ hj1]; exact b
      · by_cases hj1 : j + 1 = i ∧ x.category = 2
        · refine Or.inr (Or.inl ⟨rvl_cat2 a hj1.2, ?_⟩)
          rw [hj1.1, mgp_n _ _ _ _ (by omega), mgp_s l i _ (by omega)]; rfl
        · refine Or.inr (Or.inr ⟨x, a, ?_⟩)
          obtain ⟨ls2, e2, h2⟩ := lv_store2 (l := [(j, x)]) (v := .long (Int64.ofInt z)) ⟨q.1.1, q.2.1, fun y hy => by rw [List.mem_singleton] at hy; subst hy; exact b⟩ hi rfl
          rw [e1] at e2
          cases e2
          refine h2.2.2 (j, x) (List.mem_cons_of_mem _ (List.mem_filter.mpr ⟨List.mem_singleton.mpr rfl, ?_⟩))
          simp only [Bool.and_eq_true, Bool.not_eq_true', beq_eq_false_iff_ne, Bool.and_eq_false_iff, ne_eq]
          refine ⟨hj, hj0, ?_⟩
          by_cases hj2 : j + 1 = i
          · exact Or.inr (fun z => hj1 ⟨hj2, z⟩)
          · exact Or.inl hj2
section WST
variable {p : Program} {l : Launch} {e : Env} {R : Room} {s : State} {m : MethodId} {args : Array Value} {below : List Frame} {meth : Method} {c : Code} {H : Heap} {locs : List Loc} {cells slots : Nat} {Q : State → Prop} {cc : ByteArray} {pc : Nat} {ls ls' : Array Slot} {rest : List Value}
theorem W_istore_n (hexec : p.tables.exec = Jvm.exec) (hb : c.code = cc) {j : Fin 4} {x : Int32} (hdg : decode cc pc = .ok (.istore_n j, 1)) (e' : storeLocals ls (j : Nat) (.int x) = some ls')
    (kk : W p l e R s m args below meth c H locs cells slots Q (F0 m (pc + 1) ls' rest)) : W p l e R s m args below meth c H locs cells slots Q (F0 m pc ls (.int x :: rest)) := by
  intro T hT X
  obtain ⟨t, a, b⟩ := kk T hT X
  refine ⟨t, ?_, b⟩
  jvm_step X.here [X.here.top, ↓top_set X.here.top, hexec, hb, hdg, e']
  exact a
theorem W_istore (hexec : p.tables.exec = Jvm.exec) (hb : c.code = cc) {i : Nat} {x : Int32} (hdg : decode cc pc = .ok (.istore i, 2)) (e' : storeLocals ls i (.int x) = some ls')
    (kk : W p l e R s m args below meth c H locs cells slots Q (F0 m (pc + 2) ls' rest)) : W p l e R s m args below meth c H locs cells slots Q (F0 m pc ls (.int x :: rest)) := by
  intro T hT X
  obtain ⟨t, a, b⟩ := kk T hT X
  refine ⟨t, ?_, b⟩
  jvm_step X.here [X.here.top, ↓top_set X.here.top, hexec, hb, hdg, e']
  exact a
theorem W_lstore_n (hexec : p.tables.exec = Jvm.exec) (hb : c.code = cc) {j : Fin 4} {x : Int64} (hdg : decode cc pc = .ok (.lstore_n j, 1)) (e' : storeLocals ls (j : Nat) (.long x) = some ls')
    (kk : W p l e R s m args below meth c H locs cells slots Q (F0 m (pc + 1) ls' rest)) : W p l e R s m args below meth c H locs cells slots Q (F0 m pc ls (.long x :: rest)) := by
  intro T hT X
  obtain ⟨t, a, b⟩ := kk T hT X
  refine ⟨t, ?_, b⟩
  jvm_step X.here [X.here.top, ↓top_set X.here.top, hexec, hb, hdg, e']
  exact a
theorem W_lstore (hexec : p.tables.exec = Jvm.exec) (hb : c.code = cc) {i : Nat} {x : Int64} (hdg : decode cc pc = .ok (.lstore i, 2)) (e' : storeLocals ls i (.long x) = some ls')
    (kk : W p l e R s m args below meth c H locs cells slots Q (F0 m (pc + 2) ls' rest)) : W p l e R s m args below meth c H locs cells slots Q (F0 m pc ls (.long x :: rest)) := by
  intro T hT X
  obtain ⟨t, a, b⟩ := kk T hT X
  refine ⟨t, ?_, b⟩
  jvm_step X.here [X.here.top, ↓top_set X.here.top, hexec, hb, hdg, e']
  exact a
theorem W_astore_n (hexec : p.tables.exec = Jvm.exec) (hb : c.code = cc) {j : Fin 4} {x : Nat} (hdg : decode cc pc = .ok (.astore_n j, 1)) (e' : storeLocals ls (j : Nat) (.ref x) = some ls')
    (kk : W p l e R s m args below meth c H locs cells slots Q (F0 m (pc + 1) ls' rest)) : W p l e R s m args below meth c H locs cells slots Q (F0 m pc ls (.ref x :: rest)) := by
  intro T hT X
  obtain ⟨t, a, b⟩ := kk T hT X
  refine ⟨t, ?_, b⟩
  jvm_step X.here [X.here.top, ↓top_set X.here.top, hexec, hb, hdg, e', Value.isRef]
  exact a
theorem W_astore (hexec : p.tables.exec = Jvm.exec) (hb : c.code = cc) {i : Nat} {x : Nat} (hdg : decode cc pc = .ok (.astore i, 2)) (e' : storeLocals ls i (.ref x) = some ls')
    (kk : W p l e R s m args below meth c H locs cells slots Q (F0 m (pc + 2) ls' rest)) : W p l e R s m args below meth c H locs cells slots Q (F0 m pc ls (.ref x :: rest)) := by
  intro T hT X
  obtain ⟨t, a, b⟩ := kk T hT X
  refine ⟨t, ?_, b⟩
  jvm_step X.here [X.here.top, ↓top_set X.here.top, hexec, hb, hdg, e', Value.isRef]
  exact a
theorem W_astore_nN (hexec : p.tables.exec = Jvm.exec) (hb : c.code = cc) {j : Fin 4} (hdg : decode cc pc = .ok (.astore_n j, 1)) (e' : storeLocals ls (j : Nat) (.null) = some ls')
    (kk : W p l e R s m args below meth c H locs cells slots Q (F0 m (pc + 1) ls' rest)) : W p l e R s m args below meth c H locs cells slots Q (F0 m pc ls (.null :: rest)) := by
  intro T hT X
  obtain ⟨t, a, b⟩ := kk T hT X
  refine ⟨t, ?_, b⟩
  jvm_step X.here [X.here.top, ↓top_set X.here.top, hexec, hb, hdg, e', Value.isRef]
  exact a
theorem W_astoreN (hexec : p.tables.exec = Jvm.exec) (hb : c.code = cc) {i : Nat} (hdg : decode cc pc = .ok (.astore i, 2)) (e' : storeLocals ls i (.null) = some ls')
    (kk : W p l e R s m args below meth c H locs cells slots Q (F0 m (pc + 2) ls' rest)) : W p l e R s m args below meth c H locs cells slots Q (F0 m pc ls (.null :: rest)) := by
  intro T hT X
  obtain ⟨t, a, b⟩ := kk T hT X
  refine ⟨t, ?_, b⟩
  jvm_step X.here [X.here.top, ↓top_set X.here.top, hexec, hb, hdg, e', Value.isRef]
  exact a
theorem W_iinc (hexec : p.tables.exec = Jvm.exec) (hb : c.code = cc) {i : Nat} {n : Int} {x : Int32} (hdg : decode cc pc = .ok (.iinc i n, 3)) (hg : ls[i]? = some (.val (.int x))) (e' : storeLocals ls i (.int (x + Int32.ofInt n)) = some ls')
    (kk : W p l e R s m args below meth c H locs cells slots Q (F0 m (pc + 3) ls' rest)) : W p l e R s m args below meth c H locs cells slots Q (F0 m pc ls rest) := by
  intro T hT X
  obtain ⟨t, a, b⟩ := kk T hT X
  refine ⟨t, ?_, b⟩
  jvm_step X.here [X.here.top, ↓top_set X.here.top, hexec, hb, hdg, hg, e']
  exact a
end WST
section ROWS2
variable {own : String} {cc : ByteArray} {nL : Nat} {ini : Bool} {pc : Nat}
theorem snd_istore_n {j : Fin 4} (hi : (j : Nat) < nL) (hd : decode cc pc = .ok (.istore_n j, 1)) : snd own cc nL ini pc (pc + 1) (s_is (j : Nat)) := by
  intro p l e R s m args below meth c D fz X A Q c0 s0 C lo st h k r ei hX hcc hcs hm φ cA tys ls sv H locs cells slots hR kk
  obtain ⟨hx, hb, hml, hown, hts, hini, hA, hSt, hNe⟩ := C
  obtain ⟨z, rr, rfl, ek⟩ := inv_is ei
  obtain ⟨w1, v1, rfl, ⟨i1, rfl⟩, h3⟩ := hR.2.1
  obtain ⟨ls', e', hL⟩ := rlo_st1 (v := vI z) hR.2.2.1 hi ⟨i1, rfl⟩ rfl
  exact W_istore_n hx hb hd e' (kk _ _ _ ek (mExt.rf h) φ cA tys ls' _ H locs cells slots (fun _ _ => rfl) (hR.loc h3 hL))
theorem snd_istore {i : Nat} (hi : i < nL) (hd : decode cc pc = .ok (.istore i, 2)) : snd own cc nL ini pc (pc + 2) (s_is i) := by
  intro p l e R s m args below meth c D fz X A Q c0 s0 C lo st h k r ei hX hcc hcs hm φ cA tys ls sv H locs cells slots hR kk
  obtain ⟨hx, hb, hml, hown, hts, hini, hA, hSt, hNe⟩ := C
  obtain ⟨z, rr, rfl, ek⟩ := inv_is ei
  obtain ⟨w1, v1, rfl, ⟨i1, rfl⟩, h3⟩ := hR.2.1
  obtain ⟨ls', e', hL⟩ := rlo_st1 (v := vI z) hR.2.2.1 hi ⟨i1, rfl⟩ rfl
  exact W_istore hx hb hd e' (kk _ _ _ ek (mExt.rf h) φ cA tys ls' _ H locs cells slots (fun _ _ => rfl) (hR.loc h3 hL))
theorem snd_lstore_n {j : Fin 4} (hi : (j : Nat) + 1 < nL) (hd : decode cc pc = .ok (.lstore_n j, 1)) : snd own cc nL ini pc (pc + 1) (s_ls (j : Nat)) := by
  intro p l e R s m args below meth c D fz X A Q c0 s0 C lo st h k r ei hX hcc hcs hm φ cA tys ls sv H locs cells slots hR kk
  obtain ⟨hx, hb, hml, hown, hts, hini, hA, hSt, hNe⟩ := C
  obtain ⟨z, rr, rfl, ek⟩ := inv_ls ei
  obtain ⟨w1, v1, rfl, ⟨i1, rfl⟩, h3⟩ := hR.2.1
  obtain ⟨ls', e', hL⟩ := rlo_st2 hR.2.2.1 hi i1
  exact W_lstore_n hx hb hd e' (kk _ _ _ ek (mExt.rf h) φ cA tys ls' _ H locs cells slots (fun _ _ => rfl) (hR.loc h3 hL))
theorem snd_lstore {i : Nat} (hi : i + 1 < nL) (hd : decode cc pc = .ok (.lstore i, 2)) : snd own cc nL ini pc (pc + 2) (s_ls i) := by
  intro p l e R s m args below meth c D fz X A Q c0 s0 C lo st h k r ei hX hcc hcs hm φ cA tys ls sv H locs cells slots hR kk
  obtain ⟨hx, hb, hml, hown, hts, hini, hA, hSt, hNe⟩ := C
  obtain ⟨z, rr, rfl, ek⟩ := inv_ls ei
  obtain ⟨w1, v1, rfl, ⟨i1, rfl⟩, h3⟩ := hR.2.1
  obtain ⟨ls', e', hL⟩ := rlo_st2 hR.2.2.1 hi i1
  exact W_lstore hx hb hd e' (kk _ _ _ ek (mExt.rf h) φ cA tys ls' _ H locs cells slots (fun _ _ => rfl) (hR.loc h3 hL))
theorem snd_astore_n {j : Fin 4} (hi : (j : Nat) < nL) (hd : decode cc pc = .ok (.astore_n j, 1)) : snd own cc nL ini pc (pc + 1) (s_as (j : Nat)) := by
  intro p l e R s m args below meth c D fz X A Q c0 s0 C lo st h k r ei hX hcc hcs hm φ cA tys ls sv H locs cells slots hR kk
  obtain ⟨hx, hb, hml, hown, hts, hini, hA, hSt, hNe⟩ := C
  obtain ⟨⟨t, a⟩, rr, hst, ek⟩ := inv_as ei
  have hv : ∃ w1 v1, sv = w1 :: v1 ∧ rvl fz φ h (vR t a) w1 ∧ rst fz φ h rr v1 := by
    rcases hst with rfl | rfl
    · exact hR.2.1
    · obtain ⟨w1, v1, q, ⟨⟨a1, a2, a3⟩, q2⟩, q3⟩ := hR.2.1
      refine ⟨w1, v1, q, ⟨Or.inr ⟨a1, a2, a3⟩, ?_⟩, q3⟩
      rw [q2]
      exact (if_neg (by show ¬ a = 0; have : 1 ≤ a := a1; omega)).symm
  obtain ⟨w1, v1, rfl, hv, h3⟩ := hv
  obtain ⟨ls', e', hL⟩ := rlo_st1 (v := vR t a) hR.2.2.1 hi hv rfl
  have k2 := kk _ _ _ ek (mExt.rf h) φ cA tys ls' _ H locs cells slots (fun _ _ => rfl) (hR.loc h3 hL)
  have hw : w1 = if a = 0 then .null else .ref (φ a) := hv.2
  by_cases ha : a = 0
  · rw [if_pos ha] at hw
    subst hw
    exact W_astore_nN hx hb hd e' k2
  · rw [if_neg ha] at hw
    subst hw
    exact W_astore_n hx hb hd e' k2
theorem snd_astore {i : Nat} (hi : i < nL) (hd : decode cc pc = .ok (.astore i, 2)) : snd own cc nL ini pc (pc + 2) (s_as i) := by
  intro p l e R s m args below meth c D fz X A Q c0 s0 C lo st h k r ei hX hcc hcs hm φ cA tys ls sv H locs cells slots hR kk
  obtain ⟨hx, hb, hml, hown, hts, hini, hA, hSt, hNe⟩ := C
  obtain ⟨⟨t, a⟩, rr, hst, ek⟩ := inv_as ei
  have hv : ∃ w1 v1, sv = w1 :: v1 ∧ rvl fz φ h (vR t a) w1 ∧ rst fz φ h rr v1 := by
    rcases hst with rfl | rfl
    · exact hR.2.1
    · obtain ⟨w1, v1, q, ⟨⟨a1, a2, a3⟩, q2⟩, q3⟩ := hR.2.1
      refine ⟨w1, v1, q, ⟨Or.inr ⟨a1, a2, a3⟩, ?_⟩, q3⟩
      rw [q2]
      exact (if_neg (by show ¬ a = 0; have : 1 ≤ a := a1; omega)).symm
  obtain ⟨w1, v1, rfl, hv, h3⟩ := hv
  obtain ⟨ls', e', hL⟩ := rlo_st1 (v := vR t a) hR.2.2.1 hi hv rfl
  have k2 := kk _ _ _ ek (mExt.rf h) φ cA tys ls' _ H locs cells slots (fun _ _ => rfl) (hR.loc h3 hL)
  have hw : w1 = if a = 0 then .null else .ref (φ a) := hv.2
  by_cases ha : a = 0
  · rw [if_pos ha] at hw
    subst hw
    exact W_astoreN hx hb hd e' k2
  · rw [if_neg ha] at hw
    subst hw
    exact W_astore hx hb hd e' k2
theorem snd_iinc {i : Nat} {n z : Int} (hi : i < nL) (hn : Int32.ofInt n = Int32.ofInt z) (hd : decode cc pc = .ok (.iinc i n, 3)) : snd own cc nL ini pc (pc + 3) (s_inc i z) := by
  intro p l e R s m args below meth c D fz X A Q c0 s0 C lo st h k r ei hX hcc hcs hm φ cA tys ls sv H locs cells slots hR kk
  obtain ⟨hx, hb, hml, hown, hts, hini, hA, hSt, hNe⟩ := C
  obtain ⟨y, hz, ek⟩ := inv_inc ei
  have q := hR.2.2.1.2.2 i
  rw [hz] at q
  rcases q with ⟨u, q⟩ | ⟨q, -⟩ | ⟨w, ⟨q1, rfl⟩, q3⟩
  · cases q
  · cases q
  · have e1 : Int32.ofInt y + Int32.ofInt n = Int32.ofInt (wI (y + z)) := by rw [ofI_w, Int32.ofInt_add, hn]
    obtain ⟨ls', e', hL⟩ := rlo_st1 (v := vI (wI (y + z))) hR.2.2.1 hi ⟨inI_lo _, rfl⟩ rfl
    rw [← e1] at e'
    exact W_iinc hx hb hd q3 e' (kk _ _ _ ek (mExt.rf h) φ cA tys ls' _ H locs cells slots (fun _ _ => rfl) (hR.loc hR.2.1 hL))
theorem snd_wk : snd own cc nL ini pc pc s_wk := by
  intro p l e R s m args below meth c D fz X A Q c0 s0 C lo st h k r ei hX hcc hcs hm φ cA tys ls sv H locs cells slots hR kk
  obtain ⟨hx, hb, hml, hown, hts, hini, hA, hSt, hNe⟩ := C
  obtain ⟨⟨t, a⟩, rr, rfl, ek⟩ := inv_wk ei
  obtain ⟨w1, v1, rfl, ⟨⟨a1, a2, a3⟩, rfl⟩, h3⟩ := hR.2.1
  refine kk _ _ _ ek (mExt.rf h) φ cA tys ls _ H locs cells slots (fun _ _ => rfl) (hR.stk ⟨_, _, rfl, ⟨Or.inr ⟨a1, a2, a3⟩, ?_⟩, h3⟩)
  exact (if_neg (by show ¬ a = 0; have : 1 ≤ a := a1; omega)).symm
end ROWS2
