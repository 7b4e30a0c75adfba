/-! THE TIE, 6: fields, arrays, makings -/
theorem isV_rv {fz : Nat → Nat} {φ : Int → Nat} {h : mH} {kd : Nat} {v : mV} {z : Int} {w : Value} (i : isV kd v z) (q : rvl fz φ h v w) : okv h kd z ∧ w = rvk φ kd z := by
  unfold isV at i
  split at i
  · subst i; exact q
  · subst i; exact q
  · rcases i with rfl | rfl
    · exact q
    · obtain ⟨⟨a1, a2, a3⟩, rfl⟩ := q
      exact ⟨Or.inr ⟨a1, a2, a3⟩, (if_neg (by show ¬ z = 0; have : 1 ≤ z := a1; omega)).symm⟩
theorem mk_rvl {fz : Nat → Nat} {φ : Int → Nat} {h : mH} {kd : Nat} {z : Int} (q : okv h kd z) : rvl fz φ h (mk_v kd z) (rvk φ kd z) := by
  match kd with
  | 0 => exact ⟨q, rfl⟩
  | 1 => exact ⟨q, rfl⟩
  | t + 2 => exact ⟨q, rfl⟩
def cty (kd : Nat) (ty : FieldType) : Prop := match kd with
  | 0 => ty = .int
  | 1 => ty = .long
  | _ => (∃ n, ty = .object n) ∨ ∃ t, ty = .array t
theorem nfit {φ : Int → Nat} {kd : Nat} {ty : FieldType} {z : Int} (h : cty kd ty) : narrow ty (rvk φ kd z) = rvk φ kd z ∧ fits ty (rvk φ kd z) = true := by
  match kd with
  | 0 => have h : ty = .int := h; subst h; exact ⟨rfl, rfl⟩
  | 1 => have h : ty = .long := h; subst h; exact ⟨rfl, rfl⟩
  | t + 2 =>
    show narrow ty (if z = 0 then .null else .ref (φ z)) = (if z = 0 then .null else .ref (φ z)) ∧ fits ty (if z = 0 then .null else .ref (φ z)) = true
    rcases h with ⟨n, rfl⟩ | ⟨n, rfl⟩ <;> (split <;> exact ⟨rfl, rfl⟩)
theorem obj_of {fz : Nat → Nat} {φ : Int → Nat} {h : mH} {ci : Nat} {a : Int} {st rr : List mV} {sv : List Value} (hst : (st = vR ci a :: rr ∧ a ≠ 0) ∨ st = vO ci a :: rr) (q : rst fz φ h st sv) : ∃ v1, sv = .ref (φ a) :: v1 ∧ (1 ≤ a ∧ a ≤ h.cnt ∧ h.T a = ci) ∧ rst fz φ h rr v1 := by
  rcases hst with ⟨rfl, hne⟩ | rfl
  · obtain ⟨w, v1, e1, ⟨o, e2⟩, h3⟩ := q
    rcases o with o | o
    · exact absurd o hne
    · refine ⟨v1, ?_, o, h3⟩
      rw [e1, e2]
      exact congrArg (· :: v1) (if_neg hne)
  · obtain ⟨w, v1, e1, ⟨o, e2⟩, h3⟩ := q
    exact ⟨v1, by rw [e1, e2], o, h3⟩
theorem obj_of2 {fz : Nat → Nat} {φ : Int → Nat} {h : mH} {ci : Nat} {a : Int} {v : mV} {st rr : List mV} {sv : List Value} (hst : (st = v :: vR ci a :: rr ∧ a ≠ 0) ∨ st = v :: vO ci a :: rr) (q : rst fz φ h st sv) : ∃ w v1, sv = w :: .ref (φ a) :: v1 ∧ rvl fz φ h v w ∧ (1 ≤ a ∧ a ≤ h.cnt ∧ h.T a = ci) ∧ rst fz φ h rr v1 := by
  have hc : ∃ st', st = v :: st' ∧ ((st' = vR ci a :: rr ∧ a ≠ 0) ∨ st' = vO ci a :: rr) := by
    rcases hst with ⟨rfl, hne⟩ | rfl
    · exact ⟨_, rfl, Or.inl ⟨rfl, hne⟩⟩
    · exact ⟨_, rfl, Or.inr rfl⟩
  obtain ⟨st', rfl, h2⟩ := hc
  obtain ⟨w, v1, rfl, hv, h3⟩ := q
  obtain ⟨v2, rfl, o, h4⟩ := obj_of h2 h3
  exact ⟨w, v2, rfl, hv, o, h4⟩
theorem set_M_s (h : mH) (a k v : Int) : (h.set a k v).M a k = v := if_pos ⟨rfl, rfl⟩
theorem set_M_k (h : mH) (a k v : Int) {j : Int} (hj : j ≠ k) : (h.set a k v).M a j = h.M a j := if_neg (fun q => hj q.2)
theorem set_M_n (h : mH) (a k v : Int) {b : Int} (hb : b ≠ a) : (h.set a k v).M b = h.M b := by
  funext j
  exact if_neg (fun q => hb q.1)
theorem cel_ne {φ : Int → Nat} {cA : Int → ClassId} {h : mH} {a k z b : Int} (hb : b ≠ a) : cel φ cA (h.set a k z) b = cel φ cA h b := by
  unfold cel
  rw [set_M_n h a k z hb]
  rfl
theorem cel_putf {φ : Int → Nat} {cA : Int → ClassId} {h : mH} {a z : Int} {ci k : Nat} (ht : h.T a = ci) (hl : ci < 100) (hk : k < nfl ci) : cel φ cA (h.set a (k : Int) z) a = .inr (ci, ((List.range (nfl ci)).map fun j => rvk φ (fkd ci j) (h.M a (j : Int))).set k (rvk φ (fkd ci k) z)) := by
  rw [cel_obj (h := h.set a (k : Int) z) ht hl]
  congr 2
  apply List.ext_getElem?
  intro i
  rw [List.getElem?_set]
  by_cases hi : k = i
  · subst hi
    rw [if_pos rfl, if_pos (by simpa using hk), cel_fs hk, set_M_s]
  · rw [if_neg hi]
    by_cases hn : i < nfl ci
    · rw [cel_fs hn, cel_fs hn, set_M_k _ _ _ _ (by omega)]
    · rw [List.getElem?_eq_none (by simpa using hn), List.getElem?_eq_none (by simpa using hn)]
theorem okv_set {h : mH} {a k v : Int} {kd : Nat} {z : Int} (q : okv h kd z) : okv (h.set a k v) kd z := q.up (mExt.st h a k v)
theorem WT_setf {h : mH} {a z : Int} {ci k : Nat} (w : WT h) (ht : h.T a = ci) (hl : ci < 13) (hz : okv h (fkd ci k) z) : WT (h.set a (k : Int) z) := by
  intro b b1 b2
  rcases w b b1 b2 with ⟨q1, q2⟩ | ⟨q1, q2, q3, q4⟩
  · refine Or.inl ⟨q1, fun j hj => okv_set ?_⟩
    show okv h (fkd (h.T b) j) _
    by_cases hba : b = a
    · subst hba
      by_cases hjk : j = k
      · subst hjk
        rw [set_M_s, ht]; exact hz
      · rw [set_M_k _ _ _ _ (by omega)]; exact q2 j hj
    · rw [set_M_n _ _ _ _ hba]; exact q2 j hj
  · refine Or.inr ⟨q1, q2, q3, fun j => okv_set ?_⟩
    show okv h (akd (h.T b)) _
    by_cases hba : b = a
    · subst hba
      unfold okA at q1
      omega
    · rw [set_M_n _ _ _ _ hba]; exact q4 j
theorem WT_seta {h : mH} {a i z : Int} {t : Nat} (w : WT h) (ht : h.T a = t) (hl : 100 ≤ t) (hz : okv h (akd t) z) : WT (h.set a i z) := by
  intro b b1 b2
  rcases w b b1 b2 with ⟨q1, q2⟩ | ⟨q1, q2, q3, q4⟩
  · refine Or.inl ⟨q1, fun j hj => okv_set ?_⟩
    show okv h (fkd (h.T b) j) _
    by_cases hba : b = a
    · subst hba
      omega
    · rw [set_M_n _ _ _ _ hba]; exact q2 j hj
  · refine Or.inr ⟨q1, q2, q3, fun j => okv_set ?_⟩
    show okv h (akd (h.T b)) _
    by_cases hba : b = a
    · subst hba
      by_cases hj : j = i
      · subst hj
        rw [set_M_s, ht]; exact hz
      · rw [set_M_k _ _ _ _ hj]; exact q4 j
    · rw [set_M_n _ _ _ _ hba]; exact q4 j
theorem aco_i {φ : Int → Nat} {t : Nat} {f : Int → Int} (h1 : t ≠ 101) (h2 : t < 200) : aco φ t f = .inl fun j => Int32.ofInt (f (j : Int)) := by
  unfold aco
  rw [if_neg h1, if_pos h2]
theorem aco_l {φ : Int → Nat} {f : Int → Int} : aco φ 101 f = .inr (.inl fun j => Int64.ofInt (f (j : Int))) := rfl
theorem aco_r {φ : Int → Nat} {t : Nat} {f : Int → Int} (h : 200 ≤ t) : aco φ t f = .inr (.inr (.inr (.inr fun j => if f (j : Int) = 0 then none else some (φ (f (j : Int)))))) := by
  unfold aco
  rw [if_neg (by omega), if_neg (by omega)]
theorem arr_of {fz : Nat → Nat} {φ : Int → Nat} {h : mH} {t : Nat} {a : Int} {w : Value} (q : rvl fz φ h (vR t a) w) (hne : a ≠ 0) : w = .ref (φ a) ∧ 1 ≤ a ∧ a ≤ h.cnt ∧ h.T a = t := by
  obtain ⟨o, e2⟩ := q
  rcases o with o | o
  · exact absurd o hne
  · exact ⟨e2.trans (if_neg hne), o⟩
theorem nat_i {i : Int} (h0 : 0 ≤ i) : ((i.toNat : Nat) : Int) = i := Int.toNat_of_nonneg h0
theorem iteP {P : Int → Prop} {c : Prop} [Decidable c] {x y : Int} (a : P x) (b : P y) : P (if c then x else y) := by
  split
  · exact a
  · exact b
theorem fzM_in (j : Nat) (i : Int) : inI (fzM j i) := by
  match j with
  | 0 =>
    show inI (if _ then _ else _)
    repeat' (refine iteP (P := inI) ?_ ?_)
    all_goals (unfold inI; omega)
  | j + 1 =>
    show inI (if _ then _ else _)
    repeat' (refine iteP (P := inI) ?_ ?_)
    all_goals (unfold inI; omega)
section ROWS3
variable {own : String} {cc : ByteArray} {nL : Nat} {ini : Bool} {pc : Nat}
theorem snd_getfield {C : String} {T : u_T} {N ci kf kd index : Nat} {f : Int} (hcl : clX[ci]? = some (C, T, N)) (hin : ∀ w ∈ u_ws C T N, w ∈ wa) (hk : kf < N) (hn : nfl ci = N) (hci : ci < 13) (hf : f = (kf : Int)) (hkd : fkd ci kf = kd) (hdecl : (T kf).1 = C) (hw : Cond.fieldLink own index C (T kf).2.1 (T kf).2.2.1 ∈ wa) (hd : decode cc pc = .ok (.getfield index, 3)) : snd own cc nL ini pc (pc + 3) (s_get ci f kd) := by
  intro p l e R s m args below meth c D fz X A Q c0 s0 C lo st h k r ei hX hcc hcs hm φ cA tys ls sv H locs cells slots hR kk
  obtain ⟨hx, hb, hml, hown, hts, hini, hA, hSt, hNe⟩ := C
  subst hf
  subst hkd
  obtain ⟨a, rr, hst, ek⟩ := inv_get ei
  obtain ⟨v1, rfl, ⟨a1, a2, a3⟩, h3⟩ := obj_of hst hR.2.1
  have hg := wsX_get φ cA a1 a2
  rw [cel_obj a3 (by omega)] at hg
  have hk' : kf < nfl ci := by omega
  exact va_get hx hb hts hin hown hR.1.2.2.1 hR.1.1 _ hg hcl kf hk (hts _ hw) (fun x q => by rw [hdecl] at q; exact q) (cel_fs hk') hd (kk _ _ _ ek (mExt.rf h) φ cA tys ls _ H locs cells slots (fun _ _ => rfl) (hR.stk ⟨_, _, rfl, mk_rvl (hR.1.2.2.2.1.obj a1 a2 a3 (by omega) kf hk'), h3⟩))
theorem snd_getfieldN {host : String} {C : String} {T : u_T} {N ci kf kd index : Nat} {f : Int} (hcl : clX[ci]? = some (C, T, N)) (hin : ∀ w ∈ u_ws C T N, w ∈ wa) (hk : kf < N) (hn : nfl ci = N) (hci : ci < 13) (hf : f = (kf : Int)) (hkd : fkd ci kf = kd) (hdecl : (T kf).1 = C) (hw : (own, index, C, (T kf).2.1, (T kf).2.2.1, host) ∈ wN1) (hd : decode cc pc = .ok (.getfield index, 3)) : snd own cc nL ini pc (pc + 3) (s_get ci f kd) := by
  intro p l e R s m args below meth c D fz X A Q c0 s0 C lo st h k r ei hX hcc hcs hm φ cA tys ls sv H locs cells slots hR kk
  obtain ⟨hx, hb, hml, hown, hts, hini, hA, hSt, hNe⟩ := C
  subst hf
  subst hkd
  obtain ⟨a, rr, hst, ek⟩ := inv_get ei
  obtain ⟨v1, rfl, ⟨a1, a2, a3⟩, h3⟩ := obj_of hst hR.2.1
  have hg := wsX_get φ cA a1 a2
  rw [cel_obj a3 (by omega)] at hg
  have hk' : kf < nfl ci := by omega
  exact va_getN hx hb hts hin hown hR.1.2.2.1 hR.1.1 _ hg hcl kf hk (va_Nw.use rfl (hNe.1 _ hw)) (fun x q => by rw [hdecl] at q; exact q) (cel_fs hk') hd (kk _ _ _ ek (mExt.rf h) φ cA tys ls _ H locs cells slots (fun _ _ => rfl) (hR.stk ⟨_, _, rfl, mk_rvl (hR.1.2.2.2.1.obj a1 a2 a3 (by omega) kf hk'), h3⟩))
theorem snd_putfield {C : String} {T : u_T} {N ci kf kd index : Nat} {f : Int} (hcl : clX[ci]? = some (C, T, N)) (hin : ∀ w ∈ u_ws C T N, w ∈ wa) (hk : kf < N) (hn : nfl ci = N) (hci : ci < 13) (hf : f = (kf : Int)) (hkd : fkd ci kf = kd) (hdecl : (T kf).1 = C) {ty0 : Nat → FieldType} (hty : ∀ k, k < N → parseFieldDescriptor (T k).2.2.1 = some (ty0 k)) (hnm : ∀ a, a < N → ∀ b, b < N → a ≠ b → (T a).2.1 ≠ (T b).2.1) (hcty : cty (fkd ci kf) (ty0 kf)) (hfin : (T kf).2.2.2 = false) (hw : Cond.fieldLink own index C (T kf).2.1 (T kf).2.2.1 ∈ wa) (hd : decode cc pc = .ok (.putfield index, 3)) : snd own cc nL ini pc (pc + 3) (s_put ci f kd) := by
  intro p l e R s m args below meth c D fz X A Q c0 s0 C lo st h k r ei hX hcc hcs hm φ cA tys ls sv H locs cells slots hR kk
  obtain ⟨hx, hb, hml, hown, hts, hini, hA, hSt, hNe⟩ := C
  subst hf
  subst hkd
  obtain ⟨v, a, rr, z, hst, iv, ek⟩ := inv_put ei
  obtain ⟨w0, v1, rfl, hv, ⟨a1, a2, a3⟩, h3⟩ := obj_of2 hst hR.2.1
  obtain ⟨oz, rfl⟩ := isV_rv iv hv
  have hg := wsX_get φ cA a1 a2
  rw [cel_obj a3 (by omega)] at hg
  have hk' : kf < nfl ci := by omega
  obtain ⟨n1, n2⟩ := nfit (φ := φ) (z := z) hcty
  have ew := wsX_put (φ := φ) (cA := cA) (h := h) (h' := h.set a (kf : Int) z) rfl a1 a2 (cel_putf a3 (by omega) hk') (fun b hb => cel_ne hb)
  refine va_put hx hb hts hin ty0 hty hnm hown hR.1.2.2.1 hR.1.1 hR.1.2.1 hR.2.2.2.1 _ hg hcl kf hk (hts _ hw) (fun x q => by rw [hdecl] at q; exact q) hfin (hty kf hk) n1 n2 (by simpa using hk') hd (fun H1 locs1 P1 D1 S1 => ?_)
  rw [ew] at P1 D1
  exact kk _ _ _ ek (mExt.st _ _ _ _) φ cA tys ls _ H1 locs1 cells slots (fun _ _ => rfl) ⟨⟨P1, D1, hR.1.2.2.1, WT_setf hR.1.2.2.2.1 a3 hci oz, hR.1.2.2.2.2⟩, h3.up (mExt.st _ _ _ _) (fun _ _ => rfl), hR.2.2.1.up (mExt.st _ _ _ _) (fun _ _ => rfl), S1, hR.2.2.2.2.1, hR.2.2.2.2.2⟩
theorem snd_putfieldN {host : String} {C : String} {T : u_T} {N ci kf kd index : Nat} {f : Int} (hcl : clX[ci]? = some (C, T, N)) (hin : ∀ w ∈ u_ws C T N, w ∈ wa) (hk : kf < N) (hn : nfl ci = N) (hci : ci < 13) (hf : f = (kf : Int)) (hkd : fkd ci kf = kd) (hdecl : (T kf).1 = C) {ty0 : Nat → FieldType} (hty : ∀ k, k < N → parseFieldDescriptor (T k).2.2.1 = some (ty0 k)) (hnm : ∀ a, a < N → ∀ b, b < N → a ≠ b → (T a).2.1 ≠ (T b).2.1) (hcty : cty (fkd ci kf) (ty0 kf)) (hfin : (T kf).2.2.2 = false) (hw : (own, index, C, (T kf).2.1, (T kf).2.2.1, host) ∈ wN1) (hd : decode cc pc = .ok (.putfield index, 3)) : snd own cc nL ini pc (pc + 3) (s_put ci f kd) := by
  intro p l e R s m args below meth c D fz X A Q c0 s0 C lo st h k r ei hX hcc hcs hm φ cA tys ls sv H locs cells slots hR kk
  obtain ⟨hx, hb, hml, hown, hts, hini, hA, hSt, hNe⟩ := C
  subst hf
  subst hkd
  obtain ⟨v, a, rr, z, hst, iv, ek⟩ := inv_put ei
  obtain ⟨w0, v1, rfl, hv, ⟨a1, a2, a3⟩, h3⟩ := obj_of2 hst hR.2.1
  obtain ⟨oz, rfl⟩ := isV_rv iv hv
  have hg := wsX_get φ cA a1 a2
  rw [cel_obj a3 (by omega)] at hg
  have hk' : kf < nfl ci := by omega
  obtain ⟨n1, n2⟩ := nfit (φ := φ) (z := z) hcty
  have ew := wsX_put (φ := φ) (cA := cA) (h := h) (h' := h.set a (kf : Int) z) rfl a1 a2 (cel_putf a3 (by omega) hk') (fun b hb => cel_ne hb)
  refine va_putN hx hb hts hin ty0 hty hnm hown hR.1.2.2.1 hR.1.1 hR.1.2.1 hR.2.2.2.1 _ hg hcl kf hk (va_Nw.use rfl (hNe.1 _ hw)) (fun x q => by rw [hdecl] at q; exact q) hfin (hty kf hk) n1 n2 (by simpa using hk') hd (fun H1 locs1 P1 D1 S1 => ?_)
  rw [ew] at P1 D1
  exact kk _ _ _ ek (mExt.st _ _ _ _) φ cA tys ls _ H1 locs1 cells slots (fun _ _ => rfl) ⟨⟨P1, D1, hR.1.2.2.1, WT_setf hR.1.2.2.2.1 a3 hci oz, hR.1.2.2.2.2⟩, h3.up (mExt.st _ _ _ _) (fun _ _ => rfl), hR.2.2.1.up (mExt.st _ _ _ _) (fun _ _ => rfl), S1, hR.2.2.2.2.1, hR.2.2.2.2.2⟩
theorem snd_putfieldF {C : String} {T : u_T} {N ci kf kd index : Nat} {f : Int} (hcl : clX[ci]? = some (C, T, N)) (hin : ∀ w ∈ u_ws C T N, w ∈ wa) (hk : kf < N) (hn : nfl ci = N) (hci : ci < 13) (hf : f = (kf : Int)) (hkd : fkd ci kf = kd) (hdecl : (T kf).1 = C) {ty0 : Nat → FieldType} (hty : ∀ k, k < N → parseFieldDescriptor (T k).2.2.1 = some (ty0 k)) (hnm : ∀ a, a < N → ∀ b, b < N → a ≠ b → (T a).2.1 ≠ (T b).2.1) (hcty : cty (fkd ci kf) (ty0 kf)) (hfin : (T kf).2.2.2 = true) (hi : ini = true) (ho : C = own) (hw : Cond.fieldLink own index C (T kf).2.1 (T kf).2.2.1 ∈ wa) (hd : decode cc pc = .ok (.putfield index, 3)) : snd own cc nL ini pc (pc + 3) (s_put ci f kd) := by
  intro p l e R s m args below meth c D fz X A Q c0 s0 C lo st h k r ei hX hcc hcs hm φ cA tys ls sv H locs cells slots hR kk
  obtain ⟨hx, hb, hml, hown, hts, hini, hA, hSt, hNe⟩ := C
  subst hf
  subst hkd
  obtain ⟨v, a, rr, z, hst, iv, ek⟩ := inv_put ei
  obtain ⟨w0, v1, rfl, hv, ⟨a1, a2, a3⟩, h3⟩ := obj_of2 hst hR.2.1
  obtain ⟨oz, rfl⟩ := isV_rv iv hv
  have hg := wsX_get φ cA a1 a2
  rw [cel_obj a3 (by omega)] at hg
  have hk' : kf < nfl ci := by omega
  obtain ⟨n1, n2⟩ := nfit (φ := φ) (z := z) hcty
  have ew := wsX_put (φ := φ) (cA := cA) (h := h) (h' := h.set a (kf : Int) z) rfl a1 a2 (cel_putf a3 (by omega) hk') (fun b hb => cel_ne hb)
  refine va_putF hx hb hts hin ty0 hty hnm hown hR.1.2.2.1 hR.1.1 hR.1.2.1 hR.2.2.2.1 _ hg hcl kf hk (hts _ hw) (fun x q => by rw [hdecl] at q; exact q) hfin (hini hi).1 (hdecl.trans ho) (hty kf hk) n1 n2 (by simpa using hk') hd (fun H1 locs1 P1 D1 S1 => ?_)
  rw [ew] at P1 D1
  exact kk _ _ _ ek (mExt.st _ _ _ _) φ cA tys ls _ H1 locs1 cells slots (fun _ _ => rfl) ⟨⟨P1, D1, hR.1.2.2.1, WT_setf hR.1.2.2.2.1 a3 hci oz, hR.1.2.2.2.2⟩, h3.up (mExt.st _ _ _ _) (fun _ _ => rfl), hR.2.2.1.up (mExt.st _ _ _ _) (fun _ _ => rfl), S1, hR.2.2.2.2.1, hR.2.2.2.2.2⟩
theorem snd_iaload (hd : decode cc pc = .ok (.iaload, 1)) : snd own cc nL ini pc (pc + 1) (s_iald 100 0) := by
  intro p l e R s m args below meth c D fz X A Q c0 s0 C lo st h k r ei hX hcc hcs hm φ cA tys ls sv H locs cells slots hR kk
  obtain ⟨hx, hb, hml, hown, hts, hini, hA, hSt, hNe⟩ := C
  obtain ⟨i, a, rr, rfl, ⟨i0, i1, hne⟩, ek⟩ := inv_iald ei
  obtain ⟨w1, v1, rfl, ⟨ii, rfl⟩, w2, v2, rfl, hv, h3⟩ := hR.2.1
  obtain ⟨rfl, a1, a2, a3⟩ := arr_of hv hne
  have hg := wsX_get φ cA a1 a2
  rw [cel_arr a3 (by omega), aco_i (by omega) (by omega)] at hg
  obtain ⟨t0, ht⟩ := hR.1.2.2.2.2 a a1 a2 (by omega)
  rw [a3] at ht
  obtain ⟨-, -, q3⟩ := hR.1.2.2.2.1.arr a1 a2 a3 (by omega)
  refine va_iald hx hb hR.1.2.2.1 hR.1.1 _ t0 hg ht (ofI_in ii i0 i1) hd ?_
  rw [ofI_nat ii i0]
  try dsimp only
  rw [nat_i i0]
  exact kk _ _ _ ek (mExt.rf h) φ cA tys ls _ H locs cells slots (fun _ _ => rfl) (hR.stk ⟨_, _, rfl, ⟨q3 i, rfl⟩, h3⟩)
theorem snd_baload (hd : decode cc pc = .ok (.baload, 1)) : snd own cc nL ini pc (pc + 1) (s_iald 102 0) := by
  intro p l e R s m args below meth c D fz X A Q c0 s0 C lo st h k r ei hX hcc hcs hm φ cA tys ls sv H locs cells slots hR kk
  obtain ⟨hx, hb, hml, hown, hts, hini, hA, hSt, hNe⟩ := C
  obtain ⟨i, a, rr, rfl, ⟨i0, i1, hne⟩, ek⟩ := inv_iald ei
  obtain ⟨w1, v1, rfl, ⟨ii, rfl⟩, w2, v2, rfl, hv, h3⟩ := hR.2.1
  obtain ⟨rfl, a1, a2, a3⟩ := arr_of hv hne
  have hg := wsX_get φ cA a1 a2
  rw [cel_arr a3 (by omega), aco_i (by omega) (by omega)] at hg
  obtain ⟨t0, ht⟩ := hR.1.2.2.2.2 a a1 a2 (by omega)
  rw [a3] at ht
  obtain ⟨-, -, q3⟩ := hR.1.2.2.2.1.arr a1 a2 a3 (by omega)
  refine va_zald hx hb hR.1.2.2.1 hR.1.1 _ t0 hg ht (ofI_in ii i0 i1) hd ?_
  rw [ofI_nat ii i0]
  try dsimp only
  rw [nat_i i0]
  exact kk _ _ _ ek (mExt.rf h) φ cA tys ls _ H locs cells slots (fun _ _ => rfl) (hR.stk ⟨_, _, rfl, ⟨q3 i, rfl⟩, h3⟩)
theorem snd_laload (hd : decode cc pc = .ok (.laload, 1)) : snd own cc nL ini pc (pc + 1) (s_iald 101 1) := by
  intro p l e R s m args below meth c D fz X A Q c0 s0 C lo st h k r ei hX hcc hcs hm φ cA tys ls sv H locs cells slots hR kk
  obtain ⟨hx, hb, hml, hown, hts, hini, hA, hSt, hNe⟩ := C
  obtain ⟨i, a, rr, rfl, ⟨i0, i1, hne⟩, ek⟩ := inv_iald ei
  obtain ⟨w1, v1, rfl, ⟨ii, rfl⟩, w2, v2, rfl, hv, h3⟩ := hR.2.1
  obtain ⟨rfl, a1, a2, a3⟩ := arr_of hv hne
  have hg := wsX_get φ cA a1 a2
  rw [cel_arr a3 (by omega), aco_l] at hg
  obtain ⟨t0, ht⟩ := hR.1.2.2.2.2 a a1 a2 (by omega)
  rw [a3] at ht
  obtain ⟨-, -, q3⟩ := hR.1.2.2.2.1.arr a1 a2 a3 (by omega)
  refine va_lald hx hb hR.1.2.2.1 hR.1.1 _ t0 hg ht (ofI_in ii i0 i1) hd ?_
  rw [ofI_nat ii i0]
  try dsimp only
  rw [nat_i i0]
  exact kk _ _ _ ek (mExt.rf h) φ cA tys ls _ H locs cells slots (fun _ _ => rfl) (hR.stk ⟨_, _, rfl, ⟨q3 i, rfl⟩, h3⟩)
theorem snd_aaload {t kd u : Nat} (ht3 : t = u + 200) (hkd : kd = u + 2) (hd : decode cc pc = .ok (.aaload, 1)) : snd own cc nL ini pc (pc + 1) (s_iald t kd) := by
  intro p l e R s m args below meth c D fz X A Q c0 s0 C lo st h k r ei hX hcc hcs hm φ cA tys ls sv H locs cells slots hR kk
  obtain ⟨hx, hb, hml, hown, hts, hini, hA, hSt, hNe⟩ := C
  subst hkd
  have ht2 : 200 ≤ t := by omega
  obtain ⟨i, a, rr, rfl, ⟨i0, i1, hne⟩, ek⟩ := inv_iald ei
  obtain ⟨w1, v1, rfl, ⟨ii, rfl⟩, w2, v2, rfl, hv, h3⟩ := hR.2.1
  obtain ⟨rfl, a1, a2, a3⟩ := arr_of hv hne
  have hg := wsX_get φ cA a1 a2
  rw [cel_arr a3 (by omega), aco_r ht2] at hg
  obtain ⟨t0, ht⟩ := hR.1.2.2.2.2 a a1 a2 (by omega)
  rw [a3] at ht
  have hty : aty t = .object (nmC (t - 200)) := by unfold aty; rw [if_neg (by omega), if_neg (by omega), if_neg (by omega)]
  rw [hty] at ht
  obtain ⟨-, -, q3⟩ := hR.1.2.2.2.1.arr a1 a2 a3 (by omega)
  have q3 := q3 i
  have hkd : akd t = u + 2 := by unfold akd; rw [if_neg (by omega), if_neg (by omega)]; omega
  rw [hkd] at q3
  refine va_aldq hx hb hR.1.2.2.1 hR.1.1 _ t0 hg ht (ofI_in ii i0 i1) hd ?_
  rw [ofI_nat ii i0]
  try dsimp only
  rw [nat_i i0]
  have e1 : va_rf (if h.M a i = 0 then none else some (φ (h.M a i))) = rvk φ (u + 2) (h.M a i) := by
    show va_rf (if h.M a i = 0 then none else some (φ (h.M a i))) = if h.M a i = 0 then .null else .ref (φ (h.M a i))
    split <;> rfl
  rw [e1]
  exact kk _ _ _ ek (mExt.rf h) φ cA tys ls _ H locs cells slots (fun _ _ => rfl) (hR.stk ⟨_, _, rfl, mk_rvl q3, h3⟩)
theorem cel_puta {φ : Int → Nat} {cA : Int → ClassId} {h : mH} {a i z : Int} {t : Nat} {x} (ht : h.T a = t) (hl : 100 ≤ t) (hx : aco φ t ((h.set a i z).M a) = x) : cel φ cA (h.set a i z) a = .inl (cA a, (h.N a).toNat, x) := by
  rw [cel_arr (h := h.set a i z) ht hl, hx]
  rfl
theorem snd_iastore (hd : decode cc pc = .ok (.iastore, 1)) : snd own cc nL ini pc (pc + 1) (s_iast 100 0) := by
  intro p l e R s m args below meth c D fz X A Q c0 s0 C lo st h k r ei hX hcc hcs hm φ cA tys ls sv H locs cells slots hR kk
  obtain ⟨hx, hb, hml, hown, hts, hini, hA, hSt, hNe⟩ := C
  obtain ⟨v, i, a, rr, z, rfl, ⟨i0, i1, hne⟩, iv, ek⟩ := inv_iast ei
  obtain ⟨w1, v1, rfl, hv0, w2, v2, rfl, ⟨ii, rfl⟩, w3, v3, rfl, hv, h3⟩ := hR.2.1
  obtain ⟨rfl, a1, a2, a3⟩ := arr_of hv hne
  have hg := wsX_get φ cA a1 a2
  obtain ⟨oz, rfl⟩ := isV_rv iv hv0
  rw [cel_arr a3 (by omega), aco_i (by omega) (by omega)] at hg
  obtain ⟨t0, ht⟩ := hR.1.2.2.2.2 a a1 a2 (by omega)
  rw [a3] at ht
  have hnew : aco φ 100 ((h.set a i z).M a) = .inl (upd (fun j => Int32.ofInt (h.M a (j : Int))) (Int32.ofInt i).toNatClampNeg (Int32.ofInt z)) := by
    rw [aco_i (by omega) (by omega), ofI_nat ii i0]
    congr 1
    funext j
    show Int32.ofInt (if a = a ∧ (j : Int) = i then z else h.M a (j : Int)) = if j = i.toNat then Int32.ofInt z else Int32.ofInt (h.M a (j : Int))
    by_cases hj : j = i.toNat
    · rw [if_pos ⟨rfl, by omega⟩, if_pos hj]
    · rw [if_neg (by omega), if_neg hj]
  have ew := wsX_put (φ := φ) (cA := cA) (h := h) (h' := h.set a i z) rfl a1 a2 (cel_puta a3 (by omega) hnew) (fun b hb => cel_ne hb)
  refine va_iast hx hb hR.1.2.2.1 hR.1.1 hR.1.2.1 hR.2.2.2.1 _ t0 hg ht (ofI_in ii i0 i1) hd (fun H1 locs1 P1 D1 S1 => ?_)
  rw [ew] at P1 D1
  exact kk _ _ _ ek (mExt.st _ _ _ _) φ cA tys ls _ H1 locs1 cells slots (fun _ _ => rfl) ⟨⟨P1, D1, hR.1.2.2.1, WT_seta hR.1.2.2.2.1 a3 (by omega) oz, hR.1.2.2.2.2⟩, h3.up (mExt.st _ _ _ _) (fun _ _ => rfl), hR.2.2.1.up (mExt.st _ _ _ _) (fun _ _ => rfl), S1, hR.2.2.2.2.1, hR.2.2.2.2.2⟩
theorem snd_lastore (hd : decode cc pc = .ok (.lastore, 1)) : snd own cc nL ini pc (pc + 1) (s_iast 101 1) := by
  intro p l e R s m args below meth c D fz X A Q c0 s0 C lo st h k r ei hX hcc hcs hm φ cA tys ls sv H locs cells slots hR kk
  obtain ⟨hx, hb, hml, hown, hts, hini, hA, hSt, hNe⟩ := C
  obtain ⟨v, i, a, rr, z, rfl, ⟨i0, i1, hne⟩, iv, ek⟩ := inv_iast ei
  obtain ⟨w1, v1, rfl, hv0, w2, v2, rfl, ⟨ii, rfl⟩, w3, v3, rfl, hv, h3⟩ := hR.2.1
  obtain ⟨rfl, a1, a2, a3⟩ := arr_of hv hne
  have hg := wsX_get φ cA a1 a2
  obtain ⟨oz, rfl⟩ := isV_rv iv hv0
  rw [cel_arr a3 (by omega), aco_l] at hg
  obtain ⟨t0, ht⟩ := hR.1.2.2.2.2 a a1 a2 (by omega)
  rw [a3] at ht
  have hnew : aco φ 101 ((h.set a i z).M a) = .inr (.inl (vp_updL (fun j => Int64.ofInt (h.M a (j : Int))) (Int32.ofInt i).toNatClampNeg (Int64.ofInt z))) := by
    rw [aco_l, ofI_nat ii i0]
    congr 2
    funext j
    show Int64.ofInt (if a = a ∧ (j : Int) = i then z else h.M a (j : Int)) = if j = i.toNat then Int64.ofInt z else Int64.ofInt (h.M a (j : Int))
    by_cases hj : j = i.toNat
    · rw [if_pos ⟨rfl, by omega⟩, if_pos hj]
    · rw [if_neg (by omega), if_neg hj]
  have ew := wsX_put (φ := φ) (cA := cA) (h := h) (h' := h.set a i z) rfl a1 a2 (cel_puta a3 (by omega) hnew) (fun b hb => cel_ne hb)
  refine va_last hx hb hR.1.2.2.1 hR.1.1 hR.1.2.1 hR.2.2.2.1 _ t0 hg ht (ofI_in ii i0 i1) hd (fun H1 locs1 P1 D1 S1 => ?_)
  rw [ew] at P1 D1
  exact kk _ _ _ ek (mExt.st _ _ _ _) φ cA tys ls _ H1 locs1 cells slots (fun _ _ => rfl) ⟨⟨P1, D1, hR.1.2.2.1, WT_seta hR.1.2.2.2.1 a3 (by omega) oz, hR.1.2.2.2.2⟩, h3.up (mExt.st _ _ _ _) (fun _ _ => rfl), hR.2.2.1.up (mExt.st _ _ _ _) (fun _ _ => rfl), S1, hR.2.2.2.2.1, hR.2.2.2.2.2⟩
theorem snd_bastore (hd : decode cc pc = .ok (.bastore, 1)) : snd own cc nL ini pc (pc + 1) (s_zast) := by
  intro p l e R s m args below meth c D fz X A Q c0 s0 C lo st h k r ei hX hcc hcs hm φ cA tys ls sv H locs cells slots hR kk
  obtain ⟨hx, hb, hml, hown, hts, hini, hA, hSt, hNe⟩ := C
  obtain ⟨z, i, a, rr, rfl, ⟨i0, i1, hne⟩, hz01, ek⟩ := inv_zast ei
  obtain ⟨w1, v1, rfl, hv0, w2, v2, rfl, ⟨ii, rfl⟩, w3, v3, rfl, hv, h3⟩ := hR.2.1
  obtain ⟨rfl, a1, a2, a3⟩ := arr_of hv hne
  have hg := wsX_get φ cA a1 a2
  obtain ⟨oz, rfl⟩ := hv0
  rw [cel_arr a3 (by omega), aco_i (by omega) (by omega)] at hg
  obtain ⟨t0, ht⟩ := hR.1.2.2.2.2 a a1 a2 (by omega)
  rw [a3] at ht
  have hnar : vp_nar .boolean (Int32.ofInt z) = Int32.ofInt z := by rcases hz01 with rfl | rfl <;> decide
  have hnew : aco φ 102 ((h.set a i z).M a) = .inl (upd (fun j => Int32.ofInt (h.M a (j : Int))) (Int32.ofInt i).toNatClampNeg (vp_nar .boolean (Int32.ofInt z))) := by
    rw [aco_i (by omega) (by omega), ofI_nat ii i0, hnar]
    congr 1
    funext j
    show Int32.ofInt (if a = a ∧ (j : Int) = i then z else h.M a (j : Int)) = if j = i.toNat then Int32.ofInt z else Int32.ofInt (h.M a (j : Int))
    by_cases hj : j = i.toNat
    · rw [if_pos ⟨rfl, by omega⟩, if_pos hj]
    · rw [if_neg (by omega), if_neg hj]
  have ew := wsX_put (φ := φ) (cA := cA) (h := h) (h' := h.set a i z) rfl a1 a2 (cel_puta a3 (by omega) hnew) (fun b hb => cel_ne hb)
  refine va_zast hx hb hR.1.2.2.1 hR.1.1 hR.1.2.1 hR.2.2.2.1 _ t0 hg ht (ofI_in ii i0 i1) hd (fun H1 locs1 P1 D1 S1 => ?_)
  rw [ew] at P1 D1
  exact kk _ _ _ ek (mExt.st _ _ _ _) φ cA tys ls _ H1 locs1 cells slots (fun _ _ => rfl) ⟨⟨P1, D1, hR.1.2.2.1, WT_seta hR.1.2.2.2.1 a3 (by omega) oz, hR.1.2.2.2.2⟩, h3.up (mExt.st _ _ _ _) (fun _ _ => rfl), hR.2.2.1.up (mExt.st _ _ _ _) (fun _ _ => rfl), S1, hR.2.2.2.2.1, hR.2.2.2.2.2⟩
theorem snd_aastore {t kd ci N : Nat} {C : String} {T : u_T} (hcl : clX[ci]? = some (C, T, N)) (hci : ci < 13) (ht2 : t = ci + 200) (hkd : kd = ci + 2) (hd : decode cc pc = .ok (.aastore, 1)) : snd own cc nL ini pc (pc + 1) (s_aast t kd) := by
  intro p l e R s m args below meth c D fz X A Q c0 s0 C lo st h k r ei hX hcc hcs hm φ cA tys ls sv H locs cells slots hR kk
  obtain ⟨hx, hb, hml, hown, hts, hini, hA, hSt, hNe⟩ := C
  subst hkd
  subst ht2
  obtain ⟨v, i, a, rr, z, rfl, ⟨i0, i1, hne⟩, iv, z0, ek⟩ := inv_aast ei
  obtain ⟨w1, v1, rfl, hv0, w2, v2, rfl, ⟨ii, rfl⟩, w3, v3, rfl, hv, h3⟩ := hR.2.1
  obtain ⟨rfl, a1, a2, a3⟩ := arr_of hv hne
  have hg := wsX_get φ cA a1 a2
  obtain ⟨oz, rfl⟩ := isV_rv iv hv0
  obtain ⟨z1, z2, z3⟩ : 1 ≤ z ∧ z ≤ h.cnt ∧ h.T z = ci := by
    rcases oz with q | q
    · exact absurd q z0
    · exact q
  have e1 : rvk φ (ci + 2) z = .ref (φ z) := if_neg z0
  rw [e1]
  have hgz := wsX_get φ cA z1 z2
  rw [cel_obj z3 (by omega)] at hgz
  rw [cel_arr a3 (by omega), aco_r (by omega)] at hg
  obtain ⟨t0, ht⟩ := hR.1.2.2.2.2 a a1 a2 (by omega)
  rw [a3] at ht
  have hty : aty (ci + 200) = .object C := by
    unfold aty
    rw [if_neg (by omega), if_neg (by omega), if_neg (by omega)]
    unfold nmC
    rw [Nat.add_sub_cancel, hcl]
  rw [hty] at ht
  have hkd : akd (ci + 200) = ci + 2 := by unfold akd; rw [if_neg (by omega), if_neg (by omega)]; omega
  have hnew : aco φ (ci + 200) ((h.set a i z).M a) = .inr (.inr (.inr (.inr (va_up (fun j => if h.M a (j : Int) = 0 then none else some (φ (h.M a (j : Int)))) (Int32.ofInt i).toNatClampNeg (some (φ z)))))) := by
    rw [aco_r (by omega), ofI_nat ii i0]
    refine congrArg (fun g => (Sum.inr (Sum.inr (Sum.inr (Sum.inr g))) : (Nat → Int32) ⊕ (Nat → Int64) ⊕ (Nat → UInt32) ⊕ (Nat → UInt64) ⊕ (Nat → Option Nat))) (funext fun j => ?_)
    show (if (if a = a ∧ (j : Int) = i then z else h.M a (j : Int)) = 0 then none else some (φ (if a = a ∧ (j : Int) = i then z else h.M a (j : Int)))) = if j = i.toNat then some (φ z) else if h.M a (j : Int) = 0 then none else some (φ (h.M a (j : Int)))
    by_cases hj : j = i.toNat
    · have hc : a = a ∧ (j : Int) = i := ⟨rfl, by omega⟩
      rw [if_pos hc, if_neg z0, if_pos hj]
    · have hc : ¬ (a = a ∧ (j : Int) = i) := by omega
      rw [if_neg hc, if_neg hj]
  have ew := wsX_put (φ := φ) (cA := cA) (h := h) (h' := h.set a i z) rfl a1 a2 (cel_puta a3 (by omega) hnew) (fun b hb => cel_ne hb)
  refine va_astq (r := (C, T, N)) hx hb hR.1.2.2.1 hR.1.1 hR.1.2.1 hR.2.2.2.1 _ t0 _ ci hg ht hgz hcl (ofI_in ii i0 i1) hd (fun H1 locs1 P1 D1 S1 => ?_)
  rw [ew] at P1 D1
  exact kk _ _ _ ek (mExt.st _ _ _ _) φ cA tys ls _ H1 locs1 cells slots (fun _ _ => rfl) ⟨⟨P1, D1, hR.1.2.2.1, WT_seta hR.1.2.2.2.1 a3 (by omega) (by rw [hkd]; exact oz), hR.1.2.2.2.2⟩, h3.up (mExt.st _ _ _ _) (fun _ _ => rfl), hR.2.2.1.up (mExt.st _ _ _ _) (fun _ _ => rfl), S1, hR.2.2.2.2.1, hR.2.2.2.2.2⟩
theorem snd_arraylength {t : Nat} (ht2 : 100 ≤ t) (hd : decode cc pc = .ok (.arraylength, 1)) : snd own cc nL ini pc (pc + 1) (s_alen t) := by
  intro p l e R s m args below meth c D fz X A Q c0 s0 C lo st h k r ei hX hcc hcs hm φ cA tys ls sv H locs cells slots hR kk
  obtain ⟨hx, hb, hml, hown, hts, hini, hA, hSt, hNe⟩ := C
  obtain ⟨a, rr, rfl, hne, ek⟩ := inv_alen ei
  obtain ⟨w1, v1, rfl, hv, h3⟩ := hR.2.1
  obtain ⟨rfl, a1, a2, a3⟩ := arr_of hv hne
  have hg := wsX_get φ cA a1 a2
  rw [cel_arr a3 ht2] at hg
  obtain ⟨t0, ht⟩ := hR.1.2.2.2.2 a a1 a2 (by omega)
  obtain ⟨q1, q2, -⟩ := hR.1.2.2.2.1.arr a1 a2 a3 ht2
  refine va_alen hx hb hR.1.2.2.1 hR.1.1 _ t0 hg ht (v := Int32.ofInt (h.N a)) ?_ hd (kk _ _ _ ek (mExt.rf h) φ cA tys ls _ H locs cells slots (fun _ _ => rfl) (hR.stk ⟨_, _, rfl, ⟨⟨by omega, by omega⟩, rfl⟩, h3⟩))
  show Int32.ofNat (h.N a).toNat = Int32.ofInt (h.N a)
  rw [← Int32.ofInt_eq_ofNat, nat_i q1]
theorem snd_getstatic0 {index : Nat} (hw : Cond.fieldLink own index RX11 "MONTH_LENGTHS" "[I" ∈ wa) (hd : decode cc pc = .ok (.getstatic index, 3)) : snd own cc nL ini pc (pc + 3) (s_gs 0) := by
  intro p l e R s m args below meth c D fz X A Q c0 s0 C lo st h k r ei hX hcc hcs hm φ cA tys ls sv H locs cells slots hR kk
  obtain ⟨hx, hb, hml, hown, hts, hini, hA, hSt, hNe⟩ := C
  exact va_gets hx hb hSt.1 hR.2.2.2.1 hown (hts _ hw) (fun _ q => q) hd (kk _ _ _ ei (mExt.rf h) φ cA tys ls _ H locs cells slots (fun _ _ => rfl) (hR.stk ⟨_, _, rfl, rfl, hR.2.1⟩))
theorem snd_fald0 (hd : decode cc pc = .ok (.iaload, 1)) : snd own cc nL ini pc (pc + 1) (s_fald 0 13) := by
  intro p l e R s m args below meth c D fz X A Q c0 s0 C lo st h k r ei hX hcc hcs hm φ cA tys ls sv H locs cells slots hR kk
  obtain ⟨hx, hb, hml, hown, hts, hini, hA, hSt, hNe⟩ := C
  obtain ⟨i, rr, rfl, ⟨i0, i1⟩, ek⟩ := inv_fald ei
  obtain ⟨w1, v1, rfl, ⟨ii, rfl⟩, w2, v2, rfl, hv, h3⟩ := hR.2.1
  have hv : w2 = .ref (fz 0) := hv
  subst hv
  refine va_ti hx hb hSt.2.1 hR.2.2.2.1 (ofI_in ii i0 i1) rfl hd ?_
  rw [ofI_nat ii i0]
  try dsimp only
  rw [nat_i i0]
  exact kk _ _ _ ek (mExt.rf h) φ cA tys ls _ H locs cells slots (fun _ _ => rfl) (hR.stk ⟨_, _, rfl, ⟨fzM_in _ _, rfl⟩, h3⟩)
theorem snd_getstatic1 {index : Nat} (hw : Cond.fieldLink own index RX11 "DAYS_AHEAD" "[I" ∈ wa) (hd : decode cc pc = .ok (.getstatic index, 3)) : snd own cc nL ini pc (pc + 3) (s_gs 1) := by
  intro p l e R s m args below meth c D fz X A Q c0 s0 C lo st h k r ei hX hcc hcs hm φ cA tys ls sv H locs cells slots hR kk
  obtain ⟨hx, hb, hml, hown, hts, hini, hA, hSt, hNe⟩ := C
  exact va_gets hx hb hSt.2.2.1 hR.2.2.2.1 hown (hts _ hw) (fun _ q => q) hd (kk _ _ _ ei (mExt.rf h) φ cA tys ls _ H locs cells slots (fun _ _ => rfl) (hR.stk ⟨_, _, rfl, rfl, hR.2.1⟩))
theorem snd_fald1 (hd : decode cc pc = .ok (.iaload, 1)) : snd own cc nL ini pc (pc + 1) (s_fald 1 13) := by
  intro p l e R s m args below meth c D fz X A Q c0 s0 C lo st h k r ei hX hcc hcs hm φ cA tys ls sv H locs cells slots hR kk
  obtain ⟨hx, hb, hml, hown, hts, hini, hA, hSt, hNe⟩ := C
  obtain ⟨i, rr, rfl, ⟨i0, i1⟩, ek⟩ := inv_fald ei
  obtain ⟨w1, v1, rfl, ⟨ii, rfl⟩, w2, v2, rfl, hv, h3⟩ := hR.2.1
  have hv : w2 = .ref (fz 1) := hv
  subst hv
  refine va_ti hx hb hSt.2.2.2.1 hR.2.2.2.1 (ofI_in ii i0 i1) rfl hd ?_
  rw [ofI_nat ii i0]
  try dsimp only
  rw [nat_i i0]
  exact kk _ _ _ ek (mExt.rf h) φ cA tys ls _ H locs cells slots (fun _ _ => rfl) (hR.stk ⟨_, _, rfl, ⟨fzM_in _ _, rfl⟩, h3⟩)
theorem snd_xald (hd : decode cc pc = .ok (.iaload, 1)) : snd own cc nL ini pc (pc + 1) (s_xald) := by
  intro p l e R s m args below meth c D fz X A Q c0 s0 C lo st h k r ei hX hcc hcs hm φ cA tys ls sv H locs cells slots hR kk
  obtain ⟨hx, hb, hml, hown, hts, hini, hA, hSt, hNe⟩ := C
  obtain ⟨i, rr, rfl, ⟨i0, i1⟩, ek⟩ := inv_xald ei
  obtain ⟨w1, v1, rfl, ⟨ii, rfl⟩, w2, v2, rfl, hv, h3⟩ := hR.2.1
  have hv : w2 = .ref (fz 2) := hv
  subst hv
  subst hX
  obtain ⟨-, -, -, -, hT, x0, x1, xi, -⟩ := hSt
  refine va_ti hx hb hT hR.2.2.2.1 (ofI_in ii i0 i1) rfl hd ?_
  rw [ofI_nat ii i0]
  try dsimp only
  rw [nat_i i0]
  exact kk _ _ _ ek (mExt.rf h) φ cA tys ls _ H locs cells slots (fun _ _ => rfl) (hR.stk ⟨_, _, rfl, ⟨xi i, rfl⟩, h3⟩)
theorem snd_xlen (hd : decode cc pc = .ok (.arraylength, 1)) : snd own cc nL ini pc (pc + 1) (s_xlen) := by
  intro p l e R s m args below meth c D fz X A Q c0 s0 C lo st h k r ei hX hcc hcs hm φ cA tys ls sv H locs cells slots hR kk
  obtain ⟨hx, hb, hml, hown, hts, hini, hA, hSt, hNe⟩ := C
  obtain ⟨rr, rfl, ek⟩ := inv_xlen ei
  obtain ⟨w1, v1, rfl, hv, h3⟩ := hR.2.1
  have hv : w1 = .ref (fz 2) := hv
  subst hv
  subst hX
  obtain ⟨-, -, -, -, hT, x0, x1, xi, -⟩ := hSt
  refine va_tlen hx hb hT hR.2.2.2.1 (v := Int32.ofInt (h.X (-1))) ?_ hd (kk _ _ _ ek (mExt.rf h) φ cA tys ls _ H locs cells slots (fun _ _ => rfl) (hR.stk ⟨_, _, rfl, ⟨⟨by omega, by omega⟩, rfl⟩, h3⟩))
  rw [← Int32.ofInt_eq_ofNat, nat_i x0]
end ROWS3
