/-! THE TIE, 7: makings -/
theorem okv_0 (h : mH) (kd : Nat) : okv h kd 0 := by
  match kd with
  | 0 => exact inI_0
  | 1 => exact inL_0
  | t + 2 => exact Or.inl rfl
theorem rvk_0 (φ φ' : Int → Nat) (kd : Nat) : rvk φ kd 0 = rvk φ' kd 0 := by
  match kd with
  | 0 => rfl
  | 1 => rfl
  | t + 2 => rfl
theorem dv {φ : Int → Nat} {kd : Nat} {ty : FieldType} (h : cty kd ty) : defaultValue ty = rvk φ kd 0 := by
  match kd with
  | 0 => have h : ty = .int := h; subst h; rfl
  | 1 => have h : ty = .long := h; subst h; rfl
  | t + 2 => rcases h with ⟨n, rfl⟩ | ⟨n, rfl⟩ <;> rfl
theorem new_T_top (h : mH) (t : Nat) (n : Int) : (h.new t n).T h.top = t := if_pos rfl
theorem new_N_top (h : mH) (t : Nat) (n : Int) : (h.new t n).N h.top = n := if_pos rfl
theorem new_M_top (h : mH) (t : Nat) (n : Int) (j : Int) : (h.new t n).M h.top j = 0 := if_pos rfl
theorem new_T (h : mH) (t : Nat) (n : Int) {b : Int} (hb : b ≤ h.cnt) : (h.new t n).T b = h.T b := if_neg (by unfold mH.top; omega)
theorem new_N (h : mH) (t : Nat) (n : Int) {b : Int} (hb : b ≤ h.cnt) : (h.new t n).N b = h.N b := if_neg (by unfold mH.top; omega)
theorem new_M (h : mH) (t : Nat) (n : Int) {b : Int} (hb : b ≤ h.cnt) : (h.new t n).M b = h.M b := by
  funext j
  exact if_neg (by unfold mH.top; omega)
theorem WT_new {h : mH} {t : Nat} {n : Int} (w : WT h) (ht : t < 13 ∨ (okA t ∧ 0 ≤ n ∧ n ≤ 1000000)) : WT (h.new t n) := by
  intro b b1 b2
  by_cases hb : b = h.top
  · subst hb
    rw [new_T_top, new_N_top]
    rcases ht with ht | ⟨h1, h2, h3⟩
    · exact Or.inl ⟨ht, fun k _ => by rw [new_M_top]; exact okv_0 _ _⟩
    · exact Or.inr ⟨h1, h2, h3, fun j => by rw [new_M_top]; exact okv_0 _ _⟩
  · have b2' : b ≤ ((h.cnt + 1 : Nat) : Int) := b2
    have hb2 : b ≤ h.cnt := by unfold mH.top at hb; omega
    rw [new_T h t n hb2, new_N h t n hb2, new_M h t n hb2]
    rcases w b b1 hb2 with ⟨q1, q2⟩ | ⟨q1, q2, q3, q4⟩
    · exact Or.inl ⟨q1, fun k hk => (q2 k hk).up (mExt.nw _ _ _)⟩
    · exact Or.inr ⟨q1, q2, q3, fun j => (q4 j).up (mExt.nw _ _ _)⟩
def phn (φ : Int → Nat) (h : mH) (q : Nat) : Int → Nat := fun b => if b = h.top then q else φ b
def can (cA : Int → ClassId) (h : mH) (q : ClassId) : Int → ClassId := fun b => if b = h.top then q else cA b
theorem phn_top (φ : Int → Nat) (h : mH) (q : Nat) : phn φ h q h.top = q := if_pos rfl
theorem phn_le (φ : Int → Nat) (h : mH) (q : Nat) {b : Int} (hb : b ≤ h.cnt) : phn φ h q b = φ b := if_neg (by unfold mH.top; omega)
theorem can_top (φ : Int → ClassId) (h : mH) (q : ClassId) : can φ h q h.top = q := if_pos rfl
theorem can_le (φ : Int → ClassId) (h : mH) (q : ClassId) {b : Int} (hb : b ≤ h.cnt) : can φ h q b = φ b := if_neg (by unfold mH.top; omega)
theorem ws_newO {φ : Int → Nat} {cA : Int → ClassId} {h : mH} {ci : Nat} {n : Int} {q : Nat} (w : WT h) (hl : ci < 100) : wsX φ cA h ++ [(q, .inr (ci, (List.range (nfl ci)).map fun k => rvk φ (fkd ci k) 0))] = wsX (phn φ h q) cA (h.new ci n) := by
  refine wsX_new rfl (phn_top _ _ _) ?_ (fun b b1 b2 => ⟨phn_le _ _ _ b2, cel_up w b1 b2 (fun a ha => phn_le _ _ _ ha) rfl (new_T _ _ _ b2) (new_N _ _ _ b2) (new_M _ _ _ b2)⟩)
  rw [cel_obj (new_T_top _ _ _) hl]
  congr 2
  apply List.map_congr_left
  intro k _
  rw [new_M_top]
  exact rvk_0 _ _ _
theorem ws_newA {φ : Int → Nat} {cA : Int → ClassId} {h : mH} {t : Nat} {n : Int} {q : Nat} {c0 : ClassId} (w : WT h) (hl : 100 ≤ t) : wsX φ cA h ++ [(q, .inl (c0, n.toNat, aco φ t (fun _ => 0)))] = wsX (phn φ h q) (can cA h c0) (h.new t n) := by
  refine wsX_new rfl (phn_top _ _ _) ?_ (fun b b1 b2 => ⟨phn_le _ _ _ b2, cel_up w b1 b2 (fun a ha => phn_le _ _ _ ha) (can_le _ _ _ b2) (new_T _ _ _ b2) (new_N _ _ _ b2) (new_M _ _ _ b2)⟩)
  rw [cel_arr (new_T_top _ _ _) hl, can_top, new_N_top]
  have e : (h.new t n).M h.top = fun _ => 0 := by
    funext j
    exact new_M_top _ _ _ _
  rw [e]
  congr 3
theorem arr_new {tys : List (ClassId × FieldType)} {cA : Int → ClassId} {h : mH} {t : Nat} {n : Int} {c0 : ClassId} (hl : 100 ≤ t) (w : ∀ a : Int, 1 ≤ a → a ≤ h.cnt → 100 ≤ h.T a → ∃ t0 : Nat, tys[t0]? = some (cA a, aty (h.T a))) :
    ∀ a : Int, 1 ≤ a → a ≤ (h.new t n).cnt → 100 ≤ (h.new t n).T a → ∃ t0 : Nat, (tys ++ [(c0, aty t)])[t0]? = some (can cA h c0 a, aty ((h.new t n).T a)) := by
  intro a a1 a2 a3
  by_cases ha : a = h.top
  · subst ha
    rw [can_top, new_T_top]
    exact ⟨tys.length, by simp⟩
  · have a2' : a ≤ ((h.cnt + 1 : Nat) : Int) := a2
    have hb2 : a ≤ h.cnt := by unfold mH.top at ha; omega
    rw [new_T _ _ _ hb2] at a3 ⊢
    rw [can_le _ _ _ hb2]
    obtain ⟨t0, q⟩ := w a a1 hb2 a3
    exact ⟨t0, by rw [List.getElem?_append_left (List.getElem?_eq_some_iff.mp q).1]; exact q⟩
theorem arr_newO {tys : List (ClassId × FieldType)} {cA : Int → ClassId} {h : mH} {t : Nat} {n : Int} (hl : t < 100) (w : ∀ a : Int, 1 ≤ a → a ≤ h.cnt → 100 ≤ h.T a → ∃ t0 : Nat, tys[t0]? = some (cA a, aty (h.T a))) :
    ∀ a : Int, 1 ≤ a → a ≤ (h.new t n).cnt → 100 ≤ (h.new t n).T a → ∃ t0 : Nat, tys[t0]? = some (cA a, aty ((h.new t n).T a)) := by
  intro a a1 a2 a3
  by_cases ha : a = h.top
  · subst ha
    rw [new_T_top] at a3
    omega
  · have a2' : a ≤ ((h.cnt + 1 : Nat) : Int) := a2
    have hb2 : a ≤ h.cnt := by unfold mH.top at ha; omega
    rw [new_T _ _ _ hb2] at a3 ⊢
    exact w a a1 hb2 a3
theorem top_pos (h : mH) : 1 ≤ h.top := by unfold mH.top; omega
theorem top_le (h : mH) (t : Nat) (n : Int) : h.top ≤ ((h.new t n).cnt : Int) := by
  show h.top ≤ ((h.cnt + 1 : Nat) : Int)
  unfold mH.top
  omega
section ROWS4
variable {own : String} {cc : ByteArray} {nL : Nat} {ini : Bool} {pc : Nat}
theorem snd_new {C : String} {T : u_T} {N ci index : Nat} {n : Int} (hcl : clX[ci]? = some (C, T, N)) (hin : ∀ w ∈ u_ws C T N, w ∈ wa) (hn : nfl ci = N) (hci : ci < 13) (hnn : n = (N : Int)) {ty0 : Nat → FieldType} (hty : ∀ k, k < N → parseFieldDescriptor (T k).2.2.1 = some (ty0 k)) (hcty : ∀ k, k < N → cty (fkd ci k) (ty0 k)) (w1 : Cond.classLink own index C ∈ wa) (w2 : Cond.instantiable C N ∈ wa) (w3 : Cond.initialized C ∈ wa) (hd : decode cc pc = .ok (.new index, 3)) : snd own cc nL ini pc (pc + 3) (s_new ci n) := by
  intro p l e R s m args below meth c D fz X A Q c0 s0 C lo st h k r ei hX hcc hcs hm φ cA tys ls sv H locs cells slots hR kk
  obtain ⟨hx, hb, hml, hown, hts, hini, hA, hSt, hNe⟩ := C
  subst hnn
  have ek : k lo (vO ci h.top :: st) (h.new ci (N : Int)) = some r := ei
  obtain ⟨m1, m2, -⟩ := hm _ _ _ ek
  have m1 : h.cnt + 1 ≤ r.2.cnt := m1
  have m2 : h.sl + (N : Int).toNat ≤ r.2.sl := m2
  rw [Int.toNat_natCast] at m2
  have q1 := hR.2.2.2.2.1
  have q2 := hR.2.2.2.2.2
  refine va_new (fs := (List.range (nfl ci)).map fun k => rvk φ (fkd ci k) 0) hx hb hts hin ty0 hty hown (hts _ w1) (hts _ w2) (hts _ w3) hR.1.2.2.1 hR.1.1 hR.1.2.1 hR.2.2.2.1 hA hcl (fun j hj => ?_) (by omega) (by omega) hd (fun q H1 P1 D1 S1 => ?_)
  · have hj' : j < nfl ci := by omega
    unfold vp_V
    rw [List.getD_eq_getElem?_getD, List.getElem?_map, List.getElem?_range hj']
    exact dv (hcty j hj)
  · rw [ws_newO (n := (N : Int)) hR.1.2.2.2.1 (by omega)] at P1 D1
    have e2 : q = phn φ h q h.top := (phn_top _ _ _).symm
    rw [e2]
    rw [← e2]
    refine kk _ _ _ ek (mExt.nw _ _ _) (phn φ h q) cA tys ls _ H1 locs (cells + 1) (slots + N) (fun a ha => phn_le _ _ _ ha) ⟨⟨P1, D1, hR.1.2.2.1, WT_new hR.1.2.2.2.1 (Or.inl hci), arr_newO (by omega) hR.1.2.2.2.2⟩, ⟨_, _, rfl, ⟨⟨top_pos h, top_le _ _ _, new_T_top _ _ _⟩, by rw [phn_top]⟩, hR.2.1.up (mExt.nw _ _ _) (fun a ha => phn_le _ _ _ ha)⟩, hR.2.2.1.up (mExt.nw _ _ _) (fun a ha => phn_le _ _ _ ha), S1, ?_, ?_⟩
    · show cells + 1 + c0 = h.cnt + 1
      omega
    · show slots + N + s0 = h.sl + (N : Int).toNat
      rw [Int.toNat_natCast]
      omega
theorem snd_newarray100 (hw : Cond.arrayClass .int ∈ wa) (hd : decode cc pc = .ok (.newarray .int, 2)) : snd own cc nL ini pc (pc + 2) (s_newa 100) := by
  intro p l e R s m args below meth c D fz X A Q c0 s0 C lo st h k r ei hX hcc hcs hm φ cA tys ls sv H locs cells slots hR kk
  obtain ⟨hx, hb, hml, hown, hts, hini, hA, hSt, hNe⟩ := C
  obtain ⟨n, rr, rfl, ⟨n0, n1⟩, ek⟩ := inv_newa ei
  obtain ⟨w1, v1, rfl, ⟨ii, rfl⟩, h3⟩ := hR.2.1
  obtain ⟨m1, m2, -⟩ := hm _ _ _ ek
  have m1 : h.cnt + 1 ≤ r.2.cnt := m1
  have m2 : h.sl + n.toNat ≤ r.2.sl := m2
  have q1 := hR.2.2.2.2.1
  have q2 := hR.2.2.2.2.2
  have hneg : ¬ Int32.ofInt n < 0 := by
    intro q
    have := (ofI_lt ii inI_0).mp q
    omega
  refine va_newa (atype := .int) (a0 := (n.toNat, aco φ 100 (fun _ => 0))) hx hb (hts _ hw) rfl hR.1.2.2.1 hR.1.1 hR.1.2.1 hR.2.2.2.1 hA (fun _ => rfl) hneg (ofI_nat ii n0) (by
    show n.toNat * 4 ≤ 536870912
    omega) (by omega) (by omega) hd (fun q c1 H1 K1 P1 D1 S1 => ?_)
  rw [ws_newA (n := n) hR.1.2.2.2.1 (by omega)] at P1 D1
  exact kk _ _ _ ek (mExt.nw _ _ _) (phn φ h q) (can cA h c1) _ ls _ H1 locs (cells + 1) (slots + n.toNat) (fun a ha => phn_le _ _ _ ha) ⟨⟨P1, D1, K1, WT_new hR.1.2.2.2.1 (Or.inr ⟨by unfold okA; omega, n0, n1⟩), arr_new (by omega) hR.1.2.2.2.2⟩, ⟨_, _, rfl, ⟨Or.inr ⟨top_pos h, top_le _ _ _, new_T_top _ _ _⟩, by
      show Value.ref q = if h.top = 0 then .null else .ref (phn φ h q h.top)
      rw [if_neg (by have := top_pos h; omega), phn_top]⟩, h3.up (mExt.nw _ _ _) (fun a ha => phn_le _ _ _ ha)⟩, hR.2.2.1.up (mExt.nw _ _ _) (fun a ha => phn_le _ _ _ ha), S1, (by show cells + 1 + c0 = h.cnt + 1; omega), (by show slots + n.toNat + s0 = h.sl + n.toNat; omega)⟩
theorem snd_newarray101 (hw : Cond.arrayClass .long ∈ wa) (hd : decode cc pc = .ok (.newarray .long, 2)) : snd own cc nL ini pc (pc + 2) (s_newa 101) := by
  intro p l e R s m args below meth c D fz X A Q c0 s0 C lo st h k r ei hX hcc hcs hm φ cA tys ls sv H locs cells slots hR kk
  obtain ⟨hx, hb, hml, hown, hts, hini, hA, hSt, hNe⟩ := C
  obtain ⟨n, rr, rfl, ⟨n0, n1⟩, ek⟩ := inv_newa ei
  obtain ⟨w1, v1, rfl, ⟨ii, rfl⟩, h3⟩ := hR.2.1
  obtain ⟨m1, m2, -⟩ := hm _ _ _ ek
  have m1 : h.cnt + 1 ≤ r.2.cnt := m1
  have m2 : h.sl + n.toNat ≤ r.2.sl := m2
  have q1 := hR.2.2.2.2.1
  have q2 := hR.2.2.2.2.2
  have hneg : ¬ Int32.ofInt n < 0 := by
    intro q
    have := (ofI_lt ii inI_0).mp q
    omega
  refine va_newa (atype := .long) (a0 := (n.toNat, aco φ 101 (fun _ => 0))) hx hb (hts _ hw) rfl hR.1.2.2.1 hR.1.1 hR.1.2.1 hR.2.2.2.1 hA (fun _ => rfl) hneg (ofI_nat ii n0) (by
    show n.toNat * 8 ≤ 536870912
    omega) (by omega) (by omega) hd (fun q c1 H1 K1 P1 D1 S1 => ?_)
  rw [ws_newA (n := n) hR.1.2.2.2.1 (by omega)] at P1 D1
  exact kk _ _ _ ek (mExt.nw _ _ _) (phn φ h q) (can cA h c1) _ ls _ H1 locs (cells + 1) (slots + n.toNat) (fun a ha => phn_le _ _ _ ha) ⟨⟨P1, D1, K1, WT_new hR.1.2.2.2.1 (Or.inr ⟨by unfold okA; omega, n0, n1⟩), arr_new (by omega) hR.1.2.2.2.2⟩, ⟨_, _, rfl, ⟨Or.inr ⟨top_pos h, top_le _ _ _, new_T_top _ _ _⟩, by
      show Value.ref q = if h.top = 0 then .null else .ref (phn φ h q h.top)
      rw [if_neg (by have := top_pos h; omega), phn_top]⟩, h3.up (mExt.nw _ _ _) (fun a ha => phn_le _ _ _ ha)⟩, hR.2.2.1.up (mExt.nw _ _ _) (fun a ha => phn_le _ _ _ ha), S1, (by show cells + 1 + c0 = h.cnt + 1; omega), (by show slots + n.toNat + s0 = h.sl + n.toNat; omega)⟩
theorem snd_newarray102 (hw : Cond.arrayClass .boolean ∈ wa) (hd : decode cc pc = .ok (.newarray .boolean, 2)) : snd own cc nL ini pc (pc + 2) (s_newa 102) := by
  intro p l e R s m args below meth c D fz X A Q c0 s0 C lo st h k r ei hX hcc hcs hm φ cA tys ls sv H locs cells slots hR kk
  obtain ⟨hx, hb, hml, hown, hts, hini, hA, hSt, hNe⟩ := C
  obtain ⟨n, rr, rfl, ⟨n0, n1⟩, ek⟩ := inv_newa ei
  obtain ⟨w1, v1, rfl, ⟨ii, rfl⟩, h3⟩ := hR.2.1
  obtain ⟨m1, m2, -⟩ := hm _ _ _ ek
  have m1 : h.cnt + 1 ≤ r.2.cnt := m1
  have m2 : h.sl + n.toNat ≤ r.2.sl := m2
  have q1 := hR.2.2.2.2.1
  have q2 := hR.2.2.2.2.2
  have hneg : ¬ Int32.ofInt n < 0 := by
    intro q
    have := (ofI_lt ii inI_0).mp q
    omega
  refine va_newa (atype := .boolean) (a0 := (n.toNat, aco φ 102 (fun _ => 0))) hx hb (hts _ hw) rfl hR.1.2.2.1 hR.1.1 hR.1.2.1 hR.2.2.2.1 hA (fun _ => rfl) hneg (ofI_nat ii n0) (by
    show n.toNat * 1 ≤ 536870912
    omega) (by omega) (by omega) hd (fun q c1 H1 K1 P1 D1 S1 => ?_)
  rw [ws_newA (n := n) hR.1.2.2.2.1 (by omega)] at P1 D1
  exact kk _ _ _ ek (mExt.nw _ _ _) (phn φ h q) (can cA h c1) _ ls _ H1 locs (cells + 1) (slots + n.toNat) (fun a ha => phn_le _ _ _ ha) ⟨⟨P1, D1, K1, WT_new hR.1.2.2.2.1 (Or.inr ⟨by unfold okA; omega, n0, n1⟩), arr_new (by omega) hR.1.2.2.2.2⟩, ⟨_, _, rfl, ⟨Or.inr ⟨top_pos h, top_le _ _ _, new_T_top _ _ _⟩, by
      show Value.ref q = if h.top = 0 then .null else .ref (phn φ h q h.top)
      rw [if_neg (by have := top_pos h; omega), phn_top]⟩, h3.up (mExt.nw _ _ _) (fun a ha => phn_le _ _ _ ha)⟩, hR.2.2.1.up (mExt.nw _ _ _) (fun a ha => phn_le _ _ _ ha), S1, (by show cells + 1 + c0 = h.cnt + 1; omega), (by show slots + n.toNat + s0 = h.sl + n.toNat; omega)⟩
theorem snd_anewarray {t ci N index : Nat} {C : String} {T : u_T} (hcl : clX[ci]? = some (C, T, N)) (hci : ci < 13) (ht2 : t = ci + 200) (w1 : Cond.classLink own index C ∈ wa) (w2 : C ∈ wO) (hd : decode cc pc = .ok (.anewarray index, 3)) : snd own cc nL ini pc (pc + 3) (s_newa t) := by
  intro p l e R s m args below meth c D fz X A Q c0 s0 C lo st h k r ei hX hcc hcs hm φ cA tys ls sv H locs cells slots hR kk
  obtain ⟨hx, hb, hml, hown, hts, hini, hA, hSt, hNe⟩ := C
  subst ht2
  obtain ⟨n, rr, rfl, ⟨n0, n1⟩, ek⟩ := inv_newa ei
  obtain ⟨w1, v1, rfl, ⟨ii, rfl⟩, h3⟩ := hR.2.1
  obtain ⟨m1, m2, -⟩ := hm _ _ _ ek
  have m1 : h.cnt + 1 ≤ r.2.cnt := m1
  have m2 : h.sl + n.toNat ≤ r.2.sl := m2
  have q1 := hR.2.2.2.2.1
  have q2 := hR.2.2.2.2.2
  have hneg : ¬ Int32.ofInt n < 0 := by
    intro q
    have := (ofI_lt ii inI_0).mp q
    omega
  have hty : FieldType.object C = aty (ci + 200) := by
    unfold aty
    rw [if_neg (by omega), if_neg (by omega), if_neg (by omega)]
    unfold nmC
    rw [Nat.add_sub_cancel, hcl]
  refine va_newq hx hb hown (hts _ w1) (hNe.2.2.1 _ w2) hR.1.2.2.1 hR.1.1 hR.1.2.1 hR.2.2.2.1 hA hneg (ofI_nat ii n0) (by omega) (by omega) (by omega) hd (fun q c1 H1 K1 P1 D1 S1 => ?_)
  rw [hty] at K1
  have ea : (Sum.inr (Sum.inr (Sum.inr (Sum.inr (fun _ => none)))) : (Nat → Int32) ⊕ (Nat → Int64) ⊕ (Nat → UInt32) ⊕ (Nat → UInt64) ⊕ (Nat → Option Nat)) = aco φ (ci + 200) (fun _ => 0) := by
    rw [aco_r (by omega)]
    rfl
  rw [ea] at P1 D1
  rw [ws_newA (n := n) hR.1.2.2.2.1 (by omega)] at P1 D1
  exact kk _ _ _ ek (mExt.nw _ _ _) (phn φ h q) (can cA h c1) _ ls _ H1 locs (cells + 1) (slots + n.toNat) (fun a ha => phn_le _ _ _ ha) ⟨⟨P1, D1, K1, WT_new hR.1.2.2.2.1 (Or.inr ⟨by unfold okA; omega, n0, n1⟩), arr_new (by omega) hR.1.2.2.2.2⟩, ⟨_, _, rfl, ⟨Or.inr ⟨top_pos h, top_le _ _ _, new_T_top _ _ _⟩, by
      show Value.ref q = if h.top = 0 then .null else .ref (phn φ h q h.top)
      rw [if_neg (by have := top_pos h; omega), phn_top]⟩, h3.up (mExt.nw _ _ _) (fun a ha => phn_le _ _ _ ha)⟩, hR.2.2.1.up (mExt.nw _ _ _) (fun a ha => phn_le _ _ _ ha), S1, (by show cells + 1 + c0 = h.cnt + 1; omega), (by show slots + n.toNat + s0 = h.sl + n.toNat; omega)⟩
theorem snd_objinit {index : Nat} (hi : ini = true) (w1 : Cond.methodLink own index objectInit ∈ wa) (w2 : Cond.instanceMethod objectInit ∈ wa) (w3 : Cond.code objectInit ⟨#[0xb1]⟩ 1 none ∈ wa) (hd : decode cc pc = .ok (.invokespecial index, 3)) : snd own cc nL ini pc (pc + 3) (s_oi) := by
  intro p l e R s m args below meth c D fz X A Q c0 s0 C lo st h k r ei hX hcc hcs hm φ cA tys ls sv H locs cells slots hR kk
  obtain ⟨hx, hb, hml, hown, hts, hini, hA, hSt, hNe⟩ := C
  obtain ⟨⟨t, a⟩, rfl, ek⟩ := inv_oi ei
  obtain ⟨w0, v1, rfl, ⟨o, rfl⟩, h3⟩ := hR.2.1
  have h3 : v1 = [] := h3
  subst h3
  obtain ⟨-, f1, f2⟩ := hini hi
  exact W.objInit (g := F0 m pc ls [Value.ref (φ a)]) hx hb hown (hts _ w1) (hts _ w2) (hts _ w3) rfl (by rw [hml]; exact hR.2.2.1.1.1) rfl hd f1 (by
    show 2 * 0 + 0 + 12 ≤ R.locals
    omega) (kk _ _ _ ek (mExt.rf h) φ cA tys ls [] H locs cells slots (fun _ _ => rfl) (hR.stk rfl))
end ROWS4
