/-! THE TIE, 11: the simulation once more, for classes of which the machine has entries (Math) -/
/-- what the tables of a program must say -/
def okTab2 (mtab : List mI5) (mdat : List mD9) (kX : Nat) : Prop :=
  (∀ k b B, k ≠ kX → mblk prog k b = some B → ∃ d pb, mdat[k]? = some d ∧ d.2.2.2.2.2.2.1[b]? = some pb ∧ sndB mtab d.1 d.2.1 d.2.2.1 d.2.2.2.1 d.2.2.2.2.1 d.2.2.2.2.2.1 d.2.2.2.2.2.2.1 d.2.2.2.2.2.2.2.1 d.2.2.2.2.2.2.2.2 pb B) ∧
  (∀ k q, k ≠ kX → mtab[k]? = some q → ∃ d, mdat[k]? = some d ∧ q.2.1 = Cond.code q.1 d.2.1 d.2.2.1 d.2.2.2.2.1 ∧ q.2.2 = (d.2.2.2.2.2.2.2.1, d.2.2.2.2.2.2.2.2, d.2.2.2.2.2.1) ∧ plainFor q.1 = true ∧ q.1.cls = d.1 ∧ (d.2.2.2.1 = true → q.1.name = "<init>" ∧ 1 ≤ d.2.2.2.2.2.2.2.1 ∧ 12 ≤ d.2.2.2.2.2.2.2.2) ∧ mnl prog k = d.2.2.1 ∧ d.2.2.2.2.2.2.1[0]? = some 0) ∧
  mblk prog 9999 0 = none
theorem Met_of_W2 {mtab : List mI5} {mdat : List mD9} {kX : Nat} (HT : okTab2 mtab mdat kX) {l : Launch} {n f : Nat} {as : List mV} {h : mH} {r : Option mV × mH} {q : mI5} (hf : f ≠ kX) (hq : mtab[f]? = some q) (e : mcl prog (mex prog n) f as h = some r) (hW : Wst mdat l n f 0 (mloc (mnl prog f) as) [] h r) : metM l q.1 q.2.1 q.2.2.1 q.2.2.2.1 q.2.2.2.2 as h r := by
  obtain ⟨-, H2, -⟩ := HT
  obtain ⟨d, hd, e1, e2, hpl, hcls, hini, hnl, hp0⟩ := H2 f q hf hq
  obtain ⟨y, w0, rF, rL, kd⟩ := q
  obtain ⟨own, cc, nL, ini, ret, kd', pcs, rF', rL'⟩ := d
  dsimp only at e1 e2 hpl hcls hini hnl hp0 ⊢
  cases e2
  subst e1
  subst hnl
  obtain ⟨hlen, e⟩ := mcl_inv e
  have hx := mex_ext pok_prog _ _ _ _ _ _ _ e
  intro D fz φ cA tys av sz has
  refine va_MetF (cc := cc) (maxL := mnl prog f) (ret := ret) hpl rfl ?_
  intro p e0 s m args below meth c s₁ B hml hv
  obtain ⟨rfl, hsz, hP, hD, hK, hWT, hAT, hSt, hNe⟩ := hv
  subst hsz
  have hts := atoms_spec (ws := Cond.code y cc (mnl prog f) ret :: wa) B.pre
  have hown : s.vm.findClass y.cls = some m.cls := findClass_of_methodNamed B.named
  rw [hcls] at hown
  rw [lg_entry_eq]
  refine hW (own, cc, mnl prog f, ini, ret, kd, pcs, rF, rL) 0 hd hp0 p e0 _ s m av.toArray below meth c D fz h.X (va_A (wsX φ cA h) s.heap.size) φ h ⟨B.exec, B.bytes, hml, hown, fun w hw => hts w (List.mem_cons_of_mem _ hw), fun hi => ⟨((name_of_methodNamed B.named B.method).1).trans (hini hi).1, (hini hi).2.1, (hini hi).2.2⟩, fun q hq => Or.inr hq, hSt, hNe⟩ B.returns B.notSynchronized (Nat.le_refl _) (Nat.le_refl _) rfl ?_ ?_ (mExt.rf h) φ cA tys _ [] s.heap [] 0 0 (fun _ _ => rfl) ⟨⟨hP, hD.self, hK, hWT, hAT⟩, rfl, rlo_entry has hlen, va_S.rf, Nat.zero_add _, Nat.zero_add _⟩
  · show r.2.cnt ≤ h.cnt + (r.2.cnt - h.cnt)
    omega
  · show r.2.sl ≤ h.sl + (r.2.sl - h.sl)
    omega
/-- THE SIMULATION -/
theorem SIM2 {mtab : List mI5} {mdat : List mD9} {kX : Nat} (HT : okTab2 mtab mdat kX) (l : Launch)
    (HX : ∀ n, Mst mtab l n → ∀ as h r q, mcl prog (mex prog (n + 1)) kX as h = some r → mtab[kX]? = some q → metM l q.1 q.2.1 q.2.2.1 q.2.2.2.1 q.2.2.2.2 as h r) :
    ∀ n, (∀ k b lo st h r, k ≠ kX → mex prog n k b lo st h = some r → Wst mdat l n k b lo st h r) ∧ Mst mtab l n := by
  intro n
  induction n with
  | zero =>
    refine ⟨fun k b lo st h r _ e => (by cases e), fun f as h r q e _ => ?_⟩
    have := (mcl_inv e).2
    cases this
  | succ n ih =>
    have h1 : ∀ k b lo st h r, k ≠ kX → mex prog (n + 1) k b lo st h = some r → Wst mdat l (n + 1) k b lo st h r := by
      intro k b lo st h r hk e
      cases hB : mblk prog k b with
      | none => rw [mex_none prog _ k b lo st h hB] at e; cases e
      | some B =>
        rw [mex_step prog _ k b lo st h B hB] at e
        obtain ⟨d', pb', hd', hpb', pc', hL, hT⟩ := HT.1 k b B hk hB
        intro d pb hd hpb p e0 R s m args below meth c D fz X A φ0 h0 C hret hlk hrF hrL hX hcc hcs hx0 φ cA tys ls sv H locs cells slots hφ hR
        rw [hd] at hd'
        cases hd'
        rw [hpb] at hpb'
        cases hpb'
        have hb := pok_prog k b B hB
        have hXe : ∀ b l s h, mex prog n k b l s h = some r → mExt h r.2 := fun b l s h q => mex_ext pok_prog _ _ _ _ _ _ _ q
        have hCe : ∀ g as h r1, mcl prog (mex prog n) g as h = some r1 → mExt h r1.2 := by
          intro g as h1 r1 q
          exact mex_ext pok_prog _ _ _ _ _ _ _ (mcl_inv q).2
        refine runL_snd (D := D) C hb.2 (Xf := fun b' => mex prog n k b') (Cf := fun f as => mcl prog (mex prog n) f as) hXe hCe hcc hcs B.1 hb.1 _ hL lo st h e hX hx0 φ cA tys ls sv H locs cells slots hφ hR ?_
        intro l' s' h' e' hX' hx' φ' cA' tys' ls' sv' H' locs' cells' slots' hφ' hR'
        refine hT p l e0 R s m args below meth c D fz X A φ0 h0 r C hret hlk hrF hrL l' s' h' (fun b' => mex prog n k b') (fun f as => mcl prog (mex prog n) f as) e' hX' hcc hcs hXe hCe ih.2 (fun as h1 => ?_) φ' cA' tys' ls' sv' H' locs' cells' slots' hφ' hR' ?_
        · cases e9 : mcl prog (mex prog n) 9999 as h1 with
          | none => rfl
          | some r9 =>
            have q9 := (mcl_inv e9).2
            rw [mex_none prog n 9999 0 _ _ _ HT.2.2] at q9
            cases q9
        · intro b2 l2 s2 h2 pb2 e2 hx2 hpb2 φ2 cA2 tys2 ls2 sv2 H2 locs2 cells2 slots2 hφ2 hR2
          exact ih.1 k b2 l2 s2 h2 r hk e2 _ pb2 hd hpb2 p e0 R s m args below meth c D fz X A φ0 h0 C hret hlk hrF hrL (hx2.2.2.1.trans hX') hcc hcs (hx'.tr hx2) φ2 cA2 tys2 ls2 sv2 H2 locs2 cells2 slots2 (fun a ha => (hφ2 a (by have := hx'.1; omega)).trans (hφ' a ha)) hR2
    refine ⟨h1, fun f as h r q e hq => ?_⟩
    by_cases hf : f = kX
    · subst hf
      exact HX n ih.2 as h r q e hq
    · exact Met_of_W2 HT hf hq e (h1 f 0 _ _ h r hf (mcl_inv e).2)
