/-! THE TIE, 11: the whole run of a method; its contract -/
theorem mExt_top {h h' : mH} (e : mExt h h') : h'.X = h.X := e.2.2.1
def sndL (own : String) (cc : ByteArray) (nL : Nat) (ini : Bool) (pc pc' : Nat) : List mI → Prop
  | [] => pc = pc'
  | i :: r => ∃ pcm, snd own cc nL ini pc pcm i ∧ sndL own cc nL ini pcm pc' r
def sndB (mtab : List mI5) (own : String) (cc : ByteArray) (nL : Nat) (ini : Bool) (ret : Option FieldType) (kd : Nat) (pcs : List Nat) (rF rL : Nat) (pc : Nat) (B : mB) : Prop := ∃ pc', sndL own cc nL ini pc pc' B.1 ∧ sndT mtab own cc nL ini ret kd pcs rF rL pc' B.2
def sndBs (mtab : List mI5) (own : String) (cc : ByteArray) (nL : Nat) (ini : Bool) (ret : Option FieldType) (kd : Nat) (pcs : List Nat) (rF rL : Nat) : List Nat → List mB → Prop
  | pc :: ps, B :: Bs => sndB mtab own cc nL ini ret kd pcs rF rL pc B ∧ sndBs mtab own cc nL ini ret kd pcs rF rL ps Bs
  | [], [] => True
  | _, _ => False
section MK
variable {mtab : List mI5} {own : String} {cc : ByteArray} {nL : Nat} {ini : Bool} {ret : Option FieldType} {kd : Nat} {pcs : List Nat} {rF rL : Nat}
theorem sL_n {pc : Nat} : sndL own cc nL ini pc pc [] := rfl
theorem sL_c {pc pcm pc' : Nat} {i : mI} {r : List mI} (h1 : snd own cc nL ini pc pcm i) (h2 : sndL own cc nL ini pcm pc' r) : sndL own cc nL ini pc pc' (i :: r) := ⟨pcm, h1, h2⟩
theorem sB_m {pc pc' : Nat} {L : List mI} {t : mT} (h1 : sndL own cc nL ini pc pc' L) (h2 : sndT mtab own cc nL ini ret kd pcs rF rL pc' t) : sndB mtab own cc nL ini ret kd pcs rF rL pc (L, t) := ⟨pc', h1, h2⟩
theorem sBs_n : sndBs mtab own cc nL ini ret kd pcs rF rL [] [] := trivial
theorem sBs_c {pc : Nat} {ps : List Nat} {B : mB} {Bs : List mB} (h1 : sndB mtab own cc nL ini ret kd pcs rF rL pc B) (h2 : sndBs mtab own cc nL ini ret kd pcs rF rL ps Bs) : sndBs mtab own cc nL ini ret kd pcs rF rL (pc :: ps) (B :: Bs) := ⟨h1, h2⟩
theorem sBs_at : ∀ (ps : List Nat) (Bs : List mB), sndBs mtab own cc nL ini ret kd pcs rF rL ps Bs → ∀ (b : Nat) (B : mB), Bs[b]? = some B → ∃ pc, ps[b]? = some pc ∧ sndB mtab own cc nL ini ret kd pcs rF rL pc B := by
  intro ps
  induction ps with
  | nil =>
    intro Bs h b B e
    match Bs with
    | [] => simp at e
    | _ :: _ => exact h.elim
  | cons p r ih =>
    intro Bs h b B e
    match Bs with
    | [] => exact h.elim
    | X :: Y =>
      match b with
      | 0 => cases e; exact ⟨p, rfl, h.1⟩
      | b + 1 => exact ih Y h.2 b B e
end MK
/-- class, bytes, locals, constructor, type and kind of the answer, the blocks' places, frames, locals' room -/
abbrev mD9 : Type := String × ByteArray × Nat × Bool × Option FieldType × Nat × List Nat × Nat × Nat
theorem runL_ext {L : List mI} {t : mT} (hL : lok L) (ht : tok t) {X : Nat → List mV → List mV → mH → mR} {C : Nat → List mV → mH → mR} {r : Option mV × mH} (hX : ∀ b l s h, X b l s h = some r → mExt h r.2) (hC : ∀ g as h r1, C g as h = some r1 → mExt h r1.2) {lo st : List mV} {h : mH} (e : runL L (fun l s h => t X C l s h) lo st h = some r) : mExt h r.2 := by
  rcases runL_ok ht L hL lo st h with q | ⟨b', l', s', h', x, q⟩ | ⟨r', x, q⟩ | ⟨g, as, h', kd, s', b', l', x, q⟩ <;> dsimp only at q
  · rw [q] at e; cases e
  · rw [q] at e; exact x.tr (hX _ _ _ _ e)
  · rw [q] at e; cases e; exact x
  · rw [q] at e
    obtain ⟨⟨v, hv⟩, hx⟩ := mback_some e
    rw [hx] at e
    obtain ⟨s2, e2⟩ := mback_heap e
    exact (x.tr (hC _ _ _ _ hx)).tr (hX _ _ _ _ e2)
theorem runL_snd {own : String} {cc : ByteArray} {nL : Nat} {ini : Bool} {p : Program} {l : Launch} {e : Env} {R : Room} {s : State} {m : MethodId} {args : Array Value} {below : List Frame} {meth : Method} {c : Code} {D : va_G} {fz : Nat → Nat} {X : Int → Int} {A : Nat → Prop} {Q : State → Prop} {c0 s0 : Nat} (C : ctxX p R s m args meth c own cc nL ini fz X A) {t : mT} (ht : tok t) {Xf : Nat → List mV → List mV → mH → mR} {Cf : Nat → List mV → mH → mR} {r : Option mV × mH} (hXe : ∀ b l s h, Xf b l s h = some r → mExt h r.2) (hCe : ∀ g as h r1, Cf g as h = some r1 → mExt h r1.2) (hcc : r.2.cnt ≤ c0 + R.cells) (hcs : r.2.sl ≤ s0 + R.slots) {pc' : Nat} {φ0 : Int → Nat} {hb0 : mH} :
    ∀ (L : List mI), lok L → ∀ (pc : Nat), sndL own cc nL ini pc pc' L → ∀ (lo st : List mV) (h : mH), runL L (fun l s h => t Xf Cf l s h) lo st h = some r → h.X = X → mExt hb0 h →
    ∀ (φ : Int → Nat) (cA : Int → ClassId) (tys : List (ClassId × FieldType)) (ls : Array Slot) (sv : List Value) (H : Heap) (locs : List Loc) (cells slots : Nat), (∀ a : Int, a ≤ hb0.cnt → φ a = φ0 a) → RS D fz A s nL c0 s0 lo st h φ cA tys ls sv H locs cells slots →
    (∀ l' s' h', t Xf Cf l' s' h' = some r → h'.X = X → mExt hb0 h' → ∀ (φ' : Int → Nat) (cA' : Int → ClassId) (tys' : List (ClassId × FieldType)) (ls' : Array Slot) (sv' : List Value) (H' : Heap) (locs' : List Loc) (cells' slots' : Nat), (∀ a : Int, a ≤ hb0.cnt → φ' a = φ0 a) → RS D fz A s nL c0 s0 l' s' h' φ' cA' tys' ls' sv' H' locs' cells' slots' → W p l e R s m args below meth c H' locs' cells' slots' Q (F0 m pc' ls' sv')) →
    W p l e R s m args below meth c H locs cells slots Q (F0 m pc ls sv) := by
  intro L
  induction L with
  | nil =>
    intro _ pc hL lo st h er hX hx0 φ cA tys ls sv H locs cells slots hφ hR kk
    have hL : pc = pc' := hL
    subst hL
    exact kk lo st h er hX hx0 φ cA tys ls sv H locs cells slots hφ hR
  | cons i L ih =>
    intro hok pc hL lo st h er hX hx0 φ cA tys ls sv H locs cells slots hφ hR kk
    obtain ⟨pcm, h1, h2⟩ := hL
    refine h1 p l e R s m args below meth c D fz X A Q c0 s0 C lo st h _ r er hX hcc hcs (fun l' s' h' e' => runL_ext hok.2 ht hXe hCe e') φ cA tys ls sv H locs cells slots hR ?_
    intro l' s' h' e' hx φ' cA' tys' ls' sv' H' locs' cells' slots' hφ' hR'
    exact ih hok.2 pcm h2 l' s' h' e' (hx.2.2.1.trans hX) (hx0.tr hx) φ' cA' tys' ls' sv' H' locs' cells' slots' (fun a ha => (hφ' a (by have := hx0.1; omega)).trans (hφ a ha)) hR' kk
def Wst (mdat : List mD9) (l : Launch) (n k b : Nat) (lo st : List mV) (h : mH) (r : Option mV × mH) : Prop :=
  ∀ (d : mD9) (pb : Nat), mdat[k]? = some d → d.2.2.2.2.2.2.1[b]? = some pb →
  ∀ (p : Program) (e : Env) (R : Room) (s : State) (m : MethodId) (args : Array Value) (below : List Frame) (meth : Method) (c : Code) (D : va_G) (fz : Nat → Nat) (X : Int → Int) (A : Nat → Prop) (φ0 : Int → Nat) (h0 : mH),
  ctxX p R s m args meth c d.1 d.2.1 d.2.2.1 d.2.2.2.1 fz X A → meth.sig.returnType = d.2.2.2.2.1 → meth.locks = false → d.2.2.2.2.2.2.2.1 ≤ R.frames → d.2.2.2.2.2.2.2.2 ≤ R.locals → h.X = X → r.2.cnt ≤ h0.cnt + R.cells → r.2.sl ≤ h0.sl + R.slots → mExt h0 h →
  ∀ (φ : Int → Nat) (cA : Int → ClassId) (tys : List (ClassId × FieldType)) (ls : Array Slot) (sv : List Value) (H : Heap) (locs : List Loc) (cells slots : Nat), (∀ a : Int, a ≤ h0.cnt → φ a = φ0 a) → RS D fz A s d.2.2.1 h0.cnt h0.sl lo st h φ cA tys ls sv H locs cells slots →
  W p l e R s m args below meth c H locs cells slots (MQ below (qof d.2.2.2.2.2.1 D A φ0 h0 r) args s (r.2.cnt - h0.cnt) (r.2.sl - h0.sl) A) (F0 m pb ls sv)
theorem mlen_eq (l : List mV) : mlen l = l.length := by
  induction l with
  | nil => rfl
  | cons a r ih => simp [mlen, ih]
theorem mpad_len (n : Nat) : (mpad n).length = n := by
  induction n with
  | zero => rfl
  | succ n ih => simp [mpad, ih]
theorem mpad_get (n i : Nat) : mget (mpad n) i = vU := by
  induction n generalizing i with
  | zero => rfl
  | succ n ih =>
    cases i with
    | zero => rfl
    | succ i => exact ih i
theorem mlay_long (z : Int) (r : List mV) : mlay (vL z :: r) = vL z :: vU :: mlay r := rfl
theorem mlay_one {v : mV} (h : isLong v = false) (r : List mV) : mlay (v :: r) = v :: mlay r := by
  match v, h with
  | .inl _, _ => rfl
  | .inr (.inr _), _ => rfl
  | .inr (.inl _), h => cases h
theorem lg_one {v : Value} (h : v.category = 1) (r : List Value) : lg_sl (v :: r) = .val v :: lg_sl r := by simp [lg_sl, h]
theorem lg_two {v : Value} (h : v.category = 2) (r : List Value) : lg_sl (v :: r) = .val v :: .second :: lg_sl r := by simp [lg_sl, h]
theorem entry_len {fz : Nat → Nat} {φ : Int → Nat} {h : mH} : ∀ (as : List mV) (av : List Value), rst fz φ h as av → (lg_sl av).length = (mlay as).length := by
  intro as
  induction as with
  | nil => intro av e; have e : av = [] := e; subst e; rfl
  | cons v r ih =>
    intro av e
    obtain ⟨w, y, rfl, hw, h3⟩ := e
    cases hl : isLong v with
    | false =>
      rw [mlay_one hl, lg_one (rvl_cat hw hl)]
      simp [ih y h3]
    | true =>
      unfold isLong at hl
      split at hl
      · obtain ⟨_, rfl⟩ := hw
        rw [mlay_long, lg_two rfl]
        simp [ih y h3]
      · cases hl
/-- the arguments at the entry: what each place of the small machine's locals says -/
theorem entry_at {fz : Nat → Nat} {φ : Int → Nat} {h : mH} (k : Nat) : ∀ (as : List mV) (av : List Value), rst fz φ h as av → ∀ i : Nat, (∃ u, mget (mlay as ++ mpad k) i = .inr (.inr (.inr (.inr (.inr u))))) ∨ (isLong (mget (mlay as ++ mpad k) i) = true ∧ isU (mget (mlay as ++ mpad k) (i + 1)) = false) ∨ ∃ w, rvl fz φ h (mget (mlay as ++ mpad k) i) w ∧ (lg_sl av ++ List.replicate k Slot.unset)[i]? = some (.val w) := by
  intro as
  induction as with
  | nil =>
    intro av e i
    exact Or.inl ⟨(), mpad_get k i⟩
  | cons v r ih =>
    intro av e i
    obtain ⟨w, y, rfl, hw, h3⟩ := e
    cases hl : isLong v with
    | false =>
      rw [mlay_one hl, lg_one (rvl_cat hw hl)]
      match i with
      | 0 => exact Or.inr (Or.inr ⟨w, hw, rfl⟩)
      | i + 1 => exact ih y h3 i
    | true =>
      unfold isLong at hl
      split at hl
      · obtain ⟨q, rfl⟩ := hw
        rw [mlay_long, lg_two rfl]
        match i with
        | 0 => exact Or.inr (Or.inr ⟨_, ⟨q, rfl⟩, rfl⟩)
        | 1 => exact Or.inl ⟨(), rfl⟩
        | i + 2 => exact ih y h3 i
      · cases hl
theorem rlo_entry {fz : Nat → Nat} {φ : Int → Nat} {h : mH} {nL : Nat} {as : List mV} {av : List Value} (has : rst fz φ h as av) (hl : mlen (mlay as) ≤ nL) : rlo fz φ h (mloc nL as) ((lg_sl av ++ List.replicate (nL - (lg_sl av).length) Slot.unset).toArray) nL := by
  have e1 := entry_len as av has
  rw [mlen_eq] at hl
  have e2 := lv_entry av (n := nL) (by omega)
  refine ⟨⟨e2.1, ?_⟩, e2.2.1, fun i => ?_⟩
  · unfold mloc
    rw [List.length_append, mpad_len, mlen_eq]
    omega
  · unfold mloc
    rw [mlen_eq, e1]
    have q := entry_at (nL - (mlay as).length) as av has i
    simpa using q
/-- what the tables of a program must say -/
def okTab (mtab : List mI5) (mdat : List mD9) (kX : Nat) : Prop :=
  (∀ k b B, k ≠ kX → mblk prog k b = some B → ∃ d pb, mdat[k]? = some d ∧ d.2.2.2.2.2.2.1[b]? = some pb ∧ sndB mtab d.1 d.2.1 d.2.2.1 d.2.2.2.1 d.2.2.2.2.1 d.2.2.2.2.2.1 d.2.2.2.2.2.2.1 d.2.2.2.2.2.2.2.1 d.2.2.2.2.2.2.2.2 pb B) ∧
  (∀ k q, k ≠ kX → mtab[k]? = some q → ∃ d, mdat[k]? = some d ∧ q.2.1 = Cond.code q.1 d.2.1 d.2.2.1 d.2.2.2.2.1 ∧ q.2.2 = (d.2.2.2.2.2.2.2.1, d.2.2.2.2.2.2.2.2, d.2.2.2.2.2.1) ∧ plainName q.1.cls = true ∧ q.1.cls = d.1 ∧ (d.2.2.2.1 = true → q.1.name = "<init>" ∧ 1 ≤ d.2.2.2.2.2.2.2.1 ∧ 12 ≤ d.2.2.2.2.2.2.2.2) ∧ mnl prog k = d.2.2.1 ∧ d.2.2.2.2.2.2.1[0]? = some 0) ∧
  mblk prog 9999 0 = none
/-- the contract of a method that the small machine runs to its end -/
def Mst (mtab : List mI5) (l : Launch) (n : Nat) : Prop := ∀ f as h r q, mcl prog (mex prog n) f as h = some r → mtab[f]? = some q → metM l q.1 q.2.1 q.2.2.1 q.2.2.2.1 q.2.2.2.2 as h r
theorem Met_of_W {mtab : List mI5} {mdat : List mD9} {kX : Nat} (HT : okTab mtab mdat kX) {l : Launch} {n f : Nat} {as : List mV} {h : mH} {r : Option mV × mH} {q : mI5} (hf : f ≠ kX) (hq : mtab[f]? = some q) (e : mcl prog (mex prog n) f as h = some r) (hW : Wst mdat l n f 0 (mloc (mnl prog f) as) [] h r) : metM l q.1 q.2.1 q.2.2.1 q.2.2.2.1 q.2.2.2.2 as h r := by
  obtain ⟨-, H2, -⟩ := HT
  obtain ⟨d, hd, e1, e2, hpl, hcls, hini, hnl, hp0⟩ := H2 f q hf hq
  obtain ⟨y, w0, rF, rL, kd⟩ := q
  obtain ⟨own, cc, nL, ini, ret, kd', pcs, rF', rL'⟩ := d
  dsimp only at e1 e2 hpl hcls hini hnl hp0 ⊢
  cases e2
  subst e1
  subst hnl
  obtain ⟨hlen, e⟩ := mcl_inv e
  have hx := mex_ext pok_prog _ _ _ _ _ _ _ e
  intro D fz φ cA tys av sz has
  refine Met.ofW (cc := cc) (maxL := mnl prog f) (ret := ret) hpl rfl ?_
  intro p e0 s m args below meth c s₁ B hml hv
  obtain ⟨rfl, hsz, hP, hD, hK, hWT, hAT, hSt, hNe⟩ := hv
  subst hsz
  have hts := atoms_spec (ws := Cond.code y cc (mnl prog f) ret :: wa) B.pre
  have hown : s.vm.findClass y.cls = some m.cls := findClass_of_methodNamed B.named
  rw [hcls] at hown
  rw [lg_entry_eq]
  refine hW (own, cc, mnl prog f, ini, ret, kd, pcs, rF, rL) 0 hd hp0 p e0 _ s m av.toArray below meth c D fz h.X (va_A (wsX φ cA h) s.heap.size) φ h ⟨B.exec, B.bytes, hml, hown, fun w hw => hts w (List.mem_cons_of_mem _ hw), fun hi => ⟨((name_of_methodNamed B.named B.method).1).trans (hini hi).1, (hini hi).2.1, (hini hi).2.2⟩, fun q hq => Or.inr hq, hSt, hNe⟩ B.returns B.notSynchronized (Nat.le_refl _) (Nat.le_refl _) rfl ?_ ?_ (mExt.rf h) φ cA tys _ [] s.heap [] 0 0 (fun _ _ => rfl) ⟨⟨hP, hD.self, hK, hWT, hAT⟩, rfl, rlo_entry has hlen, va_S.rf, Nat.zero_add _, Nat.zero_add _⟩
  · show r.2.cnt ≤ h.cnt + (r.2.cnt - h.cnt)
    omega
  · show r.2.sl ≤ h.sl + (r.2.sl - h.sl)
    omega
/-- THE SIMULATION -/
theorem SIM {mtab : List mI5} {mdat : List mD9} {kX : Nat} (HT : okTab mtab mdat kX) (l : Launch)
    (HX : ∀ n, Mst mtab l n → ∀ as h r q, mcl prog (mex prog (n + 1)) kX as h = some r → mtab[kX]? = some q → metM l q.1 q.2.1 q.2.2.1 q.2.2.2.1 q.2.2.2.2 as h r) :
    ∀ n, (∀ k b lo st h r, k ≠ kX → mex prog n k b lo st h = some r → Wst mdat l n k b lo st h r) ∧ Mst mtab l n := by
  intro n
  induction n with
  | zero =>
    refine ⟨fun k b lo st h r _ e => (by cases e), fun f as h r q e _ => ?_⟩
    have := (mcl_inv e).2
    cases this
  | succ n ih =>
    have h1 : ∀ k b lo st h r, k ≠ kX → mex prog (n + 1) k b lo st h = some r → Wst mdat l (n + 1) k b lo st h r := by
      intro k b lo st h r hk e
      cases hB : mblk prog k b with
      | none => rw [mex_none prog _ k b lo st h hB] at e; cases e
      | some B =>
        rw [mex_step prog _ k b lo st h B hB] at e
        obtain ⟨d', pb', hd', hpb', pc', hL, hT⟩ := HT.1 k b B hk hB
        intro d pb hd hpb p e0 R s m args below meth c D fz X A φ0 h0 C hret hlk hrF hrL hX hcc hcs hx0 φ cA tys ls sv H locs cells slots hφ hR
        rw [hd] at hd'
        cases hd'
        rw [hpb] at hpb'
        cases hpb'
        have hb := pok_prog k b B hB
        have hXe : ∀ b l s h, mex prog n k b l s h = some r → mExt h r.2 := fun b l s h q => mex_ext pok_prog _ _ _ _ _ _ _ q
        have hCe : ∀ g as h r1, mcl prog (mex prog n) g as h = some r1 → mExt h r1.2 := by
          intro g as h1 r1 q
          exact mex_ext pok_prog _ _ _ _ _ _ _ (mcl_inv q).2
        refine runL_snd (D := D) C hb.2 (Xf := fun b' => mex prog n k b') (Cf := fun f as => mcl prog (mex prog n) f as) hXe hCe hcc hcs B.1 hb.1 _ hL lo st h e hX hx0 φ cA tys ls sv H locs cells slots hφ hR ?_
        intro l' s' h' e' hX' hx' φ' cA' tys' ls' sv' H' locs' cells' slots' hφ' hR'
        refine hT p l e0 R s m args below meth c D fz X A φ0 h0 r C hret hlk hrF hrL l' s' h' (fun b' => mex prog n k b') (fun f as => mcl prog (mex prog n) f as) e' hX' hcc hcs hXe hCe ih.2 (fun as h1 => ?_) φ' cA' tys' ls' sv' H' locs' cells' slots' hφ' hR' ?_
        · cases e9 : mcl prog (mex prog n) 9999 as h1 with
          | none => rfl
          | some r9 =>
            have q9 := (mcl_inv e9).2
            rw [mex_none prog n 9999 0 _ _ _ HT.2.2] at q9
            cases q9
        · intro b2 l2 s2 h2 pb2 e2 hx2 hpb2 φ2 cA2 tys2 ls2 sv2 H2 locs2 cells2 slots2 hφ2 hR2
          exact ih.1 k b2 l2 s2 h2 r hk e2 _ pb2 hd hpb2 p e0 R s m args below meth c D fz X A φ0 h0 C hret hlk hrF hrL (hx2.2.2.1.trans hX') hcc hcs (hx'.tr hx2) φ2 cA2 tys2 ls2 sv2 H2 locs2 cells2 slots2 (fun a ha => (hφ2 a (by have := hx'.1; omega)).trans (hφ' a ha)) hR2
    refine ⟨h1, fun f as h r q e hq => ?_⟩
    by_cases hf : f = kX
    · subst hf
      exact HX n ih.2 as h r q e hq
    · exact Met_of_W HT hf hq e (h1 f 0 _ _ h r hf (mcl_inv e).2)
