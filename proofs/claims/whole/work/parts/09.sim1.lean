/-! THE TIE, 2: the memory, the stack, the locals -/
abbrev clX : List vw_C := [(RX0, TX0, 4), (RX1, TX1, 4), (RX2, TX2, 11), (RX3, TX3, 3), (RX5, TX5, 4), (RX6, TX6, 6), (RX7, TX7, 3), (RX8, TX8, 6), (RX9, TX9, 4), (RX10, TX10, 10), (RX11, TX11, 20), (RX12, TX12, 71), ("java/util/NoSuchElementException", fun _ => ("", "", "", false), 0)]
def nmC (t : Nat) : String := match clX[t]? with
  | some q => q.1
  | none => ""
def fkd (ci k : Nat) : Nat := (fkT.getD ci []).getD k 0
def nfl (ci : Nat) : Nat := (fkT.getD ci []).length
def rvk (φ : Int → Nat) (kd : Nat) (z : Int) : Value := match kd with
  | 0 => .int (Int32.ofInt z)
  | 1 => .long (Int64.ofInt z)
  | _ => if z = 0 then .null else .ref (φ z)
def aty (t : Nat) : FieldType := if t = 100 then .int else if t = 101 then .long else if t = 102 then .boolean else .object (nmC (t - 200))
def akd (t : Nat) : Nat := if t = 101 then 1 else if t < 200 then 0 else t - 198
def aco (φ : Int → Nat) (t : Nat) (f : Int → Int) : (Nat → Int32) ⊕ (Nat → Int64) ⊕ (Nat → UInt32) ⊕ (Nat → UInt64) ⊕ (Nat → Option Nat) :=
  if t = 101 then .inr (.inl fun j => Int64.ofInt (f j)) else if t < 200 then .inl fun j => Int32.ofInt (f j) else .inr (.inr (.inr (.inr fun j => if f j = 0 then none else some (φ (f j)))))
def cel (φ : Int → Nat) (cA : Int → ClassId) (h : mH) (a : Int) : va_E := if h.T a < 100 then .inr (h.T a, (List.range (nfl (h.T a))).map fun k => rvk φ (fkd (h.T a) k) (h.M a (k : Int))) else .inl (cA a, (h.N a).toNat, aco φ (h.T a) (h.M a))
def wsX (φ : Int → Nat) (cA : Int → ClassId) (h : mH) : va_W := (List.range h.cnt).map fun (i : Nat) => (φ ((i : Int) + 1), cel φ cA h ((i : Int) + 1))
/-- a number that may stand for a value of a kind -/
def okv (h : mH) (kd : Nat) (z : Int) : Prop := match kd with
  | 0 => inI z
  | 1 => inL z
  | t + 2 => z = 0 ∨ (1 ≤ z ∧ z ≤ h.cnt ∧ h.T z = t)
def okA (t : Nat) : Prop := t = 100 ∨ t = 101 ∨ t = 102 ∨ (200 ≤ t ∧ t < 213)
/-- the memory is well kept -/
def WT (h : mH) : Prop := ∀ a : Int, 1 ≤ a → a ≤ h.cnt → (h.T a < 13 ∧ ∀ k : Nat, k < nfl (h.T a) → okv h (fkd (h.T a) k) (h.M a (k : Int))) ∨ (okA (h.T a) ∧ 0 ≤ h.N a ∧ h.N a ≤ 1000000 ∧ ∀ j : Int, okv h (akd (h.T a)) (h.M a j))
def HR (D : va_G) (A : Nat → Prop) (s : State) (φ : Int → Nat) (cA : Int → ClassId) (tys : List (ClassId × FieldType)) (h : mH) (H : Heap) : Prop :=
  va_P D clX (wsX φ cA h) H ∧ va_D A (wsX φ cA h) ∧ va_K D clX tys s ∧ WT h ∧ ∀ a : Int, 1 ≤ a → a ≤ h.cnt → 100 ≤ h.T a → ∃ t0 : Nat, tys[t0]? = some (cA a, aty (h.T a))
def rvl (fz : Nat → Nat) (φ : Int → Nat) (h : mH) (v : mV) (w : Value) : Prop := match v with
  | .inl z => inI z ∧ w = .int (Int32.ofInt z)
  | .inr (.inl z) => inL z ∧ w = .long (Int64.ofInt z)
  | .inr (.inr (.inl q)) => okv h (q.1 + 2) q.2 ∧ w = rvk φ (q.1 + 2) q.2
  | .inr (.inr (.inr (.inl q))) => (1 ≤ q.2 ∧ q.2 ≤ h.cnt ∧ h.T q.2 = q.1) ∧ w = .ref (φ q.2)
  | .inr (.inr (.inr (.inr (.inl j)))) => w = .ref (fz j)
  | .inr (.inr (.inr (.inr (.inr _)))) => False
def rst (fz : Nat → Nat) (φ : Int → Nat) (h : mH) : List mV → List Value → Prop
  | [], w => w = []
  | v :: r, w => ∃ x y, w = x :: y ∧ rvl fz φ h v x ∧ rst fz φ h r y
def rlo (fz : Nat → Nat) (φ : Int → Nat) (h : mH) (l : List mV) (ls : Array Slot) (nL : Nat) : Prop :=
  (ls.size = nL ∧ l.length = nL) ∧ lv_wf ls ∧ ∀ i : Nat, (∃ u, mget l i = .inr (.inr (.inr (.inr (.inr u))))) ∨ (isLong (mget l i) = true ∧ isU (mget l (i + 1)) = false) ∨ ∃ w, rvl fz φ h (mget l i) w ∧ ls[i]? = some (.val w)
def stand (fz : Nat → Nat) (X : Int → Int) (A : Nat → Prop) (U : State) (H : Heap) : Prop :=
  va_Z RX11 "MONTH_LENGTHS" "[I" (.ref (fz 0)) A U H ∧ va_T .int (fz 0) 13 (fun j => .int (Int32.ofInt (fzM 0 (j : Int)))) A U H ∧ va_Z RX11 "DAYS_AHEAD" "[I" (.ref (fz 1)) A U H ∧ va_T .int (fz 1) 13 (fun j => .int (Int32.ofInt (fzM 1 (j : Int)))) A U H ∧
  va_T .int (fz 2) (X (-1)).toNat (fun j => .int (Int32.ofInt (X (j : Int)))) A U H ∧ 0 ≤ X (-1) ∧ X (-1) < 2147483648 ∧ (∀ j : Int, inI (X j)) ∧ vx_Zq Bundle.tN "UNASSIGNED_STACK" Bundle.steD A U H ∧ vx_Zq Bundle.tN "SUPPRESSED_SENTINEL" Bundle.listD A U H
/-- the state of the small machine at a state of the Java machine -/
def RS (D : va_G) (fz : Nat → Nat) (A : Nat → Prop) (s : State) (nL c0 s0 : Nat) (l st : List mV) (h : mH) (φ : Int → Nat) (cA : Int → ClassId) (tys : List (ClassId × FieldType)) (ls : Array Slot) (sv : List Value) (H : Heap) (locs : List Loc) (cells slots : Nat) : Prop :=
  HR D A s φ cA tys h H ∧ rst fz φ h st sv ∧ rlo fz φ h l ls nL ∧ va_S A s.heap H locs ∧ cells + c0 = h.cnt ∧ slots + s0 = h.sl
theorem RS.stk {D : va_G} {fz : Nat → Nat} {A : Nat → Prop} {s : State} {nL c0 s0 : Nat} {l st st' : List mV} {h : mH} {φ : Int → Nat} {cA : Int → ClassId} {tys : List (ClassId × FieldType)} {ls : Array Slot} {sv sv' : List Value} {H : Heap} {locs : List Loc} {cells slots : Nat} (q : RS D fz A s nL c0 s0 l st h φ cA tys ls sv H locs cells slots) (r : rst fz φ h st' sv') : RS D fz A s nL c0 s0 l st' h φ cA tys ls sv' H locs cells slots := ⟨q.1, r, q.2.2⟩
theorem RS.loc {D : va_G} {fz : Nat → Nat} {A : Nat → Prop} {s : State} {nL c0 s0 : Nat} {l l' st st' : List mV} {h : mH} {φ : Int → Nat} {cA : Int → ClassId} {tys : List (ClassId × FieldType)} {ls ls' : Array Slot} {sv sv' : List Value} {H : Heap} {locs : List Loc} {cells slots : Nat} (q : RS D fz A s nL c0 s0 l st h φ cA tys ls sv H locs cells slots) (r : rst fz φ h st' sv') (w : rlo fz φ h l' ls' nL) : RS D fz A s nL c0 s0 l' st' h φ cA tys ls' sv' H locs cells slots := ⟨q.1, r, w, q.2.2.2⟩
theorem mgp_s (l : List mV) (i : Nat) (v : mV) (h : i < l.length) : mget (mput l i v) i = v := by
  induction l generalizing i with
  | nil => simp at h
  | cons a r ih =>
    cases i with
    | zero => rfl
    | succ i => exact ih i (by simpa using h)
theorem mgp_n (l : List mV) (i j : Nat) (v : mV) (h : j ≠ i) : mget (mput l i v) j = mget l j := by
  induction l generalizing i j with
  | nil => rfl
  | cons a r ih =>
    cases i with
    | zero =>
      cases j with
      | zero => exact absurd rfl h
      | succ j => rfl
    | succ i =>
      cases j with
      | zero => rfl
      | succ j => exact ih i j (by omega)
theorem mget_ge (l : List mV) (i : Nat) (h : l.length ≤ i) : mget l i = vU := by
  induction l generalizing i with
  | nil => rfl
  | cons a r ih =>
    cases i with
    | zero => simp at h
    | succ i => exact ih i (by simpa using h)
/-- a value, when the memory has grown -/
theorem okv.up {h h' : mH} {kd : Nat} {z : Int} (q : okv h kd z) (e : mExt h h') : okv h' kd z := by
  unfold okv at *
  split at q
  · exact q
  · exact q
  · rcases q with q | ⟨a, b, c⟩
    · exact Or.inl q
    · have := e.1
      exact Or.inr ⟨a, by omega, (e.2.2.2 _ b).trans c⟩
theorem rvk_up {h : mH} {φ φ' : Int → Nat} {kd : Nat} {z : Int} (q : okv h kd z) (e : ∀ a : Int, a ≤ h.cnt → φ' a = φ a) : rvk φ' kd z = rvk φ kd z := by
  unfold okv at q
  unfold rvk
  split at q
  · rfl
  · rfl
  · rcases q with q | ⟨a, b, c⟩
    · simp [q]
    · simp [e z b]
theorem rvl.up {fz : Nat → Nat} {φ φ' : Int → Nat} {h h' : mH} {v : mV} {w : Value} (q : rvl fz φ h v w) (e : mExt h h') (f : ∀ a : Int, a ≤ h.cnt → φ' a = φ a) : rvl fz φ' h' v w := by
  unfold rvl at *
  split at q
  · exact q
  · exact q
  · exact ⟨q.1.up e, by rw [rvk_up q.1 f]; exact q.2⟩
  · obtain ⟨⟨a, b, c⟩, d⟩ := q
    have := e.1
    exact ⟨⟨a, by omega, (e.2.2.2 _ b).trans c⟩, by rw [f _ b]; exact d⟩
  · exact q
  · exact q
theorem rst.up {fz : Nat → Nat} {φ φ' : Int → Nat} {h h' : mH} (e : mExt h h') (f : ∀ a : Int, a ≤ h.cnt → φ' a = φ a) : ∀ {v : List mV} {w : List Value}, rst fz φ h v w → rst fz φ' h' v w := by
  intro v
  induction v with
  | nil => intro w q; exact q
  | cons a r ih =>
    intro w q
    obtain ⟨x, y, h1, h2, h3⟩ := q
    exact ⟨x, y, h1, h2.up e f, ih h3⟩
theorem rlo.up {fz : Nat → Nat} {φ φ' : Int → Nat} {h h' : mH} (e : mExt h h') (f : ∀ a : Int, a ≤ h.cnt → φ' a = φ a) {l : List mV} {ls : Array Slot} {nL : Nat} (q : rlo fz φ h l ls nL) : rlo fz φ' h' l ls nL := by
  refine ⟨q.1, q.2.1, fun i => ?_⟩
  rcases q.2.2 i with a | a | ⟨w, a, b⟩
  · exact Or.inl a
  · exact Or.inr (Or.inl a)
  · exact Or.inr (Or.inr ⟨w, a.up e f, b⟩)
theorem wsX_len (φ : Int → Nat) (cA : Int → ClassId) (h : mH) : (wsX φ cA h).length = h.cnt := by simp [wsX]
theorem wsX_at (φ : Int → Nat) (cA : Int → ClassId) (h : mH) (i : Nat) : (wsX φ cA h)[i]? = if i < h.cnt then some (φ ((i : Int) + 1), cel φ cA h ((i : Int) + 1)) else none := by
  unfold wsX
  rw [List.getElem?_map]
  by_cases hi : i < h.cnt
  · rw [List.getElem?_range hi, if_pos hi]; rfl
  · rw [if_neg hi, List.getElem?_eq_none (by simpa using hi)]; rfl
theorem wsX_get (φ : Int → Nat) (cA : Int → ClassId) {h : mH} {a : Int} (h1 : 1 ≤ a) (h2 : a ≤ h.cnt) : (wsX φ cA h)[(a - 1).toNat]? = some (φ a, cel φ cA h a) := by
  rw [wsX_at, if_pos (by omega)]
  have : (((a - 1).toNat : Nat) : Int) + 1 = a := by omega
  rw [this]
/-- the world behind a write: one cell anew -/
theorem wsX_put {φ : Int → Nat} {cA : Int → ClassId} {h h' : mH} {a : Int} {e : va_E} (hc : h'.cnt = h.cnt) (h1 : 1 ≤ a) (h2 : a ≤ h.cnt) (ha : cel φ cA h' a = e) (hb : ∀ b : Int, b ≠ a → cel φ cA h' b = cel φ cA h b) : (wsX φ cA h).set (a - 1).toNat (φ a, e) = wsX φ cA h' := by
  apply List.ext_getElem?
  intro i
  rw [List.getElem?_set, wsX_at, wsX_at, wsX_len, hc]
  by_cases hi : (a - 1).toNat = i
  · subst hi
    have e1 : (((a - 1).toNat : Nat) : Int) + 1 = a := by omega
    rw [if_pos rfl, if_pos (by omega), if_pos (by omega), e1, ha]
  · rw [if_neg hi]
    by_cases hl : i < h.cnt
    · rw [if_pos hl, if_pos hl, hb _ (by omega)]
    · rw [if_neg hl, if_neg hl]
/-- the world behind a making: one cell more -/
theorem wsX_new {φ φ' : Int → Nat} {cA cA' : Int → ClassId} {h h' : mH} {q : Nat} {e : va_E} (hc : h'.cnt = h.cnt + 1) (hq : φ' h.top = q) (he : cel φ' cA' h' h.top = e) (hb : ∀ b : Int, 1 ≤ b → b ≤ h.cnt → φ' b = φ b ∧ cel φ' cA' h' b = cel φ cA h b) : wsX φ cA h ++ [(q, e)] = wsX φ' cA' h' := by
  unfold wsX
  rw [hc, List.range_succ, List.map_append]
  congr 1
  · apply List.map_congr_left
    intro i hi
    rw [List.mem_range] at hi
    obtain ⟨x, y⟩ := hb ((i : Int) + 1) (by omega) (by omega)
    rw [x, y]
  · simp only [List.map_cons, List.map_nil]
    have e1 : ((h.cnt : Nat) : Int) + 1 = h.top := rfl
    rw [e1, hq, he]
theorem WT.obj {h : mH} (w : WT h) {a : Int} {t : Nat} (h1 : 1 ≤ a) (h2 : a ≤ h.cnt) (ht : h.T a = t) (hl : t < 100) : ∀ k : Nat, k < nfl t → okv h (fkd t k) (h.M a (k : Int)) := by
  subst ht
  rcases w a h1 h2 with q | q
  · exact q.2
  · have := q.1
    unfold okA at this
    omega
theorem WT.arr {h : mH} (w : WT h) {a : Int} {t : Nat} (h1 : 1 ≤ a) (h2 : a ≤ h.cnt) (ht : h.T a = t) (hl : 100 ≤ t) : 0 ≤ h.N a ∧ h.N a ≤ 1000000 ∧ ∀ j : Int, okv h (akd t) (h.M a j) := by
  subst ht
  rcases w a h1 h2 with q | q
  · have := q.1
    omega
  · exact q.2
theorem cel_obj {φ : Int → Nat} {cA : Int → ClassId} {h : mH} {a : Int} {t : Nat} (ht : h.T a = t) (hl : t < 100) : cel φ cA h a = .inr (t, (List.range (nfl t)).map fun k => rvk φ (fkd t k) (h.M a (k : Int))) := by
  subst ht
  unfold cel
  rw [if_pos hl]
theorem cel_arr {φ : Int → Nat} {cA : Int → ClassId} {h : mH} {a : Int} {t : Nat} (ht : h.T a = t) (hl : 100 ≤ t) : cel φ cA h a = .inl (cA a, (h.N a).toNat, aco φ t (h.M a)) := by
  subst ht
  unfold cel
  rw [if_neg (by omega)]
theorem cel_fs {φ : Int → Nat} {t k : Nat} {f : Int → Int} (hk : k < nfl t) : ((List.range (nfl t)).map fun k => rvk φ (fkd t k) (f (k : Int)))[k]? = some (rvk φ (fkd t k) (f (k : Int))) := by
  rw [List.getElem?_map, List.getElem?_range hk]; rfl
theorem cel_up {φ φ' : Int → Nat} {cA cA' : Int → ClassId} {h h' : mH} {b : Int} (w : WT h) (h1 : 1 ≤ b) (h2 : b ≤ h.cnt) (e : ∀ a : Int, a ≤ h.cnt → φ' a = φ a) (ec : cA' b = cA b) (hT : h'.T b = h.T b) (hN : h'.N b = h.N b) (hM : h'.M b = h.M b) : cel φ' cA' h' b = cel φ cA h b := by
  rcases w b h1 h2 with ⟨q1, q2⟩ | ⟨q1, q2, q3, q4⟩
  · rw [cel_obj (hT) (by omega), cel_obj rfl (by omega), hM]
    congr 2
    apply List.map_congr_left
    intro k hk
    rw [List.mem_range] at hk
    exact rvk_up (q2 k hk) e
  · have hl : 100 ≤ h.T b := by unfold okA at q1; omega
    rw [cel_arr hT hl, cel_arr rfl hl, ec, hN, hM]
    congr 3
    unfold aco
    by_cases t1 : h.T b = 101
    · rw [if_pos t1, if_pos t1]
    · rw [if_neg t1, if_neg t1]
      by_cases t2 : h.T b < 200
      · rw [if_pos t2, if_pos t2]
      · rw [if_neg t2, if_neg t2]
        congr 4
        funext j
        have := q4 j
        have hk : akd (h.T b) = (h.T b - 200) + 2 := by unfold akd; rw [if_neg t1, if_neg t2]; omega
        rw [hk] at this
        rcases this with z | ⟨z1, z2, z3⟩
        · rw [if_pos z, if_pos z]
        · rw [if_neg (by omega), if_neg (by omega), e _ z2]
