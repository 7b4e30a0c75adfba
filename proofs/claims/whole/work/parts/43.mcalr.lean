/-! THE PURE PART, a calendar's text; the reference reads it -/
abbrev CD : Type := (Int → Int → Int) × (Int → Int × Int × Int) × (Int → Int) × (Int → Int × Int × Int)
noncomputable def caU (T : Int → Int) (C : CD) (j : Int) (s : Int × Int) : CD :=
  (fun i => if i = j + 1 then lpR (chR T (C.1 j) (keyT (C.2.1 j)) s) else C.1 i,
   fun i => if i = j + 1 then chF (lpR (chR T (C.1 j) (keyT (C.2.1 j)) s)) (chY T s).1 (chM T s).1 (chD T s).1 (chN T (C.1 j) (keyT (C.2.1 j)) s).1 else C.2.1 i,
   fun i => if i = j + 1 then C.2.2.1 j + ord (C.1 j) (chY T s).1 (chM T s).1 (chD T s).1 - ordT (C.1 j) (C.2.1 j) + 1 else C.2.2.1 i,
   fun i => if i = j then ((chY T s).1, (chM T s).1, (chD T s).1) else C.2.2.2 i)
noncomputable def caS (T : Int → Int) : Nat → Int → CD → Int × Int → Int × CD × Int × Int
  | 0, j, C, s => (j, C, s)
  | f + 1, j, C, s => if s.2 = -1 ∧ T (sk T s.1) = 64 then
      (if (chR T (C.1 j) (keyT (C.2.1 j)) (sk T s.1 + 1, -1)).2.2.2.2 = -1 then caS T f (j + 1) (caU T C j (sk T s.1 + 1, -1)) (chR T (C.1 j) (keyT (C.2.1 j)) (sk T s.1 + 1, -1)).2.2.2 else (j, C, (chR T (C.1 j) (keyT (C.2.1 j)) (sk T s.1 + 1, -1)).2.2.2)) else (j, C, s)
theorem caS_no {T : Int → Int} {f : Nat} {j : Int} {C : CD} {s : Int × Int} (h : ¬ (s.2 = -1 ∧ T (sk T s.1) = 64)) : caS T f j C s = (j, C, s) := by
  cases f with
  | zero => rfl
  | succ f => exact if_neg h
theorem caS_bad {T : Int → Int} {f : Nat} {j : Int} {C : CD} {s : Int × Int} (h : s.2 = -1 ∧ T (sk T s.1) = 64) (h2 : (chR T (C.1 j) (keyT (C.2.1 j)) (sk T s.1 + 1, -1)).2.2.2.2 ≠ -1) : caS T (f + 1) j C s = (j, C, (chR T (C.1 j) (keyT (C.2.1 j)) (sk T s.1 + 1, -1)).2.2.2) := (if_pos h).trans (if_neg h2)
theorem caS_on {T : Int → Int} {f : Nat} {j : Int} {C : CD} {s : Int × Int} (h : s.2 = -1 ∧ T (sk T s.1) = 64) (h2 : (chR T (C.1 j) (keyT (C.2.1 j)) (sk T s.1 + 1, -1)).2.2.2.2 = -1) : caS T (f + 1) j C s = caS T f (j + 1) (caU T C j (sk T s.1 + 1, -1)) (chR T (C.1 j) (keyT (C.2.1 j)) (sk T s.1 + 1, -1)).2.2.2 := (if_pos h).trans (if_pos h2)
/-- what holds of a calendar's data: its stretches one behind the other -/
def cdv (j : Int) (C : CD) : Prop := (∀ i, 0 ≤ i → i ≤ j → vdT (C.1 i) (C.2.1 i) ∧ (C.2.1 i).1 ≤ 10000 ∧ 0 ≤ C.2.2.1 i ∧ C.2.2.1 i ≤ 9 + 4000000 * i ∧ (∀ y, C.1 i y = 0 ∨ C.1 i y = 1)) ∧ (∀ i, 0 ≤ i → i < j → vdT (C.1 i) (C.2.2.2 i) ∧ (C.2.2.2 i).1 ≤ 9999 ∧ keyT (C.2.1 i) ≤ keyT (C.2.2.2 i) ∧ keyT (C.2.2.2 i) < keyT (C.2.1 (i + 1)) ∧ C.2.2.1 (i + 1) = C.2.2.1 i + ordT (C.1 i) (C.2.2.2 i) - ordT (C.1 i) (C.2.1 i) + 1) ∧ C.2.1 0 = (1, 1, 1) ∧ ∀ i, j ≤ i → C.2.2.2 i = (9999, 12, 31)
theorem lpR_01 {T : Int → Int} {N : Int} (hT : tpo T N) : ∀ (n : Nat) (k : Int) (b i : Int → Int) (s : Int × Int), 0 ≤ k → (∀ j, 0 ≤ j → j < k → i j = 0 ∨ i j = 1) → ∀ y, lpR (rlS T n k b i s) y = 0 ∨ lpR (rlS T n k b i s) y = 1 := by
  intro n
  induction n with
  | zero =>
    intro k b i s k0 h y
    rw [rlS_z]
    exact lpk_01 _ _ fun j j0 j1 => h j j0 (by dsimp only at j1; omega)
  | succ n ih =>
    intro k b i s k0 h y
    have h1 : ∀ v : Int, (v = 0 ∨ v = 1) → ∀ j, 0 ≤ j → j < k + 1 → upf i k v j = 0 ∨ upf i k v j = 1 := by
      intro v hv j j0 j1
      unfold upf
      by_cases z : j = k
      · rw [if_pos z]; exact hv
      · rw [if_neg z]; exact h j j0 (by omega)
    have hv : (if T (sk T (nmS T 1 9999 s).2.1) = 43 then (1 : Int) else 0) = 0 ∨ (if T (sk T (nmS T 1 9999 s).2.1) = 43 then (1 : Int) else 0) = 1 := by
      split
      · exact Or.inr rfl
      · exact Or.inl rfl
    by_cases a : (nmS T 1 9999 s).2.2 = -1
    · by_cases c : T (sk T (nmS T 1 9999 s).2.1) = 43 ∨ T (sk T (nmS T 1 9999 s).2.1) = 45
      · by_cases d : 48 ≤ T (sk T (sk T (nmS T 1 9999 s).2.1 + 1)) ∧ T (sk T (sk T (nmS T 1 9999 s).2.1 + 1)) ≤ 57
        · rw [rlS_on a c d]
          exact ih _ _ _ _ (by omega) (h1 _ hv) y
        · rw [rlS_end a c d]
          exact lpk_01 _ _ fun j j0 j1 => h1 _ hv j j0 (by dsimp only at j1; omega)
      · rw [rlS_no a c]
        exact lpk_01 _ _ fun j j0 j1 => h j j0 (by dsimp only at j1; omega)
    · rw [rlS_bad a]
      exact lpk_01 _ _ fun j j0 j1 => h j j0 (by dsimp only at j1; omega)
theorem cdv_up {T : Int → Int} {N : Int} (hT : tpo T N) {j : Int} {C : CD} (V : cdv j C) (j0 : 0 ≤ j) {s : Int × Int} (g : gs N s) (s0 : s.2 = -1) (h : (chR T (C.1 j) (keyT (C.2.1 j)) s).2.2.2.2 = -1) : cdv (j + 1) (caU T C j s) := by
  obtain ⟨⟨y1, y2⟩, ⟨m1, m2⟩, ⟨d1, d2⟩, ⟨n1, n2⟩, dm, kk, _⟩ := ch_ok hT g (by omega) h
  obtain ⟨V1, V2, V3, V4⟩ := V
  have vF := chF_v (lpR (chR T (C.1 j) (keyT (C.2.1 j)) s)) y1 m1 m2 d1 n1 n2
  obtain ⟨a1, a2, a3, a4, a5⟩ := V1 j j0 (by omega)
  have vL : vd (C.1 j) (chY T s).1 (chM T s).1 (chD T s).1 := ⟨y1, m1, m2, d1, dm⟩
  have om := ord_mono a1 vL
  have b1 := ord_b a1
  have b2 := ord_b vL
  have c1 := yb_b (C.1 j) y1
  have c2 := yb_b (C.1 j) (y := (C.2.1 j).1) a1.1
  have yl := ylen_b (C.1 j (chY T s).1)
  have kk' : key (C.2.1 j).1 (C.2.1 j).2.1 (C.2.1 j).2.2 ≤ key (chY T s).1 (chM T s).1 (chD T s).1 := kk
  have o1 : ord (C.1 j) (C.2.1 j).1 (C.2.1 j).2.1 (C.2.1 j).2.2 ≤ ord (C.1 j) (chY T s).1 (chM T s).1 (chD T s).1 := om.mp kk'
  have lt : key (chY T s).1 (chM T s).1 (chD T s).1 < keyT (chF (lpR (chR T (C.1 j) (keyT (C.2.1 j)) s)) (chY T s).1 (chM T s).1 (chD T s).1 (chN T (C.1 j) (keyT (C.2.1 j)) s).1) := by
    obtain ⟨w1, w2, w3, w4⟩ := vF
    generalize chF (lpR (chR T (C.1 j) (keyT (C.2.1 j)) s)) (chY T s).1 (chM T s).1 (chD T s).1 (chN T (C.1 j) (keyT (C.2.1 j)) s).1 = F at w1 w2 w3 w4 ⊢
    generalize lpR (chR T (C.1 j) (keyT (C.2.1 j)) s) = lq at w1 w2
    have dq := dim_b (lq (chY T s).1) (chM T s).1
    have iq := imin_b d1 (x := dim (lq (chY T s).1) (chM T s).1) (by omega)
    have vI' : vd lq (chY T s).1 (chM T s).1 (imin (chD T s).1 (dim (lq (chY T s).1) (chM T s).1)) := ⟨y1, m1, m2, by omega, by omega⟩
    have mm := ord_mono w1 vI'
    have w2' : ord lq F.1 F.2.1 F.2.2 = ord lq (chY T s).1 (chM T s).1 (imin (chD T s).1 (dim (lq (chY T s).1) (chM T s).1)) + (chN T (C.1 j) (keyT (C.2.1 j)) s).1 + 1 := w2
    have df := dim_b (lq F.1) F.2.1
    obtain ⟨u1, u2, u3, u4, u5⟩ := w1
    have im : imin (chD T s).1 (dim (lq (chY T s).1) (chM T s).1) = (chD T s).1 ∨ imin (chD T s).1 (dim (lq (chY T s).1) (chM T s).1) = dim (lq (chY T s).1) (chM T s).1 := by
      unfold imin
      split
      · exact Or.inl rfl
      · exact Or.inr rfl
    have nl : ¬ key F.1 F.2.1 F.2.2 ≤ key (chY T s).1 (chM T s).1 (imin (chD T s).1 (dim (lq (chY T s).1) (chM T s).1)) := fun q => by
      have := mm.mp q
      omega
    show _ < key F.1 F.2.1 F.2.2
    rcases im with im | im
    · rw [im] at nl; omega
    · rw [im] at nl
      by_cases e : F.1 = (chY T s).1 ∧ F.2.1 = (chM T s).1
      · exfalso
        obtain ⟨e1, e2⟩ := e
        rw [e1, e2] at nl
        rw [e1, e2] at u5
        unfold key at nl
        omega
      · unfold key at nl ⊢
        omega
  refine ⟨fun i i0 i1 => ?_, fun i i0 i1 => ?_, ?_, fun i i1 => ?_⟩
  · unfold caU
    dsimp only
    by_cases z : i = j + 1
    · simp only [if_pos z]
      refine ⟨vF.1, by omega, ?_, ?_, lpR_01 hT 8 0 lf0 lf0 _ (by omega) (fun _ _ _ => by omega)⟩
      · show 0 ≤ C.2.2.1 j + ord (C.1 j) (chY T s).1 (chM T s).1 (chD T s).1 - ord (C.1 j) (C.2.1 j).1 (C.2.1 j).2.1 (C.2.1 j).2.2 + 1
        omega
      · show C.2.2.1 j + ord (C.1 j) (chY T s).1 (chM T s).1 (chD T s).1 - ord (C.1 j) (C.2.1 j).1 (C.2.1 j).2.1 (C.2.1 j).2.2 + 1 ≤ _
        omega
    · simp only [if_neg z]
      exact V1 i i0 (by omega)
  · unfold caU
    dsimp only
    by_cases z : i = j
    · subst z
      simp only [if_pos rfl, if_neg (show ¬ i = i + 1 by omega)]
      exact ⟨vL, y2, kk, lt, rfl⟩
    · simp only [if_neg z, if_neg (show ¬ i = j + 1 by omega), if_neg (show ¬ i + 1 = j + 1 by omega)]
      exact V2 i i0 (by omega)
  · unfold caU
    dsimp only
    rw [if_neg (by omega)]
    exact V3
  · unfold caU
    dsimp only
    rw [if_neg (by omega)]
    exact V4 i (by omega)
/-- the reference's slot c holds these data, up to stretch j -/
def mcd (h : mH) (c j : Int) (C : CD) : Prop := h.M 12 c = j + 1 ∧ (∀ i, 0 ≤ i → i ≤ j → mlr h (4 * c + i) (C.1 i) ∧ mbf h (4 * c + i) (C.1 i) ∧ h.M 17 (4 * c + i) = codT (C.2.1 i) ∧ h.M 18 (4 * c + i) = C.2.2.1 i) ∧ ∀ i, 0 ≤ i → i < j → h.M 16 (4 * c + i) = codT (C.2.2.2 i)
def WCal (c : Int) : Int → Int → Prop := fun b k => (b = 9 ∧ (k = 3 ∨ k = 4)) ∨ ((b = 11 ∨ b = 12) ∧ k = c) ∨ ((b = 13 ∨ b = 16 ∨ b = 17 ∨ b = 18) ∧ 4 * c ≤ k ∧ k < 4 * c + 4) ∨ ((b = 14 ∨ b = 15) ∧ 32 * c ≤ k ∧ k < 32 * c + 32) ∨ (b = 19 ∧ 40004 * c ≤ k ∧ k < 40004 * c + 40004)
theorem WCal_tp {c b k : Int} (w : WCal c b k) : layA b k = 0 ∧ ¬ (b = 9 ∧ k = 2) ∧ b ≠ 10 := by
  rcases w with w | w
  · obtain ⟨rfl, w⟩ := w
    rcases w with rfl | rfl
    · exact ⟨rfl, by omega, by omega⟩
    · exact ⟨rfl, by omega, by omega⟩
  · exact ⟨layA_n _ (by omega) (by omega), by omega, by omega⟩
theorem WH_WCal {c j b k : Int} (j0 : 1 ≤ j) (j1 : j ≤ 3) (w : WH c (4 * c + j) b k) : WCal c b k := by
  unfold WH WL at w
  unfold WCal
  omega
theorem WL_WCal {c b k : Int} (w : WL (4 * c) b k) : WCal c b k := by
  unfold WL at w
  unfold WCal
  omega
theorem mcd_ew {h h1 : mH} {c j : Int} {C : CD} (D : mcd h c j C) (x : Ew WP h h1) : mcd h1 c j C := by
  obtain ⟨a, b, d⟩ := D
  have e : ∀ b k, b ≠ 9 → h1.M b k = h.M b k := fun b k hb => x.2 b k fun w => hb w.1
  refine ⟨(e _ _ (by decide)).trans a, fun i i0 i1 => ?_, fun i i0 i1 => (e _ _ (by decide)).trans (d i i0 i1)⟩
  obtain ⟨b1, b2, b3, b4⟩ := b i i0 i1
  exact ⟨b1.cg fun b k w => e b k (by omega), fun y p q => (e _ _ (by decide)).trans (b2 y p q), (e _ _ (by decide)).trans b3, (e _ _ (by decide)).trans b4⟩
theorem R_change {T : Int → Int} {N : Int} (hT : tpo T N) {c j : Int} (c0 : 0 ≤ c) (c1 : c < 7) (j0 : 0 ≤ j) (j1 : j < 3) {h : mH} (H : mtp h T N) {C : CD} (D : mcd h c j C) (V : cdv j C) {st : Int × Int} (g : gs N st) (s0 : st.2 = -1) : ∃ h', Cl kM_change [vO 11 9, vI c, vI (4 * c + (j + 1))] (pss h st) = some (none, h') ∧ Ew (WCal c) h h' ∧ h'.M 9 3 = (chR T (C.1 j) (keyT (C.2.1 j)) st).2.2.2.1 ∧ h'.M 9 4 = (chR T (C.1 j) (keyT (C.2.1 j)) st).2.2.2.2 ∧ 1 ≤ h'.M 12 c ∧ h'.M 12 c ≤ 4 ∧ ((chR T (C.1 j) (keyT (C.2.1 j)) st).2.2.2.2 = -1 → mcd h' c (j + 1) (caU T C j st)) := by
  obtain ⟨D1, D2, D3⟩ := D
  obtain ⟨V1, V2, V3⟩ := V
  obtain ⟨v1, v2, v3, v4, v5⟩ := V1 j j0 (by omega)
  obtain ⟨d1, d2, d3, d4⟩ := D2 j j0 (by omega)
  have es : 4 * c + (j + 1) - 1 = 4 * c + j := by omega
  have eA := R_chA hT (c := c) (s := 4 * c + (j + 1)) (by omega) (by omega) H g (lp := C.1 j) (by rw [es]; exact d1) v1 (by rw [es]; exact d3)
  obtain ⟨h', e, x, w3, w4, w5, w6⟩ := R_chB hT (c := c) (s := 4 * c + (j + 1)) c0 c1 (by omega) (by omega) H g (by omega) (lp := C.1 j) (by rw [es]; exact d1) (by rw [es]; exact d2) v1 v2 (by rw [es]; exact d3) (by rw [es]; exact d4) v3 (by omega) D1 (by omega) (by omega)
  rw [es] at w5
  refine ⟨h', eA.trans e, x.mono fun b k w => WH_WCal (j := j + 1) (by omega) (by omega) w, w3, w4, ?_, ?_, fun z => ?_⟩
  · by_cases z : (chR T (C.1 j) (keyT (C.2.1 j)) st).2.2.2.2 = -1
    · have := (w5 z).2.2.2.2.2; omega
    · have := w6 z; omega
  · by_cases z : (chR T (C.1 j) (keyT (C.2.1 j)) st).2.2.2.2 = -1
    · have := (w5 z).2.2.2.2.2; omega
    · have := w6 z; omega
  · obtain ⟨q1, q2, q3, q4, q5, q6⟩ := w5 z
    have keep : ∀ b k, (b = 17 ∨ b = 18) → k ≠ 4 * c + (j + 1) → h'.M b k = h.M b k := fun b k hb hk => x.2 b k fun w => by
      unfold WH WL at w; omega
    refine ⟨by omega, fun i i0 i1 => ?_, fun i i0 i1 => ?_⟩
    · unfold caU
      dsimp only
      by_cases y : i = j + 1
      · subst y
        simp only [if_pos rfl]
        exact ⟨q4, q5, q2, q3⟩
      · simp only [if_neg y]
        obtain ⟨b1, b2, b3, b4⟩ := D2 i i0 (by omega)
        exact ⟨b1.ew x fun b k w v => by unfold WH WL at v; omega, b2.ew x fun k k0 k1 v => by unfold WH WL at v; omega, (keep 17 _ (Or.inl rfl) (by omega)).trans b3, (keep 18 _ (Or.inr rfl) (by omega)).trans b4⟩
    · unfold caU
      dsimp only
      by_cases y : i = j
      · subst y
        rw [if_pos rfl]
        exact q1
      · rw [if_neg y]
        exact (x.2 16 _ fun w => by unfold WH WL at w; omega).trans (D3 i i0 (by omega))
theorem R_cal5 {T : Int → Int} {N : Int} (hT : tpo T N) {c : Int} (c0 : 0 ≤ c) (c1 : c < 7) (u : mV) : ∀ (f : Nat) (j : Int) (C : CD) (s : Int × Int) (h : mH), mtp h T N → h.M 9 3 = s.1 → h.M 9 4 = s.2 → gs N s → j + f = 3 → 0 ≤ j → (s.2 = -1 → mcd h c j C ∧ cdv j C) → 1 ≤ h.M 12 c → h.M 12 c ≤ 4 → ∃ h', Rn kM_readCalendar 5 [vO 11 9, vI c, u] [] h = Rn kM_readCalendar 11 [vO 11 9, vI c, u] [] h' ∧ Ew (WCal c) h h' ∧ h'.M 9 4 = (caS T f j C s).2.2.2 ∧ 1 ≤ h'.M 12 c ∧ h'.M 12 c ≤ 4 ∧ gs N (caS T f j C s).2.2 ∧ ((caS T f j C s).2.2.2 = -1 → h'.M 9 3 = sk T (caS T f j C s).2.2.1 ∧ mcd h' c (caS T f j C s).1 (caS T f j C s).2.1 ∧ cdv (caS T f j C s).1 (caS T f j C s).2.1 ∧ 0 ≤ (caS T f j C s).1 ∧ (caS T f j C s).1 ≤ 3) := by
  have hn := hT.2.1
  -- no sign for a change
  have stop : ∀ (j : Int) (C : CD) (s : Int × Int) (h : mH), mtp h T N → h.M 9 3 = s.1 → h.M 9 4 = s.2 → gs N s → 0 ≤ j → j ≤ 3 → (s.2 = -1 → mcd h c j C ∧ cdv j C) → 1 ≤ h.M 12 c → h.M 12 c ≤ 4 → (s.2 = -1 → T (sk T s.1) = 64 → h.M 12 c = 4) → ∃ h', Rn kM_readCalendar 5 [vO 11 9, vI c, u] [] h = Rn kM_readCalendar 11 [vO 11 9, vI c, u] [] h' ∧ Ew (WCal c) h h' ∧ h'.M 9 4 = s.2 ∧ 1 ≤ h'.M 12 c ∧ h'.M 12 c ≤ 4 ∧ gs N s ∧ (s.2 = -1 → h'.M 9 3 = sk T s.1 ∧ mcd h' c j C ∧ cdv j C ∧ 0 ≤ j ∧ j ≤ 3) := by
    intro j C s h H h3 h4 g j0 j1 D n1 n4 hz
    have L := H.1
    by_cases q : s.2 = -1
    · obtain ⟨g1, g2⟩ := g q
      have x := pst_ew h (sk T s.1) s.2
      have L1 := pst_lay L (sk T s.1) s.2
      refine ⟨pst h (sk T s.1) s.2, ?_, x.mono fun _ _ w => Or.inl w, rfl, n1, n4, g, fun _ => ⟨rfl, mcd_ew (D q).1 x, (D q).2, j0, j1⟩⟩
      rw [E_M_readCalendar_5, h4, if_pos q]
      have e := R_look hT H s.2 g1 g2
      rw [← pst_of h3 h4] at e
      rw [e, Z_bI]
      by_cases z : T (sk T s.1) = 64
      · have n5 : (pst h (sk T s.1) s.2).M 12 c = 4 := hz q z
        rw [if_pos z, lm6 L1, ln12 L1, gd_t (by omega), n5, if_neg (by decide)]
      · rw [if_neg z]
    · refine ⟨h, ?_, Ew.rf _ _, h4, n1, n4, g, fun z => absurd z q⟩
      rw [E_M_readCalendar_5, h4, if_neg q]
  intro f
  induction f with
  | zero =>
    intro j C s h H h3 h4 g e j0 D n1 n4
    exact stop j C s h H h3 h4 g j0 (by omega) D n1 n4 fun q _ => by have := (D q).1.1; omega
  | succ f ih =>
    intro j C s h H h3 h4 g e j0 D n1 n4
    have L := H.1
    by_cases q : s.2 = -1 ∧ T (sk T s.1) = 64
    · obtain ⟨q1, q2⟩ := q
      obtain ⟨g1, g2⟩ := g q1
      have sb := sk_b hT g1 g2
      have lt := tp_lt hT (a := sk T s.1) (by omega)
      obtain ⟨D0, V0⟩ := D q1
      have L1 := pst_lay L (sk T s.1) s.2
      have gn : gs N (sk T s.1 + 1, -1) := fun _ => by dsimp only; omega
      obtain ⟨h', e1, x1, w3, w4, k1, k4, wD⟩ := R_change hT c0 c1 j0 (by omega) H D0 V0 gn rfl
      have go : Rn kM_readCalendar 5 [vO 11 9, vI c, u] [] h = Rn kM_readCalendar 5 [vO 11 9, vI c, u] [] h' := by
        have e2 := R_look hT H s.2 g1 g2
        rw [← pst_of h3 h4] at e2
        have n5 : (pst h (sk T s.1) s.2).M 12 c = j + 1 := D0.1
        have L2 := pst_lay L (sk T s.1 + 1) s.2
        have n6 : (pst h (sk T s.1 + 1) s.2).M 12 c = j + 1 := D0.1
        rw [E_M_readCalendar_5, h4, if_pos q1, e2, Z_bI, if_pos q2, lm6 L1, ln12 L1, gd_t (by omega), n5, if_pos (by omega), Z_hl, pst_3, Z_wI (by omega), pst_s3, lm6 L2, ln12 L2, gd_t (by omega), n6, Z_wI (z := 4 * c) (by omega), Z_wI (by omega)]
        have e3 : Cl kM_change [vO 11 9, vI c, vI (4 * c + (j + 1))] (pst h (sk T s.1 + 1) s.2) = some (none, h') := by rw [q1]; exact e1
        rw [e3, Z_bV]
      rw [go]
      have H1 := Ew.mtp H x1 fun _ _ w => WCal_tp w
      by_cases z : (chR T (C.1 j) (keyT (C.2.1 j)) (sk T s.1 + 1, -1)).2.2.2.2 = -1
      · rw [caS_on ⟨q1, q2⟩ z]
        have gg : gs N (chR T (C.1 j) (keyT (C.2.1 j)) (sk T s.1 + 1, -1)).2.2.2 := by
          rcases rlS_b hT 8 0 lf0 lf0 _ (ch_g hT (C.1 j) (keyT (C.2.1 j)) gn).2.2.2.2.2.2.2.2 with y | y
          · exact y.1
          · exfalso
            have q : (sgn T 58 (chN T (C.1 j) (keyT (C.2.1 j)) (sk T s.1 + 1, -1)).2).2 ≠ -1 := by omega
            have e : (chR T (C.1 j) (keyT (C.2.1 j)) (sk T s.1 + 1, -1)) = (0, lf0, lf0, (nmS T 1 9999 (sgn T 58 (chN T (C.1 j) (keyT (C.2.1 j)) (sk T s.1 + 1, -1)).2)).2) := rlS_bad (n := 7) (by unfold nmS; rw [if_neg q]; exact q)
            rw [e] at z
            dsimp only at z
            unfold nmS at z
            rw [if_neg q] at z
            exact q z
        obtain ⟨h2, e2, x2, r⟩ := ih (j + 1) (caU T C j (sk T s.1 + 1, -1)) (chR T (C.1 j) (keyT (C.2.1 j)) (sk T s.1 + 1, -1)).2.2.2 h' H1 w3 w4 gg (by omega) (by omega) (fun _ => ⟨wD z, cdv_up hT V0 j0 gn rfl z⟩) k1 k4
        exact ⟨h2, e2, x1.tr x2, r⟩
      · rw [caS_bad ⟨q1, q2⟩ z]
        refine ⟨h', ?_, x1, w4, k1, k4, fun y => absurd y z, fun y => absurd y z⟩
        rw [E_M_readCalendar_5, w4, if_neg z]
    · rw [caS_no q]
      exact stop j C s h H h3 h4 g j0 (by omega) D n1 n4 fun a b => absurd ⟨a, b⟩ q
def pS0 (T : Int → Int) : Int × Int × Int := nmS T 0 9 (0, -1)
def pL0 (T : Int → Int) : Int × (Int → Int) × (Int → Int) × Int × Int := rlS T 8 0 lf0 lf0 (sgn T 58 (pS0 T).2)
def pC0 (T : Int → Int) : CD := (fun _ => lpR (pL0 T), fun _ => (1, 1, 1), fun _ => (pS0 T).1, fun _ => (9999, 12, 31))
noncomputable def pCa (T : Int → Int) : Int × CD × Int × Int := caS T 3 0 (pC0 T) (pL0 T).2.2.2
noncomputable def pCw (T : Int → Int) : Int := (fnS T (pCa T).2.2).2
theorem pC0_v {T : Int → Int} {N : Int} (hT : tpo T N) (h : (pL0 T).2.2.2.2 = -1) : cdv 0 (pC0 T) ∧ 0 ≤ (pS0 T).1 ∧ (pS0 T).1 ≤ 9 ∧ (pS0 T).2.2 = -1 := by
  have g0 : gs N (0, -1) := fun _ => ⟨by decide, hT.1⟩
  have b := nmS_b hT g0 (lo := 0) 9 (by omega)
  have g1 := sgn_g hT b.1 (c := 58) (by decide)
  have z : (sgn T 58 (pS0 T).2).2 = -1 := by
    by_cases q : (sgn T 58 (pS0 T).2).2 = -1
    · exact q
    · exfalso
      have e : pL0 T = (0, lf0, lf0, (nmS T 1 9999 (sgn T 58 (pS0 T).2)).2) := rlS_bad (n := 7) (by unfold nmS; rw [if_neg q]; exact q)
      rw [e] at h
      dsimp only at h
      unfold nmS at h
      rw [if_neg q] at h
      exact q h
  have z2 := (sgn_ok z (gs_sk hT b.1)).1
  have b2 := b.2.2.2 z2
  have s1 : 0 ≤ (pS0 T).1 ∧ (pS0 T).1 ≤ 9 := ⟨b2.2.1, b2.2.2.1⟩
  refine ⟨⟨fun i i0 i1 => ?_, fun i i0 i1 => by omega, rfl, fun _ _ => rfl⟩, s1.1, s1.2, z2⟩
  have d := dim_b (lpR (pL0 T) 1) 1
  refine ⟨⟨(by decide : (1 : Int) ≤ 1), (by decide : (1 : Int) ≤ 1), (by decide : (1 : Int) ≤ 12), (by decide : (1 : Int) ≤ 1), ?_⟩, (by decide : (1 : Int) ≤ 10000), s1.1, ?_, lpR_01 hT 8 0 lf0 lf0 _ (by omega) (fun _ _ _ => by omega)⟩
  · show (1 : Int) ≤ dim (lpR (pL0 T) 1) 1
    omega
  · show (pS0 T).1 ≤ 9 + 4000000 * i
    omega
theorem pst_set (h : mH) (a w : Int) {b : Int} (k v : Int) (hb : b ≠ 9) : (pst h a w).set b k v = pst (h.set b k v) a w := by
  unfold pst
  rw [set_comm _ _ _ (Or.inl hb.symm), set_comm _ _ _ (Or.inl hb.symm)]
theorem R_cal11 {T : Int → Int} {N : Int} (hT : tpo T N) {c : Int} (c0 : 0 ≤ c) (c1 : c < 7) {h : mH} (H : mtp h T N) {s : Int × Int} (g : gs N s) (h4 : h.M 9 4 = s.2) (h3 : s.2 = -1 → h.M 9 3 = sk T s.1) (n1 : 1 ≤ h.M 12 c) (n4 : h.M 12 c ≤ 4) (u : mV) : ∃ h', Rn kM_readCalendar 11 [vO 11 9, vI c, u] [] h = some (some (vI (fnS T s).2), h') ∧ Ew (WCal c) h h' ∧ h'.M 16 (4 * c + h.M 12 c - 1) = cod 9999 12 31 ∧ (∀ b k, b ≠ 9 → ¬ (b = 16 ∧ k = 4 * c + h.M 12 c - 1) → h'.M b k = h.M b k) := by
  have L := H.1
  have hn := hT.2.1
  unfold fnS
  by_cases q : s.2 = -1
  · obtain ⟨g1, g2⟩ := g q
    have sb := sk_b hT g1 g2
    have e := R_look hT H (a := sk T s.1) (-1) (by omega) sb.2.1
    rw [← pst_of (h3 q) (h4.trans q), sb.2.2.2] at e
    have L1 := pst_lay L (sk T s.1) (-1)
    have nn : (pst h (sk T s.1) (-1)).M 12 c = h.M 12 c := rfl
    by_cases z : T (sk T s.1) = -1
    · refine ⟨(pst h (sk T s.1) (-1)).set 16 (4 * c + h.M 12 c - 1) (cod 9999 12 31), ?_, ((pst_ew h _ _).mono fun _ _ w => Or.inl w).tr (Ew.st _ _ (Or.inr (Or.inr (Or.inl ⟨by omega, by omega, by omega⟩)))), Z_Mt .., fun b k hb hk => ?_⟩
      · rw [if_neg fun w => w.2 z, E_M_readCalendar_11, h4, if_pos q, e, Z_bI, if_pos z, lm6 L1, ln12 L1, gd_t (by omega), R_code _ (by decide) (by decide) (by decide) (by decide) (by decide) (by decide), Z_bI, nn, Z_wI (z := 4 * c) (by omega), Z_wI (z := 4 * c + h.M 12 c) (by omega), Z_wI (z := 4 * c + h.M 12 c - 1) (by omega), lm10 L1, ln16 L1, gd_t (by omega), Z_hl, Z_Mn (by omega), pst_4, q]
      · rw [Z_Mn (by omega), pst_n _ _ _ (by omega)]
    · have L2 := pst_lay L (sk T s.1) (sk T s.1)
      refine ⟨(pst h (sk T s.1) (sk T s.1)).set 16 (4 * c + h.M 12 c - 1) (cod 9999 12 31), ?_, ((pst_ew h _ _).mono fun _ _ w => Or.inl w).tr (Ew.st _ _ (Or.inr (Or.inr (Or.inl ⟨by omega, by omega, by omega⟩)))), Z_Mt .., fun b k hb hk => ?_⟩
      · have nn2 : (pst h (sk T s.1) (sk T s.1)).M 12 c = h.M 12 c := rfl
        rw [if_pos ⟨q, z⟩, E_M_readCalendar_11, h4, if_pos q, e, Z_bI, if_neg z, R_bad, Z_bV, if_pos rfl, lm6 L2, ln12 L2, gd_t (by omega), R_code _ (by decide) (by decide) (by decide) (by decide) (by decide) (by decide), Z_bI, nn2, Z_wI (z := 4 * c) (by omega), Z_wI (z := 4 * c + h.M 12 c) (by omega), Z_wI (z := 4 * c + h.M 12 c - 1) (by omega), lm10 L2, ln16 L2, gd_t (by omega), Z_hl, Z_Mn (by omega), pst_4]
      · rw [Z_Mn (by omega), pst_n _ _ _ (by omega)]
  · refine ⟨h.set 16 (4 * c + h.M 12 c - 1) (cod 9999 12 31), ?_, Ew.st _ _ (Or.inr (Or.inr (Or.inl ⟨by omega, by omega, by omega⟩))), Z_Mt .., fun b k hb hk => ?_⟩
    · rw [if_neg fun w => q w.1, E_M_readCalendar_11, h4, if_neg q, lm6 L, ln12 L, gd_t (by omega), R_code _ (by decide) (by decide) (by decide) (by decide) (by decide) (by decide), Z_bI, Z_wI (z := 4 * c) (by omega), Z_wI (z := 4 * c + h.M 12 c) (by omega), Z_wI (z := 4 * c + h.M 12 c - 1) (by omega), lm10 L, ln16 L, gd_t (by omega), Z_hl, Z_Mn (by omega), h4]
    · rw [Z_Mn (by omega)]
theorem R_readCal {T : Int → Int} {N : Int} (hT : tpo T N) {c : Int} (c0 : 0 ≤ c) (c1 : c < 7) {h : mH} (H : mtp h T N) : ∃ h', Cl kM_readCalendar [vO 11 9, vI c] h = some (some (vI (pCw T)), h') ∧ Ew (WCal c) h h' ∧ (pCw T = -1 → mcd h' c (pCa T).1 (pCa T).2.1 ∧ cdv (pCa T).1 (pCa T).2.1 ∧ h'.M 16 (4 * c + (pCa T).1) = codT ((pCa T).2.1.2.2.2 (pCa T).1) ∧ 0 ≤ (pCa T).1 ∧ (pCa T).1 ≤ 3) := by
  have L := H.1
  have hn := hT.2.1
  have g0 : gs N (0, -1) := fun _ => ⟨by decide, hT.1⟩
  have b := nmS_b hT g0 (lo := 0) 9 (by omega)
  have e1 := R_plain hT H g0 (lo := 0) 9 (by omega)
  have L1 := pst_lay L (pS0 T).2.1 (pS0 T).2.2
  have xA : Ew (WCal c) h (h.set 11 c (pS0 T).1) := Ew.st _ _ (Or.inr (Or.inl ⟨Or.inl rfl, rfl⟩))
  have HA := Ew.mtp H xA fun _ _ w => WCal_tp w
  have vA : (h.set 11 c (pS0 T).1).M 11 c = (pS0 T).1 := Z_Mt ..
  have e2 := R_sign hT HA b.1 58
  have g1 := sgn_g hT b.1 (c := 58) (by decide)
  obtain ⟨h6, e3, x6, w3, w4, w5⟩ := R_leaps hT (s := 4 * c) (by omega) (by omega) HA g1
  have x6' : Ew (WCal c) h h6 := xA.tr (x6.mono fun _ _ w => WL_WCal w)
  have H6 := Ew.mtp H x6' fun _ _ w => WCal_tp w
  have L6 := H6.1
  have v6 : h6.M 11 c = (pS0 T).1 := (x6.2 11 c fun w => by unfold WL at w; omega).trans vA
  obtain ⟨h10, hh⟩ : ∃ q, q = ((h6.set 12 c 1).set 17 (4 * c) (cod 1 1 1)).set 18 (4 * c) (pS0 T).1 := ⟨_, rfl⟩
  have x10 : Ew (WCal c) h6 h10 := by
    rw [hh]
    exact ((Ew.st _ _ (Or.inr (Or.inl ⟨Or.inr rfl, rfl⟩))).tr (Ew.st _ _ (Or.inr (Or.inr (Or.inl ⟨by omega, by omega, by omega⟩))))).tr (Ew.st _ _ (Or.inr (Or.inr (Or.inl ⟨by omega, by omega, by omega⟩))))
  have k10 : ∀ b k, b ≠ 12 → b ≠ 17 → b ≠ 18 → h10.M b k = h6.M b k := fun b k p1 p2 p3 => by
    rw [hh, Z_Mn (Or.inl p3), Z_Mn (Or.inl p2), Z_Mn (Or.inl p1)]
  have H10 := Ew.mtp H6 x10 fun _ _ w => WCal_tp w
  have n10 : h10.M 12 c = 1 := by rw [hh, Z_Mn (by omega), Z_Mn (by omega), Z_Mt]
  have D10 : (pL0 T).2.2.2.2 = -1 → mcd h10 c 0 (pC0 T) ∧ cdv 0 (pC0 T) := fun z => by
    obtain ⟨q1, q2⟩ := w5 z
    refine ⟨⟨n10, fun i i0 i1 => ?_, fun i i0 i1 => by omega⟩, (pC0_v hT z).1⟩
    rw [show 4 * c + i = 4 * c by omega]
    refine ⟨q1.cg fun b k w => k10 b k (by omega) (by omega) (by omega), fun y p q => (k10 _ _ (by decide) (by decide) (by decide)).trans (q2 y p q), ?_, ?_⟩
    · rw [hh, Z_Mn (by omega), Z_Mt]; rfl
    · rw [hh, Z_Mt]; rfl
  have gL : gs N (pL0 T).2.2.2 := by
    rcases rlS_b hT 8 0 lf0 lf0 _ g1 with y | y
    · exact y.1
    · intro z
      exfalso
      have q : (sgn T 58 (pS0 T).2).2 ≠ -1 := by
        have : (sgn T 58 (pS0 T).2).2 < -1 := y
        omega
      have e : pL0 T = (0, lf0, lf0, (nmS T 1 9999 (sgn T 58 (pS0 T).2)).2) := rlS_bad (n := 7) (by unfold nmS; rw [if_neg q]; exact q)
      rw [e] at z
      dsimp only at z
      unfold nmS at z
      rw [if_neg q] at z
      exact q z
  obtain ⟨h11, e5, x11, u4, m1, m4, gg, wz⟩ := R_cal5 hT c0 c1 (vI (4 * c)) 3 0 (pC0 T) (pL0 T).2.2.2 h10 H10 ((k10 _ _ (by decide) (by decide) (by decide)).trans w3) ((k10 _ _ (by decide) (by decide) (by decide)).trans w4) gL (by omega) (by omega) D10 (by omega) (by omega)
  have H11 := Ew.mtp H10 x11 fun _ _ w => WCal_tp w
  obtain ⟨h12, e6, x12, v16, k12⟩ := R_cal11 hT c0 c1 H11 gg u4 (fun z => (wz z).1) m1 m4 (vI (4 * c))
  refine ⟨h12, ?_, ((x6'.tr x10).tr x11).tr x12, fun z => ?_⟩
  · have e7 : Rn kM_readCalendar 5 [vO 11 9, vI c, vI (4 * c)] [] h10 = some (some (vI (pCw T)), h12) := e5.trans e6
    have L2 : lay (h6.set 12 c 1) := L6.st _ (layA_n _ (by decide) (by decide))
    have L3 : lay ((h6.set 12 c 1).set 17 (4 * c) (cod 1 1 1)) := L2.st _ (layA_n _ (by decide) (by decide))
    have v8 : ((h6.set 12 c 1).set 17 (4 * c) (cod 1 1 1)).M 11 c = (pS0 T).1 := by rw [Z_Mn (by omega), Z_Mn (by omega)]; exact v6
    rw [E_M_readCalendar, Z_hl, Z_hl]
    rw [show (h.set 9 3 0).set 9 4 (-1) = pss h (0, -1) from rfl, e1, Z_bI, show (pss h (0, -1)).M 9 5 = 11 from lm5 (pst_lay L 0 (-1))]
    rw [show pss h (nmS T 0 9 (0, -1)).2 = pst h (pS0 T).2.1 (pS0 T).2.2 from rfl, ln11 L1, gd_t (by omega), Z_hl, pst_set _ _ _ _ _ (by decide), show nmS T 0 9 (0, -1) = pS0 T from rfl]
    rw [show pst (h.set 11 c (pS0 T).1) (pS0 T).2.1 (pS0 T).2.2 = pss (h.set 11 c (pS0 T).1) (pS0 T).2 from rfl, show (pS0 T).2 = (nmS T 0 9 (0, -1)).2 from rfl, e2, Z_bV, Z_wI (z := 4 * c) (by omega), e3, Z_bV, lm6 L6, ln12 L6, gd_t (by omega), Z_hl, R_code _ (by decide) (by decide) (by decide) (by decide) (by decide) (by decide), Z_bI, lm11 L2, ln17 L2, gd_t (by omega), Z_hl, lm5 L3, ln11 L3, lm12 L3, ln18 L3, gd_t (by omega), gd_t (by omega), v8, ← hh, Z_hl]
    exact e7
  · have z2 : (caS T 3 0 (pC0 T) (pL0 T).2.2.2).2.2.2 = -1 := by
      by_cases q : (pCa T).2.2.2 = -1
      · exact q
      · unfold pCw fnS at z
        rw [if_neg fun w => q w.1] at z
        exact absurd z q
    obtain ⟨q1, q2, q3, q4, q5⟩ := wz z2
    have en : h11.M 12 c = (caS T 3 0 (pC0 T) (pL0 T).2.2.2).1 + 1 := q2.1
    have ek : 4 * c + h11.M 12 c - 1 = 4 * c + (pCa T).1 := by
      have : h11.M 12 c = (pCa T).1 + 1 := en
      omega
    rw [ek] at v16 k12
    refine ⟨?_, q3, ?_, q4, q5⟩
    · obtain ⟨a1, a2, a3⟩ := q2
      refine ⟨(k12 _ _ (by decide) (by omega)).trans a1, fun i i0 i1 => ?_, fun i i0 i1 => ?_⟩
      · obtain ⟨b1, b2, b3, b4⟩ := a2 i i0 i1
        exact ⟨b1.cg fun b k w => k12 b k (by omega) (by omega), fun y p q => (k12 _ _ (by decide) (by omega)).trans (b2 y p q), (k12 _ _ (by decide) (by omega)).trans b3, (k12 _ _ (by decide) (by omega)).trans b4⟩
      · refine (k12 _ _ (by decide) (fun w => ?_)).trans (a3 i i0 i1)
        have := w.2
        have i9 : i < (pCa T).1 := i1
        omega
    · rw [v16]
      have : (pCa T).2.1.2.2.2 (pCa T).1 = (9999, 12, 31) := q3.2.2.2 _ (by omega)
      rw [this]
      rfl
