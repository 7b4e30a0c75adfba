/-! THE TIE, 25: from the run of the small machine to the claim's start -/
/-- what the statement gives of an array that stands -/
def arrW (n : String) (j : Nat) : Cond := .eq (.elem (.static RX11 n "[I") (.int (Int32.ofNat j))) (.int (Int32.ofInt (fzM (if n = "MONTH_LENGTHS" then 0 else 1) (j : Int))))
theorem arr_w (n : String) (hn : n = "MONTH_LENGTHS" ∨ n = "DAYS_AHEAD") : ∀ w ∈ Cond.arrayOf (.static RX11 n "[I") .int :: Cond.eq (.length (.static RX11 n "[I")) (.int 13) :: (List.range 13).map (arrW n), w ∈ flatC (Jvm.Cond.and given_1 narrow_1) := by
  intro w hw
  rcases hn with rfl | rfl
  · exact of_decide_eq_true (List.all_eq_true.mp (show (Cond.arrayOf (.static RX11 "MONTH_LENGTHS" "[I") .int :: Cond.eq (.length (.static RX11 "MONTH_LENGTHS" "[I")) (.int 13) :: (List.range 13).map (arrW "MONTH_LENGTHS")).all (fun w => decide (w ∈ flatC (Jvm.Cond.and given_1 narrow_1))) = true by decide +kernel) w hw)
  · exact of_decide_eq_true (List.all_eq_true.mp (show (Cond.arrayOf (.static RX11 "DAYS_AHEAD" "[I") .int :: Cond.eq (.length (.static RX11 "DAYS_AHEAD" "[I")) (.int 13) :: (List.range 13).map (arrW "DAYS_AHEAD")).all (fun w => decide (w ∈ flatC (Jvm.Cond.and given_1 narrow_1))) = true by decide +kernel) w hw)
theorem starr_of {args : Array Value} {s : State} {A : Nat → Prop} (hgv : (Jvm.Cond.and given_1 narrow_1).before args s = true) (hts : ∀ w ∈ lw_tbl, w.before args s = true) (hA : ∀ a : Nat, a < s.heap.size → ¬ A a) (n : String) (i : Nat) (hi : (n = "MONTH_LENGTHS" ∧ i = 0) ∨ (n = "DAYS_AHEAD" ∧ i = 1)) (hl : Cond.laysStatic RX11 n "[I" ∈ lw_tbl) :
    ∃ t : Nat, va_Z RX11 n "[I" (.ref t) A s s.heap ∧ va_T .int t 13 (fun j => .int (Int32.ofInt (fzM i (j : Int)))) A s s.heap := by
  have hn : n = "MONTH_LENGTHS" ∨ n = "DAYS_AHEAD" := hi.elim (fun q => Or.inl q.1) (fun q => Or.inr q.1)
  have hw := fun w (h : w ∈ _) => flat_of_before _ hgv w (arr_w n hn w h)
  have e : ∀ j : Nat, fzM (if n = "MONTH_LENGTHS" then 0 else 1) (j : Int) = fzM i (j : Int) := by
    intro j
    rcases hi with ⟨rfl, rfl⟩ | ⟨rfl, rfl⟩ <;> rfl
  obtain ⟨t, h1, h2⟩ := va_Tof (f := fun j => .int (Int32.ofInt (fzM i (j : Int)))) (A := A) (by decide : 13 < 2 ^ 31) (hw _ List.mem_cons_self) (va_eqt (hw _ (List.mem_cons_of_mem _ List.mem_cons_self))) (fun j hj => by
    have q := hw (arrW n j) (List.mem_cons_of_mem _ (List.mem_cons_of_mem _ (List.mem_map.mpr ⟨j, List.mem_range.mpr hj, rfl⟩)))
    unfold arrW at q
    rw [e j] at q
    exact va_eqt q) hA
  exact ⟨t, va_Zof (hts _ hl) (hts _ (List.mem_filter.mp w_n11).1) h1 hA, h2⟩
theorem nest_0 {s : State} {args : Array Value} (hts : ∀ w ∈ lw_tbl, w.before args s = true) : nest s := by
  refine ⟨?_, ?_, ?_, ?_, ?_, ?_⟩
  · exact (List.forall_mem_cons.mpr ⟨va_Nw.of rfl (hts _ (List.mem_append_right _ (List.mem_of_getElem? (i := 137) (by decide +kernel)))), (List.forall_mem_cons.mpr ⟨va_Nw.of rfl (hts _ (List.mem_append_right _ (List.mem_of_getElem? (i := 372) (by decide +kernel)))), (List.forall_mem_cons.mpr ⟨va_Nw.of rfl (hts _ (List.mem_append_right _ (List.mem_of_getElem? (i := 374) (by decide +kernel)))), (List.forall_mem_cons.mpr ⟨va_Nw.of rfl (hts _ (List.mem_append_right _ (List.mem_of_getElem? (i := 363) (by decide +kernel)))), (List.forall_mem_cons.mpr ⟨va_Nw.of rfl (hts _ (List.mem_append_right _ (List.mem_of_getElem? (i := 325) (by decide +kernel)))), (List.forall_mem_cons.mpr ⟨va_Nw.of rfl (hts _ (List.mem_append_right _ (List.mem_of_getElem? (i := 349) (by decide +kernel)))), (List.forall_mem_cons.mpr ⟨va_Nw.of rfl (hts _ (List.mem_append_right _ (List.mem_of_getElem? (i := 365) (by decide +kernel)))), (List.forall_mem_cons.mpr ⟨va_Nw.of rfl (hts _ (List.mem_append_right _ (List.mem_of_getElem? (i := 918) (by decide +kernel)))), (List.forall_mem_cons.mpr ⟨va_Nw.of rfl (hts _ (List.mem_append_right _ (List.mem_of_getElem? (i := 880) (by decide +kernel)))), (List.forall_mem_cons.mpr ⟨va_Nw.of rfl (hts _ (List.mem_append_right _ (List.mem_of_getElem? (i := 920) (by decide +kernel)))), (List.forall_mem_cons.mpr ⟨va_Nw.of rfl (hts _ (List.mem_append_right _ (List.mem_of_getElem? (i := 898) (by decide +kernel)))), (List.forall_mem_cons.mpr ⟨va_Nw.of rfl (hts _ (List.mem_append_right _ (List.mem_of_getElem? (i := 922) (by decide +kernel)))), (List.forall_mem_cons.mpr ⟨va_Nw.of rfl (hts _ (List.mem_append_right _ (List.mem_of_getElem? (i := 924) (by decide +kernel)))), (List.forall_mem_cons.mpr ⟨va_Nw.of rfl (hts _ (List.mem_append_right _ (List.mem_of_getElem? (i := 370) (by decide +kernel)))), (List.forall_mem_cons.mpr ⟨va_Nw.of rfl (hts _ (List.mem_append_right _ (List.mem_of_getElem? (i := 888) (by decide +kernel)))), (List.forall_mem_cons.mpr ⟨va_Nw.of rfl (hts _ (List.mem_append_right _ (List.mem_of_getElem? (i := 896) (by decide +kernel)))), (List.forall_mem_cons.mpr ⟨va_Nw.of rfl (hts _ (List.mem_append_right _ (List.mem_of_getElem? (i := 892) (by decide +kernel)))), (List.forall_mem_cons.mpr ⟨va_Nw.of rfl (hts _ (List.mem_append_right _ (List.mem_of_getElem? (i := 884) (by decide +kernel)))), (List.forall_mem_cons.mpr ⟨va_Nw.of rfl (hts _ (List.mem_append_right _ (List.mem_of_getElem? (i := 207) (by decide +kernel)))), (List.forall_mem_cons.mpr ⟨va_Nw.of rfl (hts _ (List.mem_append_right _ (List.mem_of_getElem? (i := 209) (by decide +kernel)))), (List.forall_mem_cons.mpr ⟨va_Nw.of rfl (hts _ (List.mem_append_right _ (List.mem_of_getElem? (i := 894) (by decide +kernel)))), (List.forall_mem_cons.mpr ⟨va_Nw.of rfl (hts _ (List.mem_append_right _ (List.mem_of_getElem? (i := 890) (by decide +kernel)))), (List.forall_mem_cons.mpr ⟨va_Nw.of rfl (hts _ (List.mem_append_right _ (List.mem_of_getElem? (i := 886) (by decide +kernel)))), (List.forall_mem_cons.mpr ⟨va_Nw.of rfl (hts _ (List.mem_append_right _ (List.mem_of_getElem? (i := 882) (by decide +kernel)))), (List.forall_mem_cons.mpr ⟨va_Nw.of rfl (hts _ (List.mem_append_right _ (List.mem_of_getElem? (i := 134) (by decide +kernel)))), (List.forall_mem_cons.mpr ⟨va_Nw.of rfl (hts _ (List.mem_append_right _ (List.mem_of_getElem? (i := 895) (by decide +kernel)))), (List.forall_mem_cons.mpr ⟨va_Nw.of rfl (hts _ (List.mem_append_right _ (List.mem_of_getElem? (i := 891) (by decide +kernel)))), (List.forall_mem_cons.mpr ⟨va_Nw.of rfl (hts _ (List.mem_append_right _ (List.mem_of_getElem? (i := 887) (by decide +kernel)))), (List.forall_mem_cons.mpr ⟨va_Nw.of rfl (hts _ (List.mem_append_right _ (List.mem_of_getElem? (i := 883) (by decide +kernel)))), (List.forall_mem_cons.mpr ⟨va_Nw.of rfl (hts _ (List.mem_append_right _ (List.mem_of_getElem? (i := 322) (by decide +kernel)))), (List.forall_mem_cons.mpr ⟨va_Nw.of rfl (hts _ (List.mem_append_right _ (List.mem_of_getElem? (i := 346) (by decide +kernel)))), (List.forall_mem_cons.mpr ⟨va_Nw.of rfl (hts _ (List.mem_append_right _ (List.mem_of_getElem? (i := 344) (by decide +kernel)))), (List.forall_mem_cons.mpr ⟨va_Nw.of rfl (hts _ (List.mem_append_right _ (List.mem_of_getElem? (i := 513) (by decide +kernel)))), (List.forall_mem_cons.mpr ⟨va_Nw.of rfl (hts _ (List.mem_append_right _ (List.mem_of_getElem? (i := 327) (by decide +kernel)))), (fun _ h => nomatch h)⟩)⟩)⟩)⟩)⟩)⟩)⟩)⟩)⟩)⟩)⟩)⟩)⟩)⟩)⟩)⟩)⟩)⟩)⟩)⟩)⟩)⟩)⟩)⟩)⟩)⟩)⟩)⟩)⟩)⟩)⟩)⟩)⟩)⟩)
  · exact (List.forall_mem_cons.mpr ⟨va_Nw.of rfl (hts _ (List.mem_append_right _ (List.mem_of_getElem? (i := 192) (by decide +kernel)))), (List.forall_mem_cons.mpr ⟨va_Nw.of rfl (hts _ (List.mem_append_right _ (List.mem_of_getElem? (i := 274) (by decide +kernel)))), (List.forall_mem_cons.mpr ⟨va_Nw.of rfl (hts _ (List.mem_append_right _ (List.mem_of_getElem? (i := 498) (by decide +kernel)))), (List.forall_mem_cons.mpr ⟨va_Nw.of rfl (hts _ (List.mem_append_right _ (List.mem_of_getElem? (i := 317) (by decide +kernel)))), (List.forall_mem_cons.mpr ⟨va_Nw.of rfl (hts _ (List.mem_append_right _ (List.mem_of_getElem? (i := 339) (by decide +kernel)))), (List.forall_mem_cons.mpr ⟨va_Nw.of rfl (hts _ (List.mem_append_right _ (List.mem_of_getElem? (i := 828) (by decide +kernel)))), (List.forall_mem_cons.mpr ⟨va_Nw.of rfl (hts _ (List.mem_append_right _ (List.mem_of_getElem? (i := 829) (by decide +kernel)))), (List.forall_mem_cons.mpr ⟨va_Nw.of rfl (hts _ (List.mem_append_right _ (List.mem_of_getElem? (i := 830) (by decide +kernel)))), (List.forall_mem_cons.mpr ⟨va_Nw.of rfl (hts _ (List.mem_append_right _ (List.mem_of_getElem? (i := 876) (by decide +kernel)))), (List.forall_mem_cons.mpr ⟨va_Nw.of rfl (hts _ (List.mem_append_right _ (List.mem_of_getElem? (i := 877) (by decide +kernel)))), (List.forall_mem_cons.mpr ⟨va_Nw.of rfl (hts _ (List.mem_append_right _ (List.mem_of_getElem? (i := 878) (by decide +kernel)))), (List.forall_mem_cons.mpr ⟨va_Nw.of rfl (hts _ (List.mem_append_right _ (List.mem_of_getElem? (i := 616) (by decide +kernel)))), (List.forall_mem_cons.mpr ⟨va_Nw.of rfl (hts _ (List.mem_append_right _ (List.mem_of_getElem? (i := 196) (by decide +kernel)))), (List.forall_mem_cons.mpr ⟨va_Nw.of rfl (hts _ (List.mem_append_right _ (List.mem_of_getElem? (i := 265) (by decide +kernel)))), (List.forall_mem_cons.mpr ⟨va_Nw.of rfl (hts _ (List.mem_append_right _ (List.mem_of_getElem? (i := 279) (by decide +kernel)))), (List.forall_mem_cons.mpr ⟨va_Nw.of rfl (hts _ (List.mem_append_right _ (List.mem_of_getElem? (i := 282) (by decide +kernel)))), (List.forall_mem_cons.mpr ⟨va_Nw.of rfl (hts _ (List.mem_append_right _ (List.mem_of_getElem? (i := 285) (by decide +kernel)))), (List.forall_mem_cons.mpr ⟨va_Nw.of rfl (hts _ (List.mem_append_right _ (List.mem_of_getElem? (i := 289) (by decide +kernel)))), (List.forall_mem_cons.mpr ⟨va_Nw.of rfl (hts _ (List.mem_append_right _ (List.mem_of_getElem? (i := 294) (by decide +kernel)))), (List.forall_mem_cons.mpr ⟨va_Nw.of rfl (hts _ (List.mem_append_right _ (List.mem_of_getElem? (i := 297) (by decide +kernel)))), (fun _ h => nomatch h)⟩)⟩)⟩)⟩)⟩)⟩)⟩)⟩)⟩)⟩)⟩)⟩)⟩)⟩)⟩)⟩)⟩)⟩)⟩)⟩)
  · exact (List.forall_mem_cons.mpr ⟨va_AO.of (hts _ (List.mem_append_right _ (List.mem_of_getElem? (i := 29) (by decide +kernel)))), (List.forall_mem_cons.mpr ⟨va_AO.of (hts _ (List.mem_append_right _ (List.mem_of_getElem? (i := 31) (by decide +kernel)))), (List.forall_mem_cons.mpr ⟨va_AO.of (hts _ (List.mem_append_right _ (List.mem_of_getElem? (i := 33) (by decide +kernel)))), (List.forall_mem_cons.mpr ⟨va_AO.of (hts _ (List.mem_append_right _ (List.mem_of_getElem? (i := 35) (by decide +kernel)))), (List.forall_mem_cons.mpr ⟨va_AO.of (hts _ (List.mem_append_right _ (List.mem_of_getElem? (i := 161) (by decide +kernel)))), (fun _ h => nomatch h)⟩)⟩)⟩)⟩)⟩)
  · exact (List.forall_mem_cons.mpr ⟨va_Fw.of (hts _ (List.mem_append_right _ (List.mem_of_getElem? (i := 589) (by decide +kernel)))) (hts _ (List.mem_append_right _ (List.mem_of_getElem? (i := 588) (by decide +kernel)))) (hts _ (List.mem_append_right _ (List.mem_of_getElem? (i := 600) (by decide +kernel)))) (hts _ (List.mem_append_right _ (List.mem_of_getElem? (i := 598) (by decide +kernel)))) (hts _ (List.mem_append_right _ (List.mem_of_getElem? (i := 596) (by decide +kernel)))), (List.forall_mem_cons.mpr ⟨va_Fw.of (hts _ (List.mem_append_right _ (List.mem_of_getElem? (i := 589) (by decide +kernel)))) (hts _ (List.mem_append_right _ (List.mem_of_getElem? (i := 588) (by decide +kernel)))) (hts _ (List.mem_append_right _ (List.mem_of_getElem? (i := 594) (by decide +kernel)))) (hts _ (List.mem_append_right _ (List.mem_of_getElem? (i := 592) (by decide +kernel)))) (hts _ (List.mem_append_right _ (List.mem_of_getElem? (i := 590) (by decide +kernel)))), (List.forall_mem_cons.mpr ⟨va_Fw.of (hts _ (List.mem_append_right _ (List.mem_of_getElem? (i := 605) (by decide +kernel)))) (hts _ (List.mem_append_right _ (List.mem_of_getElem? (i := 604) (by decide +kernel)))) (hts _ (List.mem_append_right _ (List.mem_of_getElem? (i := 614) (by decide +kernel)))) (hts _ (List.mem_append_right _ (List.mem_of_getElem? (i := 612) (by decide +kernel)))) (hts _ (List.mem_append_right _ (List.mem_of_getElem? (i := 596) (by decide +kernel)))), (List.forall_mem_cons.mpr ⟨va_Fw.of (hts _ (List.mem_append_right _ (List.mem_of_getElem? (i := 605) (by decide +kernel)))) (hts _ (List.mem_append_right _ (List.mem_of_getElem? (i := 604) (by decide +kernel)))) (hts _ (List.mem_append_right _ (List.mem_of_getElem? (i := 609) (by decide +kernel)))) (hts _ (List.mem_append_right _ (List.mem_of_getElem? (i := 607) (by decide +kernel)))) (hts _ (List.mem_append_right _ (List.mem_of_getElem? (i := 590) (by decide +kernel)))), (List.forall_mem_cons.mpr ⟨va_Fw.of (hts _ (List.mem_append_right _ (List.mem_of_getElem? (i := 620) (by decide +kernel)))) (hts _ (List.mem_append_right _ (List.mem_of_getElem? (i := 619) (by decide +kernel)))) (hts _ (List.mem_append_right _ (List.mem_of_getElem? (i := 629) (by decide +kernel)))) (hts _ (List.mem_append_right _ (List.mem_of_getElem? (i := 627) (by decide +kernel)))) (hts _ (List.mem_append_right _ (List.mem_of_getElem? (i := 596) (by decide +kernel)))), (List.forall_mem_cons.mpr ⟨va_Fw.of (hts _ (List.mem_append_right _ (List.mem_of_getElem? (i := 620) (by decide +kernel)))) (hts _ (List.mem_append_right _ (List.mem_of_getElem? (i := 619) (by decide +kernel)))) (hts _ (List.mem_append_right _ (List.mem_of_getElem? (i := 624) (by decide +kernel)))) (hts _ (List.mem_append_right _ (List.mem_of_getElem? (i := 622) (by decide +kernel)))) (hts _ (List.mem_append_right _ (List.mem_of_getElem? (i := 590) (by decide +kernel)))), (fun _ h => nomatch h)⟩)⟩)⟩)⟩)⟩)⟩)
  · exact va_Nw.of rfl (hts _ (List.mem_append_right _ (List.mem_of_getElem? (i := 1094) (by decide +kernel))))
  · exact (List.forall_mem_cons.mpr ⟨va_Nw.of rfl (hts _ (List.mem_append_right _ (List.mem_of_getElem? (i := 1095) (by decide +kernel)))), (List.forall_mem_cons.mpr ⟨va_Nw.of rfl (hts _ (List.mem_append_right _ (List.mem_of_getElem? (i := 1097) (by decide +kernel)))), (List.forall_mem_cons.mpr ⟨va_Nw.of rfl (hts _ (List.mem_append_right _ (List.mem_of_getElem? (i := 1099) (by decide +kernel)))), (fun _ h => nomatch h)⟩)⟩)⟩)
theorem isRef_w : ∀ w ∈ [Cond.isRef (.static Bundle.tN "UNASSIGNED_STACK" Bundle.steD), Cond.isRef (.static Bundle.tN "SUPPRESSED_SENTINEL" Bundle.listD)], w ∈ flatC (Jvm.Cond.and given_1 narrow_1) := by
  intro w hw
  exact of_decide_eq_true (List.all_eq_true.mp (show [Cond.isRef (.static Bundle.tN "UNASSIGNED_STACK" Bundle.steD), Cond.isRef (.static Bundle.tN "SUPPRESSED_SENTINEL" Bundle.listD)].all (fun w => decide (w ∈ flatC (Jvm.Cond.and given_1 narrow_1))) = true by decide +kernel) w hw)
theorem w_13 : Cond.initialized Bundle.tN ∈ lw_tbl := List.mem_append_right _ (List.mem_of_getElem? (i := 13) (by decide +kernel))
theorem w_1119 : Cond.laysStatic Bundle.tN "UNASSIGNED_STACK" Bundle.steD ∈ lw_tbl := List.mem_append_right _ (List.mem_of_getElem? (i := 1119) (by decide +kernel))
theorem w_1121 : Cond.laysStatic Bundle.tN "SUPPRESSED_SENTINEL" Bundle.listD ∈ lw_tbl := List.mem_append_right _ (List.mem_of_getElem? (i := 1121) (by decide +kernel))
theorem w_269 : Cond.laysStatic RX11 "MONTH_LENGTHS" "[I" ∈ lw_tbl := List.mem_append_right _ (List.mem_of_getElem? (i := 269) (by decide +kernel))
theorem w_293 : Cond.laysStatic RX11 "DAYS_AHEAD" "[I" ∈ lw_tbl := List.mem_append_right _ (List.mem_of_getElem? (i := 293) (by decide +kernel))
/-- each class by its number -/
theorem K_0 {s : State} {args : Array Value} (hts : ∀ w ∈ wa, w.before args s = true) (hi : ∀ t : Nat, t < 13 → ∃ n, (Cond.instantiable (nmC t) n).before args s = true) : ∃ D : va_G, va_K D clX [] s := by
  have h : ∀ t : Nat, t < 13 → ∃ (cC : ClassId) (iS : Nat → Nat), ∀ q, clX[t]? = some q → u_Kn s q.1 q.2.1 q.2.2 cC iS := by
    intro t ht
    obtain ⟨n, hn⟩ := hi t ht
    match t, ht with
    | 0, _ =>
      obtain ⟨cC, iS, hk⟩ := u_known (C := RX0) (T := TX0) (N := 4) hts in_0 hn
      exact ⟨cC, iS, fun q hq => by cases hq; exact hk⟩
    | 1, _ =>
      obtain ⟨cC, iS, hk⟩ := u_known (C := RX1) (T := TX1) (N := 4) hts in_1 hn
      exact ⟨cC, iS, fun q hq => by cases hq; exact hk⟩
    | 2, _ =>
      obtain ⟨cC, iS, hk⟩ := u_known (C := RX2) (T := TX2) (N := 11) hts in_2 hn
      exact ⟨cC, iS, fun q hq => by cases hq; exact hk⟩
    | 3, _ =>
      obtain ⟨cC, iS, hk⟩ := u_known (C := RX3) (T := TX3) (N := 3) hts in_3 hn
      exact ⟨cC, iS, fun q hq => by cases hq; exact hk⟩
    | 4, _ =>
      obtain ⟨cC, iS, hk⟩ := u_known (C := RX5) (T := TX5) (N := 4) hts in_4 hn
      exact ⟨cC, iS, fun q hq => by cases hq; exact hk⟩
    | 5, _ =>
      obtain ⟨cC, iS, hk⟩ := u_known (C := RX6) (T := TX6) (N := 6) hts in_5 hn
      exact ⟨cC, iS, fun q hq => by cases hq; exact hk⟩
    | 6, _ =>
      obtain ⟨cC, iS, hk⟩ := u_known (C := RX7) (T := TX7) (N := 3) hts in_6 hn
      exact ⟨cC, iS, fun q hq => by cases hq; exact hk⟩
    | 7, _ =>
      obtain ⟨cC, iS, hk⟩ := u_known (C := RX8) (T := TX8) (N := 6) hts in_7 hn
      exact ⟨cC, iS, fun q hq => by cases hq; exact hk⟩
    | 8, _ =>
      obtain ⟨cC, iS, hk⟩ := u_known (C := RX9) (T := TX9) (N := 4) hts in_8 hn
      exact ⟨cC, iS, fun q hq => by cases hq; exact hk⟩
    | 9, _ =>
      obtain ⟨cC, iS, hk⟩ := u_known (C := RX10) (T := TX10) (N := 10) hts in_9 hn
      exact ⟨cC, iS, fun q hq => by cases hq; exact hk⟩
    | 10, _ =>
      obtain ⟨cC, iS, hk⟩ := u_known (C := RX11) (T := TX11) (N := 20) hts in_10 hn
      exact ⟨cC, iS, fun q hq => by cases hq; exact hk⟩
    | 11, _ =>
      obtain ⟨cC, iS, hk⟩ := u_known (C := RX12) (T := TX12) (N := 71) hts in_11 hn
      exact ⟨cC, iS, fun q hq => by cases hq; exact hk⟩
    | 12, _ =>
      obtain ⟨cC, iS, hk⟩ := u_known (C := nX12) (T := fun _ => ("", "", "", false)) (N := 0) hts (fun w hw => by cases hw) hn
      exact ⟨cC, iS, fun q hq => by cases hq; exact hk⟩
    | t + 13, ht => exact absurd ht (by omega)
  refine ⟨(fun t => if ht : t < 13 then (h t ht).choose else 0, fun t => if ht : t < 13 then (h t ht).choose_spec.choose else fun _ => 0), fun t q hq => ?_, fun k q hk => by simp at hk⟩
  have ht : t < 13 := (List.getElem?_eq_some_iff.mp hq).1
  have := (h t ht).choose_spec.choose_spec q hq
  simpa [ht] using this
/-- the classes can be made -/
theorem inst_0 {s : State} {args : Array Value} (hts : ∀ w ∈ lw_tbl, w.before args s = true) : ∀ t : Nat, t < 13 → ∃ n, (Cond.instantiable (nmC t) n).before args s = true := by
  intro t ht
  match t, ht with
  | 0, _ => exact ⟨4, hts (Cond.instantiable (nmC 0) 4) (List.mem_append_right _ (List.mem_of_getElem? (i := 155) (by decide +kernel)))⟩
  | 1, _ => exact ⟨4, hts (Cond.instantiable (nmC 1) 4) (List.mem_append_right _ (List.mem_of_getElem? (i := 912) (by decide +kernel)))⟩
  | 2, _ => exact ⟨11, hts (Cond.instantiable (nmC 2) 11) (List.mem_append_right _ (List.mem_of_getElem? (i := 310) (by decide +kernel)))⟩
  | 3, _ => exact ⟨3, hts (Cond.instantiable (nmC 3) 3) (List.mem_append_right _ (List.mem_of_getElem? (i := 505) (by decide +kernel)))⟩
  | 4, _ => exact ⟨4, hts (Cond.instantiable (nmC 4) 4) (List.mem_append_right _ (List.mem_of_getElem? (i := 338) (by decide +kernel)))⟩
  | 5, _ => exact ⟨6, hts (Cond.instantiable (nmC 5) 6) (List.mem_append_right _ (List.mem_of_getElem? (i := 118) (by decide +kernel)))⟩
  | 6, _ => exact ⟨3, hts (Cond.instantiable (nmC 6) 3) (List.mem_append_right _ (List.mem_of_getElem? (i := 526) (by decide +kernel)))⟩
  | 7, _ => exact ⟨6, hts (Cond.instantiable (nmC 7) 6) (List.mem_append_right _ (List.mem_of_getElem? (i := 871) (by decide +kernel)))⟩
  | 8, _ => exact ⟨4, hts (Cond.instantiable (nmC 8) 4) (List.mem_append_right _ (List.mem_of_getElem? (i := 316) (by decide +kernel)))⟩
  | 9, _ => exact ⟨10, hts (Cond.instantiable (nmC 9) 10) (List.mem_append_right _ (List.mem_of_getElem? (i := 191) (by decide +kernel)))⟩
  | 10, _ => exact ⟨20, hts (Cond.instantiable (nmC 10) 20) (List.mem_append_right _ (List.mem_of_getElem? (i := 21) (by decide +kernel)))⟩
  | 11, _ => exact ⟨71, hts (Cond.instantiable (nmC 11) 71) (List.mem_append_right _ (List.mem_of_getElem? (i := 1154) (by decide +kernel)))⟩
  | 12, _ => exact ⟨6, hts (Cond.instantiable (nmC 12) 6) (List.mem_append_right _ (List.mem_of_getElem? (i := 1093) (by decide +kernel)))⟩
  | t + 13, ht => exact absurd ht (by omega)
/-- the claim's start, out of the pure part -/
theorem start_of {NC NS NF NL : Nat} (P : ∀ X : Int → Int, 0 ≤ X (-1) → X (-1) ≤ 4096 → (∀ j, inI (X j)) → ∃ (n : Nat) (hf : mH), mex prog n kL_law 0 (mloc 7 [vS 2]) [] (h0X X) = some (some (vI 1), hf) ∧ hf.cnt ≤ NC ∧ hf.sl ≤ NS) (f9 : 9 ≤ NF) (l247 : 247 ≤ NL) {p : Program} {e : Env} {s : State} {m : MethodId} {below : List Frame} {meth : Method} {c : Code} (l : Launch) (hl : l.stackTraces = false) {b L : Nat} {xs : Nat → Int32} (hL : L ≤ 4096) (hx : p.tables.exec = Jvm.exec) (hb : c.code = cL_law) (hr : meth.sig.returnType = some .boolean) (hml : c.maxLocals = 7) (hown : s.vm.findClass RL = some m.cls) (hts : ∀ w ∈ lw_tbl, w.before #[Value.ref b] s = true) (hX : va_X b L xs s s.heap) (hbl : b < s.heap.size) (hlocks : meth.locks = false) (hgv : (Jvm.Cond.and given_1 narrow_1).before #[Value.ref b] s = true) (hi : ∀ t : Nat, t < 13 → ∃ n, (Cond.instantiable (nmC t) n).before #[Value.ref b] s = true) :
    W p l e ({ frames := NF, cells := NC, slots := NS, locals := NL } : Room) s m #[Value.ref b] below meth c s.heap [] 0 0 (fun t => ∃ o, t.status = .running ∧ Ended t below o ∧ o = .returned (some (.int 1)) ∧ Framed s o t [] NC NS) (entryFrame m ([Value.ref b] : List Value).toArray 7) := by
  have hA : ∀ a : Nat, a < s.heap.size → ¬ (fun q : Nat => s.heap.size ≤ q) a := fun a h q => absurd h (Nat.not_lt.mpr q)
  have hwa : ∀ w ∈ wa, w.before #[Value.ref b] s = true := fun w hw => hts w (List.mem_filter.mp hw).1
  obtain ⟨D, hK⟩ := K_0 hwa hi
  obtain ⟨t0, z0, a0⟩ := starr_of hgv hts hA "MONTH_LENGTHS" 0 (Or.inl ⟨rfl, rfl⟩) w_269
  obtain ⟨t1, z1, a1⟩ := starr_of hgv hts hA "DAYS_AHEAD" 1 (Or.inr ⟨rfl, rfl⟩) w_293
  obtain ⟨X, hXd⟩ : ∃ X : Int → Int, X = fun j => if j = -1 then (L : Int) else (xs j.toNat).toInt := ⟨_, rfl⟩
  obtain ⟨fz, hfz⟩ : ∃ fz : Nat → Nat, fz = fun j => if j = 0 then t0 else if j = 1 then t1 else b := ⟨_, rfl⟩
  have X1 : X (-1) = (L : Int) := by rw [hXd]; exact if_pos rfl
  have X2 : ∀ j : Nat, X (j : Int) = (xs j).toInt := by
    intro j
    rw [hXd]
    show (if (j : Int) = -1 then (L : Int) else (xs ((j : Int).toNat)).toInt) = _
    rw [if_neg (by omega), Int.toNat_natCast]
  have X3 : ∀ j : Int, inI (X j) := by
    intro j
    rw [hXd]
    show inI (if j = -1 then (L : Int) else (xs j.toNat).toInt)
    split
    · unfold inI; omega
    · exact inI_of _
  have hSt : stand fz X (fun q : Nat => s.heap.size ≤ q) s s.heap := by
    refine ⟨by rw [hfz]; exact z0, by rw [hfz]; exact a0, by rw [hfz]; exact z1, by rw [hfz]; exact a1, ?_, by omega, by omega, X3, ?_, ?_⟩
    · obtain ⟨scr, h1, h2, h3, h4, h5⟩ := hX
      have f2 : fz 2 = b := by rw [hfz]; rfl
      rw [f2]
      refine ⟨scr, h1, h2, h3, by omega, by rw [h4, X1]; rfl, fun j hj => ?_, hA b hbl⟩
      show scr.slots[j]? = some (Value.int (Int32.ofInt (X (j : Int))))
      rw [X2 j, Int32.ofInt_toInt]
      exact h5 j (by omega)
    · exact vx_Zqof (hts _ w_1119) (hts _ w_13) (flat_of_before _ hgv _ (isRef_w _ List.mem_cons_self)) hA
    · exact vx_Zqof (hts _ w_1121) (hts _ w_13) (flat_of_before _ hgv _ (isRef_w _ (List.mem_cons_of_mem _ List.mem_cons_self))) hA
  obtain ⟨n, hf, hrun, hcn, hsn⟩ := P X (by omega) (by omega) X3
  have hS := (SIM2 okTab2_prog l (fun n hM as h r q e hq => law_day hl n hM as h r q e hq) n).1 kL_law 0 _ _ _ _ (by decide) hrun
  rw [lg_entry_eq]
  have has : rst fz (fun _ => 0) (h0X X) [vS 2] [.ref b] := ⟨_, _, rfl, (by rw [hfz]; rfl : Value.ref b = .ref (fz 2)), rfl⟩
  have hW := hS dat_L_law 0 rfl rfl p e ({ frames := NF, cells := NC, slots := NS, locals := NL } : Room) s m #[Value.ref b] below meth c D fz X (fun q : Nat => s.heap.size ≤ q) (fun _ => 0) (h0X X) ⟨hx, hb, hml, hown, hwa, fun h => (by cases h), fun q h => h, hSt, nest_0 hts⟩ hr hlocks f9 l247 rfl (by show hf.cnt ≤ 0 + NC; omega) (by show hf.sl ≤ 0 + NS; omega) (mExt.rf _) (fun _ => 0) (fun _ => 0) [] _ [] s.heap [] 0 0 (fun _ _ => rfl) ⟨⟨fun k q h => by simp [wsX, h0X, mH.cnt] at h, ⟨fun i j p q h => by simp [wsX, h0X, mH.cnt] at h, fun k q h => by simp [wsX, h0X, mH.cnt] at h⟩, hK, fun a q1 q2 => (by have : a ≤ ((0 : Nat) : Int) := q2; omega), fun a q1 q2 => (by have : a ≤ ((0 : Nat) : Int) := q2; omega)⟩, rfl, rlo_entry (nL := 7) has (by show 1 ≤ 7; omega), va_S.rf, rfl, rfl⟩
  intro T hT XX
  obtain ⟨t, st, o, o1, o2, hq, locs, ⟨-, hw, hsame⟩, hfree⟩ := hW T hT XX
  obtain ⟨⟨z, u, ho, ⟨y, hy, -, hz⟩, -⟩, -⟩ := hq
  cases hy
  subst hz
  subst ho
  exact ⟨t, st, _, o1, o2, rfl, ⟨_, rfl⟩, hw, hsame.weaken (fun x hx hlt => absurd hlt (Nat.not_lt.mpr (hfree x hx))) (by show hf.cnt - 0 ≤ _; omega) (by show hf.sl - 0 ≤ _; omega)⟩
