/-! the tables of the program: each method's blocks are what its bytes do -/
def okR (mtab : List mI5) (q : mI5) (d : mD9) (p : List mB × Nat) : Prop := d.2.2.2.2.2.1 = 77 ∨ (sndBs mtab d.1 d.2.1 d.2.2.1 d.2.2.2.1 d.2.2.2.2.1 d.2.2.2.2.2.1 d.2.2.2.2.2.2.1 d.2.2.2.2.2.2.2.1 d.2.2.2.2.2.2.2.2 d.2.2.2.2.2.2.1 p.1 ∧ (q.2.1 = Cond.code q.1 d.2.1 d.2.2.1 d.2.2.2.2.1 ∧ q.2.2 = (d.2.2.2.2.2.2.2.1, d.2.2.2.2.2.2.2.2, d.2.2.2.2.2.1) ∧ plainFor q.1 = true ∧ q.1.cls = d.1 ∧ (d.2.2.2.1 = true → q.1.name = "<init>" ∧ 1 ≤ d.2.2.2.2.2.2.2.1 ∧ 12 ≤ d.2.2.2.2.2.2.2.2) ∧ p.2 = d.2.2.1 ∧ d.2.2.2.2.2.2.1[0]? = some 0))
def okL (mtab : List mI5) : List mI5 → List mD9 → mP → Prop
  | [], [], [] => True
  | q :: Q, d :: D, p :: P => okR mtab q d p ∧ okL mtab Q D P
  | _, _, _ => False
theorem okL_n {mtab : List mI5} : okL mtab [] [] [] := trivial
theorem okL_c {mtab : List mI5} {q : mI5} {d : mD9} {p : List mB × Nat} {Q : List mI5} {D : List mD9} {P : mP} (h1 : okR mtab q d p) (h2 : okL mtab Q D P) : okL mtab (q :: Q) (d :: D) (p :: P) := ⟨h1, h2⟩
theorem okL_at {mtab : List mI5} : ∀ (Q : List mI5) (D : List mD9) (P : mP), okL mtab Q D P → ∀ k : Nat, (Q[k]? = none ∧ D[k]? = none ∧ P[k]? = none) ∨ ∃ q d p, Q[k]? = some q ∧ D[k]? = some d ∧ P[k]? = some p ∧ okR mtab q d p
  | [], [], [], _, k => Or.inl ⟨by simp, by simp, by simp⟩
  | q :: Q, d :: D, p :: P, h, 0 => Or.inr ⟨q, d, p, rfl, rfl, rfl, h.1⟩
  | q :: Q, d :: D, p :: P, h, k + 1 => okL_at Q D P h.2 k
  | [], [], _ :: _, h, _ => h.elim
  | [], _ :: _, _, h, _ => h.elim
  | _ :: _, [], _, h, _ => h.elim
  | _ :: _, _ :: _, [], h, _ => h.elim
theorem okTab2_of {mtab : List mI5} {mdat : List mD9} {kX : Nat} (h : okL mtab mtab mdat prog) (h7 : ∀ k d, mdat[k]? = some d → d.2.2.2.2.2.1 = 77 → k = kX) (h9 : mblk prog 9999 0 = none) : okTab2 mtab mdat kX := by
  refine ⟨fun k b B hk hB => ?_, fun k q hk hq => ?_, h9⟩
  · rcases okL_at mtab mdat prog h k with ⟨-, -, e⟩ | ⟨q, d, p, hq, hd, hp, hr⟩
    · unfold mblk at hB
      rw [e] at hB
      cases hB
    · unfold mblk at hB
      rw [hp] at hB
      rcases hr with hr | hr
      · exact absurd (h7 k d hd hr) hk
      · obtain ⟨pb, h1, h2⟩ := sBs_at _ _ hr.1 b B hB
        exact ⟨d, pb, hd, h1, h2⟩
  · rcases okL_at mtab mdat prog h k with ⟨e, -, -⟩ | ⟨q', d, p, hq', hd, hp, hr⟩
    · rw [e] at hq
      cases hq
    · rw [hq'] at hq
      cases hq
      rcases hr with hr | hr
      · exact absurd (h7 k d hd hr) hk
      · obtain ⟨-, h1, h2, h3, h4, h5, h6, h8⟩ := hr
        refine ⟨d, hd, h1, h2, h3, h4, h5, ?_, h8⟩
        unfold mnl
        rw [hp]
        exact h6
theorem pl_0 : plainName RX11 = true := by decide +kernel
theorem pl_1 : plainName RX12 = true := by decide +kernel
theorem pl_2 : plainName RX0 = true := by decide +kernel
theorem pl_3 : plainName RX1 = true := by decide +kernel
theorem pl_4 : plainName RX2 = true := by decide +kernel
theorem pl_5 : plainName RX3 = true := by decide +kernel
theorem pl_6 : plainName RX5 = true := by decide +kernel
theorem pl_7 : plainName RX6 = true := by decide +kernel
theorem pl_8 : plainName RX7 = true := by decide +kernel
theorem pl_9 : plainName RX8 = true := by decide +kernel
theorem pl_10 : plainName RX9 = true := by decide +kernel
theorem pl_11 : plainName RX10 = true := by decide +kernel
theorem pl_12 : plainName RL = true := by decide +kernel
theorem pl_13 : plainName RJ6 = true := by decide +kernel
theorem pl_15 : plainName RJ7 = true := by decide +kernel
abbrev dat_X_init : mD9 := (RX11, cX11_init, 1, true, none, 0, p_X_init, 1, 12)
theorem or_X_init : okR mtab (yX11_init, Cond.code yX11_init cX11_init 1 none, 1, 12, 0) dat_X_init (c_X_init, 1) := Or.inr ⟨sm_X_init, rfl, rfl, plainFor_of_name pl_0, rfl, fun _ => ⟨rfl, by decide, by decide⟩, rfl, rfl⟩
abbrev dat_X_feed : mD9 := (RX11, cX11_feed, 7, false, (some .int), 1, p_X_feed, 1, 25)
theorem or_X_feed : okR mtab (yX11_feed, Cond.code yX11_feed cX11_feed 7 (some .int), 1, 25, 1) dat_X_feed (c_X_feed, 7) := Or.inr ⟨sm_X_feed, rfl, rfl, plainFor_of_name pl_0, rfl, fun h => (by cases h), rfl, rfl⟩
abbrev dat_X_signsIn : mD9 := (RX11, cX11_signsIn, 3, false, (some .int), 1, p_X_signsIn, 0, 0)
theorem or_X_signsIn : okR mtab (yX11_signsIn, Cond.code yX11_signsIn cX11_signsIn 3 (some .int), 0, 0, 1) dat_X_signsIn (c_X_signsIn, 3) := Or.inr ⟨sm_X_signsIn, rfl, rfl, plainFor_of_name pl_0, rfl, fun h => (by cases h), rfl, rfl⟩
abbrev dat_X_append : mD9 := (RX11, cX11_append, 4, false, none, 0, p_X_append, 0, 0)
theorem or_X_append : okR mtab (yX11_append, Cond.code yX11_append cX11_append 4 none, 0, 0, 0) dat_X_append (c_X_append, 4) := Or.inr ⟨sm_X_append, rfl, rfl, plainFor_of_name pl_0, rfl, fun h => (by cases h), rfl, rfl⟩
abbrev dat_X_end : mD9 := (RX11, cX11_end, 2, false, (some .boolean), 1, p_X_end, 0, 0)
theorem or_X_end : okR mtab (yX11_end, Cond.code yX11_end cX11_end 2 (some .boolean), 0, 0, 1) dat_X_end (c_X_end, 2) := Or.inr ⟨sm_X_end, rfl, rfl, plainFor_of_name pl_0, rfl, fun h => (by cases h), rfl, rfl⟩
abbrev dat_X_fault : mD9 := (RX11, cX11_fault, 3, false, (some .int), 1, p_X_fault, 5, 131)
theorem or_X_fault : okR mtab (yX11_fault, Cond.code yX11_fault cX11_fault 3 (some .int), 5, 131, 1) dat_X_fault (c_X_fault, 3) := Or.inr ⟨sm_X_fault, rfl, rfl, plainFor_of_name pl_0, rfl, fun h => (by cases h), rfl, rfl⟩
abbrev dat_X_text : mD9 := (RX11, cX11_text, 2, false, (some .int), 1, p_X_text, 6, 155)
theorem or_X_text : okR mtab (yX11_text, Cond.code yX11_text cX11_text 2 (some .int), 6, 155, 1) dat_X_text (c_X_text, 2) := Or.inr ⟨sm_X_text, rfl, rfl, plainFor_of_name pl_0, rfl, fun h => (by cases h), rfl, rfl⟩
abbrev dat_X_takeAlmanac : mD9 := (RX11, cX11_takeAlmanac, 3, false, (some .int), 1, p_X_takeAlmanac, 5, 131)
theorem or_X_takeAlmanac : okR mtab (yX11_takeAlmanac, Cond.code yX11_takeAlmanac cX11_takeAlmanac 3 (some .int), 5, 131, 1) dat_X_takeAlmanac (c_X_takeAlmanac, 3) := Or.inr ⟨sm_X_takeAlmanac, rfl, rfl, plainFor_of_name pl_0, rfl, fun h => (by cases h), rfl, rfl⟩
abbrev dat_X_takeHead : mD9 := (RX11, cX11_takeHead, 3, false, (some .int), 1, p_X_takeHead, 5, 129)
theorem or_X_takeHead : okR mtab (yX11_takeHead, Cond.code yX11_takeHead cX11_takeHead 3 (some .int), 5, 129, 1) dat_X_takeHead (c_X_takeHead, 3) := Or.inr ⟨sm_X_takeHead, rfl, rfl, plainFor_of_name pl_0, rfl, fun h => (by cases h), rfl, rfl⟩
abbrev dat_X_takeThings : mD9 := (RX11, cX11_takeThings, 4, false, (some .int), 1, p_X_takeThings, 4, 99)
theorem or_X_takeThings : okR mtab (yX11_takeThings, Cond.code yX11_takeThings cX11_takeThings 4 (some .int), 4, 99, 1) dat_X_takeThings (c_X_takeThings, 4) := Or.inr ⟨sm_X_takeThings, rfl, rfl, plainFor_of_name pl_0, rfl, fun h => (by cases h), rfl, rfl⟩
abbrev dat_X_readThings : mD9 := (RX11, cX11_readThings, 4, false, (some .int), 1, p_X_readThings, 3, 74)
theorem or_X_readThings : okR mtab (yX11_readThings, Cond.code yX11_readThings cX11_readThings 4 (some .int), 3, 74, 1) dat_X_readThings (c_X_readThings, 4) := Or.inr ⟨sm_X_readThings, rfl, rfl, plainFor_of_name pl_0, rfl, fun h => (by cases h), rfl, rfl⟩
abbrev dat_X_readThing : mD9 := (RX11, cX11_readThing, 4, false, (some .int), 1, p_X_readThing, 2, 49)
theorem or_X_readThing : okR mtab (yX11_readThing, Cond.code yX11_readThing cX11_readThing 4 (some .int), 2, 49, 1) dat_X_readThing (c_X_readThing, 4) := Or.inr ⟨sm_X_readThing, rfl, rfl, plainFor_of_name pl_0, rfl, fun h => (by cases h), rfl, rfl⟩
abbrev dat_X_date : mD9 := (RX11, cX11_date, 6, false, (some .int), 1, p_X_date, 4, 100)
theorem or_X_date : okR mtab (yX11_date, Cond.code yX11_date cX11_date 6 (some .int), 4, 100, 1) dat_X_date (c_X_date, 6) := Or.inr ⟨sm_X_date, rfl, rfl, plainFor_of_name pl_0, rfl, fun h => (by cases h), rfl, rfl⟩
abbrev dat_X_turned : mD9 := (RX11, cX11_turned, 10, false, (some .int), 1, p_X_turned, 4, 105)
theorem or_X_turned : okR mtab (yX11_turned, Cond.code yX11_turned cX11_turned 10 (some .int), 4, 105, 1) dat_X_turned (c_X_turned, 10) := Or.inr ⟨sm_X_turned, rfl, rfl, plainFor_of_name pl_0, rfl, fun h => (by cases h), rfl, rfl⟩
abbrev dat_X_many : mD9 := (RX11, cX11_many, 7, false, (some .int), 1, p_X_many, 3, 77)
theorem or_X_many : okR mtab (yX11_many, Cond.code yX11_many cX11_many 7 (some .int), 3, 77, 1) dat_X_many (c_X_many, 7) := Or.inr ⟨sm_X_many, rfl, rfl, plainFor_of_name pl_0, rfl, fun h => (by cases h), rfl, rfl⟩
abbrev dat_X_kind : mD9 := (RX11, cX11_kind, 4, false, (some .int), 1, p_X_kind, 1, 23)
theorem or_X_kind : okR mtab (yX11_kind, Cond.code yX11_kind cX11_kind 4 (some .int), 1, 23, 1) dat_X_kind (c_X_kind, 4) := Or.inr ⟨sm_X_kind, rfl, rfl, plainFor_of_name pl_0, rfl, fun h => (by cases h), rfl, rfl⟩
abbrev dat_X_like : mD9 := (RX11, cX11_like, 8, false, (some .int), 1, p_X_like, 2, 48)
theorem or_X_like : okR mtab (yX11_like, Cond.code yX11_like cX11_like 8 (some .int), 2, 48, 1) dat_X_like (c_X_like, 8) := Or.inr ⟨sm_X_like, rfl, rfl, plainFor_of_name pl_0, rfl, fun h => (by cases h), rfl, rfl⟩
abbrev dat_X_thirteenths : mD9 := (RX11, cX11_thirteenths, 10, false, (some .int), 1, p_X_thirteenths, 3, 78)
theorem or_X_thirteenths : okR mtab (yX11_thirteenths, Cond.code yX11_thirteenths cX11_thirteenths 10 (some .int), 3, 78, 1) dat_X_thirteenths (c_X_thirteenths, 10) := Or.inr ⟨sm_X_thirteenths, rfl, rfl, plainFor_of_name pl_0, rfl, fun h => (by cases h), rfl, rfl⟩
abbrev dat_X_mates : mD9 := (RX11, cX11_mates, 7, false, (some .int), 1, p_X_mates, 4, 105)
theorem or_X_mates : okR mtab (yX11_mates, Cond.code yX11_mates cX11_mates 7 (some .int), 4, 105, 1) dat_X_mates (c_X_mates, 7) := Or.inr ⟨sm_X_mates, rfl, rfl, plainFor_of_name pl_0, rfl, fun h => (by cases h), rfl, rfl⟩
abbrev dat_X_unlike : mD9 := (RX11, cX11_unlike, 7, false, (some .int), 1, p_X_unlike, 4, 100)
theorem or_X_unlike : okR mtab (yX11_unlike, Cond.code yX11_unlike cX11_unlike 7 (some .int), 4, 100, 1) dat_X_unlike (c_X_unlike, 7) := Or.inr ⟨sm_X_unlike, rfl, rfl, plainFor_of_name pl_0, rfl, fun h => (by cases h), rfl, rfl⟩
abbrev dat_X_almanacAt : mD9 := (RX11, cX11_almanacAt, 2, false, (some (.object "DayBoy$Almanac")), 3, p_X_almanacAt, 0, 0)
theorem or_X_almanacAt : okR mtab (yX11_almanacAt, Cond.code yX11_almanacAt cX11_almanacAt 2 (some (.object "DayBoy$Almanac")), 0, 0, 3) dat_X_almanacAt (c_X_almanacAt, 2) := Or.inr ⟨sm_X_almanacAt, rfl, rfl, plainFor_of_name pl_0, rfl, fun h => (by cases h), rfl, rfl⟩
abbrev dat_X_dayIn : mD9 := (RX11, cX11_dayIn, 6, false, (some .int), 1, p_X_dayIn, 3, 78)
theorem or_X_dayIn : okR mtab (yX11_dayIn, Cond.code yX11_dayIn cX11_dayIn 6 (some .int), 3, 78, 1) dat_X_dayIn (c_X_dayIn, 6) := Or.inr ⟨sm_X_dayIn, rfl, rfl, plainFor_of_name pl_0, rfl, fun h => (by cases h), rfl, rfl⟩
abbrev dat_X_spotOn : mD9 := (RX11, cX11_spotOn, 7, false, (some (.object "DayBoy$Spot")), 10, p_X_spotOn, 3, 78)
theorem or_X_spotOn : okR mtab (yX11_spotOn, Cond.code yX11_spotOn cX11_spotOn 7 (some (.object "DayBoy$Spot")), 3, 78, 10) dat_X_spotOn (c_X_spotOn, 7) := Or.inr ⟨sm_X_spotOn, rfl, rfl, plainFor_of_name pl_0, rfl, fun h => (by cases h), rfl, rfl⟩
abbrev dat_X_way : mD9 := (RX11, cX11_way, 10, false, (some .int), 1, p_X_way, 4, 108)
theorem or_X_way : okR mtab (yX11_way, Cond.code yX11_way cX11_way 10 (some .int), 4, 108, 1) dat_X_way (c_X_way, 10) := Or.inr ⟨sm_X_way, rfl, rfl, plainFor_of_name pl_0, rfl, fun h => (by cases h), rfl, rfl⟩
abbrev dat_X_answers : mD9 := (RX11, cX11_answers, 10, false, (some .int), 1, p_X_answers, 5, 134)
theorem or_X_answers : okR mtab (yX11_answers, Cond.code yX11_answers cX11_answers 10 (some .int), 5, 134, 1) dat_X_answers (c_X_answers, 10) := Or.inr ⟨sm_X_answers, rfl, rfl, plainFor_of_name pl_0, rfl, fun h => (by cases h), rfl, rfl⟩
abbrev dat_X_part : mD9 := (RX11, cX11_part, 12, false, (some .int), 1, p_X_part, 5, 135)
theorem or_X_part : okR mtab (yX11_part, Cond.code yX11_part cX11_part 12 (some .int), 5, 135, 1) dat_X_part (c_X_part, 12) := Or.inr ⟨sm_X_part, rfl, rfl, plainFor_of_name pl_0, rfl, fun h => (by cases h), rfl, rfl⟩
abbrev dat_X_partInYear : mD9 := (RX11, cX11_partInYear, 6, false, (some .int), 1, p_X_partInYear, 4, 108)
theorem or_X_partInYear : okR mtab (yX11_partInYear, Cond.code yX11_partInYear cX11_partInYear 6 (some .int), 4, 108, 1) dat_X_partInYear (c_X_partInYear, 6) := Or.inr ⟨sm_X_partInYear, rfl, rfl, plainFor_of_name pl_0, rfl, fun h => (by cases h), rfl, rfl⟩
abbrev dat_X_least : mD9 := (RX11, cX11_least, 8, false, (some .int), 1, p_X_least, 5, 140)
theorem or_X_least : okR mtab (yX11_least, Cond.code yX11_least cX11_least 8 (some .int), 5, 140, 1) dat_X_least (c_X_least, 8) := Or.inr ⟨sm_X_least, rfl, rfl, plainFor_of_name pl_0, rfl, fun h => (by cases h), rfl, rfl⟩
abbrev dat_X_reachedFrom : mD9 := (RX11, cX11_reachedFrom, 11, false, (some (.array .int)), 103, p_X_reachedFrom, 4, 108)
theorem or_X_reachedFrom : okR mtab (yX11_reachedFrom, Cond.code yX11_reachedFrom cX11_reachedFrom 11 (some (.array .int)), 4, 108, 103) dat_X_reachedFrom (c_X_reachedFrom, 11) := Or.inr ⟨sm_X_reachedFrom, rfl, rfl, plainFor_of_name pl_0, rfl, fun h => (by cases h), rfl, rfl⟩
abbrev dat_X_fewestReaching : mD9 := (RX11, cX11_fewestReaching, 5, false, (some .int), 1, p_X_fewestReaching, 1, 25)
theorem or_X_fewestReaching : okR mtab (yX11_fewestReaching, Cond.code yX11_fewestReaching cX11_fewestReaching 5 (some .int), 1, 25, 1) dat_X_fewestReaching (c_X_fewestReaching, 5) := Or.inr ⟨sm_X_fewestReaching, rfl, rfl, plainFor_of_name pl_0, rfl, fun h => (by cases h), rfl, rfl⟩
abbrev dat_X_loneOf : mD9 := (RX11, cX11_loneOf, 3, false, (some .int), 1, p_X_loneOf, 0, 0)
theorem or_X_loneOf : okR mtab (yX11_loneOf, Cond.code yX11_loneOf cX11_loneOf 3 (some .int), 0, 0, 1) dat_X_loneOf (c_X_loneOf, 3) := Or.inr ⟨sm_X_loneOf, rfl, rfl, plainFor_of_name pl_0, rfl, fun h => (by cases h), rfl, rfl⟩
abbrev dat_X_unionOf : mD9 := (RX11, cX11_unionOf, 4, false, (some .int), 1, p_X_unionOf, 0, 0)
theorem or_X_unionOf : okR mtab (yX11_unionOf, Cond.code yX11_unionOf cX11_unionOf 4 (some .int), 0, 0, 1) dat_X_unionOf (c_X_unionOf, 4) := Or.inr ⟨sm_X_unionOf, rfl, rfl, plainFor_of_name pl_0, rfl, fun h => (by cases h), rfl, rfl⟩
abbrev dat_X_mirrorOf : mD9 := (RX11, cX11_mirrorOf, 4, false, (some .int), 1, p_X_mirrorOf, 0, 0)
theorem or_X_mirrorOf : okR mtab (yX11_mirrorOf, Cond.code yX11_mirrorOf cX11_mirrorOf 4 (some .int), 0, 0, 1) dat_X_mirrorOf (c_X_mirrorOf, 4) := Or.inr ⟨sm_X_mirrorOf, rfl, rfl, plainFor_of_name pl_0, rfl, fun h => (by cases h), rfl, rfl⟩
abbrev dat_X_row : mD9 := (RX11, cX11_row, 9, false, (some .int), 1, p_X_row, 5, 133)
theorem or_X_row : okR mtab (yX11_row, Cond.code yX11_row cX11_row 9 (some .int), 5, 133, 1) dat_X_row (c_X_row, 9) := Or.inr ⟨sm_X_row, rfl, rfl, plainFor_of_name pl_0, rfl, fun h => (by cases h), rfl, rfl⟩
abbrev dat_X_holds : mD9 := (RX11, cX11_holds, 9, false, (some .int), 1, p_X_holds, 5, 133)
theorem or_X_holds : okR mtab (yX11_holds, Cond.code yX11_holds cX11_holds 9 (some .int), 5, 133, 1) dat_X_holds (c_X_holds, 9) := Or.inr ⟨sm_X_holds, rfl, rfl, plainFor_of_name pl_0, rfl, fun h => (by cases h), rfl, rfl⟩
abbrev dat_X_right : mD9 := (RX11, cX11_right, 11, false, (some .int), 1, p_X_right, 4, 108)
theorem or_X_right : okR mtab (yX11_right, Cond.code yX11_right cX11_right 11 (some .int), 4, 108, 1) dat_X_right (c_X_right, 11) := Or.inr ⟨sm_X_right, rfl, rfl, plainFor_of_name pl_0, rfl, fun h => (by cases h), rfl, rfl⟩
abbrev dat_X_lacks : mD9 := (RX11, cX11_lacks, 11, false, (some .int), 1, p_X_lacks, 3, 70)
theorem or_X_lacks : okR mtab (yX11_lacks, Cond.code yX11_lacks cX11_lacks 11 (some .int), 3, 70, 1) dat_X_lacks (c_X_lacks, 11) := Or.inr ⟨sm_X_lacks, rfl, rfl, plainFor_of_name pl_0, rfl, fun h => (by cases h), rfl, rfl⟩
abbrev dat_X_rises : mD9 := (RX11, cX11_rises, 11, false, (some .int), 1, p_X_rises, 2, 46)
theorem or_X_rises : okR mtab (yX11_rises, Cond.code yX11_rises cX11_rises 11 (some .int), 2, 46, 1) dat_X_rises (c_X_rises, 11) := Or.inr ⟨sm_X_rises, rfl, rfl, plainFor_of_name pl_0, rfl, fun h => (by cases h), rfl, rfl⟩
abbrev dat_X_headAt : mD9 := (RX11, cX11_headAt, 2, false, (some (.object "DayBoy$Head")), 5, p_X_headAt, 0, 0)
theorem or_X_headAt : okR mtab (yX11_headAt, Cond.code yX11_headAt cX11_headAt 2 (some (.object "DayBoy$Head")), 0, 0, 5) dat_X_headAt (c_X_headAt, 2) := Or.inr ⟨sm_X_headAt, rfl, rfl, plainFor_of_name pl_0, rfl, fun h => (by cases h), rfl, rfl⟩
abbrev dat_X_ask : mD9 := (RX11, cX11_ask, 9, false, (some .int), 1, p_X_ask, 4, 106)
theorem or_X_ask : okR mtab (yX11_ask, Cond.code yX11_ask cX11_ask 9 (some .int), 4, 106, 1) dat_X_ask (c_X_ask, 9) := Or.inr ⟨sm_X_ask, rfl, rfl, plainFor_of_name pl_0, rfl, fun h => (by cases h), rfl, rfl⟩
abbrev dat_X_asked : mD9 := (RX11, cX11_asked, 4, false, (some .int), 1, p_X_asked, 2, 47)
theorem or_X_asked : okR mtab (yX11_asked, Cond.code yX11_asked cX11_asked 4 (some .int), 2, 47, 1) dat_X_asked (c_X_asked, 4) := Or.inr ⟨sm_X_asked, rfl, rfl, plainFor_of_name pl_0, rfl, fun h => (by cases h), rfl, rfl⟩
abbrev dat_X_fits : mD9 := (RX11, cX11_fits, 2, false, (some .int), 1, p_X_fits, 7, 185)
theorem or_X_fits : okR mtab (yX11_fits, Cond.code yX11_fits cX11_fits 2 (some .int), 7, 185, 1) dat_X_fits (c_X_fits, 2) := Or.inr ⟨sm_X_fits, rfl, rfl, plainFor_of_name pl_0, rfl, fun h => (by cases h), rfl, rfl⟩
abbrev dat_X_spare : mD9 := (RX11, cX11_spare, 3, false, (some .int), 1, p_X_spare, 7, 185)
theorem or_X_spare : okR mtab (yX11_spare, Cond.code yX11_spare cX11_spare 3 (some .int), 7, 185, 1) dat_X_spare (c_X_spare, 3) := Or.inr ⟨sm_X_spare, rfl, rfl, plainFor_of_name pl_0, rfl, fun h => (by cases h), rfl, rfl⟩
abbrev dat_X_headsWrongAtMost : mD9 := (RX11, cX11_headsWrongAtMost, 5, false, (some .int), 1, p_X_headsWrongAtMost, 6, 159)
theorem or_X_headsWrongAtMost : okR mtab (yX11_headsWrongAtMost, Cond.code yX11_headsWrongAtMost cX11_headsWrongAtMost 5 (some .int), 6, 159, 1) dat_X_headsWrongAtMost (c_X_headsWrongAtMost, 5) := Or.inr ⟨sm_X_headsWrongAtMost, rfl, rfl, plainFor_of_name pl_0, rfl, fun h => (by cases h), rfl, rfl⟩
abbrev dat_X_so : mD9 := (RX11, cX11_so, 4, false, (some .int), 1, p_X_so, 6, 159)
theorem or_X_so : okR mtab (yX11_so, Cond.code yX11_so cX11_so 4 (some .int), 6, 159, 1) dat_X_so (c_X_so, 4) := Or.inr ⟨sm_X_so, rfl, rfl, plainFor_of_name pl_0, rfl, fun h => (by cases h), rfl, rfl⟩
abbrev dat_X_soCount : mD9 := (RX11, cX11_soCount, 5, false, (some .int), 1, p_X_soCount, 5, 133)
theorem or_X_soCount : okR mtab (yX11_soCount, Cond.code yX11_soCount cX11_soCount 5 (some .int), 5, 133, 1) dat_X_soCount (c_X_soCount, 5) := Or.inr ⟨sm_X_soCount, rfl, rfl, plainFor_of_name pl_0, rfl, fun h => (by cases h), rfl, rfl⟩
abbrev dat_X_further : mD9 := (RX11, cX11_further, 6, false, (some .int), 1, p_X_further, 2, 45)
theorem or_X_further : okR mtab (yX11_further, Cond.code yX11_further cX11_further 6 (some .int), 2, 45, 1) dat_X_further (c_X_further, 6) := Or.inr ⟨sm_X_further, rfl, rfl, plainFor_of_name pl_0, rfl, fun h => (by cases h), rfl, rfl⟩
abbrev dat_X_lived : mD9 := (RX11, cX11_lived, 5, false, (some .int), 1, p_X_lived, 0, 0)
theorem or_X_lived : okR mtab (yX11_lived, Cond.code yX11_lived cX11_lived 5 (some .int), 0, 0, 1) dat_X_lived (c_X_lived, 5) := Or.inr ⟨sm_X_lived, rfl, rfl, plainFor_of_name pl_0, rfl, fun h => (by cases h), rfl, rfl⟩
abbrev dat_X_after : mD9 := (RX11, cX11_after, 5, false, (some .int), 1, p_X_after, 2, 47)
theorem or_X_after : okR mtab (yX11_after, Cond.code yX11_after cX11_after 5 (some .int), 2, 47, 1) dat_X_after (c_X_after, 5) := Or.inr ⟨sm_X_after, rfl, rfl, plainFor_of_name pl_0, rfl, fun h => (by cases h), rfl, rfl⟩
abbrev dat_X_learnt : mD9 := (RX11, cX11_learnt, 10, false, (some .int), 1, p_X_learnt, 5, 133)
theorem or_X_learnt : okR mtab (yX11_learnt, Cond.code yX11_learnt cX11_learnt 10 (some .int), 5, 133, 1) dat_X_learnt (c_X_learnt, 10) := Or.inr ⟨sm_X_learnt, rfl, rfl, plainFor_of_name pl_0, rfl, fun h => (by cases h), rfl, rfl⟩
abbrev dat_X_weigh : mD9 := (RX11, cX11_weigh, 4, false, (some .boolean), 1, p_X_weigh, 1, 23)
theorem or_X_weigh : okR mtab (yX11_weigh, Cond.code yX11_weigh cX11_weigh 4 (some .boolean), 1, 23, 1) dat_X_weigh (c_X_weigh, 4) := Or.inr ⟨sm_X_weigh, rfl, rfl, plainFor_of_name pl_0, rfl, fun h => (by cases h), rfl, rfl⟩
abbrev dat_X_odds : mD9 := (RX11, cX11_odds, 6, false, (some .int), 1, p_X_odds, 7, 185)
theorem or_X_odds : okR mtab (yX11_odds, Cond.code yX11_odds cX11_odds 6 (some .int), 7, 185, 1) dat_X_odds (c_X_odds, 6) := Or.inr ⟨sm_X_odds, rfl, rfl, plainFor_of_name pl_0, rfl, fun h => (by cases h), rfl, rfl⟩
abbrev dat_X_plan : mD9 := (RX11, cX11_plan, 6, false, (some .int), 1, p_X_plan, 4, 106)
theorem or_X_plan : okR mtab (yX11_plan, Cond.code yX11_plan cX11_plan 6 (some .int), 4, 106, 1) dat_X_plan (c_X_plan, 6) := Or.inr ⟨sm_X_plan, rfl, rfl, plainFor_of_name pl_0, rfl, fun h => (by cases h), rfl, rfl⟩
abbrev dat_X_parted : mD9 := (RX11, cX11_parted, 3, false, (some .int), 1, p_X_parted, 6, 160)
theorem or_X_parted : okR mtab (yX11_parted, Cond.code yX11_parted cX11_parted 3 (some .int), 6, 160, 1) dat_X_parted (c_X_parted, 3) := Or.inr ⟨sm_X_parted, rfl, rfl, plainFor_of_name pl_0, rfl, fun h => (by cases h), rfl, rfl⟩
abbrev dat_X_next : mD9 := (RX11, cX11_next, 6, false, (some .int), 1, p_X_next, 6, 160)
theorem or_X_next : okR mtab (yX11_next, Cond.code yX11_next cX11_next 6 (some .int), 6, 160, 1) dat_X_next (c_X_next, 6) := Or.inr ⟨sm_X_next, rfl, rfl, plainFor_of_name pl_0, rfl, fun h => (by cases h), rfl, rfl⟩
abbrev dat_X_areHeads : mD9 := (RX11, cX11_areHeads, 2, false, (some .boolean), 1, p_X_areHeads, 0, 0)
theorem or_X_areHeads : okR mtab (yX11_areHeads, Cond.code yX11_areHeads cX11_areHeads 2 (some .boolean), 0, 0, 1) dat_X_areHeads (c_X_areHeads, 2) := Or.inr ⟨sm_X_areHeads, rfl, rfl, plainFor_of_name pl_0, rfl, fun h => (by cases h), rfl, rfl⟩
abbrev dat_X_pairsParted : mD9 := (RX11, cX11_pairsParted, 8, false, (some .int), 1, p_X_pairsParted, 5, 131)
theorem or_X_pairsParted : okR mtab (yX11_pairsParted, Cond.code yX11_pairsParted cX11_pairsParted 8 (some .int), 5, 131, 1) dat_X_pairsParted (c_X_pairsParted, 8) := Or.inr ⟨sm_X_pairsParted, rfl, rfl, plainFor_of_name pl_0, rfl, fun h => (by cases h), rfl, rfl⟩
abbrev dat_X_run : mD9 := (RX11, cX11_run, 14, false, (some .int), 1, p_X_run, 5, 131)
theorem or_X_run : okR mtab (yX11_run, Cond.code yX11_run cX11_run 14 (some .int), 5, 131, 1) dat_X_run (c_X_run, 14) := Or.inr ⟨sm_X_run, rfl, rfl, plainFor_of_name pl_0, rfl, fun h => (by cases h), rfl, rfl⟩
abbrev dat_X_born : mD9 := (RX11, cX11_born, 6, false, (some .boolean), 1, p_X_born, 4, 106)
theorem or_X_born : okR mtab (yX11_born, Cond.code yX11_born cX11_born 6 (some .boolean), 4, 106, 1) dat_X_born (c_X_born, 6) := Or.inr ⟨sm_X_born, rfl, rfl, plainFor_of_name pl_0, rfl, fun h => (by cases h), rfl, rfl⟩
abbrev dat_X_age : mD9 := (RX11, cX11_age, 9, false, (some .int), 1, p_X_age, 5, 132)
theorem or_X_age : okR mtab (yX11_age, Cond.code yX11_age cX11_age 9 (some .int), 5, 132, 1) dat_X_age (c_X_age, 9) := Or.inr ⟨sm_X_age, rfl, rfl, plainFor_of_name pl_0, rfl, fun h => (by cases h), rfl, rfl⟩
abbrev dat_X_event : mD9 := (RX11, cX11_event, 7, false, (some .int), 1, p_X_event, 4, 105)
theorem or_X_event : okR mtab (yX11_event, Cond.code yX11_event cX11_event 7 (some .int), 4, 105, 1) dat_X_event (c_X_event, 7) := Or.inr ⟨sm_X_event, rfl, rfl, plainFor_of_name pl_0, rfl, fun h => (by cases h), rfl, rfl⟩
abbrev dat_X_held : mD9 := (RX11, cX11_held, 6, false, (some .int), 1, p_X_held, 4, 105)
theorem or_X_held : okR mtab (yX11_held, Cond.code yX11_held cX11_held 6 (some .int), 4, 105, 1) dat_X_held (c_X_held, 6) := Or.inr ⟨sm_X_held, rfl, rfl, plainFor_of_name pl_0, rfl, fun h => (by cases h), rfl, rfl⟩
abbrev dat_X_spell : mD9 := (RX11, cX11_spell, 4, false, (some .int), 1, p_X_spell, 2, 50)
theorem or_X_spell : okR mtab (yX11_spell, Cond.code yX11_spell cX11_spell 4 (some .int), 2, 50, 1) dat_X_spell (c_X_spell, 4) := Or.inr ⟨sm_X_spell, rfl, rfl, plainFor_of_name pl_0, rfl, fun h => (by cases h), rfl, rfl⟩
abbrev dat_X_spellFrom : mD9 := (RX11, cX11_spellFrom, 4, false, (some .int), 1, p_X_spellFrom, 1, 25)
theorem or_X_spellFrom : okR mtab (yX11_spellFrom, Cond.code yX11_spellFrom cX11_spellFrom 4 (some .int), 1, 25, 1) dat_X_spellFrom (c_X_spellFrom, 4) := Or.inr ⟨sm_X_spellFrom, rfl, rfl, plainFor_of_name pl_0, rfl, fun h => (by cases h), rfl, rfl⟩
abbrev dat_X_sortsOn : mD9 := (RX11, cX11_sortsOn, 4, false, (some .int), 1, p_X_sortsOn, 0, 0)
theorem or_X_sortsOn : okR mtab (yX11_sortsOn, Cond.code yX11_sortsOn cX11_sortsOn 4 (some .int), 0, 0, 1) dat_X_sortsOn (c_X_sortsOn, 4) := Or.inr ⟨sm_X_sortsOn, rfl, rfl, plainFor_of_name pl_0, rfl, fun h => (by cases h), rfl, rfl⟩
abbrev dat_X_keep : mD9 := (RX11, cX11_keep, 1, false, (some .int), 1, p_X_keep, 0, 0)
theorem or_X_keep : okR mtab (yX11_keep, Cond.code yX11_keep cX11_keep 1 (some .int), 0, 0, 1) dat_X_keep (c_X_keep, 1) := Or.inr ⟨sm_X_keep, rfl, rfl, plainFor_of_name pl_0, rfl, fun h => (by cases h), rfl, rfl⟩
abbrev dat_X_back : mD9 := (RX11, cX11_back, 1, false, (some .int), 1, p_X_back, 0, 0)
theorem or_X_back : okR mtab (yX11_back, Cond.code yX11_back cX11_back 1 (some .int), 0, 0, 1) dat_X_back (c_X_back, 1) := Or.inr ⟨sm_X_back, rfl, rfl, plainFor_of_name pl_0, rfl, fun h => (by cases h), rfl, rfl⟩
abbrev dat_X_count : mD9 := (RX11, cX11_count, 2, false, (some .int), 1, p_X_count, 0, 0)
theorem or_X_count : okR mtab (yX11_count, Cond.code yX11_count cX11_count 2 (some .int), 0, 0, 1) dat_X_count (c_X_count, 2) := Or.inr ⟨sm_X_count, rfl, rfl, plainFor_of_name pl_0, rfl, fun h => (by cases h), rfl, rfl⟩
abbrev dat_X_isYear : mD9 := (RX11, cX11_isYear, 1, false, (some .boolean), 1, p_X_isYear, 0, 0)
theorem or_X_isYear : okR mtab (yX11_isYear, Cond.code yX11_isYear cX11_isYear 1 (some .boolean), 0, 0, 1) dat_X_isYear (c_X_isYear, 1) := Or.inr ⟨sm_X_isYear, rfl, rfl, plainFor_of_name pl_0, rfl, fun h => (by cases h), rfl, rfl⟩
abbrev dat_X_areYears : mD9 := (RX11, cX11_areYears, 2, false, (some .boolean), 1, p_X_areYears, 1, 22)
theorem or_X_areYears : okR mtab (yX11_areYears, Cond.code yX11_areYears cX11_areYears 2 (some .boolean), 1, 22, 1) dat_X_areYears (c_X_areYears, 2) := Or.inr ⟨sm_X_areYears, rfl, rfl, plainFor_of_name pl_0, rfl, fun h => (by cases h), rfl, rfl⟩
abbrev dat_X_isSlack : mD9 := (RX11, cX11_isSlack, 1, false, (some .boolean), 1, p_X_isSlack, 0, 0)
theorem or_X_isSlack : okR mtab (yX11_isSlack, Cond.code yX11_isSlack cX11_isSlack 1 (some .boolean), 0, 0, 1) dat_X_isSlack (c_X_isSlack, 1) := Or.inr ⟨sm_X_isSlack, rfl, rfl, plainFor_of_name pl_0, rfl, fun h => (by cases h), rfl, rfl⟩
abbrev dat_X_isSort : mD9 := (RX11, cX11_isSort, 1, false, (some .boolean), 1, p_X_isSort, 0, 0)
theorem or_X_isSort : okR mtab (yX11_isSort, Cond.code yX11_isSort cX11_isSort 1 (some .boolean), 0, 0, 1) dat_X_isSort (c_X_isSort, 1) := Or.inr ⟨sm_X_isSort, rfl, rfl, plainFor_of_name pl_0, rfl, fun h => (by cases h), rfl, rfl⟩
abbrev dat_X_isDatelike : mD9 := (RX11, cX11_isDatelike, 3, false, (some .boolean), 1, p_X_isDatelike, 1, 22)
theorem or_X_isDatelike : okR mtab (yX11_isDatelike, Cond.code yX11_isDatelike cX11_isDatelike 3 (some .boolean), 1, 22, 1) dat_X_isDatelike (c_X_isDatelike, 3) := Or.inr ⟨sm_X_isDatelike, rfl, rfl, plainFor_of_name pl_0, rfl, fun h => (by cases h), rfl, rfl⟩
abbrev dat_X_keyOf : mD9 := (RX11, cX11_keyOf, 3, false, (some .int), 1, p_X_keyOf, 0, 0)
theorem or_X_keyOf : okR mtab (yX11_keyOf, Cond.code yX11_keyOf cX11_keyOf 3 (some .int), 0, 0, 1) dat_X_keyOf (c_X_keyOf, 3) := Or.inr ⟨sm_X_keyOf, rfl, rfl, plainFor_of_name pl_0, rfl, fun h => (by cases h), rfl, rfl⟩
abbrev dat_X_yearOfKey : mD9 := (RX11, cX11_yearOfKey, 1, false, (some .int), 1, p_X_yearOfKey, 0, 0)
theorem or_X_yearOfKey : okR mtab (yX11_yearOfKey, Cond.code yX11_yearOfKey cX11_yearOfKey 1 (some .int), 0, 0, 1) dat_X_yearOfKey (c_X_yearOfKey, 1) := Or.inr ⟨sm_X_yearOfKey, rfl, rfl, plainFor_of_name pl_0, rfl, fun h => (by cases h), rfl, rfl⟩
abbrev dat_X_monthOfKey : mD9 := (RX11, cX11_monthOfKey, 1, false, (some .int), 1, p_X_monthOfKey, 0, 0)
theorem or_X_monthOfKey : okR mtab (yX11_monthOfKey, Cond.code yX11_monthOfKey cX11_monthOfKey 1 (some .int), 0, 0, 1) dat_X_monthOfKey (c_X_monthOfKey, 1) := Or.inr ⟨sm_X_monthOfKey, rfl, rfl, plainFor_of_name pl_0, rfl, fun h => (by cases h), rfl, rfl⟩
abbrev dat_X_dateOfKey : mD9 := (RX11, cX11_dateOfKey, 1, false, (some .int), 1, p_X_dateOfKey, 0, 0)
theorem or_X_dateOfKey : okR mtab (yX11_dateOfKey, Cond.code yX11_dateOfKey cX11_dateOfKey 1 (some .int), 0, 0, 1) dat_X_dateOfKey (c_X_dateOfKey, 1) := Or.inr ⟨sm_X_dateOfKey, rfl, rfl, plainFor_of_name pl_0, rfl, fun h => (by cases h), rfl, rfl⟩
abbrev dat_X_partOfKey : mD9 := (RX11, cX11_partOfKey, 2, false, (some .int), 1, p_X_partOfKey, 1, 22)
theorem or_X_partOfKey : okR mtab (yX11_partOfKey, Cond.code yX11_partOfKey cX11_partOfKey 2 (some .int), 1, 22, 1) dat_X_partOfKey (c_X_partOfKey, 2) := Or.inr ⟨sm_X_partOfKey, rfl, rfl, plainFor_of_name pl_0, rfl, fun h => (by cases h), rfl, rfl⟩
abbrev dat_X_yearLength : mD9 := (RX11, cX11_yearLength, 1, false, (some .int), 1, p_X_yearLength, 0, 0)
theorem or_X_yearLength : okR mtab (yX11_yearLength, Cond.code yX11_yearLength cX11_yearLength 1 (some .int), 0, 0, 1) dat_X_yearLength (c_X_yearLength, 1) := Or.inr ⟨sm_X_yearLength, rfl, rfl, plainFor_of_name pl_0, rfl, fun h => (by cases h), rfl, rfl⟩
abbrev dat_X_monthLength : mD9 := (RX11, cX11_monthLength, 2, false, (some .int), 1, p_X_monthLength, 0, 0)
theorem or_X_monthLength : okR mtab (yX11_monthLength, Cond.code yX11_monthLength cX11_monthLength 2 (some .int), 0, 0, 1) dat_X_monthLength (c_X_monthLength, 2) := Or.inr ⟨sm_X_monthLength, rfl, rfl, plainFor_of_name pl_0, rfl, fun h => (by cases h), rfl, rfl⟩
abbrev dat_X_placeInYear : mD9 := (RX11, cX11_placeInYear, 3, false, (some .int), 1, p_X_placeInYear, 0, 0)
theorem or_X_placeInYear : okR mtab (yX11_placeInYear, Cond.code yX11_placeInYear cX11_placeInYear 3 (some .int), 0, 0, 1) dat_X_placeInYear (c_X_placeInYear, 3) := Or.inr ⟨sm_X_placeInYear, rfl, rfl, plainFor_of_name pl_0, rfl, fun h => (by cases h), rfl, rfl⟩
abbrev dat_X_keyAt : mD9 := (RX11, cX11_keyAt, 5, false, (some .int), 1, p_X_keyAt, 1, 24)
theorem or_X_keyAt : okR mtab (yX11_keyAt, Cond.code yX11_keyAt cX11_keyAt 5 (some .int), 1, 24, 1) dat_X_keyAt (c_X_keyAt, 5) := Or.inr ⟨sm_X_keyAt, rfl, rfl, plainFor_of_name pl_0, rfl, fun h => (by cases h), rfl, rfl⟩
abbrev dat_X_offBy : mD9 := (RX11, cX11_offBy, 2, false, (some .int), 1, p_X_offBy, 1, 24)
theorem or_X_offBy : okR mtab (yX11_offBy, Cond.code yX11_offBy cX11_offBy 2 (some .int), 1, 24, 1) dat_X_offBy (c_X_offBy, 2) := Or.inr ⟨sm_X_offBy, rfl, rfl, plainFor_of_name pl_0, rfl, fun h => (by cases h), rfl, rfl⟩
abbrev dat_M_in : mD9 := (RX12, cX12_in, 3, false, (some .boolean), 1, p_M_in, 0, 0)
theorem or_M_in : okR mtab (yX12_in, Cond.code yX12_in cX12_in 3 (some .boolean), 0, 0, 1) dat_M_in (c_M_in, 3) := Or.inr ⟨sm_M_in, rfl, rfl, plainFor_of_name pl_1, rfl, fun h => (by cases h), rfl, rfl⟩
abbrev dat_M_init : mD9 := (RX12, cX12_init, 1, true, none, 0, p_M_init, 1, 12)
theorem or_M_init : okR mtab (yX12_init, Cond.code yX12_init cX12_init 1 none, 1, 12, 0) dat_M_init (c_M_init, 1) := Or.inr ⟨sm_M_init, rfl, rfl, plainFor_of_name pl_1, rfl, fun _ => ⟨rfl, by decide, by decide⟩, rfl, rfl⟩
abbrev dat_M_thrown : mD9 := (RX12, cX12_thrown, 1, false, (some .int), 1, p_M_thrown, 0, 0)
theorem or_M_thrown : okR mtab (yX12_thrown, Cond.code yX12_thrown cX12_thrown 1 (some .int), 0, 0, 1) dat_M_thrown (c_M_thrown, 1) := Or.inr ⟨sm_M_thrown, rfl, rfl, plainFor_of_name pl_1, rfl, fun h => (by cases h), rfl, rfl⟩
abbrev dat_M_byteOf : mD9 := (RX12, cX12_byteOf, 7, false, (some .int), 1, p_M_byteOf, 0, 0)
theorem or_M_byteOf : okR mtab (yX12_byteOf, Cond.code yX12_byteOf cX12_byteOf 7 (some .int), 0, 0, 1) dat_M_byteOf (c_M_byteOf, 7) := Or.inr ⟨sm_M_byteOf, rfl, rfl, plainFor_of_name pl_1, rfl, fun h => (by cases h), rfl, rfl⟩
abbrev dat_M_feed : mD9 := (RX12, cX12_feed, 9, false, (some .int), 1, p_M_feed, 1, 28)
theorem or_M_feed : okR mtab (yX12_feed, Cond.code yX12_feed cX12_feed 9 (some .int), 1, 28, 1) dat_M_feed (c_M_feed, 9) := Or.inr ⟨sm_M_feed, rfl, rfl, plainFor_of_name pl_1, rfl, fun h => (by cases h), rfl, rfl⟩
abbrev dat_M_end : mD9 := (RX12, cX12_end, 2, false, (some .boolean), 1, p_M_end, 0, 0)
theorem or_M_end : okR mtab (yX12_end, Cond.code yX12_end cX12_end 2 (some .boolean), 0, 0, 1) dat_M_end (c_M_end, 2) := Or.inr ⟨sm_M_end, rfl, rfl, plainFor_of_name pl_1, rfl, fun h => (by cases h), rfl, rfl⟩
abbrev dat_M_here : mD9 := (RX12, cX12_here, 1, false, (some .int), 1, p_M_here, 0, 0)
theorem or_M_here : okR mtab (yX12_here, Cond.code yX12_here cX12_here 1 (some .int), 0, 0, 1) dat_M_here (c_M_here, 1) := Or.inr ⟨sm_M_here, rfl, rfl, plainFor_of_name pl_1, rfl, fun h => (by cases h), rfl, rfl⟩
abbrev dat_M_look : mD9 := (RX12, cX12_look, 1, false, (some .int), 1, p_M_look, 1, 22)
theorem or_M_look : okR mtab (yX12_look, Cond.code yX12_look cX12_look 1 (some .int), 1, 22, 1) dat_M_look (c_M_look, 1) := Or.inr ⟨sm_M_look, rfl, rfl, plainFor_of_name pl_1, rfl, fun h => (by cases h), rfl, rfl⟩
abbrev dat_M_bad : mD9 := (RX12, cX12_bad, 1, false, none, 0, p_M_bad, 0, 0)
theorem or_M_bad : okR mtab (yX12_bad, Cond.code yX12_bad cX12_bad 1 none, 0, 0, 0) dat_M_bad (c_M_bad, 1) := Or.inr ⟨sm_M_bad, rfl, rfl, plainFor_of_name pl_1, rfl, fun h => (by cases h), rfl, rfl⟩
abbrev dat_M_isDigit : mD9 := (RX12, cX12_isDigit, 1, false, (some .boolean), 1, p_M_isDigit, 0, 0)
theorem or_M_isDigit : okR mtab (yX12_isDigit, Cond.code yX12_isDigit cX12_isDigit 1 (some .boolean), 0, 0, 1) dat_M_isDigit (c_M_isDigit, 1) := Or.inr ⟨sm_M_isDigit, rfl, rfl, plainFor_of_name pl_1, rfl, fun h => (by cases h), rfl, rfl⟩
abbrev dat_M_sign : mD9 := (RX12, cX12_sign, 2, false, none, 0, p_M_sign, 2, 44)
theorem or_M_sign : okR mtab (yX12_sign, Cond.code yX12_sign cX12_sign 2 none, 2, 44, 0) dat_M_sign (c_M_sign, 2) := Or.inr ⟨sm_M_sign, rfl, rfl, plainFor_of_name pl_1, rfl, fun h => (by cases h), rfl, rfl⟩
abbrev dat_M_number : mD9 := (RX12, cX12_number, 5, false, (some .int), 1, p_M_number, 2, 44)
theorem or_M_number : okR mtab (yX12_number, Cond.code yX12_number cX12_number 5 (some .int), 2, 44, 1) dat_M_number (c_M_number, 5) := Or.inr ⟨sm_M_number, rfl, rfl, plainFor_of_name pl_1, rfl, fun h => (by cases h), rfl, rfl⟩
abbrev dat_M_wrongAtLast : mD9 := (RX12, cX12_wrongAtLast, 1, false, none, 0, p_M_wrongAtLast, 0, 0)
theorem or_M_wrongAtLast : okR mtab (yX12_wrongAtLast, Cond.code yX12_wrongAtLast cX12_wrongAtLast 1 none, 0, 0, 0) dat_M_wrongAtLast (c_M_wrongAtLast, 1) := Or.inr ⟨sm_M_wrongAtLast, rfl, rfl, plainFor_of_name pl_1, rfl, fun h => (by cases h), rfl, rfl⟩
abbrev dat_M_closeNumber : mD9 := (RX12, cX12_closeNumber, 1, false, none, 0, p_M_closeNumber, 1, 22)
theorem or_M_closeNumber : okR mtab (yX12_closeNumber, Cond.code yX12_closeNumber cX12_closeNumber 1 none, 1, 22, 0) dat_M_closeNumber (c_M_closeNumber, 1) := Or.inr ⟨sm_M_closeNumber, rfl, rfl, plainFor_of_name pl_1, rfl, fun h => (by cases h), rfl, rfl⟩
abbrev dat_M_plain : mD9 := (RX12, cX12_plain, 4, false, (some .int), 1, p_M_plain, 3, 70)
theorem or_M_plain : okR mtab (yX12_plain, Cond.code yX12_plain cX12_plain 4 (some .int), 3, 70, 1) dat_M_plain (c_M_plain, 4) := Or.inr ⟨sm_M_plain, rfl, rfl, plainFor_of_name pl_1, rfl, fun h => (by cases h), rfl, rfl⟩
abbrev dat_M_isLeap : mD9 := (RX12, cX12_isLeap, 5, false, (some .boolean), 1, p_M_isLeap, 0, 0)
theorem or_M_isLeap : okR mtab (yX12_isLeap, Cond.code yX12_isLeap cX12_isLeap 5 (some .boolean), 0, 0, 1) dat_M_isLeap (c_M_isLeap, 5) := Or.inr ⟨sm_M_isLeap, rfl, rfl, plainFor_of_name pl_1, rfl, fun h => (by cases h), rfl, rfl⟩
abbrev dat_M_daysOf : mD9 := (RX12, cX12_daysOf, 4, false, (some .int), 1, p_M_daysOf, 1, 26)
theorem or_M_daysOf : okR mtab (yX12_daysOf, Cond.code yX12_daysOf cX12_daysOf 4 (some .int), 1, 26, 1) dat_M_daysOf (c_M_daysOf, 4) := Or.inr ⟨sm_M_daysOf, rfl, rfl, plainFor_of_name pl_1, rfl, fun h => (by cases h), rfl, rfl⟩
abbrev dat_M_code : mD9 := (RX12, cX12_code, 3, false, (some .int), 1, p_M_code, 0, 0)
theorem or_M_code : okR mtab (yX12_code, Cond.code yX12_code cX12_code 3 (some .int), 0, 0, 1) dat_M_code (c_M_code, 3) := Or.inr ⟨sm_M_code, rfl, rfl, plainFor_of_name pl_1, rfl, fun h => (by cases h), rfl, rfl⟩
abbrev dat_M_ordinal : mD9 := (RX12, cX12_ordinal, 7, false, (some .int), 1, p_M_ordinal, 2, 51)
theorem or_M_ordinal : okR mtab (yX12_ordinal, Cond.code yX12_ordinal cX12_ordinal 7 (some .int), 2, 51, 1) dat_M_ordinal (c_M_ordinal, 7) := Or.inr ⟨sm_M_ordinal, rfl, rfl, plainFor_of_name pl_1, rfl, fun h => (by cases h), rfl, rfl⟩
abbrev dat_M_layOut : mD9 := (RX12, cX12_layOut, 4, false, none, 0, p_M_layOut, 1, 26)
theorem or_M_layOut : okR mtab (yX12_layOut, Cond.code yX12_layOut cX12_layOut 4 none, 1, 26, 0) dat_M_layOut (c_M_layOut, 4) := Or.inr ⟨sm_M_layOut, rfl, rfl, plainFor_of_name pl_1, rfl, fun h => (by cases h), rfl, rfl⟩
abbrev dat_M_dated : mD9 := (RX12, cX12_dated, 7, false, (some .int), 1, p_M_dated, 2, 51)
theorem or_M_dated : okR mtab (yX12_dated, Cond.code yX12_dated cX12_dated 7 (some .int), 2, 51, 1) dat_M_dated (c_M_dated, 7) := Or.inr ⟨sm_M_dated, rfl, rfl, plainFor_of_name pl_1, rfl, fun h => (by cases h), rfl, rfl⟩
abbrev dat_M_readLeaps : mD9 := (RX12, cX12_readLeaps, 5, false, none, 0, p_M_readLeaps, 4, 95)
theorem or_M_readLeaps : okR mtab (yX12_readLeaps, Cond.code yX12_readLeaps cX12_readLeaps 5 none, 4, 95, 0) dat_M_readLeaps (c_M_readLeaps, 5) := Or.inr ⟨sm_M_readLeaps, rfl, rfl, plainFor_of_name pl_1, rfl, fun h => (by cases h), rfl, rfl⟩
abbrev dat_M_readCalendar : mD9 := (RX12, cX12_readCalendar, 3, false, (some .int), 1, p_M_readCalendar, 6, 149)
theorem or_M_readCalendar : okR mtab (yX12_readCalendar, Cond.code yX12_readCalendar cX12_readCalendar 3 (some .int), 6, 149, 1) dat_M_readCalendar (c_M_readCalendar, 3) := Or.inr ⟨sm_M_readCalendar, rfl, rfl, plainFor_of_name pl_1, rfl, fun h => (by cases h), rfl, rfl⟩
abbrev dat_M_change : mD9 := (RX12, cX12_change, 7, false, none, 0, p_M_change, 5, 121)
theorem or_M_change : okR mtab (yX12_change, Cond.code yX12_change cX12_change 7 none, 5, 121, 0) dat_M_change (c_M_change, 7) := Or.inr ⟨sm_M_change, rfl, rfl, plainFor_of_name pl_1, rfl, fun h => (by cases h), rfl, rfl⟩
abbrev dat_M_item : mD9 := (RX12, cX12_item, 4, false, none, 0, p_M_item, 5, 120)
theorem or_M_item : okR mtab (yX12_item, Cond.code yX12_item cX12_item 4 none, 5, 120, 0) dat_M_item (c_M_item, 4) := Or.inr ⟨sm_M_item, rfl, rfl, plainFor_of_name pl_1, rfl, fun h => (by cases h), rfl, rfl⟩
abbrev dat_M_readStep : mD9 := (RX12, cX12_readStep, 4, false, none, 0, p_M_readStep, 4, 95)
theorem or_M_readStep : okR mtab (yX12_readStep, Cond.code yX12_readStep cX12_readStep 4 none, 4, 95, 0) dat_M_readStep (c_M_readStep, 4) := Or.inr ⟨sm_M_readStep, rfl, rfl, plainFor_of_name pl_1, rfl, fun h => (by cases h), rfl, rfl⟩
abbrev dat_M_readLike : mD9 := (RX12, cX12_readLike, 3, false, none, 0, p_M_readLike, 4, 95)
theorem or_M_readLike : okR mtab (yX12_readLike, Cond.code yX12_readLike cX12_readLike 3 none, 4, 95, 0) dat_M_readLike (c_M_readLike, 3) := Or.inr ⟨sm_M_readLike, rfl, rfl, plainFor_of_name pl_1, rfl, fun h => (by cases h), rfl, rfl⟩
abbrev dat_M_readCost : mD9 := (RX12, cX12_readCost, 4, false, none, 0, p_M_readCost, 4, 95)
theorem or_M_readCost : okR mtab (yX12_readCost, Cond.code yX12_readCost cX12_readCost 4 none, 4, 95, 0) dat_M_readCost (c_M_readCost, 4) := Or.inr ⟨sm_M_readCost, rfl, rfl, plainFor_of_name pl_1, rfl, fun h => (by cases h), rfl, rfl⟩
abbrev dat_M_readHead : mD9 := (RX12, cX12_readHead, 3, false, (some .int), 1, p_M_readHead, 6, 145)
theorem or_M_readHead : okR mtab (yX12_readHead, Cond.code yX12_readHead cX12_readHead 3 (some .int), 6, 145, 1) dat_M_readHead (c_M_readHead, 3) := Or.inr ⟨sm_M_readHead, rfl, rfl, plainFor_of_name pl_1, rfl, fun h => (by cases h), rfl, rfl⟩
abbrev dat_M_fault : mD9 := (RX12, cX12_fault, 2, false, (some .int), 1, p_M_fault, 7, 173)
theorem or_M_fault : okR mtab (yX12_fault, Cond.code yX12_fault cX12_fault 2 (some .int), 7, 173, 1) dat_M_fault (c_M_fault, 2) := Or.inr ⟨sm_M_fault, rfl, rfl, plainFor_of_name pl_1, rfl, fun h => (by cases h), rfl, rfl⟩
abbrev dat_M_text : mD9 := (RX12, cX12_text, 2, false, (some .int), 1, p_M_text, 7, 173)
theorem or_M_text : okR mtab (yX12_text, Cond.code yX12_text cX12_text 2 (some .int), 7, 173, 1) dat_M_text (c_M_text, 2) := Or.inr ⟨sm_M_text, rfl, rfl, plainFor_of_name pl_1, rfl, fun h => (by cases h), rfl, rfl⟩
abbrev dat_M_isCalendar : mD9 := (RX12, cX12_isCalendar, 2, false, (some .boolean), 1, p_M_isCalendar, 1, 24)
theorem or_M_isCalendar : okR mtab (yX12_isCalendar, Cond.code yX12_isCalendar cX12_isCalendar 2 (some .boolean), 1, 24, 1) dat_M_isCalendar (c_M_isCalendar, 2) := Or.inr ⟨sm_M_isCalendar, rfl, rfl, plainFor_of_name pl_1, rfl, fun h => (by cases h), rfl, rfl⟩
abbrev dat_M_stretchOf : mD9 := (RX12, cX12_stretchOf, 6, false, (some .int), 1, p_M_stretchOf, 2, 51)
theorem or_M_stretchOf : okR mtab (yX12_stretchOf, Cond.code yX12_stretchOf cX12_stretchOf 6 (some .int), 2, 51, 1) dat_M_stretchOf (c_M_stretchOf, 6) := Or.inr ⟨sm_M_stretchOf, rfl, rfl, plainFor_of_name pl_1, rfl, fun h => (by cases h), rfl, rfl⟩
abbrev dat_M_isDate : mD9 := (RX12, cX12_isDate, 5, false, (some .boolean), 1, p_M_isDate, 3, 78)
theorem or_M_isDate : okR mtab (yX12_isDate, Cond.code yX12_isDate cX12_isDate 5 (some .boolean), 3, 78, 1) dat_M_isDate (c_M_isDate, 5) := Or.inr ⟨sm_M_isDate, rfl, rfl, plainFor_of_name pl_1, rfl, fun h => (by cases h), rfl, rfl⟩
abbrev dat_M_dayOf : mD9 := (RX12, cX12_dayOf, 6, false, (some .int), 1, p_M_dayOf, 3, 79)
theorem or_M_dayOf : okR mtab (yX12_dayOf, Cond.code yX12_dayOf cX12_dayOf 6 (some .int), 3, 79, 1) dat_M_dayOf (c_M_dayOf, 6) := Or.inr ⟨sm_M_dayOf, rfl, rfl, plainFor_of_name pl_1, rfl, fun h => (by cases h), rfl, rfl⟩
abbrev dat_M_day : mD9 := (RX12, cX12_day, 5, false, (some .int), 1, p_M_day, 4, 106)
theorem or_M_day : okR mtab (yX12_day, Cond.code yX12_day cX12_day 5 (some .int), 4, 106, 1) dat_M_day (c_M_day, 5) := Or.inr ⟨sm_M_day, rfl, rfl, plainFor_of_name pl_1, rfl, fun h => (by cases h), rfl, rfl⟩
abbrev dat_M_dateOf : mD9 := (RX12, cX12_dateOf, 6, false, (some .int), 1, p_M_dateOf, 3, 79)
theorem or_M_dateOf : okR mtab (yX12_dateOf, Cond.code yX12_dateOf cX12_dateOf 6 (some .int), 3, 79, 1) dat_M_dateOf (c_M_dateOf, 6) := Or.inr ⟨sm_M_dateOf, rfl, rfl, plainFor_of_name pl_1, rfl, fun h => (by cases h), rfl, rfl⟩
abbrev dat_M_partOf : mD9 := (RX12, cX12_partOf, 2, false, (some .int), 1, p_M_partOf, 0, 0)
theorem or_M_partOf : okR mtab (yX12_partOf, Cond.code yX12_partOf cX12_partOf 2 (some .int), 0, 0, 1) dat_M_partOf (c_M_partOf, 2) := Or.inr ⟨sm_M_partOf, rfl, rfl, plainFor_of_name pl_1, rfl, fun h => (by cases h), rfl, rfl⟩
abbrev dat_M_date : mD9 := (RX12, cX12_date, 5, false, (some .int), 1, p_M_date, 4, 106)
theorem or_M_date : okR mtab (yX12_date, Cond.code yX12_date cX12_date 5 (some .int), 4, 106, 1) dat_M_date (c_M_date, 5) := Or.inr ⟨sm_M_date, rfl, rfl, plainFor_of_name pl_1, rfl, fun h => (by cases h), rfl, rfl⟩
abbrev dat_M_turned : mD9 := (RX12, cX12_turned, 7, false, (some .int), 1, p_M_turned, 5, 132)
theorem or_M_turned : okR mtab (yX12_turned, Cond.code yX12_turned cX12_turned 7 (some .int), 5, 132, 1) dat_M_turned (c_M_turned, 7) := Or.inr ⟨sm_M_turned, rfl, rfl, plainFor_of_name pl_1, rfl, fun h => (by cases h), rfl, rfl⟩
abbrev dat_M_many : mD9 := (RX12, cX12_many, 7, false, (some .int), 1, p_M_many, 4, 104)
theorem or_M_many : okR mtab (yX12_many, Cond.code yX12_many cX12_many 7 (some .int), 4, 104, 1) dat_M_many (c_M_many, 7) := Or.inr ⟨sm_M_many, rfl, rfl, plainFor_of_name pl_1, rfl, fun h => (by cases h), rfl, rfl⟩
abbrev dat_M_kindOf : mD9 := (RX12, cX12_kindOf, 5, false, (some .int), 1, p_M_kindOf, 4, 106)
theorem or_M_kindOf : okR mtab (yX12_kindOf, Cond.code yX12_kindOf cX12_kindOf 5 (some .int), 4, 106, 1) dat_M_kindOf (c_M_kindOf, 5) := Or.inr ⟨sm_M_kindOf, rfl, rfl, plainFor_of_name pl_1, rfl, fun h => (by cases h), rfl, rfl⟩
abbrev dat_M_kind : mD9 := (RX12, cX12_kind, 3, false, (some .int), 1, p_M_kind, 5, 132)
theorem or_M_kind : okR mtab (yX12_kind, Cond.code yX12_kind cX12_kind 3 (some .int), 5, 132, 1) dat_M_kind (c_M_kind, 3) := Or.inr ⟨sm_M_kind, rfl, rfl, plainFor_of_name pl_1, rfl, fun h => (by cases h), rfl, rfl⟩
abbrev dat_M_push : mD9 := (RX12, cX12_push, 2, false, none, 0, p_M_push, 0, 0)
theorem or_M_push : okR mtab (yX12_push, Cond.code yX12_push cX12_push 2 none, 0, 0, 0) dat_M_push (c_M_push, 2) := Or.inr ⟨sm_M_push, rfl, rfl, plainFor_of_name pl_1, rfl, fun h => (by cases h), rfl, rfl⟩
abbrev dat_M_flood : mD9 := (RX12, cX12_flood, 5, false, none, 0, p_M_flood, 2, 52)
theorem or_M_flood : okR mtab (yX12_flood, Cond.code yX12_flood cX12_flood 5 none, 2, 52, 0) dat_M_flood (c_M_flood, 5) := Or.inr ⟨sm_M_flood, rfl, rfl, plainFor_of_name pl_1, rfl, fun h => (by cases h), rfl, rfl⟩
abbrev dat_M_touch : mD9 := (RX12, cX12_touch, 7, false, none, 0, p_M_touch, 1, 24)
theorem or_M_touch : okR mtab (yX12_touch, Cond.code yX12_touch cX12_touch 7 none, 1, 24, 0) dat_M_touch (c_M_touch, 7) := Or.inr ⟨sm_M_touch, rfl, rfl, plainFor_of_name pl_1, rfl, fun h => (by cases h), rfl, rfl⟩
abbrev dat_M_knowsYear : mD9 := (RX12, cX12_knowsYear, 4, false, (some .boolean), 1, p_M_knowsYear, 1, 24)
theorem or_M_knowsYear : okR mtab (yX12_knowsYear, Cond.code yX12_knowsYear cX12_knowsYear 4 (some .boolean), 1, 24, 1) dat_M_knowsYear (c_M_knowsYear, 4) := Or.inr ⟨sm_M_knowsYear, rfl, rfl, plainFor_of_name pl_1, rfl, fun h => (by cases h), rfl, rfl⟩
abbrev dat_M_spread : mD9 := (RX12, cX12_spread, 8, false, none, 0, p_M_spread, 3, 78)
theorem or_M_spread : okR mtab (yX12_spread, Cond.code yX12_spread cX12_spread 8 none, 3, 78, 0) dat_M_spread (c_M_spread, 8) := Or.inr ⟨sm_M_spread, rfl, rfl, plainFor_of_name pl_1, rfl, fun h => (by cases h), rfl, rfl⟩
abbrev dat_M_nextYear : mD9 := (RX12, cX12_nextYear, 9, false, (some .int), 1, p_M_nextYear, 1, 24)
theorem or_M_nextYear : okR mtab (yX12_nextYear, Cond.code yX12_nextYear cX12_nextYear 9 (some .int), 1, 24, 1) dat_M_nextYear (c_M_nextYear, 9) := Or.inr ⟨sm_M_nextYear, rfl, rfl, plainFor_of_name pl_1, rfl, fun h => (by cases h), rfl, rfl⟩
abbrev dat_M_nextMonth : mD9 := (RX12, cX12_nextMonth, 8, false, (some .int), 1, p_M_nextMonth, 0, 0)
theorem or_M_nextMonth : okR mtab (yX12_nextMonth, Cond.code yX12_nextMonth cX12_nextMonth 8 (some .int), 0, 0, 1) dat_M_nextMonth (c_M_nextMonth, 8) := Or.inr ⟨sm_M_nextMonth, rfl, rfl, plainFor_of_name pl_1, rfl, fun h => (by cases h), rfl, rfl⟩
abbrev dat_M_isHead : mD9 := (RX12, cX12_isHead, 2, false, (some .boolean), 1, p_M_isHead, 1, 24)
theorem or_M_isHead : okR mtab (yX12_isHead, Cond.code yX12_isHead cX12_isHead 2 (some .boolean), 1, 24, 1) dat_M_isHead (c_M_isHead, 2) := Or.inr ⟨sm_M_isHead, rfl, rfl, plainFor_of_name pl_1, rfl, fun h => (by cases h), rfl, rfl⟩
abbrev dat_M_goes : mD9 := (RX12, cX12_goes, 6, false, (some .boolean), 1, p_M_goes, 4, 104)
theorem or_M_goes : okR mtab (yX12_goes, Cond.code yX12_goes cX12_goes 6 (some .boolean), 4, 104, 1) dat_M_goes (c_M_goes, 6) := Or.inr ⟨sm_M_goes, rfl, rfl, plainFor_of_name pl_1, rfl, fun h => (by cases h), rfl, rfl⟩
abbrev dat_M_way : mD9 := (RX12, cX12_way, 9, false, (some .int), 1, p_M_way, 5, 131)
theorem or_M_way : okR mtab (yX12_way, Cond.code yX12_way cX12_way 9 (some .int), 5, 131, 1) dat_M_way (c_M_way, 9) := Or.inr ⟨sm_M_way, rfl, rfl, plainFor_of_name pl_1, rfl, fun h => (by cases h), rfl, rfl⟩
abbrev dat_M_answer : mD9 := (RX12, cX12_answer, 8, false, (some .boolean), 1, p_M_answer, 5, 131)
theorem or_M_answer : okR mtab (yX12_answer, Cond.code yX12_answer cX12_answer 8 (some .boolean), 5, 131, 1) dat_M_answer (c_M_answer, 8) := Or.inr ⟨sm_M_answer, rfl, rfl, plainFor_of_name pl_1, rfl, fun h => (by cases h), rfl, rfl⟩
abbrev dat_M_round : mD9 := (RX12, cX12_round, 2, false, (some .int), 1, p_M_round, 0, 0)
theorem or_M_round : okR mtab (yX12_round, Cond.code yX12_round cX12_round 2 (some .int), 0, 0, 1) dat_M_round (c_M_round, 2) := Or.inr ⟨sm_M_round, rfl, rfl, plainFor_of_name pl_1, rfl, fun h => (by cases h), rfl, rfl⟩
abbrev dat_M_falseStep : mD9 := (RX12, cX12_falseStep, 5, false, (some .int), 1, p_M_falseStep, 5, 132)
theorem or_M_falseStep : okR mtab (yX12_falseStep, Cond.code yX12_falseStep cX12_falseStep 5 (some .int), 5, 132, 1) dat_M_falseStep (c_M_falseStep, 5) := Or.inr ⟨sm_M_falseStep, rfl, rfl, plainFor_of_name pl_1, rfl, fun h => (by cases h), rfl, rfl⟩
abbrev dat_M_answers : mD9 := (RX12, cX12_answers, 7, false, (some .int), 1, p_M_answers, 6, 160)
theorem or_M_answers : okR mtab (yX12_answers, Cond.code yX12_answers cX12_answers 7 (some .int), 6, 160, 1) dat_M_answers (c_M_answers, 7) := Or.inr ⟨sm_M_answers, rfl, rfl, plainFor_of_name pl_1, rfl, fun h => (by cases h), rfl, rfl⟩
abbrev dat_M_ask : mD9 := (RX12, cX12_ask, 8, false, (some .int), 1, p_M_ask, 4, 104)
theorem or_M_ask : okR mtab (yX12_ask, Cond.code yX12_ask cX12_ask 8 (some .int), 4, 104, 1) dat_M_ask (c_M_ask, 8) := Or.inr ⟨sm_M_ask, rfl, rfl, plainFor_of_name pl_1, rfl, fun h => (by cases h), rfl, rfl⟩
abbrev dat_M_askDay : mD9 := (RX12, cX12_askDay, 2, false, (some .int), 1, p_M_askDay, 4, 106)
theorem or_M_askDay : okR mtab (yX12_askDay, Cond.code yX12_askDay cX12_askDay 2 (some .int), 4, 106, 1) dat_M_askDay (c_M_askDay, 2) := Or.inr ⟨sm_M_askDay, rfl, rfl, plainFor_of_name pl_1, rfl, fun h => (by cases h), rfl, rfl⟩
abbrev dat_M_asked : mD9 := (RX12, cX12_asked, 3, false, (some .int), 1, p_M_asked, 5, 129)
theorem or_M_asked : okR mtab (yX12_asked, Cond.code yX12_asked cX12_asked 3 (some .int), 5, 129, 1) dat_M_asked (c_M_asked, 3) := Or.inr ⟨sm_M_asked, rfl, rfl, plainFor_of_name pl_1, rfl, fun h => (by cases h), rfl, rfl⟩
abbrev dat_M_isSo : mD9 := (RX12, cX12_isSo, 4, false, (some .boolean), 1, p_M_isSo, 6, 160)
theorem or_M_isSo : okR mtab (yX12_isSo, Cond.code yX12_isSo cX12_isSo 4 (some .boolean), 6, 160, 1) dat_M_isSo (c_M_isSo, 4) := Or.inr ⟨sm_M_isSo, rfl, rfl, plainFor_of_name pl_1, rfl, fun h => (by cases h), rfl, rfl⟩
abbrev dat_M_soMany : mD9 := (RX12, cX12_soMany, 5, false, (some .int), 1, p_M_soMany, 7, 185)
theorem or_M_soMany : okR mtab (yX12_soMany, Cond.code yX12_soMany cX12_soMany 5 (some .int), 7, 185, 1) dat_M_soMany (c_M_soMany, 5) := Or.inr ⟨sm_M_soMany, rfl, rfl, plainFor_of_name pl_1, rfl, fun h => (by cases h), rfl, rfl⟩
abbrev dat_M_isSlack : mD9 := (RX12, cX12_isSlack, 2, false, (some .boolean), 1, p_M_isSlack, 1, 24)
theorem or_M_isSlack : okR mtab (yX12_isSlack, Cond.code yX12_isSlack cX12_isSlack 2 (some .boolean), 1, 24, 1) dat_M_isSlack (c_M_isSlack, 2) := Or.inr ⟨sm_M_isSlack, rfl, rfl, plainFor_of_name pl_1, rfl, fun h => (by cases h), rfl, rfl⟩
abbrev dat_M_fits : mD9 := (RX12, cX12_fits, 4, false, (some .int), 1, p_M_fits, 8, 211)
theorem or_M_fits : okR mtab (yX12_fits, Cond.code yX12_fits cX12_fits 4 (some .int), 8, 211, 1) dat_M_fits (c_M_fits, 4) := Or.inr ⟨sm_M_fits, rfl, rfl, plainFor_of_name pl_1, rfl, fun h => (by cases h), rfl, rfl⟩
abbrev dat_M_so : mD9 := (RX12, cX12_so, 3, false, (some .int), 1, p_M_so, 8, 211)
theorem or_M_so : okR mtab (yX12_so, Cond.code yX12_so cX12_so 3 (some .int), 8, 211, 1) dat_M_so (c_M_so, 3) := Or.inr ⟨sm_M_so, rfl, rfl, plainFor_of_name pl_1, rfl, fun h => (by cases h), rfl, rfl⟩
abbrev dat_M_further : mD9 := (RX12, cX12_further, 6, false, (some .int), 1, p_M_further, 1, 24)
theorem or_M_further : okR mtab (yX12_further, Cond.code yX12_further cX12_further 6 (some .int), 1, 24, 1) dat_M_further (c_M_further, 6) := Or.inr ⟨sm_M_further, rfl, rfl, plainFor_of_name pl_1, rfl, fun h => (by cases h), rfl, rfl⟩
abbrev dat_M_mean : mD9 := (RX12, cX12_mean, 2, false, (some .int), 1, p_M_mean, 0, 0)
theorem or_M_mean : okR mtab (yX12_mean, Cond.code yX12_mean cX12_mean 2 (some .int), 0, 0, 1) dat_M_mean (c_M_mean, 2) := Or.inr ⟨sm_M_mean, rfl, rfl, plainFor_of_name pl_1, rfl, fun h => (by cases h), rfl, rfl⟩
abbrev dat_M_lived : mD9 := (RX12, cX12_lived, 5, false, (some .int), 1, p_M_lived, 5, 129)
theorem or_M_lived : okR mtab (yX12_lived, Cond.code yX12_lived cX12_lived 5 (some .int), 5, 129, 1) dat_M_lived (c_M_lived, 5) := Or.inr ⟨sm_M_lived, rfl, rfl, plainFor_of_name pl_1, rfl, fun h => (by cases h), rfl, rfl⟩
abbrev dat_M_after : mD9 := (RX12, cX12_after, 7, false, (some .int), 1, p_M_after, 5, 132)
theorem or_M_after : okR mtab (yX12_after, Cond.code yX12_after cX12_after 7 (some .int), 5, 132, 1) dat_M_after (c_M_after, 7) := Or.inr ⟨sm_M_after, rfl, rfl, plainFor_of_name pl_1, rfl, fun h => (by cases h), rfl, rfl⟩
abbrev dat_M_learnt : mD9 := (RX12, cX12_learnt, 8, false, (some .int), 1, p_M_learnt, 7, 185)
theorem or_M_learnt : okR mtab (yX12_learnt, Cond.code yX12_learnt cX12_learnt 8 (some .int), 7, 185, 1) dat_M_learnt (c_M_learnt, 8) := Or.inr ⟨sm_M_learnt, rfl, rfl, plainFor_of_name pl_1, rfl, fun h => (by cases h), rfl, rfl⟩
abbrev dat_M_weigh : mD9 := (RX12, cX12_weigh, 3, false, (some .boolean), 1, p_M_weigh, 2, 47)
theorem or_M_weigh : okR mtab (yX12_weigh, Cond.code yX12_weigh cX12_weigh 3 (some .boolean), 2, 47, 1) dat_M_weigh (c_M_weigh, 3) := Or.inr ⟨sm_M_weigh, rfl, rfl, plainFor_of_name pl_1, rfl, fun h => (by cases h), rfl, rfl⟩
abbrev dat_M_odds : mD9 := (RX12, cX12_odds, 5, false, (some .int), 1, p_M_odds, 8, 211)
theorem or_M_odds : okR mtab (yX12_odds, Cond.code yX12_odds cX12_odds 5 (some .int), 8, 211, 1) dat_M_odds (c_M_odds, 5) := Or.inr ⟨sm_M_odds, rfl, rfl, plainFor_of_name pl_1, rfl, fun h => (by cases h), rfl, rfl⟩
abbrev dat_M_plan : mD9 := (RX12, cX12_plan, 5, false, (some .int), 1, p_M_plan, 4, 104)
theorem or_M_plan : okR mtab (yX12_plan, Cond.code yX12_plan cX12_plan 5 (some .int), 4, 104, 1) dat_M_plan (c_M_plan, 5) := Or.inr ⟨sm_M_plan, rfl, rfl, plainFor_of_name pl_1, rfl, fun h => (by cases h), rfl, rfl⟩
abbrev dat_M_areApart : mD9 := (RX12, cX12_areApart, 11, false, (some .boolean), 1, p_M_areApart, 6, 160)
theorem or_M_areApart : okR mtab (yX12_areApart, Cond.code yX12_areApart cX12_areApart 11 (some .boolean), 6, 160, 1) dat_M_areApart (c_M_areApart, 11) := Or.inr ⟨sm_M_areApart, rfl, rfl, plainFor_of_name pl_1, rfl, fun h => (by cases h), rfl, rfl⟩
abbrev dat_M_partedBy : mD9 := (RX12, cX12_partedBy, 7, false, (some .int), 1, p_M_partedBy, 7, 192)
theorem or_M_partedBy : okR mtab (yX12_partedBy, Cond.code yX12_partedBy cX12_partedBy 7 (some .int), 7, 192, 1) dat_M_partedBy (c_M_partedBy, 7) := Or.inr ⟨sm_M_partedBy, rfl, rfl, plainFor_of_name pl_1, rfl, fun h => (by cases h), rfl, rfl⟩
abbrev dat_M_areHeads : mD9 := (RX12, cX12_areHeads, 2, false, (some .boolean), 1, p_M_areHeads, 0, 0)
theorem or_M_areHeads : okR mtab (yX12_areHeads, Cond.code yX12_areHeads cX12_areHeads 2 (some .boolean), 0, 0, 1) dat_M_areHeads (c_M_areHeads, 2) := Or.inr ⟨sm_M_areHeads, rfl, rfl, plainFor_of_name pl_1, rfl, fun h => (by cases h), rfl, rfl⟩
abbrev dat_M_parted : mD9 := (RX12, cX12_parted, 3, false, (some .int), 1, p_M_parted, 8, 220)
theorem or_M_parted : okR mtab (yX12_parted, Cond.code yX12_parted cX12_parted 3 (some .int), 8, 220, 1) dat_M_parted (c_M_parted, 3) := Or.inr ⟨sm_M_parted, rfl, rfl, plainFor_of_name pl_1, rfl, fun h => (by cases h), rfl, rfl⟩
abbrev dat_M_next : mD9 := (RX12, cX12_next, 6, false, (some .int), 1, p_M_next, 8, 220)
theorem or_M_next : okR mtab (yX12_next, Cond.code yX12_next cX12_next 6 (some .int), 8, 220, 1) dat_M_next (c_M_next, 6) := Or.inr ⟨sm_M_next, rfl, rfl, plainFor_of_name pl_1, rfl, fun h => (by cases h), rfl, rfl⟩
abbrev dat_M_part : mD9 := (RX12, cX12_part, 9, false, (some .int), 1, p_M_part, 7, 192)
theorem or_M_part : okR mtab (yX12_part, Cond.code yX12_part cX12_part 9 (some .int), 7, 192, 1) dat_M_part (c_M_part, 9) := Or.inr ⟨sm_M_part, rfl, rfl, plainFor_of_name pl_1, rfl, fun h => (by cases h), rfl, rfl⟩
abbrev dat_M_nearYears : mD9 := (RX12, cX12_nearYears, 9, false, none, 0, p_M_nearYears, 3, 78)
theorem or_M_nearYears : okR mtab (yX12_nearYears, Cond.code yX12_nearYears cX12_nearYears 9 none, 3, 78, 0) dat_M_nearYears (c_M_nearYears, 9) := Or.inr ⟨sm_M_nearYears, rfl, rfl, plainFor_of_name pl_1, rfl, fun h => (by cases h), rfl, rfl⟩
abbrev dat_M_doAll : mD9 := (RX12, cX12_doAll, 4, false, (some .boolean), 1, p_M_doAll, 0, 0)
theorem or_M_doAll : okR mtab (yX12_doAll, Cond.code yX12_doAll cX12_doAll 4 (some .boolean), 0, 0, 1) dat_M_doAll (c_M_doAll, 4) := Or.inr ⟨sm_M_doAll, rfl, rfl, plainFor_of_name pl_1, rfl, fun h => (by cases h), rfl, rfl⟩
abbrev dat_M_least : mD9 := (RX12, cX12_least, 10, false, (some .int), 1, p_M_least, 4, 108)
theorem or_M_least : okR mtab (yX12_least, Cond.code yX12_least cX12_least 10 (some .int), 4, 108, 1) dat_M_least (c_M_least, 10) := Or.inr ⟨sm_M_least, rfl, rfl, plainFor_of_name pl_1, rfl, fun h => (by cases h), rfl, rfl⟩
abbrev dat_M_like : mD9 := (RX12, cX12_like, 7, false, (some .int), 1, p_M_like, 5, 132)
theorem or_M_like : okR mtab (yX12_like, Cond.code yX12_like cX12_like 7 (some .int), 5, 132, 1) dat_M_like (c_M_like, 7) := Or.inr ⟨sm_M_like, rfl, rfl, plainFor_of_name pl_1, rfl, fun h => (by cases h), rfl, rfl⟩
abbrev dat_M_thirteenths : mD9 := (RX12, cX12_thirteenths, 8, false, (some .int), 1, p_M_thirteenths, 4, 106)
theorem or_M_thirteenths : okR mtab (yX12_thirteenths, Cond.code yX12_thirteenths cX12_thirteenths 8 (some .int), 4, 106, 1) dat_M_thirteenths (c_M_thirteenths, 8) := Or.inr ⟨sm_M_thirteenths, rfl, rfl, plainFor_of_name pl_1, rfl, fun h => (by cases h), rfl, rfl⟩
abbrev dat_M_mates : mD9 := (RX12, cX12_mates, 6, false, (some .int), 1, p_M_mates, 4, 106)
theorem or_M_mates : okR mtab (yX12_mates, Cond.code yX12_mates cX12_mates 6 (some .int), 4, 106, 1) dat_M_mates (c_M_mates, 6) := Or.inr ⟨sm_M_mates, rfl, rfl, plainFor_of_name pl_1, rfl, fun h => (by cases h), rfl, rfl⟩
abbrev dat_M_born : mD9 := (RX12, cX12_born, 5, false, (some .boolean), 1, p_M_born, 4, 106)
theorem or_M_born : okR mtab (yX12_born, Cond.code yX12_born cX12_born 5 (some .boolean), 4, 106, 1) dat_M_born (c_M_born, 5) := Or.inr ⟨sm_M_born, rfl, rfl, plainFor_of_name pl_1, rfl, fun h => (by cases h), rfl, rfl⟩
abbrev dat_M_firstFrom : mD9 := (RX12, cX12_firstFrom, 6, false, (some .int), 1, p_M_firstFrom, 4, 106)
theorem or_M_firstFrom : okR mtab (yX12_firstFrom, Cond.code yX12_firstFrom cX12_firstFrom 6 (some .int), 4, 106, 1) dat_M_firstFrom (c_M_firstFrom, 6) := Or.inr ⟨sm_M_firstFrom, rfl, rfl, plainFor_of_name pl_1, rfl, fun h => (by cases h), rfl, rfl⟩
abbrev dat_M_age : mD9 := (RX12, cX12_age, 8, false, (some .int), 1, p_M_age, 5, 133)
theorem or_M_age : okR mtab (yX12_age, Cond.code yX12_age cX12_age 8 (some .int), 5, 133, 1) dat_M_age (c_M_age, 8) := Or.inr ⟨sm_M_age, rfl, rfl, plainFor_of_name pl_1, rfl, fun h => (by cases h), rfl, rfl⟩
abbrev dat_M_event : mD9 := (RX12, cX12_event, 6, false, (some .int), 1, p_M_event, 4, 106)
theorem or_M_event : okR mtab (yX12_event, Cond.code yX12_event cX12_event 6 (some .int), 4, 106, 1) dat_M_event (c_M_event, 6) := Or.inr ⟨sm_M_event, rfl, rfl, plainFor_of_name pl_1, rfl, fun h => (by cases h), rfl, rfl⟩
abbrev dat_M_held : mD9 := (RX12, cX12_held, 7, false, (some .int), 1, p_M_held, 4, 106)
theorem or_M_held : okR mtab (yX12_held, Cond.code yX12_held cX12_held 7 (some .int), 4, 106, 1) dat_M_held (c_M_held, 7) := Or.inr ⟨sm_M_held, rfl, rfl, plainFor_of_name pl_1, rfl, fun h => (by cases h), rfl, rfl⟩
abbrev dat_M_hasEvent : mD9 := (RX12, cX12_hasEvent, 4, false, (some .boolean), 1, p_M_hasEvent, 0, 0)
theorem or_M_hasEvent : okR mtab (yX12_hasEvent, Cond.code yX12_hasEvent cX12_hasEvent 4 (some .boolean), 0, 0, 1) dat_M_hasEvent (c_M_hasEvent, 4) := Or.inr ⟨sm_M_hasEvent, rfl, rfl, plainFor_of_name pl_1, rfl, fun h => (by cases h), rfl, rfl⟩
abbrev dat_M_spell : mD9 := (RX12, cX12_spell, 5, false, (some .int), 1, p_M_spell, 1, 25)
theorem or_M_spell : okR mtab (yX12_spell, Cond.code yX12_spell cX12_spell 5 (some .int), 1, 25, 1) dat_M_spell (c_M_spell, 5) := Or.inr ⟨sm_M_spell, rfl, rfl, plainFor_of_name pl_1, rfl, fun h => (by cases h), rfl, rfl⟩
abbrev dat_M_keep : mD9 := (RX12, cX12_keep, 1, false, (some .int), 1, p_M_keep, 0, 0)
theorem or_M_keep : okR mtab (yX12_keep, Cond.code yX12_keep cX12_keep 1 (some .int), 0, 0, 1) dat_M_keep (c_M_keep, 1) := Or.inr ⟨sm_M_keep, rfl, rfl, plainFor_of_name pl_1, rfl, fun h => (by cases h), rfl, rfl⟩
abbrev dat_M_back : mD9 := (RX12, cX12_back, 1, false, (some .int), 1, p_M_back, 1, 23)
theorem or_M_back : okR mtab (yX12_back, Cond.code yX12_back cX12_back 1 (some .int), 1, 23, 1) dat_M_back (c_M_back, 1) := Or.inr ⟨sm_M_back, rfl, rfl, plainFor_of_name pl_1, rfl, fun h => (by cases h), rfl, rfl⟩
abbrev dat_M_readRow : mD9 := (RX12, cX12_readRow, 4, false, (some .int), 1, p_M_readRow, 5, 122)
theorem or_M_readRow : okR mtab (yX12_readRow, Cond.code yX12_readRow cX12_readRow 4 (some .int), 5, 122, 1) dat_M_readRow (c_M_readRow, 4) := Or.inr ⟨sm_M_readRow, rfl, rfl, plainFor_of_name pl_1, rfl, fun h => (by cases h), rfl, rfl⟩
abbrev dat_M_readThing : mD9 := (RX12, cX12_readThing, 6, false, none, 0, p_M_readThing, 4, 95)
theorem or_M_readThing : okR mtab (yX12_readThing, Cond.code yX12_readThing cX12_readThing 6 none, 4, 95, 0) dat_M_readThing (c_M_readThing, 6) := Or.inr ⟨sm_M_readThing, rfl, rfl, plainFor_of_name pl_1, rfl, fun h => (by cases h), rfl, rfl⟩
abbrev dat_M_takeRow : mD9 := (RX12, cX12_takeRow, 1, false, (some .int), 1, p_M_takeRow, 6, 147)
theorem or_M_takeRow : okR mtab (yX12_takeRow, Cond.code yX12_takeRow cX12_takeRow 1 (some .int), 6, 147, 1) dat_M_takeRow (c_M_takeRow, 1) := Or.inr ⟨sm_M_takeRow, rfl, rfl, plainFor_of_name pl_1, rfl, fun h => (by cases h), rfl, rfl⟩
abbrev dat_M_row : mD9 := (RX12, cX12_row, 8, false, (some .int), 1, p_M_row, 6, 160)
theorem or_M_row : okR mtab (yX12_row, Cond.code yX12_row cX12_row 8 (some .int), 6, 160, 1) dat_M_row (c_M_row, 8) := Or.inr ⟨sm_M_row, rfl, rfl, plainFor_of_name pl_1, rfl, fun h => (by cases h), rfl, rfl⟩
abbrev dat_M_draw : mD9 := (RX12, cX12_draw, 2, false, (some .int), 1, p_M_draw, 0, 0)
theorem or_M_draw : okR mtab (yX12_draw, Cond.code yX12_draw cX12_draw 2 (some .int), 0, 0, 1) dat_M_draw (c_M_draw, 2) := Or.inr ⟨sm_M_draw, rfl, rfl, plainFor_of_name pl_1, rfl, fun h => (by cases h), rfl, rfl⟩
abbrev dat_M_isEased : mD9 := (RX12, cX12_isEased, 3, false, (some .boolean), 1, p_M_isEased, 5, 132)
theorem or_M_isEased : okR mtab (yX12_isEased, Cond.code yX12_isEased cX12_isEased 3 (some .boolean), 5, 132, 1) dat_M_isEased (c_M_isEased, 3) := Or.inr ⟨sm_M_isEased, rfl, rfl, plainFor_of_name pl_1, rfl, fun h => (by cases h), rfl, rfl⟩
abbrev dat_M_run : mD9 := (RX12, cX12_run, 12, false, (some .int), 1, p_M_run, 6, 160)
theorem or_M_run : okR mtab (yX12_run, Cond.code yX12_run cX12_run 12 (some .int), 6, 160, 1) dat_M_run (c_M_run, 12) := Or.inr ⟨sm_M_run, rfl, rfl, plainFor_of_name pl_1, rfl, fun h => (by cases h), rfl, rfl⟩
abbrev dat_M_areYears : mD9 := (RX12, cX12_areYears, 3, false, (some .boolean), 1, p_M_areYears, 1, 24)
theorem or_M_areYears : okR mtab (yX12_areYears, Cond.code yX12_areYears cX12_areYears 3 (some .boolean), 1, 24, 1) dat_M_areYears (c_M_areYears, 3) := Or.inr ⟨sm_M_areYears, rfl, rfl, plainFor_of_name pl_1, rfl, fun h => (by cases h), rfl, rfl⟩
abbrev dat_M_holds : mD9 := (RX12, cX12_holds, 7, false, (some .int), 1, p_M_holds, 6, 161)
theorem or_M_holds : okR mtab (yX12_holds, Cond.code yX12_holds cX12_holds 7 (some .int), 6, 161, 1) dat_M_holds (c_M_holds, 7) := Or.inr ⟨sm_M_holds, rfl, rfl, plainFor_of_name pl_1, rfl, fun h => (by cases h), rfl, rfl⟩
abbrev dat_M_stepTrue : mD9 := (RX12, cX12_stepTrue, 8, false, (some .int), 1, p_M_stepTrue, 5, 132)
theorem or_M_stepTrue : okR mtab (yX12_stepTrue, Cond.code yX12_stepTrue cX12_stepTrue 8 (some .int), 5, 132, 1) dat_M_stepTrue (c_M_stepTrue, 8) := Or.inr ⟨sm_M_stepTrue, rfl, rfl, plainFor_of_name pl_1, rfl, fun h => (by cases h), rfl, rfl⟩
abbrev dat_M_monthsTrue : mD9 := (RX12, cX12_monthsTrue, 8, false, (some .int), 1, p_M_monthsTrue, 4, 106)
theorem or_M_monthsTrue : okR mtab (yX12_monthsTrue, Cond.code yX12_monthsTrue cX12_monthsTrue 8 (some .int), 4, 106, 1) dat_M_monthsTrue (c_M_monthsTrue, 8) := Or.inr ⟨sm_M_monthsTrue, rfl, rfl, plainFor_of_name pl_1, rfl, fun h => (by cases h), rfl, rfl⟩
abbrev dat_M_right : mD9 := (RX12, cX12_right, 9, false, (some .int), 1, p_M_right, 6, 160)
theorem or_M_right : okR mtab (yX12_right, Cond.code yX12_right cX12_right 9 (some .int), 6, 160, 1) dat_M_right (c_M_right, 9) := Or.inr ⟨sm_M_right, rfl, rfl, plainFor_of_name pl_1, rfl, fun h => (by cases h), rfl, rfl⟩
abbrev dat_M_lacks : mD9 := (RX12, cX12_lacks, 7, false, (some .int), 1, p_M_lacks, 2, 53)
theorem or_M_lacks : okR mtab (yX12_lacks, Cond.code yX12_lacks cX12_lacks 7 (some .int), 2, 53, 1) dat_M_lacks (c_M_lacks, 7) := Or.inr ⟨sm_M_lacks, rfl, rfl, plainFor_of_name pl_1, rfl, fun h => (by cases h), rfl, rfl⟩
abbrev dat_M_yearsLack : mD9 := (RX12, cX12_yearsLack, 8, false, (some .int), 1, p_M_yearsLack, 1, 24)
theorem or_M_yearsLack : okR mtab (yX12_yearsLack, Cond.code yX12_yearsLack cX12_yearsLack 8 (some .int), 1, 24, 1) dat_M_yearsLack (c_M_yearsLack, 8) := Or.inr ⟨sm_M_yearsLack, rfl, rfl, plainFor_of_name pl_1, rfl, fun h => (by cases h), rfl, rfl⟩
abbrev dat_M_costOf : mD9 := (RX12, cX12_costOf, 3, false, (some .int), 1, p_M_costOf, 0, 0)
theorem or_M_costOf : okR mtab (yX12_costOf, Cond.code yX12_costOf cX12_costOf 3 (some .int), 0, 0, 1) dat_M_costOf (c_M_costOf, 3) := Or.inr ⟨sm_M_costOf, rfl, rfl, plainFor_of_name pl_1, rfl, fun h => (by cases h), rfl, rfl⟩
abbrev dat_M_spare : mD9 := (RX12, cX12_spare, 5, false, (some .int), 1, p_M_spare, 8, 211)
theorem or_M_spare : okR mtab (yX12_spare, Cond.code yX12_spare cX12_spare 5 (some .int), 8, 211, 1) dat_M_spare (c_M_spare, 5) := Or.inr ⟨sm_M_spare, rfl, rfl, plainFor_of_name pl_1, rfl, fun h => (by cases h), rfl, rfl⟩
abbrev dat_M_unlike : mD9 := (RX12, cX12_unlike, 5, false, (some .int), 1, p_M_unlike, 4, 106)
theorem or_M_unlike : okR mtab (yX12_unlike, Cond.code yX12_unlike cX12_unlike 5 (some .int), 4, 106, 1) dat_M_unlike (c_M_unlike, 5) := Or.inr ⟨sm_M_unlike, rfl, rfl, plainFor_of_name pl_1, rfl, fun h => (by cases h), rfl, rfl⟩
abbrev dat_M_rises : mD9 := (RX12, cX12_rises, 8, false, (some .int), 1, p_M_rises, 2, 48)
theorem or_M_rises : okR mtab (yX12_rises, Cond.code yX12_rises cX12_rises 8 (some .int), 2, 48, 1) dat_M_rises (c_M_rises, 8) := Or.inr ⟨sm_M_rises, rfl, rfl, plainFor_of_name pl_1, rfl, fun h => (by cases h), rfl, rfl⟩
abbrev dat_M_count : mD9 := (RX12, cX12_count, 2, false, (some .int), 1, p_M_count, 0, 0)
theorem or_M_count : okR mtab (yX12_count, Cond.code yX12_count cX12_count 2 (some .int), 0, 0, 1) dat_M_count (c_M_count, 2) := Or.inr ⟨sm_M_count, rfl, rfl, plainFor_of_name pl_1, rfl, fun h => (by cases h), rfl, rfl⟩
abbrev dat_Al_init : mD9 := (RX0, cX0_init, 1, true, none, 0, p_Al_init, 1, 12)
theorem or_Al_init : okR mtab (yX0_init, Cond.code yX0_init cX0_init 1 none, 1, 12, 0) dat_Al_init (c_Al_init, 1) := Or.inr ⟨sm_Al_init, rfl, rfl, plainFor_of_name pl_2, rfl, fun _ => ⟨rfl, by decide, by decide⟩, rfl, rfl⟩
abbrev dat_Al_readFrom : mD9 := (RX0, cX0_readFrom, 4, false, (some (.object "DayBoy$Almanac")), 3, p_Al_readFrom, 4, 106)
theorem or_Al_readFrom : okR mtab (yX0_readFrom, Cond.code yX0_readFrom cX0_readFrom 4 (some (.object "DayBoy$Almanac")), 4, 106, 3) dat_Al_readFrom (c_Al_readFrom, 4) := Or.inr ⟨sm_Al_readFrom, rfl, rfl, plainFor_of_name pl_2, rfl, fun h => (by cases h), rfl, rfl⟩
abbrev dat_Al_add : mD9 := (RX0, cX0_add, 2, false, none, 0, p_Al_add, 0, 0)
theorem or_Al_add : okR mtab (yX0_add, Cond.code yX0_add cX0_add 2 none, 0, 0, 0) dat_Al_add (c_Al_add, 2) := Or.inr ⟨sm_Al_add, rfl, rfl, plainFor_of_name pl_2, rfl, fun h => (by cases h), rfl, rfl⟩
abbrev dat_Al_readChange : mD9 := (RX0, cX0_readChange, 7, false, (some (.object "DayBoy$Stretch")), 12, p_Al_readChange, 3, 78)
theorem or_Al_readChange : okR mtab (yX0_readChange, Cond.code yX0_readChange cX0_readChange 7 (some (.object "DayBoy$Stretch")), 3, 78, 12) dat_Al_readChange (c_Al_readChange, 7) := Or.inr ⟨sm_Al_readChange, rfl, rfl, plainFor_of_name pl_2, rfl, fun h => (by cases h), rfl, rfl⟩
abbrev dat_Al_lay : mD9 := (RX0, cX0_lay, 6, false, none, 0, p_Al_lay, 3, 78)
theorem or_Al_lay : okR mtab (yX0_lay, Cond.code yX0_lay cX0_lay 6 none, 3, 78, 0) dat_Al_lay (c_Al_lay, 6) := Or.inr ⟨sm_Al_lay, rfl, rfl, plainFor_of_name pl_2, rfl, fun h => (by cases h), rfl, rfl⟩
abbrev dat_Al_kindOf : mD9 := (RX0, cX0_kindOf, 2, false, (some .int), 1, p_Al_kindOf, 0, 0)
theorem or_Al_kindOf : okR mtab (yX0_kindOf, Cond.code yX0_kindOf cX0_kindOf 2 (some .int), 0, 0, 1) dat_Al_kindOf (c_Al_kindOf, 2) := Or.inr ⟨sm_Al_kindOf, rfl, rfl, plainFor_of_name pl_2, rfl, fun h => (by cases h), rfl, rfl⟩
abbrev dat_Al_areLike : mD9 := (RX0, cX0_areLike, 3, false, (some .boolean), 1, p_Al_areLike, 1, 23)
theorem or_Al_areLike : okR mtab (yX0_areLike, Cond.code yX0_areLike cX0_areLike 3 (some .boolean), 1, 23, 1) dat_Al_areLike (c_Al_areLike, 3) := Or.inr ⟨sm_Al_areLike, rfl, rfl, plainFor_of_name pl_2, rfl, fun h => (by cases h), rfl, rfl⟩
abbrev dat_Al_dayOn : mD9 := (RX0, cX0_dayOn, 6, false, (some .int), 1, p_Al_dayOn, 2, 51)
theorem or_Al_dayOn : okR mtab (yX0_dayOn, Cond.code yX0_dayOn cX0_dayOn 6 (some .int), 2, 51, 1) dat_Al_dayOn (c_Al_dayOn, 6) := Or.inr ⟨sm_Al_dayOn, rfl, rfl, plainFor_of_name pl_2, rfl, fun h => (by cases h), rfl, rfl⟩
abbrev dat_Al_keyOn : mD9 := (RX0, cX0_keyOn, 4, false, (some .int), 1, p_Al_keyOn, 3, 75)
theorem or_Al_keyOn : okR mtab (yX0_keyOn, Cond.code yX0_keyOn cX0_keyOn 4 (some .int), 3, 75, 1) dat_Al_keyOn (c_Al_keyOn, 4) := Or.inr ⟨sm_Al_keyOn, rfl, rfl, plainFor_of_name pl_2, rfl, fun h => (by cases h), rfl, rfl⟩
abbrev dat_Al_datesIn : mD9 := (RX0, cX0_datesIn, 5, false, (some .int), 1, p_Al_datesIn, 2, 51)
theorem or_Al_datesIn : okR mtab (yX0_datesIn, Cond.code yX0_datesIn cX0_datesIn 5 (some .int), 2, 51, 1) dat_Al_datesIn (c_Al_datesIn, 5) := Or.inr ⟨sm_Al_datesIn, rfl, rfl, plainFor_of_name pl_2, rfl, fun h => (by cases h), rfl, rfl⟩
abbrev dat_Al_areAlike : mD9 := (RX0, cX0_areAlike, 6, false, (some .boolean), 1, p_Al_areAlike, 3, 78)
theorem or_Al_areAlike : okR mtab (yX0_areAlike, Cond.code yX0_areAlike cX0_areAlike 6 (some .boolean), 3, 78, 1) dat_Al_areAlike (c_Al_areAlike, 6) := Or.inr ⟨sm_Al_areAlike, rfl, rfl, plainFor_of_name pl_2, rfl, fun h => (by cases h), rfl, rfl⟩
abbrev dat_Al_firstFrom : mD9 := (RX0, cX0_firstFrom, 6, false, (some .int), 1, p_Al_firstFrom, 4, 105)
theorem or_Al_firstFrom : okR mtab (yX0_firstFrom, Cond.code yX0_firstFrom cX0_firstFrom 6 (some .int), 4, 105, 1) dat_Al_firstFrom (c_Al_firstFrom, 6) := Or.inr ⟨sm_Al_firstFrom, rfl, rfl, plainFor_of_name pl_2, rfl, fun h => (by cases h), rfl, rfl⟩
abbrev dat_Al_firstInMonth : mD9 := (RX0, cX0_firstInMonth, 6, false, (some .int), 1, p_Al_firstInMonth, 3, 78)
theorem or_Al_firstInMonth : okR mtab (yX0_firstInMonth, Cond.code yX0_firstInMonth cX0_firstInMonth 6 (some .int), 3, 78, 1) dat_Al_firstInMonth (c_Al_firstInMonth, 6) := Or.inr ⟨sm_Al_firstInMonth, rfl, rfl, plainFor_of_name pl_2, rfl, fun h => (by cases h), rfl, rfl⟩
abbrev dat_Ak_init : mD9 := (RX1, cX1_init, 5, true, none, 0, p_Ak_init, 1, 12)
theorem or_Ak_init : okR mtab (yX1_init, Cond.code yX1_init cX1_init 5 none, 1, 12, 0) dat_Ak_init (c_Ak_init, 5) := Or.inr ⟨sm_Ak_init, rfl, rfl, plainFor_of_name pl_3, rfl, fun _ => ⟨rfl, by decide, by decide⟩, rfl, rfl⟩
abbrev dat_Ak_isSoWith : mD9 := (RX1, cX1_isSoWith, 4, false, (some .boolean), 1, p_Ak_isSoWith, 4, 108)
theorem or_Ak_isSoWith : okR mtab (yX1_isSoWith, Cond.code yX1_isSoWith cX1_isSoWith 4 (some .boolean), 4, 108, 1) dat_Ak_isSoWith (c_Ak_isSoWith, 4) := Or.inr ⟨sm_Ak_isSoWith, rfl, rfl, plainFor_of_name pl_3, rfl, fun h => (by cases h), rfl, rfl⟩
abbrev dat_Ak_yearsFrom : mD9 := (RX1, cX1_yearsFrom, 2, false, (some .int), 1, p_Ak_yearsFrom, 1, 22)
theorem or_Ak_yearsFrom : okR mtab (yX1_yearsFrom, Cond.code yX1_yearsFrom cX1_yearsFrom 2 (some .int), 1, 22, 1) dat_Ak_yearsFrom (c_Ak_yearsFrom, 2) := Or.inr ⟨sm_Ak_yearsFrom, rfl, rfl, plainFor_of_name pl_3, rfl, fun h => (by cases h), rfl, rfl⟩
abbrev dat_Hd_init : mD9 := (RX2, cX2_init, 1, true, none, 0, p_Hd_init, 2, 34)
theorem or_Hd_init : okR mtab (yX2_init, Cond.code yX2_init cX2_init 1 none, 2, 34, 0) dat_Hd_init (c_Hd_init, 1) := Or.inr ⟨sm_Hd_init, rfl, rfl, plainFor_of_name pl_4, rfl, fun _ => ⟨rfl, by decide, by decide⟩, rfl, rfl⟩
abbrev dat_Hd_readFrom : mD9 := (RX2, cX2_readFrom, 3, false, (some (.object "DayBoy$Head")), 5, p_Hd_readFrom, 4, 97)
theorem or_Hd_readFrom : okR mtab (yX2_readFrom, Cond.code yX2_readFrom cX2_readFrom 3 (some (.object "DayBoy$Head")), 4, 97, 5) dat_Hd_readFrom (c_Hd_readFrom, 3) := Or.inr ⟨sm_Hd_readFrom, rfl, rfl, plainFor_of_name pl_4, rfl, fun h => (by cases h), rfl, rfl⟩
abbrev dat_Hd_readItem : mD9 := (RX2, cX2_readItem, 2, false, none, 0, p_Hd_readItem, 3, 74)
theorem or_Hd_readItem : okR mtab (yX2_readItem, Cond.code yX2_readItem cX2_readItem 2 none, 3, 74, 0) dat_Hd_readItem (c_Hd_readItem, 2) := Or.inr ⟨sm_Hd_readItem, rfl, rfl, plainFor_of_name pl_4, rfl, fun h => (by cases h), rfl, rfl⟩
abbrev dat_Hd_readRange : mD9 := (RX2, cX2_readRange, 2, false, none, 0, p_Hd_readRange, 2, 49)
theorem or_Hd_readRange : okR mtab (yX2_readRange, Cond.code yX2_readRange cX2_readRange 2 none, 2, 49, 0) dat_Hd_readRange (c_Hd_readRange, 2) := Or.inr ⟨sm_Hd_readRange, rfl, rfl, plainFor_of_name pl_4, rfl, fun h => (by cases h), rfl, rfl⟩
abbrev dat_Hd_readMonth : mD9 := (RX2, cX2_readMonth, 3, false, none, 0, p_Hd_readMonth, 2, 49)
theorem or_Hd_readMonth : okR mtab (yX2_readMonth, Cond.code yX2_readMonth cX2_readMonth 3 none, 2, 49, 0) dat_Hd_readMonth (c_Hd_readMonth, 3) := Or.inr ⟨sm_Hd_readMonth, rfl, rfl, plainFor_of_name pl_4, rfl, fun h => (by cases h), rfl, rfl⟩
abbrev dat_Hd_readExtra : mD9 := (RX2, cX2_readExtra, 3, false, none, 0, p_Hd_readExtra, 2, 49)
theorem or_Hd_readExtra : okR mtab (yX2_readExtra, Cond.code yX2_readExtra cX2_readExtra 3 none, 2, 49, 0) dat_Hd_readExtra (c_Hd_readExtra, 3) := Or.inr ⟨sm_Hd_readExtra, rfl, rfl, plainFor_of_name pl_4, rfl, fun h => (by cases h), rfl, rfl⟩
abbrev dat_Hd_findRows : mD9 := (RX2, cX2_findRows, 4, false, none, 0, p_Hd_findRows, 4, 104)
theorem or_Hd_findRows : okR mtab (yX2_findRows, Cond.code yX2_findRows cX2_findRows 4 none, 4, 104, 0) dat_Hd_findRows (c_Hd_findRows, 4) := Or.inr ⟨sm_Hd_findRows, rfl, rfl, plainFor_of_name pl_4, rfl, fun h => (by cases h), rfl, rfl⟩
abbrev dat_Hd_extraOf : mD9 := (RX2, cX2_extraOf, 2, false, (some .int), 1, p_Hd_extraOf, 1, 23)
theorem or_Hd_extraOf : okR mtab (yX2_extraOf, Cond.code yX2_extraOf cX2_extraOf 2 (some .int), 1, 23, 1) dat_Hd_extraOf (c_Hd_extraOf, 2) := Or.inr ⟨sm_Hd_extraOf, rfl, rfl, plainFor_of_name pl_4, rfl, fun h => (by cases h), rfl, rfl⟩
abbrev dat_Hd_toldAt : mD9 := (RX2, cX2_toldAt, 2, false, (some .int), 1, p_Hd_toldAt, 4, 108)
theorem or_Hd_toldAt : okR mtab (yX2_toldAt, Cond.code yX2_toldAt cX2_toldAt 2 (some .int), 4, 108, 1) dat_Hd_toldAt (c_Hd_toldAt, 2) := Or.inr ⟨sm_Hd_toldAt, rfl, rfl, plainFor_of_name pl_4, rfl, fun h => (by cases h), rfl, rfl⟩
abbrev dat_Hd_toldFor : mD9 := (RX2, cX2_toldFor, 9, false, (some .int), 1, p_Hd_toldFor, 3, 78)
theorem or_Hd_toldFor : okR mtab (yX2_toldFor, Cond.code yX2_toldFor cX2_toldFor 9 (some .int), 3, 78, 1) dat_Hd_toldFor (c_Hd_toldFor, 9) := Or.inr ⟨sm_Hd_toldFor, rfl, rfl, plainFor_of_name pl_4, rfl, fun h => (by cases h), rfl, rfl⟩
abbrev dat_Hd_saysTo : mD9 := (RX2, cX2_saysTo, 4, false, (some .int), 1, p_Hd_saysTo, 4, 108)
theorem or_Hd_saysTo : okR mtab (yX2_saysTo, Cond.code yX2_saysTo cX2_saysTo 4 (some .int), 4, 108, 1) dat_Hd_saysTo (c_Hd_saysTo, 4) := Or.inr ⟨sm_Hd_saysTo, rfl, rfl, plainFor_of_name pl_4, rfl, fun h => (by cases h), rfl, rfl⟩
abbrev dat_Hd_falseStep : mD9 := (RX2, cX2_falseStep, 8, false, (some .int), 1, p_Hd_falseStep, 4, 105)
theorem or_Hd_falseStep : okR mtab (yX2_falseStep, Cond.code yX2_falseStep cX2_falseStep 8 (some .int), 4, 105, 1) dat_Hd_falseStep (c_Hd_falseStep, 8) := Or.inr ⟨sm_Hd_falseStep, rfl, rfl, plainFor_of_name pl_4, rfl, fun h => (by cases h), rfl, rfl⟩
abbrev dat_Hd_trueSteps : mD9 := (RX2, cX2_trueSteps, 8, false, (some .int), 1, p_Hd_trueSteps, 2, 47)
theorem or_Hd_trueSteps : okR mtab (yX2_trueSteps, Cond.code yX2_trueSteps cX2_trueSteps 8 (some .int), 2, 47, 1) dat_Hd_trueSteps (c_Hd_trueSteps, 8) := Or.inr ⟨sm_Hd_trueSteps, rfl, rfl, plainFor_of_name pl_4, rfl, fun h => (by cases h), rfl, rfl⟩
abbrev dat_Hd_truePairs : mD9 := (RX2, cX2_truePairs, 7, false, (some .int), 1, p_Hd_truePairs, 4, 105)
theorem or_Hd_truePairs : okR mtab (yX2_truePairs, Cond.code yX2_truePairs cX2_truePairs 7 (some .int), 4, 105, 1) dat_Hd_truePairs (c_Hd_truePairs, 7) := Or.inr ⟨sm_Hd_truePairs, rfl, rfl, plainFor_of_name pl_4, rfl, fun h => (by cases h), rfl, rfl⟩
abbrev dat_Hd_monthsLacked : mD9 := (RX2, cX2_monthsLacked, 3, false, (some .int), 1, p_Hd_monthsLacked, 2, 46)
theorem or_Hd_monthsLacked : okR mtab (yX2_monthsLacked, Cond.code yX2_monthsLacked cX2_monthsLacked 3 (some .int), 2, 46, 1) dat_Hd_monthsLacked (c_Hd_monthsLacked, 3) := Or.inr ⟨sm_Hd_monthsLacked, rfl, rfl, plainFor_of_name pl_4, rfl, fun h => (by cases h), rfl, rfl⟩
abbrev dat_Hp_init : mD9 := (RX3, cX3_init, 2, true, none, 0, p_Hp_init, 1, 12)
theorem or_Hp_init : okR mtab (yX3_init, Cond.code yX3_init cX3_init 2 none, 1, 12, 0) dat_Hp_init (c_Hp_init, 2) := Or.inr ⟨sm_Hp_init, rfl, rfl, plainFor_of_name pl_5, rfl, fun _ => ⟨rfl, by decide, by decide⟩, rfl, rfl⟩
abbrev dat_Hp_empty : mD9 := (RX3, cX3_empty, 2, false, none, 0, p_Hp_empty, 0, 0)
theorem or_Hp_empty : okR mtab (yX3_empty, Cond.code yX3_empty cX3_empty 2 none, 0, 0, 0) dat_Hp_empty (c_Hp_empty, 2) := Or.inr ⟨sm_Hp_empty, rfl, rfl, plainFor_of_name pl_5, rfl, fun h => (by cases h), rfl, rfl⟩
abbrev dat_Hp_put : mD9 := (RX3, cX3_put, 4, false, none, 0, p_Hp_put, 1, 24)
theorem or_Hp_put : okR mtab (yX3_put, Cond.code yX3_put cX3_put 4 none, 1, 24, 0) dat_Hp_put (c_Hp_put, 4) := Or.inr ⟨sm_Hp_put, rfl, rfl, plainFor_of_name pl_5, rfl, fun h => (by cases h), rfl, rfl⟩
abbrev dat_Hp_takeLeast : mD9 := (RX3, cX3_takeLeast, 4, false, (some .int), 1, p_Hp_takeLeast, 2, 52)
theorem or_Hp_takeLeast : okR mtab (yX3_takeLeast, Cond.code yX3_takeLeast cX3_takeLeast 4 (some .int), 2, 52, 1) dat_Hp_takeLeast (c_Hp_takeLeast, 4) := Or.inr ⟨sm_Hp_takeLeast, rfl, rfl, plainFor_of_name pl_5, rfl, fun h => (by cases h), rfl, rfl⟩
abbrev dat_Hp_sink : mD9 := (RX3, cX3_sink, 6, false, none, 0, p_Hp_sink, 1, 25)
theorem or_Hp_sink : okR mtab (yX3_sink, Cond.code yX3_sink cX3_sink 6 none, 1, 25, 0) dat_Hp_sink (c_Hp_sink, 6) := Or.inr ⟨sm_Hp_sink, rfl, rfl, plainFor_of_name pl_5, rfl, fun h => (by cases h), rfl, rfl⟩
abbrev dat_Hp_lesserChild : mD9 := (RX3, cX3_lesserChild, 4, false, (some .int), 1, p_Hp_lesserChild, 0, 0)
theorem or_Hp_lesserChild : okR mtab (yX3_lesserChild, Cond.code yX3_lesserChild cX3_lesserChild 4 (some .int), 0, 0, 1) dat_Hp_lesserChild (c_Hp_lesserChild, 4) := Or.inr ⟨sm_Hp_lesserChild, rfl, rfl, plainFor_of_name pl_5, rfl, fun h => (by cases h), rfl, rfl⟩
abbrev dat_Hp_set : mD9 := (RX3, cX3_set, 3, false, none, 0, p_Hp_set, 0, 0)
theorem or_Hp_set : okR mtab (yX3_set, Cond.code yX3_set cX3_set 3 none, 0, 0, 0) dat_Hp_set (c_Hp_set, 3) := Or.inr ⟨sm_Hp_set, rfl, rfl, plainFor_of_name pl_5, rfl, fun h => (by cases h), rfl, rfl⟩
abbrev dat_Pr_init : mD9 := (RX5, cX5_init, 1, true, none, 0, p_Pr_init, 1, 12)
theorem or_Pr_init : okR mtab (yX5_init, Cond.code yX5_init cX5_init 1 none, 1, 12, 0) dat_Pr_init (c_Pr_init, 1) := Or.inr ⟨sm_Pr_init, rfl, rfl, plainFor_of_name pl_6, rfl, fun _ => ⟨rfl, by decide, by decide⟩, rfl, rfl⟩
abbrev dat_Pr_lineCount : mD9 := (RX5, cX5_lineCount, 1, false, (some .int), 1, p_Pr_lineCount, 0, 0)
theorem or_Pr_lineCount : okR mtab (yX5_lineCount, Cond.code yX5_lineCount cX5_lineCount 1 (some .int), 0, 0, 1) dat_Pr_lineCount (c_Pr_lineCount, 1) := Or.inr ⟨sm_Pr_lineCount, rfl, rfl, plainFor_of_name pl_6, rfl, fun h => (by cases h), rfl, rfl⟩
abbrev dat_Pr_over : mD9 := (RX5, cX5_over, 3, false, (some .int), 1, p_Pr_over, 1, 20)
theorem or_Pr_over : okR mtab (yX5_over, Cond.code yX5_over cX5_over 3 (some .int), 1, 20, 1) dat_Pr_over (c_Pr_over, 3) := Or.inr ⟨sm_Pr_over, rfl, rfl, plainFor_of_name pl_6, rfl, fun h => (by cases h), rfl, rfl⟩
abbrev dat_Pr_costOf : mD9 := (RX5, cX5_costOf, 2, false, (some .int), 1, p_Pr_costOf, 0, 0)
theorem or_Pr_costOf : okR mtab (yX5_costOf, Cond.code yX5_costOf cX5_costOf 2 (some .int), 0, 0, 1) dat_Pr_costOf (c_Pr_costOf, 2) := Or.inr ⟨sm_Pr_costOf, rfl, rfl, plainFor_of_name pl_6, rfl, fun h => (by cases h), rfl, rfl⟩
abbrev dat_Pr_readFrom : mD9 := (RX5, cX5_readFrom, 2, false, none, 0, p_Pr_readFrom, 2, 49)
theorem or_Pr_readFrom : okR mtab (yX5_readFrom, Cond.code yX5_readFrom cX5_readFrom 2 none, 2, 49, 0) dat_Pr_readFrom (c_Pr_readFrom, 2) := Or.inr ⟨sm_Pr_readFrom, rfl, rfl, plainFor_of_name pl_6, rfl, fun h => (by cases h), rfl, rfl⟩
abbrev dat_Rd_init : mD9 := (RX6, cX6_init, 3, true, none, 0, p_Rd_init, 1, 23)
theorem or_Rd_init : okR mtab (yX6_init, Cond.code yX6_init cX6_init 3 none, 1, 23, 0) dat_Rd_init (c_Rd_init, 3) := Or.inr ⟨sm_Rd_init, rfl, rfl, plainFor_of_name pl_7, rfl, fun _ => ⟨rfl, by decide, by decide⟩, rfl, rfl⟩
abbrev dat_Rd_goTo : mD9 := (RX6, cX6_goTo, 2, false, none, 0, p_Rd_goTo, 0, 0)
theorem or_Rd_goTo : okR mtab (yX6_goTo, Cond.code yX6_goTo cX6_goTo 2 none, 0, 0, 0) dat_Rd_goTo (c_Rd_goTo, 2) := Or.inr ⟨sm_Rd_goTo, rfl, rfl, plainFor_of_name pl_7, rfl, fun h => (by cases h), rfl, rfl⟩
abbrev dat_Rd_refuseAt : mD9 := (RX6, cX6_refuseAt, 2, false, none, 0, p_Rd_refuseAt, 0, 0)
theorem or_Rd_refuseAt : okR mtab (yX6_refuseAt, Cond.code yX6_refuseAt cX6_refuseAt 2 none, 0, 0, 0) dat_Rd_refuseAt (c_Rd_refuseAt, 2) := Or.inr ⟨sm_Rd_refuseAt, rfl, rfl, plainFor_of_name pl_7, rfl, fun h => (by cases h), rfl, rfl⟩
abbrev dat_Rd_isRight : mD9 := (RX6, cX6_isRight, 1, false, (some .boolean), 1, p_Rd_isRight, 0, 0)
theorem or_Rd_isRight : okR mtab (yX6_isRight, Cond.code yX6_isRight cX6_isRight 1 (some .boolean), 0, 0, 1) dat_Rd_isRight (c_Rd_isRight, 1) := Or.inr ⟨sm_Rd_isRight, rfl, rfl, plainFor_of_name pl_7, rfl, fun h => (by cases h), rfl, rfl⟩
abbrev dat_Rd_seesDigit : mD9 := (RX6, cX6_seesDigit, 1, false, (some .boolean), 1, p_Rd_seesDigit, 0, 0)
theorem or_Rd_seesDigit : okR mtab (yX6_seesDigit, Cond.code yX6_seesDigit cX6_seesDigit 1 (some .boolean), 0, 0, 1) dat_Rd_seesDigit (c_Rd_seesDigit, 1) := Or.inr ⟨sm_Rd_seesDigit, rfl, rfl, plainFor_of_name pl_7, rfl, fun h => (by cases h), rfl, rfl⟩
abbrev dat_Rd_takes : mD9 := (RX6, cX6_takes, 2, false, (some .boolean), 1, p_Rd_takes, 1, 23)
theorem or_Rd_takes : okR mtab (yX6_takes, Cond.code yX6_takes cX6_takes 2 (some .boolean), 1, 23, 1) dat_Rd_takes (c_Rd_takes, 2) := Or.inr ⟨sm_Rd_takes, rfl, rfl, plainFor_of_name pl_7, rfl, fun h => (by cases h), rfl, rfl⟩
abbrev dat_Rd_expect : mD9 := (RX6, cX6_expect, 2, false, none, 0, p_Rd_expect, 1, 23)
theorem or_Rd_expect : okR mtab (yX6_expect, Cond.code yX6_expect cX6_expect 2 none, 1, 23, 0) dat_Rd_expect (c_Rd_expect, 2) := Or.inr ⟨sm_Rd_expect, rfl, rfl, plainFor_of_name pl_7, rfl, fun h => (by cases h), rfl, rfl⟩
abbrev dat_Rd_finish : mD9 := (RX6, cX6_finish, 1, false, none, 0, p_Rd_finish, 1, 23)
theorem or_Rd_finish : okR mtab (yX6_finish, Cond.code yX6_finish cX6_finish 1 none, 1, 23, 0) dat_Rd_finish (c_Rd_finish, 1) := Or.inr ⟨sm_Rd_finish, rfl, rfl, plainFor_of_name pl_7, rfl, fun h => (by cases h), rfl, rfl⟩
abbrev dat_Rd_refuse : mD9 := (RX6, cX6_refuse, 1, false, none, 0, p_Rd_refuse, 1, 23)
theorem or_Rd_refuse : okR mtab (yX6_refuse, Cond.code yX6_refuse cX6_refuse 1 none, 1, 23, 0) dat_Rd_refuse (c_Rd_refuse, 1) := Or.inr ⟨sm_Rd_refuse, rfl, rfl, plainFor_of_name pl_7, rfl, fun h => (by cases h), rfl, rfl⟩
abbrev dat_Rd_refuseNumber : mD9 := (RX6, cX6_refuseNumber, 1, false, none, 0, p_Rd_refuseNumber, 1, 23)
theorem or_Rd_refuseNumber : okR mtab (yX6_refuseNumber, Cond.code yX6_refuseNumber cX6_refuseNumber 1 none, 1, 23, 0) dat_Rd_refuseNumber (c_Rd_refuseNumber, 1) := Or.inr ⟨sm_Rd_refuseNumber, rfl, rfl, plainFor_of_name pl_7, rfl, fun h => (by cases h), rfl, rfl⟩
abbrev dat_Rd_number : mD9 := (RX6, cX6_number, 5, false, (some .int), 1, p_Rd_number, 1, 23)
theorem or_Rd_number : okR mtab (yX6_number, Cond.code yX6_number cX6_number 5 (some .int), 1, 23, 1) dat_Rd_number (c_Rd_number, 5) := Or.inr ⟨sm_Rd_number, rfl, rfl, plainFor_of_name pl_7, rfl, fun h => (by cases h), rfl, rfl⟩
abbrev dat_Rw_init : mD9 := (RX7, cX7_init, 2, true, none, 0, p_Rw_init, 1, 26)
theorem or_Rw_init : okR mtab (yX7_init, Cond.code yX7_init cX7_init 2 none, 1, 26, 0) dat_Rw_init (c_Rw_init, 2) := Or.inr ⟨sm_Rw_init, rfl, rfl, plainFor_of_name pl_8, rfl, fun _ => ⟨rfl, by decide, by decide⟩, rfl, rfl⟩
abbrev dat_Rw_has : mD9 := (RX7, cX7_has, 2, false, (some .boolean), 1, p_Rw_has, 0, 0)
theorem or_Rw_has : okR mtab (yX7_has, Cond.code yX7_has cX7_has 2 (some .boolean), 0, 0, 1) dat_Rw_has (c_Rw_has, 2) := Or.inr ⟨sm_Rw_has, rfl, rfl, plainFor_of_name pl_8, rfl, fun h => (by cases h), rfl, rfl⟩
abbrev dat_Rw_know : mD9 := (RX7, cX7_know, 2, false, none, 0, p_Rw_know, 1, 23)
theorem or_Rw_know : okR mtab (yX7_know, Cond.code yX7_know cX7_know 2 none, 1, 23, 0) dat_Rw_know (c_Rw_know, 2) := Or.inr ⟨sm_Rw_know, rfl, rfl, plainFor_of_name pl_8, rfl, fun h => (by cases h), rfl, rfl⟩
abbrev dat_Rw_find : mD9 := (RX7, cX7_find, 5, false, none, 0, p_Rw_find, 3, 78)
theorem or_Rw_find : okR mtab (yX7_find, Cond.code yX7_find cX7_find 5 none, 3, 78, 0) dat_Rw_find (c_Rw_find, 5) := Or.inr ⟨sm_Rw_find, rfl, rfl, plainFor_of_name pl_8, rfl, fun h => (by cases h), rfl, rfl⟩
abbrev dat_Rw_chooseNext : mD9 := (RX7, cX7_chooseNext, 6, false, none, 0, p_Rw_chooseNext, 2, 46)
theorem or_Rw_chooseNext : okR mtab (yX7_chooseNext, Cond.code yX7_chooseNext cX7_chooseNext 6 none, 2, 46, 0) dat_Rw_chooseNext (c_Rw_chooseNext, 6) := Or.inr ⟨sm_Rw_chooseNext, rfl, rfl, plainFor_of_name pl_8, rfl, fun h => (by cases h), rfl, rfl⟩
abbrev dat_Rw_goOn : mD9 := (RX7, cX7_goOn, 8, false, none, 0, p_Rw_goOn, 2, 49)
theorem or_Rw_goOn : okR mtab (yX7_goOn, Cond.code yX7_goOn cX7_goOn 8 none, 2, 49, 0) dat_Rw_goOn (c_Rw_goOn, 8) := Or.inr ⟨sm_Rw_goOn, rfl, rfl, plainFor_of_name pl_8, rfl, fun h => (by cases h), rfl, rfl⟩
abbrev dat_Rw_reach : mD9 := (RX7, cX7_reach, 9, false, (some .int), 1, p_Rw_reach, 3, 78)
theorem or_Rw_reach : okR mtab (yX7_reach, Cond.code yX7_reach cX7_reach 9 (some .int), 3, 78, 1) dat_Rw_reach (c_Rw_reach, 9) := Or.inr ⟨sm_Rw_reach, rfl, rfl, plainFor_of_name pl_8, rfl, fun h => (by cases h), rfl, rfl⟩
abbrev dat_Rw_costOf : mD9 := (RX7, cX7_costOf, 2, false, (some .int), 1, p_Rw_costOf, 1, 23)
theorem or_Rw_costOf : okR mtab (yX7_costOf, Cond.code yX7_costOf cX7_costOf 2 (some .int), 1, 23, 1) dat_Rw_costOf (c_Rw_costOf, 2) := Or.inr ⟨sm_Rw_costOf, rfl, rfl, plainFor_of_name pl_8, rfl, fun h => (by cases h), rfl, rfl⟩
abbrev dat_Rw_stepCount : mD9 := (RX7, cX7_stepCount, 2, false, (some .int), 1, p_Rw_stepCount, 1, 23)
theorem or_Rw_stepCount : okR mtab (yX7_stepCount, Cond.code yX7_stepCount cX7_stepCount 2 (some .int), 1, 23, 1) dat_Rw_stepCount (c_Rw_stepCount, 2) := Or.inr ⟨sm_Rw_stepCount, rfl, rfl, plainFor_of_name pl_8, rfl, fun h => (by cases h), rfl, rfl⟩
abbrev dat_Rw_endOf : mD9 := (RX7, cX7_endOf, 2, false, (some .int), 1, p_Rw_endOf, 1, 23)
theorem or_Rw_endOf : okR mtab (yX7_endOf, Cond.code yX7_endOf cX7_endOf 2 (some .int), 1, 23, 1) dat_Rw_endOf (c_Rw_endOf, 2) := Or.inr ⟨sm_Rw_endOf, rfl, rfl, plainFor_of_name pl_8, rfl, fun h => (by cases h), rfl, rfl⟩
abbrev dat_Rw_nextOf : mD9 := (RX7, cX7_nextOf, 2, false, (some .int), 1, p_Rw_nextOf, 1, 23)
theorem or_Rw_nextOf : okR mtab (yX7_nextOf, Cond.code yX7_nextOf cX7_nextOf 2 (some .int), 1, 23, 1) dat_Rw_nextOf (c_Rw_nextOf, 2) := Or.inr ⟨sm_Rw_nextOf, rfl, rfl, plainFor_of_name pl_8, rfl, fun h => (by cases h), rfl, rfl⟩
abbrev dat_Rw_stepOf : mD9 := (RX7, cX7_stepOf, 6, false, (some .int), 1, p_Rw_stepOf, 2, 46)
theorem or_Rw_stepOf : okR mtab (yX7_stepOf, Cond.code yX7_stepOf cX7_stepOf 6 (some .int), 2, 46, 1) dat_Rw_stepOf (c_Rw_stepOf, 6) := Or.inr ⟨sm_Rw_stepOf, rfl, rfl, plainFor_of_name pl_8, rfl, fun h => (by cases h), rfl, rfl⟩
abbrev dat_Sp_init : mD9 := (RX8, cX8_init, 5, true, none, 0, p_Sp_init, 1, 22)
theorem or_Sp_init : okR mtab (yX8_init, Cond.code yX8_init cX8_init 5 none, 1, 22, 0) dat_Sp_init (c_Sp_init, 5) := Or.inr ⟨sm_Sp_init, rfl, rfl, plainFor_of_name pl_9, rfl, fun _ => ⟨rfl, by decide, by decide⟩, rfl, rfl⟩
abbrev dat_Sp_isLike : mD9 := (RX8, cX8_isLike, 3, false, (some .boolean), 1, p_Sp_isLike, 1, 23)
theorem or_Sp_isLike : okR mtab (yX8_isLike, Cond.code yX8_isLike cX8_isLike 3 (some .boolean), 1, 23, 1) dat_Sp_isLike (c_Sp_isLike, 3) := Or.inr ⟨sm_Sp_isLike, rfl, rfl, plainFor_of_name pl_9, rfl, fun h => (by cases h), rfl, rfl⟩
abbrev dat_St_init : mD9 := (RX9, cX9_init, 1, true, none, 0, p_St_init, 1, 12)
theorem or_St_init : okR mtab (yX9_init, Cond.code yX9_init cX9_init 1 none, 1, 12, 0) dat_St_init (c_St_init, 1) := Or.inr ⟨sm_St_init, rfl, rfl, plainFor_of_name pl_10, rfl, fun _ => ⟨rfl, by decide, by decide⟩, rfl, rfl⟩
abbrev dat_St_lineCount : mD9 := (RX9, cX9_lineCount, 1, false, (some .int), 1, p_St_lineCount, 0, 0)
theorem or_St_lineCount : okR mtab (yX9_lineCount, Cond.code yX9_lineCount cX9_lineCount 1 (some .int), 0, 0, 1) dat_St_lineCount (c_St_lineCount, 1) := Or.inr ⟨sm_St_lineCount, rfl, rfl, plainFor_of_name pl_10, rfl, fun h => (by cases h), rfl, rfl⟩
abbrev dat_St_over : mD9 := (RX9, cX9_over, 5, false, (some .int), 1, p_St_over, 1, 20)
theorem or_St_over : okR mtab (yX9_over, Cond.code yX9_over cX9_over 5 (some .int), 1, 20, 1) dat_St_over (c_St_over, 5) := Or.inr ⟨sm_St_over, rfl, rfl, plainFor_of_name pl_10, rfl, fun h => (by cases h), rfl, rfl⟩
abbrev dat_St_costOf : mD9 := (RX9, cX9_costOf, 3, false, (some .int), 1, p_St_costOf, 0, 0)
theorem or_St_costOf : okR mtab (yX9_costOf, Cond.code yX9_costOf cX9_costOf 3 (some .int), 0, 0, 1) dat_St_costOf (c_St_costOf, 3) := Or.inr ⟨sm_St_costOf, rfl, rfl, plainFor_of_name pl_10, rfl, fun h => (by cases h), rfl, rfl⟩
abbrev dat_St_readFrom : mD9 := (RX9, cX9_readFrom, 3, false, none, 0, p_St_readFrom, 2, 50)
theorem or_St_readFrom : okR mtab (yX9_readFrom, Cond.code yX9_readFrom cX9_readFrom 3 none, 2, 50, 0) dat_St_readFrom (c_St_readFrom, 3) := Or.inr ⟨sm_St_readFrom, rfl, rfl, plainFor_of_name pl_10, rfl, fun h => (by cases h), rfl, rfl⟩
abbrev dat_St_has : mD9 := (RX9, cX9_has, 3, false, (some .boolean), 1, p_St_has, 0, 0)
theorem or_St_has : okR mtab (yX9_has, Cond.code yX9_has cX9_has 3 (some .boolean), 0, 0, 1) dat_St_has (c_St_has, 3) := Or.inr ⟨sm_St_has, rfl, rfl, plainFor_of_name pl_10, rfl, fun h => (by cases h), rfl, rfl⟩
abbrev dat_St_commonDivisor : mD9 := (RX9, cX9_commonDivisor, 6, false, (some .int), 1, p_St_commonDivisor, 1, 23)
theorem or_St_commonDivisor : okR mtab (yX9_commonDivisor, Cond.code yX9_commonDivisor cX9_commonDivisor 6 (some .int), 1, 23, 1) dat_St_commonDivisor (c_St_commonDivisor, 6) := Or.inr ⟨sm_St_commonDivisor, rfl, rfl, plainFor_of_name pl_10, rfl, fun h => (by cases h), rfl, rfl⟩
abbrev dat_Sh_init : mD9 := (RX10, cX10_init, 1, true, none, 0, p_Sh_init, 1, 24)
theorem or_Sh_init : okR mtab (yX10_init, Cond.code yX10_init cX10_init 1 none, 1, 24, 0) dat_Sh_init (c_Sh_init, 1) := Or.inr ⟨sm_Sh_init, rfl, rfl, plainFor_of_name pl_11, rfl, fun _ => ⟨rfl, by decide, by decide⟩, rfl, rfl⟩
abbrev dat_Sh_readLeaps : mD9 := (RX10, cX10_readLeaps, 3, false, none, 0, p_Sh_readLeaps, 2, 49)
theorem or_Sh_readLeaps : okR mtab (yX10_readLeaps, Cond.code yX10_readLeaps cX10_readLeaps 3 none, 2, 49, 0) dat_Sh_readLeaps (c_Sh_readLeaps, 3) := Or.inr ⟨sm_Sh_readLeaps, rfl, rfl, plainFor_of_name pl_11, rfl, fun h => (by cases h), rfl, rfl⟩
abbrev dat_Sh_hasLeapDay : mD9 := (RX10, cX10_hasLeapDay, 3, false, (some .boolean), 1, p_Sh_hasLeapDay, 0, 0)
theorem or_Sh_hasLeapDay : okR mtab (yX10_hasLeapDay, Cond.code yX10_hasLeapDay cX10_hasLeapDay 3 (some .boolean), 0, 0, 1) dat_Sh_hasLeapDay (c_Sh_hasLeapDay, 3) := Or.inr ⟨sm_Sh_hasLeapDay, rfl, rfl, plainFor_of_name pl_11, rfl, fun h => (by cases h), rfl, rfl⟩
abbrev dat_Sh_canEndOn : mD9 := (RX10, cX10_canEndOn, 4, false, (some .boolean), 1, p_Sh_canEndOn, 1, 24)
theorem or_Sh_canEndOn : okR mtab (yX10_canEndOn, Cond.code yX10_canEndOn cX10_canEndOn 4 (some .boolean), 1, 24, 1) dat_Sh_canEndOn (c_Sh_canEndOn, 4) := Or.inr ⟨sm_Sh_canEndOn, rfl, rfl, plainFor_of_name pl_11, rfl, fun h => (by cases h), rfl, rfl⟩
abbrev dat_Sh_takeOver : mD9 := (RX10, cX10_takeOver, 7, false, none, 0, p_Sh_takeOver, 2, 50)
theorem or_Sh_takeOver : okR mtab (yX10_takeOver, Cond.code yX10_takeOver cX10_takeOver 7 none, 2, 50, 0) dat_Sh_takeOver (c_Sh_takeOver, 7) := Or.inr ⟨sm_Sh_takeOver, rfl, rfl, plainFor_of_name pl_11, rfl, fun h => (by cases h), rfl, rfl⟩
abbrev dat_Sh_lay : mD9 := (RX10, cX10_lay, 4, false, none, 0, p_Sh_lay, 2, 51)
theorem or_Sh_lay : okR mtab (yX10_lay, Cond.code yX10_lay cX10_lay 4 none, 2, 51, 0) dat_Sh_lay (c_Sh_lay, 4) := Or.inr ⟨sm_Sh_lay, rfl, rfl, plainFor_of_name pl_11, rfl, fun h => (by cases h), rfl, rfl⟩
abbrev dat_Sh_isLeapAt : mD9 := (RX10, cX10_isLeapAt, 2, false, (some .boolean), 1, p_Sh_isLeapAt, 0, 0)
theorem or_Sh_isLeapAt : okR mtab (yX10_isLeapAt, Cond.code yX10_isLeapAt cX10_isLeapAt 2 (some .boolean), 0, 0, 1) dat_Sh_isLeapAt (c_Sh_isLeapAt, 2) := Or.inr ⟨sm_Sh_isLeapAt, rfl, rfl, plainFor_of_name pl_11, rfl, fun h => (by cases h), rfl, rfl⟩
abbrev dat_Sh_dayOn : mD9 := (RX10, cX10_dayOn, 6, false, (some .int), 1, p_Sh_dayOn, 1, 24)
theorem or_Sh_dayOn : okR mtab (yX10_dayOn, Cond.code yX10_dayOn cX10_dayOn 6 (some .int), 1, 24, 1) dat_Sh_dayOn (c_Sh_dayOn, 6) := Or.inr ⟨sm_Sh_dayOn, rfl, rfl, plainFor_of_name pl_11, rfl, fun h => (by cases h), rfl, rfl⟩
abbrev dat_Sh_keyOn : mD9 := (RX10, cX10_keyOn, 4, false, (some .int), 1, p_Sh_keyOn, 2, 50)
theorem or_Sh_keyOn : okR mtab (yX10_keyOn, Cond.code yX10_keyOn cX10_keyOn 4 (some .int), 2, 50, 1) dat_Sh_keyOn (c_Sh_keyOn, 4) := Or.inr ⟨sm_Sh_keyOn, rfl, rfl, plainFor_of_name pl_11, rfl, fun h => (by cases h), rfl, rfl⟩
abbrev dat_Sh_datesIn : mD9 := (RX10, cX10_datesIn, 6, false, (some .int), 1, p_Sh_datesIn, 1, 24)
theorem or_Sh_datesIn : okR mtab (yX10_datesIn, Cond.code yX10_datesIn cX10_datesIn 6 (some .int), 1, 24, 1) dat_Sh_datesIn (c_Sh_datesIn, 6) := Or.inr ⟨sm_Sh_datesIn, rfl, rfl, plainFor_of_name pl_11, rfl, fun h => (by cases h), rfl, rfl⟩
abbrev dat_L_day : mD9 := (RL, cL_day, 7, false, (some .int), 77, p_L_day, 7, 128)
theorem or_L_day : okR mtab (yL_day, Cond.codeWith yL_day cL_day 7 (some .int) [(0, 14, 17, 13)], 7, 128, 1) dat_L_day (c_L_day, 7) := Or.inl rfl
abbrev dat_L_law : mD9 := (RL, cL_law, 7, false, (some .boolean), 1, p_L_law, 9, 247)
theorem or_L_law : okR mtab (yL_law, Cond.code yL_law cL_law 7 (some .boolean), 9, 247, 1) dat_L_law (c_L_law, 7) := Or.inr ⟨sm_L_law, rfl, rfl, plainFor_of_name pl_12, rfl, fun h => (by cases h), rfl, rfl⟩
abbrev dat_J_bitCount : mD9 := (RJ6, cJ6_bitCount_0f7a4, 1, false, (some .int), 1, p_J_bitCount, 0, 0)
theorem or_J_bitCount : okR mtab (yJ6_bitCount_0f7a4, Cond.code yJ6_bitCount_0f7a4 cJ6_bitCount_0f7a4 1 (some .int), 0, 0, 1) dat_J_bitCount (c_J_bitCount, 1) := Or.inr ⟨sm_J_bitCount, rfl, rfl, plainFor_of_name pl_13, rfl, fun h => (by cases h), rfl, rfl⟩
abbrev dat_J_compare : mD9 := (RJ6, cJ6_compare_7cf53, 2, false, (some .int), 1, p_J_compare, 0, 0)
theorem or_J_compare : okR mtab (yJ6_compare_7cf53, Cond.code yJ6_compare_7cf53 cJ6_compare_7cf53 2 (some .int), 0, 0, 1) dat_J_compare (c_J_compare, 2) := Or.inr ⟨sm_J_compare, rfl, rfl, plainFor_of_name pl_13, rfl, fun h => (by cases h), rfl, rfl⟩
abbrev dat_J_abs : mD9 := (RJ9, cJ9_abs_0f7a4, 1, false, (some .int), 1, p_J_abs, 0, 0)
theorem or_J_abs : okR mtab (yJ9_abs_0f7a4, Cond.code yJ9_abs_0f7a4 cJ9_abs_0f7a4 1 (some .int), 0, 0, 1) dat_J_abs (c_J_abs, 1) := Or.inr ⟨sm_J_abs, rfl, rfl, (by decide +kernel), rfl, fun h => (by cases h), rfl, rfl⟩
abbrev dat_J_floorMod : mD9 := (RJ9, cJ9_floorMod_7cf53, 3, false, (some .int), 1, p_J_floorMod, 0, 0)
theorem or_J_floorMod : okR mtab (yJ9_floorMod_7cf53, Cond.code yJ9_floorMod_7cf53 cJ9_floorMod_7cf53 3 (some .int), 0, 0, 1) dat_J_floorMod (c_J_floorMod, 3) := Or.inr ⟨sm_J_floorMod, rfl, rfl, (by decide +kernel), rfl, fun h => (by cases h), rfl, rfl⟩
abbrev dat_J_max : mD9 := (RJ9, cJ9_max_7cf53, 2, false, (some .int), 1, p_J_max, 0, 0)
theorem or_J_max : okR mtab (yJ9_max_7cf53, Cond.code yJ9_max_7cf53 cJ9_max_7cf53 2 (some .int), 0, 0, 1) dat_J_max (c_J_max, 2) := Or.inr ⟨sm_J_max, rfl, rfl, (by decide +kernel), rfl, fun h => (by cases h), rfl, rfl⟩
abbrev dat_J_min : mD9 := (RJ9, cJ9_min_7cf53, 2, false, (some .int), 1, p_J_min, 0, 0)
theorem or_J_min : okR mtab (yJ9_min_7cf53, Cond.code yJ9_min_7cf53 cJ9_min_7cf53 2 (some .int), 0, 0, 1) dat_J_min (c_J_min, 2) := Or.inr ⟨sm_J_min, rfl, rfl, (by decide +kernel), rfl, fun h => (by cases h), rfl, rfl⟩
abbrev dat_J_minL : mD9 := (RJ9, cJ9_min_f86c9, 4, false, (some .long), 2, p_J_minL, 0, 0)
theorem or_J_minL : okR mtab (yJ9_min_f86c9, Cond.code yJ9_min_f86c9 cJ9_min_f86c9 4 (some .long), 0, 0, 2) dat_J_minL (c_J_minL, 4) := Or.inr ⟨sm_J_minL, rfl, rfl, (by decide +kernel), rfl, fun h => (by cases h), rfl, rfl⟩
abbrev dat_J_fill : mD9 := (RJ7, cJ7_fill_d0a16, 5, false, none, 0, p_J_fill, 0, 0)
theorem or_J_fill : okR mtab (yJ7_fill_d0a16, Cond.code yJ7_fill_d0a16 cJ7_fill_d0a16 5 none, 0, 0, 0) dat_J_fill (c_J_fill, 5) := Or.inr ⟨sm_J_fill, rfl, rfl, plainFor_of_name pl_15, rfl, fun h => (by cases h), rfl, rfl⟩
set_option maxRecDepth 100000 in
def mdat : List mD9 := [dat_X_init, dat_X_feed, dat_X_signsIn, dat_X_append, dat_X_end, dat_X_fault, dat_X_text, dat_X_takeAlmanac, dat_X_takeHead, dat_X_takeThings, dat_X_readThings, dat_X_readThing, dat_X_date, dat_X_turned, dat_X_many, dat_X_kind, dat_X_like, dat_X_thirteenths, dat_X_mates, dat_X_unlike, dat_X_almanacAt, dat_X_dayIn, dat_X_spotOn, dat_X_way, dat_X_answers, dat_X_part, dat_X_partInYear, dat_X_least, dat_X_reachedFrom, dat_X_fewestReaching, dat_X_loneOf, dat_X_unionOf, dat_X_mirrorOf, dat_X_row, dat_X_holds, dat_X_right, dat_X_lacks, dat_X_rises, dat_X_headAt, dat_X_ask, dat_X_asked, dat_X_fits, dat_X_spare, dat_X_headsWrongAtMost, dat_X_so, dat_X_soCount, dat_X_further, dat_X_lived, dat_X_after, dat_X_learnt, dat_X_weigh, dat_X_odds, dat_X_plan, dat_X_parted, dat_X_next, dat_X_areHeads, dat_X_pairsParted, dat_X_run, dat_X_born, dat_X_age, dat_X_event, dat_X_held, dat_X_spell, dat_X_spellFrom, dat_X_sortsOn, dat_X_keep, dat_X_back, dat_X_count, dat_X_isYear, dat_X_areYears, dat_X_isSlack, dat_X_isSort, dat_X_isDatelike, dat_X_keyOf, dat_X_yearOfKey, dat_X_monthOfKey, dat_X_dateOfKey, dat_X_partOfKey, dat_X_yearLength, dat_X_monthLength, dat_X_placeInYear, dat_X_keyAt, dat_X_offBy, dat_M_in, dat_M_init, dat_M_thrown, dat_M_byteOf, dat_M_feed, dat_M_end, dat_M_here, dat_M_look, dat_M_bad, dat_M_isDigit, dat_M_sign, dat_M_number, dat_M_wrongAtLast, dat_M_closeNumber, dat_M_plain, dat_M_isLeap, dat_M_daysOf, dat_M_code, dat_M_ordinal, dat_M_layOut, dat_M_dated, dat_M_readLeaps, dat_M_readCalendar, dat_M_change, dat_M_item, dat_M_readStep, dat_M_readLike, dat_M_readCost, dat_M_readHead, dat_M_fault, dat_M_text, dat_M_isCalendar, dat_M_stretchOf, dat_M_isDate, dat_M_dayOf, dat_M_day, dat_M_dateOf, dat_M_partOf, dat_M_date, dat_M_turned, dat_M_many, dat_M_kindOf, dat_M_kind, dat_M_push, dat_M_flood, dat_M_touch, dat_M_knowsYear, dat_M_spread, dat_M_nextYear, dat_M_nextMonth, dat_M_isHead, dat_M_goes, dat_M_way, dat_M_answer, dat_M_round, dat_M_falseStep, dat_M_answers, dat_M_ask, dat_M_askDay, dat_M_asked, dat_M_isSo, dat_M_soMany, dat_M_isSlack, dat_M_fits, dat_M_so, dat_M_further, dat_M_mean, dat_M_lived, dat_M_after, dat_M_learnt, dat_M_weigh, dat_M_odds, dat_M_plan, dat_M_areApart, dat_M_partedBy, dat_M_areHeads, dat_M_parted, dat_M_next, dat_M_part, dat_M_nearYears, dat_M_doAll, dat_M_least, dat_M_like, dat_M_thirteenths, dat_M_mates, dat_M_born, dat_M_firstFrom, dat_M_age, dat_M_event, dat_M_held, dat_M_hasEvent, dat_M_spell, dat_M_keep, dat_M_back, dat_M_readRow, dat_M_readThing, dat_M_takeRow, dat_M_row, dat_M_draw, dat_M_isEased, dat_M_run, dat_M_areYears, dat_M_holds, dat_M_stepTrue, dat_M_monthsTrue, dat_M_right, dat_M_lacks, dat_M_yearsLack, dat_M_costOf, dat_M_spare, dat_M_unlike, dat_M_rises, dat_M_count, dat_Al_init, dat_Al_readFrom, dat_Al_add, dat_Al_readChange, dat_Al_lay, dat_Al_kindOf, dat_Al_areLike, dat_Al_dayOn, dat_Al_keyOn, dat_Al_datesIn, dat_Al_areAlike, dat_Al_firstFrom, dat_Al_firstInMonth, dat_Ak_init, dat_Ak_isSoWith, dat_Ak_yearsFrom, dat_Hd_init, dat_Hd_readFrom, dat_Hd_readItem, dat_Hd_readRange, dat_Hd_readMonth, dat_Hd_readExtra, dat_Hd_findRows, dat_Hd_extraOf, dat_Hd_toldAt, dat_Hd_toldFor, dat_Hd_saysTo, dat_Hd_falseStep, dat_Hd_trueSteps, dat_Hd_truePairs, dat_Hd_monthsLacked, dat_Hp_init, dat_Hp_empty, dat_Hp_put, dat_Hp_takeLeast, dat_Hp_sink, dat_Hp_lesserChild, dat_Hp_set, dat_Pr_init, dat_Pr_lineCount, dat_Pr_over, dat_Pr_costOf, dat_Pr_readFrom, dat_Rd_init, dat_Rd_goTo, dat_Rd_refuseAt, dat_Rd_isRight, dat_Rd_seesDigit, dat_Rd_takes, dat_Rd_expect, dat_Rd_finish, dat_Rd_refuse, dat_Rd_refuseNumber, dat_Rd_number, dat_Rw_init, dat_Rw_has, dat_Rw_know, dat_Rw_find, dat_Rw_chooseNext, dat_Rw_goOn, dat_Rw_reach, dat_Rw_costOf, dat_Rw_stepCount, dat_Rw_endOf, dat_Rw_nextOf, dat_Rw_stepOf, dat_Sp_init, dat_Sp_isLike, dat_St_init, dat_St_lineCount, dat_St_over, dat_St_costOf, dat_St_readFrom, dat_St_has, dat_St_commonDivisor, dat_Sh_init, dat_Sh_readLeaps, dat_Sh_hasLeapDay, dat_Sh_canEndOn, dat_Sh_takeOver, dat_Sh_lay, dat_Sh_isLeapAt, dat_Sh_dayOn, dat_Sh_keyOn, dat_Sh_datesIn, dat_L_day, dat_L_law, dat_J_bitCount, dat_J_compare, dat_J_abs, dat_J_floorMod, dat_J_max, dat_J_min, dat_J_minL, dat_J_fill]
set_option maxRecDepth 100000 in
theorem okL_prog : okL mtab mtab mdat prog := (okL_c or_X_init (okL_c or_X_feed (okL_c or_X_signsIn (okL_c or_X_append (okL_c or_X_end (okL_c or_X_fault (okL_c or_X_text (okL_c or_X_takeAlmanac (okL_c or_X_takeHead (okL_c or_X_takeThings (okL_c or_X_readThings (okL_c or_X_readThing (okL_c or_X_date (okL_c or_X_turned (okL_c or_X_many (okL_c or_X_kind (okL_c or_X_like (okL_c or_X_thirteenths (okL_c or_X_mates (okL_c or_X_unlike (okL_c or_X_almanacAt (okL_c or_X_dayIn (okL_c or_X_spotOn (okL_c or_X_way (okL_c or_X_answers (okL_c or_X_part (okL_c or_X_partInYear (okL_c or_X_least (okL_c or_X_reachedFrom (okL_c or_X_fewestReaching (okL_c or_X_loneOf (okL_c or_X_unionOf (okL_c or_X_mirrorOf (okL_c or_X_row (okL_c or_X_holds (okL_c or_X_right (okL_c or_X_lacks (okL_c or_X_rises (okL_c or_X_headAt (okL_c or_X_ask (okL_c or_X_asked (okL_c or_X_fits (okL_c or_X_spare (okL_c or_X_headsWrongAtMost (okL_c or_X_so (okL_c or_X_soCount (okL_c or_X_further (okL_c or_X_lived (okL_c or_X_after (okL_c or_X_learnt (okL_c or_X_weigh (okL_c or_X_odds (okL_c or_X_plan (okL_c or_X_parted (okL_c or_X_next (okL_c or_X_areHeads (okL_c or_X_pairsParted (okL_c or_X_run (okL_c or_X_born (okL_c or_X_age (okL_c or_X_event (okL_c or_X_held (okL_c or_X_spell (okL_c or_X_spellFrom (okL_c or_X_sortsOn (okL_c or_X_keep (okL_c or_X_back (okL_c or_X_count (okL_c or_X_isYear (okL_c or_X_areYears (okL_c or_X_isSlack (okL_c or_X_isSort (okL_c or_X_isDatelike (okL_c or_X_keyOf (okL_c or_X_yearOfKey (okL_c or_X_monthOfKey (okL_c or_X_dateOfKey (okL_c or_X_partOfKey (okL_c or_X_yearLength (okL_c or_X_monthLength (okL_c or_X_placeInYear (okL_c or_X_keyAt (okL_c or_X_offBy (okL_c or_M_in (okL_c or_M_init (okL_c or_M_thrown (okL_c or_M_byteOf (okL_c or_M_feed (okL_c or_M_end (okL_c or_M_here (okL_c or_M_look (okL_c or_M_bad (okL_c or_M_isDigit (okL_c or_M_sign (okL_c or_M_number (okL_c or_M_wrongAtLast (okL_c or_M_closeNumber (okL_c or_M_plain (okL_c or_M_isLeap (okL_c or_M_daysOf (okL_c or_M_code (okL_c or_M_ordinal (okL_c or_M_layOut (okL_c or_M_dated (okL_c or_M_readLeaps (okL_c or_M_readCalendar (okL_c or_M_change (okL_c or_M_item (okL_c or_M_readStep (okL_c or_M_readLike (okL_c or_M_readCost (okL_c or_M_readHead (okL_c or_M_fault (okL_c or_M_text (okL_c or_M_isCalendar (okL_c or_M_stretchOf (okL_c or_M_isDate (okL_c or_M_dayOf (okL_c or_M_day (okL_c or_M_dateOf (okL_c or_M_partOf (okL_c or_M_date (okL_c or_M_turned (okL_c or_M_many (okL_c or_M_kindOf (okL_c or_M_kind (okL_c or_M_push (okL_c or_M_flood (okL_c or_M_touch (okL_c or_M_knowsYear (okL_c or_M_spread (okL_c or_M_nextYear (okL_c or_M_nextMonth (okL_c or_M_isHead (okL_c or_M_goes (okL_c or_M_way (okL_c or_M_answer (okL_c or_M_round (okL_c or_M_falseStep (okL_c or_M_answers (okL_c or_M_ask (okL_c or_M_askDay (okL_c or_M_asked (okL_c or_M_isSo (okL_c or_M_soMany (okL_c or_M_isSlack (okL_c or_M_fits (okL_c or_M_so (okL_c or_M_further (okL_c or_M_mean (okL_c or_M_lived (okL_c or_M_after (okL_c or_M_learnt (okL_c or_M_weigh (okL_c or_M_odds (okL_c or_M_plan (okL_c or_M_areApart (okL_c or_M_partedBy (okL_c or_M_areHeads (okL_c or_M_parted (okL_c or_M_next (okL_c or_M_part (okL_c or_M_nearYears (okL_c or_M_doAll (okL_c or_M_least (okL_c or_M_like (okL_c or_M_thirteenths (okL_c or_M_mates (okL_c or_M_born (okL_c or_M_firstFrom (okL_c or_M_age (okL_c or_M_event (okL_c or_M_held (okL_c or_M_hasEvent (okL_c or_M_spell (okL_c or_M_keep (okL_c or_M_back (okL_c or_M_readRow (okL_c or_M_readThing (okL_c or_M_takeRow (okL_c or_M_row (okL_c or_M_draw (okL_c or_M_isEased (okL_c or_M_run (okL_c or_M_areYears (okL_c or_M_holds (okL_c or_M_stepTrue (okL_c or_M_monthsTrue (okL_c or_M_right (okL_c or_M_lacks (okL_c or_M_yearsLack (okL_c or_M_costOf (okL_c or_M_spare (okL_c or_M_unlike (okL_c or_M_rises (okL_c or_M_count (okL_c or_Al_init (okL_c or_Al_readFrom (okL_c or_Al_add (okL_c or_Al_readChange (okL_c or_Al_lay (okL_c or_Al_kindOf (okL_c or_Al_areLike (okL_c or_Al_dayOn (okL_c or_Al_keyOn (okL_c or_Al_datesIn (okL_c or_Al_areAlike (okL_c or_Al_firstFrom (okL_c or_Al_firstInMonth (okL_c or_Ak_init (okL_c or_Ak_isSoWith (okL_c or_Ak_yearsFrom (okL_c or_Hd_init (okL_c or_Hd_readFrom (okL_c or_Hd_readItem (okL_c or_Hd_readRange (okL_c or_Hd_readMonth (okL_c or_Hd_readExtra (okL_c or_Hd_findRows (okL_c or_Hd_extraOf (okL_c or_Hd_toldAt (okL_c or_Hd_toldFor (okL_c or_Hd_saysTo (okL_c or_Hd_falseStep (okL_c or_Hd_trueSteps (okL_c or_Hd_truePairs (okL_c or_Hd_monthsLacked (okL_c or_Hp_init (okL_c or_Hp_empty (okL_c or_Hp_put (okL_c or_Hp_takeLeast (okL_c or_Hp_sink (okL_c or_Hp_lesserChild (okL_c or_Hp_set (okL_c or_Pr_init (okL_c or_Pr_lineCount (okL_c or_Pr_over (okL_c or_Pr_costOf (okL_c or_Pr_readFrom (okL_c or_Rd_init (okL_c or_Rd_goTo (okL_c or_Rd_refuseAt (okL_c or_Rd_isRight (okL_c or_Rd_seesDigit (okL_c or_Rd_takes (okL_c or_Rd_expect (okL_c or_Rd_finish (okL_c or_Rd_refuse (okL_c or_Rd_refuseNumber (okL_c or_Rd_number (okL_c or_Rw_init (okL_c or_Rw_has (okL_c or_Rw_know (okL_c or_Rw_find (okL_c or_Rw_chooseNext (okL_c or_Rw_goOn (okL_c or_Rw_reach (okL_c or_Rw_costOf (okL_c or_Rw_stepCount (okL_c or_Rw_endOf (okL_c or_Rw_nextOf (okL_c or_Rw_stepOf (okL_c or_Sp_init (okL_c or_Sp_isLike (okL_c or_St_init (okL_c or_St_lineCount (okL_c or_St_over (okL_c or_St_costOf (okL_c or_St_readFrom (okL_c or_St_has (okL_c or_St_commonDivisor (okL_c or_Sh_init (okL_c or_Sh_readLeaps (okL_c or_Sh_hasLeapDay (okL_c or_Sh_canEndOn (okL_c or_Sh_takeOver (okL_c or_Sh_lay (okL_c or_Sh_isLeapAt (okL_c or_Sh_dayOn (okL_c or_Sh_keyOn (okL_c or_Sh_datesIn (okL_c or_L_day (okL_c or_L_law (okL_c or_J_bitCount (okL_c or_J_compare (okL_c or_J_abs (okL_c or_J_floorMod (okL_c or_J_max (okL_c or_J_min (okL_c or_J_minL (okL_c or_J_fill okL_n)))))))))))))))))))))))))))))))))))))))))))))))))))))))))))))))))))))))))))))))))))))))))))))))))))))))))))))))))))))))))))))))))))))))))))))))))))))))))))))))))))))))))))))))))))))))))))))))))))))))))))))))))))))))))))))))))))))))))))))))))))))))))))))))))))))))))))))))))))))))))))))))))))
theorem md_77 : (List.range 291).all (fun k => k == kL_day || (match mdat[k]? with | some d => d.2.2.2.2.2.1 != 77 | none => true)) = true := by decide +kernel
set_option maxRecDepth 100000 in
theorem md_len : mdat.length = 291 := rfl
set_option maxRecDepth 100000 in
theorem mb_9999 : mblk prog 9999 0 = none := rfl
theorem okTab2_prog : okTab2 mtab mdat kL_day := by
  refine okTab2_of okL_prog (fun k d hd h7 => ?_) mb_9999
  have hk : k < 291 := by
    rw [← md_len]
    exact (List.getElem?_eq_some_iff.mp hd).1
  have := List.all_eq_true.mp md_77 k (List.mem_range.mpr hk)
  rw [hd] at this
  simpa [h7] using this
