/-! THE PURE PART, the law: each call, the switch, the loop (printed by wip/gen/law.py) -/
def LWS (h : mH) (i : Int) (b : Nat) (u5 u6 : mV) : Prop := ∃ h2 w5 w6, Rn kL_law b [vS 2, vR 10 1, vR 11 9, vR 101 56, vI i, u5, u6] [] h = Rn kL_law 190 [vS 2, vR 10 1, vR 11 9, vR 101 56, vI i, w5, w6] [] h2 ∧ IV h2 ∧ stp h h2
/-- the calls of the least years, to be shown apart -/
def LEAST : Prop := ∀ a b c d e : Int, okc kX_least kM_least [vI a, vI b, vI c, vI d, vI e]
theorem lw_5 {h : mH} (J : IV h) {i : Int} (b0 : 0 ≤ i) (b1 : i + 8 ≤ h.X (-1)) (b2 : h.X (-1) ≤ 4096) (hI : ∀ j, inI (h.X j)) (u5 u6 : mV) : LWS h i 5 u5 u6 := by
  obtain ⟨v, h1, h2, r1, r2, J2, s, x1⟩ := (show okc kX_feed kM_feed [vI (h.X (i + 1)), vI (h.X (i + 2)), vI (h.X (i + 3)), vI (h.X (i + 4)), vI (h.X (i + 5))] from ok_feed (hI (i + 1)) (hI (i + 2)) (hI (i + 3)) (hI (i + 4)) (hI (i + 5))) h J
  refine ⟨h2, u5, u6, ?_, J2, s⟩
  rw [E_L_law_5, Z_wI (z := i + 1) (by omega), Z_wI (z := i + 2) (by omega), Z_wI (z := i + 3) (by omega), Z_wI (z := i + 4) (by omega), Z_wI (z := i + 5) (by omega), gd_t (by omega), gd_t (by omega), gd_t (by omega), gd_t (by omega), gd_t (by omega), gd_t (show (1 : Int) ≠ 0 by decide), r1, Z_bI, E_L_law_6, x1, Z_wI (z := i + 1) (by omega), Z_wI (z := i + 2) (by omega), Z_wI (z := i + 3) (by omega), Z_wI (z := i + 4) (by omega), Z_wI (z := i + 5) (by omega), gd_t (by omega), gd_t (by omega), gd_t (by omega), gd_t (by omega), gd_t (by omega), gd_t (show (9 : Int) ≠ 0 by decide), r2, Z_bI, E_L_law_7, if_pos rfl]
theorem lw_9 {h : mH} (J : IV h) {i : Int} (b0 : 0 ≤ i) (b1 : i + 8 ≤ h.X (-1)) (b2 : h.X (-1) ≤ 4096) (hI : ∀ j, inI (h.X j)) (u5 u6 : mV) : LWS h i 9 u5 u6 := by
  obtain ⟨v, h1, h2, r1, r2, J2, s, x1⟩ := (show okc kX_end kM_end [vI (h.X (i + 1))] from ok_end) h J
  refine ⟨h2, u5, u6, ?_, J2, s⟩
  rw [E_L_law_9, Z_wI (z := i + 1) (by omega), gd_t (by omega), gd_t (show (1 : Int) ≠ 0 by decide), r1, Z_bI, E_L_law_10, x1, Z_wI (z := i + 1) (by omega), gd_t (by omega), gd_t (show (9 : Int) ≠ 0 by decide), r2, Z_bI, E_L_law_11, if_pos rfl]
theorem lw_13 {h : mH} (J : IV h) {i : Int} (b0 : 0 ≤ i) (b1 : i + 8 ≤ h.X (-1)) (b2 : h.X (-1) ≤ 4096) (hI : ∀ j, inI (h.X j)) (u5 u6 : mV) : LWS h i 13 u5 u6 := by
  obtain ⟨v, h1, h2, r1, r2, J2, s, x1⟩ := (show okc kX_fault kM_fault [vI (h.X (i + 1))] from ok_fault) h J
  refine ⟨h2, u5, u6, ?_, J2, s⟩
  rw [E_L_law_13, Z_wI (z := i + 1) (by omega), gd_t (by omega), gd_t (show (1 : Int) ≠ 0 by decide), r1, Z_bI, E_L_law_14, x1, Z_wI (z := i + 1) (by omega), gd_t (by omega), gd_t (show (9 : Int) ≠ 0 by decide), r2, Z_bI, E_L_law_15, if_pos rfl]
theorem lw_17 {h : mH} (J : IV h) {i : Int} (b0 : 0 ≤ i) (b1 : i + 8 ≤ h.X (-1)) (b2 : h.X (-1) ≤ 4096) (hI : ∀ j, inI (h.X j)) (u5 u6 : mV) : LWS h i 17 u5 u6 := by
  obtain ⟨v, h1, h2, r1, r2, J2, s, x1⟩ := (show okc kX_text kM_text [vI (h.X (i + 1))] from ok_text) h J
  refine ⟨h2, u5, u6, ?_, J2, s⟩
  rw [E_L_law_17, Z_wI (z := i + 1) (by omega), gd_t (by omega), gd_t (show (1 : Int) ≠ 0 by decide), r1, Z_bI, E_L_law_18, x1, Z_wI (z := i + 1) (by omega), gd_t (by omega), gd_t (show (9 : Int) ≠ 0 by decide), r2, Z_bI, E_L_law_19, if_pos rfl]
theorem lw_30 {h : mH} (J : IV h) {i : Int} (b0 : 0 ≤ i) (b1 : i + 8 ≤ h.X (-1)) (b2 : h.X (-1) ≤ 4096) (hI : ∀ j, inI (h.X j)) (u5 u6 : mV) : LWS h i 30 u5 u6 := by
  obtain ⟨v, h1, h2, r1, r2, J2, s, x1⟩ := (show okc kX_date kM_date [vI (h.X (i + 1)), vI (h.X (i + 2)), vI (h.X (i + 3))] from ok_date (hI (i + 2))) h J
  refine ⟨h2, u5, u6, ?_, J2, s⟩
  rw [E_L_law_30, Z_wI (z := i + 1) (by omega), Z_wI (z := i + 2) (by omega), Z_wI (z := i + 3) (by omega), gd_t (by omega), gd_t (by omega), gd_t (by omega), gd_t (show (1 : Int) ≠ 0 by decide), r1, Z_bI, E_L_law_31, x1, Z_wI (z := i + 1) (by omega), Z_wI (z := i + 2) (by omega), Z_wI (z := i + 3) (by omega), gd_t (by omega), gd_t (by omega), gd_t (by omega), gd_t (show (9 : Int) ≠ 0 by decide), r2, Z_bI, E_L_law_32, if_pos rfl]
theorem lw_34 {h : mH} (J : IV h) {i : Int} (b0 : 0 ≤ i) (b1 : i + 8 ≤ h.X (-1)) (b2 : h.X (-1) ≤ 4096) (hI : ∀ j, inI (h.X j)) (u5 u6 : mV) : LWS h i 34 u5 u6 := by
  obtain ⟨v, h1, h2, r1, r2, J2, s, x1⟩ := (show okc kX_turned kM_turned [vI (h.X (i + 1)), vI (h.X (i + 2)), vI (h.X (i + 3)), vI (h.X (i + 4)), vI (h.X (i + 5)), vI (h.X (i + 6))] from ok_turned) h J
  refine ⟨h2, u5, u6, ?_, J2, s⟩
  rw [E_L_law_34, Z_wI (z := i + 1) (by omega), Z_wI (z := i + 2) (by omega), Z_wI (z := i + 3) (by omega), Z_wI (z := i + 4) (by omega), Z_wI (z := i + 5) (by omega), Z_wI (z := i + 6) (by omega), gd_t (by omega), gd_t (by omega), gd_t (by omega), gd_t (by omega), gd_t (by omega), gd_t (by omega), gd_t (show (1 : Int) ≠ 0 by decide), r1, Z_bI, E_L_law_35, x1, Z_wI (z := i + 1) (by omega), Z_wI (z := i + 2) (by omega), Z_wI (z := i + 3) (by omega), Z_wI (z := i + 4) (by omega), Z_wI (z := i + 5) (by omega), Z_wI (z := i + 6) (by omega), gd_t (by omega), gd_t (by omega), gd_t (by omega), gd_t (by omega), gd_t (by omega), gd_t (by omega), gd_t (show (9 : Int) ≠ 0 by decide), r2, Z_bI, E_L_law_36, if_pos rfl]
theorem lw_38 {h : mH} (J : IV h) {i : Int} (b0 : 0 ≤ i) (b1 : i + 8 ≤ h.X (-1)) (b2 : h.X (-1) ≤ 4096) (hI : ∀ j, inI (h.X j)) (u5 u6 : mV) : LWS h i 38 u5 u6 := by
  obtain ⟨v, h1, h2, r1, r2, J2, s, x1⟩ := (show okc kX_many kM_many [vI (h.X (i + 1)), vI (h.X (i + 2)), vI (h.X (i + 3))] from ok_many) h J
  refine ⟨h2, u5, u6, ?_, J2, s⟩
  rw [E_L_law_38, Z_wI (z := i + 1) (by omega), Z_wI (z := i + 2) (by omega), Z_wI (z := i + 3) (by omega), gd_t (by omega), gd_t (by omega), gd_t (by omega), gd_t (show (1 : Int) ≠ 0 by decide), r1, Z_bI, E_L_law_39, x1, Z_wI (z := i + 1) (by omega), Z_wI (z := i + 2) (by omega), Z_wI (z := i + 3) (by omega), gd_t (by omega), gd_t (by omega), gd_t (by omega), gd_t (show (9 : Int) ≠ 0 by decide), r2, Z_bI, E_L_law_40, if_pos rfl]
theorem lw_42 {h : mH} (J : IV h) {i : Int} (b0 : 0 ≤ i) (b1 : i + 8 ≤ h.X (-1)) (b2 : h.X (-1) ≤ 4096) (hI : ∀ j, inI (h.X j)) (u5 u6 : mV) : LWS h i 42 u5 u6 := by
  obtain ⟨v, h1, h2, r1, r2, J2, s, x1⟩ := (show okc kX_kind kM_kind [vI (h.X (i + 1)), vI (h.X (i + 2))] from ok_kind) h J
  refine ⟨h2, u5, u6, ?_, J2, s⟩
  rw [E_L_law_42, Z_wI (z := i + 1) (by omega), Z_wI (z := i + 2) (by omega), gd_t (by omega), gd_t (by omega), gd_t (show (1 : Int) ≠ 0 by decide), r1, Z_bI, E_L_law_43, x1, Z_wI (z := i + 1) (by omega), Z_wI (z := i + 2) (by omega), gd_t (by omega), gd_t (by omega), gd_t (show (9 : Int) ≠ 0 by decide), r2, Z_bI, E_L_law_44, if_pos rfl]
theorem lw_46 {h : mH} (J : IV h) {i : Int} (b0 : 0 ≤ i) (b1 : i + 8 ≤ h.X (-1)) (b2 : h.X (-1) ≤ 4096) (hI : ∀ j, inI (h.X j)) (u5 u6 : mV) : LWS h i 46 u5 u6 := by
  obtain ⟨v, h1, h2, r1, r2, J2, s, x1⟩ := (show okc kX_way kM_way [vI (h.X (i + 1)), vI (h.X (i + 2)), vI (h.X (i + 3)), vI (h.X (i + 4)), vI (h.X (i + 5)), vI (h.X (i + 6)), vI (h.X (i + 7))] from ok_way) h J
  refine ⟨h2, u5, u6, ?_, J2, s⟩
  rw [E_L_law_46, Z_wI (z := i + 1) (by omega), Z_wI (z := i + 2) (by omega), Z_wI (z := i + 3) (by omega), Z_wI (z := i + 4) (by omega), Z_wI (z := i + 5) (by omega), Z_wI (z := i + 6) (by omega), Z_wI (z := i + 7) (by omega), gd_t (by omega), gd_t (by omega), gd_t (by omega), gd_t (by omega), gd_t (by omega), gd_t (by omega), gd_t (by omega), gd_t (show (1 : Int) ≠ 0 by decide), r1, Z_bI, E_L_law_47, x1, Z_wI (z := i + 1) (by omega), Z_wI (z := i + 2) (by omega), Z_wI (z := i + 3) (by omega), Z_wI (z := i + 4) (by omega), Z_wI (z := i + 5) (by omega), Z_wI (z := i + 6) (by omega), Z_wI (z := i + 7) (by omega), gd_t (by omega), gd_t (by omega), gd_t (by omega), gd_t (by omega), gd_t (by omega), gd_t (by omega), gd_t (by omega), gd_t (show (9 : Int) ≠ 0 by decide), r2, Z_bI, E_L_law_48, if_pos rfl]
theorem lw_50 {h : mH} (J : IV h) {i : Int} (b0 : 0 ≤ i) (b1 : i + 8 ≤ h.X (-1)) (b2 : h.X (-1) ≤ 4096) (hI : ∀ j, inI (h.X j)) (u5 u6 : mV) : LWS h i 50 u5 u6 := by
  obtain ⟨v, h1, h2, r1, r2, J2, s, x1⟩ := (show okc kX_answers kM_answers [vI (h.X (i + 1)), vI (h.X (i + 2)), vI (h.X (i + 3)), vI (h.X (i + 4)), vI (h.X (i + 5)), vI (h.X (i + 6))] from ok_answers) h J
  refine ⟨h2, u5, u6, ?_, J2, s⟩
  rw [E_L_law_50, Z_wI (z := i + 1) (by omega), Z_wI (z := i + 2) (by omega), Z_wI (z := i + 3) (by omega), Z_wI (z := i + 4) (by omega), Z_wI (z := i + 5) (by omega), Z_wI (z := i + 6) (by omega), gd_t (by omega), gd_t (by omega), gd_t (by omega), gd_t (by omega), gd_t (by omega), gd_t (by omega), gd_t (show (1 : Int) ≠ 0 by decide), r1, Z_bI, E_L_law_51, x1, Z_wI (z := i + 1) (by omega), Z_wI (z := i + 2) (by omega), Z_wI (z := i + 3) (by omega), Z_wI (z := i + 4) (by omega), Z_wI (z := i + 5) (by omega), Z_wI (z := i + 6) (by omega), gd_t (by omega), gd_t (by omega), gd_t (by omega), gd_t (by omega), gd_t (by omega), gd_t (by omega), gd_t (show (9 : Int) ≠ 0 by decide), r2, Z_bI, E_L_law_52, if_pos rfl]
theorem lw_54 {h : mH} (J : IV h) {i : Int} (b0 : 0 ≤ i) (b1 : i + 8 ≤ h.X (-1)) (b2 : h.X (-1) ≤ 4096) (hI : ∀ j, inI (h.X j)) (u5 u6 : mV) : LWS h i 54 u5 u6 := by
  obtain ⟨v, h1, h2, r1, r2, J2, s, x1⟩ := (show okc kX_ask kM_ask [vI (h.X (i + 1)), vI (h.X (i + 2)), vI (h.X (i + 3)), vI (h.X (i + 4)), vI (h.X (i + 5)), vI (h.X (i + 6)), vI (h.X (i + 7))] from ok_ask) h J
  refine ⟨h2, u5, u6, ?_, J2, s⟩
  rw [E_L_law_54, Z_wI (z := i + 1) (by omega), Z_wI (z := i + 2) (by omega), Z_wI (z := i + 3) (by omega), Z_wI (z := i + 4) (by omega), Z_wI (z := i + 5) (by omega), Z_wI (z := i + 6) (by omega), Z_wI (z := i + 7) (by omega), gd_t (by omega), gd_t (by omega), gd_t (by omega), gd_t (by omega), gd_t (by omega), gd_t (by omega), gd_t (by omega), gd_t (show (1 : Int) ≠ 0 by decide), r1, Z_bI, E_L_law_55, x1, Z_wI (z := i + 1) (by omega), Z_wI (z := i + 2) (by omega), Z_wI (z := i + 3) (by omega), Z_wI (z := i + 4) (by omega), Z_wI (z := i + 5) (by omega), Z_wI (z := i + 6) (by omega), Z_wI (z := i + 7) (by omega), gd_t (by omega), gd_t (by omega), gd_t (by omega), gd_t (by omega), gd_t (by omega), gd_t (by omega), gd_t (by omega), gd_t (show (9 : Int) ≠ 0 by decide), r2, Z_bI, E_L_law_56, if_pos rfl]
theorem lw_58 {h : mH} (J : IV h) {i : Int} (b0 : 0 ≤ i) (b1 : i + 8 ≤ h.X (-1)) (b2 : h.X (-1) ≤ 4096) (hI : ∀ j, inI (h.X j)) (u5 u6 : mV) : LWS h i 58 u5 u6 := by
  obtain ⟨v, h1, h2, r1, r2, J2, s, x1⟩ := (show okc kX_asked kM_asked [vI (h.X (i + 1)), vI (h.X (i + 2))] from ok_asked) h J
  refine ⟨h2, u5, u6, ?_, J2, s⟩
  rw [E_L_law_58, Z_wI (z := i + 1) (by omega), Z_wI (z := i + 2) (by omega), gd_t (by omega), gd_t (by omega), gd_t (show (1 : Int) ≠ 0 by decide), r1, Z_bI, E_L_law_59, x1, Z_wI (z := i + 1) (by omega), Z_wI (z := i + 2) (by omega), gd_t (by omega), gd_t (by omega), gd_t (show (9 : Int) ≠ 0 by decide), r2, Z_bI, E_L_law_60, if_pos rfl]
theorem lw_62 {h : mH} (J : IV h) {i : Int} (b0 : 0 ≤ i) (b1 : i + 8 ≤ h.X (-1)) (b2 : h.X (-1) ≤ 4096) (hI : ∀ j, inI (h.X j)) (u5 u6 : mV) : LWS h i 62 u5 u6 := by
  obtain ⟨v, h1, h2, r1, r2, J2, s, x1⟩ := (show okc kX_fits kM_fits [vI (h.X (i + 1))] from ok_fits) h J
  refine ⟨h2, u5, u6, ?_, J2, s⟩
  rw [E_L_law_62, Z_wI (z := i + 1) (by omega), gd_t (by omega), gd_t (show (1 : Int) ≠ 0 by decide), r1, Z_bI, E_L_law_63, x1, Z_wI (z := i + 1) (by omega), gd_t (by omega), gd_t (show (9 : Int) ≠ 0 by decide), r2, Z_bI, E_L_law_64, if_pos rfl]
theorem lw_66 {h : mH} (J : IV h) {i : Int} (b0 : 0 ≤ i) (b1 : i + 8 ≤ h.X (-1)) (b2 : h.X (-1) ≤ 4096) (hI : ∀ j, inI (h.X j)) (u5 u6 : mV) : LWS h i 66 u5 u6 := by
  obtain ⟨v, h1, h2, r1, r2, J2, s, x1⟩ := (show okc kX_so kM_so [vI (h.X (i + 1)), vI (h.X (i + 2))] from ok_so) h J
  refine ⟨h2, u5, u6, ?_, J2, s⟩
  rw [E_L_law_66, Z_wI (z := i + 1) (by omega), Z_wI (z := i + 2) (by omega), gd_t (by omega), gd_t (by omega), gd_t (show (1 : Int) ≠ 0 by decide), r1, Z_bI, E_L_law_67, x1, Z_wI (z := i + 1) (by omega), Z_wI (z := i + 2) (by omega), gd_t (by omega), gd_t (by omega), gd_t (show (9 : Int) ≠ 0 by decide), r2, Z_bI, E_L_law_68, if_pos rfl]
theorem lw_70 {h : mH} (J : IV h) {i : Int} (b0 : 0 ≤ i) (b1 : i + 8 ≤ h.X (-1)) (b2 : h.X (-1) ≤ 4096) (hI : ∀ j, inI (h.X j)) (u5 u6 : mV) : LWS h i 70 u5 u6 := by
  obtain ⟨v, h1, h2, r1, r2, J2, s, x1⟩ := (show okc kX_further kM_further [vI (h.X (i + 1))] from ok_further) h J
  refine ⟨h2, u5, u6, ?_, J2, s⟩
  rw [E_L_law_70, Z_wI (z := i + 1) (by omega), gd_t (by omega), gd_t (show (1 : Int) ≠ 0 by decide), r1, Z_bI, E_L_law_71, x1, Z_wI (z := i + 1) (by omega), gd_t (by omega), gd_t (show (9 : Int) ≠ 0 by decide), r2, Z_bI, E_L_law_72, if_pos rfl]
theorem lw_74 {h : mH} (J : IV h) {i : Int} (b0 : 0 ≤ i) (b1 : i + 8 ≤ h.X (-1)) (b2 : h.X (-1) ≤ 4096) (hI : ∀ j, inI (h.X j)) (u5 u6 : mV) : LWS h i 74 u5 u6 := by
  obtain ⟨v, h1, h2, r1, r2, J2, s, x1⟩ := (show okc kX_lived kM_lived [vI (h.X (i + 1))] from ok_lived) h J
  refine ⟨h2, u5, u6, ?_, J2, s⟩
  rw [E_L_law_74, Z_wI (z := i + 1) (by omega), gd_t (by omega), gd_t (show (1 : Int) ≠ 0 by decide), r1, Z_bI, E_L_law_75, x1, Z_wI (z := i + 1) (by omega), gd_t (by omega), gd_t (show (9 : Int) ≠ 0 by decide), r2, Z_bI, E_L_law_76, if_pos rfl]
theorem lw_78 {h : mH} (J : IV h) {i : Int} (b0 : 0 ≤ i) (b1 : i + 8 ≤ h.X (-1)) (b2 : h.X (-1) ≤ 4096) (hI : ∀ j, inI (h.X j)) (u5 u6 : mV) : LWS h i 78 u5 u6 := by
  obtain ⟨v, h1, h2, r1, r2, J2, s, x1⟩ := (show okc kX_after kM_after [vI (h.X (i + 1))] from ok_after) h J
  refine ⟨h2, u5, u6, ?_, J2, s⟩
  rw [E_L_law_78, Z_wI (z := i + 1) (by omega), gd_t (by omega), gd_t (show (1 : Int) ≠ 0 by decide), r1, Z_bI, E_L_law_79, x1, Z_wI (z := i + 1) (by omega), gd_t (by omega), gd_t (show (9 : Int) ≠ 0 by decide), r2, Z_bI, E_L_law_80, if_pos rfl]
theorem lw_82 {h : mH} (J : IV h) {i : Int} (b0 : 0 ≤ i) (b1 : i + 8 ≤ h.X (-1)) (b2 : h.X (-1) ≤ 4096) (hI : ∀ j, inI (h.X j)) (u5 u6 : mV) : LWS h i 82 u5 u6 := by
  obtain ⟨v, h1, h2, r1, r2, J2, s, x1⟩ := (show okc kX_learnt kM_learnt [vI (h.X (i + 1)), vI (h.X (i + 2)), vI (h.X (i + 3)), vI (h.X (i + 4))] from ok_learnt) h J
  refine ⟨h2, u5, u6, ?_, J2, s⟩
  rw [E_L_law_82, Z_wI (z := i + 1) (by omega), Z_wI (z := i + 2) (by omega), Z_wI (z := i + 3) (by omega), Z_wI (z := i + 4) (by omega), gd_t (by omega), gd_t (by omega), gd_t (by omega), gd_t (by omega), gd_t (show (1 : Int) ≠ 0 by decide), r1, Z_bI, E_L_law_83, x1, Z_wI (z := i + 1) (by omega), Z_wI (z := i + 2) (by omega), Z_wI (z := i + 3) (by omega), Z_wI (z := i + 4) (by omega), gd_t (by omega), gd_t (by omega), gd_t (by omega), gd_t (by omega), gd_t (show (9 : Int) ≠ 0 by decide), r2, Z_bI, E_L_law_84, if_pos rfl]
theorem lw_86 {h : mH} (J : IV h) {i : Int} (b0 : 0 ≤ i) (b1 : i + 8 ≤ h.X (-1)) (b2 : h.X (-1) ≤ 4096) (hI : ∀ j, inI (h.X j)) (u5 u6 : mV) : LWS h i 86 u5 u6 := by
  obtain ⟨v, h1, h2, r1, r2, J2, s, x1⟩ := (show okc kX_weigh kM_weigh [vI (h.X (i + 1)), vI (h.X (i + 2))] from ok_weigh) h J
  refine ⟨h2, u5, u6, ?_, J2, s⟩
  rw [E_L_law_86, Z_wI (z := i + 1) (by omega), Z_wI (z := i + 2) (by omega), gd_t (by omega), gd_t (by omega), gd_t (show (1 : Int) ≠ 0 by decide), r1, Z_bI, E_L_law_87, x1, Z_wI (z := i + 1) (by omega), Z_wI (z := i + 2) (by omega), gd_t (by omega), gd_t (by omega), gd_t (show (9 : Int) ≠ 0 by decide), r2, Z_bI, E_L_law_88, if_pos rfl]
theorem lw_90 {h : mH} (J : IV h) {i : Int} (b0 : 0 ≤ i) (b1 : i + 8 ≤ h.X (-1)) (b2 : h.X (-1) ≤ 4096) (hI : ∀ j, inI (h.X j)) (u5 u6 : mV) : LWS h i 90 u5 u6 := by
  obtain ⟨v, h1, h2, r1, r2, J2, s, x1⟩ := (show okc kX_odds kM_odds [vI (h.X (i + 1)), vI (h.X (i + 2))] from ok_odds) h J
  refine ⟨h2, u5, u6, ?_, J2, s⟩
  rw [E_L_law_90, Z_wI (z := i + 1) (by omega), Z_wI (z := i + 2) (by omega), gd_t (by omega), gd_t (by omega), gd_t (show (1 : Int) ≠ 0 by decide), r1, Z_bI, E_L_law_91, x1, Z_wI (z := i + 1) (by omega), Z_wI (z := i + 2) (by omega), gd_t (by omega), gd_t (by omega), gd_t (show (9 : Int) ≠ 0 by decide), r2, Z_bI, E_L_law_92, if_pos rfl]
theorem lw_94 {h : mH} (J : IV h) {i : Int} (b0 : 0 ≤ i) (b1 : i + 8 ≤ h.X (-1)) (b2 : h.X (-1) ≤ 4096) (hI : ∀ j, inI (h.X j)) (u5 u6 : mV) : LWS h i 94 u5 u6 := by
  obtain ⟨v, h1, h2, r1, r2, J2, s, x1⟩ := (show okc kX_plan kM_plan [vI (h.X (i + 1)), vI (h.X (i + 2)), vI (h.X (i + 3)), vI (h.X (i + 4))] from ok_plan) h J
  refine ⟨h2, u5, u6, ?_, J2, s⟩
  rw [E_L_law_94, Z_wI (z := i + 1) (by omega), Z_wI (z := i + 2) (by omega), Z_wI (z := i + 3) (by omega), Z_wI (z := i + 4) (by omega), gd_t (by omega), gd_t (by omega), gd_t (by omega), gd_t (by omega), gd_t (show (1 : Int) ≠ 0 by decide), r1, Z_bI, E_L_law_95, x1, Z_wI (z := i + 1) (by omega), Z_wI (z := i + 2) (by omega), Z_wI (z := i + 3) (by omega), Z_wI (z := i + 4) (by omega), gd_t (by omega), gd_t (by omega), gd_t (by omega), gd_t (by omega), gd_t (show (9 : Int) ≠ 0 by decide), r2, Z_bI, E_L_law_96, if_pos rfl]
theorem lw_98 {h : mH} (J : IV h) {i : Int} (b0 : 0 ≤ i) (b1 : i + 8 ≤ h.X (-1)) (b2 : h.X (-1) ≤ 4096) (hI : ∀ j, inI (h.X j)) (u5 u6 : mV) : LWS h i 98 u5 u6 := by
  obtain ⟨v, h1, h2, r1, r2, J2, s, x1⟩ := (show okc kX_parted kM_parted [vI (h.X (i + 1)), vI (h.X (i + 2))] from ok_parted (hI (i + 2))) h J
  refine ⟨h2, u5, u6, ?_, J2, s⟩
  rw [E_L_law_98, Z_wI (z := i + 1) (by omega), Z_wI (z := i + 2) (by omega), gd_t (by omega), gd_t (by omega), gd_t (show (1 : Int) ≠ 0 by decide), r1, Z_bI, E_L_law_99, x1, Z_wI (z := i + 1) (by omega), Z_wI (z := i + 2) (by omega), gd_t (by omega), gd_t (by omega), gd_t (show (9 : Int) ≠ 0 by decide), r2, Z_bI, E_L_law_100, if_pos rfl]
theorem lw_102 {h : mH} (J : IV h) {i : Int} (b0 : 0 ≤ i) (b1 : i + 8 ≤ h.X (-1)) (b2 : h.X (-1) ≤ 4096) (hI : ∀ j, inI (h.X j)) (u5 u6 : mV) : LWS h i 102 u5 u6 := by
  obtain ⟨v, h1, h2, r1, r2, J2, s, x1⟩ := (show okc kX_next kM_next [vI (h.X (i + 1))] from ok_next (hI (i + 1))) h J
  refine ⟨h2, u5, u6, ?_, J2, s⟩
  rw [E_L_law_102, Z_wI (z := i + 1) (by omega), gd_t (by omega), gd_t (show (1 : Int) ≠ 0 by decide), r1, Z_bI, E_L_law_103, x1, Z_wI (z := i + 1) (by omega), gd_t (by omega), gd_t (show (9 : Int) ≠ 0 by decide), r2, Z_bI, E_L_law_104, if_pos rfl]
theorem lw_106 {h : mH} (J : IV h) {i : Int} (b0 : 0 ≤ i) (b1 : i + 8 ≤ h.X (-1)) (b2 : h.X (-1) ≤ 4096) (hI : ∀ j, inI (h.X j)) (u5 u6 : mV) : LWS h i 106 u5 u6 := by
  obtain ⟨v, h1, h2, r1, r2, J2, s, x1⟩ := (show okc kX_part kM_part [vI (h.X (i + 1)), vI (h.X (i + 2)), vI (h.X (i + 3)), vI (h.X (i + 4)), vI (h.X (i + 5))] from ok_part) h J
  refine ⟨h2, u5, u6, ?_, J2, s⟩
  rw [E_L_law_106, Z_wI (z := i + 1) (by omega), Z_wI (z := i + 2) (by omega), Z_wI (z := i + 3) (by omega), Z_wI (z := i + 4) (by omega), Z_wI (z := i + 5) (by omega), gd_t (by omega), gd_t (by omega), gd_t (by omega), gd_t (by omega), gd_t (by omega), gd_t (show (1 : Int) ≠ 0 by decide), r1, Z_bI, E_L_law_107, x1, Z_wI (z := i + 1) (by omega), Z_wI (z := i + 2) (by omega), Z_wI (z := i + 3) (by omega), Z_wI (z := i + 4) (by omega), Z_wI (z := i + 5) (by omega), gd_t (by omega), gd_t (by omega), gd_t (by omega), gd_t (by omega), gd_t (by omega), gd_t (show (9 : Int) ≠ 0 by decide), r2, Z_bI, E_L_law_108, if_pos rfl]
theorem lw_110 {h : mH} (J : IV h) {i : Int} (b0 : 0 ≤ i) (b1 : i + 8 ≤ h.X (-1)) (b2 : h.X (-1) ≤ 4096) (hI : ∀ j, inI (h.X j)) (u5 u6 : mV) (LE : LEAST) : LWS h i 110 u5 u6 := by
  obtain ⟨v, h1, h2, r1, r2, J2, s, x1⟩ := (LE (h.X (i + 1)) (h.X (i + 2)) (h.X (i + 3)) (h.X (i + 4)) (h.X (i + 5))) h J
  refine ⟨h2, u5, u6, ?_, J2, s⟩
  rw [E_L_law_110, Z_wI (z := i + 1) (by omega), Z_wI (z := i + 2) (by omega), Z_wI (z := i + 3) (by omega), Z_wI (z := i + 4) (by omega), Z_wI (z := i + 5) (by omega), gd_t (by omega), gd_t (by omega), gd_t (by omega), gd_t (by omega), gd_t (by omega), gd_t (show (1 : Int) ≠ 0 by decide), r1, Z_bI, E_L_law_111, x1, Z_wI (z := i + 1) (by omega), Z_wI (z := i + 2) (by omega), Z_wI (z := i + 3) (by omega), Z_wI (z := i + 4) (by omega), Z_wI (z := i + 5) (by omega), gd_t (by omega), gd_t (by omega), gd_t (by omega), gd_t (by omega), gd_t (by omega), gd_t (show (9 : Int) ≠ 0 by decide), r2, Z_bI, E_L_law_112, if_pos rfl]
theorem lw_114 {h : mH} (J : IV h) {i : Int} (b0 : 0 ≤ i) (b1 : i + 8 ≤ h.X (-1)) (b2 : h.X (-1) ≤ 4096) (hI : ∀ j, inI (h.X j)) (u5 u6 : mV) : LWS h i 114 u5 u6 := by
  obtain ⟨v, h1, h2, r1, r2, J2, s, x1⟩ := (show okc kX_like kM_like [vI (h.X (i + 1)), vI (h.X (i + 2)), vI (h.X (i + 3))] from ok_like (hI (i + 3))) h J
  refine ⟨h2, u5, u6, ?_, J2, s⟩
  rw [E_L_law_114, Z_wI (z := i + 1) (by omega), Z_wI (z := i + 2) (by omega), Z_wI (z := i + 3) (by omega), gd_t (by omega), gd_t (by omega), gd_t (by omega), gd_t (show (1 : Int) ≠ 0 by decide), r1, Z_bI, E_L_law_115, x1, Z_wI (z := i + 1) (by omega), Z_wI (z := i + 2) (by omega), Z_wI (z := i + 3) (by omega), gd_t (by omega), gd_t (by omega), gd_t (by omega), gd_t (show (9 : Int) ≠ 0 by decide), r2, Z_bI, E_L_law_116, if_pos rfl]
theorem lw_118 {h : mH} (J : IV h) {i : Int} (b0 : 0 ≤ i) (b1 : i + 8 ≤ h.X (-1)) (b2 : h.X (-1) ≤ 4096) (hI : ∀ j, inI (h.X j)) (u5 u6 : mV) : LWS h i 118 u5 u6 := by
  obtain ⟨v, h1, h2, r1, r2, J2, s, x1⟩ := (show okc kX_thirteenths kM_thirteenths [vI (h.X (i + 1)), vI (h.X (i + 2)), vI (h.X (i + 3)), vI (h.X (i + 4))] from ok_thirteenths) h J
  refine ⟨h2, u5, u6, ?_, J2, s⟩
  rw [E_L_law_118, Z_wI (z := i + 1) (by omega), Z_wI (z := i + 2) (by omega), Z_wI (z := i + 3) (by omega), Z_wI (z := i + 4) (by omega), gd_t (by omega), gd_t (by omega), gd_t (by omega), gd_t (by omega), gd_t (show (1 : Int) ≠ 0 by decide), r1, Z_bI, E_L_law_119, x1, Z_wI (z := i + 1) (by omega), Z_wI (z := i + 2) (by omega), Z_wI (z := i + 3) (by omega), Z_wI (z := i + 4) (by omega), gd_t (by omega), gd_t (by omega), gd_t (by omega), gd_t (by omega), gd_t (show (9 : Int) ≠ 0 by decide), r2, Z_bI, E_L_law_120, if_pos rfl]
theorem lw_122 {h : mH} (J : IV h) {i : Int} (b0 : 0 ≤ i) (b1 : i + 8 ≤ h.X (-1)) (b2 : h.X (-1) ≤ 4096) (hI : ∀ j, inI (h.X j)) (u5 u6 : mV) : LWS h i 122 u5 u6 := by
  obtain ⟨v, h1, h2, r1, r2, J2, s, x1⟩ := (show okc kX_mates kM_mates [vI (h.X (i + 1)), vI (h.X (i + 2)), vI (h.X (i + 3))] from ok_mates) h J
  refine ⟨h2, u5, u6, ?_, J2, s⟩
  rw [E_L_law_122, Z_wI (z := i + 1) (by omega), Z_wI (z := i + 2) (by omega), Z_wI (z := i + 3) (by omega), gd_t (by omega), gd_t (by omega), gd_t (by omega), gd_t (show (1 : Int) ≠ 0 by decide), r1, Z_bI, E_L_law_123, x1, Z_wI (z := i + 1) (by omega), Z_wI (z := i + 2) (by omega), Z_wI (z := i + 3) (by omega), gd_t (by omega), gd_t (by omega), gd_t (by omega), gd_t (show (9 : Int) ≠ 0 by decide), r2, Z_bI, E_L_law_124, if_pos rfl]
theorem lw_126 {h : mH} (J : IV h) {i : Int} (b0 : 0 ≤ i) (b1 : i + 8 ≤ h.X (-1)) (b2 : h.X (-1) ≤ 4096) (hI : ∀ j, inI (h.X j)) (u5 u6 : mV) : LWS h i 126 u5 u6 := by
  obtain ⟨v, h1, h2, r1, r2, J2, s, x1⟩ := (show okc kX_born kM_born [vI (h.X (i + 1)), vI (h.X (i + 2)), vI (h.X (i + 3)), vI (h.X (i + 4))] from ok_born) h J
  refine ⟨h2, u5, u6, ?_, J2, s⟩
  rw [E_L_law_126, Z_wI (z := i + 1) (by omega), Z_wI (z := i + 2) (by omega), Z_wI (z := i + 3) (by omega), Z_wI (z := i + 4) (by omega), gd_t (by omega), gd_t (by omega), gd_t (by omega), gd_t (by omega), gd_t (show (1 : Int) ≠ 0 by decide), r1, Z_bI, E_L_law_127, x1, Z_wI (z := i + 1) (by omega), Z_wI (z := i + 2) (by omega), Z_wI (z := i + 3) (by omega), Z_wI (z := i + 4) (by omega), gd_t (by omega), gd_t (by omega), gd_t (by omega), gd_t (by omega), gd_t (show (9 : Int) ≠ 0 by decide), r2, Z_bI, E_L_law_128, if_pos rfl]
theorem lw_130 {h : mH} (J : IV h) {i : Int} (b0 : 0 ≤ i) (b1 : i + 8 ≤ h.X (-1)) (b2 : h.X (-1) ≤ 4096) (hI : ∀ j, inI (h.X j)) (u5 u6 : mV) : LWS h i 130 u5 u6 := by
  obtain ⟨v, h1, h2, r1, r2, J2, s, x1⟩ := (show okc kX_age kM_age [vI (h.X (i + 1)), vI (h.X (i + 2)), vI (h.X (i + 3)), vI (h.X (i + 4))] from ok_age) h J
  refine ⟨h2, u5, u6, ?_, J2, s⟩
  rw [E_L_law_130, Z_wI (z := i + 1) (by omega), Z_wI (z := i + 2) (by omega), Z_wI (z := i + 3) (by omega), Z_wI (z := i + 4) (by omega), gd_t (by omega), gd_t (by omega), gd_t (by omega), gd_t (by omega), gd_t (show (1 : Int) ≠ 0 by decide), r1, Z_bI, E_L_law_131, x1, Z_wI (z := i + 1) (by omega), Z_wI (z := i + 2) (by omega), Z_wI (z := i + 3) (by omega), Z_wI (z := i + 4) (by omega), gd_t (by omega), gd_t (by omega), gd_t (by omega), gd_t (by omega), gd_t (show (9 : Int) ≠ 0 by decide), r2, Z_bI, E_L_law_132, if_pos rfl]
theorem lw_134 {h : mH} (J : IV h) {i : Int} (b0 : 0 ≤ i) (b1 : i + 8 ≤ h.X (-1)) (b2 : h.X (-1) ≤ 4096) (hI : ∀ j, inI (h.X j)) (u5 u6 : mV) : LWS h i 134 u5 u6 := by
  obtain ⟨v, h1, h2, r1, r2, J2, s, x1⟩ := (show okc kX_event kM_event [vI (h.X (i + 1)), vI (h.X (i + 2)), vI (h.X (i + 3)), vI (h.X (i + 4)), vI (h.X (i + 5))] from ok_event) h J
  refine ⟨h2, u5, u6, ?_, J2, s⟩
  rw [E_L_law_134, Z_wI (z := i + 1) (by omega), Z_wI (z := i + 2) (by omega), Z_wI (z := i + 3) (by omega), Z_wI (z := i + 4) (by omega), Z_wI (z := i + 5) (by omega), gd_t (by omega), gd_t (by omega), gd_t (by omega), gd_t (by omega), gd_t (by omega), gd_t (show (1 : Int) ≠ 0 by decide), r1, Z_bI, E_L_law_135, x1, Z_wI (z := i + 1) (by omega), Z_wI (z := i + 2) (by omega), Z_wI (z := i + 3) (by omega), Z_wI (z := i + 4) (by omega), Z_wI (z := i + 5) (by omega), gd_t (by omega), gd_t (by omega), gd_t (by omega), gd_t (by omega), gd_t (by omega), gd_t (show (9 : Int) ≠ 0 by decide), r2, Z_bI, E_L_law_136, if_pos rfl]
theorem lw_138 {h : mH} (J : IV h) {i : Int} (b0 : 0 ≤ i) (b1 : i + 8 ≤ h.X (-1)) (b2 : h.X (-1) ≤ 4096) (hI : ∀ j, inI (h.X j)) (u5 u6 : mV) : LWS h i 138 u5 u6 := by
  obtain ⟨v, h1, h2, r1, r2, J2, s, x1⟩ := (show okc kX_held kM_held [vI (h.X (i + 1)), vI (h.X (i + 2)), vI (h.X (i + 3)), vI (h.X (i + 4))] from ok_held) h J
  refine ⟨h2, u5, u6, ?_, J2, s⟩
  rw [E_L_law_138, Z_wI (z := i + 1) (by omega), Z_wI (z := i + 2) (by omega), Z_wI (z := i + 3) (by omega), Z_wI (z := i + 4) (by omega), gd_t (by omega), gd_t (by omega), gd_t (by omega), gd_t (by omega), gd_t (show (1 : Int) ≠ 0 by decide), r1, Z_bI, E_L_law_139, x1, Z_wI (z := i + 1) (by omega), Z_wI (z := i + 2) (by omega), Z_wI (z := i + 3) (by omega), Z_wI (z := i + 4) (by omega), gd_t (by omega), gd_t (by omega), gd_t (by omega), gd_t (by omega), gd_t (show (9 : Int) ≠ 0 by decide), r2, Z_bI, E_L_law_140, if_pos rfl]
theorem lw_142 {h : mH} (J : IV h) {i : Int} (b0 : 0 ≤ i) (b1 : i + 8 ≤ h.X (-1)) (b2 : h.X (-1) ≤ 4096) (hI : ∀ j, inI (h.X j)) (u5 u6 : mV) : LWS h i 142 u5 u6 := by
  obtain ⟨v, h1, h2, r1, r2, J2, s, x1⟩ := (show okc kX_spell kM_spell [vI (h.X (i + 1))] from ok_spell) h J
  refine ⟨h2, u5, u6, ?_, J2, s⟩
  rw [E_L_law_142, Z_wI (z := i + 1) (by omega), gd_t (by omega), gd_t (show (1 : Int) ≠ 0 by decide), r1, Z_bI, E_L_law_143, x1, Z_wI (z := i + 1) (by omega), gd_t (by omega), gd_t (show (9 : Int) ≠ 0 by decide), r2, Z_bI, E_L_law_144, if_pos rfl]
theorem lw_146 {h : mH} (J : IV h) {i : Int} (b0 : 0 ≤ i) (b1 : i + 8 ≤ h.X (-1)) (b2 : h.X (-1) ≤ 4096) (hI : ∀ j, inI (h.X j)) (u5 u6 : mV) : LWS h i 146 u5 u6 := by
  obtain ⟨v, h1, h2, r1, r2, J2, s, x1⟩ := (show okc kX_keep kM_keep [] from ok_keep) h J
  refine ⟨h2, u5, u6, ?_, J2, s⟩
  rw [E_L_law_146, gd_t (show (1 : Int) ≠ 0 by decide), r1, Z_bI, E_L_law_147, gd_t (show (9 : Int) ≠ 0 by decide), r2, Z_bI, E_L_law_148, if_pos rfl]
theorem lw_150 {h : mH} (J : IV h) {i : Int} (b0 : 0 ≤ i) (b1 : i + 8 ≤ h.X (-1)) (b2 : h.X (-1) ≤ 4096) (hI : ∀ j, inI (h.X j)) (u5 u6 : mV) : LWS h i 150 u5 u6 := by
  obtain ⟨v, h1, h2, r1, r2, J2, s, x1⟩ := (show okc kX_back kM_back [] from ok_back) h J
  refine ⟨h2, u5, u6, ?_, J2, s⟩
  rw [E_L_law_150, gd_t (show (1 : Int) ≠ 0 by decide), r1, Z_bI, E_L_law_151, gd_t (show (9 : Int) ≠ 0 by decide), r2, Z_bI, E_L_law_152, if_pos rfl]
theorem lw_154 {h : mH} (J : IV h) {i : Int} (b0 : 0 ≤ i) (b1 : i + 8 ≤ h.X (-1)) (b2 : h.X (-1) ≤ 4096) (hI : ∀ j, inI (h.X j)) (u5 u6 : mV) : LWS h i 154 u5 u6 := by
  obtain ⟨v, h1, h2, r1, r2, J2, s, x1⟩ := (show okc kX_row kM_row [vI (h.X (i + 1)), vI (h.X (i + 2)), vI (h.X (i + 3))] from ok_row) h J
  refine ⟨h2, u5, u6, ?_, J2, s⟩
  rw [E_L_law_154, Z_wI (z := i + 1) (by omega), Z_wI (z := i + 2) (by omega), Z_wI (z := i + 3) (by omega), gd_t (by omega), gd_t (by omega), gd_t (by omega), gd_t (show (1 : Int) ≠ 0 by decide), r1, Z_bI, E_L_law_155, x1, Z_wI (z := i + 1) (by omega), Z_wI (z := i + 2) (by omega), Z_wI (z := i + 3) (by omega), gd_t (by omega), gd_t (by omega), gd_t (by omega), gd_t (show (9 : Int) ≠ 0 by decide), r2, Z_bI, E_L_law_156, if_pos rfl]
theorem lw_158 {h : mH} (J : IV h) {i : Int} (b0 : 0 ≤ i) (b1 : i + 8 ≤ h.X (-1)) (b2 : h.X (-1) ≤ 4096) (hI : ∀ j, inI (h.X j)) (u5 u6 : mV) : LWS h i 158 u5 u6 := by
  obtain ⟨v, h1, h2, r1, r2, J2, s, x1⟩ := (show okc kX_run kM_run [vI (h.X (i + 1)), vL (lor64 (lshl64 (h.X (i + 2)) 32) (land64 (h.X (i + 3)) 4294967295)), vI (h.X (i + 4)), vI (h.X (i + 5)), vI (h.X (i + 6))] from ok_run) h J
  refine ⟨h2, u5, u6, ?_, J2, s⟩
  rw [E_L_law_158, Z_wI (z := i + 1) (by omega), Z_wI (z := i + 2) (by omega), Z_wI (z := i + 3) (by omega), Z_wI (z := i + 4) (by omega), Z_wI (z := i + 5) (by omega), Z_wI (z := i + 6) (by omega), gd_t (by omega), gd_t (by omega), gd_t (by omega), gd_t (by omega), gd_t (by omega), gd_t (by omega), gd_t (show (1 : Int) ≠ 0 by decide), r1, Z_bI, E_L_law_159, x1, Z_wI (z := i + 1) (by omega), Z_wI (z := i + 2) (by omega), Z_wI (z := i + 3) (by omega), Z_wI (z := i + 4) (by omega), Z_wI (z := i + 5) (by omega), Z_wI (z := i + 6) (by omega), gd_t (by omega), gd_t (by omega), gd_t (by omega), gd_t (by omega), gd_t (by omega), gd_t (by omega), gd_t (show (9 : Int) ≠ 0 by decide), r2, Z_bI, E_L_law_160, if_pos rfl]
theorem lw_162 {h : mH} (J : IV h) {i : Int} (b0 : 0 ≤ i) (b1 : i + 8 ≤ h.X (-1)) (b2 : h.X (-1) ≤ 4096) (hI : ∀ j, inI (h.X j)) (u5 u6 : mV) : LWS h i 162 u5 u6 := by
  obtain ⟨v, h1, h2, r1, r2, J2, s, x1⟩ := (show okc kX_holds kM_holds [vI (h.X (i + 1)), vI (h.X (i + 2)), vI (h.X (i + 3)), vI (h.X (i + 4)), vI (h.X (i + 5)), vI (h.X (i + 6))] from ok_holds) h J
  refine ⟨h2, u5, u6, ?_, J2, s⟩
  rw [E_L_law_162, Z_wI (z := i + 1) (by omega), Z_wI (z := i + 2) (by omega), Z_wI (z := i + 3) (by omega), Z_wI (z := i + 4) (by omega), Z_wI (z := i + 5) (by omega), Z_wI (z := i + 6) (by omega), gd_t (by omega), gd_t (by omega), gd_t (by omega), gd_t (by omega), gd_t (by omega), gd_t (by omega), gd_t (show (1 : Int) ≠ 0 by decide), r1, Z_bI, E_L_law_163, x1, Z_wI (z := i + 1) (by omega), Z_wI (z := i + 2) (by omega), Z_wI (z := i + 3) (by omega), Z_wI (z := i + 4) (by omega), Z_wI (z := i + 5) (by omega), Z_wI (z := i + 6) (by omega), gd_t (by omega), gd_t (by omega), gd_t (by omega), gd_t (by omega), gd_t (by omega), gd_t (by omega), gd_t (show (9 : Int) ≠ 0 by decide), r2, Z_bI, E_L_law_164, if_pos rfl]
theorem lw_166 {h : mH} (J : IV h) {i : Int} (b0 : 0 ≤ i) (b1 : i + 8 ≤ h.X (-1)) (b2 : h.X (-1) ≤ 4096) (hI : ∀ j, inI (h.X j)) (u5 u6 : mV) : LWS h i 166 u5 u6 := by
  obtain ⟨v, h1, h2, r1, r2, J2, s, x1⟩ := (show okc kX_right kM_right [vI (h.X (i + 1)), vI (h.X (i + 2)), vI (h.X (i + 3)), vI (h.X (i + 4))] from ok_right) h J
  refine ⟨h2, u5, u6, ?_, J2, s⟩
  rw [E_L_law_166, Z_wI (z := i + 1) (by omega), Z_wI (z := i + 2) (by omega), Z_wI (z := i + 3) (by omega), Z_wI (z := i + 4) (by omega), gd_t (by omega), gd_t (by omega), gd_t (by omega), gd_t (by omega), gd_t (show (1 : Int) ≠ 0 by decide), r1, Z_bI, E_L_law_167, x1, Z_wI (z := i + 1) (by omega), Z_wI (z := i + 2) (by omega), Z_wI (z := i + 3) (by omega), Z_wI (z := i + 4) (by omega), gd_t (by omega), gd_t (by omega), gd_t (by omega), gd_t (by omega), gd_t (show (9 : Int) ≠ 0 by decide), r2, Z_bI, E_L_law_168, if_pos rfl]
theorem lw_170 {h : mH} (J : IV h) {i : Int} (b0 : 0 ≤ i) (b1 : i + 8 ≤ h.X (-1)) (b2 : h.X (-1) ≤ 4096) (hI : ∀ j, inI (h.X j)) (u5 u6 : mV) : LWS h i 170 u5 u6 := by
  obtain ⟨v, h1, h2, r1, r2, J2, s, x1⟩ := (show okc kX_lacks kM_lacks [vI (h.X (i + 1)), vI (h.X (i + 2)), vI (h.X (i + 3)), vI (h.X (i + 4))] from ok_lacks) h J
  refine ⟨h2, u5, u6, ?_, J2, s⟩
  rw [E_L_law_170, Z_wI (z := i + 1) (by omega), Z_wI (z := i + 2) (by omega), Z_wI (z := i + 3) (by omega), Z_wI (z := i + 4) (by omega), gd_t (by omega), gd_t (by omega), gd_t (by omega), gd_t (by omega), gd_t (show (1 : Int) ≠ 0 by decide), r1, Z_bI, E_L_law_171, x1, Z_wI (z := i + 1) (by omega), Z_wI (z := i + 2) (by omega), Z_wI (z := i + 3) (by omega), Z_wI (z := i + 4) (by omega), gd_t (by omega), gd_t (by omega), gd_t (by omega), gd_t (by omega), gd_t (show (9 : Int) ≠ 0 by decide), r2, Z_bI, E_L_law_172, if_pos rfl]
theorem lw_174 {h : mH} (J : IV h) {i : Int} (b0 : 0 ≤ i) (b1 : i + 8 ≤ h.X (-1)) (b2 : h.X (-1) ≤ 4096) (hI : ∀ j, inI (h.X j)) (u5 u6 : mV) : LWS h i 174 u5 u6 := by
  obtain ⟨v, h1, h2, r1, r2, J2, s, x1⟩ := (show okc kX_spare kM_spare [vI (h.X (i + 1)), vI (h.X (i + 2))] from ok_spare) h J
  refine ⟨h2, u5, u6, ?_, J2, s⟩
  rw [E_L_law_174, Z_wI (z := i + 1) (by omega), Z_wI (z := i + 2) (by omega), gd_t (by omega), gd_t (by omega), gd_t (show (1 : Int) ≠ 0 by decide), r1, Z_bI, E_L_law_175, x1, Z_wI (z := i + 1) (by omega), Z_wI (z := i + 2) (by omega), gd_t (by omega), gd_t (by omega), gd_t (show (9 : Int) ≠ 0 by decide), r2, Z_bI, E_L_law_176, if_pos rfl]
theorem lw_178 {h : mH} (J : IV h) {i : Int} (b0 : 0 ≤ i) (b1 : i + 8 ≤ h.X (-1)) (b2 : h.X (-1) ≤ 4096) (hI : ∀ j, inI (h.X j)) (u5 u6 : mV) : LWS h i 178 u5 u6 := by
  obtain ⟨v, h1, h2, r1, r2, J2, s, x1⟩ := (show okc kX_unlike kM_unlike [vI (h.X (i + 1)), vI (h.X (i + 2)), vI (h.X (i + 3))] from ok_unlike) h J
  refine ⟨h2, u5, u6, ?_, J2, s⟩
  rw [E_L_law_178, Z_wI (z := i + 1) (by omega), Z_wI (z := i + 2) (by omega), Z_wI (z := i + 3) (by omega), gd_t (by omega), gd_t (by omega), gd_t (by omega), gd_t (show (1 : Int) ≠ 0 by decide), r1, Z_bI, E_L_law_179, x1, Z_wI (z := i + 1) (by omega), Z_wI (z := i + 2) (by omega), Z_wI (z := i + 3) (by omega), gd_t (by omega), gd_t (by omega), gd_t (by omega), gd_t (show (9 : Int) ≠ 0 by decide), r2, Z_bI, E_L_law_180, if_pos rfl]
theorem lw_182 {h : mH} (J : IV h) {i : Int} (b0 : 0 ≤ i) (b1 : i + 8 ≤ h.X (-1)) (b2 : h.X (-1) ≤ 4096) (hI : ∀ j, inI (h.X j)) (u5 u6 : mV) : LWS h i 182 u5 u6 := by
  obtain ⟨v, h1, h2, r1, r2, J2, s, x1⟩ := (show okc kX_rises kM_rises [vI (h.X (i + 1)), vI (h.X (i + 2)), vI (h.X (i + 3)), vI (h.X (i + 4))] from ok_rises) h J
  refine ⟨h2, u5, u6, ?_, J2, s⟩
  rw [E_L_law_182, Z_wI (z := i + 1) (by omega), Z_wI (z := i + 2) (by omega), Z_wI (z := i + 3) (by omega), Z_wI (z := i + 4) (by omega), gd_t (by omega), gd_t (by omega), gd_t (by omega), gd_t (by omega), gd_t (show (1 : Int) ≠ 0 by decide), r1, Z_bI, E_L_law_183, x1, Z_wI (z := i + 1) (by omega), Z_wI (z := i + 2) (by omega), Z_wI (z := i + 3) (by omega), Z_wI (z := i + 4) (by omega), gd_t (by omega), gd_t (by omega), gd_t (by omega), gd_t (by omega), gd_t (show (9 : Int) ≠ 0 by decide), r2, Z_bI, E_L_law_184, if_pos rfl]
theorem lw_186 {h : mH} (J : IV h) {i : Int} (b0 : 0 ≤ i) (b1 : i + 8 ≤ h.X (-1)) (b2 : h.X (-1) ≤ 4096) (hI : ∀ j, inI (h.X j)) (u5 u6 : mV) : LWS h i 186 u5 u6 := by
  obtain ⟨v, h1, h2, r1, r2, J2, s, x1⟩ := (show okc kX_count kM_count [vI (h.X (i + 1))] from ok_count) h J
  refine ⟨h2, u5, u6, ?_, J2, s⟩
  rw [E_L_law_186, Z_wI (z := i + 1) (by omega), gd_t (by omega), gd_t (show (1 : Int) ≠ 0 by decide), r1, Z_bI, E_L_law_187, x1, Z_wI (z := i + 1) (by omega), gd_t (by omega), gd_t (show (9 : Int) ≠ 0 by decide), r2, Z_bI, E_L_law_188, if_pos rfl]
theorem lw_21 {h : mH} (J : IV h) {i : Int} (b0 : 0 ≤ i) (b1 : i + 8 ≤ h.X (-1)) (b2 : h.X (-1) ≤ 4096) (hI : ∀ j, inI (h.X j)) (u5 u6 : mV) : LWS h i 21 u5 u6 := by
  obtain ⟨T, n, nc, Ds, nh, Xs, I⟩ := J
  have L := I.1
  have cc := L.2.2
  generalize ec : h.X (i + 1) = c
  generalize ey : h.X (i + 2) = y
  generalize em : h.X (i + 3) = m
  generalize ed : h.X (i + 4) = d
  have pt : ∀ {h2 : mH}, Fb h.cnt (Scr nc nh) h h2 → h2.cnt ≤ h.cnt + 100 → h2.sl ≤ h.sl + 1000 → IV h2 ∧ stp h h2 := fun {h2} x xc xs => by
    have e : ∀ k, k = 3 ∨ k = 5 ∨ k = 18 ∨ k = 19 → h2.M 1 k = h.M 1 k := fun k hk => x.1 1 k (by omega) fun w => by have := scr_b w; omega
    refine ⟨⟨T, n, nc, Ds, nh, Xs, I.kp x⟩, xc, ?_, x.2.2.2⟩
    rw [pot_eq (e 3 (by omega)) (e 5 (by omega)) (e 18 (by omega)) (e 19 (by omega))]
    omega
  by_cases id : isd nc Ds c y m d
  · have dn : Cl kX_dayIn [vO 10 1, vI c, vI y, vI m, vI d] h = some (some (vI (Ds c y m d)), h) := by rw [C_dayIn I, if_pos id.1]
    have x1 : Ew (Scr nc nh) h (h.set 56 0 (Ds c y m d)) := Ew.st (W := Scr nc nh) h _ (Or.inr (Or.inr (Or.inr (Or.inr (Or.inr (Or.inl rfl))))))
    have x2 : Ew (Scr nc nh) h ((h.set 56 0 (Ds c y m d)).set 9 0 0) := x1.tr (Ew.st _ _ (Or.inl ⟨rfl, Or.inl rfl⟩))
    have I1 := I.ew x1 fun _ _ w => w
    have I2 := I.ew x2 fun _ _ w => w
    obtain ⟨JJ, ss⟩ := pt (x2.fb fun _ _ _ w => w) (by rw [x2.cnt]; omega) (by rw [x2.sl]; omega)
    have r1 : Cl kL_day [vR 10 1, vI c, vI y, vI m, vI d, vR 101 56] h = some (some (vI 0), h.set 56 0 (Ds c y m d)) := by
      rw [E_L_day, gd_t (by decide), dn, Z_bI, if_neg id.2, ln56 L, gd_t (by decide), Z_hl]
    have r2 : Cl kM_day [vO 11 9, vI c, vI y, vI m, vI d] (h.set 56 0 (Ds c y m d)) = some (some (vI (Ds c y m d)), (h.set 56 0 (Ds c y m d)).set 9 0 0) := by
      rw [E_M_day, R_isDate I1.mcs, Z_bI, cb_t id, if_neg n10, Z_hl, show ((h.set 56 0 (Ds c y m d)).set 9 0 0).M 9 0 = 0 from rfl, if_neg (by decide), R_dayOf I2.mcs id, Z_bI]
    have r3 : Cl kM_thrown [vO 11 9] ((h.set 56 0 (Ds c y m d)).set 9 0 0) = some (some (vI 0), (h.set 56 0 (Ds c y m d)).set 9 0 0) := E_M_thrown ..
    refine ⟨(h.set 56 0 (Ds c y m d)).set 9 0 0, vI 0, vI (Ds c y m d), ?_, JJ, ss⟩
    rw [E_L_law_21, Z_wI (z := i + 1) (by omega), Z_wI (z := i + 2) (by omega), Z_wI (z := i + 3) (by omega), Z_wI (z := i + 4) (by omega), ec, ey, em, ed, gd_t (by omega), gd_t (by omega), gd_t (by omega), gd_t (by omega), r1, Z_bI, E_L_law_22, Z_Xs, Z_wI (z := i + 1) (by omega), Z_wI (z := i + 2) (by omega), Z_wI (z := i + 3) (by omega), Z_wI (z := i + 4) (by omega), ec, ey, em, ed, gd_t (by omega), gd_t (by omega), gd_t (by omega), gd_t (by omega), gd_t (show (9 : Int) ≠ 0 by decide), r2, Z_bI, E_L_law_23, gd_t (show (9 : Int) ≠ 0 by decide), r3, Z_bI, E_L_law_24, if_pos rfl, E_L_law_26, if_pos rfl, E_L_law_27, ln56 I2.1, gd_t (by decide), show ((h.set 56 0 (Ds c y m d)).set 9 0 0).M 56 0 = Ds c y m d from rfl, if_pos (show lcmp64 (Ds c y m d) (Ds c y m d) = 0 by rw [Z_cmpE]), E_L_law_29]
  · have dn : Cl kX_dayIn [vO 10 1, vI c, vI y, vI m, vI d] h = some (some (vI (-1)), h) := by
      rw [C_dayIn I]
      by_cases q : 0 ≤ c ∧ c < nc
      · rw [if_pos q, show Ds c y m d = -1 from Classical.byContradiction fun t => id ⟨q, t⟩]
      · rw [if_neg q]
    have x1 : Fb h.cnt (Scr nc nh) h (h.new 12 6) := (Fr.nw (Scr nc nh) h 12 6).fb (Int.le_refl _) fun _ _ _ w => w
    have x2 : Fb h.cnt (Scr nc nh) h ((h.new 12 6).set 9 0 1) := x1.tr ((Ew.st (W := Scr nc nh) _ 1 (Or.inl ⟨rfl, Or.inl rfl⟩)).fb fun _ _ _ w => w)
    have I1 := I.kp x1
    obtain ⟨JJ, ss⟩ := pt x2 (by rw [Z_cs, Z_cw]; omega) (by rw [Z_ss, Z_sw]; omega)
    have r1 : Cl kL_day [vR 10 1, vI c, vI y, vI m, vI d, vR 101 56] h = some (some (vI 1), h.new 12 6) := by
      rw [E_L_day, gd_t (by decide), dn, Z_bI, if_pos rfl, Z_hl]
    have r2 : Cl kM_day [vO 11 9, vI c, vI y, vI m, vI d] (h.new 12 6) = some (some (vI 0), (h.new 12 6).set 9 0 1) := by
      rw [E_M_day, R_isDate I1.mcs, Z_bI, cb_f id, if_pos rfl, Z_hl, show ((h.new 12 6).set 9 0 1).M 9 0 = 1 from rfl, if_pos rfl]
    have r3 : Cl kM_thrown [vO 11 9] ((h.new 12 6).set 9 0 1) = some (some (vI 1), (h.new 12 6).set 9 0 1) := E_M_thrown ..
    refine ⟨(h.new 12 6).set 9 0 1, vI 1, vI 0, ?_, JJ, ss⟩
    rw [E_L_law_21, Z_wI (z := i + 1) (by omega), Z_wI (z := i + 2) (by omega), Z_wI (z := i + 3) (by omega), Z_wI (z := i + 4) (by omega), ec, ey, em, ed, gd_t (by omega), gd_t (by omega), gd_t (by omega), gd_t (by omega), r1, Z_bI, E_L_law_22, Z_Xw, Z_wI (z := i + 1) (by omega), Z_wI (z := i + 2) (by omega), Z_wI (z := i + 3) (by omega), Z_wI (z := i + 4) (by omega), ec, ey, em, ed, gd_t (by omega), gd_t (by omega), gd_t (by omega), gd_t (by omega), gd_t (show (9 : Int) ≠ 0 by decide), r2, Z_bI, E_L_law_23, gd_t (show (9 : Int) ≠ 0 by decide), r3, Z_bI, E_L_law_24, if_pos rfl, E_L_law_26, if_neg n10, E_L_law_29]
theorem lw_4 {h : mH} (J : IV h) {i : Int} (b0 : 0 ≤ i) (b1 : i + 8 ≤ h.X (-1)) (b2 : h.X (-1) ≤ 4096) (hI : ∀ j, inI (h.X j)) (u5 u6 : mV) (LE : LEAST) : LWS h i 4 u5 u6 := by
  have q : ∀ b : Nat, Rn kL_law 4 [vS 2, vR 10 1, vR 11 9, vR 101 56, vI i, u5, u6] [] h = Rn kL_law b [vS 2, vR 10 1, vR 11 9, vR 101 56, vI i, u5, u6] [] h → LWS h i b u5 u6 → LWS h i 4 u5 u6 := fun b e ⟨h2, w5, w6, r, s⟩ => ⟨h2, w5, w6, e.trans r, s⟩
  have e := E_L_law_4 (h := h) (x1 := 1) (x2 := 9) (x3 := 56) (x4 := i) (u5 := u5) (u6 := u6)
  rw [gd_t (by omega)] at e
  by_cases c : iand (h.X i) 63 = (0 : Int)
  · rw [if_pos c] at e
    exact q 5 e (lw_5 J b0 b1 b2 hI u5 u6)
  rw [if_neg c] at e
  clear c
  by_cases c : iand (h.X i) 63 = (1 : Int)
  · rw [if_pos c] at e
    exact q 9 e (lw_9 J b0 b1 b2 hI u5 u6)
  rw [if_neg c] at e
  clear c
  by_cases c : iand (h.X i) 63 = (2 : Int)
  · rw [if_pos c] at e
    exact q 13 e (lw_13 J b0 b1 b2 hI u5 u6)
  rw [if_neg c] at e
  clear c
  by_cases c : iand (h.X i) 63 = (3 : Int)
  · rw [if_pos c] at e
    exact q 17 e (lw_17 J b0 b1 b2 hI u5 u6)
  rw [if_neg c] at e
  clear c
  by_cases c : iand (h.X i) 63 = (4 : Int)
  · rw [if_pos c] at e
    exact q 21 e (lw_21 J b0 b1 b2 hI u5 u6)
  rw [if_neg c] at e
  clear c
  by_cases c : iand (h.X i) 63 = (5 : Int)
  · rw [if_pos c] at e
    exact q 30 e (lw_30 J b0 b1 b2 hI u5 u6)
  rw [if_neg c] at e
  clear c
  by_cases c : iand (h.X i) 63 = (6 : Int)
  · rw [if_pos c] at e
    exact q 34 e (lw_34 J b0 b1 b2 hI u5 u6)
  rw [if_neg c] at e
  clear c
  by_cases c : iand (h.X i) 63 = (7 : Int)
  · rw [if_pos c] at e
    exact q 38 e (lw_38 J b0 b1 b2 hI u5 u6)
  rw [if_neg c] at e
  clear c
  by_cases c : iand (h.X i) 63 = (8 : Int)
  · rw [if_pos c] at e
    exact q 42 e (lw_42 J b0 b1 b2 hI u5 u6)
  rw [if_neg c] at e
  clear c
  by_cases c : iand (h.X i) 63 = (9 : Int)
  · rw [if_pos c] at e
    exact q 46 e (lw_46 J b0 b1 b2 hI u5 u6)
  rw [if_neg c] at e
  clear c
  by_cases c : iand (h.X i) 63 = (10 : Int)
  · rw [if_pos c] at e
    exact q 50 e (lw_50 J b0 b1 b2 hI u5 u6)
  rw [if_neg c] at e
  clear c
  by_cases c : iand (h.X i) 63 = (11 : Int)
  · rw [if_pos c] at e
    exact q 54 e (lw_54 J b0 b1 b2 hI u5 u6)
  rw [if_neg c] at e
  clear c
  by_cases c : iand (h.X i) 63 = (12 : Int)
  · rw [if_pos c] at e
    exact q 58 e (lw_58 J b0 b1 b2 hI u5 u6)
  rw [if_neg c] at e
  clear c
  by_cases c : iand (h.X i) 63 = (13 : Int)
  · rw [if_pos c] at e
    exact q 62 e (lw_62 J b0 b1 b2 hI u5 u6)
  rw [if_neg c] at e
  clear c
  by_cases c : iand (h.X i) 63 = (14 : Int)
  · rw [if_pos c] at e
    exact q 66 e (lw_66 J b0 b1 b2 hI u5 u6)
  rw [if_neg c] at e
  clear c
  by_cases c : iand (h.X i) 63 = (15 : Int)
  · rw [if_pos c] at e
    exact q 70 e (lw_70 J b0 b1 b2 hI u5 u6)
  rw [if_neg c] at e
  clear c
  by_cases c : iand (h.X i) 63 = (16 : Int)
  · rw [if_pos c] at e
    exact q 74 e (lw_74 J b0 b1 b2 hI u5 u6)
  rw [if_neg c] at e
  clear c
  by_cases c : iand (h.X i) 63 = (17 : Int)
  · rw [if_pos c] at e
    exact q 78 e (lw_78 J b0 b1 b2 hI u5 u6)
  rw [if_neg c] at e
  clear c
  by_cases c : iand (h.X i) 63 = (18 : Int)
  · rw [if_pos c] at e
    exact q 82 e (lw_82 J b0 b1 b2 hI u5 u6)
  rw [if_neg c] at e
  clear c
  by_cases c : iand (h.X i) 63 = (19 : Int)
  · rw [if_pos c] at e
    exact q 86 e (lw_86 J b0 b1 b2 hI u5 u6)
  rw [if_neg c] at e
  clear c
  by_cases c : iand (h.X i) 63 = (20 : Int)
  · rw [if_pos c] at e
    exact q 90 e (lw_90 J b0 b1 b2 hI u5 u6)
  rw [if_neg c] at e
  clear c
  by_cases c : iand (h.X i) 63 = (21 : Int)
  · rw [if_pos c] at e
    exact q 94 e (lw_94 J b0 b1 b2 hI u5 u6)
  rw [if_neg c] at e
  clear c
  by_cases c : iand (h.X i) 63 = (22 : Int)
  · rw [if_pos c] at e
    exact q 98 e (lw_98 J b0 b1 b2 hI u5 u6)
  rw [if_neg c] at e
  clear c
  by_cases c : iand (h.X i) 63 = (23 : Int)
  · rw [if_pos c] at e
    exact q 102 e (lw_102 J b0 b1 b2 hI u5 u6)
  rw [if_neg c] at e
  clear c
  by_cases c : iand (h.X i) 63 = (24 : Int)
  · rw [if_pos c] at e
    exact q 106 e (lw_106 J b0 b1 b2 hI u5 u6)
  rw [if_neg c] at e
  clear c
  by_cases c : iand (h.X i) 63 = (25 : Int)
  · rw [if_pos c] at e
    exact q 110 e (lw_110 J b0 b1 b2 hI u5 u6 LE)
  rw [if_neg c] at e
  clear c
  by_cases c : iand (h.X i) 63 = (26 : Int)
  · rw [if_pos c] at e
    exact q 114 e (lw_114 J b0 b1 b2 hI u5 u6)
  rw [if_neg c] at e
  clear c
  by_cases c : iand (h.X i) 63 = (27 : Int)
  · rw [if_pos c] at e
    exact q 118 e (lw_118 J b0 b1 b2 hI u5 u6)
  rw [if_neg c] at e
  clear c
  by_cases c : iand (h.X i) 63 = (28 : Int)
  · rw [if_pos c] at e
    exact q 122 e (lw_122 J b0 b1 b2 hI u5 u6)
  rw [if_neg c] at e
  clear c
  by_cases c : iand (h.X i) 63 = (29 : Int)
  · rw [if_pos c] at e
    exact q 126 e (lw_126 J b0 b1 b2 hI u5 u6)
  rw [if_neg c] at e
  clear c
  by_cases c : iand (h.X i) 63 = (30 : Int)
  · rw [if_pos c] at e
    exact q 130 e (lw_130 J b0 b1 b2 hI u5 u6)
  rw [if_neg c] at e
  clear c
  by_cases c : iand (h.X i) 63 = (31 : Int)
  · rw [if_pos c] at e
    exact q 134 e (lw_134 J b0 b1 b2 hI u5 u6)
  rw [if_neg c] at e
  clear c
  by_cases c : iand (h.X i) 63 = (32 : Int)
  · rw [if_pos c] at e
    exact q 138 e (lw_138 J b0 b1 b2 hI u5 u6)
  rw [if_neg c] at e
  clear c
  by_cases c : iand (h.X i) 63 = (33 : Int)
  · rw [if_pos c] at e
    exact q 142 e (lw_142 J b0 b1 b2 hI u5 u6)
  rw [if_neg c] at e
  clear c
  by_cases c : iand (h.X i) 63 = (34 : Int)
  · rw [if_pos c] at e
    exact q 146 e (lw_146 J b0 b1 b2 hI u5 u6)
  rw [if_neg c] at e
  clear c
  by_cases c : iand (h.X i) 63 = (35 : Int)
  · rw [if_pos c] at e
    exact q 150 e (lw_150 J b0 b1 b2 hI u5 u6)
  rw [if_neg c] at e
  clear c
  by_cases c : iand (h.X i) 63 = (36 : Int)
  · rw [if_pos c] at e
    exact q 154 e (lw_154 J b0 b1 b2 hI u5 u6)
  rw [if_neg c] at e
  clear c
  by_cases c : iand (h.X i) 63 = (37 : Int)
  · rw [if_pos c] at e
    exact q 158 e (lw_158 J b0 b1 b2 hI u5 u6)
  rw [if_neg c] at e
  clear c
  by_cases c : iand (h.X i) 63 = (38 : Int)
  · rw [if_pos c] at e
    exact q 162 e (lw_162 J b0 b1 b2 hI u5 u6)
  rw [if_neg c] at e
  clear c
  by_cases c : iand (h.X i) 63 = (39 : Int)
  · rw [if_pos c] at e
    exact q 166 e (lw_166 J b0 b1 b2 hI u5 u6)
  rw [if_neg c] at e
  clear c
  by_cases c : iand (h.X i) 63 = (40 : Int)
  · rw [if_pos c] at e
    exact q 170 e (lw_170 J b0 b1 b2 hI u5 u6)
  rw [if_neg c] at e
  clear c
  by_cases c : iand (h.X i) 63 = (41 : Int)
  · rw [if_pos c] at e
    exact q 174 e (lw_174 J b0 b1 b2 hI u5 u6)
  rw [if_neg c] at e
  clear c
  by_cases c : iand (h.X i) 63 = (42 : Int)
  · rw [if_pos c] at e
    exact q 178 e (lw_178 J b0 b1 b2 hI u5 u6)
  rw [if_neg c] at e
  clear c
  by_cases c : iand (h.X i) 63 = (43 : Int)
  · rw [if_pos c] at e
    exact q 182 e (lw_182 J b0 b1 b2 hI u5 u6)
  rw [if_neg c] at e
  clear c
  by_cases c : iand (h.X i) 63 = (44 : Int)
  · rw [if_pos c] at e
    exact q 186 e (lw_186 J b0 b1 b2 hI u5 u6)
  rw [if_neg c] at e
  clear c
  exact ⟨h, u5, u6, e, J, by omega, by omega, rfl⟩
theorem lw_loop (LE : LEAST) : ∀ (f : Nat) (h : mH) (i : Int) (u5 u6 : mV), IV h → 0 ≤ i → h.X (-1) ≤ i + 8 * f + 7 → 0 ≤ h.X (-1) → h.X (-1) ≤ 4096 → i ≤ 5000 → (∀ j, inI (h.X j)) → ∃ hf, Rn kL_law 3 [vS 2, vR 10 1, vR 11 9, vR 101 56, vI i, u5, u6] [] h = some (some (vI 1), hf) ∧ hf.cnt ≤ h.cnt + 100 * f ∧ (hf.sl : Int) - pot hf ≤ (h.sl : Int) - pot h + 1000 * f ∧ IV hf := by
  intro f
  induction f with
  | zero =>
    intro h i u5 u6 J i0 hf x0 x1 i1 hI
    exact ⟨h, by rw [E_L_law_3, Z_wI (by omega), if_neg (by omega), E_L_law_191, gd_t (by decide)], by omega, by omega, J⟩
  | succ f ih =>
    intro h i u5 u6 J i0 hf x0 x1 i1 hI
    by_cases z : i ≤ h.X (-1) - 8
    · obtain ⟨h2, w5, w6, r, J2, s1, s2, s3⟩ := lw_4 J i0 (by omega) x1 hI u5 u6 LE
      obtain ⟨hf', r', c', s', J'⟩ := ih h2 (i + 8) w5 w6 J2 (by omega) (by rw [s3]; omega) (by rw [s3]; exact x0) (by rw [s3]; exact x1) (by omega) (by rw [s3]; exact hI)
      exact ⟨hf', by rw [E_L_law_3, Z_wI (by omega), if_pos z, r, E_L_law_190, Z_wI (by omega), r'], by omega, by omega, J'⟩
    · exact ⟨h, by rw [E_L_law_3, Z_wI (by omega), if_neg z, E_L_law_191, gd_t (by decide)], by omega, by omega, J⟩
