/-! the words that are no plain words: nest mates, arrays, the interface -/
def wN1 : List (String × Nat × String × String × String × String) := [(RX11, 64, RX6, "wrong", "I", "DayBoy"), (RX11, 195, RX2, "years", "LDayBoy$Rows;", "DayBoy"), (RX11, 204, RX2, "months", "LDayBoy$Rows;", "DayBoy"), (RX11, 243, RX2, "steps", "LDayBoy$Steps;", "DayBoy"), (RX11, 265, RX9, "size", "I", "DayBoy"), (RX11, 277, RX5, "size", "I", "DayBoy"), (RX11, 273, RX2, "pairs", "LDayBoy$Pairs;", "DayBoy"), (RX11, 292, RX1, "month", "I", "DayBoy"), (RX11, 306, RX8, "calendar", "I", "DayBoy"), (RX11, 302, RX1, "spot", "LDayBoy$Spot;", "DayBoy"), (RX11, 309, RX8, "day", "I", "DayBoy"), (RX11, 312, RX1, "answer", "I", "DayBoy"), (RX11, 315, RX1, "tenths", "I", "DayBoy"), (RX11, 345, RX2, "weight", "I", "DayBoy"), (RX11, 366, RX8, "year", "I", "DayBoy"), (RX11, 374, RX8, "date", "I", "DayBoy"), (RX11, 373, RX8, "month", "I", "DayBoy"), (RX11, 369, RX8, "almanac", "LDayBoy$Almanac;", "DayBoy"), (RX0, 70, RX10, "lastKey", "I", "DayBoy"), (RX0, 80, RX10, "lastDay", "I", "DayBoy"), (RX1, 35, RX8, "date", "I", "DayBoy"), (RX1, 34, RX8, "month", "I", "DayBoy"), (RX1, 31, RX8, "year", "I", "DayBoy"), (RX1, 25, RX8, "almanac", "LDayBoy$Almanac;", "DayBoy"), (RX2, 57, RX6, "sign", "I", "DayBoy"), (RX2, 129, RX8, "date", "I", "DayBoy"), (RX2, 126, RX8, "month", "I", "DayBoy"), (RX2, 123, RX8, "year", "I", "DayBoy"), (RX2, 117, RX8, "almanac", "LDayBoy$Almanac;", "DayBoy"), (RX2, 175, RX9, "widths", "[I", "DayBoy"), (RX2, 181, RX5, "others", "[I", "DayBoy"), (RX2, 178, RX5, "ones", "[I", "DayBoy"), (RX7, 43, RX3, "size", "I", "DayBoy"), (RX7, 75, RX9, "stride", "I", "DayBoy")]
def wN2 : List (String × Nat × MethodName × String) := [(RX0, 36, yX10_init, "DayBoy"), (RX0, 66, yX11_keyOf, "DayBoy"), (RX0, 90, yX11_isDatelike, "DayBoy"), (RX2, 20, yX9_init, "DayBoy"), (RX2, 27, yX5_init, "DayBoy"), (RX2, 152, yX11_yearOfKey, "DayBoy"), (RX2, 155, yX11_monthOfKey, "DayBoy"), (RX2, 158, yX11_dateOfKey, "DayBoy"), (RX8, 19, yX11_yearOfKey, "DayBoy"), (RX8, 26, yX11_monthOfKey, "DayBoy"), (RX8, 32, yX11_dateOfKey, "DayBoy"), (RX9, 20, yX11_isYear, "DayBoy"), (RX10, 26, yX11_keyOf, "DayBoy"), (RX10, 67, yX11_monthLength, "DayBoy"), (RX10, 71, yX11_yearOfKey, "DayBoy"), (RX10, 75, yX11_monthOfKey, "DayBoy"), (RX10, 78, yX11_dateOfKey, "DayBoy"), (RX10, 86, yX11_placeInYear, "DayBoy"), (RX10, 90, yX11_yearLength, "DayBoy"), (RX10, 94, yX11_keyAt, "DayBoy")]
def wO : List (String) := [RX0, RX2, RX1, RX8, RX10]
def wF : List (String × MethodName × MethodName) := [(RX9, ⟨RX4, "lineCount", "()I"⟩, yX9_lineCount), (RX5, ⟨RX4, "lineCount", "()I"⟩, yX5_lineCount), (RX9, ⟨RX4, "over", "(II)I"⟩, yX9_over), (RX5, ⟨RX4, "over", "(II)I"⟩, yX5_over), (RX9, ⟨RX4, "costOf", "(I)I"⟩, yX9_costOf), (RX5, ⟨RX4, "costOf", "(I)I"⟩, yX5_costOf)]
theorem wF_ok : ∀ q ∈ wF, q.2.1.cls ≠ "java/lang/invoke/MethodHandle" ∧ q.2.1.cls ≠ "java/lang/invoke/VarHandle" := by decide +kernel
theorem mn_wN1_0 : (RX11, 64, RX6, "wrong", "I", "DayBoy") ∈ wN1 := List.mem_of_getElem? (i := 0) rfl
theorem mn_wN1_1 : (RX11, 195, RX2, "years", "LDayBoy$Rows;", "DayBoy") ∈ wN1 := List.mem_of_getElem? (i := 1) rfl
theorem mn_wN1_2 : (RX11, 204, RX2, "months", "LDayBoy$Rows;", "DayBoy") ∈ wN1 := List.mem_of_getElem? (i := 2) rfl
theorem mn_wN1_3 : (RX11, 243, RX2, "steps", "LDayBoy$Steps;", "DayBoy") ∈ wN1 := List.mem_of_getElem? (i := 3) rfl
theorem mn_wN1_4 : (RX11, 265, RX9, "size", "I", "DayBoy") ∈ wN1 := List.mem_of_getElem? (i := 4) rfl
theorem mn_wN1_5 : (RX11, 277, RX5, "size", "I", "DayBoy") ∈ wN1 := List.mem_of_getElem? (i := 5) rfl
theorem mn_wN1_6 : (RX11, 273, RX2, "pairs", "LDayBoy$Pairs;", "DayBoy") ∈ wN1 := List.mem_of_getElem? (i := 6) rfl
theorem mn_wN1_7 : (RX11, 292, RX1, "month", "I", "DayBoy") ∈ wN1 := List.mem_of_getElem? (i := 7) rfl
theorem mn_wN1_8 : (RX11, 306, RX8, "calendar", "I", "DayBoy") ∈ wN1 := List.mem_of_getElem? (i := 8) rfl
theorem mn_wN1_9 : (RX11, 302, RX1, "spot", "LDayBoy$Spot;", "DayBoy") ∈ wN1 := List.mem_of_getElem? (i := 9) rfl
theorem mn_wN1_10 : (RX11, 309, RX8, "day", "I", "DayBoy") ∈ wN1 := List.mem_of_getElem? (i := 10) rfl
theorem mn_wN1_11 : (RX11, 312, RX1, "answer", "I", "DayBoy") ∈ wN1 := List.mem_of_getElem? (i := 11) rfl
theorem mn_wN1_12 : (RX11, 315, RX1, "tenths", "I", "DayBoy") ∈ wN1 := List.mem_of_getElem? (i := 12) rfl
theorem mn_wN1_13 : (RX11, 345, RX2, "weight", "I", "DayBoy") ∈ wN1 := List.mem_of_getElem? (i := 13) rfl
theorem mn_wN1_14 : (RX11, 366, RX8, "year", "I", "DayBoy") ∈ wN1 := List.mem_of_getElem? (i := 14) rfl
theorem mn_wN1_15 : (RX11, 374, RX8, "date", "I", "DayBoy") ∈ wN1 := List.mem_of_getElem? (i := 15) rfl
theorem mn_wN1_16 : (RX11, 373, RX8, "month", "I", "DayBoy") ∈ wN1 := List.mem_of_getElem? (i := 16) rfl
theorem mn_wN1_17 : (RX11, 369, RX8, "almanac", "LDayBoy$Almanac;", "DayBoy") ∈ wN1 := List.mem_of_getElem? (i := 17) rfl
theorem mn_wN1_18 : (RX0, 70, RX10, "lastKey", "I", "DayBoy") ∈ wN1 := List.mem_of_getElem? (i := 18) rfl
theorem mn_wN1_19 : (RX0, 80, RX10, "lastDay", "I", "DayBoy") ∈ wN1 := List.mem_of_getElem? (i := 19) rfl
theorem mn_wN1_20 : (RX1, 35, RX8, "date", "I", "DayBoy") ∈ wN1 := List.mem_of_getElem? (i := 20) rfl
theorem mn_wN1_21 : (RX1, 34, RX8, "month", "I", "DayBoy") ∈ wN1 := List.mem_of_getElem? (i := 21) rfl
theorem mn_wN1_22 : (RX1, 31, RX8, "year", "I", "DayBoy") ∈ wN1 := List.mem_of_getElem? (i := 22) rfl
theorem mn_wN1_23 : (RX1, 25, RX8, "almanac", "LDayBoy$Almanac;", "DayBoy") ∈ wN1 := List.mem_of_getElem? (i := 23) rfl
theorem mn_wN1_24 : (RX2, 57, RX6, "sign", "I", "DayBoy") ∈ wN1 := List.mem_of_getElem? (i := 24) rfl
theorem mn_wN1_25 : (RX2, 129, RX8, "date", "I", "DayBoy") ∈ wN1 := List.mem_of_getElem? (i := 25) rfl
theorem mn_wN1_26 : (RX2, 126, RX8, "month", "I", "DayBoy") ∈ wN1 := List.mem_of_getElem? (i := 26) rfl
theorem mn_wN1_27 : (RX2, 123, RX8, "year", "I", "DayBoy") ∈ wN1 := List.mem_of_getElem? (i := 27) rfl
theorem mn_wN1_28 : (RX2, 117, RX8, "almanac", "LDayBoy$Almanac;", "DayBoy") ∈ wN1 := List.mem_of_getElem? (i := 28) rfl
theorem mn_wN1_29 : (RX2, 175, RX9, "widths", "[I", "DayBoy") ∈ wN1 := List.mem_of_getElem? (i := 29) rfl
theorem mn_wN1_30 : (RX2, 181, RX5, "others", "[I", "DayBoy") ∈ wN1 := List.mem_of_getElem? (i := 30) rfl
theorem mn_wN1_31 : (RX2, 178, RX5, "ones", "[I", "DayBoy") ∈ wN1 := List.mem_of_getElem? (i := 31) rfl
theorem mn_wN1_32 : (RX7, 43, RX3, "size", "I", "DayBoy") ∈ wN1 := List.mem_of_getElem? (i := 32) rfl
theorem mn_wN1_33 : (RX7, 75, RX9, "stride", "I", "DayBoy") ∈ wN1 := List.mem_of_getElem? (i := 33) rfl
theorem mn_wN2_0 : (RX0, 36, yX10_init, "DayBoy") ∈ wN2 := List.mem_of_getElem? (i := 0) rfl
theorem mn_wN2_1 : (RX0, 66, yX11_keyOf, "DayBoy") ∈ wN2 := List.mem_of_getElem? (i := 1) rfl
theorem mn_wN2_2 : (RX0, 90, yX11_isDatelike, "DayBoy") ∈ wN2 := List.mem_of_getElem? (i := 2) rfl
theorem mn_wN2_3 : (RX2, 20, yX9_init, "DayBoy") ∈ wN2 := List.mem_of_getElem? (i := 3) rfl
theorem mn_wN2_4 : (RX2, 27, yX5_init, "DayBoy") ∈ wN2 := List.mem_of_getElem? (i := 4) rfl
theorem mn_wN2_5 : (RX2, 152, yX11_yearOfKey, "DayBoy") ∈ wN2 := List.mem_of_getElem? (i := 5) rfl
theorem mn_wN2_6 : (RX2, 155, yX11_monthOfKey, "DayBoy") ∈ wN2 := List.mem_of_getElem? (i := 6) rfl
theorem mn_wN2_7 : (RX2, 158, yX11_dateOfKey, "DayBoy") ∈ wN2 := List.mem_of_getElem? (i := 7) rfl
theorem mn_wN2_8 : (RX8, 19, yX11_yearOfKey, "DayBoy") ∈ wN2 := List.mem_of_getElem? (i := 8) rfl
theorem mn_wN2_9 : (RX8, 26, yX11_monthOfKey, "DayBoy") ∈ wN2 := List.mem_of_getElem? (i := 9) rfl
theorem mn_wN2_10 : (RX8, 32, yX11_dateOfKey, "DayBoy") ∈ wN2 := List.mem_of_getElem? (i := 10) rfl
theorem mn_wN2_11 : (RX9, 20, yX11_isYear, "DayBoy") ∈ wN2 := List.mem_of_getElem? (i := 11) rfl
theorem mn_wN2_12 : (RX10, 26, yX11_keyOf, "DayBoy") ∈ wN2 := List.mem_of_getElem? (i := 12) rfl
theorem mn_wN2_13 : (RX10, 67, yX11_monthLength, "DayBoy") ∈ wN2 := List.mem_of_getElem? (i := 13) rfl
theorem mn_wN2_14 : (RX10, 71, yX11_yearOfKey, "DayBoy") ∈ wN2 := List.mem_of_getElem? (i := 14) rfl
theorem mn_wN2_15 : (RX10, 75, yX11_monthOfKey, "DayBoy") ∈ wN2 := List.mem_of_getElem? (i := 15) rfl
theorem mn_wN2_16 : (RX10, 78, yX11_dateOfKey, "DayBoy") ∈ wN2 := List.mem_of_getElem? (i := 16) rfl
theorem mn_wN2_17 : (RX10, 86, yX11_placeInYear, "DayBoy") ∈ wN2 := List.mem_of_getElem? (i := 17) rfl
theorem mn_wN2_18 : (RX10, 90, yX11_yearLength, "DayBoy") ∈ wN2 := List.mem_of_getElem? (i := 18) rfl
theorem mn_wN2_19 : (RX10, 94, yX11_keyAt, "DayBoy") ∈ wN2 := List.mem_of_getElem? (i := 19) rfl
theorem mn_wO_0 : RX0 ∈ wO := List.mem_of_getElem? (i := 0) rfl
theorem mn_wO_1 : RX2 ∈ wO := List.mem_of_getElem? (i := 1) rfl
theorem mn_wO_2 : RX1 ∈ wO := List.mem_of_getElem? (i := 2) rfl
theorem mn_wO_3 : RX8 ∈ wO := List.mem_of_getElem? (i := 3) rfl
theorem mn_wO_4 : RX10 ∈ wO := List.mem_of_getElem? (i := 4) rfl
theorem mn_wF_0 : (RX9, ⟨RX4, "lineCount", "()I"⟩, yX9_lineCount) ∈ wF := List.mem_of_getElem? (i := 0) rfl
theorem mn_wF_1 : (RX5, ⟨RX4, "lineCount", "()I"⟩, yX5_lineCount) ∈ wF := List.mem_of_getElem? (i := 1) rfl
theorem mn_wF_2 : (RX9, ⟨RX4, "over", "(II)I"⟩, yX9_over) ∈ wF := List.mem_of_getElem? (i := 2) rfl
theorem mn_wF_3 : (RX5, ⟨RX4, "over", "(II)I"⟩, yX5_over) ∈ wF := List.mem_of_getElem? (i := 3) rfl
theorem mn_wF_4 : (RX9, ⟨RX4, "costOf", "(I)I"⟩, yX9_costOf) ∈ wF := List.mem_of_getElem? (i := 4) rfl
theorem mn_wF_5 : (RX5, ⟨RX4, "costOf", "(I)I"⟩, yX5_costOf) ∈ wF := List.mem_of_getElem? (i := 5) rfl
