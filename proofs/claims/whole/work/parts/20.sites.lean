/-! places, kinds and words by class; a row for each entry of the constant pools -/
theorem cty_a (k : Nat) {t : FieldType} : cty (k + 2) (.array t) := Or.inr ⟨t, rfl⟩
theorem cty_o (k : Nat) {n : String} : cty (k + 2) (.object n) := Or.inl ⟨n, rfl⟩
theorem cl_0 : clX[0]? = some (RX0, TX0, 4) := rfl
theorem nf_0 : nfl 0 = 4 := rfl
theorem in_0 : ∀ w ∈ u_ws RX0 TX0 4, w ∈ wa := by
  intro w hw
  obtain ⟨k, hk, rfl⟩ := List.mem_map.mp hw
  have hk := List.mem_range.mp hk
  match k, hk with
  | 0, _ => exact mf_0_0
  | 1, _ => exact mf_0_1
  | 2, _ => exact mf_0_2
  | 3, _ => exact mf_0_3
  | k + 4, hk => exact absurd hk (by omega)
theorem ct_0 : ∀ k, k < 4 → cty (fkd 0 k) (tyX0 k) := by
  intro k hk
  match k, hk with
  | 0, _ => exact (rfl : _ = _)
  | 1, _ => exact cty_a 209
  | 2, _ => exact (rfl : _ = _)
  | 3, _ => exact cty_a 100
  | k + 4, hk => exact absurd hk (by omega)
theorem cl_1 : clX[1]? = some (RX1, TX1, 4) := rfl
theorem nf_1 : nfl 1 = 4 := rfl
theorem in_1 : ∀ w ∈ u_ws RX1 TX1 4, w ∈ wa := by
  intro w hw
  obtain ⟨k, hk, rfl⟩ := List.mem_map.mp hw
  have hk := List.mem_range.mp hk
  match k, hk with
  | 0, _ => exact mf_1_0
  | 1, _ => exact mf_1_1
  | 2, _ => exact mf_1_2
  | 3, _ => exact mf_1_3
  | k + 4, hk => exact absurd hk (by omega)
theorem ct_1 : ∀ k, k < 4 → cty (fkd 1 k) (tyX1 k) := by
  intro k hk
  match k, hk with
  | 0, _ => exact (rfl : _ = _)
  | 1, _ => exact cty_o 7
  | 2, _ => exact (rfl : _ = _)
  | 3, _ => exact (rfl : _ = _)
  | k + 4, hk => exact absurd hk (by omega)
theorem cl_2 : clX[2]? = some (RX2, TX2, 11) := rfl
theorem nf_2 : nfl 2 = 11 := rfl
theorem in_2 : ∀ w ∈ u_ws RX2 TX2 11, w ∈ wa := by
  intro w hw
  obtain ⟨k, hk, rfl⟩ := List.mem_map.mp hw
  have hk := List.mem_range.mp hk
  match k, hk with
  | 0, _ => exact mf_2_0
  | 1, _ => exact mf_2_1
  | 2, _ => exact mf_2_2
  | 3, _ => exact mf_2_3
  | 4, _ => exact mf_2_4
  | 5, _ => exact mf_2_5
  | 6, _ => exact mf_2_6
  | 7, _ => exact mf_2_7
  | 8, _ => exact mf_2_8
  | 9, _ => exact mf_2_9
  | 10, _ => exact mf_2_10
  | k + 11, hk => exact absurd hk (by omega)
theorem ct_2 : ∀ k, k < 11 → cty (fkd 2 k) (tyX2 k) := by
  intro k hk
  match k, hk with
  | 0, _ => exact cty_a 100
  | 1, _ => exact cty_a 100
  | 2, _ => exact (rfl : _ = _)
  | 3, _ => exact cty_o 8
  | 4, _ => exact cty_o 4
  | 5, _ => exact cty_a 102
  | 6, _ => exact (rfl : _ = _)
  | 7, _ => exact cty_a 100
  | 8, _ => exact (rfl : _ = _)
  | 9, _ => exact cty_o 6
  | 10, _ => exact cty_o 6
  | k + 11, hk => exact absurd hk (by omega)
theorem cl_3 : clX[3]? = some (RX3, TX3, 3) := rfl
theorem nf_3 : nfl 3 = 3 := rfl
theorem in_3 : ∀ w ∈ u_ws RX3 TX3 3, w ∈ wa := by
  intro w hw
  obtain ⟨k, hk, rfl⟩ := List.mem_map.mp hw
  have hk := List.mem_range.mp hk
  match k, hk with
  | 0, _ => exact mf_3_0
  | 1, _ => exact mf_3_1
  | 2, _ => exact mf_3_2
  | k + 3, hk => exact absurd hk (by omega)
theorem ct_3 : ∀ k, k < 3 → cty (fkd 3 k) (tyX3 k) := by
  intro k hk
  match k, hk with
  | 0, _ => exact cty_a 100
  | 1, _ => exact cty_a 100
  | 2, _ => exact (rfl : _ = _)
  | k + 3, hk => exact absurd hk (by omega)
theorem cl_4 : clX[4]? = some (RX5, TX5, 4) := rfl
theorem nf_4 : nfl 4 = 4 := rfl
theorem in_4 : ∀ w ∈ u_ws RX5 TX5 4, w ∈ wa := by
  intro w hw
  obtain ⟨k, hk, rfl⟩ := List.mem_map.mp hw
  have hk := List.mem_range.mp hk
  match k, hk with
  | 0, _ => exact mf_4_0
  | 1, _ => exact mf_4_1
  | 2, _ => exact mf_4_2
  | 3, _ => exact mf_4_3
  | k + 4, hk => exact absurd hk (by omega)
theorem ct_4 : ∀ k, k < 4 → cty (fkd 4 k) (tyX5 k) := by
  intro k hk
  match k, hk with
  | 0, _ => exact cty_a 100
  | 1, _ => exact cty_a 100
  | 2, _ => exact cty_a 100
  | 3, _ => exact (rfl : _ = _)
  | k + 4, hk => exact absurd hk (by omega)
theorem cl_5 : clX[5]? = some (RX6, TX6, 6) := rfl
theorem nf_5 : nfl 5 = 6 := rfl
theorem in_5 : ∀ w ∈ u_ws RX6 TX6 6, w ∈ wa := by
  intro w hw
  obtain ⟨k, hk, rfl⟩ := List.mem_map.mp hw
  have hk := List.mem_range.mp hk
  match k, hk with
  | 0, _ => exact mf_5_0
  | 1, _ => exact mf_5_1
  | 2, _ => exact mf_5_2
  | 3, _ => exact mf_5_3
  | 4, _ => exact mf_5_4
  | 5, _ => exact mf_5_5
  | k + 6, hk => exact absurd hk (by omega)
theorem ct_5 : ∀ k, k < 6 → cty (fkd 5 k) (tyX6 k) := by
  intro k hk
  match k, hk with
  | 0, _ => exact cty_a 100
  | 1, _ => exact (rfl : _ = _)
  | 2, _ => exact (rfl : _ = _)
  | 3, _ => exact (rfl : _ = _)
  | 4, _ => exact (rfl : _ = _)
  | 5, _ => exact (rfl : _ = _)
  | k + 6, hk => exact absurd hk (by omega)
theorem cl_6 : clX[6]? = some (RX7, TX7, 3) := rfl
theorem nf_6 : nfl 6 = 3 := rfl
theorem in_6 : ∀ w ∈ u_ws RX7 TX7 3, w ∈ wa := by
  intro w hw
  obtain ⟨k, hk, rfl⟩ := List.mem_map.mp hw
  have hk := List.mem_range.mp hk
  match k, hk with
  | 0, _ => exact mf_6_0
  | 1, _ => exact mf_6_1
  | 2, _ => exact mf_6_2
  | k + 3, hk => exact absurd hk (by omega)
theorem ct_6 : ∀ k, k < 3 → cty (fkd 6 k) (tyX7 k) := by
  intro k hk
  match k, hk with
  | 0, _ => exact cty_a 101
  | 1, _ => exact cty_a 100
  | 2, _ => exact cty_a 100
  | k + 3, hk => exact absurd hk (by omega)
theorem cl_7 : clX[7]? = some (RX8, TX8, 6) := rfl
theorem nf_7 : nfl 7 = 6 := rfl
theorem in_7 : ∀ w ∈ u_ws RX8 TX8 6, w ∈ wa := by
  intro w hw
  obtain ⟨k, hk, rfl⟩ := List.mem_map.mp hw
  have hk := List.mem_range.mp hk
  match k, hk with
  | 0, _ => exact mf_7_0
  | 1, _ => exact mf_7_1
  | 2, _ => exact mf_7_2
  | 3, _ => exact mf_7_3
  | 4, _ => exact mf_7_4
  | 5, _ => exact mf_7_5
  | k + 6, hk => exact absurd hk (by omega)
theorem ct_7 : ∀ k, k < 6 → cty (fkd 7 k) (tyX8 k) := by
  intro k hk
  match k, hk with
  | 0, _ => exact (rfl : _ = _)
  | 1, _ => exact cty_o 0
  | 2, _ => exact (rfl : _ = _)
  | 3, _ => exact (rfl : _ = _)
  | 4, _ => exact (rfl : _ = _)
  | 5, _ => exact (rfl : _ = _)
  | k + 6, hk => exact absurd hk (by omega)
theorem cl_8 : clX[8]? = some (RX9, TX9, 4) := rfl
theorem nf_8 : nfl 8 = 4 := rfl
theorem in_8 : ∀ w ∈ u_ws RX9 TX9 4, w ∈ wa := by
  intro w hw
  obtain ⟨k, hk, rfl⟩ := List.mem_map.mp hw
  have hk := List.mem_range.mp hk
  match k, hk with
  | 0, _ => exact mf_8_0
  | 1, _ => exact mf_8_1
  | 2, _ => exact mf_8_2
  | 3, _ => exact mf_8_3
  | k + 4, hk => exact absurd hk (by omega)
theorem ct_8 : ∀ k, k < 4 → cty (fkd 8 k) (tyX9 k) := by
  intro k hk
  match k, hk with
  | 0, _ => exact cty_a 100
  | 1, _ => exact cty_a 100
  | 2, _ => exact (rfl : _ = _)
  | 3, _ => exact (rfl : _ = _)
  | k + 4, hk => exact absurd hk (by omega)
theorem cl_9 : clX[9]? = some (RX10, TX10, 10) := rfl
theorem nf_9 : nfl 9 = 10 := rfl
theorem in_9 : ∀ w ∈ u_ws RX10 TX10 10, w ∈ wa := by
  intro w hw
  obtain ⟨k, hk, rfl⟩ := List.mem_map.mp hw
  have hk := List.mem_range.mp hk
  match k, hk with
  | 0, _ => exact mf_9_0
  | 1, _ => exact mf_9_1
  | 2, _ => exact mf_9_2
  | 3, _ => exact mf_9_3
  | 4, _ => exact mf_9_4
  | 5, _ => exact mf_9_5
  | 6, _ => exact mf_9_6
  | 7, _ => exact mf_9_7
  | 8, _ => exact mf_9_8
  | 9, _ => exact mf_9_9
  | k + 10, hk => exact absurd hk (by omega)
theorem ct_9 : ∀ k, k < 10 → cty (fkd 9 k) (tyX10 k) := by
  intro k hk
  match k, hk with
  | 0, _ => exact cty_a 100
  | 1, _ => exact cty_a 102
  | 2, _ => exact (rfl : _ = _)
  | 3, _ => exact (rfl : _ = _)
  | 4, _ => exact (rfl : _ = _)
  | 5, _ => exact (rfl : _ = _)
  | 6, _ => exact (rfl : _ = _)
  | 7, _ => exact (rfl : _ = _)
  | 8, _ => exact (rfl : _ = _)
  | 9, _ => exact cty_a 100
  | k + 10, hk => exact absurd hk (by omega)
theorem cl_10 : clX[10]? = some (RX11, TX11, 20) := rfl
theorem nf_10 : nfl 10 = 20 := rfl
theorem in_10 : ∀ w ∈ u_ws RX11 TX11 20, w ∈ wa := by
  intro w hw
  obtain ⟨k, hk, rfl⟩ := List.mem_map.mp hw
  have hk := List.mem_range.mp hk
  match k, hk with
  | 0, _ => exact mf_10_0
  | 1, _ => exact mf_10_1
  | 2, _ => exact mf_10_2
  | 3, _ => exact mf_10_3
  | 4, _ => exact mf_10_4
  | 5, _ => exact mf_10_5
  | 6, _ => exact mf_10_6
  | 7, _ => exact mf_10_7
  | 8, _ => exact mf_10_8
  | 9, _ => exact mf_10_9
  | 10, _ => exact mf_10_10
  | 11, _ => exact mf_10_11
  | 12, _ => exact mf_10_12
  | 13, _ => exact mf_10_13
  | 14, _ => exact mf_10_14
  | 15, _ => exact mf_10_15
  | 16, _ => exact mf_10_16
  | 17, _ => exact mf_10_17
  | 18, _ => exact mf_10_18
  | 19, _ => exact mf_10_19
  | k + 20, hk => exact absurd hk (by omega)
theorem ct_10 : ∀ k, k < 20 → cty (fkd 10 k) (tyX11 k) := by
  intro k hk
  match k, hk with
  | 0, _ => exact cty_a 100
  | 1, _ => exact (rfl : _ = _)
  | 2, _ => exact cty_a 200
  | 3, _ => exact (rfl : _ = _)
  | 4, _ => exact cty_a 202
  | 5, _ => exact (rfl : _ = _)
  | 6, _ => exact cty_a 201
  | 7, _ => exact (rfl : _ = _)
  | 8, _ => exact cty_a 207
  | 9, _ => exact (rfl : _ = _)
  | 10, _ => exact cty_a 100
  | 11, _ => exact cty_a 100
  | 12, _ => exact (rfl : _ = _)
  | 13, _ => exact (rfl : _ = _)
  | 14, _ => exact (rfl : _ = _)
  | 15, _ => exact cty_a 100
  | 16, _ => exact (rfl : _ = _)
  | 17, _ => exact cty_o 7
  | 18, _ => exact cty_o 3
  | 19, _ => exact cty_o 6
  | k + 20, hk => exact absurd hk (by omega)
theorem cl_11 : clX[11]? = some (RX12, TX12, 71) := rfl
theorem nf_11 : nfl 11 = 71 := rfl
theorem in_11 : ∀ w ∈ u_ws RX12 TX12 71, w ∈ wa := by
  intro w hw
  obtain ⟨k, hk, rfl⟩ := List.mem_map.mp hw
  have hk := List.mem_range.mp hk
  match k, hk with
  | 0, _ => exact mf_11_0
  | 1, _ => exact mf_11_1
  | 2, _ => exact mf_11_2
  | 3, _ => exact mf_11_3
  | 4, _ => exact mf_11_4
  | 5, _ => exact mf_11_5
  | 6, _ => exact mf_11_6
  | 7, _ => exact mf_11_7
  | 8, _ => exact mf_11_8
  | 9, _ => exact mf_11_9
  | 10, _ => exact mf_11_10
  | 11, _ => exact mf_11_11
  | 12, _ => exact mf_11_12
  | 13, _ => exact mf_11_13
  | 14, _ => exact mf_11_14
  | 15, _ => exact mf_11_15
  | 16, _ => exact mf_11_16
  | 17, _ => exact mf_11_17
  | 18, _ => exact mf_11_18
  | 19, _ => exact mf_11_19
  | 20, _ => exact mf_11_20
  | 21, _ => exact mf_11_21
  | 22, _ => exact mf_11_22
  | 23, _ => exact mf_11_23
  | 24, _ => exact mf_11_24
  | 25, _ => exact mf_11_25
  | 26, _ => exact mf_11_26
  | 27, _ => exact mf_11_27
  | 28, _ => exact mf_11_28
  | 29, _ => exact mf_11_29
  | 30, _ => exact mf_11_30
  | 31, _ => exact mf_11_31
  | 32, _ => exact mf_11_32
  | 33, _ => exact mf_11_33
  | 34, _ => exact mf_11_34
  | 35, _ => exact mf_11_35
  | 36, _ => exact mf_11_36
  | 37, _ => exact mf_11_37
  | 38, _ => exact mf_11_38
  | 39, _ => exact mf_11_39
  | 40, _ => exact mf_11_40
  | 41, _ => exact mf_11_41
  | 42, _ => exact mf_11_42
  | 43, _ => exact mf_11_43
  | 44, _ => exact mf_11_44
  | 45, _ => exact mf_11_45
  | 46, _ => exact mf_11_46
  | 47, _ => exact mf_11_47
  | 48, _ => exact mf_11_48
  | 49, _ => exact mf_11_49
  | 50, _ => exact mf_11_50
  | 51, _ => exact mf_11_51
  | 52, _ => exact mf_11_52
  | 53, _ => exact mf_11_53
  | 54, _ => exact mf_11_54
  | 55, _ => exact mf_11_55
  | 56, _ => exact mf_11_56
  | 57, _ => exact mf_11_57
  | 58, _ => exact mf_11_58
  | 59, _ => exact mf_11_59
  | 60, _ => exact mf_11_60
  | 61, _ => exact mf_11_61
  | 62, _ => exact mf_11_62
  | 63, _ => exact mf_11_63
  | 64, _ => exact mf_11_64
  | 65, _ => exact mf_11_65
  | 66, _ => exact mf_11_66
  | 67, _ => exact mf_11_67
  | 68, _ => exact mf_11_68
  | 69, _ => exact mf_11_69
  | 70, _ => exact mf_11_70
  | k + 71, hk => exact absurd hk (by omega)
theorem ct_11 : ∀ k, k < 71 → cty (fkd 11 k) (tyX12 k) := by
  intro k hk
  match k, hk with
  | 0, _ => exact (rfl : _ = _)
  | 1, _ => exact cty_a 100
  | 2, _ => exact (rfl : _ = _)
  | 3, _ => exact (rfl : _ = _)
  | 4, _ => exact (rfl : _ = _)
  | 5, _ => exact cty_a 100
  | 6, _ => exact cty_a 100
  | 7, _ => exact cty_a 100
  | 8, _ => exact cty_a 100
  | 9, _ => exact cty_a 102
  | 10, _ => exact cty_a 100
  | 11, _ => exact cty_a 100
  | 12, _ => exact cty_a 100
  | 13, _ => exact cty_a 100
  | 14, _ => exact (rfl : _ = _)
  | 15, _ => exact cty_a 100
  | 16, _ => exact cty_a 100
  | 17, _ => exact cty_a 100
  | 18, _ => exact cty_a 100
  | 19, _ => exact cty_a 100
  | 20, _ => exact cty_a 100
  | 21, _ => exact cty_a 100
  | 22, _ => exact cty_a 100
  | 23, _ => exact cty_a 100
  | 24, _ => exact cty_a 100
  | 25, _ => exact cty_a 100
  | 26, _ => exact cty_a 100
  | 27, _ => exact cty_a 100
  | 28, _ => exact (rfl : _ = _)
  | 29, _ => exact (rfl : _ = _)
  | 30, _ => exact cty_a 101
  | 31, _ => exact cty_a 101
  | 32, _ => exact cty_a 100
  | 33, _ => exact cty_a 102
  | 34, _ => exact (rfl : _ = _)
  | 35, _ => exact (rfl : _ = _)
  | 36, _ => exact cty_a 100
  | 37, _ => exact cty_a 100
  | 38, _ => exact (rfl : _ = _)
  | 39, _ => exact (rfl : _ = _)
  | 40, _ => exact (rfl : _ = _)
  | 41, _ => exact (rfl : _ = _)
  | 42, _ => exact cty_a 100
  | 43, _ => exact cty_a 100
  | 44, _ => exact cty_a 100
  | 45, _ => exact cty_a 100
  | 46, _ => exact cty_a 100
  | 47, _ => exact cty_a 100
  | 48, _ => exact cty_a 100
  | 49, _ => exact (rfl : _ = _)
  | 50, _ => exact cty_a 100
  | 51, _ => exact cty_a 100
  | 52, _ => exact cty_a 100
  | 53, _ => exact cty_a 100
  | 54, _ => exact (rfl : _ = _)
  | 55, _ => exact cty_a 100
  | 56, _ => exact (rfl : _ = _)
  | 57, _ => exact (rfl : _ = _)
  | 58, _ => exact (rfl : _ = _)
  | 59, _ => exact (rfl : _ = _)
  | 60, _ => exact (rfl : _ = _)
  | 61, _ => exact cty_a 100
  | 62, _ => exact cty_a 100
  | 63, _ => exact (rfl : _ = _)
  | 64, _ => exact (rfl : _ = _)
  | 65, _ => exact (rfl : _ = _)
  | 66, _ => exact cty_a 100
  | 67, _ => exact cty_a 100
  | 68, _ => exact cty_a 100
  | 69, _ => exact (rfl : _ = _)
  | 70, _ => exact (rfl : _ = _)
  | k + 71, hk => exact absurd hk (by omega)
theorem si_160 : (Int16.ofInt 160).toInt32 = Int32.ofInt 160 := by decide
theorem ii_160 : inI 160 := by unfold inI; omega
theorem bi_6 : (Int8.ofInt 6).toInt32 = Int32.ofInt 6 := by decide
theorem ii_6 : inI 6 := by unfold inI; omega
theorem bi_8 : (Int8.ofInt 8).toInt32 = Int32.ofInt 8 := by decide
theorem ii_8 : inI 8 := by unfold inI; omega
theorem bi_60 : (Int8.ofInt 60).toInt32 = Int32.ofInt 60 := by decide
theorem ii_60 : inI 60 := by unfold inI; omega
theorem bi_30 : (Int8.ofInt 30).toInt32 = Int32.ofInt 30 := by decide
theorem ii_30 : inI 30 := by unfold inI; omega
theorem ii_m1 : inI (-1) := by unfold inI; omega
theorem bi_24 : (Int8.ofInt 24).toInt32 = Int32.ofInt 24 := by decide
theorem ii_24 : inI 24 := by unfold inI; omega
theorem ii_0 : inI 0 := by unfold inI; omega
theorem si_255 : (Int16.ofInt 255).toInt32 = Int32.ofInt 255 := by decide
theorem ii_255 : inI 255 := by unfold inI; omega
theorem ii_1 : inI 1 := by unfold inI; omega
theorem bi_80 : (Int8.ofInt 80).toInt32 = Int32.ofInt 80 := by decide
theorem ii_80 : inI 80 := by unfold inI; omega
theorem bi_m2 : (Int8.ofInt (-2)).toInt32 = Int32.ofInt (-2) := by decide
theorem ii_m2 : inI (-2) := by unfold inI; omega
theorem si_10000 : (Int16.ofInt 10000).toInt32 = Int32.ofInt 10000 := by decide
theorem ii_10000 : inI 10000 := by unfold inI; omega
theorem bi_59 : (Int8.ofInt 59).toInt32 = Int32.ofInt 59 := by decide
theorem ii_59 : inI 59 := by unfold inI; omega
theorem bi_63 : (Int8.ofInt 63).toInt32 = Int32.ofInt 63 := by decide
theorem ii_63 : inI 63 := by unfold inI; omega
theorem si_9999 : (Int16.ofInt 9999).toInt32 = Int32.ofInt 9999 := by decide
theorem ii_9999 : inI 9999 := by unfold inI; omega
theorem bi_46 : (Int8.ofInt 46).toInt32 = Int32.ofInt 46 := by decide
theorem ii_46 : inI 46 := by unfold inI; omega
theorem ii_3 : inI 3 := by unfold inI; omega
theorem bi_7 : (Int8.ofInt 7).toInt32 = Int32.ofInt 7 := by decide
theorem ii_7 : inI 7 := by unfold inI; omega
theorem ii_2 : inI 2 := by unfold inI; omega
theorem bi_12 : (Int8.ofInt 12).toInt32 = Int32.ofInt 12 := by decide
theorem ii_12 : inI 12 := by unfold inI; omega
theorem bi_13 : (Int8.ofInt 13).toInt32 = Int32.ofInt 13 := by decide
theorem ii_13 : inI 13 := by unfold inI; omega
theorem ii_4000000 : inI 4000000 := by unfold inI; omega
theorem si_5000 : (Int16.ofInt 5000).toInt32 = Int32.ofInt 5000 := by decide
theorem ii_5000 : inI 5000 := by unfold inI; omega
theorem si_m1000 : (Int16.ofInt (-1000)).toInt32 = Int32.ofInt (-1000) := by decide
theorem ii_m1000 : inI (-1000) := by unfold inI; omega
theorem bi_20 : (Int8.ofInt 20).toInt32 = Int32.ofInt 20 := by decide
theorem ii_20 : inI 20 := by unfold inI; omega
theorem bi_31 : (Int8.ofInt 31).toInt32 = Int32.ofInt 31 := by decide
theorem ii_31 : inI 31 := by unfold inI; omega
theorem bi_14 : (Int8.ofInt 14).toInt32 = Int32.ofInt 14 := by decide
theorem ii_14 : inI 14 := by unfold inI; omega
theorem si_999 : (Int16.ofInt 999).toInt32 = Int32.ofInt 999 := by decide
theorem ii_999 : inI 999 := by unfold inI; omega
theorem si_1000 : (Int16.ofInt 1000).toInt32 = Int32.ofInt 1000 := by decide
theorem ii_1000 : inI 1000 := by unfold inI; omega
theorem bi_9 : (Int8.ofInt 9).toInt32 = Int32.ofInt 9 := by decide
theorem ii_9 : inI 9 := by unfold inI; omega
theorem bi_99 : (Int8.ofInt 99).toInt32 = Int32.ofInt 99 := by decide
theorem ii_99 : inI 99 := by unfold inI; omega
theorem bi_33 : (Int8.ofInt 33).toInt32 = Int32.ofInt 33 := by decide
theorem ii_33 : inI 33 := by unfold inI; omega
theorem il_1442695040888963407 : inL 1442695040888963407 := by unfold inL; omega
theorem il_6364136223846793005 : inL 6364136223846793005 := by unfold inL; omega
theorem ii_5 : inI 5 := by unfold inI; omega
theorem bi_15 : (Int8.ofInt 15).toInt32 = Int32.ofInt 15 := by decide
theorem ii_15 : inI 15 := by unfold inI; omega
theorem si_366 : (Int16.ofInt 366).toInt32 = Int32.ofInt 366 := by decide
theorem ii_366 : inI 366 := by unfold inI; omega
theorem si_365 : (Int16.ofInt 365).toInt32 = Int32.ofInt 365 := by decide
theorem ii_365 : inI 365 := by unfold inI; omega
theorem bi_29 : (Int8.ofInt 29).toInt32 = Int32.ofInt 29 := by decide
theorem ii_29 : inI 29 := by unfold inI; omega
theorem bi_28 : (Int8.ofInt 28).toInt32 = Int32.ofInt 28 := by decide
theorem ii_28 : inI 28 := by unfold inI; omega
theorem si_224 : (Int16.ofInt 224).toInt32 = Int32.ofInt 224 := by decide
theorem ii_224 : inI 224 := by unfold inI; omega
theorem ii_280028 : inI 280028 := by unfold inI; omega
theorem bi_54 : (Int8.ofInt 54).toInt32 = Int32.ofInt 54 := by decide
theorem ii_54 : inI 54 := by unfold inI; omega
theorem bi_108 : (Int8.ofInt 108).toInt32 = Int32.ofInt 108 := by decide
theorem ii_108 : inI 108 := by unfold inI; omega
theorem bi_36 : (Int8.ofInt 36).toInt32 = Int32.ofInt 36 := by decide
theorem ii_36 : inI 36 := by unfold inI; omega
theorem ii_90009 : inI 90009 := by unfold inI; omega
theorem bi_117 : (Int8.ofInt 117).toInt32 = Int32.ofInt 117 := by decide
theorem ii_117 : inI 117 := by unfold inI; omega
theorem si_10001 : (Int16.ofInt 10001).toInt32 = Int32.ofInt 10001 := by decide
theorem ii_10001 : inI 10001 := by unfold inI; omega
theorem ii_4 : inI 4 := by unfold inI; omega
theorem bi_16 : (Int8.ofInt 16).toInt32 = Int32.ofInt 16 := by decide
theorem ii_16 : inI 16 := by unfold inI; omega
theorem bi_32 : (Int8.ofInt 32).toInt32 = Int32.ofInt 32 := by decide
theorem ii_32 : inI 32 := by unfold inI; omega
theorem bi_48 : (Int8.ofInt 48).toInt32 = Int32.ofInt 48 := by decide
theorem ii_48 : inI 48 := by unfold inI; omega
theorem bi_57 : (Int8.ofInt 57).toInt32 = Int32.ofInt 57 := by decide
theorem ii_57 : inI 57 := by unfold inI; omega
theorem bi_10 : (Int8.ofInt 10).toInt32 = Int32.ofInt 10 := by decide
theorem ii_10 : inI 10 := by unfold inI; omega
theorem bi_11 : (Int8.ofInt 11).toInt32 = Int32.ofInt 11 := by decide
theorem ii_11 : inI 11 := by unfold inI; omega
theorem bi_100 : (Int8.ofInt 100).toInt32 = Int32.ofInt 100 := by decide
theorem ii_100 : inI 100 := by unfold inI; omega
theorem bi_43 : (Int8.ofInt 43).toInt32 = Int32.ofInt 43 := by decide
theorem ii_43 : inI 43 := by unfold inI; omega
theorem bi_45 : (Int8.ofInt 45).toInt32 = Int32.ofInt 45 := by decide
theorem ii_45 : inI 45 := by unfold inI; omega
theorem bi_58 : (Int8.ofInt 58).toInt32 = Int32.ofInt 58 := by decide
theorem ii_58 : inI 58 := by unfold inI; omega
theorem bi_64 : (Int8.ofInt 64).toInt32 = Int32.ofInt 64 := by decide
theorem ii_64 : inI 64 := by unfold inI; omega
theorem bi_107 : (Int8.ofInt 107).toInt32 = Int32.ofInt 107 := by decide
theorem ii_107 : inI 107 := by unfold inI; omega
theorem bi_121 : (Int8.ofInt 121).toInt32 = Int32.ofInt 121 := by decide
theorem ii_121 : inI 121 := by unfold inI; omega
theorem bi_109 : (Int8.ofInt 109).toInt32 = Int32.ofInt 109 := by decide
theorem ii_109 : inI 109 := by unfold inI; omega
theorem bi_111 : (Int8.ofInt 111).toInt32 = Int32.ofInt 111 := by decide
theorem ii_111 : inI 111 := by unfold inI; omega
theorem si_400 : (Int16.ofInt 400).toInt32 = Int32.ofInt 400 := by decide
theorem ii_400 : inI 400 := by unfold inI; omega
theorem bi_61 : (Int8.ofInt 61).toInt32 = Int32.ofInt 61 := by decide
theorem ii_61 : inI 61 := by unfold inI; omega
theorem bi_115 : (Int8.ofInt 115).toInt32 = Int32.ofInt 115 := by decide
theorem ii_115 : inI 115 := by unfold inI; omega
theorem bi_114 : (Int8.ofInt 114).toInt32 = Int32.ofInt 114 := by decide
theorem ii_114 : inI 114 := by unfold inI; omega
theorem bi_98 : (Int8.ofInt 98).toInt32 = Int32.ofInt 98 := by decide
theorem ii_98 : inI 98 := by unfold inI; omega
theorem bi_44 : (Int8.ofInt 44).toInt32 = Int32.ofInt 44 := by decide
theorem ii_44 : inI 44 := by unfold inI; omega
theorem si_364 : (Int16.ofInt 364).toInt32 = Int32.ofInt 364 := by decide
theorem ii_364 : inI 364 := by unfold inI; omega
theorem il_1 : inL 1 := by unfold inL; omega
theorem il_100000 : inL 100000 := by unfold inL; omega
theorem il_1152921504606846976 : inL 1152921504606846976 := by unfold inL; omega
theorem il_0 : inL 0 := by unfold inL; omega
theorem ii_80008 : inI 80008 := by unfold inI; omega
theorem il_16384 : inL 16384 := by unfold inL; omega
theorem ii_5119903 : inI 5119903 := by unfold inI; omega
theorem si_8192 : (Int16.ofInt 8192).toInt32 = Int32.ofInt 8192 := by decide
theorem ii_8192 : inI 8192 := by unfold inI; omega
theorem il_4294967295 : inL 4294967295 := by unfold inL; omega
theorem ii_252645135 : inI 252645135 := by unfold inI; omega
theorem ii_858993459 : inI 858993459 := by unfold inI; omega
theorem ii_1431655765 : inI 1431655765 := by unfold inI; omega
def mtab : List mI5 := [(yX11_init, Cond.code yX11_init cX11_init 1 none, 1, 12, 0), (yX11_feed, Cond.code yX11_feed cX11_feed 7 (some .int), 1, 25, 1), (yX11_signsIn, Cond.code yX11_signsIn cX11_signsIn 3 (some .int), 0, 0, 1), (yX11_append, Cond.code yX11_append cX11_append 4 none, 0, 0, 0), (yX11_end, Cond.code yX11_end cX11_end 2 (some .boolean), 0, 0, 1), (yX11_fault, Cond.code yX11_fault cX11_fault 3 (some .int), 5, 131, 1), (yX11_text, Cond.code yX11_text cX11_text 2 (some .int), 6, 155, 1), (yX11_takeAlmanac, Cond.code yX11_takeAlmanac cX11_takeAlmanac 3 (some .int), 5, 131, 1), (yX11_takeHead, Cond.code yX11_takeHead cX11_takeHead 3 (some .int), 5, 129, 1), (yX11_takeThings, Cond.code yX11_takeThings cX11_takeThings 4 (some .int), 4, 99, 1), (yX11_readThings, Cond.code yX11_readThings cX11_readThings 4 (some .int), 3, 74, 1), (yX11_readThing, Cond.code yX11_readThing cX11_readThing 4 (some .int), 2, 49, 1), (yX11_date, Cond.code yX11_date cX11_date 6 (some .int), 4, 100, 1), (yX11_turned, Cond.code yX11_turned cX11_turned 10 (some .int), 4, 105, 1), (yX11_many, Cond.code yX11_many cX11_many 7 (some .int), 3, 77, 1), (yX11_kind, Cond.code yX11_kind cX11_kind 4 (some .int), 1, 23, 1), (yX11_like, Cond.code yX11_like cX11_like 8 (some .int), 2, 48, 1), (yX11_thirteenths, Cond.code yX11_thirteenths cX11_thirteenths 10 (some .int), 3, 78, 1), (yX11_mates, Cond.code yX11_mates cX11_mates 7 (some .int), 4, 105, 1), (yX11_unlike, Cond.code yX11_unlike cX11_unlike 7 (some .int), 4, 100, 1), (yX11_almanacAt, Cond.code yX11_almanacAt cX11_almanacAt 2 (some (.object "DayBoy$Almanac")), 0, 0, 3), (yX11_dayIn, Cond.code yX11_dayIn cX11_dayIn 6 (some .int), 3, 78, 1), (yX11_spotOn, Cond.code yX11_spotOn cX11_spotOn 7 (some (.object "DayBoy$Spot")), 3, 78, 10), (yX11_way, Cond.code yX11_way cX11_way 10 (some .int), 4, 108, 1), (yX11_answers, Cond.code yX11_answers cX11_answers 10 (some .int), 5, 134, 1), (yX11_part, Cond.code yX11_part cX11_part 12 (some .int), 5, 135, 1), (yX11_partInYear, Cond.code yX11_partInYear cX11_partInYear 6 (some .int), 4, 108, 1), (yX11_least, Cond.code yX11_least cX11_least 8 (some .int), 5, 140, 1), (yX11_reachedFrom, Cond.code yX11_reachedFrom cX11_reachedFrom 11 (some (.array .int)), 4, 108, 103), (yX11_fewestReaching, Cond.code yX11_fewestReaching cX11_fewestReaching 5 (some .int), 1, 25, 1), (yX11_loneOf, Cond.code yX11_loneOf cX11_loneOf 3 (some .int), 0, 0, 1), (yX11_unionOf, Cond.code yX11_unionOf cX11_unionOf 4 (some .int), 0, 0, 1), (yX11_mirrorOf, Cond.code yX11_mirrorOf cX11_mirrorOf 4 (some .int), 0, 0, 1), (yX11_row, Cond.code yX11_row cX11_row 9 (some .int), 5, 133, 1), (yX11_holds, Cond.code yX11_holds cX11_holds 9 (some .int), 5, 133, 1), (yX11_right, Cond.code yX11_right cX11_right 11 (some .int), 4, 108, 1), (yX11_lacks, Cond.code yX11_lacks cX11_lacks 11 (some .int), 3, 70, 1), (yX11_rises, Cond.code yX11_rises cX11_rises 11 (some .int), 2, 46, 1), (yX11_headAt, Cond.code yX11_headAt cX11_headAt 2 (some (.object "DayBoy$Head")), 0, 0, 5), (yX11_ask, Cond.code yX11_ask cX11_ask 9 (some .int), 4, 106, 1), (yX11_asked, Cond.code yX11_asked cX11_asked 4 (some .int), 2, 47, 1), (yX11_fits, Cond.code yX11_fits cX11_fits 2 (some .int), 7, 185, 1), (yX11_spare, Cond.code yX11_spare cX11_spare 3 (some .int), 7, 185, 1), (yX11_headsWrongAtMost, Cond.code yX11_headsWrongAtMost cX11_headsWrongAtMost 5 (some .int), 6, 159, 1), (yX11_so, Cond.code yX11_so cX11_so 4 (some .int), 6, 159, 1), (yX11_soCount, Cond.code yX11_soCount cX11_soCount 5 (some .int), 5, 133, 1), (yX11_further, Cond.code yX11_further cX11_further 6 (some .int), 2, 45, 1), (yX11_lived, Cond.code yX11_lived cX11_lived 5 (some .int), 0, 0, 1), (yX11_after, Cond.code yX11_after cX11_after 5 (some .int), 2, 47, 1), (yX11_learnt, Cond.code yX11_learnt cX11_learnt 10 (some .int), 5, 133, 1), (yX11_weigh, Cond.code yX11_weigh cX11_weigh 4 (some .boolean), 1, 23, 1), (yX11_odds, Cond.code yX11_odds cX11_odds 6 (some .int), 7, 185, 1), (yX11_plan, Cond.code yX11_plan cX11_plan 6 (some .int), 4, 106, 1), (yX11_parted, Cond.code yX11_parted cX11_parted 3 (some .int), 6, 160, 1), (yX11_next, Cond.code yX11_next cX11_next 6 (some .int), 6, 160, 1), (yX11_areHeads, Cond.code yX11_areHeads cX11_areHeads 2 (some .boolean), 0, 0, 1), (yX11_pairsParted, Cond.code yX11_pairsParted cX11_pairsParted 8 (some .int), 5, 131, 1), (yX11_run, Cond.code yX11_run cX11_run 14 (some .int), 5, 131, 1), (yX11_born, Cond.code yX11_born cX11_born 6 (some .boolean), 4, 106, 1), (yX11_age, Cond.code yX11_age cX11_age 9 (some .int), 5, 132, 1), (yX11_event, Cond.code yX11_event cX11_event 7 (some .int), 4, 105, 1), (yX11_held, Cond.code yX11_held cX11_held 6 (some .int), 4, 105, 1), (yX11_spell, Cond.code yX11_spell cX11_spell 4 (some .int), 2, 50, 1), (yX11_spellFrom, Cond.code yX11_spellFrom cX11_spellFrom 4 (some .int), 1, 25, 1), (yX11_sortsOn, Cond.code yX11_sortsOn cX11_sortsOn 4 (some .int), 0, 0, 1), (yX11_keep, Cond.code yX11_keep cX11_keep 1 (some .int), 0, 0, 1), (yX11_back, Cond.code yX11_back cX11_back 1 (some .int), 0, 0, 1), (yX11_count, Cond.code yX11_count cX11_count 2 (some .int), 0, 0, 1), (yX11_isYear, Cond.code yX11_isYear cX11_isYear 1 (some .boolean), 0, 0, 1), (yX11_areYears, Cond.code yX11_areYears cX11_areYears 2 (some .boolean), 1, 22, 1), (yX11_isSlack, Cond.code yX11_isSlack cX11_isSlack 1 (some .boolean), 0, 0, 1), (yX11_isSort, Cond.code yX11_isSort cX11_isSort 1 (some .boolean), 0, 0, 1), (yX11_isDatelike, Cond.code yX11_isDatelike cX11_isDatelike 3 (some .boolean), 1, 22, 1), (yX11_keyOf, Cond.code yX11_keyOf cX11_keyOf 3 (some .int), 0, 0, 1), (yX11_yearOfKey, Cond.code yX11_yearOfKey cX11_yearOfKey 1 (some .int), 0, 0, 1), (yX11_monthOfKey, Cond.code yX11_monthOfKey cX11_monthOfKey 1 (some .int), 0, 0, 1), (yX11_dateOfKey, Cond.code yX11_dateOfKey cX11_dateOfKey 1 (some .int), 0, 0, 1), (yX11_partOfKey, Cond.code yX11_partOfKey cX11_partOfKey 2 (some .int), 1, 22, 1), (yX11_yearLength, Cond.code yX11_yearLength cX11_yearLength 1 (some .int), 0, 0, 1), (yX11_monthLength, Cond.code yX11_monthLength cX11_monthLength 2 (some .int), 0, 0, 1), (yX11_placeInYear, Cond.code yX11_placeInYear cX11_placeInYear 3 (some .int), 0, 0, 1), (yX11_keyAt, Cond.code yX11_keyAt cX11_keyAt 5 (some .int), 1, 24, 1), (yX11_offBy, Cond.code yX11_offBy cX11_offBy 2 (some .int), 1, 24, 1), (yX12_in, Cond.code yX12_in cX12_in 3 (some .boolean), 0, 0, 1), (yX12_init, Cond.code yX12_init cX12_init 1 none, 1, 12, 0), (yX12_thrown, Cond.code yX12_thrown cX12_thrown 1 (some .int), 0, 0, 1), (yX12_byteOf, Cond.code yX12_byteOf cX12_byteOf 7 (some .int), 0, 0, 1), (yX12_feed, Cond.code yX12_feed cX12_feed 9 (some .int), 1, 28, 1), (yX12_end, Cond.code yX12_end cX12_end 2 (some .boolean), 0, 0, 1), (yX12_here, Cond.code yX12_here cX12_here 1 (some .int), 0, 0, 1), (yX12_look, Cond.code yX12_look cX12_look 1 (some .int), 1, 22, 1), (yX12_bad, Cond.code yX12_bad cX12_bad 1 none, 0, 0, 0), (yX12_isDigit, Cond.code yX12_isDigit cX12_isDigit 1 (some .boolean), 0, 0, 1), (yX12_sign, Cond.code yX12_sign cX12_sign 2 none, 2, 44, 0), (yX12_number, Cond.code yX12_number cX12_number 5 (some .int), 2, 44, 1), (yX12_wrongAtLast, Cond.code yX12_wrongAtLast cX12_wrongAtLast 1 none, 0, 0, 0), (yX12_closeNumber, Cond.code yX12_closeNumber cX12_closeNumber 1 none, 1, 22, 0), (yX12_plain, Cond.code yX12_plain cX12_plain 4 (some .int), 3, 70, 1), (yX12_isLeap, Cond.code yX12_isLeap cX12_isLeap 5 (some .boolean), 0, 0, 1), (yX12_daysOf, Cond.code yX12_daysOf cX12_daysOf 4 (some .int), 1, 26, 1), (yX12_code, Cond.code yX12_code cX12_code 3 (some .int), 0, 0, 1), (yX12_ordinal, Cond.code yX12_ordinal cX12_ordinal 7 (some .int), 2, 51, 1), (yX12_layOut, Cond.code yX12_layOut cX12_layOut 4 none, 1, 26, 0), (yX12_dated, Cond.code yX12_dated cX12_dated 7 (some .int), 2, 51, 1), (yX12_readLeaps, Cond.code yX12_readLeaps cX12_readLeaps 5 none, 4, 95, 0), (yX12_readCalendar, Cond.code yX12_readCalendar cX12_readCalendar 3 (some .int), 6, 149, 1), (yX12_change, Cond.code yX12_change cX12_change 7 none, 5, 121, 0), (yX12_item, Cond.code yX12_item cX12_item 4 none, 5, 120, 0), (yX12_readStep, Cond.code yX12_readStep cX12_readStep 4 none, 4, 95, 0), (yX12_readLike, Cond.code yX12_readLike cX12_readLike 3 none, 4, 95, 0), (yX12_readCost, Cond.code yX12_readCost cX12_readCost 4 none, 4, 95, 0), (yX12_readHead, Cond.code yX12_readHead cX12_readHead 3 (some .int), 6, 145, 1), (yX12_fault, Cond.code yX12_fault cX12_fault 2 (some .int), 7, 173, 1), (yX12_text, Cond.code yX12_text cX12_text 2 (some .int), 7, 173, 1), (yX12_isCalendar, Cond.code yX12_isCalendar cX12_isCalendar 2 (some .boolean), 1, 24, 1), (yX12_stretchOf, Cond.code yX12_stretchOf cX12_stretchOf 6 (some .int), 2, 51, 1), (yX12_isDate, Cond.code yX12_isDate cX12_isDate 5 (some .boolean), 3, 78, 1), (yX12_dayOf, Cond.code yX12_dayOf cX12_dayOf 6 (some .int), 3, 79, 1), (yX12_day, Cond.code yX12_day cX12_day 5 (some .int), 4, 106, 1), (yX12_dateOf, Cond.code yX12_dateOf cX12_dateOf 6 (some .int), 3, 79, 1), (yX12_partOf, Cond.code yX12_partOf cX12_partOf 2 (some .int), 0, 0, 1), (yX12_date, Cond.code yX12_date cX12_date 5 (some .int), 4, 106, 1), (yX12_turned, Cond.code yX12_turned cX12_turned 7 (some .int), 5, 132, 1), (yX12_many, Cond.code yX12_many cX12_many 7 (some .int), 4, 104, 1), (yX12_kindOf, Cond.code yX12_kindOf cX12_kindOf 5 (some .int), 4, 106, 1), (yX12_kind, Cond.code yX12_kind cX12_kind 3 (some .int), 5, 132, 1), (yX12_push, Cond.code yX12_push cX12_push 2 none, 0, 0, 0), (yX12_flood, Cond.code yX12_flood cX12_flood 5 none, 2, 52, 0), (yX12_touch, Cond.code yX12_touch cX12_touch 7 none, 1, 24, 0), (yX12_knowsYear, Cond.code yX12_knowsYear cX12_knowsYear 4 (some .boolean), 1, 24, 1), (yX12_spread, Cond.code yX12_spread cX12_spread 8 none, 3, 78, 0), (yX12_nextYear, Cond.code yX12_nextYear cX12_nextYear 9 (some .int), 1, 24, 1), (yX12_nextMonth, Cond.code yX12_nextMonth cX12_nextMonth 8 (some .int), 0, 0, 1), (yX12_isHead, Cond.code yX12_isHead cX12_isHead 2 (some .boolean), 1, 24, 1), (yX12_goes, Cond.code yX12_goes cX12_goes 6 (some .boolean), 4, 104, 1), (yX12_way, Cond.code yX12_way cX12_way 9 (some .int), 5, 131, 1), (yX12_answer, Cond.code yX12_answer cX12_answer 8 (some .boolean), 5, 131, 1), (yX12_round, Cond.code yX12_round cX12_round 2 (some .int), 0, 0, 1), (yX12_falseStep, Cond.code yX12_falseStep cX12_falseStep 5 (some .int), 5, 132, 1), (yX12_answers, Cond.code yX12_answers cX12_answers 7 (some .int), 6, 160, 1), (yX12_ask, Cond.code yX12_ask cX12_ask 8 (some .int), 4, 104, 1), (yX12_askDay, Cond.code yX12_askDay cX12_askDay 2 (some .int), 4, 106, 1), (yX12_asked, Cond.code yX12_asked cX12_asked 3 (some .int), 5, 129, 1), (yX12_isSo, Cond.code yX12_isSo cX12_isSo 4 (some .boolean), 6, 160, 1), (yX12_soMany, Cond.code yX12_soMany cX12_soMany 5 (some .int), 7, 185, 1), (yX12_isSlack, Cond.code yX12_isSlack cX12_isSlack 2 (some .boolean), 1, 24, 1), (yX12_fits, Cond.code yX12_fits cX12_fits 4 (some .int), 8, 211, 1), (yX12_so, Cond.code yX12_so cX12_so 3 (some .int), 8, 211, 1), (yX12_further, Cond.code yX12_further cX12_further 6 (some .int), 1, 24, 1), (yX12_mean, Cond.code yX12_mean cX12_mean 2 (some .int), 0, 0, 1), (yX12_lived, Cond.code yX12_lived cX12_lived 5 (some .int), 5, 129, 1), (yX12_after, Cond.code yX12_after cX12_after 7 (some .int), 5, 132, 1), (yX12_learnt, Cond.code yX12_learnt cX12_learnt 8 (some .int), 7, 185, 1), (yX12_weigh, Cond.code yX12_weigh cX12_weigh 3 (some .boolean), 2, 47, 1), (yX12_odds, Cond.code yX12_odds cX12_odds 5 (some .int), 8, 211, 1), (yX12_plan, Cond.code yX12_plan cX12_plan 5 (some .int), 4, 104, 1), (yX12_areApart, Cond.code yX12_areApart cX12_areApart 11 (some .boolean), 6, 160, 1), (yX12_partedBy, Cond.code yX12_partedBy cX12_partedBy 7 (some .int), 7, 192, 1), (yX12_areHeads, Cond.code yX12_areHeads cX12_areHeads 2 (some .boolean), 0, 0, 1), (yX12_parted, Cond.code yX12_parted cX12_parted 3 (some .int), 8, 220, 1), (yX12_next, Cond.code yX12_next cX12_next 6 (some .int), 8, 220, 1), (yX12_part, Cond.code yX12_part cX12_part 9 (some .int), 7, 192, 1), (yX12_nearYears, Cond.code yX12_nearYears cX12_nearYears 9 none, 3, 78, 0), (yX12_doAll, Cond.code yX12_doAll cX12_doAll 4 (some .boolean), 0, 0, 1), (yX12_least, Cond.code yX12_least cX12_least 10 (some .int), 4, 108, 1), (yX12_like, Cond.code yX12_like cX12_like 7 (some .int), 5, 132, 1), (yX12_thirteenths, Cond.code yX12_thirteenths cX12_thirteenths 8 (some .int), 4, 106, 1), (yX12_mates, Cond.code yX12_mates cX12_mates 6 (some .int), 4, 106, 1), (yX12_born, Cond.code yX12_born cX12_born 5 (some .boolean), 4, 106, 1), (yX12_firstFrom, Cond.code yX12_firstFrom cX12_firstFrom 6 (some .int), 4, 106, 1), (yX12_age, Cond.code yX12_age cX12_age 8 (some .int), 5, 133, 1), (yX12_event, Cond.code yX12_event cX12_event 6 (some .int), 4, 106, 1), (yX12_held, Cond.code yX12_held cX12_held 7 (some .int), 4, 106, 1), (yX12_hasEvent, Cond.code yX12_hasEvent cX12_hasEvent 4 (some .boolean), 0, 0, 1), (yX12_spell, Cond.code yX12_spell cX12_spell 5 (some .int), 1, 25, 1), (yX12_keep, Cond.code yX12_keep cX12_keep 1 (some .int), 0, 0, 1), (yX12_back, Cond.code yX12_back cX12_back 1 (some .int), 1, 23, 1), (yX12_readRow, Cond.code yX12_readRow cX12_readRow 4 (some .int), 5, 122, 1), (yX12_readThing, Cond.code yX12_readThing cX12_readThing 6 none, 4, 95, 0), (yX12_takeRow, Cond.code yX12_takeRow cX12_takeRow 1 (some .int), 6, 147, 1), (yX12_row, Cond.code yX12_row cX12_row 8 (some .int), 6, 160, 1), (yX12_draw, Cond.code yX12_draw cX12_draw 2 (some .int), 0, 0, 1), (yX12_isEased, Cond.code yX12_isEased cX12_isEased 3 (some .boolean), 5, 132, 1), (yX12_run, Cond.code yX12_run cX12_run 12 (some .int), 6, 160, 1), (yX12_areYears, Cond.code yX12_areYears cX12_areYears 3 (some .boolean), 1, 24, 1), (yX12_holds, Cond.code yX12_holds cX12_holds 7 (some .int), 6, 161, 1), (yX12_stepTrue, Cond.code yX12_stepTrue cX12_stepTrue 8 (some .int), 5, 132, 1), (yX12_monthsTrue, Cond.code yX12_monthsTrue cX12_monthsTrue 8 (some .int), 4, 106, 1), (yX12_right, Cond.code yX12_right cX12_right 9 (some .int), 6, 160, 1), (yX12_lacks, Cond.code yX12_lacks cX12_lacks 7 (some .int), 2, 53, 1), (yX12_yearsLack, Cond.code yX12_yearsLack cX12_yearsLack 8 (some .int), 1, 24, 1), (yX12_costOf, Cond.code yX12_costOf cX12_costOf 3 (some .int), 0, 0, 1), (yX12_spare, Cond.code yX12_spare cX12_spare 5 (some .int), 8, 211, 1), (yX12_unlike, Cond.code yX12_unlike cX12_unlike 5 (some .int), 4, 106, 1), (yX12_rises, Cond.code yX12_rises cX12_rises 8 (some .int), 2, 48, 1), (yX12_count, Cond.code yX12_count cX12_count 2 (some .int), 0, 0, 1), (yX0_init, Cond.code yX0_init cX0_init 1 none, 1, 12, 0), (yX0_readFrom, Cond.code yX0_readFrom cX0_readFrom 4 (some (.object "DayBoy$Almanac")), 4, 106, 3), (yX0_add, Cond.code yX0_add cX0_add 2 none, 0, 0, 0), (yX0_readChange, Cond.code yX0_readChange cX0_readChange 7 (some (.object "DayBoy$Stretch")), 3, 78, 12), (yX0_lay, Cond.code yX0_lay cX0_lay 6 none, 3, 78, 0), (yX0_kindOf, Cond.code yX0_kindOf cX0_kindOf 2 (some .int), 0, 0, 1), (yX0_areLike, Cond.code yX0_areLike cX0_areLike 3 (some .boolean), 1, 23, 1), (yX0_dayOn, Cond.code yX0_dayOn cX0_dayOn 6 (some .int), 2, 51, 1), (yX0_keyOn, Cond.code yX0_keyOn cX0_keyOn 4 (some .int), 3, 75, 1), (yX0_datesIn, Cond.code yX0_datesIn cX0_datesIn 5 (some .int), 2, 51, 1), (yX0_areAlike, Cond.code yX0_areAlike cX0_areAlike 6 (some .boolean), 3, 78, 1), (yX0_firstFrom, Cond.code yX0_firstFrom cX0_firstFrom 6 (some .int), 4, 105, 1), (yX0_firstInMonth, Cond.code yX0_firstInMonth cX0_firstInMonth 6 (some .int), 3, 78, 1), (yX1_init, Cond.code yX1_init cX1_init 5 none, 1, 12, 0), (yX1_isSoWith, Cond.code yX1_isSoWith cX1_isSoWith 4 (some .boolean), 4, 108, 1), (yX1_yearsFrom, Cond.code yX1_yearsFrom cX1_yearsFrom 2 (some .int), 1, 22, 1), (yX2_init, Cond.code yX2_init cX2_init 1 none, 2, 34, 0), (yX2_readFrom, Cond.code yX2_readFrom cX2_readFrom 3 (some (.object "DayBoy$Head")), 4, 97, 5), (yX2_readItem, Cond.code yX2_readItem cX2_readItem 2 none, 3, 74, 0), (yX2_readRange, Cond.code yX2_readRange cX2_readRange 2 none, 2, 49, 0), (yX2_readMonth, Cond.code yX2_readMonth cX2_readMonth 3 none, 2, 49, 0), (yX2_readExtra, Cond.code yX2_readExtra cX2_readExtra 3 none, 2, 49, 0), (yX2_findRows, Cond.code yX2_findRows cX2_findRows 4 none, 4, 104, 0), (yX2_extraOf, Cond.code yX2_extraOf cX2_extraOf 2 (some .int), 1, 23, 1), (yX2_toldAt, Cond.code yX2_toldAt cX2_toldAt 2 (some .int), 4, 108, 1), (yX2_toldFor, Cond.code yX2_toldFor cX2_toldFor 9 (some .int), 3, 78, 1), (yX2_saysTo, Cond.code yX2_saysTo cX2_saysTo 4 (some .int), 4, 108, 1), (yX2_falseStep, Cond.code yX2_falseStep cX2_falseStep 8 (some .int), 4, 105, 1), (yX2_trueSteps, Cond.code yX2_trueSteps cX2_trueSteps 8 (some .int), 2, 47, 1), (yX2_truePairs, Cond.code yX2_truePairs cX2_truePairs 7 (some .int), 4, 105, 1), (yX2_monthsLacked, Cond.code yX2_monthsLacked cX2_monthsLacked 3 (some .int), 2, 46, 1), (yX3_init, Cond.code yX3_init cX3_init 2 none, 1, 12, 0), (yX3_empty, Cond.code yX3_empty cX3_empty 2 none, 0, 0, 0), (yX3_put, Cond.code yX3_put cX3_put 4 none, 1, 24, 0), (yX3_takeLeast, Cond.code yX3_takeLeast cX3_takeLeast 4 (some .int), 2, 52, 1), (yX3_sink, Cond.code yX3_sink cX3_sink 6 none, 1, 25, 0), (yX3_lesserChild, Cond.code yX3_lesserChild cX3_lesserChild 4 (some .int), 0, 0, 1), (yX3_set, Cond.code yX3_set cX3_set 3 none, 0, 0, 0), (yX5_init, Cond.code yX5_init cX5_init 1 none, 1, 12, 0), (yX5_lineCount, Cond.code yX5_lineCount cX5_lineCount 1 (some .int), 0, 0, 1), (yX5_over, Cond.code yX5_over cX5_over 3 (some .int), 1, 20, 1), (yX5_costOf, Cond.code yX5_costOf cX5_costOf 2 (some .int), 0, 0, 1), (yX5_readFrom, Cond.code yX5_readFrom cX5_readFrom 2 none, 2, 49, 0), (yX6_init, Cond.code yX6_init cX6_init 3 none, 1, 23, 0), (yX6_goTo, Cond.code yX6_goTo cX6_goTo 2 none, 0, 0, 0), (yX6_refuseAt, Cond.code yX6_refuseAt cX6_refuseAt 2 none, 0, 0, 0), (yX6_isRight, Cond.code yX6_isRight cX6_isRight 1 (some .boolean), 0, 0, 1), (yX6_seesDigit, Cond.code yX6_seesDigit cX6_seesDigit 1 (some .boolean), 0, 0, 1), (yX6_takes, Cond.code yX6_takes cX6_takes 2 (some .boolean), 1, 23, 1), (yX6_expect, Cond.code yX6_expect cX6_expect 2 none, 1, 23, 0), (yX6_finish, Cond.code yX6_finish cX6_finish 1 none, 1, 23, 0), (yX6_refuse, Cond.code yX6_refuse cX6_refuse 1 none, 1, 23, 0), (yX6_refuseNumber, Cond.code yX6_refuseNumber cX6_refuseNumber 1 none, 1, 23, 0), (yX6_number, Cond.code yX6_number cX6_number 5 (some .int), 1, 23, 1), (yX7_init, Cond.code yX7_init cX7_init 2 none, 1, 26, 0), (yX7_has, Cond.code yX7_has cX7_has 2 (some .boolean), 0, 0, 1), (yX7_know, Cond.code yX7_know cX7_know 2 none, 1, 23, 0), (yX7_find, Cond.code yX7_find cX7_find 5 none, 3, 78, 0), (yX7_chooseNext, Cond.code yX7_chooseNext cX7_chooseNext 6 none, 2, 46, 0), (yX7_goOn, Cond.code yX7_goOn cX7_goOn 8 none, 2, 49, 0), (yX7_reach, Cond.code yX7_reach cX7_reach 9 (some .int), 3, 78, 1), (yX7_costOf, Cond.code yX7_costOf cX7_costOf 2 (some .int), 1, 23, 1), (yX7_stepCount, Cond.code yX7_stepCount cX7_stepCount 2 (some .int), 1, 23, 1), (yX7_endOf, Cond.code yX7_endOf cX7_endOf 2 (some .int), 1, 23, 1), (yX7_nextOf, Cond.code yX7_nextOf cX7_nextOf 2 (some .int), 1, 23, 1), (yX7_stepOf, Cond.code yX7_stepOf cX7_stepOf 6 (some .int), 2, 46, 1), (yX8_init, Cond.code yX8_init cX8_init 5 none, 1, 22, 0), (yX8_isLike, Cond.code yX8_isLike cX8_isLike 3 (some .boolean), 1, 23, 1), (yX9_init, Cond.code yX9_init cX9_init 1 none, 1, 12, 0), (yX9_lineCount, Cond.code yX9_lineCount cX9_lineCount 1 (some .int), 0, 0, 1), (yX9_over, Cond.code yX9_over cX9_over 5 (some .int), 1, 20, 1), (yX9_costOf, Cond.code yX9_costOf cX9_costOf 3 (some .int), 0, 0, 1), (yX9_readFrom, Cond.code yX9_readFrom cX9_readFrom 3 none, 2, 50, 0), (yX9_has, Cond.code yX9_has cX9_has 3 (some .boolean), 0, 0, 1), (yX9_commonDivisor, Cond.code yX9_commonDivisor cX9_commonDivisor 6 (some .int), 1, 23, 1), (yX10_init, Cond.code yX10_init cX10_init 1 none, 1, 24, 0), (yX10_readLeaps, Cond.code yX10_readLeaps cX10_readLeaps 3 none, 2, 49, 0), (yX10_hasLeapDay, Cond.code yX10_hasLeapDay cX10_hasLeapDay 3 (some .boolean), 0, 0, 1), (yX10_canEndOn, Cond.code yX10_canEndOn cX10_canEndOn 4 (some .boolean), 1, 24, 1), (yX10_takeOver, Cond.code yX10_takeOver cX10_takeOver 7 none, 2, 50, 0), (yX10_lay, Cond.code yX10_lay cX10_lay 4 none, 2, 51, 0), (yX10_isLeapAt, Cond.code yX10_isLeapAt cX10_isLeapAt 2 (some .boolean), 0, 0, 1), (yX10_dayOn, Cond.code yX10_dayOn cX10_dayOn 6 (some .int), 1, 24, 1), (yX10_keyOn, Cond.code yX10_keyOn cX10_keyOn 4 (some .int), 2, 50, 1), (yX10_datesIn, Cond.code yX10_datesIn cX10_datesIn 6 (some .int), 1, 24, 1), (yL_day, Cond.codeWith yL_day cL_day 7 (some .int) [(0, 14, 17, 13)], 7, 128, 1), (yL_law, Cond.code yL_law cL_law 7 (some .boolean), 9, 247, 1), (yJ6_bitCount_0f7a4, Cond.code yJ6_bitCount_0f7a4 cJ6_bitCount_0f7a4 1 (some .int), 0, 0, 1), (yJ6_compare_7cf53, Cond.code yJ6_compare_7cf53 cJ6_compare_7cf53 2 (some .int), 0, 0, 1), (yJ9_abs_0f7a4, Cond.code yJ9_abs_0f7a4 cJ9_abs_0f7a4 1 (some .int), 0, 0, 1), (yJ9_floorMod_7cf53, Cond.code yJ9_floorMod_7cf53 cJ9_floorMod_7cf53 3 (some .int), 0, 0, 1), (yJ9_max_7cf53, Cond.code yJ9_max_7cf53 cJ9_max_7cf53 2 (some .int), 0, 0, 1), (yJ9_min_7cf53, Cond.code yJ9_min_7cf53 cJ9_min_7cf53 2 (some .int), 0, 0, 1), (yJ9_min_f86c9, Cond.code yJ9_min_f86c9 cJ9_min_f86c9 4 (some .long), 0, 0, 2), (yJ7_fill_d0a16, Cond.code yJ7_fill_d0a16 cJ7_fill_d0a16 5 none, 0, 0, 0)]
set_option maxRecDepth 100000 in
theorem mt_X_init : mtab[kX_init]? = some (yX11_init, Cond.code yX11_init cX11_init 1 none, 1, 12, 0) := rfl
set_option maxRecDepth 100000 in
theorem mt_X_feed : mtab[kX_feed]? = some (yX11_feed, Cond.code yX11_feed cX11_feed 7 (some .int), 1, 25, 1) := rfl
set_option maxRecDepth 100000 in
theorem mt_X_signsIn : mtab[kX_signsIn]? = some (yX11_signsIn, Cond.code yX11_signsIn cX11_signsIn 3 (some .int), 0, 0, 1) := rfl
set_option maxRecDepth 100000 in
theorem mt_X_append : mtab[kX_append]? = some (yX11_append, Cond.code yX11_append cX11_append 4 none, 0, 0, 0) := rfl
set_option maxRecDepth 100000 in
theorem mt_X_end : mtab[kX_end]? = some (yX11_end, Cond.code yX11_end cX11_end 2 (some .boolean), 0, 0, 1) := rfl
set_option maxRecDepth 100000 in
theorem mt_X_fault : mtab[kX_fault]? = some (yX11_fault, Cond.code yX11_fault cX11_fault 3 (some .int), 5, 131, 1) := rfl
set_option maxRecDepth 100000 in
theorem mt_X_text : mtab[kX_text]? = some (yX11_text, Cond.code yX11_text cX11_text 2 (some .int), 6, 155, 1) := rfl
set_option maxRecDepth 100000 in
theorem mt_X_takeAlmanac : mtab[kX_takeAlmanac]? = some (yX11_takeAlmanac, Cond.code yX11_takeAlmanac cX11_takeAlmanac 3 (some .int), 5, 131, 1) := rfl
set_option maxRecDepth 100000 in
theorem mt_X_takeHead : mtab[kX_takeHead]? = some (yX11_takeHead, Cond.code yX11_takeHead cX11_takeHead 3 (some .int), 5, 129, 1) := rfl
set_option maxRecDepth 100000 in
theorem mt_X_takeThings : mtab[kX_takeThings]? = some (yX11_takeThings, Cond.code yX11_takeThings cX11_takeThings 4 (some .int), 4, 99, 1) := rfl
set_option maxRecDepth 100000 in
theorem mt_X_readThings : mtab[kX_readThings]? = some (yX11_readThings, Cond.code yX11_readThings cX11_readThings 4 (some .int), 3, 74, 1) := rfl
set_option maxRecDepth 100000 in
theorem mt_X_readThing : mtab[kX_readThing]? = some (yX11_readThing, Cond.code yX11_readThing cX11_readThing 4 (some .int), 2, 49, 1) := rfl
set_option maxRecDepth 100000 in
theorem mt_X_date : mtab[kX_date]? = some (yX11_date, Cond.code yX11_date cX11_date 6 (some .int), 4, 100, 1) := rfl
set_option maxRecDepth 100000 in
theorem mt_X_turned : mtab[kX_turned]? = some (yX11_turned, Cond.code yX11_turned cX11_turned 10 (some .int), 4, 105, 1) := rfl
set_option maxRecDepth 100000 in
theorem mt_X_many : mtab[kX_many]? = some (yX11_many, Cond.code yX11_many cX11_many 7 (some .int), 3, 77, 1) := rfl
set_option maxRecDepth 100000 in
theorem mt_X_kind : mtab[kX_kind]? = some (yX11_kind, Cond.code yX11_kind cX11_kind 4 (some .int), 1, 23, 1) := rfl
set_option maxRecDepth 100000 in
theorem mt_X_like : mtab[kX_like]? = some (yX11_like, Cond.code yX11_like cX11_like 8 (some .int), 2, 48, 1) := rfl
set_option maxRecDepth 100000 in
theorem mt_X_thirteenths : mtab[kX_thirteenths]? = some (yX11_thirteenths, Cond.code yX11_thirteenths cX11_thirteenths 10 (some .int), 3, 78, 1) := rfl
set_option maxRecDepth 100000 in
theorem mt_X_mates : mtab[kX_mates]? = some (yX11_mates, Cond.code yX11_mates cX11_mates 7 (some .int), 4, 105, 1) := rfl
set_option maxRecDepth 100000 in
theorem mt_X_unlike : mtab[kX_unlike]? = some (yX11_unlike, Cond.code yX11_unlike cX11_unlike 7 (some .int), 4, 100, 1) := rfl
set_option maxRecDepth 100000 in
theorem mt_X_almanacAt : mtab[kX_almanacAt]? = some (yX11_almanacAt, Cond.code yX11_almanacAt cX11_almanacAt 2 (some (.object "DayBoy$Almanac")), 0, 0, 3) := rfl
set_option maxRecDepth 100000 in
theorem mt_X_dayIn : mtab[kX_dayIn]? = some (yX11_dayIn, Cond.code yX11_dayIn cX11_dayIn 6 (some .int), 3, 78, 1) := rfl
set_option maxRecDepth 100000 in
theorem mt_X_spotOn : mtab[kX_spotOn]? = some (yX11_spotOn, Cond.code yX11_spotOn cX11_spotOn 7 (some (.object "DayBoy$Spot")), 3, 78, 10) := rfl
set_option maxRecDepth 100000 in
theorem mt_X_way : mtab[kX_way]? = some (yX11_way, Cond.code yX11_way cX11_way 10 (some .int), 4, 108, 1) := rfl
set_option maxRecDepth 100000 in
theorem mt_X_answers : mtab[kX_answers]? = some (yX11_answers, Cond.code yX11_answers cX11_answers 10 (some .int), 5, 134, 1) := rfl
set_option maxRecDepth 100000 in
theorem mt_X_part : mtab[kX_part]? = some (yX11_part, Cond.code yX11_part cX11_part 12 (some .int), 5, 135, 1) := rfl
set_option maxRecDepth 100000 in
theorem mt_X_partInYear : mtab[kX_partInYear]? = some (yX11_partInYear, Cond.code yX11_partInYear cX11_partInYear 6 (some .int), 4, 108, 1) := rfl
set_option maxRecDepth 100000 in
theorem mt_X_least : mtab[kX_least]? = some (yX11_least, Cond.code yX11_least cX11_least 8 (some .int), 5, 140, 1) := rfl
set_option maxRecDepth 100000 in
theorem mt_X_reachedFrom : mtab[kX_reachedFrom]? = some (yX11_reachedFrom, Cond.code yX11_reachedFrom cX11_reachedFrom 11 (some (.array .int)), 4, 108, 103) := rfl
set_option maxRecDepth 100000 in
theorem mt_X_fewestReaching : mtab[kX_fewestReaching]? = some (yX11_fewestReaching, Cond.code yX11_fewestReaching cX11_fewestReaching 5 (some .int), 1, 25, 1) := rfl
set_option maxRecDepth 100000 in
theorem mt_X_loneOf : mtab[kX_loneOf]? = some (yX11_loneOf, Cond.code yX11_loneOf cX11_loneOf 3 (some .int), 0, 0, 1) := rfl
set_option maxRecDepth 100000 in
theorem mt_X_unionOf : mtab[kX_unionOf]? = some (yX11_unionOf, Cond.code yX11_unionOf cX11_unionOf 4 (some .int), 0, 0, 1) := rfl
set_option maxRecDepth 100000 in
theorem mt_X_mirrorOf : mtab[kX_mirrorOf]? = some (yX11_mirrorOf, Cond.code yX11_mirrorOf cX11_mirrorOf 4 (some .int), 0, 0, 1) := rfl
set_option maxRecDepth 100000 in
theorem mt_X_row : mtab[kX_row]? = some (yX11_row, Cond.code yX11_row cX11_row 9 (some .int), 5, 133, 1) := rfl
set_option maxRecDepth 100000 in
theorem mt_X_holds : mtab[kX_holds]? = some (yX11_holds, Cond.code yX11_holds cX11_holds 9 (some .int), 5, 133, 1) := rfl
set_option maxRecDepth 100000 in
theorem mt_X_right : mtab[kX_right]? = some (yX11_right, Cond.code yX11_right cX11_right 11 (some .int), 4, 108, 1) := rfl
set_option maxRecDepth 100000 in
theorem mt_X_lacks : mtab[kX_lacks]? = some (yX11_lacks, Cond.code yX11_lacks cX11_lacks 11 (some .int), 3, 70, 1) := rfl
set_option maxRecDepth 100000 in
theorem mt_X_rises : mtab[kX_rises]? = some (yX11_rises, Cond.code yX11_rises cX11_rises 11 (some .int), 2, 46, 1) := rfl
set_option maxRecDepth 100000 in
theorem mt_X_headAt : mtab[kX_headAt]? = some (yX11_headAt, Cond.code yX11_headAt cX11_headAt 2 (some (.object "DayBoy$Head")), 0, 0, 5) := rfl
set_option maxRecDepth 100000 in
theorem mt_X_ask : mtab[kX_ask]? = some (yX11_ask, Cond.code yX11_ask cX11_ask 9 (some .int), 4, 106, 1) := rfl
set_option maxRecDepth 100000 in
theorem mt_X_asked : mtab[kX_asked]? = some (yX11_asked, Cond.code yX11_asked cX11_asked 4 (some .int), 2, 47, 1) := rfl
set_option maxRecDepth 100000 in
theorem mt_X_fits : mtab[kX_fits]? = some (yX11_fits, Cond.code yX11_fits cX11_fits 2 (some .int), 7, 185, 1) := rfl
set_option maxRecDepth 100000 in
theorem mt_X_spare : mtab[kX_spare]? = some (yX11_spare, Cond.code yX11_spare cX11_spare 3 (some .int), 7, 185, 1) := rfl
set_option maxRecDepth 100000 in
theorem mt_X_headsWrongAtMost : mtab[kX_headsWrongAtMost]? = some (yX11_headsWrongAtMost, Cond.code yX11_headsWrongAtMost cX11_headsWrongAtMost 5 (some .int), 6, 159, 1) := rfl
set_option maxRecDepth 100000 in
theorem mt_X_so : mtab[kX_so]? = some (yX11_so, Cond.code yX11_so cX11_so 4 (some .int), 6, 159, 1) := rfl
set_option maxRecDepth 100000 in
theorem mt_X_soCount : mtab[kX_soCount]? = some (yX11_soCount, Cond.code yX11_soCount cX11_soCount 5 (some .int), 5, 133, 1) := rfl
set_option maxRecDepth 100000 in
theorem mt_X_further : mtab[kX_further]? = some (yX11_further, Cond.code yX11_further cX11_further 6 (some .int), 2, 45, 1) := rfl
set_option maxRecDepth 100000 in
theorem mt_X_lived : mtab[kX_lived]? = some (yX11_lived, Cond.code yX11_lived cX11_lived 5 (some .int), 0, 0, 1) := rfl
set_option maxRecDepth 100000 in
theorem mt_X_after : mtab[kX_after]? = some (yX11_after, Cond.code yX11_after cX11_after 5 (some .int), 2, 47, 1) := rfl
set_option maxRecDepth 100000 in
theorem mt_X_learnt : mtab[kX_learnt]? = some (yX11_learnt, Cond.code yX11_learnt cX11_learnt 10 (some .int), 5, 133, 1) := rfl
set_option maxRecDepth 100000 in
theorem mt_X_weigh : mtab[kX_weigh]? = some (yX11_weigh, Cond.code yX11_weigh cX11_weigh 4 (some .boolean), 1, 23, 1) := rfl
set_option maxRecDepth 100000 in
theorem mt_X_odds : mtab[kX_odds]? = some (yX11_odds, Cond.code yX11_odds cX11_odds 6 (some .int), 7, 185, 1) := rfl
set_option maxRecDepth 100000 in
theorem mt_X_plan : mtab[kX_plan]? = some (yX11_plan, Cond.code yX11_plan cX11_plan 6 (some .int), 4, 106, 1) := rfl
set_option maxRecDepth 100000 in
theorem mt_X_parted : mtab[kX_parted]? = some (yX11_parted, Cond.code yX11_parted cX11_parted 3 (some .int), 6, 160, 1) := rfl
set_option maxRecDepth 100000 in
theorem mt_X_next : mtab[kX_next]? = some (yX11_next, Cond.code yX11_next cX11_next 6 (some .int), 6, 160, 1) := rfl
set_option maxRecDepth 100000 in
theorem mt_X_areHeads : mtab[kX_areHeads]? = some (yX11_areHeads, Cond.code yX11_areHeads cX11_areHeads 2 (some .boolean), 0, 0, 1) := rfl
set_option maxRecDepth 100000 in
theorem mt_X_pairsParted : mtab[kX_pairsParted]? = some (yX11_pairsParted, Cond.code yX11_pairsParted cX11_pairsParted 8 (some .int), 5, 131, 1) := rfl
set_option maxRecDepth 100000 in
theorem mt_X_run : mtab[kX_run]? = some (yX11_run, Cond.code yX11_run cX11_run 14 (some .int), 5, 131, 1) := rfl
set_option maxRecDepth 100000 in
theorem mt_X_born : mtab[kX_born]? = some (yX11_born, Cond.code yX11_born cX11_born 6 (some .boolean), 4, 106, 1) := rfl
set_option maxRecDepth 100000 in
theorem mt_X_age : mtab[kX_age]? = some (yX11_age, Cond.code yX11_age cX11_age 9 (some .int), 5, 132, 1) := rfl
set_option maxRecDepth 100000 in
theorem mt_X_event : mtab[kX_event]? = some (yX11_event, Cond.code yX11_event cX11_event 7 (some .int), 4, 105, 1) := rfl
set_option maxRecDepth 100000 in
theorem mt_X_held : mtab[kX_held]? = some (yX11_held, Cond.code yX11_held cX11_held 6 (some .int), 4, 105, 1) := rfl
set_option maxRecDepth 100000 in
theorem mt_X_spell : mtab[kX_spell]? = some (yX11_spell, Cond.code yX11_spell cX11_spell 4 (some .int), 2, 50, 1) := rfl
set_option maxRecDepth 100000 in
theorem mt_X_spellFrom : mtab[kX_spellFrom]? = some (yX11_spellFrom, Cond.code yX11_spellFrom cX11_spellFrom 4 (some .int), 1, 25, 1) := rfl
set_option maxRecDepth 100000 in
theorem mt_X_sortsOn : mtab[kX_sortsOn]? = some (yX11_sortsOn, Cond.code yX11_sortsOn cX11_sortsOn 4 (some .int), 0, 0, 1) := rfl
set_option maxRecDepth 100000 in
theorem mt_X_keep : mtab[kX_keep]? = some (yX11_keep, Cond.code yX11_keep cX11_keep 1 (some .int), 0, 0, 1) := rfl
set_option maxRecDepth 100000 in
theorem mt_X_back : mtab[kX_back]? = some (yX11_back, Cond.code yX11_back cX11_back 1 (some .int), 0, 0, 1) := rfl
set_option maxRecDepth 100000 in
theorem mt_X_count : mtab[kX_count]? = some (yX11_count, Cond.code yX11_count cX11_count 2 (some .int), 0, 0, 1) := rfl
set_option maxRecDepth 100000 in
theorem mt_X_isYear : mtab[kX_isYear]? = some (yX11_isYear, Cond.code yX11_isYear cX11_isYear 1 (some .boolean), 0, 0, 1) := rfl
set_option maxRecDepth 100000 in
theorem mt_X_areYears : mtab[kX_areYears]? = some (yX11_areYears, Cond.code yX11_areYears cX11_areYears 2 (some .boolean), 1, 22, 1) := rfl
set_option maxRecDepth 100000 in
theorem mt_X_isSlack : mtab[kX_isSlack]? = some (yX11_isSlack, Cond.code yX11_isSlack cX11_isSlack 1 (some .boolean), 0, 0, 1) := rfl
set_option maxRecDepth 100000 in
theorem mt_X_isSort : mtab[kX_isSort]? = some (yX11_isSort, Cond.code yX11_isSort cX11_isSort 1 (some .boolean), 0, 0, 1) := rfl
set_option maxRecDepth 100000 in
theorem mt_X_isDatelike : mtab[kX_isDatelike]? = some (yX11_isDatelike, Cond.code yX11_isDatelike cX11_isDatelike 3 (some .boolean), 1, 22, 1) := rfl
set_option maxRecDepth 100000 in
theorem mt_X_keyOf : mtab[kX_keyOf]? = some (yX11_keyOf, Cond.code yX11_keyOf cX11_keyOf 3 (some .int), 0, 0, 1) := rfl
set_option maxRecDepth 100000 in
theorem mt_X_yearOfKey : mtab[kX_yearOfKey]? = some (yX11_yearOfKey, Cond.code yX11_yearOfKey cX11_yearOfKey 1 (some .int), 0, 0, 1) := rfl
set_option maxRecDepth 100000 in
theorem mt_X_monthOfKey : mtab[kX_monthOfKey]? = some (yX11_monthOfKey, Cond.code yX11_monthOfKey cX11_monthOfKey 1 (some .int), 0, 0, 1) := rfl
set_option maxRecDepth 100000 in
theorem mt_X_dateOfKey : mtab[kX_dateOfKey]? = some (yX11_dateOfKey, Cond.code yX11_dateOfKey cX11_dateOfKey 1 (some .int), 0, 0, 1) := rfl
set_option maxRecDepth 100000 in
theorem mt_X_partOfKey : mtab[kX_partOfKey]? = some (yX11_partOfKey, Cond.code yX11_partOfKey cX11_partOfKey 2 (some .int), 1, 22, 1) := rfl
set_option maxRecDepth 100000 in
theorem mt_X_yearLength : mtab[kX_yearLength]? = some (yX11_yearLength, Cond.code yX11_yearLength cX11_yearLength 1 (some .int), 0, 0, 1) := rfl
set_option maxRecDepth 100000 in
theorem mt_X_monthLength : mtab[kX_monthLength]? = some (yX11_monthLength, Cond.code yX11_monthLength cX11_monthLength 2 (some .int), 0, 0, 1) := rfl
set_option maxRecDepth 100000 in
theorem mt_X_placeInYear : mtab[kX_placeInYear]? = some (yX11_placeInYear, Cond.code yX11_placeInYear cX11_placeInYear 3 (some .int), 0, 0, 1) := rfl
set_option maxRecDepth 100000 in
theorem mt_X_keyAt : mtab[kX_keyAt]? = some (yX11_keyAt, Cond.code yX11_keyAt cX11_keyAt 5 (some .int), 1, 24, 1) := rfl
set_option maxRecDepth 100000 in
theorem mt_X_offBy : mtab[kX_offBy]? = some (yX11_offBy, Cond.code yX11_offBy cX11_offBy 2 (some .int), 1, 24, 1) := rfl
set_option maxRecDepth 100000 in
theorem mt_M_in : mtab[kM_in]? = some (yX12_in, Cond.code yX12_in cX12_in 3 (some .boolean), 0, 0, 1) := rfl
set_option maxRecDepth 100000 in
theorem mt_M_init : mtab[kM_init]? = some (yX12_init, Cond.code yX12_init cX12_init 1 none, 1, 12, 0) := rfl
set_option maxRecDepth 100000 in
theorem mt_M_thrown : mtab[kM_thrown]? = some (yX12_thrown, Cond.code yX12_thrown cX12_thrown 1 (some .int), 0, 0, 1) := rfl
set_option maxRecDepth 100000 in
theorem mt_M_byteOf : mtab[kM_byteOf]? = some (yX12_byteOf, Cond.code yX12_byteOf cX12_byteOf 7 (some .int), 0, 0, 1) := rfl
set_option maxRecDepth 100000 in
theorem mt_M_feed : mtab[kM_feed]? = some (yX12_feed, Cond.code yX12_feed cX12_feed 9 (some .int), 1, 28, 1) := rfl
set_option maxRecDepth 100000 in
theorem mt_M_end : mtab[kM_end]? = some (yX12_end, Cond.code yX12_end cX12_end 2 (some .boolean), 0, 0, 1) := rfl
set_option maxRecDepth 100000 in
theorem mt_M_here : mtab[kM_here]? = some (yX12_here, Cond.code yX12_here cX12_here 1 (some .int), 0, 0, 1) := rfl
set_option maxRecDepth 100000 in
theorem mt_M_look : mtab[kM_look]? = some (yX12_look, Cond.code yX12_look cX12_look 1 (some .int), 1, 22, 1) := rfl
set_option maxRecDepth 100000 in
theorem mt_M_bad : mtab[kM_bad]? = some (yX12_bad, Cond.code yX12_bad cX12_bad 1 none, 0, 0, 0) := rfl
set_option maxRecDepth 100000 in
theorem mt_M_isDigit : mtab[kM_isDigit]? = some (yX12_isDigit, Cond.code yX12_isDigit cX12_isDigit 1 (some .boolean), 0, 0, 1) := rfl
set_option maxRecDepth 100000 in
theorem mt_M_sign : mtab[kM_sign]? = some (yX12_sign, Cond.code yX12_sign cX12_sign 2 none, 2, 44, 0) := rfl
set_option maxRecDepth 100000 in
theorem mt_M_number : mtab[kM_number]? = some (yX12_number, Cond.code yX12_number cX12_number 5 (some .int), 2, 44, 1) := rfl
set_option maxRecDepth 100000 in
theorem mt_M_wrongAtLast : mtab[kM_wrongAtLast]? = some (yX12_wrongAtLast, Cond.code yX12_wrongAtLast cX12_wrongAtLast 1 none, 0, 0, 0) := rfl
set_option maxRecDepth 100000 in
theorem mt_M_closeNumber : mtab[kM_closeNumber]? = some (yX12_closeNumber, Cond.code yX12_closeNumber cX12_closeNumber 1 none, 1, 22, 0) := rfl
set_option maxRecDepth 100000 in
theorem mt_M_plain : mtab[kM_plain]? = some (yX12_plain, Cond.code yX12_plain cX12_plain 4 (some .int), 3, 70, 1) := rfl
set_option maxRecDepth 100000 in
theorem mt_M_isLeap : mtab[kM_isLeap]? = some (yX12_isLeap, Cond.code yX12_isLeap cX12_isLeap 5 (some .boolean), 0, 0, 1) := rfl
set_option maxRecDepth 100000 in
theorem mt_M_daysOf : mtab[kM_daysOf]? = some (yX12_daysOf, Cond.code yX12_daysOf cX12_daysOf 4 (some .int), 1, 26, 1) := rfl
set_option maxRecDepth 100000 in
theorem mt_M_code : mtab[kM_code]? = some (yX12_code, Cond.code yX12_code cX12_code 3 (some .int), 0, 0, 1) := rfl
set_option maxRecDepth 100000 in
theorem mt_M_ordinal : mtab[kM_ordinal]? = some (yX12_ordinal, Cond.code yX12_ordinal cX12_ordinal 7 (some .int), 2, 51, 1) := rfl
set_option maxRecDepth 100000 in
theorem mt_M_layOut : mtab[kM_layOut]? = some (yX12_layOut, Cond.code yX12_layOut cX12_layOut 4 none, 1, 26, 0) := rfl
set_option maxRecDepth 100000 in
theorem mt_M_dated : mtab[kM_dated]? = some (yX12_dated, Cond.code yX12_dated cX12_dated 7 (some .int), 2, 51, 1) := rfl
set_option maxRecDepth 100000 in
theorem mt_M_readLeaps : mtab[kM_readLeaps]? = some (yX12_readLeaps, Cond.code yX12_readLeaps cX12_readLeaps 5 none, 4, 95, 0) := rfl
set_option maxRecDepth 100000 in
theorem mt_M_readCalendar : mtab[kM_readCalendar]? = some (yX12_readCalendar, Cond.code yX12_readCalendar cX12_readCalendar 3 (some .int), 6, 149, 1) := rfl
set_option maxRecDepth 100000 in
theorem mt_M_change : mtab[kM_change]? = some (yX12_change, Cond.code yX12_change cX12_change 7 none, 5, 121, 0) := rfl
set_option maxRecDepth 100000 in
theorem mt_M_item : mtab[kM_item]? = some (yX12_item, Cond.code yX12_item cX12_item 4 none, 5, 120, 0) := rfl
set_option maxRecDepth 100000 in
theorem mt_M_readStep : mtab[kM_readStep]? = some (yX12_readStep, Cond.code yX12_readStep cX12_readStep 4 none, 4, 95, 0) := rfl
set_option maxRecDepth 100000 in
theorem mt_M_readLike : mtab[kM_readLike]? = some (yX12_readLike, Cond.code yX12_readLike cX12_readLike 3 none, 4, 95, 0) := rfl
set_option maxRecDepth 100000 in
theorem mt_M_readCost : mtab[kM_readCost]? = some (yX12_readCost, Cond.code yX12_readCost cX12_readCost 4 none, 4, 95, 0) := rfl
set_option maxRecDepth 100000 in
theorem mt_M_readHead : mtab[kM_readHead]? = some (yX12_readHead, Cond.code yX12_readHead cX12_readHead 3 (some .int), 6, 145, 1) := rfl
set_option maxRecDepth 100000 in
theorem mt_M_fault : mtab[kM_fault]? = some (yX12_fault, Cond.code yX12_fault cX12_fault 2 (some .int), 7, 173, 1) := rfl
set_option maxRecDepth 100000 in
theorem mt_M_text : mtab[kM_text]? = some (yX12_text, Cond.code yX12_text cX12_text 2 (some .int), 7, 173, 1) := rfl
set_option maxRecDepth 100000 in
theorem mt_M_isCalendar : mtab[kM_isCalendar]? = some (yX12_isCalendar, Cond.code yX12_isCalendar cX12_isCalendar 2 (some .boolean), 1, 24, 1) := rfl
set_option maxRecDepth 100000 in
theorem mt_M_stretchOf : mtab[kM_stretchOf]? = some (yX12_stretchOf, Cond.code yX12_stretchOf cX12_stretchOf 6 (some .int), 2, 51, 1) := rfl
set_option maxRecDepth 100000 in
theorem mt_M_isDate : mtab[kM_isDate]? = some (yX12_isDate, Cond.code yX12_isDate cX12_isDate 5 (some .boolean), 3, 78, 1) := rfl
set_option maxRecDepth 100000 in
theorem mt_M_dayOf : mtab[kM_dayOf]? = some (yX12_dayOf, Cond.code yX12_dayOf cX12_dayOf 6 (some .int), 3, 79, 1) := rfl
set_option maxRecDepth 100000 in
theorem mt_M_day : mtab[kM_day]? = some (yX12_day, Cond.code yX12_day cX12_day 5 (some .int), 4, 106, 1) := rfl
set_option maxRecDepth 100000 in
theorem mt_M_dateOf : mtab[kM_dateOf]? = some (yX12_dateOf, Cond.code yX12_dateOf cX12_dateOf 6 (some .int), 3, 79, 1) := rfl
set_option maxRecDepth 100000 in
theorem mt_M_partOf : mtab[kM_partOf]? = some (yX12_partOf, Cond.code yX12_partOf cX12_partOf 2 (some .int), 0, 0, 1) := rfl
set_option maxRecDepth 100000 in
theorem mt_M_date : mtab[kM_date]? = some (yX12_date, Cond.code yX12_date cX12_date 5 (some .int), 4, 106, 1) := rfl
set_option maxRecDepth 100000 in
theorem mt_M_turned : mtab[kM_turned]? = some (yX12_turned, Cond.code yX12_turned cX12_turned 7 (some .int), 5, 132, 1) := rfl
set_option maxRecDepth 100000 in
theorem mt_M_many : mtab[kM_many]? = some (yX12_many, Cond.code yX12_many cX12_many 7 (some .int), 4, 104, 1) := rfl
set_option maxRecDepth 100000 in
theorem mt_M_kindOf : mtab[kM_kindOf]? = some (yX12_kindOf, Cond.code yX12_kindOf cX12_kindOf 5 (some .int), 4, 106, 1) := rfl
set_option maxRecDepth 100000 in
theorem mt_M_kind : mtab[kM_kind]? = some (yX12_kind, Cond.code yX12_kind cX12_kind 3 (some .int), 5, 132, 1) := rfl
set_option maxRecDepth 100000 in
theorem mt_M_push : mtab[kM_push]? = some (yX12_push, Cond.code yX12_push cX12_push 2 none, 0, 0, 0) := rfl
set_option maxRecDepth 100000 in
theorem mt_M_flood : mtab[kM_flood]? = some (yX12_flood, Cond.code yX12_flood cX12_flood 5 none, 2, 52, 0) := rfl
set_option maxRecDepth 100000 in
theorem mt_M_touch : mtab[kM_touch]? = some (yX12_touch, Cond.code yX12_touch cX12_touch 7 none, 1, 24, 0) := rfl
set_option maxRecDepth 100000 in
theorem mt_M_knowsYear : mtab[kM_knowsYear]? = some (yX12_knowsYear, Cond.code yX12_knowsYear cX12_knowsYear 4 (some .boolean), 1, 24, 1) := rfl
set_option maxRecDepth 100000 in
theorem mt_M_spread : mtab[kM_spread]? = some (yX12_spread, Cond.code yX12_spread cX12_spread 8 none, 3, 78, 0) := rfl
set_option maxRecDepth 100000 in
theorem mt_M_nextYear : mtab[kM_nextYear]? = some (yX12_nextYear, Cond.code yX12_nextYear cX12_nextYear 9 (some .int), 1, 24, 1) := rfl
set_option maxRecDepth 100000 in
theorem mt_M_nextMonth : mtab[kM_nextMonth]? = some (yX12_nextMonth, Cond.code yX12_nextMonth cX12_nextMonth 8 (some .int), 0, 0, 1) := rfl
set_option maxRecDepth 100000 in
theorem mt_M_isHead : mtab[kM_isHead]? = some (yX12_isHead, Cond.code yX12_isHead cX12_isHead 2 (some .boolean), 1, 24, 1) := rfl
set_option maxRecDepth 100000 in
theorem mt_M_goes : mtab[kM_goes]? = some (yX12_goes, Cond.code yX12_goes cX12_goes 6 (some .boolean), 4, 104, 1) := rfl
set_option maxRecDepth 100000 in
theorem mt_M_way : mtab[kM_way]? = some (yX12_way, Cond.code yX12_way cX12_way 9 (some .int), 5, 131, 1) := rfl
set_option maxRecDepth 100000 in
theorem mt_M_answer : mtab[kM_answer]? = some (yX12_answer, Cond.code yX12_answer cX12_answer 8 (some .boolean), 5, 131, 1) := rfl
set_option maxRecDepth 100000 in
theorem mt_M_round : mtab[kM_round]? = some (yX12_round, Cond.code yX12_round cX12_round 2 (some .int), 0, 0, 1) := rfl
set_option maxRecDepth 100000 in
theorem mt_M_falseStep : mtab[kM_falseStep]? = some (yX12_falseStep, Cond.code yX12_falseStep cX12_falseStep 5 (some .int), 5, 132, 1) := rfl
set_option maxRecDepth 100000 in
theorem mt_M_answers : mtab[kM_answers]? = some (yX12_answers, Cond.code yX12_answers cX12_answers 7 (some .int), 6, 160, 1) := rfl
set_option maxRecDepth 100000 in
theorem mt_M_ask : mtab[kM_ask]? = some (yX12_ask, Cond.code yX12_ask cX12_ask 8 (some .int), 4, 104, 1) := rfl
set_option maxRecDepth 100000 in
theorem mt_M_askDay : mtab[kM_askDay]? = some (yX12_askDay, Cond.code yX12_askDay cX12_askDay 2 (some .int), 4, 106, 1) := rfl
set_option maxRecDepth 100000 in
theorem mt_M_asked : mtab[kM_asked]? = some (yX12_asked, Cond.code yX12_asked cX12_asked 3 (some .int), 5, 129, 1) := rfl
set_option maxRecDepth 100000 in
theorem mt_M_isSo : mtab[kM_isSo]? = some (yX12_isSo, Cond.code yX12_isSo cX12_isSo 4 (some .boolean), 6, 160, 1) := rfl
set_option maxRecDepth 100000 in
theorem mt_M_soMany : mtab[kM_soMany]? = some (yX12_soMany, Cond.code yX12_soMany cX12_soMany 5 (some .int), 7, 185, 1) := rfl
set_option maxRecDepth 100000 in
theorem mt_M_isSlack : mtab[kM_isSlack]? = some (yX12_isSlack, Cond.code yX12_isSlack cX12_isSlack 2 (some .boolean), 1, 24, 1) := rfl
set_option maxRecDepth 100000 in
theorem mt_M_fits : mtab[kM_fits]? = some (yX12_fits, Cond.code yX12_fits cX12_fits 4 (some .int), 8, 211, 1) := rfl
set_option maxRecDepth 100000 in
theorem mt_M_so : mtab[kM_so]? = some (yX12_so, Cond.code yX12_so cX12_so 3 (some .int), 8, 211, 1) := rfl
set_option maxRecDepth 100000 in
theorem mt_M_further : mtab[kM_further]? = some (yX12_further, Cond.code yX12_further cX12_further 6 (some .int), 1, 24, 1) := rfl
set_option maxRecDepth 100000 in
theorem mt_M_mean : mtab[kM_mean]? = some (yX12_mean, Cond.code yX12_mean cX12_mean 2 (some .int), 0, 0, 1) := rfl
set_option maxRecDepth 100000 in
theorem mt_M_lived : mtab[kM_lived]? = some (yX12_lived, Cond.code yX12_lived cX12_lived 5 (some .int), 5, 129, 1) := rfl
set_option maxRecDepth 100000 in
theorem mt_M_after : mtab[kM_after]? = some (yX12_after, Cond.code yX12_after cX12_after 7 (some .int), 5, 132, 1) := rfl
set_option maxRecDepth 100000 in
theorem mt_M_learnt : mtab[kM_learnt]? = some (yX12_learnt, Cond.code yX12_learnt cX12_learnt 8 (some .int), 7, 185, 1) := rfl
set_option maxRecDepth 100000 in
theorem mt_M_weigh : mtab[kM_weigh]? = some (yX12_weigh, Cond.code yX12_weigh cX12_weigh 3 (some .boolean), 2, 47, 1) := rfl
set_option maxRecDepth 100000 in
theorem mt_M_odds : mtab[kM_odds]? = some (yX12_odds, Cond.code yX12_odds cX12_odds 5 (some .int), 8, 211, 1) := rfl
set_option maxRecDepth 100000 in
theorem mt_M_plan : mtab[kM_plan]? = some (yX12_plan, Cond.code yX12_plan cX12_plan 5 (some .int), 4, 104, 1) := rfl
set_option maxRecDepth 100000 in
theorem mt_M_areApart : mtab[kM_areApart]? = some (yX12_areApart, Cond.code yX12_areApart cX12_areApart 11 (some .boolean), 6, 160, 1) := rfl
set_option maxRecDepth 100000 in
theorem mt_M_partedBy : mtab[kM_partedBy]? = some (yX12_partedBy, Cond.code yX12_partedBy cX12_partedBy 7 (some .int), 7, 192, 1) := rfl
set_option maxRecDepth 100000 in
theorem mt_M_areHeads : mtab[kM_areHeads]? = some (yX12_areHeads, Cond.code yX12_areHeads cX12_areHeads 2 (some .boolean), 0, 0, 1) := rfl
set_option maxRecDepth 100000 in
theorem mt_M_parted : mtab[kM_parted]? = some (yX12_parted, Cond.code yX12_parted cX12_parted 3 (some .int), 8, 220, 1) := rfl
set_option maxRecDepth 100000 in
theorem mt_M_next : mtab[kM_next]? = some (yX12_next, Cond.code yX12_next cX12_next 6 (some .int), 8, 220, 1) := rfl
set_option maxRecDepth 100000 in
theorem mt_M_part : mtab[kM_part]? = some (yX12_part, Cond.code yX12_part cX12_part 9 (some .int), 7, 192, 1) := rfl
set_option maxRecDepth 100000 in
theorem mt_M_nearYears : mtab[kM_nearYears]? = some (yX12_nearYears, Cond.code yX12_nearYears cX12_nearYears 9 none, 3, 78, 0) := rfl
set_option maxRecDepth 100000 in
theorem mt_M_doAll : mtab[kM_doAll]? = some (yX12_doAll, Cond.code yX12_doAll cX12_doAll 4 (some .boolean), 0, 0, 1) := rfl
set_option maxRecDepth 100000 in
theorem mt_M_least : mtab[kM_least]? = some (yX12_least, Cond.code yX12_least cX12_least 10 (some .int), 4, 108, 1) := rfl
set_option maxRecDepth 100000 in
theorem mt_M_like : mtab[kM_like]? = some (yX12_like, Cond.code yX12_like cX12_like 7 (some .int), 5, 132, 1) := rfl
set_option maxRecDepth 100000 in
theorem mt_M_thirteenths : mtab[kM_thirteenths]? = some (yX12_thirteenths, Cond.code yX12_thirteenths cX12_thirteenths 8 (some .int), 4, 106, 1) := rfl
set_option maxRecDepth 100000 in
theorem mt_M_mates : mtab[kM_mates]? = some (yX12_mates, Cond.code yX12_mates cX12_mates 6 (some .int), 4, 106, 1) := rfl
set_option maxRecDepth 100000 in
theorem mt_M_born : mtab[kM_born]? = some (yX12_born, Cond.code yX12_born cX12_born 5 (some .boolean), 4, 106, 1) := rfl
set_option maxRecDepth 100000 in
theorem mt_M_firstFrom : mtab[kM_firstFrom]? = some (yX12_firstFrom, Cond.code yX12_firstFrom cX12_firstFrom 6 (some .int), 4, 106, 1) := rfl
set_option maxRecDepth 100000 in
theorem mt_M_age : mtab[kM_age]? = some (yX12_age, Cond.code yX12_age cX12_age 8 (some .int), 5, 133, 1) := rfl
set_option maxRecDepth 100000 in
theorem mt_M_event : mtab[kM_event]? = some (yX12_event, Cond.code yX12_event cX12_event 6 (some .int), 4, 106, 1) := rfl
set_option maxRecDepth 100000 in
theorem mt_M_held : mtab[kM_held]? = some (yX12_held, Cond.code yX12_held cX12_held 7 (some .int), 4, 106, 1) := rfl
set_option maxRecDepth 100000 in
theorem mt_M_hasEvent : mtab[kM_hasEvent]? = some (yX12_hasEvent, Cond.code yX12_hasEvent cX12_hasEvent 4 (some .boolean), 0, 0, 1) := rfl
set_option maxRecDepth 100000 in
theorem mt_M_spell : mtab[kM_spell]? = some (yX12_spell, Cond.code yX12_spell cX12_spell 5 (some .int), 1, 25, 1) := rfl
set_option maxRecDepth 100000 in
theorem mt_M_keep : mtab[kM_keep]? = some (yX12_keep, Cond.code yX12_keep cX12_keep 1 (some .int), 0, 0, 1) := rfl
set_option maxRecDepth 100000 in
theorem mt_M_back : mtab[kM_back]? = some (yX12_back, Cond.code yX12_back cX12_back 1 (some .int), 1, 23, 1) := rfl
set_option maxRecDepth 100000 in
theorem mt_M_readRow : mtab[kM_readRow]? = some (yX12_readRow, Cond.code yX12_readRow cX12_readRow 4 (some .int), 5, 122, 1) := rfl
set_option maxRecDepth 100000 in
theorem mt_M_readThing : mtab[kM_readThing]? = some (yX12_readThing, Cond.code yX12_readThing cX12_readThing 6 none, 4, 95, 0) := rfl
set_option maxRecDepth 100000 in
theorem mt_M_takeRow : mtab[kM_takeRow]? = some (yX12_takeRow, Cond.code yX12_takeRow cX12_takeRow 1 (some .int), 6, 147, 1) := rfl
set_option maxRecDepth 100000 in
theorem mt_M_row : mtab[kM_row]? = some (yX12_row, Cond.code yX12_row cX12_row 8 (some .int), 6, 160, 1) := rfl
set_option maxRecDepth 100000 in
theorem mt_M_draw : mtab[kM_draw]? = some (yX12_draw, Cond.code yX12_draw cX12_draw 2 (some .int), 0, 0, 1) := rfl
set_option maxRecDepth 100000 in
theorem mt_M_isEased : mtab[kM_isEased]? = some (yX12_isEased, Cond.code yX12_isEased cX12_isEased 3 (some .boolean), 5, 132, 1) := rfl
set_option maxRecDepth 100000 in
theorem mt_M_run : mtab[kM_run]? = some (yX12_run, Cond.code yX12_run cX12_run 12 (some .int), 6, 160, 1) := rfl
set_option maxRecDepth 100000 in
theorem mt_M_areYears : mtab[kM_areYears]? = some (yX12_areYears, Cond.code yX12_areYears cX12_areYears 3 (some .boolean), 1, 24, 1) := rfl
set_option maxRecDepth 100000 in
theorem mt_M_holds : mtab[kM_holds]? = some (yX12_holds, Cond.code yX12_holds cX12_holds 7 (some .int), 6, 161, 1) := rfl
set_option maxRecDepth 100000 in
theorem mt_M_stepTrue : mtab[kM_stepTrue]? = some (yX12_stepTrue, Cond.code yX12_stepTrue cX12_stepTrue 8 (some .int), 5, 132, 1) := rfl
set_option maxRecDepth 100000 in
theorem mt_M_monthsTrue : mtab[kM_monthsTrue]? = some (yX12_monthsTrue, Cond.code yX12_monthsTrue cX12_monthsTrue 8 (some .int), 4, 106, 1) := rfl
set_option maxRecDepth 100000 in
theorem mt_M_right : mtab[kM_right]? = some (yX12_right, Cond.code yX12_right cX12_right 9 (some .int), 6, 160, 1) := rfl
set_option maxRecDepth 100000 in
theorem mt_M_lacks : mtab[kM_lacks]? = some (yX12_lacks, Cond.code yX12_lacks cX12_lacks 7 (some .int), 2, 53, 1) := rfl
set_option maxRecDepth 100000 in
theorem mt_M_yearsLack : mtab[kM_yearsLack]? = some (yX12_yearsLack, Cond.code yX12_yearsLack cX12_yearsLack 8 (some .int), 1, 24, 1) := rfl
set_option maxRecDepth 100000 in
theorem mt_M_costOf : mtab[kM_costOf]? = some (yX12_costOf, Cond.code yX12_costOf cX12_costOf 3 (some .int), 0, 0, 1) := rfl
set_option maxRecDepth 100000 in
theorem mt_M_spare : mtab[kM_spare]? = some (yX12_spare, Cond.code yX12_spare cX12_spare 5 (some .int), 8, 211, 1) := rfl
set_option maxRecDepth 100000 in
theorem mt_M_unlike : mtab[kM_unlike]? = some (yX12_unlike, Cond.code yX12_unlike cX12_unlike 5 (some .int), 4, 106, 1) := rfl
set_option maxRecDepth 100000 in
theorem mt_M_rises : mtab[kM_rises]? = some (yX12_rises, Cond.code yX12_rises cX12_rises 8 (some .int), 2, 48, 1) := rfl
set_option maxRecDepth 100000 in
theorem mt_M_count : mtab[kM_count]? = some (yX12_count, Cond.code yX12_count cX12_count 2 (some .int), 0, 0, 1) := rfl
set_option maxRecDepth 100000 in
theorem mt_Al_init : mtab[kAl_init]? = some (yX0_init, Cond.code yX0_init cX0_init 1 none, 1, 12, 0) := rfl
set_option maxRecDepth 100000 in
theorem mt_Al_readFrom : mtab[kAl_readFrom]? = some (yX0_readFrom, Cond.code yX0_readFrom cX0_readFrom 4 (some (.object "DayBoy$Almanac")), 4, 106, 3) := rfl
set_option maxRecDepth 100000 in
theorem mt_Al_add : mtab[kAl_add]? = some (yX0_add, Cond.code yX0_add cX0_add 2 none, 0, 0, 0) := rfl
set_option maxRecDepth 100000 in
theorem mt_Al_readChange : mtab[kAl_readChange]? = some (yX0_readChange, Cond.code yX0_readChange cX0_readChange 7 (some (.object "DayBoy$Stretch")), 3, 78, 12) := rfl
set_option maxRecDepth 100000 in
theorem mt_Al_lay : mtab[kAl_lay]? = some (yX0_lay, Cond.code yX0_lay cX0_lay 6 none, 3, 78, 0) := rfl
set_option maxRecDepth 100000 in
theorem mt_Al_kindOf : mtab[kAl_kindOf]? = some (yX0_kindOf, Cond.code yX0_kindOf cX0_kindOf 2 (some .int), 0, 0, 1) := rfl
set_option maxRecDepth 100000 in
theorem mt_Al_areLike : mtab[kAl_areLike]? = some (yX0_areLike, Cond.code yX0_areLike cX0_areLike 3 (some .boolean), 1, 23, 1) := rfl
set_option maxRecDepth 100000 in
theorem mt_Al_dayOn : mtab[kAl_dayOn]? = some (yX0_dayOn, Cond.code yX0_dayOn cX0_dayOn 6 (some .int), 2, 51, 1) := rfl
set_option maxRecDepth 100000 in
theorem mt_Al_keyOn : mtab[kAl_keyOn]? = some (yX0_keyOn, Cond.code yX0_keyOn cX0_keyOn 4 (some .int), 3, 75, 1) := rfl
set_option maxRecDepth 100000 in
theorem mt_Al_datesIn : mtab[kAl_datesIn]? = some (yX0_datesIn, Cond.code yX0_datesIn cX0_datesIn 5 (some .int), 2, 51, 1) := rfl
set_option maxRecDepth 100000 in
theorem mt_Al_areAlike : mtab[kAl_areAlike]? = some (yX0_areAlike, Cond.code yX0_areAlike cX0_areAlike 6 (some .boolean), 3, 78, 1) := rfl
set_option maxRecDepth 100000 in
theorem mt_Al_firstFrom : mtab[kAl_firstFrom]? = some (yX0_firstFrom, Cond.code yX0_firstFrom cX0_firstFrom 6 (some .int), 4, 105, 1) := rfl
set_option maxRecDepth 100000 in
theorem mt_Al_firstInMonth : mtab[kAl_firstInMonth]? = some (yX0_firstInMonth, Cond.code yX0_firstInMonth cX0_firstInMonth 6 (some .int), 3, 78, 1) := rfl
set_option maxRecDepth 100000 in
theorem mt_Ak_init : mtab[kAk_init]? = some (yX1_init, Cond.code yX1_init cX1_init 5 none, 1, 12, 0) := rfl
set_option maxRecDepth 100000 in
theorem mt_Ak_isSoWith : mtab[kAk_isSoWith]? = some (yX1_isSoWith, Cond.code yX1_isSoWith cX1_isSoWith 4 (some .boolean), 4, 108, 1) := rfl
set_option maxRecDepth 100000 in
theorem mt_Ak_yearsFrom : mtab[kAk_yearsFrom]? = some (yX1_yearsFrom, Cond.code yX1_yearsFrom cX1_yearsFrom 2 (some .int), 1, 22, 1) := rfl
set_option maxRecDepth 100000 in
theorem mt_Hd_init : mtab[kHd_init]? = some (yX2_init, Cond.code yX2_init cX2_init 1 none, 2, 34, 0) := rfl
set_option maxRecDepth 100000 in
theorem mt_Hd_readFrom : mtab[kHd_readFrom]? = some (yX2_readFrom, Cond.code yX2_readFrom cX2_readFrom 3 (some (.object "DayBoy$Head")), 4, 97, 5) := rfl
set_option maxRecDepth 100000 in
theorem mt_Hd_readItem : mtab[kHd_readItem]? = some (yX2_readItem, Cond.code yX2_readItem cX2_readItem 2 none, 3, 74, 0) := rfl
set_option maxRecDepth 100000 in
theorem mt_Hd_readRange : mtab[kHd_readRange]? = some (yX2_readRange, Cond.code yX2_readRange cX2_readRange 2 none, 2, 49, 0) := rfl
set_option maxRecDepth 100000 in
theorem mt_Hd_readMonth : mtab[kHd_readMonth]? = some (yX2_readMonth, Cond.code yX2_readMonth cX2_readMonth 3 none, 2, 49, 0) := rfl
set_option maxRecDepth 100000 in
theorem mt_Hd_readExtra : mtab[kHd_readExtra]? = some (yX2_readExtra, Cond.code yX2_readExtra cX2_readExtra 3 none, 2, 49, 0) := rfl
set_option maxRecDepth 100000 in
theorem mt_Hd_findRows : mtab[kHd_findRows]? = some (yX2_findRows, Cond.code yX2_findRows cX2_findRows 4 none, 4, 104, 0) := rfl
set_option maxRecDepth 100000 in
theorem mt_Hd_extraOf : mtab[kHd_extraOf]? = some (yX2_extraOf, Cond.code yX2_extraOf cX2_extraOf 2 (some .int), 1, 23, 1) := rfl
set_option maxRecDepth 100000 in
theorem mt_Hd_toldAt : mtab[kHd_toldAt]? = some (yX2_toldAt, Cond.code yX2_toldAt cX2_toldAt 2 (some .int), 4, 108, 1) := rfl
set_option maxRecDepth 100000 in
theorem mt_Hd_toldFor : mtab[kHd_toldFor]? = some (yX2_toldFor, Cond.code yX2_toldFor cX2_toldFor 9 (some .int), 3, 78, 1) := rfl
set_option maxRecDepth 100000 in
theorem mt_Hd_saysTo : mtab[kHd_saysTo]? = some (yX2_saysTo, Cond.code yX2_saysTo cX2_saysTo 4 (some .int), 4, 108, 1) := rfl
set_option maxRecDepth 100000 in
theorem mt_Hd_falseStep : mtab[kHd_falseStep]? = some (yX2_falseStep, Cond.code yX2_falseStep cX2_falseStep 8 (some .int), 4, 105, 1) := rfl
set_option maxRecDepth 100000 in
theorem mt_Hd_trueSteps : mtab[kHd_trueSteps]? = some (yX2_trueSteps, Cond.code yX2_trueSteps cX2_trueSteps 8 (some .int), 2, 47, 1) := rfl
set_option maxRecDepth 100000 in
theorem mt_Hd_truePairs : mtab[kHd_truePairs]? = some (yX2_truePairs, Cond.code yX2_truePairs cX2_truePairs 7 (some .int), 4, 105, 1) := rfl
set_option maxRecDepth 100000 in
theorem mt_Hd_monthsLacked : mtab[kHd_monthsLacked]? = some (yX2_monthsLacked, Cond.code yX2_monthsLacked cX2_monthsLacked 3 (some .int), 2, 46, 1) := rfl
set_option maxRecDepth 100000 in
theorem mt_Hp_init : mtab[kHp_init]? = some (yX3_init, Cond.code yX3_init cX3_init 2 none, 1, 12, 0) := rfl
set_option maxRecDepth 100000 in
theorem mt_Hp_empty : mtab[kHp_empty]? = some (yX3_empty, Cond.code yX3_empty cX3_empty 2 none, 0, 0, 0) := rfl
set_option maxRecDepth 100000 in
theorem mt_Hp_put : mtab[kHp_put]? = some (yX3_put, Cond.code yX3_put cX3_put 4 none, 1, 24, 0) := rfl
set_option maxRecDepth 100000 in
theorem mt_Hp_takeLeast : mtab[kHp_takeLeast]? = some (yX3_takeLeast, Cond.code yX3_takeLeast cX3_takeLeast 4 (some .int), 2, 52, 1) := rfl
set_option maxRecDepth 100000 in
theorem mt_Hp_sink : mtab[kHp_sink]? = some (yX3_sink, Cond.code yX3_sink cX3_sink 6 none, 1, 25, 0) := rfl
set_option maxRecDepth 100000 in
theorem mt_Hp_lesserChild : mtab[kHp_lesserChild]? = some (yX3_lesserChild, Cond.code yX3_lesserChild cX3_lesserChild 4 (some .int), 0, 0, 1) := rfl
set_option maxRecDepth 100000 in
theorem mt_Hp_set : mtab[kHp_set]? = some (yX3_set, Cond.code yX3_set cX3_set 3 none, 0, 0, 0) := rfl
set_option maxRecDepth 100000 in
theorem mt_Pr_init : mtab[kPr_init]? = some (yX5_init, Cond.code yX5_init cX5_init 1 none, 1, 12, 0) := rfl
set_option maxRecDepth 100000 in
theorem mt_Pr_lineCount : mtab[kPr_lineCount]? = some (yX5_lineCount, Cond.code yX5_lineCount cX5_lineCount 1 (some .int), 0, 0, 1) := rfl
set_option maxRecDepth 100000 in
theorem mt_Pr_over : mtab[kPr_over]? = some (yX5_over, Cond.code yX5_over cX5_over 3 (some .int), 1, 20, 1) := rfl
set_option maxRecDepth 100000 in
theorem mt_Pr_costOf : mtab[kPr_costOf]? = some (yX5_costOf, Cond.code yX5_costOf cX5_costOf 2 (some .int), 0, 0, 1) := rfl
set_option maxRecDepth 100000 in
theorem mt_Pr_readFrom : mtab[kPr_readFrom]? = some (yX5_readFrom, Cond.code yX5_readFrom cX5_readFrom 2 none, 2, 49, 0) := rfl
set_option maxRecDepth 100000 in
theorem mt_Rd_init : mtab[kRd_init]? = some (yX6_init, Cond.code yX6_init cX6_init 3 none, 1, 23, 0) := rfl
set_option maxRecDepth 100000 in
theorem mt_Rd_goTo : mtab[kRd_goTo]? = some (yX6_goTo, Cond.code yX6_goTo cX6_goTo 2 none, 0, 0, 0) := rfl
set_option maxRecDepth 100000 in
theorem mt_Rd_refuseAt : mtab[kRd_refuseAt]? = some (yX6_refuseAt, Cond.code yX6_refuseAt cX6_refuseAt 2 none, 0, 0, 0) := rfl
set_option maxRecDepth 100000 in
theorem mt_Rd_isRight : mtab[kRd_isRight]? = some (yX6_isRight, Cond.code yX6_isRight cX6_isRight 1 (some .boolean), 0, 0, 1) := rfl
set_option maxRecDepth 100000 in
theorem mt_Rd_seesDigit : mtab[kRd_seesDigit]? = some (yX6_seesDigit, Cond.code yX6_seesDigit cX6_seesDigit 1 (some .boolean), 0, 0, 1) := rfl
set_option maxRecDepth 100000 in
theorem mt_Rd_takes : mtab[kRd_takes]? = some (yX6_takes, Cond.code yX6_takes cX6_takes 2 (some .boolean), 1, 23, 1) := rfl
set_option maxRecDepth 100000 in
theorem mt_Rd_expect : mtab[kRd_expect]? = some (yX6_expect, Cond.code yX6_expect cX6_expect 2 none, 1, 23, 0) := rfl
set_option maxRecDepth 100000 in
theorem mt_Rd_finish : mtab[kRd_finish]? = some (yX6_finish, Cond.code yX6_finish cX6_finish 1 none, 1, 23, 0) := rfl
set_option maxRecDepth 100000 in
theorem mt_Rd_refuse : mtab[kRd_refuse]? = some (yX6_refuse, Cond.code yX6_refuse cX6_refuse 1 none, 1, 23, 0) := rfl
set_option maxRecDepth 100000 in
theorem mt_Rd_refuseNumber : mtab[kRd_refuseNumber]? = some (yX6_refuseNumber, Cond.code yX6_refuseNumber cX6_refuseNumber 1 none, 1, 23, 0) := rfl
set_option maxRecDepth 100000 in
theorem mt_Rd_number : mtab[kRd_number]? = some (yX6_number, Cond.code yX6_number cX6_number 5 (some .int), 1, 23, 1) := rfl
set_option maxRecDepth 100000 in
theorem mt_Rw_init : mtab[kRw_init]? = some (yX7_init, Cond.code yX7_init cX7_init 2 none, 1, 26, 0) := rfl
set_option maxRecDepth 100000 in
theorem mt_Rw_has : mtab[kRw_has]? = some (yX7_has, Cond.code yX7_has cX7_has 2 (some .boolean), 0, 0, 1) := rfl
set_option maxRecDepth 100000 in
theorem mt_Rw_know : mtab[kRw_know]? = some (yX7_know, Cond.code yX7_know cX7_know 2 none, 1, 23, 0) := rfl
set_option maxRecDepth 100000 in
theorem mt_Rw_find : mtab[kRw_find]? = some (yX7_find, Cond.code yX7_find cX7_find 5 none, 3, 78, 0) := rfl
set_option maxRecDepth 100000 in
theorem mt_Rw_chooseNext : mtab[kRw_chooseNext]? = some (yX7_chooseNext, Cond.code yX7_chooseNext cX7_chooseNext 6 none, 2, 46, 0) := rfl
set_option maxRecDepth 100000 in
theorem mt_Rw_goOn : mtab[kRw_goOn]? = some (yX7_goOn, Cond.code yX7_goOn cX7_goOn 8 none, 2, 49, 0) := rfl
set_option maxRecDepth 100000 in
theorem mt_Rw_reach : mtab[kRw_reach]? = some (yX7_reach, Cond.code yX7_reach cX7_reach 9 (some .int), 3, 78, 1) := rfl
set_option maxRecDepth 100000 in
theorem mt_Rw_costOf : mtab[kRw_costOf]? = some (yX7_costOf, Cond.code yX7_costOf cX7_costOf 2 (some .int), 1, 23, 1) := rfl
set_option maxRecDepth 100000 in
theorem mt_Rw_stepCount : mtab[kRw_stepCount]? = some (yX7_stepCount, Cond.code yX7_stepCount cX7_stepCount 2 (some .int), 1, 23, 1) := rfl
set_option maxRecDepth 100000 in
theorem mt_Rw_endOf : mtab[kRw_endOf]? = some (yX7_endOf, Cond.code yX7_endOf cX7_endOf 2 (some .int), 1, 23, 1) := rfl
set_option maxRecDepth 100000 in
theorem mt_Rw_nextOf : mtab[kRw_nextOf]? = some (yX7_nextOf, Cond.code yX7_nextOf cX7_nextOf 2 (some .int), 1, 23, 1) := rfl
set_option maxRecDepth 100000 in
theorem mt_Rw_stepOf : mtab[kRw_stepOf]? = some (yX7_stepOf, Cond.code yX7_stepOf cX7_stepOf 6 (some .int), 2, 46, 1) := rfl
set_option maxRecDepth 100000 in
theorem mt_Sp_init : mtab[kSp_init]? = some (yX8_init, Cond.code yX8_init cX8_init 5 none, 1, 22, 0) := rfl
set_option maxRecDepth 100000 in
theorem mt_Sp_isLike : mtab[kSp_isLike]? = some (yX8_isLike, Cond.code yX8_isLike cX8_isLike 3 (some .boolean), 1, 23, 1) := rfl
set_option maxRecDepth 100000 in
theorem mt_St_init : mtab[kSt_init]? = some (yX9_init, Cond.code yX9_init cX9_init 1 none, 1, 12, 0) := rfl
set_option maxRecDepth 100000 in
theorem mt_St_lineCount : mtab[kSt_lineCount]? = some (yX9_lineCount, Cond.code yX9_lineCount cX9_lineCount 1 (some .int), 0, 0, 1) := rfl
set_option maxRecDepth 100000 in
theorem mt_St_over : mtab[kSt_over]? = some (yX9_over, Cond.code yX9_over cX9_over 5 (some .int), 1, 20, 1) := rfl
set_option maxRecDepth 100000 in
theorem mt_St_costOf : mtab[kSt_costOf]? = some (yX9_costOf, Cond.code yX9_costOf cX9_costOf 3 (some .int), 0, 0, 1) := rfl
set_option maxRecDepth 100000 in
theorem mt_St_readFrom : mtab[kSt_readFrom]? = some (yX9_readFrom, Cond.code yX9_readFrom cX9_readFrom 3 none, 2, 50, 0) := rfl
set_option maxRecDepth 100000 in
theorem mt_St_has : mtab[kSt_has]? = some (yX9_has, Cond.code yX9_has cX9_has 3 (some .boolean), 0, 0, 1) := rfl
set_option maxRecDepth 100000 in
theorem mt_St_commonDivisor : mtab[kSt_commonDivisor]? = some (yX9_commonDivisor, Cond.code yX9_commonDivisor cX9_commonDivisor 6 (some .int), 1, 23, 1) := rfl
set_option maxRecDepth 100000 in
theorem mt_Sh_init : mtab[kSh_init]? = some (yX10_init, Cond.code yX10_init cX10_init 1 none, 1, 24, 0) := rfl
set_option maxRecDepth 100000 in
theorem mt_Sh_readLeaps : mtab[kSh_readLeaps]? = some (yX10_readLeaps, Cond.code yX10_readLeaps cX10_readLeaps 3 none, 2, 49, 0) := rfl
set_option maxRecDepth 100000 in
theorem mt_Sh_hasLeapDay : mtab[kSh_hasLeapDay]? = some (yX10_hasLeapDay, Cond.code yX10_hasLeapDay cX10_hasLeapDay 3 (some .boolean), 0, 0, 1) := rfl
set_option maxRecDepth 100000 in
theorem mt_Sh_canEndOn : mtab[kSh_canEndOn]? = some (yX10_canEndOn, Cond.code yX10_canEndOn cX10_canEndOn 4 (some .boolean), 1, 24, 1) := rfl
set_option maxRecDepth 100000 in
theorem mt_Sh_takeOver : mtab[kSh_takeOver]? = some (yX10_takeOver, Cond.code yX10_takeOver cX10_takeOver 7 none, 2, 50, 0) := rfl
set_option maxRecDepth 100000 in
theorem mt_Sh_lay : mtab[kSh_lay]? = some (yX10_lay, Cond.code yX10_lay cX10_lay 4 none, 2, 51, 0) := rfl
set_option maxRecDepth 100000 in
theorem mt_Sh_isLeapAt : mtab[kSh_isLeapAt]? = some (yX10_isLeapAt, Cond.code yX10_isLeapAt cX10_isLeapAt 2 (some .boolean), 0, 0, 1) := rfl
set_option maxRecDepth 100000 in
theorem mt_Sh_dayOn : mtab[kSh_dayOn]? = some (yX10_dayOn, Cond.code yX10_dayOn cX10_dayOn 6 (some .int), 1, 24, 1) := rfl
set_option maxRecDepth 100000 in
theorem mt_Sh_keyOn : mtab[kSh_keyOn]? = some (yX10_keyOn, Cond.code yX10_keyOn cX10_keyOn 4 (some .int), 2, 50, 1) := rfl
set_option maxRecDepth 100000 in
theorem mt_Sh_datesIn : mtab[kSh_datesIn]? = some (yX10_datesIn, Cond.code yX10_datesIn cX10_datesIn 6 (some .int), 1, 24, 1) := rfl
set_option maxRecDepth 100000 in
theorem mt_L_day : mtab[kL_day]? = some (yL_day, Cond.codeWith yL_day cL_day 7 (some .int) [(0, 14, 17, 13)], 7, 128, 1) := rfl
set_option maxRecDepth 100000 in
theorem mt_L_law : mtab[kL_law]? = some (yL_law, Cond.code yL_law cL_law 7 (some .boolean), 9, 247, 1) := rfl
set_option maxRecDepth 100000 in
theorem mt_J_bitCount : mtab[kJ_bitCount]? = some (yJ6_bitCount_0f7a4, Cond.code yJ6_bitCount_0f7a4 cJ6_bitCount_0f7a4 1 (some .int), 0, 0, 1) := rfl
set_option maxRecDepth 100000 in
theorem mt_J_compare : mtab[kJ_compare]? = some (yJ6_compare_7cf53, Cond.code yJ6_compare_7cf53 cJ6_compare_7cf53 2 (some .int), 0, 0, 1) := rfl
set_option maxRecDepth 100000 in
theorem mt_J_abs : mtab[kJ_abs]? = some (yJ9_abs_0f7a4, Cond.code yJ9_abs_0f7a4 cJ9_abs_0f7a4 1 (some .int), 0, 0, 1) := rfl
set_option maxRecDepth 100000 in
theorem mt_J_floorMod : mtab[kJ_floorMod]? = some (yJ9_floorMod_7cf53, Cond.code yJ9_floorMod_7cf53 cJ9_floorMod_7cf53 3 (some .int), 0, 0, 1) := rfl
set_option maxRecDepth 100000 in
theorem mt_J_max : mtab[kJ_max]? = some (yJ9_max_7cf53, Cond.code yJ9_max_7cf53 cJ9_max_7cf53 2 (some .int), 0, 0, 1) := rfl
set_option maxRecDepth 100000 in
theorem mt_J_min : mtab[kJ_min]? = some (yJ9_min_7cf53, Cond.code yJ9_min_7cf53 cJ9_min_7cf53 2 (some .int), 0, 0, 1) := rfl
set_option maxRecDepth 100000 in
theorem mt_J_minL : mtab[kJ_minL]? = some (yJ9_min_f86c9, Cond.code yJ9_min_f86c9 cJ9_min_f86c9 4 (some .long), 0, 0, 2) := rfl
set_option maxRecDepth 100000 in
theorem mt_J_fill : mtab[kJ_fill]? = some (yJ7_fill_d0a16, Cond.code yJ7_fill_d0a16 cJ7_fill_d0a16 5 none, 0, 0, 0) := rfl
theorem pf_RX11_9 {cc : ByteArray} {nL : Nat} {pc : Nat} (hd : decode cc pc = .ok (.putfield 9, 3)) : snd RX11 cc nL true pc (pc + 3) (s_put 10 0 102) := snd_putfieldF (C := RX11) (T := TX11) (N := 20) (ci := 10) (kf := 0) (kd := 102) (index := 9) (f := 0) cl_10 in_10 (by decide) nf_10 (by decide) rfl rfl rfl tyX11_ok nmX11 (Or.inr ⟨_, rfl⟩) rfl rfl rfl m_36 hd
theorem pf_RX11_15 {cc : ByteArray} {nL : Nat} {pc : Nat} (hd : decode cc pc = .ok (.putfield 15, 3)) : snd RX11 cc nL true pc (pc + 3) (s_put 10 2 202) := snd_putfieldF (C := RX11) (T := TX11) (N := 20) (ci := 10) (kf := 2) (kd := 202) (index := 15) (f := 2) cl_10 in_10 (by decide) nf_10 (by decide) rfl rfl rfl tyX11_ok nmX11 (Or.inr ⟨_, rfl⟩) rfl rfl rfl m_38 hd
theorem pf_RX11_21 {cc : ByteArray} {nL : Nat} {pc : Nat} (hd : decode cc pc = .ok (.putfield 21, 3)) : snd RX11 cc nL true pc (pc + 3) (s_put 10 4 204) := snd_putfieldF (C := RX11) (T := TX11) (N := 20) (ci := 10) (kf := 4) (kd := 204) (index := 21) (f := 4) cl_10 in_10 (by decide) nf_10 (by decide) rfl rfl rfl tyX11_ok nmX11 (Or.inr ⟨_, rfl⟩) rfl rfl rfl m_40 hd
theorem pf_RX11_27 {cc : ByteArray} {nL : Nat} {pc : Nat} (hd : decode cc pc = .ok (.putfield 27, 3)) : snd RX11 cc nL true pc (pc + 3) (s_put 10 6 203) := snd_putfieldF (C := RX11) (T := TX11) (N := 20) (ci := 10) (kf := 6) (kd := 203) (index := 27) (f := 6) cl_10 in_10 (by decide) nf_10 (by decide) rfl rfl rfl tyX11_ok nmX11 (Or.inr ⟨_, rfl⟩) rfl rfl rfl m_42 hd
theorem pf_RX11_33 {cc : ByteArray} {nL : Nat} {pc : Nat} (hd : decode cc pc = .ok (.putfield 33, 3)) : snd RX11 cc nL true pc (pc + 3) (s_put 10 8 209) := snd_putfieldF (C := RX11) (T := TX11) (N := 20) (ci := 10) (kf := 8) (kd := 209) (index := 33) (f := 8) cl_10 in_10 (by decide) nf_10 (by decide) rfl rfl rfl tyX11_ok nmX11 (Or.inr ⟨_, rfl⟩) rfl rfl rfl m_44 hd
theorem pf_RX11_37 {cc : ByteArray} {nL : Nat} {pc : Nat} (hd : decode cc pc = .ok (.putfield 37, 3)) : snd RX11 cc nL true pc (pc + 3) (s_put 10 10 102) := snd_putfieldF (C := RX11) (T := TX11) (N := 20) (ci := 10) (kf := 10) (kd := 102) (index := 37) (f := 10) cl_10 in_10 (by decide) nf_10 (by decide) rfl rfl rfl tyX11_ok nmX11 (Or.inr ⟨_, rfl⟩) rfl rfl rfl m_46 hd
theorem pf_RX11_40 {cc : ByteArray} {nL : Nat} {pc : Nat} (hd : decode cc pc = .ok (.putfield 40, 3)) : snd RX11 cc nL true pc (pc + 3) (s_put 10 11 102) := snd_putfieldF (C := RX11) (T := TX11) (N := 20) (ci := 10) (kf := 11) (kd := 102) (index := 40) (f := 11) cl_10 in_10 (by decide) nf_10 (by decide) rfl rfl rfl tyX11_ok nmX11 (Or.inr ⟨_, rfl⟩) rfl rfl rfl m_47 hd
theorem cs_RX11_43 {cc : ByteArray} {nL : Nat} {ini : Bool} {pcs : List Nat} {rF rL pc b : Nat} (hb1 : pcs[b]? = some (pc + 3)) (qF : 1 ≤ rF) (qL : 22 ≤ rL) (hd : decode cc pc = .ok (.invokestatic 43, 3)) : sndQ mtab RX11 cc nL ini pcs rF rL pc (t_cs kX_signsIn 1 1 b) := sndQ_cs hb1 mt_X_signsIn m_104 m_102 m_103 m_1 ⟨by decide, by decide, by decide +kernel⟩ qF qL hd
theorem gf_RX11_47 {cc : ByteArray} {nL : Nat} {ini : Bool} {pc : Nat} (hd : decode cc pc = .ok (.getfield 47, 3)) : snd RX11 cc nL ini pc (pc + 3) (s_get 10 1 0) := snd_getfield (C := RX11) (T := TX11) (N := 20) (ci := 10) (kf := 1) (kd := 0) (index := 47) (f := 1) cl_10 in_10 (by decide) nf_10 (by decide) rfl rfl rfl m_37 hd
theorem cs_RX11_51 {cc : ByteArray} {nL : Nat} {ini : Bool} {pcs : List Nat} {rF rL pc b : Nat} (hb1 : pcs[b]? = some (pc + 3)) (qF : 1 ≤ rF) (qL : 23 ≤ rL) (hd : decode cc pc = .ok (.invokevirtual 51, 3)) : sndQ mtab RX11 cc nL ini pcs rF rL pc (t_cv 10 kX_append 1 0 b) := sndQ_cv cl_10 (by decide) hb1 mt_X_append m_108 m_105 m_107 ms_0 m_1 ⟨rfl, by decide, by decide, by decide +kernel⟩ qF qL hd
theorem pf_RX11_47 {cc : ByteArray} {nL : Nat} {ini : Bool} {pc : Nat} (hd : decode cc pc = .ok (.putfield 47, 3)) : snd RX11 cc nL ini pc (pc + 3) (s_put 10 1 0) := snd_putfield (C := RX11) (T := TX11) (N := 20) (ci := 10) (kf := 1) (kd := 0) (index := 47) (f := 1) cl_10 in_10 (by decide) nf_10 (by decide) rfl rfl rfl tyX11_ok nmX11 rfl rfl m_37 hd
theorem gf_RX11_9 {cc : ByteArray} {nL : Nat} {ini : Bool} {pc : Nat} (hd : decode cc pc = .ok (.getfield 9, 3)) : snd RX11 cc nL ini pc (pc + 3) (s_get 10 0 102) := snd_getfield (C := RX11) (T := TX11) (N := 20) (ci := 10) (kf := 0) (kd := 102) (index := 9) (f := 0) cl_10 in_10 (by decide) nf_10 (by decide) rfl rfl rfl m_36 hd
theorem cs_RX11_57 {cc : ByteArray} {nL : Nat} {ini : Bool} {pcs : List Nat} {rF rL pc b : Nat} (hb1 : pcs[b]? = some (pc + 3)) (qF : 2 ≤ rF) (qL : 45 ≤ rL) (hd : decode cc pc = .ok (.invokespecial 57, 3)) : sndQ mtab RX11 cc nL ini pcs rF rL pc (t_cv 5 kRd_init 2 0 b) := sndQ_ci cl_5 (by decide) hb1 mt_Rd_init m_121 m_119 m_120 m_3 rfl ⟨by decide, by decide, by decide +kernel⟩ qF qL hd
theorem cs_RX11_60 {cc : ByteArray} {nL : Nat} {ini : Bool} {pcs : List Nat} {rF rL pc b : Nat} (hb1 : pcs[b]? = some (pc + 3)) (qF : 5 ≤ rF) (qL : 129 ≤ rL) (hd : decode cc pc = .ok (.invokestatic 60, 3)) : sndQ mtab RX11 cc nL ini pcs rF rL pc (t_cs kAl_readFrom 1 3 b) := sndQ_cs hb1 mt_Al_readFrom m_153 m_151 m_152 m_5 ⟨by decide, by decide, by decide +kernel⟩ qF qL hd
theorem gf_RX11_64 {cc : ByteArray} {nL : Nat} {ini : Bool} {pc : Nat} (hd : decode cc pc = .ok (.getfield 64, 3)) : snd RX11 cc nL ini pc (pc + 3) (s_get 5 5 0) := snd_getfieldN (host := "DayBoy") (C := RX6) (T := TX6) (N := 6) (ci := 5) (kf := 5) (kd := 0) (index := 64) (f := 5) cl_5 in_5 (by decide) nf_5 (by decide) rfl rfl rfl mn_wN1_0 hd
theorem cs_RX11_67 {cc : ByteArray} {nL : Nat} {ini : Bool} {pcs : List Nat} {rF rL pc b : Nat} (hb1 : pcs[b]? = some (pc + 3)) (qF : 5 ≤ rF) (qL : 119 ≤ rL) (hd : decode cc pc = .ok (.invokestatic 67, 3)) : sndQ mtab RX11 cc nL ini pcs rF rL pc (t_cs kHd_readFrom 1 5 b) := sndQ_cs hb1 mt_Hd_readFrom m_308 m_306 m_307 m_7 ⟨by decide, by decide, by decide +kernel⟩ qF qL hd
theorem cs_RX11_70 {cc : ByteArray} {nL : Nat} {ini : Bool} {pcs : List Nat} {rF rL pc b : Nat} (hb1 : pcs[b]? = some (pc + 3)) (qF : 4 ≤ rF) (qL : 97 ≤ rL) (hd : decode cc pc = .ok (.invokestatic 70, 3)) : sndQ mtab RX11 cc nL ini pcs rF rL pc (t_cs kX_readThings 2 1 b) := sndQ_cs hb1 mt_X_readThings m_451 m_449 m_450 m_1 ⟨by decide, by decide, by decide +kernel⟩ qF qL hd
theorem cs_RX11_74 {cc : ByteArray} {nL : Nat} {ini : Bool} {pcs : List Nat} {rF rL pc b : Nat} (hb1 : pcs[b]? = some (pc + 3)) (qF : 6 ≤ rF) (qL : 153 ≤ rL) (hd : decode cc pc = .ok (.invokevirtual 74, 3)) : sndQ mtab RX11 cc nL ini pcs rF rL pc (t_cv 10 kX_takeAlmanac 0 1 b) := sndQ_cv cl_10 (by decide) hb1 mt_X_takeAlmanac m_473 m_470 m_472 ms_9 m_1 ⟨rfl, by decide, by decide, by decide +kernel⟩ qF qL hd
theorem cs_RX11_78 {cc : ByteArray} {nL : Nat} {ini : Bool} {pcs : List Nat} {rF rL pc b : Nat} (hb1 : pcs[b]? = some (pc + 3)) (qF : 6 ≤ rF) (qL : 151 ≤ rL) (hd : decode cc pc = .ok (.invokevirtual 78, 3)) : sndQ mtab RX11 cc nL ini pcs rF rL pc (t_cv 10 kX_takeHead 0 1 b) := sndQ_cv cl_10 (by decide) hb1 mt_X_takeHead m_503 m_500 m_502 ms_11 m_1 ⟨rfl, by decide, by decide, by decide +kernel⟩ qF qL hd
theorem cs_RX11_81 {cc : ByteArray} {nL : Nat} {ini : Bool} {pcs : List Nat} {rF rL pc b : Nat} (hb1 : pcs[b]? = some (pc + 3)) (qF : 5 ≤ rF) (qL : 122 ≤ rL) (hd : decode cc pc = .ok (.invokevirtual 81, 3)) : sndQ mtab RX11 cc nL ini pcs rF rL pc (t_cv 10 kX_takeThings 0 1 b) := sndQ_cv cl_10 (by decide) hb1 mt_X_takeThings m_639 m_636 m_638 ms_18 m_1 ⟨rfl, by decide, by decide, by decide +kernel⟩ qF qL hd
theorem gf_RX11_84 {cc : ByteArray} {nL : Nat} {ini : Bool} {pc : Nat} (hd : decode cc pc = .ok (.getfield 84, 3)) : snd RX11 cc nL ini pc (pc + 3) (s_get 10 3 0) := snd_getfield (C := RX11) (T := TX11) (N := 20) (ci := 10) (kf := 3) (kd := 0) (index := 84) (f := 3) cl_10 in_10 (by decide) nf_10 (by decide) rfl rfl rfl m_39 hd
theorem cs_RX11_87 {cc : ByteArray} {nL : Nat} {ini : Bool} {pcs : List Nat} {rF rL pc b : Nat} (hb1 : pcs[b]? = some (pc + 3)) (qF : 1 ≤ rF) (qL : 20 ≤ rL) (hd : decode cc pc = .ok (.invokevirtual 87, 3)) : sndQ mtab RX11 cc nL ini pcs rF rL pc (t_cv 5 kRd_isRight 0 1 b) := sndQ_cv cl_5 (by decide) hb1 mt_Rd_isRight m_477 m_474 m_475 m_476 m_3 ⟨rfl, by decide, by decide, by decide +kernel⟩ qF qL hd
theorem cs_RX11_91 {cc : ByteArray} {nL : Nat} {ini : Bool} {pcs : List Nat} {rF rL pc b : Nat} (hb1 : pcs[b]? = some (pc + 3)) (qF : 4 ≤ rF) (qL : 103 ≤ rL) (hd : decode cc pc = .ok (.invokevirtual 91, 3)) : sndQ mtab RX11 cc nL ini pcs rF rL pc (t_cv 0 kAl_lay 0 0 b) := sndQ_cv cl_0 (by decide) hb1 mt_Al_lay m_481 m_478 m_479 m_480 m_5 ⟨rfl, by decide, by decide, by decide +kernel⟩ qF qL hd
theorem pf_RX11_84 {cc : ByteArray} {nL : Nat} {ini : Bool} {pc : Nat} (hd : decode cc pc = .ok (.putfield 84, 3)) : snd RX11 cc nL ini pc (pc + 3) (s_put 10 3 0) := snd_putfield (C := RX11) (T := TX11) (N := 20) (ci := 10) (kf := 3) (kd := 0) (index := 84) (f := 3) cl_10 in_10 (by decide) nf_10 (by decide) rfl rfl rfl tyX11_ok nmX11 rfl rfl m_39 hd
theorem gf_RX11_15 {cc : ByteArray} {nL : Nat} {ini : Bool} {pc : Nat} (hd : decode cc pc = .ok (.getfield 15, 3)) : snd RX11 cc nL ini pc (pc + 3) (s_get 10 2 202) := snd_getfield (C := RX11) (T := TX11) (N := 20) (ci := 10) (kf := 2) (kd := 202) (index := 15) (f := 2) cl_10 in_10 (by decide) nf_10 (by decide) rfl rfl rfl m_38 hd
theorem gf_RX11_94 {cc : ByteArray} {nL : Nat} {ini : Bool} {pc : Nat} (hd : decode cc pc = .ok (.getfield 94, 3)) : snd RX11 cc nL ini pc (pc + 3) (s_get 10 5 0) := snd_getfield (C := RX11) (T := TX11) (N := 20) (ci := 10) (kf := 5) (kd := 0) (index := 94) (f := 5) cl_10 in_10 (by decide) nf_10 (by decide) rfl rfl rfl m_41 hd
theorem gf_RX11_97 {cc : ByteArray} {nL : Nat} {ini : Bool} {pc : Nat} (hd : decode cc pc = .ok (.getfield 97, 3)) : snd RX11 cc nL ini pc (pc + 3) (s_get 10 18 5) := snd_getfield (C := RX11) (T := TX11) (N := 20) (ci := 10) (kf := 18) (kd := 5) (index := 97) (f := 18) cl_10 in_10 (by decide) nf_10 (by decide) rfl rfl rfl m_54 hd
theorem cs_RX11_103 {cc : ByteArray} {nL : Nat} {ini : Bool} {pcs : List Nat} {rF rL pc b : Nat} (hb1 : pcs[b]? = some (pc + 3)) (qF : 2 ≤ rF) (qL : 33 ≤ rL) (hd : decode cc pc = .ok (.invokespecial 103, 3)) : sndQ mtab RX11 cc nL ini pcs rF rL pc (t_cv 3 kHp_init 1 0 b) := sndQ_ci cl_3 (by decide) hb1 mt_Hp_init m_508 m_506 m_507 m_10 rfl ⟨by decide, by decide, by decide +kernel⟩ qF qL hd
theorem pf_RX11_97 {cc : ByteArray} {nL : Nat} {ini : Bool} {pc : Nat} (hd : decode cc pc = .ok (.putfield 97, 3)) : snd RX11 cc nL ini pc (pc + 3) (s_put 10 18 5) := snd_putfield (C := RX11) (T := TX11) (N := 20) (ci := 10) (kf := 18) (kd := 5) (index := 97) (f := 18) cl_10 in_10 (by decide) nf_10 (by decide) rfl rfl rfl tyX11_ok nmX11 (Or.inl ⟨_, rfl⟩) rfl m_54 hd
theorem cs_RX11_105 {cc : ByteArray} {nL : Nat} {ini : Bool} {pcs : List Nat} {rF rL pc b : Nat} (hb1 : pcs[b]? = some (pc + 3)) (qF : 5 ≤ rF) (qL : 127 ≤ rL) (hd : decode cc pc = .ok (.invokevirtual 105, 3)) : sndQ mtab RX11 cc nL ini pcs rF rL pc (t_cv 2 kHd_findRows 1 0 b) := sndQ_cv cl_2 (by decide) hb1 mt_Hd_findRows m_524 m_521 m_522 m_523 m_7 ⟨rfl, by decide, by decide, by decide +kernel⟩ qF qL hd
theorem pf_RX11_94 {cc : ByteArray} {nL : Nat} {ini : Bool} {pc : Nat} (hd : decode cc pc = .ok (.putfield 94, 3)) : snd RX11 cc nL ini pc (pc + 3) (s_put 10 5 0) := snd_putfield (C := RX11) (T := TX11) (N := 20) (ci := 10) (kf := 5) (kd := 0) (index := 94) (f := 5) cl_10 in_10 (by decide) nf_10 (by decide) rfl rfl rfl tyX11_ok nmX11 rfl rfl m_41 hd
theorem gf_RX11_21 {cc : ByteArray} {nL : Nat} {ini : Bool} {pc : Nat} (hd : decode cc pc = .ok (.getfield 21, 3)) : snd RX11 cc nL ini pc (pc + 3) (s_get 10 4 204) := snd_getfield (C := RX11) (T := TX11) (N := 20) (ci := 10) (kf := 4) (kd := 204) (index := 21) (f := 4) cl_10 in_10 (by decide) nf_10 (by decide) rfl rfl rfl m_40 hd
theorem pf_RX11_109 {cc : ByteArray} {nL : Nat} {ini : Bool} {pc : Nat} (hd : decode cc pc = .ok (.putfield 109, 3)) : snd RX11 cc nL ini pc (pc + 3) (s_put 10 15 102) := snd_putfield (C := RX11) (T := TX11) (N := 20) (ci := 10) (kf := 15) (kd := 102) (index := 109) (f := 15) cl_10 in_10 (by decide) nf_10 (by decide) rfl rfl rfl tyX11_ok nmX11 (Or.inr ⟨_, rfl⟩) rfl m_51 hd
theorem pf_RX11_112 {cc : ByteArray} {nL : Nat} {ini : Bool} {pc : Nat} (hd : decode cc pc = .ok (.putfield 112, 3)) : snd RX11 cc nL ini pc (pc + 3) (s_put 10 16 0) := snd_putfield (C := RX11) (T := TX11) (N := 20) (ci := 10) (kf := 16) (kd := 0) (index := 112) (f := 16) cl_10 in_10 (by decide) nf_10 (by decide) rfl rfl rfl tyX11_ok nmX11 rfl rfl m_52 hd
theorem gf_RX11_112 {cc : ByteArray} {nL : Nat} {ini : Bool} {pc : Nat} (hd : decode cc pc = .ok (.getfield 112, 3)) : snd RX11 cc nL ini pc (pc + 3) (s_get 10 16 0) := snd_getfield (C := RX11) (T := TX11) (N := 20) (ci := 10) (kf := 16) (kd := 0) (index := 112) (f := 16) cl_10 in_10 (by decide) nf_10 (by decide) rfl rfl rfl m_52 hd
theorem cs_RX11_115 {cc : ByteArray} {nL : Nat} {ini : Bool} {pcs : List Nat} {rF rL pc b : Nat} (hb1 : pcs[b]? = some (pc + 3)) (qF : 3 ≤ rF) (qL : 72 ≤ rL) (hd : decode cc pc = .ok (.invokestatic 115, 3)) : sndQ mtab RX11 cc nL ini pcs rF rL pc (t_cs kX_readThing 1 1 b) := sndQ_cs hb1 mt_X_readThing m_454 m_452 m_453 m_1 ⟨by decide, by decide, by decide +kernel⟩ qF qL hd
theorem cs_RX11_119 {cc : ByteArray} {nL : Nat} {ini : Bool} {pcs : List Nat} {rF rL pc b : Nat} (hb1 : pcs[b]? = some (pc + 3)) (qF : 2 ≤ rF) (qL : 44 ≤ rL) (hd : decode cc pc = .ok (.invokevirtual 119, 3)) : sndQ mtab RX11 cc nL ini pcs rF rL pc (t_cv 5 kRd_takes 1 1 b) := sndQ_cv cl_5 (by decide) hb1 mt_Rd_takes m_242 m_455 m_240 m_241 m_3 ⟨rfl, by decide, by decide, by decide +kernel⟩ qF qL hd
theorem cs_RX11_123 {cc : ByteArray} {nL : Nat} {ini : Bool} {pcs : List Nat} {rF rL pc b : Nat} (hb1 : pcs[b]? = some (pc + 3)) (qF : 2 ≤ rF) (qL : 43 ≤ rL) (hd : decode cc pc = .ok (.invokevirtual 123, 3)) : sndQ mtab RX11 cc nL ini pcs rF rL pc (t_cv 5 kRd_refuse 0 0 b) := sndQ_cv cl_5 (by decide) hb1 mt_Rd_refuse m_248 m_464 m_246 m_247 m_3 ⟨rfl, by decide, by decide, by decide +kernel⟩ qF qL hd
theorem cs_RX11_126 {cc : ByteArray} {nL : Nat} {ini : Bool} {pcs : List Nat} {rF rL pc b : Nat} (hb1 : pcs[b]? = some (pc + 3)) (qF : 2 ≤ rF) (qL : 43 ≤ rL) (hd : decode cc pc = .ok (.invokevirtual 126, 3)) : sndQ mtab RX11 cc nL ini pcs rF rL pc (t_cv 5 kRd_finish 0 0 b) := sndQ_cv cl_5 (by decide) hb1 mt_Rd_finish m_305 m_465 m_303 m_304 m_3 ⟨rfl, by decide, by decide, by decide +kernel⟩ qF qL hd
theorem cs_RX11_129 {cc : ByteArray} {nL : Nat} {ini : Bool} {pcs : List Nat} {rF rL pc b : Nat} (hb1 : pcs[b]? = some (pc + 3)) (qF : 2 ≤ rF) (qL : 47 ≤ rL) (hd : decode cc pc = .ok (.invokevirtual 129, 3)) : sndQ mtab RX11 cc nL ini pcs rF rL pc (t_cv 5 kRd_number 2 1 b) := sndQ_cv cl_5 (by decide) hb1 mt_Rd_number m_178 m_456 m_176 m_177 m_3 ⟨rfl, by decide, by decide, by decide +kernel⟩ qF qL hd
theorem cs_RX11_133 {cc : ByteArray} {nL : Nat} {ini : Bool} {pcs : List Nat} {rF rL pc b : Nat} (hb1 : pcs[b]? = some (pc + 3)) (qF : 2 ≤ rF) (qL : 44 ≤ rL) (hd : decode cc pc = .ok (.invokevirtual 133, 3)) : sndQ mtab RX11 cc nL ini pcs rF rL pc (t_cv 5 kRd_expect 1 0 b) := sndQ_cv cl_5 (by decide) hb1 mt_Rd_expect m_190 m_457 m_188 m_189 m_3 ⟨rfl, by decide, by decide, by decide +kernel⟩ qF qL hd
theorem cs_RX11_136 {cc : ByteArray} {nL : Nat} {ini : Bool} {pcs : List Nat} {rF rL pc b : Nat} (hb1 : pcs[b]? = some (pc + 3)) (qF : 2 ≤ rF) (qL : 44 ≤ rL) (hd : decode cc pc = .ok (.invokestatic 136, 3)) : sndQ mtab RX11 cc nL ini pcs rF rL pc (t_cs kX_isDatelike 3 1 b) := sndQ_cs hb1 mt_X_isDatelike m_460 m_458 m_459 m_1 ⟨by decide, by decide, by decide +kernel⟩ qF qL hd
theorem cs_RX11_140 {cc : ByteArray} {nL : Nat} {ini : Bool} {pcs : List Nat} {rF rL pc b : Nat} (hb1 : pcs[b]? = some (pc + 3)) (qF : 1 ≤ rF) (qL : 22 ≤ rL) (hd : decode cc pc = .ok (.invokestatic 140, 3)) : sndQ mtab RX11 cc nL ini pcs rF rL pc (t_cs kX_keyOf 3 1 b) := sndQ_cs hb1 mt_X_keyOf m_198 m_301 m_197 m_1 ⟨by decide, by decide, by decide +kernel⟩ qF qL hd
theorem cs_RX11_151 {cc : ByteArray} {nL : Nat} {ini : Bool} {pcs : List Nat} {rF rL pc b : Nat} (hb1 : pcs[b]? = some (pc + 3)) (qF : 1 ≤ rF) (qL : 21 ≤ rL) (hd : decode cc pc = .ok (.invokevirtual 151, 3)) : sndQ mtab RX11 cc nL ini pcs rF rL pc (t_cv 10 kX_almanacAt 1 3 b) := sndQ_cv cl_10 (by decide) hb1 mt_X_almanacAt m_647 m_644 m_646 ms_19 m_1 ⟨rfl, by decide, by decide, by decide +kernel⟩ qF qL hd
theorem cs_RX11_155 {cc : ByteArray} {nL : Nat} {ini : Bool} {pcs : List Nat} {rF rL pc b : Nat} (hb1 : pcs[b]? = some (pc + 3)) (qF : 4 ≤ rF) (qL : 98 ≤ rL) (hd : decode cc pc = .ok (.invokevirtual 155, 3)) : sndQ mtab RX11 cc nL ini pcs rF rL pc (t_cv 0 kAl_keyOn 1 1 b) := sndQ_cv cl_0 (by decide) hb1 mt_Al_keyOn m_651 m_648 m_649 m_650 m_5 ⟨rfl, by decide, by decide, by decide +kernel⟩ qF qL hd
theorem cs_RX11_158 {cc : ByteArray} {nL : Nat} {ini : Bool} {pcs : List Nat} {rF rL pc b : Nat} (hb1 : pcs[b]? = some (pc + 3)) (qF : 2 ≤ rF) (qL : 43 ≤ rL) (hd : decode cc pc = .ok (.invokestatic 158, 3)) : sndQ mtab RX11 cc nL ini pcs rF rL pc (t_cs kX_partOfKey 2 1 b) := sndQ_cs hb1 mt_X_partOfKey m_658 m_656 m_657 m_1 ⟨by decide, by decide, by decide +kernel⟩ qF qL hd
theorem cs_RX11_144 {cc : ByteArray} {nL : Nat} {ini : Bool} {pcs : List Nat} {rF rL pc b : Nat} (hb1 : pcs[b]? = some (pc + 3)) (qF : 4 ≤ rF) (qL : 103 ≤ rL) (hd : decode cc pc = .ok (.invokevirtual 144, 3)) : sndQ mtab RX11 cc nL ini pcs rF rL pc (t_cv 10 kX_dayIn 4 1 b) := sndQ_cv cl_10 (by decide) hb1 mt_X_dayIn m_669 m_666 m_668 ms_20 m_1 ⟨rfl, by decide, by decide, by decide +kernel⟩ qF qL hd
theorem cs_RX11_161 {cc : ByteArray} {nL : Nat} {ini : Bool} {pcs : List Nat} {rF rL pc b : Nat} (hb1 : pcs[b]? = some (pc + 3)) (qF : 1 ≤ rF) (qL : 20 ≤ rL) (hd : decode cc pc = .ok (.invokestatic 161, 3)) : sndQ mtab RX11 cc nL ini pcs rF rL pc (t_cs kX_isYear 1 1 b) := sndQ_cs hb1 mt_X_isYear m_463 m_461 m_462 m_1 ⟨by decide, by decide, by decide +kernel⟩ qF qL hd
theorem cs_RX11_164 {cc : ByteArray} {nL : Nat} {ini : Bool} {pcs : List Nat} {rF rL pc b : Nat} (hb1 : pcs[b]? = some (pc + 3)) (qF : 3 ≤ rF) (qL : 75 ≤ rL) (hd : decode cc pc = .ok (.invokevirtual 164, 3)) : sndQ mtab RX11 cc nL ini pcs rF rL pc (t_cv 0 kAl_datesIn 2 1 b) := sndQ_cv cl_0 (by decide) hb1 mt_Al_datesIn m_678 m_675 m_676 m_677 m_5 ⟨rfl, by decide, by decide, by decide +kernel⟩ qF qL hd
theorem cs_RX11_167 {cc : ByteArray} {nL : Nat} {ini : Bool} {pcs : List Nat} {rF rL pc b : Nat} (hb1 : pcs[b]? = some (pc + 3)) (qF : 1 ≤ rF) (qL : 21 ≤ rL) (hd : decode cc pc = .ok (.invokevirtual 167, 3)) : sndQ mtab RX11 cc nL ini pcs rF rL pc (t_cv 0 kAl_kindOf 1 1 b) := sndQ_cv cl_0 (by decide) hb1 mt_Al_kindOf m_691 m_688 m_689 m_690 m_5 ⟨rfl, by decide, by decide, by decide +kernel⟩ qF qL hd
theorem cs_RX11_170 {cc : ByteArray} {nL : Nat} {ini : Bool} {pcs : List Nat} {rF rL pc b : Nat} (hb1 : pcs[b]? = some (pc + 3)) (qF : 2 ≤ rF) (qL : 46 ≤ rL) (hd : decode cc pc = .ok (.invokevirtual 170, 3)) : sndQ mtab RX11 cc nL ini pcs rF rL pc (t_cv 10 kX_kind 2 1 b) := sndQ_cv cl_10 (by decide) hb1 mt_X_kind m_687 m_696 m_685 m_686 m_1 ⟨rfl, by decide, by decide, by decide +kernel⟩ qF qL hd
theorem cs_RX11_173 {cc : ByteArray} {nL : Nat} {ini : Bool} {pcs : List Nat} {rF rL pc b : Nat} (hb1 : pcs[b]? = some (pc + 3)) (qF : 2 ≤ rF) (qL : 43 ≤ rL) (hd : decode cc pc = .ok (.invokestatic 173, 3)) : sndQ mtab RX11 cc nL ini pcs rF rL pc (t_cs kX_areYears 2 1 b) := sndQ_cs hb1 mt_X_areYears m_703 m_701 m_702 m_1 ⟨by decide, by decide, by decide +kernel⟩ qF qL hd
theorem cs_RX11_177 {cc : ByteArray} {nL : Nat} {ini : Bool} {pcs : List Nat} {rF rL pc b : Nat} (hb1 : pcs[b]? = some (pc + 3)) (qF : 3 ≤ rF) (qL : 76 ≤ rL) (hd : decode cc pc = .ok (.invokevirtual 177, 3)) : sndQ mtab RX11 cc nL ini pcs rF rL pc (t_cv 0 kAl_dayOn 3 1 b) := sndQ_cv cl_0 (by decide) hb1 mt_Al_dayOn m_497 m_670 m_495 m_496 m_5 ⟨rfl, by decide, by decide, by decide +kernel⟩ qF qL hd
theorem cs_RX11_180 {cc : ByteArray} {nL : Nat} {ini : Bool} {pcs : List Nat} {rF rL pc b : Nat} (hb1 : pcs[b]? = some (pc + 3)) (qF : 4 ≤ rF) (qL : 103 ≤ rL) (hd : decode cc pc = .ok (.invokevirtual 180, 3)) : sndQ mtab RX11 cc nL ini pcs rF rL pc (t_cv 0 kAl_areAlike 3 1 b) := sndQ_cv cl_0 (by decide) hb1 mt_Al_areAlike m_711 m_708 m_709 m_710 m_5 ⟨rfl, by decide, by decide, by decide +kernel⟩ qF qL hd
theorem cs_RX11_184 {cc : ByteArray} {nL : Nat} {ini : Bool} {pcs : List Nat} {rF rL pc b : Nat} (hb1 : pcs[b]? = some (pc + 3)) (qF : 2 ≤ rF) (qL : 46 ≤ rL) (hd : decode cc pc = .ok (.invokespecial 184, 3)) : sndQ mtab RX11 cc nL ini pcs rF rL pc (t_cv 7 kSp_init 4 0 b) := sndQ_ci cl_7 (by decide) hb1 mt_Sp_init m_874 m_872 m_873 m_17 rfl ⟨by decide, by decide, by decide +kernel⟩ qF qL hd
theorem cs_RX11_187 {cc : ByteArray} {nL : Nat} {ini : Bool} {pcs : List Nat} {rF rL pc b : Nat} (hb1 : pcs[b]? = some (pc + 3)) (qF : 1 ≤ rF) (qL : 21 ≤ rL) (hd : decode cc pc = .ok (.invokevirtual 187, 3)) : sndQ mtab RX11 cc nL ini pcs rF rL pc (t_cv 10 kX_headAt 1 5 b) := sndQ_cv cl_10 (by decide) hb1 mt_X_headAt m_724 m_721 m_723 ms_21 m_1 ⟨rfl, by decide, by decide, by decide +kernel⟩ qF qL hd
theorem cs_RX11_191 {cc : ByteArray} {nL : Nat} {ini : Bool} {pcs : List Nat} {rF rL pc b : Nat} (hb1 : pcs[b]? = some (pc + 3)) (qF : 4 ≤ rF) (qL : 106 ≤ rL) (hd : decode cc pc = .ok (.invokevirtual 191, 3)) : sndQ mtab RX11 cc nL ini pcs rF rL pc (t_cv 2 kHd_toldFor 4 1 b) := sndQ_cv cl_2 (by decide) hb1 mt_Hd_toldFor m_728 m_725 m_726 m_727 m_7 ⟨rfl, by decide, by decide, by decide +kernel⟩ qF qL hd
theorem gf_RX11_195 {cc : ByteArray} {nL : Nat} {ini : Bool} {pc : Nat} (hd : decode cc pc = .ok (.getfield 195, 3)) : snd RX11 cc nL ini pc (pc + 3) (s_get 2 9 8) := snd_getfieldN (host := "DayBoy") (C := RX2) (T := TX2) (N := 11) (ci := 2) (kf := 9) (kd := 8) (index := 195) (f := 9) cl_2 in_2 (by decide) nf_2 (by decide) rfl rfl rfl mn_wN1_1 hd
theorem cs_RX11_199 {cc : ByteArray} {nL : Nat} {ini : Bool} {pcs : List Nat} {rF rL pc b : Nat} (hb1 : pcs[b]? = some (pc + 3)) (qF : 3 ≤ rF) (qL : 71 ≤ rL) (hd : decode cc pc = .ok (.invokevirtual 199, 3)) : sndQ mtab RX11 cc nL ini pcs rF rL pc (t_cv 6 kRw_stepOf 2 1 b) := sndQ_cv cl_6 (by decide) hb1 mt_Rw_stepOf m_746 m_743 m_744 m_745 m_11 ⟨rfl, by decide, by decide, by decide +kernel⟩ qF qL hd
theorem gf_RX11_204 {cc : ByteArray} {nL : Nat} {ini : Bool} {pc : Nat} (hd : decode cc pc = .ok (.getfield 204, 3)) : snd RX11 cc nL ini pc (pc + 3) (s_get 2 10 8) := snd_getfieldN (host := "DayBoy") (C := RX2) (T := TX2) (N := 11) (ci := 2) (kf := 10) (kd := 8) (index := 204) (f := 10) cl_2 in_2 (by decide) nf_2 (by decide) rfl rfl rfl mn_wN1_2 hd
theorem cs_RX11_207 {cc : ByteArray} {nL : Nat} {ini : Bool} {pcs : List Nat} {rF rL pc b : Nat} (hb1 : pcs[b]? = some (pc + 3)) (qF : 2 ≤ rF) (qL : 45 ≤ rL) (hd : decode cc pc = .ok (.invokestatic 207, 3)) : sndQ mtab RX11 cc nL ini pcs rF rL pc (t_cs kX_offBy 2 1 b) := sndQ_cs hb1 mt_X_offBy m_761 m_759 m_760 m_1 ⟨by decide, by decide, by decide +kernel⟩ qF qL hd
theorem cs_RX11_210 {cc : ByteArray} {nL : Nat} {ini : Bool} {pcs : List Nat} {rF rL pc b : Nat} (hb1 : pcs[b]? = some (pc + 3)) (qF : 5 ≤ rF) (qL : 132 ≤ rL) (hd : decode cc pc = .ok (.invokevirtual 210, 3)) : sndQ mtab RX11 cc nL ini pcs rF rL pc (t_cv 2 kHd_falseStep 3 1 b) := sndQ_cv cl_2 (by decide) hb1 mt_Hd_falseStep m_768 m_765 m_766 m_767 m_7 ⟨rfl, by decide, by decide, by decide +kernel⟩ qF qL hd
theorem cs_RX11_214 {cc : ByteArray} {nL : Nat} {ini : Bool} {pcs : List Nat} {rF rL pc b : Nat} (hb1 : pcs[b]? = some (pc + 3)) (qF : 1 ≤ rF) (qL : 21 ≤ rL) (hd : decode cc pc = .ok (.invokestatic 214, 3)) : sndQ mtab RX11 cc nL ini pcs rF rL pc (t_cs kJ_min 2 1 b) := sndQ_cs hb1 mt_J_min m_125 m_781 m_124 m_4 ⟨by decide, by decide, by decide +kernel⟩ qF qL hd
theorem cs_RX11_219 {cc : ByteArray} {nL : Nat} {ini : Bool} {pcs : List Nat} {rF rL pc b : Nat} (hb1 : pcs[b]? = some (pc + 3)) (qF : 5 ≤ rF) (qL : 133 ≤ rL) (hd : decode cc pc = .ok (.invokestatic 219, 3)) : sndQ mtab RX11 cc nL ini pcs rF rL pc (t_cs kX_partInYear 4 1 b) := sndQ_cs hb1 mt_X_partInYear m_784 m_782 m_783 m_1 ⟨by decide, by decide, by decide +kernel⟩ qF qL hd
theorem cs_RX11_223 {cc : ByteArray} {nL : Nat} {ini : Bool} {pcs : List Nat} {rF rL pc b : Nat} (hb1 : pcs[b]? = some (pc + 3)) (qF : 5 ≤ rF) (qL : 138 ≤ rL) (hd : decode cc pc = .ok (.invokevirtual 223, 3)) : sndQ mtab RX11 cc nL ini pcs rF rL pc (t_cv 10 kX_reachedFrom 4 103 b) := sndQ_cv cl_10 (by decide) hb1 mt_X_reachedFrom m_792 m_789 m_791 ms_23 m_1 ⟨rfl, by decide, by decide, by decide +kernel⟩ qF qL hd
theorem cs_RX11_227 {cc : ByteArray} {nL : Nat} {ini : Bool} {pcs : List Nat} {rF rL pc b : Nat} (hb1 : pcs[b]? = some (pc + 3)) (qF : 2 ≤ rF) (qL : 49 ≤ rL) (hd : decode cc pc = .ok (.invokestatic 227, 3)) : sndQ mtab RX11 cc nL ini pcs rF rL pc (t_cs kX_fewestReaching 1 1 b) := sndQ_cs hb1 mt_X_fewestReaching m_804 m_802 m_803 m_1 ⟨by decide, by decide, by decide +kernel⟩ qF qL hd
theorem cs_RX11_231 {cc : ByteArray} {nL : Nat} {ini : Bool} {pcs : List Nat} {rF rL pc b : Nat} (hb1 : pcs[b]? = some (pc + 3)) (qF : 1 ≤ rF) (qL : 20 ≤ rL) (hd : decode cc pc = .ok (.invokestatic 231, 3)) : sndQ mtab RX11 cc nL ini pcs rF rL pc (t_cs kJ_bitCount 1 1 b) := sndQ_cs hb1 mt_J_bitCount m_810 m_808 m_809 m_19 ⟨by decide, by decide, by decide +kernel⟩ qF qL hd
theorem cs_RX11_236 {cc : ByteArray} {nL : Nat} {ini : Bool} {pcs : List Nat} {rF rL pc b : Nat} (hb1 : pcs[b]? = some (pc + 3)) (qF : 1 ≤ rF) (qL : 23 ≤ rL) (hd : decode cc pc = .ok (.invokestatic 236, 3)) : sndQ mtab RX11 cc nL ini pcs rF rL pc (t_cs kX_mirrorOf 2 1 b) := sndQ_cs hb1 mt_X_mirrorOf m_819 m_817 m_818 m_1 ⟨by decide, by decide, by decide +kernel⟩ qF qL hd
theorem gf_RX11_239 {cc : ByteArray} {nL : Nat} {ini : Bool} {pc : Nat} (hd : decode cc pc = .ok (.getfield 239, 3)) : snd RX11 cc nL ini pc (pc + 3) (s_get 10 19 8) := snd_getfield (C := RX11) (T := TX11) (N := 20) (ci := 10) (kf := 19) (kd := 8) (index := 239) (f := 19) cl_10 in_10 (by decide) nf_10 (by decide) rfl rfl rfl m_55 hd
theorem cs_RX11_242 {cc : ByteArray} {nL : Nat} {ini : Bool} {pcs : List Nat} {rF rL pc b : Nat} (hb1 : pcs[b]? = some (pc + 3)) (qF : 2 ≤ rF) (qL : 47 ≤ rL) (hd : decode cc pc = .ok (.invokespecial 242, 3)) : sndQ mtab RX11 cc nL ini pcs rF rL pc (t_cv 6 kRw_init 1 0 b) := sndQ_ci cl_6 (by decide) hb1 mt_Rw_init m_529 m_794 m_528 m_11 rfl ⟨by decide, by decide, by decide +kernel⟩ qF qL hd
theorem pf_RX11_239 {cc : ByteArray} {nL : Nat} {ini : Bool} {pc : Nat} (hd : decode cc pc = .ok (.putfield 239, 3)) : snd RX11 cc nL ini pc (pc + 3) (s_put 10 19 8) := snd_putfield (C := RX11) (T := TX11) (N := 20) (ci := 10) (kf := 19) (kd := 8) (index := 239) (f := 19) cl_10 in_10 (by decide) nf_10 (by decide) rfl rfl rfl tyX11_ok nmX11 (Or.inl ⟨_, rfl⟩) rfl m_55 hd
theorem gf_RX11_243 {cc : ByteArray} {nL : Nat} {ini : Bool} {pc : Nat} (hd : decode cc pc = .ok (.getfield 243, 3)) : snd RX11 cc nL ini pc (pc + 3) (s_get 2 3 10) := snd_getfieldN (host := "DayBoy") (C := RX2) (T := TX2) (N := 11) (ci := 2) (kf := 3) (kd := 10) (index := 243) (f := 3) cl_2 in_2 (by decide) nf_2 (by decide) rfl rfl rfl mn_wN1_3 hd
theorem cs_RX11_247 {cc : ByteArray} {nL : Nat} {ini : Bool} {pcs : List Nat} {rF rL pc b : Nat} (hb1 : pcs[b]? = some (pc + 3)) (qF : 4 ≤ rF) (qL : 106 ≤ rL) (hd : decode cc pc = .ok (.invokevirtual 247, 3)) : sndQ mtab RX11 cc nL ini pcs rF rL pc (t_cv 6 kRw_reach 5 1 b) := sndQ_cv cl_6 (by decide) hb1 mt_Rw_reach m_798 m_795 m_796 m_797 m_11 ⟨rfl, by decide, by decide, by decide +kernel⟩ qF qL hd
theorem cs_RX11_251 {cc : ByteArray} {nL : Nat} {ini : Bool} {pcs : List Nat} {rF rL pc b : Nat} (hb1 : pcs[b]? = some (pc + 3)) (qF : 2 ≤ rF) (qL : 44 ≤ rL) (hd : decode cc pc = .ok (.invokevirtual 251, 3)) : sndQ mtab RX11 cc nL ini pcs rF rL pc (t_cv 6 kRw_costOf 1 1 b) := sndQ_cv cl_6 (by decide) hb1 mt_Rw_costOf m_742 m_801 m_740 m_741 m_11 ⟨rfl, by decide, by decide, by decide +kernel⟩ qF qL hd
theorem cs_RX11_254 {cc : ByteArray} {nL : Nat} {ini : Bool} {pcs : List Nat} {rF rL pc b : Nat} (hb1 : pcs[b]? = some (pc + 3)) (qF : 1 ≤ rF) (qL : 22 ≤ rL) (hd : decode cc pc = .ok (.invokestatic 254, 3)) : sndQ mtab RX11 cc nL ini pcs rF rL pc (t_cs kX_loneOf 1 1 b) := sndQ_cs hb1 mt_X_loneOf m_807 m_805 m_806 m_1 ⟨by decide, by decide, by decide +kernel⟩ qF qL hd
theorem cs_RX11_257 {cc : ByteArray} {nL : Nat} {ini : Bool} {pcs : List Nat} {rF rL pc b : Nat} (hb1 : pcs[b]? = some (pc + 3)) (qF : 1 ≤ rF) (qL : 23 ≤ rL) (hd : decode cc pc = .ok (.invokestatic 257, 3)) : sndQ mtab RX11 cc nL ini pcs rF rL pc (t_cs kX_unionOf 2 1 b) := sndQ_cs hb1 mt_X_unionOf m_816 m_814 m_815 m_1 ⟨by decide, by decide, by decide +kernel⟩ qF qL hd
theorem gf_RX11_109 {cc : ByteArray} {nL : Nat} {ini : Bool} {pc : Nat} (hd : decode cc pc = .ok (.getfield 109, 3)) : snd RX11 cc nL ini pc (pc + 3) (s_get 10 15 102) := snd_getfield (C := RX11) (T := TX11) (N := 20) (ci := 10) (kf := 15) (kd := 102) (index := 109) (f := 15) cl_10 in_10 (by decide) nf_10 (by decide) rfl rfl rfl m_51 hd
theorem cs_RX11_261 {cc : ByteArray} {nL : Nat} {ini : Bool} {pcs : List Nat} {rF rL pc b : Nat} (hb1 : pcs[b]? = some (pc + 3)) (qF : 5 ≤ rF) (qL : 131 ≤ rL) (hd : decode cc pc = .ok (.invokevirtual 261, 3)) : sndQ mtab RX11 cc nL ini pcs rF rL pc (t_cv 2 kHd_saysTo 2 1 b) := sndQ_cv cl_2 (by decide) hb1 mt_Hd_saysTo m_827 m_824 m_825 m_826 m_7 ⟨rfl, by decide, by decide, by decide +kernel⟩ qF qL hd
theorem gf_RX11_265 {cc : ByteArray} {nL : Nat} {ini : Bool} {pc : Nat} (hd : decode cc pc = .ok (.getfield 265, 3)) : snd RX11 cc nL ini pc (pc + 3) (s_get 8 2 0) := snd_getfieldN (host := "DayBoy") (C := RX9) (T := TX9) (N := 4) (ci := 8) (kf := 2) (kd := 0) (index := 265) (f := 2) cl_8 in_8 (by decide) nf_8 (by decide) rfl rfl rfl mn_wN1_4 hd
theorem cs_RX11_270 {cc : ByteArray} {nL : Nat} {ini : Bool} {pcs : List Nat} {rF rL pc b : Nat} (hb1 : pcs[b]? = some (pc + 3)) (qF : 3 ≤ rF) (qL : 74 ≤ rL) (hd : decode cc pc = .ok (.invokevirtual 270, 3)) : sndQ mtab RX11 cc nL ini pcs rF rL pc (t_cv 2 kHd_trueSteps 4 1 b) := sndQ_cv cl_2 (by decide) hb1 mt_Hd_trueSteps m_839 m_836 m_837 m_838 m_7 ⟨rfl, by decide, by decide, by decide +kernel⟩ qF qL hd
theorem gf_RX11_277 {cc : ByteArray} {nL : Nat} {ini : Bool} {pc : Nat} (hd : decode cc pc = .ok (.getfield 277, 3)) : snd RX11 cc nL ini pc (pc + 3) (s_get 4 3 0) := snd_getfieldN (host := "DayBoy") (C := RX5) (T := TX5) (N := 4) (ci := 4) (kf := 3) (kd := 0) (index := 277) (f := 3) cl_4 in_4 (by decide) nf_4 (by decide) rfl rfl rfl mn_wN1_5 hd
theorem gf_RX11_273 {cc : ByteArray} {nL : Nat} {ini : Bool} {pc : Nat} (hd : decode cc pc = .ok (.getfield 273, 3)) : snd RX11 cc nL ini pc (pc + 3) (s_get 2 4 6) := snd_getfieldN (host := "DayBoy") (C := RX2) (T := TX2) (N := 11) (ci := 2) (kf := 4) (kd := 6) (index := 273) (f := 4) cl_2 in_2 (by decide) nf_2 (by decide) rfl rfl rfl mn_wN1_6 hd
theorem cs_RX11_280 {cc : ByteArray} {nL : Nat} {ini : Bool} {pcs : List Nat} {rF rL pc b : Nat} (hb1 : pcs[b]? = some (pc + 3)) (qF : 5 ≤ rF) (qL : 131 ≤ rL) (hd : decode cc pc = .ok (.invokevirtual 280, 3)) : sndQ mtab RX11 cc nL ini pcs rF rL pc (t_cv 2 kHd_truePairs 4 1 b) := sndQ_cv cl_2 (by decide) hb1 mt_Hd_truePairs m_843 m_840 m_841 m_842 m_7 ⟨rfl, by decide, by decide, by decide +kernel⟩ qF qL hd
theorem cs_RX11_283 {cc : ByteArray} {nL : Nat} {ini : Bool} {pcs : List Nat} {rF rL pc b : Nat} (hb1 : pcs[b]? = some (pc + 3)) (qF : 3 ≤ rF) (qL : 68 ≤ rL) (hd : decode cc pc = .ok (.invokevirtual 283, 3)) : sndQ mtab RX11 cc nL ini pcs rF rL pc (t_cv 2 kHd_monthsLacked 0 1 b) := sndQ_cv cl_2 (by decide) hb1 mt_Hd_monthsLacked m_855 m_852 m_853 m_854 m_7 ⟨rfl, by decide, by decide, by decide +kernel⟩ qF qL hd
theorem cs_RX11_286 {cc : ByteArray} {nL : Nat} {ini : Bool} {pcs : List Nat} {rF rL pc b : Nat} (hb1 : pcs[b]? = some (pc + 3)) (qF : 1 ≤ rF) (qL : 21 ≤ rL) (hd : decode cc pc = .ok (.invokestatic 286, 3)) : sndQ mtab RX11 cc nL ini pcs rF rL pc (t_cs kJ_compare 2 1 b) := sndQ_cs hb1 mt_J_compare m_862 m_860 m_861 m_19 ⟨by decide, by decide, by decide +kernel⟩ qF qL hd
theorem gf_RX11_289 {cc : ByteArray} {nL : Nat} {ini : Bool} {pc : Nat} (hd : decode cc pc = .ok (.getfield 289, 3)) : snd RX11 cc nL ini pc (pc + 3) (s_get 10 7 0) := snd_getfield (C := RX11) (T := TX11) (N := 20) (ci := 10) (kf := 7) (kd := 0) (index := 289) (f := 7) cl_10 in_10 (by decide) nf_10 (by decide) rfl rfl rfl m_43 hd
theorem gf_RX11_292 {cc : ByteArray} {nL : Nat} {ini : Bool} {pc : Nat} (hd : decode cc pc = .ok (.getfield 292, 3)) : snd RX11 cc nL ini pc (pc + 3) (s_get 1 0 0) := snd_getfieldN (host := "DayBoy") (C := RX1) (T := TX1) (N := 4) (ci := 1) (kf := 0) (kd := 0) (index := 292) (f := 0) cl_1 in_1 (by decide) nf_1 (by decide) rfl rfl rfl mn_wN1_7 hd
theorem gf_RX11_27 {cc : ByteArray} {nL : Nat} {ini : Bool} {pc : Nat} (hd : decode cc pc = .ok (.getfield 27, 3)) : snd RX11 cc nL ini pc (pc + 3) (s_get 10 6 203) := snd_getfield (C := RX11) (T := TX11) (N := 20) (ci := 10) (kf := 6) (kd := 203) (index := 27) (f := 6) cl_10 in_10 (by decide) nf_10 (by decide) rfl rfl rfl m_42 hd
theorem cs_RX11_295 {cc : ByteArray} {nL : Nat} {ini : Bool} {pcs : List Nat} {rF rL pc b : Nat} (hb1 : pcs[b]? = some (pc + 3)) (qF : 4 ≤ rF) (qL : 104 ≤ rL) (hd : decode cc pc = .ok (.invokevirtual 295, 3)) : sndQ mtab RX11 cc nL ini pcs rF rL pc (t_cv 10 kX_spotOn 4 10 b) := sndQ_cv cl_10 (by decide) hb1 mt_X_spotOn m_870 m_867 m_869 ms_24 m_1 ⟨rfl, by decide, by decide, by decide +kernel⟩ qF qL hd
theorem cs_RX11_299 {cc : ByteArray} {nL : Nat} {ini : Bool} {pcs : List Nat} {rF rL pc b : Nat} (hb1 : pcs[b]? = some (pc + 3)) (qF : 2 ≤ rF) (qL : 36 ≤ rL) (hd : decode cc pc = .ok (.invokespecial 299, 3)) : sndQ mtab RX11 cc nL ini pcs rF rL pc (t_cv 1 kAk_init 4 0 b) := sndQ_ci cl_1 (by decide) hb1 mt_Ak_init m_915 m_913 m_914 m_18 rfl ⟨by decide, by decide, by decide +kernel⟩ qF qL hd
theorem pf_RX11_289 {cc : ByteArray} {nL : Nat} {ini : Bool} {pc : Nat} (hd : decode cc pc = .ok (.putfield 289, 3)) : snd RX11 cc nL ini pc (pc + 3) (s_put 10 7 0) := snd_putfield (C := RX11) (T := TX11) (N := 20) (ci := 10) (kf := 7) (kd := 0) (index := 289) (f := 7) cl_10 in_10 (by decide) nf_10 (by decide) rfl rfl rfl tyX11_ok nmX11 rfl rfl m_43 hd
theorem gf_RX11_306 {cc : ByteArray} {nL : Nat} {ini : Bool} {pc : Nat} (hd : decode cc pc = .ok (.getfield 306, 3)) : snd RX11 cc nL ini pc (pc + 3) (s_get 7 0 0) := snd_getfieldN (host := "DayBoy") (C := RX8) (T := TX8) (N := 6) (ci := 7) (kf := 0) (kd := 0) (index := 306) (f := 0) cl_7 in_7 (by decide) nf_7 (by decide) rfl rfl rfl mn_wN1_8 hd
theorem gf_RX11_302 {cc : ByteArray} {nL : Nat} {ini : Bool} {pc : Nat} (hd : decode cc pc = .ok (.getfield 302, 3)) : snd RX11 cc nL ini pc (pc + 3) (s_get 1 1 9) := snd_getfieldN (host := "DayBoy") (C := RX1) (T := TX1) (N := 4) (ci := 1) (kf := 1) (kd := 9) (index := 302) (f := 1) cl_1 in_1 (by decide) nf_1 (by decide) rfl rfl rfl mn_wN1_9 hd
theorem gf_RX11_309 {cc : ByteArray} {nL : Nat} {ini : Bool} {pc : Nat} (hd : decode cc pc = .ok (.getfield 309, 3)) : snd RX11 cc nL ini pc (pc + 3) (s_get 7 5 0) := snd_getfieldN (host := "DayBoy") (C := RX8) (T := TX8) (N := 6) (ci := 7) (kf := 5) (kd := 0) (index := 309) (f := 5) cl_7 in_7 (by decide) nf_7 (by decide) rfl rfl rfl mn_wN1_10 hd
theorem gf_RX11_312 {cc : ByteArray} {nL : Nat} {ini : Bool} {pc : Nat} (hd : decode cc pc = .ok (.getfield 312, 3)) : snd RX11 cc nL ini pc (pc + 3) (s_get 1 2 0) := snd_getfieldN (host := "DayBoy") (C := RX1) (T := TX1) (N := 4) (ci := 1) (kf := 2) (kd := 0) (index := 312) (f := 2) cl_1 in_1 (by decide) nf_1 (by decide) rfl rfl rfl mn_wN1_11 hd
theorem gf_RX11_315 {cc : ByteArray} {nL : Nat} {ini : Bool} {pc : Nat} (hd : decode cc pc = .ok (.getfield 315, 3)) : snd RX11 cc nL ini pc (pc + 3) (s_get 1 3 0) := snd_getfieldN (host := "DayBoy") (C := RX1) (T := TX1) (N := 4) (ci := 1) (kf := 3) (kd := 0) (index := 315) (f := 3) cl_1 in_1 (by decide) nf_1 (by decide) rfl rfl rfl mn_wN1_12 hd
theorem cs_RX11_318 {cc : ByteArray} {nL : Nat} {ini : Bool} {pcs : List Nat} {rF rL pc b : Nat} (hb1 : pcs[b]? = some (pc + 3)) (qF : 1 ≤ rF) (qL : 20 ≤ rL) (hd : decode cc pc = .ok (.invokestatic 318, 3)) : sndQ mtab RX11 cc nL ini pcs rF rL pc (t_cs kX_isSlack 1 1 b) := sndQ_cs hb1 mt_X_isSlack m_944 m_942 m_943 m_1 ⟨by decide, by decide, by decide +kernel⟩ qF qL hd
theorem cs_RX11_321 {cc : ByteArray} {nL : Nat} {ini : Bool} {pcs : List Nat} {rF rL pc b : Nat} (hb1 : pcs[b]? = some (pc + 3)) (qF : 7 ≤ rF) (qL : 183 ≤ rL) (hd : decode cc pc = .ok (.invokevirtual 321, 3)) : sndQ mtab RX11 cc nL ini pcs rF rL pc (t_cv 10 kX_headsWrongAtMost 2 1 b) := sndQ_cv cl_10 (by decide) hb1 mt_X_headsWrongAtMost m_948 m_945 m_947 ms_25 m_1 ⟨rfl, by decide, by decide, by decide +kernel⟩ qF qL hd
theorem cs_RX11_324 {cc : ByteArray} {nL : Nat} {ini : Bool} {pcs : List Nat} {rF rL pc b : Nat} (hb1 : pcs[b]? = some (pc + 3)) (qF : 6 ≤ rF) (qL : 157 ≤ rL) (hd : decode cc pc = .ok (.invokevirtual 324, 3)) : sndQ mtab RX11 cc nL ini pcs rF rL pc (t_cv 10 kX_soCount 2 1 b) := sndQ_cv cl_10 (by decide) hb1 mt_X_soCount m_952 m_949 m_951 ms_26 m_1 ⟨rfl, by decide, by decide, by decide +kernel⟩ qF qL hd
theorem cs_RX11_328 {cc : ByteArray} {nL : Nat} {ini : Bool} {pcs : List Nat} {rF rL pc b : Nat} (hb1 : pcs[b]? = some (pc + 3)) (qF : 5 ≤ rF) (qL : 131 ≤ rL) (hd : decode cc pc = .ok (.invokevirtual 328, 3)) : sndQ mtab RX11 cc nL ini pcs rF rL pc (t_cv 1 kAk_isSoWith 2 1 b) := sndQ_cv cl_1 (by decide) hb1 mt_Ak_isSoWith m_956 m_953 m_954 m_955 m_18 ⟨rfl, by decide, by decide, by decide +kernel⟩ qF qL hd
theorem cs_RX11_332 {cc : ByteArray} {nL : Nat} {ini : Bool} {pcs : List Nat} {rF rL pc b : Nat} (hb1 : pcs[b]? = some (pc + 3)) (qF : 2 ≤ rF) (qL : 43 ≤ rL) (hd : decode cc pc = .ok (.invokevirtual 332, 3)) : sndQ mtab RX11 cc nL ini pcs rF rL pc (t_cv 1 kAk_yearsFrom 1 1 b) := sndQ_cv cl_1 (by decide) hb1 mt_Ak_yearsFrom m_976 m_973 m_974 m_975 m_18 ⟨rfl, by decide, by decide, by decide +kernel⟩ qF qL hd
theorem gf_RX11_335 {cc : ByteArray} {nL : Nat} {ini : Bool} {pc : Nat} (hd : decode cc pc = .ok (.getfield 335, 3)) : snd RX11 cc nL ini pc (pc + 3) (s_get 10 17 9) := snd_getfield (C := RX11) (T := TX11) (N := 20) (ci := 10) (kf := 17) (kd := 9) (index := 335) (f := 17) cl_10 in_10 (by decide) nf_10 (by decide) rfl rfl rfl m_53 hd
theorem cs_RX11_338 {cc : ByteArray} {nL : Nat} {ini : Bool} {pcs : List Nat} {rF rL pc b : Nat} (hb1 : pcs[b]? = some (pc + 3)) (qF : 2 ≤ rF) (qL : 45 ≤ rL) (hd : decode cc pc = .ok (.invokevirtual 338, 3)) : sndQ mtab RX11 cc nL ini pcs rF rL pc (t_cv 7 kSp_isLike 1 1 b) := sndQ_cv cl_7 (by decide) hb1 mt_Sp_isLike m_988 m_985 m_986 m_987 m_17 ⟨rfl, by decide, by decide, by decide +kernel⟩ qF qL hd
theorem cs_RX11_342 {cc : ByteArray} {nL : Nat} {ini : Bool} {pcs : List Nat} {rF rL pc b : Nat} (hb1 : pcs[b]? = some (pc + 3)) (qF : 1 ≤ rF) (qL : 21 ≤ rL) (hd : decode cc pc = .ok (.invokestatic 342, 3)) : sndQ mtab RX11 cc nL ini pcs rF rL pc (t_cs kJ_max 2 1 b) := sndQ_cs hb1 mt_J_max m_429 m_994 m_428 m_4 ⟨by decide, by decide, by decide +kernel⟩ qF qL hd
theorem pf_RX11_345 {cc : ByteArray} {nL : Nat} {ini : Bool} {pc : Nat} (hd : decode cc pc = .ok (.putfield 345, 3)) : snd RX11 cc nL ini pc (pc + 3) (s_put 2 8 0) := snd_putfieldN (host := "DayBoy") (C := RX2) (T := TX2) (N := 11) (ci := 2) (kf := 8) (kd := 0) (index := 345) (f := 8) cl_2 in_2 (by decide) nf_2 (by decide) rfl rfl rfl tyX2_ok nmX2 rfl rfl mn_wN1_13 hd
theorem gf_RX11_345 {cc : ByteArray} {nL : Nat} {ini : Bool} {pc : Nat} (hd : decode cc pc = .ok (.getfield 345, 3)) : snd RX11 cc nL ini pc (pc + 3) (s_get 2 8 0) := snd_getfieldN (host := "DayBoy") (C := RX2) (T := TX2) (N := 11) (ci := 2) (kf := 8) (kd := 0) (index := 345) (f := 8) cl_2 in_2 (by decide) nf_2 (by decide) rfl rfl rfl mn_wN1_13 hd
theorem gf_RX11_348 {cc : ByteArray} {nL : Nat} {ini : Bool} {pc : Nat} (hd : decode cc pc = .ok (.getfield 348, 3)) : snd RX11 cc nL ini pc (pc + 3) (s_get 10 9 0) := snd_getfield (C := RX11) (T := TX11) (N := 20) (ci := 10) (kf := 9) (kd := 0) (index := 348) (f := 9) cl_10 in_10 (by decide) nf_10 (by decide) rfl rfl rfl m_45 hd
theorem pf_RX11_348 {cc : ByteArray} {nL : Nat} {ini : Bool} {pc : Nat} (hd : decode cc pc = .ok (.putfield 348, 3)) : snd RX11 cc nL ini pc (pc + 3) (s_put 10 9 0) := snd_putfield (C := RX11) (T := TX11) (N := 20) (ci := 10) (kf := 9) (kd := 0) (index := 348) (f := 9) cl_10 in_10 (by decide) nf_10 (by decide) rfl rfl rfl tyX11_ok nmX11 rfl rfl m_45 hd
theorem gf_RX11_33 {cc : ByteArray} {nL : Nat} {ini : Bool} {pc : Nat} (hd : decode cc pc = .ok (.getfield 33, 3)) : snd RX11 cc nL ini pc (pc + 3) (s_get 10 8 209) := snd_getfield (C := RX11) (T := TX11) (N := 20) (ci := 10) (kf := 8) (kd := 209) (index := 33) (f := 8) cl_10 in_10 (by decide) nf_10 (by decide) rfl rfl rfl m_44 hd
theorem cs_RX11_351 {cc : ByteArray} {nL : Nat} {ini : Bool} {pcs : List Nat} {rF rL pc b : Nat} (hb1 : pcs[b]? = some (pc + 3)) (qF : 1 ≤ rF) (qL : 21 ≤ rL) (hd : decode cc pc = .ok (.invokevirtual 351, 3)) : sndQ mtab RX11 cc nL ini pcs rF rL pc (t_cv 10 kX_areHeads 1 1 b) := sndQ_cv cl_10 (by decide) hb1 mt_X_areHeads m_1014 m_1011 m_1013 ms_27 m_1 ⟨rfl, by decide, by decide, by decide +kernel⟩ qF qL hd
theorem cs_RX11_354 {cc : ByteArray} {nL : Nat} {ini : Bool} {pcs : List Nat} {rF rL pc b : Nat} (hb1 : pcs[b]? = some (pc + 3)) (qF : 6 ≤ rF) (qL : 158 ≤ rL) (hd : decode cc pc = .ok (.invokevirtual 354, 3)) : sndQ mtab RX11 cc nL ini pcs rF rL pc (t_cv 10 kX_pairsParted 2 1 b) := sndQ_cv cl_10 (by decide) hb1 mt_X_pairsParted m_1018 m_1015 m_1017 ms_28 m_1 ⟨rfl, by decide, by decide, by decide +kernel⟩ qF qL hd
theorem cs_RX11_358 {cc : ByteArray} {nL : Nat} {ini : Bool} {pcs : List Nat} {rF rL pc b : Nat} (hb1 : pcs[b]? = some (pc + 3)) (qF : 5 ≤ rF) (qL : 129 ≤ rL) (hd : decode cc pc = .ok (.invokevirtual 358, 3)) : sndQ mtab RX11 cc nL ini pcs rF rL pc (t_cv 2 kHd_toldAt 1 1 b) := sndQ_cv cl_2 (by decide) hb1 mt_Hd_toldAt m_1022 m_1019 m_1020 m_1021 m_7 ⟨rfl, by decide, by decide, by decide +kernel⟩ qF qL hd
theorem pf_RX11_335 {cc : ByteArray} {nL : Nat} {ini : Bool} {pc : Nat} (hd : decode cc pc = .ok (.putfield 335, 3)) : snd RX11 cc nL ini pc (pc + 3) (s_put 10 17 9) := snd_putfield (C := RX11) (T := TX11) (N := 20) (ci := 10) (kf := 17) (kd := 9) (index := 335) (f := 17) cl_10 in_10 (by decide) nf_10 (by decide) rfl rfl rfl tyX11_ok nmX11 (Or.inl ⟨_, rfl⟩) rfl m_53 hd
theorem gf_RX11_366 {cc : ByteArray} {nL : Nat} {ini : Bool} {pc : Nat} (hd : decode cc pc = .ok (.getfield 366, 3)) : snd RX11 cc nL ini pc (pc + 3) (s_get 7 2 0) := snd_getfieldN (host := "DayBoy") (C := RX8) (T := TX8) (N := 6) (ci := 7) (kf := 2) (kd := 0) (index := 366) (f := 2) cl_7 in_7 (by decide) nf_7 (by decide) rfl rfl rfl mn_wN1_14 hd
theorem gf_RX11_374 {cc : ByteArray} {nL : Nat} {ini : Bool} {pc : Nat} (hd : decode cc pc = .ok (.getfield 374, 3)) : snd RX11 cc nL ini pc (pc + 3) (s_get 7 4 0) := snd_getfieldN (host := "DayBoy") (C := RX8) (T := TX8) (N := 6) (ci := 7) (kf := 4) (kd := 0) (index := 374) (f := 4) cl_7 in_7 (by decide) nf_7 (by decide) rfl rfl rfl mn_wN1_15 hd
theorem gf_RX11_373 {cc : ByteArray} {nL : Nat} {ini : Bool} {pc : Nat} (hd : decode cc pc = .ok (.getfield 373, 3)) : snd RX11 cc nL ini pc (pc + 3) (s_get 7 3 0) := snd_getfieldN (host := "DayBoy") (C := RX8) (T := TX8) (N := 6) (ci := 7) (kf := 3) (kd := 0) (index := 373) (f := 3) cl_7 in_7 (by decide) nf_7 (by decide) rfl rfl rfl mn_wN1_16 hd
theorem gf_RX11_369 {cc : ByteArray} {nL : Nat} {ini : Bool} {pc : Nat} (hd : decode cc pc = .ok (.getfield 369, 3)) : snd RX11 cc nL ini pc (pc + 3) (s_get 7 1 2) := snd_getfieldN (host := "DayBoy") (C := RX8) (T := TX8) (N := 6) (ci := 7) (kf := 1) (kd := 2) (index := 369) (f := 1) cl_7 in_7 (by decide) nf_7 (by decide) rfl rfl rfl mn_wN1_17 hd
theorem cs_RX11_377 {cc : ByteArray} {nL : Nat} {ini : Bool} {pcs : List Nat} {rF rL pc b : Nat} (hb1 : pcs[b]? = some (pc + 3)) (qF : 5 ≤ rF) (qL : 130 ≤ rL) (hd : decode cc pc = .ok (.invokevirtual 377, 3)) : sndQ mtab RX11 cc nL ini pcs rF rL pc (t_cv 0 kAl_firstFrom 3 1 b) := sndQ_cv cl_0 (by decide) hb1 mt_Al_firstFrom m_1044 m_1041 m_1042 m_1043 m_5 ⟨rfl, by decide, by decide, by decide +kernel⟩ qF qL hd
theorem cs_RX11_380 {cc : ByteArray} {nL : Nat} {ini : Bool} {pcs : List Nat} {rF rL pc b : Nat} (hb1 : pcs[b]? = some (pc + 3)) (qF : 1 ≤ rF) (qL : 20 ≤ rL) (hd : decode cc pc = .ok (.invokestatic 380, 3)) : sndQ mtab RX11 cc nL ini pcs rF rL pc (t_cs kX_isSort 1 1 b) := sndQ_cs hb1 mt_X_isSort m_1055 m_1053 m_1054 m_1 ⟨by decide, by decide, by decide +kernel⟩ qF qL hd
theorem gf_RX11_383 {cc : ByteArray} {nL : Nat} {ini : Bool} {pc : Nat} (hd : decode cc pc = .ok (.getfield 383, 3)) : snd RX11 cc nL ini pc (pc + 3) (s_get 10 12 0) := snd_getfield (C := RX11) (T := TX11) (N := 20) (ci := 10) (kf := 12) (kd := 0) (index := 383) (f := 12) cl_10 in_10 (by decide) nf_10 (by decide) rfl rfl rfl m_48 hd
theorem pf_RX11_383 {cc : ByteArray} {nL : Nat} {ini : Bool} {pc : Nat} (hd : decode cc pc = .ok (.putfield 383, 3)) : snd RX11 cc nL ini pc (pc + 3) (s_put 10 12 0) := snd_putfield (C := RX11) (T := TX11) (N := 20) (ci := 10) (kf := 12) (kd := 0) (index := 383) (f := 12) cl_10 in_10 (by decide) nf_10 (by decide) rfl rfl rfl tyX11_ok nmX11 rfl rfl m_48 hd
theorem gf_RX11_40 {cc : ByteArray} {nL : Nat} {ini : Bool} {pc : Nat} (hd : decode cc pc = .ok (.getfield 40, 3)) : snd RX11 cc nL ini pc (pc + 3) (s_get 10 11 102) := snd_getfield (C := RX11) (T := TX11) (N := 20) (ci := 10) (kf := 11) (kd := 102) (index := 40) (f := 11) cl_10 in_10 (by decide) nf_10 (by decide) rfl rfl rfl m_47 hd
theorem gf_RX11_37 {cc : ByteArray} {nL : Nat} {ini : Bool} {pc : Nat} (hd : decode cc pc = .ok (.getfield 37, 3)) : snd RX11 cc nL ini pc (pc + 3) (s_get 10 10 102) := snd_getfield (C := RX11) (T := TX11) (N := 20) (ci := 10) (kf := 10) (kd := 102) (index := 37) (f := 10) cl_10 in_10 (by decide) nf_10 (by decide) rfl rfl rfl m_46 hd
theorem cs_RX11_386 {cc : ByteArray} {nL : Nat} {ini : Bool} {pcs : List Nat} {rF rL pc b : Nat} (hb1 : pcs[b]? = some (pc + 3)) (qF : 1 ≤ rF) (qL : 23 ≤ rL) (hd : decode cc pc = .ok (.invokevirtual 386, 3)) : sndQ mtab RX11 cc nL ini pcs rF rL pc (t_cv 10 kX_sortsOn 1 1 b) := sndQ_cv cl_10 (by decide) hb1 mt_X_sortsOn m_1063 m_1060 m_1062 ms_30 m_1 ⟨rfl, by decide, by decide, by decide +kernel⟩ qF qL hd
theorem cs_RX11_389 {cc : ByteArray} {nL : Nat} {ini : Bool} {pcs : List Nat} {rF rL pc b : Nat} (hb1 : pcs[b]? = some (pc + 3)) (qF : 2 ≤ rF) (qL : 48 ≤ rL) (hd : decode cc pc = .ok (.invokevirtual 389, 3)) : sndQ mtab RX11 cc nL ini pcs rF rL pc (t_cv 10 kX_spellFrom 2 1 b) := sndQ_cv cl_10 (by decide) hb1 mt_X_spellFrom m_1071 m_1068 m_1070 ms_31 m_1 ⟨rfl, by decide, by decide, by decide +kernel⟩ qF qL hd
theorem pf_RX11_395 {cc : ByteArray} {nL : Nat} {ini : Bool} {pc : Nat} (hd : decode cc pc = .ok (.putfield 395, 3)) : snd RX11 cc nL ini pc (pc + 3) (s_put 10 14 0) := snd_putfield (C := RX11) (T := TX11) (N := 20) (ci := 10) (kf := 14) (kd := 0) (index := 395) (f := 14) cl_10 in_10 (by decide) nf_10 (by decide) rfl rfl rfl tyX11_ok nmX11 rfl rfl m_50 hd
theorem pf_RX11_392 {cc : ByteArray} {nL : Nat} {ini : Bool} {pc : Nat} (hd : decode cc pc = .ok (.putfield 392, 3)) : snd RX11 cc nL ini pc (pc + 3) (s_put 10 13 0) := snd_putfield (C := RX11) (T := TX11) (N := 20) (ci := 10) (kf := 13) (kd := 0) (index := 392) (f := 13) cl_10 in_10 (by decide) nf_10 (by decide) rfl rfl rfl tyX11_ok nmX11 rfl rfl m_49 hd
theorem gf_RX11_395 {cc : ByteArray} {nL : Nat} {ini : Bool} {pc : Nat} (hd : decode cc pc = .ok (.getfield 395, 3)) : snd RX11 cc nL ini pc (pc + 3) (s_get 10 14 0) := snd_getfield (C := RX11) (T := TX11) (N := 20) (ci := 10) (kf := 14) (kd := 0) (index := 395) (f := 14) cl_10 in_10 (by decide) nf_10 (by decide) rfl rfl rfl m_50 hd
theorem gf_RX11_392 {cc : ByteArray} {nL : Nat} {ini : Bool} {pc : Nat} (hd : decode cc pc = .ok (.getfield 392, 3)) : snd RX11 cc nL ini pc (pc + 3) (s_get 10 13 0) := snd_getfield (C := RX11) (T := TX11) (N := 20) (ci := 10) (kf := 13) (kd := 0) (index := 392) (f := 13) cl_10 in_10 (by decide) nf_10 (by decide) rfl rfl rfl m_49 hd
theorem cs_RX11_398 {cc : ByteArray} {nL : Nat} {ini : Bool} {pcs : List Nat} {rF rL pc b : Nat} (hb1 : pcs[b]? = some (pc + 3)) (qF : 1 ≤ rF) (qL : 20 ≤ rL) (hd : decode cc pc = .ok (.invokestatic 398, 3)) : sndQ mtab RX11 cc nL ini pcs rF rL pc (t_cs kX_yearOfKey 1 1 b) := sndQ_cs hb1 mt_X_yearOfKey m_281 m_659 m_280 m_1 ⟨by decide, by decide, by decide +kernel⟩ qF qL hd
theorem cs_RX11_401 {cc : ByteArray} {nL : Nat} {ini : Bool} {pcs : List Nat} {rF rL pc b : Nat} (hb1 : pcs[b]? = some (pc + 3)) (qF : 1 ≤ rF) (qL : 20 ≤ rL) (hd : decode cc pc = .ok (.invokestatic 401, 3)) : sndQ mtab RX11 cc nL ini pcs rF rL pc (t_cs kX_monthOfKey 1 1 b) := sndQ_cs hb1 mt_X_monthOfKey m_284 m_660 m_283 m_1 ⟨by decide, by decide, by decide +kernel⟩ qF qL hd
theorem cs_RX11_404 {cc : ByteArray} {nL : Nat} {ini : Bool} {pcs : List Nat} {rF rL pc b : Nat} (hb1 : pcs[b]? = some (pc + 3)) (qF : 1 ≤ rF) (qL : 20 ≤ rL) (hd : decode cc pc = .ok (.invokestatic 404, 3)) : sndQ mtab RX11 cc nL ini pcs rF rL pc (t_cs kX_dateOfKey 1 1 b) := sndQ_cs hb1 mt_X_dateOfKey m_287 m_661 m_286 m_1 ⟨by decide, by decide, by decide +kernel⟩ qF qL hd
theorem cs_RX11_413 {cc : ByteArray} {nL : Nat} {ini : Bool} {pcs : List Nat} {rF rL pc b : Nat} (hb1 : pcs[b]? = some (pc + 3)) (qF : 1 ≤ rF) (qL : 21 ≤ rL) (hd : decode cc pc = .ok (.invokestatic 413, 3)) : sndQ mtab RX11 cc nL ini pcs rF rL pc (t_cs kX_monthLength 2 1 b) := sndQ_cs hb1 mt_X_monthLength m_267 m_300 m_266 m_1 ⟨by decide, by decide, by decide +kernel⟩ qF qL hd
theorem cs_RX11_417 {cc : ByteArray} {nL : Nat} {ini : Bool} {pcs : List Nat} {rF rL pc b : Nat} (hb1 : pcs[b]? = some (pc + 3)) (qF : 1 ≤ rF) (qL : 22 ≤ rL) (hd : decode cc pc = .ok (.invokestatic 417, 3)) : sndQ mtab RX11 cc nL ini pcs rF rL pc (t_cs kJ_floorMod 2 1 b) := sndQ_cs hb1 mt_J_floorMod m_764 m_762 m_763 m_4 ⟨by decide, by decide, by decide +kernel⟩ qF qL hd
theorem pf_RX12_7 {cc : ByteArray} {nL : Nat} {pc : Nat} (hd : decode cc pc = .ok (.putfield 7, 3)) : snd RX12 cc nL true pc (pc + 3) (s_put 11 1 102) := snd_putfieldF (C := RX12) (T := TX12) (N := 71) (ci := 11) (kf := 1) (kd := 102) (index := 7) (f := 1) cl_11 in_11 (by decide) nf_11 (by decide) rfl rfl rfl tyX12_ok nmX12 (Or.inr ⟨_, rfl⟩) rfl rfl rfl m_1162 hd
theorem pf_RX12_13 {cc : ByteArray} {nL : Nat} {pc : Nat} (hd : decode cc pc = .ok (.putfield 13, 3)) : snd RX12 cc nL true pc (pc + 3) (s_put 11 5 102) := snd_putfieldF (C := RX12) (T := TX12) (N := 71) (ci := 11) (kf := 5) (kd := 102) (index := 13) (f := 5) cl_11 in_11 (by decide) nf_11 (by decide) rfl rfl rfl tyX12_ok nmX12 (Or.inr ⟨_, rfl⟩) rfl rfl rfl m_1166 hd
theorem pf_RX12_16 {cc : ByteArray} {nL : Nat} {pc : Nat} (hd : decode cc pc = .ok (.putfield 16, 3)) : snd RX12 cc nL true pc (pc + 3) (s_put 11 6 102) := snd_putfieldF (C := RX12) (T := TX12) (N := 71) (ci := 11) (kf := 6) (kd := 102) (index := 16) (f := 6) cl_11 in_11 (by decide) nf_11 (by decide) rfl rfl rfl tyX12_ok nmX12 (Or.inr ⟨_, rfl⟩) rfl rfl rfl m_1167 hd
theorem pf_RX12_19 {cc : ByteArray} {nL : Nat} {pc : Nat} (hd : decode cc pc = .ok (.putfield 19, 3)) : snd RX12 cc nL true pc (pc + 3) (s_put 11 7 102) := snd_putfieldF (C := RX12) (T := TX12) (N := 71) (ci := 11) (kf := 7) (kd := 102) (index := 19) (f := 7) cl_11 in_11 (by decide) nf_11 (by decide) rfl rfl rfl tyX12_ok nmX12 (Or.inr ⟨_, rfl⟩) rfl rfl rfl m_1168 hd
theorem pf_RX12_22 {cc : ByteArray} {nL : Nat} {pc : Nat} (hd : decode cc pc = .ok (.putfield 22, 3)) : snd RX12 cc nL true pc (pc + 3) (s_put 11 8 102) := snd_putfieldF (C := RX12) (T := TX12) (N := 71) (ci := 11) (kf := 8) (kd := 102) (index := 22) (f := 8) cl_11 in_11 (by decide) nf_11 (by decide) rfl rfl rfl tyX12_ok nmX12 (Or.inr ⟨_, rfl⟩) rfl rfl rfl m_1169 hd
theorem pf_RX12_25 {cc : ByteArray} {nL : Nat} {pc : Nat} (hd : decode cc pc = .ok (.putfield 25, 3)) : snd RX12 cc nL true pc (pc + 3) (s_put 11 9 104) := snd_putfieldF (C := RX12) (T := TX12) (N := 71) (ci := 11) (kf := 9) (kd := 104) (index := 25) (f := 9) cl_11 in_11 (by decide) nf_11 (by decide) rfl rfl rfl tyX12_ok nmX12 (Or.inr ⟨_, rfl⟩) rfl rfl rfl m_1170 hd
theorem pf_RX12_29 {cc : ByteArray} {nL : Nat} {pc : Nat} (hd : decode cc pc = .ok (.putfield 29, 3)) : snd RX12 cc nL true pc (pc + 3) (s_put 11 10 102) := snd_putfieldF (C := RX12) (T := TX12) (N := 71) (ci := 11) (kf := 10) (kd := 102) (index := 29) (f := 10) cl_11 in_11 (by decide) nf_11 (by decide) rfl rfl rfl tyX12_ok nmX12 (Or.inr ⟨_, rfl⟩) rfl rfl rfl m_1171 hd
theorem pf_RX12_32 {cc : ByteArray} {nL : Nat} {pc : Nat} (hd : decode cc pc = .ok (.putfield 32, 3)) : snd RX12 cc nL true pc (pc + 3) (s_put 11 11 102) := snd_putfieldF (C := RX12) (T := TX12) (N := 71) (ci := 11) (kf := 11) (kd := 102) (index := 32) (f := 11) cl_11 in_11 (by decide) nf_11 (by decide) rfl rfl rfl tyX12_ok nmX12 (Or.inr ⟨_, rfl⟩) rfl rfl rfl m_1172 hd
theorem pf_RX12_35 {cc : ByteArray} {nL : Nat} {pc : Nat} (hd : decode cc pc = .ok (.putfield 35, 3)) : snd RX12 cc nL true pc (pc + 3) (s_put 11 12 102) := snd_putfieldF (C := RX12) (T := TX12) (N := 71) (ci := 11) (kf := 12) (kd := 102) (index := 35) (f := 12) cl_11 in_11 (by decide) nf_11 (by decide) rfl rfl rfl tyX12_ok nmX12 (Or.inr ⟨_, rfl⟩) rfl rfl rfl m_1173 hd
theorem pf_RX12_39 {cc : ByteArray} {nL : Nat} {pc : Nat} (hd : decode cc pc = .ok (.putfield 39, 3)) : snd RX12 cc nL true pc (pc + 3) (s_put 11 13 102) := snd_putfieldF (C := RX12) (T := TX12) (N := 71) (ci := 11) (kf := 13) (kd := 102) (index := 39) (f := 13) cl_11 in_11 (by decide) nf_11 (by decide) rfl rfl rfl tyX12_ok nmX12 (Or.inr ⟨_, rfl⟩) rfl rfl rfl m_1174 hd
theorem pf_RX12_42 {cc : ByteArray} {nL : Nat} {pc : Nat} (hd : decode cc pc = .ok (.putfield 42, 3)) : snd RX12 cc nL true pc (pc + 3) (s_put 11 15 102) := snd_putfieldF (C := RX12) (T := TX12) (N := 71) (ci := 11) (kf := 15) (kd := 102) (index := 42) (f := 15) cl_11 in_11 (by decide) nf_11 (by decide) rfl rfl rfl tyX12_ok nmX12 (Or.inr ⟨_, rfl⟩) rfl rfl rfl m_1176 hd
theorem pf_RX12_45 {cc : ByteArray} {nL : Nat} {pc : Nat} (hd : decode cc pc = .ok (.putfield 45, 3)) : snd RX12 cc nL true pc (pc + 3) (s_put 11 16 102) := snd_putfieldF (C := RX12) (T := TX12) (N := 71) (ci := 11) (kf := 16) (kd := 102) (index := 45) (f := 16) cl_11 in_11 (by decide) nf_11 (by decide) rfl rfl rfl tyX12_ok nmX12 (Or.inr ⟨_, rfl⟩) rfl rfl rfl m_1177 hd
theorem pf_RX12_48 {cc : ByteArray} {nL : Nat} {pc : Nat} (hd : decode cc pc = .ok (.putfield 48, 3)) : snd RX12 cc nL true pc (pc + 3) (s_put 11 17 102) := snd_putfieldF (C := RX12) (T := TX12) (N := 71) (ci := 11) (kf := 17) (kd := 102) (index := 48) (f := 17) cl_11 in_11 (by decide) nf_11 (by decide) rfl rfl rfl tyX12_ok nmX12 (Or.inr ⟨_, rfl⟩) rfl rfl rfl m_1178 hd
theorem pf_RX12_51 {cc : ByteArray} {nL : Nat} {pc : Nat} (hd : decode cc pc = .ok (.putfield 51, 3)) : snd RX12 cc nL true pc (pc + 3) (s_put 11 18 102) := snd_putfieldF (C := RX12) (T := TX12) (N := 71) (ci := 11) (kf := 18) (kd := 102) (index := 51) (f := 18) cl_11 in_11 (by decide) nf_11 (by decide) rfl rfl rfl tyX12_ok nmX12 (Or.inr ⟨_, rfl⟩) rfl rfl rfl m_1179 hd
theorem pf_RX12_54 {cc : ByteArray} {nL : Nat} {pc : Nat} (hd : decode cc pc = .ok (.putfield 54, 3)) : snd RX12 cc nL true pc (pc + 3) (s_put 11 19 102) := snd_putfieldF (C := RX12) (T := TX12) (N := 71) (ci := 11) (kf := 19) (kd := 102) (index := 54) (f := 19) cl_11 in_11 (by decide) nf_11 (by decide) rfl rfl rfl tyX12_ok nmX12 (Or.inr ⟨_, rfl⟩) rfl rfl rfl m_1180 hd
theorem pf_RX12_57 {cc : ByteArray} {nL : Nat} {pc : Nat} (hd : decode cc pc = .ok (.putfield 57, 3)) : snd RX12 cc nL true pc (pc + 3) (s_put 11 20 102) := snd_putfieldF (C := RX12) (T := TX12) (N := 71) (ci := 11) (kf := 20) (kd := 102) (index := 57) (f := 20) cl_11 in_11 (by decide) nf_11 (by decide) rfl rfl rfl tyX12_ok nmX12 (Or.inr ⟨_, rfl⟩) rfl rfl rfl m_1181 hd
theorem pf_RX12_60 {cc : ByteArray} {nL : Nat} {pc : Nat} (hd : decode cc pc = .ok (.putfield 60, 3)) : snd RX12 cc nL true pc (pc + 3) (s_put 11 21 102) := snd_putfieldF (C := RX12) (T := TX12) (N := 71) (ci := 11) (kf := 21) (kd := 102) (index := 60) (f := 21) cl_11 in_11 (by decide) nf_11 (by decide) rfl rfl rfl tyX12_ok nmX12 (Or.inr ⟨_, rfl⟩) rfl rfl rfl m_1182 hd
theorem pf_RX12_63 {cc : ByteArray} {nL : Nat} {pc : Nat} (hd : decode cc pc = .ok (.putfield 63, 3)) : snd RX12 cc nL true pc (pc + 3) (s_put 11 22 102) := snd_putfieldF (C := RX12) (T := TX12) (N := 71) (ci := 11) (kf := 22) (kd := 102) (index := 63) (f := 22) cl_11 in_11 (by decide) nf_11 (by decide) rfl rfl rfl tyX12_ok nmX12 (Or.inr ⟨_, rfl⟩) rfl rfl rfl m_1183 hd
theorem pf_RX12_66 {cc : ByteArray} {nL : Nat} {pc : Nat} (hd : decode cc pc = .ok (.putfield 66, 3)) : snd RX12 cc nL true pc (pc + 3) (s_put 11 23 102) := snd_putfieldF (C := RX12) (T := TX12) (N := 71) (ci := 11) (kf := 23) (kd := 102) (index := 66) (f := 23) cl_11 in_11 (by decide) nf_11 (by decide) rfl rfl rfl tyX12_ok nmX12 (Or.inr ⟨_, rfl⟩) rfl rfl rfl m_1184 hd
theorem pf_RX12_69 {cc : ByteArray} {nL : Nat} {pc : Nat} (hd : decode cc pc = .ok (.putfield 69, 3)) : snd RX12 cc nL true pc (pc + 3) (s_put 11 24 102) := snd_putfieldF (C := RX12) (T := TX12) (N := 71) (ci := 11) (kf := 24) (kd := 102) (index := 69) (f := 24) cl_11 in_11 (by decide) nf_11 (by decide) rfl rfl rfl tyX12_ok nmX12 (Or.inr ⟨_, rfl⟩) rfl rfl rfl m_1185 hd
theorem pf_RX12_72 {cc : ByteArray} {nL : Nat} {pc : Nat} (hd : decode cc pc = .ok (.putfield 72, 3)) : snd RX12 cc nL true pc (pc + 3) (s_put 11 25 102) := snd_putfieldF (C := RX12) (T := TX12) (N := 71) (ci := 11) (kf := 25) (kd := 102) (index := 72) (f := 25) cl_11 in_11 (by decide) nf_11 (by decide) rfl rfl rfl tyX12_ok nmX12 (Or.inr ⟨_, rfl⟩) rfl rfl rfl m_1186 hd
theorem pf_RX12_75 {cc : ByteArray} {nL : Nat} {pc : Nat} (hd : decode cc pc = .ok (.putfield 75, 3)) : snd RX12 cc nL true pc (pc + 3) (s_put 11 26 102) := snd_putfieldF (C := RX12) (T := TX12) (N := 71) (ci := 11) (kf := 26) (kd := 102) (index := 75) (f := 26) cl_11 in_11 (by decide) nf_11 (by decide) rfl rfl rfl tyX12_ok nmX12 (Or.inr ⟨_, rfl⟩) rfl rfl rfl m_1187 hd
theorem pf_RX12_78 {cc : ByteArray} {nL : Nat} {pc : Nat} (hd : decode cc pc = .ok (.putfield 78, 3)) : snd RX12 cc nL true pc (pc + 3) (s_put 11 27 102) := snd_putfieldF (C := RX12) (T := TX12) (N := 71) (ci := 11) (kf := 27) (kd := 102) (index := 78) (f := 27) cl_11 in_11 (by decide) nf_11 (by decide) rfl rfl rfl tyX12_ok nmX12 (Or.inr ⟨_, rfl⟩) rfl rfl rfl m_1188 hd
theorem pf_RX12_82 {cc : ByteArray} {nL : Nat} {pc : Nat} (hd : decode cc pc = .ok (.putfield 82, 3)) : snd RX12 cc nL true pc (pc + 3) (s_put 11 30 103) := snd_putfieldF (C := RX12) (T := TX12) (N := 71) (ci := 11) (kf := 30) (kd := 103) (index := 82) (f := 30) cl_11 in_11 (by decide) nf_11 (by decide) rfl rfl rfl tyX12_ok nmX12 (Or.inr ⟨_, rfl⟩) rfl rfl rfl m_1191 hd
theorem pf_RX12_86 {cc : ByteArray} {nL : Nat} {pc : Nat} (hd : decode cc pc = .ok (.putfield 86, 3)) : snd RX12 cc nL true pc (pc + 3) (s_put 11 31 103) := snd_putfieldF (C := RX12) (T := TX12) (N := 71) (ci := 11) (kf := 31) (kd := 103) (index := 86) (f := 31) cl_11 in_11 (by decide) nf_11 (by decide) rfl rfl rfl tyX12_ok nmX12 (Or.inr ⟨_, rfl⟩) rfl rfl rfl m_1192 hd
theorem pf_RX12_89 {cc : ByteArray} {nL : Nat} {pc : Nat} (hd : decode cc pc = .ok (.putfield 89, 3)) : snd RX12 cc nL true pc (pc + 3) (s_put 11 32 102) := snd_putfieldF (C := RX12) (T := TX12) (N := 71) (ci := 11) (kf := 32) (kd := 102) (index := 89) (f := 32) cl_11 in_11 (by decide) nf_11 (by decide) rfl rfl rfl tyX12_ok nmX12 (Or.inr ⟨_, rfl⟩) rfl rfl rfl m_1193 hd
theorem pf_RX12_92 {cc : ByteArray} {nL : Nat} {pc : Nat} (hd : decode cc pc = .ok (.putfield 92, 3)) : snd RX12 cc nL true pc (pc + 3) (s_put 11 33 104) := snd_putfieldF (C := RX12) (T := TX12) (N := 71) (ci := 11) (kf := 33) (kd := 104) (index := 92) (f := 33) cl_11 in_11 (by decide) nf_11 (by decide) rfl rfl rfl tyX12_ok nmX12 (Or.inr ⟨_, rfl⟩) rfl rfl rfl m_1194 hd
theorem pf_RX12_95 {cc : ByteArray} {nL : Nat} {pc : Nat} (hd : decode cc pc = .ok (.putfield 95, 3)) : snd RX12 cc nL true pc (pc + 3) (s_put 11 36 102) := snd_putfieldF (C := RX12) (T := TX12) (N := 71) (ci := 11) (kf := 36) (kd := 102) (index := 95) (f := 36) cl_11 in_11 (by decide) nf_11 (by decide) rfl rfl rfl tyX12_ok nmX12 (Or.inr ⟨_, rfl⟩) rfl rfl rfl m_1197 hd
theorem pf_RX12_98 {cc : ByteArray} {nL : Nat} {pc : Nat} (hd : decode cc pc = .ok (.putfield 98, 3)) : snd RX12 cc nL true pc (pc + 3) (s_put 11 37 102) := snd_putfieldF (C := RX12) (T := TX12) (N := 71) (ci := 11) (kf := 37) (kd := 102) (index := 98) (f := 37) cl_11 in_11 (by decide) nf_11 (by decide) rfl rfl rfl tyX12_ok nmX12 (Or.inr ⟨_, rfl⟩) rfl rfl rfl m_1198 hd
theorem pf_RX12_101 {cc : ByteArray} {nL : Nat} {pc : Nat} (hd : decode cc pc = .ok (.putfield 101, 3)) : snd RX12 cc nL true pc (pc + 3) (s_put 11 42 102) := snd_putfieldF (C := RX12) (T := TX12) (N := 71) (ci := 11) (kf := 42) (kd := 102) (index := 101) (f := 42) cl_11 in_11 (by decide) nf_11 (by decide) rfl rfl rfl tyX12_ok nmX12 (Or.inr ⟨_, rfl⟩) rfl rfl rfl m_1203 hd
theorem pf_RX12_104 {cc : ByteArray} {nL : Nat} {pc : Nat} (hd : decode cc pc = .ok (.putfield 104, 3)) : snd RX12 cc nL true pc (pc + 3) (s_put 11 43 102) := snd_putfieldF (C := RX12) (T := TX12) (N := 71) (ci := 11) (kf := 43) (kd := 102) (index := 104) (f := 43) cl_11 in_11 (by decide) nf_11 (by decide) rfl rfl rfl tyX12_ok nmX12 (Or.inr ⟨_, rfl⟩) rfl rfl rfl m_1204 hd
theorem pf_RX12_107 {cc : ByteArray} {nL : Nat} {pc : Nat} (hd : decode cc pc = .ok (.putfield 107, 3)) : snd RX12 cc nL true pc (pc + 3) (s_put 11 44 102) := snd_putfieldF (C := RX12) (T := TX12) (N := 71) (ci := 11) (kf := 44) (kd := 102) (index := 107) (f := 44) cl_11 in_11 (by decide) nf_11 (by decide) rfl rfl rfl tyX12_ok nmX12 (Or.inr ⟨_, rfl⟩) rfl rfl rfl m_1205 hd
theorem pf_RX12_110 {cc : ByteArray} {nL : Nat} {pc : Nat} (hd : decode cc pc = .ok (.putfield 110, 3)) : snd RX12 cc nL true pc (pc + 3) (s_put 11 45 102) := snd_putfieldF (C := RX12) (T := TX12) (N := 71) (ci := 11) (kf := 45) (kd := 102) (index := 110) (f := 45) cl_11 in_11 (by decide) nf_11 (by decide) rfl rfl rfl tyX12_ok nmX12 (Or.inr ⟨_, rfl⟩) rfl rfl rfl m_1206 hd
theorem pf_RX12_113 {cc : ByteArray} {nL : Nat} {pc : Nat} (hd : decode cc pc = .ok (.putfield 113, 3)) : snd RX12 cc nL true pc (pc + 3) (s_put 11 46 102) := snd_putfieldF (C := RX12) (T := TX12) (N := 71) (ci := 11) (kf := 46) (kd := 102) (index := 113) (f := 46) cl_11 in_11 (by decide) nf_11 (by decide) rfl rfl rfl tyX12_ok nmX12 (Or.inr ⟨_, rfl⟩) rfl rfl rfl m_1207 hd
theorem pf_RX12_116 {cc : ByteArray} {nL : Nat} {pc : Nat} (hd : decode cc pc = .ok (.putfield 116, 3)) : snd RX12 cc nL true pc (pc + 3) (s_put 11 47 102) := snd_putfieldF (C := RX12) (T := TX12) (N := 71) (ci := 11) (kf := 47) (kd := 102) (index := 116) (f := 47) cl_11 in_11 (by decide) nf_11 (by decide) rfl rfl rfl tyX12_ok nmX12 (Or.inr ⟨_, rfl⟩) rfl rfl rfl m_1208 hd
theorem pf_RX12_119 {cc : ByteArray} {nL : Nat} {pc : Nat} (hd : decode cc pc = .ok (.putfield 119, 3)) : snd RX12 cc nL true pc (pc + 3) (s_put 11 48 102) := snd_putfieldF (C := RX12) (T := TX12) (N := 71) (ci := 11) (kf := 48) (kd := 102) (index := 119) (f := 48) cl_11 in_11 (by decide) nf_11 (by decide) rfl rfl rfl tyX12_ok nmX12 (Or.inr ⟨_, rfl⟩) rfl rfl rfl m_1209 hd
theorem pf_RX12_122 {cc : ByteArray} {nL : Nat} {pc : Nat} (hd : decode cc pc = .ok (.putfield 122, 3)) : snd RX12 cc nL true pc (pc + 3) (s_put 11 50 102) := snd_putfieldF (C := RX12) (T := TX12) (N := 71) (ci := 11) (kf := 50) (kd := 102) (index := 122) (f := 50) cl_11 in_11 (by decide) nf_11 (by decide) rfl rfl rfl tyX12_ok nmX12 (Or.inr ⟨_, rfl⟩) rfl rfl rfl m_1211 hd
theorem pf_RX12_125 {cc : ByteArray} {nL : Nat} {pc : Nat} (hd : decode cc pc = .ok (.putfield 125, 3)) : snd RX12 cc nL true pc (pc + 3) (s_put 11 51 102) := snd_putfieldF (C := RX12) (T := TX12) (N := 71) (ci := 11) (kf := 51) (kd := 102) (index := 125) (f := 51) cl_11 in_11 (by decide) nf_11 (by decide) rfl rfl rfl tyX12_ok nmX12 (Or.inr ⟨_, rfl⟩) rfl rfl rfl m_1212 hd
theorem pf_RX12_128 {cc : ByteArray} {nL : Nat} {pc : Nat} (hd : decode cc pc = .ok (.putfield 128, 3)) : snd RX12 cc nL true pc (pc + 3) (s_put 11 52 102) := snd_putfieldF (C := RX12) (T := TX12) (N := 71) (ci := 11) (kf := 52) (kd := 102) (index := 128) (f := 52) cl_11 in_11 (by decide) nf_11 (by decide) rfl rfl rfl tyX12_ok nmX12 (Or.inr ⟨_, rfl⟩) rfl rfl rfl m_1213 hd
theorem pf_RX12_131 {cc : ByteArray} {nL : Nat} {pc : Nat} (hd : decode cc pc = .ok (.putfield 131, 3)) : snd RX12 cc nL true pc (pc + 3) (s_put 11 53 102) := snd_putfieldF (C := RX12) (T := TX12) (N := 71) (ci := 11) (kf := 53) (kd := 102) (index := 131) (f := 53) cl_11 in_11 (by decide) nf_11 (by decide) rfl rfl rfl tyX12_ok nmX12 (Or.inr ⟨_, rfl⟩) rfl rfl rfl m_1214 hd
theorem pf_RX12_134 {cc : ByteArray} {nL : Nat} {pc : Nat} (hd : decode cc pc = .ok (.putfield 134, 3)) : snd RX12 cc nL true pc (pc + 3) (s_put 11 55 102) := snd_putfieldF (C := RX12) (T := TX12) (N := 71) (ci := 11) (kf := 55) (kd := 102) (index := 134) (f := 55) cl_11 in_11 (by decide) nf_11 (by decide) rfl rfl rfl tyX12_ok nmX12 (Or.inr ⟨_, rfl⟩) rfl rfl rfl m_1216 hd
theorem pf_RX12_137 {cc : ByteArray} {nL : Nat} {ini : Bool} {pc : Nat} (hd : decode cc pc = .ok (.putfield 137, 3)) : snd RX12 cc nL ini pc (pc + 3) (s_put 11 56 0) := snd_putfield (C := RX12) (T := TX12) (N := 71) (ci := 11) (kf := 56) (kd := 0) (index := 137) (f := 56) cl_11 in_11 (by decide) nf_11 (by decide) rfl rfl rfl tyX12_ok nmX12 rfl rfl m_1217 hd
theorem pf_RX12_141 {cc : ByteArray} {nL : Nat} {pc : Nat} (hd : decode cc pc = .ok (.putfield 141, 3)) : snd RX12 cc nL true pc (pc + 3) (s_put 11 61 102) := snd_putfieldF (C := RX12) (T := TX12) (N := 71) (ci := 11) (kf := 61) (kd := 102) (index := 141) (f := 61) cl_11 in_11 (by decide) nf_11 (by decide) rfl rfl rfl tyX12_ok nmX12 (Or.inr ⟨_, rfl⟩) rfl rfl rfl m_1222 hd
theorem pf_RX12_144 {cc : ByteArray} {nL : Nat} {pc : Nat} (hd : decode cc pc = .ok (.putfield 144, 3)) : snd RX12 cc nL true pc (pc + 3) (s_put 11 62 102) := snd_putfieldF (C := RX12) (T := TX12) (N := 71) (ci := 11) (kf := 62) (kd := 102) (index := 144) (f := 62) cl_11 in_11 (by decide) nf_11 (by decide) rfl rfl rfl tyX12_ok nmX12 (Or.inr ⟨_, rfl⟩) rfl rfl rfl m_1223 hd
theorem pf_RX12_147 {cc : ByteArray} {nL : Nat} {pc : Nat} (hd : decode cc pc = .ok (.putfield 147, 3)) : snd RX12 cc nL true pc (pc + 3) (s_put 11 66 102) := snd_putfieldF (C := RX12) (T := TX12) (N := 71) (ci := 11) (kf := 66) (kd := 102) (index := 147) (f := 66) cl_11 in_11 (by decide) nf_11 (by decide) rfl rfl rfl tyX12_ok nmX12 (Or.inr ⟨_, rfl⟩) rfl rfl rfl m_1227 hd
theorem pf_RX12_150 {cc : ByteArray} {nL : Nat} {pc : Nat} (hd : decode cc pc = .ok (.putfield 150, 3)) : snd RX12 cc nL true pc (pc + 3) (s_put 11 67 102) := snd_putfieldF (C := RX12) (T := TX12) (N := 71) (ci := 11) (kf := 67) (kd := 102) (index := 150) (f := 67) cl_11 in_11 (by decide) nf_11 (by decide) rfl rfl rfl tyX12_ok nmX12 (Or.inr ⟨_, rfl⟩) rfl rfl rfl m_1228 hd
theorem pf_RX12_153 {cc : ByteArray} {nL : Nat} {pc : Nat} (hd : decode cc pc = .ok (.putfield 153, 3)) : snd RX12 cc nL true pc (pc + 3) (s_put 11 68 102) := snd_putfieldF (C := RX12) (T := TX12) (N := 71) (ci := 11) (kf := 68) (kd := 102) (index := 153) (f := 68) cl_11 in_11 (by decide) nf_11 (by decide) rfl rfl rfl tyX12_ok nmX12 (Or.inr ⟨_, rfl⟩) rfl rfl rfl m_1229 hd
theorem gf_RX12_156 {cc : ByteArray} {nL : Nat} {ini : Bool} {pc : Nat} (hd : decode cc pc = .ok (.getfield 156, 3)) : snd RX12 cc nL ini pc (pc + 3) (s_get 11 0 0) := snd_getfield (C := RX12) (T := TX12) (N := 71) (ci := 11) (kf := 0) (kd := 0) (index := 156) (f := 0) cl_11 in_11 (by decide) nf_11 (by decide) rfl rfl rfl m_1161 hd
theorem cs_RX12_159 {cc : ByteArray} {nL : Nat} {ini : Bool} {pcs : List Nat} {rF rL pc b : Nat} (hb1 : pcs[b]? = some (pc + 3)) (qF : 1 ≤ rF) (qL : 26 ≤ rL) (hd : decode cc pc = .ok (.invokestatic 159, 3)) : sndQ mtab RX12 cc nL ini pcs rF rL pc (t_cs kM_byteOf 6 1 b) := sndQ_cs hb1 mt_M_byteOf m_1385 m_1383 m_1384 m_2 ⟨by decide, by decide, by decide +kernel⟩ qF qL hd
theorem gf_RX12_163 {cc : ByteArray} {nL : Nat} {ini : Bool} {pc : Nat} (hd : decode cc pc = .ok (.getfield 163, 3)) : snd RX12 cc nL ini pc (pc + 3) (s_get 11 2 0) := snd_getfield (C := RX12) (T := TX12) (N := 71) (ci := 11) (kf := 2) (kd := 0) (index := 163) (f := 2) cl_11 in_11 (by decide) nf_11 (by decide) rfl rfl rfl m_1163 hd
theorem pf_RX12_163 {cc : ByteArray} {nL : Nat} {ini : Bool} {pc : Nat} (hd : decode cc pc = .ok (.putfield 163, 3)) : snd RX12 cc nL ini pc (pc + 3) (s_put 11 2 0) := snd_putfield (C := RX12) (T := TX12) (N := 71) (ci := 11) (kf := 2) (kd := 0) (index := 163) (f := 2) cl_11 in_11 (by decide) nf_11 (by decide) rfl rfl rfl tyX12_ok nmX12 rfl rfl m_1163 hd
theorem gf_RX12_7 {cc : ByteArray} {nL : Nat} {ini : Bool} {pc : Nat} (hd : decode cc pc = .ok (.getfield 7, 3)) : snd RX12 cc nL ini pc (pc + 3) (s_get 11 1 102) := snd_getfield (C := RX12) (T := TX12) (N := 71) (ci := 11) (kf := 1) (kd := 102) (index := 7) (f := 1) cl_11 in_11 (by decide) nf_11 (by decide) rfl rfl rfl m_1162 hd
theorem gf_RX12_166 {cc : ByteArray} {nL : Nat} {ini : Bool} {pc : Nat} (hd : decode cc pc = .ok (.getfield 166, 3)) : snd RX12 cc nL ini pc (pc + 3) (s_get 11 3 0) := snd_getfield (C := RX12) (T := TX12) (N := 71) (ci := 11) (kf := 3) (kd := 0) (index := 166) (f := 3) cl_11 in_11 (by decide) nf_11 (by decide) rfl rfl rfl m_1164 hd
theorem cs_RX12_169 {cc : ByteArray} {nL : Nat} {ini : Bool} {pcs : List Nat} {rF rL pc b : Nat} (hb1 : pcs[b]? = some (pc + 3)) (qF : 1 ≤ rF) (qL : 20 ≤ rL) (hd : decode cc pc = .ok (.invokevirtual 169, 3)) : sndQ mtab RX12 cc nL ini pcs rF rL pc (t_cv 11 kM_here 0 1 b) := sndQ_cv cl_11 (by decide) hb1 mt_M_here m_1413 m_1410 m_1412 ms_37 m_2 ⟨rfl, by decide, by decide, by decide +kernel⟩ qF qL hd
theorem pf_RX12_166 {cc : ByteArray} {nL : Nat} {ini : Bool} {pc : Nat} (hd : decode cc pc = .ok (.putfield 166, 3)) : snd RX12 cc nL ini pc (pc + 3) (s_put 11 3 0) := snd_putfield (C := RX12) (T := TX12) (N := 71) (ci := 11) (kf := 3) (kd := 0) (index := 166) (f := 3) cl_11 in_11 (by decide) nf_11 (by decide) rfl rfl rfl tyX12_ok nmX12 rfl rfl m_1164 hd
theorem gf_RX12_173 {cc : ByteArray} {nL : Nat} {ini : Bool} {pc : Nat} (hd : decode cc pc = .ok (.getfield 173, 3)) : snd RX12 cc nL ini pc (pc + 3) (s_get 11 4 0) := snd_getfield (C := RX12) (T := TX12) (N := 71) (ci := 11) (kf := 4) (kd := 0) (index := 173) (f := 4) cl_11 in_11 (by decide) nf_11 (by decide) rfl rfl rfl m_1165 hd
theorem pf_RX12_173 {cc : ByteArray} {nL : Nat} {ini : Bool} {pc : Nat} (hd : decode cc pc = .ok (.putfield 173, 3)) : snd RX12 cc nL ini pc (pc + 3) (s_put 11 4 0) := snd_putfield (C := RX12) (T := TX12) (N := 71) (ci := 11) (kf := 4) (kd := 0) (index := 173) (f := 4) cl_11 in_11 (by decide) nf_11 (by decide) rfl rfl rfl tyX12_ok nmX12 rfl rfl m_1165 hd
theorem cs_RX12_176 {cc : ByteArray} {nL : Nat} {ini : Bool} {pcs : List Nat} {rF rL pc b : Nat} (hb1 : pcs[b]? = some (pc + 3)) (qF : 2 ≤ rF) (qL : 42 ≤ rL) (hd : decode cc pc = .ok (.invokevirtual 176, 3)) : sndQ mtab RX12 cc nL ini pcs rF rL pc (t_cv 11 kM_look 0 1 b) := sndQ_cv cl_11 (by decide) hb1 mt_M_look m_1409 m_1406 m_1408 ms_36 m_2 ⟨rfl, by decide, by decide, by decide +kernel⟩ qF qL hd
theorem cs_RX12_179 {cc : ByteArray} {nL : Nat} {ini : Bool} {pcs : List Nat} {rF rL pc b : Nat} (hb1 : pcs[b]? = some (pc + 3)) (qF : 1 ≤ rF) (qL : 20 ≤ rL) (hd : decode cc pc = .ok (.invokevirtual 179, 3)) : sndQ mtab RX12 cc nL ini pcs rF rL pc (t_cv 11 kM_bad 0 0 b) := sndQ_cv cl_11 (by decide) hb1 mt_M_bad m_1420 m_1417 m_1419 ms_38 m_2 ⟨rfl, by decide, by decide, by decide +kernel⟩ qF qL hd
theorem cs_RX12_182 {cc : ByteArray} {nL : Nat} {ini : Bool} {pcs : List Nat} {rF rL pc b : Nat} (hb1 : pcs[b]? = some (pc + 3)) (qF : 1 ≤ rF) (qL : 20 ≤ rL) (hd : decode cc pc = .ok (.invokestatic 182, 3)) : sndQ mtab RX12 cc nL ini pcs rF rL pc (t_cs kM_isDigit 1 1 b) := sndQ_cs hb1 mt_M_isDigit m_1416 m_1414 m_1415 m_2 ⟨by decide, by decide, by decide +kernel⟩ qF qL hd
theorem cs_RX12_186 {cc : ByteArray} {nL : Nat} {ini : Bool} {pcs : List Nat} {rF rL pc b : Nat} (hb1 : pcs[b]? = some (pc + 3)) (qF : 1 ≤ rF) (qL : 22 ≤ rL) (hd : decode cc pc = .ok (.invokestatic 186, 3)) : sndQ mtab RX12 cc nL ini pcs rF rL pc (t_cs kM_in 3 1 b) := sndQ_cs hb1 mt_M_in m_1423 m_1421 m_1422 m_2 ⟨by decide, by decide, by decide +kernel⟩ qF qL hd
theorem cs_RX12_190 {cc : ByteArray} {nL : Nat} {ini : Bool} {pcs : List Nat} {rF rL pc b : Nat} (hb1 : pcs[b]? = some (pc + 3)) (qF : 1 ≤ rF) (qL : 20 ≤ rL) (hd : decode cc pc = .ok (.invokevirtual 190, 3)) : sndQ mtab RX12 cc nL ini pcs rF rL pc (t_cv 11 kM_wrongAtLast 0 0 b) := sndQ_cv cl_11 (by decide) hb1 mt_M_wrongAtLast m_1427 m_1424 m_1426 ms_39 m_2 ⟨rfl, by decide, by decide, by decide +kernel⟩ qF qL hd
theorem cs_RX12_193 {cc : ByteArray} {nL : Nat} {ini : Bool} {pcs : List Nat} {rF rL pc b : Nat} (hb1 : pcs[b]? = some (pc + 3)) (qF : 3 ≤ rF) (qL : 68 ≤ rL) (hd : decode cc pc = .ok (.invokevirtual 193, 3)) : sndQ mtab RX12 cc nL ini pcs rF rL pc (t_cv 11 kM_number 2 1 b) := sndQ_cv cl_11 (by decide) hb1 mt_M_number m_1405 m_1402 m_1404 ms_35 m_2 ⟨rfl, by decide, by decide, by decide +kernel⟩ qF qL hd
theorem cs_RX12_197 {cc : ByteArray} {nL : Nat} {ini : Bool} {pcs : List Nat} {rF rL pc b : Nat} (hb1 : pcs[b]? = some (pc + 3)) (qF : 2 ≤ rF) (qL : 42 ≤ rL) (hd : decode cc pc = .ok (.invokevirtual 197, 3)) : sndQ mtab RX12 cc nL ini pcs rF rL pc (t_cv 11 kM_closeNumber 0 0 b) := sndQ_cv cl_11 (by decide) hb1 mt_M_closeNumber m_1431 m_1428 m_1430 ms_40 m_2 ⟨rfl, by decide, by decide, by decide +kernel⟩ qF qL hd
theorem gf_RX12_19 {cc : ByteArray} {nL : Nat} {ini : Bool} {pc : Nat} (hd : decode cc pc = .ok (.getfield 19, 3)) : snd RX12 cc nL ini pc (pc + 3) (s_get 11 7 102) := snd_getfield (C := RX12) (T := TX12) (N := 71) (ci := 11) (kf := 7) (kd := 102) (index := 19) (f := 7) cl_11 in_11 (by decide) nf_11 (by decide) rfl rfl rfl m_1168 hd
theorem gf_RX12_22 {cc : ByteArray} {nL : Nat} {ini : Bool} {pc : Nat} (hd : decode cc pc = .ok (.getfield 22, 3)) : snd RX12 cc nL ini pc (pc + 3) (s_get 11 8 102) := snd_getfield (C := RX12) (T := TX12) (N := 71) (ci := 11) (kf := 8) (kd := 102) (index := 22) (f := 8) cl_11 in_11 (by decide) nf_11 (by decide) rfl rfl rfl m_1169 hd
theorem gf_RX12_25 {cc : ByteArray} {nL : Nat} {ini : Bool} {pc : Nat} (hd : decode cc pc = .ok (.getfield 25, 3)) : snd RX12 cc nL ini pc (pc + 3) (s_get 11 9 104) := snd_getfield (C := RX12) (T := TX12) (N := 71) (ci := 11) (kf := 9) (kd := 104) (index := 25) (f := 9) cl_11 in_11 (by decide) nf_11 (by decide) rfl rfl rfl m_1170 hd
theorem cs_RX12_200 {cc : ByteArray} {nL : Nat} {ini : Bool} {pcs : List Nat} {rF rL pc b : Nat} (hb1 : pcs[b]? = some (pc + 3)) (qF : 1 ≤ rF) (qL : 24 ≤ rL) (hd : decode cc pc = .ok (.invokevirtual 200, 3)) : sndQ mtab RX12 cc nL ini pcs rF rL pc (t_cv 11 kM_isLeap 2 1 b) := sndQ_cv cl_11 (by decide) hb1 mt_M_isLeap m_1447 m_1444 m_1446 ms_44 m_2 ⟨rfl, by decide, by decide, by decide +kernel⟩ qF qL hd
theorem gf_RX12_39 {cc : ByteArray} {nL : Nat} {ini : Bool} {pc : Nat} (hd : decode cc pc = .ok (.getfield 39, 3)) : snd RX12 cc nL ini pc (pc + 3) (s_get 11 13 102) := snd_getfield (C := RX12) (T := TX12) (N := 71) (ci := 11) (kf := 13) (kd := 102) (index := 39) (f := 13) cl_11 in_11 (by decide) nf_11 (by decide) rfl rfl rfl m_1174 hd
theorem cs_RX12_204 {cc : ByteArray} {nL : Nat} {ini : Bool} {pcs : List Nat} {rF rL pc b : Nat} (hb1 : pcs[b]? = some (pc + 3)) (qF : 2 ≤ rF) (qL : 49 ≤ rL) (hd : decode cc pc = .ok (.invokevirtual 204, 3)) : sndQ mtab RX12 cc nL ini pcs rF rL pc (t_cv 11 kM_daysOf 3 1 b) := sndQ_cv cl_11 (by decide) hb1 mt_M_daysOf m_1458 m_1455 m_1457 ms_46 m_2 ⟨rfl, by decide, by decide, by decide +kernel⟩ qF qL hd
theorem cs_RX12_208 {cc : ByteArray} {nL : Nat} {ini : Bool} {pcs : List Nat} {rF rL pc b : Nat} (hb1 : pcs[b]? = some (pc + 3)) (qF : 1 ≤ rF) (qL : 22 ≤ rL) (hd : decode cc pc = .ok (.invokestatic 208, 3)) : sndQ mtab RX12 cc nL ini pcs rF rL pc (t_cs kM_code 3 1 b) := sndQ_cs hb1 mt_M_code m_1450 m_1448 m_1449 m_2 ⟨by decide, by decide, by decide +kernel⟩ qF qL hd
theorem cs_RX12_211 {cc : ByteArray} {nL : Nat} {ini : Bool} {pcs : List Nat} {rF rL pc b : Nat} (hb1 : pcs[b]? = some (pc + 3)) (qF : 4 ≤ rF) (qL : 93 ≤ rL) (hd : decode cc pc = .ok (.invokevirtual 211, 3)) : sndQ mtab RX12 cc nL ini pcs rF rL pc (t_cv 11 kM_plain 2 1 b) := sndQ_cv cl_11 (by decide) hb1 mt_M_plain m_1401 m_1398 m_1400 ms_34 m_2 ⟨rfl, by decide, by decide, by decide +kernel⟩ qF qL hd
theorem cs_RX12_214 {cc : ByteArray} {nL : Nat} {ini : Bool} {pcs : List Nat} {rF rL pc b : Nat} (hb1 : pcs[b]? = some (pc + 3)) (qF : 2 ≤ rF) (qL : 49 ≤ rL) (hd : decode cc pc = .ok (.invokevirtual 214, 3)) : sndQ mtab RX12 cc nL ini pcs rF rL pc (t_cv 11 kM_layOut 1 0 b) := sndQ_cv cl_11 (by decide) hb1 mt_M_layOut m_1443 m_1440 m_1442 ms_43 m_2 ⟨rfl, by decide, by decide, by decide +kernel⟩ qF qL hd
theorem gf_RX12_13 {cc : ByteArray} {nL : Nat} {ini : Bool} {pc : Nat} (hd : decode cc pc = .ok (.getfield 13, 3)) : snd RX12 cc nL ini pc (pc + 3) (s_get 11 5 102) := snd_getfield (C := RX12) (T := TX12) (N := 71) (ci := 11) (kf := 5) (kd := 102) (index := 13) (f := 5) cl_11 in_11 (by decide) nf_11 (by decide) rfl rfl rfl m_1166 hd
theorem cs_RX12_218 {cc : ByteArray} {nL : Nat} {ini : Bool} {pcs : List Nat} {rF rL pc b : Nat} (hb1 : pcs[b]? = some (pc + 3)) (qF : 3 ≤ rF) (qL : 65 ≤ rL) (hd : decode cc pc = .ok (.invokevirtual 218, 3)) : sndQ mtab RX12 cc nL ini pcs rF rL pc (t_cv 11 kM_sign 1 0 b) := sndQ_cv cl_11 (by decide) hb1 mt_M_sign m_1435 m_1432 m_1434 ms_41 m_2 ⟨rfl, by decide, by decide, by decide +kernel⟩ qF qL hd
theorem cs_RX12_221 {cc : ByteArray} {nL : Nat} {ini : Bool} {pcs : List Nat} {rF rL pc b : Nat} (hb1 : pcs[b]? = some (pc + 3)) (qF : 5 ≤ rF) (qL : 119 ≤ rL) (hd : decode cc pc = .ok (.invokevirtual 221, 3)) : sndQ mtab RX12 cc nL ini pcs rF rL pc (t_cv 11 kM_readLeaps 1 0 b) := sndQ_cv cl_11 (by decide) hb1 mt_M_readLeaps m_1439 m_1436 m_1438 ms_42 m_2 ⟨rfl, by decide, by decide, by decide +kernel⟩ qF qL hd
theorem gf_RX12_32 {cc : ByteArray} {nL : Nat} {ini : Bool} {pc : Nat} (hd : decode cc pc = .ok (.getfield 32, 3)) : snd RX12 cc nL ini pc (pc + 3) (s_get 11 11 102) := snd_getfield (C := RX12) (T := TX12) (N := 71) (ci := 11) (kf := 11) (kd := 102) (index := 32) (f := 11) cl_11 in_11 (by decide) nf_11 (by decide) rfl rfl rfl m_1172 hd
theorem gf_RX12_16 {cc : ByteArray} {nL : Nat} {ini : Bool} {pc : Nat} (hd : decode cc pc = .ok (.getfield 16, 3)) : snd RX12 cc nL ini pc (pc + 3) (s_get 11 6 102) := snd_getfield (C := RX12) (T := TX12) (N := 71) (ci := 11) (kf := 6) (kd := 102) (index := 16) (f := 6) cl_11 in_11 (by decide) nf_11 (by decide) rfl rfl rfl m_1167 hd
theorem gf_RX12_35 {cc : ByteArray} {nL : Nat} {ini : Bool} {pc : Nat} (hd : decode cc pc = .ok (.getfield 35, 3)) : snd RX12 cc nL ini pc (pc + 3) (s_get 11 12 102) := snd_getfield (C := RX12) (T := TX12) (N := 71) (ci := 11) (kf := 12) (kd := 102) (index := 35) (f := 12) cl_11 in_11 (by decide) nf_11 (by decide) rfl rfl rfl m_1173 hd
theorem cs_RX12_224 {cc : ByteArray} {nL : Nat} {ini : Bool} {pcs : List Nat} {rF rL pc b : Nat} (hb1 : pcs[b]? = some (pc + 3)) (qF : 6 ≤ rF) (qL : 147 ≤ rL) (hd : decode cc pc = .ok (.invokevirtual 224, 3)) : sndQ mtab RX12 cc nL ini pcs rF rL pc (t_cv 11 kM_change 2 0 b) := sndQ_cv cl_11 (by decide) hb1 mt_M_change m_1454 m_1451 m_1453 ms_45 m_2 ⟨rfl, by decide, by decide, by decide +kernel⟩ qF qL hd
theorem gf_RX12_29 {cc : ByteArray} {nL : Nat} {ini : Bool} {pc : Nat} (hd : decode cc pc = .ok (.getfield 29, 3)) : snd RX12 cc nL ini pc (pc + 3) (s_get 11 10 102) := snd_getfield (C := RX12) (T := TX12) (N := 71) (ci := 11) (kf := 10) (kd := 102) (index := 29) (f := 10) cl_11 in_11 (by decide) nf_11 (by decide) rfl rfl rfl m_1171 hd
theorem cs_RX12_228 {cc : ByteArray} {nL : Nat} {ini : Bool} {pcs : List Nat} {rF rL pc b : Nat} (hb1 : pcs[b]? = some (pc + 3)) (qF : 3 ≤ rF) (qL : 77 ≤ rL) (hd : decode cc pc = .ok (.invokevirtual 228, 3)) : sndQ mtab RX12 cc nL ini pcs rF rL pc (t_cv 11 kM_ordinal 2 1 b) := sndQ_cv cl_11 (by decide) hb1 mt_M_ordinal m_1462 m_1459 m_1461 ms_47 m_2 ⟨rfl, by decide, by decide, by decide +kernel⟩ qF qL hd
theorem cs_RX12_204w {cc : ByteArray} {nL : Nat} {ini : Bool} {pcs : List Nat} {rF rL pc b : Nat} (hb1 : pcs[b]? = some (pc + 3)) (qF : 2 ≤ rF) (qL : 51 ≤ rL) (hd : decode cc pc = .ok (.invokevirtual 204, 3)) : sndQ mtab RX12 cc nL ini pcs rF rL pc (t_cw 11 kM_daysOf 3 1 b) := sndQ_cw cl_11 (by decide) hb1 mt_M_daysOf m_1458 m_1455 m_1457 ms_46 m_2 ⟨rfl, by decide, by decide, by decide +kernel⟩ qF qL hd
theorem cs_RX12_231 {cc : ByteArray} {nL : Nat} {ini : Bool} {pcs : List Nat} {rF rL pc b : Nat} (hb1 : pcs[b]? = some (pc + 3)) (qF : 1 ≤ rF) (qL : 21 ≤ rL) (hd : decode cc pc = .ok (.invokestatic 231, 3)) : sndQ mtab RX12 cc nL ini pcs rF rL pc (t_cs kJ_min 2 1 b) := sndQ_cs hb1 mt_J_min m_125 m_1463 m_124 m_4 ⟨by decide, by decide, by decide +kernel⟩ qF qL hd
theorem cs_RX12_236 {cc : ByteArray} {nL : Nat} {ini : Bool} {pcs : List Nat} {rF rL pc b : Nat} (hb1 : pcs[b]? = some (pc + 3)) (qF : 3 ≤ rF) (qL : 77 ≤ rL) (hd : decode cc pc = .ok (.invokevirtual 236, 3)) : sndQ mtab RX12 cc nL ini pcs rF rL pc (t_cv 11 kM_dated 2 1 b) := sndQ_cv cl_11 (by decide) hb1 mt_M_dated m_1467 m_1464 m_1466 ms_48 m_2 ⟨rfl, by decide, by decide, by decide +kernel⟩ qF qL hd
theorem gf_RX12_42 {cc : ByteArray} {nL : Nat} {ini : Bool} {pc : Nat} (hd : decode cc pc = .ok (.getfield 42, 3)) : snd RX12 cc nL ini pc (pc + 3) (s_get 11 15 102) := snd_getfield (C := RX12) (T := TX12) (N := 71) (ci := 11) (kf := 15) (kd := 102) (index := 42) (f := 15) cl_11 in_11 (by decide) nf_11 (by decide) rfl rfl rfl m_1176 hd
theorem gf_RX12_45 {cc : ByteArray} {nL : Nat} {ini : Bool} {pc : Nat} (hd : decode cc pc = .ok (.getfield 45, 3)) : snd RX12 cc nL ini pc (pc + 3) (s_get 11 16 102) := snd_getfield (C := RX12) (T := TX12) (N := 71) (ci := 11) (kf := 16) (kd := 102) (index := 45) (f := 16) cl_11 in_11 (by decide) nf_11 (by decide) rfl rfl rfl m_1177 hd
theorem gf_RX12_48 {cc : ByteArray} {nL : Nat} {ini : Bool} {pc : Nat} (hd : decode cc pc = .ok (.getfield 48, 3)) : snd RX12 cc nL ini pc (pc + 3) (s_get 11 17 102) := snd_getfield (C := RX12) (T := TX12) (N := 71) (ci := 11) (kf := 17) (kd := 102) (index := 48) (f := 17) cl_11 in_11 (by decide) nf_11 (by decide) rfl rfl rfl m_1178 hd
theorem cs_RX12_239 {cc : ByteArray} {nL : Nat} {ini : Bool} {pcs : List Nat} {rF rL pc b : Nat} (hb1 : pcs[b]? = some (pc + 3)) (qF : 1 ≤ rF) (qL : 21 ≤ rL) (hd : decode cc pc = .ok (.invokestatic 239, 3)) : sndQ mtab RX12 cc nL ini pcs rF rL pc (t_cs kJ_max 2 1 b) := sndQ_cs hb1 mt_J_max m_429 m_1476 m_428 m_4 ⟨by decide, by decide, by decide +kernel⟩ qF qL hd
theorem gf_RX12_51 {cc : ByteArray} {nL : Nat} {ini : Bool} {pc : Nat} (hd : decode cc pc = .ok (.getfield 51, 3)) : snd RX12 cc nL ini pc (pc + 3) (s_get 11 18 102) := snd_getfield (C := RX12) (T := TX12) (N := 71) (ci := 11) (kf := 18) (kd := 102) (index := 51) (f := 18) cl_11 in_11 (by decide) nf_11 (by decide) rfl rfl rfl m_1179 hd
theorem cs_RX12_242 {cc : ByteArray} {nL : Nat} {ini : Bool} {pcs : List Nat} {rF rL pc b : Nat} (hb1 : pcs[b]? = some (pc + 3)) (qF : 5 ≤ rF) (qL : 118 ≤ rL) (hd : decode cc pc = .ok (.invokevirtual 242, 3)) : sndQ mtab RX12 cc nL ini pcs rF rL pc (t_cv 11 kM_readStep 1 0 b) := sndQ_cv cl_11 (by decide) hb1 mt_M_readStep m_1480 m_1477 m_1479 ms_51 m_2 ⟨rfl, by decide, by decide, by decide +kernel⟩ qF qL hd
theorem gf_RX12_60 {cc : ByteArray} {nL : Nat} {ini : Bool} {pc : Nat} (hd : decode cc pc = .ok (.getfield 60, 3)) : snd RX12 cc nL ini pc (pc + 3) (s_get 11 21 102) := snd_getfield (C := RX12) (T := TX12) (N := 71) (ci := 11) (kf := 21) (kd := 102) (index := 60) (f := 21) cl_11 in_11 (by decide) nf_11 (by decide) rfl rfl rfl m_1182 hd
theorem cs_RX12_245 {cc : ByteArray} {nL : Nat} {ini : Bool} {pcs : List Nat} {rF rL pc b : Nat} (hb1 : pcs[b]? = some (pc + 3)) (qF : 5 ≤ rF) (qL : 117 ≤ rL) (hd : decode cc pc = .ok (.invokevirtual 245, 3)) : sndQ mtab RX12 cc nL ini pcs rF rL pc (t_cv 11 kM_readLike 1 0 b) := sndQ_cv cl_11 (by decide) hb1 mt_M_readLike m_1484 m_1481 m_1483 ms_52 m_2 ⟨rfl, by decide, by decide, by decide +kernel⟩ qF qL hd
theorem gf_RX12_72 {cc : ByteArray} {nL : Nat} {ini : Bool} {pc : Nat} (hd : decode cc pc = .ok (.getfield 72, 3)) : snd RX12 cc nL ini pc (pc + 3) (s_get 11 25 102) := snd_getfield (C := RX12) (T := TX12) (N := 71) (ci := 11) (kf := 25) (kd := 102) (index := 72) (f := 25) cl_11 in_11 (by decide) nf_11 (by decide) rfl rfl rfl m_1186 hd
theorem cs_RX12_248 {cc : ByteArray} {nL : Nat} {ini : Bool} {pcs : List Nat} {rF rL pc b : Nat} (hb1 : pcs[b]? = some (pc + 3)) (qF : 5 ≤ rF) (qL : 118 ≤ rL) (hd : decode cc pc = .ok (.invokevirtual 248, 3)) : sndQ mtab RX12 cc nL ini pcs rF rL pc (t_cv 11 kM_readCost 2 0 b) := sndQ_cv cl_11 (by decide) hb1 mt_M_readCost m_1488 m_1485 m_1487 ms_53 m_2 ⟨rfl, by decide, by decide, by decide +kernel⟩ qF qL hd
theorem gf_RX12_54 {cc : ByteArray} {nL : Nat} {ini : Bool} {pc : Nat} (hd : decode cc pc = .ok (.getfield 54, 3)) : snd RX12 cc nL ini pc (pc + 3) (s_get 11 19 102) := snd_getfield (C := RX12) (T := TX12) (N := 71) (ci := 11) (kf := 19) (kd := 102) (index := 54) (f := 19) cl_11 in_11 (by decide) nf_11 (by decide) rfl rfl rfl m_1180 hd
theorem gf_RX12_57 {cc : ByteArray} {nL : Nat} {ini : Bool} {pc : Nat} (hd : decode cc pc = .ok (.getfield 57, 3)) : snd RX12 cc nL ini pc (pc + 3) (s_get 11 20 102) := snd_getfield (C := RX12) (T := TX12) (N := 71) (ci := 11) (kf := 20) (kd := 102) (index := 57) (f := 20) cl_11 in_11 (by decide) nf_11 (by decide) rfl rfl rfl m_1181 hd
theorem gf_RX12_63 {cc : ByteArray} {nL : Nat} {ini : Bool} {pc : Nat} (hd : decode cc pc = .ok (.getfield 63, 3)) : snd RX12 cc nL ini pc (pc + 3) (s_get 11 22 102) := snd_getfield (C := RX12) (T := TX12) (N := 71) (ci := 11) (kf := 22) (kd := 102) (index := 63) (f := 22) cl_11 in_11 (by decide) nf_11 (by decide) rfl rfl rfl m_1183 hd
theorem gf_RX12_66 {cc : ByteArray} {nL : Nat} {ini : Bool} {pc : Nat} (hd : decode cc pc = .ok (.getfield 66, 3)) : snd RX12 cc nL ini pc (pc + 3) (s_get 11 23 102) := snd_getfield (C := RX12) (T := TX12) (N := 71) (ci := 11) (kf := 23) (kd := 102) (index := 66) (f := 23) cl_11 in_11 (by decide) nf_11 (by decide) rfl rfl rfl m_1184 hd
theorem gf_RX12_69 {cc : ByteArray} {nL : Nat} {ini : Bool} {pc : Nat} (hd : decode cc pc = .ok (.getfield 69, 3)) : snd RX12 cc nL ini pc (pc + 3) (s_get 11 24 102) := snd_getfield (C := RX12) (T := TX12) (N := 71) (ci := 11) (kf := 24) (kd := 102) (index := 69) (f := 24) cl_11 in_11 (by decide) nf_11 (by decide) rfl rfl rfl m_1185 hd
theorem gf_RX12_251 {cc : ByteArray} {nL : Nat} {ini : Bool} {pc : Nat} (hd : decode cc pc = .ok (.getfield 251, 3)) : snd RX12 cc nL ini pc (pc + 3) (s_get 11 29 0) := snd_getfield (C := RX12) (T := TX12) (N := 71) (ci := 11) (kf := 29) (kd := 0) (index := 251) (f := 29) cl_11 in_11 (by decide) nf_11 (by decide) rfl rfl rfl m_1190 hd
theorem gf_RX12_75 {cc : ByteArray} {nL : Nat} {ini : Bool} {pc : Nat} (hd : decode cc pc = .ok (.getfield 75, 3)) : snd RX12 cc nL ini pc (pc + 3) (s_get 11 26 102) := snd_getfield (C := RX12) (T := TX12) (N := 71) (ci := 11) (kf := 26) (kd := 102) (index := 75) (f := 26) cl_11 in_11 (by decide) nf_11 (by decide) rfl rfl rfl m_1187 hd
theorem pf_RX12_251 {cc : ByteArray} {nL : Nat} {ini : Bool} {pc : Nat} (hd : decode cc pc = .ok (.putfield 251, 3)) : snd RX12 cc nL ini pc (pc + 3) (s_put 11 29 0) := snd_putfield (C := RX12) (T := TX12) (N := 71) (ci := 11) (kf := 29) (kd := 0) (index := 251) (f := 29) cl_11 in_11 (by decide) nf_11 (by decide) rfl rfl rfl tyX12_ok nmX12 rfl rfl m_1190 hd
theorem cs_RX12_254 {cc : ByteArray} {nL : Nat} {ini : Bool} {pcs : List Nat} {rF rL pc b : Nat} (hb1 : pcs[b]? = some (pc + 3)) (qF : 6 ≤ rF) (qL : 143 ≤ rL) (hd : decode cc pc = .ok (.invokevirtual 254, 3)) : sndQ mtab RX12 cc nL ini pcs rF rL pc (t_cv 11 kM_item 1 0 b) := sndQ_cv cl_11 (by decide) hb1 mt_M_item m_1475 m_1472 m_1474 ms_50 m_2 ⟨rfl, by decide, by decide, by decide +kernel⟩ qF qL hd
theorem cs_RX12_257 {cc : ByteArray} {nL : Nat} {ini : Bool} {pcs : List Nat} {rF rL pc b : Nat} (hb1 : pcs[b]? = some (pc + 3)) (qF : 7 ≤ rF) (qL : 171 ≤ rL) (hd : decode cc pc = .ok (.invokevirtual 257, 3)) : sndQ mtab RX12 cc nL ini pcs rF rL pc (t_cv 11 kM_readCalendar 1 1 b) := sndQ_cv cl_11 (by decide) hb1 mt_M_readCalendar m_1397 m_1394 m_1396 ms_33 m_2 ⟨rfl, by decide, by decide, by decide +kernel⟩ qF qL hd
theorem cs_RX12_261 {cc : ByteArray} {nL : Nat} {ini : Bool} {pcs : List Nat} {rF rL pc b : Nat} (hb1 : pcs[b]? = some (pc + 3)) (qF : 7 ≤ rF) (qL : 167 ≤ rL) (hd : decode cc pc = .ok (.invokevirtual 261, 3)) : sndQ mtab RX12 cc nL ini pcs rF rL pc (t_cv 11 kM_readHead 1 1 b) := sndQ_cv cl_11 (by decide) hb1 mt_M_readHead m_1471 m_1468 m_1470 ms_49 m_2 ⟨rfl, by decide, by decide, by decide +kernel⟩ qF qL hd
theorem cs_RX12_264 {cc : ByteArray} {nL : Nat} {ini : Bool} {pcs : List Nat} {rF rL pc b : Nat} (hb1 : pcs[b]? = some (pc + 3)) (qF : 6 ≤ rF) (qL : 145 ≤ rL) (hd : decode cc pc = .ok (.invokevirtual 264, 3)) : sndQ mtab RX12 cc nL ini pcs rF rL pc (t_cv 11 kM_readRow 1 1 b) := sndQ_cv cl_11 (by decide) hb1 mt_M_readRow m_1492 m_1489 m_1491 ms_54 m_2 ⟨rfl, by decide, by decide, by decide +kernel⟩ qF qL hd
theorem gf_RX12_268 {cc : ByteArray} {nL : Nat} {ini : Bool} {pc : Nat} (hd : decode cc pc = .ok (.getfield 268, 3)) : snd RX12 cc nL ini pc (pc + 3) (s_get 11 14 0) := snd_getfield (C := RX12) (T := TX12) (N := 71) (ci := 11) (kf := 14) (kd := 0) (index := 268) (f := 14) cl_11 in_11 (by decide) nf_11 (by decide) rfl rfl rfl m_1175 hd
theorem pf_RX12_268 {cc : ByteArray} {nL : Nat} {ini : Bool} {pc : Nat} (hd : decode cc pc = .ok (.putfield 268, 3)) : snd RX12 cc nL ini pc (pc + 3) (s_put 11 14 0) := snd_putfield (C := RX12) (T := TX12) (N := 71) (ci := 11) (kf := 14) (kd := 0) (index := 268) (f := 14) cl_11 in_11 (by decide) nf_11 (by decide) rfl rfl rfl tyX12_ok nmX12 rfl rfl m_1175 hd
theorem cs_RX12_271 {cc : ByteArray} {nL : Nat} {ini : Bool} {pcs : List Nat} {rF rL pc b : Nat} (hb1 : pcs[b]? = some (pc + 3)) (qF : 7 ≤ rF) (qL : 167 ≤ rL) (hd : decode cc pc = .ok (.invokevirtual 271, 3)) : sndQ mtab RX12 cc nL ini pcs rF rL pc (t_cv 11 kM_takeRow 0 1 b) := sndQ_cv cl_11 (by decide) hb1 mt_M_takeRow m_1504 m_1501 m_1503 ms_56 m_2 ⟨rfl, by decide, by decide, by decide +kernel⟩ qF qL hd
theorem gf_RX12_274 {cc : ByteArray} {nL : Nat} {ini : Bool} {pc : Nat} (hd : decode cc pc = .ok (.getfield 274, 3)) : snd RX12 cc nL ini pc (pc + 3) (s_get 11 28 0) := snd_getfield (C := RX12) (T := TX12) (N := 71) (ci := 11) (kf := 28) (kd := 0) (index := 274) (f := 28) cl_11 in_11 (by decide) nf_11 (by decide) rfl rfl rfl m_1189 hd
theorem gf_RX12_78 {cc : ByteArray} {nL : Nat} {ini : Bool} {pc : Nat} (hd : decode cc pc = .ok (.getfield 78, 3)) : snd RX12 cc nL ini pc (pc + 3) (s_get 11 27 102) := snd_getfield (C := RX12) (T := TX12) (N := 71) (ci := 11) (kf := 27) (kd := 102) (index := 78) (f := 27) cl_11 in_11 (by decide) nf_11 (by decide) rfl rfl rfl m_1188 hd
theorem cs_RX12_277 {cc : ByteArray} {nL : Nat} {ini : Bool} {pcs : List Nat} {rF rL pc b : Nat} (hb1 : pcs[b]? = some (pc + 3)) (qF : 4 ≤ rF) (qL : 105 ≤ rL) (hd : decode cc pc = .ok (.invokevirtual 277, 3)) : sndQ mtab RX12 cc nL ini pcs rF rL pc (t_cv 11 kM_spread 1 0 b) := sndQ_cv cl_11 (by decide) hb1 mt_M_spread m_1508 m_1505 m_1507 ms_57 m_2 ⟨rfl, by decide, by decide, by decide +kernel⟩ qF qL hd
theorem pf_RX12_274 {cc : ByteArray} {nL : Nat} {ini : Bool} {pc : Nat} (hd : decode cc pc = .ok (.putfield 274, 3)) : snd RX12 cc nL ini pc (pc + 3) (s_put 11 28 0) := snd_putfield (C := RX12) (T := TX12) (N := 71) (ci := 11) (kf := 28) (kd := 0) (index := 274) (f := 28) cl_11 in_11 (by decide) nf_11 (by decide) rfl rfl rfl tyX12_ok nmX12 rfl rfl m_1189 hd
theorem cs_RX12_280 {cc : ByteArray} {nL : Nat} {ini : Bool} {pcs : List Nat} {rF rL pc b : Nat} (hb1 : pcs[b]? = some (pc + 3)) (qF : 2 ≤ rF) (qL : 45 ≤ rL) (hd : decode cc pc = .ok (.invokevirtual 280, 3)) : sndQ mtab RX12 cc nL ini pcs rF rL pc (t_cv 11 kM_isCalendar 1 1 b) := sndQ_cv cl_11 (by decide) hb1 mt_M_isCalendar m_1545 m_1542 m_1544 ms_64 m_2 ⟨rfl, by decide, by decide, by decide +kernel⟩ qF qL hd
theorem cs_RX12_283 {cc : ByteArray} {nL : Nat} {ini : Bool} {pcs : List Nat} {rF rL pc b : Nat} (hb1 : pcs[b]? = some (pc + 3)) (qF : 3 ≤ rF) (qL : 76 ≤ rL) (hd : decode cc pc = .ok (.invokevirtual 283, 3)) : sndQ mtab RX12 cc nL ini pcs rF rL pc (t_cv 11 kM_stretchOf 4 1 b) := sndQ_cv cl_11 (by decide) hb1 mt_M_stretchOf m_1541 m_1538 m_1540 ms_63 m_2 ⟨rfl, by decide, by decide, by decide +kernel⟩ qF qL hd
theorem cs_RX12_287 {cc : ByteArray} {nL : Nat} {ini : Bool} {pcs : List Nat} {rF rL pc b : Nat} (hb1 : pcs[b]? = some (pc + 3)) (qF : 4 ≤ rF) (qL : 102 ≤ rL) (hd : decode cc pc = .ok (.invokevirtual 287, 3)) : sndQ mtab RX12 cc nL ini pcs rF rL pc (t_cv 11 kM_isDate 4 1 b) := sndQ_cv cl_11 (by decide) hb1 mt_M_isDate m_1537 m_1534 m_1536 ms_62 m_2 ⟨rfl, by decide, by decide, by decide +kernel⟩ qF qL hd
theorem pf_RX12_156 {cc : ByteArray} {nL : Nat} {ini : Bool} {pc : Nat} (hd : decode cc pc = .ok (.putfield 156, 3)) : snd RX12 cc nL ini pc (pc + 3) (s_put 11 0 0) := snd_putfield (C := RX12) (T := TX12) (N := 71) (ci := 11) (kf := 0) (kd := 0) (index := 156) (f := 0) cl_11 in_11 (by decide) nf_11 (by decide) rfl rfl rfl tyX12_ok nmX12 rfl rfl m_1161 hd
theorem cs_RX12_291 {cc : ByteArray} {nL : Nat} {ini : Bool} {pcs : List Nat} {rF rL pc b : Nat} (hb1 : pcs[b]? = some (pc + 3)) (qF : 4 ≤ rF) (qL : 104 ≤ rL) (hd : decode cc pc = .ok (.invokevirtual 291, 3)) : sndQ mtab RX12 cc nL ini pcs rF rL pc (t_cv 11 kM_dayOf 4 1 b) := sndQ_cv cl_11 (by decide) hb1 mt_M_dayOf m_1549 m_1546 m_1548 ms_65 m_2 ⟨rfl, by decide, by decide, by decide +kernel⟩ qF qL hd
theorem cs_RX12_294 {cc : ByteArray} {nL : Nat} {ini : Bool} {pcs : List Nat} {rF rL pc b : Nat} (hb1 : pcs[b]? = some (pc + 3)) (qF : 4 ≤ rF) (qL : 104 ≤ rL) (hd : decode cc pc = .ok (.invokevirtual 294, 3)) : sndQ mtab RX12 cc nL ini pcs rF rL pc (t_cv 11 kM_dateOf 2 1 b) := sndQ_cv cl_11 (by decide) hb1 mt_M_dateOf m_1557 m_1554 m_1556 ms_66 m_2 ⟨rfl, by decide, by decide, by decide +kernel⟩ qF qL hd
theorem cs_RX12_297 {cc : ByteArray} {nL : Nat} {ini : Bool} {pcs : List Nat} {rF rL pc b : Nat} (hb1 : pcs[b]? = some (pc + 3)) (qF : 1 ≤ rF) (qL : 21 ≤ rL) (hd : decode cc pc = .ok (.invokestatic 297, 3)) : sndQ mtab RX12 cc nL ini pcs rF rL pc (t_cs kM_partOf 2 1 b) := sndQ_cs hb1 mt_M_partOf m_1560 m_1558 m_1559 m_2 ⟨by decide, by decide, by decide +kernel⟩ qF qL hd
theorem cs_RX12_300 {cc : ByteArray} {nL : Nat} {ini : Bool} {pcs : List Nat} {rF rL pc b : Nat} (hb1 : pcs[b]? = some (pc + 3)) (qF : 5 ≤ rF) (qL : 130 ≤ rL) (hd : decode cc pc = .ok (.invokevirtual 300, 3)) : sndQ mtab RX12 cc nL ini pcs rF rL pc (t_cv 11 kM_date 3 1 b) := sndQ_cv cl_11 (by decide) hb1 mt_M_date m_1553 m_1565 m_1551 m_1552 m_2 ⟨rfl, by decide, by decide, by decide +kernel⟩ qF qL hd
theorem cs_RX12_303 {cc : ByteArray} {nL : Nat} {ini : Bool} {pcs : List Nat} {rF rL pc b : Nat} (hb1 : pcs[b]? = some (pc + 3)) (qF : 5 ≤ rF) (qL : 130 ≤ rL) (hd : decode cc pc = .ok (.invokevirtual 303, 3)) : sndQ mtab RX12 cc nL ini pcs rF rL pc (t_cv 11 kM_kindOf 2 1 b) := sndQ_cv cl_11 (by decide) hb1 mt_M_kindOf m_1577 m_1574 m_1576 ms_67 m_2 ⟨rfl, by decide, by decide, by decide +kernel⟩ qF qL hd
theorem gf_RX12_92 {cc : ByteArray} {nL : Nat} {ini : Bool} {pc : Nat} (hd : decode cc pc = .ok (.getfield 92, 3)) : snd RX12 cc nL ini pc (pc + 3) (s_get 11 33 104) := snd_getfield (C := RX12) (T := TX12) (N := 71) (ci := 11) (kf := 33) (kd := 104) (index := 92) (f := 33) cl_11 in_11 (by decide) nf_11 (by decide) rfl rfl rfl m_1194 hd
theorem pf_RX12_309 {cc : ByteArray} {nL : Nat} {ini : Bool} {pc : Nat} (hd : decode cc pc = .ok (.putfield 309, 3)) : snd RX12 cc nL ini pc (pc + 3) (s_put 11 35 0) := snd_putfield (C := RX12) (T := TX12) (N := 71) (ci := 11) (kf := 35) (kd := 0) (index := 309) (f := 35) cl_11 in_11 (by decide) nf_11 (by decide) rfl rfl rfl tyX12_ok nmX12 rfl rfl m_1196 hd
theorem gf_RX12_309 {cc : ByteArray} {nL : Nat} {ini : Bool} {pc : Nat} (hd : decode cc pc = .ok (.getfield 309, 3)) : snd RX12 cc nL ini pc (pc + 3) (s_get 11 35 0) := snd_getfield (C := RX12) (T := TX12) (N := 71) (ci := 11) (kf := 35) (kd := 0) (index := 309) (f := 35) cl_11 in_11 (by decide) nf_11 (by decide) rfl rfl rfl m_1196 hd
theorem gf_RX12_306 {cc : ByteArray} {nL : Nat} {ini : Bool} {pc : Nat} (hd : decode cc pc = .ok (.getfield 306, 3)) : snd RX12 cc nL ini pc (pc + 3) (s_get 11 34 0) := snd_getfield (C := RX12) (T := TX12) (N := 71) (ci := 11) (kf := 34) (kd := 0) (index := 306) (f := 34) cl_11 in_11 (by decide) nf_11 (by decide) rfl rfl rfl m_1195 hd
theorem gf_RX12_89 {cc : ByteArray} {nL : Nat} {ini : Bool} {pc : Nat} (hd : decode cc pc = .ok (.getfield 89, 3)) : snd RX12 cc nL ini pc (pc + 3) (s_get 11 32 102) := snd_getfield (C := RX12) (T := TX12) (N := 71) (ci := 11) (kf := 32) (kd := 102) (index := 89) (f := 32) cl_11 in_11 (by decide) nf_11 (by decide) rfl rfl rfl m_1193 hd
theorem pf_RX12_306 {cc : ByteArray} {nL : Nat} {ini : Bool} {pc : Nat} (hd : decode cc pc = .ok (.putfield 306, 3)) : snd RX12 cc nL ini pc (pc + 3) (s_put 11 34 0) := snd_putfield (C := RX12) (T := TX12) (N := 71) (ci := 11) (kf := 34) (kd := 0) (index := 306) (f := 34) cl_11 in_11 (by decide) nf_11 (by decide) rfl rfl rfl tyX12_ok nmX12 rfl rfl m_1195 hd
theorem cs_RX12_312 {cc : ByteArray} {nL : Nat} {ini : Bool} {pcs : List Nat} {rF rL pc b : Nat} (hb1 : pcs[b]? = some (pc + 3)) (qF : 2 ≤ rF) (qL : 50 ≤ rL) (hd : decode cc pc = .ok (.invokevirtual 312, 3)) : sndQ mtab RX12 cc nL ini pcs rF rL pc (t_cv 11 kM_touch 4 0 b) := sndQ_cv cl_11 (by decide) hb1 mt_M_touch m_1525 m_1522 m_1524 ms_61 m_2 ⟨rfl, by decide, by decide, by decide +kernel⟩ qF qL hd
theorem gf_RX12_82 {cc : ByteArray} {nL : Nat} {ini : Bool} {pc : Nat} (hd : decode cc pc = .ok (.getfield 82, 3)) : snd RX12 cc nL ini pc (pc + 3) (s_get 11 30 103) := snd_getfield (C := RX12) (T := TX12) (N := 71) (ci := 11) (kf := 30) (kd := 103) (index := 82) (f := 30) cl_11 in_11 (by decide) nf_11 (by decide) rfl rfl rfl m_1191 hd
theorem cs_RX12_318 {cc : ByteArray} {nL : Nat} {ini : Bool} {pcs : List Nat} {rF rL pc b : Nat} (hb1 : pcs[b]? = some (pc + 3)) (qF : 1 ≤ rF) (qL : 21 ≤ rL) (hd : decode cc pc = .ok (.invokevirtual 318, 3)) : sndQ mtab RX12 cc nL ini pcs rF rL pc (t_cv 11 kM_push 1 0 b) := sndQ_cv cl_11 (by decide) hb1 mt_M_push m_1517 m_1514 m_1516 ms_59 m_2 ⟨rfl, by decide, by decide, by decide +kernel⟩ qF qL hd
theorem cs_RX12_323 {cc : ByteArray} {nL : Nat} {ini : Bool} {pcs : List Nat} {rF rL pc b : Nat} (hb1 : pcs[b]? = some (pc + 3)) (qF : 2 ≤ rF) (qL : 47 ≤ rL) (hd : decode cc pc = .ok (.invokevirtual 323, 3)) : sndQ mtab RX12 cc nL ini pcs rF rL pc (t_cv 11 kM_knowsYear 2 1 b) := sndQ_cv cl_11 (by decide) hb1 mt_M_knowsYear m_1513 m_1510 m_1512 ms_58 m_2 ⟨rfl, by decide, by decide, by decide +kernel⟩ qF qL hd
theorem cs_RX12_326 {cc : ByteArray} {nL : Nat} {ini : Bool} {pcs : List Nat} {rF rL pc b : Nat} (hb1 : pcs[b]? = some (pc + 3)) (qF : 3 ≤ rF) (qL : 76 ≤ rL) (hd : decode cc pc = .ok (.invokevirtual 326, 3)) : sndQ mtab RX12 cc nL ini pcs rF rL pc (t_cv 11 kM_flood 2 0 b) := sndQ_cv cl_11 (by decide) hb1 mt_M_flood m_1521 m_1518 m_1520 ms_60 m_2 ⟨rfl, by decide, by decide, by decide +kernel⟩ qF qL hd
theorem gf_RX12_86 {cc : ByteArray} {nL : Nat} {ini : Bool} {pc : Nat} (hd : decode cc pc = .ok (.getfield 86, 3)) : snd RX12 cc nL ini pc (pc + 3) (s_get 11 31 103) := snd_getfield (C := RX12) (T := TX12) (N := 71) (ci := 11) (kf := 31) (kd := 103) (index := 86) (f := 31) cl_11 in_11 (by decide) nf_11 (by decide) rfl rfl rfl m_1192 hd
theorem cs_RX12_329 {cc : ByteArray} {nL : Nat} {ini : Bool} {pcs : List Nat} {rF rL pc b : Nat} (hb1 : pcs[b]? = some (pc + 3)) (qF : 1 ≤ rF) (qL : 23 ≤ rL) (hd : decode cc pc = .ok (.invokestatic 329, 3)) : sndQ mtab RX12 cc nL ini pcs rF rL pc (t_cs kJ_minL 2 2 b) := sndQ_cs hb1 mt_J_minL m_1529 m_1527 m_1528 m_4 ⟨by decide, by decide, by decide +kernel⟩ qF qL hd
theorem pf_RX12_332 {cc : ByteArray} {nL : Nat} {ini : Bool} {pc : Nat} (hd : decode cc pc = .ok (.putfield 332, 3)) : snd RX12 cc nL ini pc (pc + 3) (s_put 11 38 0) := snd_putfield (C := RX12) (T := TX12) (N := 71) (ci := 11) (kf := 38) (kd := 0) (index := 332) (f := 38) cl_11 in_11 (by decide) nf_11 (by decide) rfl rfl rfl tyX12_ok nmX12 rfl rfl m_1199 hd
theorem gf_RX12_332 {cc : ByteArray} {nL : Nat} {ini : Bool} {pc : Nat} (hd : decode cc pc = .ok (.getfield 332, 3)) : snd RX12 cc nL ini pc (pc + 3) (s_get 11 38 0) := snd_getfield (C := RX12) (T := TX12) (N := 71) (ci := 11) (kf := 38) (kd := 0) (index := 332) (f := 38) cl_11 in_11 (by decide) nf_11 (by decide) rfl rfl rfl m_1199 hd
theorem gf_RX12_95 {cc : ByteArray} {nL : Nat} {ini : Bool} {pc : Nat} (hd : decode cc pc = .ok (.getfield 95, 3)) : snd RX12 cc nL ini pc (pc + 3) (s_get 11 36 102) := snd_getfield (C := RX12) (T := TX12) (N := 71) (ci := 11) (kf := 36) (kd := 102) (index := 95) (f := 36) cl_11 in_11 (by decide) nf_11 (by decide) rfl rfl rfl m_1197 hd
theorem cs_RX12_335 {cc : ByteArray} {nL : Nat} {ini : Bool} {pcs : List Nat} {rF rL pc b : Nat} (hb1 : pcs[b]? = some (pc + 3)) (qF : 2 ≤ rF) (qL : 52 ≤ rL) (hd : decode cc pc = .ok (.invokevirtual 335, 3)) : sndQ mtab RX12 cc nL ini pcs rF rL pc (t_cv 11 kM_nextYear 2 1 b) := sndQ_cv cl_11 (by decide) hb1 mt_M_nextYear m_1593 m_1590 m_1592 ms_70 m_2 ⟨rfl, by decide, by decide, by decide +kernel⟩ qF qL hd
theorem pf_RX12_338 {cc : ByteArray} {nL : Nat} {ini : Bool} {pc : Nat} (hd : decode cc pc = .ok (.putfield 338, 3)) : snd RX12 cc nL ini pc (pc + 3) (s_put 11 39 0) := snd_putfield (C := RX12) (T := TX12) (N := 71) (ci := 11) (kf := 39) (kd := 0) (index := 338) (f := 39) cl_11 in_11 (by decide) nf_11 (by decide) rfl rfl rfl tyX12_ok nmX12 rfl rfl m_1200 hd
theorem gf_RX12_338 {cc : ByteArray} {nL : Nat} {ini : Bool} {pc : Nat} (hd : decode cc pc = .ok (.getfield 338, 3)) : snd RX12 cc nL ini pc (pc + 3) (s_get 11 39 0) := snd_getfield (C := RX12) (T := TX12) (N := 71) (ci := 11) (kf := 39) (kd := 0) (index := 338) (f := 39) cl_11 in_11 (by decide) nf_11 (by decide) rfl rfl rfl m_1200 hd
theorem gf_RX12_98 {cc : ByteArray} {nL : Nat} {ini : Bool} {pc : Nat} (hd : decode cc pc = .ok (.getfield 98, 3)) : snd RX12 cc nL ini pc (pc + 3) (s_get 11 37 102) := snd_getfield (C := RX12) (T := TX12) (N := 71) (ci := 11) (kf := 37) (kd := 102) (index := 98) (f := 37) cl_11 in_11 (by decide) nf_11 (by decide) rfl rfl rfl m_1198 hd
theorem cs_RX12_341 {cc : ByteArray} {nL : Nat} {ini : Bool} {pcs : List Nat} {rF rL pc b : Nat} (hb1 : pcs[b]? = some (pc + 3)) (qF : 1 ≤ rF) (qL : 27 ≤ rL) (hd : decode cc pc = .ok (.invokevirtual 341, 3)) : sndQ mtab RX12 cc nL ini pcs rF rL pc (t_cv 11 kM_nextMonth 2 1 b) := sndQ_cv cl_11 (by decide) hb1 mt_M_nextMonth m_1597 m_1594 m_1596 ms_71 m_2 ⟨rfl, by decide, by decide, by decide +kernel⟩ qF qL hd
theorem cs_RX12_344 {cc : ByteArray} {nL : Nat} {ini : Bool} {pcs : List Nat} {rF rL pc b : Nat} (hb1 : pcs[b]? = some (pc + 3)) (qF : 2 ≤ rF) (qL : 45 ≤ rL) (hd : decode cc pc = .ok (.invokevirtual 344, 3)) : sndQ mtab RX12 cc nL ini pcs rF rL pc (t_cv 11 kM_isHead 1 1 b) := sndQ_cv cl_11 (by decide) hb1 mt_M_isHead m_1585 m_1582 m_1584 ms_68 m_2 ⟨rfl, by decide, by decide, by decide +kernel⟩ qF qL hd
theorem cs_RX12_347 {cc : ByteArray} {nL : Nat} {ini : Bool} {pcs : List Nat} {rF rL pc b : Nat} (hb1 : pcs[b]? = some (pc + 3)) (qF : 5 ≤ rF) (qL : 129 ≤ rL) (hd : decode cc pc = .ok (.invokevirtual 347, 3)) : sndQ mtab RX12 cc nL ini pcs rF rL pc (t_cv 11 kM_goes 4 1 b) := sndQ_cv cl_11 (by decide) hb1 mt_M_goes m_1589 m_1586 m_1588 ms_69 m_2 ⟨rfl, by decide, by decide, by decide +kernel⟩ qF qL hd
theorem pf_RX12_350 {cc : ByteArray} {nL : Nat} {ini : Bool} {pc : Nat} (hd : decode cc pc = .ok (.putfield 350, 3)) : snd RX12 cc nL ini pc (pc + 3) (s_put 11 40 0) := snd_putfield (C := RX12) (T := TX12) (N := 71) (ci := 11) (kf := 40) (kd := 0) (index := 350) (f := 40) cl_11 in_11 (by decide) nf_11 (by decide) rfl rfl rfl tyX12_ok nmX12 rfl rfl m_1201 hd
theorem pf_RX12_353 {cc : ByteArray} {nL : Nat} {ini : Bool} {pc : Nat} (hd : decode cc pc = .ok (.putfield 353, 3)) : snd RX12 cc nL ini pc (pc + 3) (s_put 11 41 0) := snd_putfield (C := RX12) (T := TX12) (N := 71) (ci := 11) (kf := 41) (kd := 0) (index := 353) (f := 41) cl_11 in_11 (by decide) nf_11 (by decide) rfl rfl rfl tyX12_ok nmX12 rfl rfl m_1202 hd
theorem cs_RX12_356 {cc : ByteArray} {nL : Nat} {ini : Bool} {pcs : List Nat} {rF rL pc b : Nat} (hb1 : pcs[b]? = some (pc + 3)) (qF : 6 ≤ rF) (qL : 158 ≤ rL) (hd : decode cc pc = .ok (.invokevirtual 356, 3)) : sndQ mtab RX12 cc nL ini pcs rF rL pc (t_cv 11 kM_answer 5 1 b) := sndQ_cv cl_11 (by decide) hb1 mt_M_answer m_1605 m_1602 m_1604 ms_72 m_2 ⟨rfl, by decide, by decide, by decide +kernel⟩ qF qL hd
theorem gf_RX12_350 {cc : ByteArray} {nL : Nat} {ini : Bool} {pc : Nat} (hd : decode cc pc = .ok (.getfield 350, 3)) : snd RX12 cc nL ini pc (pc + 3) (s_get 11 40 0) := snd_getfield (C := RX12) (T := TX12) (N := 71) (ci := 11) (kf := 40) (kd := 0) (index := 350) (f := 40) cl_11 in_11 (by decide) nf_11 (by decide) rfl rfl rfl m_1201 hd
theorem gf_RX12_353 {cc : ByteArray} {nL : Nat} {ini : Bool} {pc : Nat} (hd : decode cc pc = .ok (.getfield 353, 3)) : snd RX12 cc nL ini pc (pc + 3) (s_get 11 41 0) := snd_getfield (C := RX12) (T := TX12) (N := 71) (ci := 11) (kf := 41) (kd := 0) (index := 353) (f := 41) cl_11 in_11 (by decide) nf_11 (by decide) rfl rfl rfl m_1202 hd
theorem cs_RX12_360 {cc : ByteArray} {nL : Nat} {ini : Bool} {pcs : List Nat} {rF rL pc b : Nat} (hb1 : pcs[b]? = some (pc + 3)) (qF : 1 ≤ rF) (qL : 21 ≤ rL) (hd : decode cc pc = .ok (.invokestatic 360, 3)) : sndQ mtab RX12 cc nL ini pcs rF rL pc (t_cs kM_round 1 1 b) := sndQ_cs hb1 mt_M_round m_1608 m_1606 m_1607 m_2 ⟨by decide, by decide, by decide +kernel⟩ qF qL hd
theorem cs_RX12_363 {cc : ByteArray} {nL : Nat} {ini : Bool} {pcs : List Nat} {rF rL pc b : Nat} (hb1 : pcs[b]? = some (pc + 3)) (qF : 6 ≤ rF) (qL : 156 ≤ rL) (hd : decode cc pc = .ok (.invokevirtual 363, 3)) : sndQ mtab RX12 cc nL ini pcs rF rL pc (t_cv 11 kM_falseStep 1 1 b) := sndQ_cv cl_11 (by decide) hb1 mt_M_falseStep m_1612 m_1609 m_1611 ms_73 m_2 ⟨rfl, by decide, by decide, by decide +kernel⟩ qF qL hd
theorem gf_RX12_366 {cc : ByteArray} {nL : Nat} {ini : Bool} {pc : Nat} (hd : decode cc pc = .ok (.getfield 366, 3)) : snd RX12 cc nL ini pc (pc + 3) (s_get 11 49 0) := snd_getfield (C := RX12) (T := TX12) (N := 71) (ci := 11) (kf := 49) (kd := 0) (index := 366) (f := 49) cl_11 in_11 (by decide) nf_11 (by decide) rfl rfl rfl m_1210 hd
theorem gf_RX12_101 {cc : ByteArray} {nL : Nat} {ini : Bool} {pc : Nat} (hd : decode cc pc = .ok (.getfield 101, 3)) : snd RX12 cc nL ini pc (pc + 3) (s_get 11 42 102) := snd_getfield (C := RX12) (T := TX12) (N := 71) (ci := 11) (kf := 42) (kd := 102) (index := 101) (f := 42) cl_11 in_11 (by decide) nf_11 (by decide) rfl rfl rfl m_1203 hd
theorem pf_RX12_366 {cc : ByteArray} {nL : Nat} {ini : Bool} {pc : Nat} (hd : decode cc pc = .ok (.putfield 366, 3)) : snd RX12 cc nL ini pc (pc + 3) (s_put 11 49 0) := snd_putfield (C := RX12) (T := TX12) (N := 71) (ci := 11) (kf := 49) (kd := 0) (index := 366) (f := 49) cl_11 in_11 (by decide) nf_11 (by decide) rfl rfl rfl tyX12_ok nmX12 rfl rfl m_1210 hd
theorem gf_RX12_119 {cc : ByteArray} {nL : Nat} {ini : Bool} {pc : Nat} (hd : decode cc pc = .ok (.getfield 119, 3)) : snd RX12 cc nL ini pc (pc + 3) (s_get 11 48 102) := snd_getfield (C := RX12) (T := TX12) (N := 71) (ci := 11) (kf := 48) (kd := 102) (index := 119) (f := 48) cl_11 in_11 (by decide) nf_11 (by decide) rfl rfl rfl m_1209 hd
theorem gf_RX12_116 {cc : ByteArray} {nL : Nat} {ini : Bool} {pc : Nat} (hd : decode cc pc = .ok (.getfield 116, 3)) : snd RX12 cc nL ini pc (pc + 3) (s_get 11 47 102) := snd_getfield (C := RX12) (T := TX12) (N := 71) (ci := 11) (kf := 47) (kd := 102) (index := 116) (f := 47) cl_11 in_11 (by decide) nf_11 (by decide) rfl rfl rfl m_1208 hd
theorem gf_RX12_113 {cc : ByteArray} {nL : Nat} {ini : Bool} {pc : Nat} (hd : decode cc pc = .ok (.getfield 113, 3)) : snd RX12 cc nL ini pc (pc + 3) (s_get 11 46 102) := snd_getfield (C := RX12) (T := TX12) (N := 71) (ci := 11) (kf := 46) (kd := 102) (index := 113) (f := 46) cl_11 in_11 (by decide) nf_11 (by decide) rfl rfl rfl m_1207 hd
theorem gf_RX12_110 {cc : ByteArray} {nL : Nat} {ini : Bool} {pc : Nat} (hd : decode cc pc = .ok (.getfield 110, 3)) : snd RX12 cc nL ini pc (pc + 3) (s_get 11 45 102) := snd_getfield (C := RX12) (T := TX12) (N := 71) (ci := 11) (kf := 45) (kd := 102) (index := 110) (f := 45) cl_11 in_11 (by decide) nf_11 (by decide) rfl rfl rfl m_1206 hd
theorem gf_RX12_107 {cc : ByteArray} {nL : Nat} {ini : Bool} {pc : Nat} (hd : decode cc pc = .ok (.getfield 107, 3)) : snd RX12 cc nL ini pc (pc + 3) (s_get 11 44 102) := snd_getfield (C := RX12) (T := TX12) (N := 71) (ci := 11) (kf := 44) (kd := 102) (index := 107) (f := 44) cl_11 in_11 (by decide) nf_11 (by decide) rfl rfl rfl m_1205 hd
theorem gf_RX12_104 {cc : ByteArray} {nL : Nat} {ini : Bool} {pc : Nat} (hd : decode cc pc = .ok (.getfield 104, 3)) : snd RX12 cc nL ini pc (pc + 3) (s_get 11 43 102) := snd_getfield (C := RX12) (T := TX12) (N := 71) (ci := 11) (kf := 43) (kd := 102) (index := 104) (f := 43) cl_11 in_11 (by decide) nf_11 (by decide) rfl rfl rfl m_1204 hd
theorem cs_RX12_369 {cc : ByteArray} {nL : Nat} {ini : Bool} {pcs : List Nat} {rF rL pc b : Nat} (hb1 : pcs[b]? = some (pc + 3)) (qF : 5 ≤ rF) (qL : 127 ≤ rL) (hd : decode cc pc = .ok (.invokevirtual 369, 3)) : sndQ mtab RX12 cc nL ini pcs rF rL pc (t_cv 11 kM_askDay 1 1 b) := sndQ_cv cl_11 (by decide) hb1 mt_M_askDay m_1624 m_1621 m_1623 ms_74 m_2 ⟨rfl, by decide, by decide, by decide +kernel⟩ qF qL hd
theorem cs_RX12_372 {cc : ByteArray} {nL : Nat} {ini : Bool} {pcs : List Nat} {rF rL pc b : Nat} (hb1 : pcs[b]? = some (pc + 3)) (qF : 1 ≤ rF) (qL : 20 ≤ rL) (hd : decode cc pc = .ok (.invokestatic 372, 3)) : sndQ mtab RX12 cc nL ini pcs rF rL pc (t_cs kJ_abs 1 1 b) := sndQ_cs hb1 mt_J_abs m_960 m_1641 m_959 m_4 ⟨by decide, by decide, by decide +kernel⟩ qF qL hd
theorem cs_RX12_375 {cc : ByteArray} {nL : Nat} {ini : Bool} {pcs : List Nat} {rF rL pc b : Nat} (hb1 : pcs[b]? = some (pc + 3)) (qF : 7 ≤ rF) (qL : 183 ≤ rL) (hd : decode cc pc = .ok (.invokevirtual 375, 3)) : sndQ mtab RX12 cc nL ini pcs rF rL pc (t_cv 11 kM_isSo 3 1 b) := sndQ_cv cl_11 (by decide) hb1 mt_M_isSo m_1640 m_1637 m_1639 ms_77 m_2 ⟨rfl, by decide, by decide, by decide +kernel⟩ qF qL hd
theorem cs_RX12_378 {cc : ByteArray} {nL : Nat} {ini : Bool} {pcs : List Nat} {rF rL pc b : Nat} (hb1 : pcs[b]? = some (pc + 3)) (qF : 2 ≤ rF) (qL : 45 ≤ rL) (hd : decode cc pc = .ok (.invokevirtual 378, 3)) : sndQ mtab RX12 cc nL ini pcs rF rL pc (t_cv 11 kM_isSlack 1 1 b) := sndQ_cv cl_11 (by decide) hb1 mt_M_isSlack m_1632 m_1629 m_1631 ms_75 m_2 ⟨rfl, by decide, by decide, by decide +kernel⟩ qF qL hd
theorem cs_RX12_381 {cc : ByteArray} {nL : Nat} {ini : Bool} {pcs : List Nat} {rF rL pc b : Nat} (hb1 : pcs[b]? = some (pc + 3)) (qF : 8 ≤ rF) (qL : 209 ≤ rL) (hd : decode cc pc = .ok (.invokevirtual 381, 3)) : sndQ mtab RX12 cc nL ini pcs rF rL pc (t_cv 11 kM_soMany 2 1 b) := sndQ_cv cl_11 (by decide) hb1 mt_M_soMany m_1636 m_1633 m_1635 ms_76 m_2 ⟨rfl, by decide, by decide, by decide +kernel⟩ qF qL hd
theorem cs_RX12_384 {cc : ByteArray} {nL : Nat} {ini : Bool} {pcs : List Nat} {rF rL pc b : Nat} (hb1 : pcs[b]? = some (pc + 3)) (qF : 1 ≤ rF) (qL : 21 ≤ rL) (hd : decode cc pc = .ok (.invokestatic 384, 3)) : sndQ mtab RX12 cc nL ini pcs rF rL pc (t_cs kJ_compare 2 1 b) := sndQ_cs hb1 mt_J_compare m_862 m_1650 m_861 m_19 ⟨by decide, by decide, by decide +kernel⟩ qF qL hd
theorem gf_RX12_137 {cc : ByteArray} {nL : Nat} {ini : Bool} {pc : Nat} (hd : decode cc pc = .ok (.getfield 137, 3)) : snd RX12 cc nL ini pc (pc + 3) (s_get 11 56 0) := snd_getfield (C := RX12) (T := TX12) (N := 71) (ci := 11) (kf := 56) (kd := 0) (index := 137) (f := 56) cl_11 in_11 (by decide) nf_11 (by decide) rfl rfl rfl m_1217 hd
theorem cs_RX12_389 {cc : ByteArray} {nL : Nat} {ini : Bool} {pcs : List Nat} {rF rL pc b : Nat} (hb1 : pcs[b]? = some (pc + 3)) (qF : 1 ≤ rF) (qL : 21 ≤ rL) (hd : decode cc pc = .ok (.invokestatic 389, 3)) : sndQ mtab RX12 cc nL ini pcs rF rL pc (t_cs kM_mean 2 1 b) := sndQ_cs hb1 mt_M_mean m_1657 m_1655 m_1656 m_2 ⟨by decide, by decide, by decide +kernel⟩ qF qL hd
theorem gf_RX12_392 {cc : ByteArray} {nL : Nat} {ini : Bool} {pc : Nat} (hd : decode cc pc = .ok (.getfield 392, 3)) : snd RX12 cc nL ini pc (pc + 3) (s_get 11 54 0) := snd_getfield (C := RX12) (T := TX12) (N := 71) (ci := 11) (kf := 54) (kd := 0) (index := 392) (f := 54) cl_11 in_11 (by decide) nf_11 (by decide) rfl rfl rfl m_1215 hd
theorem pf_RX12_392 {cc : ByteArray} {nL : Nat} {ini : Bool} {pc : Nat} (hd : decode cc pc = .ok (.putfield 392, 3)) : snd RX12 cc nL ini pc (pc + 3) (s_put 11 54 0) := snd_putfield (C := RX12) (T := TX12) (N := 71) (ci := 11) (kf := 54) (kd := 0) (index := 392) (f := 54) cl_11 in_11 (by decide) nf_11 (by decide) rfl rfl rfl tyX12_ok nmX12 rfl rfl m_1215 hd
theorem gf_RX12_131 {cc : ByteArray} {nL : Nat} {ini : Bool} {pc : Nat} (hd : decode cc pc = .ok (.getfield 131, 3)) : snd RX12 cc nL ini pc (pc + 3) (s_get 11 53 102) := snd_getfield (C := RX12) (T := TX12) (N := 71) (ci := 11) (kf := 53) (kd := 102) (index := 131) (f := 53) cl_11 in_11 (by decide) nf_11 (by decide) rfl rfl rfl m_1214 hd
theorem gf_RX12_128 {cc : ByteArray} {nL : Nat} {ini : Bool} {pc : Nat} (hd : decode cc pc = .ok (.getfield 128, 3)) : snd RX12 cc nL ini pc (pc + 3) (s_get 11 52 102) := snd_getfield (C := RX12) (T := TX12) (N := 71) (ci := 11) (kf := 52) (kd := 102) (index := 128) (f := 52) cl_11 in_11 (by decide) nf_11 (by decide) rfl rfl rfl m_1213 hd
theorem gf_RX12_125 {cc : ByteArray} {nL : Nat} {ini : Bool} {pc : Nat} (hd : decode cc pc = .ok (.getfield 125, 3)) : snd RX12 cc nL ini pc (pc + 3) (s_get 11 51 102) := snd_getfield (C := RX12) (T := TX12) (N := 71) (ci := 11) (kf := 51) (kd := 102) (index := 125) (f := 51) cl_11 in_11 (by decide) nf_11 (by decide) rfl rfl rfl m_1212 hd
theorem gf_RX12_122 {cc : ByteArray} {nL : Nat} {ini : Bool} {pc : Nat} (hd : decode cc pc = .ok (.getfield 122, 3)) : snd RX12 cc nL ini pc (pc + 3) (s_get 11 50 102) := snd_getfield (C := RX12) (T := TX12) (N := 71) (ci := 11) (kf := 50) (kd := 102) (index := 122) (f := 50) cl_11 in_11 (by decide) nf_11 (by decide) rfl rfl rfl m_1211 hd
theorem cs_RX12_395 {cc : ByteArray} {nL : Nat} {ini : Bool} {pcs : List Nat} {rF rL pc b : Nat} (hb1 : pcs[b]? = some (pc + 3)) (qF : 7 ≤ rF) (qL : 190 ≤ rL) (hd : decode cc pc = .ok (.invokevirtual 395, 3)) : sndQ mtab RX12 cc nL ini pcs rF rL pc (t_cv 11 kM_areApart 6 1 b) := sndQ_cv cl_11 (by decide) hb1 mt_M_areApart m_1693 m_1690 m_1692 ms_80 m_2 ⟨rfl, by decide, by decide, by decide +kernel⟩ qF qL hd
theorem cs_RX12_399 {cc : ByteArray} {nL : Nat} {ini : Bool} {pcs : List Nat} {rF rL pc b : Nat} (hb1 : pcs[b]? = some (pc + 3)) (qF : 1 ≤ rF) (qL : 21 ≤ rL) (hd : decode cc pc = .ok (.invokevirtual 399, 3)) : sndQ mtab RX12 cc nL ini pcs rF rL pc (t_cv 11 kM_areHeads 1 1 b) := sndQ_cv cl_11 (by decide) hb1 mt_M_areHeads m_1685 m_1682 m_1684 ms_78 m_2 ⟨rfl, by decide, by decide, by decide +kernel⟩ qF qL hd
theorem cs_RX12_402 {cc : ByteArray} {nL : Nat} {ini : Bool} {pcs : List Nat} {rF rL pc b : Nat} (hb1 : pcs[b]? = some (pc + 3)) (qF : 8 ≤ rF) (qL : 218 ≤ rL) (hd : decode cc pc = .ok (.invokevirtual 402, 3)) : sndQ mtab RX12 cc nL ini pcs rF rL pc (t_cv 11 kM_partedBy 2 1 b) := sndQ_cv cl_11 (by decide) hb1 mt_M_partedBy m_1689 m_1686 m_1688 ms_79 m_2 ⟨rfl, by decide, by decide, by decide +kernel⟩ qF qL hd
theorem gf_RX12_134 {cc : ByteArray} {nL : Nat} {ini : Bool} {pc : Nat} (hd : decode cc pc = .ok (.getfield 134, 3)) : snd RX12 cc nL ini pc (pc + 3) (s_get 11 55 102) := snd_getfield (C := RX12) (T := TX12) (N := 71) (ci := 11) (kf := 55) (kd := 102) (index := 134) (f := 55) cl_11 in_11 (by decide) nf_11 (by decide) rfl rfl rfl m_1216 hd
theorem cs_RX12_406 {cc : ByteArray} {nL : Nat} {ini : Bool} {pcs : List Nat} {rF rL pc b : Nat} (hb1 : pcs[b]? = some (pc + 3)) (qF : 4 ≤ rF) (qL : 106 ≤ rL) (hd : decode cc pc = .ok (.invokevirtual 406, 3)) : sndQ mtab RX12 cc nL ini pcs rF rL pc (t_cv 11 kM_nearYears 4 0 b) := sndQ_cv cl_11 (by decide) hb1 mt_M_nearYears m_1709 m_1706 m_1708 ms_81 m_2 ⟨rfl, by decide, by decide, by decide +kernel⟩ qF qL hd
theorem cs_RX12_409 {cc : ByteArray} {nL : Nat} {ini : Bool} {pcs : List Nat} {rF rL pc b : Nat} (hb1 : pcs[b]? = some (pc + 3)) (qF : 1 ≤ rF) (qL : 20 ≤ rL) (hd : decode cc pc = .ok (.invokestatic 409, 3)) : sndQ mtab RX12 cc nL ini pcs rF rL pc (t_cs kJ_bitCount 1 1 b) := sndQ_cs hb1 mt_J_bitCount m_810 m_1711 m_809 m_19 ⟨by decide, by decide, by decide +kernel⟩ qF qL hd
theorem cs_RX12_412 {cc : ByteArray} {nL : Nat} {ini : Bool} {pcs : List Nat} {rF rL pc b : Nat} (hb1 : pcs[b]? = some (pc + 3)) (qF : 1 ≤ rF) (qL : 23 ≤ rL) (hd : decode cc pc = .ok (.invokevirtual 412, 3)) : sndQ mtab RX12 cc nL ini pcs rF rL pc (t_cv 11 kM_doAll 2 1 b) := sndQ_cv cl_11 (by decide) hb1 mt_M_doAll m_1715 m_1712 m_1714 ms_82 m_2 ⟨rfl, by decide, by decide, by decide +kernel⟩ qF qL hd
theorem pf_RX12_424 {cc : ByteArray} {nL : Nat} {ini : Bool} {pc : Nat} (hd : decode cc pc = .ok (.putfield 424, 3)) : snd RX12 cc nL ini pc (pc + 3) (s_put 11 60 0) := snd_putfield (C := RX12) (T := TX12) (N := 71) (ci := 11) (kf := 60) (kd := 0) (index := 424) (f := 60) cl_11 in_11 (by decide) nf_11 (by decide) rfl rfl rfl tyX12_ok nmX12 rfl rfl m_1221 hd
theorem pf_RX12_421 {cc : ByteArray} {nL : Nat} {ini : Bool} {pc : Nat} (hd : decode cc pc = .ok (.putfield 421, 3)) : snd RX12 cc nL ini pc (pc + 3) (s_put 11 59 0) := snd_putfield (C := RX12) (T := TX12) (N := 71) (ci := 11) (kf := 59) (kd := 0) (index := 421) (f := 59) cl_11 in_11 (by decide) nf_11 (by decide) rfl rfl rfl tyX12_ok nmX12 rfl rfl m_1220 hd
theorem pf_RX12_418 {cc : ByteArray} {nL : Nat} {ini : Bool} {pc : Nat} (hd : decode cc pc = .ok (.putfield 418, 3)) : snd RX12 cc nL ini pc (pc + 3) (s_put 11 58 0) := snd_putfield (C := RX12) (T := TX12) (N := 71) (ci := 11) (kf := 58) (kd := 0) (index := 418) (f := 58) cl_11 in_11 (by decide) nf_11 (by decide) rfl rfl rfl tyX12_ok nmX12 rfl rfl m_1219 hd
theorem pf_RX12_415 {cc : ByteArray} {nL : Nat} {ini : Bool} {pc : Nat} (hd : decode cc pc = .ok (.putfield 415, 3)) : snd RX12 cc nL ini pc (pc + 3) (s_put 11 57 0) := snd_putfield (C := RX12) (T := TX12) (N := 71) (ci := 11) (kf := 57) (kd := 0) (index := 415) (f := 57) cl_11 in_11 (by decide) nf_11 (by decide) rfl rfl rfl tyX12_ok nmX12 rfl rfl m_1218 hd
theorem gf_RX12_424 {cc : ByteArray} {nL : Nat} {ini : Bool} {pc : Nat} (hd : decode cc pc = .ok (.getfield 424, 3)) : snd RX12 cc nL ini pc (pc + 3) (s_get 11 60 0) := snd_getfield (C := RX12) (T := TX12) (N := 71) (ci := 11) (kf := 60) (kd := 0) (index := 424) (f := 60) cl_11 in_11 (by decide) nf_11 (by decide) rfl rfl rfl m_1221 hd
theorem gf_RX12_421 {cc : ByteArray} {nL : Nat} {ini : Bool} {pc : Nat} (hd : decode cc pc = .ok (.getfield 421, 3)) : snd RX12 cc nL ini pc (pc + 3) (s_get 11 59 0) := snd_getfield (C := RX12) (T := TX12) (N := 71) (ci := 11) (kf := 59) (kd := 0) (index := 421) (f := 59) cl_11 in_11 (by decide) nf_11 (by decide) rfl rfl rfl m_1220 hd
theorem gf_RX12_415 {cc : ByteArray} {nL : Nat} {ini : Bool} {pc : Nat} (hd : decode cc pc = .ok (.getfield 415, 3)) : snd RX12 cc nL ini pc (pc + 3) (s_get 11 57 0) := snd_getfield (C := RX12) (T := TX12) (N := 71) (ci := 11) (kf := 57) (kd := 0) (index := 415) (f := 57) cl_11 in_11 (by decide) nf_11 (by decide) rfl rfl rfl m_1218 hd
theorem gf_RX12_418 {cc : ByteArray} {nL : Nat} {ini : Bool} {pc : Nat} (hd : decode cc pc = .ok (.getfield 418, 3)) : snd RX12 cc nL ini pc (pc + 3) (s_get 11 58 0) := snd_getfield (C := RX12) (T := TX12) (N := 71) (ci := 11) (kf := 58) (kd := 0) (index := 418) (f := 58) cl_11 in_11 (by decide) nf_11 (by decide) rfl rfl rfl m_1219 hd
theorem cs_RX12_427 {cc : ByteArray} {nL : Nat} {ini : Bool} {pcs : List Nat} {rF rL pc b : Nat} (hb1 : pcs[b]? = some (pc + 3)) (qF : 5 ≤ rF) (qL : 131 ≤ rL) (hd : decode cc pc = .ok (.invokevirtual 427, 3)) : sndQ mtab RX12 cc nL ini pcs rF rL pc (t_cv 11 kM_firstFrom 2 1 b) := sndQ_cv cl_11 (by decide) hb1 mt_M_firstFrom m_1739 m_1736 m_1738 ms_83 m_2 ⟨rfl, by decide, by decide, by decide +kernel⟩ qF qL hd
theorem gf_RX12_430 {cc : ByteArray} {nL : Nat} {ini : Bool} {pc : Nat} (hd : decode cc pc = .ok (.getfield 430, 3)) : snd RX12 cc nL ini pc (pc + 3) (s_get 11 63 0) := snd_getfield (C := RX12) (T := TX12) (N := 71) (ci := 11) (kf := 63) (kd := 0) (index := 430) (f := 63) cl_11 in_11 (by decide) nf_11 (by decide) rfl rfl rfl m_1224 hd
theorem gf_RX12_141 {cc : ByteArray} {nL : Nat} {ini : Bool} {pc : Nat} (hd : decode cc pc = .ok (.getfield 141, 3)) : snd RX12 cc nL ini pc (pc + 3) (s_get 11 61 102) := snd_getfield (C := RX12) (T := TX12) (N := 71) (ci := 11) (kf := 61) (kd := 102) (index := 141) (f := 61) cl_11 in_11 (by decide) nf_11 (by decide) rfl rfl rfl m_1222 hd
theorem pf_RX12_430 {cc : ByteArray} {nL : Nat} {ini : Bool} {pc : Nat} (hd : decode cc pc = .ok (.putfield 430, 3)) : snd RX12 cc nL ini pc (pc + 3) (s_put 11 63 0) := snd_putfield (C := RX12) (T := TX12) (N := 71) (ci := 11) (kf := 63) (kd := 0) (index := 430) (f := 63) cl_11 in_11 (by decide) nf_11 (by decide) rfl rfl rfl tyX12_ok nmX12 rfl rfl m_1224 hd
theorem gf_RX12_144 {cc : ByteArray} {nL : Nat} {ini : Bool} {pc : Nat} (hd : decode cc pc = .ok (.getfield 144, 3)) : snd RX12 cc nL ini pc (pc + 3) (s_get 11 62 102) := snd_getfield (C := RX12) (T := TX12) (N := 71) (ci := 11) (kf := 62) (kd := 102) (index := 144) (f := 62) cl_11 in_11 (by decide) nf_11 (by decide) rfl rfl rfl m_1223 hd
theorem cs_RX12_433 {cc : ByteArray} {nL : Nat} {ini : Bool} {pcs : List Nat} {rF rL pc b : Nat} (hb1 : pcs[b]? = some (pc + 3)) (qF : 1 ≤ rF) (qL : 23 ≤ rL) (hd : decode cc pc = .ok (.invokevirtual 433, 3)) : sndQ mtab RX12 cc nL ini pcs rF rL pc (t_cv 11 kM_hasEvent 2 1 b) := sndQ_cv cl_11 (by decide) hb1 mt_M_hasEvent m_1755 m_1752 m_1754 ms_84 m_2 ⟨rfl, by decide, by decide, by decide +kernel⟩ qF qL hd
theorem pf_RX12_439 {cc : ByteArray} {nL : Nat} {ini : Bool} {pc : Nat} (hd : decode cc pc = .ok (.putfield 439, 3)) : snd RX12 cc nL ini pc (pc + 3) (s_put 11 65 0) := snd_putfield (C := RX12) (T := TX12) (N := 71) (ci := 11) (kf := 65) (kd := 0) (index := 439) (f := 65) cl_11 in_11 (by decide) nf_11 (by decide) rfl rfl rfl tyX12_ok nmX12 rfl rfl m_1226 hd
theorem pf_RX12_436 {cc : ByteArray} {nL : Nat} {ini : Bool} {pc : Nat} (hd : decode cc pc = .ok (.putfield 436, 3)) : snd RX12 cc nL ini pc (pc + 3) (s_put 11 64 0) := snd_putfield (C := RX12) (T := TX12) (N := 71) (ci := 11) (kf := 64) (kd := 0) (index := 436) (f := 64) cl_11 in_11 (by decide) nf_11 (by decide) rfl rfl rfl tyX12_ok nmX12 rfl rfl m_1225 hd
theorem gf_RX12_436 {cc : ByteArray} {nL : Nat} {ini : Bool} {pc : Nat} (hd : decode cc pc = .ok (.getfield 436, 3)) : snd RX12 cc nL ini pc (pc + 3) (s_get 11 64 0) := snd_getfield (C := RX12) (T := TX12) (N := 71) (ci := 11) (kf := 64) (kd := 0) (index := 436) (f := 64) cl_11 in_11 (by decide) nf_11 (by decide) rfl rfl rfl m_1225 hd
theorem gf_RX12_439 {cc : ByteArray} {nL : Nat} {ini : Bool} {pc : Nat} (hd : decode cc pc = .ok (.getfield 439, 3)) : snd RX12 cc nL ini pc (pc + 3) (s_get 11 65 0) := snd_getfield (C := RX12) (T := TX12) (N := 71) (ci := 11) (kf := 65) (kd := 0) (index := 439) (f := 65) cl_11 in_11 (by decide) nf_11 (by decide) rfl rfl rfl m_1226 hd
theorem cs_RX12_442 {cc : ByteArray} {nL : Nat} {ini : Bool} {pcs : List Nat} {rF rL pc b : Nat} (hb1 : pcs[b]? = some (pc + 3)) (qF : 5 ≤ rF) (qL : 120 ≤ rL) (hd : decode cc pc = .ok (.invokevirtual 442, 3)) : sndQ mtab RX12 cc nL ini pcs rF rL pc (t_cv 11 kM_readThing 2 0 b) := sndQ_cv cl_11 (by decide) hb1 mt_M_readThing m_1496 m_1493 m_1495 ms_55 m_2 ⟨rfl, by decide, by decide, by decide +kernel⟩ qF qL hd
theorem gf_RX12_446 {cc : ByteArray} {nL : Nat} {ini : Bool} {pc : Nat} (hd : decode cc pc = .ok (.getfield 446, 3)) : snd RX12 cc nL ini pc (pc + 3) (s_get 11 69 0) := snd_getfield (C := RX12) (T := TX12) (N := 71) (ci := 11) (kf := 69) (kd := 0) (index := 446) (f := 69) cl_11 in_11 (by decide) nf_11 (by decide) rfl rfl rfl m_1230 hd
theorem pf_RX12_446 {cc : ByteArray} {nL : Nat} {ini : Bool} {pc : Nat} (hd : decode cc pc = .ok (.putfield 446, 3)) : snd RX12 cc nL ini pc (pc + 3) (s_put 11 69 0) := snd_putfield (C := RX12) (T := TX12) (N := 71) (ci := 11) (kf := 69) (kd := 0) (index := 446) (f := 69) cl_11 in_11 (by decide) nf_11 (by decide) rfl rfl rfl tyX12_ok nmX12 rfl rfl m_1230 hd
theorem gf_RX12_153 {cc : ByteArray} {nL : Nat} {ini : Bool} {pc : Nat} (hd : decode cc pc = .ok (.getfield 153, 3)) : snd RX12 cc nL ini pc (pc + 3) (s_get 11 68 102) := snd_getfield (C := RX12) (T := TX12) (N := 71) (ci := 11) (kf := 68) (kd := 102) (index := 153) (f := 68) cl_11 in_11 (by decide) nf_11 (by decide) rfl rfl rfl m_1229 hd
theorem gf_RX12_150 {cc : ByteArray} {nL : Nat} {ini : Bool} {pc : Nat} (hd : decode cc pc = .ok (.getfield 150, 3)) : snd RX12 cc nL ini pc (pc + 3) (s_get 11 67 102) := snd_getfield (C := RX12) (T := TX12) (N := 71) (ci := 11) (kf := 67) (kd := 102) (index := 150) (f := 67) cl_11 in_11 (by decide) nf_11 (by decide) rfl rfl rfl m_1228 hd
theorem gf_RX12_147 {cc : ByteArray} {nL : Nat} {ini : Bool} {pc : Nat} (hd : decode cc pc = .ok (.getfield 147, 3)) : snd RX12 cc nL ini pc (pc + 3) (s_get 11 66 102) := snd_getfield (C := RX12) (T := TX12) (N := 71) (ci := 11) (kf := 66) (kd := 102) (index := 147) (f := 66) cl_11 in_11 (by decide) nf_11 (by decide) rfl rfl rfl m_1227 hd
theorem gf_RX12_449 {cc : ByteArray} {nL : Nat} {ini : Bool} {pc : Nat} (hd : decode cc pc = .ok (.getfield 449, 3)) : snd RX12 cc nL ini pc (pc + 3) (s_get 11 70 1) := snd_getfield (C := RX12) (T := TX12) (N := 71) (ci := 11) (kf := 70) (kd := 1) (index := 449) (f := 70) cl_11 in_11 (by decide) nf_11 (by decide) rfl rfl rfl m_1231 hd
theorem pf_RX12_449 {cc : ByteArray} {nL : Nat} {ini : Bool} {pc : Nat} (hd : decode cc pc = .ok (.putfield 449, 3)) : snd RX12 cc nL ini pc (pc + 3) (s_put 11 70 1) := snd_putfield (C := RX12) (T := TX12) (N := 71) (ci := 11) (kf := 70) (kd := 1) (index := 449) (f := 70) cl_11 in_11 (by decide) nf_11 (by decide) rfl rfl rfl tyX12_ok nmX12 rfl rfl m_1231 hd
theorem cs_RX12_457 {cc : ByteArray} {nL : Nat} {ini : Bool} {pcs : List Nat} {rF rL pc b : Nat} (hb1 : pcs[b]? = some (pc + 3)) (qF : 1 ≤ rF) (qL : 21 ≤ rL) (hd : decode cc pc = .ok (.invokevirtual 457, 3)) : sndQ mtab RX12 cc nL ini pcs rF rL pc (t_cv 11 kM_draw 1 1 b) := sndQ_cv cl_11 (by decide) hb1 mt_M_draw m_1775 m_1772 m_1774 ms_85 m_2 ⟨rfl, by decide, by decide, by decide +kernel⟩ qF qL hd
theorem cs_RX12_460 {cc : ByteArray} {nL : Nat} {ini : Bool} {pcs : List Nat} {rF rL pc b : Nat} (hb1 : pcs[b]? = some (pc + 3)) (qF : 6 ≤ rF) (qL : 154 ≤ rL) (hd : decode cc pc = .ok (.invokevirtual 460, 3)) : sndQ mtab RX12 cc nL ini pcs rF rL pc (t_cv 11 kM_isEased 1 1 b) := sndQ_cv cl_11 (by decide) hb1 mt_M_isEased m_1781 m_1778 m_1780 ms_86 m_2 ⟨rfl, by decide, by decide, by decide +kernel⟩ qF qL hd
theorem cs_RX12_463 {cc : ByteArray} {nL : Nat} {ini : Bool} {pcs : List Nat} {rF rL pc b : Nat} (hb1 : pcs[b]? = some (pc + 3)) (qF : 2 ≤ rF) (qL : 46 ≤ rL) (hd : decode cc pc = .ok (.invokevirtual 463, 3)) : sndQ mtab RX12 cc nL ini pcs rF rL pc (t_cv 11 kM_areYears 2 1 b) := sndQ_cv cl_11 (by decide) hb1 mt_M_areYears m_1789 m_1786 m_1788 ms_87 m_2 ⟨rfl, by decide, by decide, by decide +kernel⟩ qF qL hd
theorem cs_RX12_466 {cc : ByteArray} {nL : Nat} {ini : Bool} {pcs : List Nat} {rF rL pc b : Nat} (hb1 : pcs[b]? = some (pc + 3)) (qF : 6 ≤ rF) (qL : 159 ≤ rL) (hd : decode cc pc = .ok (.invokevirtual 466, 3)) : sndQ mtab RX12 cc nL ini pcs rF rL pc (t_cv 11 kM_stepTrue 4 1 b) := sndQ_cv cl_11 (by decide) hb1 mt_M_stepTrue m_1793 m_1790 m_1792 ms_88 m_2 ⟨rfl, by decide, by decide, by decide +kernel⟩ qF qL hd
theorem cs_RX12_469 {cc : ByteArray} {nL : Nat} {ini : Bool} {pcs : List Nat} {rF rL pc b : Nat} (hb1 : pcs[b]? = some (pc + 3)) (qF : 5 ≤ rF) (qL : 133 ≤ rL) (hd : decode cc pc = .ok (.invokevirtual 469, 3)) : sndQ mtab RX12 cc nL ini pcs rF rL pc (t_cv 11 kM_monthsTrue 5 1 b) := sndQ_cv cl_11 (by decide) hb1 mt_M_monthsTrue m_1797 m_1794 m_1796 ms_89 m_2 ⟨rfl, by decide, by decide, by decide +kernel⟩ qF qL hd
theorem cs_RX12_473 {cc : ByteArray} {nL : Nat} {ini : Bool} {pcs : List Nat} {rF rL pc b : Nat} (hb1 : pcs[b]? = some (pc + 3)) (qF : 2 ≤ rF) (qL : 51 ≤ rL) (hd : decode cc pc = .ok (.invokevirtual 473, 3)) : sndQ mtab RX12 cc nL ini pcs rF rL pc (t_cv 11 kM_yearsLack 4 1 b) := sndQ_cv cl_11 (by decide) hb1 mt_M_yearsLack m_1809 m_1806 m_1808 ms_90 m_2 ⟨rfl, by decide, by decide, by decide +kernel⟩ qF qL hd
theorem cs_RX12_476 {cc : ByteArray} {nL : Nat} {ini : Bool} {pcs : List Nat} {rF rL pc b : Nat} (hb1 : pcs[b]? = some (pc + 3)) (qF : 1 ≤ rF) (qL : 22 ≤ rL) (hd : decode cc pc = .ok (.invokevirtual 476, 3)) : sndQ mtab RX12 cc nL ini pcs rF rL pc (t_cv 11 kM_costOf 2 1 b) := sndQ_cv cl_11 (by decide) hb1 mt_M_costOf m_1813 m_1810 m_1812 ms_91 m_2 ⟨rfl, by decide, by decide, by decide +kernel⟩ qF qL hd
theorem pf_RX0_13 {cc : ByteArray} {nL : Nat} {pc : Nat} (hd : decode cc pc = .ok (.putfield 13, 3)) : snd RX0 cc nL true pc (pc + 3) (s_put 0 1 211) := snd_putfieldF (C := RX0) (T := TX0) (N := 4) (ci := 0) (kf := 1) (kd := 211) (index := 13) (f := 1) cl_0 in_0 (by decide) nf_0 (by decide) rfl rfl rfl tyX0_ok nmX0 (Or.inr ⟨_, rfl⟩) rfl rfl rfl m_163 hd
theorem pf_RX0_17 {cc : ByteArray} {nL : Nat} {ini : Bool} {pc : Nat} (hd : decode cc pc = .ok (.putfield 17, 3)) : snd RX0 cc nL ini pc (pc + 3) (s_put 0 3 102) := snd_putfield (C := RX0) (T := TX0) (N := 4) (ci := 0) (kf := 3) (kd := 102) (index := 17) (f := 3) cl_0 in_0 (by decide) nf_0 (by decide) rfl rfl rfl tyX0_ok nmX0 (Or.inr ⟨_, rfl⟩) rfl m_165 hd
theorem cs_RX0_21 {cc : ByteArray} {nL : Nat} {ini : Bool} {pcs : List Nat} {rF rL pc b : Nat} (hb1 : pcs[b]? = some (pc + 3)) (qF : 2 ≤ rF) (qL : 32 ≤ rL) (hd : decode cc pc = .ok (.invokespecial 21, 3)) : sndQ mtab RX0 cc nL ini pcs rF rL pc (t_cv 0 kAl_init 0 0 b) := sndQ_ci cl_0 (by decide) hb1 mt_Al_init m_158 m_156 m_157 m_5 rfl ⟨by decide, by decide, by decide +kernel⟩ qF qL hd
theorem cs_RX0_22 {cc : ByteArray} {nL : Nat} {ini : Bool} {pcs : List Nat} {rF rL pc b : Nat} (hb1 : pcs[b]? = some (pc + 3)) (qF : 2 ≤ rF) (qL : 47 ≤ rL) (hd : decode cc pc = .ok (.invokevirtual 22, 3)) : sndQ mtab RX0 cc nL ini pcs rF rL pc (t_cv 5 kRd_number 2 1 b) := sndQ_cv cl_5 (by decide) hb1 mt_Rd_number m_178 m_175 m_176 m_177 m_3 ⟨rfl, by decide, by decide, by decide +kernel⟩ qF qL hd
theorem pf_RX0_28 {cc : ByteArray} {nL : Nat} {ini : Bool} {pc : Nat} (hd : decode cc pc = .ok (.putfield 28, 3)) : snd RX0 cc nL ini pc (pc + 3) (s_put 0 0 0) := snd_putfield (C := RX0) (T := TX0) (N := 4) (ci := 0) (kf := 0) (kd := 0) (index := 28) (f := 0) cl_0 in_0 (by decide) nf_0 (by decide) rfl rfl rfl tyX0_ok nmX0 rfl rfl m_162 hd
theorem cs_RX0_32 {cc : ByteArray} {nL : Nat} {ini : Bool} {pcs : List Nat} {rF rL pc b : Nat} (hb1 : pcs[b]? = some (pc + 3)) (qF : 2 ≤ rF) (qL : 44 ≤ rL) (hd : decode cc pc = .ok (.invokevirtual 32, 3)) : sndQ mtab RX0 cc nL ini pcs rF rL pc (t_cv 5 kRd_expect 1 0 b) := sndQ_cv cl_5 (by decide) hb1 mt_Rd_expect m_190 m_187 m_188 m_189 m_3 ⟨rfl, by decide, by decide, by decide +kernel⟩ qF qL hd
theorem cs_RX0_36 {cc : ByteArray} {nL : Nat} {ini : Bool} {pcs : List Nat} {rF rL pc b : Nat} (hb1 : pcs[b]? = some (pc + 3)) (qF : 2 ≤ rF) (qL : 44 ≤ rL) (hd : decode cc pc = .ok (.invokespecial 36, 3)) : sndQ mtab RX0 cc nL ini pcs rF rL pc (t_cv 9 kSh_init 0 0 b) := sndQ_ciN (host := "DayBoy") cl_9 (by decide) hb1 mt_Sh_init m_194 mn_wN2_0 m_193 m_6 rfl ⟨by decide, by decide, by decide +kernel⟩ qF qL hd
theorem cs_RX0_37 {cc : ByteArray} {nL : Nat} {ini : Bool} {pcs : List Nat} {rF rL pc b : Nat} (hb1 : pcs[b]? = some (pc + 3)) (qF : 3 ≤ rF) (qL : 71 ≤ rL) (hd : decode cc pc = .ok (.invokevirtual 37, 3)) : sndQ mtab RX0 cc nL ini pcs rF rL pc (t_cv 9 kSh_readLeaps 1 0 b) := sndQ_cv cl_9 (by decide) hb1 mt_Sh_readLeaps m_237 m_234 m_235 m_236 m_6 ⟨rfl, by decide, by decide, by decide +kernel⟩ qF qL hd
theorem cs_RX0_41 {cc : ByteArray} {nL : Nat} {ini : Bool} {pcs : List Nat} {rF rL pc b : Nat} (hb1 : pcs[b]? = some (pc + 3)) (qF : 1 ≤ rF) (qL : 21 ≤ rL) (hd : decode cc pc = .ok (.invokevirtual 41, 3)) : sndQ mtab RX0 cc nL ini pcs rF rL pc (t_cv 0 kAl_add 1 0 b) := sndQ_cv cl_0 (by decide) hb1 mt_Al_add m_252 m_249 m_251 ms_3 m_5 ⟨rfl, by decide, by decide, by decide +kernel⟩ qF qL hd
theorem cs_RX0_45 {cc : ByteArray} {nL : Nat} {ini : Bool} {pcs : List Nat} {rF rL pc b : Nat} (hb1 : pcs[b]? = some (pc + 3)) (qF : 2 ≤ rF) (qL : 44 ≤ rL) (hd : decode cc pc = .ok (.invokevirtual 45, 3)) : sndQ mtab RX0 cc nL ini pcs rF rL pc (t_cv 5 kRd_takes 1 1 b) := sndQ_cv cl_5 (by decide) hb1 mt_Rd_takes m_242 m_253 m_240 m_241 m_3 ⟨rfl, by decide, by decide, by decide +kernel⟩ qF qL hd
theorem cs_RX0_49 {cc : ByteArray} {nL : Nat} {ini : Bool} {pcs : List Nat} {rF rL pc b : Nat} (hb1 : pcs[b]? = some (pc + 3)) (qF : 4 ≤ rF) (qL : 104 ≤ rL) (hd : decode cc pc = .ok (.invokestatic 49, 3)) : sndQ mtab RX0 cc nL ini pcs rF rL pc (t_cs kAl_readChange 2 12 b) := sndQ_cs hb1 mt_Al_readChange m_256 m_254 m_255 m_5 ⟨by decide, by decide, by decide +kernel⟩ qF qL hd
theorem cs_RX0_53 {cc : ByteArray} {nL : Nat} {ini : Bool} {pcs : List Nat} {rF rL pc b : Nat} (hb1 : pcs[b]? = some (pc + 3)) (qF : 2 ≤ rF) (qL : 43 ≤ rL) (hd : decode cc pc = .ok (.invokevirtual 53, 3)) : sndQ mtab RX0 cc nL ini pcs rF rL pc (t_cv 5 kRd_finish 0 0 b) := sndQ_cv cl_5 (by decide) hb1 mt_Rd_finish m_305 m_302 m_303 m_304 m_3 ⟨rfl, by decide, by decide, by decide +kernel⟩ qF qL hd
theorem gf_RX0_13 {cc : ByteArray} {nL : Nat} {ini : Bool} {pc : Nat} (hd : decode cc pc = .ok (.getfield 13, 3)) : snd RX0 cc nL ini pc (pc + 3) (s_get 0 1 211) := snd_getfield (C := RX0) (T := TX0) (N := 4) (ci := 0) (kf := 1) (kd := 211) (index := 13) (f := 1) cl_0 in_0 (by decide) nf_0 (by decide) rfl rfl rfl m_163 hd
theorem gf_RX0_56 {cc : ByteArray} {nL : Nat} {ini : Bool} {pc : Nat} (hd : decode cc pc = .ok (.getfield 56, 3)) : snd RX0 cc nL ini pc (pc + 3) (s_get 0 2 0) := snd_getfield (C := RX0) (T := TX0) (N := 4) (ci := 0) (kf := 2) (kd := 0) (index := 56) (f := 2) cl_0 in_0 (by decide) nf_0 (by decide) rfl rfl rfl m_164 hd
theorem pf_RX0_56 {cc : ByteArray} {nL : Nat} {ini : Bool} {pc : Nat} (hd : decode cc pc = .ok (.putfield 56, 3)) : snd RX0 cc nL ini pc (pc + 3) (s_put 0 2 0) := snd_putfield (C := RX0) (T := TX0) (N := 4) (ci := 0) (kf := 2) (kd := 0) (index := 56) (f := 2) cl_0 in_0 (by decide) nf_0 (by decide) rfl rfl rfl tyX0_ok nmX0 rfl rfl m_164 hd
theorem cs_RX0_59 {cc : ByteArray} {nL : Nat} {ini : Bool} {pcs : List Nat} {rF rL pc b : Nat} (hb1 : pcs[b]? = some (pc + 3)) (qF : 2 ≤ rF) (qL : 47 ≤ rL) (hd : decode cc pc = .ok (.invokevirtual 59, 3)) : sndQ mtab RX0 cc nL ini pcs rF rL pc (t_cv 9 kSh_canEndOn 3 1 b) := sndQ_cv cl_9 (by decide) hb1 mt_Sh_canEndOn m_260 m_257 m_258 m_259 m_6 ⟨rfl, by decide, by decide, by decide +kernel⟩ qF qL hd
theorem cs_RX0_63 {cc : ByteArray} {nL : Nat} {ini : Bool} {pcs : List Nat} {rF rL pc b : Nat} (hb1 : pcs[b]? = some (pc + 3)) (qF : 2 ≤ rF) (qL : 43 ≤ rL) (hd : decode cc pc = .ok (.invokevirtual 63, 3)) : sndQ mtab RX0 cc nL ini pcs rF rL pc (t_cv 5 kRd_refuseNumber 0 0 b) := sndQ_cv cl_5 (by decide) hb1 mt_Rd_refuseNumber m_273 m_270 m_271 m_272 m_3 ⟨rfl, by decide, by decide, by decide +kernel⟩ qF qL hd
theorem cs_RX0_66 {cc : ByteArray} {nL : Nat} {ini : Bool} {pcs : List Nat} {rF rL pc b : Nat} (hb1 : pcs[b]? = some (pc + 3)) (qF : 1 ≤ rF) (qL : 22 ≤ rL) (hd : decode cc pc = .ok (.invokestatic 66, 3)) : sndQ mtab RX0 cc nL ini pcs rF rL pc (t_cs kX_keyOf 3 1 b) := sndQ_csN (host := "DayBoy") hb1 mt_X_keyOf m_198 mn_wN2_1 m_197 m_1 ⟨by decide, by decide, by decide +kernel⟩ qF qL hd
theorem gf_RX0_70 {cc : ByteArray} {nL : Nat} {ini : Bool} {pc : Nat} (hd : decode cc pc = .ok (.getfield 70, 3)) : snd RX0 cc nL ini pc (pc + 3) (s_get 9 6 0) := snd_getfieldN (host := "DayBoy") (C := RX10) (T := TX10) (N := 10) (ci := 9) (kf := 6) (kd := 0) (index := 70) (f := 6) cl_9 in_9 (by decide) nf_9 (by decide) rfl rfl rfl mn_wN1_18 hd
theorem pf_RX0_70 {cc : ByteArray} {nL : Nat} {ini : Bool} {pc : Nat} (hd : decode cc pc = .ok (.putfield 70, 3)) : snd RX0 cc nL ini pc (pc + 3) (s_put 9 6 0) := snd_putfieldN (host := "DayBoy") (C := RX10) (T := TX10) (N := 10) (ci := 9) (kf := 6) (kd := 0) (index := 70) (f := 6) cl_9 in_9 (by decide) nf_9 (by decide) rfl rfl rfl tyX10_ok nmX10 rfl rfl mn_wN1_18 hd
theorem cs_RX0_73 {cc : ByteArray} {nL : Nat} {ini : Bool} {pcs : List Nat} {rF rL pc b : Nat} (hb1 : pcs[b]? = some (pc + 3)) (qF : 3 ≤ rF) (qL : 76 ≤ rL) (hd : decode cc pc = .ok (.invokevirtual 73, 3)) : sndQ mtab RX0 cc nL ini pcs rF rL pc (t_cv 9 kSh_takeOver 2 0 b) := sndQ_cv cl_9 (by decide) hb1 mt_Sh_takeOver m_278 m_275 m_276 m_277 m_6 ⟨rfl, by decide, by decide, by decide +kernel⟩ qF qL hd
theorem gf_RX0_28 {cc : ByteArray} {nL : Nat} {ini : Bool} {pc : Nat} (hd : decode cc pc = .ok (.getfield 28, 3)) : snd RX0 cc nL ini pc (pc + 3) (s_get 0 0 0) := snd_getfield (C := RX0) (T := TX0) (N := 4) (ci := 0) (kf := 0) (kd := 0) (index := 28) (f := 0) cl_0 in_0 (by decide) nf_0 (by decide) rfl rfl rfl m_162 hd
theorem cs_RX0_77 {cc : ByteArray} {nL : Nat} {ini : Bool} {pcs : List Nat} {rF rL pc b : Nat} (hb1 : pcs[b]? = some (pc + 3)) (qF : 3 ≤ rF) (qL : 74 ≤ rL) (hd : decode cc pc = .ok (.invokevirtual 77, 3)) : sndQ mtab RX0 cc nL ini pcs rF rL pc (t_cv 9 kSh_lay 1 0 b) := sndQ_cv cl_9 (by decide) hb1 mt_Sh_lay m_485 m_482 m_483 m_484 m_6 ⟨rfl, by decide, by decide, by decide +kernel⟩ qF qL hd
theorem gf_RX0_80 {cc : ByteArray} {nL : Nat} {ini : Bool} {pc : Nat} (hd : decode cc pc = .ok (.getfield 80, 3)) : snd RX0 cc nL ini pc (pc + 3) (s_get 9 8 0) := snd_getfieldN (host := "DayBoy") (C := RX10) (T := TX10) (N := 10) (ci := 9) (kf := 8) (kd := 0) (index := 80) (f := 8) cl_9 in_9 (by decide) nf_9 (by decide) rfl rfl rfl mn_wN1_19 hd
theorem cs_RX0_83 {cc : ByteArray} {nL : Nat} {ini : Bool} {pcs : List Nat} {rF rL pc b : Nat} (hb1 : pcs[b]? = some (pc + 3)) (qF : 3 ≤ rF) (qL : 76 ≤ rL) (hd : decode cc pc = .ok (.invokevirtual 83, 3)) : sndQ mtab RX0 cc nL ini pcs rF rL pc (t_cv 0 kAl_dayOn 3 1 b) := sndQ_cv cl_0 (by decide) hb1 mt_Al_dayOn m_497 m_494 m_495 m_496 m_5 ⟨rfl, by decide, by decide, by decide +kernel⟩ qF qL hd
theorem gf_RX0_17 {cc : ByteArray} {nL : Nat} {ini : Bool} {pc : Nat} (hd : decode cc pc = .ok (.getfield 17, 3)) : snd RX0 cc nL ini pc (pc + 3) (s_get 0 3 102) := snd_getfield (C := RX0) (T := TX0) (N := 4) (ci := 0) (kf := 3) (kd := 102) (index := 17) (f := 3) cl_0 in_0 (by decide) nf_0 (by decide) rfl rfl rfl m_165 hd
theorem cs_RX0_86 {cc : ByteArray} {nL : Nat} {ini : Bool} {pcs : List Nat} {rF rL pc b : Nat} (hb1 : pcs[b]? = some (pc + 3)) (qF : 1 ≤ rF) (qL : 21 ≤ rL) (hd : decode cc pc = .ok (.invokevirtual 86, 3)) : sndQ mtab RX0 cc nL ini pcs rF rL pc (t_cv 0 kAl_kindOf 1 1 b) := sndQ_cv cl_0 (by decide) hb1 mt_Al_kindOf m_691 m_775 m_689 m_690 m_5 ⟨rfl, by decide, by decide, by decide +kernel⟩ qF qL hd
theorem cs_RX0_90 {cc : ByteArray} {nL : Nat} {ini : Bool} {pcs : List Nat} {rF rL pc b : Nat} (hb1 : pcs[b]? = some (pc + 3)) (qF : 2 ≤ rF) (qL : 44 ≤ rL) (hd : decode cc pc = .ok (.invokestatic 90, 3)) : sndQ mtab RX0 cc nL ini pcs rF rL pc (t_cs kX_isDatelike 3 1 b) := sndQ_csN (host := "DayBoy") hb1 mt_X_isDatelike m_460 mn_wN2_2 m_459 m_1 ⟨by decide, by decide, by decide +kernel⟩ qF qL hd
theorem cs_RX0_93 {cc : ByteArray} {nL : Nat} {ini : Bool} {pcs : List Nat} {rF rL pc b : Nat} (hb1 : pcs[b]? = some (pc + 3)) (qF : 2 ≤ rF) (qL : 49 ≤ rL) (hd : decode cc pc = .ok (.invokevirtual 93, 3)) : sndQ mtab RX0 cc nL ini pcs rF rL pc (t_cv 9 kSh_dayOn 1 1 b) := sndQ_cv cl_9 (by decide) hb1 mt_Sh_dayOn m_489 m_499 m_487 m_488 m_6 ⟨rfl, by decide, by decide, by decide +kernel⟩ qF qL hd
theorem cs_RX0_95 {cc : ByteArray} {nL : Nat} {ini : Bool} {pcs : List Nat} {rF rL pc b : Nat} (hb1 : pcs[b]? = some (pc + 3)) (qF : 3 ≤ rF) (qL : 73 ≤ rL) (hd : decode cc pc = .ok (.invokevirtual 95, 3)) : sndQ mtab RX0 cc nL ini pcs rF rL pc (t_cv 9 kSh_keyOn 1 1 b) := sndQ_cv cl_9 (by decide) hb1 mt_Sh_keyOn m_655 m_652 m_653 m_654 m_6 ⟨rfl, by decide, by decide, by decide +kernel⟩ qF qL hd
theorem cs_RX0_98 {cc : ByteArray} {nL : Nat} {ini : Bool} {pcs : List Nat} {rF rL pc b : Nat} (hb1 : pcs[b]? = some (pc + 3)) (qF : 2 ≤ rF) (qL : 49 ≤ rL) (hd : decode cc pc = .ok (.invokevirtual 98, 3)) : sndQ mtab RX0 cc nL ini pcs rF rL pc (t_cv 9 kSh_datesIn 2 1 b) := sndQ_cv cl_9 (by decide) hb1 mt_Sh_datesIn m_682 m_679 m_680 m_681 m_6 ⟨rfl, by decide, by decide, by decide +kernel⟩ qF qL hd
theorem cs_RX0_101 {cc : ByteArray} {nL : Nat} {ini : Bool} {pcs : List Nat} {rF rL pc b : Nat} (hb1 : pcs[b]? = some (pc + 3)) (qF : 4 ≤ rF) (qL : 103 ≤ rL) (hd : decode cc pc = .ok (.invokevirtual 101, 3)) : sndQ mtab RX0 cc nL ini pcs rF rL pc (t_cv 0 kAl_firstInMonth 3 1 b) := sndQ_cv cl_0 (by decide) hb1 mt_Al_firstInMonth m_1048 m_1045 m_1047 ms_29 m_5 ⟨rfl, by decide, by decide, by decide +kernel⟩ qF qL hd
theorem pf_RX1_22 {cc : ByteArray} {nL : Nat} {pc : Nat} (hd : decode cc pc = .ok (.putfield 22, 3)) : snd RX1 cc nL true pc (pc + 3) (s_put 1 3 0) := snd_putfieldF (C := RX1) (T := TX1) (N := 4) (ci := 1) (kf := 3) (kd := 0) (index := 22) (f := 3) cl_1 in_1 (by decide) nf_1 (by decide) rfl rfl rfl tyX1_ok nmX1 rfl rfl rfl rfl m_923 hd
theorem pf_RX1_19 {cc : ByteArray} {nL : Nat} {pc : Nat} (hd : decode cc pc = .ok (.putfield 19, 3)) : snd RX1 cc nL true pc (pc + 3) (s_put 1 2 0) := snd_putfieldF (C := RX1) (T := TX1) (N := 4) (ci := 1) (kf := 2) (kd := 0) (index := 19) (f := 2) cl_1 in_1 (by decide) nf_1 (by decide) rfl rfl rfl tyX1_ok nmX1 rfl rfl rfl rfl m_921 hd
theorem pf_RX1_15 {cc : ByteArray} {nL : Nat} {pc : Nat} (hd : decode cc pc = .ok (.putfield 15, 3)) : snd RX1 cc nL true pc (pc + 3) (s_put 1 1 9) := snd_putfieldF (C := RX1) (T := TX1) (N := 4) (ci := 1) (kf := 1) (kd := 9) (index := 15) (f := 1) cl_1 in_1 (by decide) nf_1 (by decide) rfl rfl rfl tyX1_ok nmX1 (Or.inl ⟨_, rfl⟩) rfl rfl rfl m_919 hd
theorem pf_RX1_9 {cc : ByteArray} {nL : Nat} {pc : Nat} (hd : decode cc pc = .ok (.putfield 9, 3)) : snd RX1 cc nL true pc (pc + 3) (s_put 1 0 0) := snd_putfieldF (C := RX1) (T := TX1) (N := 4) (ci := 1) (kf := 0) (kd := 0) (index := 9) (f := 0) cl_1 in_1 (by decide) nf_1 (by decide) rfl rfl rfl tyX1_ok nmX1 rfl rfl rfl rfl m_917 hd
theorem gf_RX1_35 {cc : ByteArray} {nL : Nat} {ini : Bool} {pc : Nat} (hd : decode cc pc = .ok (.getfield 35, 3)) : snd RX1 cc nL ini pc (pc + 3) (s_get 7 4 0) := snd_getfieldN (host := "DayBoy") (C := RX8) (T := TX8) (N := 6) (ci := 7) (kf := 4) (kd := 0) (index := 35) (f := 4) cl_7 in_7 (by decide) nf_7 (by decide) rfl rfl rfl mn_wN1_20 hd
theorem gf_RX1_15 {cc : ByteArray} {nL : Nat} {ini : Bool} {pc : Nat} (hd : decode cc pc = .ok (.getfield 15, 3)) : snd RX1 cc nL ini pc (pc + 3) (s_get 1 1 9) := snd_getfield (C := RX1) (T := TX1) (N := 4) (ci := 1) (kf := 1) (kd := 9) (index := 15) (f := 1) cl_1 in_1 (by decide) nf_1 (by decide) rfl rfl rfl m_919 hd
theorem gf_RX1_34 {cc : ByteArray} {nL : Nat} {ini : Bool} {pc : Nat} (hd : decode cc pc = .ok (.getfield 34, 3)) : snd RX1 cc nL ini pc (pc + 3) (s_get 7 3 0) := snd_getfieldN (host := "DayBoy") (C := RX8) (T := TX8) (N := 6) (ci := 7) (kf := 3) (kd := 0) (index := 34) (f := 3) cl_7 in_7 (by decide) nf_7 (by decide) rfl rfl rfl mn_wN1_21 hd
theorem gf_RX1_31 {cc : ByteArray} {nL : Nat} {ini : Bool} {pc : Nat} (hd : decode cc pc = .ok (.getfield 31, 3)) : snd RX1 cc nL ini pc (pc + 3) (s_get 7 2 0) := snd_getfieldN (host := "DayBoy") (C := RX8) (T := TX8) (N := 6) (ci := 7) (kf := 2) (kd := 0) (index := 31) (f := 2) cl_7 in_7 (by decide) nf_7 (by decide) rfl rfl rfl mn_wN1_22 hd
theorem gf_RX1_25 {cc : ByteArray} {nL : Nat} {ini : Bool} {pc : Nat} (hd : decode cc pc = .ok (.getfield 25, 3)) : snd RX1 cc nL ini pc (pc + 3) (s_get 7 1 2) := snd_getfieldN (host := "DayBoy") (C := RX8) (T := TX8) (N := 6) (ci := 7) (kf := 1) (kd := 2) (index := 25) (f := 1) cl_7 in_7 (by decide) nf_7 (by decide) rfl rfl rfl mn_wN1_23 hd
theorem cs_RX1_38 {cc : ByteArray} {nL : Nat} {ini : Bool} {pcs : List Nat} {rF rL pc b : Nat} (hb1 : pcs[b]? = some (pc + 3)) (qF : 4 ≤ rF) (qL : 106 ≤ rL) (hd : decode cc pc = .ok (.invokevirtual 38, 3)) : sndQ mtab RX1 cc nL ini pcs rF rL pc (t_cv 2 kHd_toldFor 4 1 b) := sndQ_cv cl_2 (by decide) hb1 mt_Hd_toldFor m_728 m_957 m_726 m_727 m_7 ⟨rfl, by decide, by decide, by decide +kernel⟩ qF qL hd
theorem gf_RX1_19 {cc : ByteArray} {nL : Nat} {ini : Bool} {pc : Nat} (hd : decode cc pc = .ok (.getfield 19, 3)) : snd RX1 cc nL ini pc (pc + 3) (s_get 1 2 0) := snd_getfield (C := RX1) (T := TX1) (N := 4) (ci := 1) (kf := 2) (kd := 0) (index := 19) (f := 2) cl_1 in_1 (by decide) nf_1 (by decide) rfl rfl rfl m_921 hd
theorem gf_RX1_22 {cc : ByteArray} {nL : Nat} {ini : Bool} {pc : Nat} (hd : decode cc pc = .ok (.getfield 22, 3)) : snd RX1 cc nL ini pc (pc + 3) (s_get 1 3 0) := snd_getfield (C := RX1) (T := TX1) (N := 4) (ci := 1) (kf := 3) (kd := 0) (index := 22) (f := 3) cl_1 in_1 (by decide) nf_1 (by decide) rfl rfl rfl m_923 hd
theorem cs_RX1_44 {cc : ByteArray} {nL : Nat} {ini : Bool} {pcs : List Nat} {rF rL pc b : Nat} (hb1 : pcs[b]? = some (pc + 3)) (qF : 1 ≤ rF) (qL : 20 ≤ rL) (hd : decode cc pc = .ok (.invokestatic 44, 3)) : sndQ mtab RX1 cc nL ini pcs rF rL pc (t_cs kJ_abs 1 1 b) := sndQ_cs hb1 mt_J_abs m_960 m_958 m_959 m_4 ⟨by decide, by decide, by decide +kernel⟩ qF qL hd
theorem pf_RX2_11 {cc : ByteArray} {nL : Nat} {pc : Nat} (hd : decode cc pc = .ok (.putfield 11, 3)) : snd RX2 cc nL true pc (pc + 3) (s_put 2 0 102) := snd_putfieldF (C := RX2) (T := TX2) (N := 11) (ci := 2) (kf := 0) (kd := 102) (index := 11) (f := 0) cl_2 in_2 (by decide) nf_2 (by decide) rfl rfl rfl tyX2_ok nmX2 (Or.inr ⟨_, rfl⟩) rfl rfl rfl m_359 hd
theorem pf_RX2_15 {cc : ByteArray} {nL : Nat} {pc : Nat} (hd : decode cc pc = .ok (.putfield 15, 3)) : snd RX2 cc nL true pc (pc + 3) (s_put 2 1 102) := snd_putfieldF (C := RX2) (T := TX2) (N := 11) (ci := 2) (kf := 1) (kd := 102) (index := 15) (f := 1) cl_2 in_2 (by decide) nf_2 (by decide) rfl rfl rfl tyX2_ok nmX2 (Or.inr ⟨_, rfl⟩) rfl rfl rfl m_360 hd
theorem cs_RX2_20 {cc : ByteArray} {nL : Nat} {ini : Bool} {pcs : List Nat} {rF rL pc b : Nat} (hb1 : pcs[b]? = some (pc + 3)) (qF : 2 ≤ rF) (qL : 32 ≤ rL) (hd : decode cc pc = .ok (.invokespecial 20, 3)) : sndQ mtab RX2 cc nL ini pcs rF rL pc (t_cv 8 kSt_init 0 0 b) := sndQ_ciN (host := "DayBoy") cl_8 (by decide) hb1 mt_St_init m_319 mn_wN2_3 m_318 m_8 rfl ⟨by decide, by decide, by decide +kernel⟩ qF qL hd
theorem pf_RX2_21 {cc : ByteArray} {nL : Nat} {pc : Nat} (hd : decode cc pc = .ok (.putfield 21, 3)) : snd RX2 cc nL true pc (pc + 3) (s_put 2 3 10) := snd_putfieldF (C := RX2) (T := TX2) (N := 11) (ci := 2) (kf := 3) (kd := 10) (index := 21) (f := 3) cl_2 in_2 (by decide) nf_2 (by decide) rfl rfl rfl tyX2_ok nmX2 (Or.inl ⟨_, rfl⟩) rfl rfl rfl m_362 hd
theorem cs_RX2_27 {cc : ByteArray} {nL : Nat} {ini : Bool} {pcs : List Nat} {rF rL pc b : Nat} (hb1 : pcs[b]? = some (pc + 3)) (qF : 2 ≤ rF) (qL : 32 ≤ rL) (hd : decode cc pc = .ok (.invokespecial 27, 3)) : sndQ mtab RX2 cc nL ini pcs rF rL pc (t_cv 4 kPr_init 0 0 b) := sndQ_ciN (host := "DayBoy") cl_4 (by decide) hb1 mt_Pr_init m_341 mn_wN2_4 m_340 m_9 rfl ⟨by decide, by decide, by decide +kernel⟩ qF qL hd
theorem pf_RX2_28 {cc : ByteArray} {nL : Nat} {pc : Nat} (hd : decode cc pc = .ok (.putfield 28, 3)) : snd RX2 cc nL true pc (pc + 3) (s_put 2 4 6) := snd_putfieldF (C := RX2) (T := TX2) (N := 11) (ci := 2) (kf := 4) (kd := 6) (index := 28) (f := 4) cl_2 in_2 (by decide) nf_2 (by decide) rfl rfl rfl tyX2_ok nmX2 (Or.inl ⟨_, rfl⟩) rfl rfl rfl m_364 hd
theorem pf_RX2_32 {cc : ByteArray} {nL : Nat} {pc : Nat} (hd : decode cc pc = .ok (.putfield 32, 3)) : snd RX2 cc nL true pc (pc + 3) (s_put 2 5 104) := snd_putfieldF (C := RX2) (T := TX2) (N := 11) (ci := 2) (kf := 5) (kd := 104) (index := 32) (f := 5) cl_2 in_2 (by decide) nf_2 (by decide) rfl rfl rfl tyX2_ok nmX2 (Or.inr ⟨_, rfl⟩) rfl rfl rfl m_366 hd
theorem pf_RX2_36 {cc : ByteArray} {nL : Nat} {pc : Nat} (hd : decode cc pc = .ok (.putfield 36, 3)) : snd RX2 cc nL true pc (pc + 3) (s_put 2 7 102) := snd_putfieldF (C := RX2) (T := TX2) (N := 11) (ci := 2) (kf := 7) (kd := 102) (index := 36) (f := 7) cl_2 in_2 (by decide) nf_2 (by decide) rfl rfl rfl tyX2_ok nmX2 (Or.inr ⟨_, rfl⟩) rfl rfl rfl m_368 hd
theorem pf_RX2_39 {cc : ByteArray} {nL : Nat} {ini : Bool} {pc : Nat} (hd : decode cc pc = .ok (.putfield 39, 3)) : snd RX2 cc nL ini pc (pc + 3) (s_put 2 8 0) := snd_putfield (C := RX2) (T := TX2) (N := 11) (ci := 2) (kf := 8) (kd := 0) (index := 39) (f := 8) cl_2 in_2 (by decide) nf_2 (by decide) rfl rfl rfl tyX2_ok nmX2 rfl rfl m_369 hd
theorem cs_RX2_43 {cc : ByteArray} {nL : Nat} {ini : Bool} {pcs : List Nat} {rF rL pc b : Nat} (hb1 : pcs[b]? = some (pc + 3)) (qF : 3 ≤ rF) (qL : 54 ≤ rL) (hd : decode cc pc = .ok (.invokespecial 43, 3)) : sndQ mtab RX2 cc nL ini pcs rF rL pc (t_cv 2 kHd_init 0 0 b) := sndQ_ci cl_2 (by decide) hb1 mt_Hd_init m_313 m_311 m_312 m_7 rfl ⟨by decide, by decide, by decide +kernel⟩ qF qL hd
theorem cs_RX2_44 {cc : ByteArray} {nL : Nat} {ini : Bool} {pcs : List Nat} {rF rL pc b : Nat} (hb1 : pcs[b]? = some (pc + 3)) (qF : 4 ≤ rF) (qL : 95 ≤ rL) (hd : decode cc pc = .ok (.invokevirtual 44, 3)) : sndQ mtab RX2 cc nL ini pcs rF rL pc (t_cv 2 kHd_readItem 1 0 b) := sndQ_cv cl_2 (by decide) hb1 mt_Hd_readItem m_401 m_398 m_400 ms_4 m_7 ⟨rfl, by decide, by decide, by decide +kernel⟩ qF qL hd
theorem cs_RX2_48 {cc : ByteArray} {nL : Nat} {ini : Bool} {pcs : List Nat} {rF rL pc b : Nat} (hb1 : pcs[b]? = some (pc + 3)) (qF : 2 ≤ rF) (qL : 44 ≤ rL) (hd : decode cc pc = .ok (.invokevirtual 48, 3)) : sndQ mtab RX2 cc nL ini pcs rF rL pc (t_cv 5 kRd_takes 1 1 b) := sndQ_cv cl_5 (by decide) hb1 mt_Rd_takes m_242 m_407 m_240 m_241 m_3 ⟨rfl, by decide, by decide, by decide +kernel⟩ qF qL hd
theorem cs_RX2_54 {cc : ByteArray} {nL : Nat} {ini : Bool} {pcs : List Nat} {rF rL pc b : Nat} (hb1 : pcs[b]? = some (pc + 3)) (qF : 2 ≤ rF) (qL : 43 ≤ rL) (hd : decode cc pc = .ok (.invokevirtual 54, 3)) : sndQ mtab RX2 cc nL ini pcs rF rL pc (t_cv 5 kRd_finish 0 0 b) := sndQ_cv cl_5 (by decide) hb1 mt_Rd_finish m_305 m_448 m_303 m_304 m_3 ⟨rfl, by decide, by decide, by decide +kernel⟩ qF qL hd
theorem gf_RX2_57 {cc : ByteArray} {nL : Nat} {ini : Bool} {pc : Nat} (hd : decode cc pc = .ok (.getfield 57, 3)) : snd RX2 cc nL ini pc (pc + 3) (s_get 5 3 0) := snd_getfieldN (host := "DayBoy") (C := RX6) (T := TX6) (N := 6) (ci := 5) (kf := 3) (kd := 0) (index := 57) (f := 3) cl_5 in_5 (by decide) nf_5 (by decide) rfl rfl rfl mn_wN1_24 hd
theorem cs_RX2_60 {cc : ByteArray} {nL : Nat} {ini : Bool} {pcs : List Nat} {rF rL pc b : Nat} (hb1 : pcs[b]? = some (pc + 3)) (qF : 3 ≤ rF) (qL : 70 ≤ rL) (hd : decode cc pc = .ok (.invokevirtual 60, 3)) : sndQ mtab RX2 cc nL ini pcs rF rL pc (t_cv 2 kHd_readRange 1 0 b) := sndQ_cv cl_2 (by decide) hb1 mt_Hd_readRange m_405 m_402 m_404 ms_5 m_7 ⟨rfl, by decide, by decide, by decide +kernel⟩ qF qL hd
theorem gf_RX2_21 {cc : ByteArray} {nL : Nat} {ini : Bool} {pc : Nat} (hd : decode cc pc = .ok (.getfield 21, 3)) : snd RX2 cc nL ini pc (pc + 3) (s_get 2 3 10) := snd_getfield (C := RX2) (T := TX2) (N := 11) (ci := 2) (kf := 3) (kd := 10) (index := 21) (f := 3) cl_2 in_2 (by decide) nf_2 (by decide) rfl rfl rfl m_362 hd
theorem cs_RX2_63 {cc : ByteArray} {nL : Nat} {ini : Bool} {pcs : List Nat} {rF rL pc b : Nat} (hb1 : pcs[b]? = some (pc + 3)) (qF : 3 ≤ rF) (qL : 72 ≤ rL) (hd : decode cc pc = .ok (.invokevirtual 63, 3)) : sndQ mtab RX2 cc nL ini pcs rF rL pc (t_cv 8 kSt_readFrom 1 0 b) := sndQ_cv cl_8 (by decide) hb1 mt_St_readFrom m_414 m_411 m_412 m_413 m_8 ⟨rfl, by decide, by decide, by decide +kernel⟩ qF qL hd
theorem gf_RX2_28 {cc : ByteArray} {nL : Nat} {ini : Bool} {pc : Nat} (hd : decode cc pc = .ok (.getfield 28, 3)) : snd RX2 cc nL ini pc (pc + 3) (s_get 2 4 6) := snd_getfield (C := RX2) (T := TX2) (N := 11) (ci := 2) (kf := 4) (kd := 6) (index := 28) (f := 4) cl_2 in_2 (by decide) nf_2 (by decide) rfl rfl rfl m_364 hd
theorem cs_RX2_66 {cc : ByteArray} {nL : Nat} {ini : Bool} {pcs : List Nat} {rF rL pc b : Nat} (hb1 : pcs[b]? = some (pc + 3)) (qF : 3 ≤ rF) (qL : 70 ≤ rL) (hd : decode cc pc = .ok (.invokevirtual 66, 3)) : sndQ mtab RX2 cc nL ini pcs rF rL pc (t_cv 4 kPr_readFrom 1 0 b) := sndQ_cv cl_4 (by decide) hb1 mt_Pr_readFrom m_434 m_431 m_432 m_433 m_9 ⟨rfl, by decide, by decide, by decide +kernel⟩ qF qL hd
theorem cs_RX2_67 {cc : ByteArray} {nL : Nat} {ini : Bool} {pcs : List Nat} {rF rL pc b : Nat} (hb1 : pcs[b]? = some (pc + 3)) (qF : 3 ≤ rF) (qL : 71 ≤ rL) (hd : decode cc pc = .ok (.invokevirtual 67, 3)) : sndQ mtab RX2 cc nL ini pcs rF rL pc (t_cv 2 kHd_readMonth 1 0 b) := sndQ_cv cl_2 (by decide) hb1 mt_Hd_readMonth m_443 m_440 m_442 ms_7 m_7 ⟨rfl, by decide, by decide, by decide +kernel⟩ qF qL hd
theorem cs_RX2_70 {cc : ByteArray} {nL : Nat} {ini : Bool} {pcs : List Nat} {rF rL pc b : Nat} (hb1 : pcs[b]? = some (pc + 3)) (qF : 3 ≤ rF) (qL : 71 ≤ rL) (hd : decode cc pc = .ok (.invokevirtual 70, 3)) : sndQ mtab RX2 cc nL ini pcs rF rL pc (t_cv 2 kHd_readExtra 2 0 b) := sndQ_cv cl_2 (by decide) hb1 mt_Hd_readExtra m_447 m_444 m_446 ms_8 m_7 ⟨rfl, by decide, by decide, by decide +kernel⟩ qF qL hd
theorem cs_RX2_74 {cc : ByteArray} {nL : Nat} {ini : Bool} {pcs : List Nat} {rF rL pc b : Nat} (hb1 : pcs[b]? = some (pc + 3)) (qF : 2 ≤ rF) (qL : 43 ≤ rL) (hd : decode cc pc = .ok (.invokevirtual 74, 3)) : sndQ mtab RX2 cc nL ini pcs rF rL pc (t_cv 5 kRd_refuse 0 0 b) := sndQ_cv cl_5 (by decide) hb1 mt_Rd_refuse m_248 m_406 m_246 m_247 m_3 ⟨rfl, by decide, by decide, by decide +kernel⟩ qF qL hd
theorem gf_RX2_77 {cc : ByteArray} {nL : Nat} {ini : Bool} {pc : Nat} (hd : decode cc pc = .ok (.getfield 77, 3)) : snd RX2 cc nL ini pc (pc + 3) (s_get 2 2 0) := snd_getfield (C := RX2) (T := TX2) (N := 11) (ci := 2) (kf := 2) (kd := 0) (index := 77) (f := 2) cl_2 in_2 (by decide) nf_2 (by decide) rfl rfl rfl m_361 hd
theorem gf_RX2_11 {cc : ByteArray} {nL : Nat} {ini : Bool} {pc : Nat} (hd : decode cc pc = .ok (.getfield 11, 3)) : snd RX2 cc nL ini pc (pc + 3) (s_get 2 0 102) := snd_getfield (C := RX2) (T := TX2) (N := 11) (ci := 2) (kf := 0) (kd := 102) (index := 11) (f := 0) cl_2 in_2 (by decide) nf_2 (by decide) rfl rfl rfl m_359 hd
theorem cs_RX2_80 {cc : ByteArray} {nL : Nat} {ini : Bool} {pcs : List Nat} {rF rL pc b : Nat} (hb1 : pcs[b]? = some (pc + 3)) (qF : 2 ≤ rF) (qL : 47 ≤ rL) (hd : decode cc pc = .ok (.invokevirtual 80, 3)) : sndQ mtab RX2 cc nL ini pcs rF rL pc (t_cv 5 kRd_number 2 1 b) := sndQ_cv cl_5 (by decide) hb1 mt_Rd_number m_178 m_408 m_176 m_177 m_3 ⟨rfl, by decide, by decide, by decide +kernel⟩ qF qL hd
theorem cs_RX2_84 {cc : ByteArray} {nL : Nat} {ini : Bool} {pcs : List Nat} {rF rL pc b : Nat} (hb1 : pcs[b]? = some (pc + 3)) (qF : 2 ≤ rF) (qL : 44 ≤ rL) (hd : decode cc pc = .ok (.invokevirtual 84, 3)) : sndQ mtab RX2 cc nL ini pcs rF rL pc (t_cv 5 kRd_expect 1 0 b) := sndQ_cv cl_5 (by decide) hb1 mt_Rd_expect m_190 m_409 m_188 m_189 m_3 ⟨rfl, by decide, by decide, by decide +kernel⟩ qF qL hd
theorem gf_RX2_15 {cc : ByteArray} {nL : Nat} {ini : Bool} {pc : Nat} (hd : decode cc pc = .ok (.getfield 15, 3)) : snd RX2 cc nL ini pc (pc + 3) (s_get 2 1 102) := snd_getfield (C := RX2) (T := TX2) (N := 11) (ci := 2) (kf := 1) (kd := 102) (index := 15) (f := 1) cl_2 in_2 (by decide) nf_2 (by decide) rfl rfl rfl m_360 hd
theorem cs_RX2_88 {cc : ByteArray} {nL : Nat} {ini : Bool} {pcs : List Nat} {rF rL pc b : Nat} (hb1 : pcs[b]? = some (pc + 3)) (qF : 2 ≤ rF) (qL : 43 ≤ rL) (hd : decode cc pc = .ok (.invokevirtual 88, 3)) : sndQ mtab RX2 cc nL ini pcs rF rL pc (t_cv 5 kRd_refuseNumber 0 0 b) := sndQ_cv cl_5 (by decide) hb1 mt_Rd_refuseNumber m_273 m_410 m_271 m_272 m_3 ⟨rfl, by decide, by decide, by decide +kernel⟩ qF qL hd
theorem pf_RX2_77 {cc : ByteArray} {nL : Nat} {ini : Bool} {pc : Nat} (hd : decode cc pc = .ok (.putfield 77, 3)) : snd RX2 cc nL ini pc (pc + 3) (s_put 2 2 0) := snd_putfield (C := RX2) (T := TX2) (N := 11) (ci := 2) (kf := 2) (kd := 0) (index := 77) (f := 2) cl_2 in_2 (by decide) nf_2 (by decide) rfl rfl rfl tyX2_ok nmX2 rfl rfl m_361 hd
theorem gf_RX2_32 {cc : ByteArray} {nL : Nat} {ini : Bool} {pc : Nat} (hd : decode cc pc = .ok (.getfield 32, 3)) : snd RX2 cc nL ini pc (pc + 3) (s_get 2 5 104) := snd_getfield (C := RX2) (T := TX2) (N := 11) (ci := 2) (kf := 5) (kd := 104) (index := 32) (f := 5) cl_2 in_2 (by decide) nf_2 (by decide) rfl rfl rfl m_366 hd
theorem pf_RX2_91 {cc : ByteArray} {nL : Nat} {ini : Bool} {pc : Nat} (hd : decode cc pc = .ok (.putfield 91, 3)) : snd RX2 cc nL ini pc (pc + 3) (s_put 2 6 0) := snd_putfield (C := RX2) (T := TX2) (N := 11) (ci := 2) (kf := 6) (kd := 0) (index := 91) (f := 6) cl_2 in_2 (by decide) nf_2 (by decide) rfl rfl rfl tyX2_ok nmX2 rfl rfl m_367 hd
theorem gf_RX2_91 {cc : ByteArray} {nL : Nat} {ini : Bool} {pc : Nat} (hd : decode cc pc = .ok (.getfield 91, 3)) : snd RX2 cc nL ini pc (pc + 3) (s_get 2 6 0) := snd_getfield (C := RX2) (T := TX2) (N := 11) (ci := 2) (kf := 6) (kd := 0) (index := 91) (f := 6) cl_2 in_2 (by decide) nf_2 (by decide) rfl rfl rfl m_367 hd
theorem gf_RX2_36 {cc : ByteArray} {nL : Nat} {ini : Bool} {pc : Nat} (hd : decode cc pc = .ok (.getfield 36, 3)) : snd RX2 cc nL ini pc (pc + 3) (s_get 2 7 102) := snd_getfield (C := RX2) (T := TX2) (N := 11) (ci := 2) (kf := 7) (kd := 102) (index := 36) (f := 7) cl_2 in_2 (by decide) nf_2 (by decide) rfl rfl rfl m_368 hd
theorem cs_RX2_96 {cc : ByteArray} {nL : Nat} {ini : Bool} {pcs : List Nat} {rF rL pc b : Nat} (hb1 : pcs[b]? = some (pc + 3)) (qF : 2 ≤ rF) (qL : 47 ≤ rL) (hd : decode cc pc = .ok (.invokespecial 96, 3)) : sndQ mtab RX2 cc nL ini pcs rF rL pc (t_cv 6 kRw_init 1 0 b) := sndQ_ci cl_6 (by decide) hb1 mt_Rw_init m_529 m_527 m_528 m_11 rfl ⟨by decide, by decide, by decide +kernel⟩ qF qL hd
theorem pf_RX2_98 {cc : ByteArray} {nL : Nat} {ini : Bool} {pc : Nat} (hd : decode cc pc = .ok (.putfield 98, 3)) : snd RX2 cc nL ini pc (pc + 3) (s_put 2 9 8) := snd_putfield (C := RX2) (T := TX2) (N := 11) (ci := 2) (kf := 9) (kd := 8) (index := 98) (f := 9) cl_2 in_2 (by decide) nf_2 (by decide) rfl rfl rfl tyX2_ok nmX2 (Or.inl ⟨_, rfl⟩) rfl m_371 hd
theorem gf_RX2_98 {cc : ByteArray} {nL : Nat} {ini : Bool} {pc : Nat} (hd : decode cc pc = .ok (.getfield 98, 3)) : snd RX2 cc nL ini pc (pc + 3) (s_get 2 9 8) := snd_getfield (C := RX2) (T := TX2) (N := 11) (ci := 2) (kf := 9) (kd := 8) (index := 98) (f := 9) cl_2 in_2 (by decide) nf_2 (by decide) rfl rfl rfl m_371 hd
theorem cs_RX2_102 {cc : ByteArray} {nL : Nat} {ini : Bool} {pcs : List Nat} {rF rL pc b : Nat} (hb1 : pcs[b]? = some (pc + 3)) (qF : 2 ≤ rF) (qL : 44 ≤ rL) (hd : decode cc pc = .ok (.invokevirtual 102, 3)) : sndQ mtab RX2 cc nL ini pcs rF rL pc (t_cv 6 kRw_know 1 0 b) := sndQ_cv cl_6 (by decide) hb1 mt_Rw_know m_549 m_546 m_547 m_548 m_11 ⟨rfl, by decide, by decide, by decide +kernel⟩ qF qL hd
theorem cs_RX2_105 {cc : ByteArray} {nL : Nat} {ini : Bool} {pcs : List Nat} {rF rL pc b : Nat} (hb1 : pcs[b]? = some (pc + 3)) (qF : 4 ≤ rF) (qL : 102 ≤ rL) (hd : decode cc pc = .ok (.invokevirtual 105, 3)) : sndQ mtab RX2 cc nL ini pcs rF rL pc (t_cv 6 kRw_find 2 0 b) := sndQ_cv cl_6 (by decide) hb1 mt_Rw_find m_557 m_554 m_555 m_556 m_11 ⟨rfl, by decide, by decide, by decide +kernel⟩ qF qL hd
theorem pf_RX2_109 {cc : ByteArray} {nL : Nat} {ini : Bool} {pc : Nat} (hd : decode cc pc = .ok (.putfield 109, 3)) : snd RX2 cc nL ini pc (pc + 3) (s_put 2 10 8) := snd_putfield (C := RX2) (T := TX2) (N := 11) (ci := 2) (kf := 10) (kd := 8) (index := 109) (f := 10) cl_2 in_2 (by decide) nf_2 (by decide) rfl rfl rfl tyX2_ok nmX2 (Or.inl ⟨_, rfl⟩) rfl m_373 hd
theorem gf_RX2_109 {cc : ByteArray} {nL : Nat} {ini : Bool} {pc : Nat} (hd : decode cc pc = .ok (.getfield 109, 3)) : snd RX2 cc nL ini pc (pc + 3) (s_get 2 10 8) := snd_getfield (C := RX2) (T := TX2) (N := 11) (ci := 2) (kf := 10) (kd := 8) (index := 109) (f := 10) cl_2 in_2 (by decide) nf_2 (by decide) rfl rfl rfl m_373 hd
theorem cs_RX2_112 {cc : ByteArray} {nL : Nat} {ini : Bool} {pcs : List Nat} {rF rL pc b : Nat} (hb1 : pcs[b]? = some (pc + 3)) (qF : 1 ≤ rF) (qL : 21 ≤ rL) (hd : decode cc pc = .ok (.invokestatic 112, 3)) : sndQ mtab RX2 cc nL ini pcs rF rL pc (t_cs kJ_max 2 1 b) := sndQ_cs hb1 mt_J_max m_429 m_738 m_428 m_4 ⟨by decide, by decide, by decide +kernel⟩ qF qL hd
theorem gf_RX2_129 {cc : ByteArray} {nL : Nat} {ini : Bool} {pc : Nat} (hd : decode cc pc = .ok (.getfield 129, 3)) : snd RX2 cc nL ini pc (pc + 3) (s_get 7 4 0) := snd_getfieldN (host := "DayBoy") (C := RX8) (T := TX8) (N := 6) (ci := 7) (kf := 4) (kd := 0) (index := 129) (f := 4) cl_7 in_7 (by decide) nf_7 (by decide) rfl rfl rfl mn_wN1_25 hd
theorem gf_RX2_126 {cc : ByteArray} {nL : Nat} {ini : Bool} {pc : Nat} (hd : decode cc pc = .ok (.getfield 126, 3)) : snd RX2 cc nL ini pc (pc + 3) (s_get 7 3 0) := snd_getfieldN (host := "DayBoy") (C := RX8) (T := TX8) (N := 6) (ci := 7) (kf := 3) (kd := 0) (index := 126) (f := 3) cl_7 in_7 (by decide) nf_7 (by decide) rfl rfl rfl mn_wN1_26 hd
theorem gf_RX2_123 {cc : ByteArray} {nL : Nat} {ini : Bool} {pc : Nat} (hd : decode cc pc = .ok (.getfield 123, 3)) : snd RX2 cc nL ini pc (pc + 3) (s_get 7 2 0) := snd_getfieldN (host := "DayBoy") (C := RX8) (T := TX8) (N := 6) (ci := 7) (kf := 2) (kd := 0) (index := 123) (f := 2) cl_7 in_7 (by decide) nf_7 (by decide) rfl rfl rfl mn_wN1_27 hd
theorem gf_RX2_117 {cc : ByteArray} {nL : Nat} {ini : Bool} {pc : Nat} (hd : decode cc pc = .ok (.getfield 117, 3)) : snd RX2 cc nL ini pc (pc + 3) (s_get 7 1 2) := snd_getfieldN (host := "DayBoy") (C := RX8) (T := TX8) (N := 6) (ci := 7) (kf := 1) (kd := 2) (index := 117) (f := 1) cl_7 in_7 (by decide) nf_7 (by decide) rfl rfl rfl mn_wN1_28 hd
theorem cs_RX2_132 {cc : ByteArray} {nL : Nat} {ini : Bool} {pcs : List Nat} {rF rL pc b : Nat} (hb1 : pcs[b]? = some (pc + 3)) (qF : 4 ≤ rF) (qL : 106 ≤ rL) (hd : decode cc pc = .ok (.invokevirtual 132, 3)) : sndQ mtab RX2 cc nL ini pcs rF rL pc (t_cv 2 kHd_toldFor 4 1 b) := sndQ_cv cl_2 (by decide) hb1 mt_Hd_toldFor m_728 m_831 m_726 m_727 m_7 ⟨rfl, by decide, by decide, by decide +kernel⟩ qF qL hd
theorem cs_RX2_136 {cc : ByteArray} {nL : Nat} {ini : Bool} {pcs : List Nat} {rF rL pc b : Nat} (hb1 : pcs[b]? = some (pc + 3)) (qF : 3 ≤ rF) (qL : 76 ≤ rL) (hd : decode cc pc = .ok (.invokevirtual 136, 3)) : sndQ mtab RX2 cc nL ini pcs rF rL pc (t_cv 0 kAl_dayOn 3 1 b) := sndQ_cv cl_0 (by decide) hb1 mt_Al_dayOn m_497 m_729 m_495 m_496 m_5 ⟨rfl, by decide, by decide, by decide +kernel⟩ qF qL hd
theorem cs_RX2_142 {cc : ByteArray} {nL : Nat} {ini : Bool} {pcs : List Nat} {rF rL pc b : Nat} (hb1 : pcs[b]? = some (pc + 3)) (qF : 2 ≤ rF) (qL : 44 ≤ rL) (hd : decode cc pc = .ok (.invokevirtual 142, 3)) : sndQ mtab RX2 cc nL ini pcs rF rL pc (t_cv 6 kRw_endOf 1 1 b) := sndQ_cv cl_6 (by decide) hb1 mt_Rw_endOf m_733 m_730 m_731 m_732 m_11 ⟨rfl, by decide, by decide, by decide +kernel⟩ qF qL hd
theorem cs_RX2_146 {cc : ByteArray} {nL : Nat} {ini : Bool} {pcs : List Nat} {rF rL pc b : Nat} (hb1 : pcs[b]? = some (pc + 3)) (qF : 2 ≤ rF) (qL : 44 ≤ rL) (hd : decode cc pc = .ok (.invokevirtual 146, 3)) : sndQ mtab RX2 cc nL ini pcs rF rL pc (t_cv 2 kHd_extraOf 1 1 b) := sndQ_cv cl_2 (by decide) hb1 mt_Hd_extraOf m_737 m_734 m_736 ms_22 m_7 ⟨rfl, by decide, by decide, by decide +kernel⟩ qF qL hd
theorem cs_RX2_149 {cc : ByteArray} {nL : Nat} {ini : Bool} {pcs : List Nat} {rF rL pc b : Nat} (hb1 : pcs[b]? = some (pc + 3)) (qF : 2 ≤ rF) (qL : 44 ≤ rL) (hd : decode cc pc = .ok (.invokevirtual 149, 3)) : sndQ mtab RX2 cc nL ini pcs rF rL pc (t_cv 6 kRw_costOf 1 1 b) := sndQ_cv cl_6 (by decide) hb1 mt_Rw_costOf m_742 m_739 m_740 m_741 m_11 ⟨rfl, by decide, by decide, by decide +kernel⟩ qF qL hd
theorem cs_RX2_152 {cc : ByteArray} {nL : Nat} {ini : Bool} {pcs : List Nat} {rF rL pc b : Nat} (hb1 : pcs[b]? = some (pc + 3)) (qF : 1 ≤ rF) (qL : 20 ≤ rL) (hd : decode cc pc = .ok (.invokestatic 152, 3)) : sndQ mtab RX2 cc nL ini pcs rF rL pc (t_cs kX_yearOfKey 1 1 b) := sndQ_csN (host := "DayBoy") hb1 mt_X_yearOfKey m_281 mn_wN2_5 m_280 m_1 ⟨by decide, by decide, by decide +kernel⟩ qF qL hd
theorem cs_RX2_155 {cc : ByteArray} {nL : Nat} {ini : Bool} {pcs : List Nat} {rF rL pc b : Nat} (hb1 : pcs[b]? = some (pc + 3)) (qF : 1 ≤ rF) (qL : 20 ≤ rL) (hd : decode cc pc = .ok (.invokestatic 155, 3)) : sndQ mtab RX2 cc nL ini pcs rF rL pc (t_cs kX_monthOfKey 1 1 b) := sndQ_csN (host := "DayBoy") hb1 mt_X_monthOfKey m_284 mn_wN2_6 m_283 m_1 ⟨by decide, by decide, by decide +kernel⟩ qF qL hd
theorem cs_RX2_158 {cc : ByteArray} {nL : Nat} {ini : Bool} {pcs : List Nat} {rF rL pc b : Nat} (hb1 : pcs[b]? = some (pc + 3)) (qF : 1 ≤ rF) (qL : 20 ≤ rL) (hd : decode cc pc = .ok (.invokestatic 158, 3)) : sndQ mtab RX2 cc nL ini pcs rF rL pc (t_cs kX_dateOfKey 1 1 b) := sndQ_csN (host := "DayBoy") hb1 mt_X_dateOfKey m_287 mn_wN2_7 m_286 m_1 ⟨by decide, by decide, by decide +kernel⟩ qF qL hd
theorem cs_RX2_161 {cc : ByteArray} {nL : Nat} {ini : Bool} {pcs : List Nat} {rF rL pc b : Nat} (hb1 : pcs[b]? = some (pc + 3)) (qF : 2 ≤ rF) (qL : 44 ≤ rL) (hd : decode cc pc = .ok (.invokevirtual 161, 3)) : sndQ mtab RX2 cc nL ini pcs rF rL pc (t_cv 6 kRw_stepCount 1 1 b) := sndQ_cv cl_6 (by decide) hb1 mt_Rw_stepCount m_750 m_769 m_748 m_749 m_11 ⟨rfl, by decide, by decide, by decide +kernel⟩ qF qL hd
theorem cs_RX2_164 {cc : ByteArray} {nL : Nat} {ini : Bool} {pcs : List Nat} {rF rL pc b : Nat} (hb1 : pcs[b]? = some (pc + 3)) (qF : 2 ≤ rF) (qL : 44 ≤ rL) (hd : decode cc pc = .ok (.invokevirtual 164, 3)) : sndQ mtab RX2 cc nL ini pcs rF rL pc (t_cv 6 kRw_nextOf 1 1 b) := sndQ_cv cl_6 (by decide) hb1 mt_Rw_nextOf m_754 m_770 m_752 m_753 m_11 ⟨rfl, by decide, by decide, by decide +kernel⟩ qF qL hd
theorem cs_RX2_167 {cc : ByteArray} {nL : Nat} {ini : Bool} {pcs : List Nat} {rF rL pc b : Nat} (hb1 : pcs[b]? = some (pc + 3)) (qF : 2 ≤ rF) (qL : 45 ≤ rL) (hd : decode cc pc = .ok (.invokevirtual 167, 3)) : sndQ mtab RX2 cc nL ini pcs rF rL pc (t_cv 0 kAl_areLike 2 1 b) := sndQ_cv cl_0 (by decide) hb1 mt_Al_areLike m_774 m_771 m_772 m_773 m_5 ⟨rfl, by decide, by decide, by decide +kernel⟩ qF qL hd
theorem cs_RX2_171 {cc : ByteArray} {nL : Nat} {ini : Bool} {pcs : List Nat} {rF rL pc b : Nat} (hb1 : pcs[b]? = some (pc + 3)) (qF : 4 ≤ rF) (qL : 103 ≤ rL) (hd : decode cc pc = .ok (.invokevirtual 171, 3)) : sndQ mtab RX2 cc nL ini pcs rF rL pc (t_cv 0 kAl_areAlike 3 1 b) := sndQ_cv cl_0 (by decide) hb1 mt_Al_areAlike m_711 m_776 m_709 m_710 m_5 ⟨rfl, by decide, by decide, by decide +kernel⟩ qF qL hd
theorem gf_RX2_175 {cc : ByteArray} {nL : Nat} {ini : Bool} {pc : Nat} (hd : decode cc pc = .ok (.getfield 175, 3)) : snd RX2 cc nL ini pc (pc + 3) (s_get 8 0 102) := snd_getfieldN (host := "DayBoy") (C := RX9) (T := TX9) (N := 4) (ci := 8) (kf := 0) (kd := 102) (index := 175) (f := 0) cl_8 in_8 (by decide) nf_8 (by decide) rfl rfl rfl mn_wN1_29 hd
theorem gf_RX2_181 {cc : ByteArray} {nL : Nat} {ini : Bool} {pc : Nat} (hd : decode cc pc = .ok (.getfield 181, 3)) : snd RX2 cc nL ini pc (pc + 3) (s_get 4 1 102) := snd_getfieldN (host := "DayBoy") (C := RX5) (T := TX5) (N := 4) (ci := 4) (kf := 1) (kd := 102) (index := 181) (f := 1) cl_4 in_4 (by decide) nf_4 (by decide) rfl rfl rfl mn_wN1_30 hd
theorem gf_RX2_178 {cc : ByteArray} {nL : Nat} {ini : Bool} {pc : Nat} (hd : decode cc pc = .ok (.getfield 178, 3)) : snd RX2 cc nL ini pc (pc + 3) (s_get 4 0 102) := snd_getfieldN (host := "DayBoy") (C := RX5) (T := TX5) (N := 4) (ci := 4) (kf := 0) (kd := 102) (index := 178) (f := 0) cl_4 in_4 (by decide) nf_4 (by decide) rfl rfl rfl mn_wN1_31 hd
theorem pf_RX3_7 {cc : ByteArray} {nL : Nat} {pc : Nat} (hd : decode cc pc = .ok (.putfield 7, 3)) : snd RX3 cc nL true pc (pc + 3) (s_put 3 0 102) := snd_putfieldF (C := RX3) (T := TX3) (N := 3) (ci := 3) (kf := 0) (kd := 102) (index := 7) (f := 0) cl_3 in_3 (by decide) nf_3 (by decide) rfl rfl rfl tyX3_ok nmX3 (Or.inr ⟨_, rfl⟩) rfl rfl rfl m_510 hd
theorem pf_RX3_13 {cc : ByteArray} {nL : Nat} {pc : Nat} (hd : decode cc pc = .ok (.putfield 13, 3)) : snd RX3 cc nL true pc (pc + 3) (s_put 3 1 102) := snd_putfieldF (C := RX3) (T := TX3) (N := 3) (ci := 3) (kf := 1) (kd := 102) (index := 13) (f := 1) cl_3 in_3 (by decide) nf_3 (by decide) rfl rfl rfl tyX3_ok nmX3 (Or.inr ⟨_, rfl⟩) rfl rfl rfl m_511 hd
theorem gf_RX3_16 {cc : ByteArray} {nL : Nat} {ini : Bool} {pc : Nat} (hd : decode cc pc = .ok (.getfield 16, 3)) : snd RX3 cc nL ini pc (pc + 3) (s_get 3 2 0) := snd_getfield (C := RX3) (T := TX3) (N := 3) (ci := 3) (kf := 2) (kd := 0) (index := 16) (f := 2) cl_3 in_3 (by decide) nf_3 (by decide) rfl rfl rfl m_512 hd
theorem gf_RX3_7 {cc : ByteArray} {nL : Nat} {ini : Bool} {pc : Nat} (hd : decode cc pc = .ok (.getfield 7, 3)) : snd RX3 cc nL ini pc (pc + 3) (s_get 3 0 102) := snd_getfield (C := RX3) (T := TX3) (N := 3) (ci := 3) (kf := 0) (kd := 102) (index := 7) (f := 0) cl_3 in_3 (by decide) nf_3 (by decide) rfl rfl rfl m_510 hd
theorem gf_RX3_13 {cc : ByteArray} {nL : Nat} {ini : Bool} {pc : Nat} (hd : decode cc pc = .ok (.getfield 13, 3)) : snd RX3 cc nL ini pc (pc + 3) (s_get 3 1 102) := snd_getfield (C := RX3) (T := TX3) (N := 3) (ci := 3) (kf := 1) (kd := 102) (index := 13) (f := 1) cl_3 in_3 (by decide) nf_3 (by decide) rfl rfl rfl m_511 hd
theorem pf_RX3_16 {cc : ByteArray} {nL : Nat} {ini : Bool} {pc : Nat} (hd : decode cc pc = .ok (.putfield 16, 3)) : snd RX3 cc nL ini pc (pc + 3) (s_put 3 2 0) := snd_putfield (C := RX3) (T := TX3) (N := 3) (ci := 3) (kf := 2) (kd := 0) (index := 16) (f := 2) cl_3 in_3 (by decide) nf_3 (by decide) rfl rfl rfl tyX3_ok nmX3 rfl rfl m_512 hd
theorem cs_RX3_20 {cc : ByteArray} {nL : Nat} {ini : Bool} {pcs : List Nat} {rF rL pc b : Nat} (hb1 : pcs[b]? = some (pc + 3)) (qF : 1 ≤ rF) (qL : 22 ≤ rL) (hd : decode cc pc = .ok (.invokevirtual 20, 3)) : sndQ mtab RX3 cc nL ini pcs rF rL pc (t_cv 3 kHp_set 2 0 b) := sndQ_cv cl_3 (by decide) hb1 mt_Hp_set m_569 m_566 m_568 ms_13 m_10 ⟨rfl, by decide, by decide, by decide +kernel⟩ qF qL hd
theorem cs_RX3_24 {cc : ByteArray} {nL : Nat} {ini : Bool} {pcs : List Nat} {rF rL pc b : Nat} (hb1 : pcs[b]? = some (pc + 3)) (qF : 2 ≤ rF) (qL : 50 ≤ rL) (hd : decode cc pc = .ok (.invokevirtual 24, 3)) : sndQ mtab RX3 cc nL ini pcs rF rL pc (t_cv 3 kHp_sink 2 0 b) := sndQ_cv cl_3 (by decide) hb1 mt_Hp_sink m_577 m_574 m_576 ms_14 m_10 ⟨rfl, by decide, by decide, by decide +kernel⟩ qF qL hd
theorem cs_RX3_28 {cc : ByteArray} {nL : Nat} {ini : Bool} {pcs : List Nat} {rF rL pc b : Nat} (hb1 : pcs[b]? = some (pc + 3)) (qF : 1 ≤ rF) (qL : 23 ≤ rL) (hd : decode cc pc = .ok (.invokevirtual 28, 3)) : sndQ mtab RX3 cc nL ini pcs rF rL pc (t_cv 3 kHp_lesserChild 2 1 b) := sndQ_cv cl_3 (by decide) hb1 mt_Hp_lesserChild m_581 m_578 m_580 ms_15 m_10 ⟨rfl, by decide, by decide, by decide +kernel⟩ qF qL hd
theorem pf_RX5_9 {cc : ByteArray} {nL : Nat} {pc : Nat} (hd : decode cc pc = .ok (.putfield 9, 3)) : snd RX5 cc nL true pc (pc + 3) (s_put 4 0 102) := snd_putfieldF (C := RX5) (T := TX5) (N := 4) (ci := 4) (kf := 0) (kd := 102) (index := 9) (f := 0) cl_4 in_4 (by decide) nf_4 (by decide) rfl rfl rfl tyX5_ok nmX5 (Or.inr ⟨_, rfl⟩) rfl rfl rfl m_343 hd
theorem pf_RX5_13 {cc : ByteArray} {nL : Nat} {pc : Nat} (hd : decode cc pc = .ok (.putfield 13, 3)) : snd RX5 cc nL true pc (pc + 3) (s_put 4 1 102) := snd_putfieldF (C := RX5) (T := TX5) (N := 4) (ci := 4) (kf := 1) (kd := 102) (index := 13) (f := 1) cl_4 in_4 (by decide) nf_4 (by decide) rfl rfl rfl tyX5_ok nmX5 (Or.inr ⟨_, rfl⟩) rfl rfl rfl m_345 hd
theorem pf_RX5_16 {cc : ByteArray} {nL : Nat} {pc : Nat} (hd : decode cc pc = .ok (.putfield 16, 3)) : snd RX5 cc nL true pc (pc + 3) (s_put 4 2 102) := snd_putfieldF (C := RX5) (T := TX5) (N := 4) (ci := 4) (kf := 2) (kd := 102) (index := 16) (f := 2) cl_4 in_4 (by decide) nf_4 (by decide) rfl rfl rfl tyX5_ok nmX5 (Or.inr ⟨_, rfl⟩) rfl rfl rfl m_347 hd
theorem gf_RX5_19 {cc : ByteArray} {nL : Nat} {ini : Bool} {pc : Nat} (hd : decode cc pc = .ok (.getfield 19, 3)) : snd RX5 cc nL ini pc (pc + 3) (s_get 4 3 0) := snd_getfield (C := RX5) (T := TX5) (N := 4) (ci := 4) (kf := 3) (kd := 0) (index := 19) (f := 3) cl_4 in_4 (by decide) nf_4 (by decide) rfl rfl rfl m_348 hd
theorem gf_RX5_9 {cc : ByteArray} {nL : Nat} {ini : Bool} {pc : Nat} (hd : decode cc pc = .ok (.getfield 9, 3)) : snd RX5 cc nL ini pc (pc + 3) (s_get 4 0 102) := snd_getfield (C := RX5) (T := TX5) (N := 4) (ci := 4) (kf := 0) (kd := 102) (index := 9) (f := 0) cl_4 in_4 (by decide) nf_4 (by decide) rfl rfl rfl m_343 hd
theorem gf_RX5_13 {cc : ByteArray} {nL : Nat} {ini : Bool} {pc : Nat} (hd : decode cc pc = .ok (.getfield 13, 3)) : snd RX5 cc nL ini pc (pc + 3) (s_get 4 1 102) := snd_getfield (C := RX5) (T := TX5) (N := 4) (ci := 4) (kf := 1) (kd := 102) (index := 13) (f := 1) cl_4 in_4 (by decide) nf_4 (by decide) rfl rfl rfl m_345 hd
theorem gf_RX5_16 {cc : ByteArray} {nL : Nat} {ini : Bool} {pc : Nat} (hd : decode cc pc = .ok (.getfield 16, 3)) : snd RX5 cc nL ini pc (pc + 3) (s_get 4 2 102) := snd_getfield (C := RX5) (T := TX5) (N := 4) (ci := 4) (kf := 2) (kd := 102) (index := 16) (f := 2) cl_4 in_4 (by decide) nf_4 (by decide) rfl rfl rfl m_347 hd
theorem cs_RX5_23 {cc : ByteArray} {nL : Nat} {ini : Bool} {pcs : List Nat} {rF rL pc b : Nat} (hb1 : pcs[b]? = some (pc + 3)) (qF : 2 ≤ rF) (qL : 43 ≤ rL) (hd : decode cc pc = .ok (.invokevirtual 23, 3)) : sndQ mtab RX5 cc nL ini pcs rF rL pc (t_cv 5 kRd_refuse 0 0 b) := sndQ_cv cl_5 (by decide) hb1 mt_Rd_refuse m_248 m_435 m_246 m_247 m_3 ⟨rfl, by decide, by decide, by decide +kernel⟩ qF qL hd
theorem cs_RX5_28 {cc : ByteArray} {nL : Nat} {ini : Bool} {pcs : List Nat} {rF rL pc b : Nat} (hb1 : pcs[b]? = some (pc + 3)) (qF : 2 ≤ rF) (qL : 44 ≤ rL) (hd : decode cc pc = .ok (.invokevirtual 28, 3)) : sndQ mtab RX5 cc nL ini pcs rF rL pc (t_cv 5 kRd_takes 1 1 b) := sndQ_cv cl_5 (by decide) hb1 mt_Rd_takes m_242 m_436 m_240 m_241 m_3 ⟨rfl, by decide, by decide, by decide +kernel⟩ qF qL hd
theorem cs_RX5_32 {cc : ByteArray} {nL : Nat} {ini : Bool} {pcs : List Nat} {rF rL pc b : Nat} (hb1 : pcs[b]? = some (pc + 3)) (qF : 2 ≤ rF) (qL : 47 ≤ rL) (hd : decode cc pc = .ok (.invokevirtual 32, 3)) : sndQ mtab RX5 cc nL ini pcs rF rL pc (t_cv 5 kRd_number 2 1 b) := sndQ_cv cl_5 (by decide) hb1 mt_Rd_number m_178 m_437 m_176 m_177 m_3 ⟨rfl, by decide, by decide, by decide +kernel⟩ qF qL hd
theorem cs_RX5_36 {cc : ByteArray} {nL : Nat} {ini : Bool} {pcs : List Nat} {rF rL pc b : Nat} (hb1 : pcs[b]? = some (pc + 3)) (qF : 2 ≤ rF) (qL : 44 ≤ rL) (hd : decode cc pc = .ok (.invokevirtual 36, 3)) : sndQ mtab RX5 cc nL ini pcs rF rL pc (t_cv 5 kRd_expect 1 0 b) := sndQ_cv cl_5 (by decide) hb1 mt_Rd_expect m_190 m_438 m_188 m_189 m_3 ⟨rfl, by decide, by decide, by decide +kernel⟩ qF qL hd
theorem cs_RX5_40 {cc : ByteArray} {nL : Nat} {ini : Bool} {pcs : List Nat} {rF rL pc b : Nat} (hb1 : pcs[b]? = some (pc + 3)) (qF : 2 ≤ rF) (qL : 43 ≤ rL) (hd : decode cc pc = .ok (.invokevirtual 40, 3)) : sndQ mtab RX5 cc nL ini pcs rF rL pc (t_cv 5 kRd_refuseNumber 0 0 b) := sndQ_cv cl_5 (by decide) hb1 mt_Rd_refuseNumber m_273 m_439 m_271 m_272 m_3 ⟨rfl, by decide, by decide, by decide +kernel⟩ qF qL hd
theorem pf_RX5_19 {cc : ByteArray} {nL : Nat} {ini : Bool} {pc : Nat} (hd : decode cc pc = .ok (.putfield 19, 3)) : snd RX5 cc nL ini pc (pc + 3) (s_put 4 3 0) := snd_putfield (C := RX5) (T := TX5) (N := 4) (ci := 4) (kf := 3) (kd := 0) (index := 19) (f := 3) cl_4 in_4 (by decide) nf_4 (by decide) rfl rfl rfl tyX5_ok nmX5 rfl rfl m_348 hd
theorem pf_RX6_18 {cc : ByteArray} {nL : Nat} {pc : Nat} (hd : decode cc pc = .ok (.putfield 18, 3)) : snd RX6 cc nL true pc (pc + 3) (s_put 5 0 102) := snd_putfieldF (C := RX6) (T := TX6) (N := 6) (ci := 5) (kf := 0) (kd := 102) (index := 18) (f := 0) cl_5 in_5 (by decide) nf_5 (by decide) rfl rfl rfl tyX6_ok nmX6 (Or.inr ⟨_, rfl⟩) rfl rfl rfl m_130 hd
theorem pf_RX6_15 {cc : ByteArray} {nL : Nat} {ini : Bool} {pc : Nat} (hd : decode cc pc = .ok (.putfield 15, 3)) : snd RX6 cc nL ini pc (pc + 3) (s_put 5 5 0) := snd_putfield (C := RX6) (T := TX6) (N := 6) (ci := 5) (kf := 5) (kd := 0) (index := 15) (f := 5) cl_5 in_5 (by decide) nf_5 (by decide) rfl rfl rfl tyX6_ok nmX6 rfl rfl m_136 hd
theorem pf_RX6_9 {cc : ByteArray} {nL : Nat} {ini : Bool} {pc : Nat} (hd : decode cc pc = .ok (.putfield 9, 3)) : snd RX6 cc nL ini pc (pc + 3) (s_put 5 4 0) := snd_putfield (C := RX6) (T := TX6) (N := 6) (ci := 5) (kf := 4) (kd := 0) (index := 9) (f := 4) cl_5 in_5 (by decide) nf_5 (by decide) rfl rfl rfl tyX6_ok nmX6 rfl rfl m_135 hd
theorem cs_RX6_22 {cc : ByteArray} {nL : Nat} {ini : Bool} {pcs : List Nat} {rF rL pc b : Nat} (hb1 : pcs[b]? = some (pc + 3)) (qF : 1 ≤ rF) (qL : 21 ≤ rL) (hd : decode cc pc = .ok (.invokestatic 22, 3)) : sndQ mtab RX6 cc nL ini pcs rF rL pc (t_cs kJ_min 2 1 b) := sndQ_cs hb1 mt_J_min m_125 m_123 m_124 m_4 ⟨by decide, by decide, by decide +kernel⟩ qF qL hd
theorem pf_RX6_28 {cc : ByteArray} {nL : Nat} {pc : Nat} (hd : decode cc pc = .ok (.putfield 28, 3)) : snd RX6 cc nL true pc (pc + 3) (s_put 5 1 0) := snd_putfieldF (C := RX6) (T := TX6) (N := 6) (ci := 5) (kf := 1) (kd := 0) (index := 28) (f := 1) cl_5 in_5 (by decide) nf_5 (by decide) rfl rfl rfl tyX6_ok nmX6 rfl rfl rfl rfl m_131 hd
theorem cs_RX6_31 {cc : ByteArray} {nL : Nat} {ini : Bool} {pcs : List Nat} {rF rL pc b : Nat} (hb1 : pcs[b]? = some (pc + 3)) (qF : 1 ≤ rF) (qL : 21 ≤ rL) (hd : decode cc pc = .ok (.invokevirtual 31, 3)) : sndQ mtab RX6 cc nL ini pcs rF rL pc (t_cv 5 kRd_goTo 1 0 b) := sndQ_cv cl_5 (by decide) hb1 mt_Rd_goTo m_129 m_126 m_128 ms_1 m_3 ⟨rfl, by decide, by decide, by decide +kernel⟩ qF qL hd
theorem pf_RX6_35 {cc : ByteArray} {nL : Nat} {ini : Bool} {pc : Nat} (hd : decode cc pc = .ok (.putfield 35, 3)) : snd RX6 cc nL ini pc (pc + 3) (s_put 5 2 0) := snd_putfield (C := RX6) (T := TX6) (N := 6) (ci := 5) (kf := 2) (kd := 0) (index := 35) (f := 2) cl_5 in_5 (by decide) nf_5 (by decide) rfl rfl rfl tyX6_ok nmX6 rfl rfl m_132 hd
theorem gf_RX6_28 {cc : ByteArray} {nL : Nat} {ini : Bool} {pc : Nat} (hd : decode cc pc = .ok (.getfield 28, 3)) : snd RX6 cc nL ini pc (pc + 3) (s_get 5 1 0) := snd_getfield (C := RX6) (T := TX6) (N := 6) (ci := 5) (kf := 1) (kd := 0) (index := 28) (f := 1) cl_5 in_5 (by decide) nf_5 (by decide) rfl rfl rfl m_131 hd
theorem gf_RX6_35 {cc : ByteArray} {nL : Nat} {ini : Bool} {pc : Nat} (hd : decode cc pc = .ok (.getfield 35, 3)) : snd RX6 cc nL ini pc (pc + 3) (s_get 5 2 0) := snd_getfield (C := RX6) (T := TX6) (N := 6) (ci := 5) (kf := 2) (kd := 0) (index := 35) (f := 2) cl_5 in_5 (by decide) nf_5 (by decide) rfl rfl rfl m_132 hd
theorem gf_RX6_18 {cc : ByteArray} {nL : Nat} {ini : Bool} {pc : Nat} (hd : decode cc pc = .ok (.getfield 18, 3)) : snd RX6 cc nL ini pc (pc + 3) (s_get 5 0 102) := snd_getfield (C := RX6) (T := TX6) (N := 6) (ci := 5) (kf := 0) (kd := 102) (index := 18) (f := 0) cl_5 in_5 (by decide) nf_5 (by decide) rfl rfl rfl m_130 hd
theorem gf_RX6_15 {cc : ByteArray} {nL : Nat} {ini : Bool} {pc : Nat} (hd : decode cc pc = .ok (.getfield 15, 3)) : snd RX6 cc nL ini pc (pc + 3) (s_get 5 5 0) := snd_getfield (C := RX6) (T := TX6) (N := 6) (ci := 5) (kf := 5) (kd := 0) (index := 15) (f := 5) cl_5 in_5 (by decide) nf_5 (by decide) rfl rfl rfl m_136 hd
theorem pf_RX6_38 {cc : ByteArray} {nL : Nat} {ini : Bool} {pc : Nat} (hd : decode cc pc = .ok (.putfield 38, 3)) : snd RX6 cc nL ini pc (pc + 3) (s_put 5 3 0) := snd_putfield (C := RX6) (T := TX6) (N := 6) (ci := 5) (kf := 3) (kd := 0) (index := 38) (f := 3) cl_5 in_5 (by decide) nf_5 (by decide) rfl rfl rfl tyX6_ok nmX6 rfl rfl m_133 hd
theorem gf_RX6_38 {cc : ByteArray} {nL : Nat} {ini : Bool} {pc : Nat} (hd : decode cc pc = .ok (.getfield 38, 3)) : snd RX6 cc nL ini pc (pc + 3) (s_get 5 3 0) := snd_getfield (C := RX6) (T := TX6) (N := 6) (ci := 5) (kf := 3) (kd := 0) (index := 38) (f := 3) cl_5 in_5 (by decide) nf_5 (by decide) rfl rfl rfl m_133 hd
theorem cs_RX6_41 {cc : ByteArray} {nL : Nat} {ini : Bool} {pcs : List Nat} {rF rL pc b : Nat} (hb1 : pcs[b]? = some (pc + 3)) (qF : 1 ≤ rF) (qL : 21 ≤ rL) (hd : decode cc pc = .ok (.invokevirtual 41, 3)) : sndQ mtab RX6 cc nL ini pcs rF rL pc (t_cv 5 kRd_refuseAt 1 0 b) := sndQ_cv cl_5 (by decide) hb1 mt_Rd_refuseAt m_186 m_183 m_185 ms_2 m_3 ⟨rfl, by decide, by decide, by decide +kernel⟩ qF qL hd
theorem gf_RX6_9 {cc : ByteArray} {nL : Nat} {ini : Bool} {pc : Nat} (hd : decode cc pc = .ok (.getfield 9, 3)) : snd RX6 cc nL ini pc (pc + 3) (s_get 5 4 0) := snd_getfield (C := RX6) (T := TX6) (N := 6) (ci := 5) (kf := 4) (kd := 0) (index := 9) (f := 4) cl_5 in_5 (by decide) nf_5 (by decide) rfl rfl rfl m_135 hd
theorem cs_RX6_44 {cc : ByteArray} {nL : Nat} {ini : Bool} {pcs : List Nat} {rF rL pc b : Nat} (hb1 : pcs[b]? = some (pc + 3)) (qF : 1 ≤ rF) (qL : 20 ≤ rL) (hd : decode cc pc = .ok (.invokevirtual 44, 3)) : sndQ mtab RX6 cc nL ini pcs rF rL pc (t_cv 5 kRd_seesDigit 0 1 b) := sndQ_cv cl_5 (by decide) hb1 mt_Rd_seesDigit m_182 m_179 m_180 m_181 m_3 ⟨rfl, by decide, by decide, by decide +kernel⟩ qF qL hd
theorem pf_RX7_9 {cc : ByteArray} {nL : Nat} {pc : Nat} (hd : decode cc pc = .ok (.putfield 9, 3)) : snd RX7 cc nL true pc (pc + 3) (s_put 6 0 103) := snd_putfieldF (C := RX7) (T := TX7) (N := 3) (ci := 6) (kf := 0) (kd := 103) (index := 9) (f := 0) cl_6 in_6 (by decide) nf_6 (by decide) rfl rfl rfl tyX7_ok nmX7 (Or.inr ⟨_, rfl⟩) rfl rfl rfl m_535 hd
theorem pf_RX7_15 {cc : ByteArray} {nL : Nat} {pc : Nat} (hd : decode cc pc = .ok (.putfield 15, 3)) : snd RX7 cc nL true pc (pc + 3) (s_put 6 1 102) := snd_putfieldF (C := RX7) (T := TX7) (N := 3) (ci := 6) (kf := 1) (kd := 102) (index := 15) (f := 1) cl_6 in_6 (by decide) nf_6 (by decide) rfl rfl rfl tyX7_ok nmX7 (Or.inr ⟨_, rfl⟩) rfl rfl rfl m_536 hd
theorem pf_RX7_19 {cc : ByteArray} {nL : Nat} {pc : Nat} (hd : decode cc pc = .ok (.putfield 19, 3)) : snd RX7 cc nL true pc (pc + 3) (s_put 6 2 102) := snd_putfieldF (C := RX7) (T := TX7) (N := 3) (ci := 6) (kf := 2) (kd := 102) (index := 19) (f := 2) cl_6 in_6 (by decide) nf_6 (by decide) rfl rfl rfl tyX7_ok nmX7 (Or.inr ⟨_, rfl⟩) rfl rfl rfl m_537 hd
theorem gf_RX7_9 {cc : ByteArray} {nL : Nat} {ini : Bool} {pc : Nat} (hd : decode cc pc = .ok (.getfield 9, 3)) : snd RX7 cc nL ini pc (pc + 3) (s_get 6 0 103) := snd_getfield (C := RX7) (T := TX7) (N := 3) (ci := 6) (kf := 0) (kd := 103) (index := 9) (f := 0) cl_6 in_6 (by decide) nf_6 (by decide) rfl rfl rfl m_535 hd
theorem cs_RX7_24 {cc : ByteArray} {nL : Nat} {ini : Bool} {pcs : List Nat} {rF rL pc b : Nat} (hb1 : pcs[b]? = some (pc + 3)) (qF : 1 ≤ rF) (qL : 24 ≤ rL) (hd : decode cc pc = .ok (.invokestatic 24, 3)) : sndQ mtab RX7 cc nL ini pcs rF rL pc (t_cs kJ_fill 2 0 b) := sndQ_cs hb1 mt_J_fill m_534 m_532 m_533 m_12 ⟨by decide, by decide, by decide +kernel⟩ qF qL hd
theorem cs_RX7_30 {cc : ByteArray} {nL : Nat} {ini : Bool} {pcs : List Nat} {rF rL pc b : Nat} (hb1 : pcs[b]? = some (pc + 3)) (qF : 1 ≤ rF) (qL : 21 ≤ rL) (hd : decode cc pc = .ok (.invokevirtual 30, 3)) : sndQ mtab RX7 cc nL ini pcs rF rL pc (t_cv 6 kRw_has 1 1 b) := sndQ_cv cl_6 (by decide) hb1 mt_Rw_has m_553 m_550 m_552 ms_12 m_11 ⟨rfl, by decide, by decide, by decide +kernel⟩ qF qL hd
theorem gf_RX7_19 {cc : ByteArray} {nL : Nat} {ini : Bool} {pc : Nat} (hd : decode cc pc = .ok (.getfield 19, 3)) : snd RX7 cc nL ini pc (pc + 3) (s_get 6 2 102) := snd_getfield (C := RX7) (T := TX7) (N := 3) (ci := 6) (kf := 2) (kd := 102) (index := 19) (f := 2) cl_6 in_6 (by decide) nf_6 (by decide) rfl rfl rfl m_537 hd
theorem cs_RX7_34 {cc : ByteArray} {nL : Nat} {ini : Bool} {pcs : List Nat} {rF rL pc b : Nat} (hb1 : pcs[b]? = some (pc + 3)) (qF : 1 ≤ rF) (qL : 21 ≤ rL) (hd : decode cc pc = .ok (.invokevirtual 34, 3)) : sndQ mtab RX7 cc nL ini pcs rF rL pc (t_cv 3 kHp_empty 0 0 b) := sndQ_cv cl_3 (by decide) hb1 mt_Hp_empty m_561 m_558 m_559 m_560 m_10 ⟨rfl, by decide, by decide, by decide +kernel⟩ qF qL hd
theorem cs_RX7_39 {cc : ByteArray} {nL : Nat} {ini : Bool} {pcs : List Nat} {rF rL pc b : Nat} (hb1 : pcs[b]? = some (pc + 3)) (qF : 2 ≤ rF) (qL : 47 ≤ rL) (hd : decode cc pc = .ok (.invokevirtual 39, 3)) : sndQ mtab RX7 cc nL ini pcs rF rL pc (t_cv 3 kHp_put 2 0 b) := sndQ_cv cl_3 (by decide) hb1 mt_Hp_put m_565 m_562 m_563 m_564 m_10 ⟨rfl, by decide, by decide, by decide +kernel⟩ qF qL hd
theorem gf_RX7_43 {cc : ByteArray} {nL : Nat} {ini : Bool} {pc : Nat} (hd : decode cc pc = .ok (.getfield 43, 3)) : snd RX7 cc nL ini pc (pc + 3) (s_get 3 2 0) := snd_getfieldN (host := "DayBoy") (C := RX3) (T := TX3) (N := 3) (ci := 3) (kf := 2) (kd := 0) (index := 43) (f := 2) cl_3 in_3 (by decide) nf_3 (by decide) rfl rfl rfl mn_wN1_32 hd
theorem cs_RX7_47 {cc : ByteArray} {nL : Nat} {ini : Bool} {pcs : List Nat} {rF rL pc b : Nat} (hb1 : pcs[b]? = some (pc + 3)) (qF : 3 ≤ rF) (qL : 75 ≤ rL) (hd : decode cc pc = .ok (.invokevirtual 47, 3)) : sndQ mtab RX7 cc nL ini pcs rF rL pc (t_cv 3 kHp_takeLeast 1 1 b) := sndQ_cv cl_3 (by decide) hb1 mt_Hp_takeLeast m_573 m_570 m_571 m_572 m_10 ⟨rfl, by decide, by decide, by decide +kernel⟩ qF qL hd
theorem cs_RX7_51 {cc : ByteArray} {nL : Nat} {ini : Bool} {pcs : List Nat} {rF rL pc b : Nat} (hb1 : pcs[b]? = some (pc + 3)) (qF : 3 ≤ rF) (qL : 71 ≤ rL) (hd : decode cc pc = .ok (.invokevirtual 51, 3)) : sndQ mtab RX7 cc nL ini pcs rF rL pc (t_cv 6 kRw_chooseNext 2 0 b) := sndQ_cv cl_6 (by decide) hb1 mt_Rw_chooseNext m_585 m_582 m_584 ms_16 m_11 ⟨rfl, by decide, by decide, by decide +kernel⟩ qF qL hd
theorem cs_RX7_55 {cc : ByteArray} {nL : Nat} {ini : Bool} {pcs : List Nat} {rF rL pc b : Nat} (hb1 : pcs[b]? = some (pc + 3)) (qF : 3 ≤ rF) (qL : 76 ≤ rL) (hd : decode cc pc = .ok (.invokevirtual 55, 3)) : sndQ mtab RX7 cc nL ini pcs rF rL pc (t_cv 6 kRw_goOn 3 0 b) := sndQ_cv cl_6 (by decide) hb1 mt_Rw_goOn m_635 m_632 m_634 ms_17 m_11 ⟨rfl, by decide, by decide, by decide +kernel⟩ qF qL hd
theorem ci_RX7_59 {cc : ByteArray} {nL : Nat} {ini : Bool} {pcs : List Nat} {rF rL pc b cnt : Nat} (hb1 : pcs[b]? = some (pc + 5)) (qF : 1 ≤ rF) (qL : 20 ≤ rL) (hd : decode cc pc = .ok (.invokeinterface 59 cnt, 5)) : sndQ mtab RX7 cc nL ini pcs rF rL pc (t_ci ifc_lineCount 0 1 b) := sndQ_if (fi := ifc_lineCount) (n := 0) (x := ⟨RX4, "lineCount", "()I"⟩) (y8 := yX9_lineCount) (y4 := yX5_lineCount) cl_8 cl_4 (fun _ => rfl) hb1 mt_St_lineCount mt_Pr_lineCount m_601 m_595 m_587 mn_wF_0 mn_wF_1 m_597 m_599 m_8 m_591 m_593 m_9 ⟨by decide, by decide, by decide +kernel⟩ qF (Nat.le_trans (by decide) qL) (Nat.le_trans (by decide) qL) hd (fun _ _ => trivial)
theorem ci_RX7_65 {cc : ByteArray} {nL : Nat} {ini : Bool} {pcs : List Nat} {rF rL pc b cnt : Nat} (hb1 : pcs[b]? = some (pc + 5)) (qF : 2 ≤ rF) (qL : 44 ≤ rL) (hd : decode cc pc = .ok (.invokeinterface 65 cnt, 5)) : sndQ mtab RX7 cc nL ini pcs rF rL pc (t_ci ifc_over 2 1 b) := sndQ_if (fi := ifc_over) (n := 2) (x := ⟨RX4, "over", "(II)I"⟩) (y8 := yX9_over) (y4 := yX5_over) cl_8 cl_4 (fun _ => rfl) hb1 mt_St_over mt_Pr_over m_615 m_610 m_603 mn_wF_2 mn_wF_3 m_611 m_613 m_8 m_606 m_608 m_9 ⟨by decide, by decide, by decide +kernel⟩ qF (Nat.le_trans (by decide) qL) (Nat.le_trans (by decide) qL) hd (fun _ _ => trivial)
theorem ci_RX7_69 {cc : ByteArray} {nL : Nat} {ini : Bool} {pcs : List Nat} {rF rL pc b cnt : Nat} (hb1 : pcs[b]? = some (pc + 5)) (qF : 1 ≤ rF) (qL : 22 ≤ rL) (hd : decode cc pc = .ok (.invokeinterface 69 cnt, 5)) : sndQ mtab RX7 cc nL ini pcs rF rL pc (t_ci ifc_costOf 1 1 b) := sndQ_if (fi := ifc_costOf) (n := 1) (x := ⟨RX4, "costOf", "(I)I"⟩) (y8 := yX9_costOf) (y4 := yX5_costOf) cl_8 cl_4 (fun _ => rfl) hb1 mt_St_costOf mt_Pr_costOf m_630 m_625 m_618 mn_wF_4 mn_wF_5 m_626 m_628 m_8 m_621 m_623 m_9 ⟨by decide, by decide, by decide +kernel⟩ qF (Nat.le_trans (by decide) qL) (Nat.le_trans (by decide) qL) hd (fun _ _ => trivial)
theorem gf_RX7_15 {cc : ByteArray} {nL : Nat} {ini : Bool} {pc : Nat} (hd : decode cc pc = .ok (.getfield 15, 3)) : snd RX7 cc nL ini pc (pc + 3) (s_get 6 1 102) := snd_getfield (C := RX7) (T := TX7) (N := 3) (ci := 6) (kf := 1) (kd := 102) (index := 15) (f := 1) cl_6 in_6 (by decide) nf_6 (by decide) rfl rfl rfl m_536 hd
theorem gf_RX7_75 {cc : ByteArray} {nL : Nat} {ini : Bool} {pc : Nat} (hd : decode cc pc = .ok (.getfield 75, 3)) : snd RX7 cc nL ini pc (pc + 3) (s_get 8 3 0) := snd_getfieldN (host := "DayBoy") (C := RX9) (T := TX9) (N := 4) (ci := 8) (kf := 3) (kd := 0) (index := 75) (f := 3) cl_8 in_8 (by decide) nf_8 (by decide) rfl rfl rfl mn_wN1_33 hd
theorem cs_RX7_80 {cc : ByteArray} {nL : Nat} {ini : Bool} {pcs : List Nat} {rF rL pc b : Nat} (hb1 : pcs[b]? = some (pc + 3)) (qF : 2 ≤ rF) (qL : 44 ≤ rL) (hd : decode cc pc = .ok (.invokevirtual 80, 3)) : sndQ mtab RX7 cc nL ini pcs rF rL pc (t_cv 6 kRw_know 1 0 b) := sndQ_cv cl_6 (by decide) hb1 mt_Rw_know m_549 m_799 m_547 m_548 m_11 ⟨rfl, by decide, by decide, by decide +kernel⟩ qF qL hd
theorem cs_RX7_84 {cc : ByteArray} {nL : Nat} {ini : Bool} {pcs : List Nat} {rF rL pc b : Nat} (hb1 : pcs[b]? = some (pc + 3)) (qF : 2 ≤ rF) (qL : 44 ≤ rL) (hd : decode cc pc = .ok (.invokevirtual 84, 3)) : sndQ mtab RX7 cc nL ini pcs rF rL pc (t_cv 6 kRw_costOf 1 1 b) := sndQ_cv cl_6 (by decide) hb1 mt_Rw_costOf m_742 m_800 m_740 m_741 m_11 ⟨rfl, by decide, by decide, by decide +kernel⟩ qF qL hd
theorem cs_RX7_85 {cc : ByteArray} {nL : Nat} {ini : Bool} {pcs : List Nat} {rF rL pc b : Nat} (hb1 : pcs[b]? = some (pc + 3)) (qF : 2 ≤ rF) (qL : 44 ≤ rL) (hd : decode cc pc = .ok (.invokevirtual 85, 3)) : sndQ mtab RX7 cc nL ini pcs rF rL pc (t_cv 6 kRw_stepCount 1 1 b) := sndQ_cv cl_6 (by decide) hb1 mt_Rw_stepCount m_750 m_747 m_748 m_749 m_11 ⟨rfl, by decide, by decide, by decide +kernel⟩ qF qL hd
theorem cs_RX7_88 {cc : ByteArray} {nL : Nat} {ini : Bool} {pcs : List Nat} {rF rL pc b : Nat} (hb1 : pcs[b]? = some (pc + 3)) (qF : 2 ≤ rF) (qL : 44 ≤ rL) (hd : decode cc pc = .ok (.invokevirtual 88, 3)) : sndQ mtab RX7 cc nL ini pcs rF rL pc (t_cv 6 kRw_nextOf 1 1 b) := sndQ_cv cl_6 (by decide) hb1 mt_Rw_nextOf m_754 m_751 m_752 m_753 m_11 ⟨rfl, by decide, by decide, by decide +kernel⟩ qF qL hd
theorem pf_RX8_15 {cc : ByteArray} {nL : Nat} {pc : Nat} (hd : decode cc pc = .ok (.putfield 15, 3)) : snd RX8 cc nL true pc (pc + 3) (s_put 7 1 2) := snd_putfieldF (C := RX8) (T := TX8) (N := 6) (ci := 7) (kf := 1) (kd := 2) (index := 15) (f := 1) cl_7 in_7 (by decide) nf_7 (by decide) rfl rfl rfl tyX8_ok nmX8 (Or.inl ⟨_, rfl⟩) rfl rfl rfl m_881 hd
theorem pf_RX8_9 {cc : ByteArray} {nL : Nat} {pc : Nat} (hd : decode cc pc = .ok (.putfield 9, 3)) : snd RX8 cc nL true pc (pc + 3) (s_put 7 0 0) := snd_putfieldF (C := RX8) (T := TX8) (N := 6) (ci := 7) (kf := 0) (kd := 0) (index := 9) (f := 0) cl_7 in_7 (by decide) nf_7 (by decide) rfl rfl rfl tyX8_ok nmX8 rfl rfl rfl rfl m_879 hd
theorem cs_RX8_19 {cc : ByteArray} {nL : Nat} {ini : Bool} {pcs : List Nat} {rF rL pc b : Nat} (hb1 : pcs[b]? = some (pc + 3)) (qF : 1 ≤ rF) (qL : 20 ≤ rL) (hd : decode cc pc = .ok (.invokestatic 19, 3)) : sndQ mtab RX8 cc nL ini pcs rF rL pc (t_cs kX_yearOfKey 1 1 b) := sndQ_csN (host := "DayBoy") hb1 mt_X_yearOfKey m_281 mn_wN2_8 m_280 m_1 ⟨by decide, by decide, by decide +kernel⟩ qF qL hd
theorem pf_RX8_23 {cc : ByteArray} {nL : Nat} {pc : Nat} (hd : decode cc pc = .ok (.putfield 23, 3)) : snd RX8 cc nL true pc (pc + 3) (s_put 7 2 0) := snd_putfieldF (C := RX8) (T := TX8) (N := 6) (ci := 7) (kf := 2) (kd := 0) (index := 23) (f := 2) cl_7 in_7 (by decide) nf_7 (by decide) rfl rfl rfl tyX8_ok nmX8 rfl rfl rfl rfl m_885 hd
theorem cs_RX8_26 {cc : ByteArray} {nL : Nat} {ini : Bool} {pcs : List Nat} {rF rL pc b : Nat} (hb1 : pcs[b]? = some (pc + 3)) (qF : 1 ≤ rF) (qL : 20 ≤ rL) (hd : decode cc pc = .ok (.invokestatic 26, 3)) : sndQ mtab RX8 cc nL ini pcs rF rL pc (t_cs kX_monthOfKey 1 1 b) := sndQ_csN (host := "DayBoy") hb1 mt_X_monthOfKey m_284 mn_wN2_9 m_283 m_1 ⟨by decide, by decide, by decide +kernel⟩ qF qL hd
theorem pf_RX8_29 {cc : ByteArray} {nL : Nat} {pc : Nat} (hd : decode cc pc = .ok (.putfield 29, 3)) : snd RX8 cc nL true pc (pc + 3) (s_put 7 3 0) := snd_putfieldF (C := RX8) (T := TX8) (N := 6) (ci := 7) (kf := 3) (kd := 0) (index := 29) (f := 3) cl_7 in_7 (by decide) nf_7 (by decide) rfl rfl rfl tyX8_ok nmX8 rfl rfl rfl rfl m_889 hd
theorem cs_RX8_32 {cc : ByteArray} {nL : Nat} {ini : Bool} {pcs : List Nat} {rF rL pc b : Nat} (hb1 : pcs[b]? = some (pc + 3)) (qF : 1 ≤ rF) (qL : 20 ≤ rL) (hd : decode cc pc = .ok (.invokestatic 32, 3)) : sndQ mtab RX8 cc nL ini pcs rF rL pc (t_cs kX_dateOfKey 1 1 b) := sndQ_csN (host := "DayBoy") hb1 mt_X_dateOfKey m_287 mn_wN2_10 m_286 m_1 ⟨by decide, by decide, by decide +kernel⟩ qF qL hd
theorem pf_RX8_38 {cc : ByteArray} {nL : Nat} {pc : Nat} (hd : decode cc pc = .ok (.putfield 38, 3)) : snd RX8 cc nL true pc (pc + 3) (s_put 7 5 0) := snd_putfieldF (C := RX8) (T := TX8) (N := 6) (ci := 7) (kf := 5) (kd := 0) (index := 38) (f := 5) cl_7 in_7 (by decide) nf_7 (by decide) rfl rfl rfl tyX8_ok nmX8 rfl rfl rfl rfl m_897 hd
theorem pf_RX8_35 {cc : ByteArray} {nL : Nat} {pc : Nat} (hd : decode cc pc = .ok (.putfield 35, 3)) : snd RX8 cc nL true pc (pc + 3) (s_put 7 4 0) := snd_putfieldF (C := RX8) (T := TX8) (N := 6) (ci := 7) (kf := 4) (kd := 0) (index := 35) (f := 4) cl_7 in_7 (by decide) nf_7 (by decide) rfl rfl rfl tyX8_ok nmX8 rfl rfl rfl rfl m_893 hd
theorem gf_RX8_23 {cc : ByteArray} {nL : Nat} {ini : Bool} {pc : Nat} (hd : decode cc pc = .ok (.getfield 23, 3)) : snd RX8 cc nL ini pc (pc + 3) (s_get 7 2 0) := snd_getfield (C := RX8) (T := TX8) (N := 6) (ci := 7) (kf := 2) (kd := 0) (index := 23) (f := 2) cl_7 in_7 (by decide) nf_7 (by decide) rfl rfl rfl m_885 hd
theorem gf_RX8_15 {cc : ByteArray} {nL : Nat} {ini : Bool} {pc : Nat} (hd : decode cc pc = .ok (.getfield 15, 3)) : snd RX8 cc nL ini pc (pc + 3) (s_get 7 1 2) := snd_getfield (C := RX8) (T := TX8) (N := 6) (ci := 7) (kf := 1) (kd := 2) (index := 15) (f := 1) cl_7 in_7 (by decide) nf_7 (by decide) rfl rfl rfl m_881 hd
theorem cs_RX8_41 {cc : ByteArray} {nL : Nat} {ini : Bool} {pcs : List Nat} {rF rL pc b : Nat} (hb1 : pcs[b]? = some (pc + 3)) (qF : 1 ≤ rF) (qL : 21 ≤ rL) (hd : decode cc pc = .ok (.invokevirtual 41, 3)) : sndQ mtab RX8 cc nL ini pcs rF rL pc (t_cv 0 kAl_kindOf 1 1 b) := sndQ_cv cl_0 (by decide) hb1 mt_Al_kindOf m_691 m_989 m_689 m_690 m_5 ⟨rfl, by decide, by decide, by decide +kernel⟩ qF qL hd
theorem pf_RX9_9 {cc : ByteArray} {nL : Nat} {pc : Nat} (hd : decode cc pc = .ok (.putfield 9, 3)) : snd RX9 cc nL true pc (pc + 3) (s_put 8 0 102) := snd_putfieldF (C := RX9) (T := TX9) (N := 4) (ci := 8) (kf := 0) (kd := 102) (index := 9) (f := 0) cl_8 in_8 (by decide) nf_8 (by decide) rfl rfl rfl tyX9_ok nmX9 (Or.inr ⟨_, rfl⟩) rfl rfl rfl m_321 hd
theorem pf_RX9_13 {cc : ByteArray} {nL : Nat} {pc : Nat} (hd : decode cc pc = .ok (.putfield 13, 3)) : snd RX9 cc nL true pc (pc + 3) (s_put 8 1 102) := snd_putfieldF (C := RX9) (T := TX9) (N := 4) (ci := 8) (kf := 1) (kd := 102) (index := 13) (f := 1) cl_8 in_8 (by decide) nf_8 (by decide) rfl rfl rfl tyX9_ok nmX9 (Or.inr ⟨_, rfl⟩) rfl rfl rfl m_323 hd
theorem gf_RX9_16 {cc : ByteArray} {nL : Nat} {ini : Bool} {pc : Nat} (hd : decode cc pc = .ok (.getfield 16, 3)) : snd RX9 cc nL ini pc (pc + 3) (s_get 8 2 0) := snd_getfield (C := RX9) (T := TX9) (N := 4) (ci := 8) (kf := 2) (kd := 0) (index := 16) (f := 2) cl_8 in_8 (by decide) nf_8 (by decide) rfl rfl rfl m_324 hd
theorem gf_RX9_9 {cc : ByteArray} {nL : Nat} {ini : Bool} {pc : Nat} (hd : decode cc pc = .ok (.getfield 9, 3)) : snd RX9 cc nL ini pc (pc + 3) (s_get 8 0 102) := snd_getfield (C := RX9) (T := TX9) (N := 4) (ci := 8) (kf := 0) (kd := 102) (index := 9) (f := 0) cl_8 in_8 (by decide) nf_8 (by decide) rfl rfl rfl m_321 hd
theorem cs_RX9_20 {cc : ByteArray} {nL : Nat} {ini : Bool} {pcs : List Nat} {rF rL pc b : Nat} (hb1 : pcs[b]? = some (pc + 3)) (qF : 1 ≤ rF) (qL : 20 ≤ rL) (hd : decode cc pc = .ok (.invokestatic 20, 3)) : sndQ mtab RX9 cc nL ini pcs rF rL pc (t_cs kX_isYear 1 1 b) := sndQ_csN (host := "DayBoy") hb1 mt_X_isYear m_463 mn_wN2_11 m_462 m_1 ⟨by decide, by decide, by decide +kernel⟩ qF qL hd
theorem gf_RX9_13 {cc : ByteArray} {nL : Nat} {ini : Bool} {pc : Nat} (hd : decode cc pc = .ok (.getfield 13, 3)) : snd RX9 cc nL ini pc (pc + 3) (s_get 8 1 102) := snd_getfield (C := RX9) (T := TX9) (N := 4) (ci := 8) (kf := 1) (kd := 102) (index := 13) (f := 1) cl_8 in_8 (by decide) nf_8 (by decide) rfl rfl rfl m_323 hd
theorem cs_RX9_26 {cc : ByteArray} {nL : Nat} {ini : Bool} {pcs : List Nat} {rF rL pc b : Nat} (hb1 : pcs[b]? = some (pc + 3)) (qF : 2 ≤ rF) (qL : 43 ≤ rL) (hd : decode cc pc = .ok (.invokevirtual 26, 3)) : sndQ mtab RX9 cc nL ini pcs rF rL pc (t_cv 5 kRd_refuse 0 0 b) := sndQ_cv cl_5 (by decide) hb1 mt_Rd_refuse m_248 m_415 m_246 m_247 m_3 ⟨rfl, by decide, by decide, by decide +kernel⟩ qF qL hd
theorem cs_RX9_31 {cc : ByteArray} {nL : Nat} {ini : Bool} {pcs : List Nat} {rF rL pc b : Nat} (hb1 : pcs[b]? = some (pc + 3)) (qF : 2 ≤ rF) (qL : 44 ≤ rL) (hd : decode cc pc = .ok (.invokevirtual 31, 3)) : sndQ mtab RX9 cc nL ini pcs rF rL pc (t_cv 5 kRd_takes 1 1 b) := sndQ_cv cl_5 (by decide) hb1 mt_Rd_takes m_242 m_416 m_240 m_241 m_3 ⟨rfl, by decide, by decide, by decide +kernel⟩ qF qL hd
theorem cs_RX9_34 {cc : ByteArray} {nL : Nat} {ini : Bool} {pcs : List Nat} {rF rL pc b : Nat} (hb1 : pcs[b]? = some (pc + 3)) (qF : 2 ≤ rF) (qL : 47 ≤ rL) (hd : decode cc pc = .ok (.invokevirtual 34, 3)) : sndQ mtab RX9 cc nL ini pcs rF rL pc (t_cv 5 kRd_number 2 1 b) := sndQ_cv cl_5 (by decide) hb1 mt_Rd_number m_178 m_417 m_176 m_177 m_3 ⟨rfl, by decide, by decide, by decide +kernel⟩ qF qL hd
theorem cs_RX9_38 {cc : ByteArray} {nL : Nat} {ini : Bool} {pcs : List Nat} {rF rL pc b : Nat} (hb1 : pcs[b]? = some (pc + 3)) (qF : 1 ≤ rF) (qL : 22 ≤ rL) (hd : decode cc pc = .ok (.invokevirtual 38, 3)) : sndQ mtab RX9 cc nL ini pcs rF rL pc (t_cv 8 kSt_has 1 1 b) := sndQ_cv cl_8 (by decide) hb1 mt_St_has m_421 m_418 m_420 ms_6 m_8 ⟨rfl, by decide, by decide, by decide +kernel⟩ qF qL hd
theorem cs_RX9_41 {cc : ByteArray} {nL : Nat} {ini : Bool} {pcs : List Nat} {rF rL pc b : Nat} (hb1 : pcs[b]? = some (pc + 3)) (qF : 2 ≤ rF) (qL : 43 ≤ rL) (hd : decode cc pc = .ok (.invokevirtual 41, 3)) : sndQ mtab RX9 cc nL ini pcs rF rL pc (t_cv 5 kRd_refuseNumber 0 0 b) := sndQ_cv cl_5 (by decide) hb1 mt_Rd_refuseNumber m_273 m_422 m_271 m_272 m_3 ⟨rfl, by decide, by decide, by decide +kernel⟩ qF qL hd
theorem cs_RX9_44 {cc : ByteArray} {nL : Nat} {ini : Bool} {pcs : List Nat} {rF rL pc b : Nat} (hb1 : pcs[b]? = some (pc + 3)) (qF : 2 ≤ rF) (qL : 44 ≤ rL) (hd : decode cc pc = .ok (.invokevirtual 44, 3)) : sndQ mtab RX9 cc nL ini pcs rF rL pc (t_cv 5 kRd_expect 1 0 b) := sndQ_cv cl_5 (by decide) hb1 mt_Rd_expect m_190 m_423 m_188 m_189 m_3 ⟨rfl, by decide, by decide, by decide +kernel⟩ qF qL hd
theorem gf_RX9_48 {cc : ByteArray} {nL : Nat} {ini : Bool} {pc : Nat} (hd : decode cc pc = .ok (.getfield 48, 3)) : snd RX9 cc nL ini pc (pc + 3) (s_get 8 3 0) := snd_getfield (C := RX9) (T := TX9) (N := 4) (ci := 8) (kf := 3) (kd := 0) (index := 48) (f := 3) cl_8 in_8 (by decide) nf_8 (by decide) rfl rfl rfl m_326 hd
theorem cs_RX9_51 {cc : ByteArray} {nL : Nat} {ini : Bool} {pcs : List Nat} {rF rL pc b : Nat} (hb1 : pcs[b]? = some (pc + 3)) (qF : 2 ≤ rF) (qL : 48 ≤ rL) (hd : decode cc pc = .ok (.invokestatic 51, 3)) : sndQ mtab RX9 cc nL ini pcs rF rL pc (t_cs kSt_commonDivisor 2 1 b) := sndQ_cs hb1 mt_St_commonDivisor m_426 m_424 m_425 m_8 ⟨by decide, by decide, by decide +kernel⟩ qF qL hd
theorem pf_RX9_16 {cc : ByteArray} {nL : Nat} {ini : Bool} {pc : Nat} (hd : decode cc pc = .ok (.putfield 16, 3)) : snd RX9 cc nL ini pc (pc + 3) (s_put 8 2 0) := snd_putfield (C := RX9) (T := TX9) (N := 4) (ci := 8) (kf := 2) (kd := 0) (index := 16) (f := 2) cl_8 in_8 (by decide) nf_8 (by decide) rfl rfl rfl tyX9_ok nmX9 rfl rfl m_324 hd
theorem pf_RX9_48 {cc : ByteArray} {nL : Nat} {ini : Bool} {pc : Nat} (hd : decode cc pc = .ok (.putfield 48, 3)) : snd RX9 cc nL ini pc (pc + 3) (s_put 8 3 0) := snd_putfield (C := RX9) (T := TX9) (N := 4) (ci := 8) (kf := 3) (kd := 0) (index := 48) (f := 3) cl_8 in_8 (by decide) nf_8 (by decide) rfl rfl rfl tyX9_ok nmX9 rfl rfl m_326 hd
theorem cs_RX9_54 {cc : ByteArray} {nL : Nat} {ini : Bool} {pcs : List Nat} {rF rL pc b : Nat} (hb1 : pcs[b]? = some (pc + 3)) (qF : 1 ≤ rF) (qL : 21 ≤ rL) (hd : decode cc pc = .ok (.invokestatic 54, 3)) : sndQ mtab RX9 cc nL ini pcs rF rL pc (t_cs kJ_max 2 1 b) := sndQ_cs hb1 mt_J_max m_429 m_427 m_428 m_4 ⟨by decide, by decide, by decide +kernel⟩ qF qL hd
theorem cs_RX9_59 {cc : ByteArray} {nL : Nat} {ini : Bool} {pcs : List Nat} {rF rL pc b : Nat} (hb1 : pcs[b]? = some (pc + 3)) (qF : 1 ≤ rF) (qL : 21 ≤ rL) (hd : decode cc pc = .ok (.invokestatic 59, 3)) : sndQ mtab RX9 cc nL ini pcs rF rL pc (t_cs kJ_min 2 1 b) := sndQ_cs hb1 mt_J_min m_125 m_430 m_124 m_4 ⟨by decide, by decide, by decide +kernel⟩ qF qL hd
theorem pf_RX10_11 {cc : ByteArray} {nL : Nat} {pc : Nat} (hd : decode cc pc = .ok (.putfield 11, 3)) : snd RX10 cc nL true pc (pc + 3) (s_put 9 0 102) := snd_putfieldF (C := RX10) (T := TX10) (N := 10) (ci := 9) (kf := 0) (kd := 102) (index := 11) (f := 0) cl_9 in_9 (by decide) nf_9 (by decide) rfl rfl rfl tyX10_ok nmX10 (Or.inr ⟨_, rfl⟩) rfl rfl rfl m_200 hd
theorem pf_RX10_15 {cc : ByteArray} {nL : Nat} {pc : Nat} (hd : decode cc pc = .ok (.putfield 15, 3)) : snd RX10 cc nL true pc (pc + 3) (s_put 9 1 104) := snd_putfieldF (C := RX10) (T := TX10) (N := 10) (ci := 9) (kf := 1) (kd := 104) (index := 15) (f := 1) cl_9 in_9 (by decide) nf_9 (by decide) rfl rfl rfl tyX10_ok nmX10 (Or.inr ⟨_, rfl⟩) rfl rfl rfl m_201 hd
theorem pf_RX10_19 {cc : ByteArray} {nL : Nat} {ini : Bool} {pc : Nat} (hd : decode cc pc = .ok (.putfield 19, 3)) : snd RX10 cc nL ini pc (pc + 3) (s_put 9 3 0) := snd_putfield (C := RX10) (T := TX10) (N := 10) (ci := 9) (kf := 3) (kd := 0) (index := 19) (f := 3) cl_9 in_9 (by decide) nf_9 (by decide) rfl rfl rfl tyX10_ok nmX10 rfl rfl m_203 hd
theorem pf_RX10_23 {cc : ByteArray} {nL : Nat} {ini : Bool} {pc : Nat} (hd : decode cc pc = .ok (.putfield 23, 3)) : snd RX10 cc nL ini pc (pc + 3) (s_put 9 4 0) := snd_putfield (C := RX10) (T := TX10) (N := 10) (ci := 9) (kf := 4) (kd := 0) (index := 23) (f := 4) cl_9 in_9 (by decide) nf_9 (by decide) rfl rfl rfl tyX10_ok nmX10 rfl rfl m_204 hd
theorem cs_RX10_26 {cc : ByteArray} {nL : Nat} {ini : Bool} {pcs : List Nat} {rF rL pc b : Nat} (hb1 : pcs[b]? = some (pc + 3)) (qF : 1 ≤ rF) (qL : 22 ≤ rL) (hd : decode cc pc = .ok (.invokestatic 26, 3)) : sndQ mtab RX10 cc nL ini pcs rF rL pc (t_cs kX_keyOf 3 1 b) := sndQ_csN (host := "DayBoy") hb1 mt_X_keyOf m_198 mn_wN2_12 m_197 m_1 ⟨by decide, by decide, by decide +kernel⟩ qF qL hd
theorem pf_RX10_30 {cc : ByteArray} {nL : Nat} {ini : Bool} {pc : Nat} (hd : decode cc pc = .ok (.putfield 30, 3)) : snd RX10 cc nL ini pc (pc + 3) (s_put 9 5 0) := snd_putfield (C := RX10) (T := TX10) (N := 10) (ci := 9) (kf := 5) (kd := 0) (index := 30) (f := 5) cl_9 in_9 (by decide) nf_9 (by decide) rfl rfl rfl tyX10_ok nmX10 rfl rfl m_205 hd
theorem pf_RX10_34 {cc : ByteArray} {nL : Nat} {ini : Bool} {pc : Nat} (hd : decode cc pc = .ok (.putfield 34, 3)) : snd RX10 cc nL ini pc (pc + 3) (s_put 9 6 0) := snd_putfield (C := RX10) (T := TX10) (N := 10) (ci := 9) (kf := 6) (kd := 0) (index := 34) (f := 6) cl_9 in_9 (by decide) nf_9 (by decide) rfl rfl rfl tyX10_ok nmX10 rfl rfl m_206 hd
theorem pf_RX10_37 {cc : ByteArray} {nL : Nat} {ini : Bool} {pc : Nat} (hd : decode cc pc = .ok (.putfield 37, 3)) : snd RX10 cc nL ini pc (pc + 3) (s_put 9 9 102) := snd_putfield (C := RX10) (T := TX10) (N := 10) (ci := 9) (kf := 9) (kd := 102) (index := 37) (f := 9) cl_9 in_9 (by decide) nf_9 (by decide) rfl rfl rfl tyX10_ok nmX10 (Or.inr ⟨_, rfl⟩) rfl m_211 hd
theorem gf_RX10_40 {cc : ByteArray} {nL : Nat} {ini : Bool} {pc : Nat} (hd : decode cc pc = .ok (.getfield 40, 3)) : snd RX10 cc nL ini pc (pc + 3) (s_get 9 2 0) := snd_getfield (C := RX10) (T := TX10) (N := 10) (ci := 9) (kf := 2) (kd := 0) (index := 40) (f := 2) cl_9 in_9 (by decide) nf_9 (by decide) rfl rfl rfl m_202 hd
theorem gf_RX10_11 {cc : ByteArray} {nL : Nat} {ini : Bool} {pc : Nat} (hd : decode cc pc = .ok (.getfield 11, 3)) : snd RX10 cc nL ini pc (pc + 3) (s_get 9 0 102) := snd_getfield (C := RX10) (T := TX10) (N := 10) (ci := 9) (kf := 0) (kd := 102) (index := 11) (f := 0) cl_9 in_9 (by decide) nf_9 (by decide) rfl rfl rfl m_200 hd
theorem cs_RX10_43 {cc : ByteArray} {nL : Nat} {ini : Bool} {pcs : List Nat} {rF rL pc b : Nat} (hb1 : pcs[b]? = some (pc + 3)) (qF : 2 ≤ rF) (qL : 47 ≤ rL) (hd : decode cc pc = .ok (.invokevirtual 43, 3)) : sndQ mtab RX10 cc nL ini pcs rF rL pc (t_cv 5 kRd_number 2 1 b) := sndQ_cv cl_5 (by decide) hb1 mt_Rd_number m_178 m_238 m_176 m_177 m_3 ⟨rfl, by decide, by decide, by decide +kernel⟩ qF qL hd
theorem gf_RX10_15 {cc : ByteArray} {nL : Nat} {ini : Bool} {pc : Nat} (hd : decode cc pc = .ok (.getfield 15, 3)) : snd RX10 cc nL ini pc (pc + 3) (s_get 9 1 104) := snd_getfield (C := RX10) (T := TX10) (N := 10) (ci := 9) (kf := 1) (kd := 104) (index := 15) (f := 1) cl_9 in_9 (by decide) nf_9 (by decide) rfl rfl rfl m_201 hd
theorem cs_RX10_49 {cc : ByteArray} {nL : Nat} {ini : Bool} {pcs : List Nat} {rF rL pc b : Nat} (hb1 : pcs[b]? = some (pc + 3)) (qF : 2 ≤ rF) (qL : 44 ≤ rL) (hd : decode cc pc = .ok (.invokevirtual 49, 3)) : sndQ mtab RX10 cc nL ini pcs rF rL pc (t_cv 5 kRd_takes 1 1 b) := sndQ_cv cl_5 (by decide) hb1 mt_Rd_takes m_242 m_239 m_240 m_241 m_3 ⟨rfl, by decide, by decide, by decide +kernel⟩ qF qL hd
theorem cs_RX10_53 {cc : ByteArray} {nL : Nat} {ini : Bool} {pcs : List Nat} {rF rL pc b : Nat} (hb1 : pcs[b]? = some (pc + 3)) (qF : 2 ≤ rF) (qL : 44 ≤ rL) (hd : decode cc pc = .ok (.invokevirtual 53, 3)) : sndQ mtab RX10 cc nL ini pcs rF rL pc (t_cv 5 kRd_expect 1 0 b) := sndQ_cv cl_5 (by decide) hb1 mt_Rd_expect m_190 m_243 m_188 m_189 m_3 ⟨rfl, by decide, by decide, by decide +kernel⟩ qF qL hd
theorem pf_RX10_40 {cc : ByteArray} {nL : Nat} {ini : Bool} {pc : Nat} (hd : decode cc pc = .ok (.putfield 40, 3)) : snd RX10 cc nL ini pc (pc + 3) (s_put 9 2 0) := snd_putfield (C := RX10) (T := TX10) (N := 10) (ci := 9) (kf := 2) (kd := 0) (index := 40) (f := 2) cl_9 in_9 (by decide) nf_9 (by decide) rfl rfl rfl tyX10_ok nmX10 rfl rfl m_202 hd
theorem cs_RX10_57 {cc : ByteArray} {nL : Nat} {ini : Bool} {pcs : List Nat} {rF rL pc b : Nat} (hb1 : pcs[b]? = some (pc + 3)) (qF : 1 ≤ rF) (qL : 20 ≤ rL) (hd : decode cc pc = .ok (.invokevirtual 57, 3)) : sndQ mtab RX10 cc nL ini pcs rF rL pc (t_cv 5 kRd_seesDigit 0 1 b) := sndQ_cv cl_5 (by decide) hb1 mt_Rd_seesDigit m_182 m_244 m_180 m_181 m_3 ⟨rfl, by decide, by decide, by decide +kernel⟩ qF qL hd
theorem cs_RX10_61 {cc : ByteArray} {nL : Nat} {ini : Bool} {pcs : List Nat} {rF rL pc b : Nat} (hb1 : pcs[b]? = some (pc + 3)) (qF : 2 ≤ rF) (qL : 43 ≤ rL) (hd : decode cc pc = .ok (.invokevirtual 61, 3)) : sndQ mtab RX10 cc nL ini pcs rF rL pc (t_cv 5 kRd_refuse 0 0 b) := sndQ_cv cl_5 (by decide) hb1 mt_Rd_refuse m_248 m_245 m_246 m_247 m_3 ⟨rfl, by decide, by decide, by decide +kernel⟩ qF qL hd
theorem cs_RX10_64 {cc : ByteArray} {nL : Nat} {ini : Bool} {pcs : List Nat} {rF rL pc b : Nat} (hb1 : pcs[b]? = some (pc + 3)) (qF : 1 ≤ rF) (qL : 22 ≤ rL) (hd : decode cc pc = .ok (.invokevirtual 64, 3)) : sndQ mtab RX10 cc nL ini pcs rF rL pc (t_cv 9 kSh_hasLeapDay 1 1 b) := sndQ_cv cl_9 (by decide) hb1 mt_Sh_hasLeapDay m_264 m_261 m_262 m_263 m_6 ⟨rfl, by decide, by decide, by decide +kernel⟩ qF qL hd
theorem cs_RX10_67 {cc : ByteArray} {nL : Nat} {ini : Bool} {pcs : List Nat} {rF rL pc b : Nat} (hb1 : pcs[b]? = some (pc + 3)) (qF : 1 ≤ rF) (qL : 21 ≤ rL) (hd : decode cc pc = .ok (.invokestatic 67, 3)) : sndQ mtab RX10 cc nL ini pcs rF rL pc (t_cs kX_monthLength 2 1 b) := sndQ_csN (host := "DayBoy") hb1 mt_X_monthLength m_267 mn_wN2_13 m_266 m_1 ⟨by decide, by decide, by decide +kernel⟩ qF qL hd
theorem gf_RX10_30 {cc : ByteArray} {nL : Nat} {ini : Bool} {pc : Nat} (hd : decode cc pc = .ok (.getfield 30, 3)) : snd RX10 cc nL ini pc (pc + 3) (s_get 9 5 0) := snd_getfield (C := RX10) (T := TX10) (N := 10) (ci := 9) (kf := 5) (kd := 0) (index := 30) (f := 5) cl_9 in_9 (by decide) nf_9 (by decide) rfl rfl rfl m_205 hd
theorem cs_RX10_71 {cc : ByteArray} {nL : Nat} {ini : Bool} {pcs : List Nat} {rF rL pc b : Nat} (hb1 : pcs[b]? = some (pc + 3)) (qF : 1 ≤ rF) (qL : 20 ≤ rL) (hd : decode cc pc = .ok (.invokestatic 71, 3)) : sndQ mtab RX10 cc nL ini pcs rF rL pc (t_cs kX_yearOfKey 1 1 b) := sndQ_csN (host := "DayBoy") hb1 mt_X_yearOfKey m_281 mn_wN2_14 m_280 m_1 ⟨by decide, by decide, by decide +kernel⟩ qF qL hd
theorem gf_RX10_19 {cc : ByteArray} {nL : Nat} {ini : Bool} {pc : Nat} (hd : decode cc pc = .ok (.getfield 19, 3)) : snd RX10 cc nL ini pc (pc + 3) (s_get 9 3 0) := snd_getfield (C := RX10) (T := TX10) (N := 10) (ci := 9) (kf := 3) (kd := 0) (index := 19) (f := 3) cl_9 in_9 (by decide) nf_9 (by decide) rfl rfl rfl m_203 hd
theorem cs_RX10_75 {cc : ByteArray} {nL : Nat} {ini : Bool} {pcs : List Nat} {rF rL pc b : Nat} (hb1 : pcs[b]? = some (pc + 3)) (qF : 1 ≤ rF) (qL : 20 ≤ rL) (hd : decode cc pc = .ok (.invokestatic 75, 3)) : sndQ mtab RX10 cc nL ini pcs rF rL pc (t_cs kX_monthOfKey 1 1 b) := sndQ_csN (host := "DayBoy") hb1 mt_X_monthOfKey m_284 mn_wN2_15 m_283 m_1 ⟨by decide, by decide, by decide +kernel⟩ qF qL hd
theorem cs_RX10_78 {cc : ByteArray} {nL : Nat} {ini : Bool} {pcs : List Nat} {rF rL pc b : Nat} (hb1 : pcs[b]? = some (pc + 3)) (qF : 1 ≤ rF) (qL : 20 ≤ rL) (hd : decode cc pc = .ok (.invokestatic 78, 3)) : sndQ mtab RX10 cc nL ini pcs rF rL pc (t_cs kX_dateOfKey 1 1 b) := sndQ_csN (host := "DayBoy") hb1 mt_X_dateOfKey m_287 mn_wN2_16 m_286 m_1 ⟨by decide, by decide, by decide +kernel⟩ qF qL hd
theorem cs_RX10_81 {cc : ByteArray} {nL : Nat} {ini : Bool} {pcs : List Nat} {rF rL pc b : Nat} (hb1 : pcs[b]? = some (pc + 3)) (qF : 1 ≤ rF) (qL : 21 ≤ rL) (hd : decode cc pc = .ok (.invokestatic 81, 3)) : sndQ mtab RX10 cc nL ini pcs rF rL pc (t_cs kJ_min 2 1 b) := sndQ_cs hb1 mt_J_min m_125 m_288 m_124 m_4 ⟨by decide, by decide, by decide +kernel⟩ qF qL hd
theorem cs_RX10_86 {cc : ByteArray} {nL : Nat} {ini : Bool} {pcs : List Nat} {rF rL pc b : Nat} (hb1 : pcs[b]? = some (pc + 3)) (qF : 1 ≤ rF) (qL : 22 ≤ rL) (hd : decode cc pc = .ok (.invokestatic 86, 3)) : sndQ mtab RX10 cc nL ini pcs rF rL pc (t_cs kX_placeInYear 3 1 b) := sndQ_csN (host := "DayBoy") hb1 mt_X_placeInYear m_291 mn_wN2_17 m_290 m_1 ⟨by decide, by decide, by decide +kernel⟩ qF qL hd
theorem gf_RX10_23 {cc : ByteArray} {nL : Nat} {ini : Bool} {pc : Nat} (hd : decode cc pc = .ok (.getfield 23, 3)) : snd RX10 cc nL ini pc (pc + 3) (s_get 9 4 0) := snd_getfield (C := RX10) (T := TX10) (N := 10) (ci := 9) (kf := 4) (kd := 0) (index := 23) (f := 4) cl_9 in_9 (by decide) nf_9 (by decide) rfl rfl rfl m_204 hd
theorem cs_RX10_90 {cc : ByteArray} {nL : Nat} {ini : Bool} {pcs : List Nat} {rF rL pc b : Nat} (hb1 : pcs[b]? = some (pc + 3)) (qF : 1 ≤ rF) (qL : 20 ≤ rL) (hd : decode cc pc = .ok (.invokestatic 90, 3)) : sndQ mtab RX10 cc nL ini pcs rF rL pc (t_cs kX_yearLength 1 1 b) := sndQ_csN (host := "DayBoy") hb1 mt_X_yearLength m_296 mn_wN2_18 m_295 m_1 ⟨by decide, by decide, by decide +kernel⟩ qF qL hd
theorem cs_RX10_94 {cc : ByteArray} {nL : Nat} {ini : Bool} {pcs : List Nat} {rF rL pc b : Nat} (hb1 : pcs[b]? = some (pc + 3)) (qF : 2 ≤ rF) (qL : 48 ≤ rL) (hd : decode cc pc = .ok (.invokestatic 94, 3)) : sndQ mtab RX10 cc nL ini pcs rF rL pc (t_cs kX_keyAt 3 1 b) := sndQ_csN (host := "DayBoy") hb1 mt_X_keyAt m_299 mn_wN2_19 m_298 m_1 ⟨by decide, by decide, by decide +kernel⟩ qF qL hd
theorem gf_RX10_34 {cc : ByteArray} {nL : Nat} {ini : Bool} {pc : Nat} (hd : decode cc pc = .ok (.getfield 34, 3)) : snd RX10 cc nL ini pc (pc + 3) (s_get 9 6 0) := snd_getfield (C := RX10) (T := TX10) (N := 10) (ci := 9) (kf := 6) (kd := 0) (index := 34) (f := 6) cl_9 in_9 (by decide) nf_9 (by decide) rfl rfl rfl m_206 hd
theorem pf_RX10_101 {cc : ByteArray} {nL : Nat} {ini : Bool} {pc : Nat} (hd : decode cc pc = .ok (.putfield 101, 3)) : snd RX10 cc nL ini pc (pc + 3) (s_put 9 8 0) := snd_putfield (C := RX10) (T := TX10) (N := 10) (ci := 9) (kf := 8) (kd := 0) (index := 101) (f := 8) cl_9 in_9 (by decide) nf_9 (by decide) rfl rfl rfl tyX10_ok nmX10 rfl rfl m_210 hd
theorem pf_RX10_98 {cc : ByteArray} {nL : Nat} {ini : Bool} {pc : Nat} (hd : decode cc pc = .ok (.putfield 98, 3)) : snd RX10 cc nL ini pc (pc + 3) (s_put 9 7 0) := snd_putfield (C := RX10) (T := TX10) (N := 10) (ci := 9) (kf := 7) (kd := 0) (index := 98) (f := 7) cl_9 in_9 (by decide) nf_9 (by decide) rfl rfl rfl tyX10_ok nmX10 rfl rfl m_208 hd
theorem gf_RX10_98 {cc : ByteArray} {nL : Nat} {ini : Bool} {pc : Nat} (hd : decode cc pc = .ok (.getfield 98, 3)) : snd RX10 cc nL ini pc (pc + 3) (s_get 9 7 0) := snd_getfield (C := RX10) (T := TX10) (N := 10) (ci := 9) (kf := 7) (kd := 0) (index := 98) (f := 7) cl_9 in_9 (by decide) nf_9 (by decide) rfl rfl rfl m_208 hd
theorem gf_RX10_37 {cc : ByteArray} {nL : Nat} {ini : Bool} {pc : Nat} (hd : decode cc pc = .ok (.getfield 37, 3)) : snd RX10 cc nL ini pc (pc + 3) (s_get 9 9 102) := snd_getfield (C := RX10) (T := TX10) (N := 10) (ci := 9) (kf := 9) (kd := 102) (index := 37) (f := 9) cl_9 in_9 (by decide) nf_9 (by decide) rfl rfl rfl m_211 hd
theorem cs_RX10_104 {cc : ByteArray} {nL : Nat} {ini : Bool} {pcs : List Nat} {rF rL pc b : Nat} (hb1 : pcs[b]? = some (pc + 3)) (qF : 2 ≤ rF) (qL : 49 ≤ rL) (hd : decode cc pc = .ok (.invokevirtual 104, 3)) : sndQ mtab RX10 cc nL ini pcs rF rL pc (t_cv 9 kSh_dayOn 1 1 b) := sndQ_cv cl_9 (by decide) hb1 mt_Sh_dayOn m_489 m_486 m_487 m_488 m_6 ⟨rfl, by decide, by decide, by decide +kernel⟩ qF qL hd
theorem cs_RX10_107 {cc : ByteArray} {nL : Nat} {ini : Bool} {pcs : List Nat} {rF rL pc b : Nat} (hb1 : pcs[b]? = some (pc + 3)) (qF : 1 ≤ rF) (qL : 21 ≤ rL) (hd : decode cc pc = .ok (.invokevirtual 107, 3)) : sndQ mtab RX10 cc nL ini pcs rF rL pc (t_cv 9 kSh_isLeapAt 1 1 b) := sndQ_cv cl_9 (by decide) hb1 mt_Sh_isLeapAt m_493 m_490 m_492 ms_10 m_6 ⟨rfl, by decide, by decide, by decide +kernel⟩ qF qL hd
theorem gf_RX10_101 {cc : ByteArray} {nL : Nat} {ini : Bool} {pc : Nat} (hd : decode cc pc = .ok (.getfield 101, 3)) : snd RX10 cc nL ini pc (pc + 3) (s_get 9 8 0) := snd_getfield (C := RX10) (T := TX10) (N := 10) (ci := 9) (kf := 8) (kd := 0) (index := 101) (f := 8) cl_9 in_9 (by decide) nf_9 (by decide) rfl rfl rfl m_210 hd
theorem cs_RX10_110 {cc : ByteArray} {nL : Nat} {ini : Bool} {pcs : List Nat} {rF rL pc b : Nat} (hb1 : pcs[b]? = some (pc + 3)) (qF : 1 ≤ rF) (qL : 21 ≤ rL) (hd : decode cc pc = .ok (.invokestatic 110, 3)) : sndQ mtab RX10 cc nL ini pcs rF rL pc (t_cs kJ_max 2 1 b) := sndQ_cs hb1 mt_J_max m_429 m_683 m_428 m_4 ⟨by decide, by decide, by decide +kernel⟩ qF qL hd
theorem cs_RL_15 {cc : ByteArray} {nL : Nat} {ini : Bool} {pcs : List Nat} {rF rL pc b : Nat} (hb1 : pcs[b]? = some (pc + 3)) (qF : 2 ≤ rF) (qL : 32 ≤ rL) (hd : decode cc pc = .ok (.invokespecial 15, 3)) : sndQ mtab RL cc nL ini pcs rF rL pc (t_cv 10 kX_init 0 0 b) := sndQ_ci cl_10 (by decide) hb1 mt_X_init m_24 m_22 m_23 m_1 rfl ⟨by decide, by decide, by decide +kernel⟩ qF qL hd
theorem cs_RL_18 {cc : ByteArray} {nL : Nat} {ini : Bool} {pcs : List Nat} {rF rL pc b : Nat} (hb1 : pcs[b]? = some (pc + 3)) (qF : 2 ≤ rF) (qL : 32 ≤ rL) (hd : decode cc pc = .ok (.invokespecial 18, 3)) : sndQ mtab RL cc nL ini pcs rF rL pc (t_cv 11 kM_init 0 0 b) := sndQ_ci cl_11 (by decide) hb1 mt_M_init m_1157 m_1155 m_1156 m_2 rfl ⟨by decide, by decide, by decide +kernel⟩ qF qL hd
theorem cs_RL_19 {cc : ByteArray} {nL : Nat} {ini : Bool} {pcs : List Nat} {rF rL pc b : Nat} (hb1 : pcs[b]? = some (pc + 3)) (qF : 2 ≤ rF) (qL : 51 ≤ rL) (hd : decode cc pc = .ok (.invokevirtual 19, 3)) : sndQ mtab RL cc nL ini pcs rF rL pc (t_cv 10 kX_feed 5 1 b) := sndQ_cv cl_10 (by decide) hb1 mt_X_feed m_101 m_98 m_99 m_100 m_1 ⟨rfl, by decide, by decide, by decide +kernel⟩ qF qL hd
theorem cs_RL_23 {cc : ByteArray} {nL : Nat} {ini : Bool} {pcs : List Nat} {rF rL pc b : Nat} (hb1 : pcs[b]? = some (pc + 3)) (qF : 2 ≤ rF) (qL : 56 ≤ rL) (hd : decode cc pc = .ok (.invokevirtual 23, 3)) : sndQ mtab RL cc nL ini pcs rF rL pc (t_cv 11 kM_feed 5 1 b) := sndQ_cv cl_11 (by decide) hb1 mt_M_feed m_1382 m_1379 m_1380 m_1381 m_2 ⟨rfl, by decide, by decide, by decide +kernel⟩ qF qL hd
theorem cs_RL_24 {cc : ByteArray} {nL : Nat} {ini : Bool} {pcs : List Nat} {rF rL pc b : Nat} (hb1 : pcs[b]? = some (pc + 3)) (qF : 1 ≤ rF) (qL : 21 ≤ rL) (hd : decode cc pc = .ok (.invokevirtual 24, 3)) : sndQ mtab RL cc nL ini pcs rF rL pc (t_cv 10 kX_end 1 1 b) := sndQ_cv cl_10 (by decide) hb1 mt_X_end m_112 m_109 m_110 m_111 m_1 ⟨rfl, by decide, by decide, by decide +kernel⟩ qF qL hd
theorem cs_RL_28 {cc : ByteArray} {nL : Nat} {ini : Bool} {pcs : List Nat} {rF rL pc b : Nat} (hb1 : pcs[b]? = some (pc + 3)) (qF : 1 ≤ rF) (qL : 21 ≤ rL) (hd : decode cc pc = .ok (.invokevirtual 28, 3)) : sndQ mtab RL cc nL ini pcs rF rL pc (t_cv 11 kM_end 1 1 b) := sndQ_cv cl_11 (by decide) hb1 mt_M_end m_1389 m_1386 m_1387 m_1388 m_2 ⟨rfl, by decide, by decide, by decide +kernel⟩ qF qL hd
theorem cs_RL_29 {cc : ByteArray} {nL : Nat} {ini : Bool} {pcs : List Nat} {rF rL pc b : Nat} (hb1 : pcs[b]? = some (pc + 3)) (qF : 6 ≤ rF) (qL : 153 ≤ rL) (hd : decode cc pc = .ok (.invokevirtual 29, 3)) : sndQ mtab RL cc nL ini pcs rF rL pc (t_cv 10 kX_fault 1 1 b) := sndQ_cv cl_10 (by decide) hb1 mt_X_fault m_116 m_113 m_114 m_115 m_1 ⟨rfl, by decide, by decide, by decide +kernel⟩ qF qL hd
theorem cs_RL_33 {cc : ByteArray} {nL : Nat} {ini : Bool} {pcs : List Nat} {rF rL pc b : Nat} (hb1 : pcs[b]? = some (pc + 3)) (qF : 8 ≤ rF) (qL : 194 ≤ rL) (hd : decode cc pc = .ok (.invokevirtual 33, 3)) : sndQ mtab RL cc nL ini pcs rF rL pc (t_cv 11 kM_fault 1 1 b) := sndQ_cv cl_11 (by decide) hb1 mt_M_fault m_1393 m_1390 m_1391 m_1392 m_2 ⟨rfl, by decide, by decide, by decide +kernel⟩ qF qL hd
theorem cs_RL_34 {cc : ByteArray} {nL : Nat} {ini : Bool} {pcs : List Nat} {rF rL pc b : Nat} (hb1 : pcs[b]? = some (pc + 3)) (qF : 7 ≤ rF) (qL : 176 ≤ rL) (hd : decode cc pc = .ok (.invokevirtual 34, 3)) : sndQ mtab RL cc nL ini pcs rF rL pc (t_cv 10 kX_text 1 1 b) := sndQ_cv cl_10 (by decide) hb1 mt_X_text m_469 m_466 m_467 m_468 m_1 ⟨rfl, by decide, by decide, by decide +kernel⟩ qF qL hd
theorem cs_RL_37 {cc : ByteArray} {nL : Nat} {ini : Bool} {pcs : List Nat} {rF rL pc b : Nat} (hb1 : pcs[b]? = some (pc + 3)) (qF : 8 ≤ rF) (qL : 194 ≤ rL) (hd : decode cc pc = .ok (.invokevirtual 37, 3)) : sndQ mtab RL cc nL ini pcs rF rL pc (t_cv 11 kM_text 1 1 b) := sndQ_cv cl_11 (by decide) hb1 mt_M_text m_1500 m_1497 m_1498 m_1499 m_2 ⟨rfl, by decide, by decide, by decide +kernel⟩ qF qL hd
theorem cs_RL_38 {cc : ByteArray} {nL : Nat} {ini : Bool} {pcs : List Nat} {rF rL pc b : Nat} (hb1 : pcs[b]? = some (pc + 3)) (qF : 8 ≤ rF) (qL : 154 ≤ rL) (hd : decode cc pc = .ok (.invokestatic 38, 3)) : sndQ mtab RL cc nL ini pcs rF rL pc (t_cs kL_day 6 1 b) := sndQ_csD hb1 mt_L_day m_1086 m_1084 m_1085 m_0 ⟨by decide, by decide, by decide +kernel⟩ qF qL hd
theorem cs_RL_43 {cc : ByteArray} {nL : Nat} {ini : Bool} {pcs : List Nat} {rF rL pc b : Nat} (hb1 : pcs[b]? = some (pc + 3)) (qF : 5 ≤ rF) (qL : 130 ≤ rL) (hd : decode cc pc = .ok (.invokevirtual 43, 3)) : sndQ mtab RL cc nL ini pcs rF rL pc (t_cv 11 kM_day 4 1 b) := sndQ_cv cl_11 (by decide) hb1 mt_M_day m_1533 m_1530 m_1531 m_1532 m_2 ⟨rfl, by decide, by decide, by decide +kernel⟩ qF qL hd
theorem cs_RL_44 {cc : ByteArray} {nL : Nat} {ini : Bool} {pcs : List Nat} {rF rL pc b : Nat} (hb1 : pcs[b]? = some (pc + 3)) (qF : 1 ≤ rF) (qL : 20 ≤ rL) (hd : decode cc pc = .ok (.invokevirtual 44, 3)) : sndQ mtab RL cc nL ini pcs rF rL pc (t_cv 11 kM_thrown 0 1 b) := sndQ_cv cl_11 (by decide) hb1 mt_M_thrown m_1378 m_1375 m_1376 m_1377 m_2 ⟨rfl, by decide, by decide, by decide +kernel⟩ qF qL hd
theorem cs_RL_48 {cc : ByteArray} {nL : Nat} {ini : Bool} {pcs : List Nat} {rF rL pc b : Nat} (hb1 : pcs[b]? = some (pc + 3)) (qF : 5 ≤ rF) (qL : 125 ≤ rL) (hd : decode cc pc = .ok (.invokevirtual 48, 3)) : sndQ mtab RL cc nL ini pcs rF rL pc (t_cv 10 kX_date 3 1 b) := sndQ_cv cl_10 (by decide) hb1 mt_X_date m_643 m_640 m_641 m_642 m_1 ⟨rfl, by decide, by decide, by decide +kernel⟩ qF qL hd
theorem cs_RL_52 {cc : ByteArray} {nL : Nat} {ini : Bool} {pcs : List Nat} {rF rL pc b : Nat} (hb1 : pcs[b]? = some (pc + 3)) (qF : 5 ≤ rF) (qL : 130 ≤ rL) (hd : decode cc pc = .ok (.invokevirtual 52, 3)) : sndQ mtab RL cc nL ini pcs rF rL pc (t_cv 11 kM_date 3 1 b) := sndQ_cv cl_11 (by decide) hb1 mt_M_date m_1553 m_1550 m_1551 m_1552 m_2 ⟨rfl, by decide, by decide, by decide +kernel⟩ qF qL hd
theorem cs_RL_53 {cc : ByteArray} {nL : Nat} {ini : Bool} {pcs : List Nat} {rF rL pc b : Nat} (hb1 : pcs[b]? = some (pc + 3)) (qF : 5 ≤ rF) (qL : 134 ≤ rL) (hd : decode cc pc = .ok (.invokevirtual 53, 3)) : sndQ mtab RL cc nL ini pcs rF rL pc (t_cv 10 kX_turned 6 1 b) := sndQ_cv cl_10 (by decide) hb1 mt_X_turned m_665 m_662 m_663 m_664 m_1 ⟨rfl, by decide, by decide, by decide +kernel⟩ qF qL hd
theorem cs_RL_57 {cc : ByteArray} {nL : Nat} {ini : Bool} {pcs : List Nat} {rF rL pc b : Nat} (hb1 : pcs[b]? = some (pc + 3)) (qF : 6 ≤ rF) (qL : 158 ≤ rL) (hd : decode cc pc = .ok (.invokevirtual 57, 3)) : sndQ mtab RL cc nL ini pcs rF rL pc (t_cv 11 kM_turned 6 1 b) := sndQ_cv cl_11 (by decide) hb1 mt_M_turned m_1564 m_1561 m_1562 m_1563 m_2 ⟨rfl, by decide, by decide, by decide +kernel⟩ qF qL hd
theorem cs_RL_58 {cc : ByteArray} {nL : Nat} {ini : Bool} {pcs : List Nat} {rF rL pc b : Nat} (hb1 : pcs[b]? = some (pc + 3)) (qF : 4 ≤ rF) (qL : 103 ≤ rL) (hd : decode cc pc = .ok (.invokevirtual 58, 3)) : sndQ mtab RL cc nL ini pcs rF rL pc (t_cv 10 kX_many 3 1 b) := sndQ_cv cl_10 (by decide) hb1 mt_X_many m_674 m_671 m_672 m_673 m_1 ⟨rfl, by decide, by decide, by decide +kernel⟩ qF qL hd
theorem cs_RL_61 {cc : ByteArray} {nL : Nat} {ini : Bool} {pcs : List Nat} {rF rL pc b : Nat} (hb1 : pcs[b]? = some (pc + 3)) (qF : 5 ≤ rF) (qL : 130 ≤ rL) (hd : decode cc pc = .ok (.invokevirtual 61, 3)) : sndQ mtab RL cc nL ini pcs rF rL pc (t_cv 11 kM_many 3 1 b) := sndQ_cv cl_11 (by decide) hb1 mt_M_many m_1569 m_1566 m_1567 m_1568 m_2 ⟨rfl, by decide, by decide, by decide +kernel⟩ qF qL hd
theorem cs_RL_62 {cc : ByteArray} {nL : Nat} {ini : Bool} {pcs : List Nat} {rF rL pc b : Nat} (hb1 : pcs[b]? = some (pc + 3)) (qF : 2 ≤ rF) (qL : 46 ≤ rL) (hd : decode cc pc = .ok (.invokevirtual 62, 3)) : sndQ mtab RL cc nL ini pcs rF rL pc (t_cv 10 kX_kind 2 1 b) := sndQ_cv cl_10 (by decide) hb1 mt_X_kind m_687 m_684 m_685 m_686 m_1 ⟨rfl, by decide, by decide, by decide +kernel⟩ qF qL hd
theorem cs_RL_66 {cc : ByteArray} {nL : Nat} {ini : Bool} {pcs : List Nat} {rF rL pc b : Nat} (hb1 : pcs[b]? = some (pc + 3)) (qF : 6 ≤ rF) (qL : 154 ≤ rL) (hd : decode cc pc = .ok (.invokevirtual 66, 3)) : sndQ mtab RL cc nL ini pcs rF rL pc (t_cv 11 kM_kind 2 1 b) := sndQ_cv cl_11 (by decide) hb1 mt_M_kind m_1573 m_1570 m_1571 m_1572 m_2 ⟨rfl, by decide, by decide, by decide +kernel⟩ qF qL hd
theorem cs_RL_67 {cc : ByteArray} {nL : Nat} {ini : Bool} {pcs : List Nat} {rF rL pc b : Nat} (hb1 : pcs[b]? = some (pc + 3)) (qF : 5 ≤ rF) (qL : 137 ≤ rL) (hd : decode cc pc = .ok (.invokevirtual 67, 3)) : sndQ mtab RL cc nL ini pcs rF rL pc (t_cv 10 kX_way 7 1 b) := sndQ_cv cl_10 (by decide) hb1 mt_X_way m_720 m_717 m_718 m_719 m_1 ⟨rfl, by decide, by decide, by decide +kernel⟩ qF qL hd
theorem cs_RL_71 {cc : ByteArray} {nL : Nat} {ini : Bool} {pcs : List Nat} {rF rL pc b : Nat} (hb1 : pcs[b]? = some (pc + 3)) (qF : 6 ≤ rF) (qL : 159 ≤ rL) (hd : decode cc pc = .ok (.invokevirtual 71, 3)) : sndQ mtab RL cc nL ini pcs rF rL pc (t_cv 11 kM_way 7 1 b) := sndQ_cv cl_11 (by decide) hb1 mt_M_way m_1581 m_1578 m_1579 m_1580 m_2 ⟨rfl, by decide, by decide, by decide +kernel⟩ qF qL hd
theorem cs_RL_72 {cc : ByteArray} {nL : Nat} {ini : Bool} {pcs : List Nat} {rF rL pc b : Nat} (hb1 : pcs[b]? = some (pc + 3)) (qF : 6 ≤ rF) (qL : 163 ≤ rL) (hd : decode cc pc = .ok (.invokevirtual 72, 3)) : sndQ mtab RL cc nL ini pcs rF rL pc (t_cv 10 kX_answers 6 1 b) := sndQ_cv cl_10 (by decide) hb1 mt_X_answers m_758 m_755 m_756 m_757 m_1 ⟨rfl, by decide, by decide, by decide +kernel⟩ qF qL hd
theorem cs_RL_75 {cc : ByteArray} {nL : Nat} {ini : Bool} {pcs : List Nat} {rF rL pc b : Nat} (hb1 : pcs[b]? = some (pc + 3)) (qF : 7 ≤ rF) (qL : 186 ≤ rL) (hd : decode cc pc = .ok (.invokevirtual 75, 3)) : sndQ mtab RL cc nL ini pcs rF rL pc (t_cv 11 kM_answers 6 1 b) := sndQ_cv cl_11 (by decide) hb1 mt_M_answers m_1601 m_1598 m_1599 m_1600 m_2 ⟨rfl, by decide, by decide, by decide +kernel⟩ qF qL hd
theorem cs_RL_76 {cc : ByteArray} {nL : Nat} {ini : Bool} {pcs : List Nat} {rF rL pc b : Nat} (hb1 : pcs[b]? = some (pc + 3)) (qF : 5 ≤ rF) (qL : 134 ≤ rL) (hd : decode cc pc = .ok (.invokevirtual 76, 3)) : sndQ mtab RL cc nL ini pcs rF rL pc (t_cv 10 kX_ask 7 1 b) := sndQ_cv cl_10 (by decide) hb1 mt_X_ask m_866 m_863 m_864 m_865 m_1 ⟨rfl, by decide, by decide, by decide +kernel⟩ qF qL hd
theorem cs_RL_79 {cc : ByteArray} {nL : Nat} {ini : Bool} {pcs : List Nat} {rF rL pc b : Nat} (hb1 : pcs[b]? = some (pc + 3)) (qF : 5 ≤ rF) (qL : 131 ≤ rL) (hd : decode cc pc = .ok (.invokevirtual 79, 3)) : sndQ mtab RL cc nL ini pcs rF rL pc (t_cv 11 kM_ask 7 1 b) := sndQ_cv cl_11 (by decide) hb1 mt_M_ask m_1616 m_1613 m_1614 m_1615 m_2 ⟨rfl, by decide, by decide, by decide +kernel⟩ qF qL hd
theorem cs_RL_80 {cc : ByteArray} {nL : Nat} {ini : Bool} {pcs : List Nat} {rF rL pc b : Nat} (hb1 : pcs[b]? = some (pc + 3)) (qF : 3 ≤ rF) (qL : 70 ≤ rL) (hd : decode cc pc = .ok (.invokevirtual 80, 3)) : sndQ mtab RL cc nL ini pcs rF rL pc (t_cv 10 kX_asked 2 1 b) := sndQ_cv cl_10 (by decide) hb1 mt_X_asked m_937 m_934 m_935 m_936 m_1 ⟨rfl, by decide, by decide, by decide +kernel⟩ qF qL hd
theorem cs_RL_83 {cc : ByteArray} {nL : Nat} {ini : Bool} {pcs : List Nat} {rF rL pc b : Nat} (hb1 : pcs[b]? = some (pc + 3)) (qF : 6 ≤ rF) (qL : 151 ≤ rL) (hd : decode cc pc = .ok (.invokevirtual 83, 3)) : sndQ mtab RL cc nL ini pcs rF rL pc (t_cv 11 kM_asked 2 1 b) := sndQ_cv cl_11 (by decide) hb1 mt_M_asked m_1620 m_1617 m_1618 m_1619 m_2 ⟨rfl, by decide, by decide, by decide +kernel⟩ qF qL hd
theorem cs_RL_84 {cc : ByteArray} {nL : Nat} {ini : Bool} {pcs : List Nat} {rF rL pc b : Nat} (hb1 : pcs[b]? = some (pc + 3)) (qF : 8 ≤ rF) (qL : 206 ≤ rL) (hd : decode cc pc = .ok (.invokevirtual 84, 3)) : sndQ mtab RL cc nL ini pcs rF rL pc (t_cv 10 kX_fits 1 1 b) := sndQ_cv cl_10 (by decide) hb1 mt_X_fits m_941 m_938 m_939 m_940 m_1 ⟨rfl, by decide, by decide, by decide +kernel⟩ qF qL hd
theorem cs_RL_87 {cc : ByteArray} {nL : Nat} {ini : Bool} {pcs : List Nat} {rF rL pc b : Nat} (hb1 : pcs[b]? = some (pc + 3)) (qF : 9 ≤ rF) (qL : 234 ≤ rL) (hd : decode cc pc = .ok (.invokevirtual 87, 3)) : sndQ mtab RL cc nL ini pcs rF rL pc (t_cv 11 kM_fits 1 1 b) := sndQ_cv cl_11 (by decide) hb1 mt_M_fits m_1628 m_1625 m_1626 m_1627 m_2 ⟨rfl, by decide, by decide, by decide +kernel⟩ qF qL hd
theorem cs_RL_88 {cc : ByteArray} {nL : Nat} {ini : Bool} {pcs : List Nat} {rF rL pc b : Nat} (hb1 : pcs[b]? = some (pc + 3)) (qF : 7 ≤ rF) (qL : 182 ≤ rL) (hd : decode cc pc = .ok (.invokevirtual 88, 3)) : sndQ mtab RL cc nL ini pcs rF rL pc (t_cv 10 kX_so 2 1 b) := sndQ_cv cl_10 (by decide) hb1 mt_X_so m_968 m_965 m_966 m_967 m_1 ⟨rfl, by decide, by decide, by decide +kernel⟩ qF qL hd
theorem cs_RL_91 {cc : ByteArray} {nL : Nat} {ini : Bool} {pcs : List Nat} {rF rL pc b : Nat} (hb1 : pcs[b]? = some (pc + 3)) (qF : 9 ≤ rF) (qL : 233 ≤ rL) (hd : decode cc pc = .ok (.invokevirtual 91, 3)) : sndQ mtab RL cc nL ini pcs rF rL pc (t_cv 11 kM_so 2 1 b) := sndQ_cv cl_11 (by decide) hb1 mt_M_so m_1645 m_1642 m_1643 m_1644 m_2 ⟨rfl, by decide, by decide, by decide +kernel⟩ qF qL hd
theorem cs_RL_92 {cc : ByteArray} {nL : Nat} {ini : Bool} {pcs : List Nat} {rF rL pc b : Nat} (hb1 : pcs[b]? = some (pc + 3)) (qF : 3 ≤ rF) (qL : 70 ≤ rL) (hd : decode cc pc = .ok (.invokevirtual 92, 3)) : sndQ mtab RL cc nL ini pcs rF rL pc (t_cv 10 kX_further 1 1 b) := sndQ_cv cl_10 (by decide) hb1 mt_X_further m_972 m_969 m_970 m_971 m_1 ⟨rfl, by decide, by decide, by decide +kernel⟩ qF qL hd
theorem cs_RL_95 {cc : ByteArray} {nL : Nat} {ini : Bool} {pcs : List Nat} {rF rL pc b : Nat} (hb1 : pcs[b]? = some (pc + 3)) (qF : 2 ≤ rF) (qL : 49 ≤ rL) (hd : decode cc pc = .ok (.invokevirtual 95, 3)) : sndQ mtab RL cc nL ini pcs rF rL pc (t_cv 11 kM_further 1 1 b) := sndQ_cv cl_11 (by decide) hb1 mt_M_further m_1649 m_1646 m_1647 m_1648 m_2 ⟨rfl, by decide, by decide, by decide +kernel⟩ qF qL hd
theorem cs_RL_96 {cc : ByteArray} {nL : Nat} {ini : Bool} {pcs : List Nat} {rF rL pc b : Nat} (hb1 : pcs[b]? = some (pc + 3)) (qF : 1 ≤ rF) (qL : 24 ≤ rL) (hd : decode cc pc = .ok (.invokevirtual 96, 3)) : sndQ mtab RL cc nL ini pcs rF rL pc (t_cv 10 kX_lived 1 1 b) := sndQ_cv cl_10 (by decide) hb1 mt_X_lived m_980 m_977 m_978 m_979 m_1 ⟨rfl, by decide, by decide, by decide +kernel⟩ qF qL hd
theorem cs_RL_99 {cc : ByteArray} {nL : Nat} {ini : Bool} {pcs : List Nat} {rF rL pc b : Nat} (hb1 : pcs[b]? = some (pc + 3)) (qF : 6 ≤ rF) (qL : 153 ≤ rL) (hd : decode cc pc = .ok (.invokevirtual 99, 3)) : sndQ mtab RL cc nL ini pcs rF rL pc (t_cv 11 kM_lived 1 1 b) := sndQ_cv cl_11 (by decide) hb1 mt_M_lived m_1654 m_1651 m_1652 m_1653 m_2 ⟨rfl, by decide, by decide, by decide +kernel⟩ qF qL hd
theorem cs_RL_100 {cc : ByteArray} {nL : Nat} {ini : Bool} {pcs : List Nat} {rF rL pc b : Nat} (hb1 : pcs[b]? = some (pc + 3)) (qF : 3 ≤ rF) (qL : 71 ≤ rL) (hd : decode cc pc = .ok (.invokevirtual 100, 3)) : sndQ mtab RL cc nL ini pcs rF rL pc (t_cv 10 kX_after 1 1 b) := sndQ_cv cl_10 (by decide) hb1 mt_X_after m_984 m_981 m_982 m_983 m_1 ⟨rfl, by decide, by decide, by decide +kernel⟩ qF qL hd
theorem cs_RL_103 {cc : ByteArray} {nL : Nat} {ini : Bool} {pcs : List Nat} {rF rL pc b : Nat} (hb1 : pcs[b]? = some (pc + 3)) (qF : 6 ≤ rF) (qL : 158 ≤ rL) (hd : decode cc pc = .ok (.invokevirtual 103, 3)) : sndQ mtab RL cc nL ini pcs rF rL pc (t_cv 11 kM_after 1 1 b) := sndQ_cv cl_11 (by decide) hb1 mt_M_after m_1661 m_1658 m_1659 m_1660 m_2 ⟨rfl, by decide, by decide, by decide +kernel⟩ qF qL hd
theorem cs_RL_104 {cc : ByteArray} {nL : Nat} {ini : Bool} {pcs : List Nat} {rF rL pc b : Nat} (hb1 : pcs[b]? = some (pc + 3)) (qF : 6 ≤ rF) (qL : 162 ≤ rL) (hd : decode cc pc = .ok (.invokevirtual 104, 3)) : sndQ mtab RL cc nL ini pcs rF rL pc (t_cv 10 kX_learnt 4 1 b) := sndQ_cv cl_10 (by decide) hb1 mt_X_learnt m_993 m_990 m_991 m_992 m_1 ⟨rfl, by decide, by decide, by decide +kernel⟩ qF qL hd
theorem cs_RL_107 {cc : ByteArray} {nL : Nat} {ini : Bool} {pcs : List Nat} {rF rL pc b : Nat} (hb1 : pcs[b]? = some (pc + 3)) (qF : 8 ≤ rF) (qL : 212 ≤ rL) (hd : decode cc pc = .ok (.invokevirtual 107, 3)) : sndQ mtab RL cc nL ini pcs rF rL pc (t_cv 11 kM_learnt 4 1 b) := sndQ_cv cl_11 (by decide) hb1 mt_M_learnt m_1665 m_1662 m_1663 m_1664 m_2 ⟨rfl, by decide, by decide, by decide +kernel⟩ qF qL hd
theorem cs_RL_108 {cc : ByteArray} {nL : Nat} {ini : Bool} {pcs : List Nat} {rF rL pc b : Nat} (hb1 : pcs[b]? = some (pc + 3)) (qF : 2 ≤ rF) (qL : 46 ≤ rL) (hd : decode cc pc = .ok (.invokevirtual 108, 3)) : sndQ mtab RL cc nL ini pcs rF rL pc (t_cv 10 kX_weigh 2 1 b) := sndQ_cv cl_10 (by decide) hb1 mt_X_weigh m_998 m_995 m_996 m_997 m_1 ⟨rfl, by decide, by decide, by decide +kernel⟩ qF qL hd
theorem cs_RL_112 {cc : ByteArray} {nL : Nat} {ini : Bool} {pcs : List Nat} {rF rL pc b : Nat} (hb1 : pcs[b]? = some (pc + 3)) (qF : 3 ≤ rF) (qL : 69 ≤ rL) (hd : decode cc pc = .ok (.invokevirtual 112, 3)) : sndQ mtab RL cc nL ini pcs rF rL pc (t_cv 11 kM_weigh 2 1 b) := sndQ_cv cl_11 (by decide) hb1 mt_M_weigh m_1669 m_1666 m_1667 m_1668 m_2 ⟨rfl, by decide, by decide, by decide +kernel⟩ qF qL hd
theorem cs_RL_113 {cc : ByteArray} {nL : Nat} {ini : Bool} {pcs : List Nat} {rF rL pc b : Nat} (hb1 : pcs[b]? = some (pc + 3)) (qF : 8 ≤ rF) (qL : 210 ≤ rL) (hd : decode cc pc = .ok (.invokevirtual 113, 3)) : sndQ mtab RL cc nL ini pcs rF rL pc (t_cv 10 kX_odds 2 1 b) := sndQ_cv cl_10 (by decide) hb1 mt_X_odds m_1002 m_999 m_1000 m_1001 m_1 ⟨rfl, by decide, by decide, by decide +kernel⟩ qF qL hd
theorem cs_RL_116 {cc : ByteArray} {nL : Nat} {ini : Bool} {pcs : List Nat} {rF rL pc b : Nat} (hb1 : pcs[b]? = some (pc + 3)) (qF : 9 ≤ rF) (qL : 235 ≤ rL) (hd : decode cc pc = .ok (.invokevirtual 116, 3)) : sndQ mtab RL cc nL ini pcs rF rL pc (t_cv 11 kM_odds 2 1 b) := sndQ_cv cl_11 (by decide) hb1 mt_M_odds m_1673 m_1670 m_1671 m_1672 m_2 ⟨rfl, by decide, by decide, by decide +kernel⟩ qF qL hd
theorem cs_RL_117 {cc : ByteArray} {nL : Nat} {ini : Bool} {pcs : List Nat} {rF rL pc b : Nat} (hb1 : pcs[b]? = some (pc + 3)) (qF : 5 ≤ rF) (qL : 131 ≤ rL) (hd : decode cc pc = .ok (.invokevirtual 117, 3)) : sndQ mtab RL cc nL ini pcs rF rL pc (t_cv 10 kX_plan 4 1 b) := sndQ_cv cl_10 (by decide) hb1 mt_X_plan m_1006 m_1003 m_1004 m_1005 m_1 ⟨rfl, by decide, by decide, by decide +kernel⟩ qF qL hd
theorem cs_RL_120 {cc : ByteArray} {nL : Nat} {ini : Bool} {pcs : List Nat} {rF rL pc b : Nat} (hb1 : pcs[b]? = some (pc + 3)) (qF : 5 ≤ rF) (qL : 128 ≤ rL) (hd : decode cc pc = .ok (.invokevirtual 120, 3)) : sndQ mtab RL cc nL ini pcs rF rL pc (t_cv 11 kM_plan 4 1 b) := sndQ_cv cl_11 (by decide) hb1 mt_M_plan m_1677 m_1674 m_1675 m_1676 m_2 ⟨rfl, by decide, by decide, by decide +kernel⟩ qF qL hd
theorem cs_RL_121 {cc : ByteArray} {nL : Nat} {ini : Bool} {pcs : List Nat} {rF rL pc b : Nat} (hb1 : pcs[b]? = some (pc + 3)) (qF : 7 ≤ rF) (qL : 182 ≤ rL) (hd : decode cc pc = .ok (.invokevirtual 121, 3)) : sndQ mtab RL cc nL ini pcs rF rL pc (t_cv 10 kX_parted 2 1 b) := sndQ_cv cl_10 (by decide) hb1 mt_X_parted m_1010 m_1007 m_1008 m_1009 m_1 ⟨rfl, by decide, by decide, by decide +kernel⟩ qF qL hd
theorem cs_RL_124 {cc : ByteArray} {nL : Nat} {ini : Bool} {pcs : List Nat} {rF rL pc b : Nat} (hb1 : pcs[b]? = some (pc + 3)) (qF : 9 ≤ rF) (qL : 242 ≤ rL) (hd : decode cc pc = .ok (.invokevirtual 124, 3)) : sndQ mtab RL cc nL ini pcs rF rL pc (t_cv 11 kM_parted 2 1 b) := sndQ_cv cl_11 (by decide) hb1 mt_M_parted m_1681 m_1678 m_1679 m_1680 m_2 ⟨rfl, by decide, by decide, by decide +kernel⟩ qF qL hd
theorem cs_RL_125 {cc : ByteArray} {nL : Nat} {ini : Bool} {pcs : List Nat} {rF rL pc b : Nat} (hb1 : pcs[b]? = some (pc + 3)) (qF : 7 ≤ rF) (qL : 185 ≤ rL) (hd : decode cc pc = .ok (.invokevirtual 125, 3)) : sndQ mtab RL cc nL ini pcs rF rL pc (t_cv 10 kX_next 1 1 b) := sndQ_cv cl_10 (by decide) hb1 mt_X_next m_1026 m_1023 m_1024 m_1025 m_1 ⟨rfl, by decide, by decide, by decide +kernel⟩ qF qL hd
theorem cs_RL_128 {cc : ByteArray} {nL : Nat} {ini : Bool} {pcs : List Nat} {rF rL pc b : Nat} (hb1 : pcs[b]? = some (pc + 3)) (qF : 9 ≤ rF) (qL : 245 ≤ rL) (hd : decode cc pc = .ok (.invokevirtual 128, 3)) : sndQ mtab RL cc nL ini pcs rF rL pc (t_cv 11 kM_next 1 1 b) := sndQ_cv cl_11 (by decide) hb1 mt_M_next m_1697 m_1694 m_1695 m_1696 m_2 ⟨rfl, by decide, by decide, by decide +kernel⟩ qF qL hd
theorem cs_RL_129 {cc : ByteArray} {nL : Nat} {ini : Bool} {pcs : List Nat} {rF rL pc b : Nat} (hb1 : pcs[b]? = some (pc + 3)) (qF : 6 ≤ rF) (qL : 166 ≤ rL) (hd : decode cc pc = .ok (.invokevirtual 129, 3)) : sndQ mtab RL cc nL ini pcs rF rL pc (t_cv 10 kX_part 5 1 b) := sndQ_cv cl_10 (by decide) hb1 mt_X_part m_780 m_777 m_778 m_779 m_1 ⟨rfl, by decide, by decide, by decide +kernel⟩ qF qL hd
theorem cs_RL_132 {cc : ByteArray} {nL : Nat} {ini : Bool} {pcs : List Nat} {rF rL pc b : Nat} (hb1 : pcs[b]? = some (pc + 3)) (qF : 8 ≤ rF) (qL : 220 ≤ rL) (hd : decode cc pc = .ok (.invokevirtual 132, 3)) : sndQ mtab RL cc nL ini pcs rF rL pc (t_cv 11 kM_part 5 1 b) := sndQ_cv cl_11 (by decide) hb1 mt_M_part m_1701 m_1698 m_1699 m_1700 m_2 ⟨rfl, by decide, by decide, by decide +kernel⟩ qF qL hd
theorem cs_RL_133 {cc : ByteArray} {nL : Nat} {ini : Bool} {pcs : List Nat} {rF rL pc b : Nat} (hb1 : pcs[b]? = some (pc + 3)) (qF : 6 ≤ rF) (qL : 167 ≤ rL) (hd : decode cc pc = .ok (.invokevirtual 133, 3)) : sndQ mtab RL cc nL ini pcs rF rL pc (t_cv 10 kX_least 5 1 b) := sndQ_cv cl_10 (by decide) hb1 mt_X_least m_788 m_785 m_786 m_787 m_1 ⟨rfl, by decide, by decide, by decide +kernel⟩ qF qL hd
theorem cs_RL_136 {cc : ByteArray} {nL : Nat} {ini : Bool} {pcs : List Nat} {rF rL pc b : Nat} (hb1 : pcs[b]? = some (pc + 3)) (qF : 5 ≤ rF) (qL : 137 ≤ rL) (hd : decode cc pc = .ok (.invokevirtual 136, 3)) : sndQ mtab RL cc nL ini pcs rF rL pc (t_cv 11 kM_least 5 1 b) := sndQ_cv cl_11 (by decide) hb1 mt_M_least m_1705 m_1702 m_1703 m_1704 m_2 ⟨rfl, by decide, by decide, by decide +kernel⟩ qF qL hd
theorem cs_RL_137 {cc : ByteArray} {nL : Nat} {ini : Bool} {pcs : List Nat} {rF rL pc b : Nat} (hb1 : pcs[b]? = some (pc + 3)) (qF : 3 ≤ rF) (qL : 75 ≤ rL) (hd : decode cc pc = .ok (.invokevirtual 137, 3)) : sndQ mtab RL cc nL ini pcs rF rL pc (t_cv 10 kX_like 3 1 b) := sndQ_cv cl_10 (by decide) hb1 mt_X_like m_695 m_692 m_693 m_694 m_1 ⟨rfl, by decide, by decide, by decide +kernel⟩ qF qL hd
theorem cs_RL_140 {cc : ByteArray} {nL : Nat} {ini : Bool} {pcs : List Nat} {rF rL pc b : Nat} (hb1 : pcs[b]? = some (pc + 3)) (qF : 6 ≤ rF) (qL : 158 ≤ rL) (hd : decode cc pc = .ok (.invokevirtual 140, 3)) : sndQ mtab RL cc nL ini pcs rF rL pc (t_cv 11 kM_like 3 1 b) := sndQ_cv cl_11 (by decide) hb1 mt_M_like m_1719 m_1716 m_1717 m_1718 m_2 ⟨rfl, by decide, by decide, by decide +kernel⟩ qF qL hd
theorem cs_RL_141 {cc : ByteArray} {nL : Nat} {ini : Bool} {pcs : List Nat} {rF rL pc b : Nat} (hb1 : pcs[b]? = some (pc + 3)) (qF : 4 ≤ rF) (qL : 107 ≤ rL) (hd : decode cc pc = .ok (.invokevirtual 141, 3)) : sndQ mtab RL cc nL ini pcs rF rL pc (t_cv 10 kX_thirteenths 4 1 b) := sndQ_cv cl_10 (by decide) hb1 mt_X_thirteenths m_700 m_697 m_698 m_699 m_1 ⟨rfl, by decide, by decide, by decide +kernel⟩ qF qL hd
theorem cs_RL_144 {cc : ByteArray} {nL : Nat} {ini : Bool} {pcs : List Nat} {rF rL pc b : Nat} (hb1 : pcs[b]? = some (pc + 3)) (qF : 5 ≤ rF) (qL : 133 ≤ rL) (hd : decode cc pc = .ok (.invokevirtual 144, 3)) : sndQ mtab RL cc nL ini pcs rF rL pc (t_cv 11 kM_thirteenths 4 1 b) := sndQ_cv cl_11 (by decide) hb1 mt_M_thirteenths m_1723 m_1720 m_1721 m_1722 m_2 ⟨rfl, by decide, by decide, by decide +kernel⟩ qF qL hd
theorem cs_RL_145 {cc : ByteArray} {nL : Nat} {ini : Bool} {pcs : List Nat} {rF rL pc b : Nat} (hb1 : pcs[b]? = some (pc + 3)) (qF : 5 ≤ rF) (qL : 131 ≤ rL) (hd : decode cc pc = .ok (.invokevirtual 145, 3)) : sndQ mtab RL cc nL ini pcs rF rL pc (t_cv 10 kX_mates 3 1 b) := sndQ_cv cl_10 (by decide) hb1 mt_X_mates m_707 m_704 m_705 m_706 m_1 ⟨rfl, by decide, by decide, by decide +kernel⟩ qF qL hd
theorem cs_RL_148 {cc : ByteArray} {nL : Nat} {ini : Bool} {pcs : List Nat} {rF rL pc b : Nat} (hb1 : pcs[b]? = some (pc + 3)) (qF : 5 ≤ rF) (qL : 131 ≤ rL) (hd : decode cc pc = .ok (.invokevirtual 148, 3)) : sndQ mtab RL cc nL ini pcs rF rL pc (t_cv 11 kM_mates 3 1 b) := sndQ_cv cl_11 (by decide) hb1 mt_M_mates m_1727 m_1724 m_1725 m_1726 m_2 ⟨rfl, by decide, by decide, by decide +kernel⟩ qF qL hd
theorem cs_RL_149 {cc : ByteArray} {nL : Nat} {ini : Bool} {pcs : List Nat} {rF rL pc b : Nat} (hb1 : pcs[b]? = some (pc + 3)) (qF : 5 ≤ rF) (qL : 131 ≤ rL) (hd : decode cc pc = .ok (.invokevirtual 149, 3)) : sndQ mtab RL cc nL ini pcs rF rL pc (t_cv 10 kX_born 4 1 b) := sndQ_cv cl_10 (by decide) hb1 mt_X_born m_1036 m_1033 m_1034 m_1035 m_1 ⟨rfl, by decide, by decide, by decide +kernel⟩ qF qL hd
theorem cs_RL_153 {cc : ByteArray} {nL : Nat} {ini : Bool} {pcs : List Nat} {rF rL pc b : Nat} (hb1 : pcs[b]? = some (pc + 3)) (qF : 5 ≤ rF) (qL : 130 ≤ rL) (hd : decode cc pc = .ok (.invokevirtual 153, 3)) : sndQ mtab RL cc nL ini pcs rF rL pc (t_cv 11 kM_born 4 1 b) := sndQ_cv cl_11 (by decide) hb1 mt_M_born m_1731 m_1728 m_1729 m_1730 m_2 ⟨rfl, by decide, by decide, by decide +kernel⟩ qF qL hd
theorem cs_RL_154 {cc : ByteArray} {nL : Nat} {ini : Bool} {pcs : List Nat} {rF rL pc b : Nat} (hb1 : pcs[b]? = some (pc + 3)) (qF : 6 ≤ rF) (qL : 160 ≤ rL) (hd : decode cc pc = .ok (.invokevirtual 154, 3)) : sndQ mtab RL cc nL ini pcs rF rL pc (t_cv 10 kX_age 4 1 b) := sndQ_cv cl_10 (by decide) hb1 mt_X_age m_1040 m_1037 m_1038 m_1039 m_1 ⟨rfl, by decide, by decide, by decide +kernel⟩ qF qL hd
theorem cs_RL_157 {cc : ByteArray} {nL : Nat} {ini : Bool} {pcs : List Nat} {rF rL pc b : Nat} (hb1 : pcs[b]? = some (pc + 3)) (qF : 6 ≤ rF) (qL : 160 ≤ rL) (hd : decode cc pc = .ok (.invokevirtual 157, 3)) : sndQ mtab RL cc nL ini pcs rF rL pc (t_cv 11 kM_age 4 1 b) := sndQ_cv cl_11 (by decide) hb1 mt_M_age m_1735 m_1732 m_1733 m_1734 m_2 ⟨rfl, by decide, by decide, by decide +kernel⟩ qF qL hd
theorem cs_RL_158 {cc : ByteArray} {nL : Nat} {ini : Bool} {pcs : List Nat} {rF rL pc b : Nat} (hb1 : pcs[b]? = some (pc + 3)) (qF : 5 ≤ rF) (qL : 131 ≤ rL) (hd : decode cc pc = .ok (.invokevirtual 158, 3)) : sndQ mtab RL cc nL ini pcs rF rL pc (t_cv 10 kX_event 5 1 b) := sndQ_cv cl_10 (by decide) hb1 mt_X_event m_1052 m_1049 m_1050 m_1051 m_1 ⟨rfl, by decide, by decide, by decide +kernel⟩ qF qL hd
theorem cs_RL_161 {cc : ByteArray} {nL : Nat} {ini : Bool} {pcs : List Nat} {rF rL pc b : Nat} (hb1 : pcs[b]? = some (pc + 3)) (qF : 5 ≤ rF) (qL : 131 ≤ rL) (hd : decode cc pc = .ok (.invokevirtual 161, 3)) : sndQ mtab RL cc nL ini pcs rF rL pc (t_cv 11 kM_event 5 1 b) := sndQ_cv cl_11 (by decide) hb1 mt_M_event m_1743 m_1740 m_1741 m_1742 m_2 ⟨rfl, by decide, by decide, by decide +kernel⟩ qF qL hd
theorem cs_RL_162 {cc : ByteArray} {nL : Nat} {ini : Bool} {pcs : List Nat} {rF rL pc b : Nat} (hb1 : pcs[b]? = some (pc + 3)) (qF : 5 ≤ rF) (qL : 130 ≤ rL) (hd : decode cc pc = .ok (.invokevirtual 162, 3)) : sndQ mtab RL cc nL ini pcs rF rL pc (t_cv 10 kX_held 4 1 b) := sndQ_cv cl_10 (by decide) hb1 mt_X_held m_1059 m_1056 m_1057 m_1058 m_1 ⟨rfl, by decide, by decide, by decide +kernel⟩ qF qL hd
theorem cs_RL_165 {cc : ByteArray} {nL : Nat} {ini : Bool} {pcs : List Nat} {rF rL pc b : Nat} (hb1 : pcs[b]? = some (pc + 3)) (qF : 5 ≤ rF) (qL : 132 ≤ rL) (hd : decode cc pc = .ok (.invokevirtual 165, 3)) : sndQ mtab RL cc nL ini pcs rF rL pc (t_cv 11 kM_held 4 1 b) := sndQ_cv cl_11 (by decide) hb1 mt_M_held m_1747 m_1744 m_1745 m_1746 m_2 ⟨rfl, by decide, by decide, by decide +kernel⟩ qF qL hd
theorem cs_RL_166 {cc : ByteArray} {nL : Nat} {ini : Bool} {pcs : List Nat} {rF rL pc b : Nat} (hb1 : pcs[b]? = some (pc + 3)) (qF : 3 ≤ rF) (qL : 73 ≤ rL) (hd : decode cc pc = .ok (.invokevirtual 166, 3)) : sndQ mtab RL cc nL ini pcs rF rL pc (t_cv 10 kX_spell 1 1 b) := sndQ_cv cl_10 (by decide) hb1 mt_X_spell m_1067 m_1064 m_1065 m_1066 m_1 ⟨rfl, by decide, by decide, by decide +kernel⟩ qF qL hd
theorem cs_RL_169 {cc : ByteArray} {nL : Nat} {ini : Bool} {pcs : List Nat} {rF rL pc b : Nat} (hb1 : pcs[b]? = some (pc + 3)) (qF : 2 ≤ rF) (qL : 49 ≤ rL) (hd : decode cc pc = .ok (.invokevirtual 169, 3)) : sndQ mtab RL cc nL ini pcs rF rL pc (t_cv 11 kM_spell 1 1 b) := sndQ_cv cl_11 (by decide) hb1 mt_M_spell m_1751 m_1748 m_1749 m_1750 m_2 ⟨rfl, by decide, by decide, by decide +kernel⟩ qF qL hd
theorem cs_RL_170 {cc : ByteArray} {nL : Nat} {ini : Bool} {pcs : List Nat} {rF rL pc b : Nat} (hb1 : pcs[b]? = some (pc + 3)) (qF : 1 ≤ rF) (qL : 20 ≤ rL) (hd : decode cc pc = .ok (.invokevirtual 170, 3)) : sndQ mtab RL cc nL ini pcs rF rL pc (t_cv 10 kX_keep 0 1 b) := sndQ_cv cl_10 (by decide) hb1 mt_X_keep m_1075 m_1072 m_1073 m_1074 m_1 ⟨rfl, by decide, by decide, by decide +kernel⟩ qF qL hd
theorem cs_RL_173 {cc : ByteArray} {nL : Nat} {ini : Bool} {pcs : List Nat} {rF rL pc b : Nat} (hb1 : pcs[b]? = some (pc + 3)) (qF : 1 ≤ rF) (qL : 20 ≤ rL) (hd : decode cc pc = .ok (.invokevirtual 173, 3)) : sndQ mtab RL cc nL ini pcs rF rL pc (t_cv 11 kM_keep 0 1 b) := sndQ_cv cl_11 (by decide) hb1 mt_M_keep m_1759 m_1756 m_1757 m_1758 m_2 ⟨rfl, by decide, by decide, by decide +kernel⟩ qF qL hd
theorem cs_RL_174 {cc : ByteArray} {nL : Nat} {ini : Bool} {pcs : List Nat} {rF rL pc b : Nat} (hb1 : pcs[b]? = some (pc + 3)) (qF : 1 ≤ rF) (qL : 20 ≤ rL) (hd : decode cc pc = .ok (.invokevirtual 174, 3)) : sndQ mtab RL cc nL ini pcs rF rL pc (t_cv 10 kX_back 0 1 b) := sndQ_cv cl_10 (by decide) hb1 mt_X_back m_1079 m_1076 m_1077 m_1078 m_1 ⟨rfl, by decide, by decide, by decide +kernel⟩ qF qL hd
theorem cs_RL_177 {cc : ByteArray} {nL : Nat} {ini : Bool} {pcs : List Nat} {rF rL pc b : Nat} (hb1 : pcs[b]? = some (pc + 3)) (qF : 2 ≤ rF) (qL : 43 ≤ rL) (hd : decode cc pc = .ok (.invokevirtual 177, 3)) : sndQ mtab RL cc nL ini pcs rF rL pc (t_cv 11 kM_back 0 1 b) := sndQ_cv cl_11 (by decide) hb1 mt_M_back m_1763 m_1760 m_1761 m_1762 m_2 ⟨rfl, by decide, by decide, by decide +kernel⟩ qF qL hd
theorem cs_RL_178 {cc : ByteArray} {nL : Nat} {ini : Bool} {pcs : List Nat} {rF rL pc b : Nat} (hb1 : pcs[b]? = some (pc + 3)) (qF : 6 ≤ rF) (qL : 161 ≤ rL) (hd : decode cc pc = .ok (.invokevirtual 178, 3)) : sndQ mtab RL cc nL ini pcs rF rL pc (t_cv 10 kX_row 3 1 b) := sndQ_cv cl_10 (by decide) hb1 mt_X_row m_823 m_820 m_821 m_822 m_1 ⟨rfl, by decide, by decide, by decide +kernel⟩ qF qL hd
theorem cs_RL_181 {cc : ByteArray} {nL : Nat} {ini : Bool} {pcs : List Nat} {rF rL pc b : Nat} (hb1 : pcs[b]? = some (pc + 3)) (qF : 7 ≤ rF) (qL : 187 ≤ rL) (hd : decode cc pc = .ok (.invokevirtual 181, 3)) : sndQ mtab RL cc nL ini pcs rF rL pc (t_cv 11 kM_row 3 1 b) := sndQ_cv cl_11 (by decide) hb1 mt_M_row m_1767 m_1764 m_1765 m_1766 m_2 ⟨rfl, by decide, by decide, by decide +kernel⟩ qF qL hd
theorem cs_RL_184 {cc : ByteArray} {nL : Nat} {ini : Bool} {pcs : List Nat} {rF rL pc b : Nat} (hb1 : pcs[b]? = some (pc + 3)) (qF : 6 ≤ rF) (qL : 164 ≤ rL) (hd : decode cc pc = .ok (.invokevirtual 184, 3)) : sndQ mtab RL cc nL ini pcs rF rL pc (t_cv 10 kX_run 5 1 b) := sndQ_cv cl_10 (by decide) hb1 mt_X_run m_1030 m_1027 m_1028 m_1029 m_1 ⟨rfl, by decide, by decide, by decide +kernel⟩ qF qL hd
theorem cs_RL_188 {cc : ByteArray} {nL : Nat} {ini : Bool} {pcs : List Nat} {rF rL pc b : Nat} (hb1 : pcs[b]? = some (pc + 3)) (qF : 7 ≤ rF) (qL : 191 ≤ rL) (hd : decode cc pc = .ok (.invokevirtual 188, 3)) : sndQ mtab RL cc nL ini pcs rF rL pc (t_cv 11 kM_run 5 1 b) := sndQ_cv cl_11 (by decide) hb1 mt_M_run m_1771 m_1768 m_1769 m_1770 m_2 ⟨rfl, by decide, by decide, by decide +kernel⟩ qF qL hd
theorem cs_RL_189 {cc : ByteArray} {nL : Nat} {ini : Bool} {pcs : List Nat} {rF rL pc b : Nat} (hb1 : pcs[b]? = some (pc + 3)) (qF : 6 ≤ rF) (qL : 161 ≤ rL) (hd : decode cc pc = .ok (.invokevirtual 189, 3)) : sndQ mtab RL cc nL ini pcs rF rL pc (t_cv 10 kX_holds 6 1 b) := sndQ_cv cl_10 (by decide) hb1 mt_X_holds m_835 m_832 m_833 m_834 m_1 ⟨rfl, by decide, by decide, by decide +kernel⟩ qF qL hd
theorem cs_RL_192 {cc : ByteArray} {nL : Nat} {ini : Bool} {pcs : List Nat} {rF rL pc b : Nat} (hb1 : pcs[b]? = some (pc + 3)) (qF : 7 ≤ rF) (qL : 187 ≤ rL) (hd : decode cc pc = .ok (.invokevirtual 192, 3)) : sndQ mtab RL cc nL ini pcs rF rL pc (t_cv 11 kM_holds 6 1 b) := sndQ_cv cl_11 (by decide) hb1 mt_M_holds m_1785 m_1782 m_1783 m_1784 m_2 ⟨rfl, by decide, by decide, by decide +kernel⟩ qF qL hd
theorem cs_RL_193 {cc : ByteArray} {nL : Nat} {ini : Bool} {pcs : List Nat} {rF rL pc b : Nat} (hb1 : pcs[b]? = some (pc + 3)) (qF : 5 ≤ rF) (qL : 138 ≤ rL) (hd : decode cc pc = .ok (.invokevirtual 193, 3)) : sndQ mtab RL cc nL ini pcs rF rL pc (t_cv 10 kX_right 4 1 b) := sndQ_cv cl_10 (by decide) hb1 mt_X_right m_847 m_844 m_845 m_846 m_1 ⟨rfl, by decide, by decide, by decide +kernel⟩ qF qL hd
theorem cs_RL_196 {cc : ByteArray} {nL : Nat} {ini : Bool} {pcs : List Nat} {rF rL pc b : Nat} (hb1 : pcs[b]? = some (pc + 3)) (qF : 7 ≤ rF) (qL : 188 ≤ rL) (hd : decode cc pc = .ok (.invokevirtual 196, 3)) : sndQ mtab RL cc nL ini pcs rF rL pc (t_cv 11 kM_right 4 1 b) := sndQ_cv cl_11 (by decide) hb1 mt_M_right m_1801 m_1798 m_1799 m_1800 m_2 ⟨rfl, by decide, by decide, by decide +kernel⟩ qF qL hd
theorem cs_RL_197 {cc : ByteArray} {nL : Nat} {ini : Bool} {pcs : List Nat} {rF rL pc b : Nat} (hb1 : pcs[b]? = some (pc + 3)) (qF : 4 ≤ rF) (qL : 100 ≤ rL) (hd : decode cc pc = .ok (.invokevirtual 197, 3)) : sndQ mtab RL cc nL ini pcs rF rL pc (t_cv 10 kX_lacks 4 1 b) := sndQ_cv cl_10 (by decide) hb1 mt_X_lacks m_851 m_848 m_849 m_850 m_1 ⟨rfl, by decide, by decide, by decide +kernel⟩ qF qL hd
theorem cs_RL_200 {cc : ByteArray} {nL : Nat} {ini : Bool} {pcs : List Nat} {rF rL pc b : Nat} (hb1 : pcs[b]? = some (pc + 3)) (qF : 3 ≤ rF) (qL : 79 ≤ rL) (hd : decode cc pc = .ok (.invokevirtual 200, 3)) : sndQ mtab RL cc nL ini pcs rF rL pc (t_cv 11 kM_lacks 4 1 b) := sndQ_cv cl_11 (by decide) hb1 mt_M_lacks m_1805 m_1802 m_1803 m_1804 m_2 ⟨rfl, by decide, by decide, by decide +kernel⟩ qF qL hd
theorem cs_RL_201 {cc : ByteArray} {nL : Nat} {ini : Bool} {pcs : List Nat} {rF rL pc b : Nat} (hb1 : pcs[b]? = some (pc + 3)) (qF : 8 ≤ rF) (qL : 207 ≤ rL) (hd : decode cc pc = .ok (.invokevirtual 201, 3)) : sndQ mtab RL cc nL ini pcs rF rL pc (t_cv 10 kX_spare 2 1 b) := sndQ_cv cl_10 (by decide) hb1 mt_X_spare m_964 m_961 m_962 m_963 m_1 ⟨rfl, by decide, by decide, by decide +kernel⟩ qF qL hd
theorem cs_RL_204 {cc : ByteArray} {nL : Nat} {ini : Bool} {pcs : List Nat} {rF rL pc b : Nat} (hb1 : pcs[b]? = some (pc + 3)) (qF : 9 ≤ rF) (qL : 235 ≤ rL) (hd : decode cc pc = .ok (.invokevirtual 204, 3)) : sndQ mtab RL cc nL ini pcs rF rL pc (t_cv 11 kM_spare 2 1 b) := sndQ_cv cl_11 (by decide) hb1 mt_M_spare m_1817 m_1814 m_1815 m_1816 m_2 ⟨rfl, by decide, by decide, by decide +kernel⟩ qF qL hd
theorem cs_RL_205 {cc : ByteArray} {nL : Nat} {ini : Bool} {pcs : List Nat} {rF rL pc b : Nat} (hb1 : pcs[b]? = some (pc + 3)) (qF : 5 ≤ rF) (qL : 126 ≤ rL) (hd : decode cc pc = .ok (.invokevirtual 205, 3)) : sndQ mtab RL cc nL ini pcs rF rL pc (t_cv 10 kX_unlike 3 1 b) := sndQ_cv cl_10 (by decide) hb1 mt_X_unlike m_715 m_712 m_713 m_714 m_1 ⟨rfl, by decide, by decide, by decide +kernel⟩ qF qL hd
theorem cs_RL_208 {cc : ByteArray} {nL : Nat} {ini : Bool} {pcs : List Nat} {rF rL pc b : Nat} (hb1 : pcs[b]? = some (pc + 3)) (qF : 5 ≤ rF) (qL : 130 ≤ rL) (hd : decode cc pc = .ok (.invokevirtual 208, 3)) : sndQ mtab RL cc nL ini pcs rF rL pc (t_cv 11 kM_unlike 3 1 b) := sndQ_cv cl_11 (by decide) hb1 mt_M_unlike m_1821 m_1818 m_1819 m_1820 m_2 ⟨rfl, by decide, by decide, by decide +kernel⟩ qF qL hd
theorem cs_RL_209 {cc : ByteArray} {nL : Nat} {ini : Bool} {pcs : List Nat} {rF rL pc b : Nat} (hb1 : pcs[b]? = some (pc + 3)) (qF : 3 ≤ rF) (qL : 76 ≤ rL) (hd : decode cc pc = .ok (.invokevirtual 209, 3)) : sndQ mtab RL cc nL ini pcs rF rL pc (t_cv 10 kX_rises 4 1 b) := sndQ_cv cl_10 (by decide) hb1 mt_X_rises m_859 m_856 m_857 m_858 m_1 ⟨rfl, by decide, by decide, by decide +kernel⟩ qF qL hd
theorem cs_RL_212 {cc : ByteArray} {nL : Nat} {ini : Bool} {pcs : List Nat} {rF rL pc b : Nat} (hb1 : pcs[b]? = some (pc + 3)) (qF : 3 ≤ rF) (qL : 75 ≤ rL) (hd : decode cc pc = .ok (.invokevirtual 212, 3)) : sndQ mtab RL cc nL ini pcs rF rL pc (t_cv 11 kM_rises 4 1 b) := sndQ_cv cl_11 (by decide) hb1 mt_M_rises m_1826 m_1823 m_1824 m_1825 m_2 ⟨rfl, by decide, by decide, by decide +kernel⟩ qF qL hd
theorem cs_RL_213 {cc : ByteArray} {nL : Nat} {ini : Bool} {pcs : List Nat} {rF rL pc b : Nat} (hb1 : pcs[b]? = some (pc + 3)) (qF : 1 ≤ rF) (qL : 21 ≤ rL) (hd : decode cc pc = .ok (.invokevirtual 213, 3)) : sndQ mtab RL cc nL ini pcs rF rL pc (t_cv 10 kX_count 1 1 b) := sndQ_cv cl_10 (by decide) hb1 mt_X_count m_1083 m_1080 m_1081 m_1082 m_1 ⟨rfl, by decide, by decide, by decide +kernel⟩ qF qL hd
theorem cs_RL_216 {cc : ByteArray} {nL : Nat} {ini : Bool} {pcs : List Nat} {rF rL pc b : Nat} (hb1 : pcs[b]? = some (pc + 3)) (qF : 1 ≤ rF) (qL : 21 ≤ rL) (hd : decode cc pc = .ok (.invokevirtual 216, 3)) : sndQ mtab RL cc nL ini pcs rF rL pc (t_cv 11 kM_count 1 1 b) := sndQ_cv cl_11 (by decide) hb1 mt_M_count m_1830 m_1827 m_1828 m_1829 m_2 ⟨rfl, by decide, by decide, by decide +kernel⟩ qF qL hd
