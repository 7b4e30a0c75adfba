theorem dX11_fits_13 : decode cX11_fits 13 = .ok (.goto 4, 3) := by decide +kernel
theorem dX11_fits_16 : decode cX11_fits 16 = .ok (.iconst (-1), 1) := by decide +kernel
theorem dX11_fits_17 : decode cX11_fits 17 = .ok (.ireturn, 1) := by decide +kernel
theorem dX11_spare_0 : decode cX11_spare 0 = .ok (.iload_n 1, 1) := by decide +kernel
theorem dX11_spare_1 : decode cX11_spare 1 = .ok (.invokestatic 318, 3) := by decide +kernel
theorem dX11_spare_4 : decode cX11_spare 4 = .ok (.ifCond .eq 13, 3) := by decide +kernel
theorem dX11_spare_7 : decode cX11_spare 7 = .ok (.iload_n 2, 1) := by decide +kernel
theorem dX11_spare_8 : decode cX11_spare 8 = .ok (.ifCond .lt 9, 3) := by decide +kernel
theorem dX11_spare_11 : decode cX11_spare 11 = .ok (.iload_n 2, 1) := by decide +kernel
theorem dX11_spare_12 : decode cX11_spare 12 = .ok (.bipush 60, 2) := by decide +kernel
theorem dX11_spare_14 : decode cX11_spare 14 = .ok (.if_icmp .le 5, 3) := by decide +kernel
theorem dX11_spare_17 : decode cX11_spare 17 = .ok (.iconst (-1), 1) := by decide +kernel
theorem dX11_spare_18 : decode cX11_spare 18 = .ok (.ireturn, 1) := by decide +kernel
theorem dX11_spare_19 : decode cX11_spare 19 = .ok (.aload_n 0, 1) := by decide +kernel
theorem dX11_spare_20 : decode cX11_spare 20 = .ok (.iload_n 1, 1) := by decide +kernel
theorem dX11_spare_21 : decode cX11_spare 21 = .ok (.iload_n 2, 1) := by decide +kernel
theorem dX11_spare_22 : decode cX11_spare 22 = .ok (.invokevirtual 321, 3) := by decide +kernel
theorem dX11_spare_25 : decode cX11_spare 25 = .ok (.ireturn, 1) := by decide +kernel
theorem dX11_headsWrongAtMost_0 : decode cX11_headsWrongAtMost 0 = .ok (.iconst 0, 1) := by decide +kernel
theorem dX11_headsWrongAtMost_1 : decode cX11_headsWrongAtMost 1 = .ok (.istore_n 3, 1) := by decide +kernel
theorem dX11_headsWrongAtMost_2 : decode cX11_headsWrongAtMost 2 = .ok (.iconst 0, 1) := by decide +kernel
theorem dX11_headsWrongAtMost_3 : decode cX11_headsWrongAtMost 3 = .ok (.istore 4, 2) := by decide +kernel
theorem dX11_headsWrongAtMost_5 : decode cX11_headsWrongAtMost 5 = .ok (.iload 4, 2) := by decide +kernel
theorem dX11_headsWrongAtMost_7 : decode cX11_headsWrongAtMost 7 = .ok (.aload_n 0, 1) := by decide +kernel
theorem dX11_headsWrongAtMost_8 : decode cX11_headsWrongAtMost 8 = .ok (.getfield 94, 3) := by decide +kernel
theorem dX11_headsWrongAtMost_11 : decode cX11_headsWrongAtMost 11 = .ok (.if_icmp .ge 37, 3) := by decide +kernel
theorem dX11_headsWrongAtMost_14 : decode cX11_headsWrongAtMost 14 = .ok (.aload_n 0, 1) := by decide +kernel
theorem dX11_headsWrongAtMost_15 : decode cX11_headsWrongAtMost 15 = .ok (.getfield 289, 3) := by decide +kernel
theorem dX11_headsWrongAtMost_18 : decode cX11_headsWrongAtMost 18 = .ok (.aload_n 0, 1) := by decide +kernel
theorem dX11_headsWrongAtMost_19 : decode cX11_headsWrongAtMost 19 = .ok (.aload_n 0, 1) := by decide +kernel
theorem dX11_headsWrongAtMost_20 : decode cX11_headsWrongAtMost 20 = .ok (.getfield 21, 3) := by decide +kernel
theorem dX11_headsWrongAtMost_23 : decode cX11_headsWrongAtMost 23 = .ok (.iload 4, 2) := by decide +kernel
theorem dX11_headsWrongAtMost_25 : decode cX11_headsWrongAtMost 25 = .ok (.aaload, 1) := by decide +kernel
theorem dX11_headsWrongAtMost_26 : decode cX11_headsWrongAtMost 26 = .ok (.iload_n 1, 1) := by decide +kernel
theorem dX11_headsWrongAtMost_27 : decode cX11_headsWrongAtMost 27 = .ok (.invokevirtual 324, 3) := by decide +kernel
theorem dX11_headsWrongAtMost_30 : decode cX11_headsWrongAtMost 30 = .ok (.isub, 1) := by decide +kernel
theorem dX11_headsWrongAtMost_31 : decode cX11_headsWrongAtMost 31 = .ok (.iload_n 2, 1) := by decide +kernel
theorem dX11_headsWrongAtMost_32 : decode cX11_headsWrongAtMost 32 = .ok (.if_icmp .gt 10, 3) := by decide +kernel
theorem dX11_headsWrongAtMost_35 : decode cX11_headsWrongAtMost 35 = .ok (.iload_n 3, 1) := by decide +kernel
theorem dX11_headsWrongAtMost_36 : decode cX11_headsWrongAtMost 36 = .ok (.iconst 1, 1) := by decide +kernel
theorem dX11_headsWrongAtMost_37 : decode cX11_headsWrongAtMost 37 = .ok (.iload 4, 2) := by decide +kernel
theorem dX11_headsWrongAtMost_39 : decode cX11_headsWrongAtMost 39 = .ok (.ishl, 1) := by decide +kernel
theorem dX11_headsWrongAtMost_40 : decode cX11_headsWrongAtMost 40 = .ok (.ior, 1) := by decide +kernel
theorem dX11_headsWrongAtMost_41 : decode cX11_headsWrongAtMost 41 = .ok (.istore_n 3, 1) := by decide +kernel
theorem dX11_headsWrongAtMost_42 : decode cX11_headsWrongAtMost 42 = .ok (.iinc 4 1, 3) := by decide +kernel
theorem dX11_headsWrongAtMost_45 : decode cX11_headsWrongAtMost 45 = .ok (.goto (-40), 3) := by decide +kernel
theorem dX11_headsWrongAtMost_48 : decode cX11_headsWrongAtMost 48 = .ok (.iload_n 3, 1) := by decide +kernel
theorem dX11_headsWrongAtMost_49 : decode cX11_headsWrongAtMost 49 = .ok (.ireturn, 1) := by decide +kernel
theorem dX11_so_0 : decode cX11_so 0 = .ok (.aload_n 0, 1) := by decide +kernel
theorem dX11_so_1 : decode cX11_so 1 = .ok (.iload_n 1, 1) := by decide +kernel
theorem dX11_so_2 : decode cX11_so 2 = .ok (.invokevirtual 187, 3) := by decide +kernel
theorem dX11_so_5 : decode cX11_so 5 = .ok (.astore_n 3, 1) := by decide +kernel
theorem dX11_so_6 : decode cX11_so 6 = .ok (.aload_n 3, 1) := by decide +kernel
theorem dX11_so_7 : decode cX11_so 7 = .ok (.ifnull 10, 3) := by decide +kernel
theorem dX11_so_10 : decode cX11_so 10 = .ok (.iload_n 2, 1) := by decide +kernel
theorem dX11_so_11 : decode cX11_so 11 = .ok (.invokestatic 318, 3) := by decide +kernel
theorem dX11_so_14 : decode cX11_so 14 = .ok (.ifCond .ne 7, 3) := by decide +kernel
theorem dX11_so_17 : decode cX11_so 17 = .ok (.iconst (-1), 1) := by decide +kernel
theorem dX11_so_18 : decode cX11_so 18 = .ok (.goto 9, 3) := by decide +kernel
theorem dX11_so_21 : decode cX11_so 21 = .ok (.aload_n 0, 1) := by decide +kernel
theorem dX11_so_22 : decode cX11_so 22 = .ok (.aload_n 3, 1) := by decide +kernel
theorem dX11_so_23 : decode cX11_so 23 = .ok (.iload_n 2, 1) := by decide +kernel
theorem dX11_so_24 : decode cX11_so 24 = .ok (.invokevirtual 324, 3) := by decide +kernel
theorem dX11_so_27 : decode cX11_so 27 = .ok (.ireturn, 1) := by decide +kernel
theorem dX11_soCount_0 : decode cX11_soCount 0 = .ok (.iconst 0, 1) := by decide +kernel
theorem dX11_soCount_1 : decode cX11_soCount 1 = .ok (.istore_n 3, 1) := by decide +kernel
theorem dX11_soCount_2 : decode cX11_soCount 2 = .ok (.iconst 0, 1) := by decide +kernel
theorem dX11_soCount_3 : decode cX11_soCount 3 = .ok (.istore 4, 2) := by decide +kernel
theorem dX11_soCount_5 : decode cX11_soCount 5 = .ok (.iload 4, 2) := by decide +kernel
theorem dX11_soCount_7 : decode cX11_soCount 7 = .ok (.aload_n 0, 1) := by decide +kernel
theorem dX11_soCount_8 : decode cX11_soCount 8 = .ok (.getfield 289, 3) := by decide +kernel
theorem dX11_soCount_11 : decode cX11_soCount 11 = .ok (.if_icmp .ge 27, 3) := by decide +kernel
theorem dX11_soCount_14 : decode cX11_soCount 14 = .ok (.aload_n 0, 1) := by decide +kernel
theorem dX11_soCount_15 : decode cX11_soCount 15 = .ok (.getfield 27, 3) := by decide +kernel
theorem dX11_soCount_18 : decode cX11_soCount 18 = .ok (.iload 4, 2) := by decide +kernel
theorem dX11_soCount_20 : decode cX11_soCount 20 = .ok (.aaload, 1) := by decide +kernel
theorem dX11_soCount_21 : decode cX11_soCount 21 = .ok (.aload_n 1, 1) := by decide +kernel
theorem dX11_soCount_22 : decode cX11_soCount 22 = .ok (.iload_n 2, 1) := by decide +kernel
theorem dX11_soCount_23 : decode cX11_soCount 23 = .ok (.invokevirtual 328, 3) := by decide +kernel
theorem dX11_soCount_26 : decode cX11_soCount 26 = .ok (.ifCond .eq 6, 3) := by decide +kernel
theorem dX11_soCount_29 : decode cX11_soCount 29 = .ok (.iinc 3 1, 3) := by decide +kernel
theorem dX11_soCount_32 : decode cX11_soCount 32 = .ok (.iinc 4 1, 3) := by decide +kernel
theorem dX11_soCount_35 : decode cX11_soCount 35 = .ok (.goto (-30), 3) := by decide +kernel
theorem dX11_soCount_38 : decode cX11_soCount 38 = .ok (.iload_n 3, 1) := by decide +kernel
theorem dX11_soCount_39 : decode cX11_soCount 39 = .ok (.ireturn, 1) := by decide +kernel
theorem dX11_further_0 : decode cX11_further 0 = .ok (.iload_n 1, 1) := by decide +kernel
theorem dX11_further_1 : decode cX11_further 1 = .ok (.invokestatic 161, 3) := by decide +kernel
theorem dX11_further_4 : decode cX11_further 4 = .ok (.ifCond .ne 7, 3) := by decide +kernel
theorem dX11_further_7 : decode cX11_further 7 = .ok (.sipush (-1000), 3) := by decide +kernel
theorem dX11_further_10 : decode cX11_further 10 = .ok (.ireturn, 1) := by decide +kernel
theorem dX11_further_11 : decode cX11_further 11 = .ok (.iconst 0, 1) := by decide +kernel
theorem dX11_further_12 : decode cX11_further 12 = .ok (.istore_n 2, 1) := by decide +kernel
theorem dX11_further_13 : decode cX11_further 13 = .ok (.iconst 0, 1) := by decide +kernel
theorem dX11_further_14 : decode cX11_further 14 = .ok (.istore_n 3, 1) := by decide +kernel
theorem dX11_further_15 : decode cX11_further 15 = .ok (.iload_n 3, 1) := by decide +kernel
theorem dX11_further_16 : decode cX11_further 16 = .ok (.aload_n 0, 1) := by decide +kernel
theorem dX11_further_17 : decode cX11_further 17 = .ok (.getfield 289, 3) := by decide +kernel
theorem dX11_further_20 : decode cX11_further 20 = .ok (.if_icmp .ge 83, 3) := by decide +kernel
theorem dX11_further_23 : decode cX11_further 23 = .ok (.iload_n 3, 1) := by decide +kernel
theorem dX11_further_24 : decode cX11_further 24 = .ok (.iconst 1, 1) := by decide +kernel
theorem dX11_further_25 : decode cX11_further 25 = .ok (.iadd, 1) := by decide +kernel
theorem dX11_further_26 : decode cX11_further 26 = .ok (.istore 4, 2) := by decide +kernel
theorem dX11_further_28 : decode cX11_further 28 = .ok (.iload 4, 2) := by decide +kernel
theorem dX11_further_30 : decode cX11_further 30 = .ok (.aload_n 0, 1) := by decide +kernel
theorem dX11_further_31 : decode cX11_further 31 = .ok (.getfield 289, 3) := by decide +kernel
theorem dX11_further_34 : decode cX11_further 34 = .ok (.if_icmp .ge 63, 3) := by decide +kernel
theorem dX11_further_37 : decode cX11_further 37 = .ok (.aload_n 0, 1) := by decide +kernel
theorem dX11_further_38 : decode cX11_further 38 = .ok (.getfield 27, 3) := by decide +kernel
theorem dX11_further_41 : decode cX11_further 41 = .ok (.iload_n 3, 1) := by decide +kernel
theorem dX11_further_42 : decode cX11_further 42 = .ok (.aaload, 1) := by decide +kernel
theorem dX11_further_43 : decode cX11_further 43 = .ok (.iload_n 1, 1) := by decide +kernel
theorem dX11_further_44 : decode cX11_further 44 = .ok (.invokevirtual 332, 3) := by decide +kernel
theorem dX11_further_47 : decode cX11_further 47 = .ok (.aload_n 0, 1) := by decide +kernel
theorem dX11_further_48 : decode cX11_further 48 = .ok (.getfield 27, 3) := by decide +kernel
theorem dX11_further_51 : decode cX11_further 51 = .ok (.iload 4, 2) := by decide +kernel
theorem dX11_further_53 : decode cX11_further 53 = .ok (.aaload, 1) := by decide +kernel
theorem dX11_further_54 : decode cX11_further 54 = .ok (.iload_n 1, 1) := by decide +kernel
theorem dX11_further_55 : decode cX11_further 55 = .ok (.invokevirtual 332, 3) := by decide +kernel
theorem dX11_further_58 : decode cX11_further 58 = .ok (.invokestatic 286, 3) := by decide +kernel
theorem dX11_further_61 : decode cX11_further 61 = .ok (.istore 5, 2) := by decide +kernel
theorem dX11_further_63 : decode cX11_further 63 = .ok (.iload_n 2, 1) := by decide +kernel
theorem dX11_further_64 : decode cX11_further 64 = .ok (.iload 5, 2) := by decide +kernel
theorem dX11_further_66 : decode cX11_further 66 = .ok (.aload_n 0, 1) := by decide +kernel
theorem dX11_further_67 : decode cX11_further 67 = .ok (.getfield 27, 3) := by decide +kernel
theorem dX11_further_70 : decode cX11_further 70 = .ok (.iload_n 3, 1) := by decide +kernel
theorem dX11_further_71 : decode cX11_further 71 = .ok (.aaload, 1) := by decide +kernel
theorem dX11_further_72 : decode cX11_further 72 = .ok (.getfield 315, 3) := by decide +kernel
theorem dX11_further_75 : decode cX11_further 75 = .ok (.aload_n 0, 1) := by decide +kernel
theorem dX11_further_76 : decode cX11_further 76 = .ok (.getfield 27, 3) := by decide +kernel
theorem dX11_further_79 : decode cX11_further 79 = .ok (.iload 4, 2) := by decide +kernel
theorem dX11_further_81 : decode cX11_further 81 = .ok (.aaload, 1) := by decide +kernel
theorem dX11_further_82 : decode cX11_further 82 = .ok (.getfield 315, 3) := by decide +kernel
theorem dX11_further_85 : decode cX11_further 85 = .ok (.invokestatic 286, 3) := by decide +kernel
theorem dX11_further_88 : decode cX11_further 88 = .ok (.imul, 1) := by decide +kernel
theorem dX11_further_89 : decode cX11_further 89 = .ok (.iadd, 1) := by decide +kernel
theorem dX11_further_90 : decode cX11_further 90 = .ok (.istore_n 2, 1) := by decide +kernel
theorem dX11_further_91 : decode cX11_further 91 = .ok (.iinc 4 1, 3) := by decide +kernel
theorem dX11_further_94 : decode cX11_further 94 = .ok (.goto (-66), 3) := by decide +kernel
theorem dX11_further_97 : decode cX11_further 97 = .ok (.iinc 3 1, 3) := by decide +kernel
theorem dX11_further_100 : decode cX11_further 100 = .ok (.goto (-85), 3) := by decide +kernel
theorem dX11_further_103 : decode cX11_further 103 = .ok (.iload_n 2, 1) := by decide +kernel
theorem dX11_further_104 : decode cX11_further 104 = .ok (.ireturn, 1) := by decide +kernel
theorem dX11_lived_0 : decode cX11_lived 0 = .ok (.aload_n 0, 1) := by decide +kernel
theorem dX11_lived_1 : decode cX11_lived 1 = .ok (.getfield 335, 3) := by decide +kernel
theorem dX11_lived_4 : decode cX11_lived 4 = .ok (.ifnull 12, 3) := by decide +kernel
theorem dX11_lived_7 : decode cX11_lived 7 = .ok (.iload_n 1, 1) := by decide +kernel
theorem dX11_lived_8 : decode cX11_lived 8 = .ok (.ifCond .lt 8, 3) := by decide +kernel
theorem dX11_lived_11 : decode cX11_lived 11 = .ok (.iload_n 1, 1) := by decide +kernel
theorem dX11_lived_12 : decode cX11_lived 12 = .ok (.iconst 1, 1) := by decide +kernel
theorem dX11_lived_13 : decode cX11_lived 13 = .ok (.if_icmp .le 5, 3) := by decide +kernel
theorem dX11_lived_16 : decode cX11_lived 16 = .ok (.iconst (-1), 1) := by decide +kernel
theorem dX11_lived_17 : decode cX11_lived 17 = .ok (.ireturn, 1) := by decide +kernel
theorem dX11_lived_18 : decode cX11_lived 18 = .ok (.iconst 0, 1) := by decide +kernel
theorem dX11_lived_19 : decode cX11_lived 19 = .ok (.istore_n 2, 1) := by decide +kernel
theorem dX11_lived_20 : decode cX11_lived 20 = .ok (.iconst 0, 1) := by decide +kernel
theorem dX11_lived_21 : decode cX11_lived 21 = .ok (.istore_n 3, 1) := by decide +kernel
theorem dX11_lived_22 : decode cX11_lived 22 = .ok (.iconst 0, 1) := by decide +kernel
theorem dX11_lived_23 : decode cX11_lived 23 = .ok (.istore 4, 2) := by decide +kernel
theorem dX11_lived_25 : decode cX11_lived 25 = .ok (.iload 4, 2) := by decide +kernel
theorem dX11_lived_27 : decode cX11_lived 27 = .ok (.aload_n 0, 1) := by decide +kernel
theorem dX11_lived_28 : decode cX11_lived 28 = .ok (.getfield 289, 3) := by decide +kernel
theorem dX11_lived_31 : decode cX11_lived 31 = .ok (.if_icmp .ge 65, 3) := by decide +kernel
theorem dX11_lived_34 : decode cX11_lived 34 = .ok (.aload_n 0, 1) := by decide +kernel
theorem dX11_lived_35 : decode cX11_lived 35 = .ok (.getfield 27, 3) := by decide +kernel
theorem dX11_lived_38 : decode cX11_lived 38 = .ok (.iload 4, 2) := by decide +kernel
theorem dX11_lived_40 : decode cX11_lived 40 = .ok (.aaload, 1) := by decide +kernel
theorem dX11_lived_41 : decode cX11_lived 41 = .ok (.getfield 302, 3) := by decide +kernel
theorem dX11_lived_44 : decode cX11_lived 44 = .ok (.getfield 309, 3) := by decide +kernel
theorem dX11_lived_47 : decode cX11_lived 47 = .ok (.aload_n 0, 1) := by decide +kernel
theorem dX11_lived_48 : decode cX11_lived 48 = .ok (.getfield 335, 3) := by decide +kernel
theorem dX11_lived_51 : decode cX11_lived 51 = .ok (.getfield 309, 3) := by decide +kernel
theorem dX11_lived_54 : decode cX11_lived 54 = .ok (.if_icmp .lt 7, 3) := by decide +kernel
theorem dX11_lived_57 : decode cX11_lived 57 = .ok (.iconst 1, 1) := by decide +kernel
theorem dX11_lived_58 : decode cX11_lived 58 = .ok (.goto 4, 3) := by decide +kernel
theorem dX11_lived_61 : decode cX11_lived 61 = .ok (.iconst 0, 1) := by decide +kernel
theorem dX11_lived_62 : decode cX11_lived 62 = .ok (.iload_n 1, 1) := by decide +kernel
theorem dX11_lived_63 : decode cX11_lived 63 = .ok (.ifCond .ne 7, 3) := by decide +kernel
theorem dX11_lived_66 : decode cX11_lived 66 = .ok (.iconst 1, 1) := by decide +kernel
theorem dX11_lived_67 : decode cX11_lived 67 = .ok (.goto 4, 3) := by decide +kernel
theorem dX11_lived_70 : decode cX11_lived 70 = .ok (.iconst 0, 1) := by decide +kernel
theorem dX11_lived_71 : decode cX11_lived 71 = .ok (.if_icmp .ne 19, 3) := by decide +kernel
theorem dX11_lived_74 : decode cX11_lived 74 = .ok (.iload_n 2, 1) := by decide +kernel
theorem dX11_lived_75 : decode cX11_lived 75 = .ok (.aload_n 0, 1) := by decide +kernel
theorem dX11_lived_76 : decode cX11_lived 76 = .ok (.getfield 27, 3) := by decide +kernel
theorem dX11_lived_79 : decode cX11_lived 79 = .ok (.iload 4, 2) := by decide +kernel
theorem dX11_lived_81 : decode cX11_lived 81 = .ok (.aaload, 1) := by decide +kernel
theorem dX11_lived_82 : decode cX11_lived 82 = .ok (.getfield 315, 3) := by decide +kernel
theorem dX11_lived_85 : decode cX11_lived 85 = .ok (.iadd, 1) := by decide +kernel
theorem dX11_lived_86 : decode cX11_lived 86 = .ok (.istore_n 2, 1) := by decide +kernel
theorem dX11_lived_87 : decode cX11_lived 87 = .ok (.iinc 3 1, 3) := by decide +kernel
theorem dX11_lived_90 : decode cX11_lived 90 = .ok (.iinc 4 1, 3) := by decide +kernel
theorem dX11_lived_93 : decode cX11_lived 93 = .ok (.goto (-68), 3) := by decide +kernel
theorem dX11_lived_96 : decode cX11_lived 96 = .ok (.iload_n 3, 1) := by decide +kernel
theorem dX11_lived_97 : decode cX11_lived 97 = .ok (.ifCond .ne 7, 3) := by decide +kernel
theorem dX11_lived_100 : decode cX11_lived 100 = .ok (.iconst (-1), 1) := by decide +kernel
theorem dX11_lived_101 : decode cX11_lived 101 = .ok (.goto 6, 3) := by decide +kernel
theorem dX11_lived_104 : decode cX11_lived 104 = .ok (.iload_n 2, 1) := by decide +kernel
theorem dX11_lived_105 : decode cX11_lived 105 = .ok (.iload_n 3, 1) := by decide +kernel
theorem dX11_lived_106 : decode cX11_lived 106 = .ok (.idiv, 1) := by decide +kernel
theorem dX11_lived_107 : decode cX11_lived 107 = .ok (.ireturn, 1) := by decide +kernel
theorem dX11_after_0 : decode cX11_after 0 = .ok (.iload_n 1, 1) := by decide +kernel
theorem dX11_after_1 : decode cX11_after 1 = .ok (.ifCond .lt 8, 3) := by decide +kernel
theorem dX11_after_4 : decode cX11_after 4 = .ok (.iload_n 1, 1) := by decide +kernel
theorem dX11_after_5 : decode cX11_after 5 = .ok (.iconst 1, 1) := by decide +kernel
theorem dX11_after_6 : decode cX11_after 6 = .ok (.if_icmp .le 5, 3) := by decide +kernel
theorem dX11_after_9 : decode cX11_after 9 = .ok (.iconst (-1), 1) := by decide +kernel
theorem dX11_after_10 : decode cX11_after 10 = .ok (.ireturn, 1) := by decide +kernel
theorem dX11_after_11 : decode cX11_after 11 = .ok (.iconst 0, 1) := by decide +kernel
theorem dX11_after_12 : decode cX11_after 12 = .ok (.istore_n 2, 1) := by decide +kernel
theorem dX11_after_13 : decode cX11_after 13 = .ok (.iconst 0, 1) := by decide +kernel
theorem dX11_after_14 : decode cX11_after 14 = .ok (.istore_n 3, 1) := by decide +kernel
theorem dX11_after_15 : decode cX11_after 15 = .ok (.iconst 1, 1) := by decide +kernel
theorem dX11_after_16 : decode cX11_after 16 = .ok (.istore 4, 2) := by decide +kernel
theorem dX11_after_18 : decode cX11_after 18 = .ok (.iload 4, 2) := by decide +kernel
theorem dX11_after_20 : decode cX11_after 20 = .ok (.aload_n 0, 1) := by decide +kernel
theorem dX11_after_21 : decode cX11_after 21 = .ok (.getfield 289, 3) := by decide +kernel
theorem dX11_after_24 : decode cX11_after 24 = .ok (.if_icmp .ge 62, 3) := by decide +kernel
theorem dX11_after_27 : decode cX11_after 27 = .ok (.aload_n 0, 1) := by decide +kernel
theorem dX11_after_28 : decode cX11_after 28 = .ok (.getfield 27, 3) := by decide +kernel
theorem dX11_after_31 : decode cX11_after 31 = .ok (.iload 4, 2) := by decide +kernel
theorem dX11_after_33 : decode cX11_after 33 = .ok (.aaload, 1) := by decide +kernel
theorem dX11_after_34 : decode cX11_after 34 = .ok (.getfield 302, 3) := by decide +kernel
theorem dX11_after_37 : decode cX11_after 37 = .ok (.aload_n 0, 1) := by decide +kernel
theorem dX11_after_38 : decode cX11_after 38 = .ok (.getfield 27, 3) := by decide +kernel
theorem dX11_after_41 : decode cX11_after 41 = .ok (.iload 4, 2) := by decide +kernel
theorem dX11_after_43 : decode cX11_after 43 = .ok (.iconst 1, 1) := by decide +kernel
theorem dX11_after_44 : decode cX11_after 44 = .ok (.isub, 1) := by decide +kernel
theorem dX11_after_45 : decode cX11_after 45 = .ok (.aaload, 1) := by decide +kernel
theorem dX11_after_46 : decode cX11_after 46 = .ok (.getfield 302, 3) := by decide +kernel
theorem dX11_after_49 : decode cX11_after 49 = .ok (.invokevirtual 338, 3) := by decide +kernel
theorem dX11_after_52 : decode cX11_after 52 = .ok (.iload_n 1, 1) := by decide +kernel
theorem dX11_after_53 : decode cX11_after 53 = .ok (.ifCond .ne 7, 3) := by decide +kernel
theorem dX11_after_56 : decode cX11_after 56 = .ok (.iconst 1, 1) := by decide +kernel
theorem dX11_after_57 : decode cX11_after 57 = .ok (.goto 4, 3) := by decide +kernel
theorem dX11_after_60 : decode cX11_after 60 = .ok (.iconst 0, 1) := by decide +kernel
theorem dX11_after_61 : decode cX11_after 61 = .ok (.if_icmp .ne 19, 3) := by decide +kernel
theorem dX11_after_64 : decode cX11_after 64 = .ok (.iload_n 2, 1) := by decide +kernel
theorem dX11_after_65 : decode cX11_after 65 = .ok (.aload_n 0, 1) := by decide +kernel
theorem dX11_after_66 : decode cX11_after 66 = .ok (.getfield 27, 3) := by decide +kernel
theorem dX11_after_69 : decode cX11_after 69 = .ok (.iload 4, 2) := by decide +kernel
theorem dX11_after_71 : decode cX11_after 71 = .ok (.aaload, 1) := by decide +kernel
theorem dX11_after_72 : decode cX11_after 72 = .ok (.getfield 315, 3) := by decide +kernel
theorem dX11_after_75 : decode cX11_after 75 = .ok (.iadd, 1) := by decide +kernel
theorem dX11_after_76 : decode cX11_after 76 = .ok (.istore_n 2, 1) := by decide +kernel
theorem dX11_after_77 : decode cX11_after 77 = .ok (.iinc 3 1, 3) := by decide +kernel
theorem dX11_after_80 : decode cX11_after 80 = .ok (.iinc 4 1, 3) := by decide +kernel
theorem dX11_after_83 : decode cX11_after 83 = .ok (.goto (-65), 3) := by decide +kernel
theorem dX11_after_86 : decode cX11_after 86 = .ok (.iload_n 3, 1) := by decide +kernel
theorem dX11_after_87 : decode cX11_after 87 = .ok (.ifCond .ne 7, 3) := by decide +kernel
theorem dX11_after_90 : decode cX11_after 90 = .ok (.iconst (-1), 1) := by decide +kernel
theorem dX11_after_91 : decode cX11_after 91 = .ok (.goto 6, 3) := by decide +kernel
theorem dX11_after_94 : decode cX11_after 94 = .ok (.iload_n 2, 1) := by decide +kernel
theorem dX11_after_95 : decode cX11_after 95 = .ok (.iload_n 3, 1) := by decide +kernel
theorem dX11_after_96 : decode cX11_after 96 = .ok (.idiv, 1) := by decide +kernel
theorem dX11_after_97 : decode cX11_after 97 = .ok (.ireturn, 1) := by decide +kernel
theorem dX11_learnt_0 : decode cX11_learnt 0 = .ok (.aload_n 0, 1) := by decide +kernel
theorem dX11_learnt_1 : decode cX11_learnt 1 = .ok (.iload_n 1, 1) := by decide +kernel
theorem dX11_learnt_2 : decode cX11_learnt 2 = .ok (.invokevirtual 187, 3) := by decide +kernel
theorem dX11_learnt_5 : decode cX11_learnt 5 = .ok (.astore 5, 2) := by decide +kernel
theorem dX11_learnt_7 : decode cX11_learnt 7 = .ok (.aload_n 0, 1) := by decide +kernel
theorem dX11_learnt_8 : decode cX11_learnt 8 = .ok (.iload_n 2, 1) := by decide +kernel
theorem dX11_learnt_9 : decode cX11_learnt 9 = .ok (.invokevirtual 187, 3) := by decide +kernel
theorem dX11_learnt_12 : decode cX11_learnt 12 = .ok (.astore 6, 2) := by decide +kernel
theorem dX11_learnt_14 : decode cX11_learnt 14 = .ok (.aload 5, 2) := by decide +kernel
theorem dX11_learnt_16 : decode cX11_learnt 16 = .ok (.ifnull 26, 3) := by decide +kernel
theorem dX11_learnt_19 : decode cX11_learnt 19 = .ok (.aload 6, 2) := by decide +kernel
theorem dX11_learnt_21 : decode cX11_learnt 21 = .ok (.ifnull 21, 3) := by decide +kernel
theorem dX11_learnt_24 : decode cX11_learnt 24 = .ok (.iload_n 3, 1) := by decide +kernel
theorem dX11_learnt_25 : decode cX11_learnt 25 = .ok (.invokestatic 318, 3) := by decide +kernel
theorem dX11_learnt_28 : decode cX11_learnt 28 = .ok (.ifCond .eq 14, 3) := by decide +kernel
theorem dX11_learnt_31 : decode cX11_learnt 31 = .ok (.iload 4, 2) := by decide +kernel
theorem dX11_learnt_33 : decode cX11_learnt 33 = .ok (.ifCond .lt 9, 3) := by decide +kernel
theorem dX11_learnt_36 : decode cX11_learnt 36 = .ok (.iload 4, 2) := by decide +kernel
theorem dX11_learnt_38 : decode cX11_learnt 38 = .ok (.iconst 1, 1) := by decide +kernel
theorem dX11_learnt_39 : decode cX11_learnt 39 = .ok (.if_icmp .le 5, 3) := by decide +kernel
theorem dX11_learnt_42 : decode cX11_learnt 42 = .ok (.iconst (-1), 1) := by decide +kernel
theorem dX11_learnt_43 : decode cX11_learnt 43 = .ok (.ireturn, 1) := by decide +kernel
theorem dX11_learnt_44 : decode cX11_learnt 44 = .ok (.iconst 0, 1) := by decide +kernel
theorem dX11_learnt_45 : decode cX11_learnt 45 = .ok (.istore 7, 2) := by decide +kernel
theorem dX11_learnt_47 : decode cX11_learnt 47 = .ok (.sipush 1000, 3) := by decide +kernel
theorem dX11_learnt_50 : decode cX11_learnt 50 = .ok (.istore 8, 2) := by decide +kernel
theorem dX11_learnt_52 : decode cX11_learnt 52 = .ok (.iconst 0, 1) := by decide +kernel
theorem dX11_learnt_53 : decode cX11_learnt 53 = .ok (.istore 9, 2) := by decide +kernel
theorem dX11_learnt_55 : decode cX11_learnt 55 = .ok (.iload 9, 2) := by decide +kernel
theorem dX11_learnt_57 : decode cX11_learnt 57 = .ok (.aload_n 0, 1) := by decide +kernel
theorem dX11_learnt_58 : decode cX11_learnt 58 = .ok (.getfield 289, 3) := by decide +kernel
theorem dX11_learnt_61 : decode cX11_learnt 61 = .ok (.if_icmp .ge 77, 3) := by decide +kernel
theorem dX11_learnt_64 : decode cX11_learnt 64 = .ok (.aload_n 0, 1) := by decide +kernel
theorem dX11_learnt_65 : decode cX11_learnt 65 = .ok (.getfield 27, 3) := by decide +kernel
theorem dX11_learnt_68 : decode cX11_learnt 68 = .ok (.iload 9, 2) := by decide +kernel
theorem dX11_learnt_70 : decode cX11_learnt 70 = .ok (.aaload, 1) := by decide +kernel
theorem dX11_learnt_71 : decode cX11_learnt 71 = .ok (.aload 5, 2) := by decide +kernel
theorem dX11_learnt_73 : decode cX11_learnt 73 = .ok (.iload_n 3, 1) := by decide +kernel
theorem dX11_learnt_74 : decode cX11_learnt 74 = .ok (.invokevirtual 328, 3) := by decide +kernel
theorem dX11_learnt_77 : decode cX11_learnt 77 = .ok (.ifCond .ne 20, 3) := by decide +kernel
theorem dX11_learnt_80 : decode cX11_learnt 80 = .ok (.iload 8, 2) := by decide +kernel
theorem dX11_learnt_82 : decode cX11_learnt 82 = .ok (.aload_n 0, 1) := by decide +kernel
theorem dX11_learnt_83 : decode cX11_learnt 83 = .ok (.getfield 27, 3) := by decide +kernel
theorem dX11_learnt_86 : decode cX11_learnt 86 = .ok (.iload 9, 2) := by decide +kernel
theorem dX11_learnt_88 : decode cX11_learnt 88 = .ok (.aaload, 1) := by decide +kernel
theorem dX11_learnt_89 : decode cX11_learnt 89 = .ok (.getfield 292, 3) := by decide +kernel
theorem dX11_learnt_92 : decode cX11_learnt 92 = .ok (.invokestatic 214, 3) := by decide +kernel
theorem dX11_learnt_95 : decode cX11_learnt 95 = .ok (.istore 8, 2) := by decide +kernel
theorem dX11_learnt_97 : decode cX11_learnt 97 = .ok (.aload_n 0, 1) := by decide +kernel
theorem dX11_learnt_98 : decode cX11_learnt 98 = .ok (.getfield 27, 3) := by decide +kernel
theorem dX11_learnt_101 : decode cX11_learnt 101 = .ok (.iload 9, 2) := by decide +kernel
theorem dX11_learnt_103 : decode cX11_learnt 103 = .ok (.aaload, 1) := by decide +kernel
theorem dX11_learnt_104 : decode cX11_learnt 104 = .ok (.aload 6, 2) := by decide +kernel
theorem dX11_learnt_106 : decode cX11_learnt 106 = .ok (.iload_n 3, 1) := by decide +kernel
theorem dX11_learnt_107 : decode cX11_learnt 107 = .ok (.invokevirtual 328, 3) := by decide +kernel
theorem dX11_learnt_110 : decode cX11_learnt 110 = .ok (.ifCond .ne 22, 3) := by decide +kernel
theorem dX11_learnt_113 : decode cX11_learnt 113 = .ok (.iload 7, 2) := by decide +kernel
theorem dX11_learnt_115 : decode cX11_learnt 115 = .ok (.aload_n 0, 1) := by decide +kernel
theorem dX11_learnt_116 : decode cX11_learnt 116 = .ok (.getfield 27, 3) := by decide +kernel
theorem dX11_learnt_119 : decode cX11_learnt 119 = .ok (.iload 9, 2) := by decide +kernel
theorem dX11_learnt_121 : decode cX11_learnt 121 = .ok (.aaload, 1) := by decide +kernel
theorem dX11_learnt_122 : decode cX11_learnt 122 = .ok (.getfield 292, 3) := by decide +kernel
theorem dX11_learnt_125 : decode cX11_learnt 125 = .ok (.iconst 1, 1) := by decide +kernel
theorem dX11_learnt_126 : decode cX11_learnt 126 = .ok (.iadd, 1) := by decide +kernel
theorem dX11_learnt_127 : decode cX11_learnt 127 = .ok (.invokestatic 342, 3) := by decide +kernel
theorem dX11_learnt_130 : decode cX11_learnt 130 = .ok (.istore 7, 2) := by decide +kernel
theorem dX11_learnt_132 : decode cX11_learnt 132 = .ok (.iinc 9 1, 3) := by decide +kernel
theorem dX11_learnt_135 : decode cX11_learnt 135 = .ok (.goto (-80), 3) := by decide +kernel
theorem dX11_learnt_138 : decode cX11_learnt 138 = .ok (.iload 7, 2) := by decide +kernel
theorem dX11_learnt_140 : decode cX11_learnt 140 = .ok (.iload 8, 2) := by decide +kernel
theorem dX11_learnt_142 : decode cX11_learnt 142 = .ok (.if_icmp .le 5, 3) := by decide +kernel
theorem dX11_learnt_145 : decode cX11_learnt 145 = .ok (.iconst (-1), 1) := by decide +kernel
theorem dX11_learnt_146 : decode cX11_learnt 146 = .ok (.ireturn, 1) := by decide +kernel
theorem dX11_learnt_147 : decode cX11_learnt 147 = .ok (.iload 4, 2) := by decide +kernel
theorem dX11_learnt_149 : decode cX11_learnt 149 = .ok (.ifCond .ne 8, 3) := by decide +kernel
theorem dX11_learnt_152 : decode cX11_learnt 152 = .ok (.iload 7, 2) := by decide +kernel
theorem dX11_learnt_154 : decode cX11_learnt 154 = .ok (.goto 5, 3) := by decide +kernel
theorem dX11_learnt_157 : decode cX11_learnt 157 = .ok (.iload 8, 2) := by decide +kernel
theorem dX11_learnt_159 : decode cX11_learnt 159 = .ok (.ireturn, 1) := by decide +kernel
theorem dX11_weigh_0 : decode cX11_weigh 0 = .ok (.aload_n 0, 1) := by decide +kernel
theorem dX11_weigh_1 : decode cX11_weigh 1 = .ok (.iload_n 1, 1) := by decide +kernel
theorem dX11_weigh_2 : decode cX11_weigh 2 = .ok (.invokevirtual 187, 3) := by decide +kernel
theorem dX11_weigh_5 : decode cX11_weigh 5 = .ok (.astore_n 3, 1) := by decide +kernel
theorem dX11_weigh_6 : decode cX11_weigh 6 = .ok (.aload_n 3, 1) := by decide +kernel
theorem dX11_weigh_7 : decode cX11_weigh 7 = .ok (.ifnull 14, 3) := by decide +kernel
theorem dX11_weigh_10 : decode cX11_weigh 10 = .ok (.iload_n 2, 1) := by decide +kernel
theorem dX11_weigh_11 : decode cX11_weigh 11 = .ok (.iconst 1, 1) := by decide +kernel
theorem dX11_weigh_12 : decode cX11_weigh 12 = .ok (.if_icmp .lt 9, 3) := by decide +kernel
theorem dX11_weigh_15 : decode cX11_weigh 15 = .ok (.iload_n 2, 1) := by decide +kernel
theorem dX11_weigh_16 : decode cX11_weigh 16 = .ok (.bipush 9, 2) := by decide +kernel
theorem dX11_weigh_18 : decode cX11_weigh 18 = .ok (.if_icmp .le 5, 3) := by decide +kernel
theorem dX11_weigh_21 : decode cX11_weigh 21 = .ok (.iconst 0, 1) := by decide +kernel
theorem dX11_weigh_22 : decode cX11_weigh 22 = .ok (.ireturn, 1) := by decide +kernel
theorem dX11_weigh_23 : decode cX11_weigh 23 = .ok (.aload_n 3, 1) := by decide +kernel
theorem dX11_weigh_24 : decode cX11_weigh 24 = .ok (.iload_n 2, 1) := by decide +kernel
theorem dX11_weigh_25 : decode cX11_weigh 25 = .ok (.putfield 345, 3) := by decide +kernel
theorem dX11_weigh_28 : decode cX11_weigh 28 = .ok (.iconst 1, 1) := by decide +kernel
theorem dX11_weigh_29 : decode cX11_weigh 29 = .ok (.ireturn, 1) := by decide +kernel
theorem dX11_odds_0 : decode cX11_odds 0 = .ok (.iload_n 2, 1) := by decide +kernel
theorem dX11_odds_1 : decode cX11_odds 1 = .ok (.invokestatic 318, 3) := by decide +kernel
theorem dX11_odds_4 : decode cX11_odds 4 = .ok (.ifCond .eq 16, 3) := by decide +kernel
theorem dX11_odds_7 : decode cX11_odds 7 = .ok (.iload_n 1, 1) := by decide +kernel
theorem dX11_odds_8 : decode cX11_odds 8 = .ok (.iconst (-1), 1) := by decide +kernel
theorem dX11_odds_9 : decode cX11_odds 9 = .ok (.if_icmp .lt 11, 3) := by decide +kernel
theorem dX11_odds_12 : decode cX11_odds 12 = .ok (.iload_n 1, 1) := by decide +kernel
theorem dX11_odds_13 : decode cX11_odds 13 = .ok (.aload_n 0, 1) := by decide +kernel
theorem dX11_odds_14 : decode cX11_odds 14 = .ok (.getfield 94, 3) := by decide +kernel
theorem dX11_odds_17 : decode cX11_odds 17 = .ok (.if_icmp .lt 5, 3) := by decide +kernel
theorem dX11_odds_20 : decode cX11_odds 20 = .ok (.iconst (-1), 1) := by decide +kernel
theorem dX11_odds_21 : decode cX11_odds 21 = .ok (.ireturn, 1) := by decide +kernel
theorem dX11_odds_22 : decode cX11_odds 22 = .ok (.aload_n 0, 1) := by decide +kernel
theorem dX11_odds_23 : decode cX11_odds 23 = .ok (.iload_n 2, 1) := by decide +kernel
theorem dX11_odds_24 : decode cX11_odds 24 = .ok (.iconst 0, 1) := by decide +kernel
theorem dX11_odds_25 : decode cX11_odds 25 = .ok (.invokevirtual 321, 3) := by decide +kernel
theorem dX11_odds_28 : decode cX11_odds 28 = .ok (.istore_n 3, 1) := by decide +kernel
theorem dX11_odds_29 : decode cX11_odds 29 = .ok (.iconst 0, 1) := by decide +kernel
theorem dX11_odds_30 : decode cX11_odds 30 = .ok (.istore 4, 2) := by decide +kernel
theorem dX11_odds_32 : decode cX11_odds 32 = .ok (.iconst 0, 1) := by decide +kernel
theorem dX11_odds_33 : decode cX11_odds 33 = .ok (.istore 5, 2) := by decide +kernel
theorem dX11_odds_35 : decode cX11_odds 35 = .ok (.iload 5, 2) := by decide +kernel
theorem dX11_odds_37 : decode cX11_odds 37 = .ok (.aload_n 0, 1) := by decide +kernel
theorem dX11_odds_38 : decode cX11_odds 38 = .ok (.getfield 94, 3) := by decide +kernel
theorem dX11_odds_41 : decode cX11_odds 41 = .ok (.if_icmp .ge 45, 3) := by decide +kernel
theorem dX11_odds_44 : decode cX11_odds 44 = .ok (.iload_n 1, 1) := by decide +kernel
theorem dX11_odds_45 : decode cX11_odds 45 = .ok (.iconst (-1), 1) := by decide +kernel
theorem dX11_odds_46 : decode cX11_odds 46 = .ok (.if_icmp .eq 9, 3) := by decide +kernel
theorem dX11_odds_49 : decode cX11_odds 49 = .ok (.iload_n 1, 1) := by decide +kernel
theorem dX11_odds_50 : decode cX11_odds 50 = .ok (.iload 5, 2) := by decide +kernel
theorem dX11_odds_52 : decode cX11_odds 52 = .ok (.if_icmp .ne 28, 3) := by decide +kernel
theorem dX11_odds_55 : decode cX11_odds 55 = .ok (.iload_n 3, 1) := by decide +kernel
theorem dX11_odds_56 : decode cX11_odds 56 = .ok (.iload 5, 2) := by decide +kernel
theorem dX11_odds_58 : decode cX11_odds 58 = .ok (.ishr, 1) := by decide +kernel
theorem dX11_odds_59 : decode cX11_odds 59 = .ok (.iconst 1, 1) := by decide +kernel
theorem dX11_odds_60 : decode cX11_odds 60 = .ok (.iand, 1) := by decide +kernel
theorem dX11_odds_61 : decode cX11_odds 61 = .ok (.iconst 1, 1) := by decide +kernel
theorem dX11_odds_62 : decode cX11_odds 62 = .ok (.if_icmp .ne 18, 3) := by decide +kernel
theorem dX11_odds_65 : decode cX11_odds 65 = .ok (.iload 4, 2) := by decide +kernel
theorem dX11_odds_67 : decode cX11_odds 67 = .ok (.aload_n 0, 1) := by decide +kernel
theorem dX11_odds_68 : decode cX11_odds 68 = .ok (.getfield 21, 3) := by decide +kernel
theorem dX11_odds_71 : decode cX11_odds 71 = .ok (.iload 5, 2) := by decide +kernel
theorem dX11_odds_73 : decode cX11_odds 73 = .ok (.aaload, 1) := by decide +kernel
theorem dX11_odds_74 : decode cX11_odds 74 = .ok (.getfield 345, 3) := by decide +kernel
theorem dX11_odds_77 : decode cX11_odds 77 = .ok (.iadd, 1) := by decide +kernel
theorem dX11_odds_78 : decode cX11_odds 78 = .ok (.istore 4, 2) := by decide +kernel
theorem dX11_odds_80 : decode cX11_odds 80 = .ok (.iinc 5 1, 3) := by decide +kernel
theorem dX11_odds_83 : decode cX11_odds 83 = .ok (.goto (-48), 3) := by decide +kernel
theorem dX11_odds_86 : decode cX11_odds 86 = .ok (.iload 4, 2) := by decide +kernel
theorem dX11_odds_88 : decode cX11_odds 88 = .ok (.ireturn, 1) := by decide +kernel
theorem dX11_plan_0 : decode cX11_plan 0 = .ok (.aload_n 0, 1) := by decide +kernel
theorem dX11_plan_1 : decode cX11_plan 1 = .ok (.getfield 348, 3) := by decide +kernel
theorem dX11_plan_4 : decode cX11_plan 4 = .ok (.bipush 8, 2) := by decide +kernel
theorem dX11_plan_6 : decode cX11_plan 6 = .ok (.if_icmp .ge 15, 3) := by decide +kernel
theorem dX11_plan_9 : decode cX11_plan 9 = .ok (.aload_n 0, 1) := by decide +kernel
theorem dX11_plan_10 : decode cX11_plan 10 = .ok (.iload_n 1, 1) := by decide +kernel
theorem dX11_plan_11 : decode cX11_plan 11 = .ok (.iload_n 2, 1) := by decide +kernel
theorem dX11_plan_12 : decode cX11_plan 12 = .ok (.iload_n 3, 1) := by decide +kernel
theorem dX11_plan_13 : decode cX11_plan 13 = .ok (.iload 4, 2) := by decide +kernel
theorem dX11_plan_15 : decode cX11_plan 15 = .ok (.invokevirtual 295, 3) := by decide +kernel
theorem dX11_plan_18 : decode cX11_plan 18 = .ok (.goto 4, 3) := by decide +kernel
theorem dX11_plan_21 : decode cX11_plan 21 = .ok (.aconst_null, 1) := by decide +kernel
theorem dX11_plan_22 : decode cX11_plan 22 = .ok (.astore 5, 2) := by decide +kernel
theorem dX11_plan_24 : decode cX11_plan 24 = .ok (.aload 5, 2) := by decide +kernel
theorem dX11_plan_26 : decode cX11_plan 26 = .ok (.ifnonnull 5, 3) := by decide +kernel
theorem dX11_plan_29 : decode cX11_plan 29 = .ok (.iconst (-1), 1) := by decide +kernel
theorem dX11_plan_30 : decode cX11_plan 30 = .ok (.ireturn, 1) := by decide +kernel
theorem dX11_plan_31 : decode cX11_plan 31 = .ok (.aload_n 0, 1) := by decide +kernel
theorem dX11_plan_32 : decode cX11_plan 32 = .ok (.getfield 33, 3) := by decide +kernel
theorem dX11_plan_35 : decode cX11_plan 35 = .ok (.aload_n 0, 1) := by decide +kernel
theorem dX11_plan_36 : decode cX11_plan 36 = .ok (.getfield 348, 3) := by decide +kernel
theorem dX11_plan_39 : decode cX11_plan 39 = .ok (.aload 5, 2) := by decide +kernel
theorem dX11_plan_41 : decode cX11_plan 41 = .ok (.aastore, 1) := by decide +kernel
theorem dX11_plan_42 : decode cX11_plan 42 = .ok (.aload_n 0, 1) := by decide +kernel
theorem dX11_plan_43 : decode cX11_plan 43 = .ok (.dup, 1) := by decide +kernel
theorem dX11_plan_44 : decode cX11_plan 44 = .ok (.getfield 348, 3) := by decide +kernel
theorem dX11_plan_47 : decode cX11_plan 47 = .ok (.iconst 1, 1) := by decide +kernel
theorem dX11_plan_48 : decode cX11_plan 48 = .ok (.iadd, 1) := by decide +kernel
theorem dX11_plan_49 : decode cX11_plan 49 = .ok (.putfield 348, 3) := by decide +kernel
theorem dX11_plan_52 : decode cX11_plan 52 = .ok (.aload_n 0, 1) := by decide +kernel
theorem dX11_plan_53 : decode cX11_plan 53 = .ok (.getfield 348, 3) := by decide +kernel
theorem dX11_plan_56 : decode cX11_plan 56 = .ok (.iconst 1, 1) := by decide +kernel
theorem dX11_plan_57 : decode cX11_plan 57 = .ok (.isub, 1) := by decide +kernel
theorem dX11_plan_58 : decode cX11_plan 58 = .ok (.ireturn, 1) := by decide +kernel
theorem dX11_parted_0 : decode cX11_parted 0 = .ok (.iload_n 1, 1) := by decide +kernel
theorem dX11_parted_1 : decode cX11_parted 1 = .ok (.ifCond .lt 19, 3) := by decide +kernel
theorem dX11_parted_4 : decode cX11_parted 4 = .ok (.iload_n 1, 1) := by decide +kernel
theorem dX11_parted_5 : decode cX11_parted 5 = .ok (.aload_n 0, 1) := by decide +kernel
theorem dX11_parted_6 : decode cX11_parted 6 = .ok (.getfield 348, 3) := by decide +kernel
theorem dX11_parted_9 : decode cX11_parted 9 = .ok (.if_icmp .ge 11, 3) := by decide +kernel
theorem dX11_parted_12 : decode cX11_parted 12 = .ok (.aload_n 0, 1) := by decide +kernel
theorem dX11_parted_13 : decode cX11_parted 13 = .ok (.iload_n 2, 1) := by decide +kernel
theorem dX11_parted_14 : decode cX11_parted 14 = .ok (.invokevirtual 351, 3) := by decide +kernel
theorem dX11_parted_17 : decode cX11_parted 17 = .ok (.ifCond .ne 5, 3) := by decide +kernel
theorem dX11_parted_20 : decode cX11_parted 20 = .ok (.iconst (-1), 1) := by decide +kernel
theorem dX11_parted_21 : decode cX11_parted 21 = .ok (.ireturn, 1) := by decide +kernel
theorem dX11_parted_22 : decode cX11_parted 22 = .ok (.aload_n 0, 1) := by decide +kernel
theorem dX11_parted_23 : decode cX11_parted 23 = .ok (.aload_n 0, 1) := by decide +kernel
theorem dX11_parted_24 : decode cX11_parted 24 = .ok (.getfield 33, 3) := by decide +kernel
theorem dX11_parted_27 : decode cX11_parted 27 = .ok (.iload_n 1, 1) := by decide +kernel
theorem dX11_parted_28 : decode cX11_parted 28 = .ok (.aaload, 1) := by decide +kernel
theorem dX11_parted_29 : decode cX11_parted 29 = .ok (.iload_n 2, 1) := by decide +kernel
theorem dX11_parted_30 : decode cX11_parted 30 = .ok (.invokevirtual 354, 3) := by decide +kernel
theorem dX11_parted_33 : decode cX11_parted 33 = .ok (.ireturn, 1) := by decide +kernel
theorem dX11_next_0 : decode cX11_next 0 = .ok (.aload_n 0, 1) := by decide +kernel
theorem dX11_next_1 : decode cX11_next 1 = .ok (.iload_n 1, 1) := by decide +kernel
theorem dX11_next_2 : decode cX11_next 2 = .ok (.invokevirtual 351, 3) := by decide +kernel
theorem dX11_next_5 : decode cX11_next 5 = .ok (.ifCond .ne 5, 3) := by decide +kernel
theorem dX11_next_8 : decode cX11_next 8 = .ok (.iconst (-1), 1) := by decide +kernel
theorem dX11_next_9 : decode cX11_next 9 = .ok (.ireturn, 1) := by decide +kernel
theorem dX11_next_10 : decode cX11_next 10 = .ok (.iconst (-1), 1) := by decide +kernel
theorem dX11_next_11 : decode cX11_next 11 = .ok (.istore_n 2, 1) := by decide +kernel
theorem dX11_next_12 : decode cX11_next 12 = .ok (.iconst (-1), 1) := by decide +kernel
theorem dX11_next_13 : decode cX11_next 13 = .ok (.istore_n 3, 1) := by decide +kernel
theorem dX11_next_14 : decode cX11_next 14 = .ok (.iconst 0, 1) := by decide +kernel
theorem dX11_next_15 : decode cX11_next 15 = .ok (.istore 4, 2) := by decide +kernel
theorem dX11_next_17 : decode cX11_next 17 = .ok (.iload 4, 2) := by decide +kernel
theorem dX11_next_19 : decode cX11_next 19 = .ok (.aload_n 0, 1) := by decide +kernel
theorem dX11_next_20 : decode cX11_next 20 = .ok (.getfield 348, 3) := by decide +kernel
theorem dX11_next_23 : decode cX11_next 23 = .ok (.if_icmp .ge 35, 3) := by decide +kernel
theorem dX11_next_26 : decode cX11_next 26 = .ok (.aload_n 0, 1) := by decide +kernel
theorem dX11_next_27 : decode cX11_next 27 = .ok (.aload_n 0, 1) := by decide +kernel
theorem dX11_next_28 : decode cX11_next 28 = .ok (.getfield 33, 3) := by decide +kernel
theorem dX11_next_31 : decode cX11_next 31 = .ok (.iload 4, 2) := by decide +kernel
theorem dX11_next_33 : decode cX11_next 33 = .ok (.aaload, 1) := by decide +kernel
theorem dX11_next_34 : decode cX11_next 34 = .ok (.iload_n 1, 1) := by decide +kernel
theorem dX11_next_35 : decode cX11_next 35 = .ok (.invokevirtual 354, 3) := by decide +kernel
theorem dX11_next_38 : decode cX11_next 38 = .ok (.istore 5, 2) := by decide +kernel
theorem dX11_next_40 : decode cX11_next 40 = .ok (.iload 5, 2) := by decide +kernel
theorem dX11_next_42 : decode cX11_next 42 = .ok (.iload_n 3, 1) := by decide +kernel
theorem dX11_next_43 : decode cX11_next 43 = .ok (.if_icmp .le 9, 3) := by decide +kernel
theorem dX11_next_46 : decode cX11_next 46 = .ok (.iload 5, 2) := by decide +kernel
theorem dX11_next_48 : decode cX11_next 48 = .ok (.istore_n 3, 1) := by decide +kernel
theorem dX11_next_49 : decode cX11_next 49 = .ok (.iload 4, 2) := by decide +kernel
theorem dX11_next_51 : decode cX11_next 51 = .ok (.istore_n 2, 1) := by decide +kernel
theorem dX11_next_52 : decode cX11_next 52 = .ok (.iinc 4 1, 3) := by decide +kernel
theorem dX11_next_55 : decode cX11_next 55 = .ok (.goto (-38), 3) := by decide +kernel
theorem dX11_next_58 : decode cX11_next 58 = .ok (.iload_n 2, 1) := by decide +kernel
theorem dX11_next_59 : decode cX11_next 59 = .ok (.ireturn, 1) := by decide +kernel
theorem dX11_areHeads_0 : decode cX11_areHeads 0 = .ok (.iload_n 1, 1) := by decide +kernel
theorem dX11_areHeads_1 : decode cX11_areHeads 1 = .ok (.ifCond .lt 17, 3) := by decide +kernel
theorem dX11_areHeads_4 : decode cX11_areHeads 4 = .ok (.iload_n 1, 1) := by decide +kernel
theorem dX11_areHeads_5 : decode cX11_areHeads 5 = .ok (.iconst 1, 1) := by decide +kernel
theorem dX11_areHeads_6 : decode cX11_areHeads 6 = .ok (.aload_n 0, 1) := by decide +kernel
theorem dX11_areHeads_7 : decode cX11_areHeads 7 = .ok (.getfield 94, 3) := by decide +kernel
theorem dX11_areHeads_10 : decode cX11_areHeads 10 = .ok (.ishl, 1) := by decide +kernel
theorem dX11_areHeads_11 : decode cX11_areHeads 11 = .ok (.if_icmp .ge 7, 3) := by decide +kernel
theorem dX11_areHeads_14 : decode cX11_areHeads 14 = .ok (.iconst 1, 1) := by decide +kernel
theorem dX11_areHeads_15 : decode cX11_areHeads 15 = .ok (.goto 4, 3) := by decide +kernel
theorem dX11_areHeads_18 : decode cX11_areHeads 18 = .ok (.iconst 0, 1) := by decide +kernel
theorem dX11_areHeads_19 : decode cX11_areHeads 19 = .ok (.ireturn, 1) := by decide +kernel
theorem dX11_pairsParted_0 : decode cX11_pairsParted 0 = .ok (.aload_n 0, 1) := by decide +kernel
theorem dX11_pairsParted_1 : decode cX11_pairsParted 1 = .ok (.getfield 94, 3) := by decide +kernel
theorem dX11_pairsParted_4 : decode cX11_pairsParted 4 = .ok (.newarray .int, 2) := by decide +kernel
theorem dX11_pairsParted_6 : decode cX11_pairsParted 6 = .ok (.astore_n 3, 1) := by decide +kernel
theorem dX11_pairsParted_7 : decode cX11_pairsParted 7 = .ok (.iconst 0, 1) := by decide +kernel
theorem dX11_pairsParted_8 : decode cX11_pairsParted 8 = .ok (.istore 4, 2) := by decide +kernel
theorem dX11_pairsParted_10 : decode cX11_pairsParted 10 = .ok (.iconst 0, 1) := by decide +kernel
theorem dX11_pairsParted_11 : decode cX11_pairsParted 11 = .ok (.istore 5, 2) := by decide +kernel
theorem dX11_pairsParted_13 : decode cX11_pairsParted 13 = .ok (.iconst 0, 1) := by decide +kernel
theorem dX11_pairsParted_14 : decode cX11_pairsParted 14 = .ok (.istore 6, 2) := by decide +kernel
theorem dX11_pairsParted_16 : decode cX11_pairsParted 16 = .ok (.iload 6, 2) := by decide +kernel
theorem dX11_pairsParted_18 : decode cX11_pairsParted 18 = .ok (.aload_n 0, 1) := by decide +kernel
theorem dX11_pairsParted_19 : decode cX11_pairsParted 19 = .ok (.getfield 94, 3) := by decide +kernel
theorem dX11_pairsParted_22 : decode cX11_pairsParted 22 = .ok (.if_icmp .ge 67, 3) := by decide +kernel
theorem dX11_pairsParted_25 : decode cX11_pairsParted 25 = .ok (.iload_n 2, 1) := by decide +kernel
theorem dX11_pairsParted_26 : decode cX11_pairsParted 26 = .ok (.iload 6, 2) := by decide +kernel
theorem dX11_pairsParted_28 : decode cX11_pairsParted 28 = .ok (.ishr, 1) := by decide +kernel
theorem dX11_pairsParted_29 : decode cX11_pairsParted 29 = .ok (.iconst 1, 1) := by decide +kernel
theorem dX11_pairsParted_30 : decode cX11_pairsParted 30 = .ok (.iand, 1) := by decide +kernel
theorem dX11_pairsParted_31 : decode cX11_pairsParted 31 = .ok (.iconst 1, 1) := by decide +kernel
theorem dX11_pairsParted_32 : decode cX11_pairsParted 32 = .ok (.if_icmp .ne 51, 3) := by decide +kernel
theorem dX11_pairsParted_35 : decode cX11_pairsParted 35 = .ok (.aload_n 3, 1) := by decide +kernel
theorem dX11_pairsParted_36 : decode cX11_pairsParted 36 = .ok (.iload 4, 2) := by decide +kernel
theorem dX11_pairsParted_38 : decode cX11_pairsParted 38 = .ok (.aload_n 0, 1) := by decide +kernel
theorem dX11_pairsParted_39 : decode cX11_pairsParted 39 = .ok (.getfield 21, 3) := by decide +kernel
theorem dX11_pairsParted_42 : decode cX11_pairsParted 42 = .ok (.iload 6, 2) := by decide +kernel
theorem dX11_pairsParted_44 : decode cX11_pairsParted 44 = .ok (.aaload, 1) := by decide +kernel
theorem dX11_pairsParted_45 : decode cX11_pairsParted 45 = .ok (.aload_n 1, 1) := by decide +kernel
theorem dX11_pairsParted_46 : decode cX11_pairsParted 46 = .ok (.invokevirtual 358, 3) := by decide +kernel
theorem dX11_pairsParted_49 : decode cX11_pairsParted 49 = .ok (.iastore, 1) := by decide +kernel
theorem dX11_pairsParted_50 : decode cX11_pairsParted 50 = .ok (.iconst 0, 1) := by decide +kernel
theorem dX11_pairsParted_51 : decode cX11_pairsParted 51 = .ok (.istore 7, 2) := by decide +kernel
theorem dX11_pairsParted_53 : decode cX11_pairsParted 53 = .ok (.iload 7, 2) := by decide +kernel
theorem dX11_pairsParted_55 : decode cX11_pairsParted 55 = .ok (.iload 4, 2) := by decide +kernel
theorem dX11_pairsParted_57 : decode cX11_pairsParted 57 = .ok (.if_icmp .ge 23, 3) := by decide +kernel
theorem dX11_pairsParted_60 : decode cX11_pairsParted 60 = .ok (.aload_n 3, 1) := by decide +kernel
theorem dX11_pairsParted_61 : decode cX11_pairsParted 61 = .ok (.iload 7, 2) := by decide +kernel
theorem dX11_pairsParted_63 : decode cX11_pairsParted 63 = .ok (.iaload, 1) := by decide +kernel
theorem dX11_pairsParted_64 : decode cX11_pairsParted 64 = .ok (.aload_n 3, 1) := by decide +kernel
theorem dX11_pairsParted_65 : decode cX11_pairsParted 65 = .ok (.iload 4, 2) := by decide +kernel
theorem dX11_pairsParted_67 : decode cX11_pairsParted 67 = .ok (.iaload, 1) := by decide +kernel
theorem dX11_pairsParted_68 : decode cX11_pairsParted 68 = .ok (.if_icmp .eq 6, 3) := by decide +kernel
theorem dX11_pairsParted_71 : decode cX11_pairsParted 71 = .ok (.iinc 5 1, 3) := by decide +kernel
theorem dX11_pairsParted_74 : decode cX11_pairsParted 74 = .ok (.iinc 7 1, 3) := by decide +kernel
theorem dX11_pairsParted_77 : decode cX11_pairsParted 77 = .ok (.goto (-24), 3) := by decide +kernel
theorem dX11_pairsParted_80 : decode cX11_pairsParted 80 = .ok (.iinc 4 1, 3) := by decide +kernel
theorem dX11_pairsParted_83 : decode cX11_pairsParted 83 = .ok (.iinc 6 1, 3) := by decide +kernel
theorem dX11_pairsParted_86 : decode cX11_pairsParted 86 = .ok (.goto (-70), 3) := by decide +kernel
theorem dX11_pairsParted_89 : decode cX11_pairsParted 89 = .ok (.iload 5, 2) := by decide +kernel
theorem dX11_pairsParted_91 : decode cX11_pairsParted 91 = .ok (.ireturn, 1) := by decide +kernel
theorem dX11_run_0 : decode cX11_run 0 = .ok (.aload_n 0, 1) := by decide +kernel
theorem dX11_run_1 : decode cX11_run 1 = .ok (.iload_n 1, 1) := by decide +kernel
theorem dX11_run_2 : decode cX11_run 2 = .ok (.invokevirtual 187, 3) := by decide +kernel
theorem dX11_run_5 : decode cX11_run 5 = .ok (.astore 7, 2) := by decide +kernel
theorem dX11_run_7 : decode cX11_run 7 = .ok (.aload 7, 2) := by decide +kernel
theorem dX11_run_9 : decode cX11_run 9 = .ok (.ifnull 42, 3) := by decide +kernel
theorem dX11_run_12 : decode cX11_run 12 = .ok (.iload 4, 2) := by decide +kernel
theorem dX11_run_14 : decode cX11_run 14 = .ok (.ifCond .lt 37, 3) := by decide +kernel
theorem dX11_run_17 : decode cX11_run 17 = .ok (.iload 4, 2) := by decide +kernel
theorem dX11_run_19 : decode cX11_run 19 = .ok (.bipush 99, 2) := by decide +kernel
theorem dX11_run_21 : decode cX11_run 21 = .ok (.if_icmp .gt 30, 3) := by decide +kernel
theorem dX11_run_24 : decode cX11_run 24 = .ok (.iload 5, 2) := by decide +kernel
theorem dX11_run_26 : decode cX11_run 26 = .ok (.ifCond .lt 25, 3) := by decide +kernel
theorem dX11_run_29 : decode cX11_run 29 = .ok (.iload 5, 2) := by decide +kernel
theorem dX11_run_31 : decode cX11_run 31 = .ok (.bipush 99, 2) := by decide +kernel
theorem dX11_run_33 : decode cX11_run 33 = .ok (.if_icmp .gt 18, 3) := by decide +kernel
theorem dX11_run_36 : decode cX11_run 36 = .ok (.iload 6, 2) := by decide +kernel
theorem dX11_run_38 : decode cX11_run 38 = .ok (.iconst (-1), 1) := by decide +kernel
theorem dX11_run_39 : decode cX11_run 39 = .ok (.if_icmp .lt 12, 3) := by decide +kernel
theorem dX11_run_42 : decode cX11_run 42 = .ok (.iload 6, 2) := by decide +kernel
theorem dX11_run_44 : decode cX11_run 44 = .ok (.aload_n 0, 1) := by decide +kernel
theorem dX11_run_45 : decode cX11_run 45 = .ok (.getfield 348, 3) := by decide +kernel
theorem dX11_run_48 : decode cX11_run 48 = .ok (.if_icmp .lt 5, 3) := by decide +kernel
theorem dX11_run_51 : decode cX11_run 51 = .ok (.iconst (-1), 1) := by decide +kernel
theorem dX11_run_52 : decode cX11_run 52 = .ok (.ireturn, 1) := by decide +kernel
theorem dX11_run_53 : decode cX11_run 53 = .ok (.lload_n 2, 1) := by decide +kernel
theorem dX11_run_54 : decode cX11_run 54 = .ok (.lstore 8, 2) := by decide +kernel
theorem dX11_run_56 : decode cX11_run 56 = .ok (.iconst 0, 1) := by decide +kernel
theorem dX11_run_57 : decode cX11_run 57 = .ok (.istore 10, 2) := by decide +kernel
theorem dX11_run_59 : decode cX11_run 59 = .ok (.iconst 0, 1) := by decide +kernel
theorem dX11_run_60 : decode cX11_run 60 = .ok (.istore 11, 2) := by decide +kernel
theorem dX11_run_62 : decode cX11_run 62 = .ok (.iload 11, 2) := by decide +kernel
theorem dX11_run_64 : decode cX11_run 64 = .ok (.aload_n 0, 1) := by decide +kernel
theorem dX11_run_65 : decode cX11_run 65 = .ok (.getfield 348, 3) := by decide +kernel
theorem dX11_run_68 : decode cX11_run 68 = .ok (.if_icmp .ge 119, 3) := by decide +kernel
theorem dX11_run_71 : decode cX11_run 71 = .ok (.iconst (-1), 1) := by decide +kernel
theorem dX11_run_72 : decode cX11_run 72 = .ok (.istore 12, 2) := by decide +kernel
theorem dX11_run_74 : decode cX11_run 74 = .ok (.aload 7, 2) := by decide +kernel
theorem dX11_run_76 : decode cX11_run 76 = .ok (.aload_n 0, 1) := by decide +kernel
theorem dX11_run_77 : decode cX11_run 77 = .ok (.getfield 33, 3) := by decide +kernel
theorem dX11_run_80 : decode cX11_run 80 = .ok (.iload 11, 2) := by decide +kernel
theorem dX11_run_82 : decode cX11_run 82 = .ok (.aaload, 1) := by decide +kernel
theorem dX11_run_83 : decode cX11_run 83 = .ok (.invokevirtual 358, 3) := by decide +kernel
theorem dX11_run_86 : decode cX11_run 86 = .ok (.istore 13, 2) := by decide +kernel
theorem dX11_run_88 : decode cX11_run 88 = .ok (.iload 13, 2) := by decide +kernel
theorem dX11_run_90 : decode cX11_run 90 = .ok (.iconst (-1), 1) := by decide +kernel
theorem dX11_run_91 : decode cX11_run 91 = .ok (.if_icmp .eq 80, 3) := by decide +kernel
theorem dX11_run_94 : decode cX11_run 94 = .ok (.lload 8, 2) := by decide +kernel
theorem dX11_run_96 : decode cX11_run 96 = .ok (.ldc2_w 362, 3) := by decide +kernel
theorem dX11_run_99 : decode cX11_run 99 = .ok (.lmul, 1) := by decide +kernel
theorem dX11_run_100 : decode cX11_run 100 = .ok (.ldc2_w 364, 3) := by decide +kernel
theorem dX11_run_103 : decode cX11_run 103 = .ok (.ladd, 1) := by decide +kernel
theorem dX11_run_104 : decode cX11_run 104 = .ok (.lstore 8, 2) := by decide +kernel
theorem dX11_run_106 : decode cX11_run 106 = .ok (.iload 13, 2) := by decide +kernel
theorem dX11_run_108 : decode cX11_run 108 = .ok (.bipush 7, 2) := by decide +kernel
theorem dX11_run_110 : decode cX11_run 110 = .ok (.idiv, 1) := by decide +kernel
theorem dX11_run_111 : decode cX11_run 111 = .ok (.lload 8, 2) := by decide +kernel
theorem dX11_run_113 : decode cX11_run 113 = .ok (.bipush 33, 2) := by decide +kernel
theorem dX11_run_115 : decode cX11_run 115 = .ok (.lushr, 1) := by decide +kernel
theorem dX11_run_116 : decode cX11_run 116 = .ok (.iload 4, 2) := by decide +kernel
theorem dX11_run_118 : decode cX11_run 118 = .ok (.iconst 1, 1) := by decide +kernel
theorem dX11_run_119 : decode cX11_run 119 = .ok (.iadd, 1) := by decide +kernel
theorem dX11_run_120 : decode cX11_run 120 = .ok (.i2l, 1) := by decide +kernel
theorem dX11_run_121 : decode cX11_run 121 = .ok (.lrem, 1) := by decide +kernel
theorem dX11_run_122 : decode cX11_run 122 = .ok (.l2i, 1) := by decide +kernel
theorem dX11_run_123 : decode cX11_run 123 = .ok (.iadd, 1) := by decide +kernel
theorem dX11_run_124 : decode cX11_run 124 = .ok (.istore 12, 2) := by decide +kernel
theorem dX11_run_126 : decode cX11_run 126 = .ok (.iload 11, 2) := by decide +kernel
theorem dX11_run_128 : decode cX11_run 128 = .ok (.ifCond .le 36, 3) := by decide +kernel
theorem dX11_run_131 : decode cX11_run 131 = .ok (.aload_n 0, 1) := by decide +kernel
theorem dX11_run_132 : decode cX11_run 132 = .ok (.getfield 33, 3) := by decide +kernel
theorem dX11_run_135 : decode cX11_run 135 = .ok (.iload 11, 2) := by decide +kernel
theorem dX11_run_137 : decode cX11_run 137 = .ok (.aaload, 1) := by decide +kernel
theorem dX11_run_138 : decode cX11_run 138 = .ok (.aload_n 0, 1) := by decide +kernel
theorem dX11_run_139 : decode cX11_run 139 = .ok (.getfield 33, 3) := by decide +kernel
theorem dX11_run_142 : decode cX11_run 142 = .ok (.iload 11, 2) := by decide +kernel
theorem dX11_run_144 : decode cX11_run 144 = .ok (.iconst 1, 1) := by decide +kernel
theorem dX11_run_145 : decode cX11_run 145 = .ok (.isub, 1) := by decide +kernel
theorem dX11_run_146 : decode cX11_run 146 = .ok (.aaload, 1) := by decide +kernel
theorem dX11_run_147 : decode cX11_run 147 = .ok (.invokevirtual 338, 3) := by decide +kernel
theorem dX11_run_150 : decode cX11_run 150 = .ok (.ifCond .eq 14, 3) := by decide +kernel
theorem dX11_run_153 : decode cX11_run 153 = .ok (.iload 12, 2) := by decide +kernel
theorem dX11_run_155 : decode cX11_run 155 = .ok (.iload 5, 2) := by decide +kernel
theorem dX11_run_157 : decode cX11_run 157 = .ok (.isub, 1) := by decide +kernel
theorem dX11_run_158 : decode cX11_run 158 = .ok (.iconst 0, 1) := by decide +kernel
theorem dX11_run_159 : decode cX11_run 159 = .ok (.invokestatic 342, 3) := by decide +kernel
theorem dX11_run_162 : decode cX11_run 162 = .ok (.istore 12, 2) := by decide +kernel
theorem dX11_run_164 : decode cX11_run 164 = .ok (.iload 10, 2) := by decide +kernel
theorem dX11_run_166 : decode cX11_run 166 = .ok (.iload 12, 2) := by decide +kernel
theorem dX11_run_168 : decode cX11_run 168 = .ok (.iadd, 1) := by decide +kernel
theorem dX11_run_169 : decode cX11_run 169 = .ok (.istore 10, 2) := by decide +kernel
theorem dX11_run_171 : decode cX11_run 171 = .ok (.iload 11, 2) := by decide +kernel
theorem dX11_run_173 : decode cX11_run 173 = .ok (.iload 6, 2) := by decide +kernel
theorem dX11_run_175 : decode cX11_run 175 = .ok (.if_icmp .ne 6, 3) := by decide +kernel
theorem dX11_run_178 : decode cX11_run 178 = .ok (.iload 12, 2) := by decide +kernel
theorem dX11_run_180 : decode cX11_run 180 = .ok (.ireturn, 1) := by decide +kernel
theorem dX11_run_181 : decode cX11_run 181 = .ok (.iinc 11 1, 3) := by decide +kernel
theorem dX11_run_184 : decode cX11_run 184 = .ok (.goto (-122), 3) := by decide +kernel
theorem dX11_run_187 : decode cX11_run 187 = .ok (.iload 10, 2) := by decide +kernel
theorem dX11_run_189 : decode cX11_run 189 = .ok (.ireturn, 1) := by decide +kernel
theorem dX11_born_0 : decode cX11_born 0 = .ok (.aload_n 0, 1) := by decide +kernel
theorem dX11_born_1 : decode cX11_born 1 = .ok (.iload_n 1, 1) := by decide +kernel
theorem dX11_born_2 : decode cX11_born 2 = .ok (.iload_n 2, 1) := by decide +kernel
theorem dX11_born_3 : decode cX11_born 3 = .ok (.iload_n 3, 1) := by decide +kernel
theorem dX11_born_4 : decode cX11_born 4 = .ok (.iload 4, 2) := by decide +kernel
theorem dX11_born_6 : decode cX11_born 6 = .ok (.invokevirtual 295, 3) := by decide +kernel
theorem dX11_born_9 : decode cX11_born 9 = .ok (.astore 5, 2) := by decide +kernel
theorem dX11_born_11 : decode cX11_born 11 = .ok (.aload 5, 2) := by decide +kernel
theorem dX11_born_13 : decode cX11_born 13 = .ok (.ifnonnull 5, 3) := by decide +kernel
theorem dX11_born_16 : decode cX11_born 16 = .ok (.iconst 0, 1) := by decide +kernel
theorem dX11_born_17 : decode cX11_born 17 = .ok (.ireturn, 1) := by decide +kernel
theorem dX11_born_18 : decode cX11_born 18 = .ok (.aload_n 0, 1) := by decide +kernel
theorem dX11_born_19 : decode cX11_born 19 = .ok (.aload 5, 2) := by decide +kernel
theorem dX11_born_21 : decode cX11_born 21 = .ok (.putfield 335, 3) := by decide +kernel
theorem dX11_born_24 : decode cX11_born 24 = .ok (.iconst 1, 1) := by decide +kernel
theorem dX11_born_25 : decode cX11_born 25 = .ok (.ireturn, 1) := by decide +kernel
theorem dX11_age_0 : decode cX11_age 0 = .ok (.aload_n 0, 1) := by decide +kernel
theorem dX11_age_1 : decode cX11_age 1 = .ok (.iload_n 1, 1) := by decide +kernel
theorem dX11_age_2 : decode cX11_age 2 = .ok (.iload_n 2, 1) := by decide +kernel
theorem dX11_age_3 : decode cX11_age 3 = .ok (.iload_n 3, 1) := by decide +kernel
theorem dX11_age_4 : decode cX11_age 4 = .ok (.iload 4, 2) := by decide +kernel
theorem dX11_age_6 : decode cX11_age 6 = .ok (.invokevirtual 144, 3) := by decide +kernel
theorem dX11_age_9 : decode cX11_age 9 = .ok (.istore 5, 2) := by decide +kernel
theorem dX11_age_11 : decode cX11_age 11 = .ok (.aload_n 0, 1) := by decide +kernel
theorem dX11_age_12 : decode cX11_age 12 = .ok (.getfield 335, 3) := by decide +kernel
theorem dX11_age_15 : decode cX11_age 15 = .ok (.ifnull 32, 3) := by decide +kernel
theorem dX11_age_18 : decode cX11_age 18 = .ok (.aload_n 0, 1) := by decide +kernel
theorem dX11_age_19 : decode cX11_age 19 = .ok (.getfield 335, 3) := by decide +kernel
theorem dX11_age_22 : decode cX11_age 22 = .ok (.getfield 306, 3) := by decide +kernel
theorem dX11_age_25 : decode cX11_age 25 = .ok (.iload_n 1, 1) := by decide +kernel
theorem dX11_age_26 : decode cX11_age 26 = .ok (.if_icmp .ne 21, 3) := by decide +kernel
theorem dX11_age_29 : decode cX11_age 29 = .ok (.iload 5, 2) := by decide +kernel
theorem dX11_age_31 : decode cX11_age 31 = .ok (.iconst (-1), 1) := by decide +kernel
theorem dX11_age_32 : decode cX11_age 32 = .ok (.if_icmp .eq 15, 3) := by decide +kernel
theorem dX11_age_35 : decode cX11_age 35 = .ok (.iload 5, 2) := by decide +kernel
theorem dX11_age_37 : decode cX11_age 37 = .ok (.aload_n 0, 1) := by decide +kernel
theorem dX11_age_38 : decode cX11_age 38 = .ok (.getfield 335, 3) := by decide +kernel
theorem dX11_age_41 : decode cX11_age 41 = .ok (.getfield 309, 3) := by decide +kernel
theorem dX11_age_44 : decode cX11_age 44 = .ok (.if_icmp .ge 5, 3) := by decide +kernel
theorem dX11_age_47 : decode cX11_age 47 = .ok (.iconst (-1), 1) := by decide +kernel
theorem dX11_age_48 : decode cX11_age 48 = .ok (.ireturn, 1) := by decide +kernel
theorem dX11_age_49 : decode cX11_age 49 = .ok (.iconst 0, 1) := by decide +kernel
theorem dX11_age_50 : decode cX11_age 50 = .ok (.istore 6, 2) := by decide +kernel
theorem dX11_age_52 : decode cX11_age 52 = .ok (.aload_n 0, 1) := by decide +kernel
theorem dX11_age_53 : decode cX11_age 53 = .ok (.getfield 335, 3) := by decide +kernel
theorem dX11_age_56 : decode cX11_age 56 = .ok (.getfield 366, 3) := by decide +kernel
theorem dX11_age_59 : decode cX11_age 59 = .ok (.iconst 1, 1) := by decide +kernel
theorem dX11_age_60 : decode cX11_age 60 = .ok (.iadd, 1) := by decide +kernel
theorem dX11_age_61 : decode cX11_age 61 = .ok (.istore 7, 2) := by decide +kernel
theorem dX11_age_63 : decode cX11_age 63 = .ok (.iload 7, 2) := by decide +kernel
theorem dX11_age_65 : decode cX11_age 65 = .ok (.iload_n 2, 1) := by decide +kernel
theorem dX11_age_66 : decode cX11_age 66 = .ok (.if_icmp .gt 53, 3) := by decide +kernel
theorem dX11_age_69 : decode cX11_age 69 = .ok (.aload_n 0, 1) := by decide +kernel
theorem dX11_age_70 : decode cX11_age 70 = .ok (.getfield 335, 3) := by decide +kernel
theorem dX11_age_73 : decode cX11_age 73 = .ok (.getfield 369, 3) := by decide +kernel
theorem dX11_age_76 : decode cX11_age 76 = .ok (.iload 7, 2) := by decide +kernel
theorem dX11_age_78 : decode cX11_age 78 = .ok (.aload_n 0, 1) := by decide +kernel
theorem dX11_age_79 : decode cX11_age 79 = .ok (.getfield 335, 3) := by decide +kernel
theorem dX11_age_82 : decode cX11_age 82 = .ok (.getfield 373, 3) := by decide +kernel
theorem dX11_age_85 : decode cX11_age 85 = .ok (.aload_n 0, 1) := by decide +kernel
theorem dX11_age_86 : decode cX11_age 86 = .ok (.getfield 335, 3) := by decide +kernel
theorem dX11_age_89 : decode cX11_age 89 = .ok (.getfield 374, 3) := by decide +kernel
theorem dX11_age_92 : decode cX11_age 92 = .ok (.invokevirtual 377, 3) := by decide +kernel
theorem dX11_age_95 : decode cX11_age 95 = .ok (.istore 8, 2) := by decide +kernel
theorem dX11_age_97 : decode cX11_age 97 = .ok (.iload 8, 2) := by decide +kernel
theorem dX11_age_99 : decode cX11_age 99 = .ok (.iconst (-1), 1) := by decide +kernel
theorem dX11_age_100 : decode cX11_age 100 = .ok (.if_icmp .eq 13, 3) := by decide +kernel
theorem dX11_age_103 : decode cX11_age 103 = .ok (.iload 8, 2) := by decide +kernel
theorem dX11_age_105 : decode cX11_age 105 = .ok (.iload 5, 2) := by decide +kernel
theorem dX11_age_107 : decode cX11_age 107 = .ok (.if_icmp .gt 6, 3) := by decide +kernel
theorem dX11_age_110 : decode cX11_age 110 = .ok (.iinc 6 1, 3) := by decide +kernel
theorem dX11_age_113 : decode cX11_age 113 = .ok (.iinc 7 1, 3) := by decide +kernel
theorem dX11_age_116 : decode cX11_age 116 = .ok (.goto (-53), 3) := by decide +kernel
theorem dX11_age_119 : decode cX11_age 119 = .ok (.iload 6, 2) := by decide +kernel
theorem dX11_age_121 : decode cX11_age 121 = .ok (.ireturn, 1) := by decide +kernel
theorem dX11_event_0 : decode cX11_event 0 = .ok (.aload_n 0, 1) := by decide +kernel
theorem dX11_event_1 : decode cX11_event 1 = .ok (.iload_n 1, 1) := by decide +kernel
theorem dX11_event_2 : decode cX11_event 2 = .ok (.iload_n 2, 1) := by decide +kernel
theorem dX11_event_3 : decode cX11_event 3 = .ok (.iload_n 3, 1) := by decide +kernel
theorem dX11_event_4 : decode cX11_event 4 = .ok (.iload 4, 2) := by decide +kernel
theorem dX11_event_6 : decode cX11_event 6 = .ok (.invokevirtual 144, 3) := by decide +kernel
theorem dX11_event_9 : decode cX11_event 9 = .ok (.istore 6, 2) := by decide +kernel
theorem dX11_event_11 : decode cX11_event 11 = .ok (.iload 6, 2) := by decide +kernel
theorem dX11_event_13 : decode cX11_event 13 = .ok (.iconst (-1), 1) := by decide +kernel
theorem dX11_event_14 : decode cX11_event 14 = .ok (.if_icmp .eq 20, 3) := by decide +kernel
theorem dX11_event_17 : decode cX11_event 17 = .ok (.iload 5, 2) := by decide +kernel
theorem dX11_event_19 : decode cX11_event 19 = .ok (.invokestatic 380, 3) := by decide +kernel
theorem dX11_event_22 : decode cX11_event 22 = .ok (.ifCond .eq 12, 3) := by decide +kernel
theorem dX11_event_25 : decode cX11_event 25 = .ok (.aload_n 0, 1) := by decide +kernel
theorem dX11_event_26 : decode cX11_event 26 = .ok (.getfield 383, 3) := by decide +kernel
theorem dX11_event_29 : decode cX11_event 29 = .ok (.bipush 30, 2) := by decide +kernel
theorem dX11_event_31 : decode cX11_event 31 = .ok (.if_icmp .lt 5, 3) := by decide +kernel
theorem dX11_event_34 : decode cX11_event 34 = .ok (.iconst (-1), 1) := by decide +kernel
theorem dX11_event_35 : decode cX11_event 35 = .ok (.ireturn, 1) := by decide +kernel
theorem dX11_event_36 : decode cX11_event 36 = .ok (.aload_n 0, 1) := by decide +kernel
theorem dX11_event_37 : decode cX11_event 37 = .ok (.getfield 37, 3) := by decide +kernel
theorem dX11_event_40 : decode cX11_event 40 = .ok (.aload_n 0, 1) := by decide +kernel
theorem dX11_event_41 : decode cX11_event 41 = .ok (.getfield 383, 3) := by decide +kernel
theorem dX11_event_44 : decode cX11_event 44 = .ok (.iload 6, 2) := by decide +kernel
theorem dX11_event_46 : decode cX11_event 46 = .ok (.iastore, 1) := by decide +kernel
theorem dX11_event_47 : decode cX11_event 47 = .ok (.aload_n 0, 1) := by decide +kernel
theorem dX11_event_48 : decode cX11_event 48 = .ok (.getfield 40, 3) := by decide +kernel
theorem dX11_event_51 : decode cX11_event 51 = .ok (.aload_n 0, 1) := by decide +kernel
theorem dX11_event_52 : decode cX11_event 52 = .ok (.getfield 383, 3) := by decide +kernel
theorem dX11_event_55 : decode cX11_event 55 = .ok (.iload 5, 2) := by decide +kernel
theorem dX11_event_57 : decode cX11_event 57 = .ok (.iastore, 1) := by decide +kernel
theorem dX11_event_58 : decode cX11_event 58 = .ok (.aload_n 0, 1) := by decide +kernel
theorem dX11_event_59 : decode cX11_event 59 = .ok (.dup, 1) := by decide +kernel
theorem dX11_event_60 : decode cX11_event 60 = .ok (.getfield 383, 3) := by decide +kernel
theorem dX11_event_63 : decode cX11_event 63 = .ok (.iconst 1, 1) := by decide +kernel
theorem dX11_event_64 : decode cX11_event 64 = .ok (.iadd, 1) := by decide +kernel
theorem dX11_event_65 : decode cX11_event 65 = .ok (.putfield 383, 3) := by decide +kernel
theorem dX11_event_68 : decode cX11_event 68 = .ok (.aload_n 0, 1) := by decide +kernel
theorem dX11_event_69 : decode cX11_event 69 = .ok (.getfield 383, 3) := by decide +kernel
theorem dX11_event_72 : decode cX11_event 72 = .ok (.ireturn, 1) := by decide +kernel
theorem dX11_held_0 : decode cX11_held 0 = .ok (.aload_n 0, 1) := by decide +kernel
theorem dX11_held_1 : decode cX11_held 1 = .ok (.iload_n 1, 1) := by decide +kernel
theorem dX11_held_2 : decode cX11_held 2 = .ok (.iload_n 2, 1) := by decide +kernel
theorem dX11_held_3 : decode cX11_held 3 = .ok (.iload_n 3, 1) := by decide +kernel
theorem dX11_held_4 : decode cX11_held 4 = .ok (.iload 4, 2) := by decide +kernel
theorem dX11_held_6 : decode cX11_held 6 = .ok (.invokevirtual 144, 3) := by decide +kernel
theorem dX11_held_9 : decode cX11_held 9 = .ok (.istore 5, 2) := by decide +kernel
theorem dX11_held_11 : decode cX11_held 11 = .ok (.iload 5, 2) := by decide +kernel
theorem dX11_held_13 : decode cX11_held 13 = .ok (.iconst (-1), 1) := by decide +kernel
theorem dX11_held_14 : decode cX11_held 14 = .ok (.if_icmp .ne 7, 3) := by decide +kernel
theorem dX11_held_17 : decode cX11_held 17 = .ok (.iconst (-1), 1) := by decide +kernel
theorem dX11_held_18 : decode cX11_held 18 = .ok (.goto 9, 3) := by decide +kernel
theorem dX11_held_21 : decode cX11_held 21 = .ok (.aload_n 0, 1) := by decide +kernel
theorem dX11_held_22 : decode cX11_held 22 = .ok (.iload 5, 2) := by decide +kernel
theorem dX11_held_24 : decode cX11_held 24 = .ok (.invokevirtual 386, 3) := by decide +kernel
theorem dX11_held_27 : decode cX11_held 27 = .ok (.ireturn, 1) := by decide +kernel
theorem dX11_spell_0 : decode cX11_spell 0 = .ok (.iload_n 1, 1) := by decide +kernel
theorem dX11_spell_1 : decode cX11_spell 1 = .ok (.invokestatic 380, 3) := by decide +kernel
theorem dX11_spell_4 : decode cX11_spell 4 = .ok (.ifCond .ne 5, 3) := by decide +kernel
theorem dX11_spell_7 : decode cX11_spell 7 = .ok (.iconst (-1), 1) := by decide +kernel
theorem dX11_spell_8 : decode cX11_spell 8 = .ok (.ireturn, 1) := by decide +kernel
theorem dX11_spell_9 : decode cX11_spell 9 = .ok (.iconst 0, 1) := by decide +kernel
theorem dX11_spell_10 : decode cX11_spell 10 = .ok (.istore_n 2, 1) := by decide +kernel
theorem dX11_spell_11 : decode cX11_spell 11 = .ok (.iconst 0, 1) := by decide +kernel
theorem dX11_spell_12 : decode cX11_spell 12 = .ok (.istore_n 3, 1) := by decide +kernel
theorem dX11_spell_13 : decode cX11_spell 13 = .ok (.iload_n 3, 1) := by decide +kernel
theorem dX11_spell_14 : decode cX11_spell 14 = .ok (.aload_n 0, 1) := by decide +kernel
theorem dX11_spell_15 : decode cX11_spell 15 = .ok (.getfield 383, 3) := by decide +kernel
theorem dX11_spell_18 : decode cX11_spell 18 = .ok (.if_icmp .ge 35, 3) := by decide +kernel
theorem dX11_spell_21 : decode cX11_spell 21 = .ok (.aload_n 0, 1) := by decide +kernel
theorem dX11_spell_22 : decode cX11_spell 22 = .ok (.getfield 40, 3) := by decide +kernel
theorem dX11_spell_25 : decode cX11_spell 25 = .ok (.iload_n 3, 1) := by decide +kernel
theorem dX11_spell_26 : decode cX11_spell 26 = .ok (.iaload, 1) := by decide +kernel
theorem dX11_spell_27 : decode cX11_spell 27 = .ok (.iload_n 1, 1) := by decide +kernel
theorem dX11_spell_28 : decode cX11_spell 28 = .ok (.if_icmp .ne 19, 3) := by decide +kernel
theorem dX11_spell_31 : decode cX11_spell 31 = .ok (.iload_n 2, 1) := by decide +kernel
theorem dX11_spell_32 : decode cX11_spell 32 = .ok (.aload_n 0, 1) := by decide +kernel
theorem dX11_spell_33 : decode cX11_spell 33 = .ok (.aload_n 0, 1) := by decide +kernel
theorem dX11_spell_34 : decode cX11_spell 34 = .ok (.getfield 37, 3) := by decide +kernel
theorem dX11_spell_37 : decode cX11_spell 37 = .ok (.iload_n 3, 1) := by decide +kernel
theorem dX11_spell_38 : decode cX11_spell 38 = .ok (.iaload, 1) := by decide +kernel
theorem dX11_spell_39 : decode cX11_spell 39 = .ok (.iload_n 1, 1) := by decide +kernel
theorem dX11_spell_40 : decode cX11_spell 40 = .ok (.invokevirtual 389, 3) := by decide +kernel
theorem dX11_spell_43 : decode cX11_spell 43 = .ok (.invokestatic 342, 3) := by decide +kernel
theorem dX11_spell_46 : decode cX11_spell 46 = .ok (.istore_n 2, 1) := by decide +kernel
theorem dX11_spell_47 : decode cX11_spell 47 = .ok (.iinc 3 1, 3) := by decide +kernel
theorem dX11_spell_50 : decode cX11_spell 50 = .ok (.goto (-37), 3) := by decide +kernel
theorem dX11_spell_53 : decode cX11_spell 53 = .ok (.iload_n 2, 1) := by decide +kernel
theorem dX11_spell_54 : decode cX11_spell 54 = .ok (.ireturn, 1) := by decide +kernel
theorem dX11_spellFrom_0 : decode cX11_spellFrom 0 = .ok (.iconst 0, 1) := by decide +kernel
theorem dX11_spellFrom_1 : decode cX11_spellFrom 1 = .ok (.istore_n 3, 1) := by decide +kernel
theorem dX11_spellFrom_2 : decode cX11_spellFrom 2 = .ok (.iload_n 3, 1) := by decide +kernel
theorem dX11_spellFrom_3 : decode cX11_spellFrom 3 = .ok (.aload_n 0, 1) := by decide +kernel
theorem dX11_spellFrom_4 : decode cX11_spellFrom 4 = .ok (.getfield 383, 3) := by decide +kernel
theorem dX11_spellFrom_7 : decode cX11_spellFrom 7 = .ok (.if_icmp .ge 24, 3) := by decide +kernel
theorem dX11_spellFrom_10 : decode cX11_spellFrom 10 = .ok (.aload_n 0, 1) := by decide +kernel
theorem dX11_spellFrom_11 : decode cX11_spellFrom 11 = .ok (.iload_n 1, 1) := by decide +kernel
theorem dX11_spellFrom_12 : decode cX11_spellFrom 12 = .ok (.iload_n 3, 1) := by decide +kernel
theorem dX11_spellFrom_13 : decode cX11_spellFrom 13 = .ok (.iadd, 1) := by decide +kernel
theorem dX11_spellFrom_14 : decode cX11_spellFrom 14 = .ok (.invokevirtual 386, 3) := by decide +kernel
theorem dX11_spellFrom_17 : decode cX11_spellFrom 17 = .ok (.iload_n 2, 1) := by decide +kernel
theorem dX11_spellFrom_18 : decode cX11_spellFrom 18 = .ok (.ishr, 1) := by decide +kernel
theorem dX11_spellFrom_19 : decode cX11_spellFrom 19 = .ok (.iconst 1, 1) := by decide +kernel
theorem dX11_spellFrom_20 : decode cX11_spellFrom 20 = .ok (.iand, 1) := by decide +kernel
theorem dX11_spellFrom_21 : decode cX11_spellFrom 21 = .ok (.iconst 1, 1) := by decide +kernel
theorem dX11_spellFrom_22 : decode cX11_spellFrom 22 = .ok (.if_icmp .ne 9, 3) := by decide +kernel
theorem dX11_spellFrom_25 : decode cX11_spellFrom 25 = .ok (.iinc 3 1, 3) := by decide +kernel
theorem dX11_spellFrom_28 : decode cX11_spellFrom 28 = .ok (.goto (-26), 3) := by decide +kernel
theorem dX11_spellFrom_31 : decode cX11_spellFrom 31 = .ok (.iload_n 3, 1) := by decide +kernel
theorem dX11_spellFrom_32 : decode cX11_spellFrom 32 = .ok (.ireturn, 1) := by decide +kernel
theorem dX11_sortsOn_0 : decode cX11_sortsOn 0 = .ok (.iconst 0, 1) := by decide +kernel
theorem dX11_sortsOn_1 : decode cX11_sortsOn 1 = .ok (.istore_n 2, 1) := by decide +kernel
theorem dX11_sortsOn_2 : decode cX11_sortsOn 2 = .ok (.iconst 0, 1) := by decide +kernel
theorem dX11_sortsOn_3 : decode cX11_sortsOn 3 = .ok (.istore_n 3, 1) := by decide +kernel
theorem dX11_sortsOn_4 : decode cX11_sortsOn 4 = .ok (.iload_n 3, 1) := by decide +kernel
theorem dX11_sortsOn_5 : decode cX11_sortsOn 5 = .ok (.aload_n 0, 1) := by decide +kernel
theorem dX11_sortsOn_6 : decode cX11_sortsOn 6 = .ok (.getfield 383, 3) := by decide +kernel
theorem dX11_sortsOn_9 : decode cX11_sortsOn 9 = .ok (.if_icmp .ge 30, 3) := by decide +kernel
theorem dX11_sortsOn_12 : decode cX11_sortsOn 12 = .ok (.aload_n 0, 1) := by decide +kernel
theorem dX11_sortsOn_13 : decode cX11_sortsOn 13 = .ok (.getfield 37, 3) := by decide +kernel
theorem dX11_sortsOn_16 : decode cX11_sortsOn 16 = .ok (.iload_n 3, 1) := by decide +kernel
theorem dX11_sortsOn_17 : decode cX11_sortsOn 17 = .ok (.iaload, 1) := by decide +kernel
theorem dX11_sortsOn_18 : decode cX11_sortsOn 18 = .ok (.iload_n 1, 1) := by decide +kernel
theorem dX11_sortsOn_19 : decode cX11_sortsOn 19 = .ok (.if_icmp .ne 14, 3) := by decide +kernel
theorem dX11_sortsOn_22 : decode cX11_sortsOn 22 = .ok (.iload_n 2, 1) := by decide +kernel
theorem dX11_sortsOn_23 : decode cX11_sortsOn 23 = .ok (.iconst 1, 1) := by decide +kernel
theorem dX11_sortsOn_24 : decode cX11_sortsOn 24 = .ok (.aload_n 0, 1) := by decide +kernel
theorem dX11_sortsOn_25 : decode cX11_sortsOn 25 = .ok (.getfield 40, 3) := by decide +kernel
theorem dX11_sortsOn_28 : decode cX11_sortsOn 28 = .ok (.iload_n 3, 1) := by decide +kernel
theorem dX11_sortsOn_29 : decode cX11_sortsOn 29 = .ok (.iaload, 1) := by decide +kernel
theorem dX11_sortsOn_30 : decode cX11_sortsOn 30 = .ok (.ishl, 1) := by decide +kernel
theorem dX11_sortsOn_31 : decode cX11_sortsOn 31 = .ok (.ior, 1) := by decide +kernel
theorem dX11_sortsOn_32 : decode cX11_sortsOn 32 = .ok (.istore_n 2, 1) := by decide +kernel
theorem dX11_sortsOn_33 : decode cX11_sortsOn 33 = .ok (.iinc 3 1, 3) := by decide +kernel
theorem dX11_sortsOn_36 : decode cX11_sortsOn 36 = .ok (.goto (-32), 3) := by decide +kernel
theorem dX11_sortsOn_39 : decode cX11_sortsOn 39 = .ok (.iload_n 2, 1) := by decide +kernel
theorem dX11_sortsOn_40 : decode cX11_sortsOn 40 = .ok (.ireturn, 1) := by decide +kernel
theorem dX11_keep_0 : decode cX11_keep 0 = .ok (.aload_n 0, 1) := by decide +kernel
theorem dX11_keep_1 : decode cX11_keep 1 = .ok (.aload_n 0, 1) := by decide +kernel
theorem dX11_keep_2 : decode cX11_keep 2 = .ok (.getfield 289, 3) := by decide +kernel
theorem dX11_keep_5 : decode cX11_keep 5 = .ok (.putfield 392, 3) := by decide +kernel
theorem dX11_keep_8 : decode cX11_keep 8 = .ok (.aload_n 0, 1) := by decide +kernel
theorem dX11_keep_9 : decode cX11_keep 9 = .ok (.aload_n 0, 1) := by decide +kernel
theorem dX11_keep_10 : decode cX11_keep 10 = .ok (.getfield 383, 3) := by decide +kernel
theorem dX11_keep_13 : decode cX11_keep 13 = .ok (.putfield 395, 3) := by decide +kernel
theorem dX11_keep_16 : decode cX11_keep 16 = .ok (.aload_n 0, 1) := by decide +kernel
theorem dX11_keep_17 : decode cX11_keep 17 = .ok (.getfield 289, 3) := by decide +kernel
theorem dX11_keep_20 : decode cX11_keep 20 = .ok (.aload_n 0, 1) := by decide +kernel
theorem dX11_keep_21 : decode cX11_keep 21 = .ok (.getfield 383, 3) := by decide +kernel
theorem dX11_keep_24 : decode cX11_keep 24 = .ok (.iadd, 1) := by decide +kernel
theorem dX11_keep_25 : decode cX11_keep 25 = .ok (.ireturn, 1) := by decide +kernel
theorem dX11_back_0 : decode cX11_back 0 = .ok (.aload_n 0, 1) := by decide +kernel
theorem dX11_back_1 : decode cX11_back 1 = .ok (.aload_n 0, 1) := by decide +kernel
theorem dX11_back_2 : decode cX11_back 2 = .ok (.getfield 392, 3) := by decide +kernel
theorem dX11_back_5 : decode cX11_back 5 = .ok (.putfield 289, 3) := by decide +kernel
theorem dX11_back_8 : decode cX11_back 8 = .ok (.aload_n 0, 1) := by decide +kernel
theorem dX11_back_9 : decode cX11_back 9 = .ok (.aload_n 0, 1) := by decide +kernel
theorem dX11_back_10 : decode cX11_back 10 = .ok (.getfield 395, 3) := by decide +kernel
theorem dX11_back_13 : decode cX11_back 13 = .ok (.putfield 383, 3) := by decide +kernel
theorem dX11_back_16 : decode cX11_back 16 = .ok (.aload_n 0, 1) := by decide +kernel
theorem dX11_back_17 : decode cX11_back 17 = .ok (.getfield 289, 3) := by decide +kernel
theorem dX11_back_20 : decode cX11_back 20 = .ok (.aload_n 0, 1) := by decide +kernel
theorem dX11_back_21 : decode cX11_back 21 = .ok (.getfield 383, 3) := by decide +kernel
theorem dX11_back_24 : decode cX11_back 24 = .ok (.iadd, 1) := by decide +kernel
theorem dX11_back_25 : decode cX11_back 25 = .ok (.ireturn, 1) := by decide +kernel
theorem dX11_count_0 : decode cX11_count 0 = .ok (.iload_n 1, 1) := by decide +kernel
theorem dX11_count_1 : decode cX11_count 1 = .ok (.tableswitch 101 0 7 #[47, 52, 57, 62, 67, 72, 77, 96], 47) := by decide +kernel
theorem dX11_count_48 : decode cX11_count 48 = .ok (.aload_n 0, 1) := by decide +kernel
theorem dX11_count_49 : decode cX11_count 49 = .ok (.getfield 84, 3) := by decide +kernel
theorem dX11_count_52 : decode cX11_count 52 = .ok (.ireturn, 1) := by decide +kernel
theorem dX11_count_53 : decode cX11_count 53 = .ok (.aload_n 0, 1) := by decide +kernel
theorem dX11_count_54 : decode cX11_count 54 = .ok (.getfield 94, 3) := by decide +kernel
theorem dX11_count_57 : decode cX11_count 57 = .ok (.ireturn, 1) := by decide +kernel
theorem dX11_count_58 : decode cX11_count 58 = .ok (.aload_n 0, 1) := by decide +kernel
theorem dX11_count_59 : decode cX11_count 59 = .ok (.getfield 289, 3) := by decide +kernel
theorem dX11_count_62 : decode cX11_count 62 = .ok (.ireturn, 1) := by decide +kernel
theorem dX11_count_63 : decode cX11_count 63 = .ok (.aload_n 0, 1) := by decide +kernel
theorem dX11_count_64 : decode cX11_count 64 = .ok (.getfield 348, 3) := by decide +kernel
theorem dX11_count_67 : decode cX11_count 67 = .ok (.ireturn, 1) := by decide +kernel
theorem dX11_count_68 : decode cX11_count 68 = .ok (.aload_n 0, 1) := by decide +kernel
theorem dX11_count_69 : decode cX11_count 69 = .ok (.getfield 383, 3) := by decide +kernel
theorem dX11_count_72 : decode cX11_count 72 = .ok (.ireturn, 1) := by decide +kernel
theorem dX11_count_73 : decode cX11_count 73 = .ok (.aload_n 0, 1) := by decide +kernel
theorem dX11_count_74 : decode cX11_count 74 = .ok (.getfield 47, 3) := by decide +kernel
theorem dX11_count_77 : decode cX11_count 77 = .ok (.ireturn, 1) := by decide +kernel
theorem dX11_count_78 : decode cX11_count 78 = .ok (.aload_n 0, 1) := by decide +kernel
theorem dX11_count_79 : decode cX11_count 79 = .ok (.getfield 335, 3) := by decide +kernel
theorem dX11_count_82 : decode cX11_count 82 = .ok (.ifnonnull 7, 3) := by decide +kernel
theorem dX11_count_85 : decode cX11_count 85 = .ok (.iconst (-1), 1) := by decide +kernel
theorem dX11_count_86 : decode cX11_count 86 = .ok (.goto 10, 3) := by decide +kernel
theorem dX11_count_89 : decode cX11_count 89 = .ok (.aload_n 0, 1) := by decide +kernel
theorem dX11_count_90 : decode cX11_count 90 = .ok (.getfield 335, 3) := by decide +kernel
theorem dX11_count_93 : decode cX11_count 93 = .ok (.getfield 309, 3) := by decide +kernel
theorem dX11_count_96 : decode cX11_count 96 = .ok (.ireturn, 1) := by decide +kernel
theorem dX11_count_97 : decode cX11_count 97 = .ok (.aload_n 0, 1) := by decide +kernel
theorem dX11_count_98 : decode cX11_count 98 = .ok (.getfield 112, 3) := by decide +kernel
theorem dX11_count_101 : decode cX11_count 101 = .ok (.ireturn, 1) := by decide +kernel
theorem dX11_count_102 : decode cX11_count 102 = .ok (.sipush (-1000), 3) := by decide +kernel
theorem dX11_count_105 : decode cX11_count 105 = .ok (.ireturn, 1) := by decide +kernel
theorem dX11_isYear_0 : decode cX11_isYear 0 = .ok (.iload_n 0, 1) := by decide +kernel
theorem dX11_isYear_1 : decode cX11_isYear 1 = .ok (.iconst 1, 1) := by decide +kernel
theorem dX11_isYear_2 : decode cX11_isYear 2 = .ok (.if_icmp .lt 14, 3) := by decide +kernel
theorem dX11_isYear_5 : decode cX11_isYear 5 = .ok (.iload_n 0, 1) := by decide +kernel
theorem dX11_isYear_6 : decode cX11_isYear 6 = .ok (.sipush 9999, 3) := by decide +kernel
theorem dX11_isYear_9 : decode cX11_isYear 9 = .ok (.if_icmp .gt 7, 3) := by decide +kernel
theorem dX11_isYear_12 : decode cX11_isYear 12 = .ok (.iconst 1, 1) := by decide +kernel
theorem dX11_isYear_13 : decode cX11_isYear 13 = .ok (.goto 4, 3) := by decide +kernel
theorem dX11_isYear_16 : decode cX11_isYear 16 = .ok (.iconst 0, 1) := by decide +kernel
theorem dX11_isYear_17 : decode cX11_isYear 17 = .ok (.ireturn, 1) := by decide +kernel
theorem dX11_areYears_0 : decode cX11_areYears 0 = .ok (.iload_n 0, 1) := by decide +kernel
theorem dX11_areYears_1 : decode cX11_areYears 1 = .ok (.invokestatic 161, 3) := by decide +kernel
theorem dX11_areYears_4 : decode cX11_areYears 4 = .ok (.ifCond .eq 19, 3) := by decide +kernel
theorem dX11_areYears_7 : decode cX11_areYears 7 = .ok (.iload_n 1, 1) := by decide +kernel
theorem dX11_areYears_8 : decode cX11_areYears 8 = .ok (.invokestatic 161, 3) := by decide +kernel
theorem dX11_areYears_11 : decode cX11_areYears 11 = .ok (.ifCond .eq 12, 3) := by decide +kernel
theorem dX11_areYears_14 : decode cX11_areYears 14 = .ok (.iload_n 0, 1) := by decide +kernel
theorem dX11_areYears_15 : decode cX11_areYears 15 = .ok (.iload_n 1, 1) := by decide +kernel
theorem dX11_areYears_16 : decode cX11_areYears 16 = .ok (.if_icmp .gt 7, 3) := by decide +kernel
theorem dX11_areYears_19 : decode cX11_areYears 19 = .ok (.iconst 1, 1) := by decide +kernel
theorem dX11_areYears_20 : decode cX11_areYears 20 = .ok (.goto 4, 3) := by decide +kernel
theorem dX11_areYears_23 : decode cX11_areYears 23 = .ok (.iconst 0, 1) := by decide +kernel
theorem dX11_areYears_24 : decode cX11_areYears 24 = .ok (.ireturn, 1) := by decide +kernel
theorem dX11_isSlack_0 : decode cX11_isSlack 0 = .ok (.iload_n 0, 1) := by decide +kernel
theorem dX11_isSlack_1 : decode cX11_isSlack 1 = .ok (.ifCond .lt 14, 3) := by decide +kernel
theorem dX11_isSlack_4 : decode cX11_isSlack 4 = .ok (.iload_n 0, 1) := by decide +kernel
theorem dX11_isSlack_5 : decode cX11_isSlack 5 = .ok (.sipush 999, 3) := by decide +kernel
theorem dX11_isSlack_8 : decode cX11_isSlack 8 = .ok (.if_icmp .gt 7, 3) := by decide +kernel
theorem dX11_isSlack_11 : decode cX11_isSlack 11 = .ok (.iconst 1, 1) := by decide +kernel
theorem dX11_isSlack_12 : decode cX11_isSlack 12 = .ok (.goto 4, 3) := by decide +kernel
theorem dX11_isSlack_15 : decode cX11_isSlack 15 = .ok (.iconst 0, 1) := by decide +kernel
theorem dX11_isSlack_16 : decode cX11_isSlack 16 = .ok (.ireturn, 1) := by decide +kernel
theorem dX11_isSort_0 : decode cX11_isSort 0 = .ok (.iload_n 0, 1) := by decide +kernel
theorem dX11_isSort_1 : decode cX11_isSort 1 = .ok (.ifCond .lt 12, 3) := by decide +kernel
theorem dX11_isSort_4 : decode cX11_isSort 4 = .ok (.iload_n 0, 1) := by decide +kernel
theorem dX11_isSort_5 : decode cX11_isSort 5 = .ok (.iconst 3, 1) := by decide +kernel
theorem dX11_isSort_6 : decode cX11_isSort 6 = .ok (.if_icmp .gt 7, 3) := by decide +kernel
theorem dX11_isSort_9 : decode cX11_isSort 9 = .ok (.iconst 1, 1) := by decide +kernel
theorem dX11_isSort_10 : decode cX11_isSort 10 = .ok (.goto 4, 3) := by decide +kernel
theorem dX11_isSort_13 : decode cX11_isSort 13 = .ok (.iconst 0, 1) := by decide +kernel
theorem dX11_isSort_14 : decode cX11_isSort 14 = .ok (.ireturn, 1) := by decide +kernel
theorem dX11_isDatelike_0 : decode cX11_isDatelike 0 = .ok (.iload_n 0, 1) := by decide +kernel
theorem dX11_isDatelike_1 : decode cX11_isDatelike 1 = .ok (.invokestatic 161, 3) := by decide +kernel
theorem dX11_isDatelike_4 : decode cX11_isDatelike 4 = .ok (.ifCond .eq 29, 3) := by decide +kernel
theorem dX11_isDatelike_7 : decode cX11_isDatelike 7 = .ok (.iload_n 1, 1) := by decide +kernel
theorem dX11_isDatelike_8 : decode cX11_isDatelike 8 = .ok (.iconst 1, 1) := by decide +kernel
theorem dX11_isDatelike_9 : decode cX11_isDatelike 9 = .ok (.if_icmp .lt 24, 3) := by decide +kernel
theorem dX11_isDatelike_12 : decode cX11_isDatelike 12 = .ok (.iload_n 1, 1) := by decide +kernel
theorem dX11_isDatelike_13 : decode cX11_isDatelike 13 = .ok (.bipush 12, 2) := by decide +kernel
theorem dX11_isDatelike_15 : decode cX11_isDatelike 15 = .ok (.if_icmp .gt 18, 3) := by decide +kernel
theorem dX11_isDatelike_18 : decode cX11_isDatelike 18 = .ok (.iload_n 2, 1) := by decide +kernel
theorem dX11_isDatelike_19 : decode cX11_isDatelike 19 = .ok (.iconst 1, 1) := by decide +kernel
theorem dX11_isDatelike_20 : decode cX11_isDatelike 20 = .ok (.if_icmp .lt 13, 3) := by decide +kernel
theorem dX11_isDatelike_23 : decode cX11_isDatelike 23 = .ok (.iload_n 2, 1) := by decide +kernel
theorem dX11_isDatelike_24 : decode cX11_isDatelike 24 = .ok (.bipush 31, 2) := by decide +kernel
theorem dX11_isDatelike_26 : decode cX11_isDatelike 26 = .ok (.if_icmp .gt 7, 3) := by decide +kernel
theorem dX11_isDatelike_29 : decode cX11_isDatelike 29 = .ok (.iconst 1, 1) := by decide +kernel
theorem dX11_isDatelike_30 : decode cX11_isDatelike 30 = .ok (.goto 4, 3) := by decide +kernel
theorem dX11_isDatelike_33 : decode cX11_isDatelike 33 = .ok (.iconst 0, 1) := by decide +kernel
theorem dX11_isDatelike_34 : decode cX11_isDatelike 34 = .ok (.ireturn, 1) := by decide +kernel
theorem dX11_keyOf_0 : decode cX11_keyOf 0 = .ok (.iload_n 0, 1) := by decide +kernel
theorem dX11_keyOf_1 : decode cX11_keyOf 1 = .ok (.bipush 9, 2) := by decide +kernel
theorem dX11_keyOf_3 : decode cX11_keyOf 3 = .ok (.ishl, 1) := by decide +kernel
theorem dX11_keyOf_4 : decode cX11_keyOf 4 = .ok (.iload_n 1, 1) := by decide +kernel
theorem dX11_keyOf_5 : decode cX11_keyOf 5 = .ok (.iconst 5, 1) := by decide +kernel
theorem dX11_keyOf_6 : decode cX11_keyOf 6 = .ok (.ishl, 1) := by decide +kernel
theorem dX11_keyOf_7 : decode cX11_keyOf 7 = .ok (.ior, 1) := by decide +kernel
theorem dX11_keyOf_8 : decode cX11_keyOf 8 = .ok (.iload_n 2, 1) := by decide +kernel
theorem dX11_keyOf_9 : decode cX11_keyOf 9 = .ok (.ior, 1) := by decide +kernel
theorem dX11_keyOf_10 : decode cX11_keyOf 10 = .ok (.ireturn, 1) := by decide +kernel
theorem dX11_yearOfKey_0 : decode cX11_yearOfKey 0 = .ok (.iload_n 0, 1) := by decide +kernel
theorem dX11_yearOfKey_1 : decode cX11_yearOfKey 1 = .ok (.bipush 9, 2) := by decide +kernel
theorem dX11_yearOfKey_3 : decode cX11_yearOfKey 3 = .ok (.ishr, 1) := by decide +kernel
theorem dX11_yearOfKey_4 : decode cX11_yearOfKey 4 = .ok (.ireturn, 1) := by decide +kernel
theorem dX11_monthOfKey_0 : decode cX11_monthOfKey 0 = .ok (.iload_n 0, 1) := by decide +kernel
theorem dX11_monthOfKey_1 : decode cX11_monthOfKey 1 = .ok (.iconst 5, 1) := by decide +kernel
theorem dX11_monthOfKey_2 : decode cX11_monthOfKey 2 = .ok (.ishr, 1) := by decide +kernel
theorem dX11_monthOfKey_3 : decode cX11_monthOfKey 3 = .ok (.bipush 15, 2) := by decide +kernel
theorem dX11_monthOfKey_5 : decode cX11_monthOfKey 5 = .ok (.iand, 1) := by decide +kernel
theorem dX11_monthOfKey_6 : decode cX11_monthOfKey 6 = .ok (.ireturn, 1) := by decide +kernel
theorem dX11_dateOfKey_0 : decode cX11_dateOfKey 0 = .ok (.iload_n 0, 1) := by decide +kernel
theorem dX11_dateOfKey_1 : decode cX11_dateOfKey 1 = .ok (.bipush 31, 2) := by decide +kernel
theorem dX11_dateOfKey_3 : decode cX11_dateOfKey 3 = .ok (.iand, 1) := by decide +kernel
theorem dX11_dateOfKey_4 : decode cX11_dateOfKey 4 = .ok (.ireturn, 1) := by decide +kernel
theorem dX11_partOfKey_0 : decode cX11_partOfKey 0 = .ok (.iload_n 1, 1) := by decide +kernel
theorem dX11_partOfKey_1 : decode cX11_partOfKey 1 = .ok (.ifCond .ne 8, 3) := by decide +kernel
theorem dX11_partOfKey_4 : decode cX11_partOfKey 4 = .ok (.iload_n 0, 1) := by decide +kernel
theorem dX11_partOfKey_5 : decode cX11_partOfKey 5 = .ok (.invokestatic 398, 3) := by decide +kernel
theorem dX11_partOfKey_8 : decode cX11_partOfKey 8 = .ok (.ireturn, 1) := by decide +kernel
theorem dX11_partOfKey_9 : decode cX11_partOfKey 9 = .ok (.iload_n 1, 1) := by decide +kernel
theorem dX11_partOfKey_10 : decode cX11_partOfKey 10 = .ok (.iconst 1, 1) := by decide +kernel
theorem dX11_partOfKey_11 : decode cX11_partOfKey 11 = .ok (.if_icmp .ne 10, 3) := by decide +kernel
theorem dX11_partOfKey_14 : decode cX11_partOfKey 14 = .ok (.iload_n 0, 1) := by decide +kernel
theorem dX11_partOfKey_15 : decode cX11_partOfKey 15 = .ok (.invokestatic 401, 3) := by decide +kernel
theorem dX11_partOfKey_18 : decode cX11_partOfKey 18 = .ok (.goto 7, 3) := by decide +kernel
theorem dX11_partOfKey_21 : decode cX11_partOfKey 21 = .ok (.iload_n 0, 1) := by decide +kernel
theorem dX11_partOfKey_22 : decode cX11_partOfKey 22 = .ok (.invokestatic 404, 3) := by decide +kernel
theorem dX11_partOfKey_25 : decode cX11_partOfKey 25 = .ok (.ireturn, 1) := by decide +kernel
theorem dX11_yearLength_0 : decode cX11_yearLength 0 = .ok (.iload_n 0, 1) := by decide +kernel
theorem dX11_yearLength_1 : decode cX11_yearLength 1 = .ok (.ifCond .eq 9, 3) := by decide +kernel
theorem dX11_yearLength_4 : decode cX11_yearLength 4 = .ok (.sipush 366, 3) := by decide +kernel
theorem dX11_yearLength_7 : decode cX11_yearLength 7 = .ok (.goto 6, 3) := by decide +kernel
theorem dX11_yearLength_10 : decode cX11_yearLength 10 = .ok (.sipush 365, 3) := by decide +kernel
theorem dX11_yearLength_13 : decode cX11_yearLength 13 = .ok (.ireturn, 1) := by decide +kernel
theorem dX11_monthLength_0 : decode cX11_monthLength 0 = .ok (.iload_n 1, 1) := by decide +kernel
theorem dX11_monthLength_1 : decode cX11_monthLength 1 = .ok (.iconst 1, 1) := by decide +kernel
theorem dX11_monthLength_2 : decode cX11_monthLength 2 = .ok (.if_icmp .lt 9, 3) := by decide +kernel
theorem dX11_monthLength_5 : decode cX11_monthLength 5 = .ok (.iload_n 1, 1) := by decide +kernel
theorem dX11_monthLength_6 : decode cX11_monthLength 6 = .ok (.bipush 12, 2) := by decide +kernel
theorem dX11_monthLength_8 : decode cX11_monthLength 8 = .ok (.if_icmp .le 5, 3) := by decide +kernel
theorem dX11_monthLength_11 : decode cX11_monthLength 11 = .ok (.iconst 0, 1) := by decide +kernel
theorem dX11_monthLength_12 : decode cX11_monthLength 12 = .ok (.ireturn, 1) := by decide +kernel
theorem dX11_monthLength_13 : decode cX11_monthLength 13 = .ok (.iload_n 0, 1) := by decide +kernel
theorem dX11_monthLength_14 : decode cX11_monthLength 14 = .ok (.ifCond .eq 13, 3) := by decide +kernel
theorem dX11_monthLength_17 : decode cX11_monthLength 17 = .ok (.iload_n 1, 1) := by decide +kernel
theorem dX11_monthLength_18 : decode cX11_monthLength 18 = .ok (.iconst 2, 1) := by decide +kernel
theorem dX11_monthLength_19 : decode cX11_monthLength 19 = .ok (.if_icmp .ne 8, 3) := by decide +kernel
theorem dX11_monthLength_22 : decode cX11_monthLength 22 = .ok (.bipush 29, 2) := by decide +kernel
theorem dX11_monthLength_24 : decode cX11_monthLength 24 = .ok (.goto 8, 3) := by decide +kernel
theorem dX11_monthLength_27 : decode cX11_monthLength 27 = .ok (.getstatic 407, 3) := by decide +kernel
theorem dX11_monthLength_30 : decode cX11_monthLength 30 = .ok (.iload_n 1, 1) := by decide +kernel
theorem dX11_monthLength_31 : decode cX11_monthLength 31 = .ok (.iaload, 1) := by decide +kernel
theorem dX11_monthLength_32 : decode cX11_monthLength 32 = .ok (.ireturn, 1) := by decide +kernel
theorem dX11_placeInYear_0 : decode cX11_placeInYear 0 = .ok (.iload_n 1, 1) := by decide +kernel
theorem dX11_placeInYear_1 : decode cX11_placeInYear 1 = .ok (.iconst 1, 1) := by decide +kernel
theorem dX11_placeInYear_2 : decode cX11_placeInYear 2 = .ok (.if_icmp .lt 9, 3) := by decide +kernel
theorem dX11_placeInYear_5 : decode cX11_placeInYear 5 = .ok (.iload_n 1, 1) := by decide +kernel
theorem dX11_placeInYear_6 : decode cX11_placeInYear 6 = .ok (.bipush 12, 2) := by decide +kernel
theorem dX11_placeInYear_8 : decode cX11_placeInYear 8 = .ok (.if_icmp .le 5, 3) := by decide +kernel
theorem dX11_placeInYear_11 : decode cX11_placeInYear 11 = .ok (.iconst 0, 1) := by decide +kernel
theorem dX11_placeInYear_12 : decode cX11_placeInYear 12 = .ok (.ireturn, 1) := by decide +kernel
theorem dX11_placeInYear_13 : decode cX11_placeInYear 13 = .ok (.getstatic 410, 3) := by decide +kernel
theorem dX11_placeInYear_16 : decode cX11_placeInYear 16 = .ok (.iload_n 1, 1) := by decide +kernel
theorem dX11_placeInYear_17 : decode cX11_placeInYear 17 = .ok (.iaload, 1) := by decide +kernel
theorem dX11_placeInYear_18 : decode cX11_placeInYear 18 = .ok (.iload_n 0, 1) := by decide +kernel
theorem dX11_placeInYear_19 : decode cX11_placeInYear 19 = .ok (.ifCond .eq 12, 3) := by decide +kernel
theorem dX11_placeInYear_22 : decode cX11_placeInYear 22 = .ok (.iload_n 1, 1) := by decide +kernel
theorem dX11_placeInYear_23 : decode cX11_placeInYear 23 = .ok (.iconst 2, 1) := by decide +kernel
theorem dX11_placeInYear_24 : decode cX11_placeInYear 24 = .ok (.if_icmp .le 7, 3) := by decide +kernel
theorem dX11_placeInYear_27 : decode cX11_placeInYear 27 = .ok (.iconst 1, 1) := by decide +kernel
theorem dX11_placeInYear_28 : decode cX11_placeInYear 28 = .ok (.goto 4, 3) := by decide +kernel
theorem dX11_placeInYear_31 : decode cX11_placeInYear 31 = .ok (.iconst 0, 1) := by decide +kernel
theorem dX11_placeInYear_32 : decode cX11_placeInYear 32 = .ok (.iadd, 1) := by decide +kernel
theorem dX11_placeInYear_33 : decode cX11_placeInYear 33 = .ok (.iload_n 2, 1) := by decide +kernel
theorem dX11_placeInYear_34 : decode cX11_placeInYear 34 = .ok (.iadd, 1) := by decide +kernel
theorem dX11_placeInYear_35 : decode cX11_placeInYear 35 = .ok (.ireturn, 1) := by decide +kernel
theorem dX11_keyAt_0 : decode cX11_keyAt 0 = .ok (.iconst 1, 1) := by decide +kernel
theorem dX11_keyAt_1 : decode cX11_keyAt 1 = .ok (.istore_n 3, 1) := by decide +kernel
theorem dX11_keyAt_2 : decode cX11_keyAt 2 = .ok (.iload_n 2, 1) := by decide +kernel
theorem dX11_keyAt_3 : decode cX11_keyAt 3 = .ok (.istore 4, 2) := by decide +kernel
theorem dX11_keyAt_5 : decode cX11_keyAt 5 = .ok (.iload_n 3, 1) := by decide +kernel
theorem dX11_keyAt_6 : decode cX11_keyAt 6 = .ok (.bipush 12, 2) := by decide +kernel
theorem dX11_keyAt_8 : decode cX11_keyAt 8 = .ok (.if_icmp .ge 29, 3) := by decide +kernel
theorem dX11_keyAt_11 : decode cX11_keyAt 11 = .ok (.iload 4, 2) := by decide +kernel
theorem dX11_keyAt_13 : decode cX11_keyAt 13 = .ok (.iload_n 1, 1) := by decide +kernel
theorem dX11_keyAt_14 : decode cX11_keyAt 14 = .ok (.iload_n 3, 1) := by decide +kernel
theorem dX11_keyAt_15 : decode cX11_keyAt 15 = .ok (.invokestatic 413, 3) := by decide +kernel
theorem dX11_keyAt_18 : decode cX11_keyAt 18 = .ok (.if_icmp .le 19, 3) := by decide +kernel
theorem dX11_keyAt_21 : decode cX11_keyAt 21 = .ok (.iload 4, 2) := by decide +kernel
theorem dX11_keyAt_23 : decode cX11_keyAt 23 = .ok (.iload_n 1, 1) := by decide +kernel
theorem dX11_keyAt_24 : decode cX11_keyAt 24 = .ok (.iload_n 3, 1) := by decide +kernel
theorem dX11_keyAt_25 : decode cX11_keyAt 25 = .ok (.invokestatic 413, 3) := by decide +kernel
theorem dX11_keyAt_28 : decode cX11_keyAt 28 = .ok (.isub, 1) := by decide +kernel
theorem dX11_keyAt_29 : decode cX11_keyAt 29 = .ok (.istore 4, 2) := by decide +kernel
theorem dX11_keyAt_31 : decode cX11_keyAt 31 = .ok (.iinc 3 1, 3) := by decide +kernel
theorem dX11_keyAt_34 : decode cX11_keyAt 34 = .ok (.goto (-29), 3) := by decide +kernel
theorem dX11_keyAt_37 : decode cX11_keyAt 37 = .ok (.iload_n 0, 1) := by decide +kernel
theorem dX11_keyAt_38 : decode cX11_keyAt 38 = .ok (.iload_n 3, 1) := by decide +kernel
theorem dX11_keyAt_39 : decode cX11_keyAt 39 = .ok (.iload 4, 2) := by decide +kernel
theorem dX11_keyAt_41 : decode cX11_keyAt 41 = .ok (.invokestatic 140, 3) := by decide +kernel
theorem dX11_keyAt_44 : decode cX11_keyAt 44 = .ok (.ireturn, 1) := by decide +kernel
theorem dX11_offBy_0 : decode cX11_offBy 0 = .ok (.iload_n 0, 1) := by decide +kernel
theorem dX11_offBy_1 : decode cX11_offBy 1 = .ok (.iload_n 1, 1) := by decide +kernel
theorem dX11_offBy_2 : decode cX11_offBy 2 = .ok (.isub, 1) := by decide +kernel
theorem dX11_offBy_3 : decode cX11_offBy 3 = .ok (.iconst 3, 1) := by decide +kernel
theorem dX11_offBy_4 : decode cX11_offBy 4 = .ok (.iadd, 1) := by decide +kernel
theorem dX11_offBy_5 : decode cX11_offBy 5 = .ok (.bipush 7, 2) := by decide +kernel
theorem dX11_offBy_7 : decode cX11_offBy 7 = .ok (.invokestatic 417, 3) := by decide +kernel
theorem dX11_offBy_10 : decode cX11_offBy 10 = .ok (.iconst 3, 1) := by decide +kernel
theorem dX11_offBy_11 : decode cX11_offBy 11 = .ok (.isub, 1) := by decide +kernel
theorem dX11_offBy_12 : decode cX11_offBy 12 = .ok (.ireturn, 1) := by decide +kernel
theorem dX12_in_0 : decode cX12_in 0 = .ok (.iload_n 0, 1) := by decide +kernel
theorem dX12_in_1 : decode cX12_in 1 = .ok (.iload_n 1, 1) := by decide +kernel
theorem dX12_in_2 : decode cX12_in 2 = .ok (.if_icmp .lt 12, 3) := by decide +kernel
theorem dX12_in_5 : decode cX12_in 5 = .ok (.iload_n 0, 1) := by decide +kernel
theorem dX12_in_6 : decode cX12_in 6 = .ok (.iload_n 2, 1) := by decide +kernel
theorem dX12_in_7 : decode cX12_in 7 = .ok (.if_icmp .gt 7, 3) := by decide +kernel
theorem dX12_in_10 : decode cX12_in 10 = .ok (.iconst 1, 1) := by decide +kernel
theorem dX12_in_11 : decode cX12_in 11 = .ok (.goto 4, 3) := by decide +kernel
theorem dX12_in_14 : decode cX12_in 14 = .ok (.iconst 0, 1) := by decide +kernel
theorem dX12_in_15 : decode cX12_in 15 = .ok (.ireturn, 1) := by decide +kernel
theorem dX12_init_0 : decode cX12_init 0 = .ok (.aload_n 0, 1) := by decide +kernel
theorem dX12_init_1 : decode cX12_init 1 = .ok (.invokespecial 1, 3) := by decide +kernel
theorem dX12_init_4 : decode cX12_init 4 = .ok (.aload_n 0, 1) := by decide +kernel
theorem dX12_init_5 : decode cX12_init 5 = .ok (.sipush 160, 3) := by decide +kernel
theorem dX12_init_8 : decode cX12_init 8 = .ok (.newarray .int, 2) := by decide +kernel
theorem dX12_init_10 : decode cX12_init 10 = .ok (.putfield 7, 3) := by decide +kernel
theorem dX12_init_13 : decode cX12_init 13 = .ok (.aload_n 0, 1) := by decide +kernel
theorem dX12_init_14 : decode cX12_init 14 = .ok (.bipush 7, 2) := by decide +kernel
theorem dX12_init_16 : decode cX12_init 16 = .ok (.newarray .int, 2) := by decide +kernel
theorem dX12_init_18 : decode cX12_init 18 = .ok (.putfield 13, 3) := by decide +kernel
theorem dX12_init_21 : decode cX12_init 21 = .ok (.aload_n 0, 1) := by decide +kernel
theorem dX12_init_22 : decode cX12_init 22 = .ok (.bipush 7, 2) := by decide +kernel
theorem dX12_init_24 : decode cX12_init 24 = .ok (.newarray .int, 2) := by decide +kernel
theorem dX12_init_26 : decode cX12_init 26 = .ok (.putfield 16, 3) := by decide +kernel
theorem dX12_init_29 : decode cX12_init 29 = .ok (.aload_n 0, 1) := by decide +kernel
theorem dX12_init_30 : decode cX12_init 30 = .ok (.bipush 28, 2) := by decide +kernel
theorem dX12_init_32 : decode cX12_init 32 = .ok (.newarray .int, 2) := by decide +kernel
theorem dX12_init_34 : decode cX12_init 34 = .ok (.putfield 19, 3) := by decide +kernel
theorem dX12_init_37 : decode cX12_init 37 = .ok (.aload_n 0, 1) := by decide +kernel
theorem dX12_init_38 : decode cX12_init 38 = .ok (.sipush 224, 3) := by decide +kernel
theorem dX12_init_41 : decode cX12_init 41 = .ok (.newarray .int, 2) := by decide +kernel
theorem dX12_init_43 : decode cX12_init 43 = .ok (.putfield 22, 3) := by decide +kernel
theorem dX12_init_46 : decode cX12_init 46 = .ok (.aload_n 0, 1) := by decide +kernel
theorem dX12_init_47 : decode cX12_init 47 = .ok (.sipush 224, 3) := by decide +kernel
theorem dX12_init_50 : decode cX12_init 50 = .ok (.newarray .boolean, 2) := by decide +kernel
theorem dX12_init_52 : decode cX12_init 52 = .ok (.putfield 25, 3) := by decide +kernel
theorem dX12_init_55 : decode cX12_init 55 = .ok (.aload_n 0, 1) := by decide +kernel
theorem dX12_init_56 : decode cX12_init 56 = .ok (.bipush 28, 2) := by decide +kernel
theorem dX12_init_58 : decode cX12_init 58 = .ok (.newarray .int, 2) := by decide +kernel
theorem dX12_init_60 : decode cX12_init 60 = .ok (.putfield 29, 3) := by decide +kernel
theorem dX12_init_63 : decode cX12_init 63 = .ok (.aload_n 0, 1) := by decide +kernel
theorem dX12_init_64 : decode cX12_init 64 = .ok (.bipush 28, 2) := by decide +kernel
theorem dX12_init_66 : decode cX12_init 66 = .ok (.newarray .int, 2) := by decide +kernel
theorem dX12_init_68 : decode cX12_init 68 = .ok (.putfield 32, 3) := by decide +kernel
theorem dX12_init_71 : decode cX12_init 71 = .ok (.aload_n 0, 1) := by decide +kernel
theorem dX12_init_72 : decode cX12_init 72 = .ok (.bipush 28, 2) := by decide +kernel
theorem dX12_init_74 : decode cX12_init 74 = .ok (.newarray .int, 2) := by decide +kernel
theorem dX12_init_76 : decode cX12_init 76 = .ok (.putfield 35, 3) := by decide +kernel
theorem dX12_init_79 : decode cX12_init 79 = .ok (.aload_n 0, 1) := by decide +kernel
theorem dX12_init_80 : decode cX12_init 80 = .ok (.ldc 38, 2) := by decide +kernel
theorem dX12_init_82 : decode cX12_init 82 = .ok (.newarray .int, 2) := by decide +kernel
theorem dX12_init_84 : decode cX12_init 84 = .ok (.putfield 39, 3) := by decide +kernel
theorem dX12_init_87 : decode cX12_init 87 = .ok (.aload_n 0, 1) := by decide +kernel
theorem dX12_init_88 : decode cX12_init 88 = .ok (.bipush 9, 2) := by decide +kernel
theorem dX12_init_90 : decode cX12_init 90 = .ok (.newarray .int, 2) := by decide +kernel
theorem dX12_init_92 : decode cX12_init 92 = .ok (.putfield 42, 3) := by decide +kernel
theorem dX12_init_95 : decode cX12_init 95 = .ok (.aload_n 0, 1) := by decide +kernel
theorem dX12_init_96 : decode cX12_init 96 = .ok (.bipush 54, 2) := by decide +kernel
theorem dX12_init_98 : decode cX12_init 98 = .ok (.newarray .int, 2) := by decide +kernel
theorem dX12_init_100 : decode cX12_init 100 = .ok (.putfield 45, 3) := by decide +kernel
theorem dX12_init_103 : decode cX12_init 103 = .ok (.aload_n 0, 1) := by decide +kernel
theorem dX12_init_104 : decode cX12_init 104 = .ok (.bipush 54, 2) := by decide +kernel
theorem dX12_init_106 : decode cX12_init 106 = .ok (.newarray .int, 2) := by decide +kernel
theorem dX12_init_108 : decode cX12_init 108 = .ok (.putfield 48, 3) := by decide +kernel
theorem dX12_init_111 : decode cX12_init 111 = .ok (.aload_n 0, 1) := by decide +kernel
theorem dX12_init_112 : decode cX12_init 112 = .ok (.bipush 9, 2) := by decide +kernel
theorem dX12_init_114 : decode cX12_init 114 = .ok (.newarray .int, 2) := by decide +kernel
theorem dX12_init_116 : decode cX12_init 116 = .ok (.putfield 51, 3) := by decide +kernel
theorem dX12_init_119 : decode cX12_init 119 = .ok (.aload_n 0, 1) := by decide +kernel
theorem dX12_init_120 : decode cX12_init 120 = .ok (.bipush 54, 2) := by decide +kernel
theorem dX12_init_122 : decode cX12_init 122 = .ok (.newarray .int, 2) := by decide +kernel
theorem dX12_init_124 : decode cX12_init 124 = .ok (.putfield 54, 3) := by decide +kernel
theorem dX12_init_127 : decode cX12_init 127 = .ok (.aload_n 0, 1) := by decide +kernel
theorem dX12_init_128 : decode cX12_init 128 = .ok (.bipush 54, 2) := by decide +kernel
theorem dX12_init_130 : decode cX12_init 130 = .ok (.newarray .int, 2) := by decide +kernel
theorem dX12_init_132 : decode cX12_init 132 = .ok (.putfield 57, 3) := by decide +kernel
theorem dX12_init_135 : decode cX12_init 135 = .ok (.aload_n 0, 1) := by decide +kernel
theorem dX12_init_136 : decode cX12_init 136 = .ok (.bipush 9, 2) := by decide +kernel
theorem dX12_init_138 : decode cX12_init 138 = .ok (.newarray .int, 2) := by decide +kernel
theorem dX12_init_140 : decode cX12_init 140 = .ok (.putfield 60, 3) := by decide +kernel
theorem dX12_init_143 : decode cX12_init 143 = .ok (.aload_n 0, 1) := by decide +kernel
theorem dX12_init_144 : decode cX12_init 144 = .ok (.bipush 108, 2) := by decide +kernel
theorem dX12_init_146 : decode cX12_init 146 = .ok (.newarray .int, 2) := by decide +kernel
theorem dX12_init_148 : decode cX12_init 148 = .ok (.putfield 63, 3) := by decide +kernel
theorem dX12_init_151 : decode cX12_init 151 = .ok (.aload_n 0, 1) := by decide +kernel
theorem dX12_init_152 : decode cX12_init 152 = .ok (.bipush 108, 2) := by decide +kernel
theorem dX12_init_154 : decode cX12_init 154 = .ok (.newarray .int, 2) := by decide +kernel
theorem dX12_init_156 : decode cX12_init 156 = .ok (.putfield 66, 3) := by decide +kernel
theorem dX12_init_159 : decode cX12_init 159 = .ok (.aload_n 0, 1) := by decide +kernel
theorem dX12_init_160 : decode cX12_init 160 = .ok (.bipush 108, 2) := by decide +kernel
theorem dX12_init_162 : decode cX12_init 162 = .ok (.newarray .int, 2) := by decide +kernel
theorem dX12_init_164 : decode cX12_init 164 = .ok (.putfield 69, 3) := by decide +kernel
theorem dX12_init_167 : decode cX12_init 167 = .ok (.aload_n 0, 1) := by decide +kernel
theorem dX12_init_168 : decode cX12_init 168 = .ok (.bipush 9, 2) := by decide +kernel
theorem dX12_init_170 : decode cX12_init 170 = .ok (.newarray .int, 2) := by decide +kernel
theorem dX12_init_172 : decode cX12_init 172 = .ok (.putfield 72, 3) := by decide +kernel
theorem dX12_init_175 : decode cX12_init 175 = .ok (.aload_n 0, 1) := by decide +kernel
theorem dX12_init_176 : decode cX12_init 176 = .ok (.bipush 36, 2) := by decide +kernel
theorem dX12_init_178 : decode cX12_init 178 = .ok (.newarray .int, 2) := by decide +kernel
theorem dX12_init_180 : decode cX12_init 180 = .ok (.putfield 75, 3) := by decide +kernel
theorem dX12_init_183 : decode cX12_init 183 = .ok (.aload_n 0, 1) := by decide +kernel
theorem dX12_init_184 : decode cX12_init 184 = .ok (.bipush 8, 2) := by decide +kernel
theorem dX12_init_186 : decode cX12_init 186 = .ok (.newarray .int, 2) := by decide +kernel
theorem dX12_init_188 : decode cX12_init 188 = .ok (.putfield 78, 3) := by decide +kernel
theorem dX12_init_191 : decode cX12_init 191 = .ok (.aload_n 0, 1) := by decide +kernel
theorem dX12_init_192 : decode cX12_init 192 = .ok (.ldc 81, 2) := by decide +kernel
theorem dX12_init_194 : decode cX12_init 194 = .ok (.newarray .long, 2) := by decide +kernel
theorem dX12_init_196 : decode cX12_init 196 = .ok (.putfield 82, 3) := by decide +kernel
theorem dX12_init_199 : decode cX12_init 199 = .ok (.aload_n 0, 1) := by decide +kernel
theorem dX12_init_200 : decode cX12_init 200 = .ok (.bipush 117, 2) := by decide +kernel
theorem dX12_init_202 : decode cX12_init 202 = .ok (.newarray .long, 2) := by decide +kernel
theorem dX12_init_204 : decode cX12_init 204 = .ok (.putfield 86, 3) := by decide +kernel
theorem dX12_init_207 : decode cX12_init 207 = .ok (.aload_n 0, 1) := by decide +kernel
theorem dX12_init_208 : decode cX12_init 208 = .ok (.sipush 10001, 3) := by decide +kernel
theorem dX12_init_211 : decode cX12_init 211 = .ok (.newarray .int, 2) := by decide +kernel
theorem dX12_init_213 : decode cX12_init 213 = .ok (.putfield 89, 3) := by decide +kernel
theorem dX12_init_216 : decode cX12_init 216 = .ok (.aload_n 0, 1) := by decide +kernel
theorem dX12_init_217 : decode cX12_init 217 = .ok (.sipush 10001, 3) := by decide +kernel
theorem dX12_init_220 : decode cX12_init 220 = .ok (.newarray .boolean, 2) := by decide +kernel
theorem dX12_init_222 : decode cX12_init 222 = .ok (.putfield 92, 3) := by decide +kernel
theorem dX12_init_225 : decode cX12_init 225 = .ok (.aload_n 0, 1) := by decide +kernel
theorem dX12_init_226 : decode cX12_init 226 = .ok (.sipush 10000, 3) := by decide +kernel
theorem dX12_init_229 : decode cX12_init 229 = .ok (.newarray .int, 2) := by decide +kernel
theorem dX12_init_231 : decode cX12_init 231 = .ok (.putfield 95, 3) := by decide +kernel
theorem dX12_init_234 : decode cX12_init 234 = .ok (.aload_n 0, 1) := by decide +kernel
theorem dX12_init_235 : decode cX12_init 235 = .ok (.bipush 13, 2) := by decide +kernel
theorem dX12_init_237 : decode cX12_init 237 = .ok (.newarray .int, 2) := by decide +kernel
theorem dX12_init_239 : decode cX12_init 239 = .ok (.putfield 98, 3) := by decide +kernel
theorem dX12_init_242 : decode cX12_init 242 = .ok (.aload_n 0, 1) := by decide +kernel
theorem dX12_init_243 : decode cX12_init 243 = .ok (.bipush 60, 2) := by decide +kernel
theorem dX12_init_245 : decode cX12_init 245 = .ok (.newarray .int, 2) := by decide +kernel
theorem dX12_init_247 : decode cX12_init 247 = .ok (.putfield 101, 3) := by decide +kernel
theorem dX12_init_250 : decode cX12_init 250 = .ok (.aload_n 0, 1) := by decide +kernel
theorem dX12_init_251 : decode cX12_init 251 = .ok (.bipush 60, 2) := by decide +kernel
theorem dX12_init_253 : decode cX12_init 253 = .ok (.newarray .int, 2) := by decide +kernel
theorem dX12_init_255 : decode cX12_init 255 = .ok (.putfield 104, 3) := by decide +kernel
theorem dX12_init_258 : decode cX12_init 258 = .ok (.aload_n 0, 1) := by decide +kernel
theorem dX12_init_259 : decode cX12_init 259 = .ok (.bipush 60, 2) := by decide +kernel
theorem dX12_init_261 : decode cX12_init 261 = .ok (.newarray .int, 2) := by decide +kernel
theorem dX12_init_263 : decode cX12_init 263 = .ok (.putfield 107, 3) := by decide +kernel
theorem dX12_init_266 : decode cX12_init 266 = .ok (.aload_n 0, 1) := by decide +kernel
theorem dX12_init_267 : decode cX12_init 267 = .ok (.bipush 60, 2) := by decide +kernel
theorem dX12_init_269 : decode cX12_init 269 = .ok (.newarray .int, 2) := by decide +kernel
theorem dX12_init_271 : decode cX12_init 271 = .ok (.putfield 110, 3) := by decide +kernel
theorem dX12_init_274 : decode cX12_init 274 = .ok (.aload_n 0, 1) := by decide +kernel
theorem dX12_init_275 : decode cX12_init 275 = .ok (.bipush 60, 2) := by decide +kernel
theorem dX12_init_277 : decode cX12_init 277 = .ok (.newarray .int, 2) := by decide +kernel
theorem dX12_init_279 : decode cX12_init 279 = .ok (.putfield 113, 3) := by decide +kernel
theorem dX12_init_282 : decode cX12_init 282 = .ok (.aload_n 0, 1) := by decide +kernel
theorem dX12_init_283 : decode cX12_init 283 = .ok (.bipush 60, 2) := by decide +kernel
theorem dX12_init_285 : decode cX12_init 285 = .ok (.newarray .int, 2) := by decide +kernel
theorem dX12_init_287 : decode cX12_init 287 = .ok (.putfield 116, 3) := by decide +kernel
theorem dX12_init_290 : decode cX12_init 290 = .ok (.aload_n 0, 1) := by decide +kernel
theorem dX12_init_291 : decode cX12_init 291 = .ok (.bipush 60, 2) := by decide +kernel
theorem dX12_init_293 : decode cX12_init 293 = .ok (.newarray .int, 2) := by decide +kernel
theorem dX12_init_295 : decode cX12_init 295 = .ok (.putfield 119, 3) := by decide +kernel
theorem dX12_init_298 : decode cX12_init 298 = .ok (.aload_n 0, 1) := by decide +kernel
theorem dX12_init_299 : decode cX12_init 299 = .ok (.bipush 8, 2) := by decide +kernel
theorem dX12_init_301 : decode cX12_init 301 = .ok (.newarray .int, 2) := by decide +kernel
theorem dX12_init_303 : decode cX12_init 303 = .ok (.putfield 122, 3) := by decide +kernel
theorem dX12_init_306 : decode cX12_init 306 = .ok (.aload_n 0, 1) := by decide +kernel
theorem dX12_init_307 : decode cX12_init 307 = .ok (.bipush 8, 2) := by decide +kernel
theorem dX12_init_309 : decode cX12_init 309 = .ok (.newarray .int, 2) := by decide +kernel
theorem dX12_init_311 : decode cX12_init 311 = .ok (.putfield 125, 3) := by decide +kernel
theorem dX12_init_314 : decode cX12_init 314 = .ok (.aload_n 0, 1) := by decide +kernel
theorem dX12_init_315 : decode cX12_init 315 = .ok (.bipush 8, 2) := by decide +kernel
theorem dX12_init_317 : decode cX12_init 317 = .ok (.newarray .int, 2) := by decide +kernel
theorem dX12_init_319 : decode cX12_init 319 = .ok (.putfield 128, 3) := by decide +kernel
theorem dX12_init_322 : decode cX12_init 322 = .ok (.aload_n 0, 1) := by decide +kernel
theorem dX12_init_323 : decode cX12_init 323 = .ok (.bipush 8, 2) := by decide +kernel
theorem dX12_init_325 : decode cX12_init 325 = .ok (.newarray .int, 2) := by decide +kernel
theorem dX12_init_327 : decode cX12_init 327 = .ok (.putfield 131, 3) := by decide +kernel
theorem dX12_init_330 : decode cX12_init 330 = .ok (.aload_n 0, 1) := by decide +kernel
theorem dX12_init_331 : decode cX12_init 331 = .ok (.bipush 14, 2) := by decide +kernel
theorem dX12_init_333 : decode cX12_init 333 = .ok (.newarray .int, 2) := by decide +kernel
theorem dX12_init_335 : decode cX12_init 335 = .ok (.putfield 134, 3) := by decide +kernel
theorem dX12_init_338 : decode cX12_init 338 = .ok (.aload_n 0, 1) := by decide +kernel
theorem dX12_init_339 : decode cX12_init 339 = .ok (.iconst (-1), 1) := by decide +kernel
theorem dX12_init_340 : decode cX12_init 340 = .ok (.putfield 137, 3) := by decide +kernel
theorem dX12_init_343 : decode cX12_init 343 = .ok (.aload_n 0, 1) := by decide +kernel
theorem dX12_init_344 : decode cX12_init 344 = .ok (.bipush 30, 2) := by decide +kernel
theorem dX12_init_346 : decode cX12_init 346 = .ok (.newarray .int, 2) := by decide +kernel
theorem dX12_init_348 : decode cX12_init 348 = .ok (.putfield 141, 3) := by decide +kernel
theorem dX12_init_351 : decode cX12_init 351 = .ok (.aload_n 0, 1) := by decide +kernel
theorem dX12_init_352 : decode cX12_init 352 = .ok (.bipush 30, 2) := by decide +kernel
theorem dX12_init_354 : decode cX12_init 354 = .ok (.newarray .int, 2) := by decide +kernel
theorem dX12_init_356 : decode cX12_init 356 = .ok (.putfield 144, 3) := by decide +kernel
theorem dX12_init_359 : decode cX12_init 359 = .ok (.aload_n 0, 1) := by decide +kernel
theorem dX12_init_360 : decode cX12_init 360 = .ok (.sipush 160, 3) := by decide +kernel
theorem dX12_init_363 : decode cX12_init 363 = .ok (.newarray .int, 2) := by decide +kernel
theorem dX12_init_365 : decode cX12_init 365 = .ok (.putfield 147, 3) := by decide +kernel
theorem dX12_init_368 : decode cX12_init 368 = .ok (.aload_n 0, 1) := by decide +kernel
theorem dX12_init_369 : decode cX12_init 369 = .ok (.sipush 160, 3) := by decide +kernel
theorem dX12_init_372 : decode cX12_init 372 = .ok (.newarray .int, 2) := by decide +kernel
theorem dX12_init_374 : decode cX12_init 374 = .ok (.putfield 150, 3) := by decide +kernel
theorem dX12_init_377 : decode cX12_init 377 = .ok (.aload_n 0, 1) := by decide +kernel
theorem dX12_init_378 : decode cX12_init 378 = .ok (.sipush 160, 3) := by decide +kernel
theorem dX12_init_381 : decode cX12_init 381 = .ok (.newarray .int, 2) := by decide +kernel
theorem dX12_init_383 : decode cX12_init 383 = .ok (.putfield 153, 3) := by decide +kernel
theorem dX12_init_386 : decode cX12_init 386 = .ok (.return_, 1) := by decide +kernel
theorem dX12_thrown_0 : decode cX12_thrown 0 = .ok (.aload_n 0, 1) := by decide +kernel
theorem dX12_thrown_1 : decode cX12_thrown 1 = .ok (.getfield 156, 3) := by decide +kernel
theorem dX12_thrown_4 : decode cX12_thrown 4 = .ok (.ireturn, 1) := by decide +kernel
theorem dX12_byteOf_0 : decode cX12_byteOf 0 = .ok (.iload 5, 2) := by decide +kernel
theorem dX12_byteOf_2 : decode cX12_byteOf 2 = .ok (.iconst 4, 1) := by decide +kernel
theorem dX12_byteOf_3 : decode cX12_byteOf 3 = .ok (.if_icmp .ge 7, 3) := by decide +kernel
theorem dX12_byteOf_6 : decode cX12_byteOf 6 = .ok (.iload_n 0, 1) := by decide +kernel
theorem dX12_byteOf_7 : decode cX12_byteOf 7 = .ok (.goto 38, 3) := by decide +kernel
theorem dX12_byteOf_10 : decode cX12_byteOf 10 = .ok (.iload 5, 2) := by decide +kernel
theorem dX12_byteOf_12 : decode cX12_byteOf 12 = .ok (.bipush 8, 2) := by decide +kernel
theorem dX12_byteOf_14 : decode cX12_byteOf 14 = .ok (.if_icmp .ge 7, 3) := by decide +kernel
theorem dX12_byteOf_17 : decode cX12_byteOf 17 = .ok (.iload_n 1, 1) := by decide +kernel
theorem dX12_byteOf_18 : decode cX12_byteOf 18 = .ok (.goto 27, 3) := by decide +kernel
theorem dX12_byteOf_21 : decode cX12_byteOf 21 = .ok (.iload 5, 2) := by decide +kernel
theorem dX12_byteOf_23 : decode cX12_byteOf 23 = .ok (.bipush 12, 2) := by decide +kernel
theorem dX12_byteOf_25 : decode cX12_byteOf 25 = .ok (.if_icmp .ge 7, 3) := by decide +kernel
theorem dX12_byteOf_28 : decode cX12_byteOf 28 = .ok (.iload_n 2, 1) := by decide +kernel
theorem dX12_byteOf_29 : decode cX12_byteOf 29 = .ok (.goto 16, 3) := by decide +kernel
theorem dX12_byteOf_32 : decode cX12_byteOf 32 = .ok (.iload 5, 2) := by decide +kernel
theorem dX12_byteOf_34 : decode cX12_byteOf 34 = .ok (.bipush 16, 2) := by decide +kernel
theorem dX12_byteOf_36 : decode cX12_byteOf 36 = .ok (.if_icmp .ge 7, 3) := by decide +kernel
theorem dX12_byteOf_39 : decode cX12_byteOf 39 = .ok (.iload_n 3, 1) := by decide +kernel
theorem dX12_byteOf_40 : decode cX12_byteOf 40 = .ok (.goto 5, 3) := by decide +kernel
theorem dX12_byteOf_43 : decode cX12_byteOf 43 = .ok (.iload 4, 2) := by decide +kernel
theorem dX12_byteOf_45 : decode cX12_byteOf 45 = .ok (.istore 6, 2) := by decide +kernel
theorem dX12_byteOf_47 : decode cX12_byteOf 47 = .ok (.iload 6, 2) := by decide +kernel
theorem dX12_byteOf_49 : decode cX12_byteOf 49 = .ok (.bipush 24, 2) := by decide +kernel
theorem dX12_byteOf_51 : decode cX12_byteOf 51 = .ok (.bipush 8, 2) := by decide +kernel
theorem dX12_byteOf_53 : decode cX12_byteOf 53 = .ok (.iload 5, 2) := by decide +kernel
theorem dX12_byteOf_55 : decode cX12_byteOf 55 = .ok (.iconst 4, 1) := by decide +kernel
theorem dX12_byteOf_56 : decode cX12_byteOf 56 = .ok (.irem, 1) := by decide +kernel
theorem dX12_byteOf_57 : decode cX12_byteOf 57 = .ok (.imul, 1) := by decide +kernel
theorem dX12_byteOf_58 : decode cX12_byteOf 58 = .ok (.isub, 1) := by decide +kernel
theorem dX12_byteOf_59 : decode cX12_byteOf 59 = .ok (.ishr, 1) := by decide +kernel
theorem dX12_byteOf_60 : decode cX12_byteOf 60 = .ok (.sipush 255, 3) := by decide +kernel
theorem dX12_byteOf_63 : decode cX12_byteOf 63 = .ok (.iand, 1) := by decide +kernel
theorem dX12_byteOf_64 : decode cX12_byteOf 64 = .ok (.ireturn, 1) := by decide +kernel
theorem dX12_feed_0 : decode cX12_feed 0 = .ok (.iconst 0, 1) := by decide +kernel
theorem dX12_feed_1 : decode cX12_feed 1 = .ok (.istore 6, 2) := by decide +kernel
theorem dX12_feed_3 : decode cX12_feed 3 = .ok (.iconst 0, 1) := by decide +kernel
theorem dX12_feed_4 : decode cX12_feed 4 = .ok (.istore 7, 2) := by decide +kernel
theorem dX12_feed_6 : decode cX12_feed 6 = .ok (.iload 7, 2) := by decide +kernel
theorem dX12_feed_8 : decode cX12_feed 8 = .ok (.bipush 20, 2) := by decide +kernel
theorem dX12_feed_10 : decode cX12_feed 10 = .ok (.if_icmp .ge 34, 3) := by decide +kernel
theorem dX12_feed_13 : decode cX12_feed 13 = .ok (.iload 6, 2) := by decide +kernel
theorem dX12_feed_15 : decode cX12_feed 15 = .ok (.iload_n 1, 1) := by decide +kernel
theorem dX12_feed_16 : decode cX12_feed 16 = .ok (.iload_n 2, 1) := by decide +kernel
theorem dX12_feed_17 : decode cX12_feed 17 = .ok (.iload_n 3, 1) := by decide +kernel
theorem dX12_feed_18 : decode cX12_feed 18 = .ok (.iload 4, 2) := by decide +kernel
theorem dX12_feed_20 : decode cX12_feed 20 = .ok (.iload 5, 2) := by decide +kernel
theorem dX12_feed_22 : decode cX12_feed 22 = .ok (.iload 7, 2) := by decide +kernel
theorem dX12_feed_24 : decode cX12_feed 24 = .ok (.invokestatic 159, 3) := by decide +kernel
theorem dX12_feed_27 : decode cX12_feed 27 = .ok (.ifCond .eq 7, 3) := by decide +kernel
theorem dX12_feed_30 : decode cX12_feed 30 = .ok (.iconst 1, 1) := by decide +kernel
theorem dX12_feed_31 : decode cX12_feed 31 = .ok (.goto 4, 3) := by decide +kernel
theorem dX12_feed_34 : decode cX12_feed 34 = .ok (.iconst 0, 1) := by decide +kernel
theorem dX12_feed_35 : decode cX12_feed 35 = .ok (.iadd, 1) := by decide +kernel
theorem dX12_feed_36 : decode cX12_feed 36 = .ok (.istore 6, 2) := by decide +kernel
theorem dX12_feed_38 : decode cX12_feed 38 = .ok (.iinc 7 1, 3) := by decide +kernel
theorem dX12_feed_41 : decode cX12_feed 41 = .ok (.goto (-35), 3) := by decide +kernel
theorem dX12_feed_44 : decode cX12_feed 44 = .ok (.aload_n 0, 1) := by decide +kernel
theorem dX12_feed_45 : decode cX12_feed 45 = .ok (.getfield 163, 3) := by decide +kernel
theorem dX12_feed_48 : decode cX12_feed 48 = .ok (.iload 6, 2) := by decide +kernel
theorem dX12_feed_50 : decode cX12_feed 50 = .ok (.iadd, 1) := by decide +kernel
theorem dX12_feed_51 : decode cX12_feed 51 = .ok (.sipush 160, 3) := by decide +kernel
theorem dX12_feed_54 : decode cX12_feed 54 = .ok (.if_icmp .le 5, 3) := by decide +kernel
theorem dX12_feed_57 : decode cX12_feed 57 = .ok (.iconst (-1), 1) := by decide +kernel
theorem dX12_feed_58 : decode cX12_feed 58 = .ok (.ireturn, 1) := by decide +kernel
theorem dX12_feed_59 : decode cX12_feed 59 = .ok (.iconst 0, 1) := by decide +kernel
theorem dX12_feed_60 : decode cX12_feed 60 = .ok (.istore 7, 2) := by decide +kernel
theorem dX12_feed_62 : decode cX12_feed 62 = .ok (.iload 7, 2) := by decide +kernel
theorem dX12_feed_64 : decode cX12_feed 64 = .ok (.bipush 20, 2) := by decide +kernel
theorem dX12_feed_66 : decode cX12_feed 66 = .ok (.if_icmp .ge 49, 3) := by decide +kernel
theorem dX12_feed_69 : decode cX12_feed 69 = .ok (.iload_n 1, 1) := by decide +kernel
theorem dX12_feed_70 : decode cX12_feed 70 = .ok (.iload_n 2, 1) := by decide +kernel
theorem dX12_feed_71 : decode cX12_feed 71 = .ok (.iload_n 3, 1) := by decide +kernel
theorem dX12_feed_72 : decode cX12_feed 72 = .ok (.iload 4, 2) := by decide +kernel
theorem dX12_feed_74 : decode cX12_feed 74 = .ok (.iload 5, 2) := by decide +kernel
theorem dX12_feed_76 : decode cX12_feed 76 = .ok (.iload 7, 2) := by decide +kernel
theorem dX12_feed_78 : decode cX12_feed 78 = .ok (.invokestatic 159, 3) := by decide +kernel
theorem dX12_feed_81 : decode cX12_feed 81 = .ok (.istore 8, 2) := by decide +kernel
theorem dX12_feed_83 : decode cX12_feed 83 = .ok (.iload 8, 2) := by decide +kernel
theorem dX12_feed_85 : decode cX12_feed 85 = .ok (.ifCond .eq 24, 3) := by decide +kernel
theorem dX12_feed_88 : decode cX12_feed 88 = .ok (.aload_n 0, 1) := by decide +kernel
theorem dX12_feed_89 : decode cX12_feed 89 = .ok (.getfield 7, 3) := by decide +kernel
theorem dX12_feed_92 : decode cX12_feed 92 = .ok (.aload_n 0, 1) := by decide +kernel
theorem dX12_feed_93 : decode cX12_feed 93 = .ok (.getfield 163, 3) := by decide +kernel
theorem dX12_feed_96 : decode cX12_feed 96 = .ok (.iload 8, 2) := by decide +kernel
theorem dX12_feed_98 : decode cX12_feed 98 = .ok (.iastore, 1) := by decide +kernel
theorem dX12_feed_99 : decode cX12_feed 99 = .ok (.aload_n 0, 1) := by decide +kernel
theorem dX12_feed_100 : decode cX12_feed 100 = .ok (.dup, 1) := by decide +kernel
theorem dX12_feed_101 : decode cX12_feed 101 = .ok (.getfield 163, 3) := by decide +kernel
theorem dX12_feed_104 : decode cX12_feed 104 = .ok (.iconst 1, 1) := by decide +kernel
theorem dX12_feed_105 : decode cX12_feed 105 = .ok (.iadd, 1) := by decide +kernel
theorem dX12_feed_106 : decode cX12_feed 106 = .ok (.putfield 163, 3) := by decide +kernel
theorem dX12_feed_109 : decode cX12_feed 109 = .ok (.iinc 7 1, 3) := by decide +kernel
theorem dX12_feed_112 : decode cX12_feed 112 = .ok (.goto (-50), 3) := by decide +kernel
theorem dX12_feed_115 : decode cX12_feed 115 = .ok (.aload_n 0, 1) := by decide +kernel
theorem dX12_feed_116 : decode cX12_feed 116 = .ok (.getfield 163, 3) := by decide +kernel
theorem dX12_feed_119 : decode cX12_feed 119 = .ok (.ireturn, 1) := by decide +kernel
theorem dX12_end_0 : decode cX12_end 0 = .ok (.iload_n 1, 1) := by decide +kernel
theorem dX12_end_1 : decode cX12_end 1 = .ok (.ifCond .lt 11, 3) := by decide +kernel
theorem dX12_end_4 : decode cX12_end 4 = .ok (.iload_n 1, 1) := by decide +kernel
theorem dX12_end_5 : decode cX12_end 5 = .ok (.aload_n 0, 1) := by decide +kernel
theorem dX12_end_6 : decode cX12_end 6 = .ok (.getfield 163, 3) := by decide +kernel
theorem dX12_end_9 : decode cX12_end 9 = .ok (.if_icmp .le 5, 3) := by decide +kernel
theorem dX12_end_12 : decode cX12_end 12 = .ok (.iconst 0, 1) := by decide +kernel
theorem dX12_end_13 : decode cX12_end 13 = .ok (.ireturn, 1) := by decide +kernel
theorem dX12_end_14 : decode cX12_end 14 = .ok (.aload_n 0, 1) := by decide +kernel
theorem dX12_end_15 : decode cX12_end 15 = .ok (.iload_n 1, 1) := by decide +kernel
theorem dX12_end_16 : decode cX12_end 16 = .ok (.putfield 163, 3) := by decide +kernel
theorem dX12_end_19 : decode cX12_end 19 = .ok (.iconst 1, 1) := by decide +kernel
theorem dX12_end_20 : decode cX12_end 20 = .ok (.ireturn, 1) := by decide +kernel
theorem dX12_here_0 : decode cX12_here 0 = .ok (.aload_n 0, 1) := by decide +kernel
theorem dX12_here_1 : decode cX12_here 1 = .ok (.getfield 166, 3) := by decide +kernel
theorem dX12_here_4 : decode cX12_here 4 = .ok (.aload_n 0, 1) := by decide +kernel
theorem dX12_here_5 : decode cX12_here 5 = .ok (.getfield 163, 3) := by decide +kernel
theorem dX12_here_8 : decode cX12_here 8 = .ok (.if_icmp .ge 15, 3) := by decide +kernel
theorem dX12_here_11 : decode cX12_here 11 = .ok (.aload_n 0, 1) := by decide +kernel
theorem dX12_here_12 : decode cX12_here 12 = .ok (.getfield 7, 3) := by decide +kernel
theorem dX12_here_15 : decode cX12_here 15 = .ok (.aload_n 0, 1) := by decide +kernel
theorem dX12_here_16 : decode cX12_here 16 = .ok (.getfield 166, 3) := by decide +kernel
theorem dX12_here_19 : decode cX12_here 19 = .ok (.iaload, 1) := by decide +kernel
theorem dX12_here_20 : decode cX12_here 20 = .ok (.goto 4, 3) := by decide +kernel
theorem dX12_here_23 : decode cX12_here 23 = .ok (.iconst (-1), 1) := by decide +kernel
theorem dX12_here_24 : decode cX12_here 24 = .ok (.ireturn, 1) := by decide +kernel
theorem dX12_look_0 : decode cX12_look 0 = .ok (.aload_n 0, 1) := by decide +kernel
theorem dX12_look_1 : decode cX12_look 1 = .ok (.invokevirtual 169, 3) := by decide +kernel
theorem dX12_look_4 : decode cX12_look 4 = .ok (.bipush 32, 2) := by decide +kernel
theorem dX12_look_6 : decode cX12_look 6 = .ok (.if_icmp .ne 16, 3) := by decide +kernel
theorem dX12_look_9 : decode cX12_look 9 = .ok (.aload_n 0, 1) := by decide +kernel
theorem dX12_look_10 : decode cX12_look 10 = .ok (.dup, 1) := by decide +kernel
theorem dX12_look_11 : decode cX12_look 11 = .ok (.getfield 166, 3) := by decide +kernel
theorem dX12_look_14 : decode cX12_look 14 = .ok (.iconst 1, 1) := by decide +kernel
theorem dX12_look_15 : decode cX12_look 15 = .ok (.iadd, 1) := by decide +kernel
theorem dX12_look_16 : decode cX12_look 16 = .ok (.putfield 166, 3) := by decide +kernel
theorem dX12_look_19 : decode cX12_look 19 = .ok (.goto (-19), 3) := by decide +kernel
theorem dX12_look_22 : decode cX12_look 22 = .ok (.aload_n 0, 1) := by decide +kernel
theorem dX12_look_23 : decode cX12_look 23 = .ok (.invokevirtual 169, 3) := by decide +kernel
theorem dX12_look_26 : decode cX12_look 26 = .ok (.ireturn, 1) := by decide +kernel
theorem dX12_bad_0 : decode cX12_bad 0 = .ok (.aload_n 0, 1) := by decide +kernel
theorem dX12_bad_1 : decode cX12_bad 1 = .ok (.aload_n 0, 1) := by decide +kernel
theorem dX12_bad_2 : decode cX12_bad 2 = .ok (.getfield 173, 3) := by decide +kernel
theorem dX12_bad_5 : decode cX12_bad 5 = .ok (.iconst (-1), 1) := by decide +kernel
theorem dX12_bad_6 : decode cX12_bad 6 = .ok (.if_icmp .ne 10, 3) := by decide +kernel
theorem dX12_bad_9 : decode cX12_bad 9 = .ok (.aload_n 0, 1) := by decide +kernel
theorem dX12_bad_10 : decode cX12_bad 10 = .ok (.getfield 166, 3) := by decide +kernel
theorem dX12_bad_13 : decode cX12_bad 13 = .ok (.goto 7, 3) := by decide +kernel
theorem dX12_bad_16 : decode cX12_bad 16 = .ok (.aload_n 0, 1) := by decide +kernel
theorem dX12_bad_17 : decode cX12_bad 17 = .ok (.getfield 173, 3) := by decide +kernel
theorem dX12_bad_20 : decode cX12_bad 20 = .ok (.putfield 173, 3) := by decide +kernel
theorem dX12_bad_23 : decode cX12_bad 23 = .ok (.return_, 1) := by decide +kernel
theorem dX12_isDigit_0 : decode cX12_isDigit 0 = .ok (.iload_n 0, 1) := by decide +kernel
theorem dX12_isDigit_1 : decode cX12_isDigit 1 = .ok (.bipush 48, 2) := by decide +kernel
theorem dX12_isDigit_3 : decode cX12_isDigit 3 = .ok (.if_icmp .lt 13, 3) := by decide +kernel
theorem dX12_isDigit_6 : decode cX12_isDigit 6 = .ok (.iload_n 0, 1) := by decide +kernel
theorem dX12_isDigit_7 : decode cX12_isDigit 7 = .ok (.bipush 57, 2) := by decide +kernel
theorem dX12_isDigit_9 : decode cX12_isDigit 9 = .ok (.if_icmp .gt 7, 3) := by decide +kernel
theorem dX12_isDigit_12 : decode cX12_isDigit 12 = .ok (.iconst 1, 1) := by decide +kernel
theorem dX12_isDigit_13 : decode cX12_isDigit 13 = .ok (.goto 4, 3) := by decide +kernel
theorem dX12_isDigit_16 : decode cX12_isDigit 16 = .ok (.iconst 0, 1) := by decide +kernel
theorem dX12_isDigit_17 : decode cX12_isDigit 17 = .ok (.ireturn, 1) := by decide +kernel
theorem dX12_sign_0 : decode cX12_sign 0 = .ok (.aload_n 0, 1) := by decide +kernel
theorem dX12_sign_1 : decode cX12_sign 1 = .ok (.getfield 173, 3) := by decide +kernel
theorem dX12_sign_4 : decode cX12_sign 4 = .ok (.iconst (-1), 1) := by decide +kernel
theorem dX12_sign_5 : decode cX12_sign 5 = .ok (.if_icmp .ne 15, 3) := by decide +kernel
theorem dX12_sign_8 : decode cX12_sign 8 = .ok (.aload_n 0, 1) := by decide +kernel
theorem dX12_sign_9 : decode cX12_sign 9 = .ok (.invokevirtual 176, 3) := by decide +kernel
theorem dX12_sign_12 : decode cX12_sign 12 = .ok (.iload_n 1, 1) := by decide +kernel
theorem dX12_sign_13 : decode cX12_sign 13 = .ok (.if_icmp .eq 7, 3) := by decide +kernel
theorem dX12_sign_16 : decode cX12_sign 16 = .ok (.aload_n 0, 1) := by decide +kernel
theorem dX12_sign_17 : decode cX12_sign 17 = .ok (.invokevirtual 179, 3) := by decide +kernel
theorem dX12_sign_20 : decode cX12_sign 20 = .ok (.aload_n 0, 1) := by decide +kernel
theorem dX12_sign_21 : decode cX12_sign 21 = .ok (.dup, 1) := by decide +kernel
theorem dX12_sign_22 : decode cX12_sign 22 = .ok (.getfield 166, 3) := by decide +kernel
theorem dX12_sign_25 : decode cX12_sign 25 = .ok (.iconst 1, 1) := by decide +kernel
theorem dX12_sign_26 : decode cX12_sign 26 = .ok (.iadd, 1) := by decide +kernel
theorem dX12_sign_27 : decode cX12_sign 27 = .ok (.putfield 166, 3) := by decide +kernel
theorem dX12_sign_30 : decode cX12_sign 30 = .ok (.return_, 1) := by decide +kernel
theorem dX12_number_0 : decode cX12_number 0 = .ok (.aload_n 0, 1) := by decide +kernel
theorem dX12_number_1 : decode cX12_number 1 = .ok (.getfield 173, 3) := by decide +kernel
theorem dX12_number_4 : decode cX12_number 4 = .ok (.iconst (-1), 1) := by decide +kernel
theorem dX12_number_5 : decode cX12_number 5 = .ok (.if_icmp .ne 13, 3) := by decide +kernel
theorem dX12_number_8 : decode cX12_number 8 = .ok (.aload_n 0, 1) := by decide +kernel
theorem dX12_number_9 : decode cX12_number 9 = .ok (.invokevirtual 176, 3) := by decide +kernel
theorem dX12_number_12 : decode cX12_number 12 = .ok (.invokestatic 182, 3) := by decide +kernel
theorem dX12_number_15 : decode cX12_number 15 = .ok (.ifCond .ne 9, 3) := by decide +kernel
theorem dX12_number_18 : decode cX12_number 18 = .ok (.aload_n 0, 1) := by decide +kernel
theorem dX12_number_19 : decode cX12_number 19 = .ok (.invokevirtual 179, 3) := by decide +kernel
theorem dX12_number_22 : decode cX12_number 22 = .ok (.iload_n 1, 1) := by decide +kernel
theorem dX12_number_23 : decode cX12_number 23 = .ok (.ireturn, 1) := by decide +kernel
theorem dX12_number_24 : decode cX12_number 24 = .ok (.iconst 0, 1) := by decide +kernel
theorem dX12_number_25 : decode cX12_number 25 = .ok (.istore_n 3, 1) := by decide +kernel
theorem dX12_number_26 : decode cX12_number 26 = .ok (.iconst 0, 1) := by decide +kernel
theorem dX12_number_27 : decode cX12_number 27 = .ok (.istore 4, 2) := by decide +kernel
theorem dX12_number_29 : decode cX12_number 29 = .ok (.iload 4, 2) := by decide +kernel
theorem dX12_number_31 : decode cX12_number 31 = .ok (.iconst 4, 1) := by decide +kernel
theorem dX12_number_32 : decode cX12_number 32 = .ok (.if_icmp .ge 42, 3) := by decide +kernel
theorem dX12_number_35 : decode cX12_number 35 = .ok (.aload_n 0, 1) := by decide +kernel
theorem dX12_number_36 : decode cX12_number 36 = .ok (.invokevirtual 169, 3) := by decide +kernel
theorem dX12_number_39 : decode cX12_number 39 = .ok (.invokestatic 182, 3) := by decide +kernel
theorem dX12_number_42 : decode cX12_number 42 = .ok (.ifCond .eq 32, 3) := by decide +kernel
theorem dX12_number_45 : decode cX12_number 45 = .ok (.bipush 10, 2) := by decide +kernel
theorem dX12_number_47 : decode cX12_number 47 = .ok (.iload_n 3, 1) := by decide +kernel
theorem dX12_number_48 : decode cX12_number 48 = .ok (.imul, 1) := by decide +kernel
theorem dX12_number_49 : decode cX12_number 49 = .ok (.aload_n 0, 1) := by decide +kernel
theorem dX12_number_50 : decode cX12_number 50 = .ok (.invokevirtual 169, 3) := by decide +kernel
theorem dX12_number_53 : decode cX12_number 53 = .ok (.iadd, 1) := by decide +kernel
theorem dX12_number_54 : decode cX12_number 54 = .ok (.bipush 48, 2) := by decide +kernel
theorem dX12_number_56 : decode cX12_number 56 = .ok (.isub, 1) := by decide +kernel
theorem dX12_number_57 : decode cX12_number 57 = .ok (.istore_n 3, 1) := by decide +kernel
theorem dX12_number_58 : decode cX12_number 58 = .ok (.aload_n 0, 1) := by decide +kernel
theorem dX12_number_59 : decode cX12_number 59 = .ok (.dup, 1) := by decide +kernel
theorem dX12_number_60 : decode cX12_number 60 = .ok (.getfield 166, 3) := by decide +kernel
theorem dX12_number_63 : decode cX12_number 63 = .ok (.iconst 1, 1) := by decide +kernel
theorem dX12_number_64 : decode cX12_number 64 = .ok (.iadd, 1) := by decide +kernel
theorem dX12_number_65 : decode cX12_number 65 = .ok (.putfield 166, 3) := by decide +kernel
theorem dX12_number_68 : decode cX12_number 68 = .ok (.iinc 4 1, 3) := by decide +kernel
theorem dX12_number_71 : decode cX12_number 71 = .ok (.goto (-42), 3) := by decide +kernel
theorem dX12_number_74 : decode cX12_number 74 = .ok (.aload_n 0, 1) := by decide +kernel
theorem dX12_number_75 : decode cX12_number 75 = .ok (.invokevirtual 169, 3) := by decide +kernel
theorem dX12_number_78 : decode cX12_number 78 = .ok (.invokestatic 182, 3) := by decide +kernel
theorem dX12_number_81 : decode cX12_number 81 = .ok (.ifCond .eq 10, 3) := by decide +kernel
theorem dX12_number_84 : decode cX12_number 84 = .ok (.aload_n 0, 1) := by decide +kernel
theorem dX12_number_85 : decode cX12_number 85 = .ok (.invokevirtual 179, 3) := by decide +kernel
theorem dX12_number_88 : decode cX12_number 88 = .ok (.goto 16, 3) := by decide +kernel
theorem dX12_number_91 : decode cX12_number 91 = .ok (.iload_n 3, 1) := by decide +kernel
theorem dX12_number_92 : decode cX12_number 92 = .ok (.iload_n 1, 1) := by decide +kernel
theorem dX12_number_93 : decode cX12_number 93 = .ok (.iload_n 2, 1) := by decide +kernel
theorem dX12_number_94 : decode cX12_number 94 = .ok (.invokestatic 186, 3) := by decide +kernel
theorem dX12_number_97 : decode cX12_number 97 = .ok (.ifCond .ne 7, 3) := by decide +kernel
theorem dX12_number_100 : decode cX12_number 100 = .ok (.aload_n 0, 1) := by decide +kernel
theorem dX12_number_101 : decode cX12_number 101 = .ok (.invokevirtual 190, 3) := by decide +kernel
theorem dX12_number_104 : decode cX12_number 104 = .ok (.iload_n 3, 1) := by decide +kernel
theorem dX12_number_105 : decode cX12_number 105 = .ok (.ireturn, 1) := by decide +kernel
theorem dX12_wrongAtLast_0 : decode cX12_wrongAtLast 0 = .ok (.aload_n 0, 1) := by decide +kernel
theorem dX12_wrongAtLast_1 : decode cX12_wrongAtLast 1 = .ok (.aload_n 0, 1) := by decide +kernel
theorem dX12_wrongAtLast_2 : decode cX12_wrongAtLast 2 = .ok (.getfield 173, 3) := by decide +kernel
theorem dX12_wrongAtLast_5 : decode cX12_wrongAtLast 5 = .ok (.iconst (-1), 1) := by decide +kernel
theorem dX12_wrongAtLast_6 : decode cX12_wrongAtLast 6 = .ok (.if_icmp .ne 12, 3) := by decide +kernel
theorem dX12_wrongAtLast_9 : decode cX12_wrongAtLast 9 = .ok (.aload_n 0, 1) := by decide +kernel
theorem dX12_wrongAtLast_10 : decode cX12_wrongAtLast 10 = .ok (.getfield 166, 3) := by decide +kernel
theorem dX12_wrongAtLast_13 : decode cX12_wrongAtLast 13 = .ok (.iconst 1, 1) := by decide +kernel
theorem dX12_wrongAtLast_14 : decode cX12_wrongAtLast 14 = .ok (.isub, 1) := by decide +kernel
theorem dX12_wrongAtLast_15 : decode cX12_wrongAtLast 15 = .ok (.goto 7, 3) := by decide +kernel
theorem dX12_wrongAtLast_18 : decode cX12_wrongAtLast 18 = .ok (.aload_n 0, 1) := by decide +kernel
theorem dX12_wrongAtLast_19 : decode cX12_wrongAtLast 19 = .ok (.getfield 173, 3) := by decide +kernel
theorem dX12_wrongAtLast_22 : decode cX12_wrongAtLast 22 = .ok (.putfield 173, 3) := by decide +kernel
theorem dX12_wrongAtLast_25 : decode cX12_wrongAtLast 25 = .ok (.return_, 1) := by decide +kernel
theorem dX12_closeNumber_0 : decode cX12_closeNumber 0 = .ok (.aload_n 0, 1) := by decide +kernel
theorem dX12_closeNumber_1 : decode cX12_closeNumber 1 = .ok (.getfield 173, 3) := by decide +kernel
theorem dX12_closeNumber_4 : decode cX12_closeNumber 4 = .ok (.iconst (-1), 1) := by decide +kernel
theorem dX12_closeNumber_5 : decode cX12_closeNumber 5 = .ok (.if_icmp .ne 17, 3) := by decide +kernel
theorem dX12_closeNumber_8 : decode cX12_closeNumber 8 = .ok (.aload_n 0, 1) := by decide +kernel
theorem dX12_closeNumber_9 : decode cX12_closeNumber 9 = .ok (.invokevirtual 169, 3) := by decide +kernel
theorem dX12_closeNumber_12 : decode cX12_closeNumber 12 = .ok (.invokestatic 182, 3) := by decide +kernel
theorem dX12_closeNumber_15 : decode cX12_closeNumber 15 = .ok (.ifCond .eq 7, 3) := by decide +kernel
theorem dX12_closeNumber_18 : decode cX12_closeNumber 18 = .ok (.aload_n 0, 1) := by decide +kernel
theorem dX12_closeNumber_19 : decode cX12_closeNumber 19 = .ok (.invokevirtual 179, 3) := by decide +kernel
theorem dX12_closeNumber_22 : decode cX12_closeNumber 22 = .ok (.return_, 1) := by decide +kernel
theorem dX12_plain_0 : decode cX12_plain 0 = .ok (.aload_n 0, 1) := by decide +kernel
theorem dX12_plain_1 : decode cX12_plain 1 = .ok (.iload_n 1, 1) := by decide +kernel
theorem dX12_plain_2 : decode cX12_plain 2 = .ok (.iload_n 2, 1) := by decide +kernel
theorem dX12_plain_3 : decode cX12_plain 3 = .ok (.invokevirtual 193, 3) := by decide +kernel
theorem dX12_plain_6 : decode cX12_plain 6 = .ok (.istore_n 3, 1) := by decide +kernel
theorem dX12_plain_7 : decode cX12_plain 7 = .ok (.aload_n 0, 1) := by decide +kernel
theorem dX12_plain_8 : decode cX12_plain 8 = .ok (.invokevirtual 197, 3) := by decide +kernel
theorem dX12_plain_11 : decode cX12_plain 11 = .ok (.iload_n 3, 1) := by decide +kernel
theorem dX12_plain_12 : decode cX12_plain 12 = .ok (.ireturn, 1) := by decide +kernel
theorem dX12_isLeap_0 : decode cX12_isLeap 0 = .ok (.iconst 0, 1) := by decide +kernel
theorem dX12_isLeap_1 : decode cX12_isLeap 1 = .ok (.istore_n 3, 1) := by decide +kernel
theorem dX12_isLeap_2 : decode cX12_isLeap 2 = .ok (.iconst 0, 1) := by decide +kernel
theorem dX12_isLeap_3 : decode cX12_isLeap 3 = .ok (.istore 4, 2) := by decide +kernel
theorem dX12_isLeap_5 : decode cX12_isLeap 5 = .ok (.iload 4, 2) := by decide +kernel
theorem dX12_isLeap_7 : decode cX12_isLeap 7 = .ok (.aload_n 0, 1) := by decide +kernel
theorem dX12_isLeap_8 : decode cX12_isLeap 8 = .ok (.getfield 19, 3) := by decide +kernel
theorem dX12_isLeap_11 : decode cX12_isLeap 11 = .ok (.iload_n 1, 1) := by decide +kernel
theorem dX12_isLeap_12 : decode cX12_isLeap 12 = .ok (.iaload, 1) := by decide +kernel
theorem dX12_isLeap_13 : decode cX12_isLeap 13 = .ok (.if_icmp .ge 43, 3) := by decide +kernel
theorem dX12_isLeap_16 : decode cX12_isLeap 16 = .ok (.iload_n 2, 1) := by decide +kernel
theorem dX12_isLeap_17 : decode cX12_isLeap 17 = .ok (.aload_n 0, 1) := by decide +kernel
theorem dX12_isLeap_18 : decode cX12_isLeap 18 = .ok (.getfield 22, 3) := by decide +kernel
theorem dX12_isLeap_21 : decode cX12_isLeap 21 = .ok (.bipush 8, 2) := by decide +kernel
theorem dX12_isLeap_23 : decode cX12_isLeap 23 = .ok (.iload_n 1, 1) := by decide +kernel
theorem dX12_isLeap_24 : decode cX12_isLeap 24 = .ok (.imul, 1) := by decide +kernel
theorem dX12_isLeap_25 : decode cX12_isLeap 25 = .ok (.iload 4, 2) := by decide +kernel
theorem dX12_isLeap_27 : decode cX12_isLeap 27 = .ok (.iadd, 1) := by decide +kernel
theorem dX12_isLeap_28 : decode cX12_isLeap 28 = .ok (.iaload, 1) := by decide +kernel
theorem dX12_isLeap_29 : decode cX12_isLeap 29 = .ok (.irem, 1) := by decide +kernel
theorem dX12_isLeap_30 : decode cX12_isLeap 30 = .ok (.ifCond .ne 18, 3) := by decide +kernel
theorem dX12_isLeap_33 : decode cX12_isLeap 33 = .ok (.aload_n 0, 1) := by decide +kernel
theorem dX12_isLeap_34 : decode cX12_isLeap 34 = .ok (.getfield 25, 3) := by decide +kernel
theorem dX12_isLeap_37 : decode cX12_isLeap 37 = .ok (.bipush 8, 2) := by decide +kernel
theorem dX12_isLeap_39 : decode cX12_isLeap 39 = .ok (.iload_n 1, 1) := by decide +kernel
theorem dX12_isLeap_40 : decode cX12_isLeap 40 = .ok (.imul, 1) := by decide +kernel
theorem dX12_isLeap_41 : decode cX12_isLeap 41 = .ok (.iload 4, 2) := by decide +kernel
theorem dX12_isLeap_43 : decode cX12_isLeap 43 = .ok (.iadd, 1) := by decide +kernel
theorem dX12_isLeap_44 : decode cX12_isLeap 44 = .ok (.baload, 1) := by decide +kernel
theorem dX12_isLeap_45 : decode cX12_isLeap 45 = .ok (.goto 4, 3) := by decide +kernel
theorem dX12_isLeap_48 : decode cX12_isLeap 48 = .ok (.iload_n 3, 1) := by decide +kernel
theorem dX12_isLeap_49 : decode cX12_isLeap 49 = .ok (.istore_n 3, 1) := by decide +kernel
theorem dX12_isLeap_50 : decode cX12_isLeap 50 = .ok (.iinc 4 1, 3) := by decide +kernel
theorem dX12_isLeap_53 : decode cX12_isLeap 53 = .ok (.goto (-48), 3) := by decide +kernel
theorem dX12_isLeap_56 : decode cX12_isLeap 56 = .ok (.iload_n 3, 1) := by decide +kernel
theorem dX12_isLeap_57 : decode cX12_isLeap 57 = .ok (.ireturn, 1) := by decide +kernel
theorem dX12_daysOf_0 : decode cX12_daysOf 0 = .ok (.iload_n 3, 1) := by decide +kernel
theorem dX12_daysOf_1 : decode cX12_daysOf 1 = .ok (.iconst 2, 1) := by decide +kernel
theorem dX12_daysOf_2 : decode cX12_daysOf 2 = .ok (.if_icmp .ne 22, 3) := by decide +kernel
theorem dX12_daysOf_5 : decode cX12_daysOf 5 = .ok (.aload_n 0, 1) := by decide +kernel
theorem dX12_daysOf_6 : decode cX12_daysOf 6 = .ok (.iload_n 1, 1) := by decide +kernel
theorem dX12_daysOf_7 : decode cX12_daysOf 7 = .ok (.iload_n 2, 1) := by decide +kernel
theorem dX12_daysOf_8 : decode cX12_daysOf 8 = .ok (.invokevirtual 200, 3) := by decide +kernel
theorem dX12_daysOf_11 : decode cX12_daysOf 11 = .ok (.ifCond .eq 8, 3) := by decide +kernel
theorem dX12_daysOf_14 : decode cX12_daysOf 14 = .ok (.bipush 29, 2) := by decide +kernel
theorem dX12_daysOf_16 : decode cX12_daysOf 16 = .ok (.goto 38, 3) := by decide +kernel
theorem dX12_daysOf_19 : decode cX12_daysOf 19 = .ok (.bipush 28, 2) := by decide +kernel
theorem dX12_daysOf_21 : decode cX12_daysOf 21 = .ok (.goto 33, 3) := by decide +kernel
theorem dX12_daysOf_24 : decode cX12_daysOf 24 = .ok (.iload_n 3, 1) := by decide +kernel
theorem dX12_daysOf_25 : decode cX12_daysOf 25 = .ok (.iconst 4, 1) := by decide +kernel
theorem dX12_daysOf_26 : decode cX12_daysOf 26 = .ok (.if_icmp .eq 21, 3) := by decide +kernel
theorem dX12_daysOf_29 : decode cX12_daysOf 29 = .ok (.iload_n 3, 1) := by decide +kernel
theorem dX12_daysOf_30 : decode cX12_daysOf 30 = .ok (.bipush 6, 2) := by decide +kernel
theorem dX12_daysOf_32 : decode cX12_daysOf 32 = .ok (.if_icmp .eq 15, 3) := by decide +kernel
theorem dX12_daysOf_35 : decode cX12_daysOf 35 = .ok (.iload_n 3, 1) := by decide +kernel
theorem dX12_daysOf_36 : decode cX12_daysOf 36 = .ok (.bipush 9, 2) := by decide +kernel
theorem dX12_daysOf_38 : decode cX12_daysOf 38 = .ok (.if_icmp .eq 9, 3) := by decide +kernel
theorem dX12_daysOf_41 : decode cX12_daysOf 41 = .ok (.iload_n 3, 1) := by decide +kernel
theorem dX12_daysOf_42 : decode cX12_daysOf 42 = .ok (.bipush 11, 2) := by decide +kernel
theorem dX12_daysOf_44 : decode cX12_daysOf 44 = .ok (.if_icmp .ne 8, 3) := by decide +kernel
theorem dX12_daysOf_47 : decode cX12_daysOf 47 = .ok (.bipush 30, 2) := by decide +kernel
theorem dX12_daysOf_49 : decode cX12_daysOf 49 = .ok (.goto 5, 3) := by decide +kernel
theorem dX12_daysOf_52 : decode cX12_daysOf 52 = .ok (.bipush 31, 2) := by decide +kernel
theorem dX12_daysOf_54 : decode cX12_daysOf 54 = .ok (.ireturn, 1) := by decide +kernel
theorem dX12_code_0 : decode cX12_code 0 = .ok (.sipush 10000, 3) := by decide +kernel
theorem dX12_code_3 : decode cX12_code 3 = .ok (.iload_n 0, 1) := by decide +kernel
theorem dX12_code_4 : decode cX12_code 4 = .ok (.imul, 1) := by decide +kernel
theorem dX12_code_5 : decode cX12_code 5 = .ok (.bipush 100, 2) := by decide +kernel
theorem dX12_code_7 : decode cX12_code 7 = .ok (.iload_n 1, 1) := by decide +kernel
theorem dX12_code_8 : decode cX12_code 8 = .ok (.imul, 1) := by decide +kernel
theorem dX12_code_9 : decode cX12_code 9 = .ok (.iadd, 1) := by decide +kernel
theorem dX12_code_10 : decode cX12_code 10 = .ok (.iload_n 2, 1) := by decide +kernel
theorem dX12_code_11 : decode cX12_code 11 = .ok (.iadd, 1) := by decide +kernel
theorem dX12_code_12 : decode cX12_code 12 = .ok (.ireturn, 1) := by decide +kernel
theorem dX12_ordinal_0 : decode cX12_ordinal 0 = .ok (.iload_n 2, 1) := by decide +kernel
theorem dX12_ordinal_1 : decode cX12_ordinal 1 = .ok (.sipush 10000, 3) := by decide +kernel
theorem dX12_ordinal_4 : decode cX12_ordinal 4 = .ok (.idiv, 1) := by decide +kernel
theorem dX12_ordinal_5 : decode cX12_ordinal 5 = .ok (.istore_n 3, 1) := by decide +kernel
theorem dX12_ordinal_6 : decode cX12_ordinal 6 = .ok (.iload_n 2, 1) := by decide +kernel
theorem dX12_ordinal_7 : decode cX12_ordinal 7 = .ok (.bipush 100, 2) := by decide +kernel
theorem dX12_ordinal_9 : decode cX12_ordinal 9 = .ok (.idiv, 1) := by decide +kernel
theorem dX12_ordinal_10 : decode cX12_ordinal 10 = .ok (.bipush 100, 2) := by decide +kernel
theorem dX12_ordinal_12 : decode cX12_ordinal 12 = .ok (.irem, 1) := by decide +kernel
theorem dX12_ordinal_13 : decode cX12_ordinal 13 = .ok (.istore 4, 2) := by decide +kernel
theorem dX12_ordinal_15 : decode cX12_ordinal 15 = .ok (.aload_n 0, 1) := by decide +kernel
theorem dX12_ordinal_16 : decode cX12_ordinal 16 = .ok (.getfield 39, 3) := by decide +kernel
theorem dX12_ordinal_19 : decode cX12_ordinal 19 = .ok (.sipush 10001, 3) := by decide +kernel
theorem dX12_ordinal_22 : decode cX12_ordinal 22 = .ok (.iload_n 1, 1) := by decide +kernel
theorem dX12_ordinal_23 : decode cX12_ordinal 23 = .ok (.imul, 1) := by decide +kernel
theorem dX12_ordinal_24 : decode cX12_ordinal 24 = .ok (.iload_n 3, 1) := by decide +kernel
theorem dX12_ordinal_25 : decode cX12_ordinal 25 = .ok (.iadd, 1) := by decide +kernel
theorem dX12_ordinal_26 : decode cX12_ordinal 26 = .ok (.iaload, 1) := by decide +kernel
theorem dX12_ordinal_27 : decode cX12_ordinal 27 = .ok (.iload_n 2, 1) := by decide +kernel
theorem dX12_ordinal_28 : decode cX12_ordinal 28 = .ok (.bipush 100, 2) := by decide +kernel
theorem dX12_ordinal_30 : decode cX12_ordinal 30 = .ok (.irem, 1) := by decide +kernel
theorem dX12_ordinal_31 : decode cX12_ordinal 31 = .ok (.iadd, 1) := by decide +kernel
theorem dX12_ordinal_32 : decode cX12_ordinal 32 = .ok (.iconst 1, 1) := by decide +kernel
theorem dX12_ordinal_33 : decode cX12_ordinal 33 = .ok (.isub, 1) := by decide +kernel
theorem dX12_ordinal_34 : decode cX12_ordinal 34 = .ok (.istore 5, 2) := by decide +kernel
theorem dX12_ordinal_36 : decode cX12_ordinal 36 = .ok (.iconst 1, 1) := by decide +kernel
theorem dX12_ordinal_37 : decode cX12_ordinal 37 = .ok (.istore 6, 2) := by decide +kernel
theorem dX12_ordinal_39 : decode cX12_ordinal 39 = .ok (.iload 6, 2) := by decide +kernel
theorem dX12_ordinal_41 : decode cX12_ordinal 41 = .ok (.iload 4, 2) := by decide +kernel
theorem dX12_ordinal_43 : decode cX12_ordinal 43 = .ok (.if_icmp .ge 22, 3) := by decide +kernel
theorem dX12_ordinal_46 : decode cX12_ordinal 46 = .ok (.iload 5, 2) := by decide +kernel
theorem dX12_ordinal_48 : decode cX12_ordinal 48 = .ok (.aload_n 0, 1) := by decide +kernel
theorem dX12_ordinal_49 : decode cX12_ordinal 49 = .ok (.iload_n 1, 1) := by decide +kernel
theorem dX12_ordinal_50 : decode cX12_ordinal 50 = .ok (.iload_n 3, 1) := by decide +kernel
theorem dX12_ordinal_51 : decode cX12_ordinal 51 = .ok (.iload 6, 2) := by decide +kernel
theorem dX12_ordinal_53 : decode cX12_ordinal 53 = .ok (.invokevirtual 204, 3) := by decide +kernel
theorem dX12_ordinal_56 : decode cX12_ordinal 56 = .ok (.iadd, 1) := by decide +kernel
theorem dX12_ordinal_57 : decode cX12_ordinal 57 = .ok (.istore 5, 2) := by decide +kernel
theorem dX12_ordinal_59 : decode cX12_ordinal 59 = .ok (.iinc 6 1, 3) := by decide +kernel
theorem dX12_ordinal_62 : decode cX12_ordinal 62 = .ok (.goto (-23), 3) := by decide +kernel
theorem dX12_ordinal_65 : decode cX12_ordinal 65 = .ok (.iload 5, 2) := by decide +kernel
theorem dX12_ordinal_67 : decode cX12_ordinal 67 = .ok (.ireturn, 1) := by decide +kernel
theorem dX12_layOut_0 : decode cX12_layOut 0 = .ok (.iconst 0, 1) := by decide +kernel
theorem dX12_layOut_1 : decode cX12_layOut 1 = .ok (.istore_n 2, 1) := by decide +kernel
theorem dX12_layOut_2 : decode cX12_layOut 2 = .ok (.iconst 1, 1) := by decide +kernel
theorem dX12_layOut_3 : decode cX12_layOut 3 = .ok (.istore_n 3, 1) := by decide +kernel
theorem dX12_layOut_4 : decode cX12_layOut 4 = .ok (.iload_n 3, 1) := by decide +kernel
theorem dX12_layOut_5 : decode cX12_layOut 5 = .ok (.sipush 10001, 3) := by decide +kernel
theorem dX12_layOut_8 : decode cX12_layOut 8 = .ok (.if_icmp .ge 43, 3) := by decide +kernel
theorem dX12_layOut_11 : decode cX12_layOut 11 = .ok (.aload_n 0, 1) := by decide +kernel
theorem dX12_layOut_12 : decode cX12_layOut 12 = .ok (.getfield 39, 3) := by decide +kernel
theorem dX12_layOut_15 : decode cX12_layOut 15 = .ok (.sipush 10001, 3) := by decide +kernel
theorem dX12_layOut_18 : decode cX12_layOut 18 = .ok (.iload_n 1, 1) := by decide +kernel
theorem dX12_layOut_19 : decode cX12_layOut 19 = .ok (.imul, 1) := by decide +kernel
theorem dX12_layOut_20 : decode cX12_layOut 20 = .ok (.iload_n 3, 1) := by decide +kernel
theorem dX12_layOut_21 : decode cX12_layOut 21 = .ok (.iadd, 1) := by decide +kernel
theorem dX12_layOut_22 : decode cX12_layOut 22 = .ok (.iload_n 2, 1) := by decide +kernel
theorem dX12_layOut_23 : decode cX12_layOut 23 = .ok (.iastore, 1) := by decide +kernel
theorem dX12_layOut_24 : decode cX12_layOut 24 = .ok (.iload_n 2, 1) := by decide +kernel
theorem dX12_layOut_25 : decode cX12_layOut 25 = .ok (.aload_n 0, 1) := by decide +kernel
theorem dX12_layOut_26 : decode cX12_layOut 26 = .ok (.iload_n 1, 1) := by decide +kernel
theorem dX12_layOut_27 : decode cX12_layOut 27 = .ok (.iload_n 3, 1) := by decide +kernel
theorem dX12_layOut_28 : decode cX12_layOut 28 = .ok (.invokevirtual 200, 3) := by decide +kernel
theorem dX12_layOut_31 : decode cX12_layOut 31 = .ok (.ifCond .eq 9, 3) := by decide +kernel
theorem dX12_layOut_34 : decode cX12_layOut 34 = .ok (.sipush 366, 3) := by decide +kernel
theorem dX12_layOut_37 : decode cX12_layOut 37 = .ok (.goto 6, 3) := by decide +kernel
theorem dX12_layOut_40 : decode cX12_layOut 40 = .ok (.sipush 365, 3) := by decide +kernel
theorem dX12_layOut_43 : decode cX12_layOut 43 = .ok (.iadd, 1) := by decide +kernel
theorem dX12_layOut_44 : decode cX12_layOut 44 = .ok (.istore_n 2, 1) := by decide +kernel
theorem dX12_layOut_45 : decode cX12_layOut 45 = .ok (.iinc 3 1, 3) := by decide +kernel
theorem dX12_layOut_48 : decode cX12_layOut 48 = .ok (.goto (-44), 3) := by decide +kernel
theorem dX12_layOut_51 : decode cX12_layOut 51 = .ok (.return_, 1) := by decide +kernel
theorem dX12_dated_0 : decode cX12_dated 0 = .ok (.iconst 1, 1) := by decide +kernel
theorem dX12_dated_1 : decode cX12_dated 1 = .ok (.istore_n 3, 1) := by decide +kernel
theorem dX12_dated_2 : decode cX12_dated 2 = .ok (.sipush 10000, 3) := by decide +kernel
theorem dX12_dated_5 : decode cX12_dated 5 = .ok (.istore 4, 2) := by decide +kernel
theorem dX12_dated_7 : decode cX12_dated 7 = .ok (.iload_n 3, 1) := by decide +kernel
theorem dX12_dated_8 : decode cX12_dated 8 = .ok (.iload 4, 2) := by decide +kernel
theorem dX12_dated_10 : decode cX12_dated 10 = .ok (.if_icmp .ge 45, 3) := by decide +kernel
theorem dX12_dated_13 : decode cX12_dated 13 = .ok (.iload_n 3, 1) := by decide +kernel
theorem dX12_dated_14 : decode cX12_dated 14 = .ok (.iload 4, 2) := by decide +kernel
theorem dX12_dated_16 : decode cX12_dated 16 = .ok (.iadd, 1) := by decide +kernel
theorem dX12_dated_17 : decode cX12_dated 17 = .ok (.iconst 1, 1) := by decide +kernel
theorem dX12_dated_18 : decode cX12_dated 18 = .ok (.iadd, 1) := by decide +kernel
theorem dX12_dated_19 : decode cX12_dated 19 = .ok (.iconst 2, 1) := by decide +kernel
theorem dX12_dated_20 : decode cX12_dated 20 = .ok (.idiv, 1) := by decide +kernel
theorem dX12_dated_21 : decode cX12_dated 21 = .ok (.istore 5, 2) := by decide +kernel
theorem dX12_dated_23 : decode cX12_dated 23 = .ok (.aload_n 0, 1) := by decide +kernel
theorem dX12_dated_24 : decode cX12_dated 24 = .ok (.getfield 39, 3) := by decide +kernel
theorem dX12_dated_27 : decode cX12_dated 27 = .ok (.sipush 10001, 3) := by decide +kernel
theorem dX12_dated_30 : decode cX12_dated 30 = .ok (.iload_n 1, 1) := by decide +kernel
theorem dX12_dated_31 : decode cX12_dated 31 = .ok (.imul, 1) := by decide +kernel
theorem dX12_dated_32 : decode cX12_dated 32 = .ok (.iload 5, 2) := by decide +kernel
theorem dX12_dated_34 : decode cX12_dated 34 = .ok (.iadd, 1) := by decide +kernel
theorem dX12_dated_35 : decode cX12_dated 35 = .ok (.iaload, 1) := by decide +kernel
theorem dX12_dated_36 : decode cX12_dated 36 = .ok (.iload_n 2, 1) := by decide +kernel
theorem dX12_dated_37 : decode cX12_dated 37 = .ok (.if_icmp .gt 9, 3) := by decide +kernel
theorem dX12_dated_40 : decode cX12_dated 40 = .ok (.iload 5, 2) := by decide +kernel
theorem dX12_dated_42 : decode cX12_dated 42 = .ok (.istore_n 3, 1) := by decide +kernel
theorem dX12_dated_43 : decode cX12_dated 43 = .ok (.goto 9, 3) := by decide +kernel
theorem dX12_dated_46 : decode cX12_dated 46 = .ok (.iload 5, 2) := by decide +kernel
theorem dX12_dated_48 : decode cX12_dated 48 = .ok (.iconst 1, 1) := by decide +kernel
theorem dX12_dated_49 : decode cX12_dated 49 = .ok (.isub, 1) := by decide +kernel
theorem dX12_dated_50 : decode cX12_dated 50 = .ok (.istore 4, 2) := by decide +kernel
theorem dX12_dated_52 : decode cX12_dated 52 = .ok (.goto (-45), 3) := by decide +kernel
theorem dX12_dated_55 : decode cX12_dated 55 = .ok (.iload_n 2, 1) := by decide +kernel
theorem dX12_dated_56 : decode cX12_dated 56 = .ok (.aload_n 0, 1) := by decide +kernel
theorem dX12_dated_57 : decode cX12_dated 57 = .ok (.getfield 39, 3) := by decide +kernel
theorem dX12_dated_60 : decode cX12_dated 60 = .ok (.sipush 10001, 3) := by decide +kernel
theorem dX12_dated_63 : decode cX12_dated 63 = .ok (.iload_n 1, 1) := by decide +kernel
theorem dX12_dated_64 : decode cX12_dated 64 = .ok (.imul, 1) := by decide +kernel
theorem dX12_dated_65 : decode cX12_dated 65 = .ok (.iload_n 3, 1) := by decide +kernel
theorem dX12_dated_66 : decode cX12_dated 66 = .ok (.iadd, 1) := by decide +kernel
theorem dX12_dated_67 : decode cX12_dated 67 = .ok (.iaload, 1) := by decide +kernel
theorem dX12_dated_68 : decode cX12_dated 68 = .ok (.isub, 1) := by decide +kernel
theorem dX12_dated_69 : decode cX12_dated 69 = .ok (.istore 5, 2) := by decide +kernel
theorem dX12_dated_71 : decode cX12_dated 71 = .ok (.iconst 1, 1) := by decide +kernel
theorem dX12_dated_72 : decode cX12_dated 72 = .ok (.istore 6, 2) := by decide +kernel
theorem dX12_dated_74 : decode cX12_dated 74 = .ok (.iload 6, 2) := by decide +kernel
theorem dX12_dated_76 : decode cX12_dated 76 = .ok (.bipush 12, 2) := by decide +kernel
theorem dX12_dated_78 : decode cX12_dated 78 = .ok (.if_icmp .ge 35, 3) := by decide +kernel
theorem dX12_dated_81 : decode cX12_dated 81 = .ok (.iload 5, 2) := by decide +kernel
theorem dX12_dated_83 : decode cX12_dated 83 = .ok (.aload_n 0, 1) := by decide +kernel
theorem dX12_dated_84 : decode cX12_dated 84 = .ok (.iload_n 1, 1) := by decide +kernel
theorem dX12_dated_85 : decode cX12_dated 85 = .ok (.iload_n 3, 1) := by decide +kernel
theorem dX12_dated_86 : decode cX12_dated 86 = .ok (.iload 6, 2) := by decide +kernel
theorem dX12_dated_88 : decode cX12_dated 88 = .ok (.invokevirtual 204, 3) := by decide +kernel
theorem dX12_dated_91 : decode cX12_dated 91 = .ok (.if_icmp .lt 22, 3) := by decide +kernel
theorem dX12_dated_94 : decode cX12_dated 94 = .ok (.iload 5, 2) := by decide +kernel
theorem dX12_dated_96 : decode cX12_dated 96 = .ok (.aload_n 0, 1) := by decide +kernel
theorem dX12_dated_97 : decode cX12_dated 97 = .ok (.iload_n 1, 1) := by decide +kernel
theorem dX12_dated_98 : decode cX12_dated 98 = .ok (.iload_n 3, 1) := by decide +kernel
theorem dX12_dated_99 : decode cX12_dated 99 = .ok (.iload 6, 2) := by decide +kernel
theorem dX12_dated_101 : decode cX12_dated 101 = .ok (.invokevirtual 204, 3) := by decide +kernel
theorem dX12_dated_104 : decode cX12_dated 104 = .ok (.isub, 1) := by decide +kernel
theorem dX12_dated_105 : decode cX12_dated 105 = .ok (.istore 5, 2) := by decide +kernel
theorem dX12_dated_107 : decode cX12_dated 107 = .ok (.iinc 6 1, 3) := by decide +kernel
theorem dX12_dated_110 : decode cX12_dated 110 = .ok (.goto (-36), 3) := by decide +kernel
theorem dX12_dated_113 : decode cX12_dated 113 = .ok (.iload_n 3, 1) := by decide +kernel
theorem dX12_dated_114 : decode cX12_dated 114 = .ok (.iload 6, 2) := by decide +kernel
theorem dX12_dated_116 : decode cX12_dated 116 = .ok (.iload 5, 2) := by decide +kernel
theorem dX12_dated_118 : decode cX12_dated 118 = .ok (.iconst 1, 1) := by decide +kernel
theorem dX12_dated_119 : decode cX12_dated 119 = .ok (.iadd, 1) := by decide +kernel
theorem dX12_dated_120 : decode cX12_dated 120 = .ok (.invokestatic 208, 3) := by decide +kernel
theorem dX12_dated_123 : decode cX12_dated 123 = .ok (.ireturn, 1) := by decide +kernel
theorem dX12_readLeaps_0 : decode cX12_readLeaps 0 = .ok (.aload_n 0, 1) := by decide +kernel
theorem dX12_readLeaps_1 : decode cX12_readLeaps 1 = .ok (.getfield 19, 3) := by decide +kernel
theorem dX12_readLeaps_4 : decode cX12_readLeaps 4 = .ok (.iload_n 1, 1) := by decide +kernel
theorem dX12_readLeaps_5 : decode cX12_readLeaps 5 = .ok (.iconst 0, 1) := by decide +kernel
theorem dX12_readLeaps_6 : decode cX12_readLeaps 6 = .ok (.iastore, 1) := by decide +kernel
theorem dX12_readLeaps_7 : decode cX12_readLeaps 7 = .ok (.iconst 1, 1) := by decide +kernel
theorem dX12_readLeaps_8 : decode cX12_readLeaps 8 = .ok (.istore_n 2, 1) := by decide +kernel
theorem dX12_readLeaps_9 : decode cX12_readLeaps 9 = .ok (.iload_n 2, 1) := by decide +kernel
theorem dX12_readLeaps_10 : decode cX12_readLeaps 10 = .ok (.ifCond .eq 149, 3) := by decide +kernel
theorem dX12_readLeaps_13 : decode cX12_readLeaps 13 = .ok (.aload_n 0, 1) := by decide +kernel
theorem dX12_readLeaps_14 : decode cX12_readLeaps 14 = .ok (.getfield 173, 3) := by decide +kernel
theorem dX12_readLeaps_17 : decode cX12_readLeaps 17 = .ok (.iconst (-1), 1) := by decide +kernel
theorem dX12_readLeaps_18 : decode cX12_readLeaps 18 = .ok (.if_icmp .ne 141, 3) := by decide +kernel
theorem dX12_readLeaps_21 : decode cX12_readLeaps 21 = .ok (.aload_n 0, 1) := by decide +kernel
theorem dX12_readLeaps_22 : decode cX12_readLeaps 22 = .ok (.getfield 19, 3) := by decide +kernel
theorem dX12_readLeaps_25 : decode cX12_readLeaps 25 = .ok (.iload_n 1, 1) := by decide +kernel
theorem dX12_readLeaps_26 : decode cX12_readLeaps 26 = .ok (.iaload, 1) := by decide +kernel
theorem dX12_readLeaps_27 : decode cX12_readLeaps 27 = .ok (.bipush 8, 2) := by decide +kernel
theorem dX12_readLeaps_29 : decode cX12_readLeaps 29 = .ok (.if_icmp .ne 8, 3) := by decide +kernel
theorem dX12_readLeaps_32 : decode cX12_readLeaps 32 = .ok (.aload_n 0, 1) := by decide +kernel
theorem dX12_readLeaps_33 : decode cX12_readLeaps 33 = .ok (.invokevirtual 179, 3) := by decide +kernel
theorem dX12_readLeaps_36 : decode cX12_readLeaps 36 = .ok (.return_, 1) := by decide +kernel
theorem dX12_readLeaps_37 : decode cX12_readLeaps 37 = .ok (.aload_n 0, 1) := by decide +kernel
theorem dX12_readLeaps_38 : decode cX12_readLeaps 38 = .ok (.iconst 1, 1) := by decide +kernel
theorem dX12_readLeaps_39 : decode cX12_readLeaps 39 = .ok (.sipush 9999, 3) := by decide +kernel
theorem dX12_readLeaps_42 : decode cX12_readLeaps 42 = .ok (.invokevirtual 211, 3) := by decide +kernel
theorem dX12_readLeaps_45 : decode cX12_readLeaps 45 = .ok (.istore_n 3, 1) := by decide +kernel
theorem dX12_readLeaps_46 : decode cX12_readLeaps 46 = .ok (.aload_n 0, 1) := by decide +kernel
theorem dX12_readLeaps_47 : decode cX12_readLeaps 47 = .ok (.getfield 173, 3) := by decide +kernel
theorem dX12_readLeaps_50 : decode cX12_readLeaps 50 = .ok (.iconst (-1), 1) := by decide +kernel
theorem dX12_readLeaps_51 : decode cX12_readLeaps 51 = .ok (.if_icmp .ne 10, 3) := by decide +kernel
theorem dX12_readLeaps_54 : decode cX12_readLeaps 54 = .ok (.aload_n 0, 1) := by decide +kernel
theorem dX12_readLeaps_55 : decode cX12_readLeaps 55 = .ok (.invokevirtual 176, 3) := by decide +kernel
theorem dX12_readLeaps_58 : decode cX12_readLeaps 58 = .ok (.goto 4, 3) := by decide +kernel
theorem dX12_readLeaps_61 : decode cX12_readLeaps 61 = .ok (.iconst (-1), 1) := by decide +kernel
theorem dX12_readLeaps_62 : decode cX12_readLeaps 62 = .ok (.istore 4, 2) := by decide +kernel
theorem dX12_readLeaps_64 : decode cX12_readLeaps 64 = .ok (.iload 4, 2) := by decide +kernel
theorem dX12_readLeaps_66 : decode cX12_readLeaps 66 = .ok (.bipush 43, 2) := by decide +kernel
theorem dX12_readLeaps_68 : decode cX12_readLeaps 68 = .ok (.if_icmp .eq 15, 3) := by decide +kernel
theorem dX12_readLeaps_71 : decode cX12_readLeaps 71 = .ok (.iload 4, 2) := by decide +kernel
theorem dX12_readLeaps_73 : decode cX12_readLeaps 73 = .ok (.bipush 45, 2) := by decide +kernel
theorem dX12_readLeaps_75 : decode cX12_readLeaps 75 = .ok (.if_icmp .eq 8, 3) := by decide +kernel
theorem dX12_readLeaps_78 : decode cX12_readLeaps 78 = .ok (.aload_n 0, 1) := by decide +kernel
theorem dX12_readLeaps_79 : decode cX12_readLeaps 79 = .ok (.invokevirtual 179, 3) := by decide +kernel
theorem dX12_readLeaps_82 : decode cX12_readLeaps 82 = .ok (.return_, 1) := by decide +kernel
theorem dX12_readLeaps_83 : decode cX12_readLeaps 83 = .ok (.aload_n 0, 1) := by decide +kernel
theorem dX12_readLeaps_84 : decode cX12_readLeaps 84 = .ok (.dup, 1) := by decide +kernel
theorem dX12_readLeaps_85 : decode cX12_readLeaps 85 = .ok (.getfield 166, 3) := by decide +kernel
theorem dX12_readLeaps_88 : decode cX12_readLeaps 88 = .ok (.iconst 1, 1) := by decide +kernel
theorem dX12_readLeaps_89 : decode cX12_readLeaps 89 = .ok (.iadd, 1) := by decide +kernel
theorem dX12_readLeaps_90 : decode cX12_readLeaps 90 = .ok (.putfield 166, 3) := by decide +kernel
theorem dX12_readLeaps_93 : decode cX12_readLeaps 93 = .ok (.aload_n 0, 1) := by decide +kernel
theorem dX12_readLeaps_94 : decode cX12_readLeaps 94 = .ok (.getfield 22, 3) := by decide +kernel
theorem dX12_readLeaps_97 : decode cX12_readLeaps 97 = .ok (.bipush 8, 2) := by decide +kernel
theorem dX12_readLeaps_99 : decode cX12_readLeaps 99 = .ok (.iload_n 1, 1) := by decide +kernel
theorem dX12_readLeaps_100 : decode cX12_readLeaps 100 = .ok (.imul, 1) := by decide +kernel
theorem dX12_readLeaps_101 : decode cX12_readLeaps 101 = .ok (.aload_n 0, 1) := by decide +kernel
theorem dX12_readLeaps_102 : decode cX12_readLeaps 102 = .ok (.getfield 19, 3) := by decide +kernel
theorem dX12_readLeaps_105 : decode cX12_readLeaps 105 = .ok (.iload_n 1, 1) := by decide +kernel
theorem dX12_readLeaps_106 : decode cX12_readLeaps 106 = .ok (.iaload, 1) := by decide +kernel
theorem dX12_readLeaps_107 : decode cX12_readLeaps 107 = .ok (.iadd, 1) := by decide +kernel
theorem dX12_readLeaps_108 : decode cX12_readLeaps 108 = .ok (.iload_n 3, 1) := by decide +kernel
theorem dX12_readLeaps_109 : decode cX12_readLeaps 109 = .ok (.iastore, 1) := by decide +kernel
theorem dX12_readLeaps_110 : decode cX12_readLeaps 110 = .ok (.aload_n 0, 1) := by decide +kernel
theorem dX12_readLeaps_111 : decode cX12_readLeaps 111 = .ok (.getfield 25, 3) := by decide +kernel
theorem dX12_readLeaps_114 : decode cX12_readLeaps 114 = .ok (.bipush 8, 2) := by decide +kernel
theorem dX12_readLeaps_116 : decode cX12_readLeaps 116 = .ok (.iload_n 1, 1) := by decide +kernel
theorem dX12_readLeaps_117 : decode cX12_readLeaps 117 = .ok (.imul, 1) := by decide +kernel
theorem dX12_readLeaps_118 : decode cX12_readLeaps 118 = .ok (.aload_n 0, 1) := by decide +kernel
theorem dX12_readLeaps_119 : decode cX12_readLeaps 119 = .ok (.getfield 19, 3) := by decide +kernel
theorem dX12_readLeaps_122 : decode cX12_readLeaps 122 = .ok (.iload_n 1, 1) := by decide +kernel
theorem dX12_readLeaps_123 : decode cX12_readLeaps 123 = .ok (.iaload, 1) := by decide +kernel
theorem dX12_readLeaps_124 : decode cX12_readLeaps 124 = .ok (.iadd, 1) := by decide +kernel
theorem dX12_readLeaps_125 : decode cX12_readLeaps 125 = .ok (.iload 4, 2) := by decide +kernel
theorem dX12_readLeaps_127 : decode cX12_readLeaps 127 = .ok (.bipush 43, 2) := by decide +kernel
theorem dX12_readLeaps_129 : decode cX12_readLeaps 129 = .ok (.if_icmp .ne 7, 3) := by decide +kernel
theorem dX12_readLeaps_132 : decode cX12_readLeaps 132 = .ok (.iconst 1, 1) := by decide +kernel
theorem dX12_readLeaps_133 : decode cX12_readLeaps 133 = .ok (.goto 4, 3) := by decide +kernel
theorem dX12_readLeaps_136 : decode cX12_readLeaps 136 = .ok (.iconst 0, 1) := by decide +kernel
theorem dX12_readLeaps_137 : decode cX12_readLeaps 137 = .ok (.bastore, 1) := by decide +kernel
theorem dX12_readLeaps_138 : decode cX12_readLeaps 138 = .ok (.aload_n 0, 1) := by decide +kernel
theorem dX12_readLeaps_139 : decode cX12_readLeaps 139 = .ok (.getfield 19, 3) := by decide +kernel
theorem dX12_readLeaps_142 : decode cX12_readLeaps 142 = .ok (.iload_n 1, 1) := by decide +kernel
theorem dX12_readLeaps_143 : decode cX12_readLeaps 143 = .ok (.dup2, 1) := by decide +kernel
theorem dX12_readLeaps_144 : decode cX12_readLeaps 144 = .ok (.iaload, 1) := by decide +kernel
theorem dX12_readLeaps_145 : decode cX12_readLeaps 145 = .ok (.iconst 1, 1) := by decide +kernel
theorem dX12_readLeaps_146 : decode cX12_readLeaps 146 = .ok (.iadd, 1) := by decide +kernel
theorem dX12_readLeaps_147 : decode cX12_readLeaps 147 = .ok (.iastore, 1) := by decide +kernel
theorem dX12_readLeaps_148 : decode cX12_readLeaps 148 = .ok (.aload_n 0, 1) := by decide +kernel
theorem dX12_readLeaps_149 : decode cX12_readLeaps 149 = .ok (.invokevirtual 176, 3) := by decide +kernel
theorem dX12_readLeaps_152 : decode cX12_readLeaps 152 = .ok (.invokestatic 182, 3) := by decide +kernel
theorem dX12_readLeaps_155 : decode cX12_readLeaps 155 = .ok (.istore_n 2, 1) := by decide +kernel
theorem dX12_readLeaps_156 : decode cX12_readLeaps 156 = .ok (.goto (-147), 3) := by decide +kernel
theorem dX12_readLeaps_159 : decode cX12_readLeaps 159 = .ok (.aload_n 0, 1) := by decide +kernel
theorem dX12_readLeaps_160 : decode cX12_readLeaps 160 = .ok (.getfield 173, 3) := by decide +kernel
theorem dX12_readLeaps_163 : decode cX12_readLeaps 163 = .ok (.iconst (-1), 1) := by decide +kernel
theorem dX12_readLeaps_164 : decode cX12_readLeaps 164 = .ok (.if_icmp .ne 8, 3) := by decide +kernel
theorem dX12_readLeaps_167 : decode cX12_readLeaps 167 = .ok (.aload_n 0, 1) := by decide +kernel
theorem dX12_readLeaps_168 : decode cX12_readLeaps 168 = .ok (.iload_n 1, 1) := by decide +kernel
theorem dX12_readLeaps_169 : decode cX12_readLeaps 169 = .ok (.invokevirtual 214, 3) := by decide +kernel
theorem dX12_readLeaps_172 : decode cX12_readLeaps 172 = .ok (.return_, 1) := by decide +kernel
theorem dX12_readCalendar_0 : decode cX12_readCalendar 0 = .ok (.aload_n 0, 1) := by decide +kernel
theorem dX12_readCalendar_1 : decode cX12_readCalendar 1 = .ok (.iconst 0, 1) := by decide +kernel
theorem dX12_readCalendar_2 : decode cX12_readCalendar 2 = .ok (.putfield 166, 3) := by decide +kernel
theorem dX12_readCalendar_5 : decode cX12_readCalendar 5 = .ok (.aload_n 0, 1) := by decide +kernel
theorem dX12_readCalendar_6 : decode cX12_readCalendar 6 = .ok (.iconst (-1), 1) := by decide +kernel
theorem dX12_readCalendar_7 : decode cX12_readCalendar 7 = .ok (.putfield 173, 3) := by decide +kernel
theorem dX12_readCalendar_10 : decode cX12_readCalendar 10 = .ok (.iconst 4, 1) := by decide +kernel
theorem dX12_readCalendar_11 : decode cX12_readCalendar 11 = .ok (.iload_n 1, 1) := by decide +kernel
theorem dX12_readCalendar_12 : decode cX12_readCalendar 12 = .ok (.imul, 1) := by decide +kernel
theorem dX12_readCalendar_13 : decode cX12_readCalendar 13 = .ok (.istore_n 2, 1) := by decide +kernel
theorem dX12_readCalendar_14 : decode cX12_readCalendar 14 = .ok (.aload_n 0, 1) := by decide +kernel
theorem dX12_readCalendar_15 : decode cX12_readCalendar 15 = .ok (.getfield 13, 3) := by decide +kernel
theorem dX12_readCalendar_18 : decode cX12_readCalendar 18 = .ok (.iload_n 1, 1) := by decide +kernel
theorem dX12_readCalendar_19 : decode cX12_readCalendar 19 = .ok (.aload_n 0, 1) := by decide +kernel
theorem dX12_readCalendar_20 : decode cX12_readCalendar 20 = .ok (.iconst 0, 1) := by decide +kernel
theorem dX12_readCalendar_21 : decode cX12_readCalendar 21 = .ok (.bipush 9, 2) := by decide +kernel
theorem dX12_readCalendar_23 : decode cX12_readCalendar 23 = .ok (.invokevirtual 211, 3) := by decide +kernel
theorem dX12_readCalendar_26 : decode cX12_readCalendar 26 = .ok (.iastore, 1) := by decide +kernel
theorem dX12_readCalendar_27 : decode cX12_readCalendar 27 = .ok (.aload_n 0, 1) := by decide +kernel
theorem dX12_readCalendar_28 : decode cX12_readCalendar 28 = .ok (.bipush 58, 2) := by decide +kernel
theorem dX12_readCalendar_30 : decode cX12_readCalendar 30 = .ok (.invokevirtual 218, 3) := by decide +kernel
theorem dX12_readCalendar_33 : decode cX12_readCalendar 33 = .ok (.aload_n 0, 1) := by decide +kernel
theorem dX12_readCalendar_34 : decode cX12_readCalendar 34 = .ok (.iload_n 2, 1) := by decide +kernel
theorem dX12_readCalendar_35 : decode cX12_readCalendar 35 = .ok (.invokevirtual 221, 3) := by decide +kernel
theorem dX12_readCalendar_38 : decode cX12_readCalendar 38 = .ok (.aload_n 0, 1) := by decide +kernel
theorem dX12_readCalendar_39 : decode cX12_readCalendar 39 = .ok (.getfield 16, 3) := by decide +kernel
theorem dX12_readCalendar_42 : decode cX12_readCalendar 42 = .ok (.iload_n 1, 1) := by decide +kernel
theorem dX12_readCalendar_43 : decode cX12_readCalendar 43 = .ok (.iconst 1, 1) := by decide +kernel
theorem dX12_readCalendar_44 : decode cX12_readCalendar 44 = .ok (.iastore, 1) := by decide +kernel
theorem dX12_readCalendar_45 : decode cX12_readCalendar 45 = .ok (.aload_n 0, 1) := by decide +kernel
theorem dX12_readCalendar_46 : decode cX12_readCalendar 46 = .ok (.getfield 32, 3) := by decide +kernel
theorem dX12_readCalendar_49 : decode cX12_readCalendar 49 = .ok (.iload_n 2, 1) := by decide +kernel
theorem dX12_readCalendar_50 : decode cX12_readCalendar 50 = .ok (.iconst 1, 1) := by decide +kernel
theorem dX12_readCalendar_51 : decode cX12_readCalendar 51 = .ok (.iconst 1, 1) := by decide +kernel
theorem dX12_readCalendar_52 : decode cX12_readCalendar 52 = .ok (.iconst 1, 1) := by decide +kernel
theorem dX12_readCalendar_53 : decode cX12_readCalendar 53 = .ok (.invokestatic 208, 3) := by decide +kernel
theorem dX12_readCalendar_56 : decode cX12_readCalendar 56 = .ok (.iastore, 1) := by decide +kernel
theorem dX12_readCalendar_57 : decode cX12_readCalendar 57 = .ok (.aload_n 0, 1) := by decide +kernel
theorem dX12_readCalendar_58 : decode cX12_readCalendar 58 = .ok (.getfield 35, 3) := by decide +kernel
theorem dX12_readCalendar_61 : decode cX12_readCalendar 61 = .ok (.iload_n 2, 1) := by decide +kernel
theorem dX12_readCalendar_62 : decode cX12_readCalendar 62 = .ok (.aload_n 0, 1) := by decide +kernel
theorem dX12_readCalendar_63 : decode cX12_readCalendar 63 = .ok (.getfield 13, 3) := by decide +kernel
theorem dX12_readCalendar_66 : decode cX12_readCalendar 66 = .ok (.iload_n 1, 1) := by decide +kernel
theorem dX12_readCalendar_67 : decode cX12_readCalendar 67 = .ok (.iaload, 1) := by decide +kernel
theorem dX12_readCalendar_68 : decode cX12_readCalendar 68 = .ok (.iastore, 1) := by decide +kernel
theorem dX12_readCalendar_69 : decode cX12_readCalendar 69 = .ok (.aload_n 0, 1) := by decide +kernel
theorem dX12_readCalendar_70 : decode cX12_readCalendar 70 = .ok (.getfield 173, 3) := by decide +kernel
theorem dX12_readCalendar_73 : decode cX12_readCalendar 73 = .ok (.iconst (-1), 1) := by decide +kernel
theorem dX12_readCalendar_74 : decode cX12_readCalendar 74 = .ok (.if_icmp .ne 50, 3) := by decide +kernel
theorem dX12_readCalendar_77 : decode cX12_readCalendar 77 = .ok (.aload_n 0, 1) := by decide +kernel
theorem dX12_readCalendar_78 : decode cX12_readCalendar 78 = .ok (.invokevirtual 176, 3) := by decide +kernel
theorem dX12_readCalendar_81 : decode cX12_readCalendar 81 = .ok (.bipush 64, 2) := by decide +kernel
theorem dX12_readCalendar_83 : decode cX12_readCalendar 83 = .ok (.if_icmp .ne 41, 3) := by decide +kernel
theorem dX12_readCalendar_86 : decode cX12_readCalendar 86 = .ok (.aload_n 0, 1) := by decide +kernel
theorem dX12_readCalendar_87 : decode cX12_readCalendar 87 = .ok (.getfield 16, 3) := by decide +kernel
theorem dX12_readCalendar_90 : decode cX12_readCalendar 90 = .ok (.iload_n 1, 1) := by decide +kernel
theorem dX12_readCalendar_91 : decode cX12_readCalendar 91 = .ok (.iaload, 1) := by decide +kernel
theorem dX12_readCalendar_92 : decode cX12_readCalendar 92 = .ok (.iconst 4, 1) := by decide +kernel
theorem dX12_readCalendar_93 : decode cX12_readCalendar 93 = .ok (.if_icmp .ge 31, 3) := by decide +kernel
theorem dX12_readCalendar_96 : decode cX12_readCalendar 96 = .ok (.aload_n 0, 1) := by decide +kernel
theorem dX12_readCalendar_97 : decode cX12_readCalendar 97 = .ok (.dup, 1) := by decide +kernel
theorem dX12_readCalendar_98 : decode cX12_readCalendar 98 = .ok (.getfield 166, 3) := by decide +kernel
theorem dX12_readCalendar_101 : decode cX12_readCalendar 101 = .ok (.iconst 1, 1) := by decide +kernel
theorem dX12_readCalendar_102 : decode cX12_readCalendar 102 = .ok (.iadd, 1) := by decide +kernel
theorem dX12_readCalendar_103 : decode cX12_readCalendar 103 = .ok (.putfield 166, 3) := by decide +kernel
theorem dX12_readCalendar_106 : decode cX12_readCalendar 106 = .ok (.aload_n 0, 1) := by decide +kernel
theorem dX12_readCalendar_107 : decode cX12_readCalendar 107 = .ok (.iload_n 1, 1) := by decide +kernel
theorem dX12_readCalendar_108 : decode cX12_readCalendar 108 = .ok (.iconst 4, 1) := by decide +kernel
theorem dX12_readCalendar_109 : decode cX12_readCalendar 109 = .ok (.iload_n 1, 1) := by decide +kernel
theorem dX12_readCalendar_110 : decode cX12_readCalendar 110 = .ok (.imul, 1) := by decide +kernel
theorem dX12_readCalendar_111 : decode cX12_readCalendar 111 = .ok (.aload_n 0, 1) := by decide +kernel
theorem dX12_readCalendar_112 : decode cX12_readCalendar 112 = .ok (.getfield 16, 3) := by decide +kernel
theorem dX12_readCalendar_115 : decode cX12_readCalendar 115 = .ok (.iload_n 1, 1) := by decide +kernel
theorem dX12_readCalendar_116 : decode cX12_readCalendar 116 = .ok (.iaload, 1) := by decide +kernel
theorem dX12_readCalendar_117 : decode cX12_readCalendar 117 = .ok (.iadd, 1) := by decide +kernel
theorem dX12_readCalendar_118 : decode cX12_readCalendar 118 = .ok (.invokevirtual 224, 3) := by decide +kernel
theorem dX12_readCalendar_121 : decode cX12_readCalendar 121 = .ok (.goto (-52), 3) := by decide +kernel
theorem dX12_readCalendar_124 : decode cX12_readCalendar 124 = .ok (.aload_n 0, 1) := by decide +kernel
theorem dX12_readCalendar_125 : decode cX12_readCalendar 125 = .ok (.getfield 173, 3) := by decide +kernel
theorem dX12_readCalendar_128 : decode cX12_readCalendar 128 = .ok (.iconst (-1), 1) := by decide +kernel
theorem dX12_readCalendar_129 : decode cX12_readCalendar 129 = .ok (.if_icmp .ne 15, 3) := by decide +kernel
theorem dX12_readCalendar_132 : decode cX12_readCalendar 132 = .ok (.aload_n 0, 1) := by decide +kernel
theorem dX12_readCalendar_133 : decode cX12_readCalendar 133 = .ok (.invokevirtual 176, 3) := by decide +kernel
theorem dX12_readCalendar_136 : decode cX12_readCalendar 136 = .ok (.iconst (-1), 1) := by decide +kernel
theorem dX12_readCalendar_137 : decode cX12_readCalendar 137 = .ok (.if_icmp .eq 7, 3) := by decide +kernel
theorem dX12_readCalendar_140 : decode cX12_readCalendar 140 = .ok (.aload_n 0, 1) := by decide +kernel
theorem dX12_readCalendar_141 : decode cX12_readCalendar 141 = .ok (.invokevirtual 179, 3) := by decide +kernel
theorem dX12_readCalendar_144 : decode cX12_readCalendar 144 = .ok (.aload_n 0, 1) := by decide +kernel
theorem dX12_readCalendar_145 : decode cX12_readCalendar 145 = .ok (.getfield 29, 3) := by decide +kernel
theorem dX12_readCalendar_148 : decode cX12_readCalendar 148 = .ok (.iconst 4, 1) := by decide +kernel
theorem dX12_readCalendar_149 : decode cX12_readCalendar 149 = .ok (.iload_n 1, 1) := by decide +kernel
theorem dX12_readCalendar_150 : decode cX12_readCalendar 150 = .ok (.imul, 1) := by decide +kernel
theorem dX12_readCalendar_151 : decode cX12_readCalendar 151 = .ok (.aload_n 0, 1) := by decide +kernel
theorem dX12_readCalendar_152 : decode cX12_readCalendar 152 = .ok (.getfield 16, 3) := by decide +kernel
theorem dX12_readCalendar_155 : decode cX12_readCalendar 155 = .ok (.iload_n 1, 1) := by decide +kernel
theorem dX12_readCalendar_156 : decode cX12_readCalendar 156 = .ok (.iaload, 1) := by decide +kernel
theorem dX12_readCalendar_157 : decode cX12_readCalendar 157 = .ok (.iadd, 1) := by decide +kernel
theorem dX12_readCalendar_158 : decode cX12_readCalendar 158 = .ok (.iconst 1, 1) := by decide +kernel
theorem dX12_readCalendar_159 : decode cX12_readCalendar 159 = .ok (.isub, 1) := by decide +kernel
theorem dX12_readCalendar_160 : decode cX12_readCalendar 160 = .ok (.sipush 9999, 3) := by decide +kernel
theorem dX12_readCalendar_163 : decode cX12_readCalendar 163 = .ok (.bipush 12, 2) := by decide +kernel
theorem dX12_readCalendar_165 : decode cX12_readCalendar 165 = .ok (.bipush 31, 2) := by decide +kernel
theorem dX12_readCalendar_167 : decode cX12_readCalendar 167 = .ok (.invokestatic 208, 3) := by decide +kernel
theorem dX12_readCalendar_170 : decode cX12_readCalendar 170 = .ok (.iastore, 1) := by decide +kernel
theorem dX12_readCalendar_171 : decode cX12_readCalendar 171 = .ok (.aload_n 0, 1) := by decide +kernel
theorem dX12_readCalendar_172 : decode cX12_readCalendar 172 = .ok (.getfield 173, 3) := by decide +kernel
theorem dX12_readCalendar_175 : decode cX12_readCalendar 175 = .ok (.ireturn, 1) := by decide +kernel
theorem dX12_change_0 : decode cX12_change 0 = .ok (.aload_n 0, 1) := by decide +kernel
theorem dX12_change_1 : decode cX12_change 1 = .ok (.iconst 1, 1) := by decide +kernel
theorem dX12_change_2 : decode cX12_change 2 = .ok (.sipush 9999, 3) := by decide +kernel
theorem dX12_change_5 : decode cX12_change 5 = .ok (.invokevirtual 211, 3) := by decide +kernel
theorem dX12_change_8 : decode cX12_change 8 = .ok (.istore_n 3, 1) := by decide +kernel
theorem dX12_change_9 : decode cX12_change 9 = .ok (.aload_n 0, 1) := by decide +kernel
theorem dX12_change_10 : decode cX12_change 10 = .ok (.bipush 46, 2) := by decide +kernel
theorem dX12_change_12 : decode cX12_change 12 = .ok (.invokevirtual 218, 3) := by decide +kernel
theorem dX12_change_15 : decode cX12_change 15 = .ok (.aload_n 0, 1) := by decide +kernel
theorem dX12_change_16 : decode cX12_change 16 = .ok (.iconst 1, 1) := by decide +kernel
theorem dX12_change_17 : decode cX12_change 17 = .ok (.bipush 12, 2) := by decide +kernel
theorem dX12_change_19 : decode cX12_change 19 = .ok (.invokevirtual 211, 3) := by decide +kernel
theorem dX12_change_22 : decode cX12_change 22 = .ok (.istore 4, 2) := by decide +kernel
theorem dX12_change_24 : decode cX12_change 24 = .ok (.aload_n 0, 1) := by decide +kernel
theorem dX12_change_25 : decode cX12_change 25 = .ok (.bipush 46, 2) := by decide +kernel
theorem dX12_change_27 : decode cX12_change 27 = .ok (.invokevirtual 218, 3) := by decide +kernel
theorem dX12_change_30 : decode cX12_change 30 = .ok (.aload_n 0, 1) := by decide +kernel
theorem dX12_change_31 : decode cX12_change 31 = .ok (.iconst 1, 1) := by decide +kernel
theorem dX12_change_32 : decode cX12_change 32 = .ok (.bipush 31, 2) := by decide +kernel
theorem dX12_change_34 : decode cX12_change 34 = .ok (.invokevirtual 193, 3) := by decide +kernel
theorem dX12_change_37 : decode cX12_change 37 = .ok (.istore 5, 2) := by decide +kernel
theorem dX12_change_39 : decode cX12_change 39 = .ok (.aload_n 0, 1) := by decide +kernel
theorem dX12_change_40 : decode cX12_change 40 = .ok (.getfield 173, 3) := by decide +kernel
theorem dX12_change_43 : decode cX12_change 43 = .ok (.iconst (-1), 1) := by decide +kernel
theorem dX12_change_44 : decode cX12_change 44 = .ok (.if_icmp .ne 41, 3) := by decide +kernel
theorem dX12_change_47 : decode cX12_change 47 = .ok (.iload 5, 2) := by decide +kernel
theorem dX12_change_49 : decode cX12_change 49 = .ok (.aload_n 0, 1) := by decide +kernel
theorem dX12_change_50 : decode cX12_change 50 = .ok (.iload_n 2, 1) := by decide +kernel
theorem dX12_change_51 : decode cX12_change 51 = .ok (.iconst 1, 1) := by decide +kernel
theorem dX12_change_52 : decode cX12_change 52 = .ok (.isub, 1) := by decide +kernel
theorem dX12_change_53 : decode cX12_change 53 = .ok (.iload_n 3, 1) := by decide +kernel
theorem dX12_change_54 : decode cX12_change 54 = .ok (.iload 4, 2) := by decide +kernel
theorem dX12_change_56 : decode cX12_change 56 = .ok (.invokevirtual 204, 3) := by decide +kernel
theorem dX12_change_59 : decode cX12_change 59 = .ok (.if_icmp .gt 22, 3) := by decide +kernel
theorem dX12_change_62 : decode cX12_change 62 = .ok (.iload_n 3, 1) := by decide +kernel
theorem dX12_change_63 : decode cX12_change 63 = .ok (.iload 4, 2) := by decide +kernel
theorem dX12_change_65 : decode cX12_change 65 = .ok (.iload 5, 2) := by decide +kernel
theorem dX12_change_67 : decode cX12_change 67 = .ok (.invokestatic 208, 3) := by decide +kernel
theorem dX12_change_70 : decode cX12_change 70 = .ok (.aload_n 0, 1) := by decide +kernel
theorem dX12_change_71 : decode cX12_change 71 = .ok (.getfield 32, 3) := by decide +kernel
theorem dX12_change_74 : decode cX12_change 74 = .ok (.iload_n 2, 1) := by decide +kernel
theorem dX12_change_75 : decode cX12_change 75 = .ok (.iconst 1, 1) := by decide +kernel
theorem dX12_change_76 : decode cX12_change 76 = .ok (.isub, 1) := by decide +kernel
theorem dX12_change_77 : decode cX12_change 77 = .ok (.iaload, 1) := by decide +kernel
theorem dX12_change_78 : decode cX12_change 78 = .ok (.if_icmp .ge 7, 3) := by decide +kernel
theorem dX12_change_81 : decode cX12_change 81 = .ok (.aload_n 0, 1) := by decide +kernel
theorem dX12_change_82 : decode cX12_change 82 = .ok (.invokevirtual 190, 3) := by decide +kernel
theorem dX12_change_85 : decode cX12_change 85 = .ok (.aload_n 0, 1) := by decide +kernel
theorem dX12_change_86 : decode cX12_change 86 = .ok (.invokevirtual 197, 3) := by decide +kernel
theorem dX12_change_89 : decode cX12_change 89 = .ok (.aload_n 0, 1) := by decide +kernel
theorem dX12_change_90 : decode cX12_change 90 = .ok (.bipush 45, 2) := by decide +kernel
theorem dX12_change_92 : decode cX12_change 92 = .ok (.invokevirtual 218, 3) := by decide +kernel
theorem dX12_change_95 : decode cX12_change 95 = .ok (.aload_n 0, 1) := by decide +kernel
theorem dX12_change_96 : decode cX12_change 96 = .ok (.iconst 0, 1) := by decide +kernel
theorem dX12_change_97 : decode cX12_change 97 = .ok (.bipush 30, 2) := by decide +kernel
theorem dX12_change_99 : decode cX12_change 99 = .ok (.invokevirtual 211, 3) := by decide +kernel
theorem dX12_change_102 : decode cX12_change 102 = .ok (.istore 6, 2) := by decide +kernel
theorem dX12_change_104 : decode cX12_change 104 = .ok (.aload_n 0, 1) := by decide +kernel
theorem dX12_change_105 : decode cX12_change 105 = .ok (.bipush 58, 2) := by decide +kernel
theorem dX12_change_107 : decode cX12_change 107 = .ok (.invokevirtual 218, 3) := by decide +kernel
theorem dX12_change_110 : decode cX12_change 110 = .ok (.aload_n 0, 1) := by decide +kernel
theorem dX12_change_111 : decode cX12_change 111 = .ok (.iload_n 2, 1) := by decide +kernel
theorem dX12_change_112 : decode cX12_change 112 = .ok (.invokevirtual 221, 3) := by decide +kernel
theorem dX12_change_115 : decode cX12_change 115 = .ok (.aload_n 0, 1) := by decide +kernel
theorem dX12_change_116 : decode cX12_change 116 = .ok (.getfield 173, 3) := by decide +kernel
theorem dX12_change_119 : decode cX12_change 119 = .ok (.iconst (-1), 1) := by decide +kernel
theorem dX12_change_120 : decode cX12_change 120 = .ok (.if_icmp .eq 4, 3) := by decide +kernel
theorem dX12_change_123 : decode cX12_change 123 = .ok (.return_, 1) := by decide +kernel
theorem dX12_change_124 : decode cX12_change 124 = .ok (.aload_n 0, 1) := by decide +kernel
theorem dX12_change_125 : decode cX12_change 125 = .ok (.getfield 29, 3) := by decide +kernel
theorem dX12_change_128 : decode cX12_change 128 = .ok (.iload_n 2, 1) := by decide +kernel
theorem dX12_change_129 : decode cX12_change 129 = .ok (.iconst 1, 1) := by decide +kernel
theorem dX12_change_130 : decode cX12_change 130 = .ok (.isub, 1) := by decide +kernel
theorem dX12_change_131 : decode cX12_change 131 = .ok (.iload_n 3, 1) := by decide +kernel
theorem dX12_change_132 : decode cX12_change 132 = .ok (.iload 4, 2) := by decide +kernel
theorem dX12_change_134 : decode cX12_change 134 = .ok (.iload 5, 2) := by decide +kernel
theorem dX12_change_136 : decode cX12_change 136 = .ok (.invokestatic 208, 3) := by decide +kernel
theorem dX12_change_139 : decode cX12_change 139 = .ok (.iastore, 1) := by decide +kernel
theorem dX12_change_140 : decode cX12_change 140 = .ok (.aload_n 0, 1) := by decide +kernel
theorem dX12_change_141 : decode cX12_change 141 = .ok (.getfield 35, 3) := by decide +kernel
theorem dX12_change_144 : decode cX12_change 144 = .ok (.iload_n 2, 1) := by decide +kernel
theorem dX12_change_145 : decode cX12_change 145 = .ok (.aload_n 0, 1) := by decide +kernel
theorem dX12_change_146 : decode cX12_change 146 = .ok (.getfield 35, 3) := by decide +kernel
theorem dX12_change_149 : decode cX12_change 149 = .ok (.iload_n 2, 1) := by decide +kernel
theorem dX12_change_150 : decode cX12_change 150 = .ok (.iconst 1, 1) := by decide +kernel
theorem dX12_change_151 : decode cX12_change 151 = .ok (.isub, 1) := by decide +kernel
theorem dX12_change_152 : decode cX12_change 152 = .ok (.iaload, 1) := by decide +kernel
theorem dX12_change_153 : decode cX12_change 153 = .ok (.aload_n 0, 1) := by decide +kernel
theorem dX12_change_154 : decode cX12_change 154 = .ok (.iload_n 2, 1) := by decide +kernel
theorem dX12_change_155 : decode cX12_change 155 = .ok (.iconst 1, 1) := by decide +kernel
theorem dX12_change_156 : decode cX12_change 156 = .ok (.isub, 1) := by decide +kernel
theorem dX12_change_157 : decode cX12_change 157 = .ok (.iload_n 3, 1) := by decide +kernel
theorem dX12_change_158 : decode cX12_change 158 = .ok (.iload 4, 2) := by decide +kernel
theorem dX12_change_160 : decode cX12_change 160 = .ok (.iload 5, 2) := by decide +kernel
theorem dX12_change_162 : decode cX12_change 162 = .ok (.invokestatic 208, 3) := by decide +kernel
theorem dX12_change_165 : decode cX12_change 165 = .ok (.invokevirtual 228, 3) := by decide +kernel
theorem dX12_change_168 : decode cX12_change 168 = .ok (.iadd, 1) := by decide +kernel
theorem dX12_change_169 : decode cX12_change 169 = .ok (.aload_n 0, 1) := by decide +kernel
theorem dX12_change_170 : decode cX12_change 170 = .ok (.iload_n 2, 1) := by decide +kernel
theorem dX12_change_171 : decode cX12_change 171 = .ok (.iconst 1, 1) := by decide +kernel
theorem dX12_change_172 : decode cX12_change 172 = .ok (.isub, 1) := by decide +kernel
theorem dX12_change_173 : decode cX12_change 173 = .ok (.aload_n 0, 1) := by decide +kernel
theorem dX12_change_174 : decode cX12_change 174 = .ok (.getfield 32, 3) := by decide +kernel
theorem dX12_change_177 : decode cX12_change 177 = .ok (.iload_n 2, 1) := by decide +kernel
theorem dX12_change_178 : decode cX12_change 178 = .ok (.iconst 1, 1) := by decide +kernel
theorem dX12_change_179 : decode cX12_change 179 = .ok (.isub, 1) := by decide +kernel
theorem dX12_change_180 : decode cX12_change 180 = .ok (.iaload, 1) := by decide +kernel
theorem dX12_change_181 : decode cX12_change 181 = .ok (.invokevirtual 228, 3) := by decide +kernel
theorem dX12_change_184 : decode cX12_change 184 = .ok (.isub, 1) := by decide +kernel
theorem dX12_change_185 : decode cX12_change 185 = .ok (.iconst 1, 1) := by decide +kernel
theorem dX12_change_186 : decode cX12_change 186 = .ok (.iadd, 1) := by decide +kernel
theorem dX12_change_187 : decode cX12_change 187 = .ok (.iastore, 1) := by decide +kernel
theorem dX12_change_188 : decode cX12_change 188 = .ok (.aload_n 0, 1) := by decide +kernel
theorem dX12_change_189 : decode cX12_change 189 = .ok (.getfield 32, 3) := by decide +kernel
theorem dX12_change_192 : decode cX12_change 192 = .ok (.iload_n 2, 1) := by decide +kernel
theorem dX12_change_193 : decode cX12_change 193 = .ok (.aload_n 0, 1) := by decide +kernel
theorem dX12_change_194 : decode cX12_change 194 = .ok (.iload_n 2, 1) := by decide +kernel
theorem dX12_change_195 : decode cX12_change 195 = .ok (.aload_n 0, 1) := by decide +kernel
theorem dX12_change_196 : decode cX12_change 196 = .ok (.iload_n 2, 1) := by decide +kernel
theorem dX12_change_197 : decode cX12_change 197 = .ok (.iload_n 3, 1) := by decide +kernel
theorem dX12_change_198 : decode cX12_change 198 = .ok (.iload 4, 2) := by decide +kernel
theorem dX12_change_200 : decode cX12_change 200 = .ok (.iload 5, 2) := by decide +kernel
theorem dX12_change_202 : decode cX12_change 202 = .ok (.aload_n 0, 1) := by decide +kernel
theorem dX12_change_203 : decode cX12_change 203 = .ok (.iload_n 2, 1) := by decide +kernel
theorem dX12_change_204 : decode cX12_change 204 = .ok (.iload_n 3, 1) := by decide +kernel
theorem dX12_change_205 : decode cX12_change 205 = .ok (.iload 4, 2) := by decide +kernel
theorem dX12_change_207 : decode cX12_change 207 = .ok (.invokevirtual 204, 3) := by decide +kernel
theorem dX12_change_210 : decode cX12_change 210 = .ok (.invokestatic 231, 3) := by decide +kernel
theorem dX12_change_213 : decode cX12_change 213 = .ok (.invokestatic 208, 3) := by decide +kernel
theorem dX12_change_216 : decode cX12_change 216 = .ok (.invokevirtual 228, 3) := by decide +kernel
theorem dX12_change_219 : decode cX12_change 219 = .ok (.iload 6, 2) := by decide +kernel
theorem dX12_change_221 : decode cX12_change 221 = .ok (.iadd, 1) := by decide +kernel
theorem dX12_change_222 : decode cX12_change 222 = .ok (.iconst 1, 1) := by decide +kernel
theorem dX12_change_223 : decode cX12_change 223 = .ok (.iadd, 1) := by decide +kernel
theorem dX12_change_224 : decode cX12_change 224 = .ok (.invokevirtual 236, 3) := by decide +kernel
theorem dX12_change_227 : decode cX12_change 227 = .ok (.iastore, 1) := by decide +kernel
theorem dX12_change_228 : decode cX12_change 228 = .ok (.aload_n 0, 1) := by decide +kernel
theorem dX12_change_229 : decode cX12_change 229 = .ok (.getfield 16, 3) := by decide +kernel
theorem dX12_change_232 : decode cX12_change 232 = .ok (.iload_n 1, 1) := by decide +kernel
theorem dX12_change_233 : decode cX12_change 233 = .ok (.dup2, 1) := by decide +kernel
theorem dX12_change_234 : decode cX12_change 234 = .ok (.iaload, 1) := by decide +kernel
theorem dX12_change_235 : decode cX12_change 235 = .ok (.iconst 1, 1) := by decide +kernel
theorem dX12_change_236 : decode cX12_change 236 = .ok (.iadd, 1) := by decide +kernel
theorem dX12_change_237 : decode cX12_change 237 = .ok (.iastore, 1) := by decide +kernel
theorem dX12_change_238 : decode cX12_change 238 = .ok (.return_, 1) := by decide +kernel
theorem dX12_item_0 : decode cX12_item 0 = .ok (.aload_n 0, 1) := by decide +kernel
theorem dX12_item_1 : decode cX12_item 1 = .ok (.invokevirtual 176, 3) := by decide +kernel
theorem dX12_item_4 : decode cX12_item 4 = .ok (.istore_n 2, 1) := by decide +kernel
theorem dX12_item_5 : decode cX12_item 5 = .ok (.iload_n 2, 1) := by decide +kernel
theorem dX12_item_6 : decode cX12_item 6 = .ok (.bipush 107, 2) := by decide +kernel
theorem dX12_item_8 : decode cX12_item 8 = .ok (.if_icmp .ne 110, 3) := by decide +kernel
theorem dX12_item_11 : decode cX12_item 11 = .ok (.aload_n 0, 1) := by decide +kernel
theorem dX12_item_12 : decode cX12_item 12 = .ok (.getfield 42, 3) := by decide +kernel
theorem dX12_item_15 : decode cX12_item 15 = .ok (.iload_n 1, 1) := by decide +kernel
theorem dX12_item_16 : decode cX12_item 16 = .ok (.iaload, 1) := by decide +kernel
theorem dX12_item_17 : decode cX12_item 17 = .ok (.bipush 6, 2) := by decide +kernel
theorem dX12_item_19 : decode cX12_item 19 = .ok (.if_icmp .ge 99, 3) := by decide +kernel
theorem dX12_item_22 : decode cX12_item 22 = .ok (.aload_n 0, 1) := by decide +kernel
theorem dX12_item_23 : decode cX12_item 23 = .ok (.dup, 1) := by decide +kernel
theorem dX12_item_24 : decode cX12_item 24 = .ok (.getfield 166, 3) := by decide +kernel
theorem dX12_item_27 : decode cX12_item 27 = .ok (.iconst 1, 1) := by decide +kernel
theorem dX12_item_28 : decode cX12_item 28 = .ok (.iadd, 1) := by decide +kernel
theorem dX12_item_29 : decode cX12_item 29 = .ok (.putfield 166, 3) := by decide +kernel
theorem dX12_item_32 : decode cX12_item 32 = .ok (.aload_n 0, 1) := by decide +kernel
theorem dX12_item_33 : decode cX12_item 33 = .ok (.getfield 45, 3) := by decide +kernel
theorem dX12_item_36 : decode cX12_item 36 = .ok (.bipush 6, 2) := by decide +kernel
theorem dX12_item_38 : decode cX12_item 38 = .ok (.iload_n 1, 1) := by decide +kernel
theorem dX12_item_39 : decode cX12_item 39 = .ok (.imul, 1) := by decide +kernel
theorem dX12_item_40 : decode cX12_item 40 = .ok (.aload_n 0, 1) := by decide +kernel
theorem dX12_item_41 : decode cX12_item 41 = .ok (.getfield 42, 3) := by decide +kernel
theorem dX12_item_44 : decode cX12_item 44 = .ok (.iload_n 1, 1) := by decide +kernel
theorem dX12_item_45 : decode cX12_item 45 = .ok (.iaload, 1) := by decide +kernel
theorem dX12_item_46 : decode cX12_item 46 = .ok (.iadd, 1) := by decide +kernel
theorem dX12_item_47 : decode cX12_item 47 = .ok (.aload_n 0, 1) := by decide +kernel
theorem dX12_item_48 : decode cX12_item 48 = .ok (.iconst 1, 1) := by decide +kernel
theorem dX12_item_49 : decode cX12_item 49 = .ok (.sipush 9999, 3) := by decide +kernel
theorem dX12_item_52 : decode cX12_item 52 = .ok (.invokevirtual 211, 3) := by decide +kernel
theorem dX12_item_55 : decode cX12_item 55 = .ok (.iastore, 1) := by decide +kernel
theorem dX12_item_56 : decode cX12_item 56 = .ok (.aload_n 0, 1) := by decide +kernel
theorem dX12_item_57 : decode cX12_item 57 = .ok (.bipush 45, 2) := by decide +kernel
theorem dX12_item_59 : decode cX12_item 59 = .ok (.invokevirtual 218, 3) := by decide +kernel
theorem dX12_item_62 : decode cX12_item 62 = .ok (.aload_n 0, 1) := by decide +kernel
theorem dX12_item_63 : decode cX12_item 63 = .ok (.getfield 48, 3) := by decide +kernel
theorem dX12_item_66 : decode cX12_item 66 = .ok (.bipush 6, 2) := by decide +kernel
theorem dX12_item_68 : decode cX12_item 68 = .ok (.iload_n 1, 1) := by decide +kernel
theorem dX12_item_69 : decode cX12_item 69 = .ok (.imul, 1) := by decide +kernel
theorem dX12_item_70 : decode cX12_item 70 = .ok (.aload_n 0, 1) := by decide +kernel
theorem dX12_item_71 : decode cX12_item 71 = .ok (.getfield 42, 3) := by decide +kernel
theorem dX12_item_74 : decode cX12_item 74 = .ok (.iload_n 1, 1) := by decide +kernel
theorem dX12_item_75 : decode cX12_item 75 = .ok (.iaload, 1) := by decide +kernel
theorem dX12_item_76 : decode cX12_item 76 = .ok (.iadd, 1) := by decide +kernel
theorem dX12_item_77 : decode cX12_item 77 = .ok (.aload_n 0, 1) := by decide +kernel
theorem dX12_item_78 : decode cX12_item 78 = .ok (.iconst 1, 1) := by decide +kernel
theorem dX12_item_79 : decode cX12_item 79 = .ok (.aload_n 0, 1) := by decide +kernel
theorem dX12_item_80 : decode cX12_item 80 = .ok (.getfield 45, 3) := by decide +kernel
theorem dX12_item_83 : decode cX12_item 83 = .ok (.bipush 6, 2) := by decide +kernel
theorem dX12_item_85 : decode cX12_item 85 = .ok (.iload_n 1, 1) := by decide +kernel
theorem dX12_item_86 : decode cX12_item 86 = .ok (.imul, 1) := by decide +kernel
theorem dX12_item_87 : decode cX12_item 87 = .ok (.aload_n 0, 1) := by decide +kernel
theorem dX12_item_88 : decode cX12_item 88 = .ok (.getfield 42, 3) := by decide +kernel
theorem dX12_item_91 : decode cX12_item 91 = .ok (.iload_n 1, 1) := by decide +kernel
theorem dX12_item_92 : decode cX12_item 92 = .ok (.iaload, 1) := by decide +kernel
theorem dX12_item_93 : decode cX12_item 93 = .ok (.iadd, 1) := by decide +kernel
theorem dX12_item_94 : decode cX12_item 94 = .ok (.iaload, 1) := by decide +kernel
theorem dX12_item_95 : decode cX12_item 95 = .ok (.invokestatic 239, 3) := by decide +kernel
theorem dX12_item_98 : decode cX12_item 98 = .ok (.sipush 9999, 3) := by decide +kernel
theorem dX12_item_101 : decode cX12_item 101 = .ok (.invokevirtual 211, 3) := by decide +kernel
theorem dX12_item_104 : decode cX12_item 104 = .ok (.iastore, 1) := by decide +kernel
theorem dX12_item_105 : decode cX12_item 105 = .ok (.aload_n 0, 1) := by decide +kernel
theorem dX12_item_106 : decode cX12_item 106 = .ok (.getfield 42, 3) := by decide +kernel
theorem dX12_item_109 : decode cX12_item 109 = .ok (.iload_n 1, 1) := by decide +kernel
theorem dX12_item_110 : decode cX12_item 110 = .ok (.dup2, 1) := by decide +kernel
theorem dX12_item_111 : decode cX12_item 111 = .ok (.iaload, 1) := by decide +kernel
theorem dX12_item_112 : decode cX12_item 112 = .ok (.iconst 1, 1) := by decide +kernel
theorem dX12_item_113 : decode cX12_item 113 = .ok (.iadd, 1) := by decide +kernel
theorem dX12_item_114 : decode cX12_item 114 = .ok (.iastore, 1) := by decide +kernel
theorem dX12_item_115 : decode cX12_item 115 = .ok (.goto 160, 3) := by decide +kernel
theorem dX12_item_118 : decode cX12_item 118 = .ok (.iload_n 2, 1) := by decide +kernel
theorem dX12_item_119 : decode cX12_item 119 = .ok (.bipush 121, 2) := by decide +kernel
theorem dX12_item_121 : decode cX12_item 121 = .ok (.if_icmp .ne 32, 3) := by decide +kernel
theorem dX12_item_124 : decode cX12_item 124 = .ok (.aload_n 0, 1) := by decide +kernel
theorem dX12_item_125 : decode cX12_item 125 = .ok (.getfield 51, 3) := by decide +kernel
theorem dX12_item_128 : decode cX12_item 128 = .ok (.iload_n 1, 1) := by decide +kernel
theorem dX12_item_129 : decode cX12_item 129 = .ok (.iaload, 1) := by decide +kernel
theorem dX12_item_130 : decode cX12_item 130 = .ok (.bipush 6, 2) := by decide +kernel
theorem dX12_item_132 : decode cX12_item 132 = .ok (.if_icmp .ge 21, 3) := by decide +kernel
theorem dX12_item_135 : decode cX12_item 135 = .ok (.aload_n 0, 1) := by decide +kernel
theorem dX12_item_136 : decode cX12_item 136 = .ok (.dup, 1) := by decide +kernel
theorem dX12_item_137 : decode cX12_item 137 = .ok (.getfield 166, 3) := by decide +kernel
theorem dX12_item_140 : decode cX12_item 140 = .ok (.iconst 1, 1) := by decide +kernel
theorem dX12_item_141 : decode cX12_item 141 = .ok (.iadd, 1) := by decide +kernel
theorem dX12_item_142 : decode cX12_item 142 = .ok (.putfield 166, 3) := by decide +kernel
theorem dX12_item_145 : decode cX12_item 145 = .ok (.aload_n 0, 1) := by decide +kernel
theorem dX12_item_146 : decode cX12_item 146 = .ok (.iload_n 1, 1) := by decide +kernel
theorem dX12_item_147 : decode cX12_item 147 = .ok (.invokevirtual 242, 3) := by decide +kernel
theorem dX12_item_150 : decode cX12_item 150 = .ok (.goto 125, 3) := by decide +kernel
theorem dX12_item_153 : decode cX12_item 153 = .ok (.iload_n 2, 1) := by decide +kernel
theorem dX12_item_154 : decode cX12_item 154 = .ok (.bipush 109, 2) := by decide +kernel
theorem dX12_item_156 : decode cX12_item 156 = .ok (.if_icmp .ne 32, 3) := by decide +kernel
theorem dX12_item_159 : decode cX12_item 159 = .ok (.aload_n 0, 1) := by decide +kernel
theorem dX12_item_160 : decode cX12_item 160 = .ok (.getfield 60, 3) := by decide +kernel
theorem dX12_item_163 : decode cX12_item 163 = .ok (.iload_n 1, 1) := by decide +kernel
theorem dX12_item_164 : decode cX12_item 164 = .ok (.iaload, 1) := by decide +kernel
theorem dX12_item_165 : decode cX12_item 165 = .ok (.bipush 12, 2) := by decide +kernel
theorem dX12_item_167 : decode cX12_item 167 = .ok (.if_icmp .ge 21, 3) := by decide +kernel
theorem dX12_item_170 : decode cX12_item 170 = .ok (.aload_n 0, 1) := by decide +kernel
theorem dX12_item_171 : decode cX12_item 171 = .ok (.dup, 1) := by decide +kernel
theorem dX12_item_172 : decode cX12_item 172 = .ok (.getfield 166, 3) := by decide +kernel
theorem dX12_item_175 : decode cX12_item 175 = .ok (.iconst 1, 1) := by decide +kernel
theorem dX12_item_176 : decode cX12_item 176 = .ok (.iadd, 1) := by decide +kernel
theorem dX12_item_177 : decode cX12_item 177 = .ok (.putfield 166, 3) := by decide +kernel
theorem dX12_item_180 : decode cX12_item 180 = .ok (.aload_n 0, 1) := by decide +kernel
theorem dX12_item_181 : decode cX12_item 181 = .ok (.iload_n 1, 1) := by decide +kernel
theorem dX12_item_182 : decode cX12_item 182 = .ok (.invokevirtual 245, 3) := by decide +kernel
theorem dX12_item_185 : decode cX12_item 185 = .ok (.goto 90, 3) := by decide +kernel
theorem dX12_item_188 : decode cX12_item 188 = .ok (.iload_n 2, 1) := by decide +kernel
theorem dX12_item_189 : decode cX12_item 189 = .ok (.bipush 111, 2) := by decide +kernel
theorem dX12_item_191 : decode cX12_item 191 = .ok (.if_icmp .ne 78, 3) := by decide +kernel
theorem dX12_item_194 : decode cX12_item 194 = .ok (.aload_n 0, 1) := by decide +kernel
theorem dX12_item_195 : decode cX12_item 195 = .ok (.dup, 1) := by decide +kernel
theorem dX12_item_196 : decode cX12_item 196 = .ok (.getfield 166, 3) := by decide +kernel
theorem dX12_item_199 : decode cX12_item 199 = .ok (.iconst 1, 1) := by decide +kernel
theorem dX12_item_200 : decode cX12_item 200 = .ok (.iadd, 1) := by decide +kernel
theorem dX12_item_201 : decode cX12_item 201 = .ok (.putfield 166, 3) := by decide +kernel
theorem dX12_item_204 : decode cX12_item 204 = .ok (.aload_n 0, 1) := by decide +kernel
theorem dX12_item_205 : decode cX12_item 205 = .ok (.iconst 1, 1) := by decide +kernel
theorem dX12_item_206 : decode cX12_item 206 = .ok (.bipush 12, 2) := by decide +kernel
theorem dX12_item_208 : decode cX12_item 208 = .ok (.invokevirtual 193, 3) := by decide +kernel
theorem dX12_item_211 : decode cX12_item 211 = .ok (.istore_n 3, 1) := by decide +kernel
theorem dX12_item_212 : decode cX12_item 212 = .ok (.aload_n 0, 1) := by decide +kernel
theorem dX12_item_213 : decode cX12_item 213 = .ok (.getfield 173, 3) := by decide +kernel
theorem dX12_item_216 : decode cX12_item 216 = .ok (.iconst (-1), 1) := by decide +kernel
theorem dX12_item_217 : decode cX12_item 217 = .ok (.if_icmp .ne 21, 3) := by decide +kernel
theorem dX12_item_220 : decode cX12_item 220 = .ok (.aload_n 0, 1) := by decide +kernel
theorem dX12_item_221 : decode cX12_item 221 = .ok (.getfield 72, 3) := by decide +kernel
theorem dX12_item_224 : decode cX12_item 224 = .ok (.iload_n 1, 1) := by decide +kernel
theorem dX12_item_225 : decode cX12_item 225 = .ok (.iaload, 1) := by decide +kernel
theorem dX12_item_226 : decode cX12_item 226 = .ok (.iload_n 3, 1) := by decide +kernel
theorem dX12_item_227 : decode cX12_item 227 = .ok (.ishr, 1) := by decide +kernel
theorem dX12_item_228 : decode cX12_item 228 = .ok (.iconst 1, 1) := by decide +kernel
theorem dX12_item_229 : decode cX12_item 229 = .ok (.iand, 1) := by decide +kernel
theorem dX12_item_230 : decode cX12_item 230 = .ok (.iconst 1, 1) := by decide +kernel
theorem dX12_item_231 : decode cX12_item 231 = .ok (.if_icmp .ne 7, 3) := by decide +kernel
theorem dX12_item_234 : decode cX12_item 234 = .ok (.aload_n 0, 1) := by decide +kernel
theorem dX12_item_235 : decode cX12_item 235 = .ok (.invokevirtual 190, 3) := by decide +kernel
theorem dX12_item_238 : decode cX12_item 238 = .ok (.aload_n 0, 1) := by decide +kernel
theorem dX12_item_239 : decode cX12_item 239 = .ok (.invokevirtual 197, 3) := by decide +kernel
theorem dX12_item_242 : decode cX12_item 242 = .ok (.aload_n 0, 1) := by decide +kernel
theorem dX12_item_243 : decode cX12_item 243 = .ok (.getfield 72, 3) := by decide +kernel
theorem dX12_item_246 : decode cX12_item 246 = .ok (.iload_n 1, 1) := by decide +kernel
theorem dX12_item_247 : decode cX12_item 247 = .ok (.dup2, 1) := by decide +kernel
theorem dX12_item_248 : decode cX12_item 248 = .ok (.iaload, 1) := by decide +kernel
theorem dX12_item_249 : decode cX12_item 249 = .ok (.aload_n 0, 1) := by decide +kernel
theorem dX12_item_250 : decode cX12_item 250 = .ok (.getfield 173, 3) := by decide +kernel
theorem dX12_item_253 : decode cX12_item 253 = .ok (.iconst (-1), 1) := by decide +kernel
theorem dX12_item_254 : decode cX12_item 254 = .ok (.if_icmp .ne 9, 3) := by decide +kernel
theorem dX12_item_257 : decode cX12_item 257 = .ok (.iconst 1, 1) := by decide +kernel
theorem dX12_item_258 : decode cX12_item 258 = .ok (.iload_n 3, 1) := by decide +kernel
theorem dX12_item_259 : decode cX12_item 259 = .ok (.ishl, 1) := by decide +kernel
theorem dX12_item_260 : decode cX12_item 260 = .ok (.goto 4, 3) := by decide +kernel
theorem dX12_item_263 : decode cX12_item 263 = .ok (.iconst 0, 1) := by decide +kernel
theorem dX12_item_264 : decode cX12_item 264 = .ok (.ior, 1) := by decide +kernel
theorem dX12_item_265 : decode cX12_item 265 = .ok (.iastore, 1) := by decide +kernel
theorem dX12_item_266 : decode cX12_item 266 = .ok (.goto 9, 3) := by decide +kernel
theorem dX12_item_269 : decode cX12_item 269 = .ok (.aload_n 0, 1) := by decide +kernel
theorem dX12_item_270 : decode cX12_item 270 = .ok (.iload_n 1, 1) := by decide +kernel
theorem dX12_item_271 : decode cX12_item 271 = .ok (.iload_n 2, 1) := by decide +kernel
theorem dX12_item_272 : decode cX12_item 272 = .ok (.invokevirtual 248, 3) := by decide +kernel
theorem dX12_item_275 : decode cX12_item 275 = .ok (.return_, 1) := by decide +kernel
theorem dX12_readStep_0 : decode cX12_readStep 0 = .ok (.aload_n 0, 1) := by decide +kernel
theorem dX12_readStep_1 : decode cX12_readStep 1 = .ok (.iconst 1, 1) := by decide +kernel
theorem dX12_readStep_2 : decode cX12_readStep 2 = .ok (.sipush 400, 3) := by decide +kernel
theorem dX12_readStep_5 : decode cX12_readStep 5 = .ok (.invokevirtual 193, 3) := by decide +kernel
theorem dX12_readStep_8 : decode cX12_readStep 8 = .ok (.istore_n 2, 1) := by decide +kernel
theorem dX12_readStep_9 : decode cX12_readStep 9 = .ok (.iconst 0, 1) := by decide +kernel
theorem dX12_readStep_10 : decode cX12_readStep 10 = .ok (.istore_n 3, 1) := by decide +kernel
theorem dX12_readStep_11 : decode cX12_readStep 11 = .ok (.iload_n 3, 1) := by decide +kernel
theorem dX12_readStep_12 : decode cX12_readStep 12 = .ok (.aload_n 0, 1) := by decide +kernel
theorem dX12_readStep_13 : decode cX12_readStep 13 = .ok (.getfield 51, 3) := by decide +kernel
theorem dX12_readStep_16 : decode cX12_readStep 16 = .ok (.iload_n 1, 1) := by decide +kernel
theorem dX12_readStep_17 : decode cX12_readStep 17 = .ok (.iaload, 1) := by decide +kernel
theorem dX12_readStep_18 : decode cX12_readStep 18 = .ok (.if_icmp .ge 36, 3) := by decide +kernel
theorem dX12_readStep_21 : decode cX12_readStep 21 = .ok (.aload_n 0, 1) := by decide +kernel
theorem dX12_readStep_22 : decode cX12_readStep 22 = .ok (.getfield 173, 3) := by decide +kernel
theorem dX12_readStep_25 : decode cX12_readStep 25 = .ok (.iconst (-1), 1) := by decide +kernel
theorem dX12_readStep_26 : decode cX12_readStep 26 = .ok (.if_icmp .ne 28, 3) := by decide +kernel
theorem dX12_readStep_29 : decode cX12_readStep 29 = .ok (.aload_n 0, 1) := by decide +kernel
theorem dX12_readStep_30 : decode cX12_readStep 30 = .ok (.getfield 54, 3) := by decide +kernel
theorem dX12_readStep_33 : decode cX12_readStep 33 = .ok (.bipush 6, 2) := by decide +kernel
theorem dX12_readStep_35 : decode cX12_readStep 35 = .ok (.iload_n 1, 1) := by decide +kernel
theorem dX12_readStep_36 : decode cX12_readStep 36 = .ok (.imul, 1) := by decide +kernel
theorem dX12_readStep_37 : decode cX12_readStep 37 = .ok (.iload_n 3, 1) := by decide +kernel
theorem dX12_readStep_38 : decode cX12_readStep 38 = .ok (.iadd, 1) := by decide +kernel
theorem dX12_readStep_39 : decode cX12_readStep 39 = .ok (.iaload, 1) := by decide +kernel
theorem dX12_readStep_40 : decode cX12_readStep 40 = .ok (.iload_n 2, 1) := by decide +kernel
theorem dX12_readStep_41 : decode cX12_readStep 41 = .ok (.if_icmp .ne 7, 3) := by decide +kernel
theorem dX12_readStep_44 : decode cX12_readStep 44 = .ok (.aload_n 0, 1) := by decide +kernel
theorem dX12_readStep_45 : decode cX12_readStep 45 = .ok (.invokevirtual 190, 3) := by decide +kernel
theorem dX12_readStep_48 : decode cX12_readStep 48 = .ok (.iinc 3 1, 3) := by decide +kernel
theorem dX12_readStep_51 : decode cX12_readStep 51 = .ok (.goto (-40), 3) := by decide +kernel
theorem dX12_readStep_54 : decode cX12_readStep 54 = .ok (.aload_n 0, 1) := by decide +kernel
theorem dX12_readStep_55 : decode cX12_readStep 55 = .ok (.invokevirtual 197, 3) := by decide +kernel
theorem dX12_readStep_58 : decode cX12_readStep 58 = .ok (.aload_n 0, 1) := by decide +kernel
theorem dX12_readStep_59 : decode cX12_readStep 59 = .ok (.bipush 58, 2) := by decide +kernel
theorem dX12_readStep_61 : decode cX12_readStep 61 = .ok (.invokevirtual 218, 3) := by decide +kernel
theorem dX12_readStep_64 : decode cX12_readStep 64 = .ok (.aload_n 0, 1) := by decide +kernel
theorem dX12_readStep_65 : decode cX12_readStep 65 = .ok (.getfield 54, 3) := by decide +kernel
theorem dX12_readStep_68 : decode cX12_readStep 68 = .ok (.bipush 6, 2) := by decide +kernel
theorem dX12_readStep_70 : decode cX12_readStep 70 = .ok (.iload_n 1, 1) := by decide +kernel
theorem dX12_readStep_71 : decode cX12_readStep 71 = .ok (.imul, 1) := by decide +kernel
theorem dX12_readStep_72 : decode cX12_readStep 72 = .ok (.aload_n 0, 1) := by decide +kernel
theorem dX12_readStep_73 : decode cX12_readStep 73 = .ok (.getfield 51, 3) := by decide +kernel
theorem dX12_readStep_76 : decode cX12_readStep 76 = .ok (.iload_n 1, 1) := by decide +kernel
theorem dX12_readStep_77 : decode cX12_readStep 77 = .ok (.iaload, 1) := by decide +kernel
theorem dX12_readStep_78 : decode cX12_readStep 78 = .ok (.iadd, 1) := by decide +kernel
theorem dX12_readStep_79 : decode cX12_readStep 79 = .ok (.iload_n 2, 1) := by decide +kernel
theorem dX12_readStep_80 : decode cX12_readStep 80 = .ok (.iastore, 1) := by decide +kernel
theorem dX12_readStep_81 : decode cX12_readStep 81 = .ok (.aload_n 0, 1) := by decide +kernel
theorem dX12_readStep_82 : decode cX12_readStep 82 = .ok (.getfield 57, 3) := by decide +kernel
theorem dX12_readStep_85 : decode cX12_readStep 85 = .ok (.bipush 6, 2) := by decide +kernel
theorem dX12_readStep_87 : decode cX12_readStep 87 = .ok (.iload_n 1, 1) := by decide +kernel
theorem dX12_readStep_88 : decode cX12_readStep 88 = .ok (.imul, 1) := by decide +kernel
theorem dX12_readStep_89 : decode cX12_readStep 89 = .ok (.aload_n 0, 1) := by decide +kernel
theorem dX12_readStep_90 : decode cX12_readStep 90 = .ok (.getfield 51, 3) := by decide +kernel
theorem dX12_readStep_93 : decode cX12_readStep 93 = .ok (.iload_n 1, 1) := by decide +kernel
theorem dX12_readStep_94 : decode cX12_readStep 94 = .ok (.iaload, 1) := by decide +kernel
theorem dX12_readStep_95 : decode cX12_readStep 95 = .ok (.iadd, 1) := by decide +kernel
theorem dX12_readStep_96 : decode cX12_readStep 96 = .ok (.aload_n 0, 1) := by decide +kernel
theorem dX12_readStep_97 : decode cX12_readStep 97 = .ok (.iconst 0, 1) := by decide +kernel
theorem dX12_readStep_98 : decode cX12_readStep 98 = .ok (.bipush 99, 2) := by decide +kernel
theorem dX12_readStep_100 : decode cX12_readStep 100 = .ok (.invokevirtual 211, 3) := by decide +kernel
theorem dX12_readStep_103 : decode cX12_readStep 103 = .ok (.iastore, 1) := by decide +kernel
theorem dX12_readStep_104 : decode cX12_readStep 104 = .ok (.aload_n 0, 1) := by decide +kernel
theorem dX12_readStep_105 : decode cX12_readStep 105 = .ok (.getfield 51, 3) := by decide +kernel
theorem dX12_readStep_108 : decode cX12_readStep 108 = .ok (.iload_n 1, 1) := by decide +kernel
theorem dX12_readStep_109 : decode cX12_readStep 109 = .ok (.dup2, 1) := by decide +kernel
theorem dX12_readStep_110 : decode cX12_readStep 110 = .ok (.iaload, 1) := by decide +kernel
theorem dX12_readStep_111 : decode cX12_readStep 111 = .ok (.iconst 1, 1) := by decide +kernel
theorem dX12_readStep_112 : decode cX12_readStep 112 = .ok (.iadd, 1) := by decide +kernel
theorem dX12_readStep_113 : decode cX12_readStep 113 = .ok (.iastore, 1) := by decide +kernel
theorem dX12_readStep_114 : decode cX12_readStep 114 = .ok (.return_, 1) := by decide +kernel
theorem dX12_readLike_0 : decode cX12_readLike 0 = .ok (.bipush 12, 2) := by decide +kernel
theorem dX12_readLike_2 : decode cX12_readLike 2 = .ok (.iload_n 1, 1) := by decide +kernel
theorem dX12_readLike_3 : decode cX12_readLike 3 = .ok (.imul, 1) := by decide +kernel
theorem dX12_readLike_4 : decode cX12_readLike 4 = .ok (.aload_n 0, 1) := by decide +kernel
theorem dX12_readLike_5 : decode cX12_readLike 5 = .ok (.getfield 60, 3) := by decide +kernel
theorem dX12_readLike_8 : decode cX12_readLike 8 = .ok (.iload_n 1, 1) := by decide +kernel
theorem dX12_readLike_9 : decode cX12_readLike 9 = .ok (.iaload, 1) := by decide +kernel
theorem dX12_readLike_10 : decode cX12_readLike 10 = .ok (.iadd, 1) := by decide +kernel
theorem dX12_readLike_11 : decode cX12_readLike 11 = .ok (.istore_n 2, 1) := by decide +kernel
theorem dX12_readLike_12 : decode cX12_readLike 12 = .ok (.aload_n 0, 1) := by decide +kernel
theorem dX12_readLike_13 : decode cX12_readLike 13 = .ok (.getfield 63, 3) := by decide +kernel
theorem dX12_readLike_16 : decode cX12_readLike 16 = .ok (.iload_n 2, 1) := by decide +kernel
theorem dX12_readLike_17 : decode cX12_readLike 17 = .ok (.aload_n 0, 1) := by decide +kernel
theorem dX12_readLike_18 : decode cX12_readLike 18 = .ok (.iconst 1, 1) := by decide +kernel
theorem dX12_readLike_19 : decode cX12_readLike 19 = .ok (.bipush 12, 2) := by decide +kernel
theorem dX12_readLike_21 : decode cX12_readLike 21 = .ok (.invokevirtual 211, 3) := by decide +kernel
theorem dX12_readLike_24 : decode cX12_readLike 24 = .ok (.iastore, 1) := by decide +kernel
theorem dX12_readLike_25 : decode cX12_readLike 25 = .ok (.aload_n 0, 1) := by decide +kernel
theorem dX12_readLike_26 : decode cX12_readLike 26 = .ok (.bipush 61, 2) := by decide +kernel
theorem dX12_readLike_28 : decode cX12_readLike 28 = .ok (.invokevirtual 218, 3) := by decide +kernel
theorem dX12_readLike_31 : decode cX12_readLike 31 = .ok (.aload_n 0, 1) := by decide +kernel
theorem dX12_readLike_32 : decode cX12_readLike 32 = .ok (.getfield 66, 3) := by decide +kernel
theorem dX12_readLike_35 : decode cX12_readLike 35 = .ok (.iload_n 2, 1) := by decide +kernel
theorem dX12_readLike_36 : decode cX12_readLike 36 = .ok (.aload_n 0, 1) := by decide +kernel
theorem dX12_readLike_37 : decode cX12_readLike 37 = .ok (.iconst 1, 1) := by decide +kernel
theorem dX12_readLike_38 : decode cX12_readLike 38 = .ok (.bipush 12, 2) := by decide +kernel
theorem dX12_readLike_40 : decode cX12_readLike 40 = .ok (.invokevirtual 193, 3) := by decide +kernel
theorem dX12_readLike_43 : decode cX12_readLike 43 = .ok (.iastore, 1) := by decide +kernel
theorem dX12_readLike_44 : decode cX12_readLike 44 = .ok (.aload_n 0, 1) := by decide +kernel
theorem dX12_readLike_45 : decode cX12_readLike 45 = .ok (.getfield 173, 3) := by decide +kernel
theorem dX12_readLike_48 : decode cX12_readLike 48 = .ok (.iconst (-1), 1) := by decide +kernel
theorem dX12_readLike_49 : decode cX12_readLike 49 = .ok (.if_icmp .ne 22, 3) := by decide +kernel
theorem dX12_readLike_52 : decode cX12_readLike 52 = .ok (.aload_n 0, 1) := by decide +kernel
theorem dX12_readLike_53 : decode cX12_readLike 53 = .ok (.getfield 66, 3) := by decide +kernel
theorem dX12_readLike_56 : decode cX12_readLike 56 = .ok (.iload_n 2, 1) := by decide +kernel
theorem dX12_readLike_57 : decode cX12_readLike 57 = .ok (.iaload, 1) := by decide +kernel
theorem dX12_readLike_58 : decode cX12_readLike 58 = .ok (.aload_n 0, 1) := by decide +kernel
theorem dX12_readLike_59 : decode cX12_readLike 59 = .ok (.getfield 63, 3) := by decide +kernel
theorem dX12_readLike_62 : decode cX12_readLike 62 = .ok (.iload_n 2, 1) := by decide +kernel
theorem dX12_readLike_63 : decode cX12_readLike 63 = .ok (.iaload, 1) := by decide +kernel
theorem dX12_readLike_64 : decode cX12_readLike 64 = .ok (.if_icmp .ne 7, 3) := by decide +kernel
theorem dX12_readLike_67 : decode cX12_readLike 67 = .ok (.aload_n 0, 1) := by decide +kernel
theorem dX12_readLike_68 : decode cX12_readLike 68 = .ok (.invokevirtual 190, 3) := by decide +kernel
theorem dX12_readLike_71 : decode cX12_readLike 71 = .ok (.aload_n 0, 1) := by decide +kernel
theorem dX12_readLike_72 : decode cX12_readLike 72 = .ok (.invokevirtual 197, 3) := by decide +kernel
theorem dX12_readLike_75 : decode cX12_readLike 75 = .ok (.aload_n 0, 1) := by decide +kernel
theorem dX12_readLike_76 : decode cX12_readLike 76 = .ok (.bipush 58, 2) := by decide +kernel
theorem dX12_readLike_78 : decode cX12_readLike 78 = .ok (.invokevirtual 218, 3) := by decide +kernel
theorem dX12_readLike_81 : decode cX12_readLike 81 = .ok (.aload_n 0, 1) := by decide +kernel
theorem dX12_readLike_82 : decode cX12_readLike 82 = .ok (.getfield 69, 3) := by decide +kernel
theorem dX12_readLike_85 : decode cX12_readLike 85 = .ok (.iload_n 2, 1) := by decide +kernel
theorem dX12_readLike_86 : decode cX12_readLike 86 = .ok (.aload_n 0, 1) := by decide +kernel
theorem dX12_readLike_87 : decode cX12_readLike 87 = .ok (.iconst 0, 1) := by decide +kernel
theorem dX12_readLike_88 : decode cX12_readLike 88 = .ok (.bipush 99, 2) := by decide +kernel
theorem dX12_readLike_90 : decode cX12_readLike 90 = .ok (.invokevirtual 211, 3) := by decide +kernel
theorem dX12_readLike_93 : decode cX12_readLike 93 = .ok (.iastore, 1) := by decide +kernel
theorem dX12_readLike_94 : decode cX12_readLike 94 = .ok (.aload_n 0, 1) := by decide +kernel
theorem dX12_readLike_95 : decode cX12_readLike 95 = .ok (.getfield 60, 3) := by decide +kernel
theorem dX12_readLike_98 : decode cX12_readLike 98 = .ok (.iload_n 1, 1) := by decide +kernel
theorem dX12_readLike_99 : decode cX12_readLike 99 = .ok (.dup2, 1) := by decide +kernel
theorem dX12_readLike_100 : decode cX12_readLike 100 = .ok (.iaload, 1) := by decide +kernel
theorem dX12_readLike_101 : decode cX12_readLike 101 = .ok (.iconst 1, 1) := by decide +kernel
theorem dX12_readLike_102 : decode cX12_readLike 102 = .ok (.iadd, 1) := by decide +kernel
theorem dX12_readLike_103 : decode cX12_readLike 103 = .ok (.iastore, 1) := by decide +kernel
theorem dX12_readLike_104 : decode cX12_readLike 104 = .ok (.return_, 1) := by decide +kernel
theorem dX12_readCost_0 : decode cX12_readCost 0 = .ok (.iload_n 2, 1) := by decide +kernel
theorem dX12_readCost_1 : decode cX12_readCost 1 = .ok (.bipush 115, 2) := by decide +kernel
theorem dX12_readCost_3 : decode cX12_readCost 3 = .ok (.if_icmp .ne 7, 3) := by decide +kernel
theorem dX12_readCost_6 : decode cX12_readCost 6 = .ok (.iconst 0, 1) := by decide +kernel
theorem dX12_readCost_7 : decode cX12_readCost 7 = .ok (.goto 34, 3) := by decide +kernel
theorem dX12_readCost_10 : decode cX12_readCost 10 = .ok (.iload_n 2, 1) := by decide +kernel
theorem dX12_readCost_11 : decode cX12_readCost 11 = .ok (.bipush 114, 2) := by decide +kernel
theorem dX12_readCost_13 : decode cX12_readCost 13 = .ok (.if_icmp .ne 7, 3) := by decide +kernel
theorem dX12_readCost_16 : decode cX12_readCost 16 = .ok (.iconst 1, 1) := by decide +kernel
theorem dX12_readCost_17 : decode cX12_readCost 17 = .ok (.goto 24, 3) := by decide +kernel
theorem dX12_readCost_20 : decode cX12_readCost 20 = .ok (.iload_n 2, 1) := by decide +kernel
theorem dX12_readCost_21 : decode cX12_readCost 21 = .ok (.bipush 98, 2) := by decide +kernel
theorem dX12_readCost_23 : decode cX12_readCost 23 = .ok (.if_icmp .ne 7, 3) := by decide +kernel
theorem dX12_readCost_26 : decode cX12_readCost 26 = .ok (.iconst 2, 1) := by decide +kernel
theorem dX12_readCost_27 : decode cX12_readCost 27 = .ok (.goto 14, 3) := by decide +kernel
theorem dX12_readCost_30 : decode cX12_readCost 30 = .ok (.iload_n 2, 1) := by decide +kernel
theorem dX12_readCost_31 : decode cX12_readCost 31 = .ok (.bipush 108, 2) := by decide +kernel
theorem dX12_readCost_33 : decode cX12_readCost 33 = .ok (.if_icmp .ne 7, 3) := by decide +kernel
theorem dX12_readCost_36 : decode cX12_readCost 36 = .ok (.iconst 3, 1) := by decide +kernel
theorem dX12_readCost_37 : decode cX12_readCost 37 = .ok (.goto 4, 3) := by decide +kernel
theorem dX12_readCost_40 : decode cX12_readCost 40 = .ok (.iconst (-1), 1) := by decide +kernel
theorem dX12_readCost_41 : decode cX12_readCost 41 = .ok (.istore_n 3, 1) := by decide +kernel
theorem dX12_readCost_42 : decode cX12_readCost 42 = .ok (.iload_n 3, 1) := by decide +kernel
theorem dX12_readCost_43 : decode cX12_readCost 43 = .ok (.iconst (-1), 1) := by decide +kernel
theorem dX12_readCost_44 : decode cX12_readCost 44 = .ok (.if_icmp .eq 15, 3) := by decide +kernel
theorem dX12_readCost_47 : decode cX12_readCost 47 = .ok (.aload_n 0, 1) := by decide +kernel
theorem dX12_readCost_48 : decode cX12_readCost 48 = .ok (.getfield 251, 3) := by decide +kernel
theorem dX12_readCost_51 : decode cX12_readCost 51 = .ok (.iload_n 3, 1) := by decide +kernel
theorem dX12_readCost_52 : decode cX12_readCost 52 = .ok (.ishr, 1) := by decide +kernel
theorem dX12_readCost_53 : decode cX12_readCost 53 = .ok (.iconst 1, 1) := by decide +kernel
theorem dX12_readCost_54 : decode cX12_readCost 54 = .ok (.iand, 1) := by decide +kernel
theorem dX12_readCost_55 : decode cX12_readCost 55 = .ok (.iconst 1, 1) := by decide +kernel
theorem dX12_readCost_56 : decode cX12_readCost 56 = .ok (.if_icmp .ne 8, 3) := by decide +kernel
theorem dX12_readCost_59 : decode cX12_readCost 59 = .ok (.aload_n 0, 1) := by decide +kernel
theorem dX12_readCost_60 : decode cX12_readCost 60 = .ok (.invokevirtual 179, 3) := by decide +kernel
theorem dX12_readCost_63 : decode cX12_readCost 63 = .ok (.return_, 1) := by decide +kernel
theorem dX12_readCost_64 : decode cX12_readCost 64 = .ok (.aload_n 0, 1) := by decide +kernel
theorem dX12_readCost_65 : decode cX12_readCost 65 = .ok (.dup, 1) := by decide +kernel
theorem dX12_readCost_66 : decode cX12_readCost 66 = .ok (.getfield 251, 3) := by decide +kernel
theorem dX12_readCost_69 : decode cX12_readCost 69 = .ok (.iconst 1, 1) := by decide +kernel
theorem dX12_readCost_70 : decode cX12_readCost 70 = .ok (.iload_n 3, 1) := by decide +kernel
theorem dX12_readCost_71 : decode cX12_readCost 71 = .ok (.ishl, 1) := by decide +kernel
theorem dX12_readCost_72 : decode cX12_readCost 72 = .ok (.ior, 1) := by decide +kernel
theorem dX12_readCost_73 : decode cX12_readCost 73 = .ok (.putfield 251, 3) := by decide +kernel
theorem dX12_readCost_76 : decode cX12_readCost 76 = .ok (.aload_n 0, 1) := by decide +kernel
theorem dX12_readCost_77 : decode cX12_readCost 77 = .ok (.dup, 1) := by decide +kernel
theorem dX12_readCost_78 : decode cX12_readCost 78 = .ok (.getfield 166, 3) := by decide +kernel
theorem dX12_readCost_81 : decode cX12_readCost 81 = .ok (.iconst 1, 1) := by decide +kernel
theorem dX12_readCost_82 : decode cX12_readCost 82 = .ok (.iadd, 1) := by decide +kernel
theorem dX12_readCost_83 : decode cX12_readCost 83 = .ok (.putfield 166, 3) := by decide +kernel
theorem dX12_readCost_86 : decode cX12_readCost 86 = .ok (.aload_n 0, 1) := by decide +kernel
theorem dX12_readCost_87 : decode cX12_readCost 87 = .ok (.getfield 75, 3) := by decide +kernel
theorem dX12_readCost_90 : decode cX12_readCost 90 = .ok (.iconst 4, 1) := by decide +kernel
theorem dX12_readCost_91 : decode cX12_readCost 91 = .ok (.iload_n 1, 1) := by decide +kernel
theorem dX12_readCost_92 : decode cX12_readCost 92 = .ok (.imul, 1) := by decide +kernel
theorem dX12_readCost_93 : decode cX12_readCost 93 = .ok (.iload_n 3, 1) := by decide +kernel
theorem dX12_readCost_94 : decode cX12_readCost 94 = .ok (.iadd, 1) := by decide +kernel
theorem dX12_readCost_95 : decode cX12_readCost 95 = .ok (.aload_n 0, 1) := by decide +kernel
theorem dX12_readCost_96 : decode cX12_readCost 96 = .ok (.iconst 0, 1) := by decide +kernel
theorem dX12_readCost_97 : decode cX12_readCost 97 = .ok (.bipush 99, 2) := by decide +kernel
theorem dX12_readCost_99 : decode cX12_readCost 99 = .ok (.invokevirtual 211, 3) := by decide +kernel
theorem dX12_readCost_102 : decode cX12_readCost 102 = .ok (.iastore, 1) := by decide +kernel
theorem dX12_readCost_103 : decode cX12_readCost 103 = .ok (.return_, 1) := by decide +kernel
theorem dX12_readHead_0 : decode cX12_readHead 0 = .ok (.aload_n 0, 1) := by decide +kernel
theorem dX12_readHead_1 : decode cX12_readHead 1 = .ok (.iconst 0, 1) := by decide +kernel
theorem dX12_readHead_2 : decode cX12_readHead 2 = .ok (.putfield 166, 3) := by decide +kernel
theorem dX12_readHead_5 : decode cX12_readHead 5 = .ok (.aload_n 0, 1) := by decide +kernel
theorem dX12_readHead_6 : decode cX12_readHead 6 = .ok (.iconst (-1), 1) := by decide +kernel
theorem dX12_readHead_7 : decode cX12_readHead 7 = .ok (.putfield 173, 3) := by decide +kernel
theorem dX12_readHead_10 : decode cX12_readHead 10 = .ok (.aload_n 0, 1) := by decide +kernel
theorem dX12_readHead_11 : decode cX12_readHead 11 = .ok (.iconst 0, 1) := by decide +kernel
theorem dX12_readHead_12 : decode cX12_readHead 12 = .ok (.putfield 251, 3) := by decide +kernel
theorem dX12_readHead_15 : decode cX12_readHead 15 = .ok (.aload_n 0, 1) := by decide +kernel
theorem dX12_readHead_16 : decode cX12_readHead 16 = .ok (.getfield 42, 3) := by decide +kernel
theorem dX12_readHead_19 : decode cX12_readHead 19 = .ok (.iload_n 1, 1) := by decide +kernel
theorem dX12_readHead_20 : decode cX12_readHead 20 = .ok (.iconst 0, 1) := by decide +kernel
theorem dX12_readHead_21 : decode cX12_readHead 21 = .ok (.iastore, 1) := by decide +kernel
theorem dX12_readHead_22 : decode cX12_readHead 22 = .ok (.aload_n 0, 1) := by decide +kernel
theorem dX12_readHead_23 : decode cX12_readHead 23 = .ok (.getfield 51, 3) := by decide +kernel
theorem dX12_readHead_26 : decode cX12_readHead 26 = .ok (.iload_n 1, 1) := by decide +kernel
theorem dX12_readHead_27 : decode cX12_readHead 27 = .ok (.iconst 0, 1) := by decide +kernel
theorem dX12_readHead_28 : decode cX12_readHead 28 = .ok (.iastore, 1) := by decide +kernel
theorem dX12_readHead_29 : decode cX12_readHead 29 = .ok (.aload_n 0, 1) := by decide +kernel
theorem dX12_readHead_30 : decode cX12_readHead 30 = .ok (.getfield 60, 3) := by decide +kernel
theorem dX12_readHead_33 : decode cX12_readHead 33 = .ok (.iload_n 1, 1) := by decide +kernel
theorem dX12_readHead_34 : decode cX12_readHead 34 = .ok (.iconst 0, 1) := by decide +kernel
theorem dX12_readHead_35 : decode cX12_readHead 35 = .ok (.iastore, 1) := by decide +kernel
theorem dX12_readHead_36 : decode cX12_readHead 36 = .ok (.aload_n 0, 1) := by decide +kernel
theorem dX12_readHead_37 : decode cX12_readHead 37 = .ok (.getfield 72, 3) := by decide +kernel
theorem dX12_readHead_40 : decode cX12_readHead 40 = .ok (.iload_n 1, 1) := by decide +kernel
theorem dX12_readHead_41 : decode cX12_readHead 41 = .ok (.iconst 0, 1) := by decide +kernel
theorem dX12_readHead_42 : decode cX12_readHead 42 = .ok (.iastore, 1) := by decide +kernel
theorem dX12_readHead_43 : decode cX12_readHead 43 = .ok (.iconst 0, 1) := by decide +kernel
theorem dX12_readHead_44 : decode cX12_readHead 44 = .ok (.istore_n 2, 1) := by decide +kernel
theorem dX12_readHead_45 : decode cX12_readHead 45 = .ok (.iload_n 2, 1) := by decide +kernel
theorem dX12_readHead_46 : decode cX12_readHead 46 = .ok (.iconst 4, 1) := by decide +kernel
theorem dX12_readHead_47 : decode cX12_readHead 47 = .ok (.if_icmp .ge 20, 3) := by decide +kernel
theorem dX12_readHead_50 : decode cX12_readHead 50 = .ok (.aload_n 0, 1) := by decide +kernel
theorem dX12_readHead_51 : decode cX12_readHead 51 = .ok (.getfield 75, 3) := by decide +kernel
theorem dX12_readHead_54 : decode cX12_readHead 54 = .ok (.iconst 4, 1) := by decide +kernel
theorem dX12_readHead_55 : decode cX12_readHead 55 = .ok (.iload_n 1, 1) := by decide +kernel
theorem dX12_readHead_56 : decode cX12_readHead 56 = .ok (.imul, 1) := by decide +kernel
theorem dX12_readHead_57 : decode cX12_readHead 57 = .ok (.iload_n 2, 1) := by decide +kernel
theorem dX12_readHead_58 : decode cX12_readHead 58 = .ok (.iadd, 1) := by decide +kernel
theorem dX12_readHead_59 : decode cX12_readHead 59 = .ok (.iconst 0, 1) := by decide +kernel
theorem dX12_readHead_60 : decode cX12_readHead 60 = .ok (.iastore, 1) := by decide +kernel
theorem dX12_readHead_61 : decode cX12_readHead 61 = .ok (.iinc 2 1, 3) := by decide +kernel
theorem dX12_readHead_64 : decode cX12_readHead 64 = .ok (.goto (-19), 3) := by decide +kernel
theorem dX12_readHead_67 : decode cX12_readHead 67 = .ok (.aload_n 0, 1) := by decide +kernel
theorem dX12_readHead_68 : decode cX12_readHead 68 = .ok (.iload_n 1, 1) := by decide +kernel
theorem dX12_readHead_69 : decode cX12_readHead 69 = .ok (.invokevirtual 254, 3) := by decide +kernel
theorem dX12_readHead_72 : decode cX12_readHead 72 = .ok (.aload_n 0, 1) := by decide +kernel
theorem dX12_readHead_73 : decode cX12_readHead 73 = .ok (.getfield 173, 3) := by decide +kernel
theorem dX12_readHead_76 : decode cX12_readHead 76 = .ok (.iconst (-1), 1) := by decide +kernel
theorem dX12_readHead_77 : decode cX12_readHead 77 = .ok (.if_icmp .ne 30, 3) := by decide +kernel
theorem dX12_readHead_80 : decode cX12_readHead 80 = .ok (.aload_n 0, 1) := by decide +kernel
theorem dX12_readHead_81 : decode cX12_readHead 81 = .ok (.invokevirtual 176, 3) := by decide +kernel
theorem dX12_readHead_84 : decode cX12_readHead 84 = .ok (.bipush 44, 2) := by decide +kernel
theorem dX12_readHead_86 : decode cX12_readHead 86 = .ok (.if_icmp .ne 21, 3) := by decide +kernel
theorem dX12_readHead_89 : decode cX12_readHead 89 = .ok (.aload_n 0, 1) := by decide +kernel
theorem dX12_readHead_90 : decode cX12_readHead 90 = .ok (.dup, 1) := by decide +kernel
theorem dX12_readHead_91 : decode cX12_readHead 91 = .ok (.getfield 166, 3) := by decide +kernel
theorem dX12_readHead_94 : decode cX12_readHead 94 = .ok (.iconst 1, 1) := by decide +kernel
theorem dX12_readHead_95 : decode cX12_readHead 95 = .ok (.iadd, 1) := by decide +kernel
theorem dX12_readHead_96 : decode cX12_readHead 96 = .ok (.putfield 166, 3) := by decide +kernel
theorem dX12_readHead_99 : decode cX12_readHead 99 = .ok (.aload_n 0, 1) := by decide +kernel
theorem dX12_readHead_100 : decode cX12_readHead 100 = .ok (.iload_n 1, 1) := by decide +kernel
theorem dX12_readHead_101 : decode cX12_readHead 101 = .ok (.invokevirtual 254, 3) := by decide +kernel
theorem dX12_readHead_104 : decode cX12_readHead 104 = .ok (.goto (-32), 3) := by decide +kernel
theorem dX12_readHead_107 : decode cX12_readHead 107 = .ok (.aload_n 0, 1) := by decide +kernel
theorem dX12_readHead_108 : decode cX12_readHead 108 = .ok (.getfield 173, 3) := by decide +kernel
theorem dX12_readHead_111 : decode cX12_readHead 111 = .ok (.iconst (-1), 1) := by decide +kernel
theorem dX12_readHead_112 : decode cX12_readHead 112 = .ok (.if_icmp .ne 15, 3) := by decide +kernel
theorem dX12_readHead_115 : decode cX12_readHead 115 = .ok (.aload_n 0, 1) := by decide +kernel
theorem dX12_readHead_116 : decode cX12_readHead 116 = .ok (.invokevirtual 176, 3) := by decide +kernel
theorem dX12_readHead_119 : decode cX12_readHead 119 = .ok (.iconst (-1), 1) := by decide +kernel
theorem dX12_readHead_120 : decode cX12_readHead 120 = .ok (.if_icmp .eq 7, 3) := by decide +kernel
theorem dX12_readHead_123 : decode cX12_readHead 123 = .ok (.aload_n 0, 1) := by decide +kernel
theorem dX12_readHead_124 : decode cX12_readHead 124 = .ok (.invokevirtual 179, 3) := by decide +kernel
theorem dX12_readHead_127 : decode cX12_readHead 127 = .ok (.aload_n 0, 1) := by decide +kernel
theorem dX12_readHead_128 : decode cX12_readHead 128 = .ok (.getfield 173, 3) := by decide +kernel
theorem dX12_readHead_131 : decode cX12_readHead 131 = .ok (.ireturn, 1) := by decide +kernel
theorem dX12_fault_0 : decode cX12_fault 0 = .ok (.iload_n 1, 1) := by decide +kernel
theorem dX12_fault_1 : decode cX12_fault 1 = .ok (.ifCond .ne 12, 3) := by decide +kernel
theorem dX12_fault_4 : decode cX12_fault 4 = .ok (.aload_n 0, 1) := by decide +kernel
theorem dX12_fault_5 : decode cX12_fault 5 = .ok (.bipush 6, 2) := by decide +kernel
theorem dX12_fault_7 : decode cX12_fault 7 = .ok (.invokevirtual 257, 3) := by decide +kernel
theorem dX12_fault_10 : decode cX12_fault 10 = .ok (.goto 32, 3) := by decide +kernel
theorem dX12_fault_13 : decode cX12_fault 13 = .ok (.iload_n 1, 1) := by decide +kernel
theorem dX12_fault_14 : decode cX12_fault 14 = .ok (.iconst 1, 1) := by decide +kernel
theorem dX12_fault_15 : decode cX12_fault 15 = .ok (.if_icmp .ne 12, 3) := by decide +kernel
theorem dX12_fault_18 : decode cX12_fault 18 = .ok (.aload_n 0, 1) := by decide +kernel
theorem dX12_fault_19 : decode cX12_fault 19 = .ok (.bipush 8, 2) := by decide +kernel
theorem dX12_fault_21 : decode cX12_fault 21 = .ok (.invokevirtual 261, 3) := by decide +kernel
theorem dX12_fault_24 : decode cX12_fault 24 = .ok (.goto 18, 3) := by decide +kernel
theorem dX12_fault_27 : decode cX12_fault 27 = .ok (.iload_n 1, 1) := by decide +kernel
theorem dX12_fault_28 : decode cX12_fault 28 = .ok (.iconst 2, 1) := by decide +kernel
theorem dX12_fault_29 : decode cX12_fault 29 = .ok (.if_icmp .ne 11, 3) := by decide +kernel
theorem dX12_fault_32 : decode cX12_fault 32 = .ok (.aload_n 0, 1) := by decide +kernel
theorem dX12_fault_33 : decode cX12_fault 33 = .ok (.iconst 0, 1) := by decide +kernel
theorem dX12_fault_34 : decode cX12_fault 34 = .ok (.invokevirtual 264, 3) := by decide +kernel
theorem dX12_fault_37 : decode cX12_fault 37 = .ok (.goto 5, 3) := by decide +kernel
theorem dX12_fault_40 : decode cX12_fault 40 = .ok (.bipush (-2), 2) := by decide +kernel
theorem dX12_fault_42 : decode cX12_fault 42 = .ok (.ireturn, 1) := by decide +kernel
theorem dX12_text_0 : decode cX12_text 0 = .ok (.iload_n 1, 1) := by decide +kernel
theorem dX12_text_1 : decode cX12_text 1 = .ok (.ifCond .ne 48, 3) := by decide +kernel
theorem dX12_text_4 : decode cX12_text 4 = .ok (.aload_n 0, 1) := by decide +kernel
theorem dX12_text_5 : decode cX12_text 5 = .ok (.getfield 268, 3) := by decide +kernel
theorem dX12_text_8 : decode cX12_text 8 = .ok (.bipush 6, 2) := by decide +kernel
theorem dX12_text_10 : decode cX12_text 10 = .ok (.if_icmp .eq 15, 3) := by decide +kernel
theorem dX12_text_13 : decode cX12_text 13 = .ok (.aload_n 0, 1) := by decide +kernel
theorem dX12_text_14 : decode cX12_text 14 = .ok (.aload_n 0, 1) := by decide +kernel
theorem dX12_text_15 : decode cX12_text 15 = .ok (.getfield 268, 3) := by decide +kernel
theorem dX12_text_18 : decode cX12_text 18 = .ok (.invokevirtual 257, 3) := by decide +kernel
theorem dX12_text_21 : decode cX12_text 21 = .ok (.iconst (-1), 1) := by decide +kernel
theorem dX12_text_22 : decode cX12_text 22 = .ok (.if_icmp .eq 5, 3) := by decide +kernel
theorem dX12_text_25 : decode cX12_text 25 = .ok (.iconst (-1), 1) := by decide +kernel
theorem dX12_text_26 : decode cX12_text 26 = .ok (.ireturn, 1) := by decide +kernel
theorem dX12_text_27 : decode cX12_text 27 = .ok (.aload_n 0, 1) := by decide +kernel
theorem dX12_text_28 : decode cX12_text 28 = .ok (.iconst 0, 1) := by decide +kernel
theorem dX12_text_29 : decode cX12_text 29 = .ok (.putfield 163, 3) := by decide +kernel
theorem dX12_text_32 : decode cX12_text 32 = .ok (.aload_n 0, 1) := by decide +kernel
theorem dX12_text_33 : decode cX12_text 33 = .ok (.dup, 1) := by decide +kernel
theorem dX12_text_34 : decode cX12_text 34 = .ok (.getfield 268, 3) := by decide +kernel
theorem dX12_text_37 : decode cX12_text 37 = .ok (.iconst 1, 1) := by decide +kernel
theorem dX12_text_38 : decode cX12_text 38 = .ok (.iadd, 1) := by decide +kernel
theorem dX12_text_39 : decode cX12_text 39 = .ok (.putfield 268, 3) := by decide +kernel
theorem dX12_text_42 : decode cX12_text 42 = .ok (.aload_n 0, 1) := by decide +kernel
theorem dX12_text_43 : decode cX12_text 43 = .ok (.getfield 268, 3) := by decide +kernel
theorem dX12_text_46 : decode cX12_text 46 = .ok (.iconst 1, 1) := by decide +kernel
theorem dX12_text_47 : decode cX12_text 47 = .ok (.isub, 1) := by decide +kernel
theorem dX12_text_48 : decode cX12_text 48 = .ok (.ireturn, 1) := by decide +kernel
theorem dX12_text_49 : decode cX12_text 49 = .ok (.iload_n 1, 1) := by decide +kernel
theorem dX12_text_50 : decode cX12_text 50 = .ok (.iconst 2, 1) := by decide +kernel
theorem dX12_text_51 : decode cX12_text 51 = .ok (.if_icmp .ne 8, 3) := by decide +kernel
theorem dX12_text_54 : decode cX12_text 54 = .ok (.aload_n 0, 1) := by decide +kernel
theorem dX12_text_55 : decode cX12_text 55 = .ok (.invokevirtual 271, 3) := by decide +kernel
theorem dX12_text_58 : decode cX12_text 58 = .ok (.ireturn, 1) := by decide +kernel
theorem dX12_text_59 : decode cX12_text 59 = .ok (.iload_n 1, 1) := by decide +kernel
theorem dX12_text_60 : decode cX12_text 60 = .ok (.iconst 1, 1) := by decide +kernel
theorem dX12_text_61 : decode cX12_text 61 = .ok (.if_icmp .ne 24, 3) := by decide +kernel
theorem dX12_text_64 : decode cX12_text 64 = .ok (.aload_n 0, 1) := by decide +kernel
theorem dX12_text_65 : decode cX12_text 65 = .ok (.getfield 274, 3) := by decide +kernel
theorem dX12_text_68 : decode cX12_text 68 = .ok (.bipush 8, 2) := by decide +kernel
theorem dX12_text_70 : decode cX12_text 70 = .ok (.if_icmp .eq 15, 3) := by decide +kernel
theorem dX12_text_73 : decode cX12_text 73 = .ok (.aload_n 0, 1) := by decide +kernel
theorem dX12_text_74 : decode cX12_text 74 = .ok (.aload_n 0, 1) := by decide +kernel
theorem dX12_text_75 : decode cX12_text 75 = .ok (.getfield 274, 3) := by decide +kernel
theorem dX12_text_78 : decode cX12_text 78 = .ok (.invokevirtual 261, 3) := by decide +kernel
theorem dX12_text_81 : decode cX12_text 81 = .ok (.iconst (-1), 1) := by decide +kernel
theorem dX12_text_82 : decode cX12_text 82 = .ok (.if_icmp .eq 5, 3) := by decide +kernel
theorem dX12_text_85 : decode cX12_text 85 = .ok (.iconst (-1), 1) := by decide +kernel
theorem dX12_text_86 : decode cX12_text 86 = .ok (.ireturn, 1) := by decide +kernel
theorem dX12_text_87 : decode cX12_text 87 = .ok (.aload_n 0, 1) := by decide +kernel
theorem dX12_text_88 : decode cX12_text 88 = .ok (.iconst 0, 1) := by decide +kernel
theorem dX12_text_89 : decode cX12_text 89 = .ok (.putfield 163, 3) := by decide +kernel
theorem dX12_text_92 : decode cX12_text 92 = .ok (.aload_n 0, 1) := by decide +kernel
theorem dX12_text_93 : decode cX12_text 93 = .ok (.getfield 78, 3) := by decide +kernel
theorem dX12_text_96 : decode cX12_text 96 = .ok (.aload_n 0, 1) := by decide +kernel
theorem dX12_text_97 : decode cX12_text 97 = .ok (.getfield 274, 3) := by decide +kernel
theorem dX12_text_100 : decode cX12_text 100 = .ok (.iconst 1, 1) := by decide +kernel
theorem dX12_text_101 : decode cX12_text 101 = .ok (.iastore, 1) := by decide +kernel
theorem dX12_text_102 : decode cX12_text 102 = .ok (.aload_n 0, 1) := by decide +kernel
theorem dX12_text_103 : decode cX12_text 103 = .ok (.aload_n 0, 1) := by decide +kernel
theorem dX12_text_104 : decode cX12_text 104 = .ok (.getfield 274, 3) := by decide +kernel
theorem dX12_text_107 : decode cX12_text 107 = .ok (.invokevirtual 277, 3) := by decide +kernel
theorem dX12_text_110 : decode cX12_text 110 = .ok (.aload_n 0, 1) := by decide +kernel
theorem dX12_text_111 : decode cX12_text 111 = .ok (.dup, 1) := by decide +kernel
theorem dX12_text_112 : decode cX12_text 112 = .ok (.getfield 274, 3) := by decide +kernel
theorem dX12_text_115 : decode cX12_text 115 = .ok (.iconst 1, 1) := by decide +kernel
theorem dX12_text_116 : decode cX12_text 116 = .ok (.iadd, 1) := by decide +kernel
theorem dX12_text_117 : decode cX12_text 117 = .ok (.putfield 274, 3) := by decide +kernel
theorem dX12_text_120 : decode cX12_text 120 = .ok (.aload_n 0, 1) := by decide +kernel
theorem dX12_text_121 : decode cX12_text 121 = .ok (.getfield 274, 3) := by decide +kernel
theorem dX12_text_124 : decode cX12_text 124 = .ok (.iconst 1, 1) := by decide +kernel
theorem dX12_text_125 : decode cX12_text 125 = .ok (.isub, 1) := by decide +kernel
theorem dX12_text_126 : decode cX12_text 126 = .ok (.ireturn, 1) := by decide +kernel
theorem dX12_isCalendar_0 : decode cX12_isCalendar 0 = .ok (.iload_n 1, 1) := by decide +kernel
theorem dX12_isCalendar_1 : decode cX12_isCalendar 1 = .ok (.iconst 0, 1) := by decide +kernel
theorem dX12_isCalendar_2 : decode cX12_isCalendar 2 = .ok (.aload_n 0, 1) := by decide +kernel
theorem dX12_isCalendar_3 : decode cX12_isCalendar 3 = .ok (.getfield 268, 3) := by decide +kernel
theorem dX12_isCalendar_6 : decode cX12_isCalendar 6 = .ok (.iconst 1, 1) := by decide +kernel
theorem dX12_isCalendar_7 : decode cX12_isCalendar 7 = .ok (.isub, 1) := by decide +kernel
theorem dX12_isCalendar_8 : decode cX12_isCalendar 8 = .ok (.invokestatic 186, 3) := by decide +kernel
theorem dX12_isCalendar_11 : decode cX12_isCalendar 11 = .ok (.ireturn, 1) := by decide +kernel
theorem dX12_stretchOf_0 : decode cX12_stretchOf 0 = .ok (.aload_n 0, 1) := by decide +kernel
theorem dX12_stretchOf_1 : decode cX12_stretchOf 1 = .ok (.iload_n 1, 1) := by decide +kernel
theorem dX12_stretchOf_2 : decode cX12_stretchOf 2 = .ok (.invokevirtual 280, 3) := by decide +kernel
theorem dX12_stretchOf_5 : decode cX12_stretchOf 5 = .ok (.ifCond .eq 35, 3) := by decide +kernel
theorem dX12_stretchOf_8 : decode cX12_stretchOf 8 = .ok (.iload_n 2, 1) := by decide +kernel
theorem dX12_stretchOf_9 : decode cX12_stretchOf 9 = .ok (.iconst 1, 1) := by decide +kernel
theorem dX12_stretchOf_10 : decode cX12_stretchOf 10 = .ok (.sipush 9999, 3) := by decide +kernel
theorem dX12_stretchOf_13 : decode cX12_stretchOf 13 = .ok (.invokestatic 186, 3) := by decide +kernel
theorem dX12_stretchOf_16 : decode cX12_stretchOf 16 = .ok (.ifCond .eq 24, 3) := by decide +kernel
theorem dX12_stretchOf_19 : decode cX12_stretchOf 19 = .ok (.iload_n 3, 1) := by decide +kernel
theorem dX12_stretchOf_20 : decode cX12_stretchOf 20 = .ok (.iconst 1, 1) := by decide +kernel
theorem dX12_stretchOf_21 : decode cX12_stretchOf 21 = .ok (.bipush 12, 2) := by decide +kernel
theorem dX12_stretchOf_23 : decode cX12_stretchOf 23 = .ok (.invokestatic 186, 3) := by decide +kernel
theorem dX12_stretchOf_26 : decode cX12_stretchOf 26 = .ok (.ifCond .eq 14, 3) := by decide +kernel
theorem dX12_stretchOf_29 : decode cX12_stretchOf 29 = .ok (.iload 4, 2) := by decide +kernel
theorem dX12_stretchOf_31 : decode cX12_stretchOf 31 = .ok (.iconst 1, 1) := by decide +kernel
theorem dX12_stretchOf_32 : decode cX12_stretchOf 32 = .ok (.bipush 31, 2) := by decide +kernel
theorem dX12_stretchOf_34 : decode cX12_stretchOf 34 = .ok (.invokestatic 186, 3) := by decide +kernel
theorem dX12_stretchOf_37 : decode cX12_stretchOf 37 = .ok (.ifCond .ne 5, 3) := by decide +kernel
theorem dX12_stretchOf_40 : decode cX12_stretchOf 40 = .ok (.iconst (-1), 1) := by decide +kernel
theorem dX12_stretchOf_41 : decode cX12_stretchOf 41 = .ok (.ireturn, 1) := by decide +kernel
theorem dX12_stretchOf_42 : decode cX12_stretchOf 42 = .ok (.iconst 4, 1) := by decide +kernel
theorem dX12_stretchOf_43 : decode cX12_stretchOf 43 = .ok (.iload_n 1, 1) := by decide +kernel
theorem dX12_stretchOf_44 : decode cX12_stretchOf 44 = .ok (.imul, 1) := by decide +kernel
theorem dX12_stretchOf_45 : decode cX12_stretchOf 45 = .ok (.istore 5, 2) := by decide +kernel
theorem dX12_stretchOf_47 : decode cX12_stretchOf 47 = .ok (.iload 5, 2) := by decide +kernel
theorem dX12_stretchOf_49 : decode cX12_stretchOf 49 = .ok (.iconst 4, 1) := by decide +kernel
theorem dX12_stretchOf_50 : decode cX12_stretchOf 50 = .ok (.iload_n 1, 1) := by decide +kernel
theorem dX12_stretchOf_51 : decode cX12_stretchOf 51 = .ok (.imul, 1) := by decide +kernel
theorem dX12_stretchOf_52 : decode cX12_stretchOf 52 = .ok (.aload_n 0, 1) := by decide +kernel
theorem dX12_stretchOf_53 : decode cX12_stretchOf 53 = .ok (.getfield 16, 3) := by decide +kernel
theorem dX12_stretchOf_56 : decode cX12_stretchOf 56 = .ok (.iload_n 1, 1) := by decide +kernel
theorem dX12_stretchOf_57 : decode cX12_stretchOf 57 = .ok (.iaload, 1) := by decide +kernel
theorem dX12_stretchOf_58 : decode cX12_stretchOf 58 = .ok (.iadd, 1) := by decide +kernel
theorem dX12_stretchOf_59 : decode cX12_stretchOf 59 = .ok (.if_icmp .ge 59, 3) := by decide +kernel
theorem dX12_stretchOf_62 : decode cX12_stretchOf 62 = .ok (.iload_n 2, 1) := by decide +kernel
theorem dX12_stretchOf_63 : decode cX12_stretchOf 63 = .ok (.iload_n 3, 1) := by decide +kernel
theorem dX12_stretchOf_64 : decode cX12_stretchOf 64 = .ok (.iload 4, 2) := by decide +kernel
theorem dX12_stretchOf_66 : decode cX12_stretchOf 66 = .ok (.invokestatic 208, 3) := by decide +kernel
theorem dX12_stretchOf_69 : decode cX12_stretchOf 69 = .ok (.aload_n 0, 1) := by decide +kernel
theorem dX12_stretchOf_70 : decode cX12_stretchOf 70 = .ok (.getfield 32, 3) := by decide +kernel
theorem dX12_stretchOf_73 : decode cX12_stretchOf 73 = .ok (.iload 5, 2) := by decide +kernel
theorem dX12_stretchOf_75 : decode cX12_stretchOf 75 = .ok (.iaload, 1) := by decide +kernel
theorem dX12_stretchOf_76 : decode cX12_stretchOf 76 = .ok (.if_icmp .lt 36, 3) := by decide +kernel
theorem dX12_stretchOf_79 : decode cX12_stretchOf 79 = .ok (.iload_n 2, 1) := by decide +kernel
theorem dX12_stretchOf_80 : decode cX12_stretchOf 80 = .ok (.iload_n 3, 1) := by decide +kernel
theorem dX12_stretchOf_81 : decode cX12_stretchOf 81 = .ok (.iload 4, 2) := by decide +kernel
theorem dX12_stretchOf_83 : decode cX12_stretchOf 83 = .ok (.invokestatic 208, 3) := by decide +kernel
theorem dX12_stretchOf_86 : decode cX12_stretchOf 86 = .ok (.aload_n 0, 1) := by decide +kernel
theorem dX12_stretchOf_87 : decode cX12_stretchOf 87 = .ok (.getfield 29, 3) := by decide +kernel
theorem dX12_stretchOf_90 : decode cX12_stretchOf 90 = .ok (.iload 5, 2) := by decide +kernel
theorem dX12_stretchOf_92 : decode cX12_stretchOf 92 = .ok (.iaload, 1) := by decide +kernel
theorem dX12_stretchOf_93 : decode cX12_stretchOf 93 = .ok (.if_icmp .gt 19, 3) := by decide +kernel
theorem dX12_stretchOf_96 : decode cX12_stretchOf 96 = .ok (.iload 4, 2) := by decide +kernel
theorem dX12_stretchOf_98 : decode cX12_stretchOf 98 = .ok (.aload_n 0, 1) := by decide +kernel
theorem dX12_stretchOf_99 : decode cX12_stretchOf 99 = .ok (.iload 5, 2) := by decide +kernel
theorem dX12_stretchOf_101 : decode cX12_stretchOf 101 = .ok (.iload_n 2, 1) := by decide +kernel
theorem dX12_stretchOf_102 : decode cX12_stretchOf 102 = .ok (.iload_n 3, 1) := by decide +kernel
theorem dX12_stretchOf_103 : decode cX12_stretchOf 103 = .ok (.invokevirtual 204, 3) := by decide +kernel
theorem dX12_stretchOf_106 : decode cX12_stretchOf 106 = .ok (.if_icmp .gt 6, 3) := by decide +kernel
theorem dX12_stretchOf_109 : decode cX12_stretchOf 109 = .ok (.iload 5, 2) := by decide +kernel
theorem dX12_stretchOf_111 : decode cX12_stretchOf 111 = .ok (.ireturn, 1) := by decide +kernel
theorem dX12_stretchOf_112 : decode cX12_stretchOf 112 = .ok (.iinc 5 1, 3) := by decide +kernel
theorem dX12_stretchOf_115 : decode cX12_stretchOf 115 = .ok (.goto (-68), 3) := by decide +kernel
theorem dX12_stretchOf_118 : decode cX12_stretchOf 118 = .ok (.iconst (-1), 1) := by decide +kernel
theorem dX12_stretchOf_119 : decode cX12_stretchOf 119 = .ok (.ireturn, 1) := by decide +kernel
theorem dX12_isDate_0 : decode cX12_isDate 0 = .ok (.aload_n 0, 1) := by decide +kernel
theorem dX12_isDate_1 : decode cX12_isDate 1 = .ok (.iload_n 1, 1) := by decide +kernel
theorem dX12_isDate_2 : decode cX12_isDate 2 = .ok (.iload_n 2, 1) := by decide +kernel
theorem dX12_isDate_3 : decode cX12_isDate 3 = .ok (.iload_n 3, 1) := by decide +kernel
theorem dX12_isDate_4 : decode cX12_isDate 4 = .ok (.iload 4, 2) := by decide +kernel
theorem dX12_isDate_6 : decode cX12_isDate 6 = .ok (.invokevirtual 283, 3) := by decide +kernel
theorem dX12_isDate_9 : decode cX12_isDate 9 = .ok (.iconst (-1), 1) := by decide +kernel
theorem dX12_isDate_10 : decode cX12_isDate 10 = .ok (.if_icmp .eq 7, 3) := by decide +kernel
theorem dX12_isDate_13 : decode cX12_isDate 13 = .ok (.iconst 1, 1) := by decide +kernel
theorem dX12_isDate_14 : decode cX12_isDate 14 = .ok (.goto 4, 3) := by decide +kernel
theorem dX12_isDate_17 : decode cX12_isDate 17 = .ok (.iconst 0, 1) := by decide +kernel
theorem dX12_isDate_18 : decode cX12_isDate 18 = .ok (.ireturn, 1) := by decide +kernel
theorem dX12_dayOf_0 : decode cX12_dayOf 0 = .ok (.aload_n 0, 1) := by decide +kernel
theorem dX12_dayOf_1 : decode cX12_dayOf 1 = .ok (.iload_n 1, 1) := by decide +kernel
theorem dX12_dayOf_2 : decode cX12_dayOf 2 = .ok (.iload_n 2, 1) := by decide +kernel
theorem dX12_dayOf_3 : decode cX12_dayOf 3 = .ok (.iload_n 3, 1) := by decide +kernel
theorem dX12_dayOf_4 : decode cX12_dayOf 4 = .ok (.iload 4, 2) := by decide +kernel
theorem dX12_dayOf_6 : decode cX12_dayOf 6 = .ok (.invokevirtual 283, 3) := by decide +kernel
theorem dX12_dayOf_9 : decode cX12_dayOf 9 = .ok (.istore 5, 2) := by decide +kernel
theorem dX12_dayOf_11 : decode cX12_dayOf 11 = .ok (.aload_n 0, 1) := by decide +kernel
theorem dX12_dayOf_12 : decode cX12_dayOf 12 = .ok (.getfield 35, 3) := by decide +kernel
theorem dX12_dayOf_15 : decode cX12_dayOf 15 = .ok (.iload 5, 2) := by decide +kernel
theorem dX12_dayOf_17 : decode cX12_dayOf 17 = .ok (.iaload, 1) := by decide +kernel
theorem dX12_dayOf_18 : decode cX12_dayOf 18 = .ok (.aload_n 0, 1) := by decide +kernel
theorem dX12_dayOf_19 : decode cX12_dayOf 19 = .ok (.iload 5, 2) := by decide +kernel
theorem dX12_dayOf_21 : decode cX12_dayOf 21 = .ok (.iload_n 2, 1) := by decide +kernel
theorem dX12_dayOf_22 : decode cX12_dayOf 22 = .ok (.iload_n 3, 1) := by decide +kernel
theorem dX12_dayOf_23 : decode cX12_dayOf 23 = .ok (.iload 4, 2) := by decide +kernel
theorem dX12_dayOf_25 : decode cX12_dayOf 25 = .ok (.invokestatic 208, 3) := by decide +kernel
theorem dX12_dayOf_28 : decode cX12_dayOf 28 = .ok (.invokevirtual 228, 3) := by decide +kernel
theorem dX12_dayOf_31 : decode cX12_dayOf 31 = .ok (.iadd, 1) := by decide +kernel
theorem dX12_dayOf_32 : decode cX12_dayOf 32 = .ok (.aload_n 0, 1) := by decide +kernel
theorem dX12_dayOf_33 : decode cX12_dayOf 33 = .ok (.iload 5, 2) := by decide +kernel
theorem dX12_dayOf_35 : decode cX12_dayOf 35 = .ok (.aload_n 0, 1) := by decide +kernel
theorem dX12_dayOf_36 : decode cX12_dayOf 36 = .ok (.getfield 32, 3) := by decide +kernel
theorem dX12_dayOf_39 : decode cX12_dayOf 39 = .ok (.iload 5, 2) := by decide +kernel
theorem dX12_dayOf_41 : decode cX12_dayOf 41 = .ok (.iaload, 1) := by decide +kernel
theorem dX12_dayOf_42 : decode cX12_dayOf 42 = .ok (.invokevirtual 228, 3) := by decide +kernel
theorem dX12_dayOf_45 : decode cX12_dayOf 45 = .ok (.isub, 1) := by decide +kernel
theorem dX12_dayOf_46 : decode cX12_dayOf 46 = .ok (.ireturn, 1) := by decide +kernel
theorem dX12_day_0 : decode cX12_day 0 = .ok (.aload_n 0, 1) := by decide +kernel
theorem dX12_day_1 : decode cX12_day 1 = .ok (.aload_n 0, 1) := by decide +kernel
theorem dX12_day_2 : decode cX12_day 2 = .ok (.iload_n 1, 1) := by decide +kernel
theorem dX12_day_3 : decode cX12_day 3 = .ok (.iload_n 2, 1) := by decide +kernel
theorem dX12_day_4 : decode cX12_day 4 = .ok (.iload_n 3, 1) := by decide +kernel
theorem dX12_day_5 : decode cX12_day 5 = .ok (.iload 4, 2) := by decide +kernel
theorem dX12_day_7 : decode cX12_day 7 = .ok (.invokevirtual 287, 3) := by decide +kernel
theorem dX12_day_10 : decode cX12_day 10 = .ok (.ifCond .eq 7, 3) := by decide +kernel
theorem dX12_day_13 : decode cX12_day 13 = .ok (.iconst 0, 1) := by decide +kernel
theorem dX12_day_14 : decode cX12_day 14 = .ok (.goto 4, 3) := by decide +kernel
theorem dX12_day_17 : decode cX12_day 17 = .ok (.iconst 1, 1) := by decide +kernel
theorem dX12_day_18 : decode cX12_day 18 = .ok (.putfield 156, 3) := by decide +kernel
theorem dX12_day_21 : decode cX12_day 21 = .ok (.aload_n 0, 1) := by decide +kernel
theorem dX12_day_22 : decode cX12_day 22 = .ok (.getfield 156, 3) := by decide +kernel
theorem dX12_day_25 : decode cX12_day 25 = .ok (.iconst 1, 1) := by decide +kernel
theorem dX12_day_26 : decode cX12_day 26 = .ok (.if_icmp .ne 7, 3) := by decide +kernel
theorem dX12_day_29 : decode cX12_day 29 = .ok (.iconst 0, 1) := by decide +kernel
theorem dX12_day_30 : decode cX12_day 30 = .ok (.goto 12, 3) := by decide +kernel
theorem dX12_day_33 : decode cX12_day 33 = .ok (.aload_n 0, 1) := by decide +kernel
theorem dX12_day_34 : decode cX12_day 34 = .ok (.iload_n 1, 1) := by decide +kernel
theorem dX12_day_35 : decode cX12_day 35 = .ok (.iload_n 2, 1) := by decide +kernel
theorem dX12_day_36 : decode cX12_day 36 = .ok (.iload_n 3, 1) := by decide +kernel
theorem dX12_day_37 : decode cX12_day 37 = .ok (.iload 4, 2) := by decide +kernel
theorem dX12_day_39 : decode cX12_day 39 = .ok (.invokevirtual 291, 3) := by decide +kernel
theorem dX12_day_42 : decode cX12_day 42 = .ok (.ireturn, 1) := by decide +kernel
theorem dX12_dateOf_0 : decode cX12_dateOf 0 = .ok (.iconst 4, 1) := by decide +kernel
theorem dX12_dateOf_1 : decode cX12_dateOf 1 = .ok (.iload_n 1, 1) := by decide +kernel
theorem dX12_dateOf_2 : decode cX12_dateOf 2 = .ok (.imul, 1) := by decide +kernel
theorem dX12_dateOf_3 : decode cX12_dateOf 3 = .ok (.istore_n 3, 1) := by decide +kernel
theorem dX12_dateOf_4 : decode cX12_dateOf 4 = .ok (.iload_n 3, 1) := by decide +kernel
theorem dX12_dateOf_5 : decode cX12_dateOf 5 = .ok (.iconst 4, 1) := by decide +kernel
theorem dX12_dateOf_6 : decode cX12_dateOf 6 = .ok (.iload_n 1, 1) := by decide +kernel
theorem dX12_dateOf_7 : decode cX12_dateOf 7 = .ok (.imul, 1) := by decide +kernel
theorem dX12_dateOf_8 : decode cX12_dateOf 8 = .ok (.aload_n 0, 1) := by decide +kernel
theorem dX12_dateOf_9 : decode cX12_dateOf 9 = .ok (.getfield 16, 3) := by decide +kernel
theorem dX12_dateOf_12 : decode cX12_dateOf 12 = .ok (.iload_n 1, 1) := by decide +kernel
theorem dX12_dateOf_13 : decode cX12_dateOf 13 = .ok (.iaload, 1) := by decide +kernel
theorem dX12_dateOf_14 : decode cX12_dateOf 14 = .ok (.iadd, 1) := by decide +kernel
theorem dX12_dateOf_15 : decode cX12_dateOf 15 = .ok (.if_icmp .ge 101, 3) := by decide +kernel
theorem dX12_dateOf_18 : decode cX12_dateOf 18 = .ok (.aload_n 0, 1) := by decide +kernel
theorem dX12_dateOf_19 : decode cX12_dateOf 19 = .ok (.iload_n 3, 1) := by decide +kernel
theorem dX12_dateOf_20 : decode cX12_dateOf 20 = .ok (.aload_n 0, 1) := by decide +kernel
theorem dX12_dateOf_21 : decode cX12_dateOf 21 = .ok (.getfield 32, 3) := by decide +kernel
theorem dX12_dateOf_24 : decode cX12_dateOf 24 = .ok (.iload_n 3, 1) := by decide +kernel
theorem dX12_dateOf_25 : decode cX12_dateOf 25 = .ok (.iaload, 1) := by decide +kernel
theorem dX12_dateOf_26 : decode cX12_dateOf 26 = .ok (.invokevirtual 228, 3) := by decide +kernel
theorem dX12_dateOf_29 : decode cX12_dateOf 29 = .ok (.istore 4, 2) := by decide +kernel
theorem dX12_dateOf_31 : decode cX12_dateOf 31 = .ok (.aload_n 0, 1) := by decide +kernel
theorem dX12_dateOf_32 : decode cX12_dateOf 32 = .ok (.getfield 29, 3) := by decide +kernel
theorem dX12_dateOf_35 : decode cX12_dateOf 35 = .ok (.iload_n 3, 1) := by decide +kernel
theorem dX12_dateOf_36 : decode cX12_dateOf 36 = .ok (.iaload, 1) := by decide +kernel
theorem dX12_dateOf_37 : decode cX12_dateOf 37 = .ok (.aload_n 0, 1) := by decide +kernel
theorem dX12_dateOf_38 : decode cX12_dateOf 38 = .ok (.getfield 32, 3) := by decide +kernel
theorem dX12_dateOf_41 : decode cX12_dateOf 41 = .ok (.iload_n 3, 1) := by decide +kernel
theorem dX12_dateOf_42 : decode cX12_dateOf 42 = .ok (.iaload, 1) := by decide +kernel
theorem dX12_dateOf_43 : decode cX12_dateOf 43 = .ok (.if_icmp .lt 42, 3) := by decide +kernel
theorem dX12_dateOf_46 : decode cX12_dateOf 46 = .ok (.iload_n 2, 1) := by decide +kernel
theorem dX12_dateOf_47 : decode cX12_dateOf 47 = .ok (.aload_n 0, 1) := by decide +kernel
theorem dX12_dateOf_48 : decode cX12_dateOf 48 = .ok (.getfield 35, 3) := by decide +kernel
theorem dX12_dateOf_51 : decode cX12_dateOf 51 = .ok (.iload_n 3, 1) := by decide +kernel
theorem dX12_dateOf_52 : decode cX12_dateOf 52 = .ok (.iaload, 1) := by decide +kernel
theorem dX12_dateOf_53 : decode cX12_dateOf 53 = .ok (.if_icmp .lt 32, 3) := by decide +kernel
theorem dX12_dateOf_56 : decode cX12_dateOf 56 = .ok (.iload_n 2, 1) := by decide +kernel
theorem dX12_dateOf_57 : decode cX12_dateOf 57 = .ok (.aload_n 0, 1) := by decide +kernel
theorem dX12_dateOf_58 : decode cX12_dateOf 58 = .ok (.getfield 35, 3) := by decide +kernel
theorem dX12_dateOf_61 : decode cX12_dateOf 61 = .ok (.iload_n 3, 1) := by decide +kernel
theorem dX12_dateOf_62 : decode cX12_dateOf 62 = .ok (.iaload, 1) := by decide +kernel
theorem dX12_dateOf_63 : decode cX12_dateOf 63 = .ok (.isub, 1) := by decide +kernel
theorem dX12_dateOf_64 : decode cX12_dateOf 64 = .ok (.aload_n 0, 1) := by decide +kernel
theorem dX12_dateOf_65 : decode cX12_dateOf 65 = .ok (.iload_n 3, 1) := by decide +kernel
theorem dX12_dateOf_66 : decode cX12_dateOf 66 = .ok (.aload_n 0, 1) := by decide +kernel
theorem dX12_dateOf_67 : decode cX12_dateOf 67 = .ok (.getfield 29, 3) := by decide +kernel
theorem dX12_dateOf_70 : decode cX12_dateOf 70 = .ok (.iload_n 3, 1) := by decide +kernel
theorem dX12_dateOf_71 : decode cX12_dateOf 71 = .ok (.iaload, 1) := by decide +kernel
theorem dX12_dateOf_72 : decode cX12_dateOf 72 = .ok (.invokevirtual 228, 3) := by decide +kernel
theorem dX12_dateOf_75 : decode cX12_dateOf 75 = .ok (.iload 4, 2) := by decide +kernel
theorem dX12_dateOf_77 : decode cX12_dateOf 77 = .ok (.isub, 1) := by decide +kernel
theorem dX12_dateOf_78 : decode cX12_dateOf 78 = .ok (.if_icmp .gt 7, 3) := by decide +kernel
theorem dX12_dateOf_81 : decode cX12_dateOf 81 = .ok (.iconst 1, 1) := by decide +kernel
theorem dX12_dateOf_82 : decode cX12_dateOf 82 = .ok (.goto 4, 3) := by decide +kernel
theorem dX12_dateOf_85 : decode cX12_dateOf 85 = .ok (.iconst 0, 1) := by decide +kernel
theorem dX12_dateOf_86 : decode cX12_dateOf 86 = .ok (.istore 5, 2) := by decide +kernel
theorem dX12_dateOf_88 : decode cX12_dateOf 88 = .ok (.iload 5, 2) := by decide +kernel
theorem dX12_dateOf_90 : decode cX12_dateOf 90 = .ok (.ifCond .eq 20, 3) := by decide +kernel
theorem dX12_dateOf_93 : decode cX12_dateOf 93 = .ok (.aload_n 0, 1) := by decide +kernel
theorem dX12_dateOf_94 : decode cX12_dateOf 94 = .ok (.iload_n 3, 1) := by decide +kernel
theorem dX12_dateOf_95 : decode cX12_dateOf 95 = .ok (.iload_n 2, 1) := by decide +kernel
theorem dX12_dateOf_96 : decode cX12_dateOf 96 = .ok (.aload_n 0, 1) := by decide +kernel
theorem dX12_dateOf_97 : decode cX12_dateOf 97 = .ok (.getfield 35, 3) := by decide +kernel
theorem dX12_dateOf_100 : decode cX12_dateOf 100 = .ok (.iload_n 3, 1) := by decide +kernel
theorem dX12_dateOf_101 : decode cX12_dateOf 101 = .ok (.iaload, 1) := by decide +kernel
theorem dX12_dateOf_102 : decode cX12_dateOf 102 = .ok (.isub, 1) := by decide +kernel
theorem dX12_dateOf_103 : decode cX12_dateOf 103 = .ok (.iload 4, 2) := by decide +kernel
theorem dX12_dateOf_105 : decode cX12_dateOf 105 = .ok (.iadd, 1) := by decide +kernel
theorem dX12_dateOf_106 : decode cX12_dateOf 106 = .ok (.invokevirtual 236, 3) := by decide +kernel
theorem dX12_dateOf_109 : decode cX12_dateOf 109 = .ok (.ireturn, 1) := by decide +kernel
theorem dX12_dateOf_110 : decode cX12_dateOf 110 = .ok (.iinc 3 1, 3) := by decide +kernel
theorem dX12_dateOf_113 : decode cX12_dateOf 113 = .ok (.goto (-109), 3) := by decide +kernel
theorem dX12_dateOf_116 : decode cX12_dateOf 116 = .ok (.iconst (-1), 1) := by decide +kernel
theorem dX12_dateOf_117 : decode cX12_dateOf 117 = .ok (.ireturn, 1) := by decide +kernel
theorem dX12_partOf_0 : decode cX12_partOf 0 = .ok (.iload_n 1, 1) := by decide +kernel
theorem dX12_partOf_1 : decode cX12_partOf 1 = .ok (.ifCond .ne 11, 3) := by decide +kernel
theorem dX12_partOf_4 : decode cX12_partOf 4 = .ok (.iload_n 0, 1) := by decide +kernel
theorem dX12_partOf_5 : decode cX12_partOf 5 = .ok (.sipush 10000, 3) := by decide +kernel
theorem dX12_partOf_8 : decode cX12_partOf 8 = .ok (.idiv, 1) := by decide +kernel
theorem dX12_partOf_9 : decode cX12_partOf 9 = .ok (.goto 22, 3) := by decide +kernel
theorem dX12_partOf_12 : decode cX12_partOf 12 = .ok (.iload_n 1, 1) := by decide +kernel
theorem dX12_partOf_13 : decode cX12_partOf 13 = .ok (.iconst 1, 1) := by decide +kernel
theorem dX12_partOf_14 : decode cX12_partOf 14 = .ok (.if_icmp .ne 13, 3) := by decide +kernel
theorem dX12_partOf_17 : decode cX12_partOf 17 = .ok (.iload_n 0, 1) := by decide +kernel
theorem dX12_partOf_18 : decode cX12_partOf 18 = .ok (.bipush 100, 2) := by decide +kernel
theorem dX12_partOf_20 : decode cX12_partOf 20 = .ok (.idiv, 1) := by decide +kernel
theorem dX12_partOf_21 : decode cX12_partOf 21 = .ok (.bipush 100, 2) := by decide +kernel
theorem dX12_partOf_23 : decode cX12_partOf 23 = .ok (.irem, 1) := by decide +kernel
theorem dX12_partOf_24 : decode cX12_partOf 24 = .ok (.goto 7, 3) := by decide +kernel
theorem dX12_partOf_27 : decode cX12_partOf 27 = .ok (.iload_n 0, 1) := by decide +kernel
theorem dX12_partOf_28 : decode cX12_partOf 28 = .ok (.bipush 100, 2) := by decide +kernel
theorem dX12_partOf_30 : decode cX12_partOf 30 = .ok (.irem, 1) := by decide +kernel
theorem dX12_partOf_31 : decode cX12_partOf 31 = .ok (.ireturn, 1) := by decide +kernel
theorem dX12_date_0 : decode cX12_date 0 = .ok (.aload_n 0, 1) := by decide +kernel
theorem dX12_date_1 : decode cX12_date 1 = .ok (.iload_n 1, 1) := by decide +kernel
theorem dX12_date_2 : decode cX12_date 2 = .ok (.invokevirtual 280, 3) := by decide +kernel
theorem dX12_date_5 : decode cX12_date 5 = .ok (.ifCond .eq 12, 3) := by decide +kernel
theorem dX12_date_8 : decode cX12_date 8 = .ok (.iload_n 3, 1) := by decide +kernel
theorem dX12_date_9 : decode cX12_date 9 = .ok (.iconst 0, 1) := by decide +kernel
theorem dX12_date_10 : decode cX12_date 10 = .ok (.iconst 3, 1) := by decide +kernel
theorem dX12_date_11 : decode cX12_date 11 = .ok (.invokestatic 186, 3) := by decide +kernel
theorem dX12_date_14 : decode cX12_date 14 = .ok (.ifCond .ne 5, 3) := by decide +kernel
theorem dX12_date_17 : decode cX12_date 17 = .ok (.iconst (-1), 1) := by decide +kernel
theorem dX12_date_18 : decode cX12_date 18 = .ok (.ireturn, 1) := by decide +kernel
theorem dX12_date_19 : decode cX12_date 19 = .ok (.aload_n 0, 1) := by decide +kernel
theorem dX12_date_20 : decode cX12_date 20 = .ok (.iload_n 1, 1) := by decide +kernel
theorem dX12_date_21 : decode cX12_date 21 = .ok (.iload_n 2, 1) := by decide +kernel
theorem dX12_date_22 : decode cX12_date 22 = .ok (.invokevirtual 294, 3) := by decide +kernel
theorem dX12_date_25 : decode cX12_date 25 = .ok (.istore 4, 2) := by decide +kernel
theorem dX12_date_27 : decode cX12_date 27 = .ok (.iload 4, 2) := by decide +kernel
theorem dX12_date_29 : decode cX12_date 29 = .ok (.iconst (-1), 1) := by decide +kernel
theorem dX12_date_30 : decode cX12_date 30 = .ok (.if_icmp .ne 7, 3) := by decide +kernel
theorem dX12_date_33 : decode cX12_date 33 = .ok (.iconst (-1), 1) := by decide +kernel
theorem dX12_date_34 : decode cX12_date 34 = .ok (.goto 21, 3) := by decide +kernel
theorem dX12_date_37 : decode cX12_date 37 = .ok (.iload_n 3, 1) := by decide +kernel
theorem dX12_date_38 : decode cX12_date 38 = .ok (.iconst 3, 1) := by decide +kernel
theorem dX12_date_39 : decode cX12_date 39 = .ok (.if_icmp .ne 10, 3) := by decide +kernel
theorem dX12_date_42 : decode cX12_date 42 = .ok (.iload_n 2, 1) := by decide +kernel
theorem dX12_date_43 : decode cX12_date 43 = .ok (.bipush 7, 2) := by decide +kernel
theorem dX12_date_45 : decode cX12_date 45 = .ok (.irem, 1) := by decide +kernel
theorem dX12_date_46 : decode cX12_date 46 = .ok (.goto 9, 3) := by decide +kernel
theorem dX12_date_49 : decode cX12_date 49 = .ok (.iload 4, 2) := by decide +kernel
theorem dX12_date_51 : decode cX12_date 51 = .ok (.iload_n 3, 1) := by decide +kernel
theorem dX12_date_52 : decode cX12_date 52 = .ok (.invokestatic 297, 3) := by decide +kernel
theorem dX12_date_55 : decode cX12_date 55 = .ok (.ireturn, 1) := by decide +kernel
theorem dX12_turned_0 : decode cX12_turned 0 = .ok (.aload_n 0, 1) := by decide +kernel
theorem dX12_turned_1 : decode cX12_turned 1 = .ok (.iload_n 1, 1) := by decide +kernel
theorem dX12_turned_2 : decode cX12_turned 2 = .ok (.iload_n 2, 1) := by decide +kernel
theorem dX12_turned_3 : decode cX12_turned 3 = .ok (.iload_n 3, 1) := by decide +kernel
theorem dX12_turned_4 : decode cX12_turned 4 = .ok (.iload 4, 2) := by decide +kernel
theorem dX12_turned_6 : decode cX12_turned 6 = .ok (.invokevirtual 287, 3) := by decide +kernel
theorem dX12_turned_9 : decode cX12_turned 9 = .ok (.ifCond .eq 42, 3) := by decide +kernel
theorem dX12_turned_12 : decode cX12_turned 12 = .ok (.aload_n 0, 1) := by decide +kernel
theorem dX12_turned_13 : decode cX12_turned 13 = .ok (.iload 5, 2) := by decide +kernel
theorem dX12_turned_15 : decode cX12_turned 15 = .ok (.invokevirtual 280, 3) := by decide +kernel
theorem dX12_turned_18 : decode cX12_turned 18 = .ok (.ifCond .eq 33, 3) := by decide +kernel
theorem dX12_turned_21 : decode cX12_turned 21 = .ok (.iload 6, 2) := by decide +kernel
theorem dX12_turned_23 : decode cX12_turned 23 = .ok (.iconst 0, 1) := by decide +kernel
theorem dX12_turned_24 : decode cX12_turned 24 = .ok (.iconst 2, 1) := by decide +kernel
theorem dX12_turned_25 : decode cX12_turned 25 = .ok (.invokestatic 186, 3) := by decide +kernel
theorem dX12_turned_28 : decode cX12_turned 28 = .ok (.ifCond .eq 23, 3) := by decide +kernel
theorem dX12_turned_31 : decode cX12_turned 31 = .ok (.aload_n 0, 1) := by decide +kernel
theorem dX12_turned_32 : decode cX12_turned 32 = .ok (.iload 5, 2) := by decide +kernel
theorem dX12_turned_34 : decode cX12_turned 34 = .ok (.aload_n 0, 1) := by decide +kernel
theorem dX12_turned_35 : decode cX12_turned 35 = .ok (.iload_n 1, 1) := by decide +kernel
theorem dX12_turned_36 : decode cX12_turned 36 = .ok (.iload_n 2, 1) := by decide +kernel
theorem dX12_turned_37 : decode cX12_turned 37 = .ok (.iload_n 3, 1) := by decide +kernel
theorem dX12_turned_38 : decode cX12_turned 38 = .ok (.iload 4, 2) := by decide +kernel
theorem dX12_turned_40 : decode cX12_turned 40 = .ok (.invokevirtual 291, 3) := by decide +kernel
theorem dX12_turned_43 : decode cX12_turned 43 = .ok (.iload 6, 2) := by decide +kernel
theorem dX12_turned_45 : decode cX12_turned 45 = .ok (.invokevirtual 300, 3) := by decide +kernel
theorem dX12_turned_48 : decode cX12_turned 48 = .ok (.goto 4, 3) := by decide +kernel
theorem dX12_turned_51 : decode cX12_turned 51 = .ok (.iconst (-1), 1) := by decide +kernel
theorem dX12_turned_52 : decode cX12_turned 52 = .ok (.ireturn, 1) := by decide +kernel
theorem dX12_many_0 : decode cX12_many 0 = .ok (.aload_n 0, 1) := by decide +kernel
theorem dX12_many_1 : decode cX12_many 1 = .ok (.iload_n 1, 1) := by decide +kernel
theorem dX12_many_2 : decode cX12_many 2 = .ok (.invokevirtual 280, 3) := by decide +kernel
theorem dX12_many_5 : decode cX12_many 5 = .ok (.ifCond .eq 24, 3) := by decide +kernel
theorem dX12_many_8 : decode cX12_many 8 = .ok (.iload_n 2, 1) := by decide +kernel
theorem dX12_many_9 : decode cX12_many 9 = .ok (.iconst 1, 1) := by decide +kernel
theorem dX12_many_10 : decode cX12_many 10 = .ok (.sipush 9999, 3) := by decide +kernel
theorem dX12_many_13 : decode cX12_many 13 = .ok (.invokestatic 186, 3) := by decide +kernel
theorem dX12_many_16 : decode cX12_many 16 = .ok (.ifCond .eq 13, 3) := by decide +kernel
theorem dX12_many_19 : decode cX12_many 19 = .ok (.iload_n 3, 1) := by decide +kernel
theorem dX12_many_20 : decode cX12_many 20 = .ok (.iconst 0, 1) := by decide +kernel
theorem dX12_many_21 : decode cX12_many 21 = .ok (.bipush 12, 2) := by decide +kernel
theorem dX12_many_23 : decode cX12_many 23 = .ok (.invokestatic 186, 3) := by decide +kernel
theorem dX12_many_26 : decode cX12_many 26 = .ok (.ifCond .ne 5, 3) := by decide +kernel
theorem dX12_many_29 : decode cX12_many 29 = .ok (.iconst (-1), 1) := by decide +kernel
theorem dX12_many_30 : decode cX12_many 30 = .ok (.ireturn, 1) := by decide +kernel
theorem dX12_many_31 : decode cX12_many 31 = .ok (.iconst 0, 1) := by decide +kernel
theorem dX12_many_32 : decode cX12_many 32 = .ok (.istore 4, 2) := by decide +kernel
theorem dX12_many_34 : decode cX12_many 34 = .ok (.iload_n 3, 1) := by decide +kernel
theorem dX12_many_35 : decode cX12_many 35 = .ok (.ifCond .ne 7, 3) := by decide +kernel
theorem dX12_many_38 : decode cX12_many 38 = .ok (.iconst 1, 1) := by decide +kernel
theorem dX12_many_39 : decode cX12_many 39 = .ok (.goto 4, 3) := by decide +kernel
theorem dX12_many_42 : decode cX12_many 42 = .ok (.iload_n 3, 1) := by decide +kernel
theorem dX12_many_43 : decode cX12_many 43 = .ok (.istore 5, 2) := by decide +kernel
theorem dX12_many_45 : decode cX12_many 45 = .ok (.iload 5, 2) := by decide +kernel
theorem dX12_many_47 : decode cX12_many 47 = .ok (.iload_n 3, 1) := by decide +kernel
theorem dX12_many_48 : decode cX12_many 48 = .ok (.ifCond .ne 8, 3) := by decide +kernel
theorem dX12_many_51 : decode cX12_many 51 = .ok (.bipush 12, 2) := by decide +kernel
theorem dX12_many_53 : decode cX12_many 53 = .ok (.goto 4, 3) := by decide +kernel
theorem dX12_many_56 : decode cX12_many 56 = .ok (.iload_n 3, 1) := by decide +kernel
theorem dX12_many_57 : decode cX12_many 57 = .ok (.if_icmp .gt 48, 3) := by decide +kernel
theorem dX12_many_60 : decode cX12_many 60 = .ok (.iconst 1, 1) := by decide +kernel
theorem dX12_many_61 : decode cX12_many 61 = .ok (.istore 6, 2) := by decide +kernel
theorem dX12_many_63 : decode cX12_many 63 = .ok (.iload 6, 2) := by decide +kernel
theorem dX12_many_65 : decode cX12_many 65 = .ok (.bipush 31, 2) := by decide +kernel
theorem dX12_many_67 : decode cX12_many 67 = .ok (.if_icmp .gt 32, 3) := by decide +kernel
theorem dX12_many_70 : decode cX12_many 70 = .ok (.iload 4, 2) := by decide +kernel
theorem dX12_many_72 : decode cX12_many 72 = .ok (.aload_n 0, 1) := by decide +kernel
theorem dX12_many_73 : decode cX12_many 73 = .ok (.iload_n 1, 1) := by decide +kernel
theorem dX12_many_74 : decode cX12_many 74 = .ok (.iload_n 2, 1) := by decide +kernel
theorem dX12_many_75 : decode cX12_many 75 = .ok (.iload 5, 2) := by decide +kernel
theorem dX12_many_77 : decode cX12_many 77 = .ok (.iload 6, 2) := by decide +kernel
theorem dX12_many_79 : decode cX12_many 79 = .ok (.invokevirtual 287, 3) := by decide +kernel
theorem dX12_many_82 : decode cX12_many 82 = .ok (.ifCond .eq 7, 3) := by decide +kernel
theorem dX12_many_85 : decode cX12_many 85 = .ok (.iconst 1, 1) := by decide +kernel
theorem dX12_many_86 : decode cX12_many 86 = .ok (.goto 4, 3) := by decide +kernel
theorem dX12_many_89 : decode cX12_many 89 = .ok (.iconst 0, 1) := by decide +kernel
theorem dX12_many_90 : decode cX12_many 90 = .ok (.iadd, 1) := by decide +kernel
theorem dX12_many_91 : decode cX12_many 91 = .ok (.istore 4, 2) := by decide +kernel
theorem dX12_many_93 : decode cX12_many 93 = .ok (.iinc 6 1, 3) := by decide +kernel
theorem dX12_many_96 : decode cX12_many 96 = .ok (.goto (-33), 3) := by decide +kernel
theorem dX12_many_99 : decode cX12_many 99 = .ok (.iinc 5 1, 3) := by decide +kernel
theorem dX12_many_102 : decode cX12_many 102 = .ok (.goto (-57), 3) := by decide +kernel
theorem dX12_many_105 : decode cX12_many 105 = .ok (.iload 4, 2) := by decide +kernel
theorem dX12_many_107 : decode cX12_many 107 = .ok (.ireturn, 1) := by decide +kernel
theorem dX12_kindOf_0 : decode cX12_kindOf 0 = .ok (.aload_n 0, 1) := by decide +kernel
theorem dX12_kindOf_1 : decode cX12_kindOf 1 = .ok (.iload_n 1, 1) := by decide +kernel
theorem dX12_kindOf_2 : decode cX12_kindOf 2 = .ok (.iload_n 2, 1) := by decide +kernel
theorem dX12_kindOf_3 : decode cX12_kindOf 3 = .ok (.iconst 1, 1) := by decide +kernel
theorem dX12_kindOf_4 : decode cX12_kindOf 4 = .ok (.iconst 1, 1) := by decide +kernel
theorem dX12_kindOf_5 : decode cX12_kindOf 5 = .ok (.invokevirtual 287, 3) := by decide +kernel
theorem dX12_kindOf_8 : decode cX12_kindOf 8 = .ok (.ifCond .eq 16, 3) := by decide +kernel
theorem dX12_kindOf_11 : decode cX12_kindOf 11 = .ok (.aload_n 0, 1) := by decide +kernel
theorem dX12_kindOf_12 : decode cX12_kindOf 12 = .ok (.iload_n 1, 1) := by decide +kernel
theorem dX12_kindOf_13 : decode cX12_kindOf 13 = .ok (.iload_n 2, 1) := by decide +kernel
theorem dX12_kindOf_14 : decode cX12_kindOf 14 = .ok (.bipush 12, 2) := by decide +kernel
theorem dX12_kindOf_16 : decode cX12_kindOf 16 = .ok (.bipush 31, 2) := by decide +kernel
theorem dX12_kindOf_18 : decode cX12_kindOf 18 = .ok (.invokevirtual 287, 3) := by decide +kernel
theorem dX12_kindOf_21 : decode cX12_kindOf 21 = .ok (.ifCond .ne 5, 3) := by decide +kernel
theorem dX12_kindOf_24 : decode cX12_kindOf 24 = .ok (.iconst (-1), 1) := by decide +kernel
theorem dX12_kindOf_25 : decode cX12_kindOf 25 = .ok (.ireturn, 1) := by decide +kernel
theorem dX12_kindOf_26 : decode cX12_kindOf 26 = .ok (.aload_n 0, 1) := by decide +kernel
theorem dX12_kindOf_27 : decode cX12_kindOf 27 = .ok (.iload_n 1, 1) := by decide +kernel
theorem dX12_kindOf_28 : decode cX12_kindOf 28 = .ok (.iload_n 2, 1) := by decide +kernel
theorem dX12_kindOf_29 : decode cX12_kindOf 29 = .ok (.iconst 1, 1) := by decide +kernel
theorem dX12_kindOf_30 : decode cX12_kindOf 30 = .ok (.iconst 1, 1) := by decide +kernel
theorem dX12_kindOf_31 : decode cX12_kindOf 31 = .ok (.invokevirtual 291, 3) := by decide +kernel
theorem dX12_kindOf_34 : decode cX12_kindOf 34 = .ok (.istore_n 3, 1) := by decide +kernel
theorem dX12_kindOf_35 : decode cX12_kindOf 35 = .ok (.aload_n 0, 1) := by decide +kernel
theorem dX12_kindOf_36 : decode cX12_kindOf 36 = .ok (.iload_n 1, 1) := by decide +kernel
theorem dX12_kindOf_37 : decode cX12_kindOf 37 = .ok (.iload_n 2, 1) := by decide +kernel
theorem dX12_kindOf_38 : decode cX12_kindOf 38 = .ok (.bipush 12, 2) := by decide +kernel
theorem dX12_kindOf_40 : decode cX12_kindOf 40 = .ok (.bipush 31, 2) := by decide +kernel
theorem dX12_kindOf_42 : decode cX12_kindOf 42 = .ok (.invokevirtual 291, 3) := by decide +kernel
theorem dX12_kindOf_45 : decode cX12_kindOf 45 = .ok (.iload_n 3, 1) := by decide +kernel
theorem dX12_kindOf_46 : decode cX12_kindOf 46 = .ok (.isub, 1) := by decide +kernel
theorem dX12_kindOf_47 : decode cX12_kindOf 47 = .ok (.istore 4, 2) := by decide +kernel
theorem dX12_kindOf_49 : decode cX12_kindOf 49 = .ok (.iload 4, 2) := by decide +kernel
theorem dX12_kindOf_51 : decode cX12_kindOf 51 = .ok (.sipush 364, 3) := by decide +kernel
theorem dX12_kindOf_54 : decode cX12_kindOf 54 = .ok (.sipush 365, 3) := by decide +kernel
theorem dX12_kindOf_57 : decode cX12_kindOf 57 = .ok (.invokestatic 186, 3) := by decide +kernel
theorem dX12_kindOf_60 : decode cX12_kindOf 60 = .ok (.ifCond .eq 19, 3) := by decide +kernel
theorem dX12_kindOf_63 : decode cX12_kindOf 63 = .ok (.iconst 2, 1) := by decide +kernel
theorem dX12_kindOf_64 : decode cX12_kindOf 64 = .ok (.iload_n 3, 1) := by decide +kernel
theorem dX12_kindOf_65 : decode cX12_kindOf 65 = .ok (.bipush 7, 2) := by decide +kernel
theorem dX12_kindOf_67 : decode cX12_kindOf 67 = .ok (.irem, 1) := by decide +kernel
theorem dX12_kindOf_68 : decode cX12_kindOf 68 = .ok (.imul, 1) := by decide +kernel
theorem dX12_kindOf_69 : decode cX12_kindOf 69 = .ok (.iload 4, 2) := by decide +kernel
theorem dX12_kindOf_71 : decode cX12_kindOf 71 = .ok (.iadd, 1) := by decide +kernel
theorem dX12_kindOf_72 : decode cX12_kindOf 72 = .ok (.sipush 364, 3) := by decide +kernel
theorem dX12_kindOf_75 : decode cX12_kindOf 75 = .ok (.isub, 1) := by decide +kernel
theorem dX12_kindOf_76 : decode cX12_kindOf 76 = .ok (.goto 4, 3) := by decide +kernel
theorem dX12_kindOf_79 : decode cX12_kindOf 79 = .ok (.iconst (-1), 1) := by decide +kernel
theorem dX12_kindOf_80 : decode cX12_kindOf 80 = .ok (.ireturn, 1) := by decide +kernel
theorem dX12_kind_0 : decode cX12_kind 0 = .ok (.aload_n 0, 1) := by decide +kernel
theorem dX12_kind_1 : decode cX12_kind 1 = .ok (.iload_n 1, 1) := by decide +kernel
theorem dX12_kind_2 : decode cX12_kind 2 = .ok (.invokevirtual 280, 3) := by decide +kernel
theorem dX12_kind_5 : decode cX12_kind 5 = .ok (.ifCond .eq 12, 3) := by decide +kernel
theorem dX12_kind_8 : decode cX12_kind 8 = .ok (.aload_n 0, 1) := by decide +kernel
theorem dX12_kind_9 : decode cX12_kind 9 = .ok (.iload_n 1, 1) := by decide +kernel
theorem dX12_kind_10 : decode cX12_kind 10 = .ok (.iload_n 2, 1) := by decide +kernel
theorem dX12_kind_11 : decode cX12_kind 11 = .ok (.invokevirtual 303, 3) := by decide +kernel
theorem dX12_kind_14 : decode cX12_kind 14 = .ok (.goto 4, 3) := by decide +kernel
theorem dX12_kind_17 : decode cX12_kind 17 = .ok (.iconst (-1), 1) := by decide +kernel
theorem dX12_kind_18 : decode cX12_kind 18 = .ok (.ireturn, 1) := by decide +kernel
theorem dX12_push_0 : decode cX12_push 0 = .ok (.aload_n 0, 1) := by decide +kernel
theorem dX12_push_1 : decode cX12_push 1 = .ok (.getfield 92, 3) := by decide +kernel
theorem dX12_push_4 : decode cX12_push 4 = .ok (.iload_n 1, 1) := by decide +kernel
theorem dX12_push_5 : decode cX12_push 5 = .ok (.baload, 1) := by decide +kernel
theorem dX12_push_6 : decode cX12_push 6 = .ok (.ifCond .ne 39, 3) := by decide +kernel
theorem dX12_push_9 : decode cX12_push 9 = .ok (.aload_n 0, 1) := by decide +kernel
theorem dX12_push_10 : decode cX12_push 10 = .ok (.getfield 92, 3) := by decide +kernel
theorem dX12_push_13 : decode cX12_push 13 = .ok (.iload_n 1, 1) := by decide +kernel
theorem dX12_push_14 : decode cX12_push 14 = .ok (.iconst 1, 1) := by decide +kernel
theorem dX12_push_15 : decode cX12_push 15 = .ok (.bastore, 1) := by decide +kernel
theorem dX12_push_16 : decode cX12_push 16 = .ok (.aload_n 0, 1) := by decide +kernel
theorem dX12_push_17 : decode cX12_push 17 = .ok (.getfield 89, 3) := by decide +kernel
theorem dX12_push_20 : decode cX12_push 20 = .ok (.aload_n 0, 1) := by decide +kernel
theorem dX12_push_21 : decode cX12_push 21 = .ok (.getfield 306, 3) := by decide +kernel
theorem dX12_push_24 : decode cX12_push 24 = .ok (.aload_n 0, 1) := by decide +kernel
theorem dX12_push_25 : decode cX12_push 25 = .ok (.getfield 309, 3) := by decide +kernel
theorem dX12_push_28 : decode cX12_push 28 = .ok (.iadd, 1) := by decide +kernel
theorem dX12_push_29 : decode cX12_push 29 = .ok (.sipush 10001, 3) := by decide +kernel
theorem dX12_push_32 : decode cX12_push 32 = .ok (.irem, 1) := by decide +kernel
theorem dX12_push_33 : decode cX12_push 33 = .ok (.iload_n 1, 1) := by decide +kernel
theorem dX12_push_34 : decode cX12_push 34 = .ok (.iastore, 1) := by decide +kernel
theorem dX12_push_35 : decode cX12_push 35 = .ok (.aload_n 0, 1) := by decide +kernel
theorem dX12_push_36 : decode cX12_push 36 = .ok (.dup, 1) := by decide +kernel
theorem dX12_push_37 : decode cX12_push 37 = .ok (.getfield 309, 3) := by decide +kernel
theorem dX12_push_40 : decode cX12_push 40 = .ok (.iconst 1, 1) := by decide +kernel
theorem dX12_push_41 : decode cX12_push 41 = .ok (.iadd, 1) := by decide +kernel
theorem dX12_push_42 : decode cX12_push 42 = .ok (.putfield 309, 3) := by decide +kernel
theorem dX12_push_45 : decode cX12_push 45 = .ok (.return_, 1) := by decide +kernel
theorem dX12_flood_0 : decode cX12_flood 0 = .ok (.aload_n 0, 1) := by decide +kernel
theorem dX12_flood_1 : decode cX12_flood 1 = .ok (.getfield 309, 3) := by decide +kernel
theorem dX12_flood_4 : decode cX12_flood 4 = .ok (.ifCond .le 131, 3) := by decide +kernel
theorem dX12_flood_7 : decode cX12_flood 7 = .ok (.aload_n 0, 1) := by decide +kernel
theorem dX12_flood_8 : decode cX12_flood 8 = .ok (.getfield 89, 3) := by decide +kernel
theorem dX12_flood_11 : decode cX12_flood 11 = .ok (.aload_n 0, 1) := by decide +kernel
theorem dX12_flood_12 : decode cX12_flood 12 = .ok (.getfield 306, 3) := by decide +kernel
theorem dX12_flood_15 : decode cX12_flood 15 = .ok (.iaload, 1) := by decide +kernel
theorem dX12_flood_16 : decode cX12_flood 16 = .ok (.istore_n 3, 1) := by decide +kernel
theorem dX12_flood_17 : decode cX12_flood 17 = .ok (.aload_n 0, 1) := by decide +kernel
theorem dX12_flood_18 : decode cX12_flood 18 = .ok (.aload_n 0, 1) := by decide +kernel
theorem dX12_flood_19 : decode cX12_flood 19 = .ok (.getfield 306, 3) := by decide +kernel
theorem dX12_flood_22 : decode cX12_flood 22 = .ok (.iconst 1, 1) := by decide +kernel
theorem dX12_flood_23 : decode cX12_flood 23 = .ok (.iadd, 1) := by decide +kernel
theorem dX12_flood_24 : decode cX12_flood 24 = .ok (.sipush 10001, 3) := by decide +kernel
theorem dX12_flood_27 : decode cX12_flood 27 = .ok (.irem, 1) := by decide +kernel
theorem dX12_flood_28 : decode cX12_flood 28 = .ok (.putfield 306, 3) := by decide +kernel
theorem dX12_flood_31 : decode cX12_flood 31 = .ok (.aload_n 0, 1) := by decide +kernel
theorem dX12_flood_32 : decode cX12_flood 32 = .ok (.dup, 1) := by decide +kernel
theorem dX12_flood_33 : decode cX12_flood 33 = .ok (.getfield 309, 3) := by decide +kernel
theorem dX12_flood_36 : decode cX12_flood 36 = .ok (.iconst 1, 1) := by decide +kernel
theorem dX12_flood_37 : decode cX12_flood 37 = .ok (.isub, 1) := by decide +kernel
theorem dX12_flood_38 : decode cX12_flood 38 = .ok (.putfield 309, 3) := by decide +kernel
theorem dX12_flood_41 : decode cX12_flood 41 = .ok (.aload_n 0, 1) := by decide +kernel
theorem dX12_flood_42 : decode cX12_flood 42 = .ok (.getfield 92, 3) := by decide +kernel
theorem dX12_flood_45 : decode cX12_flood 45 = .ok (.iload_n 3, 1) := by decide +kernel
theorem dX12_flood_46 : decode cX12_flood 46 = .ok (.iconst 0, 1) := by decide +kernel
theorem dX12_flood_47 : decode cX12_flood 47 = .ok (.bastore, 1) := by decide +kernel
theorem dX12_flood_48 : decode cX12_flood 48 = .ok (.iconst 0, 1) := by decide +kernel
theorem dX12_flood_49 : decode cX12_flood 49 = .ok (.istore 4, 2) := by decide +kernel
theorem dX12_flood_51 : decode cX12_flood 51 = .ok (.iload 4, 2) := by decide +kernel
theorem dX12_flood_53 : decode cX12_flood 53 = .ok (.aload_n 0, 1) := by decide +kernel
theorem dX12_flood_54 : decode cX12_flood 54 = .ok (.getfield 51, 3) := by decide +kernel
theorem dX12_flood_57 : decode cX12_flood 57 = .ok (.iload_n 1, 1) := by decide +kernel
theorem dX12_flood_58 : decode cX12_flood 58 = .ok (.iaload, 1) := by decide +kernel
theorem dX12_flood_59 : decode cX12_flood 59 = .ok (.if_icmp .ge 73, 3) := by decide +kernel
theorem dX12_flood_62 : decode cX12_flood 62 = .ok (.aload_n 0, 1) := by decide +kernel
theorem dX12_flood_63 : decode cX12_flood 63 = .ok (.iload_n 2, 1) := by decide +kernel
theorem dX12_flood_64 : decode cX12_flood 64 = .ok (.iload_n 3, 1) := by decide +kernel
theorem dX12_flood_65 : decode cX12_flood 65 = .ok (.iload_n 3, 1) := by decide +kernel
theorem dX12_flood_66 : decode cX12_flood 66 = .ok (.aload_n 0, 1) := by decide +kernel
theorem dX12_flood_67 : decode cX12_flood 67 = .ok (.getfield 54, 3) := by decide +kernel
theorem dX12_flood_70 : decode cX12_flood 70 = .ok (.bipush 6, 2) := by decide +kernel
theorem dX12_flood_72 : decode cX12_flood 72 = .ok (.iload_n 1, 1) := by decide +kernel
theorem dX12_flood_73 : decode cX12_flood 73 = .ok (.imul, 1) := by decide +kernel
theorem dX12_flood_74 : decode cX12_flood 74 = .ok (.iload 4, 2) := by decide +kernel
theorem dX12_flood_76 : decode cX12_flood 76 = .ok (.iadd, 1) := by decide +kernel
theorem dX12_flood_77 : decode cX12_flood 77 = .ok (.iaload, 1) := by decide +kernel
theorem dX12_flood_78 : decode cX12_flood 78 = .ok (.isub, 1) := by decide +kernel
theorem dX12_flood_79 : decode cX12_flood 79 = .ok (.aload_n 0, 1) := by decide +kernel
theorem dX12_flood_80 : decode cX12_flood 80 = .ok (.getfield 57, 3) := by decide +kernel
theorem dX12_flood_83 : decode cX12_flood 83 = .ok (.bipush 6, 2) := by decide +kernel
theorem dX12_flood_85 : decode cX12_flood 85 = .ok (.iload_n 1, 1) := by decide +kernel
theorem dX12_flood_86 : decode cX12_flood 86 = .ok (.imul, 1) := by decide +kernel
theorem dX12_flood_87 : decode cX12_flood 87 = .ok (.iload 4, 2) := by decide +kernel
theorem dX12_flood_89 : decode cX12_flood 89 = .ok (.iadd, 1) := by decide +kernel
theorem dX12_flood_90 : decode cX12_flood 90 = .ok (.iaload, 1) := by decide +kernel
theorem dX12_flood_91 : decode cX12_flood 91 = .ok (.invokevirtual 312, 3) := by decide +kernel
theorem dX12_flood_94 : decode cX12_flood 94 = .ok (.aload_n 0, 1) := by decide +kernel
theorem dX12_flood_95 : decode cX12_flood 95 = .ok (.iload_n 2, 1) := by decide +kernel
theorem dX12_flood_96 : decode cX12_flood 96 = .ok (.iload_n 3, 1) := by decide +kernel
theorem dX12_flood_97 : decode cX12_flood 97 = .ok (.iload_n 3, 1) := by decide +kernel
theorem dX12_flood_98 : decode cX12_flood 98 = .ok (.aload_n 0, 1) := by decide +kernel
theorem dX12_flood_99 : decode cX12_flood 99 = .ok (.getfield 54, 3) := by decide +kernel
theorem dX12_flood_102 : decode cX12_flood 102 = .ok (.bipush 6, 2) := by decide +kernel
theorem dX12_flood_104 : decode cX12_flood 104 = .ok (.iload_n 1, 1) := by decide +kernel
theorem dX12_flood_105 : decode cX12_flood 105 = .ok (.imul, 1) := by decide +kernel
theorem dX12_flood_106 : decode cX12_flood 106 = .ok (.iload 4, 2) := by decide +kernel
theorem dX12_flood_108 : decode cX12_flood 108 = .ok (.iadd, 1) := by decide +kernel
theorem dX12_flood_109 : decode cX12_flood 109 = .ok (.iaload, 1) := by decide +kernel
theorem dX12_flood_110 : decode cX12_flood 110 = .ok (.iadd, 1) := by decide +kernel
theorem dX12_flood_111 : decode cX12_flood 111 = .ok (.aload_n 0, 1) := by decide +kernel
theorem dX12_flood_112 : decode cX12_flood 112 = .ok (.getfield 57, 3) := by decide +kernel
theorem dX12_flood_115 : decode cX12_flood 115 = .ok (.bipush 6, 2) := by decide +kernel
theorem dX12_flood_117 : decode cX12_flood 117 = .ok (.iload_n 1, 1) := by decide +kernel
theorem dX12_flood_118 : decode cX12_flood 118 = .ok (.imul, 1) := by decide +kernel
theorem dX12_flood_119 : decode cX12_flood 119 = .ok (.iload 4, 2) := by decide +kernel
theorem dX12_flood_121 : decode cX12_flood 121 = .ok (.iadd, 1) := by decide +kernel
theorem dX12_flood_122 : decode cX12_flood 122 = .ok (.iaload, 1) := by decide +kernel
theorem dX12_flood_123 : decode cX12_flood 123 = .ok (.invokevirtual 312, 3) := by decide +kernel
theorem dX12_flood_126 : decode cX12_flood 126 = .ok (.iinc 4 1, 3) := by decide +kernel
theorem dX12_flood_129 : decode cX12_flood 129 = .ok (.goto (-78), 3) := by decide +kernel
theorem dX12_flood_132 : decode cX12_flood 132 = .ok (.goto (-132), 3) := by decide +kernel
theorem dX12_flood_135 : decode cX12_flood 135 = .ok (.return_, 1) := by decide +kernel
theorem dX12_touch_0 : decode cX12_touch 0 = .ok (.iload_n 3, 1) := by decide +kernel
theorem dX12_touch_1 : decode cX12_touch 1 = .ok (.iconst 1, 1) := by decide +kernel
theorem dX12_touch_2 : decode cX12_touch 2 = .ok (.sipush 9999, 3) := by decide +kernel
theorem dX12_touch_5 : decode cX12_touch 5 = .ok (.invokestatic 186, 3) := by decide +kernel
theorem dX12_touch_8 : decode cX12_touch 8 = .ok (.ifCond .ne 4, 3) := by decide +kernel
theorem dX12_touch_11 : decode cX12_touch 11 = .ok (.return_, 1) := by decide +kernel
theorem dX12_touch_12 : decode cX12_touch 12 = .ok (.aload_n 0, 1) := by decide +kernel
theorem dX12_touch_13 : decode cX12_touch 13 = .ok (.getfield 82, 3) := by decide +kernel
theorem dX12_touch_16 : decode cX12_touch 16 = .ok (.sipush 10001, 3) := by decide +kernel
theorem dX12_touch_19 : decode cX12_touch 19 = .ok (.iload_n 1, 1) := by decide +kernel
theorem dX12_touch_20 : decode cX12_touch 20 = .ok (.imul, 1) := by decide +kernel
theorem dX12_touch_21 : decode cX12_touch 21 = .ok (.iload_n 2, 1) := by decide +kernel
theorem dX12_touch_22 : decode cX12_touch 22 = .ok (.iadd, 1) := by decide +kernel
theorem dX12_touch_23 : decode cX12_touch 23 = .ok (.laload, 1) := by decide +kernel
theorem dX12_touch_24 : decode cX12_touch 24 = .ok (.ldc2_w 316, 3) := by decide +kernel
theorem dX12_touch_27 : decode cX12_touch 27 = .ok (.iload 4, 2) := by decide +kernel
theorem dX12_touch_29 : decode cX12_touch 29 = .ok (.i2l, 1) := by decide +kernel
theorem dX12_touch_30 : decode cX12_touch 30 = .ok (.lmul, 1) := by decide +kernel
theorem dX12_touch_31 : decode cX12_touch 31 = .ok (.ladd, 1) := by decide +kernel
theorem dX12_touch_32 : decode cX12_touch 32 = .ok (.lconst 1, 1) := by decide +kernel
theorem dX12_touch_33 : decode cX12_touch 33 = .ok (.ladd, 1) := by decide +kernel
theorem dX12_touch_34 : decode cX12_touch 34 = .ok (.lstore 5, 2) := by decide +kernel
theorem dX12_touch_36 : decode cX12_touch 36 = .ok (.lload 5, 2) := by decide +kernel
theorem dX12_touch_38 : decode cX12_touch 38 = .ok (.aload_n 0, 1) := by decide +kernel
theorem dX12_touch_39 : decode cX12_touch 39 = .ok (.getfield 82, 3) := by decide +kernel
theorem dX12_touch_42 : decode cX12_touch 42 = .ok (.sipush 10001, 3) := by decide +kernel
theorem dX12_touch_45 : decode cX12_touch 45 = .ok (.iload_n 1, 1) := by decide +kernel
theorem dX12_touch_46 : decode cX12_touch 46 = .ok (.imul, 1) := by decide +kernel
theorem dX12_touch_47 : decode cX12_touch 47 = .ok (.iload_n 3, 1) := by decide +kernel
theorem dX12_touch_48 : decode cX12_touch 48 = .ok (.iadd, 1) := by decide +kernel
theorem dX12_touch_49 : decode cX12_touch 49 = .ok (.laload, 1) := by decide +kernel
theorem dX12_touch_50 : decode cX12_touch 50 = .ok (.lcmp, 1) := by decide +kernel
theorem dX12_touch_51 : decode cX12_touch 51 = .ok (.ifCond .ge 22, 3) := by decide +kernel
theorem dX12_touch_54 : decode cX12_touch 54 = .ok (.aload_n 0, 1) := by decide +kernel
theorem dX12_touch_55 : decode cX12_touch 55 = .ok (.getfield 82, 3) := by decide +kernel
theorem dX12_touch_58 : decode cX12_touch 58 = .ok (.sipush 10001, 3) := by decide +kernel
theorem dX12_touch_61 : decode cX12_touch 61 = .ok (.iload_n 1, 1) := by decide +kernel
theorem dX12_touch_62 : decode cX12_touch 62 = .ok (.imul, 1) := by decide +kernel
theorem dX12_touch_63 : decode cX12_touch 63 = .ok (.iload_n 3, 1) := by decide +kernel
theorem dX12_touch_64 : decode cX12_touch 64 = .ok (.iadd, 1) := by decide +kernel
theorem dX12_touch_65 : decode cX12_touch 65 = .ok (.lload 5, 2) := by decide +kernel
theorem dX12_touch_67 : decode cX12_touch 67 = .ok (.lastore, 1) := by decide +kernel
theorem dX12_touch_68 : decode cX12_touch 68 = .ok (.aload_n 0, 1) := by decide +kernel
theorem dX12_touch_69 : decode cX12_touch 69 = .ok (.iload_n 3, 1) := by decide +kernel
theorem dX12_touch_70 : decode cX12_touch 70 = .ok (.invokevirtual 318, 3) := by decide +kernel
theorem dX12_touch_73 : decode cX12_touch 73 = .ok (.return_, 1) := by decide +kernel
theorem dX12_knowsYear_0 : decode cX12_knowsYear 0 = .ok (.iconst 0, 1) := by decide +kernel
theorem dX12_knowsYear_1 : decode cX12_knowsYear 1 = .ok (.istore_n 3, 1) := by decide +kernel
theorem dX12_knowsYear_2 : decode cX12_knowsYear 2 = .ok (.iload_n 3, 1) := by decide +kernel
theorem dX12_knowsYear_3 : decode cX12_knowsYear 3 = .ok (.aload_n 0, 1) := by decide +kernel
theorem dX12_knowsYear_4 : decode cX12_knowsYear 4 = .ok (.getfield 42, 3) := by decide +kernel
theorem dX12_knowsYear_7 : decode cX12_knowsYear 7 = .ok (.iload_n 1, 1) := by decide +kernel
theorem dX12_knowsYear_8 : decode cX12_knowsYear 8 = .ok (.iaload, 1) := by decide +kernel
theorem dX12_knowsYear_9 : decode cX12_knowsYear 9 = .ok (.if_icmp .ge 40, 3) := by decide +kernel
theorem dX12_knowsYear_12 : decode cX12_knowsYear 12 = .ok (.iload_n 2, 1) := by decide +kernel
theorem dX12_knowsYear_13 : decode cX12_knowsYear 13 = .ok (.aload_n 0, 1) := by decide +kernel
theorem dX12_knowsYear_14 : decode cX12_knowsYear 14 = .ok (.getfield 45, 3) := by decide +kernel
theorem dX12_knowsYear_17 : decode cX12_knowsYear 17 = .ok (.bipush 6, 2) := by decide +kernel
theorem dX12_knowsYear_19 : decode cX12_knowsYear 19 = .ok (.iload_n 1, 1) := by decide +kernel
theorem dX12_knowsYear_20 : decode cX12_knowsYear 20 = .ok (.imul, 1) := by decide +kernel
theorem dX12_knowsYear_21 : decode cX12_knowsYear 21 = .ok (.iload_n 3, 1) := by decide +kernel
theorem dX12_knowsYear_22 : decode cX12_knowsYear 22 = .ok (.iadd, 1) := by decide +kernel
theorem dX12_knowsYear_23 : decode cX12_knowsYear 23 = .ok (.iaload, 1) := by decide +kernel
theorem dX12_knowsYear_24 : decode cX12_knowsYear 24 = .ok (.aload_n 0, 1) := by decide +kernel
theorem dX12_knowsYear_25 : decode cX12_knowsYear 25 = .ok (.getfield 48, 3) := by decide +kernel
theorem dX12_knowsYear_28 : decode cX12_knowsYear 28 = .ok (.bipush 6, 2) := by decide +kernel
theorem dX12_knowsYear_30 : decode cX12_knowsYear 30 = .ok (.iload_n 1, 1) := by decide +kernel
theorem dX12_knowsYear_31 : decode cX12_knowsYear 31 = .ok (.imul, 1) := by decide +kernel
theorem dX12_knowsYear_32 : decode cX12_knowsYear 32 = .ok (.iload_n 3, 1) := by decide +kernel
theorem dX12_knowsYear_33 : decode cX12_knowsYear 33 = .ok (.iadd, 1) := by decide +kernel
theorem dX12_knowsYear_34 : decode cX12_knowsYear 34 = .ok (.iaload, 1) := by decide +kernel
theorem dX12_knowsYear_35 : decode cX12_knowsYear 35 = .ok (.invokestatic 186, 3) := by decide +kernel
theorem dX12_knowsYear_38 : decode cX12_knowsYear 38 = .ok (.ifCond .eq 5, 3) := by decide +kernel
theorem dX12_knowsYear_41 : decode cX12_knowsYear 41 = .ok (.iconst 1, 1) := by decide +kernel
theorem dX12_knowsYear_42 : decode cX12_knowsYear 42 = .ok (.ireturn, 1) := by decide +kernel
theorem dX12_knowsYear_43 : decode cX12_knowsYear 43 = .ok (.iinc 3 1, 3) := by decide +kernel
theorem dX12_knowsYear_46 : decode cX12_knowsYear 46 = .ok (.goto (-44), 3) := by decide +kernel
theorem dX12_knowsYear_49 : decode cX12_knowsYear 49 = .ok (.iconst 0, 1) := by decide +kernel
theorem dX12_knowsYear_50 : decode cX12_knowsYear 50 = .ok (.ireturn, 1) := by decide +kernel
theorem dX12_spread_0 : decode cX12_spread 0 = .ok (.aload_n 0, 1) := by decide +kernel
theorem dX12_spread_1 : decode cX12_spread 1 = .ok (.iconst 0, 1) := by decide +kernel
theorem dX12_spread_2 : decode cX12_spread 2 = .ok (.putfield 306, 3) := by decide +kernel
theorem dX12_spread_5 : decode cX12_spread 5 = .ok (.aload_n 0, 1) := by decide +kernel
theorem dX12_spread_6 : decode cX12_spread 6 = .ok (.iconst 0, 1) := by decide +kernel
theorem dX12_spread_7 : decode cX12_spread 7 = .ok (.putfield 309, 3) := by decide +kernel
theorem dX12_spread_10 : decode cX12_spread 10 = .ok (.iconst 0, 1) := by decide +kernel
theorem dX12_spread_11 : decode cX12_spread 11 = .ok (.istore_n 2, 1) := by decide +kernel
theorem dX12_spread_12 : decode cX12_spread 12 = .ok (.iload_n 2, 1) := by decide +kernel
theorem dX12_spread_13 : decode cX12_spread 13 = .ok (.sipush 10001, 3) := by decide +kernel
theorem dX12_spread_16 : decode cX12_spread 16 = .ok (.if_icmp .ge 69, 3) := by decide +kernel
theorem dX12_spread_19 : decode cX12_spread 19 = .ok (.aload_n 0, 1) := by decide +kernel
theorem dX12_spread_20 : decode cX12_spread 20 = .ok (.getfield 82, 3) := by decide +kernel
theorem dX12_spread_23 : decode cX12_spread 23 = .ok (.sipush 10001, 3) := by decide +kernel
theorem dX12_spread_26 : decode cX12_spread 26 = .ok (.iload_n 1, 1) := by decide +kernel
theorem dX12_spread_27 : decode cX12_spread 27 = .ok (.imul, 1) := by decide +kernel
theorem dX12_spread_28 : decode cX12_spread 28 = .ok (.iload_n 2, 1) := by decide +kernel
theorem dX12_spread_29 : decode cX12_spread 29 = .ok (.iadd, 1) := by decide +kernel
theorem dX12_spread_30 : decode cX12_spread 30 = .ok (.ldc2_w 321, 3) := by decide +kernel
theorem dX12_spread_33 : decode cX12_spread 33 = .ok (.lastore, 1) := by decide +kernel
theorem dX12_spread_34 : decode cX12_spread 34 = .ok (.aload_n 0, 1) := by decide +kernel
theorem dX12_spread_35 : decode cX12_spread 35 = .ok (.getfield 92, 3) := by decide +kernel
theorem dX12_spread_38 : decode cX12_spread 38 = .ok (.iload_n 2, 1) := by decide +kernel
theorem dX12_spread_39 : decode cX12_spread 39 = .ok (.iconst 0, 1) := by decide +kernel
theorem dX12_spread_40 : decode cX12_spread 40 = .ok (.bastore, 1) := by decide +kernel
theorem dX12_spread_41 : decode cX12_spread 41 = .ok (.iload_n 2, 1) := by decide +kernel
theorem dX12_spread_42 : decode cX12_spread 42 = .ok (.ifCond .le 37, 3) := by decide +kernel
theorem dX12_spread_45 : decode cX12_spread 45 = .ok (.iload_n 2, 1) := by decide +kernel
theorem dX12_spread_46 : decode cX12_spread 46 = .ok (.sipush 9999, 3) := by decide +kernel
theorem dX12_spread_49 : decode cX12_spread 49 = .ok (.if_icmp .gt 30, 3) := by decide +kernel
theorem dX12_spread_52 : decode cX12_spread 52 = .ok (.aload_n 0, 1) := by decide +kernel
theorem dX12_spread_53 : decode cX12_spread 53 = .ok (.iload_n 1, 1) := by decide +kernel
theorem dX12_spread_54 : decode cX12_spread 54 = .ok (.iload_n 2, 1) := by decide +kernel
theorem dX12_spread_55 : decode cX12_spread 55 = .ok (.invokevirtual 323, 3) := by decide +kernel
theorem dX12_spread_58 : decode cX12_spread 58 = .ok (.ifCond .eq 21, 3) := by decide +kernel
theorem dX12_spread_61 : decode cX12_spread 61 = .ok (.aload_n 0, 1) := by decide +kernel
theorem dX12_spread_62 : decode cX12_spread 62 = .ok (.getfield 82, 3) := by decide +kernel
theorem dX12_spread_65 : decode cX12_spread 65 = .ok (.sipush 10001, 3) := by decide +kernel
theorem dX12_spread_68 : decode cX12_spread 68 = .ok (.iload_n 1, 1) := by decide +kernel
theorem dX12_spread_69 : decode cX12_spread 69 = .ok (.imul, 1) := by decide +kernel
theorem dX12_spread_70 : decode cX12_spread 70 = .ok (.iload_n 2, 1) := by decide +kernel
theorem dX12_spread_71 : decode cX12_spread 71 = .ok (.iadd, 1) := by decide +kernel
theorem dX12_spread_72 : decode cX12_spread 72 = .ok (.lconst 0, 1) := by decide +kernel
theorem dX12_spread_73 : decode cX12_spread 73 = .ok (.lastore, 1) := by decide +kernel
theorem dX12_spread_74 : decode cX12_spread 74 = .ok (.aload_n 0, 1) := by decide +kernel
theorem dX12_spread_75 : decode cX12_spread 75 = .ok (.iload_n 2, 1) := by decide +kernel
theorem dX12_spread_76 : decode cX12_spread 76 = .ok (.invokevirtual 318, 3) := by decide +kernel
theorem dX12_spread_79 : decode cX12_spread 79 = .ok (.iinc 2 1, 3) := by decide +kernel
theorem dX12_spread_82 : decode cX12_spread 82 = .ok (.goto (-70), 3) := by decide +kernel
theorem dX12_spread_85 : decode cX12_spread 85 = .ok (.aload_n 0, 1) := by decide +kernel
theorem dX12_spread_86 : decode cX12_spread 86 = .ok (.iload_n 1, 1) := by decide +kernel
theorem dX12_spread_87 : decode cX12_spread 87 = .ok (.iload_n 1, 1) := by decide +kernel
theorem dX12_spread_88 : decode cX12_spread 88 = .ok (.invokevirtual 326, 3) := by decide +kernel
theorem dX12_spread_91 : decode cX12_spread 91 = .ok (.iconst 1, 1) := by decide +kernel
theorem dX12_spread_92 : decode cX12_spread 92 = .ok (.istore_n 2, 1) := by decide +kernel
theorem dX12_spread_93 : decode cX12_spread 93 = .ok (.iload_n 2, 1) := by decide +kernel
theorem dX12_spread_94 : decode cX12_spread 94 = .ok (.bipush 12, 2) := by decide +kernel
theorem dX12_spread_96 : decode cX12_spread 96 = .ok (.if_icmp .gt 73, 3) := by decide +kernel
theorem dX12_spread_99 : decode cX12_spread 99 = .ok (.aload_n 0, 1) := by decide +kernel
theorem dX12_spread_100 : decode cX12_spread 100 = .ok (.getfield 72, 3) := by decide +kernel
theorem dX12_spread_103 : decode cX12_spread 103 = .ok (.iload_n 1, 1) := by decide +kernel
theorem dX12_spread_104 : decode cX12_spread 104 = .ok (.iaload, 1) := by decide +kernel
theorem dX12_spread_105 : decode cX12_spread 105 = .ok (.ifCond .ne 16, 3) := by decide +kernel
theorem dX12_spread_108 : decode cX12_spread 108 = .ok (.iload_n 2, 1) := by decide +kernel
theorem dX12_spread_109 : decode cX12_spread 109 = .ok (.iconst 1, 1) := by decide +kernel
theorem dX12_spread_110 : decode cX12_spread 110 = .ok (.if_icmp .ne 7, 3) := by decide +kernel
theorem dX12_spread_113 : decode cX12_spread 113 = .ok (.iconst 1, 1) := by decide +kernel
theorem dX12_spread_114 : decode cX12_spread 114 = .ok (.goto 26, 3) := by decide +kernel
theorem dX12_spread_117 : decode cX12_spread 117 = .ok (.iconst 0, 1) := by decide +kernel
theorem dX12_spread_118 : decode cX12_spread 118 = .ok (.goto 22, 3) := by decide +kernel
theorem dX12_spread_121 : decode cX12_spread 121 = .ok (.aload_n 0, 1) := by decide +kernel
theorem dX12_spread_122 : decode cX12_spread 122 = .ok (.getfield 72, 3) := by decide +kernel
theorem dX12_spread_125 : decode cX12_spread 125 = .ok (.iload_n 1, 1) := by decide +kernel
theorem dX12_spread_126 : decode cX12_spread 126 = .ok (.iaload, 1) := by decide +kernel
theorem dX12_spread_127 : decode cX12_spread 127 = .ok (.iload_n 2, 1) := by decide +kernel
theorem dX12_spread_128 : decode cX12_spread 128 = .ok (.ishr, 1) := by decide +kernel
theorem dX12_spread_129 : decode cX12_spread 129 = .ok (.iconst 1, 1) := by decide +kernel
theorem dX12_spread_130 : decode cX12_spread 130 = .ok (.iand, 1) := by decide +kernel
theorem dX12_spread_131 : decode cX12_spread 131 = .ok (.iconst 1, 1) := by decide +kernel
theorem dX12_spread_132 : decode cX12_spread 132 = .ok (.if_icmp .ne 7, 3) := by decide +kernel
theorem dX12_spread_135 : decode cX12_spread 135 = .ok (.iconst 1, 1) := by decide +kernel
theorem dX12_spread_136 : decode cX12_spread 136 = .ok (.goto 4, 3) := by decide +kernel
theorem dX12_spread_139 : decode cX12_spread 139 = .ok (.iconst 0, 1) := by decide +kernel
theorem dX12_spread_140 : decode cX12_spread 140 = .ok (.istore_n 3, 1) := by decide +kernel
theorem dX12_spread_141 : decode cX12_spread 141 = .ok (.aload_n 0, 1) := by decide +kernel
theorem dX12_spread_142 : decode cX12_spread 142 = .ok (.getfield 86, 3) := by decide +kernel
theorem dX12_spread_145 : decode cX12_spread 145 = .ok (.bipush 13, 2) := by decide +kernel
theorem dX12_spread_147 : decode cX12_spread 147 = .ok (.iload_n 1, 1) := by decide +kernel
theorem dX12_spread_148 : decode cX12_spread 148 = .ok (.imul, 1) := by decide +kernel
theorem dX12_spread_149 : decode cX12_spread 149 = .ok (.iload_n 2, 1) := by decide +kernel
theorem dX12_spread_150 : decode cX12_spread 150 = .ok (.iadd, 1) := by decide +kernel
theorem dX12_spread_151 : decode cX12_spread 151 = .ok (.iload_n 3, 1) := by decide +kernel
theorem dX12_spread_152 : decode cX12_spread 152 = .ok (.ifCond .eq 7, 3) := by decide +kernel
theorem dX12_spread_155 : decode cX12_spread 155 = .ok (.lconst 0, 1) := by decide +kernel
theorem dX12_spread_156 : decode cX12_spread 156 = .ok (.goto 6, 3) := by decide +kernel
theorem dX12_spread_159 : decode cX12_spread 159 = .ok (.ldc2_w 321, 3) := by decide +kernel
theorem dX12_spread_162 : decode cX12_spread 162 = .ok (.lastore, 1) := by decide +kernel
theorem dX12_spread_163 : decode cX12_spread 163 = .ok (.iinc 2 1, 3) := by decide +kernel
theorem dX12_spread_166 : decode cX12_spread 166 = .ok (.goto (-73), 3) := by decide +kernel
theorem dX12_spread_169 : decode cX12_spread 169 = .ok (.iconst 0, 1) := by decide +kernel
theorem dX12_spread_170 : decode cX12_spread 170 = .ok (.istore_n 2, 1) := by decide +kernel
theorem dX12_spread_171 : decode cX12_spread 171 = .ok (.iload_n 2, 1) := by decide +kernel
theorem dX12_spread_172 : decode cX12_spread 172 = .ok (.bipush 12, 2) := by decide +kernel
theorem dX12_spread_174 : decode cX12_spread 174 = .ok (.if_icmp .ge 137, 3) := by decide +kernel
theorem dX12_spread_177 : decode cX12_spread 177 = .ok (.iconst 0, 1) := by decide +kernel
theorem dX12_spread_178 : decode cX12_spread 178 = .ok (.istore_n 3, 1) := by decide +kernel
theorem dX12_spread_179 : decode cX12_spread 179 = .ok (.iload_n 3, 1) := by decide +kernel
theorem dX12_spread_180 : decode cX12_spread 180 = .ok (.aload_n 0, 1) := by decide +kernel
theorem dX12_spread_181 : decode cX12_spread 181 = .ok (.getfield 60, 3) := by decide +kernel
theorem dX12_spread_184 : decode cX12_spread 184 = .ok (.iload_n 1, 1) := by decide +kernel
theorem dX12_spread_185 : decode cX12_spread 185 = .ok (.iaload, 1) := by decide +kernel
theorem dX12_spread_186 : decode cX12_spread 186 = .ok (.if_icmp .ge 119, 3) := by decide +kernel
theorem dX12_spread_189 : decode cX12_spread 189 = .ok (.ldc2_w 316, 3) := by decide +kernel
theorem dX12_spread_192 : decode cX12_spread 192 = .ok (.aload_n 0, 1) := by decide +kernel
theorem dX12_spread_193 : decode cX12_spread 193 = .ok (.getfield 69, 3) := by decide +kernel
theorem dX12_spread_196 : decode cX12_spread 196 = .ok (.bipush 12, 2) := by decide +kernel
theorem dX12_spread_198 : decode cX12_spread 198 = .ok (.iload_n 1, 1) := by decide +kernel
theorem dX12_spread_199 : decode cX12_spread 199 = .ok (.imul, 1) := by decide +kernel
theorem dX12_spread_200 : decode cX12_spread 200 = .ok (.iload_n 3, 1) := by decide +kernel
theorem dX12_spread_201 : decode cX12_spread 201 = .ok (.iadd, 1) := by decide +kernel
theorem dX12_spread_202 : decode cX12_spread 202 = .ok (.iaload, 1) := by decide +kernel
theorem dX12_spread_203 : decode cX12_spread 203 = .ok (.i2l, 1) := by decide +kernel
theorem dX12_spread_204 : decode cX12_spread 204 = .ok (.lmul, 1) := by decide +kernel
theorem dX12_spread_205 : decode cX12_spread 205 = .ok (.lconst 1, 1) := by decide +kernel
theorem dX12_spread_206 : decode cX12_spread 206 = .ok (.ladd, 1) := by decide +kernel
theorem dX12_spread_207 : decode cX12_spread 207 = .ok (.lstore 4, 2) := by decide +kernel
theorem dX12_spread_209 : decode cX12_spread 209 = .ok (.bipush 13, 2) := by decide +kernel
theorem dX12_spread_211 : decode cX12_spread 211 = .ok (.iload_n 1, 1) := by decide +kernel
theorem dX12_spread_212 : decode cX12_spread 212 = .ok (.imul, 1) := by decide +kernel
theorem dX12_spread_213 : decode cX12_spread 213 = .ok (.aload_n 0, 1) := by decide +kernel
theorem dX12_spread_214 : decode cX12_spread 214 = .ok (.getfield 63, 3) := by decide +kernel
theorem dX12_spread_217 : decode cX12_spread 217 = .ok (.bipush 12, 2) := by decide +kernel
theorem dX12_spread_219 : decode cX12_spread 219 = .ok (.iload_n 1, 1) := by decide +kernel
theorem dX12_spread_220 : decode cX12_spread 220 = .ok (.imul, 1) := by decide +kernel
theorem dX12_spread_221 : decode cX12_spread 221 = .ok (.iload_n 3, 1) := by decide +kernel
theorem dX12_spread_222 : decode cX12_spread 222 = .ok (.iadd, 1) := by decide +kernel
theorem dX12_spread_223 : decode cX12_spread 223 = .ok (.iaload, 1) := by decide +kernel
theorem dX12_spread_224 : decode cX12_spread 224 = .ok (.iadd, 1) := by decide +kernel
theorem dX12_spread_225 : decode cX12_spread 225 = .ok (.istore 6, 2) := by decide +kernel
theorem dX12_spread_227 : decode cX12_spread 227 = .ok (.bipush 13, 2) := by decide +kernel
theorem dX12_spread_229 : decode cX12_spread 229 = .ok (.iload_n 1, 1) := by decide +kernel
theorem dX12_spread_230 : decode cX12_spread 230 = .ok (.imul, 1) := by decide +kernel
theorem dX12_spread_231 : decode cX12_spread 231 = .ok (.aload_n 0, 1) := by decide +kernel
theorem dX12_spread_232 : decode cX12_spread 232 = .ok (.getfield 66, 3) := by decide +kernel
theorem dX12_spread_235 : decode cX12_spread 235 = .ok (.bipush 12, 2) := by decide +kernel
theorem dX12_spread_237 : decode cX12_spread 237 = .ok (.iload_n 1, 1) := by decide +kernel
theorem dX12_spread_238 : decode cX12_spread 238 = .ok (.imul, 1) := by decide +kernel
theorem dX12_spread_239 : decode cX12_spread 239 = .ok (.iload_n 3, 1) := by decide +kernel
theorem dX12_spread_240 : decode cX12_spread 240 = .ok (.iadd, 1) := by decide +kernel
theorem dX12_spread_241 : decode cX12_spread 241 = .ok (.iaload, 1) := by decide +kernel
theorem dX12_spread_242 : decode cX12_spread 242 = .ok (.iadd, 1) := by decide +kernel
theorem dX12_spread_243 : decode cX12_spread 243 = .ok (.istore 7, 2) := by decide +kernel
theorem dX12_spread_245 : decode cX12_spread 245 = .ok (.aload_n 0, 1) := by decide +kernel
theorem dX12_spread_246 : decode cX12_spread 246 = .ok (.getfield 86, 3) := by decide +kernel
theorem dX12_spread_249 : decode cX12_spread 249 = .ok (.iload 6, 2) := by decide +kernel
theorem dX12_spread_251 : decode cX12_spread 251 = .ok (.aload_n 0, 1) := by decide +kernel
theorem dX12_spread_252 : decode cX12_spread 252 = .ok (.getfield 86, 3) := by decide +kernel
theorem dX12_spread_255 : decode cX12_spread 255 = .ok (.iload 6, 2) := by decide +kernel
theorem dX12_spread_257 : decode cX12_spread 257 = .ok (.laload, 1) := by decide +kernel
theorem dX12_spread_258 : decode cX12_spread 258 = .ok (.aload_n 0, 1) := by decide +kernel
theorem dX12_spread_259 : decode cX12_spread 259 = .ok (.getfield 86, 3) := by decide +kernel
theorem dX12_spread_262 : decode cX12_spread 262 = .ok (.iload 7, 2) := by decide +kernel
theorem dX12_spread_264 : decode cX12_spread 264 = .ok (.laload, 1) := by decide +kernel
theorem dX12_spread_265 : decode cX12_spread 265 = .ok (.lload 4, 2) := by decide +kernel
theorem dX12_spread_267 : decode cX12_spread 267 = .ok (.ladd, 1) := by decide +kernel
theorem dX12_spread_268 : decode cX12_spread 268 = .ok (.invokestatic 329, 3) := by decide +kernel
theorem dX12_spread_271 : decode cX12_spread 271 = .ok (.lastore, 1) := by decide +kernel
theorem dX12_spread_272 : decode cX12_spread 272 = .ok (.aload_n 0, 1) := by decide +kernel
theorem dX12_spread_273 : decode cX12_spread 273 = .ok (.getfield 86, 3) := by decide +kernel
theorem dX12_spread_276 : decode cX12_spread 276 = .ok (.iload 7, 2) := by decide +kernel
theorem dX12_spread_278 : decode cX12_spread 278 = .ok (.aload_n 0, 1) := by decide +kernel
theorem dX12_spread_279 : decode cX12_spread 279 = .ok (.getfield 86, 3) := by decide +kernel
theorem dX12_spread_282 : decode cX12_spread 282 = .ok (.iload 7, 2) := by decide +kernel
theorem dX12_spread_284 : decode cX12_spread 284 = .ok (.laload, 1) := by decide +kernel
theorem dX12_spread_285 : decode cX12_spread 285 = .ok (.aload_n 0, 1) := by decide +kernel
theorem dX12_spread_286 : decode cX12_spread 286 = .ok (.getfield 86, 3) := by decide +kernel
theorem dX12_spread_289 : decode cX12_spread 289 = .ok (.iload 6, 2) := by decide +kernel
theorem dX12_spread_291 : decode cX12_spread 291 = .ok (.laload, 1) := by decide +kernel
theorem dX12_spread_292 : decode cX12_spread 292 = .ok (.lload 4, 2) := by decide +kernel
theorem dX12_spread_294 : decode cX12_spread 294 = .ok (.ladd, 1) := by decide +kernel
theorem dX12_spread_295 : decode cX12_spread 295 = .ok (.invokestatic 329, 3) := by decide +kernel
theorem dX12_spread_298 : decode cX12_spread 298 = .ok (.lastore, 1) := by decide +kernel
theorem dX12_spread_299 : decode cX12_spread 299 = .ok (.iinc 3 1, 3) := by decide +kernel
theorem dX12_spread_302 : decode cX12_spread 302 = .ok (.goto (-123), 3) := by decide +kernel
theorem dX12_spread_305 : decode cX12_spread 305 = .ok (.iinc 2 1, 3) := by decide +kernel
theorem dX12_spread_308 : decode cX12_spread 308 = .ok (.goto (-137), 3) := by decide +kernel
theorem dX12_spread_311 : decode cX12_spread 311 = .ok (.return_, 1) := by decide +kernel
theorem dX12_nextYear_0 : decode cX12_nextYear 0 = .ok (.iconst (-1), 1) := by decide +kernel
theorem dX12_nextYear_1 : decode cX12_nextYear 1 = .ok (.istore_n 3, 1) := by decide +kernel
theorem dX12_nextYear_2 : decode cX12_nextYear 2 = .ok (.iconst 0, 1) := by decide +kernel
theorem dX12_nextYear_3 : decode cX12_nextYear 3 = .ok (.istore 4, 2) := by decide +kernel
theorem dX12_nextYear_5 : decode cX12_nextYear 5 = .ok (.iload 4, 2) := by decide +kernel
theorem dX12_nextYear_7 : decode cX12_nextYear 7 = .ok (.aload_n 0, 1) := by decide +kernel
theorem dX12_nextYear_8 : decode cX12_nextYear 8 = .ok (.getfield 51, 3) := by decide +kernel
theorem dX12_nextYear_11 : decode cX12_nextYear 11 = .ok (.iload_n 1, 1) := by decide +kernel
theorem dX12_nextYear_12 : decode cX12_nextYear 12 = .ok (.iaload, 1) := by decide +kernel
theorem dX12_nextYear_13 : decode cX12_nextYear 13 = .ok (.if_icmp .ge 165, 3) := by decide +kernel
theorem dX12_nextYear_16 : decode cX12_nextYear 16 = .ok (.aload_n 0, 1) := by decide +kernel
theorem dX12_nextYear_17 : decode cX12_nextYear 17 = .ok (.getfield 82, 3) := by decide +kernel
theorem dX12_nextYear_20 : decode cX12_nextYear 20 = .ok (.sipush 10001, 3) := by decide +kernel
theorem dX12_nextYear_23 : decode cX12_nextYear 23 = .ok (.iload_n 1, 1) := by decide +kernel
theorem dX12_nextYear_24 : decode cX12_nextYear 24 = .ok (.imul, 1) := by decide +kernel
theorem dX12_nextYear_25 : decode cX12_nextYear 25 = .ok (.iload_n 2, 1) := by decide +kernel
theorem dX12_nextYear_26 : decode cX12_nextYear 26 = .ok (.iadd, 1) := by decide +kernel
theorem dX12_nextYear_27 : decode cX12_nextYear 27 = .ok (.laload, 1) := by decide +kernel
theorem dX12_nextYear_28 : decode cX12_nextYear 28 = .ok (.ldc2_w 316, 3) := by decide +kernel
theorem dX12_nextYear_31 : decode cX12_nextYear 31 = .ok (.aload_n 0, 1) := by decide +kernel
theorem dX12_nextYear_32 : decode cX12_nextYear 32 = .ok (.getfield 57, 3) := by decide +kernel
theorem dX12_nextYear_35 : decode cX12_nextYear 35 = .ok (.bipush 6, 2) := by decide +kernel
theorem dX12_nextYear_37 : decode cX12_nextYear 37 = .ok (.iload_n 1, 1) := by decide +kernel
theorem dX12_nextYear_38 : decode cX12_nextYear 38 = .ok (.imul, 1) := by decide +kernel
theorem dX12_nextYear_39 : decode cX12_nextYear 39 = .ok (.iload 4, 2) := by decide +kernel
theorem dX12_nextYear_41 : decode cX12_nextYear 41 = .ok (.iadd, 1) := by decide +kernel
theorem dX12_nextYear_42 : decode cX12_nextYear 42 = .ok (.iaload, 1) := by decide +kernel
theorem dX12_nextYear_43 : decode cX12_nextYear 43 = .ok (.i2l, 1) := by decide +kernel
theorem dX12_nextYear_44 : decode cX12_nextYear 44 = .ok (.lmul, 1) := by decide +kernel
theorem dX12_nextYear_45 : decode cX12_nextYear 45 = .ok (.lsub, 1) := by decide +kernel
theorem dX12_nextYear_46 : decode cX12_nextYear 46 = .ok (.lconst 1, 1) := by decide +kernel
theorem dX12_nextYear_47 : decode cX12_nextYear 47 = .ok (.lsub, 1) := by decide +kernel
theorem dX12_nextYear_48 : decode cX12_nextYear 48 = .ok (.lstore 5, 2) := by decide +kernel
theorem dX12_nextYear_50 : decode cX12_nextYear 50 = .ok (.iload_n 2, 1) := by decide +kernel
theorem dX12_nextYear_51 : decode cX12_nextYear 51 = .ok (.aload_n 0, 1) := by decide +kernel
theorem dX12_nextYear_52 : decode cX12_nextYear 52 = .ok (.getfield 54, 3) := by decide +kernel
theorem dX12_nextYear_55 : decode cX12_nextYear 55 = .ok (.bipush 6, 2) := by decide +kernel
theorem dX12_nextYear_57 : decode cX12_nextYear 57 = .ok (.iload_n 1, 1) := by decide +kernel
theorem dX12_nextYear_58 : decode cX12_nextYear 58 = .ok (.imul, 1) := by decide +kernel
theorem dX12_nextYear_59 : decode cX12_nextYear 59 = .ok (.iload 4, 2) := by decide +kernel
theorem dX12_nextYear_61 : decode cX12_nextYear 61 = .ok (.iadd, 1) := by decide +kernel
theorem dX12_nextYear_62 : decode cX12_nextYear 62 = .ok (.iaload, 1) := by decide +kernel
theorem dX12_nextYear_63 : decode cX12_nextYear 63 = .ok (.isub, 1) := by decide +kernel
theorem dX12_nextYear_64 : decode cX12_nextYear 64 = .ok (.istore 7, 2) := by decide +kernel
theorem dX12_nextYear_66 : decode cX12_nextYear 66 = .ok (.iload_n 2, 1) := by decide +kernel
theorem dX12_nextYear_67 : decode cX12_nextYear 67 = .ok (.aload_n 0, 1) := by decide +kernel
theorem dX12_nextYear_68 : decode cX12_nextYear 68 = .ok (.getfield 54, 3) := by decide +kernel
theorem dX12_nextYear_71 : decode cX12_nextYear 71 = .ok (.bipush 6, 2) := by decide +kernel
theorem dX12_nextYear_73 : decode cX12_nextYear 73 = .ok (.iload_n 1, 1) := by decide +kernel
theorem dX12_nextYear_74 : decode cX12_nextYear 74 = .ok (.imul, 1) := by decide +kernel
theorem dX12_nextYear_75 : decode cX12_nextYear 75 = .ok (.iload 4, 2) := by decide +kernel
theorem dX12_nextYear_77 : decode cX12_nextYear 77 = .ok (.iadd, 1) := by decide +kernel
theorem dX12_nextYear_78 : decode cX12_nextYear 78 = .ok (.iaload, 1) := by decide +kernel
theorem dX12_nextYear_79 : decode cX12_nextYear 79 = .ok (.iadd, 1) := by decide +kernel
theorem dX12_nextYear_80 : decode cX12_nextYear 80 = .ok (.istore 8, 2) := by decide +kernel
theorem dX12_nextYear_82 : decode cX12_nextYear 82 = .ok (.iload 7, 2) := by decide +kernel
theorem dX12_nextYear_84 : decode cX12_nextYear 84 = .ok (.iconst 1, 1) := by decide +kernel
theorem dX12_nextYear_85 : decode cX12_nextYear 85 = .ok (.sipush 9999, 3) := by decide +kernel
theorem dX12_nextYear_88 : decode cX12_nextYear 88 = .ok (.invokestatic 186, 3) := by decide +kernel
theorem dX12_nextYear_91 : decode cX12_nextYear 91 = .ok (.ifCond .eq 36, 3) := by decide +kernel
theorem dX12_nextYear_94 : decode cX12_nextYear 94 = .ok (.aload_n 0, 1) := by decide +kernel
theorem dX12_nextYear_95 : decode cX12_nextYear 95 = .ok (.getfield 82, 3) := by decide +kernel
theorem dX12_nextYear_98 : decode cX12_nextYear 98 = .ok (.sipush 10001, 3) := by decide +kernel
theorem dX12_nextYear_101 : decode cX12_nextYear 101 = .ok (.iload_n 1, 1) := by decide +kernel
theorem dX12_nextYear_102 : decode cX12_nextYear 102 = .ok (.imul, 1) := by decide +kernel
theorem dX12_nextYear_103 : decode cX12_nextYear 103 = .ok (.iload 7, 2) := by decide +kernel
theorem dX12_nextYear_105 : decode cX12_nextYear 105 = .ok (.iadd, 1) := by decide +kernel
theorem dX12_nextYear_106 : decode cX12_nextYear 106 = .ok (.laload, 1) := by decide +kernel
theorem dX12_nextYear_107 : decode cX12_nextYear 107 = .ok (.lload 5, 2) := by decide +kernel
theorem dX12_nextYear_109 : decode cX12_nextYear 109 = .ok (.lcmp, 1) := by decide +kernel
theorem dX12_nextYear_110 : decode cX12_nextYear 110 = .ok (.ifCond .ne 17, 3) := by decide +kernel
theorem dX12_nextYear_113 : decode cX12_nextYear 113 = .ok (.iload_n 3, 1) := by decide +kernel
theorem dX12_nextYear_114 : decode cX12_nextYear 114 = .ok (.iconst (-1), 1) := by decide +kernel
theorem dX12_nextYear_115 : decode cX12_nextYear 115 = .ok (.if_icmp .eq 9, 3) := by decide +kernel
theorem dX12_nextYear_118 : decode cX12_nextYear 118 = .ok (.iload 7, 2) := by decide +kernel
theorem dX12_nextYear_120 : decode cX12_nextYear 120 = .ok (.iload_n 3, 1) := by decide +kernel
theorem dX12_nextYear_121 : decode cX12_nextYear 121 = .ok (.if_icmp .ge 6, 3) := by decide +kernel
theorem dX12_nextYear_124 : decode cX12_nextYear 124 = .ok (.iload 7, 2) := by decide +kernel
theorem dX12_nextYear_126 : decode cX12_nextYear 126 = .ok (.istore_n 3, 1) := by decide +kernel
theorem dX12_nextYear_127 : decode cX12_nextYear 127 = .ok (.iload 8, 2) := by decide +kernel
theorem dX12_nextYear_129 : decode cX12_nextYear 129 = .ok (.iconst 1, 1) := by decide +kernel
theorem dX12_nextYear_130 : decode cX12_nextYear 130 = .ok (.sipush 9999, 3) := by decide +kernel
theorem dX12_nextYear_133 : decode cX12_nextYear 133 = .ok (.invokestatic 186, 3) := by decide +kernel
theorem dX12_nextYear_136 : decode cX12_nextYear 136 = .ok (.ifCond .eq 36, 3) := by decide +kernel
theorem dX12_nextYear_139 : decode cX12_nextYear 139 = .ok (.aload_n 0, 1) := by decide +kernel
theorem dX12_nextYear_140 : decode cX12_nextYear 140 = .ok (.getfield 82, 3) := by decide +kernel
theorem dX12_nextYear_143 : decode cX12_nextYear 143 = .ok (.sipush 10001, 3) := by decide +kernel
theorem dX12_nextYear_146 : decode cX12_nextYear 146 = .ok (.iload_n 1, 1) := by decide +kernel
theorem dX12_nextYear_147 : decode cX12_nextYear 147 = .ok (.imul, 1) := by decide +kernel
theorem dX12_nextYear_148 : decode cX12_nextYear 148 = .ok (.iload 8, 2) := by decide +kernel
theorem dX12_nextYear_150 : decode cX12_nextYear 150 = .ok (.iadd, 1) := by decide +kernel
theorem dX12_nextYear_151 : decode cX12_nextYear 151 = .ok (.laload, 1) := by decide +kernel
theorem dX12_nextYear_152 : decode cX12_nextYear 152 = .ok (.lload 5, 2) := by decide +kernel
theorem dX12_nextYear_154 : decode cX12_nextYear 154 = .ok (.lcmp, 1) := by decide +kernel
theorem dX12_nextYear_155 : decode cX12_nextYear 155 = .ok (.ifCond .ne 17, 3) := by decide +kernel
theorem dX12_nextYear_158 : decode cX12_nextYear 158 = .ok (.iload_n 3, 1) := by decide +kernel
theorem dX12_nextYear_159 : decode cX12_nextYear 159 = .ok (.iconst (-1), 1) := by decide +kernel
theorem dX12_nextYear_160 : decode cX12_nextYear 160 = .ok (.if_icmp .eq 9, 3) := by decide +kernel
theorem dX12_nextYear_163 : decode cX12_nextYear 163 = .ok (.iload 8, 2) := by decide +kernel
theorem dX12_nextYear_165 : decode cX12_nextYear 165 = .ok (.iload_n 3, 1) := by decide +kernel
theorem dX12_nextYear_166 : decode cX12_nextYear 166 = .ok (.if_icmp .ge 6, 3) := by decide +kernel
theorem dX12_nextYear_169 : decode cX12_nextYear 169 = .ok (.iload 8, 2) := by decide +kernel
theorem dX12_nextYear_171 : decode cX12_nextYear 171 = .ok (.istore_n 3, 1) := by decide +kernel
theorem dX12_nextYear_172 : decode cX12_nextYear 172 = .ok (.iinc 4 1, 3) := by decide +kernel
theorem dX12_nextYear_175 : decode cX12_nextYear 175 = .ok (.goto (-170), 3) := by decide +kernel
theorem dX12_nextYear_178 : decode cX12_nextYear 178 = .ok (.iload_n 3, 1) := by decide +kernel
theorem dX12_nextYear_179 : decode cX12_nextYear 179 = .ok (.ireturn, 1) := by decide +kernel
theorem dX12_nextMonth_0 : decode cX12_nextMonth 0 = .ok (.iconst (-1), 1) := by decide +kernel
theorem dX12_nextMonth_1 : decode cX12_nextMonth 1 = .ok (.istore_n 3, 1) := by decide +kernel
theorem dX12_nextMonth_2 : decode cX12_nextMonth 2 = .ok (.iconst 0, 1) := by decide +kernel
theorem dX12_nextMonth_3 : decode cX12_nextMonth 3 = .ok (.istore 4, 2) := by decide +kernel
theorem dX12_nextMonth_5 : decode cX12_nextMonth 5 = .ok (.iload 4, 2) := by decide +kernel
theorem dX12_nextMonth_7 : decode cX12_nextMonth 7 = .ok (.aload_n 0, 1) := by decide +kernel
theorem dX12_nextMonth_8 : decode cX12_nextMonth 8 = .ok (.getfield 60, 3) := by decide +kernel
theorem dX12_nextMonth_11 : decode cX12_nextMonth 11 = .ok (.iload_n 1, 1) := by decide +kernel
theorem dX12_nextMonth_12 : decode cX12_nextMonth 12 = .ok (.iaload, 1) := by decide +kernel
theorem dX12_nextMonth_13 : decode cX12_nextMonth 13 = .ok (.if_icmp .ge 129, 3) := by decide +kernel
theorem dX12_nextMonth_16 : decode cX12_nextMonth 16 = .ok (.aload_n 0, 1) := by decide +kernel
theorem dX12_nextMonth_17 : decode cX12_nextMonth 17 = .ok (.getfield 63, 3) := by decide +kernel
theorem dX12_nextMonth_20 : decode cX12_nextMonth 20 = .ok (.bipush 12, 2) := by decide +kernel
theorem dX12_nextMonth_22 : decode cX12_nextMonth 22 = .ok (.iload_n 1, 1) := by decide +kernel
theorem dX12_nextMonth_23 : decode cX12_nextMonth 23 = .ok (.imul, 1) := by decide +kernel
theorem dX12_nextMonth_24 : decode cX12_nextMonth 24 = .ok (.iload 4, 2) := by decide +kernel
theorem dX12_nextMonth_26 : decode cX12_nextMonth 26 = .ok (.iadd, 1) := by decide +kernel
theorem dX12_nextMonth_27 : decode cX12_nextMonth 27 = .ok (.iaload, 1) := by decide +kernel
theorem dX12_nextMonth_28 : decode cX12_nextMonth 28 = .ok (.istore 5, 2) := by decide +kernel
theorem dX12_nextMonth_30 : decode cX12_nextMonth 30 = .ok (.aload_n 0, 1) := by decide +kernel
theorem dX12_nextMonth_31 : decode cX12_nextMonth 31 = .ok (.getfield 66, 3) := by decide +kernel
theorem dX12_nextMonth_34 : decode cX12_nextMonth 34 = .ok (.bipush 12, 2) := by decide +kernel
theorem dX12_nextMonth_36 : decode cX12_nextMonth 36 = .ok (.iload_n 1, 1) := by decide +kernel
theorem dX12_nextMonth_37 : decode cX12_nextMonth 37 = .ok (.imul, 1) := by decide +kernel
theorem dX12_nextMonth_38 : decode cX12_nextMonth 38 = .ok (.iload 4, 2) := by decide +kernel
theorem dX12_nextMonth_40 : decode cX12_nextMonth 40 = .ok (.iadd, 1) := by decide +kernel
theorem dX12_nextMonth_41 : decode cX12_nextMonth 41 = .ok (.iaload, 1) := by decide +kernel
theorem dX12_nextMonth_42 : decode cX12_nextMonth 42 = .ok (.istore 6, 2) := by decide +kernel
theorem dX12_nextMonth_44 : decode cX12_nextMonth 44 = .ok (.iload 5, 2) := by decide +kernel
theorem dX12_nextMonth_46 : decode cX12_nextMonth 46 = .ok (.iload_n 2, 1) := by decide +kernel
theorem dX12_nextMonth_47 : decode cX12_nextMonth 47 = .ok (.if_icmp .ne 8, 3) := by decide +kernel
theorem dX12_nextMonth_50 : decode cX12_nextMonth 50 = .ok (.iload 6, 2) := by decide +kernel
theorem dX12_nextMonth_52 : decode cX12_nextMonth 52 = .ok (.goto 15, 3) := by decide +kernel
theorem dX12_nextMonth_55 : decode cX12_nextMonth 55 = .ok (.iload 6, 2) := by decide +kernel
theorem dX12_nextMonth_57 : decode cX12_nextMonth 57 = .ok (.iload_n 2, 1) := by decide +kernel
theorem dX12_nextMonth_58 : decode cX12_nextMonth 58 = .ok (.if_icmp .ne 8, 3) := by decide +kernel
theorem dX12_nextMonth_61 : decode cX12_nextMonth 61 = .ok (.iload 5, 2) := by decide +kernel
theorem dX12_nextMonth_63 : decode cX12_nextMonth 63 = .ok (.goto 4, 3) := by decide +kernel
theorem dX12_nextMonth_66 : decode cX12_nextMonth 66 = .ok (.iconst (-1), 1) := by decide +kernel
theorem dX12_nextMonth_67 : decode cX12_nextMonth 67 = .ok (.istore 7, 2) := by decide +kernel
theorem dX12_nextMonth_69 : decode cX12_nextMonth 69 = .ok (.iload 7, 2) := by decide +kernel
theorem dX12_nextMonth_71 : decode cX12_nextMonth 71 = .ok (.iconst (-1), 1) := by decide +kernel
theorem dX12_nextMonth_72 : decode cX12_nextMonth 72 = .ok (.if_icmp .eq 64, 3) := by decide +kernel
theorem dX12_nextMonth_75 : decode cX12_nextMonth 75 = .ok (.aload_n 0, 1) := by decide +kernel
theorem dX12_nextMonth_76 : decode cX12_nextMonth 76 = .ok (.getfield 86, 3) := by decide +kernel
theorem dX12_nextMonth_79 : decode cX12_nextMonth 79 = .ok (.bipush 13, 2) := by decide +kernel
theorem dX12_nextMonth_81 : decode cX12_nextMonth 81 = .ok (.iload_n 1, 1) := by decide +kernel
theorem dX12_nextMonth_82 : decode cX12_nextMonth 82 = .ok (.imul, 1) := by decide +kernel
theorem dX12_nextMonth_83 : decode cX12_nextMonth 83 = .ok (.iload 7, 2) := by decide +kernel
theorem dX12_nextMonth_85 : decode cX12_nextMonth 85 = .ok (.iadd, 1) := by decide +kernel
theorem dX12_nextMonth_86 : decode cX12_nextMonth 86 = .ok (.laload, 1) := by decide +kernel
theorem dX12_nextMonth_87 : decode cX12_nextMonth 87 = .ok (.aload_n 0, 1) := by decide +kernel
theorem dX12_nextMonth_88 : decode cX12_nextMonth 88 = .ok (.getfield 86, 3) := by decide +kernel
theorem dX12_nextMonth_91 : decode cX12_nextMonth 91 = .ok (.bipush 13, 2) := by decide +kernel
theorem dX12_nextMonth_93 : decode cX12_nextMonth 93 = .ok (.iload_n 1, 1) := by decide +kernel
theorem dX12_nextMonth_94 : decode cX12_nextMonth 94 = .ok (.imul, 1) := by decide +kernel
theorem dX12_nextMonth_95 : decode cX12_nextMonth 95 = .ok (.iload_n 2, 1) := by decide +kernel
theorem dX12_nextMonth_96 : decode cX12_nextMonth 96 = .ok (.iadd, 1) := by decide +kernel
theorem dX12_nextMonth_97 : decode cX12_nextMonth 97 = .ok (.laload, 1) := by decide +kernel
theorem dX12_nextMonth_98 : decode cX12_nextMonth 98 = .ok (.ldc2_w 316, 3) := by decide +kernel
theorem dX12_nextMonth_101 : decode cX12_nextMonth 101 = .ok (.aload_n 0, 1) := by decide +kernel
theorem dX12_nextMonth_102 : decode cX12_nextMonth 102 = .ok (.getfield 69, 3) := by decide +kernel
theorem dX12_nextMonth_105 : decode cX12_nextMonth 105 = .ok (.bipush 12, 2) := by decide +kernel
theorem dX12_nextMonth_107 : decode cX12_nextMonth 107 = .ok (.iload_n 1, 1) := by decide +kernel
theorem dX12_nextMonth_108 : decode cX12_nextMonth 108 = .ok (.imul, 1) := by decide +kernel
theorem dX12_nextMonth_109 : decode cX12_nextMonth 109 = .ok (.iload 4, 2) := by decide +kernel
theorem dX12_nextMonth_111 : decode cX12_nextMonth 111 = .ok (.iadd, 1) := by decide +kernel
theorem dX12_nextMonth_112 : decode cX12_nextMonth 112 = .ok (.iaload, 1) := by decide +kernel
theorem dX12_nextMonth_113 : decode cX12_nextMonth 113 = .ok (.i2l, 1) := by decide +kernel
theorem dX12_nextMonth_114 : decode cX12_nextMonth 114 = .ok (.lmul, 1) := by decide +kernel
theorem dX12_nextMonth_115 : decode cX12_nextMonth 115 = .ok (.lsub, 1) := by decide +kernel
theorem dX12_nextMonth_116 : decode cX12_nextMonth 116 = .ok (.lconst 1, 1) := by decide +kernel
theorem dX12_nextMonth_117 : decode cX12_nextMonth 117 = .ok (.lsub, 1) := by decide +kernel
theorem dX12_nextMonth_118 : decode cX12_nextMonth 118 = .ok (.lcmp, 1) := by decide +kernel
theorem dX12_nextMonth_119 : decode cX12_nextMonth 119 = .ok (.ifCond .ne 17, 3) := by decide +kernel
theorem dX12_nextMonth_122 : decode cX12_nextMonth 122 = .ok (.iload_n 3, 1) := by decide +kernel
theorem dX12_nextMonth_123 : decode cX12_nextMonth 123 = .ok (.iconst (-1), 1) := by decide +kernel
theorem dX12_nextMonth_124 : decode cX12_nextMonth 124 = .ok (.if_icmp .eq 9, 3) := by decide +kernel
theorem dX12_nextMonth_127 : decode cX12_nextMonth 127 = .ok (.iload 7, 2) := by decide +kernel
theorem dX12_nextMonth_129 : decode cX12_nextMonth 129 = .ok (.iload_n 3, 1) := by decide +kernel
theorem dX12_nextMonth_130 : decode cX12_nextMonth 130 = .ok (.if_icmp .ge 6, 3) := by decide +kernel
theorem dX12_nextMonth_133 : decode cX12_nextMonth 133 = .ok (.iload 7, 2) := by decide +kernel
theorem dX12_nextMonth_135 : decode cX12_nextMonth 135 = .ok (.istore_n 3, 1) := by decide +kernel
theorem dX12_nextMonth_136 : decode cX12_nextMonth 136 = .ok (.iinc 4 1, 3) := by decide +kernel
theorem dX12_nextMonth_139 : decode cX12_nextMonth 139 = .ok (.goto (-134), 3) := by decide +kernel
theorem dX12_nextMonth_142 : decode cX12_nextMonth 142 = .ok (.iload_n 3, 1) := by decide +kernel
theorem dX12_nextMonth_143 : decode cX12_nextMonth 143 = .ok (.ireturn, 1) := by decide +kernel
theorem dX12_isHead_0 : decode cX12_isHead 0 = .ok (.iload_n 1, 1) := by decide +kernel
theorem dX12_isHead_1 : decode cX12_isHead 1 = .ok (.iconst 0, 1) := by decide +kernel
theorem dX12_isHead_2 : decode cX12_isHead 2 = .ok (.aload_n 0, 1) := by decide +kernel
theorem dX12_isHead_3 : decode cX12_isHead 3 = .ok (.getfield 274, 3) := by decide +kernel
theorem dX12_isHead_6 : decode cX12_isHead 6 = .ok (.iconst 1, 1) := by decide +kernel
theorem dX12_isHead_7 : decode cX12_isHead 7 = .ok (.isub, 1) := by decide +kernel
theorem dX12_isHead_8 : decode cX12_isHead 8 = .ok (.invokestatic 186, 3) := by decide +kernel
theorem dX12_isHead_11 : decode cX12_isHead 11 = .ok (.ireturn, 1) := by decide +kernel
theorem dX12_goes_0 : decode cX12_goes 0 = .ok (.aload_n 0, 1) := by decide +kernel
theorem dX12_goes_1 : decode cX12_goes 1 = .ok (.getfield 82, 3) := by decide +kernel
theorem dX12_goes_4 : decode cX12_goes 4 = .ok (.sipush 10001, 3) := by decide +kernel
theorem dX12_goes_7 : decode cX12_goes 7 = .ok (.iload_n 1, 1) := by decide +kernel
theorem dX12_goes_8 : decode cX12_goes 8 = .ok (.imul, 1) := by decide +kernel
theorem dX12_goes_9 : decode cX12_goes 9 = .ok (.iload_n 3, 1) := by decide +kernel
theorem dX12_goes_10 : decode cX12_goes 10 = .ok (.iadd, 1) := by decide +kernel
theorem dX12_goes_11 : decode cX12_goes 11 = .ok (.laload, 1) := by decide +kernel
theorem dX12_goes_12 : decode cX12_goes 12 = .ok (.ldc2_w 321, 3) := by decide +kernel
theorem dX12_goes_15 : decode cX12_goes 15 = .ok (.lcmp, 1) := by decide +kernel
theorem dX12_goes_16 : decode cX12_goes 16 = .ok (.ifCond .ge 22, 3) := by decide +kernel
theorem dX12_goes_19 : decode cX12_goes 19 = .ok (.aload_n 0, 1) := by decide +kernel
theorem dX12_goes_20 : decode cX12_goes 20 = .ok (.getfield 86, 3) := by decide +kernel
theorem dX12_goes_23 : decode cX12_goes 23 = .ok (.bipush 13, 2) := by decide +kernel
theorem dX12_goes_25 : decode cX12_goes 25 = .ok (.iload_n 1, 1) := by decide +kernel
theorem dX12_goes_26 : decode cX12_goes 26 = .ok (.imul, 1) := by decide +kernel
theorem dX12_goes_27 : decode cX12_goes 27 = .ok (.iload 4, 2) := by decide +kernel
theorem dX12_goes_29 : decode cX12_goes 29 = .ok (.iadd, 1) := by decide +kernel
theorem dX12_goes_30 : decode cX12_goes 30 = .ok (.laload, 1) := by decide +kernel
theorem dX12_goes_31 : decode cX12_goes 31 = .ok (.ldc2_w 321, 3) := by decide +kernel
theorem dX12_goes_34 : decode cX12_goes 34 = .ok (.lcmp, 1) := by decide +kernel
theorem dX12_goes_35 : decode cX12_goes 35 = .ok (.ifCond .lt 5, 3) := by decide +kernel
theorem dX12_goes_38 : decode cX12_goes 38 = .ok (.iconst 0, 1) := by decide +kernel
theorem dX12_goes_39 : decode cX12_goes 39 = .ok (.ireturn, 1) := by decide +kernel
theorem dX12_goes_40 : decode cX12_goes 40 = .ok (.aload_n 0, 1) := by decide +kernel
theorem dX12_goes_41 : decode cX12_goes 41 = .ok (.iconst 0, 1) := by decide +kernel
theorem dX12_goes_42 : decode cX12_goes 42 = .ok (.putfield 332, 3) := by decide +kernel
theorem dX12_goes_45 : decode cX12_goes 45 = .ok (.iload_n 3, 1) := by decide +kernel
theorem dX12_goes_46 : decode cX12_goes 46 = .ok (.istore 5, 2) := by decide +kernel
theorem dX12_goes_48 : decode cX12_goes 48 = .ok (.iload 5, 2) := by decide +kernel
theorem dX12_goes_50 : decode cX12_goes 50 = .ok (.iconst (-1), 1) := by decide +kernel
theorem dX12_goes_51 : decode cX12_goes 51 = .ok (.if_icmp .eq 58, 3) := by decide +kernel
theorem dX12_goes_54 : decode cX12_goes 54 = .ok (.aload_n 0, 1) := by decide +kernel
theorem dX12_goes_55 : decode cX12_goes 55 = .ok (.getfield 95, 3) := by decide +kernel
theorem dX12_goes_58 : decode cX12_goes 58 = .ok (.aload_n 0, 1) := by decide +kernel
theorem dX12_goes_59 : decode cX12_goes 59 = .ok (.getfield 332, 3) := by decide +kernel
theorem dX12_goes_62 : decode cX12_goes 62 = .ok (.iload 5, 2) := by decide +kernel
theorem dX12_goes_64 : decode cX12_goes 64 = .ok (.iastore, 1) := by decide +kernel
theorem dX12_goes_65 : decode cX12_goes 65 = .ok (.aload_n 0, 1) := by decide +kernel
theorem dX12_goes_66 : decode cX12_goes 66 = .ok (.dup, 1) := by decide +kernel
theorem dX12_goes_67 : decode cX12_goes 67 = .ok (.getfield 332, 3) := by decide +kernel
theorem dX12_goes_70 : decode cX12_goes 70 = .ok (.iconst 1, 1) := by decide +kernel
theorem dX12_goes_71 : decode cX12_goes 71 = .ok (.iadd, 1) := by decide +kernel
theorem dX12_goes_72 : decode cX12_goes 72 = .ok (.putfield 332, 3) := by decide +kernel
theorem dX12_goes_75 : decode cX12_goes 75 = .ok (.aload_n 0, 1) := by decide +kernel
theorem dX12_goes_76 : decode cX12_goes 76 = .ok (.getfield 82, 3) := by decide +kernel
theorem dX12_goes_79 : decode cX12_goes 79 = .ok (.sipush 10001, 3) := by decide +kernel
theorem dX12_goes_82 : decode cX12_goes 82 = .ok (.iload_n 1, 1) := by decide +kernel
theorem dX12_goes_83 : decode cX12_goes 83 = .ok (.imul, 1) := by decide +kernel
theorem dX12_goes_84 : decode cX12_goes 84 = .ok (.iload 5, 2) := by decide +kernel
theorem dX12_goes_86 : decode cX12_goes 86 = .ok (.iadd, 1) := by decide +kernel
theorem dX12_goes_87 : decode cX12_goes 87 = .ok (.laload, 1) := by decide +kernel
theorem dX12_goes_88 : decode cX12_goes 88 = .ok (.lconst 0, 1) := by decide +kernel
theorem dX12_goes_89 : decode cX12_goes 89 = .ok (.lcmp, 1) := by decide +kernel
theorem dX12_goes_90 : decode cX12_goes 90 = .ok (.ifCond .ne 7, 3) := by decide +kernel
theorem dX12_goes_93 : decode cX12_goes 93 = .ok (.iconst (-1), 1) := by decide +kernel
theorem dX12_goes_94 : decode cX12_goes 94 = .ok (.goto 10, 3) := by decide +kernel
theorem dX12_goes_97 : decode cX12_goes 97 = .ok (.aload_n 0, 1) := by decide +kernel
theorem dX12_goes_98 : decode cX12_goes 98 = .ok (.iload_n 1, 1) := by decide +kernel
theorem dX12_goes_99 : decode cX12_goes 99 = .ok (.iload 5, 2) := by decide +kernel
theorem dX12_goes_101 : decode cX12_goes 101 = .ok (.invokevirtual 335, 3) := by decide +kernel
theorem dX12_goes_104 : decode cX12_goes 104 = .ok (.istore 5, 2) := by decide +kernel
theorem dX12_goes_106 : decode cX12_goes 106 = .ok (.goto (-58), 3) := by decide +kernel
theorem dX12_goes_109 : decode cX12_goes 109 = .ok (.aload_n 0, 1) := by decide +kernel
theorem dX12_goes_110 : decode cX12_goes 110 = .ok (.iconst 0, 1) := by decide +kernel
theorem dX12_goes_111 : decode cX12_goes 111 = .ok (.putfield 338, 3) := by decide +kernel
theorem dX12_goes_114 : decode cX12_goes 114 = .ok (.iload 4, 2) := by decide +kernel
theorem dX12_goes_116 : decode cX12_goes 116 = .ok (.istore 5, 2) := by decide +kernel
theorem dX12_goes_118 : decode cX12_goes 118 = .ok (.iload 5, 2) := by decide +kernel
theorem dX12_goes_120 : decode cX12_goes 120 = .ok (.iconst (-1), 1) := by decide +kernel
theorem dX12_goes_121 : decode cX12_goes 121 = .ok (.if_icmp .eq 57, 3) := by decide +kernel
theorem dX12_goes_124 : decode cX12_goes 124 = .ok (.aload_n 0, 1) := by decide +kernel
theorem dX12_goes_125 : decode cX12_goes 125 = .ok (.getfield 98, 3) := by decide +kernel
theorem dX12_goes_128 : decode cX12_goes 128 = .ok (.aload_n 0, 1) := by decide +kernel
theorem dX12_goes_129 : decode cX12_goes 129 = .ok (.getfield 338, 3) := by decide +kernel
theorem dX12_goes_132 : decode cX12_goes 132 = .ok (.iload 5, 2) := by decide +kernel
theorem dX12_goes_134 : decode cX12_goes 134 = .ok (.iastore, 1) := by decide +kernel
theorem dX12_goes_135 : decode cX12_goes 135 = .ok (.aload_n 0, 1) := by decide +kernel
theorem dX12_goes_136 : decode cX12_goes 136 = .ok (.dup, 1) := by decide +kernel
theorem dX12_goes_137 : decode cX12_goes 137 = .ok (.getfield 338, 3) := by decide +kernel
theorem dX12_goes_140 : decode cX12_goes 140 = .ok (.iconst 1, 1) := by decide +kernel
theorem dX12_goes_141 : decode cX12_goes 141 = .ok (.iadd, 1) := by decide +kernel
theorem dX12_goes_142 : decode cX12_goes 142 = .ok (.putfield 338, 3) := by decide +kernel
theorem dX12_goes_145 : decode cX12_goes 145 = .ok (.aload_n 0, 1) := by decide +kernel
theorem dX12_goes_146 : decode cX12_goes 146 = .ok (.getfield 86, 3) := by decide +kernel
theorem dX12_goes_149 : decode cX12_goes 149 = .ok (.bipush 13, 2) := by decide +kernel
theorem dX12_goes_151 : decode cX12_goes 151 = .ok (.iload_n 1, 1) := by decide +kernel
theorem dX12_goes_152 : decode cX12_goes 152 = .ok (.imul, 1) := by decide +kernel
theorem dX12_goes_153 : decode cX12_goes 153 = .ok (.iload 5, 2) := by decide +kernel
theorem dX12_goes_155 : decode cX12_goes 155 = .ok (.iadd, 1) := by decide +kernel
theorem dX12_goes_156 : decode cX12_goes 156 = .ok (.laload, 1) := by decide +kernel
theorem dX12_goes_157 : decode cX12_goes 157 = .ok (.lconst 0, 1) := by decide +kernel
theorem dX12_goes_158 : decode cX12_goes 158 = .ok (.lcmp, 1) := by decide +kernel
theorem dX12_goes_159 : decode cX12_goes 159 = .ok (.ifCond .ne 7, 3) := by decide +kernel
theorem dX12_goes_162 : decode cX12_goes 162 = .ok (.iconst (-1), 1) := by decide +kernel
theorem dX12_goes_163 : decode cX12_goes 163 = .ok (.goto 10, 3) := by decide +kernel
theorem dX12_goes_166 : decode cX12_goes 166 = .ok (.aload_n 0, 1) := by decide +kernel
theorem dX12_goes_167 : decode cX12_goes 167 = .ok (.iload_n 1, 1) := by decide +kernel
theorem dX12_goes_168 : decode cX12_goes 168 = .ok (.iload 5, 2) := by decide +kernel
theorem dX12_goes_170 : decode cX12_goes 170 = .ok (.invokevirtual 341, 3) := by decide +kernel
theorem dX12_goes_173 : decode cX12_goes 173 = .ok (.istore 5, 2) := by decide +kernel
theorem dX12_goes_175 : decode cX12_goes 175 = .ok (.goto (-57), 3) := by decide +kernel
theorem dX12_goes_178 : decode cX12_goes 178 = .ok (.aload_n 0, 1) := by decide +kernel
theorem dX12_goes_179 : decode cX12_goes 179 = .ok (.iload_n 2, 1) := by decide +kernel
theorem dX12_goes_180 : decode cX12_goes 180 = .ok (.aload_n 0, 1) := by decide +kernel
theorem dX12_goes_181 : decode cX12_goes 181 = .ok (.getfield 95, 3) := by decide +kernel
theorem dX12_goes_184 : decode cX12_goes 184 = .ok (.aload_n 0, 1) := by decide +kernel
theorem dX12_goes_185 : decode cX12_goes 185 = .ok (.getfield 332, 3) := by decide +kernel
theorem dX12_goes_188 : decode cX12_goes 188 = .ok (.iconst 1, 1) := by decide +kernel
theorem dX12_goes_189 : decode cX12_goes 189 = .ok (.isub, 1) := by decide +kernel
theorem dX12_goes_190 : decode cX12_goes 190 = .ok (.iaload, 1) := by decide +kernel
theorem dX12_goes_191 : decode cX12_goes 191 = .ok (.aload_n 0, 1) := by decide +kernel
theorem dX12_goes_192 : decode cX12_goes 192 = .ok (.getfield 98, 3) := by decide +kernel
theorem dX12_goes_195 : decode cX12_goes 195 = .ok (.aload_n 0, 1) := by decide +kernel
theorem dX12_goes_196 : decode cX12_goes 196 = .ok (.getfield 338, 3) := by decide +kernel
theorem dX12_goes_199 : decode cX12_goes 199 = .ok (.iconst 1, 1) := by decide +kernel
theorem dX12_goes_200 : decode cX12_goes 200 = .ok (.isub, 1) := by decide +kernel
theorem dX12_goes_201 : decode cX12_goes 201 = .ok (.iaload, 1) := by decide +kernel
theorem dX12_goes_202 : decode cX12_goes 202 = .ok (.iconst 1, 1) := by decide +kernel
theorem dX12_goes_203 : decode cX12_goes 203 = .ok (.invokevirtual 287, 3) := by decide +kernel
theorem dX12_goes_206 : decode cX12_goes 206 = .ok (.ireturn, 1) := by decide +kernel
theorem dX12_way_0 : decode cX12_way 0 = .ok (.aload_n 0, 1) := by decide +kernel
theorem dX12_way_1 : decode cX12_way 1 = .ok (.iload_n 1, 1) := by decide +kernel
theorem dX12_way_2 : decode cX12_way 2 = .ok (.invokevirtual 344, 3) := by decide +kernel
theorem dX12_way_5 : decode cX12_way 5 = .ok (.ifCond .eq 38, 3) := by decide +kernel
theorem dX12_way_8 : decode cX12_way 8 = .ok (.aload_n 0, 1) := by decide +kernel
theorem dX12_way_9 : decode cX12_way 9 = .ok (.iload_n 2, 1) := by decide +kernel
theorem dX12_way_10 : decode cX12_way 10 = .ok (.iload_n 3, 1) := by decide +kernel
theorem dX12_way_11 : decode cX12_way 11 = .ok (.iload 4, 2) := by decide +kernel
theorem dX12_way_13 : decode cX12_way 13 = .ok (.iload 5, 2) := by decide +kernel
theorem dX12_way_15 : decode cX12_way 15 = .ok (.invokevirtual 287, 3) := by decide +kernel
theorem dX12_way_18 : decode cX12_way 18 = .ok (.ifCond .eq 25, 3) := by decide +kernel
theorem dX12_way_21 : decode cX12_way 21 = .ok (.iload 6, 2) := by decide +kernel
theorem dX12_way_23 : decode cX12_way 23 = .ok (.iconst 0, 1) := by decide +kernel
theorem dX12_way_24 : decode cX12_way 24 = .ok (.iconst 1, 1) := by decide +kernel
theorem dX12_way_25 : decode cX12_way 25 = .ok (.invokestatic 186, 3) := by decide +kernel
theorem dX12_way_28 : decode cX12_way 28 = .ok (.ifCond .eq 15, 3) := by decide +kernel
theorem dX12_way_31 : decode cX12_way 31 = .ok (.aload_n 0, 1) := by decide +kernel
theorem dX12_way_32 : decode cX12_way 32 = .ok (.iload_n 1, 1) := by decide +kernel
theorem dX12_way_33 : decode cX12_way 33 = .ok (.iload_n 2, 1) := by decide +kernel
theorem dX12_way_34 : decode cX12_way 34 = .ok (.iload_n 3, 1) := by decide +kernel
theorem dX12_way_35 : decode cX12_way 35 = .ok (.iload 4, 2) := by decide +kernel
theorem dX12_way_37 : decode cX12_way 37 = .ok (.invokevirtual 347, 3) := by decide +kernel
theorem dX12_way_40 : decode cX12_way 40 = .ok (.ifCond .ne 5, 3) := by decide +kernel
theorem dX12_way_43 : decode cX12_way 43 = .ok (.iconst (-1), 1) := by decide +kernel
theorem dX12_way_44 : decode cX12_way 44 = .ok (.ireturn, 1) := by decide +kernel
theorem dX12_way_45 : decode cX12_way 45 = .ok (.iload 6, 2) := by decide +kernel
theorem dX12_way_47 : decode cX12_way 47 = .ok (.ifCond .ne 10, 3) := by decide +kernel
theorem dX12_way_50 : decode cX12_way 50 = .ok (.aload_n 0, 1) := by decide +kernel
theorem dX12_way_51 : decode cX12_way 51 = .ok (.getfield 332, 3) := by decide +kernel
theorem dX12_way_54 : decode cX12_way 54 = .ok (.goto 7, 3) := by decide +kernel
theorem dX12_way_57 : decode cX12_way 57 = .ok (.aload_n 0, 1) := by decide +kernel
theorem dX12_way_58 : decode cX12_way 58 = .ok (.getfield 338, 3) := by decide +kernel
theorem dX12_way_61 : decode cX12_way 61 = .ok (.istore 8, 2) := by decide +kernel
theorem dX12_way_63 : decode cX12_way 63 = .ok (.iload 7, 2) := by decide +kernel
theorem dX12_way_65 : decode cX12_way 65 = .ok (.iconst (-1), 1) := by decide +kernel
theorem dX12_way_66 : decode cX12_way 66 = .ok (.if_icmp .ne 8, 3) := by decide +kernel
theorem dX12_way_69 : decode cX12_way 69 = .ok (.iload 8, 2) := by decide +kernel
theorem dX12_way_71 : decode cX12_way 71 = .ok (.iconst 1, 1) := by decide +kernel
theorem dX12_way_72 : decode cX12_way 72 = .ok (.isub, 1) := by decide +kernel
theorem dX12_way_73 : decode cX12_way 73 = .ok (.ireturn, 1) := by decide +kernel
theorem dX12_way_74 : decode cX12_way 74 = .ok (.iload 7, 2) := by decide +kernel
theorem dX12_way_76 : decode cX12_way 76 = .ok (.iconst 0, 1) := by decide +kernel
theorem dX12_way_77 : decode cX12_way 77 = .ok (.iload 8, 2) := by decide +kernel
theorem dX12_way_79 : decode cX12_way 79 = .ok (.iconst 1, 1) := by decide +kernel
theorem dX12_way_80 : decode cX12_way 80 = .ok (.isub, 1) := by decide +kernel
theorem dX12_way_81 : decode cX12_way 81 = .ok (.invokestatic 186, 3) := by decide +kernel
theorem dX12_way_84 : decode cX12_way 84 = .ok (.ifCond .eq 28, 3) := by decide +kernel
theorem dX12_way_87 : decode cX12_way 87 = .ok (.iload 6, 2) := by decide +kernel
theorem dX12_way_89 : decode cX12_way 89 = .ok (.ifCond .ne 13, 3) := by decide +kernel
theorem dX12_way_92 : decode cX12_way 92 = .ok (.aload_n 0, 1) := by decide +kernel
theorem dX12_way_93 : decode cX12_way 93 = .ok (.getfield 95, 3) := by decide +kernel
theorem dX12_way_96 : decode cX12_way 96 = .ok (.iload 7, 2) := by decide +kernel
theorem dX12_way_98 : decode cX12_way 98 = .ok (.iaload, 1) := by decide +kernel
theorem dX12_way_99 : decode cX12_way 99 = .ok (.goto 14, 3) := by decide +kernel
theorem dX12_way_102 : decode cX12_way 102 = .ok (.aload_n 0, 1) := by decide +kernel
theorem dX12_way_103 : decode cX12_way 103 = .ok (.getfield 98, 3) := by decide +kernel
theorem dX12_way_106 : decode cX12_way 106 = .ok (.iload 7, 2) := by decide +kernel
theorem dX12_way_108 : decode cX12_way 108 = .ok (.iaload, 1) := by decide +kernel
theorem dX12_way_109 : decode cX12_way 109 = .ok (.goto 4, 3) := by decide +kernel
theorem dX12_way_112 : decode cX12_way 112 = .ok (.iconst (-1), 1) := by decide +kernel
theorem dX12_way_113 : decode cX12_way 113 = .ok (.ireturn, 1) := by decide +kernel
theorem dX12_answer_0 : decode cX12_answer 0 = .ok (.aload_n 0, 1) := by decide +kernel
theorem dX12_answer_1 : decode cX12_answer 1 = .ok (.iload_n 1, 1) := by decide +kernel
theorem dX12_answer_2 : decode cX12_answer 2 = .ok (.iload_n 2, 1) := by decide +kernel
theorem dX12_answer_3 : decode cX12_answer 3 = .ok (.iload_n 3, 1) := by decide +kernel
theorem dX12_answer_4 : decode cX12_answer 4 = .ok (.iload 4, 2) := by decide +kernel
theorem dX12_answer_6 : decode cX12_answer 6 = .ok (.invokevirtual 347, 3) := by decide +kernel
theorem dX12_answer_9 : decode cX12_answer 9 = .ok (.ifCond .ne 5, 3) := by decide +kernel
theorem dX12_answer_12 : decode cX12_answer 12 = .ok (.iconst 0, 1) := by decide +kernel
theorem dX12_answer_13 : decode cX12_answer 13 = .ok (.ireturn, 1) := by decide +kernel
theorem dX12_answer_14 : decode cX12_answer 14 = .ok (.aload_n 0, 1) := by decide +kernel
theorem dX12_answer_15 : decode cX12_answer 15 = .ok (.getfield 95, 3) := by decide +kernel
theorem dX12_answer_18 : decode cX12_answer 18 = .ok (.aload_n 0, 1) := by decide +kernel
theorem dX12_answer_19 : decode cX12_answer 19 = .ok (.getfield 332, 3) := by decide +kernel
theorem dX12_answer_22 : decode cX12_answer 22 = .ok (.iconst 1, 1) := by decide +kernel
theorem dX12_answer_23 : decode cX12_answer 23 = .ok (.isub, 1) := by decide +kernel
theorem dX12_answer_24 : decode cX12_answer 24 = .ok (.iaload, 1) := by decide +kernel
theorem dX12_answer_25 : decode cX12_answer 25 = .ok (.istore 6, 2) := by decide +kernel
theorem dX12_answer_27 : decode cX12_answer 27 = .ok (.aload_n 0, 1) := by decide +kernel
theorem dX12_answer_28 : decode cX12_answer 28 = .ok (.aload_n 0, 1) := by decide +kernel
theorem dX12_answer_29 : decode cX12_answer 29 = .ok (.iload_n 2, 1) := by decide +kernel
theorem dX12_answer_30 : decode cX12_answer 30 = .ok (.iload 6, 2) := by decide +kernel
theorem dX12_answer_32 : decode cX12_answer 32 = .ok (.aload_n 0, 1) := by decide +kernel
theorem dX12_answer_33 : decode cX12_answer 33 = .ok (.getfield 98, 3) := by decide +kernel
theorem dX12_answer_36 : decode cX12_answer 36 = .ok (.aload_n 0, 1) := by decide +kernel
theorem dX12_answer_37 : decode cX12_answer 37 = .ok (.getfield 338, 3) := by decide +kernel
theorem dX12_answer_40 : decode cX12_answer 40 = .ok (.iconst 1, 1) := by decide +kernel
theorem dX12_answer_41 : decode cX12_answer 41 = .ok (.isub, 1) := by decide +kernel
theorem dX12_answer_42 : decode cX12_answer 42 = .ok (.iaload, 1) := by decide +kernel
theorem dX12_answer_43 : decode cX12_answer 43 = .ok (.iconst 1, 1) := by decide +kernel
theorem dX12_answer_44 : decode cX12_answer 44 = .ok (.invokevirtual 291, 3) := by decide +kernel
theorem dX12_answer_47 : decode cX12_answer 47 = .ok (.iload 5, 2) := by decide +kernel
theorem dX12_answer_49 : decode cX12_answer 49 = .ok (.iadd, 1) := by decide +kernel
theorem dX12_answer_50 : decode cX12_answer 50 = .ok (.iconst 1, 1) := by decide +kernel
theorem dX12_answer_51 : decode cX12_answer 51 = .ok (.isub, 1) := by decide +kernel
theorem dX12_answer_52 : decode cX12_answer 52 = .ok (.bipush 7, 2) := by decide +kernel
theorem dX12_answer_54 : decode cX12_answer 54 = .ok (.irem, 1) := by decide +kernel
theorem dX12_answer_55 : decode cX12_answer 55 = .ok (.putfield 350, 3) := by decide +kernel
theorem dX12_answer_58 : decode cX12_answer 58 = .ok (.aload_n 0, 1) := by decide +kernel
theorem dX12_answer_59 : decode cX12_answer 59 = .ok (.getfield 82, 3) := by decide +kernel
theorem dX12_answer_62 : decode cX12_answer 62 = .ok (.sipush 10001, 3) := by decide +kernel
theorem dX12_answer_65 : decode cX12_answer 65 = .ok (.iload_n 1, 1) := by decide +kernel
theorem dX12_answer_66 : decode cX12_answer 66 = .ok (.imul, 1) := by decide +kernel
theorem dX12_answer_67 : decode cX12_answer 67 = .ok (.iload_n 3, 1) := by decide +kernel
theorem dX12_answer_68 : decode cX12_answer 68 = .ok (.iadd, 1) := by decide +kernel
theorem dX12_answer_69 : decode cX12_answer 69 = .ok (.laload, 1) := by decide +kernel
theorem dX12_answer_70 : decode cX12_answer 70 = .ok (.ldc2_w 316, 3) := by decide +kernel
theorem dX12_answer_73 : decode cX12_answer 73 = .ok (.ldiv, 1) := by decide +kernel
theorem dX12_answer_74 : decode cX12_answer 74 = .ok (.aload_n 0, 1) := by decide +kernel
theorem dX12_answer_75 : decode cX12_answer 75 = .ok (.getfield 86, 3) := by decide +kernel
theorem dX12_answer_78 : decode cX12_answer 78 = .ok (.bipush 13, 2) := by decide +kernel
theorem dX12_answer_80 : decode cX12_answer 80 = .ok (.iload_n 1, 1) := by decide +kernel
theorem dX12_answer_81 : decode cX12_answer 81 = .ok (.imul, 1) := by decide +kernel
theorem dX12_answer_82 : decode cX12_answer 82 = .ok (.iload 4, 2) := by decide +kernel
theorem dX12_answer_84 : decode cX12_answer 84 = .ok (.iadd, 1) := by decide +kernel
theorem dX12_answer_85 : decode cX12_answer 85 = .ok (.laload, 1) := by decide +kernel
theorem dX12_answer_86 : decode cX12_answer 86 = .ok (.ldc2_w 316, 3) := by decide +kernel
theorem dX12_answer_89 : decode cX12_answer 89 = .ok (.ldiv, 1) := by decide +kernel
theorem dX12_answer_90 : decode cX12_answer 90 = .ok (.ladd, 1) := by decide +kernel
theorem dX12_answer_91 : decode cX12_answer 91 = .ok (.l2i, 1) := by decide +kernel
theorem dX12_answer_92 : decode cX12_answer 92 = .ok (.istore 7, 2) := by decide +kernel
theorem dX12_answer_94 : decode cX12_answer 94 = .ok (.aload_n 0, 1) := by decide +kernel
theorem dX12_answer_95 : decode cX12_answer 95 = .ok (.aload_n 0, 1) := by decide +kernel
theorem dX12_answer_96 : decode cX12_answer 96 = .ok (.getfield 75, 3) := by decide +kernel
theorem dX12_answer_99 : decode cX12_answer 99 = .ok (.iconst 4, 1) := by decide +kernel
theorem dX12_answer_100 : decode cX12_answer 100 = .ok (.iload_n 1, 1) := by decide +kernel
theorem dX12_answer_101 : decode cX12_answer 101 = .ok (.imul, 1) := by decide +kernel
theorem dX12_answer_102 : decode cX12_answer 102 = .ok (.iconst 2, 1) := by decide +kernel
theorem dX12_answer_103 : decode cX12_answer 103 = .ok (.iadd, 1) := by decide +kernel
theorem dX12_answer_104 : decode cX12_answer 104 = .ok (.iaload, 1) := by decide +kernel
theorem dX12_answer_105 : decode cX12_answer 105 = .ok (.iload 7, 2) := by decide +kernel
theorem dX12_answer_107 : decode cX12_answer 107 = .ok (.iadd, 1) := by decide +kernel
theorem dX12_answer_108 : decode cX12_answer 108 = .ok (.aload_n 0, 1) := by decide +kernel
theorem dX12_answer_109 : decode cX12_answer 109 = .ok (.getfield 75, 3) := by decide +kernel
theorem dX12_answer_112 : decode cX12_answer 112 = .ok (.iconst 4, 1) := by decide +kernel
theorem dX12_answer_113 : decode cX12_answer 113 = .ok (.iload_n 1, 1) := by decide +kernel
theorem dX12_answer_114 : decode cX12_answer 114 = .ok (.imul, 1) := by decide +kernel
theorem dX12_answer_115 : decode cX12_answer 115 = .ok (.iaload, 1) := by decide +kernel
theorem dX12_answer_116 : decode cX12_answer 116 = .ok (.iload 5, 2) := by decide +kernel
theorem dX12_answer_118 : decode cX12_answer 118 = .ok (.iconst 1, 1) := by decide +kernel
theorem dX12_answer_119 : decode cX12_answer 119 = .ok (.isub, 1) := by decide +kernel
theorem dX12_answer_120 : decode cX12_answer 120 = .ok (.bipush 7, 2) := by decide +kernel
theorem dX12_answer_122 : decode cX12_answer 122 = .ok (.idiv, 1) := by decide +kernel
theorem dX12_answer_123 : decode cX12_answer 123 = .ok (.imul, 1) := by decide +kernel
theorem dX12_answer_124 : decode cX12_answer 124 = .ok (.iadd, 1) := by decide +kernel
theorem dX12_answer_125 : decode cX12_answer 125 = .ok (.aload_n 0, 1) := by decide +kernel
theorem dX12_answer_126 : decode cX12_answer 126 = .ok (.getfield 75, 3) := by decide +kernel
theorem dX12_answer_129 : decode cX12_answer 129 = .ok (.iconst 4, 1) := by decide +kernel
theorem dX12_answer_130 : decode cX12_answer 130 = .ok (.iload_n 1, 1) := by decide +kernel
theorem dX12_answer_131 : decode cX12_answer 131 = .ok (.imul, 1) := by decide +kernel
theorem dX12_answer_132 : decode cX12_answer 132 = .ok (.iconst 1, 1) := by decide +kernel
theorem dX12_answer_133 : decode cX12_answer 133 = .ok (.iadd, 1) := by decide +kernel
theorem dX12_answer_134 : decode cX12_answer 134 = .ok (.iaload, 1) := by decide +kernel
theorem dX12_answer_135 : decode cX12_answer 135 = .ok (.iload 5, 2) := by decide +kernel
theorem dX12_answer_137 : decode cX12_answer 137 = .ok (.iconst 1, 1) := by decide +kernel
theorem dX12_answer_138 : decode cX12_answer 138 = .ok (.isub, 1) := by decide +kernel
theorem dX12_answer_139 : decode cX12_answer 139 = .ok (.bipush 7, 2) := by decide +kernel
theorem dX12_answer_141 : decode cX12_answer 141 = .ok (.irem, 1) := by decide +kernel
theorem dX12_answer_142 : decode cX12_answer 142 = .ok (.imul, 1) := by decide +kernel
theorem dX12_answer_143 : decode cX12_answer 143 = .ok (.iadd, 1) := by decide +kernel
theorem dX12_answer_144 : decode cX12_answer 144 = .ok (.aload_n 0, 1) := by decide +kernel
theorem dX12_answer_145 : decode cX12_answer 145 = .ok (.iload_n 2, 1) := by decide +kernel
theorem dX12_answer_146 : decode cX12_answer 146 = .ok (.iload 6, 2) := by decide +kernel
theorem dX12_answer_148 : decode cX12_answer 148 = .ok (.iconst 2, 1) := by decide +kernel
theorem dX12_answer_149 : decode cX12_answer 149 = .ok (.bipush 29, 2) := by decide +kernel
theorem dX12_answer_151 : decode cX12_answer 151 = .ok (.invokevirtual 287, 3) := by decide +kernel
theorem dX12_answer_154 : decode cX12_answer 154 = .ok (.ifCond .eq 16, 3) := by decide +kernel
theorem dX12_answer_157 : decode cX12_answer 157 = .ok (.aload_n 0, 1) := by decide +kernel
theorem dX12_answer_158 : decode cX12_answer 158 = .ok (.getfield 75, 3) := by decide +kernel
theorem dX12_answer_161 : decode cX12_answer 161 = .ok (.iconst 4, 1) := by decide +kernel
theorem dX12_answer_162 : decode cX12_answer 162 = .ok (.iload_n 1, 1) := by decide +kernel
theorem dX12_answer_163 : decode cX12_answer 163 = .ok (.imul, 1) := by decide +kernel
theorem dX12_answer_164 : decode cX12_answer 164 = .ok (.iconst 3, 1) := by decide +kernel
theorem dX12_answer_165 : decode cX12_answer 165 = .ok (.iadd, 1) := by decide +kernel
theorem dX12_answer_166 : decode cX12_answer 166 = .ok (.iaload, 1) := by decide +kernel
theorem dX12_answer_167 : decode cX12_answer 167 = .ok (.goto 4, 3) := by decide +kernel
theorem dX12_answer_170 : decode cX12_answer 170 = .ok (.iconst 0, 1) := by decide +kernel
theorem dX12_answer_171 : decode cX12_answer 171 = .ok (.iadd, 1) := by decide +kernel
theorem dX12_answer_172 : decode cX12_answer 172 = .ok (.putfield 353, 3) := by decide +kernel
theorem dX12_answer_175 : decode cX12_answer 175 = .ok (.iconst 1, 1) := by decide +kernel
theorem dX12_answer_176 : decode cX12_answer 176 = .ok (.ireturn, 1) := by decide +kernel
theorem dX12_round_0 : decode cX12_round 0 = .ok (.iload_n 0, 1) := by decide +kernel
theorem dX12_round_1 : decode cX12_round 1 = .ok (.bipush 7, 2) := by decide +kernel
theorem dX12_round_3 : decode cX12_round 3 = .ok (.irem, 1) := by decide +kernel
theorem dX12_round_4 : decode cX12_round 4 = .ok (.bipush 7, 2) := by decide +kernel
theorem dX12_round_6 : decode cX12_round 6 = .ok (.iadd, 1) := by decide +kernel
theorem dX12_round_7 : decode cX12_round 7 = .ok (.bipush 7, 2) := by decide +kernel
theorem dX12_round_9 : decode cX12_round 9 = .ok (.irem, 1) := by decide +kernel
theorem dX12_round_10 : decode cX12_round 10 = .ok (.istore_n 1, 1) := by decide +kernel
theorem dX12_round_11 : decode cX12_round 11 = .ok (.iload_n 1, 1) := by decide +kernel
theorem dX12_round_12 : decode cX12_round 12 = .ok (.iconst 3, 1) := by decide +kernel
theorem dX12_round_13 : decode cX12_round 13 = .ok (.if_icmp .le 10, 3) := by decide +kernel
theorem dX12_round_16 : decode cX12_round 16 = .ok (.iload_n 1, 1) := by decide +kernel
theorem dX12_round_17 : decode cX12_round 17 = .ok (.bipush 7, 2) := by decide +kernel
theorem dX12_round_19 : decode cX12_round 19 = .ok (.isub, 1) := by decide +kernel
theorem dX12_round_20 : decode cX12_round 20 = .ok (.goto 4, 3) := by decide +kernel
theorem dX12_round_23 : decode cX12_round 23 = .ok (.iload_n 1, 1) := by decide +kernel
theorem dX12_round_24 : decode cX12_round 24 = .ok (.ireturn, 1) := by decide +kernel
theorem dX12_falseStep_0 : decode cX12_falseStep 0 = .ok (.iconst 1, 1) := by decide +kernel
theorem dX12_falseStep_1 : decode cX12_falseStep 1 = .ok (.istore_n 2, 1) := by decide +kernel
theorem dX12_falseStep_2 : decode cX12_falseStep 2 = .ok (.iload_n 2, 1) := by decide +kernel
theorem dX12_falseStep_3 : decode cX12_falseStep 3 = .ok (.aload_n 0, 1) := by decide +kernel
theorem dX12_falseStep_4 : decode cX12_falseStep 4 = .ok (.getfield 332, 3) := by decide +kernel
theorem dX12_falseStep_7 : decode cX12_falseStep 7 = .ok (.if_icmp .ge 47, 3) := by decide +kernel
theorem dX12_falseStep_10 : decode cX12_falseStep 10 = .ok (.aload_n 0, 1) := by decide +kernel
theorem dX12_falseStep_11 : decode cX12_falseStep 11 = .ok (.iload_n 1, 1) := by decide +kernel
theorem dX12_falseStep_12 : decode cX12_falseStep 12 = .ok (.aload_n 0, 1) := by decide +kernel
theorem dX12_falseStep_13 : decode cX12_falseStep 13 = .ok (.getfield 95, 3) := by decide +kernel
theorem dX12_falseStep_16 : decode cX12_falseStep 16 = .ok (.iload_n 2, 1) := by decide +kernel
theorem dX12_falseStep_17 : decode cX12_falseStep 17 = .ok (.iconst 1, 1) := by decide +kernel
theorem dX12_falseStep_18 : decode cX12_falseStep 18 = .ok (.isub, 1) := by decide +kernel
theorem dX12_falseStep_19 : decode cX12_falseStep 19 = .ok (.iaload, 1) := by decide +kernel
theorem dX12_falseStep_20 : decode cX12_falseStep 20 = .ok (.invokevirtual 303, 3) := by decide +kernel
theorem dX12_falseStep_23 : decode cX12_falseStep 23 = .ok (.istore_n 3, 1) := by decide +kernel
theorem dX12_falseStep_24 : decode cX12_falseStep 24 = .ok (.iload_n 3, 1) := by decide +kernel
theorem dX12_falseStep_25 : decode cX12_falseStep 25 = .ok (.iconst (-1), 1) := by decide +kernel
theorem dX12_falseStep_26 : decode cX12_falseStep 26 = .ok (.if_icmp .eq 18, 3) := by decide +kernel
theorem dX12_falseStep_29 : decode cX12_falseStep 29 = .ok (.iload_n 3, 1) := by decide +kernel
theorem dX12_falseStep_30 : decode cX12_falseStep 30 = .ok (.aload_n 0, 1) := by decide +kernel
theorem dX12_falseStep_31 : decode cX12_falseStep 31 = .ok (.iload_n 1, 1) := by decide +kernel
theorem dX12_falseStep_32 : decode cX12_falseStep 32 = .ok (.aload_n 0, 1) := by decide +kernel
theorem dX12_falseStep_33 : decode cX12_falseStep 33 = .ok (.getfield 95, 3) := by decide +kernel
theorem dX12_falseStep_36 : decode cX12_falseStep 36 = .ok (.iload_n 2, 1) := by decide +kernel
theorem dX12_falseStep_37 : decode cX12_falseStep 37 = .ok (.iaload, 1) := by decide +kernel
theorem dX12_falseStep_38 : decode cX12_falseStep 38 = .ok (.invokevirtual 303, 3) := by decide +kernel
theorem dX12_falseStep_41 : decode cX12_falseStep 41 = .ok (.if_icmp .eq 7, 3) := by decide +kernel
theorem dX12_falseStep_44 : decode cX12_falseStep 44 = .ok (.iload_n 2, 1) := by decide +kernel
theorem dX12_falseStep_45 : decode cX12_falseStep 45 = .ok (.iconst 1, 1) := by decide +kernel
theorem dX12_falseStep_46 : decode cX12_falseStep 46 = .ok (.isub, 1) := by decide +kernel
theorem dX12_falseStep_47 : decode cX12_falseStep 47 = .ok (.ireturn, 1) := by decide +kernel
theorem dX12_falseStep_48 : decode cX12_falseStep 48 = .ok (.iinc 2 1, 3) := by decide +kernel
theorem dX12_falseStep_51 : decode cX12_falseStep 51 = .ok (.goto (-49), 3) := by decide +kernel
theorem dX12_falseStep_54 : decode cX12_falseStep 54 = .ok (.aload_n 0, 1) := by decide +kernel
theorem dX12_falseStep_55 : decode cX12_falseStep 55 = .ok (.getfield 95, 3) := by decide +kernel
theorem dX12_falseStep_58 : decode cX12_falseStep 58 = .ok (.aload_n 0, 1) := by decide +kernel
theorem dX12_falseStep_59 : decode cX12_falseStep 59 = .ok (.getfield 332, 3) := by decide +kernel
theorem dX12_falseStep_62 : decode cX12_falseStep 62 = .ok (.iconst 1, 1) := by decide +kernel
theorem dX12_falseStep_63 : decode cX12_falseStep 63 = .ok (.isub, 1) := by decide +kernel
theorem dX12_falseStep_64 : decode cX12_falseStep 64 = .ok (.iaload, 1) := by decide +kernel
theorem dX12_falseStep_65 : decode cX12_falseStep 65 = .ok (.istore_n 2, 1) := by decide +kernel
theorem dX12_falseStep_66 : decode cX12_falseStep 66 = .ok (.iconst 1, 1) := by decide +kernel
theorem dX12_falseStep_67 : decode cX12_falseStep 67 = .ok (.istore_n 3, 1) := by decide +kernel
theorem dX12_falseStep_68 : decode cX12_falseStep 68 = .ok (.iload_n 3, 1) := by decide +kernel
theorem dX12_falseStep_69 : decode cX12_falseStep 69 = .ok (.aload_n 0, 1) := by decide +kernel
theorem dX12_falseStep_70 : decode cX12_falseStep 70 = .ok (.getfield 338, 3) := by decide +kernel
theorem dX12_falseStep_73 : decode cX12_falseStep 73 = .ok (.if_icmp .ge 101, 3) := by decide +kernel
theorem dX12_falseStep_76 : decode cX12_falseStep 76 = .ok (.aload_n 0, 1) := by decide +kernel
theorem dX12_falseStep_77 : decode cX12_falseStep 77 = .ok (.iload_n 1, 1) := by decide +kernel
theorem dX12_falseStep_78 : decode cX12_falseStep 78 = .ok (.iload_n 2, 1) := by decide +kernel
theorem dX12_falseStep_79 : decode cX12_falseStep 79 = .ok (.aload_n 0, 1) := by decide +kernel
theorem dX12_falseStep_80 : decode cX12_falseStep 80 = .ok (.getfield 98, 3) := by decide +kernel
theorem dX12_falseStep_83 : decode cX12_falseStep 83 = .ok (.iload_n 3, 1) := by decide +kernel
theorem dX12_falseStep_84 : decode cX12_falseStep 84 = .ok (.iconst 1, 1) := by decide +kernel
theorem dX12_falseStep_85 : decode cX12_falseStep 85 = .ok (.isub, 1) := by decide +kernel
theorem dX12_falseStep_86 : decode cX12_falseStep 86 = .ok (.iaload, 1) := by decide +kernel
theorem dX12_falseStep_87 : decode cX12_falseStep 87 = .ok (.iconst 1, 1) := by decide +kernel
theorem dX12_falseStep_88 : decode cX12_falseStep 88 = .ok (.invokevirtual 287, 3) := by decide +kernel
theorem dX12_falseStep_91 : decode cX12_falseStep 91 = .ok (.ifCond .eq 23, 3) := by decide +kernel
theorem dX12_falseStep_94 : decode cX12_falseStep 94 = .ok (.aload_n 0, 1) := by decide +kernel
theorem dX12_falseStep_95 : decode cX12_falseStep 95 = .ok (.iload_n 1, 1) := by decide +kernel
theorem dX12_falseStep_96 : decode cX12_falseStep 96 = .ok (.iload_n 2, 1) := by decide +kernel
theorem dX12_falseStep_97 : decode cX12_falseStep 97 = .ok (.aload_n 0, 1) := by decide +kernel
theorem dX12_falseStep_98 : decode cX12_falseStep 98 = .ok (.getfield 98, 3) := by decide +kernel
theorem dX12_falseStep_101 : decode cX12_falseStep 101 = .ok (.iload_n 3, 1) := by decide +kernel
theorem dX12_falseStep_102 : decode cX12_falseStep 102 = .ok (.iaload, 1) := by decide +kernel
theorem dX12_falseStep_103 : decode cX12_falseStep 103 = .ok (.iconst 1, 1) := by decide +kernel
theorem dX12_falseStep_104 : decode cX12_falseStep 104 = .ok (.invokevirtual 287, 3) := by decide +kernel
theorem dX12_falseStep_107 : decode cX12_falseStep 107 = .ok (.ifCond .eq 7, 3) := by decide +kernel
theorem dX12_falseStep_110 : decode cX12_falseStep 110 = .ok (.iconst 1, 1) := by decide +kernel
theorem dX12_falseStep_111 : decode cX12_falseStep 111 = .ok (.goto 4, 3) := by decide +kernel
theorem dX12_falseStep_114 : decode cX12_falseStep 114 = .ok (.iconst 0, 1) := by decide +kernel
theorem dX12_falseStep_115 : decode cX12_falseStep 115 = .ok (.istore 4, 2) := by decide +kernel
theorem dX12_falseStep_117 : decode cX12_falseStep 117 = .ok (.iload 4, 2) := by decide +kernel
theorem dX12_falseStep_119 : decode cX12_falseStep 119 = .ok (.ifCond .eq 40, 3) := by decide +kernel
theorem dX12_falseStep_122 : decode cX12_falseStep 122 = .ok (.aload_n 0, 1) := by decide +kernel
theorem dX12_falseStep_123 : decode cX12_falseStep 123 = .ok (.iload_n 1, 1) := by decide +kernel
theorem dX12_falseStep_124 : decode cX12_falseStep 124 = .ok (.iload_n 2, 1) := by decide +kernel
theorem dX12_falseStep_125 : decode cX12_falseStep 125 = .ok (.aload_n 0, 1) := by decide +kernel
theorem dX12_falseStep_126 : decode cX12_falseStep 126 = .ok (.getfield 98, 3) := by decide +kernel
theorem dX12_falseStep_129 : decode cX12_falseStep 129 = .ok (.iload_n 3, 1) := by decide +kernel
theorem dX12_falseStep_130 : decode cX12_falseStep 130 = .ok (.iconst 1, 1) := by decide +kernel
theorem dX12_falseStep_131 : decode cX12_falseStep 131 = .ok (.isub, 1) := by decide +kernel
theorem dX12_falseStep_132 : decode cX12_falseStep 132 = .ok (.iaload, 1) := by decide +kernel
theorem dX12_falseStep_133 : decode cX12_falseStep 133 = .ok (.iconst 1, 1) := by decide +kernel
theorem dX12_falseStep_134 : decode cX12_falseStep 134 = .ok (.invokevirtual 291, 3) := by decide +kernel
theorem dX12_falseStep_137 : decode cX12_falseStep 137 = .ok (.bipush 7, 2) := by decide +kernel
theorem dX12_falseStep_139 : decode cX12_falseStep 139 = .ok (.irem, 1) := by decide +kernel
theorem dX12_falseStep_140 : decode cX12_falseStep 140 = .ok (.aload_n 0, 1) := by decide +kernel
theorem dX12_falseStep_141 : decode cX12_falseStep 141 = .ok (.iload_n 1, 1) := by decide +kernel
theorem dX12_falseStep_142 : decode cX12_falseStep 142 = .ok (.iload_n 2, 1) := by decide +kernel
theorem dX12_falseStep_143 : decode cX12_falseStep 143 = .ok (.aload_n 0, 1) := by decide +kernel
theorem dX12_falseStep_144 : decode cX12_falseStep 144 = .ok (.getfield 98, 3) := by decide +kernel
theorem dX12_falseStep_147 : decode cX12_falseStep 147 = .ok (.iload_n 3, 1) := by decide +kernel
theorem dX12_falseStep_148 : decode cX12_falseStep 148 = .ok (.iaload, 1) := by decide +kernel
theorem dX12_falseStep_149 : decode cX12_falseStep 149 = .ok (.iconst 1, 1) := by decide +kernel
theorem dX12_falseStep_150 : decode cX12_falseStep 150 = .ok (.invokevirtual 291, 3) := by decide +kernel
theorem dX12_falseStep_153 : decode cX12_falseStep 153 = .ok (.bipush 7, 2) := by decide +kernel
theorem dX12_falseStep_155 : decode cX12_falseStep 155 = .ok (.irem, 1) := by decide +kernel
theorem dX12_falseStep_156 : decode cX12_falseStep 156 = .ok (.if_icmp .eq 12, 3) := by decide +kernel
theorem dX12_falseStep_159 : decode cX12_falseStep 159 = .ok (.aload_n 0, 1) := by decide +kernel
theorem dX12_falseStep_160 : decode cX12_falseStep 160 = .ok (.getfield 332, 3) := by decide +kernel
theorem dX12_falseStep_163 : decode cX12_falseStep 163 = .ok (.iload_n 3, 1) := by decide +kernel
theorem dX12_falseStep_164 : decode cX12_falseStep 164 = .ok (.iadd, 1) := by decide +kernel
theorem dX12_falseStep_165 : decode cX12_falseStep 165 = .ok (.iconst 2, 1) := by decide +kernel
theorem dX12_falseStep_166 : decode cX12_falseStep 166 = .ok (.isub, 1) := by decide +kernel
theorem dX12_falseStep_167 : decode cX12_falseStep 167 = .ok (.ireturn, 1) := by decide +kernel
theorem dX12_falseStep_168 : decode cX12_falseStep 168 = .ok (.iinc 3 1, 3) := by decide +kernel
theorem dX12_falseStep_171 : decode cX12_falseStep 171 = .ok (.goto (-103), 3) := by decide +kernel
theorem dX12_falseStep_174 : decode cX12_falseStep 174 = .ok (.iconst (-1), 1) := by decide +kernel
theorem dX12_falseStep_175 : decode cX12_falseStep 175 = .ok (.ireturn, 1) := by decide +kernel
theorem dX12_answers_0 : decode cX12_answers 0 = .ok (.aload_n 0, 1) := by decide +kernel
theorem dX12_answers_1 : decode cX12_answers 1 = .ok (.iload_n 1, 1) := by decide +kernel
theorem dX12_answers_2 : decode cX12_answers 2 = .ok (.invokevirtual 344, 3) := by decide +kernel
theorem dX12_answers_5 : decode cX12_answers 5 = .ok (.ifCond .eq 40, 3) := by decide +kernel
theorem dX12_answers_8 : decode cX12_answers 8 = .ok (.aload_n 0, 1) := by decide +kernel
theorem dX12_answers_9 : decode cX12_answers 9 = .ok (.iload_n 2, 1) := by decide +kernel
theorem dX12_answers_10 : decode cX12_answers 10 = .ok (.iload_n 3, 1) := by decide +kernel
theorem dX12_answers_11 : decode cX12_answers 11 = .ok (.iload 4, 2) := by decide +kernel
theorem dX12_answers_13 : decode cX12_answers 13 = .ok (.iload 5, 2) := by decide +kernel
theorem dX12_answers_15 : decode cX12_answers 15 = .ok (.invokevirtual 287, 3) := by decide +kernel
theorem dX12_answers_18 : decode cX12_answers 18 = .ok (.ifCond .eq 27, 3) := by decide +kernel
theorem dX12_answers_21 : decode cX12_answers 21 = .ok (.iload 6, 2) := by decide +kernel
theorem dX12_answers_23 : decode cX12_answers 23 = .ok (.iconst 0, 1) := by decide +kernel
theorem dX12_answers_24 : decode cX12_answers 24 = .ok (.iconst 3, 1) := by decide +kernel
theorem dX12_answers_25 : decode cX12_answers 25 = .ok (.invokestatic 186, 3) := by decide +kernel
theorem dX12_answers_28 : decode cX12_answers 28 = .ok (.ifCond .eq 17, 3) := by decide +kernel
theorem dX12_answers_31 : decode cX12_answers 31 = .ok (.aload_n 0, 1) := by decide +kernel
theorem dX12_answers_32 : decode cX12_answers 32 = .ok (.iload_n 1, 1) := by decide +kernel
theorem dX12_answers_33 : decode cX12_answers 33 = .ok (.iload_n 2, 1) := by decide +kernel
theorem dX12_answers_34 : decode cX12_answers 34 = .ok (.iload_n 3, 1) := by decide +kernel
theorem dX12_answers_35 : decode cX12_answers 35 = .ok (.iload 4, 2) := by decide +kernel
theorem dX12_answers_37 : decode cX12_answers 37 = .ok (.iload 5, 2) := by decide +kernel
theorem dX12_answers_39 : decode cX12_answers 39 = .ok (.invokevirtual 356, 3) := by decide +kernel
theorem dX12_answers_42 : decode cX12_answers 42 = .ok (.ifCond .ne 7, 3) := by decide +kernel
theorem dX12_answers_45 : decode cX12_answers 45 = .ok (.sipush (-1000), 3) := by decide +kernel
theorem dX12_answers_48 : decode cX12_answers 48 = .ok (.ireturn, 1) := by decide +kernel
theorem dX12_answers_49 : decode cX12_answers 49 = .ok (.iload 6, 2) := by decide +kernel
theorem dX12_answers_51 : decode cX12_answers 51 = .ok (.ifCond .ne 10, 3) := by decide +kernel
theorem dX12_answers_54 : decode cX12_answers 54 = .ok (.aload_n 0, 1) := by decide +kernel
theorem dX12_answers_55 : decode cX12_answers 55 = .ok (.getfield 350, 3) := by decide +kernel
theorem dX12_answers_58 : decode cX12_answers 58 = .ok (.goto 48, 3) := by decide +kernel
theorem dX12_answers_61 : decode cX12_answers 61 = .ok (.iload 6, 2) := by decide +kernel
theorem dX12_answers_63 : decode cX12_answers 63 = .ok (.iconst 1, 1) := by decide +kernel
theorem dX12_answers_64 : decode cX12_answers 64 = .ok (.if_icmp .ne 10, 3) := by decide +kernel
theorem dX12_answers_67 : decode cX12_answers 67 = .ok (.aload_n 0, 1) := by decide +kernel
theorem dX12_answers_68 : decode cX12_answers 68 = .ok (.getfield 353, 3) := by decide +kernel
theorem dX12_answers_71 : decode cX12_answers 71 = .ok (.goto 35, 3) := by decide +kernel
theorem dX12_answers_74 : decode cX12_answers 74 = .ok (.iload 6, 2) := by decide +kernel
theorem dX12_answers_76 : decode cX12_answers 76 = .ok (.iconst 2, 1) := by decide +kernel
theorem dX12_answers_77 : decode cX12_answers 77 = .ok (.if_icmp .ne 24, 3) := by decide +kernel
theorem dX12_answers_80 : decode cX12_answers 80 = .ok (.aload_n 0, 1) := by decide +kernel
theorem dX12_answers_81 : decode cX12_answers 81 = .ok (.getfield 350, 3) := by decide +kernel
theorem dX12_answers_84 : decode cX12_answers 84 = .ok (.aload_n 0, 1) := by decide +kernel
theorem dX12_answers_85 : decode cX12_answers 85 = .ok (.iload_n 2, 1) := by decide +kernel
theorem dX12_answers_86 : decode cX12_answers 86 = .ok (.iload_n 3, 1) := by decide +kernel
theorem dX12_answers_87 : decode cX12_answers 87 = .ok (.iload 4, 2) := by decide +kernel
theorem dX12_answers_89 : decode cX12_answers 89 = .ok (.iload 5, 2) := by decide +kernel
theorem dX12_answers_91 : decode cX12_answers 91 = .ok (.invokevirtual 291, 3) := by decide +kernel
theorem dX12_answers_94 : decode cX12_answers 94 = .ok (.isub, 1) := by decide +kernel
theorem dX12_answers_95 : decode cX12_answers 95 = .ok (.invokestatic 360, 3) := by decide +kernel
theorem dX12_answers_98 : decode cX12_answers 98 = .ok (.goto 8, 3) := by decide +kernel
theorem dX12_answers_101 : decode cX12_answers 101 = .ok (.aload_n 0, 1) := by decide +kernel
theorem dX12_answers_102 : decode cX12_answers 102 = .ok (.iload_n 2, 1) := by decide +kernel
theorem dX12_answers_103 : decode cX12_answers 103 = .ok (.invokevirtual 363, 3) := by decide +kernel
theorem dX12_answers_106 : decode cX12_answers 106 = .ok (.ireturn, 1) := by decide +kernel
theorem dX12_ask_0 : decode cX12_ask 0 = .ok (.iload_n 1, 1) := by decide +kernel
theorem dX12_ask_1 : decode cX12_ask 1 = .ok (.iconst 0, 1) := by decide +kernel
theorem dX12_ask_2 : decode cX12_ask 2 = .ok (.sipush 999, 3) := by decide +kernel
theorem dX12_ask_5 : decode cX12_ask 5 = .ok (.invokestatic 186, 3) := by decide +kernel
theorem dX12_ask_8 : decode cX12_ask 8 = .ok (.ifCond .eq 79, 3) := by decide +kernel
theorem dX12_ask_11 : decode cX12_ask 11 = .ok (.aload_n 0, 1) := by decide +kernel
theorem dX12_ask_12 : decode cX12_ask 12 = .ok (.getfield 366, 3) := by decide +kernel
theorem dX12_ask_15 : decode cX12_ask 15 = .ok (.ifCond .le 27, 3) := by decide +kernel
theorem dX12_ask_18 : decode cX12_ask 18 = .ok (.aload_n 0, 1) := by decide +kernel
theorem dX12_ask_19 : decode cX12_ask 19 = .ok (.getfield 366, 3) := by decide +kernel
theorem dX12_ask_22 : decode cX12_ask 22 = .ok (.bipush 60, 2) := by decide +kernel
theorem dX12_ask_24 : decode cX12_ask 24 = .ok (.if_icmp .gt 18, 3) := by decide +kernel
theorem dX12_ask_27 : decode cX12_ask 27 = .ok (.iload_n 1, 1) := by decide +kernel
theorem dX12_ask_28 : decode cX12_ask 28 = .ok (.aload_n 0, 1) := by decide +kernel
theorem dX12_ask_29 : decode cX12_ask 29 = .ok (.getfield 101, 3) := by decide +kernel
theorem dX12_ask_32 : decode cX12_ask 32 = .ok (.aload_n 0, 1) := by decide +kernel
theorem dX12_ask_33 : decode cX12_ask 33 = .ok (.getfield 366, 3) := by decide +kernel
theorem dX12_ask_36 : decode cX12_ask 36 = .ok (.iconst 1, 1) := by decide +kernel
theorem dX12_ask_37 : decode cX12_ask 37 = .ok (.isub, 1) := by decide +kernel
theorem dX12_ask_38 : decode cX12_ask 38 = .ok (.iaload, 1) := by decide +kernel
theorem dX12_ask_39 : decode cX12_ask 39 = .ok (.if_icmp .lt 48, 3) := by decide +kernel
theorem dX12_ask_42 : decode cX12_ask 42 = .ok (.aload_n 0, 1) := by decide +kernel
theorem dX12_ask_43 : decode cX12_ask 43 = .ok (.iload_n 2, 1) := by decide +kernel
theorem dX12_ask_44 : decode cX12_ask 44 = .ok (.iload_n 3, 1) := by decide +kernel
theorem dX12_ask_45 : decode cX12_ask 45 = .ok (.iload 4, 2) := by decide +kernel
theorem dX12_ask_47 : decode cX12_ask 47 = .ok (.iload 5, 2) := by decide +kernel
theorem dX12_ask_49 : decode cX12_ask 49 = .ok (.invokevirtual 287, 3) := by decide +kernel
theorem dX12_ask_52 : decode cX12_ask 52 = .ok (.ifCond .eq 35, 3) := by decide +kernel
theorem dX12_ask_55 : decode cX12_ask 55 = .ok (.iload 6, 2) := by decide +kernel
theorem dX12_ask_57 : decode cX12_ask 57 = .ok (.iconst 0, 1) := by decide +kernel
theorem dX12_ask_58 : decode cX12_ask 58 = .ok (.bipush 6, 2) := by decide +kernel
theorem dX12_ask_60 : decode cX12_ask 60 = .ok (.invokestatic 186, 3) := by decide +kernel
theorem dX12_ask_63 : decode cX12_ask 63 = .ok (.ifCond .eq 24, 3) := by decide +kernel
theorem dX12_ask_66 : decode cX12_ask 66 = .ok (.iload 7, 2) := by decide +kernel
theorem dX12_ask_68 : decode cX12_ask 68 = .ok (.iconst 0, 1) := by decide +kernel
theorem dX12_ask_69 : decode cX12_ask 69 = .ok (.sipush 9999, 3) := by decide +kernel
theorem dX12_ask_72 : decode cX12_ask 72 = .ok (.invokestatic 186, 3) := by decide +kernel
theorem dX12_ask_75 : decode cX12_ask 75 = .ok (.ifCond .eq 12, 3) := by decide +kernel
theorem dX12_ask_78 : decode cX12_ask 78 = .ok (.aload_n 0, 1) := by decide +kernel
theorem dX12_ask_79 : decode cX12_ask 79 = .ok (.getfield 366, 3) := by decide +kernel
theorem dX12_ask_82 : decode cX12_ask 82 = .ok (.bipush 60, 2) := by decide +kernel
theorem dX12_ask_84 : decode cX12_ask 84 = .ok (.if_icmp .ne 5, 3) := by decide +kernel
theorem dX12_ask_87 : decode cX12_ask 87 = .ok (.iconst (-1), 1) := by decide +kernel
theorem dX12_ask_88 : decode cX12_ask 88 = .ok (.ireturn, 1) := by decide +kernel
theorem dX12_ask_89 : decode cX12_ask 89 = .ok (.aload_n 0, 1) := by decide +kernel
theorem dX12_ask_90 : decode cX12_ask 90 = .ok (.getfield 101, 3) := by decide +kernel
theorem dX12_ask_93 : decode cX12_ask 93 = .ok (.aload_n 0, 1) := by decide +kernel
theorem dX12_ask_94 : decode cX12_ask 94 = .ok (.getfield 366, 3) := by decide +kernel
theorem dX12_ask_97 : decode cX12_ask 97 = .ok (.iload_n 1, 1) := by decide +kernel
theorem dX12_ask_98 : decode cX12_ask 98 = .ok (.iastore, 1) := by decide +kernel
theorem dX12_ask_99 : decode cX12_ask 99 = .ok (.aload_n 0, 1) := by decide +kernel
theorem dX12_ask_100 : decode cX12_ask 100 = .ok (.getfield 104, 3) := by decide +kernel
theorem dX12_ask_103 : decode cX12_ask 103 = .ok (.aload_n 0, 1) := by decide +kernel
theorem dX12_ask_104 : decode cX12_ask 104 = .ok (.getfield 366, 3) := by decide +kernel
theorem dX12_ask_107 : decode cX12_ask 107 = .ok (.iload_n 2, 1) := by decide +kernel
theorem dX12_ask_108 : decode cX12_ask 108 = .ok (.iastore, 1) := by decide +kernel
theorem dX12_ask_109 : decode cX12_ask 109 = .ok (.aload_n 0, 1) := by decide +kernel
theorem dX12_ask_110 : decode cX12_ask 110 = .ok (.getfield 107, 3) := by decide +kernel
theorem dX12_ask_113 : decode cX12_ask 113 = .ok (.aload_n 0, 1) := by decide +kernel
theorem dX12_ask_114 : decode cX12_ask 114 = .ok (.getfield 366, 3) := by decide +kernel
theorem dX12_ask_117 : decode cX12_ask 117 = .ok (.iload_n 3, 1) := by decide +kernel
theorem dX12_ask_118 : decode cX12_ask 118 = .ok (.iastore, 1) := by decide +kernel
theorem dX12_ask_119 : decode cX12_ask 119 = .ok (.aload_n 0, 1) := by decide +kernel
theorem dX12_ask_120 : decode cX12_ask 120 = .ok (.getfield 110, 3) := by decide +kernel
theorem dX12_ask_123 : decode cX12_ask 123 = .ok (.aload_n 0, 1) := by decide +kernel
theorem dX12_ask_124 : decode cX12_ask 124 = .ok (.getfield 366, 3) := by decide +kernel
theorem dX12_ask_127 : decode cX12_ask 127 = .ok (.iload 4, 2) := by decide +kernel
theorem dX12_ask_129 : decode cX12_ask 129 = .ok (.iastore, 1) := by decide +kernel
theorem dX12_ask_130 : decode cX12_ask 130 = .ok (.aload_n 0, 1) := by decide +kernel
theorem dX12_ask_131 : decode cX12_ask 131 = .ok (.getfield 113, 3) := by decide +kernel
theorem dX12_ask_134 : decode cX12_ask 134 = .ok (.aload_n 0, 1) := by decide +kernel
theorem dX12_ask_135 : decode cX12_ask 135 = .ok (.getfield 366, 3) := by decide +kernel
theorem dX12_ask_138 : decode cX12_ask 138 = .ok (.iload 5, 2) := by decide +kernel
theorem dX12_ask_140 : decode cX12_ask 140 = .ok (.iastore, 1) := by decide +kernel
theorem dX12_ask_141 : decode cX12_ask 141 = .ok (.aload_n 0, 1) := by decide +kernel
theorem dX12_ask_142 : decode cX12_ask 142 = .ok (.getfield 116, 3) := by decide +kernel
theorem dX12_ask_145 : decode cX12_ask 145 = .ok (.aload_n 0, 1) := by decide +kernel
theorem dX12_ask_146 : decode cX12_ask 146 = .ok (.getfield 366, 3) := by decide +kernel
theorem dX12_ask_149 : decode cX12_ask 149 = .ok (.iload 6, 2) := by decide +kernel
theorem dX12_ask_151 : decode cX12_ask 151 = .ok (.iastore, 1) := by decide +kernel
theorem dX12_ask_152 : decode cX12_ask 152 = .ok (.aload_n 0, 1) := by decide +kernel
theorem dX12_ask_153 : decode cX12_ask 153 = .ok (.getfield 119, 3) := by decide +kernel
theorem dX12_ask_156 : decode cX12_ask 156 = .ok (.aload_n 0, 1) := by decide +kernel
theorem dX12_ask_157 : decode cX12_ask 157 = .ok (.getfield 366, 3) := by decide +kernel
theorem dX12_ask_160 : decode cX12_ask 160 = .ok (.iload 7, 2) := by decide +kernel
theorem dX12_ask_162 : decode cX12_ask 162 = .ok (.iastore, 1) := by decide +kernel
theorem dX12_ask_163 : decode cX12_ask 163 = .ok (.aload_n 0, 1) := by decide +kernel
theorem dX12_ask_164 : decode cX12_ask 164 = .ok (.dup, 1) := by decide +kernel
theorem dX12_ask_165 : decode cX12_ask 165 = .ok (.getfield 366, 3) := by decide +kernel
theorem dX12_ask_168 : decode cX12_ask 168 = .ok (.iconst 1, 1) := by decide +kernel
theorem dX12_ask_169 : decode cX12_ask 169 = .ok (.iadd, 1) := by decide +kernel
theorem dX12_ask_170 : decode cX12_ask 170 = .ok (.putfield 366, 3) := by decide +kernel
theorem dX12_ask_173 : decode cX12_ask 173 = .ok (.aload_n 0, 1) := by decide +kernel
theorem dX12_ask_174 : decode cX12_ask 174 = .ok (.getfield 366, 3) := by decide +kernel
theorem dX12_ask_177 : decode cX12_ask 177 = .ok (.iconst 1, 1) := by decide +kernel
theorem dX12_ask_178 : decode cX12_ask 178 = .ok (.isub, 1) := by decide +kernel
theorem dX12_ask_179 : decode cX12_ask 179 = .ok (.ireturn, 1) := by decide +kernel
theorem dX12_askDay_0 : decode cX12_askDay 0 = .ok (.aload_n 0, 1) := by decide +kernel
theorem dX12_askDay_1 : decode cX12_askDay 1 = .ok (.aload_n 0, 1) := by decide +kernel
theorem dX12_askDay_2 : decode cX12_askDay 2 = .ok (.getfield 104, 3) := by decide +kernel
theorem dX12_askDay_5 : decode cX12_askDay 5 = .ok (.iload_n 1, 1) := by decide +kernel
theorem dX12_askDay_6 : decode cX12_askDay 6 = .ok (.iaload, 1) := by decide +kernel
theorem dX12_askDay_7 : decode cX12_askDay 7 = .ok (.aload_n 0, 1) := by decide +kernel
theorem dX12_askDay_8 : decode cX12_askDay 8 = .ok (.getfield 107, 3) := by decide +kernel
theorem dX12_askDay_11 : decode cX12_askDay 11 = .ok (.iload_n 1, 1) := by decide +kernel
theorem dX12_askDay_12 : decode cX12_askDay 12 = .ok (.iaload, 1) := by decide +kernel
theorem dX12_askDay_13 : decode cX12_askDay 13 = .ok (.aload_n 0, 1) := by decide +kernel
theorem dX12_askDay_14 : decode cX12_askDay 14 = .ok (.getfield 110, 3) := by decide +kernel
theorem dX12_askDay_17 : decode cX12_askDay 17 = .ok (.iload_n 1, 1) := by decide +kernel
theorem dX12_askDay_18 : decode cX12_askDay 18 = .ok (.iaload, 1) := by decide +kernel
theorem dX12_askDay_19 : decode cX12_askDay 19 = .ok (.aload_n 0, 1) := by decide +kernel
theorem dX12_askDay_20 : decode cX12_askDay 20 = .ok (.getfield 113, 3) := by decide +kernel
theorem dX12_askDay_23 : decode cX12_askDay 23 = .ok (.iload_n 1, 1) := by decide +kernel
theorem dX12_askDay_24 : decode cX12_askDay 24 = .ok (.iaload, 1) := by decide +kernel
theorem dX12_askDay_25 : decode cX12_askDay 25 = .ok (.invokevirtual 291, 3) := by decide +kernel
theorem dX12_askDay_28 : decode cX12_askDay 28 = .ok (.ireturn, 1) := by decide +kernel
theorem dX12_asked_0 : decode cX12_asked 0 = .ok (.iload_n 1, 1) := by decide +kernel
theorem dX12_asked_1 : decode cX12_asked 1 = .ok (.iconst 0, 1) := by decide +kernel
theorem dX12_asked_2 : decode cX12_asked 2 = .ok (.aload_n 0, 1) := by decide +kernel
theorem dX12_asked_3 : decode cX12_asked 3 = .ok (.getfield 366, 3) := by decide +kernel
theorem dX12_asked_6 : decode cX12_asked 6 = .ok (.iconst 1, 1) := by decide +kernel
theorem dX12_asked_7 : decode cX12_asked 7 = .ok (.isub, 1) := by decide +kernel
theorem dX12_asked_8 : decode cX12_asked 8 = .ok (.invokestatic 186, 3) := by decide +kernel
theorem dX12_asked_11 : decode cX12_asked 11 = .ok (.ifCond .eq 12, 3) := by decide +kernel
theorem dX12_asked_14 : decode cX12_asked 14 = .ok (.iload_n 2, 1) := by decide +kernel
theorem dX12_asked_15 : decode cX12_asked 15 = .ok (.iconst 0, 1) := by decide +kernel
theorem dX12_asked_16 : decode cX12_asked 16 = .ok (.iconst 5, 1) := by decide +kernel
theorem dX12_asked_17 : decode cX12_asked 17 = .ok (.invokestatic 186, 3) := by decide +kernel
theorem dX12_asked_20 : decode cX12_asked 20 = .ok (.ifCond .ne 7, 3) := by decide +kernel
theorem dX12_asked_23 : decode cX12_asked 23 = .ok (.sipush (-1000), 3) := by decide +kernel
theorem dX12_asked_26 : decode cX12_asked 26 = .ok (.ireturn, 1) := by decide +kernel
theorem dX12_asked_27 : decode cX12_asked 27 = .ok (.iload_n 2, 1) := by decide +kernel
theorem dX12_asked_28 : decode cX12_asked 28 = .ok (.tableswitch 70 0 4 #[36, 43, 50, 56, 63], 36) := by decide +kernel
theorem dX12_asked_64 : decode cX12_asked 64 = .ok (.aload_n 0, 1) := by decide +kernel
theorem dX12_asked_65 : decode cX12_asked 65 = .ok (.getfield 101, 3) := by decide +kernel
theorem dX12_asked_68 : decode cX12_asked 68 = .ok (.iload_n 1, 1) := by decide +kernel
theorem dX12_asked_69 : decode cX12_asked 69 = .ok (.iaload, 1) := by decide +kernel
theorem dX12_asked_70 : decode cX12_asked 70 = .ok (.ireturn, 1) := by decide +kernel
theorem dX12_asked_71 : decode cX12_asked 71 = .ok (.aload_n 0, 1) := by decide +kernel
theorem dX12_asked_72 : decode cX12_asked 72 = .ok (.getfield 104, 3) := by decide +kernel
theorem dX12_asked_75 : decode cX12_asked 75 = .ok (.iload_n 1, 1) := by decide +kernel
theorem dX12_asked_76 : decode cX12_asked 76 = .ok (.iaload, 1) := by decide +kernel
theorem dX12_asked_77 : decode cX12_asked 77 = .ok (.ireturn, 1) := by decide +kernel
theorem dX12_asked_78 : decode cX12_asked 78 = .ok (.aload_n 0, 1) := by decide +kernel
theorem dX12_asked_79 : decode cX12_asked 79 = .ok (.iload_n 1, 1) := by decide +kernel
theorem dX12_asked_80 : decode cX12_asked 80 = .ok (.invokevirtual 369, 3) := by decide +kernel
theorem dX12_asked_83 : decode cX12_asked 83 = .ok (.ireturn, 1) := by decide +kernel
theorem dX12_asked_84 : decode cX12_asked 84 = .ok (.aload_n 0, 1) := by decide +kernel
theorem dX12_asked_85 : decode cX12_asked 85 = .ok (.getfield 116, 3) := by decide +kernel
theorem dX12_asked_88 : decode cX12_asked 88 = .ok (.iload_n 1, 1) := by decide +kernel
