theorem dX12_asked_89 : decode cX12_asked 89 = .ok (.iaload, 1) := by decide +kernel
theorem dX12_asked_90 : decode cX12_asked 90 = .ok (.ireturn, 1) := by decide +kernel
theorem dX12_asked_91 : decode cX12_asked 91 = .ok (.aload_n 0, 1) := by decide +kernel
theorem dX12_asked_92 : decode cX12_asked 92 = .ok (.getfield 119, 3) := by decide +kernel
theorem dX12_asked_95 : decode cX12_asked 95 = .ok (.iload_n 1, 1) := by decide +kernel
theorem dX12_asked_96 : decode cX12_asked 96 = .ok (.iaload, 1) := by decide +kernel
theorem dX12_asked_97 : decode cX12_asked 97 = .ok (.ireturn, 1) := by decide +kernel
theorem dX12_asked_98 : decode cX12_asked 98 = .ok (.aload_n 0, 1) := by decide +kernel
theorem dX12_asked_99 : decode cX12_asked 99 = .ok (.getfield 116, 3) := by decide +kernel
theorem dX12_asked_102 : decode cX12_asked 102 = .ok (.iload_n 1, 1) := by decide +kernel
theorem dX12_asked_103 : decode cX12_asked 103 = .ok (.iaload, 1) := by decide +kernel
theorem dX12_asked_104 : decode cX12_asked 104 = .ok (.aload_n 0, 1) := by decide +kernel
theorem dX12_asked_105 : decode cX12_asked 105 = .ok (.iload_n 1, 1) := by decide +kernel
theorem dX12_asked_106 : decode cX12_asked 106 = .ok (.invokevirtual 369, 3) := by decide +kernel
theorem dX12_asked_109 : decode cX12_asked 109 = .ok (.isub, 1) := by decide +kernel
theorem dX12_asked_110 : decode cX12_asked 110 = .ok (.invokestatic 360, 3) := by decide +kernel
theorem dX12_asked_113 : decode cX12_asked 113 = .ok (.ireturn, 1) := by decide +kernel
theorem dX12_isSo_0 : decode cX12_isSo 0 = .ok (.aload_n 0, 1) := by decide +kernel
theorem dX12_isSo_1 : decode cX12_isSo 1 = .ok (.iload_n 1, 1) := by decide +kernel
theorem dX12_isSo_2 : decode cX12_isSo 2 = .ok (.aload_n 0, 1) := by decide +kernel
theorem dX12_isSo_3 : decode cX12_isSo 3 = .ok (.getfield 104, 3) := by decide +kernel
theorem dX12_isSo_6 : decode cX12_isSo 6 = .ok (.iload_n 2, 1) := by decide +kernel
theorem dX12_isSo_7 : decode cX12_isSo 7 = .ok (.iaload, 1) := by decide +kernel
theorem dX12_isSo_8 : decode cX12_isSo 8 = .ok (.aload_n 0, 1) := by decide +kernel
theorem dX12_isSo_9 : decode cX12_isSo 9 = .ok (.getfield 107, 3) := by decide +kernel
theorem dX12_isSo_12 : decode cX12_isSo 12 = .ok (.iload_n 2, 1) := by decide +kernel
theorem dX12_isSo_13 : decode cX12_isSo 13 = .ok (.iaload, 1) := by decide +kernel
theorem dX12_isSo_14 : decode cX12_isSo 14 = .ok (.aload_n 0, 1) := by decide +kernel
theorem dX12_isSo_15 : decode cX12_isSo 15 = .ok (.getfield 110, 3) := by decide +kernel
theorem dX12_isSo_18 : decode cX12_isSo 18 = .ok (.iload_n 2, 1) := by decide +kernel
theorem dX12_isSo_19 : decode cX12_isSo 19 = .ok (.iaload, 1) := by decide +kernel
theorem dX12_isSo_20 : decode cX12_isSo 20 = .ok (.aload_n 0, 1) := by decide +kernel
theorem dX12_isSo_21 : decode cX12_isSo 21 = .ok (.getfield 113, 3) := by decide +kernel
theorem dX12_isSo_24 : decode cX12_isSo 24 = .ok (.iload_n 2, 1) := by decide +kernel
theorem dX12_isSo_25 : decode cX12_isSo 25 = .ok (.iaload, 1) := by decide +kernel
theorem dX12_isSo_26 : decode cX12_isSo 26 = .ok (.invokevirtual 356, 3) := by decide +kernel
theorem dX12_isSo_29 : decode cX12_isSo 29 = .ok (.ifCond .eq 38, 3) := by decide +kernel
theorem dX12_isSo_32 : decode cX12_isSo 32 = .ok (.aload_n 0, 1) := by decide +kernel
theorem dX12_isSo_33 : decode cX12_isSo 33 = .ok (.getfield 350, 3) := by decide +kernel
theorem dX12_isSo_36 : decode cX12_isSo 36 = .ok (.aload_n 0, 1) := by decide +kernel
theorem dX12_isSo_37 : decode cX12_isSo 37 = .ok (.getfield 116, 3) := by decide +kernel
theorem dX12_isSo_40 : decode cX12_isSo 40 = .ok (.iload_n 2, 1) := by decide +kernel
theorem dX12_isSo_41 : decode cX12_isSo 41 = .ok (.iaload, 1) := by decide +kernel
theorem dX12_isSo_42 : decode cX12_isSo 42 = .ok (.if_icmp .ne 25, 3) := by decide +kernel
theorem dX12_isSo_45 : decode cX12_isSo 45 = .ok (.aload_n 0, 1) := by decide +kernel
theorem dX12_isSo_46 : decode cX12_isSo 46 = .ok (.getfield 353, 3) := by decide +kernel
theorem dX12_isSo_49 : decode cX12_isSo 49 = .ok (.aload_n 0, 1) := by decide +kernel
theorem dX12_isSo_50 : decode cX12_isSo 50 = .ok (.getfield 119, 3) := by decide +kernel
theorem dX12_isSo_53 : decode cX12_isSo 53 = .ok (.iload_n 2, 1) := by decide +kernel
theorem dX12_isSo_54 : decode cX12_isSo 54 = .ok (.iaload, 1) := by decide +kernel
theorem dX12_isSo_55 : decode cX12_isSo 55 = .ok (.isub, 1) := by decide +kernel
theorem dX12_isSo_56 : decode cX12_isSo 56 = .ok (.invokestatic 372, 3) := by decide +kernel
theorem dX12_isSo_59 : decode cX12_isSo 59 = .ok (.iload_n 3, 1) := by decide +kernel
theorem dX12_isSo_60 : decode cX12_isSo 60 = .ok (.if_icmp .gt 7, 3) := by decide +kernel
theorem dX12_isSo_63 : decode cX12_isSo 63 = .ok (.iconst 1, 1) := by decide +kernel
theorem dX12_isSo_64 : decode cX12_isSo 64 = .ok (.goto 4, 3) := by decide +kernel
theorem dX12_isSo_67 : decode cX12_isSo 67 = .ok (.iconst 0, 1) := by decide +kernel
theorem dX12_isSo_68 : decode cX12_isSo 68 = .ok (.ireturn, 1) := by decide +kernel
theorem dX12_soMany_0 : decode cX12_soMany 0 = .ok (.iconst 0, 1) := by decide +kernel
theorem dX12_soMany_1 : decode cX12_soMany 1 = .ok (.istore_n 3, 1) := by decide +kernel
theorem dX12_soMany_2 : decode cX12_soMany 2 = .ok (.iconst 0, 1) := by decide +kernel
theorem dX12_soMany_3 : decode cX12_soMany 3 = .ok (.istore 4, 2) := by decide +kernel
theorem dX12_soMany_5 : decode cX12_soMany 5 = .ok (.iload 4, 2) := by decide +kernel
theorem dX12_soMany_7 : decode cX12_soMany 7 = .ok (.aload_n 0, 1) := by decide +kernel
theorem dX12_soMany_8 : decode cX12_soMany 8 = .ok (.getfield 366, 3) := by decide +kernel
theorem dX12_soMany_11 : decode cX12_soMany 11 = .ok (.if_icmp .ge 28, 3) := by decide +kernel
theorem dX12_soMany_14 : decode cX12_soMany 14 = .ok (.iload_n 3, 1) := by decide +kernel
theorem dX12_soMany_15 : decode cX12_soMany 15 = .ok (.aload_n 0, 1) := by decide +kernel
theorem dX12_soMany_16 : decode cX12_soMany 16 = .ok (.iload_n 1, 1) := by decide +kernel
theorem dX12_soMany_17 : decode cX12_soMany 17 = .ok (.iload 4, 2) := by decide +kernel
theorem dX12_soMany_19 : decode cX12_soMany 19 = .ok (.iload_n 2, 1) := by decide +kernel
theorem dX12_soMany_20 : decode cX12_soMany 20 = .ok (.invokevirtual 375, 3) := by decide +kernel
theorem dX12_soMany_23 : decode cX12_soMany 23 = .ok (.ifCond .eq 7, 3) := by decide +kernel
theorem dX12_soMany_26 : decode cX12_soMany 26 = .ok (.iconst 1, 1) := by decide +kernel
theorem dX12_soMany_27 : decode cX12_soMany 27 = .ok (.goto 4, 3) := by decide +kernel
theorem dX12_soMany_30 : decode cX12_soMany 30 = .ok (.iconst 0, 1) := by decide +kernel
theorem dX12_soMany_31 : decode cX12_soMany 31 = .ok (.iadd, 1) := by decide +kernel
theorem dX12_soMany_32 : decode cX12_soMany 32 = .ok (.istore_n 3, 1) := by decide +kernel
theorem dX12_soMany_33 : decode cX12_soMany 33 = .ok (.iinc 4 1, 3) := by decide +kernel
theorem dX12_soMany_36 : decode cX12_soMany 36 = .ok (.goto (-31), 3) := by decide +kernel
theorem dX12_soMany_39 : decode cX12_soMany 39 = .ok (.iload_n 3, 1) := by decide +kernel
theorem dX12_soMany_40 : decode cX12_soMany 40 = .ok (.ireturn, 1) := by decide +kernel
theorem dX12_isSlack_0 : decode cX12_isSlack 0 = .ok (.iload_n 1, 1) := by decide +kernel
theorem dX12_isSlack_1 : decode cX12_isSlack 1 = .ok (.iconst 0, 1) := by decide +kernel
theorem dX12_isSlack_2 : decode cX12_isSlack 2 = .ok (.sipush 999, 3) := by decide +kernel
theorem dX12_isSlack_5 : decode cX12_isSlack 5 = .ok (.invokestatic 186, 3) := by decide +kernel
theorem dX12_isSlack_8 : decode cX12_isSlack 8 = .ok (.ireturn, 1) := by decide +kernel
theorem dX12_fits_0 : decode cX12_fits 0 = .ok (.aload_n 0, 1) := by decide +kernel
theorem dX12_fits_1 : decode cX12_fits 1 = .ok (.iload_n 1, 1) := by decide +kernel
theorem dX12_fits_2 : decode cX12_fits 2 = .ok (.invokevirtual 378, 3) := by decide +kernel
theorem dX12_fits_5 : decode cX12_fits 5 = .ok (.ifCond .ne 5, 3) := by decide +kernel
theorem dX12_fits_8 : decode cX12_fits 8 = .ok (.iconst (-1), 1) := by decide +kernel
theorem dX12_fits_9 : decode cX12_fits 9 = .ok (.ireturn, 1) := by decide +kernel
theorem dX12_fits_10 : decode cX12_fits 10 = .ok (.iconst 0, 1) := by decide +kernel
theorem dX12_fits_11 : decode cX12_fits 11 = .ok (.istore_n 2, 1) := by decide +kernel
theorem dX12_fits_12 : decode cX12_fits 12 = .ok (.iconst 0, 1) := by decide +kernel
theorem dX12_fits_13 : decode cX12_fits 13 = .ok (.istore_n 3, 1) := by decide +kernel
theorem dX12_fits_14 : decode cX12_fits 14 = .ok (.iload_n 3, 1) := by decide +kernel
theorem dX12_fits_15 : decode cX12_fits 15 = .ok (.aload_n 0, 1) := by decide +kernel
theorem dX12_fits_16 : decode cX12_fits 16 = .ok (.getfield 274, 3) := by decide +kernel
theorem dX12_fits_19 : decode cX12_fits 19 = .ok (.if_icmp .ge 32, 3) := by decide +kernel
theorem dX12_fits_22 : decode cX12_fits 22 = .ok (.iload_n 2, 1) := by decide +kernel
theorem dX12_fits_23 : decode cX12_fits 23 = .ok (.aload_n 0, 1) := by decide +kernel
theorem dX12_fits_24 : decode cX12_fits 24 = .ok (.iload_n 3, 1) := by decide +kernel
theorem dX12_fits_25 : decode cX12_fits 25 = .ok (.iload_n 1, 1) := by decide +kernel
theorem dX12_fits_26 : decode cX12_fits 26 = .ok (.invokevirtual 381, 3) := by decide +kernel
theorem dX12_fits_29 : decode cX12_fits 29 = .ok (.aload_n 0, 1) := by decide +kernel
theorem dX12_fits_30 : decode cX12_fits 30 = .ok (.getfield 366, 3) := by decide +kernel
theorem dX12_fits_33 : decode cX12_fits 33 = .ok (.if_icmp .ne 9, 3) := by decide +kernel
theorem dX12_fits_36 : decode cX12_fits 36 = .ok (.iconst 1, 1) := by decide +kernel
theorem dX12_fits_37 : decode cX12_fits 37 = .ok (.iload_n 3, 1) := by decide +kernel
theorem dX12_fits_38 : decode cX12_fits 38 = .ok (.ishl, 1) := by decide +kernel
theorem dX12_fits_39 : decode cX12_fits 39 = .ok (.goto 4, 3) := by decide +kernel
theorem dX12_fits_42 : decode cX12_fits 42 = .ok (.iconst 0, 1) := by decide +kernel
theorem dX12_fits_43 : decode cX12_fits 43 = .ok (.ior, 1) := by decide +kernel
theorem dX12_fits_44 : decode cX12_fits 44 = .ok (.istore_n 2, 1) := by decide +kernel
theorem dX12_fits_45 : decode cX12_fits 45 = .ok (.iinc 3 1, 3) := by decide +kernel
theorem dX12_fits_48 : decode cX12_fits 48 = .ok (.goto (-34), 3) := by decide +kernel
theorem dX12_fits_51 : decode cX12_fits 51 = .ok (.iload_n 2, 1) := by decide +kernel
theorem dX12_fits_52 : decode cX12_fits 52 = .ok (.ireturn, 1) := by decide +kernel
theorem dX12_so_0 : decode cX12_so 0 = .ok (.aload_n 0, 1) := by decide +kernel
theorem dX12_so_1 : decode cX12_so 1 = .ok (.iload_n 1, 1) := by decide +kernel
theorem dX12_so_2 : decode cX12_so 2 = .ok (.invokevirtual 344, 3) := by decide +kernel
theorem dX12_so_5 : decode cX12_so 5 = .ok (.ifCond .eq 20, 3) := by decide +kernel
theorem dX12_so_8 : decode cX12_so 8 = .ok (.aload_n 0, 1) := by decide +kernel
theorem dX12_so_9 : decode cX12_so 9 = .ok (.iload_n 2, 1) := by decide +kernel
theorem dX12_so_10 : decode cX12_so 10 = .ok (.invokevirtual 378, 3) := by decide +kernel
theorem dX12_so_13 : decode cX12_so 13 = .ok (.ifCond .eq 12, 3) := by decide +kernel
theorem dX12_so_16 : decode cX12_so 16 = .ok (.aload_n 0, 1) := by decide +kernel
theorem dX12_so_17 : decode cX12_so 17 = .ok (.iload_n 1, 1) := by decide +kernel
theorem dX12_so_18 : decode cX12_so 18 = .ok (.iload_n 2, 1) := by decide +kernel
theorem dX12_so_19 : decode cX12_so 19 = .ok (.invokevirtual 381, 3) := by decide +kernel
theorem dX12_so_22 : decode cX12_so 22 = .ok (.goto 4, 3) := by decide +kernel
theorem dX12_so_25 : decode cX12_so 25 = .ok (.iconst (-1), 1) := by decide +kernel
theorem dX12_so_26 : decode cX12_so 26 = .ok (.ireturn, 1) := by decide +kernel
theorem dX12_further_0 : decode cX12_further 0 = .ok (.iload_n 1, 1) := by decide +kernel
theorem dX12_further_1 : decode cX12_further 1 = .ok (.iconst 1, 1) := by decide +kernel
theorem dX12_further_2 : decode cX12_further 2 = .ok (.sipush 9999, 3) := by decide +kernel
theorem dX12_further_5 : decode cX12_further 5 = .ok (.invokestatic 186, 3) := by decide +kernel
theorem dX12_further_8 : decode cX12_further 8 = .ok (.ifCond .ne 7, 3) := by decide +kernel
theorem dX12_further_11 : decode cX12_further 11 = .ok (.sipush (-1000), 3) := by decide +kernel
theorem dX12_further_14 : decode cX12_further 14 = .ok (.ireturn, 1) := by decide +kernel
theorem dX12_further_15 : decode cX12_further 15 = .ok (.iconst 0, 1) := by decide +kernel
theorem dX12_further_16 : decode cX12_further 16 = .ok (.istore_n 2, 1) := by decide +kernel
theorem dX12_further_17 : decode cX12_further 17 = .ok (.iconst 0, 1) := by decide +kernel
theorem dX12_further_18 : decode cX12_further 18 = .ok (.istore_n 3, 1) := by decide +kernel
theorem dX12_further_19 : decode cX12_further 19 = .ok (.iload_n 3, 1) := by decide +kernel
theorem dX12_further_20 : decode cX12_further 20 = .ok (.aload_n 0, 1) := by decide +kernel
theorem dX12_further_21 : decode cX12_further 21 = .ok (.getfield 366, 3) := by decide +kernel
theorem dX12_further_24 : decode cX12_further 24 = .ok (.if_icmp .ge 74, 3) := by decide +kernel
theorem dX12_further_27 : decode cX12_further 27 = .ok (.iconst 0, 1) := by decide +kernel
theorem dX12_further_28 : decode cX12_further 28 = .ok (.istore 4, 2) := by decide +kernel
theorem dX12_further_30 : decode cX12_further 30 = .ok (.iload 4, 2) := by decide +kernel
theorem dX12_further_32 : decode cX12_further 32 = .ok (.iload_n 3, 1) := by decide +kernel
theorem dX12_further_33 : decode cX12_further 33 = .ok (.if_icmp .ge 59, 3) := by decide +kernel
theorem dX12_further_36 : decode cX12_further 36 = .ok (.aload_n 0, 1) := by decide +kernel
theorem dX12_further_37 : decode cX12_further 37 = .ok (.getfield 107, 3) := by decide +kernel
theorem dX12_further_40 : decode cX12_further 40 = .ok (.iload_n 3, 1) := by decide +kernel
theorem dX12_further_41 : decode cX12_further 41 = .ok (.iaload, 1) := by decide +kernel
theorem dX12_further_42 : decode cX12_further 42 = .ok (.iload_n 1, 1) := by decide +kernel
theorem dX12_further_43 : decode cX12_further 43 = .ok (.isub, 1) := by decide +kernel
theorem dX12_further_44 : decode cX12_further 44 = .ok (.invokestatic 372, 3) := by decide +kernel
theorem dX12_further_47 : decode cX12_further 47 = .ok (.aload_n 0, 1) := by decide +kernel
theorem dX12_further_48 : decode cX12_further 48 = .ok (.getfield 107, 3) := by decide +kernel
theorem dX12_further_51 : decode cX12_further 51 = .ok (.iload 4, 2) := by decide +kernel
theorem dX12_further_53 : decode cX12_further 53 = .ok (.iaload, 1) := by decide +kernel
theorem dX12_further_54 : decode cX12_further 54 = .ok (.iload_n 1, 1) := by decide +kernel
theorem dX12_further_55 : decode cX12_further 55 = .ok (.isub, 1) := by decide +kernel
theorem dX12_further_56 : decode cX12_further 56 = .ok (.invokestatic 372, 3) := by decide +kernel
theorem dX12_further_59 : decode cX12_further 59 = .ok (.invokestatic 384, 3) := by decide +kernel
theorem dX12_further_62 : decode cX12_further 62 = .ok (.istore 5, 2) := by decide +kernel
theorem dX12_further_64 : decode cX12_further 64 = .ok (.iload_n 2, 1) := by decide +kernel
theorem dX12_further_65 : decode cX12_further 65 = .ok (.iload 5, 2) := by decide +kernel
theorem dX12_further_67 : decode cX12_further 67 = .ok (.aload_n 0, 1) := by decide +kernel
theorem dX12_further_68 : decode cX12_further 68 = .ok (.getfield 119, 3) := by decide +kernel
theorem dX12_further_71 : decode cX12_further 71 = .ok (.iload_n 3, 1) := by decide +kernel
theorem dX12_further_72 : decode cX12_further 72 = .ok (.iaload, 1) := by decide +kernel
theorem dX12_further_73 : decode cX12_further 73 = .ok (.aload_n 0, 1) := by decide +kernel
theorem dX12_further_74 : decode cX12_further 74 = .ok (.getfield 119, 3) := by decide +kernel
theorem dX12_further_77 : decode cX12_further 77 = .ok (.iload 4, 2) := by decide +kernel
theorem dX12_further_79 : decode cX12_further 79 = .ok (.iaload, 1) := by decide +kernel
theorem dX12_further_80 : decode cX12_further 80 = .ok (.invokestatic 384, 3) := by decide +kernel
theorem dX12_further_83 : decode cX12_further 83 = .ok (.imul, 1) := by decide +kernel
theorem dX12_further_84 : decode cX12_further 84 = .ok (.iadd, 1) := by decide +kernel
theorem dX12_further_85 : decode cX12_further 85 = .ok (.istore_n 2, 1) := by decide +kernel
theorem dX12_further_86 : decode cX12_further 86 = .ok (.iinc 4 1, 3) := by decide +kernel
theorem dX12_further_89 : decode cX12_further 89 = .ok (.goto (-59), 3) := by decide +kernel
theorem dX12_further_92 : decode cX12_further 92 = .ok (.iinc 3 1, 3) := by decide +kernel
theorem dX12_further_95 : decode cX12_further 95 = .ok (.goto (-76), 3) := by decide +kernel
theorem dX12_further_98 : decode cX12_further 98 = .ok (.iload_n 2, 1) := by decide +kernel
theorem dX12_further_99 : decode cX12_further 99 = .ok (.ireturn, 1) := by decide +kernel
theorem dX12_mean_0 : decode cX12_mean 0 = .ok (.iload_n 1, 1) := by decide +kernel
theorem dX12_mean_1 : decode cX12_mean 1 = .ok (.ifCond .ne 7, 3) := by decide +kernel
theorem dX12_mean_4 : decode cX12_mean 4 = .ok (.iconst (-1), 1) := by decide +kernel
theorem dX12_mean_5 : decode cX12_mean 5 = .ok (.goto 6, 3) := by decide +kernel
theorem dX12_mean_8 : decode cX12_mean 8 = .ok (.iload_n 0, 1) := by decide +kernel
theorem dX12_mean_9 : decode cX12_mean 9 = .ok (.iload_n 1, 1) := by decide +kernel
theorem dX12_mean_10 : decode cX12_mean 10 = .ok (.idiv, 1) := by decide +kernel
theorem dX12_mean_11 : decode cX12_mean 11 = .ok (.ireturn, 1) := by decide +kernel
theorem dX12_lived_0 : decode cX12_lived 0 = .ok (.aload_n 0, 1) := by decide +kernel
theorem dX12_lived_1 : decode cX12_lived 1 = .ok (.getfield 137, 3) := by decide +kernel
theorem dX12_lived_4 : decode cX12_lived 4 = .ok (.iconst (-1), 1) := by decide +kernel
theorem dX12_lived_5 : decode cX12_lived 5 = .ok (.if_icmp .eq 12, 3) := by decide +kernel
theorem dX12_lived_8 : decode cX12_lived 8 = .ok (.iload_n 1, 1) := by decide +kernel
theorem dX12_lived_9 : decode cX12_lived 9 = .ok (.iconst 0, 1) := by decide +kernel
theorem dX12_lived_10 : decode cX12_lived 10 = .ok (.iconst 1, 1) := by decide +kernel
theorem dX12_lived_11 : decode cX12_lived 11 = .ok (.invokestatic 186, 3) := by decide +kernel
theorem dX12_lived_14 : decode cX12_lived 14 = .ok (.ifCond .ne 5, 3) := by decide +kernel
theorem dX12_lived_17 : decode cX12_lived 17 = .ok (.iconst (-1), 1) := by decide +kernel
theorem dX12_lived_18 : decode cX12_lived 18 = .ok (.ireturn, 1) := by decide +kernel
theorem dX12_lived_19 : decode cX12_lived 19 = .ok (.iconst 0, 1) := by decide +kernel
theorem dX12_lived_20 : decode cX12_lived 20 = .ok (.istore_n 2, 1) := by decide +kernel
theorem dX12_lived_21 : decode cX12_lived 21 = .ok (.iconst 0, 1) := by decide +kernel
theorem dX12_lived_22 : decode cX12_lived 22 = .ok (.istore_n 3, 1) := by decide +kernel
theorem dX12_lived_23 : decode cX12_lived 23 = .ok (.iconst 0, 1) := by decide +kernel
theorem dX12_lived_24 : decode cX12_lived 24 = .ok (.istore 4, 2) := by decide +kernel
theorem dX12_lived_26 : decode cX12_lived 26 = .ok (.iload 4, 2) := by decide +kernel
theorem dX12_lived_28 : decode cX12_lived 28 = .ok (.aload_n 0, 1) := by decide +kernel
theorem dX12_lived_29 : decode cX12_lived 29 = .ok (.getfield 366, 3) := by decide +kernel
theorem dX12_lived_32 : decode cX12_lived 32 = .ok (.if_icmp .ge 52, 3) := by decide +kernel
theorem dX12_lived_35 : decode cX12_lived 35 = .ok (.aload_n 0, 1) := by decide +kernel
theorem dX12_lived_36 : decode cX12_lived 36 = .ok (.iload 4, 2) := by decide +kernel
theorem dX12_lived_38 : decode cX12_lived 38 = .ok (.invokevirtual 369, 3) := by decide +kernel
theorem dX12_lived_41 : decode cX12_lived 41 = .ok (.aload_n 0, 1) := by decide +kernel
theorem dX12_lived_42 : decode cX12_lived 42 = .ok (.getfield 137, 3) := by decide +kernel
theorem dX12_lived_45 : decode cX12_lived 45 = .ok (.if_icmp .lt 7, 3) := by decide +kernel
theorem dX12_lived_48 : decode cX12_lived 48 = .ok (.iconst 1, 1) := by decide +kernel
theorem dX12_lived_49 : decode cX12_lived 49 = .ok (.goto 4, 3) := by decide +kernel
theorem dX12_lived_52 : decode cX12_lived 52 = .ok (.iconst 0, 1) := by decide +kernel
theorem dX12_lived_53 : decode cX12_lived 53 = .ok (.iload_n 1, 1) := by decide +kernel
theorem dX12_lived_54 : decode cX12_lived 54 = .ok (.ifCond .ne 7, 3) := by decide +kernel
theorem dX12_lived_57 : decode cX12_lived 57 = .ok (.iconst 1, 1) := by decide +kernel
theorem dX12_lived_58 : decode cX12_lived 58 = .ok (.goto 4, 3) := by decide +kernel
theorem dX12_lived_61 : decode cX12_lived 61 = .ok (.iconst 0, 1) := by decide +kernel
theorem dX12_lived_62 : decode cX12_lived 62 = .ok (.if_icmp .ne 16, 3) := by decide +kernel
theorem dX12_lived_65 : decode cX12_lived 65 = .ok (.iload_n 2, 1) := by decide +kernel
theorem dX12_lived_66 : decode cX12_lived 66 = .ok (.aload_n 0, 1) := by decide +kernel
theorem dX12_lived_67 : decode cX12_lived 67 = .ok (.getfield 119, 3) := by decide +kernel
theorem dX12_lived_70 : decode cX12_lived 70 = .ok (.iload 4, 2) := by decide +kernel
theorem dX12_lived_72 : decode cX12_lived 72 = .ok (.iaload, 1) := by decide +kernel
theorem dX12_lived_73 : decode cX12_lived 73 = .ok (.iadd, 1) := by decide +kernel
theorem dX12_lived_74 : decode cX12_lived 74 = .ok (.istore_n 2, 1) := by decide +kernel
theorem dX12_lived_75 : decode cX12_lived 75 = .ok (.iinc 3 1, 3) := by decide +kernel
theorem dX12_lived_78 : decode cX12_lived 78 = .ok (.iinc 4 1, 3) := by decide +kernel
theorem dX12_lived_81 : decode cX12_lived 81 = .ok (.goto (-55), 3) := by decide +kernel
theorem dX12_lived_84 : decode cX12_lived 84 = .ok (.iload_n 2, 1) := by decide +kernel
theorem dX12_lived_85 : decode cX12_lived 85 = .ok (.iload_n 3, 1) := by decide +kernel
theorem dX12_lived_86 : decode cX12_lived 86 = .ok (.invokestatic 389, 3) := by decide +kernel
theorem dX12_lived_89 : decode cX12_lived 89 = .ok (.ireturn, 1) := by decide +kernel
theorem dX12_after_0 : decode cX12_after 0 = .ok (.iload_n 1, 1) := by decide +kernel
theorem dX12_after_1 : decode cX12_after 1 = .ok (.iconst 0, 1) := by decide +kernel
theorem dX12_after_2 : decode cX12_after 2 = .ok (.iconst 1, 1) := by decide +kernel
theorem dX12_after_3 : decode cX12_after 3 = .ok (.invokestatic 186, 3) := by decide +kernel
theorem dX12_after_6 : decode cX12_after 6 = .ok (.ifCond .ne 5, 3) := by decide +kernel
theorem dX12_after_9 : decode cX12_after 9 = .ok (.iconst (-1), 1) := by decide +kernel
theorem dX12_after_10 : decode cX12_after 10 = .ok (.ireturn, 1) := by decide +kernel
theorem dX12_after_11 : decode cX12_after 11 = .ok (.iconst 0, 1) := by decide +kernel
theorem dX12_after_12 : decode cX12_after 12 = .ok (.istore_n 2, 1) := by decide +kernel
theorem dX12_after_13 : decode cX12_after 13 = .ok (.iconst 0, 1) := by decide +kernel
theorem dX12_after_14 : decode cX12_after 14 = .ok (.istore_n 3, 1) := by decide +kernel
theorem dX12_after_15 : decode cX12_after 15 = .ok (.iconst 1, 1) := by decide +kernel
theorem dX12_after_16 : decode cX12_after 16 = .ok (.istore 4, 2) := by decide +kernel
theorem dX12_after_18 : decode cX12_after 18 = .ok (.iload 4, 2) := by decide +kernel
theorem dX12_after_20 : decode cX12_after 20 = .ok (.aload_n 0, 1) := by decide +kernel
theorem dX12_after_21 : decode cX12_after 21 = .ok (.getfield 366, 3) := by decide +kernel
theorem dX12_after_24 : decode cX12_after 24 = .ok (.if_icmp .ge 96, 3) := by decide +kernel
theorem dX12_after_27 : decode cX12_after 27 = .ok (.aload_n 0, 1) := by decide +kernel
theorem dX12_after_28 : decode cX12_after 28 = .ok (.aload_n 0, 1) := by decide +kernel
theorem dX12_after_29 : decode cX12_after 29 = .ok (.getfield 104, 3) := by decide +kernel
theorem dX12_after_32 : decode cX12_after 32 = .ok (.iload 4, 2) := by decide +kernel
theorem dX12_after_34 : decode cX12_after 34 = .ok (.iaload, 1) := by decide +kernel
theorem dX12_after_35 : decode cX12_after 35 = .ok (.aload_n 0, 1) := by decide +kernel
theorem dX12_after_36 : decode cX12_after 36 = .ok (.getfield 107, 3) := by decide +kernel
theorem dX12_after_39 : decode cX12_after 39 = .ok (.iload 4, 2) := by decide +kernel
theorem dX12_after_41 : decode cX12_after 41 = .ok (.iaload, 1) := by decide +kernel
theorem dX12_after_42 : decode cX12_after 42 = .ok (.invokevirtual 303, 3) := by decide +kernel
theorem dX12_after_45 : decode cX12_after 45 = .ok (.istore 5, 2) := by decide +kernel
theorem dX12_after_47 : decode cX12_after 47 = .ok (.iload 5, 2) := by decide +kernel
theorem dX12_after_49 : decode cX12_after 49 = .ok (.iconst (-1), 1) := by decide +kernel
theorem dX12_after_50 : decode cX12_after 50 = .ok (.if_icmp .eq 34, 3) := by decide +kernel
theorem dX12_after_53 : decode cX12_after 53 = .ok (.iload 5, 2) := by decide +kernel
theorem dX12_after_55 : decode cX12_after 55 = .ok (.aload_n 0, 1) := by decide +kernel
theorem dX12_after_56 : decode cX12_after 56 = .ok (.aload_n 0, 1) := by decide +kernel
theorem dX12_after_57 : decode cX12_after 57 = .ok (.getfield 104, 3) := by decide +kernel
theorem dX12_after_60 : decode cX12_after 60 = .ok (.iload 4, 2) := by decide +kernel
theorem dX12_after_62 : decode cX12_after 62 = .ok (.iconst 1, 1) := by decide +kernel
theorem dX12_after_63 : decode cX12_after 63 = .ok (.isub, 1) := by decide +kernel
theorem dX12_after_64 : decode cX12_after 64 = .ok (.iaload, 1) := by decide +kernel
theorem dX12_after_65 : decode cX12_after 65 = .ok (.aload_n 0, 1) := by decide +kernel
theorem dX12_after_66 : decode cX12_after 66 = .ok (.getfield 107, 3) := by decide +kernel
theorem dX12_after_69 : decode cX12_after 69 = .ok (.iload 4, 2) := by decide +kernel
theorem dX12_after_71 : decode cX12_after 71 = .ok (.iconst 1, 1) := by decide +kernel
theorem dX12_after_72 : decode cX12_after 72 = .ok (.isub, 1) := by decide +kernel
theorem dX12_after_73 : decode cX12_after 73 = .ok (.iaload, 1) := by decide +kernel
theorem dX12_after_74 : decode cX12_after 74 = .ok (.invokevirtual 303, 3) := by decide +kernel
theorem dX12_after_77 : decode cX12_after 77 = .ok (.if_icmp .ne 7, 3) := by decide +kernel
theorem dX12_after_80 : decode cX12_after 80 = .ok (.iconst 1, 1) := by decide +kernel
theorem dX12_after_81 : decode cX12_after 81 = .ok (.goto 4, 3) := by decide +kernel
theorem dX12_after_84 : decode cX12_after 84 = .ok (.iconst 0, 1) := by decide +kernel
theorem dX12_after_85 : decode cX12_after 85 = .ok (.istore 6, 2) := by decide +kernel
theorem dX12_after_87 : decode cX12_after 87 = .ok (.iload 6, 2) := by decide +kernel
theorem dX12_after_89 : decode cX12_after 89 = .ok (.iload_n 1, 1) := by decide +kernel
theorem dX12_after_90 : decode cX12_after 90 = .ok (.ifCond .ne 7, 3) := by decide +kernel
theorem dX12_after_93 : decode cX12_after 93 = .ok (.iconst 1, 1) := by decide +kernel
theorem dX12_after_94 : decode cX12_after 94 = .ok (.goto 4, 3) := by decide +kernel
theorem dX12_after_97 : decode cX12_after 97 = .ok (.iconst 0, 1) := by decide +kernel
theorem dX12_after_98 : decode cX12_after 98 = .ok (.if_icmp .ne 16, 3) := by decide +kernel
theorem dX12_after_101 : decode cX12_after 101 = .ok (.iload_n 2, 1) := by decide +kernel
theorem dX12_after_102 : decode cX12_after 102 = .ok (.aload_n 0, 1) := by decide +kernel
theorem dX12_after_103 : decode cX12_after 103 = .ok (.getfield 119, 3) := by decide +kernel
theorem dX12_after_106 : decode cX12_after 106 = .ok (.iload 4, 2) := by decide +kernel
theorem dX12_after_108 : decode cX12_after 108 = .ok (.iaload, 1) := by decide +kernel
theorem dX12_after_109 : decode cX12_after 109 = .ok (.iadd, 1) := by decide +kernel
theorem dX12_after_110 : decode cX12_after 110 = .ok (.istore_n 2, 1) := by decide +kernel
theorem dX12_after_111 : decode cX12_after 111 = .ok (.iinc 3 1, 3) := by decide +kernel
theorem dX12_after_114 : decode cX12_after 114 = .ok (.iinc 4 1, 3) := by decide +kernel
theorem dX12_after_117 : decode cX12_after 117 = .ok (.goto (-99), 3) := by decide +kernel
theorem dX12_after_120 : decode cX12_after 120 = .ok (.iload_n 2, 1) := by decide +kernel
theorem dX12_after_121 : decode cX12_after 121 = .ok (.iload_n 3, 1) := by decide +kernel
theorem dX12_after_122 : decode cX12_after 122 = .ok (.invokestatic 389, 3) := by decide +kernel
theorem dX12_after_125 : decode cX12_after 125 = .ok (.ireturn, 1) := by decide +kernel
theorem dX12_learnt_0 : decode cX12_learnt 0 = .ok (.aload_n 0, 1) := by decide +kernel
theorem dX12_learnt_1 : decode cX12_learnt 1 = .ok (.iload_n 1, 1) := by decide +kernel
theorem dX12_learnt_2 : decode cX12_learnt 2 = .ok (.invokevirtual 344, 3) := by decide +kernel
theorem dX12_learnt_5 : decode cX12_learnt 5 = .ok (.ifCond .eq 29, 3) := by decide +kernel
theorem dX12_learnt_8 : decode cX12_learnt 8 = .ok (.aload_n 0, 1) := by decide +kernel
theorem dX12_learnt_9 : decode cX12_learnt 9 = .ok (.iload_n 2, 1) := by decide +kernel
theorem dX12_learnt_10 : decode cX12_learnt 10 = .ok (.invokevirtual 344, 3) := by decide +kernel
theorem dX12_learnt_13 : decode cX12_learnt 13 = .ok (.ifCond .eq 21, 3) := by decide +kernel
theorem dX12_learnt_16 : decode cX12_learnt 16 = .ok (.aload_n 0, 1) := by decide +kernel
theorem dX12_learnt_17 : decode cX12_learnt 17 = .ok (.iload_n 3, 1) := by decide +kernel
theorem dX12_learnt_18 : decode cX12_learnt 18 = .ok (.invokevirtual 378, 3) := by decide +kernel
theorem dX12_learnt_21 : decode cX12_learnt 21 = .ok (.ifCond .eq 13, 3) := by decide +kernel
theorem dX12_learnt_24 : decode cX12_learnt 24 = .ok (.iload 4, 2) := by decide +kernel
theorem dX12_learnt_26 : decode cX12_learnt 26 = .ok (.iconst 0, 1) := by decide +kernel
theorem dX12_learnt_27 : decode cX12_learnt 27 = .ok (.iconst 1, 1) := by decide +kernel
theorem dX12_learnt_28 : decode cX12_learnt 28 = .ok (.invokestatic 186, 3) := by decide +kernel
theorem dX12_learnt_31 : decode cX12_learnt 31 = .ok (.ifCond .ne 5, 3) := by decide +kernel
theorem dX12_learnt_34 : decode cX12_learnt 34 = .ok (.iconst (-1), 1) := by decide +kernel
theorem dX12_learnt_35 : decode cX12_learnt 35 = .ok (.ireturn, 1) := by decide +kernel
theorem dX12_learnt_36 : decode cX12_learnt 36 = .ok (.sipush 1000, 3) := by decide +kernel
theorem dX12_learnt_39 : decode cX12_learnt 39 = .ok (.istore 5, 2) := by decide +kernel
theorem dX12_learnt_41 : decode cX12_learnt 41 = .ok (.iconst 0, 1) := by decide +kernel
theorem dX12_learnt_42 : decode cX12_learnt 42 = .ok (.istore 6, 2) := by decide +kernel
theorem dX12_learnt_44 : decode cX12_learnt 44 = .ok (.aload_n 0, 1) := by decide +kernel
theorem dX12_learnt_45 : decode cX12_learnt 45 = .ok (.getfield 366, 3) := by decide +kernel
theorem dX12_learnt_48 : decode cX12_learnt 48 = .ok (.iconst 1, 1) := by decide +kernel
theorem dX12_learnt_49 : decode cX12_learnt 49 = .ok (.isub, 1) := by decide +kernel
theorem dX12_learnt_50 : decode cX12_learnt 50 = .ok (.istore 7, 2) := by decide +kernel
theorem dX12_learnt_52 : decode cX12_learnt 52 = .ok (.iload 7, 2) := by decide +kernel
theorem dX12_learnt_54 : decode cX12_learnt 54 = .ok (.ifCond .lt 34, 3) := by decide +kernel
theorem dX12_learnt_57 : decode cX12_learnt 57 = .ok (.aload_n 0, 1) := by decide +kernel
theorem dX12_learnt_58 : decode cX12_learnt 58 = .ok (.iload_n 1, 1) := by decide +kernel
theorem dX12_learnt_59 : decode cX12_learnt 59 = .ok (.iload 7, 2) := by decide +kernel
theorem dX12_learnt_61 : decode cX12_learnt 61 = .ok (.iload_n 3, 1) := by decide +kernel
theorem dX12_learnt_62 : decode cX12_learnt 62 = .ok (.invokevirtual 375, 3) := by decide +kernel
theorem dX12_learnt_65 : decode cX12_learnt 65 = .ok (.ifCond .eq 8, 3) := by decide +kernel
theorem dX12_learnt_68 : decode cX12_learnt 68 = .ok (.iload 5, 2) := by decide +kernel
theorem dX12_learnt_70 : decode cX12_learnt 70 = .ok (.goto 10, 3) := by decide +kernel
theorem dX12_learnt_73 : decode cX12_learnt 73 = .ok (.aload_n 0, 1) := by decide +kernel
theorem dX12_learnt_74 : decode cX12_learnt 74 = .ok (.getfield 101, 3) := by decide +kernel
theorem dX12_learnt_77 : decode cX12_learnt 77 = .ok (.iload 7, 2) := by decide +kernel
theorem dX12_learnt_79 : decode cX12_learnt 79 = .ok (.iaload, 1) := by decide +kernel
theorem dX12_learnt_80 : decode cX12_learnt 80 = .ok (.istore 5, 2) := by decide +kernel
theorem dX12_learnt_82 : decode cX12_learnt 82 = .ok (.iinc 7 (-1), 3) := by decide +kernel
theorem dX12_learnt_85 : decode cX12_learnt 85 = .ok (.goto (-33), 3) := by decide +kernel
theorem dX12_learnt_88 : decode cX12_learnt 88 = .ok (.iconst 0, 1) := by decide +kernel
theorem dX12_learnt_89 : decode cX12_learnt 89 = .ok (.istore 7, 2) := by decide +kernel
theorem dX12_learnt_91 : decode cX12_learnt 91 = .ok (.iload 7, 2) := by decide +kernel
theorem dX12_learnt_93 : decode cX12_learnt 93 = .ok (.aload_n 0, 1) := by decide +kernel
theorem dX12_learnt_94 : decode cX12_learnt 94 = .ok (.getfield 366, 3) := by decide +kernel
theorem dX12_learnt_97 : decode cX12_learnt 97 = .ok (.if_icmp .ge 36, 3) := by decide +kernel
theorem dX12_learnt_100 : decode cX12_learnt 100 = .ok (.aload_n 0, 1) := by decide +kernel
theorem dX12_learnt_101 : decode cX12_learnt 101 = .ok (.iload_n 2, 1) := by decide +kernel
theorem dX12_learnt_102 : decode cX12_learnt 102 = .ok (.iload 7, 2) := by decide +kernel
theorem dX12_learnt_104 : decode cX12_learnt 104 = .ok (.iload_n 3, 1) := by decide +kernel
theorem dX12_learnt_105 : decode cX12_learnt 105 = .ok (.invokevirtual 375, 3) := by decide +kernel
theorem dX12_learnt_108 : decode cX12_learnt 108 = .ok (.ifCond .eq 8, 3) := by decide +kernel
theorem dX12_learnt_111 : decode cX12_learnt 111 = .ok (.iload 6, 2) := by decide +kernel
theorem dX12_learnt_113 : decode cX12_learnt 113 = .ok (.goto 12, 3) := by decide +kernel
theorem dX12_learnt_116 : decode cX12_learnt 116 = .ok (.aload_n 0, 1) := by decide +kernel
theorem dX12_learnt_117 : decode cX12_learnt 117 = .ok (.getfield 101, 3) := by decide +kernel
theorem dX12_learnt_120 : decode cX12_learnt 120 = .ok (.iload 7, 2) := by decide +kernel
theorem dX12_learnt_122 : decode cX12_learnt 122 = .ok (.iaload, 1) := by decide +kernel
theorem dX12_learnt_123 : decode cX12_learnt 123 = .ok (.iconst 1, 1) := by decide +kernel
theorem dX12_learnt_124 : decode cX12_learnt 124 = .ok (.iadd, 1) := by decide +kernel
theorem dX12_learnt_125 : decode cX12_learnt 125 = .ok (.istore 6, 2) := by decide +kernel
theorem dX12_learnt_127 : decode cX12_learnt 127 = .ok (.iinc 7 1, 3) := by decide +kernel
theorem dX12_learnt_130 : decode cX12_learnt 130 = .ok (.goto (-39), 3) := by decide +kernel
theorem dX12_learnt_133 : decode cX12_learnt 133 = .ok (.iload 6, 2) := by decide +kernel
theorem dX12_learnt_135 : decode cX12_learnt 135 = .ok (.iload 5, 2) := by decide +kernel
theorem dX12_learnt_137 : decode cX12_learnt 137 = .ok (.if_icmp .le 7, 3) := by decide +kernel
theorem dX12_learnt_140 : decode cX12_learnt 140 = .ok (.iconst (-1), 1) := by decide +kernel
theorem dX12_learnt_141 : decode cX12_learnt 141 = .ok (.goto 15, 3) := by decide +kernel
theorem dX12_learnt_144 : decode cX12_learnt 144 = .ok (.iload 4, 2) := by decide +kernel
theorem dX12_learnt_146 : decode cX12_learnt 146 = .ok (.ifCond .ne 8, 3) := by decide +kernel
theorem dX12_learnt_149 : decode cX12_learnt 149 = .ok (.iload 6, 2) := by decide +kernel
theorem dX12_learnt_151 : decode cX12_learnt 151 = .ok (.goto 5, 3) := by decide +kernel
theorem dX12_learnt_154 : decode cX12_learnt 154 = .ok (.iload 5, 2) := by decide +kernel
theorem dX12_learnt_156 : decode cX12_learnt 156 = .ok (.ireturn, 1) := by decide +kernel
theorem dX12_weigh_0 : decode cX12_weigh 0 = .ok (.aload_n 0, 1) := by decide +kernel
theorem dX12_weigh_1 : decode cX12_weigh 1 = .ok (.iload_n 1, 1) := by decide +kernel
theorem dX12_weigh_2 : decode cX12_weigh 2 = .ok (.invokevirtual 344, 3) := by decide +kernel
theorem dX12_weigh_5 : decode cX12_weigh 5 = .ok (.ifCond .eq 13, 3) := by decide +kernel
theorem dX12_weigh_8 : decode cX12_weigh 8 = .ok (.iload_n 2, 1) := by decide +kernel
theorem dX12_weigh_9 : decode cX12_weigh 9 = .ok (.iconst 1, 1) := by decide +kernel
theorem dX12_weigh_10 : decode cX12_weigh 10 = .ok (.bipush 9, 2) := by decide +kernel
theorem dX12_weigh_12 : decode cX12_weigh 12 = .ok (.invokestatic 186, 3) := by decide +kernel
theorem dX12_weigh_15 : decode cX12_weigh 15 = .ok (.ifCond .ne 5, 3) := by decide +kernel
theorem dX12_weigh_18 : decode cX12_weigh 18 = .ok (.iconst 0, 1) := by decide +kernel
theorem dX12_weigh_19 : decode cX12_weigh 19 = .ok (.ireturn, 1) := by decide +kernel
theorem dX12_weigh_20 : decode cX12_weigh 20 = .ok (.aload_n 0, 1) := by decide +kernel
theorem dX12_weigh_21 : decode cX12_weigh 21 = .ok (.getfield 78, 3) := by decide +kernel
theorem dX12_weigh_24 : decode cX12_weigh 24 = .ok (.iload_n 1, 1) := by decide +kernel
theorem dX12_weigh_25 : decode cX12_weigh 25 = .ok (.iload_n 2, 1) := by decide +kernel
theorem dX12_weigh_26 : decode cX12_weigh 26 = .ok (.iastore, 1) := by decide +kernel
theorem dX12_weigh_27 : decode cX12_weigh 27 = .ok (.iconst 1, 1) := by decide +kernel
theorem dX12_weigh_28 : decode cX12_weigh 28 = .ok (.ireturn, 1) := by decide +kernel
theorem dX12_odds_0 : decode cX12_odds 0 = .ok (.iload_n 1, 1) := by decide +kernel
theorem dX12_odds_1 : decode cX12_odds 1 = .ok (.iconst (-1), 1) := by decide +kernel
theorem dX12_odds_2 : decode cX12_odds 2 = .ok (.if_icmp .eq 11, 3) := by decide +kernel
theorem dX12_odds_5 : decode cX12_odds 5 = .ok (.aload_n 0, 1) := by decide +kernel
theorem dX12_odds_6 : decode cX12_odds 6 = .ok (.iload_n 1, 1) := by decide +kernel
theorem dX12_odds_7 : decode cX12_odds 7 = .ok (.invokevirtual 344, 3) := by decide +kernel
theorem dX12_odds_10 : decode cX12_odds 10 = .ok (.ifCond .eq 11, 3) := by decide +kernel
theorem dX12_odds_13 : decode cX12_odds 13 = .ok (.aload_n 0, 1) := by decide +kernel
theorem dX12_odds_14 : decode cX12_odds 14 = .ok (.iload_n 2, 1) := by decide +kernel
theorem dX12_odds_15 : decode cX12_odds 15 = .ok (.invokevirtual 378, 3) := by decide +kernel
theorem dX12_odds_18 : decode cX12_odds 18 = .ok (.ifCond .ne 5, 3) := by decide +kernel
theorem dX12_odds_21 : decode cX12_odds 21 = .ok (.iconst (-1), 1) := by decide +kernel
theorem dX12_odds_22 : decode cX12_odds 22 = .ok (.ireturn, 1) := by decide +kernel
theorem dX12_odds_23 : decode cX12_odds 23 = .ok (.iconst 0, 1) := by decide +kernel
theorem dX12_odds_24 : decode cX12_odds 24 = .ok (.istore_n 3, 1) := by decide +kernel
theorem dX12_odds_25 : decode cX12_odds 25 = .ok (.iconst 0, 1) := by decide +kernel
theorem dX12_odds_26 : decode cX12_odds 26 = .ok (.istore 4, 2) := by decide +kernel
theorem dX12_odds_28 : decode cX12_odds 28 = .ok (.iload 4, 2) := by decide +kernel
theorem dX12_odds_30 : decode cX12_odds 30 = .ok (.aload_n 0, 1) := by decide +kernel
theorem dX12_odds_31 : decode cX12_odds 31 = .ok (.getfield 274, 3) := by decide +kernel
theorem dX12_odds_34 : decode cX12_odds 34 = .ok (.if_icmp .ge 48, 3) := by decide +kernel
theorem dX12_odds_37 : decode cX12_odds 37 = .ok (.iload_n 3, 1) := by decide +kernel
theorem dX12_odds_38 : decode cX12_odds 38 = .ok (.iload_n 1, 1) := by decide +kernel
theorem dX12_odds_39 : decode cX12_odds 39 = .ok (.iconst (-1), 1) := by decide +kernel
theorem dX12_odds_40 : decode cX12_odds 40 = .ok (.if_icmp .eq 9, 3) := by decide +kernel
theorem dX12_odds_43 : decode cX12_odds 43 = .ok (.iload_n 1, 1) := by decide +kernel
theorem dX12_odds_44 : decode cX12_odds 44 = .ok (.iload 4, 2) := by decide +kernel
theorem dX12_odds_46 : decode cX12_odds 46 = .ok (.if_icmp .ne 27, 3) := by decide +kernel
theorem dX12_odds_49 : decode cX12_odds 49 = .ok (.aload_n 0, 1) := by decide +kernel
theorem dX12_odds_50 : decode cX12_odds 50 = .ok (.iload 4, 2) := by decide +kernel
theorem dX12_odds_52 : decode cX12_odds 52 = .ok (.iload_n 2, 1) := by decide +kernel
theorem dX12_odds_53 : decode cX12_odds 53 = .ok (.invokevirtual 381, 3) := by decide +kernel
theorem dX12_odds_56 : decode cX12_odds 56 = .ok (.aload_n 0, 1) := by decide +kernel
theorem dX12_odds_57 : decode cX12_odds 57 = .ok (.getfield 366, 3) := by decide +kernel
theorem dX12_odds_60 : decode cX12_odds 60 = .ok (.if_icmp .ne 13, 3) := by decide +kernel
theorem dX12_odds_63 : decode cX12_odds 63 = .ok (.aload_n 0, 1) := by decide +kernel
theorem dX12_odds_64 : decode cX12_odds 64 = .ok (.getfield 78, 3) := by decide +kernel
theorem dX12_odds_67 : decode cX12_odds 67 = .ok (.iload 4, 2) := by decide +kernel
theorem dX12_odds_69 : decode cX12_odds 69 = .ok (.iaload, 1) := by decide +kernel
theorem dX12_odds_70 : decode cX12_odds 70 = .ok (.goto 4, 3) := by decide +kernel
theorem dX12_odds_73 : decode cX12_odds 73 = .ok (.iconst 0, 1) := by decide +kernel
theorem dX12_odds_74 : decode cX12_odds 74 = .ok (.iadd, 1) := by decide +kernel
theorem dX12_odds_75 : decode cX12_odds 75 = .ok (.istore_n 3, 1) := by decide +kernel
theorem dX12_odds_76 : decode cX12_odds 76 = .ok (.iinc 4 1, 3) := by decide +kernel
theorem dX12_odds_79 : decode cX12_odds 79 = .ok (.goto (-51), 3) := by decide +kernel
theorem dX12_odds_82 : decode cX12_odds 82 = .ok (.iload_n 3, 1) := by decide +kernel
theorem dX12_odds_83 : decode cX12_odds 83 = .ok (.ireturn, 1) := by decide +kernel
theorem dX12_plan_0 : decode cX12_plan 0 = .ok (.aload_n 0, 1) := by decide +kernel
theorem dX12_plan_1 : decode cX12_plan 1 = .ok (.iload_n 1, 1) := by decide +kernel
theorem dX12_plan_2 : decode cX12_plan 2 = .ok (.iload_n 2, 1) := by decide +kernel
theorem dX12_plan_3 : decode cX12_plan 3 = .ok (.iload_n 3, 1) := by decide +kernel
theorem dX12_plan_4 : decode cX12_plan 4 = .ok (.iload 4, 2) := by decide +kernel
theorem dX12_plan_6 : decode cX12_plan 6 = .ok (.invokevirtual 287, 3) := by decide +kernel
theorem dX12_plan_9 : decode cX12_plan 9 = .ok (.ifCond .eq 12, 3) := by decide +kernel
theorem dX12_plan_12 : decode cX12_plan 12 = .ok (.aload_n 0, 1) := by decide +kernel
theorem dX12_plan_13 : decode cX12_plan 13 = .ok (.getfield 392, 3) := by decide +kernel
theorem dX12_plan_16 : decode cX12_plan 16 = .ok (.bipush 8, 2) := by decide +kernel
theorem dX12_plan_18 : decode cX12_plan 18 = .ok (.if_icmp .ne 5, 3) := by decide +kernel
theorem dX12_plan_21 : decode cX12_plan 21 = .ok (.iconst (-1), 1) := by decide +kernel
theorem dX12_plan_22 : decode cX12_plan 22 = .ok (.ireturn, 1) := by decide +kernel
theorem dX12_plan_23 : decode cX12_plan 23 = .ok (.aload_n 0, 1) := by decide +kernel
theorem dX12_plan_24 : decode cX12_plan 24 = .ok (.getfield 122, 3) := by decide +kernel
theorem dX12_plan_27 : decode cX12_plan 27 = .ok (.aload_n 0, 1) := by decide +kernel
theorem dX12_plan_28 : decode cX12_plan 28 = .ok (.getfield 392, 3) := by decide +kernel
theorem dX12_plan_31 : decode cX12_plan 31 = .ok (.iload_n 1, 1) := by decide +kernel
theorem dX12_plan_32 : decode cX12_plan 32 = .ok (.iastore, 1) := by decide +kernel
theorem dX12_plan_33 : decode cX12_plan 33 = .ok (.aload_n 0, 1) := by decide +kernel
theorem dX12_plan_34 : decode cX12_plan 34 = .ok (.getfield 125, 3) := by decide +kernel
theorem dX12_plan_37 : decode cX12_plan 37 = .ok (.aload_n 0, 1) := by decide +kernel
theorem dX12_plan_38 : decode cX12_plan 38 = .ok (.getfield 392, 3) := by decide +kernel
theorem dX12_plan_41 : decode cX12_plan 41 = .ok (.iload_n 2, 1) := by decide +kernel
theorem dX12_plan_42 : decode cX12_plan 42 = .ok (.iastore, 1) := by decide +kernel
theorem dX12_plan_43 : decode cX12_plan 43 = .ok (.aload_n 0, 1) := by decide +kernel
theorem dX12_plan_44 : decode cX12_plan 44 = .ok (.getfield 128, 3) := by decide +kernel
theorem dX12_plan_47 : decode cX12_plan 47 = .ok (.aload_n 0, 1) := by decide +kernel
theorem dX12_plan_48 : decode cX12_plan 48 = .ok (.getfield 392, 3) := by decide +kernel
theorem dX12_plan_51 : decode cX12_plan 51 = .ok (.iload_n 3, 1) := by decide +kernel
theorem dX12_plan_52 : decode cX12_plan 52 = .ok (.iastore, 1) := by decide +kernel
theorem dX12_plan_53 : decode cX12_plan 53 = .ok (.aload_n 0, 1) := by decide +kernel
theorem dX12_plan_54 : decode cX12_plan 54 = .ok (.getfield 131, 3) := by decide +kernel
theorem dX12_plan_57 : decode cX12_plan 57 = .ok (.aload_n 0, 1) := by decide +kernel
theorem dX12_plan_58 : decode cX12_plan 58 = .ok (.getfield 392, 3) := by decide +kernel
theorem dX12_plan_61 : decode cX12_plan 61 = .ok (.iload 4, 2) := by decide +kernel
theorem dX12_plan_63 : decode cX12_plan 63 = .ok (.iastore, 1) := by decide +kernel
theorem dX12_plan_64 : decode cX12_plan 64 = .ok (.aload_n 0, 1) := by decide +kernel
theorem dX12_plan_65 : decode cX12_plan 65 = .ok (.dup, 1) := by decide +kernel
theorem dX12_plan_66 : decode cX12_plan 66 = .ok (.getfield 392, 3) := by decide +kernel
theorem dX12_plan_69 : decode cX12_plan 69 = .ok (.iconst 1, 1) := by decide +kernel
theorem dX12_plan_70 : decode cX12_plan 70 = .ok (.iadd, 1) := by decide +kernel
theorem dX12_plan_71 : decode cX12_plan 71 = .ok (.putfield 392, 3) := by decide +kernel
theorem dX12_plan_74 : decode cX12_plan 74 = .ok (.aload_n 0, 1) := by decide +kernel
theorem dX12_plan_75 : decode cX12_plan 75 = .ok (.getfield 392, 3) := by decide +kernel
theorem dX12_plan_78 : decode cX12_plan 78 = .ok (.iconst 1, 1) := by decide +kernel
theorem dX12_plan_79 : decode cX12_plan 79 = .ok (.isub, 1) := by decide +kernel
theorem dX12_plan_80 : decode cX12_plan 80 = .ok (.ireturn, 1) := by decide +kernel
theorem dX12_areApart_0 : decode cX12_areApart 0 = .ok (.aload_n 0, 1) := by decide +kernel
theorem dX12_areApart_1 : decode cX12_areApart 1 = .ok (.iload_n 1, 1) := by decide +kernel
theorem dX12_areApart_2 : decode cX12_areApart 2 = .ok (.iload_n 3, 1) := by decide +kernel
theorem dX12_areApart_3 : decode cX12_areApart 3 = .ok (.iload 4, 2) := by decide +kernel
theorem dX12_areApart_5 : decode cX12_areApart 5 = .ok (.iload 5, 2) := by decide +kernel
theorem dX12_areApart_7 : decode cX12_areApart 7 = .ok (.iload 6, 2) := by decide +kernel
theorem dX12_areApart_9 : decode cX12_areApart 9 = .ok (.invokevirtual 356, 3) := by decide +kernel
theorem dX12_areApart_12 : decode cX12_areApart 12 = .ok (.istore 7, 2) := by decide +kernel
theorem dX12_areApart_14 : decode cX12_areApart 14 = .ok (.aload_n 0, 1) := by decide +kernel
theorem dX12_areApart_15 : decode cX12_areApart 15 = .ok (.getfield 350, 3) := by decide +kernel
theorem dX12_areApart_18 : decode cX12_areApart 18 = .ok (.istore 8, 2) := by decide +kernel
theorem dX12_areApart_20 : decode cX12_areApart 20 = .ok (.aload_n 0, 1) := by decide +kernel
theorem dX12_areApart_21 : decode cX12_areApart 21 = .ok (.getfield 353, 3) := by decide +kernel
theorem dX12_areApart_24 : decode cX12_areApart 24 = .ok (.istore 9, 2) := by decide +kernel
theorem dX12_areApart_26 : decode cX12_areApart 26 = .ok (.aload_n 0, 1) := by decide +kernel
theorem dX12_areApart_27 : decode cX12_areApart 27 = .ok (.iload_n 2, 1) := by decide +kernel
theorem dX12_areApart_28 : decode cX12_areApart 28 = .ok (.iload_n 3, 1) := by decide +kernel
theorem dX12_areApart_29 : decode cX12_areApart 29 = .ok (.iload 4, 2) := by decide +kernel
theorem dX12_areApart_31 : decode cX12_areApart 31 = .ok (.iload 5, 2) := by decide +kernel
theorem dX12_areApart_33 : decode cX12_areApart 33 = .ok (.iload 6, 2) := by decide +kernel
theorem dX12_areApart_35 : decode cX12_areApart 35 = .ok (.invokevirtual 356, 3) := by decide +kernel
theorem dX12_areApart_38 : decode cX12_areApart 38 = .ok (.istore 10, 2) := by decide +kernel
theorem dX12_areApart_40 : decode cX12_areApart 40 = .ok (.iload 7, 2) := by decide +kernel
theorem dX12_areApart_42 : decode cX12_areApart 42 = .ok (.iload 10, 2) := by decide +kernel
theorem dX12_areApart_44 : decode cX12_areApart 44 = .ok (.if_icmp .ne 26, 3) := by decide +kernel
theorem dX12_areApart_47 : decode cX12_areApart 47 = .ok (.iload 7, 2) := by decide +kernel
theorem dX12_areApart_49 : decode cX12_areApart 49 = .ok (.ifCond .eq 25, 3) := by decide +kernel
theorem dX12_areApart_52 : decode cX12_areApart 52 = .ok (.iload 8, 2) := by decide +kernel
theorem dX12_areApart_54 : decode cX12_areApart 54 = .ok (.aload_n 0, 1) := by decide +kernel
theorem dX12_areApart_55 : decode cX12_areApart 55 = .ok (.getfield 350, 3) := by decide +kernel
theorem dX12_areApart_58 : decode cX12_areApart 58 = .ok (.if_icmp .ne 12, 3) := by decide +kernel
theorem dX12_areApart_61 : decode cX12_areApart 61 = .ok (.iload 9, 2) := by decide +kernel
theorem dX12_areApart_63 : decode cX12_areApart 63 = .ok (.aload_n 0, 1) := by decide +kernel
theorem dX12_areApart_64 : decode cX12_areApart 64 = .ok (.getfield 353, 3) := by decide +kernel
theorem dX12_areApart_67 : decode cX12_areApart 67 = .ok (.if_icmp .eq 7, 3) := by decide +kernel
theorem dX12_areApart_70 : decode cX12_areApart 70 = .ok (.iconst 1, 1) := by decide +kernel
theorem dX12_areApart_71 : decode cX12_areApart 71 = .ok (.goto 4, 3) := by decide +kernel
theorem dX12_areApart_74 : decode cX12_areApart 74 = .ok (.iconst 0, 1) := by decide +kernel
theorem dX12_areApart_75 : decode cX12_areApart 75 = .ok (.ireturn, 1) := by decide +kernel
theorem dX12_partedBy_0 : decode cX12_partedBy 0 = .ok (.iconst 0, 1) := by decide +kernel
theorem dX12_partedBy_1 : decode cX12_partedBy 1 = .ok (.istore_n 3, 1) := by decide +kernel
theorem dX12_partedBy_2 : decode cX12_partedBy 2 = .ok (.iconst 0, 1) := by decide +kernel
theorem dX12_partedBy_3 : decode cX12_partedBy 3 = .ok (.istore 4, 2) := by decide +kernel
theorem dX12_partedBy_5 : decode cX12_partedBy 5 = .ok (.iload 4, 2) := by decide +kernel
theorem dX12_partedBy_7 : decode cX12_partedBy 7 = .ok (.aload_n 0, 1) := by decide +kernel
theorem dX12_partedBy_8 : decode cX12_partedBy 8 = .ok (.getfield 274, 3) := by decide +kernel
theorem dX12_partedBy_11 : decode cX12_partedBy 11 = .ok (.if_icmp .ge 100, 3) := by decide +kernel
theorem dX12_partedBy_14 : decode cX12_partedBy 14 = .ok (.iconst 0, 1) := by decide +kernel
theorem dX12_partedBy_15 : decode cX12_partedBy 15 = .ok (.istore 5, 2) := by decide +kernel
theorem dX12_partedBy_17 : decode cX12_partedBy 17 = .ok (.iload 5, 2) := by decide +kernel
theorem dX12_partedBy_19 : decode cX12_partedBy 19 = .ok (.iload 4, 2) := by decide +kernel
theorem dX12_partedBy_21 : decode cX12_partedBy 21 = .ok (.if_icmp .ge 84, 3) := by decide +kernel
theorem dX12_partedBy_24 : decode cX12_partedBy 24 = .ok (.iload_n 2, 1) := by decide +kernel
theorem dX12_partedBy_25 : decode cX12_partedBy 25 = .ok (.iload 4, 2) := by decide +kernel
theorem dX12_partedBy_27 : decode cX12_partedBy 27 = .ok (.ishr, 1) := by decide +kernel
theorem dX12_partedBy_28 : decode cX12_partedBy 28 = .ok (.iconst 1, 1) := by decide +kernel
theorem dX12_partedBy_29 : decode cX12_partedBy 29 = .ok (.iand, 1) := by decide +kernel
theorem dX12_partedBy_30 : decode cX12_partedBy 30 = .ok (.iconst 1, 1) := by decide +kernel
theorem dX12_partedBy_31 : decode cX12_partedBy 31 = .ok (.if_icmp .ne 17, 3) := by decide +kernel
theorem dX12_partedBy_34 : decode cX12_partedBy 34 = .ok (.iload_n 2, 1) := by decide +kernel
theorem dX12_partedBy_35 : decode cX12_partedBy 35 = .ok (.iload 5, 2) := by decide +kernel
theorem dX12_partedBy_37 : decode cX12_partedBy 37 = .ok (.ishr, 1) := by decide +kernel
theorem dX12_partedBy_38 : decode cX12_partedBy 38 = .ok (.iconst 1, 1) := by decide +kernel
theorem dX12_partedBy_39 : decode cX12_partedBy 39 = .ok (.iand, 1) := by decide +kernel
theorem dX12_partedBy_40 : decode cX12_partedBy 40 = .ok (.iconst 1, 1) := by decide +kernel
theorem dX12_partedBy_41 : decode cX12_partedBy 41 = .ok (.if_icmp .ne 7, 3) := by decide +kernel
theorem dX12_partedBy_44 : decode cX12_partedBy 44 = .ok (.iconst 1, 1) := by decide +kernel
theorem dX12_partedBy_45 : decode cX12_partedBy 45 = .ok (.goto 4, 3) := by decide +kernel
theorem dX12_partedBy_48 : decode cX12_partedBy 48 = .ok (.iconst 0, 1) := by decide +kernel
theorem dX12_partedBy_49 : decode cX12_partedBy 49 = .ok (.istore 6, 2) := by decide +kernel
theorem dX12_partedBy_51 : decode cX12_partedBy 51 = .ok (.iload_n 3, 1) := by decide +kernel
theorem dX12_partedBy_52 : decode cX12_partedBy 52 = .ok (.iload 6, 2) := by decide +kernel
theorem dX12_partedBy_54 : decode cX12_partedBy 54 = .ok (.ifCond .eq 42, 3) := by decide +kernel
theorem dX12_partedBy_57 : decode cX12_partedBy 57 = .ok (.aload_n 0, 1) := by decide +kernel
theorem dX12_partedBy_58 : decode cX12_partedBy 58 = .ok (.iload 4, 2) := by decide +kernel
theorem dX12_partedBy_60 : decode cX12_partedBy 60 = .ok (.iload 5, 2) := by decide +kernel
theorem dX12_partedBy_62 : decode cX12_partedBy 62 = .ok (.aload_n 0, 1) := by decide +kernel
theorem dX12_partedBy_63 : decode cX12_partedBy 63 = .ok (.getfield 122, 3) := by decide +kernel
theorem dX12_partedBy_66 : decode cX12_partedBy 66 = .ok (.iload_n 1, 1) := by decide +kernel
theorem dX12_partedBy_67 : decode cX12_partedBy 67 = .ok (.iaload, 1) := by decide +kernel
theorem dX12_partedBy_68 : decode cX12_partedBy 68 = .ok (.aload_n 0, 1) := by decide +kernel
theorem dX12_partedBy_69 : decode cX12_partedBy 69 = .ok (.getfield 125, 3) := by decide +kernel
theorem dX12_partedBy_72 : decode cX12_partedBy 72 = .ok (.iload_n 1, 1) := by decide +kernel
theorem dX12_partedBy_73 : decode cX12_partedBy 73 = .ok (.iaload, 1) := by decide +kernel
theorem dX12_partedBy_74 : decode cX12_partedBy 74 = .ok (.aload_n 0, 1) := by decide +kernel
theorem dX12_partedBy_75 : decode cX12_partedBy 75 = .ok (.getfield 128, 3) := by decide +kernel
theorem dX12_partedBy_78 : decode cX12_partedBy 78 = .ok (.iload_n 1, 1) := by decide +kernel
theorem dX12_partedBy_79 : decode cX12_partedBy 79 = .ok (.iaload, 1) := by decide +kernel
theorem dX12_partedBy_80 : decode cX12_partedBy 80 = .ok (.aload_n 0, 1) := by decide +kernel
theorem dX12_partedBy_81 : decode cX12_partedBy 81 = .ok (.getfield 131, 3) := by decide +kernel
theorem dX12_partedBy_84 : decode cX12_partedBy 84 = .ok (.iload_n 1, 1) := by decide +kernel
theorem dX12_partedBy_85 : decode cX12_partedBy 85 = .ok (.iaload, 1) := by decide +kernel
theorem dX12_partedBy_86 : decode cX12_partedBy 86 = .ok (.invokevirtual 395, 3) := by decide +kernel
theorem dX12_partedBy_89 : decode cX12_partedBy 89 = .ok (.ifCond .eq 7, 3) := by decide +kernel
theorem dX12_partedBy_92 : decode cX12_partedBy 92 = .ok (.iconst 1, 1) := by decide +kernel
theorem dX12_partedBy_93 : decode cX12_partedBy 93 = .ok (.goto 4, 3) := by decide +kernel
theorem dX12_partedBy_96 : decode cX12_partedBy 96 = .ok (.iconst 0, 1) := by decide +kernel
theorem dX12_partedBy_97 : decode cX12_partedBy 97 = .ok (.iadd, 1) := by decide +kernel
theorem dX12_partedBy_98 : decode cX12_partedBy 98 = .ok (.istore_n 3, 1) := by decide +kernel
theorem dX12_partedBy_99 : decode cX12_partedBy 99 = .ok (.iinc 5 1, 3) := by decide +kernel
theorem dX12_partedBy_102 : decode cX12_partedBy 102 = .ok (.goto (-85), 3) := by decide +kernel
theorem dX12_partedBy_105 : decode cX12_partedBy 105 = .ok (.iinc 4 1, 3) := by decide +kernel
theorem dX12_partedBy_108 : decode cX12_partedBy 108 = .ok (.goto (-103), 3) := by decide +kernel
theorem dX12_partedBy_111 : decode cX12_partedBy 111 = .ok (.iload_n 3, 1) := by decide +kernel
theorem dX12_partedBy_112 : decode cX12_partedBy 112 = .ok (.ireturn, 1) := by decide +kernel
theorem dX12_areHeads_0 : decode cX12_areHeads 0 = .ok (.iload_n 1, 1) := by decide +kernel
theorem dX12_areHeads_1 : decode cX12_areHeads 1 = .ok (.ifCond .lt 16, 3) := by decide +kernel
theorem dX12_areHeads_4 : decode cX12_areHeads 4 = .ok (.iload_n 1, 1) := by decide +kernel
theorem dX12_areHeads_5 : decode cX12_areHeads 5 = .ok (.aload_n 0, 1) := by decide +kernel
theorem dX12_areHeads_6 : decode cX12_areHeads 6 = .ok (.getfield 274, 3) := by decide +kernel
theorem dX12_areHeads_9 : decode cX12_areHeads 9 = .ok (.ishr, 1) := by decide +kernel
theorem dX12_areHeads_10 : decode cX12_areHeads 10 = .ok (.ifCond .ne 7, 3) := by decide +kernel
theorem dX12_areHeads_13 : decode cX12_areHeads 13 = .ok (.iconst 1, 1) := by decide +kernel
theorem dX12_areHeads_14 : decode cX12_areHeads 14 = .ok (.goto 4, 3) := by decide +kernel
theorem dX12_areHeads_17 : decode cX12_areHeads 17 = .ok (.iconst 0, 1) := by decide +kernel
theorem dX12_areHeads_18 : decode cX12_areHeads 18 = .ok (.ireturn, 1) := by decide +kernel
theorem dX12_parted_0 : decode cX12_parted 0 = .ok (.iload_n 1, 1) := by decide +kernel
theorem dX12_parted_1 : decode cX12_parted 1 = .ok (.iconst 0, 1) := by decide +kernel
theorem dX12_parted_2 : decode cX12_parted 2 = .ok (.aload_n 0, 1) := by decide +kernel
theorem dX12_parted_3 : decode cX12_parted 3 = .ok (.getfield 392, 3) := by decide +kernel
theorem dX12_parted_6 : decode cX12_parted 6 = .ok (.iconst 1, 1) := by decide +kernel
theorem dX12_parted_7 : decode cX12_parted 7 = .ok (.isub, 1) := by decide +kernel
theorem dX12_parted_8 : decode cX12_parted 8 = .ok (.invokestatic 186, 3) := by decide +kernel
theorem dX12_parted_11 : decode cX12_parted 11 = .ok (.ifCond .eq 20, 3) := by decide +kernel
theorem dX12_parted_14 : decode cX12_parted 14 = .ok (.aload_n 0, 1) := by decide +kernel
theorem dX12_parted_15 : decode cX12_parted 15 = .ok (.iload_n 2, 1) := by decide +kernel
theorem dX12_parted_16 : decode cX12_parted 16 = .ok (.invokevirtual 399, 3) := by decide +kernel
theorem dX12_parted_19 : decode cX12_parted 19 = .ok (.ifCond .eq 12, 3) := by decide +kernel
theorem dX12_parted_22 : decode cX12_parted 22 = .ok (.aload_n 0, 1) := by decide +kernel
theorem dX12_parted_23 : decode cX12_parted 23 = .ok (.iload_n 1, 1) := by decide +kernel
theorem dX12_parted_24 : decode cX12_parted 24 = .ok (.iload_n 2, 1) := by decide +kernel
theorem dX12_parted_25 : decode cX12_parted 25 = .ok (.invokevirtual 402, 3) := by decide +kernel
theorem dX12_parted_28 : decode cX12_parted 28 = .ok (.goto 4, 3) := by decide +kernel
theorem dX12_parted_31 : decode cX12_parted 31 = .ok (.iconst (-1), 1) := by decide +kernel
theorem dX12_parted_32 : decode cX12_parted 32 = .ok (.ireturn, 1) := by decide +kernel
theorem dX12_next_0 : decode cX12_next 0 = .ok (.aload_n 0, 1) := by decide +kernel
theorem dX12_next_1 : decode cX12_next 1 = .ok (.iload_n 1, 1) := by decide +kernel
theorem dX12_next_2 : decode cX12_next 2 = .ok (.invokevirtual 399, 3) := by decide +kernel
theorem dX12_next_5 : decode cX12_next 5 = .ok (.ifCond .ne 5, 3) := by decide +kernel
theorem dX12_next_8 : decode cX12_next 8 = .ok (.iconst (-1), 1) := by decide +kernel
theorem dX12_next_9 : decode cX12_next 9 = .ok (.ireturn, 1) := by decide +kernel
theorem dX12_next_10 : decode cX12_next 10 = .ok (.iconst (-1), 1) := by decide +kernel
theorem dX12_next_11 : decode cX12_next 11 = .ok (.istore_n 2, 1) := by decide +kernel
theorem dX12_next_12 : decode cX12_next 12 = .ok (.iconst (-1), 1) := by decide +kernel
theorem dX12_next_13 : decode cX12_next 13 = .ok (.istore_n 3, 1) := by decide +kernel
theorem dX12_next_14 : decode cX12_next 14 = .ok (.iconst 0, 1) := by decide +kernel
theorem dX12_next_15 : decode cX12_next 15 = .ok (.istore 4, 2) := by decide +kernel
theorem dX12_next_17 : decode cX12_next 17 = .ok (.iload 4, 2) := by decide +kernel
theorem dX12_next_19 : decode cX12_next 19 = .ok (.aload_n 0, 1) := by decide +kernel
theorem dX12_next_20 : decode cX12_next 20 = .ok (.getfield 392, 3) := by decide +kernel
theorem dX12_next_23 : decode cX12_next 23 = .ok (.if_icmp .ge 38, 3) := by decide +kernel
theorem dX12_next_26 : decode cX12_next 26 = .ok (.aload_n 0, 1) := by decide +kernel
theorem dX12_next_27 : decode cX12_next 27 = .ok (.iload 4, 2) := by decide +kernel
theorem dX12_next_29 : decode cX12_next 29 = .ok (.iload_n 1, 1) := by decide +kernel
theorem dX12_next_30 : decode cX12_next 30 = .ok (.invokevirtual 402, 3) := by decide +kernel
theorem dX12_next_33 : decode cX12_next 33 = .ok (.istore 5, 2) := by decide +kernel
theorem dX12_next_35 : decode cX12_next 35 = .ok (.iload 5, 2) := by decide +kernel
theorem dX12_next_37 : decode cX12_next 37 = .ok (.iload_n 3, 1) := by decide +kernel
theorem dX12_next_38 : decode cX12_next 38 = .ok (.if_icmp .le 8, 3) := by decide +kernel
theorem dX12_next_41 : decode cX12_next 41 = .ok (.iload 4, 2) := by decide +kernel
theorem dX12_next_43 : decode cX12_next 43 = .ok (.goto 4, 3) := by decide +kernel
theorem dX12_next_46 : decode cX12_next 46 = .ok (.iload_n 2, 1) := by decide +kernel
theorem dX12_next_47 : decode cX12_next 47 = .ok (.istore_n 2, 1) := by decide +kernel
theorem dX12_next_48 : decode cX12_next 48 = .ok (.iload_n 3, 1) := by decide +kernel
theorem dX12_next_49 : decode cX12_next 49 = .ok (.iload 5, 2) := by decide +kernel
theorem dX12_next_51 : decode cX12_next 51 = .ok (.invokestatic 239, 3) := by decide +kernel
theorem dX12_next_54 : decode cX12_next 54 = .ok (.istore_n 3, 1) := by decide +kernel
theorem dX12_next_55 : decode cX12_next 55 = .ok (.iinc 4 1, 3) := by decide +kernel
theorem dX12_next_58 : decode cX12_next 58 = .ok (.goto (-41), 3) := by decide +kernel
theorem dX12_next_61 : decode cX12_next 61 = .ok (.iload_n 2, 1) := by decide +kernel
theorem dX12_next_62 : decode cX12_next 62 = .ok (.ireturn, 1) := by decide +kernel
theorem dX12_part_0 : decode cX12_part 0 = .ok (.aload_n 0, 1) := by decide +kernel
theorem dX12_part_1 : decode cX12_part 1 = .ok (.iload_n 1, 1) := by decide +kernel
theorem dX12_part_2 : decode cX12_part 2 = .ok (.invokevirtual 344, 3) := by decide +kernel
theorem dX12_part_5 : decode cX12_part 5 = .ok (.ifCond .eq 42, 3) := by decide +kernel
theorem dX12_part_8 : decode cX12_part 8 = .ok (.aload_n 0, 1) := by decide +kernel
theorem dX12_part_9 : decode cX12_part 9 = .ok (.iload_n 2, 1) := by decide +kernel
theorem dX12_part_10 : decode cX12_part 10 = .ok (.invokevirtual 344, 3) := by decide +kernel
theorem dX12_part_13 : decode cX12_part 13 = .ok (.ifCond .eq 34, 3) := by decide +kernel
theorem dX12_part_16 : decode cX12_part 16 = .ok (.aload_n 0, 1) := by decide +kernel
theorem dX12_part_17 : decode cX12_part 17 = .ok (.iload_n 3, 1) := by decide +kernel
theorem dX12_part_18 : decode cX12_part 18 = .ok (.invokevirtual 280, 3) := by decide +kernel
theorem dX12_part_21 : decode cX12_part 21 = .ok (.ifCond .eq 26, 3) := by decide +kernel
theorem dX12_part_24 : decode cX12_part 24 = .ok (.iload 5, 2) := by decide +kernel
theorem dX12_part_26 : decode cX12_part 26 = .ok (.iconst 1, 1) := by decide +kernel
theorem dX12_part_27 : decode cX12_part 27 = .ok (.bipush 20, 2) := by decide +kernel
theorem dX12_part_29 : decode cX12_part 29 = .ok (.invokestatic 186, 3) := by decide +kernel
theorem dX12_part_32 : decode cX12_part 32 = .ok (.ifCond .eq 15, 3) := by decide +kernel
theorem dX12_part_35 : decode cX12_part 35 = .ok (.iload 4, 2) := by decide +kernel
theorem dX12_part_37 : decode cX12_part 37 = .ok (.iconst 1, 1) := by decide +kernel
theorem dX12_part_38 : decode cX12_part 38 = .ok (.sipush 9999, 3) := by decide +kernel
theorem dX12_part_41 : decode cX12_part 41 = .ok (.invokestatic 186, 3) := by decide +kernel
theorem dX12_part_44 : decode cX12_part 44 = .ok (.ifCond .ne 5, 3) := by decide +kernel
theorem dX12_part_47 : decode cX12_part 47 = .ok (.iconst (-1), 1) := by decide +kernel
theorem dX12_part_48 : decode cX12_part 48 = .ok (.ireturn, 1) := by decide +kernel
theorem dX12_part_49 : decode cX12_part 49 = .ok (.iload 4, 2) := by decide +kernel
theorem dX12_part_51 : decode cX12_part 51 = .ok (.istore 6, 2) := by decide +kernel
theorem dX12_part_53 : decode cX12_part 53 = .ok (.iload 6, 2) := by decide +kernel
theorem dX12_part_55 : decode cX12_part 55 = .ok (.iload 4, 2) := by decide +kernel
theorem dX12_part_57 : decode cX12_part 57 = .ok (.iload 5, 2) := by decide +kernel
theorem dX12_part_59 : decode cX12_part 59 = .ok (.iadd, 1) := by decide +kernel
theorem dX12_part_60 : decode cX12_part 60 = .ok (.sipush 10000, 3) := by decide +kernel
theorem dX12_part_63 : decode cX12_part 63 = .ok (.invokestatic 231, 3) := by decide +kernel
theorem dX12_part_66 : decode cX12_part 66 = .ok (.if_icmp .ge 83, 3) := by decide +kernel
theorem dX12_part_69 : decode cX12_part 69 = .ok (.iconst 1, 1) := by decide +kernel
theorem dX12_part_70 : decode cX12_part 70 = .ok (.istore 7, 2) := by decide +kernel
theorem dX12_part_72 : decode cX12_part 72 = .ok (.iload 7, 2) := by decide +kernel
theorem dX12_part_74 : decode cX12_part 74 = .ok (.bipush 12, 2) := by decide +kernel
theorem dX12_part_76 : decode cX12_part 76 = .ok (.if_icmp .gt 67, 3) := by decide +kernel
theorem dX12_part_79 : decode cX12_part 79 = .ok (.iconst 1, 1) := by decide +kernel
theorem dX12_part_80 : decode cX12_part 80 = .ok (.istore 8, 2) := by decide +kernel
theorem dX12_part_82 : decode cX12_part 82 = .ok (.iload 8, 2) := by decide +kernel
theorem dX12_part_84 : decode cX12_part 84 = .ok (.bipush 31, 2) := by decide +kernel
theorem dX12_part_86 : decode cX12_part 86 = .ok (.if_icmp .gt 51, 3) := by decide +kernel
theorem dX12_part_89 : decode cX12_part 89 = .ok (.aload_n 0, 1) := by decide +kernel
theorem dX12_part_90 : decode cX12_part 90 = .ok (.iload_n 3, 1) := by decide +kernel
theorem dX12_part_91 : decode cX12_part 91 = .ok (.iload 6, 2) := by decide +kernel
theorem dX12_part_93 : decode cX12_part 93 = .ok (.iload 7, 2) := by decide +kernel
theorem dX12_part_95 : decode cX12_part 95 = .ok (.iload 8, 2) := by decide +kernel
theorem dX12_part_97 : decode cX12_part 97 = .ok (.invokevirtual 287, 3) := by decide +kernel
theorem dX12_part_100 : decode cX12_part 100 = .ok (.ifCond .eq 31, 3) := by decide +kernel
theorem dX12_part_103 : decode cX12_part 103 = .ok (.aload_n 0, 1) := by decide +kernel
theorem dX12_part_104 : decode cX12_part 104 = .ok (.iload_n 1, 1) := by decide +kernel
theorem dX12_part_105 : decode cX12_part 105 = .ok (.iload_n 2, 1) := by decide +kernel
theorem dX12_part_106 : decode cX12_part 106 = .ok (.iload_n 3, 1) := by decide +kernel
theorem dX12_part_107 : decode cX12_part 107 = .ok (.iload 6, 2) := by decide +kernel
theorem dX12_part_109 : decode cX12_part 109 = .ok (.iload 7, 2) := by decide +kernel
theorem dX12_part_111 : decode cX12_part 111 = .ok (.iload 8, 2) := by decide +kernel
theorem dX12_part_113 : decode cX12_part 113 = .ok (.invokevirtual 395, 3) := by decide +kernel
theorem dX12_part_116 : decode cX12_part 116 = .ok (.ifCond .eq 15, 3) := by decide +kernel
theorem dX12_part_119 : decode cX12_part 119 = .ok (.aload_n 0, 1) := by decide +kernel
theorem dX12_part_120 : decode cX12_part 120 = .ok (.iload_n 3, 1) := by decide +kernel
theorem dX12_part_121 : decode cX12_part 121 = .ok (.iload 6, 2) := by decide +kernel
theorem dX12_part_123 : decode cX12_part 123 = .ok (.iload 7, 2) := by decide +kernel
theorem dX12_part_125 : decode cX12_part 125 = .ok (.iload 8, 2) := by decide +kernel
theorem dX12_part_127 : decode cX12_part 127 = .ok (.invokevirtual 291, 3) := by decide +kernel
theorem dX12_part_130 : decode cX12_part 130 = .ok (.ireturn, 1) := by decide +kernel
theorem dX12_part_131 : decode cX12_part 131 = .ok (.iinc 8 1, 3) := by decide +kernel
theorem dX12_part_134 : decode cX12_part 134 = .ok (.goto (-52), 3) := by decide +kernel
theorem dX12_part_137 : decode cX12_part 137 = .ok (.iinc 7 1, 3) := by decide +kernel
theorem dX12_part_140 : decode cX12_part 140 = .ok (.goto (-68), 3) := by decide +kernel
theorem dX12_part_143 : decode cX12_part 143 = .ok (.iinc 6 1, 3) := by decide +kernel
theorem dX12_part_146 : decode cX12_part 146 = .ok (.goto (-93), 3) := by decide +kernel
theorem dX12_part_149 : decode cX12_part 149 = .ok (.iconst (-1), 1) := by decide +kernel
theorem dX12_part_150 : decode cX12_part 150 = .ok (.ireturn, 1) := by decide +kernel
theorem dX12_nearYears_0 : decode cX12_nearYears 0 = .ok (.iconst 0, 1) := by decide +kernel
theorem dX12_nearYears_1 : decode cX12_nearYears 1 = .ok (.istore 5, 2) := by decide +kernel
theorem dX12_nearYears_3 : decode cX12_nearYears 3 = .ok (.iload 5, 2) := by decide +kernel
theorem dX12_nearYears_5 : decode cX12_nearYears 5 = .ok (.iload_n 3, 1) := by decide +kernel
theorem dX12_nearYears_6 : decode cX12_nearYears 6 = .ok (.if_icmp .ge 165, 3) := by decide +kernel
theorem dX12_nearYears_9 : decode cX12_nearYears 9 = .ok (.aload_n 0, 1) := by decide +kernel
theorem dX12_nearYears_10 : decode cX12_nearYears 10 = .ok (.iconst 0, 1) := by decide +kernel
theorem dX12_nearYears_11 : decode cX12_nearYears 11 = .ok (.putfield 306, 3) := by decide +kernel
theorem dX12_nearYears_14 : decode cX12_nearYears 14 = .ok (.aload_n 0, 1) := by decide +kernel
theorem dX12_nearYears_15 : decode cX12_nearYears 15 = .ok (.iconst 0, 1) := by decide +kernel
theorem dX12_nearYears_16 : decode cX12_nearYears 16 = .ok (.putfield 309, 3) := by decide +kernel
theorem dX12_nearYears_19 : decode cX12_nearYears 19 = .ok (.iconst 0, 1) := by decide +kernel
theorem dX12_nearYears_20 : decode cX12_nearYears 20 = .ok (.istore 6, 2) := by decide +kernel
theorem dX12_nearYears_22 : decode cX12_nearYears 22 = .ok (.iload 6, 2) := by decide +kernel
theorem dX12_nearYears_24 : decode cX12_nearYears 24 = .ok (.sipush 10001, 3) := by decide +kernel
theorem dX12_nearYears_27 : decode cX12_nearYears 27 = .ok (.if_icmp .ge 31, 3) := by decide +kernel
theorem dX12_nearYears_30 : decode cX12_nearYears 30 = .ok (.aload_n 0, 1) := by decide +kernel
theorem dX12_nearYears_31 : decode cX12_nearYears 31 = .ok (.getfield 82, 3) := by decide +kernel
theorem dX12_nearYears_34 : decode cX12_nearYears 34 = .ok (.ldc_w 405, 3) := by decide +kernel
theorem dX12_nearYears_37 : decode cX12_nearYears 37 = .ok (.iload 6, 2) := by decide +kernel
theorem dX12_nearYears_39 : decode cX12_nearYears 39 = .ok (.iadd, 1) := by decide +kernel
theorem dX12_nearYears_40 : decode cX12_nearYears 40 = .ok (.ldc2_w 321, 3) := by decide +kernel
theorem dX12_nearYears_43 : decode cX12_nearYears 43 = .ok (.lastore, 1) := by decide +kernel
theorem dX12_nearYears_44 : decode cX12_nearYears 44 = .ok (.aload_n 0, 1) := by decide +kernel
theorem dX12_nearYears_45 : decode cX12_nearYears 45 = .ok (.getfield 92, 3) := by decide +kernel
theorem dX12_nearYears_48 : decode cX12_nearYears 48 = .ok (.iload 6, 2) := by decide +kernel
theorem dX12_nearYears_50 : decode cX12_nearYears 50 = .ok (.iconst 0, 1) := by decide +kernel
theorem dX12_nearYears_51 : decode cX12_nearYears 51 = .ok (.bastore, 1) := by decide +kernel
theorem dX12_nearYears_52 : decode cX12_nearYears 52 = .ok (.iinc 6 1, 3) := by decide +kernel
theorem dX12_nearYears_55 : decode cX12_nearYears 55 = .ok (.goto (-33), 3) := by decide +kernel
theorem dX12_nearYears_58 : decode cX12_nearYears 58 = .ok (.aload_n 0, 1) := by decide +kernel
theorem dX12_nearYears_59 : decode cX12_nearYears 59 = .ok (.getfield 82, 3) := by decide +kernel
theorem dX12_nearYears_62 : decode cX12_nearYears 62 = .ok (.ldc_w 405, 3) := by decide +kernel
theorem dX12_nearYears_65 : decode cX12_nearYears 65 = .ok (.iload_n 2, 1) := by decide +kernel
theorem dX12_nearYears_66 : decode cX12_nearYears 66 = .ok (.iadd, 1) := by decide +kernel
theorem dX12_nearYears_67 : decode cX12_nearYears 67 = .ok (.iload 5, 2) := by decide +kernel
theorem dX12_nearYears_69 : decode cX12_nearYears 69 = .ok (.iadd, 1) := by decide +kernel
theorem dX12_nearYears_70 : decode cX12_nearYears 70 = .ok (.lconst 0, 1) := by decide +kernel
theorem dX12_nearYears_71 : decode cX12_nearYears 71 = .ok (.lastore, 1) := by decide +kernel
theorem dX12_nearYears_72 : decode cX12_nearYears 72 = .ok (.aload_n 0, 1) := by decide +kernel
theorem dX12_nearYears_73 : decode cX12_nearYears 73 = .ok (.iload_n 2, 1) := by decide +kernel
theorem dX12_nearYears_74 : decode cX12_nearYears 74 = .ok (.iload 5, 2) := by decide +kernel
theorem dX12_nearYears_76 : decode cX12_nearYears 76 = .ok (.iadd, 1) := by decide +kernel
theorem dX12_nearYears_77 : decode cX12_nearYears 77 = .ok (.invokevirtual 318, 3) := by decide +kernel
theorem dX12_nearYears_80 : decode cX12_nearYears 80 = .ok (.aload_n 0, 1) := by decide +kernel
theorem dX12_nearYears_81 : decode cX12_nearYears 81 = .ok (.iload_n 1, 1) := by decide +kernel
theorem dX12_nearYears_82 : decode cX12_nearYears 82 = .ok (.bipush 8, 2) := by decide +kernel
theorem dX12_nearYears_84 : decode cX12_nearYears 84 = .ok (.invokevirtual 326, 3) := by decide +kernel
theorem dX12_nearYears_87 : decode cX12_nearYears 87 = .ok (.aload_n 0, 1) := by decide +kernel
theorem dX12_nearYears_88 : decode cX12_nearYears 88 = .ok (.getfield 134, 3) := by decide +kernel
theorem dX12_nearYears_91 : decode cX12_nearYears 91 = .ok (.iload 5, 2) := by decide +kernel
theorem dX12_nearYears_93 : decode cX12_nearYears 93 = .ok (.iconst 0, 1) := by decide +kernel
theorem dX12_nearYears_94 : decode cX12_nearYears 94 = .ok (.iastore, 1) := by decide +kernel
theorem dX12_nearYears_95 : decode cX12_nearYears 95 = .ok (.iconst 0, 1) := by decide +kernel
theorem dX12_nearYears_96 : decode cX12_nearYears 96 = .ok (.istore 6, 2) := by decide +kernel
theorem dX12_nearYears_98 : decode cX12_nearYears 98 = .ok (.iload 6, 2) := by decide +kernel
theorem dX12_nearYears_100 : decode cX12_nearYears 100 = .ok (.iload_n 3, 1) := by decide +kernel
theorem dX12_nearYears_101 : decode cX12_nearYears 101 = .ok (.if_icmp .ge 64, 3) := by decide +kernel
theorem dX12_nearYears_104 : decode cX12_nearYears 104 = .ok (.aload_n 0, 1) := by decide +kernel
theorem dX12_nearYears_105 : decode cX12_nearYears 105 = .ok (.getfield 82, 3) := by decide +kernel
theorem dX12_nearYears_108 : decode cX12_nearYears 108 = .ok (.ldc_w 405, 3) := by decide +kernel
theorem dX12_nearYears_111 : decode cX12_nearYears 111 = .ok (.iload_n 2, 1) := by decide +kernel
theorem dX12_nearYears_112 : decode cX12_nearYears 112 = .ok (.iadd, 1) := by decide +kernel
theorem dX12_nearYears_113 : decode cX12_nearYears 113 = .ok (.iload 6, 2) := by decide +kernel
theorem dX12_nearYears_115 : decode cX12_nearYears 115 = .ok (.iadd, 1) := by decide +kernel
theorem dX12_nearYears_116 : decode cX12_nearYears 116 = .ok (.laload, 1) := by decide +kernel
theorem dX12_nearYears_117 : decode cX12_nearYears 117 = .ok (.lstore 7, 2) := by decide +kernel
theorem dX12_nearYears_119 : decode cX12_nearYears 119 = .ok (.aload_n 0, 1) := by decide +kernel
theorem dX12_nearYears_120 : decode cX12_nearYears 120 = .ok (.getfield 134, 3) := by decide +kernel
theorem dX12_nearYears_123 : decode cX12_nearYears 123 = .ok (.iload 5, 2) := by decide +kernel
theorem dX12_nearYears_125 : decode cX12_nearYears 125 = .ok (.dup2, 1) := by decide +kernel
theorem dX12_nearYears_126 : decode cX12_nearYears 126 = .ok (.iaload, 1) := by decide +kernel
theorem dX12_nearYears_127 : decode cX12_nearYears 127 = .ok (.lload 7, 2) := by decide +kernel
theorem dX12_nearYears_129 : decode cX12_nearYears 129 = .ok (.ldc2_w 321, 3) := by decide +kernel
theorem dX12_nearYears_132 : decode cX12_nearYears 132 = .ok (.lcmp, 1) := by decide +kernel
theorem dX12_nearYears_133 : decode cX12_nearYears 133 = .ok (.ifCond .ge 23, 3) := by decide +kernel
theorem dX12_nearYears_136 : decode cX12_nearYears 136 = .ok (.lload 7, 2) := by decide +kernel
theorem dX12_nearYears_138 : decode cX12_nearYears 138 = .ok (.ldc2_w 316, 3) := by decide +kernel
theorem dX12_nearYears_141 : decode cX12_nearYears 141 = .ok (.ldiv, 1) := by decide +kernel
theorem dX12_nearYears_142 : decode cX12_nearYears 142 = .ok (.iload 4, 2) := by decide +kernel
theorem dX12_nearYears_144 : decode cX12_nearYears 144 = .ok (.i2l, 1) := by decide +kernel
theorem dX12_nearYears_145 : decode cX12_nearYears 145 = .ok (.lcmp, 1) := by decide +kernel
theorem dX12_nearYears_146 : decode cX12_nearYears 146 = .ok (.ifCond .gt 10, 3) := by decide +kernel
theorem dX12_nearYears_149 : decode cX12_nearYears 149 = .ok (.iconst 1, 1) := by decide +kernel
theorem dX12_nearYears_150 : decode cX12_nearYears 150 = .ok (.iload 6, 2) := by decide +kernel
theorem dX12_nearYears_152 : decode cX12_nearYears 152 = .ok (.ishl, 1) := by decide +kernel
theorem dX12_nearYears_153 : decode cX12_nearYears 153 = .ok (.goto 4, 3) := by decide +kernel
theorem dX12_nearYears_156 : decode cX12_nearYears 156 = .ok (.iconst 0, 1) := by decide +kernel
theorem dX12_nearYears_157 : decode cX12_nearYears 157 = .ok (.ior, 1) := by decide +kernel
theorem dX12_nearYears_158 : decode cX12_nearYears 158 = .ok (.iastore, 1) := by decide +kernel
theorem dX12_nearYears_159 : decode cX12_nearYears 159 = .ok (.iinc 6 1, 3) := by decide +kernel
theorem dX12_nearYears_162 : decode cX12_nearYears 162 = .ok (.goto (-64), 3) := by decide +kernel
theorem dX12_nearYears_165 : decode cX12_nearYears 165 = .ok (.iinc 5 1, 3) := by decide +kernel
theorem dX12_nearYears_168 : decode cX12_nearYears 168 = .ok (.goto (-165), 3) := by decide +kernel
theorem dX12_nearYears_171 : decode cX12_nearYears 171 = .ok (.return_, 1) := by decide +kernel
theorem dX12_doAll_0 : decode cX12_doAll 0 = .ok (.iconst 0, 1) := by decide +kernel
theorem dX12_doAll_1 : decode cX12_doAll 1 = .ok (.istore_n 3, 1) := by decide +kernel
theorem dX12_doAll_2 : decode cX12_doAll 2 = .ok (.iload_n 3, 1) := by decide +kernel
theorem dX12_doAll_3 : decode cX12_doAll 3 = .ok (.iload_n 2, 1) := by decide +kernel
theorem dX12_doAll_4 : decode cX12_doAll 4 = .ok (.if_icmp .ge 22, 3) := by decide +kernel
theorem dX12_doAll_7 : decode cX12_doAll 7 = .ok (.aload_n 0, 1) := by decide +kernel
theorem dX12_doAll_8 : decode cX12_doAll 8 = .ok (.getfield 134, 3) := by decide +kernel
theorem dX12_doAll_11 : decode cX12_doAll 11 = .ok (.iload_n 3, 1) := by decide +kernel
theorem dX12_doAll_12 : decode cX12_doAll 12 = .ok (.iaload, 1) := by decide +kernel
theorem dX12_doAll_13 : decode cX12_doAll 13 = .ok (.iload_n 1, 1) := by decide +kernel
theorem dX12_doAll_14 : decode cX12_doAll 14 = .ok (.iand, 1) := by decide +kernel
theorem dX12_doAll_15 : decode cX12_doAll 15 = .ok (.ifCond .ne 5, 3) := by decide +kernel
theorem dX12_doAll_18 : decode cX12_doAll 18 = .ok (.iconst 0, 1) := by decide +kernel
theorem dX12_doAll_19 : decode cX12_doAll 19 = .ok (.ireturn, 1) := by decide +kernel
theorem dX12_doAll_20 : decode cX12_doAll 20 = .ok (.iinc 3 1, 3) := by decide +kernel
theorem dX12_doAll_23 : decode cX12_doAll 23 = .ok (.goto (-21), 3) := by decide +kernel
theorem dX12_doAll_26 : decode cX12_doAll 26 = .ok (.iconst 1, 1) := by decide +kernel
theorem dX12_doAll_27 : decode cX12_doAll 27 = .ok (.ireturn, 1) := by decide +kernel
theorem dX12_least_0 : decode cX12_least 0 = .ok (.aload_n 0, 1) := by decide +kernel
theorem dX12_least_1 : decode cX12_least 1 = .ok (.iload_n 1, 1) := by decide +kernel
theorem dX12_least_2 : decode cX12_least 2 = .ok (.invokevirtual 344, 3) := by decide +kernel
theorem dX12_least_5 : decode cX12_least 5 = .ok (.ifCond .eq 57, 3) := by decide +kernel
theorem dX12_least_8 : decode cX12_least 8 = .ok (.iload_n 2, 1) := by decide +kernel
theorem dX12_least_9 : decode cX12_least 9 = .ok (.iconst 1, 1) := by decide +kernel
theorem dX12_least_10 : decode cX12_least 10 = .ok (.sipush 9999, 3) := by decide +kernel
theorem dX12_least_13 : decode cX12_least 13 = .ok (.invokestatic 186, 3) := by decide +kernel
theorem dX12_least_16 : decode cX12_least 16 = .ok (.ifCond .eq 46, 3) := by decide +kernel
theorem dX12_least_19 : decode cX12_least 19 = .ok (.iload_n 3, 1) := by decide +kernel
theorem dX12_least_20 : decode cX12_least 20 = .ok (.iconst 1, 1) := by decide +kernel
theorem dX12_least_21 : decode cX12_least 21 = .ok (.bipush 14, 2) := by decide +kernel
theorem dX12_least_23 : decode cX12_least 23 = .ok (.invokestatic 186, 3) := by decide +kernel
theorem dX12_least_26 : decode cX12_least 26 = .ok (.ifCond .eq 36, 3) := by decide +kernel
theorem dX12_least_29 : decode cX12_least 29 = .ok (.iload_n 2, 1) := by decide +kernel
theorem dX12_least_30 : decode cX12_least 30 = .ok (.iload_n 3, 1) := by decide +kernel
theorem dX12_least_31 : decode cX12_least 31 = .ok (.iadd, 1) := by decide +kernel
theorem dX12_least_32 : decode cX12_least 32 = .ok (.iconst 1, 1) := by decide +kernel
theorem dX12_least_33 : decode cX12_least 33 = .ok (.isub, 1) := by decide +kernel
theorem dX12_least_34 : decode cX12_least 34 = .ok (.sipush 9999, 3) := by decide +kernel
theorem dX12_least_37 : decode cX12_least 37 = .ok (.if_icmp .gt 25, 3) := by decide +kernel
theorem dX12_least_40 : decode cX12_least 40 = .ok (.iload 4, 2) := by decide +kernel
theorem dX12_least_42 : decode cX12_least 42 = .ok (.iconst 0, 1) := by decide +kernel
theorem dX12_least_43 : decode cX12_least 43 = .ok (.sipush 999, 3) := by decide +kernel
theorem dX12_least_46 : decode cX12_least 46 = .ok (.invokestatic 186, 3) := by decide +kernel
theorem dX12_least_49 : decode cX12_least 49 = .ok (.ifCond .eq 13, 3) := by decide +kernel
theorem dX12_least_52 : decode cX12_least 52 = .ok (.iload 5, 2) := by decide +kernel
theorem dX12_least_54 : decode cX12_least 54 = .ok (.iconst 0, 1) := by decide +kernel
theorem dX12_least_55 : decode cX12_least 55 = .ok (.iconst 1, 1) := by decide +kernel
theorem dX12_least_56 : decode cX12_least 56 = .ok (.invokestatic 186, 3) := by decide +kernel
theorem dX12_least_59 : decode cX12_least 59 = .ok (.ifCond .ne 5, 3) := by decide +kernel
theorem dX12_least_62 : decode cX12_least 62 = .ok (.iconst (-1), 1) := by decide +kernel
theorem dX12_least_63 : decode cX12_least 63 = .ok (.ireturn, 1) := by decide +kernel
theorem dX12_least_64 : decode cX12_least 64 = .ok (.aload_n 0, 1) := by decide +kernel
theorem dX12_least_65 : decode cX12_least 65 = .ok (.iload_n 1, 1) := by decide +kernel
theorem dX12_least_66 : decode cX12_least 66 = .ok (.iload_n 2, 1) := by decide +kernel
theorem dX12_least_67 : decode cX12_least 67 = .ok (.iload_n 3, 1) := by decide +kernel
theorem dX12_least_68 : decode cX12_least 68 = .ok (.iload 4, 2) := by decide +kernel
theorem dX12_least_70 : decode cX12_least 70 = .ok (.invokevirtual 406, 3) := by decide +kernel
theorem dX12_least_73 : decode cX12_least 73 = .ok (.iconst 1, 1) := by decide +kernel
theorem dX12_least_74 : decode cX12_least 74 = .ok (.iload_n 3, 1) := by decide +kernel
theorem dX12_least_75 : decode cX12_least 75 = .ok (.ishl, 1) := by decide +kernel
theorem dX12_least_76 : decode cX12_least 76 = .ok (.iconst 1, 1) := by decide +kernel
theorem dX12_least_77 : decode cX12_least 77 = .ok (.isub, 1) := by decide +kernel
theorem dX12_least_78 : decode cX12_least 78 = .ok (.istore 6, 2) := by decide +kernel
theorem dX12_least_80 : decode cX12_least 80 = .ok (.iconst 1, 1) := by decide +kernel
theorem dX12_least_81 : decode cX12_least 81 = .ok (.istore 7, 2) := by decide +kernel
theorem dX12_least_83 : decode cX12_least 83 = .ok (.iload 7, 2) := by decide +kernel
theorem dX12_least_85 : decode cX12_least 85 = .ok (.iconst 1, 1) := by decide +kernel
theorem dX12_least_86 : decode cX12_least 86 = .ok (.iload_n 3, 1) := by decide +kernel
theorem dX12_least_87 : decode cX12_least 87 = .ok (.ishl, 1) := by decide +kernel
theorem dX12_least_88 : decode cX12_least 88 = .ok (.if_icmp .ge 65, 3) := by decide +kernel
theorem dX12_least_91 : decode cX12_least 91 = .ok (.iload 6, 2) := by decide +kernel
theorem dX12_least_93 : decode cX12_least 93 = .ok (.invokestatic 409, 3) := by decide +kernel
theorem dX12_least_96 : decode cX12_least 96 = .ok (.iload 7, 2) := by decide +kernel
theorem dX12_least_98 : decode cX12_least 98 = .ok (.invokestatic 409, 3) := by decide +kernel
theorem dX12_least_101 : decode cX12_least 101 = .ok (.isub, 1) := by decide +kernel
theorem dX12_least_102 : decode cX12_least 102 = .ok (.istore 8, 2) := by decide +kernel
theorem dX12_least_104 : decode cX12_least 104 = .ok (.iload 6, 2) := by decide +kernel
theorem dX12_least_106 : decode cX12_least 106 = .ok (.iload 7, 2) := by decide +kernel
theorem dX12_least_108 : decode cX12_least 108 = .ok (.ixor, 1) := by decide +kernel
theorem dX12_least_109 : decode cX12_least 109 = .ok (.istore 9, 2) := by decide +kernel
theorem dX12_least_111 : decode cX12_least 111 = .ok (.iload 8, 2) := by decide +kernel
theorem dX12_least_113 : decode cX12_least 113 = .ok (.ifCond .gt 20, 3) := by decide +kernel
theorem dX12_least_116 : decode cX12_least 116 = .ok (.iload 8, 2) := by decide +kernel
theorem dX12_least_118 : decode cX12_least 118 = .ok (.ifCond .ne 29, 3) := by decide +kernel
theorem dX12_least_121 : decode cX12_least 121 = .ok (.iload 7, 2) := by decide +kernel
theorem dX12_least_123 : decode cX12_least 123 = .ok (.iload 9, 2) := by decide +kernel
theorem dX12_least_125 : decode cX12_least 125 = .ok (.iand, 1) := by decide +kernel
theorem dX12_least_126 : decode cX12_least 126 = .ok (.iload 9, 2) := by decide +kernel
theorem dX12_least_128 : decode cX12_least 128 = .ok (.ineg, 1) := by decide +kernel
theorem dX12_least_129 : decode cX12_least 129 = .ok (.iand, 1) := by decide +kernel
theorem dX12_least_130 : decode cX12_least 130 = .ok (.ifCond .eq 17, 3) := by decide +kernel
theorem dX12_least_133 : decode cX12_least 133 = .ok (.aload_n 0, 1) := by decide +kernel
theorem dX12_least_134 : decode cX12_least 134 = .ok (.iload 7, 2) := by decide +kernel
theorem dX12_least_136 : decode cX12_least 136 = .ok (.iload_n 3, 1) := by decide +kernel
theorem dX12_least_137 : decode cX12_least 137 = .ok (.invokevirtual 412, 3) := by decide +kernel
theorem dX12_least_140 : decode cX12_least 140 = .ok (.ifCond .eq 7, 3) := by decide +kernel
theorem dX12_least_143 : decode cX12_least 143 = .ok (.iload 7, 2) := by decide +kernel
theorem dX12_least_145 : decode cX12_least 145 = .ok (.istore 6, 2) := by decide +kernel
theorem dX12_least_147 : decode cX12_least 147 = .ok (.iinc 7 1, 3) := by decide +kernel
theorem dX12_least_150 : decode cX12_least 150 = .ok (.goto (-67), 3) := by decide +kernel
theorem dX12_least_153 : decode cX12_least 153 = .ok (.iload 5, 2) := by decide +kernel
theorem dX12_least_155 : decode cX12_least 155 = .ok (.ifCond .ne 11, 3) := by decide +kernel
theorem dX12_least_158 : decode cX12_least 158 = .ok (.iload 6, 2) := by decide +kernel
theorem dX12_least_160 : decode cX12_least 160 = .ok (.invokestatic 409, 3) := by decide +kernel
theorem dX12_least_163 : decode cX12_least 163 = .ok (.goto 5, 3) := by decide +kernel
theorem dX12_least_166 : decode cX12_least 166 = .ok (.iload 6, 2) := by decide +kernel
theorem dX12_least_168 : decode cX12_least 168 = .ok (.ireturn, 1) := by decide +kernel
theorem dX12_like_0 : decode cX12_like 0 = .ok (.aload_n 0, 1) := by decide +kernel
theorem dX12_like_1 : decode cX12_like 1 = .ok (.iload_n 1, 1) := by decide +kernel
theorem dX12_like_2 : decode cX12_like 2 = .ok (.invokevirtual 280, 3) := by decide +kernel
theorem dX12_like_5 : decode cX12_like 5 = .ok (.ifCond .eq 18, 3) := by decide +kernel
theorem dX12_like_8 : decode cX12_like 8 = .ok (.iload_n 2, 1) := by decide +kernel
theorem dX12_like_9 : decode cX12_like 9 = .ok (.iconst 1, 1) := by decide +kernel
theorem dX12_like_10 : decode cX12_like 10 = .ok (.sipush 9999, 3) := by decide +kernel
theorem dX12_like_13 : decode cX12_like 13 = .ok (.invokestatic 186, 3) := by decide +kernel
theorem dX12_like_16 : decode cX12_like 16 = .ok (.ifCond .eq 7, 3) := by decide +kernel
theorem dX12_like_19 : decode cX12_like 19 = .ok (.iload_n 3, 1) := by decide +kernel
theorem dX12_like_20 : decode cX12_like 20 = .ok (.ifCond .ge 5, 3) := by decide +kernel
theorem dX12_like_23 : decode cX12_like 23 = .ok (.iconst (-1), 1) := by decide +kernel
theorem dX12_like_24 : decode cX12_like 24 = .ok (.ireturn, 1) := by decide +kernel
theorem dX12_like_25 : decode cX12_like 25 = .ok (.aload_n 0, 1) := by decide +kernel
theorem dX12_like_26 : decode cX12_like 26 = .ok (.iload_n 1, 1) := by decide +kernel
theorem dX12_like_27 : decode cX12_like 27 = .ok (.iload_n 2, 1) := by decide +kernel
theorem dX12_like_28 : decode cX12_like 28 = .ok (.invokevirtual 303, 3) := by decide +kernel
theorem dX12_like_31 : decode cX12_like 31 = .ok (.istore 4, 2) := by decide +kernel
theorem dX12_like_33 : decode cX12_like 33 = .ok (.iconst 0, 1) := by decide +kernel
theorem dX12_like_34 : decode cX12_like 34 = .ok (.istore 5, 2) := by decide +kernel
theorem dX12_like_36 : decode cX12_like 36 = .ok (.iload_n 2, 1) := by decide +kernel
theorem dX12_like_37 : decode cX12_like 37 = .ok (.iconst 1, 1) := by decide +kernel
theorem dX12_like_38 : decode cX12_like 38 = .ok (.iadd, 1) := by decide +kernel
theorem dX12_like_39 : decode cX12_like 39 = .ok (.istore 6, 2) := by decide +kernel
theorem dX12_like_41 : decode cX12_like 41 = .ok (.iload 6, 2) := by decide +kernel
theorem dX12_like_43 : decode cX12_like 43 = .ok (.sipush 9999, 3) := by decide +kernel
theorem dX12_like_46 : decode cX12_like 46 = .ok (.if_icmp .gt 39, 3) := by decide +kernel
theorem dX12_like_49 : decode cX12_like 49 = .ok (.iload 4, 2) := by decide +kernel
theorem dX12_like_51 : decode cX12_like 51 = .ok (.iconst (-1), 1) := by decide +kernel
theorem dX12_like_52 : decode cX12_like 52 = .ok (.if_icmp .eq 33, 3) := by decide +kernel
theorem dX12_like_55 : decode cX12_like 55 = .ok (.aload_n 0, 1) := by decide +kernel
theorem dX12_like_56 : decode cX12_like 56 = .ok (.iload_n 1, 1) := by decide +kernel
theorem dX12_like_57 : decode cX12_like 57 = .ok (.iload 6, 2) := by decide +kernel
theorem dX12_like_59 : decode cX12_like 59 = .ok (.invokevirtual 303, 3) := by decide +kernel
theorem dX12_like_62 : decode cX12_like 62 = .ok (.iload 4, 2) := by decide +kernel
theorem dX12_like_64 : decode cX12_like 64 = .ok (.if_icmp .ne 15, 3) := by decide +kernel
theorem dX12_like_67 : decode cX12_like 67 = .ok (.iload 5, 2) := by decide +kernel
theorem dX12_like_69 : decode cX12_like 69 = .ok (.iload_n 3, 1) := by decide +kernel
theorem dX12_like_70 : decode cX12_like 70 = .ok (.if_icmp .ne 6, 3) := by decide +kernel
theorem dX12_like_73 : decode cX12_like 73 = .ok (.iload 6, 2) := by decide +kernel
theorem dX12_like_75 : decode cX12_like 75 = .ok (.ireturn, 1) := by decide +kernel
theorem dX12_like_76 : decode cX12_like 76 = .ok (.iinc 5 1, 3) := by decide +kernel
theorem dX12_like_79 : decode cX12_like 79 = .ok (.iinc 6 1, 3) := by decide +kernel
theorem dX12_like_82 : decode cX12_like 82 = .ok (.goto (-41), 3) := by decide +kernel
theorem dX12_like_85 : decode cX12_like 85 = .ok (.iconst (-1), 1) := by decide +kernel
theorem dX12_like_86 : decode cX12_like 86 = .ok (.ireturn, 1) := by decide +kernel
theorem dX12_thirteenths_0 : decode cX12_thirteenths 0 = .ok (.aload_n 0, 1) := by decide +kernel
theorem dX12_thirteenths_1 : decode cX12_thirteenths 1 = .ok (.iload_n 1, 1) := by decide +kernel
theorem dX12_thirteenths_2 : decode cX12_thirteenths 2 = .ok (.invokevirtual 280, 3) := by decide +kernel
theorem dX12_thirteenths_5 : decode cX12_thirteenths 5 = .ok (.ifCond .eq 36, 3) := by decide +kernel
theorem dX12_thirteenths_8 : decode cX12_thirteenths 8 = .ok (.iload_n 2, 1) := by decide +kernel
theorem dX12_thirteenths_9 : decode cX12_thirteenths 9 = .ok (.iconst 1, 1) := by decide +kernel
theorem dX12_thirteenths_10 : decode cX12_thirteenths 10 = .ok (.sipush 9999, 3) := by decide +kernel
theorem dX12_thirteenths_13 : decode cX12_thirteenths 13 = .ok (.invokestatic 186, 3) := by decide +kernel
theorem dX12_thirteenths_16 : decode cX12_thirteenths 16 = .ok (.ifCond .eq 25, 3) := by decide +kernel
theorem dX12_thirteenths_19 : decode cX12_thirteenths 19 = .ok (.iload_n 3, 1) := by decide +kernel
theorem dX12_thirteenths_20 : decode cX12_thirteenths 20 = .ok (.iload_n 2, 1) := by decide +kernel
theorem dX12_thirteenths_21 : decode cX12_thirteenths 21 = .ok (.sipush 9999, 3) := by decide +kernel
theorem dX12_thirteenths_24 : decode cX12_thirteenths 24 = .ok (.invokestatic 186, 3) := by decide +kernel
theorem dX12_thirteenths_27 : decode cX12_thirteenths 27 = .ok (.ifCond .eq 14, 3) := by decide +kernel
theorem dX12_thirteenths_30 : decode cX12_thirteenths 30 = .ok (.iload 4, 2) := by decide +kernel
theorem dX12_thirteenths_32 : decode cX12_thirteenths 32 = .ok (.iconst 0, 1) := by decide +kernel
theorem dX12_thirteenths_33 : decode cX12_thirteenths 33 = .ok (.bipush 6, 2) := by decide +kernel
theorem dX12_thirteenths_35 : decode cX12_thirteenths 35 = .ok (.invokestatic 186, 3) := by decide +kernel
theorem dX12_thirteenths_38 : decode cX12_thirteenths 38 = .ok (.ifCond .ne 5, 3) := by decide +kernel
theorem dX12_thirteenths_41 : decode cX12_thirteenths 41 = .ok (.iconst (-1), 1) := by decide +kernel
theorem dX12_thirteenths_42 : decode cX12_thirteenths 42 = .ok (.ireturn, 1) := by decide +kernel
theorem dX12_thirteenths_43 : decode cX12_thirteenths 43 = .ok (.iconst 0, 1) := by decide +kernel
theorem dX12_thirteenths_44 : decode cX12_thirteenths 44 = .ok (.istore 5, 2) := by decide +kernel
theorem dX12_thirteenths_46 : decode cX12_thirteenths 46 = .ok (.iload_n 2, 1) := by decide +kernel
theorem dX12_thirteenths_47 : decode cX12_thirteenths 47 = .ok (.istore 6, 2) := by decide +kernel
theorem dX12_thirteenths_49 : decode cX12_thirteenths 49 = .ok (.iload 6, 2) := by decide +kernel
theorem dX12_thirteenths_51 : decode cX12_thirteenths 51 = .ok (.iload_n 3, 1) := by decide +kernel
theorem dX12_thirteenths_52 : decode cX12_thirteenths 52 = .ok (.if_icmp .gt 68, 3) := by decide +kernel
theorem dX12_thirteenths_55 : decode cX12_thirteenths 55 = .ok (.iconst 1, 1) := by decide +kernel
theorem dX12_thirteenths_56 : decode cX12_thirteenths 56 = .ok (.istore 7, 2) := by decide +kernel
theorem dX12_thirteenths_58 : decode cX12_thirteenths 58 = .ok (.iload 7, 2) := by decide +kernel
theorem dX12_thirteenths_60 : decode cX12_thirteenths 60 = .ok (.bipush 12, 2) := by decide +kernel
theorem dX12_thirteenths_62 : decode cX12_thirteenths 62 = .ok (.if_icmp .gt 52, 3) := by decide +kernel
theorem dX12_thirteenths_65 : decode cX12_thirteenths 65 = .ok (.iload 5, 2) := by decide +kernel
theorem dX12_thirteenths_67 : decode cX12_thirteenths 67 = .ok (.aload_n 0, 1) := by decide +kernel
theorem dX12_thirteenths_68 : decode cX12_thirteenths 68 = .ok (.iload_n 1, 1) := by decide +kernel
theorem dX12_thirteenths_69 : decode cX12_thirteenths 69 = .ok (.iload 6, 2) := by decide +kernel
theorem dX12_thirteenths_71 : decode cX12_thirteenths 71 = .ok (.iload 7, 2) := by decide +kernel
theorem dX12_thirteenths_73 : decode cX12_thirteenths 73 = .ok (.bipush 13, 2) := by decide +kernel
theorem dX12_thirteenths_75 : decode cX12_thirteenths 75 = .ok (.invokevirtual 287, 3) := by decide +kernel
theorem dX12_thirteenths_78 : decode cX12_thirteenths 78 = .ok (.ifCond .eq 26, 3) := by decide +kernel
theorem dX12_thirteenths_81 : decode cX12_thirteenths 81 = .ok (.aload_n 0, 1) := by decide +kernel
theorem dX12_thirteenths_82 : decode cX12_thirteenths 82 = .ok (.iload_n 1, 1) := by decide +kernel
theorem dX12_thirteenths_83 : decode cX12_thirteenths 83 = .ok (.iload 6, 2) := by decide +kernel
theorem dX12_thirteenths_85 : decode cX12_thirteenths 85 = .ok (.iload 7, 2) := by decide +kernel
theorem dX12_thirteenths_87 : decode cX12_thirteenths 87 = .ok (.bipush 13, 2) := by decide +kernel
theorem dX12_thirteenths_89 : decode cX12_thirteenths 89 = .ok (.invokevirtual 291, 3) := by decide +kernel
theorem dX12_thirteenths_92 : decode cX12_thirteenths 92 = .ok (.bipush 7, 2) := by decide +kernel
theorem dX12_thirteenths_94 : decode cX12_thirteenths 94 = .ok (.irem, 1) := by decide +kernel
theorem dX12_thirteenths_95 : decode cX12_thirteenths 95 = .ok (.iload 4, 2) := by decide +kernel
theorem dX12_thirteenths_97 : decode cX12_thirteenths 97 = .ok (.if_icmp .ne 7, 3) := by decide +kernel
theorem dX12_thirteenths_100 : decode cX12_thirteenths 100 = .ok (.iconst 1, 1) := by decide +kernel
theorem dX12_thirteenths_101 : decode cX12_thirteenths 101 = .ok (.goto 4, 3) := by decide +kernel
theorem dX12_thirteenths_104 : decode cX12_thirteenths 104 = .ok (.iconst 0, 1) := by decide +kernel
theorem dX12_thirteenths_105 : decode cX12_thirteenths 105 = .ok (.iadd, 1) := by decide +kernel
theorem dX12_thirteenths_106 : decode cX12_thirteenths 106 = .ok (.istore 5, 2) := by decide +kernel
theorem dX12_thirteenths_108 : decode cX12_thirteenths 108 = .ok (.iinc 7 1, 3) := by decide +kernel
theorem dX12_thirteenths_111 : decode cX12_thirteenths 111 = .ok (.goto (-53), 3) := by decide +kernel
theorem dX12_thirteenths_114 : decode cX12_thirteenths 114 = .ok (.iinc 6 1, 3) := by decide +kernel
theorem dX12_thirteenths_117 : decode cX12_thirteenths 117 = .ok (.goto (-68), 3) := by decide +kernel
theorem dX12_thirteenths_120 : decode cX12_thirteenths 120 = .ok (.iload 5, 2) := by decide +kernel
theorem dX12_thirteenths_122 : decode cX12_thirteenths 122 = .ok (.ireturn, 1) := by decide +kernel
theorem dX12_mates_0 : decode cX12_mates 0 = .ok (.aload_n 0, 1) := by decide +kernel
theorem dX12_mates_1 : decode cX12_mates 1 = .ok (.iload_n 1, 1) := by decide +kernel
theorem dX12_mates_2 : decode cX12_mates 2 = .ok (.iload_n 2, 1) := by decide +kernel
theorem dX12_mates_3 : decode cX12_mates 3 = .ok (.iload_n 3, 1) := by decide +kernel
theorem dX12_mates_4 : decode cX12_mates 4 = .ok (.iconst 1, 1) := by decide +kernel
theorem dX12_mates_5 : decode cX12_mates 5 = .ok (.invokevirtual 287, 3) := by decide +kernel
theorem dX12_mates_8 : decode cX12_mates 8 = .ok (.ifCond .ne 5, 3) := by decide +kernel
theorem dX12_mates_11 : decode cX12_mates 11 = .ok (.iconst (-1), 1) := by decide +kernel
theorem dX12_mates_12 : decode cX12_mates 12 = .ok (.ireturn, 1) := by decide +kernel
theorem dX12_mates_13 : decode cX12_mates 13 = .ok (.iconst 0, 1) := by decide +kernel
theorem dX12_mates_14 : decode cX12_mates 14 = .ok (.istore 4, 2) := by decide +kernel
theorem dX12_mates_16 : decode cX12_mates 16 = .ok (.iconst 1, 1) := by decide +kernel
theorem dX12_mates_17 : decode cX12_mates 17 = .ok (.istore 5, 2) := by decide +kernel
theorem dX12_mates_19 : decode cX12_mates 19 = .ok (.iload 5, 2) := by decide +kernel
theorem dX12_mates_21 : decode cX12_mates 21 = .ok (.bipush 12, 2) := by decide +kernel
theorem dX12_mates_23 : decode cX12_mates 23 = .ok (.if_icmp .gt 62, 3) := by decide +kernel
theorem dX12_mates_26 : decode cX12_mates 26 = .ok (.iload 4, 2) := by decide +kernel
theorem dX12_mates_28 : decode cX12_mates 28 = .ok (.aload_n 0, 1) := by decide +kernel
theorem dX12_mates_29 : decode cX12_mates 29 = .ok (.iload_n 1, 1) := by decide +kernel
theorem dX12_mates_30 : decode cX12_mates 30 = .ok (.iload_n 2, 1) := by decide +kernel
theorem dX12_mates_31 : decode cX12_mates 31 = .ok (.iload 5, 2) := by decide +kernel
theorem dX12_mates_33 : decode cX12_mates 33 = .ok (.iconst 1, 1) := by decide +kernel
theorem dX12_mates_34 : decode cX12_mates 34 = .ok (.invokevirtual 287, 3) := by decide +kernel
theorem dX12_mates_37 : decode cX12_mates 37 = .ok (.ifCond .eq 38, 3) := by decide +kernel
theorem dX12_mates_40 : decode cX12_mates 40 = .ok (.aload_n 0, 1) := by decide +kernel
theorem dX12_mates_41 : decode cX12_mates 41 = .ok (.iload_n 1, 1) := by decide +kernel
theorem dX12_mates_42 : decode cX12_mates 42 = .ok (.iload_n 2, 1) := by decide +kernel
theorem dX12_mates_43 : decode cX12_mates 43 = .ok (.iload 5, 2) := by decide +kernel
theorem dX12_mates_45 : decode cX12_mates 45 = .ok (.iconst 1, 1) := by decide +kernel
theorem dX12_mates_46 : decode cX12_mates 46 = .ok (.invokevirtual 291, 3) := by decide +kernel
theorem dX12_mates_49 : decode cX12_mates 49 = .ok (.bipush 7, 2) := by decide +kernel
theorem dX12_mates_51 : decode cX12_mates 51 = .ok (.irem, 1) := by decide +kernel
theorem dX12_mates_52 : decode cX12_mates 52 = .ok (.aload_n 0, 1) := by decide +kernel
theorem dX12_mates_53 : decode cX12_mates 53 = .ok (.iload_n 1, 1) := by decide +kernel
theorem dX12_mates_54 : decode cX12_mates 54 = .ok (.iload_n 2, 1) := by decide +kernel
theorem dX12_mates_55 : decode cX12_mates 55 = .ok (.iload_n 3, 1) := by decide +kernel
theorem dX12_mates_56 : decode cX12_mates 56 = .ok (.iconst 1, 1) := by decide +kernel
theorem dX12_mates_57 : decode cX12_mates 57 = .ok (.invokevirtual 291, 3) := by decide +kernel
theorem dX12_mates_60 : decode cX12_mates 60 = .ok (.bipush 7, 2) := by decide +kernel
theorem dX12_mates_62 : decode cX12_mates 62 = .ok (.irem, 1) := by decide +kernel
theorem dX12_mates_63 : decode cX12_mates 63 = .ok (.if_icmp .ne 12, 3) := by decide +kernel
theorem dX12_mates_66 : decode cX12_mates 66 = .ok (.iconst 1, 1) := by decide +kernel
theorem dX12_mates_67 : decode cX12_mates 67 = .ok (.iload 5, 2) := by decide +kernel
theorem dX12_mates_69 : decode cX12_mates 69 = .ok (.iconst 1, 1) := by decide +kernel
theorem dX12_mates_70 : decode cX12_mates 70 = .ok (.isub, 1) := by decide +kernel
theorem dX12_mates_71 : decode cX12_mates 71 = .ok (.ishl, 1) := by decide +kernel
theorem dX12_mates_72 : decode cX12_mates 72 = .ok (.goto 4, 3) := by decide +kernel
theorem dX12_mates_75 : decode cX12_mates 75 = .ok (.iconst 0, 1) := by decide +kernel
theorem dX12_mates_76 : decode cX12_mates 76 = .ok (.ior, 1) := by decide +kernel
theorem dX12_mates_77 : decode cX12_mates 77 = .ok (.istore 4, 2) := by decide +kernel
theorem dX12_mates_79 : decode cX12_mates 79 = .ok (.iinc 5 1, 3) := by decide +kernel
theorem dX12_mates_82 : decode cX12_mates 82 = .ok (.goto (-63), 3) := by decide +kernel
theorem dX12_mates_85 : decode cX12_mates 85 = .ok (.iload 4, 2) := by decide +kernel
theorem dX12_mates_87 : decode cX12_mates 87 = .ok (.ireturn, 1) := by decide +kernel
theorem dX12_born_0 : decode cX12_born 0 = .ok (.aload_n 0, 1) := by decide +kernel
theorem dX12_born_1 : decode cX12_born 1 = .ok (.iload_n 1, 1) := by decide +kernel
theorem dX12_born_2 : decode cX12_born 2 = .ok (.iload_n 2, 1) := by decide +kernel
theorem dX12_born_3 : decode cX12_born 3 = .ok (.iload_n 3, 1) := by decide +kernel
theorem dX12_born_4 : decode cX12_born 4 = .ok (.iload 4, 2) := by decide +kernel
theorem dX12_born_6 : decode cX12_born 6 = .ok (.invokevirtual 287, 3) := by decide +kernel
theorem dX12_born_9 : decode cX12_born 9 = .ok (.ifCond .ne 5, 3) := by decide +kernel
theorem dX12_born_12 : decode cX12_born 12 = .ok (.iconst 0, 1) := by decide +kernel
theorem dX12_born_13 : decode cX12_born 13 = .ok (.ireturn, 1) := by decide +kernel
theorem dX12_born_14 : decode cX12_born 14 = .ok (.aload_n 0, 1) := by decide +kernel
theorem dX12_born_15 : decode cX12_born 15 = .ok (.aload_n 0, 1) := by decide +kernel
theorem dX12_born_16 : decode cX12_born 16 = .ok (.iload_n 1, 1) := by decide +kernel
theorem dX12_born_17 : decode cX12_born 17 = .ok (.iload_n 2, 1) := by decide +kernel
theorem dX12_born_18 : decode cX12_born 18 = .ok (.iload_n 3, 1) := by decide +kernel
theorem dX12_born_19 : decode cX12_born 19 = .ok (.iload 4, 2) := by decide +kernel
theorem dX12_born_21 : decode cX12_born 21 = .ok (.invokevirtual 291, 3) := by decide +kernel
theorem dX12_born_24 : decode cX12_born 24 = .ok (.putfield 137, 3) := by decide +kernel
theorem dX12_born_27 : decode cX12_born 27 = .ok (.aload_n 0, 1) := by decide +kernel
theorem dX12_born_28 : decode cX12_born 28 = .ok (.iload_n 1, 1) := by decide +kernel
theorem dX12_born_29 : decode cX12_born 29 = .ok (.putfield 415, 3) := by decide +kernel
theorem dX12_born_32 : decode cX12_born 32 = .ok (.aload_n 0, 1) := by decide +kernel
theorem dX12_born_33 : decode cX12_born 33 = .ok (.iload_n 2, 1) := by decide +kernel
theorem dX12_born_34 : decode cX12_born 34 = .ok (.putfield 418, 3) := by decide +kernel
theorem dX12_born_37 : decode cX12_born 37 = .ok (.aload_n 0, 1) := by decide +kernel
theorem dX12_born_38 : decode cX12_born 38 = .ok (.iload_n 3, 1) := by decide +kernel
theorem dX12_born_39 : decode cX12_born 39 = .ok (.putfield 421, 3) := by decide +kernel
theorem dX12_born_42 : decode cX12_born 42 = .ok (.aload_n 0, 1) := by decide +kernel
theorem dX12_born_43 : decode cX12_born 43 = .ok (.iload 4, 2) := by decide +kernel
theorem dX12_born_45 : decode cX12_born 45 = .ok (.putfield 424, 3) := by decide +kernel
theorem dX12_born_48 : decode cX12_born 48 = .ok (.iconst 1, 1) := by decide +kernel
theorem dX12_born_49 : decode cX12_born 49 = .ok (.ireturn, 1) := by decide +kernel
theorem dX12_firstFrom_0 : decode cX12_firstFrom 0 = .ok (.iload_n 2, 1) := by decide +kernel
theorem dX12_firstFrom_1 : decode cX12_firstFrom 1 = .ok (.istore_n 3, 1) := by decide +kernel
theorem dX12_firstFrom_2 : decode cX12_firstFrom 2 = .ok (.iload_n 3, 1) := by decide +kernel
theorem dX12_firstFrom_3 : decode cX12_firstFrom 3 = .ok (.sipush 9999, 3) := by decide +kernel
theorem dX12_firstFrom_6 : decode cX12_firstFrom 6 = .ok (.iload_n 2, 1) := by decide +kernel
theorem dX12_firstFrom_7 : decode cX12_firstFrom 7 = .ok (.iconst 1, 1) := by decide +kernel
theorem dX12_firstFrom_8 : decode cX12_firstFrom 8 = .ok (.iadd, 1) := by decide +kernel
theorem dX12_firstFrom_9 : decode cX12_firstFrom 9 = .ok (.invokestatic 231, 3) := by decide +kernel
theorem dX12_firstFrom_12 : decode cX12_firstFrom 12 = .ok (.if_icmp .gt 88, 3) := by decide +kernel
theorem dX12_firstFrom_15 : decode cX12_firstFrom 15 = .ok (.iconst 1, 1) := by decide +kernel
theorem dX12_firstFrom_16 : decode cX12_firstFrom 16 = .ok (.istore 4, 2) := by decide +kernel
theorem dX12_firstFrom_18 : decode cX12_firstFrom 18 = .ok (.iload 4, 2) := by decide +kernel
theorem dX12_firstFrom_20 : decode cX12_firstFrom 20 = .ok (.bipush 12, 2) := by decide +kernel
theorem dX12_firstFrom_22 : decode cX12_firstFrom 22 = .ok (.if_icmp .gt 72, 3) := by decide +kernel
theorem dX12_firstFrom_25 : decode cX12_firstFrom 25 = .ok (.iconst 1, 1) := by decide +kernel
theorem dX12_firstFrom_26 : decode cX12_firstFrom 26 = .ok (.istore 5, 2) := by decide +kernel
theorem dX12_firstFrom_28 : decode cX12_firstFrom 28 = .ok (.iload 5, 2) := by decide +kernel
theorem dX12_firstFrom_30 : decode cX12_firstFrom 30 = .ok (.bipush 31, 2) := by decide +kernel
theorem dX12_firstFrom_32 : decode cX12_firstFrom 32 = .ok (.if_icmp .gt 56, 3) := by decide +kernel
theorem dX12_firstFrom_35 : decode cX12_firstFrom 35 = .ok (.iload_n 3, 1) := by decide +kernel
theorem dX12_firstFrom_36 : decode cX12_firstFrom 36 = .ok (.iload 4, 2) := by decide +kernel
theorem dX12_firstFrom_38 : decode cX12_firstFrom 38 = .ok (.iload 5, 2) := by decide +kernel
theorem dX12_firstFrom_40 : decode cX12_firstFrom 40 = .ok (.invokestatic 208, 3) := by decide +kernel
theorem dX12_firstFrom_43 : decode cX12_firstFrom 43 = .ok (.iload_n 2, 1) := by decide +kernel
theorem dX12_firstFrom_44 : decode cX12_firstFrom 44 = .ok (.aload_n 0, 1) := by decide +kernel
theorem dX12_firstFrom_45 : decode cX12_firstFrom 45 = .ok (.getfield 421, 3) := by decide +kernel
theorem dX12_firstFrom_48 : decode cX12_firstFrom 48 = .ok (.aload_n 0, 1) := by decide +kernel
theorem dX12_firstFrom_49 : decode cX12_firstFrom 49 = .ok (.getfield 424, 3) := by decide +kernel
theorem dX12_firstFrom_52 : decode cX12_firstFrom 52 = .ok (.invokestatic 208, 3) := by decide +kernel
theorem dX12_firstFrom_55 : decode cX12_firstFrom 55 = .ok (.if_icmp .lt 27, 3) := by decide +kernel
theorem dX12_firstFrom_58 : decode cX12_firstFrom 58 = .ok (.aload_n 0, 1) := by decide +kernel
theorem dX12_firstFrom_59 : decode cX12_firstFrom 59 = .ok (.iload_n 1, 1) := by decide +kernel
theorem dX12_firstFrom_60 : decode cX12_firstFrom 60 = .ok (.iload_n 3, 1) := by decide +kernel
theorem dX12_firstFrom_61 : decode cX12_firstFrom 61 = .ok (.iload 4, 2) := by decide +kernel
theorem dX12_firstFrom_63 : decode cX12_firstFrom 63 = .ok (.iload 5, 2) := by decide +kernel
theorem dX12_firstFrom_65 : decode cX12_firstFrom 65 = .ok (.invokevirtual 287, 3) := by decide +kernel
theorem dX12_firstFrom_68 : decode cX12_firstFrom 68 = .ok (.ifCond .eq 14, 3) := by decide +kernel
theorem dX12_firstFrom_71 : decode cX12_firstFrom 71 = .ok (.aload_n 0, 1) := by decide +kernel
theorem dX12_firstFrom_72 : decode cX12_firstFrom 72 = .ok (.iload_n 1, 1) := by decide +kernel
theorem dX12_firstFrom_73 : decode cX12_firstFrom 73 = .ok (.iload_n 3, 1) := by decide +kernel
theorem dX12_firstFrom_74 : decode cX12_firstFrom 74 = .ok (.iload 4, 2) := by decide +kernel
theorem dX12_firstFrom_76 : decode cX12_firstFrom 76 = .ok (.iload 5, 2) := by decide +kernel
theorem dX12_firstFrom_78 : decode cX12_firstFrom 78 = .ok (.invokevirtual 291, 3) := by decide +kernel
theorem dX12_firstFrom_81 : decode cX12_firstFrom 81 = .ok (.ireturn, 1) := by decide +kernel
theorem dX12_firstFrom_82 : decode cX12_firstFrom 82 = .ok (.iinc 5 1, 3) := by decide +kernel
theorem dX12_firstFrom_85 : decode cX12_firstFrom 85 = .ok (.goto (-57), 3) := by decide +kernel
theorem dX12_firstFrom_88 : decode cX12_firstFrom 88 = .ok (.iinc 4 1, 3) := by decide +kernel
theorem dX12_firstFrom_91 : decode cX12_firstFrom 91 = .ok (.goto (-73), 3) := by decide +kernel
theorem dX12_firstFrom_94 : decode cX12_firstFrom 94 = .ok (.iinc 3 1, 3) := by decide +kernel
theorem dX12_firstFrom_97 : decode cX12_firstFrom 97 = .ok (.goto (-95), 3) := by decide +kernel
theorem dX12_firstFrom_100 : decode cX12_firstFrom 100 = .ok (.iconst (-1), 1) := by decide +kernel
theorem dX12_firstFrom_101 : decode cX12_firstFrom 101 = .ok (.ireturn, 1) := by decide +kernel
theorem dX12_age_0 : decode cX12_age 0 = .ok (.aload_n 0, 1) := by decide +kernel
theorem dX12_age_1 : decode cX12_age 1 = .ok (.getfield 137, 3) := by decide +kernel
theorem dX12_age_4 : decode cX12_age 4 = .ok (.iconst (-1), 1) := by decide +kernel
theorem dX12_age_5 : decode cX12_age 5 = .ok (.if_icmp .eq 39, 3) := by decide +kernel
theorem dX12_age_8 : decode cX12_age 8 = .ok (.iload_n 1, 1) := by decide +kernel
theorem dX12_age_9 : decode cX12_age 9 = .ok (.aload_n 0, 1) := by decide +kernel
theorem dX12_age_10 : decode cX12_age 10 = .ok (.getfield 415, 3) := by decide +kernel
theorem dX12_age_13 : decode cX12_age 13 = .ok (.if_icmp .ne 31, 3) := by decide +kernel
theorem dX12_age_16 : decode cX12_age 16 = .ok (.aload_n 0, 1) := by decide +kernel
theorem dX12_age_17 : decode cX12_age 17 = .ok (.iload_n 1, 1) := by decide +kernel
theorem dX12_age_18 : decode cX12_age 18 = .ok (.iload_n 2, 1) := by decide +kernel
theorem dX12_age_19 : decode cX12_age 19 = .ok (.iload_n 3, 1) := by decide +kernel
theorem dX12_age_20 : decode cX12_age 20 = .ok (.iload 4, 2) := by decide +kernel
theorem dX12_age_22 : decode cX12_age 22 = .ok (.invokevirtual 287, 3) := by decide +kernel
theorem dX12_age_25 : decode cX12_age 25 = .ok (.ifCond .eq 19, 3) := by decide +kernel
theorem dX12_age_28 : decode cX12_age 28 = .ok (.aload_n 0, 1) := by decide +kernel
theorem dX12_age_29 : decode cX12_age 29 = .ok (.iload_n 1, 1) := by decide +kernel
theorem dX12_age_30 : decode cX12_age 30 = .ok (.iload_n 2, 1) := by decide +kernel
theorem dX12_age_31 : decode cX12_age 31 = .ok (.iload_n 3, 1) := by decide +kernel
theorem dX12_age_32 : decode cX12_age 32 = .ok (.iload 4, 2) := by decide +kernel
theorem dX12_age_34 : decode cX12_age 34 = .ok (.invokevirtual 291, 3) := by decide +kernel
theorem dX12_age_37 : decode cX12_age 37 = .ok (.aload_n 0, 1) := by decide +kernel
theorem dX12_age_38 : decode cX12_age 38 = .ok (.getfield 137, 3) := by decide +kernel
theorem dX12_age_41 : decode cX12_age 41 = .ok (.if_icmp .ge 5, 3) := by decide +kernel
theorem dX12_age_44 : decode cX12_age 44 = .ok (.iconst (-1), 1) := by decide +kernel
theorem dX12_age_45 : decode cX12_age 45 = .ok (.ireturn, 1) := by decide +kernel
theorem dX12_age_46 : decode cX12_age 46 = .ok (.iconst 0, 1) := by decide +kernel
theorem dX12_age_47 : decode cX12_age 47 = .ok (.istore 5, 2) := by decide +kernel
theorem dX12_age_49 : decode cX12_age 49 = .ok (.aload_n 0, 1) := by decide +kernel
theorem dX12_age_50 : decode cX12_age 50 = .ok (.getfield 418, 3) := by decide +kernel
theorem dX12_age_53 : decode cX12_age 53 = .ok (.iconst 1, 1) := by decide +kernel
theorem dX12_age_54 : decode cX12_age 54 = .ok (.iadd, 1) := by decide +kernel
theorem dX12_age_55 : decode cX12_age 55 = .ok (.istore 6, 2) := by decide +kernel
theorem dX12_age_57 : decode cX12_age 57 = .ok (.iload 6, 2) := by decide +kernel
theorem dX12_age_59 : decode cX12_age 59 = .ok (.iload_n 2, 1) := by decide +kernel
theorem dX12_age_60 : decode cX12_age 60 = .ok (.if_icmp .gt 48, 3) := by decide +kernel
theorem dX12_age_63 : decode cX12_age 63 = .ok (.aload_n 0, 1) := by decide +kernel
theorem dX12_age_64 : decode cX12_age 64 = .ok (.iload_n 1, 1) := by decide +kernel
theorem dX12_age_65 : decode cX12_age 65 = .ok (.iload 6, 2) := by decide +kernel
theorem dX12_age_67 : decode cX12_age 67 = .ok (.invokevirtual 427, 3) := by decide +kernel
theorem dX12_age_70 : decode cX12_age 70 = .ok (.istore 7, 2) := by decide +kernel
theorem dX12_age_72 : decode cX12_age 72 = .ok (.iload 5, 2) := by decide +kernel
theorem dX12_age_74 : decode cX12_age 74 = .ok (.iload 7, 2) := by decide +kernel
theorem dX12_age_76 : decode cX12_age 76 = .ok (.iconst (-1), 1) := by decide +kernel
theorem dX12_age_77 : decode cX12_age 77 = .ok (.if_icmp .eq 21, 3) := by decide +kernel
theorem dX12_age_80 : decode cX12_age 80 = .ok (.iload 7, 2) := by decide +kernel
theorem dX12_age_82 : decode cX12_age 82 = .ok (.aload_n 0, 1) := by decide +kernel
theorem dX12_age_83 : decode cX12_age 83 = .ok (.iload_n 1, 1) := by decide +kernel
theorem dX12_age_84 : decode cX12_age 84 = .ok (.iload_n 2, 1) := by decide +kernel
theorem dX12_age_85 : decode cX12_age 85 = .ok (.iload_n 3, 1) := by decide +kernel
theorem dX12_age_86 : decode cX12_age 86 = .ok (.iload 4, 2) := by decide +kernel
theorem dX12_age_88 : decode cX12_age 88 = .ok (.invokevirtual 291, 3) := by decide +kernel
theorem dX12_age_91 : decode cX12_age 91 = .ok (.if_icmp .gt 7, 3) := by decide +kernel
theorem dX12_age_94 : decode cX12_age 94 = .ok (.iconst 1, 1) := by decide +kernel
theorem dX12_age_95 : decode cX12_age 95 = .ok (.goto 4, 3) := by decide +kernel
theorem dX12_age_98 : decode cX12_age 98 = .ok (.iconst 0, 1) := by decide +kernel
theorem dX12_age_99 : decode cX12_age 99 = .ok (.iadd, 1) := by decide +kernel
theorem dX12_age_100 : decode cX12_age 100 = .ok (.istore 5, 2) := by decide +kernel
theorem dX12_age_102 : decode cX12_age 102 = .ok (.iinc 6 1, 3) := by decide +kernel
theorem dX12_age_105 : decode cX12_age 105 = .ok (.goto (-48), 3) := by decide +kernel
theorem dX12_age_108 : decode cX12_age 108 = .ok (.iload 5, 2) := by decide +kernel
theorem dX12_age_110 : decode cX12_age 110 = .ok (.ireturn, 1) := by decide +kernel
theorem dX12_event_0 : decode cX12_event 0 = .ok (.aload_n 0, 1) := by decide +kernel
theorem dX12_event_1 : decode cX12_event 1 = .ok (.iload_n 1, 1) := by decide +kernel
theorem dX12_event_2 : decode cX12_event 2 = .ok (.iload_n 2, 1) := by decide +kernel
theorem dX12_event_3 : decode cX12_event 3 = .ok (.iload_n 3, 1) := by decide +kernel
theorem dX12_event_4 : decode cX12_event 4 = .ok (.iload 4, 2) := by decide +kernel
theorem dX12_event_6 : decode cX12_event 6 = .ok (.invokevirtual 287, 3) := by decide +kernel
theorem dX12_event_9 : decode cX12_event 9 = .ok (.ifCond .eq 22, 3) := by decide +kernel
theorem dX12_event_12 : decode cX12_event 12 = .ok (.iload 5, 2) := by decide +kernel
theorem dX12_event_14 : decode cX12_event 14 = .ok (.iconst 0, 1) := by decide +kernel
theorem dX12_event_15 : decode cX12_event 15 = .ok (.iconst 3, 1) := by decide +kernel
theorem dX12_event_16 : decode cX12_event 16 = .ok (.invokestatic 186, 3) := by decide +kernel
theorem dX12_event_19 : decode cX12_event 19 = .ok (.ifCond .eq 12, 3) := by decide +kernel
theorem dX12_event_22 : decode cX12_event 22 = .ok (.aload_n 0, 1) := by decide +kernel
theorem dX12_event_23 : decode cX12_event 23 = .ok (.getfield 430, 3) := by decide +kernel
theorem dX12_event_26 : decode cX12_event 26 = .ok (.bipush 30, 2) := by decide +kernel
theorem dX12_event_28 : decode cX12_event 28 = .ok (.if_icmp .ne 5, 3) := by decide +kernel
theorem dX12_event_31 : decode cX12_event 31 = .ok (.iconst (-1), 1) := by decide +kernel
theorem dX12_event_32 : decode cX12_event 32 = .ok (.ireturn, 1) := by decide +kernel
theorem dX12_event_33 : decode cX12_event 33 = .ok (.aload_n 0, 1) := by decide +kernel
theorem dX12_event_34 : decode cX12_event 34 = .ok (.getfield 141, 3) := by decide +kernel
theorem dX12_event_37 : decode cX12_event 37 = .ok (.aload_n 0, 1) := by decide +kernel
theorem dX12_event_38 : decode cX12_event 38 = .ok (.getfield 430, 3) := by decide +kernel
theorem dX12_event_41 : decode cX12_event 41 = .ok (.aload_n 0, 1) := by decide +kernel
theorem dX12_event_42 : decode cX12_event 42 = .ok (.iload_n 1, 1) := by decide +kernel
theorem dX12_event_43 : decode cX12_event 43 = .ok (.iload_n 2, 1) := by decide +kernel
theorem dX12_event_44 : decode cX12_event 44 = .ok (.iload_n 3, 1) := by decide +kernel
theorem dX12_event_45 : decode cX12_event 45 = .ok (.iload 4, 2) := by decide +kernel
theorem dX12_event_47 : decode cX12_event 47 = .ok (.invokevirtual 291, 3) := by decide +kernel
theorem dX12_event_50 : decode cX12_event 50 = .ok (.iastore, 1) := by decide +kernel
theorem dX12_event_51 : decode cX12_event 51 = .ok (.aload_n 0, 1) := by decide +kernel
theorem dX12_event_52 : decode cX12_event 52 = .ok (.getfield 144, 3) := by decide +kernel
theorem dX12_event_55 : decode cX12_event 55 = .ok (.aload_n 0, 1) := by decide +kernel
theorem dX12_event_56 : decode cX12_event 56 = .ok (.getfield 430, 3) := by decide +kernel
theorem dX12_event_59 : decode cX12_event 59 = .ok (.iload 5, 2) := by decide +kernel
theorem dX12_event_61 : decode cX12_event 61 = .ok (.iastore, 1) := by decide +kernel
theorem dX12_event_62 : decode cX12_event 62 = .ok (.aload_n 0, 1) := by decide +kernel
theorem dX12_event_63 : decode cX12_event 63 = .ok (.dup, 1) := by decide +kernel
theorem dX12_event_64 : decode cX12_event 64 = .ok (.getfield 430, 3) := by decide +kernel
theorem dX12_event_67 : decode cX12_event 67 = .ok (.iconst 1, 1) := by decide +kernel
theorem dX12_event_68 : decode cX12_event 68 = .ok (.iadd, 1) := by decide +kernel
theorem dX12_event_69 : decode cX12_event 69 = .ok (.putfield 430, 3) := by decide +kernel
theorem dX12_event_72 : decode cX12_event 72 = .ok (.aload_n 0, 1) := by decide +kernel
theorem dX12_event_73 : decode cX12_event 73 = .ok (.getfield 430, 3) := by decide +kernel
theorem dX12_event_76 : decode cX12_event 76 = .ok (.ireturn, 1) := by decide +kernel
theorem dX12_held_0 : decode cX12_held 0 = .ok (.aload_n 0, 1) := by decide +kernel
theorem dX12_held_1 : decode cX12_held 1 = .ok (.iload_n 1, 1) := by decide +kernel
theorem dX12_held_2 : decode cX12_held 2 = .ok (.iload_n 2, 1) := by decide +kernel
theorem dX12_held_3 : decode cX12_held 3 = .ok (.iload_n 3, 1) := by decide +kernel
theorem dX12_held_4 : decode cX12_held 4 = .ok (.iload 4, 2) := by decide +kernel
theorem dX12_held_6 : decode cX12_held 6 = .ok (.invokevirtual 287, 3) := by decide +kernel
theorem dX12_held_9 : decode cX12_held 9 = .ok (.ifCond .ne 5, 3) := by decide +kernel
theorem dX12_held_12 : decode cX12_held 12 = .ok (.iconst (-1), 1) := by decide +kernel
theorem dX12_held_13 : decode cX12_held 13 = .ok (.ireturn, 1) := by decide +kernel
theorem dX12_held_14 : decode cX12_held 14 = .ok (.iconst 0, 1) := by decide +kernel
theorem dX12_held_15 : decode cX12_held 15 = .ok (.istore 5, 2) := by decide +kernel
theorem dX12_held_17 : decode cX12_held 17 = .ok (.iconst 0, 1) := by decide +kernel
theorem dX12_held_18 : decode cX12_held 18 = .ok (.istore 6, 2) := by decide +kernel
theorem dX12_held_20 : decode cX12_held 20 = .ok (.iload 6, 2) := by decide +kernel
theorem dX12_held_22 : decode cX12_held 22 = .ok (.aload_n 0, 1) := by decide +kernel
theorem dX12_held_23 : decode cX12_held 23 = .ok (.getfield 430, 3) := by decide +kernel
theorem dX12_held_26 : decode cX12_held 26 = .ok (.if_icmp .ge 46, 3) := by decide +kernel
theorem dX12_held_29 : decode cX12_held 29 = .ok (.iload 5, 2) := by decide +kernel
theorem dX12_held_31 : decode cX12_held 31 = .ok (.aload_n 0, 1) := by decide +kernel
theorem dX12_held_32 : decode cX12_held 32 = .ok (.getfield 141, 3) := by decide +kernel
theorem dX12_held_35 : decode cX12_held 35 = .ok (.iload 6, 2) := by decide +kernel
theorem dX12_held_37 : decode cX12_held 37 = .ok (.iaload, 1) := by decide +kernel
theorem dX12_held_38 : decode cX12_held 38 = .ok (.aload_n 0, 1) := by decide +kernel
theorem dX12_held_39 : decode cX12_held 39 = .ok (.iload_n 1, 1) := by decide +kernel
theorem dX12_held_40 : decode cX12_held 40 = .ok (.iload_n 2, 1) := by decide +kernel
theorem dX12_held_41 : decode cX12_held 41 = .ok (.iload_n 3, 1) := by decide +kernel
theorem dX12_held_42 : decode cX12_held 42 = .ok (.iload 4, 2) := by decide +kernel
theorem dX12_held_44 : decode cX12_held 44 = .ok (.invokevirtual 291, 3) := by decide +kernel
theorem dX12_held_47 : decode cX12_held 47 = .ok (.if_icmp .ne 15, 3) := by decide +kernel
theorem dX12_held_50 : decode cX12_held 50 = .ok (.iconst 1, 1) := by decide +kernel
theorem dX12_held_51 : decode cX12_held 51 = .ok (.aload_n 0, 1) := by decide +kernel
theorem dX12_held_52 : decode cX12_held 52 = .ok (.getfield 144, 3) := by decide +kernel
theorem dX12_held_55 : decode cX12_held 55 = .ok (.iload 6, 2) := by decide +kernel
theorem dX12_held_57 : decode cX12_held 57 = .ok (.iaload, 1) := by decide +kernel
theorem dX12_held_58 : decode cX12_held 58 = .ok (.ishl, 1) := by decide +kernel
theorem dX12_held_59 : decode cX12_held 59 = .ok (.goto 4, 3) := by decide +kernel
theorem dX12_held_62 : decode cX12_held 62 = .ok (.iconst 0, 1) := by decide +kernel
theorem dX12_held_63 : decode cX12_held 63 = .ok (.ior, 1) := by decide +kernel
theorem dX12_held_64 : decode cX12_held 64 = .ok (.istore 5, 2) := by decide +kernel
theorem dX12_held_66 : decode cX12_held 66 = .ok (.iinc 6 1, 3) := by decide +kernel
theorem dX12_held_69 : decode cX12_held 69 = .ok (.goto (-49), 3) := by decide +kernel
theorem dX12_held_72 : decode cX12_held 72 = .ok (.iload 5, 2) := by decide +kernel
theorem dX12_held_74 : decode cX12_held 74 = .ok (.ireturn, 1) := by decide +kernel
theorem dX12_hasEvent_0 : decode cX12_hasEvent 0 = .ok (.iconst 0, 1) := by decide +kernel
theorem dX12_hasEvent_1 : decode cX12_hasEvent 1 = .ok (.istore_n 3, 1) := by decide +kernel
theorem dX12_hasEvent_2 : decode cX12_hasEvent 2 = .ok (.iload_n 3, 1) := by decide +kernel
theorem dX12_hasEvent_3 : decode cX12_hasEvent 3 = .ok (.aload_n 0, 1) := by decide +kernel
theorem dX12_hasEvent_4 : decode cX12_hasEvent 4 = .ok (.getfield 430, 3) := by decide +kernel
theorem dX12_hasEvent_7 : decode cX12_hasEvent 7 = .ok (.if_icmp .ge 31, 3) := by decide +kernel
theorem dX12_hasEvent_10 : decode cX12_hasEvent 10 = .ok (.aload_n 0, 1) := by decide +kernel
theorem dX12_hasEvent_11 : decode cX12_hasEvent 11 = .ok (.getfield 141, 3) := by decide +kernel
theorem dX12_hasEvent_14 : decode cX12_hasEvent 14 = .ok (.iload_n 3, 1) := by decide +kernel
theorem dX12_hasEvent_15 : decode cX12_hasEvent 15 = .ok (.iaload, 1) := by decide +kernel
theorem dX12_hasEvent_16 : decode cX12_hasEvent 16 = .ok (.iload_n 1, 1) := by decide +kernel
theorem dX12_hasEvent_17 : decode cX12_hasEvent 17 = .ok (.if_icmp .ne 15, 3) := by decide +kernel
theorem dX12_hasEvent_20 : decode cX12_hasEvent 20 = .ok (.aload_n 0, 1) := by decide +kernel
theorem dX12_hasEvent_21 : decode cX12_hasEvent 21 = .ok (.getfield 144, 3) := by decide +kernel
theorem dX12_hasEvent_24 : decode cX12_hasEvent 24 = .ok (.iload_n 3, 1) := by decide +kernel
theorem dX12_hasEvent_25 : decode cX12_hasEvent 25 = .ok (.iaload, 1) := by decide +kernel
theorem dX12_hasEvent_26 : decode cX12_hasEvent 26 = .ok (.iload_n 2, 1) := by decide +kernel
theorem dX12_hasEvent_27 : decode cX12_hasEvent 27 = .ok (.if_icmp .ne 5, 3) := by decide +kernel
theorem dX12_hasEvent_30 : decode cX12_hasEvent 30 = .ok (.iconst 1, 1) := by decide +kernel
theorem dX12_hasEvent_31 : decode cX12_hasEvent 31 = .ok (.ireturn, 1) := by decide +kernel
theorem dX12_hasEvent_32 : decode cX12_hasEvent 32 = .ok (.iinc 3 1, 3) := by decide +kernel
theorem dX12_hasEvent_35 : decode cX12_hasEvent 35 = .ok (.goto (-33), 3) := by decide +kernel
theorem dX12_hasEvent_38 : decode cX12_hasEvent 38 = .ok (.iconst 0, 1) := by decide +kernel
theorem dX12_hasEvent_39 : decode cX12_hasEvent 39 = .ok (.ireturn, 1) := by decide +kernel
theorem dX12_spell_0 : decode cX12_spell 0 = .ok (.iload_n 1, 1) := by decide +kernel
theorem dX12_spell_1 : decode cX12_spell 1 = .ok (.iconst 0, 1) := by decide +kernel
theorem dX12_spell_2 : decode cX12_spell 2 = .ok (.iconst 3, 1) := by decide +kernel
theorem dX12_spell_3 : decode cX12_spell 3 = .ok (.invokestatic 186, 3) := by decide +kernel
theorem dX12_spell_6 : decode cX12_spell 6 = .ok (.ifCond .ne 5, 3) := by decide +kernel
theorem dX12_spell_9 : decode cX12_spell 9 = .ok (.iconst (-1), 1) := by decide +kernel
theorem dX12_spell_10 : decode cX12_spell 10 = .ok (.ireturn, 1) := by decide +kernel
theorem dX12_spell_11 : decode cX12_spell 11 = .ok (.iconst 0, 1) := by decide +kernel
theorem dX12_spell_12 : decode cX12_spell 12 = .ok (.istore_n 2, 1) := by decide +kernel
theorem dX12_spell_13 : decode cX12_spell 13 = .ok (.iconst 0, 1) := by decide +kernel
theorem dX12_spell_14 : decode cX12_spell 14 = .ok (.istore_n 3, 1) := by decide +kernel
theorem dX12_spell_15 : decode cX12_spell 15 = .ok (.iload_n 3, 1) := by decide +kernel
theorem dX12_spell_16 : decode cX12_spell 16 = .ok (.aload_n 0, 1) := by decide +kernel
theorem dX12_spell_17 : decode cX12_spell 17 = .ok (.getfield 430, 3) := by decide +kernel
theorem dX12_spell_20 : decode cX12_spell 20 = .ok (.if_icmp .ge 52, 3) := by decide +kernel
theorem dX12_spell_23 : decode cX12_spell 23 = .ok (.iconst 0, 1) := by decide +kernel
theorem dX12_spell_24 : decode cX12_spell 24 = .ok (.istore 4, 2) := by decide +kernel
theorem dX12_spell_26 : decode cX12_spell 26 = .ok (.aload_n 0, 1) := by decide +kernel
theorem dX12_spell_27 : decode cX12_spell 27 = .ok (.getfield 144, 3) := by decide +kernel
theorem dX12_spell_30 : decode cX12_spell 30 = .ok (.iload_n 3, 1) := by decide +kernel
theorem dX12_spell_31 : decode cX12_spell 31 = .ok (.iaload, 1) := by decide +kernel
theorem dX12_spell_32 : decode cX12_spell 32 = .ok (.iload_n 1, 1) := by decide +kernel
theorem dX12_spell_33 : decode cX12_spell 33 = .ok (.if_icmp .ne 26, 3) := by decide +kernel
theorem dX12_spell_36 : decode cX12_spell 36 = .ok (.aload_n 0, 1) := by decide +kernel
theorem dX12_spell_37 : decode cX12_spell 37 = .ok (.aload_n 0, 1) := by decide +kernel
theorem dX12_spell_38 : decode cX12_spell 38 = .ok (.getfield 141, 3) := by decide +kernel
theorem dX12_spell_41 : decode cX12_spell 41 = .ok (.iload_n 3, 1) := by decide +kernel
theorem dX12_spell_42 : decode cX12_spell 42 = .ok (.iaload, 1) := by decide +kernel
theorem dX12_spell_43 : decode cX12_spell 43 = .ok (.iload 4, 2) := by decide +kernel
theorem dX12_spell_45 : decode cX12_spell 45 = .ok (.iadd, 1) := by decide +kernel
theorem dX12_spell_46 : decode cX12_spell 46 = .ok (.iload_n 1, 1) := by decide +kernel
theorem dX12_spell_47 : decode cX12_spell 47 = .ok (.invokevirtual 433, 3) := by decide +kernel
theorem dX12_spell_50 : decode cX12_spell 50 = .ok (.ifCond .eq 9, 3) := by decide +kernel
theorem dX12_spell_53 : decode cX12_spell 53 = .ok (.iinc 4 1, 3) := by decide +kernel
theorem dX12_spell_56 : decode cX12_spell 56 = .ok (.goto (-30), 3) := by decide +kernel
theorem dX12_spell_59 : decode cX12_spell 59 = .ok (.iload_n 2, 1) := by decide +kernel
theorem dX12_spell_60 : decode cX12_spell 60 = .ok (.iload 4, 2) := by decide +kernel
theorem dX12_spell_62 : decode cX12_spell 62 = .ok (.invokestatic 239, 3) := by decide +kernel
theorem dX12_spell_65 : decode cX12_spell 65 = .ok (.istore_n 2, 1) := by decide +kernel
theorem dX12_spell_66 : decode cX12_spell 66 = .ok (.iinc 3 1, 3) := by decide +kernel
theorem dX12_spell_69 : decode cX12_spell 69 = .ok (.goto (-54), 3) := by decide +kernel
theorem dX12_spell_72 : decode cX12_spell 72 = .ok (.iload_n 2, 1) := by decide +kernel
theorem dX12_spell_73 : decode cX12_spell 73 = .ok (.ireturn, 1) := by decide +kernel
theorem dX12_keep_0 : decode cX12_keep 0 = .ok (.aload_n 0, 1) := by decide +kernel
theorem dX12_keep_1 : decode cX12_keep 1 = .ok (.aload_n 0, 1) := by decide +kernel
theorem dX12_keep_2 : decode cX12_keep 2 = .ok (.getfield 366, 3) := by decide +kernel
theorem dX12_keep_5 : decode cX12_keep 5 = .ok (.putfield 436, 3) := by decide +kernel
theorem dX12_keep_8 : decode cX12_keep 8 = .ok (.aload_n 0, 1) := by decide +kernel
theorem dX12_keep_9 : decode cX12_keep 9 = .ok (.aload_n 0, 1) := by decide +kernel
theorem dX12_keep_10 : decode cX12_keep 10 = .ok (.getfield 430, 3) := by decide +kernel
theorem dX12_keep_13 : decode cX12_keep 13 = .ok (.putfield 439, 3) := by decide +kernel
theorem dX12_keep_16 : decode cX12_keep 16 = .ok (.aload_n 0, 1) := by decide +kernel
theorem dX12_keep_17 : decode cX12_keep 17 = .ok (.getfield 366, 3) := by decide +kernel
theorem dX12_keep_20 : decode cX12_keep 20 = .ok (.aload_n 0, 1) := by decide +kernel
theorem dX12_keep_21 : decode cX12_keep 21 = .ok (.getfield 430, 3) := by decide +kernel
theorem dX12_keep_24 : decode cX12_keep 24 = .ok (.iadd, 1) := by decide +kernel
theorem dX12_keep_25 : decode cX12_keep 25 = .ok (.ireturn, 1) := by decide +kernel
theorem dX12_back_0 : decode cX12_back 0 = .ok (.aload_n 0, 1) := by decide +kernel
theorem dX12_back_1 : decode cX12_back 1 = .ok (.aload_n 0, 1) := by decide +kernel
theorem dX12_back_2 : decode cX12_back 2 = .ok (.getfield 366, 3) := by decide +kernel
theorem dX12_back_5 : decode cX12_back 5 = .ok (.aload_n 0, 1) := by decide +kernel
theorem dX12_back_6 : decode cX12_back 6 = .ok (.getfield 436, 3) := by decide +kernel
theorem dX12_back_9 : decode cX12_back 9 = .ok (.invokestatic 231, 3) := by decide +kernel
theorem dX12_back_12 : decode cX12_back 12 = .ok (.putfield 366, 3) := by decide +kernel
theorem dX12_back_15 : decode cX12_back 15 = .ok (.aload_n 0, 1) := by decide +kernel
theorem dX12_back_16 : decode cX12_back 16 = .ok (.aload_n 0, 1) := by decide +kernel
theorem dX12_back_17 : decode cX12_back 17 = .ok (.getfield 430, 3) := by decide +kernel
theorem dX12_back_20 : decode cX12_back 20 = .ok (.aload_n 0, 1) := by decide +kernel
theorem dX12_back_21 : decode cX12_back 21 = .ok (.getfield 439, 3) := by decide +kernel
theorem dX12_back_24 : decode cX12_back 24 = .ok (.invokestatic 231, 3) := by decide +kernel
theorem dX12_back_27 : decode cX12_back 27 = .ok (.putfield 430, 3) := by decide +kernel
theorem dX12_back_30 : decode cX12_back 30 = .ok (.aload_n 0, 1) := by decide +kernel
theorem dX12_back_31 : decode cX12_back 31 = .ok (.getfield 366, 3) := by decide +kernel
theorem dX12_back_34 : decode cX12_back 34 = .ok (.aload_n 0, 1) := by decide +kernel
theorem dX12_back_35 : decode cX12_back 35 = .ok (.getfield 430, 3) := by decide +kernel
theorem dX12_back_38 : decode cX12_back 38 = .ok (.iadd, 1) := by decide +kernel
theorem dX12_back_39 : decode cX12_back 39 = .ok (.ireturn, 1) := by decide +kernel
theorem dX12_readRow_0 : decode cX12_readRow 0 = .ok (.aload_n 0, 1) := by decide +kernel
theorem dX12_readRow_1 : decode cX12_readRow 1 = .ok (.iconst 0, 1) := by decide +kernel
theorem dX12_readRow_2 : decode cX12_readRow 2 = .ok (.putfield 166, 3) := by decide +kernel
theorem dX12_readRow_5 : decode cX12_readRow 5 = .ok (.aload_n 0, 1) := by decide +kernel
theorem dX12_readRow_6 : decode cX12_readRow 6 = .ok (.iconst (-1), 1) := by decide +kernel
theorem dX12_readRow_7 : decode cX12_readRow 7 = .ok (.putfield 173, 3) := by decide +kernel
theorem dX12_readRow_10 : decode cX12_readRow 10 = .ok (.iconst 0, 1) := by decide +kernel
theorem dX12_readRow_11 : decode cX12_readRow 11 = .ok (.istore_n 2, 1) := by decide +kernel
theorem dX12_readRow_12 : decode cX12_readRow 12 = .ok (.iconst 1, 1) := by decide +kernel
theorem dX12_readRow_13 : decode cX12_readRow 13 = .ok (.istore_n 3, 1) := by decide +kernel
theorem dX12_readRow_14 : decode cX12_readRow 14 = .ok (.iload_n 3, 1) := by decide +kernel
theorem dX12_readRow_15 : decode cX12_readRow 15 = .ok (.ifCond .eq 64, 3) := by decide +kernel
theorem dX12_readRow_18 : decode cX12_readRow 18 = .ok (.aload_n 0, 1) := by decide +kernel
theorem dX12_readRow_19 : decode cX12_readRow 19 = .ok (.getfield 173, 3) := by decide +kernel
theorem dX12_readRow_22 : decode cX12_readRow 22 = .ok (.iconst (-1), 1) := by decide +kernel
theorem dX12_readRow_23 : decode cX12_readRow 23 = .ok (.if_icmp .ne 56, 3) := by decide +kernel
theorem dX12_readRow_26 : decode cX12_readRow 26 = .ok (.aload_n 0, 1) := by decide +kernel
theorem dX12_readRow_27 : decode cX12_readRow 27 = .ok (.iload_n 2, 1) := by decide +kernel
theorem dX12_readRow_28 : decode cX12_readRow 28 = .ok (.iload_n 1, 1) := by decide +kernel
theorem dX12_readRow_29 : decode cX12_readRow 29 = .ok (.invokevirtual 442, 3) := by decide +kernel
theorem dX12_readRow_32 : decode cX12_readRow 32 = .ok (.iinc 2 1, 3) := by decide +kernel
theorem dX12_readRow_35 : decode cX12_readRow 35 = .ok (.aload_n 0, 1) := by decide +kernel
theorem dX12_readRow_36 : decode cX12_readRow 36 = .ok (.getfield 173, 3) := by decide +kernel
theorem dX12_readRow_39 : decode cX12_readRow 39 = .ok (.iconst (-1), 1) := by decide +kernel
theorem dX12_readRow_40 : decode cX12_readRow 40 = .ok (.if_icmp .ne 16, 3) := by decide +kernel
theorem dX12_readRow_43 : decode cX12_readRow 43 = .ok (.aload_n 0, 1) := by decide +kernel
theorem dX12_readRow_44 : decode cX12_readRow 44 = .ok (.invokevirtual 176, 3) := by decide +kernel
theorem dX12_readRow_47 : decode cX12_readRow 47 = .ok (.bipush 59, 2) := by decide +kernel
theorem dX12_readRow_49 : decode cX12_readRow 49 = .ok (.if_icmp .ne 7, 3) := by decide +kernel
theorem dX12_readRow_52 : decode cX12_readRow 52 = .ok (.iconst 1, 1) := by decide +kernel
theorem dX12_readRow_53 : decode cX12_readRow 53 = .ok (.goto 4, 3) := by decide +kernel
theorem dX12_readRow_56 : decode cX12_readRow 56 = .ok (.iconst 0, 1) := by decide +kernel
theorem dX12_readRow_57 : decode cX12_readRow 57 = .ok (.istore_n 3, 1) := by decide +kernel
theorem dX12_readRow_58 : decode cX12_readRow 58 = .ok (.aload_n 0, 1) := by decide +kernel
theorem dX12_readRow_59 : decode cX12_readRow 59 = .ok (.dup, 1) := by decide +kernel
theorem dX12_readRow_60 : decode cX12_readRow 60 = .ok (.getfield 166, 3) := by decide +kernel
theorem dX12_readRow_63 : decode cX12_readRow 63 = .ok (.iload_n 3, 1) := by decide +kernel
theorem dX12_readRow_64 : decode cX12_readRow 64 = .ok (.ifCond .eq 7, 3) := by decide +kernel
theorem dX12_readRow_67 : decode cX12_readRow 67 = .ok (.iconst 1, 1) := by decide +kernel
theorem dX12_readRow_68 : decode cX12_readRow 68 = .ok (.goto 4, 3) := by decide +kernel
theorem dX12_readRow_71 : decode cX12_readRow 71 = .ok (.iconst 0, 1) := by decide +kernel
theorem dX12_readRow_72 : decode cX12_readRow 72 = .ok (.iadd, 1) := by decide +kernel
theorem dX12_readRow_73 : decode cX12_readRow 73 = .ok (.putfield 166, 3) := by decide +kernel
theorem dX12_readRow_76 : decode cX12_readRow 76 = .ok (.goto (-62), 3) := by decide +kernel
theorem dX12_readRow_79 : decode cX12_readRow 79 = .ok (.aload_n 0, 1) := by decide +kernel
theorem dX12_readRow_80 : decode cX12_readRow 80 = .ok (.getfield 173, 3) := by decide +kernel
theorem dX12_readRow_83 : decode cX12_readRow 83 = .ok (.iconst (-1), 1) := by decide +kernel
theorem dX12_readRow_84 : decode cX12_readRow 84 = .ok (.if_icmp .ne 15, 3) := by decide +kernel
theorem dX12_readRow_87 : decode cX12_readRow 87 = .ok (.aload_n 0, 1) := by decide +kernel
theorem dX12_readRow_88 : decode cX12_readRow 88 = .ok (.invokevirtual 176, 3) := by decide +kernel
theorem dX12_readRow_91 : decode cX12_readRow 91 = .ok (.iconst (-1), 1) := by decide +kernel
theorem dX12_readRow_92 : decode cX12_readRow 92 = .ok (.if_icmp .eq 7, 3) := by decide +kernel
theorem dX12_readRow_95 : decode cX12_readRow 95 = .ok (.aload_n 0, 1) := by decide +kernel
theorem dX12_readRow_96 : decode cX12_readRow 96 = .ok (.invokevirtual 179, 3) := by decide +kernel
theorem dX12_readRow_99 : decode cX12_readRow 99 = .ok (.aload_n 0, 1) := by decide +kernel
theorem dX12_readRow_100 : decode cX12_readRow 100 = .ok (.iload_n 1, 1) := by decide +kernel
theorem dX12_readRow_101 : decode cX12_readRow 101 = .ok (.ifCond .eq 7, 3) := by decide +kernel
theorem dX12_readRow_104 : decode cX12_readRow 104 = .ok (.iload_n 2, 1) := by decide +kernel
theorem dX12_readRow_105 : decode cX12_readRow 105 = .ok (.goto 7, 3) := by decide +kernel
theorem dX12_readRow_108 : decode cX12_readRow 108 = .ok (.aload_n 0, 1) := by decide +kernel
theorem dX12_readRow_109 : decode cX12_readRow 109 = .ok (.getfield 446, 3) := by decide +kernel
theorem dX12_readRow_112 : decode cX12_readRow 112 = .ok (.putfield 446, 3) := by decide +kernel
theorem dX12_readRow_115 : decode cX12_readRow 115 = .ok (.aload_n 0, 1) := by decide +kernel
theorem dX12_readRow_116 : decode cX12_readRow 116 = .ok (.getfield 173, 3) := by decide +kernel
theorem dX12_readRow_119 : decode cX12_readRow 119 = .ok (.ireturn, 1) := by decide +kernel
theorem dX12_readThing_0 : decode cX12_readThing 0 = .ok (.iconst (-1), 1) := by decide +kernel
theorem dX12_readThing_1 : decode cX12_readThing 1 = .ok (.istore_n 3, 1) := by decide +kernel
theorem dX12_readThing_2 : decode cX12_readThing 2 = .ok (.iconst 0, 1) := by decide +kernel
theorem dX12_readThing_3 : decode cX12_readThing 3 = .ok (.istore 4, 2) := by decide +kernel
theorem dX12_readThing_5 : decode cX12_readThing 5 = .ok (.iconst 0, 1) := by decide +kernel
theorem dX12_readThing_6 : decode cX12_readThing 6 = .ok (.istore 5, 2) := by decide +kernel
theorem dX12_readThing_8 : decode cX12_readThing 8 = .ok (.aload_n 0, 1) := by decide +kernel
theorem dX12_readThing_9 : decode cX12_readThing 9 = .ok (.invokevirtual 176, 3) := by decide +kernel
theorem dX12_readThing_12 : decode cX12_readThing 12 = .ok (.bipush 63, 2) := by decide +kernel
theorem dX12_readThing_14 : decode cX12_readThing 14 = .ok (.if_icmp .ne 16, 3) := by decide +kernel
theorem dX12_readThing_17 : decode cX12_readThing 17 = .ok (.aload_n 0, 1) := by decide +kernel
theorem dX12_readThing_18 : decode cX12_readThing 18 = .ok (.dup, 1) := by decide +kernel
theorem dX12_readThing_19 : decode cX12_readThing 19 = .ok (.getfield 166, 3) := by decide +kernel
theorem dX12_readThing_22 : decode cX12_readThing 22 = .ok (.iconst 1, 1) := by decide +kernel
theorem dX12_readThing_23 : decode cX12_readThing 23 = .ok (.iadd, 1) := by decide +kernel
theorem dX12_readThing_24 : decode cX12_readThing 24 = .ok (.putfield 166, 3) := by decide +kernel
theorem dX12_readThing_27 : decode cX12_readThing 27 = .ok (.goto 44, 3) := by decide +kernel
theorem dX12_readThing_30 : decode cX12_readThing 30 = .ok (.aload_n 0, 1) := by decide +kernel
theorem dX12_readThing_31 : decode cX12_readThing 31 = .ok (.iconst 0, 1) := by decide +kernel
theorem dX12_readThing_32 : decode cX12_readThing 32 = .ok (.sipush 9999, 3) := by decide +kernel
theorem dX12_readThing_35 : decode cX12_readThing 35 = .ok (.invokevirtual 211, 3) := by decide +kernel
theorem dX12_readThing_38 : decode cX12_readThing 38 = .ok (.istore_n 3, 1) := by decide +kernel
theorem dX12_readThing_39 : decode cX12_readThing 39 = .ok (.aload_n 0, 1) := by decide +kernel
theorem dX12_readThing_40 : decode cX12_readThing 40 = .ok (.bipush 46, 2) := by decide +kernel
theorem dX12_readThing_42 : decode cX12_readThing 42 = .ok (.invokevirtual 218, 3) := by decide +kernel
theorem dX12_readThing_45 : decode cX12_readThing 45 = .ok (.aload_n 0, 1) := by decide +kernel
theorem dX12_readThing_46 : decode cX12_readThing 46 = .ok (.iconst 0, 1) := by decide +kernel
theorem dX12_readThing_47 : decode cX12_readThing 47 = .ok (.sipush 9999, 3) := by decide +kernel
theorem dX12_readThing_50 : decode cX12_readThing 50 = .ok (.invokevirtual 211, 3) := by decide +kernel
theorem dX12_readThing_53 : decode cX12_readThing 53 = .ok (.istore 4, 2) := by decide +kernel
theorem dX12_readThing_55 : decode cX12_readThing 55 = .ok (.aload_n 0, 1) := by decide +kernel
theorem dX12_readThing_56 : decode cX12_readThing 56 = .ok (.bipush 46, 2) := by decide +kernel
theorem dX12_readThing_58 : decode cX12_readThing 58 = .ok (.invokevirtual 218, 3) := by decide +kernel
theorem dX12_readThing_61 : decode cX12_readThing 61 = .ok (.aload_n 0, 1) := by decide +kernel
theorem dX12_readThing_62 : decode cX12_readThing 62 = .ok (.iconst 0, 1) := by decide +kernel
theorem dX12_readThing_63 : decode cX12_readThing 63 = .ok (.sipush 9999, 3) := by decide +kernel
theorem dX12_readThing_66 : decode cX12_readThing 66 = .ok (.invokevirtual 211, 3) := by decide +kernel
theorem dX12_readThing_69 : decode cX12_readThing 69 = .ok (.istore 5, 2) := by decide +kernel
theorem dX12_readThing_71 : decode cX12_readThing 71 = .ok (.iload_n 2, 1) := by decide +kernel
theorem dX12_readThing_72 : decode cX12_readThing 72 = .ok (.ifCond .eq 26, 3) := by decide +kernel
theorem dX12_readThing_75 : decode cX12_readThing 75 = .ok (.aload_n 0, 1) := by decide +kernel
theorem dX12_readThing_76 : decode cX12_readThing 76 = .ok (.getfield 147, 3) := by decide +kernel
theorem dX12_readThing_79 : decode cX12_readThing 79 = .ok (.iload_n 1, 1) := by decide +kernel
theorem dX12_readThing_80 : decode cX12_readThing 80 = .ok (.iload_n 3, 1) := by decide +kernel
theorem dX12_readThing_81 : decode cX12_readThing 81 = .ok (.iastore, 1) := by decide +kernel
theorem dX12_readThing_82 : decode cX12_readThing 82 = .ok (.aload_n 0, 1) := by decide +kernel
theorem dX12_readThing_83 : decode cX12_readThing 83 = .ok (.getfield 150, 3) := by decide +kernel
theorem dX12_readThing_86 : decode cX12_readThing 86 = .ok (.iload_n 1, 1) := by decide +kernel
theorem dX12_readThing_87 : decode cX12_readThing 87 = .ok (.iload 4, 2) := by decide +kernel
theorem dX12_readThing_89 : decode cX12_readThing 89 = .ok (.iastore, 1) := by decide +kernel
theorem dX12_readThing_90 : decode cX12_readThing 90 = .ok (.aload_n 0, 1) := by decide +kernel
theorem dX12_readThing_91 : decode cX12_readThing 91 = .ok (.getfield 153, 3) := by decide +kernel
theorem dX12_readThing_94 : decode cX12_readThing 94 = .ok (.iload_n 1, 1) := by decide +kernel
theorem dX12_readThing_95 : decode cX12_readThing 95 = .ok (.iload 5, 2) := by decide +kernel
theorem dX12_readThing_97 : decode cX12_readThing 97 = .ok (.iastore, 1) := by decide +kernel
theorem dX12_readThing_98 : decode cX12_readThing 98 = .ok (.return_, 1) := by decide +kernel
theorem dX12_takeRow_0 : decode cX12_takeRow 0 = .ok (.aload_n 0, 1) := by decide +kernel
theorem dX12_takeRow_1 : decode cX12_takeRow 1 = .ok (.iconst 0, 1) := by decide +kernel
theorem dX12_takeRow_2 : decode cX12_takeRow 2 = .ok (.invokevirtual 264, 3) := by decide +kernel
theorem dX12_takeRow_5 : decode cX12_takeRow 5 = .ok (.iconst (-1), 1) := by decide +kernel
theorem dX12_takeRow_6 : decode cX12_takeRow 6 = .ok (.if_icmp .eq 5, 3) := by decide +kernel
theorem dX12_takeRow_9 : decode cX12_takeRow 9 = .ok (.iconst (-1), 1) := by decide +kernel
theorem dX12_takeRow_10 : decode cX12_takeRow 10 = .ok (.ireturn, 1) := by decide +kernel
theorem dX12_takeRow_11 : decode cX12_takeRow 11 = .ok (.aload_n 0, 1) := by decide +kernel
theorem dX12_takeRow_12 : decode cX12_takeRow 12 = .ok (.iconst 1, 1) := by decide +kernel
theorem dX12_takeRow_13 : decode cX12_takeRow 13 = .ok (.invokevirtual 264, 3) := by decide +kernel
theorem dX12_takeRow_16 : decode cX12_takeRow 16 = .ok (.pop, 1) := by decide +kernel
theorem dX12_takeRow_17 : decode cX12_takeRow 17 = .ok (.aload_n 0, 1) := by decide +kernel
theorem dX12_takeRow_18 : decode cX12_takeRow 18 = .ok (.iconst 0, 1) := by decide +kernel
theorem dX12_takeRow_19 : decode cX12_takeRow 19 = .ok (.putfield 163, 3) := by decide +kernel
theorem dX12_takeRow_22 : decode cX12_takeRow 22 = .ok (.aload_n 0, 1) := by decide +kernel
theorem dX12_takeRow_23 : decode cX12_takeRow 23 = .ok (.getfield 446, 3) := by decide +kernel
theorem dX12_takeRow_26 : decode cX12_takeRow 26 = .ok (.ireturn, 1) := by decide +kernel
theorem dX12_row_0 : decode cX12_row 0 = .ok (.aload_n 0, 1) := by decide +kernel
theorem dX12_row_1 : decode cX12_row 1 = .ok (.iload_n 1, 1) := by decide +kernel
theorem dX12_row_2 : decode cX12_row 2 = .ok (.invokevirtual 344, 3) := by decide +kernel
theorem dX12_row_5 : decode cX12_row 5 = .ok (.ifCond .eq 25, 3) := by decide +kernel
theorem dX12_row_8 : decode cX12_row 8 = .ok (.aload_n 0, 1) := by decide +kernel
theorem dX12_row_9 : decode cX12_row 9 = .ok (.iload_n 2, 1) := by decide +kernel
theorem dX12_row_10 : decode cX12_row 10 = .ok (.invokevirtual 280, 3) := by decide +kernel
theorem dX12_row_13 : decode cX12_row 13 = .ok (.ifCond .eq 17, 3) := by decide +kernel
theorem dX12_row_16 : decode cX12_row 16 = .ok (.iload_n 3, 1) := by decide +kernel
theorem dX12_row_17 : decode cX12_row 17 = .ok (.iconst 0, 1) := by decide +kernel
theorem dX12_row_18 : decode cX12_row 18 = .ok (.aload_n 0, 1) := by decide +kernel
theorem dX12_row_19 : decode cX12_row 19 = .ok (.getfield 446, 3) := by decide +kernel
theorem dX12_row_22 : decode cX12_row 22 = .ok (.iconst 1, 1) := by decide +kernel
theorem dX12_row_23 : decode cX12_row 23 = .ok (.isub, 1) := by decide +kernel
theorem dX12_row_24 : decode cX12_row 24 = .ok (.invokestatic 186, 3) := by decide +kernel
theorem dX12_row_27 : decode cX12_row 27 = .ok (.ifCond .ne 5, 3) := by decide +kernel
theorem dX12_row_30 : decode cX12_row 30 = .ok (.iconst (-1), 1) := by decide +kernel
theorem dX12_row_31 : decode cX12_row 31 = .ok (.ireturn, 1) := by decide +kernel
theorem dX12_row_32 : decode cX12_row 32 = .ok (.iconst 0, 1) := by decide +kernel
theorem dX12_row_33 : decode cX12_row 33 = .ok (.istore 4, 2) := by decide +kernel
theorem dX12_row_35 : decode cX12_row 35 = .ok (.iconst 0, 1) := by decide +kernel
theorem dX12_row_36 : decode cX12_row 36 = .ok (.istore 5, 2) := by decide +kernel
theorem dX12_row_38 : decode cX12_row 38 = .ok (.iconst 0, 1) := by decide +kernel
theorem dX12_row_39 : decode cX12_row 39 = .ok (.istore 6, 2) := by decide +kernel
theorem dX12_row_41 : decode cX12_row 41 = .ok (.iload 6, 2) := by decide +kernel
theorem dX12_row_43 : decode cX12_row 43 = .ok (.iload_n 3, 1) := by decide +kernel
theorem dX12_row_44 : decode cX12_row 44 = .ok (.if_icmp .gt 136, 3) := by decide +kernel
theorem dX12_row_47 : decode cX12_row 47 = .ok (.iload 4, 2) := by decide +kernel
theorem dX12_row_49 : decode cX12_row 49 = .ok (.iconst 3, 1) := by decide +kernel
theorem dX12_row_50 : decode cX12_row 50 = .ok (.if_icmp .ge 66, 3) := by decide +kernel
theorem dX12_row_53 : decode cX12_row 53 = .ok (.aload_n 0, 1) := by decide +kernel
theorem dX12_row_54 : decode cX12_row 54 = .ok (.iload_n 2, 1) := by decide +kernel
theorem dX12_row_55 : decode cX12_row 55 = .ok (.aload_n 0, 1) := by decide +kernel
theorem dX12_row_56 : decode cX12_row 56 = .ok (.getfield 147, 3) := by decide +kernel
theorem dX12_row_59 : decode cX12_row 59 = .ok (.iload 6, 2) := by decide +kernel
theorem dX12_row_61 : decode cX12_row 61 = .ok (.iaload, 1) := by decide +kernel
theorem dX12_row_62 : decode cX12_row 62 = .ok (.aload_n 0, 1) := by decide +kernel
theorem dX12_row_63 : decode cX12_row 63 = .ok (.getfield 150, 3) := by decide +kernel
theorem dX12_row_66 : decode cX12_row 66 = .ok (.iload 6, 2) := by decide +kernel
theorem dX12_row_68 : decode cX12_row 68 = .ok (.iaload, 1) := by decide +kernel
theorem dX12_row_69 : decode cX12_row 69 = .ok (.aload_n 0, 1) := by decide +kernel
theorem dX12_row_70 : decode cX12_row 70 = .ok (.getfield 153, 3) := by decide +kernel
theorem dX12_row_73 : decode cX12_row 73 = .ok (.iload 6, 2) := by decide +kernel
theorem dX12_row_75 : decode cX12_row 75 = .ok (.iaload, 1) := by decide +kernel
theorem dX12_row_76 : decode cX12_row 76 = .ok (.invokevirtual 287, 3) := by decide +kernel
theorem dX12_row_79 : decode cX12_row 79 = .ok (.ifCond .eq 37, 3) := by decide +kernel
theorem dX12_row_82 : decode cX12_row 82 = .ok (.aload_n 0, 1) := by decide +kernel
theorem dX12_row_83 : decode cX12_row 83 = .ok (.iload_n 1, 1) := by decide +kernel
theorem dX12_row_84 : decode cX12_row 84 = .ok (.iload_n 2, 1) := by decide +kernel
theorem dX12_row_85 : decode cX12_row 85 = .ok (.aload_n 0, 1) := by decide +kernel
theorem dX12_row_86 : decode cX12_row 86 = .ok (.getfield 147, 3) := by decide +kernel
theorem dX12_row_89 : decode cX12_row 89 = .ok (.iload 6, 2) := by decide +kernel
theorem dX12_row_91 : decode cX12_row 91 = .ok (.iaload, 1) := by decide +kernel
theorem dX12_row_92 : decode cX12_row 92 = .ok (.aload_n 0, 1) := by decide +kernel
theorem dX12_row_93 : decode cX12_row 93 = .ok (.getfield 150, 3) := by decide +kernel
theorem dX12_row_96 : decode cX12_row 96 = .ok (.iload 6, 2) := by decide +kernel
theorem dX12_row_98 : decode cX12_row 98 = .ok (.iaload, 1) := by decide +kernel
theorem dX12_row_99 : decode cX12_row 99 = .ok (.aload_n 0, 1) := by decide +kernel
theorem dX12_row_100 : decode cX12_row 100 = .ok (.getfield 153, 3) := by decide +kernel
theorem dX12_row_103 : decode cX12_row 103 = .ok (.iload 6, 2) := by decide +kernel
theorem dX12_row_105 : decode cX12_row 105 = .ok (.iaload, 1) := by decide +kernel
theorem dX12_row_106 : decode cX12_row 106 = .ok (.invokevirtual 356, 3) := by decide +kernel
theorem dX12_row_109 : decode cX12_row 109 = .ok (.ifCond .eq 7, 3) := by decide +kernel
theorem dX12_row_112 : decode cX12_row 112 = .ok (.iconst 1, 1) := by decide +kernel
theorem dX12_row_113 : decode cX12_row 113 = .ok (.goto 4, 3) := by decide +kernel
theorem dX12_row_116 : decode cX12_row 116 = .ok (.iconst 0, 1) := by decide +kernel
theorem dX12_row_117 : decode cX12_row 117 = .ok (.istore 7, 2) := by decide +kernel
theorem dX12_row_119 : decode cX12_row 119 = .ok (.iload 4, 2) := by decide +kernel
theorem dX12_row_121 : decode cX12_row 121 = .ok (.iconst 3, 1) := by decide +kernel
theorem dX12_row_122 : decode cX12_row 122 = .ok (.if_icmp .ne 8, 3) := by decide +kernel
theorem dX12_row_125 : decode cX12_row 125 = .ok (.bipush 8, 2) := by decide +kernel
theorem dX12_row_127 : decode cX12_row 127 = .ok (.goto 17, 3) := by decide +kernel
theorem dX12_row_130 : decode cX12_row 130 = .ok (.iload 7, 2) := by decide +kernel
theorem dX12_row_132 : decode cX12_row 132 = .ok (.ifCond .eq 10, 3) := by decide +kernel
theorem dX12_row_135 : decode cX12_row 135 = .ok (.aload_n 0, 1) := by decide +kernel
theorem dX12_row_136 : decode cX12_row 136 = .ok (.getfield 350, 3) := by decide +kernel
theorem dX12_row_139 : decode cX12_row 139 = .ok (.goto 5, 3) := by decide +kernel
theorem dX12_row_142 : decode cX12_row 142 = .ok (.bipush 7, 2) := by decide +kernel
theorem dX12_row_144 : decode cX12_row 144 = .ok (.istore 5, 2) := by decide +kernel
theorem dX12_row_146 : decode cX12_row 146 = .ok (.iload 5, 2) := by decide +kernel
theorem dX12_row_148 : decode cX12_row 148 = .ok (.bipush 7, 2) := by decide +kernel
theorem dX12_row_150 : decode cX12_row 150 = .ok (.if_icmp .ne 10, 3) := by decide +kernel
theorem dX12_row_153 : decode cX12_row 153 = .ok (.iload 4, 2) := by decide +kernel
theorem dX12_row_155 : decode cX12_row 155 = .ok (.iconst 1, 1) := by decide +kernel
theorem dX12_row_156 : decode cX12_row 156 = .ok (.iadd, 1) := by decide +kernel
theorem dX12_row_157 : decode cX12_row 157 = .ok (.goto 15, 3) := by decide +kernel
theorem dX12_row_160 : decode cX12_row 160 = .ok (.iload 5, 2) := by decide +kernel
theorem dX12_row_162 : decode cX12_row 162 = .ok (.bipush 8, 2) := by decide +kernel
theorem dX12_row_164 : decode cX12_row 164 = .ok (.if_icmp .ne 7, 3) := by decide +kernel
theorem dX12_row_167 : decode cX12_row 167 = .ok (.iconst 3, 1) := by decide +kernel
theorem dX12_row_168 : decode cX12_row 168 = .ok (.goto 4, 3) := by decide +kernel
theorem dX12_row_171 : decode cX12_row 171 = .ok (.iconst 0, 1) := by decide +kernel
theorem dX12_row_172 : decode cX12_row 172 = .ok (.istore 4, 2) := by decide +kernel
theorem dX12_row_174 : decode cX12_row 174 = .ok (.iinc 6 1, 3) := by decide +kernel
theorem dX12_row_177 : decode cX12_row 177 = .ok (.goto (-136), 3) := by decide +kernel
theorem dX12_row_180 : decode cX12_row 180 = .ok (.iload 5, 2) := by decide +kernel
theorem dX12_row_182 : decode cX12_row 182 = .ok (.ireturn, 1) := by decide +kernel
theorem dX12_draw_0 : decode cX12_draw 0 = .ok (.aload_n 0, 1) := by decide +kernel
theorem dX12_draw_1 : decode cX12_draw 1 = .ok (.aload_n 0, 1) := by decide +kernel
theorem dX12_draw_2 : decode cX12_draw 2 = .ok (.getfield 449, 3) := by decide +kernel
theorem dX12_draw_5 : decode cX12_draw 5 = .ok (.ldc2_w 453, 3) := by decide +kernel
theorem dX12_draw_8 : decode cX12_draw 8 = .ok (.lmul, 1) := by decide +kernel
theorem dX12_draw_9 : decode cX12_draw 9 = .ok (.ldc2_w 455, 3) := by decide +kernel
theorem dX12_draw_12 : decode cX12_draw 12 = .ok (.ladd, 1) := by decide +kernel
theorem dX12_draw_13 : decode cX12_draw 13 = .ok (.putfield 449, 3) := by decide +kernel
theorem dX12_draw_16 : decode cX12_draw 16 = .ok (.aload_n 0, 1) := by decide +kernel
theorem dX12_draw_17 : decode cX12_draw 17 = .ok (.getfield 449, 3) := by decide +kernel
theorem dX12_draw_20 : decode cX12_draw 20 = .ok (.bipush 33, 2) := by decide +kernel
theorem dX12_draw_22 : decode cX12_draw 22 = .ok (.lushr, 1) := by decide +kernel
theorem dX12_draw_23 : decode cX12_draw 23 = .ok (.iload_n 1, 1) := by decide +kernel
theorem dX12_draw_24 : decode cX12_draw 24 = .ok (.i2l, 1) := by decide +kernel
theorem dX12_draw_25 : decode cX12_draw 25 = .ok (.lrem, 1) := by decide +kernel
theorem dX12_draw_26 : decode cX12_draw 26 = .ok (.l2i, 1) := by decide +kernel
theorem dX12_draw_27 : decode cX12_draw 27 = .ok (.ireturn, 1) := by decide +kernel
theorem dX12_isEased_0 : decode cX12_isEased 0 = .ok (.iload_n 1, 1) := by decide +kernel
theorem dX12_isEased_1 : decode cX12_isEased 1 = .ok (.ifCond .ne 5, 3) := by decide +kernel
theorem dX12_isEased_4 : decode cX12_isEased 4 = .ok (.iconst 0, 1) := by decide +kernel
theorem dX12_isEased_5 : decode cX12_isEased 5 = .ok (.ireturn, 1) := by decide +kernel
theorem dX12_isEased_6 : decode cX12_isEased 6 = .ok (.aload_n 0, 1) := by decide +kernel
theorem dX12_isEased_7 : decode cX12_isEased 7 = .ok (.aload_n 0, 1) := by decide +kernel
theorem dX12_isEased_8 : decode cX12_isEased 8 = .ok (.getfield 122, 3) := by decide +kernel
theorem dX12_isEased_11 : decode cX12_isEased 11 = .ok (.iload_n 1, 1) := by decide +kernel
theorem dX12_isEased_12 : decode cX12_isEased 12 = .ok (.iaload, 1) := by decide +kernel
theorem dX12_isEased_13 : decode cX12_isEased 13 = .ok (.aload_n 0, 1) := by decide +kernel
theorem dX12_isEased_14 : decode cX12_isEased 14 = .ok (.getfield 125, 3) := by decide +kernel
theorem dX12_isEased_17 : decode cX12_isEased 17 = .ok (.iload_n 1, 1) := by decide +kernel
theorem dX12_isEased_18 : decode cX12_isEased 18 = .ok (.iaload, 1) := by decide +kernel
theorem dX12_isEased_19 : decode cX12_isEased 19 = .ok (.invokevirtual 303, 3) := by decide +kernel
theorem dX12_isEased_22 : decode cX12_isEased 22 = .ok (.istore_n 2, 1) := by decide +kernel
theorem dX12_isEased_23 : decode cX12_isEased 23 = .ok (.iload_n 2, 1) := by decide +kernel
theorem dX12_isEased_24 : decode cX12_isEased 24 = .ok (.iconst (-1), 1) := by decide +kernel
theorem dX12_isEased_25 : decode cX12_isEased 25 = .ok (.if_icmp .eq 31, 3) := by decide +kernel
theorem dX12_isEased_28 : decode cX12_isEased 28 = .ok (.iload_n 2, 1) := by decide +kernel
theorem dX12_isEased_29 : decode cX12_isEased 29 = .ok (.aload_n 0, 1) := by decide +kernel
theorem dX12_isEased_30 : decode cX12_isEased 30 = .ok (.aload_n 0, 1) := by decide +kernel
theorem dX12_isEased_31 : decode cX12_isEased 31 = .ok (.getfield 122, 3) := by decide +kernel
theorem dX12_isEased_34 : decode cX12_isEased 34 = .ok (.iload_n 1, 1) := by decide +kernel
theorem dX12_isEased_35 : decode cX12_isEased 35 = .ok (.iconst 1, 1) := by decide +kernel
theorem dX12_isEased_36 : decode cX12_isEased 36 = .ok (.isub, 1) := by decide +kernel
theorem dX12_isEased_37 : decode cX12_isEased 37 = .ok (.iaload, 1) := by decide +kernel
theorem dX12_isEased_38 : decode cX12_isEased 38 = .ok (.aload_n 0, 1) := by decide +kernel
theorem dX12_isEased_39 : decode cX12_isEased 39 = .ok (.getfield 125, 3) := by decide +kernel
theorem dX12_isEased_42 : decode cX12_isEased 42 = .ok (.iload_n 1, 1) := by decide +kernel
theorem dX12_isEased_43 : decode cX12_isEased 43 = .ok (.iconst 1, 1) := by decide +kernel
theorem dX12_isEased_44 : decode cX12_isEased 44 = .ok (.isub, 1) := by decide +kernel
theorem dX12_isEased_45 : decode cX12_isEased 45 = .ok (.iaload, 1) := by decide +kernel
theorem dX12_isEased_46 : decode cX12_isEased 46 = .ok (.invokevirtual 303, 3) := by decide +kernel
theorem dX12_isEased_49 : decode cX12_isEased 49 = .ok (.if_icmp .ne 7, 3) := by decide +kernel
theorem dX12_isEased_52 : decode cX12_isEased 52 = .ok (.iconst 1, 1) := by decide +kernel
theorem dX12_isEased_53 : decode cX12_isEased 53 = .ok (.goto 4, 3) := by decide +kernel
theorem dX12_isEased_56 : decode cX12_isEased 56 = .ok (.iconst 0, 1) := by decide +kernel
theorem dX12_isEased_57 : decode cX12_isEased 57 = .ok (.ireturn, 1) := by decide +kernel
theorem dX12_run_0 : decode cX12_run 0 = .ok (.aload_n 0, 1) := by decide +kernel
theorem dX12_run_1 : decode cX12_run 1 = .ok (.iload_n 1, 1) := by decide +kernel
theorem dX12_run_2 : decode cX12_run 2 = .ok (.invokevirtual 344, 3) := by decide +kernel
theorem dX12_run_5 : decode cX12_run 5 = .ok (.ifCond .eq 40, 3) := by decide +kernel
theorem dX12_run_8 : decode cX12_run 8 = .ok (.iload 4, 2) := by decide +kernel
theorem dX12_run_10 : decode cX12_run 10 = .ok (.iconst 0, 1) := by decide +kernel
theorem dX12_run_11 : decode cX12_run 11 = .ok (.bipush 99, 2) := by decide +kernel
theorem dX12_run_13 : decode cX12_run 13 = .ok (.invokestatic 186, 3) := by decide +kernel
theorem dX12_run_16 : decode cX12_run 16 = .ok (.ifCond .eq 29, 3) := by decide +kernel
theorem dX12_run_19 : decode cX12_run 19 = .ok (.iload 5, 2) := by decide +kernel
theorem dX12_run_21 : decode cX12_run 21 = .ok (.iconst 0, 1) := by decide +kernel
theorem dX12_run_22 : decode cX12_run 22 = .ok (.bipush 99, 2) := by decide +kernel
theorem dX12_run_24 : decode cX12_run 24 = .ok (.invokestatic 186, 3) := by decide +kernel
theorem dX12_run_27 : decode cX12_run 27 = .ok (.ifCond .eq 18, 3) := by decide +kernel
theorem dX12_run_30 : decode cX12_run 30 = .ok (.iload 6, 2) := by decide +kernel
theorem dX12_run_32 : decode cX12_run 32 = .ok (.iconst (-1), 1) := by decide +kernel
theorem dX12_run_33 : decode cX12_run 33 = .ok (.aload_n 0, 1) := by decide +kernel
theorem dX12_run_34 : decode cX12_run 34 = .ok (.getfield 392, 3) := by decide +kernel
theorem dX12_run_37 : decode cX12_run 37 = .ok (.iconst 1, 1) := by decide +kernel
theorem dX12_run_38 : decode cX12_run 38 = .ok (.isub, 1) := by decide +kernel
theorem dX12_run_39 : decode cX12_run 39 = .ok (.invokestatic 186, 3) := by decide +kernel
theorem dX12_run_42 : decode cX12_run 42 = .ok (.ifCond .ne 5, 3) := by decide +kernel
theorem dX12_run_45 : decode cX12_run 45 = .ok (.iconst (-1), 1) := by decide +kernel
theorem dX12_run_46 : decode cX12_run 46 = .ok (.ireturn, 1) := by decide +kernel
theorem dX12_run_47 : decode cX12_run 47 = .ok (.aload_n 0, 1) := by decide +kernel
theorem dX12_run_48 : decode cX12_run 48 = .ok (.lload_n 2, 1) := by decide +kernel
theorem dX12_run_49 : decode cX12_run 49 = .ok (.putfield 449, 3) := by decide +kernel
theorem dX12_run_52 : decode cX12_run 52 = .ok (.iconst 0, 1) := by decide +kernel
theorem dX12_run_53 : decode cX12_run 53 = .ok (.istore 7, 2) := by decide +kernel
theorem dX12_run_55 : decode cX12_run 55 = .ok (.iconst (-1), 1) := by decide +kernel
theorem dX12_run_56 : decode cX12_run 56 = .ok (.istore 8, 2) := by decide +kernel
theorem dX12_run_58 : decode cX12_run 58 = .ok (.iconst 0, 1) := by decide +kernel
theorem dX12_run_59 : decode cX12_run 59 = .ok (.istore 9, 2) := by decide +kernel
theorem dX12_run_61 : decode cX12_run 61 = .ok (.iload 9, 2) := by decide +kernel
theorem dX12_run_63 : decode cX12_run 63 = .ok (.aload_n 0, 1) := by decide +kernel
theorem dX12_run_64 : decode cX12_run 64 = .ok (.getfield 392, 3) := by decide +kernel
theorem dX12_run_67 : decode cX12_run 67 = .ok (.if_icmp .ge 111, 3) := by decide +kernel
theorem dX12_run_70 : decode cX12_run 70 = .ok (.iconst (-1), 1) := by decide +kernel
theorem dX12_run_71 : decode cX12_run 71 = .ok (.istore 10, 2) := by decide +kernel
theorem dX12_run_73 : decode cX12_run 73 = .ok (.aload_n 0, 1) := by decide +kernel
theorem dX12_run_74 : decode cX12_run 74 = .ok (.iload_n 1, 1) := by decide +kernel
theorem dX12_run_75 : decode cX12_run 75 = .ok (.aload_n 0, 1) := by decide +kernel
theorem dX12_run_76 : decode cX12_run 76 = .ok (.getfield 122, 3) := by decide +kernel
theorem dX12_run_79 : decode cX12_run 79 = .ok (.iload 9, 2) := by decide +kernel
theorem dX12_run_81 : decode cX12_run 81 = .ok (.iaload, 1) := by decide +kernel
theorem dX12_run_82 : decode cX12_run 82 = .ok (.aload_n 0, 1) := by decide +kernel
theorem dX12_run_83 : decode cX12_run 83 = .ok (.getfield 125, 3) := by decide +kernel
theorem dX12_run_86 : decode cX12_run 86 = .ok (.iload 9, 2) := by decide +kernel
theorem dX12_run_88 : decode cX12_run 88 = .ok (.iaload, 1) := by decide +kernel
theorem dX12_run_89 : decode cX12_run 89 = .ok (.aload_n 0, 1) := by decide +kernel
theorem dX12_run_90 : decode cX12_run 90 = .ok (.getfield 128, 3) := by decide +kernel
theorem dX12_run_93 : decode cX12_run 93 = .ok (.iload 9, 2) := by decide +kernel
theorem dX12_run_95 : decode cX12_run 95 = .ok (.iaload, 1) := by decide +kernel
theorem dX12_run_96 : decode cX12_run 96 = .ok (.aload_n 0, 1) := by decide +kernel
theorem dX12_run_97 : decode cX12_run 97 = .ok (.getfield 131, 3) := by decide +kernel
theorem dX12_run_100 : decode cX12_run 100 = .ok (.iload 9, 2) := by decide +kernel
theorem dX12_run_102 : decode cX12_run 102 = .ok (.iaload, 1) := by decide +kernel
theorem dX12_run_103 : decode cX12_run 103 = .ok (.invokevirtual 356, 3) := by decide +kernel
theorem dX12_run_106 : decode cX12_run 106 = .ok (.ifCond .eq 50, 3) := by decide +kernel
theorem dX12_run_109 : decode cX12_run 109 = .ok (.aload_n 0, 1) := by decide +kernel
theorem dX12_run_110 : decode cX12_run 110 = .ok (.getfield 353, 3) := by decide +kernel
theorem dX12_run_113 : decode cX12_run 113 = .ok (.aload_n 0, 1) := by decide +kernel
theorem dX12_run_114 : decode cX12_run 114 = .ok (.iload 4, 2) := by decide +kernel
theorem dX12_run_116 : decode cX12_run 116 = .ok (.iconst 1, 1) := by decide +kernel
theorem dX12_run_117 : decode cX12_run 117 = .ok (.iadd, 1) := by decide +kernel
theorem dX12_run_118 : decode cX12_run 118 = .ok (.invokevirtual 457, 3) := by decide +kernel
theorem dX12_run_121 : decode cX12_run 121 = .ok (.iadd, 1) := by decide +kernel
theorem dX12_run_122 : decode cX12_run 122 = .ok (.istore 11, 2) := by decide +kernel
theorem dX12_run_124 : decode cX12_run 124 = .ok (.aload_n 0, 1) := by decide +kernel
theorem dX12_run_125 : decode cX12_run 125 = .ok (.iload 9, 2) := by decide +kernel
theorem dX12_run_127 : decode cX12_run 127 = .ok (.invokevirtual 460, 3) := by decide +kernel
theorem dX12_run_130 : decode cX12_run 130 = .ok (.ifCond .eq 15, 3) := by decide +kernel
theorem dX12_run_133 : decode cX12_run 133 = .ok (.iconst 0, 1) := by decide +kernel
theorem dX12_run_134 : decode cX12_run 134 = .ok (.iload 11, 2) := by decide +kernel
theorem dX12_run_136 : decode cX12_run 136 = .ok (.iload 5, 2) := by decide +kernel
theorem dX12_run_138 : decode cX12_run 138 = .ok (.isub, 1) := by decide +kernel
theorem dX12_run_139 : decode cX12_run 139 = .ok (.invokestatic 239, 3) := by decide +kernel
theorem dX12_run_142 : decode cX12_run 142 = .ok (.goto 5, 3) := by decide +kernel
theorem dX12_run_145 : decode cX12_run 145 = .ok (.iload 11, 2) := by decide +kernel
theorem dX12_run_147 : decode cX12_run 147 = .ok (.istore 10, 2) := by decide +kernel
theorem dX12_run_149 : decode cX12_run 149 = .ok (.iload 7, 2) := by decide +kernel
theorem dX12_run_151 : decode cX12_run 151 = .ok (.iload 10, 2) := by decide +kernel
theorem dX12_run_153 : decode cX12_run 153 = .ok (.iadd, 1) := by decide +kernel
theorem dX12_run_154 : decode cX12_run 154 = .ok (.istore 7, 2) := by decide +kernel
theorem dX12_run_156 : decode cX12_run 156 = .ok (.iload 9, 2) := by decide +kernel
theorem dX12_run_158 : decode cX12_run 158 = .ok (.iload 6, 2) := by decide +kernel
theorem dX12_run_160 : decode cX12_run 160 = .ok (.if_icmp .ne 8, 3) := by decide +kernel
theorem dX12_run_163 : decode cX12_run 163 = .ok (.iload 10, 2) := by decide +kernel
theorem dX12_run_165 : decode cX12_run 165 = .ok (.goto 5, 3) := by decide +kernel
theorem dX12_run_168 : decode cX12_run 168 = .ok (.iload 8, 2) := by decide +kernel
theorem dX12_run_170 : decode cX12_run 170 = .ok (.istore 8, 2) := by decide +kernel
theorem dX12_run_172 : decode cX12_run 172 = .ok (.iinc 9 1, 3) := by decide +kernel
theorem dX12_run_175 : decode cX12_run 175 = .ok (.goto (-114), 3) := by decide +kernel
theorem dX12_run_178 : decode cX12_run 178 = .ok (.iload 6, 2) := by decide +kernel
theorem dX12_run_180 : decode cX12_run 180 = .ok (.iconst (-1), 1) := by decide +kernel
theorem dX12_run_181 : decode cX12_run 181 = .ok (.if_icmp .ne 8, 3) := by decide +kernel
theorem dX12_run_184 : decode cX12_run 184 = .ok (.iload 7, 2) := by decide +kernel
theorem dX12_run_186 : decode cX12_run 186 = .ok (.goto 5, 3) := by decide +kernel
theorem dX12_run_189 : decode cX12_run 189 = .ok (.iload 8, 2) := by decide +kernel
theorem dX12_run_191 : decode cX12_run 191 = .ok (.ireturn, 1) := by decide +kernel
theorem dX12_areYears_0 : decode cX12_areYears 0 = .ok (.iload_n 1, 1) := by decide +kernel
theorem dX12_areYears_1 : decode cX12_areYears 1 = .ok (.iconst 1, 1) := by decide +kernel
theorem dX12_areYears_2 : decode cX12_areYears 2 = .ok (.sipush 9999, 3) := by decide +kernel
theorem dX12_areYears_5 : decode cX12_areYears 5 = .ok (.invokestatic 186, 3) := by decide +kernel
theorem dX12_areYears_8 : decode cX12_areYears 8 = .ok (.ifCond .eq 18, 3) := by decide +kernel
theorem dX12_areYears_11 : decode cX12_areYears 11 = .ok (.iload_n 2, 1) := by decide +kernel
theorem dX12_areYears_12 : decode cX12_areYears 12 = .ok (.iload_n 1, 1) := by decide +kernel
theorem dX12_areYears_13 : decode cX12_areYears 13 = .ok (.sipush 9999, 3) := by decide +kernel
theorem dX12_areYears_16 : decode cX12_areYears 16 = .ok (.invokestatic 186, 3) := by decide +kernel
theorem dX12_areYears_19 : decode cX12_areYears 19 = .ok (.ifCond .eq 7, 3) := by decide +kernel
theorem dX12_areYears_22 : decode cX12_areYears 22 = .ok (.iconst 1, 1) := by decide +kernel
theorem dX12_areYears_23 : decode cX12_areYears 23 = .ok (.goto 4, 3) := by decide +kernel
theorem dX12_areYears_26 : decode cX12_areYears 26 = .ok (.iconst 0, 1) := by decide +kernel
theorem dX12_areYears_27 : decode cX12_areYears 27 = .ok (.ireturn, 1) := by decide +kernel
theorem dX12_holds_0 : decode cX12_holds 0 = .ok (.aload_n 0, 1) := by decide +kernel
theorem dX12_holds_1 : decode cX12_holds 1 = .ok (.iload_n 1, 1) := by decide +kernel
theorem dX12_holds_2 : decode cX12_holds 2 = .ok (.invokevirtual 344, 3) := by decide +kernel
theorem dX12_holds_5 : decode cX12_holds 5 = .ok (.ifCond .eq 22, 3) := by decide +kernel
theorem dX12_holds_8 : decode cX12_holds 8 = .ok (.aload_n 0, 1) := by decide +kernel
theorem dX12_holds_9 : decode cX12_holds 9 = .ok (.iload_n 2, 1) := by decide +kernel
theorem dX12_holds_10 : decode cX12_holds 10 = .ok (.invokevirtual 280, 3) := by decide +kernel
theorem dX12_holds_13 : decode cX12_holds 13 = .ok (.ifCond .eq 14, 3) := by decide +kernel
theorem dX12_holds_16 : decode cX12_holds 16 = .ok (.aload_n 0, 1) := by decide +kernel
theorem dX12_holds_17 : decode cX12_holds 17 = .ok (.iload 5, 2) := by decide +kernel
theorem dX12_holds_19 : decode cX12_holds 19 = .ok (.iload 6, 2) := by decide +kernel
theorem dX12_holds_21 : decode cX12_holds 21 = .ok (.invokevirtual 463, 3) := by decide +kernel
theorem dX12_holds_24 : decode cX12_holds 24 = .ok (.ifCond .ne 5, 3) := by decide +kernel
theorem dX12_holds_27 : decode cX12_holds 27 = .ok (.iconst (-1), 1) := by decide +kernel
theorem dX12_holds_28 : decode cX12_holds 28 = .ok (.ireturn, 1) := by decide +kernel
theorem dX12_holds_29 : decode cX12_holds 29 = .ok (.iload_n 3, 1) := by decide +kernel
theorem dX12_holds_30 : decode cX12_holds 30 = .ok (.ifCond .ne 46, 3) := by decide +kernel
theorem dX12_holds_33 : decode cX12_holds 33 = .ok (.iload 4, 2) := by decide +kernel
theorem dX12_holds_35 : decode cX12_holds 35 = .ok (.iconst 0, 1) := by decide +kernel
theorem dX12_holds_36 : decode cX12_holds 36 = .ok (.aload_n 0, 1) := by decide +kernel
theorem dX12_holds_37 : decode cX12_holds 37 = .ok (.getfield 51, 3) := by decide +kernel
theorem dX12_holds_40 : decode cX12_holds 40 = .ok (.iload_n 1, 1) := by decide +kernel
theorem dX12_holds_41 : decode cX12_holds 41 = .ok (.iaload, 1) := by decide +kernel
theorem dX12_holds_42 : decode cX12_holds 42 = .ok (.iconst 1, 1) := by decide +kernel
theorem dX12_holds_43 : decode cX12_holds 43 = .ok (.isub, 1) := by decide +kernel
theorem dX12_holds_44 : decode cX12_holds 44 = .ok (.invokestatic 186, 3) := by decide +kernel
theorem dX12_holds_47 : decode cX12_holds 47 = .ok (.ifCond .eq 27, 3) := by decide +kernel
theorem dX12_holds_50 : decode cX12_holds 50 = .ok (.aload_n 0, 1) := by decide +kernel
theorem dX12_holds_51 : decode cX12_holds 51 = .ok (.iload_n 2, 1) := by decide +kernel
theorem dX12_holds_52 : decode cX12_holds 52 = .ok (.aload_n 0, 1) := by decide +kernel
theorem dX12_holds_53 : decode cX12_holds 53 = .ok (.getfield 54, 3) := by decide +kernel
theorem dX12_holds_56 : decode cX12_holds 56 = .ok (.bipush 6, 2) := by decide +kernel
theorem dX12_holds_58 : decode cX12_holds 58 = .ok (.iload_n 1, 1) := by decide +kernel
theorem dX12_holds_59 : decode cX12_holds 59 = .ok (.imul, 1) := by decide +kernel
theorem dX12_holds_60 : decode cX12_holds 60 = .ok (.iload 4, 2) := by decide +kernel
theorem dX12_holds_62 : decode cX12_holds 62 = .ok (.iadd, 1) := by decide +kernel
theorem dX12_holds_63 : decode cX12_holds 63 = .ok (.iaload, 1) := by decide +kernel
theorem dX12_holds_64 : decode cX12_holds 64 = .ok (.iload 5, 2) := by decide +kernel
theorem dX12_holds_66 : decode cX12_holds 66 = .ok (.iload 6, 2) := by decide +kernel
theorem dX12_holds_68 : decode cX12_holds 68 = .ok (.invokevirtual 466, 3) := by decide +kernel
theorem dX12_holds_71 : decode cX12_holds 71 = .ok (.goto 4, 3) := by decide +kernel
theorem dX12_holds_74 : decode cX12_holds 74 = .ok (.iconst (-1), 1) := by decide +kernel
theorem dX12_holds_75 : decode cX12_holds 75 = .ok (.ireturn, 1) := by decide +kernel
theorem dX12_holds_76 : decode cX12_holds 76 = .ok (.iload_n 3, 1) := by decide +kernel
theorem dX12_holds_77 : decode cX12_holds 77 = .ok (.iconst 1, 1) := by decide +kernel
theorem dX12_holds_78 : decode cX12_holds 78 = .ok (.if_icmp .ne 56, 3) := by decide +kernel
theorem dX12_holds_81 : decode cX12_holds 81 = .ok (.iload 4, 2) := by decide +kernel
theorem dX12_holds_83 : decode cX12_holds 83 = .ok (.iconst 0, 1) := by decide +kernel
theorem dX12_holds_84 : decode cX12_holds 84 = .ok (.aload_n 0, 1) := by decide +kernel
theorem dX12_holds_85 : decode cX12_holds 85 = .ok (.getfield 60, 3) := by decide +kernel
theorem dX12_holds_88 : decode cX12_holds 88 = .ok (.iload_n 1, 1) := by decide +kernel
theorem dX12_holds_89 : decode cX12_holds 89 = .ok (.iaload, 1) := by decide +kernel
theorem dX12_holds_90 : decode cX12_holds 90 = .ok (.iconst 1, 1) := by decide +kernel
theorem dX12_holds_91 : decode cX12_holds 91 = .ok (.isub, 1) := by decide +kernel
theorem dX12_holds_92 : decode cX12_holds 92 = .ok (.invokestatic 186, 3) := by decide +kernel
theorem dX12_holds_95 : decode cX12_holds 95 = .ok (.ifCond .eq 39, 3) := by decide +kernel
theorem dX12_holds_98 : decode cX12_holds 98 = .ok (.aload_n 0, 1) := by decide +kernel
theorem dX12_holds_99 : decode cX12_holds 99 = .ok (.iload_n 2, 1) := by decide +kernel
theorem dX12_holds_100 : decode cX12_holds 100 = .ok (.aload_n 0, 1) := by decide +kernel
theorem dX12_holds_101 : decode cX12_holds 101 = .ok (.getfield 63, 3) := by decide +kernel
theorem dX12_holds_104 : decode cX12_holds 104 = .ok (.bipush 12, 2) := by decide +kernel
theorem dX12_holds_106 : decode cX12_holds 106 = .ok (.iload_n 1, 1) := by decide +kernel
theorem dX12_holds_107 : decode cX12_holds 107 = .ok (.imul, 1) := by decide +kernel
theorem dX12_holds_108 : decode cX12_holds 108 = .ok (.iload 4, 2) := by decide +kernel
theorem dX12_holds_110 : decode cX12_holds 110 = .ok (.iadd, 1) := by decide +kernel
theorem dX12_holds_111 : decode cX12_holds 111 = .ok (.iaload, 1) := by decide +kernel
theorem dX12_holds_112 : decode cX12_holds 112 = .ok (.aload_n 0, 1) := by decide +kernel
theorem dX12_holds_113 : decode cX12_holds 113 = .ok (.getfield 66, 3) := by decide +kernel
theorem dX12_holds_116 : decode cX12_holds 116 = .ok (.bipush 12, 2) := by decide +kernel
theorem dX12_holds_118 : decode cX12_holds 118 = .ok (.iload_n 1, 1) := by decide +kernel
theorem dX12_holds_119 : decode cX12_holds 119 = .ok (.imul, 1) := by decide +kernel
theorem dX12_holds_120 : decode cX12_holds 120 = .ok (.iload 4, 2) := by decide +kernel
theorem dX12_holds_122 : decode cX12_holds 122 = .ok (.iadd, 1) := by decide +kernel
theorem dX12_holds_123 : decode cX12_holds 123 = .ok (.iaload, 1) := by decide +kernel
theorem dX12_holds_124 : decode cX12_holds 124 = .ok (.iload 5, 2) := by decide +kernel
theorem dX12_holds_126 : decode cX12_holds 126 = .ok (.iload 6, 2) := by decide +kernel
theorem dX12_holds_128 : decode cX12_holds 128 = .ok (.invokevirtual 469, 3) := by decide +kernel
theorem dX12_holds_131 : decode cX12_holds 131 = .ok (.goto 4, 3) := by decide +kernel
theorem dX12_holds_134 : decode cX12_holds 134 = .ok (.iconst (-1), 1) := by decide +kernel
theorem dX12_holds_135 : decode cX12_holds 135 = .ok (.ireturn, 1) := by decide +kernel
theorem dX12_stepTrue_0 : decode cX12_stepTrue 0 = .ok (.iconst 0, 1) := by decide +kernel
theorem dX12_stepTrue_1 : decode cX12_stepTrue 1 = .ok (.istore 5, 2) := by decide +kernel
theorem dX12_stepTrue_3 : decode cX12_stepTrue 3 = .ok (.iload_n 3, 1) := by decide +kernel
theorem dX12_stepTrue_4 : decode cX12_stepTrue 4 = .ok (.istore 6, 2) := by decide +kernel
theorem dX12_stepTrue_6 : decode cX12_stepTrue 6 = .ok (.iload 6, 2) := by decide +kernel
theorem dX12_stepTrue_8 : decode cX12_stepTrue 8 = .ok (.iload_n 2, 1) := by decide +kernel
theorem dX12_stepTrue_9 : decode cX12_stepTrue 9 = .ok (.iadd, 1) := by decide +kernel
theorem dX12_stepTrue_10 : decode cX12_stepTrue 10 = .ok (.iload 4, 2) := by decide +kernel
theorem dX12_stepTrue_12 : decode cX12_stepTrue 12 = .ok (.if_icmp .gt 48, 3) := by decide +kernel
theorem dX12_stepTrue_15 : decode cX12_stepTrue 15 = .ok (.aload_n 0, 1) := by decide +kernel
theorem dX12_stepTrue_16 : decode cX12_stepTrue 16 = .ok (.iload_n 1, 1) := by decide +kernel
theorem dX12_stepTrue_17 : decode cX12_stepTrue 17 = .ok (.iload 6, 2) := by decide +kernel
theorem dX12_stepTrue_19 : decode cX12_stepTrue 19 = .ok (.invokevirtual 303, 3) := by decide +kernel
theorem dX12_stepTrue_22 : decode cX12_stepTrue 22 = .ok (.istore 7, 2) := by decide +kernel
theorem dX12_stepTrue_24 : decode cX12_stepTrue 24 = .ok (.iload 5, 2) := by decide +kernel
theorem dX12_stepTrue_26 : decode cX12_stepTrue 26 = .ok (.iload 7, 2) := by decide +kernel
theorem dX12_stepTrue_28 : decode cX12_stepTrue 28 = .ok (.iconst (-1), 1) := by decide +kernel
theorem dX12_stepTrue_29 : decode cX12_stepTrue 29 = .ok (.if_icmp .eq 21, 3) := by decide +kernel
theorem dX12_stepTrue_32 : decode cX12_stepTrue 32 = .ok (.iload 7, 2) := by decide +kernel
theorem dX12_stepTrue_34 : decode cX12_stepTrue 34 = .ok (.aload_n 0, 1) := by decide +kernel
theorem dX12_stepTrue_35 : decode cX12_stepTrue 35 = .ok (.iload_n 1, 1) := by decide +kernel
theorem dX12_stepTrue_36 : decode cX12_stepTrue 36 = .ok (.iload 6, 2) := by decide +kernel
theorem dX12_stepTrue_38 : decode cX12_stepTrue 38 = .ok (.iload_n 2, 1) := by decide +kernel
theorem dX12_stepTrue_39 : decode cX12_stepTrue 39 = .ok (.iadd, 1) := by decide +kernel
theorem dX12_stepTrue_40 : decode cX12_stepTrue 40 = .ok (.invokevirtual 303, 3) := by decide +kernel
theorem dX12_stepTrue_43 : decode cX12_stepTrue 43 = .ok (.if_icmp .ne 7, 3) := by decide +kernel
theorem dX12_stepTrue_46 : decode cX12_stepTrue 46 = .ok (.iconst 1, 1) := by decide +kernel
theorem dX12_stepTrue_47 : decode cX12_stepTrue 47 = .ok (.goto 4, 3) := by decide +kernel
theorem dX12_stepTrue_50 : decode cX12_stepTrue 50 = .ok (.iconst 0, 1) := by decide +kernel
theorem dX12_stepTrue_51 : decode cX12_stepTrue 51 = .ok (.iadd, 1) := by decide +kernel
theorem dX12_stepTrue_52 : decode cX12_stepTrue 52 = .ok (.istore 5, 2) := by decide +kernel
theorem dX12_stepTrue_54 : decode cX12_stepTrue 54 = .ok (.iinc 6 1, 3) := by decide +kernel
theorem dX12_stepTrue_57 : decode cX12_stepTrue 57 = .ok (.goto (-51), 3) := by decide +kernel
theorem dX12_stepTrue_60 : decode cX12_stepTrue 60 = .ok (.iload 5, 2) := by decide +kernel
theorem dX12_stepTrue_62 : decode cX12_stepTrue 62 = .ok (.ireturn, 1) := by decide +kernel
theorem dX12_monthsTrue_0 : decode cX12_monthsTrue 0 = .ok (.iconst 0, 1) := by decide +kernel
theorem dX12_monthsTrue_1 : decode cX12_monthsTrue 1 = .ok (.istore 6, 2) := by decide +kernel
theorem dX12_monthsTrue_3 : decode cX12_monthsTrue 3 = .ok (.iload 4, 2) := by decide +kernel
theorem dX12_monthsTrue_5 : decode cX12_monthsTrue 5 = .ok (.istore 7, 2) := by decide +kernel
theorem dX12_monthsTrue_7 : decode cX12_monthsTrue 7 = .ok (.iload 7, 2) := by decide +kernel
theorem dX12_monthsTrue_9 : decode cX12_monthsTrue 9 = .ok (.iload 5, 2) := by decide +kernel
theorem dX12_monthsTrue_11 : decode cX12_monthsTrue 11 = .ok (.if_icmp .gt 70, 3) := by decide +kernel
theorem dX12_monthsTrue_14 : decode cX12_monthsTrue 14 = .ok (.iload 6, 2) := by decide +kernel
theorem dX12_monthsTrue_16 : decode cX12_monthsTrue 16 = .ok (.aload_n 0, 1) := by decide +kernel
theorem dX12_monthsTrue_17 : decode cX12_monthsTrue 17 = .ok (.iload_n 1, 1) := by decide +kernel
theorem dX12_monthsTrue_18 : decode cX12_monthsTrue 18 = .ok (.iload 7, 2) := by decide +kernel
theorem dX12_monthsTrue_20 : decode cX12_monthsTrue 20 = .ok (.iload_n 2, 1) := by decide +kernel
theorem dX12_monthsTrue_21 : decode cX12_monthsTrue 21 = .ok (.iconst 1, 1) := by decide +kernel
theorem dX12_monthsTrue_22 : decode cX12_monthsTrue 22 = .ok (.invokevirtual 287, 3) := by decide +kernel
theorem dX12_monthsTrue_25 : decode cX12_monthsTrue 25 = .ok (.ifCond .eq 46, 3) := by decide +kernel
theorem dX12_monthsTrue_28 : decode cX12_monthsTrue 28 = .ok (.aload_n 0, 1) := by decide +kernel
theorem dX12_monthsTrue_29 : decode cX12_monthsTrue 29 = .ok (.iload_n 1, 1) := by decide +kernel
theorem dX12_monthsTrue_30 : decode cX12_monthsTrue 30 = .ok (.iload 7, 2) := by decide +kernel
theorem dX12_monthsTrue_32 : decode cX12_monthsTrue 32 = .ok (.iload_n 3, 1) := by decide +kernel
theorem dX12_monthsTrue_33 : decode cX12_monthsTrue 33 = .ok (.iconst 1, 1) := by decide +kernel
theorem dX12_monthsTrue_34 : decode cX12_monthsTrue 34 = .ok (.invokevirtual 287, 3) := by decide +kernel
theorem dX12_monthsTrue_37 : decode cX12_monthsTrue 37 = .ok (.ifCond .eq 34, 3) := by decide +kernel
theorem dX12_monthsTrue_40 : decode cX12_monthsTrue 40 = .ok (.aload_n 0, 1) := by decide +kernel
theorem dX12_monthsTrue_41 : decode cX12_monthsTrue 41 = .ok (.iload_n 1, 1) := by decide +kernel
theorem dX12_monthsTrue_42 : decode cX12_monthsTrue 42 = .ok (.iload 7, 2) := by decide +kernel
theorem dX12_monthsTrue_44 : decode cX12_monthsTrue 44 = .ok (.iload_n 2, 1) := by decide +kernel
theorem dX12_monthsTrue_45 : decode cX12_monthsTrue 45 = .ok (.iconst 1, 1) := by decide +kernel
theorem dX12_monthsTrue_46 : decode cX12_monthsTrue 46 = .ok (.invokevirtual 291, 3) := by decide +kernel
theorem dX12_monthsTrue_49 : decode cX12_monthsTrue 49 = .ok (.bipush 7, 2) := by decide +kernel
theorem dX12_monthsTrue_51 : decode cX12_monthsTrue 51 = .ok (.irem, 1) := by decide +kernel
theorem dX12_monthsTrue_52 : decode cX12_monthsTrue 52 = .ok (.aload_n 0, 1) := by decide +kernel
theorem dX12_monthsTrue_53 : decode cX12_monthsTrue 53 = .ok (.iload_n 1, 1) := by decide +kernel
theorem dX12_monthsTrue_54 : decode cX12_monthsTrue 54 = .ok (.iload 7, 2) := by decide +kernel
theorem dX12_monthsTrue_56 : decode cX12_monthsTrue 56 = .ok (.iload_n 3, 1) := by decide +kernel
theorem dX12_monthsTrue_57 : decode cX12_monthsTrue 57 = .ok (.iconst 1, 1) := by decide +kernel
theorem dX12_monthsTrue_58 : decode cX12_monthsTrue 58 = .ok (.invokevirtual 291, 3) := by decide +kernel
theorem dX12_monthsTrue_61 : decode cX12_monthsTrue 61 = .ok (.bipush 7, 2) := by decide +kernel
theorem dX12_monthsTrue_63 : decode cX12_monthsTrue 63 = .ok (.irem, 1) := by decide +kernel
theorem dX12_monthsTrue_64 : decode cX12_monthsTrue 64 = .ok (.if_icmp .ne 7, 3) := by decide +kernel
theorem dX12_monthsTrue_67 : decode cX12_monthsTrue 67 = .ok (.iconst 1, 1) := by decide +kernel
theorem dX12_monthsTrue_68 : decode cX12_monthsTrue 68 = .ok (.goto 4, 3) := by decide +kernel
theorem dX12_monthsTrue_71 : decode cX12_monthsTrue 71 = .ok (.iconst 0, 1) := by decide +kernel
theorem dX12_monthsTrue_72 : decode cX12_monthsTrue 72 = .ok (.iadd, 1) := by decide +kernel
theorem dX12_monthsTrue_73 : decode cX12_monthsTrue 73 = .ok (.istore 6, 2) := by decide +kernel
theorem dX12_monthsTrue_75 : decode cX12_monthsTrue 75 = .ok (.iinc 7 1, 3) := by decide +kernel
theorem dX12_monthsTrue_78 : decode cX12_monthsTrue 78 = .ok (.goto (-71), 3) := by decide +kernel
theorem dX12_monthsTrue_81 : decode cX12_monthsTrue 81 = .ok (.iload 6, 2) := by decide +kernel
theorem dX12_monthsTrue_83 : decode cX12_monthsTrue 83 = .ok (.ireturn, 1) := by decide +kernel
theorem dX12_right_0 : decode cX12_right 0 = .ok (.aload_n 0, 1) := by decide +kernel
theorem dX12_right_1 : decode cX12_right 1 = .ok (.iload_n 1, 1) := by decide +kernel
theorem dX12_right_2 : decode cX12_right 2 = .ok (.invokevirtual 344, 3) := by decide +kernel
theorem dX12_right_5 : decode cX12_right 5 = .ok (.ifCond .eq 32, 3) := by decide +kernel
theorem dX12_right_8 : decode cX12_right 8 = .ok (.aload_n 0, 1) := by decide +kernel
theorem dX12_right_9 : decode cX12_right 9 = .ok (.iload_n 2, 1) := by decide +kernel
theorem dX12_right_10 : decode cX12_right 10 = .ok (.invokevirtual 280, 3) := by decide +kernel
theorem dX12_right_13 : decode cX12_right 13 = .ok (.ifCond .eq 24, 3) := by decide +kernel
theorem dX12_right_16 : decode cX12_right 16 = .ok (.iload_n 3, 1) := by decide +kernel
theorem dX12_right_17 : decode cX12_right 17 = .ok (.iconst 1, 1) := by decide +kernel
theorem dX12_right_18 : decode cX12_right 18 = .ok (.sipush 9999, 3) := by decide +kernel
theorem dX12_right_21 : decode cX12_right 21 = .ok (.invokestatic 186, 3) := by decide +kernel
theorem dX12_right_24 : decode cX12_right 24 = .ok (.ifCond .eq 13, 3) := by decide +kernel
theorem dX12_right_27 : decode cX12_right 27 = .ok (.iload 4, 2) := by decide +kernel
theorem dX12_right_29 : decode cX12_right 29 = .ok (.iconst 0, 1) := by decide +kernel
theorem dX12_right_30 : decode cX12_right 30 = .ok (.iconst 1, 1) := by decide +kernel
theorem dX12_right_31 : decode cX12_right 31 = .ok (.invokestatic 186, 3) := by decide +kernel
theorem dX12_right_34 : decode cX12_right 34 = .ok (.ifCond .ne 5, 3) := by decide +kernel
theorem dX12_right_37 : decode cX12_right 37 = .ok (.iconst (-1), 1) := by decide +kernel
theorem dX12_right_38 : decode cX12_right 38 = .ok (.ireturn, 1) := by decide +kernel
theorem dX12_right_39 : decode cX12_right 39 = .ok (.iconst 0, 1) := by decide +kernel
theorem dX12_right_40 : decode cX12_right 40 = .ok (.istore 5, 2) := by decide +kernel
theorem dX12_right_42 : decode cX12_right 42 = .ok (.iconst 1, 1) := by decide +kernel
theorem dX12_right_43 : decode cX12_right 43 = .ok (.istore 6, 2) := by decide +kernel
theorem dX12_right_45 : decode cX12_right 45 = .ok (.iload 6, 2) := by decide +kernel
theorem dX12_right_47 : decode cX12_right 47 = .ok (.bipush 12, 2) := by decide +kernel
theorem dX12_right_49 : decode cX12_right 49 = .ok (.if_icmp .gt 113, 3) := by decide +kernel
theorem dX12_right_52 : decode cX12_right 52 = .ok (.iconst 1, 1) := by decide +kernel
theorem dX12_right_53 : decode cX12_right 53 = .ok (.istore 7, 2) := by decide +kernel
theorem dX12_right_55 : decode cX12_right 55 = .ok (.iload 7, 2) := by decide +kernel
theorem dX12_right_57 : decode cX12_right 57 = .ok (.bipush 31, 2) := by decide +kernel
theorem dX12_right_59 : decode cX12_right 59 = .ok (.if_icmp .gt 97, 3) := by decide +kernel
theorem dX12_right_62 : decode cX12_right 62 = .ok (.aload_n 0, 1) := by decide +kernel
theorem dX12_right_63 : decode cX12_right 63 = .ok (.iload_n 2, 1) := by decide +kernel
theorem dX12_right_64 : decode cX12_right 64 = .ok (.iload_n 3, 1) := by decide +kernel
theorem dX12_right_65 : decode cX12_right 65 = .ok (.iload 6, 2) := by decide +kernel
theorem dX12_right_67 : decode cX12_right 67 = .ok (.iload 7, 2) := by decide +kernel
theorem dX12_right_69 : decode cX12_right 69 = .ok (.invokevirtual 287, 3) := by decide +kernel
theorem dX12_right_72 : decode cX12_right 72 = .ok (.ifCond .eq 21, 3) := by decide +kernel
theorem dX12_right_75 : decode cX12_right 75 = .ok (.aload_n 0, 1) := by decide +kernel
theorem dX12_right_76 : decode cX12_right 76 = .ok (.iload_n 1, 1) := by decide +kernel
theorem dX12_right_77 : decode cX12_right 77 = .ok (.iload_n 2, 1) := by decide +kernel
theorem dX12_right_78 : decode cX12_right 78 = .ok (.iload_n 3, 1) := by decide +kernel
theorem dX12_right_79 : decode cX12_right 79 = .ok (.iload 6, 2) := by decide +kernel
theorem dX12_right_81 : decode cX12_right 81 = .ok (.iload 7, 2) := by decide +kernel
theorem dX12_right_83 : decode cX12_right 83 = .ok (.invokevirtual 356, 3) := by decide +kernel
theorem dX12_right_86 : decode cX12_right 86 = .ok (.ifCond .eq 7, 3) := by decide +kernel
theorem dX12_right_89 : decode cX12_right 89 = .ok (.iconst 1, 1) := by decide +kernel
theorem dX12_right_90 : decode cX12_right 90 = .ok (.goto 4, 3) := by decide +kernel
theorem dX12_right_93 : decode cX12_right 93 = .ok (.iconst 0, 1) := by decide +kernel
theorem dX12_right_94 : decode cX12_right 94 = .ok (.istore 8, 2) := by decide +kernel
theorem dX12_right_96 : decode cX12_right 96 = .ok (.iload 5, 2) := by decide +kernel
theorem dX12_right_98 : decode cX12_right 98 = .ok (.iload 8, 2) := by decide +kernel
theorem dX12_right_100 : decode cX12_right 100 = .ok (.ifCond .eq 46, 3) := by decide +kernel
theorem dX12_right_103 : decode cX12_right 103 = .ok (.aload_n 0, 1) := by decide +kernel
theorem dX12_right_104 : decode cX12_right 104 = .ok (.getfield 350, 3) := by decide +kernel
theorem dX12_right_107 : decode cX12_right 107 = .ok (.aload_n 0, 1) := by decide +kernel
theorem dX12_right_108 : decode cX12_right 108 = .ok (.iload_n 2, 1) := by decide +kernel
theorem dX12_right_109 : decode cX12_right 109 = .ok (.iload_n 3, 1) := by decide +kernel
theorem dX12_right_110 : decode cX12_right 110 = .ok (.iload 6, 2) := by decide +kernel
theorem dX12_right_112 : decode cX12_right 112 = .ok (.iload 7, 2) := by decide +kernel
theorem dX12_right_114 : decode cX12_right 114 = .ok (.invokevirtual 291, 3) := by decide +kernel
theorem dX12_right_117 : decode cX12_right 117 = .ok (.isub, 1) := by decide +kernel
theorem dX12_right_118 : decode cX12_right 118 = .ok (.invokestatic 360, 3) := by decide +kernel
theorem dX12_right_121 : decode cX12_right 121 = .ok (.ifCond .ne 7, 3) := by decide +kernel
theorem dX12_right_124 : decode cX12_right 124 = .ok (.iconst 1, 1) := by decide +kernel
theorem dX12_right_125 : decode cX12_right 125 = .ok (.goto 4, 3) := by decide +kernel
theorem dX12_right_128 : decode cX12_right 128 = .ok (.iconst 0, 1) := by decide +kernel
theorem dX12_right_129 : decode cX12_right 129 = .ok (.iload 4, 2) := by decide +kernel
theorem dX12_right_131 : decode cX12_right 131 = .ok (.ifCond .ne 7, 3) := by decide +kernel
theorem dX12_right_134 : decode cX12_right 134 = .ok (.iconst 1, 1) := by decide +kernel
theorem dX12_right_135 : decode cX12_right 135 = .ok (.goto 4, 3) := by decide +kernel
theorem dX12_right_138 : decode cX12_right 138 = .ok (.iconst 0, 1) := by decide +kernel
theorem dX12_right_139 : decode cX12_right 139 = .ok (.if_icmp .ne 7, 3) := by decide +kernel
theorem dX12_right_142 : decode cX12_right 142 = .ok (.iconst 1, 1) := by decide +kernel
theorem dX12_right_143 : decode cX12_right 143 = .ok (.goto 4, 3) := by decide +kernel
theorem dX12_right_146 : decode cX12_right 146 = .ok (.iconst 0, 1) := by decide +kernel
theorem dX12_right_147 : decode cX12_right 147 = .ok (.iadd, 1) := by decide +kernel
theorem dX12_right_148 : decode cX12_right 148 = .ok (.istore 5, 2) := by decide +kernel
theorem dX12_right_150 : decode cX12_right 150 = .ok (.iinc 7 1, 3) := by decide +kernel
theorem dX12_right_153 : decode cX12_right 153 = .ok (.goto (-98), 3) := by decide +kernel
theorem dX12_right_156 : decode cX12_right 156 = .ok (.iinc 6 1, 3) := by decide +kernel
theorem dX12_right_159 : decode cX12_right 159 = .ok (.goto (-114), 3) := by decide +kernel
theorem dX12_right_162 : decode cX12_right 162 = .ok (.iload 5, 2) := by decide +kernel
theorem dX12_right_164 : decode cX12_right 164 = .ok (.ireturn, 1) := by decide +kernel
theorem dX12_lacks_0 : decode cX12_lacks 0 = .ok (.aload_n 0, 1) := by decide +kernel
theorem dX12_lacks_1 : decode cX12_lacks 1 = .ok (.iload_n 1, 1) := by decide +kernel
theorem dX12_lacks_2 : decode cX12_lacks 2 = .ok (.invokevirtual 344, 3) := by decide +kernel
theorem dX12_lacks_5 : decode cX12_lacks 5 = .ok (.ifCond .eq 13, 3) := by decide +kernel
theorem dX12_lacks_8 : decode cX12_lacks 8 = .ok (.iload 4, 2) := by decide +kernel
theorem dX12_lacks_10 : decode cX12_lacks 10 = .ok (.iconst 0, 1) := by decide +kernel
theorem dX12_lacks_11 : decode cX12_lacks 11 = .ok (.iconst 3, 1) := by decide +kernel
theorem dX12_lacks_12 : decode cX12_lacks 12 = .ok (.invokestatic 186, 3) := by decide +kernel
theorem dX12_lacks_15 : decode cX12_lacks 15 = .ok (.ifCond .ne 5, 3) := by decide +kernel
theorem dX12_lacks_18 : decode cX12_lacks 18 = .ok (.iconst (-1), 1) := by decide +kernel
theorem dX12_lacks_19 : decode cX12_lacks 19 = .ok (.ireturn, 1) := by decide +kernel
theorem dX12_lacks_20 : decode cX12_lacks 20 = .ok (.iload 4, 2) := by decide +kernel
theorem dX12_lacks_22 : decode cX12_lacks 22 = .ok (.iconst 3, 1) := by decide +kernel
theorem dX12_lacks_23 : decode cX12_lacks 23 = .ok (.if_icmp .ne 59, 3) := by decide +kernel
theorem dX12_lacks_26 : decode cX12_lacks 26 = .ok (.iconst 0, 1) := by decide +kernel
theorem dX12_lacks_27 : decode cX12_lacks 27 = .ok (.istore 5, 2) := by decide +kernel
theorem dX12_lacks_29 : decode cX12_lacks 29 = .ok (.iconst 1, 1) := by decide +kernel
theorem dX12_lacks_30 : decode cX12_lacks 30 = .ok (.istore 6, 2) := by decide +kernel
theorem dX12_lacks_32 : decode cX12_lacks 32 = .ok (.iload 6, 2) := by decide +kernel
theorem dX12_lacks_34 : decode cX12_lacks 34 = .ok (.bipush 12, 2) := by decide +kernel
theorem dX12_lacks_36 : decode cX12_lacks 36 = .ok (.if_icmp .gt 43, 3) := by decide +kernel
theorem dX12_lacks_39 : decode cX12_lacks 39 = .ok (.iload 5, 2) := by decide +kernel
theorem dX12_lacks_41 : decode cX12_lacks 41 = .ok (.aload_n 0, 1) := by decide +kernel
theorem dX12_lacks_42 : decode cX12_lacks 42 = .ok (.getfield 86, 3) := by decide +kernel
theorem dX12_lacks_45 : decode cX12_lacks 45 = .ok (.bipush 13, 2) := by decide +kernel
theorem dX12_lacks_47 : decode cX12_lacks 47 = .ok (.iload_n 1, 1) := by decide +kernel
theorem dX12_lacks_48 : decode cX12_lacks 48 = .ok (.imul, 1) := by decide +kernel
theorem dX12_lacks_49 : decode cX12_lacks 49 = .ok (.iload 6, 2) := by decide +kernel
theorem dX12_lacks_51 : decode cX12_lacks 51 = .ok (.iadd, 1) := by decide +kernel
theorem dX12_lacks_52 : decode cX12_lacks 52 = .ok (.laload, 1) := by decide +kernel
theorem dX12_lacks_53 : decode cX12_lacks 53 = .ok (.ldc2_w 321, 3) := by decide +kernel
theorem dX12_lacks_56 : decode cX12_lacks 56 = .ok (.lcmp, 1) := by decide +kernel
theorem dX12_lacks_57 : decode cX12_lacks 57 = .ok (.ifCond .lt 12, 3) := by decide +kernel
theorem dX12_lacks_60 : decode cX12_lacks 60 = .ok (.iconst 1, 1) := by decide +kernel
theorem dX12_lacks_61 : decode cX12_lacks 61 = .ok (.iload 6, 2) := by decide +kernel
theorem dX12_lacks_63 : decode cX12_lacks 63 = .ok (.iconst 1, 1) := by decide +kernel
theorem dX12_lacks_64 : decode cX12_lacks 64 = .ok (.isub, 1) := by decide +kernel
theorem dX12_lacks_65 : decode cX12_lacks 65 = .ok (.ishl, 1) := by decide +kernel
theorem dX12_lacks_66 : decode cX12_lacks 66 = .ok (.goto 4, 3) := by decide +kernel
theorem dX12_lacks_69 : decode cX12_lacks 69 = .ok (.iconst 0, 1) := by decide +kernel
theorem dX12_lacks_70 : decode cX12_lacks 70 = .ok (.ior, 1) := by decide +kernel
theorem dX12_lacks_71 : decode cX12_lacks 71 = .ok (.istore 5, 2) := by decide +kernel
theorem dX12_lacks_73 : decode cX12_lacks 73 = .ok (.iinc 6 1, 3) := by decide +kernel
theorem dX12_lacks_76 : decode cX12_lacks 76 = .ok (.goto (-44), 3) := by decide +kernel
theorem dX12_lacks_79 : decode cX12_lacks 79 = .ok (.iload 5, 2) := by decide +kernel
theorem dX12_lacks_81 : decode cX12_lacks 81 = .ok (.ireturn, 1) := by decide +kernel
theorem dX12_lacks_82 : decode cX12_lacks 82 = .ok (.aload_n 0, 1) := by decide +kernel
theorem dX12_lacks_83 : decode cX12_lacks 83 = .ok (.iload_n 2, 1) := by decide +kernel
theorem dX12_lacks_84 : decode cX12_lacks 84 = .ok (.iload_n 3, 1) := by decide +kernel
theorem dX12_lacks_85 : decode cX12_lacks 85 = .ok (.invokevirtual 463, 3) := by decide +kernel
theorem dX12_lacks_88 : decode cX12_lacks 88 = .ok (.ifCond .eq 15, 3) := by decide +kernel
theorem dX12_lacks_91 : decode cX12_lacks 91 = .ok (.aload_n 0, 1) := by decide +kernel
theorem dX12_lacks_92 : decode cX12_lacks 92 = .ok (.iload_n 1, 1) := by decide +kernel
theorem dX12_lacks_93 : decode cX12_lacks 93 = .ok (.iload_n 2, 1) := by decide +kernel
theorem dX12_lacks_94 : decode cX12_lacks 94 = .ok (.iload_n 3, 1) := by decide +kernel
theorem dX12_lacks_95 : decode cX12_lacks 95 = .ok (.iload 4, 2) := by decide +kernel
theorem dX12_lacks_97 : decode cX12_lacks 97 = .ok (.invokevirtual 473, 3) := by decide +kernel
theorem dX12_lacks_100 : decode cX12_lacks 100 = .ok (.goto 4, 3) := by decide +kernel
theorem dX12_lacks_103 : decode cX12_lacks 103 = .ok (.iconst (-1), 1) := by decide +kernel
theorem dX12_lacks_104 : decode cX12_lacks 104 = .ok (.ireturn, 1) := by decide +kernel
theorem dX12_yearsLack_0 : decode cX12_yearsLack 0 = .ok (.iconst 0, 1) := by decide +kernel
theorem dX12_yearsLack_1 : decode cX12_yearsLack 1 = .ok (.istore 5, 2) := by decide +kernel
theorem dX12_yearsLack_3 : decode cX12_yearsLack 3 = .ok (.iconst (-1), 1) := by decide +kernel
theorem dX12_yearsLack_4 : decode cX12_yearsLack 4 = .ok (.istore 6, 2) := by decide +kernel
theorem dX12_yearsLack_6 : decode cX12_yearsLack 6 = .ok (.iload_n 2, 1) := by decide +kernel
theorem dX12_yearsLack_7 : decode cX12_yearsLack 7 = .ok (.istore 7, 2) := by decide +kernel
theorem dX12_yearsLack_9 : decode cX12_yearsLack 9 = .ok (.iload 7, 2) := by decide +kernel
theorem dX12_yearsLack_11 : decode cX12_yearsLack 11 = .ok (.iload_n 3, 1) := by decide +kernel
theorem dX12_yearsLack_12 : decode cX12_yearsLack 12 = .ok (.if_icmp .gt 62, 3) := by decide +kernel
theorem dX12_yearsLack_15 : decode cX12_yearsLack 15 = .ok (.aload_n 0, 1) := by decide +kernel
theorem dX12_yearsLack_16 : decode cX12_yearsLack 16 = .ok (.getfield 82, 3) := by decide +kernel
theorem dX12_yearsLack_19 : decode cX12_yearsLack 19 = .ok (.sipush 10001, 3) := by decide +kernel
theorem dX12_yearsLack_22 : decode cX12_yearsLack 22 = .ok (.iload_n 1, 1) := by decide +kernel
theorem dX12_yearsLack_23 : decode cX12_yearsLack 23 = .ok (.imul, 1) := by decide +kernel
theorem dX12_yearsLack_24 : decode cX12_yearsLack 24 = .ok (.iload 7, 2) := by decide +kernel
theorem dX12_yearsLack_26 : decode cX12_yearsLack 26 = .ok (.iadd, 1) := by decide +kernel
theorem dX12_yearsLack_27 : decode cX12_yearsLack 27 = .ok (.laload, 1) := by decide +kernel
theorem dX12_yearsLack_28 : decode cX12_yearsLack 28 = .ok (.ldc2_w 321, 3) := by decide +kernel
theorem dX12_yearsLack_31 : decode cX12_yearsLack 31 = .ok (.lcmp, 1) := by decide +kernel
theorem dX12_yearsLack_32 : decode cX12_yearsLack 32 = .ok (.ifCond .lt 9, 3) := by decide +kernel
theorem dX12_yearsLack_35 : decode cX12_yearsLack 35 = .ok (.iinc 5 1, 3) := by decide +kernel
theorem dX12_yearsLack_38 : decode cX12_yearsLack 38 = .ok (.goto 30, 3) := by decide +kernel
theorem dX12_yearsLack_41 : decode cX12_yearsLack 41 = .ok (.iload 6, 2) := by decide +kernel
theorem dX12_yearsLack_43 : decode cX12_yearsLack 43 = .ok (.iconst (-1), 1) := by decide +kernel
theorem dX12_yearsLack_44 : decode cX12_yearsLack 44 = .ok (.if_icmp .eq 20, 3) := by decide +kernel
theorem dX12_yearsLack_47 : decode cX12_yearsLack 47 = .ok (.aload_n 0, 1) := by decide +kernel
theorem dX12_yearsLack_48 : decode cX12_yearsLack 48 = .ok (.iload_n 1, 1) := by decide +kernel
theorem dX12_yearsLack_49 : decode cX12_yearsLack 49 = .ok (.iload 7, 2) := by decide +kernel
theorem dX12_yearsLack_51 : decode cX12_yearsLack 51 = .ok (.invokevirtual 476, 3) := by decide +kernel
theorem dX12_yearsLack_54 : decode cX12_yearsLack 54 = .ok (.aload_n 0, 1) := by decide +kernel
theorem dX12_yearsLack_55 : decode cX12_yearsLack 55 = .ok (.iload_n 1, 1) := by decide +kernel
theorem dX12_yearsLack_56 : decode cX12_yearsLack 56 = .ok (.iload 6, 2) := by decide +kernel
theorem dX12_yearsLack_58 : decode cX12_yearsLack 58 = .ok (.invokevirtual 476, 3) := by decide +kernel
theorem dX12_yearsLack_61 : decode cX12_yearsLack 61 = .ok (.if_icmp .le 7, 3) := by decide +kernel
theorem dX12_yearsLack_64 : decode cX12_yearsLack 64 = .ok (.iload 7, 2) := by decide +kernel
theorem dX12_yearsLack_66 : decode cX12_yearsLack 66 = .ok (.istore 6, 2) := by decide +kernel
theorem dX12_yearsLack_68 : decode cX12_yearsLack 68 = .ok (.iinc 7 1, 3) := by decide +kernel
theorem dX12_yearsLack_71 : decode cX12_yearsLack 71 = .ok (.goto (-62), 3) := by decide +kernel
theorem dX12_yearsLack_74 : decode cX12_yearsLack 74 = .ok (.iload 4, 2) := by decide +kernel
theorem dX12_yearsLack_76 : decode cX12_yearsLack 76 = .ok (.ifCond .ne 8, 3) := by decide +kernel
theorem dX12_yearsLack_79 : decode cX12_yearsLack 79 = .ok (.iload 5, 2) := by decide +kernel
theorem dX12_yearsLack_81 : decode cX12_yearsLack 81 = .ok (.goto 27, 3) := by decide +kernel
theorem dX12_yearsLack_84 : decode cX12_yearsLack 84 = .ok (.iload 4, 2) := by decide +kernel
theorem dX12_yearsLack_86 : decode cX12_yearsLack 86 = .ok (.iconst 1, 1) := by decide +kernel
theorem dX12_yearsLack_87 : decode cX12_yearsLack 87 = .ok (.if_icmp .eq 9, 3) := by decide +kernel
theorem dX12_yearsLack_90 : decode cX12_yearsLack 90 = .ok (.iload 6, 2) := by decide +kernel
theorem dX12_yearsLack_92 : decode cX12_yearsLack 92 = .ok (.iconst (-1), 1) := by decide +kernel
theorem dX12_yearsLack_93 : decode cX12_yearsLack 93 = .ok (.if_icmp .ne 8, 3) := by decide +kernel
theorem dX12_yearsLack_96 : decode cX12_yearsLack 96 = .ok (.iload 6, 2) := by decide +kernel
theorem dX12_yearsLack_98 : decode cX12_yearsLack 98 = .ok (.goto 10, 3) := by decide +kernel
theorem dX12_yearsLack_101 : decode cX12_yearsLack 101 = .ok (.aload_n 0, 1) := by decide +kernel
theorem dX12_yearsLack_102 : decode cX12_yearsLack 102 = .ok (.iload_n 1, 1) := by decide +kernel
theorem dX12_yearsLack_103 : decode cX12_yearsLack 103 = .ok (.iload 6, 2) := by decide +kernel
theorem dX12_yearsLack_105 : decode cX12_yearsLack 105 = .ok (.invokevirtual 476, 3) := by decide +kernel
theorem dX12_yearsLack_108 : decode cX12_yearsLack 108 = .ok (.ireturn, 1) := by decide +kernel
theorem dX12_costOf_0 : decode cX12_costOf 0 = .ok (.aload_n 0, 1) := by decide +kernel
theorem dX12_costOf_1 : decode cX12_costOf 1 = .ok (.getfield 82, 3) := by decide +kernel
theorem dX12_costOf_4 : decode cX12_costOf 4 = .ok (.sipush 10001, 3) := by decide +kernel
theorem dX12_costOf_7 : decode cX12_costOf 7 = .ok (.iload_n 1, 1) := by decide +kernel
theorem dX12_costOf_8 : decode cX12_costOf 8 = .ok (.imul, 1) := by decide +kernel
theorem dX12_costOf_9 : decode cX12_costOf 9 = .ok (.iload_n 2, 1) := by decide +kernel
theorem dX12_costOf_10 : decode cX12_costOf 10 = .ok (.iadd, 1) := by decide +kernel
theorem dX12_costOf_11 : decode cX12_costOf 11 = .ok (.laload, 1) := by decide +kernel
theorem dX12_costOf_12 : decode cX12_costOf 12 = .ok (.ldc2_w 316, 3) := by decide +kernel
theorem dX12_costOf_15 : decode cX12_costOf 15 = .ok (.ldiv, 1) := by decide +kernel
theorem dX12_costOf_16 : decode cX12_costOf 16 = .ok (.l2i, 1) := by decide +kernel
theorem dX12_costOf_17 : decode cX12_costOf 17 = .ok (.ireturn, 1) := by decide +kernel
theorem dX12_spare_0 : decode cX12_spare 0 = .ok (.aload_n 0, 1) := by decide +kernel
theorem dX12_spare_1 : decode cX12_spare 1 = .ok (.iload_n 1, 1) := by decide +kernel
theorem dX12_spare_2 : decode cX12_spare 2 = .ok (.invokevirtual 378, 3) := by decide +kernel
theorem dX12_spare_5 : decode cX12_spare 5 = .ok (.ifCond .eq 13, 3) := by decide +kernel
theorem dX12_spare_8 : decode cX12_spare 8 = .ok (.iload_n 2, 1) := by decide +kernel
theorem dX12_spare_9 : decode cX12_spare 9 = .ok (.iconst 0, 1) := by decide +kernel
theorem dX12_spare_10 : decode cX12_spare 10 = .ok (.bipush 60, 2) := by decide +kernel
theorem dX12_spare_12 : decode cX12_spare 12 = .ok (.invokestatic 186, 3) := by decide +kernel
theorem dX12_spare_15 : decode cX12_spare 15 = .ok (.ifCond .ne 5, 3) := by decide +kernel
theorem dX12_spare_18 : decode cX12_spare 18 = .ok (.iconst (-1), 1) := by decide +kernel
theorem dX12_spare_19 : decode cX12_spare 19 = .ok (.ireturn, 1) := by decide +kernel
theorem dX12_spare_20 : decode cX12_spare 20 = .ok (.iconst 0, 1) := by decide +kernel
theorem dX12_spare_21 : decode cX12_spare 21 = .ok (.istore_n 3, 1) := by decide +kernel
theorem dX12_spare_22 : decode cX12_spare 22 = .ok (.iconst 0, 1) := by decide +kernel
theorem dX12_spare_23 : decode cX12_spare 23 = .ok (.istore 4, 2) := by decide +kernel
theorem dX12_spare_25 : decode cX12_spare 25 = .ok (.iload 4, 2) := by decide +kernel
theorem dX12_spare_27 : decode cX12_spare 27 = .ok (.aload_n 0, 1) := by decide +kernel
theorem dX12_spare_28 : decode cX12_spare 28 = .ok (.getfield 274, 3) := by decide +kernel
theorem dX12_spare_31 : decode cX12_spare 31 = .ok (.if_icmp .ge 36, 3) := by decide +kernel
theorem dX12_spare_34 : decode cX12_spare 34 = .ok (.iload_n 3, 1) := by decide +kernel
theorem dX12_spare_35 : decode cX12_spare 35 = .ok (.aload_n 0, 1) := by decide +kernel
theorem dX12_spare_36 : decode cX12_spare 36 = .ok (.getfield 366, 3) := by decide +kernel
theorem dX12_spare_39 : decode cX12_spare 39 = .ok (.aload_n 0, 1) := by decide +kernel
theorem dX12_spare_40 : decode cX12_spare 40 = .ok (.iload 4, 2) := by decide +kernel
theorem dX12_spare_42 : decode cX12_spare 42 = .ok (.iload_n 1, 1) := by decide +kernel
theorem dX12_spare_43 : decode cX12_spare 43 = .ok (.invokevirtual 381, 3) := by decide +kernel
theorem dX12_spare_46 : decode cX12_spare 46 = .ok (.isub, 1) := by decide +kernel
theorem dX12_spare_47 : decode cX12_spare 47 = .ok (.iload_n 2, 1) := by decide +kernel
theorem dX12_spare_48 : decode cX12_spare 48 = .ok (.if_icmp .gt 10, 3) := by decide +kernel
theorem dX12_spare_51 : decode cX12_spare 51 = .ok (.iconst 1, 1) := by decide +kernel
theorem dX12_spare_52 : decode cX12_spare 52 = .ok (.iload 4, 2) := by decide +kernel
theorem dX12_spare_54 : decode cX12_spare 54 = .ok (.ishl, 1) := by decide +kernel
theorem dX12_spare_55 : decode cX12_spare 55 = .ok (.goto 4, 3) := by decide +kernel
theorem dX12_spare_58 : decode cX12_spare 58 = .ok (.iconst 0, 1) := by decide +kernel
theorem dX12_spare_59 : decode cX12_spare 59 = .ok (.ior, 1) := by decide +kernel
theorem dX12_spare_60 : decode cX12_spare 60 = .ok (.istore_n 3, 1) := by decide +kernel
theorem dX12_spare_61 : decode cX12_spare 61 = .ok (.iinc 4 1, 3) := by decide +kernel
theorem dX12_spare_64 : decode cX12_spare 64 = .ok (.goto (-39), 3) := by decide +kernel
theorem dX12_spare_67 : decode cX12_spare 67 = .ok (.iload_n 3, 1) := by decide +kernel
theorem dX12_spare_68 : decode cX12_spare 68 = .ok (.ireturn, 1) := by decide +kernel
theorem dX12_unlike_0 : decode cX12_unlike 0 = .ok (.aload_n 0, 1) := by decide +kernel
theorem dX12_unlike_1 : decode cX12_unlike 1 = .ok (.iload_n 1, 1) := by decide +kernel
theorem dX12_unlike_2 : decode cX12_unlike 2 = .ok (.invokevirtual 280, 3) := by decide +kernel
theorem dX12_unlike_5 : decode cX12_unlike 5 = .ok (.ifCond .eq 22, 3) := by decide +kernel
theorem dX12_unlike_8 : decode cX12_unlike 8 = .ok (.aload_n 0, 1) := by decide +kernel
theorem dX12_unlike_9 : decode cX12_unlike 9 = .ok (.iload_n 2, 1) := by decide +kernel
theorem dX12_unlike_10 : decode cX12_unlike 10 = .ok (.invokevirtual 280, 3) := by decide +kernel
theorem dX12_unlike_13 : decode cX12_unlike 13 = .ok (.ifCond .eq 14, 3) := by decide +kernel
theorem dX12_unlike_16 : decode cX12_unlike 16 = .ok (.iload_n 3, 1) := by decide +kernel
theorem dX12_unlike_17 : decode cX12_unlike 17 = .ok (.iconst 0, 1) := by decide +kernel
theorem dX12_unlike_18 : decode cX12_unlike 18 = .ok (.ldc_w 479, 3) := by decide +kernel
theorem dX12_unlike_21 : decode cX12_unlike 21 = .ok (.invokestatic 186, 3) := by decide +kernel
theorem dX12_unlike_24 : decode cX12_unlike 24 = .ok (.ifCond .ne 5, 3) := by decide +kernel
theorem dX12_unlike_27 : decode cX12_unlike 27 = .ok (.iconst (-1), 1) := by decide +kernel
theorem dX12_unlike_28 : decode cX12_unlike 28 = .ok (.ireturn, 1) := by decide +kernel
theorem dX12_unlike_29 : decode cX12_unlike 29 = .ok (.iload_n 3, 1) := by decide +kernel
theorem dX12_unlike_30 : decode cX12_unlike 30 = .ok (.istore 4, 2) := by decide +kernel
theorem dX12_unlike_32 : decode cX12_unlike 32 = .ok (.iload 4, 2) := by decide +kernel
theorem dX12_unlike_34 : decode cX12_unlike 34 = .ok (.iload_n 3, 1) := by decide +kernel
theorem dX12_unlike_35 : decode cX12_unlike 35 = .ok (.sipush 5000, 3) := by decide +kernel
theorem dX12_unlike_38 : decode cX12_unlike 38 = .ok (.iadd, 1) := by decide +kernel
theorem dX12_unlike_39 : decode cX12_unlike 39 = .ok (.if_icmp .ge 29, 3) := by decide +kernel
theorem dX12_unlike_42 : decode cX12_unlike 42 = .ok (.aload_n 0, 1) := by decide +kernel
theorem dX12_unlike_43 : decode cX12_unlike 43 = .ok (.iload_n 1, 1) := by decide +kernel
theorem dX12_unlike_44 : decode cX12_unlike 44 = .ok (.iload 4, 2) := by decide +kernel
theorem dX12_unlike_46 : decode cX12_unlike 46 = .ok (.invokevirtual 294, 3) := by decide +kernel
theorem dX12_unlike_49 : decode cX12_unlike 49 = .ok (.aload_n 0, 1) := by decide +kernel
theorem dX12_unlike_50 : decode cX12_unlike 50 = .ok (.iload_n 2, 1) := by decide +kernel
theorem dX12_unlike_51 : decode cX12_unlike 51 = .ok (.iload 4, 2) := by decide +kernel
theorem dX12_unlike_53 : decode cX12_unlike 53 = .ok (.invokevirtual 294, 3) := by decide +kernel
theorem dX12_unlike_56 : decode cX12_unlike 56 = .ok (.if_icmp .eq 6, 3) := by decide +kernel
theorem dX12_unlike_59 : decode cX12_unlike 59 = .ok (.iload 4, 2) := by decide +kernel
theorem dX12_unlike_61 : decode cX12_unlike 61 = .ok (.ireturn, 1) := by decide +kernel
theorem dX12_unlike_62 : decode cX12_unlike 62 = .ok (.iinc 4 1, 3) := by decide +kernel
theorem dX12_unlike_65 : decode cX12_unlike 65 = .ok (.goto (-33), 3) := by decide +kernel
theorem dX12_unlike_68 : decode cX12_unlike 68 = .ok (.iconst (-1), 1) := by decide +kernel
theorem dX12_unlike_69 : decode cX12_unlike 69 = .ok (.ireturn, 1) := by decide +kernel
theorem dX12_rises_0 : decode cX12_rises 0 = .ok (.aload_n 0, 1) := by decide +kernel
theorem dX12_rises_1 : decode cX12_rises 1 = .ok (.iload_n 1, 1) := by decide +kernel
theorem dX12_rises_2 : decode cX12_rises 2 = .ok (.invokevirtual 344, 3) := by decide +kernel
theorem dX12_rises_5 : decode cX12_rises 5 = .ok (.ifCond .eq 21, 3) := by decide +kernel
theorem dX12_rises_8 : decode cX12_rises 8 = .ok (.aload_n 0, 1) := by decide +kernel
theorem dX12_rises_9 : decode cX12_rises 9 = .ok (.iload_n 2, 1) := by decide +kernel
theorem dX12_rises_10 : decode cX12_rises 10 = .ok (.invokevirtual 344, 3) := by decide +kernel
theorem dX12_rises_13 : decode cX12_rises 13 = .ok (.ifCond .eq 13, 3) := by decide +kernel
theorem dX12_rises_16 : decode cX12_rises 16 = .ok (.aload_n 0, 1) := by decide +kernel
theorem dX12_rises_17 : decode cX12_rises 17 = .ok (.iload_n 3, 1) := by decide +kernel
theorem dX12_rises_18 : decode cX12_rises 18 = .ok (.iload 4, 2) := by decide +kernel
theorem dX12_rises_20 : decode cX12_rises 20 = .ok (.invokevirtual 463, 3) := by decide +kernel
theorem dX12_rises_23 : decode cX12_rises 23 = .ok (.ifCond .ne 7, 3) := by decide +kernel
theorem dX12_rises_26 : decode cX12_rises 26 = .ok (.sipush (-1000), 3) := by decide +kernel
theorem dX12_rises_29 : decode cX12_rises 29 = .ok (.ireturn, 1) := by decide +kernel
theorem dX12_rises_30 : decode cX12_rises 30 = .ok (.iconst 0, 1) := by decide +kernel
theorem dX12_rises_31 : decode cX12_rises 31 = .ok (.istore 5, 2) := by decide +kernel
theorem dX12_rises_33 : decode cX12_rises 33 = .ok (.iload_n 3, 1) := by decide +kernel
theorem dX12_rises_34 : decode cX12_rises 34 = .ok (.istore 6, 2) := by decide +kernel
theorem dX12_rises_36 : decode cX12_rises 36 = .ok (.iload 6, 2) := by decide +kernel
theorem dX12_rises_38 : decode cX12_rises 38 = .ok (.iload 4, 2) := by decide +kernel
theorem dX12_rises_40 : decode cX12_rises 40 = .ok (.if_icmp .gt 87, 3) := by decide +kernel
theorem dX12_rises_43 : decode cX12_rises 43 = .ok (.aload_n 0, 1) := by decide +kernel
theorem dX12_rises_44 : decode cX12_rises 44 = .ok (.getfield 82, 3) := by decide +kernel
theorem dX12_rises_47 : decode cX12_rises 47 = .ok (.sipush 10001, 3) := by decide +kernel
theorem dX12_rises_50 : decode cX12_rises 50 = .ok (.iload_n 1, 1) := by decide +kernel
theorem dX12_rises_51 : decode cX12_rises 51 = .ok (.imul, 1) := by decide +kernel
theorem dX12_rises_52 : decode cX12_rises 52 = .ok (.iload 6, 2) := by decide +kernel
theorem dX12_rises_54 : decode cX12_rises 54 = .ok (.iadd, 1) := by decide +kernel
theorem dX12_rises_55 : decode cX12_rises 55 = .ok (.laload, 1) := by decide +kernel
theorem dX12_rises_56 : decode cX12_rises 56 = .ok (.ldc2_w 321, 3) := by decide +kernel
theorem dX12_rises_59 : decode cX12_rises 59 = .ok (.lcmp, 1) := by decide +kernel
theorem dX12_rises_60 : decode cX12_rises 60 = .ok (.ifCond .ge 27, 3) := by decide +kernel
theorem dX12_rises_63 : decode cX12_rises 63 = .ok (.aload_n 0, 1) := by decide +kernel
theorem dX12_rises_64 : decode cX12_rises 64 = .ok (.getfield 82, 3) := by decide +kernel
theorem dX12_rises_67 : decode cX12_rises 67 = .ok (.sipush 10001, 3) := by decide +kernel
theorem dX12_rises_70 : decode cX12_rises 70 = .ok (.iload_n 2, 1) := by decide +kernel
theorem dX12_rises_71 : decode cX12_rises 71 = .ok (.imul, 1) := by decide +kernel
theorem dX12_rises_72 : decode cX12_rises 72 = .ok (.iload 6, 2) := by decide +kernel
theorem dX12_rises_74 : decode cX12_rises 74 = .ok (.iadd, 1) := by decide +kernel
theorem dX12_rises_75 : decode cX12_rises 75 = .ok (.laload, 1) := by decide +kernel
theorem dX12_rises_76 : decode cX12_rises 76 = .ok (.ldc2_w 321, 3) := by decide +kernel
theorem dX12_rises_79 : decode cX12_rises 79 = .ok (.lcmp, 1) := by decide +kernel
theorem dX12_rises_80 : decode cX12_rises 80 = .ok (.ifCond .ge 7, 3) := by decide +kernel
theorem dX12_rises_83 : decode cX12_rises 83 = .ok (.iconst 1, 1) := by decide +kernel
theorem dX12_rises_84 : decode cX12_rises 84 = .ok (.goto 4, 3) := by decide +kernel
theorem dX12_rises_87 : decode cX12_rises 87 = .ok (.iconst 0, 1) := by decide +kernel
theorem dX12_rises_88 : decode cX12_rises 88 = .ok (.istore 7, 2) := by decide +kernel
theorem dX12_rises_90 : decode cX12_rises 90 = .ok (.iload 5, 2) := by decide +kernel
theorem dX12_rises_92 : decode cX12_rises 92 = .ok (.iload 7, 2) := by decide +kernel
theorem dX12_rises_94 : decode cX12_rises 94 = .ok (.ifCond .eq 23, 3) := by decide +kernel
theorem dX12_rises_97 : decode cX12_rises 97 = .ok (.aload_n 0, 1) := by decide +kernel
theorem dX12_rises_98 : decode cX12_rises 98 = .ok (.iload_n 1, 1) := by decide +kernel
theorem dX12_rises_99 : decode cX12_rises 99 = .ok (.iload 6, 2) := by decide +kernel
theorem dX12_rises_101 : decode cX12_rises 101 = .ok (.invokevirtual 476, 3) := by decide +kernel
theorem dX12_rises_104 : decode cX12_rises 104 = .ok (.aload_n 0, 1) := by decide +kernel
theorem dX12_rises_105 : decode cX12_rises 105 = .ok (.iload_n 2, 1) := by decide +kernel
theorem dX12_rises_106 : decode cX12_rises 106 = .ok (.iload 6, 2) := by decide +kernel
theorem dX12_rises_108 : decode cX12_rises 108 = .ok (.invokevirtual 476, 3) := by decide +kernel
theorem dX12_rises_111 : decode cX12_rises 111 = .ok (.invokestatic 384, 3) := by decide +kernel
theorem dX12_rises_114 : decode cX12_rises 114 = .ok (.goto 4, 3) := by decide +kernel
theorem dX12_rises_117 : decode cX12_rises 117 = .ok (.iconst 0, 1) := by decide +kernel
theorem dX12_rises_118 : decode cX12_rises 118 = .ok (.iadd, 1) := by decide +kernel
theorem dX12_rises_119 : decode cX12_rises 119 = .ok (.istore 5, 2) := by decide +kernel
theorem dX12_rises_121 : decode cX12_rises 121 = .ok (.iinc 6 1, 3) := by decide +kernel
theorem dX12_rises_124 : decode cX12_rises 124 = .ok (.goto (-88), 3) := by decide +kernel
theorem dX12_rises_127 : decode cX12_rises 127 = .ok (.iload 5, 2) := by decide +kernel
theorem dX12_rises_129 : decode cX12_rises 129 = .ok (.ireturn, 1) := by decide +kernel
theorem dX12_count_0 : decode cX12_count 0 = .ok (.iload_n 1, 1) := by decide +kernel
theorem dX12_count_1 : decode cX12_count 1 = .ok (.tableswitch 87 0 7 #[52, 57, 62, 67, 72, 77, 82, 47], 47) := by decide +kernel
theorem dX12_count_48 : decode cX12_count 48 = .ok (.aload_n 0, 1) := by decide +kernel
theorem dX12_count_49 : decode cX12_count 49 = .ok (.getfield 446, 3) := by decide +kernel
theorem dX12_count_52 : decode cX12_count 52 = .ok (.ireturn, 1) := by decide +kernel
theorem dX12_count_53 : decode cX12_count 53 = .ok (.aload_n 0, 1) := by decide +kernel
theorem dX12_count_54 : decode cX12_count 54 = .ok (.getfield 268, 3) := by decide +kernel
theorem dX12_count_57 : decode cX12_count 57 = .ok (.ireturn, 1) := by decide +kernel
theorem dX12_count_58 : decode cX12_count 58 = .ok (.aload_n 0, 1) := by decide +kernel
theorem dX12_count_59 : decode cX12_count 59 = .ok (.getfield 274, 3) := by decide +kernel
theorem dX12_count_62 : decode cX12_count 62 = .ok (.ireturn, 1) := by decide +kernel
theorem dX12_count_63 : decode cX12_count 63 = .ok (.aload_n 0, 1) := by decide +kernel
theorem dX12_count_64 : decode cX12_count 64 = .ok (.getfield 366, 3) := by decide +kernel
theorem dX12_count_67 : decode cX12_count 67 = .ok (.ireturn, 1) := by decide +kernel
theorem dX12_count_68 : decode cX12_count 68 = .ok (.aload_n 0, 1) := by decide +kernel
theorem dX12_count_69 : decode cX12_count 69 = .ok (.getfield 392, 3) := by decide +kernel
theorem dX12_count_72 : decode cX12_count 72 = .ok (.ireturn, 1) := by decide +kernel
theorem dX12_count_73 : decode cX12_count 73 = .ok (.aload_n 0, 1) := by decide +kernel
theorem dX12_count_74 : decode cX12_count 74 = .ok (.getfield 430, 3) := by decide +kernel
theorem dX12_count_77 : decode cX12_count 77 = .ok (.ireturn, 1) := by decide +kernel
theorem dX12_count_78 : decode cX12_count 78 = .ok (.aload_n 0, 1) := by decide +kernel
theorem dX12_count_79 : decode cX12_count 79 = .ok (.getfield 163, 3) := by decide +kernel
theorem dX12_count_82 : decode cX12_count 82 = .ok (.ireturn, 1) := by decide +kernel
theorem dX12_count_83 : decode cX12_count 83 = .ok (.aload_n 0, 1) := by decide +kernel
theorem dX12_count_84 : decode cX12_count 84 = .ok (.getfield 137, 3) := by decide +kernel
theorem dX12_count_87 : decode cX12_count 87 = .ok (.ireturn, 1) := by decide +kernel
theorem dX12_count_88 : decode cX12_count 88 = .ok (.sipush (-1000), 3) := by decide +kernel
theorem dX12_count_91 : decode cX12_count 91 = .ok (.ireturn, 1) := by decide +kernel
theorem dJ6_compare_7cf53_0 : decode cJ6_compare_7cf53 0 = .ok (.iload_n 0, 1) := by decide +kernel
theorem dJ6_compare_7cf53_1 : decode cJ6_compare_7cf53 1 = .ok (.iload_n 1, 1) := by decide +kernel
theorem dJ6_compare_7cf53_2 : decode cJ6_compare_7cf53 2 = .ok (.if_icmp .ge 7, 3) := by decide +kernel
theorem dJ6_compare_7cf53_5 : decode cJ6_compare_7cf53 5 = .ok (.iconst (-1), 1) := by decide +kernel
theorem dJ6_compare_7cf53_6 : decode cJ6_compare_7cf53 6 = .ok (.goto 13, 3) := by decide +kernel
theorem dJ6_compare_7cf53_9 : decode cJ6_compare_7cf53 9 = .ok (.iload_n 0, 1) := by decide +kernel
theorem dJ6_compare_7cf53_10 : decode cJ6_compare_7cf53 10 = .ok (.iload_n 1, 1) := by decide +kernel
theorem dJ6_compare_7cf53_11 : decode cJ6_compare_7cf53 11 = .ok (.if_icmp .ne 7, 3) := by decide +kernel
theorem dJ6_compare_7cf53_14 : decode cJ6_compare_7cf53 14 = .ok (.iconst 0, 1) := by decide +kernel
theorem dJ6_compare_7cf53_15 : decode cJ6_compare_7cf53 15 = .ok (.goto 4, 3) := by decide +kernel
theorem dJ6_compare_7cf53_18 : decode cJ6_compare_7cf53 18 = .ok (.iconst 1, 1) := by decide +kernel
theorem dJ6_compare_7cf53_19 : decode cJ6_compare_7cf53 19 = .ok (.ireturn, 1) := by decide +kernel
theorem dJ6_bitCount_0f7a4_0 : decode cJ6_bitCount_0f7a4 0 = .ok (.iload_n 0, 1) := by decide +kernel
theorem dJ6_bitCount_0f7a4_1 : decode cJ6_bitCount_0f7a4 1 = .ok (.iload_n 0, 1) := by decide +kernel
theorem dJ6_bitCount_0f7a4_2 : decode cJ6_bitCount_0f7a4 2 = .ok (.iconst 1, 1) := by decide +kernel
theorem dJ6_bitCount_0f7a4_3 : decode cJ6_bitCount_0f7a4 3 = .ok (.iushr, 1) := by decide +kernel
theorem dJ6_bitCount_0f7a4_4 : decode cJ6_bitCount_0f7a4 4 = .ok (.ldc_w 265, 3) := by decide +kernel
theorem dJ6_bitCount_0f7a4_7 : decode cJ6_bitCount_0f7a4 7 = .ok (.iand, 1) := by decide +kernel
theorem dJ6_bitCount_0f7a4_8 : decode cJ6_bitCount_0f7a4 8 = .ok (.isub, 1) := by decide +kernel
theorem dJ6_bitCount_0f7a4_9 : decode cJ6_bitCount_0f7a4 9 = .ok (.istore_n 0, 1) := by decide +kernel
theorem dJ6_bitCount_0f7a4_10 : decode cJ6_bitCount_0f7a4 10 = .ok (.iload_n 0, 1) := by decide +kernel
theorem dJ6_bitCount_0f7a4_11 : decode cJ6_bitCount_0f7a4 11 = .ok (.ldc_w 266, 3) := by decide +kernel
theorem dJ6_bitCount_0f7a4_14 : decode cJ6_bitCount_0f7a4 14 = .ok (.iand, 1) := by decide +kernel
theorem dJ6_bitCount_0f7a4_15 : decode cJ6_bitCount_0f7a4 15 = .ok (.iload_n 0, 1) := by decide +kernel
theorem dJ6_bitCount_0f7a4_16 : decode cJ6_bitCount_0f7a4 16 = .ok (.iconst 2, 1) := by decide +kernel
theorem dJ6_bitCount_0f7a4_17 : decode cJ6_bitCount_0f7a4 17 = .ok (.iushr, 1) := by decide +kernel
theorem dJ6_bitCount_0f7a4_18 : decode cJ6_bitCount_0f7a4 18 = .ok (.ldc_w 266, 3) := by decide +kernel
theorem dJ6_bitCount_0f7a4_21 : decode cJ6_bitCount_0f7a4 21 = .ok (.iand, 1) := by decide +kernel
theorem dJ6_bitCount_0f7a4_22 : decode cJ6_bitCount_0f7a4 22 = .ok (.iadd, 1) := by decide +kernel
theorem dJ6_bitCount_0f7a4_23 : decode cJ6_bitCount_0f7a4 23 = .ok (.istore_n 0, 1) := by decide +kernel
theorem dJ6_bitCount_0f7a4_24 : decode cJ6_bitCount_0f7a4 24 = .ok (.iload_n 0, 1) := by decide +kernel
theorem dJ6_bitCount_0f7a4_25 : decode cJ6_bitCount_0f7a4 25 = .ok (.iload_n 0, 1) := by decide +kernel
theorem dJ6_bitCount_0f7a4_26 : decode cJ6_bitCount_0f7a4 26 = .ok (.iconst 4, 1) := by decide +kernel
theorem dJ6_bitCount_0f7a4_27 : decode cJ6_bitCount_0f7a4 27 = .ok (.iushr, 1) := by decide +kernel
theorem dJ6_bitCount_0f7a4_28 : decode cJ6_bitCount_0f7a4 28 = .ok (.iadd, 1) := by decide +kernel
theorem dJ6_bitCount_0f7a4_29 : decode cJ6_bitCount_0f7a4 29 = .ok (.ldc_w 267, 3) := by decide +kernel
theorem dJ6_bitCount_0f7a4_32 : decode cJ6_bitCount_0f7a4 32 = .ok (.iand, 1) := by decide +kernel
theorem dJ6_bitCount_0f7a4_33 : decode cJ6_bitCount_0f7a4 33 = .ok (.istore_n 0, 1) := by decide +kernel
theorem dJ6_bitCount_0f7a4_34 : decode cJ6_bitCount_0f7a4 34 = .ok (.iload_n 0, 1) := by decide +kernel
theorem dJ6_bitCount_0f7a4_35 : decode cJ6_bitCount_0f7a4 35 = .ok (.iload_n 0, 1) := by decide +kernel
theorem dJ6_bitCount_0f7a4_36 : decode cJ6_bitCount_0f7a4 36 = .ok (.bipush 8, 2) := by decide +kernel
theorem dJ6_bitCount_0f7a4_38 : decode cJ6_bitCount_0f7a4 38 = .ok (.iushr, 1) := by decide +kernel
theorem dJ6_bitCount_0f7a4_39 : decode cJ6_bitCount_0f7a4 39 = .ok (.iadd, 1) := by decide +kernel
theorem dJ6_bitCount_0f7a4_40 : decode cJ6_bitCount_0f7a4 40 = .ok (.istore_n 0, 1) := by decide +kernel
theorem dJ6_bitCount_0f7a4_41 : decode cJ6_bitCount_0f7a4 41 = .ok (.iload_n 0, 1) := by decide +kernel
theorem dJ6_bitCount_0f7a4_42 : decode cJ6_bitCount_0f7a4 42 = .ok (.iload_n 0, 1) := by decide +kernel
theorem dJ6_bitCount_0f7a4_43 : decode cJ6_bitCount_0f7a4 43 = .ok (.bipush 16, 2) := by decide +kernel
theorem dJ6_bitCount_0f7a4_45 : decode cJ6_bitCount_0f7a4 45 = .ok (.iushr, 1) := by decide +kernel
theorem dJ6_bitCount_0f7a4_46 : decode cJ6_bitCount_0f7a4 46 = .ok (.iadd, 1) := by decide +kernel
theorem dJ6_bitCount_0f7a4_47 : decode cJ6_bitCount_0f7a4 47 = .ok (.istore_n 0, 1) := by decide +kernel
theorem dJ6_bitCount_0f7a4_48 : decode cJ6_bitCount_0f7a4 48 = .ok (.iload_n 0, 1) := by decide +kernel
theorem dJ6_bitCount_0f7a4_49 : decode cJ6_bitCount_0f7a4 49 = .ok (.bipush 63, 2) := by decide +kernel
theorem dJ6_bitCount_0f7a4_51 : decode cJ6_bitCount_0f7a4 51 = .ok (.iand, 1) := by decide +kernel
theorem dJ6_bitCount_0f7a4_52 : decode cJ6_bitCount_0f7a4 52 = .ok (.ireturn, 1) := by decide +kernel
theorem dJ9_floorMod_7cf53_0 : decode cJ9_floorMod_7cf53 0 = .ok (.iload_n 0, 1) := by decide +kernel
theorem dJ9_floorMod_7cf53_1 : decode cJ9_floorMod_7cf53 1 = .ok (.iload_n 1, 1) := by decide +kernel
theorem dJ9_floorMod_7cf53_2 : decode cJ9_floorMod_7cf53 2 = .ok (.irem, 1) := by decide +kernel
theorem dJ9_floorMod_7cf53_3 : decode cJ9_floorMod_7cf53 3 = .ok (.istore_n 2, 1) := by decide +kernel
theorem dJ9_floorMod_7cf53_4 : decode cJ9_floorMod_7cf53 4 = .ok (.iload_n 0, 1) := by decide +kernel
theorem dJ9_floorMod_7cf53_5 : decode cJ9_floorMod_7cf53 5 = .ok (.iload_n 1, 1) := by decide +kernel
theorem dJ9_floorMod_7cf53_6 : decode cJ9_floorMod_7cf53 6 = .ok (.ixor, 1) := by decide +kernel
theorem dJ9_floorMod_7cf53_7 : decode cJ9_floorMod_7cf53 7 = .ok (.ifCond .ge 11, 3) := by decide +kernel
theorem dJ9_floorMod_7cf53_10 : decode cJ9_floorMod_7cf53 10 = .ok (.iload_n 2, 1) := by decide +kernel
theorem dJ9_floorMod_7cf53_11 : decode cJ9_floorMod_7cf53 11 = .ok (.ifCond .eq 7, 3) := by decide +kernel
theorem dJ9_floorMod_7cf53_14 : decode cJ9_floorMod_7cf53 14 = .ok (.iload_n 2, 1) := by decide +kernel
theorem dJ9_floorMod_7cf53_15 : decode cJ9_floorMod_7cf53 15 = .ok (.iload_n 1, 1) := by decide +kernel
theorem dJ9_floorMod_7cf53_16 : decode cJ9_floorMod_7cf53 16 = .ok (.iadd, 1) := by decide +kernel
theorem dJ9_floorMod_7cf53_17 : decode cJ9_floorMod_7cf53 17 = .ok (.ireturn, 1) := by decide +kernel
theorem dJ9_floorMod_7cf53_18 : decode cJ9_floorMod_7cf53 18 = .ok (.iload_n 2, 1) := by decide +kernel
theorem dJ9_floorMod_7cf53_19 : decode cJ9_floorMod_7cf53 19 = .ok (.ireturn, 1) := by decide +kernel
theorem dJ9_abs_0f7a4_0 : decode cJ9_abs_0f7a4 0 = .ok (.iload_n 0, 1) := by decide +kernel
theorem dJ9_abs_0f7a4_1 : decode cJ9_abs_0f7a4 1 = .ok (.ifCond .ge 8, 3) := by decide +kernel
theorem dJ9_abs_0f7a4_4 : decode cJ9_abs_0f7a4 4 = .ok (.iload_n 0, 1) := by decide +kernel
theorem dJ9_abs_0f7a4_5 : decode cJ9_abs_0f7a4 5 = .ok (.ineg, 1) := by decide +kernel
theorem dJ9_abs_0f7a4_6 : decode cJ9_abs_0f7a4 6 = .ok (.goto 4, 3) := by decide +kernel
theorem dJ9_abs_0f7a4_9 : decode cJ9_abs_0f7a4 9 = .ok (.iload_n 0, 1) := by decide +kernel
theorem dJ9_abs_0f7a4_10 : decode cJ9_abs_0f7a4 10 = .ok (.ireturn, 1) := by decide +kernel
theorem dJ9_max_7cf53_0 : decode cJ9_max_7cf53 0 = .ok (.iload_n 0, 1) := by decide +kernel
theorem dJ9_max_7cf53_1 : decode cJ9_max_7cf53 1 = .ok (.iload_n 1, 1) := by decide +kernel
theorem dJ9_max_7cf53_2 : decode cJ9_max_7cf53 2 = .ok (.if_icmp .lt 7, 3) := by decide +kernel
theorem dJ9_max_7cf53_5 : decode cJ9_max_7cf53 5 = .ok (.iload_n 0, 1) := by decide +kernel
theorem dJ9_max_7cf53_6 : decode cJ9_max_7cf53 6 = .ok (.goto 4, 3) := by decide +kernel
theorem dJ9_max_7cf53_9 : decode cJ9_max_7cf53 9 = .ok (.iload_n 1, 1) := by decide +kernel
theorem dJ9_max_7cf53_10 : decode cJ9_max_7cf53 10 = .ok (.ireturn, 1) := by decide +kernel
theorem dJ9_min_7cf53_0 : decode cJ9_min_7cf53 0 = .ok (.iload_n 0, 1) := by decide +kernel
theorem dJ9_min_7cf53_1 : decode cJ9_min_7cf53 1 = .ok (.iload_n 1, 1) := by decide +kernel
theorem dJ9_min_7cf53_2 : decode cJ9_min_7cf53 2 = .ok (.if_icmp .gt 7, 3) := by decide +kernel
theorem dJ9_min_7cf53_5 : decode cJ9_min_7cf53 5 = .ok (.iload_n 0, 1) := by decide +kernel
theorem dJ9_min_7cf53_6 : decode cJ9_min_7cf53 6 = .ok (.goto 4, 3) := by decide +kernel
theorem dJ9_min_7cf53_9 : decode cJ9_min_7cf53 9 = .ok (.iload_n 1, 1) := by decide +kernel
theorem dJ9_min_7cf53_10 : decode cJ9_min_7cf53 10 = .ok (.ireturn, 1) := by decide +kernel
theorem dJ9_min_f86c9_0 : decode cJ9_min_f86c9 0 = .ok (.lload_n 0, 1) := by decide +kernel
theorem dJ9_min_f86c9_1 : decode cJ9_min_f86c9 1 = .ok (.lload_n 2, 1) := by decide +kernel
theorem dJ9_min_f86c9_2 : decode cJ9_min_f86c9 2 = .ok (.lcmp, 1) := by decide +kernel
theorem dJ9_min_f86c9_3 : decode cJ9_min_f86c9 3 = .ok (.ifCond .gt 7, 3) := by decide +kernel
theorem dJ9_min_f86c9_6 : decode cJ9_min_f86c9 6 = .ok (.lload_n 0, 1) := by decide +kernel
theorem dJ9_min_f86c9_7 : decode cJ9_min_f86c9 7 = .ok (.goto 4, 3) := by decide +kernel
theorem dJ9_min_f86c9_10 : decode cJ9_min_f86c9 10 = .ok (.lload_n 2, 1) := by decide +kernel
theorem dJ9_min_f86c9_11 : decode cJ9_min_f86c9 11 = .ok (.lreturn, 1) := by decide +kernel
theorem dJ7_fill_d0a16_0 : decode cJ7_fill_d0a16 0 = .ok (.iconst 0, 1) := by decide +kernel
theorem dJ7_fill_d0a16_1 : decode cJ7_fill_d0a16 1 = .ok (.istore_n 3, 1) := by decide +kernel
theorem dJ7_fill_d0a16_2 : decode cJ7_fill_d0a16 2 = .ok (.aload_n 0, 1) := by decide +kernel
theorem dJ7_fill_d0a16_3 : decode cJ7_fill_d0a16 3 = .ok (.arraylength, 1) := by decide +kernel
theorem dJ7_fill_d0a16_4 : decode cJ7_fill_d0a16 4 = .ok (.istore 4, 2) := by decide +kernel
theorem dJ7_fill_d0a16_6 : decode cJ7_fill_d0a16 6 = .ok (.iload_n 3, 1) := by decide +kernel
theorem dJ7_fill_d0a16_7 : decode cJ7_fill_d0a16 7 = .ok (.iload 4, 2) := by decide +kernel
theorem dJ7_fill_d0a16_9 : decode cJ7_fill_d0a16 9 = .ok (.if_icmp .ge 13, 3) := by decide +kernel
theorem dJ7_fill_d0a16_12 : decode cJ7_fill_d0a16 12 = .ok (.aload_n 0, 1) := by decide +kernel
theorem dJ7_fill_d0a16_13 : decode cJ7_fill_d0a16 13 = .ok (.iload_n 3, 1) := by decide +kernel
theorem dJ7_fill_d0a16_14 : decode cJ7_fill_d0a16 14 = .ok (.lload_n 1, 1) := by decide +kernel
theorem dJ7_fill_d0a16_15 : decode cJ7_fill_d0a16 15 = .ok (.lastore, 1) := by decide +kernel
theorem dJ7_fill_d0a16_16 : decode cJ7_fill_d0a16 16 = .ok (.iinc 3 1, 3) := by decide +kernel
theorem dJ7_fill_d0a16_19 : decode cJ7_fill_d0a16 19 = .ok (.goto (-13), 3) := by decide +kernel
theorem dJ7_fill_d0a16_22 : decode cJ7_fill_d0a16 22 = .ok (.return_, 1) := by decide +kernel
theorem dL_day_0 : decode cL_day 0 = .ok (.aload 5, 2) := by decide +kernel
theorem dL_day_2 : decode cL_day 2 = .ok (.iconst 0, 1) := by decide +kernel
theorem dL_day_3 : decode cL_day 3 = .ok (.aload_n 0, 1) := by decide +kernel
theorem dL_day_4 : decode cL_day 4 = .ok (.iload_n 1, 1) := by decide +kernel
theorem dL_day_5 : decode cL_day 5 = .ok (.iload_n 2, 1) := by decide +kernel
theorem dL_day_6 : decode cL_day 6 = .ok (.iload_n 3, 1) := by decide +kernel
theorem dL_day_7 : decode cL_day 7 = .ok (.iload 4, 2) := by decide +kernel
theorem dL_day_9 : decode cL_day 9 = .ok (.invokevirtual 7, 3) := by decide +kernel
theorem dL_day_12 : decode cL_day 12 = .ok (.i2l, 1) := by decide +kernel
theorem dL_day_13 : decode cL_day 13 = .ok (.lastore, 1) := by decide +kernel
theorem dL_day_14 : decode cL_day 14 = .ok (.goto 7, 3) := by decide +kernel
theorem dL_day_17 : decode cL_day 17 = .ok (.astore 6, 2) := by decide +kernel
theorem dL_day_19 : decode cL_day 19 = .ok (.iconst 1, 1) := by decide +kernel
theorem dL_day_20 : decode cL_day 20 = .ok (.ireturn, 1) := by decide +kernel
theorem dL_day_21 : decode cL_day 21 = .ok (.iconst 0, 1) := by decide +kernel
theorem dL_day_22 : decode cL_day 22 = .ok (.ireturn, 1) := by decide +kernel
theorem dL_law_0 : decode cL_law 0 = .ok (.new 8, 3) := by decide +kernel
theorem dL_law_3 : decode cL_law 3 = .ok (.dup, 1) := by decide +kernel
theorem dL_law_4 : decode cL_law 4 = .ok (.invokespecial 15, 3) := by decide +kernel
theorem dL_law_7 : decode cL_law 7 = .ok (.astore_n 1, 1) := by decide +kernel
theorem dL_law_8 : decode cL_law 8 = .ok (.new 16, 3) := by decide +kernel
theorem dL_law_11 : decode cL_law 11 = .ok (.dup, 1) := by decide +kernel
theorem dL_law_12 : decode cL_law 12 = .ok (.invokespecial 18, 3) := by decide +kernel
theorem dL_law_15 : decode cL_law 15 = .ok (.astore_n 2, 1) := by decide +kernel
theorem dL_law_16 : decode cL_law 16 = .ok (.iconst 1, 1) := by decide +kernel
theorem dL_law_17 : decode cL_law 17 = .ok (.newarray .long, 2) := by decide +kernel
theorem dL_law_19 : decode cL_law 19 = .ok (.astore_n 3, 1) := by decide +kernel
theorem dL_law_20 : decode cL_law 20 = .ok (.iconst 0, 1) := by decide +kernel
theorem dL_law_21 : decode cL_law 21 = .ok (.istore 4, 2) := by decide +kernel
theorem dL_law_23 : decode cL_law 23 = .ok (.iload 4, 2) := by decide +kernel
theorem dL_law_25 : decode cL_law 25 = .ok (.aload_n 0, 1) := by decide +kernel
theorem dL_law_26 : decode cL_law 26 = .ok (.arraylength, 1) := by decide +kernel
theorem dL_law_27 : decode cL_law 27 = .ok (.bipush 8, 2) := by decide +kernel
theorem dL_law_29 : decode cL_law 29 = .ok (.isub, 1) := by decide +kernel
theorem dL_law_30 : decode cL_law 30 = .ok (.if_icmp .gt 2544, 3) := by decide +kernel
theorem dL_law_33 : decode cL_law 33 = .ok (.aload_n 0, 1) := by decide +kernel
theorem dL_law_34 : decode cL_law 34 = .ok (.iload 4, 2) := by decide +kernel
theorem dL_law_36 : decode cL_law 36 = .ok (.iaload, 1) := by decide +kernel
theorem dL_law_37 : decode cL_law 37 = .ok (.bipush 63, 2) := by decide +kernel
theorem dL_law_39 : decode cL_law 39 = .ok (.iand, 1) := by decide +kernel
theorem dL_law_40 : decode cL_law 40 = .ok (.tableswitch 2528 0 44 #[196, 269, 294, 319, 344, 436, 485, 572, 621, 658, 759, 846, 947, 984, 1009, 1046, 1071, 1096, 1121, 1182, 1219, 1256, 1317, 1354, 1379, 1452, 1525, 1574, 1635, 1684, 1745, 1806, 1879, 1940, 1965, 1978, 1991, 2040, 2147, 2234, 2295, 2356, 2393, 2442, 2503], 196) := by decide +kernel
theorem dL_law_236 : decode cL_law 236 = .ok (.aload_n 1, 1) := by decide +kernel
theorem dL_law_237 : decode cL_law 237 = .ok (.aload_n 0, 1) := by decide +kernel
theorem dL_law_238 : decode cL_law 238 = .ok (.iload 4, 2) := by decide +kernel
theorem dL_law_240 : decode cL_law 240 = .ok (.iconst 1, 1) := by decide +kernel
theorem dL_law_241 : decode cL_law 241 = .ok (.iadd, 1) := by decide +kernel
theorem dL_law_242 : decode cL_law 242 = .ok (.iaload, 1) := by decide +kernel
theorem dL_law_243 : decode cL_law 243 = .ok (.aload_n 0, 1) := by decide +kernel
theorem dL_law_244 : decode cL_law 244 = .ok (.iload 4, 2) := by decide +kernel
theorem dL_law_246 : decode cL_law 246 = .ok (.iconst 2, 1) := by decide +kernel
theorem dL_law_247 : decode cL_law 247 = .ok (.iadd, 1) := by decide +kernel
theorem dL_law_248 : decode cL_law 248 = .ok (.iaload, 1) := by decide +kernel
theorem dL_law_249 : decode cL_law 249 = .ok (.aload_n 0, 1) := by decide +kernel
theorem dL_law_250 : decode cL_law 250 = .ok (.iload 4, 2) := by decide +kernel
theorem dL_law_252 : decode cL_law 252 = .ok (.iconst 3, 1) := by decide +kernel
theorem dL_law_253 : decode cL_law 253 = .ok (.iadd, 1) := by decide +kernel
theorem dL_law_254 : decode cL_law 254 = .ok (.iaload, 1) := by decide +kernel
theorem dL_law_255 : decode cL_law 255 = .ok (.aload_n 0, 1) := by decide +kernel
theorem dL_law_256 : decode cL_law 256 = .ok (.iload 4, 2) := by decide +kernel
theorem dL_law_258 : decode cL_law 258 = .ok (.iconst 4, 1) := by decide +kernel
theorem dL_law_259 : decode cL_law 259 = .ok (.iadd, 1) := by decide +kernel
theorem dL_law_260 : decode cL_law 260 = .ok (.iaload, 1) := by decide +kernel
theorem dL_law_261 : decode cL_law 261 = .ok (.aload_n 0, 1) := by decide +kernel
theorem dL_law_262 : decode cL_law 262 = .ok (.iload 4, 2) := by decide +kernel
theorem dL_law_264 : decode cL_law 264 = .ok (.iconst 5, 1) := by decide +kernel
theorem dL_law_265 : decode cL_law 265 = .ok (.iadd, 1) := by decide +kernel
theorem dL_law_266 : decode cL_law 266 = .ok (.iaload, 1) := by decide +kernel
theorem dL_law_267 : decode cL_law 267 = .ok (.invokevirtual 19, 3) := by decide +kernel
theorem dL_law_270 : decode cL_law 270 = .ok (.aload_n 2, 1) := by decide +kernel
theorem dL_law_271 : decode cL_law 271 = .ok (.aload_n 0, 1) := by decide +kernel
theorem dL_law_272 : decode cL_law 272 = .ok (.iload 4, 2) := by decide +kernel
theorem dL_law_274 : decode cL_law 274 = .ok (.iconst 1, 1) := by decide +kernel
theorem dL_law_275 : decode cL_law 275 = .ok (.iadd, 1) := by decide +kernel
theorem dL_law_276 : decode cL_law 276 = .ok (.iaload, 1) := by decide +kernel
theorem dL_law_277 : decode cL_law 277 = .ok (.aload_n 0, 1) := by decide +kernel
theorem dL_law_278 : decode cL_law 278 = .ok (.iload 4, 2) := by decide +kernel
theorem dL_law_280 : decode cL_law 280 = .ok (.iconst 2, 1) := by decide +kernel
theorem dL_law_281 : decode cL_law 281 = .ok (.iadd, 1) := by decide +kernel
theorem dL_law_282 : decode cL_law 282 = .ok (.iaload, 1) := by decide +kernel
theorem dL_law_283 : decode cL_law 283 = .ok (.aload_n 0, 1) := by decide +kernel
theorem dL_law_284 : decode cL_law 284 = .ok (.iload 4, 2) := by decide +kernel
theorem dL_law_286 : decode cL_law 286 = .ok (.iconst 3, 1) := by decide +kernel
theorem dL_law_287 : decode cL_law 287 = .ok (.iadd, 1) := by decide +kernel
theorem dL_law_288 : decode cL_law 288 = .ok (.iaload, 1) := by decide +kernel
theorem dL_law_289 : decode cL_law 289 = .ok (.aload_n 0, 1) := by decide +kernel
theorem dL_law_290 : decode cL_law 290 = .ok (.iload 4, 2) := by decide +kernel
theorem dL_law_292 : decode cL_law 292 = .ok (.iconst 4, 1) := by decide +kernel
theorem dL_law_293 : decode cL_law 293 = .ok (.iadd, 1) := by decide +kernel
theorem dL_law_294 : decode cL_law 294 = .ok (.iaload, 1) := by decide +kernel
theorem dL_law_295 : decode cL_law 295 = .ok (.aload_n 0, 1) := by decide +kernel
theorem dL_law_296 : decode cL_law 296 = .ok (.iload 4, 2) := by decide +kernel
theorem dL_law_298 : decode cL_law 298 = .ok (.iconst 5, 1) := by decide +kernel
theorem dL_law_299 : decode cL_law 299 = .ok (.iadd, 1) := by decide +kernel
theorem dL_law_300 : decode cL_law 300 = .ok (.iaload, 1) := by decide +kernel
theorem dL_law_301 : decode cL_law 301 = .ok (.invokevirtual 23, 3) := by decide +kernel
theorem dL_law_304 : decode cL_law 304 = .ok (.if_icmp .eq 2264, 3) := by decide +kernel
theorem dL_law_307 : decode cL_law 307 = .ok (.iconst 0, 1) := by decide +kernel
theorem dL_law_308 : decode cL_law 308 = .ok (.ireturn, 1) := by decide +kernel
theorem dL_law_309 : decode cL_law 309 = .ok (.aload_n 1, 1) := by decide +kernel
theorem dL_law_310 : decode cL_law 310 = .ok (.aload_n 0, 1) := by decide +kernel
theorem dL_law_311 : decode cL_law 311 = .ok (.iload 4, 2) := by decide +kernel
theorem dL_law_313 : decode cL_law 313 = .ok (.iconst 1, 1) := by decide +kernel
theorem dL_law_314 : decode cL_law 314 = .ok (.iadd, 1) := by decide +kernel
theorem dL_law_315 : decode cL_law 315 = .ok (.iaload, 1) := by decide +kernel
theorem dL_law_316 : decode cL_law 316 = .ok (.invokevirtual 24, 3) := by decide +kernel
theorem dL_law_319 : decode cL_law 319 = .ok (.aload_n 2, 1) := by decide +kernel
theorem dL_law_320 : decode cL_law 320 = .ok (.aload_n 0, 1) := by decide +kernel
theorem dL_law_321 : decode cL_law 321 = .ok (.iload 4, 2) := by decide +kernel
theorem dL_law_323 : decode cL_law 323 = .ok (.iconst 1, 1) := by decide +kernel
theorem dL_law_324 : decode cL_law 324 = .ok (.iadd, 1) := by decide +kernel
theorem dL_law_325 : decode cL_law 325 = .ok (.iaload, 1) := by decide +kernel
theorem dL_law_326 : decode cL_law 326 = .ok (.invokevirtual 28, 3) := by decide +kernel
theorem dL_law_329 : decode cL_law 329 = .ok (.if_icmp .eq 2239, 3) := by decide +kernel
theorem dL_law_332 : decode cL_law 332 = .ok (.iconst 0, 1) := by decide +kernel
theorem dL_law_333 : decode cL_law 333 = .ok (.ireturn, 1) := by decide +kernel
theorem dL_law_334 : decode cL_law 334 = .ok (.aload_n 1, 1) := by decide +kernel
theorem dL_law_335 : decode cL_law 335 = .ok (.aload_n 0, 1) := by decide +kernel
theorem dL_law_336 : decode cL_law 336 = .ok (.iload 4, 2) := by decide +kernel
theorem dL_law_338 : decode cL_law 338 = .ok (.iconst 1, 1) := by decide +kernel
theorem dL_law_339 : decode cL_law 339 = .ok (.iadd, 1) := by decide +kernel
theorem dL_law_340 : decode cL_law 340 = .ok (.iaload, 1) := by decide +kernel
theorem dL_law_341 : decode cL_law 341 = .ok (.invokevirtual 29, 3) := by decide +kernel
theorem dL_law_344 : decode cL_law 344 = .ok (.aload_n 2, 1) := by decide +kernel
theorem dL_law_345 : decode cL_law 345 = .ok (.aload_n 0, 1) := by decide +kernel
theorem dL_law_346 : decode cL_law 346 = .ok (.iload 4, 2) := by decide +kernel
theorem dL_law_348 : decode cL_law 348 = .ok (.iconst 1, 1) := by decide +kernel
theorem dL_law_349 : decode cL_law 349 = .ok (.iadd, 1) := by decide +kernel
theorem dL_law_350 : decode cL_law 350 = .ok (.iaload, 1) := by decide +kernel
theorem dL_law_351 : decode cL_law 351 = .ok (.invokevirtual 33, 3) := by decide +kernel
theorem dL_law_354 : decode cL_law 354 = .ok (.if_icmp .eq 2214, 3) := by decide +kernel
theorem dL_law_357 : decode cL_law 357 = .ok (.iconst 0, 1) := by decide +kernel
theorem dL_law_358 : decode cL_law 358 = .ok (.ireturn, 1) := by decide +kernel
theorem dL_law_359 : decode cL_law 359 = .ok (.aload_n 1, 1) := by decide +kernel
theorem dL_law_360 : decode cL_law 360 = .ok (.aload_n 0, 1) := by decide +kernel
theorem dL_law_361 : decode cL_law 361 = .ok (.iload 4, 2) := by decide +kernel
theorem dL_law_363 : decode cL_law 363 = .ok (.iconst 1, 1) := by decide +kernel
theorem dL_law_364 : decode cL_law 364 = .ok (.iadd, 1) := by decide +kernel
theorem dL_law_365 : decode cL_law 365 = .ok (.iaload, 1) := by decide +kernel
theorem dL_law_366 : decode cL_law 366 = .ok (.invokevirtual 34, 3) := by decide +kernel
theorem dL_law_369 : decode cL_law 369 = .ok (.aload_n 2, 1) := by decide +kernel
theorem dL_law_370 : decode cL_law 370 = .ok (.aload_n 0, 1) := by decide +kernel
theorem dL_law_371 : decode cL_law 371 = .ok (.iload 4, 2) := by decide +kernel
theorem dL_law_373 : decode cL_law 373 = .ok (.iconst 1, 1) := by decide +kernel
theorem dL_law_374 : decode cL_law 374 = .ok (.iadd, 1) := by decide +kernel
theorem dL_law_375 : decode cL_law 375 = .ok (.iaload, 1) := by decide +kernel
theorem dL_law_376 : decode cL_law 376 = .ok (.invokevirtual 37, 3) := by decide +kernel
theorem dL_law_379 : decode cL_law 379 = .ok (.if_icmp .eq 2189, 3) := by decide +kernel
theorem dL_law_382 : decode cL_law 382 = .ok (.iconst 0, 1) := by decide +kernel
theorem dL_law_383 : decode cL_law 383 = .ok (.ireturn, 1) := by decide +kernel
theorem dL_law_384 : decode cL_law 384 = .ok (.aload_n 1, 1) := by decide +kernel
theorem dL_law_385 : decode cL_law 385 = .ok (.aload_n 0, 1) := by decide +kernel
theorem dL_law_386 : decode cL_law 386 = .ok (.iload 4, 2) := by decide +kernel
theorem dL_law_388 : decode cL_law 388 = .ok (.iconst 1, 1) := by decide +kernel
theorem dL_law_389 : decode cL_law 389 = .ok (.iadd, 1) := by decide +kernel
theorem dL_law_390 : decode cL_law 390 = .ok (.iaload, 1) := by decide +kernel
theorem dL_law_391 : decode cL_law 391 = .ok (.aload_n 0, 1) := by decide +kernel
theorem dL_law_392 : decode cL_law 392 = .ok (.iload 4, 2) := by decide +kernel
theorem dL_law_394 : decode cL_law 394 = .ok (.iconst 2, 1) := by decide +kernel
theorem dL_law_395 : decode cL_law 395 = .ok (.iadd, 1) := by decide +kernel
theorem dL_law_396 : decode cL_law 396 = .ok (.iaload, 1) := by decide +kernel
theorem dL_law_397 : decode cL_law 397 = .ok (.aload_n 0, 1) := by decide +kernel
theorem dL_law_398 : decode cL_law 398 = .ok (.iload 4, 2) := by decide +kernel
theorem dL_law_400 : decode cL_law 400 = .ok (.iconst 3, 1) := by decide +kernel
theorem dL_law_401 : decode cL_law 401 = .ok (.iadd, 1) := by decide +kernel
theorem dL_law_402 : decode cL_law 402 = .ok (.iaload, 1) := by decide +kernel
theorem dL_law_403 : decode cL_law 403 = .ok (.aload_n 0, 1) := by decide +kernel
theorem dL_law_404 : decode cL_law 404 = .ok (.iload 4, 2) := by decide +kernel
theorem dL_law_406 : decode cL_law 406 = .ok (.iconst 4, 1) := by decide +kernel
theorem dL_law_407 : decode cL_law 407 = .ok (.iadd, 1) := by decide +kernel
theorem dL_law_408 : decode cL_law 408 = .ok (.iaload, 1) := by decide +kernel
theorem dL_law_409 : decode cL_law 409 = .ok (.aload_n 3, 1) := by decide +kernel
theorem dL_law_410 : decode cL_law 410 = .ok (.invokestatic 38, 3) := by decide +kernel
theorem dL_law_413 : decode cL_law 413 = .ok (.istore 5, 2) := by decide +kernel
theorem dL_law_415 : decode cL_law 415 = .ok (.aload_n 2, 1) := by decide +kernel
theorem dL_law_416 : decode cL_law 416 = .ok (.aload_n 0, 1) := by decide +kernel
theorem dL_law_417 : decode cL_law 417 = .ok (.iload 4, 2) := by decide +kernel
theorem dL_law_419 : decode cL_law 419 = .ok (.iconst 1, 1) := by decide +kernel
theorem dL_law_420 : decode cL_law 420 = .ok (.iadd, 1) := by decide +kernel
theorem dL_law_421 : decode cL_law 421 = .ok (.iaload, 1) := by decide +kernel
theorem dL_law_422 : decode cL_law 422 = .ok (.aload_n 0, 1) := by decide +kernel
theorem dL_law_423 : decode cL_law 423 = .ok (.iload 4, 2) := by decide +kernel
theorem dL_law_425 : decode cL_law 425 = .ok (.iconst 2, 1) := by decide +kernel
theorem dL_law_426 : decode cL_law 426 = .ok (.iadd, 1) := by decide +kernel
theorem dL_law_427 : decode cL_law 427 = .ok (.iaload, 1) := by decide +kernel
theorem dL_law_428 : decode cL_law 428 = .ok (.aload_n 0, 1) := by decide +kernel
theorem dL_law_429 : decode cL_law 429 = .ok (.iload 4, 2) := by decide +kernel
theorem dL_law_431 : decode cL_law 431 = .ok (.iconst 3, 1) := by decide +kernel
theorem dL_law_432 : decode cL_law 432 = .ok (.iadd, 1) := by decide +kernel
theorem dL_law_433 : decode cL_law 433 = .ok (.iaload, 1) := by decide +kernel
theorem dL_law_434 : decode cL_law 434 = .ok (.aload_n 0, 1) := by decide +kernel
theorem dL_law_435 : decode cL_law 435 = .ok (.iload 4, 2) := by decide +kernel
theorem dL_law_437 : decode cL_law 437 = .ok (.iconst 4, 1) := by decide +kernel
theorem dL_law_438 : decode cL_law 438 = .ok (.iadd, 1) := by decide +kernel
theorem dL_law_439 : decode cL_law 439 = .ok (.iaload, 1) := by decide +kernel
theorem dL_law_440 : decode cL_law 440 = .ok (.invokevirtual 43, 3) := by decide +kernel
theorem dL_law_443 : decode cL_law 443 = .ok (.istore 6, 2) := by decide +kernel
theorem dL_law_445 : decode cL_law 445 = .ok (.aload_n 2, 1) := by decide +kernel
theorem dL_law_446 : decode cL_law 446 = .ok (.invokevirtual 44, 3) := by decide +kernel
theorem dL_law_449 : decode cL_law 449 = .ok (.iload 5, 2) := by decide +kernel
theorem dL_law_451 : decode cL_law 451 = .ok (.if_icmp .eq 5, 3) := by decide +kernel
theorem dL_law_454 : decode cL_law 454 = .ok (.iconst 0, 1) := by decide +kernel
theorem dL_law_455 : decode cL_law 455 = .ok (.ireturn, 1) := by decide +kernel
theorem dL_law_456 : decode cL_law 456 = .ok (.iload 5, 2) := by decide +kernel
theorem dL_law_458 : decode cL_law 458 = .ok (.ifCond .ne 15, 3) := by decide +kernel
theorem dL_law_461 : decode cL_law 461 = .ok (.aload_n 3, 1) := by decide +kernel
theorem dL_law_462 : decode cL_law 462 = .ok (.iconst 0, 1) := by decide +kernel
theorem dL_law_463 : decode cL_law 463 = .ok (.laload, 1) := by decide +kernel
theorem dL_law_464 : decode cL_law 464 = .ok (.iload 6, 2) := by decide +kernel
theorem dL_law_466 : decode cL_law 466 = .ok (.i2l, 1) := by decide +kernel
theorem dL_law_467 : decode cL_law 467 = .ok (.lcmp, 1) := by decide +kernel
theorem dL_law_468 : decode cL_law 468 = .ok (.ifCond .eq 5, 3) := by decide +kernel
theorem dL_law_471 : decode cL_law 471 = .ok (.iconst 0, 1) := by decide +kernel
theorem dL_law_472 : decode cL_law 472 = .ok (.ireturn, 1) := by decide +kernel
theorem dL_law_473 : decode cL_law 473 = .ok (.goto 2095, 3) := by decide +kernel
theorem dL_law_476 : decode cL_law 476 = .ok (.aload_n 1, 1) := by decide +kernel
theorem dL_law_477 : decode cL_law 477 = .ok (.aload_n 0, 1) := by decide +kernel
theorem dL_law_478 : decode cL_law 478 = .ok (.iload 4, 2) := by decide +kernel
theorem dL_law_480 : decode cL_law 480 = .ok (.iconst 1, 1) := by decide +kernel
theorem dL_law_481 : decode cL_law 481 = .ok (.iadd, 1) := by decide +kernel
theorem dL_law_482 : decode cL_law 482 = .ok (.iaload, 1) := by decide +kernel
theorem dL_law_483 : decode cL_law 483 = .ok (.aload_n 0, 1) := by decide +kernel
theorem dL_law_484 : decode cL_law 484 = .ok (.iload 4, 2) := by decide +kernel
theorem dL_law_486 : decode cL_law 486 = .ok (.iconst 2, 1) := by decide +kernel
theorem dL_law_487 : decode cL_law 487 = .ok (.iadd, 1) := by decide +kernel
theorem dL_law_488 : decode cL_law 488 = .ok (.iaload, 1) := by decide +kernel
theorem dL_law_489 : decode cL_law 489 = .ok (.aload_n 0, 1) := by decide +kernel
theorem dL_law_490 : decode cL_law 490 = .ok (.iload 4, 2) := by decide +kernel
theorem dL_law_492 : decode cL_law 492 = .ok (.iconst 3, 1) := by decide +kernel
theorem dL_law_493 : decode cL_law 493 = .ok (.iadd, 1) := by decide +kernel
theorem dL_law_494 : decode cL_law 494 = .ok (.iaload, 1) := by decide +kernel
theorem dL_law_495 : decode cL_law 495 = .ok (.invokevirtual 48, 3) := by decide +kernel
theorem dL_law_498 : decode cL_law 498 = .ok (.aload_n 2, 1) := by decide +kernel
theorem dL_law_499 : decode cL_law 499 = .ok (.aload_n 0, 1) := by decide +kernel
theorem dL_law_500 : decode cL_law 500 = .ok (.iload 4, 2) := by decide +kernel
theorem dL_law_502 : decode cL_law 502 = .ok (.iconst 1, 1) := by decide +kernel
theorem dL_law_503 : decode cL_law 503 = .ok (.iadd, 1) := by decide +kernel
theorem dL_law_504 : decode cL_law 504 = .ok (.iaload, 1) := by decide +kernel
theorem dL_law_505 : decode cL_law 505 = .ok (.aload_n 0, 1) := by decide +kernel
theorem dL_law_506 : decode cL_law 506 = .ok (.iload 4, 2) := by decide +kernel
theorem dL_law_508 : decode cL_law 508 = .ok (.iconst 2, 1) := by decide +kernel
theorem dL_law_509 : decode cL_law 509 = .ok (.iadd, 1) := by decide +kernel
theorem dL_law_510 : decode cL_law 510 = .ok (.iaload, 1) := by decide +kernel
theorem dL_law_511 : decode cL_law 511 = .ok (.aload_n 0, 1) := by decide +kernel
theorem dL_law_512 : decode cL_law 512 = .ok (.iload 4, 2) := by decide +kernel
theorem dL_law_514 : decode cL_law 514 = .ok (.iconst 3, 1) := by decide +kernel
theorem dL_law_515 : decode cL_law 515 = .ok (.iadd, 1) := by decide +kernel
theorem dL_law_516 : decode cL_law 516 = .ok (.iaload, 1) := by decide +kernel
theorem dL_law_517 : decode cL_law 517 = .ok (.invokevirtual 52, 3) := by decide +kernel
theorem dL_law_520 : decode cL_law 520 = .ok (.if_icmp .eq 2048, 3) := by decide +kernel
theorem dL_law_523 : decode cL_law 523 = .ok (.iconst 0, 1) := by decide +kernel
theorem dL_law_524 : decode cL_law 524 = .ok (.ireturn, 1) := by decide +kernel
theorem dL_law_525 : decode cL_law 525 = .ok (.aload_n 1, 1) := by decide +kernel
theorem dL_law_526 : decode cL_law 526 = .ok (.aload_n 0, 1) := by decide +kernel
theorem dL_law_527 : decode cL_law 527 = .ok (.iload 4, 2) := by decide +kernel
theorem dL_law_529 : decode cL_law 529 = .ok (.iconst 1, 1) := by decide +kernel
theorem dL_law_530 : decode cL_law 530 = .ok (.iadd, 1) := by decide +kernel
theorem dL_law_531 : decode cL_law 531 = .ok (.iaload, 1) := by decide +kernel
theorem dL_law_532 : decode cL_law 532 = .ok (.aload_n 0, 1) := by decide +kernel
theorem dL_law_533 : decode cL_law 533 = .ok (.iload 4, 2) := by decide +kernel
theorem dL_law_535 : decode cL_law 535 = .ok (.iconst 2, 1) := by decide +kernel
theorem dL_law_536 : decode cL_law 536 = .ok (.iadd, 1) := by decide +kernel
theorem dL_law_537 : decode cL_law 537 = .ok (.iaload, 1) := by decide +kernel
theorem dL_law_538 : decode cL_law 538 = .ok (.aload_n 0, 1) := by decide +kernel
theorem dL_law_539 : decode cL_law 539 = .ok (.iload 4, 2) := by decide +kernel
theorem dL_law_541 : decode cL_law 541 = .ok (.iconst 3, 1) := by decide +kernel
theorem dL_law_542 : decode cL_law 542 = .ok (.iadd, 1) := by decide +kernel
theorem dL_law_543 : decode cL_law 543 = .ok (.iaload, 1) := by decide +kernel
theorem dL_law_544 : decode cL_law 544 = .ok (.aload_n 0, 1) := by decide +kernel
theorem dL_law_545 : decode cL_law 545 = .ok (.iload 4, 2) := by decide +kernel
theorem dL_law_547 : decode cL_law 547 = .ok (.iconst 4, 1) := by decide +kernel
theorem dL_law_548 : decode cL_law 548 = .ok (.iadd, 1) := by decide +kernel
theorem dL_law_549 : decode cL_law 549 = .ok (.iaload, 1) := by decide +kernel
theorem dL_law_550 : decode cL_law 550 = .ok (.aload_n 0, 1) := by decide +kernel
theorem dL_law_551 : decode cL_law 551 = .ok (.iload 4, 2) := by decide +kernel
theorem dL_law_553 : decode cL_law 553 = .ok (.iconst 5, 1) := by decide +kernel
theorem dL_law_554 : decode cL_law 554 = .ok (.iadd, 1) := by decide +kernel
theorem dL_law_555 : decode cL_law 555 = .ok (.iaload, 1) := by decide +kernel
theorem dL_law_556 : decode cL_law 556 = .ok (.aload_n 0, 1) := by decide +kernel
theorem dL_law_557 : decode cL_law 557 = .ok (.iload 4, 2) := by decide +kernel
theorem dL_law_559 : decode cL_law 559 = .ok (.bipush 6, 2) := by decide +kernel
theorem dL_law_561 : decode cL_law 561 = .ok (.iadd, 1) := by decide +kernel
theorem dL_law_562 : decode cL_law 562 = .ok (.iaload, 1) := by decide +kernel
theorem dL_law_563 : decode cL_law 563 = .ok (.invokevirtual 53, 3) := by decide +kernel
theorem dL_law_566 : decode cL_law 566 = .ok (.aload_n 2, 1) := by decide +kernel
theorem dL_law_567 : decode cL_law 567 = .ok (.aload_n 0, 1) := by decide +kernel
theorem dL_law_568 : decode cL_law 568 = .ok (.iload 4, 2) := by decide +kernel
theorem dL_law_570 : decode cL_law 570 = .ok (.iconst 1, 1) := by decide +kernel
theorem dL_law_571 : decode cL_law 571 = .ok (.iadd, 1) := by decide +kernel
theorem dL_law_572 : decode cL_law 572 = .ok (.iaload, 1) := by decide +kernel
theorem dL_law_573 : decode cL_law 573 = .ok (.aload_n 0, 1) := by decide +kernel
theorem dL_law_574 : decode cL_law 574 = .ok (.iload 4, 2) := by decide +kernel
theorem dL_law_576 : decode cL_law 576 = .ok (.iconst 2, 1) := by decide +kernel
theorem dL_law_577 : decode cL_law 577 = .ok (.iadd, 1) := by decide +kernel
theorem dL_law_578 : decode cL_law 578 = .ok (.iaload, 1) := by decide +kernel
theorem dL_law_579 : decode cL_law 579 = .ok (.aload_n 0, 1) := by decide +kernel
theorem dL_law_580 : decode cL_law 580 = .ok (.iload 4, 2) := by decide +kernel
theorem dL_law_582 : decode cL_law 582 = .ok (.iconst 3, 1) := by decide +kernel
theorem dL_law_583 : decode cL_law 583 = .ok (.iadd, 1) := by decide +kernel
theorem dL_law_584 : decode cL_law 584 = .ok (.iaload, 1) := by decide +kernel
theorem dL_law_585 : decode cL_law 585 = .ok (.aload_n 0, 1) := by decide +kernel
theorem dL_law_586 : decode cL_law 586 = .ok (.iload 4, 2) := by decide +kernel
theorem dL_law_588 : decode cL_law 588 = .ok (.iconst 4, 1) := by decide +kernel
theorem dL_law_589 : decode cL_law 589 = .ok (.iadd, 1) := by decide +kernel
theorem dL_law_590 : decode cL_law 590 = .ok (.iaload, 1) := by decide +kernel
theorem dL_law_591 : decode cL_law 591 = .ok (.aload_n 0, 1) := by decide +kernel
theorem dL_law_592 : decode cL_law 592 = .ok (.iload 4, 2) := by decide +kernel
theorem dL_law_594 : decode cL_law 594 = .ok (.iconst 5, 1) := by decide +kernel
theorem dL_law_595 : decode cL_law 595 = .ok (.iadd, 1) := by decide +kernel
theorem dL_law_596 : decode cL_law 596 = .ok (.iaload, 1) := by decide +kernel
theorem dL_law_597 : decode cL_law 597 = .ok (.aload_n 0, 1) := by decide +kernel
theorem dL_law_598 : decode cL_law 598 = .ok (.iload 4, 2) := by decide +kernel
theorem dL_law_600 : decode cL_law 600 = .ok (.bipush 6, 2) := by decide +kernel
theorem dL_law_602 : decode cL_law 602 = .ok (.iadd, 1) := by decide +kernel
theorem dL_law_603 : decode cL_law 603 = .ok (.iaload, 1) := by decide +kernel
theorem dL_law_604 : decode cL_law 604 = .ok (.invokevirtual 57, 3) := by decide +kernel
theorem dL_law_607 : decode cL_law 607 = .ok (.if_icmp .eq 1961, 3) := by decide +kernel
theorem dL_law_610 : decode cL_law 610 = .ok (.iconst 0, 1) := by decide +kernel
theorem dL_law_611 : decode cL_law 611 = .ok (.ireturn, 1) := by decide +kernel
theorem dL_law_612 : decode cL_law 612 = .ok (.aload_n 1, 1) := by decide +kernel
theorem dL_law_613 : decode cL_law 613 = .ok (.aload_n 0, 1) := by decide +kernel
theorem dL_law_614 : decode cL_law 614 = .ok (.iload 4, 2) := by decide +kernel
theorem dL_law_616 : decode cL_law 616 = .ok (.iconst 1, 1) := by decide +kernel
theorem dL_law_617 : decode cL_law 617 = .ok (.iadd, 1) := by decide +kernel
theorem dL_law_618 : decode cL_law 618 = .ok (.iaload, 1) := by decide +kernel
theorem dL_law_619 : decode cL_law 619 = .ok (.aload_n 0, 1) := by decide +kernel
theorem dL_law_620 : decode cL_law 620 = .ok (.iload 4, 2) := by decide +kernel
theorem dL_law_622 : decode cL_law 622 = .ok (.iconst 2, 1) := by decide +kernel
theorem dL_law_623 : decode cL_law 623 = .ok (.iadd, 1) := by decide +kernel
theorem dL_law_624 : decode cL_law 624 = .ok (.iaload, 1) := by decide +kernel
theorem dL_law_625 : decode cL_law 625 = .ok (.aload_n 0, 1) := by decide +kernel
theorem dL_law_626 : decode cL_law 626 = .ok (.iload 4, 2) := by decide +kernel
theorem dL_law_628 : decode cL_law 628 = .ok (.iconst 3, 1) := by decide +kernel
theorem dL_law_629 : decode cL_law 629 = .ok (.iadd, 1) := by decide +kernel
theorem dL_law_630 : decode cL_law 630 = .ok (.iaload, 1) := by decide +kernel
theorem dL_law_631 : decode cL_law 631 = .ok (.invokevirtual 58, 3) := by decide +kernel
theorem dL_law_634 : decode cL_law 634 = .ok (.aload_n 2, 1) := by decide +kernel
theorem dL_law_635 : decode cL_law 635 = .ok (.aload_n 0, 1) := by decide +kernel
theorem dL_law_636 : decode cL_law 636 = .ok (.iload 4, 2) := by decide +kernel
theorem dL_law_638 : decode cL_law 638 = .ok (.iconst 1, 1) := by decide +kernel
theorem dL_law_639 : decode cL_law 639 = .ok (.iadd, 1) := by decide +kernel
theorem dL_law_640 : decode cL_law 640 = .ok (.iaload, 1) := by decide +kernel
theorem dL_law_641 : decode cL_law 641 = .ok (.aload_n 0, 1) := by decide +kernel
theorem dL_law_642 : decode cL_law 642 = .ok (.iload 4, 2) := by decide +kernel
theorem dL_law_644 : decode cL_law 644 = .ok (.iconst 2, 1) := by decide +kernel
theorem dL_law_645 : decode cL_law 645 = .ok (.iadd, 1) := by decide +kernel
theorem dL_law_646 : decode cL_law 646 = .ok (.iaload, 1) := by decide +kernel
theorem dL_law_647 : decode cL_law 647 = .ok (.aload_n 0, 1) := by decide +kernel
theorem dL_law_648 : decode cL_law 648 = .ok (.iload 4, 2) := by decide +kernel
theorem dL_law_650 : decode cL_law 650 = .ok (.iconst 3, 1) := by decide +kernel
theorem dL_law_651 : decode cL_law 651 = .ok (.iadd, 1) := by decide +kernel
theorem dL_law_652 : decode cL_law 652 = .ok (.iaload, 1) := by decide +kernel
theorem dL_law_653 : decode cL_law 653 = .ok (.invokevirtual 61, 3) := by decide +kernel
theorem dL_law_656 : decode cL_law 656 = .ok (.if_icmp .eq 1912, 3) := by decide +kernel
theorem dL_law_659 : decode cL_law 659 = .ok (.iconst 0, 1) := by decide +kernel
theorem dL_law_660 : decode cL_law 660 = .ok (.ireturn, 1) := by decide +kernel
theorem dL_law_661 : decode cL_law 661 = .ok (.aload_n 1, 1) := by decide +kernel
theorem dL_law_662 : decode cL_law 662 = .ok (.aload_n 0, 1) := by decide +kernel
theorem dL_law_663 : decode cL_law 663 = .ok (.iload 4, 2) := by decide +kernel
theorem dL_law_665 : decode cL_law 665 = .ok (.iconst 1, 1) := by decide +kernel
theorem dL_law_666 : decode cL_law 666 = .ok (.iadd, 1) := by decide +kernel
theorem dL_law_667 : decode cL_law 667 = .ok (.iaload, 1) := by decide +kernel
theorem dL_law_668 : decode cL_law 668 = .ok (.aload_n 0, 1) := by decide +kernel
theorem dL_law_669 : decode cL_law 669 = .ok (.iload 4, 2) := by decide +kernel
theorem dL_law_671 : decode cL_law 671 = .ok (.iconst 2, 1) := by decide +kernel
theorem dL_law_672 : decode cL_law 672 = .ok (.iadd, 1) := by decide +kernel
theorem dL_law_673 : decode cL_law 673 = .ok (.iaload, 1) := by decide +kernel
theorem dL_law_674 : decode cL_law 674 = .ok (.invokevirtual 62, 3) := by decide +kernel
theorem dL_law_677 : decode cL_law 677 = .ok (.aload_n 2, 1) := by decide +kernel
theorem dL_law_678 : decode cL_law 678 = .ok (.aload_n 0, 1) := by decide +kernel
theorem dL_law_679 : decode cL_law 679 = .ok (.iload 4, 2) := by decide +kernel
theorem dL_law_681 : decode cL_law 681 = .ok (.iconst 1, 1) := by decide +kernel
theorem dL_law_682 : decode cL_law 682 = .ok (.iadd, 1) := by decide +kernel
theorem dL_law_683 : decode cL_law 683 = .ok (.iaload, 1) := by decide +kernel
theorem dL_law_684 : decode cL_law 684 = .ok (.aload_n 0, 1) := by decide +kernel
theorem dL_law_685 : decode cL_law 685 = .ok (.iload 4, 2) := by decide +kernel
theorem dL_law_687 : decode cL_law 687 = .ok (.iconst 2, 1) := by decide +kernel
theorem dL_law_688 : decode cL_law 688 = .ok (.iadd, 1) := by decide +kernel
theorem dL_law_689 : decode cL_law 689 = .ok (.iaload, 1) := by decide +kernel
theorem dL_law_690 : decode cL_law 690 = .ok (.invokevirtual 66, 3) := by decide +kernel
theorem dL_law_693 : decode cL_law 693 = .ok (.if_icmp .eq 1875, 3) := by decide +kernel
theorem dL_law_696 : decode cL_law 696 = .ok (.iconst 0, 1) := by decide +kernel
theorem dL_law_697 : decode cL_law 697 = .ok (.ireturn, 1) := by decide +kernel
theorem dL_law_698 : decode cL_law 698 = .ok (.aload_n 1, 1) := by decide +kernel
theorem dL_law_699 : decode cL_law 699 = .ok (.aload_n 0, 1) := by decide +kernel
theorem dL_law_700 : decode cL_law 700 = .ok (.iload 4, 2) := by decide +kernel
theorem dL_law_702 : decode cL_law 702 = .ok (.iconst 1, 1) := by decide +kernel
theorem dL_law_703 : decode cL_law 703 = .ok (.iadd, 1) := by decide +kernel
theorem dL_law_704 : decode cL_law 704 = .ok (.iaload, 1) := by decide +kernel
theorem dL_law_705 : decode cL_law 705 = .ok (.aload_n 0, 1) := by decide +kernel
theorem dL_law_706 : decode cL_law 706 = .ok (.iload 4, 2) := by decide +kernel
theorem dL_law_708 : decode cL_law 708 = .ok (.iconst 2, 1) := by decide +kernel
theorem dL_law_709 : decode cL_law 709 = .ok (.iadd, 1) := by decide +kernel
theorem dL_law_710 : decode cL_law 710 = .ok (.iaload, 1) := by decide +kernel
theorem dL_law_711 : decode cL_law 711 = .ok (.aload_n 0, 1) := by decide +kernel
theorem dL_law_712 : decode cL_law 712 = .ok (.iload 4, 2) := by decide +kernel
theorem dL_law_714 : decode cL_law 714 = .ok (.iconst 3, 1) := by decide +kernel
theorem dL_law_715 : decode cL_law 715 = .ok (.iadd, 1) := by decide +kernel
theorem dL_law_716 : decode cL_law 716 = .ok (.iaload, 1) := by decide +kernel
theorem dL_law_717 : decode cL_law 717 = .ok (.aload_n 0, 1) := by decide +kernel
theorem dL_law_718 : decode cL_law 718 = .ok (.iload 4, 2) := by decide +kernel
theorem dL_law_720 : decode cL_law 720 = .ok (.iconst 4, 1) := by decide +kernel
theorem dL_law_721 : decode cL_law 721 = .ok (.iadd, 1) := by decide +kernel
theorem dL_law_722 : decode cL_law 722 = .ok (.iaload, 1) := by decide +kernel
theorem dL_law_723 : decode cL_law 723 = .ok (.aload_n 0, 1) := by decide +kernel
theorem dL_law_724 : decode cL_law 724 = .ok (.iload 4, 2) := by decide +kernel
theorem dL_law_726 : decode cL_law 726 = .ok (.iconst 5, 1) := by decide +kernel
theorem dL_law_727 : decode cL_law 727 = .ok (.iadd, 1) := by decide +kernel
theorem dL_law_728 : decode cL_law 728 = .ok (.iaload, 1) := by decide +kernel
theorem dL_law_729 : decode cL_law 729 = .ok (.aload_n 0, 1) := by decide +kernel
theorem dL_law_730 : decode cL_law 730 = .ok (.iload 4, 2) := by decide +kernel
theorem dL_law_732 : decode cL_law 732 = .ok (.bipush 6, 2) := by decide +kernel
theorem dL_law_734 : decode cL_law 734 = .ok (.iadd, 1) := by decide +kernel
theorem dL_law_735 : decode cL_law 735 = .ok (.iaload, 1) := by decide +kernel
theorem dL_law_736 : decode cL_law 736 = .ok (.aload_n 0, 1) := by decide +kernel
theorem dL_law_737 : decode cL_law 737 = .ok (.iload 4, 2) := by decide +kernel
theorem dL_law_739 : decode cL_law 739 = .ok (.bipush 7, 2) := by decide +kernel
theorem dL_law_741 : decode cL_law 741 = .ok (.iadd, 1) := by decide +kernel
theorem dL_law_742 : decode cL_law 742 = .ok (.iaload, 1) := by decide +kernel
theorem dL_law_743 : decode cL_law 743 = .ok (.invokevirtual 67, 3) := by decide +kernel
theorem dL_law_746 : decode cL_law 746 = .ok (.aload_n 2, 1) := by decide +kernel
theorem dL_law_747 : decode cL_law 747 = .ok (.aload_n 0, 1) := by decide +kernel
theorem dL_law_748 : decode cL_law 748 = .ok (.iload 4, 2) := by decide +kernel
theorem dL_law_750 : decode cL_law 750 = .ok (.iconst 1, 1) := by decide +kernel
theorem dL_law_751 : decode cL_law 751 = .ok (.iadd, 1) := by decide +kernel
theorem dL_law_752 : decode cL_law 752 = .ok (.iaload, 1) := by decide +kernel
theorem dL_law_753 : decode cL_law 753 = .ok (.aload_n 0, 1) := by decide +kernel
theorem dL_law_754 : decode cL_law 754 = .ok (.iload 4, 2) := by decide +kernel
theorem dL_law_756 : decode cL_law 756 = .ok (.iconst 2, 1) := by decide +kernel
theorem dL_law_757 : decode cL_law 757 = .ok (.iadd, 1) := by decide +kernel
theorem dL_law_758 : decode cL_law 758 = .ok (.iaload, 1) := by decide +kernel
theorem dL_law_759 : decode cL_law 759 = .ok (.aload_n 0, 1) := by decide +kernel
theorem dL_law_760 : decode cL_law 760 = .ok (.iload 4, 2) := by decide +kernel
theorem dL_law_762 : decode cL_law 762 = .ok (.iconst 3, 1) := by decide +kernel
theorem dL_law_763 : decode cL_law 763 = .ok (.iadd, 1) := by decide +kernel
theorem dL_law_764 : decode cL_law 764 = .ok (.iaload, 1) := by decide +kernel
theorem dL_law_765 : decode cL_law 765 = .ok (.aload_n 0, 1) := by decide +kernel
theorem dL_law_766 : decode cL_law 766 = .ok (.iload 4, 2) := by decide +kernel
theorem dL_law_768 : decode cL_law 768 = .ok (.iconst 4, 1) := by decide +kernel
theorem dL_law_769 : decode cL_law 769 = .ok (.iadd, 1) := by decide +kernel
theorem dL_law_770 : decode cL_law 770 = .ok (.iaload, 1) := by decide +kernel
theorem dL_law_771 : decode cL_law 771 = .ok (.aload_n 0, 1) := by decide +kernel
theorem dL_law_772 : decode cL_law 772 = .ok (.iload 4, 2) := by decide +kernel
theorem dL_law_774 : decode cL_law 774 = .ok (.iconst 5, 1) := by decide +kernel
theorem dL_law_775 : decode cL_law 775 = .ok (.iadd, 1) := by decide +kernel
theorem dL_law_776 : decode cL_law 776 = .ok (.iaload, 1) := by decide +kernel
theorem dL_law_777 : decode cL_law 777 = .ok (.aload_n 0, 1) := by decide +kernel
theorem dL_law_778 : decode cL_law 778 = .ok (.iload 4, 2) := by decide +kernel
theorem dL_law_780 : decode cL_law 780 = .ok (.bipush 6, 2) := by decide +kernel
theorem dL_law_782 : decode cL_law 782 = .ok (.iadd, 1) := by decide +kernel
theorem dL_law_783 : decode cL_law 783 = .ok (.iaload, 1) := by decide +kernel
theorem dL_law_784 : decode cL_law 784 = .ok (.aload_n 0, 1) := by decide +kernel
theorem dL_law_785 : decode cL_law 785 = .ok (.iload 4, 2) := by decide +kernel
theorem dL_law_787 : decode cL_law 787 = .ok (.bipush 7, 2) := by decide +kernel
theorem dL_law_789 : decode cL_law 789 = .ok (.iadd, 1) := by decide +kernel
theorem dL_law_790 : decode cL_law 790 = .ok (.iaload, 1) := by decide +kernel
theorem dL_law_791 : decode cL_law 791 = .ok (.invokevirtual 71, 3) := by decide +kernel
theorem dL_law_794 : decode cL_law 794 = .ok (.if_icmp .eq 1774, 3) := by decide +kernel
theorem dL_law_797 : decode cL_law 797 = .ok (.iconst 0, 1) := by decide +kernel
theorem dL_law_798 : decode cL_law 798 = .ok (.ireturn, 1) := by decide +kernel
theorem dL_law_799 : decode cL_law 799 = .ok (.aload_n 1, 1) := by decide +kernel
theorem dL_law_800 : decode cL_law 800 = .ok (.aload_n 0, 1) := by decide +kernel
theorem dL_law_801 : decode cL_law 801 = .ok (.iload 4, 2) := by decide +kernel
theorem dL_law_803 : decode cL_law 803 = .ok (.iconst 1, 1) := by decide +kernel
theorem dL_law_804 : decode cL_law 804 = .ok (.iadd, 1) := by decide +kernel
theorem dL_law_805 : decode cL_law 805 = .ok (.iaload, 1) := by decide +kernel
theorem dL_law_806 : decode cL_law 806 = .ok (.aload_n 0, 1) := by decide +kernel
theorem dL_law_807 : decode cL_law 807 = .ok (.iload 4, 2) := by decide +kernel
theorem dL_law_809 : decode cL_law 809 = .ok (.iconst 2, 1) := by decide +kernel
theorem dL_law_810 : decode cL_law 810 = .ok (.iadd, 1) := by decide +kernel
theorem dL_law_811 : decode cL_law 811 = .ok (.iaload, 1) := by decide +kernel
theorem dL_law_812 : decode cL_law 812 = .ok (.aload_n 0, 1) := by decide +kernel
theorem dL_law_813 : decode cL_law 813 = .ok (.iload 4, 2) := by decide +kernel
theorem dL_law_815 : decode cL_law 815 = .ok (.iconst 3, 1) := by decide +kernel
theorem dL_law_816 : decode cL_law 816 = .ok (.iadd, 1) := by decide +kernel
theorem dL_law_817 : decode cL_law 817 = .ok (.iaload, 1) := by decide +kernel
theorem dL_law_818 : decode cL_law 818 = .ok (.aload_n 0, 1) := by decide +kernel
theorem dL_law_819 : decode cL_law 819 = .ok (.iload 4, 2) := by decide +kernel
theorem dL_law_821 : decode cL_law 821 = .ok (.iconst 4, 1) := by decide +kernel
theorem dL_law_822 : decode cL_law 822 = .ok (.iadd, 1) := by decide +kernel
theorem dL_law_823 : decode cL_law 823 = .ok (.iaload, 1) := by decide +kernel
theorem dL_law_824 : decode cL_law 824 = .ok (.aload_n 0, 1) := by decide +kernel
theorem dL_law_825 : decode cL_law 825 = .ok (.iload 4, 2) := by decide +kernel
theorem dL_law_827 : decode cL_law 827 = .ok (.iconst 5, 1) := by decide +kernel
theorem dL_law_828 : decode cL_law 828 = .ok (.iadd, 1) := by decide +kernel
theorem dL_law_829 : decode cL_law 829 = .ok (.iaload, 1) := by decide +kernel
theorem dL_law_830 : decode cL_law 830 = .ok (.aload_n 0, 1) := by decide +kernel
theorem dL_law_831 : decode cL_law 831 = .ok (.iload 4, 2) := by decide +kernel
theorem dL_law_833 : decode cL_law 833 = .ok (.bipush 6, 2) := by decide +kernel
theorem dL_law_835 : decode cL_law 835 = .ok (.iadd, 1) := by decide +kernel
theorem dL_law_836 : decode cL_law 836 = .ok (.iaload, 1) := by decide +kernel
theorem dL_law_837 : decode cL_law 837 = .ok (.invokevirtual 72, 3) := by decide +kernel
theorem dL_law_840 : decode cL_law 840 = .ok (.aload_n 2, 1) := by decide +kernel
theorem dL_law_841 : decode cL_law 841 = .ok (.aload_n 0, 1) := by decide +kernel
theorem dL_law_842 : decode cL_law 842 = .ok (.iload 4, 2) := by decide +kernel
theorem dL_law_844 : decode cL_law 844 = .ok (.iconst 1, 1) := by decide +kernel
theorem dL_law_845 : decode cL_law 845 = .ok (.iadd, 1) := by decide +kernel
theorem dL_law_846 : decode cL_law 846 = .ok (.iaload, 1) := by decide +kernel
theorem dL_law_847 : decode cL_law 847 = .ok (.aload_n 0, 1) := by decide +kernel
theorem dL_law_848 : decode cL_law 848 = .ok (.iload 4, 2) := by decide +kernel
theorem dL_law_850 : decode cL_law 850 = .ok (.iconst 2, 1) := by decide +kernel
theorem dL_law_851 : decode cL_law 851 = .ok (.iadd, 1) := by decide +kernel
theorem dL_law_852 : decode cL_law 852 = .ok (.iaload, 1) := by decide +kernel
theorem dL_law_853 : decode cL_law 853 = .ok (.aload_n 0, 1) := by decide +kernel
theorem dL_law_854 : decode cL_law 854 = .ok (.iload 4, 2) := by decide +kernel
theorem dL_law_856 : decode cL_law 856 = .ok (.iconst 3, 1) := by decide +kernel
theorem dL_law_857 : decode cL_law 857 = .ok (.iadd, 1) := by decide +kernel
theorem dL_law_858 : decode cL_law 858 = .ok (.iaload, 1) := by decide +kernel
theorem dL_law_859 : decode cL_law 859 = .ok (.aload_n 0, 1) := by decide +kernel
theorem dL_law_860 : decode cL_law 860 = .ok (.iload 4, 2) := by decide +kernel
theorem dL_law_862 : decode cL_law 862 = .ok (.iconst 4, 1) := by decide +kernel
theorem dL_law_863 : decode cL_law 863 = .ok (.iadd, 1) := by decide +kernel
theorem dL_law_864 : decode cL_law 864 = .ok (.iaload, 1) := by decide +kernel
theorem dL_law_865 : decode cL_law 865 = .ok (.aload_n 0, 1) := by decide +kernel
theorem dL_law_866 : decode cL_law 866 = .ok (.iload 4, 2) := by decide +kernel
theorem dL_law_868 : decode cL_law 868 = .ok (.iconst 5, 1) := by decide +kernel
theorem dL_law_869 : decode cL_law 869 = .ok (.iadd, 1) := by decide +kernel
theorem dL_law_870 : decode cL_law 870 = .ok (.iaload, 1) := by decide +kernel
theorem dL_law_871 : decode cL_law 871 = .ok (.aload_n 0, 1) := by decide +kernel
theorem dL_law_872 : decode cL_law 872 = .ok (.iload 4, 2) := by decide +kernel
theorem dL_law_874 : decode cL_law 874 = .ok (.bipush 6, 2) := by decide +kernel
theorem dL_law_876 : decode cL_law 876 = .ok (.iadd, 1) := by decide +kernel
theorem dL_law_877 : decode cL_law 877 = .ok (.iaload, 1) := by decide +kernel
theorem dL_law_878 : decode cL_law 878 = .ok (.invokevirtual 75, 3) := by decide +kernel
theorem dL_law_881 : decode cL_law 881 = .ok (.if_icmp .eq 1687, 3) := by decide +kernel
theorem dL_law_884 : decode cL_law 884 = .ok (.iconst 0, 1) := by decide +kernel
theorem dL_law_885 : decode cL_law 885 = .ok (.ireturn, 1) := by decide +kernel
theorem dL_law_886 : decode cL_law 886 = .ok (.aload_n 1, 1) := by decide +kernel
theorem dL_law_887 : decode cL_law 887 = .ok (.aload_n 0, 1) := by decide +kernel
theorem dL_law_888 : decode cL_law 888 = .ok (.iload 4, 2) := by decide +kernel
theorem dL_law_890 : decode cL_law 890 = .ok (.iconst 1, 1) := by decide +kernel
theorem dL_law_891 : decode cL_law 891 = .ok (.iadd, 1) := by decide +kernel
theorem dL_law_892 : decode cL_law 892 = .ok (.iaload, 1) := by decide +kernel
theorem dL_law_893 : decode cL_law 893 = .ok (.aload_n 0, 1) := by decide +kernel
theorem dL_law_894 : decode cL_law 894 = .ok (.iload 4, 2) := by decide +kernel
theorem dL_law_896 : decode cL_law 896 = .ok (.iconst 2, 1) := by decide +kernel
theorem dL_law_897 : decode cL_law 897 = .ok (.iadd, 1) := by decide +kernel
theorem dL_law_898 : decode cL_law 898 = .ok (.iaload, 1) := by decide +kernel
theorem dL_law_899 : decode cL_law 899 = .ok (.aload_n 0, 1) := by decide +kernel
theorem dL_law_900 : decode cL_law 900 = .ok (.iload 4, 2) := by decide +kernel
theorem dL_law_902 : decode cL_law 902 = .ok (.iconst 3, 1) := by decide +kernel
theorem dL_law_903 : decode cL_law 903 = .ok (.iadd, 1) := by decide +kernel
theorem dL_law_904 : decode cL_law 904 = .ok (.iaload, 1) := by decide +kernel
theorem dL_law_905 : decode cL_law 905 = .ok (.aload_n 0, 1) := by decide +kernel
theorem dL_law_906 : decode cL_law 906 = .ok (.iload 4, 2) := by decide +kernel
theorem dL_law_908 : decode cL_law 908 = .ok (.iconst 4, 1) := by decide +kernel
theorem dL_law_909 : decode cL_law 909 = .ok (.iadd, 1) := by decide +kernel
theorem dL_law_910 : decode cL_law 910 = .ok (.iaload, 1) := by decide +kernel
theorem dL_law_911 : decode cL_law 911 = .ok (.aload_n 0, 1) := by decide +kernel
theorem dL_law_912 : decode cL_law 912 = .ok (.iload 4, 2) := by decide +kernel
theorem dL_law_914 : decode cL_law 914 = .ok (.iconst 5, 1) := by decide +kernel
theorem dL_law_915 : decode cL_law 915 = .ok (.iadd, 1) := by decide +kernel
theorem dL_law_916 : decode cL_law 916 = .ok (.iaload, 1) := by decide +kernel
theorem dL_law_917 : decode cL_law 917 = .ok (.aload_n 0, 1) := by decide +kernel
theorem dL_law_918 : decode cL_law 918 = .ok (.iload 4, 2) := by decide +kernel
theorem dL_law_920 : decode cL_law 920 = .ok (.bipush 6, 2) := by decide +kernel
theorem dL_law_922 : decode cL_law 922 = .ok (.iadd, 1) := by decide +kernel
theorem dL_law_923 : decode cL_law 923 = .ok (.iaload, 1) := by decide +kernel
theorem dL_law_924 : decode cL_law 924 = .ok (.aload_n 0, 1) := by decide +kernel
theorem dL_law_925 : decode cL_law 925 = .ok (.iload 4, 2) := by decide +kernel
theorem dL_law_927 : decode cL_law 927 = .ok (.bipush 7, 2) := by decide +kernel
theorem dL_law_929 : decode cL_law 929 = .ok (.iadd, 1) := by decide +kernel
theorem dL_law_930 : decode cL_law 930 = .ok (.iaload, 1) := by decide +kernel
theorem dL_law_931 : decode cL_law 931 = .ok (.invokevirtual 76, 3) := by decide +kernel
theorem dL_law_934 : decode cL_law 934 = .ok (.aload_n 2, 1) := by decide +kernel
theorem dL_law_935 : decode cL_law 935 = .ok (.aload_n 0, 1) := by decide +kernel
theorem dL_law_936 : decode cL_law 936 = .ok (.iload 4, 2) := by decide +kernel
theorem dL_law_938 : decode cL_law 938 = .ok (.iconst 1, 1) := by decide +kernel
theorem dL_law_939 : decode cL_law 939 = .ok (.iadd, 1) := by decide +kernel
theorem dL_law_940 : decode cL_law 940 = .ok (.iaload, 1) := by decide +kernel
theorem dL_law_941 : decode cL_law 941 = .ok (.aload_n 0, 1) := by decide +kernel
theorem dL_law_942 : decode cL_law 942 = .ok (.iload 4, 2) := by decide +kernel
theorem dL_law_944 : decode cL_law 944 = .ok (.iconst 2, 1) := by decide +kernel
theorem dL_law_945 : decode cL_law 945 = .ok (.iadd, 1) := by decide +kernel
theorem dL_law_946 : decode cL_law 946 = .ok (.iaload, 1) := by decide +kernel
theorem dL_law_947 : decode cL_law 947 = .ok (.aload_n 0, 1) := by decide +kernel
theorem dL_law_948 : decode cL_law 948 = .ok (.iload 4, 2) := by decide +kernel
theorem dL_law_950 : decode cL_law 950 = .ok (.iconst 3, 1) := by decide +kernel
theorem dL_law_951 : decode cL_law 951 = .ok (.iadd, 1) := by decide +kernel
theorem dL_law_952 : decode cL_law 952 = .ok (.iaload, 1) := by decide +kernel
theorem dL_law_953 : decode cL_law 953 = .ok (.aload_n 0, 1) := by decide +kernel
theorem dL_law_954 : decode cL_law 954 = .ok (.iload 4, 2) := by decide +kernel
theorem dL_law_956 : decode cL_law 956 = .ok (.iconst 4, 1) := by decide +kernel
theorem dL_law_957 : decode cL_law 957 = .ok (.iadd, 1) := by decide +kernel
theorem dL_law_958 : decode cL_law 958 = .ok (.iaload, 1) := by decide +kernel
theorem dL_law_959 : decode cL_law 959 = .ok (.aload_n 0, 1) := by decide +kernel
theorem dL_law_960 : decode cL_law 960 = .ok (.iload 4, 2) := by decide +kernel
theorem dL_law_962 : decode cL_law 962 = .ok (.iconst 5, 1) := by decide +kernel
theorem dL_law_963 : decode cL_law 963 = .ok (.iadd, 1) := by decide +kernel
theorem dL_law_964 : decode cL_law 964 = .ok (.iaload, 1) := by decide +kernel
theorem dL_law_965 : decode cL_law 965 = .ok (.aload_n 0, 1) := by decide +kernel
theorem dL_law_966 : decode cL_law 966 = .ok (.iload 4, 2) := by decide +kernel
theorem dL_law_968 : decode cL_law 968 = .ok (.bipush 6, 2) := by decide +kernel
theorem dL_law_970 : decode cL_law 970 = .ok (.iadd, 1) := by decide +kernel
theorem dL_law_971 : decode cL_law 971 = .ok (.iaload, 1) := by decide +kernel
theorem dL_law_972 : decode cL_law 972 = .ok (.aload_n 0, 1) := by decide +kernel
theorem dL_law_973 : decode cL_law 973 = .ok (.iload 4, 2) := by decide +kernel
theorem dL_law_975 : decode cL_law 975 = .ok (.bipush 7, 2) := by decide +kernel
theorem dL_law_977 : decode cL_law 977 = .ok (.iadd, 1) := by decide +kernel
theorem dL_law_978 : decode cL_law 978 = .ok (.iaload, 1) := by decide +kernel
theorem dL_law_979 : decode cL_law 979 = .ok (.invokevirtual 79, 3) := by decide +kernel
theorem dL_law_982 : decode cL_law 982 = .ok (.if_icmp .eq 1586, 3) := by decide +kernel
theorem dL_law_985 : decode cL_law 985 = .ok (.iconst 0, 1) := by decide +kernel
theorem dL_law_986 : decode cL_law 986 = .ok (.ireturn, 1) := by decide +kernel
theorem dL_law_987 : decode cL_law 987 = .ok (.aload_n 1, 1) := by decide +kernel
theorem dL_law_988 : decode cL_law 988 = .ok (.aload_n 0, 1) := by decide +kernel
theorem dL_law_989 : decode cL_law 989 = .ok (.iload 4, 2) := by decide +kernel
theorem dL_law_991 : decode cL_law 991 = .ok (.iconst 1, 1) := by decide +kernel
theorem dL_law_992 : decode cL_law 992 = .ok (.iadd, 1) := by decide +kernel
theorem dL_law_993 : decode cL_law 993 = .ok (.iaload, 1) := by decide +kernel
theorem dL_law_994 : decode cL_law 994 = .ok (.aload_n 0, 1) := by decide +kernel
theorem dL_law_995 : decode cL_law 995 = .ok (.iload 4, 2) := by decide +kernel
theorem dL_law_997 : decode cL_law 997 = .ok (.iconst 2, 1) := by decide +kernel
theorem dL_law_998 : decode cL_law 998 = .ok (.iadd, 1) := by decide +kernel
theorem dL_law_999 : decode cL_law 999 = .ok (.iaload, 1) := by decide +kernel
theorem dL_law_1000 : decode cL_law 1000 = .ok (.invokevirtual 80, 3) := by decide +kernel
theorem dL_law_1003 : decode cL_law 1003 = .ok (.aload_n 2, 1) := by decide +kernel
theorem dL_law_1004 : decode cL_law 1004 = .ok (.aload_n 0, 1) := by decide +kernel
theorem dL_law_1005 : decode cL_law 1005 = .ok (.iload 4, 2) := by decide +kernel
theorem dL_law_1007 : decode cL_law 1007 = .ok (.iconst 1, 1) := by decide +kernel
theorem dL_law_1008 : decode cL_law 1008 = .ok (.iadd, 1) := by decide +kernel
theorem dL_law_1009 : decode cL_law 1009 = .ok (.iaload, 1) := by decide +kernel
theorem dL_law_1010 : decode cL_law 1010 = .ok (.aload_n 0, 1) := by decide +kernel
theorem dL_law_1011 : decode cL_law 1011 = .ok (.iload 4, 2) := by decide +kernel
theorem dL_law_1013 : decode cL_law 1013 = .ok (.iconst 2, 1) := by decide +kernel
theorem dL_law_1014 : decode cL_law 1014 = .ok (.iadd, 1) := by decide +kernel
theorem dL_law_1015 : decode cL_law 1015 = .ok (.iaload, 1) := by decide +kernel
theorem dL_law_1016 : decode cL_law 1016 = .ok (.invokevirtual 83, 3) := by decide +kernel
theorem dL_law_1019 : decode cL_law 1019 = .ok (.if_icmp .eq 1549, 3) := by decide +kernel
theorem dL_law_1022 : decode cL_law 1022 = .ok (.iconst 0, 1) := by decide +kernel
theorem dL_law_1023 : decode cL_law 1023 = .ok (.ireturn, 1) := by decide +kernel
theorem dL_law_1024 : decode cL_law 1024 = .ok (.aload_n 1, 1) := by decide +kernel
theorem dL_law_1025 : decode cL_law 1025 = .ok (.aload_n 0, 1) := by decide +kernel
theorem dL_law_1026 : decode cL_law 1026 = .ok (.iload 4, 2) := by decide +kernel
theorem dL_law_1028 : decode cL_law 1028 = .ok (.iconst 1, 1) := by decide +kernel
theorem dL_law_1029 : decode cL_law 1029 = .ok (.iadd, 1) := by decide +kernel
theorem dL_law_1030 : decode cL_law 1030 = .ok (.iaload, 1) := by decide +kernel
theorem dL_law_1031 : decode cL_law 1031 = .ok (.invokevirtual 84, 3) := by decide +kernel
theorem dL_law_1034 : decode cL_law 1034 = .ok (.aload_n 2, 1) := by decide +kernel
theorem dL_law_1035 : decode cL_law 1035 = .ok (.aload_n 0, 1) := by decide +kernel
theorem dL_law_1036 : decode cL_law 1036 = .ok (.iload 4, 2) := by decide +kernel
theorem dL_law_1038 : decode cL_law 1038 = .ok (.iconst 1, 1) := by decide +kernel
theorem dL_law_1039 : decode cL_law 1039 = .ok (.iadd, 1) := by decide +kernel
theorem dL_law_1040 : decode cL_law 1040 = .ok (.iaload, 1) := by decide +kernel
theorem dL_law_1041 : decode cL_law 1041 = .ok (.invokevirtual 87, 3) := by decide +kernel
theorem dL_law_1044 : decode cL_law 1044 = .ok (.if_icmp .eq 1524, 3) := by decide +kernel
theorem dL_law_1047 : decode cL_law 1047 = .ok (.iconst 0, 1) := by decide +kernel
theorem dL_law_1048 : decode cL_law 1048 = .ok (.ireturn, 1) := by decide +kernel
theorem dL_law_1049 : decode cL_law 1049 = .ok (.aload_n 1, 1) := by decide +kernel
theorem dL_law_1050 : decode cL_law 1050 = .ok (.aload_n 0, 1) := by decide +kernel
theorem dL_law_1051 : decode cL_law 1051 = .ok (.iload 4, 2) := by decide +kernel
theorem dL_law_1053 : decode cL_law 1053 = .ok (.iconst 1, 1) := by decide +kernel
theorem dL_law_1054 : decode cL_law 1054 = .ok (.iadd, 1) := by decide +kernel
theorem dL_law_1055 : decode cL_law 1055 = .ok (.iaload, 1) := by decide +kernel
theorem dL_law_1056 : decode cL_law 1056 = .ok (.aload_n 0, 1) := by decide +kernel
theorem dL_law_1057 : decode cL_law 1057 = .ok (.iload 4, 2) := by decide +kernel
theorem dL_law_1059 : decode cL_law 1059 = .ok (.iconst 2, 1) := by decide +kernel
theorem dL_law_1060 : decode cL_law 1060 = .ok (.iadd, 1) := by decide +kernel
theorem dL_law_1061 : decode cL_law 1061 = .ok (.iaload, 1) := by decide +kernel
theorem dL_law_1062 : decode cL_law 1062 = .ok (.invokevirtual 88, 3) := by decide +kernel
theorem dL_law_1065 : decode cL_law 1065 = .ok (.aload_n 2, 1) := by decide +kernel
theorem dL_law_1066 : decode cL_law 1066 = .ok (.aload_n 0, 1) := by decide +kernel
theorem dL_law_1067 : decode cL_law 1067 = .ok (.iload 4, 2) := by decide +kernel
theorem dL_law_1069 : decode cL_law 1069 = .ok (.iconst 1, 1) := by decide +kernel
theorem dL_law_1070 : decode cL_law 1070 = .ok (.iadd, 1) := by decide +kernel
theorem dL_law_1071 : decode cL_law 1071 = .ok (.iaload, 1) := by decide +kernel
theorem dL_law_1072 : decode cL_law 1072 = .ok (.aload_n 0, 1) := by decide +kernel
theorem dL_law_1073 : decode cL_law 1073 = .ok (.iload 4, 2) := by decide +kernel
theorem dL_law_1075 : decode cL_law 1075 = .ok (.iconst 2, 1) := by decide +kernel
theorem dL_law_1076 : decode cL_law 1076 = .ok (.iadd, 1) := by decide +kernel
theorem dL_law_1077 : decode cL_law 1077 = .ok (.iaload, 1) := by decide +kernel
theorem dL_law_1078 : decode cL_law 1078 = .ok (.invokevirtual 91, 3) := by decide +kernel
theorem dL_law_1081 : decode cL_law 1081 = .ok (.if_icmp .eq 1487, 3) := by decide +kernel
theorem dL_law_1084 : decode cL_law 1084 = .ok (.iconst 0, 1) := by decide +kernel
theorem dL_law_1085 : decode cL_law 1085 = .ok (.ireturn, 1) := by decide +kernel
theorem dL_law_1086 : decode cL_law 1086 = .ok (.aload_n 1, 1) := by decide +kernel
theorem dL_law_1087 : decode cL_law 1087 = .ok (.aload_n 0, 1) := by decide +kernel
theorem dL_law_1088 : decode cL_law 1088 = .ok (.iload 4, 2) := by decide +kernel
theorem dL_law_1090 : decode cL_law 1090 = .ok (.iconst 1, 1) := by decide +kernel
theorem dL_law_1091 : decode cL_law 1091 = .ok (.iadd, 1) := by decide +kernel
theorem dL_law_1092 : decode cL_law 1092 = .ok (.iaload, 1) := by decide +kernel
theorem dL_law_1093 : decode cL_law 1093 = .ok (.invokevirtual 92, 3) := by decide +kernel
theorem dL_law_1096 : decode cL_law 1096 = .ok (.aload_n 2, 1) := by decide +kernel
theorem dL_law_1097 : decode cL_law 1097 = .ok (.aload_n 0, 1) := by decide +kernel
theorem dL_law_1098 : decode cL_law 1098 = .ok (.iload 4, 2) := by decide +kernel
theorem dL_law_1100 : decode cL_law 1100 = .ok (.iconst 1, 1) := by decide +kernel
theorem dL_law_1101 : decode cL_law 1101 = .ok (.iadd, 1) := by decide +kernel
theorem dL_law_1102 : decode cL_law 1102 = .ok (.iaload, 1) := by decide +kernel
theorem dL_law_1103 : decode cL_law 1103 = .ok (.invokevirtual 95, 3) := by decide +kernel
theorem dL_law_1106 : decode cL_law 1106 = .ok (.if_icmp .eq 1462, 3) := by decide +kernel
theorem dL_law_1109 : decode cL_law 1109 = .ok (.iconst 0, 1) := by decide +kernel
theorem dL_law_1110 : decode cL_law 1110 = .ok (.ireturn, 1) := by decide +kernel
theorem dL_law_1111 : decode cL_law 1111 = .ok (.aload_n 1, 1) := by decide +kernel
theorem dL_law_1112 : decode cL_law 1112 = .ok (.aload_n 0, 1) := by decide +kernel
theorem dL_law_1113 : decode cL_law 1113 = .ok (.iload 4, 2) := by decide +kernel
theorem dL_law_1115 : decode cL_law 1115 = .ok (.iconst 1, 1) := by decide +kernel
theorem dL_law_1116 : decode cL_law 1116 = .ok (.iadd, 1) := by decide +kernel
theorem dL_law_1117 : decode cL_law 1117 = .ok (.iaload, 1) := by decide +kernel
theorem dL_law_1118 : decode cL_law 1118 = .ok (.invokevirtual 96, 3) := by decide +kernel
theorem dL_law_1121 : decode cL_law 1121 = .ok (.aload_n 2, 1) := by decide +kernel
theorem dL_law_1122 : decode cL_law 1122 = .ok (.aload_n 0, 1) := by decide +kernel
theorem dL_law_1123 : decode cL_law 1123 = .ok (.iload 4, 2) := by decide +kernel
theorem dL_law_1125 : decode cL_law 1125 = .ok (.iconst 1, 1) := by decide +kernel
theorem dL_law_1126 : decode cL_law 1126 = .ok (.iadd, 1) := by decide +kernel
theorem dL_law_1127 : decode cL_law 1127 = .ok (.iaload, 1) := by decide +kernel
theorem dL_law_1128 : decode cL_law 1128 = .ok (.invokevirtual 99, 3) := by decide +kernel
theorem dL_law_1131 : decode cL_law 1131 = .ok (.if_icmp .eq 1437, 3) := by decide +kernel
theorem dL_law_1134 : decode cL_law 1134 = .ok (.iconst 0, 1) := by decide +kernel
theorem dL_law_1135 : decode cL_law 1135 = .ok (.ireturn, 1) := by decide +kernel
theorem dL_law_1136 : decode cL_law 1136 = .ok (.aload_n 1, 1) := by decide +kernel
theorem dL_law_1137 : decode cL_law 1137 = .ok (.aload_n 0, 1) := by decide +kernel
theorem dL_law_1138 : decode cL_law 1138 = .ok (.iload 4, 2) := by decide +kernel
theorem dL_law_1140 : decode cL_law 1140 = .ok (.iconst 1, 1) := by decide +kernel
theorem dL_law_1141 : decode cL_law 1141 = .ok (.iadd, 1) := by decide +kernel
theorem dL_law_1142 : decode cL_law 1142 = .ok (.iaload, 1) := by decide +kernel
theorem dL_law_1143 : decode cL_law 1143 = .ok (.invokevirtual 100, 3) := by decide +kernel
theorem dL_law_1146 : decode cL_law 1146 = .ok (.aload_n 2, 1) := by decide +kernel
theorem dL_law_1147 : decode cL_law 1147 = .ok (.aload_n 0, 1) := by decide +kernel
theorem dL_law_1148 : decode cL_law 1148 = .ok (.iload 4, 2) := by decide +kernel
theorem dL_law_1150 : decode cL_law 1150 = .ok (.iconst 1, 1) := by decide +kernel
theorem dL_law_1151 : decode cL_law 1151 = .ok (.iadd, 1) := by decide +kernel
theorem dL_law_1152 : decode cL_law 1152 = .ok (.iaload, 1) := by decide +kernel
theorem dL_law_1153 : decode cL_law 1153 = .ok (.invokevirtual 103, 3) := by decide +kernel
theorem dL_law_1156 : decode cL_law 1156 = .ok (.if_icmp .eq 1412, 3) := by decide +kernel
theorem dL_law_1159 : decode cL_law 1159 = .ok (.iconst 0, 1) := by decide +kernel
theorem dL_law_1160 : decode cL_law 1160 = .ok (.ireturn, 1) := by decide +kernel
theorem dL_law_1161 : decode cL_law 1161 = .ok (.aload_n 1, 1) := by decide +kernel
theorem dL_law_1162 : decode cL_law 1162 = .ok (.aload_n 0, 1) := by decide +kernel
theorem dL_law_1163 : decode cL_law 1163 = .ok (.iload 4, 2) := by decide +kernel
theorem dL_law_1165 : decode cL_law 1165 = .ok (.iconst 1, 1) := by decide +kernel
theorem dL_law_1166 : decode cL_law 1166 = .ok (.iadd, 1) := by decide +kernel
theorem dL_law_1167 : decode cL_law 1167 = .ok (.iaload, 1) := by decide +kernel
theorem dL_law_1168 : decode cL_law 1168 = .ok (.aload_n 0, 1) := by decide +kernel
theorem dL_law_1169 : decode cL_law 1169 = .ok (.iload 4, 2) := by decide +kernel
theorem dL_law_1171 : decode cL_law 1171 = .ok (.iconst 2, 1) := by decide +kernel
theorem dL_law_1172 : decode cL_law 1172 = .ok (.iadd, 1) := by decide +kernel
theorem dL_law_1173 : decode cL_law 1173 = .ok (.iaload, 1) := by decide +kernel
theorem dL_law_1174 : decode cL_law 1174 = .ok (.aload_n 0, 1) := by decide +kernel
theorem dL_law_1175 : decode cL_law 1175 = .ok (.iload 4, 2) := by decide +kernel
theorem dL_law_1177 : decode cL_law 1177 = .ok (.iconst 3, 1) := by decide +kernel
theorem dL_law_1178 : decode cL_law 1178 = .ok (.iadd, 1) := by decide +kernel
theorem dL_law_1179 : decode cL_law 1179 = .ok (.iaload, 1) := by decide +kernel
theorem dL_law_1180 : decode cL_law 1180 = .ok (.aload_n 0, 1) := by decide +kernel
theorem dL_law_1181 : decode cL_law 1181 = .ok (.iload 4, 2) := by decide +kernel
theorem dL_law_1183 : decode cL_law 1183 = .ok (.iconst 4, 1) := by decide +kernel
theorem dL_law_1184 : decode cL_law 1184 = .ok (.iadd, 1) := by decide +kernel
theorem dL_law_1185 : decode cL_law 1185 = .ok (.iaload, 1) := by decide +kernel
theorem dL_law_1186 : decode cL_law 1186 = .ok (.invokevirtual 104, 3) := by decide +kernel
theorem dL_law_1189 : decode cL_law 1189 = .ok (.aload_n 2, 1) := by decide +kernel
theorem dL_law_1190 : decode cL_law 1190 = .ok (.aload_n 0, 1) := by decide +kernel
theorem dL_law_1191 : decode cL_law 1191 = .ok (.iload 4, 2) := by decide +kernel
theorem dL_law_1193 : decode cL_law 1193 = .ok (.iconst 1, 1) := by decide +kernel
theorem dL_law_1194 : decode cL_law 1194 = .ok (.iadd, 1) := by decide +kernel
theorem dL_law_1195 : decode cL_law 1195 = .ok (.iaload, 1) := by decide +kernel
theorem dL_law_1196 : decode cL_law 1196 = .ok (.aload_n 0, 1) := by decide +kernel
theorem dL_law_1197 : decode cL_law 1197 = .ok (.iload 4, 2) := by decide +kernel
theorem dL_law_1199 : decode cL_law 1199 = .ok (.iconst 2, 1) := by decide +kernel
theorem dL_law_1200 : decode cL_law 1200 = .ok (.iadd, 1) := by decide +kernel
theorem dL_law_1201 : decode cL_law 1201 = .ok (.iaload, 1) := by decide +kernel
theorem dL_law_1202 : decode cL_law 1202 = .ok (.aload_n 0, 1) := by decide +kernel
theorem dL_law_1203 : decode cL_law 1203 = .ok (.iload 4, 2) := by decide +kernel
theorem dL_law_1205 : decode cL_law 1205 = .ok (.iconst 3, 1) := by decide +kernel
theorem dL_law_1206 : decode cL_law 1206 = .ok (.iadd, 1) := by decide +kernel
theorem dL_law_1207 : decode cL_law 1207 = .ok (.iaload, 1) := by decide +kernel
theorem dL_law_1208 : decode cL_law 1208 = .ok (.aload_n 0, 1) := by decide +kernel
theorem dL_law_1209 : decode cL_law 1209 = .ok (.iload 4, 2) := by decide +kernel
theorem dL_law_1211 : decode cL_law 1211 = .ok (.iconst 4, 1) := by decide +kernel
theorem dL_law_1212 : decode cL_law 1212 = .ok (.iadd, 1) := by decide +kernel
theorem dL_law_1213 : decode cL_law 1213 = .ok (.iaload, 1) := by decide +kernel
theorem dL_law_1214 : decode cL_law 1214 = .ok (.invokevirtual 107, 3) := by decide +kernel
theorem dL_law_1217 : decode cL_law 1217 = .ok (.if_icmp .eq 1351, 3) := by decide +kernel
theorem dL_law_1220 : decode cL_law 1220 = .ok (.iconst 0, 1) := by decide +kernel
theorem dL_law_1221 : decode cL_law 1221 = .ok (.ireturn, 1) := by decide +kernel
theorem dL_law_1222 : decode cL_law 1222 = .ok (.aload_n 1, 1) := by decide +kernel
theorem dL_law_1223 : decode cL_law 1223 = .ok (.aload_n 0, 1) := by decide +kernel
theorem dL_law_1224 : decode cL_law 1224 = .ok (.iload 4, 2) := by decide +kernel
theorem dL_law_1226 : decode cL_law 1226 = .ok (.iconst 1, 1) := by decide +kernel
theorem dL_law_1227 : decode cL_law 1227 = .ok (.iadd, 1) := by decide +kernel
theorem dL_law_1228 : decode cL_law 1228 = .ok (.iaload, 1) := by decide +kernel
theorem dL_law_1229 : decode cL_law 1229 = .ok (.aload_n 0, 1) := by decide +kernel
theorem dL_law_1230 : decode cL_law 1230 = .ok (.iload 4, 2) := by decide +kernel
theorem dL_law_1232 : decode cL_law 1232 = .ok (.iconst 2, 1) := by decide +kernel
theorem dL_law_1233 : decode cL_law 1233 = .ok (.iadd, 1) := by decide +kernel
theorem dL_law_1234 : decode cL_law 1234 = .ok (.iaload, 1) := by decide +kernel
theorem dL_law_1235 : decode cL_law 1235 = .ok (.invokevirtual 108, 3) := by decide +kernel
theorem dL_law_1238 : decode cL_law 1238 = .ok (.aload_n 2, 1) := by decide +kernel
theorem dL_law_1239 : decode cL_law 1239 = .ok (.aload_n 0, 1) := by decide +kernel
theorem dL_law_1240 : decode cL_law 1240 = .ok (.iload 4, 2) := by decide +kernel
theorem dL_law_1242 : decode cL_law 1242 = .ok (.iconst 1, 1) := by decide +kernel
theorem dL_law_1243 : decode cL_law 1243 = .ok (.iadd, 1) := by decide +kernel
theorem dL_law_1244 : decode cL_law 1244 = .ok (.iaload, 1) := by decide +kernel
theorem dL_law_1245 : decode cL_law 1245 = .ok (.aload_n 0, 1) := by decide +kernel
theorem dL_law_1246 : decode cL_law 1246 = .ok (.iload 4, 2) := by decide +kernel
theorem dL_law_1248 : decode cL_law 1248 = .ok (.iconst 2, 1) := by decide +kernel
theorem dL_law_1249 : decode cL_law 1249 = .ok (.iadd, 1) := by decide +kernel
theorem dL_law_1250 : decode cL_law 1250 = .ok (.iaload, 1) := by decide +kernel
theorem dL_law_1251 : decode cL_law 1251 = .ok (.invokevirtual 112, 3) := by decide +kernel
theorem dL_law_1254 : decode cL_law 1254 = .ok (.if_icmp .eq 1314, 3) := by decide +kernel
theorem dL_law_1257 : decode cL_law 1257 = .ok (.iconst 0, 1) := by decide +kernel
theorem dL_law_1258 : decode cL_law 1258 = .ok (.ireturn, 1) := by decide +kernel
theorem dL_law_1259 : decode cL_law 1259 = .ok (.aload_n 1, 1) := by decide +kernel
theorem dL_law_1260 : decode cL_law 1260 = .ok (.aload_n 0, 1) := by decide +kernel
theorem dL_law_1261 : decode cL_law 1261 = .ok (.iload 4, 2) := by decide +kernel
theorem dL_law_1263 : decode cL_law 1263 = .ok (.iconst 1, 1) := by decide +kernel
theorem dL_law_1264 : decode cL_law 1264 = .ok (.iadd, 1) := by decide +kernel
theorem dL_law_1265 : decode cL_law 1265 = .ok (.iaload, 1) := by decide +kernel
theorem dL_law_1266 : decode cL_law 1266 = .ok (.aload_n 0, 1) := by decide +kernel
theorem dL_law_1267 : decode cL_law 1267 = .ok (.iload 4, 2) := by decide +kernel
theorem dL_law_1269 : decode cL_law 1269 = .ok (.iconst 2, 1) := by decide +kernel
theorem dL_law_1270 : decode cL_law 1270 = .ok (.iadd, 1) := by decide +kernel
theorem dL_law_1271 : decode cL_law 1271 = .ok (.iaload, 1) := by decide +kernel
theorem dL_law_1272 : decode cL_law 1272 = .ok (.invokevirtual 113, 3) := by decide +kernel
theorem dL_law_1275 : decode cL_law 1275 = .ok (.aload_n 2, 1) := by decide +kernel
theorem dL_law_1276 : decode cL_law 1276 = .ok (.aload_n 0, 1) := by decide +kernel
theorem dL_law_1277 : decode cL_law 1277 = .ok (.iload 4, 2) := by decide +kernel
theorem dL_law_1279 : decode cL_law 1279 = .ok (.iconst 1, 1) := by decide +kernel
theorem dL_law_1280 : decode cL_law 1280 = .ok (.iadd, 1) := by decide +kernel
theorem dL_law_1281 : decode cL_law 1281 = .ok (.iaload, 1) := by decide +kernel
theorem dL_law_1282 : decode cL_law 1282 = .ok (.aload_n 0, 1) := by decide +kernel
theorem dL_law_1283 : decode cL_law 1283 = .ok (.iload 4, 2) := by decide +kernel
theorem dL_law_1285 : decode cL_law 1285 = .ok (.iconst 2, 1) := by decide +kernel
theorem dL_law_1286 : decode cL_law 1286 = .ok (.iadd, 1) := by decide +kernel
theorem dL_law_1287 : decode cL_law 1287 = .ok (.iaload, 1) := by decide +kernel
theorem dL_law_1288 : decode cL_law 1288 = .ok (.invokevirtual 116, 3) := by decide +kernel
theorem dL_law_1291 : decode cL_law 1291 = .ok (.if_icmp .eq 1277, 3) := by decide +kernel
theorem dL_law_1294 : decode cL_law 1294 = .ok (.iconst 0, 1) := by decide +kernel
theorem dL_law_1295 : decode cL_law 1295 = .ok (.ireturn, 1) := by decide +kernel
theorem dL_law_1296 : decode cL_law 1296 = .ok (.aload_n 1, 1) := by decide +kernel
theorem dL_law_1297 : decode cL_law 1297 = .ok (.aload_n 0, 1) := by decide +kernel
theorem dL_law_1298 : decode cL_law 1298 = .ok (.iload 4, 2) := by decide +kernel
theorem dL_law_1300 : decode cL_law 1300 = .ok (.iconst 1, 1) := by decide +kernel
theorem dL_law_1301 : decode cL_law 1301 = .ok (.iadd, 1) := by decide +kernel
theorem dL_law_1302 : decode cL_law 1302 = .ok (.iaload, 1) := by decide +kernel
theorem dL_law_1303 : decode cL_law 1303 = .ok (.aload_n 0, 1) := by decide +kernel
theorem dL_law_1304 : decode cL_law 1304 = .ok (.iload 4, 2) := by decide +kernel
theorem dL_law_1306 : decode cL_law 1306 = .ok (.iconst 2, 1) := by decide +kernel
theorem dL_law_1307 : decode cL_law 1307 = .ok (.iadd, 1) := by decide +kernel
theorem dL_law_1308 : decode cL_law 1308 = .ok (.iaload, 1) := by decide +kernel
theorem dL_law_1309 : decode cL_law 1309 = .ok (.aload_n 0, 1) := by decide +kernel
theorem dL_law_1310 : decode cL_law 1310 = .ok (.iload 4, 2) := by decide +kernel
theorem dL_law_1312 : decode cL_law 1312 = .ok (.iconst 3, 1) := by decide +kernel
theorem dL_law_1313 : decode cL_law 1313 = .ok (.iadd, 1) := by decide +kernel
theorem dL_law_1314 : decode cL_law 1314 = .ok (.iaload, 1) := by decide +kernel
theorem dL_law_1315 : decode cL_law 1315 = .ok (.aload_n 0, 1) := by decide +kernel
theorem dL_law_1316 : decode cL_law 1316 = .ok (.iload 4, 2) := by decide +kernel
theorem dL_law_1318 : decode cL_law 1318 = .ok (.iconst 4, 1) := by decide +kernel
theorem dL_law_1319 : decode cL_law 1319 = .ok (.iadd, 1) := by decide +kernel
theorem dL_law_1320 : decode cL_law 1320 = .ok (.iaload, 1) := by decide +kernel
theorem dL_law_1321 : decode cL_law 1321 = .ok (.invokevirtual 117, 3) := by decide +kernel
theorem dL_law_1324 : decode cL_law 1324 = .ok (.aload_n 2, 1) := by decide +kernel
theorem dL_law_1325 : decode cL_law 1325 = .ok (.aload_n 0, 1) := by decide +kernel
theorem dL_law_1326 : decode cL_law 1326 = .ok (.iload 4, 2) := by decide +kernel
theorem dL_law_1328 : decode cL_law 1328 = .ok (.iconst 1, 1) := by decide +kernel
theorem dL_law_1329 : decode cL_law 1329 = .ok (.iadd, 1) := by decide +kernel
theorem dL_law_1330 : decode cL_law 1330 = .ok (.iaload, 1) := by decide +kernel
theorem dL_law_1331 : decode cL_law 1331 = .ok (.aload_n 0, 1) := by decide +kernel
theorem dL_law_1332 : decode cL_law 1332 = .ok (.iload 4, 2) := by decide +kernel
theorem dL_law_1334 : decode cL_law 1334 = .ok (.iconst 2, 1) := by decide +kernel
theorem dL_law_1335 : decode cL_law 1335 = .ok (.iadd, 1) := by decide +kernel
theorem dL_law_1336 : decode cL_law 1336 = .ok (.iaload, 1) := by decide +kernel
theorem dL_law_1337 : decode cL_law 1337 = .ok (.aload_n 0, 1) := by decide +kernel
theorem dL_law_1338 : decode cL_law 1338 = .ok (.iload 4, 2) := by decide +kernel
theorem dL_law_1340 : decode cL_law 1340 = .ok (.iconst 3, 1) := by decide +kernel
theorem dL_law_1341 : decode cL_law 1341 = .ok (.iadd, 1) := by decide +kernel
theorem dL_law_1342 : decode cL_law 1342 = .ok (.iaload, 1) := by decide +kernel
theorem dL_law_1343 : decode cL_law 1343 = .ok (.aload_n 0, 1) := by decide +kernel
theorem dL_law_1344 : decode cL_law 1344 = .ok (.iload 4, 2) := by decide +kernel
theorem dL_law_1346 : decode cL_law 1346 = .ok (.iconst 4, 1) := by decide +kernel
theorem dL_law_1347 : decode cL_law 1347 = .ok (.iadd, 1) := by decide +kernel
theorem dL_law_1348 : decode cL_law 1348 = .ok (.iaload, 1) := by decide +kernel
theorem dL_law_1349 : decode cL_law 1349 = .ok (.invokevirtual 120, 3) := by decide +kernel
theorem dL_law_1352 : decode cL_law 1352 = .ok (.if_icmp .eq 1216, 3) := by decide +kernel
theorem dL_law_1355 : decode cL_law 1355 = .ok (.iconst 0, 1) := by decide +kernel
theorem dL_law_1356 : decode cL_law 1356 = .ok (.ireturn, 1) := by decide +kernel
theorem dL_law_1357 : decode cL_law 1357 = .ok (.aload_n 1, 1) := by decide +kernel
theorem dL_law_1358 : decode cL_law 1358 = .ok (.aload_n 0, 1) := by decide +kernel
theorem dL_law_1359 : decode cL_law 1359 = .ok (.iload 4, 2) := by decide +kernel
theorem dL_law_1361 : decode cL_law 1361 = .ok (.iconst 1, 1) := by decide +kernel
theorem dL_law_1362 : decode cL_law 1362 = .ok (.iadd, 1) := by decide +kernel
theorem dL_law_1363 : decode cL_law 1363 = .ok (.iaload, 1) := by decide +kernel
theorem dL_law_1364 : decode cL_law 1364 = .ok (.aload_n 0, 1) := by decide +kernel
theorem dL_law_1365 : decode cL_law 1365 = .ok (.iload 4, 2) := by decide +kernel
theorem dL_law_1367 : decode cL_law 1367 = .ok (.iconst 2, 1) := by decide +kernel
theorem dL_law_1368 : decode cL_law 1368 = .ok (.iadd, 1) := by decide +kernel
theorem dL_law_1369 : decode cL_law 1369 = .ok (.iaload, 1) := by decide +kernel
theorem dL_law_1370 : decode cL_law 1370 = .ok (.invokevirtual 121, 3) := by decide +kernel
theorem dL_law_1373 : decode cL_law 1373 = .ok (.aload_n 2, 1) := by decide +kernel
theorem dL_law_1374 : decode cL_law 1374 = .ok (.aload_n 0, 1) := by decide +kernel
theorem dL_law_1375 : decode cL_law 1375 = .ok (.iload 4, 2) := by decide +kernel
theorem dL_law_1377 : decode cL_law 1377 = .ok (.iconst 1, 1) := by decide +kernel
theorem dL_law_1378 : decode cL_law 1378 = .ok (.iadd, 1) := by decide +kernel
theorem dL_law_1379 : decode cL_law 1379 = .ok (.iaload, 1) := by decide +kernel
theorem dL_law_1380 : decode cL_law 1380 = .ok (.aload_n 0, 1) := by decide +kernel
theorem dL_law_1381 : decode cL_law 1381 = .ok (.iload 4, 2) := by decide +kernel
theorem dL_law_1383 : decode cL_law 1383 = .ok (.iconst 2, 1) := by decide +kernel
theorem dL_law_1384 : decode cL_law 1384 = .ok (.iadd, 1) := by decide +kernel
theorem dL_law_1385 : decode cL_law 1385 = .ok (.iaload, 1) := by decide +kernel
theorem dL_law_1386 : decode cL_law 1386 = .ok (.invokevirtual 124, 3) := by decide +kernel
theorem dL_law_1389 : decode cL_law 1389 = .ok (.if_icmp .eq 1179, 3) := by decide +kernel
theorem dL_law_1392 : decode cL_law 1392 = .ok (.iconst 0, 1) := by decide +kernel
theorem dL_law_1393 : decode cL_law 1393 = .ok (.ireturn, 1) := by decide +kernel
theorem dL_law_1394 : decode cL_law 1394 = .ok (.aload_n 1, 1) := by decide +kernel
theorem dL_law_1395 : decode cL_law 1395 = .ok (.aload_n 0, 1) := by decide +kernel
theorem dL_law_1396 : decode cL_law 1396 = .ok (.iload 4, 2) := by decide +kernel
theorem dL_law_1398 : decode cL_law 1398 = .ok (.iconst 1, 1) := by decide +kernel
theorem dL_law_1399 : decode cL_law 1399 = .ok (.iadd, 1) := by decide +kernel
theorem dL_law_1400 : decode cL_law 1400 = .ok (.iaload, 1) := by decide +kernel
theorem dL_law_1401 : decode cL_law 1401 = .ok (.invokevirtual 125, 3) := by decide +kernel
theorem dL_law_1404 : decode cL_law 1404 = .ok (.aload_n 2, 1) := by decide +kernel
theorem dL_law_1405 : decode cL_law 1405 = .ok (.aload_n 0, 1) := by decide +kernel
theorem dL_law_1406 : decode cL_law 1406 = .ok (.iload 4, 2) := by decide +kernel
theorem dL_law_1408 : decode cL_law 1408 = .ok (.iconst 1, 1) := by decide +kernel
theorem dL_law_1409 : decode cL_law 1409 = .ok (.iadd, 1) := by decide +kernel
theorem dL_law_1410 : decode cL_law 1410 = .ok (.iaload, 1) := by decide +kernel
theorem dL_law_1411 : decode cL_law 1411 = .ok (.invokevirtual 128, 3) := by decide +kernel
theorem dL_law_1414 : decode cL_law 1414 = .ok (.if_icmp .eq 1154, 3) := by decide +kernel
theorem dL_law_1417 : decode cL_law 1417 = .ok (.iconst 0, 1) := by decide +kernel
theorem dL_law_1418 : decode cL_law 1418 = .ok (.ireturn, 1) := by decide +kernel
theorem dL_law_1419 : decode cL_law 1419 = .ok (.aload_n 1, 1) := by decide +kernel
theorem dL_law_1420 : decode cL_law 1420 = .ok (.aload_n 0, 1) := by decide +kernel
theorem dL_law_1421 : decode cL_law 1421 = .ok (.iload 4, 2) := by decide +kernel
theorem dL_law_1423 : decode cL_law 1423 = .ok (.iconst 1, 1) := by decide +kernel
theorem dL_law_1424 : decode cL_law 1424 = .ok (.iadd, 1) := by decide +kernel
theorem dL_law_1425 : decode cL_law 1425 = .ok (.iaload, 1) := by decide +kernel
theorem dL_law_1426 : decode cL_law 1426 = .ok (.aload_n 0, 1) := by decide +kernel
theorem dL_law_1427 : decode cL_law 1427 = .ok (.iload 4, 2) := by decide +kernel
theorem dL_law_1429 : decode cL_law 1429 = .ok (.iconst 2, 1) := by decide +kernel
theorem dL_law_1430 : decode cL_law 1430 = .ok (.iadd, 1) := by decide +kernel
theorem dL_law_1431 : decode cL_law 1431 = .ok (.iaload, 1) := by decide +kernel
theorem dL_law_1432 : decode cL_law 1432 = .ok (.aload_n 0, 1) := by decide +kernel
theorem dL_law_1433 : decode cL_law 1433 = .ok (.iload 4, 2) := by decide +kernel
theorem dL_law_1435 : decode cL_law 1435 = .ok (.iconst 3, 1) := by decide +kernel
theorem dL_law_1436 : decode cL_law 1436 = .ok (.iadd, 1) := by decide +kernel
theorem dL_law_1437 : decode cL_law 1437 = .ok (.iaload, 1) := by decide +kernel
theorem dL_law_1438 : decode cL_law 1438 = .ok (.aload_n 0, 1) := by decide +kernel
theorem dL_law_1439 : decode cL_law 1439 = .ok (.iload 4, 2) := by decide +kernel
theorem dL_law_1441 : decode cL_law 1441 = .ok (.iconst 4, 1) := by decide +kernel
theorem dL_law_1442 : decode cL_law 1442 = .ok (.iadd, 1) := by decide +kernel
theorem dL_law_1443 : decode cL_law 1443 = .ok (.iaload, 1) := by decide +kernel
theorem dL_law_1444 : decode cL_law 1444 = .ok (.aload_n 0, 1) := by decide +kernel
theorem dL_law_1445 : decode cL_law 1445 = .ok (.iload 4, 2) := by decide +kernel
theorem dL_law_1447 : decode cL_law 1447 = .ok (.iconst 5, 1) := by decide +kernel
theorem dL_law_1448 : decode cL_law 1448 = .ok (.iadd, 1) := by decide +kernel
theorem dL_law_1449 : decode cL_law 1449 = .ok (.iaload, 1) := by decide +kernel
theorem dL_law_1450 : decode cL_law 1450 = .ok (.invokevirtual 129, 3) := by decide +kernel
theorem dL_law_1453 : decode cL_law 1453 = .ok (.aload_n 2, 1) := by decide +kernel
theorem dL_law_1454 : decode cL_law 1454 = .ok (.aload_n 0, 1) := by decide +kernel
theorem dL_law_1455 : decode cL_law 1455 = .ok (.iload 4, 2) := by decide +kernel
theorem dL_law_1457 : decode cL_law 1457 = .ok (.iconst 1, 1) := by decide +kernel
theorem dL_law_1458 : decode cL_law 1458 = .ok (.iadd, 1) := by decide +kernel
theorem dL_law_1459 : decode cL_law 1459 = .ok (.iaload, 1) := by decide +kernel
theorem dL_law_1460 : decode cL_law 1460 = .ok (.aload_n 0, 1) := by decide +kernel
theorem dL_law_1461 : decode cL_law 1461 = .ok (.iload 4, 2) := by decide +kernel
theorem dL_law_1463 : decode cL_law 1463 = .ok (.iconst 2, 1) := by decide +kernel
theorem dL_law_1464 : decode cL_law 1464 = .ok (.iadd, 1) := by decide +kernel
theorem dL_law_1465 : decode cL_law 1465 = .ok (.iaload, 1) := by decide +kernel
theorem dL_law_1466 : decode cL_law 1466 = .ok (.aload_n 0, 1) := by decide +kernel
theorem dL_law_1467 : decode cL_law 1467 = .ok (.iload 4, 2) := by decide +kernel
theorem dL_law_1469 : decode cL_law 1469 = .ok (.iconst 3, 1) := by decide +kernel
theorem dL_law_1470 : decode cL_law 1470 = .ok (.iadd, 1) := by decide +kernel
theorem dL_law_1471 : decode cL_law 1471 = .ok (.iaload, 1) := by decide +kernel
theorem dL_law_1472 : decode cL_law 1472 = .ok (.aload_n 0, 1) := by decide +kernel
theorem dL_law_1473 : decode cL_law 1473 = .ok (.iload 4, 2) := by decide +kernel
theorem dL_law_1475 : decode cL_law 1475 = .ok (.iconst 4, 1) := by decide +kernel
theorem dL_law_1476 : decode cL_law 1476 = .ok (.iadd, 1) := by decide +kernel
theorem dL_law_1477 : decode cL_law 1477 = .ok (.iaload, 1) := by decide +kernel
theorem dL_law_1478 : decode cL_law 1478 = .ok (.aload_n 0, 1) := by decide +kernel
theorem dL_law_1479 : decode cL_law 1479 = .ok (.iload 4, 2) := by decide +kernel
theorem dL_law_1481 : decode cL_law 1481 = .ok (.iconst 5, 1) := by decide +kernel
theorem dL_law_1482 : decode cL_law 1482 = .ok (.iadd, 1) := by decide +kernel
theorem dL_law_1483 : decode cL_law 1483 = .ok (.iaload, 1) := by decide +kernel
theorem dL_law_1484 : decode cL_law 1484 = .ok (.invokevirtual 132, 3) := by decide +kernel
theorem dL_law_1487 : decode cL_law 1487 = .ok (.if_icmp .eq 1081, 3) := by decide +kernel
theorem dL_law_1490 : decode cL_law 1490 = .ok (.iconst 0, 1) := by decide +kernel
theorem dL_law_1491 : decode cL_law 1491 = .ok (.ireturn, 1) := by decide +kernel
theorem dL_law_1492 : decode cL_law 1492 = .ok (.aload_n 1, 1) := by decide +kernel
theorem dL_law_1493 : decode cL_law 1493 = .ok (.aload_n 0, 1) := by decide +kernel
theorem dL_law_1494 : decode cL_law 1494 = .ok (.iload 4, 2) := by decide +kernel
theorem dL_law_1496 : decode cL_law 1496 = .ok (.iconst 1, 1) := by decide +kernel
theorem dL_law_1497 : decode cL_law 1497 = .ok (.iadd, 1) := by decide +kernel
theorem dL_law_1498 : decode cL_law 1498 = .ok (.iaload, 1) := by decide +kernel
theorem dL_law_1499 : decode cL_law 1499 = .ok (.aload_n 0, 1) := by decide +kernel
theorem dL_law_1500 : decode cL_law 1500 = .ok (.iload 4, 2) := by decide +kernel
theorem dL_law_1502 : decode cL_law 1502 = .ok (.iconst 2, 1) := by decide +kernel
theorem dL_law_1503 : decode cL_law 1503 = .ok (.iadd, 1) := by decide +kernel
theorem dL_law_1504 : decode cL_law 1504 = .ok (.iaload, 1) := by decide +kernel
theorem dL_law_1505 : decode cL_law 1505 = .ok (.aload_n 0, 1) := by decide +kernel
theorem dL_law_1506 : decode cL_law 1506 = .ok (.iload 4, 2) := by decide +kernel
theorem dL_law_1508 : decode cL_law 1508 = .ok (.iconst 3, 1) := by decide +kernel
theorem dL_law_1509 : decode cL_law 1509 = .ok (.iadd, 1) := by decide +kernel
theorem dL_law_1510 : decode cL_law 1510 = .ok (.iaload, 1) := by decide +kernel
theorem dL_law_1511 : decode cL_law 1511 = .ok (.aload_n 0, 1) := by decide +kernel
theorem dL_law_1512 : decode cL_law 1512 = .ok (.iload 4, 2) := by decide +kernel
theorem dL_law_1514 : decode cL_law 1514 = .ok (.iconst 4, 1) := by decide +kernel
theorem dL_law_1515 : decode cL_law 1515 = .ok (.iadd, 1) := by decide +kernel
theorem dL_law_1516 : decode cL_law 1516 = .ok (.iaload, 1) := by decide +kernel
theorem dL_law_1517 : decode cL_law 1517 = .ok (.aload_n 0, 1) := by decide +kernel
theorem dL_law_1518 : decode cL_law 1518 = .ok (.iload 4, 2) := by decide +kernel
theorem dL_law_1520 : decode cL_law 1520 = .ok (.iconst 5, 1) := by decide +kernel
theorem dL_law_1521 : decode cL_law 1521 = .ok (.iadd, 1) := by decide +kernel
theorem dL_law_1522 : decode cL_law 1522 = .ok (.iaload, 1) := by decide +kernel
theorem dL_law_1523 : decode cL_law 1523 = .ok (.invokevirtual 133, 3) := by decide +kernel
theorem dL_law_1526 : decode cL_law 1526 = .ok (.aload_n 2, 1) := by decide +kernel
theorem dL_law_1527 : decode cL_law 1527 = .ok (.aload_n 0, 1) := by decide +kernel
theorem dL_law_1528 : decode cL_law 1528 = .ok (.iload 4, 2) := by decide +kernel
theorem dL_law_1530 : decode cL_law 1530 = .ok (.iconst 1, 1) := by decide +kernel
theorem dL_law_1531 : decode cL_law 1531 = .ok (.iadd, 1) := by decide +kernel
theorem dL_law_1532 : decode cL_law 1532 = .ok (.iaload, 1) := by decide +kernel
theorem dL_law_1533 : decode cL_law 1533 = .ok (.aload_n 0, 1) := by decide +kernel
theorem dL_law_1534 : decode cL_law 1534 = .ok (.iload 4, 2) := by decide +kernel
theorem dL_law_1536 : decode cL_law 1536 = .ok (.iconst 2, 1) := by decide +kernel
theorem dL_law_1537 : decode cL_law 1537 = .ok (.iadd, 1) := by decide +kernel
theorem dL_law_1538 : decode cL_law 1538 = .ok (.iaload, 1) := by decide +kernel
theorem dL_law_1539 : decode cL_law 1539 = .ok (.aload_n 0, 1) := by decide +kernel
theorem dL_law_1540 : decode cL_law 1540 = .ok (.iload 4, 2) := by decide +kernel
theorem dL_law_1542 : decode cL_law 1542 = .ok (.iconst 3, 1) := by decide +kernel
theorem dL_law_1543 : decode cL_law 1543 = .ok (.iadd, 1) := by decide +kernel
theorem dL_law_1544 : decode cL_law 1544 = .ok (.iaload, 1) := by decide +kernel
theorem dL_law_1545 : decode cL_law 1545 = .ok (.aload_n 0, 1) := by decide +kernel
theorem dL_law_1546 : decode cL_law 1546 = .ok (.iload 4, 2) := by decide +kernel
theorem dL_law_1548 : decode cL_law 1548 = .ok (.iconst 4, 1) := by decide +kernel
theorem dL_law_1549 : decode cL_law 1549 = .ok (.iadd, 1) := by decide +kernel
theorem dL_law_1550 : decode cL_law 1550 = .ok (.iaload, 1) := by decide +kernel
theorem dL_law_1551 : decode cL_law 1551 = .ok (.aload_n 0, 1) := by decide +kernel
theorem dL_law_1552 : decode cL_law 1552 = .ok (.iload 4, 2) := by decide +kernel
theorem dL_law_1554 : decode cL_law 1554 = .ok (.iconst 5, 1) := by decide +kernel
theorem dL_law_1555 : decode cL_law 1555 = .ok (.iadd, 1) := by decide +kernel
theorem dL_law_1556 : decode cL_law 1556 = .ok (.iaload, 1) := by decide +kernel
theorem dL_law_1557 : decode cL_law 1557 = .ok (.invokevirtual 136, 3) := by decide +kernel
theorem dL_law_1560 : decode cL_law 1560 = .ok (.if_icmp .eq 1008, 3) := by decide +kernel
theorem dL_law_1563 : decode cL_law 1563 = .ok (.iconst 0, 1) := by decide +kernel
theorem dL_law_1564 : decode cL_law 1564 = .ok (.ireturn, 1) := by decide +kernel
theorem dL_law_1565 : decode cL_law 1565 = .ok (.aload_n 1, 1) := by decide +kernel
theorem dL_law_1566 : decode cL_law 1566 = .ok (.aload_n 0, 1) := by decide +kernel
theorem dL_law_1567 : decode cL_law 1567 = .ok (.iload 4, 2) := by decide +kernel
theorem dL_law_1569 : decode cL_law 1569 = .ok (.iconst 1, 1) := by decide +kernel
theorem dL_law_1570 : decode cL_law 1570 = .ok (.iadd, 1) := by decide +kernel
theorem dL_law_1571 : decode cL_law 1571 = .ok (.iaload, 1) := by decide +kernel
theorem dL_law_1572 : decode cL_law 1572 = .ok (.aload_n 0, 1) := by decide +kernel
theorem dL_law_1573 : decode cL_law 1573 = .ok (.iload 4, 2) := by decide +kernel
theorem dL_law_1575 : decode cL_law 1575 = .ok (.iconst 2, 1) := by decide +kernel
theorem dL_law_1576 : decode cL_law 1576 = .ok (.iadd, 1) := by decide +kernel
theorem dL_law_1577 : decode cL_law 1577 = .ok (.iaload, 1) := by decide +kernel
theorem dL_law_1578 : decode cL_law 1578 = .ok (.aload_n 0, 1) := by decide +kernel
theorem dL_law_1579 : decode cL_law 1579 = .ok (.iload 4, 2) := by decide +kernel
theorem dL_law_1581 : decode cL_law 1581 = .ok (.iconst 3, 1) := by decide +kernel
theorem dL_law_1582 : decode cL_law 1582 = .ok (.iadd, 1) := by decide +kernel
theorem dL_law_1583 : decode cL_law 1583 = .ok (.iaload, 1) := by decide +kernel
theorem dL_law_1584 : decode cL_law 1584 = .ok (.invokevirtual 137, 3) := by decide +kernel
theorem dL_law_1587 : decode cL_law 1587 = .ok (.aload_n 2, 1) := by decide +kernel
theorem dL_law_1588 : decode cL_law 1588 = .ok (.aload_n 0, 1) := by decide +kernel
theorem dL_law_1589 : decode cL_law 1589 = .ok (.iload 4, 2) := by decide +kernel
theorem dL_law_1591 : decode cL_law 1591 = .ok (.iconst 1, 1) := by decide +kernel
theorem dL_law_1592 : decode cL_law 1592 = .ok (.iadd, 1) := by decide +kernel
theorem dL_law_1593 : decode cL_law 1593 = .ok (.iaload, 1) := by decide +kernel
theorem dL_law_1594 : decode cL_law 1594 = .ok (.aload_n 0, 1) := by decide +kernel
theorem dL_law_1595 : decode cL_law 1595 = .ok (.iload 4, 2) := by decide +kernel
theorem dL_law_1597 : decode cL_law 1597 = .ok (.iconst 2, 1) := by decide +kernel
theorem dL_law_1598 : decode cL_law 1598 = .ok (.iadd, 1) := by decide +kernel
theorem dL_law_1599 : decode cL_law 1599 = .ok (.iaload, 1) := by decide +kernel
theorem dL_law_1600 : decode cL_law 1600 = .ok (.aload_n 0, 1) := by decide +kernel
theorem dL_law_1601 : decode cL_law 1601 = .ok (.iload 4, 2) := by decide +kernel
theorem dL_law_1603 : decode cL_law 1603 = .ok (.iconst 3, 1) := by decide +kernel
theorem dL_law_1604 : decode cL_law 1604 = .ok (.iadd, 1) := by decide +kernel
theorem dL_law_1605 : decode cL_law 1605 = .ok (.iaload, 1) := by decide +kernel
theorem dL_law_1606 : decode cL_law 1606 = .ok (.invokevirtual 140, 3) := by decide +kernel
theorem dL_law_1609 : decode cL_law 1609 = .ok (.if_icmp .eq 959, 3) := by decide +kernel
theorem dL_law_1612 : decode cL_law 1612 = .ok (.iconst 0, 1) := by decide +kernel
theorem dL_law_1613 : decode cL_law 1613 = .ok (.ireturn, 1) := by decide +kernel
theorem dL_law_1614 : decode cL_law 1614 = .ok (.aload_n 1, 1) := by decide +kernel
theorem dL_law_1615 : decode cL_law 1615 = .ok (.aload_n 0, 1) := by decide +kernel
theorem dL_law_1616 : decode cL_law 1616 = .ok (.iload 4, 2) := by decide +kernel
theorem dL_law_1618 : decode cL_law 1618 = .ok (.iconst 1, 1) := by decide +kernel
theorem dL_law_1619 : decode cL_law 1619 = .ok (.iadd, 1) := by decide +kernel
theorem dL_law_1620 : decode cL_law 1620 = .ok (.iaload, 1) := by decide +kernel
theorem dL_law_1621 : decode cL_law 1621 = .ok (.aload_n 0, 1) := by decide +kernel
theorem dL_law_1622 : decode cL_law 1622 = .ok (.iload 4, 2) := by decide +kernel
theorem dL_law_1624 : decode cL_law 1624 = .ok (.iconst 2, 1) := by decide +kernel
theorem dL_law_1625 : decode cL_law 1625 = .ok (.iadd, 1) := by decide +kernel
theorem dL_law_1626 : decode cL_law 1626 = .ok (.iaload, 1) := by decide +kernel
theorem dL_law_1627 : decode cL_law 1627 = .ok (.aload_n 0, 1) := by decide +kernel
theorem dL_law_1628 : decode cL_law 1628 = .ok (.iload 4, 2) := by decide +kernel
theorem dL_law_1630 : decode cL_law 1630 = .ok (.iconst 3, 1) := by decide +kernel
theorem dL_law_1631 : decode cL_law 1631 = .ok (.iadd, 1) := by decide +kernel
theorem dL_law_1632 : decode cL_law 1632 = .ok (.iaload, 1) := by decide +kernel
theorem dL_law_1633 : decode cL_law 1633 = .ok (.aload_n 0, 1) := by decide +kernel
theorem dL_law_1634 : decode cL_law 1634 = .ok (.iload 4, 2) := by decide +kernel
theorem dL_law_1636 : decode cL_law 1636 = .ok (.iconst 4, 1) := by decide +kernel
theorem dL_law_1637 : decode cL_law 1637 = .ok (.iadd, 1) := by decide +kernel
theorem dL_law_1638 : decode cL_law 1638 = .ok (.iaload, 1) := by decide +kernel
theorem dL_law_1639 : decode cL_law 1639 = .ok (.invokevirtual 141, 3) := by decide +kernel
theorem dL_law_1642 : decode cL_law 1642 = .ok (.aload_n 2, 1) := by decide +kernel
theorem dL_law_1643 : decode cL_law 1643 = .ok (.aload_n 0, 1) := by decide +kernel
theorem dL_law_1644 : decode cL_law 1644 = .ok (.iload 4, 2) := by decide +kernel
theorem dL_law_1646 : decode cL_law 1646 = .ok (.iconst 1, 1) := by decide +kernel
theorem dL_law_1647 : decode cL_law 1647 = .ok (.iadd, 1) := by decide +kernel
theorem dL_law_1648 : decode cL_law 1648 = .ok (.iaload, 1) := by decide +kernel
theorem dL_law_1649 : decode cL_law 1649 = .ok (.aload_n 0, 1) := by decide +kernel
theorem dL_law_1650 : decode cL_law 1650 = .ok (.iload 4, 2) := by decide +kernel
theorem dL_law_1652 : decode cL_law 1652 = .ok (.iconst 2, 1) := by decide +kernel
theorem dL_law_1653 : decode cL_law 1653 = .ok (.iadd, 1) := by decide +kernel
theorem dL_law_1654 : decode cL_law 1654 = .ok (.iaload, 1) := by decide +kernel
theorem dL_law_1655 : decode cL_law 1655 = .ok (.aload_n 0, 1) := by decide +kernel
theorem dL_law_1656 : decode cL_law 1656 = .ok (.iload 4, 2) := by decide +kernel
theorem dL_law_1658 : decode cL_law 1658 = .ok (.iconst 3, 1) := by decide +kernel
theorem dL_law_1659 : decode cL_law 1659 = .ok (.iadd, 1) := by decide +kernel
theorem dL_law_1660 : decode cL_law 1660 = .ok (.iaload, 1) := by decide +kernel
theorem dL_law_1661 : decode cL_law 1661 = .ok (.aload_n 0, 1) := by decide +kernel
theorem dL_law_1662 : decode cL_law 1662 = .ok (.iload 4, 2) := by decide +kernel
theorem dL_law_1664 : decode cL_law 1664 = .ok (.iconst 4, 1) := by decide +kernel
theorem dL_law_1665 : decode cL_law 1665 = .ok (.iadd, 1) := by decide +kernel
theorem dL_law_1666 : decode cL_law 1666 = .ok (.iaload, 1) := by decide +kernel
theorem dL_law_1667 : decode cL_law 1667 = .ok (.invokevirtual 144, 3) := by decide +kernel
theorem dL_law_1670 : decode cL_law 1670 = .ok (.if_icmp .eq 898, 3) := by decide +kernel
theorem dL_law_1673 : decode cL_law 1673 = .ok (.iconst 0, 1) := by decide +kernel
theorem dL_law_1674 : decode cL_law 1674 = .ok (.ireturn, 1) := by decide +kernel
theorem dL_law_1675 : decode cL_law 1675 = .ok (.aload_n 1, 1) := by decide +kernel
theorem dL_law_1676 : decode cL_law 1676 = .ok (.aload_n 0, 1) := by decide +kernel
theorem dL_law_1677 : decode cL_law 1677 = .ok (.iload 4, 2) := by decide +kernel
theorem dL_law_1679 : decode cL_law 1679 = .ok (.iconst 1, 1) := by decide +kernel
theorem dL_law_1680 : decode cL_law 1680 = .ok (.iadd, 1) := by decide +kernel
theorem dL_law_1681 : decode cL_law 1681 = .ok (.iaload, 1) := by decide +kernel
theorem dL_law_1682 : decode cL_law 1682 = .ok (.aload_n 0, 1) := by decide +kernel
theorem dL_law_1683 : decode cL_law 1683 = .ok (.iload 4, 2) := by decide +kernel
theorem dL_law_1685 : decode cL_law 1685 = .ok (.iconst 2, 1) := by decide +kernel
theorem dL_law_1686 : decode cL_law 1686 = .ok (.iadd, 1) := by decide +kernel
theorem dL_law_1687 : decode cL_law 1687 = .ok (.iaload, 1) := by decide +kernel
theorem dL_law_1688 : decode cL_law 1688 = .ok (.aload_n 0, 1) := by decide +kernel
theorem dL_law_1689 : decode cL_law 1689 = .ok (.iload 4, 2) := by decide +kernel
theorem dL_law_1691 : decode cL_law 1691 = .ok (.iconst 3, 1) := by decide +kernel
theorem dL_law_1692 : decode cL_law 1692 = .ok (.iadd, 1) := by decide +kernel
theorem dL_law_1693 : decode cL_law 1693 = .ok (.iaload, 1) := by decide +kernel
theorem dL_law_1694 : decode cL_law 1694 = .ok (.invokevirtual 145, 3) := by decide +kernel
theorem dL_law_1697 : decode cL_law 1697 = .ok (.aload_n 2, 1) := by decide +kernel
theorem dL_law_1698 : decode cL_law 1698 = .ok (.aload_n 0, 1) := by decide +kernel
theorem dL_law_1699 : decode cL_law 1699 = .ok (.iload 4, 2) := by decide +kernel
theorem dL_law_1701 : decode cL_law 1701 = .ok (.iconst 1, 1) := by decide +kernel
theorem dL_law_1702 : decode cL_law 1702 = .ok (.iadd, 1) := by decide +kernel
theorem dL_law_1703 : decode cL_law 1703 = .ok (.iaload, 1) := by decide +kernel
theorem dL_law_1704 : decode cL_law 1704 = .ok (.aload_n 0, 1) := by decide +kernel
theorem dL_law_1705 : decode cL_law 1705 = .ok (.iload 4, 2) := by decide +kernel
theorem dL_law_1707 : decode cL_law 1707 = .ok (.iconst 2, 1) := by decide +kernel
theorem dL_law_1708 : decode cL_law 1708 = .ok (.iadd, 1) := by decide +kernel
theorem dL_law_1709 : decode cL_law 1709 = .ok (.iaload, 1) := by decide +kernel
theorem dL_law_1710 : decode cL_law 1710 = .ok (.aload_n 0, 1) := by decide +kernel
theorem dL_law_1711 : decode cL_law 1711 = .ok (.iload 4, 2) := by decide +kernel
theorem dL_law_1713 : decode cL_law 1713 = .ok (.iconst 3, 1) := by decide +kernel
theorem dL_law_1714 : decode cL_law 1714 = .ok (.iadd, 1) := by decide +kernel
theorem dL_law_1715 : decode cL_law 1715 = .ok (.iaload, 1) := by decide +kernel
theorem dL_law_1716 : decode cL_law 1716 = .ok (.invokevirtual 148, 3) := by decide +kernel
theorem dL_law_1719 : decode cL_law 1719 = .ok (.if_icmp .eq 849, 3) := by decide +kernel
theorem dL_law_1722 : decode cL_law 1722 = .ok (.iconst 0, 1) := by decide +kernel
theorem dL_law_1723 : decode cL_law 1723 = .ok (.ireturn, 1) := by decide +kernel
theorem dL_law_1724 : decode cL_law 1724 = .ok (.aload_n 1, 1) := by decide +kernel
theorem dL_law_1725 : decode cL_law 1725 = .ok (.aload_n 0, 1) := by decide +kernel
theorem dL_law_1726 : decode cL_law 1726 = .ok (.iload 4, 2) := by decide +kernel
theorem dL_law_1728 : decode cL_law 1728 = .ok (.iconst 1, 1) := by decide +kernel
theorem dL_law_1729 : decode cL_law 1729 = .ok (.iadd, 1) := by decide +kernel
theorem dL_law_1730 : decode cL_law 1730 = .ok (.iaload, 1) := by decide +kernel
theorem dL_law_1731 : decode cL_law 1731 = .ok (.aload_n 0, 1) := by decide +kernel
theorem dL_law_1732 : decode cL_law 1732 = .ok (.iload 4, 2) := by decide +kernel
theorem dL_law_1734 : decode cL_law 1734 = .ok (.iconst 2, 1) := by decide +kernel
theorem dL_law_1735 : decode cL_law 1735 = .ok (.iadd, 1) := by decide +kernel
theorem dL_law_1736 : decode cL_law 1736 = .ok (.iaload, 1) := by decide +kernel
theorem dL_law_1737 : decode cL_law 1737 = .ok (.aload_n 0, 1) := by decide +kernel
theorem dL_law_1738 : decode cL_law 1738 = .ok (.iload 4, 2) := by decide +kernel
theorem dL_law_1740 : decode cL_law 1740 = .ok (.iconst 3, 1) := by decide +kernel
theorem dL_law_1741 : decode cL_law 1741 = .ok (.iadd, 1) := by decide +kernel
theorem dL_law_1742 : decode cL_law 1742 = .ok (.iaload, 1) := by decide +kernel
theorem dL_law_1743 : decode cL_law 1743 = .ok (.aload_n 0, 1) := by decide +kernel
theorem dL_law_1744 : decode cL_law 1744 = .ok (.iload 4, 2) := by decide +kernel
theorem dL_law_1746 : decode cL_law 1746 = .ok (.iconst 4, 1) := by decide +kernel
theorem dL_law_1747 : decode cL_law 1747 = .ok (.iadd, 1) := by decide +kernel
theorem dL_law_1748 : decode cL_law 1748 = .ok (.iaload, 1) := by decide +kernel
theorem dL_law_1749 : decode cL_law 1749 = .ok (.invokevirtual 149, 3) := by decide +kernel
theorem dL_law_1752 : decode cL_law 1752 = .ok (.aload_n 2, 1) := by decide +kernel
theorem dL_law_1753 : decode cL_law 1753 = .ok (.aload_n 0, 1) := by decide +kernel
theorem dL_law_1754 : decode cL_law 1754 = .ok (.iload 4, 2) := by decide +kernel
theorem dL_law_1756 : decode cL_law 1756 = .ok (.iconst 1, 1) := by decide +kernel
theorem dL_law_1757 : decode cL_law 1757 = .ok (.iadd, 1) := by decide +kernel
theorem dL_law_1758 : decode cL_law 1758 = .ok (.iaload, 1) := by decide +kernel
theorem dL_law_1759 : decode cL_law 1759 = .ok (.aload_n 0, 1) := by decide +kernel
theorem dL_law_1760 : decode cL_law 1760 = .ok (.iload 4, 2) := by decide +kernel
theorem dL_law_1762 : decode cL_law 1762 = .ok (.iconst 2, 1) := by decide +kernel
theorem dL_law_1763 : decode cL_law 1763 = .ok (.iadd, 1) := by decide +kernel
theorem dL_law_1764 : decode cL_law 1764 = .ok (.iaload, 1) := by decide +kernel
theorem dL_law_1765 : decode cL_law 1765 = .ok (.aload_n 0, 1) := by decide +kernel
theorem dL_law_1766 : decode cL_law 1766 = .ok (.iload 4, 2) := by decide +kernel
theorem dL_law_1768 : decode cL_law 1768 = .ok (.iconst 3, 1) := by decide +kernel
theorem dL_law_1769 : decode cL_law 1769 = .ok (.iadd, 1) := by decide +kernel
theorem dL_law_1770 : decode cL_law 1770 = .ok (.iaload, 1) := by decide +kernel
theorem dL_law_1771 : decode cL_law 1771 = .ok (.aload_n 0, 1) := by decide +kernel
theorem dL_law_1772 : decode cL_law 1772 = .ok (.iload 4, 2) := by decide +kernel
theorem dL_law_1774 : decode cL_law 1774 = .ok (.iconst 4, 1) := by decide +kernel
theorem dL_law_1775 : decode cL_law 1775 = .ok (.iadd, 1) := by decide +kernel
theorem dL_law_1776 : decode cL_law 1776 = .ok (.iaload, 1) := by decide +kernel
theorem dL_law_1777 : decode cL_law 1777 = .ok (.invokevirtual 153, 3) := by decide +kernel
theorem dL_law_1780 : decode cL_law 1780 = .ok (.if_icmp .eq 788, 3) := by decide +kernel
theorem dL_law_1783 : decode cL_law 1783 = .ok (.iconst 0, 1) := by decide +kernel
theorem dL_law_1784 : decode cL_law 1784 = .ok (.ireturn, 1) := by decide +kernel
theorem dL_law_1785 : decode cL_law 1785 = .ok (.aload_n 1, 1) := by decide +kernel
theorem dL_law_1786 : decode cL_law 1786 = .ok (.aload_n 0, 1) := by decide +kernel
theorem dL_law_1787 : decode cL_law 1787 = .ok (.iload 4, 2) := by decide +kernel
theorem dL_law_1789 : decode cL_law 1789 = .ok (.iconst 1, 1) := by decide +kernel
theorem dL_law_1790 : decode cL_law 1790 = .ok (.iadd, 1) := by decide +kernel
theorem dL_law_1791 : decode cL_law 1791 = .ok (.iaload, 1) := by decide +kernel
theorem dL_law_1792 : decode cL_law 1792 = .ok (.aload_n 0, 1) := by decide +kernel
theorem dL_law_1793 : decode cL_law 1793 = .ok (.iload 4, 2) := by decide +kernel
theorem dL_law_1795 : decode cL_law 1795 = .ok (.iconst 2, 1) := by decide +kernel
theorem dL_law_1796 : decode cL_law 1796 = .ok (.iadd, 1) := by decide +kernel
theorem dL_law_1797 : decode cL_law 1797 = .ok (.iaload, 1) := by decide +kernel
theorem dL_law_1798 : decode cL_law 1798 = .ok (.aload_n 0, 1) := by decide +kernel
theorem dL_law_1799 : decode cL_law 1799 = .ok (.iload 4, 2) := by decide +kernel
theorem dL_law_1801 : decode cL_law 1801 = .ok (.iconst 3, 1) := by decide +kernel
theorem dL_law_1802 : decode cL_law 1802 = .ok (.iadd, 1) := by decide +kernel
theorem dL_law_1803 : decode cL_law 1803 = .ok (.iaload, 1) := by decide +kernel
theorem dL_law_1804 : decode cL_law 1804 = .ok (.aload_n 0, 1) := by decide +kernel
theorem dL_law_1805 : decode cL_law 1805 = .ok (.iload 4, 2) := by decide +kernel
theorem dL_law_1807 : decode cL_law 1807 = .ok (.iconst 4, 1) := by decide +kernel
theorem dL_law_1808 : decode cL_law 1808 = .ok (.iadd, 1) := by decide +kernel
theorem dL_law_1809 : decode cL_law 1809 = .ok (.iaload, 1) := by decide +kernel
theorem dL_law_1810 : decode cL_law 1810 = .ok (.invokevirtual 154, 3) := by decide +kernel
theorem dL_law_1813 : decode cL_law 1813 = .ok (.aload_n 2, 1) := by decide +kernel
theorem dL_law_1814 : decode cL_law 1814 = .ok (.aload_n 0, 1) := by decide +kernel
theorem dL_law_1815 : decode cL_law 1815 = .ok (.iload 4, 2) := by decide +kernel
theorem dL_law_1817 : decode cL_law 1817 = .ok (.iconst 1, 1) := by decide +kernel
theorem dL_law_1818 : decode cL_law 1818 = .ok (.iadd, 1) := by decide +kernel
theorem dL_law_1819 : decode cL_law 1819 = .ok (.iaload, 1) := by decide +kernel
theorem dL_law_1820 : decode cL_law 1820 = .ok (.aload_n 0, 1) := by decide +kernel
theorem dL_law_1821 : decode cL_law 1821 = .ok (.iload 4, 2) := by decide +kernel
theorem dL_law_1823 : decode cL_law 1823 = .ok (.iconst 2, 1) := by decide +kernel
theorem dL_law_1824 : decode cL_law 1824 = .ok (.iadd, 1) := by decide +kernel
theorem dL_law_1825 : decode cL_law 1825 = .ok (.iaload, 1) := by decide +kernel
theorem dL_law_1826 : decode cL_law 1826 = .ok (.aload_n 0, 1) := by decide +kernel
theorem dL_law_1827 : decode cL_law 1827 = .ok (.iload 4, 2) := by decide +kernel
theorem dL_law_1829 : decode cL_law 1829 = .ok (.iconst 3, 1) := by decide +kernel
theorem dL_law_1830 : decode cL_law 1830 = .ok (.iadd, 1) := by decide +kernel
theorem dL_law_1831 : decode cL_law 1831 = .ok (.iaload, 1) := by decide +kernel
theorem dL_law_1832 : decode cL_law 1832 = .ok (.aload_n 0, 1) := by decide +kernel
theorem dL_law_1833 : decode cL_law 1833 = .ok (.iload 4, 2) := by decide +kernel
theorem dL_law_1835 : decode cL_law 1835 = .ok (.iconst 4, 1) := by decide +kernel
theorem dL_law_1836 : decode cL_law 1836 = .ok (.iadd, 1) := by decide +kernel
theorem dL_law_1837 : decode cL_law 1837 = .ok (.iaload, 1) := by decide +kernel
theorem dL_law_1838 : decode cL_law 1838 = .ok (.invokevirtual 157, 3) := by decide +kernel
theorem dL_law_1841 : decode cL_law 1841 = .ok (.if_icmp .eq 727, 3) := by decide +kernel
theorem dL_law_1844 : decode cL_law 1844 = .ok (.iconst 0, 1) := by decide +kernel
theorem dL_law_1845 : decode cL_law 1845 = .ok (.ireturn, 1) := by decide +kernel
theorem dL_law_1846 : decode cL_law 1846 = .ok (.aload_n 1, 1) := by decide +kernel
theorem dL_law_1847 : decode cL_law 1847 = .ok (.aload_n 0, 1) := by decide +kernel
theorem dL_law_1848 : decode cL_law 1848 = .ok (.iload 4, 2) := by decide +kernel
theorem dL_law_1850 : decode cL_law 1850 = .ok (.iconst 1, 1) := by decide +kernel
theorem dL_law_1851 : decode cL_law 1851 = .ok (.iadd, 1) := by decide +kernel
theorem dL_law_1852 : decode cL_law 1852 = .ok (.iaload, 1) := by decide +kernel
theorem dL_law_1853 : decode cL_law 1853 = .ok (.aload_n 0, 1) := by decide +kernel
theorem dL_law_1854 : decode cL_law 1854 = .ok (.iload 4, 2) := by decide +kernel
theorem dL_law_1856 : decode cL_law 1856 = .ok (.iconst 2, 1) := by decide +kernel
theorem dL_law_1857 : decode cL_law 1857 = .ok (.iadd, 1) := by decide +kernel
theorem dL_law_1858 : decode cL_law 1858 = .ok (.iaload, 1) := by decide +kernel
theorem dL_law_1859 : decode cL_law 1859 = .ok (.aload_n 0, 1) := by decide +kernel
theorem dL_law_1860 : decode cL_law 1860 = .ok (.iload 4, 2) := by decide +kernel
theorem dL_law_1862 : decode cL_law 1862 = .ok (.iconst 3, 1) := by decide +kernel
theorem dL_law_1863 : decode cL_law 1863 = .ok (.iadd, 1) := by decide +kernel
theorem dL_law_1864 : decode cL_law 1864 = .ok (.iaload, 1) := by decide +kernel
theorem dL_law_1865 : decode cL_law 1865 = .ok (.aload_n 0, 1) := by decide +kernel
theorem dL_law_1866 : decode cL_law 1866 = .ok (.iload 4, 2) := by decide +kernel
theorem dL_law_1868 : decode cL_law 1868 = .ok (.iconst 4, 1) := by decide +kernel
theorem dL_law_1869 : decode cL_law 1869 = .ok (.iadd, 1) := by decide +kernel
theorem dL_law_1870 : decode cL_law 1870 = .ok (.iaload, 1) := by decide +kernel
theorem dL_law_1871 : decode cL_law 1871 = .ok (.aload_n 0, 1) := by decide +kernel
theorem dL_law_1872 : decode cL_law 1872 = .ok (.iload 4, 2) := by decide +kernel
theorem dL_law_1874 : decode cL_law 1874 = .ok (.iconst 5, 1) := by decide +kernel
theorem dL_law_1875 : decode cL_law 1875 = .ok (.iadd, 1) := by decide +kernel
theorem dL_law_1876 : decode cL_law 1876 = .ok (.iaload, 1) := by decide +kernel
theorem dL_law_1877 : decode cL_law 1877 = .ok (.invokevirtual 158, 3) := by decide +kernel
theorem dL_law_1880 : decode cL_law 1880 = .ok (.aload_n 2, 1) := by decide +kernel
theorem dL_law_1881 : decode cL_law 1881 = .ok (.aload_n 0, 1) := by decide +kernel
theorem dL_law_1882 : decode cL_law 1882 = .ok (.iload 4, 2) := by decide +kernel
theorem dL_law_1884 : decode cL_law 1884 = .ok (.iconst 1, 1) := by decide +kernel
theorem dL_law_1885 : decode cL_law 1885 = .ok (.iadd, 1) := by decide +kernel
theorem dL_law_1886 : decode cL_law 1886 = .ok (.iaload, 1) := by decide +kernel
theorem dL_law_1887 : decode cL_law 1887 = .ok (.aload_n 0, 1) := by decide +kernel
theorem dL_law_1888 : decode cL_law 1888 = .ok (.iload 4, 2) := by decide +kernel
theorem dL_law_1890 : decode cL_law 1890 = .ok (.iconst 2, 1) := by decide +kernel
theorem dL_law_1891 : decode cL_law 1891 = .ok (.iadd, 1) := by decide +kernel
theorem dL_law_1892 : decode cL_law 1892 = .ok (.iaload, 1) := by decide +kernel
theorem dL_law_1893 : decode cL_law 1893 = .ok (.aload_n 0, 1) := by decide +kernel
theorem dL_law_1894 : decode cL_law 1894 = .ok (.iload 4, 2) := by decide +kernel
theorem dL_law_1896 : decode cL_law 1896 = .ok (.iconst 3, 1) := by decide +kernel
theorem dL_law_1897 : decode cL_law 1897 = .ok (.iadd, 1) := by decide +kernel
theorem dL_law_1898 : decode cL_law 1898 = .ok (.iaload, 1) := by decide +kernel
theorem dL_law_1899 : decode cL_law 1899 = .ok (.aload_n 0, 1) := by decide +kernel
theorem dL_law_1900 : decode cL_law 1900 = .ok (.iload 4, 2) := by decide +kernel
theorem dL_law_1902 : decode cL_law 1902 = .ok (.iconst 4, 1) := by decide +kernel
theorem dL_law_1903 : decode cL_law 1903 = .ok (.iadd, 1) := by decide +kernel
theorem dL_law_1904 : decode cL_law 1904 = .ok (.iaload, 1) := by decide +kernel
theorem dL_law_1905 : decode cL_law 1905 = .ok (.aload_n 0, 1) := by decide +kernel
theorem dL_law_1906 : decode cL_law 1906 = .ok (.iload 4, 2) := by decide +kernel
theorem dL_law_1908 : decode cL_law 1908 = .ok (.iconst 5, 1) := by decide +kernel
theorem dL_law_1909 : decode cL_law 1909 = .ok (.iadd, 1) := by decide +kernel
theorem dL_law_1910 : decode cL_law 1910 = .ok (.iaload, 1) := by decide +kernel
theorem dL_law_1911 : decode cL_law 1911 = .ok (.invokevirtual 161, 3) := by decide +kernel
theorem dL_law_1914 : decode cL_law 1914 = .ok (.if_icmp .eq 654, 3) := by decide +kernel
theorem dL_law_1917 : decode cL_law 1917 = .ok (.iconst 0, 1) := by decide +kernel
theorem dL_law_1918 : decode cL_law 1918 = .ok (.ireturn, 1) := by decide +kernel
theorem dL_law_1919 : decode cL_law 1919 = .ok (.aload_n 1, 1) := by decide +kernel
theorem dL_law_1920 : decode cL_law 1920 = .ok (.aload_n 0, 1) := by decide +kernel
theorem dL_law_1921 : decode cL_law 1921 = .ok (.iload 4, 2) := by decide +kernel
theorem dL_law_1923 : decode cL_law 1923 = .ok (.iconst 1, 1) := by decide +kernel
theorem dL_law_1924 : decode cL_law 1924 = .ok (.iadd, 1) := by decide +kernel
theorem dL_law_1925 : decode cL_law 1925 = .ok (.iaload, 1) := by decide +kernel
theorem dL_law_1926 : decode cL_law 1926 = .ok (.aload_n 0, 1) := by decide +kernel
theorem dL_law_1927 : decode cL_law 1927 = .ok (.iload 4, 2) := by decide +kernel
theorem dL_law_1929 : decode cL_law 1929 = .ok (.iconst 2, 1) := by decide +kernel
theorem dL_law_1930 : decode cL_law 1930 = .ok (.iadd, 1) := by decide +kernel
theorem dL_law_1931 : decode cL_law 1931 = .ok (.iaload, 1) := by decide +kernel
theorem dL_law_1932 : decode cL_law 1932 = .ok (.aload_n 0, 1) := by decide +kernel
theorem dL_law_1933 : decode cL_law 1933 = .ok (.iload 4, 2) := by decide +kernel
theorem dL_law_1935 : decode cL_law 1935 = .ok (.iconst 3, 1) := by decide +kernel
theorem dL_law_1936 : decode cL_law 1936 = .ok (.iadd, 1) := by decide +kernel
theorem dL_law_1937 : decode cL_law 1937 = .ok (.iaload, 1) := by decide +kernel
theorem dL_law_1938 : decode cL_law 1938 = .ok (.aload_n 0, 1) := by decide +kernel
theorem dL_law_1939 : decode cL_law 1939 = .ok (.iload 4, 2) := by decide +kernel
theorem dL_law_1941 : decode cL_law 1941 = .ok (.iconst 4, 1) := by decide +kernel
theorem dL_law_1942 : decode cL_law 1942 = .ok (.iadd, 1) := by decide +kernel
theorem dL_law_1943 : decode cL_law 1943 = .ok (.iaload, 1) := by decide +kernel
theorem dL_law_1944 : decode cL_law 1944 = .ok (.invokevirtual 162, 3) := by decide +kernel
theorem dL_law_1947 : decode cL_law 1947 = .ok (.aload_n 2, 1) := by decide +kernel
theorem dL_law_1948 : decode cL_law 1948 = .ok (.aload_n 0, 1) := by decide +kernel
theorem dL_law_1949 : decode cL_law 1949 = .ok (.iload 4, 2) := by decide +kernel
theorem dL_law_1951 : decode cL_law 1951 = .ok (.iconst 1, 1) := by decide +kernel
theorem dL_law_1952 : decode cL_law 1952 = .ok (.iadd, 1) := by decide +kernel
theorem dL_law_1953 : decode cL_law 1953 = .ok (.iaload, 1) := by decide +kernel
theorem dL_law_1954 : decode cL_law 1954 = .ok (.aload_n 0, 1) := by decide +kernel
theorem dL_law_1955 : decode cL_law 1955 = .ok (.iload 4, 2) := by decide +kernel
theorem dL_law_1957 : decode cL_law 1957 = .ok (.iconst 2, 1) := by decide +kernel
theorem dL_law_1958 : decode cL_law 1958 = .ok (.iadd, 1) := by decide +kernel
theorem dL_law_1959 : decode cL_law 1959 = .ok (.iaload, 1) := by decide +kernel
theorem dL_law_1960 : decode cL_law 1960 = .ok (.aload_n 0, 1) := by decide +kernel
theorem dL_law_1961 : decode cL_law 1961 = .ok (.iload 4, 2) := by decide +kernel
theorem dL_law_1963 : decode cL_law 1963 = .ok (.iconst 3, 1) := by decide +kernel
theorem dL_law_1964 : decode cL_law 1964 = .ok (.iadd, 1) := by decide +kernel
theorem dL_law_1965 : decode cL_law 1965 = .ok (.iaload, 1) := by decide +kernel
theorem dL_law_1966 : decode cL_law 1966 = .ok (.aload_n 0, 1) := by decide +kernel
theorem dL_law_1967 : decode cL_law 1967 = .ok (.iload 4, 2) := by decide +kernel
theorem dL_law_1969 : decode cL_law 1969 = .ok (.iconst 4, 1) := by decide +kernel
theorem dL_law_1970 : decode cL_law 1970 = .ok (.iadd, 1) := by decide +kernel
theorem dL_law_1971 : decode cL_law 1971 = .ok (.iaload, 1) := by decide +kernel
theorem dL_law_1972 : decode cL_law 1972 = .ok (.invokevirtual 165, 3) := by decide +kernel
theorem dL_law_1975 : decode cL_law 1975 = .ok (.if_icmp .eq 593, 3) := by decide +kernel
theorem dL_law_1978 : decode cL_law 1978 = .ok (.iconst 0, 1) := by decide +kernel
theorem dL_law_1979 : decode cL_law 1979 = .ok (.ireturn, 1) := by decide +kernel
theorem dL_law_1980 : decode cL_law 1980 = .ok (.aload_n 1, 1) := by decide +kernel
theorem dL_law_1981 : decode cL_law 1981 = .ok (.aload_n 0, 1) := by decide +kernel
theorem dL_law_1982 : decode cL_law 1982 = .ok (.iload 4, 2) := by decide +kernel
theorem dL_law_1984 : decode cL_law 1984 = .ok (.iconst 1, 1) := by decide +kernel
theorem dL_law_1985 : decode cL_law 1985 = .ok (.iadd, 1) := by decide +kernel
theorem dL_law_1986 : decode cL_law 1986 = .ok (.iaload, 1) := by decide +kernel
theorem dL_law_1987 : decode cL_law 1987 = .ok (.invokevirtual 166, 3) := by decide +kernel
theorem dL_law_1990 : decode cL_law 1990 = .ok (.aload_n 2, 1) := by decide +kernel
theorem dL_law_1991 : decode cL_law 1991 = .ok (.aload_n 0, 1) := by decide +kernel
theorem dL_law_1992 : decode cL_law 1992 = .ok (.iload 4, 2) := by decide +kernel
theorem dL_law_1994 : decode cL_law 1994 = .ok (.iconst 1, 1) := by decide +kernel
theorem dL_law_1995 : decode cL_law 1995 = .ok (.iadd, 1) := by decide +kernel
theorem dL_law_1996 : decode cL_law 1996 = .ok (.iaload, 1) := by decide +kernel
theorem dL_law_1997 : decode cL_law 1997 = .ok (.invokevirtual 169, 3) := by decide +kernel
theorem dL_law_2000 : decode cL_law 2000 = .ok (.if_icmp .eq 568, 3) := by decide +kernel
theorem dL_law_2003 : decode cL_law 2003 = .ok (.iconst 0, 1) := by decide +kernel
theorem dL_law_2004 : decode cL_law 2004 = .ok (.ireturn, 1) := by decide +kernel
theorem dL_law_2005 : decode cL_law 2005 = .ok (.aload_n 1, 1) := by decide +kernel
theorem dL_law_2006 : decode cL_law 2006 = .ok (.invokevirtual 170, 3) := by decide +kernel
theorem dL_law_2009 : decode cL_law 2009 = .ok (.aload_n 2, 1) := by decide +kernel
theorem dL_law_2010 : decode cL_law 2010 = .ok (.invokevirtual 173, 3) := by decide +kernel
theorem dL_law_2013 : decode cL_law 2013 = .ok (.if_icmp .eq 555, 3) := by decide +kernel
theorem dL_law_2016 : decode cL_law 2016 = .ok (.iconst 0, 1) := by decide +kernel
theorem dL_law_2017 : decode cL_law 2017 = .ok (.ireturn, 1) := by decide +kernel
theorem dL_law_2018 : decode cL_law 2018 = .ok (.aload_n 1, 1) := by decide +kernel
theorem dL_law_2019 : decode cL_law 2019 = .ok (.invokevirtual 174, 3) := by decide +kernel
theorem dL_law_2022 : decode cL_law 2022 = .ok (.aload_n 2, 1) := by decide +kernel
theorem dL_law_2023 : decode cL_law 2023 = .ok (.invokevirtual 177, 3) := by decide +kernel
theorem dL_law_2026 : decode cL_law 2026 = .ok (.if_icmp .eq 542, 3) := by decide +kernel
theorem dL_law_2029 : decode cL_law 2029 = .ok (.iconst 0, 1) := by decide +kernel
theorem dL_law_2030 : decode cL_law 2030 = .ok (.ireturn, 1) := by decide +kernel
theorem dL_law_2031 : decode cL_law 2031 = .ok (.aload_n 1, 1) := by decide +kernel
theorem dL_law_2032 : decode cL_law 2032 = .ok (.aload_n 0, 1) := by decide +kernel
theorem dL_law_2033 : decode cL_law 2033 = .ok (.iload 4, 2) := by decide +kernel
theorem dL_law_2035 : decode cL_law 2035 = .ok (.iconst 1, 1) := by decide +kernel
theorem dL_law_2036 : decode cL_law 2036 = .ok (.iadd, 1) := by decide +kernel
theorem dL_law_2037 : decode cL_law 2037 = .ok (.iaload, 1) := by decide +kernel
theorem dL_law_2038 : decode cL_law 2038 = .ok (.aload_n 0, 1) := by decide +kernel
theorem dL_law_2039 : decode cL_law 2039 = .ok (.iload 4, 2) := by decide +kernel
theorem dL_law_2041 : decode cL_law 2041 = .ok (.iconst 2, 1) := by decide +kernel
theorem dL_law_2042 : decode cL_law 2042 = .ok (.iadd, 1) := by decide +kernel
theorem dL_law_2043 : decode cL_law 2043 = .ok (.iaload, 1) := by decide +kernel
theorem dL_law_2044 : decode cL_law 2044 = .ok (.aload_n 0, 1) := by decide +kernel
theorem dL_law_2045 : decode cL_law 2045 = .ok (.iload 4, 2) := by decide +kernel
theorem dL_law_2047 : decode cL_law 2047 = .ok (.iconst 3, 1) := by decide +kernel
theorem dL_law_2048 : decode cL_law 2048 = .ok (.iadd, 1) := by decide +kernel
theorem dL_law_2049 : decode cL_law 2049 = .ok (.iaload, 1) := by decide +kernel
theorem dL_law_2050 : decode cL_law 2050 = .ok (.invokevirtual 178, 3) := by decide +kernel
theorem dL_law_2053 : decode cL_law 2053 = .ok (.aload_n 2, 1) := by decide +kernel
theorem dL_law_2054 : decode cL_law 2054 = .ok (.aload_n 0, 1) := by decide +kernel
theorem dL_law_2055 : decode cL_law 2055 = .ok (.iload 4, 2) := by decide +kernel
theorem dL_law_2057 : decode cL_law 2057 = .ok (.iconst 1, 1) := by decide +kernel
theorem dL_law_2058 : decode cL_law 2058 = .ok (.iadd, 1) := by decide +kernel
theorem dL_law_2059 : decode cL_law 2059 = .ok (.iaload, 1) := by decide +kernel
theorem dL_law_2060 : decode cL_law 2060 = .ok (.aload_n 0, 1) := by decide +kernel
theorem dL_law_2061 : decode cL_law 2061 = .ok (.iload 4, 2) := by decide +kernel
theorem dL_law_2063 : decode cL_law 2063 = .ok (.iconst 2, 1) := by decide +kernel
theorem dL_law_2064 : decode cL_law 2064 = .ok (.iadd, 1) := by decide +kernel
theorem dL_law_2065 : decode cL_law 2065 = .ok (.iaload, 1) := by decide +kernel
theorem dL_law_2066 : decode cL_law 2066 = .ok (.aload_n 0, 1) := by decide +kernel
theorem dL_law_2067 : decode cL_law 2067 = .ok (.iload 4, 2) := by decide +kernel
theorem dL_law_2069 : decode cL_law 2069 = .ok (.iconst 3, 1) := by decide +kernel
theorem dL_law_2070 : decode cL_law 2070 = .ok (.iadd, 1) := by decide +kernel
theorem dL_law_2071 : decode cL_law 2071 = .ok (.iaload, 1) := by decide +kernel
theorem dL_law_2072 : decode cL_law 2072 = .ok (.invokevirtual 181, 3) := by decide +kernel
theorem dL_law_2075 : decode cL_law 2075 = .ok (.if_icmp .eq 493, 3) := by decide +kernel
theorem dL_law_2078 : decode cL_law 2078 = .ok (.iconst 0, 1) := by decide +kernel
theorem dL_law_2079 : decode cL_law 2079 = .ok (.ireturn, 1) := by decide +kernel
theorem dL_law_2080 : decode cL_law 2080 = .ok (.aload_n 1, 1) := by decide +kernel
theorem dL_law_2081 : decode cL_law 2081 = .ok (.aload_n 0, 1) := by decide +kernel
theorem dL_law_2082 : decode cL_law 2082 = .ok (.iload 4, 2) := by decide +kernel
theorem dL_law_2084 : decode cL_law 2084 = .ok (.iconst 1, 1) := by decide +kernel
theorem dL_law_2085 : decode cL_law 2085 = .ok (.iadd, 1) := by decide +kernel
theorem dL_law_2086 : decode cL_law 2086 = .ok (.iaload, 1) := by decide +kernel
theorem dL_law_2087 : decode cL_law 2087 = .ok (.aload_n 0, 1) := by decide +kernel
theorem dL_law_2088 : decode cL_law 2088 = .ok (.iload 4, 2) := by decide +kernel
theorem dL_law_2090 : decode cL_law 2090 = .ok (.iconst 2, 1) := by decide +kernel
theorem dL_law_2091 : decode cL_law 2091 = .ok (.iadd, 1) := by decide +kernel
theorem dL_law_2092 : decode cL_law 2092 = .ok (.iaload, 1) := by decide +kernel
theorem dL_law_2093 : decode cL_law 2093 = .ok (.i2l, 1) := by decide +kernel
theorem dL_law_2094 : decode cL_law 2094 = .ok (.bipush 32, 2) := by decide +kernel
theorem dL_law_2096 : decode cL_law 2096 = .ok (.lshl, 1) := by decide +kernel
theorem dL_law_2097 : decode cL_law 2097 = .ok (.aload_n 0, 1) := by decide +kernel
theorem dL_law_2098 : decode cL_law 2098 = .ok (.iload 4, 2) := by decide +kernel
theorem dL_law_2100 : decode cL_law 2100 = .ok (.iconst 3, 1) := by decide +kernel
theorem dL_law_2101 : decode cL_law 2101 = .ok (.iadd, 1) := by decide +kernel
theorem dL_law_2102 : decode cL_law 2102 = .ok (.iaload, 1) := by decide +kernel
theorem dL_law_2103 : decode cL_law 2103 = .ok (.i2l, 1) := by decide +kernel
theorem dL_law_2104 : decode cL_law 2104 = .ok (.ldc2_w 182, 3) := by decide +kernel
theorem dL_law_2107 : decode cL_law 2107 = .ok (.land, 1) := by decide +kernel
theorem dL_law_2108 : decode cL_law 2108 = .ok (.lor, 1) := by decide +kernel
theorem dL_law_2109 : decode cL_law 2109 = .ok (.aload_n 0, 1) := by decide +kernel
theorem dL_law_2110 : decode cL_law 2110 = .ok (.iload 4, 2) := by decide +kernel
theorem dL_law_2112 : decode cL_law 2112 = .ok (.iconst 4, 1) := by decide +kernel
theorem dL_law_2113 : decode cL_law 2113 = .ok (.iadd, 1) := by decide +kernel
theorem dL_law_2114 : decode cL_law 2114 = .ok (.iaload, 1) := by decide +kernel
theorem dL_law_2115 : decode cL_law 2115 = .ok (.aload_n 0, 1) := by decide +kernel
theorem dL_law_2116 : decode cL_law 2116 = .ok (.iload 4, 2) := by decide +kernel
theorem dL_law_2118 : decode cL_law 2118 = .ok (.iconst 5, 1) := by decide +kernel
theorem dL_law_2119 : decode cL_law 2119 = .ok (.iadd, 1) := by decide +kernel
theorem dL_law_2120 : decode cL_law 2120 = .ok (.iaload, 1) := by decide +kernel
theorem dL_law_2121 : decode cL_law 2121 = .ok (.aload_n 0, 1) := by decide +kernel
theorem dL_law_2122 : decode cL_law 2122 = .ok (.iload 4, 2) := by decide +kernel
theorem dL_law_2124 : decode cL_law 2124 = .ok (.bipush 6, 2) := by decide +kernel
theorem dL_law_2126 : decode cL_law 2126 = .ok (.iadd, 1) := by decide +kernel
theorem dL_law_2127 : decode cL_law 2127 = .ok (.iaload, 1) := by decide +kernel
theorem dL_law_2128 : decode cL_law 2128 = .ok (.invokevirtual 184, 3) := by decide +kernel
theorem dL_law_2131 : decode cL_law 2131 = .ok (.aload_n 2, 1) := by decide +kernel
theorem dL_law_2132 : decode cL_law 2132 = .ok (.aload_n 0, 1) := by decide +kernel
theorem dL_law_2133 : decode cL_law 2133 = .ok (.iload 4, 2) := by decide +kernel
theorem dL_law_2135 : decode cL_law 2135 = .ok (.iconst 1, 1) := by decide +kernel
theorem dL_law_2136 : decode cL_law 2136 = .ok (.iadd, 1) := by decide +kernel
theorem dL_law_2137 : decode cL_law 2137 = .ok (.iaload, 1) := by decide +kernel
theorem dL_law_2138 : decode cL_law 2138 = .ok (.aload_n 0, 1) := by decide +kernel
theorem dL_law_2139 : decode cL_law 2139 = .ok (.iload 4, 2) := by decide +kernel
theorem dL_law_2141 : decode cL_law 2141 = .ok (.iconst 2, 1) := by decide +kernel
theorem dL_law_2142 : decode cL_law 2142 = .ok (.iadd, 1) := by decide +kernel
theorem dL_law_2143 : decode cL_law 2143 = .ok (.iaload, 1) := by decide +kernel
theorem dL_law_2144 : decode cL_law 2144 = .ok (.i2l, 1) := by decide +kernel
theorem dL_law_2145 : decode cL_law 2145 = .ok (.bipush 32, 2) := by decide +kernel
theorem dL_law_2147 : decode cL_law 2147 = .ok (.lshl, 1) := by decide +kernel
theorem dL_law_2148 : decode cL_law 2148 = .ok (.aload_n 0, 1) := by decide +kernel
theorem dL_law_2149 : decode cL_law 2149 = .ok (.iload 4, 2) := by decide +kernel
theorem dL_law_2151 : decode cL_law 2151 = .ok (.iconst 3, 1) := by decide +kernel
theorem dL_law_2152 : decode cL_law 2152 = .ok (.iadd, 1) := by decide +kernel
theorem dL_law_2153 : decode cL_law 2153 = .ok (.iaload, 1) := by decide +kernel
theorem dL_law_2154 : decode cL_law 2154 = .ok (.i2l, 1) := by decide +kernel
theorem dL_law_2155 : decode cL_law 2155 = .ok (.ldc2_w 182, 3) := by decide +kernel
theorem dL_law_2158 : decode cL_law 2158 = .ok (.land, 1) := by decide +kernel
theorem dL_law_2159 : decode cL_law 2159 = .ok (.lor, 1) := by decide +kernel
theorem dL_law_2160 : decode cL_law 2160 = .ok (.aload_n 0, 1) := by decide +kernel
theorem dL_law_2161 : decode cL_law 2161 = .ok (.iload 4, 2) := by decide +kernel
theorem dL_law_2163 : decode cL_law 2163 = .ok (.iconst 4, 1) := by decide +kernel
theorem dL_law_2164 : decode cL_law 2164 = .ok (.iadd, 1) := by decide +kernel
theorem dL_law_2165 : decode cL_law 2165 = .ok (.iaload, 1) := by decide +kernel
theorem dL_law_2166 : decode cL_law 2166 = .ok (.aload_n 0, 1) := by decide +kernel
theorem dL_law_2167 : decode cL_law 2167 = .ok (.iload 4, 2) := by decide +kernel
theorem dL_law_2169 : decode cL_law 2169 = .ok (.iconst 5, 1) := by decide +kernel
theorem dL_law_2170 : decode cL_law 2170 = .ok (.iadd, 1) := by decide +kernel
theorem dL_law_2171 : decode cL_law 2171 = .ok (.iaload, 1) := by decide +kernel
theorem dL_law_2172 : decode cL_law 2172 = .ok (.aload_n 0, 1) := by decide +kernel
theorem dL_law_2173 : decode cL_law 2173 = .ok (.iload 4, 2) := by decide +kernel
theorem dL_law_2175 : decode cL_law 2175 = .ok (.bipush 6, 2) := by decide +kernel
theorem dL_law_2177 : decode cL_law 2177 = .ok (.iadd, 1) := by decide +kernel
theorem dL_law_2178 : decode cL_law 2178 = .ok (.iaload, 1) := by decide +kernel
theorem dL_law_2179 : decode cL_law 2179 = .ok (.invokevirtual 188, 3) := by decide +kernel
theorem dL_law_2182 : decode cL_law 2182 = .ok (.if_icmp .eq 386, 3) := by decide +kernel
theorem dL_law_2185 : decode cL_law 2185 = .ok (.iconst 0, 1) := by decide +kernel
theorem dL_law_2186 : decode cL_law 2186 = .ok (.ireturn, 1) := by decide +kernel
theorem dL_law_2187 : decode cL_law 2187 = .ok (.aload_n 1, 1) := by decide +kernel
theorem dL_law_2188 : decode cL_law 2188 = .ok (.aload_n 0, 1) := by decide +kernel
theorem dL_law_2189 : decode cL_law 2189 = .ok (.iload 4, 2) := by decide +kernel
theorem dL_law_2191 : decode cL_law 2191 = .ok (.iconst 1, 1) := by decide +kernel
theorem dL_law_2192 : decode cL_law 2192 = .ok (.iadd, 1) := by decide +kernel
theorem dL_law_2193 : decode cL_law 2193 = .ok (.iaload, 1) := by decide +kernel
theorem dL_law_2194 : decode cL_law 2194 = .ok (.aload_n 0, 1) := by decide +kernel
theorem dL_law_2195 : decode cL_law 2195 = .ok (.iload 4, 2) := by decide +kernel
theorem dL_law_2197 : decode cL_law 2197 = .ok (.iconst 2, 1) := by decide +kernel
theorem dL_law_2198 : decode cL_law 2198 = .ok (.iadd, 1) := by decide +kernel
theorem dL_law_2199 : decode cL_law 2199 = .ok (.iaload, 1) := by decide +kernel
theorem dL_law_2200 : decode cL_law 2200 = .ok (.aload_n 0, 1) := by decide +kernel
theorem dL_law_2201 : decode cL_law 2201 = .ok (.iload 4, 2) := by decide +kernel
theorem dL_law_2203 : decode cL_law 2203 = .ok (.iconst 3, 1) := by decide +kernel
theorem dL_law_2204 : decode cL_law 2204 = .ok (.iadd, 1) := by decide +kernel
theorem dL_law_2205 : decode cL_law 2205 = .ok (.iaload, 1) := by decide +kernel
theorem dL_law_2206 : decode cL_law 2206 = .ok (.aload_n 0, 1) := by decide +kernel
theorem dL_law_2207 : decode cL_law 2207 = .ok (.iload 4, 2) := by decide +kernel
theorem dL_law_2209 : decode cL_law 2209 = .ok (.iconst 4, 1) := by decide +kernel
theorem dL_law_2210 : decode cL_law 2210 = .ok (.iadd, 1) := by decide +kernel
theorem dL_law_2211 : decode cL_law 2211 = .ok (.iaload, 1) := by decide +kernel
theorem dL_law_2212 : decode cL_law 2212 = .ok (.aload_n 0, 1) := by decide +kernel
theorem dL_law_2213 : decode cL_law 2213 = .ok (.iload 4, 2) := by decide +kernel
theorem dL_law_2215 : decode cL_law 2215 = .ok (.iconst 5, 1) := by decide +kernel
theorem dL_law_2216 : decode cL_law 2216 = .ok (.iadd, 1) := by decide +kernel
theorem dL_law_2217 : decode cL_law 2217 = .ok (.iaload, 1) := by decide +kernel
theorem dL_law_2218 : decode cL_law 2218 = .ok (.aload_n 0, 1) := by decide +kernel
theorem dL_law_2219 : decode cL_law 2219 = .ok (.iload 4, 2) := by decide +kernel
theorem dL_law_2221 : decode cL_law 2221 = .ok (.bipush 6, 2) := by decide +kernel
theorem dL_law_2223 : decode cL_law 2223 = .ok (.iadd, 1) := by decide +kernel
theorem dL_law_2224 : decode cL_law 2224 = .ok (.iaload, 1) := by decide +kernel
theorem dL_law_2225 : decode cL_law 2225 = .ok (.invokevirtual 189, 3) := by decide +kernel
theorem dL_law_2228 : decode cL_law 2228 = .ok (.aload_n 2, 1) := by decide +kernel
theorem dL_law_2229 : decode cL_law 2229 = .ok (.aload_n 0, 1) := by decide +kernel
theorem dL_law_2230 : decode cL_law 2230 = .ok (.iload 4, 2) := by decide +kernel
theorem dL_law_2232 : decode cL_law 2232 = .ok (.iconst 1, 1) := by decide +kernel
theorem dL_law_2233 : decode cL_law 2233 = .ok (.iadd, 1) := by decide +kernel
theorem dL_law_2234 : decode cL_law 2234 = .ok (.iaload, 1) := by decide +kernel
theorem dL_law_2235 : decode cL_law 2235 = .ok (.aload_n 0, 1) := by decide +kernel
theorem dL_law_2236 : decode cL_law 2236 = .ok (.iload 4, 2) := by decide +kernel
theorem dL_law_2238 : decode cL_law 2238 = .ok (.iconst 2, 1) := by decide +kernel
theorem dL_law_2239 : decode cL_law 2239 = .ok (.iadd, 1) := by decide +kernel
theorem dL_law_2240 : decode cL_law 2240 = .ok (.iaload, 1) := by decide +kernel
theorem dL_law_2241 : decode cL_law 2241 = .ok (.aload_n 0, 1) := by decide +kernel
theorem dL_law_2242 : decode cL_law 2242 = .ok (.iload 4, 2) := by decide +kernel
theorem dL_law_2244 : decode cL_law 2244 = .ok (.iconst 3, 1) := by decide +kernel
theorem dL_law_2245 : decode cL_law 2245 = .ok (.iadd, 1) := by decide +kernel
theorem dL_law_2246 : decode cL_law 2246 = .ok (.iaload, 1) := by decide +kernel
theorem dL_law_2247 : decode cL_law 2247 = .ok (.aload_n 0, 1) := by decide +kernel
theorem dL_law_2248 : decode cL_law 2248 = .ok (.iload 4, 2) := by decide +kernel
theorem dL_law_2250 : decode cL_law 2250 = .ok (.iconst 4, 1) := by decide +kernel
theorem dL_law_2251 : decode cL_law 2251 = .ok (.iadd, 1) := by decide +kernel
theorem dL_law_2252 : decode cL_law 2252 = .ok (.iaload, 1) := by decide +kernel
theorem dL_law_2253 : decode cL_law 2253 = .ok (.aload_n 0, 1) := by decide +kernel
theorem dL_law_2254 : decode cL_law 2254 = .ok (.iload 4, 2) := by decide +kernel
theorem dL_law_2256 : decode cL_law 2256 = .ok (.iconst 5, 1) := by decide +kernel
theorem dL_law_2257 : decode cL_law 2257 = .ok (.iadd, 1) := by decide +kernel
theorem dL_law_2258 : decode cL_law 2258 = .ok (.iaload, 1) := by decide +kernel
theorem dL_law_2259 : decode cL_law 2259 = .ok (.aload_n 0, 1) := by decide +kernel
theorem dL_law_2260 : decode cL_law 2260 = .ok (.iload 4, 2) := by decide +kernel
theorem dL_law_2262 : decode cL_law 2262 = .ok (.bipush 6, 2) := by decide +kernel
theorem dL_law_2264 : decode cL_law 2264 = .ok (.iadd, 1) := by decide +kernel
theorem dL_law_2265 : decode cL_law 2265 = .ok (.iaload, 1) := by decide +kernel
theorem dL_law_2266 : decode cL_law 2266 = .ok (.invokevirtual 192, 3) := by decide +kernel
theorem dL_law_2269 : decode cL_law 2269 = .ok (.if_icmp .eq 299, 3) := by decide +kernel
theorem dL_law_2272 : decode cL_law 2272 = .ok (.iconst 0, 1) := by decide +kernel
theorem dL_law_2273 : decode cL_law 2273 = .ok (.ireturn, 1) := by decide +kernel
theorem dL_law_2274 : decode cL_law 2274 = .ok (.aload_n 1, 1) := by decide +kernel
theorem dL_law_2275 : decode cL_law 2275 = .ok (.aload_n 0, 1) := by decide +kernel
theorem dL_law_2276 : decode cL_law 2276 = .ok (.iload 4, 2) := by decide +kernel
theorem dL_law_2278 : decode cL_law 2278 = .ok (.iconst 1, 1) := by decide +kernel
theorem dL_law_2279 : decode cL_law 2279 = .ok (.iadd, 1) := by decide +kernel
theorem dL_law_2280 : decode cL_law 2280 = .ok (.iaload, 1) := by decide +kernel
theorem dL_law_2281 : decode cL_law 2281 = .ok (.aload_n 0, 1) := by decide +kernel
theorem dL_law_2282 : decode cL_law 2282 = .ok (.iload 4, 2) := by decide +kernel
theorem dL_law_2284 : decode cL_law 2284 = .ok (.iconst 2, 1) := by decide +kernel
theorem dL_law_2285 : decode cL_law 2285 = .ok (.iadd, 1) := by decide +kernel
theorem dL_law_2286 : decode cL_law 2286 = .ok (.iaload, 1) := by decide +kernel
theorem dL_law_2287 : decode cL_law 2287 = .ok (.aload_n 0, 1) := by decide +kernel
theorem dL_law_2288 : decode cL_law 2288 = .ok (.iload 4, 2) := by decide +kernel
theorem dL_law_2290 : decode cL_law 2290 = .ok (.iconst 3, 1) := by decide +kernel
theorem dL_law_2291 : decode cL_law 2291 = .ok (.iadd, 1) := by decide +kernel
theorem dL_law_2292 : decode cL_law 2292 = .ok (.iaload, 1) := by decide +kernel
theorem dL_law_2293 : decode cL_law 2293 = .ok (.aload_n 0, 1) := by decide +kernel
theorem dL_law_2294 : decode cL_law 2294 = .ok (.iload 4, 2) := by decide +kernel
theorem dL_law_2296 : decode cL_law 2296 = .ok (.iconst 4, 1) := by decide +kernel
theorem dL_law_2297 : decode cL_law 2297 = .ok (.iadd, 1) := by decide +kernel
theorem dL_law_2298 : decode cL_law 2298 = .ok (.iaload, 1) := by decide +kernel
theorem dL_law_2299 : decode cL_law 2299 = .ok (.invokevirtual 193, 3) := by decide +kernel
theorem dL_law_2302 : decode cL_law 2302 = .ok (.aload_n 2, 1) := by decide +kernel
theorem dL_law_2303 : decode cL_law 2303 = .ok (.aload_n 0, 1) := by decide +kernel
theorem dL_law_2304 : decode cL_law 2304 = .ok (.iload 4, 2) := by decide +kernel
theorem dL_law_2306 : decode cL_law 2306 = .ok (.iconst 1, 1) := by decide +kernel
theorem dL_law_2307 : decode cL_law 2307 = .ok (.iadd, 1) := by decide +kernel
theorem dL_law_2308 : decode cL_law 2308 = .ok (.iaload, 1) := by decide +kernel
theorem dL_law_2309 : decode cL_law 2309 = .ok (.aload_n 0, 1) := by decide +kernel
theorem dL_law_2310 : decode cL_law 2310 = .ok (.iload 4, 2) := by decide +kernel
theorem dL_law_2312 : decode cL_law 2312 = .ok (.iconst 2, 1) := by decide +kernel
theorem dL_law_2313 : decode cL_law 2313 = .ok (.iadd, 1) := by decide +kernel
theorem dL_law_2314 : decode cL_law 2314 = .ok (.iaload, 1) := by decide +kernel
theorem dL_law_2315 : decode cL_law 2315 = .ok (.aload_n 0, 1) := by decide +kernel
theorem dL_law_2316 : decode cL_law 2316 = .ok (.iload 4, 2) := by decide +kernel
theorem dL_law_2318 : decode cL_law 2318 = .ok (.iconst 3, 1) := by decide +kernel
theorem dL_law_2319 : decode cL_law 2319 = .ok (.iadd, 1) := by decide +kernel
theorem dL_law_2320 : decode cL_law 2320 = .ok (.iaload, 1) := by decide +kernel
theorem dL_law_2321 : decode cL_law 2321 = .ok (.aload_n 0, 1) := by decide +kernel
theorem dL_law_2322 : decode cL_law 2322 = .ok (.iload 4, 2) := by decide +kernel
theorem dL_law_2324 : decode cL_law 2324 = .ok (.iconst 4, 1) := by decide +kernel
theorem dL_law_2325 : decode cL_law 2325 = .ok (.iadd, 1) := by decide +kernel
theorem dL_law_2326 : decode cL_law 2326 = .ok (.iaload, 1) := by decide +kernel
theorem dL_law_2327 : decode cL_law 2327 = .ok (.invokevirtual 196, 3) := by decide +kernel
theorem dL_law_2330 : decode cL_law 2330 = .ok (.if_icmp .eq 238, 3) := by decide +kernel
theorem dL_law_2333 : decode cL_law 2333 = .ok (.iconst 0, 1) := by decide +kernel
theorem dL_law_2334 : decode cL_law 2334 = .ok (.ireturn, 1) := by decide +kernel
theorem dL_law_2335 : decode cL_law 2335 = .ok (.aload_n 1, 1) := by decide +kernel
theorem dL_law_2336 : decode cL_law 2336 = .ok (.aload_n 0, 1) := by decide +kernel
theorem dL_law_2337 : decode cL_law 2337 = .ok (.iload 4, 2) := by decide +kernel
theorem dL_law_2339 : decode cL_law 2339 = .ok (.iconst 1, 1) := by decide +kernel
theorem dL_law_2340 : decode cL_law 2340 = .ok (.iadd, 1) := by decide +kernel
theorem dL_law_2341 : decode cL_law 2341 = .ok (.iaload, 1) := by decide +kernel
theorem dL_law_2342 : decode cL_law 2342 = .ok (.aload_n 0, 1) := by decide +kernel
theorem dL_law_2343 : decode cL_law 2343 = .ok (.iload 4, 2) := by decide +kernel
theorem dL_law_2345 : decode cL_law 2345 = .ok (.iconst 2, 1) := by decide +kernel
theorem dL_law_2346 : decode cL_law 2346 = .ok (.iadd, 1) := by decide +kernel
theorem dL_law_2347 : decode cL_law 2347 = .ok (.iaload, 1) := by decide +kernel
theorem dL_law_2348 : decode cL_law 2348 = .ok (.aload_n 0, 1) := by decide +kernel
theorem dL_law_2349 : decode cL_law 2349 = .ok (.iload 4, 2) := by decide +kernel
theorem dL_law_2351 : decode cL_law 2351 = .ok (.iconst 3, 1) := by decide +kernel
theorem dL_law_2352 : decode cL_law 2352 = .ok (.iadd, 1) := by decide +kernel
theorem dL_law_2353 : decode cL_law 2353 = .ok (.iaload, 1) := by decide +kernel
theorem dL_law_2354 : decode cL_law 2354 = .ok (.aload_n 0, 1) := by decide +kernel
theorem dL_law_2355 : decode cL_law 2355 = .ok (.iload 4, 2) := by decide +kernel
theorem dL_law_2357 : decode cL_law 2357 = .ok (.iconst 4, 1) := by decide +kernel
theorem dL_law_2358 : decode cL_law 2358 = .ok (.iadd, 1) := by decide +kernel
theorem dL_law_2359 : decode cL_law 2359 = .ok (.iaload, 1) := by decide +kernel
theorem dL_law_2360 : decode cL_law 2360 = .ok (.invokevirtual 197, 3) := by decide +kernel
theorem dL_law_2363 : decode cL_law 2363 = .ok (.aload_n 2, 1) := by decide +kernel
theorem dL_law_2364 : decode cL_law 2364 = .ok (.aload_n 0, 1) := by decide +kernel
theorem dL_law_2365 : decode cL_law 2365 = .ok (.iload 4, 2) := by decide +kernel
theorem dL_law_2367 : decode cL_law 2367 = .ok (.iconst 1, 1) := by decide +kernel
theorem dL_law_2368 : decode cL_law 2368 = .ok (.iadd, 1) := by decide +kernel
theorem dL_law_2369 : decode cL_law 2369 = .ok (.iaload, 1) := by decide +kernel
theorem dL_law_2370 : decode cL_law 2370 = .ok (.aload_n 0, 1) := by decide +kernel
theorem dL_law_2371 : decode cL_law 2371 = .ok (.iload 4, 2) := by decide +kernel
theorem dL_law_2373 : decode cL_law 2373 = .ok (.iconst 2, 1) := by decide +kernel
theorem dL_law_2374 : decode cL_law 2374 = .ok (.iadd, 1) := by decide +kernel
theorem dL_law_2375 : decode cL_law 2375 = .ok (.iaload, 1) := by decide +kernel
theorem dL_law_2376 : decode cL_law 2376 = .ok (.aload_n 0, 1) := by decide +kernel
theorem dL_law_2377 : decode cL_law 2377 = .ok (.iload 4, 2) := by decide +kernel
theorem dL_law_2379 : decode cL_law 2379 = .ok (.iconst 3, 1) := by decide +kernel
theorem dL_law_2380 : decode cL_law 2380 = .ok (.iadd, 1) := by decide +kernel
theorem dL_law_2381 : decode cL_law 2381 = .ok (.iaload, 1) := by decide +kernel
theorem dL_law_2382 : decode cL_law 2382 = .ok (.aload_n 0, 1) := by decide +kernel
theorem dL_law_2383 : decode cL_law 2383 = .ok (.iload 4, 2) := by decide +kernel
theorem dL_law_2385 : decode cL_law 2385 = .ok (.iconst 4, 1) := by decide +kernel
theorem dL_law_2386 : decode cL_law 2386 = .ok (.iadd, 1) := by decide +kernel
theorem dL_law_2387 : decode cL_law 2387 = .ok (.iaload, 1) := by decide +kernel
theorem dL_law_2388 : decode cL_law 2388 = .ok (.invokevirtual 200, 3) := by decide +kernel
theorem dL_law_2391 : decode cL_law 2391 = .ok (.if_icmp .eq 177, 3) := by decide +kernel
theorem dL_law_2394 : decode cL_law 2394 = .ok (.iconst 0, 1) := by decide +kernel
theorem dL_law_2395 : decode cL_law 2395 = .ok (.ireturn, 1) := by decide +kernel
theorem dL_law_2396 : decode cL_law 2396 = .ok (.aload_n 1, 1) := by decide +kernel
theorem dL_law_2397 : decode cL_law 2397 = .ok (.aload_n 0, 1) := by decide +kernel
theorem dL_law_2398 : decode cL_law 2398 = .ok (.iload 4, 2) := by decide +kernel
theorem dL_law_2400 : decode cL_law 2400 = .ok (.iconst 1, 1) := by decide +kernel
theorem dL_law_2401 : decode cL_law 2401 = .ok (.iadd, 1) := by decide +kernel
theorem dL_law_2402 : decode cL_law 2402 = .ok (.iaload, 1) := by decide +kernel
theorem dL_law_2403 : decode cL_law 2403 = .ok (.aload_n 0, 1) := by decide +kernel
theorem dL_law_2404 : decode cL_law 2404 = .ok (.iload 4, 2) := by decide +kernel
theorem dL_law_2406 : decode cL_law 2406 = .ok (.iconst 2, 1) := by decide +kernel
theorem dL_law_2407 : decode cL_law 2407 = .ok (.iadd, 1) := by decide +kernel
theorem dL_law_2408 : decode cL_law 2408 = .ok (.iaload, 1) := by decide +kernel
theorem dL_law_2409 : decode cL_law 2409 = .ok (.invokevirtual 201, 3) := by decide +kernel
theorem dL_law_2412 : decode cL_law 2412 = .ok (.aload_n 2, 1) := by decide +kernel
theorem dL_law_2413 : decode cL_law 2413 = .ok (.aload_n 0, 1) := by decide +kernel
theorem dL_law_2414 : decode cL_law 2414 = .ok (.iload 4, 2) := by decide +kernel
theorem dL_law_2416 : decode cL_law 2416 = .ok (.iconst 1, 1) := by decide +kernel
theorem dL_law_2417 : decode cL_law 2417 = .ok (.iadd, 1) := by decide +kernel
theorem dL_law_2418 : decode cL_law 2418 = .ok (.iaload, 1) := by decide +kernel
theorem dL_law_2419 : decode cL_law 2419 = .ok (.aload_n 0, 1) := by decide +kernel
theorem dL_law_2420 : decode cL_law 2420 = .ok (.iload 4, 2) := by decide +kernel
theorem dL_law_2422 : decode cL_law 2422 = .ok (.iconst 2, 1) := by decide +kernel
theorem dL_law_2423 : decode cL_law 2423 = .ok (.iadd, 1) := by decide +kernel
theorem dL_law_2424 : decode cL_law 2424 = .ok (.iaload, 1) := by decide +kernel
theorem dL_law_2425 : decode cL_law 2425 = .ok (.invokevirtual 204, 3) := by decide +kernel
theorem dL_law_2428 : decode cL_law 2428 = .ok (.if_icmp .eq 140, 3) := by decide +kernel
theorem dL_law_2431 : decode cL_law 2431 = .ok (.iconst 0, 1) := by decide +kernel
theorem dL_law_2432 : decode cL_law 2432 = .ok (.ireturn, 1) := by decide +kernel
theorem dL_law_2433 : decode cL_law 2433 = .ok (.aload_n 1, 1) := by decide +kernel
theorem dL_law_2434 : decode cL_law 2434 = .ok (.aload_n 0, 1) := by decide +kernel
theorem dL_law_2435 : decode cL_law 2435 = .ok (.iload 4, 2) := by decide +kernel
theorem dL_law_2437 : decode cL_law 2437 = .ok (.iconst 1, 1) := by decide +kernel
theorem dL_law_2438 : decode cL_law 2438 = .ok (.iadd, 1) := by decide +kernel
theorem dL_law_2439 : decode cL_law 2439 = .ok (.iaload, 1) := by decide +kernel
theorem dL_law_2440 : decode cL_law 2440 = .ok (.aload_n 0, 1) := by decide +kernel
theorem dL_law_2441 : decode cL_law 2441 = .ok (.iload 4, 2) := by decide +kernel
theorem dL_law_2443 : decode cL_law 2443 = .ok (.iconst 2, 1) := by decide +kernel
theorem dL_law_2444 : decode cL_law 2444 = .ok (.iadd, 1) := by decide +kernel
theorem dL_law_2445 : decode cL_law 2445 = .ok (.iaload, 1) := by decide +kernel
theorem dL_law_2446 : decode cL_law 2446 = .ok (.aload_n 0, 1) := by decide +kernel
theorem dL_law_2447 : decode cL_law 2447 = .ok (.iload 4, 2) := by decide +kernel
theorem dL_law_2449 : decode cL_law 2449 = .ok (.iconst 3, 1) := by decide +kernel
theorem dL_law_2450 : decode cL_law 2450 = .ok (.iadd, 1) := by decide +kernel
theorem dL_law_2451 : decode cL_law 2451 = .ok (.iaload, 1) := by decide +kernel
theorem dL_law_2452 : decode cL_law 2452 = .ok (.invokevirtual 205, 3) := by decide +kernel
theorem dL_law_2455 : decode cL_law 2455 = .ok (.aload_n 2, 1) := by decide +kernel
theorem dL_law_2456 : decode cL_law 2456 = .ok (.aload_n 0, 1) := by decide +kernel
theorem dL_law_2457 : decode cL_law 2457 = .ok (.iload 4, 2) := by decide +kernel
theorem dL_law_2459 : decode cL_law 2459 = .ok (.iconst 1, 1) := by decide +kernel
theorem dL_law_2460 : decode cL_law 2460 = .ok (.iadd, 1) := by decide +kernel
theorem dL_law_2461 : decode cL_law 2461 = .ok (.iaload, 1) := by decide +kernel
theorem dL_law_2462 : decode cL_law 2462 = .ok (.aload_n 0, 1) := by decide +kernel
theorem dL_law_2463 : decode cL_law 2463 = .ok (.iload 4, 2) := by decide +kernel
theorem dL_law_2465 : decode cL_law 2465 = .ok (.iconst 2, 1) := by decide +kernel
theorem dL_law_2466 : decode cL_law 2466 = .ok (.iadd, 1) := by decide +kernel
theorem dL_law_2467 : decode cL_law 2467 = .ok (.iaload, 1) := by decide +kernel
theorem dL_law_2468 : decode cL_law 2468 = .ok (.aload_n 0, 1) := by decide +kernel
theorem dL_law_2469 : decode cL_law 2469 = .ok (.iload 4, 2) := by decide +kernel
theorem dL_law_2471 : decode cL_law 2471 = .ok (.iconst 3, 1) := by decide +kernel
theorem dL_law_2472 : decode cL_law 2472 = .ok (.iadd, 1) := by decide +kernel
theorem dL_law_2473 : decode cL_law 2473 = .ok (.iaload, 1) := by decide +kernel
theorem dL_law_2474 : decode cL_law 2474 = .ok (.invokevirtual 208, 3) := by decide +kernel
theorem dL_law_2477 : decode cL_law 2477 = .ok (.if_icmp .eq 91, 3) := by decide +kernel
theorem dL_law_2480 : decode cL_law 2480 = .ok (.iconst 0, 1) := by decide +kernel
theorem dL_law_2481 : decode cL_law 2481 = .ok (.ireturn, 1) := by decide +kernel
theorem dL_law_2482 : decode cL_law 2482 = .ok (.aload_n 1, 1) := by decide +kernel
theorem dL_law_2483 : decode cL_law 2483 = .ok (.aload_n 0, 1) := by decide +kernel
theorem dL_law_2484 : decode cL_law 2484 = .ok (.iload 4, 2) := by decide +kernel
theorem dL_law_2486 : decode cL_law 2486 = .ok (.iconst 1, 1) := by decide +kernel
theorem dL_law_2487 : decode cL_law 2487 = .ok (.iadd, 1) := by decide +kernel
theorem dL_law_2488 : decode cL_law 2488 = .ok (.iaload, 1) := by decide +kernel
theorem dL_law_2489 : decode cL_law 2489 = .ok (.aload_n 0, 1) := by decide +kernel
theorem dL_law_2490 : decode cL_law 2490 = .ok (.iload 4, 2) := by decide +kernel
theorem dL_law_2492 : decode cL_law 2492 = .ok (.iconst 2, 1) := by decide +kernel
theorem dL_law_2493 : decode cL_law 2493 = .ok (.iadd, 1) := by decide +kernel
theorem dL_law_2494 : decode cL_law 2494 = .ok (.iaload, 1) := by decide +kernel
theorem dL_law_2495 : decode cL_law 2495 = .ok (.aload_n 0, 1) := by decide +kernel
theorem dL_law_2496 : decode cL_law 2496 = .ok (.iload 4, 2) := by decide +kernel
theorem dL_law_2498 : decode cL_law 2498 = .ok (.iconst 3, 1) := by decide +kernel
theorem dL_law_2499 : decode cL_law 2499 = .ok (.iadd, 1) := by decide +kernel
theorem dL_law_2500 : decode cL_law 2500 = .ok (.iaload, 1) := by decide +kernel
theorem dL_law_2501 : decode cL_law 2501 = .ok (.aload_n 0, 1) := by decide +kernel
theorem dL_law_2502 : decode cL_law 2502 = .ok (.iload 4, 2) := by decide +kernel
theorem dL_law_2504 : decode cL_law 2504 = .ok (.iconst 4, 1) := by decide +kernel
theorem dL_law_2505 : decode cL_law 2505 = .ok (.iadd, 1) := by decide +kernel
theorem dL_law_2506 : decode cL_law 2506 = .ok (.iaload, 1) := by decide +kernel
theorem dL_law_2507 : decode cL_law 2507 = .ok (.invokevirtual 209, 3) := by decide +kernel
theorem dL_law_2510 : decode cL_law 2510 = .ok (.aload_n 2, 1) := by decide +kernel
theorem dL_law_2511 : decode cL_law 2511 = .ok (.aload_n 0, 1) := by decide +kernel
theorem dL_law_2512 : decode cL_law 2512 = .ok (.iload 4, 2) := by decide +kernel
theorem dL_law_2514 : decode cL_law 2514 = .ok (.iconst 1, 1) := by decide +kernel
theorem dL_law_2515 : decode cL_law 2515 = .ok (.iadd, 1) := by decide +kernel
theorem dL_law_2516 : decode cL_law 2516 = .ok (.iaload, 1) := by decide +kernel
theorem dL_law_2517 : decode cL_law 2517 = .ok (.aload_n 0, 1) := by decide +kernel
theorem dL_law_2518 : decode cL_law 2518 = .ok (.iload 4, 2) := by decide +kernel
theorem dL_law_2520 : decode cL_law 2520 = .ok (.iconst 2, 1) := by decide +kernel
theorem dL_law_2521 : decode cL_law 2521 = .ok (.iadd, 1) := by decide +kernel
theorem dL_law_2522 : decode cL_law 2522 = .ok (.iaload, 1) := by decide +kernel
theorem dL_law_2523 : decode cL_law 2523 = .ok (.aload_n 0, 1) := by decide +kernel
theorem dL_law_2524 : decode cL_law 2524 = .ok (.iload 4, 2) := by decide +kernel
theorem dL_law_2526 : decode cL_law 2526 = .ok (.iconst 3, 1) := by decide +kernel
theorem dL_law_2527 : decode cL_law 2527 = .ok (.iadd, 1) := by decide +kernel
theorem dL_law_2528 : decode cL_law 2528 = .ok (.iaload, 1) := by decide +kernel
theorem dL_law_2529 : decode cL_law 2529 = .ok (.aload_n 0, 1) := by decide +kernel
theorem dL_law_2530 : decode cL_law 2530 = .ok (.iload 4, 2) := by decide +kernel
theorem dL_law_2532 : decode cL_law 2532 = .ok (.iconst 4, 1) := by decide +kernel
theorem dL_law_2533 : decode cL_law 2533 = .ok (.iadd, 1) := by decide +kernel
theorem dL_law_2534 : decode cL_law 2534 = .ok (.iaload, 1) := by decide +kernel
theorem dL_law_2535 : decode cL_law 2535 = .ok (.invokevirtual 212, 3) := by decide +kernel
theorem dL_law_2538 : decode cL_law 2538 = .ok (.if_icmp .eq 30, 3) := by decide +kernel
theorem dL_law_2541 : decode cL_law 2541 = .ok (.iconst 0, 1) := by decide +kernel
theorem dL_law_2542 : decode cL_law 2542 = .ok (.ireturn, 1) := by decide +kernel
theorem dL_law_2543 : decode cL_law 2543 = .ok (.aload_n 1, 1) := by decide +kernel
theorem dL_law_2544 : decode cL_law 2544 = .ok (.aload_n 0, 1) := by decide +kernel
theorem dL_law_2545 : decode cL_law 2545 = .ok (.iload 4, 2) := by decide +kernel
theorem dL_law_2547 : decode cL_law 2547 = .ok (.iconst 1, 1) := by decide +kernel
theorem dL_law_2548 : decode cL_law 2548 = .ok (.iadd, 1) := by decide +kernel
theorem dL_law_2549 : decode cL_law 2549 = .ok (.iaload, 1) := by decide +kernel
theorem dL_law_2550 : decode cL_law 2550 = .ok (.invokevirtual 213, 3) := by decide +kernel
theorem dL_law_2553 : decode cL_law 2553 = .ok (.aload_n 2, 1) := by decide +kernel
theorem dL_law_2554 : decode cL_law 2554 = .ok (.aload_n 0, 1) := by decide +kernel
theorem dL_law_2555 : decode cL_law 2555 = .ok (.iload 4, 2) := by decide +kernel
theorem dL_law_2557 : decode cL_law 2557 = .ok (.iconst 1, 1) := by decide +kernel
theorem dL_law_2558 : decode cL_law 2558 = .ok (.iadd, 1) := by decide +kernel
theorem dL_law_2559 : decode cL_law 2559 = .ok (.iaload, 1) := by decide +kernel
theorem dL_law_2560 : decode cL_law 2560 = .ok (.invokevirtual 216, 3) := by decide +kernel
theorem dL_law_2563 : decode cL_law 2563 = .ok (.if_icmp .eq 5, 3) := by decide +kernel
theorem dL_law_2566 : decode cL_law 2566 = .ok (.iconst 0, 1) := by decide +kernel
theorem dL_law_2567 : decode cL_law 2567 = .ok (.ireturn, 1) := by decide +kernel
theorem dL_law_2568 : decode cL_law 2568 = .ok (.iinc 4 8, 3) := by decide +kernel
theorem dL_law_2571 : decode cL_law 2571 = .ok (.goto (-2548), 3) := by decide +kernel
theorem dL_law_2574 : decode cL_law 2574 = .ok (.iconst 1, 1) := by decide +kernel
theorem dL_law_2575 : decode cL_law 2575 = .ok (.ireturn, 1) := by decide +kernel
