theorem dX0_init_0 : decode cX0_init 0 = .ok (.aload_n 0, 1) := by decide +kernel
theorem dX0_init_1 : decode cX0_init 1 = .ok (.invokespecial 3, 3) := by decide +kernel
theorem dX0_init_4 : decode cX0_init 4 = .ok (.aload_n 0, 1) := by decide +kernel
theorem dX0_init_5 : decode cX0_init 5 = .ok (.iconst 4, 1) := by decide +kernel
theorem dX0_init_6 : decode cX0_init 6 = .ok (.anewarray 11, 3) := by decide +kernel
theorem dX0_init_9 : decode cX0_init 9 = .ok (.putfield 13, 3) := by decide +kernel
theorem dX0_init_12 : decode cX0_init 12 = .ok (.aload_n 0, 1) := by decide +kernel
theorem dX0_init_13 : decode cX0_init 13 = .ok (.iconst 0, 1) := by decide +kernel
theorem dX0_init_14 : decode cX0_init 14 = .ok (.newarray .int, 2) := by decide +kernel
theorem dX0_init_16 : decode cX0_init 16 = .ok (.putfield 17, 3) := by decide +kernel
theorem dX0_init_19 : decode cX0_init 19 = .ok (.return_, 1) := by decide +kernel
theorem dX0_readFrom_0 : decode cX0_readFrom 0 = .ok (.new 9, 3) := by decide +kernel
theorem dX0_readFrom_3 : decode cX0_readFrom 3 = .ok (.dup, 1) := by decide +kernel
theorem dX0_readFrom_4 : decode cX0_readFrom 4 = .ok (.invokespecial 21, 3) := by decide +kernel
theorem dX0_readFrom_7 : decode cX0_readFrom 7 = .ok (.astore_n 1, 1) := by decide +kernel
theorem dX0_readFrom_8 : decode cX0_readFrom 8 = .ok (.aload_n 1, 1) := by decide +kernel
theorem dX0_readFrom_9 : decode cX0_readFrom 9 = .ok (.aload_n 0, 1) := by decide +kernel
theorem dX0_readFrom_10 : decode cX0_readFrom 10 = .ok (.iconst 0, 1) := by decide +kernel
theorem dX0_readFrom_11 : decode cX0_readFrom 11 = .ok (.bipush 9, 2) := by decide +kernel
theorem dX0_readFrom_13 : decode cX0_readFrom 13 = .ok (.invokevirtual 22, 3) := by decide +kernel
theorem dX0_readFrom_16 : decode cX0_readFrom 16 = .ok (.putfield 28, 3) := by decide +kernel
theorem dX0_readFrom_19 : decode cX0_readFrom 19 = .ok (.aload_n 0, 1) := by decide +kernel
theorem dX0_readFrom_20 : decode cX0_readFrom 20 = .ok (.bipush 58, 2) := by decide +kernel
theorem dX0_readFrom_22 : decode cX0_readFrom 22 = .ok (.invokevirtual 32, 3) := by decide +kernel
theorem dX0_readFrom_25 : decode cX0_readFrom 25 = .ok (.new 11, 3) := by decide +kernel
theorem dX0_readFrom_28 : decode cX0_readFrom 28 = .ok (.dup, 1) := by decide +kernel
theorem dX0_readFrom_29 : decode cX0_readFrom 29 = .ok (.invokespecial 36, 3) := by decide +kernel
theorem dX0_readFrom_32 : decode cX0_readFrom 32 = .ok (.astore_n 2, 1) := by decide +kernel
theorem dX0_readFrom_33 : decode cX0_readFrom 33 = .ok (.aload_n 2, 1) := by decide +kernel
theorem dX0_readFrom_34 : decode cX0_readFrom 34 = .ok (.aload_n 0, 1) := by decide +kernel
theorem dX0_readFrom_35 : decode cX0_readFrom 35 = .ok (.invokevirtual 37, 3) := by decide +kernel
theorem dX0_readFrom_38 : decode cX0_readFrom 38 = .ok (.aload_n 1, 1) := by decide +kernel
theorem dX0_readFrom_39 : decode cX0_readFrom 39 = .ok (.aload_n 2, 1) := by decide +kernel
theorem dX0_readFrom_40 : decode cX0_readFrom 40 = .ok (.invokevirtual 41, 3) := by decide +kernel
theorem dX0_readFrom_43 : decode cX0_readFrom 43 = .ok (.iconst 0, 1) := by decide +kernel
theorem dX0_readFrom_44 : decode cX0_readFrom 44 = .ok (.istore_n 3, 1) := by decide +kernel
theorem dX0_readFrom_45 : decode cX0_readFrom 45 = .ok (.iload_n 3, 1) := by decide +kernel
theorem dX0_readFrom_46 : decode cX0_readFrom 46 = .ok (.iconst 3, 1) := by decide +kernel
theorem dX0_readFrom_47 : decode cX0_readFrom 47 = .ok (.if_icmp .ge 29, 3) := by decide +kernel
theorem dX0_readFrom_50 : decode cX0_readFrom 50 = .ok (.aload_n 0, 1) := by decide +kernel
theorem dX0_readFrom_51 : decode cX0_readFrom 51 = .ok (.bipush 64, 2) := by decide +kernel
theorem dX0_readFrom_53 : decode cX0_readFrom 53 = .ok (.invokevirtual 45, 3) := by decide +kernel
theorem dX0_readFrom_56 : decode cX0_readFrom 56 = .ok (.ifCond .eq 20, 3) := by decide +kernel
theorem dX0_readFrom_59 : decode cX0_readFrom 59 = .ok (.aload_n 0, 1) := by decide +kernel
theorem dX0_readFrom_60 : decode cX0_readFrom 60 = .ok (.aload_n 2, 1) := by decide +kernel
theorem dX0_readFrom_61 : decode cX0_readFrom 61 = .ok (.invokestatic 49, 3) := by decide +kernel
theorem dX0_readFrom_64 : decode cX0_readFrom 64 = .ok (.astore_n 2, 1) := by decide +kernel
theorem dX0_readFrom_65 : decode cX0_readFrom 65 = .ok (.aload_n 1, 1) := by decide +kernel
theorem dX0_readFrom_66 : decode cX0_readFrom 66 = .ok (.aload_n 2, 1) := by decide +kernel
theorem dX0_readFrom_67 : decode cX0_readFrom 67 = .ok (.invokevirtual 41, 3) := by decide +kernel
theorem dX0_readFrom_70 : decode cX0_readFrom 70 = .ok (.iinc 3 1, 3) := by decide +kernel
theorem dX0_readFrom_73 : decode cX0_readFrom 73 = .ok (.goto (-28), 3) := by decide +kernel
theorem dX0_readFrom_76 : decode cX0_readFrom 76 = .ok (.aload_n 0, 1) := by decide +kernel
theorem dX0_readFrom_77 : decode cX0_readFrom 77 = .ok (.invokevirtual 53, 3) := by decide +kernel
theorem dX0_readFrom_80 : decode cX0_readFrom 80 = .ok (.aload_n 1, 1) := by decide +kernel
theorem dX0_readFrom_81 : decode cX0_readFrom 81 = .ok (.areturn, 1) := by decide +kernel
theorem dX0_add_0 : decode cX0_add 0 = .ok (.aload_n 0, 1) := by decide +kernel
theorem dX0_add_1 : decode cX0_add 1 = .ok (.getfield 56, 3) := by decide +kernel
theorem dX0_add_4 : decode cX0_add 4 = .ok (.aload_n 0, 1) := by decide +kernel
theorem dX0_add_5 : decode cX0_add 5 = .ok (.getfield 13, 3) := by decide +kernel
theorem dX0_add_8 : decode cX0_add 8 = .ok (.arraylength, 1) := by decide +kernel
theorem dX0_add_9 : decode cX0_add 9 = .ok (.if_icmp .ge 23, 3) := by decide +kernel
theorem dX0_add_12 : decode cX0_add 12 = .ok (.aload_n 0, 1) := by decide +kernel
theorem dX0_add_13 : decode cX0_add 13 = .ok (.getfield 13, 3) := by decide +kernel
theorem dX0_add_16 : decode cX0_add 16 = .ok (.aload_n 0, 1) := by decide +kernel
theorem dX0_add_17 : decode cX0_add 17 = .ok (.getfield 56, 3) := by decide +kernel
theorem dX0_add_20 : decode cX0_add 20 = .ok (.aload_n 1, 1) := by decide +kernel
theorem dX0_add_21 : decode cX0_add 21 = .ok (.aastore, 1) := by decide +kernel
theorem dX0_add_22 : decode cX0_add 22 = .ok (.aload_n 0, 1) := by decide +kernel
theorem dX0_add_23 : decode cX0_add 23 = .ok (.dup, 1) := by decide +kernel
theorem dX0_add_24 : decode cX0_add 24 = .ok (.getfield 56, 3) := by decide +kernel
theorem dX0_add_27 : decode cX0_add 27 = .ok (.iconst 1, 1) := by decide +kernel
theorem dX0_add_28 : decode cX0_add 28 = .ok (.iadd, 1) := by decide +kernel
theorem dX0_add_29 : decode cX0_add 29 = .ok (.putfield 56, 3) := by decide +kernel
theorem dX0_add_32 : decode cX0_add 32 = .ok (.return_, 1) := by decide +kernel
theorem dX0_readChange_0 : decode cX0_readChange 0 = .ok (.aload_n 0, 1) := by decide +kernel
theorem dX0_readChange_1 : decode cX0_readChange 1 = .ok (.iconst 1, 1) := by decide +kernel
theorem dX0_readChange_2 : decode cX0_readChange 2 = .ok (.sipush 9999, 3) := by decide +kernel
theorem dX0_readChange_5 : decode cX0_readChange 5 = .ok (.invokevirtual 22, 3) := by decide +kernel
theorem dX0_readChange_8 : decode cX0_readChange 8 = .ok (.istore_n 2, 1) := by decide +kernel
theorem dX0_readChange_9 : decode cX0_readChange 9 = .ok (.aload_n 0, 1) := by decide +kernel
theorem dX0_readChange_10 : decode cX0_readChange 10 = .ok (.bipush 46, 2) := by decide +kernel
theorem dX0_readChange_12 : decode cX0_readChange 12 = .ok (.invokevirtual 32, 3) := by decide +kernel
theorem dX0_readChange_15 : decode cX0_readChange 15 = .ok (.aload_n 0, 1) := by decide +kernel
theorem dX0_readChange_16 : decode cX0_readChange 16 = .ok (.iconst 1, 1) := by decide +kernel
theorem dX0_readChange_17 : decode cX0_readChange 17 = .ok (.bipush 12, 2) := by decide +kernel
theorem dX0_readChange_19 : decode cX0_readChange 19 = .ok (.invokevirtual 22, 3) := by decide +kernel
theorem dX0_readChange_22 : decode cX0_readChange 22 = .ok (.istore_n 3, 1) := by decide +kernel
theorem dX0_readChange_23 : decode cX0_readChange 23 = .ok (.aload_n 0, 1) := by decide +kernel
theorem dX0_readChange_24 : decode cX0_readChange 24 = .ok (.bipush 46, 2) := by decide +kernel
theorem dX0_readChange_26 : decode cX0_readChange 26 = .ok (.invokevirtual 32, 3) := by decide +kernel
theorem dX0_readChange_29 : decode cX0_readChange 29 = .ok (.aload_n 0, 1) := by decide +kernel
theorem dX0_readChange_30 : decode cX0_readChange 30 = .ok (.iconst 1, 1) := by decide +kernel
theorem dX0_readChange_31 : decode cX0_readChange 31 = .ok (.bipush 31, 2) := by decide +kernel
theorem dX0_readChange_33 : decode cX0_readChange 33 = .ok (.invokevirtual 22, 3) := by decide +kernel
theorem dX0_readChange_36 : decode cX0_readChange 36 = .ok (.istore 4, 2) := by decide +kernel
theorem dX0_readChange_38 : decode cX0_readChange 38 = .ok (.aload_n 1, 1) := by decide +kernel
theorem dX0_readChange_39 : decode cX0_readChange 39 = .ok (.iload_n 2, 1) := by decide +kernel
theorem dX0_readChange_40 : decode cX0_readChange 40 = .ok (.iload_n 3, 1) := by decide +kernel
theorem dX0_readChange_41 : decode cX0_readChange 41 = .ok (.iload 4, 2) := by decide +kernel
theorem dX0_readChange_43 : decode cX0_readChange 43 = .ok (.invokevirtual 59, 3) := by decide +kernel
theorem dX0_readChange_46 : decode cX0_readChange 46 = .ok (.ifCond .ne 7, 3) := by decide +kernel
theorem dX0_readChange_49 : decode cX0_readChange 49 = .ok (.aload_n 0, 1) := by decide +kernel
theorem dX0_readChange_50 : decode cX0_readChange 50 = .ok (.invokevirtual 63, 3) := by decide +kernel
theorem dX0_readChange_53 : decode cX0_readChange 53 = .ok (.aload_n 0, 1) := by decide +kernel
theorem dX0_readChange_54 : decode cX0_readChange 54 = .ok (.bipush 45, 2) := by decide +kernel
theorem dX0_readChange_56 : decode cX0_readChange 56 = .ok (.invokevirtual 32, 3) := by decide +kernel
theorem dX0_readChange_59 : decode cX0_readChange 59 = .ok (.aload_n 0, 1) := by decide +kernel
theorem dX0_readChange_60 : decode cX0_readChange 60 = .ok (.iconst 0, 1) := by decide +kernel
theorem dX0_readChange_61 : decode cX0_readChange 61 = .ok (.bipush 30, 2) := by decide +kernel
theorem dX0_readChange_63 : decode cX0_readChange 63 = .ok (.invokevirtual 22, 3) := by decide +kernel
theorem dX0_readChange_66 : decode cX0_readChange 66 = .ok (.istore 5, 2) := by decide +kernel
theorem dX0_readChange_68 : decode cX0_readChange 68 = .ok (.aload_n 0, 1) := by decide +kernel
theorem dX0_readChange_69 : decode cX0_readChange 69 = .ok (.bipush 58, 2) := by decide +kernel
theorem dX0_readChange_71 : decode cX0_readChange 71 = .ok (.invokevirtual 32, 3) := by decide +kernel
theorem dX0_readChange_74 : decode cX0_readChange 74 = .ok (.new 11, 3) := by decide +kernel
theorem dX0_readChange_77 : decode cX0_readChange 77 = .ok (.dup, 1) := by decide +kernel
theorem dX0_readChange_78 : decode cX0_readChange 78 = .ok (.invokespecial 36, 3) := by decide +kernel
theorem dX0_readChange_81 : decode cX0_readChange 81 = .ok (.astore 6, 2) := by decide +kernel
theorem dX0_readChange_83 : decode cX0_readChange 83 = .ok (.aload 6, 2) := by decide +kernel
theorem dX0_readChange_85 : decode cX0_readChange 85 = .ok (.aload_n 0, 1) := by decide +kernel
theorem dX0_readChange_86 : decode cX0_readChange 86 = .ok (.invokevirtual 37, 3) := by decide +kernel
theorem dX0_readChange_89 : decode cX0_readChange 89 = .ok (.aload_n 1, 1) := by decide +kernel
theorem dX0_readChange_90 : decode cX0_readChange 90 = .ok (.iload_n 2, 1) := by decide +kernel
theorem dX0_readChange_91 : decode cX0_readChange 91 = .ok (.iload_n 3, 1) := by decide +kernel
theorem dX0_readChange_92 : decode cX0_readChange 92 = .ok (.iload 4, 2) := by decide +kernel
theorem dX0_readChange_94 : decode cX0_readChange 94 = .ok (.invokestatic 66, 3) := by decide +kernel
theorem dX0_readChange_97 : decode cX0_readChange 97 = .ok (.putfield 70, 3) := by decide +kernel
theorem dX0_readChange_100 : decode cX0_readChange 100 = .ok (.aload 6, 2) := by decide +kernel
theorem dX0_readChange_102 : decode cX0_readChange 102 = .ok (.aload_n 1, 1) := by decide +kernel
theorem dX0_readChange_103 : decode cX0_readChange 103 = .ok (.getfield 70, 3) := by decide +kernel
theorem dX0_readChange_106 : decode cX0_readChange 106 = .ok (.iload 5, 2) := by decide +kernel
theorem dX0_readChange_108 : decode cX0_readChange 108 = .ok (.invokevirtual 73, 3) := by decide +kernel
theorem dX0_readChange_111 : decode cX0_readChange 111 = .ok (.aload 6, 2) := by decide +kernel
theorem dX0_readChange_113 : decode cX0_readChange 113 = .ok (.areturn, 1) := by decide +kernel
theorem dX0_lay_0 : decode cX0_lay 0 = .ok (.aload_n 0, 1) := by decide +kernel
theorem dX0_lay_1 : decode cX0_lay 1 = .ok (.getfield 28, 3) := by decide +kernel
theorem dX0_lay_4 : decode cX0_lay 4 = .ok (.istore_n 1, 1) := by decide +kernel
theorem dX0_lay_5 : decode cX0_lay 5 = .ok (.iconst 0, 1) := by decide +kernel
theorem dX0_lay_6 : decode cX0_lay 6 = .ok (.istore_n 2, 1) := by decide +kernel
theorem dX0_lay_7 : decode cX0_lay 7 = .ok (.iload_n 2, 1) := by decide +kernel
theorem dX0_lay_8 : decode cX0_lay 8 = .ok (.aload_n 0, 1) := by decide +kernel
theorem dX0_lay_9 : decode cX0_lay 9 = .ok (.getfield 56, 3) := by decide +kernel
theorem dX0_lay_12 : decode cX0_lay 12 = .ok (.if_icmp .ge 31, 3) := by decide +kernel
theorem dX0_lay_15 : decode cX0_lay 15 = .ok (.aload_n 0, 1) := by decide +kernel
theorem dX0_lay_16 : decode cX0_lay 16 = .ok (.getfield 13, 3) := by decide +kernel
theorem dX0_lay_19 : decode cX0_lay 19 = .ok (.iload_n 2, 1) := by decide +kernel
theorem dX0_lay_20 : decode cX0_lay 20 = .ok (.aaload, 1) := by decide +kernel
theorem dX0_lay_21 : decode cX0_lay 21 = .ok (.iload_n 1, 1) := by decide +kernel
theorem dX0_lay_22 : decode cX0_lay 22 = .ok (.invokevirtual 77, 3) := by decide +kernel
theorem dX0_lay_25 : decode cX0_lay 25 = .ok (.aload_n 0, 1) := by decide +kernel
theorem dX0_lay_26 : decode cX0_lay 26 = .ok (.getfield 13, 3) := by decide +kernel
theorem dX0_lay_29 : decode cX0_lay 29 = .ok (.iload_n 2, 1) := by decide +kernel
theorem dX0_lay_30 : decode cX0_lay 30 = .ok (.aaload, 1) := by decide +kernel
theorem dX0_lay_31 : decode cX0_lay 31 = .ok (.getfield 80, 3) := by decide +kernel
theorem dX0_lay_34 : decode cX0_lay 34 = .ok (.iconst 1, 1) := by decide +kernel
theorem dX0_lay_35 : decode cX0_lay 35 = .ok (.iadd, 1) := by decide +kernel
theorem dX0_lay_36 : decode cX0_lay 36 = .ok (.istore_n 1, 1) := by decide +kernel
theorem dX0_lay_37 : decode cX0_lay 37 = .ok (.iinc 2 1, 3) := by decide +kernel
theorem dX0_lay_40 : decode cX0_lay 40 = .ok (.goto (-33), 3) := by decide +kernel
theorem dX0_lay_43 : decode cX0_lay 43 = .ok (.aload_n 0, 1) := by decide +kernel
theorem dX0_lay_44 : decode cX0_lay 44 = .ok (.sipush 10000, 3) := by decide +kernel
theorem dX0_lay_47 : decode cX0_lay 47 = .ok (.newarray .int, 2) := by decide +kernel
theorem dX0_lay_49 : decode cX0_lay 49 = .ok (.putfield 17, 3) := by decide +kernel
theorem dX0_lay_52 : decode cX0_lay 52 = .ok (.iconst 1, 1) := by decide +kernel
theorem dX0_lay_53 : decode cX0_lay 53 = .ok (.istore_n 2, 1) := by decide +kernel
theorem dX0_lay_54 : decode cX0_lay 54 = .ok (.iload_n 2, 1) := by decide +kernel
theorem dX0_lay_55 : decode cX0_lay 55 = .ok (.sipush 9999, 3) := by decide +kernel
theorem dX0_lay_58 : decode cX0_lay 58 = .ok (.if_icmp .gt 86, 3) := by decide +kernel
theorem dX0_lay_61 : decode cX0_lay 61 = .ok (.aload_n 0, 1) := by decide +kernel
theorem dX0_lay_62 : decode cX0_lay 62 = .ok (.iload_n 2, 1) := by decide +kernel
theorem dX0_lay_63 : decode cX0_lay 63 = .ok (.iconst 1, 1) := by decide +kernel
theorem dX0_lay_64 : decode cX0_lay 64 = .ok (.iconst 1, 1) := by decide +kernel
theorem dX0_lay_65 : decode cX0_lay 65 = .ok (.invokevirtual 83, 3) := by decide +kernel
theorem dX0_lay_68 : decode cX0_lay 68 = .ok (.istore_n 3, 1) := by decide +kernel
theorem dX0_lay_69 : decode cX0_lay 69 = .ok (.aload_n 0, 1) := by decide +kernel
theorem dX0_lay_70 : decode cX0_lay 70 = .ok (.iload_n 2, 1) := by decide +kernel
theorem dX0_lay_71 : decode cX0_lay 71 = .ok (.bipush 12, 2) := by decide +kernel
theorem dX0_lay_73 : decode cX0_lay 73 = .ok (.bipush 31, 2) := by decide +kernel
theorem dX0_lay_75 : decode cX0_lay 75 = .ok (.invokevirtual 83, 3) := by decide +kernel
theorem dX0_lay_78 : decode cX0_lay 78 = .ok (.iload_n 3, 1) := by decide +kernel
theorem dX0_lay_79 : decode cX0_lay 79 = .ok (.isub, 1) := by decide +kernel
theorem dX0_lay_80 : decode cX0_lay 80 = .ok (.istore 4, 2) := by decide +kernel
theorem dX0_lay_82 : decode cX0_lay 82 = .ok (.iload_n 3, 1) := by decide +kernel
theorem dX0_lay_83 : decode cX0_lay 83 = .ok (.iconst (-1), 1) := by decide +kernel
theorem dX0_lay_84 : decode cX0_lay 84 = .ok (.if_icmp .eq 23, 3) := by decide +kernel
theorem dX0_lay_87 : decode cX0_lay 87 = .ok (.iload 4, 2) := by decide +kernel
theorem dX0_lay_89 : decode cX0_lay 89 = .ok (.sipush 364, 3) := by decide +kernel
theorem dX0_lay_92 : decode cX0_lay 92 = .ok (.if_icmp .eq 11, 3) := by decide +kernel
theorem dX0_lay_95 : decode cX0_lay 95 = .ok (.iload 4, 2) := by decide +kernel
theorem dX0_lay_97 : decode cX0_lay 97 = .ok (.sipush 365, 3) := by decide +kernel
theorem dX0_lay_100 : decode cX0_lay 100 = .ok (.if_icmp .ne 7, 3) := by decide +kernel
theorem dX0_lay_103 : decode cX0_lay 103 = .ok (.iconst 1, 1) := by decide +kernel
theorem dX0_lay_104 : decode cX0_lay 104 = .ok (.goto 4, 3) := by decide +kernel
theorem dX0_lay_107 : decode cX0_lay 107 = .ok (.iconst 0, 1) := by decide +kernel
theorem dX0_lay_108 : decode cX0_lay 108 = .ok (.istore 5, 2) := by decide +kernel
theorem dX0_lay_110 : decode cX0_lay 110 = .ok (.aload_n 0, 1) := by decide +kernel
theorem dX0_lay_111 : decode cX0_lay 111 = .ok (.getfield 17, 3) := by decide +kernel
theorem dX0_lay_114 : decode cX0_lay 114 = .ok (.iload_n 2, 1) := by decide +kernel
theorem dX0_lay_115 : decode cX0_lay 115 = .ok (.iload 5, 2) := by decide +kernel
theorem dX0_lay_117 : decode cX0_lay 117 = .ok (.ifCond .eq 19, 3) := by decide +kernel
theorem dX0_lay_120 : decode cX0_lay 120 = .ok (.iconst 2, 1) := by decide +kernel
theorem dX0_lay_121 : decode cX0_lay 121 = .ok (.iload_n 3, 1) := by decide +kernel
theorem dX0_lay_122 : decode cX0_lay 122 = .ok (.bipush 7, 2) := by decide +kernel
theorem dX0_lay_124 : decode cX0_lay 124 = .ok (.irem, 1) := by decide +kernel
theorem dX0_lay_125 : decode cX0_lay 125 = .ok (.imul, 1) := by decide +kernel
theorem dX0_lay_126 : decode cX0_lay 126 = .ok (.iload 4, 2) := by decide +kernel
theorem dX0_lay_128 : decode cX0_lay 128 = .ok (.sipush 364, 3) := by decide +kernel
theorem dX0_lay_131 : decode cX0_lay 131 = .ok (.isub, 1) := by decide +kernel
theorem dX0_lay_132 : decode cX0_lay 132 = .ok (.iadd, 1) := by decide +kernel
theorem dX0_lay_133 : decode cX0_lay 133 = .ok (.goto 4, 3) := by decide +kernel
theorem dX0_lay_136 : decode cX0_lay 136 = .ok (.iconst (-1), 1) := by decide +kernel
theorem dX0_lay_137 : decode cX0_lay 137 = .ok (.iastore, 1) := by decide +kernel
theorem dX0_lay_138 : decode cX0_lay 138 = .ok (.iinc 2 1, 3) := by decide +kernel
theorem dX0_lay_141 : decode cX0_lay 141 = .ok (.goto (-87), 3) := by decide +kernel
theorem dX0_lay_144 : decode cX0_lay 144 = .ok (.return_, 1) := by decide +kernel
theorem dX0_kindOf_0 : decode cX0_kindOf 0 = .ok (.iload_n 1, 1) := by decide +kernel
theorem dX0_kindOf_1 : decode cX0_kindOf 1 = .ok (.iconst 1, 1) := by decide +kernel
theorem dX0_kindOf_2 : decode cX0_kindOf 2 = .ok (.if_icmp .lt 21, 3) := by decide +kernel
theorem dX0_kindOf_5 : decode cX0_kindOf 5 = .ok (.iload_n 1, 1) := by decide +kernel
theorem dX0_kindOf_6 : decode cX0_kindOf 6 = .ok (.aload_n 0, 1) := by decide +kernel
theorem dX0_kindOf_7 : decode cX0_kindOf 7 = .ok (.getfield 17, 3) := by decide +kernel
theorem dX0_kindOf_10 : decode cX0_kindOf 10 = .ok (.arraylength, 1) := by decide +kernel
theorem dX0_kindOf_11 : decode cX0_kindOf 11 = .ok (.if_icmp .ge 12, 3) := by decide +kernel
theorem dX0_kindOf_14 : decode cX0_kindOf 14 = .ok (.aload_n 0, 1) := by decide +kernel
theorem dX0_kindOf_15 : decode cX0_kindOf 15 = .ok (.getfield 17, 3) := by decide +kernel
theorem dX0_kindOf_18 : decode cX0_kindOf 18 = .ok (.iload_n 1, 1) := by decide +kernel
theorem dX0_kindOf_19 : decode cX0_kindOf 19 = .ok (.iaload, 1) := by decide +kernel
theorem dX0_kindOf_20 : decode cX0_kindOf 20 = .ok (.goto 4, 3) := by decide +kernel
theorem dX0_kindOf_23 : decode cX0_kindOf 23 = .ok (.iconst (-1), 1) := by decide +kernel
theorem dX0_kindOf_24 : decode cX0_kindOf 24 = .ok (.ireturn, 1) := by decide +kernel
theorem dX0_areLike_0 : decode cX0_areLike 0 = .ok (.aload_n 0, 1) := by decide +kernel
theorem dX0_areLike_1 : decode cX0_areLike 1 = .ok (.iload_n 1, 1) := by decide +kernel
theorem dX0_areLike_2 : decode cX0_areLike 2 = .ok (.invokevirtual 86, 3) := by decide +kernel
theorem dX0_areLike_5 : decode cX0_areLike 5 = .ok (.iconst (-1), 1) := by decide +kernel
theorem dX0_areLike_6 : decode cX0_areLike 6 = .ok (.if_icmp .eq 20, 3) := by decide +kernel
theorem dX0_areLike_9 : decode cX0_areLike 9 = .ok (.aload_n 0, 1) := by decide +kernel
theorem dX0_areLike_10 : decode cX0_areLike 10 = .ok (.iload_n 1, 1) := by decide +kernel
theorem dX0_areLike_11 : decode cX0_areLike 11 = .ok (.invokevirtual 86, 3) := by decide +kernel
theorem dX0_areLike_14 : decode cX0_areLike 14 = .ok (.aload_n 0, 1) := by decide +kernel
theorem dX0_areLike_15 : decode cX0_areLike 15 = .ok (.iload_n 2, 1) := by decide +kernel
theorem dX0_areLike_16 : decode cX0_areLike 16 = .ok (.invokevirtual 86, 3) := by decide +kernel
theorem dX0_areLike_19 : decode cX0_areLike 19 = .ok (.if_icmp .ne 7, 3) := by decide +kernel
theorem dX0_areLike_22 : decode cX0_areLike 22 = .ok (.iconst 1, 1) := by decide +kernel
theorem dX0_areLike_23 : decode cX0_areLike 23 = .ok (.goto 4, 3) := by decide +kernel
theorem dX0_areLike_26 : decode cX0_areLike 26 = .ok (.iconst 0, 1) := by decide +kernel
theorem dX0_areLike_27 : decode cX0_areLike 27 = .ok (.ireturn, 1) := by decide +kernel
theorem dX0_dayOn_0 : decode cX0_dayOn 0 = .ok (.iload_n 1, 1) := by decide +kernel
theorem dX0_dayOn_1 : decode cX0_dayOn 1 = .ok (.iload_n 2, 1) := by decide +kernel
theorem dX0_dayOn_2 : decode cX0_dayOn 2 = .ok (.iload_n 3, 1) := by decide +kernel
theorem dX0_dayOn_3 : decode cX0_dayOn 3 = .ok (.invokestatic 90, 3) := by decide +kernel
theorem dX0_dayOn_6 : decode cX0_dayOn 6 = .ok (.ifCond .ne 5, 3) := by decide +kernel
theorem dX0_dayOn_9 : decode cX0_dayOn 9 = .ok (.iconst (-1), 1) := by decide +kernel
theorem dX0_dayOn_10 : decode cX0_dayOn 10 = .ok (.ireturn, 1) := by decide +kernel
theorem dX0_dayOn_11 : decode cX0_dayOn 11 = .ok (.iconst (-1), 1) := by decide +kernel
theorem dX0_dayOn_12 : decode cX0_dayOn 12 = .ok (.istore 4, 2) := by decide +kernel
theorem dX0_dayOn_14 : decode cX0_dayOn 14 = .ok (.iconst 0, 1) := by decide +kernel
theorem dX0_dayOn_15 : decode cX0_dayOn 15 = .ok (.istore 5, 2) := by decide +kernel
theorem dX0_dayOn_17 : decode cX0_dayOn 17 = .ok (.iload 5, 2) := by decide +kernel
theorem dX0_dayOn_19 : decode cX0_dayOn 19 = .ok (.aload_n 0, 1) := by decide +kernel
theorem dX0_dayOn_20 : decode cX0_dayOn 20 = .ok (.getfield 56, 3) := by decide +kernel
theorem dX0_dayOn_23 : decode cX0_dayOn 23 = .ok (.if_icmp .ge 33, 3) := by decide +kernel
theorem dX0_dayOn_26 : decode cX0_dayOn 26 = .ok (.iload 4, 2) := by decide +kernel
theorem dX0_dayOn_28 : decode cX0_dayOn 28 = .ok (.iconst (-1), 1) := by decide +kernel
theorem dX0_dayOn_29 : decode cX0_dayOn 29 = .ok (.if_icmp .ne 27, 3) := by decide +kernel
theorem dX0_dayOn_32 : decode cX0_dayOn 32 = .ok (.aload_n 0, 1) := by decide +kernel
theorem dX0_dayOn_33 : decode cX0_dayOn 33 = .ok (.getfield 13, 3) := by decide +kernel
theorem dX0_dayOn_36 : decode cX0_dayOn 36 = .ok (.iload 5, 2) := by decide +kernel
theorem dX0_dayOn_38 : decode cX0_dayOn 38 = .ok (.aaload, 1) := by decide +kernel
theorem dX0_dayOn_39 : decode cX0_dayOn 39 = .ok (.iload_n 1, 1) := by decide +kernel
theorem dX0_dayOn_40 : decode cX0_dayOn 40 = .ok (.iload_n 2, 1) := by decide +kernel
theorem dX0_dayOn_41 : decode cX0_dayOn 41 = .ok (.iload_n 3, 1) := by decide +kernel
theorem dX0_dayOn_42 : decode cX0_dayOn 42 = .ok (.invokestatic 66, 3) := by decide +kernel
theorem dX0_dayOn_45 : decode cX0_dayOn 45 = .ok (.invokevirtual 93, 3) := by decide +kernel
theorem dX0_dayOn_48 : decode cX0_dayOn 48 = .ok (.istore 4, 2) := by decide +kernel
theorem dX0_dayOn_50 : decode cX0_dayOn 50 = .ok (.iinc 5 1, 3) := by decide +kernel
theorem dX0_dayOn_53 : decode cX0_dayOn 53 = .ok (.goto (-36), 3) := by decide +kernel
theorem dX0_dayOn_56 : decode cX0_dayOn 56 = .ok (.iload 4, 2) := by decide +kernel
theorem dX0_dayOn_58 : decode cX0_dayOn 58 = .ok (.ireturn, 1) := by decide +kernel
theorem dX0_keyOn_0 : decode cX0_keyOn 0 = .ok (.iconst (-1), 1) := by decide +kernel
theorem dX0_keyOn_1 : decode cX0_keyOn 1 = .ok (.istore_n 2, 1) := by decide +kernel
theorem dX0_keyOn_2 : decode cX0_keyOn 2 = .ok (.iconst 0, 1) := by decide +kernel
theorem dX0_keyOn_3 : decode cX0_keyOn 3 = .ok (.istore_n 3, 1) := by decide +kernel
theorem dX0_keyOn_4 : decode cX0_keyOn 4 = .ok (.iload_n 3, 1) := by decide +kernel
theorem dX0_keyOn_5 : decode cX0_keyOn 5 = .ok (.aload_n 0, 1) := by decide +kernel
theorem dX0_keyOn_6 : decode cX0_keyOn 6 = .ok (.getfield 56, 3) := by decide +kernel
theorem dX0_keyOn_9 : decode cX0_keyOn 9 = .ok (.if_icmp .ge 25, 3) := by decide +kernel
theorem dX0_keyOn_12 : decode cX0_keyOn 12 = .ok (.iload_n 2, 1) := by decide +kernel
theorem dX0_keyOn_13 : decode cX0_keyOn 13 = .ok (.iconst (-1), 1) := by decide +kernel
theorem dX0_keyOn_14 : decode cX0_keyOn 14 = .ok (.if_icmp .ne 20, 3) := by decide +kernel
theorem dX0_keyOn_17 : decode cX0_keyOn 17 = .ok (.aload_n 0, 1) := by decide +kernel
theorem dX0_keyOn_18 : decode cX0_keyOn 18 = .ok (.getfield 13, 3) := by decide +kernel
theorem dX0_keyOn_21 : decode cX0_keyOn 21 = .ok (.iload_n 3, 1) := by decide +kernel
theorem dX0_keyOn_22 : decode cX0_keyOn 22 = .ok (.aaload, 1) := by decide +kernel
theorem dX0_keyOn_23 : decode cX0_keyOn 23 = .ok (.iload_n 1, 1) := by decide +kernel
theorem dX0_keyOn_24 : decode cX0_keyOn 24 = .ok (.invokevirtual 95, 3) := by decide +kernel
theorem dX0_keyOn_27 : decode cX0_keyOn 27 = .ok (.istore_n 2, 1) := by decide +kernel
theorem dX0_keyOn_28 : decode cX0_keyOn 28 = .ok (.iinc 3 1, 3) := by decide +kernel
theorem dX0_keyOn_31 : decode cX0_keyOn 31 = .ok (.goto (-27), 3) := by decide +kernel
theorem dX0_keyOn_34 : decode cX0_keyOn 34 = .ok (.iload_n 2, 1) := by decide +kernel
theorem dX0_keyOn_35 : decode cX0_keyOn 35 = .ok (.ireturn, 1) := by decide +kernel
theorem dX0_datesIn_0 : decode cX0_datesIn 0 = .ok (.iconst 0, 1) := by decide +kernel
theorem dX0_datesIn_1 : decode cX0_datesIn 1 = .ok (.istore_n 3, 1) := by decide +kernel
theorem dX0_datesIn_2 : decode cX0_datesIn 2 = .ok (.iconst 0, 1) := by decide +kernel
theorem dX0_datesIn_3 : decode cX0_datesIn 3 = .ok (.istore 4, 2) := by decide +kernel
theorem dX0_datesIn_5 : decode cX0_datesIn 5 = .ok (.iload 4, 2) := by decide +kernel
theorem dX0_datesIn_7 : decode cX0_datesIn 7 = .ok (.aload_n 0, 1) := by decide +kernel
theorem dX0_datesIn_8 : decode cX0_datesIn 8 = .ok (.getfield 56, 3) := by decide +kernel
theorem dX0_datesIn_11 : decode cX0_datesIn 11 = .ok (.if_icmp .ge 24, 3) := by decide +kernel
theorem dX0_datesIn_14 : decode cX0_datesIn 14 = .ok (.iload_n 3, 1) := by decide +kernel
theorem dX0_datesIn_15 : decode cX0_datesIn 15 = .ok (.aload_n 0, 1) := by decide +kernel
theorem dX0_datesIn_16 : decode cX0_datesIn 16 = .ok (.getfield 13, 3) := by decide +kernel
theorem dX0_datesIn_19 : decode cX0_datesIn 19 = .ok (.iload 4, 2) := by decide +kernel
theorem dX0_datesIn_21 : decode cX0_datesIn 21 = .ok (.aaload, 1) := by decide +kernel
theorem dX0_datesIn_22 : decode cX0_datesIn 22 = .ok (.iload_n 1, 1) := by decide +kernel
theorem dX0_datesIn_23 : decode cX0_datesIn 23 = .ok (.iload_n 2, 1) := by decide +kernel
theorem dX0_datesIn_24 : decode cX0_datesIn 24 = .ok (.invokevirtual 98, 3) := by decide +kernel
theorem dX0_datesIn_27 : decode cX0_datesIn 27 = .ok (.iadd, 1) := by decide +kernel
theorem dX0_datesIn_28 : decode cX0_datesIn 28 = .ok (.istore_n 3, 1) := by decide +kernel
theorem dX0_datesIn_29 : decode cX0_datesIn 29 = .ok (.iinc 4 1, 3) := by decide +kernel
theorem dX0_datesIn_32 : decode cX0_datesIn 32 = .ok (.goto (-27), 3) := by decide +kernel
theorem dX0_datesIn_35 : decode cX0_datesIn 35 = .ok (.iload_n 3, 1) := by decide +kernel
theorem dX0_datesIn_36 : decode cX0_datesIn 36 = .ok (.ireturn, 1) := by decide +kernel
theorem dX0_areAlike_0 : decode cX0_areAlike 0 = .ok (.aload_n 0, 1) := by decide +kernel
theorem dX0_areAlike_1 : decode cX0_areAlike 1 = .ok (.iload_n 1, 1) := by decide +kernel
theorem dX0_areAlike_2 : decode cX0_areAlike 2 = .ok (.iload_n 2, 1) := by decide +kernel
theorem dX0_areAlike_3 : decode cX0_areAlike 3 = .ok (.iconst 1, 1) := by decide +kernel
theorem dX0_areAlike_4 : decode cX0_areAlike 4 = .ok (.invokevirtual 83, 3) := by decide +kernel
theorem dX0_areAlike_7 : decode cX0_areAlike 7 = .ok (.istore 4, 2) := by decide +kernel
theorem dX0_areAlike_9 : decode cX0_areAlike 9 = .ok (.aload_n 0, 1) := by decide +kernel
theorem dX0_areAlike_10 : decode cX0_areAlike 10 = .ok (.iload_n 1, 1) := by decide +kernel
theorem dX0_areAlike_11 : decode cX0_areAlike 11 = .ok (.iload_n 3, 1) := by decide +kernel
theorem dX0_areAlike_12 : decode cX0_areAlike 12 = .ok (.iconst 1, 1) := by decide +kernel
theorem dX0_areAlike_13 : decode cX0_areAlike 13 = .ok (.invokevirtual 83, 3) := by decide +kernel
theorem dX0_areAlike_16 : decode cX0_areAlike 16 = .ok (.istore 5, 2) := by decide +kernel
theorem dX0_areAlike_18 : decode cX0_areAlike 18 = .ok (.iload 4, 2) := by decide +kernel
theorem dX0_areAlike_20 : decode cX0_areAlike 20 = .ok (.iconst (-1), 1) := by decide +kernel
theorem dX0_areAlike_21 : decode cX0_areAlike 21 = .ok (.if_icmp .eq 26, 3) := by decide +kernel
theorem dX0_areAlike_24 : decode cX0_areAlike 24 = .ok (.iload 5, 2) := by decide +kernel
theorem dX0_areAlike_26 : decode cX0_areAlike 26 = .ok (.iconst (-1), 1) := by decide +kernel
theorem dX0_areAlike_27 : decode cX0_areAlike 27 = .ok (.if_icmp .eq 20, 3) := by decide +kernel
theorem dX0_areAlike_30 : decode cX0_areAlike 30 = .ok (.iload 4, 2) := by decide +kernel
theorem dX0_areAlike_32 : decode cX0_areAlike 32 = .ok (.bipush 7, 2) := by decide +kernel
theorem dX0_areAlike_34 : decode cX0_areAlike 34 = .ok (.irem, 1) := by decide +kernel
theorem dX0_areAlike_35 : decode cX0_areAlike 35 = .ok (.iload 5, 2) := by decide +kernel
theorem dX0_areAlike_37 : decode cX0_areAlike 37 = .ok (.bipush 7, 2) := by decide +kernel
theorem dX0_areAlike_39 : decode cX0_areAlike 39 = .ok (.irem, 1) := by decide +kernel
theorem dX0_areAlike_40 : decode cX0_areAlike 40 = .ok (.if_icmp .ne 7, 3) := by decide +kernel
theorem dX0_areAlike_43 : decode cX0_areAlike 43 = .ok (.iconst 1, 1) := by decide +kernel
theorem dX0_areAlike_44 : decode cX0_areAlike 44 = .ok (.goto 4, 3) := by decide +kernel
theorem dX0_areAlike_47 : decode cX0_areAlike 47 = .ok (.iconst 0, 1) := by decide +kernel
theorem dX0_areAlike_48 : decode cX0_areAlike 48 = .ok (.ireturn, 1) := by decide +kernel
theorem dX0_firstFrom_0 : decode cX0_firstFrom 0 = .ok (.iconst (-1), 1) := by decide +kernel
theorem dX0_firstFrom_1 : decode cX0_firstFrom 1 = .ok (.istore 4, 2) := by decide +kernel
theorem dX0_firstFrom_3 : decode cX0_firstFrom 3 = .ok (.iload_n 2, 1) := by decide +kernel
theorem dX0_firstFrom_4 : decode cX0_firstFrom 4 = .ok (.istore 5, 2) := by decide +kernel
theorem dX0_firstFrom_6 : decode cX0_firstFrom 6 = .ok (.iload 5, 2) := by decide +kernel
theorem dX0_firstFrom_8 : decode cX0_firstFrom 8 = .ok (.bipush 12, 2) := by decide +kernel
theorem dX0_firstFrom_10 : decode cX0_firstFrom 10 = .ok (.if_icmp .gt 35, 3) := by decide +kernel
theorem dX0_firstFrom_13 : decode cX0_firstFrom 13 = .ok (.iload 4, 2) := by decide +kernel
theorem dX0_firstFrom_15 : decode cX0_firstFrom 15 = .ok (.iconst (-1), 1) := by decide +kernel
theorem dX0_firstFrom_16 : decode cX0_firstFrom 16 = .ok (.if_icmp .ne 29, 3) := by decide +kernel
theorem dX0_firstFrom_19 : decode cX0_firstFrom 19 = .ok (.aload_n 0, 1) := by decide +kernel
theorem dX0_firstFrom_20 : decode cX0_firstFrom 20 = .ok (.iload_n 1, 1) := by decide +kernel
theorem dX0_firstFrom_21 : decode cX0_firstFrom 21 = .ok (.iload 5, 2) := by decide +kernel
theorem dX0_firstFrom_23 : decode cX0_firstFrom 23 = .ok (.iload 5, 2) := by decide +kernel
theorem dX0_firstFrom_25 : decode cX0_firstFrom 25 = .ok (.iload_n 2, 1) := by decide +kernel
theorem dX0_firstFrom_26 : decode cX0_firstFrom 26 = .ok (.if_icmp .ne 7, 3) := by decide +kernel
theorem dX0_firstFrom_29 : decode cX0_firstFrom 29 = .ok (.iload_n 3, 1) := by decide +kernel
theorem dX0_firstFrom_30 : decode cX0_firstFrom 30 = .ok (.goto 4, 3) := by decide +kernel
theorem dX0_firstFrom_33 : decode cX0_firstFrom 33 = .ok (.iconst 1, 1) := by decide +kernel
theorem dX0_firstFrom_34 : decode cX0_firstFrom 34 = .ok (.invokevirtual 101, 3) := by decide +kernel
theorem dX0_firstFrom_37 : decode cX0_firstFrom 37 = .ok (.istore 4, 2) := by decide +kernel
theorem dX0_firstFrom_39 : decode cX0_firstFrom 39 = .ok (.iinc 5 1, 3) := by decide +kernel
theorem dX0_firstFrom_42 : decode cX0_firstFrom 42 = .ok (.goto (-36), 3) := by decide +kernel
theorem dX0_firstFrom_45 : decode cX0_firstFrom 45 = .ok (.iconst 1, 1) := by decide +kernel
theorem dX0_firstFrom_46 : decode cX0_firstFrom 46 = .ok (.istore 5, 2) := by decide +kernel
theorem dX0_firstFrom_48 : decode cX0_firstFrom 48 = .ok (.iload 5, 2) := by decide +kernel
theorem dX0_firstFrom_50 : decode cX0_firstFrom 50 = .ok (.bipush 12, 2) := by decide +kernel
theorem dX0_firstFrom_52 : decode cX0_firstFrom 52 = .ok (.if_icmp .gt 27, 3) := by decide +kernel
theorem dX0_firstFrom_55 : decode cX0_firstFrom 55 = .ok (.iload 4, 2) := by decide +kernel
theorem dX0_firstFrom_57 : decode cX0_firstFrom 57 = .ok (.iconst (-1), 1) := by decide +kernel
theorem dX0_firstFrom_58 : decode cX0_firstFrom 58 = .ok (.if_icmp .ne 21, 3) := by decide +kernel
theorem dX0_firstFrom_61 : decode cX0_firstFrom 61 = .ok (.aload_n 0, 1) := by decide +kernel
theorem dX0_firstFrom_62 : decode cX0_firstFrom 62 = .ok (.iload_n 1, 1) := by decide +kernel
theorem dX0_firstFrom_63 : decode cX0_firstFrom 63 = .ok (.iconst 1, 1) := by decide +kernel
theorem dX0_firstFrom_64 : decode cX0_firstFrom 64 = .ok (.iadd, 1) := by decide +kernel
theorem dX0_firstFrom_65 : decode cX0_firstFrom 65 = .ok (.iload 5, 2) := by decide +kernel
theorem dX0_firstFrom_67 : decode cX0_firstFrom 67 = .ok (.iconst 1, 1) := by decide +kernel
theorem dX0_firstFrom_68 : decode cX0_firstFrom 68 = .ok (.invokevirtual 101, 3) := by decide +kernel
theorem dX0_firstFrom_71 : decode cX0_firstFrom 71 = .ok (.istore 4, 2) := by decide +kernel
theorem dX0_firstFrom_73 : decode cX0_firstFrom 73 = .ok (.iinc 5 1, 3) := by decide +kernel
theorem dX0_firstFrom_76 : decode cX0_firstFrom 76 = .ok (.goto (-28), 3) := by decide +kernel
theorem dX0_firstFrom_79 : decode cX0_firstFrom 79 = .ok (.iload 4, 2) := by decide +kernel
theorem dX0_firstFrom_81 : decode cX0_firstFrom 81 = .ok (.ireturn, 1) := by decide +kernel
theorem dX0_firstInMonth_0 : decode cX0_firstInMonth 0 = .ok (.iconst (-1), 1) := by decide +kernel
theorem dX0_firstInMonth_1 : decode cX0_firstInMonth 1 = .ok (.istore 4, 2) := by decide +kernel
theorem dX0_firstInMonth_3 : decode cX0_firstInMonth 3 = .ok (.iload_n 3, 1) := by decide +kernel
theorem dX0_firstInMonth_4 : decode cX0_firstInMonth 4 = .ok (.istore 5, 2) := by decide +kernel
theorem dX0_firstInMonth_6 : decode cX0_firstInMonth 6 = .ok (.iload 5, 2) := by decide +kernel
theorem dX0_firstInMonth_8 : decode cX0_firstInMonth 8 = .ok (.bipush 31, 2) := by decide +kernel
theorem dX0_firstInMonth_10 : decode cX0_firstInMonth 10 = .ok (.if_icmp .gt 25, 3) := by decide +kernel
theorem dX0_firstInMonth_13 : decode cX0_firstInMonth 13 = .ok (.iload 4, 2) := by decide +kernel
theorem dX0_firstInMonth_15 : decode cX0_firstInMonth 15 = .ok (.iconst (-1), 1) := by decide +kernel
theorem dX0_firstInMonth_16 : decode cX0_firstInMonth 16 = .ok (.if_icmp .ne 19, 3) := by decide +kernel
theorem dX0_firstInMonth_19 : decode cX0_firstInMonth 19 = .ok (.aload_n 0, 1) := by decide +kernel
theorem dX0_firstInMonth_20 : decode cX0_firstInMonth 20 = .ok (.iload_n 1, 1) := by decide +kernel
theorem dX0_firstInMonth_21 : decode cX0_firstInMonth 21 = .ok (.iload_n 2, 1) := by decide +kernel
theorem dX0_firstInMonth_22 : decode cX0_firstInMonth 22 = .ok (.iload 5, 2) := by decide +kernel
theorem dX0_firstInMonth_24 : decode cX0_firstInMonth 24 = .ok (.invokevirtual 83, 3) := by decide +kernel
theorem dX0_firstInMonth_27 : decode cX0_firstInMonth 27 = .ok (.istore 4, 2) := by decide +kernel
theorem dX0_firstInMonth_29 : decode cX0_firstInMonth 29 = .ok (.iinc 5 1, 3) := by decide +kernel
theorem dX0_firstInMonth_32 : decode cX0_firstInMonth 32 = .ok (.goto (-26), 3) := by decide +kernel
theorem dX0_firstInMonth_35 : decode cX0_firstInMonth 35 = .ok (.iload 4, 2) := by decide +kernel
theorem dX0_firstInMonth_37 : decode cX0_firstInMonth 37 = .ok (.ireturn, 1) := by decide +kernel
theorem dX1_init_0 : decode cX1_init 0 = .ok (.aload_n 0, 1) := by decide +kernel
theorem dX1_init_1 : decode cX1_init 1 = .ok (.invokespecial 3, 3) := by decide +kernel
theorem dX1_init_4 : decode cX1_init 4 = .ok (.aload_n 0, 1) := by decide +kernel
theorem dX1_init_5 : decode cX1_init 5 = .ok (.iload_n 1, 1) := by decide +kernel
theorem dX1_init_6 : decode cX1_init 6 = .ok (.putfield 9, 3) := by decide +kernel
theorem dX1_init_9 : decode cX1_init 9 = .ok (.aload_n 0, 1) := by decide +kernel
theorem dX1_init_10 : decode cX1_init 10 = .ok (.aload_n 2, 1) := by decide +kernel
theorem dX1_init_11 : decode cX1_init 11 = .ok (.putfield 15, 3) := by decide +kernel
theorem dX1_init_14 : decode cX1_init 14 = .ok (.aload_n 0, 1) := by decide +kernel
theorem dX1_init_15 : decode cX1_init 15 = .ok (.iload_n 3, 1) := by decide +kernel
theorem dX1_init_16 : decode cX1_init 16 = .ok (.putfield 19, 3) := by decide +kernel
theorem dX1_init_19 : decode cX1_init 19 = .ok (.aload_n 0, 1) := by decide +kernel
theorem dX1_init_20 : decode cX1_init 20 = .ok (.iload 4, 2) := by decide +kernel
theorem dX1_init_22 : decode cX1_init 22 = .ok (.putfield 22, 3) := by decide +kernel
theorem dX1_init_25 : decode cX1_init 25 = .ok (.return_, 1) := by decide +kernel
theorem dX1_isSoWith_0 : decode cX1_isSoWith 0 = .ok (.aload_n 1, 1) := by decide +kernel
theorem dX1_isSoWith_1 : decode cX1_isSoWith 1 = .ok (.aload_n 0, 1) := by decide +kernel
theorem dX1_isSoWith_2 : decode cX1_isSoWith 2 = .ok (.getfield 15, 3) := by decide +kernel
theorem dX1_isSoWith_5 : decode cX1_isSoWith 5 = .ok (.getfield 25, 3) := by decide +kernel
theorem dX1_isSoWith_8 : decode cX1_isSoWith 8 = .ok (.aload_n 0, 1) := by decide +kernel
theorem dX1_isSoWith_9 : decode cX1_isSoWith 9 = .ok (.getfield 15, 3) := by decide +kernel
theorem dX1_isSoWith_12 : decode cX1_isSoWith 12 = .ok (.getfield 31, 3) := by decide +kernel
theorem dX1_isSoWith_15 : decode cX1_isSoWith 15 = .ok (.aload_n 0, 1) := by decide +kernel
theorem dX1_isSoWith_16 : decode cX1_isSoWith 16 = .ok (.getfield 15, 3) := by decide +kernel
theorem dX1_isSoWith_19 : decode cX1_isSoWith 19 = .ok (.getfield 34, 3) := by decide +kernel
theorem dX1_isSoWith_22 : decode cX1_isSoWith 22 = .ok (.aload_n 0, 1) := by decide +kernel
theorem dX1_isSoWith_23 : decode cX1_isSoWith 23 = .ok (.getfield 15, 3) := by decide +kernel
theorem dX1_isSoWith_26 : decode cX1_isSoWith 26 = .ok (.getfield 35, 3) := by decide +kernel
theorem dX1_isSoWith_29 : decode cX1_isSoWith 29 = .ok (.invokevirtual 38, 3) := by decide +kernel
theorem dX1_isSoWith_32 : decode cX1_isSoWith 32 = .ok (.istore_n 3, 1) := by decide +kernel
theorem dX1_isSoWith_33 : decode cX1_isSoWith 33 = .ok (.iload_n 3, 1) := by decide +kernel
theorem dX1_isSoWith_34 : decode cX1_isSoWith 34 = .ok (.iconst (-1), 1) := by decide +kernel
theorem dX1_isSoWith_35 : decode cX1_isSoWith 35 = .ok (.if_icmp .eq 34, 3) := by decide +kernel
theorem dX1_isSoWith_38 : decode cX1_isSoWith 38 = .ok (.iload_n 3, 1) := by decide +kernel
theorem dX1_isSoWith_39 : decode cX1_isSoWith 39 = .ok (.bipush 7, 2) := by decide +kernel
theorem dX1_isSoWith_41 : decode cX1_isSoWith 41 = .ok (.irem, 1) := by decide +kernel
theorem dX1_isSoWith_42 : decode cX1_isSoWith 42 = .ok (.aload_n 0, 1) := by decide +kernel
theorem dX1_isSoWith_43 : decode cX1_isSoWith 43 = .ok (.getfield 19, 3) := by decide +kernel
theorem dX1_isSoWith_46 : decode cX1_isSoWith 46 = .ok (.if_icmp .ne 23, 3) := by decide +kernel
theorem dX1_isSoWith_49 : decode cX1_isSoWith 49 = .ok (.iload_n 3, 1) := by decide +kernel
theorem dX1_isSoWith_50 : decode cX1_isSoWith 50 = .ok (.bipush 7, 2) := by decide +kernel
theorem dX1_isSoWith_52 : decode cX1_isSoWith 52 = .ok (.idiv, 1) := by decide +kernel
theorem dX1_isSoWith_53 : decode cX1_isSoWith 53 = .ok (.aload_n 0, 1) := by decide +kernel
theorem dX1_isSoWith_54 : decode cX1_isSoWith 54 = .ok (.getfield 22, 3) := by decide +kernel
theorem dX1_isSoWith_57 : decode cX1_isSoWith 57 = .ok (.isub, 1) := by decide +kernel
theorem dX1_isSoWith_58 : decode cX1_isSoWith 58 = .ok (.invokestatic 44, 3) := by decide +kernel
theorem dX1_isSoWith_61 : decode cX1_isSoWith 61 = .ok (.iload_n 2, 1) := by decide +kernel
theorem dX1_isSoWith_62 : decode cX1_isSoWith 62 = .ok (.if_icmp .gt 7, 3) := by decide +kernel
theorem dX1_isSoWith_65 : decode cX1_isSoWith 65 = .ok (.iconst 1, 1) := by decide +kernel
theorem dX1_isSoWith_66 : decode cX1_isSoWith 66 = .ok (.goto 4, 3) := by decide +kernel
theorem dX1_isSoWith_69 : decode cX1_isSoWith 69 = .ok (.iconst 0, 1) := by decide +kernel
theorem dX1_isSoWith_70 : decode cX1_isSoWith 70 = .ok (.ireturn, 1) := by decide +kernel
theorem dX1_yearsFrom_0 : decode cX1_yearsFrom 0 = .ok (.aload_n 0, 1) := by decide +kernel
theorem dX1_yearsFrom_1 : decode cX1_yearsFrom 1 = .ok (.getfield 15, 3) := by decide +kernel
theorem dX1_yearsFrom_4 : decode cX1_yearsFrom 4 = .ok (.getfield 31, 3) := by decide +kernel
theorem dX1_yearsFrom_7 : decode cX1_yearsFrom 7 = .ok (.iload_n 1, 1) := by decide +kernel
theorem dX1_yearsFrom_8 : decode cX1_yearsFrom 8 = .ok (.isub, 1) := by decide +kernel
theorem dX1_yearsFrom_9 : decode cX1_yearsFrom 9 = .ok (.invokestatic 44, 3) := by decide +kernel
theorem dX1_yearsFrom_12 : decode cX1_yearsFrom 12 = .ok (.ireturn, 1) := by decide +kernel
theorem dX2_init_0 : decode cX2_init 0 = .ok (.aload_n 0, 1) := by decide +kernel
theorem dX2_init_1 : decode cX2_init 1 = .ok (.invokespecial 3, 3) := by decide +kernel
theorem dX2_init_4 : decode cX2_init 4 = .ok (.aload_n 0, 1) := by decide +kernel
theorem dX2_init_5 : decode cX2_init 5 = .ok (.bipush 6, 2) := by decide +kernel
theorem dX2_init_7 : decode cX2_init 7 = .ok (.newarray .int, 2) := by decide +kernel
theorem dX2_init_9 : decode cX2_init 9 = .ok (.putfield 11, 3) := by decide +kernel
theorem dX2_init_12 : decode cX2_init 12 = .ok (.aload_n 0, 1) := by decide +kernel
theorem dX2_init_13 : decode cX2_init 13 = .ok (.bipush 6, 2) := by decide +kernel
theorem dX2_init_15 : decode cX2_init 15 = .ok (.newarray .int, 2) := by decide +kernel
theorem dX2_init_17 : decode cX2_init 17 = .ok (.putfield 15, 3) := by decide +kernel
theorem dX2_init_20 : decode cX2_init 20 = .ok (.aload_n 0, 1) := by decide +kernel
theorem dX2_init_21 : decode cX2_init 21 = .ok (.new 18, 3) := by decide +kernel
theorem dX2_init_24 : decode cX2_init 24 = .ok (.dup, 1) := by decide +kernel
theorem dX2_init_25 : decode cX2_init 25 = .ok (.invokespecial 20, 3) := by decide +kernel
theorem dX2_init_28 : decode cX2_init 28 = .ok (.putfield 21, 3) := by decide +kernel
theorem dX2_init_31 : decode cX2_init 31 = .ok (.aload_n 0, 1) := by decide +kernel
theorem dX2_init_32 : decode cX2_init 32 = .ok (.new 25, 3) := by decide +kernel
theorem dX2_init_35 : decode cX2_init 35 = .ok (.dup, 1) := by decide +kernel
theorem dX2_init_36 : decode cX2_init 36 = .ok (.invokespecial 27, 3) := by decide +kernel
theorem dX2_init_39 : decode cX2_init 39 = .ok (.putfield 28, 3) := by decide +kernel
theorem dX2_init_42 : decode cX2_init 42 = .ok (.aload_n 0, 1) := by decide +kernel
theorem dX2_init_43 : decode cX2_init 43 = .ok (.bipush 13, 2) := by decide +kernel
theorem dX2_init_45 : decode cX2_init 45 = .ok (.newarray .boolean, 2) := by decide +kernel
theorem dX2_init_47 : decode cX2_init 47 = .ok (.putfield 32, 3) := by decide +kernel
theorem dX2_init_50 : decode cX2_init 50 = .ok (.aload_n 0, 1) := by decide +kernel
theorem dX2_init_51 : decode cX2_init 51 = .ok (.iconst 4, 1) := by decide +kernel
theorem dX2_init_52 : decode cX2_init 52 = .ok (.newarray .int, 2) := by decide +kernel
theorem dX2_init_54 : decode cX2_init 54 = .ok (.dup, 1) := by decide +kernel
theorem dX2_init_55 : decode cX2_init 55 = .ok (.iconst 0, 1) := by decide +kernel
theorem dX2_init_56 : decode cX2_init 56 = .ok (.iconst (-1), 1) := by decide +kernel
theorem dX2_init_57 : decode cX2_init 57 = .ok (.iastore, 1) := by decide +kernel
theorem dX2_init_58 : decode cX2_init 58 = .ok (.dup, 1) := by decide +kernel
theorem dX2_init_59 : decode cX2_init 59 = .ok (.iconst 1, 1) := by decide +kernel
theorem dX2_init_60 : decode cX2_init 60 = .ok (.iconst (-1), 1) := by decide +kernel
theorem dX2_init_61 : decode cX2_init 61 = .ok (.iastore, 1) := by decide +kernel
theorem dX2_init_62 : decode cX2_init 62 = .ok (.dup, 1) := by decide +kernel
theorem dX2_init_63 : decode cX2_init 63 = .ok (.iconst 2, 1) := by decide +kernel
theorem dX2_init_64 : decode cX2_init 64 = .ok (.iconst (-1), 1) := by decide +kernel
theorem dX2_init_65 : decode cX2_init 65 = .ok (.iastore, 1) := by decide +kernel
theorem dX2_init_66 : decode cX2_init 66 = .ok (.dup, 1) := by decide +kernel
theorem dX2_init_67 : decode cX2_init 67 = .ok (.iconst 3, 1) := by decide +kernel
theorem dX2_init_68 : decode cX2_init 68 = .ok (.iconst (-1), 1) := by decide +kernel
theorem dX2_init_69 : decode cX2_init 69 = .ok (.iastore, 1) := by decide +kernel
theorem dX2_init_70 : decode cX2_init 70 = .ok (.putfield 36, 3) := by decide +kernel
theorem dX2_init_73 : decode cX2_init 73 = .ok (.aload_n 0, 1) := by decide +kernel
theorem dX2_init_74 : decode cX2_init 74 = .ok (.iconst 1, 1) := by decide +kernel
theorem dX2_init_75 : decode cX2_init 75 = .ok (.putfield 39, 3) := by decide +kernel
theorem dX2_init_78 : decode cX2_init 78 = .ok (.return_, 1) := by decide +kernel
theorem dX2_readFrom_0 : decode cX2_readFrom 0 = .ok (.new 9, 3) := by decide +kernel
theorem dX2_readFrom_3 : decode cX2_readFrom 3 = .ok (.dup, 1) := by decide +kernel
theorem dX2_readFrom_4 : decode cX2_readFrom 4 = .ok (.invokespecial 43, 3) := by decide +kernel
theorem dX2_readFrom_7 : decode cX2_readFrom 7 = .ok (.astore_n 1, 1) := by decide +kernel
theorem dX2_readFrom_8 : decode cX2_readFrom 8 = .ok (.aload_n 1, 1) := by decide +kernel
theorem dX2_readFrom_9 : decode cX2_readFrom 9 = .ok (.aload_n 0, 1) := by decide +kernel
theorem dX2_readFrom_10 : decode cX2_readFrom 10 = .ok (.invokevirtual 44, 3) := by decide +kernel
theorem dX2_readFrom_13 : decode cX2_readFrom 13 = .ok (.iconst 1, 1) := by decide +kernel
theorem dX2_readFrom_14 : decode cX2_readFrom 14 = .ok (.istore_n 2, 1) := by decide +kernel
theorem dX2_readFrom_15 : decode cX2_readFrom 15 = .ok (.iload_n 2, 1) := by decide +kernel
theorem dX2_readFrom_16 : decode cX2_readFrom 16 = .ok (.sipush 160, 3) := by decide +kernel
theorem dX2_readFrom_19 : decode cX2_readFrom 19 = .ok (.if_icmp .ge 23, 3) := by decide +kernel
theorem dX2_readFrom_22 : decode cX2_readFrom 22 = .ok (.aload_n 0, 1) := by decide +kernel
theorem dX2_readFrom_23 : decode cX2_readFrom 23 = .ok (.bipush 44, 2) := by decide +kernel
theorem dX2_readFrom_25 : decode cX2_readFrom 25 = .ok (.invokevirtual 48, 3) := by decide +kernel
theorem dX2_readFrom_28 : decode cX2_readFrom 28 = .ok (.ifCond .eq 14, 3) := by decide +kernel
theorem dX2_readFrom_31 : decode cX2_readFrom 31 = .ok (.aload_n 1, 1) := by decide +kernel
theorem dX2_readFrom_32 : decode cX2_readFrom 32 = .ok (.aload_n 0, 1) := by decide +kernel
theorem dX2_readFrom_33 : decode cX2_readFrom 33 = .ok (.invokevirtual 44, 3) := by decide +kernel
theorem dX2_readFrom_36 : decode cX2_readFrom 36 = .ok (.iinc 2 1, 3) := by decide +kernel
theorem dX2_readFrom_39 : decode cX2_readFrom 39 = .ok (.goto (-24), 3) := by decide +kernel
theorem dX2_readFrom_42 : decode cX2_readFrom 42 = .ok (.aload_n 0, 1) := by decide +kernel
theorem dX2_readFrom_43 : decode cX2_readFrom 43 = .ok (.invokevirtual 54, 3) := by decide +kernel
theorem dX2_readFrom_46 : decode cX2_readFrom 46 = .ok (.aload_n 1, 1) := by decide +kernel
theorem dX2_readFrom_47 : decode cX2_readFrom 47 = .ok (.areturn, 1) := by decide +kernel
theorem dX2_readItem_0 : decode cX2_readItem 0 = .ok (.aload_n 1, 1) := by decide +kernel
theorem dX2_readItem_1 : decode cX2_readItem 1 = .ok (.getfield 57, 3) := by decide +kernel
theorem dX2_readItem_4 : decode cX2_readItem 4 = .ok (.tableswitch 186 98 121 #[168, 186, 186, 186, 186, 186, 186, 186, 186, 112, 177, 131, 186, 142, 186, 186, 159, 150, 186, 186, 186, 186, 186, 120], 112) := by decide +kernel
theorem dX2_readItem_116 : decode cX2_readItem 116 = .ok (.aload_n 0, 1) := by decide +kernel
theorem dX2_readItem_117 : decode cX2_readItem 117 = .ok (.aload_n 1, 1) := by decide +kernel
theorem dX2_readItem_118 : decode cX2_readItem 118 = .ok (.invokevirtual 60, 3) := by decide +kernel
theorem dX2_readItem_121 : decode cX2_readItem 121 = .ok (.goto 73, 3) := by decide +kernel
theorem dX2_readItem_124 : decode cX2_readItem 124 = .ok (.aload_n 0, 1) := by decide +kernel
theorem dX2_readItem_125 : decode cX2_readItem 125 = .ok (.getfield 21, 3) := by decide +kernel
theorem dX2_readItem_128 : decode cX2_readItem 128 = .ok (.aload_n 1, 1) := by decide +kernel
theorem dX2_readItem_129 : decode cX2_readItem 129 = .ok (.invokevirtual 63, 3) := by decide +kernel
theorem dX2_readItem_132 : decode cX2_readItem 132 = .ok (.goto 62, 3) := by decide +kernel
theorem dX2_readItem_135 : decode cX2_readItem 135 = .ok (.aload_n 0, 1) := by decide +kernel
theorem dX2_readItem_136 : decode cX2_readItem 136 = .ok (.getfield 28, 3) := by decide +kernel
theorem dX2_readItem_139 : decode cX2_readItem 139 = .ok (.aload_n 1, 1) := by decide +kernel
theorem dX2_readItem_140 : decode cX2_readItem 140 = .ok (.invokevirtual 66, 3) := by decide +kernel
theorem dX2_readItem_143 : decode cX2_readItem 143 = .ok (.goto 51, 3) := by decide +kernel
theorem dX2_readItem_146 : decode cX2_readItem 146 = .ok (.aload_n 0, 1) := by decide +kernel
theorem dX2_readItem_147 : decode cX2_readItem 147 = .ok (.aload_n 1, 1) := by decide +kernel
theorem dX2_readItem_148 : decode cX2_readItem 148 = .ok (.invokevirtual 67, 3) := by decide +kernel
theorem dX2_readItem_151 : decode cX2_readItem 151 = .ok (.goto 43, 3) := by decide +kernel
theorem dX2_readItem_154 : decode cX2_readItem 154 = .ok (.aload_n 0, 1) := by decide +kernel
theorem dX2_readItem_155 : decode cX2_readItem 155 = .ok (.aload_n 1, 1) := by decide +kernel
theorem dX2_readItem_156 : decode cX2_readItem 156 = .ok (.iconst 0, 1) := by decide +kernel
theorem dX2_readItem_157 : decode cX2_readItem 157 = .ok (.invokevirtual 70, 3) := by decide +kernel
theorem dX2_readItem_160 : decode cX2_readItem 160 = .ok (.goto 34, 3) := by decide +kernel
theorem dX2_readItem_163 : decode cX2_readItem 163 = .ok (.aload_n 0, 1) := by decide +kernel
theorem dX2_readItem_164 : decode cX2_readItem 164 = .ok (.aload_n 1, 1) := by decide +kernel
theorem dX2_readItem_165 : decode cX2_readItem 165 = .ok (.iconst 1, 1) := by decide +kernel
theorem dX2_readItem_166 : decode cX2_readItem 166 = .ok (.invokevirtual 70, 3) := by decide +kernel
theorem dX2_readItem_169 : decode cX2_readItem 169 = .ok (.goto 25, 3) := by decide +kernel
theorem dX2_readItem_172 : decode cX2_readItem 172 = .ok (.aload_n 0, 1) := by decide +kernel
theorem dX2_readItem_173 : decode cX2_readItem 173 = .ok (.aload_n 1, 1) := by decide +kernel
theorem dX2_readItem_174 : decode cX2_readItem 174 = .ok (.iconst 2, 1) := by decide +kernel
theorem dX2_readItem_175 : decode cX2_readItem 175 = .ok (.invokevirtual 70, 3) := by decide +kernel
theorem dX2_readItem_178 : decode cX2_readItem 178 = .ok (.goto 16, 3) := by decide +kernel
theorem dX2_readItem_181 : decode cX2_readItem 181 = .ok (.aload_n 0, 1) := by decide +kernel
theorem dX2_readItem_182 : decode cX2_readItem 182 = .ok (.aload_n 1, 1) := by decide +kernel
theorem dX2_readItem_183 : decode cX2_readItem 183 = .ok (.iconst 3, 1) := by decide +kernel
theorem dX2_readItem_184 : decode cX2_readItem 184 = .ok (.invokevirtual 70, 3) := by decide +kernel
theorem dX2_readItem_187 : decode cX2_readItem 187 = .ok (.goto 7, 3) := by decide +kernel
theorem dX2_readItem_190 : decode cX2_readItem 190 = .ok (.aload_n 1, 1) := by decide +kernel
theorem dX2_readItem_191 : decode cX2_readItem 191 = .ok (.invokevirtual 74, 3) := by decide +kernel
theorem dX2_readItem_194 : decode cX2_readItem 194 = .ok (.return_, 1) := by decide +kernel
theorem dX2_readRange_0 : decode cX2_readRange 0 = .ok (.aload_n 0, 1) := by decide +kernel
theorem dX2_readRange_1 : decode cX2_readRange 1 = .ok (.getfield 77, 3) := by decide +kernel
theorem dX2_readRange_4 : decode cX2_readRange 4 = .ok (.bipush 6, 2) := by decide +kernel
theorem dX2_readRange_6 : decode cX2_readRange 6 = .ok (.if_icmp .lt 8, 3) := by decide +kernel
theorem dX2_readRange_9 : decode cX2_readRange 9 = .ok (.aload_n 1, 1) := by decide +kernel
theorem dX2_readRange_10 : decode cX2_readRange 10 = .ok (.invokevirtual 74, 3) := by decide +kernel
theorem dX2_readRange_13 : decode cX2_readRange 13 = .ok (.return_, 1) := by decide +kernel
theorem dX2_readRange_14 : decode cX2_readRange 14 = .ok (.aload_n 1, 1) := by decide +kernel
theorem dX2_readRange_15 : decode cX2_readRange 15 = .ok (.bipush 107, 2) := by decide +kernel
theorem dX2_readRange_17 : decode cX2_readRange 17 = .ok (.invokevirtual 48, 3) := by decide +kernel
theorem dX2_readRange_20 : decode cX2_readRange 20 = .ok (.pop, 1) := by decide +kernel
theorem dX2_readRange_21 : decode cX2_readRange 21 = .ok (.aload_n 0, 1) := by decide +kernel
theorem dX2_readRange_22 : decode cX2_readRange 22 = .ok (.getfield 11, 3) := by decide +kernel
theorem dX2_readRange_25 : decode cX2_readRange 25 = .ok (.aload_n 0, 1) := by decide +kernel
theorem dX2_readRange_26 : decode cX2_readRange 26 = .ok (.getfield 77, 3) := by decide +kernel
theorem dX2_readRange_29 : decode cX2_readRange 29 = .ok (.aload_n 1, 1) := by decide +kernel
theorem dX2_readRange_30 : decode cX2_readRange 30 = .ok (.iconst 1, 1) := by decide +kernel
theorem dX2_readRange_31 : decode cX2_readRange 31 = .ok (.sipush 9999, 3) := by decide +kernel
theorem dX2_readRange_34 : decode cX2_readRange 34 = .ok (.invokevirtual 80, 3) := by decide +kernel
theorem dX2_readRange_37 : decode cX2_readRange 37 = .ok (.iastore, 1) := by decide +kernel
theorem dX2_readRange_38 : decode cX2_readRange 38 = .ok (.aload_n 1, 1) := by decide +kernel
theorem dX2_readRange_39 : decode cX2_readRange 39 = .ok (.bipush 45, 2) := by decide +kernel
theorem dX2_readRange_41 : decode cX2_readRange 41 = .ok (.invokevirtual 84, 3) := by decide +kernel
theorem dX2_readRange_44 : decode cX2_readRange 44 = .ok (.aload_n 0, 1) := by decide +kernel
theorem dX2_readRange_45 : decode cX2_readRange 45 = .ok (.getfield 15, 3) := by decide +kernel
theorem dX2_readRange_48 : decode cX2_readRange 48 = .ok (.aload_n 0, 1) := by decide +kernel
theorem dX2_readRange_49 : decode cX2_readRange 49 = .ok (.getfield 77, 3) := by decide +kernel
theorem dX2_readRange_52 : decode cX2_readRange 52 = .ok (.aload_n 1, 1) := by decide +kernel
theorem dX2_readRange_53 : decode cX2_readRange 53 = .ok (.iconst 1, 1) := by decide +kernel
theorem dX2_readRange_54 : decode cX2_readRange 54 = .ok (.sipush 9999, 3) := by decide +kernel
theorem dX2_readRange_57 : decode cX2_readRange 57 = .ok (.invokevirtual 80, 3) := by decide +kernel
theorem dX2_readRange_60 : decode cX2_readRange 60 = .ok (.iastore, 1) := by decide +kernel
theorem dX2_readRange_61 : decode cX2_readRange 61 = .ok (.aload_n 0, 1) := by decide +kernel
theorem dX2_readRange_62 : decode cX2_readRange 62 = .ok (.getfield 15, 3) := by decide +kernel
theorem dX2_readRange_65 : decode cX2_readRange 65 = .ok (.aload_n 0, 1) := by decide +kernel
theorem dX2_readRange_66 : decode cX2_readRange 66 = .ok (.getfield 77, 3) := by decide +kernel
theorem dX2_readRange_69 : decode cX2_readRange 69 = .ok (.iaload, 1) := by decide +kernel
theorem dX2_readRange_70 : decode cX2_readRange 70 = .ok (.aload_n 0, 1) := by decide +kernel
theorem dX2_readRange_71 : decode cX2_readRange 71 = .ok (.getfield 11, 3) := by decide +kernel
theorem dX2_readRange_74 : decode cX2_readRange 74 = .ok (.aload_n 0, 1) := by decide +kernel
theorem dX2_readRange_75 : decode cX2_readRange 75 = .ok (.getfield 77, 3) := by decide +kernel
theorem dX2_readRange_78 : decode cX2_readRange 78 = .ok (.iaload, 1) := by decide +kernel
theorem dX2_readRange_79 : decode cX2_readRange 79 = .ok (.if_icmp .ge 7, 3) := by decide +kernel
theorem dX2_readRange_82 : decode cX2_readRange 82 = .ok (.aload_n 1, 1) := by decide +kernel
theorem dX2_readRange_83 : decode cX2_readRange 83 = .ok (.invokevirtual 88, 3) := by decide +kernel
theorem dX2_readRange_86 : decode cX2_readRange 86 = .ok (.aload_n 0, 1) := by decide +kernel
theorem dX2_readRange_87 : decode cX2_readRange 87 = .ok (.dup, 1) := by decide +kernel
theorem dX2_readRange_88 : decode cX2_readRange 88 = .ok (.getfield 77, 3) := by decide +kernel
theorem dX2_readRange_91 : decode cX2_readRange 91 = .ok (.iconst 1, 1) := by decide +kernel
theorem dX2_readRange_92 : decode cX2_readRange 92 = .ok (.iadd, 1) := by decide +kernel
theorem dX2_readRange_93 : decode cX2_readRange 93 = .ok (.putfield 77, 3) := by decide +kernel
theorem dX2_readRange_96 : decode cX2_readRange 96 = .ok (.return_, 1) := by decide +kernel
theorem dX2_readMonth_0 : decode cX2_readMonth 0 = .ok (.aload_n 1, 1) := by decide +kernel
theorem dX2_readMonth_1 : decode cX2_readMonth 1 = .ok (.bipush 111, 2) := by decide +kernel
theorem dX2_readMonth_3 : decode cX2_readMonth 3 = .ok (.invokevirtual 48, 3) := by decide +kernel
theorem dX2_readMonth_6 : decode cX2_readMonth 6 = .ok (.pop, 1) := by decide +kernel
theorem dX2_readMonth_7 : decode cX2_readMonth 7 = .ok (.aload_n 1, 1) := by decide +kernel
theorem dX2_readMonth_8 : decode cX2_readMonth 8 = .ok (.iconst 1, 1) := by decide +kernel
theorem dX2_readMonth_9 : decode cX2_readMonth 9 = .ok (.bipush 12, 2) := by decide +kernel
theorem dX2_readMonth_11 : decode cX2_readMonth 11 = .ok (.invokevirtual 80, 3) := by decide +kernel
theorem dX2_readMonth_14 : decode cX2_readMonth 14 = .ok (.istore_n 2, 1) := by decide +kernel
theorem dX2_readMonth_15 : decode cX2_readMonth 15 = .ok (.iload_n 2, 1) := by decide +kernel
theorem dX2_readMonth_16 : decode cX2_readMonth 16 = .ok (.iconst 1, 1) := by decide +kernel
theorem dX2_readMonth_17 : decode cX2_readMonth 17 = .ok (.if_icmp .lt 9, 3) := by decide +kernel
theorem dX2_readMonth_20 : decode cX2_readMonth 20 = .ok (.iload_n 2, 1) := by decide +kernel
theorem dX2_readMonth_21 : decode cX2_readMonth 21 = .ok (.bipush 12, 2) := by decide +kernel
theorem dX2_readMonth_23 : decode cX2_readMonth 23 = .ok (.if_icmp .le 4, 3) := by decide +kernel
theorem dX2_readMonth_26 : decode cX2_readMonth 26 = .ok (.return_, 1) := by decide +kernel
theorem dX2_readMonth_27 : decode cX2_readMonth 27 = .ok (.aload_n 0, 1) := by decide +kernel
theorem dX2_readMonth_28 : decode cX2_readMonth 28 = .ok (.getfield 32, 3) := by decide +kernel
theorem dX2_readMonth_31 : decode cX2_readMonth 31 = .ok (.iload_n 2, 1) := by decide +kernel
theorem dX2_readMonth_32 : decode cX2_readMonth 32 = .ok (.baload, 1) := by decide +kernel
theorem dX2_readMonth_33 : decode cX2_readMonth 33 = .ok (.ifCond .eq 8, 3) := by decide +kernel
theorem dX2_readMonth_36 : decode cX2_readMonth 36 = .ok (.aload_n 1, 1) := by decide +kernel
theorem dX2_readMonth_37 : decode cX2_readMonth 37 = .ok (.invokevirtual 88, 3) := by decide +kernel
theorem dX2_readMonth_40 : decode cX2_readMonth 40 = .ok (.return_, 1) := by decide +kernel
theorem dX2_readMonth_41 : decode cX2_readMonth 41 = .ok (.aload_n 0, 1) := by decide +kernel
theorem dX2_readMonth_42 : decode cX2_readMonth 42 = .ok (.getfield 32, 3) := by decide +kernel
theorem dX2_readMonth_45 : decode cX2_readMonth 45 = .ok (.iload_n 2, 1) := by decide +kernel
theorem dX2_readMonth_46 : decode cX2_readMonth 46 = .ok (.iconst 1, 1) := by decide +kernel
theorem dX2_readMonth_47 : decode cX2_readMonth 47 = .ok (.bastore, 1) := by decide +kernel
theorem dX2_readMonth_48 : decode cX2_readMonth 48 = .ok (.aload_n 0, 1) := by decide +kernel
theorem dX2_readMonth_49 : decode cX2_readMonth 49 = .ok (.dup, 1) := by decide +kernel
theorem dX2_readMonth_50 : decode cX2_readMonth 50 = .ok (.getfield 91, 3) := by decide +kernel
theorem dX2_readMonth_53 : decode cX2_readMonth 53 = .ok (.iconst 1, 1) := by decide +kernel
theorem dX2_readMonth_54 : decode cX2_readMonth 54 = .ok (.iadd, 1) := by decide +kernel
theorem dX2_readMonth_55 : decode cX2_readMonth 55 = .ok (.putfield 91, 3) := by decide +kernel
theorem dX2_readMonth_58 : decode cX2_readMonth 58 = .ok (.return_, 1) := by decide +kernel
theorem dX2_readExtra_0 : decode cX2_readExtra 0 = .ok (.aload_n 0, 1) := by decide +kernel
theorem dX2_readExtra_1 : decode cX2_readExtra 1 = .ok (.getfield 36, 3) := by decide +kernel
theorem dX2_readExtra_4 : decode cX2_readExtra 4 = .ok (.iload_n 2, 1) := by decide +kernel
theorem dX2_readExtra_5 : decode cX2_readExtra 5 = .ok (.iaload, 1) := by decide +kernel
theorem dX2_readExtra_6 : decode cX2_readExtra 6 = .ok (.iconst (-1), 1) := by decide +kernel
theorem dX2_readExtra_7 : decode cX2_readExtra 7 = .ok (.if_icmp .eq 8, 3) := by decide +kernel
theorem dX2_readExtra_10 : decode cX2_readExtra 10 = .ok (.aload_n 1, 1) := by decide +kernel
theorem dX2_readExtra_11 : decode cX2_readExtra 11 = .ok (.invokevirtual 74, 3) := by decide +kernel
theorem dX2_readExtra_14 : decode cX2_readExtra 14 = .ok (.return_, 1) := by decide +kernel
theorem dX2_readExtra_15 : decode cX2_readExtra 15 = .ok (.aload_n 1, 1) := by decide +kernel
theorem dX2_readExtra_16 : decode cX2_readExtra 16 = .ok (.aload_n 1, 1) := by decide +kernel
theorem dX2_readExtra_17 : decode cX2_readExtra 17 = .ok (.getfield 57, 3) := by decide +kernel
theorem dX2_readExtra_20 : decode cX2_readExtra 20 = .ok (.invokevirtual 48, 3) := by decide +kernel
theorem dX2_readExtra_23 : decode cX2_readExtra 23 = .ok (.pop, 1) := by decide +kernel
theorem dX2_readExtra_24 : decode cX2_readExtra 24 = .ok (.aload_n 0, 1) := by decide +kernel
theorem dX2_readExtra_25 : decode cX2_readExtra 25 = .ok (.getfield 36, 3) := by decide +kernel
theorem dX2_readExtra_28 : decode cX2_readExtra 28 = .ok (.iload_n 2, 1) := by decide +kernel
theorem dX2_readExtra_29 : decode cX2_readExtra 29 = .ok (.aload_n 1, 1) := by decide +kernel
theorem dX2_readExtra_30 : decode cX2_readExtra 30 = .ok (.iconst 0, 1) := by decide +kernel
theorem dX2_readExtra_31 : decode cX2_readExtra 31 = .ok (.bipush 99, 2) := by decide +kernel
theorem dX2_readExtra_33 : decode cX2_readExtra 33 = .ok (.invokevirtual 80, 3) := by decide +kernel
theorem dX2_readExtra_36 : decode cX2_readExtra 36 = .ok (.iastore, 1) := by decide +kernel
theorem dX2_readExtra_37 : decode cX2_readExtra 37 = .ok (.return_, 1) := by decide +kernel
theorem dX2_findRows_0 : decode cX2_findRows 0 = .ok (.aload_n 0, 1) := by decide +kernel
theorem dX2_findRows_1 : decode cX2_findRows 1 = .ok (.new 94, 3) := by decide +kernel
theorem dX2_findRows_4 : decode cX2_findRows 4 = .ok (.dup, 1) := by decide +kernel
theorem dX2_findRows_5 : decode cX2_findRows 5 = .ok (.sipush 10000, 3) := by decide +kernel
theorem dX2_findRows_8 : decode cX2_findRows 8 = .ok (.invokespecial 96, 3) := by decide +kernel
theorem dX2_findRows_11 : decode cX2_findRows 11 = .ok (.putfield 98, 3) := by decide +kernel
theorem dX2_findRows_14 : decode cX2_findRows 14 = .ok (.iconst 0, 1) := by decide +kernel
theorem dX2_findRows_15 : decode cX2_findRows 15 = .ok (.istore_n 2, 1) := by decide +kernel
theorem dX2_findRows_16 : decode cX2_findRows 16 = .ok (.iload_n 2, 1) := by decide +kernel
theorem dX2_findRows_17 : decode cX2_findRows 17 = .ok (.aload_n 0, 1) := by decide +kernel
theorem dX2_findRows_18 : decode cX2_findRows 18 = .ok (.getfield 77, 3) := by decide +kernel
theorem dX2_findRows_21 : decode cX2_findRows 21 = .ok (.if_icmp .ge 40, 3) := by decide +kernel
theorem dX2_findRows_24 : decode cX2_findRows 24 = .ok (.aload_n 0, 1) := by decide +kernel
theorem dX2_findRows_25 : decode cX2_findRows 25 = .ok (.getfield 11, 3) := by decide +kernel
theorem dX2_findRows_28 : decode cX2_findRows 28 = .ok (.iload_n 2, 1) := by decide +kernel
theorem dX2_findRows_29 : decode cX2_findRows 29 = .ok (.iaload, 1) := by decide +kernel
theorem dX2_findRows_30 : decode cX2_findRows 30 = .ok (.istore_n 3, 1) := by decide +kernel
theorem dX2_findRows_31 : decode cX2_findRows 31 = .ok (.iload_n 3, 1) := by decide +kernel
theorem dX2_findRows_32 : decode cX2_findRows 32 = .ok (.aload_n 0, 1) := by decide +kernel
theorem dX2_findRows_33 : decode cX2_findRows 33 = .ok (.getfield 15, 3) := by decide +kernel
theorem dX2_findRows_36 : decode cX2_findRows 36 = .ok (.iload_n 2, 1) := by decide +kernel
theorem dX2_findRows_37 : decode cX2_findRows 37 = .ok (.iaload, 1) := by decide +kernel
theorem dX2_findRows_38 : decode cX2_findRows 38 = .ok (.if_icmp .gt 17, 3) := by decide +kernel
theorem dX2_findRows_41 : decode cX2_findRows 41 = .ok (.aload_n 0, 1) := by decide +kernel
theorem dX2_findRows_42 : decode cX2_findRows 42 = .ok (.getfield 98, 3) := by decide +kernel
theorem dX2_findRows_45 : decode cX2_findRows 45 = .ok (.iload_n 3, 1) := by decide +kernel
theorem dX2_findRows_46 : decode cX2_findRows 46 = .ok (.invokevirtual 102, 3) := by decide +kernel
theorem dX2_findRows_49 : decode cX2_findRows 49 = .ok (.iinc 3 1, 3) := by decide +kernel
theorem dX2_findRows_52 : decode cX2_findRows 52 = .ok (.goto (-21), 3) := by decide +kernel
theorem dX2_findRows_55 : decode cX2_findRows 55 = .ok (.iinc 2 1, 3) := by decide +kernel
theorem dX2_findRows_58 : decode cX2_findRows 58 = .ok (.goto (-42), 3) := by decide +kernel
theorem dX2_findRows_61 : decode cX2_findRows 61 = .ok (.aload_n 0, 1) := by decide +kernel
theorem dX2_findRows_62 : decode cX2_findRows 62 = .ok (.getfield 98, 3) := by decide +kernel
theorem dX2_findRows_65 : decode cX2_findRows 65 = .ok (.aload_n 0, 1) := by decide +kernel
theorem dX2_findRows_66 : decode cX2_findRows 66 = .ok (.getfield 21, 3) := by decide +kernel
theorem dX2_findRows_69 : decode cX2_findRows 69 = .ok (.aload_n 1, 1) := by decide +kernel
theorem dX2_findRows_70 : decode cX2_findRows 70 = .ok (.invokevirtual 105, 3) := by decide +kernel
theorem dX2_findRows_73 : decode cX2_findRows 73 = .ok (.aload_n 0, 1) := by decide +kernel
theorem dX2_findRows_74 : decode cX2_findRows 74 = .ok (.new 94, 3) := by decide +kernel
theorem dX2_findRows_77 : decode cX2_findRows 77 = .ok (.dup, 1) := by decide +kernel
theorem dX2_findRows_78 : decode cX2_findRows 78 = .ok (.bipush 13, 2) := by decide +kernel
theorem dX2_findRows_80 : decode cX2_findRows 80 = .ok (.invokespecial 96, 3) := by decide +kernel
theorem dX2_findRows_83 : decode cX2_findRows 83 = .ok (.putfield 109, 3) := by decide +kernel
theorem dX2_findRows_86 : decode cX2_findRows 86 = .ok (.iconst 1, 1) := by decide +kernel
theorem dX2_findRows_87 : decode cX2_findRows 87 = .ok (.istore_n 2, 1) := by decide +kernel
theorem dX2_findRows_88 : decode cX2_findRows 88 = .ok (.iload_n 2, 1) := by decide +kernel
theorem dX2_findRows_89 : decode cX2_findRows 89 = .ok (.bipush 12, 2) := by decide +kernel
theorem dX2_findRows_91 : decode cX2_findRows 91 = .ok (.if_icmp .gt 38, 3) := by decide +kernel
theorem dX2_findRows_94 : decode cX2_findRows 94 = .ok (.aload_n 0, 1) := by decide +kernel
theorem dX2_findRows_95 : decode cX2_findRows 95 = .ok (.getfield 32, 3) := by decide +kernel
theorem dX2_findRows_98 : decode cX2_findRows 98 = .ok (.iload_n 2, 1) := by decide +kernel
theorem dX2_findRows_99 : decode cX2_findRows 99 = .ok (.baload, 1) := by decide +kernel
theorem dX2_findRows_100 : decode cX2_findRows 100 = .ok (.ifCond .ne 15, 3) := by decide +kernel
theorem dX2_findRows_103 : decode cX2_findRows 103 = .ok (.aload_n 0, 1) := by decide +kernel
theorem dX2_findRows_104 : decode cX2_findRows 104 = .ok (.getfield 91, 3) := by decide +kernel
theorem dX2_findRows_107 : decode cX2_findRows 107 = .ok (.ifCond .ne 16, 3) := by decide +kernel
theorem dX2_findRows_110 : decode cX2_findRows 110 = .ok (.iload_n 2, 1) := by decide +kernel
theorem dX2_findRows_111 : decode cX2_findRows 111 = .ok (.iconst 1, 1) := by decide +kernel
theorem dX2_findRows_112 : decode cX2_findRows 112 = .ok (.if_icmp .ne 11, 3) := by decide +kernel
theorem dX2_findRows_115 : decode cX2_findRows 115 = .ok (.aload_n 0, 1) := by decide +kernel
theorem dX2_findRows_116 : decode cX2_findRows 116 = .ok (.getfield 109, 3) := by decide +kernel
theorem dX2_findRows_119 : decode cX2_findRows 119 = .ok (.iload_n 2, 1) := by decide +kernel
theorem dX2_findRows_120 : decode cX2_findRows 120 = .ok (.invokevirtual 102, 3) := by decide +kernel
theorem dX2_findRows_123 : decode cX2_findRows 123 = .ok (.iinc 2 1, 3) := by decide +kernel
theorem dX2_findRows_126 : decode cX2_findRows 126 = .ok (.goto (-38), 3) := by decide +kernel
theorem dX2_findRows_129 : decode cX2_findRows 129 = .ok (.aload_n 0, 1) := by decide +kernel
theorem dX2_findRows_130 : decode cX2_findRows 130 = .ok (.getfield 109, 3) := by decide +kernel
theorem dX2_findRows_133 : decode cX2_findRows 133 = .ok (.aload_n 0, 1) := by decide +kernel
theorem dX2_findRows_134 : decode cX2_findRows 134 = .ok (.getfield 28, 3) := by decide +kernel
theorem dX2_findRows_137 : decode cX2_findRows 137 = .ok (.aload_n 1, 1) := by decide +kernel
theorem dX2_findRows_138 : decode cX2_findRows 138 = .ok (.invokevirtual 105, 3) := by decide +kernel
theorem dX2_findRows_141 : decode cX2_findRows 141 = .ok (.return_, 1) := by decide +kernel
theorem dX2_extraOf_0 : decode cX2_extraOf 0 = .ok (.aload_n 0, 1) := by decide +kernel
theorem dX2_extraOf_1 : decode cX2_extraOf 1 = .ok (.getfield 36, 3) := by decide +kernel
theorem dX2_extraOf_4 : decode cX2_extraOf 4 = .ok (.iload_n 1, 1) := by decide +kernel
theorem dX2_extraOf_5 : decode cX2_extraOf 5 = .ok (.iaload, 1) := by decide +kernel
theorem dX2_extraOf_6 : decode cX2_extraOf 6 = .ok (.iconst 0, 1) := by decide +kernel
theorem dX2_extraOf_7 : decode cX2_extraOf 7 = .ok (.invokestatic 112, 3) := by decide +kernel
theorem dX2_extraOf_10 : decode cX2_extraOf 10 = .ok (.ireturn, 1) := by decide +kernel
theorem dX2_toldAt_0 : decode cX2_toldAt 0 = .ok (.aload_n 0, 1) := by decide +kernel
theorem dX2_toldAt_1 : decode cX2_toldAt 1 = .ok (.aload_n 1, 1) := by decide +kernel
theorem dX2_toldAt_2 : decode cX2_toldAt 2 = .ok (.getfield 117, 3) := by decide +kernel
theorem dX2_toldAt_5 : decode cX2_toldAt 5 = .ok (.aload_n 1, 1) := by decide +kernel
theorem dX2_toldAt_6 : decode cX2_toldAt 6 = .ok (.getfield 123, 3) := by decide +kernel
theorem dX2_toldAt_9 : decode cX2_toldAt 9 = .ok (.aload_n 1, 1) := by decide +kernel
theorem dX2_toldAt_10 : decode cX2_toldAt 10 = .ok (.getfield 126, 3) := by decide +kernel
theorem dX2_toldAt_13 : decode cX2_toldAt 13 = .ok (.aload_n 1, 1) := by decide +kernel
theorem dX2_toldAt_14 : decode cX2_toldAt 14 = .ok (.getfield 129, 3) := by decide +kernel
theorem dX2_toldAt_17 : decode cX2_toldAt 17 = .ok (.invokevirtual 132, 3) := by decide +kernel
theorem dX2_toldAt_20 : decode cX2_toldAt 20 = .ok (.ireturn, 1) := by decide +kernel
theorem dX2_toldFor_0 : decode cX2_toldFor 0 = .ok (.aload_n 1, 1) := by decide +kernel
theorem dX2_toldFor_1 : decode cX2_toldFor 1 = .ok (.iload_n 2, 1) := by decide +kernel
theorem dX2_toldFor_2 : decode cX2_toldFor 2 = .ok (.iload_n 3, 1) := by decide +kernel
theorem dX2_toldFor_3 : decode cX2_toldFor 3 = .ok (.iload 4, 2) := by decide +kernel
theorem dX2_toldFor_5 : decode cX2_toldFor 5 = .ok (.invokevirtual 136, 3) := by decide +kernel
theorem dX2_toldFor_8 : decode cX2_toldFor 8 = .ok (.iconst (-1), 1) := by decide +kernel
theorem dX2_toldFor_9 : decode cX2_toldFor 9 = .ok (.if_icmp .ne 5, 3) := by decide +kernel
theorem dX2_toldFor_12 : decode cX2_toldFor 12 = .ok (.iconst (-1), 1) := by decide +kernel
theorem dX2_toldFor_13 : decode cX2_toldFor 13 = .ok (.ireturn, 1) := by decide +kernel
theorem dX2_toldFor_14 : decode cX2_toldFor 14 = .ok (.aload_n 0, 1) := by decide +kernel
theorem dX2_toldFor_15 : decode cX2_toldFor 15 = .ok (.getfield 98, 3) := by decide +kernel
theorem dX2_toldFor_18 : decode cX2_toldFor 18 = .ok (.iload_n 2, 1) := by decide +kernel
theorem dX2_toldFor_19 : decode cX2_toldFor 19 = .ok (.invokevirtual 142, 3) := by decide +kernel
theorem dX2_toldFor_22 : decode cX2_toldFor 22 = .ok (.istore 5, 2) := by decide +kernel
theorem dX2_toldFor_24 : decode cX2_toldFor 24 = .ok (.aload_n 1, 1) := by decide +kernel
theorem dX2_toldFor_25 : decode cX2_toldFor 25 = .ok (.iload 5, 2) := by decide +kernel
theorem dX2_toldFor_27 : decode cX2_toldFor 27 = .ok (.aload_n 0, 1) := by decide +kernel
theorem dX2_toldFor_28 : decode cX2_toldFor 28 = .ok (.getfield 109, 3) := by decide +kernel
theorem dX2_toldFor_31 : decode cX2_toldFor 31 = .ok (.iload_n 3, 1) := by decide +kernel
theorem dX2_toldFor_32 : decode cX2_toldFor 32 = .ok (.invokevirtual 142, 3) := by decide +kernel
theorem dX2_toldFor_35 : decode cX2_toldFor 35 = .ok (.iconst 1, 1) := by decide +kernel
theorem dX2_toldFor_36 : decode cX2_toldFor 36 = .ok (.invokevirtual 136, 3) := by decide +kernel
theorem dX2_toldFor_39 : decode cX2_toldFor 39 = .ok (.istore 6, 2) := by decide +kernel
theorem dX2_toldFor_41 : decode cX2_toldFor 41 = .ok (.iload 6, 2) := by decide +kernel
theorem dX2_toldFor_43 : decode cX2_toldFor 43 = .ok (.iconst (-1), 1) := by decide +kernel
theorem dX2_toldFor_44 : decode cX2_toldFor 44 = .ok (.if_icmp .ne 5, 3) := by decide +kernel
theorem dX2_toldFor_47 : decode cX2_toldFor 47 = .ok (.iconst (-1), 1) := by decide +kernel
theorem dX2_toldFor_48 : decode cX2_toldFor 48 = .ok (.ireturn, 1) := by decide +kernel
theorem dX2_toldFor_49 : decode cX2_toldFor 49 = .ok (.iload 4, 2) := by decide +kernel
theorem dX2_toldFor_51 : decode cX2_toldFor 51 = .ok (.iconst 1, 1) := by decide +kernel
theorem dX2_toldFor_52 : decode cX2_toldFor 52 = .ok (.isub, 1) := by decide +kernel
theorem dX2_toldFor_53 : decode cX2_toldFor 53 = .ok (.istore 7, 2) := by decide +kernel
theorem dX2_toldFor_55 : decode cX2_toldFor 55 = .ok (.aload_n 0, 1) := by decide +kernel
theorem dX2_toldFor_56 : decode cX2_toldFor 56 = .ok (.iconst 2, 1) := by decide +kernel
theorem dX2_toldFor_57 : decode cX2_toldFor 57 = .ok (.invokevirtual 146, 3) := by decide +kernel
theorem dX2_toldFor_60 : decode cX2_toldFor 60 = .ok (.aload_n 0, 1) := by decide +kernel
theorem dX2_toldFor_61 : decode cX2_toldFor 61 = .ok (.getfield 98, 3) := by decide +kernel
theorem dX2_toldFor_64 : decode cX2_toldFor 64 = .ok (.iload_n 2, 1) := by decide +kernel
theorem dX2_toldFor_65 : decode cX2_toldFor 65 = .ok (.invokevirtual 149, 3) := by decide +kernel
theorem dX2_toldFor_68 : decode cX2_toldFor 68 = .ok (.iadd, 1) := by decide +kernel
theorem dX2_toldFor_69 : decode cX2_toldFor 69 = .ok (.aload_n 0, 1) := by decide +kernel
theorem dX2_toldFor_70 : decode cX2_toldFor 70 = .ok (.getfield 109, 3) := by decide +kernel
theorem dX2_toldFor_73 : decode cX2_toldFor 73 = .ok (.iload_n 3, 1) := by decide +kernel
theorem dX2_toldFor_74 : decode cX2_toldFor 74 = .ok (.invokevirtual 149, 3) := by decide +kernel
theorem dX2_toldFor_77 : decode cX2_toldFor 77 = .ok (.iadd, 1) := by decide +kernel
theorem dX2_toldFor_78 : decode cX2_toldFor 78 = .ok (.istore 8, 2) := by decide +kernel
theorem dX2_toldFor_80 : decode cX2_toldFor 80 = .ok (.iload 8, 2) := by decide +kernel
theorem dX2_toldFor_82 : decode cX2_toldFor 82 = .ok (.aload_n 0, 1) := by decide +kernel
theorem dX2_toldFor_83 : decode cX2_toldFor 83 = .ok (.iconst 0, 1) := by decide +kernel
theorem dX2_toldFor_84 : decode cX2_toldFor 84 = .ok (.invokevirtual 146, 3) := by decide +kernel
theorem dX2_toldFor_87 : decode cX2_toldFor 87 = .ok (.iload 7, 2) := by decide +kernel
theorem dX2_toldFor_89 : decode cX2_toldFor 89 = .ok (.bipush 7, 2) := by decide +kernel
theorem dX2_toldFor_91 : decode cX2_toldFor 91 = .ok (.idiv, 1) := by decide +kernel
theorem dX2_toldFor_92 : decode cX2_toldFor 92 = .ok (.imul, 1) := by decide +kernel
theorem dX2_toldFor_93 : decode cX2_toldFor 93 = .ok (.aload_n 0, 1) := by decide +kernel
theorem dX2_toldFor_94 : decode cX2_toldFor 94 = .ok (.iconst 1, 1) := by decide +kernel
theorem dX2_toldFor_95 : decode cX2_toldFor 95 = .ok (.invokevirtual 146, 3) := by decide +kernel
theorem dX2_toldFor_98 : decode cX2_toldFor 98 = .ok (.iload 7, 2) := by decide +kernel
theorem dX2_toldFor_100 : decode cX2_toldFor 100 = .ok (.bipush 7, 2) := by decide +kernel
theorem dX2_toldFor_102 : decode cX2_toldFor 102 = .ok (.irem, 1) := by decide +kernel
theorem dX2_toldFor_103 : decode cX2_toldFor 103 = .ok (.imul, 1) := by decide +kernel
theorem dX2_toldFor_104 : decode cX2_toldFor 104 = .ok (.iadd, 1) := by decide +kernel
theorem dX2_toldFor_105 : decode cX2_toldFor 105 = .ok (.iadd, 1) := by decide +kernel
theorem dX2_toldFor_106 : decode cX2_toldFor 106 = .ok (.istore 8, 2) := by decide +kernel
theorem dX2_toldFor_108 : decode cX2_toldFor 108 = .ok (.aload_n 1, 1) := by decide +kernel
theorem dX2_toldFor_109 : decode cX2_toldFor 109 = .ok (.iload 5, 2) := by decide +kernel
theorem dX2_toldFor_111 : decode cX2_toldFor 111 = .ok (.iconst 2, 1) := by decide +kernel
theorem dX2_toldFor_112 : decode cX2_toldFor 112 = .ok (.bipush 29, 2) := by decide +kernel
theorem dX2_toldFor_114 : decode cX2_toldFor 114 = .ok (.invokevirtual 136, 3) := by decide +kernel
theorem dX2_toldFor_117 : decode cX2_toldFor 117 = .ok (.iconst (-1), 1) := by decide +kernel
theorem dX2_toldFor_118 : decode cX2_toldFor 118 = .ok (.if_icmp .eq 13, 3) := by decide +kernel
theorem dX2_toldFor_121 : decode cX2_toldFor 121 = .ok (.iload 8, 2) := by decide +kernel
theorem dX2_toldFor_123 : decode cX2_toldFor 123 = .ok (.aload_n 0, 1) := by decide +kernel
theorem dX2_toldFor_124 : decode cX2_toldFor 124 = .ok (.iconst 3, 1) := by decide +kernel
theorem dX2_toldFor_125 : decode cX2_toldFor 125 = .ok (.invokevirtual 146, 3) := by decide +kernel
theorem dX2_toldFor_128 : decode cX2_toldFor 128 = .ok (.iadd, 1) := by decide +kernel
theorem dX2_toldFor_129 : decode cX2_toldFor 129 = .ok (.istore 8, 2) := by decide +kernel
theorem dX2_toldFor_131 : decode cX2_toldFor 131 = .ok (.iload 8, 2) := by decide +kernel
theorem dX2_toldFor_133 : decode cX2_toldFor 133 = .ok (.bipush 7, 2) := by decide +kernel
theorem dX2_toldFor_135 : decode cX2_toldFor 135 = .ok (.imul, 1) := by decide +kernel
theorem dX2_toldFor_136 : decode cX2_toldFor 136 = .ok (.iload 6, 2) := by decide +kernel
theorem dX2_toldFor_138 : decode cX2_toldFor 138 = .ok (.iload 7, 2) := by decide +kernel
theorem dX2_toldFor_140 : decode cX2_toldFor 140 = .ok (.iadd, 1) := by decide +kernel
theorem dX2_toldFor_141 : decode cX2_toldFor 141 = .ok (.bipush 7, 2) := by decide +kernel
theorem dX2_toldFor_143 : decode cX2_toldFor 143 = .ok (.irem, 1) := by decide +kernel
theorem dX2_toldFor_144 : decode cX2_toldFor 144 = .ok (.iadd, 1) := by decide +kernel
theorem dX2_toldFor_145 : decode cX2_toldFor 145 = .ok (.ireturn, 1) := by decide +kernel
theorem dX2_saysTo_0 : decode cX2_saysTo 0 = .ok (.aload_n 0, 1) := by decide +kernel
theorem dX2_saysTo_1 : decode cX2_saysTo 1 = .ok (.aload_n 1, 1) := by decide +kernel
theorem dX2_saysTo_2 : decode cX2_saysTo 2 = .ok (.iload_n 2, 1) := by decide +kernel
theorem dX2_saysTo_3 : decode cX2_saysTo 3 = .ok (.invokestatic 152, 3) := by decide +kernel
theorem dX2_saysTo_6 : decode cX2_saysTo 6 = .ok (.iload_n 2, 1) := by decide +kernel
theorem dX2_saysTo_7 : decode cX2_saysTo 7 = .ok (.invokestatic 155, 3) := by decide +kernel
theorem dX2_saysTo_10 : decode cX2_saysTo 10 = .ok (.iload_n 2, 1) := by decide +kernel
theorem dX2_saysTo_11 : decode cX2_saysTo 11 = .ok (.invokestatic 158, 3) := by decide +kernel
theorem dX2_saysTo_14 : decode cX2_saysTo 14 = .ok (.invokevirtual 132, 3) := by decide +kernel
theorem dX2_saysTo_17 : decode cX2_saysTo 17 = .ok (.istore_n 3, 1) := by decide +kernel
theorem dX2_saysTo_18 : decode cX2_saysTo 18 = .ok (.iload_n 3, 1) := by decide +kernel
theorem dX2_saysTo_19 : decode cX2_saysTo 19 = .ok (.iconst (-1), 1) := by decide +kernel
theorem dX2_saysTo_20 : decode cX2_saysTo 20 = .ok (.if_icmp .ne 8, 3) := by decide +kernel
theorem dX2_saysTo_23 : decode cX2_saysTo 23 = .ok (.bipush 7, 2) := by decide +kernel
theorem dX2_saysTo_25 : decode cX2_saysTo 25 = .ok (.goto 7, 3) := by decide +kernel
theorem dX2_saysTo_28 : decode cX2_saysTo 28 = .ok (.iload_n 3, 1) := by decide +kernel
theorem dX2_saysTo_29 : decode cX2_saysTo 29 = .ok (.bipush 7, 2) := by decide +kernel
theorem dX2_saysTo_31 : decode cX2_saysTo 31 = .ok (.irem, 1) := by decide +kernel
theorem dX2_saysTo_32 : decode cX2_saysTo 32 = .ok (.ireturn, 1) := by decide +kernel
theorem dX2_falseStep_0 : decode cX2_falseStep 0 = .ok (.aload_n 0, 1) := by decide +kernel
theorem dX2_falseStep_1 : decode cX2_falseStep 1 = .ok (.getfield 98, 3) := by decide +kernel
theorem dX2_falseStep_4 : decode cX2_falseStep 4 = .ok (.iload_n 2, 1) := by decide +kernel
theorem dX2_falseStep_5 : decode cX2_falseStep 5 = .ok (.invokevirtual 161, 3) := by decide +kernel
theorem dX2_falseStep_8 : decode cX2_falseStep 8 = .ok (.istore 4, 2) := by decide +kernel
theorem dX2_falseStep_10 : decode cX2_falseStep 10 = .ok (.iload_n 2, 1) := by decide +kernel
theorem dX2_falseStep_11 : decode cX2_falseStep 11 = .ok (.istore 5, 2) := by decide +kernel
theorem dX2_falseStep_13 : decode cX2_falseStep 13 = .ok (.iconst 0, 1) := by decide +kernel
theorem dX2_falseStep_14 : decode cX2_falseStep 14 = .ok (.istore 6, 2) := by decide +kernel
theorem dX2_falseStep_16 : decode cX2_falseStep 16 = .ok (.iload 6, 2) := by decide +kernel
theorem dX2_falseStep_18 : decode cX2_falseStep 18 = .ok (.iload 4, 2) := by decide +kernel
theorem dX2_falseStep_20 : decode cX2_falseStep 20 = .ok (.if_icmp .ge 41, 3) := by decide +kernel
theorem dX2_falseStep_23 : decode cX2_falseStep 23 = .ok (.aload_n 1, 1) := by decide +kernel
theorem dX2_falseStep_24 : decode cX2_falseStep 24 = .ok (.iload 5, 2) := by decide +kernel
theorem dX2_falseStep_26 : decode cX2_falseStep 26 = .ok (.aload_n 0, 1) := by decide +kernel
theorem dX2_falseStep_27 : decode cX2_falseStep 27 = .ok (.getfield 98, 3) := by decide +kernel
theorem dX2_falseStep_30 : decode cX2_falseStep 30 = .ok (.iload 5, 2) := by decide +kernel
theorem dX2_falseStep_32 : decode cX2_falseStep 32 = .ok (.invokevirtual 164, 3) := by decide +kernel
theorem dX2_falseStep_35 : decode cX2_falseStep 35 = .ok (.invokevirtual 167, 3) := by decide +kernel
theorem dX2_falseStep_38 : decode cX2_falseStep 38 = .ok (.ifCond .ne 6, 3) := by decide +kernel
theorem dX2_falseStep_41 : decode cX2_falseStep 41 = .ok (.iload 6, 2) := by decide +kernel
theorem dX2_falseStep_43 : decode cX2_falseStep 43 = .ok (.ireturn, 1) := by decide +kernel
theorem dX2_falseStep_44 : decode cX2_falseStep 44 = .ok (.aload_n 0, 1) := by decide +kernel
theorem dX2_falseStep_45 : decode cX2_falseStep 45 = .ok (.getfield 98, 3) := by decide +kernel
theorem dX2_falseStep_48 : decode cX2_falseStep 48 = .ok (.iload 5, 2) := by decide +kernel
theorem dX2_falseStep_50 : decode cX2_falseStep 50 = .ok (.invokevirtual 164, 3) := by decide +kernel
theorem dX2_falseStep_53 : decode cX2_falseStep 53 = .ok (.istore 5, 2) := by decide +kernel
theorem dX2_falseStep_55 : decode cX2_falseStep 55 = .ok (.iinc 6 1, 3) := by decide +kernel
theorem dX2_falseStep_58 : decode cX2_falseStep 58 = .ok (.goto (-42), 3) := by decide +kernel
theorem dX2_falseStep_61 : decode cX2_falseStep 61 = .ok (.iload_n 3, 1) := by decide +kernel
theorem dX2_falseStep_62 : decode cX2_falseStep 62 = .ok (.istore 6, 2) := by decide +kernel
theorem dX2_falseStep_64 : decode cX2_falseStep 64 = .ok (.iconst 0, 1) := by decide +kernel
theorem dX2_falseStep_65 : decode cX2_falseStep 65 = .ok (.istore 7, 2) := by decide +kernel
theorem dX2_falseStep_67 : decode cX2_falseStep 67 = .ok (.iload 7, 2) := by decide +kernel
theorem dX2_falseStep_69 : decode cX2_falseStep 69 = .ok (.aload_n 0, 1) := by decide +kernel
theorem dX2_falseStep_70 : decode cX2_falseStep 70 = .ok (.getfield 109, 3) := by decide +kernel
theorem dX2_falseStep_73 : decode cX2_falseStep 73 = .ok (.iload_n 3, 1) := by decide +kernel
theorem dX2_falseStep_74 : decode cX2_falseStep 74 = .ok (.invokevirtual 161, 3) := by decide +kernel
theorem dX2_falseStep_77 : decode cX2_falseStep 77 = .ok (.if_icmp .ge 46, 3) := by decide +kernel
theorem dX2_falseStep_80 : decode cX2_falseStep 80 = .ok (.aload_n 1, 1) := by decide +kernel
theorem dX2_falseStep_81 : decode cX2_falseStep 81 = .ok (.iload 5, 2) := by decide +kernel
theorem dX2_falseStep_83 : decode cX2_falseStep 83 = .ok (.iload 6, 2) := by decide +kernel
theorem dX2_falseStep_85 : decode cX2_falseStep 85 = .ok (.aload_n 0, 1) := by decide +kernel
theorem dX2_falseStep_86 : decode cX2_falseStep 86 = .ok (.getfield 109, 3) := by decide +kernel
theorem dX2_falseStep_89 : decode cX2_falseStep 89 = .ok (.iload 6, 2) := by decide +kernel
theorem dX2_falseStep_91 : decode cX2_falseStep 91 = .ok (.invokevirtual 164, 3) := by decide +kernel
theorem dX2_falseStep_94 : decode cX2_falseStep 94 = .ok (.invokevirtual 171, 3) := by decide +kernel
theorem dX2_falseStep_97 : decode cX2_falseStep 97 = .ok (.ifCond .ne 9, 3) := by decide +kernel
theorem dX2_falseStep_100 : decode cX2_falseStep 100 = .ok (.iload 4, 2) := by decide +kernel
theorem dX2_falseStep_102 : decode cX2_falseStep 102 = .ok (.iload 7, 2) := by decide +kernel
theorem dX2_falseStep_104 : decode cX2_falseStep 104 = .ok (.iadd, 1) := by decide +kernel
theorem dX2_falseStep_105 : decode cX2_falseStep 105 = .ok (.ireturn, 1) := by decide +kernel
theorem dX2_falseStep_106 : decode cX2_falseStep 106 = .ok (.aload_n 0, 1) := by decide +kernel
theorem dX2_falseStep_107 : decode cX2_falseStep 107 = .ok (.getfield 109, 3) := by decide +kernel
theorem dX2_falseStep_110 : decode cX2_falseStep 110 = .ok (.iload 6, 2) := by decide +kernel
theorem dX2_falseStep_112 : decode cX2_falseStep 112 = .ok (.invokevirtual 164, 3) := by decide +kernel
theorem dX2_falseStep_115 : decode cX2_falseStep 115 = .ok (.istore 6, 2) := by decide +kernel
theorem dX2_falseStep_117 : decode cX2_falseStep 117 = .ok (.iinc 7 1, 3) := by decide +kernel
theorem dX2_falseStep_120 : decode cX2_falseStep 120 = .ok (.goto (-53), 3) := by decide +kernel
theorem dX2_falseStep_123 : decode cX2_falseStep 123 = .ok (.iconst (-1), 1) := by decide +kernel
theorem dX2_falseStep_124 : decode cX2_falseStep 124 = .ok (.ireturn, 1) := by decide +kernel
theorem dX2_trueSteps_0 : decode cX2_trueSteps 0 = .ok (.aload_n 0, 1) := by decide +kernel
theorem dX2_trueSteps_1 : decode cX2_trueSteps 1 = .ok (.getfield 21, 3) := by decide +kernel
theorem dX2_trueSteps_4 : decode cX2_trueSteps 4 = .ok (.getfield 175, 3) := by decide +kernel
theorem dX2_trueSteps_7 : decode cX2_trueSteps 7 = .ok (.iload_n 2, 1) := by decide +kernel
theorem dX2_trueSteps_8 : decode cX2_trueSteps 8 = .ok (.iaload, 1) := by decide +kernel
theorem dX2_trueSteps_9 : decode cX2_trueSteps 9 = .ok (.istore 5, 2) := by decide +kernel
theorem dX2_trueSteps_11 : decode cX2_trueSteps 11 = .ok (.iconst 0, 1) := by decide +kernel
theorem dX2_trueSteps_12 : decode cX2_trueSteps 12 = .ok (.istore 6, 2) := by decide +kernel
theorem dX2_trueSteps_14 : decode cX2_trueSteps 14 = .ok (.iload_n 3, 1) := by decide +kernel
theorem dX2_trueSteps_15 : decode cX2_trueSteps 15 = .ok (.istore 7, 2) := by decide +kernel
theorem dX2_trueSteps_17 : decode cX2_trueSteps 17 = .ok (.iload 7, 2) := by decide +kernel
theorem dX2_trueSteps_19 : decode cX2_trueSteps 19 = .ok (.iload 5, 2) := by decide +kernel
theorem dX2_trueSteps_21 : decode cX2_trueSteps 21 = .ok (.iadd, 1) := by decide +kernel
theorem dX2_trueSteps_22 : decode cX2_trueSteps 22 = .ok (.iload 4, 2) := by decide +kernel
theorem dX2_trueSteps_24 : decode cX2_trueSteps 24 = .ok (.if_icmp .gt 26, 3) := by decide +kernel
theorem dX2_trueSteps_27 : decode cX2_trueSteps 27 = .ok (.aload_n 1, 1) := by decide +kernel
theorem dX2_trueSteps_28 : decode cX2_trueSteps 28 = .ok (.iload 7, 2) := by decide +kernel
theorem dX2_trueSteps_30 : decode cX2_trueSteps 30 = .ok (.iload 7, 2) := by decide +kernel
theorem dX2_trueSteps_32 : decode cX2_trueSteps 32 = .ok (.iload 5, 2) := by decide +kernel
theorem dX2_trueSteps_34 : decode cX2_trueSteps 34 = .ok (.iadd, 1) := by decide +kernel
theorem dX2_trueSteps_35 : decode cX2_trueSteps 35 = .ok (.invokevirtual 167, 3) := by decide +kernel
theorem dX2_trueSteps_38 : decode cX2_trueSteps 38 = .ok (.ifCond .eq 6, 3) := by decide +kernel
theorem dX2_trueSteps_41 : decode cX2_trueSteps 41 = .ok (.iinc 6 1, 3) := by decide +kernel
theorem dX2_trueSteps_44 : decode cX2_trueSteps 44 = .ok (.iinc 7 1, 3) := by decide +kernel
theorem dX2_trueSteps_47 : decode cX2_trueSteps 47 = .ok (.goto (-30), 3) := by decide +kernel
theorem dX2_trueSteps_50 : decode cX2_trueSteps 50 = .ok (.iload 6, 2) := by decide +kernel
theorem dX2_trueSteps_52 : decode cX2_trueSteps 52 = .ok (.ireturn, 1) := by decide +kernel
theorem dX2_truePairs_0 : decode cX2_truePairs 0 = .ok (.iconst 0, 1) := by decide +kernel
theorem dX2_truePairs_1 : decode cX2_truePairs 1 = .ok (.istore 5, 2) := by decide +kernel
theorem dX2_truePairs_3 : decode cX2_truePairs 3 = .ok (.iload_n 3, 1) := by decide +kernel
theorem dX2_truePairs_4 : decode cX2_truePairs 4 = .ok (.istore 6, 2) := by decide +kernel
theorem dX2_truePairs_6 : decode cX2_truePairs 6 = .ok (.iload 6, 2) := by decide +kernel
theorem dX2_truePairs_8 : decode cX2_truePairs 8 = .ok (.iload 4, 2) := by decide +kernel
theorem dX2_truePairs_10 : decode cX2_truePairs 10 = .ok (.if_icmp .gt 39, 3) := by decide +kernel
theorem dX2_truePairs_13 : decode cX2_truePairs 13 = .ok (.aload_n 1, 1) := by decide +kernel
theorem dX2_truePairs_14 : decode cX2_truePairs 14 = .ok (.iload 6, 2) := by decide +kernel
theorem dX2_truePairs_16 : decode cX2_truePairs 16 = .ok (.aload_n 0, 1) := by decide +kernel
theorem dX2_truePairs_17 : decode cX2_truePairs 17 = .ok (.getfield 28, 3) := by decide +kernel
theorem dX2_truePairs_20 : decode cX2_truePairs 20 = .ok (.getfield 178, 3) := by decide +kernel
theorem dX2_truePairs_23 : decode cX2_truePairs 23 = .ok (.iload_n 2, 1) := by decide +kernel
theorem dX2_truePairs_24 : decode cX2_truePairs 24 = .ok (.iaload, 1) := by decide +kernel
theorem dX2_truePairs_25 : decode cX2_truePairs 25 = .ok (.aload_n 0, 1) := by decide +kernel
theorem dX2_truePairs_26 : decode cX2_truePairs 26 = .ok (.getfield 28, 3) := by decide +kernel
theorem dX2_truePairs_29 : decode cX2_truePairs 29 = .ok (.getfield 181, 3) := by decide +kernel
theorem dX2_truePairs_32 : decode cX2_truePairs 32 = .ok (.iload_n 2, 1) := by decide +kernel
theorem dX2_truePairs_33 : decode cX2_truePairs 33 = .ok (.iaload, 1) := by decide +kernel
theorem dX2_truePairs_34 : decode cX2_truePairs 34 = .ok (.invokevirtual 171, 3) := by decide +kernel
theorem dX2_truePairs_37 : decode cX2_truePairs 37 = .ok (.ifCond .eq 6, 3) := by decide +kernel
theorem dX2_truePairs_40 : decode cX2_truePairs 40 = .ok (.iinc 5 1, 3) := by decide +kernel
theorem dX2_truePairs_43 : decode cX2_truePairs 43 = .ok (.iinc 6 1, 3) := by decide +kernel
theorem dX2_truePairs_46 : decode cX2_truePairs 46 = .ok (.goto (-40), 3) := by decide +kernel
theorem dX2_truePairs_49 : decode cX2_truePairs 49 = .ok (.iload 5, 2) := by decide +kernel
theorem dX2_truePairs_51 : decode cX2_truePairs 51 = .ok (.ireturn, 1) := by decide +kernel
theorem dX2_monthsLacked_0 : decode cX2_monthsLacked 0 = .ok (.iconst 0, 1) := by decide +kernel
theorem dX2_monthsLacked_1 : decode cX2_monthsLacked 1 = .ok (.istore_n 1, 1) := by decide +kernel
theorem dX2_monthsLacked_2 : decode cX2_monthsLacked 2 = .ok (.iconst 1, 1) := by decide +kernel
theorem dX2_monthsLacked_3 : decode cX2_monthsLacked 3 = .ok (.istore_n 2, 1) := by decide +kernel
theorem dX2_monthsLacked_4 : decode cX2_monthsLacked 4 = .ok (.iload_n 2, 1) := by decide +kernel
theorem dX2_monthsLacked_5 : decode cX2_monthsLacked 5 = .ok (.bipush 12, 2) := by decide +kernel
theorem dX2_monthsLacked_7 : decode cX2_monthsLacked 7 = .ok (.if_icmp .gt 29, 3) := by decide +kernel
theorem dX2_monthsLacked_10 : decode cX2_monthsLacked 10 = .ok (.aload_n 0, 1) := by decide +kernel
theorem dX2_monthsLacked_11 : decode cX2_monthsLacked 11 = .ok (.getfield 109, 3) := by decide +kernel
theorem dX2_monthsLacked_14 : decode cX2_monthsLacked 14 = .ok (.iload_n 2, 1) := by decide +kernel
theorem dX2_monthsLacked_15 : decode cX2_monthsLacked 15 = .ok (.invokevirtual 149, 3) := by decide +kernel
theorem dX2_monthsLacked_18 : decode cX2_monthsLacked 18 = .ok (.iconst (-1), 1) := by decide +kernel
theorem dX2_monthsLacked_19 : decode cX2_monthsLacked 19 = .ok (.if_icmp .ne 11, 3) := by decide +kernel
theorem dX2_monthsLacked_22 : decode cX2_monthsLacked 22 = .ok (.iload_n 1, 1) := by decide +kernel
theorem dX2_monthsLacked_23 : decode cX2_monthsLacked 23 = .ok (.iconst 1, 1) := by decide +kernel
theorem dX2_monthsLacked_24 : decode cX2_monthsLacked 24 = .ok (.iload_n 2, 1) := by decide +kernel
theorem dX2_monthsLacked_25 : decode cX2_monthsLacked 25 = .ok (.iconst 1, 1) := by decide +kernel
theorem dX2_monthsLacked_26 : decode cX2_monthsLacked 26 = .ok (.isub, 1) := by decide +kernel
theorem dX2_monthsLacked_27 : decode cX2_monthsLacked 27 = .ok (.ishl, 1) := by decide +kernel
theorem dX2_monthsLacked_28 : decode cX2_monthsLacked 28 = .ok (.ior, 1) := by decide +kernel
theorem dX2_monthsLacked_29 : decode cX2_monthsLacked 29 = .ok (.istore_n 1, 1) := by decide +kernel
theorem dX2_monthsLacked_30 : decode cX2_monthsLacked 30 = .ok (.iinc 2 1, 3) := by decide +kernel
theorem dX2_monthsLacked_33 : decode cX2_monthsLacked 33 = .ok (.goto (-29), 3) := by decide +kernel
theorem dX2_monthsLacked_36 : decode cX2_monthsLacked 36 = .ok (.iload_n 1, 1) := by decide +kernel
theorem dX2_monthsLacked_37 : decode cX2_monthsLacked 37 = .ok (.ireturn, 1) := by decide +kernel
theorem dX3_init_0 : decode cX3_init 0 = .ok (.aload_n 0, 1) := by decide +kernel
theorem dX3_init_1 : decode cX3_init 1 = .ok (.invokespecial 1, 3) := by decide +kernel
theorem dX3_init_4 : decode cX3_init 4 = .ok (.aload_n 0, 1) := by decide +kernel
theorem dX3_init_5 : decode cX3_init 5 = .ok (.iload_n 1, 1) := by decide +kernel
theorem dX3_init_6 : decode cX3_init 6 = .ok (.iconst 1, 1) := by decide +kernel
theorem dX3_init_7 : decode cX3_init 7 = .ok (.iadd, 1) := by decide +kernel
theorem dX3_init_8 : decode cX3_init 8 = .ok (.newarray .int, 2) := by decide +kernel
theorem dX3_init_10 : decode cX3_init 10 = .ok (.putfield 7, 3) := by decide +kernel
theorem dX3_init_13 : decode cX3_init 13 = .ok (.aload_n 0, 1) := by decide +kernel
theorem dX3_init_14 : decode cX3_init 14 = .ok (.iload_n 1, 1) := by decide +kernel
theorem dX3_init_15 : decode cX3_init 15 = .ok (.iconst 1, 1) := by decide +kernel
theorem dX3_init_16 : decode cX3_init 16 = .ok (.iadd, 1) := by decide +kernel
theorem dX3_init_17 : decode cX3_init 17 = .ok (.newarray .int, 2) := by decide +kernel
theorem dX3_init_19 : decode cX3_init 19 = .ok (.putfield 13, 3) := by decide +kernel
theorem dX3_init_22 : decode cX3_init 22 = .ok (.return_, 1) := by decide +kernel
theorem dX3_empty_0 : decode cX3_empty 0 = .ok (.iconst 1, 1) := by decide +kernel
theorem dX3_empty_1 : decode cX3_empty 1 = .ok (.istore_n 1, 1) := by decide +kernel
theorem dX3_empty_2 : decode cX3_empty 2 = .ok (.iload_n 1, 1) := by decide +kernel
theorem dX3_empty_3 : decode cX3_empty 3 = .ok (.aload_n 0, 1) := by decide +kernel
theorem dX3_empty_4 : decode cX3_empty 4 = .ok (.getfield 16, 3) := by decide +kernel
theorem dX3_empty_7 : decode cX3_empty 7 = .ok (.if_icmp .gt 30, 3) := by decide +kernel
theorem dX3_empty_10 : decode cX3_empty 10 = .ok (.iload_n 1, 1) := by decide +kernel
theorem dX3_empty_11 : decode cX3_empty 11 = .ok (.aload_n 0, 1) := by decide +kernel
theorem dX3_empty_12 : decode cX3_empty 12 = .ok (.getfield 7, 3) := by decide +kernel
theorem dX3_empty_15 : decode cX3_empty 15 = .ok (.arraylength, 1) := by decide +kernel
theorem dX3_empty_16 : decode cX3_empty 16 = .ok (.if_icmp .ge 21, 3) := by decide +kernel
theorem dX3_empty_19 : decode cX3_empty 19 = .ok (.aload_n 0, 1) := by decide +kernel
theorem dX3_empty_20 : decode cX3_empty 20 = .ok (.getfield 13, 3) := by decide +kernel
theorem dX3_empty_23 : decode cX3_empty 23 = .ok (.aload_n 0, 1) := by decide +kernel
theorem dX3_empty_24 : decode cX3_empty 24 = .ok (.getfield 7, 3) := by decide +kernel
theorem dX3_empty_27 : decode cX3_empty 27 = .ok (.iload_n 1, 1) := by decide +kernel
theorem dX3_empty_28 : decode cX3_empty 28 = .ok (.iaload, 1) := by decide +kernel
theorem dX3_empty_29 : decode cX3_empty 29 = .ok (.iconst 0, 1) := by decide +kernel
theorem dX3_empty_30 : decode cX3_empty 30 = .ok (.iastore, 1) := by decide +kernel
theorem dX3_empty_31 : decode cX3_empty 31 = .ok (.iinc 1 1, 3) := by decide +kernel
theorem dX3_empty_34 : decode cX3_empty 34 = .ok (.goto (-32), 3) := by decide +kernel
theorem dX3_empty_37 : decode cX3_empty 37 = .ok (.aload_n 0, 1) := by decide +kernel
theorem dX3_empty_38 : decode cX3_empty 38 = .ok (.iconst 0, 1) := by decide +kernel
theorem dX3_empty_39 : decode cX3_empty 39 = .ok (.putfield 16, 3) := by decide +kernel
theorem dX3_empty_42 : decode cX3_empty 42 = .ok (.return_, 1) := by decide +kernel
theorem dX3_put_0 : decode cX3_put 0 = .ok (.iload_n 1, 1) := by decide +kernel
theorem dX3_put_1 : decode cX3_put 1 = .ok (.iconst 1, 1) := by decide +kernel
theorem dX3_put_2 : decode cX3_put 2 = .ok (.if_icmp .lt 18, 3) := by decide +kernel
theorem dX3_put_5 : decode cX3_put 5 = .ok (.iload_n 1, 1) := by decide +kernel
theorem dX3_put_6 : decode cX3_put 6 = .ok (.aload_n 0, 1) := by decide +kernel
theorem dX3_put_7 : decode cX3_put 7 = .ok (.getfield 13, 3) := by decide +kernel
theorem dX3_put_10 : decode cX3_put 10 = .ok (.arraylength, 1) := by decide +kernel
theorem dX3_put_11 : decode cX3_put 11 = .ok (.if_icmp .ge 9, 3) := by decide +kernel
theorem dX3_put_14 : decode cX3_put 14 = .ok (.iload_n 1, 1) := by decide +kernel
theorem dX3_put_15 : decode cX3_put 15 = .ok (.aload_n 2, 1) := by decide +kernel
theorem dX3_put_16 : decode cX3_put 16 = .ok (.arraylength, 1) := by decide +kernel
theorem dX3_put_17 : decode cX3_put 17 = .ok (.if_icmp .lt 4, 3) := by decide +kernel
theorem dX3_put_20 : decode cX3_put 20 = .ok (.return_, 1) := by decide +kernel
theorem dX3_put_21 : decode cX3_put 21 = .ok (.aload_n 0, 1) := by decide +kernel
theorem dX3_put_22 : decode cX3_put 22 = .ok (.getfield 13, 3) := by decide +kernel
theorem dX3_put_25 : decode cX3_put 25 = .ok (.iload_n 1, 1) := by decide +kernel
theorem dX3_put_26 : decode cX3_put 26 = .ok (.iaload, 1) := by decide +kernel
theorem dX3_put_27 : decode cX3_put 27 = .ok (.ifCond .ne 37, 3) := by decide +kernel
theorem dX3_put_30 : decode cX3_put 30 = .ok (.aload_n 0, 1) := by decide +kernel
theorem dX3_put_31 : decode cX3_put 31 = .ok (.getfield 16, 3) := by decide +kernel
theorem dX3_put_34 : decode cX3_put 34 = .ok (.iconst 1, 1) := by decide +kernel
theorem dX3_put_35 : decode cX3_put 35 = .ok (.iadd, 1) := by decide +kernel
theorem dX3_put_36 : decode cX3_put 36 = .ok (.aload_n 0, 1) := by decide +kernel
theorem dX3_put_37 : decode cX3_put 37 = .ok (.getfield 7, 3) := by decide +kernel
theorem dX3_put_40 : decode cX3_put 40 = .ok (.arraylength, 1) := by decide +kernel
theorem dX3_put_41 : decode cX3_put 41 = .ok (.if_icmp .lt 4, 3) := by decide +kernel
theorem dX3_put_44 : decode cX3_put 44 = .ok (.return_, 1) := by decide +kernel
theorem dX3_put_45 : decode cX3_put 45 = .ok (.aload_n 0, 1) := by decide +kernel
theorem dX3_put_46 : decode cX3_put 46 = .ok (.dup, 1) := by decide +kernel
theorem dX3_put_47 : decode cX3_put 47 = .ok (.getfield 16, 3) := by decide +kernel
theorem dX3_put_50 : decode cX3_put 50 = .ok (.iconst 1, 1) := by decide +kernel
theorem dX3_put_51 : decode cX3_put 51 = .ok (.iadd, 1) := by decide +kernel
theorem dX3_put_52 : decode cX3_put 52 = .ok (.putfield 16, 3) := by decide +kernel
theorem dX3_put_55 : decode cX3_put 55 = .ok (.aload_n 0, 1) := by decide +kernel
theorem dX3_put_56 : decode cX3_put 56 = .ok (.aload_n 0, 1) := by decide +kernel
theorem dX3_put_57 : decode cX3_put 57 = .ok (.getfield 16, 3) := by decide +kernel
theorem dX3_put_60 : decode cX3_put 60 = .ok (.iload_n 1, 1) := by decide +kernel
theorem dX3_put_61 : decode cX3_put 61 = .ok (.invokevirtual 20, 3) := by decide +kernel
theorem dX3_put_64 : decode cX3_put 64 = .ok (.aload_n 0, 1) := by decide +kernel
theorem dX3_put_65 : decode cX3_put 65 = .ok (.getfield 13, 3) := by decide +kernel
theorem dX3_put_68 : decode cX3_put 68 = .ok (.iload_n 1, 1) := by decide +kernel
theorem dX3_put_69 : decode cX3_put 69 = .ok (.iaload, 1) := by decide +kernel
theorem dX3_put_70 : decode cX3_put 70 = .ok (.istore_n 3, 1) := by decide +kernel
theorem dX3_put_71 : decode cX3_put 71 = .ok (.iload_n 3, 1) := by decide +kernel
theorem dX3_put_72 : decode cX3_put 72 = .ok (.iconst 1, 1) := by decide +kernel
theorem dX3_put_73 : decode cX3_put 73 = .ok (.if_icmp .le 40, 3) := by decide +kernel
theorem dX3_put_76 : decode cX3_put 76 = .ok (.aload_n 2, 1) := by decide +kernel
theorem dX3_put_77 : decode cX3_put 77 = .ok (.aload_n 0, 1) := by decide +kernel
theorem dX3_put_78 : decode cX3_put 78 = .ok (.getfield 7, 3) := by decide +kernel
theorem dX3_put_81 : decode cX3_put 81 = .ok (.iload_n 3, 1) := by decide +kernel
theorem dX3_put_82 : decode cX3_put 82 = .ok (.iconst 1, 1) := by decide +kernel
theorem dX3_put_83 : decode cX3_put 83 = .ok (.ishr, 1) := by decide +kernel
theorem dX3_put_84 : decode cX3_put 84 = .ok (.iaload, 1) := by decide +kernel
theorem dX3_put_85 : decode cX3_put 85 = .ok (.laload, 1) := by decide +kernel
theorem dX3_put_86 : decode cX3_put 86 = .ok (.aload_n 2, 1) := by decide +kernel
theorem dX3_put_87 : decode cX3_put 87 = .ok (.iload_n 1, 1) := by decide +kernel
theorem dX3_put_88 : decode cX3_put 88 = .ok (.laload, 1) := by decide +kernel
theorem dX3_put_89 : decode cX3_put 89 = .ok (.lcmp, 1) := by decide +kernel
theorem dX3_put_90 : decode cX3_put 90 = .ok (.ifCond .le 23, 3) := by decide +kernel
theorem dX3_put_93 : decode cX3_put 93 = .ok (.aload_n 0, 1) := by decide +kernel
theorem dX3_put_94 : decode cX3_put 94 = .ok (.iload_n 3, 1) := by decide +kernel
theorem dX3_put_95 : decode cX3_put 95 = .ok (.aload_n 0, 1) := by decide +kernel
theorem dX3_put_96 : decode cX3_put 96 = .ok (.getfield 7, 3) := by decide +kernel
theorem dX3_put_99 : decode cX3_put 99 = .ok (.iload_n 3, 1) := by decide +kernel
theorem dX3_put_100 : decode cX3_put 100 = .ok (.iconst 1, 1) := by decide +kernel
theorem dX3_put_101 : decode cX3_put 101 = .ok (.ishr, 1) := by decide +kernel
theorem dX3_put_102 : decode cX3_put 102 = .ok (.iaload, 1) := by decide +kernel
theorem dX3_put_103 : decode cX3_put 103 = .ok (.invokevirtual 20, 3) := by decide +kernel
theorem dX3_put_106 : decode cX3_put 106 = .ok (.iload_n 3, 1) := by decide +kernel
theorem dX3_put_107 : decode cX3_put 107 = .ok (.iconst 1, 1) := by decide +kernel
theorem dX3_put_108 : decode cX3_put 108 = .ok (.ishr, 1) := by decide +kernel
theorem dX3_put_109 : decode cX3_put 109 = .ok (.istore_n 3, 1) := by decide +kernel
theorem dX3_put_110 : decode cX3_put 110 = .ok (.goto (-39), 3) := by decide +kernel
theorem dX3_put_113 : decode cX3_put 113 = .ok (.aload_n 0, 1) := by decide +kernel
theorem dX3_put_114 : decode cX3_put 114 = .ok (.iload_n 3, 1) := by decide +kernel
theorem dX3_put_115 : decode cX3_put 115 = .ok (.iload_n 1, 1) := by decide +kernel
theorem dX3_put_116 : decode cX3_put 116 = .ok (.invokevirtual 20, 3) := by decide +kernel
theorem dX3_put_119 : decode cX3_put 119 = .ok (.return_, 1) := by decide +kernel
theorem dX3_takeLeast_0 : decode cX3_takeLeast 0 = .ok (.aload_n 0, 1) := by decide +kernel
theorem dX3_takeLeast_1 : decode cX3_takeLeast 1 = .ok (.getfield 16, 3) := by decide +kernel
theorem dX3_takeLeast_4 : decode cX3_takeLeast 4 = .ok (.iconst 1, 1) := by decide +kernel
theorem dX3_takeLeast_5 : decode cX3_takeLeast 5 = .ok (.if_icmp .lt 15, 3) := by decide +kernel
theorem dX3_takeLeast_8 : decode cX3_takeLeast 8 = .ok (.aload_n 0, 1) := by decide +kernel
theorem dX3_takeLeast_9 : decode cX3_takeLeast 9 = .ok (.getfield 16, 3) := by decide +kernel
theorem dX3_takeLeast_12 : decode cX3_takeLeast 12 = .ok (.aload_n 0, 1) := by decide +kernel
theorem dX3_takeLeast_13 : decode cX3_takeLeast 13 = .ok (.getfield 7, 3) := by decide +kernel
theorem dX3_takeLeast_16 : decode cX3_takeLeast 16 = .ok (.arraylength, 1) := by decide +kernel
theorem dX3_takeLeast_17 : decode cX3_takeLeast 17 = .ok (.if_icmp .lt 5, 3) := by decide +kernel
theorem dX3_takeLeast_20 : decode cX3_takeLeast 20 = .ok (.iconst 0, 1) := by decide +kernel
theorem dX3_takeLeast_21 : decode cX3_takeLeast 21 = .ok (.ireturn, 1) := by decide +kernel
theorem dX3_takeLeast_22 : decode cX3_takeLeast 22 = .ok (.aload_n 0, 1) := by decide +kernel
theorem dX3_takeLeast_23 : decode cX3_takeLeast 23 = .ok (.getfield 7, 3) := by decide +kernel
theorem dX3_takeLeast_26 : decode cX3_takeLeast 26 = .ok (.iconst 1, 1) := by decide +kernel
theorem dX3_takeLeast_27 : decode cX3_takeLeast 27 = .ok (.iaload, 1) := by decide +kernel
theorem dX3_takeLeast_28 : decode cX3_takeLeast 28 = .ok (.istore_n 2, 1) := by decide +kernel
theorem dX3_takeLeast_29 : decode cX3_takeLeast 29 = .ok (.aload_n 0, 1) := by decide +kernel
theorem dX3_takeLeast_30 : decode cX3_takeLeast 30 = .ok (.getfield 13, 3) := by decide +kernel
theorem dX3_takeLeast_33 : decode cX3_takeLeast 33 = .ok (.iload_n 2, 1) := by decide +kernel
theorem dX3_takeLeast_34 : decode cX3_takeLeast 34 = .ok (.iconst 0, 1) := by decide +kernel
theorem dX3_takeLeast_35 : decode cX3_takeLeast 35 = .ok (.iastore, 1) := by decide +kernel
theorem dX3_takeLeast_36 : decode cX3_takeLeast 36 = .ok (.aload_n 0, 1) := by decide +kernel
theorem dX3_takeLeast_37 : decode cX3_takeLeast 37 = .ok (.getfield 7, 3) := by decide +kernel
theorem dX3_takeLeast_40 : decode cX3_takeLeast 40 = .ok (.aload_n 0, 1) := by decide +kernel
theorem dX3_takeLeast_41 : decode cX3_takeLeast 41 = .ok (.getfield 16, 3) := by decide +kernel
theorem dX3_takeLeast_44 : decode cX3_takeLeast 44 = .ok (.iaload, 1) := by decide +kernel
theorem dX3_takeLeast_45 : decode cX3_takeLeast 45 = .ok (.istore_n 3, 1) := by decide +kernel
theorem dX3_takeLeast_46 : decode cX3_takeLeast 46 = .ok (.aload_n 0, 1) := by decide +kernel
theorem dX3_takeLeast_47 : decode cX3_takeLeast 47 = .ok (.dup, 1) := by decide +kernel
theorem dX3_takeLeast_48 : decode cX3_takeLeast 48 = .ok (.getfield 16, 3) := by decide +kernel
theorem dX3_takeLeast_51 : decode cX3_takeLeast 51 = .ok (.iconst 1, 1) := by decide +kernel
theorem dX3_takeLeast_52 : decode cX3_takeLeast 52 = .ok (.isub, 1) := by decide +kernel
theorem dX3_takeLeast_53 : decode cX3_takeLeast 53 = .ok (.putfield 16, 3) := by decide +kernel
theorem dX3_takeLeast_56 : decode cX3_takeLeast 56 = .ok (.aload_n 0, 1) := by decide +kernel
theorem dX3_takeLeast_57 : decode cX3_takeLeast 57 = .ok (.getfield 16, 3) := by decide +kernel
theorem dX3_takeLeast_60 : decode cX3_takeLeast 60 = .ok (.ifCond .le 9, 3) := by decide +kernel
theorem dX3_takeLeast_63 : decode cX3_takeLeast 63 = .ok (.aload_n 0, 1) := by decide +kernel
theorem dX3_takeLeast_64 : decode cX3_takeLeast 64 = .ok (.iload_n 3, 1) := by decide +kernel
theorem dX3_takeLeast_65 : decode cX3_takeLeast 65 = .ok (.aload_n 1, 1) := by decide +kernel
theorem dX3_takeLeast_66 : decode cX3_takeLeast 66 = .ok (.invokevirtual 24, 3) := by decide +kernel
theorem dX3_takeLeast_69 : decode cX3_takeLeast 69 = .ok (.iload_n 2, 1) := by decide +kernel
theorem dX3_takeLeast_70 : decode cX3_takeLeast 70 = .ok (.ireturn, 1) := by decide +kernel
theorem dX3_sink_0 : decode cX3_sink 0 = .ok (.iconst 1, 1) := by decide +kernel
theorem dX3_sink_1 : decode cX3_sink 1 = .ok (.istore_n 3, 1) := by decide +kernel
theorem dX3_sink_2 : decode cX3_sink 2 = .ok (.aload_n 0, 1) := by decide +kernel
theorem dX3_sink_3 : decode cX3_sink 3 = .ok (.iload_n 3, 1) := by decide +kernel
theorem dX3_sink_4 : decode cX3_sink 4 = .ok (.aload_n 2, 1) := by decide +kernel
theorem dX3_sink_5 : decode cX3_sink 5 = .ok (.invokevirtual 28, 3) := by decide +kernel
theorem dX3_sink_8 : decode cX3_sink 8 = .ok (.istore 4, 2) := by decide +kernel
theorem dX3_sink_10 : decode cX3_sink 10 = .ok (.iconst 0, 1) := by decide +kernel
theorem dX3_sink_11 : decode cX3_sink 11 = .ok (.istore 5, 2) := by decide +kernel
theorem dX3_sink_13 : decode cX3_sink 13 = .ok (.iload 5, 2) := by decide +kernel
theorem dX3_sink_15 : decode cX3_sink 15 = .ok (.bipush 31, 2) := by decide +kernel
theorem dX3_sink_17 : decode cX3_sink 17 = .ok (.if_icmp .ge 56, 3) := by decide +kernel
theorem dX3_sink_20 : decode cX3_sink 20 = .ok (.iload 4, 2) := by decide +kernel
theorem dX3_sink_22 : decode cX3_sink 22 = .ok (.ifCond .eq 51, 3) := by decide +kernel
theorem dX3_sink_25 : decode cX3_sink 25 = .ok (.aload_n 2, 1) := by decide +kernel
theorem dX3_sink_26 : decode cX3_sink 26 = .ok (.aload_n 0, 1) := by decide +kernel
theorem dX3_sink_27 : decode cX3_sink 27 = .ok (.getfield 7, 3) := by decide +kernel
theorem dX3_sink_30 : decode cX3_sink 30 = .ok (.iload 4, 2) := by decide +kernel
theorem dX3_sink_32 : decode cX3_sink 32 = .ok (.iaload, 1) := by decide +kernel
theorem dX3_sink_33 : decode cX3_sink 33 = .ok (.laload, 1) := by decide +kernel
theorem dX3_sink_34 : decode cX3_sink 34 = .ok (.aload_n 2, 1) := by decide +kernel
theorem dX3_sink_35 : decode cX3_sink 35 = .ok (.iload_n 1, 1) := by decide +kernel
theorem dX3_sink_36 : decode cX3_sink 36 = .ok (.laload, 1) := by decide +kernel
theorem dX3_sink_37 : decode cX3_sink 37 = .ok (.lcmp, 1) := by decide +kernel
theorem dX3_sink_38 : decode cX3_sink 38 = .ok (.ifCond .lt 6, 3) := by decide +kernel
theorem dX3_sink_41 : decode cX3_sink 41 = .ok (.goto 32, 3) := by decide +kernel
theorem dX3_sink_44 : decode cX3_sink 44 = .ok (.aload_n 0, 1) := by decide +kernel
theorem dX3_sink_45 : decode cX3_sink 45 = .ok (.iload_n 3, 1) := by decide +kernel
theorem dX3_sink_46 : decode cX3_sink 46 = .ok (.aload_n 0, 1) := by decide +kernel
theorem dX3_sink_47 : decode cX3_sink 47 = .ok (.getfield 7, 3) := by decide +kernel
theorem dX3_sink_50 : decode cX3_sink 50 = .ok (.iload 4, 2) := by decide +kernel
theorem dX3_sink_52 : decode cX3_sink 52 = .ok (.iaload, 1) := by decide +kernel
theorem dX3_sink_53 : decode cX3_sink 53 = .ok (.invokevirtual 20, 3) := by decide +kernel
theorem dX3_sink_56 : decode cX3_sink 56 = .ok (.iload 4, 2) := by decide +kernel
theorem dX3_sink_58 : decode cX3_sink 58 = .ok (.istore_n 3, 1) := by decide +kernel
theorem dX3_sink_59 : decode cX3_sink 59 = .ok (.aload_n 0, 1) := by decide +kernel
theorem dX3_sink_60 : decode cX3_sink 60 = .ok (.iload_n 3, 1) := by decide +kernel
theorem dX3_sink_61 : decode cX3_sink 61 = .ok (.aload_n 2, 1) := by decide +kernel
theorem dX3_sink_62 : decode cX3_sink 62 = .ok (.invokevirtual 28, 3) := by decide +kernel
theorem dX3_sink_65 : decode cX3_sink 65 = .ok (.istore 4, 2) := by decide +kernel
theorem dX3_sink_67 : decode cX3_sink 67 = .ok (.iinc 5 1, 3) := by decide +kernel
theorem dX3_sink_70 : decode cX3_sink 70 = .ok (.goto (-57), 3) := by decide +kernel
theorem dX3_sink_73 : decode cX3_sink 73 = .ok (.aload_n 0, 1) := by decide +kernel
theorem dX3_sink_74 : decode cX3_sink 74 = .ok (.iload_n 3, 1) := by decide +kernel
theorem dX3_sink_75 : decode cX3_sink 75 = .ok (.iload_n 1, 1) := by decide +kernel
theorem dX3_sink_76 : decode cX3_sink 76 = .ok (.invokevirtual 20, 3) := by decide +kernel
theorem dX3_sink_79 : decode cX3_sink 79 = .ok (.return_, 1) := by decide +kernel
theorem dX3_lesserChild_0 : decode cX3_lesserChild 0 = .ok (.iconst 2, 1) := by decide +kernel
theorem dX3_lesserChild_1 : decode cX3_lesserChild 1 = .ok (.iload_n 1, 1) := by decide +kernel
theorem dX3_lesserChild_2 : decode cX3_lesserChild 2 = .ok (.imul, 1) := by decide +kernel
theorem dX3_lesserChild_3 : decode cX3_lesserChild 3 = .ok (.istore_n 3, 1) := by decide +kernel
theorem dX3_lesserChild_4 : decode cX3_lesserChild 4 = .ok (.iload_n 3, 1) := by decide +kernel
theorem dX3_lesserChild_5 : decode cX3_lesserChild 5 = .ok (.aload_n 0, 1) := by decide +kernel
theorem dX3_lesserChild_6 : decode cX3_lesserChild 6 = .ok (.getfield 16, 3) := by decide +kernel
theorem dX3_lesserChild_9 : decode cX3_lesserChild 9 = .ok (.if_icmp .le 5, 3) := by decide +kernel
theorem dX3_lesserChild_12 : decode cX3_lesserChild 12 = .ok (.iconst 0, 1) := by decide +kernel
theorem dX3_lesserChild_13 : decode cX3_lesserChild 13 = .ok (.ireturn, 1) := by decide +kernel
theorem dX3_lesserChild_14 : decode cX3_lesserChild 14 = .ok (.iload_n 3, 1) := by decide +kernel
theorem dX3_lesserChild_15 : decode cX3_lesserChild 15 = .ok (.aload_n 0, 1) := by decide +kernel
theorem dX3_lesserChild_16 : decode cX3_lesserChild 16 = .ok (.getfield 16, 3) := by decide +kernel
theorem dX3_lesserChild_19 : decode cX3_lesserChild 19 = .ok (.if_icmp .ge 31, 3) := by decide +kernel
theorem dX3_lesserChild_22 : decode cX3_lesserChild 22 = .ok (.aload_n 2, 1) := by decide +kernel
theorem dX3_lesserChild_23 : decode cX3_lesserChild 23 = .ok (.aload_n 0, 1) := by decide +kernel
theorem dX3_lesserChild_24 : decode cX3_lesserChild 24 = .ok (.getfield 7, 3) := by decide +kernel
theorem dX3_lesserChild_27 : decode cX3_lesserChild 27 = .ok (.iload_n 3, 1) := by decide +kernel
theorem dX3_lesserChild_28 : decode cX3_lesserChild 28 = .ok (.iconst 1, 1) := by decide +kernel
theorem dX3_lesserChild_29 : decode cX3_lesserChild 29 = .ok (.iadd, 1) := by decide +kernel
theorem dX3_lesserChild_30 : decode cX3_lesserChild 30 = .ok (.iaload, 1) := by decide +kernel
theorem dX3_lesserChild_31 : decode cX3_lesserChild 31 = .ok (.laload, 1) := by decide +kernel
theorem dX3_lesserChild_32 : decode cX3_lesserChild 32 = .ok (.aload_n 2, 1) := by decide +kernel
theorem dX3_lesserChild_33 : decode cX3_lesserChild 33 = .ok (.aload_n 0, 1) := by decide +kernel
theorem dX3_lesserChild_34 : decode cX3_lesserChild 34 = .ok (.getfield 7, 3) := by decide +kernel
theorem dX3_lesserChild_37 : decode cX3_lesserChild 37 = .ok (.iload_n 3, 1) := by decide +kernel
theorem dX3_lesserChild_38 : decode cX3_lesserChild 38 = .ok (.iaload, 1) := by decide +kernel
theorem dX3_lesserChild_39 : decode cX3_lesserChild 39 = .ok (.laload, 1) := by decide +kernel
theorem dX3_lesserChild_40 : decode cX3_lesserChild 40 = .ok (.lcmp, 1) := by decide +kernel
theorem dX3_lesserChild_41 : decode cX3_lesserChild 41 = .ok (.ifCond .ge 9, 3) := by decide +kernel
theorem dX3_lesserChild_44 : decode cX3_lesserChild 44 = .ok (.iload_n 3, 1) := by decide +kernel
theorem dX3_lesserChild_45 : decode cX3_lesserChild 45 = .ok (.iconst 1, 1) := by decide +kernel
theorem dX3_lesserChild_46 : decode cX3_lesserChild 46 = .ok (.iadd, 1) := by decide +kernel
theorem dX3_lesserChild_47 : decode cX3_lesserChild 47 = .ok (.goto 4, 3) := by decide +kernel
theorem dX3_lesserChild_50 : decode cX3_lesserChild 50 = .ok (.iload_n 3, 1) := by decide +kernel
theorem dX3_lesserChild_51 : decode cX3_lesserChild 51 = .ok (.ireturn, 1) := by decide +kernel
theorem dX3_set_0 : decode cX3_set 0 = .ok (.aload_n 0, 1) := by decide +kernel
theorem dX3_set_1 : decode cX3_set 1 = .ok (.getfield 7, 3) := by decide +kernel
theorem dX3_set_4 : decode cX3_set 4 = .ok (.iload_n 1, 1) := by decide +kernel
theorem dX3_set_5 : decode cX3_set 5 = .ok (.iload_n 2, 1) := by decide +kernel
theorem dX3_set_6 : decode cX3_set 6 = .ok (.iastore, 1) := by decide +kernel
theorem dX3_set_7 : decode cX3_set 7 = .ok (.aload_n 0, 1) := by decide +kernel
theorem dX3_set_8 : decode cX3_set 8 = .ok (.getfield 13, 3) := by decide +kernel
theorem dX3_set_11 : decode cX3_set 11 = .ok (.iload_n 2, 1) := by decide +kernel
theorem dX3_set_12 : decode cX3_set 12 = .ok (.iload_n 1, 1) := by decide +kernel
theorem dX3_set_13 : decode cX3_set 13 = .ok (.iastore, 1) := by decide +kernel
theorem dX3_set_14 : decode cX3_set 14 = .ok (.return_, 1) := by decide +kernel
theorem dX5_init_0 : decode cX5_init 0 = .ok (.aload_n 0, 1) := by decide +kernel
theorem dX5_init_1 : decode cX5_init 1 = .ok (.invokespecial 1, 3) := by decide +kernel
theorem dX5_init_4 : decode cX5_init 4 = .ok (.aload_n 0, 1) := by decide +kernel
theorem dX5_init_5 : decode cX5_init 5 = .ok (.bipush 12, 2) := by decide +kernel
theorem dX5_init_7 : decode cX5_init 7 = .ok (.newarray .int, 2) := by decide +kernel
theorem dX5_init_9 : decode cX5_init 9 = .ok (.putfield 9, 3) := by decide +kernel
theorem dX5_init_12 : decode cX5_init 12 = .ok (.aload_n 0, 1) := by decide +kernel
theorem dX5_init_13 : decode cX5_init 13 = .ok (.bipush 12, 2) := by decide +kernel
theorem dX5_init_15 : decode cX5_init 15 = .ok (.newarray .int, 2) := by decide +kernel
theorem dX5_init_17 : decode cX5_init 17 = .ok (.putfield 13, 3) := by decide +kernel
theorem dX5_init_20 : decode cX5_init 20 = .ok (.aload_n 0, 1) := by decide +kernel
theorem dX5_init_21 : decode cX5_init 21 = .ok (.bipush 12, 2) := by decide +kernel
theorem dX5_init_23 : decode cX5_init 23 = .ok (.newarray .int, 2) := by decide +kernel
theorem dX5_init_25 : decode cX5_init 25 = .ok (.putfield 16, 3) := by decide +kernel
theorem dX5_init_28 : decode cX5_init 28 = .ok (.return_, 1) := by decide +kernel
theorem dX5_lineCount_0 : decode cX5_lineCount 0 = .ok (.aload_n 0, 1) := by decide +kernel
theorem dX5_lineCount_1 : decode cX5_lineCount 1 = .ok (.getfield 19, 3) := by decide +kernel
theorem dX5_lineCount_4 : decode cX5_lineCount 4 = .ok (.ireturn, 1) := by decide +kernel
theorem dX5_over_0 : decode cX5_over 0 = .ok (.iload_n 2, 1) := by decide +kernel
theorem dX5_over_1 : decode cX5_over 1 = .ok (.ifCond .lt 11, 3) := by decide +kernel
theorem dX5_over_4 : decode cX5_over 4 = .ok (.iload_n 2, 1) := by decide +kernel
theorem dX5_over_5 : decode cX5_over 5 = .ok (.aload_n 0, 1) := by decide +kernel
theorem dX5_over_6 : decode cX5_over 6 = .ok (.getfield 19, 3) := by decide +kernel
theorem dX5_over_9 : decode cX5_over 9 = .ok (.if_icmp .lt 5, 3) := by decide +kernel
theorem dX5_over_12 : decode cX5_over 12 = .ok (.iconst 0, 1) := by decide +kernel
theorem dX5_over_13 : decode cX5_over 13 = .ok (.ireturn, 1) := by decide +kernel
theorem dX5_over_14 : decode cX5_over 14 = .ok (.aload_n 0, 1) := by decide +kernel
theorem dX5_over_15 : decode cX5_over 15 = .ok (.getfield 9, 3) := by decide +kernel
theorem dX5_over_18 : decode cX5_over 18 = .ok (.iload_n 2, 1) := by decide +kernel
theorem dX5_over_19 : decode cX5_over 19 = .ok (.iaload, 1) := by decide +kernel
theorem dX5_over_20 : decode cX5_over 20 = .ok (.iload_n 1, 1) := by decide +kernel
theorem dX5_over_21 : decode cX5_over 21 = .ok (.if_icmp .ne 10, 3) := by decide +kernel
theorem dX5_over_24 : decode cX5_over 24 = .ok (.aload_n 0, 1) := by decide +kernel
theorem dX5_over_25 : decode cX5_over 25 = .ok (.getfield 13, 3) := by decide +kernel
theorem dX5_over_28 : decode cX5_over 28 = .ok (.iload_n 2, 1) := by decide +kernel
theorem dX5_over_29 : decode cX5_over 29 = .ok (.iaload, 1) := by decide +kernel
theorem dX5_over_30 : decode cX5_over 30 = .ok (.ireturn, 1) := by decide +kernel
theorem dX5_over_31 : decode cX5_over 31 = .ok (.aload_n 0, 1) := by decide +kernel
theorem dX5_over_32 : decode cX5_over 32 = .ok (.getfield 13, 3) := by decide +kernel
theorem dX5_over_35 : decode cX5_over 35 = .ok (.iload_n 2, 1) := by decide +kernel
theorem dX5_over_36 : decode cX5_over 36 = .ok (.iaload, 1) := by decide +kernel
theorem dX5_over_37 : decode cX5_over 37 = .ok (.iload_n 1, 1) := by decide +kernel
theorem dX5_over_38 : decode cX5_over 38 = .ok (.if_icmp .ne 12, 3) := by decide +kernel
theorem dX5_over_41 : decode cX5_over 41 = .ok (.aload_n 0, 1) := by decide +kernel
theorem dX5_over_42 : decode cX5_over 42 = .ok (.getfield 9, 3) := by decide +kernel
theorem dX5_over_45 : decode cX5_over 45 = .ok (.iload_n 2, 1) := by decide +kernel
theorem dX5_over_46 : decode cX5_over 46 = .ok (.iaload, 1) := by decide +kernel
theorem dX5_over_47 : decode cX5_over 47 = .ok (.goto 4, 3) := by decide +kernel
theorem dX5_over_50 : decode cX5_over 50 = .ok (.iconst 0, 1) := by decide +kernel
theorem dX5_over_51 : decode cX5_over 51 = .ok (.ireturn, 1) := by decide +kernel
theorem dX5_costOf_0 : decode cX5_costOf 0 = .ok (.iload_n 1, 1) := by decide +kernel
theorem dX5_costOf_1 : decode cX5_costOf 1 = .ok (.ifCond .lt 20, 3) := by decide +kernel
theorem dX5_costOf_4 : decode cX5_costOf 4 = .ok (.iload_n 1, 1) := by decide +kernel
theorem dX5_costOf_5 : decode cX5_costOf 5 = .ok (.aload_n 0, 1) := by decide +kernel
theorem dX5_costOf_6 : decode cX5_costOf 6 = .ok (.getfield 19, 3) := by decide +kernel
theorem dX5_costOf_9 : decode cX5_costOf 9 = .ok (.if_icmp .ge 12, 3) := by decide +kernel
theorem dX5_costOf_12 : decode cX5_costOf 12 = .ok (.aload_n 0, 1) := by decide +kernel
theorem dX5_costOf_13 : decode cX5_costOf 13 = .ok (.getfield 16, 3) := by decide +kernel
theorem dX5_costOf_16 : decode cX5_costOf 16 = .ok (.iload_n 1, 1) := by decide +kernel
theorem dX5_costOf_17 : decode cX5_costOf 17 = .ok (.iaload, 1) := by decide +kernel
theorem dX5_costOf_18 : decode cX5_costOf 18 = .ok (.goto 4, 3) := by decide +kernel
theorem dX5_costOf_21 : decode cX5_costOf 21 = .ok (.iconst 0, 1) := by decide +kernel
theorem dX5_costOf_22 : decode cX5_costOf 22 = .ok (.ireturn, 1) := by decide +kernel
theorem dX5_readFrom_0 : decode cX5_readFrom 0 = .ok (.aload_n 0, 1) := by decide +kernel
theorem dX5_readFrom_1 : decode cX5_readFrom 1 = .ok (.getfield 19, 3) := by decide +kernel
theorem dX5_readFrom_4 : decode cX5_readFrom 4 = .ok (.bipush 12, 2) := by decide +kernel
theorem dX5_readFrom_6 : decode cX5_readFrom 6 = .ok (.if_icmp .lt 8, 3) := by decide +kernel
theorem dX5_readFrom_9 : decode cX5_readFrom 9 = .ok (.aload_n 1, 1) := by decide +kernel
theorem dX5_readFrom_10 : decode cX5_readFrom 10 = .ok (.invokevirtual 23, 3) := by decide +kernel
theorem dX5_readFrom_13 : decode cX5_readFrom 13 = .ok (.return_, 1) := by decide +kernel
theorem dX5_readFrom_14 : decode cX5_readFrom 14 = .ok (.aload_n 1, 1) := by decide +kernel
theorem dX5_readFrom_15 : decode cX5_readFrom 15 = .ok (.bipush 109, 2) := by decide +kernel
theorem dX5_readFrom_17 : decode cX5_readFrom 17 = .ok (.invokevirtual 28, 3) := by decide +kernel
theorem dX5_readFrom_20 : decode cX5_readFrom 20 = .ok (.pop, 1) := by decide +kernel
theorem dX5_readFrom_21 : decode cX5_readFrom 21 = .ok (.aload_n 0, 1) := by decide +kernel
theorem dX5_readFrom_22 : decode cX5_readFrom 22 = .ok (.getfield 9, 3) := by decide +kernel
theorem dX5_readFrom_25 : decode cX5_readFrom 25 = .ok (.aload_n 0, 1) := by decide +kernel
theorem dX5_readFrom_26 : decode cX5_readFrom 26 = .ok (.getfield 19, 3) := by decide +kernel
theorem dX5_readFrom_29 : decode cX5_readFrom 29 = .ok (.aload_n 1, 1) := by decide +kernel
theorem dX5_readFrom_30 : decode cX5_readFrom 30 = .ok (.iconst 1, 1) := by decide +kernel
theorem dX5_readFrom_31 : decode cX5_readFrom 31 = .ok (.bipush 12, 2) := by decide +kernel
theorem dX5_readFrom_33 : decode cX5_readFrom 33 = .ok (.invokevirtual 32, 3) := by decide +kernel
theorem dX5_readFrom_36 : decode cX5_readFrom 36 = .ok (.iastore, 1) := by decide +kernel
theorem dX5_readFrom_37 : decode cX5_readFrom 37 = .ok (.aload_n 1, 1) := by decide +kernel
theorem dX5_readFrom_38 : decode cX5_readFrom 38 = .ok (.bipush 61, 2) := by decide +kernel
theorem dX5_readFrom_40 : decode cX5_readFrom 40 = .ok (.invokevirtual 36, 3) := by decide +kernel
theorem dX5_readFrom_43 : decode cX5_readFrom 43 = .ok (.aload_n 0, 1) := by decide +kernel
theorem dX5_readFrom_44 : decode cX5_readFrom 44 = .ok (.getfield 13, 3) := by decide +kernel
theorem dX5_readFrom_47 : decode cX5_readFrom 47 = .ok (.aload_n 0, 1) := by decide +kernel
theorem dX5_readFrom_48 : decode cX5_readFrom 48 = .ok (.getfield 19, 3) := by decide +kernel
theorem dX5_readFrom_51 : decode cX5_readFrom 51 = .ok (.aload_n 1, 1) := by decide +kernel
theorem dX5_readFrom_52 : decode cX5_readFrom 52 = .ok (.iconst 1, 1) := by decide +kernel
theorem dX5_readFrom_53 : decode cX5_readFrom 53 = .ok (.bipush 12, 2) := by decide +kernel
theorem dX5_readFrom_55 : decode cX5_readFrom 55 = .ok (.invokevirtual 32, 3) := by decide +kernel
theorem dX5_readFrom_58 : decode cX5_readFrom 58 = .ok (.iastore, 1) := by decide +kernel
theorem dX5_readFrom_59 : decode cX5_readFrom 59 = .ok (.aload_n 0, 1) := by decide +kernel
theorem dX5_readFrom_60 : decode cX5_readFrom 60 = .ok (.getfield 13, 3) := by decide +kernel
theorem dX5_readFrom_63 : decode cX5_readFrom 63 = .ok (.aload_n 0, 1) := by decide +kernel
theorem dX5_readFrom_64 : decode cX5_readFrom 64 = .ok (.getfield 19, 3) := by decide +kernel
theorem dX5_readFrom_67 : decode cX5_readFrom 67 = .ok (.iaload, 1) := by decide +kernel
theorem dX5_readFrom_68 : decode cX5_readFrom 68 = .ok (.aload_n 0, 1) := by decide +kernel
theorem dX5_readFrom_69 : decode cX5_readFrom 69 = .ok (.getfield 9, 3) := by decide +kernel
theorem dX5_readFrom_72 : decode cX5_readFrom 72 = .ok (.aload_n 0, 1) := by decide +kernel
theorem dX5_readFrom_73 : decode cX5_readFrom 73 = .ok (.getfield 19, 3) := by decide +kernel
theorem dX5_readFrom_76 : decode cX5_readFrom 76 = .ok (.iaload, 1) := by decide +kernel
theorem dX5_readFrom_77 : decode cX5_readFrom 77 = .ok (.if_icmp .ne 7, 3) := by decide +kernel
theorem dX5_readFrom_80 : decode cX5_readFrom 80 = .ok (.aload_n 1, 1) := by decide +kernel
theorem dX5_readFrom_81 : decode cX5_readFrom 81 = .ok (.invokevirtual 40, 3) := by decide +kernel
theorem dX5_readFrom_84 : decode cX5_readFrom 84 = .ok (.aload_n 1, 1) := by decide +kernel
theorem dX5_readFrom_85 : decode cX5_readFrom 85 = .ok (.bipush 58, 2) := by decide +kernel
theorem dX5_readFrom_87 : decode cX5_readFrom 87 = .ok (.invokevirtual 36, 3) := by decide +kernel
theorem dX5_readFrom_90 : decode cX5_readFrom 90 = .ok (.aload_n 0, 1) := by decide +kernel
theorem dX5_readFrom_91 : decode cX5_readFrom 91 = .ok (.getfield 16, 3) := by decide +kernel
theorem dX5_readFrom_94 : decode cX5_readFrom 94 = .ok (.aload_n 0, 1) := by decide +kernel
theorem dX5_readFrom_95 : decode cX5_readFrom 95 = .ok (.getfield 19, 3) := by decide +kernel
theorem dX5_readFrom_98 : decode cX5_readFrom 98 = .ok (.aload_n 1, 1) := by decide +kernel
theorem dX5_readFrom_99 : decode cX5_readFrom 99 = .ok (.iconst 0, 1) := by decide +kernel
theorem dX5_readFrom_100 : decode cX5_readFrom 100 = .ok (.bipush 99, 2) := by decide +kernel
theorem dX5_readFrom_102 : decode cX5_readFrom 102 = .ok (.invokevirtual 32, 3) := by decide +kernel
theorem dX5_readFrom_105 : decode cX5_readFrom 105 = .ok (.iastore, 1) := by decide +kernel
theorem dX5_readFrom_106 : decode cX5_readFrom 106 = .ok (.aload_n 0, 1) := by decide +kernel
theorem dX5_readFrom_107 : decode cX5_readFrom 107 = .ok (.dup, 1) := by decide +kernel
theorem dX5_readFrom_108 : decode cX5_readFrom 108 = .ok (.getfield 19, 3) := by decide +kernel
theorem dX5_readFrom_111 : decode cX5_readFrom 111 = .ok (.iconst 1, 1) := by decide +kernel
theorem dX5_readFrom_112 : decode cX5_readFrom 112 = .ok (.iadd, 1) := by decide +kernel
theorem dX5_readFrom_113 : decode cX5_readFrom 113 = .ok (.putfield 19, 3) := by decide +kernel
theorem dX5_readFrom_116 : decode cX5_readFrom 116 = .ok (.return_, 1) := by decide +kernel
theorem dX6_init_0 : decode cX6_init 0 = .ok (.aload_n 0, 1) := by decide +kernel
theorem dX6_init_1 : decode cX6_init 1 = .ok (.invokespecial 3, 3) := by decide +kernel
theorem dX6_init_4 : decode cX6_init 4 = .ok (.aload_n 0, 1) := by decide +kernel
theorem dX6_init_5 : decode cX6_init 5 = .ok (.iconst (-1), 1) := by decide +kernel
theorem dX6_init_6 : decode cX6_init 6 = .ok (.putfield 9, 3) := by decide +kernel
theorem dX6_init_9 : decode cX6_init 9 = .ok (.aload_n 0, 1) := by decide +kernel
theorem dX6_init_10 : decode cX6_init 10 = .ok (.iconst (-1), 1) := by decide +kernel
theorem dX6_init_11 : decode cX6_init 11 = .ok (.putfield 15, 3) := by decide +kernel
theorem dX6_init_14 : decode cX6_init 14 = .ok (.aload_n 0, 1) := by decide +kernel
theorem dX6_init_15 : decode cX6_init 15 = .ok (.aload_n 1, 1) := by decide +kernel
theorem dX6_init_16 : decode cX6_init 16 = .ok (.putfield 18, 3) := by decide +kernel
theorem dX6_init_19 : decode cX6_init 19 = .ok (.aload_n 0, 1) := by decide +kernel
theorem dX6_init_20 : decode cX6_init 20 = .ok (.iload_n 2, 1) := by decide +kernel
theorem dX6_init_21 : decode cX6_init 21 = .ok (.aload_n 1, 1) := by decide +kernel
theorem dX6_init_22 : decode cX6_init 22 = .ok (.arraylength, 1) := by decide +kernel
theorem dX6_init_23 : decode cX6_init 23 = .ok (.invokestatic 22, 3) := by decide +kernel
theorem dX6_init_26 : decode cX6_init 26 = .ok (.putfield 28, 3) := by decide +kernel
theorem dX6_init_29 : decode cX6_init 29 = .ok (.aload_n 0, 1) := by decide +kernel
theorem dX6_init_30 : decode cX6_init 30 = .ok (.iconst 0, 1) := by decide +kernel
theorem dX6_init_31 : decode cX6_init 31 = .ok (.invokevirtual 31, 3) := by decide +kernel
theorem dX6_init_34 : decode cX6_init 34 = .ok (.return_, 1) := by decide +kernel
theorem dX6_goTo_0 : decode cX6_goTo 0 = .ok (.aload_n 0, 1) := by decide +kernel
theorem dX6_goTo_1 : decode cX6_goTo 1 = .ok (.iload_n 1, 1) := by decide +kernel
theorem dX6_goTo_2 : decode cX6_goTo 2 = .ok (.putfield 35, 3) := by decide +kernel
theorem dX6_goTo_5 : decode cX6_goTo 5 = .ok (.aload_n 0, 1) := by decide +kernel
theorem dX6_goTo_6 : decode cX6_goTo 6 = .ok (.getfield 35, 3) := by decide +kernel
theorem dX6_goTo_9 : decode cX6_goTo 9 = .ok (.aload_n 0, 1) := by decide +kernel
theorem dX6_goTo_10 : decode cX6_goTo 10 = .ok (.getfield 28, 3) := by decide +kernel
theorem dX6_goTo_13 : decode cX6_goTo 13 = .ok (.if_icmp .ge 30, 3) := by decide +kernel
theorem dX6_goTo_16 : decode cX6_goTo 16 = .ok (.aload_n 0, 1) := by decide +kernel
theorem dX6_goTo_17 : decode cX6_goTo 17 = .ok (.getfield 18, 3) := by decide +kernel
theorem dX6_goTo_20 : decode cX6_goTo 20 = .ok (.aload_n 0, 1) := by decide +kernel
theorem dX6_goTo_21 : decode cX6_goTo 21 = .ok (.getfield 35, 3) := by decide +kernel
theorem dX6_goTo_24 : decode cX6_goTo 24 = .ok (.iaload, 1) := by decide +kernel
theorem dX6_goTo_25 : decode cX6_goTo 25 = .ok (.bipush 32, 2) := by decide +kernel
theorem dX6_goTo_27 : decode cX6_goTo 27 = .ok (.if_icmp .ne 16, 3) := by decide +kernel
theorem dX6_goTo_30 : decode cX6_goTo 30 = .ok (.aload_n 0, 1) := by decide +kernel
theorem dX6_goTo_31 : decode cX6_goTo 31 = .ok (.dup, 1) := by decide +kernel
theorem dX6_goTo_32 : decode cX6_goTo 32 = .ok (.getfield 35, 3) := by decide +kernel
theorem dX6_goTo_35 : decode cX6_goTo 35 = .ok (.iconst 1, 1) := by decide +kernel
theorem dX6_goTo_36 : decode cX6_goTo 36 = .ok (.iadd, 1) := by decide +kernel
theorem dX6_goTo_37 : decode cX6_goTo 37 = .ok (.putfield 35, 3) := by decide +kernel
theorem dX6_goTo_40 : decode cX6_goTo 40 = .ok (.goto (-35), 3) := by decide +kernel
theorem dX6_goTo_43 : decode cX6_goTo 43 = .ok (.aload_n 0, 1) := by decide +kernel
theorem dX6_goTo_44 : decode cX6_goTo 44 = .ok (.aload_n 0, 1) := by decide +kernel
theorem dX6_goTo_45 : decode cX6_goTo 45 = .ok (.getfield 15, 3) := by decide +kernel
theorem dX6_goTo_48 : decode cX6_goTo 48 = .ok (.iconst (-1), 1) := by decide +kernel
theorem dX6_goTo_49 : decode cX6_goTo 49 = .ok (.if_icmp .ne 26, 3) := by decide +kernel
theorem dX6_goTo_52 : decode cX6_goTo 52 = .ok (.aload_n 0, 1) := by decide +kernel
theorem dX6_goTo_53 : decode cX6_goTo 53 = .ok (.getfield 35, 3) := by decide +kernel
theorem dX6_goTo_56 : decode cX6_goTo 56 = .ok (.aload_n 0, 1) := by decide +kernel
theorem dX6_goTo_57 : decode cX6_goTo 57 = .ok (.getfield 28, 3) := by decide +kernel
theorem dX6_goTo_60 : decode cX6_goTo 60 = .ok (.if_icmp .ge 15, 3) := by decide +kernel
theorem dX6_goTo_63 : decode cX6_goTo 63 = .ok (.aload_n 0, 1) := by decide +kernel
theorem dX6_goTo_64 : decode cX6_goTo 64 = .ok (.getfield 18, 3) := by decide +kernel
theorem dX6_goTo_67 : decode cX6_goTo 67 = .ok (.aload_n 0, 1) := by decide +kernel
theorem dX6_goTo_68 : decode cX6_goTo 68 = .ok (.getfield 35, 3) := by decide +kernel
theorem dX6_goTo_71 : decode cX6_goTo 71 = .ok (.iaload, 1) := by decide +kernel
theorem dX6_goTo_72 : decode cX6_goTo 72 = .ok (.goto 4, 3) := by decide +kernel
theorem dX6_goTo_75 : decode cX6_goTo 75 = .ok (.iconst (-1), 1) := by decide +kernel
theorem dX6_goTo_76 : decode cX6_goTo 76 = .ok (.putfield 38, 3) := by decide +kernel
theorem dX6_goTo_79 : decode cX6_goTo 79 = .ok (.return_, 1) := by decide +kernel
theorem dX6_refuseAt_0 : decode cX6_refuseAt 0 = .ok (.aload_n 0, 1) := by decide +kernel
theorem dX6_refuseAt_1 : decode cX6_refuseAt 1 = .ok (.getfield 15, 3) := by decide +kernel
theorem dX6_refuseAt_4 : decode cX6_refuseAt 4 = .ok (.iconst (-1), 1) := by decide +kernel
theorem dX6_refuseAt_5 : decode cX6_refuseAt 5 = .ok (.if_icmp .ne 8, 3) := by decide +kernel
theorem dX6_refuseAt_8 : decode cX6_refuseAt 8 = .ok (.aload_n 0, 1) := by decide +kernel
theorem dX6_refuseAt_9 : decode cX6_refuseAt 9 = .ok (.iload_n 1, 1) := by decide +kernel
theorem dX6_refuseAt_10 : decode cX6_refuseAt 10 = .ok (.putfield 15, 3) := by decide +kernel
theorem dX6_refuseAt_13 : decode cX6_refuseAt 13 = .ok (.aload_n 0, 1) := by decide +kernel
theorem dX6_refuseAt_14 : decode cX6_refuseAt 14 = .ok (.iconst (-1), 1) := by decide +kernel
theorem dX6_refuseAt_15 : decode cX6_refuseAt 15 = .ok (.putfield 38, 3) := by decide +kernel
theorem dX6_refuseAt_18 : decode cX6_refuseAt 18 = .ok (.return_, 1) := by decide +kernel
theorem dX6_isRight_0 : decode cX6_isRight 0 = .ok (.aload_n 0, 1) := by decide +kernel
theorem dX6_isRight_1 : decode cX6_isRight 1 = .ok (.getfield 15, 3) := by decide +kernel
theorem dX6_isRight_4 : decode cX6_isRight 4 = .ok (.iconst (-1), 1) := by decide +kernel
theorem dX6_isRight_5 : decode cX6_isRight 5 = .ok (.if_icmp .ne 7, 3) := by decide +kernel
theorem dX6_isRight_8 : decode cX6_isRight 8 = .ok (.iconst 1, 1) := by decide +kernel
theorem dX6_isRight_9 : decode cX6_isRight 9 = .ok (.goto 4, 3) := by decide +kernel
theorem dX6_isRight_12 : decode cX6_isRight 12 = .ok (.iconst 0, 1) := by decide +kernel
theorem dX6_isRight_13 : decode cX6_isRight 13 = .ok (.ireturn, 1) := by decide +kernel
theorem dX6_seesDigit_0 : decode cX6_seesDigit 0 = .ok (.aload_n 0, 1) := by decide +kernel
theorem dX6_seesDigit_1 : decode cX6_seesDigit 1 = .ok (.getfield 38, 3) := by decide +kernel
theorem dX6_seesDigit_4 : decode cX6_seesDigit 4 = .ok (.bipush 48, 2) := by decide +kernel
theorem dX6_seesDigit_6 : decode cX6_seesDigit 6 = .ok (.if_icmp .lt 16, 3) := by decide +kernel
theorem dX6_seesDigit_9 : decode cX6_seesDigit 9 = .ok (.aload_n 0, 1) := by decide +kernel
theorem dX6_seesDigit_10 : decode cX6_seesDigit 10 = .ok (.getfield 38, 3) := by decide +kernel
theorem dX6_seesDigit_13 : decode cX6_seesDigit 13 = .ok (.bipush 57, 2) := by decide +kernel
theorem dX6_seesDigit_15 : decode cX6_seesDigit 15 = .ok (.if_icmp .gt 7, 3) := by decide +kernel
theorem dX6_seesDigit_18 : decode cX6_seesDigit 18 = .ok (.iconst 1, 1) := by decide +kernel
theorem dX6_seesDigit_19 : decode cX6_seesDigit 19 = .ok (.goto 4, 3) := by decide +kernel
theorem dX6_seesDigit_22 : decode cX6_seesDigit 22 = .ok (.iconst 0, 1) := by decide +kernel
theorem dX6_seesDigit_23 : decode cX6_seesDigit 23 = .ok (.ireturn, 1) := by decide +kernel
theorem dX6_takes_0 : decode cX6_takes 0 = .ok (.aload_n 0, 1) := by decide +kernel
theorem dX6_takes_1 : decode cX6_takes 1 = .ok (.getfield 38, 3) := by decide +kernel
theorem dX6_takes_4 : decode cX6_takes 4 = .ok (.iload_n 1, 1) := by decide +kernel
theorem dX6_takes_5 : decode cX6_takes 5 = .ok (.if_icmp .eq 5, 3) := by decide +kernel
theorem dX6_takes_8 : decode cX6_takes 8 = .ok (.iconst 0, 1) := by decide +kernel
theorem dX6_takes_9 : decode cX6_takes 9 = .ok (.ireturn, 1) := by decide +kernel
theorem dX6_takes_10 : decode cX6_takes 10 = .ok (.aload_n 0, 1) := by decide +kernel
theorem dX6_takes_11 : decode cX6_takes 11 = .ok (.aload_n 0, 1) := by decide +kernel
theorem dX6_takes_12 : decode cX6_takes 12 = .ok (.getfield 35, 3) := by decide +kernel
theorem dX6_takes_15 : decode cX6_takes 15 = .ok (.iconst 1, 1) := by decide +kernel
theorem dX6_takes_16 : decode cX6_takes 16 = .ok (.iadd, 1) := by decide +kernel
theorem dX6_takes_17 : decode cX6_takes 17 = .ok (.invokevirtual 31, 3) := by decide +kernel
theorem dX6_takes_20 : decode cX6_takes 20 = .ok (.iconst 1, 1) := by decide +kernel
theorem dX6_takes_21 : decode cX6_takes 21 = .ok (.ireturn, 1) := by decide +kernel
theorem dX6_expect_0 : decode cX6_expect 0 = .ok (.aload_n 0, 1) := by decide +kernel
theorem dX6_expect_1 : decode cX6_expect 1 = .ok (.getfield 38, 3) := by decide +kernel
theorem dX6_expect_4 : decode cX6_expect 4 = .ok (.iload_n 1, 1) := by decide +kernel
theorem dX6_expect_5 : decode cX6_expect 5 = .ok (.if_icmp .ne 16, 3) := by decide +kernel
theorem dX6_expect_8 : decode cX6_expect 8 = .ok (.aload_n 0, 1) := by decide +kernel
theorem dX6_expect_9 : decode cX6_expect 9 = .ok (.aload_n 0, 1) := by decide +kernel
theorem dX6_expect_10 : decode cX6_expect 10 = .ok (.getfield 35, 3) := by decide +kernel
theorem dX6_expect_13 : decode cX6_expect 13 = .ok (.iconst 1, 1) := by decide +kernel
theorem dX6_expect_14 : decode cX6_expect 14 = .ok (.iadd, 1) := by decide +kernel
theorem dX6_expect_15 : decode cX6_expect 15 = .ok (.invokevirtual 31, 3) := by decide +kernel
theorem dX6_expect_18 : decode cX6_expect 18 = .ok (.goto 11, 3) := by decide +kernel
theorem dX6_expect_21 : decode cX6_expect 21 = .ok (.aload_n 0, 1) := by decide +kernel
theorem dX6_expect_22 : decode cX6_expect 22 = .ok (.aload_n 0, 1) := by decide +kernel
theorem dX6_expect_23 : decode cX6_expect 23 = .ok (.getfield 35, 3) := by decide +kernel
theorem dX6_expect_26 : decode cX6_expect 26 = .ok (.invokevirtual 41, 3) := by decide +kernel
theorem dX6_expect_29 : decode cX6_expect 29 = .ok (.return_, 1) := by decide +kernel
theorem dX6_finish_0 : decode cX6_finish 0 = .ok (.aload_n 0, 1) := by decide +kernel
theorem dX6_finish_1 : decode cX6_finish 1 = .ok (.getfield 38, 3) := by decide +kernel
theorem dX6_finish_4 : decode cX6_finish 4 = .ok (.iconst (-1), 1) := by decide +kernel
theorem dX6_finish_5 : decode cX6_finish 5 = .ok (.if_icmp .eq 11, 3) := by decide +kernel
theorem dX6_finish_8 : decode cX6_finish 8 = .ok (.aload_n 0, 1) := by decide +kernel
theorem dX6_finish_9 : decode cX6_finish 9 = .ok (.aload_n 0, 1) := by decide +kernel
theorem dX6_finish_10 : decode cX6_finish 10 = .ok (.getfield 35, 3) := by decide +kernel
theorem dX6_finish_13 : decode cX6_finish 13 = .ok (.invokevirtual 41, 3) := by decide +kernel
theorem dX6_finish_16 : decode cX6_finish 16 = .ok (.return_, 1) := by decide +kernel
theorem dX6_refuse_0 : decode cX6_refuse 0 = .ok (.aload_n 0, 1) := by decide +kernel
theorem dX6_refuse_1 : decode cX6_refuse 1 = .ok (.aload_n 0, 1) := by decide +kernel
theorem dX6_refuse_2 : decode cX6_refuse 2 = .ok (.getfield 35, 3) := by decide +kernel
theorem dX6_refuse_5 : decode cX6_refuse 5 = .ok (.invokevirtual 41, 3) := by decide +kernel
theorem dX6_refuse_8 : decode cX6_refuse 8 = .ok (.return_, 1) := by decide +kernel
theorem dX6_refuseNumber_0 : decode cX6_refuseNumber 0 = .ok (.aload_n 0, 1) := by decide +kernel
theorem dX6_refuseNumber_1 : decode cX6_refuseNumber 1 = .ok (.aload_n 0, 1) := by decide +kernel
theorem dX6_refuseNumber_2 : decode cX6_refuseNumber 2 = .ok (.getfield 9, 3) := by decide +kernel
theorem dX6_refuseNumber_5 : decode cX6_refuseNumber 5 = .ok (.invokevirtual 41, 3) := by decide +kernel
theorem dX6_refuseNumber_8 : decode cX6_refuseNumber 8 = .ok (.return_, 1) := by decide +kernel
theorem dX6_number_0 : decode cX6_number 0 = .ok (.aload_n 0, 1) := by decide +kernel
theorem dX6_number_1 : decode cX6_number 1 = .ok (.invokevirtual 44, 3) := by decide +kernel
theorem dX6_number_4 : decode cX6_number 4 = .ok (.ifCond .ne 13, 3) := by decide +kernel
theorem dX6_number_7 : decode cX6_number 7 = .ok (.aload_n 0, 1) := by decide +kernel
theorem dX6_number_8 : decode cX6_number 8 = .ok (.aload_n 0, 1) := by decide +kernel
theorem dX6_number_9 : decode cX6_number 9 = .ok (.getfield 35, 3) := by decide +kernel
theorem dX6_number_12 : decode cX6_number 12 = .ok (.invokevirtual 41, 3) := by decide +kernel
theorem dX6_number_15 : decode cX6_number 15 = .ok (.iload_n 1, 1) := by decide +kernel
theorem dX6_number_16 : decode cX6_number 16 = .ok (.ireturn, 1) := by decide +kernel
theorem dX6_number_17 : decode cX6_number 17 = .ok (.iconst 0, 1) := by decide +kernel
theorem dX6_number_18 : decode cX6_number 18 = .ok (.istore_n 3, 1) := by decide +kernel
theorem dX6_number_19 : decode cX6_number 19 = .ok (.aload_n 0, 1) := by decide +kernel
theorem dX6_number_20 : decode cX6_number 20 = .ok (.getfield 35, 3) := by decide +kernel
theorem dX6_number_23 : decode cX6_number 23 = .ok (.istore 4, 2) := by decide +kernel
theorem dX6_number_25 : decode cX6_number 25 = .ok (.iload 4, 2) := by decide +kernel
theorem dX6_number_27 : decode cX6_number 27 = .ok (.aload_n 0, 1) := by decide +kernel
theorem dX6_number_28 : decode cX6_number 28 = .ok (.getfield 28, 3) := by decide +kernel
theorem dX6_number_31 : decode cX6_number 31 = .ok (.if_icmp .ge 68, 3) := by decide +kernel
theorem dX6_number_34 : decode cX6_number 34 = .ok (.aload_n 0, 1) := by decide +kernel
theorem dX6_number_35 : decode cX6_number 35 = .ok (.getfield 18, 3) := by decide +kernel
theorem dX6_number_38 : decode cX6_number 38 = .ok (.iload 4, 2) := by decide +kernel
theorem dX6_number_40 : decode cX6_number 40 = .ok (.iaload, 1) := by decide +kernel
theorem dX6_number_41 : decode cX6_number 41 = .ok (.bipush 48, 2) := by decide +kernel
theorem dX6_number_43 : decode cX6_number 43 = .ok (.if_icmp .lt 56, 3) := by decide +kernel
theorem dX6_number_46 : decode cX6_number 46 = .ok (.aload_n 0, 1) := by decide +kernel
theorem dX6_number_47 : decode cX6_number 47 = .ok (.getfield 18, 3) := by decide +kernel
theorem dX6_number_50 : decode cX6_number 50 = .ok (.iload 4, 2) := by decide +kernel
theorem dX6_number_52 : decode cX6_number 52 = .ok (.iaload, 1) := by decide +kernel
theorem dX6_number_53 : decode cX6_number 53 = .ok (.bipush 57, 2) := by decide +kernel
theorem dX6_number_55 : decode cX6_number 55 = .ok (.if_icmp .gt 44, 3) := by decide +kernel
theorem dX6_number_58 : decode cX6_number 58 = .ok (.iload 4, 2) := by decide +kernel
theorem dX6_number_60 : decode cX6_number 60 = .ok (.aload_n 0, 1) := by decide +kernel
theorem dX6_number_61 : decode cX6_number 61 = .ok (.getfield 35, 3) := by decide +kernel
theorem dX6_number_64 : decode cX6_number 64 = .ok (.isub, 1) := by decide +kernel
theorem dX6_number_65 : decode cX6_number 65 = .ok (.iconst 4, 1) := by decide +kernel
theorem dX6_number_66 : decode cX6_number 66 = .ok (.if_icmp .ne 11, 3) := by decide +kernel
theorem dX6_number_69 : decode cX6_number 69 = .ok (.aload_n 0, 1) := by decide +kernel
theorem dX6_number_70 : decode cX6_number 70 = .ok (.iload 4, 2) := by decide +kernel
theorem dX6_number_72 : decode cX6_number 72 = .ok (.invokevirtual 41, 3) := by decide +kernel
theorem dX6_number_75 : decode cX6_number 75 = .ok (.iload_n 1, 1) := by decide +kernel
theorem dX6_number_76 : decode cX6_number 76 = .ok (.ireturn, 1) := by decide +kernel
theorem dX6_number_77 : decode cX6_number 77 = .ok (.iload_n 3, 1) := by decide +kernel
theorem dX6_number_78 : decode cX6_number 78 = .ok (.bipush 10, 2) := by decide +kernel
theorem dX6_number_80 : decode cX6_number 80 = .ok (.imul, 1) := by decide +kernel
theorem dX6_number_81 : decode cX6_number 81 = .ok (.aload_n 0, 1) := by decide +kernel
theorem dX6_number_82 : decode cX6_number 82 = .ok (.getfield 18, 3) := by decide +kernel
theorem dX6_number_85 : decode cX6_number 85 = .ok (.iload 4, 2) := by decide +kernel
theorem dX6_number_87 : decode cX6_number 87 = .ok (.iaload, 1) := by decide +kernel
theorem dX6_number_88 : decode cX6_number 88 = .ok (.bipush 48, 2) := by decide +kernel
theorem dX6_number_90 : decode cX6_number 90 = .ok (.isub, 1) := by decide +kernel
theorem dX6_number_91 : decode cX6_number 91 = .ok (.iadd, 1) := by decide +kernel
theorem dX6_number_92 : decode cX6_number 92 = .ok (.istore_n 3, 1) := by decide +kernel
theorem dX6_number_93 : decode cX6_number 93 = .ok (.iinc 4 1, 3) := by decide +kernel
theorem dX6_number_96 : decode cX6_number 96 = .ok (.goto (-71), 3) := by decide +kernel
theorem dX6_number_99 : decode cX6_number 99 = .ok (.aload_n 0, 1) := by decide +kernel
theorem dX6_number_100 : decode cX6_number 100 = .ok (.iload 4, 2) := by decide +kernel
theorem dX6_number_102 : decode cX6_number 102 = .ok (.iconst 1, 1) := by decide +kernel
theorem dX6_number_103 : decode cX6_number 103 = .ok (.isub, 1) := by decide +kernel
theorem dX6_number_104 : decode cX6_number 104 = .ok (.putfield 9, 3) := by decide +kernel
theorem dX6_number_107 : decode cX6_number 107 = .ok (.iload_n 3, 1) := by decide +kernel
theorem dX6_number_108 : decode cX6_number 108 = .ok (.iload_n 1, 1) := by decide +kernel
theorem dX6_number_109 : decode cX6_number 109 = .ok (.if_icmp .lt 8, 3) := by decide +kernel
theorem dX6_number_112 : decode cX6_number 112 = .ok (.iload_n 3, 1) := by decide +kernel
theorem dX6_number_113 : decode cX6_number 113 = .ok (.iload_n 2, 1) := by decide +kernel
theorem dX6_number_114 : decode cX6_number 114 = .ok (.if_icmp .le 13, 3) := by decide +kernel
theorem dX6_number_117 : decode cX6_number 117 = .ok (.aload_n 0, 1) := by decide +kernel
theorem dX6_number_118 : decode cX6_number 118 = .ok (.aload_n 0, 1) := by decide +kernel
theorem dX6_number_119 : decode cX6_number 119 = .ok (.getfield 9, 3) := by decide +kernel
theorem dX6_number_122 : decode cX6_number 122 = .ok (.invokevirtual 41, 3) := by decide +kernel
theorem dX6_number_125 : decode cX6_number 125 = .ok (.iload_n 1, 1) := by decide +kernel
theorem dX6_number_126 : decode cX6_number 126 = .ok (.ireturn, 1) := by decide +kernel
theorem dX6_number_127 : decode cX6_number 127 = .ok (.aload_n 0, 1) := by decide +kernel
theorem dX6_number_128 : decode cX6_number 128 = .ok (.iload 4, 2) := by decide +kernel
theorem dX6_number_130 : decode cX6_number 130 = .ok (.invokevirtual 31, 3) := by decide +kernel
theorem dX6_number_133 : decode cX6_number 133 = .ok (.iload_n 3, 1) := by decide +kernel
theorem dX6_number_134 : decode cX6_number 134 = .ok (.ireturn, 1) := by decide +kernel
theorem dX7_init_0 : decode cX7_init 0 = .ok (.aload_n 0, 1) := by decide +kernel
theorem dX7_init_1 : decode cX7_init 1 = .ok (.invokespecial 3, 3) := by decide +kernel
theorem dX7_init_4 : decode cX7_init 4 = .ok (.aload_n 0, 1) := by decide +kernel
theorem dX7_init_5 : decode cX7_init 5 = .ok (.iload_n 1, 1) := by decide +kernel
theorem dX7_init_6 : decode cX7_init 6 = .ok (.newarray .long, 2) := by decide +kernel
theorem dX7_init_8 : decode cX7_init 8 = .ok (.putfield 9, 3) := by decide +kernel
theorem dX7_init_11 : decode cX7_init 11 = .ok (.aload_n 0, 1) := by decide +kernel
theorem dX7_init_12 : decode cX7_init 12 = .ok (.iload_n 1, 1) := by decide +kernel
theorem dX7_init_13 : decode cX7_init 13 = .ok (.newarray .int, 2) := by decide +kernel
theorem dX7_init_15 : decode cX7_init 15 = .ok (.putfield 15, 3) := by decide +kernel
theorem dX7_init_18 : decode cX7_init 18 = .ok (.aload_n 0, 1) := by decide +kernel
theorem dX7_init_19 : decode cX7_init 19 = .ok (.iload_n 1, 1) := by decide +kernel
theorem dX7_init_20 : decode cX7_init 20 = .ok (.newarray .int, 2) := by decide +kernel
theorem dX7_init_22 : decode cX7_init 22 = .ok (.putfield 19, 3) := by decide +kernel
theorem dX7_init_25 : decode cX7_init 25 = .ok (.aload_n 0, 1) := by decide +kernel
theorem dX7_init_26 : decode cX7_init 26 = .ok (.getfield 9, 3) := by decide +kernel
theorem dX7_init_29 : decode cX7_init 29 = .ok (.ldc2_w 22, 3) := by decide +kernel
theorem dX7_init_32 : decode cX7_init 32 = .ok (.invokestatic 24, 3) := by decide +kernel
theorem dX7_init_35 : decode cX7_init 35 = .ok (.return_, 1) := by decide +kernel
theorem dX7_has_0 : decode cX7_has 0 = .ok (.iload_n 1, 1) := by decide +kernel
theorem dX7_has_1 : decode cX7_has 1 = .ok (.ifCond .le 16, 3) := by decide +kernel
theorem dX7_has_4 : decode cX7_has 4 = .ok (.iload_n 1, 1) := by decide +kernel
theorem dX7_has_5 : decode cX7_has 5 = .ok (.aload_n 0, 1) := by decide +kernel
theorem dX7_has_6 : decode cX7_has 6 = .ok (.getfield 9, 3) := by decide +kernel
theorem dX7_has_9 : decode cX7_has 9 = .ok (.arraylength, 1) := by decide +kernel
theorem dX7_has_10 : decode cX7_has 10 = .ok (.if_icmp .ge 7, 3) := by decide +kernel
theorem dX7_has_13 : decode cX7_has 13 = .ok (.iconst 1, 1) := by decide +kernel
theorem dX7_has_14 : decode cX7_has 14 = .ok (.goto 4, 3) := by decide +kernel
theorem dX7_has_17 : decode cX7_has 17 = .ok (.iconst 0, 1) := by decide +kernel
theorem dX7_has_18 : decode cX7_has 18 = .ok (.ireturn, 1) := by decide +kernel
theorem dX7_know_0 : decode cX7_know 0 = .ok (.aload_n 0, 1) := by decide +kernel
theorem dX7_know_1 : decode cX7_know 1 = .ok (.iload_n 1, 1) := by decide +kernel
theorem dX7_know_2 : decode cX7_know 2 = .ok (.invokevirtual 30, 3) := by decide +kernel
theorem dX7_know_5 : decode cX7_know 5 = .ok (.ifCond .eq 17, 3) := by decide +kernel
theorem dX7_know_8 : decode cX7_know 8 = .ok (.aload_n 0, 1) := by decide +kernel
theorem dX7_know_9 : decode cX7_know 9 = .ok (.getfield 9, 3) := by decide +kernel
theorem dX7_know_12 : decode cX7_know 12 = .ok (.iload_n 1, 1) := by decide +kernel
theorem dX7_know_13 : decode cX7_know 13 = .ok (.lconst 0, 1) := by decide +kernel
theorem dX7_know_14 : decode cX7_know 14 = .ok (.lastore, 1) := by decide +kernel
theorem dX7_know_15 : decode cX7_know 15 = .ok (.aload_n 0, 1) := by decide +kernel
theorem dX7_know_16 : decode cX7_know 16 = .ok (.getfield 19, 3) := by decide +kernel
theorem dX7_know_19 : decode cX7_know 19 = .ok (.iload_n 1, 1) := by decide +kernel
theorem dX7_know_20 : decode cX7_know 20 = .ok (.iload_n 1, 1) := by decide +kernel
theorem dX7_know_21 : decode cX7_know 21 = .ok (.iastore, 1) := by decide +kernel
theorem dX7_know_22 : decode cX7_know 22 = .ok (.return_, 1) := by decide +kernel
theorem dX7_find_0 : decode cX7_find 0 = .ok (.aload_n 2, 1) := by decide +kernel
theorem dX7_find_1 : decode cX7_find 1 = .ok (.invokevirtual 34, 3) := by decide +kernel
theorem dX7_find_4 : decode cX7_find 4 = .ok (.iconst 1, 1) := by decide +kernel
theorem dX7_find_5 : decode cX7_find 5 = .ok (.istore_n 3, 1) := by decide +kernel
theorem dX7_find_6 : decode cX7_find 6 = .ok (.iload_n 3, 1) := by decide +kernel
theorem dX7_find_7 : decode cX7_find 7 = .ok (.aload_n 0, 1) := by decide +kernel
theorem dX7_find_8 : decode cX7_find 8 = .ok (.getfield 9, 3) := by decide +kernel
theorem dX7_find_11 : decode cX7_find 11 = .ok (.arraylength, 1) := by decide +kernel
theorem dX7_find_12 : decode cX7_find 12 = .ok (.if_icmp .ge 29, 3) := by decide +kernel
theorem dX7_find_15 : decode cX7_find 15 = .ok (.aload_n 0, 1) := by decide +kernel
theorem dX7_find_16 : decode cX7_find 16 = .ok (.getfield 9, 3) := by decide +kernel
theorem dX7_find_19 : decode cX7_find 19 = .ok (.iload_n 3, 1) := by decide +kernel
theorem dX7_find_20 : decode cX7_find 20 = .ok (.laload, 1) := by decide +kernel
theorem dX7_find_21 : decode cX7_find 21 = .ok (.lconst 0, 1) := by decide +kernel
theorem dX7_find_22 : decode cX7_find 22 = .ok (.lcmp, 1) := by decide +kernel
theorem dX7_find_23 : decode cX7_find 23 = .ok (.ifCond .ne 12, 3) := by decide +kernel
theorem dX7_find_26 : decode cX7_find 26 = .ok (.aload_n 2, 1) := by decide +kernel
theorem dX7_find_27 : decode cX7_find 27 = .ok (.iload_n 3, 1) := by decide +kernel
theorem dX7_find_28 : decode cX7_find 28 = .ok (.aload_n 0, 1) := by decide +kernel
theorem dX7_find_29 : decode cX7_find 29 = .ok (.getfield 9, 3) := by decide +kernel
theorem dX7_find_32 : decode cX7_find 32 = .ok (.invokevirtual 39, 3) := by decide +kernel
theorem dX7_find_35 : decode cX7_find 35 = .ok (.iinc 3 1, 3) := by decide +kernel
theorem dX7_find_38 : decode cX7_find 38 = .ok (.goto (-32), 3) := by decide +kernel
theorem dX7_find_41 : decode cX7_find 41 = .ok (.iconst 0, 1) := by decide +kernel
theorem dX7_find_42 : decode cX7_find 42 = .ok (.istore_n 3, 1) := by decide +kernel
theorem dX7_find_43 : decode cX7_find 43 = .ok (.iload_n 3, 1) := by decide +kernel
theorem dX7_find_44 : decode cX7_find 44 = .ok (.aload_n 0, 1) := by decide +kernel
theorem dX7_find_45 : decode cX7_find 45 = .ok (.getfield 9, 3) := by decide +kernel
theorem dX7_find_48 : decode cX7_find 48 = .ok (.arraylength, 1) := by decide +kernel
theorem dX7_find_49 : decode cX7_find 49 = .ok (.if_icmp .ge 41, 3) := by decide +kernel
theorem dX7_find_52 : decode cX7_find 52 = .ok (.aload_n 2, 1) := by decide +kernel
theorem dX7_find_53 : decode cX7_find 53 = .ok (.getfield 43, 3) := by decide +kernel
theorem dX7_find_56 : decode cX7_find 56 = .ok (.ifCond .le 34, 3) := by decide +kernel
theorem dX7_find_59 : decode cX7_find 59 = .ok (.aload_n 2, 1) := by decide +kernel
theorem dX7_find_60 : decode cX7_find 60 = .ok (.aload_n 0, 1) := by decide +kernel
theorem dX7_find_61 : decode cX7_find 61 = .ok (.getfield 9, 3) := by decide +kernel
theorem dX7_find_64 : decode cX7_find 64 = .ok (.invokevirtual 47, 3) := by decide +kernel
theorem dX7_find_67 : decode cX7_find 67 = .ok (.istore 4, 2) := by decide +kernel
theorem dX7_find_69 : decode cX7_find 69 = .ok (.aload_n 0, 1) := by decide +kernel
theorem dX7_find_70 : decode cX7_find 70 = .ok (.aload_n 1, 1) := by decide +kernel
theorem dX7_find_71 : decode cX7_find 71 = .ok (.iload 4, 2) := by decide +kernel
theorem dX7_find_73 : decode cX7_find 73 = .ok (.invokevirtual 51, 3) := by decide +kernel
theorem dX7_find_76 : decode cX7_find 76 = .ok (.aload_n 0, 1) := by decide +kernel
theorem dX7_find_77 : decode cX7_find 77 = .ok (.aload_n 1, 1) := by decide +kernel
theorem dX7_find_78 : decode cX7_find 78 = .ok (.aload_n 2, 1) := by decide +kernel
theorem dX7_find_79 : decode cX7_find 79 = .ok (.iload 4, 2) := by decide +kernel
theorem dX7_find_81 : decode cX7_find 81 = .ok (.invokevirtual 55, 3) := by decide +kernel
theorem dX7_find_84 : decode cX7_find 84 = .ok (.iinc 3 1, 3) := by decide +kernel
theorem dX7_find_87 : decode cX7_find 87 = .ok (.goto (-44), 3) := by decide +kernel
theorem dX7_find_90 : decode cX7_find 90 = .ok (.return_, 1) := by decide +kernel
theorem dX7_chooseNext_0 : decode cX7_chooseNext 0 = .ok (.aload_n 0, 1) := by decide +kernel
theorem dX7_chooseNext_1 : decode cX7_chooseNext 1 = .ok (.iload_n 2, 1) := by decide +kernel
theorem dX7_chooseNext_2 : decode cX7_chooseNext 2 = .ok (.invokevirtual 30, 3) := by decide +kernel
theorem dX7_chooseNext_5 : decode cX7_chooseNext 5 = .ok (.ifCond .eq 14, 3) := by decide +kernel
theorem dX7_chooseNext_8 : decode cX7_chooseNext 8 = .ok (.aload_n 0, 1) := by decide +kernel
theorem dX7_chooseNext_9 : decode cX7_chooseNext 9 = .ok (.getfield 9, 3) := by decide +kernel
theorem dX7_chooseNext_12 : decode cX7_chooseNext 12 = .ok (.iload_n 2, 1) := by decide +kernel
theorem dX7_chooseNext_13 : decode cX7_chooseNext 13 = .ok (.laload, 1) := by decide +kernel
theorem dX7_chooseNext_14 : decode cX7_chooseNext 14 = .ok (.lconst 0, 1) := by decide +kernel
theorem dX7_chooseNext_15 : decode cX7_chooseNext 15 = .ok (.lcmp, 1) := by decide +kernel
theorem dX7_chooseNext_16 : decode cX7_chooseNext 16 = .ok (.ifCond .ne 4, 3) := by decide +kernel
theorem dX7_chooseNext_19 : decode cX7_chooseNext 19 = .ok (.return_, 1) := by decide +kernel
theorem dX7_chooseNext_20 : decode cX7_chooseNext 20 = .ok (.iconst 0, 1) := by decide +kernel
theorem dX7_chooseNext_21 : decode cX7_chooseNext 21 = .ok (.istore_n 3, 1) := by decide +kernel
theorem dX7_chooseNext_22 : decode cX7_chooseNext 22 = .ok (.iconst 0, 1) := by decide +kernel
theorem dX7_chooseNext_23 : decode cX7_chooseNext 23 = .ok (.istore 4, 2) := by decide +kernel
theorem dX7_chooseNext_25 : decode cX7_chooseNext 25 = .ok (.iload 4, 2) := by decide +kernel
theorem dX7_chooseNext_27 : decode cX7_chooseNext 27 = .ok (.aload_n 1, 1) := by decide +kernel
theorem dX7_chooseNext_28 : decode cX7_chooseNext 28 = .ok (.invokeinterface 59 1, 5) := by decide +kernel
theorem dX7_chooseNext_33 : decode cX7_chooseNext 33 = .ok (.if_icmp .ge 75, 3) := by decide +kernel
theorem dX7_chooseNext_36 : decode cX7_chooseNext 36 = .ok (.aload_n 1, 1) := by decide +kernel
theorem dX7_chooseNext_37 : decode cX7_chooseNext 37 = .ok (.iload_n 2, 1) := by decide +kernel
theorem dX7_chooseNext_38 : decode cX7_chooseNext 38 = .ok (.iload 4, 2) := by decide +kernel
theorem dX7_chooseNext_40 : decode cX7_chooseNext 40 = .ok (.invokeinterface 65 3, 5) := by decide +kernel
theorem dX7_chooseNext_45 : decode cX7_chooseNext 45 = .ok (.istore 5, 2) := by decide +kernel
theorem dX7_chooseNext_47 : decode cX7_chooseNext 47 = .ok (.aload_n 0, 1) := by decide +kernel
theorem dX7_chooseNext_48 : decode cX7_chooseNext 48 = .ok (.iload 5, 2) := by decide +kernel
theorem dX7_chooseNext_50 : decode cX7_chooseNext 50 = .ok (.invokevirtual 30, 3) := by decide +kernel
theorem dX7_chooseNext_53 : decode cX7_chooseNext 53 = .ok (.ifCond .eq 49, 3) := by decide +kernel
theorem dX7_chooseNext_56 : decode cX7_chooseNext 56 = .ok (.iload_n 3, 1) := by decide +kernel
theorem dX7_chooseNext_57 : decode cX7_chooseNext 57 = .ok (.ifCond .eq 9, 3) := by decide +kernel
theorem dX7_chooseNext_60 : decode cX7_chooseNext 60 = .ok (.iload 5, 2) := by decide +kernel
theorem dX7_chooseNext_62 : decode cX7_chooseNext 62 = .ok (.iload_n 3, 1) := by decide +kernel
theorem dX7_chooseNext_63 : decode cX7_chooseNext 63 = .ok (.if_icmp .ge 39, 3) := by decide +kernel
theorem dX7_chooseNext_66 : decode cX7_chooseNext 66 = .ok (.aload_n 0, 1) := by decide +kernel
theorem dX7_chooseNext_67 : decode cX7_chooseNext 67 = .ok (.getfield 9, 3) := by decide +kernel
theorem dX7_chooseNext_70 : decode cX7_chooseNext 70 = .ok (.iload 5, 2) := by decide +kernel
theorem dX7_chooseNext_72 : decode cX7_chooseNext 72 = .ok (.laload, 1) := by decide +kernel
theorem dX7_chooseNext_73 : decode cX7_chooseNext 73 = .ok (.aload_n 1, 1) := by decide +kernel
theorem dX7_chooseNext_74 : decode cX7_chooseNext 74 = .ok (.iload 4, 2) := by decide +kernel
theorem dX7_chooseNext_76 : decode cX7_chooseNext 76 = .ok (.invokeinterface 69 2, 5) := by decide +kernel
theorem dX7_chooseNext_81 : decode cX7_chooseNext 81 = .ok (.i2l, 1) := by decide +kernel
theorem dX7_chooseNext_82 : decode cX7_chooseNext 82 = .ok (.ldc2_w 73, 3) := by decide +kernel
theorem dX7_chooseNext_85 : decode cX7_chooseNext 85 = .ok (.lmul, 1) := by decide +kernel
theorem dX7_chooseNext_86 : decode cX7_chooseNext 86 = .ok (.ladd, 1) := by decide +kernel
theorem dX7_chooseNext_87 : decode cX7_chooseNext 87 = .ok (.lconst 1, 1) := by decide +kernel
theorem dX7_chooseNext_88 : decode cX7_chooseNext 88 = .ok (.ladd, 1) := by decide +kernel
theorem dX7_chooseNext_89 : decode cX7_chooseNext 89 = .ok (.aload_n 0, 1) := by decide +kernel
theorem dX7_chooseNext_90 : decode cX7_chooseNext 90 = .ok (.getfield 9, 3) := by decide +kernel
theorem dX7_chooseNext_93 : decode cX7_chooseNext 93 = .ok (.iload_n 2, 1) := by decide +kernel
theorem dX7_chooseNext_94 : decode cX7_chooseNext 94 = .ok (.laload, 1) := by decide +kernel
theorem dX7_chooseNext_95 : decode cX7_chooseNext 95 = .ok (.lcmp, 1) := by decide +kernel
theorem dX7_chooseNext_96 : decode cX7_chooseNext 96 = .ok (.ifCond .ne 6, 3) := by decide +kernel
theorem dX7_chooseNext_99 : decode cX7_chooseNext 99 = .ok (.iload 5, 2) := by decide +kernel
theorem dX7_chooseNext_101 : decode cX7_chooseNext 101 = .ok (.istore_n 3, 1) := by decide +kernel
theorem dX7_chooseNext_102 : decode cX7_chooseNext 102 = .ok (.iinc 4 1, 3) := by decide +kernel
theorem dX7_chooseNext_105 : decode cX7_chooseNext 105 = .ok (.goto (-80), 3) := by decide +kernel
theorem dX7_chooseNext_108 : decode cX7_chooseNext 108 = .ok (.aload_n 0, 1) := by decide +kernel
theorem dX7_chooseNext_109 : decode cX7_chooseNext 109 = .ok (.getfield 15, 3) := by decide +kernel
theorem dX7_chooseNext_112 : decode cX7_chooseNext 112 = .ok (.iload_n 2, 1) := by decide +kernel
theorem dX7_chooseNext_113 : decode cX7_chooseNext 113 = .ok (.iload_n 3, 1) := by decide +kernel
theorem dX7_chooseNext_114 : decode cX7_chooseNext 114 = .ok (.iastore, 1) := by decide +kernel
theorem dX7_chooseNext_115 : decode cX7_chooseNext 115 = .ok (.aload_n 0, 1) := by decide +kernel
theorem dX7_chooseNext_116 : decode cX7_chooseNext 116 = .ok (.getfield 19, 3) := by decide +kernel
theorem dX7_chooseNext_119 : decode cX7_chooseNext 119 = .ok (.iload_n 2, 1) := by decide +kernel
theorem dX7_chooseNext_120 : decode cX7_chooseNext 120 = .ok (.aload_n 0, 1) := by decide +kernel
theorem dX7_chooseNext_121 : decode cX7_chooseNext 121 = .ok (.iload_n 3, 1) := by decide +kernel
theorem dX7_chooseNext_122 : decode cX7_chooseNext 122 = .ok (.invokevirtual 30, 3) := by decide +kernel
theorem dX7_chooseNext_125 : decode cX7_chooseNext 125 = .ok (.ifCond .eq 12, 3) := by decide +kernel
theorem dX7_chooseNext_128 : decode cX7_chooseNext 128 = .ok (.aload_n 0, 1) := by decide +kernel
theorem dX7_chooseNext_129 : decode cX7_chooseNext 129 = .ok (.getfield 19, 3) := by decide +kernel
theorem dX7_chooseNext_132 : decode cX7_chooseNext 132 = .ok (.iload_n 3, 1) := by decide +kernel
theorem dX7_chooseNext_133 : decode cX7_chooseNext 133 = .ok (.iaload, 1) := by decide +kernel
theorem dX7_chooseNext_134 : decode cX7_chooseNext 134 = .ok (.goto 4, 3) := by decide +kernel
theorem dX7_chooseNext_137 : decode cX7_chooseNext 137 = .ok (.iconst 0, 1) := by decide +kernel
theorem dX7_chooseNext_138 : decode cX7_chooseNext 138 = .ok (.iastore, 1) := by decide +kernel
theorem dX7_chooseNext_139 : decode cX7_chooseNext 139 = .ok (.return_, 1) := by decide +kernel
theorem dX7_goOn_0 : decode cX7_goOn 0 = .ok (.aload_n 0, 1) := by decide +kernel
theorem dX7_goOn_1 : decode cX7_goOn 1 = .ok (.iload_n 3, 1) := by decide +kernel
theorem dX7_goOn_2 : decode cX7_goOn 2 = .ok (.invokevirtual 30, 3) := by decide +kernel
theorem dX7_goOn_5 : decode cX7_goOn 5 = .ok (.ifCond .ne 4, 3) := by decide +kernel
theorem dX7_goOn_8 : decode cX7_goOn 8 = .ok (.return_, 1) := by decide +kernel
theorem dX7_goOn_9 : decode cX7_goOn 9 = .ok (.iconst 0, 1) := by decide +kernel
theorem dX7_goOn_10 : decode cX7_goOn 10 = .ok (.istore 4, 2) := by decide +kernel
theorem dX7_goOn_12 : decode cX7_goOn 12 = .ok (.iload 4, 2) := by decide +kernel
theorem dX7_goOn_14 : decode cX7_goOn 14 = .ok (.aload_n 1, 1) := by decide +kernel
theorem dX7_goOn_15 : decode cX7_goOn 15 = .ok (.invokeinterface 59 1, 5) := by decide +kernel
theorem dX7_goOn_20 : decode cX7_goOn 20 = .ok (.if_icmp .ge 85, 3) := by decide +kernel
theorem dX7_goOn_23 : decode cX7_goOn 23 = .ok (.aload_n 1, 1) := by decide +kernel
theorem dX7_goOn_24 : decode cX7_goOn 24 = .ok (.iload_n 3, 1) := by decide +kernel
theorem dX7_goOn_25 : decode cX7_goOn 25 = .ok (.iload 4, 2) := by decide +kernel
theorem dX7_goOn_27 : decode cX7_goOn 27 = .ok (.invokeinterface 65 3, 5) := by decide +kernel
theorem dX7_goOn_32 : decode cX7_goOn 32 = .ok (.istore 5, 2) := by decide +kernel
theorem dX7_goOn_34 : decode cX7_goOn 34 = .ok (.aload_n 0, 1) := by decide +kernel
theorem dX7_goOn_35 : decode cX7_goOn 35 = .ok (.getfield 9, 3) := by decide +kernel
theorem dX7_goOn_38 : decode cX7_goOn 38 = .ok (.iload_n 3, 1) := by decide +kernel
theorem dX7_goOn_39 : decode cX7_goOn 39 = .ok (.laload, 1) := by decide +kernel
theorem dX7_goOn_40 : decode cX7_goOn 40 = .ok (.aload_n 1, 1) := by decide +kernel
theorem dX7_goOn_41 : decode cX7_goOn 41 = .ok (.iload 4, 2) := by decide +kernel
theorem dX7_goOn_43 : decode cX7_goOn 43 = .ok (.invokeinterface 69 2, 5) := by decide +kernel
theorem dX7_goOn_48 : decode cX7_goOn 48 = .ok (.i2l, 1) := by decide +kernel
theorem dX7_goOn_49 : decode cX7_goOn 49 = .ok (.ldc2_w 73, 3) := by decide +kernel
theorem dX7_goOn_52 : decode cX7_goOn 52 = .ok (.lmul, 1) := by decide +kernel
theorem dX7_goOn_53 : decode cX7_goOn 53 = .ok (.ladd, 1) := by decide +kernel
theorem dX7_goOn_54 : decode cX7_goOn 54 = .ok (.lconst 1, 1) := by decide +kernel
theorem dX7_goOn_55 : decode cX7_goOn 55 = .ok (.ladd, 1) := by decide +kernel
theorem dX7_goOn_56 : decode cX7_goOn 56 = .ok (.lstore 6, 2) := by decide +kernel
theorem dX7_goOn_58 : decode cX7_goOn 58 = .ok (.aload_n 0, 1) := by decide +kernel
theorem dX7_goOn_59 : decode cX7_goOn 59 = .ok (.iload 5, 2) := by decide +kernel
theorem dX7_goOn_61 : decode cX7_goOn 61 = .ok (.invokevirtual 30, 3) := by decide +kernel
theorem dX7_goOn_64 : decode cX7_goOn 64 = .ok (.ifCond .eq 35, 3) := by decide +kernel
theorem dX7_goOn_67 : decode cX7_goOn 67 = .ok (.lload 6, 2) := by decide +kernel
theorem dX7_goOn_69 : decode cX7_goOn 69 = .ok (.aload_n 0, 1) := by decide +kernel
theorem dX7_goOn_70 : decode cX7_goOn 70 = .ok (.getfield 9, 3) := by decide +kernel
theorem dX7_goOn_73 : decode cX7_goOn 73 = .ok (.iload 5, 2) := by decide +kernel
theorem dX7_goOn_75 : decode cX7_goOn 75 = .ok (.laload, 1) := by decide +kernel
theorem dX7_goOn_76 : decode cX7_goOn 76 = .ok (.lcmp, 1) := by decide +kernel
theorem dX7_goOn_77 : decode cX7_goOn 77 = .ok (.ifCond .ge 22, 3) := by decide +kernel
theorem dX7_goOn_80 : decode cX7_goOn 80 = .ok (.aload_n 0, 1) := by decide +kernel
theorem dX7_goOn_81 : decode cX7_goOn 81 = .ok (.getfield 9, 3) := by decide +kernel
theorem dX7_goOn_84 : decode cX7_goOn 84 = .ok (.iload 5, 2) := by decide +kernel
theorem dX7_goOn_86 : decode cX7_goOn 86 = .ok (.lload 6, 2) := by decide +kernel
theorem dX7_goOn_88 : decode cX7_goOn 88 = .ok (.lastore, 1) := by decide +kernel
theorem dX7_goOn_89 : decode cX7_goOn 89 = .ok (.aload_n 2, 1) := by decide +kernel
theorem dX7_goOn_90 : decode cX7_goOn 90 = .ok (.iload 5, 2) := by decide +kernel
theorem dX7_goOn_92 : decode cX7_goOn 92 = .ok (.aload_n 0, 1) := by decide +kernel
theorem dX7_goOn_93 : decode cX7_goOn 93 = .ok (.getfield 9, 3) := by decide +kernel
theorem dX7_goOn_96 : decode cX7_goOn 96 = .ok (.invokevirtual 39, 3) := by decide +kernel
theorem dX7_goOn_99 : decode cX7_goOn 99 = .ok (.iinc 4 1, 3) := by decide +kernel
theorem dX7_goOn_102 : decode cX7_goOn 102 = .ok (.goto (-90), 3) := by decide +kernel
theorem dX7_goOn_105 : decode cX7_goOn 105 = .ok (.return_, 1) := by decide +kernel
theorem dX7_reach_0 : decode cX7_reach 0 = .ok (.aload_n 1, 1) := by decide +kernel
theorem dX7_reach_1 : decode cX7_reach 1 = .ok (.getfield 75, 3) := by decide +kernel
theorem dX7_reach_4 : decode cX7_reach 4 = .ok (.iconst 1, 1) := by decide +kernel
theorem dX7_reach_5 : decode cX7_reach 5 = .ok (.if_icmp .lt 22, 3) := by decide +kernel
theorem dX7_reach_8 : decode cX7_reach 8 = .ok (.aload_n 0, 1) := by decide +kernel
theorem dX7_reach_9 : decode cX7_reach 9 = .ok (.iload_n 3, 1) := by decide +kernel
theorem dX7_reach_10 : decode cX7_reach 10 = .ok (.invokevirtual 30, 3) := by decide +kernel
theorem dX7_reach_13 : decode cX7_reach 13 = .ok (.ifCond .eq 14, 3) := by decide +kernel
theorem dX7_reach_16 : decode cX7_reach 16 = .ok (.iload 4, 2) := by decide +kernel
theorem dX7_reach_18 : decode cX7_reach 18 = .ok (.iload_n 3, 1) := by decide +kernel
theorem dX7_reach_19 : decode cX7_reach 19 = .ok (.isub, 1) := by decide +kernel
theorem dX7_reach_20 : decode cX7_reach 20 = .ok (.aload_n 1, 1) := by decide +kernel
theorem dX7_reach_21 : decode cX7_reach 21 = .ok (.getfield 75, 3) := by decide +kernel
theorem dX7_reach_24 : decode cX7_reach 24 = .ok (.if_icmp .ge 5, 3) := by decide +kernel
theorem dX7_reach_27 : decode cX7_reach 27 = .ok (.iload_n 3, 1) := by decide +kernel
theorem dX7_reach_28 : decode cX7_reach 28 = .ok (.ireturn, 1) := by decide +kernel
theorem dX7_reach_29 : decode cX7_reach 29 = .ok (.iload 4, 2) := by decide +kernel
theorem dX7_reach_31 : decode cX7_reach 31 = .ok (.iload_n 3, 1) := by decide +kernel
theorem dX7_reach_32 : decode cX7_reach 32 = .ok (.isub, 1) := by decide +kernel
theorem dX7_reach_33 : decode cX7_reach 33 = .ok (.aload_n 1, 1) := by decide +kernel
theorem dX7_reach_34 : decode cX7_reach 34 = .ok (.getfield 75, 3) := by decide +kernel
theorem dX7_reach_37 : decode cX7_reach 37 = .ok (.idiv, 1) := by decide +kernel
theorem dX7_reach_38 : decode cX7_reach 38 = .ok (.istore 6, 2) := by decide +kernel
theorem dX7_reach_40 : decode cX7_reach 40 = .ok (.aload_n 0, 1) := by decide +kernel
theorem dX7_reach_41 : decode cX7_reach 41 = .ok (.getfield 9, 3) := by decide +kernel
theorem dX7_reach_44 : decode cX7_reach 44 = .ok (.ldc2_w 22, 3) := by decide +kernel
theorem dX7_reach_47 : decode cX7_reach 47 = .ok (.invokestatic 24, 3) := by decide +kernel
theorem dX7_reach_50 : decode cX7_reach 50 = .ok (.aload_n 2, 1) := by decide +kernel
theorem dX7_reach_51 : decode cX7_reach 51 = .ok (.invokevirtual 34, 3) := by decide +kernel
theorem dX7_reach_54 : decode cX7_reach 54 = .ok (.aload_n 0, 1) := by decide +kernel
theorem dX7_reach_55 : decode cX7_reach 55 = .ok (.iload_n 3, 1) := by decide +kernel
theorem dX7_reach_56 : decode cX7_reach 56 = .ok (.invokevirtual 80, 3) := by decide +kernel
theorem dX7_reach_59 : decode cX7_reach 59 = .ok (.aload_n 2, 1) := by decide +kernel
theorem dX7_reach_60 : decode cX7_reach 60 = .ok (.iload_n 3, 1) := by decide +kernel
theorem dX7_reach_61 : decode cX7_reach 61 = .ok (.aload_n 0, 1) := by decide +kernel
theorem dX7_reach_62 : decode cX7_reach 62 = .ok (.getfield 9, 3) := by decide +kernel
theorem dX7_reach_65 : decode cX7_reach 65 = .ok (.invokevirtual 39, 3) := by decide +kernel
theorem dX7_reach_68 : decode cX7_reach 68 = .ok (.iconst 0, 1) := by decide +kernel
theorem dX7_reach_69 : decode cX7_reach 69 = .ok (.istore 7, 2) := by decide +kernel
theorem dX7_reach_71 : decode cX7_reach 71 = .ok (.iload 7, 2) := by decide +kernel
theorem dX7_reach_73 : decode cX7_reach 73 = .ok (.aload_n 0, 1) := by decide +kernel
theorem dX7_reach_74 : decode cX7_reach 74 = .ok (.getfield 9, 3) := by decide +kernel
theorem dX7_reach_77 : decode cX7_reach 77 = .ok (.arraylength, 1) := by decide +kernel
theorem dX7_reach_78 : decode cX7_reach 78 = .ok (.if_icmp .ge 79, 3) := by decide +kernel
theorem dX7_reach_81 : decode cX7_reach 81 = .ok (.aload_n 2, 1) := by decide +kernel
theorem dX7_reach_82 : decode cX7_reach 82 = .ok (.getfield 43, 3) := by decide +kernel
theorem dX7_reach_85 : decode cX7_reach 85 = .ok (.ifCond .le 72, 3) := by decide +kernel
theorem dX7_reach_88 : decode cX7_reach 88 = .ok (.iload 6, 2) := by decide +kernel
theorem dX7_reach_90 : decode cX7_reach 90 = .ok (.ifCond .le 67, 3) := by decide +kernel
theorem dX7_reach_93 : decode cX7_reach 93 = .ok (.aload_n 2, 1) := by decide +kernel
theorem dX7_reach_94 : decode cX7_reach 94 = .ok (.aload_n 0, 1) := by decide +kernel
theorem dX7_reach_95 : decode cX7_reach 95 = .ok (.getfield 9, 3) := by decide +kernel
theorem dX7_reach_98 : decode cX7_reach 98 = .ok (.invokevirtual 47, 3) := by decide +kernel
theorem dX7_reach_101 : decode cX7_reach 101 = .ok (.istore 8, 2) := by decide +kernel
theorem dX7_reach_103 : decode cX7_reach 103 = .ok (.aload_n 0, 1) := by decide +kernel
theorem dX7_reach_104 : decode cX7_reach 104 = .ok (.iload 8, 2) := by decide +kernel
theorem dX7_reach_106 : decode cX7_reach 106 = .ok (.invokevirtual 84, 3) := by decide +kernel
theorem dX7_reach_109 : decode cX7_reach 109 = .ok (.iload 5, 2) := by decide +kernel
theorem dX7_reach_111 : decode cX7_reach 111 = .ok (.if_icmp .le 9, 3) := by decide +kernel
theorem dX7_reach_114 : decode cX7_reach 114 = .ok (.iconst 0, 1) := by decide +kernel
theorem dX7_reach_115 : decode cX7_reach 115 = .ok (.istore 6, 2) := by decide +kernel
theorem dX7_reach_117 : decode cX7_reach 117 = .ok (.goto 34, 3) := by decide +kernel
theorem dX7_reach_120 : decode cX7_reach 120 = .ok (.aload_n 0, 1) := by decide +kernel
theorem dX7_reach_121 : decode cX7_reach 121 = .ok (.aload_n 1, 1) := by decide +kernel
theorem dX7_reach_122 : decode cX7_reach 122 = .ok (.aload_n 2, 1) := by decide +kernel
theorem dX7_reach_123 : decode cX7_reach 123 = .ok (.iload 8, 2) := by decide +kernel
theorem dX7_reach_125 : decode cX7_reach 125 = .ok (.invokevirtual 55, 3) := by decide +kernel
theorem dX7_reach_128 : decode cX7_reach 128 = .ok (.iload 6, 2) := by decide +kernel
theorem dX7_reach_130 : decode cX7_reach 130 = .ok (.iload 8, 2) := by decide +kernel
theorem dX7_reach_132 : decode cX7_reach 132 = .ok (.iload_n 3, 1) := by decide +kernel
theorem dX7_reach_133 : decode cX7_reach 133 = .ok (.if_icmp .le 14, 3) := by decide +kernel
theorem dX7_reach_136 : decode cX7_reach 136 = .ok (.iload 8, 2) := by decide +kernel
theorem dX7_reach_138 : decode cX7_reach 138 = .ok (.iload 4, 2) := by decide +kernel
theorem dX7_reach_140 : decode cX7_reach 140 = .ok (.if_icmp .gt 7, 3) := by decide +kernel
theorem dX7_reach_143 : decode cX7_reach 143 = .ok (.iconst 1, 1) := by decide +kernel
theorem dX7_reach_144 : decode cX7_reach 144 = .ok (.goto 4, 3) := by decide +kernel
theorem dX7_reach_147 : decode cX7_reach 147 = .ok (.iconst 0, 1) := by decide +kernel
theorem dX7_reach_148 : decode cX7_reach 148 = .ok (.isub, 1) := by decide +kernel
theorem dX7_reach_149 : decode cX7_reach 149 = .ok (.istore 6, 2) := by decide +kernel
theorem dX7_reach_151 : decode cX7_reach 151 = .ok (.iinc 7 1, 3) := by decide +kernel
theorem dX7_reach_154 : decode cX7_reach 154 = .ok (.goto (-83), 3) := by decide +kernel
theorem dX7_reach_157 : decode cX7_reach 157 = .ok (.iload 4, 2) := by decide +kernel
theorem dX7_reach_159 : decode cX7_reach 159 = .ok (.ireturn, 1) := by decide +kernel
theorem dX7_costOf_0 : decode cX7_costOf 0 = .ok (.aload_n 0, 1) := by decide +kernel
theorem dX7_costOf_1 : decode cX7_costOf 1 = .ok (.iload_n 1, 1) := by decide +kernel
theorem dX7_costOf_2 : decode cX7_costOf 2 = .ok (.invokevirtual 30, 3) := by decide +kernel
theorem dX7_costOf_5 : decode cX7_costOf 5 = .ok (.ifCond .eq 30, 3) := by decide +kernel
theorem dX7_costOf_8 : decode cX7_costOf 8 = .ok (.aload_n 0, 1) := by decide +kernel
theorem dX7_costOf_9 : decode cX7_costOf 9 = .ok (.getfield 9, 3) := by decide +kernel
theorem dX7_costOf_12 : decode cX7_costOf 12 = .ok (.iload_n 1, 1) := by decide +kernel
theorem dX7_costOf_13 : decode cX7_costOf 13 = .ok (.laload, 1) := by decide +kernel
theorem dX7_costOf_14 : decode cX7_costOf 14 = .ok (.ldc2_w 22, 3) := by decide +kernel
theorem dX7_costOf_17 : decode cX7_costOf 17 = .ok (.lcmp, 1) := by decide +kernel
theorem dX7_costOf_18 : decode cX7_costOf 18 = .ok (.ifCond .ge 17, 3) := by decide +kernel
theorem dX7_costOf_21 : decode cX7_costOf 21 = .ok (.aload_n 0, 1) := by decide +kernel
theorem dX7_costOf_22 : decode cX7_costOf 22 = .ok (.getfield 9, 3) := by decide +kernel
theorem dX7_costOf_25 : decode cX7_costOf 25 = .ok (.iload_n 1, 1) := by decide +kernel
theorem dX7_costOf_26 : decode cX7_costOf 26 = .ok (.laload, 1) := by decide +kernel
theorem dX7_costOf_27 : decode cX7_costOf 27 = .ok (.ldc2_w 73, 3) := by decide +kernel
theorem dX7_costOf_30 : decode cX7_costOf 30 = .ok (.ldiv, 1) := by decide +kernel
theorem dX7_costOf_31 : decode cX7_costOf 31 = .ok (.l2i, 1) := by decide +kernel
theorem dX7_costOf_32 : decode cX7_costOf 32 = .ok (.goto 4, 3) := by decide +kernel
theorem dX7_costOf_35 : decode cX7_costOf 35 = .ok (.iconst (-1), 1) := by decide +kernel
theorem dX7_costOf_36 : decode cX7_costOf 36 = .ok (.ireturn, 1) := by decide +kernel
theorem dX7_stepCount_0 : decode cX7_stepCount 0 = .ok (.aload_n 0, 1) := by decide +kernel
theorem dX7_stepCount_1 : decode cX7_stepCount 1 = .ok (.iload_n 1, 1) := by decide +kernel
theorem dX7_stepCount_2 : decode cX7_stepCount 2 = .ok (.invokevirtual 30, 3) := by decide +kernel
theorem dX7_stepCount_5 : decode cX7_stepCount 5 = .ok (.ifCond .eq 30, 3) := by decide +kernel
theorem dX7_stepCount_8 : decode cX7_stepCount 8 = .ok (.aload_n 0, 1) := by decide +kernel
theorem dX7_stepCount_9 : decode cX7_stepCount 9 = .ok (.getfield 9, 3) := by decide +kernel
theorem dX7_stepCount_12 : decode cX7_stepCount 12 = .ok (.iload_n 1, 1) := by decide +kernel
theorem dX7_stepCount_13 : decode cX7_stepCount 13 = .ok (.laload, 1) := by decide +kernel
theorem dX7_stepCount_14 : decode cX7_stepCount 14 = .ok (.ldc2_w 22, 3) := by decide +kernel
theorem dX7_stepCount_17 : decode cX7_stepCount 17 = .ok (.lcmp, 1) := by decide +kernel
theorem dX7_stepCount_18 : decode cX7_stepCount 18 = .ok (.ifCond .ge 17, 3) := by decide +kernel
theorem dX7_stepCount_21 : decode cX7_stepCount 21 = .ok (.aload_n 0, 1) := by decide +kernel
theorem dX7_stepCount_22 : decode cX7_stepCount 22 = .ok (.getfield 9, 3) := by decide +kernel
theorem dX7_stepCount_25 : decode cX7_stepCount 25 = .ok (.iload_n 1, 1) := by decide +kernel
theorem dX7_stepCount_26 : decode cX7_stepCount 26 = .ok (.laload, 1) := by decide +kernel
theorem dX7_stepCount_27 : decode cX7_stepCount 27 = .ok (.ldc2_w 73, 3) := by decide +kernel
theorem dX7_stepCount_30 : decode cX7_stepCount 30 = .ok (.lrem, 1) := by decide +kernel
theorem dX7_stepCount_31 : decode cX7_stepCount 31 = .ok (.l2i, 1) := by decide +kernel
theorem dX7_stepCount_32 : decode cX7_stepCount 32 = .ok (.goto 4, 3) := by decide +kernel
theorem dX7_stepCount_35 : decode cX7_stepCount 35 = .ok (.iconst 0, 1) := by decide +kernel
theorem dX7_stepCount_36 : decode cX7_stepCount 36 = .ok (.ireturn, 1) := by decide +kernel
theorem dX7_endOf_0 : decode cX7_endOf 0 = .ok (.aload_n 0, 1) := by decide +kernel
theorem dX7_endOf_1 : decode cX7_endOf 1 = .ok (.iload_n 1, 1) := by decide +kernel
theorem dX7_endOf_2 : decode cX7_endOf 2 = .ok (.invokevirtual 30, 3) := by decide +kernel
theorem dX7_endOf_5 : decode cX7_endOf 5 = .ok (.ifCond .eq 12, 3) := by decide +kernel
theorem dX7_endOf_8 : decode cX7_endOf 8 = .ok (.aload_n 0, 1) := by decide +kernel
theorem dX7_endOf_9 : decode cX7_endOf 9 = .ok (.getfield 19, 3) := by decide +kernel
theorem dX7_endOf_12 : decode cX7_endOf 12 = .ok (.iload_n 1, 1) := by decide +kernel
theorem dX7_endOf_13 : decode cX7_endOf 13 = .ok (.iaload, 1) := by decide +kernel
theorem dX7_endOf_14 : decode cX7_endOf 14 = .ok (.goto 4, 3) := by decide +kernel
theorem dX7_endOf_17 : decode cX7_endOf 17 = .ok (.iconst 0, 1) := by decide +kernel
theorem dX7_endOf_18 : decode cX7_endOf 18 = .ok (.ireturn, 1) := by decide +kernel
theorem dX7_nextOf_0 : decode cX7_nextOf 0 = .ok (.aload_n 0, 1) := by decide +kernel
theorem dX7_nextOf_1 : decode cX7_nextOf 1 = .ok (.iload_n 1, 1) := by decide +kernel
theorem dX7_nextOf_2 : decode cX7_nextOf 2 = .ok (.invokevirtual 30, 3) := by decide +kernel
theorem dX7_nextOf_5 : decode cX7_nextOf 5 = .ok (.ifCond .eq 12, 3) := by decide +kernel
theorem dX7_nextOf_8 : decode cX7_nextOf 8 = .ok (.aload_n 0, 1) := by decide +kernel
theorem dX7_nextOf_9 : decode cX7_nextOf 9 = .ok (.getfield 15, 3) := by decide +kernel
theorem dX7_nextOf_12 : decode cX7_nextOf 12 = .ok (.iload_n 1, 1) := by decide +kernel
theorem dX7_nextOf_13 : decode cX7_nextOf 13 = .ok (.iaload, 1) := by decide +kernel
theorem dX7_nextOf_14 : decode cX7_nextOf 14 = .ok (.goto 4, 3) := by decide +kernel
theorem dX7_nextOf_17 : decode cX7_nextOf 17 = .ok (.iconst 0, 1) := by decide +kernel
theorem dX7_nextOf_18 : decode cX7_nextOf 18 = .ok (.ireturn, 1) := by decide +kernel
theorem dX7_stepOf_0 : decode cX7_stepOf 0 = .ok (.aload_n 0, 1) := by decide +kernel
theorem dX7_stepOf_1 : decode cX7_stepOf 1 = .ok (.iload_n 1, 1) := by decide +kernel
theorem dX7_stepOf_2 : decode cX7_stepOf 2 = .ok (.invokevirtual 85, 3) := by decide +kernel
theorem dX7_stepOf_5 : decode cX7_stepOf 5 = .ok (.istore_n 3, 1) := by decide +kernel
theorem dX7_stepOf_6 : decode cX7_stepOf 6 = .ok (.iload_n 2, 1) := by decide +kernel
theorem dX7_stepOf_7 : decode cX7_stepOf 7 = .ok (.iconst (-1), 1) := by decide +kernel
theorem dX7_stepOf_8 : decode cX7_stepOf 8 = .ok (.if_icmp .ne 5, 3) := by decide +kernel
theorem dX7_stepOf_11 : decode cX7_stepOf 11 = .ok (.iload_n 3, 1) := by decide +kernel
theorem dX7_stepOf_12 : decode cX7_stepOf 12 = .ok (.ireturn, 1) := by decide +kernel
theorem dX7_stepOf_13 : decode cX7_stepOf 13 = .ok (.iload_n 2, 1) := by decide +kernel
theorem dX7_stepOf_14 : decode cX7_stepOf 14 = .ok (.ifCond .lt 8, 3) := by decide +kernel
theorem dX7_stepOf_17 : decode cX7_stepOf 17 = .ok (.iload_n 2, 1) := by decide +kernel
theorem dX7_stepOf_18 : decode cX7_stepOf 18 = .ok (.iload_n 3, 1) := by decide +kernel
theorem dX7_stepOf_19 : decode cX7_stepOf 19 = .ok (.if_icmp .le 5, 3) := by decide +kernel
theorem dX7_stepOf_22 : decode cX7_stepOf 22 = .ok (.iconst (-1), 1) := by decide +kernel
theorem dX7_stepOf_23 : decode cX7_stepOf 23 = .ok (.ireturn, 1) := by decide +kernel
theorem dX7_stepOf_24 : decode cX7_stepOf 24 = .ok (.iload_n 1, 1) := by decide +kernel
theorem dX7_stepOf_25 : decode cX7_stepOf 25 = .ok (.istore 4, 2) := by decide +kernel
theorem dX7_stepOf_27 : decode cX7_stepOf 27 = .ok (.iconst 0, 1) := by decide +kernel
theorem dX7_stepOf_28 : decode cX7_stepOf 28 = .ok (.istore 5, 2) := by decide +kernel
theorem dX7_stepOf_30 : decode cX7_stepOf 30 = .ok (.iload 5, 2) := by decide +kernel
theorem dX7_stepOf_32 : decode cX7_stepOf 32 = .ok (.iload_n 2, 1) := by decide +kernel
theorem dX7_stepOf_33 : decode cX7_stepOf 33 = .ok (.if_icmp .ge 17, 3) := by decide +kernel
theorem dX7_stepOf_36 : decode cX7_stepOf 36 = .ok (.aload_n 0, 1) := by decide +kernel
theorem dX7_stepOf_37 : decode cX7_stepOf 37 = .ok (.iload 4, 2) := by decide +kernel
theorem dX7_stepOf_39 : decode cX7_stepOf 39 = .ok (.invokevirtual 88, 3) := by decide +kernel
theorem dX7_stepOf_42 : decode cX7_stepOf 42 = .ok (.istore 4, 2) := by decide +kernel
theorem dX7_stepOf_44 : decode cX7_stepOf 44 = .ok (.iinc 5 1, 3) := by decide +kernel
theorem dX7_stepOf_47 : decode cX7_stepOf 47 = .ok (.goto (-17), 3) := by decide +kernel
theorem dX7_stepOf_50 : decode cX7_stepOf 50 = .ok (.iload 4, 2) := by decide +kernel
theorem dX7_stepOf_52 : decode cX7_stepOf 52 = .ok (.ireturn, 1) := by decide +kernel
theorem dX8_init_0 : decode cX8_init 0 = .ok (.aload_n 0, 1) := by decide +kernel
theorem dX8_init_1 : decode cX8_init 1 = .ok (.invokespecial 3, 3) := by decide +kernel
theorem dX8_init_4 : decode cX8_init 4 = .ok (.aload_n 0, 1) := by decide +kernel
theorem dX8_init_5 : decode cX8_init 5 = .ok (.iload_n 1, 1) := by decide +kernel
theorem dX8_init_6 : decode cX8_init 6 = .ok (.putfield 9, 3) := by decide +kernel
theorem dX8_init_9 : decode cX8_init 9 = .ok (.aload_n 0, 1) := by decide +kernel
theorem dX8_init_10 : decode cX8_init 10 = .ok (.aload_n 2, 1) := by decide +kernel
theorem dX8_init_11 : decode cX8_init 11 = .ok (.putfield 15, 3) := by decide +kernel
theorem dX8_init_14 : decode cX8_init 14 = .ok (.aload_n 0, 1) := by decide +kernel
theorem dX8_init_15 : decode cX8_init 15 = .ok (.iload_n 3, 1) := by decide +kernel
theorem dX8_init_16 : decode cX8_init 16 = .ok (.invokestatic 19, 3) := by decide +kernel
theorem dX8_init_19 : decode cX8_init 19 = .ok (.putfield 23, 3) := by decide +kernel
theorem dX8_init_22 : decode cX8_init 22 = .ok (.aload_n 0, 1) := by decide +kernel
theorem dX8_init_23 : decode cX8_init 23 = .ok (.iload_n 3, 1) := by decide +kernel
theorem dX8_init_24 : decode cX8_init 24 = .ok (.invokestatic 26, 3) := by decide +kernel
theorem dX8_init_27 : decode cX8_init 27 = .ok (.putfield 29, 3) := by decide +kernel
theorem dX8_init_30 : decode cX8_init 30 = .ok (.aload_n 0, 1) := by decide +kernel
theorem dX8_init_31 : decode cX8_init 31 = .ok (.iload_n 3, 1) := by decide +kernel
theorem dX8_init_32 : decode cX8_init 32 = .ok (.invokestatic 32, 3) := by decide +kernel
theorem dX8_init_35 : decode cX8_init 35 = .ok (.putfield 35, 3) := by decide +kernel
theorem dX8_init_38 : decode cX8_init 38 = .ok (.aload_n 0, 1) := by decide +kernel
theorem dX8_init_39 : decode cX8_init 39 = .ok (.iload 4, 2) := by decide +kernel
theorem dX8_init_41 : decode cX8_init 41 = .ok (.putfield 38, 3) := by decide +kernel
theorem dX8_init_44 : decode cX8_init 44 = .ok (.return_, 1) := by decide +kernel
theorem dX8_isLike_0 : decode cX8_isLike 0 = .ok (.aload_n 0, 1) := by decide +kernel
theorem dX8_isLike_1 : decode cX8_isLike 1 = .ok (.getfield 15, 3) := by decide +kernel
theorem dX8_isLike_4 : decode cX8_isLike 4 = .ok (.aload_n 0, 1) := by decide +kernel
theorem dX8_isLike_5 : decode cX8_isLike 5 = .ok (.getfield 23, 3) := by decide +kernel
theorem dX8_isLike_8 : decode cX8_isLike 8 = .ok (.invokevirtual 41, 3) := by decide +kernel
theorem dX8_isLike_11 : decode cX8_isLike 11 = .ok (.istore_n 2, 1) := by decide +kernel
theorem dX8_isLike_12 : decode cX8_isLike 12 = .ok (.iload_n 2, 1) := by decide +kernel
theorem dX8_isLike_13 : decode cX8_isLike 13 = .ok (.iconst (-1), 1) := by decide +kernel
theorem dX8_isLike_14 : decode cX8_isLike 14 = .ok (.if_icmp .eq 22, 3) := by decide +kernel
theorem dX8_isLike_17 : decode cX8_isLike 17 = .ok (.iload_n 2, 1) := by decide +kernel
theorem dX8_isLike_18 : decode cX8_isLike 18 = .ok (.aload_n 1, 1) := by decide +kernel
theorem dX8_isLike_19 : decode cX8_isLike 19 = .ok (.getfield 15, 3) := by decide +kernel
theorem dX8_isLike_22 : decode cX8_isLike 22 = .ok (.aload_n 1, 1) := by decide +kernel
theorem dX8_isLike_23 : decode cX8_isLike 23 = .ok (.getfield 23, 3) := by decide +kernel
theorem dX8_isLike_26 : decode cX8_isLike 26 = .ok (.invokevirtual 41, 3) := by decide +kernel
theorem dX8_isLike_29 : decode cX8_isLike 29 = .ok (.if_icmp .ne 7, 3) := by decide +kernel
theorem dX8_isLike_32 : decode cX8_isLike 32 = .ok (.iconst 1, 1) := by decide +kernel
theorem dX8_isLike_33 : decode cX8_isLike 33 = .ok (.goto 4, 3) := by decide +kernel
theorem dX8_isLike_36 : decode cX8_isLike 36 = .ok (.iconst 0, 1) := by decide +kernel
theorem dX8_isLike_37 : decode cX8_isLike 37 = .ok (.ireturn, 1) := by decide +kernel
theorem dX9_init_0 : decode cX9_init 0 = .ok (.aload_n 0, 1) := by decide +kernel
theorem dX9_init_1 : decode cX9_init 1 = .ok (.invokespecial 1, 3) := by decide +kernel
theorem dX9_init_4 : decode cX9_init 4 = .ok (.aload_n 0, 1) := by decide +kernel
theorem dX9_init_5 : decode cX9_init 5 = .ok (.bipush 6, 2) := by decide +kernel
theorem dX9_init_7 : decode cX9_init 7 = .ok (.newarray .int, 2) := by decide +kernel
theorem dX9_init_9 : decode cX9_init 9 = .ok (.putfield 9, 3) := by decide +kernel
theorem dX9_init_12 : decode cX9_init 12 = .ok (.aload_n 0, 1) := by decide +kernel
theorem dX9_init_13 : decode cX9_init 13 = .ok (.bipush 6, 2) := by decide +kernel
theorem dX9_init_15 : decode cX9_init 15 = .ok (.newarray .int, 2) := by decide +kernel
theorem dX9_init_17 : decode cX9_init 17 = .ok (.putfield 13, 3) := by decide +kernel
theorem dX9_init_20 : decode cX9_init 20 = .ok (.return_, 1) := by decide +kernel
theorem dX9_lineCount_0 : decode cX9_lineCount 0 = .ok (.iconst 2, 1) := by decide +kernel
theorem dX9_lineCount_1 : decode cX9_lineCount 1 = .ok (.aload_n 0, 1) := by decide +kernel
theorem dX9_lineCount_2 : decode cX9_lineCount 2 = .ok (.getfield 16, 3) := by decide +kernel
theorem dX9_lineCount_5 : decode cX9_lineCount 5 = .ok (.imul, 1) := by decide +kernel
theorem dX9_lineCount_6 : decode cX9_lineCount 6 = .ok (.ireturn, 1) := by decide +kernel
theorem dX9_over_0 : decode cX9_over 0 = .ok (.iload_n 2, 1) := by decide +kernel
theorem dX9_over_1 : decode cX9_over 1 = .ok (.iconst 1, 1) := by decide +kernel
theorem dX9_over_2 : decode cX9_over 2 = .ok (.ishr, 1) := by decide +kernel
theorem dX9_over_3 : decode cX9_over 3 = .ok (.istore_n 3, 1) := by decide +kernel
theorem dX9_over_4 : decode cX9_over 4 = .ok (.iload_n 3, 1) := by decide +kernel
theorem dX9_over_5 : decode cX9_over 5 = .ok (.ifCond .lt 11, 3) := by decide +kernel
theorem dX9_over_8 : decode cX9_over 8 = .ok (.iload_n 3, 1) := by decide +kernel
theorem dX9_over_9 : decode cX9_over 9 = .ok (.aload_n 0, 1) := by decide +kernel
theorem dX9_over_10 : decode cX9_over 10 = .ok (.getfield 16, 3) := by decide +kernel
theorem dX9_over_13 : decode cX9_over 13 = .ok (.if_icmp .lt 5, 3) := by decide +kernel
theorem dX9_over_16 : decode cX9_over 16 = .ok (.iconst 0, 1) := by decide +kernel
theorem dX9_over_17 : decode cX9_over 17 = .ok (.ireturn, 1) := by decide +kernel
theorem dX9_over_18 : decode cX9_over 18 = .ok (.iload_n 2, 1) := by decide +kernel
theorem dX9_over_19 : decode cX9_over 19 = .ok (.iconst 1, 1) := by decide +kernel
theorem dX9_over_20 : decode cX9_over 20 = .ok (.iand, 1) := by decide +kernel
theorem dX9_over_21 : decode cX9_over 21 = .ok (.ifCond .ne 14, 3) := by decide +kernel
theorem dX9_over_24 : decode cX9_over 24 = .ok (.iload_n 1, 1) := by decide +kernel
theorem dX9_over_25 : decode cX9_over 25 = .ok (.aload_n 0, 1) := by decide +kernel
theorem dX9_over_26 : decode cX9_over 26 = .ok (.getfield 9, 3) := by decide +kernel
theorem dX9_over_29 : decode cX9_over 29 = .ok (.iload_n 3, 1) := by decide +kernel
theorem dX9_over_30 : decode cX9_over 30 = .ok (.iaload, 1) := by decide +kernel
theorem dX9_over_31 : decode cX9_over 31 = .ok (.isub, 1) := by decide +kernel
theorem dX9_over_32 : decode cX9_over 32 = .ok (.goto 11, 3) := by decide +kernel
theorem dX9_over_35 : decode cX9_over 35 = .ok (.iload_n 1, 1) := by decide +kernel
theorem dX9_over_36 : decode cX9_over 36 = .ok (.aload_n 0, 1) := by decide +kernel
theorem dX9_over_37 : decode cX9_over 37 = .ok (.getfield 9, 3) := by decide +kernel
theorem dX9_over_40 : decode cX9_over 40 = .ok (.iload_n 3, 1) := by decide +kernel
theorem dX9_over_41 : decode cX9_over 41 = .ok (.iaload, 1) := by decide +kernel
theorem dX9_over_42 : decode cX9_over 42 = .ok (.iadd, 1) := by decide +kernel
theorem dX9_over_43 : decode cX9_over 43 = .ok (.istore 4, 2) := by decide +kernel
theorem dX9_over_45 : decode cX9_over 45 = .ok (.iload 4, 2) := by decide +kernel
theorem dX9_over_47 : decode cX9_over 47 = .ok (.invokestatic 20, 3) := by decide +kernel
theorem dX9_over_50 : decode cX9_over 50 = .ok (.ifCond .eq 8, 3) := by decide +kernel
theorem dX9_over_53 : decode cX9_over 53 = .ok (.iload 4, 2) := by decide +kernel
theorem dX9_over_55 : decode cX9_over 55 = .ok (.goto 4, 3) := by decide +kernel
theorem dX9_over_58 : decode cX9_over 58 = .ok (.iconst 0, 1) := by decide +kernel
theorem dX9_over_59 : decode cX9_over 59 = .ok (.ireturn, 1) := by decide +kernel
theorem dX9_costOf_0 : decode cX9_costOf 0 = .ok (.iload_n 1, 1) := by decide +kernel
theorem dX9_costOf_1 : decode cX9_costOf 1 = .ok (.iconst 1, 1) := by decide +kernel
theorem dX9_costOf_2 : decode cX9_costOf 2 = .ok (.ishr, 1) := by decide +kernel
theorem dX9_costOf_3 : decode cX9_costOf 3 = .ok (.istore_n 2, 1) := by decide +kernel
theorem dX9_costOf_4 : decode cX9_costOf 4 = .ok (.iload_n 2, 1) := by decide +kernel
theorem dX9_costOf_5 : decode cX9_costOf 5 = .ok (.ifCond .lt 20, 3) := by decide +kernel
theorem dX9_costOf_8 : decode cX9_costOf 8 = .ok (.iload_n 2, 1) := by decide +kernel
theorem dX9_costOf_9 : decode cX9_costOf 9 = .ok (.aload_n 0, 1) := by decide +kernel
theorem dX9_costOf_10 : decode cX9_costOf 10 = .ok (.getfield 16, 3) := by decide +kernel
theorem dX9_costOf_13 : decode cX9_costOf 13 = .ok (.if_icmp .ge 12, 3) := by decide +kernel
theorem dX9_costOf_16 : decode cX9_costOf 16 = .ok (.aload_n 0, 1) := by decide +kernel
theorem dX9_costOf_17 : decode cX9_costOf 17 = .ok (.getfield 13, 3) := by decide +kernel
theorem dX9_costOf_20 : decode cX9_costOf 20 = .ok (.iload_n 2, 1) := by decide +kernel
theorem dX9_costOf_21 : decode cX9_costOf 21 = .ok (.iaload, 1) := by decide +kernel
theorem dX9_costOf_22 : decode cX9_costOf 22 = .ok (.goto 4, 3) := by decide +kernel
theorem dX9_costOf_25 : decode cX9_costOf 25 = .ok (.iconst 0, 1) := by decide +kernel
theorem dX9_costOf_26 : decode cX9_costOf 26 = .ok (.ireturn, 1) := by decide +kernel
theorem dX9_readFrom_0 : decode cX9_readFrom 0 = .ok (.aload_n 0, 1) := by decide +kernel
theorem dX9_readFrom_1 : decode cX9_readFrom 1 = .ok (.getfield 16, 3) := by decide +kernel
theorem dX9_readFrom_4 : decode cX9_readFrom 4 = .ok (.bipush 6, 2) := by decide +kernel
theorem dX9_readFrom_6 : decode cX9_readFrom 6 = .ok (.if_icmp .lt 8, 3) := by decide +kernel
theorem dX9_readFrom_9 : decode cX9_readFrom 9 = .ok (.aload_n 1, 1) := by decide +kernel
theorem dX9_readFrom_10 : decode cX9_readFrom 10 = .ok (.invokevirtual 26, 3) := by decide +kernel
theorem dX9_readFrom_13 : decode cX9_readFrom 13 = .ok (.return_, 1) := by decide +kernel
theorem dX9_readFrom_14 : decode cX9_readFrom 14 = .ok (.aload_n 1, 1) := by decide +kernel
theorem dX9_readFrom_15 : decode cX9_readFrom 15 = .ok (.bipush 121, 2) := by decide +kernel
theorem dX9_readFrom_17 : decode cX9_readFrom 17 = .ok (.invokevirtual 31, 3) := by decide +kernel
theorem dX9_readFrom_20 : decode cX9_readFrom 20 = .ok (.pop, 1) := by decide +kernel
theorem dX9_readFrom_21 : decode cX9_readFrom 21 = .ok (.aload_n 1, 1) := by decide +kernel
theorem dX9_readFrom_22 : decode cX9_readFrom 22 = .ok (.iconst 1, 1) := by decide +kernel
theorem dX9_readFrom_23 : decode cX9_readFrom 23 = .ok (.sipush 400, 3) := by decide +kernel
theorem dX9_readFrom_26 : decode cX9_readFrom 26 = .ok (.invokevirtual 34, 3) := by decide +kernel
theorem dX9_readFrom_29 : decode cX9_readFrom 29 = .ok (.istore_n 2, 1) := by decide +kernel
theorem dX9_readFrom_30 : decode cX9_readFrom 30 = .ok (.aload_n 0, 1) := by decide +kernel
theorem dX9_readFrom_31 : decode cX9_readFrom 31 = .ok (.iload_n 2, 1) := by decide +kernel
theorem dX9_readFrom_32 : decode cX9_readFrom 32 = .ok (.invokevirtual 38, 3) := by decide +kernel
theorem dX9_readFrom_35 : decode cX9_readFrom 35 = .ok (.ifCond .eq 7, 3) := by decide +kernel
theorem dX9_readFrom_38 : decode cX9_readFrom 38 = .ok (.aload_n 1, 1) := by decide +kernel
theorem dX9_readFrom_39 : decode cX9_readFrom 39 = .ok (.invokevirtual 41, 3) := by decide +kernel
theorem dX9_readFrom_42 : decode cX9_readFrom 42 = .ok (.aload_n 1, 1) := by decide +kernel
theorem dX9_readFrom_43 : decode cX9_readFrom 43 = .ok (.bipush 58, 2) := by decide +kernel
theorem dX9_readFrom_45 : decode cX9_readFrom 45 = .ok (.invokevirtual 44, 3) := by decide +kernel
theorem dX9_readFrom_48 : decode cX9_readFrom 48 = .ok (.aload_n 0, 1) := by decide +kernel
theorem dX9_readFrom_49 : decode cX9_readFrom 49 = .ok (.getfield 9, 3) := by decide +kernel
theorem dX9_readFrom_52 : decode cX9_readFrom 52 = .ok (.aload_n 0, 1) := by decide +kernel
theorem dX9_readFrom_53 : decode cX9_readFrom 53 = .ok (.getfield 16, 3) := by decide +kernel
theorem dX9_readFrom_56 : decode cX9_readFrom 56 = .ok (.iload_n 2, 1) := by decide +kernel
theorem dX9_readFrom_57 : decode cX9_readFrom 57 = .ok (.iastore, 1) := by decide +kernel
theorem dX9_readFrom_58 : decode cX9_readFrom 58 = .ok (.aload_n 0, 1) := by decide +kernel
theorem dX9_readFrom_59 : decode cX9_readFrom 59 = .ok (.getfield 13, 3) := by decide +kernel
theorem dX9_readFrom_62 : decode cX9_readFrom 62 = .ok (.aload_n 0, 1) := by decide +kernel
theorem dX9_readFrom_63 : decode cX9_readFrom 63 = .ok (.getfield 16, 3) := by decide +kernel
theorem dX9_readFrom_66 : decode cX9_readFrom 66 = .ok (.aload_n 1, 1) := by decide +kernel
theorem dX9_readFrom_67 : decode cX9_readFrom 67 = .ok (.iconst 0, 1) := by decide +kernel
theorem dX9_readFrom_68 : decode cX9_readFrom 68 = .ok (.bipush 99, 2) := by decide +kernel
theorem dX9_readFrom_70 : decode cX9_readFrom 70 = .ok (.invokevirtual 34, 3) := by decide +kernel
theorem dX9_readFrom_73 : decode cX9_readFrom 73 = .ok (.iastore, 1) := by decide +kernel
theorem dX9_readFrom_74 : decode cX9_readFrom 74 = .ok (.aload_n 0, 1) := by decide +kernel
theorem dX9_readFrom_75 : decode cX9_readFrom 75 = .ok (.aload_n 0, 1) := by decide +kernel
theorem dX9_readFrom_76 : decode cX9_readFrom 76 = .ok (.getfield 48, 3) := by decide +kernel
theorem dX9_readFrom_79 : decode cX9_readFrom 79 = .ok (.iload_n 2, 1) := by decide +kernel
theorem dX9_readFrom_80 : decode cX9_readFrom 80 = .ok (.invokestatic 51, 3) := by decide +kernel
theorem dX9_readFrom_83 : decode cX9_readFrom 83 = .ok (.putfield 48, 3) := by decide +kernel
theorem dX9_readFrom_86 : decode cX9_readFrom 86 = .ok (.aload_n 0, 1) := by decide +kernel
theorem dX9_readFrom_87 : decode cX9_readFrom 87 = .ok (.dup, 1) := by decide +kernel
theorem dX9_readFrom_88 : decode cX9_readFrom 88 = .ok (.getfield 16, 3) := by decide +kernel
theorem dX9_readFrom_91 : decode cX9_readFrom 91 = .ok (.iconst 1, 1) := by decide +kernel
theorem dX9_readFrom_92 : decode cX9_readFrom 92 = .ok (.iadd, 1) := by decide +kernel
theorem dX9_readFrom_93 : decode cX9_readFrom 93 = .ok (.putfield 16, 3) := by decide +kernel
theorem dX9_readFrom_96 : decode cX9_readFrom 96 = .ok (.return_, 1) := by decide +kernel
theorem dX9_has_0 : decode cX9_has 0 = .ok (.iconst 0, 1) := by decide +kernel
theorem dX9_has_1 : decode cX9_has 1 = .ok (.istore_n 2, 1) := by decide +kernel
theorem dX9_has_2 : decode cX9_has 2 = .ok (.iload_n 2, 1) := by decide +kernel
theorem dX9_has_3 : decode cX9_has 3 = .ok (.aload_n 0, 1) := by decide +kernel
theorem dX9_has_4 : decode cX9_has 4 = .ok (.getfield 16, 3) := by decide +kernel
theorem dX9_has_7 : decode cX9_has 7 = .ok (.if_icmp .ge 21, 3) := by decide +kernel
theorem dX9_has_10 : decode cX9_has 10 = .ok (.aload_n 0, 1) := by decide +kernel
theorem dX9_has_11 : decode cX9_has 11 = .ok (.getfield 9, 3) := by decide +kernel
theorem dX9_has_14 : decode cX9_has 14 = .ok (.iload_n 2, 1) := by decide +kernel
theorem dX9_has_15 : decode cX9_has 15 = .ok (.iaload, 1) := by decide +kernel
theorem dX9_has_16 : decode cX9_has 16 = .ok (.iload_n 1, 1) := by decide +kernel
theorem dX9_has_17 : decode cX9_has 17 = .ok (.if_icmp .ne 5, 3) := by decide +kernel
theorem dX9_has_20 : decode cX9_has 20 = .ok (.iconst 1, 1) := by decide +kernel
theorem dX9_has_21 : decode cX9_has 21 = .ok (.ireturn, 1) := by decide +kernel
theorem dX9_has_22 : decode cX9_has 22 = .ok (.iinc 2 1, 3) := by decide +kernel
theorem dX9_has_25 : decode cX9_has 25 = .ok (.goto (-23), 3) := by decide +kernel
theorem dX9_has_28 : decode cX9_has 28 = .ok (.iconst 0, 1) := by decide +kernel
theorem dX9_has_29 : decode cX9_has 29 = .ok (.ireturn, 1) := by decide +kernel
theorem dX9_commonDivisor_0 : decode cX9_commonDivisor 0 = .ok (.iload_n 0, 1) := by decide +kernel
theorem dX9_commonDivisor_1 : decode cX9_commonDivisor 1 = .ok (.iload_n 1, 1) := by decide +kernel
theorem dX9_commonDivisor_2 : decode cX9_commonDivisor 2 = .ok (.invokestatic 54, 3) := by decide +kernel
theorem dX9_commonDivisor_5 : decode cX9_commonDivisor 5 = .ok (.istore_n 2, 1) := by decide +kernel
theorem dX9_commonDivisor_6 : decode cX9_commonDivisor 6 = .ok (.iload_n 0, 1) := by decide +kernel
theorem dX9_commonDivisor_7 : decode cX9_commonDivisor 7 = .ok (.iload_n 1, 1) := by decide +kernel
theorem dX9_commonDivisor_8 : decode cX9_commonDivisor 8 = .ok (.invokestatic 59, 3) := by decide +kernel
theorem dX9_commonDivisor_11 : decode cX9_commonDivisor 11 = .ok (.istore_n 3, 1) := by decide +kernel
theorem dX9_commonDivisor_12 : decode cX9_commonDivisor 12 = .ok (.iconst 0, 1) := by decide +kernel
theorem dX9_commonDivisor_13 : decode cX9_commonDivisor 13 = .ok (.istore 4, 2) := by decide +kernel
theorem dX9_commonDivisor_15 : decode cX9_commonDivisor 15 = .ok (.iload 4, 2) := by decide +kernel
theorem dX9_commonDivisor_17 : decode cX9_commonDivisor 17 = .ok (.sipush 400, 3) := by decide +kernel
theorem dX9_commonDivisor_20 : decode cX9_commonDivisor 20 = .ok (.if_icmp .ge 23, 3) := by decide +kernel
theorem dX9_commonDivisor_23 : decode cX9_commonDivisor 23 = .ok (.iload_n 3, 1) := by decide +kernel
theorem dX9_commonDivisor_24 : decode cX9_commonDivisor 24 = .ok (.ifCond .le 19, 3) := by decide +kernel
theorem dX9_commonDivisor_27 : decode cX9_commonDivisor 27 = .ok (.iload_n 2, 1) := by decide +kernel
theorem dX9_commonDivisor_28 : decode cX9_commonDivisor 28 = .ok (.iload_n 3, 1) := by decide +kernel
theorem dX9_commonDivisor_29 : decode cX9_commonDivisor 29 = .ok (.irem, 1) := by decide +kernel
theorem dX9_commonDivisor_30 : decode cX9_commonDivisor 30 = .ok (.istore 5, 2) := by decide +kernel
theorem dX9_commonDivisor_32 : decode cX9_commonDivisor 32 = .ok (.iload_n 3, 1) := by decide +kernel
theorem dX9_commonDivisor_33 : decode cX9_commonDivisor 33 = .ok (.istore_n 2, 1) := by decide +kernel
theorem dX9_commonDivisor_34 : decode cX9_commonDivisor 34 = .ok (.iload 5, 2) := by decide +kernel
theorem dX9_commonDivisor_36 : decode cX9_commonDivisor 36 = .ok (.istore_n 3, 1) := by decide +kernel
theorem dX9_commonDivisor_37 : decode cX9_commonDivisor 37 = .ok (.iinc 4 1, 3) := by decide +kernel
theorem dX9_commonDivisor_40 : decode cX9_commonDivisor 40 = .ok (.goto (-25), 3) := by decide +kernel
theorem dX9_commonDivisor_43 : decode cX9_commonDivisor 43 = .ok (.iload_n 2, 1) := by decide +kernel
theorem dX9_commonDivisor_44 : decode cX9_commonDivisor 44 = .ok (.ireturn, 1) := by decide +kernel
theorem dX10_init_0 : decode cX10_init 0 = .ok (.aload_n 0, 1) := by decide +kernel
theorem dX10_init_1 : decode cX10_init 1 = .ok (.invokespecial 3, 3) := by decide +kernel
theorem dX10_init_4 : decode cX10_init 4 = .ok (.aload_n 0, 1) := by decide +kernel
theorem dX10_init_5 : decode cX10_init 5 = .ok (.bipush 8, 2) := by decide +kernel
theorem dX10_init_7 : decode cX10_init 7 = .ok (.newarray .int, 2) := by decide +kernel
theorem dX10_init_9 : decode cX10_init 9 = .ok (.putfield 11, 3) := by decide +kernel
theorem dX10_init_12 : decode cX10_init 12 = .ok (.aload_n 0, 1) := by decide +kernel
theorem dX10_init_13 : decode cX10_init 13 = .ok (.bipush 8, 2) := by decide +kernel
theorem dX10_init_15 : decode cX10_init 15 = .ok (.newarray .boolean, 2) := by decide +kernel
theorem dX10_init_17 : decode cX10_init 17 = .ok (.putfield 15, 3) := by decide +kernel
theorem dX10_init_20 : decode cX10_init 20 = .ok (.aload_n 0, 1) := by decide +kernel
theorem dX10_init_21 : decode cX10_init 21 = .ok (.iconst 1, 1) := by decide +kernel
theorem dX10_init_22 : decode cX10_init 22 = .ok (.putfield 19, 3) := by decide +kernel
theorem dX10_init_25 : decode cX10_init 25 = .ok (.aload_n 0, 1) := by decide +kernel
theorem dX10_init_26 : decode cX10_init 26 = .ok (.iconst 1, 1) := by decide +kernel
theorem dX10_init_27 : decode cX10_init 27 = .ok (.putfield 23, 3) := by decide +kernel
theorem dX10_init_30 : decode cX10_init 30 = .ok (.aload_n 0, 1) := by decide +kernel
theorem dX10_init_31 : decode cX10_init 31 = .ok (.iconst 1, 1) := by decide +kernel
theorem dX10_init_32 : decode cX10_init 32 = .ok (.iconst 1, 1) := by decide +kernel
theorem dX10_init_33 : decode cX10_init 33 = .ok (.iconst 1, 1) := by decide +kernel
theorem dX10_init_34 : decode cX10_init 34 = .ok (.invokestatic 26, 3) := by decide +kernel
theorem dX10_init_37 : decode cX10_init 37 = .ok (.putfield 30, 3) := by decide +kernel
theorem dX10_init_40 : decode cX10_init 40 = .ok (.aload_n 0, 1) := by decide +kernel
theorem dX10_init_41 : decode cX10_init 41 = .ok (.ldc 33, 2) := by decide +kernel
theorem dX10_init_43 : decode cX10_init 43 = .ok (.putfield 34, 3) := by decide +kernel
theorem dX10_init_46 : decode cX10_init 46 = .ok (.aload_n 0, 1) := by decide +kernel
theorem dX10_init_47 : decode cX10_init 47 = .ok (.iconst 0, 1) := by decide +kernel
theorem dX10_init_48 : decode cX10_init 48 = .ok (.newarray .int, 2) := by decide +kernel
theorem dX10_init_50 : decode cX10_init 50 = .ok (.putfield 37, 3) := by decide +kernel
theorem dX10_init_53 : decode cX10_init 53 = .ok (.return_, 1) := by decide +kernel
theorem dX10_readLeaps_0 : decode cX10_readLeaps 0 = .ok (.iconst 1, 1) := by decide +kernel
theorem dX10_readLeaps_1 : decode cX10_readLeaps 1 = .ok (.istore_n 2, 1) := by decide +kernel
theorem dX10_readLeaps_2 : decode cX10_readLeaps 2 = .ok (.iload_n 2, 1) := by decide +kernel
theorem dX10_readLeaps_3 : decode cX10_readLeaps 3 = .ok (.ifCond .eq 80, 3) := by decide +kernel
theorem dX10_readLeaps_6 : decode cX10_readLeaps 6 = .ok (.aload_n 0, 1) := by decide +kernel
theorem dX10_readLeaps_7 : decode cX10_readLeaps 7 = .ok (.getfield 40, 3) := by decide +kernel
theorem dX10_readLeaps_10 : decode cX10_readLeaps 10 = .ok (.bipush 8, 2) := by decide +kernel
theorem dX10_readLeaps_12 : decode cX10_readLeaps 12 = .ok (.if_icmp .ge 71, 3) := by decide +kernel
theorem dX10_readLeaps_15 : decode cX10_readLeaps 15 = .ok (.aload_n 0, 1) := by decide +kernel
theorem dX10_readLeaps_16 : decode cX10_readLeaps 16 = .ok (.getfield 11, 3) := by decide +kernel
theorem dX10_readLeaps_19 : decode cX10_readLeaps 19 = .ok (.aload_n 0, 1) := by decide +kernel
theorem dX10_readLeaps_20 : decode cX10_readLeaps 20 = .ok (.getfield 40, 3) := by decide +kernel
theorem dX10_readLeaps_23 : decode cX10_readLeaps 23 = .ok (.aload_n 1, 1) := by decide +kernel
theorem dX10_readLeaps_24 : decode cX10_readLeaps 24 = .ok (.iconst 1, 1) := by decide +kernel
theorem dX10_readLeaps_25 : decode cX10_readLeaps 25 = .ok (.sipush 9999, 3) := by decide +kernel
theorem dX10_readLeaps_28 : decode cX10_readLeaps 28 = .ok (.invokevirtual 43, 3) := by decide +kernel
theorem dX10_readLeaps_31 : decode cX10_readLeaps 31 = .ok (.iastore, 1) := by decide +kernel
theorem dX10_readLeaps_32 : decode cX10_readLeaps 32 = .ok (.aload_n 0, 1) := by decide +kernel
theorem dX10_readLeaps_33 : decode cX10_readLeaps 33 = .ok (.getfield 15, 3) := by decide +kernel
theorem dX10_readLeaps_36 : decode cX10_readLeaps 36 = .ok (.aload_n 0, 1) := by decide +kernel
theorem dX10_readLeaps_37 : decode cX10_readLeaps 37 = .ok (.getfield 40, 3) := by decide +kernel
theorem dX10_readLeaps_40 : decode cX10_readLeaps 40 = .ok (.aload_n 1, 1) := by decide +kernel
theorem dX10_readLeaps_41 : decode cX10_readLeaps 41 = .ok (.bipush 43, 2) := by decide +kernel
theorem dX10_readLeaps_43 : decode cX10_readLeaps 43 = .ok (.invokevirtual 49, 3) := by decide +kernel
theorem dX10_readLeaps_46 : decode cX10_readLeaps 46 = .ok (.bastore, 1) := by decide +kernel
theorem dX10_readLeaps_47 : decode cX10_readLeaps 47 = .ok (.aload_n 0, 1) := by decide +kernel
theorem dX10_readLeaps_48 : decode cX10_readLeaps 48 = .ok (.getfield 15, 3) := by decide +kernel
theorem dX10_readLeaps_51 : decode cX10_readLeaps 51 = .ok (.aload_n 0, 1) := by decide +kernel
theorem dX10_readLeaps_52 : decode cX10_readLeaps 52 = .ok (.getfield 40, 3) := by decide +kernel
theorem dX10_readLeaps_55 : decode cX10_readLeaps 55 = .ok (.baload, 1) := by decide +kernel
theorem dX10_readLeaps_56 : decode cX10_readLeaps 56 = .ok (.ifCond .ne 9, 3) := by decide +kernel
theorem dX10_readLeaps_59 : decode cX10_readLeaps 59 = .ok (.aload_n 1, 1) := by decide +kernel
theorem dX10_readLeaps_60 : decode cX10_readLeaps 60 = .ok (.bipush 45, 2) := by decide +kernel
theorem dX10_readLeaps_62 : decode cX10_readLeaps 62 = .ok (.invokevirtual 53, 3) := by decide +kernel
theorem dX10_readLeaps_65 : decode cX10_readLeaps 65 = .ok (.aload_n 0, 1) := by decide +kernel
theorem dX10_readLeaps_66 : decode cX10_readLeaps 66 = .ok (.dup, 1) := by decide +kernel
theorem dX10_readLeaps_67 : decode cX10_readLeaps 67 = .ok (.getfield 40, 3) := by decide +kernel
theorem dX10_readLeaps_70 : decode cX10_readLeaps 70 = .ok (.iconst 1, 1) := by decide +kernel
theorem dX10_readLeaps_71 : decode cX10_readLeaps 71 = .ok (.iadd, 1) := by decide +kernel
theorem dX10_readLeaps_72 : decode cX10_readLeaps 72 = .ok (.putfield 40, 3) := by decide +kernel
theorem dX10_readLeaps_75 : decode cX10_readLeaps 75 = .ok (.aload_n 1, 1) := by decide +kernel
theorem dX10_readLeaps_76 : decode cX10_readLeaps 76 = .ok (.invokevirtual 57, 3) := by decide +kernel
theorem dX10_readLeaps_79 : decode cX10_readLeaps 79 = .ok (.istore_n 2, 1) := by decide +kernel
theorem dX10_readLeaps_80 : decode cX10_readLeaps 80 = .ok (.goto (-78), 3) := by decide +kernel
theorem dX10_readLeaps_83 : decode cX10_readLeaps 83 = .ok (.iload_n 2, 1) := by decide +kernel
theorem dX10_readLeaps_84 : decode cX10_readLeaps 84 = .ok (.ifCond .eq 7, 3) := by decide +kernel
theorem dX10_readLeaps_87 : decode cX10_readLeaps 87 = .ok (.aload_n 1, 1) := by decide +kernel
theorem dX10_readLeaps_88 : decode cX10_readLeaps 88 = .ok (.invokevirtual 61, 3) := by decide +kernel
theorem dX10_readLeaps_91 : decode cX10_readLeaps 91 = .ok (.return_, 1) := by decide +kernel
theorem dX10_hasLeapDay_0 : decode cX10_hasLeapDay 0 = .ok (.aload_n 0, 1) := by decide +kernel
theorem dX10_hasLeapDay_1 : decode cX10_hasLeapDay 1 = .ok (.getfield 40, 3) := by decide +kernel
theorem dX10_hasLeapDay_4 : decode cX10_hasLeapDay 4 = .ok (.iconst 1, 1) := by decide +kernel
theorem dX10_hasLeapDay_5 : decode cX10_hasLeapDay 5 = .ok (.isub, 1) := by decide +kernel
theorem dX10_hasLeapDay_6 : decode cX10_hasLeapDay 6 = .ok (.istore_n 2, 1) := by decide +kernel
theorem dX10_hasLeapDay_7 : decode cX10_hasLeapDay 7 = .ok (.iload_n 2, 1) := by decide +kernel
theorem dX10_hasLeapDay_8 : decode cX10_hasLeapDay 8 = .ok (.ifCond .lt 36, 3) := by decide +kernel
theorem dX10_hasLeapDay_11 : decode cX10_hasLeapDay 11 = .ok (.aload_n 0, 1) := by decide +kernel
theorem dX10_hasLeapDay_12 : decode cX10_hasLeapDay 12 = .ok (.getfield 11, 3) := by decide +kernel
theorem dX10_hasLeapDay_15 : decode cX10_hasLeapDay 15 = .ok (.iload_n 2, 1) := by decide +kernel
theorem dX10_hasLeapDay_16 : decode cX10_hasLeapDay 16 = .ok (.iaload, 1) := by decide +kernel
theorem dX10_hasLeapDay_17 : decode cX10_hasLeapDay 17 = .ok (.ifCond .le 21, 3) := by decide +kernel
theorem dX10_hasLeapDay_20 : decode cX10_hasLeapDay 20 = .ok (.iload_n 1, 1) := by decide +kernel
theorem dX10_hasLeapDay_21 : decode cX10_hasLeapDay 21 = .ok (.aload_n 0, 1) := by decide +kernel
theorem dX10_hasLeapDay_22 : decode cX10_hasLeapDay 22 = .ok (.getfield 11, 3) := by decide +kernel
theorem dX10_hasLeapDay_25 : decode cX10_hasLeapDay 25 = .ok (.iload_n 2, 1) := by decide +kernel
theorem dX10_hasLeapDay_26 : decode cX10_hasLeapDay 26 = .ok (.iaload, 1) := by decide +kernel
theorem dX10_hasLeapDay_27 : decode cX10_hasLeapDay 27 = .ok (.irem, 1) := by decide +kernel
theorem dX10_hasLeapDay_28 : decode cX10_hasLeapDay 28 = .ok (.ifCond .ne 10, 3) := by decide +kernel
theorem dX10_hasLeapDay_31 : decode cX10_hasLeapDay 31 = .ok (.aload_n 0, 1) := by decide +kernel
theorem dX10_hasLeapDay_32 : decode cX10_hasLeapDay 32 = .ok (.getfield 15, 3) := by decide +kernel
theorem dX10_hasLeapDay_35 : decode cX10_hasLeapDay 35 = .ok (.iload_n 2, 1) := by decide +kernel
theorem dX10_hasLeapDay_36 : decode cX10_hasLeapDay 36 = .ok (.baload, 1) := by decide +kernel
theorem dX10_hasLeapDay_37 : decode cX10_hasLeapDay 37 = .ok (.ireturn, 1) := by decide +kernel
theorem dX10_hasLeapDay_38 : decode cX10_hasLeapDay 38 = .ok (.iinc 2 (-1), 3) := by decide +kernel
theorem dX10_hasLeapDay_41 : decode cX10_hasLeapDay 41 = .ok (.goto (-34), 3) := by decide +kernel
theorem dX10_hasLeapDay_44 : decode cX10_hasLeapDay 44 = .ok (.iconst 0, 1) := by decide +kernel
theorem dX10_hasLeapDay_45 : decode cX10_hasLeapDay 45 = .ok (.ireturn, 1) := by decide +kernel
theorem dX10_canEndOn_0 : decode cX10_canEndOn 0 = .ok (.iload_n 3, 1) := by decide +kernel
theorem dX10_canEndOn_1 : decode cX10_canEndOn 1 = .ok (.aload_n 0, 1) := by decide +kernel
theorem dX10_canEndOn_2 : decode cX10_canEndOn 2 = .ok (.iload_n 1, 1) := by decide +kernel
theorem dX10_canEndOn_3 : decode cX10_canEndOn 3 = .ok (.invokevirtual 64, 3) := by decide +kernel
theorem dX10_canEndOn_6 : decode cX10_canEndOn 6 = .ok (.iload_n 2, 1) := by decide +kernel
theorem dX10_canEndOn_7 : decode cX10_canEndOn 7 = .ok (.invokestatic 67, 3) := by decide +kernel
theorem dX10_canEndOn_10 : decode cX10_canEndOn 10 = .ok (.if_icmp .gt 20, 3) := by decide +kernel
theorem dX10_canEndOn_13 : decode cX10_canEndOn 13 = .ok (.iload_n 1, 1) := by decide +kernel
theorem dX10_canEndOn_14 : decode cX10_canEndOn 14 = .ok (.iload_n 2, 1) := by decide +kernel
theorem dX10_canEndOn_15 : decode cX10_canEndOn 15 = .ok (.iload_n 3, 1) := by decide +kernel
theorem dX10_canEndOn_16 : decode cX10_canEndOn 16 = .ok (.invokestatic 26, 3) := by decide +kernel
theorem dX10_canEndOn_19 : decode cX10_canEndOn 19 = .ok (.aload_n 0, 1) := by decide +kernel
theorem dX10_canEndOn_20 : decode cX10_canEndOn 20 = .ok (.getfield 30, 3) := by decide +kernel
theorem dX10_canEndOn_23 : decode cX10_canEndOn 23 = .ok (.if_icmp .lt 7, 3) := by decide +kernel
theorem dX10_canEndOn_26 : decode cX10_canEndOn 26 = .ok (.iconst 1, 1) := by decide +kernel
theorem dX10_canEndOn_27 : decode cX10_canEndOn 27 = .ok (.goto 4, 3) := by decide +kernel
theorem dX10_canEndOn_30 : decode cX10_canEndOn 30 = .ok (.iconst 0, 1) := by decide +kernel
theorem dX10_canEndOn_31 : decode cX10_canEndOn 31 = .ok (.ireturn, 1) := by decide +kernel
theorem dX10_takeOver_0 : decode cX10_takeOver 0 = .ok (.aload_n 0, 1) := by decide +kernel
theorem dX10_takeOver_1 : decode cX10_takeOver 1 = .ok (.iload_n 1, 1) := by decide +kernel
theorem dX10_takeOver_2 : decode cX10_takeOver 2 = .ok (.invokestatic 71, 3) := by decide +kernel
theorem dX10_takeOver_5 : decode cX10_takeOver 5 = .ok (.putfield 19, 3) := by decide +kernel
theorem dX10_takeOver_8 : decode cX10_takeOver 8 = .ok (.aload_n 0, 1) := by decide +kernel
theorem dX10_takeOver_9 : decode cX10_takeOver 9 = .ok (.aload_n 0, 1) := by decide +kernel
theorem dX10_takeOver_10 : decode cX10_takeOver 10 = .ok (.getfield 19, 3) := by decide +kernel
theorem dX10_takeOver_13 : decode cX10_takeOver 13 = .ok (.invokevirtual 64, 3) := by decide +kernel
theorem dX10_takeOver_16 : decode cX10_takeOver 16 = .ok (.istore_n 3, 1) := by decide +kernel
theorem dX10_takeOver_17 : decode cX10_takeOver 17 = .ok (.iload_n 1, 1) := by decide +kernel
theorem dX10_takeOver_18 : decode cX10_takeOver 18 = .ok (.invokestatic 75, 3) := by decide +kernel
theorem dX10_takeOver_21 : decode cX10_takeOver 21 = .ok (.istore 4, 2) := by decide +kernel
theorem dX10_takeOver_23 : decode cX10_takeOver 23 = .ok (.iload_n 1, 1) := by decide +kernel
theorem dX10_takeOver_24 : decode cX10_takeOver 24 = .ok (.invokestatic 78, 3) := by decide +kernel
theorem dX10_takeOver_27 : decode cX10_takeOver 27 = .ok (.iload_n 3, 1) := by decide +kernel
theorem dX10_takeOver_28 : decode cX10_takeOver 28 = .ok (.iload 4, 2) := by decide +kernel
theorem dX10_takeOver_30 : decode cX10_takeOver 30 = .ok (.invokestatic 67, 3) := by decide +kernel
theorem dX10_takeOver_33 : decode cX10_takeOver 33 = .ok (.invokestatic 81, 3) := by decide +kernel
theorem dX10_takeOver_36 : decode cX10_takeOver 36 = .ok (.istore 5, 2) := by decide +kernel
theorem dX10_takeOver_38 : decode cX10_takeOver 38 = .ok (.aload_n 0, 1) := by decide +kernel
theorem dX10_takeOver_39 : decode cX10_takeOver 39 = .ok (.iload_n 3, 1) := by decide +kernel
theorem dX10_takeOver_40 : decode cX10_takeOver 40 = .ok (.iload 4, 2) := by decide +kernel
theorem dX10_takeOver_42 : decode cX10_takeOver 42 = .ok (.iload 5, 2) := by decide +kernel
theorem dX10_takeOver_44 : decode cX10_takeOver 44 = .ok (.invokestatic 86, 3) := by decide +kernel
theorem dX10_takeOver_47 : decode cX10_takeOver 47 = .ok (.iload_n 2, 1) := by decide +kernel
theorem dX10_takeOver_48 : decode cX10_takeOver 48 = .ok (.iadd, 1) := by decide +kernel
theorem dX10_takeOver_49 : decode cX10_takeOver 49 = .ok (.iconst 1, 1) := by decide +kernel
theorem dX10_takeOver_50 : decode cX10_takeOver 50 = .ok (.iadd, 1) := by decide +kernel
theorem dX10_takeOver_51 : decode cX10_takeOver 51 = .ok (.putfield 23, 3) := by decide +kernel
theorem dX10_takeOver_54 : decode cX10_takeOver 54 = .ok (.aload_n 0, 1) := by decide +kernel
theorem dX10_takeOver_55 : decode cX10_takeOver 55 = .ok (.getfield 23, 3) := by decide +kernel
theorem dX10_takeOver_58 : decode cX10_takeOver 58 = .ok (.iload_n 3, 1) := by decide +kernel
theorem dX10_takeOver_59 : decode cX10_takeOver 59 = .ok (.invokestatic 90, 3) := by decide +kernel
theorem dX10_takeOver_62 : decode cX10_takeOver 62 = .ok (.isub, 1) := by decide +kernel
theorem dX10_takeOver_63 : decode cX10_takeOver 63 = .ok (.istore 6, 2) := by decide +kernel
theorem dX10_takeOver_65 : decode cX10_takeOver 65 = .ok (.aload_n 0, 1) := by decide +kernel
theorem dX10_takeOver_66 : decode cX10_takeOver 66 = .ok (.iload 6, 2) := by decide +kernel
theorem dX10_takeOver_68 : decode cX10_takeOver 68 = .ok (.ifCond .le 27, 3) := by decide +kernel
theorem dX10_takeOver_71 : decode cX10_takeOver 71 = .ok (.aload_n 0, 1) := by decide +kernel
theorem dX10_takeOver_72 : decode cX10_takeOver 72 = .ok (.getfield 19, 3) := by decide +kernel
theorem dX10_takeOver_75 : decode cX10_takeOver 75 = .ok (.iconst 1, 1) := by decide +kernel
theorem dX10_takeOver_76 : decode cX10_takeOver 76 = .ok (.iadd, 1) := by decide +kernel
theorem dX10_takeOver_77 : decode cX10_takeOver 77 = .ok (.aload_n 0, 1) := by decide +kernel
theorem dX10_takeOver_78 : decode cX10_takeOver 78 = .ok (.aload_n 0, 1) := by decide +kernel
theorem dX10_takeOver_79 : decode cX10_takeOver 79 = .ok (.getfield 19, 3) := by decide +kernel
theorem dX10_takeOver_82 : decode cX10_takeOver 82 = .ok (.iconst 1, 1) := by decide +kernel
theorem dX10_takeOver_83 : decode cX10_takeOver 83 = .ok (.iadd, 1) := by decide +kernel
theorem dX10_takeOver_84 : decode cX10_takeOver 84 = .ok (.invokevirtual 64, 3) := by decide +kernel
theorem dX10_takeOver_87 : decode cX10_takeOver 87 = .ok (.iload 6, 2) := by decide +kernel
theorem dX10_takeOver_89 : decode cX10_takeOver 89 = .ok (.invokestatic 94, 3) := by decide +kernel
theorem dX10_takeOver_92 : decode cX10_takeOver 92 = .ok (.goto 15, 3) := by decide +kernel
theorem dX10_takeOver_95 : decode cX10_takeOver 95 = .ok (.aload_n 0, 1) := by decide +kernel
theorem dX10_takeOver_96 : decode cX10_takeOver 96 = .ok (.getfield 19, 3) := by decide +kernel
theorem dX10_takeOver_99 : decode cX10_takeOver 99 = .ok (.iload_n 3, 1) := by decide +kernel
theorem dX10_takeOver_100 : decode cX10_takeOver 100 = .ok (.aload_n 0, 1) := by decide +kernel
theorem dX10_takeOver_101 : decode cX10_takeOver 101 = .ok (.getfield 23, 3) := by decide +kernel
theorem dX10_takeOver_104 : decode cX10_takeOver 104 = .ok (.invokestatic 94, 3) := by decide +kernel
theorem dX10_takeOver_107 : decode cX10_takeOver 107 = .ok (.putfield 30, 3) := by decide +kernel
theorem dX10_takeOver_110 : decode cX10_takeOver 110 = .ok (.return_, 1) := by decide +kernel
theorem dX10_lay_0 : decode cX10_lay 0 = .ok (.aload_n 0, 1) := by decide +kernel
theorem dX10_lay_1 : decode cX10_lay 1 = .ok (.iload_n 1, 1) := by decide +kernel
theorem dX10_lay_2 : decode cX10_lay 2 = .ok (.putfield 98, 3) := by decide +kernel
theorem dX10_lay_5 : decode cX10_lay 5 = .ok (.aload_n 0, 1) := by decide +kernel
theorem dX10_lay_6 : decode cX10_lay 6 = .ok (.iload_n 1, 1) := by decide +kernel
theorem dX10_lay_7 : decode cX10_lay 7 = .ok (.iconst 1, 1) := by decide +kernel
theorem dX10_lay_8 : decode cX10_lay 8 = .ok (.isub, 1) := by decide +kernel
theorem dX10_lay_9 : decode cX10_lay 9 = .ok (.putfield 101, 3) := by decide +kernel
theorem dX10_lay_12 : decode cX10_lay 12 = .ok (.aload_n 0, 1) := by decide +kernel
theorem dX10_lay_13 : decode cX10_lay 13 = .ok (.getfield 34, 3) := by decide +kernel
theorem dX10_lay_16 : decode cX10_lay 16 = .ok (.invokestatic 71, 3) := by decide +kernel
theorem dX10_lay_19 : decode cX10_lay 19 = .ok (.aload_n 0, 1) := by decide +kernel
theorem dX10_lay_20 : decode cX10_lay 20 = .ok (.getfield 19, 3) := by decide +kernel
theorem dX10_lay_23 : decode cX10_lay 23 = .ok (.isub, 1) := by decide +kernel
theorem dX10_lay_24 : decode cX10_lay 24 = .ok (.iconst 1, 1) := by decide +kernel
theorem dX10_lay_25 : decode cX10_lay 25 = .ok (.iadd, 1) := by decide +kernel
theorem dX10_lay_26 : decode cX10_lay 26 = .ok (.istore_n 2, 1) := by decide +kernel
theorem dX10_lay_27 : decode cX10_lay 27 = .ok (.aload_n 0, 1) := by decide +kernel
theorem dX10_lay_28 : decode cX10_lay 28 = .ok (.getfield 30, 3) := by decide +kernel
theorem dX10_lay_31 : decode cX10_lay 31 = .ok (.aload_n 0, 1) := by decide +kernel
theorem dX10_lay_32 : decode cX10_lay 32 = .ok (.getfield 34, 3) := by decide +kernel
theorem dX10_lay_35 : decode cX10_lay 35 = .ok (.if_icmp .gt 8, 3) := by decide +kernel
theorem dX10_lay_38 : decode cX10_lay 38 = .ok (.iload_n 2, 1) := by decide +kernel
theorem dX10_lay_39 : decode cX10_lay 39 = .ok (.iconst 1, 1) := by decide +kernel
theorem dX10_lay_40 : decode cX10_lay 40 = .ok (.if_icmp .ge 4, 3) := by decide +kernel
theorem dX10_lay_43 : decode cX10_lay 43 = .ok (.return_, 1) := by decide +kernel
theorem dX10_lay_44 : decode cX10_lay 44 = .ok (.aload_n 0, 1) := by decide +kernel
theorem dX10_lay_45 : decode cX10_lay 45 = .ok (.iload_n 2, 1) := by decide +kernel
theorem dX10_lay_46 : decode cX10_lay 46 = .ok (.iconst 1, 1) := by decide +kernel
theorem dX10_lay_47 : decode cX10_lay 47 = .ok (.iadd, 1) := by decide +kernel
theorem dX10_lay_48 : decode cX10_lay 48 = .ok (.newarray .int, 2) := by decide +kernel
theorem dX10_lay_50 : decode cX10_lay 50 = .ok (.putfield 37, 3) := by decide +kernel
theorem dX10_lay_53 : decode cX10_lay 53 = .ok (.aload_n 0, 1) := by decide +kernel
theorem dX10_lay_54 : decode cX10_lay 54 = .ok (.getfield 37, 3) := by decide +kernel
theorem dX10_lay_57 : decode cX10_lay 57 = .ok (.iconst 0, 1) := by decide +kernel
theorem dX10_lay_58 : decode cX10_lay 58 = .ok (.aload_n 0, 1) := by decide +kernel
theorem dX10_lay_59 : decode cX10_lay 59 = .ok (.getfield 98, 3) := by decide +kernel
theorem dX10_lay_62 : decode cX10_lay 62 = .ok (.aload_n 0, 1) := by decide +kernel
theorem dX10_lay_63 : decode cX10_lay 63 = .ok (.getfield 23, 3) := by decide +kernel
theorem dX10_lay_66 : decode cX10_lay 66 = .ok (.isub, 1) := by decide +kernel
theorem dX10_lay_67 : decode cX10_lay 67 = .ok (.iastore, 1) := by decide +kernel
theorem dX10_lay_68 : decode cX10_lay 68 = .ok (.iconst 0, 1) := by decide +kernel
theorem dX10_lay_69 : decode cX10_lay 69 = .ok (.istore_n 3, 1) := by decide +kernel
theorem dX10_lay_70 : decode cX10_lay 70 = .ok (.iload_n 3, 1) := by decide +kernel
theorem dX10_lay_71 : decode cX10_lay 71 = .ok (.iload_n 2, 1) := by decide +kernel
theorem dX10_lay_72 : decode cX10_lay 72 = .ok (.if_icmp .ge 37, 3) := by decide +kernel
theorem dX10_lay_75 : decode cX10_lay 75 = .ok (.aload_n 0, 1) := by decide +kernel
theorem dX10_lay_76 : decode cX10_lay 76 = .ok (.getfield 37, 3) := by decide +kernel
theorem dX10_lay_79 : decode cX10_lay 79 = .ok (.iload_n 3, 1) := by decide +kernel
theorem dX10_lay_80 : decode cX10_lay 80 = .ok (.iconst 1, 1) := by decide +kernel
theorem dX10_lay_81 : decode cX10_lay 81 = .ok (.iadd, 1) := by decide +kernel
theorem dX10_lay_82 : decode cX10_lay 82 = .ok (.aload_n 0, 1) := by decide +kernel
theorem dX10_lay_83 : decode cX10_lay 83 = .ok (.getfield 37, 3) := by decide +kernel
theorem dX10_lay_86 : decode cX10_lay 86 = .ok (.iload_n 3, 1) := by decide +kernel
theorem dX10_lay_87 : decode cX10_lay 87 = .ok (.iaload, 1) := by decide +kernel
theorem dX10_lay_88 : decode cX10_lay 88 = .ok (.aload_n 0, 1) := by decide +kernel
theorem dX10_lay_89 : decode cX10_lay 89 = .ok (.aload_n 0, 1) := by decide +kernel
theorem dX10_lay_90 : decode cX10_lay 90 = .ok (.getfield 19, 3) := by decide +kernel
theorem dX10_lay_93 : decode cX10_lay 93 = .ok (.iload_n 3, 1) := by decide +kernel
theorem dX10_lay_94 : decode cX10_lay 94 = .ok (.iadd, 1) := by decide +kernel
theorem dX10_lay_95 : decode cX10_lay 95 = .ok (.invokevirtual 64, 3) := by decide +kernel
theorem dX10_lay_98 : decode cX10_lay 98 = .ok (.invokestatic 90, 3) := by decide +kernel
theorem dX10_lay_101 : decode cX10_lay 101 = .ok (.iadd, 1) := by decide +kernel
theorem dX10_lay_102 : decode cX10_lay 102 = .ok (.iastore, 1) := by decide +kernel
theorem dX10_lay_103 : decode cX10_lay 103 = .ok (.iinc 3 1, 3) := by decide +kernel
theorem dX10_lay_106 : decode cX10_lay 106 = .ok (.goto (-36), 3) := by decide +kernel
theorem dX10_lay_109 : decode cX10_lay 109 = .ok (.aload_n 0, 1) := by decide +kernel
theorem dX10_lay_110 : decode cX10_lay 110 = .ok (.aload_n 0, 1) := by decide +kernel
theorem dX10_lay_111 : decode cX10_lay 111 = .ok (.aload_n 0, 1) := by decide +kernel
theorem dX10_lay_112 : decode cX10_lay 112 = .ok (.getfield 34, 3) := by decide +kernel
theorem dX10_lay_115 : decode cX10_lay 115 = .ok (.invokevirtual 104, 3) := by decide +kernel
theorem dX10_lay_118 : decode cX10_lay 118 = .ok (.putfield 101, 3) := by decide +kernel
theorem dX10_lay_121 : decode cX10_lay 121 = .ok (.return_, 1) := by decide +kernel
theorem dX10_isLeapAt_0 : decode cX10_isLeapAt 0 = .ok (.iload_n 1, 1) := by decide +kernel
theorem dX10_isLeapAt_1 : decode cX10_isLeapAt 1 = .ok (.ifCond .lt 39, 3) := by decide +kernel
theorem dX10_isLeapAt_4 : decode cX10_isLeapAt 4 = .ok (.iload_n 1, 1) := by decide +kernel
theorem dX10_isLeapAt_5 : decode cX10_isLeapAt 5 = .ok (.iconst 1, 1) := by decide +kernel
theorem dX10_isLeapAt_6 : decode cX10_isLeapAt 6 = .ok (.iadd, 1) := by decide +kernel
theorem dX10_isLeapAt_7 : decode cX10_isLeapAt 7 = .ok (.aload_n 0, 1) := by decide +kernel
theorem dX10_isLeapAt_8 : decode cX10_isLeapAt 8 = .ok (.getfield 37, 3) := by decide +kernel
theorem dX10_isLeapAt_11 : decode cX10_isLeapAt 11 = .ok (.arraylength, 1) := by decide +kernel
theorem dX10_isLeapAt_12 : decode cX10_isLeapAt 12 = .ok (.if_icmp .ge 28, 3) := by decide +kernel
theorem dX10_isLeapAt_15 : decode cX10_isLeapAt 15 = .ok (.aload_n 0, 1) := by decide +kernel
theorem dX10_isLeapAt_16 : decode cX10_isLeapAt 16 = .ok (.getfield 37, 3) := by decide +kernel
theorem dX10_isLeapAt_19 : decode cX10_isLeapAt 19 = .ok (.iload_n 1, 1) := by decide +kernel
theorem dX10_isLeapAt_20 : decode cX10_isLeapAt 20 = .ok (.iconst 1, 1) := by decide +kernel
theorem dX10_isLeapAt_21 : decode cX10_isLeapAt 21 = .ok (.iadd, 1) := by decide +kernel
theorem dX10_isLeapAt_22 : decode cX10_isLeapAt 22 = .ok (.iaload, 1) := by decide +kernel
theorem dX10_isLeapAt_23 : decode cX10_isLeapAt 23 = .ok (.aload_n 0, 1) := by decide +kernel
theorem dX10_isLeapAt_24 : decode cX10_isLeapAt 24 = .ok (.getfield 37, 3) := by decide +kernel
theorem dX10_isLeapAt_27 : decode cX10_isLeapAt 27 = .ok (.iload_n 1, 1) := by decide +kernel
theorem dX10_isLeapAt_28 : decode cX10_isLeapAt 28 = .ok (.iaload, 1) := by decide +kernel
theorem dX10_isLeapAt_29 : decode cX10_isLeapAt 29 = .ok (.isub, 1) := by decide +kernel
theorem dX10_isLeapAt_30 : decode cX10_isLeapAt 30 = .ok (.sipush 366, 3) := by decide +kernel
theorem dX10_isLeapAt_33 : decode cX10_isLeapAt 33 = .ok (.if_icmp .ne 7, 3) := by decide +kernel
theorem dX10_isLeapAt_36 : decode cX10_isLeapAt 36 = .ok (.iconst 1, 1) := by decide +kernel
theorem dX10_isLeapAt_37 : decode cX10_isLeapAt 37 = .ok (.goto 4, 3) := by decide +kernel
theorem dX10_isLeapAt_40 : decode cX10_isLeapAt 40 = .ok (.iconst 0, 1) := by decide +kernel
theorem dX10_isLeapAt_41 : decode cX10_isLeapAt 41 = .ok (.ireturn, 1) := by decide +kernel
theorem dX10_dayOn_0 : decode cX10_dayOn 0 = .ok (.iload_n 1, 1) := by decide +kernel
theorem dX10_dayOn_1 : decode cX10_dayOn 1 = .ok (.invokestatic 71, 3) := by decide +kernel
theorem dX10_dayOn_4 : decode cX10_dayOn 4 = .ok (.aload_n 0, 1) := by decide +kernel
theorem dX10_dayOn_5 : decode cX10_dayOn 5 = .ok (.getfield 19, 3) := by decide +kernel
theorem dX10_dayOn_8 : decode cX10_dayOn 8 = .ok (.isub, 1) := by decide +kernel
theorem dX10_dayOn_9 : decode cX10_dayOn 9 = .ok (.istore_n 2, 1) := by decide +kernel
theorem dX10_dayOn_10 : decode cX10_dayOn 10 = .ok (.iload_n 1, 1) := by decide +kernel
theorem dX10_dayOn_11 : decode cX10_dayOn 11 = .ok (.aload_n 0, 1) := by decide +kernel
theorem dX10_dayOn_12 : decode cX10_dayOn 12 = .ok (.getfield 30, 3) := by decide +kernel
theorem dX10_dayOn_15 : decode cX10_dayOn 15 = .ok (.if_icmp .lt 26, 3) := by decide +kernel
theorem dX10_dayOn_18 : decode cX10_dayOn 18 = .ok (.iload_n 1, 1) := by decide +kernel
theorem dX10_dayOn_19 : decode cX10_dayOn 19 = .ok (.aload_n 0, 1) := by decide +kernel
theorem dX10_dayOn_20 : decode cX10_dayOn 20 = .ok (.getfield 34, 3) := by decide +kernel
theorem dX10_dayOn_23 : decode cX10_dayOn 23 = .ok (.if_icmp .gt 18, 3) := by decide +kernel
theorem dX10_dayOn_26 : decode cX10_dayOn 26 = .ok (.iload_n 2, 1) := by decide +kernel
theorem dX10_dayOn_27 : decode cX10_dayOn 27 = .ok (.ifCond .lt 14, 3) := by decide +kernel
theorem dX10_dayOn_30 : decode cX10_dayOn 30 = .ok (.iload_n 2, 1) := by decide +kernel
theorem dX10_dayOn_31 : decode cX10_dayOn 31 = .ok (.iconst 1, 1) := by decide +kernel
theorem dX10_dayOn_32 : decode cX10_dayOn 32 = .ok (.iadd, 1) := by decide +kernel
theorem dX10_dayOn_33 : decode cX10_dayOn 33 = .ok (.aload_n 0, 1) := by decide +kernel
theorem dX10_dayOn_34 : decode cX10_dayOn 34 = .ok (.getfield 37, 3) := by decide +kernel
theorem dX10_dayOn_37 : decode cX10_dayOn 37 = .ok (.arraylength, 1) := by decide +kernel
theorem dX10_dayOn_38 : decode cX10_dayOn 38 = .ok (.if_icmp .lt 5, 3) := by decide +kernel
theorem dX10_dayOn_41 : decode cX10_dayOn 41 = .ok (.iconst (-1), 1) := by decide +kernel
theorem dX10_dayOn_42 : decode cX10_dayOn 42 = .ok (.ireturn, 1) := by decide +kernel
theorem dX10_dayOn_43 : decode cX10_dayOn 43 = .ok (.aload_n 0, 1) := by decide +kernel
theorem dX10_dayOn_44 : decode cX10_dayOn 44 = .ok (.iload_n 2, 1) := by decide +kernel
theorem dX10_dayOn_45 : decode cX10_dayOn 45 = .ok (.invokevirtual 107, 3) := by decide +kernel
theorem dX10_dayOn_48 : decode cX10_dayOn 48 = .ok (.istore_n 3, 1) := by decide +kernel
theorem dX10_dayOn_49 : decode cX10_dayOn 49 = .ok (.iload_n 1, 1) := by decide +kernel
theorem dX10_dayOn_50 : decode cX10_dayOn 50 = .ok (.invokestatic 75, 3) := by decide +kernel
theorem dX10_dayOn_53 : decode cX10_dayOn 53 = .ok (.istore 4, 2) := by decide +kernel
theorem dX10_dayOn_55 : decode cX10_dayOn 55 = .ok (.iload_n 1, 1) := by decide +kernel
theorem dX10_dayOn_56 : decode cX10_dayOn 56 = .ok (.invokestatic 78, 3) := by decide +kernel
theorem dX10_dayOn_59 : decode cX10_dayOn 59 = .ok (.istore 5, 2) := by decide +kernel
theorem dX10_dayOn_61 : decode cX10_dayOn 61 = .ok (.iload 5, 2) := by decide +kernel
theorem dX10_dayOn_63 : decode cX10_dayOn 63 = .ok (.iload_n 3, 1) := by decide +kernel
theorem dX10_dayOn_64 : decode cX10_dayOn 64 = .ok (.iload 4, 2) := by decide +kernel
theorem dX10_dayOn_66 : decode cX10_dayOn 66 = .ok (.invokestatic 67, 3) := by decide +kernel
theorem dX10_dayOn_69 : decode cX10_dayOn 69 = .ok (.if_icmp .le 7, 3) := by decide +kernel
theorem dX10_dayOn_72 : decode cX10_dayOn 72 = .ok (.iconst (-1), 1) := by decide +kernel
theorem dX10_dayOn_73 : decode cX10_dayOn 73 = .ok (.goto 18, 3) := by decide +kernel
theorem dX10_dayOn_76 : decode cX10_dayOn 76 = .ok (.aload_n 0, 1) := by decide +kernel
theorem dX10_dayOn_77 : decode cX10_dayOn 77 = .ok (.getfield 37, 3) := by decide +kernel
theorem dX10_dayOn_80 : decode cX10_dayOn 80 = .ok (.iload_n 2, 1) := by decide +kernel
theorem dX10_dayOn_81 : decode cX10_dayOn 81 = .ok (.iaload, 1) := by decide +kernel
theorem dX10_dayOn_82 : decode cX10_dayOn 82 = .ok (.iload_n 3, 1) := by decide +kernel
theorem dX10_dayOn_83 : decode cX10_dayOn 83 = .ok (.iload 4, 2) := by decide +kernel
theorem dX10_dayOn_85 : decode cX10_dayOn 85 = .ok (.iload 5, 2) := by decide +kernel
theorem dX10_dayOn_87 : decode cX10_dayOn 87 = .ok (.invokestatic 86, 3) := by decide +kernel
theorem dX10_dayOn_90 : decode cX10_dayOn 90 = .ok (.iadd, 1) := by decide +kernel
theorem dX10_dayOn_91 : decode cX10_dayOn 91 = .ok (.ireturn, 1) := by decide +kernel
theorem dX10_keyOn_0 : decode cX10_keyOn 0 = .ok (.iload_n 1, 1) := by decide +kernel
theorem dX10_keyOn_1 : decode cX10_keyOn 1 = .ok (.aload_n 0, 1) := by decide +kernel
theorem dX10_keyOn_2 : decode cX10_keyOn 2 = .ok (.getfield 98, 3) := by decide +kernel
theorem dX10_keyOn_5 : decode cX10_keyOn 5 = .ok (.if_icmp .lt 19, 3) := by decide +kernel
theorem dX10_keyOn_8 : decode cX10_keyOn 8 = .ok (.iload_n 1, 1) := by decide +kernel
theorem dX10_keyOn_9 : decode cX10_keyOn 9 = .ok (.aload_n 0, 1) := by decide +kernel
theorem dX10_keyOn_10 : decode cX10_keyOn 10 = .ok (.getfield 101, 3) := by decide +kernel
theorem dX10_keyOn_13 : decode cX10_keyOn 13 = .ok (.if_icmp .gt 11, 3) := by decide +kernel
theorem dX10_keyOn_16 : decode cX10_keyOn 16 = .ok (.aload_n 0, 1) := by decide +kernel
theorem dX10_keyOn_17 : decode cX10_keyOn 17 = .ok (.getfield 37, 3) := by decide +kernel
theorem dX10_keyOn_20 : decode cX10_keyOn 20 = .ok (.arraylength, 1) := by decide +kernel
theorem dX10_keyOn_21 : decode cX10_keyOn 21 = .ok (.ifCond .ne 5, 3) := by decide +kernel
theorem dX10_keyOn_24 : decode cX10_keyOn 24 = .ok (.iconst (-1), 1) := by decide +kernel
theorem dX10_keyOn_25 : decode cX10_keyOn 25 = .ok (.ireturn, 1) := by decide +kernel
theorem dX10_keyOn_26 : decode cX10_keyOn 26 = .ok (.iconst 0, 1) := by decide +kernel
theorem dX10_keyOn_27 : decode cX10_keyOn 27 = .ok (.istore_n 2, 1) := by decide +kernel
theorem dX10_keyOn_28 : decode cX10_keyOn 28 = .ok (.sipush 8192, 3) := by decide +kernel
theorem dX10_keyOn_31 : decode cX10_keyOn 31 = .ok (.istore_n 3, 1) := by decide +kernel
theorem dX10_keyOn_32 : decode cX10_keyOn 32 = .ok (.iload_n 3, 1) := by decide +kernel
theorem dX10_keyOn_33 : decode cX10_keyOn 33 = .ok (.ifCond .le 37, 3) := by decide +kernel
theorem dX10_keyOn_36 : decode cX10_keyOn 36 = .ok (.iload_n 2, 1) := by decide +kernel
theorem dX10_keyOn_37 : decode cX10_keyOn 37 = .ok (.iload_n 3, 1) := by decide +kernel
theorem dX10_keyOn_38 : decode cX10_keyOn 38 = .ok (.iadd, 1) := by decide +kernel
theorem dX10_keyOn_39 : decode cX10_keyOn 39 = .ok (.aload_n 0, 1) := by decide +kernel
theorem dX10_keyOn_40 : decode cX10_keyOn 40 = .ok (.getfield 37, 3) := by decide +kernel
theorem dX10_keyOn_43 : decode cX10_keyOn 43 = .ok (.arraylength, 1) := by decide +kernel
theorem dX10_keyOn_44 : decode cX10_keyOn 44 = .ok (.if_icmp .ge 19, 3) := by decide +kernel
theorem dX10_keyOn_47 : decode cX10_keyOn 47 = .ok (.aload_n 0, 1) := by decide +kernel
theorem dX10_keyOn_48 : decode cX10_keyOn 48 = .ok (.getfield 37, 3) := by decide +kernel
theorem dX10_keyOn_51 : decode cX10_keyOn 51 = .ok (.iload_n 2, 1) := by decide +kernel
theorem dX10_keyOn_52 : decode cX10_keyOn 52 = .ok (.iload_n 3, 1) := by decide +kernel
theorem dX10_keyOn_53 : decode cX10_keyOn 53 = .ok (.iadd, 1) := by decide +kernel
theorem dX10_keyOn_54 : decode cX10_keyOn 54 = .ok (.iaload, 1) := by decide +kernel
theorem dX10_keyOn_55 : decode cX10_keyOn 55 = .ok (.iload_n 1, 1) := by decide +kernel
theorem dX10_keyOn_56 : decode cX10_keyOn 56 = .ok (.if_icmp .ge 7, 3) := by decide +kernel
theorem dX10_keyOn_59 : decode cX10_keyOn 59 = .ok (.iload_n 2, 1) := by decide +kernel
theorem dX10_keyOn_60 : decode cX10_keyOn 60 = .ok (.iload_n 3, 1) := by decide +kernel
theorem dX10_keyOn_61 : decode cX10_keyOn 61 = .ok (.iadd, 1) := by decide +kernel
theorem dX10_keyOn_62 : decode cX10_keyOn 62 = .ok (.istore_n 2, 1) := by decide +kernel
theorem dX10_keyOn_63 : decode cX10_keyOn 63 = .ok (.iload_n 3, 1) := by decide +kernel
theorem dX10_keyOn_64 : decode cX10_keyOn 64 = .ok (.iconst 1, 1) := by decide +kernel
theorem dX10_keyOn_65 : decode cX10_keyOn 65 = .ok (.ishr, 1) := by decide +kernel
theorem dX10_keyOn_66 : decode cX10_keyOn 66 = .ok (.istore_n 3, 1) := by decide +kernel
theorem dX10_keyOn_67 : decode cX10_keyOn 67 = .ok (.goto (-35), 3) := by decide +kernel
theorem dX10_keyOn_70 : decode cX10_keyOn 70 = .ok (.aload_n 0, 1) := by decide +kernel
theorem dX10_keyOn_71 : decode cX10_keyOn 71 = .ok (.getfield 19, 3) := by decide +kernel
theorem dX10_keyOn_74 : decode cX10_keyOn 74 = .ok (.iload_n 2, 1) := by decide +kernel
theorem dX10_keyOn_75 : decode cX10_keyOn 75 = .ok (.iadd, 1) := by decide +kernel
theorem dX10_keyOn_76 : decode cX10_keyOn 76 = .ok (.aload_n 0, 1) := by decide +kernel
theorem dX10_keyOn_77 : decode cX10_keyOn 77 = .ok (.iload_n 2, 1) := by decide +kernel
theorem dX10_keyOn_78 : decode cX10_keyOn 78 = .ok (.invokevirtual 107, 3) := by decide +kernel
theorem dX10_keyOn_81 : decode cX10_keyOn 81 = .ok (.iload_n 1, 1) := by decide +kernel
theorem dX10_keyOn_82 : decode cX10_keyOn 82 = .ok (.aload_n 0, 1) := by decide +kernel
theorem dX10_keyOn_83 : decode cX10_keyOn 83 = .ok (.getfield 37, 3) := by decide +kernel
theorem dX10_keyOn_86 : decode cX10_keyOn 86 = .ok (.iload_n 2, 1) := by decide +kernel
theorem dX10_keyOn_87 : decode cX10_keyOn 87 = .ok (.iaload, 1) := by decide +kernel
theorem dX10_keyOn_88 : decode cX10_keyOn 88 = .ok (.isub, 1) := by decide +kernel
theorem dX10_keyOn_89 : decode cX10_keyOn 89 = .ok (.invokestatic 94, 3) := by decide +kernel
theorem dX10_keyOn_92 : decode cX10_keyOn 92 = .ok (.ireturn, 1) := by decide +kernel
theorem dX10_datesIn_0 : decode cX10_datesIn 0 = .ok (.iload_n 1, 1) := by decide +kernel
theorem dX10_datesIn_1 : decode cX10_datesIn 1 = .ok (.aload_n 0, 1) := by decide +kernel
theorem dX10_datesIn_2 : decode cX10_datesIn 2 = .ok (.getfield 19, 3) := by decide +kernel
theorem dX10_datesIn_5 : decode cX10_datesIn 5 = .ok (.isub, 1) := by decide +kernel
theorem dX10_datesIn_6 : decode cX10_datesIn 6 = .ok (.istore_n 3, 1) := by decide +kernel
theorem dX10_datesIn_7 : decode cX10_datesIn 7 = .ok (.iload_n 3, 1) := by decide +kernel
theorem dX10_datesIn_8 : decode cX10_datesIn 8 = .ok (.ifCond .lt 14, 3) := by decide +kernel
theorem dX10_datesIn_11 : decode cX10_datesIn 11 = .ok (.iload_n 3, 1) := by decide +kernel
theorem dX10_datesIn_12 : decode cX10_datesIn 12 = .ok (.iconst 1, 1) := by decide +kernel
theorem dX10_datesIn_13 : decode cX10_datesIn 13 = .ok (.iadd, 1) := by decide +kernel
theorem dX10_datesIn_14 : decode cX10_datesIn 14 = .ok (.aload_n 0, 1) := by decide +kernel
theorem dX10_datesIn_15 : decode cX10_datesIn 15 = .ok (.getfield 37, 3) := by decide +kernel
theorem dX10_datesIn_18 : decode cX10_datesIn 18 = .ok (.arraylength, 1) := by decide +kernel
theorem dX10_datesIn_19 : decode cX10_datesIn 19 = .ok (.if_icmp .lt 5, 3) := by decide +kernel
theorem dX10_datesIn_22 : decode cX10_datesIn 22 = .ok (.iconst 0, 1) := by decide +kernel
theorem dX10_datesIn_23 : decode cX10_datesIn 23 = .ok (.ireturn, 1) := by decide +kernel
theorem dX10_datesIn_24 : decode cX10_datesIn 24 = .ok (.iload_n 1, 1) := by decide +kernel
theorem dX10_datesIn_25 : decode cX10_datesIn 25 = .ok (.iload_n 2, 1) := by decide +kernel
theorem dX10_datesIn_26 : decode cX10_datesIn 26 = .ok (.iconst 1, 1) := by decide +kernel
theorem dX10_datesIn_27 : decode cX10_datesIn 27 = .ok (.invokestatic 26, 3) := by decide +kernel
theorem dX10_datesIn_30 : decode cX10_datesIn 30 = .ok (.aload_n 0, 1) := by decide +kernel
theorem dX10_datesIn_31 : decode cX10_datesIn 31 = .ok (.getfield 30, 3) := by decide +kernel
theorem dX10_datesIn_34 : decode cX10_datesIn 34 = .ok (.invokestatic 110, 3) := by decide +kernel
theorem dX10_datesIn_37 : decode cX10_datesIn 37 = .ok (.istore 4, 2) := by decide +kernel
theorem dX10_datesIn_39 : decode cX10_datesIn 39 = .ok (.iload_n 1, 1) := by decide +kernel
theorem dX10_datesIn_40 : decode cX10_datesIn 40 = .ok (.iload_n 2, 1) := by decide +kernel
theorem dX10_datesIn_41 : decode cX10_datesIn 41 = .ok (.aload_n 0, 1) := by decide +kernel
theorem dX10_datesIn_42 : decode cX10_datesIn 42 = .ok (.iload_n 3, 1) := by decide +kernel
theorem dX10_datesIn_43 : decode cX10_datesIn 43 = .ok (.invokevirtual 107, 3) := by decide +kernel
theorem dX10_datesIn_46 : decode cX10_datesIn 46 = .ok (.iload_n 2, 1) := by decide +kernel
theorem dX10_datesIn_47 : decode cX10_datesIn 47 = .ok (.invokestatic 67, 3) := by decide +kernel
theorem dX10_datesIn_50 : decode cX10_datesIn 50 = .ok (.invokestatic 26, 3) := by decide +kernel
theorem dX10_datesIn_53 : decode cX10_datesIn 53 = .ok (.aload_n 0, 1) := by decide +kernel
theorem dX10_datesIn_54 : decode cX10_datesIn 54 = .ok (.getfield 34, 3) := by decide +kernel
theorem dX10_datesIn_57 : decode cX10_datesIn 57 = .ok (.invokestatic 81, 3) := by decide +kernel
theorem dX10_datesIn_60 : decode cX10_datesIn 60 = .ok (.istore 5, 2) := by decide +kernel
theorem dX10_datesIn_62 : decode cX10_datesIn 62 = .ok (.iload 5, 2) := by decide +kernel
theorem dX10_datesIn_64 : decode cX10_datesIn 64 = .ok (.iload 4, 2) := by decide +kernel
theorem dX10_datesIn_66 : decode cX10_datesIn 66 = .ok (.isub, 1) := by decide +kernel
theorem dX10_datesIn_67 : decode cX10_datesIn 67 = .ok (.iconst 1, 1) := by decide +kernel
theorem dX10_datesIn_68 : decode cX10_datesIn 68 = .ok (.iadd, 1) := by decide +kernel
theorem dX10_datesIn_69 : decode cX10_datesIn 69 = .ok (.iconst 0, 1) := by decide +kernel
theorem dX10_datesIn_70 : decode cX10_datesIn 70 = .ok (.invokestatic 110, 3) := by decide +kernel
theorem dX10_datesIn_73 : decode cX10_datesIn 73 = .ok (.ireturn, 1) := by decide +kernel
theorem dX11_init_0 : decode cX11_init 0 = .ok (.aload_n 0, 1) := by decide +kernel
theorem dX11_init_1 : decode cX11_init 1 = .ok (.invokespecial 1, 3) := by decide +kernel
theorem dX11_init_4 : decode cX11_init 4 = .ok (.aload_n 0, 1) := by decide +kernel
theorem dX11_init_5 : decode cX11_init 5 = .ok (.sipush 160, 3) := by decide +kernel
theorem dX11_init_8 : decode cX11_init 8 = .ok (.newarray .int, 2) := by decide +kernel
theorem dX11_init_10 : decode cX11_init 10 = .ok (.putfield 9, 3) := by decide +kernel
theorem dX11_init_13 : decode cX11_init 13 = .ok (.aload_n 0, 1) := by decide +kernel
theorem dX11_init_14 : decode cX11_init 14 = .ok (.bipush 6, 2) := by decide +kernel
theorem dX11_init_16 : decode cX11_init 16 = .ok (.anewarray 13, 3) := by decide +kernel
theorem dX11_init_19 : decode cX11_init 19 = .ok (.putfield 15, 3) := by decide +kernel
theorem dX11_init_22 : decode cX11_init 22 = .ok (.aload_n 0, 1) := by decide +kernel
theorem dX11_init_23 : decode cX11_init 23 = .ok (.bipush 8, 2) := by decide +kernel
theorem dX11_init_25 : decode cX11_init 25 = .ok (.anewarray 19, 3) := by decide +kernel
theorem dX11_init_28 : decode cX11_init 28 = .ok (.putfield 21, 3) := by decide +kernel
theorem dX11_init_31 : decode cX11_init 31 = .ok (.aload_n 0, 1) := by decide +kernel
theorem dX11_init_32 : decode cX11_init 32 = .ok (.bipush 60, 2) := by decide +kernel
theorem dX11_init_34 : decode cX11_init 34 = .ok (.anewarray 25, 3) := by decide +kernel
theorem dX11_init_37 : decode cX11_init 37 = .ok (.putfield 27, 3) := by decide +kernel
theorem dX11_init_40 : decode cX11_init 40 = .ok (.aload_n 0, 1) := by decide +kernel
theorem dX11_init_41 : decode cX11_init 41 = .ok (.bipush 8, 2) := by decide +kernel
theorem dX11_init_43 : decode cX11_init 43 = .ok (.anewarray 31, 3) := by decide +kernel
theorem dX11_init_46 : decode cX11_init 46 = .ok (.putfield 33, 3) := by decide +kernel
theorem dX11_init_49 : decode cX11_init 49 = .ok (.aload_n 0, 1) := by decide +kernel
theorem dX11_init_50 : decode cX11_init 50 = .ok (.bipush 30, 2) := by decide +kernel
theorem dX11_init_52 : decode cX11_init 52 = .ok (.newarray .int, 2) := by decide +kernel
theorem dX11_init_54 : decode cX11_init 54 = .ok (.putfield 37, 3) := by decide +kernel
theorem dX11_init_57 : decode cX11_init 57 = .ok (.aload_n 0, 1) := by decide +kernel
theorem dX11_init_58 : decode cX11_init 58 = .ok (.bipush 30, 2) := by decide +kernel
theorem dX11_init_60 : decode cX11_init 60 = .ok (.newarray .int, 2) := by decide +kernel
theorem dX11_init_62 : decode cX11_init 62 = .ok (.putfield 40, 3) := by decide +kernel
theorem dX11_init_65 : decode cX11_init 65 = .ok (.return_, 1) := by decide +kernel
theorem dX11_feed_0 : decode cX11_feed 0 = .ok (.iload_n 1, 1) := by decide +kernel
theorem dX11_feed_1 : decode cX11_feed 1 = .ok (.invokestatic 43, 3) := by decide +kernel
theorem dX11_feed_4 : decode cX11_feed 4 = .ok (.iload_n 2, 1) := by decide +kernel
theorem dX11_feed_5 : decode cX11_feed 5 = .ok (.invokestatic 43, 3) := by decide +kernel
theorem dX11_feed_8 : decode cX11_feed 8 = .ok (.iadd, 1) := by decide +kernel
theorem dX11_feed_9 : decode cX11_feed 9 = .ok (.iload_n 3, 1) := by decide +kernel
theorem dX11_feed_10 : decode cX11_feed 10 = .ok (.invokestatic 43, 3) := by decide +kernel
theorem dX11_feed_13 : decode cX11_feed 13 = .ok (.iadd, 1) := by decide +kernel
theorem dX11_feed_14 : decode cX11_feed 14 = .ok (.iload 4, 2) := by decide +kernel
theorem dX11_feed_16 : decode cX11_feed 16 = .ok (.invokestatic 43, 3) := by decide +kernel
theorem dX11_feed_19 : decode cX11_feed 19 = .ok (.iadd, 1) := by decide +kernel
theorem dX11_feed_20 : decode cX11_feed 20 = .ok (.iload 5, 2) := by decide +kernel
theorem dX11_feed_22 : decode cX11_feed 22 = .ok (.invokestatic 43, 3) := by decide +kernel
theorem dX11_feed_25 : decode cX11_feed 25 = .ok (.iadd, 1) := by decide +kernel
theorem dX11_feed_26 : decode cX11_feed 26 = .ok (.istore 6, 2) := by decide +kernel
theorem dX11_feed_28 : decode cX11_feed 28 = .ok (.aload_n 0, 1) := by decide +kernel
theorem dX11_feed_29 : decode cX11_feed 29 = .ok (.getfield 47, 3) := by decide +kernel
theorem dX11_feed_32 : decode cX11_feed 32 = .ok (.iload 6, 2) := by decide +kernel
theorem dX11_feed_34 : decode cX11_feed 34 = .ok (.iadd, 1) := by decide +kernel
theorem dX11_feed_35 : decode cX11_feed 35 = .ok (.sipush 160, 3) := by decide +kernel
theorem dX11_feed_38 : decode cX11_feed 38 = .ok (.if_icmp .le 5, 3) := by decide +kernel
theorem dX11_feed_41 : decode cX11_feed 41 = .ok (.iconst (-1), 1) := by decide +kernel
theorem dX11_feed_42 : decode cX11_feed 42 = .ok (.ireturn, 1) := by decide +kernel
theorem dX11_feed_43 : decode cX11_feed 43 = .ok (.aload_n 0, 1) := by decide +kernel
theorem dX11_feed_44 : decode cX11_feed 44 = .ok (.iload_n 1, 1) := by decide +kernel
theorem dX11_feed_45 : decode cX11_feed 45 = .ok (.invokevirtual 51, 3) := by decide +kernel
theorem dX11_feed_48 : decode cX11_feed 48 = .ok (.aload_n 0, 1) := by decide +kernel
theorem dX11_feed_49 : decode cX11_feed 49 = .ok (.iload_n 2, 1) := by decide +kernel
theorem dX11_feed_50 : decode cX11_feed 50 = .ok (.invokevirtual 51, 3) := by decide +kernel
theorem dX11_feed_53 : decode cX11_feed 53 = .ok (.aload_n 0, 1) := by decide +kernel
theorem dX11_feed_54 : decode cX11_feed 54 = .ok (.iload_n 3, 1) := by decide +kernel
theorem dX11_feed_55 : decode cX11_feed 55 = .ok (.invokevirtual 51, 3) := by decide +kernel
theorem dX11_feed_58 : decode cX11_feed 58 = .ok (.aload_n 0, 1) := by decide +kernel
theorem dX11_feed_59 : decode cX11_feed 59 = .ok (.iload 4, 2) := by decide +kernel
theorem dX11_feed_61 : decode cX11_feed 61 = .ok (.invokevirtual 51, 3) := by decide +kernel
theorem dX11_feed_64 : decode cX11_feed 64 = .ok (.aload_n 0, 1) := by decide +kernel
theorem dX11_feed_65 : decode cX11_feed 65 = .ok (.iload 5, 2) := by decide +kernel
theorem dX11_feed_67 : decode cX11_feed 67 = .ok (.invokevirtual 51, 3) := by decide +kernel
theorem dX11_feed_70 : decode cX11_feed 70 = .ok (.aload_n 0, 1) := by decide +kernel
theorem dX11_feed_71 : decode cX11_feed 71 = .ok (.getfield 47, 3) := by decide +kernel
theorem dX11_feed_74 : decode cX11_feed 74 = .ok (.ireturn, 1) := by decide +kernel
theorem dX11_signsIn_0 : decode cX11_signsIn 0 = .ok (.iconst 0, 1) := by decide +kernel
theorem dX11_signsIn_1 : decode cX11_signsIn 1 = .ok (.istore_n 1, 1) := by decide +kernel
theorem dX11_signsIn_2 : decode cX11_signsIn 2 = .ok (.bipush 24, 2) := by decide +kernel
theorem dX11_signsIn_4 : decode cX11_signsIn 4 = .ok (.istore_n 2, 1) := by decide +kernel
theorem dX11_signsIn_5 : decode cX11_signsIn 5 = .ok (.iload_n 2, 1) := by decide +kernel
theorem dX11_signsIn_6 : decode cX11_signsIn 6 = .ok (.ifCond .lt 22, 3) := by decide +kernel
theorem dX11_signsIn_9 : decode cX11_signsIn 9 = .ok (.iload_n 0, 1) := by decide +kernel
theorem dX11_signsIn_10 : decode cX11_signsIn 10 = .ok (.iload_n 2, 1) := by decide +kernel
theorem dX11_signsIn_11 : decode cX11_signsIn 11 = .ok (.iushr, 1) := by decide +kernel
theorem dX11_signsIn_12 : decode cX11_signsIn 12 = .ok (.sipush 255, 3) := by decide +kernel
theorem dX11_signsIn_15 : decode cX11_signsIn 15 = .ok (.iand, 1) := by decide +kernel
theorem dX11_signsIn_16 : decode cX11_signsIn 16 = .ok (.ifCond .eq 6, 3) := by decide +kernel
theorem dX11_signsIn_19 : decode cX11_signsIn 19 = .ok (.iinc 1 1, 3) := by decide +kernel
theorem dX11_signsIn_22 : decode cX11_signsIn 22 = .ok (.iinc 2 (-8), 3) := by decide +kernel
theorem dX11_signsIn_25 : decode cX11_signsIn 25 = .ok (.goto (-20), 3) := by decide +kernel
theorem dX11_signsIn_28 : decode cX11_signsIn 28 = .ok (.iload_n 1, 1) := by decide +kernel
theorem dX11_signsIn_29 : decode cX11_signsIn 29 = .ok (.ireturn, 1) := by decide +kernel
theorem dX11_append_0 : decode cX11_append 0 = .ok (.bipush 24, 2) := by decide +kernel
theorem dX11_append_2 : decode cX11_append 2 = .ok (.istore_n 2, 1) := by decide +kernel
theorem dX11_append_3 : decode cX11_append 3 = .ok (.iload_n 2, 1) := by decide +kernel
theorem dX11_append_4 : decode cX11_append 4 = .ok (.ifCond .lt 51, 3) := by decide +kernel
theorem dX11_append_7 : decode cX11_append 7 = .ok (.iload_n 1, 1) := by decide +kernel
theorem dX11_append_8 : decode cX11_append 8 = .ok (.iload_n 2, 1) := by decide +kernel
theorem dX11_append_9 : decode cX11_append 9 = .ok (.iushr, 1) := by decide +kernel
theorem dX11_append_10 : decode cX11_append 10 = .ok (.sipush 255, 3) := by decide +kernel
theorem dX11_append_13 : decode cX11_append 13 = .ok (.iand, 1) := by decide +kernel
theorem dX11_append_14 : decode cX11_append 14 = .ok (.istore_n 3, 1) := by decide +kernel
theorem dX11_append_15 : decode cX11_append 15 = .ok (.iload_n 3, 1) := by decide +kernel
theorem dX11_append_16 : decode cX11_append 16 = .ok (.ifCond .eq 33, 3) := by decide +kernel
theorem dX11_append_19 : decode cX11_append 19 = .ok (.aload_n 0, 1) := by decide +kernel
theorem dX11_append_20 : decode cX11_append 20 = .ok (.getfield 47, 3) := by decide +kernel
theorem dX11_append_23 : decode cX11_append 23 = .ok (.sipush 160, 3) := by decide +kernel
theorem dX11_append_26 : decode cX11_append 26 = .ok (.if_icmp .ge 23, 3) := by decide +kernel
theorem dX11_append_29 : decode cX11_append 29 = .ok (.aload_n 0, 1) := by decide +kernel
theorem dX11_append_30 : decode cX11_append 30 = .ok (.getfield 9, 3) := by decide +kernel
theorem dX11_append_33 : decode cX11_append 33 = .ok (.aload_n 0, 1) := by decide +kernel
theorem dX11_append_34 : decode cX11_append 34 = .ok (.getfield 47, 3) := by decide +kernel
theorem dX11_append_37 : decode cX11_append 37 = .ok (.iload_n 3, 1) := by decide +kernel
theorem dX11_append_38 : decode cX11_append 38 = .ok (.iastore, 1) := by decide +kernel
theorem dX11_append_39 : decode cX11_append 39 = .ok (.aload_n 0, 1) := by decide +kernel
theorem dX11_append_40 : decode cX11_append 40 = .ok (.dup, 1) := by decide +kernel
theorem dX11_append_41 : decode cX11_append 41 = .ok (.getfield 47, 3) := by decide +kernel
theorem dX11_append_44 : decode cX11_append 44 = .ok (.iconst 1, 1) := by decide +kernel
theorem dX11_append_45 : decode cX11_append 45 = .ok (.iadd, 1) := by decide +kernel
theorem dX11_append_46 : decode cX11_append 46 = .ok (.putfield 47, 3) := by decide +kernel
theorem dX11_append_49 : decode cX11_append 49 = .ok (.iinc 2 (-8), 3) := by decide +kernel
theorem dX11_append_52 : decode cX11_append 52 = .ok (.goto (-49), 3) := by decide +kernel
theorem dX11_append_55 : decode cX11_append 55 = .ok (.return_, 1) := by decide +kernel
theorem dX11_end_0 : decode cX11_end 0 = .ok (.iload_n 1, 1) := by decide +kernel
theorem dX11_end_1 : decode cX11_end 1 = .ok (.ifCond .lt 11, 3) := by decide +kernel
theorem dX11_end_4 : decode cX11_end 4 = .ok (.iload_n 1, 1) := by decide +kernel
theorem dX11_end_5 : decode cX11_end 5 = .ok (.aload_n 0, 1) := by decide +kernel
theorem dX11_end_6 : decode cX11_end 6 = .ok (.getfield 47, 3) := by decide +kernel
theorem dX11_end_9 : decode cX11_end 9 = .ok (.if_icmp .le 5, 3) := by decide +kernel
theorem dX11_end_12 : decode cX11_end 12 = .ok (.iconst 0, 1) := by decide +kernel
theorem dX11_end_13 : decode cX11_end 13 = .ok (.ireturn, 1) := by decide +kernel
theorem dX11_end_14 : decode cX11_end 14 = .ok (.aload_n 0, 1) := by decide +kernel
theorem dX11_end_15 : decode cX11_end 15 = .ok (.iload_n 1, 1) := by decide +kernel
theorem dX11_end_16 : decode cX11_end 16 = .ok (.putfield 47, 3) := by decide +kernel
theorem dX11_end_19 : decode cX11_end 19 = .ok (.iconst 1, 1) := by decide +kernel
theorem dX11_end_20 : decode cX11_end 20 = .ok (.ireturn, 1) := by decide +kernel
theorem dX11_fault_0 : decode cX11_fault 0 = .ok (.new 55, 3) := by decide +kernel
theorem dX11_fault_3 : decode cX11_fault 3 = .ok (.dup, 1) := by decide +kernel
theorem dX11_fault_4 : decode cX11_fault 4 = .ok (.aload_n 0, 1) := by decide +kernel
theorem dX11_fault_5 : decode cX11_fault 5 = .ok (.getfield 9, 3) := by decide +kernel
theorem dX11_fault_8 : decode cX11_fault 8 = .ok (.aload_n 0, 1) := by decide +kernel
theorem dX11_fault_9 : decode cX11_fault 9 = .ok (.getfield 47, 3) := by decide +kernel
theorem dX11_fault_12 : decode cX11_fault 12 = .ok (.invokespecial 57, 3) := by decide +kernel
theorem dX11_fault_15 : decode cX11_fault 15 = .ok (.astore_n 2, 1) := by decide +kernel
theorem dX11_fault_16 : decode cX11_fault 16 = .ok (.iload_n 1, 1) := by decide +kernel
theorem dX11_fault_17 : decode cX11_fault 17 = .ok (.tableswitch 61 0 2 #[27, 37, 47], 27) := by decide +kernel
theorem dX11_fault_44 : decode cX11_fault 44 = .ok (.aload_n 2, 1) := by decide +kernel
theorem dX11_fault_45 : decode cX11_fault 45 = .ok (.invokestatic 60, 3) := by decide +kernel
theorem dX11_fault_48 : decode cX11_fault 48 = .ok (.pop, 1) := by decide +kernel
theorem dX11_fault_49 : decode cX11_fault 49 = .ok (.aload_n 2, 1) := by decide +kernel
theorem dX11_fault_50 : decode cX11_fault 50 = .ok (.getfield 64, 3) := by decide +kernel
theorem dX11_fault_53 : decode cX11_fault 53 = .ok (.ireturn, 1) := by decide +kernel
theorem dX11_fault_54 : decode cX11_fault 54 = .ok (.aload_n 2, 1) := by decide +kernel
theorem dX11_fault_55 : decode cX11_fault 55 = .ok (.invokestatic 67, 3) := by decide +kernel
theorem dX11_fault_58 : decode cX11_fault 58 = .ok (.pop, 1) := by decide +kernel
theorem dX11_fault_59 : decode cX11_fault 59 = .ok (.aload_n 2, 1) := by decide +kernel
theorem dX11_fault_60 : decode cX11_fault 60 = .ok (.getfield 64, 3) := by decide +kernel
theorem dX11_fault_63 : decode cX11_fault 63 = .ok (.ireturn, 1) := by decide +kernel
theorem dX11_fault_64 : decode cX11_fault 64 = .ok (.aload_n 2, 1) := by decide +kernel
theorem dX11_fault_65 : decode cX11_fault 65 = .ok (.bipush 80, 2) := by decide +kernel
theorem dX11_fault_67 : decode cX11_fault 67 = .ok (.newarray .int, 2) := by decide +kernel
theorem dX11_fault_69 : decode cX11_fault 69 = .ok (.invokestatic 70, 3) := by decide +kernel
theorem dX11_fault_72 : decode cX11_fault 72 = .ok (.pop, 1) := by decide +kernel
theorem dX11_fault_73 : decode cX11_fault 73 = .ok (.aload_n 2, 1) := by decide +kernel
theorem dX11_fault_74 : decode cX11_fault 74 = .ok (.getfield 64, 3) := by decide +kernel
theorem dX11_fault_77 : decode cX11_fault 77 = .ok (.ireturn, 1) := by decide +kernel
theorem dX11_fault_78 : decode cX11_fault 78 = .ok (.bipush (-2), 2) := by decide +kernel
theorem dX11_fault_80 : decode cX11_fault 80 = .ok (.ireturn, 1) := by decide +kernel
theorem dX11_text_0 : decode cX11_text 0 = .ok (.iload_n 1, 1) := by decide +kernel
theorem dX11_text_1 : decode cX11_text 1 = .ok (.tableswitch 42 0 2 #[27, 32, 37], 27) := by decide +kernel
theorem dX11_text_28 : decode cX11_text 28 = .ok (.aload_n 0, 1) := by decide +kernel
theorem dX11_text_29 : decode cX11_text 29 = .ok (.invokevirtual 74, 3) := by decide +kernel
theorem dX11_text_32 : decode cX11_text 32 = .ok (.ireturn, 1) := by decide +kernel
theorem dX11_text_33 : decode cX11_text 33 = .ok (.aload_n 0, 1) := by decide +kernel
theorem dX11_text_34 : decode cX11_text 34 = .ok (.invokevirtual 78, 3) := by decide +kernel
theorem dX11_text_37 : decode cX11_text 37 = .ok (.ireturn, 1) := by decide +kernel
theorem dX11_text_38 : decode cX11_text 38 = .ok (.aload_n 0, 1) := by decide +kernel
theorem dX11_text_39 : decode cX11_text 39 = .ok (.invokevirtual 81, 3) := by decide +kernel
theorem dX11_text_42 : decode cX11_text 42 = .ok (.ireturn, 1) := by decide +kernel
theorem dX11_text_43 : decode cX11_text 43 = .ok (.iconst (-1), 1) := by decide +kernel
theorem dX11_text_44 : decode cX11_text 44 = .ok (.ireturn, 1) := by decide +kernel
theorem dX11_takeAlmanac_0 : decode cX11_takeAlmanac 0 = .ok (.aload_n 0, 1) := by decide +kernel
theorem dX11_takeAlmanac_1 : decode cX11_takeAlmanac 1 = .ok (.getfield 84, 3) := by decide +kernel
theorem dX11_takeAlmanac_4 : decode cX11_takeAlmanac 4 = .ok (.bipush 6, 2) := by decide +kernel
theorem dX11_takeAlmanac_6 : decode cX11_takeAlmanac 6 = .ok (.if_icmp .lt 5, 3) := by decide +kernel
theorem dX11_takeAlmanac_9 : decode cX11_takeAlmanac 9 = .ok (.iconst (-1), 1) := by decide +kernel
theorem dX11_takeAlmanac_10 : decode cX11_takeAlmanac 10 = .ok (.ireturn, 1) := by decide +kernel
theorem dX11_takeAlmanac_11 : decode cX11_takeAlmanac 11 = .ok (.new 55, 3) := by decide +kernel
theorem dX11_takeAlmanac_14 : decode cX11_takeAlmanac 14 = .ok (.dup, 1) := by decide +kernel
theorem dX11_takeAlmanac_15 : decode cX11_takeAlmanac 15 = .ok (.aload_n 0, 1) := by decide +kernel
theorem dX11_takeAlmanac_16 : decode cX11_takeAlmanac 16 = .ok (.getfield 9, 3) := by decide +kernel
theorem dX11_takeAlmanac_19 : decode cX11_takeAlmanac 19 = .ok (.aload_n 0, 1) := by decide +kernel
theorem dX11_takeAlmanac_20 : decode cX11_takeAlmanac 20 = .ok (.getfield 47, 3) := by decide +kernel
theorem dX11_takeAlmanac_23 : decode cX11_takeAlmanac 23 = .ok (.invokespecial 57, 3) := by decide +kernel
theorem dX11_takeAlmanac_26 : decode cX11_takeAlmanac 26 = .ok (.astore_n 1, 1) := by decide +kernel
theorem dX11_takeAlmanac_27 : decode cX11_takeAlmanac 27 = .ok (.aload_n 1, 1) := by decide +kernel
theorem dX11_takeAlmanac_28 : decode cX11_takeAlmanac 28 = .ok (.invokestatic 60, 3) := by decide +kernel
theorem dX11_takeAlmanac_31 : decode cX11_takeAlmanac 31 = .ok (.astore_n 2, 1) := by decide +kernel
theorem dX11_takeAlmanac_32 : decode cX11_takeAlmanac 32 = .ok (.aload_n 1, 1) := by decide +kernel
theorem dX11_takeAlmanac_33 : decode cX11_takeAlmanac 33 = .ok (.invokevirtual 87, 3) := by decide +kernel
theorem dX11_takeAlmanac_36 : decode cX11_takeAlmanac 36 = .ok (.ifCond .ne 5, 3) := by decide +kernel
theorem dX11_takeAlmanac_39 : decode cX11_takeAlmanac 39 = .ok (.iconst (-1), 1) := by decide +kernel
theorem dX11_takeAlmanac_40 : decode cX11_takeAlmanac 40 = .ok (.ireturn, 1) := by decide +kernel
theorem dX11_takeAlmanac_41 : decode cX11_takeAlmanac 41 = .ok (.aload_n 2, 1) := by decide +kernel
theorem dX11_takeAlmanac_42 : decode cX11_takeAlmanac 42 = .ok (.invokevirtual 91, 3) := by decide +kernel
theorem dX11_takeAlmanac_45 : decode cX11_takeAlmanac 45 = .ok (.aload_n 0, 1) := by decide +kernel
theorem dX11_takeAlmanac_46 : decode cX11_takeAlmanac 46 = .ok (.getfield 15, 3) := by decide +kernel
theorem dX11_takeAlmanac_49 : decode cX11_takeAlmanac 49 = .ok (.aload_n 0, 1) := by decide +kernel
theorem dX11_takeAlmanac_50 : decode cX11_takeAlmanac 50 = .ok (.getfield 84, 3) := by decide +kernel
theorem dX11_takeAlmanac_53 : decode cX11_takeAlmanac 53 = .ok (.aload_n 2, 1) := by decide +kernel
theorem dX11_takeAlmanac_54 : decode cX11_takeAlmanac 54 = .ok (.aastore, 1) := by decide +kernel
theorem dX11_takeAlmanac_55 : decode cX11_takeAlmanac 55 = .ok (.aload_n 0, 1) := by decide +kernel
theorem dX11_takeAlmanac_56 : decode cX11_takeAlmanac 56 = .ok (.dup, 1) := by decide +kernel
theorem dX11_takeAlmanac_57 : decode cX11_takeAlmanac 57 = .ok (.getfield 84, 3) := by decide +kernel
theorem dX11_takeAlmanac_60 : decode cX11_takeAlmanac 60 = .ok (.iconst 1, 1) := by decide +kernel
theorem dX11_takeAlmanac_61 : decode cX11_takeAlmanac 61 = .ok (.iadd, 1) := by decide +kernel
theorem dX11_takeAlmanac_62 : decode cX11_takeAlmanac 62 = .ok (.putfield 84, 3) := by decide +kernel
theorem dX11_takeAlmanac_65 : decode cX11_takeAlmanac 65 = .ok (.aload_n 0, 1) := by decide +kernel
theorem dX11_takeAlmanac_66 : decode cX11_takeAlmanac 66 = .ok (.iconst 0, 1) := by decide +kernel
theorem dX11_takeAlmanac_67 : decode cX11_takeAlmanac 67 = .ok (.putfield 47, 3) := by decide +kernel
theorem dX11_takeAlmanac_70 : decode cX11_takeAlmanac 70 = .ok (.aload_n 0, 1) := by decide +kernel
theorem dX11_takeAlmanac_71 : decode cX11_takeAlmanac 71 = .ok (.getfield 84, 3) := by decide +kernel
theorem dX11_takeAlmanac_74 : decode cX11_takeAlmanac 74 = .ok (.iconst 1, 1) := by decide +kernel
theorem dX11_takeAlmanac_75 : decode cX11_takeAlmanac 75 = .ok (.isub, 1) := by decide +kernel
theorem dX11_takeAlmanac_76 : decode cX11_takeAlmanac 76 = .ok (.ireturn, 1) := by decide +kernel
theorem dX11_takeHead_0 : decode cX11_takeHead 0 = .ok (.aload_n 0, 1) := by decide +kernel
theorem dX11_takeHead_1 : decode cX11_takeHead 1 = .ok (.getfield 94, 3) := by decide +kernel
theorem dX11_takeHead_4 : decode cX11_takeHead 4 = .ok (.bipush 8, 2) := by decide +kernel
theorem dX11_takeHead_6 : decode cX11_takeHead 6 = .ok (.if_icmp .lt 5, 3) := by decide +kernel
theorem dX11_takeHead_9 : decode cX11_takeHead 9 = .ok (.iconst (-1), 1) := by decide +kernel
theorem dX11_takeHead_10 : decode cX11_takeHead 10 = .ok (.ireturn, 1) := by decide +kernel
theorem dX11_takeHead_11 : decode cX11_takeHead 11 = .ok (.new 55, 3) := by decide +kernel
theorem dX11_takeHead_14 : decode cX11_takeHead 14 = .ok (.dup, 1) := by decide +kernel
theorem dX11_takeHead_15 : decode cX11_takeHead 15 = .ok (.aload_n 0, 1) := by decide +kernel
theorem dX11_takeHead_16 : decode cX11_takeHead 16 = .ok (.getfield 9, 3) := by decide +kernel
theorem dX11_takeHead_19 : decode cX11_takeHead 19 = .ok (.aload_n 0, 1) := by decide +kernel
theorem dX11_takeHead_20 : decode cX11_takeHead 20 = .ok (.getfield 47, 3) := by decide +kernel
theorem dX11_takeHead_23 : decode cX11_takeHead 23 = .ok (.invokespecial 57, 3) := by decide +kernel
theorem dX11_takeHead_26 : decode cX11_takeHead 26 = .ok (.astore_n 1, 1) := by decide +kernel
theorem dX11_takeHead_27 : decode cX11_takeHead 27 = .ok (.aload_n 1, 1) := by decide +kernel
theorem dX11_takeHead_28 : decode cX11_takeHead 28 = .ok (.invokestatic 67, 3) := by decide +kernel
theorem dX11_takeHead_31 : decode cX11_takeHead 31 = .ok (.astore_n 2, 1) := by decide +kernel
theorem dX11_takeHead_32 : decode cX11_takeHead 32 = .ok (.aload_n 1, 1) := by decide +kernel
theorem dX11_takeHead_33 : decode cX11_takeHead 33 = .ok (.invokevirtual 87, 3) := by decide +kernel
theorem dX11_takeHead_36 : decode cX11_takeHead 36 = .ok (.ifCond .ne 5, 3) := by decide +kernel
theorem dX11_takeHead_39 : decode cX11_takeHead 39 = .ok (.iconst (-1), 1) := by decide +kernel
theorem dX11_takeHead_40 : decode cX11_takeHead 40 = .ok (.ireturn, 1) := by decide +kernel
theorem dX11_takeHead_41 : decode cX11_takeHead 41 = .ok (.aload_n 0, 1) := by decide +kernel
theorem dX11_takeHead_42 : decode cX11_takeHead 42 = .ok (.getfield 97, 3) := by decide +kernel
theorem dX11_takeHead_45 : decode cX11_takeHead 45 = .ok (.ifnonnull 17, 3) := by decide +kernel
theorem dX11_takeHead_48 : decode cX11_takeHead 48 = .ok (.aload_n 0, 1) := by decide +kernel
theorem dX11_takeHead_49 : decode cX11_takeHead 49 = .ok (.new 101, 3) := by decide +kernel
theorem dX11_takeHead_52 : decode cX11_takeHead 52 = .ok (.dup, 1) := by decide +kernel
theorem dX11_takeHead_53 : decode cX11_takeHead 53 = .ok (.sipush 10000, 3) := by decide +kernel
theorem dX11_takeHead_56 : decode cX11_takeHead 56 = .ok (.invokespecial 103, 3) := by decide +kernel
theorem dX11_takeHead_59 : decode cX11_takeHead 59 = .ok (.putfield 97, 3) := by decide +kernel
theorem dX11_takeHead_62 : decode cX11_takeHead 62 = .ok (.aload_n 2, 1) := by decide +kernel
theorem dX11_takeHead_63 : decode cX11_takeHead 63 = .ok (.aload_n 0, 1) := by decide +kernel
theorem dX11_takeHead_64 : decode cX11_takeHead 64 = .ok (.getfield 97, 3) := by decide +kernel
theorem dX11_takeHead_67 : decode cX11_takeHead 67 = .ok (.invokevirtual 105, 3) := by decide +kernel
theorem dX11_takeHead_70 : decode cX11_takeHead 70 = .ok (.aload_n 0, 1) := by decide +kernel
theorem dX11_takeHead_71 : decode cX11_takeHead 71 = .ok (.getfield 21, 3) := by decide +kernel
theorem dX11_takeHead_74 : decode cX11_takeHead 74 = .ok (.aload_n 0, 1) := by decide +kernel
theorem dX11_takeHead_75 : decode cX11_takeHead 75 = .ok (.getfield 94, 3) := by decide +kernel
theorem dX11_takeHead_78 : decode cX11_takeHead 78 = .ok (.aload_n 2, 1) := by decide +kernel
theorem dX11_takeHead_79 : decode cX11_takeHead 79 = .ok (.aastore, 1) := by decide +kernel
theorem dX11_takeHead_80 : decode cX11_takeHead 80 = .ok (.aload_n 0, 1) := by decide +kernel
theorem dX11_takeHead_81 : decode cX11_takeHead 81 = .ok (.dup, 1) := by decide +kernel
theorem dX11_takeHead_82 : decode cX11_takeHead 82 = .ok (.getfield 94, 3) := by decide +kernel
theorem dX11_takeHead_85 : decode cX11_takeHead 85 = .ok (.iconst 1, 1) := by decide +kernel
theorem dX11_takeHead_86 : decode cX11_takeHead 86 = .ok (.iadd, 1) := by decide +kernel
theorem dX11_takeHead_87 : decode cX11_takeHead 87 = .ok (.putfield 94, 3) := by decide +kernel
theorem dX11_takeHead_90 : decode cX11_takeHead 90 = .ok (.aload_n 0, 1) := by decide +kernel
theorem dX11_takeHead_91 : decode cX11_takeHead 91 = .ok (.iconst 0, 1) := by decide +kernel
theorem dX11_takeHead_92 : decode cX11_takeHead 92 = .ok (.putfield 47, 3) := by decide +kernel
theorem dX11_takeHead_95 : decode cX11_takeHead 95 = .ok (.aload_n 0, 1) := by decide +kernel
theorem dX11_takeHead_96 : decode cX11_takeHead 96 = .ok (.getfield 94, 3) := by decide +kernel
theorem dX11_takeHead_99 : decode cX11_takeHead 99 = .ok (.iconst 1, 1) := by decide +kernel
theorem dX11_takeHead_100 : decode cX11_takeHead 100 = .ok (.isub, 1) := by decide +kernel
theorem dX11_takeHead_101 : decode cX11_takeHead 101 = .ok (.ireturn, 1) := by decide +kernel
theorem dX11_takeThings_0 : decode cX11_takeThings 0 = .ok (.new 55, 3) := by decide +kernel
theorem dX11_takeThings_3 : decode cX11_takeThings 3 = .ok (.dup, 1) := by decide +kernel
theorem dX11_takeThings_4 : decode cX11_takeThings 4 = .ok (.aload_n 0, 1) := by decide +kernel
theorem dX11_takeThings_5 : decode cX11_takeThings 5 = .ok (.getfield 9, 3) := by decide +kernel
theorem dX11_takeThings_8 : decode cX11_takeThings 8 = .ok (.aload_n 0, 1) := by decide +kernel
theorem dX11_takeThings_9 : decode cX11_takeThings 9 = .ok (.getfield 47, 3) := by decide +kernel
theorem dX11_takeThings_12 : decode cX11_takeThings 12 = .ok (.invokespecial 57, 3) := by decide +kernel
theorem dX11_takeThings_15 : decode cX11_takeThings 15 = .ok (.astore_n 1, 1) := by decide +kernel
theorem dX11_takeThings_16 : decode cX11_takeThings 16 = .ok (.bipush 80, 2) := by decide +kernel
theorem dX11_takeThings_18 : decode cX11_takeThings 18 = .ok (.newarray .int, 2) := by decide +kernel
theorem dX11_takeThings_20 : decode cX11_takeThings 20 = .ok (.astore_n 2, 1) := by decide +kernel
theorem dX11_takeThings_21 : decode cX11_takeThings 21 = .ok (.aload_n 1, 1) := by decide +kernel
theorem dX11_takeThings_22 : decode cX11_takeThings 22 = .ok (.aload_n 2, 1) := by decide +kernel
theorem dX11_takeThings_23 : decode cX11_takeThings 23 = .ok (.invokestatic 70, 3) := by decide +kernel
theorem dX11_takeThings_26 : decode cX11_takeThings 26 = .ok (.istore_n 3, 1) := by decide +kernel
theorem dX11_takeThings_27 : decode cX11_takeThings 27 = .ok (.aload_n 1, 1) := by decide +kernel
theorem dX11_takeThings_28 : decode cX11_takeThings 28 = .ok (.invokevirtual 87, 3) := by decide +kernel
theorem dX11_takeThings_31 : decode cX11_takeThings 31 = .ok (.ifCond .ne 5, 3) := by decide +kernel
theorem dX11_takeThings_34 : decode cX11_takeThings 34 = .ok (.iconst (-1), 1) := by decide +kernel
theorem dX11_takeThings_35 : decode cX11_takeThings 35 = .ok (.ireturn, 1) := by decide +kernel
theorem dX11_takeThings_36 : decode cX11_takeThings 36 = .ok (.aload_n 0, 1) := by decide +kernel
theorem dX11_takeThings_37 : decode cX11_takeThings 37 = .ok (.aload_n 2, 1) := by decide +kernel
theorem dX11_takeThings_38 : decode cX11_takeThings 38 = .ok (.putfield 109, 3) := by decide +kernel
theorem dX11_takeThings_41 : decode cX11_takeThings 41 = .ok (.aload_n 0, 1) := by decide +kernel
theorem dX11_takeThings_42 : decode cX11_takeThings 42 = .ok (.iload_n 3, 1) := by decide +kernel
theorem dX11_takeThings_43 : decode cX11_takeThings 43 = .ok (.putfield 112, 3) := by decide +kernel
theorem dX11_takeThings_46 : decode cX11_takeThings 46 = .ok (.aload_n 0, 1) := by decide +kernel
theorem dX11_takeThings_47 : decode cX11_takeThings 47 = .ok (.iconst 0, 1) := by decide +kernel
theorem dX11_takeThings_48 : decode cX11_takeThings 48 = .ok (.putfield 47, 3) := by decide +kernel
theorem dX11_takeThings_51 : decode cX11_takeThings 51 = .ok (.aload_n 0, 1) := by decide +kernel
theorem dX11_takeThings_52 : decode cX11_takeThings 52 = .ok (.getfield 112, 3) := by decide +kernel
theorem dX11_takeThings_55 : decode cX11_takeThings 55 = .ok (.ireturn, 1) := by decide +kernel
theorem dX11_readThings_0 : decode cX11_readThings 0 = .ok (.iconst 0, 1) := by decide +kernel
theorem dX11_readThings_1 : decode cX11_readThings 1 = .ok (.istore_n 2, 1) := by decide +kernel
theorem dX11_readThings_2 : decode cX11_readThings 2 = .ok (.iconst 1, 1) := by decide +kernel
theorem dX11_readThings_3 : decode cX11_readThings 3 = .ok (.istore_n 3, 1) := by decide +kernel
theorem dX11_readThings_4 : decode cX11_readThings 4 = .ok (.iload_n 3, 1) := by decide +kernel
theorem dX11_readThings_5 : decode cX11_readThings 5 = .ok (.ifCond .eq 29, 3) := by decide +kernel
theorem dX11_readThings_8 : decode cX11_readThings 8 = .ok (.iload_n 2, 1) := by decide +kernel
theorem dX11_readThings_9 : decode cX11_readThings 9 = .ok (.aload_n 1, 1) := by decide +kernel
theorem dX11_readThings_10 : decode cX11_readThings 10 = .ok (.arraylength, 1) := by decide +kernel
theorem dX11_readThings_11 : decode cX11_readThings 11 = .ok (.if_icmp .ge 23, 3) := by decide +kernel
theorem dX11_readThings_14 : decode cX11_readThings 14 = .ok (.aload_n 1, 1) := by decide +kernel
theorem dX11_readThings_15 : decode cX11_readThings 15 = .ok (.iload_n 2, 1) := by decide +kernel
theorem dX11_readThings_16 : decode cX11_readThings 16 = .ok (.aload_n 0, 1) := by decide +kernel
theorem dX11_readThings_17 : decode cX11_readThings 17 = .ok (.invokestatic 115, 3) := by decide +kernel
theorem dX11_readThings_20 : decode cX11_readThings 20 = .ok (.iastore, 1) := by decide +kernel
theorem dX11_readThings_21 : decode cX11_readThings 21 = .ok (.iinc 2 1, 3) := by decide +kernel
theorem dX11_readThings_24 : decode cX11_readThings 24 = .ok (.aload_n 0, 1) := by decide +kernel
theorem dX11_readThings_25 : decode cX11_readThings 25 = .ok (.bipush 59, 2) := by decide +kernel
theorem dX11_readThings_27 : decode cX11_readThings 27 = .ok (.invokevirtual 119, 3) := by decide +kernel
theorem dX11_readThings_30 : decode cX11_readThings 30 = .ok (.istore_n 3, 1) := by decide +kernel
theorem dX11_readThings_31 : decode cX11_readThings 31 = .ok (.goto (-27), 3) := by decide +kernel
theorem dX11_readThings_34 : decode cX11_readThings 34 = .ok (.iload_n 3, 1) := by decide +kernel
theorem dX11_readThings_35 : decode cX11_readThings 35 = .ok (.ifCond .eq 7, 3) := by decide +kernel
theorem dX11_readThings_38 : decode cX11_readThings 38 = .ok (.aload_n 0, 1) := by decide +kernel
theorem dX11_readThings_39 : decode cX11_readThings 39 = .ok (.invokevirtual 123, 3) := by decide +kernel
theorem dX11_readThings_42 : decode cX11_readThings 42 = .ok (.aload_n 0, 1) := by decide +kernel
theorem dX11_readThings_43 : decode cX11_readThings 43 = .ok (.invokevirtual 126, 3) := by decide +kernel
theorem dX11_readThings_46 : decode cX11_readThings 46 = .ok (.iload_n 2, 1) := by decide +kernel
theorem dX11_readThings_47 : decode cX11_readThings 47 = .ok (.ireturn, 1) := by decide +kernel
theorem dX11_readThing_0 : decode cX11_readThing 0 = .ok (.aload_n 0, 1) := by decide +kernel
theorem dX11_readThing_1 : decode cX11_readThing 1 = .ok (.bipush 63, 2) := by decide +kernel
theorem dX11_readThing_3 : decode cX11_readThing 3 = .ok (.invokevirtual 119, 3) := by decide +kernel
theorem dX11_readThing_6 : decode cX11_readThing 6 = .ok (.ifCond .eq 5, 3) := by decide +kernel
theorem dX11_readThing_9 : decode cX11_readThing 9 = .ok (.iconst 0, 1) := by decide +kernel
theorem dX11_readThing_10 : decode cX11_readThing 10 = .ok (.ireturn, 1) := by decide +kernel
theorem dX11_readThing_11 : decode cX11_readThing 11 = .ok (.aload_n 0, 1) := by decide +kernel
theorem dX11_readThing_12 : decode cX11_readThing 12 = .ok (.iconst 0, 1) := by decide +kernel
theorem dX11_readThing_13 : decode cX11_readThing 13 = .ok (.sipush 9999, 3) := by decide +kernel
theorem dX11_readThing_16 : decode cX11_readThing 16 = .ok (.invokevirtual 129, 3) := by decide +kernel
theorem dX11_readThing_19 : decode cX11_readThing 19 = .ok (.istore_n 1, 1) := by decide +kernel
theorem dX11_readThing_20 : decode cX11_readThing 20 = .ok (.aload_n 0, 1) := by decide +kernel
theorem dX11_readThing_21 : decode cX11_readThing 21 = .ok (.bipush 46, 2) := by decide +kernel
theorem dX11_readThing_23 : decode cX11_readThing 23 = .ok (.invokevirtual 133, 3) := by decide +kernel
theorem dX11_readThing_26 : decode cX11_readThing 26 = .ok (.aload_n 0, 1) := by decide +kernel
theorem dX11_readThing_27 : decode cX11_readThing 27 = .ok (.iconst 0, 1) := by decide +kernel
theorem dX11_readThing_28 : decode cX11_readThing 28 = .ok (.sipush 9999, 3) := by decide +kernel
theorem dX11_readThing_31 : decode cX11_readThing 31 = .ok (.invokevirtual 129, 3) := by decide +kernel
theorem dX11_readThing_34 : decode cX11_readThing 34 = .ok (.istore_n 2, 1) := by decide +kernel
theorem dX11_readThing_35 : decode cX11_readThing 35 = .ok (.aload_n 0, 1) := by decide +kernel
theorem dX11_readThing_36 : decode cX11_readThing 36 = .ok (.bipush 46, 2) := by decide +kernel
theorem dX11_readThing_38 : decode cX11_readThing 38 = .ok (.invokevirtual 133, 3) := by decide +kernel
theorem dX11_readThing_41 : decode cX11_readThing 41 = .ok (.aload_n 0, 1) := by decide +kernel
theorem dX11_readThing_42 : decode cX11_readThing 42 = .ok (.iconst 0, 1) := by decide +kernel
theorem dX11_readThing_43 : decode cX11_readThing 43 = .ok (.sipush 9999, 3) := by decide +kernel
theorem dX11_readThing_46 : decode cX11_readThing 46 = .ok (.invokevirtual 129, 3) := by decide +kernel
theorem dX11_readThing_49 : decode cX11_readThing 49 = .ok (.istore_n 3, 1) := by decide +kernel
theorem dX11_readThing_50 : decode cX11_readThing 50 = .ok (.iload_n 1, 1) := by decide +kernel
theorem dX11_readThing_51 : decode cX11_readThing 51 = .ok (.iload_n 2, 1) := by decide +kernel
theorem dX11_readThing_52 : decode cX11_readThing 52 = .ok (.iload_n 3, 1) := by decide +kernel
theorem dX11_readThing_53 : decode cX11_readThing 53 = .ok (.invokestatic 136, 3) := by decide +kernel
theorem dX11_readThing_56 : decode cX11_readThing 56 = .ok (.ifCond .eq 12, 3) := by decide +kernel
theorem dX11_readThing_59 : decode cX11_readThing 59 = .ok (.iload_n 1, 1) := by decide +kernel
theorem dX11_readThing_60 : decode cX11_readThing 60 = .ok (.iload_n 2, 1) := by decide +kernel
theorem dX11_readThing_61 : decode cX11_readThing 61 = .ok (.iload_n 3, 1) := by decide +kernel
theorem dX11_readThing_62 : decode cX11_readThing 62 = .ok (.invokestatic 140, 3) := by decide +kernel
theorem dX11_readThing_65 : decode cX11_readThing 65 = .ok (.goto 4, 3) := by decide +kernel
theorem dX11_readThing_68 : decode cX11_readThing 68 = .ok (.iconst 0, 1) := by decide +kernel
theorem dX11_readThing_69 : decode cX11_readThing 69 = .ok (.ireturn, 1) := by decide +kernel
theorem dX11_day_0 : decode cX11_day 0 = .ok (.aload_n 0, 1) := by decide +kernel
theorem dX11_day_1 : decode cX11_day 1 = .ok (.iload_n 1, 1) := by decide +kernel
theorem dX11_day_2 : decode cX11_day 2 = .ok (.iload_n 2, 1) := by decide +kernel
theorem dX11_day_3 : decode cX11_day 3 = .ok (.iload_n 3, 1) := by decide +kernel
theorem dX11_day_4 : decode cX11_day 4 = .ok (.iload 4, 2) := by decide +kernel
theorem dX11_day_6 : decode cX11_day 6 = .ok (.invokevirtual 144, 3) := by decide +kernel
theorem dX11_day_9 : decode cX11_day 9 = .ok (.istore 5, 2) := by decide +kernel
theorem dX11_day_11 : decode cX11_day 11 = .ok (.iload 5, 2) := by decide +kernel
theorem dX11_day_13 : decode cX11_day 13 = .ok (.iconst (-1), 1) := by decide +kernel
theorem dX11_day_14 : decode cX11_day 14 = .ok (.if_icmp .ne 11, 3) := by decide +kernel
theorem dX11_day_17 : decode cX11_day 17 = .ok (.new 148, 3) := by decide +kernel
theorem dX11_day_20 : decode cX11_day 20 = .ok (.dup, 1) := by decide +kernel
theorem dX11_day_21 : decode cX11_day 21 = .ok (.invokespecial 150, 3) := by decide +kernel
theorem dX11_day_24 : decode cX11_day 24 = .ok (.athrow, 1) := by decide +kernel
theorem dX11_day_25 : decode cX11_day 25 = .ok (.iload 5, 2) := by decide +kernel
theorem dX11_day_27 : decode cX11_day 27 = .ok (.ireturn, 1) := by decide +kernel
theorem dX11_date_0 : decode cX11_date 0 = .ok (.aload_n 0, 1) := by decide +kernel
theorem dX11_date_1 : decode cX11_date 1 = .ok (.iload_n 1, 1) := by decide +kernel
theorem dX11_date_2 : decode cX11_date 2 = .ok (.invokevirtual 151, 3) := by decide +kernel
theorem dX11_date_5 : decode cX11_date 5 = .ok (.astore 4, 2) := by decide +kernel
theorem dX11_date_7 : decode cX11_date 7 = .ok (.aload 4, 2) := by decide +kernel
theorem dX11_date_9 : decode cX11_date 9 = .ok (.ifnull 12, 3) := by decide +kernel
theorem dX11_date_12 : decode cX11_date 12 = .ok (.iload_n 3, 1) := by decide +kernel
theorem dX11_date_13 : decode cX11_date 13 = .ok (.ifCond .lt 8, 3) := by decide +kernel
theorem dX11_date_16 : decode cX11_date 16 = .ok (.iload_n 3, 1) := by decide +kernel
theorem dX11_date_17 : decode cX11_date 17 = .ok (.iconst 3, 1) := by decide +kernel
theorem dX11_date_18 : decode cX11_date 18 = .ok (.if_icmp .le 5, 3) := by decide +kernel
theorem dX11_date_21 : decode cX11_date 21 = .ok (.iconst (-1), 1) := by decide +kernel
theorem dX11_date_22 : decode cX11_date 22 = .ok (.ireturn, 1) := by decide +kernel
theorem dX11_date_23 : decode cX11_date 23 = .ok (.aload 4, 2) := by decide +kernel
theorem dX11_date_25 : decode cX11_date 25 = .ok (.iload_n 2, 1) := by decide +kernel
theorem dX11_date_26 : decode cX11_date 26 = .ok (.invokevirtual 155, 3) := by decide +kernel
theorem dX11_date_29 : decode cX11_date 29 = .ok (.istore 5, 2) := by decide +kernel
theorem dX11_date_31 : decode cX11_date 31 = .ok (.iload 5, 2) := by decide +kernel
theorem dX11_date_33 : decode cX11_date 33 = .ok (.iconst (-1), 1) := by decide +kernel
theorem dX11_date_34 : decode cX11_date 34 = .ok (.if_icmp .ne 5, 3) := by decide +kernel
theorem dX11_date_37 : decode cX11_date 37 = .ok (.iconst (-1), 1) := by decide +kernel
theorem dX11_date_38 : decode cX11_date 38 = .ok (.ireturn, 1) := by decide +kernel
theorem dX11_date_39 : decode cX11_date 39 = .ok (.iload_n 3, 1) := by decide +kernel
theorem dX11_date_40 : decode cX11_date 40 = .ok (.iconst 3, 1) := by decide +kernel
theorem dX11_date_41 : decode cX11_date 41 = .ok (.if_icmp .ne 10, 3) := by decide +kernel
theorem dX11_date_44 : decode cX11_date 44 = .ok (.iload_n 2, 1) := by decide +kernel
theorem dX11_date_45 : decode cX11_date 45 = .ok (.bipush 7, 2) := by decide +kernel
theorem dX11_date_47 : decode cX11_date 47 = .ok (.irem, 1) := by decide +kernel
theorem dX11_date_48 : decode cX11_date 48 = .ok (.goto 9, 3) := by decide +kernel
theorem dX11_date_51 : decode cX11_date 51 = .ok (.iload 5, 2) := by decide +kernel
theorem dX11_date_53 : decode cX11_date 53 = .ok (.iload_n 3, 1) := by decide +kernel
theorem dX11_date_54 : decode cX11_date 54 = .ok (.invokestatic 158, 3) := by decide +kernel
theorem dX11_date_57 : decode cX11_date 57 = .ok (.ireturn, 1) := by decide +kernel
theorem dX11_turned_0 : decode cX11_turned 0 = .ok (.aload_n 0, 1) := by decide +kernel
theorem dX11_turned_1 : decode cX11_turned 1 = .ok (.iload 5, 2) := by decide +kernel
theorem dX11_turned_3 : decode cX11_turned 3 = .ok (.invokevirtual 151, 3) := by decide +kernel
theorem dX11_turned_6 : decode cX11_turned 6 = .ok (.astore 7, 2) := by decide +kernel
theorem dX11_turned_8 : decode cX11_turned 8 = .ok (.aload_n 0, 1) := by decide +kernel
theorem dX11_turned_9 : decode cX11_turned 9 = .ok (.iload_n 1, 1) := by decide +kernel
theorem dX11_turned_10 : decode cX11_turned 10 = .ok (.iload_n 2, 1) := by decide +kernel
theorem dX11_turned_11 : decode cX11_turned 11 = .ok (.iload_n 3, 1) := by decide +kernel
theorem dX11_turned_12 : decode cX11_turned 12 = .ok (.iload 4, 2) := by decide +kernel
theorem dX11_turned_14 : decode cX11_turned 14 = .ok (.invokevirtual 144, 3) := by decide +kernel
theorem dX11_turned_17 : decode cX11_turned 17 = .ok (.istore 8, 2) := by decide +kernel
theorem dX11_turned_19 : decode cX11_turned 19 = .ok (.aload 7, 2) := by decide +kernel
theorem dX11_turned_21 : decode cX11_turned 21 = .ok (.ifnull 20, 3) := by decide +kernel
theorem dX11_turned_24 : decode cX11_turned 24 = .ok (.iload 8, 2) := by decide +kernel
theorem dX11_turned_26 : decode cX11_turned 26 = .ok (.iconst (-1), 1) := by decide +kernel
theorem dX11_turned_27 : decode cX11_turned 27 = .ok (.if_icmp .eq 14, 3) := by decide +kernel
theorem dX11_turned_30 : decode cX11_turned 30 = .ok (.iload 6, 2) := by decide +kernel
theorem dX11_turned_32 : decode cX11_turned 32 = .ok (.ifCond .lt 9, 3) := by decide +kernel
theorem dX11_turned_35 : decode cX11_turned 35 = .ok (.iload 6, 2) := by decide +kernel
theorem dX11_turned_37 : decode cX11_turned 37 = .ok (.iconst 2, 1) := by decide +kernel
theorem dX11_turned_38 : decode cX11_turned 38 = .ok (.if_icmp .le 5, 3) := by decide +kernel
theorem dX11_turned_41 : decode cX11_turned 41 = .ok (.iconst (-1), 1) := by decide +kernel
theorem dX11_turned_42 : decode cX11_turned 42 = .ok (.ireturn, 1) := by decide +kernel
theorem dX11_turned_43 : decode cX11_turned 43 = .ok (.aload 7, 2) := by decide +kernel
theorem dX11_turned_45 : decode cX11_turned 45 = .ok (.iload 8, 2) := by decide +kernel
theorem dX11_turned_47 : decode cX11_turned 47 = .ok (.invokevirtual 155, 3) := by decide +kernel
theorem dX11_turned_50 : decode cX11_turned 50 = .ok (.istore 9, 2) := by decide +kernel
theorem dX11_turned_52 : decode cX11_turned 52 = .ok (.iload 9, 2) := by decide +kernel
theorem dX11_turned_54 : decode cX11_turned 54 = .ok (.iconst (-1), 1) := by decide +kernel
theorem dX11_turned_55 : decode cX11_turned 55 = .ok (.if_icmp .ne 7, 3) := by decide +kernel
theorem dX11_turned_58 : decode cX11_turned 58 = .ok (.iconst (-1), 1) := by decide +kernel
theorem dX11_turned_59 : decode cX11_turned 59 = .ok (.goto 10, 3) := by decide +kernel
theorem dX11_turned_62 : decode cX11_turned 62 = .ok (.iload 9, 2) := by decide +kernel
theorem dX11_turned_64 : decode cX11_turned 64 = .ok (.iload 6, 2) := by decide +kernel
theorem dX11_turned_66 : decode cX11_turned 66 = .ok (.invokestatic 158, 3) := by decide +kernel
theorem dX11_turned_69 : decode cX11_turned 69 = .ok (.ireturn, 1) := by decide +kernel
theorem dX11_many_0 : decode cX11_many 0 = .ok (.aload_n 0, 1) := by decide +kernel
theorem dX11_many_1 : decode cX11_many 1 = .ok (.iload_n 1, 1) := by decide +kernel
theorem dX11_many_2 : decode cX11_many 2 = .ok (.invokevirtual 151, 3) := by decide +kernel
theorem dX11_many_5 : decode cX11_many 5 = .ok (.astore 4, 2) := by decide +kernel
theorem dX11_many_7 : decode cX11_many 7 = .ok (.aload 4, 2) := by decide +kernel
theorem dX11_many_9 : decode cX11_many 9 = .ok (.ifnull 20, 3) := by decide +kernel
theorem dX11_many_12 : decode cX11_many 12 = .ok (.iload_n 2, 1) := by decide +kernel
theorem dX11_many_13 : decode cX11_many 13 = .ok (.invokestatic 161, 3) := by decide +kernel
theorem dX11_many_16 : decode cX11_many 16 = .ok (.ifCond .eq 13, 3) := by decide +kernel
theorem dX11_many_19 : decode cX11_many 19 = .ok (.iload_n 3, 1) := by decide +kernel
theorem dX11_many_20 : decode cX11_many 20 = .ok (.ifCond .lt 9, 3) := by decide +kernel
theorem dX11_many_23 : decode cX11_many 23 = .ok (.iload_n 3, 1) := by decide +kernel
theorem dX11_many_24 : decode cX11_many 24 = .ok (.bipush 12, 2) := by decide +kernel
theorem dX11_many_26 : decode cX11_many 26 = .ok (.if_icmp .le 5, 3) := by decide +kernel
theorem dX11_many_29 : decode cX11_many 29 = .ok (.iconst (-1), 1) := by decide +kernel
theorem dX11_many_30 : decode cX11_many 30 = .ok (.ireturn, 1) := by decide +kernel
theorem dX11_many_31 : decode cX11_many 31 = .ok (.iload_n 3, 1) := by decide +kernel
theorem dX11_many_32 : decode cX11_many 32 = .ok (.ifCond .le 11, 3) := by decide +kernel
theorem dX11_many_35 : decode cX11_many 35 = .ok (.aload 4, 2) := by decide +kernel
theorem dX11_many_37 : decode cX11_many 37 = .ok (.iload_n 2, 1) := by decide +kernel
theorem dX11_many_38 : decode cX11_many 38 = .ok (.iload_n 3, 1) := by decide +kernel
theorem dX11_many_39 : decode cX11_many 39 = .ok (.invokevirtual 164, 3) := by decide +kernel
theorem dX11_many_42 : decode cX11_many 42 = .ok (.ireturn, 1) := by decide +kernel
theorem dX11_many_43 : decode cX11_many 43 = .ok (.iconst 0, 1) := by decide +kernel
theorem dX11_many_44 : decode cX11_many 44 = .ok (.istore 5, 2) := by decide +kernel
theorem dX11_many_46 : decode cX11_many 46 = .ok (.iconst 1, 1) := by decide +kernel
theorem dX11_many_47 : decode cX11_many 47 = .ok (.istore 6, 2) := by decide +kernel
theorem dX11_many_49 : decode cX11_many 49 = .ok (.iload 6, 2) := by decide +kernel
theorem dX11_many_51 : decode cX11_many 51 = .ok (.bipush 12, 2) := by decide +kernel
theorem dX11_many_53 : decode cX11_many 53 = .ok (.if_icmp .gt 22, 3) := by decide +kernel
theorem dX11_many_56 : decode cX11_many 56 = .ok (.iload 5, 2) := by decide +kernel
theorem dX11_many_58 : decode cX11_many 58 = .ok (.aload 4, 2) := by decide +kernel
theorem dX11_many_60 : decode cX11_many 60 = .ok (.iload_n 2, 1) := by decide +kernel
theorem dX11_many_61 : decode cX11_many 61 = .ok (.iload 6, 2) := by decide +kernel
theorem dX11_many_63 : decode cX11_many 63 = .ok (.invokevirtual 164, 3) := by decide +kernel
theorem dX11_many_66 : decode cX11_many 66 = .ok (.iadd, 1) := by decide +kernel
theorem dX11_many_67 : decode cX11_many 67 = .ok (.istore 5, 2) := by decide +kernel
theorem dX11_many_69 : decode cX11_many 69 = .ok (.iinc 6 1, 3) := by decide +kernel
theorem dX11_many_72 : decode cX11_many 72 = .ok (.goto (-23), 3) := by decide +kernel
theorem dX11_many_75 : decode cX11_many 75 = .ok (.iload 5, 2) := by decide +kernel
theorem dX11_many_77 : decode cX11_many 77 = .ok (.ireturn, 1) := by decide +kernel
theorem dX11_kind_0 : decode cX11_kind 0 = .ok (.aload_n 0, 1) := by decide +kernel
theorem dX11_kind_1 : decode cX11_kind 1 = .ok (.iload_n 1, 1) := by decide +kernel
theorem dX11_kind_2 : decode cX11_kind 2 = .ok (.invokevirtual 151, 3) := by decide +kernel
theorem dX11_kind_5 : decode cX11_kind 5 = .ok (.astore_n 3, 1) := by decide +kernel
theorem dX11_kind_6 : decode cX11_kind 6 = .ok (.aload_n 3, 1) := by decide +kernel
theorem dX11_kind_7 : decode cX11_kind 7 = .ok (.ifnonnull 7, 3) := by decide +kernel
theorem dX11_kind_10 : decode cX11_kind 10 = .ok (.iconst (-1), 1) := by decide +kernel
theorem dX11_kind_11 : decode cX11_kind 11 = .ok (.goto 8, 3) := by decide +kernel
theorem dX11_kind_14 : decode cX11_kind 14 = .ok (.aload_n 3, 1) := by decide +kernel
theorem dX11_kind_15 : decode cX11_kind 15 = .ok (.iload_n 2, 1) := by decide +kernel
theorem dX11_kind_16 : decode cX11_kind 16 = .ok (.invokevirtual 167, 3) := by decide +kernel
theorem dX11_kind_19 : decode cX11_kind 19 = .ok (.ireturn, 1) := by decide +kernel
theorem dX11_like_0 : decode cX11_like 0 = .ok (.aload_n 0, 1) := by decide +kernel
theorem dX11_like_1 : decode cX11_like 1 = .ok (.iload_n 1, 1) := by decide +kernel
theorem dX11_like_2 : decode cX11_like 2 = .ok (.iload_n 2, 1) := by decide +kernel
theorem dX11_like_3 : decode cX11_like 3 = .ok (.invokevirtual 170, 3) := by decide +kernel
theorem dX11_like_6 : decode cX11_like 6 = .ok (.istore 4, 2) := by decide +kernel
theorem dX11_like_8 : decode cX11_like 8 = .ok (.aload_n 0, 1) := by decide +kernel
theorem dX11_like_9 : decode cX11_like 9 = .ok (.iload_n 1, 1) := by decide +kernel
theorem dX11_like_10 : decode cX11_like 10 = .ok (.invokevirtual 151, 3) := by decide +kernel
theorem dX11_like_13 : decode cX11_like 13 = .ok (.astore 5, 2) := by decide +kernel
theorem dX11_like_15 : decode cX11_like 15 = .ok (.aload 5, 2) := by decide +kernel
theorem dX11_like_17 : decode cX11_like 17 = .ok (.ifnull 13, 3) := by decide +kernel
theorem dX11_like_20 : decode cX11_like 20 = .ok (.iload 4, 2) := by decide +kernel
theorem dX11_like_22 : decode cX11_like 22 = .ok (.iconst (-1), 1) := by decide +kernel
theorem dX11_like_23 : decode cX11_like 23 = .ok (.if_icmp .eq 7, 3) := by decide +kernel
theorem dX11_like_26 : decode cX11_like 26 = .ok (.iload_n 3, 1) := by decide +kernel
theorem dX11_like_27 : decode cX11_like 27 = .ok (.ifCond .ge 5, 3) := by decide +kernel
theorem dX11_like_30 : decode cX11_like 30 = .ok (.iconst (-1), 1) := by decide +kernel
theorem dX11_like_31 : decode cX11_like 31 = .ok (.ireturn, 1) := by decide +kernel
theorem dX11_like_32 : decode cX11_like 32 = .ok (.iload_n 3, 1) := by decide +kernel
theorem dX11_like_33 : decode cX11_like 33 = .ok (.istore 6, 2) := by decide +kernel
theorem dX11_like_35 : decode cX11_like 35 = .ok (.iload_n 2, 1) := by decide +kernel
theorem dX11_like_36 : decode cX11_like 36 = .ok (.iconst 1, 1) := by decide +kernel
theorem dX11_like_37 : decode cX11_like 37 = .ok (.iadd, 1) := by decide +kernel
theorem dX11_like_38 : decode cX11_like 38 = .ok (.istore 7, 2) := by decide +kernel
theorem dX11_like_40 : decode cX11_like 40 = .ok (.iload 7, 2) := by decide +kernel
theorem dX11_like_42 : decode cX11_like 42 = .ok (.sipush 9999, 3) := by decide +kernel
theorem dX11_like_45 : decode cX11_like 45 = .ok (.if_icmp .gt 32, 3) := by decide +kernel
theorem dX11_like_48 : decode cX11_like 48 = .ok (.aload 5, 2) := by decide +kernel
theorem dX11_like_50 : decode cX11_like 50 = .ok (.iload 7, 2) := by decide +kernel
theorem dX11_like_52 : decode cX11_like 52 = .ok (.invokevirtual 167, 3) := by decide +kernel
theorem dX11_like_55 : decode cX11_like 55 = .ok (.iload 4, 2) := by decide +kernel
theorem dX11_like_57 : decode cX11_like 57 = .ok (.if_icmp .ne 14, 3) := by decide +kernel
theorem dX11_like_60 : decode cX11_like 60 = .ok (.iload 6, 2) := by decide +kernel
theorem dX11_like_62 : decode cX11_like 62 = .ok (.ifCond .ne 6, 3) := by decide +kernel
theorem dX11_like_65 : decode cX11_like 65 = .ok (.iload 7, 2) := by decide +kernel
theorem dX11_like_67 : decode cX11_like 67 = .ok (.ireturn, 1) := by decide +kernel
theorem dX11_like_68 : decode cX11_like 68 = .ok (.iinc 6 (-1), 3) := by decide +kernel
theorem dX11_like_71 : decode cX11_like 71 = .ok (.iinc 7 1, 3) := by decide +kernel
theorem dX11_like_74 : decode cX11_like 74 = .ok (.goto (-34), 3) := by decide +kernel
theorem dX11_like_77 : decode cX11_like 77 = .ok (.iconst (-1), 1) := by decide +kernel
theorem dX11_like_78 : decode cX11_like 78 = .ok (.ireturn, 1) := by decide +kernel
theorem dX11_thirteenths_0 : decode cX11_thirteenths 0 = .ok (.aload_n 0, 1) := by decide +kernel
theorem dX11_thirteenths_1 : decode cX11_thirteenths 1 = .ok (.iload_n 1, 1) := by decide +kernel
theorem dX11_thirteenths_2 : decode cX11_thirteenths 2 = .ok (.invokevirtual 151, 3) := by decide +kernel
theorem dX11_thirteenths_5 : decode cX11_thirteenths 5 = .ok (.astore 5, 2) := by decide +kernel
theorem dX11_thirteenths_7 : decode cX11_thirteenths 7 = .ok (.aload 5, 2) := by decide +kernel
theorem dX11_thirteenths_9 : decode cX11_thirteenths 9 = .ok (.ifnull 23, 3) := by decide +kernel
theorem dX11_thirteenths_12 : decode cX11_thirteenths 12 = .ok (.iload_n 2, 1) := by decide +kernel
theorem dX11_thirteenths_13 : decode cX11_thirteenths 13 = .ok (.iload_n 3, 1) := by decide +kernel
theorem dX11_thirteenths_14 : decode cX11_thirteenths 14 = .ok (.invokestatic 173, 3) := by decide +kernel
theorem dX11_thirteenths_17 : decode cX11_thirteenths 17 = .ok (.ifCond .eq 15, 3) := by decide +kernel
theorem dX11_thirteenths_20 : decode cX11_thirteenths 20 = .ok (.iload 4, 2) := by decide +kernel
theorem dX11_thirteenths_22 : decode cX11_thirteenths 22 = .ok (.ifCond .lt 10, 3) := by decide +kernel
theorem dX11_thirteenths_25 : decode cX11_thirteenths 25 = .ok (.iload 4, 2) := by decide +kernel
theorem dX11_thirteenths_27 : decode cX11_thirteenths 27 = .ok (.bipush 6, 2) := by decide +kernel
theorem dX11_thirteenths_29 : decode cX11_thirteenths 29 = .ok (.if_icmp .le 5, 3) := by decide +kernel
theorem dX11_thirteenths_32 : decode cX11_thirteenths 32 = .ok (.iconst (-1), 1) := by decide +kernel
theorem dX11_thirteenths_33 : decode cX11_thirteenths 33 = .ok (.ireturn, 1) := by decide +kernel
theorem dX11_thirteenths_34 : decode cX11_thirteenths 34 = .ok (.iconst 0, 1) := by decide +kernel
theorem dX11_thirteenths_35 : decode cX11_thirteenths 35 = .ok (.istore 6, 2) := by decide +kernel
theorem dX11_thirteenths_37 : decode cX11_thirteenths 37 = .ok (.iload_n 2, 1) := by decide +kernel
theorem dX11_thirteenths_38 : decode cX11_thirteenths 38 = .ok (.istore 7, 2) := by decide +kernel
theorem dX11_thirteenths_40 : decode cX11_thirteenths 40 = .ok (.iload 7, 2) := by decide +kernel
theorem dX11_thirteenths_42 : decode cX11_thirteenths 42 = .ok (.iload_n 3, 1) := by decide +kernel
theorem dX11_thirteenths_43 : decode cX11_thirteenths 43 = .ok (.if_icmp .gt 57, 3) := by decide +kernel
theorem dX11_thirteenths_46 : decode cX11_thirteenths 46 = .ok (.iconst 1, 1) := by decide +kernel
theorem dX11_thirteenths_47 : decode cX11_thirteenths 47 = .ok (.istore 8, 2) := by decide +kernel
theorem dX11_thirteenths_49 : decode cX11_thirteenths 49 = .ok (.iload 8, 2) := by decide +kernel
theorem dX11_thirteenths_51 : decode cX11_thirteenths 51 = .ok (.bipush 12, 2) := by decide +kernel
theorem dX11_thirteenths_53 : decode cX11_thirteenths 53 = .ok (.if_icmp .gt 41, 3) := by decide +kernel
theorem dX11_thirteenths_56 : decode cX11_thirteenths 56 = .ok (.aload 5, 2) := by decide +kernel
theorem dX11_thirteenths_58 : decode cX11_thirteenths 58 = .ok (.iload 7, 2) := by decide +kernel
theorem dX11_thirteenths_60 : decode cX11_thirteenths 60 = .ok (.iload 8, 2) := by decide +kernel
theorem dX11_thirteenths_62 : decode cX11_thirteenths 62 = .ok (.bipush 13, 2) := by decide +kernel
theorem dX11_thirteenths_64 : decode cX11_thirteenths 64 = .ok (.invokevirtual 177, 3) := by decide +kernel
theorem dX11_thirteenths_67 : decode cX11_thirteenths 67 = .ok (.istore 9, 2) := by decide +kernel
theorem dX11_thirteenths_69 : decode cX11_thirteenths 69 = .ok (.iload 9, 2) := by decide +kernel
theorem dX11_thirteenths_71 : decode cX11_thirteenths 71 = .ok (.iconst (-1), 1) := by decide +kernel
theorem dX11_thirteenths_72 : decode cX11_thirteenths 72 = .ok (.if_icmp .eq 16, 3) := by decide +kernel
theorem dX11_thirteenths_75 : decode cX11_thirteenths 75 = .ok (.iload 9, 2) := by decide +kernel
theorem dX11_thirteenths_77 : decode cX11_thirteenths 77 = .ok (.bipush 7, 2) := by decide +kernel
theorem dX11_thirteenths_79 : decode cX11_thirteenths 79 = .ok (.irem, 1) := by decide +kernel
theorem dX11_thirteenths_80 : decode cX11_thirteenths 80 = .ok (.iload 4, 2) := by decide +kernel
theorem dX11_thirteenths_82 : decode cX11_thirteenths 82 = .ok (.if_icmp .ne 6, 3) := by decide +kernel
theorem dX11_thirteenths_85 : decode cX11_thirteenths 85 = .ok (.iinc 6 1, 3) := by decide +kernel
theorem dX11_thirteenths_88 : decode cX11_thirteenths 88 = .ok (.iinc 8 1, 3) := by decide +kernel
theorem dX11_thirteenths_91 : decode cX11_thirteenths 91 = .ok (.goto (-42), 3) := by decide +kernel
theorem dX11_thirteenths_94 : decode cX11_thirteenths 94 = .ok (.iinc 7 1, 3) := by decide +kernel
theorem dX11_thirteenths_97 : decode cX11_thirteenths 97 = .ok (.goto (-57), 3) := by decide +kernel
theorem dX11_thirteenths_100 : decode cX11_thirteenths 100 = .ok (.iload 6, 2) := by decide +kernel
theorem dX11_thirteenths_102 : decode cX11_thirteenths 102 = .ok (.ireturn, 1) := by decide +kernel
theorem dX11_mates_0 : decode cX11_mates 0 = .ok (.aload_n 0, 1) := by decide +kernel
theorem dX11_mates_1 : decode cX11_mates 1 = .ok (.iload_n 1, 1) := by decide +kernel
theorem dX11_mates_2 : decode cX11_mates 2 = .ok (.invokevirtual 151, 3) := by decide +kernel
theorem dX11_mates_5 : decode cX11_mates 5 = .ok (.astore 4, 2) := by decide +kernel
theorem dX11_mates_7 : decode cX11_mates 7 = .ok (.aload 4, 2) := by decide +kernel
theorem dX11_mates_9 : decode cX11_mates 9 = .ok (.ifnull 15, 3) := by decide +kernel
theorem dX11_mates_12 : decode cX11_mates 12 = .ok (.aload 4, 2) := by decide +kernel
theorem dX11_mates_14 : decode cX11_mates 14 = .ok (.iload_n 2, 1) := by decide +kernel
theorem dX11_mates_15 : decode cX11_mates 15 = .ok (.iload_n 3, 1) := by decide +kernel
theorem dX11_mates_16 : decode cX11_mates 16 = .ok (.iconst 1, 1) := by decide +kernel
theorem dX11_mates_17 : decode cX11_mates 17 = .ok (.invokevirtual 177, 3) := by decide +kernel
theorem dX11_mates_20 : decode cX11_mates 20 = .ok (.iconst (-1), 1) := by decide +kernel
theorem dX11_mates_21 : decode cX11_mates 21 = .ok (.if_icmp .ne 5, 3) := by decide +kernel
theorem dX11_mates_24 : decode cX11_mates 24 = .ok (.iconst (-1), 1) := by decide +kernel
theorem dX11_mates_25 : decode cX11_mates 25 = .ok (.ireturn, 1) := by decide +kernel
theorem dX11_mates_26 : decode cX11_mates 26 = .ok (.iconst 0, 1) := by decide +kernel
theorem dX11_mates_27 : decode cX11_mates 27 = .ok (.istore 5, 2) := by decide +kernel
theorem dX11_mates_29 : decode cX11_mates 29 = .ok (.iconst 1, 1) := by decide +kernel
theorem dX11_mates_30 : decode cX11_mates 30 = .ok (.istore 6, 2) := by decide +kernel
theorem dX11_mates_32 : decode cX11_mates 32 = .ok (.iload 6, 2) := by decide +kernel
theorem dX11_mates_34 : decode cX11_mates 34 = .ok (.bipush 12, 2) := by decide +kernel
theorem dX11_mates_36 : decode cX11_mates 36 = .ok (.if_icmp .gt 32, 3) := by decide +kernel
theorem dX11_mates_39 : decode cX11_mates 39 = .ok (.aload 4, 2) := by decide +kernel
theorem dX11_mates_41 : decode cX11_mates 41 = .ok (.iload_n 2, 1) := by decide +kernel
theorem dX11_mates_42 : decode cX11_mates 42 = .ok (.iload_n 3, 1) := by decide +kernel
theorem dX11_mates_43 : decode cX11_mates 43 = .ok (.iload 6, 2) := by decide +kernel
theorem dX11_mates_45 : decode cX11_mates 45 = .ok (.invokevirtual 180, 3) := by decide +kernel
theorem dX11_mates_48 : decode cX11_mates 48 = .ok (.ifCond .eq 14, 3) := by decide +kernel
theorem dX11_mates_51 : decode cX11_mates 51 = .ok (.iload 5, 2) := by decide +kernel
theorem dX11_mates_53 : decode cX11_mates 53 = .ok (.iconst 1, 1) := by decide +kernel
theorem dX11_mates_54 : decode cX11_mates 54 = .ok (.iload 6, 2) := by decide +kernel
theorem dX11_mates_56 : decode cX11_mates 56 = .ok (.iconst 1, 1) := by decide +kernel
theorem dX11_mates_57 : decode cX11_mates 57 = .ok (.isub, 1) := by decide +kernel
theorem dX11_mates_58 : decode cX11_mates 58 = .ok (.ishl, 1) := by decide +kernel
theorem dX11_mates_59 : decode cX11_mates 59 = .ok (.ior, 1) := by decide +kernel
theorem dX11_mates_60 : decode cX11_mates 60 = .ok (.istore 5, 2) := by decide +kernel
theorem dX11_mates_62 : decode cX11_mates 62 = .ok (.iinc 6 1, 3) := by decide +kernel
theorem dX11_mates_65 : decode cX11_mates 65 = .ok (.goto (-33), 3) := by decide +kernel
theorem dX11_mates_68 : decode cX11_mates 68 = .ok (.iload 5, 2) := by decide +kernel
theorem dX11_mates_70 : decode cX11_mates 70 = .ok (.ireturn, 1) := by decide +kernel
theorem dX11_unlike_0 : decode cX11_unlike 0 = .ok (.aload_n 0, 1) := by decide +kernel
theorem dX11_unlike_1 : decode cX11_unlike 1 = .ok (.iload_n 1, 1) := by decide +kernel
theorem dX11_unlike_2 : decode cX11_unlike 2 = .ok (.invokevirtual 151, 3) := by decide +kernel
theorem dX11_unlike_5 : decode cX11_unlike 5 = .ok (.astore 4, 2) := by decide +kernel
theorem dX11_unlike_7 : decode cX11_unlike 7 = .ok (.aload_n 0, 1) := by decide +kernel
theorem dX11_unlike_8 : decode cX11_unlike 8 = .ok (.iload_n 2, 1) := by decide +kernel
theorem dX11_unlike_9 : decode cX11_unlike 9 = .ok (.invokevirtual 151, 3) := by decide +kernel
theorem dX11_unlike_12 : decode cX11_unlike 12 = .ok (.astore 5, 2) := by decide +kernel
theorem dX11_unlike_14 : decode cX11_unlike 14 = .ok (.aload 4, 2) := by decide +kernel
theorem dX11_unlike_16 : decode cX11_unlike 16 = .ok (.ifnull 18, 3) := by decide +kernel
theorem dX11_unlike_19 : decode cX11_unlike 19 = .ok (.aload 5, 2) := by decide +kernel
theorem dX11_unlike_21 : decode cX11_unlike 21 = .ok (.ifnull 13, 3) := by decide +kernel
theorem dX11_unlike_24 : decode cX11_unlike 24 = .ok (.iload_n 3, 1) := by decide +kernel
theorem dX11_unlike_25 : decode cX11_unlike 25 = .ok (.ifCond .lt 9, 3) := by decide +kernel
theorem dX11_unlike_28 : decode cX11_unlike 28 = .ok (.iload_n 3, 1) := by decide +kernel
theorem dX11_unlike_29 : decode cX11_unlike 29 = .ok (.ldc 183, 2) := by decide +kernel
theorem dX11_unlike_31 : decode cX11_unlike 31 = .ok (.if_icmp .le 5, 3) := by decide +kernel
theorem dX11_unlike_34 : decode cX11_unlike 34 = .ok (.iconst (-1), 1) := by decide +kernel
theorem dX11_unlike_35 : decode cX11_unlike 35 = .ok (.ireturn, 1) := by decide +kernel
theorem dX11_unlike_36 : decode cX11_unlike 36 = .ok (.iload_n 3, 1) := by decide +kernel
theorem dX11_unlike_37 : decode cX11_unlike 37 = .ok (.istore 6, 2) := by decide +kernel
theorem dX11_unlike_39 : decode cX11_unlike 39 = .ok (.iload 6, 2) := by decide +kernel
theorem dX11_unlike_41 : decode cX11_unlike 41 = .ok (.iload_n 3, 1) := by decide +kernel
theorem dX11_unlike_42 : decode cX11_unlike 42 = .ok (.sipush 5000, 3) := by decide +kernel
theorem dX11_unlike_45 : decode cX11_unlike 45 = .ok (.iadd, 1) := by decide +kernel
theorem dX11_unlike_46 : decode cX11_unlike 46 = .ok (.if_icmp .ge 29, 3) := by decide +kernel
theorem dX11_unlike_49 : decode cX11_unlike 49 = .ok (.aload 4, 2) := by decide +kernel
theorem dX11_unlike_51 : decode cX11_unlike 51 = .ok (.iload 6, 2) := by decide +kernel
theorem dX11_unlike_53 : decode cX11_unlike 53 = .ok (.invokevirtual 155, 3) := by decide +kernel
theorem dX11_unlike_56 : decode cX11_unlike 56 = .ok (.aload 5, 2) := by decide +kernel
theorem dX11_unlike_58 : decode cX11_unlike 58 = .ok (.iload 6, 2) := by decide +kernel
theorem dX11_unlike_60 : decode cX11_unlike 60 = .ok (.invokevirtual 155, 3) := by decide +kernel
theorem dX11_unlike_63 : decode cX11_unlike 63 = .ok (.if_icmp .eq 6, 3) := by decide +kernel
theorem dX11_unlike_66 : decode cX11_unlike 66 = .ok (.iload 6, 2) := by decide +kernel
theorem dX11_unlike_68 : decode cX11_unlike 68 = .ok (.ireturn, 1) := by decide +kernel
theorem dX11_unlike_69 : decode cX11_unlike 69 = .ok (.iinc 6 1, 3) := by decide +kernel
theorem dX11_unlike_72 : decode cX11_unlike 72 = .ok (.goto (-33), 3) := by decide +kernel
theorem dX11_unlike_75 : decode cX11_unlike 75 = .ok (.iconst (-1), 1) := by decide +kernel
theorem dX11_unlike_76 : decode cX11_unlike 76 = .ok (.ireturn, 1) := by decide +kernel
theorem dX11_almanacAt_0 : decode cX11_almanacAt 0 = .ok (.iload_n 1, 1) := by decide +kernel
theorem dX11_almanacAt_1 : decode cX11_almanacAt 1 = .ok (.ifCond .lt 20, 3) := by decide +kernel
theorem dX11_almanacAt_4 : decode cX11_almanacAt 4 = .ok (.iload_n 1, 1) := by decide +kernel
theorem dX11_almanacAt_5 : decode cX11_almanacAt 5 = .ok (.aload_n 0, 1) := by decide +kernel
theorem dX11_almanacAt_6 : decode cX11_almanacAt 6 = .ok (.getfield 84, 3) := by decide +kernel
theorem dX11_almanacAt_9 : decode cX11_almanacAt 9 = .ok (.if_icmp .ge 12, 3) := by decide +kernel
theorem dX11_almanacAt_12 : decode cX11_almanacAt 12 = .ok (.aload_n 0, 1) := by decide +kernel
theorem dX11_almanacAt_13 : decode cX11_almanacAt 13 = .ok (.getfield 15, 3) := by decide +kernel
theorem dX11_almanacAt_16 : decode cX11_almanacAt 16 = .ok (.iload_n 1, 1) := by decide +kernel
theorem dX11_almanacAt_17 : decode cX11_almanacAt 17 = .ok (.aaload, 1) := by decide +kernel
theorem dX11_almanacAt_18 : decode cX11_almanacAt 18 = .ok (.goto 4, 3) := by decide +kernel
theorem dX11_almanacAt_21 : decode cX11_almanacAt 21 = .ok (.aconst_null, 1) := by decide +kernel
theorem dX11_almanacAt_22 : decode cX11_almanacAt 22 = .ok (.areturn, 1) := by decide +kernel
theorem dX11_dayIn_0 : decode cX11_dayIn 0 = .ok (.aload_n 0, 1) := by decide +kernel
theorem dX11_dayIn_1 : decode cX11_dayIn 1 = .ok (.iload_n 1, 1) := by decide +kernel
theorem dX11_dayIn_2 : decode cX11_dayIn 2 = .ok (.invokevirtual 151, 3) := by decide +kernel
theorem dX11_dayIn_5 : decode cX11_dayIn 5 = .ok (.astore 5, 2) := by decide +kernel
theorem dX11_dayIn_7 : decode cX11_dayIn 7 = .ok (.aload 5, 2) := by decide +kernel
theorem dX11_dayIn_9 : decode cX11_dayIn 9 = .ok (.ifnonnull 7, 3) := by decide +kernel
theorem dX11_dayIn_12 : decode cX11_dayIn 12 = .ok (.iconst (-1), 1) := by decide +kernel
theorem dX11_dayIn_13 : decode cX11_dayIn 13 = .ok (.goto 12, 3) := by decide +kernel
theorem dX11_dayIn_16 : decode cX11_dayIn 16 = .ok (.aload 5, 2) := by decide +kernel
theorem dX11_dayIn_18 : decode cX11_dayIn 18 = .ok (.iload_n 2, 1) := by decide +kernel
theorem dX11_dayIn_19 : decode cX11_dayIn 19 = .ok (.iload_n 3, 1) := by decide +kernel
theorem dX11_dayIn_20 : decode cX11_dayIn 20 = .ok (.iload 4, 2) := by decide +kernel
theorem dX11_dayIn_22 : decode cX11_dayIn 22 = .ok (.invokevirtual 177, 3) := by decide +kernel
theorem dX11_dayIn_25 : decode cX11_dayIn 25 = .ok (.ireturn, 1) := by decide +kernel
theorem dX11_spotOn_0 : decode cX11_spotOn 0 = .ok (.aload_n 0, 1) := by decide +kernel
theorem dX11_spotOn_1 : decode cX11_spotOn 1 = .ok (.iload_n 1, 1) := by decide +kernel
theorem dX11_spotOn_2 : decode cX11_spotOn 2 = .ok (.invokevirtual 151, 3) := by decide +kernel
theorem dX11_spotOn_5 : decode cX11_spotOn 5 = .ok (.astore 5, 2) := by decide +kernel
theorem dX11_spotOn_7 : decode cX11_spotOn 7 = .ok (.aload 5, 2) := by decide +kernel
theorem dX11_spotOn_9 : decode cX11_spotOn 9 = .ok (.ifnonnull 5, 3) := by decide +kernel
theorem dX11_spotOn_12 : decode cX11_spotOn 12 = .ok (.aconst_null, 1) := by decide +kernel
theorem dX11_spotOn_13 : decode cX11_spotOn 13 = .ok (.areturn, 1) := by decide +kernel
theorem dX11_spotOn_14 : decode cX11_spotOn 14 = .ok (.aload 5, 2) := by decide +kernel
theorem dX11_spotOn_16 : decode cX11_spotOn 16 = .ok (.iload_n 2, 1) := by decide +kernel
theorem dX11_spotOn_17 : decode cX11_spotOn 17 = .ok (.iload_n 3, 1) := by decide +kernel
theorem dX11_spotOn_18 : decode cX11_spotOn 18 = .ok (.iload 4, 2) := by decide +kernel
theorem dX11_spotOn_20 : decode cX11_spotOn 20 = .ok (.invokevirtual 177, 3) := by decide +kernel
theorem dX11_spotOn_23 : decode cX11_spotOn 23 = .ok (.istore 6, 2) := by decide +kernel
theorem dX11_spotOn_25 : decode cX11_spotOn 25 = .ok (.iload 6, 2) := by decide +kernel
theorem dX11_spotOn_27 : decode cX11_spotOn 27 = .ok (.iconst (-1), 1) := by decide +kernel
theorem dX11_spotOn_28 : decode cX11_spotOn 28 = .ok (.if_icmp .ne 7, 3) := by decide +kernel
theorem dX11_spotOn_31 : decode cX11_spotOn 31 = .ok (.aconst_null, 1) := by decide +kernel
theorem dX11_spotOn_32 : decode cX11_spotOn 32 = .ok (.goto 22, 3) := by decide +kernel
theorem dX11_spotOn_35 : decode cX11_spotOn 35 = .ok (.new 31, 3) := by decide +kernel
theorem dX11_spotOn_38 : decode cX11_spotOn 38 = .ok (.dup, 1) := by decide +kernel
theorem dX11_spotOn_39 : decode cX11_spotOn 39 = .ok (.iload_n 1, 1) := by decide +kernel
theorem dX11_spotOn_40 : decode cX11_spotOn 40 = .ok (.aload 5, 2) := by decide +kernel
theorem dX11_spotOn_42 : decode cX11_spotOn 42 = .ok (.iload_n 2, 1) := by decide +kernel
theorem dX11_spotOn_43 : decode cX11_spotOn 43 = .ok (.iload_n 3, 1) := by decide +kernel
theorem dX11_spotOn_44 : decode cX11_spotOn 44 = .ok (.iload 4, 2) := by decide +kernel
theorem dX11_spotOn_46 : decode cX11_spotOn 46 = .ok (.invokestatic 140, 3) := by decide +kernel
theorem dX11_spotOn_49 : decode cX11_spotOn 49 = .ok (.iload 6, 2) := by decide +kernel
theorem dX11_spotOn_51 : decode cX11_spotOn 51 = .ok (.invokespecial 184, 3) := by decide +kernel
theorem dX11_spotOn_54 : decode cX11_spotOn 54 = .ok (.areturn, 1) := by decide +kernel
theorem dX11_way_0 : decode cX11_way 0 = .ok (.aload_n 0, 1) := by decide +kernel
theorem dX11_way_1 : decode cX11_way 1 = .ok (.iload_n 1, 1) := by decide +kernel
theorem dX11_way_2 : decode cX11_way 2 = .ok (.invokevirtual 187, 3) := by decide +kernel
theorem dX11_way_5 : decode cX11_way 5 = .ok (.astore 8, 2) := by decide +kernel
theorem dX11_way_7 : decode cX11_way 7 = .ok (.aload_n 0, 1) := by decide +kernel
theorem dX11_way_8 : decode cX11_way 8 = .ok (.iload_n 2, 1) := by decide +kernel
theorem dX11_way_9 : decode cX11_way 9 = .ok (.invokevirtual 151, 3) := by decide +kernel
theorem dX11_way_12 : decode cX11_way 12 = .ok (.astore 9, 2) := by decide +kernel
theorem dX11_way_14 : decode cX11_way 14 = .ok (.aload 8, 2) := by decide +kernel
theorem dX11_way_16 : decode cX11_way 16 = .ok (.ifnull 24, 3) := by decide +kernel
theorem dX11_way_19 : decode cX11_way 19 = .ok (.aload 9, 2) := by decide +kernel
theorem dX11_way_21 : decode cX11_way 21 = .ok (.ifnull 19, 3) := by decide +kernel
theorem dX11_way_24 : decode cX11_way 24 = .ok (.aload 8, 2) := by decide +kernel
theorem dX11_way_26 : decode cX11_way 26 = .ok (.aload 9, 2) := by decide +kernel
theorem dX11_way_28 : decode cX11_way 28 = .ok (.iload_n 3, 1) := by decide +kernel
theorem dX11_way_29 : decode cX11_way 29 = .ok (.iload 4, 2) := by decide +kernel
theorem dX11_way_31 : decode cX11_way 31 = .ok (.iload 5, 2) := by decide +kernel
theorem dX11_way_33 : decode cX11_way 33 = .ok (.invokevirtual 191, 3) := by decide +kernel
theorem dX11_way_36 : decode cX11_way 36 = .ok (.iconst (-1), 1) := by decide +kernel
theorem dX11_way_37 : decode cX11_way 37 = .ok (.if_icmp .ne 5, 3) := by decide +kernel
theorem dX11_way_40 : decode cX11_way 40 = .ok (.iconst (-1), 1) := by decide +kernel
theorem dX11_way_41 : decode cX11_way 41 = .ok (.ireturn, 1) := by decide +kernel
theorem dX11_way_42 : decode cX11_way 42 = .ok (.iload 6, 2) := by decide +kernel
theorem dX11_way_44 : decode cX11_way 44 = .ok (.lookupswitch 53 #[(0, 28), (1, 40)], 28) := by decide +kernel
theorem dX11_way_72 : decode cX11_way 72 = .ok (.aload 8, 2) := by decide +kernel
theorem dX11_way_74 : decode cX11_way 74 = .ok (.getfield 195, 3) := by decide +kernel
theorem dX11_way_77 : decode cX11_way 77 = .ok (.iload_n 3, 1) := by decide +kernel
theorem dX11_way_78 : decode cX11_way 78 = .ok (.iload 7, 2) := by decide +kernel
theorem dX11_way_80 : decode cX11_way 80 = .ok (.invokevirtual 199, 3) := by decide +kernel
theorem dX11_way_83 : decode cX11_way 83 = .ok (.ireturn, 1) := by decide +kernel
theorem dX11_way_84 : decode cX11_way 84 = .ok (.aload 8, 2) := by decide +kernel
theorem dX11_way_86 : decode cX11_way 86 = .ok (.getfield 204, 3) := by decide +kernel
theorem dX11_way_89 : decode cX11_way 89 = .ok (.iload 4, 2) := by decide +kernel
theorem dX11_way_91 : decode cX11_way 91 = .ok (.iload 7, 2) := by decide +kernel
theorem dX11_way_93 : decode cX11_way 93 = .ok (.invokevirtual 199, 3) := by decide +kernel
theorem dX11_way_96 : decode cX11_way 96 = .ok (.ireturn, 1) := by decide +kernel
theorem dX11_way_97 : decode cX11_way 97 = .ok (.iconst (-1), 1) := by decide +kernel
theorem dX11_way_98 : decode cX11_way 98 = .ok (.ireturn, 1) := by decide +kernel
theorem dX11_answers_0 : decode cX11_answers 0 = .ok (.aload_n 0, 1) := by decide +kernel
theorem dX11_answers_1 : decode cX11_answers 1 = .ok (.iload_n 1, 1) := by decide +kernel
theorem dX11_answers_2 : decode cX11_answers 2 = .ok (.invokevirtual 187, 3) := by decide +kernel
theorem dX11_answers_5 : decode cX11_answers 5 = .ok (.astore 7, 2) := by decide +kernel
theorem dX11_answers_7 : decode cX11_answers 7 = .ok (.aload_n 0, 1) := by decide +kernel
theorem dX11_answers_8 : decode cX11_answers 8 = .ok (.iload_n 2, 1) := by decide +kernel
theorem dX11_answers_9 : decode cX11_answers 9 = .ok (.invokevirtual 151, 3) := by decide +kernel
theorem dX11_answers_12 : decode cX11_answers 12 = .ok (.astore 8, 2) := by decide +kernel
theorem dX11_answers_14 : decode cX11_answers 14 = .ok (.aload 7, 2) := by decide +kernel
theorem dX11_answers_16 : decode cX11_answers 16 = .ok (.ifnull 8, 3) := by decide +kernel
theorem dX11_answers_19 : decode cX11_answers 19 = .ok (.aload 8, 2) := by decide +kernel
theorem dX11_answers_21 : decode cX11_answers 21 = .ok (.ifnonnull 7, 3) := by decide +kernel
theorem dX11_answers_24 : decode cX11_answers 24 = .ok (.sipush (-1000), 3) := by decide +kernel
theorem dX11_answers_27 : decode cX11_answers 27 = .ok (.ireturn, 1) := by decide +kernel
theorem dX11_answers_28 : decode cX11_answers 28 = .ok (.aload 7, 2) := by decide +kernel
theorem dX11_answers_30 : decode cX11_answers 30 = .ok (.aload 8, 2) := by decide +kernel
theorem dX11_answers_32 : decode cX11_answers 32 = .ok (.iload_n 3, 1) := by decide +kernel
theorem dX11_answers_33 : decode cX11_answers 33 = .ok (.iload 4, 2) := by decide +kernel
theorem dX11_answers_35 : decode cX11_answers 35 = .ok (.iload 5, 2) := by decide +kernel
theorem dX11_answers_37 : decode cX11_answers 37 = .ok (.invokevirtual 191, 3) := by decide +kernel
theorem dX11_answers_40 : decode cX11_answers 40 = .ok (.istore 9, 2) := by decide +kernel
theorem dX11_answers_42 : decode cX11_answers 42 = .ok (.iload 9, 2) := by decide +kernel
theorem dX11_answers_44 : decode cX11_answers 44 = .ok (.iconst (-1), 1) := by decide +kernel
theorem dX11_answers_45 : decode cX11_answers 45 = .ok (.if_icmp .ne 7, 3) := by decide +kernel
theorem dX11_answers_48 : decode cX11_answers 48 = .ok (.sipush (-1000), 3) := by decide +kernel
theorem dX11_answers_51 : decode cX11_answers 51 = .ok (.ireturn, 1) := by decide +kernel
theorem dX11_answers_52 : decode cX11_answers 52 = .ok (.iload 6, 2) := by decide +kernel
theorem dX11_answers_54 : decode cX11_answers 54 = .ok (.tableswitch 72 0 3 #[30, 36, 42, 61], 30) := by decide +kernel
theorem dX11_answers_84 : decode cX11_answers 84 = .ok (.iload 9, 2) := by decide +kernel
theorem dX11_answers_86 : decode cX11_answers 86 = .ok (.bipush 7, 2) := by decide +kernel
theorem dX11_answers_88 : decode cX11_answers 88 = .ok (.irem, 1) := by decide +kernel
theorem dX11_answers_89 : decode cX11_answers 89 = .ok (.ireturn, 1) := by decide +kernel
theorem dX11_answers_90 : decode cX11_answers 90 = .ok (.iload 9, 2) := by decide +kernel
theorem dX11_answers_92 : decode cX11_answers 92 = .ok (.bipush 7, 2) := by decide +kernel
theorem dX11_answers_94 : decode cX11_answers 94 = .ok (.idiv, 1) := by decide +kernel
theorem dX11_answers_95 : decode cX11_answers 95 = .ok (.ireturn, 1) := by decide +kernel
theorem dX11_answers_96 : decode cX11_answers 96 = .ok (.iload 9, 2) := by decide +kernel
theorem dX11_answers_98 : decode cX11_answers 98 = .ok (.bipush 7, 2) := by decide +kernel
theorem dX11_answers_100 : decode cX11_answers 100 = .ok (.irem, 1) := by decide +kernel
theorem dX11_answers_101 : decode cX11_answers 101 = .ok (.aload 8, 2) := by decide +kernel
theorem dX11_answers_103 : decode cX11_answers 103 = .ok (.iload_n 3, 1) := by decide +kernel
theorem dX11_answers_104 : decode cX11_answers 104 = .ok (.iload 4, 2) := by decide +kernel
theorem dX11_answers_106 : decode cX11_answers 106 = .ok (.iload 5, 2) := by decide +kernel
theorem dX11_answers_108 : decode cX11_answers 108 = .ok (.invokevirtual 177, 3) := by decide +kernel
theorem dX11_answers_111 : decode cX11_answers 111 = .ok (.invokestatic 207, 3) := by decide +kernel
theorem dX11_answers_114 : decode cX11_answers 114 = .ok (.ireturn, 1) := by decide +kernel
theorem dX11_answers_115 : decode cX11_answers 115 = .ok (.aload 7, 2) := by decide +kernel
theorem dX11_answers_117 : decode cX11_answers 117 = .ok (.aload 8, 2) := by decide +kernel
theorem dX11_answers_119 : decode cX11_answers 119 = .ok (.iload_n 3, 1) := by decide +kernel
theorem dX11_answers_120 : decode cX11_answers 120 = .ok (.iload 4, 2) := by decide +kernel
theorem dX11_answers_122 : decode cX11_answers 122 = .ok (.invokevirtual 210, 3) := by decide +kernel
theorem dX11_answers_125 : decode cX11_answers 125 = .ok (.ireturn, 1) := by decide +kernel
theorem dX11_answers_126 : decode cX11_answers 126 = .ok (.sipush (-1000), 3) := by decide +kernel
theorem dX11_answers_129 : decode cX11_answers 129 = .ok (.ireturn, 1) := by decide +kernel
theorem dX11_part_0 : decode cX11_part 0 = .ok (.aload_n 0, 1) := by decide +kernel
theorem dX11_part_1 : decode cX11_part 1 = .ok (.iload_n 1, 1) := by decide +kernel
theorem dX11_part_2 : decode cX11_part 2 = .ok (.invokevirtual 187, 3) := by decide +kernel
theorem dX11_part_5 : decode cX11_part 5 = .ok (.astore 6, 2) := by decide +kernel
theorem dX11_part_7 : decode cX11_part 7 = .ok (.aload_n 0, 1) := by decide +kernel
theorem dX11_part_8 : decode cX11_part 8 = .ok (.iload_n 2, 1) := by decide +kernel
theorem dX11_part_9 : decode cX11_part 9 = .ok (.invokevirtual 187, 3) := by decide +kernel
theorem dX11_part_12 : decode cX11_part 12 = .ok (.astore 7, 2) := by decide +kernel
theorem dX11_part_14 : decode cX11_part 14 = .ok (.aload_n 0, 1) := by decide +kernel
theorem dX11_part_15 : decode cX11_part 15 = .ok (.iload_n 3, 1) := by decide +kernel
theorem dX11_part_16 : decode cX11_part 16 = .ok (.invokevirtual 151, 3) := by decide +kernel
theorem dX11_part_19 : decode cX11_part 19 = .ok (.astore 8, 2) := by decide +kernel
theorem dX11_part_21 : decode cX11_part 21 = .ok (.aload 6, 2) := by decide +kernel
theorem dX11_part_23 : decode cX11_part 23 = .ok (.ifnull 13, 3) := by decide +kernel
theorem dX11_part_26 : decode cX11_part 26 = .ok (.aload 7, 2) := by decide +kernel
theorem dX11_part_28 : decode cX11_part 28 = .ok (.ifnull 8, 3) := by decide +kernel
theorem dX11_part_31 : decode cX11_part 31 = .ok (.aload 8, 2) := by decide +kernel
theorem dX11_part_33 : decode cX11_part 33 = .ok (.ifnonnull 5, 3) := by decide +kernel
theorem dX11_part_36 : decode cX11_part 36 = .ok (.iconst (-1), 1) := by decide +kernel
theorem dX11_part_37 : decode cX11_part 37 = .ok (.ireturn, 1) := by decide +kernel
theorem dX11_part_38 : decode cX11_part 38 = .ok (.iload 4, 2) := by decide +kernel
theorem dX11_part_40 : decode cX11_part 40 = .ok (.invokestatic 161, 3) := by decide +kernel
theorem dX11_part_43 : decode cX11_part 43 = .ok (.ifCond .eq 16, 3) := by decide +kernel
theorem dX11_part_46 : decode cX11_part 46 = .ok (.iload 5, 2) := by decide +kernel
theorem dX11_part_48 : decode cX11_part 48 = .ok (.iconst 1, 1) := by decide +kernel
theorem dX11_part_49 : decode cX11_part 49 = .ok (.if_icmp .lt 10, 3) := by decide +kernel
theorem dX11_part_52 : decode cX11_part 52 = .ok (.iload 5, 2) := by decide +kernel
theorem dX11_part_54 : decode cX11_part 54 = .ok (.bipush 20, 2) := by decide +kernel
theorem dX11_part_56 : decode cX11_part 56 = .ok (.if_icmp .le 5, 3) := by decide +kernel
theorem dX11_part_59 : decode cX11_part 59 = .ok (.iconst (-1), 1) := by decide +kernel
theorem dX11_part_60 : decode cX11_part 60 = .ok (.ireturn, 1) := by decide +kernel
theorem dX11_part_61 : decode cX11_part 61 = .ok (.iload 4, 2) := by decide +kernel
theorem dX11_part_63 : decode cX11_part 63 = .ok (.iload 5, 2) := by decide +kernel
theorem dX11_part_65 : decode cX11_part 65 = .ok (.iadd, 1) := by decide +kernel
theorem dX11_part_66 : decode cX11_part 66 = .ok (.iconst 1, 1) := by decide +kernel
theorem dX11_part_67 : decode cX11_part 67 = .ok (.isub, 1) := by decide +kernel
theorem dX11_part_68 : decode cX11_part 68 = .ok (.sipush 9999, 3) := by decide +kernel
theorem dX11_part_71 : decode cX11_part 71 = .ok (.invokestatic 214, 3) := by decide +kernel
theorem dX11_part_74 : decode cX11_part 74 = .ok (.istore 9, 2) := by decide +kernel
theorem dX11_part_76 : decode cX11_part 76 = .ok (.iload 4, 2) := by decide +kernel
theorem dX11_part_78 : decode cX11_part 78 = .ok (.istore 10, 2) := by decide +kernel
theorem dX11_part_80 : decode cX11_part 80 = .ok (.iload 10, 2) := by decide +kernel
theorem dX11_part_82 : decode cX11_part 82 = .ok (.iload 9, 2) := by decide +kernel
theorem dX11_part_84 : decode cX11_part 84 = .ok (.if_icmp .gt 31, 3) := by decide +kernel
theorem dX11_part_87 : decode cX11_part 87 = .ok (.aload 6, 2) := by decide +kernel
theorem dX11_part_89 : decode cX11_part 89 = .ok (.aload 7, 2) := by decide +kernel
theorem dX11_part_91 : decode cX11_part 91 = .ok (.aload 8, 2) := by decide +kernel
theorem dX11_part_93 : decode cX11_part 93 = .ok (.iload 10, 2) := by decide +kernel
theorem dX11_part_95 : decode cX11_part 95 = .ok (.invokestatic 219, 3) := by decide +kernel
theorem dX11_part_98 : decode cX11_part 98 = .ok (.istore 11, 2) := by decide +kernel
theorem dX11_part_100 : decode cX11_part 100 = .ok (.iload 11, 2) := by decide +kernel
theorem dX11_part_102 : decode cX11_part 102 = .ok (.iconst (-1), 1) := by decide +kernel
theorem dX11_part_103 : decode cX11_part 103 = .ok (.if_icmp .eq 6, 3) := by decide +kernel
theorem dX11_part_106 : decode cX11_part 106 = .ok (.iload 11, 2) := by decide +kernel
theorem dX11_part_108 : decode cX11_part 108 = .ok (.ireturn, 1) := by decide +kernel
theorem dX11_part_109 : decode cX11_part 109 = .ok (.iinc 10 1, 3) := by decide +kernel
theorem dX11_part_112 : decode cX11_part 112 = .ok (.goto (-32), 3) := by decide +kernel
theorem dX11_part_115 : decode cX11_part 115 = .ok (.iconst (-1), 1) := by decide +kernel
theorem dX11_part_116 : decode cX11_part 116 = .ok (.ireturn, 1) := by decide +kernel
theorem dX11_partInYear_0 : decode cX11_partInYear 0 = .ok (.iconst 1, 1) := by decide +kernel
theorem dX11_partInYear_1 : decode cX11_partInYear 1 = .ok (.istore 4, 2) := by decide +kernel
theorem dX11_partInYear_3 : decode cX11_partInYear 3 = .ok (.iload 4, 2) := by decide +kernel
theorem dX11_partInYear_5 : decode cX11_partInYear 5 = .ok (.bipush 12, 2) := by decide +kernel
theorem dX11_partInYear_7 : decode cX11_partInYear 7 = .ok (.if_icmp .gt 58, 3) := by decide +kernel
theorem dX11_partInYear_10 : decode cX11_partInYear 10 = .ok (.iconst 1, 1) := by decide +kernel
theorem dX11_partInYear_11 : decode cX11_partInYear 11 = .ok (.istore 5, 2) := by decide +kernel
theorem dX11_partInYear_13 : decode cX11_partInYear 13 = .ok (.iload 5, 2) := by decide +kernel
theorem dX11_partInYear_15 : decode cX11_partInYear 15 = .ok (.bipush 31, 2) := by decide +kernel
theorem dX11_partInYear_17 : decode cX11_partInYear 17 = .ok (.if_icmp .gt 42, 3) := by decide +kernel
theorem dX11_partInYear_20 : decode cX11_partInYear 20 = .ok (.aload_n 0, 1) := by decide +kernel
theorem dX11_partInYear_21 : decode cX11_partInYear 21 = .ok (.aload_n 2, 1) := by decide +kernel
theorem dX11_partInYear_22 : decode cX11_partInYear 22 = .ok (.iload_n 3, 1) := by decide +kernel
theorem dX11_partInYear_23 : decode cX11_partInYear 23 = .ok (.iload 4, 2) := by decide +kernel
theorem dX11_partInYear_25 : decode cX11_partInYear 25 = .ok (.iload 5, 2) := by decide +kernel
theorem dX11_partInYear_27 : decode cX11_partInYear 27 = .ok (.invokevirtual 191, 3) := by decide +kernel
theorem dX11_partInYear_30 : decode cX11_partInYear 30 = .ok (.aload_n 1, 1) := by decide +kernel
theorem dX11_partInYear_31 : decode cX11_partInYear 31 = .ok (.aload_n 2, 1) := by decide +kernel
theorem dX11_partInYear_32 : decode cX11_partInYear 32 = .ok (.iload_n 3, 1) := by decide +kernel
theorem dX11_partInYear_33 : decode cX11_partInYear 33 = .ok (.iload 4, 2) := by decide +kernel
theorem dX11_partInYear_35 : decode cX11_partInYear 35 = .ok (.iload 5, 2) := by decide +kernel
theorem dX11_partInYear_37 : decode cX11_partInYear 37 = .ok (.invokevirtual 191, 3) := by decide +kernel
theorem dX11_partInYear_40 : decode cX11_partInYear 40 = .ok (.if_icmp .eq 13, 3) := by decide +kernel
theorem dX11_partInYear_43 : decode cX11_partInYear 43 = .ok (.aload_n 2, 1) := by decide +kernel
theorem dX11_partInYear_44 : decode cX11_partInYear 44 = .ok (.iload_n 3, 1) := by decide +kernel
theorem dX11_partInYear_45 : decode cX11_partInYear 45 = .ok (.iload 4, 2) := by decide +kernel
theorem dX11_partInYear_47 : decode cX11_partInYear 47 = .ok (.iload 5, 2) := by decide +kernel
theorem dX11_partInYear_49 : decode cX11_partInYear 49 = .ok (.invokevirtual 177, 3) := by decide +kernel
theorem dX11_partInYear_52 : decode cX11_partInYear 52 = .ok (.ireturn, 1) := by decide +kernel
theorem dX11_partInYear_53 : decode cX11_partInYear 53 = .ok (.iinc 5 1, 3) := by decide +kernel
theorem dX11_partInYear_56 : decode cX11_partInYear 56 = .ok (.goto (-43), 3) := by decide +kernel
theorem dX11_partInYear_59 : decode cX11_partInYear 59 = .ok (.iinc 4 1, 3) := by decide +kernel
theorem dX11_partInYear_62 : decode cX11_partInYear 62 = .ok (.goto (-59), 3) := by decide +kernel
theorem dX11_partInYear_65 : decode cX11_partInYear 65 = .ok (.iconst (-1), 1) := by decide +kernel
theorem dX11_partInYear_66 : decode cX11_partInYear 66 = .ok (.ireturn, 1) := by decide +kernel
theorem dX11_least_0 : decode cX11_least 0 = .ok (.aload_n 0, 1) := by decide +kernel
theorem dX11_least_1 : decode cX11_least 1 = .ok (.iload_n 1, 1) := by decide +kernel
theorem dX11_least_2 : decode cX11_least 2 = .ok (.invokevirtual 187, 3) := by decide +kernel
theorem dX11_least_5 : decode cX11_least 5 = .ok (.astore 6, 2) := by decide +kernel
theorem dX11_least_7 : decode cX11_least 7 = .ok (.aload 6, 2) := by decide +kernel
theorem dX11_least_9 : decode cX11_least 9 = .ok (.ifnull 32, 3) := by decide +kernel
theorem dX11_least_12 : decode cX11_least 12 = .ok (.iload_n 2, 1) := by decide +kernel
theorem dX11_least_13 : decode cX11_least 13 = .ok (.invokestatic 161, 3) := by decide +kernel
theorem dX11_least_16 : decode cX11_least 16 = .ok (.ifCond .eq 25, 3) := by decide +kernel
theorem dX11_least_19 : decode cX11_least 19 = .ok (.iload_n 3, 1) := by decide +kernel
theorem dX11_least_20 : decode cX11_least 20 = .ok (.iconst 1, 1) := by decide +kernel
theorem dX11_least_21 : decode cX11_least 21 = .ok (.if_icmp .lt 20, 3) := by decide +kernel
theorem dX11_least_24 : decode cX11_least 24 = .ok (.iload_n 3, 1) := by decide +kernel
theorem dX11_least_25 : decode cX11_least 25 = .ok (.bipush 14, 2) := by decide +kernel
theorem dX11_least_27 : decode cX11_least 27 = .ok (.if_icmp .gt 14, 3) := by decide +kernel
theorem dX11_least_30 : decode cX11_least 30 = .ok (.iload_n 2, 1) := by decide +kernel
theorem dX11_least_31 : decode cX11_least 31 = .ok (.iload_n 3, 1) := by decide +kernel
theorem dX11_least_32 : decode cX11_least 32 = .ok (.iadd, 1) := by decide +kernel
theorem dX11_least_33 : decode cX11_least 33 = .ok (.iconst 1, 1) := by decide +kernel
theorem dX11_least_34 : decode cX11_least 34 = .ok (.isub, 1) := by decide +kernel
theorem dX11_least_35 : decode cX11_least 35 = .ok (.sipush 9999, 3) := by decide +kernel
theorem dX11_least_38 : decode cX11_least 38 = .ok (.if_icmp .le 5, 3) := by decide +kernel
theorem dX11_least_41 : decode cX11_least 41 = .ok (.iconst (-1), 1) := by decide +kernel
theorem dX11_least_42 : decode cX11_least 42 = .ok (.ireturn, 1) := by decide +kernel
theorem dX11_least_43 : decode cX11_least 43 = .ok (.iload 4, 2) := by decide +kernel
theorem dX11_least_45 : decode cX11_least 45 = .ok (.ifCond .lt 22, 3) := by decide +kernel
theorem dX11_least_48 : decode cX11_least 48 = .ok (.iload 4, 2) := by decide +kernel
theorem dX11_least_50 : decode cX11_least 50 = .ok (.sipush 999, 3) := by decide +kernel
theorem dX11_least_53 : decode cX11_least 53 = .ok (.if_icmp .gt 14, 3) := by decide +kernel
theorem dX11_least_56 : decode cX11_least 56 = .ok (.iload 5, 2) := by decide +kernel
theorem dX11_least_58 : decode cX11_least 58 = .ok (.ifCond .lt 9, 3) := by decide +kernel
theorem dX11_least_61 : decode cX11_least 61 = .ok (.iload 5, 2) := by decide +kernel
theorem dX11_least_63 : decode cX11_least 63 = .ok (.iconst 1, 1) := by decide +kernel
theorem dX11_least_64 : decode cX11_least 64 = .ok (.if_icmp .le 5, 3) := by decide +kernel
theorem dX11_least_67 : decode cX11_least 67 = .ok (.iconst (-1), 1) := by decide +kernel
theorem dX11_least_68 : decode cX11_least 68 = .ok (.ireturn, 1) := by decide +kernel
theorem dX11_least_69 : decode cX11_least 69 = .ok (.aload_n 0, 1) := by decide +kernel
theorem dX11_least_70 : decode cX11_least 70 = .ok (.aload 6, 2) := by decide +kernel
theorem dX11_least_72 : decode cX11_least 72 = .ok (.iload_n 2, 1) := by decide +kernel
theorem dX11_least_73 : decode cX11_least 73 = .ok (.iload_n 3, 1) := by decide +kernel
theorem dX11_least_74 : decode cX11_least 74 = .ok (.iload 4, 2) := by decide +kernel
theorem dX11_least_76 : decode cX11_least 76 = .ok (.invokevirtual 223, 3) := by decide +kernel
theorem dX11_least_79 : decode cX11_least 79 = .ok (.invokestatic 227, 3) := by decide +kernel
theorem dX11_least_82 : decode cX11_least 82 = .ok (.istore 7, 2) := by decide +kernel
theorem dX11_least_84 : decode cX11_least 84 = .ok (.iload 5, 2) := by decide +kernel
theorem dX11_least_86 : decode cX11_least 86 = .ok (.ifCond .ne 11, 3) := by decide +kernel
theorem dX11_least_89 : decode cX11_least 89 = .ok (.iload 7, 2) := by decide +kernel
theorem dX11_least_91 : decode cX11_least 91 = .ok (.invokestatic 231, 3) := by decide +kernel
theorem dX11_least_94 : decode cX11_least 94 = .ok (.goto 9, 3) := by decide +kernel
theorem dX11_least_97 : decode cX11_least 97 = .ok (.iload 7, 2) := by decide +kernel
theorem dX11_least_99 : decode cX11_least 99 = .ok (.iload_n 3, 1) := by decide +kernel
theorem dX11_least_100 : decode cX11_least 100 = .ok (.invokestatic 236, 3) := by decide +kernel
theorem dX11_least_103 : decode cX11_least 103 = .ok (.ireturn, 1) := by decide +kernel
theorem dX11_reachedFrom_0 : decode cX11_reachedFrom 0 = .ok (.iload_n 3, 1) := by decide +kernel
theorem dX11_reachedFrom_1 : decode cX11_reachedFrom 1 = .ok (.newarray .int, 2) := by decide +kernel
theorem dX11_reachedFrom_3 : decode cX11_reachedFrom 3 = .ok (.astore 5, 2) := by decide +kernel
theorem dX11_reachedFrom_5 : decode cX11_reachedFrom 5 = .ok (.aload_n 0, 1) := by decide +kernel
theorem dX11_reachedFrom_6 : decode cX11_reachedFrom 6 = .ok (.getfield 97, 3) := by decide +kernel
theorem dX11_reachedFrom_9 : decode cX11_reachedFrom 9 = .ok (.ifnonnull 6, 3) := by decide +kernel
theorem dX11_reachedFrom_12 : decode cX11_reachedFrom 12 = .ok (.aload 5, 2) := by decide +kernel
theorem dX11_reachedFrom_14 : decode cX11_reachedFrom 14 = .ok (.areturn, 1) := by decide +kernel
theorem dX11_reachedFrom_15 : decode cX11_reachedFrom 15 = .ok (.aload_n 0, 1) := by decide +kernel
theorem dX11_reachedFrom_16 : decode cX11_reachedFrom 16 = .ok (.getfield 239, 3) := by decide +kernel
theorem dX11_reachedFrom_19 : decode cX11_reachedFrom 19 = .ok (.ifnonnull 17, 3) := by decide +kernel
theorem dX11_reachedFrom_22 : decode cX11_reachedFrom 22 = .ok (.aload_n 0, 1) := by decide +kernel
theorem dX11_reachedFrom_23 : decode cX11_reachedFrom 23 = .ok (.new 200, 3) := by decide +kernel
theorem dX11_reachedFrom_26 : decode cX11_reachedFrom 26 = .ok (.dup, 1) := by decide +kernel
theorem dX11_reachedFrom_27 : decode cX11_reachedFrom 27 = .ok (.sipush 10000, 3) := by decide +kernel
theorem dX11_reachedFrom_30 : decode cX11_reachedFrom 30 = .ok (.invokespecial 242, 3) := by decide +kernel
theorem dX11_reachedFrom_33 : decode cX11_reachedFrom 33 = .ok (.putfield 239, 3) := by decide +kernel
theorem dX11_reachedFrom_36 : decode cX11_reachedFrom 36 = .ok (.iload_n 2, 1) := by decide +kernel
theorem dX11_reachedFrom_37 : decode cX11_reachedFrom 37 = .ok (.iload_n 3, 1) := by decide +kernel
theorem dX11_reachedFrom_38 : decode cX11_reachedFrom 38 = .ok (.iadd, 1) := by decide +kernel
theorem dX11_reachedFrom_39 : decode cX11_reachedFrom 39 = .ok (.iconst 1, 1) := by decide +kernel
theorem dX11_reachedFrom_40 : decode cX11_reachedFrom 40 = .ok (.isub, 1) := by decide +kernel
theorem dX11_reachedFrom_41 : decode cX11_reachedFrom 41 = .ok (.istore 6, 2) := by decide +kernel
theorem dX11_reachedFrom_43 : decode cX11_reachedFrom 43 = .ok (.iload_n 3, 1) := by decide +kernel
theorem dX11_reachedFrom_44 : decode cX11_reachedFrom 44 = .ok (.iconst 1, 1) := by decide +kernel
theorem dX11_reachedFrom_45 : decode cX11_reachedFrom 45 = .ok (.isub, 1) := by decide +kernel
theorem dX11_reachedFrom_46 : decode cX11_reachedFrom 46 = .ok (.istore 7, 2) := by decide +kernel
theorem dX11_reachedFrom_48 : decode cX11_reachedFrom 48 = .ok (.iload 7, 2) := by decide +kernel
theorem dX11_reachedFrom_50 : decode cX11_reachedFrom 50 = .ok (.ifCond .lt 125, 3) := by decide +kernel
theorem dX11_reachedFrom_53 : decode cX11_reachedFrom 53 = .ok (.aload 5, 2) := by decide +kernel
theorem dX11_reachedFrom_55 : decode cX11_reachedFrom 55 = .ok (.iload 7, 2) := by decide +kernel
theorem dX11_reachedFrom_57 : decode cX11_reachedFrom 57 = .ok (.dup2, 1) := by decide +kernel
theorem dX11_reachedFrom_58 : decode cX11_reachedFrom 58 = .ok (.iaload, 1) := by decide +kernel
theorem dX11_reachedFrom_59 : decode cX11_reachedFrom 59 = .ok (.iconst 1, 1) := by decide +kernel
theorem dX11_reachedFrom_60 : decode cX11_reachedFrom 60 = .ok (.iload 7, 2) := by decide +kernel
theorem dX11_reachedFrom_62 : decode cX11_reachedFrom 62 = .ok (.ishl, 1) := by decide +kernel
theorem dX11_reachedFrom_63 : decode cX11_reachedFrom 63 = .ok (.ior, 1) := by decide +kernel
theorem dX11_reachedFrom_64 : decode cX11_reachedFrom 64 = .ok (.iastore, 1) := by decide +kernel
theorem dX11_reachedFrom_65 : decode cX11_reachedFrom 65 = .ok (.aload_n 0, 1) := by decide +kernel
theorem dX11_reachedFrom_66 : decode cX11_reachedFrom 66 = .ok (.getfield 239, 3) := by decide +kernel
theorem dX11_reachedFrom_69 : decode cX11_reachedFrom 69 = .ok (.aload_n 1, 1) := by decide +kernel
theorem dX11_reachedFrom_70 : decode cX11_reachedFrom 70 = .ok (.getfield 243, 3) := by decide +kernel
theorem dX11_reachedFrom_73 : decode cX11_reachedFrom 73 = .ok (.aload_n 0, 1) := by decide +kernel
theorem dX11_reachedFrom_74 : decode cX11_reachedFrom 74 = .ok (.getfield 97, 3) := by decide +kernel
theorem dX11_reachedFrom_77 : decode cX11_reachedFrom 77 = .ok (.iload 6, 2) := by decide +kernel
theorem dX11_reachedFrom_79 : decode cX11_reachedFrom 79 = .ok (.iload 7, 2) := by decide +kernel
theorem dX11_reachedFrom_81 : decode cX11_reachedFrom 81 = .ok (.isub, 1) := by decide +kernel
theorem dX11_reachedFrom_82 : decode cX11_reachedFrom 82 = .ok (.iload 6, 2) := by decide +kernel
theorem dX11_reachedFrom_84 : decode cX11_reachedFrom 84 = .ok (.iload 4, 2) := by decide +kernel
theorem dX11_reachedFrom_86 : decode cX11_reachedFrom 86 = .ok (.invokevirtual 247, 3) := by decide +kernel
theorem dX11_reachedFrom_89 : decode cX11_reachedFrom 89 = .ok (.istore 8, 2) := by decide +kernel
theorem dX11_reachedFrom_91 : decode cX11_reachedFrom 91 = .ok (.iload 7, 2) := by decide +kernel
theorem dX11_reachedFrom_93 : decode cX11_reachedFrom 93 = .ok (.iconst 1, 1) := by decide +kernel
theorem dX11_reachedFrom_94 : decode cX11_reachedFrom 94 = .ok (.isub, 1) := by decide +kernel
theorem dX11_reachedFrom_95 : decode cX11_reachedFrom 95 = .ok (.istore 9, 2) := by decide +kernel
theorem dX11_reachedFrom_97 : decode cX11_reachedFrom 97 = .ok (.iload 9, 2) := by decide +kernel
theorem dX11_reachedFrom_99 : decode cX11_reachedFrom 99 = .ok (.ifCond .lt 70, 3) := by decide +kernel
theorem dX11_reachedFrom_102 : decode cX11_reachedFrom 102 = .ok (.iload 6, 2) := by decide +kernel
theorem dX11_reachedFrom_104 : decode cX11_reachedFrom 104 = .ok (.iload 9, 2) := by decide +kernel
theorem dX11_reachedFrom_106 : decode cX11_reachedFrom 106 = .ok (.isub, 1) := by decide +kernel
theorem dX11_reachedFrom_107 : decode cX11_reachedFrom 107 = .ok (.iload 8, 2) := by decide +kernel
theorem dX11_reachedFrom_109 : decode cX11_reachedFrom 109 = .ok (.if_icmp .gt 60, 3) := by decide +kernel
theorem dX11_reachedFrom_112 : decode cX11_reachedFrom 112 = .ok (.aload_n 0, 1) := by decide +kernel
theorem dX11_reachedFrom_113 : decode cX11_reachedFrom 113 = .ok (.getfield 239, 3) := by decide +kernel
theorem dX11_reachedFrom_116 : decode cX11_reachedFrom 116 = .ok (.iload 6, 2) := by decide +kernel
theorem dX11_reachedFrom_118 : decode cX11_reachedFrom 118 = .ok (.iload 9, 2) := by decide +kernel
theorem dX11_reachedFrom_120 : decode cX11_reachedFrom 120 = .ok (.isub, 1) := by decide +kernel
theorem dX11_reachedFrom_121 : decode cX11_reachedFrom 121 = .ok (.invokevirtual 251, 3) := by decide +kernel
theorem dX11_reachedFrom_124 : decode cX11_reachedFrom 124 = .ok (.istore 10, 2) := by decide +kernel
theorem dX11_reachedFrom_126 : decode cX11_reachedFrom 126 = .ok (.iload 10, 2) := by decide +kernel
theorem dX11_reachedFrom_128 : decode cX11_reachedFrom 128 = .ok (.iconst (-1), 1) := by decide +kernel
theorem dX11_reachedFrom_129 : decode cX11_reachedFrom 129 = .ok (.if_icmp .eq 34, 3) := by decide +kernel
theorem dX11_reachedFrom_132 : decode cX11_reachedFrom 132 = .ok (.iload 10, 2) := by decide +kernel
theorem dX11_reachedFrom_134 : decode cX11_reachedFrom 134 = .ok (.iload 4, 2) := by decide +kernel
theorem dX11_reachedFrom_136 : decode cX11_reachedFrom 136 = .ok (.if_icmp .gt 27, 3) := by decide +kernel
theorem dX11_reachedFrom_139 : decode cX11_reachedFrom 139 = .ok (.aload 5, 2) := by decide +kernel
theorem dX11_reachedFrom_141 : decode cX11_reachedFrom 141 = .ok (.iload 7, 2) := by decide +kernel
theorem dX11_reachedFrom_143 : decode cX11_reachedFrom 143 = .ok (.dup2, 1) := by decide +kernel
theorem dX11_reachedFrom_144 : decode cX11_reachedFrom 144 = .ok (.iaload, 1) := by decide +kernel
theorem dX11_reachedFrom_145 : decode cX11_reachedFrom 145 = .ok (.iconst 1, 1) := by decide +kernel
theorem dX11_reachedFrom_146 : decode cX11_reachedFrom 146 = .ok (.iload 9, 2) := by decide +kernel
theorem dX11_reachedFrom_148 : decode cX11_reachedFrom 148 = .ok (.ishl, 1) := by decide +kernel
theorem dX11_reachedFrom_149 : decode cX11_reachedFrom 149 = .ok (.ior, 1) := by decide +kernel
theorem dX11_reachedFrom_150 : decode cX11_reachedFrom 150 = .ok (.iastore, 1) := by decide +kernel
theorem dX11_reachedFrom_151 : decode cX11_reachedFrom 151 = .ok (.aload 5, 2) := by decide +kernel
theorem dX11_reachedFrom_153 : decode cX11_reachedFrom 153 = .ok (.iload 9, 2) := by decide +kernel
theorem dX11_reachedFrom_155 : decode cX11_reachedFrom 155 = .ok (.dup2, 1) := by decide +kernel
theorem dX11_reachedFrom_156 : decode cX11_reachedFrom 156 = .ok (.iaload, 1) := by decide +kernel
theorem dX11_reachedFrom_157 : decode cX11_reachedFrom 157 = .ok (.iconst 1, 1) := by decide +kernel
theorem dX11_reachedFrom_158 : decode cX11_reachedFrom 158 = .ok (.iload 7, 2) := by decide +kernel
theorem dX11_reachedFrom_160 : decode cX11_reachedFrom 160 = .ok (.ishl, 1) := by decide +kernel
theorem dX11_reachedFrom_161 : decode cX11_reachedFrom 161 = .ok (.ior, 1) := by decide +kernel
theorem dX11_reachedFrom_162 : decode cX11_reachedFrom 162 = .ok (.iastore, 1) := by decide +kernel
theorem dX11_reachedFrom_163 : decode cX11_reachedFrom 163 = .ok (.iinc 9 (-1), 3) := by decide +kernel
theorem dX11_reachedFrom_166 : decode cX11_reachedFrom 166 = .ok (.goto (-69), 3) := by decide +kernel
theorem dX11_reachedFrom_169 : decode cX11_reachedFrom 169 = .ok (.iinc 7 (-1), 3) := by decide +kernel
theorem dX11_reachedFrom_172 : decode cX11_reachedFrom 172 = .ok (.goto (-124), 3) := by decide +kernel
theorem dX11_reachedFrom_175 : decode cX11_reachedFrom 175 = .ok (.aload 5, 2) := by decide +kernel
theorem dX11_reachedFrom_177 : decode cX11_reachedFrom 177 = .ok (.areturn, 1) := by decide +kernel
theorem dX11_fewestReaching_0 : decode cX11_fewestReaching 0 = .ok (.iconst 1, 1) := by decide +kernel
theorem dX11_fewestReaching_1 : decode cX11_fewestReaching 1 = .ok (.aload_n 0, 1) := by decide +kernel
theorem dX11_fewestReaching_2 : decode cX11_fewestReaching 2 = .ok (.arraylength, 1) := by decide +kernel
theorem dX11_fewestReaching_3 : decode cX11_fewestReaching 3 = .ok (.ishl, 1) := by decide +kernel
theorem dX11_fewestReaching_4 : decode cX11_fewestReaching 4 = .ok (.iconst 1, 1) := by decide +kernel
theorem dX11_fewestReaching_5 : decode cX11_fewestReaching 5 = .ok (.isub, 1) := by decide +kernel
theorem dX11_fewestReaching_6 : decode cX11_fewestReaching 6 = .ok (.istore_n 1, 1) := by decide +kernel
theorem dX11_fewestReaching_7 : decode cX11_fewestReaching 7 = .ok (.aload_n 0, 1) := by decide +kernel
theorem dX11_fewestReaching_8 : decode cX11_fewestReaching 8 = .ok (.invokestatic 254, 3) := by decide +kernel
theorem dX11_fewestReaching_11 : decode cX11_fewestReaching 11 = .ok (.istore_n 2, 1) := by decide +kernel
theorem dX11_fewestReaching_12 : decode cX11_fewestReaching 12 = .ok (.iload_n 1, 1) := by decide +kernel
theorem dX11_fewestReaching_13 : decode cX11_fewestReaching 13 = .ok (.istore_n 3, 1) := by decide +kernel
theorem dX11_fewestReaching_14 : decode cX11_fewestReaching 14 = .ok (.iload_n 1, 1) := by decide +kernel
theorem dX11_fewestReaching_15 : decode cX11_fewestReaching 15 = .ok (.istore 4, 2) := by decide +kernel
theorem dX11_fewestReaching_17 : decode cX11_fewestReaching 17 = .ok (.iload 4, 2) := by decide +kernel
theorem dX11_fewestReaching_19 : decode cX11_fewestReaching 19 = .ok (.ifCond .le 42, 3) := by decide +kernel
theorem dX11_fewestReaching_22 : decode cX11_fewestReaching 22 = .ok (.iload 4, 2) := by decide +kernel
theorem dX11_fewestReaching_24 : decode cX11_fewestReaching 24 = .ok (.iload_n 2, 1) := by decide +kernel
theorem dX11_fewestReaching_25 : decode cX11_fewestReaching 25 = .ok (.iand, 1) := by decide +kernel
theorem dX11_fewestReaching_26 : decode cX11_fewestReaching 26 = .ok (.iload_n 2, 1) := by decide +kernel
theorem dX11_fewestReaching_27 : decode cX11_fewestReaching 27 = .ok (.if_icmp .ne 28, 3) := by decide +kernel
theorem dX11_fewestReaching_30 : decode cX11_fewestReaching 30 = .ok (.iload 4, 2) := by decide +kernel
theorem dX11_fewestReaching_32 : decode cX11_fewestReaching 32 = .ok (.invokestatic 231, 3) := by decide +kernel
theorem dX11_fewestReaching_35 : decode cX11_fewestReaching 35 = .ok (.iload_n 3, 1) := by decide +kernel
theorem dX11_fewestReaching_36 : decode cX11_fewestReaching 36 = .ok (.invokestatic 231, 3) := by decide +kernel
theorem dX11_fewestReaching_39 : decode cX11_fewestReaching 39 = .ok (.if_icmp .ge 16, 3) := by decide +kernel
theorem dX11_fewestReaching_42 : decode cX11_fewestReaching 42 = .ok (.aload_n 0, 1) := by decide +kernel
theorem dX11_fewestReaching_43 : decode cX11_fewestReaching 43 = .ok (.iload 4, 2) := by decide +kernel
theorem dX11_fewestReaching_45 : decode cX11_fewestReaching 45 = .ok (.invokestatic 257, 3) := by decide +kernel
theorem dX11_fewestReaching_48 : decode cX11_fewestReaching 48 = .ok (.iload_n 1, 1) := by decide +kernel
theorem dX11_fewestReaching_49 : decode cX11_fewestReaching 49 = .ok (.if_icmp .ne 6, 3) := by decide +kernel
theorem dX11_fewestReaching_52 : decode cX11_fewestReaching 52 = .ok (.iload 4, 2) := by decide +kernel
theorem dX11_fewestReaching_54 : decode cX11_fewestReaching 54 = .ok (.istore_n 3, 1) := by decide +kernel
theorem dX11_fewestReaching_55 : decode cX11_fewestReaching 55 = .ok (.iinc 4 (-1), 3) := by decide +kernel
theorem dX11_fewestReaching_58 : decode cX11_fewestReaching 58 = .ok (.goto (-41), 3) := by decide +kernel
theorem dX11_fewestReaching_61 : decode cX11_fewestReaching 61 = .ok (.iload_n 3, 1) := by decide +kernel
theorem dX11_fewestReaching_62 : decode cX11_fewestReaching 62 = .ok (.ireturn, 1) := by decide +kernel
theorem dX11_loneOf_0 : decode cX11_loneOf 0 = .ok (.iconst 0, 1) := by decide +kernel
theorem dX11_loneOf_1 : decode cX11_loneOf 1 = .ok (.istore_n 1, 1) := by decide +kernel
theorem dX11_loneOf_2 : decode cX11_loneOf 2 = .ok (.iconst 0, 1) := by decide +kernel
theorem dX11_loneOf_3 : decode cX11_loneOf 3 = .ok (.istore_n 2, 1) := by decide +kernel
theorem dX11_loneOf_4 : decode cX11_loneOf 4 = .ok (.iload_n 2, 1) := by decide +kernel
theorem dX11_loneOf_5 : decode cX11_loneOf 5 = .ok (.aload_n 0, 1) := by decide +kernel
theorem dX11_loneOf_6 : decode cX11_loneOf 6 = .ok (.arraylength, 1) := by decide +kernel
theorem dX11_loneOf_7 : decode cX11_loneOf 7 = .ok (.if_icmp .ge 24, 3) := by decide +kernel
theorem dX11_loneOf_10 : decode cX11_loneOf 10 = .ok (.aload_n 0, 1) := by decide +kernel
theorem dX11_loneOf_11 : decode cX11_loneOf 11 = .ok (.iload_n 2, 1) := by decide +kernel
theorem dX11_loneOf_12 : decode cX11_loneOf 12 = .ok (.iaload, 1) := by decide +kernel
theorem dX11_loneOf_13 : decode cX11_loneOf 13 = .ok (.iconst 1, 1) := by decide +kernel
theorem dX11_loneOf_14 : decode cX11_loneOf 14 = .ok (.iload_n 2, 1) := by decide +kernel
theorem dX11_loneOf_15 : decode cX11_loneOf 15 = .ok (.ishl, 1) := by decide +kernel
theorem dX11_loneOf_16 : decode cX11_loneOf 16 = .ok (.if_icmp .ne 9, 3) := by decide +kernel
theorem dX11_loneOf_19 : decode cX11_loneOf 19 = .ok (.iload_n 1, 1) := by decide +kernel
theorem dX11_loneOf_20 : decode cX11_loneOf 20 = .ok (.iconst 1, 1) := by decide +kernel
theorem dX11_loneOf_21 : decode cX11_loneOf 21 = .ok (.iload_n 2, 1) := by decide +kernel
theorem dX11_loneOf_22 : decode cX11_loneOf 22 = .ok (.ishl, 1) := by decide +kernel
theorem dX11_loneOf_23 : decode cX11_loneOf 23 = .ok (.ior, 1) := by decide +kernel
theorem dX11_loneOf_24 : decode cX11_loneOf 24 = .ok (.istore_n 1, 1) := by decide +kernel
theorem dX11_loneOf_25 : decode cX11_loneOf 25 = .ok (.iinc 2 1, 3) := by decide +kernel
theorem dX11_loneOf_28 : decode cX11_loneOf 28 = .ok (.goto (-24), 3) := by decide +kernel
theorem dX11_loneOf_31 : decode cX11_loneOf 31 = .ok (.iload_n 1, 1) := by decide +kernel
theorem dX11_loneOf_32 : decode cX11_loneOf 32 = .ok (.ireturn, 1) := by decide +kernel
theorem dX11_unionOf_0 : decode cX11_unionOf 0 = .ok (.iconst 0, 1) := by decide +kernel
theorem dX11_unionOf_1 : decode cX11_unionOf 1 = .ok (.istore_n 2, 1) := by decide +kernel
theorem dX11_unionOf_2 : decode cX11_unionOf 2 = .ok (.iconst 0, 1) := by decide +kernel
theorem dX11_unionOf_3 : decode cX11_unionOf 3 = .ok (.istore_n 3, 1) := by decide +kernel
theorem dX11_unionOf_4 : decode cX11_unionOf 4 = .ok (.iload_n 3, 1) := by decide +kernel
theorem dX11_unionOf_5 : decode cX11_unionOf 5 = .ok (.aload_n 0, 1) := by decide +kernel
theorem dX11_unionOf_6 : decode cX11_unionOf 6 = .ok (.arraylength, 1) := by decide +kernel
theorem dX11_unionOf_7 : decode cX11_unionOf 7 = .ok (.if_icmp .ge 24, 3) := by decide +kernel
theorem dX11_unionOf_10 : decode cX11_unionOf 10 = .ok (.iload_n 1, 1) := by decide +kernel
theorem dX11_unionOf_11 : decode cX11_unionOf 11 = .ok (.iload_n 3, 1) := by decide +kernel
theorem dX11_unionOf_12 : decode cX11_unionOf 12 = .ok (.ishr, 1) := by decide +kernel
theorem dX11_unionOf_13 : decode cX11_unionOf 13 = .ok (.iconst 1, 1) := by decide +kernel
theorem dX11_unionOf_14 : decode cX11_unionOf 14 = .ok (.iand, 1) := by decide +kernel
theorem dX11_unionOf_15 : decode cX11_unionOf 15 = .ok (.iconst 1, 1) := by decide +kernel
theorem dX11_unionOf_16 : decode cX11_unionOf 16 = .ok (.if_icmp .ne 9, 3) := by decide +kernel
theorem dX11_unionOf_19 : decode cX11_unionOf 19 = .ok (.iload_n 2, 1) := by decide +kernel
theorem dX11_unionOf_20 : decode cX11_unionOf 20 = .ok (.aload_n 0, 1) := by decide +kernel
theorem dX11_unionOf_21 : decode cX11_unionOf 21 = .ok (.iload_n 3, 1) := by decide +kernel
theorem dX11_unionOf_22 : decode cX11_unionOf 22 = .ok (.iaload, 1) := by decide +kernel
theorem dX11_unionOf_23 : decode cX11_unionOf 23 = .ok (.ior, 1) := by decide +kernel
theorem dX11_unionOf_24 : decode cX11_unionOf 24 = .ok (.istore_n 2, 1) := by decide +kernel
theorem dX11_unionOf_25 : decode cX11_unionOf 25 = .ok (.iinc 3 1, 3) := by decide +kernel
theorem dX11_unionOf_28 : decode cX11_unionOf 28 = .ok (.goto (-24), 3) := by decide +kernel
theorem dX11_unionOf_31 : decode cX11_unionOf 31 = .ok (.iload_n 2, 1) := by decide +kernel
theorem dX11_unionOf_32 : decode cX11_unionOf 32 = .ok (.ireturn, 1) := by decide +kernel
theorem dX11_mirrorOf_0 : decode cX11_mirrorOf 0 = .ok (.iconst 0, 1) := by decide +kernel
theorem dX11_mirrorOf_1 : decode cX11_mirrorOf 1 = .ok (.istore_n 2, 1) := by decide +kernel
theorem dX11_mirrorOf_2 : decode cX11_mirrorOf 2 = .ok (.iconst 0, 1) := by decide +kernel
theorem dX11_mirrorOf_3 : decode cX11_mirrorOf 3 = .ok (.istore_n 3, 1) := by decide +kernel
theorem dX11_mirrorOf_4 : decode cX11_mirrorOf 4 = .ok (.iload_n 3, 1) := by decide +kernel
theorem dX11_mirrorOf_5 : decode cX11_mirrorOf 5 = .ok (.iload_n 1, 1) := by decide +kernel
theorem dX11_mirrorOf_6 : decode cX11_mirrorOf 6 = .ok (.if_icmp .ge 19, 3) := by decide +kernel
theorem dX11_mirrorOf_9 : decode cX11_mirrorOf 9 = .ok (.iload_n 2, 1) := by decide +kernel
theorem dX11_mirrorOf_10 : decode cX11_mirrorOf 10 = .ok (.iconst 1, 1) := by decide +kernel
theorem dX11_mirrorOf_11 : decode cX11_mirrorOf 11 = .ok (.ishl, 1) := by decide +kernel
theorem dX11_mirrorOf_12 : decode cX11_mirrorOf 12 = .ok (.iload_n 0, 1) := by decide +kernel
theorem dX11_mirrorOf_13 : decode cX11_mirrorOf 13 = .ok (.iload_n 3, 1) := by decide +kernel
theorem dX11_mirrorOf_14 : decode cX11_mirrorOf 14 = .ok (.ishr, 1) := by decide +kernel
theorem dX11_mirrorOf_15 : decode cX11_mirrorOf 15 = .ok (.iconst 1, 1) := by decide +kernel
theorem dX11_mirrorOf_16 : decode cX11_mirrorOf 16 = .ok (.iand, 1) := by decide +kernel
theorem dX11_mirrorOf_17 : decode cX11_mirrorOf 17 = .ok (.ior, 1) := by decide +kernel
theorem dX11_mirrorOf_18 : decode cX11_mirrorOf 18 = .ok (.istore_n 2, 1) := by decide +kernel
theorem dX11_mirrorOf_19 : decode cX11_mirrorOf 19 = .ok (.iinc 3 1, 3) := by decide +kernel
theorem dX11_mirrorOf_22 : decode cX11_mirrorOf 22 = .ok (.goto (-18), 3) := by decide +kernel
theorem dX11_mirrorOf_25 : decode cX11_mirrorOf 25 = .ok (.iload_n 2, 1) := by decide +kernel
theorem dX11_mirrorOf_26 : decode cX11_mirrorOf 26 = .ok (.ireturn, 1) := by decide +kernel
theorem dX11_row_0 : decode cX11_row 0 = .ok (.aload_n 0, 1) := by decide +kernel
theorem dX11_row_1 : decode cX11_row 1 = .ok (.iload_n 1, 1) := by decide +kernel
theorem dX11_row_2 : decode cX11_row 2 = .ok (.invokevirtual 187, 3) := by decide +kernel
theorem dX11_row_5 : decode cX11_row 5 = .ok (.astore 4, 2) := by decide +kernel
theorem dX11_row_7 : decode cX11_row 7 = .ok (.aload_n 0, 1) := by decide +kernel
theorem dX11_row_8 : decode cX11_row 8 = .ok (.iload_n 2, 1) := by decide +kernel
theorem dX11_row_9 : decode cX11_row 9 = .ok (.invokevirtual 151, 3) := by decide +kernel
theorem dX11_row_12 : decode cX11_row 12 = .ok (.astore 5, 2) := by decide +kernel
theorem dX11_row_14 : decode cX11_row 14 = .ok (.aload 4, 2) := by decide +kernel
theorem dX11_row_16 : decode cX11_row 16 = .ok (.ifnull 36, 3) := by decide +kernel
theorem dX11_row_19 : decode cX11_row 19 = .ok (.aload 5, 2) := by decide +kernel
theorem dX11_row_21 : decode cX11_row 21 = .ok (.ifnull 31, 3) := by decide +kernel
theorem dX11_row_24 : decode cX11_row 24 = .ok (.aload_n 0, 1) := by decide +kernel
theorem dX11_row_25 : decode cX11_row 25 = .ok (.getfield 109, 3) := by decide +kernel
theorem dX11_row_28 : decode cX11_row 28 = .ok (.ifnull 24, 3) := by decide +kernel
theorem dX11_row_31 : decode cX11_row 31 = .ok (.iload_n 3, 1) := by decide +kernel
theorem dX11_row_32 : decode cX11_row 32 = .ok (.ifCond .lt 20, 3) := by decide +kernel
theorem dX11_row_35 : decode cX11_row 35 = .ok (.iload_n 3, 1) := by decide +kernel
theorem dX11_row_36 : decode cX11_row 36 = .ok (.aload_n 0, 1) := by decide +kernel
theorem dX11_row_37 : decode cX11_row 37 = .ok (.getfield 112, 3) := by decide +kernel
theorem dX11_row_40 : decode cX11_row 40 = .ok (.if_icmp .ge 12, 3) := by decide +kernel
theorem dX11_row_43 : decode cX11_row 43 = .ok (.iload_n 3, 1) := by decide +kernel
theorem dX11_row_44 : decode cX11_row 44 = .ok (.aload_n 0, 1) := by decide +kernel
theorem dX11_row_45 : decode cX11_row 45 = .ok (.getfield 109, 3) := by decide +kernel
theorem dX11_row_48 : decode cX11_row 48 = .ok (.arraylength, 1) := by decide +kernel
theorem dX11_row_49 : decode cX11_row 49 = .ok (.if_icmp .lt 5, 3) := by decide +kernel
theorem dX11_row_52 : decode cX11_row 52 = .ok (.iconst (-1), 1) := by decide +kernel
theorem dX11_row_53 : decode cX11_row 53 = .ok (.ireturn, 1) := by decide +kernel
theorem dX11_row_54 : decode cX11_row 54 = .ok (.iconst 0, 1) := by decide +kernel
theorem dX11_row_55 : decode cX11_row 55 = .ok (.istore 6, 2) := by decide +kernel
theorem dX11_row_57 : decode cX11_row 57 = .ok (.bipush 8, 2) := by decide +kernel
theorem dX11_row_59 : decode cX11_row 59 = .ok (.istore 7, 2) := by decide +kernel
theorem dX11_row_61 : decode cX11_row 61 = .ok (.iconst 0, 1) := by decide +kernel
theorem dX11_row_62 : decode cX11_row 62 = .ok (.istore 8, 2) := by decide +kernel
theorem dX11_row_64 : decode cX11_row 64 = .ok (.iload 8, 2) := by decide +kernel
theorem dX11_row_66 : decode cX11_row 66 = .ok (.iload_n 3, 1) := by decide +kernel
theorem dX11_row_67 : decode cX11_row 67 = .ok (.if_icmp .gt 51, 3) := by decide +kernel
theorem dX11_row_70 : decode cX11_row 70 = .ok (.iload 6, 2) := by decide +kernel
theorem dX11_row_72 : decode cX11_row 72 = .ok (.iconst 3, 1) := by decide +kernel
theorem dX11_row_73 : decode cX11_row 73 = .ok (.if_icmp .lt 6, 3) := by decide +kernel
theorem dX11_row_76 : decode cX11_row 76 = .ok (.bipush 8, 2) := by decide +kernel
theorem dX11_row_78 : decode cX11_row 78 = .ok (.ireturn, 1) := by decide +kernel
theorem dX11_row_79 : decode cX11_row 79 = .ok (.aload 4, 2) := by decide +kernel
theorem dX11_row_81 : decode cX11_row 81 = .ok (.aload 5, 2) := by decide +kernel
theorem dX11_row_83 : decode cX11_row 83 = .ok (.aload_n 0, 1) := by decide +kernel
theorem dX11_row_84 : decode cX11_row 84 = .ok (.getfield 109, 3) := by decide +kernel
theorem dX11_row_87 : decode cX11_row 87 = .ok (.iload 8, 2) := by decide +kernel
theorem dX11_row_89 : decode cX11_row 89 = .ok (.iaload, 1) := by decide +kernel
theorem dX11_row_90 : decode cX11_row 90 = .ok (.invokevirtual 261, 3) := by decide +kernel
theorem dX11_row_93 : decode cX11_row 93 = .ok (.istore 7, 2) := by decide +kernel
theorem dX11_row_95 : decode cX11_row 95 = .ok (.iload 7, 2) := by decide +kernel
theorem dX11_row_97 : decode cX11_row 97 = .ok (.bipush 7, 2) := by decide +kernel
theorem dX11_row_99 : decode cX11_row 99 = .ok (.if_icmp .ne 10, 3) := by decide +kernel
theorem dX11_row_102 : decode cX11_row 102 = .ok (.iload 6, 2) := by decide +kernel
theorem dX11_row_104 : decode cX11_row 104 = .ok (.iconst 1, 1) := by decide +kernel
theorem dX11_row_105 : decode cX11_row 105 = .ok (.iadd, 1) := by decide +kernel
theorem dX11_row_106 : decode cX11_row 106 = .ok (.goto 4, 3) := by decide +kernel
theorem dX11_row_109 : decode cX11_row 109 = .ok (.iconst 0, 1) := by decide +kernel
theorem dX11_row_110 : decode cX11_row 110 = .ok (.istore 6, 2) := by decide +kernel
theorem dX11_row_112 : decode cX11_row 112 = .ok (.iinc 8 1, 3) := by decide +kernel
theorem dX11_row_115 : decode cX11_row 115 = .ok (.goto (-51), 3) := by decide +kernel
theorem dX11_row_118 : decode cX11_row 118 = .ok (.iload 7, 2) := by decide +kernel
theorem dX11_row_120 : decode cX11_row 120 = .ok (.ireturn, 1) := by decide +kernel
theorem dX11_holds_0 : decode cX11_holds 0 = .ok (.aload_n 0, 1) := by decide +kernel
theorem dX11_holds_1 : decode cX11_holds 1 = .ok (.iload_n 1, 1) := by decide +kernel
theorem dX11_holds_2 : decode cX11_holds 2 = .ok (.invokevirtual 187, 3) := by decide +kernel
theorem dX11_holds_5 : decode cX11_holds 5 = .ok (.astore 7, 2) := by decide +kernel
theorem dX11_holds_7 : decode cX11_holds 7 = .ok (.aload_n 0, 1) := by decide +kernel
theorem dX11_holds_8 : decode cX11_holds 8 = .ok (.iload_n 2, 1) := by decide +kernel
theorem dX11_holds_9 : decode cX11_holds 9 = .ok (.invokevirtual 151, 3) := by decide +kernel
theorem dX11_holds_12 : decode cX11_holds 12 = .ok (.astore 8, 2) := by decide +kernel
theorem dX11_holds_14 : decode cX11_holds 14 = .ok (.aload 7, 2) := by decide +kernel
theorem dX11_holds_16 : decode cX11_holds 16 = .ok (.ifnull 23, 3) := by decide +kernel
theorem dX11_holds_19 : decode cX11_holds 19 = .ok (.aload 8, 2) := by decide +kernel
theorem dX11_holds_21 : decode cX11_holds 21 = .ok (.ifnull 18, 3) := by decide +kernel
theorem dX11_holds_24 : decode cX11_holds 24 = .ok (.iload 5, 2) := by decide +kernel
theorem dX11_holds_26 : decode cX11_holds 26 = .ok (.iload 6, 2) := by decide +kernel
theorem dX11_holds_28 : decode cX11_holds 28 = .ok (.invokestatic 173, 3) := by decide +kernel
theorem dX11_holds_31 : decode cX11_holds 31 = .ok (.ifCond .eq 8, 3) := by decide +kernel
theorem dX11_holds_34 : decode cX11_holds 34 = .ok (.iload 4, 2) := by decide +kernel
theorem dX11_holds_36 : decode cX11_holds 36 = .ok (.ifCond .ge 5, 3) := by decide +kernel
theorem dX11_holds_39 : decode cX11_holds 39 = .ok (.iconst (-1), 1) := by decide +kernel
theorem dX11_holds_40 : decode cX11_holds 40 = .ok (.ireturn, 1) := by decide +kernel
theorem dX11_holds_41 : decode cX11_holds 41 = .ok (.iload_n 3, 1) := by decide +kernel
theorem dX11_holds_42 : decode cX11_holds 42 = .ok (.ifCond .ne 30, 3) := by decide +kernel
theorem dX11_holds_45 : decode cX11_holds 45 = .ok (.iload 4, 2) := by decide +kernel
theorem dX11_holds_47 : decode cX11_holds 47 = .ok (.aload 7, 2) := by decide +kernel
theorem dX11_holds_49 : decode cX11_holds 49 = .ok (.getfield 243, 3) := by decide +kernel
theorem dX11_holds_52 : decode cX11_holds 52 = .ok (.getfield 265, 3) := by decide +kernel
theorem dX11_holds_55 : decode cX11_holds 55 = .ok (.if_icmp .ge 17, 3) := by decide +kernel
theorem dX11_holds_58 : decode cX11_holds 58 = .ok (.aload 7, 2) := by decide +kernel
theorem dX11_holds_60 : decode cX11_holds 60 = .ok (.aload 8, 2) := by decide +kernel
theorem dX11_holds_62 : decode cX11_holds 62 = .ok (.iload 4, 2) := by decide +kernel
theorem dX11_holds_64 : decode cX11_holds 64 = .ok (.iload 5, 2) := by decide +kernel
theorem dX11_holds_66 : decode cX11_holds 66 = .ok (.iload 6, 2) := by decide +kernel
theorem dX11_holds_68 : decode cX11_holds 68 = .ok (.invokevirtual 270, 3) := by decide +kernel
theorem dX11_holds_71 : decode cX11_holds 71 = .ok (.ireturn, 1) := by decide +kernel
theorem dX11_holds_72 : decode cX11_holds 72 = .ok (.iload_n 3, 1) := by decide +kernel
theorem dX11_holds_73 : decode cX11_holds 73 = .ok (.iconst 1, 1) := by decide +kernel
theorem dX11_holds_74 : decode cX11_holds 74 = .ok (.if_icmp .ne 30, 3) := by decide +kernel
theorem dX11_holds_77 : decode cX11_holds 77 = .ok (.iload 4, 2) := by decide +kernel
theorem dX11_holds_79 : decode cX11_holds 79 = .ok (.aload 7, 2) := by decide +kernel
theorem dX11_holds_81 : decode cX11_holds 81 = .ok (.getfield 273, 3) := by decide +kernel
theorem dX11_holds_84 : decode cX11_holds 84 = .ok (.getfield 277, 3) := by decide +kernel
theorem dX11_holds_87 : decode cX11_holds 87 = .ok (.if_icmp .ge 17, 3) := by decide +kernel
theorem dX11_holds_90 : decode cX11_holds 90 = .ok (.aload 7, 2) := by decide +kernel
theorem dX11_holds_92 : decode cX11_holds 92 = .ok (.aload 8, 2) := by decide +kernel
theorem dX11_holds_94 : decode cX11_holds 94 = .ok (.iload 4, 2) := by decide +kernel
theorem dX11_holds_96 : decode cX11_holds 96 = .ok (.iload 5, 2) := by decide +kernel
theorem dX11_holds_98 : decode cX11_holds 98 = .ok (.iload 6, 2) := by decide +kernel
theorem dX11_holds_100 : decode cX11_holds 100 = .ok (.invokevirtual 280, 3) := by decide +kernel
theorem dX11_holds_103 : decode cX11_holds 103 = .ok (.ireturn, 1) := by decide +kernel
theorem dX11_holds_104 : decode cX11_holds 104 = .ok (.iconst (-1), 1) := by decide +kernel
theorem dX11_holds_105 : decode cX11_holds 105 = .ok (.ireturn, 1) := by decide +kernel
theorem dX11_right_0 : decode cX11_right 0 = .ok (.aload_n 0, 1) := by decide +kernel
theorem dX11_right_1 : decode cX11_right 1 = .ok (.iload_n 1, 1) := by decide +kernel
theorem dX11_right_2 : decode cX11_right 2 = .ok (.invokevirtual 187, 3) := by decide +kernel
theorem dX11_right_5 : decode cX11_right 5 = .ok (.astore 5, 2) := by decide +kernel
theorem dX11_right_7 : decode cX11_right 7 = .ok (.aload_n 0, 1) := by decide +kernel
theorem dX11_right_8 : decode cX11_right 8 = .ok (.iload_n 2, 1) := by decide +kernel
theorem dX11_right_9 : decode cX11_right 9 = .ok (.invokevirtual 151, 3) := by decide +kernel
theorem dX11_right_12 : decode cX11_right 12 = .ok (.astore 6, 2) := by decide +kernel
theorem dX11_right_14 : decode cX11_right 14 = .ok (.aload 5, 2) := by decide +kernel
theorem dX11_right_16 : decode cX11_right 16 = .ok (.ifnull 26, 3) := by decide +kernel
theorem dX11_right_19 : decode cX11_right 19 = .ok (.aload 6, 2) := by decide +kernel
theorem dX11_right_21 : decode cX11_right 21 = .ok (.ifnull 21, 3) := by decide +kernel
theorem dX11_right_24 : decode cX11_right 24 = .ok (.iload_n 3, 1) := by decide +kernel
theorem dX11_right_25 : decode cX11_right 25 = .ok (.invokestatic 161, 3) := by decide +kernel
theorem dX11_right_28 : decode cX11_right 28 = .ok (.ifCond .eq 14, 3) := by decide +kernel
theorem dX11_right_31 : decode cX11_right 31 = .ok (.iload 4, 2) := by decide +kernel
theorem dX11_right_33 : decode cX11_right 33 = .ok (.ifCond .lt 9, 3) := by decide +kernel
theorem dX11_right_36 : decode cX11_right 36 = .ok (.iload 4, 2) := by decide +kernel
theorem dX11_right_38 : decode cX11_right 38 = .ok (.iconst 1, 1) := by decide +kernel
theorem dX11_right_39 : decode cX11_right 39 = .ok (.if_icmp .le 5, 3) := by decide +kernel
theorem dX11_right_42 : decode cX11_right 42 = .ok (.iconst (-1), 1) := by decide +kernel
theorem dX11_right_43 : decode cX11_right 43 = .ok (.ireturn, 1) := by decide +kernel
theorem dX11_right_44 : decode cX11_right 44 = .ok (.iconst 0, 1) := by decide +kernel
theorem dX11_right_45 : decode cX11_right 45 = .ok (.istore 7, 2) := by decide +kernel
theorem dX11_right_47 : decode cX11_right 47 = .ok (.iconst 1, 1) := by decide +kernel
theorem dX11_right_48 : decode cX11_right 48 = .ok (.istore 8, 2) := by decide +kernel
theorem dX11_right_50 : decode cX11_right 50 = .ok (.iload 8, 2) := by decide +kernel
theorem dX11_right_52 : decode cX11_right 52 = .ok (.bipush 12, 2) := by decide +kernel
theorem dX11_right_54 : decode cX11_right 54 = .ok (.if_icmp .gt 87, 3) := by decide +kernel
theorem dX11_right_57 : decode cX11_right 57 = .ok (.iconst 1, 1) := by decide +kernel
theorem dX11_right_58 : decode cX11_right 58 = .ok (.istore 9, 2) := by decide +kernel
theorem dX11_right_60 : decode cX11_right 60 = .ok (.iload 9, 2) := by decide +kernel
theorem dX11_right_62 : decode cX11_right 62 = .ok (.bipush 31, 2) := by decide +kernel
theorem dX11_right_64 : decode cX11_right 64 = .ok (.if_icmp .gt 71, 3) := by decide +kernel
theorem dX11_right_67 : decode cX11_right 67 = .ok (.aload 5, 2) := by decide +kernel
theorem dX11_right_69 : decode cX11_right 69 = .ok (.aload 6, 2) := by decide +kernel
theorem dX11_right_71 : decode cX11_right 71 = .ok (.iload_n 3, 1) := by decide +kernel
theorem dX11_right_72 : decode cX11_right 72 = .ok (.iload 8, 2) := by decide +kernel
theorem dX11_right_74 : decode cX11_right 74 = .ok (.iload 9, 2) := by decide +kernel
theorem dX11_right_76 : decode cX11_right 76 = .ok (.invokevirtual 191, 3) := by decide +kernel
theorem dX11_right_79 : decode cX11_right 79 = .ok (.istore 10, 2) := by decide +kernel
theorem dX11_right_81 : decode cX11_right 81 = .ok (.iload 10, 2) := by decide +kernel
theorem dX11_right_83 : decode cX11_right 83 = .ok (.iconst (-1), 1) := by decide +kernel
theorem dX11_right_84 : decode cX11_right 84 = .ok (.if_icmp .eq 45, 3) := by decide +kernel
theorem dX11_right_87 : decode cX11_right 87 = .ok (.iload 10, 2) := by decide +kernel
theorem dX11_right_89 : decode cX11_right 89 = .ok (.bipush 7, 2) := by decide +kernel
theorem dX11_right_91 : decode cX11_right 91 = .ok (.irem, 1) := by decide +kernel
theorem dX11_right_92 : decode cX11_right 92 = .ok (.aload 6, 2) := by decide +kernel
theorem dX11_right_94 : decode cX11_right 94 = .ok (.iload_n 3, 1) := by decide +kernel
theorem dX11_right_95 : decode cX11_right 95 = .ok (.iload 8, 2) := by decide +kernel
theorem dX11_right_97 : decode cX11_right 97 = .ok (.iload 9, 2) := by decide +kernel
theorem dX11_right_99 : decode cX11_right 99 = .ok (.invokevirtual 177, 3) := by decide +kernel
theorem dX11_right_102 : decode cX11_right 102 = .ok (.invokestatic 207, 3) := by decide +kernel
theorem dX11_right_105 : decode cX11_right 105 = .ok (.ifCond .ne 7, 3) := by decide +kernel
theorem dX11_right_108 : decode cX11_right 108 = .ok (.iconst 1, 1) := by decide +kernel
theorem dX11_right_109 : decode cX11_right 109 = .ok (.goto 4, 3) := by decide +kernel
theorem dX11_right_112 : decode cX11_right 112 = .ok (.iconst 0, 1) := by decide +kernel
theorem dX11_right_113 : decode cX11_right 113 = .ok (.iload 4, 2) := by decide +kernel
theorem dX11_right_115 : decode cX11_right 115 = .ok (.ifCond .ne 7, 3) := by decide +kernel
theorem dX11_right_118 : decode cX11_right 118 = .ok (.iconst 1, 1) := by decide +kernel
theorem dX11_right_119 : decode cX11_right 119 = .ok (.goto 4, 3) := by decide +kernel
theorem dX11_right_122 : decode cX11_right 122 = .ok (.iconst 0, 1) := by decide +kernel
theorem dX11_right_123 : decode cX11_right 123 = .ok (.if_icmp .ne 6, 3) := by decide +kernel
theorem dX11_right_126 : decode cX11_right 126 = .ok (.iinc 7 1, 3) := by decide +kernel
theorem dX11_right_129 : decode cX11_right 129 = .ok (.iinc 9 1, 3) := by decide +kernel
theorem dX11_right_132 : decode cX11_right 132 = .ok (.goto (-72), 3) := by decide +kernel
theorem dX11_right_135 : decode cX11_right 135 = .ok (.iinc 8 1, 3) := by decide +kernel
theorem dX11_right_138 : decode cX11_right 138 = .ok (.goto (-88), 3) := by decide +kernel
theorem dX11_right_141 : decode cX11_right 141 = .ok (.iload 7, 2) := by decide +kernel
theorem dX11_right_143 : decode cX11_right 143 = .ok (.ireturn, 1) := by decide +kernel
theorem dX11_lacks_0 : decode cX11_lacks 0 = .ok (.aload_n 0, 1) := by decide +kernel
theorem dX11_lacks_1 : decode cX11_lacks 1 = .ok (.iload_n 1, 1) := by decide +kernel
theorem dX11_lacks_2 : decode cX11_lacks 2 = .ok (.invokevirtual 187, 3) := by decide +kernel
theorem dX11_lacks_5 : decode cX11_lacks 5 = .ok (.astore 5, 2) := by decide +kernel
theorem dX11_lacks_7 : decode cX11_lacks 7 = .ok (.aload 5, 2) := by decide +kernel
theorem dX11_lacks_9 : decode cX11_lacks 9 = .ok (.ifnull 14, 3) := by decide +kernel
theorem dX11_lacks_12 : decode cX11_lacks 12 = .ok (.iload 4, 2) := by decide +kernel
theorem dX11_lacks_14 : decode cX11_lacks 14 = .ok (.ifCond .lt 9, 3) := by decide +kernel
theorem dX11_lacks_17 : decode cX11_lacks 17 = .ok (.iload 4, 2) := by decide +kernel
theorem dX11_lacks_19 : decode cX11_lacks 19 = .ok (.iconst 3, 1) := by decide +kernel
theorem dX11_lacks_20 : decode cX11_lacks 20 = .ok (.if_icmp .le 5, 3) := by decide +kernel
theorem dX11_lacks_23 : decode cX11_lacks 23 = .ok (.iconst (-1), 1) := by decide +kernel
theorem dX11_lacks_24 : decode cX11_lacks 24 = .ok (.ireturn, 1) := by decide +kernel
theorem dX11_lacks_25 : decode cX11_lacks 25 = .ok (.iload 4, 2) := by decide +kernel
theorem dX11_lacks_27 : decode cX11_lacks 27 = .ok (.iconst 3, 1) := by decide +kernel
theorem dX11_lacks_28 : decode cX11_lacks 28 = .ok (.if_icmp .ne 9, 3) := by decide +kernel
theorem dX11_lacks_31 : decode cX11_lacks 31 = .ok (.aload 5, 2) := by decide +kernel
theorem dX11_lacks_33 : decode cX11_lacks 33 = .ok (.invokevirtual 283, 3) := by decide +kernel
theorem dX11_lacks_36 : decode cX11_lacks 36 = .ok (.ireturn, 1) := by decide +kernel
theorem dX11_lacks_37 : decode cX11_lacks 37 = .ok (.iload_n 2, 1) := by decide +kernel
theorem dX11_lacks_38 : decode cX11_lacks 38 = .ok (.iload_n 3, 1) := by decide +kernel
theorem dX11_lacks_39 : decode cX11_lacks 39 = .ok (.invokestatic 173, 3) := by decide +kernel
theorem dX11_lacks_42 : decode cX11_lacks 42 = .ok (.ifCond .ne 5, 3) := by decide +kernel
theorem dX11_lacks_45 : decode cX11_lacks 45 = .ok (.iconst (-1), 1) := by decide +kernel
theorem dX11_lacks_46 : decode cX11_lacks 46 = .ok (.ireturn, 1) := by decide +kernel
theorem dX11_lacks_47 : decode cX11_lacks 47 = .ok (.iconst 0, 1) := by decide +kernel
theorem dX11_lacks_48 : decode cX11_lacks 48 = .ok (.istore 6, 2) := by decide +kernel
theorem dX11_lacks_50 : decode cX11_lacks 50 = .ok (.iconst (-1), 1) := by decide +kernel
theorem dX11_lacks_51 : decode cX11_lacks 51 = .ok (.istore 7, 2) := by decide +kernel
theorem dX11_lacks_53 : decode cX11_lacks 53 = .ok (.iconst (-1), 1) := by decide +kernel
theorem dX11_lacks_54 : decode cX11_lacks 54 = .ok (.istore 8, 2) := by decide +kernel
theorem dX11_lacks_56 : decode cX11_lacks 56 = .ok (.iload_n 2, 1) := by decide +kernel
theorem dX11_lacks_57 : decode cX11_lacks 57 = .ok (.istore 9, 2) := by decide +kernel
theorem dX11_lacks_59 : decode cX11_lacks 59 = .ok (.iload 9, 2) := by decide +kernel
theorem dX11_lacks_61 : decode cX11_lacks 61 = .ok (.iload_n 3, 1) := by decide +kernel
theorem dX11_lacks_62 : decode cX11_lacks 62 = .ok (.if_icmp .gt 48, 3) := by decide +kernel
theorem dX11_lacks_65 : decode cX11_lacks 65 = .ok (.aload 5, 2) := by decide +kernel
theorem dX11_lacks_67 : decode cX11_lacks 67 = .ok (.getfield 195, 3) := by decide +kernel
theorem dX11_lacks_70 : decode cX11_lacks 70 = .ok (.iload 9, 2) := by decide +kernel
theorem dX11_lacks_72 : decode cX11_lacks 72 = .ok (.invokevirtual 251, 3) := by decide +kernel
theorem dX11_lacks_75 : decode cX11_lacks 75 = .ok (.istore 10, 2) := by decide +kernel
theorem dX11_lacks_77 : decode cX11_lacks 77 = .ok (.iload 10, 2) := by decide +kernel
theorem dX11_lacks_79 : decode cX11_lacks 79 = .ok (.iconst (-1), 1) := by decide +kernel
theorem dX11_lacks_80 : decode cX11_lacks 80 = .ok (.if_icmp .ne 9, 3) := by decide +kernel
theorem dX11_lacks_83 : decode cX11_lacks 83 = .ok (.iinc 6 1, 3) := by decide +kernel
theorem dX11_lacks_86 : decode cX11_lacks 86 = .ok (.goto 18, 3) := by decide +kernel
theorem dX11_lacks_89 : decode cX11_lacks 89 = .ok (.iload 10, 2) := by decide +kernel
theorem dX11_lacks_91 : decode cX11_lacks 91 = .ok (.iload 8, 2) := by decide +kernel
theorem dX11_lacks_93 : decode cX11_lacks 93 = .ok (.if_icmp .le 11, 3) := by decide +kernel
theorem dX11_lacks_96 : decode cX11_lacks 96 = .ok (.iload 10, 2) := by decide +kernel
theorem dX11_lacks_98 : decode cX11_lacks 98 = .ok (.istore 8, 2) := by decide +kernel
theorem dX11_lacks_100 : decode cX11_lacks 100 = .ok (.iload 9, 2) := by decide +kernel
theorem dX11_lacks_102 : decode cX11_lacks 102 = .ok (.istore 7, 2) := by decide +kernel
theorem dX11_lacks_104 : decode cX11_lacks 104 = .ok (.iinc 9 1, 3) := by decide +kernel
theorem dX11_lacks_107 : decode cX11_lacks 107 = .ok (.goto (-48), 3) := by decide +kernel
theorem dX11_lacks_110 : decode cX11_lacks 110 = .ok (.iload 4, 2) := by decide +kernel
theorem dX11_lacks_112 : decode cX11_lacks 112 = .ok (.ifCond .ne 6, 3) := by decide +kernel
theorem dX11_lacks_115 : decode cX11_lacks 115 = .ok (.iload 6, 2) := by decide +kernel
theorem dX11_lacks_117 : decode cX11_lacks 117 = .ok (.ireturn, 1) := by decide +kernel
theorem dX11_lacks_118 : decode cX11_lacks 118 = .ok (.iload 4, 2) := by decide +kernel
theorem dX11_lacks_120 : decode cX11_lacks 120 = .ok (.iconst 1, 1) := by decide +kernel
theorem dX11_lacks_121 : decode cX11_lacks 121 = .ok (.if_icmp .ne 8, 3) := by decide +kernel
theorem dX11_lacks_124 : decode cX11_lacks 124 = .ok (.iload 7, 2) := by decide +kernel
theorem dX11_lacks_126 : decode cX11_lacks 126 = .ok (.goto 5, 3) := by decide +kernel
theorem dX11_lacks_129 : decode cX11_lacks 129 = .ok (.iload 8, 2) := by decide +kernel
theorem dX11_lacks_131 : decode cX11_lacks 131 = .ok (.ireturn, 1) := by decide +kernel
theorem dX11_rises_0 : decode cX11_rises 0 = .ok (.aload_n 0, 1) := by decide +kernel
theorem dX11_rises_1 : decode cX11_rises 1 = .ok (.iload_n 1, 1) := by decide +kernel
theorem dX11_rises_2 : decode cX11_rises 2 = .ok (.invokevirtual 187, 3) := by decide +kernel
theorem dX11_rises_5 : decode cX11_rises 5 = .ok (.astore 5, 2) := by decide +kernel
theorem dX11_rises_7 : decode cX11_rises 7 = .ok (.aload_n 0, 1) := by decide +kernel
theorem dX11_rises_8 : decode cX11_rises 8 = .ok (.iload_n 2, 1) := by decide +kernel
theorem dX11_rises_9 : decode cX11_rises 9 = .ok (.invokevirtual 187, 3) := by decide +kernel
theorem dX11_rises_12 : decode cX11_rises 12 = .ok (.astore 6, 2) := by decide +kernel
theorem dX11_rises_14 : decode cX11_rises 14 = .ok (.aload 5, 2) := by decide +kernel
theorem dX11_rises_16 : decode cX11_rises 16 = .ok (.ifnull 17, 3) := by decide +kernel
theorem dX11_rises_19 : decode cX11_rises 19 = .ok (.aload 6, 2) := by decide +kernel
theorem dX11_rises_21 : decode cX11_rises 21 = .ok (.ifnull 12, 3) := by decide +kernel
theorem dX11_rises_24 : decode cX11_rises 24 = .ok (.iload_n 3, 1) := by decide +kernel
theorem dX11_rises_25 : decode cX11_rises 25 = .ok (.iload 4, 2) := by decide +kernel
theorem dX11_rises_27 : decode cX11_rises 27 = .ok (.invokestatic 173, 3) := by decide +kernel
theorem dX11_rises_30 : decode cX11_rises 30 = .ok (.ifCond .ne 7, 3) := by decide +kernel
theorem dX11_rises_33 : decode cX11_rises 33 = .ok (.sipush (-1000), 3) := by decide +kernel
theorem dX11_rises_36 : decode cX11_rises 36 = .ok (.ireturn, 1) := by decide +kernel
theorem dX11_rises_37 : decode cX11_rises 37 = .ok (.iconst 0, 1) := by decide +kernel
theorem dX11_rises_38 : decode cX11_rises 38 = .ok (.istore 7, 2) := by decide +kernel
theorem dX11_rises_40 : decode cX11_rises 40 = .ok (.iload_n 3, 1) := by decide +kernel
theorem dX11_rises_41 : decode cX11_rises 41 = .ok (.istore 8, 2) := by decide +kernel
theorem dX11_rises_43 : decode cX11_rises 43 = .ok (.iload 8, 2) := by decide +kernel
theorem dX11_rises_45 : decode cX11_rises 45 = .ok (.iload 4, 2) := by decide +kernel
theorem dX11_rises_47 : decode cX11_rises 47 = .ok (.if_icmp .gt 57, 3) := by decide +kernel
theorem dX11_rises_50 : decode cX11_rises 50 = .ok (.aload 5, 2) := by decide +kernel
theorem dX11_rises_52 : decode cX11_rises 52 = .ok (.getfield 195, 3) := by decide +kernel
theorem dX11_rises_55 : decode cX11_rises 55 = .ok (.iload 8, 2) := by decide +kernel
theorem dX11_rises_57 : decode cX11_rises 57 = .ok (.invokevirtual 251, 3) := by decide +kernel
theorem dX11_rises_60 : decode cX11_rises 60 = .ok (.istore 9, 2) := by decide +kernel
theorem dX11_rises_62 : decode cX11_rises 62 = .ok (.aload 6, 2) := by decide +kernel
theorem dX11_rises_64 : decode cX11_rises 64 = .ok (.getfield 195, 3) := by decide +kernel
theorem dX11_rises_67 : decode cX11_rises 67 = .ok (.iload 8, 2) := by decide +kernel
theorem dX11_rises_69 : decode cX11_rises 69 = .ok (.invokevirtual 251, 3) := by decide +kernel
theorem dX11_rises_72 : decode cX11_rises 72 = .ok (.istore 10, 2) := by decide +kernel
theorem dX11_rises_74 : decode cX11_rises 74 = .ok (.iload 9, 2) := by decide +kernel
theorem dX11_rises_76 : decode cX11_rises 76 = .ok (.iconst (-1), 1) := by decide +kernel
theorem dX11_rises_77 : decode cX11_rises 77 = .ok (.if_icmp .eq 21, 3) := by decide +kernel
theorem dX11_rises_80 : decode cX11_rises 80 = .ok (.iload 10, 2) := by decide +kernel
theorem dX11_rises_82 : decode cX11_rises 82 = .ok (.iconst (-1), 1) := by decide +kernel
theorem dX11_rises_83 : decode cX11_rises 83 = .ok (.if_icmp .eq 15, 3) := by decide +kernel
theorem dX11_rises_86 : decode cX11_rises 86 = .ok (.iload 7, 2) := by decide +kernel
theorem dX11_rises_88 : decode cX11_rises 88 = .ok (.iload 9, 2) := by decide +kernel
theorem dX11_rises_90 : decode cX11_rises 90 = .ok (.iload 10, 2) := by decide +kernel
theorem dX11_rises_92 : decode cX11_rises 92 = .ok (.invokestatic 286, 3) := by decide +kernel
theorem dX11_rises_95 : decode cX11_rises 95 = .ok (.iadd, 1) := by decide +kernel
theorem dX11_rises_96 : decode cX11_rises 96 = .ok (.istore 7, 2) := by decide +kernel
theorem dX11_rises_98 : decode cX11_rises 98 = .ok (.iinc 8 1, 3) := by decide +kernel
theorem dX11_rises_101 : decode cX11_rises 101 = .ok (.goto (-58), 3) := by decide +kernel
theorem dX11_rises_104 : decode cX11_rises 104 = .ok (.iload 7, 2) := by decide +kernel
theorem dX11_rises_106 : decode cX11_rises 106 = .ok (.ireturn, 1) := by decide +kernel
theorem dX11_headAt_0 : decode cX11_headAt 0 = .ok (.iload_n 1, 1) := by decide +kernel
theorem dX11_headAt_1 : decode cX11_headAt 1 = .ok (.ifCond .lt 20, 3) := by decide +kernel
theorem dX11_headAt_4 : decode cX11_headAt 4 = .ok (.iload_n 1, 1) := by decide +kernel
theorem dX11_headAt_5 : decode cX11_headAt 5 = .ok (.aload_n 0, 1) := by decide +kernel
theorem dX11_headAt_6 : decode cX11_headAt 6 = .ok (.getfield 94, 3) := by decide +kernel
theorem dX11_headAt_9 : decode cX11_headAt 9 = .ok (.if_icmp .ge 12, 3) := by decide +kernel
theorem dX11_headAt_12 : decode cX11_headAt 12 = .ok (.aload_n 0, 1) := by decide +kernel
theorem dX11_headAt_13 : decode cX11_headAt 13 = .ok (.getfield 21, 3) := by decide +kernel
theorem dX11_headAt_16 : decode cX11_headAt 16 = .ok (.iload_n 1, 1) := by decide +kernel
theorem dX11_headAt_17 : decode cX11_headAt 17 = .ok (.aaload, 1) := by decide +kernel
theorem dX11_headAt_18 : decode cX11_headAt 18 = .ok (.goto 4, 3) := by decide +kernel
theorem dX11_headAt_21 : decode cX11_headAt 21 = .ok (.aconst_null, 1) := by decide +kernel
theorem dX11_headAt_22 : decode cX11_headAt 22 = .ok (.areturn, 1) := by decide +kernel
theorem dX11_ask_0 : decode cX11_ask 0 = .ok (.aload_n 0, 1) := by decide +kernel
theorem dX11_ask_1 : decode cX11_ask 1 = .ok (.getfield 289, 3) := by decide +kernel
theorem dX11_ask_4 : decode cX11_ask 4 = .ok (.bipush 60, 2) := by decide +kernel
theorem dX11_ask_6 : decode cX11_ask 6 = .ok (.if_icmp .ge 14, 3) := by decide +kernel
theorem dX11_ask_9 : decode cX11_ask 9 = .ok (.iload_n 1, 1) := by decide +kernel
theorem dX11_ask_10 : decode cX11_ask 10 = .ok (.ifCond .lt 10, 3) := by decide +kernel
theorem dX11_ask_13 : decode cX11_ask 13 = .ok (.iload_n 1, 1) := by decide +kernel
theorem dX11_ask_14 : decode cX11_ask 14 = .ok (.sipush 999, 3) := by decide +kernel
theorem dX11_ask_17 : decode cX11_ask 17 = .ok (.if_icmp .le 5, 3) := by decide +kernel
theorem dX11_ask_20 : decode cX11_ask 20 = .ok (.iconst (-1), 1) := by decide +kernel
theorem dX11_ask_21 : decode cX11_ask 21 = .ok (.ireturn, 1) := by decide +kernel
theorem dX11_ask_22 : decode cX11_ask 22 = .ok (.iload 6, 2) := by decide +kernel
theorem dX11_ask_24 : decode cX11_ask 24 = .ok (.ifCond .lt 23, 3) := by decide +kernel
theorem dX11_ask_27 : decode cX11_ask 27 = .ok (.iload 6, 2) := by decide +kernel
theorem dX11_ask_29 : decode cX11_ask 29 = .ok (.bipush 6, 2) := by decide +kernel
theorem dX11_ask_31 : decode cX11_ask 31 = .ok (.if_icmp .gt 16, 3) := by decide +kernel
theorem dX11_ask_34 : decode cX11_ask 34 = .ok (.iload 7, 2) := by decide +kernel
theorem dX11_ask_36 : decode cX11_ask 36 = .ok (.ifCond .lt 11, 3) := by decide +kernel
theorem dX11_ask_39 : decode cX11_ask 39 = .ok (.iload 7, 2) := by decide +kernel
theorem dX11_ask_41 : decode cX11_ask 41 = .ok (.sipush 9999, 3) := by decide +kernel
theorem dX11_ask_44 : decode cX11_ask 44 = .ok (.if_icmp .le 5, 3) := by decide +kernel
theorem dX11_ask_47 : decode cX11_ask 47 = .ok (.iconst (-1), 1) := by decide +kernel
theorem dX11_ask_48 : decode cX11_ask 48 = .ok (.ireturn, 1) := by decide +kernel
theorem dX11_ask_49 : decode cX11_ask 49 = .ok (.aload_n 0, 1) := by decide +kernel
theorem dX11_ask_50 : decode cX11_ask 50 = .ok (.getfield 289, 3) := by decide +kernel
theorem dX11_ask_53 : decode cX11_ask 53 = .ok (.ifCond .le 23, 3) := by decide +kernel
theorem dX11_ask_56 : decode cX11_ask 56 = .ok (.iload_n 1, 1) := by decide +kernel
theorem dX11_ask_57 : decode cX11_ask 57 = .ok (.aload_n 0, 1) := by decide +kernel
theorem dX11_ask_58 : decode cX11_ask 58 = .ok (.getfield 27, 3) := by decide +kernel
theorem dX11_ask_61 : decode cX11_ask 61 = .ok (.aload_n 0, 1) := by decide +kernel
theorem dX11_ask_62 : decode cX11_ask 62 = .ok (.getfield 289, 3) := by decide +kernel
theorem dX11_ask_65 : decode cX11_ask 65 = .ok (.iconst 1, 1) := by decide +kernel
theorem dX11_ask_66 : decode cX11_ask 66 = .ok (.isub, 1) := by decide +kernel
theorem dX11_ask_67 : decode cX11_ask 67 = .ok (.aaload, 1) := by decide +kernel
theorem dX11_ask_68 : decode cX11_ask 68 = .ok (.getfield 292, 3) := by decide +kernel
theorem dX11_ask_71 : decode cX11_ask 71 = .ok (.if_icmp .ge 5, 3) := by decide +kernel
theorem dX11_ask_74 : decode cX11_ask 74 = .ok (.iconst (-1), 1) := by decide +kernel
theorem dX11_ask_75 : decode cX11_ask 75 = .ok (.ireturn, 1) := by decide +kernel
theorem dX11_ask_76 : decode cX11_ask 76 = .ok (.aload_n 0, 1) := by decide +kernel
theorem dX11_ask_77 : decode cX11_ask 77 = .ok (.iload_n 2, 1) := by decide +kernel
theorem dX11_ask_78 : decode cX11_ask 78 = .ok (.iload_n 3, 1) := by decide +kernel
theorem dX11_ask_79 : decode cX11_ask 79 = .ok (.iload 4, 2) := by decide +kernel
theorem dX11_ask_81 : decode cX11_ask 81 = .ok (.iload 5, 2) := by decide +kernel
theorem dX11_ask_83 : decode cX11_ask 83 = .ok (.invokevirtual 295, 3) := by decide +kernel
theorem dX11_ask_86 : decode cX11_ask 86 = .ok (.astore 8, 2) := by decide +kernel
theorem dX11_ask_88 : decode cX11_ask 88 = .ok (.aload 8, 2) := by decide +kernel
theorem dX11_ask_90 : decode cX11_ask 90 = .ok (.ifnonnull 5, 3) := by decide +kernel
theorem dX11_ask_93 : decode cX11_ask 93 = .ok (.iconst (-1), 1) := by decide +kernel
theorem dX11_ask_94 : decode cX11_ask 94 = .ok (.ireturn, 1) := by decide +kernel
theorem dX11_ask_95 : decode cX11_ask 95 = .ok (.aload_n 0, 1) := by decide +kernel
theorem dX11_ask_96 : decode cX11_ask 96 = .ok (.getfield 27, 3) := by decide +kernel
theorem dX11_ask_99 : decode cX11_ask 99 = .ok (.aload_n 0, 1) := by decide +kernel
theorem dX11_ask_100 : decode cX11_ask 100 = .ok (.getfield 289, 3) := by decide +kernel
theorem dX11_ask_103 : decode cX11_ask 103 = .ok (.new 25, 3) := by decide +kernel
theorem dX11_ask_106 : decode cX11_ask 106 = .ok (.dup, 1) := by decide +kernel
theorem dX11_ask_107 : decode cX11_ask 107 = .ok (.iload_n 1, 1) := by decide +kernel
theorem dX11_ask_108 : decode cX11_ask 108 = .ok (.aload 8, 2) := by decide +kernel
theorem dX11_ask_110 : decode cX11_ask 110 = .ok (.iload 6, 2) := by decide +kernel
theorem dX11_ask_112 : decode cX11_ask 112 = .ok (.iload 7, 2) := by decide +kernel
theorem dX11_ask_114 : decode cX11_ask 114 = .ok (.invokespecial 299, 3) := by decide +kernel
theorem dX11_ask_117 : decode cX11_ask 117 = .ok (.aastore, 1) := by decide +kernel
theorem dX11_ask_118 : decode cX11_ask 118 = .ok (.aload_n 0, 1) := by decide +kernel
theorem dX11_ask_119 : decode cX11_ask 119 = .ok (.dup, 1) := by decide +kernel
theorem dX11_ask_120 : decode cX11_ask 120 = .ok (.getfield 289, 3) := by decide +kernel
theorem dX11_ask_123 : decode cX11_ask 123 = .ok (.iconst 1, 1) := by decide +kernel
theorem dX11_ask_124 : decode cX11_ask 124 = .ok (.iadd, 1) := by decide +kernel
theorem dX11_ask_125 : decode cX11_ask 125 = .ok (.putfield 289, 3) := by decide +kernel
theorem dX11_ask_128 : decode cX11_ask 128 = .ok (.aload_n 0, 1) := by decide +kernel
theorem dX11_ask_129 : decode cX11_ask 129 = .ok (.getfield 289, 3) := by decide +kernel
theorem dX11_ask_132 : decode cX11_ask 132 = .ok (.iconst 1, 1) := by decide +kernel
theorem dX11_ask_133 : decode cX11_ask 133 = .ok (.isub, 1) := by decide +kernel
theorem dX11_ask_134 : decode cX11_ask 134 = .ok (.ireturn, 1) := by decide +kernel
theorem dX11_asked_0 : decode cX11_asked 0 = .ok (.iload_n 1, 1) := by decide +kernel
theorem dX11_asked_1 : decode cX11_asked 1 = .ok (.ifCond .lt 11, 3) := by decide +kernel
theorem dX11_asked_4 : decode cX11_asked 4 = .ok (.iload_n 1, 1) := by decide +kernel
theorem dX11_asked_5 : decode cX11_asked 5 = .ok (.aload_n 0, 1) := by decide +kernel
theorem dX11_asked_6 : decode cX11_asked 6 = .ok (.getfield 289, 3) := by decide +kernel
theorem dX11_asked_9 : decode cX11_asked 9 = .ok (.if_icmp .lt 7, 3) := by decide +kernel
theorem dX11_asked_12 : decode cX11_asked 12 = .ok (.sipush (-1000), 3) := by decide +kernel
theorem dX11_asked_15 : decode cX11_asked 15 = .ok (.ireturn, 1) := by decide +kernel
theorem dX11_asked_16 : decode cX11_asked 16 = .ok (.aload_n 0, 1) := by decide +kernel
theorem dX11_asked_17 : decode cX11_asked 17 = .ok (.getfield 27, 3) := by decide +kernel
theorem dX11_asked_20 : decode cX11_asked 20 = .ok (.iload_n 1, 1) := by decide +kernel
theorem dX11_asked_21 : decode cX11_asked 21 = .ok (.aaload, 1) := by decide +kernel
theorem dX11_asked_22 : decode cX11_asked 22 = .ok (.astore_n 3, 1) := by decide +kernel
theorem dX11_asked_23 : decode cX11_asked 23 = .ok (.iload_n 2, 1) := by decide +kernel
theorem dX11_asked_24 : decode cX11_asked 24 = .ok (.tableswitch 86 0 5 #[40, 45, 53, 61, 66, 71], 40) := by decide +kernel
theorem dX11_asked_64 : decode cX11_asked 64 = .ok (.aload_n 3, 1) := by decide +kernel
theorem dX11_asked_65 : decode cX11_asked 65 = .ok (.getfield 292, 3) := by decide +kernel
theorem dX11_asked_68 : decode cX11_asked 68 = .ok (.ireturn, 1) := by decide +kernel
theorem dX11_asked_69 : decode cX11_asked 69 = .ok (.aload_n 3, 1) := by decide +kernel
theorem dX11_asked_70 : decode cX11_asked 70 = .ok (.getfield 302, 3) := by decide +kernel
theorem dX11_asked_73 : decode cX11_asked 73 = .ok (.getfield 306, 3) := by decide +kernel
theorem dX11_asked_76 : decode cX11_asked 76 = .ok (.ireturn, 1) := by decide +kernel
theorem dX11_asked_77 : decode cX11_asked 77 = .ok (.aload_n 3, 1) := by decide +kernel
theorem dX11_asked_78 : decode cX11_asked 78 = .ok (.getfield 302, 3) := by decide +kernel
theorem dX11_asked_81 : decode cX11_asked 81 = .ok (.getfield 309, 3) := by decide +kernel
theorem dX11_asked_84 : decode cX11_asked 84 = .ok (.ireturn, 1) := by decide +kernel
theorem dX11_asked_85 : decode cX11_asked 85 = .ok (.aload_n 3, 1) := by decide +kernel
theorem dX11_asked_86 : decode cX11_asked 86 = .ok (.getfield 312, 3) := by decide +kernel
theorem dX11_asked_89 : decode cX11_asked 89 = .ok (.ireturn, 1) := by decide +kernel
theorem dX11_asked_90 : decode cX11_asked 90 = .ok (.aload_n 3, 1) := by decide +kernel
theorem dX11_asked_91 : decode cX11_asked 91 = .ok (.getfield 315, 3) := by decide +kernel
theorem dX11_asked_94 : decode cX11_asked 94 = .ok (.ireturn, 1) := by decide +kernel
theorem dX11_asked_95 : decode cX11_asked 95 = .ok (.aload_n 3, 1) := by decide +kernel
theorem dX11_asked_96 : decode cX11_asked 96 = .ok (.getfield 312, 3) := by decide +kernel
theorem dX11_asked_99 : decode cX11_asked 99 = .ok (.aload_n 3, 1) := by decide +kernel
theorem dX11_asked_100 : decode cX11_asked 100 = .ok (.getfield 302, 3) := by decide +kernel
theorem dX11_asked_103 : decode cX11_asked 103 = .ok (.getfield 309, 3) := by decide +kernel
theorem dX11_asked_106 : decode cX11_asked 106 = .ok (.invokestatic 207, 3) := by decide +kernel
theorem dX11_asked_109 : decode cX11_asked 109 = .ok (.ireturn, 1) := by decide +kernel
theorem dX11_asked_110 : decode cX11_asked 110 = .ok (.sipush (-1000), 3) := by decide +kernel
theorem dX11_asked_113 : decode cX11_asked 113 = .ok (.ireturn, 1) := by decide +kernel
theorem dX11_fits_0 : decode cX11_fits 0 = .ok (.iload_n 1, 1) := by decide +kernel
theorem dX11_fits_1 : decode cX11_fits 1 = .ok (.invokestatic 318, 3) := by decide +kernel
theorem dX11_fits_4 : decode cX11_fits 4 = .ok (.ifCond .eq 12, 3) := by decide +kernel
theorem dX11_fits_7 : decode cX11_fits 7 = .ok (.aload_n 0, 1) := by decide +kernel
theorem dX11_fits_8 : decode cX11_fits 8 = .ok (.iload_n 1, 1) := by decide +kernel
theorem dX11_fits_9 : decode cX11_fits 9 = .ok (.iconst 0, 1) := by decide +kernel
theorem dX11_fits_10 : decode cX11_fits 10 = .ok (.invokevirtual 321, 3) := by decide +kernel
