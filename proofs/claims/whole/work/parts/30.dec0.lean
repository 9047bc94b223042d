theorem d_0_0 : decode (cM 0) 0 = .ok (.aload_n 0, 1) := by decide +kernel
theorem d_0_1 : decode (cM 0) 1 = .ok (.invokespecial 3, 3) := by decide +kernel
theorem d_0_4 : decode (cM 0) 4 = .ok (.aload_n 0, 1) := by decide +kernel
theorem d_0_5 : decode (cM 0) 5 = .ok (.bipush 14, 2) := by decide +kernel
theorem d_0_7 : decode (cM 0) 7 = .ok (.newarray .int, 2) := by decide +kernel
theorem d_0_9 : decode (cM 0) 9 = .ok (.putfield 9, 3) := by decide +kernel
theorem d_0_12 : decode (cM 0) 12 = .ok (.aload_n 0, 1) := by decide +kernel
theorem d_0_13 : decode (cM 0) 13 = .ok (.bipush 14, 2) := by decide +kernel
theorem d_0_15 : decode (cM 0) 15 = .ok (.newarray .int, 2) := by decide +kernel
theorem d_0_17 : decode (cM 0) 17 = .ok (.putfield 15, 3) := by decide +kernel
theorem d_0_20 : decode (cM 0) 20 = .ok (.return_, 1) := by decide +kernel
theorem d_1_0 : decode (cM 1) 0 = .ok (.iconst 0, 1) := by decide +kernel
theorem d_1_1 : decode (cM 1) 1 = .ok (.istore 4, 2) := by decide +kernel
theorem d_1_3 : decode (cM 1) 3 = .ok (.iload 4, 2) := by decide +kernel
theorem d_1_5 : decode (cM 1) 5 = .ok (.bipush 14, 2) := by decide +kernel
theorem d_1_7 : decode (cM 1) 7 = .ok (.if_icmp .ge 25, 3) := by decide +kernel
theorem d_1_10 : decode (cM 1) 10 = .ok (.aload_n 0, 1) := by decide +kernel
theorem d_1_11 : decode (cM 1) 11 = .ok (.getfield 9, 3) := by decide +kernel
theorem d_1_14 : decode (cM 1) 14 = .ok (.iload 4, 2) := by decide +kernel
theorem d_1_16 : decode (cM 1) 16 = .ok (.iconst 0, 1) := by decide +kernel
theorem d_1_17 : decode (cM 1) 17 = .ok (.iastore, 1) := by decide +kernel
theorem d_1_18 : decode (cM 1) 18 = .ok (.aload_n 0, 1) := by decide +kernel
theorem d_1_19 : decode (cM 1) 19 = .ok (.getfield 15, 3) := by decide +kernel
theorem d_1_22 : decode (cM 1) 22 = .ok (.iload 4, 2) := by decide +kernel
theorem d_1_24 : decode (cM 1) 24 = .ok (.iconst 0, 1) := by decide +kernel
theorem d_1_25 : decode (cM 1) 25 = .ok (.iastore, 1) := by decide +kernel
theorem d_1_26 : decode (cM 1) 26 = .ok (.iinc 4 1, 3) := by decide +kernel
theorem d_1_29 : decode (cM 1) 29 = .ok (.goto (-26), 3) := by decide +kernel
theorem d_1_32 : decode (cM 1) 32 = .ok (.iconst 0, 1) := by decide +kernel
theorem d_1_33 : decode (cM 1) 33 = .ok (.istore 4, 2) := by decide +kernel
theorem d_1_35 : decode (cM 1) 35 = .ok (.iconst 0, 1) := by decide +kernel
theorem d_1_36 : decode (cM 1) 36 = .ok (.istore 5, 2) := by decide +kernel
theorem d_1_38 : decode (cM 1) 38 = .ok (.iload 5, 2) := by decide +kernel
theorem d_1_40 : decode (cM 1) 40 = .ok (.iload_n 2, 1) := by decide +kernel
theorem d_1_41 : decode (cM 1) 41 = .ok (.if_icmp .ge 93, 3) := by decide +kernel
theorem d_1_44 : decode (cM 1) 44 = .ok (.iload 5, 2) := by decide +kernel
theorem d_1_46 : decode (cM 1) 46 = .ok (.bipush 10, 2) := by decide +kernel
theorem d_1_48 : decode (cM 1) 48 = .ok (.if_icmp .ge 86, 3) := by decide +kernel
theorem d_1_51 : decode (cM 1) 51 = .ok (.iload_n 3, 1) := by decide +kernel
theorem d_1_52 : decode (cM 1) 52 = .ok (.iload 5, 2) := by decide +kernel
theorem d_1_54 : decode (cM 1) 54 = .ok (.ishr, 1) := by decide +kernel
theorem d_1_55 : decode (cM 1) 55 = .ok (.iconst 1, 1) := by decide +kernel
theorem d_1_56 : decode (cM 1) 56 = .ok (.iand, 1) := by decide +kernel
theorem d_1_57 : decode (cM 1) 57 = .ok (.ifCond .eq 71, 3) := by decide +kernel
theorem d_1_60 : decode (cM 1) 60 = .ok (.aload_n 0, 1) := by decide +kernel
theorem d_1_61 : decode (cM 1) 61 = .ok (.aload_n 1, 1) := by decide +kernel
theorem d_1_62 : decode (cM 1) 62 = .ok (.iload 5, 2) := by decide +kernel
theorem d_1_64 : decode (cM 1) 64 = .ok (.iaload, 1) := by decide +kernel
theorem d_1_65 : decode (cM 1) 65 = .ok (.invokevirtual 18, 3) := by decide +kernel
theorem kc_1_65 : callT (oM 1) 18 = some (0, 3, 1) ∧ fok 1 3 = true ∧ stM 3 = false := by decide +kernel
theorem d_1_68 : decode (cM 1) 68 = .ok (.bipush 31, 2) := by decide +kernel
theorem d_1_70 : decode (cM 1) 70 = .ok (.aload_n 0, 1) := by decide +kernel
theorem d_1_71 : decode (cM 1) 71 = .ok (.getfield 22, 3) := by decide +kernel
theorem d_1_74 : decode (cM 1) 74 = .ok (.invokestatic 26, 3) := by decide +kernel
theorem kc_1_74 : callT (oM 1) 26 = some (1, 274, 1) ∧ fok 1 274 = true ∧ stM 274 = true := by decide +kernel
theorem d_1_77 : decode (cM 1) 77 = .ok (.isub, 1) := by decide +kernel
theorem d_1_78 : decode (cM 1) 78 = .ok (.istore 6, 2) := by decide +kernel
theorem d_1_80 : decode (cM 1) 80 = .ok (.iload 6, 2) := by decide +kernel
theorem d_1_82 : decode (cM 1) 82 = .ok (.ifCond .lt 46, 3) := by decide +kernel
theorem d_1_85 : decode (cM 1) 85 = .ok (.iload 6, 2) := by decide +kernel
theorem d_1_87 : decode (cM 1) 87 = .ok (.bipush 14, 2) := by decide +kernel
theorem d_1_89 : decode (cM 1) 89 = .ok (.if_icmp .ge 39, 3) := by decide +kernel
theorem d_1_92 : decode (cM 1) 92 = .ok (.aload_n 0, 1) := by decide +kernel
theorem d_1_93 : decode (cM 1) 93 = .ok (.getfield 9, 3) := by decide +kernel
theorem d_1_96 : decode (cM 1) 96 = .ok (.iload 6, 2) := by decide +kernel
theorem d_1_98 : decode (cM 1) 98 = .ok (.aload_n 0, 1) := by decide +kernel
theorem d_1_99 : decode (cM 1) 99 = .ok (.getfield 22, 3) := by decide +kernel
theorem d_1_102 : decode (cM 1) 102 = .ok (.iastore, 1) := by decide +kernel
theorem d_1_103 : decode (cM 1) 103 = .ok (.aload_n 0, 1) := by decide +kernel
theorem d_1_104 : decode (cM 1) 104 = .ok (.getfield 15, 3) := by decide +kernel
theorem d_1_107 : decode (cM 1) 107 = .ok (.iload 6, 2) := by decide +kernel
theorem d_1_109 : decode (cM 1) 109 = .ok (.aload_n 0, 1) := by decide +kernel
theorem d_1_110 : decode (cM 1) 110 = .ok (.getfield 32, 3) := by decide +kernel
theorem d_1_113 : decode (cM 1) 113 = .ok (.iconst 1, 1) := by decide +kernel
theorem d_1_114 : decode (cM 1) 114 = .ok (.iload 5, 2) := by decide +kernel
theorem d_1_116 : decode (cM 1) 116 = .ok (.ishl, 1) := by decide +kernel
theorem d_1_117 : decode (cM 1) 117 = .ok (.ior, 1) := by decide +kernel
theorem d_1_118 : decode (cM 1) 118 = .ok (.iastore, 1) := by decide +kernel
theorem d_1_119 : decode (cM 1) 119 = .ok (.iload 4, 2) := by decide +kernel
theorem d_1_121 : decode (cM 1) 121 = .ok (.iconst 1, 1) := by decide +kernel
theorem d_1_122 : decode (cM 1) 122 = .ok (.iload 5, 2) := by decide +kernel
theorem d_1_124 : decode (cM 1) 124 = .ok (.ishl, 1) := by decide +kernel
theorem d_1_125 : decode (cM 1) 125 = .ok (.ior, 1) := by decide +kernel
theorem d_1_126 : decode (cM 1) 126 = .ok (.istore 4, 2) := by decide +kernel
theorem d_1_128 : decode (cM 1) 128 = .ok (.iinc 5 1, 3) := by decide +kernel
theorem d_1_131 : decode (cM 1) 131 = .ok (.goto (-93), 3) := by decide +kernel
theorem d_1_134 : decode (cM 1) 134 = .ok (.iload 4, 2) := by decide +kernel
theorem d_1_136 : decode (cM 1) 136 = .ok (.ireturn, 1) := by decide +kernel
theorem d_2_0 : decode (cM 2) 0 = .ok (.aload_n 0, 1) := by decide +kernel
theorem d_2_1 : decode (cM 2) 1 = .ok (.iload_n 1, 1) := by decide +kernel
theorem d_2_2 : decode (cM 2) 2 = .ok (.invokevirtual 18, 3) := by decide +kernel
theorem kc_2_2 : callT (oM 2) 18 = some (0, 3, 1) ∧ fok 2 3 = true ∧ stM 3 = false := by decide +kernel
theorem d_2_5 : decode (cM 2) 5 = .ok (.aload_n 0, 1) := by decide +kernel
theorem d_2_6 : decode (cM 2) 6 = .ok (.getfield 22, 3) := by decide +kernel
theorem d_2_9 : decode (cM 2) 9 = .ok (.ifCond .ne 10, 3) := by decide +kernel
theorem d_2_12 : decode (cM 2) 12 = .ok (.aload_n 0, 1) := by decide +kernel
theorem d_2_13 : decode (cM 2) 13 = .ok (.getfield 32, 3) := by decide +kernel
theorem d_2_16 : decode (cM 2) 16 = .ok (.goto 5, 3) := by decide +kernel
theorem d_2_19 : decode (cM 2) 19 = .ok (.bipush (-2), 2) := by decide +kernel
theorem d_2_21 : decode (cM 2) 21 = .ok (.ireturn, 1) := by decide +kernel
theorem d_3_0 : decode (cM 3) 0 = .ok (.aload_n 0, 1) := by decide +kernel
theorem d_3_1 : decode (cM 3) 1 = .ok (.iload_n 1, 1) := by decide +kernel
theorem d_3_2 : decode (cM 3) 2 = .ok (.putfield 22, 3) := by decide +kernel
theorem d_3_5 : decode (cM 3) 5 = .ok (.aload_n 0, 1) := by decide +kernel
theorem d_3_6 : decode (cM 3) 6 = .ok (.iconst 0, 1) := by decide +kernel
theorem d_3_7 : decode (cM 3) 7 = .ok (.putfield 32, 3) := by decide +kernel
theorem d_3_10 : decode (cM 3) 10 = .ok (.bipush 13, 2) := by decide +kernel
theorem d_3_12 : decode (cM 3) 12 = .ok (.istore_n 2, 1) := by decide +kernel
theorem d_3_13 : decode (cM 3) 13 = .ok (.iload_n 2, 1) := by decide +kernel
theorem d_3_14 : decode (cM 3) 14 = .ok (.ifCond .lt 50, 3) := by decide +kernel
theorem d_3_17 : decode (cM 3) 17 = .ok (.aload_n 0, 1) := by decide +kernel
theorem d_3_18 : decode (cM 3) 18 = .ok (.getfield 22, 3) := by decide +kernel
theorem d_3_21 : decode (cM 3) 21 = .ok (.iload_n 2, 1) := by decide +kernel
theorem d_3_22 : decode (cM 3) 22 = .ok (.ishr, 1) := by decide +kernel
theorem d_3_23 : decode (cM 3) 23 = .ok (.iconst 1, 1) := by decide +kernel
theorem d_3_24 : decode (cM 3) 24 = .ok (.iand, 1) := by decide +kernel
theorem d_3_25 : decode (cM 3) 25 = .ok (.ifCond .eq 33, 3) := by decide +kernel
theorem d_3_28 : decode (cM 3) 28 = .ok (.aload_n 0, 1) := by decide +kernel
theorem d_3_29 : decode (cM 3) 29 = .ok (.dup, 1) := by decide +kernel
theorem d_3_30 : decode (cM 3) 30 = .ok (.getfield 22, 3) := by decide +kernel
theorem d_3_33 : decode (cM 3) 33 = .ok (.aload_n 0, 1) := by decide +kernel
theorem d_3_34 : decode (cM 3) 34 = .ok (.getfield 9, 3) := by decide +kernel
theorem d_3_37 : decode (cM 3) 37 = .ok (.iload_n 2, 1) := by decide +kernel
theorem d_3_38 : decode (cM 3) 38 = .ok (.iaload, 1) := by decide +kernel
theorem d_3_39 : decode (cM 3) 39 = .ok (.ixor, 1) := by decide +kernel
theorem d_3_40 : decode (cM 3) 40 = .ok (.putfield 22, 3) := by decide +kernel
theorem d_3_43 : decode (cM 3) 43 = .ok (.aload_n 0, 1) := by decide +kernel
theorem d_3_44 : decode (cM 3) 44 = .ok (.dup, 1) := by decide +kernel
theorem d_3_45 : decode (cM 3) 45 = .ok (.getfield 32, 3) := by decide +kernel
theorem d_3_48 : decode (cM 3) 48 = .ok (.aload_n 0, 1) := by decide +kernel
theorem d_3_49 : decode (cM 3) 49 = .ok (.getfield 15, 3) := by decide +kernel
theorem d_3_52 : decode (cM 3) 52 = .ok (.iload_n 2, 1) := by decide +kernel
theorem d_3_53 : decode (cM 3) 53 = .ok (.iaload, 1) := by decide +kernel
theorem d_3_54 : decode (cM 3) 54 = .ok (.ixor, 1) := by decide +kernel
theorem d_3_55 : decode (cM 3) 55 = .ok (.putfield 32, 3) := by decide +kernel
theorem d_3_58 : decode (cM 3) 58 = .ok (.iinc 2 (-1), 3) := by decide +kernel
theorem d_3_61 : decode (cM 3) 61 = .ok (.goto (-48), 3) := by decide +kernel
theorem d_3_64 : decode (cM 3) 64 = .ok (.return_, 1) := by decide +kernel
theorem d_4_0 : decode (cM 4) 0 = .ok (.aload_n 0, 1) := by decide +kernel
theorem d_4_1 : decode (cM 4) 1 = .ok (.invokespecial 3, 3) := by decide +kernel
theorem d_4_4 : decode (cM 4) 4 = .ok (.aload_n 0, 1) := by decide +kernel
theorem d_4_5 : decode (cM 4) 5 = .ok (.bipush 7, 2) := by decide +kernel
theorem d_4_7 : decode (cM 4) 7 = .ok (.newarray .int, 2) := by decide +kernel
theorem d_4_9 : decode (cM 4) 9 = .ok (.putfield 9, 3) := by decide +kernel
theorem d_4_12 : decode (cM 4) 12 = .ok (.aload_n 0, 1) := by decide +kernel
theorem d_4_13 : decode (cM 4) 13 = .ok (.bipush 64, 2) := by decide +kernel
theorem d_4_15 : decode (cM 4) 15 = .ok (.newarray .long, 2) := by decide +kernel
theorem d_4_17 : decode (cM 4) 17 = .ok (.putfield 15, 3) := by decide +kernel
theorem d_4_20 : decode (cM 4) 20 = .ok (.return_, 1) := by decide +kernel
theorem d_5_0 : decode (cM 5) 0 = .ok (.aload_n 0, 1) := by decide +kernel
theorem d_5_1 : decode (cM 5) 1 = .ok (.iconst 1, 1) := by decide +kernel
theorem d_5_2 : decode (cM 5) 2 = .ok (.putfield 19, 3) := by decide +kernel
theorem d_5_5 : decode (cM 5) 5 = .ok (.aload_n 0, 1) := by decide +kernel
theorem d_5_6 : decode (cM 5) 6 = .ok (.iconst (-1), 1) := by decide +kernel
theorem d_5_7 : decode (cM 5) 7 = .ok (.iconst (-1), 1) := by decide +kernel
theorem d_5_8 : decode (cM 5) 8 = .ok (.invokevirtual 23, 3) := by decide +kernel
theorem kc_5_8 : callT (oM 5) 23 = some (0, 7, 2) ∧ fok 5 7 = true ∧ stM 7 = false := by decide +kernel
theorem d_5_11 : decode (cM 5) 11 = .ok (.return_, 1) := by decide +kernel
theorem d_6_0 : decode (cM 6) 0 = .ok (.aload_n 0, 1) := by decide +kernel
theorem d_6_1 : decode (cM 6) 1 = .ok (.iconst 0, 1) := by decide +kernel
theorem d_6_2 : decode (cM 6) 2 = .ok (.putfield 19, 3) := by decide +kernel
theorem d_6_5 : decode (cM 6) 5 = .ok (.aload_n 0, 1) := by decide +kernel
theorem d_6_6 : decode (cM 6) 6 = .ok (.iconst (-1), 1) := by decide +kernel
theorem d_6_7 : decode (cM 6) 7 = .ok (.iconst (-1), 1) := by decide +kernel
theorem d_6_8 : decode (cM 6) 8 = .ok (.invokevirtual 23, 3) := by decide +kernel
theorem kc_6_8 : callT (oM 6) 23 = some (0, 7, 2) ∧ fok 6 7 = true ∧ stM 7 = false := by decide +kernel
theorem d_6_11 : decode (cM 6) 11 = .ok (.return_, 1) := by decide +kernel
theorem d_7_0 : decode (cM 7) 0 = .ok (.aload_n 0, 1) := by decide +kernel
theorem d_7_1 : decode (cM 7) 1 = .ok (.iload_n 1, 1) := by decide +kernel
theorem d_7_2 : decode (cM 7) 2 = .ok (.ifCond .eq 7, 3) := by decide +kernel
theorem d_7_5 : decode (cM 7) 5 = .ok (.iconst 1, 1) := by decide +kernel
theorem d_7_6 : decode (cM 7) 6 = .ok (.goto 4, 3) := by decide +kernel
theorem d_7_9 : decode (cM 7) 9 = .ok (.iconst 0, 1) := by decide +kernel
theorem d_7_10 : decode (cM 7) 10 = .ok (.putfield 27, 3) := by decide +kernel
theorem d_7_13 : decode (cM 7) 13 = .ok (.aload_n 0, 1) := by decide +kernel
theorem d_7_14 : decode (cM 7) 14 = .ok (.iload_n 1, 1) := by decide +kernel
theorem d_7_15 : decode (cM 7) 15 = .ok (.iconst 1, 1) := by decide +kernel
theorem d_7_16 : decode (cM 7) 16 = .ok (.if_icmp .eq 7, 3) := by decide +kernel
theorem d_7_19 : decode (cM 7) 19 = .ok (.iconst 1, 1) := by decide +kernel
theorem d_7_20 : decode (cM 7) 20 = .ok (.goto 4, 3) := by decide +kernel
theorem d_7_23 : decode (cM 7) 23 = .ok (.iconst 0, 1) := by decide +kernel
theorem d_7_24 : decode (cM 7) 24 = .ok (.putfield 30, 3) := by decide +kernel
theorem d_7_27 : decode (cM 7) 27 = .ok (.aload_n 0, 1) := by decide +kernel
theorem d_7_28 : decode (cM 7) 28 = .ok (.iload_n 1, 1) := by decide +kernel
theorem d_7_29 : decode (cM 7) 29 = .ok (.iconst 2, 1) := by decide +kernel
theorem d_7_30 : decode (cM 7) 30 = .ok (.if_icmp .ne 7, 3) := by decide +kernel
theorem d_7_33 : decode (cM 7) 33 = .ok (.iload_n 2, 1) := by decide +kernel
theorem d_7_34 : decode (cM 7) 34 = .ok (.goto 4, 3) := by decide +kernel
theorem d_7_37 : decode (cM 7) 37 = .ok (.iconst (-1), 1) := by decide +kernel
theorem d_7_38 : decode (cM 7) 38 = .ok (.putfield 33, 3) := by decide +kernel
theorem d_7_41 : decode (cM 7) 41 = .ok (.aload_n 0, 1) := by decide +kernel
theorem d_7_42 : decode (cM 7) 42 = .ok (.iload_n 1, 1) := by decide +kernel
theorem d_7_43 : decode (cM 7) 43 = .ok (.iconst 3, 1) := by decide +kernel
theorem d_7_44 : decode (cM 7) 44 = .ok (.if_icmp .eq 7, 3) := by decide +kernel
theorem d_7_47 : decode (cM 7) 47 = .ok (.iconst 1, 1) := by decide +kernel
theorem d_7_48 : decode (cM 7) 48 = .ok (.goto 4, 3) := by decide +kernel
theorem d_7_51 : decode (cM 7) 51 = .ok (.iconst 0, 1) := by decide +kernel
theorem d_7_52 : decode (cM 7) 52 = .ok (.putfield 37, 3) := by decide +kernel
theorem d_7_55 : decode (cM 7) 55 = .ok (.return_, 1) := by decide +kernel
theorem d_8_0 : decode (cM 8) 0 = .ok (.iconst 0, 1) := by decide +kernel
theorem d_8_1 : decode (cM 8) 1 = .ok (.istore 4, 2) := by decide +kernel
theorem d_8_3 : decode (cM 8) 3 = .ok (.iload 4, 2) := by decide +kernel
theorem d_8_5 : decode (cM 8) 5 = .ok (.iload_n 3, 1) := by decide +kernel
theorem d_8_6 : decode (cM 8) 6 = .ok (.if_icmp .ge 138, 3) := by decide +kernel
theorem d_8_9 : decode (cM 8) 9 = .ok (.aload_n 0, 1) := by decide +kernel
theorem d_8_10 : decode (cM 8) 10 = .ok (.getfield 37, 3) := by decide +kernel
theorem d_8_13 : decode (cM 8) 13 = .ok (.ifCond .eq 18, 3) := by decide +kernel
theorem d_8_16 : decode (cM 8) 16 = .ok (.aload_n 1, 1) := by decide +kernel
theorem d_8_17 : decode (cM 8) 17 = .ok (.aload_n 2, 1) := by decide +kernel
theorem d_8_18 : decode (cM 8) 18 = .ok (.getfield 40, 3) := by decide +kernel
theorem d_8_21 : decode (cM 8) 21 = .ok (.invokevirtual 45, 3) := by decide +kernel
theorem kc_8_21 : callT (oM 8) 45 = some (0, 94, 1) ∧ fok 8 94 = true ∧ stM 94 = false := by decide +kernel
theorem d_8_24 : decode (cM 8) 24 = .ok (.ifCond .eq 7, 3) := by decide +kernel
theorem d_8_27 : decode (cM 8) 27 = .ok (.aload_n 2, 1) := by decide +kernel
theorem d_8_28 : decode (cM 8) 28 = .ok (.invokevirtual 51, 3) := by decide +kernel
theorem kc_8_28 : callT (oM 8) 51 = some (0, 24, 0) ∧ fok 8 24 = true ∧ stM 24 = false := by decide +kernel
theorem d_8_31 : decode (cM 8) 31 = .ok (.iconst 0, 1) := by decide +kernel
theorem d_8_32 : decode (cM 8) 32 = .ok (.istore 5, 2) := by decide +kernel
theorem d_8_34 : decode (cM 8) 34 = .ok (.iload 5, 2) := by decide +kernel
theorem d_8_36 : decode (cM 8) 36 = .ok (.aload_n 1, 1) := by decide +kernel
theorem d_8_37 : decode (cM 8) 37 = .ok (.getfield 54, 3) := by decide +kernel
theorem d_8_40 : decode (cM 8) 40 = .ok (.if_icmp .ge 50, 3) := by decide +kernel
theorem d_8_43 : decode (cM 8) 43 = .ok (.aload_n 1, 1) := by decide +kernel
theorem d_8_44 : decode (cM 8) 44 = .ok (.getfield 57, 3) := by decide +kernel
theorem d_8_47 : decode (cM 8) 47 = .ok (.iload 5, 2) := by decide +kernel
theorem d_8_49 : decode (cM 8) 49 = .ok (.iaload, 1) := by decide +kernel
theorem d_8_50 : decode (cM 8) 50 = .ok (.aload_n 2, 1) := by decide +kernel
theorem d_8_51 : decode (cM 8) 51 = .ok (.getfield 40, 3) := by decide +kernel
theorem d_8_54 : decode (cM 8) 54 = .ok (.if_icmp .ne 30, 3) := by decide +kernel
theorem d_8_57 : decode (cM 8) 57 = .ok (.aload_n 1, 1) := by decide +kernel
theorem d_8_58 : decode (cM 8) 58 = .ok (.getfield 60, 3) := by decide +kernel
theorem d_8_61 : decode (cM 8) 61 = .ok (.iload 5, 2) := by decide +kernel
theorem d_8_63 : decode (cM 8) 63 = .ok (.iaload, 1) := by decide +kernel
theorem d_8_64 : decode (cM 8) 64 = .ok (.aload_n 0, 1) := by decide +kernel
theorem d_8_65 : decode (cM 8) 65 = .ok (.getfield 33, 3) := by decide +kernel
theorem d_8_68 : decode (cM 8) 68 = .ok (.if_icmp .eq 16, 3) := by decide +kernel
theorem d_8_71 : decode (cM 8) 71 = .ok (.aload_n 0, 1) := by decide +kernel
theorem d_8_72 : decode (cM 8) 72 = .ok (.aload_n 1, 1) := by decide +kernel
theorem d_8_73 : decode (cM 8) 73 = .ok (.aload_n 2, 1) := by decide +kernel
theorem d_8_74 : decode (cM 8) 74 = .ok (.aload_n 1, 1) := by decide +kernel
theorem d_8_75 : decode (cM 8) 75 = .ok (.getfield 60, 3) := by decide +kernel
theorem d_8_78 : decode (cM 8) 78 = .ok (.iload 5, 2) := by decide +kernel
theorem d_8_80 : decode (cM 8) 80 = .ok (.iaload, 1) := by decide +kernel
theorem d_8_81 : decode (cM 8) 81 = .ok (.invokevirtual 63, 3) := by decide +kernel
theorem kc_8_81 : callT (oM 8) 63 = some (0, 9, 3) ∧ fok 8 9 = true ∧ stM 9 = false := by decide +kernel
theorem d_8_84 : decode (cM 8) 84 = .ok (.iinc 5 1, 3) := by decide +kernel
theorem d_8_87 : decode (cM 8) 87 = .ok (.goto (-53), 3) := by decide +kernel
theorem d_8_90 : decode (cM 8) 90 = .ok (.iconst 0, 1) := by decide +kernel
theorem d_8_91 : decode (cM 8) 91 = .ok (.istore 5, 2) := by decide +kernel
theorem d_8_93 : decode (cM 8) 93 = .ok (.iload 5, 2) := by decide +kernel
theorem d_8_95 : decode (cM 8) 95 = .ok (.aload_n 1, 1) := by decide +kernel
theorem d_8_96 : decode (cM 8) 96 = .ok (.getfield 67, 3) := by decide +kernel
theorem d_8_99 : decode (cM 8) 99 = .ok (.if_icmp .ge 29, 3) := by decide +kernel
theorem d_8_102 : decode (cM 8) 102 = .ok (.aload_n 2, 1) := by decide +kernel
theorem d_8_103 : decode (cM 8) 103 = .ok (.invokevirtual 70, 3) := by decide +kernel
theorem kc_8_103 : callT (oM 8) 70 = some (0, 20, 0) ∧ fok 8 20 = true ∧ stM 20 = false := by decide +kernel
theorem d_8_106 : decode (cM 8) 106 = .ok (.iload 5, 2) := by decide +kernel
theorem d_8_108 : decode (cM 8) 108 = .ok (.ishr, 1) := by decide +kernel
theorem d_8_109 : decode (cM 8) 109 = .ok (.iconst 1, 1) := by decide +kernel
theorem d_8_110 : decode (cM 8) 110 = .ok (.iand, 1) := by decide +kernel
theorem d_8_111 : decode (cM 8) 111 = .ok (.ifCond .eq 11, 3) := by decide +kernel
theorem d_8_114 : decode (cM 8) 114 = .ok (.aload_n 0, 1) := by decide +kernel
theorem d_8_115 : decode (cM 8) 115 = .ok (.aload_n 1, 1) := by decide +kernel
theorem d_8_116 : decode (cM 8) 116 = .ok (.aload_n 2, 1) := by decide +kernel
theorem d_8_117 : decode (cM 8) 117 = .ok (.iload 5, 2) := by decide +kernel
theorem d_8_119 : decode (cM 8) 119 = .ok (.invokevirtual 74, 3) := by decide +kernel
theorem kc_8_119 : callT (oM 8) 74 = some (0, 10, 3) ∧ fok 8 10 = true ∧ stM 10 = false := by decide +kernel
theorem d_8_122 : decode (cM 8) 122 = .ok (.iinc 5 1, 3) := by decide +kernel
theorem d_8_125 : decode (cM 8) 125 = .ok (.goto (-32), 3) := by decide +kernel
theorem d_8_128 : decode (cM 8) 128 = .ok (.aload_n 2, 1) := by decide +kernel
theorem d_8_129 : decode (cM 8) 129 = .ok (.dup, 1) := by decide +kernel
theorem d_8_130 : decode (cM 8) 130 = .ok (.getfield 40, 3) := by decide +kernel
theorem d_8_133 : decode (cM 8) 133 = .ok (.iconst 1, 1) := by decide +kernel
theorem d_8_134 : decode (cM 8) 134 = .ok (.iadd, 1) := by decide +kernel
theorem d_8_135 : decode (cM 8) 135 = .ok (.putfield 40, 3) := by decide +kernel
theorem d_8_138 : decode (cM 8) 138 = .ok (.iinc 4 1, 3) := by decide +kernel
theorem d_8_141 : decode (cM 8) 141 = .ok (.goto (-138), 3) := by decide +kernel
theorem d_8_144 : decode (cM 8) 144 = .ok (.return_, 1) := by decide +kernel
theorem d_9_0 : decode (cM 9) 0 = .ok (.iload_n 3, 1) := by decide +kernel
theorem d_9_1 : decode (cM 9) 1 = .ok (.ifCond .lt 11, 3) := by decide +kernel
theorem d_9_4 : decode (cM 9) 4 = .ok (.iload_n 3, 1) := by decide +kernel
theorem d_9_5 : decode (cM 9) 5 = .ok (.aload_n 1, 1) := by decide +kernel
theorem d_9_6 : decode (cM 9) 6 = .ok (.getfield 77, 3) := by decide +kernel
theorem d_9_9 : decode (cM 9) 9 = .ok (.if_icmp .lt 4, 3) := by decide +kernel
theorem d_9_12 : decode (cM 9) 12 = .ok (.return_, 1) := by decide +kernel
theorem d_9_13 : decode (cM 9) 13 = .ok (.aload_n 2, 1) := by decide +kernel
theorem d_9_14 : decode (cM 9) 14 = .ok (.getfield 80, 3) := by decide +kernel
theorem d_9_17 : decode (cM 9) 17 = .ok (.iload_n 3, 1) := by decide +kernel
theorem d_9_18 : decode (cM 9) 18 = .ok (.ishr, 1) := by decide +kernel
theorem d_9_19 : decode (cM 9) 19 = .ok (.iconst 1, 1) := by decide +kernel
theorem d_9_20 : decode (cM 9) 20 = .ok (.iand, 1) := by decide +kernel
theorem d_9_21 : decode (cM 9) 21 = .ok (.ifCond .eq 14, 3) := by decide +kernel
theorem d_9_24 : decode (cM 9) 24 = .ok (.aload_n 2, 1) := by decide +kernel
theorem d_9_25 : decode (cM 9) 25 = .ok (.dup, 1) := by decide +kernel
theorem d_9_26 : decode (cM 9) 26 = .ok (.getfield 83, 3) := by decide +kernel
theorem d_9_29 : decode (cM 9) 29 = .ok (.iconst 1, 1) := by decide +kernel
theorem d_9_30 : decode (cM 9) 30 = .ok (.iadd, 1) := by decide +kernel
theorem d_9_31 : decode (cM 9) 31 = .ok (.putfield 83, 3) := by decide +kernel
theorem d_9_34 : decode (cM 9) 34 = .ok (.return_, 1) := by decide +kernel
theorem d_9_35 : decode (cM 9) 35 = .ok (.aload_n 0, 1) := by decide +kernel
theorem d_9_36 : decode (cM 9) 36 = .ok (.aload_n 1, 1) := by decide +kernel
theorem d_9_37 : decode (cM 9) 37 = .ok (.aload_n 2, 1) := by decide +kernel
theorem d_9_38 : decode (cM 9) 38 = .ok (.iconst 0, 1) := by decide +kernel
theorem d_9_39 : decode (cM 9) 39 = .ok (.iload_n 3, 1) := by decide +kernel
theorem d_9_40 : decode (cM 9) 40 = .ok (.invokevirtual 86, 3) := by decide +kernel
theorem kc_9_40 : callT (oM 9) 86 = some (0, 11, 4) ∧ fok 9 11 = true ∧ stM 11 = false := by decide +kernel
theorem d_9_43 : decode (cM 9) 43 = .ok (.lstore 4, 2) := by decide +kernel
theorem d_9_45 : decode (cM 9) 45 = .ok (.lload 4, 2) := by decide +kernel
theorem d_9_47 : decode (cM 9) 47 = .ok (.ldc2_w 90, 3) := by decide +kernel
theorem d_9_50 : decode (cM 9) 50 = .ok (.lcmp, 1) := by decide +kernel
theorem d_9_51 : decode (cM 9) 51 = .ok (.ifCond .ne 13, 3) := by decide +kernel
theorem d_9_54 : decode (cM 9) 54 = .ok (.aload_n 1, 1) := by decide +kernel
theorem d_9_55 : decode (cM 9) 55 = .ok (.getfield 92, 3) := by decide +kernel
theorem d_9_58 : decode (cM 9) 58 = .ok (.iload_n 3, 1) := by decide +kernel
theorem d_9_59 : decode (cM 9) 59 = .ok (.iaload, 1) := by decide +kernel
theorem d_9_60 : decode (cM 9) 60 = .ok (.i2l, 1) := by decide +kernel
theorem d_9_61 : decode (cM 9) 61 = .ok (.goto 15, 3) := by decide +kernel
theorem d_9_64 : decode (cM 9) 64 = .ok (.lconst 0, 1) := by decide +kernel
theorem d_9_65 : decode (cM 9) 65 = .ok (.ldc2_w 95, 3) := by decide +kernel
theorem d_9_68 : decode (cM 9) 68 = .ok (.lload 4, 2) := by decide +kernel
theorem d_9_70 : decode (cM 9) 70 = .ok (.invokestatic 97, 3) := by decide +kernel
theorem kc_9_70 : callT (oM 9) 97 = some (1, 281, 2) ∧ fok 9 281 = true ∧ stM 281 = true := by decide +kernel
theorem d_9_73 : decode (cM 9) 73 = .ok (.invokestatic 103, 3) := by decide +kernel
theorem kc_9_73 : callT (oM 9) 103 = some (1, 279, 2) ∧ fok 9 279 = true ∧ stM 279 = true := by decide +kernel
theorem d_9_76 : decode (cM 9) 76 = .ok (.lstore 4, 2) := by decide +kernel
theorem d_9_78 : decode (cM 9) 78 = .ok (.aload_n 2, 1) := by decide +kernel
theorem d_9_79 : decode (cM 9) 79 = .ok (.dup, 1) := by decide +kernel
theorem d_9_80 : decode (cM 9) 80 = .ok (.getfield 106, 3) := by decide +kernel
theorem d_9_83 : decode (cM 9) 83 = .ok (.aload_n 2, 1) := by decide +kernel
theorem d_9_84 : decode (cM 9) 84 = .ok (.getfield 109, 3) := by decide +kernel
theorem d_9_87 : decode (cM 9) 87 = .ok (.iload_n 3, 1) := by decide +kernel
theorem d_9_88 : decode (cM 9) 88 = .ok (.iaload, 1) := by decide +kernel
theorem d_9_89 : decode (cM 9) 89 = .ok (.ixor, 1) := by decide +kernel
theorem d_9_90 : decode (cM 9) 90 = .ok (.putfield 106, 3) := by decide +kernel
theorem d_9_93 : decode (cM 9) 93 = .ok (.aload_n 2, 1) := by decide +kernel
theorem d_9_94 : decode (cM 9) 94 = .ok (.ldc 112, 2) := by decide +kernel
theorem d_9_96 : decode (cM 9) 96 = .ok (.aload_n 2, 1) := by decide +kernel
theorem d_9_97 : decode (cM 9) 97 = .ok (.getfield 113, 3) := by decide +kernel
theorem d_9_100 : decode (cM 9) 100 = .ok (.lload 4, 2) := by decide +kernel
theorem d_9_102 : decode (cM 9) 102 = .ok (.l2i, 1) := by decide +kernel
theorem d_9_103 : decode (cM 9) 103 = .ok (.iadd, 1) := by decide +kernel
theorem d_9_104 : decode (cM 9) 104 = .ok (.invokestatic 116, 3) := by decide +kernel
theorem kc_9_104 : callT (oM 9) 116 = some (1, 280, 2) ∧ fok 9 280 = true ∧ stM 280 = true := by decide +kernel
theorem d_9_107 : decode (cM 9) 107 = .ok (.putfield 113, 3) := by decide +kernel
theorem d_9_110 : decode (cM 9) 110 = .ok (.aload_n 2, 1) := by decide +kernel
theorem d_9_111 : decode (cM 9) 111 = .ok (.getfield 119, 3) := by decide +kernel
theorem d_9_114 : decode (cM 9) 114 = .ok (.iload_n 3, 1) := by decide +kernel
theorem d_9_115 : decode (cM 9) 115 = .ok (.sipush 999, 3) := by decide +kernel
theorem d_9_118 : decode (cM 9) 118 = .ok (.aload_n 2, 1) := by decide +kernel
theorem d_9_119 : decode (cM 9) 119 = .ok (.getfield 119, 3) := by decide +kernel
theorem d_9_122 : decode (cM 9) 122 = .ok (.iload_n 3, 1) := by decide +kernel
theorem d_9_123 : decode (cM 9) 123 = .ok (.iaload, 1) := by decide +kernel
theorem d_9_124 : decode (cM 9) 124 = .ok (.iconst 1, 1) := by decide +kernel
theorem d_9_125 : decode (cM 9) 125 = .ok (.iadd, 1) := by decide +kernel
theorem d_9_126 : decode (cM 9) 126 = .ok (.invokestatic 116, 3) := by decide +kernel
theorem kc_9_126 : callT (oM 9) 116 = some (1, 280, 2) ∧ fok 9 280 = true ∧ stM 280 = true := by decide +kernel
theorem d_9_129 : decode (cM 9) 129 = .ok (.iastore, 1) := by decide +kernel
theorem d_9_130 : decode (cM 9) 130 = .ok (.aload_n 0, 1) := by decide +kernel
theorem d_9_131 : decode (cM 9) 131 = .ok (.aload_n 1, 1) := by decide +kernel
theorem d_9_132 : decode (cM 9) 132 = .ok (.aload_n 2, 1) := by decide +kernel
theorem d_9_133 : decode (cM 9) 133 = .ok (.iconst 1, 1) := by decide +kernel
theorem d_9_134 : decode (cM 9) 134 = .ok (.iload_n 3, 1) := by decide +kernel
theorem d_9_135 : decode (cM 9) 135 = .ok (.invokevirtual 86, 3) := by decide +kernel
theorem kc_9_135 : callT (oM 9) 86 = some (0, 11, 4) ∧ fok 9 11 = true ∧ stM 11 = false := by decide +kernel
theorem d_9_138 : decode (cM 9) 138 = .ok (.lstore 6, 2) := by decide +kernel
theorem d_9_140 : decode (cM 9) 140 = .ok (.aload_n 0, 1) := by decide +kernel
theorem d_9_141 : decode (cM 9) 141 = .ok (.getfield 30, 3) := by decide +kernel
theorem d_9_144 : decode (cM 9) 144 = .ok (.ifCond .eq 31, 3) := by decide +kernel
theorem d_9_147 : decode (cM 9) 147 = .ok (.lload 6, 2) := by decide +kernel
theorem d_9_149 : decode (cM 9) 149 = .ok (.lconst 0, 1) := by decide +kernel
theorem d_9_150 : decode (cM 9) 150 = .ok (.lcmp, 1) := by decide +kernel
theorem d_9_151 : decode (cM 9) 151 = .ok (.ifCond .eq 24, 3) := by decide +kernel
theorem d_9_154 : decode (cM 9) 154 = .ok (.lload 6, 2) := by decide +kernel
theorem d_9_156 : decode (cM 9) 156 = .ok (.ldc2_w 90, 3) := by decide +kernel
theorem d_9_159 : decode (cM 9) 159 = .ok (.lcmp, 1) := by decide +kernel
theorem d_9_160 : decode (cM 9) 160 = .ok (.ifCond .eq 15, 3) := by decide +kernel
theorem d_9_163 : decode (cM 9) 163 = .ok (.aload_n 2, 1) := by decide +kernel
theorem d_9_164 : decode (cM 9) 164 = .ok (.dup, 1) := by decide +kernel
theorem d_9_165 : decode (cM 9) 165 = .ok (.getfield 80, 3) := by decide +kernel
theorem d_9_168 : decode (cM 9) 168 = .ok (.iconst 1, 1) := by decide +kernel
theorem d_9_169 : decode (cM 9) 169 = .ok (.iload_n 3, 1) := by decide +kernel
theorem d_9_170 : decode (cM 9) 170 = .ok (.ishl, 1) := by decide +kernel
theorem d_9_171 : decode (cM 9) 171 = .ok (.ior, 1) := by decide +kernel
theorem d_9_172 : decode (cM 9) 172 = .ok (.putfield 80, 3) := by decide +kernel
theorem d_9_175 : decode (cM 9) 175 = .ok (.return_, 1) := by decide +kernel
theorem d_10_0 : decode (cM 10) 0 = .ok (.aload_n 2, 1) := by decide +kernel
theorem d_10_1 : decode (cM 10) 1 = .ok (.getfield 122, 3) := by decide +kernel
theorem d_10_4 : decode (cM 10) 4 = .ok (.iload_n 3, 1) := by decide +kernel
theorem d_10_5 : decode (cM 10) 5 = .ok (.sipush 999, 3) := by decide +kernel
theorem d_10_8 : decode (cM 10) 8 = .ok (.aload_n 2, 1) := by decide +kernel
theorem d_10_9 : decode (cM 10) 9 = .ok (.getfield 122, 3) := by decide +kernel
theorem d_10_12 : decode (cM 10) 12 = .ok (.iload_n 3, 1) := by decide +kernel
theorem d_10_13 : decode (cM 10) 13 = .ok (.iaload, 1) := by decide +kernel
theorem d_10_14 : decode (cM 10) 14 = .ok (.iconst 1, 1) := by decide +kernel
theorem d_10_15 : decode (cM 10) 15 = .ok (.iadd, 1) := by decide +kernel
theorem d_10_16 : decode (cM 10) 16 = .ok (.invokestatic 116, 3) := by decide +kernel
theorem kc_10_16 : callT (oM 10) 116 = some (1, 280, 2) ∧ fok 10 280 = true ∧ stM 280 = true := by decide +kernel
theorem d_10_19 : decode (cM 10) 19 = .ok (.iastore, 1) := by decide +kernel
theorem d_10_20 : decode (cM 10) 20 = .ok (.aload_n 0, 1) := by decide +kernel
theorem d_10_21 : decode (cM 10) 21 = .ok (.aload_n 1, 1) := by decide +kernel
theorem d_10_22 : decode (cM 10) 22 = .ok (.aload_n 2, 1) := by decide +kernel
theorem d_10_23 : decode (cM 10) 23 = .ok (.iconst 2, 1) := by decide +kernel
theorem d_10_24 : decode (cM 10) 24 = .ok (.iload_n 3, 1) := by decide +kernel
theorem d_10_25 : decode (cM 10) 25 = .ok (.invokevirtual 86, 3) := by decide +kernel
theorem kc_10_25 : callT (oM 10) 86 = some (0, 11, 4) ∧ fok 10 11 = true ∧ stM 11 = false := by decide +kernel
theorem d_10_28 : decode (cM 10) 28 = .ok (.lstore 4, 2) := by decide +kernel
theorem d_10_30 : decode (cM 10) 30 = .ok (.lload 4, 2) := by decide +kernel
theorem d_10_32 : decode (cM 10) 32 = .ok (.ldc2_w 90, 3) := by decide +kernel
theorem d_10_35 : decode (cM 10) 35 = .ok (.lcmp, 1) := by decide +kernel
theorem d_10_36 : decode (cM 10) 36 = .ok (.ifCond .ne 10, 3) := by decide +kernel
theorem d_10_39 : decode (cM 10) 39 = .ok (.aload_n 1, 1) := by decide +kernel
theorem d_10_40 : decode (cM 10) 40 = .ok (.invokevirtual 125, 3) := by decide +kernel
theorem kc_10_40 : callT (oM 10) 125 = some (0, 92, 0) ∧ fok 10 92 = true ∧ stM 92 = false := by decide +kernel
theorem d_10_43 : decode (cM 10) 43 = .ok (.goto 16, 3) := by decide +kernel
theorem d_10_46 : decode (cM 10) 46 = .ok (.lconst 0, 1) := by decide +kernel
theorem d_10_47 : decode (cM 10) 47 = .ok (.ldc2_w 128, 3) := by decide +kernel
theorem d_10_50 : decode (cM 10) 50 = .ok (.lload 4, 2) := by decide +kernel
theorem d_10_52 : decode (cM 10) 52 = .ok (.invokestatic 97, 3) := by decide +kernel
theorem kc_10_52 : callT (oM 10) 97 = some (1, 281, 2) ∧ fok 10 281 = true ∧ stM 281 = true := by decide +kernel
theorem d_10_55 : decode (cM 10) 55 = .ok (.invokestatic 103, 3) := by decide +kernel
theorem kc_10_55 : callT (oM 10) 103 = some (1, 279, 2) ∧ fok 10 279 = true ∧ stM 279 = true := by decide +kernel
theorem d_10_58 : decode (cM 10) 58 = .ok (.l2i, 1) := by decide +kernel
theorem d_10_59 : decode (cM 10) 59 = .ok (.istore 6, 2) := by decide +kernel
theorem d_10_61 : decode (cM 10) 61 = .ok (.aload_n 0, 1) := by decide +kernel
theorem d_10_62 : decode (cM 10) 62 = .ok (.getfield 19, 3) := by decide +kernel
theorem d_10_65 : decode (cM 10) 65 = .ok (.ifCond .eq 37, 3) := by decide +kernel
theorem d_10_68 : decode (cM 10) 68 = .ok (.iload 6, 2) := by decide +kernel
theorem d_10_70 : decode (cM 10) 70 = .ok (.ifCond .le 32, 3) := by decide +kernel
theorem d_10_73 : decode (cM 10) 73 = .ok (.iload 6, 2) := by decide +kernel
theorem d_10_75 : decode (cM 10) 75 = .ok (.bipush 100, 2) := by decide +kernel
theorem d_10_77 : decode (cM 10) 77 = .ok (.if_icmp .ge 25, 3) := by decide +kernel
theorem d_10_80 : decode (cM 10) 80 = .ok (.aload_n 2, 1) := by decide +kernel
theorem d_10_81 : decode (cM 10) 81 = .ok (.invokevirtual 130, 3) := by decide +kernel
theorem kc_10_81 : callT (oM 10) 130 = some (0, 25, 0) ∧ fok 10 25 = true ∧ stM 25 = false := by decide +kernel
theorem d_10_84 : decode (cM 10) 84 = .ok (.bipush 100, 2) := by decide +kernel
theorem d_10_86 : decode (cM 10) 86 = .ok (.irem, 1) := by decide +kernel
theorem d_10_87 : decode (cM 10) 87 = .ok (.iload 6, 2) := by decide +kernel
theorem d_10_89 : decode (cM 10) 89 = .ok (.if_icmp .ge 7, 3) := by decide +kernel
theorem d_10_92 : decode (cM 10) 92 = .ok (.iconst 1, 1) := by decide +kernel
theorem d_10_93 : decode (cM 10) 93 = .ok (.goto 4, 3) := by decide +kernel
theorem d_10_96 : decode (cM 10) 96 = .ok (.iconst 0, 1) := by decide +kernel
theorem d_10_97 : decode (cM 10) 97 = .ok (.istore 7, 2) := by decide +kernel
theorem d_10_99 : decode (cM 10) 99 = .ok (.goto 17, 3) := by decide +kernel
theorem d_10_102 : decode (cM 10) 102 = .ok (.iload 6, 2) := by decide +kernel
theorem d_10_104 : decode (cM 10) 104 = .ok (.bipush 50, 2) := by decide +kernel
theorem d_10_106 : decode (cM 10) 106 = .ok (.if_icmp .lt 7, 3) := by decide +kernel
theorem d_10_109 : decode (cM 10) 109 = .ok (.iconst 1, 1) := by decide +kernel
theorem d_10_110 : decode (cM 10) 110 = .ok (.goto 4, 3) := by decide +kernel
theorem d_10_113 : decode (cM 10) 113 = .ok (.iconst 0, 1) := by decide +kernel
theorem d_10_114 : decode (cM 10) 114 = .ok (.istore 7, 2) := by decide +kernel
theorem d_10_116 : decode (cM 10) 116 = .ok (.aload_n 0, 1) := by decide +kernel
theorem d_10_117 : decode (cM 10) 117 = .ok (.getfield 27, 3) := by decide +kernel
theorem d_10_120 : decode (cM 10) 120 = .ok (.ifCond .eq 20, 3) := by decide +kernel
theorem d_10_123 : decode (cM 10) 123 = .ok (.iload 7, 2) := by decide +kernel
theorem d_10_125 : decode (cM 10) 125 = .ok (.ifCond .eq 15, 3) := by decide +kernel
theorem d_10_128 : decode (cM 10) 128 = .ok (.aload_n 2, 1) := by decide +kernel
theorem d_10_129 : decode (cM 10) 129 = .ok (.dup, 1) := by decide +kernel
theorem d_10_130 : decode (cM 10) 130 = .ok (.getfield 133, 3) := by decide +kernel
theorem d_10_133 : decode (cM 10) 133 = .ok (.iconst 1, 1) := by decide +kernel
theorem d_10_134 : decode (cM 10) 134 = .ok (.iload_n 3, 1) := by decide +kernel
theorem d_10_135 : decode (cM 10) 135 = .ok (.ishl, 1) := by decide +kernel
theorem d_10_136 : decode (cM 10) 136 = .ok (.ior, 1) := by decide +kernel
theorem d_10_137 : decode (cM 10) 137 = .ok (.putfield 133, 3) := by decide +kernel
theorem d_10_140 : decode (cM 10) 140 = .ok (.return_, 1) := by decide +kernel
theorem d_11_0 : decode (cM 11) 0 = .ok (.aload_n 1, 1) := by decide +kernel
theorem d_11_1 : decode (cM 11) 1 = .ok (.iload_n 3, 1) := by decide +kernel
theorem d_11_2 : decode (cM 11) 2 = .ok (.invokevirtual 136, 3) := by decide +kernel
theorem kc_11_2 : callT (oM 11) 136 = some (0, 91, 1) ∧ fok 11 91 = true ∧ stM 91 = false := by decide +kernel
theorem d_11_5 : decode (cM 11) 5 = .ok (.ifCond .ne 7, 3) := by decide +kernel
theorem d_11_8 : decode (cM 11) 8 = .ok (.ldc2_w 90, 3) := by decide +kernel
theorem d_11_11 : decode (cM 11) 11 = .ok (.lreturn, 1) := by decide +kernel
theorem d_11_12 : decode (cM 11) 12 = .ok (.iload_n 3, 1) := by decide +kernel
theorem d_11_13 : decode (cM 11) 13 = .ok (.iconst 2, 1) := by decide +kernel
theorem d_11_14 : decode (cM 11) 14 = .ok (.if_icmp .eq 7, 3) := by decide +kernel
theorem d_11_17 : decode (cM 11) 17 = .ok (.iconst 1, 1) := by decide +kernel
theorem d_11_18 : decode (cM 11) 18 = .ok (.goto 4, 3) := by decide +kernel
theorem d_11_21 : decode (cM 11) 21 = .ok (.iconst 0, 1) := by decide +kernel
theorem d_11_22 : decode (cM 11) 22 = .ok (.istore 5, 2) := by decide +kernel
theorem d_11_24 : decode (cM 11) 24 = .ok (.aload_n 0, 1) := by decide +kernel
theorem d_11_25 : decode (cM 11) 25 = .ok (.getfield 9, 3) := by decide +kernel
theorem d_11_28 : decode (cM 11) 28 = .ok (.iconst 0, 1) := by decide +kernel
theorem d_11_29 : decode (cM 11) 29 = .ok (.iload 5, 2) := by decide +kernel
theorem d_11_31 : decode (cM 11) 31 = .ok (.ifCond .eq 13, 3) := by decide +kernel
theorem d_11_34 : decode (cM 11) 34 = .ok (.aload_n 1, 1) := by decide +kernel
theorem d_11_35 : decode (cM 11) 35 = .ok (.getfield 92, 3) := by decide +kernel
theorem d_11_38 : decode (cM 11) 38 = .ok (.iload 4, 2) := by decide +kernel
theorem d_11_40 : decode (cM 11) 40 = .ok (.iaload, 1) := by decide +kernel
theorem d_11_41 : decode (cM 11) 41 = .ok (.goto 4, 3) := by decide +kernel
theorem d_11_44 : decode (cM 11) 44 = .ok (.iconst 0, 1) := by decide +kernel
theorem d_11_45 : decode (cM 11) 45 = .ok (.iastore, 1) := by decide +kernel
theorem d_11_46 : decode (cM 11) 46 = .ok (.aload_n 0, 1) := by decide +kernel
theorem d_11_47 : decode (cM 11) 47 = .ok (.getfield 9, 3) := by decide +kernel
theorem d_11_50 : decode (cM 11) 50 = .ok (.iconst 1, 1) := by decide +kernel
theorem d_11_51 : decode (cM 11) 51 = .ok (.iload 5, 2) := by decide +kernel
theorem d_11_53 : decode (cM 11) 53 = .ok (.ifCond .eq 13, 3) := by decide +kernel
theorem d_11_56 : decode (cM 11) 56 = .ok (.aload_n 2, 1) := by decide +kernel
theorem d_11_57 : decode (cM 11) 57 = .ok (.getfield 119, 3) := by decide +kernel
theorem d_11_60 : decode (cM 11) 60 = .ok (.iload 4, 2) := by decide +kernel
theorem d_11_62 : decode (cM 11) 62 = .ok (.iaload, 1) := by decide +kernel
theorem d_11_63 : decode (cM 11) 63 = .ok (.goto 4, 3) := by decide +kernel
theorem d_11_66 : decode (cM 11) 66 = .ok (.iconst 0, 1) := by decide +kernel
theorem d_11_67 : decode (cM 11) 67 = .ok (.iastore, 1) := by decide +kernel
theorem d_11_68 : decode (cM 11) 68 = .ok (.aload_n 0, 1) := by decide +kernel
theorem d_11_69 : decode (cM 11) 69 = .ok (.getfield 9, 3) := by decide +kernel
theorem d_11_72 : decode (cM 11) 72 = .ok (.iconst 2, 1) := by decide +kernel
theorem d_11_73 : decode (cM 11) 73 = .ok (.aload_n 2, 1) := by decide +kernel
theorem d_11_74 : decode (cM 11) 74 = .ok (.invokevirtual 70, 3) := by decide +kernel
theorem kc_11_74 : callT (oM 11) 70 = some (0, 20, 0) ∧ fok 11 20 = true ∧ stM 20 = false := by decide +kernel
theorem d_11_77 : decode (cM 11) 77 = .ok (.invokestatic 139, 3) := by decide +kernel
theorem kc_11_77 : callT (oM 11) 139 = some (1, 276, 1) ∧ fok 11 276 = true ∧ stM 276 = true := by decide +kernel
theorem d_11_80 : decode (cM 11) 80 = .ok (.iastore, 1) := by decide +kernel
theorem d_11_81 : decode (cM 11) 81 = .ok (.aload_n 0, 1) := by decide +kernel
theorem d_11_82 : decode (cM 11) 82 = .ok (.getfield 9, 3) := by decide +kernel
theorem d_11_85 : decode (cM 11) 85 = .ok (.iconst 3, 1) := by decide +kernel
theorem d_11_86 : decode (cM 11) 86 = .ok (.iload 5, 2) := by decide +kernel
theorem d_11_88 : decode (cM 11) 88 = .ok (.ifCond .eq 13, 3) := by decide +kernel
theorem d_11_91 : decode (cM 11) 91 = .ok (.aload_n 2, 1) := by decide +kernel
theorem d_11_92 : decode (cM 11) 92 = .ok (.getfield 109, 3) := by decide +kernel
theorem d_11_95 : decode (cM 11) 95 = .ok (.iload 4, 2) := by decide +kernel
theorem d_11_97 : decode (cM 11) 97 = .ok (.iaload, 1) := by decide +kernel
theorem d_11_98 : decode (cM 11) 98 = .ok (.goto 9, 3) := by decide +kernel
theorem d_11_101 : decode (cM 11) 101 = .ok (.aload_n 2, 1) := by decide +kernel
theorem d_11_102 : decode (cM 11) 102 = .ok (.iload 4, 2) := by decide +kernel
theorem d_11_104 : decode (cM 11) 104 = .ok (.invokevirtual 145, 3) := by decide +kernel
theorem kc_11_104 : callT (oM 11) 145 = some (0, 22, 1) ∧ fok 11 22 = true ∧ stM 22 = false := by decide +kernel
theorem d_11_107 : decode (cM 11) 107 = .ok (.invokestatic 139, 3) := by decide +kernel
theorem kc_11_107 : callT (oM 11) 139 = some (1, 276, 1) ∧ fok 11 276 = true ∧ stM 276 = true := by decide +kernel
theorem d_11_110 : decode (cM 11) 110 = .ok (.iastore, 1) := by decide +kernel
theorem d_11_111 : decode (cM 11) 111 = .ok (.aload_n 0, 1) := by decide +kernel
theorem d_11_112 : decode (cM 11) 112 = .ok (.getfield 9, 3) := by decide +kernel
theorem d_11_115 : decode (cM 11) 115 = .ok (.iconst 4, 1) := by decide +kernel
theorem d_11_116 : decode (cM 11) 116 = .ok (.aload_n 2, 1) := by decide +kernel
theorem d_11_117 : decode (cM 11) 117 = .ok (.getfield 133, 3) := by decide +kernel
theorem d_11_120 : decode (cM 11) 120 = .ok (.invokestatic 139, 3) := by decide +kernel
theorem kc_11_120 : callT (oM 11) 139 = some (1, 276, 1) ∧ fok 11 276 = true ∧ stM 276 = true := by decide +kernel
theorem d_11_123 : decode (cM 11) 123 = .ok (.iastore, 1) := by decide +kernel
theorem d_11_124 : decode (cM 11) 124 = .ok (.aload_n 0, 1) := by decide +kernel
theorem d_11_125 : decode (cM 11) 125 = .ok (.getfield 9, 3) := by decide +kernel
theorem d_11_128 : decode (cM 11) 128 = .ok (.iconst 5, 1) := by decide +kernel
theorem d_11_129 : decode (cM 11) 129 = .ok (.iload 5, 2) := by decide +kernel
theorem d_11_131 : decode (cM 11) 131 = .ok (.ifCond .eq 7, 3) := by decide +kernel
theorem d_11_134 : decode (cM 11) 134 = .ok (.iconst 0, 1) := by decide +kernel
theorem d_11_135 : decode (cM 11) 135 = .ok (.goto 10, 3) := by decide +kernel
theorem d_11_138 : decode (cM 11) 138 = .ok (.aload_n 2, 1) := by decide +kernel
theorem d_11_139 : decode (cM 11) 139 = .ok (.getfield 122, 3) := by decide +kernel
theorem d_11_142 : decode (cM 11) 142 = .ok (.iload 4, 2) := by decide +kernel
theorem d_11_144 : decode (cM 11) 144 = .ok (.iaload, 1) := by decide +kernel
theorem d_11_145 : decode (cM 11) 145 = .ok (.iastore, 1) := by decide +kernel
theorem d_11_146 : decode (cM 11) 146 = .ok (.aload_n 0, 1) := by decide +kernel
theorem d_11_147 : decode (cM 11) 147 = .ok (.getfield 9, 3) := by decide +kernel
theorem d_11_150 : decode (cM 11) 150 = .ok (.bipush 6, 2) := by decide +kernel
theorem d_11_152 : decode (cM 11) 152 = .ok (.aload_n 2, 1) := by decide +kernel
theorem d_11_153 : decode (cM 11) 153 = .ok (.getfield 40, 3) := by decide +kernel
theorem d_11_156 : decode (cM 11) 156 = .ok (.iastore, 1) := by decide +kernel
theorem d_11_157 : decode (cM 11) 157 = .ok (.aload_n 0, 1) := by decide +kernel
theorem d_11_158 : decode (cM 11) 158 = .ok (.aload_n 1, 1) := by decide +kernel
theorem d_11_159 : decode (cM 11) 159 = .ok (.iload_n 3, 1) := by decide +kernel
theorem d_11_160 : decode (cM 11) 160 = .ok (.invokevirtual 148, 3) := by decide +kernel
theorem kc_11_160 : callT (oM 11) 148 = some (0, 12, 2) ∧ fok 11 12 = true ∧ stM 12 = false := by decide +kernel
theorem d_11_163 : decode (cM 11) 163 = .ok (.lreturn, 1) := by decide +kernel
theorem d_12_0 : decode (cM 12) 0 = .ok (.iconst 0, 1) := by decide +kernel
theorem d_12_1 : decode (cM 12) 1 = .ok (.istore_n 3, 1) := by decide +kernel
theorem d_12_2 : decode (cM 12) 2 = .ok (.aload_n 1, 1) := by decide +kernel
theorem d_12_3 : decode (cM 12) 3 = .ok (.getfield 152, 3) := by decide +kernel
theorem d_12_6 : decode (cM 12) 6 = .ok (.iload_n 2, 1) := by decide +kernel
theorem d_12_7 : decode (cM 12) 7 = .ok (.iaload, 1) := by decide +kernel
theorem d_12_8 : decode (cM 12) 8 = .ok (.istore 4, 2) := by decide +kernel
theorem d_12_10 : decode (cM 12) 10 = .ok (.iload 4, 2) := by decide +kernel
theorem d_12_12 : decode (cM 12) 12 = .ok (.aload_n 1, 1) := by decide +kernel
theorem d_12_13 : decode (cM 12) 13 = .ok (.getfield 155, 3) := by decide +kernel
theorem d_12_16 : decode (cM 12) 16 = .ok (.iload_n 2, 1) := by decide +kernel
theorem d_12_17 : decode (cM 12) 17 = .ok (.iaload, 1) := by decide +kernel
theorem d_12_18 : decode (cM 12) 18 = .ok (.if_icmp .ge 202, 3) := by decide +kernel
theorem d_12_21 : decode (cM 12) 21 = .ok (.iload 4, 2) := by decide +kernel
theorem d_12_23 : decode (cM 12) 23 = .ok (.bipush 64, 2) := by decide +kernel
theorem d_12_25 : decode (cM 12) 25 = .ok (.if_icmp .ge 195, 3) := by decide +kernel
theorem d_12_28 : decode (cM 12) 28 = .ok (.aload_n 1, 1) := by decide +kernel
theorem d_12_29 : decode (cM 12) 29 = .ok (.getfield 158, 3) := by decide +kernel
theorem d_12_32 : decode (cM 12) 32 = .ok (.iload 4, 2) := by decide +kernel
theorem d_12_34 : decode (cM 12) 34 = .ok (.iaload, 1) := by decide +kernel
theorem d_12_35 : decode (cM 12) 35 = .ok (.istore 5, 2) := by decide +kernel
theorem d_12_37 : decode (cM 12) 37 = .ok (.iload 5, 2) := by decide +kernel
theorem d_12_39 : decode (cM 12) 39 = .ok (.sipush 10000, 3) := by decide +kernel
theorem d_12_42 : decode (cM 12) 42 = .ok (.isub, 1) := by decide +kernel
theorem d_12_43 : decode (cM 12) 43 = .ok (.istore 6, 2) := by decide +kernel
theorem d_12_45 : decode (cM 12) 45 = .ok (.iload 6, 2) := by decide +kernel
theorem d_12_47 : decode (cM 12) 47 = .ok (.ifCond .lt 17, 3) := by decide +kernel
theorem d_12_50 : decode (cM 12) 50 = .ok (.iload 6, 2) := by decide +kernel
theorem d_12_52 : decode (cM 12) 52 = .ok (.bipush 24, 2) := by decide +kernel
theorem d_12_54 : decode (cM 12) 54 = .ok (.if_icmp .lt 54, 3) := by decide +kernel
theorem d_12_57 : decode (cM 12) 57 = .ok (.iload 6, 2) := by decide +kernel
theorem d_12_59 : decode (cM 12) 59 = .ok (.bipush 30, 2) := by decide +kernel
theorem d_12_61 : decode (cM 12) 61 = .ok (.if_icmp .gt 47, 3) := by decide +kernel
theorem d_12_64 : decode (cM 12) 64 = .ok (.iload_n 3, 1) := by decide +kernel
theorem d_12_65 : decode (cM 12) 65 = .ok (.bipush 64, 2) := by decide +kernel
theorem d_12_67 : decode (cM 12) 67 = .ok (.if_icmp .lt 7, 3) := by decide +kernel
theorem d_12_70 : decode (cM 12) 70 = .ok (.ldc2_w 90, 3) := by decide +kernel
theorem d_12_73 : decode (cM 12) 73 = .ok (.lreturn, 1) := by decide +kernel
theorem d_12_74 : decode (cM 12) 74 = .ok (.aload_n 0, 1) := by decide +kernel
theorem d_12_75 : decode (cM 12) 75 = .ok (.getfield 15, 3) := by decide +kernel
theorem d_12_78 : decode (cM 12) 78 = .ok (.iload_n 3, 1) := by decide +kernel
theorem d_12_79 : decode (cM 12) 79 = .ok (.iload 6, 2) := by decide +kernel
theorem d_12_81 : decode (cM 12) 81 = .ok (.ifCond .ge 9, 3) := by decide +kernel
theorem d_12_84 : decode (cM 12) 84 = .ok (.iload 5, 2) := by decide +kernel
theorem d_12_86 : decode (cM 12) 86 = .ok (.i2l, 1) := by decide +kernel
theorem d_12_87 : decode (cM 12) 87 = .ok (.goto 14, 3) := by decide +kernel
theorem d_12_90 : decode (cM 12) 90 = .ok (.aload_n 0, 1) := by decide +kernel
theorem d_12_91 : decode (cM 12) 91 = .ok (.getfield 9, 3) := by decide +kernel
theorem d_12_94 : decode (cM 12) 94 = .ok (.iload 6, 2) := by decide +kernel
theorem d_12_96 : decode (cM 12) 96 = .ok (.bipush 24, 2) := by decide +kernel
theorem d_12_98 : decode (cM 12) 98 = .ok (.isub, 1) := by decide +kernel
theorem d_12_99 : decode (cM 12) 99 = .ok (.iaload, 1) := by decide +kernel
theorem d_12_100 : decode (cM 12) 100 = .ok (.i2l, 1) := by decide +kernel
theorem d_12_101 : decode (cM 12) 101 = .ok (.lastore, 1) := by decide +kernel
theorem d_12_102 : decode (cM 12) 102 = .ok (.iinc 3 1, 3) := by decide +kernel
theorem d_12_105 : decode (cM 12) 105 = .ok (.goto 109, 3) := by decide +kernel
theorem d_12_108 : decode (cM 12) 108 = .ok (.iload 6, 2) := by decide +kernel
theorem d_12_110 : decode (cM 12) 110 = .ok (.bipush 23, 2) := by decide +kernel
theorem d_12_112 : decode (cM 12) 112 = .ok (.if_icmp .ne 44, 3) := by decide +kernel
theorem d_12_115 : decode (cM 12) 115 = .ok (.iload_n 3, 1) := by decide +kernel
theorem d_12_116 : decode (cM 12) 116 = .ok (.iconst 1, 1) := by decide +kernel
theorem d_12_117 : decode (cM 12) 117 = .ok (.if_icmp .ge 7, 3) := by decide +kernel
theorem d_12_120 : decode (cM 12) 120 = .ok (.ldc2_w 90, 3) := by decide +kernel
theorem d_12_123 : decode (cM 12) 123 = .ok (.lreturn, 1) := by decide +kernel
theorem d_12_124 : decode (cM 12) 124 = .ok (.aload_n 0, 1) := by decide +kernel
theorem d_12_125 : decode (cM 12) 125 = .ok (.getfield 15, 3) := by decide +kernel
theorem d_12_128 : decode (cM 12) 128 = .ok (.iload_n 3, 1) := by decide +kernel
theorem d_12_129 : decode (cM 12) 129 = .ok (.iconst 1, 1) := by decide +kernel
theorem d_12_130 : decode (cM 12) 130 = .ok (.isub, 1) := by decide +kernel
theorem d_12_131 : decode (cM 12) 131 = .ok (.aload_n 0, 1) := by decide +kernel
theorem d_12_132 : decode (cM 12) 132 = .ok (.getfield 15, 3) := by decide +kernel
theorem d_12_135 : decode (cM 12) 135 = .ok (.iload_n 3, 1) := by decide +kernel
theorem d_12_136 : decode (cM 12) 136 = .ok (.iconst 1, 1) := by decide +kernel
theorem d_12_137 : decode (cM 12) 137 = .ok (.isub, 1) := by decide +kernel
theorem d_12_138 : decode (cM 12) 138 = .ok (.laload, 1) := by decide +kernel
theorem d_12_139 : decode (cM 12) 139 = .ok (.lconst 0, 1) := by decide +kernel
theorem d_12_140 : decode (cM 12) 140 = .ok (.lcmp, 1) := by decide +kernel
theorem d_12_141 : decode (cM 12) 141 = .ok (.ifCond .ne 7, 3) := by decide +kernel
theorem d_12_144 : decode (cM 12) 144 = .ok (.iconst 1, 1) := by decide +kernel
theorem d_12_145 : decode (cM 12) 145 = .ok (.goto 4, 3) := by decide +kernel
theorem d_12_148 : decode (cM 12) 148 = .ok (.iconst 0, 1) := by decide +kernel
theorem d_12_149 : decode (cM 12) 149 = .ok (.invokestatic 161, 3) := by decide +kernel
theorem kc_12_149 : callT (oM 12) 161 = some (1, 14, 1) ∧ fok 12 14 = true ∧ stM 14 = true := by decide +kernel
theorem d_12_152 : decode (cM 12) 152 = .ok (.lastore, 1) := by decide +kernel
theorem d_12_153 : decode (cM 12) 153 = .ok (.goto 61, 3) := by decide +kernel
theorem d_12_156 : decode (cM 12) 156 = .ok (.iload_n 3, 1) := by decide +kernel
theorem d_12_157 : decode (cM 12) 157 = .ok (.iconst 2, 1) := by decide +kernel
theorem d_12_158 : decode (cM 12) 158 = .ok (.if_icmp .ge 7, 3) := by decide +kernel
theorem d_12_161 : decode (cM 12) 161 = .ok (.ldc2_w 90, 3) := by decide +kernel
theorem d_12_164 : decode (cM 12) 164 = .ok (.lreturn, 1) := by decide +kernel
theorem d_12_165 : decode (cM 12) 165 = .ok (.iinc 3 (-1), 3) := by decide +kernel
theorem d_12_168 : decode (cM 12) 168 = .ok (.aload_n 0, 1) := by decide +kernel
theorem d_12_169 : decode (cM 12) 169 = .ok (.getfield 15, 3) := by decide +kernel
theorem d_12_172 : decode (cM 12) 172 = .ok (.iload_n 3, 1) := by decide +kernel
theorem d_12_173 : decode (cM 12) 173 = .ok (.iconst 1, 1) := by decide +kernel
theorem d_12_174 : decode (cM 12) 174 = .ok (.isub, 1) := by decide +kernel
theorem d_12_175 : decode (cM 12) 175 = .ok (.iload 6, 2) := by decide +kernel
theorem d_12_177 : decode (cM 12) 177 = .ok (.aload_n 0, 1) := by decide +kernel
theorem d_12_178 : decode (cM 12) 178 = .ok (.getfield 15, 3) := by decide +kernel
theorem d_12_181 : decode (cM 12) 181 = .ok (.iload_n 3, 1) := by decide +kernel
theorem d_12_182 : decode (cM 12) 182 = .ok (.iconst 1, 1) := by decide +kernel
theorem d_12_183 : decode (cM 12) 183 = .ok (.isub, 1) := by decide +kernel
theorem d_12_184 : decode (cM 12) 184 = .ok (.laload, 1) := by decide +kernel
theorem d_12_185 : decode (cM 12) 185 = .ok (.aload_n 0, 1) := by decide +kernel
theorem d_12_186 : decode (cM 12) 186 = .ok (.getfield 15, 3) := by decide +kernel
theorem d_12_189 : decode (cM 12) 189 = .ok (.iload_n 3, 1) := by decide +kernel
theorem d_12_190 : decode (cM 12) 190 = .ok (.laload, 1) := by decide +kernel
theorem d_12_191 : decode (cM 12) 191 = .ok (.invokestatic 165, 3) := by decide +kernel
theorem kc_12_191 : callT (oM 12) 165 = some (1, 13, 3) ∧ fok 12 13 = true ∧ stM 13 = true := by decide +kernel
theorem d_12_194 : decode (cM 12) 194 = .ok (.lastore, 1) := by decide +kernel
theorem d_12_195 : decode (cM 12) 195 = .ok (.aload_n 0, 1) := by decide +kernel
theorem d_12_196 : decode (cM 12) 196 = .ok (.getfield 15, 3) := by decide +kernel
theorem d_12_199 : decode (cM 12) 199 = .ok (.iload_n 3, 1) := by decide +kernel
theorem d_12_200 : decode (cM 12) 200 = .ok (.iconst 1, 1) := by decide +kernel
theorem d_12_201 : decode (cM 12) 201 = .ok (.isub, 1) := by decide +kernel
theorem d_12_202 : decode (cM 12) 202 = .ok (.laload, 1) := by decide +kernel
theorem d_12_203 : decode (cM 12) 203 = .ok (.ldc2_w 90, 3) := by decide +kernel
theorem d_12_206 : decode (cM 12) 206 = .ok (.lcmp, 1) := by decide +kernel
theorem d_12_207 : decode (cM 12) 207 = .ok (.ifCond .ne 7, 3) := by decide +kernel
theorem d_12_210 : decode (cM 12) 210 = .ok (.ldc2_w 90, 3) := by decide +kernel
theorem d_12_213 : decode (cM 12) 213 = .ok (.lreturn, 1) := by decide +kernel
theorem d_12_214 : decode (cM 12) 214 = .ok (.iinc 4 1, 3) := by decide +kernel
theorem d_12_217 : decode (cM 12) 217 = .ok (.goto (-207), 3) := by decide +kernel
theorem d_12_220 : decode (cM 12) 220 = .ok (.iload_n 3, 1) := by decide +kernel
theorem d_12_221 : decode (cM 12) 221 = .ok (.iconst 1, 1) := by decide +kernel
theorem d_12_222 : decode (cM 12) 222 = .ok (.if_icmp .ne 12, 3) := by decide +kernel
theorem d_12_225 : decode (cM 12) 225 = .ok (.aload_n 0, 1) := by decide +kernel
theorem d_12_226 : decode (cM 12) 226 = .ok (.getfield 15, 3) := by decide +kernel
theorem d_12_229 : decode (cM 12) 229 = .ok (.iconst 0, 1) := by decide +kernel
theorem d_12_230 : decode (cM 12) 230 = .ok (.laload, 1) := by decide +kernel
theorem d_12_231 : decode (cM 12) 231 = .ok (.goto 6, 3) := by decide +kernel
theorem d_12_234 : decode (cM 12) 234 = .ok (.ldc2_w 90, 3) := by decide +kernel
theorem d_12_237 : decode (cM 12) 237 = .ok (.lreturn, 1) := by decide +kernel
theorem d_13_0 : decode (cM 13) 0 = .ok (.iload_n 0, 1) := by decide +kernel
theorem d_13_1 : decode (cM 13) 1 = .ok (.tableswitch 275 21 43 #[107, 128, 275, 275, 275, 275, 275, 275, 275, 275, 239, 246, 253, 259, 149, 179, 224, 275, 275, 275, 164, 194, 209], 107) := by decide +kernel
theorem d_13_108 : decode (cM 13) 108 = .ok (.lload_n 1, 1) := by decide +kernel
theorem d_13_109 : decode (cM 13) 109 = .ok (.lconst 0, 1) := by decide +kernel
theorem d_13_110 : decode (cM 13) 110 = .ok (.lcmp, 1) := by decide +kernel
theorem d_13_111 : decode (cM 13) 111 = .ok (.ifCond .ne 9, 3) := by decide +kernel
theorem d_13_114 : decode (cM 13) 114 = .ok (.lload_n 3, 1) := by decide +kernel
theorem d_13_115 : decode (cM 13) 115 = .ok (.lconst 0, 1) := by decide +kernel
theorem d_13_116 : decode (cM 13) 116 = .ok (.lcmp, 1) := by decide +kernel
theorem d_13_117 : decode (cM 13) 117 = .ok (.ifCond .eq 7, 3) := by decide +kernel
theorem d_13_120 : decode (cM 13) 120 = .ok (.iconst 1, 1) := by decide +kernel
theorem d_13_121 : decode (cM 13) 121 = .ok (.goto 4, 3) := by decide +kernel
theorem d_13_124 : decode (cM 13) 124 = .ok (.iconst 0, 1) := by decide +kernel
theorem d_13_125 : decode (cM 13) 125 = .ok (.invokestatic 161, 3) := by decide +kernel
theorem kc_13_125 : callT (oM 13) 161 = some (1, 14, 1) ∧ fok 13 14 = true ∧ stM 14 = true := by decide +kernel
theorem d_13_128 : decode (cM 13) 128 = .ok (.lreturn, 1) := by decide +kernel
theorem d_13_129 : decode (cM 13) 129 = .ok (.lload_n 1, 1) := by decide +kernel
theorem d_13_130 : decode (cM 13) 130 = .ok (.lconst 0, 1) := by decide +kernel
theorem d_13_131 : decode (cM 13) 131 = .ok (.lcmp, 1) := by decide +kernel
theorem d_13_132 : decode (cM 13) 132 = .ok (.ifCond .eq 13, 3) := by decide +kernel
theorem d_13_135 : decode (cM 13) 135 = .ok (.lload_n 3, 1) := by decide +kernel
theorem d_13_136 : decode (cM 13) 136 = .ok (.lconst 0, 1) := by decide +kernel
theorem d_13_137 : decode (cM 13) 137 = .ok (.lcmp, 1) := by decide +kernel
theorem d_13_138 : decode (cM 13) 138 = .ok (.ifCond .eq 7, 3) := by decide +kernel
theorem d_13_141 : decode (cM 13) 141 = .ok (.iconst 1, 1) := by decide +kernel
theorem d_13_142 : decode (cM 13) 142 = .ok (.goto 4, 3) := by decide +kernel
theorem d_13_145 : decode (cM 13) 145 = .ok (.iconst 0, 1) := by decide +kernel
theorem d_13_146 : decode (cM 13) 146 = .ok (.invokestatic 161, 3) := by decide +kernel
theorem kc_13_146 : callT (oM 13) 161 = some (1, 14, 1) ∧ fok 13 14 = true ∧ stM 14 = true := by decide +kernel
theorem d_13_149 : decode (cM 13) 149 = .ok (.lreturn, 1) := by decide +kernel
theorem d_13_150 : decode (cM 13) 150 = .ok (.lload_n 1, 1) := by decide +kernel
theorem d_13_151 : decode (cM 13) 151 = .ok (.lload_n 3, 1) := by decide +kernel
theorem d_13_152 : decode (cM 13) 152 = .ok (.lcmp, 1) := by decide +kernel
theorem d_13_153 : decode (cM 13) 153 = .ok (.ifCond .ge 7, 3) := by decide +kernel
theorem d_13_156 : decode (cM 13) 156 = .ok (.iconst 1, 1) := by decide +kernel
theorem d_13_157 : decode (cM 13) 157 = .ok (.goto 4, 3) := by decide +kernel
theorem d_13_160 : decode (cM 13) 160 = .ok (.iconst 0, 1) := by decide +kernel
theorem d_13_161 : decode (cM 13) 161 = .ok (.invokestatic 161, 3) := by decide +kernel
theorem kc_13_161 : callT (oM 13) 161 = some (1, 14, 1) ∧ fok 13 14 = true ∧ stM 14 = true := by decide +kernel
theorem d_13_164 : decode (cM 13) 164 = .ok (.lreturn, 1) := by decide +kernel
theorem d_13_165 : decode (cM 13) 165 = .ok (.lload_n 1, 1) := by decide +kernel
theorem d_13_166 : decode (cM 13) 166 = .ok (.lload_n 3, 1) := by decide +kernel
theorem d_13_167 : decode (cM 13) 167 = .ok (.lcmp, 1) := by decide +kernel
theorem d_13_168 : decode (cM 13) 168 = .ok (.ifCond .gt 7, 3) := by decide +kernel
theorem d_13_171 : decode (cM 13) 171 = .ok (.iconst 1, 1) := by decide +kernel
theorem d_13_172 : decode (cM 13) 172 = .ok (.goto 4, 3) := by decide +kernel
theorem d_13_175 : decode (cM 13) 175 = .ok (.iconst 0, 1) := by decide +kernel
theorem d_13_176 : decode (cM 13) 176 = .ok (.invokestatic 161, 3) := by decide +kernel
theorem kc_13_176 : callT (oM 13) 161 = some (1, 14, 1) ∧ fok 13 14 = true ∧ stM 14 = true := by decide +kernel
theorem d_13_179 : decode (cM 13) 179 = .ok (.lreturn, 1) := by decide +kernel
theorem d_13_180 : decode (cM 13) 180 = .ok (.lload_n 1, 1) := by decide +kernel
theorem d_13_181 : decode (cM 13) 181 = .ok (.lload_n 3, 1) := by decide +kernel
theorem d_13_182 : decode (cM 13) 182 = .ok (.lcmp, 1) := by decide +kernel
theorem d_13_183 : decode (cM 13) 183 = .ok (.ifCond .ne 7, 3) := by decide +kernel
theorem d_13_186 : decode (cM 13) 186 = .ok (.iconst 1, 1) := by decide +kernel
theorem d_13_187 : decode (cM 13) 187 = .ok (.goto 4, 3) := by decide +kernel
theorem d_13_190 : decode (cM 13) 190 = .ok (.iconst 0, 1) := by decide +kernel
theorem d_13_191 : decode (cM 13) 191 = .ok (.invokestatic 161, 3) := by decide +kernel
theorem kc_13_191 : callT (oM 13) 161 = some (1, 14, 1) ∧ fok 13 14 = true ∧ stM 14 = true := by decide +kernel
theorem d_13_194 : decode (cM 13) 194 = .ok (.lreturn, 1) := by decide +kernel
theorem d_13_195 : decode (cM 13) 195 = .ok (.lload_n 1, 1) := by decide +kernel
theorem d_13_196 : decode (cM 13) 196 = .ok (.lload_n 3, 1) := by decide +kernel
theorem d_13_197 : decode (cM 13) 197 = .ok (.lcmp, 1) := by decide +kernel
theorem d_13_198 : decode (cM 13) 198 = .ok (.ifCond .eq 7, 3) := by decide +kernel
theorem d_13_201 : decode (cM 13) 201 = .ok (.iconst 1, 1) := by decide +kernel
theorem d_13_202 : decode (cM 13) 202 = .ok (.goto 4, 3) := by decide +kernel
theorem d_13_205 : decode (cM 13) 205 = .ok (.iconst 0, 1) := by decide +kernel
theorem d_13_206 : decode (cM 13) 206 = .ok (.invokestatic 161, 3) := by decide +kernel
theorem kc_13_206 : callT (oM 13) 161 = some (1, 14, 1) ∧ fok 13 14 = true ∧ stM 14 = true := by decide +kernel
theorem d_13_209 : decode (cM 13) 209 = .ok (.lreturn, 1) := by decide +kernel
theorem d_13_210 : decode (cM 13) 210 = .ok (.lload_n 1, 1) := by decide +kernel
theorem d_13_211 : decode (cM 13) 211 = .ok (.lload_n 3, 1) := by decide +kernel
theorem d_13_212 : decode (cM 13) 212 = .ok (.lcmp, 1) := by decide +kernel
theorem d_13_213 : decode (cM 13) 213 = .ok (.ifCond .lt 7, 3) := by decide +kernel
theorem d_13_216 : decode (cM 13) 216 = .ok (.iconst 1, 1) := by decide +kernel
theorem d_13_217 : decode (cM 13) 217 = .ok (.goto 4, 3) := by decide +kernel
theorem d_13_220 : decode (cM 13) 220 = .ok (.iconst 0, 1) := by decide +kernel
theorem d_13_221 : decode (cM 13) 221 = .ok (.invokestatic 161, 3) := by decide +kernel
theorem kc_13_221 : callT (oM 13) 161 = some (1, 14, 1) ∧ fok 13 14 = true ∧ stM 14 = true := by decide +kernel
theorem d_13_224 : decode (cM 13) 224 = .ok (.lreturn, 1) := by decide +kernel
theorem d_13_225 : decode (cM 13) 225 = .ok (.lload_n 1, 1) := by decide +kernel
theorem d_13_226 : decode (cM 13) 226 = .ok (.lload_n 3, 1) := by decide +kernel
theorem d_13_227 : decode (cM 13) 227 = .ok (.lcmp, 1) := by decide +kernel
theorem d_13_228 : decode (cM 13) 228 = .ok (.ifCond .le 7, 3) := by decide +kernel
theorem d_13_231 : decode (cM 13) 231 = .ok (.iconst 1, 1) := by decide +kernel
theorem d_13_232 : decode (cM 13) 232 = .ok (.goto 4, 3) := by decide +kernel
theorem d_13_235 : decode (cM 13) 235 = .ok (.iconst 0, 1) := by decide +kernel
theorem d_13_236 : decode (cM 13) 236 = .ok (.invokestatic 161, 3) := by decide +kernel
theorem kc_13_236 : callT (oM 13) 161 = some (1, 14, 1) ∧ fok 13 14 = true ∧ stM 14 = true := by decide +kernel
theorem d_13_239 : decode (cM 13) 239 = .ok (.lreturn, 1) := by decide +kernel
theorem d_13_240 : decode (cM 13) 240 = .ok (.lload_n 1, 1) := by decide +kernel
theorem d_13_241 : decode (cM 13) 241 = .ok (.lload_n 3, 1) := by decide +kernel
theorem d_13_242 : decode (cM 13) 242 = .ok (.ladd, 1) := by decide +kernel
theorem d_13_243 : decode (cM 13) 243 = .ok (.invokestatic 169, 3) := by decide +kernel
theorem kc_13_243 : callT (oM 13) 169 = some (1, 15, 1) ∧ fok 13 15 = true ∧ stM 15 = true := by decide +kernel
theorem d_13_246 : decode (cM 13) 246 = .ok (.lreturn, 1) := by decide +kernel
theorem d_13_247 : decode (cM 13) 247 = .ok (.lload_n 1, 1) := by decide +kernel
theorem d_13_248 : decode (cM 13) 248 = .ok (.lload_n 3, 1) := by decide +kernel
theorem d_13_249 : decode (cM 13) 249 = .ok (.lsub, 1) := by decide +kernel
theorem d_13_250 : decode (cM 13) 250 = .ok (.invokestatic 169, 3) := by decide +kernel
theorem kc_13_250 : callT (oM 13) 169 = some (1, 15, 1) ∧ fok 13 15 = true ∧ stM 15 = true := by decide +kernel
theorem d_13_253 : decode (cM 13) 253 = .ok (.lreturn, 1) := by decide +kernel
theorem d_13_254 : decode (cM 13) 254 = .ok (.lload_n 1, 1) := by decide +kernel
theorem d_13_255 : decode (cM 13) 255 = .ok (.lload_n 3, 1) := by decide +kernel
theorem d_13_256 : decode (cM 13) 256 = .ok (.invokestatic 173, 3) := by decide +kernel
theorem kc_13_256 : callT (oM 13) 173 = some (1, 16, 2) ∧ fok 13 16 = true ∧ stM 16 = true := by decide +kernel
theorem d_13_259 : decode (cM 13) 259 = .ok (.lreturn, 1) := by decide +kernel
theorem d_13_260 : decode (cM 13) 260 = .ok (.lload_n 3, 1) := by decide +kernel
theorem d_13_261 : decode (cM 13) 261 = .ok (.lconst 0, 1) := by decide +kernel
theorem d_13_262 : decode (cM 13) 262 = .ok (.lcmp, 1) := by decide +kernel
theorem d_13_263 : decode (cM 13) 263 = .ok (.ifCond .ne 9, 3) := by decide +kernel
theorem d_13_266 : decode (cM 13) 266 = .ok (.ldc2_w 90, 3) := by decide +kernel
theorem d_13_269 : decode (cM 13) 269 = .ok (.goto 6, 3) := by decide +kernel
theorem d_13_272 : decode (cM 13) 272 = .ok (.lload_n 1, 1) := by decide +kernel
theorem d_13_273 : decode (cM 13) 273 = .ok (.lload_n 3, 1) := by decide +kernel
theorem d_13_274 : decode (cM 13) 274 = .ok (.ldiv, 1) := by decide +kernel
theorem d_13_275 : decode (cM 13) 275 = .ok (.lreturn, 1) := by decide +kernel
theorem d_13_276 : decode (cM 13) 276 = .ok (.ldc2_w 90, 3) := by decide +kernel
theorem d_13_279 : decode (cM 13) 279 = .ok (.lreturn, 1) := by decide +kernel
theorem d_14_0 : decode (cM 14) 0 = .ok (.iload_n 0, 1) := by decide +kernel
theorem d_14_1 : decode (cM 14) 1 = .ok (.ifCond .eq 7, 3) := by decide +kernel
theorem d_14_4 : decode (cM 14) 4 = .ok (.lconst 1, 1) := by decide +kernel
theorem d_14_5 : decode (cM 14) 5 = .ok (.goto 4, 3) := by decide +kernel
theorem d_14_8 : decode (cM 14) 8 = .ok (.lconst 0, 1) := by decide +kernel
theorem d_14_9 : decode (cM 14) 9 = .ok (.lreturn, 1) := by decide +kernel
theorem d_15_0 : decode (cM 15) 0 = .ok (.lload_n 0, 1) := by decide +kernel
theorem d_15_1 : decode (cM 15) 1 = .ok (.ldc2_w 176, 3) := by decide +kernel
theorem d_15_4 : decode (cM 15) 4 = .ok (.lcmp, 1) := by decide +kernel
theorem d_15_5 : decode (cM 15) 5 = .ok (.ifCond .gt 11, 3) := by decide +kernel
theorem d_15_8 : decode (cM 15) 8 = .ok (.lload_n 0, 1) := by decide +kernel
theorem d_15_9 : decode (cM 15) 9 = .ok (.ldc2_w 178, 3) := by decide +kernel
theorem d_15_12 : decode (cM 15) 12 = .ok (.lcmp, 1) := by decide +kernel
theorem d_15_13 : decode (cM 15) 13 = .ok (.ifCond .ge 9, 3) := by decide +kernel
theorem d_15_16 : decode (cM 15) 16 = .ok (.ldc2_w 90, 3) := by decide +kernel
theorem d_15_19 : decode (cM 15) 19 = .ok (.goto 4, 3) := by decide +kernel
theorem d_15_22 : decode (cM 15) 22 = .ok (.lload_n 0, 1) := by decide +kernel
theorem d_15_23 : decode (cM 15) 23 = .ok (.lreturn, 1) := by decide +kernel
theorem d_16_0 : decode (cM 16) 0 = .ok (.lload_n 0, 1) := by decide +kernel
theorem d_16_1 : decode (cM 16) 1 = .ok (.lconst 0, 1) := by decide +kernel
theorem d_16_2 : decode (cM 16) 2 = .ok (.lcmp, 1) := by decide +kernel
theorem d_16_3 : decode (cM 16) 3 = .ok (.ifCond .eq 23, 3) := by decide +kernel
theorem d_16_6 : decode (cM 16) 6 = .ok (.lload_n 2, 1) := by decide +kernel
theorem d_16_7 : decode (cM 16) 7 = .ok (.invokestatic 180, 3) := by decide +kernel
theorem kc_16_7 : callT (oM 16) 180 = some (1, 277, 1) ∧ fok 16 277 = true ∧ stM 277 = true := by decide +kernel
theorem d_16_10 : decode (cM 16) 10 = .ok (.ldc2_w 176, 3) := by decide +kernel
theorem d_16_13 : decode (cM 16) 13 = .ok (.lload_n 0, 1) := by decide +kernel
theorem d_16_14 : decode (cM 16) 14 = .ok (.invokestatic 180, 3) := by decide +kernel
theorem kc_16_14 : callT (oM 16) 180 = some (1, 277, 1) ∧ fok 16 277 = true ∧ stM 277 = true := by decide +kernel
theorem d_16_17 : decode (cM 16) 17 = .ok (.ldiv, 1) := by decide +kernel
theorem d_16_18 : decode (cM 16) 18 = .ok (.lcmp, 1) := by decide +kernel
theorem d_16_19 : decode (cM 16) 19 = .ok (.ifCond .le 7, 3) := by decide +kernel
theorem d_16_22 : decode (cM 16) 22 = .ok (.ldc2_w 90, 3) := by decide +kernel
theorem d_16_25 : decode (cM 16) 25 = .ok (.lreturn, 1) := by decide +kernel
theorem d_16_26 : decode (cM 16) 26 = .ok (.lload_n 0, 1) := by decide +kernel
theorem d_16_27 : decode (cM 16) 27 = .ok (.lload_n 2, 1) := by decide +kernel
theorem d_16_28 : decode (cM 16) 28 = .ok (.lmul, 1) := by decide +kernel
theorem d_16_29 : decode (cM 16) 29 = .ok (.lreturn, 1) := by decide +kernel
theorem d_17_0 : decode (cM 17) 0 = .ok (.aload_n 0, 1) := by decide +kernel
theorem d_17_1 : decode (cM 17) 1 = .ok (.invokespecial 3, 3) := by decide +kernel
theorem d_17_4 : decode (cM 17) 4 = .ok (.aload_n 0, 1) := by decide +kernel
theorem d_17_5 : decode (cM 17) 5 = .ok (.bipush 14, 2) := by decide +kernel
theorem d_17_7 : decode (cM 17) 7 = .ok (.newarray .int, 2) := by decide +kernel
theorem d_17_9 : decode (cM 17) 9 = .ok (.putfield 9, 3) := by decide +kernel
theorem d_17_12 : decode (cM 17) 12 = .ok (.aload_n 0, 1) := by decide +kernel
theorem d_17_13 : decode (cM 17) 13 = .ok (.bipush 10, 2) := by decide +kernel
theorem d_17_15 : decode (cM 17) 15 = .ok (.newarray .int, 2) := by decide +kernel
theorem d_17_17 : decode (cM 17) 17 = .ok (.putfield 15, 3) := by decide +kernel
theorem d_17_20 : decode (cM 17) 20 = .ok (.aload_n 0, 1) := by decide +kernel
theorem d_17_21 : decode (cM 17) 21 = .ok (.bipush 10, 2) := by decide +kernel
theorem d_17_23 : decode (cM 17) 23 = .ok (.newarray .int, 2) := by decide +kernel
theorem d_17_25 : decode (cM 17) 25 = .ok (.putfield 18, 3) := by decide +kernel
theorem d_17_28 : decode (cM 17) 28 = .ok (.return_, 1) := by decide +kernel
theorem d_18_0 : decode (cM 18) 0 = .ok (.aload_n 0, 1) := by decide +kernel
theorem d_18_1 : decode (cM 18) 1 = .ok (.iconst 0, 1) := by decide +kernel
theorem d_18_2 : decode (cM 18) 2 = .ok (.putfield 21, 3) := by decide +kernel
theorem d_18_5 : decode (cM 18) 5 = .ok (.aload_n 0, 1) := by decide +kernel
theorem d_18_6 : decode (cM 18) 6 = .ok (.aload_n 1, 1) := by decide +kernel
theorem d_18_7 : decode (cM 18) 7 = .ok (.getfield 25, 3) := by decide +kernel
theorem d_18_10 : decode (cM 18) 10 = .ok (.putfield 30, 3) := by decide +kernel
theorem d_18_13 : decode (cM 18) 13 = .ok (.aload_n 0, 1) := by decide +kernel
theorem d_18_14 : decode (cM 18) 14 = .ok (.iconst 0, 1) := by decide +kernel
theorem d_18_15 : decode (cM 18) 15 = .ok (.putfield 33, 3) := by decide +kernel
theorem d_18_18 : decode (cM 18) 18 = .ok (.aload_n 0, 1) := by decide +kernel
theorem d_18_19 : decode (cM 18) 19 = .ok (.iconst 0, 1) := by decide +kernel
theorem d_18_20 : decode (cM 18) 20 = .ok (.putfield 36, 3) := by decide +kernel
theorem d_18_23 : decode (cM 18) 23 = .ok (.aload_n 0, 1) := by decide +kernel
theorem d_18_24 : decode (cM 18) 24 = .ok (.iconst 0, 1) := by decide +kernel
theorem d_18_25 : decode (cM 18) 25 = .ok (.putfield 39, 3) := by decide +kernel
theorem d_18_28 : decode (cM 18) 28 = .ok (.aload_n 0, 1) := by decide +kernel
theorem d_18_29 : decode (cM 18) 29 = .ok (.iconst 0, 1) := by decide +kernel
theorem d_18_30 : decode (cM 18) 30 = .ok (.putfield 42, 3) := by decide +kernel
theorem d_18_33 : decode (cM 18) 33 = .ok (.aload_n 0, 1) := by decide +kernel
theorem d_18_34 : decode (cM 18) 34 = .ok (.aload_n 1, 1) := by decide +kernel
theorem d_18_35 : decode (cM 18) 35 = .ok (.invokevirtual 45, 3) := by decide +kernel
theorem kc_18_35 : callT (oM 18) 45 = some (0, 93, 0) ∧ fok 18 93 = true ∧ stM 93 = false := by decide +kernel
theorem d_18_38 : decode (cM 18) 38 = .ok (.putfield 49, 3) := by decide +kernel
theorem d_18_41 : decode (cM 18) 41 = .ok (.iconst 0, 1) := by decide +kernel
theorem d_18_42 : decode (cM 18) 42 = .ok (.istore_n 2, 1) := by decide +kernel
theorem d_18_43 : decode (cM 18) 43 = .ok (.iload_n 2, 1) := by decide +kernel
theorem d_18_44 : decode (cM 18) 44 = .ok (.bipush 14, 2) := by decide +kernel
theorem d_18_46 : decode (cM 18) 46 = .ok (.if_icmp .ge 16, 3) := by decide +kernel
theorem d_18_49 : decode (cM 18) 49 = .ok (.aload_n 0, 1) := by decide +kernel
theorem d_18_50 : decode (cM 18) 50 = .ok (.getfield 9, 3) := by decide +kernel
theorem d_18_53 : decode (cM 18) 53 = .ok (.iload_n 2, 1) := by decide +kernel
theorem d_18_54 : decode (cM 18) 54 = .ok (.iconst 0, 1) := by decide +kernel
theorem d_18_55 : decode (cM 18) 55 = .ok (.iastore, 1) := by decide +kernel
theorem d_18_56 : decode (cM 18) 56 = .ok (.iinc 2 1, 3) := by decide +kernel
theorem d_18_59 : decode (cM 18) 59 = .ok (.goto (-16), 3) := by decide +kernel
theorem d_18_62 : decode (cM 18) 62 = .ok (.iconst 0, 1) := by decide +kernel
theorem d_18_63 : decode (cM 18) 63 = .ok (.istore_n 2, 1) := by decide +kernel
theorem d_18_64 : decode (cM 18) 64 = .ok (.iload_n 2, 1) := by decide +kernel
theorem d_18_65 : decode (cM 18) 65 = .ok (.bipush 10, 2) := by decide +kernel
theorem d_18_67 : decode (cM 18) 67 = .ok (.if_icmp .ge 40, 3) := by decide +kernel
theorem d_18_70 : decode (cM 18) 70 = .ok (.aload_n 0, 1) := by decide +kernel
theorem d_18_71 : decode (cM 18) 71 = .ok (.getfield 15, 3) := by decide +kernel
theorem d_18_74 : decode (cM 18) 74 = .ok (.iload_n 2, 1) := by decide +kernel
theorem d_18_75 : decode (cM 18) 75 = .ok (.iload_n 2, 1) := by decide +kernel
theorem d_18_76 : decode (cM 18) 76 = .ok (.aload_n 1, 1) := by decide +kernel
theorem d_18_77 : decode (cM 18) 77 = .ok (.getfield 52, 3) := by decide +kernel
theorem d_18_80 : decode (cM 18) 80 = .ok (.if_icmp .ge 12, 3) := by decide +kernel
theorem d_18_83 : decode (cM 18) 83 = .ok (.aload_n 1, 1) := by decide +kernel
theorem d_18_84 : decode (cM 18) 84 = .ok (.getfield 55, 3) := by decide +kernel
theorem d_18_87 : decode (cM 18) 87 = .ok (.iload_n 2, 1) := by decide +kernel
theorem d_18_88 : decode (cM 18) 88 = .ok (.iaload, 1) := by decide +kernel
theorem d_18_89 : decode (cM 18) 89 = .ok (.goto 4, 3) := by decide +kernel
theorem d_18_92 : decode (cM 18) 92 = .ok (.iconst 0, 1) := by decide +kernel
theorem d_18_93 : decode (cM 18) 93 = .ok (.iastore, 1) := by decide +kernel
theorem d_18_94 : decode (cM 18) 94 = .ok (.aload_n 0, 1) := by decide +kernel
theorem d_18_95 : decode (cM 18) 95 = .ok (.getfield 18, 3) := by decide +kernel
theorem d_18_98 : decode (cM 18) 98 = .ok (.iload_n 2, 1) := by decide +kernel
theorem d_18_99 : decode (cM 18) 99 = .ok (.iconst 0, 1) := by decide +kernel
theorem d_18_100 : decode (cM 18) 100 = .ok (.iastore, 1) := by decide +kernel
theorem d_18_101 : decode (cM 18) 101 = .ok (.iinc 2 1, 3) := by decide +kernel
theorem d_18_104 : decode (cM 18) 104 = .ok (.goto (-40), 3) := by decide +kernel
theorem d_18_107 : decode (cM 18) 107 = .ok (.return_, 1) := by decide +kernel
theorem d_19_0 : decode (cM 19) 0 = .ok (.aload_n 0, 1) := by decide +kernel
theorem d_19_1 : decode (cM 19) 1 = .ok (.aload_n 1, 1) := by decide +kernel
theorem d_19_2 : decode (cM 19) 2 = .ok (.getfield 21, 3) := by decide +kernel
theorem d_19_5 : decode (cM 19) 5 = .ok (.putfield 21, 3) := by decide +kernel
theorem d_19_8 : decode (cM 19) 8 = .ok (.aload_n 0, 1) := by decide +kernel
theorem d_19_9 : decode (cM 19) 9 = .ok (.aload_n 1, 1) := by decide +kernel
theorem d_19_10 : decode (cM 19) 10 = .ok (.getfield 30, 3) := by decide +kernel
theorem d_19_13 : decode (cM 19) 13 = .ok (.putfield 30, 3) := by decide +kernel
theorem d_19_16 : decode (cM 19) 16 = .ok (.aload_n 0, 1) := by decide +kernel
theorem d_19_17 : decode (cM 19) 17 = .ok (.aload_n 1, 1) := by decide +kernel
theorem d_19_18 : decode (cM 19) 18 = .ok (.getfield 33, 3) := by decide +kernel
theorem d_19_21 : decode (cM 19) 21 = .ok (.putfield 33, 3) := by decide +kernel
theorem d_19_24 : decode (cM 19) 24 = .ok (.aload_n 0, 1) := by decide +kernel
theorem d_19_25 : decode (cM 19) 25 = .ok (.aload_n 1, 1) := by decide +kernel
theorem d_19_26 : decode (cM 19) 26 = .ok (.getfield 36, 3) := by decide +kernel
theorem d_19_29 : decode (cM 19) 29 = .ok (.putfield 36, 3) := by decide +kernel
theorem d_19_32 : decode (cM 19) 32 = .ok (.aload_n 0, 1) := by decide +kernel
theorem d_19_33 : decode (cM 19) 33 = .ok (.aload_n 1, 1) := by decide +kernel
theorem d_19_34 : decode (cM 19) 34 = .ok (.getfield 39, 3) := by decide +kernel
theorem d_19_37 : decode (cM 19) 37 = .ok (.putfield 39, 3) := by decide +kernel
theorem d_19_40 : decode (cM 19) 40 = .ok (.aload_n 0, 1) := by decide +kernel
theorem d_19_41 : decode (cM 19) 41 = .ok (.aload_n 1, 1) := by decide +kernel
theorem d_19_42 : decode (cM 19) 42 = .ok (.getfield 42, 3) := by decide +kernel
theorem d_19_45 : decode (cM 19) 45 = .ok (.putfield 42, 3) := by decide +kernel
theorem d_19_48 : decode (cM 19) 48 = .ok (.aload_n 0, 1) := by decide +kernel
theorem d_19_49 : decode (cM 19) 49 = .ok (.aload_n 1, 1) := by decide +kernel
theorem d_19_50 : decode (cM 19) 50 = .ok (.getfield 49, 3) := by decide +kernel
theorem d_19_53 : decode (cM 19) 53 = .ok (.putfield 49, 3) := by decide +kernel
theorem d_19_56 : decode (cM 19) 56 = .ok (.aload_n 1, 1) := by decide +kernel
theorem d_19_57 : decode (cM 19) 57 = .ok (.getfield 9, 3) := by decide +kernel
theorem d_19_60 : decode (cM 19) 60 = .ok (.iconst 0, 1) := by decide +kernel
theorem d_19_61 : decode (cM 19) 61 = .ok (.aload_n 0, 1) := by decide +kernel
theorem d_19_62 : decode (cM 19) 62 = .ok (.getfield 9, 3) := by decide +kernel
theorem d_19_65 : decode (cM 19) 65 = .ok (.iconst 0, 1) := by decide +kernel
theorem d_19_66 : decode (cM 19) 66 = .ok (.bipush 14, 2) := by decide +kernel
theorem d_19_68 : decode (cM 19) 68 = .ok (.invokestatic 56, 3) := by decide +kernel
theorem kc_19_68 : callT (oM 19) 56 = some (5, 0, 5) ∧ 1 ≤ frM 19 ∧ 60 ≤ loM 19 := by decide +kernel
theorem d_19_71 : decode (cM 19) 71 = .ok (.aload_n 1, 1) := by decide +kernel
theorem d_19_72 : decode (cM 19) 72 = .ok (.getfield 15, 3) := by decide +kernel
theorem d_19_75 : decode (cM 19) 75 = .ok (.iconst 0, 1) := by decide +kernel
theorem d_19_76 : decode (cM 19) 76 = .ok (.aload_n 0, 1) := by decide +kernel
theorem d_19_77 : decode (cM 19) 77 = .ok (.getfield 15, 3) := by decide +kernel
theorem d_19_80 : decode (cM 19) 80 = .ok (.iconst 0, 1) := by decide +kernel
theorem d_19_81 : decode (cM 19) 81 = .ok (.bipush 10, 2) := by decide +kernel
theorem d_19_83 : decode (cM 19) 83 = .ok (.invokestatic 56, 3) := by decide +kernel
theorem kc_19_83 : callT (oM 19) 56 = some (5, 0, 5) ∧ 1 ≤ frM 19 ∧ 60 ≤ loM 19 := by decide +kernel
theorem d_19_86 : decode (cM 19) 86 = .ok (.aload_n 1, 1) := by decide +kernel
theorem d_19_87 : decode (cM 19) 87 = .ok (.getfield 18, 3) := by decide +kernel
theorem d_19_90 : decode (cM 19) 90 = .ok (.iconst 0, 1) := by decide +kernel
theorem d_19_91 : decode (cM 19) 91 = .ok (.aload_n 0, 1) := by decide +kernel
theorem d_19_92 : decode (cM 19) 92 = .ok (.getfield 18, 3) := by decide +kernel
theorem d_19_95 : decode (cM 19) 95 = .ok (.iconst 0, 1) := by decide +kernel
theorem d_19_96 : decode (cM 19) 96 = .ok (.bipush 10, 2) := by decide +kernel
theorem d_19_98 : decode (cM 19) 98 = .ok (.invokestatic 56, 3) := by decide +kernel
theorem kc_19_98 : callT (oM 19) 56 = some (5, 0, 5) ∧ 1 ≤ frM 19 ∧ 60 ≤ loM 19 := by decide +kernel
theorem d_19_101 : decode (cM 19) 101 = .ok (.return_, 1) := by decide +kernel
theorem d_20_0 : decode (cM 20) 0 = .ok (.aload_n 0, 1) := by decide +kernel
theorem d_20_1 : decode (cM 20) 1 = .ok (.getfield 30, 3) := by decide +kernel
theorem d_20_4 : decode (cM 20) 4 = .ok (.aload_n 0, 1) := by decide +kernel
theorem d_20_5 : decode (cM 20) 5 = .ok (.getfield 33, 3) := by decide +kernel
theorem d_20_8 : decode (cM 20) 8 = .ok (.iconst (-1), 1) := by decide +kernel
theorem d_20_9 : decode (cM 20) 9 = .ok (.ixor, 1) := by decide +kernel
theorem d_20_10 : decode (cM 20) 10 = .ok (.iand, 1) := by decide +kernel
theorem d_20_11 : decode (cM 20) 11 = .ok (.ireturn, 1) := by decide +kernel
theorem d_21_0 : decode (cM 21) 0 = .ok (.iconst 1, 1) := by decide +kernel
theorem d_21_1 : decode (cM 21) 1 = .ok (.aload_n 1, 1) := by decide +kernel
theorem d_21_2 : decode (cM 21) 2 = .ok (.getfield 52, 3) := by decide +kernel
theorem d_21_5 : decode (cM 21) 5 = .ok (.ishl, 1) := by decide +kernel
theorem d_21_6 : decode (cM 21) 6 = .ok (.iconst 1, 1) := by decide +kernel
theorem d_21_7 : decode (cM 21) 7 = .ok (.isub, 1) := by decide +kernel
theorem d_21_8 : decode (cM 21) 8 = .ok (.aload_n 0, 1) := by decide +kernel
theorem d_21_9 : decode (cM 21) 9 = .ok (.getfield 36, 3) := by decide +kernel
theorem d_21_12 : decode (cM 21) 12 = .ok (.iconst (-1), 1) := by decide +kernel
theorem d_21_13 : decode (cM 21) 13 = .ok (.ixor, 1) := by decide +kernel
theorem d_21_14 : decode (cM 21) 14 = .ok (.iand, 1) := by decide +kernel
theorem d_21_15 : decode (cM 21) 15 = .ok (.ireturn, 1) := by decide +kernel
theorem d_22_0 : decode (cM 22) 0 = .ok (.iconst 0, 1) := by decide +kernel
theorem d_22_1 : decode (cM 22) 1 = .ok (.istore_n 2, 1) := by decide +kernel
theorem d_22_2 : decode (cM 22) 2 = .ok (.iconst 0, 1) := by decide +kernel
theorem d_22_3 : decode (cM 22) 3 = .ok (.istore_n 3, 1) := by decide +kernel
theorem d_22_4 : decode (cM 22) 4 = .ok (.iload_n 3, 1) := by decide +kernel
theorem d_22_5 : decode (cM 22) 5 = .ok (.bipush 10, 2) := by decide +kernel
theorem d_22_7 : decode (cM 22) 7 = .ok (.if_icmp .ge 24, 3) := by decide +kernel
theorem d_22_10 : decode (cM 22) 10 = .ok (.iload_n 2, 1) := by decide +kernel
theorem d_22_11 : decode (cM 22) 11 = .ok (.aload_n 0, 1) := by decide +kernel
theorem d_22_12 : decode (cM 22) 12 = .ok (.getfield 15, 3) := by decide +kernel
theorem d_22_15 : decode (cM 22) 15 = .ok (.iload_n 3, 1) := by decide +kernel
theorem d_22_16 : decode (cM 22) 16 = .ok (.iaload, 1) := by decide +kernel
theorem d_22_17 : decode (cM 22) 17 = .ok (.iload_n 1, 1) := by decide +kernel
theorem d_22_18 : decode (cM 22) 18 = .ok (.ishr, 1) := by decide +kernel
theorem d_22_19 : decode (cM 22) 19 = .ok (.iconst 1, 1) := by decide +kernel
theorem d_22_20 : decode (cM 22) 20 = .ok (.iand, 1) := by decide +kernel
theorem d_22_21 : decode (cM 22) 21 = .ok (.iload_n 3, 1) := by decide +kernel
theorem d_22_22 : decode (cM 22) 22 = .ok (.ishl, 1) := by decide +kernel
theorem d_22_23 : decode (cM 22) 23 = .ok (.ior, 1) := by decide +kernel
theorem d_22_24 : decode (cM 22) 24 = .ok (.istore_n 2, 1) := by decide +kernel
theorem d_22_25 : decode (cM 22) 25 = .ok (.iinc 3 1, 3) := by decide +kernel
theorem d_22_28 : decode (cM 22) 28 = .ok (.goto (-24), 3) := by decide +kernel
theorem d_22_31 : decode (cM 22) 31 = .ok (.iload_n 2, 1) := by decide +kernel
theorem d_22_32 : decode (cM 22) 32 = .ok (.ireturn, 1) := by decide +kernel
theorem d_23_0 : decode (cM 23) 0 = .ok (.iconst 0, 1) := by decide +kernel
theorem d_23_1 : decode (cM 23) 1 = .ok (.istore_n 1, 1) := by decide +kernel
theorem d_23_2 : decode (cM 23) 2 = .ok (.iconst 0, 1) := by decide +kernel
theorem d_23_3 : decode (cM 23) 3 = .ok (.istore_n 2, 1) := by decide +kernel
theorem d_23_4 : decode (cM 23) 4 = .ok (.iload_n 2, 1) := by decide +kernel
theorem d_23_5 : decode (cM 23) 5 = .ok (.bipush 10, 2) := by decide +kernel
theorem d_23_7 : decode (cM 23) 7 = .ok (.if_icmp .ge 21, 3) := by decide +kernel
theorem d_23_10 : decode (cM 23) 10 = .ok (.iload_n 1, 1) := by decide +kernel
theorem d_23_11 : decode (cM 23) 11 = .ok (.aload_n 0, 1) := by decide +kernel
theorem d_23_12 : decode (cM 23) 12 = .ok (.getfield 15, 3) := by decide +kernel
theorem d_23_15 : decode (cM 23) 15 = .ok (.iload_n 2, 1) := by decide +kernel
theorem d_23_16 : decode (cM 23) 16 = .ok (.iaload, 1) := by decide +kernel
theorem d_23_17 : decode (cM 23) 17 = .ok (.invokestatic 62, 3) := by decide +kernel
theorem kc_23_17 : callT (oM 23) 62 = some (1, 276, 1) ∧ fok 23 276 = true ∧ stM 276 = true := by decide +kernel
theorem d_23_20 : decode (cM 23) 20 = .ok (.iadd, 1) := by decide +kernel
theorem d_23_21 : decode (cM 23) 21 = .ok (.istore_n 1, 1) := by decide +kernel
theorem d_23_22 : decode (cM 23) 22 = .ok (.iinc 2 1, 3) := by decide +kernel
theorem d_23_25 : decode (cM 23) 25 = .ok (.goto (-21), 3) := by decide +kernel
theorem d_23_28 : decode (cM 23) 28 = .ok (.iload_n 1, 1) := by decide +kernel
theorem d_23_29 : decode (cM 23) 29 = .ok (.ireturn, 1) := by decide +kernel
theorem d_24_0 : decode (cM 24) 0 = .ok (.aload_n 0, 1) := by decide +kernel
theorem d_24_1 : decode (cM 24) 1 = .ok (.iconst 0, 1) := by decide +kernel
theorem d_24_2 : decode (cM 24) 2 = .ok (.putfield 36, 3) := by decide +kernel
theorem d_24_5 : decode (cM 24) 5 = .ok (.aload_n 0, 1) := by decide +kernel
theorem d_24_6 : decode (cM 24) 6 = .ok (.iconst 0, 1) := by decide +kernel
theorem d_24_7 : decode (cM 24) 7 = .ok (.putfield 33, 3) := by decide +kernel
theorem d_24_10 : decode (cM 24) 10 = .ok (.return_, 1) := by decide +kernel
theorem d_25_0 : decode (cM 25) 0 = .ok (.aload_n 0, 1) := by decide +kernel
theorem d_25_1 : decode (cM 25) 1 = .ok (.aload_n 0, 1) := by decide +kernel
theorem d_25_2 : decode (cM 25) 2 = .ok (.getfield 49, 3) := by decide +kernel
theorem d_25_5 : decode (cM 25) 5 = .ok (.ldc 68, 2) := by decide +kernel
theorem d_25_7 : decode (cM 25) 7 = .ok (.imul, 1) := by decide +kernel
theorem d_25_8 : decode (cM 25) 8 = .ok (.sipush 12345, 3) := by decide +kernel
theorem d_25_11 : decode (cM 25) 11 = .ok (.iadd, 1) := by decide +kernel
theorem d_25_12 : decode (cM 25) 12 = .ok (.ldc 69, 2) := by decide +kernel
theorem d_25_14 : decode (cM 25) 14 = .ok (.iand, 1) := by decide +kernel
theorem d_25_15 : decode (cM 25) 15 = .ok (.putfield 49, 3) := by decide +kernel
theorem d_25_18 : decode (cM 25) 18 = .ok (.aload_n 0, 1) := by decide +kernel
theorem d_25_19 : decode (cM 25) 19 = .ok (.getfield 49, 3) := by decide +kernel
theorem d_25_22 : decode (cM 25) 22 = .ok (.ldc 70, 2) := by decide +kernel
theorem d_25_24 : decode (cM 25) 24 = .ok (.idiv, 1) := by decide +kernel
theorem d_25_25 : decode (cM 25) 25 = .ok (.ireturn, 1) := by decide +kernel
theorem d_26_0 : decode (cM 26) 0 = .ok (.aload_n 0, 1) := by decide +kernel
theorem d_26_1 : decode (cM 26) 1 = .ok (.invokespecial 3, 3) := by decide +kernel
theorem d_26_4 : decode (cM 26) 4 = .ok (.aload_n 0, 1) := by decide +kernel
theorem d_26_5 : decode (cM 26) 5 = .ok (.bipush 24, 2) := by decide +kernel
theorem d_26_7 : decode (cM 26) 7 = .ok (.newarray .int, 2) := by decide +kernel
theorem d_26_9 : decode (cM 26) 9 = .ok (.putfield 9, 3) := by decide +kernel
theorem d_26_12 : decode (cM 26) 12 = .ok (.aload_n 0, 1) := by decide +kernel
theorem d_26_13 : decode (cM 26) 13 = .ok (.bipush 24, 2) := by decide +kernel
theorem d_26_15 : decode (cM 26) 15 = .ok (.newarray .int, 2) := by decide +kernel
theorem d_26_17 : decode (cM 26) 17 = .ok (.putfield 15, 3) := by decide +kernel
theorem d_26_20 : decode (cM 26) 20 = .ok (.aload_n 0, 1) := by decide +kernel
theorem d_26_21 : decode (cM 26) 21 = .ok (.bipush 24, 2) := by decide +kernel
theorem d_26_23 : decode (cM 26) 23 = .ok (.newarray .boolean, 2) := by decide +kernel
theorem d_26_25 : decode (cM 26) 25 = .ok (.putfield 18, 3) := by decide +kernel
theorem d_26_28 : decode (cM 26) 28 = .ok (.aload_n 0, 1) := by decide +kernel
theorem d_26_29 : decode (cM 26) 29 = .ok (.iconst (-1), 1) := by decide +kernel
theorem d_26_30 : decode (cM 26) 30 = .ok (.putfield 22, 3) := by decide +kernel
theorem d_26_33 : decode (cM 26) 33 = .ok (.return_, 1) := by decide +kernel
theorem d_27_0 : decode (cM 27) 0 = .ok (.aload_n 0, 1) := by decide +kernel
theorem d_27_1 : decode (cM 27) 1 = .ok (.iconst 0, 1) := by decide +kernel
theorem d_27_2 : decode (cM 27) 2 = .ok (.putfield 26, 3) := by decide +kernel
theorem d_27_5 : decode (cM 27) 5 = .ok (.aload_n 0, 1) := by decide +kernel
theorem d_27_6 : decode (cM 27) 6 = .ok (.iconst (-1), 1) := by decide +kernel
theorem d_27_7 : decode (cM 27) 7 = .ok (.putfield 22, 3) := by decide +kernel
theorem d_27_10 : decode (cM 27) 10 = .ok (.return_, 1) := by decide +kernel
theorem d_28_0 : decode (cM 28) 0 = .ok (.aload_n 0, 1) := by decide +kernel
theorem d_28_1 : decode (cM 28) 1 = .ok (.getfield 26, 3) := by decide +kernel
theorem d_28_4 : decode (cM 28) 4 = .ok (.ifCond .lt 12, 3) := by decide +kernel
theorem d_28_7 : decode (cM 28) 7 = .ok (.aload_n 0, 1) := by decide +kernel
theorem d_28_8 : decode (cM 28) 8 = .ok (.getfield 26, 3) := by decide +kernel
theorem d_28_11 : decode (cM 28) 11 = .ok (.bipush 24, 2) := by decide +kernel
theorem d_28_13 : decode (cM 28) 13 = .ok (.if_icmp .lt 5, 3) := by decide +kernel
theorem d_28_16 : decode (cM 28) 16 = .ok (.iconst (-1), 1) := by decide +kernel
theorem d_28_17 : decode (cM 28) 17 = .ok (.ireturn, 1) := by decide +kernel
theorem d_28_18 : decode (cM 28) 18 = .ok (.aload_n 0, 1) := by decide +kernel
theorem d_28_19 : decode (cM 28) 19 = .ok (.getfield 9, 3) := by decide +kernel
theorem d_28_22 : decode (cM 28) 22 = .ok (.aload_n 0, 1) := by decide +kernel
theorem d_28_23 : decode (cM 28) 23 = .ok (.getfield 26, 3) := by decide +kernel
theorem d_28_26 : decode (cM 28) 26 = .ok (.iload_n 1, 1) := by decide +kernel
theorem d_28_27 : decode (cM 28) 27 = .ok (.iastore, 1) := by decide +kernel
theorem d_28_28 : decode (cM 28) 28 = .ok (.aload_n 0, 1) := by decide +kernel
theorem d_28_29 : decode (cM 28) 29 = .ok (.getfield 15, 3) := by decide +kernel
theorem d_28_32 : decode (cM 28) 32 = .ok (.aload_n 0, 1) := by decide +kernel
theorem d_28_33 : decode (cM 28) 33 = .ok (.getfield 26, 3) := by decide +kernel
theorem d_28_36 : decode (cM 28) 36 = .ok (.iload_n 2, 1) := by decide +kernel
theorem d_28_37 : decode (cM 28) 37 = .ok (.iastore, 1) := by decide +kernel
theorem d_28_38 : decode (cM 28) 38 = .ok (.aload_n 0, 1) := by decide +kernel
theorem d_28_39 : decode (cM 28) 39 = .ok (.getfield 18, 3) := by decide +kernel
theorem d_28_42 : decode (cM 28) 42 = .ok (.aload_n 0, 1) := by decide +kernel
theorem d_28_43 : decode (cM 28) 43 = .ok (.getfield 26, 3) := by decide +kernel
theorem d_28_46 : decode (cM 28) 46 = .ok (.iload_n 3, 1) := by decide +kernel
theorem d_28_47 : decode (cM 28) 47 = .ok (.bastore, 1) := by decide +kernel
theorem d_28_48 : decode (cM 28) 48 = .ok (.aload_n 0, 1) := by decide +kernel
theorem d_28_49 : decode (cM 28) 49 = .ok (.dup, 1) := by decide +kernel
theorem d_28_50 : decode (cM 28) 50 = .ok (.getfield 26, 3) := by decide +kernel
theorem d_28_53 : decode (cM 28) 53 = .ok (.iconst 1, 1) := by decide +kernel
theorem d_28_54 : decode (cM 28) 54 = .ok (.iadd, 1) := by decide +kernel
theorem d_28_55 : decode (cM 28) 55 = .ok (.putfield 26, 3) := by decide +kernel
theorem d_28_58 : decode (cM 28) 58 = .ok (.aload_n 0, 1) := by decide +kernel
theorem d_28_59 : decode (cM 28) 59 = .ok (.getfield 26, 3) := by decide +kernel
theorem d_28_62 : decode (cM 28) 62 = .ok (.iconst 1, 1) := by decide +kernel
theorem d_28_63 : decode (cM 28) 63 = .ok (.isub, 1) := by decide +kernel
theorem d_28_64 : decode (cM 28) 64 = .ok (.ireturn, 1) := by decide +kernel
theorem d_29_0 : decode (cM 29) 0 = .ok (.iload_n 1, 1) := by decide +kernel
theorem d_29_1 : decode (cM 29) 1 = .ok (.ifCond .lt 11, 3) := by decide +kernel
theorem d_29_4 : decode (cM 29) 4 = .ok (.iload_n 1, 1) := by decide +kernel
theorem d_29_5 : decode (cM 29) 5 = .ok (.aload_n 0, 1) := by decide +kernel
theorem d_29_6 : decode (cM 29) 6 = .ok (.getfield 26, 3) := by decide +kernel
theorem d_29_9 : decode (cM 29) 9 = .ok (.if_icmp .lt 7, 3) := by decide +kernel
theorem d_29_12 : decode (cM 29) 12 = .ok (.iconst (-1), 1) := by decide +kernel
theorem d_29_13 : decode (cM 29) 13 = .ok (.goto 10, 3) := by decide +kernel
theorem d_29_16 : decode (cM 29) 16 = .ok (.aload_n 0, 1) := by decide +kernel
theorem d_29_17 : decode (cM 29) 17 = .ok (.iconst 2, 1) := by decide +kernel
theorem d_29_18 : decode (cM 29) 18 = .ok (.iload_n 1, 1) := by decide +kernel
theorem d_29_19 : decode (cM 29) 19 = .ok (.iconst 1, 1) := by decide +kernel
theorem d_29_20 : decode (cM 29) 20 = .ok (.invokevirtual 29, 3) := by decide +kernel
theorem kc_29_20 : callT (oM 29) 29 = some (0, 28, 3) ∧ fok 29 28 = true ∧ stM 28 = false := by decide +kernel
theorem d_29_23 : decode (cM 29) 23 = .ok (.ireturn, 1) := by decide +kernel
theorem d_30_0 : decode (cM 30) 0 = .ok (.aload_n 0, 1) := by decide +kernel
theorem d_30_1 : decode (cM 30) 1 = .ok (.getfield 22, 3) := by decide +kernel
theorem d_30_4 : decode (cM 30) 4 = .ok (.iconst (-1), 1) := by decide +kernel
theorem d_30_5 : decode (cM 30) 5 = .ok (.if_icmp .ne 10, 3) := by decide +kernel
theorem d_30_8 : decode (cM 30) 8 = .ok (.aload_n 0, 1) := by decide +kernel
theorem d_30_9 : decode (cM 30) 9 = .ok (.getfield 26, 3) := by decide +kernel
theorem d_30_12 : decode (cM 30) 12 = .ok (.goto 7, 3) := by decide +kernel
theorem d_30_15 : decode (cM 30) 15 = .ok (.aload_n 0, 1) := by decide +kernel
theorem d_30_16 : decode (cM 30) 16 = .ok (.getfield 22, 3) := by decide +kernel
theorem d_30_19 : decode (cM 30) 19 = .ok (.ireturn, 1) := by decide +kernel
theorem d_31_0 : decode (cM 31) 0 = .ok (.aload_n 0, 1) := by decide +kernel
theorem d_31_1 : decode (cM 31) 1 = .ok (.invokevirtual 33, 3) := by decide +kernel
theorem kc_31_1 : callT (oM 31) 33 = some (0, 33, 0) ∧ fok 31 33 = true ∧ stM 33 = false := by decide +kernel
theorem d_31_4 : decode (cM 31) 4 = .ok (.iconst 0, 1) := by decide +kernel
theorem d_31_5 : decode (cM 31) 5 = .ok (.istore_n 3, 1) := by decide +kernel
theorem d_31_6 : decode (cM 31) 6 = .ok (.aload_n 0, 1) := by decide +kernel
theorem d_31_7 : decode (cM 31) 7 = .ok (.iconst (-1), 1) := by decide +kernel
theorem d_31_8 : decode (cM 31) 8 = .ok (.putfield 36, 3) := by decide +kernel
theorem d_31_11 : decode (cM 31) 11 = .ok (.aload_n 0, 1) := by decide +kernel
theorem d_31_12 : decode (cM 31) 12 = .ok (.iconst 0, 1) := by decide +kernel
theorem d_31_13 : decode (cM 31) 13 = .ok (.putfield 39, 3) := by decide +kernel
theorem d_31_16 : decode (cM 31) 16 = .ok (.aload_n 0, 1) := by decide +kernel
theorem d_31_17 : decode (cM 31) 17 = .ok (.iconst (-1), 1) := by decide +kernel
theorem d_31_18 : decode (cM 31) 18 = .ok (.putfield 42, 3) := by decide +kernel
theorem d_31_21 : decode (cM 31) 21 = .ok (.aload_n 0, 1) := by decide +kernel
theorem d_31_22 : decode (cM 31) 22 = .ok (.iconst 0, 1) := by decide +kernel
theorem d_31_23 : decode (cM 31) 23 = .ok (.putfield 45, 3) := by decide +kernel
theorem d_31_26 : decode (cM 31) 26 = .ok (.iconst 0, 1) := by decide +kernel
theorem d_31_27 : decode (cM 31) 27 = .ok (.istore 4, 2) := by decide +kernel
theorem d_31_29 : decode (cM 31) 29 = .ok (.iload 4, 2) := by decide +kernel
theorem d_31_31 : decode (cM 31) 31 = .ok (.aload_n 1, 1) := by decide +kernel
theorem d_31_32 : decode (cM 31) 32 = .ok (.getfield 48, 3) := by decide +kernel
theorem d_31_35 : decode (cM 31) 35 = .ok (.if_icmp .ge 86, 3) := by decide +kernel
theorem d_31_38 : decode (cM 31) 38 = .ok (.iload 4, 2) := by decide +kernel
theorem d_31_40 : decode (cM 31) 40 = .ok (.sipush 1024, 3) := by decide +kernel
theorem d_31_43 : decode (cM 31) 43 = .ok (.if_icmp .ge 78, 3) := by decide +kernel
theorem d_31_46 : decode (cM 31) 46 = .ok (.iload_n 2, 1) := by decide +kernel
theorem d_31_47 : decode (cM 31) 47 = .ok (.aload_n 1, 1) := by decide +kernel
theorem d_31_48 : decode (cM 31) 48 = .ok (.getfield 51, 3) := by decide +kernel
theorem d_31_51 : decode (cM 31) 51 = .ok (.iload 4, 2) := by decide +kernel
theorem d_31_53 : decode (cM 31) 53 = .ok (.iaload, 1) := by decide +kernel
theorem d_31_54 : decode (cM 31) 54 = .ok (.ixor, 1) := by decide +kernel
theorem d_31_55 : decode (cM 31) 55 = .ok (.istore 5, 2) := by decide +kernel
theorem d_31_57 : decode (cM 31) 57 = .ok (.aload_n 0, 1) := by decide +kernel
theorem d_31_58 : decode (cM 31) 58 = .ok (.iload 4, 2) := by decide +kernel
theorem d_31_60 : decode (cM 31) 60 = .ok (.iload 5, 2) := by decide +kernel
theorem d_31_62 : decode (cM 31) 62 = .ok (.invokevirtual 54, 3) := by decide +kernel
theorem kc_31_62 : callT (oM 31) 54 = some (0, 32, 2) ∧ fok 31 32 = true ∧ stM 32 = false := by decide +kernel
theorem d_31_65 : decode (cM 31) 65 = .ok (.ifCond .eq 50, 3) := by decide +kernel
theorem d_31_68 : decode (cM 31) 68 = .ok (.iinc 3 1, 3) := by decide +kernel
theorem d_31_71 : decode (cM 31) 71 = .ok (.aload_n 0, 1) := by decide +kernel
theorem d_31_72 : decode (cM 31) 72 = .ok (.dup, 1) := by decide +kernel
theorem d_31_73 : decode (cM 31) 73 = .ok (.getfield 36, 3) := by decide +kernel
theorem d_31_76 : decode (cM 31) 76 = .ok (.iload 4, 2) := by decide +kernel
theorem d_31_78 : decode (cM 31) 78 = .ok (.iand, 1) := by decide +kernel
theorem d_31_79 : decode (cM 31) 79 = .ok (.putfield 36, 3) := by decide +kernel
theorem d_31_82 : decode (cM 31) 82 = .ok (.aload_n 0, 1) := by decide +kernel
theorem d_31_83 : decode (cM 31) 83 = .ok (.dup, 1) := by decide +kernel
theorem d_31_84 : decode (cM 31) 84 = .ok (.getfield 39, 3) := by decide +kernel
theorem d_31_87 : decode (cM 31) 87 = .ok (.iload 4, 2) := by decide +kernel
theorem d_31_89 : decode (cM 31) 89 = .ok (.ior, 1) := by decide +kernel
theorem d_31_90 : decode (cM 31) 90 = .ok (.putfield 39, 3) := by decide +kernel
theorem d_31_93 : decode (cM 31) 93 = .ok (.aload_n 0, 1) := by decide +kernel
theorem d_31_94 : decode (cM 31) 94 = .ok (.dup, 1) := by decide +kernel
theorem d_31_95 : decode (cM 31) 95 = .ok (.getfield 42, 3) := by decide +kernel
theorem d_31_98 : decode (cM 31) 98 = .ok (.iload 5, 2) := by decide +kernel
theorem d_31_100 : decode (cM 31) 100 = .ok (.iand, 1) := by decide +kernel
theorem d_31_101 : decode (cM 31) 101 = .ok (.putfield 42, 3) := by decide +kernel
theorem d_31_104 : decode (cM 31) 104 = .ok (.aload_n 0, 1) := by decide +kernel
theorem d_31_105 : decode (cM 31) 105 = .ok (.dup, 1) := by decide +kernel
theorem d_31_106 : decode (cM 31) 106 = .ok (.getfield 45, 3) := by decide +kernel
theorem d_31_109 : decode (cM 31) 109 = .ok (.iload 5, 2) := by decide +kernel
theorem d_31_111 : decode (cM 31) 111 = .ok (.ior, 1) := by decide +kernel
theorem d_31_112 : decode (cM 31) 112 = .ok (.putfield 45, 3) := by decide +kernel
theorem d_31_115 : decode (cM 31) 115 = .ok (.iinc 4 1, 3) := by decide +kernel
theorem d_31_118 : decode (cM 31) 118 = .ok (.goto (-89), 3) := by decide +kernel
theorem d_31_121 : decode (cM 31) 121 = .ok (.iload_n 3, 1) := by decide +kernel
theorem d_31_122 : decode (cM 31) 122 = .ok (.ireturn, 1) := by decide +kernel
theorem d_32_0 : decode (cM 32) 0 = .ok (.iload_n 2, 1) := by decide +kernel
theorem d_32_1 : decode (cM 32) 1 = .ok (.aload_n 0, 1) := by decide +kernel
theorem d_32_2 : decode (cM 32) 2 = .ok (.getfield 58, 3) := by decide +kernel
theorem d_32_5 : decode (cM 32) 5 = .ok (.iand, 1) := by decide +kernel
theorem d_32_6 : decode (cM 32) 6 = .ok (.aload_n 0, 1) := by decide +kernel
theorem d_32_7 : decode (cM 32) 7 = .ok (.getfield 58, 3) := by decide +kernel
theorem d_32_10 : decode (cM 32) 10 = .ok (.if_icmp .ne 38, 3) := by decide +kernel
theorem d_32_13 : decode (cM 32) 13 = .ok (.iload_n 2, 1) := by decide +kernel
theorem d_32_14 : decode (cM 32) 14 = .ok (.aload_n 0, 1) := by decide +kernel
theorem d_32_15 : decode (cM 32) 15 = .ok (.getfield 61, 3) := by decide +kernel
theorem d_32_18 : decode (cM 32) 18 = .ok (.iand, 1) := by decide +kernel
theorem d_32_19 : decode (cM 32) 19 = .ok (.ifCond .ne 29, 3) := by decide +kernel
theorem d_32_22 : decode (cM 32) 22 = .ok (.iload_n 1, 1) := by decide +kernel
theorem d_32_23 : decode (cM 32) 23 = .ok (.aload_n 0, 1) := by decide +kernel
theorem d_32_24 : decode (cM 32) 24 = .ok (.getfield 64, 3) := by decide +kernel
theorem d_32_27 : decode (cM 32) 27 = .ok (.iand, 1) := by decide +kernel
theorem d_32_28 : decode (cM 32) 28 = .ok (.aload_n 0, 1) := by decide +kernel
theorem d_32_29 : decode (cM 32) 29 = .ok (.getfield 64, 3) := by decide +kernel
theorem d_32_32 : decode (cM 32) 32 = .ok (.if_icmp .ne 16, 3) := by decide +kernel
theorem d_32_35 : decode (cM 32) 35 = .ok (.iload_n 1, 1) := by decide +kernel
theorem d_32_36 : decode (cM 32) 36 = .ok (.aload_n 0, 1) := by decide +kernel
theorem d_32_37 : decode (cM 32) 37 = .ok (.getfield 67, 3) := by decide +kernel
theorem d_32_40 : decode (cM 32) 40 = .ok (.iand, 1) := by decide +kernel
theorem d_32_41 : decode (cM 32) 41 = .ok (.ifCond .ne 7, 3) := by decide +kernel
theorem d_32_44 : decode (cM 32) 44 = .ok (.iconst 1, 1) := by decide +kernel
theorem d_32_45 : decode (cM 32) 45 = .ok (.goto 4, 3) := by decide +kernel
theorem d_32_48 : decode (cM 32) 48 = .ok (.iconst 0, 1) := by decide +kernel
theorem d_32_49 : decode (cM 32) 49 = .ok (.ireturn, 1) := by decide +kernel
theorem d_33_0 : decode (cM 33) 0 = .ok (.aload_n 0, 1) := by decide +kernel
theorem d_33_1 : decode (cM 33) 1 = .ok (.iconst 0, 1) := by decide +kernel
theorem d_33_2 : decode (cM 33) 2 = .ok (.putfield 58, 3) := by decide +kernel
theorem d_33_5 : decode (cM 33) 5 = .ok (.aload_n 0, 1) := by decide +kernel
theorem d_33_6 : decode (cM 33) 6 = .ok (.iconst 0, 1) := by decide +kernel
theorem d_33_7 : decode (cM 33) 7 = .ok (.putfield 61, 3) := by decide +kernel
theorem d_33_10 : decode (cM 33) 10 = .ok (.aload_n 0, 1) := by decide +kernel
theorem d_33_11 : decode (cM 33) 11 = .ok (.iconst 0, 1) := by decide +kernel
theorem d_33_12 : decode (cM 33) 12 = .ok (.putfield 64, 3) := by decide +kernel
theorem d_33_15 : decode (cM 33) 15 = .ok (.aload_n 0, 1) := by decide +kernel
theorem d_33_16 : decode (cM 33) 16 = .ok (.iconst 0, 1) := by decide +kernel
theorem d_33_17 : decode (cM 33) 17 = .ok (.putfield 67, 3) := by decide +kernel
theorem d_33_20 : decode (cM 33) 20 = .ok (.iconst 0, 1) := by decide +kernel
theorem d_33_21 : decode (cM 33) 21 = .ok (.istore_n 1, 1) := by decide +kernel
theorem d_33_22 : decode (cM 33) 22 = .ok (.aload_n 0, 1) := by decide +kernel
theorem d_33_23 : decode (cM 33) 23 = .ok (.invokevirtual 70, 3) := by decide +kernel
theorem kc_33_23 : callT (oM 33) 70 = some (0, 30, 0) ∧ fok 33 30 = true ∧ stM 30 = false := by decide +kernel
theorem d_33_26 : decode (cM 33) 26 = .ok (.bipush 24, 2) := by decide +kernel
theorem d_33_28 : decode (cM 33) 28 = .ok (.invokestatic 74, 3) := by decide +kernel
theorem kc_33_28 : callT (oM 33) 74 = some (1, 280, 2) ∧ fok 33 280 = true ∧ stM 280 = true := by decide +kernel
theorem d_33_31 : decode (cM 33) 31 = .ok (.iconst 1, 1) := by decide +kernel
theorem d_33_32 : decode (cM 33) 32 = .ok (.isub, 1) := by decide +kernel
theorem d_33_33 : decode (cM 33) 33 = .ok (.istore_n 2, 1) := by decide +kernel
theorem d_33_34 : decode (cM 33) 34 = .ok (.iload_n 2, 1) := by decide +kernel
theorem d_33_35 : decode (cM 33) 35 = .ok (.ifCond .lt 65, 3) := by decide +kernel
theorem d_33_38 : decode (cM 33) 38 = .ok (.iload_n 1, 1) := by decide +kernel
theorem d_33_39 : decode (cM 33) 39 = .ok (.iload_n 2, 1) := by decide +kernel
theorem d_33_40 : decode (cM 33) 40 = .ok (.ishr, 1) := by decide +kernel
theorem d_33_41 : decode (cM 33) 41 = .ok (.iconst 1, 1) := by decide +kernel
theorem d_33_42 : decode (cM 33) 42 = .ok (.iand, 1) := by decide +kernel
theorem d_33_43 : decode (cM 33) 43 = .ok (.ifCond .ne 51, 3) := by decide +kernel
theorem d_33_46 : decode (cM 33) 46 = .ok (.aload_n 0, 1) := by decide +kernel
theorem d_33_47 : decode (cM 33) 47 = .ok (.getfield 9, 3) := by decide +kernel
theorem d_33_50 : decode (cM 33) 50 = .ok (.iload_n 2, 1) := by decide +kernel
theorem d_33_51 : decode (cM 33) 51 = .ok (.iaload, 1) := by decide +kernel
theorem d_33_52 : decode (cM 33) 52 = .ok (.iconst 2, 1) := by decide +kernel
theorem d_33_53 : decode (cM 33) 53 = .ok (.if_icmp .ne 17, 3) := by decide +kernel
theorem d_33_56 : decode (cM 33) 56 = .ok (.iload_n 1, 1) := by decide +kernel
theorem d_33_57 : decode (cM 33) 57 = .ok (.iconst 1, 1) := by decide +kernel
theorem d_33_58 : decode (cM 33) 58 = .ok (.aload_n 0, 1) := by decide +kernel
theorem d_33_59 : decode (cM 33) 59 = .ok (.getfield 15, 3) := by decide +kernel
theorem d_33_62 : decode (cM 33) 62 = .ok (.iload_n 2, 1) := by decide +kernel
theorem d_33_63 : decode (cM 33) 63 = .ok (.iaload, 1) := by decide +kernel
theorem d_33_64 : decode (cM 33) 64 = .ok (.ishl, 1) := by decide +kernel
theorem d_33_65 : decode (cM 33) 65 = .ok (.ior, 1) := by decide +kernel
theorem d_33_66 : decode (cM 33) 66 = .ok (.istore_n 1, 1) := by decide +kernel
theorem d_33_67 : decode (cM 33) 67 = .ok (.goto 27, 3) := by decide +kernel
theorem d_33_70 : decode (cM 33) 70 = .ok (.aload_n 0, 1) := by decide +kernel
theorem d_33_71 : decode (cM 33) 71 = .ok (.aload_n 0, 1) := by decide +kernel
theorem d_33_72 : decode (cM 33) 72 = .ok (.getfield 9, 3) := by decide +kernel
theorem d_33_75 : decode (cM 33) 75 = .ok (.iload_n 2, 1) := by decide +kernel
theorem d_33_76 : decode (cM 33) 76 = .ok (.iaload, 1) := by decide +kernel
theorem d_33_77 : decode (cM 33) 77 = .ok (.iconst 1, 1) := by decide +kernel
theorem d_33_78 : decode (cM 33) 78 = .ok (.aload_n 0, 1) := by decide +kernel
theorem d_33_79 : decode (cM 33) 79 = .ok (.getfield 15, 3) := by decide +kernel
theorem d_33_82 : decode (cM 33) 82 = .ok (.iload_n 2, 1) := by decide +kernel
theorem d_33_83 : decode (cM 33) 83 = .ok (.iaload, 1) := by decide +kernel
theorem d_33_84 : decode (cM 33) 84 = .ok (.ishl, 1) := by decide +kernel
theorem d_33_85 : decode (cM 33) 85 = .ok (.aload_n 0, 1) := by decide +kernel
theorem d_33_86 : decode (cM 33) 86 = .ok (.getfield 18, 3) := by decide +kernel
theorem d_33_89 : decode (cM 33) 89 = .ok (.iload_n 2, 1) := by decide +kernel
theorem d_33_90 : decode (cM 33) 90 = .ok (.baload, 1) := by decide +kernel
theorem d_33_91 : decode (cM 33) 91 = .ok (.invokevirtual 80, 3) := by decide +kernel
theorem kc_33_91 : callT (oM 33) 80 = some (0, 34, 3) ∧ fok 33 34 = true ∧ stM 34 = false := by decide +kernel
theorem d_33_94 : decode (cM 33) 94 = .ok (.iinc 2 (-1), 3) := by decide +kernel
theorem d_33_97 : decode (cM 33) 97 = .ok (.goto (-63), 3) := by decide +kernel
theorem d_33_100 : decode (cM 33) 100 = .ok (.return_, 1) := by decide +kernel
theorem d_34_0 : decode (cM 34) 0 = .ok (.iload_n 1, 1) := by decide +kernel
theorem d_34_1 : decode (cM 34) 1 = .ok (.ifCond .ne 20, 3) := by decide +kernel
theorem d_34_4 : decode (cM 34) 4 = .ok (.iload_n 3, 1) := by decide +kernel
theorem d_34_5 : decode (cM 34) 5 = .ok (.ifCond .eq 16, 3) := by decide +kernel
theorem d_34_8 : decode (cM 34) 8 = .ok (.aload_n 0, 1) := by decide +kernel
theorem d_34_9 : decode (cM 34) 9 = .ok (.dup, 1) := by decide +kernel
theorem d_34_10 : decode (cM 34) 10 = .ok (.getfield 58, 3) := by decide +kernel
theorem d_34_13 : decode (cM 34) 13 = .ok (.iload_n 2, 1) := by decide +kernel
theorem d_34_14 : decode (cM 34) 14 = .ok (.ior, 1) := by decide +kernel
theorem d_34_15 : decode (cM 34) 15 = .ok (.putfield 58, 3) := by decide +kernel
theorem d_34_18 : decode (cM 34) 18 = .ok (.goto 52, 3) := by decide +kernel
theorem d_34_21 : decode (cM 34) 21 = .ok (.iload_n 1, 1) := by decide +kernel
theorem d_34_22 : decode (cM 34) 22 = .ok (.ifCond .ne 16, 3) := by decide +kernel
theorem d_34_25 : decode (cM 34) 25 = .ok (.aload_n 0, 1) := by decide +kernel
theorem d_34_26 : decode (cM 34) 26 = .ok (.dup, 1) := by decide +kernel
theorem d_34_27 : decode (cM 34) 27 = .ok (.getfield 61, 3) := by decide +kernel
theorem d_34_30 : decode (cM 34) 30 = .ok (.iload_n 2, 1) := by decide +kernel
theorem d_34_31 : decode (cM 34) 31 = .ok (.ior, 1) := by decide +kernel
theorem d_34_32 : decode (cM 34) 32 = .ok (.putfield 61, 3) := by decide +kernel
theorem d_34_35 : decode (cM 34) 35 = .ok (.goto 35, 3) := by decide +kernel
theorem d_34_38 : decode (cM 34) 38 = .ok (.iload_n 1, 1) := by decide +kernel
theorem d_34_39 : decode (cM 34) 39 = .ok (.iconst 1, 1) := by decide +kernel
theorem d_34_40 : decode (cM 34) 40 = .ok (.if_icmp .ne 20, 3) := by decide +kernel
theorem d_34_43 : decode (cM 34) 43 = .ok (.iload_n 3, 1) := by decide +kernel
theorem d_34_44 : decode (cM 34) 44 = .ok (.ifCond .eq 16, 3) := by decide +kernel
theorem d_34_47 : decode (cM 34) 47 = .ok (.aload_n 0, 1) := by decide +kernel
theorem d_34_48 : decode (cM 34) 48 = .ok (.dup, 1) := by decide +kernel
theorem d_34_49 : decode (cM 34) 49 = .ok (.getfield 64, 3) := by decide +kernel
theorem d_34_52 : decode (cM 34) 52 = .ok (.iload_n 2, 1) := by decide +kernel
theorem d_34_53 : decode (cM 34) 53 = .ok (.ior, 1) := by decide +kernel
theorem d_34_54 : decode (cM 34) 54 = .ok (.putfield 64, 3) := by decide +kernel
theorem d_34_57 : decode (cM 34) 57 = .ok (.goto 13, 3) := by decide +kernel
theorem d_34_60 : decode (cM 34) 60 = .ok (.aload_n 0, 1) := by decide +kernel
theorem d_34_61 : decode (cM 34) 61 = .ok (.dup, 1) := by decide +kernel
theorem d_34_62 : decode (cM 34) 62 = .ok (.getfield 67, 3) := by decide +kernel
theorem d_34_65 : decode (cM 34) 65 = .ok (.iload_n 2, 1) := by decide +kernel
theorem d_34_66 : decode (cM 34) 66 = .ok (.ior, 1) := by decide +kernel
theorem d_34_67 : decode (cM 34) 67 = .ok (.putfield 67, 3) := by decide +kernel
theorem d_34_70 : decode (cM 34) 70 = .ok (.return_, 1) := by decide +kernel
theorem d_35_0 : decode (cM 35) 0 = .ok (.aload_n 0, 1) := by decide +kernel
theorem d_35_1 : decode (cM 35) 1 = .ok (.invokespecial 3, 3) := by decide +kernel
theorem d_35_4 : decode (cM 35) 4 = .ok (.aload_n 0, 1) := by decide +kernel
theorem d_35_5 : decode (cM 35) 5 = .ok (.sipush 700, 3) := by decide +kernel
theorem d_35_8 : decode (cM 35) 8 = .ok (.newarray .byte, 2) := by decide +kernel
theorem d_35_10 : decode (cM 35) 10 = .ok (.putfield 9, 3) := by decide +kernel
theorem d_35_13 : decode (cM 35) 13 = .ok (.aload_n 0, 1) := by decide +kernel
theorem d_35_14 : decode (cM 35) 14 = .ok (.new 15, 3) := by decide +kernel
theorem d_35_17 : decode (cM 35) 17 = .ok (.dup, 1) := by decide +kernel
theorem d_35_18 : decode (cM 35) 18 = .ok (.invokespecial 17, 3) := by decide +kernel
theorem kc_35_18 : callT (oM 35) 17 = some (2, 87, 0) ∧ fok 35 87 = true ∧ stM 87 = false := by decide +kernel
theorem d_35_21 : decode (cM 35) 21 = .ok (.putfield 18, 3) := by decide +kernel
theorem d_35_24 : decode (cM 35) 24 = .ok (.aload_n 0, 1) := by decide +kernel
theorem d_35_25 : decode (cM 35) 25 = .ok (.bipush 72, 2) := by decide +kernel
theorem d_35_27 : decode (cM 35) 27 = .ok (.newarray .int, 2) := by decide +kernel
theorem d_35_29 : decode (cM 35) 29 = .ok (.putfield 22, 3) := by decide +kernel
theorem d_35_32 : decode (cM 35) 32 = .ok (.aload_n 0, 1) := by decide +kernel
theorem d_35_33 : decode (cM 35) 33 = .ok (.iconst (-1), 1) := by decide +kernel
theorem d_35_34 : decode (cM 35) 34 = .ok (.putfield 26, 3) := by decide +kernel
theorem d_35_37 : decode (cM 35) 37 = .ok (.return_, 1) := by decide +kernel
theorem d_36_0 : decode (cM 36) 0 = .ok (.bipush 24, 2) := by decide +kernel
theorem d_36_2 : decode (cM 36) 2 = .ok (.istore_n 2, 1) := by decide +kernel
theorem d_36_3 : decode (cM 36) 3 = .ok (.iload_n 2, 1) := by decide +kernel
theorem d_36_4 : decode (cM 36) 4 = .ok (.ifCond .lt 49, 3) := by decide +kernel
theorem d_36_7 : decode (cM 36) 7 = .ok (.aload_n 0, 1) := by decide +kernel
theorem d_36_8 : decode (cM 36) 8 = .ok (.getfield 30, 3) := by decide +kernel
theorem d_36_11 : decode (cM 36) 11 = .ok (.ifCond .lt 42, 3) := by decide +kernel
theorem d_36_14 : decode (cM 36) 14 = .ok (.aload_n 0, 1) := by decide +kernel
theorem d_36_15 : decode (cM 36) 15 = .ok (.getfield 30, 3) := by decide +kernel
theorem d_36_18 : decode (cM 36) 18 = .ok (.sipush 700, 3) := by decide +kernel
theorem d_36_21 : decode (cM 36) 21 = .ok (.if_icmp .ge 32, 3) := by decide +kernel
theorem d_36_24 : decode (cM 36) 24 = .ok (.aload_n 0, 1) := by decide +kernel
theorem d_36_25 : decode (cM 36) 25 = .ok (.getfield 9, 3) := by decide +kernel
theorem d_36_28 : decode (cM 36) 28 = .ok (.aload_n 0, 1) := by decide +kernel
theorem d_36_29 : decode (cM 36) 29 = .ok (.getfield 30, 3) := by decide +kernel
theorem d_36_32 : decode (cM 36) 32 = .ok (.iload_n 1, 1) := by decide +kernel
theorem d_36_33 : decode (cM 36) 33 = .ok (.iload_n 2, 1) := by decide +kernel
theorem d_36_34 : decode (cM 36) 34 = .ok (.ishr, 1) := by decide +kernel
theorem d_36_35 : decode (cM 36) 35 = .ok (.i2b, 1) := by decide +kernel
theorem d_36_36 : decode (cM 36) 36 = .ok (.bastore, 1) := by decide +kernel
theorem d_36_37 : decode (cM 36) 37 = .ok (.aload_n 0, 1) := by decide +kernel
theorem d_36_38 : decode (cM 36) 38 = .ok (.dup, 1) := by decide +kernel
theorem d_36_39 : decode (cM 36) 39 = .ok (.getfield 30, 3) := by decide +kernel
theorem d_36_42 : decode (cM 36) 42 = .ok (.iconst 1, 1) := by decide +kernel
theorem d_36_43 : decode (cM 36) 43 = .ok (.iadd, 1) := by decide +kernel
theorem d_36_44 : decode (cM 36) 44 = .ok (.putfield 30, 3) := by decide +kernel
theorem d_36_47 : decode (cM 36) 47 = .ok (.iinc 2 (-8), 3) := by decide +kernel
theorem d_36_50 : decode (cM 36) 50 = .ok (.goto (-47), 3) := by decide +kernel
theorem d_36_53 : decode (cM 36) 53 = .ok (.return_, 1) := by decide +kernel
theorem d_37_0 : decode (cM 37) 0 = .ok (.aload_n 0, 1) := by decide +kernel
theorem d_37_1 : decode (cM 37) 1 = .ok (.getfield 18, 3) := by decide +kernel
theorem d_37_4 : decode (cM 37) 4 = .ok (.astore_n 2, 1) := by decide +kernel
theorem d_37_5 : decode (cM 37) 5 = .ok (.aload_n 0, 1) := by decide +kernel
theorem d_37_6 : decode (cM 37) 6 = .ok (.aload_n 1, 1) := by decide +kernel
theorem d_37_7 : decode (cM 37) 7 = .ok (.putfield 18, 3) := by decide +kernel
theorem d_37_10 : decode (cM 37) 10 = .ok (.aload_n 2, 1) := by decide +kernel
theorem d_37_11 : decode (cM 37) 11 = .ok (.areturn, 1) := by decide +kernel
theorem d_38_0 : decode (cM 38) 0 = .ok (.aload_n 0, 1) := by decide +kernel
theorem d_38_1 : decode (cM 38) 1 = .ok (.iload_n 1, 1) := by decide +kernel
theorem d_38_2 : decode (cM 38) 2 = .ok (.sipush 700, 3) := by decide +kernel
theorem d_38_5 : decode (cM 38) 5 = .ok (.invokestatic 33, 3) := by decide +kernel
theorem kc_38_5 : callT (oM 38) 33 = some (1, 280, 2) ∧ fok 38 280 = true ∧ stM 280 = true := by decide +kernel
theorem d_38_8 : decode (cM 38) 8 = .ok (.putfield 39, 3) := by decide +kernel
theorem d_38_11 : decode (cM 38) 11 = .ok (.aload_n 0, 1) := by decide +kernel
theorem d_38_12 : decode (cM 38) 12 = .ok (.iconst 0, 1) := by decide +kernel
theorem d_38_13 : decode (cM 38) 13 = .ok (.putfield 30, 3) := by decide +kernel
theorem d_38_16 : decode (cM 38) 16 = .ok (.aload_n 0, 1) := by decide +kernel
theorem d_38_17 : decode (cM 38) 17 = .ok (.iconst 0, 1) := by decide +kernel
theorem d_38_18 : decode (cM 38) 18 = .ok (.putfield 42, 3) := by decide +kernel
theorem d_38_21 : decode (cM 38) 21 = .ok (.aload_n 0, 1) := by decide +kernel
theorem d_38_22 : decode (cM 38) 22 = .ok (.getfield 18, 3) := by decide +kernel
theorem d_38_25 : decode (cM 38) 25 = .ok (.invokevirtual 45, 3) := by decide +kernel
theorem kc_38_25 : callT (oM 38) 45 = some (0, 88, 0) ∧ fok 38 88 = true ∧ stM 88 = false := by decide +kernel
theorem d_38_28 : decode (cM 38) 28 = .ok (.aload_n 0, 1) := by decide +kernel
theorem d_38_29 : decode (cM 38) 29 = .ok (.iconst 0, 1) := by decide +kernel
theorem d_38_30 : decode (cM 38) 30 = .ok (.putfield 48, 3) := by decide +kernel
theorem d_38_33 : decode (cM 38) 33 = .ok (.aload_n 0, 1) := by decide +kernel
theorem d_38_34 : decode (cM 38) 34 = .ok (.iconst 0, 1) := by decide +kernel
theorem d_38_35 : decode (cM 38) 35 = .ok (.putfield 51, 3) := by decide +kernel
theorem d_38_38 : decode (cM 38) 38 = .ok (.aload_n 0, 1) := by decide +kernel
theorem d_38_39 : decode (cM 38) 39 = .ok (.iconst (-1), 1) := by decide +kernel
theorem d_38_40 : decode (cM 38) 40 = .ok (.putfield 26, 3) := by decide +kernel
theorem d_38_43 : decode (cM 38) 43 = .ok (.return_, 1) := by decide +kernel
theorem d_39_0 : decode (cM 39) 0 = .ok (.aload_n 0, 1) := by decide +kernel
theorem d_39_1 : decode (cM 39) 1 = .ok (.invokevirtual 54, 3) := by decide +kernel
theorem kc_39_1 : callT (oM 39) 54 = some (0, 44, 0) ∧ fok 39 44 = true ∧ stM 44 = false := by decide +kernel
theorem d_39_4 : decode (cM 39) 4 = .ok (.aload_n 0, 1) := by decide +kernel
theorem d_39_5 : decode (cM 39) 5 = .ok (.getfield 57, 3) := by decide +kernel
theorem d_39_8 : decode (cM 39) 8 = .ok (.ifCond .eq 7, 3) := by decide +kernel
theorem d_39_11 : decode (cM 39) 11 = .ok (.iconst 1, 1) := by decide +kernel
theorem d_39_12 : decode (cM 39) 12 = .ok (.goto 4, 3) := by decide +kernel
theorem d_39_15 : decode (cM 39) 15 = .ok (.iconst 0, 1) := by decide +kernel
theorem d_39_16 : decode (cM 39) 16 = .ok (.ireturn, 1) := by decide +kernel
theorem d_40_0 : decode (cM 40) 0 = .ok (.aload_n 0, 1) := by decide +kernel
theorem d_40_1 : decode (cM 40) 1 = .ok (.iload_n 1, 1) := by decide +kernel
theorem d_40_2 : decode (cM 40) 2 = .ok (.putfield 51, 3) := by decide +kernel
theorem d_40_5 : decode (cM 40) 5 = .ok (.aload_n 0, 1) := by decide +kernel
theorem d_40_6 : decode (cM 40) 6 = .ok (.aload_n 0, 1) := by decide +kernel
theorem d_40_7 : decode (cM 40) 7 = .ok (.getfield 60, 3) := by decide +kernel
theorem d_40_10 : decode (cM 40) 10 = .ok (.putfield 26, 3) := by decide +kernel
theorem d_40_13 : decode (cM 40) 13 = .ok (.iconst 0, 1) := by decide +kernel
theorem d_40_14 : decode (cM 40) 14 = .ok (.ireturn, 1) := by decide +kernel
theorem d_41_0 : decode (cM 41) 0 = .ok (.iload_n 1, 1) := by decide +kernel
theorem d_41_1 : decode (cM 41) 1 = .ok (.ifCond .lt 31, 3) := by decide +kernel
theorem d_41_4 : decode (cM 41) 4 = .ok (.iload_n 1, 1) := by decide +kernel
theorem d_41_5 : decode (cM 41) 5 = .ok (.aload_n 0, 1) := by decide +kernel
theorem d_41_6 : decode (cM 41) 6 = .ok (.getfield 39, 3) := by decide +kernel
theorem d_41_9 : decode (cM 41) 9 = .ok (.if_icmp .ge 23, 3) := by decide +kernel
theorem d_41_12 : decode (cM 41) 12 = .ok (.iload_n 1, 1) := by decide +kernel
theorem d_41_13 : decode (cM 41) 13 = .ok (.sipush 700, 3) := by decide +kernel
theorem d_41_16 : decode (cM 41) 16 = .ok (.if_icmp .ge 16, 3) := by decide +kernel
theorem d_41_19 : decode (cM 41) 19 = .ok (.aload_n 0, 1) := by decide +kernel
theorem d_41_20 : decode (cM 41) 20 = .ok (.getfield 9, 3) := by decide +kernel
theorem d_41_23 : decode (cM 41) 23 = .ok (.iload_n 1, 1) := by decide +kernel
theorem d_41_24 : decode (cM 41) 24 = .ok (.baload, 1) := by decide +kernel
theorem d_41_25 : decode (cM 41) 25 = .ok (.sipush 255, 3) := by decide +kernel
theorem d_41_28 : decode (cM 41) 28 = .ok (.iand, 1) := by decide +kernel
theorem d_41_29 : decode (cM 41) 29 = .ok (.goto 4, 3) := by decide +kernel
theorem d_41_32 : decode (cM 41) 32 = .ok (.iconst 0, 1) := by decide +kernel
theorem d_41_33 : decode (cM 41) 33 = .ok (.ireturn, 1) := by decide +kernel
theorem d_42_0 : decode (cM 42) 0 = .ok (.iload_n 0, 1) := by decide +kernel
theorem d_42_1 : decode (cM 42) 1 = .ok (.bipush 97, 2) := by decide +kernel
theorem d_42_3 : decode (cM 42) 3 = .ok (.if_icmp .lt 13, 3) := by decide +kernel
theorem d_42_6 : decode (cM 42) 6 = .ok (.iload_n 0, 1) := by decide +kernel
theorem d_42_7 : decode (cM 42) 7 = .ok (.bipush 122, 2) := by decide +kernel
theorem d_42_9 : decode (cM 42) 9 = .ok (.if_icmp .gt 7, 3) := by decide +kernel
theorem d_42_12 : decode (cM 42) 12 = .ok (.iconst 1, 1) := by decide +kernel
theorem d_42_13 : decode (cM 42) 13 = .ok (.goto 4, 3) := by decide +kernel
theorem d_42_16 : decode (cM 42) 16 = .ok (.iconst 0, 1) := by decide +kernel
theorem d_42_17 : decode (cM 42) 17 = .ok (.ireturn, 1) := by decide +kernel
theorem d_43_0 : decode (cM 43) 0 = .ok (.iload_n 0, 1) := by decide +kernel
theorem d_43_1 : decode (cM 43) 1 = .ok (.bipush 48, 2) := by decide +kernel
theorem d_43_3 : decode (cM 43) 3 = .ok (.if_icmp .lt 13, 3) := by decide +kernel
theorem d_43_6 : decode (cM 43) 6 = .ok (.iload_n 0, 1) := by decide +kernel
theorem d_43_7 : decode (cM 43) 7 = .ok (.bipush 57, 2) := by decide +kernel
theorem d_43_9 : decode (cM 43) 9 = .ok (.if_icmp .gt 7, 3) := by decide +kernel
theorem d_43_12 : decode (cM 43) 12 = .ok (.iconst 1, 1) := by decide +kernel
theorem d_43_13 : decode (cM 43) 13 = .ok (.goto 4, 3) := by decide +kernel
theorem d_43_16 : decode (cM 43) 16 = .ok (.iconst 0, 1) := by decide +kernel
theorem d_43_17 : decode (cM 43) 17 = .ok (.ireturn, 1) := by decide +kernel
theorem d_44_0 : decode (cM 44) 0 = .ok (.aload_n 0, 1) := by decide +kernel
theorem d_44_1 : decode (cM 44) 1 = .ok (.getfield 42, 3) := by decide +kernel
theorem d_44_4 : decode (cM 44) 4 = .ok (.aload_n 0, 1) := by decide +kernel
theorem d_44_5 : decode (cM 44) 5 = .ok (.getfield 39, 3) := by decide +kernel
theorem d_44_8 : decode (cM 44) 8 = .ok (.if_icmp .ge 42, 3) := by decide +kernel
theorem d_44_11 : decode (cM 44) 11 = .ok (.aload_n 0, 1) := by decide +kernel
theorem d_44_12 : decode (cM 44) 12 = .ok (.aload_n 0, 1) := by decide +kernel
theorem d_44_13 : decode (cM 44) 13 = .ok (.getfield 42, 3) := by decide +kernel
theorem d_44_16 : decode (cM 44) 16 = .ok (.invokevirtual 63, 3) := by decide +kernel
theorem kc_44_16 : callT (oM 44) 63 = some (0, 41, 1) ∧ fok 44 41 = true ∧ stM 41 = false := by decide +kernel
theorem d_44_19 : decode (cM 44) 19 = .ok (.bipush 10, 2) := by decide +kernel
theorem d_44_21 : decode (cM 44) 21 = .ok (.if_icmp .eq 16, 3) := by decide +kernel
theorem d_44_24 : decode (cM 44) 24 = .ok (.aload_n 0, 1) := by decide +kernel
theorem d_44_25 : decode (cM 44) 25 = .ok (.aload_n 0, 1) := by decide +kernel
theorem d_44_26 : decode (cM 44) 26 = .ok (.getfield 42, 3) := by decide +kernel
theorem d_44_29 : decode (cM 44) 29 = .ok (.invokevirtual 63, 3) := by decide +kernel
theorem kc_44_29 : callT (oM 44) 63 = some (0, 41, 1) ∧ fok 44 41 = true ∧ stM 41 = false := by decide +kernel
theorem d_44_32 : decode (cM 44) 32 = .ok (.bipush 32, 2) := by decide +kernel
theorem d_44_34 : decode (cM 44) 34 = .ok (.if_icmp .ne 16, 3) := by decide +kernel
theorem d_44_37 : decode (cM 44) 37 = .ok (.aload_n 0, 1) := by decide +kernel
theorem d_44_38 : decode (cM 44) 38 = .ok (.dup, 1) := by decide +kernel
theorem d_44_39 : decode (cM 44) 39 = .ok (.getfield 42, 3) := by decide +kernel
theorem d_44_42 : decode (cM 44) 42 = .ok (.iconst 1, 1) := by decide +kernel
theorem d_44_43 : decode (cM 44) 43 = .ok (.iadd, 1) := by decide +kernel
theorem d_44_44 : decode (cM 44) 44 = .ok (.putfield 42, 3) := by decide +kernel
theorem d_44_47 : decode (cM 44) 47 = .ok (.goto (-47), 3) := by decide +kernel
theorem d_44_50 : decode (cM 44) 50 = .ok (.aload_n 0, 1) := by decide +kernel
theorem d_44_51 : decode (cM 44) 51 = .ok (.aload_n 0, 1) := by decide +kernel
theorem d_44_52 : decode (cM 44) 52 = .ok (.getfield 42, 3) := by decide +kernel
theorem d_44_55 : decode (cM 44) 55 = .ok (.putfield 60, 3) := by decide +kernel
theorem d_44_58 : decode (cM 44) 58 = .ok (.aload_n 0, 1) := by decide +kernel
theorem d_44_59 : decode (cM 44) 59 = .ok (.iconst 0, 1) := by decide +kernel
theorem d_44_60 : decode (cM 44) 60 = .ok (.putfield 67, 3) := by decide +kernel
theorem d_44_63 : decode (cM 44) 63 = .ok (.aload_n 0, 1) := by decide +kernel
theorem d_44_64 : decode (cM 44) 64 = .ok (.getfield 42, 3) := by decide +kernel
theorem d_44_67 : decode (cM 44) 67 = .ok (.aload_n 0, 1) := by decide +kernel
theorem d_44_68 : decode (cM 44) 68 = .ok (.getfield 39, 3) := by decide +kernel
theorem d_44_71 : decode (cM 44) 71 = .ok (.if_icmp .lt 11, 3) := by decide +kernel
theorem d_44_74 : decode (cM 44) 74 = .ok (.aload_n 0, 1) := by decide +kernel
theorem d_44_75 : decode (cM 44) 75 = .ok (.iconst 0, 1) := by decide +kernel
theorem d_44_76 : decode (cM 44) 76 = .ok (.putfield 57, 3) := by decide +kernel
theorem d_44_79 : decode (cM 44) 79 = .ok (.goto 49, 3) := by decide +kernel
theorem d_44_82 : decode (cM 44) 82 = .ok (.aload_n 0, 1) := by decide +kernel
theorem d_44_83 : decode (cM 44) 83 = .ok (.aload_n 0, 1) := by decide +kernel
theorem d_44_84 : decode (cM 44) 84 = .ok (.getfield 42, 3) := by decide +kernel
theorem d_44_87 : decode (cM 44) 87 = .ok (.invokevirtual 63, 3) := by decide +kernel
theorem kc_44_87 : callT (oM 44) 63 = some (0, 41, 1) ∧ fok 44 41 = true ∧ stM 41 = false := by decide +kernel
theorem d_44_90 : decode (cM 44) 90 = .ok (.invokestatic 70, 3) := by decide +kernel
theorem kc_44_90 : callT (oM 44) 70 = some (1, 42, 1) ∧ fok 44 42 = true ∧ stM 42 = true := by decide +kernel
theorem d_44_93 : decode (cM 44) 93 = .ok (.ifCond .eq 10, 3) := by decide +kernel
theorem d_44_96 : decode (cM 44) 96 = .ok (.aload_n 0, 1) := by decide +kernel
theorem d_44_97 : decode (cM 44) 97 = .ok (.invokevirtual 74, 3) := by decide +kernel
theorem kc_44_97 : callT (oM 44) 74 = some (0, 45, 0) ∧ fok 44 45 = true ∧ stM 45 = false := by decide +kernel
theorem d_44_100 : decode (cM 44) 100 = .ok (.goto 28, 3) := by decide +kernel
theorem d_44_103 : decode (cM 44) 103 = .ok (.aload_n 0, 1) := by decide +kernel
theorem d_44_104 : decode (cM 44) 104 = .ok (.aload_n 0, 1) := by decide +kernel
theorem d_44_105 : decode (cM 44) 105 = .ok (.getfield 42, 3) := by decide +kernel
theorem d_44_108 : decode (cM 44) 108 = .ok (.invokevirtual 63, 3) := by decide +kernel
theorem kc_44_108 : callT (oM 44) 63 = some (0, 41, 1) ∧ fok 44 41 = true ∧ stM 41 = false := by decide +kernel
theorem d_44_111 : decode (cM 44) 111 = .ok (.invokestatic 77, 3) := by decide +kernel
theorem kc_44_111 : callT (oM 44) 77 = some (1, 43, 1) ∧ fok 44 43 = true ∧ stM 43 = true := by decide +kernel
theorem d_44_114 : decode (cM 44) 114 = .ok (.ifCond .eq 10, 3) := by decide +kernel
theorem d_44_117 : decode (cM 44) 117 = .ok (.aload_n 0, 1) := by decide +kernel
theorem d_44_118 : decode (cM 44) 118 = .ok (.invokevirtual 80, 3) := by decide +kernel
theorem kc_44_118 : callT (oM 44) 80 = some (0, 47, 0) ∧ fok 44 47 = true ∧ stM 47 = false := by decide +kernel
theorem d_44_121 : decode (cM 44) 121 = .ok (.goto 7, 3) := by decide +kernel
theorem d_44_124 : decode (cM 44) 124 = .ok (.aload_n 0, 1) := by decide +kernel
theorem d_44_125 : decode (cM 44) 125 = .ok (.invokevirtual 83, 3) := by decide +kernel
theorem kc_44_125 : callT (oM 44) 83 = some (0, 48, 0) ∧ fok 44 48 = true ∧ stM 48 = false := by decide +kernel
theorem d_44_128 : decode (cM 44) 128 = .ok (.return_, 1) := by decide +kernel
theorem d_45_0 : decode (cM 45) 0 = .ok (.iconst 0, 1) := by decide +kernel
theorem d_45_1 : decode (cM 45) 1 = .ok (.istore_n 1, 1) := by decide +kernel
theorem d_45_2 : decode (cM 45) 2 = .ok (.aload_n 0, 1) := by decide +kernel
theorem d_45_3 : decode (cM 45) 3 = .ok (.getfield 42, 3) := by decide +kernel
theorem d_45_6 : decode (cM 45) 6 = .ok (.aload_n 0, 1) := by decide +kernel
theorem d_45_7 : decode (cM 45) 7 = .ok (.getfield 39, 3) := by decide +kernel
theorem d_45_10 : decode (cM 45) 10 = .ok (.if_icmp .ge 67, 3) := by decide +kernel
theorem d_45_13 : decode (cM 45) 13 = .ok (.aload_n 0, 1) := by decide +kernel
theorem d_45_14 : decode (cM 45) 14 = .ok (.aload_n 0, 1) := by decide +kernel
theorem d_45_15 : decode (cM 45) 15 = .ok (.getfield 42, 3) := by decide +kernel
theorem d_45_18 : decode (cM 45) 18 = .ok (.invokevirtual 63, 3) := by decide +kernel
theorem kc_45_18 : callT (oM 45) 63 = some (0, 41, 1) ∧ fok 45 41 = true ∧ stM 41 = false := by decide +kernel
theorem d_45_21 : decode (cM 45) 21 = .ok (.invokestatic 70, 3) := by decide +kernel
theorem kc_45_21 : callT (oM 45) 70 = some (1, 42, 1) ∧ fok 45 42 = true ∧ stM 42 = true := by decide +kernel
theorem d_45_24 : decode (cM 45) 24 = .ok (.ifCond .eq 53, 3) := by decide +kernel
theorem d_45_27 : decode (cM 45) 27 = .ok (.iload_n 1, 1) := by decide +kernel
theorem d_45_28 : decode (cM 45) 28 = .ok (.bipush 6, 2) := by decide +kernel
theorem d_45_30 : decode (cM 45) 30 = .ok (.if_icmp .ge 31, 3) := by decide +kernel
theorem d_45_33 : decode (cM 45) 33 = .ok (.aload_n 0, 1) := by decide +kernel
theorem d_45_34 : decode (cM 45) 34 = .ok (.dup, 1) := by decide +kernel
theorem d_45_35 : decode (cM 45) 35 = .ok (.getfield 67, 3) := by decide +kernel
theorem d_45_38 : decode (cM 45) 38 = .ok (.aload_n 0, 1) := by decide +kernel
theorem d_45_39 : decode (cM 45) 39 = .ok (.aload_n 0, 1) := by decide +kernel
theorem d_45_40 : decode (cM 45) 40 = .ok (.getfield 42, 3) := by decide +kernel
theorem d_45_43 : decode (cM 45) 43 = .ok (.invokevirtual 63, 3) := by decide +kernel
theorem kc_45_43 : callT (oM 45) 63 = some (0, 41, 1) ∧ fok 45 41 = true ∧ stM 41 = false := by decide +kernel
theorem d_45_46 : decode (cM 45) 46 = .ok (.bipush 97, 2) := by decide +kernel
theorem d_45_48 : decode (cM 45) 48 = .ok (.isub, 1) := by decide +kernel
theorem d_45_49 : decode (cM 45) 49 = .ok (.iconst 1, 1) := by decide +kernel
theorem d_45_50 : decode (cM 45) 50 = .ok (.iadd, 1) := by decide +kernel
theorem d_45_51 : decode (cM 45) 51 = .ok (.iconst 5, 1) := by decide +kernel
theorem d_45_52 : decode (cM 45) 52 = .ok (.iconst 5, 1) := by decide +kernel
theorem d_45_53 : decode (cM 45) 53 = .ok (.iload_n 1, 1) := by decide +kernel
theorem d_45_54 : decode (cM 45) 54 = .ok (.isub, 1) := by decide +kernel
theorem d_45_55 : decode (cM 45) 55 = .ok (.imul, 1) := by decide +kernel
theorem d_45_56 : decode (cM 45) 56 = .ok (.ishl, 1) := by decide +kernel
theorem d_45_57 : decode (cM 45) 57 = .ok (.ior, 1) := by decide +kernel
theorem d_45_58 : decode (cM 45) 58 = .ok (.putfield 67, 3) := by decide +kernel
theorem d_45_61 : decode (cM 45) 61 = .ok (.iinc 1 1, 3) := by decide +kernel
theorem d_45_64 : decode (cM 45) 64 = .ok (.aload_n 0, 1) := by decide +kernel
theorem d_45_65 : decode (cM 45) 65 = .ok (.dup, 1) := by decide +kernel
theorem d_45_66 : decode (cM 45) 66 = .ok (.getfield 42, 3) := by decide +kernel
theorem d_45_69 : decode (cM 45) 69 = .ok (.iconst 1, 1) := by decide +kernel
theorem d_45_70 : decode (cM 45) 70 = .ok (.iadd, 1) := by decide +kernel
theorem d_45_71 : decode (cM 45) 71 = .ok (.putfield 42, 3) := by decide +kernel
theorem d_45_74 : decode (cM 45) 74 = .ok (.goto (-72), 3) := by decide +kernel
theorem d_45_77 : decode (cM 45) 77 = .ok (.aload_n 0, 1) := by decide +kernel
theorem d_45_78 : decode (cM 45) 78 = .ok (.iload_n 1, 1) := by decide +kernel
theorem d_45_79 : decode (cM 45) 79 = .ok (.bipush 6, 2) := by decide +kernel
theorem d_45_81 : decode (cM 45) 81 = .ok (.if_icmp .le 7, 3) := by decide +kernel
theorem d_45_84 : decode (cM 45) 84 = .ok (.iconst 1, 1) := by decide +kernel
theorem d_45_85 : decode (cM 45) 85 = .ok (.goto 7, 3) := by decide +kernel
theorem d_45_88 : decode (cM 45) 88 = .ok (.aload_n 0, 1) := by decide +kernel
theorem d_45_89 : decode (cM 45) 89 = .ok (.invokevirtual 86, 3) := by decide +kernel
theorem kc_45_89 : callT (oM 45) 86 = some (0, 46, 0) ∧ fok 45 46 = true ∧ stM 46 = false := by decide +kernel
theorem d_45_92 : decode (cM 45) 92 = .ok (.putfield 57, 3) := by decide +kernel
theorem d_45_95 : decode (cM 45) 95 = .ok (.return_, 1) := by decide +kernel
theorem d_46_0 : decode (cM 46) 0 = .ok (.iconst 0, 1) := by decide +kernel
theorem d_46_1 : decode (cM 46) 1 = .ok (.istore_n 1, 1) := by decide +kernel
theorem d_46_2 : decode (cM 46) 2 = .ok (.iload_n 1, 1) := by decide +kernel
theorem d_46_3 : decode (cM 46) 3 = .ok (.bipush 6, 2) := by decide +kernel
theorem d_46_5 : decode (cM 46) 5 = .ok (.iadd, 1) := by decide +kernel
theorem d_46_6 : decode (cM 46) 6 = .ok (.ldc 90, 2) := by decide +kernel
theorem d_46_8 : decode (cM 46) 8 = .ok (.invokevirtual 92, 3) := by decide +kernel
theorem kc_46_8 : callT (oM 46) 92 = some (0, 282, 0) ∧ fok 46 282 = true ∧ stM 282 = false := by decide +kernel
theorem d_46_11 : decode (cM 46) 11 = .ok (.if_icmp .gt 74, 3) := by decide +kernel
theorem d_46_14 : decode (cM 46) 14 = .ok (.iconst 0, 1) := by decide +kernel
theorem d_46_15 : decode (cM 46) 15 = .ok (.istore_n 2, 1) := by decide +kernel
theorem d_46_16 : decode (cM 46) 16 = .ok (.iload_n 1, 1) := by decide +kernel
theorem d_46_17 : decode (cM 46) 17 = .ok (.istore_n 3, 1) := by decide +kernel
theorem d_46_18 : decode (cM 46) 18 = .ok (.iload_n 3, 1) := by decide +kernel
theorem d_46_19 : decode (cM 46) 19 = .ok (.iload_n 1, 1) := by decide +kernel
theorem d_46_20 : decode (cM 46) 20 = .ok (.bipush 6, 2) := by decide +kernel
theorem d_46_22 : decode (cM 46) 22 = .ok (.iadd, 1) := by decide +kernel
theorem d_46_23 : decode (cM 46) 23 = .ok (.if_icmp .ge 40, 3) := by decide +kernel
theorem d_46_26 : decode (cM 46) 26 = .ok (.ldc 90, 2) := by decide +kernel
theorem d_46_28 : decode (cM 46) 28 = .ok (.iload_n 3, 1) := by decide +kernel
theorem d_46_29 : decode (cM 46) 29 = .ok (.invokevirtual 96, 3) := by decide +kernel
theorem kc_46_29 : callT (oM 46) 96 = some (0, 283, 1) ∧ fok 46 283 = true ∧ stM 283 = false := by decide +kernel
theorem d_46_32 : decode (cM 46) 32 = .ok (.istore 4, 2) := by decide +kernel
theorem d_46_34 : decode (cM 46) 34 = .ok (.iload_n 2, 1) := by decide +kernel
theorem d_46_35 : decode (cM 46) 35 = .ok (.iconst 5, 1) := by decide +kernel
theorem d_46_36 : decode (cM 46) 36 = .ok (.ishl, 1) := by decide +kernel
theorem d_46_37 : decode (cM 46) 37 = .ok (.iload 4, 2) := by decide +kernel
theorem d_46_39 : decode (cM 46) 39 = .ok (.bipush 32, 2) := by decide +kernel
theorem d_46_41 : decode (cM 46) 41 = .ok (.if_icmp .ne 7, 3) := by decide +kernel
theorem d_46_44 : decode (cM 46) 44 = .ok (.iconst 0, 1) := by decide +kernel
theorem d_46_45 : decode (cM 46) 45 = .ok (.goto 10, 3) := by decide +kernel
theorem d_46_48 : decode (cM 46) 48 = .ok (.iload 4, 2) := by decide +kernel
theorem d_46_50 : decode (cM 46) 50 = .ok (.bipush 97, 2) := by decide +kernel
theorem d_46_52 : decode (cM 46) 52 = .ok (.isub, 1) := by decide +kernel
theorem d_46_53 : decode (cM 46) 53 = .ok (.iconst 1, 1) := by decide +kernel
theorem d_46_54 : decode (cM 46) 54 = .ok (.iadd, 1) := by decide +kernel
theorem d_46_55 : decode (cM 46) 55 = .ok (.ior, 1) := by decide +kernel
theorem d_46_56 : decode (cM 46) 56 = .ok (.istore_n 2, 1) := by decide +kernel
theorem d_46_57 : decode (cM 46) 57 = .ok (.iinc 3 1, 3) := by decide +kernel
theorem d_46_60 : decode (cM 46) 60 = .ok (.goto (-42), 3) := by decide +kernel
theorem d_46_63 : decode (cM 46) 63 = .ok (.iload_n 2, 1) := by decide +kernel
theorem d_46_64 : decode (cM 46) 64 = .ok (.aload_n 0, 1) := by decide +kernel
theorem d_46_65 : decode (cM 46) 65 = .ok (.getfield 67, 3) := by decide +kernel
theorem d_46_68 : decode (cM 46) 68 = .ok (.if_icmp .ne 11, 3) := by decide +kernel
theorem d_46_71 : decode (cM 46) 71 = .ok (.bipush 10, 2) := by decide +kernel
theorem d_46_73 : decode (cM 46) 73 = .ok (.iload_n 1, 1) := by decide +kernel
theorem d_46_74 : decode (cM 46) 74 = .ok (.bipush 6, 2) := by decide +kernel
theorem d_46_76 : decode (cM 46) 76 = .ok (.idiv, 1) := by decide +kernel
theorem d_46_77 : decode (cM 46) 77 = .ok (.iadd, 1) := by decide +kernel
theorem d_46_78 : decode (cM 46) 78 = .ok (.ireturn, 1) := by decide +kernel
theorem d_46_79 : decode (cM 46) 79 = .ok (.iinc 1 6, 3) := by decide +kernel
theorem d_46_82 : decode (cM 46) 82 = .ok (.goto (-80), 3) := by decide +kernel
theorem d_46_85 : decode (cM 46) 85 = .ok (.iconst 3, 1) := by decide +kernel
theorem d_46_86 : decode (cM 46) 86 = .ok (.ireturn, 1) := by decide +kernel
theorem d_47_0 : decode (cM 47) 0 = .ok (.aload_n 0, 1) := by decide +kernel
theorem d_47_1 : decode (cM 47) 1 = .ok (.getfield 42, 3) := by decide +kernel
theorem d_47_4 : decode (cM 47) 4 = .ok (.aload_n 0, 1) := by decide +kernel
theorem d_47_5 : decode (cM 47) 5 = .ok (.getfield 39, 3) := by decide +kernel
theorem d_47_8 : decode (cM 47) 8 = .ok (.if_icmp .ge 58, 3) := by decide +kernel
theorem d_47_11 : decode (cM 47) 11 = .ok (.aload_n 0, 1) := by decide +kernel
theorem d_47_12 : decode (cM 47) 12 = .ok (.aload_n 0, 1) := by decide +kernel
theorem d_47_13 : decode (cM 47) 13 = .ok (.getfield 42, 3) := by decide +kernel
theorem d_47_16 : decode (cM 47) 16 = .ok (.invokevirtual 63, 3) := by decide +kernel
theorem kc_47_16 : callT (oM 47) 63 = some (0, 41, 1) ∧ fok 47 41 = true ∧ stM 41 = false := by decide +kernel
theorem d_47_19 : decode (cM 47) 19 = .ok (.invokestatic 77, 3) := by decide +kernel
theorem kc_47_19 : callT (oM 47) 77 = some (1, 43, 1) ∧ fok 47 43 = true ∧ stM 43 = true := by decide +kernel
theorem d_47_22 : decode (cM 47) 22 = .ok (.ifCond .eq 44, 3) := by decide +kernel
theorem d_47_25 : decode (cM 47) 25 = .ok (.aload_n 0, 1) := by decide +kernel
theorem d_47_26 : decode (cM 47) 26 = .ok (.ldc 100, 2) := by decide +kernel
theorem d_47_28 : decode (cM 47) 28 = .ok (.aload_n 0, 1) := by decide +kernel
theorem d_47_29 : decode (cM 47) 29 = .ok (.getfield 67, 3) := by decide +kernel
theorem d_47_32 : decode (cM 47) 32 = .ok (.bipush 10, 2) := by decide +kernel
theorem d_47_34 : decode (cM 47) 34 = .ok (.imul, 1) := by decide +kernel
theorem d_47_35 : decode (cM 47) 35 = .ok (.aload_n 0, 1) := by decide +kernel
theorem d_47_36 : decode (cM 47) 36 = .ok (.aload_n 0, 1) := by decide +kernel
theorem d_47_37 : decode (cM 47) 37 = .ok (.getfield 42, 3) := by decide +kernel
theorem d_47_40 : decode (cM 47) 40 = .ok (.invokevirtual 63, 3) := by decide +kernel
theorem kc_47_40 : callT (oM 47) 63 = some (0, 41, 1) ∧ fok 47 41 = true ∧ stM 41 = false := by decide +kernel
theorem d_47_43 : decode (cM 47) 43 = .ok (.iadd, 1) := by decide +kernel
theorem d_47_44 : decode (cM 47) 44 = .ok (.bipush 48, 2) := by decide +kernel
theorem d_47_46 : decode (cM 47) 46 = .ok (.isub, 1) := by decide +kernel
theorem d_47_47 : decode (cM 47) 47 = .ok (.invokestatic 33, 3) := by decide +kernel
theorem kc_47_47 : callT (oM 47) 33 = some (1, 280, 2) ∧ fok 47 280 = true ∧ stM 280 = true := by decide +kernel
theorem d_47_50 : decode (cM 47) 50 = .ok (.putfield 67, 3) := by decide +kernel
theorem d_47_53 : decode (cM 47) 53 = .ok (.aload_n 0, 1) := by decide +kernel
theorem d_47_54 : decode (cM 47) 54 = .ok (.dup, 1) := by decide +kernel
theorem d_47_55 : decode (cM 47) 55 = .ok (.getfield 42, 3) := by decide +kernel
theorem d_47_58 : decode (cM 47) 58 = .ok (.iconst 1, 1) := by decide +kernel
theorem d_47_59 : decode (cM 47) 59 = .ok (.iadd, 1) := by decide +kernel
theorem d_47_60 : decode (cM 47) 60 = .ok (.putfield 42, 3) := by decide +kernel
theorem d_47_63 : decode (cM 47) 63 = .ok (.goto (-63), 3) := by decide +kernel
theorem d_47_66 : decode (cM 47) 66 = .ok (.aload_n 0, 1) := by decide +kernel
theorem d_47_67 : decode (cM 47) 67 = .ok (.iconst 2, 1) := by decide +kernel
theorem d_47_68 : decode (cM 47) 68 = .ok (.putfield 57, 3) := by decide +kernel
theorem d_47_71 : decode (cM 47) 71 = .ok (.return_, 1) := by decide +kernel
theorem d_48_0 : decode (cM 48) 0 = .ok (.aload_n 0, 1) := by decide +kernel
theorem d_48_1 : decode (cM 48) 1 = .ok (.aload_n 0, 1) := by decide +kernel
theorem d_48_2 : decode (cM 48) 2 = .ok (.getfield 42, 3) := by decide +kernel
theorem d_48_5 : decode (cM 48) 5 = .ok (.invokevirtual 63, 3) := by decide +kernel
theorem kc_48_5 : callT (oM 48) 63 = some (0, 41, 1) ∧ fok 48 41 = true ∧ stM 41 = false := by decide +kernel
theorem d_48_8 : decode (cM 48) 8 = .ok (.istore_n 1, 1) := by decide +kernel
theorem d_48_9 : decode (cM 48) 9 = .ok (.aload_n 0, 1) := by decide +kernel
theorem d_48_10 : decode (cM 48) 10 = .ok (.aload_n 0, 1) := by decide +kernel
theorem d_48_11 : decode (cM 48) 11 = .ok (.getfield 42, 3) := by decide +kernel
theorem d_48_14 : decode (cM 48) 14 = .ok (.iconst 1, 1) := by decide +kernel
theorem d_48_15 : decode (cM 48) 15 = .ok (.iadd, 1) := by decide +kernel
theorem d_48_16 : decode (cM 48) 16 = .ok (.invokevirtual 63, 3) := by decide +kernel
theorem kc_48_16 : callT (oM 48) 63 = some (0, 41, 1) ∧ fok 48 41 = true ∧ stM 41 = false := by decide +kernel
theorem d_48_19 : decode (cM 48) 19 = .ok (.istore_n 2, 1) := by decide +kernel
theorem d_48_20 : decode (cM 48) 20 = .ok (.ldc 101, 2) := by decide +kernel
theorem d_48_22 : decode (cM 48) 22 = .ok (.iload_n 1, 1) := by decide +kernel
theorem d_48_23 : decode (cM 48) 23 = .ok (.i2c, 1) := by decide +kernel
theorem d_48_24 : decode (cM 48) 24 = .ok (.invokevirtual 103, 3) := by decide +kernel
theorem kc_48_24 : callT (oM 48) 103 = some (0, 284, 1) ∧ fok 48 284 = true ∧ stM 284 = false := by decide +kernel
theorem d_48_27 : decode (cM 48) 27 = .ok (.istore_n 3, 1) := by decide +kernel
theorem d_48_28 : decode (cM 48) 28 = .ok (.aload_n 0, 1) := by decide +kernel
theorem d_48_29 : decode (cM 48) 29 = .ok (.dup, 1) := by decide +kernel
theorem d_48_30 : decode (cM 48) 30 = .ok (.getfield 42, 3) := by decide +kernel
theorem d_48_33 : decode (cM 48) 33 = .ok (.iconst 1, 1) := by decide +kernel
theorem d_48_34 : decode (cM 48) 34 = .ok (.iadd, 1) := by decide +kernel
theorem d_48_35 : decode (cM 48) 35 = .ok (.putfield 42, 3) := by decide +kernel
theorem d_48_38 : decode (cM 48) 38 = .ok (.aload_n 0, 1) := by decide +kernel
theorem d_48_39 : decode (cM 48) 39 = .ok (.iload_n 3, 1) := by decide +kernel
theorem d_48_40 : decode (cM 48) 40 = .ok (.ifCond .ge 7, 3) := by decide +kernel
theorem d_48_43 : decode (cM 48) 43 = .ok (.iconst 1, 1) := by decide +kernel
theorem d_48_44 : decode (cM 48) 44 = .ok (.goto 7, 3) := by decide +kernel
theorem d_48_47 : decode (cM 48) 47 = .ok (.bipush 31, 2) := by decide +kernel
theorem d_48_49 : decode (cM 48) 49 = .ok (.iload_n 3, 1) := by decide +kernel
theorem d_48_50 : decode (cM 48) 50 = .ok (.iadd, 1) := by decide +kernel
theorem d_48_51 : decode (cM 48) 51 = .ok (.putfield 57, 3) := by decide +kernel
theorem d_48_54 : decode (cM 48) 54 = .ok (.aload_n 0, 1) := by decide +kernel
theorem d_48_55 : decode (cM 48) 55 = .ok (.getfield 57, 3) := by decide +kernel
theorem d_48_58 : decode (cM 48) 58 = .ok (.bipush 35, 2) := by decide +kernel
theorem d_48_60 : decode (cM 48) 60 = .ok (.if_icmp .ne 18, 3) := by decide +kernel
theorem d_48_63 : decode (cM 48) 63 = .ok (.iload_n 2, 1) := by decide +kernel
theorem d_48_64 : decode (cM 48) 64 = .ok (.bipush 61, 2) := by decide +kernel
theorem d_48_66 : decode (cM 48) 66 = .ok (.if_icmp .ne 12, 3) := by decide +kernel
theorem d_48_69 : decode (cM 48) 69 = .ok (.aload_n 0, 1) := by decide +kernel
theorem d_48_70 : decode (cM 48) 70 = .ok (.bipush 41, 2) := by decide +kernel
theorem d_48_72 : decode (cM 48) 72 = .ok (.putfield 57, 3) := by decide +kernel
theorem d_48_75 : decode (cM 48) 75 = .ok (.goto 52, 3) := by decide +kernel
theorem d_48_78 : decode (cM 48) 78 = .ok (.aload_n 0, 1) := by decide +kernel
theorem d_48_79 : decode (cM 48) 79 = .ok (.getfield 57, 3) := by decide +kernel
theorem d_48_82 : decode (cM 48) 82 = .ok (.bipush 35, 2) := by decide +kernel
theorem d_48_84 : decode (cM 48) 84 = .ok (.if_icmp .ne 18, 3) := by decide +kernel
theorem d_48_87 : decode (cM 48) 87 = .ok (.iload_n 2, 1) := by decide +kernel
theorem d_48_88 : decode (cM 48) 88 = .ok (.bipush 62, 2) := by decide +kernel
theorem d_48_90 : decode (cM 48) 90 = .ok (.if_icmp .ne 12, 3) := by decide +kernel
theorem d_48_93 : decode (cM 48) 93 = .ok (.aload_n 0, 1) := by decide +kernel
theorem d_48_94 : decode (cM 48) 94 = .ok (.bipush 42, 2) := by decide +kernel
theorem d_48_96 : decode (cM 48) 96 = .ok (.putfield 57, 3) := by decide +kernel
theorem d_48_99 : decode (cM 48) 99 = .ok (.goto 28, 3) := by decide +kernel
theorem d_48_102 : decode (cM 48) 102 = .ok (.aload_n 0, 1) := by decide +kernel
theorem d_48_103 : decode (cM 48) 103 = .ok (.getfield 57, 3) := by decide +kernel
theorem d_48_106 : decode (cM 48) 106 = .ok (.bipush 37, 2) := by decide +kernel
theorem d_48_108 : decode (cM 48) 108 = .ok (.if_icmp .ne 18, 3) := by decide +kernel
theorem d_48_111 : decode (cM 48) 111 = .ok (.iload_n 2, 1) := by decide +kernel
theorem d_48_112 : decode (cM 48) 112 = .ok (.bipush 61, 2) := by decide +kernel
theorem d_48_114 : decode (cM 48) 114 = .ok (.if_icmp .ne 12, 3) := by decide +kernel
theorem d_48_117 : decode (cM 48) 117 = .ok (.aload_n 0, 1) := by decide +kernel
theorem d_48_118 : decode (cM 48) 118 = .ok (.bipush 43, 2) := by decide +kernel
theorem d_48_120 : decode (cM 48) 120 = .ok (.putfield 57, 3) := by decide +kernel
theorem d_48_123 : decode (cM 48) 123 = .ok (.goto 4, 3) := by decide +kernel
theorem d_48_126 : decode (cM 48) 126 = .ok (.return_, 1) := by decide +kernel
theorem d_48_127 : decode (cM 48) 127 = .ok (.aload_n 0, 1) := by decide +kernel
theorem d_48_128 : decode (cM 48) 128 = .ok (.dup, 1) := by decide +kernel
theorem d_48_129 : decode (cM 48) 129 = .ok (.getfield 42, 3) := by decide +kernel
theorem d_48_132 : decode (cM 48) 132 = .ok (.iconst 1, 1) := by decide +kernel
theorem d_48_133 : decode (cM 48) 133 = .ok (.iadd, 1) := by decide +kernel
theorem d_48_134 : decode (cM 48) 134 = .ok (.putfield 42, 3) := by decide +kernel
theorem d_48_137 : decode (cM 48) 137 = .ok (.return_, 1) := by decide +kernel
theorem d_49_0 : decode (cM 49) 0 = .ok (.aload_n 0, 1) := by decide +kernel
theorem d_49_1 : decode (cM 49) 1 = .ok (.invokevirtual 54, 3) := by decide +kernel
theorem kc_49_1 : callT (oM 49) 54 = some (0, 44, 0) ∧ fok 49 44 = true ∧ stM 44 = false := by decide +kernel
theorem d_49_4 : decode (cM 49) 4 = .ok (.aload_n 0, 1) := by decide +kernel
theorem d_49_5 : decode (cM 49) 5 = .ok (.getfield 57, 3) := by decide +kernel
theorem d_49_8 : decode (cM 49) 8 = .ok (.iload_n 1, 1) := by decide +kernel
theorem d_49_9 : decode (cM 49) 9 = .ok (.if_icmp .eq 11, 3) := by decide +kernel
theorem d_49_12 : decode (cM 49) 12 = .ok (.aload_n 0, 1) := by decide +kernel
theorem d_49_13 : decode (cM 49) 13 = .ok (.iconst 1, 1) := by decide +kernel
theorem d_49_14 : decode (cM 49) 14 = .ok (.invokevirtual 106, 3) := by decide +kernel
theorem kc_49_14 : callT (oM 49) 106 = some (0, 40, 1) ∧ fok 49 40 = true ∧ stM 40 = false := by decide +kernel
theorem d_49_17 : decode (cM 49) 17 = .ok (.ifCond .eq 7, 3) := by decide +kernel
theorem d_49_20 : decode (cM 49) 20 = .ok (.iconst 1, 1) := by decide +kernel
theorem d_49_21 : decode (cM 49) 21 = .ok (.goto 4, 3) := by decide +kernel
theorem d_49_24 : decode (cM 49) 24 = .ok (.iconst 0, 1) := by decide +kernel
theorem d_49_25 : decode (cM 49) 25 = .ok (.ireturn, 1) := by decide +kernel
theorem d_50_0 : decode (cM 50) 0 = .ok (.aload_n 0, 1) := by decide +kernel
theorem d_50_1 : decode (cM 50) 1 = .ok (.invokevirtual 54, 3) := by decide +kernel
theorem kc_50_1 : callT (oM 50) 54 = some (0, 44, 0) ∧ fok 50 44 = true ∧ stM 44 = false := by decide +kernel
theorem d_50_4 : decode (cM 50) 4 = .ok (.aload_n 0, 1) := by decide +kernel
theorem d_50_5 : decode (cM 50) 5 = .ok (.getfield 57, 3) := by decide +kernel
theorem d_50_8 : decode (cM 50) 8 = .ok (.iconst 2, 1) := by decide +kernel
theorem d_50_9 : decode (cM 50) 9 = .ok (.if_icmp .eq 9, 3) := by decide +kernel
theorem d_50_12 : decode (cM 50) 12 = .ok (.aload_n 0, 1) := by decide +kernel
theorem d_50_13 : decode (cM 50) 13 = .ok (.iconst 1, 1) := by decide +kernel
theorem d_50_14 : decode (cM 50) 14 = .ok (.invokevirtual 106, 3) := by decide +kernel
theorem kc_50_14 : callT (oM 50) 106 = some (0, 40, 1) ∧ fok 50 40 = true ∧ stM 40 = false := by decide +kernel
theorem d_50_17 : decode (cM 50) 17 = .ok (.ireturn, 1) := by decide +kernel
theorem d_50_18 : decode (cM 50) 18 = .ok (.aload_n 0, 1) := by decide +kernel
theorem d_50_19 : decode (cM 50) 19 = .ok (.getfield 67, 3) := by decide +kernel
theorem d_50_22 : decode (cM 50) 22 = .ok (.iload_n 1, 1) := by decide +kernel
theorem d_50_23 : decode (cM 50) 23 = .ok (.if_icmp .le 11, 3) := by decide +kernel
theorem d_50_26 : decode (cM 50) 26 = .ok (.aload_n 0, 1) := by decide +kernel
theorem d_50_27 : decode (cM 50) 27 = .ok (.iconst 2, 1) := by decide +kernel
theorem d_50_28 : decode (cM 50) 28 = .ok (.invokevirtual 106, 3) := by decide +kernel
theorem kc_50_28 : callT (oM 50) 106 = some (0, 40, 1) ∧ fok 50 40 = true ∧ stM 40 = false := by decide +kernel
theorem d_50_31 : decode (cM 50) 31 = .ok (.ifCond .eq 7, 3) := by decide +kernel
theorem d_50_34 : decode (cM 50) 34 = .ok (.iconst 1, 1) := by decide +kernel
theorem d_50_35 : decode (cM 50) 35 = .ok (.goto 4, 3) := by decide +kernel
theorem d_50_38 : decode (cM 50) 38 = .ok (.iconst 0, 1) := by decide +kernel
theorem d_50_39 : decode (cM 50) 39 = .ok (.ireturn, 1) := by decide +kernel
theorem d_51_0 : decode (cM 51) 0 = .ok (.aload_n 0, 1) := by decide +kernel
theorem d_51_1 : decode (cM 51) 1 = .ok (.getfield 57, 3) := by decide +kernel
theorem d_51_4 : decode (cM 51) 4 = .ok (.tableswitch 136 10 17 #[48, 56, 88, 96, 104, 112, 120, 128], 48) := by decide +kernel
theorem d_51_52 : decode (cM 51) 52 = .ok (.aload_n 0, 1) := by decide +kernel
theorem d_51_53 : decode (cM 51) 53 = .ok (.invokevirtual 109, 3) := by decide +kernel
theorem kc_51_53 : callT (oM 51) 109 = some (0, 52, 0) ∧ fok 51 52 = true ∧ stM 52 = false := by decide +kernel
theorem d_51_56 : decode (cM 51) 56 = .ok (.istore_n 1, 1) := by decide +kernel
theorem d_51_57 : decode (cM 51) 57 = .ok (.goto 89, 3) := by decide +kernel
theorem d_51_60 : decode (cM 51) 60 = .ok (.aload_n 0, 1) := by decide +kernel
theorem d_51_61 : decode (cM 51) 61 = .ok (.invokevirtual 113, 3) := by decide +kernel
theorem kc_51_61 : callT (oM 51) 113 = some (0, 53, 0) ∧ fok 51 53 = true ∧ stM 53 = false := by decide +kernel
theorem d_51_64 : decode (cM 51) 64 = .ok (.ifCond .eq 23, 3) := by decide +kernel
theorem d_51_67 : decode (cM 51) 67 = .ok (.aload_n 0, 1) := by decide +kernel
theorem d_51_68 : decode (cM 51) 68 = .ok (.aload_n 0, 1) := by decide +kernel
theorem d_51_69 : decode (cM 51) 69 = .ok (.getfield 18, 3) := by decide +kernel
theorem d_51_72 : decode (cM 51) 72 = .ok (.getfield 116, 3) := by decide +kernel
theorem d_51_75 : decode (cM 51) 75 = .ok (.iconst 1, 1) := by decide +kernel
theorem d_51_76 : decode (cM 51) 76 = .ok (.isub, 1) := by decide +kernel
theorem d_51_77 : decode (cM 51) 77 = .ok (.invokevirtual 119, 3) := by decide +kernel
theorem kc_51_77 : callT (oM 51) 119 = some (0, 54, 1) ∧ fok 51 54 = true ∧ stM 54 = false := by decide +kernel
theorem d_51_80 : decode (cM 51) 80 = .ok (.ifCond .eq 7, 3) := by decide +kernel
theorem d_51_83 : decode (cM 51) 83 = .ok (.iconst 1, 1) := by decide +kernel
theorem d_51_84 : decode (cM 51) 84 = .ok (.goto 4, 3) := by decide +kernel
theorem d_51_87 : decode (cM 51) 87 = .ok (.iconst 0, 1) := by decide +kernel
theorem d_51_88 : decode (cM 51) 88 = .ok (.istore_n 1, 1) := by decide +kernel
theorem d_51_89 : decode (cM 51) 89 = .ok (.goto 57, 3) := by decide +kernel
theorem d_51_92 : decode (cM 51) 92 = .ok (.aload_n 0, 1) := by decide +kernel
theorem d_51_93 : decode (cM 51) 93 = .ok (.invokevirtual 122, 3) := by decide +kernel
theorem kc_51_93 : callT (oM 51) 122 = some (0, 55, 0) ∧ fok 51 55 = true ∧ stM 55 = false := by decide +kernel
theorem d_51_96 : decode (cM 51) 96 = .ok (.istore_n 1, 1) := by decide +kernel
theorem d_51_97 : decode (cM 51) 97 = .ok (.goto 49, 3) := by decide +kernel
theorem d_51_100 : decode (cM 51) 100 = .ok (.aload_n 0, 1) := by decide +kernel
theorem d_51_101 : decode (cM 51) 101 = .ok (.invokevirtual 125, 3) := by decide +kernel
theorem kc_51_101 : callT (oM 51) 125 = some (0, 56, 0) ∧ fok 51 56 = true ∧ stM 56 = false := by decide +kernel
theorem d_51_104 : decode (cM 51) 104 = .ok (.istore_n 1, 1) := by decide +kernel
theorem d_51_105 : decode (cM 51) 105 = .ok (.goto 41, 3) := by decide +kernel
theorem d_51_108 : decode (cM 51) 108 = .ok (.aload_n 0, 1) := by decide +kernel
theorem d_51_109 : decode (cM 51) 109 = .ok (.invokevirtual 128, 3) := by decide +kernel
theorem kc_51_109 : callT (oM 51) 128 = some (0, 57, 0) ∧ fok 51 57 = true ∧ stM 57 = false := by decide +kernel
theorem d_51_112 : decode (cM 51) 112 = .ok (.istore_n 1, 1) := by decide +kernel
theorem d_51_113 : decode (cM 51) 113 = .ok (.goto 33, 3) := by decide +kernel
theorem d_51_116 : decode (cM 51) 116 = .ok (.aload_n 0, 1) := by decide +kernel
theorem d_51_117 : decode (cM 51) 117 = .ok (.invokevirtual 131, 3) := by decide +kernel
theorem kc_51_117 : callT (oM 51) 131 = some (0, 58, 0) ∧ fok 51 58 = true ∧ stM 58 = false := by decide +kernel
theorem d_51_120 : decode (cM 51) 120 = .ok (.istore_n 1, 1) := by decide +kernel
theorem d_51_121 : decode (cM 51) 121 = .ok (.goto 25, 3) := by decide +kernel
theorem d_51_124 : decode (cM 51) 124 = .ok (.aload_n 0, 1) := by decide +kernel
theorem d_51_125 : decode (cM 51) 125 = .ok (.invokevirtual 134, 3) := by decide +kernel
theorem kc_51_125 : callT (oM 51) 134 = some (0, 59, 0) ∧ fok 51 59 = true ∧ stM 59 = false := by decide +kernel
theorem d_51_128 : decode (cM 51) 128 = .ok (.istore_n 1, 1) := by decide +kernel
theorem d_51_129 : decode (cM 51) 129 = .ok (.goto 17, 3) := by decide +kernel
theorem d_51_132 : decode (cM 51) 132 = .ok (.aload_n 0, 1) := by decide +kernel
theorem d_51_133 : decode (cM 51) 133 = .ok (.invokevirtual 137, 3) := by decide +kernel
theorem kc_51_133 : callT (oM 51) 137 = some (0, 60, 0) ∧ fok 51 60 = true ∧ stM 60 = false := by decide +kernel
theorem d_51_136 : decode (cM 51) 136 = .ok (.istore_n 1, 1) := by decide +kernel
theorem d_51_137 : decode (cM 51) 137 = .ok (.goto 9, 3) := by decide +kernel
theorem d_51_140 : decode (cM 51) 140 = .ok (.aload_n 0, 1) := by decide +kernel
theorem d_51_141 : decode (cM 51) 141 = .ok (.iconst 1, 1) := by decide +kernel
theorem d_51_142 : decode (cM 51) 142 = .ok (.invokevirtual 106, 3) := by decide +kernel
theorem kc_51_142 : callT (oM 51) 106 = some (0, 40, 1) ∧ fok 51 40 = true ∧ stM 40 = false := by decide +kernel
theorem d_51_145 : decode (cM 51) 145 = .ok (.istore_n 1, 1) := by decide +kernel
theorem d_51_146 : decode (cM 51) 146 = .ok (.iload_n 1, 1) := by decide +kernel
theorem d_51_147 : decode (cM 51) 147 = .ok (.ifCond .eq 16, 3) := by decide +kernel
theorem d_51_150 : decode (cM 51) 150 = .ok (.aload_n 0, 1) := by decide +kernel
theorem d_51_151 : decode (cM 51) 151 = .ok (.bipush 40, 2) := by decide +kernel
theorem d_51_153 : decode (cM 51) 153 = .ok (.invokevirtual 140, 3) := by decide +kernel
theorem kc_51_153 : callT (oM 51) 140 = some (0, 49, 1) ∧ fok 51 49 = true ∧ stM 49 = false := by decide +kernel
theorem d_51_156 : decode (cM 51) 156 = .ok (.ifCond .eq 7, 3) := by decide +kernel
theorem d_51_159 : decode (cM 51) 159 = .ok (.iconst 1, 1) := by decide +kernel
theorem d_51_160 : decode (cM 51) 160 = .ok (.goto 4, 3) := by decide +kernel
theorem d_51_163 : decode (cM 51) 163 = .ok (.iconst 0, 1) := by decide +kernel
theorem d_51_164 : decode (cM 51) 164 = .ok (.ireturn, 1) := by decide +kernel
theorem d_52_0 : decode (cM 52) 0 = .ok (.aload_n 0, 1) := by decide +kernel
theorem d_52_1 : decode (cM 52) 1 = .ok (.getfield 18, 3) := by decide +kernel
theorem d_52_4 : decode (cM 52) 4 = .ok (.getfield 143, 3) := by decide +kernel
theorem d_52_7 : decode (cM 52) 7 = .ok (.istore_n 1, 1) := by decide +kernel
theorem d_52_8 : decode (cM 52) 8 = .ok (.iload_n 1, 1) := by decide +kernel
theorem d_52_9 : decode (cM 52) 9 = .ok (.bipush 14, 2) := by decide +kernel
theorem d_52_11 : decode (cM 52) 11 = .ok (.if_icmp .lt 9, 3) := by decide +kernel
theorem d_52_14 : decode (cM 52) 14 = .ok (.aload_n 0, 1) := by decide +kernel
theorem d_52_15 : decode (cM 52) 15 = .ok (.iconst 2, 1) := by decide +kernel
theorem d_52_16 : decode (cM 52) 16 = .ok (.invokevirtual 106, 3) := by decide +kernel
theorem kc_52_16 : callT (oM 52) 106 = some (0, 40, 1) ∧ fok 52 40 = true ∧ stM 40 = false := by decide +kernel
theorem d_52_19 : decode (cM 52) 19 = .ok (.ireturn, 1) := by decide +kernel
theorem d_52_20 : decode (cM 52) 20 = .ok (.aload_n 0, 1) := by decide +kernel
theorem d_52_21 : decode (cM 52) 21 = .ok (.iconst 3, 1) := by decide +kernel
theorem d_52_22 : decode (cM 52) 22 = .ok (.invokevirtual 140, 3) := by decide +kernel
theorem kc_52_22 : callT (oM 52) 140 = some (0, 49, 1) ∧ fok 52 49 = true ∧ stM 49 = false := by decide +kernel
theorem d_52_25 : decode (cM 52) 25 = .ok (.ifCond .ne 5, 3) := by decide +kernel
theorem d_52_28 : decode (cM 52) 28 = .ok (.iconst 0, 1) := by decide +kernel
theorem d_52_29 : decode (cM 52) 29 = .ok (.ireturn, 1) := by decide +kernel
theorem d_52_30 : decode (cM 52) 30 = .ok (.aload_n 0, 1) := by decide +kernel
theorem d_52_31 : decode (cM 52) 31 = .ok (.getfield 18, 3) := by decide +kernel
theorem d_52_34 : decode (cM 52) 34 = .ok (.aload_n 0, 1) := by decide +kernel
theorem d_52_35 : decode (cM 52) 35 = .ok (.getfield 67, 3) := by decide +kernel
theorem d_52_38 : decode (cM 52) 38 = .ok (.invokevirtual 146, 3) := by decide +kernel
theorem kc_52_38 : callT (oM 52) 146 = some (0, 89, 1) ∧ fok 52 89 = true ∧ stM 89 = false := by decide +kernel
theorem d_52_41 : decode (cM 52) 41 = .ok (.iconst (-1), 1) := by decide +kernel
theorem d_52_42 : decode (cM 52) 42 = .ok (.if_icmp .eq 9, 3) := by decide +kernel
theorem d_52_45 : decode (cM 52) 45 = .ok (.aload_n 0, 1) := by decide +kernel
theorem d_52_46 : decode (cM 52) 46 = .ok (.iconst 3, 1) := by decide +kernel
theorem d_52_47 : decode (cM 52) 47 = .ok (.invokevirtual 106, 3) := by decide +kernel
theorem kc_52_47 : callT (oM 52) 106 = some (0, 40, 1) ∧ fok 52 40 = true ∧ stM 40 = false := by decide +kernel
theorem d_52_50 : decode (cM 52) 50 = .ok (.ireturn, 1) := by decide +kernel
theorem d_52_51 : decode (cM 52) 51 = .ok (.aload_n 0, 1) := by decide +kernel
theorem d_52_52 : decode (cM 52) 52 = .ok (.getfield 18, 3) := by decide +kernel
theorem d_52_55 : decode (cM 52) 55 = .ok (.getfield 149, 3) := by decide +kernel
theorem d_52_58 : decode (cM 52) 58 = .ok (.iload_n 1, 1) := by decide +kernel
theorem d_52_59 : decode (cM 52) 59 = .ok (.aload_n 0, 1) := by decide +kernel
theorem d_52_60 : decode (cM 52) 60 = .ok (.getfield 67, 3) := by decide +kernel
theorem d_52_63 : decode (cM 52) 63 = .ok (.iastore, 1) := by decide +kernel
theorem d_52_64 : decode (cM 52) 64 = .ok (.aload_n 0, 1) := by decide +kernel
theorem d_52_65 : decode (cM 52) 65 = .ok (.getfield 18, 3) := by decide +kernel
theorem d_52_68 : decode (cM 52) 68 = .ok (.dup, 1) := by decide +kernel
theorem d_52_69 : decode (cM 52) 69 = .ok (.getfield 143, 3) := by decide +kernel
theorem d_52_72 : decode (cM 52) 72 = .ok (.iconst 1, 1) := by decide +kernel
theorem d_52_73 : decode (cM 52) 73 = .ok (.iadd, 1) := by decide +kernel
theorem d_52_74 : decode (cM 52) 74 = .ok (.putfield 143, 3) := by decide +kernel
theorem d_52_77 : decode (cM 52) 77 = .ok (.iconst 1, 1) := by decide +kernel
theorem d_52_78 : decode (cM 52) 78 = .ok (.ireturn, 1) := by decide +kernel
theorem d_53_0 : decode (cM 53) 0 = .ok (.aload_n 0, 1) := by decide +kernel
theorem d_53_1 : decode (cM 53) 1 = .ok (.getfield 18, 3) := by decide +kernel
theorem d_53_4 : decode (cM 53) 4 = .ok (.getfield 116, 3) := by decide +kernel
theorem d_53_7 : decode (cM 53) 7 = .ok (.istore_n 1, 1) := by decide +kernel
theorem d_53_8 : decode (cM 53) 8 = .ok (.iload_n 1, 1) := by decide +kernel
theorem d_53_9 : decode (cM 53) 9 = .ok (.bipush 10, 2) := by decide +kernel
theorem d_53_11 : decode (cM 53) 11 = .ok (.if_icmp .lt 9, 3) := by decide +kernel
theorem d_53_14 : decode (cM 53) 14 = .ok (.aload_n 0, 1) := by decide +kernel
theorem d_53_15 : decode (cM 53) 15 = .ok (.iconst 2, 1) := by decide +kernel
theorem d_53_16 : decode (cM 53) 16 = .ok (.invokevirtual 106, 3) := by decide +kernel
theorem kc_53_16 : callT (oM 53) 106 = some (0, 40, 1) ∧ fok 53 40 = true ∧ stM 40 = false := by decide +kernel
theorem d_53_19 : decode (cM 53) 19 = .ok (.ireturn, 1) := by decide +kernel
theorem d_53_20 : decode (cM 53) 20 = .ok (.aload_n 0, 1) := by decide +kernel
theorem d_53_21 : decode (cM 53) 21 = .ok (.iconst 3, 1) := by decide +kernel
theorem d_53_22 : decode (cM 53) 22 = .ok (.invokevirtual 140, 3) := by decide +kernel
theorem kc_53_22 : callT (oM 53) 140 = some (0, 49, 1) ∧ fok 53 49 = true ∧ stM 49 = false := by decide +kernel
theorem d_53_25 : decode (cM 53) 25 = .ok (.ifCond .ne 5, 3) := by decide +kernel
theorem d_53_28 : decode (cM 53) 28 = .ok (.iconst 0, 1) := by decide +kernel
theorem d_53_29 : decode (cM 53) 29 = .ok (.ireturn, 1) := by decide +kernel
theorem d_53_30 : decode (cM 53) 30 = .ok (.aload_n 0, 1) := by decide +kernel
theorem d_53_31 : decode (cM 53) 31 = .ok (.getfield 18, 3) := by decide +kernel
theorem d_53_34 : decode (cM 53) 34 = .ok (.aload_n 0, 1) := by decide +kernel
theorem d_53_35 : decode (cM 53) 35 = .ok (.getfield 67, 3) := by decide +kernel
theorem d_53_38 : decode (cM 53) 38 = .ok (.invokevirtual 152, 3) := by decide +kernel
theorem kc_53_38 : callT (oM 53) 152 = some (0, 90, 1) ∧ fok 53 90 = true ∧ stM 90 = false := by decide +kernel
theorem d_53_41 : decode (cM 53) 41 = .ok (.iconst (-1), 1) := by decide +kernel
theorem d_53_42 : decode (cM 53) 42 = .ok (.if_icmp .eq 9, 3) := by decide +kernel
theorem d_53_45 : decode (cM 53) 45 = .ok (.aload_n 0, 1) := by decide +kernel
theorem d_53_46 : decode (cM 53) 46 = .ok (.iconst 3, 1) := by decide +kernel
theorem d_53_47 : decode (cM 53) 47 = .ok (.invokevirtual 106, 3) := by decide +kernel
theorem kc_53_47 : callT (oM 53) 106 = some (0, 40, 1) ∧ fok 53 40 = true ∧ stM 40 = false := by decide +kernel
theorem d_53_50 : decode (cM 53) 50 = .ok (.ireturn, 1) := by decide +kernel
theorem d_53_51 : decode (cM 53) 51 = .ok (.aload_n 0, 1) := by decide +kernel
theorem d_53_52 : decode (cM 53) 52 = .ok (.getfield 18, 3) := by decide +kernel
theorem d_53_55 : decode (cM 53) 55 = .ok (.getfield 155, 3) := by decide +kernel
theorem d_53_58 : decode (cM 53) 58 = .ok (.iload_n 1, 1) := by decide +kernel
theorem d_53_59 : decode (cM 53) 59 = .ok (.aload_n 0, 1) := by decide +kernel
theorem d_53_60 : decode (cM 53) 60 = .ok (.getfield 67, 3) := by decide +kernel
theorem d_53_63 : decode (cM 53) 63 = .ok (.iastore, 1) := by decide +kernel
theorem d_53_64 : decode (cM 53) 64 = .ok (.aload_n 0, 1) := by decide +kernel
theorem d_53_65 : decode (cM 53) 65 = .ok (.bipush 99, 2) := by decide +kernel
theorem d_53_67 : decode (cM 53) 67 = .ok (.invokevirtual 158, 3) := by decide +kernel
theorem kc_53_67 : callT (oM 53) 158 = some (0, 50, 1) ∧ fok 53 50 = true ∧ stM 50 = false := by decide +kernel
theorem d_53_70 : decode (cM 53) 70 = .ok (.ifCond .ne 5, 3) := by decide +kernel
theorem d_53_73 : decode (cM 53) 73 = .ok (.iconst 0, 1) := by decide +kernel
theorem d_53_74 : decode (cM 53) 74 = .ok (.ireturn, 1) := by decide +kernel
theorem d_53_75 : decode (cM 53) 75 = .ok (.aload_n 0, 1) := by decide +kernel
theorem d_53_76 : decode (cM 53) 76 = .ok (.getfield 18, 3) := by decide +kernel
theorem d_53_79 : decode (cM 53) 79 = .ok (.getfield 161, 3) := by decide +kernel
theorem d_53_82 : decode (cM 53) 82 = .ok (.iload_n 1, 1) := by decide +kernel
theorem d_53_83 : decode (cM 53) 83 = .ok (.aload_n 0, 1) := by decide +kernel
theorem d_53_84 : decode (cM 53) 84 = .ok (.getfield 67, 3) := by decide +kernel
theorem d_53_87 : decode (cM 53) 87 = .ok (.iastore, 1) := by decide +kernel
theorem d_53_88 : decode (cM 53) 88 = .ok (.aload_n 0, 1) := by decide +kernel
theorem d_53_89 : decode (cM 53) 89 = .ok (.getfield 18, 3) := by decide +kernel
theorem d_53_92 : decode (cM 53) 92 = .ok (.getfield 164, 3) := by decide +kernel
theorem d_53_95 : decode (cM 53) 95 = .ok (.iload_n 1, 1) := by decide +kernel
theorem d_53_96 : decode (cM 53) 96 = .ok (.iconst 0, 1) := by decide +kernel
theorem d_53_97 : decode (cM 53) 97 = .ok (.iastore, 1) := by decide +kernel
theorem d_53_98 : decode (cM 53) 98 = .ok (.aload_n 0, 1) := by decide +kernel
theorem d_53_99 : decode (cM 53) 99 = .ok (.getfield 18, 3) := by decide +kernel
theorem d_53_102 : decode (cM 53) 102 = .ok (.dup, 1) := by decide +kernel
theorem d_53_103 : decode (cM 53) 103 = .ok (.getfield 116, 3) := by decide +kernel
theorem d_53_106 : decode (cM 53) 106 = .ok (.iconst 1, 1) := by decide +kernel
theorem d_53_107 : decode (cM 53) 107 = .ok (.iadd, 1) := by decide +kernel
theorem d_53_108 : decode (cM 53) 108 = .ok (.putfield 116, 3) := by decide +kernel
theorem d_53_111 : decode (cM 53) 111 = .ok (.iconst 1, 1) := by decide +kernel
theorem d_53_112 : decode (cM 53) 112 = .ok (.ireturn, 1) := by decide +kernel
theorem d_54_0 : decode (cM 54) 0 = .ok (.iload_n 1, 1) := by decide +kernel
theorem d_54_1 : decode (cM 54) 1 = .ok (.ifCond .lt 9, 3) := by decide +kernel
theorem d_54_4 : decode (cM 54) 4 = .ok (.iload_n 1, 1) := by decide +kernel
theorem d_54_5 : decode (cM 54) 5 = .ok (.bipush 10, 2) := by decide +kernel
theorem d_54_7 : decode (cM 54) 7 = .ok (.if_icmp .lt 9, 3) := by decide +kernel
theorem d_54_10 : decode (cM 54) 10 = .ok (.aload_n 0, 1) := by decide +kernel
theorem d_54_11 : decode (cM 54) 11 = .ok (.iconst 2, 1) := by decide +kernel
theorem d_54_12 : decode (cM 54) 12 = .ok (.invokevirtual 106, 3) := by decide +kernel
theorem kc_54_12 : callT (oM 54) 106 = some (0, 40, 1) ∧ fok 54 40 = true ∧ stM 40 = false := by decide +kernel
theorem d_54_15 : decode (cM 54) 15 = .ok (.ireturn, 1) := by decide +kernel
theorem d_54_16 : decode (cM 54) 16 = .ok (.iconst 0, 1) := by decide +kernel
theorem d_54_17 : decode (cM 54) 17 = .ok (.istore_n 2, 1) := by decide +kernel
theorem d_54_18 : decode (cM 54) 18 = .ok (.iload_n 2, 1) := by decide +kernel
theorem d_54_19 : decode (cM 54) 19 = .ok (.bipush 14, 2) := by decide +kernel
theorem d_54_21 : decode (cM 54) 21 = .ok (.if_icmp .gt 97, 3) := by decide +kernel
theorem d_54_24 : decode (cM 54) 24 = .ok (.aload_n 0, 1) := by decide +kernel
theorem d_54_25 : decode (cM 54) 25 = .ok (.getfield 42, 3) := by decide +kernel
theorem d_54_28 : decode (cM 54) 28 = .ok (.istore_n 3, 1) := by decide +kernel
theorem d_54_29 : decode (cM 54) 29 = .ok (.aload_n 0, 1) := by decide +kernel
theorem d_54_30 : decode (cM 54) 30 = .ok (.invokevirtual 54, 3) := by decide +kernel
theorem kc_54_30 : callT (oM 54) 54 = some (0, 44, 0) ∧ fok 54 44 = true ∧ stM 44 = false := by decide +kernel
theorem d_54_33 : decode (cM 54) 33 = .ok (.aload_n 0, 1) := by decide +kernel
theorem d_54_34 : decode (cM 54) 34 = .ok (.getfield 57, 3) := by decide +kernel
theorem d_54_37 : decode (cM 54) 37 = .ok (.iconst 3, 1) := by decide +kernel
theorem d_54_38 : decode (cM 54) 38 = .ok (.if_icmp .eq 10, 3) := by decide +kernel
theorem d_54_41 : decode (cM 54) 41 = .ok (.aload_n 0, 1) := by decide +kernel
theorem d_54_42 : decode (cM 54) 42 = .ok (.iload_n 3, 1) := by decide +kernel
theorem d_54_43 : decode (cM 54) 43 = .ok (.putfield 42, 3) := by decide +kernel
theorem d_54_46 : decode (cM 54) 46 = .ok (.iconst 1, 1) := by decide +kernel
theorem d_54_47 : decode (cM 54) 47 = .ok (.ireturn, 1) := by decide +kernel
theorem d_54_48 : decode (cM 54) 48 = .ok (.aload_n 0, 1) := by decide +kernel
theorem d_54_49 : decode (cM 54) 49 = .ok (.getfield 18, 3) := by decide +kernel
theorem d_54_52 : decode (cM 54) 52 = .ok (.aload_n 0, 1) := by decide +kernel
theorem d_54_53 : decode (cM 54) 53 = .ok (.getfield 67, 3) := by decide +kernel
theorem d_54_56 : decode (cM 54) 56 = .ok (.invokevirtual 146, 3) := by decide +kernel
theorem kc_54_56 : callT (oM 54) 146 = some (0, 89, 1) ∧ fok 54 89 = true ∧ stM 89 = false := by decide +kernel
theorem d_54_59 : decode (cM 54) 59 = .ok (.istore 4, 2) := by decide +kernel
theorem d_54_61 : decode (cM 54) 61 = .ok (.iload 4, 2) := by decide +kernel
theorem d_54_63 : decode (cM 54) 63 = .ok (.iconst (-1), 1) := by decide +kernel
theorem d_54_64 : decode (cM 54) 64 = .ok (.if_icmp .ne 9, 3) := by decide +kernel
theorem d_54_67 : decode (cM 54) 67 = .ok (.aload_n 0, 1) := by decide +kernel
theorem d_54_68 : decode (cM 54) 68 = .ok (.iconst 4, 1) := by decide +kernel
theorem d_54_69 : decode (cM 54) 69 = .ok (.invokevirtual 106, 3) := by decide +kernel
theorem kc_54_69 : callT (oM 54) 106 = some (0, 40, 1) ∧ fok 54 40 = true ∧ stM 40 = false := by decide +kernel
theorem d_54_72 : decode (cM 54) 72 = .ok (.ireturn, 1) := by decide +kernel
theorem d_54_73 : decode (cM 54) 73 = .ok (.aload_n 0, 1) := by decide +kernel
theorem d_54_74 : decode (cM 54) 74 = .ok (.getfield 18, 3) := by decide +kernel
theorem d_54_77 : decode (cM 54) 77 = .ok (.getfield 164, 3) := by decide +kernel
theorem d_54_80 : decode (cM 54) 80 = .ok (.iload_n 1, 1) := by decide +kernel
theorem d_54_81 : decode (cM 54) 81 = .ok (.iaload, 1) := by decide +kernel
theorem d_54_82 : decode (cM 54) 82 = .ok (.iload 4, 2) := by decide +kernel
theorem d_54_84 : decode (cM 54) 84 = .ok (.ishr, 1) := by decide +kernel
theorem d_54_85 : decode (cM 54) 85 = .ok (.iconst 1, 1) := by decide +kernel
theorem d_54_86 : decode (cM 54) 86 = .ok (.iand, 1) := by decide +kernel
theorem d_54_87 : decode (cM 54) 87 = .ok (.ifCond .eq 9, 3) := by decide +kernel
theorem d_54_90 : decode (cM 54) 90 = .ok (.aload_n 0, 1) := by decide +kernel
theorem d_54_91 : decode (cM 54) 91 = .ok (.iconst 3, 1) := by decide +kernel
theorem d_54_92 : decode (cM 54) 92 = .ok (.invokevirtual 106, 3) := by decide +kernel
theorem kc_54_92 : callT (oM 54) 106 = some (0, 40, 1) ∧ fok 54 40 = true ∧ stM 40 = false := by decide +kernel
theorem d_54_95 : decode (cM 54) 95 = .ok (.ireturn, 1) := by decide +kernel
theorem d_54_96 : decode (cM 54) 96 = .ok (.aload_n 0, 1) := by decide +kernel
theorem d_54_97 : decode (cM 54) 97 = .ok (.getfield 18, 3) := by decide +kernel
theorem d_54_100 : decode (cM 54) 100 = .ok (.getfield 164, 3) := by decide +kernel
theorem d_54_103 : decode (cM 54) 103 = .ok (.iload_n 1, 1) := by decide +kernel
theorem d_54_104 : decode (cM 54) 104 = .ok (.dup2, 1) := by decide +kernel
theorem d_54_105 : decode (cM 54) 105 = .ok (.iaload, 1) := by decide +kernel
theorem d_54_106 : decode (cM 54) 106 = .ok (.iconst 1, 1) := by decide +kernel
theorem d_54_107 : decode (cM 54) 107 = .ok (.iload 4, 2) := by decide +kernel
theorem d_54_109 : decode (cM 54) 109 = .ok (.ishl, 1) := by decide +kernel
theorem d_54_110 : decode (cM 54) 110 = .ok (.ior, 1) := by decide +kernel
theorem d_54_111 : decode (cM 54) 111 = .ok (.iastore, 1) := by decide +kernel
theorem d_54_112 : decode (cM 54) 112 = .ok (.iinc 2 1, 3) := by decide +kernel
theorem d_54_115 : decode (cM 54) 115 = .ok (.goto (-97), 3) := by decide +kernel
theorem d_54_118 : decode (cM 54) 118 = .ok (.iconst 0, 1) := by decide +kernel
theorem d_54_119 : decode (cM 54) 119 = .ok (.ireturn, 1) := by decide +kernel
theorem d_55_0 : decode (cM 55) 0 = .ok (.aload_n 0, 1) := by decide +kernel
theorem d_55_1 : decode (cM 55) 1 = .ok (.iconst 3, 1) := by decide +kernel
theorem d_55_2 : decode (cM 55) 2 = .ok (.invokevirtual 140, 3) := by decide +kernel
theorem kc_55_2 : callT (oM 55) 140 = some (0, 49, 1) ∧ fok 55 49 = true ∧ stM 49 = false := by decide +kernel
theorem d_55_5 : decode (cM 55) 5 = .ok (.ifCond .ne 5, 3) := by decide +kernel
theorem d_55_8 : decode (cM 55) 8 = .ok (.iconst 0, 1) := by decide +kernel
theorem d_55_9 : decode (cM 55) 9 = .ok (.ireturn, 1) := by decide +kernel
theorem d_55_10 : decode (cM 55) 10 = .ok (.aload_n 0, 1) := by decide +kernel
theorem d_55_11 : decode (cM 55) 11 = .ok (.getfield 18, 3) := by decide +kernel
theorem d_55_14 : decode (cM 55) 14 = .ok (.aload_n 0, 1) := by decide +kernel
theorem d_55_15 : decode (cM 55) 15 = .ok (.getfield 67, 3) := by decide +kernel
theorem d_55_18 : decode (cM 55) 18 = .ok (.invokevirtual 146, 3) := by decide +kernel
theorem kc_55_18 : callT (oM 55) 146 = some (0, 89, 1) ∧ fok 55 89 = true ∧ stM 89 = false := by decide +kernel
theorem d_55_21 : decode (cM 55) 21 = .ok (.istore_n 1, 1) := by decide +kernel
theorem d_55_22 : decode (cM 55) 22 = .ok (.iload_n 1, 1) := by decide +kernel
theorem d_55_23 : decode (cM 55) 23 = .ok (.iconst (-1), 1) := by decide +kernel
theorem d_55_24 : decode (cM 55) 24 = .ok (.if_icmp .ne 9, 3) := by decide +kernel
theorem d_55_27 : decode (cM 55) 27 = .ok (.aload_n 0, 1) := by decide +kernel
theorem d_55_28 : decode (cM 55) 28 = .ok (.iconst 4, 1) := by decide +kernel
theorem d_55_29 : decode (cM 55) 29 = .ok (.invokevirtual 106, 3) := by decide +kernel
theorem kc_55_29 : callT (oM 55) 106 = some (0, 40, 1) ∧ fok 55 40 = true ∧ stM 40 = false := by decide +kernel
theorem d_55_32 : decode (cM 55) 32 = .ok (.ireturn, 1) := by decide +kernel
theorem d_55_33 : decode (cM 55) 33 = .ok (.aload_n 0, 1) := by decide +kernel
theorem d_55_34 : decode (cM 55) 34 = .ok (.getfield 18, 3) := by decide +kernel
theorem d_55_37 : decode (cM 55) 37 = .ok (.getfield 167, 3) := by decide +kernel
theorem d_55_40 : decode (cM 55) 40 = .ok (.iload_n 1, 1) := by decide +kernel
theorem d_55_41 : decode (cM 55) 41 = .ok (.ishr, 1) := by decide +kernel
theorem d_55_42 : decode (cM 55) 42 = .ok (.iconst 1, 1) := by decide +kernel
theorem d_55_43 : decode (cM 55) 43 = .ok (.iand, 1) := by decide +kernel
theorem d_55_44 : decode (cM 55) 44 = .ok (.ifCond .eq 9, 3) := by decide +kernel
theorem d_55_47 : decode (cM 55) 47 = .ok (.aload_n 0, 1) := by decide +kernel
theorem d_55_48 : decode (cM 55) 48 = .ok (.iconst 3, 1) := by decide +kernel
theorem d_55_49 : decode (cM 55) 49 = .ok (.invokevirtual 106, 3) := by decide +kernel
theorem kc_55_49 : callT (oM 55) 106 = some (0, 40, 1) ∧ fok 55 40 = true ∧ stM 40 = false := by decide +kernel
theorem d_55_52 : decode (cM 55) 52 = .ok (.ireturn, 1) := by decide +kernel
theorem d_55_53 : decode (cM 55) 53 = .ok (.aload_n 0, 1) := by decide +kernel
theorem d_55_54 : decode (cM 55) 54 = .ok (.getfield 18, 3) := by decide +kernel
theorem d_55_57 : decode (cM 55) 57 = .ok (.dup, 1) := by decide +kernel
theorem d_55_58 : decode (cM 55) 58 = .ok (.getfield 167, 3) := by decide +kernel
theorem d_55_61 : decode (cM 55) 61 = .ok (.iconst 1, 1) := by decide +kernel
theorem d_55_62 : decode (cM 55) 62 = .ok (.iload_n 1, 1) := by decide +kernel
theorem d_55_63 : decode (cM 55) 63 = .ok (.ishl, 1) := by decide +kernel
theorem d_55_64 : decode (cM 55) 64 = .ok (.ior, 1) := by decide +kernel
theorem d_55_65 : decode (cM 55) 65 = .ok (.putfield 167, 3) := by decide +kernel
theorem d_55_68 : decode (cM 55) 68 = .ok (.iconst 1, 1) := by decide +kernel
theorem d_55_69 : decode (cM 55) 69 = .ok (.ireturn, 1) := by decide +kernel
theorem d_56_0 : decode (cM 56) 0 = .ok (.aload_n 0, 1) := by decide +kernel
theorem d_56_1 : decode (cM 56) 1 = .ok (.getfield 18, 3) := by decide +kernel
theorem d_56_4 : decode (cM 56) 4 = .ok (.getfield 170, 3) := by decide +kernel
theorem d_56_7 : decode (cM 56) 7 = .ok (.istore_n 1, 1) := by decide +kernel
theorem d_56_8 : decode (cM 56) 8 = .ok (.iload_n 1, 1) := by decide +kernel
theorem d_56_9 : decode (cM 56) 9 = .ok (.bipush 14, 2) := by decide +kernel
theorem d_56_11 : decode (cM 56) 11 = .ok (.if_icmp .lt 9, 3) := by decide +kernel
theorem d_56_14 : decode (cM 56) 14 = .ok (.aload_n 0, 1) := by decide +kernel
theorem d_56_15 : decode (cM 56) 15 = .ok (.iconst 2, 1) := by decide +kernel
theorem d_56_16 : decode (cM 56) 16 = .ok (.invokevirtual 106, 3) := by decide +kernel
theorem kc_56_16 : callT (oM 56) 106 = some (0, 40, 1) ∧ fok 56 40 = true ∧ stM 40 = false := by decide +kernel
theorem d_56_19 : decode (cM 56) 19 = .ok (.ireturn, 1) := by decide +kernel
theorem d_56_20 : decode (cM 56) 20 = .ok (.aload_n 0, 1) := by decide +kernel
theorem d_56_21 : decode (cM 56) 21 = .ok (.iconst 3, 1) := by decide +kernel
theorem d_56_22 : decode (cM 56) 22 = .ok (.invokevirtual 140, 3) := by decide +kernel
theorem kc_56_22 : callT (oM 56) 140 = some (0, 49, 1) ∧ fok 56 49 = true ∧ stM 49 = false := by decide +kernel
theorem d_56_25 : decode (cM 56) 25 = .ok (.ifCond .ne 5, 3) := by decide +kernel
theorem d_56_28 : decode (cM 56) 28 = .ok (.iconst 0, 1) := by decide +kernel
theorem d_56_29 : decode (cM 56) 29 = .ok (.ireturn, 1) := by decide +kernel
theorem d_56_30 : decode (cM 56) 30 = .ok (.aload_n 0, 1) := by decide +kernel
theorem d_56_31 : decode (cM 56) 31 = .ok (.getfield 18, 3) := by decide +kernel
theorem d_56_34 : decode (cM 56) 34 = .ok (.aload_n 0, 1) := by decide +kernel
theorem d_56_35 : decode (cM 56) 35 = .ok (.getfield 67, 3) := by decide +kernel
theorem d_56_38 : decode (cM 56) 38 = .ok (.invokevirtual 152, 3) := by decide +kernel
theorem kc_56_38 : callT (oM 56) 152 = some (0, 90, 1) ∧ fok 56 90 = true ∧ stM 90 = false := by decide +kernel
theorem d_56_41 : decode (cM 56) 41 = .ok (.istore_n 2, 1) := by decide +kernel
theorem d_56_42 : decode (cM 56) 42 = .ok (.iload_n 2, 1) := by decide +kernel
theorem d_56_43 : decode (cM 56) 43 = .ok (.iconst (-1), 1) := by decide +kernel
theorem d_56_44 : decode (cM 56) 44 = .ok (.if_icmp .ne 9, 3) := by decide +kernel
theorem d_56_47 : decode (cM 56) 47 = .ok (.aload_n 0, 1) := by decide +kernel
theorem d_56_48 : decode (cM 56) 48 = .ok (.iconst 4, 1) := by decide +kernel
theorem d_56_49 : decode (cM 56) 49 = .ok (.invokevirtual 106, 3) := by decide +kernel
theorem kc_56_49 : callT (oM 56) 106 = some (0, 40, 1) ∧ fok 56 40 = true ∧ stM 40 = false := by decide +kernel
theorem d_56_52 : decode (cM 56) 52 = .ok (.ireturn, 1) := by decide +kernel
theorem d_56_53 : decode (cM 56) 53 = .ok (.aload_n 0, 1) := by decide +kernel
theorem d_56_54 : decode (cM 56) 54 = .ok (.bipush 99, 2) := by decide +kernel
theorem d_56_56 : decode (cM 56) 56 = .ok (.invokevirtual 158, 3) := by decide +kernel
theorem kc_56_56 : callT (oM 56) 158 = some (0, 50, 1) ∧ fok 56 50 = true ∧ stM 50 = false := by decide +kernel
theorem d_56_59 : decode (cM 56) 59 = .ok (.ifCond .ne 5, 3) := by decide +kernel
theorem d_56_62 : decode (cM 56) 62 = .ok (.iconst 0, 1) := by decide +kernel
theorem d_56_63 : decode (cM 56) 63 = .ok (.ireturn, 1) := by decide +kernel
theorem d_56_64 : decode (cM 56) 64 = .ok (.aload_n 0, 1) := by decide +kernel
theorem d_56_65 : decode (cM 56) 65 = .ok (.getfield 18, 3) := by decide +kernel
theorem d_56_68 : decode (cM 56) 68 = .ok (.getfield 173, 3) := by decide +kernel
theorem d_56_71 : decode (cM 56) 71 = .ok (.iload_n 1, 1) := by decide +kernel
theorem d_56_72 : decode (cM 56) 72 = .ok (.iload_n 2, 1) := by decide +kernel
theorem d_56_73 : decode (cM 56) 73 = .ok (.iastore, 1) := by decide +kernel
theorem d_56_74 : decode (cM 56) 74 = .ok (.aload_n 0, 1) := by decide +kernel
theorem d_56_75 : decode (cM 56) 75 = .ok (.getfield 18, 3) := by decide +kernel
theorem d_56_78 : decode (cM 56) 78 = .ok (.getfield 176, 3) := by decide +kernel
theorem d_56_81 : decode (cM 56) 81 = .ok (.iload_n 1, 1) := by decide +kernel
theorem d_56_82 : decode (cM 56) 82 = .ok (.aload_n 0, 1) := by decide +kernel
theorem d_56_83 : decode (cM 56) 83 = .ok (.getfield 67, 3) := by decide +kernel
theorem d_56_86 : decode (cM 56) 86 = .ok (.iastore, 1) := by decide +kernel
theorem d_56_87 : decode (cM 56) 87 = .ok (.aload_n 0, 1) := by decide +kernel
theorem d_56_88 : decode (cM 56) 88 = .ok (.getfield 18, 3) := by decide +kernel
theorem d_56_91 : decode (cM 56) 91 = .ok (.dup, 1) := by decide +kernel
theorem d_56_92 : decode (cM 56) 92 = .ok (.getfield 170, 3) := by decide +kernel
theorem d_56_95 : decode (cM 56) 95 = .ok (.iconst 1, 1) := by decide +kernel
theorem d_56_96 : decode (cM 56) 96 = .ok (.iadd, 1) := by decide +kernel
theorem d_56_97 : decode (cM 56) 97 = .ok (.putfield 170, 3) := by decide +kernel
theorem d_56_100 : decode (cM 56) 100 = .ok (.iconst 1, 1) := by decide +kernel
theorem d_56_101 : decode (cM 56) 101 = .ok (.ireturn, 1) := by decide +kernel
theorem d_57_0 : decode (cM 57) 0 = .ok (.aload_n 0, 1) := by decide +kernel
theorem d_57_1 : decode (cM 57) 1 = .ok (.getfield 18, 3) := by decide +kernel
theorem d_57_4 : decode (cM 57) 4 = .ok (.getfield 179, 3) := by decide +kernel
theorem d_57_7 : decode (cM 57) 7 = .ok (.istore_n 1, 1) := by decide +kernel
theorem d_57_8 : decode (cM 57) 8 = .ok (.iload_n 1, 1) := by decide +kernel
theorem d_57_9 : decode (cM 57) 9 = .ok (.iconst 4, 1) := by decide +kernel
theorem d_57_10 : decode (cM 57) 10 = .ok (.if_icmp .lt 9, 3) := by decide +kernel
theorem d_57_13 : decode (cM 57) 13 = .ok (.aload_n 0, 1) := by decide +kernel
theorem d_57_14 : decode (cM 57) 14 = .ok (.iconst 2, 1) := by decide +kernel
theorem d_57_15 : decode (cM 57) 15 = .ok (.invokevirtual 106, 3) := by decide +kernel
theorem kc_57_15 : callT (oM 57) 106 = some (0, 40, 1) ∧ fok 57 40 = true ∧ stM 40 = false := by decide +kernel
theorem d_57_18 : decode (cM 57) 18 = .ok (.ireturn, 1) := by decide +kernel
theorem d_57_19 : decode (cM 57) 19 = .ok (.aload_n 0, 1) := by decide +kernel
theorem d_57_20 : decode (cM 57) 20 = .ok (.bipush 99, 2) := by decide +kernel
theorem d_57_22 : decode (cM 57) 22 = .ok (.invokevirtual 158, 3) := by decide +kernel
theorem kc_57_22 : callT (oM 57) 158 = some (0, 50, 1) ∧ fok 57 50 = true ∧ stM 50 = false := by decide +kernel
theorem d_57_25 : decode (cM 57) 25 = .ok (.ifCond .ne 5, 3) := by decide +kernel
theorem d_57_28 : decode (cM 57) 28 = .ok (.iconst 0, 1) := by decide +kernel
theorem d_57_29 : decode (cM 57) 29 = .ok (.ireturn, 1) := by decide +kernel
theorem d_57_30 : decode (cM 57) 30 = .ok (.aload_n 0, 1) := by decide +kernel
theorem d_57_31 : decode (cM 57) 31 = .ok (.getfield 18, 3) := by decide +kernel
theorem d_57_34 : decode (cM 57) 34 = .ok (.getfield 182, 3) := by decide +kernel
theorem d_57_37 : decode (cM 57) 37 = .ok (.iload_n 1, 1) := by decide +kernel
theorem d_57_38 : decode (cM 57) 38 = .ok (.aload_n 0, 1) := by decide +kernel
theorem d_57_39 : decode (cM 57) 39 = .ok (.getfield 67, 3) := by decide +kernel
theorem d_57_42 : decode (cM 57) 42 = .ok (.iastore, 1) := by decide +kernel
theorem d_57_43 : decode (cM 57) 43 = .ok (.aload_n 0, 1) := by decide +kernel
theorem d_57_44 : decode (cM 57) 44 = .ok (.getfield 18, 3) := by decide +kernel
theorem d_57_47 : decode (cM 57) 47 = .ok (.dup, 1) := by decide +kernel
theorem d_57_48 : decode (cM 57) 48 = .ok (.getfield 179, 3) := by decide +kernel
theorem d_57_51 : decode (cM 57) 51 = .ok (.iconst 1, 1) := by decide +kernel
theorem d_57_52 : decode (cM 57) 52 = .ok (.iadd, 1) := by decide +kernel
theorem d_57_53 : decode (cM 57) 53 = .ok (.putfield 179, 3) := by decide +kernel
theorem d_57_56 : decode (cM 57) 56 = .ok (.iconst 1, 1) := by decide +kernel
theorem d_57_57 : decode (cM 57) 57 = .ok (.ireturn, 1) := by decide +kernel
theorem d_58_0 : decode (cM 58) 0 = .ok (.aload_n 0, 1) := by decide +kernel
theorem d_58_1 : decode (cM 58) 1 = .ok (.getfield 18, 3) := by decide +kernel
theorem d_58_4 : decode (cM 58) 4 = .ok (.getfield 185, 3) := by decide +kernel
theorem d_58_7 : decode (cM 58) 7 = .ok (.iconst (-1), 1) := by decide +kernel
theorem d_58_8 : decode (cM 58) 8 = .ok (.if_icmp .eq 9, 3) := by decide +kernel
theorem d_58_11 : decode (cM 58) 11 = .ok (.aload_n 0, 1) := by decide +kernel
theorem d_58_12 : decode (cM 58) 12 = .ok (.iconst 3, 1) := by decide +kernel
theorem d_58_13 : decode (cM 58) 13 = .ok (.invokevirtual 106, 3) := by decide +kernel
theorem kc_58_13 : callT (oM 58) 106 = some (0, 40, 1) ∧ fok 58 40 = true ∧ stM 40 = false := by decide +kernel
theorem d_58_16 : decode (cM 58) 16 = .ok (.ireturn, 1) := by decide +kernel
theorem d_58_17 : decode (cM 58) 17 = .ok (.aload_n 0, 1) := by decide +kernel
theorem d_58_18 : decode (cM 58) 18 = .ok (.bipush 100, 2) := by decide +kernel
theorem d_58_20 : decode (cM 58) 20 = .ok (.invokevirtual 158, 3) := by decide +kernel
theorem kc_58_20 : callT (oM 58) 158 = some (0, 50, 1) ∧ fok 58 50 = true ∧ stM 50 = false := by decide +kernel
theorem d_58_23 : decode (cM 58) 23 = .ok (.ifCond .ne 5, 3) := by decide +kernel
theorem d_58_26 : decode (cM 58) 26 = .ok (.iconst 0, 1) := by decide +kernel
theorem d_58_27 : decode (cM 58) 27 = .ok (.ireturn, 1) := by decide +kernel
theorem d_58_28 : decode (cM 58) 28 = .ok (.aload_n 0, 1) := by decide +kernel
theorem d_58_29 : decode (cM 58) 29 = .ok (.getfield 18, 3) := by decide +kernel
theorem d_58_32 : decode (cM 58) 32 = .ok (.aload_n 0, 1) := by decide +kernel
theorem d_58_33 : decode (cM 58) 33 = .ok (.getfield 67, 3) := by decide +kernel
theorem d_58_36 : decode (cM 58) 36 = .ok (.putfield 185, 3) := by decide +kernel
theorem d_58_39 : decode (cM 58) 39 = .ok (.iconst 1, 1) := by decide +kernel
theorem d_58_40 : decode (cM 58) 40 = .ok (.ireturn, 1) := by decide +kernel
theorem d_59_0 : decode (cM 59) 0 = .ok (.aload_n 0, 1) := by decide +kernel
theorem d_59_1 : decode (cM 59) 1 = .ok (.getfield 18, 3) := by decide +kernel
theorem d_59_4 : decode (cM 59) 4 = .ok (.getfield 188, 3) := by decide +kernel
theorem d_59_7 : decode (cM 59) 7 = .ok (.iconst (-1), 1) := by decide +kernel
theorem d_59_8 : decode (cM 59) 8 = .ok (.if_icmp .eq 9, 3) := by decide +kernel
theorem d_59_11 : decode (cM 59) 11 = .ok (.aload_n 0, 1) := by decide +kernel
theorem d_59_12 : decode (cM 59) 12 = .ok (.iconst 3, 1) := by decide +kernel
theorem d_59_13 : decode (cM 59) 13 = .ok (.invokevirtual 106, 3) := by decide +kernel
theorem kc_59_13 : callT (oM 59) 106 = some (0, 40, 1) ∧ fok 59 40 = true ∧ stM 40 = false := by decide +kernel
theorem d_59_16 : decode (cM 59) 16 = .ok (.ireturn, 1) := by decide +kernel
theorem d_59_17 : decode (cM 59) 17 = .ok (.aload_n 0, 1) := by decide +kernel
theorem d_59_18 : decode (cM 59) 18 = .ok (.ldc 191, 2) := by decide +kernel
theorem d_59_20 : decode (cM 59) 20 = .ok (.invokevirtual 158, 3) := by decide +kernel
theorem kc_59_20 : callT (oM 59) 158 = some (0, 50, 1) ∧ fok 59 50 = true ∧ stM 50 = false := by decide +kernel
theorem d_59_23 : decode (cM 59) 23 = .ok (.ifCond .ne 5, 3) := by decide +kernel
theorem d_59_26 : decode (cM 59) 26 = .ok (.iconst 0, 1) := by decide +kernel
theorem d_59_27 : decode (cM 59) 27 = .ok (.ireturn, 1) := by decide +kernel
theorem d_59_28 : decode (cM 59) 28 = .ok (.aload_n 0, 1) := by decide +kernel
theorem d_59_29 : decode (cM 59) 29 = .ok (.getfield 18, 3) := by decide +kernel
theorem d_59_32 : decode (cM 59) 32 = .ok (.aload_n 0, 1) := by decide +kernel
theorem d_59_33 : decode (cM 59) 33 = .ok (.getfield 67, 3) := by decide +kernel
theorem d_59_36 : decode (cM 59) 36 = .ok (.putfield 188, 3) := by decide +kernel
theorem d_59_39 : decode (cM 59) 39 = .ok (.iconst 1, 1) := by decide +kernel
theorem d_59_40 : decode (cM 59) 40 = .ok (.ireturn, 1) := by decide +kernel
theorem d_60_0 : decode (cM 60) 0 = .ok (.aload_n 0, 1) := by decide +kernel
theorem d_60_1 : decode (cM 60) 1 = .ok (.invokevirtual 54, 3) := by decide +kernel
theorem kc_60_1 : callT (oM 60) 54 = some (0, 44, 0) ∧ fok 60 44 = true ∧ stM 44 = false := by decide +kernel
theorem d_60_4 : decode (cM 60) 4 = .ok (.aload_n 0, 1) := by decide +kernel
theorem d_60_5 : decode (cM 60) 5 = .ok (.getfield 57, 3) := by decide +kernel
theorem d_60_8 : decode (cM 60) 8 = .ok (.bipush 18, 2) := by decide +kernel
theorem d_60_10 : decode (cM 60) 10 = .ok (.if_icmp .lt 12, 3) := by decide +kernel
theorem d_60_13 : decode (cM 60) 13 = .ok (.aload_n 0, 1) := by decide +kernel
theorem d_60_14 : decode (cM 60) 14 = .ok (.getfield 57, 3) := by decide +kernel
theorem d_60_17 : decode (cM 60) 17 = .ok (.bipush 20, 2) := by decide +kernel
theorem d_60_19 : decode (cM 60) 19 = .ok (.if_icmp .le 9, 3) := by decide +kernel
theorem d_60_22 : decode (cM 60) 22 = .ok (.aload_n 0, 1) := by decide +kernel
theorem d_60_23 : decode (cM 60) 23 = .ok (.iconst 1, 1) := by decide +kernel
theorem d_60_24 : decode (cM 60) 24 = .ok (.invokevirtual 106, 3) := by decide +kernel
theorem kc_60_24 : callT (oM 60) 106 = some (0, 40, 1) ∧ fok 60 40 = true ∧ stM 40 = false := by decide +kernel
theorem d_60_27 : decode (cM 60) 27 = .ok (.ireturn, 1) := by decide +kernel
theorem d_60_28 : decode (cM 60) 28 = .ok (.aload_n 0, 1) := by decide +kernel
theorem d_60_29 : decode (cM 60) 29 = .ok (.getfield 57, 3) := by decide +kernel
theorem d_60_32 : decode (cM 60) 32 = .ok (.bipush 18, 2) := by decide +kernel
theorem d_60_34 : decode (cM 60) 34 = .ok (.isub, 1) := by decide +kernel
theorem d_60_35 : decode (cM 60) 35 = .ok (.istore_n 1, 1) := by decide +kernel
theorem d_60_36 : decode (cM 60) 36 = .ok (.aload_n 0, 1) := by decide +kernel
theorem d_60_37 : decode (cM 60) 37 = .ok (.getfield 18, 3) := by decide +kernel
theorem d_60_40 : decode (cM 60) 40 = .ok (.iload_n 1, 1) := by decide +kernel
theorem d_60_41 : decode (cM 60) 41 = .ok (.invokevirtual 192, 3) := by decide +kernel
theorem kc_60_41 : callT (oM 60) 192 = some (0, 91, 1) ∧ fok 60 91 = true ∧ stM 91 = false := by decide +kernel
theorem d_60_44 : decode (cM 60) 44 = .ok (.ifCond .eq 9, 3) := by decide +kernel
theorem d_60_47 : decode (cM 60) 47 = .ok (.aload_n 0, 1) := by decide +kernel
theorem d_60_48 : decode (cM 60) 48 = .ok (.iconst 3, 1) := by decide +kernel
theorem d_60_49 : decode (cM 60) 49 = .ok (.invokevirtual 106, 3) := by decide +kernel
theorem kc_60_49 : callT (oM 60) 106 = some (0, 40, 1) ∧ fok 60 40 = true ∧ stM 40 = false := by decide +kernel
theorem d_60_52 : decode (cM 60) 52 = .ok (.ireturn, 1) := by decide +kernel
theorem d_60_53 : decode (cM 60) 53 = .ok (.aload_n 0, 1) := by decide +kernel
theorem d_60_54 : decode (cM 60) 54 = .ok (.getfield 18, 3) := by decide +kernel
theorem d_60_57 : decode (cM 60) 57 = .ok (.getfield 195, 3) := by decide +kernel
theorem d_60_60 : decode (cM 60) 60 = .ok (.iload_n 1, 1) := by decide +kernel
theorem d_60_61 : decode (cM 60) 61 = .ok (.aload_n 0, 1) := by decide +kernel
theorem d_60_62 : decode (cM 60) 62 = .ok (.getfield 18, 3) := by decide +kernel
theorem d_60_65 : decode (cM 60) 65 = .ok (.getfield 198, 3) := by decide +kernel
theorem d_60_68 : decode (cM 60) 68 = .ok (.iastore, 1) := by decide +kernel
theorem d_60_69 : decode (cM 60) 69 = .ok (.aload_n 0, 1) := by decide +kernel
theorem d_60_70 : decode (cM 60) 70 = .ok (.invokevirtual 201, 3) := by decide +kernel
theorem kc_60_70 : callT (oM 60) 201 = some (0, 61, 0) ∧ fok 60 61 = true ∧ stM 61 = false := by decide +kernel
theorem d_60_73 : decode (cM 60) 73 = .ok (.ifCond .ne 5, 3) := by decide +kernel
theorem d_60_76 : decode (cM 60) 76 = .ok (.iconst 0, 1) := by decide +kernel
theorem d_60_77 : decode (cM 60) 77 = .ok (.ireturn, 1) := by decide +kernel
theorem d_60_78 : decode (cM 60) 78 = .ok (.aload_n 0, 1) := by decide +kernel
theorem d_60_79 : decode (cM 60) 79 = .ok (.getfield 18, 3) := by decide +kernel
theorem d_60_82 : decode (cM 60) 82 = .ok (.getfield 204, 3) := by decide +kernel
theorem d_60_85 : decode (cM 60) 85 = .ok (.iload_n 1, 1) := by decide +kernel
theorem d_60_86 : decode (cM 60) 86 = .ok (.aload_n 0, 1) := by decide +kernel
theorem d_60_87 : decode (cM 60) 87 = .ok (.getfield 18, 3) := by decide +kernel
theorem d_60_90 : decode (cM 60) 90 = .ok (.getfield 198, 3) := by decide +kernel
theorem d_60_93 : decode (cM 60) 93 = .ok (.iastore, 1) := by decide +kernel
theorem d_60_94 : decode (cM 60) 94 = .ok (.iconst 1, 1) := by decide +kernel
theorem d_60_95 : decode (cM 60) 95 = .ok (.ireturn, 1) := by decide +kernel
theorem d_61_0 : decode (cM 61) 0 = .ok (.aload_n 0, 1) := by decide +kernel
theorem d_61_1 : decode (cM 61) 1 = .ok (.iconst 0, 1) := by decide +kernel
theorem d_61_2 : decode (cM 61) 2 = .ok (.putfield 207, 3) := by decide +kernel
theorem d_61_5 : decode (cM 61) 5 = .ok (.aload_n 0, 1) := by decide +kernel
theorem d_61_6 : decode (cM 61) 6 = .ok (.iconst 0, 1) := by decide +kernel
theorem d_61_7 : decode (cM 61) 7 = .ok (.putfield 210, 3) := by decide +kernel
theorem d_61_10 : decode (cM 61) 10 = .ok (.aload_n 0, 1) := by decide +kernel
theorem d_61_11 : decode (cM 61) 11 = .ok (.iconst 0, 1) := by decide +kernel
theorem d_61_12 : decode (cM 61) 12 = .ok (.putfield 213, 3) := by decide +kernel
theorem d_61_15 : decode (cM 61) 15 = .ok (.aload_n 0, 1) := by decide +kernel
theorem d_61_16 : decode (cM 61) 16 = .ok (.iconst 1, 1) := by decide +kernel
theorem d_61_17 : decode (cM 61) 17 = .ok (.putfield 216, 3) := by decide +kernel
theorem d_61_20 : decode (cM 61) 20 = .ok (.aload_n 0, 1) := by decide +kernel
theorem d_61_21 : decode (cM 61) 21 = .ok (.iconst 1, 1) := by decide +kernel
theorem d_61_22 : decode (cM 61) 22 = .ok (.putfield 220, 3) := by decide +kernel
theorem d_61_25 : decode (cM 61) 25 = .ok (.iconst 0, 1) := by decide +kernel
theorem d_61_26 : decode (cM 61) 26 = .ok (.istore_n 1, 1) := by decide +kernel
theorem d_61_27 : decode (cM 61) 27 = .ok (.iload_n 1, 1) := by decide +kernel
theorem d_61_28 : decode (cM 61) 28 = .ok (.aload_n 0, 1) := by decide +kernel
theorem d_61_29 : decode (cM 61) 29 = .ok (.getfield 39, 3) := by decide +kernel
theorem d_61_32 : decode (cM 61) 32 = .ok (.if_icmp .gt 79, 3) := by decide +kernel
theorem d_61_35 : decode (cM 61) 35 = .ok (.aload_n 0, 1) := by decide +kernel
theorem d_61_36 : decode (cM 61) 36 = .ok (.getfield 42, 3) := by decide +kernel
theorem d_61_39 : decode (cM 61) 39 = .ok (.istore_n 2, 1) := by decide +kernel
theorem d_61_40 : decode (cM 61) 40 = .ok (.aload_n 0, 1) := by decide +kernel
theorem d_61_41 : decode (cM 61) 41 = .ok (.invokevirtual 54, 3) := by decide +kernel
theorem kc_61_41 : callT (oM 61) 54 = some (0, 44, 0) ∧ fok 61 44 = true ∧ stM 44 = false := by decide +kernel
theorem d_61_44 : decode (cM 61) 44 = .ok (.aload_n 0, 1) := by decide +kernel
theorem d_61_45 : decode (cM 61) 45 = .ok (.getfield 216, 3) := by decide +kernel
theorem d_61_48 : decode (cM 61) 48 = .ok (.ifCond .ne 31, 3) := by decide +kernel
theorem d_61_51 : decode (cM 61) 51 = .ok (.aload_n 0, 1) := by decide +kernel
theorem d_61_52 : decode (cM 61) 52 = .ok (.getfield 210, 3) := by decide +kernel
theorem d_61_55 : decode (cM 61) 55 = .ok (.ifCond .ne 24, 3) := by decide +kernel
theorem d_61_58 : decode (cM 61) 58 = .ok (.aload_n 0, 1) := by decide +kernel
theorem d_61_59 : decode (cM 61) 59 = .ok (.getfield 57, 3) := by decide +kernel
theorem d_61_62 : decode (cM 61) 62 = .ok (.bipush 40, 2) := by decide +kernel
theorem d_61_64 : decode (cM 61) 64 = .ok (.if_icmp .ne 15, 3) := by decide +kernel
theorem d_61_67 : decode (cM 61) 67 = .ok (.aload_n 0, 1) := by decide +kernel
theorem d_61_68 : decode (cM 61) 68 = .ok (.iload_n 2, 1) := by decide +kernel
theorem d_61_69 : decode (cM 61) 69 = .ok (.putfield 42, 3) := by decide +kernel
theorem d_61_72 : decode (cM 61) 72 = .ok (.aload_n 0, 1) := by decide +kernel
theorem d_61_73 : decode (cM 61) 73 = .ok (.iconst 0, 1) := by decide +kernel
theorem d_61_74 : decode (cM 61) 74 = .ok (.invokevirtual 223, 3) := by decide +kernel
theorem kc_61_74 : callT (oM 61) 223 = some (0, 68, 1) ∧ fok 61 68 = true ∧ stM 68 = false := by decide +kernel
theorem d_61_77 : decode (cM 61) 77 = .ok (.iconst 1, 1) := by decide +kernel
theorem d_61_78 : decode (cM 61) 78 = .ok (.ireturn, 1) := by decide +kernel
theorem d_61_79 : decode (cM 61) 79 = .ok (.aload_n 0, 1) := by decide +kernel
theorem d_61_80 : decode (cM 61) 80 = .ok (.getfield 216, 3) := by decide +kernel
theorem d_61_83 : decode (cM 61) 83 = .ok (.ifCond .eq 13, 3) := by decide +kernel
theorem d_61_86 : decode (cM 61) 86 = .ok (.aload_n 0, 1) := by decide +kernel
theorem d_61_87 : decode (cM 61) 87 = .ok (.invokevirtual 227, 3) := by decide +kernel
theorem kc_61_87 : callT (oM 61) 227 = some (0, 62, 0) ∧ fok 61 62 = true ∧ stM 62 = false := by decide +kernel
theorem d_61_90 : decode (cM 61) 90 = .ok (.ifCond .eq 13, 3) := by decide +kernel
theorem d_61_93 : decode (cM 61) 93 = .ok (.goto 12, 3) := by decide +kernel
theorem d_61_96 : decode (cM 61) 96 = .ok (.aload_n 0, 1) := by decide +kernel
theorem d_61_97 : decode (cM 61) 97 = .ok (.invokevirtual 230, 3) := by decide +kernel
theorem kc_61_97 : callT (oM 61) 230 = some (0, 63, 0) ∧ fok 61 63 = true ∧ stM 63 = false := by decide +kernel
theorem d_61_100 : decode (cM 61) 100 = .ok (.ifCond .ne 5, 3) := by decide +kernel
theorem d_61_103 : decode (cM 61) 103 = .ok (.iconst 0, 1) := by decide +kernel
theorem d_61_104 : decode (cM 61) 104 = .ok (.ireturn, 1) := by decide +kernel
theorem d_61_105 : decode (cM 61) 105 = .ok (.iinc 1 1, 3) := by decide +kernel
theorem d_61_108 : decode (cM 61) 108 = .ok (.goto (-81), 3) := by decide +kernel
theorem d_61_111 : decode (cM 61) 111 = .ok (.iconst 0, 1) := by decide +kernel
theorem d_61_112 : decode (cM 61) 112 = .ok (.ireturn, 1) := by decide +kernel
theorem d_62_0 : decode (cM 62) 0 = .ok (.aload_n 0, 1) := by decide +kernel
theorem d_62_1 : decode (cM 62) 1 = .ok (.getfield 57, 3) := by decide +kernel
theorem d_62_4 : decode (cM 62) 4 = .ok (.bipush 38, 2) := by decide +kernel
theorem d_62_6 : decode (cM 62) 6 = .ok (.if_icmp .ne 8, 3) := by decide +kernel
theorem d_62_9 : decode (cM 62) 9 = .ok (.aload_n 0, 1) := by decide +kernel
theorem d_62_10 : decode (cM 62) 10 = .ok (.invokevirtual 233, 3) := by decide +kernel
theorem kc_62_10 : callT (oM 62) 233 = some (0, 64, 0) ∧ fok 62 64 = true ∧ stM 64 = false := by decide +kernel
theorem d_62_13 : decode (cM 62) 13 = .ok (.ireturn, 1) := by decide +kernel
theorem d_62_14 : decode (cM 62) 14 = .ok (.aload_n 0, 1) := by decide +kernel
theorem d_62_15 : decode (cM 62) 15 = .ok (.getfield 57, 3) := by decide +kernel
theorem d_62_18 : decode (cM 62) 18 = .ok (.bipush 23, 2) := by decide +kernel
theorem d_62_20 : decode (cM 62) 20 = .ok (.if_icmp .ne 32, 3) := by decide +kernel
theorem d_62_23 : decode (cM 62) 23 = .ok (.aload_n 0, 1) := by decide +kernel
theorem d_62_24 : decode (cM 62) 24 = .ok (.getfield 220, 3) := by decide +kernel
theorem d_62_27 : decode (cM 62) 27 = .ok (.ifCond .eq 25, 3) := by decide +kernel
theorem d_62_30 : decode (cM 62) 30 = .ok (.aload_n 0, 1) := by decide +kernel
theorem d_62_31 : decode (cM 62) 31 = .ok (.invokevirtual 236, 3) := by decide +kernel
theorem kc_62_31 : callT (oM 62) 236 = some (0, 65, 0) ∧ fok 62 65 = true ∧ stM 65 = false := by decide +kernel
theorem d_62_34 : decode (cM 62) 34 = .ok (.ifCond .eq 16, 3) := by decide +kernel
theorem d_62_37 : decode (cM 62) 37 = .ok (.aload_n 0, 1) := by decide +kernel
theorem d_62_38 : decode (cM 62) 38 = .ok (.bipush 23, 2) := by decide +kernel
theorem d_62_40 : decode (cM 62) 40 = .ok (.invokevirtual 239, 3) := by decide +kernel
theorem kc_62_40 : callT (oM 62) 239 = some (0, 66, 1) ∧ fok 62 66 = true ∧ stM 66 = false := by decide +kernel
theorem d_62_43 : decode (cM 62) 43 = .ok (.ifCond .eq 7, 3) := by decide +kernel
theorem d_62_46 : decode (cM 62) 46 = .ok (.iconst 1, 1) := by decide +kernel
theorem d_62_47 : decode (cM 62) 47 = .ok (.goto 4, 3) := by decide +kernel
theorem d_62_50 : decode (cM 62) 50 = .ok (.iconst 0, 1) := by decide +kernel
theorem d_62_51 : decode (cM 62) 51 = .ok (.ireturn, 1) := by decide +kernel
theorem d_62_52 : decode (cM 62) 52 = .ok (.aload_n 0, 1) := by decide +kernel
theorem d_62_53 : decode (cM 62) 53 = .ok (.getfield 57, 3) := by decide +kernel
theorem d_62_56 : decode (cM 62) 56 = .ok (.iconst 2, 1) := by decide +kernel
theorem d_62_57 : decode (cM 62) 57 = .ok (.if_icmp .ne 50, 3) := by decide +kernel
theorem d_62_60 : decode (cM 62) 60 = .ok (.aload_n 0, 1) := by decide +kernel
theorem d_62_61 : decode (cM 62) 61 = .ok (.iconst 0, 1) := by decide +kernel
theorem d_62_62 : decode (cM 62) 62 = .ok (.putfield 216, 3) := by decide +kernel
theorem d_62_65 : decode (cM 62) 65 = .ok (.aload_n 0, 1) := by decide +kernel
theorem d_62_66 : decode (cM 62) 66 = .ok (.getfield 67, 3) := by decide +kernel
theorem d_62_69 : decode (cM 62) 69 = .ok (.sipush 9999, 3) := by decide +kernel
theorem d_62_72 : decode (cM 62) 72 = .ok (.if_icmp .le 11, 3) := by decide +kernel
theorem d_62_75 : decode (cM 62) 75 = .ok (.aload_n 0, 1) := by decide +kernel
theorem d_62_76 : decode (cM 62) 76 = .ok (.iconst 2, 1) := by decide +kernel
theorem d_62_77 : decode (cM 62) 77 = .ok (.invokevirtual 106, 3) := by decide +kernel
theorem kc_62_77 : callT (oM 62) 106 = some (0, 40, 1) ∧ fok 62 40 = true ∧ stM 40 = false := by decide +kernel
theorem d_62_80 : decode (cM 62) 80 = .ok (.goto 26, 3) := by decide +kernel
theorem d_62_83 : decode (cM 62) 83 = .ok (.aload_n 0, 1) := by decide +kernel
theorem d_62_84 : decode (cM 62) 84 = .ok (.invokevirtual 236, 3) := by decide +kernel
theorem kc_62_84 : callT (oM 62) 236 = some (0, 65, 0) ∧ fok 62 65 = true ∧ stM 65 = false := by decide +kernel
theorem d_62_87 : decode (cM 62) 87 = .ok (.ifCond .eq 18, 3) := by decide +kernel
theorem d_62_90 : decode (cM 62) 90 = .ok (.aload_n 0, 1) := by decide +kernel
theorem d_62_91 : decode (cM 62) 91 = .ok (.aload_n 0, 1) := by decide +kernel
theorem d_62_92 : decode (cM 62) 92 = .ok (.getfield 67, 3) := by decide +kernel
theorem d_62_95 : decode (cM 62) 95 = .ok (.invokevirtual 242, 3) := by decide +kernel
theorem kc_62_95 : callT (oM 62) 242 = some (0, 67, 1) ∧ fok 62 67 = true ∧ stM 67 = false := by decide +kernel
theorem d_62_98 : decode (cM 62) 98 = .ok (.ifCond .eq 7, 3) := by decide +kernel
theorem d_62_101 : decode (cM 62) 101 = .ok (.iconst 1, 1) := by decide +kernel
theorem d_62_102 : decode (cM 62) 102 = .ok (.goto 4, 3) := by decide +kernel
theorem d_62_105 : decode (cM 62) 105 = .ok (.iconst 0, 1) := by decide +kernel
theorem d_62_106 : decode (cM 62) 106 = .ok (.ireturn, 1) := by decide +kernel
theorem d_62_107 : decode (cM 62) 107 = .ok (.aload_n 0, 1) := by decide +kernel
theorem d_62_108 : decode (cM 62) 108 = .ok (.getfield 57, 3) := by decide +kernel
theorem d_62_111 : decode (cM 62) 111 = .ok (.bipush 24, 2) := by decide +kernel
theorem d_62_113 : decode (cM 62) 113 = .ok (.if_icmp .lt 45, 3) := by decide +kernel
theorem d_62_116 : decode (cM 62) 116 = .ok (.aload_n 0, 1) := by decide +kernel
theorem d_62_117 : decode (cM 62) 117 = .ok (.getfield 57, 3) := by decide +kernel
theorem d_62_120 : decode (cM 62) 120 = .ok (.bipush 30, 2) := by decide +kernel
theorem d_62_122 : decode (cM 62) 122 = .ok (.if_icmp .gt 36, 3) := by decide +kernel
theorem d_62_125 : decode (cM 62) 125 = .ok (.aload_n 0, 1) := by decide +kernel
theorem d_62_126 : decode (cM 62) 126 = .ok (.iconst 0, 1) := by decide +kernel
theorem d_62_127 : decode (cM 62) 127 = .ok (.putfield 216, 3) := by decide +kernel
theorem d_62_130 : decode (cM 62) 130 = .ok (.aload_n 0, 1) := by decide +kernel
theorem d_62_131 : decode (cM 62) 131 = .ok (.invokevirtual 236, 3) := by decide +kernel
theorem kc_62_131 : callT (oM 62) 236 = some (0, 65, 0) ∧ fok 62 65 = true ∧ stM 65 = false := by decide +kernel
theorem d_62_134 : decode (cM 62) 134 = .ok (.ifCond .eq 22, 3) := by decide +kernel
theorem d_62_137 : decode (cM 62) 137 = .ok (.aload_n 0, 1) := by decide +kernel
theorem d_62_138 : decode (cM 62) 138 = .ok (.sipush 10000, 3) := by decide +kernel
theorem d_62_141 : decode (cM 62) 141 = .ok (.aload_n 0, 1) := by decide +kernel
theorem d_62_142 : decode (cM 62) 142 = .ok (.getfield 57, 3) := by decide +kernel
theorem d_62_145 : decode (cM 62) 145 = .ok (.iadd, 1) := by decide +kernel
theorem d_62_146 : decode (cM 62) 146 = .ok (.invokevirtual 242, 3) := by decide +kernel
theorem kc_62_146 : callT (oM 62) 242 = some (0, 67, 1) ∧ fok 62 67 = true ∧ stM 67 = false := by decide +kernel
theorem d_62_149 : decode (cM 62) 149 = .ok (.ifCond .eq 7, 3) := by decide +kernel
theorem d_62_152 : decode (cM 62) 152 = .ok (.iconst 1, 1) := by decide +kernel
theorem d_62_153 : decode (cM 62) 153 = .ok (.goto 4, 3) := by decide +kernel
theorem d_62_156 : decode (cM 62) 156 = .ok (.iconst 0, 1) := by decide +kernel
theorem d_62_157 : decode (cM 62) 157 = .ok (.ireturn, 1) := by decide +kernel
theorem d_62_158 : decode (cM 62) 158 = .ok (.aload_n 0, 1) := by decide +kernel
theorem d_62_159 : decode (cM 62) 159 = .ok (.iconst 1, 1) := by decide +kernel
theorem d_62_160 : decode (cM 62) 160 = .ok (.invokevirtual 106, 3) := by decide +kernel
theorem kc_62_160 : callT (oM 62) 106 = some (0, 40, 1) ∧ fok 62 40 = true ∧ stM 40 = false := by decide +kernel
theorem d_62_163 : decode (cM 62) 163 = .ok (.ireturn, 1) := by decide +kernel
