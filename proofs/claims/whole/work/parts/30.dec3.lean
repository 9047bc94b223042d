theorem d_190_0 : decode (cM 190) 0 = .ok (.aload_n 0, 1) := by decide +kernel
theorem d_190_1 : decode (cM 190) 1 = .ok (.iconst 0, 1) := by decide +kernel
theorem d_190_2 : decode (cM 190) 2 = .ok (.putfield 289, 3) := by decide +kernel
theorem d_190_5 : decode (cM 190) 5 = .ok (.aload_n 0, 1) := by decide +kernel
theorem d_190_6 : decode (cM 190) 6 = .ok (.iconst 0, 1) := by decide +kernel
theorem d_190_7 : decode (cM 190) 7 = .ok (.putfield 286, 3) := by decide +kernel
theorem d_190_10 : decode (cM 190) 10 = .ok (.aload_n 0, 1) := by decide +kernel
theorem d_190_11 : decode (cM 190) 11 = .ok (.iconst 0, 1) := by decide +kernel
theorem d_190_12 : decode (cM 190) 12 = .ok (.putfield 304, 3) := by decide +kernel
theorem d_190_15 : decode (cM 190) 15 = .ok (.aload_n 0, 1) := by decide +kernel
theorem d_190_16 : decode (cM 190) 16 = .ok (.iconst 1, 1) := by decide +kernel
theorem d_190_17 : decode (cM 190) 17 = .ok (.putfield 324, 3) := by decide +kernel
theorem d_190_20 : decode (cM 190) 20 = .ok (.aload_n 0, 1) := by decide +kernel
theorem d_190_21 : decode (cM 190) 21 = .ok (.iconst 1, 1) := by decide +kernel
theorem d_190_22 : decode (cM 190) 22 = .ok (.putfield 311, 3) := by decide +kernel
theorem d_190_25 : decode (cM 190) 25 = .ok (.aload_n 0, 1) := by decide +kernel
theorem d_190_26 : decode (cM 190) 26 = .ok (.bipush 59, 2) := by decide +kernel
theorem d_190_28 : decode (cM 190) 28 = .ok (.invokevirtual 197, 3) := by decide +kernel
theorem kc_190_28 : callT (oM 190) 197 = some (0, 162, 1) ∧ fok 190 162 = true ∧ stM 162 = false := by decide +kernel
theorem d_190_31 : decode (cM 190) 31 = .ok (.ifCond .eq 17, 3) := by decide +kernel
theorem d_190_34 : decode (cM 190) 34 = .ok (.aload_n 0, 1) := by decide +kernel
theorem d_190_35 : decode (cM 190) 35 = .ok (.getfield 324, 3) := by decide +kernel
theorem d_190_38 : decode (cM 190) 38 = .ok (.ifCond .ne 10, 3) := by decide +kernel
theorem d_190_41 : decode (cM 190) 41 = .ok (.aload_n 0, 1) := by decide +kernel
theorem d_190_42 : decode (cM 190) 42 = .ok (.getfield 304, 3) := by decide +kernel
theorem d_190_45 : decode (cM 190) 45 = .ok (.ifCond .le 29, 3) := by decide +kernel
theorem d_190_48 : decode (cM 190) 48 = .ok (.aload_n 0, 1) := by decide +kernel
theorem d_190_49 : decode (cM 190) 49 = .ok (.getfield 324, 3) := by decide +kernel
theorem d_190_52 : decode (cM 190) 52 = .ok (.ifCond .eq 13, 3) := by decide +kernel
theorem d_190_55 : decode (cM 190) 55 = .ok (.aload_n 0, 1) := by decide +kernel
theorem d_190_56 : decode (cM 190) 56 = .ok (.invokevirtual 330, 3) := by decide +kernel
theorem kc_190_56 : callT (oM 190) 330 = some (0, 188, 0) ∧ fok 190 188 = true ∧ stM 188 = false := by decide +kernel
theorem d_190_59 : decode (cM 190) 59 = .ok (.ifCond .eq 13, 3) := by decide +kernel
theorem d_190_62 : decode (cM 190) 62 = .ok (.goto (-37), 3) := by decide +kernel
theorem d_190_65 : decode (cM 190) 65 = .ok (.aload_n 0, 1) := by decide +kernel
theorem d_190_66 : decode (cM 190) 66 = .ok (.invokevirtual 333, 3) := by decide +kernel
theorem kc_190_66 : callT (oM 190) 333 = some (0, 189, 0) ∧ fok 190 189 = true ∧ stM 189 = false := by decide +kernel
theorem d_190_69 : decode (cM 190) 69 = .ok (.ifCond .ne (-44), 3) := by decide +kernel
theorem d_190_72 : decode (cM 190) 72 = .ok (.iconst 0, 1) := by decide +kernel
theorem d_190_73 : decode (cM 190) 73 = .ok (.ireturn, 1) := by decide +kernel
theorem d_190_74 : decode (cM 190) 74 = .ok (.aload_n 0, 1) := by decide +kernel
theorem d_190_75 : decode (cM 190) 75 = .ok (.iconst 1, 1) := by decide +kernel
theorem d_190_76 : decode (cM 190) 76 = .ok (.invokevirtual 327, 3) := by decide +kernel
theorem kc_190_76 : callT (oM 190) 327 = some (0, 184, 1) ∧ fok 190 184 = true ∧ stM 184 = false := by decide +kernel
theorem d_190_79 : decode (cM 190) 79 = .ok (.iconst 1, 1) := by decide +kernel
theorem d_190_80 : decode (cM 190) 80 = .ok (.ireturn, 1) := by decide +kernel
theorem d_191_0 : decode (cM 191) 0 = .ok (.aload_n 0, 1) := by decide +kernel
theorem d_191_1 : decode (cM 191) 1 = .ok (.aload_n 0, 1) := by decide +kernel
theorem d_191_2 : decode (cM 191) 2 = .ok (.getfield 336, 3) := by decide +kernel
theorem d_191_5 : decode (cM 191) 5 = .ok (.ifCond .ne 19, 3) := by decide +kernel
theorem d_191_8 : decode (cM 191) 8 = .ok (.lload_n 1, 1) := by decide +kernel
theorem d_191_9 : decode (cM 191) 9 = .ok (.ldc2_w 339, 3) := by decide +kernel
theorem d_191_12 : decode (cM 191) 12 = .ok (.lcmp, 1) := by decide +kernel
theorem d_191_13 : decode (cM 191) 13 = .ok (.ifCond .gt 11, 3) := by decide +kernel
theorem d_191_16 : decode (cM 191) 16 = .ok (.lload_n 1, 1) := by decide +kernel
theorem d_191_17 : decode (cM 191) 17 = .ok (.ldc2_w 341, 3) := by decide +kernel
theorem d_191_20 : decode (cM 191) 20 = .ok (.lcmp, 1) := by decide +kernel
theorem d_191_21 : decode (cM 191) 21 = .ok (.ifCond .ge 7, 3) := by decide +kernel
theorem d_191_24 : decode (cM 191) 24 = .ok (.iconst 1, 1) := by decide +kernel
theorem d_191_25 : decode (cM 191) 25 = .ok (.goto 4, 3) := by decide +kernel
theorem d_191_28 : decode (cM 191) 28 = .ok (.iconst 0, 1) := by decide +kernel
theorem d_191_29 : decode (cM 191) 29 = .ok (.putfield 336, 3) := by decide +kernel
theorem d_191_32 : decode (cM 191) 32 = .ok (.aload_n 0, 1) := by decide +kernel
theorem d_191_33 : decode (cM 191) 33 = .ok (.getfield 336, 3) := by decide +kernel
theorem d_191_36 : decode (cM 191) 36 = .ok (.ifCond .eq 7, 3) := by decide +kernel
theorem d_191_39 : decode (cM 191) 39 = .ok (.lconst 0, 1) := by decide +kernel
theorem d_191_40 : decode (cM 191) 40 = .ok (.goto 4, 3) := by decide +kernel
theorem d_191_43 : decode (cM 191) 43 = .ok (.lload_n 1, 1) := by decide +kernel
theorem d_191_44 : decode (cM 191) 44 = .ok (.lreturn, 1) := by decide +kernel
theorem d_192_0 : decode (cM 192) 0 = .ok (.iload_n 0, 1) := by decide +kernel
theorem d_192_1 : decode (cM 192) 1 = .ok (.tableswitch 95 5 9 #[35, 47, 59, 71, 83], 35) := by decide +kernel
theorem d_192_36 : decode (cM 192) 36 = .ok (.lload_n 1, 1) := by decide +kernel
theorem d_192_37 : decode (cM 192) 37 = .ok (.lload_n 3, 1) := by decide +kernel
theorem d_192_38 : decode (cM 192) 38 = .ok (.lcmp, 1) := by decide +kernel
theorem d_192_39 : decode (cM 192) 39 = .ok (.ifCond .ge 7, 3) := by decide +kernel
theorem d_192_42 : decode (cM 192) 42 = .ok (.iconst 1, 1) := by decide +kernel
theorem d_192_43 : decode (cM 192) 43 = .ok (.goto 4, 3) := by decide +kernel
theorem d_192_46 : decode (cM 192) 46 = .ok (.iconst 0, 1) := by decide +kernel
theorem d_192_47 : decode (cM 192) 47 = .ok (.ireturn, 1) := by decide +kernel
theorem d_192_48 : decode (cM 192) 48 = .ok (.lload_n 1, 1) := by decide +kernel
theorem d_192_49 : decode (cM 192) 49 = .ok (.lload_n 3, 1) := by decide +kernel
theorem d_192_50 : decode (cM 192) 50 = .ok (.lcmp, 1) := by decide +kernel
theorem d_192_51 : decode (cM 192) 51 = .ok (.ifCond .gt 7, 3) := by decide +kernel
theorem d_192_54 : decode (cM 192) 54 = .ok (.iconst 1, 1) := by decide +kernel
theorem d_192_55 : decode (cM 192) 55 = .ok (.goto 4, 3) := by decide +kernel
theorem d_192_58 : decode (cM 192) 58 = .ok (.iconst 0, 1) := by decide +kernel
theorem d_192_59 : decode (cM 192) 59 = .ok (.ireturn, 1) := by decide +kernel
theorem d_192_60 : decode (cM 192) 60 = .ok (.lload_n 1, 1) := by decide +kernel
theorem d_192_61 : decode (cM 192) 61 = .ok (.lload_n 3, 1) := by decide +kernel
theorem d_192_62 : decode (cM 192) 62 = .ok (.lcmp, 1) := by decide +kernel
theorem d_192_63 : decode (cM 192) 63 = .ok (.ifCond .ne 7, 3) := by decide +kernel
theorem d_192_66 : decode (cM 192) 66 = .ok (.iconst 1, 1) := by decide +kernel
theorem d_192_67 : decode (cM 192) 67 = .ok (.goto 4, 3) := by decide +kernel
theorem d_192_70 : decode (cM 192) 70 = .ok (.iconst 0, 1) := by decide +kernel
theorem d_192_71 : decode (cM 192) 71 = .ok (.ireturn, 1) := by decide +kernel
theorem d_192_72 : decode (cM 192) 72 = .ok (.lload_n 1, 1) := by decide +kernel
theorem d_192_73 : decode (cM 192) 73 = .ok (.lload_n 3, 1) := by decide +kernel
theorem d_192_74 : decode (cM 192) 74 = .ok (.lcmp, 1) := by decide +kernel
theorem d_192_75 : decode (cM 192) 75 = .ok (.ifCond .eq 7, 3) := by decide +kernel
theorem d_192_78 : decode (cM 192) 78 = .ok (.iconst 1, 1) := by decide +kernel
theorem d_192_79 : decode (cM 192) 79 = .ok (.goto 4, 3) := by decide +kernel
theorem d_192_82 : decode (cM 192) 82 = .ok (.iconst 0, 1) := by decide +kernel
theorem d_192_83 : decode (cM 192) 83 = .ok (.ireturn, 1) := by decide +kernel
theorem d_192_84 : decode (cM 192) 84 = .ok (.lload_n 1, 1) := by decide +kernel
theorem d_192_85 : decode (cM 192) 85 = .ok (.lload_n 3, 1) := by decide +kernel
theorem d_192_86 : decode (cM 192) 86 = .ok (.lcmp, 1) := by decide +kernel
theorem d_192_87 : decode (cM 192) 87 = .ok (.ifCond .lt 7, 3) := by decide +kernel
theorem d_192_90 : decode (cM 192) 90 = .ok (.iconst 1, 1) := by decide +kernel
theorem d_192_91 : decode (cM 192) 91 = .ok (.goto 4, 3) := by decide +kernel
theorem d_192_94 : decode (cM 192) 94 = .ok (.iconst 0, 1) := by decide +kernel
theorem d_192_95 : decode (cM 192) 95 = .ok (.ireturn, 1) := by decide +kernel
theorem d_192_96 : decode (cM 192) 96 = .ok (.lload_n 1, 1) := by decide +kernel
theorem d_192_97 : decode (cM 192) 97 = .ok (.lload_n 3, 1) := by decide +kernel
theorem d_192_98 : decode (cM 192) 98 = .ok (.lcmp, 1) := by decide +kernel
theorem d_192_99 : decode (cM 192) 99 = .ok (.ifCond .le 7, 3) := by decide +kernel
theorem d_192_102 : decode (cM 192) 102 = .ok (.iconst 1, 1) := by decide +kernel
theorem d_192_103 : decode (cM 192) 103 = .ok (.goto 4, 3) := by decide +kernel
theorem d_192_106 : decode (cM 192) 106 = .ok (.iconst 0, 1) := by decide +kernel
theorem d_192_107 : decode (cM 192) 107 = .ok (.ireturn, 1) := by decide +kernel
theorem d_193_0 : decode (cM 193) 0 = .ok (.lload_n 1, 1) := by decide +kernel
theorem d_193_1 : decode (cM 193) 1 = .ok (.lconst 0, 1) := by decide +kernel
theorem d_193_2 : decode (cM 193) 2 = .ok (.lcmp, 1) := by decide +kernel
theorem d_193_3 : decode (cM 193) 3 = .ok (.ifCond .eq 45, 3) := by decide +kernel
theorem d_193_6 : decode (cM 193) 6 = .ok (.lload_n 3, 1) := by decide +kernel
theorem d_193_7 : decode (cM 193) 7 = .ok (.lconst 0, 1) := by decide +kernel
theorem d_193_8 : decode (cM 193) 8 = .ok (.lcmp, 1) := by decide +kernel
theorem d_193_9 : decode (cM 193) 9 = .ok (.ifCond .eq 39, 3) := by decide +kernel
theorem d_193_12 : decode (cM 193) 12 = .ok (.lload_n 3, 1) := by decide +kernel
theorem d_193_13 : decode (cM 193) 13 = .ok (.lconst 0, 1) := by decide +kernel
theorem d_193_14 : decode (cM 193) 14 = .ok (.lcmp, 1) := by decide +kernel
theorem d_193_15 : decode (cM 193) 15 = .ok (.ifCond .ge 8, 3) := by decide +kernel
theorem d_193_18 : decode (cM 193) 18 = .ok (.lload_n 3, 1) := by decide +kernel
theorem d_193_19 : decode (cM 193) 19 = .ok (.lneg, 1) := by decide +kernel
theorem d_193_20 : decode (cM 193) 20 = .ok (.goto 4, 3) := by decide +kernel
theorem d_193_23 : decode (cM 193) 23 = .ok (.lload_n 3, 1) := by decide +kernel
theorem d_193_24 : decode (cM 193) 24 = .ok (.ldc2_w 339, 3) := by decide +kernel
theorem d_193_27 : decode (cM 193) 27 = .ok (.lload_n 1, 1) := by decide +kernel
theorem d_193_28 : decode (cM 193) 28 = .ok (.lconst 0, 1) := by decide +kernel
theorem d_193_29 : decode (cM 193) 29 = .ok (.lcmp, 1) := by decide +kernel
theorem d_193_30 : decode (cM 193) 30 = .ok (.ifCond .ge 8, 3) := by decide +kernel
theorem d_193_33 : decode (cM 193) 33 = .ok (.lload_n 1, 1) := by decide +kernel
theorem d_193_34 : decode (cM 193) 34 = .ok (.lneg, 1) := by decide +kernel
theorem d_193_35 : decode (cM 193) 35 = .ok (.goto 4, 3) := by decide +kernel
theorem d_193_38 : decode (cM 193) 38 = .ok (.lload_n 1, 1) := by decide +kernel
theorem d_193_39 : decode (cM 193) 39 = .ok (.ldiv, 1) := by decide +kernel
theorem d_193_40 : decode (cM 193) 40 = .ok (.lcmp, 1) := by decide +kernel
theorem d_193_41 : decode (cM 193) 41 = .ok (.ifCond .le 7, 3) := by decide +kernel
theorem d_193_44 : decode (cM 193) 44 = .ok (.iconst 1, 1) := by decide +kernel
theorem d_193_45 : decode (cM 193) 45 = .ok (.goto 4, 3) := by decide +kernel
theorem d_193_48 : decode (cM 193) 48 = .ok (.iconst 0, 1) := by decide +kernel
theorem d_193_49 : decode (cM 193) 49 = .ok (.istore 5, 2) := by decide +kernel
theorem d_193_51 : decode (cM 193) 51 = .ok (.aload_n 0, 1) := by decide +kernel
theorem d_193_52 : decode (cM 193) 52 = .ok (.aload_n 0, 1) := by decide +kernel
theorem d_193_53 : decode (cM 193) 53 = .ok (.getfield 336, 3) := by decide +kernel
theorem d_193_56 : decode (cM 193) 56 = .ok (.ifCond .ne 8, 3) := by decide +kernel
theorem d_193_59 : decode (cM 193) 59 = .ok (.iload 5, 2) := by decide +kernel
theorem d_193_61 : decode (cM 193) 61 = .ok (.ifCond .eq 7, 3) := by decide +kernel
theorem d_193_64 : decode (cM 193) 64 = .ok (.iconst 1, 1) := by decide +kernel
theorem d_193_65 : decode (cM 193) 65 = .ok (.goto 4, 3) := by decide +kernel
theorem d_193_68 : decode (cM 193) 68 = .ok (.iconst 0, 1) := by decide +kernel
theorem d_193_69 : decode (cM 193) 69 = .ok (.putfield 336, 3) := by decide +kernel
theorem d_193_72 : decode (cM 193) 72 = .ok (.aload_n 0, 1) := by decide +kernel
theorem d_193_73 : decode (cM 193) 73 = .ok (.getfield 336, 3) := by decide +kernel
theorem d_193_76 : decode (cM 193) 76 = .ok (.ifCond .eq 7, 3) := by decide +kernel
theorem d_193_79 : decode (cM 193) 79 = .ok (.lconst 0, 1) := by decide +kernel
theorem d_193_80 : decode (cM 193) 80 = .ok (.goto 6, 3) := by decide +kernel
theorem d_193_83 : decode (cM 193) 83 = .ok (.lload_n 1, 1) := by decide +kernel
theorem d_193_84 : decode (cM 193) 84 = .ok (.lload_n 3, 1) := by decide +kernel
theorem d_193_85 : decode (cM 193) 85 = .ok (.lmul, 1) := by decide +kernel
theorem d_193_86 : decode (cM 193) 86 = .ok (.lreturn, 1) := by decide +kernel
theorem d_194_0 : decode (cM 194) 0 = .ok (.aload_n 0, 1) := by decide +kernel
theorem d_194_1 : decode (cM 194) 1 = .ok (.getfield 60, 3) := by decide +kernel
theorem d_194_4 : decode (cM 194) 4 = .ok (.iload_n 1, 1) := by decide +kernel
theorem d_194_5 : decode (cM 194) 5 = .ok (.iaload, 1) := by decide +kernel
theorem d_194_6 : decode (cM 194) 6 = .ok (.ifCond .ne 11, 3) := by decide +kernel
theorem d_194_9 : decode (cM 194) 9 = .ok (.aload_n 0, 1) := by decide +kernel
theorem d_194_10 : decode (cM 194) 10 = .ok (.getfield 63, 3) := by decide +kernel
theorem d_194_13 : decode (cM 194) 13 = .ok (.iload_n 1, 1) := by decide +kernel
theorem d_194_14 : decode (cM 194) 14 = .ok (.iaload, 1) := by decide +kernel
theorem d_194_15 : decode (cM 194) 15 = .ok (.i2l, 1) := by decide +kernel
theorem d_194_16 : decode (cM 194) 16 = .ok (.lreturn, 1) := by decide +kernel
theorem d_194_17 : decode (cM 194) 17 = .ok (.aload_n 0, 1) := by decide +kernel
theorem d_194_18 : decode (cM 194) 18 = .ok (.getfield 60, 3) := by decide +kernel
theorem d_194_21 : decode (cM 194) 21 = .ok (.iload_n 1, 1) := by decide +kernel
theorem d_194_22 : decode (cM 194) 22 = .ok (.iaload, 1) := by decide +kernel
theorem d_194_23 : decode (cM 194) 23 = .ok (.iconst 1, 1) := by decide +kernel
theorem d_194_24 : decode (cM 194) 24 = .ok (.if_icmp .ne 15, 3) := by decide +kernel
theorem d_194_27 : decode (cM 194) 27 = .ok (.aload_n 0, 1) := by decide +kernel
theorem d_194_28 : decode (cM 194) 28 = .ok (.getfield 75, 3) := by decide +kernel
theorem d_194_31 : decode (cM 194) 31 = .ok (.aload_n 0, 1) := by decide +kernel
theorem d_194_32 : decode (cM 194) 32 = .ok (.getfield 63, 3) := by decide +kernel
theorem d_194_35 : decode (cM 194) 35 = .ok (.iload_n 1, 1) := by decide +kernel
theorem d_194_36 : decode (cM 194) 36 = .ok (.iaload, 1) := by decide +kernel
theorem d_194_37 : decode (cM 194) 37 = .ok (.laload, 1) := by decide +kernel
theorem d_194_38 : decode (cM 194) 38 = .ok (.lreturn, 1) := by decide +kernel
theorem d_194_39 : decode (cM 194) 39 = .ok (.aload_n 0, 1) := by decide +kernel
theorem d_194_40 : decode (cM 194) 40 = .ok (.getfield 79, 3) := by decide +kernel
theorem d_194_43 : decode (cM 194) 43 = .ok (.aload_n 0, 1) := by decide +kernel
theorem d_194_44 : decode (cM 194) 44 = .ok (.getfield 63, 3) := by decide +kernel
theorem d_194_47 : decode (cM 194) 47 = .ok (.iload_n 1, 1) := by decide +kernel
theorem d_194_48 : decode (cM 194) 48 = .ok (.iaload, 1) := by decide +kernel
theorem d_194_49 : decode (cM 194) 49 = .ok (.laload, 1) := by decide +kernel
theorem d_194_50 : decode (cM 194) 50 = .ok (.lstore_n 2, 1) := by decide +kernel
theorem d_194_51 : decode (cM 194) 51 = .ok (.aload_n 0, 1) := by decide +kernel
theorem d_194_52 : decode (cM 194) 52 = .ok (.getfield 60, 3) := by decide +kernel
theorem d_194_55 : decode (cM 194) 55 = .ok (.iload_n 1, 1) := by decide +kernel
theorem d_194_56 : decode (cM 194) 56 = .ok (.iaload, 1) := by decide +kernel
theorem d_194_57 : decode (cM 194) 57 = .ok (.iconst 2, 1) := by decide +kernel
theorem d_194_58 : decode (cM 194) 58 = .ok (.if_icmp .ne 15, 3) := by decide +kernel
theorem d_194_61 : decode (cM 194) 61 = .ok (.lload_n 2, 1) := by decide +kernel
theorem d_194_62 : decode (cM 194) 62 = .ok (.lconst 0, 1) := by decide +kernel
theorem d_194_63 : decode (cM 194) 63 = .ok (.lcmp, 1) := by decide +kernel
theorem d_194_64 : decode (cM 194) 64 = .ok (.ifCond .ne 7, 3) := by decide +kernel
theorem d_194_67 : decode (cM 194) 67 = .ok (.lconst 1, 1) := by decide +kernel
theorem d_194_68 : decode (cM 194) 68 = .ok (.goto 4, 3) := by decide +kernel
theorem d_194_71 : decode (cM 194) 71 = .ok (.lconst 0, 1) := by decide +kernel
theorem d_194_72 : decode (cM 194) 72 = .ok (.lreturn, 1) := by decide +kernel
theorem d_194_73 : decode (cM 194) 73 = .ok (.aload_n 0, 1) := by decide +kernel
theorem d_194_74 : decode (cM 194) 74 = .ok (.getfield 79, 3) := by decide +kernel
theorem d_194_77 : decode (cM 194) 77 = .ok (.aload_n 0, 1) := by decide +kernel
theorem d_194_78 : decode (cM 194) 78 = .ok (.getfield 66, 3) := by decide +kernel
theorem d_194_81 : decode (cM 194) 81 = .ok (.iload_n 1, 1) := by decide +kernel
theorem d_194_82 : decode (cM 194) 82 = .ok (.iaload, 1) := by decide +kernel
theorem d_194_83 : decode (cM 194) 83 = .ok (.laload, 1) := by decide +kernel
theorem d_194_84 : decode (cM 194) 84 = .ok (.lstore 4, 2) := by decide +kernel
theorem d_194_86 : decode (cM 194) 86 = .ok (.aload_n 0, 1) := by decide +kernel
theorem d_194_87 : decode (cM 194) 87 = .ok (.getfield 60, 3) := by decide +kernel
theorem d_194_90 : decode (cM 194) 90 = .ok (.iload_n 1, 1) := by decide +kernel
theorem d_194_91 : decode (cM 194) 91 = .ok (.iaload, 1) := by decide +kernel
theorem d_194_92 : decode (cM 194) 92 = .ok (.tableswitch 167 3 14 #[64, 83, 167, 167, 167, 167, 167, 167, 102, 111, 120, 128], 64) := by decide +kernel
theorem d_194_156 : decode (cM 194) 156 = .ok (.lload_n 2, 1) := by decide +kernel
theorem d_194_157 : decode (cM 194) 157 = .ok (.lconst 0, 1) := by decide +kernel
theorem d_194_158 : decode (cM 194) 158 = .ok (.lcmp, 1) := by decide +kernel
theorem d_194_159 : decode (cM 194) 159 = .ok (.ifCond .eq 14, 3) := by decide +kernel
theorem d_194_162 : decode (cM 194) 162 = .ok (.lload 4, 2) := by decide +kernel
theorem d_194_164 : decode (cM 194) 164 = .ok (.lconst 0, 1) := by decide +kernel
theorem d_194_165 : decode (cM 194) 165 = .ok (.lcmp, 1) := by decide +kernel
theorem d_194_166 : decode (cM 194) 166 = .ok (.ifCond .eq 7, 3) := by decide +kernel
theorem d_194_169 : decode (cM 194) 169 = .ok (.lconst 1, 1) := by decide +kernel
theorem d_194_170 : decode (cM 194) 170 = .ok (.goto 4, 3) := by decide +kernel
theorem d_194_173 : decode (cM 194) 173 = .ok (.lconst 0, 1) := by decide +kernel
theorem d_194_174 : decode (cM 194) 174 = .ok (.lreturn, 1) := by decide +kernel
theorem d_194_175 : decode (cM 194) 175 = .ok (.lload_n 2, 1) := by decide +kernel
theorem d_194_176 : decode (cM 194) 176 = .ok (.lconst 0, 1) := by decide +kernel
theorem d_194_177 : decode (cM 194) 177 = .ok (.lcmp, 1) := by decide +kernel
theorem d_194_178 : decode (cM 194) 178 = .ok (.ifCond .ne 10, 3) := by decide +kernel
theorem d_194_181 : decode (cM 194) 181 = .ok (.lload 4, 2) := by decide +kernel
theorem d_194_183 : decode (cM 194) 183 = .ok (.lconst 0, 1) := by decide +kernel
theorem d_194_184 : decode (cM 194) 184 = .ok (.lcmp, 1) := by decide +kernel
theorem d_194_185 : decode (cM 194) 185 = .ok (.ifCond .eq 7, 3) := by decide +kernel
theorem d_194_188 : decode (cM 194) 188 = .ok (.lconst 1, 1) := by decide +kernel
theorem d_194_189 : decode (cM 194) 189 = .ok (.goto 4, 3) := by decide +kernel
theorem d_194_192 : decode (cM 194) 192 = .ok (.lconst 0, 1) := by decide +kernel
theorem d_194_193 : decode (cM 194) 193 = .ok (.lreturn, 1) := by decide +kernel
theorem d_194_194 : decode (cM 194) 194 = .ok (.aload_n 0, 1) := by decide +kernel
theorem d_194_195 : decode (cM 194) 195 = .ok (.lload_n 2, 1) := by decide +kernel
theorem d_194_196 : decode (cM 194) 196 = .ok (.lload 4, 2) := by decide +kernel
theorem d_194_198 : decode (cM 194) 198 = .ok (.ladd, 1) := by decide +kernel
theorem d_194_199 : decode (cM 194) 199 = .ok (.invokevirtual 343, 3) := by decide +kernel
theorem kc_194_199 : callT (oM 194) 343 = some (0, 191, 1) ∧ fok 194 191 = true ∧ stM 191 = false := by decide +kernel
theorem d_194_202 : decode (cM 194) 202 = .ok (.lreturn, 1) := by decide +kernel
theorem d_194_203 : decode (cM 194) 203 = .ok (.aload_n 0, 1) := by decide +kernel
theorem d_194_204 : decode (cM 194) 204 = .ok (.lload_n 2, 1) := by decide +kernel
theorem d_194_205 : decode (cM 194) 205 = .ok (.lload 4, 2) := by decide +kernel
theorem d_194_207 : decode (cM 194) 207 = .ok (.lsub, 1) := by decide +kernel
theorem d_194_208 : decode (cM 194) 208 = .ok (.invokevirtual 343, 3) := by decide +kernel
theorem kc_194_208 : callT (oM 194) 343 = some (0, 191, 1) ∧ fok 194 191 = true ∧ stM 191 = false := by decide +kernel
theorem d_194_211 : decode (cM 194) 211 = .ok (.lreturn, 1) := by decide +kernel
theorem d_194_212 : decode (cM 194) 212 = .ok (.aload_n 0, 1) := by decide +kernel
theorem d_194_213 : decode (cM 194) 213 = .ok (.lload_n 2, 1) := by decide +kernel
theorem d_194_214 : decode (cM 194) 214 = .ok (.lload 4, 2) := by decide +kernel
theorem d_194_216 : decode (cM 194) 216 = .ok (.invokevirtual 347, 3) := by decide +kernel
theorem kc_194_216 : callT (oM 194) 347 = some (0, 193, 2) ∧ fok 194 193 = true ∧ stM 193 = false := by decide +kernel
theorem d_194_219 : decode (cM 194) 219 = .ok (.lreturn, 1) := by decide +kernel
theorem d_194_220 : decode (cM 194) 220 = .ok (.aload_n 0, 1) := by decide +kernel
theorem d_194_221 : decode (cM 194) 221 = .ok (.aload_n 0, 1) := by decide +kernel
theorem d_194_222 : decode (cM 194) 222 = .ok (.getfield 336, 3) := by decide +kernel
theorem d_194_225 : decode (cM 194) 225 = .ok (.ifCond .ne 10, 3) := by decide +kernel
theorem d_194_228 : decode (cM 194) 228 = .ok (.lload 4, 2) := by decide +kernel
theorem d_194_230 : decode (cM 194) 230 = .ok (.lconst 0, 1) := by decide +kernel
theorem d_194_231 : decode (cM 194) 231 = .ok (.lcmp, 1) := by decide +kernel
theorem d_194_232 : decode (cM 194) 232 = .ok (.ifCond .ne 7, 3) := by decide +kernel
theorem d_194_235 : decode (cM 194) 235 = .ok (.iconst 1, 1) := by decide +kernel
theorem d_194_236 : decode (cM 194) 236 = .ok (.goto 4, 3) := by decide +kernel
theorem d_194_239 : decode (cM 194) 239 = .ok (.iconst 0, 1) := by decide +kernel
theorem d_194_240 : decode (cM 194) 240 = .ok (.putfield 336, 3) := by decide +kernel
theorem d_194_243 : decode (cM 194) 243 = .ok (.aload_n 0, 1) := by decide +kernel
theorem d_194_244 : decode (cM 194) 244 = .ok (.getfield 336, 3) := by decide +kernel
theorem d_194_247 : decode (cM 194) 247 = .ok (.ifCond .eq 7, 3) := by decide +kernel
theorem d_194_250 : decode (cM 194) 250 = .ok (.lconst 0, 1) := by decide +kernel
theorem d_194_251 : decode (cM 194) 251 = .ok (.goto 7, 3) := by decide +kernel
theorem d_194_254 : decode (cM 194) 254 = .ok (.lload_n 2, 1) := by decide +kernel
theorem d_194_255 : decode (cM 194) 255 = .ok (.lload 4, 2) := by decide +kernel
theorem d_194_257 : decode (cM 194) 257 = .ok (.ldiv, 1) := by decide +kernel
theorem d_194_258 : decode (cM 194) 258 = .ok (.lreturn, 1) := by decide +kernel
theorem d_194_259 : decode (cM 194) 259 = .ok (.aload_n 0, 1) := by decide +kernel
theorem d_194_260 : decode (cM 194) 260 = .ok (.getfield 60, 3) := by decide +kernel
theorem d_194_263 : decode (cM 194) 263 = .ok (.iload_n 1, 1) := by decide +kernel
theorem d_194_264 : decode (cM 194) 264 = .ok (.iaload, 1) := by decide +kernel
theorem d_194_265 : decode (cM 194) 265 = .ok (.lload_n 2, 1) := by decide +kernel
theorem d_194_266 : decode (cM 194) 266 = .ok (.lload 4, 2) := by decide +kernel
theorem d_194_268 : decode (cM 194) 268 = .ok (.invokestatic 351, 3) := by decide +kernel
theorem kc_194_268 : callT (oM 194) 351 = some (1, 192, 3) ∧ fok 194 192 = true ∧ stM 192 = true := by decide +kernel
theorem d_194_271 : decode (cM 194) 271 = .ok (.ifCond .eq 7, 3) := by decide +kernel
theorem d_194_274 : decode (cM 194) 274 = .ok (.lconst 1, 1) := by decide +kernel
theorem d_194_275 : decode (cM 194) 275 = .ok (.goto 4, 3) := by decide +kernel
theorem d_194_278 : decode (cM 194) 278 = .ok (.lconst 0, 1) := by decide +kernel
theorem d_194_279 : decode (cM 194) 279 = .ok (.lreturn, 1) := by decide +kernel
theorem d_195_0 : decode (cM 195) 0 = .ok (.aload_n 0, 1) := by decide +kernel
theorem d_195_1 : decode (cM 195) 1 = .ok (.iconst 0, 1) := by decide +kernel
theorem d_195_2 : decode (cM 195) 2 = .ok (.invokevirtual 355, 3) := by decide +kernel
theorem kc_195_2 : callT (oM 195) 355 = some (0, 196, 1) ∧ fok 195 196 = true ∧ stM 196 = false := by decide +kernel
theorem d_195_5 : decode (cM 195) 5 = .ok (.aload_n 0, 1) := by decide +kernel
theorem d_195_6 : decode (cM 195) 6 = .ok (.aload_n 0, 1) := by decide +kernel
theorem d_195_7 : decode (cM 195) 7 = .ok (.getfield 27, 3) := by decide +kernel
theorem d_195_10 : decode (cM 195) 10 = .ok (.iconst 1, 1) := by decide +kernel
theorem d_195_11 : decode (cM 195) 11 = .ok (.iaload, 1) := by decide +kernel
theorem d_195_12 : decode (cM 195) 12 = .ok (.i2l, 1) := by decide +kernel
theorem d_195_13 : decode (cM 195) 13 = .ok (.putfield 358, 3) := by decide +kernel
theorem d_195_16 : decode (cM 195) 16 = .ok (.aload_n 0, 1) := by decide +kernel
theorem d_195_17 : decode (cM 195) 17 = .ok (.invokevirtual 362, 3) := by decide +kernel
theorem kc_195_17 : callT (oM 195) 362 = some (0, 197, 0) ∧ fok 195 197 = true ∧ stM 197 = false := by decide +kernel
theorem d_195_20 : decode (cM 195) 20 = .ok (.aload_n 0, 1) := by decide +kernel
theorem d_195_21 : decode (cM 195) 21 = .ok (.iconst 0, 1) := by decide +kernel
theorem d_195_22 : decode (cM 195) 22 = .ok (.putfield 365, 3) := by decide +kernel
theorem d_195_25 : decode (cM 195) 25 = .ok (.aload_n 0, 1) := by decide +kernel
theorem d_195_26 : decode (cM 195) 26 = .ok (.iconst (-1), 1) := by decide +kernel
theorem d_195_27 : decode (cM 195) 27 = .ok (.putfield 118, 3) := by decide +kernel
theorem d_195_30 : decode (cM 195) 30 = .ok (.aload_n 0, 1) := by decide +kernel
theorem d_195_31 : decode (cM 195) 31 = .ok (.iconst 0, 1) := by decide +kernel
theorem d_195_32 : decode (cM 195) 32 = .ok (.putfield 368, 3) := by decide +kernel
theorem d_195_35 : decode (cM 195) 35 = .ok (.aload_n 0, 1) := by decide +kernel
theorem d_195_36 : decode (cM 195) 36 = .ok (.iconst 0, 1) := by decide +kernel
theorem d_195_37 : decode (cM 195) 37 = .ok (.putfield 371, 3) := by decide +kernel
theorem d_195_40 : decode (cM 195) 40 = .ok (.return_, 1) := by decide +kernel
theorem d_196_0 : decode (cM 196) 0 = .ok (.aload_n 0, 1) := by decide +kernel
theorem d_196_1 : decode (cM 196) 1 = .ok (.getfield 82, 3) := by decide +kernel
theorem d_196_4 : decode (cM 196) 4 = .ok (.iload_n 1, 1) := by decide +kernel
theorem d_196_5 : decode (cM 196) 5 = .ok (.aload_n 0, 1) := by decide +kernel
theorem d_196_6 : decode (cM 196) 6 = .ok (.getfield 20, 3) := by decide +kernel
theorem d_196_9 : decode (cM 196) 9 = .ok (.iconst 0, 1) := by decide +kernel
theorem d_196_10 : decode (cM 196) 10 = .ok (.iaload, 1) := by decide +kernel
theorem d_196_11 : decode (cM 196) 11 = .ok (.iastore, 1) := by decide +kernel
theorem d_196_12 : decode (cM 196) 12 = .ok (.aload_n 0, 1) := by decide +kernel
theorem d_196_13 : decode (cM 196) 13 = .ok (.getfield 85, 3) := by decide +kernel
theorem d_196_16 : decode (cM 196) 16 = .ok (.iload_n 1, 1) := by decide +kernel
theorem d_196_17 : decode (cM 196) 17 = .ok (.iconst 0, 1) := by decide +kernel
theorem d_196_18 : decode (cM 196) 18 = .ok (.iastore, 1) := by decide +kernel
theorem d_196_19 : decode (cM 196) 19 = .ok (.aload_n 0, 1) := by decide +kernel
theorem d_196_20 : decode (cM 196) 20 = .ok (.getfield 88, 3) := by decide +kernel
theorem d_196_23 : decode (cM 196) 23 = .ok (.iload_n 1, 1) := by decide +kernel
theorem d_196_24 : decode (cM 196) 24 = .ok (.iconst 0, 1) := by decide +kernel
theorem d_196_25 : decode (cM 196) 25 = .ok (.iastore, 1) := by decide +kernel
theorem d_196_26 : decode (cM 196) 26 = .ok (.aload_n 0, 1) := by decide +kernel
theorem d_196_27 : decode (cM 196) 27 = .ok (.getfield 91, 3) := by decide +kernel
theorem d_196_30 : decode (cM 196) 30 = .ok (.iload_n 1, 1) := by decide +kernel
theorem d_196_31 : decode (cM 196) 31 = .ok (.iconst 0, 1) := by decide +kernel
theorem d_196_32 : decode (cM 196) 32 = .ok (.iastore, 1) := by decide +kernel
theorem d_196_33 : decode (cM 196) 33 = .ok (.aload_n 0, 1) := by decide +kernel
theorem d_196_34 : decode (cM 196) 34 = .ok (.getfield 94, 3) := by decide +kernel
theorem d_196_37 : decode (cM 196) 37 = .ok (.iload_n 1, 1) := by decide +kernel
theorem d_196_38 : decode (cM 196) 38 = .ok (.iconst 0, 1) := by decide +kernel
theorem d_196_39 : decode (cM 196) 39 = .ok (.iastore, 1) := by decide +kernel
theorem d_196_40 : decode (cM 196) 40 = .ok (.aload_n 0, 1) := by decide +kernel
theorem d_196_41 : decode (cM 196) 41 = .ok (.getfield 97, 3) := by decide +kernel
theorem d_196_44 : decode (cM 196) 44 = .ok (.iload_n 1, 1) := by decide +kernel
theorem d_196_45 : decode (cM 196) 45 = .ok (.iconst 0, 1) := by decide +kernel
theorem d_196_46 : decode (cM 196) 46 = .ok (.iastore, 1) := by decide +kernel
theorem d_196_47 : decode (cM 196) 47 = .ok (.iconst 0, 1) := by decide +kernel
theorem d_196_48 : decode (cM 196) 48 = .ok (.istore_n 2, 1) := by decide +kernel
theorem d_196_49 : decode (cM 196) 49 = .ok (.iload_n 2, 1) := by decide +kernel
theorem d_196_50 : decode (cM 196) 50 = .ok (.bipush 14, 2) := by decide +kernel
theorem d_196_52 : decode (cM 196) 52 = .ok (.if_icmp .ge 21, 3) := by decide +kernel
theorem d_196_55 : decode (cM 196) 55 = .ok (.aload_n 0, 1) := by decide +kernel
theorem d_196_56 : decode (cM 196) 56 = .ok (.getfield 100, 3) := by decide +kernel
theorem d_196_59 : decode (cM 196) 59 = .ok (.bipush 14, 2) := by decide +kernel
theorem d_196_61 : decode (cM 196) 61 = .ok (.iload_n 1, 1) := by decide +kernel
theorem d_196_62 : decode (cM 196) 62 = .ok (.imul, 1) := by decide +kernel
theorem d_196_63 : decode (cM 196) 63 = .ok (.iload_n 2, 1) := by decide +kernel
theorem d_196_64 : decode (cM 196) 64 = .ok (.iadd, 1) := by decide +kernel
theorem d_196_65 : decode (cM 196) 65 = .ok (.iconst 0, 1) := by decide +kernel
theorem d_196_66 : decode (cM 196) 66 = .ok (.iastore, 1) := by decide +kernel
theorem d_196_67 : decode (cM 196) 67 = .ok (.iinc 2 1, 3) := by decide +kernel
theorem d_196_70 : decode (cM 196) 70 = .ok (.goto (-21), 3) := by decide +kernel
theorem d_196_73 : decode (cM 196) 73 = .ok (.iconst 0, 1) := by decide +kernel
theorem d_196_74 : decode (cM 196) 74 = .ok (.istore_n 2, 1) := by decide +kernel
theorem d_196_75 : decode (cM 196) 75 = .ok (.iload_n 2, 1) := by decide +kernel
theorem d_196_76 : decode (cM 196) 76 = .ok (.bipush 10, 2) := by decide +kernel
theorem d_196_78 : decode (cM 196) 78 = .ok (.if_icmp .ge 38, 3) := by decide +kernel
theorem d_196_81 : decode (cM 196) 81 = .ok (.aload_n 0, 1) := by decide +kernel
theorem d_196_82 : decode (cM 196) 82 = .ok (.getfield 103, 3) := by decide +kernel
theorem d_196_85 : decode (cM 196) 85 = .ok (.bipush 10, 2) := by decide +kernel
theorem d_196_87 : decode (cM 196) 87 = .ok (.iload_n 1, 1) := by decide +kernel
theorem d_196_88 : decode (cM 196) 88 = .ok (.imul, 1) := by decide +kernel
theorem d_196_89 : decode (cM 196) 89 = .ok (.iload_n 2, 1) := by decide +kernel
theorem d_196_90 : decode (cM 196) 90 = .ok (.iadd, 1) := by decide +kernel
theorem d_196_91 : decode (cM 196) 91 = .ok (.aload_n 0, 1) := by decide +kernel
theorem d_196_92 : decode (cM 196) 92 = .ok (.getfield 39, 3) := by decide +kernel
theorem d_196_95 : decode (cM 196) 95 = .ok (.iload_n 2, 1) := by decide +kernel
theorem d_196_96 : decode (cM 196) 96 = .ok (.iaload, 1) := by decide +kernel
theorem d_196_97 : decode (cM 196) 97 = .ok (.iastore, 1) := by decide +kernel
theorem d_196_98 : decode (cM 196) 98 = .ok (.aload_n 0, 1) := by decide +kernel
theorem d_196_99 : decode (cM 196) 99 = .ok (.getfield 106, 3) := by decide +kernel
theorem d_196_102 : decode (cM 196) 102 = .ok (.bipush 10, 2) := by decide +kernel
theorem d_196_104 : decode (cM 196) 104 = .ok (.iload_n 1, 1) := by decide +kernel
theorem d_196_105 : decode (cM 196) 105 = .ok (.imul, 1) := by decide +kernel
theorem d_196_106 : decode (cM 196) 106 = .ok (.iload_n 2, 1) := by decide +kernel
theorem d_196_107 : decode (cM 196) 107 = .ok (.iadd, 1) := by decide +kernel
theorem d_196_108 : decode (cM 196) 108 = .ok (.iconst 0, 1) := by decide +kernel
theorem d_196_109 : decode (cM 196) 109 = .ok (.iastore, 1) := by decide +kernel
theorem d_196_110 : decode (cM 196) 110 = .ok (.iinc 2 1, 3) := by decide +kernel
theorem d_196_113 : decode (cM 196) 113 = .ok (.goto (-38), 3) := by decide +kernel
theorem d_196_116 : decode (cM 196) 116 = .ok (.return_, 1) := by decide +kernel
theorem d_197_0 : decode (cM 197) 0 = .ok (.aload_n 0, 1) := by decide +kernel
theorem d_197_1 : decode (cM 197) 1 = .ok (.iconst 0, 1) := by decide +kernel
theorem d_197_2 : decode (cM 197) 2 = .ok (.putfield 374, 3) := by decide +kernel
theorem d_197_5 : decode (cM 197) 5 = .ok (.aload_n 0, 1) := by decide +kernel
theorem d_197_6 : decode (cM 197) 6 = .ok (.iconst 0, 1) := by decide +kernel
theorem d_197_7 : decode (cM 197) 7 = .ok (.putfield 377, 3) := by decide +kernel
theorem d_197_10 : decode (cM 197) 10 = .ok (.aload_n 0, 1) := by decide +kernel
theorem d_197_11 : decode (cM 197) 11 = .ok (.iconst 0, 1) := by decide +kernel
theorem d_197_12 : decode (cM 197) 12 = .ok (.putfield 380, 3) := by decide +kernel
theorem d_197_15 : decode (cM 197) 15 = .ok (.aload_n 0, 1) := by decide +kernel
theorem d_197_16 : decode (cM 197) 16 = .ok (.iconst 0, 1) := by decide +kernel
theorem d_197_17 : decode (cM 197) 17 = .ok (.putfield 383, 3) := by decide +kernel
theorem d_197_20 : decode (cM 197) 20 = .ok (.aload_n 0, 1) := by decide +kernel
theorem d_197_21 : decode (cM 197) 21 = .ok (.iconst (-1), 1) := by decide +kernel
theorem d_197_22 : decode (cM 197) 22 = .ok (.putfield 386, 3) := by decide +kernel
theorem d_197_25 : decode (cM 197) 25 = .ok (.return_, 1) := by decide +kernel
theorem d_198_0 : decode (cM 198) 0 = .ok (.aload_n 0, 1) := by decide +kernel
theorem d_198_1 : decode (cM 198) 1 = .ok (.getfield 82, 3) := by decide +kernel
theorem d_198_4 : decode (cM 198) 4 = .ok (.iconst 1, 1) := by decide +kernel
theorem d_198_5 : decode (cM 198) 5 = .ok (.aload_n 0, 1) := by decide +kernel
theorem d_198_6 : decode (cM 198) 6 = .ok (.getfield 82, 3) := by decide +kernel
theorem d_198_9 : decode (cM 198) 9 = .ok (.iconst 0, 1) := by decide +kernel
theorem d_198_10 : decode (cM 198) 10 = .ok (.iaload, 1) := by decide +kernel
theorem d_198_11 : decode (cM 198) 11 = .ok (.iastore, 1) := by decide +kernel
theorem d_198_12 : decode (cM 198) 12 = .ok (.aload_n 0, 1) := by decide +kernel
theorem d_198_13 : decode (cM 198) 13 = .ok (.getfield 85, 3) := by decide +kernel
theorem d_198_16 : decode (cM 198) 16 = .ok (.iconst 1, 1) := by decide +kernel
theorem d_198_17 : decode (cM 198) 17 = .ok (.aload_n 0, 1) := by decide +kernel
theorem d_198_18 : decode (cM 198) 18 = .ok (.getfield 85, 3) := by decide +kernel
theorem d_198_21 : decode (cM 198) 21 = .ok (.iconst 0, 1) := by decide +kernel
theorem d_198_22 : decode (cM 198) 22 = .ok (.iaload, 1) := by decide +kernel
theorem d_198_23 : decode (cM 198) 23 = .ok (.iastore, 1) := by decide +kernel
theorem d_198_24 : decode (cM 198) 24 = .ok (.aload_n 0, 1) := by decide +kernel
theorem d_198_25 : decode (cM 198) 25 = .ok (.getfield 88, 3) := by decide +kernel
theorem d_198_28 : decode (cM 198) 28 = .ok (.iconst 1, 1) := by decide +kernel
theorem d_198_29 : decode (cM 198) 29 = .ok (.aload_n 0, 1) := by decide +kernel
theorem d_198_30 : decode (cM 198) 30 = .ok (.getfield 88, 3) := by decide +kernel
theorem d_198_33 : decode (cM 198) 33 = .ok (.iconst 0, 1) := by decide +kernel
theorem d_198_34 : decode (cM 198) 34 = .ok (.iaload, 1) := by decide +kernel
theorem d_198_35 : decode (cM 198) 35 = .ok (.iastore, 1) := by decide +kernel
theorem d_198_36 : decode (cM 198) 36 = .ok (.aload_n 0, 1) := by decide +kernel
theorem d_198_37 : decode (cM 198) 37 = .ok (.getfield 91, 3) := by decide +kernel
theorem d_198_40 : decode (cM 198) 40 = .ok (.iconst 1, 1) := by decide +kernel
theorem d_198_41 : decode (cM 198) 41 = .ok (.aload_n 0, 1) := by decide +kernel
theorem d_198_42 : decode (cM 198) 42 = .ok (.getfield 91, 3) := by decide +kernel
theorem d_198_45 : decode (cM 198) 45 = .ok (.iconst 0, 1) := by decide +kernel
theorem d_198_46 : decode (cM 198) 46 = .ok (.iaload, 1) := by decide +kernel
theorem d_198_47 : decode (cM 198) 47 = .ok (.iastore, 1) := by decide +kernel
theorem d_198_48 : decode (cM 198) 48 = .ok (.aload_n 0, 1) := by decide +kernel
theorem d_198_49 : decode (cM 198) 49 = .ok (.getfield 94, 3) := by decide +kernel
theorem d_198_52 : decode (cM 198) 52 = .ok (.iconst 1, 1) := by decide +kernel
theorem d_198_53 : decode (cM 198) 53 = .ok (.aload_n 0, 1) := by decide +kernel
theorem d_198_54 : decode (cM 198) 54 = .ok (.getfield 94, 3) := by decide +kernel
theorem d_198_57 : decode (cM 198) 57 = .ok (.iconst 0, 1) := by decide +kernel
theorem d_198_58 : decode (cM 198) 58 = .ok (.iaload, 1) := by decide +kernel
theorem d_198_59 : decode (cM 198) 59 = .ok (.iastore, 1) := by decide +kernel
theorem d_198_60 : decode (cM 198) 60 = .ok (.aload_n 0, 1) := by decide +kernel
theorem d_198_61 : decode (cM 198) 61 = .ok (.getfield 97, 3) := by decide +kernel
theorem d_198_64 : decode (cM 198) 64 = .ok (.iconst 1, 1) := by decide +kernel
theorem d_198_65 : decode (cM 198) 65 = .ok (.aload_n 0, 1) := by decide +kernel
theorem d_198_66 : decode (cM 198) 66 = .ok (.getfield 97, 3) := by decide +kernel
theorem d_198_69 : decode (cM 198) 69 = .ok (.iconst 0, 1) := by decide +kernel
theorem d_198_70 : decode (cM 198) 70 = .ok (.iaload, 1) := by decide +kernel
theorem d_198_71 : decode (cM 198) 71 = .ok (.iastore, 1) := by decide +kernel
theorem d_198_72 : decode (cM 198) 72 = .ok (.iconst 0, 1) := by decide +kernel
theorem d_198_73 : decode (cM 198) 73 = .ok (.istore_n 1, 1) := by decide +kernel
theorem d_198_74 : decode (cM 198) 74 = .ok (.iload_n 1, 1) := by decide +kernel
theorem d_198_75 : decode (cM 198) 75 = .ok (.bipush 14, 2) := by decide +kernel
theorem d_198_77 : decode (cM 198) 77 = .ok (.if_icmp .ge 24, 3) := by decide +kernel
theorem d_198_80 : decode (cM 198) 80 = .ok (.aload_n 0, 1) := by decide +kernel
theorem d_198_81 : decode (cM 198) 81 = .ok (.getfield 100, 3) := by decide +kernel
theorem d_198_84 : decode (cM 198) 84 = .ok (.bipush 14, 2) := by decide +kernel
theorem d_198_86 : decode (cM 198) 86 = .ok (.iload_n 1, 1) := by decide +kernel
theorem d_198_87 : decode (cM 198) 87 = .ok (.iadd, 1) := by decide +kernel
theorem d_198_88 : decode (cM 198) 88 = .ok (.aload_n 0, 1) := by decide +kernel
theorem d_198_89 : decode (cM 198) 89 = .ok (.getfield 100, 3) := by decide +kernel
theorem d_198_92 : decode (cM 198) 92 = .ok (.iload_n 1, 1) := by decide +kernel
theorem d_198_93 : decode (cM 198) 93 = .ok (.iaload, 1) := by decide +kernel
theorem d_198_94 : decode (cM 198) 94 = .ok (.iastore, 1) := by decide +kernel
theorem d_198_95 : decode (cM 198) 95 = .ok (.iinc 1 1, 3) := by decide +kernel
theorem d_198_98 : decode (cM 198) 98 = .ok (.goto (-24), 3) := by decide +kernel
theorem d_198_101 : decode (cM 198) 101 = .ok (.iconst 0, 1) := by decide +kernel
theorem d_198_102 : decode (cM 198) 102 = .ok (.istore_n 1, 1) := by decide +kernel
theorem d_198_103 : decode (cM 198) 103 = .ok (.iload_n 1, 1) := by decide +kernel
theorem d_198_104 : decode (cM 198) 104 = .ok (.bipush 10, 2) := by decide +kernel
theorem d_198_106 : decode (cM 198) 106 = .ok (.if_icmp .ge 39, 3) := by decide +kernel
theorem d_198_109 : decode (cM 198) 109 = .ok (.aload_n 0, 1) := by decide +kernel
theorem d_198_110 : decode (cM 198) 110 = .ok (.getfield 103, 3) := by decide +kernel
theorem d_198_113 : decode (cM 198) 113 = .ok (.bipush 10, 2) := by decide +kernel
theorem d_198_115 : decode (cM 198) 115 = .ok (.iload_n 1, 1) := by decide +kernel
theorem d_198_116 : decode (cM 198) 116 = .ok (.iadd, 1) := by decide +kernel
theorem d_198_117 : decode (cM 198) 117 = .ok (.aload_n 0, 1) := by decide +kernel
theorem d_198_118 : decode (cM 198) 118 = .ok (.getfield 103, 3) := by decide +kernel
theorem d_198_121 : decode (cM 198) 121 = .ok (.iload_n 1, 1) := by decide +kernel
theorem d_198_122 : decode (cM 198) 122 = .ok (.iaload, 1) := by decide +kernel
theorem d_198_123 : decode (cM 198) 123 = .ok (.iastore, 1) := by decide +kernel
theorem d_198_124 : decode (cM 198) 124 = .ok (.aload_n 0, 1) := by decide +kernel
theorem d_198_125 : decode (cM 198) 125 = .ok (.getfield 106, 3) := by decide +kernel
theorem d_198_128 : decode (cM 198) 128 = .ok (.bipush 10, 2) := by decide +kernel
theorem d_198_130 : decode (cM 198) 130 = .ok (.iload_n 1, 1) := by decide +kernel
theorem d_198_131 : decode (cM 198) 131 = .ok (.iadd, 1) := by decide +kernel
theorem d_198_132 : decode (cM 198) 132 = .ok (.aload_n 0, 1) := by decide +kernel
theorem d_198_133 : decode (cM 198) 133 = .ok (.getfield 106, 3) := by decide +kernel
theorem d_198_136 : decode (cM 198) 136 = .ok (.iload_n 1, 1) := by decide +kernel
theorem d_198_137 : decode (cM 198) 137 = .ok (.iaload, 1) := by decide +kernel
theorem d_198_138 : decode (cM 198) 138 = .ok (.iastore, 1) := by decide +kernel
theorem d_198_139 : decode (cM 198) 139 = .ok (.iinc 1 1, 3) := by decide +kernel
theorem d_198_142 : decode (cM 198) 142 = .ok (.goto (-39), 3) := by decide +kernel
theorem d_198_145 : decode (cM 198) 145 = .ok (.aload_n 0, 1) := by decide +kernel
theorem d_198_146 : decode (cM 198) 146 = .ok (.invokevirtual 362, 3) := by decide +kernel
theorem kc_198_146 : callT (oM 198) 362 = some (0, 197, 0) ∧ fok 198 197 = true ∧ stM 197 = false := by decide +kernel
theorem d_198_149 : decode (cM 198) 149 = .ok (.return_, 1) := by decide +kernel
theorem d_199_0 : decode (cM 199) 0 = .ok (.iload_n 1, 1) := by decide +kernel
theorem d_199_1 : decode (cM 199) 1 = .ok (.ifCond .lt 15, 3) := by decide +kernel
theorem d_199_4 : decode (cM 199) 4 = .ok (.iload_n 1, 1) := by decide +kernel
theorem d_199_5 : decode (cM 199) 5 = .ok (.aload_n 0, 1) := by decide +kernel
theorem d_199_6 : decode (cM 199) 6 = .ok (.getfield 222, 3) := by decide +kernel
theorem d_199_9 : decode (cM 199) 9 = .ok (.if_icmp .ge 7, 3) := by decide +kernel
theorem d_199_12 : decode (cM 199) 12 = .ok (.iconst 1, 1) := by decide +kernel
theorem d_199_13 : decode (cM 199) 13 = .ok (.goto 4, 3) := by decide +kernel
theorem d_199_16 : decode (cM 199) 16 = .ok (.iconst 0, 1) := by decide +kernel
theorem d_199_17 : decode (cM 199) 17 = .ok (.ireturn, 1) := by decide +kernel
theorem d_200_0 : decode (cM 200) 0 = .ok (.iload_n 1, 1) := by decide +kernel
theorem d_200_1 : decode (cM 200) 1 = .ok (.ifCond .lt 15, 3) := by decide +kernel
theorem d_200_4 : decode (cM 200) 4 = .ok (.iload_n 1, 1) := by decide +kernel
theorem d_200_5 : decode (cM 200) 5 = .ok (.aload_n 0, 1) := by decide +kernel
theorem d_200_6 : decode (cM 200) 6 = .ok (.getfield 225, 3) := by decide +kernel
theorem d_200_9 : decode (cM 200) 9 = .ok (.if_icmp .ge 7, 3) := by decide +kernel
theorem d_200_12 : decode (cM 200) 12 = .ok (.iconst 1, 1) := by decide +kernel
theorem d_200_13 : decode (cM 200) 13 = .ok (.goto 4, 3) := by decide +kernel
theorem d_200_16 : decode (cM 200) 16 = .ok (.iconst 0, 1) := by decide +kernel
theorem d_200_17 : decode (cM 200) 17 = .ok (.ireturn, 1) := by decide +kernel
theorem d_201_0 : decode (cM 201) 0 = .ok (.iload_n 1, 1) := by decide +kernel
theorem d_201_1 : decode (cM 201) 1 = .ok (.ifCond .lt 16, 3) := by decide +kernel
theorem d_201_4 : decode (cM 201) 4 = .ok (.iload_n 1, 1) := by decide +kernel
theorem d_201_5 : decode (cM 201) 5 = .ok (.aload_n 0, 1) := by decide +kernel
theorem d_201_6 : decode (cM 201) 6 = .ok (.getfield 222, 3) := by decide +kernel
theorem d_201_9 : decode (cM 201) 9 = .ok (.ishr, 1) := by decide +kernel
theorem d_201_10 : decode (cM 201) 10 = .ok (.ifCond .ne 7, 3) := by decide +kernel
theorem d_201_13 : decode (cM 201) 13 = .ok (.iconst 1, 1) := by decide +kernel
theorem d_201_14 : decode (cM 201) 14 = .ok (.goto 4, 3) := by decide +kernel
theorem d_201_17 : decode (cM 201) 17 = .ok (.iconst 0, 1) := by decide +kernel
theorem d_201_18 : decode (cM 201) 18 = .ok (.ireturn, 1) := by decide +kernel
theorem d_202_0 : decode (cM 202) 0 = .ok (.iconst 0, 1) := by decide +kernel
theorem d_202_1 : decode (cM 202) 1 = .ok (.istore_n 1, 1) := by decide +kernel
theorem d_202_2 : decode (cM 202) 2 = .ok (.iconst 0, 1) := by decide +kernel
theorem d_202_3 : decode (cM 202) 3 = .ok (.istore_n 2, 1) := by decide +kernel
theorem d_202_4 : decode (cM 202) 4 = .ok (.iload_n 2, 1) := by decide +kernel
theorem d_202_5 : decode (cM 202) 5 = .ok (.bipush 14, 2) := by decide +kernel
theorem d_202_7 : decode (cM 202) 7 = .ok (.if_icmp .ge 17, 3) := by decide +kernel
theorem d_202_10 : decode (cM 202) 10 = .ok (.iload_n 1, 1) := by decide +kernel
theorem d_202_11 : decode (cM 202) 11 = .ok (.iload_n 0, 1) := by decide +kernel
theorem d_202_12 : decode (cM 202) 12 = .ok (.iload_n 2, 1) := by decide +kernel
theorem d_202_13 : decode (cM 202) 13 = .ok (.ishr, 1) := by decide +kernel
theorem d_202_14 : decode (cM 202) 14 = .ok (.iconst 1, 1) := by decide +kernel
theorem d_202_15 : decode (cM 202) 15 = .ok (.iand, 1) := by decide +kernel
theorem d_202_16 : decode (cM 202) 16 = .ok (.iadd, 1) := by decide +kernel
theorem d_202_17 : decode (cM 202) 17 = .ok (.istore_n 1, 1) := by decide +kernel
theorem d_202_18 : decode (cM 202) 18 = .ok (.iinc 2 1, 3) := by decide +kernel
theorem d_202_21 : decode (cM 202) 21 = .ok (.goto (-17), 3) := by decide +kernel
theorem d_202_24 : decode (cM 202) 24 = .ok (.iload_n 1, 1) := by decide +kernel
theorem d_202_25 : decode (cM 202) 25 = .ok (.ireturn, 1) := by decide +kernel
theorem d_203_0 : decode (cM 203) 0 = .ok (.aload_n 0, 1) := by decide +kernel
theorem d_203_1 : decode (cM 203) 1 = .ok (.getfield 82, 3) := by decide +kernel
theorem d_203_4 : decode (cM 203) 4 = .ok (.iload_n 1, 1) := by decide +kernel
theorem d_203_5 : decode (cM 203) 5 = .ok (.iaload, 1) := by decide +kernel
theorem d_203_6 : decode (cM 203) 6 = .ok (.aload_n 0, 1) := by decide +kernel
theorem d_203_7 : decode (cM 203) 7 = .ok (.getfield 85, 3) := by decide +kernel
theorem d_203_10 : decode (cM 203) 10 = .ok (.iload_n 1, 1) := by decide +kernel
theorem d_203_11 : decode (cM 203) 11 = .ok (.iaload, 1) := by decide +kernel
theorem d_203_12 : decode (cM 203) 12 = .ok (.iconst (-1), 1) := by decide +kernel
theorem d_203_13 : decode (cM 203) 13 = .ok (.ixor, 1) := by decide +kernel
theorem d_203_14 : decode (cM 203) 14 = .ok (.iand, 1) := by decide +kernel
theorem d_203_15 : decode (cM 203) 15 = .ok (.ireturn, 1) := by decide +kernel
theorem d_204_0 : decode (cM 204) 0 = .ok (.iconst 0, 1) := by decide +kernel
theorem d_204_1 : decode (cM 204) 1 = .ok (.istore 4, 2) := by decide +kernel
theorem d_204_3 : decode (cM 204) 3 = .ok (.iconst 0, 1) := by decide +kernel
theorem d_204_4 : decode (cM 204) 4 = .ok (.istore 5, 2) := by decide +kernel
theorem d_204_6 : decode (cM 204) 6 = .ok (.iload 5, 2) := by decide +kernel
theorem d_204_8 : decode (cM 204) 8 = .ok (.aload_n 0, 1) := by decide +kernel
theorem d_204_9 : decode (cM 204) 9 = .ok (.getfield 225, 3) := by decide +kernel
theorem d_204_12 : decode (cM 204) 12 = .ok (.if_icmp .ge 50, 3) := by decide +kernel
theorem d_204_15 : decode (cM 204) 15 = .ok (.iload 4, 2) := by decide +kernel
theorem d_204_17 : decode (cM 204) 17 = .ok (.iload_n 3, 1) := by decide +kernel
theorem d_204_18 : decode (cM 204) 18 = .ok (.iload 5, 2) := by decide +kernel
theorem d_204_20 : decode (cM 204) 20 = .ok (.invokestatic 255, 3) := by decide +kernel
theorem kc_204_20 : callT (oM 204) 255 = some (1, 153, 2) ∧ fok 204 153 = true ∧ stM 153 = true := by decide +kernel
theorem d_204_23 : decode (cM 204) 23 = .ok (.ifCond .eq 29, 3) := by decide +kernel
theorem d_204_26 : decode (cM 204) 26 = .ok (.aload_n 0, 1) := by decide +kernel
theorem d_204_27 : decode (cM 204) 27 = .ok (.getfield 103, 3) := by decide +kernel
theorem d_204_30 : decode (cM 204) 30 = .ok (.bipush 10, 2) := by decide +kernel
theorem d_204_32 : decode (cM 204) 32 = .ok (.iload_n 1, 1) := by decide +kernel
theorem d_204_33 : decode (cM 204) 33 = .ok (.imul, 1) := by decide +kernel
theorem d_204_34 : decode (cM 204) 34 = .ok (.iload 5, 2) := by decide +kernel
theorem d_204_36 : decode (cM 204) 36 = .ok (.iadd, 1) := by decide +kernel
theorem d_204_37 : decode (cM 204) 37 = .ok (.iaload, 1) := by decide +kernel
theorem d_204_38 : decode (cM 204) 38 = .ok (.iload_n 2, 1) := by decide +kernel
theorem d_204_39 : decode (cM 204) 39 = .ok (.invokestatic 255, 3) := by decide +kernel
theorem kc_204_39 : callT (oM 204) 255 = some (1, 153, 2) ∧ fok 204 153 = true ∧ stM 153 = true := by decide +kernel
theorem d_204_42 : decode (cM 204) 42 = .ok (.ifCond .eq 10, 3) := by decide +kernel
theorem d_204_45 : decode (cM 204) 45 = .ok (.iconst 1, 1) := by decide +kernel
theorem d_204_46 : decode (cM 204) 46 = .ok (.iload 5, 2) := by decide +kernel
theorem d_204_48 : decode (cM 204) 48 = .ok (.ishl, 1) := by decide +kernel
theorem d_204_49 : decode (cM 204) 49 = .ok (.goto 4, 3) := by decide +kernel
theorem d_204_52 : decode (cM 204) 52 = .ok (.iconst 0, 1) := by decide +kernel
theorem d_204_53 : decode (cM 204) 53 = .ok (.ior, 1) := by decide +kernel
theorem d_204_54 : decode (cM 204) 54 = .ok (.istore 4, 2) := by decide +kernel
theorem d_204_56 : decode (cM 204) 56 = .ok (.iinc 5 1, 3) := by decide +kernel
theorem d_204_59 : decode (cM 204) 59 = .ok (.goto (-53), 3) := by decide +kernel
theorem d_204_62 : decode (cM 204) 62 = .ok (.iload 4, 2) := by decide +kernel
theorem d_204_64 : decode (cM 204) 64 = .ok (.ireturn, 1) := by decide +kernel
theorem d_205_0 : decode (cM 205) 0 = .ok (.aload_n 0, 1) := by decide +kernel
theorem d_205_1 : decode (cM 205) 1 = .ok (.getfield 75, 3) := by decide +kernel
theorem d_205_4 : decode (cM 205) 4 = .ok (.iconst 2, 1) := by decide +kernel
theorem d_205_5 : decode (cM 205) 5 = .ok (.aload_n 0, 1) := by decide +kernel
theorem d_205_6 : decode (cM 205) 6 = .ok (.iload_n 1, 1) := by decide +kernel
theorem d_205_7 : decode (cM 205) 7 = .ok (.invokevirtual 389, 3) := by decide +kernel
theorem kc_205_7 : callT (oM 205) 389 = some (0, 203, 1) ∧ fok 205 203 = true ∧ stM 203 = false := by decide +kernel
theorem d_205_10 : decode (cM 205) 10 = .ok (.invokestatic 392, 3) := by decide +kernel
theorem kc_205_10 : callT (oM 205) 392 = some (1, 202, 1) ∧ fok 205 202 = true ∧ stM 202 = true := by decide +kernel
theorem d_205_13 : decode (cM 205) 13 = .ok (.i2l, 1) := by decide +kernel
theorem d_205_14 : decode (cM 205) 14 = .ok (.lastore, 1) := by decide +kernel
theorem d_205_15 : decode (cM 205) 15 = .ok (.aload_n 0, 1) := by decide +kernel
theorem d_205_16 : decode (cM 205) 16 = .ok (.getfield 75, 3) := by decide +kernel
theorem d_205_19 : decode (cM 205) 19 = .ok (.iconst 4, 1) := by decide +kernel
theorem d_205_20 : decode (cM 205) 20 = .ok (.aload_n 0, 1) := by decide +kernel
theorem d_205_21 : decode (cM 205) 21 = .ok (.getfield 85, 3) := by decide +kernel
theorem d_205_24 : decode (cM 205) 24 = .ok (.iload_n 1, 1) := by decide +kernel
theorem d_205_25 : decode (cM 205) 25 = .ok (.iaload, 1) := by decide +kernel
theorem d_205_26 : decode (cM 205) 26 = .ok (.invokestatic 392, 3) := by decide +kernel
theorem kc_205_26 : callT (oM 205) 392 = some (1, 202, 1) ∧ fok 205 202 = true ∧ stM 202 = true := by decide +kernel
theorem d_205_29 : decode (cM 205) 29 = .ok (.i2l, 1) := by decide +kernel
theorem d_205_30 : decode (cM 205) 30 = .ok (.lastore, 1) := by decide +kernel
theorem d_205_31 : decode (cM 205) 31 = .ok (.aload_n 0, 1) := by decide +kernel
theorem d_205_32 : decode (cM 205) 32 = .ok (.getfield 75, 3) := by decide +kernel
theorem d_205_35 : decode (cM 205) 35 = .ok (.bipush 6, 2) := by decide +kernel
theorem d_205_37 : decode (cM 205) 37 = .ok (.aload_n 0, 1) := by decide +kernel
theorem d_205_38 : decode (cM 205) 38 = .ok (.getfield 97, 3) := by decide +kernel
theorem d_205_41 : decode (cM 205) 41 = .ok (.iload_n 1, 1) := by decide +kernel
theorem d_205_42 : decode (cM 205) 42 = .ok (.iaload, 1) := by decide +kernel
theorem d_205_43 : decode (cM 205) 43 = .ok (.i2l, 1) := by decide +kernel
theorem d_205_44 : decode (cM 205) 44 = .ok (.lastore, 1) := by decide +kernel
theorem d_205_45 : decode (cM 205) 45 = .ok (.return_, 1) := by decide +kernel
theorem d_206_0 : decode (cM 206) 0 = .ok (.aload_n 0, 1) := by decide +kernel
theorem d_206_1 : decode (cM 206) 1 = .ok (.iload_n 1, 1) := by decide +kernel
theorem d_206_2 : decode (cM 206) 2 = .ok (.invokevirtual 395, 3) := by decide +kernel
theorem kc_206_2 : callT (oM 206) 395 = some (0, 205, 1) ∧ fok 206 205 = true ∧ stM 205 = false := by decide +kernel
theorem d_206_5 : decode (cM 206) 5 = .ok (.aload_n 0, 1) := by decide +kernel
theorem d_206_6 : decode (cM 206) 6 = .ok (.getfield 75, 3) := by decide +kernel
theorem d_206_9 : decode (cM 206) 9 = .ok (.iconst 0, 1) := by decide +kernel
theorem d_206_10 : decode (cM 206) 10 = .ok (.aload_n 0, 1) := by decide +kernel
theorem d_206_11 : decode (cM 206) 11 = .ok (.getfield 36, 3) := by decide +kernel
theorem d_206_14 : decode (cM 206) 14 = .ok (.iload_n 2, 1) := by decide +kernel
theorem d_206_15 : decode (cM 206) 15 = .ok (.iaload, 1) := by decide +kernel
theorem d_206_16 : decode (cM 206) 16 = .ok (.i2l, 1) := by decide +kernel
theorem d_206_17 : decode (cM 206) 17 = .ok (.lastore, 1) := by decide +kernel
theorem d_206_18 : decode (cM 206) 18 = .ok (.aload_n 0, 1) := by decide +kernel
theorem d_206_19 : decode (cM 206) 19 = .ok (.getfield 75, 3) := by decide +kernel
theorem d_206_22 : decode (cM 206) 22 = .ok (.iconst 1, 1) := by decide +kernel
theorem d_206_23 : decode (cM 206) 23 = .ok (.aload_n 0, 1) := by decide +kernel
theorem d_206_24 : decode (cM 206) 24 = .ok (.getfield 106, 3) := by decide +kernel
theorem d_206_27 : decode (cM 206) 27 = .ok (.bipush 10, 2) := by decide +kernel
theorem d_206_29 : decode (cM 206) 29 = .ok (.iload_n 1, 1) := by decide +kernel
theorem d_206_30 : decode (cM 206) 30 = .ok (.imul, 1) := by decide +kernel
theorem d_206_31 : decode (cM 206) 31 = .ok (.iload_n 2, 1) := by decide +kernel
theorem d_206_32 : decode (cM 206) 32 = .ok (.iadd, 1) := by decide +kernel
theorem d_206_33 : decode (cM 206) 33 = .ok (.iaload, 1) := by decide +kernel
theorem d_206_34 : decode (cM 206) 34 = .ok (.i2l, 1) := by decide +kernel
theorem d_206_35 : decode (cM 206) 35 = .ok (.lastore, 1) := by decide +kernel
theorem d_206_36 : decode (cM 206) 36 = .ok (.aload_n 0, 1) := by decide +kernel
theorem d_206_37 : decode (cM 206) 37 = .ok (.getfield 75, 3) := by decide +kernel
theorem d_206_40 : decode (cM 206) 40 = .ok (.iconst 3, 1) := by decide +kernel
theorem d_206_41 : decode (cM 206) 41 = .ok (.aload_n 0, 1) := by decide +kernel
theorem d_206_42 : decode (cM 206) 42 = .ok (.getfield 103, 3) := by decide +kernel
theorem d_206_45 : decode (cM 206) 45 = .ok (.bipush 10, 2) := by decide +kernel
theorem d_206_47 : decode (cM 206) 47 = .ok (.iload_n 1, 1) := by decide +kernel
theorem d_206_48 : decode (cM 206) 48 = .ok (.imul, 1) := by decide +kernel
theorem d_206_49 : decode (cM 206) 49 = .ok (.iload_n 2, 1) := by decide +kernel
theorem d_206_50 : decode (cM 206) 50 = .ok (.iadd, 1) := by decide +kernel
theorem d_206_51 : decode (cM 206) 51 = .ok (.iaload, 1) := by decide +kernel
theorem d_206_52 : decode (cM 206) 52 = .ok (.invokestatic 392, 3) := by decide +kernel
theorem kc_206_52 : callT (oM 206) 392 = some (1, 202, 1) ∧ fok 206 202 = true ∧ stM 202 = true := by decide +kernel
theorem d_206_55 : decode (cM 206) 55 = .ok (.i2l, 1) := by decide +kernel
theorem d_206_56 : decode (cM 206) 56 = .ok (.lastore, 1) := by decide +kernel
theorem d_206_57 : decode (cM 206) 57 = .ok (.aload_n 0, 1) := by decide +kernel
theorem d_206_58 : decode (cM 206) 58 = .ok (.getfield 75, 3) := by decide +kernel
theorem d_206_61 : decode (cM 206) 61 = .ok (.iconst 5, 1) := by decide +kernel
theorem d_206_62 : decode (cM 206) 62 = .ok (.lconst 0, 1) := by decide +kernel
theorem d_206_63 : decode (cM 206) 63 = .ok (.lastore, 1) := by decide +kernel
theorem d_206_64 : decode (cM 206) 64 = .ok (.return_, 1) := by decide +kernel
theorem d_207_0 : decode (cM 207) 0 = .ok (.aload_n 0, 1) := by decide +kernel
theorem d_207_1 : decode (cM 207) 1 = .ok (.iload_n 1, 1) := by decide +kernel
theorem d_207_2 : decode (cM 207) 2 = .ok (.invokevirtual 395, 3) := by decide +kernel
theorem kc_207_2 : callT (oM 207) 395 = some (0, 205, 1) ∧ fok 207 205 = true ∧ stM 205 = false := by decide +kernel
theorem d_207_5 : decode (cM 207) 5 = .ok (.aload_n 0, 1) := by decide +kernel
theorem d_207_6 : decode (cM 207) 6 = .ok (.getfield 75, 3) := by decide +kernel
theorem d_207_9 : decode (cM 207) 9 = .ok (.iconst 0, 1) := by decide +kernel
theorem d_207_10 : decode (cM 207) 10 = .ok (.lconst 0, 1) := by decide +kernel
theorem d_207_11 : decode (cM 207) 11 = .ok (.lastore, 1) := by decide +kernel
theorem d_207_12 : decode (cM 207) 12 = .ok (.aload_n 0, 1) := by decide +kernel
theorem d_207_13 : decode (cM 207) 13 = .ok (.getfield 75, 3) := by decide +kernel
theorem d_207_16 : decode (cM 207) 16 = .ok (.iconst 1, 1) := by decide +kernel
theorem d_207_17 : decode (cM 207) 17 = .ok (.lconst 0, 1) := by decide +kernel
theorem d_207_18 : decode (cM 207) 18 = .ok (.lastore, 1) := by decide +kernel
theorem d_207_19 : decode (cM 207) 19 = .ok (.aload_n 0, 1) := by decide +kernel
theorem d_207_20 : decode (cM 207) 20 = .ok (.getfield 75, 3) := by decide +kernel
theorem d_207_23 : decode (cM 207) 23 = .ok (.iconst 3, 1) := by decide +kernel
theorem d_207_24 : decode (cM 207) 24 = .ok (.aload_n 0, 1) := by decide +kernel
theorem d_207_25 : decode (cM 207) 25 = .ok (.iload_n 1, 1) := by decide +kernel
theorem d_207_26 : decode (cM 207) 26 = .ok (.iload_n 2, 1) := by decide +kernel
theorem d_207_27 : decode (cM 207) 27 = .ok (.sipush 1023, 3) := by decide +kernel
theorem d_207_30 : decode (cM 207) 30 = .ok (.invokevirtual 398, 3) := by decide +kernel
theorem kc_207_30 : callT (oM 207) 398 = some (0, 204, 3) ∧ fok 207 204 = true ∧ stM 204 = false := by decide +kernel
theorem d_207_33 : decode (cM 207) 33 = .ok (.invokestatic 392, 3) := by decide +kernel
theorem kc_207_33 : callT (oM 207) 392 = some (1, 202, 1) ∧ fok 207 202 = true ∧ stM 202 = true := by decide +kernel
theorem d_207_36 : decode (cM 207) 36 = .ok (.i2l, 1) := by decide +kernel
theorem d_207_37 : decode (cM 207) 37 = .ok (.lastore, 1) := by decide +kernel
theorem d_207_38 : decode (cM 207) 38 = .ok (.aload_n 0, 1) := by decide +kernel
theorem d_207_39 : decode (cM 207) 39 = .ok (.getfield 75, 3) := by decide +kernel
theorem d_207_42 : decode (cM 207) 42 = .ok (.iconst 5, 1) := by decide +kernel
theorem d_207_43 : decode (cM 207) 43 = .ok (.aload_n 0, 1) := by decide +kernel
theorem d_207_44 : decode (cM 207) 44 = .ok (.getfield 100, 3) := by decide +kernel
theorem d_207_47 : decode (cM 207) 47 = .ok (.bipush 14, 2) := by decide +kernel
theorem d_207_49 : decode (cM 207) 49 = .ok (.iload_n 1, 1) := by decide +kernel
theorem d_207_50 : decode (cM 207) 50 = .ok (.imul, 1) := by decide +kernel
theorem d_207_51 : decode (cM 207) 51 = .ok (.iload_n 2, 1) := by decide +kernel
theorem d_207_52 : decode (cM 207) 52 = .ok (.iadd, 1) := by decide +kernel
theorem d_207_53 : decode (cM 207) 53 = .ok (.iaload, 1) := by decide +kernel
theorem d_207_54 : decode (cM 207) 54 = .ok (.i2l, 1) := by decide +kernel
theorem d_207_55 : decode (cM 207) 55 = .ok (.lastore, 1) := by decide +kernel
theorem d_207_56 : decode (cM 207) 56 = .ok (.return_, 1) := by decide +kernel
theorem d_208_0 : decode (cM 208) 0 = .ok (.aload_n 0, 1) := by decide +kernel
theorem d_208_1 : decode (cM 208) 1 = .ok (.iconst 0, 1) := by decide +kernel
theorem d_208_2 : decode (cM 208) 2 = .ok (.putfield 336, 3) := by decide +kernel
theorem d_208_5 : decode (cM 208) 5 = .ok (.aload_n 0, 1) := by decide +kernel
theorem d_208_6 : decode (cM 208) 6 = .ok (.getfield 54, 3) := by decide +kernel
theorem d_208_9 : decode (cM 208) 9 = .ok (.iload_n 1, 1) := by decide +kernel
theorem d_208_10 : decode (cM 208) 10 = .ok (.iaload, 1) := by decide +kernel
theorem d_208_11 : decode (cM 208) 11 = .ok (.istore_n 2, 1) := by decide +kernel
theorem d_208_12 : decode (cM 208) 12 = .ok (.iload_n 2, 1) := by decide +kernel
theorem d_208_13 : decode (cM 208) 13 = .ok (.aload_n 0, 1) := by decide +kernel
theorem d_208_14 : decode (cM 208) 14 = .ok (.getfield 57, 3) := by decide +kernel
theorem d_208_17 : decode (cM 208) 17 = .ok (.iload_n 1, 1) := by decide +kernel
theorem d_208_18 : decode (cM 208) 18 = .ok (.iaload, 1) := by decide +kernel
theorem d_208_19 : decode (cM 208) 19 = .ok (.if_icmp .ge 20, 3) := by decide +kernel
theorem d_208_22 : decode (cM 208) 22 = .ok (.aload_n 0, 1) := by decide +kernel
theorem d_208_23 : decode (cM 208) 23 = .ok (.getfield 79, 3) := by decide +kernel
theorem d_208_26 : decode (cM 208) 26 = .ok (.iload_n 2, 1) := by decide +kernel
theorem d_208_27 : decode (cM 208) 27 = .ok (.aload_n 0, 1) := by decide +kernel
theorem d_208_28 : decode (cM 208) 28 = .ok (.iload_n 2, 1) := by decide +kernel
theorem d_208_29 : decode (cM 208) 29 = .ok (.invokevirtual 402, 3) := by decide +kernel
theorem kc_208_29 : callT (oM 208) 402 = some (0, 194, 1) ∧ fok 208 194 = true ∧ stM 194 = false := by decide +kernel
theorem d_208_32 : decode (cM 208) 32 = .ok (.lastore, 1) := by decide +kernel
theorem d_208_33 : decode (cM 208) 33 = .ok (.iinc 2 1, 3) := by decide +kernel
theorem d_208_36 : decode (cM 208) 36 = .ok (.goto (-24), 3) := by decide +kernel
theorem d_208_39 : decode (cM 208) 39 = .ok (.aload_n 0, 1) := by decide +kernel
theorem d_208_40 : decode (cM 208) 40 = .ok (.getfield 336, 3) := by decide +kernel
theorem d_208_43 : decode (cM 208) 43 = .ok (.ifCond .eq 7, 3) := by decide +kernel
theorem d_208_46 : decode (cM 208) 46 = .ok (.lconst 0, 1) := by decide +kernel
theorem d_208_47 : decode (cM 208) 47 = .ok (.goto 16, 3) := by decide +kernel
theorem d_208_50 : decode (cM 208) 50 = .ok (.aload_n 0, 1) := by decide +kernel
theorem d_208_51 : decode (cM 208) 51 = .ok (.getfield 79, 3) := by decide +kernel
theorem d_208_54 : decode (cM 208) 54 = .ok (.aload_n 0, 1) := by decide +kernel
theorem d_208_55 : decode (cM 208) 55 = .ok (.getfield 57, 3) := by decide +kernel
theorem d_208_58 : decode (cM 208) 58 = .ok (.iload_n 1, 1) := by decide +kernel
theorem d_208_59 : decode (cM 208) 59 = .ok (.iaload, 1) := by decide +kernel
theorem d_208_60 : decode (cM 208) 60 = .ok (.iconst 1, 1) := by decide +kernel
theorem d_208_61 : decode (cM 208) 61 = .ok (.isub, 1) := by decide +kernel
theorem d_208_62 : decode (cM 208) 62 = .ok (.laload, 1) := by decide +kernel
theorem d_208_63 : decode (cM 208) 63 = .ok (.lreturn, 1) := by decide +kernel
theorem d_209_0 : decode (cM 209) 0 = .ok (.aload_n 0, 1) := by decide +kernel
theorem d_209_1 : decode (cM 209) 1 = .ok (.getfield 51, 3) := by decide +kernel
theorem d_209_4 : decode (cM 209) 4 = .ok (.iload_n 1, 1) := by decide +kernel
theorem d_209_5 : decode (cM 209) 5 = .ok (.baload, 1) := by decide +kernel
theorem d_209_6 : decode (cM 209) 6 = .ok (.ifCond .ne 5, 3) := by decide +kernel
theorem d_209_9 : decode (cM 209) 9 = .ok (.iload_n 2, 1) := by decide +kernel
theorem d_209_10 : decode (cM 209) 10 = .ok (.ireturn, 1) := by decide +kernel
theorem d_209_11 : decode (cM 209) 11 = .ok (.aload_n 0, 1) := by decide +kernel
theorem d_209_12 : decode (cM 209) 12 = .ok (.iload_n 1, 1) := by decide +kernel
theorem d_209_13 : decode (cM 209) 13 = .ok (.invokevirtual 406, 3) := by decide +kernel
theorem kc_209_13 : callT (oM 209) 406 = some (0, 208, 1) ∧ fok 209 208 = true ∧ stM 208 = false := by decide +kernel
theorem d_209_16 : decode (cM 209) 16 = .ok (.lstore 4, 2) := by decide +kernel
theorem d_209_18 : decode (cM 209) 18 = .ok (.aload_n 0, 1) := by decide +kernel
theorem d_209_19 : decode (cM 209) 19 = .ok (.getfield 336, 3) := by decide +kernel
theorem d_209_22 : decode (cM 209) 22 = .ok (.ifCond .eq 5, 3) := by decide +kernel
theorem d_209_25 : decode (cM 209) 25 = .ok (.iload_n 2, 1) := by decide +kernel
theorem d_209_26 : decode (cM 209) 26 = .ok (.ireturn, 1) := by decide +kernel
theorem d_209_27 : decode (cM 209) 27 = .ok (.lload 4, 2) := by decide +kernel
theorem d_209_29 : decode (cM 209) 29 = .ok (.lconst 0, 1) := by decide +kernel
theorem d_209_30 : decode (cM 209) 30 = .ok (.lcmp, 1) := by decide +kernel
theorem d_209_31 : decode (cM 209) 31 = .ok (.ifCond .ge 7, 3) := by decide +kernel
theorem d_209_34 : decode (cM 209) 34 = .ok (.iconst 0, 1) := by decide +kernel
theorem d_209_35 : decode (cM 209) 35 = .ok (.goto 18, 3) := by decide +kernel
theorem d_209_38 : decode (cM 209) 38 = .ok (.lload 4, 2) := by decide +kernel
theorem d_209_40 : decode (cM 209) 40 = .ok (.iload_n 3, 1) := by decide +kernel
theorem d_209_41 : decode (cM 209) 41 = .ok (.i2l, 1) := by decide +kernel
theorem d_209_42 : decode (cM 209) 42 = .ok (.lcmp, 1) := by decide +kernel
theorem d_209_43 : decode (cM 209) 43 = .ok (.ifCond .le 7, 3) := by decide +kernel
theorem d_209_46 : decode (cM 209) 46 = .ok (.iload_n 3, 1) := by decide +kernel
theorem d_209_47 : decode (cM 209) 47 = .ok (.goto 6, 3) := by decide +kernel
theorem d_209_50 : decode (cM 209) 50 = .ok (.lload 4, 2) := by decide +kernel
theorem d_209_52 : decode (cM 209) 52 = .ok (.l2i, 1) := by decide +kernel
theorem d_209_53 : decode (cM 209) 53 = .ok (.ireturn, 1) := by decide +kernel
theorem d_210_0 : decode (cM 210) 0 = .ok (.bipush 10, 2) := by decide +kernel
theorem d_210_2 : decode (cM 210) 2 = .ok (.iload_n 1, 1) := by decide +kernel
theorem d_210_3 : decode (cM 210) 3 = .ok (.imul, 1) := by decide +kernel
theorem d_210_4 : decode (cM 210) 4 = .ok (.iload_n 2, 1) := by decide +kernel
theorem d_210_5 : decode (cM 210) 5 = .ok (.iadd, 1) := by decide +kernel
theorem d_210_6 : decode (cM 210) 6 = .ok (.istore_n 3, 1) := by decide +kernel
theorem d_210_7 : decode (cM 210) 7 = .ok (.aload_n 0, 1) := by decide +kernel
theorem d_210_8 : decode (cM 210) 8 = .ok (.iload_n 1, 1) := by decide +kernel
theorem d_210_9 : decode (cM 210) 9 = .ok (.iload_n 2, 1) := by decide +kernel
theorem d_210_10 : decode (cM 210) 10 = .ok (.invokevirtual 409, 3) := by decide +kernel
theorem kc_210_10 : callT (oM 210) 409 = some (0, 206, 2) ∧ fok 210 206 = true ∧ stM 206 = false := by decide +kernel
theorem d_210_13 : decode (cM 210) 13 = .ok (.aload_n 0, 1) := by decide +kernel
theorem d_210_14 : decode (cM 210) 14 = .ok (.iconst 0, 1) := by decide +kernel
theorem d_210_15 : decode (cM 210) 15 = .ok (.aload_n 0, 1) := by decide +kernel
theorem d_210_16 : decode (cM 210) 16 = .ok (.getfield 36, 3) := by decide +kernel
theorem d_210_19 : decode (cM 210) 19 = .ok (.iload_n 2, 1) := by decide +kernel
theorem d_210_20 : decode (cM 210) 20 = .ok (.iaload, 1) := by decide +kernel
theorem d_210_21 : decode (cM 210) 21 = .ok (.sipush 999, 3) := by decide +kernel
theorem d_210_24 : decode (cM 210) 24 = .ok (.invokevirtual 413, 3) := by decide +kernel
theorem kc_210_24 : callT (oM 210) 413 = some (0, 209, 3) ∧ fok 210 209 = true ∧ stM 209 = false := by decide +kernel
theorem d_210_27 : decode (cM 210) 27 = .ok (.istore 4, 2) := by decide +kernel
theorem d_210_29 : decode (cM 210) 29 = .ok (.aload_n 0, 1) := by decide +kernel
theorem d_210_30 : decode (cM 210) 30 = .ok (.getfield 82, 3) := by decide +kernel
theorem d_210_33 : decode (cM 210) 33 = .ok (.iload_n 1, 1) := by decide +kernel
theorem d_210_34 : decode (cM 210) 34 = .ok (.dup2, 1) := by decide +kernel
theorem d_210_35 : decode (cM 210) 35 = .ok (.iaload, 1) := by decide +kernel
theorem d_210_36 : decode (cM 210) 36 = .ok (.aload_n 0, 1) := by decide +kernel
theorem d_210_37 : decode (cM 210) 37 = .ok (.getfield 103, 3) := by decide +kernel
theorem d_210_40 : decode (cM 210) 40 = .ok (.iload_n 3, 1) := by decide +kernel
theorem d_210_41 : decode (cM 210) 41 = .ok (.iaload, 1) := by decide +kernel
theorem d_210_42 : decode (cM 210) 42 = .ok (.ixor, 1) := by decide +kernel
theorem d_210_43 : decode (cM 210) 43 = .ok (.iastore, 1) := by decide +kernel
theorem d_210_44 : decode (cM 210) 44 = .ok (.aload_n 0, 1) := by decide +kernel
theorem d_210_45 : decode (cM 210) 45 = .ok (.getfield 91, 3) := by decide +kernel
theorem d_210_48 : decode (cM 210) 48 = .ok (.iload_n 1, 1) := by decide +kernel
theorem d_210_49 : decode (cM 210) 49 = .ok (.aload_n 0, 1) := by decide +kernel
theorem d_210_50 : decode (cM 210) 50 = .ok (.getfield 91, 3) := by decide +kernel
theorem d_210_53 : decode (cM 210) 53 = .ok (.iload_n 1, 1) := by decide +kernel
theorem d_210_54 : decode (cM 210) 54 = .ok (.iaload, 1) := by decide +kernel
theorem d_210_55 : decode (cM 210) 55 = .ok (.iload 4, 2) := by decide +kernel
theorem d_210_57 : decode (cM 210) 57 = .ok (.iadd, 1) := by decide +kernel
theorem d_210_58 : decode (cM 210) 58 = .ok (.ldc 180, 2) := by decide +kernel
theorem d_210_60 : decode (cM 210) 60 = .ok (.if_icmp .ge 15, 3) := by decide +kernel
theorem d_210_63 : decode (cM 210) 63 = .ok (.aload_n 0, 1) := by decide +kernel
theorem d_210_64 : decode (cM 210) 64 = .ok (.getfield 91, 3) := by decide +kernel
theorem d_210_67 : decode (cM 210) 67 = .ok (.iload_n 1, 1) := by decide +kernel
theorem d_210_68 : decode (cM 210) 68 = .ok (.iaload, 1) := by decide +kernel
theorem d_210_69 : decode (cM 210) 69 = .ok (.iload 4, 2) := by decide +kernel
theorem d_210_71 : decode (cM 210) 71 = .ok (.iadd, 1) := by decide +kernel
theorem d_210_72 : decode (cM 210) 72 = .ok (.goto 5, 3) := by decide +kernel
theorem d_210_75 : decode (cM 210) 75 = .ok (.ldc 180, 2) := by decide +kernel
theorem d_210_77 : decode (cM 210) 77 = .ok (.iastore, 1) := by decide +kernel
theorem d_210_78 : decode (cM 210) 78 = .ok (.aload_n 0, 1) := by decide +kernel
theorem d_210_79 : decode (cM 210) 79 = .ok (.getfield 106, 3) := by decide +kernel
theorem d_210_82 : decode (cM 210) 82 = .ok (.iload_n 3, 1) := by decide +kernel
theorem d_210_83 : decode (cM 210) 83 = .ok (.aload_n 0, 1) := by decide +kernel
theorem d_210_84 : decode (cM 210) 84 = .ok (.getfield 106, 3) := by decide +kernel
theorem d_210_87 : decode (cM 210) 87 = .ok (.iload_n 3, 1) := by decide +kernel
theorem d_210_88 : decode (cM 210) 88 = .ok (.iaload, 1) := by decide +kernel
theorem d_210_89 : decode (cM 210) 89 = .ok (.sipush 999, 3) := by decide +kernel
theorem d_210_92 : decode (cM 210) 92 = .ok (.if_icmp .ge 14, 3) := by decide +kernel
theorem d_210_95 : decode (cM 210) 95 = .ok (.aload_n 0, 1) := by decide +kernel
theorem d_210_96 : decode (cM 210) 96 = .ok (.getfield 106, 3) := by decide +kernel
theorem d_210_99 : decode (cM 210) 99 = .ok (.iload_n 3, 1) := by decide +kernel
theorem d_210_100 : decode (cM 210) 100 = .ok (.iaload, 1) := by decide +kernel
theorem d_210_101 : decode (cM 210) 101 = .ok (.iconst 1, 1) := by decide +kernel
theorem d_210_102 : decode (cM 210) 102 = .ok (.iadd, 1) := by decide +kernel
theorem d_210_103 : decode (cM 210) 103 = .ok (.goto 6, 3) := by decide +kernel
theorem d_210_106 : decode (cM 210) 106 = .ok (.sipush 999, 3) := by decide +kernel
theorem d_210_109 : decode (cM 210) 109 = .ok (.iastore, 1) := by decide +kernel
theorem d_210_110 : decode (cM 210) 110 = .ok (.aload_n 0, 1) := by decide +kernel
theorem d_210_111 : decode (cM 210) 111 = .ok (.getfield 51, 3) := by decide +kernel
theorem d_210_114 : decode (cM 210) 114 = .ok (.iconst 1, 1) := by decide +kernel
theorem d_210_115 : decode (cM 210) 115 = .ok (.baload, 1) := by decide +kernel
theorem d_210_116 : decode (cM 210) 116 = .ok (.ifCond .eq 10, 3) := by decide +kernel
theorem d_210_119 : decode (cM 210) 119 = .ok (.aload_n 0, 1) := by decide +kernel
theorem d_210_120 : decode (cM 210) 120 = .ok (.getfield 380, 3) := by decide +kernel
theorem d_210_123 : decode (cM 210) 123 = .ok (.ifCond .eq 4, 3) := by decide +kernel
theorem d_210_126 : decode (cM 210) 126 = .ok (.return_, 1) := by decide +kernel
theorem d_210_127 : decode (cM 210) 127 = .ok (.aload_n 0, 1) := by decide +kernel
theorem d_210_128 : decode (cM 210) 128 = .ok (.iload_n 1, 1) := by decide +kernel
theorem d_210_129 : decode (cM 210) 129 = .ok (.iload_n 2, 1) := by decide +kernel
theorem d_210_130 : decode (cM 210) 130 = .ok (.invokevirtual 409, 3) := by decide +kernel
theorem kc_210_130 : callT (oM 210) 409 = some (0, 206, 2) ∧ fok 210 206 = true ∧ stM 206 = false := by decide +kernel
theorem d_210_133 : decode (cM 210) 133 = .ok (.aload_n 0, 1) := by decide +kernel
theorem d_210_134 : decode (cM 210) 134 = .ok (.iconst 1, 1) := by decide +kernel
theorem d_210_135 : decode (cM 210) 135 = .ok (.invokevirtual 406, 3) := by decide +kernel
theorem kc_210_135 : callT (oM 210) 406 = some (0, 208, 1) ∧ fok 210 208 = true ∧ stM 208 = false := by decide +kernel
theorem d_210_138 : decode (cM 210) 138 = .ok (.lconst 0, 1) := by decide +kernel
theorem d_210_139 : decode (cM 210) 139 = .ok (.lcmp, 1) := by decide +kernel
theorem d_210_140 : decode (cM 210) 140 = .ok (.ifCond .eq 15, 3) := by decide +kernel
theorem d_210_143 : decode (cM 210) 143 = .ok (.aload_n 0, 1) := by decide +kernel
theorem d_210_144 : decode (cM 210) 144 = .ok (.getfield 88, 3) := by decide +kernel
theorem d_210_147 : decode (cM 210) 147 = .ok (.iload_n 1, 1) := by decide +kernel
theorem d_210_148 : decode (cM 210) 148 = .ok (.dup2, 1) := by decide +kernel
theorem d_210_149 : decode (cM 210) 149 = .ok (.iaload, 1) := by decide +kernel
theorem d_210_150 : decode (cM 210) 150 = .ok (.iconst 1, 1) := by decide +kernel
theorem d_210_151 : decode (cM 210) 151 = .ok (.iload_n 2, 1) := by decide +kernel
theorem d_210_152 : decode (cM 210) 152 = .ok (.ishl, 1) := by decide +kernel
theorem d_210_153 : decode (cM 210) 153 = .ok (.ior, 1) := by decide +kernel
theorem d_210_154 : decode (cM 210) 154 = .ok (.iastore, 1) := by decide +kernel
theorem d_210_155 : decode (cM 210) 155 = .ok (.return_, 1) := by decide +kernel
theorem d_211_0 : decode (cM 211) 0 = .ok (.aload_n 0, 1) := by decide +kernel
theorem d_211_1 : decode (cM 211) 1 = .ok (.aload_n 0, 1) := by decide +kernel
theorem d_211_2 : decode (cM 211) 2 = .ok (.getfield 358, 3) := by decide +kernel
theorem d_211_5 : decode (cM 211) 5 = .ok (.ldc2_w 416, 3) := by decide +kernel
theorem d_211_8 : decode (cM 211) 8 = .ok (.lmul, 1) := by decide +kernel
theorem d_211_9 : decode (cM 211) 9 = .ok (.ldc2_w 418, 3) := by decide +kernel
theorem d_211_12 : decode (cM 211) 12 = .ok (.ladd, 1) := by decide +kernel
theorem d_211_13 : decode (cM 211) 13 = .ok (.ldc2_w 420, 3) := by decide +kernel
theorem d_211_16 : decode (cM 211) 16 = .ok (.land, 1) := by decide +kernel
theorem d_211_17 : decode (cM 211) 17 = .ok (.putfield 358, 3) := by decide +kernel
theorem d_211_20 : decode (cM 211) 20 = .ok (.aload_n 0, 1) := by decide +kernel
theorem d_211_21 : decode (cM 211) 21 = .ok (.getfield 358, 3) := by decide +kernel
theorem d_211_24 : decode (cM 211) 24 = .ok (.ldc2_w 422, 3) := by decide +kernel
theorem d_211_27 : decode (cM 211) 27 = .ok (.ldiv, 1) := by decide +kernel
theorem d_211_28 : decode (cM 211) 28 = .ok (.iload_n 1, 1) := by decide +kernel
theorem d_211_29 : decode (cM 211) 29 = .ok (.i2l, 1) := by decide +kernel
theorem d_211_30 : decode (cM 211) 30 = .ok (.lrem, 1) := by decide +kernel
theorem d_211_31 : decode (cM 211) 31 = .ok (.l2i, 1) := by decide +kernel
theorem d_211_32 : decode (cM 211) 32 = .ok (.ireturn, 1) := by decide +kernel
theorem d_212_0 : decode (cM 212) 0 = .ok (.aload_n 0, 1) := by decide +kernel
theorem d_212_1 : decode (cM 212) 1 = .ok (.getfield 377, 3) := by decide +kernel
theorem d_212_4 : decode (cM 212) 4 = .ok (.ifCond .eq 5, 3) := by decide +kernel
theorem d_212_7 : decode (cM 212) 7 = .ok (.iconst 0, 1) := by decide +kernel
theorem d_212_8 : decode (cM 212) 8 = .ok (.ireturn, 1) := by decide +kernel
theorem d_212_9 : decode (cM 212) 9 = .ok (.aload_n 0, 1) := by decide +kernel
theorem d_212_10 : decode (cM 212) 10 = .ok (.iload_n 1, 1) := by decide +kernel
theorem d_212_11 : decode (cM 212) 11 = .ok (.iload_n 2, 1) := by decide +kernel
theorem d_212_12 : decode (cM 212) 12 = .ok (.invokevirtual 424, 3) := by decide +kernel
theorem kc_212_12 : callT (oM 212) 424 = some (0, 207, 2) ∧ fok 212 207 = true ∧ stM 207 = false := by decide +kernel
theorem d_212_15 : decode (cM 212) 15 = .ok (.aload_n 0, 1) := by decide +kernel
theorem d_212_16 : decode (cM 212) 16 = .ok (.iconst 2, 1) := by decide +kernel
theorem d_212_17 : decode (cM 212) 17 = .ok (.aload_n 0, 1) := by decide +kernel
theorem d_212_18 : decode (cM 212) 18 = .ok (.getfield 27, 3) := by decide +kernel
theorem d_212_21 : decode (cM 212) 21 = .ok (.iconst 0, 1) := by decide +kernel
theorem d_212_22 : decode (cM 212) 22 = .ok (.iaload, 1) := by decide +kernel
theorem d_212_23 : decode (cM 212) 23 = .ok (.bipush 100, 2) := by decide +kernel
theorem d_212_25 : decode (cM 212) 25 = .ok (.invokevirtual 413, 3) := by decide +kernel
theorem kc_212_25 : callT (oM 212) 413 = some (0, 209, 3) ∧ fok 212 209 = true ∧ stM 209 = false := by decide +kernel
theorem d_212_28 : decode (cM 212) 28 = .ok (.istore_n 3, 1) := by decide +kernel
theorem d_212_29 : decode (cM 212) 29 = .ok (.iload_n 3, 1) := by decide +kernel
theorem d_212_30 : decode (cM 212) 30 = .ok (.ifCond .eq 9, 3) := by decide +kernel
theorem d_212_33 : decode (cM 212) 33 = .ok (.iload_n 3, 1) := by decide +kernel
theorem d_212_34 : decode (cM 212) 34 = .ok (.bipush 100, 2) := by decide +kernel
theorem d_212_36 : decode (cM 212) 36 = .ok (.if_icmp .ne 15, 3) := by decide +kernel
theorem d_212_39 : decode (cM 212) 39 = .ok (.iload_n 3, 1) := by decide +kernel
theorem d_212_40 : decode (cM 212) 40 = .ok (.bipush 100, 2) := by decide +kernel
theorem d_212_42 : decode (cM 212) 42 = .ok (.if_icmp .ne 7, 3) := by decide +kernel
theorem d_212_45 : decode (cM 212) 45 = .ok (.iconst 1, 1) := by decide +kernel
theorem d_212_46 : decode (cM 212) 46 = .ok (.goto 4, 3) := by decide +kernel
theorem d_212_49 : decode (cM 212) 49 = .ok (.iconst 0, 1) := by decide +kernel
theorem d_212_50 : decode (cM 212) 50 = .ok (.ireturn, 1) := by decide +kernel
theorem d_212_51 : decode (cM 212) 51 = .ok (.aload_n 0, 1) := by decide +kernel
theorem d_212_52 : decode (cM 212) 52 = .ok (.getfield 374, 3) := by decide +kernel
theorem d_212_55 : decode (cM 212) 55 = .ok (.ifCond .eq 21, 3) := by decide +kernel
theorem d_212_58 : decode (cM 212) 58 = .ok (.aload_n 0, 1) := by decide +kernel
theorem d_212_59 : decode (cM 212) 59 = .ok (.bipush 100, 2) := by decide +kernel
theorem d_212_61 : decode (cM 212) 61 = .ok (.invokevirtual 427, 3) := by decide +kernel
theorem kc_212_61 : callT (oM 212) 427 = some (0, 211, 1) ∧ fok 212 211 = true ∧ stM 211 = false := by decide +kernel
theorem d_212_64 : decode (cM 212) 64 = .ok (.iload_n 3, 1) := by decide +kernel
theorem d_212_65 : decode (cM 212) 65 = .ok (.if_icmp .ge 7, 3) := by decide +kernel
theorem d_212_68 : decode (cM 212) 68 = .ok (.iconst 1, 1) := by decide +kernel
theorem d_212_69 : decode (cM 212) 69 = .ok (.goto 18, 3) := by decide +kernel
theorem d_212_72 : decode (cM 212) 72 = .ok (.iconst 0, 1) := by decide +kernel
theorem d_212_73 : decode (cM 212) 73 = .ok (.goto 14, 3) := by decide +kernel
theorem d_212_76 : decode (cM 212) 76 = .ok (.iload_n 3, 1) := by decide +kernel
theorem d_212_77 : decode (cM 212) 77 = .ok (.bipush 50, 2) := by decide +kernel
theorem d_212_79 : decode (cM 212) 79 = .ok (.if_icmp .lt 7, 3) := by decide +kernel
theorem d_212_82 : decode (cM 212) 82 = .ok (.iconst 1, 1) := by decide +kernel
theorem d_212_83 : decode (cM 212) 83 = .ok (.goto 4, 3) := by decide +kernel
theorem d_212_86 : decode (cM 212) 86 = .ok (.iconst 0, 1) := by decide +kernel
theorem d_212_87 : decode (cM 212) 87 = .ok (.ireturn, 1) := by decide +kernel
theorem d_213_0 : decode (cM 213) 0 = .ok (.iconst 0, 1) := by decide +kernel
theorem d_213_1 : decode (cM 213) 1 = .ok (.istore_n 2, 1) := by decide +kernel
theorem d_213_2 : decode (cM 213) 2 = .ok (.iload_n 2, 1) := by decide +kernel
theorem d_213_3 : decode (cM 213) 3 = .ok (.aload_n 0, 1) := by decide +kernel
theorem d_213_4 : decode (cM 213) 4 = .ok (.getfield 231, 3) := by decide +kernel
theorem d_213_7 : decode (cM 213) 7 = .ok (.if_icmp .ge 48, 3) := by decide +kernel
theorem d_213_10 : decode (cM 213) 10 = .ok (.aload_n 0, 1) := by decide +kernel
theorem d_213_11 : decode (cM 213) 11 = .ok (.getfield 383, 3) := by decide +kernel
theorem d_213_14 : decode (cM 213) 14 = .ok (.ifCond .ne 41, 3) := by decide +kernel
theorem d_213_17 : decode (cM 213) 17 = .ok (.aload_n 0, 1) := by decide +kernel
theorem d_213_18 : decode (cM 213) 18 = .ok (.getfield 48, 3) := by decide +kernel
theorem d_213_21 : decode (cM 213) 21 = .ok (.iload_n 2, 1) := by decide +kernel
theorem d_213_22 : decode (cM 213) 22 = .ok (.iaload, 1) := by decide +kernel
theorem d_213_23 : decode (cM 213) 23 = .ok (.aload_n 0, 1) := by decide +kernel
theorem d_213_24 : decode (cM 213) 24 = .ok (.getfield 97, 3) := by decide +kernel
theorem d_213_27 : decode (cM 213) 27 = .ok (.iload_n 1, 1) := by decide +kernel
theorem d_213_28 : decode (cM 213) 28 = .ok (.iaload, 1) := by decide +kernel
theorem d_213_29 : decode (cM 213) 29 = .ok (.if_icmp .eq 6, 3) := by decide +kernel
theorem d_213_32 : decode (cM 213) 32 = .ok (.goto 17, 3) := by decide +kernel
theorem d_213_35 : decode (cM 213) 35 = .ok (.aload_n 0, 1) := by decide +kernel
theorem d_213_36 : decode (cM 213) 36 = .ok (.getfield 88, 3) := by decide +kernel
theorem d_213_39 : decode (cM 213) 39 = .ok (.iload_n 1, 1) := by decide +kernel
theorem d_213_40 : decode (cM 213) 40 = .ok (.iconst 0, 1) := by decide +kernel
theorem d_213_41 : decode (cM 213) 41 = .ok (.iastore, 1) := by decide +kernel
theorem d_213_42 : decode (cM 213) 42 = .ok (.aload_n 0, 1) := by decide +kernel
theorem d_213_43 : decode (cM 213) 43 = .ok (.getfield 85, 3) := by decide +kernel
theorem d_213_46 : decode (cM 213) 46 = .ok (.iload_n 1, 1) := by decide +kernel
theorem d_213_47 : decode (cM 213) 47 = .ok (.iconst 0, 1) := by decide +kernel
theorem d_213_48 : decode (cM 213) 48 = .ok (.iastore, 1) := by decide +kernel
theorem d_213_49 : decode (cM 213) 49 = .ok (.iinc 2 1, 3) := by decide +kernel
theorem d_213_52 : decode (cM 213) 52 = .ok (.goto (-50), 3) := by decide +kernel
theorem d_213_55 : decode (cM 213) 55 = .ok (.iconst 0, 1) := by decide +kernel
theorem d_213_56 : decode (cM 213) 56 = .ok (.istore_n 2, 1) := by decide +kernel
theorem d_213_57 : decode (cM 213) 57 = .ok (.iload_n 2, 1) := by decide +kernel
theorem d_213_58 : decode (cM 213) 58 = .ok (.aload_n 0, 1) := by decide +kernel
theorem d_213_59 : decode (cM 213) 59 = .ok (.getfield 228, 3) := by decide +kernel
theorem d_213_62 : decode (cM 213) 62 = .ok (.if_icmp .ge 82, 3) := by decide +kernel
theorem d_213_65 : decode (cM 213) 65 = .ok (.aload_n 0, 1) := by decide +kernel
theorem d_213_66 : decode (cM 213) 66 = .ok (.getfield 45, 3) := by decide +kernel
theorem d_213_69 : decode (cM 213) 69 = .ok (.iload_n 2, 1) := by decide +kernel
theorem d_213_70 : decode (cM 213) 70 = .ok (.iaload, 1) := by decide +kernel
theorem d_213_71 : decode (cM 213) 71 = .ok (.aload_n 0, 1) := by decide +kernel
theorem d_213_72 : decode (cM 213) 72 = .ok (.getfield 97, 3) := by decide +kernel
theorem d_213_75 : decode (cM 213) 75 = .ok (.iload_n 1, 1) := by decide +kernel
theorem d_213_76 : decode (cM 213) 76 = .ok (.iaload, 1) := by decide +kernel
theorem d_213_77 : decode (cM 213) 77 = .ok (.if_icmp .ne 61, 3) := by decide +kernel
theorem d_213_80 : decode (cM 213) 80 = .ok (.aload_n 0, 1) := by decide +kernel
theorem d_213_81 : decode (cM 213) 81 = .ok (.getfield 42, 3) := by decide +kernel
theorem d_213_84 : decode (cM 213) 84 = .ok (.iload_n 2, 1) := by decide +kernel
theorem d_213_85 : decode (cM 213) 85 = .ok (.iaload, 1) := by decide +kernel
theorem d_213_86 : decode (cM 213) 86 = .ok (.aload_n 0, 1) := by decide +kernel
theorem d_213_87 : decode (cM 213) 87 = .ok (.getfield 386, 3) := by decide +kernel
theorem d_213_90 : decode (cM 213) 90 = .ok (.if_icmp .ne 6, 3) := by decide +kernel
theorem d_213_93 : decode (cM 213) 93 = .ok (.goto 45, 3) := by decide +kernel
theorem d_213_96 : decode (cM 213) 96 = .ok (.aload_n 0, 1) := by decide +kernel
theorem d_213_97 : decode (cM 213) 97 = .ok (.getfield 88, 3) := by decide +kernel
theorem d_213_100 : decode (cM 213) 100 = .ok (.iload_n 1, 1) := by decide +kernel
theorem d_213_101 : decode (cM 213) 101 = .ok (.iaload, 1) := by decide +kernel
theorem d_213_102 : decode (cM 213) 102 = .ok (.aload_n 0, 1) := by decide +kernel
theorem d_213_103 : decode (cM 213) 103 = .ok (.getfield 42, 3) := by decide +kernel
theorem d_213_106 : decode (cM 213) 106 = .ok (.iload_n 2, 1) := by decide +kernel
theorem d_213_107 : decode (cM 213) 107 = .ok (.iaload, 1) := by decide +kernel
theorem d_213_108 : decode (cM 213) 108 = .ok (.invokestatic 255, 3) := by decide +kernel
theorem kc_213_108 : callT (oM 213) 255 = some (1, 153, 2) ∧ fok 213 153 = true ∧ stM 153 = true := by decide +kernel
theorem d_213_111 : decode (cM 213) 111 = .ok (.ifCond .eq 16, 3) := by decide +kernel
theorem d_213_114 : decode (cM 213) 114 = .ok (.aload_n 0, 1) := by decide +kernel
theorem d_213_115 : decode (cM 213) 115 = .ok (.getfield 94, 3) := by decide +kernel
theorem d_213_118 : decode (cM 213) 118 = .ok (.iload_n 1, 1) := by decide +kernel
theorem d_213_119 : decode (cM 213) 119 = .ok (.dup2, 1) := by decide +kernel
theorem d_213_120 : decode (cM 213) 120 = .ok (.iaload, 1) := by decide +kernel
theorem d_213_121 : decode (cM 213) 121 = .ok (.iconst 1, 1) := by decide +kernel
theorem d_213_122 : decode (cM 213) 122 = .ok (.iadd, 1) := by decide +kernel
theorem d_213_123 : decode (cM 213) 123 = .ok (.iastore, 1) := by decide +kernel
theorem d_213_124 : decode (cM 213) 124 = .ok (.goto 14, 3) := by decide +kernel
theorem d_213_127 : decode (cM 213) 127 = .ok (.aload_n 0, 1) := by decide +kernel
theorem d_213_128 : decode (cM 213) 128 = .ok (.iload_n 1, 1) := by decide +kernel
theorem d_213_129 : decode (cM 213) 129 = .ok (.aload_n 0, 1) := by decide +kernel
theorem d_213_130 : decode (cM 213) 130 = .ok (.getfield 42, 3) := by decide +kernel
theorem d_213_133 : decode (cM 213) 133 = .ok (.iload_n 2, 1) := by decide +kernel
theorem d_213_134 : decode (cM 213) 134 = .ok (.iaload, 1) := by decide +kernel
theorem d_213_135 : decode (cM 213) 135 = .ok (.invokevirtual 430, 3) := by decide +kernel
theorem kc_213_135 : callT (oM 213) 430 = some (0, 210, 2) ∧ fok 213 210 = true ∧ stM 210 = false := by decide +kernel
theorem d_213_138 : decode (cM 213) 138 = .ok (.iinc 2 1, 3) := by decide +kernel
theorem d_213_141 : decode (cM 213) 141 = .ok (.goto (-84), 3) := by decide +kernel
theorem d_213_144 : decode (cM 213) 144 = .ok (.iconst 0, 1) := by decide +kernel
theorem d_213_145 : decode (cM 213) 145 = .ok (.istore_n 2, 1) := by decide +kernel
theorem d_213_146 : decode (cM 213) 146 = .ok (.iload_n 2, 1) := by decide +kernel
theorem d_213_147 : decode (cM 213) 147 = .ok (.aload_n 0, 1) := by decide +kernel
theorem d_213_148 : decode (cM 213) 148 = .ok (.getfield 222, 3) := by decide +kernel
theorem d_213_151 : decode (cM 213) 151 = .ok (.if_icmp .ge 84, 3) := by decide +kernel
theorem d_213_154 : decode (cM 213) 154 = .ok (.bipush 14, 2) := by decide +kernel
theorem d_213_156 : decode (cM 213) 156 = .ok (.iload_n 1, 1) := by decide +kernel
theorem d_213_157 : decode (cM 213) 157 = .ok (.imul, 1) := by decide +kernel
theorem d_213_158 : decode (cM 213) 158 = .ok (.iload_n 2, 1) := by decide +kernel
theorem d_213_159 : decode (cM 213) 159 = .ok (.iadd, 1) := by decide +kernel
theorem d_213_160 : decode (cM 213) 160 = .ok (.istore_n 3, 1) := by decide +kernel
theorem d_213_161 : decode (cM 213) 161 = .ok (.aload_n 0, 1) := by decide +kernel
theorem d_213_162 : decode (cM 213) 162 = .ok (.iload_n 1, 1) := by decide +kernel
theorem d_213_163 : decode (cM 213) 163 = .ok (.invokevirtual 389, 3) := by decide +kernel
theorem kc_213_163 : callT (oM 213) 389 = some (0, 203, 1) ∧ fok 213 203 = true ∧ stM 203 = false := by decide +kernel
theorem d_213_166 : decode (cM 213) 166 = .ok (.iload_n 2, 1) := by decide +kernel
theorem d_213_167 : decode (cM 213) 167 = .ok (.invokestatic 255, 3) := by decide +kernel
theorem kc_213_167 : callT (oM 213) 255 = some (1, 153, 2) ∧ fok 213 153 = true ∧ stM 153 = true := by decide +kernel
theorem d_213_170 : decode (cM 213) 170 = .ok (.ifCond .ne 6, 3) := by decide +kernel
theorem d_213_173 : decode (cM 213) 173 = .ok (.goto 56, 3) := by decide +kernel
theorem d_213_176 : decode (cM 213) 176 = .ok (.aload_n 0, 1) := by decide +kernel
theorem d_213_177 : decode (cM 213) 177 = .ok (.getfield 100, 3) := by decide +kernel
theorem d_213_180 : decode (cM 213) 180 = .ok (.iload_n 3, 1) := by decide +kernel
theorem d_213_181 : decode (cM 213) 181 = .ok (.aload_n 0, 1) := by decide +kernel
theorem d_213_182 : decode (cM 213) 182 = .ok (.getfield 100, 3) := by decide +kernel
theorem d_213_185 : decode (cM 213) 185 = .ok (.iload_n 3, 1) := by decide +kernel
theorem d_213_186 : decode (cM 213) 186 = .ok (.iaload, 1) := by decide +kernel
theorem d_213_187 : decode (cM 213) 187 = .ok (.sipush 999, 3) := by decide +kernel
theorem d_213_190 : decode (cM 213) 190 = .ok (.if_icmp .ge 14, 3) := by decide +kernel
theorem d_213_193 : decode (cM 213) 193 = .ok (.aload_n 0, 1) := by decide +kernel
theorem d_213_194 : decode (cM 213) 194 = .ok (.getfield 100, 3) := by decide +kernel
theorem d_213_197 : decode (cM 213) 197 = .ok (.iload_n 3, 1) := by decide +kernel
theorem d_213_198 : decode (cM 213) 198 = .ok (.iaload, 1) := by decide +kernel
theorem d_213_199 : decode (cM 213) 199 = .ok (.iconst 1, 1) := by decide +kernel
theorem d_213_200 : decode (cM 213) 200 = .ok (.iadd, 1) := by decide +kernel
theorem d_213_201 : decode (cM 213) 201 = .ok (.goto 6, 3) := by decide +kernel
theorem d_213_204 : decode (cM 213) 204 = .ok (.sipush 999, 3) := by decide +kernel
theorem d_213_207 : decode (cM 213) 207 = .ok (.iastore, 1) := by decide +kernel
theorem d_213_208 : decode (cM 213) 208 = .ok (.aload_n 0, 1) := by decide +kernel
theorem d_213_209 : decode (cM 213) 209 = .ok (.iload_n 1, 1) := by decide +kernel
theorem d_213_210 : decode (cM 213) 210 = .ok (.iload_n 2, 1) := by decide +kernel
theorem d_213_211 : decode (cM 213) 211 = .ok (.invokevirtual 433, 3) := by decide +kernel
theorem kc_213_211 : callT (oM 213) 433 = some (0, 212, 2) ∧ fok 213 212 = true ∧ stM 212 = false := by decide +kernel
theorem d_213_214 : decode (cM 213) 214 = .ok (.ifCond .eq 15, 3) := by decide +kernel
theorem d_213_217 : decode (cM 213) 217 = .ok (.aload_n 0, 1) := by decide +kernel
theorem d_213_218 : decode (cM 213) 218 = .ok (.getfield 85, 3) := by decide +kernel
theorem d_213_221 : decode (cM 213) 221 = .ok (.iload_n 1, 1) := by decide +kernel
theorem d_213_222 : decode (cM 213) 222 = .ok (.dup2, 1) := by decide +kernel
theorem d_213_223 : decode (cM 213) 223 = .ok (.iaload, 1) := by decide +kernel
theorem d_213_224 : decode (cM 213) 224 = .ok (.iconst 1, 1) := by decide +kernel
theorem d_213_225 : decode (cM 213) 225 = .ok (.iload_n 2, 1) := by decide +kernel
theorem d_213_226 : decode (cM 213) 226 = .ok (.ishl, 1) := by decide +kernel
theorem d_213_227 : decode (cM 213) 227 = .ok (.ior, 1) := by decide +kernel
theorem d_213_228 : decode (cM 213) 228 = .ok (.iastore, 1) := by decide +kernel
theorem d_213_229 : decode (cM 213) 229 = .ok (.iinc 2 1, 3) := by decide +kernel
theorem d_213_232 : decode (cM 213) 232 = .ok (.goto (-86), 3) := by decide +kernel
theorem d_213_235 : decode (cM 213) 235 = .ok (.aload_n 0, 1) := by decide +kernel
theorem d_213_236 : decode (cM 213) 236 = .ok (.getfield 97, 3) := by decide +kernel
theorem d_213_239 : decode (cM 213) 239 = .ok (.iload_n 1, 1) := by decide +kernel
theorem d_213_240 : decode (cM 213) 240 = .ok (.dup2, 1) := by decide +kernel
theorem d_213_241 : decode (cM 213) 241 = .ok (.iaload, 1) := by decide +kernel
theorem d_213_242 : decode (cM 213) 242 = .ok (.iconst 1, 1) := by decide +kernel
theorem d_213_243 : decode (cM 213) 243 = .ok (.iadd, 1) := by decide +kernel
theorem d_213_244 : decode (cM 213) 244 = .ok (.iastore, 1) := by decide +kernel
theorem d_213_245 : decode (cM 213) 245 = .ok (.return_, 1) := by decide +kernel
theorem d_214_0 : decode (cM 214) 0 = .ok (.iconst 0, 1) := by decide +kernel
theorem d_214_1 : decode (cM 214) 1 = .ok (.istore_n 2, 1) := by decide +kernel
theorem d_214_2 : decode (cM 214) 2 = .ok (.iload_n 2, 1) := by decide +kernel
theorem d_214_3 : decode (cM 214) 3 = .ok (.iload_n 1, 1) := by decide +kernel
theorem d_214_4 : decode (cM 214) 4 = .ok (.if_icmp .ge 14, 3) := by decide +kernel
theorem d_214_7 : decode (cM 214) 7 = .ok (.aload_n 0, 1) := by decide +kernel
theorem d_214_8 : decode (cM 214) 8 = .ok (.iconst 1, 1) := by decide +kernel
theorem d_214_9 : decode (cM 214) 9 = .ok (.invokevirtual 436, 3) := by decide +kernel
theorem kc_214_9 : callT (oM 214) 436 = some (0, 213, 1) ∧ fok 214 213 = true ∧ stM 213 = false := by decide +kernel
theorem d_214_12 : decode (cM 214) 12 = .ok (.iinc 2 1, 3) := by decide +kernel
theorem d_214_15 : decode (cM 214) 15 = .ok (.goto (-13), 3) := by decide +kernel
theorem d_214_18 : decode (cM 214) 18 = .ok (.return_, 1) := by decide +kernel
theorem d_215_0 : decode (cM 215) 0 = .ok (.aload_n 0, 1) := by decide +kernel
theorem d_215_1 : decode (cM 215) 1 = .ok (.iload_n 1, 1) := by decide +kernel
theorem d_215_2 : decode (cM 215) 2 = .ok (.putfield 142, 3) := by decide +kernel
theorem d_215_5 : decode (cM 215) 5 = .ok (.iconst 0, 1) := by decide +kernel
theorem d_215_6 : decode (cM 215) 6 = .ok (.ireturn, 1) := by decide +kernel
theorem d_216_0 : decode (cM 216) 0 = .ok (.aload_n 0, 1) := by decide +kernel
theorem d_216_1 : decode (cM 216) 1 = .ok (.iconst 0, 1) := by decide +kernel
theorem d_216_2 : decode (cM 216) 2 = .ok (.putfield 142, 3) := by decide +kernel
theorem d_216_5 : decode (cM 216) 5 = .ok (.aload_n 0, 1) := by decide +kernel
theorem d_216_6 : decode (cM 216) 6 = .ok (.iload_n 1, 1) := by decide +kernel
theorem d_216_7 : decode (cM 216) 7 = .ok (.invokevirtual 439, 3) := by decide +kernel
theorem kc_216_7 : callT (oM 216) 439 = some (0, 199, 1) ∧ fok 216 199 = true ∧ stM 199 = false := by decide +kernel
theorem d_216_10 : decode (cM 216) 10 = .ok (.ifCond .ne 9, 3) := by decide +kernel
theorem d_216_13 : decode (cM 216) 13 = .ok (.aload_n 0, 1) := by decide +kernel
theorem d_216_14 : decode (cM 216) 14 = .ok (.iconst 1, 1) := by decide +kernel
theorem d_216_15 : decode (cM 216) 15 = .ok (.invokevirtual 442, 3) := by decide +kernel
theorem kc_216_15 : callT (oM 216) 442 = some (0, 215, 1) ∧ fok 216 215 = true ∧ stM 215 = false := by decide +kernel
theorem d_216_18 : decode (cM 216) 18 = .ok (.ireturn, 1) := by decide +kernel
theorem d_216_19 : decode (cM 216) 19 = .ok (.iload_n 2, 1) := by decide +kernel
theorem d_216_20 : decode (cM 216) 20 = .ok (.tableswitch 71 0 3 #[32, 43, 54, 61], 32) := by decide +kernel
theorem d_216_52 : decode (cM 216) 52 = .ok (.aload_n 0, 1) := by decide +kernel
theorem d_216_53 : decode (cM 216) 53 = .ok (.getfield 82, 3) := by decide +kernel
theorem d_216_56 : decode (cM 216) 56 = .ok (.iconst 0, 1) := by decide +kernel
theorem d_216_57 : decode (cM 216) 57 = .ok (.iaload, 1) := by decide +kernel
theorem d_216_58 : decode (cM 216) 58 = .ok (.iload_n 1, 1) := by decide +kernel
theorem d_216_59 : decode (cM 216) 59 = .ok (.ishr, 1) := by decide +kernel
theorem d_216_60 : decode (cM 216) 60 = .ok (.iconst 1, 1) := by decide +kernel
theorem d_216_61 : decode (cM 216) 61 = .ok (.iand, 1) := by decide +kernel
theorem d_216_62 : decode (cM 216) 62 = .ok (.ireturn, 1) := by decide +kernel
theorem d_216_63 : decode (cM 216) 63 = .ok (.aload_n 0, 1) := by decide +kernel
theorem d_216_64 : decode (cM 216) 64 = .ok (.getfield 85, 3) := by decide +kernel
theorem d_216_67 : decode (cM 216) 67 = .ok (.iconst 0, 1) := by decide +kernel
theorem d_216_68 : decode (cM 216) 68 = .ok (.iaload, 1) := by decide +kernel
theorem d_216_69 : decode (cM 216) 69 = .ok (.iload_n 1, 1) := by decide +kernel
theorem d_216_70 : decode (cM 216) 70 = .ok (.ishr, 1) := by decide +kernel
theorem d_216_71 : decode (cM 216) 71 = .ok (.iconst 1, 1) := by decide +kernel
theorem d_216_72 : decode (cM 216) 72 = .ok (.iand, 1) := by decide +kernel
theorem d_216_73 : decode (cM 216) 73 = .ok (.ireturn, 1) := by decide +kernel
theorem d_216_74 : decode (cM 216) 74 = .ok (.aload_n 0, 1) := by decide +kernel
theorem d_216_75 : decode (cM 216) 75 = .ok (.getfield 100, 3) := by decide +kernel
theorem d_216_78 : decode (cM 216) 78 = .ok (.iload_n 1, 1) := by decide +kernel
theorem d_216_79 : decode (cM 216) 79 = .ok (.iaload, 1) := by decide +kernel
theorem d_216_80 : decode (cM 216) 80 = .ok (.ireturn, 1) := by decide +kernel
theorem d_216_81 : decode (cM 216) 81 = .ok (.aload_n 0, 1) := by decide +kernel
theorem d_216_82 : decode (cM 216) 82 = .ok (.iconst 0, 1) := by decide +kernel
theorem d_216_83 : decode (cM 216) 83 = .ok (.iload_n 1, 1) := by decide +kernel
theorem d_216_84 : decode (cM 216) 84 = .ok (.sipush 1023, 3) := by decide +kernel
theorem d_216_87 : decode (cM 216) 87 = .ok (.invokevirtual 398, 3) := by decide +kernel
theorem kc_216_87 : callT (oM 216) 398 = some (0, 204, 3) ∧ fok 216 204 = true ∧ stM 204 = false := by decide +kernel
theorem d_216_90 : decode (cM 216) 90 = .ok (.ireturn, 1) := by decide +kernel
theorem d_216_91 : decode (cM 216) 91 = .ok (.aload_n 0, 1) := by decide +kernel
theorem d_216_92 : decode (cM 216) 92 = .ok (.iconst 2, 1) := by decide +kernel
theorem d_216_93 : decode (cM 216) 93 = .ok (.invokevirtual 442, 3) := by decide +kernel
theorem kc_216_93 : callT (oM 216) 442 = some (0, 215, 1) ∧ fok 216 215 = true ∧ stM 215 = false := by decide +kernel
theorem d_216_96 : decode (cM 216) 96 = .ok (.ireturn, 1) := by decide +kernel
theorem d_217_0 : decode (cM 217) 0 = .ok (.aload_n 0, 1) := by decide +kernel
theorem d_217_1 : decode (cM 217) 1 = .ok (.iconst 0, 1) := by decide +kernel
theorem d_217_2 : decode (cM 217) 2 = .ok (.putfield 142, 3) := by decide +kernel
theorem d_217_5 : decode (cM 217) 5 = .ok (.aload_n 0, 1) := by decide +kernel
theorem d_217_6 : decode (cM 217) 6 = .ok (.iload_n 1, 1) := by decide +kernel
theorem d_217_7 : decode (cM 217) 7 = .ok (.invokevirtual 445, 3) := by decide +kernel
theorem kc_217_7 : callT (oM 217) 445 = some (0, 200, 1) ∧ fok 217 200 = true ∧ stM 200 = false := by decide +kernel
theorem d_217_10 : decode (cM 217) 10 = .ok (.ifCond .ne 5, 3) := by decide +kernel
theorem d_217_13 : decode (cM 217) 13 = .ok (.iconst (-1), 1) := by decide +kernel
theorem d_217_14 : decode (cM 217) 14 = .ok (.ireturn, 1) := by decide +kernel
theorem d_217_15 : decode (cM 217) 15 = .ok (.iload_n 2, 1) := by decide +kernel
theorem d_217_16 : decode (cM 217) 16 = .ok (.tableswitch 64 0 3 #[32, 39, 50, 57], 32) := by decide +kernel
theorem d_217_48 : decode (cM 217) 48 = .ok (.aload_n 0, 1) := by decide +kernel
theorem d_217_49 : decode (cM 217) 49 = .ok (.getfield 36, 3) := by decide +kernel
theorem d_217_52 : decode (cM 217) 52 = .ok (.iload_n 1, 1) := by decide +kernel
theorem d_217_53 : decode (cM 217) 53 = .ok (.iaload, 1) := by decide +kernel
theorem d_217_54 : decode (cM 217) 54 = .ok (.ireturn, 1) := by decide +kernel
theorem d_217_55 : decode (cM 217) 55 = .ok (.aload_n 0, 1) := by decide +kernel
theorem d_217_56 : decode (cM 217) 56 = .ok (.getfield 88, 3) := by decide +kernel
theorem d_217_59 : decode (cM 217) 59 = .ok (.iconst 0, 1) := by decide +kernel
theorem d_217_60 : decode (cM 217) 60 = .ok (.iaload, 1) := by decide +kernel
theorem d_217_61 : decode (cM 217) 61 = .ok (.iload_n 1, 1) := by decide +kernel
theorem d_217_62 : decode (cM 217) 62 = .ok (.ishr, 1) := by decide +kernel
theorem d_217_63 : decode (cM 217) 63 = .ok (.iconst 1, 1) := by decide +kernel
theorem d_217_64 : decode (cM 217) 64 = .ok (.iand, 1) := by decide +kernel
theorem d_217_65 : decode (cM 217) 65 = .ok (.ireturn, 1) := by decide +kernel
theorem d_217_66 : decode (cM 217) 66 = .ok (.aload_n 0, 1) := by decide +kernel
theorem d_217_67 : decode (cM 217) 67 = .ok (.getfield 106, 3) := by decide +kernel
theorem d_217_70 : decode (cM 217) 70 = .ok (.iload_n 1, 1) := by decide +kernel
theorem d_217_71 : decode (cM 217) 71 = .ok (.iaload, 1) := by decide +kernel
theorem d_217_72 : decode (cM 217) 72 = .ok (.ireturn, 1) := by decide +kernel
theorem d_217_73 : decode (cM 217) 73 = .ok (.aload_n 0, 1) := by decide +kernel
theorem d_217_74 : decode (cM 217) 74 = .ok (.getfield 103, 3) := by decide +kernel
theorem d_217_77 : decode (cM 217) 77 = .ok (.iload_n 1, 1) := by decide +kernel
theorem d_217_78 : decode (cM 217) 78 = .ok (.iaload, 1) := by decide +kernel
theorem d_217_79 : decode (cM 217) 79 = .ok (.ireturn, 1) := by decide +kernel
theorem d_217_80 : decode (cM 217) 80 = .ok (.iconst (-1), 1) := by decide +kernel
theorem d_217_81 : decode (cM 217) 81 = .ok (.ireturn, 1) := by decide +kernel
theorem d_218_0 : decode (cM 218) 0 = .ok (.aload_n 0, 1) := by decide +kernel
theorem d_218_1 : decode (cM 218) 1 = .ok (.iconst 0, 1) := by decide +kernel
theorem d_218_2 : decode (cM 218) 2 = .ok (.putfield 142, 3) := by decide +kernel
theorem d_218_5 : decode (cM 218) 5 = .ok (.iload_n 1, 1) := by decide +kernel
theorem d_218_6 : decode (cM 218) 6 = .ok (.ifCond .ne 11, 3) := by decide +kernel
theorem d_218_9 : decode (cM 218) 9 = .ok (.aload_n 0, 1) := by decide +kernel
theorem d_218_10 : decode (cM 218) 10 = .ok (.iconst 0, 1) := by decide +kernel
theorem d_218_11 : decode (cM 218) 11 = .ok (.invokevirtual 389, 3) := by decide +kernel
theorem kc_218_11 : callT (oM 218) 389 = some (0, 203, 1) ∧ fok 218 203 = true ∧ stM 203 = false := by decide +kernel
theorem d_218_14 : decode (cM 218) 14 = .ok (.goto 32, 3) := by decide +kernel
theorem d_218_17 : decode (cM 218) 17 = .ok (.iload_n 1, 1) := by decide +kernel
theorem d_218_18 : decode (cM 218) 18 = .ok (.iconst 1, 1) := by decide +kernel
theorem d_218_19 : decode (cM 218) 19 = .ok (.if_icmp .ne 12, 3) := by decide +kernel
theorem d_218_22 : decode (cM 218) 22 = .ok (.aload_n 0, 1) := by decide +kernel
theorem d_218_23 : decode (cM 218) 23 = .ok (.getfield 82, 3) := by decide +kernel
theorem d_218_26 : decode (cM 218) 26 = .ok (.iconst 0, 1) := by decide +kernel
theorem d_218_27 : decode (cM 218) 27 = .ok (.iaload, 1) := by decide +kernel
theorem d_218_28 : decode (cM 218) 28 = .ok (.goto 18, 3) := by decide +kernel
theorem d_218_31 : decode (cM 218) 31 = .ok (.iload_n 1, 1) := by decide +kernel
theorem d_218_32 : decode (cM 218) 32 = .ok (.iconst 2, 1) := by decide +kernel
theorem d_218_33 : decode (cM 218) 33 = .ok (.if_icmp .ne 12, 3) := by decide +kernel
theorem d_218_36 : decode (cM 218) 36 = .ok (.aload_n 0, 1) := by decide +kernel
theorem d_218_37 : decode (cM 218) 37 = .ok (.getfield 85, 3) := by decide +kernel
theorem d_218_40 : decode (cM 218) 40 = .ok (.iconst 0, 1) := by decide +kernel
theorem d_218_41 : decode (cM 218) 41 = .ok (.iaload, 1) := by decide +kernel
theorem d_218_42 : decode (cM 218) 42 = .ok (.goto 4, 3) := by decide +kernel
theorem d_218_45 : decode (cM 218) 45 = .ok (.iconst (-1), 1) := by decide +kernel
theorem d_218_46 : decode (cM 218) 46 = .ok (.ireturn, 1) := by decide +kernel
theorem d_219_0 : decode (cM 219) 0 = .ok (.aload_n 0, 1) := by decide +kernel
theorem d_219_1 : decode (cM 219) 1 = .ok (.iconst 0, 1) := by decide +kernel
theorem d_219_2 : decode (cM 219) 2 = .ok (.putfield 142, 3) := by decide +kernel
theorem d_219_5 : decode (cM 219) 5 = .ok (.iload_n 1, 1) := by decide +kernel
theorem d_219_6 : decode (cM 219) 6 = .ok (.iconst 0, 1) := by decide +kernel
theorem d_219_7 : decode (cM 219) 7 = .ok (.iconst 2, 1) := by decide +kernel
theorem d_219_8 : decode (cM 219) 8 = .ok (.invokestatic 187, 3) := by decide +kernel
theorem kc_219_8 : callT (oM 219) 187 = some (1, 152, 3) ∧ fok 219 152 = true ∧ stM 152 = true := by decide +kernel
theorem d_219_11 : decode (cM 219) 11 = .ok (.ifCond .eq 36, 3) := by decide +kernel
theorem d_219_14 : decode (cM 219) 14 = .ok (.aload_n 0, 1) := by decide +kernel
theorem d_219_15 : decode (cM 219) 15 = .ok (.getfield 51, 3) := by decide +kernel
theorem d_219_18 : decode (cM 219) 18 = .ok (.iload_n 1, 1) := by decide +kernel
theorem d_219_19 : decode (cM 219) 19 = .ok (.baload, 1) := by decide +kernel
theorem d_219_20 : decode (cM 219) 20 = .ok (.ifCond .eq 27, 3) := by decide +kernel
theorem d_219_23 : decode (cM 219) 23 = .ok (.iload_n 1, 1) := by decide +kernel
theorem d_219_24 : decode (cM 219) 24 = .ok (.iconst 2, 1) := by decide +kernel
theorem d_219_25 : decode (cM 219) 25 = .ok (.if_icmp .ne 14, 3) := by decide +kernel
theorem d_219_28 : decode (cM 219) 28 = .ok (.aload_n 0, 1) := by decide +kernel
theorem d_219_29 : decode (cM 219) 29 = .ok (.iload_n 2, 1) := by decide +kernel
theorem d_219_30 : decode (cM 219) 30 = .ok (.invokevirtual 439, 3) := by decide +kernel
theorem kc_219_30 : callT (oM 219) 439 = some (0, 199, 1) ∧ fok 219 199 = true ∧ stM 199 = false := by decide +kernel
theorem d_219_33 : decode (cM 219) 33 = .ok (.ifCond .ne 18, 3) := by decide +kernel
theorem d_219_36 : decode (cM 219) 36 = .ok (.goto 11, 3) := by decide +kernel
theorem d_219_39 : decode (cM 219) 39 = .ok (.aload_n 0, 1) := by decide +kernel
theorem d_219_40 : decode (cM 219) 40 = .ok (.iload_n 2, 1) := by decide +kernel
theorem d_219_41 : decode (cM 219) 41 = .ok (.invokevirtual 445, 3) := by decide +kernel
theorem kc_219_41 : callT (oM 219) 445 = some (0, 200, 1) ∧ fok 219 200 = true ∧ stM 200 = false := by decide +kernel
theorem d_219_44 : decode (cM 219) 44 = .ok (.ifCond .ne 7, 3) := by decide +kernel
theorem d_219_47 : decode (cM 219) 47 = .ok (.ldc2_w 448, 3) := by decide +kernel
theorem d_219_50 : decode (cM 219) 50 = .ok (.lreturn, 1) := by decide +kernel
theorem d_219_51 : decode (cM 219) 51 = .ok (.iload_n 1, 1) := by decide +kernel
theorem d_219_52 : decode (cM 219) 52 = .ok (.iconst 2, 1) := by decide +kernel
theorem d_219_53 : decode (cM 219) 53 = .ok (.if_icmp .ne 12, 3) := by decide +kernel
theorem d_219_56 : decode (cM 219) 56 = .ok (.aload_n 0, 1) := by decide +kernel
theorem d_219_57 : decode (cM 219) 57 = .ok (.iconst 0, 1) := by decide +kernel
theorem d_219_58 : decode (cM 219) 58 = .ok (.iload_n 2, 1) := by decide +kernel
theorem d_219_59 : decode (cM 219) 59 = .ok (.invokevirtual 424, 3) := by decide +kernel
theorem kc_219_59 : callT (oM 219) 424 = some (0, 207, 2) ∧ fok 219 207 = true ∧ stM 207 = false := by decide +kernel
theorem d_219_62 : decode (cM 219) 62 = .ok (.goto 9, 3) := by decide +kernel
theorem d_219_65 : decode (cM 219) 65 = .ok (.aload_n 0, 1) := by decide +kernel
theorem d_219_66 : decode (cM 219) 66 = .ok (.iconst 0, 1) := by decide +kernel
theorem d_219_67 : decode (cM 219) 67 = .ok (.iload_n 2, 1) := by decide +kernel
theorem d_219_68 : decode (cM 219) 68 = .ok (.invokevirtual 409, 3) := by decide +kernel
theorem kc_219_68 : callT (oM 219) 409 = some (0, 206, 2) ∧ fok 219 206 = true ∧ stM 206 = false := by decide +kernel
theorem d_219_71 : decode (cM 219) 71 = .ok (.aload_n 0, 1) := by decide +kernel
theorem d_219_72 : decode (cM 219) 72 = .ok (.iload_n 1, 1) := by decide +kernel
theorem d_219_73 : decode (cM 219) 73 = .ok (.invokevirtual 406, 3) := by decide +kernel
theorem kc_219_73 : callT (oM 219) 406 = some (0, 208, 1) ∧ fok 219 208 = true ∧ stM 208 = false := by decide +kernel
theorem d_219_76 : decode (cM 219) 76 = .ok (.lstore_n 3, 1) := by decide +kernel
theorem d_219_77 : decode (cM 219) 77 = .ok (.aload_n 0, 1) := by decide +kernel
theorem d_219_78 : decode (cM 219) 78 = .ok (.getfield 336, 3) := by decide +kernel
theorem d_219_81 : decode (cM 219) 81 = .ok (.ifCond .eq 9, 3) := by decide +kernel
theorem d_219_84 : decode (cM 219) 84 = .ok (.ldc2_w 448, 3) := by decide +kernel
theorem d_219_87 : decode (cM 219) 87 = .ok (.goto 4, 3) := by decide +kernel
theorem d_219_90 : decode (cM 219) 90 = .ok (.lload_n 3, 1) := by decide +kernel
theorem d_219_91 : decode (cM 219) 91 = .ok (.lreturn, 1) := by decide +kernel
theorem d_220_0 : decode (cM 220) 0 = .ok (.aload_n 0, 1) := by decide +kernel
theorem d_220_1 : decode (cM 220) 1 = .ok (.iconst 0, 1) := by decide +kernel
theorem d_220_2 : decode (cM 220) 2 = .ok (.putfield 142, 3) := by decide +kernel
theorem d_220_5 : decode (cM 220) 5 = .ok (.aload_n 0, 1) := by decide +kernel
theorem d_220_6 : decode (cM 220) 6 = .ok (.iload_n 1, 1) := by decide +kernel
theorem d_220_7 : decode (cM 220) 7 = .ok (.invokevirtual 445, 3) := by decide +kernel
theorem kc_220_7 : callT (oM 220) 445 = some (0, 200, 1) ∧ fok 220 200 = true ∧ stM 200 = false := by decide +kernel
theorem d_220_10 : decode (cM 220) 10 = .ok (.ifCond .ne 5, 3) := by decide +kernel
theorem d_220_13 : decode (cM 220) 13 = .ok (.iconst (-1), 1) := by decide +kernel
theorem d_220_14 : decode (cM 220) 14 = .ok (.ireturn, 1) := by decide +kernel
theorem d_220_15 : decode (cM 220) 15 = .ok (.aload_n 0, 1) := by decide +kernel
theorem d_220_16 : decode (cM 220) 16 = .ok (.getfield 88, 3) := by decide +kernel
theorem d_220_19 : decode (cM 220) 19 = .ok (.iconst 0, 1) := by decide +kernel
theorem d_220_20 : decode (cM 220) 20 = .ok (.iaload, 1) := by decide +kernel
theorem d_220_21 : decode (cM 220) 21 = .ok (.iload_n 1, 1) := by decide +kernel
theorem d_220_22 : decode (cM 220) 22 = .ok (.invokestatic 255, 3) := by decide +kernel
theorem kc_220_22 : callT (oM 220) 255 = some (1, 153, 2) ∧ fok 220 153 = true ∧ stM 153 = true := by decide +kernel
theorem d_220_25 : decode (cM 220) 25 = .ok (.ifCond .eq 6, 3) := by decide +kernel
theorem d_220_28 : decode (cM 220) 28 = .ok (.bipush (-2), 2) := by decide +kernel
theorem d_220_30 : decode (cM 220) 30 = .ok (.ireturn, 1) := by decide +kernel
theorem d_220_31 : decode (cM 220) 31 = .ok (.aload_n 0, 1) := by decide +kernel
theorem d_220_32 : decode (cM 220) 32 = .ok (.invokevirtual 362, 3) := by decide +kernel
theorem kc_220_32 : callT (oM 220) 362 = some (0, 197, 0) ∧ fok 220 197 = true ∧ stM 197 = false := by decide +kernel
theorem d_220_35 : decode (cM 220) 35 = .ok (.aload_n 0, 1) := by decide +kernel
theorem d_220_36 : decode (cM 220) 36 = .ok (.invokevirtual 450, 3) := by decide +kernel
theorem kc_220_36 : callT (oM 220) 450 = some (0, 268, 0) ∧ fok 220 268 = true ∧ stM 268 = false := by decide +kernel
theorem d_220_39 : decode (cM 220) 39 = .ok (.aload_n 0, 1) := by decide +kernel
theorem d_220_40 : decode (cM 220) 40 = .ok (.iconst 0, 1) := by decide +kernel
theorem d_220_41 : decode (cM 220) 41 = .ok (.iload_n 1, 1) := by decide +kernel
theorem d_220_42 : decode (cM 220) 42 = .ok (.invokevirtual 430, 3) := by decide +kernel
theorem kc_220_42 : callT (oM 220) 430 = some (0, 210, 2) ∧ fok 220 210 = true ∧ stM 210 = false := by decide +kernel
theorem d_220_45 : decode (cM 220) 45 = .ok (.aload_n 0, 1) := by decide +kernel
theorem d_220_46 : decode (cM 220) 46 = .ok (.iconst 0, 1) := by decide +kernel
theorem d_220_47 : decode (cM 220) 47 = .ok (.invokevirtual 389, 3) := by decide +kernel
theorem kc_220_47 : callT (oM 220) 389 = some (0, 203, 1) ∧ fok 220 203 = true ∧ stM 203 = false := by decide +kernel
theorem d_220_50 : decode (cM 220) 50 = .ok (.invokestatic 392, 3) := by decide +kernel
theorem kc_220_50 : callT (oM 220) 392 = some (1, 202, 1) ∧ fok 220 202 = true ∧ stM 202 = true := by decide +kernel
theorem d_220_53 : decode (cM 220) 53 = .ok (.ireturn, 1) := by decide +kernel
theorem d_221_0 : decode (cM 221) 0 = .ok (.aload_n 0, 1) := by decide +kernel
theorem d_221_1 : decode (cM 221) 1 = .ok (.iconst 0, 1) := by decide +kernel
theorem d_221_2 : decode (cM 221) 2 = .ok (.putfield 142, 3) := by decide +kernel
theorem d_221_5 : decode (cM 221) 5 = .ok (.aload_n 0, 1) := by decide +kernel
theorem d_221_6 : decode (cM 221) 6 = .ok (.iload_n 1, 1) := by decide +kernel
theorem d_221_7 : decode (cM 221) 7 = .ok (.invokevirtual 445, 3) := by decide +kernel
theorem kc_221_7 : callT (oM 221) 445 = some (0, 200, 1) ∧ fok 221 200 = true ∧ stM 200 = false := by decide +kernel
theorem d_221_10 : decode (cM 221) 10 = .ok (.ifCond .eq 11, 3) := by decide +kernel
theorem d_221_13 : decode (cM 221) 13 = .ok (.aload_n 0, 1) := by decide +kernel
theorem d_221_14 : decode (cM 221) 14 = .ok (.iload_n 2, 1) := by decide +kernel
theorem d_221_15 : decode (cM 221) 15 = .ok (.invokevirtual 439, 3) := by decide +kernel
theorem kc_221_15 : callT (oM 221) 439 = some (0, 199, 1) ∧ fok 221 199 = true ∧ stM 199 = false := by decide +kernel
theorem d_221_18 : decode (cM 221) 18 = .ok (.ifCond .ne 5, 3) := by decide +kernel
theorem d_221_21 : decode (cM 221) 21 = .ok (.iconst (-1), 1) := by decide +kernel
theorem d_221_22 : decode (cM 221) 22 = .ok (.ireturn, 1) := by decide +kernel
theorem d_221_23 : decode (cM 221) 23 = .ok (.aload_n 0, 1) := by decide +kernel
theorem d_221_24 : decode (cM 221) 24 = .ok (.invokevirtual 450, 3) := by decide +kernel
theorem kc_221_24 : callT (oM 221) 450 = some (0, 268, 0) ∧ fok 221 268 = true ∧ stM 268 = false := by decide +kernel
theorem d_221_27 : decode (cM 221) 27 = .ok (.aload_n 0, 1) := by decide +kernel
theorem d_221_28 : decode (cM 221) 28 = .ok (.getfield 103, 3) := by decide +kernel
theorem d_221_31 : decode (cM 221) 31 = .ok (.iload_n 1, 1) := by decide +kernel
theorem d_221_32 : decode (cM 221) 32 = .ok (.dup2, 1) := by decide +kernel
theorem d_221_33 : decode (cM 221) 33 = .ok (.iaload, 1) := by decide +kernel
theorem d_221_34 : decode (cM 221) 34 = .ok (.iconst 1, 1) := by decide +kernel
theorem d_221_35 : decode (cM 221) 35 = .ok (.iload_n 2, 1) := by decide +kernel
theorem d_221_36 : decode (cM 221) 36 = .ok (.ishl, 1) := by decide +kernel
theorem d_221_37 : decode (cM 221) 37 = .ok (.ixor, 1) := by decide +kernel
theorem d_221_38 : decode (cM 221) 38 = .ok (.iastore, 1) := by decide +kernel
theorem d_221_39 : decode (cM 221) 39 = .ok (.aload_n 0, 1) := by decide +kernel
theorem d_221_40 : decode (cM 221) 40 = .ok (.getfield 103, 3) := by decide +kernel
theorem d_221_43 : decode (cM 221) 43 = .ok (.iload_n 1, 1) := by decide +kernel
theorem d_221_44 : decode (cM 221) 44 = .ok (.iaload, 1) := by decide +kernel
theorem d_221_45 : decode (cM 221) 45 = .ok (.iload_n 2, 1) := by decide +kernel
theorem d_221_46 : decode (cM 221) 46 = .ok (.ishr, 1) := by decide +kernel
theorem d_221_47 : decode (cM 221) 47 = .ok (.iconst 1, 1) := by decide +kernel
theorem d_221_48 : decode (cM 221) 48 = .ok (.iand, 1) := by decide +kernel
theorem d_221_49 : decode (cM 221) 49 = .ok (.ireturn, 1) := by decide +kernel
theorem d_222_0 : decode (cM 222) 0 = .ok (.aload_n 0, 1) := by decide +kernel
theorem d_222_1 : decode (cM 222) 1 = .ok (.iconst 0, 1) := by decide +kernel
theorem d_222_2 : decode (cM 222) 2 = .ok (.putfield 142, 3) := by decide +kernel
theorem d_222_5 : decode (cM 222) 5 = .ok (.aload_n 0, 1) := by decide +kernel
theorem d_222_6 : decode (cM 222) 6 = .ok (.getfield 88, 3) := by decide +kernel
theorem d_222_9 : decode (cM 222) 9 = .ok (.iconst 0, 1) := by decide +kernel
theorem d_222_10 : decode (cM 222) 10 = .ok (.iaload, 1) := by decide +kernel
theorem d_222_11 : decode (cM 222) 11 = .ok (.ifCond .ne 14, 3) := by decide +kernel
theorem d_222_14 : decode (cM 222) 14 = .ok (.aload_n 0, 1) := by decide +kernel
theorem d_222_15 : decode (cM 222) 15 = .ok (.getfield 85, 3) := by decide +kernel
theorem d_222_18 : decode (cM 222) 18 = .ok (.iconst 0, 1) := by decide +kernel
theorem d_222_19 : decode (cM 222) 19 = .ok (.iaload, 1) := by decide +kernel
theorem d_222_20 : decode (cM 222) 20 = .ok (.ifCond .ne 5, 3) := by decide +kernel
theorem d_222_23 : decode (cM 222) 23 = .ok (.iconst 0, 1) := by decide +kernel
theorem d_222_24 : decode (cM 222) 24 = .ok (.ireturn, 1) := by decide +kernel
theorem d_222_25 : decode (cM 222) 25 = .ok (.aload_n 0, 1) := by decide +kernel
theorem d_222_26 : decode (cM 222) 26 = .ok (.invokevirtual 450, 3) := by decide +kernel
theorem kc_222_26 : callT (oM 222) 450 = some (0, 268, 0) ∧ fok 222 268 = true ∧ stM 268 = false := by decide +kernel
theorem d_222_29 : decode (cM 222) 29 = .ok (.aload_n 0, 1) := by decide +kernel
theorem d_222_30 : decode (cM 222) 30 = .ok (.getfield 88, 3) := by decide +kernel
theorem d_222_33 : decode (cM 222) 33 = .ok (.iconst 0, 1) := by decide +kernel
theorem d_222_34 : decode (cM 222) 34 = .ok (.iconst 0, 1) := by decide +kernel
theorem d_222_35 : decode (cM 222) 35 = .ok (.iastore, 1) := by decide +kernel
theorem d_222_36 : decode (cM 222) 36 = .ok (.aload_n 0, 1) := by decide +kernel
theorem d_222_37 : decode (cM 222) 37 = .ok (.getfield 85, 3) := by decide +kernel
theorem d_222_40 : decode (cM 222) 40 = .ok (.iconst 0, 1) := by decide +kernel
theorem d_222_41 : decode (cM 222) 41 = .ok (.iconst 0, 1) := by decide +kernel
theorem d_222_42 : decode (cM 222) 42 = .ok (.iastore, 1) := by decide +kernel
theorem d_222_43 : decode (cM 222) 43 = .ok (.iconst 1, 1) := by decide +kernel
theorem d_222_44 : decode (cM 222) 44 = .ok (.ireturn, 1) := by decide +kernel
theorem d_223_0 : decode (cM 223) 0 = .ok (.aload_n 0, 1) := by decide +kernel
theorem d_223_1 : decode (cM 223) 1 = .ok (.iconst 0, 1) := by decide +kernel
theorem d_223_2 : decode (cM 223) 2 = .ok (.putfield 142, 3) := by decide +kernel
theorem d_223_5 : decode (cM 223) 5 = .ok (.iload_n 1, 1) := by decide +kernel
theorem d_223_6 : decode (cM 223) 6 = .ok (.iconst 0, 1) := by decide +kernel
theorem d_223_7 : decode (cM 223) 7 = .ok (.sipush 200, 3) := by decide +kernel
theorem d_223_10 : decode (cM 223) 10 = .ok (.invokestatic 187, 3) := by decide +kernel
theorem kc_223_10 : callT (oM 223) 187 = some (1, 152, 3) ∧ fok 223 152 = true ∧ stM 152 = true := by decide +kernel
theorem d_223_13 : decode (cM 223) 13 = .ok (.ifCond .eq 17, 3) := by decide +kernel
theorem d_223_16 : decode (cM 223) 16 = .ok (.aload_n 0, 1) := by decide +kernel
theorem d_223_17 : decode (cM 223) 17 = .ok (.getfield 97, 3) := by decide +kernel
theorem d_223_20 : decode (cM 223) 20 = .ok (.iconst 0, 1) := by decide +kernel
theorem d_223_21 : decode (cM 223) 21 = .ok (.iaload, 1) := by decide +kernel
theorem d_223_22 : decode (cM 223) 22 = .ok (.iload_n 1, 1) := by decide +kernel
theorem d_223_23 : decode (cM 223) 23 = .ok (.iadd, 1) := by decide +kernel
theorem d_223_24 : decode (cM 223) 24 = .ok (.sipush 9000, 3) := by decide +kernel
theorem d_223_27 : decode (cM 223) 27 = .ok (.if_icmp .le 5, 3) := by decide +kernel
theorem d_223_30 : decode (cM 223) 30 = .ok (.iconst (-1), 1) := by decide +kernel
theorem d_223_31 : decode (cM 223) 31 = .ok (.ireturn, 1) := by decide +kernel
theorem d_223_32 : decode (cM 223) 32 = .ok (.aload_n 0, 1) := by decide +kernel
theorem d_223_33 : decode (cM 223) 33 = .ok (.invokevirtual 362, 3) := by decide +kernel
theorem kc_223_33 : callT (oM 223) 362 = some (0, 197, 0) ∧ fok 223 197 = true ∧ stM 197 = false := by decide +kernel
theorem d_223_36 : decode (cM 223) 36 = .ok (.aload_n 0, 1) := by decide +kernel
theorem d_223_37 : decode (cM 223) 37 = .ok (.iconst 1, 1) := by decide +kernel
theorem d_223_38 : decode (cM 223) 38 = .ok (.putfield 374, 3) := by decide +kernel
theorem d_223_41 : decode (cM 223) 41 = .ok (.iconst 0, 1) := by decide +kernel
theorem d_223_42 : decode (cM 223) 42 = .ok (.istore_n 2, 1) := by decide +kernel
theorem d_223_43 : decode (cM 223) 43 = .ok (.iload_n 2, 1) := by decide +kernel
theorem d_223_44 : decode (cM 223) 44 = .ok (.iload_n 1, 1) := by decide +kernel
theorem d_223_45 : decode (cM 223) 45 = .ok (.if_icmp .ge 14, 3) := by decide +kernel
theorem d_223_48 : decode (cM 223) 48 = .ok (.aload_n 0, 1) := by decide +kernel
theorem d_223_49 : decode (cM 223) 49 = .ok (.iconst 0, 1) := by decide +kernel
theorem d_223_50 : decode (cM 223) 50 = .ok (.invokevirtual 436, 3) := by decide +kernel
theorem kc_223_50 : callT (oM 223) 436 = some (0, 213, 1) ∧ fok 223 213 = true ∧ stM 213 = false := by decide +kernel
theorem d_223_53 : decode (cM 223) 53 = .ok (.iinc 2 1, 3) := by decide +kernel
theorem d_223_56 : decode (cM 223) 56 = .ok (.goto (-13), 3) := by decide +kernel
theorem d_223_59 : decode (cM 223) 59 = .ok (.aload_n 0, 1) := by decide +kernel
theorem d_223_60 : decode (cM 223) 60 = .ok (.iconst 0, 1) := by decide +kernel
theorem d_223_61 : decode (cM 223) 61 = .ok (.putfield 374, 3) := by decide +kernel
theorem d_223_64 : decode (cM 223) 64 = .ok (.aload_n 0, 1) := by decide +kernel
theorem d_223_65 : decode (cM 223) 65 = .ok (.iload_n 1, 1) := by decide +kernel
theorem d_223_66 : decode (cM 223) 66 = .ok (.ifCond .le 7, 3) := by decide +kernel
theorem d_223_69 : decode (cM 223) 69 = .ok (.iconst 0, 1) := by decide +kernel
theorem d_223_70 : decode (cM 223) 70 = .ok (.goto 7, 3) := by decide +kernel
theorem d_223_73 : decode (cM 223) 73 = .ok (.aload_n 0, 1) := by decide +kernel
theorem d_223_74 : decode (cM 223) 74 = .ok (.getfield 368, 3) := by decide +kernel
theorem d_223_77 : decode (cM 223) 77 = .ok (.putfield 368, 3) := by decide +kernel
theorem d_223_80 : decode (cM 223) 80 = .ok (.aload_n 0, 1) := by decide +kernel
theorem d_223_81 : decode (cM 223) 81 = .ok (.getfield 97, 3) := by decide +kernel
theorem d_223_84 : decode (cM 223) 84 = .ok (.iconst 0, 1) := by decide +kernel
theorem d_223_85 : decode (cM 223) 85 = .ok (.iaload, 1) := by decide +kernel
theorem d_223_86 : decode (cM 223) 86 = .ok (.ireturn, 1) := by decide +kernel
theorem d_224_0 : decode (cM 224) 0 = .ok (.aload_n 0, 1) := by decide +kernel
theorem d_224_1 : decode (cM 224) 1 = .ok (.iconst 0, 1) := by decide +kernel
theorem d_224_2 : decode (cM 224) 2 = .ok (.putfield 142, 3) := by decide +kernel
theorem d_224_5 : decode (cM 224) 5 = .ok (.iload_n 1, 1) := by decide +kernel
theorem d_224_6 : decode (cM 224) 6 = .ok (.iconst 0, 1) := by decide +kernel
theorem d_224_7 : decode (cM 224) 7 = .ok (.sipush 200, 3) := by decide +kernel
theorem d_224_10 : decode (cM 224) 10 = .ok (.invokestatic 187, 3) := by decide +kernel
theorem kc_224_10 : callT (oM 224) 187 = some (1, 152, 3) ∧ fok 224 152 = true ∧ stM 152 = true := by decide +kernel
theorem d_224_13 : decode (cM 224) 13 = .ok (.ifCond .eq 12, 3) := by decide +kernel
theorem d_224_16 : decode (cM 224) 16 = .ok (.iload_n 2, 1) := by decide +kernel
theorem d_224_17 : decode (cM 224) 17 = .ok (.iconst 0, 1) := by decide +kernel
theorem d_224_18 : decode (cM 224) 18 = .ok (.iconst 4, 1) := by decide +kernel
theorem d_224_19 : decode (cM 224) 19 = .ok (.invokestatic 187, 3) := by decide +kernel
theorem kc_224_19 : callT (oM 224) 187 = some (1, 152, 3) ∧ fok 224 152 = true ∧ stM 152 = true := by decide +kernel
theorem d_224_22 : decode (cM 224) 22 = .ok (.ifCond .ne 5, 3) := by decide +kernel
theorem d_224_25 : decode (cM 224) 25 = .ok (.iconst (-1), 1) := by decide +kernel
theorem d_224_26 : decode (cM 224) 26 = .ok (.ireturn, 1) := by decide +kernel
theorem d_224_27 : decode (cM 224) 27 = .ok (.aload_n 0, 1) := by decide +kernel
theorem d_224_28 : decode (cM 224) 28 = .ok (.invokevirtual 453, 3) := by decide +kernel
theorem kc_224_28 : callT (oM 224) 453 = some (0, 198, 0) ∧ fok 224 198 = true ∧ stM 198 = false := by decide +kernel
theorem d_224_31 : decode (cM 224) 31 = .ok (.aload_n 0, 1) := by decide +kernel
theorem d_224_32 : decode (cM 224) 32 = .ok (.iload_n 1, 1) := by decide +kernel
theorem d_224_33 : decode (cM 224) 33 = .ok (.invokevirtual 456, 3) := by decide +kernel
theorem kc_224_33 : callT (oM 224) 456 = some (0, 214, 1) ∧ fok 224 214 = true ∧ stM 214 = false := by decide +kernel
theorem d_224_36 : decode (cM 224) 36 = .ok (.iload_n 2, 1) := by decide +kernel
theorem d_224_37 : decode (cM 224) 37 = .ok (.tableswitch 78 0 3 #[31, 40, 54, 68], 31) := by decide +kernel
theorem d_224_68 : decode (cM 224) 68 = .ok (.aload_n 0, 1) := by decide +kernel
theorem d_224_69 : decode (cM 224) 69 = .ok (.iconst 1, 1) := by decide +kernel
theorem d_224_70 : decode (cM 224) 70 = .ok (.invokevirtual 389, 3) := by decide +kernel
theorem kc_224_70 : callT (oM 224) 389 = some (0, 203, 1) ∧ fok 224 203 = true ∧ stM 203 = false := by decide +kernel
theorem d_224_73 : decode (cM 224) 73 = .ok (.invokestatic 392, 3) := by decide +kernel
theorem kc_224_73 : callT (oM 224) 392 = some (1, 202, 1) ∧ fok 224 202 = true ∧ stM 202 = true := by decide +kernel
theorem d_224_76 : decode (cM 224) 76 = .ok (.ireturn, 1) := by decide +kernel
theorem d_224_77 : decode (cM 224) 77 = .ok (.aload_n 0, 1) := by decide +kernel
theorem d_224_78 : decode (cM 224) 78 = .ok (.getfield 91, 3) := by decide +kernel
theorem d_224_81 : decode (cM 224) 81 = .ok (.iconst 1, 1) := by decide +kernel
theorem d_224_82 : decode (cM 224) 82 = .ok (.iaload, 1) := by decide +kernel
theorem d_224_83 : decode (cM 224) 83 = .ok (.aload_n 0, 1) := by decide +kernel
theorem d_224_84 : decode (cM 224) 84 = .ok (.getfield 91, 3) := by decide +kernel
theorem d_224_87 : decode (cM 224) 87 = .ok (.iconst 0, 1) := by decide +kernel
theorem d_224_88 : decode (cM 224) 88 = .ok (.iaload, 1) := by decide +kernel
theorem d_224_89 : decode (cM 224) 89 = .ok (.isub, 1) := by decide +kernel
theorem d_224_90 : decode (cM 224) 90 = .ok (.ireturn, 1) := by decide +kernel
theorem d_224_91 : decode (cM 224) 91 = .ok (.aload_n 0, 1) := by decide +kernel
theorem d_224_92 : decode (cM 224) 92 = .ok (.getfield 94, 3) := by decide +kernel
theorem d_224_95 : decode (cM 224) 95 = .ok (.iconst 1, 1) := by decide +kernel
theorem d_224_96 : decode (cM 224) 96 = .ok (.iaload, 1) := by decide +kernel
theorem d_224_97 : decode (cM 224) 97 = .ok (.aload_n 0, 1) := by decide +kernel
theorem d_224_98 : decode (cM 224) 98 = .ok (.getfield 94, 3) := by decide +kernel
theorem d_224_101 : decode (cM 224) 101 = .ok (.iconst 0, 1) := by decide +kernel
theorem d_224_102 : decode (cM 224) 102 = .ok (.iaload, 1) := by decide +kernel
theorem d_224_103 : decode (cM 224) 103 = .ok (.isub, 1) := by decide +kernel
theorem d_224_104 : decode (cM 224) 104 = .ok (.ireturn, 1) := by decide +kernel
theorem d_224_105 : decode (cM 224) 105 = .ok (.aload_n 0, 1) := by decide +kernel
theorem d_224_106 : decode (cM 224) 106 = .ok (.getfield 85, 3) := by decide +kernel
theorem d_224_109 : decode (cM 224) 109 = .ok (.iconst 1, 1) := by decide +kernel
theorem d_224_110 : decode (cM 224) 110 = .ok (.iaload, 1) := by decide +kernel
theorem d_224_111 : decode (cM 224) 111 = .ok (.invokestatic 392, 3) := by decide +kernel
theorem kc_224_111 : callT (oM 224) 392 = some (1, 202, 1) ∧ fok 224 202 = true ∧ stM 202 = true := by decide +kernel
theorem d_224_114 : decode (cM 224) 114 = .ok (.ireturn, 1) := by decide +kernel
theorem d_224_115 : decode (cM 224) 115 = .ok (.aload_n 0, 1) := by decide +kernel
theorem d_224_116 : decode (cM 224) 116 = .ok (.getfield 88, 3) := by decide +kernel
theorem d_224_119 : decode (cM 224) 119 = .ok (.iconst 1, 1) := by decide +kernel
theorem d_224_120 : decode (cM 224) 120 = .ok (.iaload, 1) := by decide +kernel
theorem d_224_121 : decode (cM 224) 121 = .ok (.invokestatic 392, 3) := by decide +kernel
theorem kc_224_121 : callT (oM 224) 392 = some (1, 202, 1) ∧ fok 224 202 = true ∧ stM 202 = true := by decide +kernel
theorem d_224_124 : decode (cM 224) 124 = .ok (.ireturn, 1) := by decide +kernel
theorem d_225_0 : decode (cM 225) 0 = .ok (.aload_n 0, 1) := by decide +kernel
theorem d_225_1 : decode (cM 225) 1 = .ok (.iconst 0, 1) := by decide +kernel
theorem d_225_2 : decode (cM 225) 2 = .ok (.putfield 142, 3) := by decide +kernel
theorem d_225_5 : decode (cM 225) 5 = .ok (.aload_n 0, 1) := by decide +kernel
theorem d_225_6 : decode (cM 225) 6 = .ok (.iload_n 1, 1) := by decide +kernel
theorem d_225_7 : decode (cM 225) 7 = .ok (.invokevirtual 439, 3) := by decide +kernel
theorem kc_225_7 : callT (oM 225) 439 = some (0, 199, 1) ∧ fok 225 199 = true ∧ stM 199 = false := by decide +kernel
theorem d_225_10 : decode (cM 225) 10 = .ok (.ifCond .ne 5, 3) := by decide +kernel
theorem d_225_13 : decode (cM 225) 13 = .ok (.iconst (-1), 1) := by decide +kernel
theorem d_225_14 : decode (cM 225) 14 = .ok (.ireturn, 1) := by decide +kernel
theorem d_225_15 : decode (cM 225) 15 = .ok (.aload_n 0, 1) := by decide +kernel
theorem d_225_16 : decode (cM 225) 16 = .ok (.invokevirtual 453, 3) := by decide +kernel
theorem kc_225_16 : callT (oM 225) 453 = some (0, 198, 0) ∧ fok 225 198 = true ∧ stM 198 = false := by decide +kernel
theorem d_225_19 : decode (cM 225) 19 = .ok (.iconst 0, 1) := by decide +kernel
theorem d_225_20 : decode (cM 225) 20 = .ok (.istore_n 2, 1) := by decide +kernel
theorem d_225_21 : decode (cM 225) 21 = .ok (.iload_n 2, 1) := by decide +kernel
theorem d_225_22 : decode (cM 225) 22 = .ok (.sipush 200, 3) := by decide +kernel
theorem d_225_25 : decode (cM 225) 25 = .ok (.if_icmp .ge 28, 3) := by decide +kernel
theorem d_225_28 : decode (cM 225) 28 = .ok (.aload_n 0, 1) := by decide +kernel
theorem d_225_29 : decode (cM 225) 29 = .ok (.iconst 1, 1) := by decide +kernel
theorem d_225_30 : decode (cM 225) 30 = .ok (.invokevirtual 389, 3) := by decide +kernel
theorem kc_225_30 : callT (oM 225) 389 = some (0, 203, 1) ∧ fok 225 203 = true ∧ stM 203 = false := by decide +kernel
theorem d_225_33 : decode (cM 225) 33 = .ok (.iload_n 1, 1) := by decide +kernel
theorem d_225_34 : decode (cM 225) 34 = .ok (.invokestatic 255, 3) := by decide +kernel
theorem kc_225_34 : callT (oM 225) 255 = some (1, 153, 2) ∧ fok 225 153 = true ∧ stM 153 = true := by decide +kernel
theorem d_225_37 : decode (cM 225) 37 = .ok (.ifCond .ne 5, 3) := by decide +kernel
theorem d_225_40 : decode (cM 225) 40 = .ok (.iload_n 2, 1) := by decide +kernel
theorem d_225_41 : decode (cM 225) 41 = .ok (.ireturn, 1) := by decide +kernel
theorem d_225_42 : decode (cM 225) 42 = .ok (.aload_n 0, 1) := by decide +kernel
theorem d_225_43 : decode (cM 225) 43 = .ok (.iconst 1, 1) := by decide +kernel
theorem d_225_44 : decode (cM 225) 44 = .ok (.invokevirtual 436, 3) := by decide +kernel
theorem kc_225_44 : callT (oM 225) 436 = some (0, 213, 1) ∧ fok 225 213 = true ∧ stM 213 = false := by decide +kernel
theorem d_225_47 : decode (cM 225) 47 = .ok (.iinc 2 1, 3) := by decide +kernel
theorem d_225_50 : decode (cM 225) 50 = .ok (.goto (-29), 3) := by decide +kernel
theorem d_225_53 : decode (cM 225) 53 = .ok (.bipush (-2), 2) := by decide +kernel
theorem d_225_55 : decode (cM 225) 55 = .ok (.ireturn, 1) := by decide +kernel
theorem d_226_0 : decode (cM 226) 0 = .ok (.aload_n 0, 1) := by decide +kernel
theorem d_226_1 : decode (cM 226) 1 = .ok (.iconst 1, 1) := by decide +kernel
theorem d_226_2 : decode (cM 226) 2 = .ok (.aload_n 0, 1) := by decide +kernel
theorem d_226_3 : decode (cM 226) 3 = .ok (.getfield 225, 3) := by decide +kernel
theorem d_226_6 : decode (cM 226) 6 = .ok (.ishl, 1) := by decide +kernel
theorem d_226_7 : decode (cM 226) 7 = .ok (.iconst 1, 1) := by decide +kernel
theorem d_226_8 : decode (cM 226) 8 = .ok (.isub, 1) := by decide +kernel
theorem d_226_9 : decode (cM 226) 9 = .ok (.aload_n 0, 1) := by decide +kernel
theorem d_226_10 : decode (cM 226) 10 = .ok (.getfield 88, 3) := by decide +kernel
theorem d_226_13 : decode (cM 226) 13 = .ok (.iconst 0, 1) := by decide +kernel
theorem d_226_14 : decode (cM 226) 14 = .ok (.iaload, 1) := by decide +kernel
theorem d_226_15 : decode (cM 226) 15 = .ok (.iconst (-1), 1) := by decide +kernel
theorem d_226_16 : decode (cM 226) 16 = .ok (.ixor, 1) := by decide +kernel
theorem d_226_17 : decode (cM 226) 17 = .ok (.iand, 1) := by decide +kernel
theorem d_226_18 : decode (cM 226) 18 = .ok (.putfield 459, 3) := by decide +kernel
theorem d_226_21 : decode (cM 226) 21 = .ok (.iconst 0, 1) := by decide +kernel
theorem d_226_22 : decode (cM 226) 22 = .ok (.istore_n 1, 1) := by decide +kernel
theorem d_226_23 : decode (cM 226) 23 = .ok (.iload_n 1, 1) := by decide +kernel
theorem d_226_24 : decode (cM 226) 24 = .ok (.iconst 1, 1) := by decide +kernel
theorem d_226_25 : decode (cM 226) 25 = .ok (.aload_n 0, 1) := by decide +kernel
theorem d_226_26 : decode (cM 226) 26 = .ok (.getfield 225, 3) := by decide +kernel
theorem d_226_29 : decode (cM 226) 29 = .ok (.ishl, 1) := by decide +kernel
theorem d_226_30 : decode (cM 226) 30 = .ok (.if_icmp .ge 59, 3) := by decide +kernel
theorem d_226_33 : decode (cM 226) 33 = .ok (.aload_n 0, 1) := by decide +kernel
theorem d_226_34 : decode (cM 226) 34 = .ok (.getfield 109, 3) := by decide +kernel
theorem d_226_37 : decode (cM 226) 37 = .ok (.iload_n 1, 1) := by decide +kernel
theorem d_226_38 : decode (cM 226) 38 = .ok (.iconst 0, 1) := by decide +kernel
theorem d_226_39 : decode (cM 226) 39 = .ok (.iastore, 1) := by decide +kernel
theorem d_226_40 : decode (cM 226) 40 = .ok (.iconst 0, 1) := by decide +kernel
theorem d_226_41 : decode (cM 226) 41 = .ok (.istore_n 2, 1) := by decide +kernel
theorem d_226_42 : decode (cM 226) 42 = .ok (.iload_n 2, 1) := by decide +kernel
theorem d_226_43 : decode (cM 226) 43 = .ok (.aload_n 0, 1) := by decide +kernel
theorem d_226_44 : decode (cM 226) 44 = .ok (.getfield 225, 3) := by decide +kernel
theorem d_226_47 : decode (cM 226) 47 = .ok (.if_icmp .ge 36, 3) := by decide +kernel
theorem d_226_50 : decode (cM 226) 50 = .ok (.aload_n 0, 1) := by decide +kernel
theorem d_226_51 : decode (cM 226) 51 = .ok (.getfield 109, 3) := by decide +kernel
theorem d_226_54 : decode (cM 226) 54 = .ok (.iload_n 1, 1) := by decide +kernel
theorem d_226_55 : decode (cM 226) 55 = .ok (.dup2, 1) := by decide +kernel
theorem d_226_56 : decode (cM 226) 56 = .ok (.iaload, 1) := by decide +kernel
theorem d_226_57 : decode (cM 226) 57 = .ok (.iload_n 1, 1) := by decide +kernel
theorem d_226_58 : decode (cM 226) 58 = .ok (.iload_n 2, 1) := by decide +kernel
theorem d_226_59 : decode (cM 226) 59 = .ok (.invokestatic 255, 3) := by decide +kernel
theorem kc_226_59 : callT (oM 226) 255 = some (1, 153, 2) ∧ fok 226 153 = true ∧ stM 153 = true := by decide +kernel
theorem d_226_62 : decode (cM 226) 62 = .ok (.ifCond .eq 12, 3) := by decide +kernel
theorem d_226_65 : decode (cM 226) 65 = .ok (.aload_n 0, 1) := by decide +kernel
theorem d_226_66 : decode (cM 226) 66 = .ok (.getfield 103, 3) := by decide +kernel
theorem d_226_69 : decode (cM 226) 69 = .ok (.iload_n 2, 1) := by decide +kernel
theorem d_226_70 : decode (cM 226) 70 = .ok (.iaload, 1) := by decide +kernel
theorem d_226_71 : decode (cM 226) 71 = .ok (.goto 4, 3) := by decide +kernel
theorem d_226_74 : decode (cM 226) 74 = .ok (.iconst 0, 1) := by decide +kernel
theorem d_226_75 : decode (cM 226) 75 = .ok (.ixor, 1) := by decide +kernel
theorem d_226_76 : decode (cM 226) 76 = .ok (.iastore, 1) := by decide +kernel
theorem d_226_77 : decode (cM 226) 77 = .ok (.iinc 2 1, 3) := by decide +kernel
theorem d_226_80 : decode (cM 226) 80 = .ok (.goto (-38), 3) := by decide +kernel
theorem d_226_83 : decode (cM 226) 83 = .ok (.iinc 1 1, 3) := by decide +kernel
theorem d_226_86 : decode (cM 226) 86 = .ok (.goto (-63), 3) := by decide +kernel
theorem d_226_89 : decode (cM 226) 89 = .ok (.return_, 1) := by decide +kernel
theorem d_227_0 : decode (cM 227) 0 = .ok (.iload_n 1, 1) := by decide +kernel
theorem d_227_1 : decode (cM 227) 1 = .ok (.aload_n 0, 1) := by decide +kernel
theorem d_227_2 : decode (cM 227) 2 = .ok (.getfield 459, 3) := by decide +kernel
theorem d_227_5 : decode (cM 227) 5 = .ok (.iconst (-1), 1) := by decide +kernel
theorem d_227_6 : decode (cM 227) 6 = .ok (.ixor, 1) := by decide +kernel
theorem d_227_7 : decode (cM 227) 7 = .ok (.iand, 1) := by decide +kernel
theorem d_227_8 : decode (cM 227) 8 = .ok (.ifCond .ne 17, 3) := by decide +kernel
theorem d_227_11 : decode (cM 227) 11 = .ok (.aload_n 0, 1) := by decide +kernel
theorem d_227_12 : decode (cM 227) 12 = .ok (.getfield 109, 3) := by decide +kernel
theorem d_227_15 : decode (cM 227) 15 = .ok (.iload_n 1, 1) := by decide +kernel
theorem d_227_16 : decode (cM 227) 16 = .ok (.iaload, 1) := by decide +kernel
theorem d_227_17 : decode (cM 227) 17 = .ok (.iload_n 2, 1) := by decide +kernel
theorem d_227_18 : decode (cM 227) 18 = .ok (.if_icmp .ne 7, 3) := by decide +kernel
theorem d_227_21 : decode (cM 227) 21 = .ok (.iconst 1, 1) := by decide +kernel
theorem d_227_22 : decode (cM 227) 22 = .ok (.goto 4, 3) := by decide +kernel
theorem d_227_25 : decode (cM 227) 25 = .ok (.iconst 0, 1) := by decide +kernel
theorem d_227_26 : decode (cM 227) 26 = .ok (.ireturn, 1) := by decide +kernel
theorem d_228_0 : decode (cM 228) 0 = .ok (.iconst 0, 1) := by decide +kernel
theorem d_228_1 : decode (cM 228) 1 = .ok (.istore_n 2, 1) := by decide +kernel
theorem d_228_2 : decode (cM 228) 2 = .ok (.iconst 0, 1) := by decide +kernel
theorem d_228_3 : decode (cM 228) 3 = .ok (.istore_n 3, 1) := by decide +kernel
theorem d_228_4 : decode (cM 228) 4 = .ok (.iload_n 3, 1) := by decide +kernel
theorem d_228_5 : decode (cM 228) 5 = .ok (.aload_n 0, 1) := by decide +kernel
theorem d_228_6 : decode (cM 228) 6 = .ok (.getfield 225, 3) := by decide +kernel
theorem d_228_9 : decode (cM 228) 9 = .ok (.if_icmp .ge 30, 3) := by decide +kernel
theorem d_228_12 : decode (cM 228) 12 = .ok (.iload_n 2, 1) := by decide +kernel
theorem d_228_13 : decode (cM 228) 13 = .ok (.iload_n 1, 1) := by decide +kernel
theorem d_228_14 : decode (cM 228) 14 = .ok (.iload_n 3, 1) := by decide +kernel
theorem d_228_15 : decode (cM 228) 15 = .ok (.invokestatic 255, 3) := by decide +kernel
theorem kc_228_15 : callT (oM 228) 255 = some (1, 153, 2) ∧ fok 228 153 = true ∧ stM 153 = true := by decide +kernel
theorem d_228_18 : decode (cM 228) 18 = .ok (.ifCond .eq 12, 3) := by decide +kernel
theorem d_228_21 : decode (cM 228) 21 = .ok (.aload_n 0, 1) := by decide +kernel
theorem d_228_22 : decode (cM 228) 22 = .ok (.getfield 36, 3) := by decide +kernel
theorem d_228_25 : decode (cM 228) 25 = .ok (.iload_n 3, 1) := by decide +kernel
theorem d_228_26 : decode (cM 228) 26 = .ok (.iaload, 1) := by decide +kernel
theorem d_228_27 : decode (cM 228) 27 = .ok (.goto 4, 3) := by decide +kernel
theorem d_228_30 : decode (cM 228) 30 = .ok (.iconst 0, 1) := by decide +kernel
theorem d_228_31 : decode (cM 228) 31 = .ok (.iadd, 1) := by decide +kernel
theorem d_228_32 : decode (cM 228) 32 = .ok (.istore_n 2, 1) := by decide +kernel
theorem d_228_33 : decode (cM 228) 33 = .ok (.iinc 3 1, 3) := by decide +kernel
theorem d_228_36 : decode (cM 228) 36 = .ok (.goto (-32), 3) := by decide +kernel
theorem d_228_39 : decode (cM 228) 39 = .ok (.iload_n 2, 1) := by decide +kernel
theorem d_228_40 : decode (cM 228) 40 = .ok (.ireturn, 1) := by decide +kernel
theorem d_229_0 : decode (cM 229) 0 = .ok (.aload_n 0, 1) := by decide +kernel
theorem d_229_1 : decode (cM 229) 1 = .ok (.iconst 0, 1) := by decide +kernel
theorem d_229_2 : decode (cM 229) 2 = .ok (.putfield 142, 3) := by decide +kernel
theorem d_229_5 : decode (cM 229) 5 = .ok (.aload_n 0, 1) := by decide +kernel
theorem d_229_6 : decode (cM 229) 6 = .ok (.iload_n 1, 1) := by decide +kernel
theorem d_229_7 : decode (cM 229) 7 = .ok (.invokevirtual 462, 3) := by decide +kernel
theorem kc_229_7 : callT (oM 229) 462 = some (0, 201, 1) ∧ fok 229 201 = true ∧ stM 201 = false := by decide +kernel
theorem d_229_10 : decode (cM 229) 10 = .ok (.ifCond .ne 5, 3) := by decide +kernel
theorem d_229_13 : decode (cM 229) 13 = .ok (.iconst (-1), 1) := by decide +kernel
theorem d_229_14 : decode (cM 229) 14 = .ok (.ireturn, 1) := by decide +kernel
theorem d_229_15 : decode (cM 229) 15 = .ok (.aload_n 0, 1) := by decide +kernel
theorem d_229_16 : decode (cM 229) 16 = .ok (.invokevirtual 465, 3) := by decide +kernel
theorem kc_229_16 : callT (oM 229) 465 = some (0, 226, 0) ∧ fok 229 226 = true ∧ stM 226 = false := by decide +kernel
theorem d_229_19 : decode (cM 229) 19 = .ok (.iconst 0, 1) := by decide +kernel
theorem d_229_20 : decode (cM 229) 20 = .ok (.istore_n 2, 1) := by decide +kernel
theorem d_229_21 : decode (cM 229) 21 = .ok (.iconst 0, 1) := by decide +kernel
theorem d_229_22 : decode (cM 229) 22 = .ok (.istore_n 3, 1) := by decide +kernel
theorem d_229_23 : decode (cM 229) 23 = .ok (.iload_n 3, 1) := by decide +kernel
theorem d_229_24 : decode (cM 229) 24 = .ok (.iconst 1, 1) := by decide +kernel
theorem d_229_25 : decode (cM 229) 25 = .ok (.aload_n 0, 1) := by decide +kernel
theorem d_229_26 : decode (cM 229) 26 = .ok (.getfield 225, 3) := by decide +kernel
theorem d_229_29 : decode (cM 229) 29 = .ok (.ishl, 1) := by decide +kernel
theorem d_229_30 : decode (cM 229) 30 = .ok (.if_icmp .ge 33, 3) := by decide +kernel
theorem d_229_33 : decode (cM 229) 33 = .ok (.iload_n 2, 1) := by decide +kernel
theorem d_229_34 : decode (cM 229) 34 = .ok (.aload_n 0, 1) := by decide +kernel
theorem d_229_35 : decode (cM 229) 35 = .ok (.iload_n 3, 1) := by decide +kernel
theorem d_229_36 : decode (cM 229) 36 = .ok (.iload_n 1, 1) := by decide +kernel
theorem d_229_37 : decode (cM 229) 37 = .ok (.aload_n 0, 1) := by decide +kernel
theorem d_229_38 : decode (cM 229) 38 = .ok (.getfield 82, 3) := by decide +kernel
theorem d_229_41 : decode (cM 229) 41 = .ok (.iconst 0, 1) := by decide +kernel
theorem d_229_42 : decode (cM 229) 42 = .ok (.iaload, 1) := by decide +kernel
theorem d_229_43 : decode (cM 229) 43 = .ok (.ixor, 1) := by decide +kernel
theorem d_229_44 : decode (cM 229) 44 = .ok (.invokevirtual 468, 3) := by decide +kernel
theorem kc_229_44 : callT (oM 229) 468 = some (0, 227, 2) ∧ fok 229 227 = true ∧ stM 227 = false := by decide +kernel
theorem d_229_47 : decode (cM 229) 47 = .ok (.ifCond .eq 7, 3) := by decide +kernel
theorem d_229_50 : decode (cM 229) 50 = .ok (.iconst 1, 1) := by decide +kernel
theorem d_229_51 : decode (cM 229) 51 = .ok (.goto 4, 3) := by decide +kernel
theorem d_229_54 : decode (cM 229) 54 = .ok (.iconst 0, 1) := by decide +kernel
theorem d_229_55 : decode (cM 229) 55 = .ok (.iadd, 1) := by decide +kernel
theorem d_229_56 : decode (cM 229) 56 = .ok (.istore_n 2, 1) := by decide +kernel
theorem d_229_57 : decode (cM 229) 57 = .ok (.iinc 3 1, 3) := by decide +kernel
theorem d_229_60 : decode (cM 229) 60 = .ok (.goto (-37), 3) := by decide +kernel
theorem d_229_63 : decode (cM 229) 63 = .ok (.iload_n 2, 1) := by decide +kernel
theorem d_229_64 : decode (cM 229) 64 = .ok (.ireturn, 1) := by decide +kernel
theorem d_230_0 : decode (cM 230) 0 = .ok (.bipush (-2), 2) := by decide +kernel
theorem d_230_2 : decode (cM 230) 2 = .ok (.istore_n 2, 1) := by decide +kernel
theorem d_230_3 : decode (cM 230) 3 = .ok (.iconst 0, 1) := by decide +kernel
theorem d_230_4 : decode (cM 230) 4 = .ok (.istore_n 3, 1) := by decide +kernel
theorem d_230_5 : decode (cM 230) 5 = .ok (.iload_n 3, 1) := by decide +kernel
theorem d_230_6 : decode (cM 230) 6 = .ok (.iconst 1, 1) := by decide +kernel
theorem d_230_7 : decode (cM 230) 7 = .ok (.aload_n 0, 1) := by decide +kernel
theorem d_230_8 : decode (cM 230) 8 = .ok (.getfield 225, 3) := by decide +kernel
theorem d_230_11 : decode (cM 230) 11 = .ok (.ishl, 1) := by decide +kernel
theorem d_230_12 : decode (cM 230) 12 = .ok (.if_icmp .ge 35, 3) := by decide +kernel
theorem d_230_15 : decode (cM 230) 15 = .ok (.aload_n 0, 1) := by decide +kernel
theorem d_230_16 : decode (cM 230) 16 = .ok (.iload_n 3, 1) := by decide +kernel
theorem d_230_17 : decode (cM 230) 17 = .ok (.iload_n 1, 1) := by decide +kernel
theorem d_230_18 : decode (cM 230) 18 = .ok (.invokevirtual 468, 3) := by decide +kernel
theorem kc_230_18 : callT (oM 230) 468 = some (0, 227, 2) ∧ fok 230 227 = true ∧ stM 227 = false := by decide +kernel
theorem d_230_21 : decode (cM 230) 21 = .ok (.ifCond .eq 20, 3) := by decide +kernel
theorem d_230_24 : decode (cM 230) 24 = .ok (.iload_n 2, 1) := by decide +kernel
theorem d_230_25 : decode (cM 230) 25 = .ok (.ifCond .lt 14, 3) := by decide +kernel
theorem d_230_28 : decode (cM 230) 28 = .ok (.iload_n 3, 1) := by decide +kernel
theorem d_230_29 : decode (cM 230) 29 = .ok (.invokestatic 392, 3) := by decide +kernel
theorem kc_230_29 : callT (oM 230) 392 = some (1, 202, 1) ∧ fok 230 202 = true ∧ stM 202 = true := by decide +kernel
theorem d_230_32 : decode (cM 230) 32 = .ok (.iload_n 2, 1) := by decide +kernel
theorem d_230_33 : decode (cM 230) 33 = .ok (.invokestatic 392, 3) := by decide +kernel
theorem kc_230_33 : callT (oM 230) 392 = some (1, 202, 1) ∧ fok 230 202 = true ∧ stM 202 = true := by decide +kernel
theorem d_230_36 : decode (cM 230) 36 = .ok (.if_icmp .ge 5, 3) := by decide +kernel
theorem d_230_39 : decode (cM 230) 39 = .ok (.iload_n 3, 1) := by decide +kernel
theorem d_230_40 : decode (cM 230) 40 = .ok (.istore_n 2, 1) := by decide +kernel
theorem d_230_41 : decode (cM 230) 41 = .ok (.iinc 3 1, 3) := by decide +kernel
theorem d_230_44 : decode (cM 230) 44 = .ok (.goto (-39), 3) := by decide +kernel
theorem d_230_47 : decode (cM 230) 47 = .ok (.iload_n 2, 1) := by decide +kernel
theorem d_230_48 : decode (cM 230) 48 = .ok (.ireturn, 1) := by decide +kernel
theorem d_231_0 : decode (cM 231) 0 = .ok (.aload_n 0, 1) := by decide +kernel
theorem d_231_1 : decode (cM 231) 1 = .ok (.iconst 0, 1) := by decide +kernel
theorem d_231_2 : decode (cM 231) 2 = .ok (.putfield 142, 3) := by decide +kernel
theorem d_231_5 : decode (cM 231) 5 = .ok (.aload_n 0, 1) := by decide +kernel
theorem d_231_6 : decode (cM 231) 6 = .ok (.iload_n 1, 1) := by decide +kernel
theorem d_231_7 : decode (cM 231) 7 = .ok (.invokevirtual 462, 3) := by decide +kernel
theorem kc_231_7 : callT (oM 231) 462 = some (0, 201, 1) ∧ fok 231 201 = true ∧ stM 201 = false := by decide +kernel
theorem d_231_10 : decode (cM 231) 10 = .ok (.ifCond .ne 5, 3) := by decide +kernel
theorem d_231_13 : decode (cM 231) 13 = .ok (.iconst (-1), 1) := by decide +kernel
theorem d_231_14 : decode (cM 231) 14 = .ok (.ireturn, 1) := by decide +kernel
theorem d_231_15 : decode (cM 231) 15 = .ok (.aload_n 0, 1) := by decide +kernel
theorem d_231_16 : decode (cM 231) 16 = .ok (.invokevirtual 465, 3) := by decide +kernel
theorem kc_231_16 : callT (oM 231) 465 = some (0, 226, 0) ∧ fok 231 226 = true ∧ stM 226 = false := by decide +kernel
theorem d_231_19 : decode (cM 231) 19 = .ok (.aload_n 0, 1) := by decide +kernel
theorem d_231_20 : decode (cM 231) 20 = .ok (.iload_n 1, 1) := by decide +kernel
theorem d_231_21 : decode (cM 231) 21 = .ok (.aload_n 0, 1) := by decide +kernel
theorem d_231_22 : decode (cM 231) 22 = .ok (.getfield 82, 3) := by decide +kernel
theorem d_231_25 : decode (cM 231) 25 = .ok (.iconst 0, 1) := by decide +kernel
theorem d_231_26 : decode (cM 231) 26 = .ok (.iaload, 1) := by decide +kernel
theorem d_231_27 : decode (cM 231) 27 = .ok (.ixor, 1) := by decide +kernel
theorem d_231_28 : decode (cM 231) 28 = .ok (.invokevirtual 471, 3) := by decide +kernel
theorem kc_231_28 : callT (oM 231) 471 = some (0, 230, 1) ∧ fok 231 230 = true ∧ stM 230 = false := by decide +kernel
theorem d_231_31 : decode (cM 231) 31 = .ok (.ireturn, 1) := by decide +kernel
theorem d_232_0 : decode (cM 232) 0 = .ok (.aload_n 0, 1) := by decide +kernel
theorem d_232_1 : decode (cM 232) 1 = .ok (.iconst 0, 1) := by decide +kernel
theorem d_232_2 : decode (cM 232) 2 = .ok (.putfield 142, 3) := by decide +kernel
theorem d_232_5 : decode (cM 232) 5 = .ok (.aload_n 0, 1) := by decide +kernel
theorem d_232_6 : decode (cM 232) 6 = .ok (.iload_n 1, 1) := by decide +kernel
theorem d_232_7 : decode (cM 232) 7 = .ok (.invokevirtual 462, 3) := by decide +kernel
theorem kc_232_7 : callT (oM 232) 462 = some (0, 201, 1) ∧ fok 232 201 = true ∧ stM 201 = false := by decide +kernel
theorem d_232_10 : decode (cM 232) 10 = .ok (.ifCond .eq 12, 3) := by decide +kernel
theorem d_232_13 : decode (cM 232) 13 = .ok (.iload_n 2, 1) := by decide +kernel
theorem d_232_14 : decode (cM 232) 14 = .ok (.iconst 0, 1) := by decide +kernel
theorem d_232_15 : decode (cM 232) 15 = .ok (.iconst 1, 1) := by decide +kernel
theorem d_232_16 : decode (cM 232) 16 = .ok (.invokestatic 187, 3) := by decide +kernel
theorem kc_232_16 : callT (oM 232) 187 = some (1, 152, 3) ∧ fok 232 152 = true ∧ stM 152 = true := by decide +kernel
theorem d_232_19 : decode (cM 232) 19 = .ok (.ifCond .ne 5, 3) := by decide +kernel
theorem d_232_22 : decode (cM 232) 22 = .ok (.iconst (-1), 1) := by decide +kernel
theorem d_232_23 : decode (cM 232) 23 = .ok (.ireturn, 1) := by decide +kernel
theorem d_232_24 : decode (cM 232) 24 = .ok (.aload_n 0, 1) := by decide +kernel
theorem d_232_25 : decode (cM 232) 25 = .ok (.invokevirtual 465, 3) := by decide +kernel
theorem kc_232_25 : callT (oM 232) 465 = some (0, 226, 0) ∧ fok 232 226 = true ∧ stM 226 = false := by decide +kernel
theorem d_232_28 : decode (cM 232) 28 = .ok (.bipush (-2), 2) := by decide +kernel
theorem d_232_30 : decode (cM 232) 30 = .ok (.istore_n 3, 1) := by decide +kernel
theorem d_232_31 : decode (cM 232) 31 = .ok (.iconst 0, 1) := by decide +kernel
theorem d_232_32 : decode (cM 232) 32 = .ok (.istore 4, 2) := by decide +kernel
theorem d_232_34 : decode (cM 232) 34 = .ok (.iload 4, 2) := by decide +kernel
theorem d_232_36 : decode (cM 232) 36 = .ok (.iconst 1, 1) := by decide +kernel
theorem d_232_37 : decode (cM 232) 37 = .ok (.aload_n 0, 1) := by decide +kernel
theorem d_232_38 : decode (cM 232) 38 = .ok (.getfield 225, 3) := by decide +kernel
theorem d_232_41 : decode (cM 232) 41 = .ok (.ishl, 1) := by decide +kernel
theorem d_232_42 : decode (cM 232) 42 = .ok (.if_icmp .ge 47, 3) := by decide +kernel
theorem d_232_45 : decode (cM 232) 45 = .ok (.aload_n 0, 1) := by decide +kernel
theorem d_232_46 : decode (cM 232) 46 = .ok (.iload 4, 2) := by decide +kernel
theorem d_232_48 : decode (cM 232) 48 = .ok (.iload_n 1, 1) := by decide +kernel
theorem d_232_49 : decode (cM 232) 49 = .ok (.aload_n 0, 1) := by decide +kernel
theorem d_232_50 : decode (cM 232) 50 = .ok (.getfield 82, 3) := by decide +kernel
theorem d_232_53 : decode (cM 232) 53 = .ok (.iconst 0, 1) := by decide +kernel
theorem d_232_54 : decode (cM 232) 54 = .ok (.iaload, 1) := by decide +kernel
theorem d_232_55 : decode (cM 232) 55 = .ok (.ixor, 1) := by decide +kernel
theorem d_232_56 : decode (cM 232) 56 = .ok (.invokevirtual 468, 3) := by decide +kernel
theorem kc_232_56 : callT (oM 232) 468 = some (0, 227, 2) ∧ fok 232 227 = true ∧ stM 227 = false := by decide +kernel
theorem d_232_59 : decode (cM 232) 59 = .ok (.ifCond .eq 24, 3) := by decide +kernel
theorem d_232_62 : decode (cM 232) 62 = .ok (.iload_n 3, 1) := by decide +kernel
theorem d_232_63 : decode (cM 232) 63 = .ok (.ifCond .lt 17, 3) := by decide +kernel
theorem d_232_66 : decode (cM 232) 66 = .ok (.aload_n 0, 1) := by decide +kernel
theorem d_232_67 : decode (cM 232) 67 = .ok (.iload 4, 2) := by decide +kernel
theorem d_232_69 : decode (cM 232) 69 = .ok (.invokevirtual 474, 3) := by decide +kernel
theorem kc_232_69 : callT (oM 232) 474 = some (0, 228, 1) ∧ fok 232 228 = true ∧ stM 228 = false := by decide +kernel
theorem d_232_72 : decode (cM 232) 72 = .ok (.aload_n 0, 1) := by decide +kernel
theorem d_232_73 : decode (cM 232) 73 = .ok (.iload_n 3, 1) := by decide +kernel
theorem d_232_74 : decode (cM 232) 74 = .ok (.invokevirtual 474, 3) := by decide +kernel
theorem kc_232_74 : callT (oM 232) 474 = some (0, 228, 1) ∧ fok 232 228 = true ∧ stM 228 = false := by decide +kernel
theorem d_232_77 : decode (cM 232) 77 = .ok (.if_icmp .ge 6, 3) := by decide +kernel
theorem d_232_80 : decode (cM 232) 80 = .ok (.iload 4, 2) := by decide +kernel
theorem d_232_82 : decode (cM 232) 82 = .ok (.istore_n 3, 1) := by decide +kernel
theorem d_232_83 : decode (cM 232) 83 = .ok (.iinc 4 1, 3) := by decide +kernel
theorem d_232_86 : decode (cM 232) 86 = .ok (.goto (-52), 3) := by decide +kernel
theorem d_232_89 : decode (cM 232) 89 = .ok (.iload_n 3, 1) := by decide +kernel
theorem d_232_90 : decode (cM 232) 90 = .ok (.ifCond .lt 7, 3) := by decide +kernel
theorem d_232_93 : decode (cM 232) 93 = .ok (.iload_n 2, 1) := by decide +kernel
theorem d_232_94 : decode (cM 232) 94 = .ok (.ifCond .ne 7, 3) := by decide +kernel
theorem d_232_97 : decode (cM 232) 97 = .ok (.iload_n 3, 1) := by decide +kernel
theorem d_232_98 : decode (cM 232) 98 = .ok (.goto 8, 3) := by decide +kernel
theorem d_232_101 : decode (cM 232) 101 = .ok (.aload_n 0, 1) := by decide +kernel
theorem d_232_102 : decode (cM 232) 102 = .ok (.iload_n 3, 1) := by decide +kernel
theorem d_232_103 : decode (cM 232) 103 = .ok (.invokevirtual 474, 3) := by decide +kernel
theorem kc_232_103 : callT (oM 232) 474 = some (0, 228, 1) ∧ fok 232 228 = true ∧ stM 228 = false := by decide +kernel
theorem d_232_106 : decode (cM 232) 106 = .ok (.ireturn, 1) := by decide +kernel
theorem d_233_0 : decode (cM 233) 0 = .ok (.aload_n 0, 1) := by decide +kernel
theorem d_233_1 : decode (cM 233) 1 = .ok (.iconst 0, 1) := by decide +kernel
theorem d_233_2 : decode (cM 233) 2 = .ok (.putfield 142, 3) := by decide +kernel
theorem d_233_5 : decode (cM 233) 5 = .ok (.aload_n 0, 1) := by decide +kernel
theorem d_233_6 : decode (cM 233) 6 = .ok (.iload_n 1, 1) := by decide +kernel
theorem d_233_7 : decode (cM 233) 7 = .ok (.invokevirtual 462, 3) := by decide +kernel
theorem kc_233_7 : callT (oM 233) 462 = some (0, 201, 1) ∧ fok 233 201 = true ∧ stM 201 = false := by decide +kernel
theorem d_233_10 : decode (cM 233) 10 = .ok (.ifCond .eq 12, 3) := by decide +kernel
theorem d_233_13 : decode (cM 233) 13 = .ok (.iload_n 2, 1) := by decide +kernel
theorem d_233_14 : decode (cM 233) 14 = .ok (.iconst 0, 1) := by decide +kernel
theorem d_233_15 : decode (cM 233) 15 = .ok (.iconst 1, 1) := by decide +kernel
theorem d_233_16 : decode (cM 233) 16 = .ok (.invokestatic 187, 3) := by decide +kernel
theorem kc_233_16 : callT (oM 233) 187 = some (1, 152, 3) ∧ fok 233 152 = true ∧ stM 152 = true := by decide +kernel
theorem d_233_19 : decode (cM 233) 19 = .ok (.ifCond .ne 5, 3) := by decide +kernel
theorem d_233_22 : decode (cM 233) 22 = .ok (.iconst (-1), 1) := by decide +kernel
theorem d_233_23 : decode (cM 233) 23 = .ok (.ireturn, 1) := by decide +kernel
theorem d_233_24 : decode (cM 233) 24 = .ok (.aload_n 0, 1) := by decide +kernel
theorem d_233_25 : decode (cM 233) 25 = .ok (.invokevirtual 465, 3) := by decide +kernel
theorem kc_233_25 : callT (oM 233) 465 = some (0, 226, 0) ∧ fok 233 226 = true ∧ stM 226 = false := by decide +kernel
theorem d_233_28 : decode (cM 233) 28 = .ok (.aload_n 0, 1) := by decide +kernel
theorem d_233_29 : decode (cM 233) 29 = .ok (.getfield 459, 3) := by decide +kernel
theorem d_233_32 : decode (cM 233) 32 = .ok (.istore_n 3, 1) := by decide +kernel
theorem d_233_33 : decode (cM 233) 33 = .ok (.iconst 0, 1) := by decide +kernel
theorem d_233_34 : decode (cM 233) 34 = .ok (.istore 4, 2) := by decide +kernel
theorem d_233_36 : decode (cM 233) 36 = .ok (.iconst 0, 1) := by decide +kernel
theorem d_233_37 : decode (cM 233) 37 = .ok (.istore 5, 2) := by decide +kernel
theorem d_233_39 : decode (cM 233) 39 = .ok (.iconst 0, 1) := by decide +kernel
theorem d_233_40 : decode (cM 233) 40 = .ok (.istore 6, 2) := by decide +kernel
theorem d_233_42 : decode (cM 233) 42 = .ok (.iload 6, 2) := by decide +kernel
theorem d_233_44 : decode (cM 233) 44 = .ok (.iconst 1, 1) := by decide +kernel
theorem d_233_45 : decode (cM 233) 45 = .ok (.aload_n 0, 1) := by decide +kernel
theorem d_233_46 : decode (cM 233) 46 = .ok (.getfield 225, 3) := by decide +kernel
theorem d_233_49 : decode (cM 233) 49 = .ok (.ishl, 1) := by decide +kernel
theorem d_233_50 : decode (cM 233) 50 = .ok (.if_icmp .ge 44, 3) := by decide +kernel
theorem d_233_53 : decode (cM 233) 53 = .ok (.aload_n 0, 1) := by decide +kernel
theorem d_233_54 : decode (cM 233) 54 = .ok (.iload 6, 2) := by decide +kernel
theorem d_233_56 : decode (cM 233) 56 = .ok (.iload_n 1, 1) := by decide +kernel
theorem d_233_57 : decode (cM 233) 57 = .ok (.aload_n 0, 1) := by decide +kernel
theorem d_233_58 : decode (cM 233) 58 = .ok (.getfield 82, 3) := by decide +kernel
theorem d_233_61 : decode (cM 233) 61 = .ok (.iconst 0, 1) := by decide +kernel
theorem d_233_62 : decode (cM 233) 62 = .ok (.iaload, 1) := by decide +kernel
theorem d_233_63 : decode (cM 233) 63 = .ok (.ixor, 1) := by decide +kernel
theorem d_233_64 : decode (cM 233) 64 = .ok (.invokevirtual 468, 3) := by decide +kernel
theorem kc_233_64 : callT (oM 233) 468 = some (0, 227, 2) ∧ fok 233 227 = true ∧ stM 227 = false := by decide +kernel
theorem d_233_67 : decode (cM 233) 67 = .ok (.ifCond .ne 6, 3) := by decide +kernel
theorem d_233_70 : decode (cM 233) 70 = .ok (.goto 18, 3) := by decide +kernel
theorem d_233_73 : decode (cM 233) 73 = .ok (.iload_n 3, 1) := by decide +kernel
theorem d_233_74 : decode (cM 233) 74 = .ok (.iload 6, 2) := by decide +kernel
theorem d_233_76 : decode (cM 233) 76 = .ok (.iand, 1) := by decide +kernel
theorem d_233_77 : decode (cM 233) 77 = .ok (.istore_n 3, 1) := by decide +kernel
theorem d_233_78 : decode (cM 233) 78 = .ok (.iload 4, 2) := by decide +kernel
theorem d_233_80 : decode (cM 233) 80 = .ok (.iload 6, 2) := by decide +kernel
theorem d_233_82 : decode (cM 233) 82 = .ok (.ior, 1) := by decide +kernel
theorem d_233_83 : decode (cM 233) 83 = .ok (.istore 4, 2) := by decide +kernel
theorem d_233_85 : decode (cM 233) 85 = .ok (.iinc 5 1, 3) := by decide +kernel
theorem d_233_88 : decode (cM 233) 88 = .ok (.iinc 6 1, 3) := by decide +kernel
theorem d_233_91 : decode (cM 233) 91 = .ok (.goto (-49), 3) := by decide +kernel
theorem d_233_94 : decode (cM 233) 94 = .ok (.iload 5, 2) := by decide +kernel
theorem d_233_96 : decode (cM 233) 96 = .ok (.ifCond .ne 8, 3) := by decide +kernel
theorem d_233_99 : decode (cM 233) 99 = .ok (.bipush (-2), 2) := by decide +kernel
theorem d_233_101 : decode (cM 233) 101 = .ok (.goto 20, 3) := by decide +kernel
theorem d_233_104 : decode (cM 233) 104 = .ok (.iload_n 2, 1) := by decide +kernel
theorem d_233_105 : decode (cM 233) 105 = .ok (.ifCond .ne 7, 3) := by decide +kernel
theorem d_233_108 : decode (cM 233) 108 = .ok (.iload_n 3, 1) := by decide +kernel
theorem d_233_109 : decode (cM 233) 109 = .ok (.goto 12, 3) := by decide +kernel
theorem d_233_112 : decode (cM 233) 112 = .ok (.aload_n 0, 1) := by decide +kernel
theorem d_233_113 : decode (cM 233) 113 = .ok (.getfield 459, 3) := by decide +kernel
theorem d_233_116 : decode (cM 233) 116 = .ok (.iload 4, 2) := by decide +kernel
theorem d_233_118 : decode (cM 233) 118 = .ok (.iconst (-1), 1) := by decide +kernel
theorem d_233_119 : decode (cM 233) 119 = .ok (.ixor, 1) := by decide +kernel
theorem d_233_120 : decode (cM 233) 120 = .ok (.iand, 1) := by decide +kernel
theorem d_233_121 : decode (cM 233) 121 = .ok (.ireturn, 1) := by decide +kernel
theorem d_234_0 : decode (cM 234) 0 = .ok (.iconst 0, 1) := by decide +kernel
theorem d_234_1 : decode (cM 234) 1 = .ok (.istore_n 1, 1) := by decide +kernel
theorem d_234_2 : decode (cM 234) 2 = .ok (.iconst 1, 1) := by decide +kernel
theorem d_234_3 : decode (cM 234) 3 = .ok (.istore_n 2, 1) := by decide +kernel
theorem d_234_4 : decode (cM 234) 4 = .ok (.iload_n 2, 1) := by decide +kernel
theorem d_234_5 : decode (cM 234) 5 = .ok (.iconst 1, 1) := by decide +kernel
theorem d_234_6 : decode (cM 234) 6 = .ok (.aload_n 0, 1) := by decide +kernel
theorem d_234_7 : decode (cM 234) 7 = .ok (.getfield 225, 3) := by decide +kernel
theorem d_234_10 : decode (cM 234) 10 = .ok (.ishl, 1) := by decide +kernel
theorem d_234_11 : decode (cM 234) 11 = .ok (.if_icmp .ge 26, 3) := by decide +kernel
theorem d_234_14 : decode (cM 234) 14 = .ok (.iload_n 1, 1) := by decide +kernel
theorem d_234_15 : decode (cM 234) 15 = .ok (.aload_n 0, 1) := by decide +kernel
theorem d_234_16 : decode (cM 234) 16 = .ok (.iload_n 2, 1) := by decide +kernel
theorem d_234_17 : decode (cM 234) 17 = .ok (.iconst 0, 1) := by decide +kernel
theorem d_234_18 : decode (cM 234) 18 = .ok (.invokevirtual 468, 3) := by decide +kernel
theorem kc_234_18 : callT (oM 234) 468 = some (0, 227, 2) ∧ fok 234 227 = true ∧ stM 227 = false := by decide +kernel
theorem d_234_21 : decode (cM 234) 21 = .ok (.ifCond .eq 7, 3) := by decide +kernel
theorem d_234_24 : decode (cM 234) 24 = .ok (.iconst 1, 1) := by decide +kernel
theorem d_234_25 : decode (cM 234) 25 = .ok (.goto 4, 3) := by decide +kernel
theorem d_234_28 : decode (cM 234) 28 = .ok (.iconst 0, 1) := by decide +kernel
theorem d_234_29 : decode (cM 234) 29 = .ok (.iadd, 1) := by decide +kernel
theorem d_234_30 : decode (cM 234) 30 = .ok (.istore_n 1, 1) := by decide +kernel
theorem d_234_31 : decode (cM 234) 31 = .ok (.iinc 2 1, 3) := by decide +kernel
theorem d_234_34 : decode (cM 234) 34 = .ok (.goto (-30), 3) := by decide +kernel
theorem d_234_37 : decode (cM 234) 37 = .ok (.iload_n 1, 1) := by decide +kernel
theorem d_234_38 : decode (cM 234) 38 = .ok (.ireturn, 1) := by decide +kernel
theorem d_235_0 : decode (cM 235) 0 = .ok (.aload_n 0, 1) := by decide +kernel
theorem d_235_1 : decode (cM 235) 1 = .ok (.invokevirtual 465, 3) := by decide +kernel
theorem kc_235_1 : callT (oM 235) 465 = some (0, 226, 0) ∧ fok 235 226 = true ∧ stM 226 = false := by decide +kernel
theorem d_235_4 : decode (cM 235) 4 = .ok (.aload_n 0, 1) := by decide +kernel
theorem d_235_5 : decode (cM 235) 5 = .ok (.getfield 459, 3) := by decide +kernel
theorem d_235_8 : decode (cM 235) 8 = .ok (.invokestatic 392, 3) := by decide +kernel
theorem kc_235_8 : callT (oM 235) 392 = some (1, 202, 1) ∧ fok 235 202 = true ∧ stM 202 = true := by decide +kernel
theorem d_235_11 : decode (cM 235) 11 = .ok (.istore_n 1, 1) := by decide +kernel
theorem d_235_12 : decode (cM 235) 12 = .ok (.aload_n 0, 1) := by decide +kernel
theorem d_235_13 : decode (cM 235) 13 = .ok (.invokevirtual 477, 3) := by decide +kernel
theorem kc_235_13 : callT (oM 235) 477 = some (0, 234, 0) ∧ fok 235 234 = true ∧ stM 234 = false := by decide +kernel
theorem d_235_16 : decode (cM 235) 16 = .ok (.iconst 1, 1) := by decide +kernel
theorem d_235_17 : decode (cM 235) 17 = .ok (.iadd, 1) := by decide +kernel
theorem d_235_18 : decode (cM 235) 18 = .ok (.istore_n 2, 1) := by decide +kernel
theorem d_235_19 : decode (cM 235) 19 = .ok (.iload_n 2, 1) := by decide +kernel
theorem d_235_20 : decode (cM 235) 20 = .ok (.iconst 1, 1) := by decide +kernel
theorem d_235_21 : decode (cM 235) 21 = .ok (.if_icmp .le 13, 3) := by decide +kernel
theorem d_235_24 : decode (cM 235) 24 = .ok (.iinc 1 (-1), 3) := by decide +kernel
theorem d_235_27 : decode (cM 235) 27 = .ok (.iload_n 2, 1) := by decide +kernel
theorem d_235_28 : decode (cM 235) 28 = .ok (.iconst 2, 1) := by decide +kernel
theorem d_235_29 : decode (cM 235) 29 = .ok (.idiv, 1) := by decide +kernel
theorem d_235_30 : decode (cM 235) 30 = .ok (.istore_n 2, 1) := by decide +kernel
theorem d_235_31 : decode (cM 235) 31 = .ok (.goto (-12), 3) := by decide +kernel
theorem d_235_34 : decode (cM 235) 34 = .ok (.iload_n 1, 1) := by decide +kernel
theorem d_235_35 : decode (cM 235) 35 = .ok (.ireturn, 1) := by decide +kernel
theorem d_236_0 : decode (cM 236) 0 = .ok (.aload_n 0, 1) := by decide +kernel
theorem d_236_1 : decode (cM 236) 1 = .ok (.iconst 0, 1) := by decide +kernel
theorem d_236_2 : decode (cM 236) 2 = .ok (.putfield 142, 3) := by decide +kernel
theorem d_236_5 : decode (cM 236) 5 = .ok (.aload_n 0, 1) := by decide +kernel
theorem d_236_6 : decode (cM 236) 6 = .ok (.invokevirtual 480, 3) := by decide +kernel
theorem kc_236_6 : callT (oM 236) 480 = some (0, 235, 0) ∧ fok 236 235 = true ∧ stM 235 = false := by decide +kernel
theorem d_236_9 : decode (cM 236) 9 = .ok (.ireturn, 1) := by decide +kernel
theorem d_237_0 : decode (cM 237) 0 = .ok (.iconst 0, 1) := by decide +kernel
theorem d_237_1 : decode (cM 237) 1 = .ok (.istore_n 3, 1) := by decide +kernel
theorem d_237_2 : decode (cM 237) 2 = .ok (.iload_n 3, 1) := by decide +kernel
theorem d_237_3 : decode (cM 237) 3 = .ok (.iconst 1, 1) := by decide +kernel
theorem d_237_4 : decode (cM 237) 4 = .ok (.iload_n 1, 1) := by decide +kernel
theorem d_237_5 : decode (cM 237) 5 = .ok (.ishl, 1) := by decide +kernel
theorem d_237_6 : decode (cM 237) 6 = .ok (.if_icmp .ge 33, 3) := by decide +kernel
theorem d_237_9 : decode (cM 237) 9 = .ok (.iload_n 3, 1) := by decide +kernel
theorem d_237_10 : decode (cM 237) 10 = .ok (.iload_n 2, 1) := by decide +kernel
theorem d_237_11 : decode (cM 237) 11 = .ok (.iconst (-1), 1) := by decide +kernel
theorem d_237_12 : decode (cM 237) 12 = .ok (.ixor, 1) := by decide +kernel
theorem d_237_13 : decode (cM 237) 13 = .ok (.iand, 1) := by decide +kernel
theorem d_237_14 : decode (cM 237) 14 = .ok (.ifCond .ne 19, 3) := by decide +kernel
theorem d_237_17 : decode (cM 237) 17 = .ok (.aload_n 0, 1) := by decide +kernel
theorem d_237_18 : decode (cM 237) 18 = .ok (.iload_n 3, 1) := by decide +kernel
theorem d_237_19 : decode (cM 237) 19 = .ok (.aload_n 0, 1) := by decide +kernel
theorem d_237_20 : decode (cM 237) 20 = .ok (.getfield 103, 3) := by decide +kernel
theorem d_237_23 : decode (cM 237) 23 = .ok (.iload_n 1, 1) := by decide +kernel
theorem d_237_24 : decode (cM 237) 24 = .ok (.iaload, 1) := by decide +kernel
theorem d_237_25 : decode (cM 237) 25 = .ok (.invokevirtual 468, 3) := by decide +kernel
theorem kc_237_25 : callT (oM 237) 468 = some (0, 227, 2) ∧ fok 237 227 = true ∧ stM 227 = false := by decide +kernel
theorem d_237_28 : decode (cM 237) 28 = .ok (.ifCond .eq 5, 3) := by decide +kernel
theorem d_237_31 : decode (cM 237) 31 = .ok (.iconst 1, 1) := by decide +kernel
theorem d_237_32 : decode (cM 237) 32 = .ok (.ireturn, 1) := by decide +kernel
theorem d_237_33 : decode (cM 237) 33 = .ok (.iinc 3 1, 3) := by decide +kernel
theorem d_237_36 : decode (cM 237) 36 = .ok (.goto (-34), 3) := by decide +kernel
theorem d_237_39 : decode (cM 237) 39 = .ok (.iconst 0, 1) := by decide +kernel
theorem d_237_40 : decode (cM 237) 40 = .ok (.ireturn, 1) := by decide +kernel
theorem d_238_0 : decode (cM 238) 0 = .ok (.aload_n 0, 1) := by decide +kernel
theorem d_238_1 : decode (cM 238) 1 = .ok (.invokevirtual 465, 3) := by decide +kernel
theorem kc_238_1 : callT (oM 238) 465 = some (0, 226, 0) ∧ fok 238 226 = true ∧ stM 226 = false := by decide +kernel
theorem d_238_4 : decode (cM 238) 4 = .ok (.iconst 0, 1) := by decide +kernel
theorem d_238_5 : decode (cM 238) 5 = .ok (.istore_n 1, 1) := by decide +kernel
theorem d_238_6 : decode (cM 238) 6 = .ok (.iconst 0, 1) := by decide +kernel
theorem d_238_7 : decode (cM 238) 7 = .ok (.istore_n 2, 1) := by decide +kernel
theorem d_238_8 : decode (cM 238) 8 = .ok (.iload_n 2, 1) := by decide +kernel
theorem d_238_9 : decode (cM 238) 9 = .ok (.aload_n 0, 1) := by decide +kernel
theorem d_238_10 : decode (cM 238) 10 = .ok (.getfield 225, 3) := by decide +kernel
theorem d_238_13 : decode (cM 238) 13 = .ok (.if_icmp .ge 42, 3) := by decide +kernel
theorem d_238_16 : decode (cM 238) 16 = .ok (.iload_n 1, 1) := by decide +kernel
theorem d_238_17 : decode (cM 238) 17 = .ok (.aload_n 0, 1) := by decide +kernel
theorem d_238_18 : decode (cM 238) 18 = .ok (.getfield 459, 3) := by decide +kernel
theorem d_238_21 : decode (cM 238) 21 = .ok (.iload_n 2, 1) := by decide +kernel
theorem d_238_22 : decode (cM 238) 22 = .ok (.invokestatic 255, 3) := by decide +kernel
theorem kc_238_22 : callT (oM 238) 255 = some (1, 153, 2) ∧ fok 238 153 = true ∧ stM 153 = true := by decide +kernel
theorem d_238_25 : decode (cM 238) 25 = .ok (.ifCond .eq 21, 3) := by decide +kernel
theorem d_238_28 : decode (cM 238) 28 = .ok (.aload_n 0, 1) := by decide +kernel
theorem d_238_29 : decode (cM 238) 29 = .ok (.iload_n 2, 1) := by decide +kernel
theorem d_238_30 : decode (cM 238) 30 = .ok (.aload_n 0, 1) := by decide +kernel
theorem d_238_31 : decode (cM 238) 31 = .ok (.getfield 459, 3) := by decide +kernel
theorem d_238_34 : decode (cM 238) 34 = .ok (.invokevirtual 483, 3) := by decide +kernel
theorem kc_238_34 : callT (oM 238) 483 = some (0, 237, 2) ∧ fok 238 237 = true ∧ stM 237 = false := by decide +kernel
theorem d_238_37 : decode (cM 238) 37 = .ok (.ifCond .ne 9, 3) := by decide +kernel
theorem d_238_40 : decode (cM 238) 40 = .ok (.iconst 1, 1) := by decide +kernel
theorem d_238_41 : decode (cM 238) 41 = .ok (.iload_n 2, 1) := by decide +kernel
theorem d_238_42 : decode (cM 238) 42 = .ok (.ishl, 1) := by decide +kernel
theorem d_238_43 : decode (cM 238) 43 = .ok (.goto 4, 3) := by decide +kernel
theorem d_238_46 : decode (cM 238) 46 = .ok (.iconst 0, 1) := by decide +kernel
theorem d_238_47 : decode (cM 238) 47 = .ok (.ior, 1) := by decide +kernel
theorem d_238_48 : decode (cM 238) 48 = .ok (.istore_n 1, 1) := by decide +kernel
theorem d_238_49 : decode (cM 238) 49 = .ok (.iinc 2 1, 3) := by decide +kernel
theorem d_238_52 : decode (cM 238) 52 = .ok (.goto (-44), 3) := by decide +kernel
theorem d_238_55 : decode (cM 238) 55 = .ok (.iload_n 1, 1) := by decide +kernel
theorem d_238_56 : decode (cM 238) 56 = .ok (.ireturn, 1) := by decide +kernel
theorem d_239_0 : decode (cM 239) 0 = .ok (.aload_n 0, 1) := by decide +kernel
theorem d_239_1 : decode (cM 239) 1 = .ok (.iconst 0, 1) := by decide +kernel
theorem d_239_2 : decode (cM 239) 2 = .ok (.putfield 142, 3) := by decide +kernel
theorem d_239_5 : decode (cM 239) 5 = .ok (.aload_n 0, 1) := by decide +kernel
theorem d_239_6 : decode (cM 239) 6 = .ok (.invokevirtual 486, 3) := by decide +kernel
theorem kc_239_6 : callT (oM 239) 486 = some (0, 238, 0) ∧ fok 239 238 = true ∧ stM 238 = false := by decide +kernel
theorem d_239_9 : decode (cM 239) 9 = .ok (.ireturn, 1) := by decide +kernel
theorem d_240_0 : decode (cM 240) 0 = .ok (.aload_n 0, 1) := by decide +kernel
theorem d_240_1 : decode (cM 240) 1 = .ok (.iconst 0, 1) := by decide +kernel
theorem d_240_2 : decode (cM 240) 2 = .ok (.putfield 142, 3) := by decide +kernel
theorem d_240_5 : decode (cM 240) 5 = .ok (.aload_n 0, 1) := by decide +kernel
theorem d_240_6 : decode (cM 240) 6 = .ok (.iload_n 1, 1) := by decide +kernel
theorem d_240_7 : decode (cM 240) 7 = .ok (.invokevirtual 445, 3) := by decide +kernel
theorem kc_240_7 : callT (oM 240) 445 = some (0, 200, 1) ∧ fok 240 200 = true ∧ stM 200 = false := by decide +kernel
theorem d_240_10 : decode (cM 240) 10 = .ok (.ifCond .ne 5, 3) := by decide +kernel
theorem d_240_13 : decode (cM 240) 13 = .ok (.iconst (-1), 1) := by decide +kernel
theorem d_240_14 : decode (cM 240) 14 = .ok (.ireturn, 1) := by decide +kernel
theorem d_240_15 : decode (cM 240) 15 = .ok (.aload_n 0, 1) := by decide +kernel
theorem d_240_16 : decode (cM 240) 16 = .ok (.invokevirtual 486, 3) := by decide +kernel
theorem kc_240_16 : callT (oM 240) 486 = some (0, 238, 0) ∧ fok 240 238 = true ∧ stM 238 = false := by decide +kernel
theorem d_240_19 : decode (cM 240) 19 = .ok (.istore_n 2, 1) := by decide +kernel
theorem d_240_20 : decode (cM 240) 20 = .ok (.iload_n 2, 1) := by decide +kernel
theorem d_240_21 : decode (cM 240) 21 = .ok (.iload_n 1, 1) := by decide +kernel
theorem d_240_22 : decode (cM 240) 22 = .ok (.invokestatic 255, 3) := by decide +kernel
theorem kc_240_22 : callT (oM 240) 255 = some (1, 153, 2) ∧ fok 240 153 = true ∧ stM 153 = true := by decide +kernel
theorem d_240_25 : decode (cM 240) 25 = .ok (.ifCond .ne 14, 3) := by decide +kernel
theorem d_240_28 : decode (cM 240) 28 = .ok (.aload_n 0, 1) := by decide +kernel
theorem d_240_29 : decode (cM 240) 29 = .ok (.getfield 459, 3) := by decide +kernel
theorem d_240_32 : decode (cM 240) 32 = .ok (.iload_n 1, 1) := by decide +kernel
theorem d_240_33 : decode (cM 240) 33 = .ok (.invokestatic 255, 3) := by decide +kernel
theorem kc_240_33 : callT (oM 240) 255 = some (1, 153, 2) ∧ fok 240 153 = true ∧ stM 153 = true := by decide +kernel
theorem d_240_36 : decode (cM 240) 36 = .ok (.ifCond .ne 6, 3) := by decide +kernel
theorem d_240_39 : decode (cM 240) 39 = .ok (.bipush (-2), 2) := by decide +kernel
theorem d_240_41 : decode (cM 240) 41 = .ok (.ireturn, 1) := by decide +kernel
theorem d_240_42 : decode (cM 240) 42 = .ok (.iconst 0, 1) := by decide +kernel
theorem d_240_43 : decode (cM 240) 43 = .ok (.istore_n 3, 1) := by decide +kernel
theorem d_240_44 : decode (cM 240) 44 = .ok (.iload_n 3, 1) := by decide +kernel
theorem d_240_45 : decode (cM 240) 45 = .ok (.iload_n 2, 1) := by decide +kernel
theorem d_240_46 : decode (cM 240) 46 = .ok (.iconst (-1), 1) := by decide +kernel
theorem d_240_47 : decode (cM 240) 47 = .ok (.ixor, 1) := by decide +kernel
theorem d_240_48 : decode (cM 240) 48 = .ok (.iand, 1) := by decide +kernel
theorem d_240_49 : decode (cM 240) 49 = .ok (.ifCond .ne 17, 3) := by decide +kernel
theorem d_240_52 : decode (cM 240) 52 = .ok (.aload_n 0, 1) := by decide +kernel
theorem d_240_53 : decode (cM 240) 53 = .ok (.iload_n 3, 1) := by decide +kernel
theorem d_240_54 : decode (cM 240) 54 = .ok (.aload_n 0, 1) := by decide +kernel
theorem d_240_55 : decode (cM 240) 55 = .ok (.getfield 103, 3) := by decide +kernel
theorem d_240_58 : decode (cM 240) 58 = .ok (.iload_n 1, 1) := by decide +kernel
theorem d_240_59 : decode (cM 240) 59 = .ok (.iaload, 1) := by decide +kernel
theorem d_240_60 : decode (cM 240) 60 = .ok (.invokevirtual 468, 3) := by decide +kernel
theorem kc_240_60 : callT (oM 240) 468 = some (0, 227, 2) ∧ fok 240 227 = true ∧ stM 227 = false := by decide +kernel
theorem d_240_63 : decode (cM 240) 63 = .ok (.ifCond .ne 9, 3) := by decide +kernel
theorem d_240_66 : decode (cM 240) 66 = .ok (.iinc 3 1, 3) := by decide +kernel
theorem d_240_69 : decode (cM 240) 69 = .ok (.goto (-25), 3) := by decide +kernel
theorem d_240_72 : decode (cM 240) 72 = .ok (.iload_n 3, 1) := by decide +kernel
theorem d_240_73 : decode (cM 240) 73 = .ok (.ireturn, 1) := by decide +kernel
theorem d_241_0 : decode (cM 241) 0 = .ok (.aload_n 0, 1) := by decide +kernel
theorem d_241_1 : decode (cM 241) 1 = .ok (.iconst 0, 1) := by decide +kernel
theorem d_241_2 : decode (cM 241) 2 = .ok (.putfield 142, 3) := by decide +kernel
theorem d_241_5 : decode (cM 241) 5 = .ok (.iload_n 1, 1) := by decide +kernel
theorem d_241_6 : decode (cM 241) 6 = .ok (.iconst 0, 1) := by decide +kernel
theorem d_241_7 : decode (cM 241) 7 = .ok (.iconst 1, 1) := by decide +kernel
theorem d_241_8 : decode (cM 241) 8 = .ok (.invokestatic 187, 3) := by decide +kernel
theorem kc_241_8 : callT (oM 241) 187 = some (1, 152, 3) ∧ fok 241 152 = true ∧ stM 152 = true := by decide +kernel
theorem d_241_11 : decode (cM 241) 11 = .ok (.ifCond .ne 5, 3) := by decide +kernel
theorem d_241_14 : decode (cM 241) 14 = .ok (.iconst (-1), 1) := by decide +kernel
theorem d_241_15 : decode (cM 241) 15 = .ok (.ireturn, 1) := by decide +kernel
theorem d_241_16 : decode (cM 241) 16 = .ok (.aload_n 0, 1) := by decide +kernel
theorem d_241_17 : decode (cM 241) 17 = .ok (.invokevirtual 465, 3) := by decide +kernel
theorem kc_241_17 : callT (oM 241) 465 = some (0, 226, 0) ∧ fok 241 226 = true ∧ stM 226 = false := by decide +kernel
theorem d_241_20 : decode (cM 241) 20 = .ok (.iload_n 1, 1) := by decide +kernel
theorem d_241_21 : decode (cM 241) 21 = .ok (.ifCond .ne 8, 3) := by decide +kernel
theorem d_241_24 : decode (cM 241) 24 = .ok (.aload_n 0, 1) := by decide +kernel
theorem d_241_25 : decode (cM 241) 25 = .ok (.invokevirtual 477, 3) := by decide +kernel
theorem kc_241_25 : callT (oM 241) 477 = some (0, 234, 0) ∧ fok 241 234 = true ∧ stM 234 = false := by decide +kernel
theorem d_241_28 : decode (cM 241) 28 = .ok (.ireturn, 1) := by decide +kernel
theorem d_241_29 : decode (cM 241) 29 = .ok (.iconst 0, 1) := by decide +kernel
theorem d_241_30 : decode (cM 241) 30 = .ok (.istore_n 2, 1) := by decide +kernel
theorem d_241_31 : decode (cM 241) 31 = .ok (.iconst 1, 1) := by decide +kernel
theorem d_241_32 : decode (cM 241) 32 = .ok (.istore_n 3, 1) := by decide +kernel
theorem d_241_33 : decode (cM 241) 33 = .ok (.iload_n 3, 1) := by decide +kernel
theorem d_241_34 : decode (cM 241) 34 = .ok (.iconst 1, 1) := by decide +kernel
theorem d_241_35 : decode (cM 241) 35 = .ok (.aload_n 0, 1) := by decide +kernel
theorem d_241_36 : decode (cM 241) 36 = .ok (.getfield 225, 3) := by decide +kernel
theorem d_241_39 : decode (cM 241) 39 = .ok (.ishl, 1) := by decide +kernel
theorem d_241_40 : decode (cM 241) 40 = .ok (.if_icmp .ge 35, 3) := by decide +kernel
theorem d_241_43 : decode (cM 241) 43 = .ok (.aload_n 0, 1) := by decide +kernel
theorem d_241_44 : decode (cM 241) 44 = .ok (.iload_n 3, 1) := by decide +kernel
theorem d_241_45 : decode (cM 241) 45 = .ok (.iconst 0, 1) := by decide +kernel
theorem d_241_46 : decode (cM 241) 46 = .ok (.invokevirtual 468, 3) := by decide +kernel
theorem kc_241_46 : callT (oM 241) 468 = some (0, 227, 2) ∧ fok 241 227 = true ∧ stM 227 = false := by decide +kernel
theorem d_241_49 : decode (cM 241) 49 = .ok (.ifCond .eq 20, 3) := by decide +kernel
theorem d_241_52 : decode (cM 241) 52 = .ok (.iload_n 2, 1) := by decide +kernel
theorem d_241_53 : decode (cM 241) 53 = .ok (.ifCond .eq 14, 3) := by decide +kernel
theorem d_241_56 : decode (cM 241) 56 = .ok (.iload_n 3, 1) := by decide +kernel
theorem d_241_57 : decode (cM 241) 57 = .ok (.invokestatic 392, 3) := by decide +kernel
theorem kc_241_57 : callT (oM 241) 392 = some (1, 202, 1) ∧ fok 241 202 = true ∧ stM 202 = true := by decide +kernel
theorem d_241_60 : decode (cM 241) 60 = .ok (.iload_n 2, 1) := by decide +kernel
theorem d_241_61 : decode (cM 241) 61 = .ok (.invokestatic 392, 3) := by decide +kernel
theorem kc_241_61 : callT (oM 241) 392 = some (1, 202, 1) ∧ fok 241 202 = true ∧ stM 202 = true := by decide +kernel
theorem d_241_64 : decode (cM 241) 64 = .ok (.if_icmp .ge 5, 3) := by decide +kernel
theorem d_241_67 : decode (cM 241) 67 = .ok (.iload_n 3, 1) := by decide +kernel
theorem d_241_68 : decode (cM 241) 68 = .ok (.istore_n 2, 1) := by decide +kernel
theorem d_241_69 : decode (cM 241) 69 = .ok (.iinc 3 1, 3) := by decide +kernel
theorem d_241_72 : decode (cM 241) 72 = .ok (.goto (-39), 3) := by decide +kernel
theorem d_241_75 : decode (cM 241) 75 = .ok (.iload_n 2, 1) := by decide +kernel
theorem d_241_76 : decode (cM 241) 76 = .ok (.ireturn, 1) := by decide +kernel
theorem d_242_0 : decode (cM 242) 0 = .ok (.aload_n 0, 1) := by decide +kernel
theorem d_242_1 : decode (cM 242) 1 = .ok (.iconst 0, 1) := by decide +kernel
theorem d_242_2 : decode (cM 242) 2 = .ok (.putfield 142, 3) := by decide +kernel
theorem d_242_5 : decode (cM 242) 5 = .ok (.iload_n 1, 1) := by decide +kernel
theorem d_242_6 : decode (cM 242) 6 = .ok (.iconst 0, 1) := by decide +kernel
theorem d_242_7 : decode (cM 242) 7 = .ok (.iconst 2, 1) := by decide +kernel
theorem d_242_8 : decode (cM 242) 8 = .ok (.invokestatic 187, 3) := by decide +kernel
theorem kc_242_8 : callT (oM 242) 187 = some (1, 152, 3) ∧ fok 242 152 = true ∧ stM 152 = true := by decide +kernel
theorem d_242_11 : decode (cM 242) 11 = .ok (.ifCond .ne 5, 3) := by decide +kernel
theorem d_242_14 : decode (cM 242) 14 = .ok (.iconst (-1), 1) := by decide +kernel
theorem d_242_15 : decode (cM 242) 15 = .ok (.ireturn, 1) := by decide +kernel
theorem d_242_16 : decode (cM 242) 16 = .ok (.aload_n 0, 1) := by decide +kernel
theorem d_242_17 : decode (cM 242) 17 = .ok (.invokevirtual 465, 3) := by decide +kernel
theorem kc_242_17 : callT (oM 242) 465 = some (0, 226, 0) ∧ fok 242 226 = true ∧ stM 226 = false := by decide +kernel
theorem d_242_20 : decode (cM 242) 20 = .ok (.iconst 0, 1) := by decide +kernel
theorem d_242_21 : decode (cM 242) 21 = .ok (.istore_n 2, 1) := by decide +kernel
theorem d_242_22 : decode (cM 242) 22 = .ok (.iconst 1, 1) := by decide +kernel
theorem d_242_23 : decode (cM 242) 23 = .ok (.istore_n 3, 1) := by decide +kernel
theorem d_242_24 : decode (cM 242) 24 = .ok (.iload_n 3, 1) := by decide +kernel
theorem d_242_25 : decode (cM 242) 25 = .ok (.iconst 1, 1) := by decide +kernel
theorem d_242_26 : decode (cM 242) 26 = .ok (.aload_n 0, 1) := by decide +kernel
theorem d_242_27 : decode (cM 242) 27 = .ok (.getfield 225, 3) := by decide +kernel
theorem d_242_30 : decode (cM 242) 30 = .ok (.ishl, 1) := by decide +kernel
theorem d_242_31 : decode (cM 242) 31 = .ok (.if_icmp .ge 81, 3) := by decide +kernel
theorem d_242_34 : decode (cM 242) 34 = .ok (.iload_n 3, 1) := by decide +kernel
theorem d_242_35 : decode (cM 242) 35 = .ok (.aload_n 0, 1) := by decide +kernel
theorem d_242_36 : decode (cM 242) 36 = .ok (.getfield 459, 3) := by decide +kernel
theorem d_242_39 : decode (cM 242) 39 = .ok (.iconst (-1), 1) := by decide +kernel
theorem d_242_40 : decode (cM 242) 40 = .ok (.ixor, 1) := by decide +kernel
theorem d_242_41 : decode (cM 242) 41 = .ok (.iand, 1) := by decide +kernel
theorem d_242_42 : decode (cM 242) 42 = .ok (.ifCond .eq 6, 3) := by decide +kernel
theorem d_242_45 : decode (cM 242) 45 = .ok (.goto 61, 3) := by decide +kernel
theorem d_242_48 : decode (cM 242) 48 = .ok (.aload_n 0, 1) := by decide +kernel
theorem d_242_49 : decode (cM 242) 49 = .ok (.getfield 82, 3) := by decide +kernel
theorem d_242_52 : decode (cM 242) 52 = .ok (.iconst 0, 1) := by decide +kernel
theorem d_242_53 : decode (cM 242) 53 = .ok (.iaload, 1) := by decide +kernel
theorem d_242_54 : decode (cM 242) 54 = .ok (.aload_n 0, 1) := by decide +kernel
theorem d_242_55 : decode (cM 242) 55 = .ok (.getfield 109, 3) := by decide +kernel
theorem d_242_58 : decode (cM 242) 58 = .ok (.iload_n 3, 1) := by decide +kernel
theorem d_242_59 : decode (cM 242) 59 = .ok (.iaload, 1) := by decide +kernel
theorem d_242_60 : decode (cM 242) 60 = .ok (.ixor, 1) := by decide +kernel
theorem d_242_61 : decode (cM 242) 61 = .ok (.invokestatic 392, 3) := by decide +kernel
theorem kc_242_61 : callT (oM 242) 392 = some (1, 202, 1) ∧ fok 242 202 = true ∧ stM 202 = true := by decide +kernel
theorem d_242_64 : decode (cM 242) 64 = .ok (.aload_n 0, 1) := by decide +kernel
theorem d_242_65 : decode (cM 242) 65 = .ok (.getfield 82, 3) := by decide +kernel
theorem d_242_68 : decode (cM 242) 68 = .ok (.iconst 0, 1) := by decide +kernel
theorem d_242_69 : decode (cM 242) 69 = .ok (.iaload, 1) := by decide +kernel
theorem d_242_70 : decode (cM 242) 70 = .ok (.aload_n 0, 1) := by decide +kernel
theorem d_242_71 : decode (cM 242) 71 = .ok (.getfield 109, 3) := by decide +kernel
theorem d_242_74 : decode (cM 242) 74 = .ok (.iload_n 2, 1) := by decide +kernel
theorem d_242_75 : decode (cM 242) 75 = .ok (.iaload, 1) := by decide +kernel
theorem d_242_76 : decode (cM 242) 76 = .ok (.ixor, 1) := by decide +kernel
theorem d_242_77 : decode (cM 242) 77 = .ok (.invokestatic 392, 3) := by decide +kernel
theorem kc_242_77 : callT (oM 242) 392 = some (1, 202, 1) ∧ fok 242 202 = true ∧ stM 202 = true := by decide +kernel
theorem d_242_80 : decode (cM 242) 80 = .ok (.isub, 1) := by decide +kernel
theorem d_242_81 : decode (cM 242) 81 = .ok (.istore 4, 2) := by decide +kernel
theorem d_242_83 : decode (cM 242) 83 = .ok (.iload 4, 2) := by decide +kernel
theorem d_242_85 : decode (cM 242) 85 = .ok (.ifCond .lt 19, 3) := by decide +kernel
theorem d_242_88 : decode (cM 242) 88 = .ok (.iload 4, 2) := by decide +kernel
theorem d_242_90 : decode (cM 242) 90 = .ok (.ifCond .ne 16, 3) := by decide +kernel
theorem d_242_93 : decode (cM 242) 93 = .ok (.iload_n 3, 1) := by decide +kernel
theorem d_242_94 : decode (cM 242) 94 = .ok (.invokestatic 392, 3) := by decide +kernel
theorem kc_242_94 : callT (oM 242) 392 = some (1, 202, 1) ∧ fok 242 202 = true ∧ stM 202 = true := by decide +kernel
theorem d_242_97 : decode (cM 242) 97 = .ok (.iload_n 2, 1) := by decide +kernel
theorem d_242_98 : decode (cM 242) 98 = .ok (.invokestatic 392, 3) := by decide +kernel
theorem kc_242_98 : callT (oM 242) 392 = some (1, 202, 1) ∧ fok 242 202 = true ∧ stM 202 = true := by decide +kernel
theorem d_242_101 : decode (cM 242) 101 = .ok (.if_icmp .ge 5, 3) := by decide +kernel
theorem d_242_104 : decode (cM 242) 104 = .ok (.iload_n 3, 1) := by decide +kernel
theorem d_242_105 : decode (cM 242) 105 = .ok (.istore_n 2, 1) := by decide +kernel
theorem d_242_106 : decode (cM 242) 106 = .ok (.iinc 3 1, 3) := by decide +kernel
theorem d_242_109 : decode (cM 242) 109 = .ok (.goto (-85), 3) := by decide +kernel
theorem d_242_112 : decode (cM 242) 112 = .ok (.aload_n 0, 1) := by decide +kernel
theorem d_242_113 : decode (cM 242) 113 = .ok (.getfield 82, 3) := by decide +kernel
theorem d_242_116 : decode (cM 242) 116 = .ok (.iconst 0, 1) := by decide +kernel
theorem d_242_117 : decode (cM 242) 117 = .ok (.iaload, 1) := by decide +kernel
theorem d_242_118 : decode (cM 242) 118 = .ok (.aload_n 0, 1) := by decide +kernel
theorem d_242_119 : decode (cM 242) 119 = .ok (.getfield 109, 3) := by decide +kernel
theorem d_242_122 : decode (cM 242) 122 = .ok (.iload_n 2, 1) := by decide +kernel
theorem d_242_123 : decode (cM 242) 123 = .ok (.iaload, 1) := by decide +kernel
theorem d_242_124 : decode (cM 242) 124 = .ok (.ixor, 1) := by decide +kernel
theorem d_242_125 : decode (cM 242) 125 = .ok (.istore_n 3, 1) := by decide +kernel
theorem d_242_126 : decode (cM 242) 126 = .ok (.iload_n 1, 1) := by decide +kernel
theorem d_242_127 : decode (cM 242) 127 = .ok (.ifCond .ne 10, 3) := by decide +kernel
theorem d_242_130 : decode (cM 242) 130 = .ok (.iload_n 3, 1) := by decide +kernel
theorem d_242_131 : decode (cM 242) 131 = .ok (.invokestatic 392, 3) := by decide +kernel
theorem kc_242_131 : callT (oM 242) 392 = some (1, 202, 1) ∧ fok 242 202 = true ∧ stM 202 = true := by decide +kernel
theorem d_242_134 : decode (cM 242) 134 = .ok (.goto 13, 3) := by decide +kernel
theorem d_242_137 : decode (cM 242) 137 = .ok (.iload_n 1, 1) := by decide +kernel
theorem d_242_138 : decode (cM 242) 138 = .ok (.iconst 1, 1) := by decide +kernel
theorem d_242_139 : decode (cM 242) 139 = .ok (.if_icmp .ne 7, 3) := by decide +kernel
theorem d_242_142 : decode (cM 242) 142 = .ok (.iload_n 2, 1) := by decide +kernel
theorem d_242_143 : decode (cM 242) 143 = .ok (.goto 4, 3) := by decide +kernel
theorem d_242_146 : decode (cM 242) 146 = .ok (.iload_n 3, 1) := by decide +kernel
theorem d_242_147 : decode (cM 242) 147 = .ok (.ireturn, 1) := by decide +kernel
theorem d_243_0 : decode (cM 243) 0 = .ok (.aload_n 0, 1) := by decide +kernel
theorem d_243_1 : decode (cM 243) 1 = .ok (.iconst 0, 1) := by decide +kernel
theorem d_243_2 : decode (cM 243) 2 = .ok (.putfield 142, 3) := by decide +kernel
theorem d_243_5 : decode (cM 243) 5 = .ok (.aload_n 0, 1) := by decide +kernel
theorem d_243_6 : decode (cM 243) 6 = .ok (.iload_n 1, 1) := by decide +kernel
theorem d_243_7 : decode (cM 243) 7 = .ok (.invokevirtual 439, 3) := by decide +kernel
theorem kc_243_7 : callT (oM 243) 439 = some (0, 199, 1) ∧ fok 243 199 = true ∧ stM 199 = false := by decide +kernel
theorem d_243_10 : decode (cM 243) 10 = .ok (.ifCond .ne 5, 3) := by decide +kernel
theorem d_243_13 : decode (cM 243) 13 = .ok (.iconst (-1), 1) := by decide +kernel
theorem d_243_14 : decode (cM 243) 14 = .ok (.ireturn, 1) := by decide +kernel
theorem d_243_15 : decode (cM 243) 15 = .ok (.aload_n 0, 1) := by decide +kernel
theorem d_243_16 : decode (cM 243) 16 = .ok (.invokevirtual 465, 3) := by decide +kernel
theorem kc_243_16 : callT (oM 243) 465 = some (0, 226, 0) ∧ fok 243 226 = true ∧ stM 226 = false := by decide +kernel
theorem d_243_19 : decode (cM 243) 19 = .ok (.iconst 0, 1) := by decide +kernel
theorem d_243_20 : decode (cM 243) 20 = .ok (.istore_n 2, 1) := by decide +kernel
theorem d_243_21 : decode (cM 243) 21 = .ok (.iconst 0, 1) := by decide +kernel
theorem d_243_22 : decode (cM 243) 22 = .ok (.istore_n 3, 1) := by decide +kernel
theorem d_243_23 : decode (cM 243) 23 = .ok (.iload_n 3, 1) := by decide +kernel
theorem d_243_24 : decode (cM 243) 24 = .ok (.aload_n 0, 1) := by decide +kernel
theorem d_243_25 : decode (cM 243) 25 = .ok (.getfield 222, 3) := by decide +kernel
theorem d_243_28 : decode (cM 243) 28 = .ok (.if_icmp .ge 47, 3) := by decide +kernel
theorem d_243_31 : decode (cM 243) 31 = .ok (.iload_n 2, 1) := by decide +kernel
theorem d_243_32 : decode (cM 243) 32 = .ok (.iload_n 3, 1) := by decide +kernel
theorem d_243_33 : decode (cM 243) 33 = .ok (.iload_n 1, 1) := by decide +kernel
theorem d_243_34 : decode (cM 243) 34 = .ok (.if_icmp .eq 32, 3) := by decide +kernel
theorem d_243_37 : decode (cM 243) 37 = .ok (.aload_n 0, 1) := by decide +kernel
theorem d_243_38 : decode (cM 243) 38 = .ok (.iconst 0, 1) := by decide +kernel
theorem d_243_39 : decode (cM 243) 39 = .ok (.iload_n 3, 1) := by decide +kernel
theorem d_243_40 : decode (cM 243) 40 = .ok (.aload_n 0, 1) := by decide +kernel
theorem d_243_41 : decode (cM 243) 41 = .ok (.getfield 459, 3) := by decide +kernel
theorem d_243_44 : decode (cM 243) 44 = .ok (.invokevirtual 398, 3) := by decide +kernel
theorem kc_243_44 : callT (oM 243) 398 = some (0, 204, 3) ∧ fok 243 204 = true ∧ stM 204 = false := by decide +kernel
theorem d_243_47 : decode (cM 243) 47 = .ok (.aload_n 0, 1) := by decide +kernel
theorem d_243_48 : decode (cM 243) 48 = .ok (.iconst 0, 1) := by decide +kernel
theorem d_243_49 : decode (cM 243) 49 = .ok (.iload_n 1, 1) := by decide +kernel
theorem d_243_50 : decode (cM 243) 50 = .ok (.aload_n 0, 1) := by decide +kernel
theorem d_243_51 : decode (cM 243) 51 = .ok (.getfield 459, 3) := by decide +kernel
theorem d_243_54 : decode (cM 243) 54 = .ok (.invokevirtual 398, 3) := by decide +kernel
theorem kc_243_54 : callT (oM 243) 398 = some (0, 204, 3) ∧ fok 243 204 = true ∧ stM 204 = false := by decide +kernel
theorem d_243_57 : decode (cM 243) 57 = .ok (.if_icmp .ne 9, 3) := by decide +kernel
theorem d_243_60 : decode (cM 243) 60 = .ok (.iconst 1, 1) := by decide +kernel
theorem d_243_61 : decode (cM 243) 61 = .ok (.iload_n 3, 1) := by decide +kernel
theorem d_243_62 : decode (cM 243) 62 = .ok (.ishl, 1) := by decide +kernel
theorem d_243_63 : decode (cM 243) 63 = .ok (.goto 4, 3) := by decide +kernel
theorem d_243_66 : decode (cM 243) 66 = .ok (.iconst 0, 1) := by decide +kernel
theorem d_243_67 : decode (cM 243) 67 = .ok (.ior, 1) := by decide +kernel
theorem d_243_68 : decode (cM 243) 68 = .ok (.istore_n 2, 1) := by decide +kernel
theorem d_243_69 : decode (cM 243) 69 = .ok (.iinc 3 1, 3) := by decide +kernel
theorem d_243_72 : decode (cM 243) 72 = .ok (.goto (-49), 3) := by decide +kernel
theorem d_243_75 : decode (cM 243) 75 = .ok (.iload_n 2, 1) := by decide +kernel
theorem d_243_76 : decode (cM 243) 76 = .ok (.ireturn, 1) := by decide +kernel
theorem d_244_0 : decode (cM 244) 0 = .ok (.aload_n 0, 1) := by decide +kernel
theorem d_244_1 : decode (cM 244) 1 = .ok (.iconst 0, 1) := by decide +kernel
theorem d_244_2 : decode (cM 244) 2 = .ok (.putfield 142, 3) := by decide +kernel
theorem d_244_5 : decode (cM 244) 5 = .ok (.aload_n 0, 1) := by decide +kernel
theorem d_244_6 : decode (cM 244) 6 = .ok (.invokevirtual 465, 3) := by decide +kernel
theorem kc_244_6 : callT (oM 244) 465 = some (0, 226, 0) ∧ fok 244 226 = true ∧ stM 226 = false := by decide +kernel
theorem d_244_9 : decode (cM 244) 9 = .ok (.iconst 0, 1) := by decide +kernel
theorem d_244_10 : decode (cM 244) 10 = .ok (.istore_n 1, 1) := by decide +kernel
theorem d_244_11 : decode (cM 244) 11 = .ok (.iconst 0, 1) := by decide +kernel
theorem d_244_12 : decode (cM 244) 12 = .ok (.istore_n 2, 1) := by decide +kernel
theorem d_244_13 : decode (cM 244) 13 = .ok (.iload_n 2, 1) := by decide +kernel
theorem d_244_14 : decode (cM 244) 14 = .ok (.aload_n 0, 1) := by decide +kernel
theorem d_244_15 : decode (cM 244) 15 = .ok (.getfield 222, 3) := by decide +kernel
theorem d_244_18 : decode (cM 244) 18 = .ok (.if_icmp .ge 32, 3) := by decide +kernel
theorem d_244_21 : decode (cM 244) 21 = .ok (.iload_n 1, 1) := by decide +kernel
theorem d_244_22 : decode (cM 244) 22 = .ok (.aload_n 0, 1) := by decide +kernel
theorem d_244_23 : decode (cM 244) 23 = .ok (.iconst 0, 1) := by decide +kernel
theorem d_244_24 : decode (cM 244) 24 = .ok (.iload_n 2, 1) := by decide +kernel
theorem d_244_25 : decode (cM 244) 25 = .ok (.aload_n 0, 1) := by decide +kernel
theorem d_244_26 : decode (cM 244) 26 = .ok (.getfield 459, 3) := by decide +kernel
theorem d_244_29 : decode (cM 244) 29 = .ok (.invokevirtual 398, 3) := by decide +kernel
theorem kc_244_29 : callT (oM 244) 398 = some (0, 204, 3) ∧ fok 244 204 = true ∧ stM 204 = false := by decide +kernel
theorem d_244_32 : decode (cM 244) 32 = .ok (.ifCond .ne 9, 3) := by decide +kernel
theorem d_244_35 : decode (cM 244) 35 = .ok (.iconst 1, 1) := by decide +kernel
theorem d_244_36 : decode (cM 244) 36 = .ok (.iload_n 2, 1) := by decide +kernel
theorem d_244_37 : decode (cM 244) 37 = .ok (.ishl, 1) := by decide +kernel
theorem d_244_38 : decode (cM 244) 38 = .ok (.goto 4, 3) := by decide +kernel
theorem d_244_41 : decode (cM 244) 41 = .ok (.iconst 0, 1) := by decide +kernel
theorem d_244_42 : decode (cM 244) 42 = .ok (.ior, 1) := by decide +kernel
theorem d_244_43 : decode (cM 244) 43 = .ok (.istore_n 1, 1) := by decide +kernel
theorem d_244_44 : decode (cM 244) 44 = .ok (.iinc 2 1, 3) := by decide +kernel
theorem d_244_47 : decode (cM 244) 47 = .ok (.goto (-34), 3) := by decide +kernel
theorem d_244_50 : decode (cM 244) 50 = .ok (.iload_n 1, 1) := by decide +kernel
theorem d_244_51 : decode (cM 244) 51 = .ok (.ireturn, 1) := by decide +kernel
theorem d_245_0 : decode (cM 245) 0 = .ok (.iconst 0, 1) := by decide +kernel
theorem d_245_1 : decode (cM 245) 1 = .ok (.istore_n 1, 1) := by decide +kernel
theorem d_245_2 : decode (cM 245) 2 = .ok (.iconst 0, 1) := by decide +kernel
theorem d_245_3 : decode (cM 245) 3 = .ok (.istore_n 2, 1) := by decide +kernel
theorem d_245_4 : decode (cM 245) 4 = .ok (.iload_n 2, 1) := by decide +kernel
theorem d_245_5 : decode (cM 245) 5 = .ok (.bipush 14, 2) := by decide +kernel
theorem d_245_7 : decode (cM 245) 7 = .ok (.if_icmp .ge 16, 3) := by decide +kernel
theorem d_245_10 : decode (cM 245) 10 = .ok (.aload_n 0, 1) := by decide +kernel
theorem d_245_11 : decode (cM 245) 11 = .ok (.getfield 112, 3) := by decide +kernel
theorem d_245_14 : decode (cM 245) 14 = .ok (.iload_n 2, 1) := by decide +kernel
theorem d_245_15 : decode (cM 245) 15 = .ok (.iconst 0, 1) := by decide +kernel
theorem d_245_16 : decode (cM 245) 16 = .ok (.iastore, 1) := by decide +kernel
theorem d_245_17 : decode (cM 245) 17 = .ok (.iinc 2 1, 3) := by decide +kernel
theorem d_245_20 : decode (cM 245) 20 = .ok (.goto (-16), 3) := by decide +kernel
theorem d_245_23 : decode (cM 245) 23 = .ok (.iconst 0, 1) := by decide +kernel
theorem d_245_24 : decode (cM 245) 24 = .ok (.istore_n 2, 1) := by decide +kernel
theorem d_245_25 : decode (cM 245) 25 = .ok (.iload_n 2, 1) := by decide +kernel
theorem d_245_26 : decode (cM 245) 26 = .ok (.aload_n 0, 1) := by decide +kernel
theorem d_245_27 : decode (cM 245) 27 = .ok (.getfield 225, 3) := by decide +kernel
theorem d_245_30 : decode (cM 245) 30 = .ok (.if_icmp .ge 100, 3) := by decide +kernel
theorem d_245_33 : decode (cM 245) 33 = .ok (.aload_n 0, 1) := by decide +kernel
theorem d_245_34 : decode (cM 245) 34 = .ok (.getfield 88, 3) := by decide +kernel
theorem d_245_37 : decode (cM 245) 37 = .ok (.iconst 0, 1) := by decide +kernel
theorem d_245_38 : decode (cM 245) 38 = .ok (.iaload, 1) := by decide +kernel
theorem d_245_39 : decode (cM 245) 39 = .ok (.iload_n 2, 1) := by decide +kernel
theorem d_245_40 : decode (cM 245) 40 = .ok (.invokestatic 255, 3) := by decide +kernel
theorem kc_245_40 : callT (oM 245) 255 = some (1, 153, 2) ∧ fok 245 153 = true ∧ stM 153 = true := by decide +kernel
theorem d_245_43 : decode (cM 245) 43 = .ok (.ifCond .eq 7, 3) := by decide +kernel
theorem d_245_46 : decode (cM 245) 46 = .ok (.iconst 0, 1) := by decide +kernel
theorem d_245_47 : decode (cM 245) 47 = .ok (.goto 9, 3) := by decide +kernel
theorem d_245_50 : decode (cM 245) 50 = .ok (.aload_n 0, 1) := by decide +kernel
theorem d_245_51 : decode (cM 245) 51 = .ok (.getfield 103, 3) := by decide +kernel
theorem d_245_54 : decode (cM 245) 54 = .ok (.iload_n 2, 1) := by decide +kernel
theorem d_245_55 : decode (cM 245) 55 = .ok (.iaload, 1) := by decide +kernel
theorem d_245_56 : decode (cM 245) 56 = .ok (.istore_n 3, 1) := by decide +kernel
theorem d_245_57 : decode (cM 245) 57 = .ok (.bipush 13, 2) := by decide +kernel
theorem d_245_59 : decode (cM 245) 59 = .ok (.istore 4, 2) := by decide +kernel
theorem d_245_61 : decode (cM 245) 61 = .ok (.iload 4, 2) := by decide +kernel
theorem d_245_63 : decode (cM 245) 63 = .ok (.ifCond .lt 61, 3) := by decide +kernel
theorem d_245_66 : decode (cM 245) 66 = .ok (.iload_n 3, 1) := by decide +kernel
theorem d_245_67 : decode (cM 245) 67 = .ok (.ifCond .eq 57, 3) := by decide +kernel
theorem d_245_70 : decode (cM 245) 70 = .ok (.iload_n 3, 1) := by decide +kernel
theorem d_245_71 : decode (cM 245) 71 = .ok (.iload 4, 2) := by decide +kernel
theorem d_245_73 : decode (cM 245) 73 = .ok (.invokestatic 255, 3) := by decide +kernel
theorem kc_245_73 : callT (oM 245) 255 = some (1, 153, 2) ∧ fok 245 153 = true ∧ stM 153 = true := by decide +kernel
theorem d_245_76 : decode (cM 245) 76 = .ok (.ifCond .ne 6, 3) := by decide +kernel
theorem d_245_79 : decode (cM 245) 79 = .ok (.goto 39, 3) := by decide +kernel
theorem d_245_82 : decode (cM 245) 82 = .ok (.aload_n 0, 1) := by decide +kernel
theorem d_245_83 : decode (cM 245) 83 = .ok (.getfield 112, 3) := by decide +kernel
theorem d_245_86 : decode (cM 245) 86 = .ok (.iload 4, 2) := by decide +kernel
theorem d_245_88 : decode (cM 245) 88 = .ok (.iaload, 1) := by decide +kernel
theorem d_245_89 : decode (cM 245) 89 = .ok (.ifCond .ne 19, 3) := by decide +kernel
theorem d_245_92 : decode (cM 245) 92 = .ok (.aload_n 0, 1) := by decide +kernel
theorem d_245_93 : decode (cM 245) 93 = .ok (.getfield 112, 3) := by decide +kernel
theorem d_245_96 : decode (cM 245) 96 = .ok (.iload 4, 2) := by decide +kernel
theorem d_245_98 : decode (cM 245) 98 = .ok (.iload_n 3, 1) := by decide +kernel
theorem d_245_99 : decode (cM 245) 99 = .ok (.iastore, 1) := by decide +kernel
theorem d_245_100 : decode (cM 245) 100 = .ok (.iinc 1 1, 3) := by decide +kernel
theorem d_245_103 : decode (cM 245) 103 = .ok (.iconst 0, 1) := by decide +kernel
theorem d_245_104 : decode (cM 245) 104 = .ok (.istore_n 3, 1) := by decide +kernel
theorem d_245_105 : decode (cM 245) 105 = .ok (.goto 13, 3) := by decide +kernel
theorem d_245_108 : decode (cM 245) 108 = .ok (.iload_n 3, 1) := by decide +kernel
theorem d_245_109 : decode (cM 245) 109 = .ok (.aload_n 0, 1) := by decide +kernel
theorem d_245_110 : decode (cM 245) 110 = .ok (.getfield 112, 3) := by decide +kernel
theorem d_245_113 : decode (cM 245) 113 = .ok (.iload 4, 2) := by decide +kernel
theorem d_245_115 : decode (cM 245) 115 = .ok (.iaload, 1) := by decide +kernel
theorem d_245_116 : decode (cM 245) 116 = .ok (.ixor, 1) := by decide +kernel
theorem d_245_117 : decode (cM 245) 117 = .ok (.istore_n 3, 1) := by decide +kernel
theorem d_245_118 : decode (cM 245) 118 = .ok (.iinc 4 (-1), 3) := by decide +kernel
theorem d_245_121 : decode (cM 245) 121 = .ok (.goto (-60), 3) := by decide +kernel
theorem d_245_124 : decode (cM 245) 124 = .ok (.iinc 2 1, 3) := by decide +kernel
theorem d_245_127 : decode (cM 245) 127 = .ok (.goto (-102), 3) := by decide +kernel
theorem d_245_130 : decode (cM 245) 130 = .ok (.iload_n 1, 1) := by decide +kernel
theorem d_245_131 : decode (cM 245) 131 = .ok (.ireturn, 1) := by decide +kernel
theorem d_246_0 : decode (cM 246) 0 = .ok (.aload_n 0, 1) := by decide +kernel
theorem d_246_1 : decode (cM 246) 1 = .ok (.iconst 0, 1) := by decide +kernel
theorem d_246_2 : decode (cM 246) 2 = .ok (.putfield 142, 3) := by decide +kernel
theorem d_246_5 : decode (cM 246) 5 = .ok (.iload_n 1, 1) := by decide +kernel
theorem d_246_6 : decode (cM 246) 6 = .ok (.iconst 0, 1) := by decide +kernel
theorem d_246_7 : decode (cM 246) 7 = .ok (.iconst 1, 1) := by decide +kernel
theorem d_246_8 : decode (cM 246) 8 = .ok (.invokestatic 187, 3) := by decide +kernel
theorem kc_246_8 : callT (oM 246) 187 = some (1, 152, 3) ∧ fok 246 152 = true ∧ stM 152 = true := by decide +kernel
theorem d_246_11 : decode (cM 246) 11 = .ok (.ifCond .ne 5, 3) := by decide +kernel
theorem d_246_14 : decode (cM 246) 14 = .ok (.iconst (-1), 1) := by decide +kernel
theorem d_246_15 : decode (cM 246) 15 = .ok (.ireturn, 1) := by decide +kernel
theorem d_246_16 : decode (cM 246) 16 = .ok (.aload_n 0, 1) := by decide +kernel
theorem d_246_17 : decode (cM 246) 17 = .ok (.invokevirtual 489, 3) := by decide +kernel
theorem kc_246_17 : callT (oM 246) 489 = some (0, 245, 0) ∧ fok 246 245 = true ∧ stM 245 = false := by decide +kernel
theorem d_246_20 : decode (cM 246) 20 = .ok (.istore_n 2, 1) := by decide +kernel
theorem d_246_21 : decode (cM 246) 21 = .ok (.iconst 0, 1) := by decide +kernel
theorem d_246_22 : decode (cM 246) 22 = .ok (.istore_n 3, 1) := by decide +kernel
theorem d_246_23 : decode (cM 246) 23 = .ok (.iload_n 3, 1) := by decide +kernel
theorem d_246_24 : decode (cM 246) 24 = .ok (.aload_n 0, 1) := by decide +kernel
theorem d_246_25 : decode (cM 246) 25 = .ok (.getfield 225, 3) := by decide +kernel
theorem d_246_28 : decode (cM 246) 28 = .ok (.if_icmp .ge 92, 3) := by decide +kernel
theorem d_246_31 : decode (cM 246) 31 = .ok (.aload_n 0, 1) := by decide +kernel
theorem d_246_32 : decode (cM 246) 32 = .ok (.getfield 88, 3) := by decide +kernel
theorem d_246_35 : decode (cM 246) 35 = .ok (.iconst 0, 1) := by decide +kernel
theorem d_246_36 : decode (cM 246) 36 = .ok (.iaload, 1) := by decide +kernel
theorem d_246_37 : decode (cM 246) 37 = .ok (.iload_n 3, 1) := by decide +kernel
theorem d_246_38 : decode (cM 246) 38 = .ok (.invokestatic 255, 3) := by decide +kernel
theorem kc_246_38 : callT (oM 246) 255 = some (1, 153, 2) ∧ fok 246 153 = true ∧ stM 153 = true := by decide +kernel
theorem d_246_41 : decode (cM 246) 41 = .ok (.ifCond .eq 6, 3) := by decide +kernel
theorem d_246_44 : decode (cM 246) 44 = .ok (.goto 70, 3) := by decide +kernel
theorem d_246_47 : decode (cM 246) 47 = .ok (.iconst 0, 1) := by decide +kernel
theorem d_246_48 : decode (cM 246) 48 = .ok (.istore 4, 2) := by decide +kernel
theorem d_246_50 : decode (cM 246) 50 = .ok (.iload 4, 2) := by decide +kernel
theorem d_246_52 : decode (cM 246) 52 = .ok (.aload_n 0, 1) := by decide +kernel
theorem d_246_53 : decode (cM 246) 53 = .ok (.getfield 222, 3) := by decide +kernel
theorem d_246_56 : decode (cM 246) 56 = .ok (.if_icmp .ge 58, 3) := by decide +kernel
theorem d_246_59 : decode (cM 246) 59 = .ok (.aload_n 0, 1) := by decide +kernel
theorem d_246_60 : decode (cM 246) 60 = .ok (.getfield 103, 3) := by decide +kernel
theorem d_246_63 : decode (cM 246) 63 = .ok (.iload_n 3, 1) := by decide +kernel
theorem d_246_64 : decode (cM 246) 64 = .ok (.dup2, 1) := by decide +kernel
theorem d_246_65 : decode (cM 246) 65 = .ok (.iaload, 1) := by decide +kernel
theorem d_246_66 : decode (cM 246) 66 = .ok (.iconst 1, 1) := by decide +kernel
theorem d_246_67 : decode (cM 246) 67 = .ok (.iload 4, 2) := by decide +kernel
theorem d_246_69 : decode (cM 246) 69 = .ok (.ishl, 1) := by decide +kernel
theorem d_246_70 : decode (cM 246) 70 = .ok (.ixor, 1) := by decide +kernel
theorem d_246_71 : decode (cM 246) 71 = .ok (.iastore, 1) := by decide +kernel
theorem d_246_72 : decode (cM 246) 72 = .ok (.aload_n 0, 1) := by decide +kernel
theorem d_246_73 : decode (cM 246) 73 = .ok (.invokevirtual 489, 3) := by decide +kernel
theorem kc_246_73 : callT (oM 246) 489 = some (0, 245, 0) ∧ fok 246 245 = true ∧ stM 245 = false := by decide +kernel
theorem d_246_76 : decode (cM 246) 76 = .ok (.istore 5, 2) := by decide +kernel
theorem d_246_78 : decode (cM 246) 78 = .ok (.aload_n 0, 1) := by decide +kernel
theorem d_246_79 : decode (cM 246) 79 = .ok (.getfield 103, 3) := by decide +kernel
theorem d_246_82 : decode (cM 246) 82 = .ok (.iload_n 3, 1) := by decide +kernel
theorem d_246_83 : decode (cM 246) 83 = .ok (.dup2, 1) := by decide +kernel
theorem d_246_84 : decode (cM 246) 84 = .ok (.iaload, 1) := by decide +kernel
theorem d_246_85 : decode (cM 246) 85 = .ok (.iconst 1, 1) := by decide +kernel
theorem d_246_86 : decode (cM 246) 86 = .ok (.iload 4, 2) := by decide +kernel
theorem d_246_88 : decode (cM 246) 88 = .ok (.ishl, 1) := by decide +kernel
theorem d_246_89 : decode (cM 246) 89 = .ok (.ixor, 1) := by decide +kernel
theorem d_246_90 : decode (cM 246) 90 = .ok (.iastore, 1) := by decide +kernel
theorem d_246_91 : decode (cM 246) 91 = .ok (.iload 5, 2) := by decide +kernel
theorem d_246_93 : decode (cM 246) 93 = .ok (.iload_n 2, 1) := by decide +kernel
theorem d_246_94 : decode (cM 246) 94 = .ok (.if_icmp .le 14, 3) := by decide +kernel
theorem d_246_97 : decode (cM 246) 97 = .ok (.iload_n 1, 1) := by decide +kernel
theorem d_246_98 : decode (cM 246) 98 = .ok (.ifCond .ne 7, 3) := by decide +kernel
theorem d_246_101 : decode (cM 246) 101 = .ok (.iload_n 3, 1) := by decide +kernel
theorem d_246_102 : decode (cM 246) 102 = .ok (.goto 5, 3) := by decide +kernel
theorem d_246_105 : decode (cM 246) 105 = .ok (.iload 4, 2) := by decide +kernel
theorem d_246_107 : decode (cM 246) 107 = .ok (.ireturn, 1) := by decide +kernel
theorem d_246_108 : decode (cM 246) 108 = .ok (.iinc 4 1, 3) := by decide +kernel
theorem d_246_111 : decode (cM 246) 111 = .ok (.goto (-61), 3) := by decide +kernel
theorem d_246_114 : decode (cM 246) 114 = .ok (.iinc 3 1, 3) := by decide +kernel
theorem d_246_117 : decode (cM 246) 117 = .ok (.goto (-94), 3) := by decide +kernel
theorem d_246_120 : decode (cM 246) 120 = .ok (.bipush (-2), 2) := by decide +kernel
theorem d_246_122 : decode (cM 246) 122 = .ok (.ireturn, 1) := by decide +kernel
theorem d_247_0 : decode (cM 247) 0 = .ok (.aload_n 0, 1) := by decide +kernel
theorem d_247_1 : decode (cM 247) 1 = .ok (.iconst 0, 1) := by decide +kernel
theorem d_247_2 : decode (cM 247) 2 = .ok (.putfield 142, 3) := by decide +kernel
theorem d_247_5 : decode (cM 247) 5 = .ok (.aload_n 0, 1) := by decide +kernel
theorem d_247_6 : decode (cM 247) 6 = .ok (.iload_n 1, 1) := by decide +kernel
theorem d_247_7 : decode (cM 247) 7 = .ok (.invokevirtual 462, 3) := by decide +kernel
theorem kc_247_7 : callT (oM 247) 462 = some (0, 201, 1) ∧ fok 247 201 = true ∧ stM 201 = false := by decide +kernel
theorem d_247_10 : decode (cM 247) 10 = .ok (.ifCond .eq 11, 3) := by decide +kernel
theorem d_247_13 : decode (cM 247) 13 = .ok (.aload_n 0, 1) := by decide +kernel
theorem d_247_14 : decode (cM 247) 14 = .ok (.iload_n 2, 1) := by decide +kernel
theorem d_247_15 : decode (cM 247) 15 = .ok (.invokevirtual 462, 3) := by decide +kernel
theorem kc_247_15 : callT (oM 247) 462 = some (0, 201, 1) ∧ fok 247 201 = true ∧ stM 201 = false := by decide +kernel
theorem d_247_18 : decode (cM 247) 18 = .ok (.ifCond .ne 5, 3) := by decide +kernel
theorem d_247_21 : decode (cM 247) 21 = .ok (.iconst (-1), 1) := by decide +kernel
theorem d_247_22 : decode (cM 247) 22 = .ok (.ireturn, 1) := by decide +kernel
theorem d_247_23 : decode (cM 247) 23 = .ok (.aload_n 0, 1) := by decide +kernel
theorem d_247_24 : decode (cM 247) 24 = .ok (.invokevirtual 465, 3) := by decide +kernel
theorem kc_247_24 : callT (oM 247) 465 = some (0, 226, 0) ∧ fok 247 226 = true ∧ stM 226 = false := by decide +kernel
theorem d_247_27 : decode (cM 247) 27 = .ok (.aload_n 0, 1) := by decide +kernel
theorem d_247_28 : decode (cM 247) 28 = .ok (.iload_n 1, 1) := by decide +kernel
theorem d_247_29 : decode (cM 247) 29 = .ok (.iload_n 2, 1) := by decide +kernel
theorem d_247_30 : decode (cM 247) 30 = .ok (.ixor, 1) := by decide +kernel
theorem d_247_31 : decode (cM 247) 31 = .ok (.invokevirtual 471, 3) := by decide +kernel
theorem kc_247_31 : callT (oM 247) 471 = some (0, 230, 1) ∧ fok 247 230 = true ∧ stM 230 = false := by decide +kernel
theorem d_247_34 : decode (cM 247) 34 = .ok (.istore_n 3, 1) := by decide +kernel
theorem d_247_35 : decode (cM 247) 35 = .ok (.iload_n 3, 1) := by decide +kernel
theorem d_247_36 : decode (cM 247) 36 = .ok (.ifCond .ge 8, 3) := by decide +kernel
theorem d_247_39 : decode (cM 247) 39 = .ok (.bipush (-2), 2) := by decide +kernel
theorem d_247_41 : decode (cM 247) 41 = .ok (.goto 7, 3) := by decide +kernel
theorem d_247_44 : decode (cM 247) 44 = .ok (.iload_n 3, 1) := by decide +kernel
theorem d_247_45 : decode (cM 247) 45 = .ok (.invokestatic 392, 3) := by decide +kernel
theorem kc_247_45 : callT (oM 247) 392 = some (1, 202, 1) ∧ fok 247 202 = true ∧ stM 202 = true := by decide +kernel
theorem d_247_48 : decode (cM 247) 48 = .ok (.ireturn, 1) := by decide +kernel
