theorem d_248_0 : decode (cM 248) 0 = .ok (.aload_n 0, 1) := by decide +kernel
theorem d_248_1 : decode (cM 248) 1 = .ok (.iconst 0, 1) := by decide +kernel
theorem d_248_2 : decode (cM 248) 2 = .ok (.putfield 142, 3) := by decide +kernel
theorem d_248_5 : decode (cM 248) 5 = .ok (.iload_n 1, 1) := by decide +kernel
theorem d_248_6 : decode (cM 248) 6 = .ok (.iconst 0, 1) := by decide +kernel
theorem d_248_7 : decode (cM 248) 7 = .ok (.bipush 14, 2) := by decide +kernel
theorem d_248_9 : decode (cM 248) 9 = .ok (.invokestatic 187, 3) := by decide +kernel
theorem kc_248_9 : callT (oM 248) 187 = some (1, 152, 3) ∧ fok 248 152 = true ∧ stM 152 = true := by decide +kernel
theorem d_248_12 : decode (cM 248) 12 = .ok (.ifCond .ne 5, 3) := by decide +kernel
theorem d_248_15 : decode (cM 248) 15 = .ok (.iconst (-1), 1) := by decide +kernel
theorem d_248_16 : decode (cM 248) 16 = .ok (.ireturn, 1) := by decide +kernel
theorem d_248_17 : decode (cM 248) 17 = .ok (.aload_n 0, 1) := by decide +kernel
theorem d_248_18 : decode (cM 248) 18 = .ok (.invokevirtual 465, 3) := by decide +kernel
theorem kc_248_18 : callT (oM 248) 465 = some (0, 226, 0) ∧ fok 248 226 = true ∧ stM 226 = false := by decide +kernel
theorem d_248_21 : decode (cM 248) 21 = .ok (.iconst 0, 1) := by decide +kernel
theorem d_248_22 : decode (cM 248) 22 = .ok (.istore_n 2, 1) := by decide +kernel
theorem d_248_23 : decode (cM 248) 23 = .ok (.iconst 0, 1) := by decide +kernel
theorem d_248_24 : decode (cM 248) 24 = .ok (.istore_n 3, 1) := by decide +kernel
theorem d_248_25 : decode (cM 248) 25 = .ok (.iload_n 3, 1) := by decide +kernel
theorem d_248_26 : decode (cM 248) 26 = .ok (.iconst 1, 1) := by decide +kernel
theorem d_248_27 : decode (cM 248) 27 = .ok (.aload_n 0, 1) := by decide +kernel
theorem d_248_28 : decode (cM 248) 28 = .ok (.getfield 225, 3) := by decide +kernel
theorem d_248_31 : decode (cM 248) 31 = .ok (.ishl, 1) := by decide +kernel
theorem d_248_32 : decode (cM 248) 32 = .ok (.if_icmp .ge 48, 3) := by decide +kernel
theorem d_248_35 : decode (cM 248) 35 = .ok (.iload_n 2, 1) := by decide +kernel
theorem d_248_36 : decode (cM 248) 36 = .ok (.iload_n 3, 1) := by decide +kernel
theorem d_248_37 : decode (cM 248) 37 = .ok (.aload_n 0, 1) := by decide +kernel
theorem d_248_38 : decode (cM 248) 38 = .ok (.getfield 459, 3) := by decide +kernel
theorem d_248_41 : decode (cM 248) 41 = .ok (.iconst (-1), 1) := by decide +kernel
theorem d_248_42 : decode (cM 248) 42 = .ok (.ixor, 1) := by decide +kernel
theorem d_248_43 : decode (cM 248) 43 = .ok (.iand, 1) := by decide +kernel
theorem d_248_44 : decode (cM 248) 44 = .ok (.ifCond .ne 27, 3) := by decide +kernel
theorem d_248_47 : decode (cM 248) 47 = .ok (.aload_n 0, 1) := by decide +kernel
theorem d_248_48 : decode (cM 248) 48 = .ok (.getfield 82, 3) := by decide +kernel
theorem d_248_51 : decode (cM 248) 51 = .ok (.iconst 0, 1) := by decide +kernel
theorem d_248_52 : decode (cM 248) 52 = .ok (.iaload, 1) := by decide +kernel
theorem d_248_53 : decode (cM 248) 53 = .ok (.aload_n 0, 1) := by decide +kernel
theorem d_248_54 : decode (cM 248) 54 = .ok (.getfield 109, 3) := by decide +kernel
theorem d_248_57 : decode (cM 248) 57 = .ok (.iload_n 3, 1) := by decide +kernel
theorem d_248_58 : decode (cM 248) 58 = .ok (.iaload, 1) := by decide +kernel
theorem d_248_59 : decode (cM 248) 59 = .ok (.ixor, 1) := by decide +kernel
theorem d_248_60 : decode (cM 248) 60 = .ok (.invokestatic 392, 3) := by decide +kernel
theorem kc_248_60 : callT (oM 248) 392 = some (1, 202, 1) ∧ fok 248 202 = true ∧ stM 202 = true := by decide +kernel
theorem d_248_63 : decode (cM 248) 63 = .ok (.iload_n 1, 1) := by decide +kernel
theorem d_248_64 : decode (cM 248) 64 = .ok (.if_icmp .ne 7, 3) := by decide +kernel
theorem d_248_67 : decode (cM 248) 67 = .ok (.iconst 1, 1) := by decide +kernel
theorem d_248_68 : decode (cM 248) 68 = .ok (.goto 4, 3) := by decide +kernel
theorem d_248_71 : decode (cM 248) 71 = .ok (.iconst 0, 1) := by decide +kernel
theorem d_248_72 : decode (cM 248) 72 = .ok (.iadd, 1) := by decide +kernel
theorem d_248_73 : decode (cM 248) 73 = .ok (.istore_n 2, 1) := by decide +kernel
theorem d_248_74 : decode (cM 248) 74 = .ok (.iinc 3 1, 3) := by decide +kernel
theorem d_248_77 : decode (cM 248) 77 = .ok (.goto (-52), 3) := by decide +kernel
theorem d_248_80 : decode (cM 248) 80 = .ok (.iload_n 2, 1) := by decide +kernel
theorem d_248_81 : decode (cM 248) 81 = .ok (.aload_n 0, 1) := by decide +kernel
theorem d_248_82 : decode (cM 248) 82 = .ok (.invokevirtual 477, 3) := by decide +kernel
theorem kc_248_82 : callT (oM 248) 477 = some (0, 234, 0) ∧ fok 248 234 = true ∧ stM 234 = false := by decide +kernel
theorem d_248_85 : decode (cM 248) 85 = .ok (.iconst 1, 1) := by decide +kernel
theorem d_248_86 : decode (cM 248) 86 = .ok (.iadd, 1) := by decide +kernel
theorem d_248_87 : decode (cM 248) 87 = .ok (.idiv, 1) := by decide +kernel
theorem d_248_88 : decode (cM 248) 88 = .ok (.ireturn, 1) := by decide +kernel
theorem d_249_0 : decode (cM 249) 0 = .ok (.aload_n 0, 1) := by decide +kernel
theorem d_249_1 : decode (cM 249) 1 = .ok (.getfield 109, 3) := by decide +kernel
theorem d_249_4 : decode (cM 249) 4 = .ok (.iload_n 1, 1) := by decide +kernel
theorem d_249_5 : decode (cM 249) 5 = .ok (.iconst 1, 1) := by decide +kernel
theorem d_249_6 : decode (cM 249) 6 = .ok (.iload_n 2, 1) := by decide +kernel
theorem d_249_7 : decode (cM 249) 7 = .ok (.ishl, 1) := by decide +kernel
theorem d_249_8 : decode (cM 249) 8 = .ok (.ior, 1) := by decide +kernel
theorem d_249_9 : decode (cM 249) 9 = .ok (.iaload, 1) := by decide +kernel
theorem d_249_10 : decode (cM 249) 10 = .ok (.aload_n 0, 1) := by decide +kernel
theorem d_249_11 : decode (cM 249) 11 = .ok (.getfield 82, 3) := by decide +kernel
theorem d_249_14 : decode (cM 249) 14 = .ok (.iconst 0, 1) := by decide +kernel
theorem d_249_15 : decode (cM 249) 15 = .ok (.iaload, 1) := by decide +kernel
theorem d_249_16 : decode (cM 249) 16 = .ok (.if_icmp .ne 7, 3) := by decide +kernel
theorem d_249_19 : decode (cM 249) 19 = .ok (.iconst 1, 1) := by decide +kernel
theorem d_249_20 : decode (cM 249) 20 = .ok (.goto 14, 3) := by decide +kernel
theorem d_249_23 : decode (cM 249) 23 = .ok (.aload_n 0, 1) := by decide +kernel
theorem d_249_24 : decode (cM 249) 24 = .ok (.getfield 115, 3) := by decide +kernel
theorem d_249_27 : decode (cM 249) 27 = .ok (.iload_n 1, 1) := by decide +kernel
theorem d_249_28 : decode (cM 249) 28 = .ok (.iconst 1, 1) := by decide +kernel
theorem d_249_29 : decode (cM 249) 29 = .ok (.iload_n 2, 1) := by decide +kernel
theorem d_249_30 : decode (cM 249) 30 = .ok (.ishl, 1) := by decide +kernel
theorem d_249_31 : decode (cM 249) 31 = .ok (.ior, 1) := by decide +kernel
theorem d_249_32 : decode (cM 249) 32 = .ok (.iaload, 1) := by decide +kernel
theorem d_249_33 : decode (cM 249) 33 = .ok (.ineg, 1) := by decide +kernel
theorem d_249_34 : decode (cM 249) 34 = .ok (.ireturn, 1) := by decide +kernel
theorem d_250_0 : decode (cM 250) 0 = .ok (.aload_n 0, 1) := by decide +kernel
theorem d_250_1 : decode (cM 250) 1 = .ok (.invokevirtual 465, 3) := by decide +kernel
theorem kc_250_1 : callT (oM 250) 465 = some (0, 226, 0) ∧ fok 250 226 = true ∧ stM 226 = false := by decide +kernel
theorem d_250_4 : decode (cM 250) 4 = .ok (.iconst 1, 1) := by decide +kernel
theorem d_250_5 : decode (cM 250) 5 = .ok (.aload_n 0, 1) := by decide +kernel
theorem d_250_6 : decode (cM 250) 6 = .ok (.getfield 225, 3) := by decide +kernel
theorem d_250_9 : decode (cM 250) 9 = .ok (.ishl, 1) := by decide +kernel
theorem d_250_10 : decode (cM 250) 10 = .ok (.iconst 1, 1) := by decide +kernel
theorem d_250_11 : decode (cM 250) 11 = .ok (.isub, 1) := by decide +kernel
theorem d_250_12 : decode (cM 250) 12 = .ok (.istore_n 1, 1) := by decide +kernel
theorem d_250_13 : decode (cM 250) 13 = .ok (.iload_n 1, 1) := by decide +kernel
theorem d_250_14 : decode (cM 250) 14 = .ok (.ifCond .lt 87, 3) := by decide +kernel
theorem d_250_17 : decode (cM 250) 17 = .ok (.bipush (-2), 2) := by decide +kernel
theorem d_250_19 : decode (cM 250) 19 = .ok (.istore_n 2, 1) := by decide +kernel
theorem d_250_20 : decode (cM 250) 20 = .ok (.iconst 0, 1) := by decide +kernel
theorem d_250_21 : decode (cM 250) 21 = .ok (.istore_n 3, 1) := by decide +kernel
theorem d_250_22 : decode (cM 250) 22 = .ok (.iload_n 3, 1) := by decide +kernel
theorem d_250_23 : decode (cM 250) 23 = .ok (.aload_n 0, 1) := by decide +kernel
theorem d_250_24 : decode (cM 250) 24 = .ok (.getfield 225, 3) := by decide +kernel
theorem d_250_27 : decode (cM 250) 27 = .ok (.if_icmp .ge 52, 3) := by decide +kernel
theorem d_250_30 : decode (cM 250) 30 = .ok (.iload_n 1, 1) := by decide +kernel
theorem d_250_31 : decode (cM 250) 31 = .ok (.iload_n 3, 1) := by decide +kernel
theorem d_250_32 : decode (cM 250) 32 = .ok (.invokestatic 255, 3) := by decide +kernel
theorem kc_250_32 : callT (oM 250) 255 = some (1, 153, 2) ∧ fok 250 153 = true ∧ stM 153 = true := by decide +kernel
theorem d_250_35 : decode (cM 250) 35 = .ok (.ifCond .ne 38, 3) := by decide +kernel
theorem d_250_38 : decode (cM 250) 38 = .ok (.aload_n 0, 1) := by decide +kernel
theorem d_250_39 : decode (cM 250) 39 = .ok (.getfield 459, 3) := by decide +kernel
theorem d_250_42 : decode (cM 250) 42 = .ok (.iload_n 3, 1) := by decide +kernel
theorem d_250_43 : decode (cM 250) 43 = .ok (.invokestatic 255, 3) := by decide +kernel
theorem kc_250_43 : callT (oM 250) 255 = some (1, 153, 2) ∧ fok 250 153 = true ∧ stM 153 = true := by decide +kernel
theorem d_250_46 : decode (cM 250) 46 = .ok (.ifCond .ne 6, 3) := by decide +kernel
theorem d_250_49 : decode (cM 250) 49 = .ok (.goto 24, 3) := by decide +kernel
theorem d_250_52 : decode (cM 250) 52 = .ok (.aload_n 0, 1) := by decide +kernel
theorem d_250_53 : decode (cM 250) 53 = .ok (.iload_n 1, 1) := by decide +kernel
theorem d_250_54 : decode (cM 250) 54 = .ok (.iload_n 3, 1) := by decide +kernel
theorem d_250_55 : decode (cM 250) 55 = .ok (.invokevirtual 492, 3) := by decide +kernel
theorem kc_250_55 : callT (oM 250) 492 = some (0, 249, 2) ∧ fok 250 249 = true ∧ stM 249 = false := by decide +kernel
theorem d_250_58 : decode (cM 250) 58 = .ok (.istore 4, 2) := by decide +kernel
theorem d_250_60 : decode (cM 250) 60 = .ok (.iload 4, 2) := by decide +kernel
theorem d_250_62 : decode (cM 250) 62 = .ok (.iload_n 2, 1) := by decide +kernel
theorem d_250_63 : decode (cM 250) 63 = .ok (.if_icmp .le 8, 3) := by decide +kernel
theorem d_250_66 : decode (cM 250) 66 = .ok (.iload 4, 2) := by decide +kernel
theorem d_250_68 : decode (cM 250) 68 = .ok (.goto 4, 3) := by decide +kernel
theorem d_250_71 : decode (cM 250) 71 = .ok (.iload_n 2, 1) := by decide +kernel
theorem d_250_72 : decode (cM 250) 72 = .ok (.istore_n 2, 1) := by decide +kernel
theorem d_250_73 : decode (cM 250) 73 = .ok (.iinc 3 1, 3) := by decide +kernel
theorem d_250_76 : decode (cM 250) 76 = .ok (.goto (-54), 3) := by decide +kernel
theorem d_250_79 : decode (cM 250) 79 = .ok (.aload_n 0, 1) := by decide +kernel
theorem d_250_80 : decode (cM 250) 80 = .ok (.getfield 115, 3) := by decide +kernel
theorem d_250_83 : decode (cM 250) 83 = .ok (.iload_n 1, 1) := by decide +kernel
theorem d_250_84 : decode (cM 250) 84 = .ok (.iload_n 2, 1) := by decide +kernel
theorem d_250_85 : decode (cM 250) 85 = .ok (.iconst (-1), 1) := by decide +kernel
theorem d_250_86 : decode (cM 250) 86 = .ok (.if_icmp .ge 7, 3) := by decide +kernel
theorem d_250_89 : decode (cM 250) 89 = .ok (.iconst 0, 1) := by decide +kernel
theorem d_250_90 : decode (cM 250) 90 = .ok (.goto 4, 3) := by decide +kernel
theorem d_250_93 : decode (cM 250) 93 = .ok (.iload_n 2, 1) := by decide +kernel
theorem d_250_94 : decode (cM 250) 94 = .ok (.iastore, 1) := by decide +kernel
theorem d_250_95 : decode (cM 250) 95 = .ok (.iinc 1 (-1), 3) := by decide +kernel
theorem d_250_98 : decode (cM 250) 98 = .ok (.goto (-85), 3) := by decide +kernel
theorem d_250_101 : decode (cM 250) 101 = .ok (.return_, 1) := by decide +kernel
theorem d_251_0 : decode (cM 251) 0 = .ok (.aload_n 0, 1) := by decide +kernel
theorem d_251_1 : decode (cM 251) 1 = .ok (.iconst 0, 1) := by decide +kernel
theorem d_251_2 : decode (cM 251) 2 = .ok (.putfield 142, 3) := by decide +kernel
theorem d_251_5 : decode (cM 251) 5 = .ok (.iload_n 1, 1) := by decide +kernel
theorem d_251_6 : decode (cM 251) 6 = .ok (.iconst 0, 1) := by decide +kernel
theorem d_251_7 : decode (cM 251) 7 = .ok (.iconst 1, 1) := by decide +kernel
theorem d_251_8 : decode (cM 251) 8 = .ok (.invokestatic 187, 3) := by decide +kernel
theorem kc_251_8 : callT (oM 251) 187 = some (1, 152, 3) ∧ fok 251 152 = true ∧ stM 152 = true := by decide +kernel
theorem d_251_11 : decode (cM 251) 11 = .ok (.ifCond .ne 5, 3) := by decide +kernel
theorem d_251_14 : decode (cM 251) 14 = .ok (.iconst (-1), 1) := by decide +kernel
theorem d_251_15 : decode (cM 251) 15 = .ok (.ireturn, 1) := by decide +kernel
theorem d_251_16 : decode (cM 251) 16 = .ok (.aload_n 0, 1) := by decide +kernel
theorem d_251_17 : decode (cM 251) 17 = .ok (.invokevirtual 495, 3) := by decide +kernel
theorem kc_251_17 : callT (oM 251) 495 = some (0, 250, 0) ∧ fok 251 250 = true ∧ stM 250 = false := by decide +kernel
theorem d_251_20 : decode (cM 251) 20 = .ok (.aload_n 0, 1) := by decide +kernel
theorem d_251_21 : decode (cM 251) 21 = .ok (.getfield 82, 3) := by decide +kernel
theorem d_251_24 : decode (cM 251) 24 = .ok (.iconst 0, 1) := by decide +kernel
theorem d_251_25 : decode (cM 251) 25 = .ok (.iaload, 1) := by decide +kernel
theorem d_251_26 : decode (cM 251) 26 = .ok (.ifCond .eq 10, 3) := by decide +kernel
theorem d_251_29 : decode (cM 251) 29 = .ok (.aload_n 0, 1) := by decide +kernel
theorem d_251_30 : decode (cM 251) 30 = .ok (.getfield 459, 3) := by decide +kernel
theorem d_251_33 : decode (cM 251) 33 = .ok (.ifCond .ne 14, 3) := by decide +kernel
theorem d_251_36 : decode (cM 251) 36 = .ok (.iload_n 1, 1) := by decide +kernel
theorem d_251_37 : decode (cM 251) 37 = .ok (.ifCond .ne 7, 3) := by decide +kernel
theorem d_251_40 : decode (cM 251) 40 = .ok (.iconst 2, 1) := by decide +kernel
theorem d_251_41 : decode (cM 251) 41 = .ok (.goto 5, 3) := by decide +kernel
theorem d_251_44 : decode (cM 251) 44 = .ok (.bipush (-2), 2) := by decide +kernel
theorem d_251_46 : decode (cM 251) 46 = .ok (.ireturn, 1) := by decide +kernel
theorem d_251_47 : decode (cM 251) 47 = .ok (.iload_n 1, 1) := by decide +kernel
theorem d_251_48 : decode (cM 251) 48 = .ok (.ifCond .ne 32, 3) := by decide +kernel
theorem d_251_51 : decode (cM 251) 51 = .ok (.aload_n 0, 1) := by decide +kernel
theorem d_251_52 : decode (cM 251) 52 = .ok (.getfield 115, 3) := by decide +kernel
theorem d_251_55 : decode (cM 251) 55 = .ok (.iconst 0, 1) := by decide +kernel
theorem d_251_56 : decode (cM 251) 56 = .ok (.iaload, 1) := by decide +kernel
theorem d_251_57 : decode (cM 251) 57 = .ok (.iconst 1, 1) := by decide +kernel
theorem d_251_58 : decode (cM 251) 58 = .ok (.if_icmp .ne 7, 3) := by decide +kernel
theorem d_251_61 : decode (cM 251) 61 = .ok (.iconst 0, 1) := by decide +kernel
theorem d_251_62 : decode (cM 251) 62 = .ok (.goto 17, 3) := by decide +kernel
theorem d_251_65 : decode (cM 251) 65 = .ok (.aload_n 0, 1) := by decide +kernel
theorem d_251_66 : decode (cM 251) 66 = .ok (.getfield 115, 3) := by decide +kernel
theorem d_251_69 : decode (cM 251) 69 = .ok (.iconst 0, 1) := by decide +kernel
theorem d_251_70 : decode (cM 251) 70 = .ok (.iaload, 1) := by decide +kernel
theorem d_251_71 : decode (cM 251) 71 = .ok (.ifCond .ne 7, 3) := by decide +kernel
theorem d_251_74 : decode (cM 251) 74 = .ok (.iconst 2, 1) := by decide +kernel
theorem d_251_75 : decode (cM 251) 75 = .ok (.goto 4, 3) := by decide +kernel
theorem d_251_78 : decode (cM 251) 78 = .ok (.iconst 1, 1) := by decide +kernel
theorem d_251_79 : decode (cM 251) 79 = .ok (.ireturn, 1) := by decide +kernel
theorem d_251_80 : decode (cM 251) 80 = .ok (.iconst 0, 1) := by decide +kernel
theorem d_251_81 : decode (cM 251) 81 = .ok (.istore_n 2, 1) := by decide +kernel
theorem d_251_82 : decode (cM 251) 82 = .ok (.aload_n 0, 1) := by decide +kernel
theorem d_251_83 : decode (cM 251) 83 = .ok (.getfield 459, 3) := by decide +kernel
theorem d_251_86 : decode (cM 251) 86 = .ok (.iload_n 2, 1) := by decide +kernel
theorem d_251_87 : decode (cM 251) 87 = .ok (.invokestatic 255, 3) := by decide +kernel
theorem kc_251_87 : callT (oM 251) 255 = some (1, 153, 2) ∧ fok 251 153 = true ∧ stM 153 = true := by decide +kernel
theorem d_251_90 : decode (cM 251) 90 = .ok (.ifCond .eq 18, 3) := by decide +kernel
theorem d_251_93 : decode (cM 251) 93 = .ok (.aload_n 0, 1) := by decide +kernel
theorem d_251_94 : decode (cM 251) 94 = .ok (.iconst 0, 1) := by decide +kernel
theorem d_251_95 : decode (cM 251) 95 = .ok (.iload_n 2, 1) := by decide +kernel
theorem d_251_96 : decode (cM 251) 96 = .ok (.invokevirtual 492, 3) := by decide +kernel
theorem kc_251_96 : callT (oM 251) 492 = some (0, 249, 2) ∧ fok 251 249 = true ∧ stM 249 = false := by decide +kernel
theorem d_251_99 : decode (cM 251) 99 = .ok (.aload_n 0, 1) := by decide +kernel
theorem d_251_100 : decode (cM 251) 100 = .ok (.getfield 115, 3) := by decide +kernel
theorem d_251_103 : decode (cM 251) 103 = .ok (.iconst 0, 1) := by decide +kernel
theorem d_251_104 : decode (cM 251) 104 = .ok (.iaload, 1) := by decide +kernel
theorem d_251_105 : decode (cM 251) 105 = .ok (.if_icmp .eq 9, 3) := by decide +kernel
theorem d_251_108 : decode (cM 251) 108 = .ok (.iinc 2 1, 3) := by decide +kernel
theorem d_251_111 : decode (cM 251) 111 = .ok (.goto (-29), 3) := by decide +kernel
theorem d_251_114 : decode (cM 251) 114 = .ok (.iload_n 2, 1) := by decide +kernel
theorem d_251_115 : decode (cM 251) 115 = .ok (.ireturn, 1) := by decide +kernel
theorem d_252_0 : decode (cM 252) 0 = .ok (.aload_n 0, 1) := by decide +kernel
theorem d_252_1 : decode (cM 252) 1 = .ok (.iconst 0, 1) := by decide +kernel
theorem d_252_2 : decode (cM 252) 2 = .ok (.putfield 142, 3) := by decide +kernel
theorem d_252_5 : decode (cM 252) 5 = .ok (.iload_n 1, 1) := by decide +kernel
theorem d_252_6 : decode (cM 252) 6 = .ok (.iconst 0, 1) := by decide +kernel
theorem d_252_7 : decode (cM 252) 7 = .ok (.bipush 6, 2) := by decide +kernel
theorem d_252_9 : decode (cM 252) 9 = .ok (.invokestatic 187, 3) := by decide +kernel
theorem kc_252_9 : callT (oM 252) 187 = some (1, 152, 3) ∧ fok 252 152 = true ∧ stM 152 = true := by decide +kernel
theorem d_252_12 : decode (cM 252) 12 = .ok (.ifCond .eq 12, 3) := by decide +kernel
theorem d_252_15 : decode (cM 252) 15 = .ok (.iload_n 2, 1) := by decide +kernel
theorem d_252_16 : decode (cM 252) 16 = .ok (.iconst 0, 1) := by decide +kernel
theorem d_252_17 : decode (cM 252) 17 = .ok (.iconst 1, 1) := by decide +kernel
theorem d_252_18 : decode (cM 252) 18 = .ok (.invokestatic 187, 3) := by decide +kernel
theorem kc_252_18 : callT (oM 252) 187 = some (1, 152, 3) ∧ fok 252 152 = true ∧ stM 152 = true := by decide +kernel
theorem d_252_21 : decode (cM 252) 21 = .ok (.ifCond .ne 7, 3) := by decide +kernel
theorem d_252_24 : decode (cM 252) 24 = .ok (.ldc2_w 498, 3) := by decide +kernel
theorem d_252_27 : decode (cM 252) 27 = .ok (.lreturn, 1) := by decide +kernel
theorem d_252_28 : decode (cM 252) 28 = .ok (.lconst 1, 1) := by decide +kernel
theorem d_252_29 : decode (cM 252) 29 = .ok (.lstore_n 3, 1) := by decide +kernel
theorem d_252_30 : decode (cM 252) 30 = .ok (.lconst 1, 1) := by decide +kernel
theorem d_252_31 : decode (cM 252) 31 = .ok (.lstore 5, 2) := by decide +kernel
theorem d_252_33 : decode (cM 252) 33 = .ok (.iconst 0, 1) := by decide +kernel
theorem d_252_34 : decode (cM 252) 34 = .ok (.istore 7, 2) := by decide +kernel
theorem d_252_36 : decode (cM 252) 36 = .ok (.iload 7, 2) := by decide +kernel
theorem d_252_38 : decode (cM 252) 38 = .ok (.iload_n 1, 1) := by decide +kernel
theorem d_252_39 : decode (cM 252) 39 = .ok (.if_icmp .ge 30, 3) := by decide +kernel
theorem d_252_42 : decode (cM 252) 42 = .ok (.lload_n 3, 1) := by decide +kernel
theorem d_252_43 : decode (cM 252) 43 = .ok (.bipush 100, 2) := by decide +kernel
theorem d_252_45 : decode (cM 252) 45 = .ok (.aload_n 0, 1) := by decide +kernel
theorem d_252_46 : decode (cM 252) 46 = .ok (.getfield 27, 3) := by decide +kernel
theorem d_252_49 : decode (cM 252) 49 = .ok (.iconst 0, 1) := by decide +kernel
theorem d_252_50 : decode (cM 252) 50 = .ok (.iaload, 1) := by decide +kernel
theorem d_252_51 : decode (cM 252) 51 = .ok (.isub, 1) := by decide +kernel
theorem d_252_52 : decode (cM 252) 52 = .ok (.i2l, 1) := by decide +kernel
theorem d_252_53 : decode (cM 252) 53 = .ok (.lmul, 1) := by decide +kernel
theorem d_252_54 : decode (cM 252) 54 = .ok (.lstore_n 3, 1) := by decide +kernel
theorem d_252_55 : decode (cM 252) 55 = .ok (.lload 5, 2) := by decide +kernel
theorem d_252_57 : decode (cM 252) 57 = .ok (.ldc2_w 500, 3) := by decide +kernel
theorem d_252_60 : decode (cM 252) 60 = .ok (.lmul, 1) := by decide +kernel
theorem d_252_61 : decode (cM 252) 61 = .ok (.lstore 5, 2) := by decide +kernel
theorem d_252_63 : decode (cM 252) 63 = .ok (.iinc 7 1, 3) := by decide +kernel
theorem d_252_66 : decode (cM 252) 66 = .ok (.goto (-30), 3) := by decide +kernel
theorem d_252_69 : decode (cM 252) 69 = .ok (.lload 5, 2) := by decide +kernel
theorem d_252_71 : decode (cM 252) 71 = .ok (.lstore 7, 2) := by decide +kernel
theorem d_252_73 : decode (cM 252) 73 = .ok (.lload_n 3, 1) := by decide +kernel
theorem d_252_74 : decode (cM 252) 74 = .ok (.lstore 9, 2) := by decide +kernel
theorem d_252_76 : decode (cM 252) 76 = .ok (.lload 9, 2) := by decide +kernel
theorem d_252_78 : decode (cM 252) 78 = .ok (.lconst 0, 1) := by decide +kernel
theorem d_252_79 : decode (cM 252) 79 = .ok (.lcmp, 1) := by decide +kernel
theorem d_252_80 : decode (cM 252) 80 = .ok (.ifCond .eq 21, 3) := by decide +kernel
theorem d_252_83 : decode (cM 252) 83 = .ok (.lload 7, 2) := by decide +kernel
theorem d_252_85 : decode (cM 252) 85 = .ok (.lload 9, 2) := by decide +kernel
theorem d_252_87 : decode (cM 252) 87 = .ok (.lrem, 1) := by decide +kernel
theorem d_252_88 : decode (cM 252) 88 = .ok (.lstore 11, 2) := by decide +kernel
theorem d_252_90 : decode (cM 252) 90 = .ok (.lload 9, 2) := by decide +kernel
theorem d_252_92 : decode (cM 252) 92 = .ok (.lstore 7, 2) := by decide +kernel
theorem d_252_94 : decode (cM 252) 94 = .ok (.lload 11, 2) := by decide +kernel
theorem d_252_96 : decode (cM 252) 96 = .ok (.lstore 9, 2) := by decide +kernel
theorem d_252_98 : decode (cM 252) 98 = .ok (.goto (-22), 3) := by decide +kernel
theorem d_252_101 : decode (cM 252) 101 = .ok (.iload_n 2, 1) := by decide +kernel
theorem d_252_102 : decode (cM 252) 102 = .ok (.ifCond .ne 10, 3) := by decide +kernel
theorem d_252_105 : decode (cM 252) 105 = .ok (.lload_n 3, 1) := by decide +kernel
theorem d_252_106 : decode (cM 252) 106 = .ok (.lload 7, 2) := by decide +kernel
theorem d_252_108 : decode (cM 252) 108 = .ok (.ldiv, 1) := by decide +kernel
theorem d_252_109 : decode (cM 252) 109 = .ok (.goto 8, 3) := by decide +kernel
theorem d_252_112 : decode (cM 252) 112 = .ok (.lload 5, 2) := by decide +kernel
theorem d_252_114 : decode (cM 252) 114 = .ok (.lload 7, 2) := by decide +kernel
theorem d_252_116 : decode (cM 252) 116 = .ok (.ldiv, 1) := by decide +kernel
theorem d_252_117 : decode (cM 252) 117 = .ok (.lreturn, 1) := by decide +kernel
theorem d_253_0 : decode (cM 253) 0 = .ok (.aload_n 0, 1) := by decide +kernel
theorem d_253_1 : decode (cM 253) 1 = .ok (.getfield 365, 3) := by decide +kernel
theorem d_253_4 : decode (cM 253) 4 = .ok (.bipush 24, 2) := by decide +kernel
theorem d_253_6 : decode (cM 253) 6 = .ok (.if_icmp .ne 5, 3) := by decide +kernel
theorem d_253_9 : decode (cM 253) 9 = .ok (.iconst (-1), 1) := by decide +kernel
theorem d_253_10 : decode (cM 253) 10 = .ok (.ireturn, 1) := by decide +kernel
theorem d_253_11 : decode (cM 253) 11 = .ok (.iconst 3, 1) := by decide +kernel
theorem d_253_12 : decode (cM 253) 12 = .ok (.aload_n 0, 1) := by decide +kernel
theorem d_253_13 : decode (cM 253) 13 = .ok (.getfield 365, 3) := by decide +kernel
theorem d_253_16 : decode (cM 253) 16 = .ok (.imul, 1) := by decide +kernel
theorem d_253_17 : decode (cM 253) 17 = .ok (.istore 4, 2) := by decide +kernel
theorem d_253_19 : decode (cM 253) 19 = .ok (.aload_n 0, 1) := by decide +kernel
theorem d_253_20 : decode (cM 253) 20 = .ok (.getfield 121, 3) := by decide +kernel
theorem d_253_23 : decode (cM 253) 23 = .ok (.iload 4, 2) := by decide +kernel
theorem d_253_25 : decode (cM 253) 25 = .ok (.iload_n 1, 1) := by decide +kernel
theorem d_253_26 : decode (cM 253) 26 = .ok (.iastore, 1) := by decide +kernel
theorem d_253_27 : decode (cM 253) 27 = .ok (.aload_n 0, 1) := by decide +kernel
theorem d_253_28 : decode (cM 253) 28 = .ok (.getfield 121, 3) := by decide +kernel
theorem d_253_31 : decode (cM 253) 31 = .ok (.iload 4, 2) := by decide +kernel
theorem d_253_33 : decode (cM 253) 33 = .ok (.iconst 1, 1) := by decide +kernel
theorem d_253_34 : decode (cM 253) 34 = .ok (.iadd, 1) := by decide +kernel
theorem d_253_35 : decode (cM 253) 35 = .ok (.iload_n 2, 1) := by decide +kernel
theorem d_253_36 : decode (cM 253) 36 = .ok (.iastore, 1) := by decide +kernel
theorem d_253_37 : decode (cM 253) 37 = .ok (.aload_n 0, 1) := by decide +kernel
theorem d_253_38 : decode (cM 253) 38 = .ok (.getfield 121, 3) := by decide +kernel
theorem d_253_41 : decode (cM 253) 41 = .ok (.iload 4, 2) := by decide +kernel
theorem d_253_43 : decode (cM 253) 43 = .ok (.iconst 2, 1) := by decide +kernel
theorem d_253_44 : decode (cM 253) 44 = .ok (.iadd, 1) := by decide +kernel
theorem d_253_45 : decode (cM 253) 45 = .ok (.iload_n 3, 1) := by decide +kernel
theorem d_253_46 : decode (cM 253) 46 = .ok (.iastore, 1) := by decide +kernel
theorem d_253_47 : decode (cM 253) 47 = .ok (.aload_n 0, 1) := by decide +kernel
theorem d_253_48 : decode (cM 253) 48 = .ok (.dup, 1) := by decide +kernel
theorem d_253_49 : decode (cM 253) 49 = .ok (.getfield 365, 3) := by decide +kernel
theorem d_253_52 : decode (cM 253) 52 = .ok (.iconst 1, 1) := by decide +kernel
theorem d_253_53 : decode (cM 253) 53 = .ok (.iadd, 1) := by decide +kernel
theorem d_253_54 : decode (cM 253) 54 = .ok (.putfield 365, 3) := by decide +kernel
theorem d_253_57 : decode (cM 253) 57 = .ok (.aload_n 0, 1) := by decide +kernel
theorem d_253_58 : decode (cM 253) 58 = .ok (.getfield 365, 3) := by decide +kernel
theorem d_253_61 : decode (cM 253) 61 = .ok (.iconst 1, 1) := by decide +kernel
theorem d_253_62 : decode (cM 253) 62 = .ok (.isub, 1) := by decide +kernel
theorem d_253_63 : decode (cM 253) 63 = .ok (.ireturn, 1) := by decide +kernel
theorem d_254_0 : decode (cM 254) 0 = .ok (.aload_n 0, 1) := by decide +kernel
theorem d_254_1 : decode (cM 254) 1 = .ok (.iconst 0, 1) := by decide +kernel
theorem d_254_2 : decode (cM 254) 2 = .ok (.putfield 142, 3) := by decide +kernel
theorem d_254_5 : decode (cM 254) 5 = .ok (.iload_n 1, 1) := by decide +kernel
theorem d_254_6 : decode (cM 254) 6 = .ok (.ifCond .ne 11, 3) := by decide +kernel
theorem d_254_9 : decode (cM 254) 9 = .ok (.aload_n 0, 1) := by decide +kernel
theorem d_254_10 : decode (cM 254) 10 = .ok (.iload_n 2, 1) := by decide +kernel
theorem d_254_11 : decode (cM 254) 11 = .ok (.invokevirtual 439, 3) := by decide +kernel
theorem kc_254_11 : callT (oM 254) 439 = some (0, 199, 1) ∧ fok 254 199 = true ∧ stM 199 = false := by decide +kernel
theorem d_254_14 : decode (cM 254) 14 = .ok (.ifCond .ne 16, 3) := by decide +kernel
theorem d_254_17 : decode (cM 254) 17 = .ok (.iload_n 1, 1) := by decide +kernel
theorem d_254_18 : decode (cM 254) 18 = .ok (.iconst 1, 1) := by decide +kernel
theorem d_254_19 : decode (cM 254) 19 = .ok (.if_icmp .ne 29, 3) := by decide +kernel
theorem d_254_22 : decode (cM 254) 22 = .ok (.aload_n 0, 1) := by decide +kernel
theorem d_254_23 : decode (cM 254) 23 = .ok (.iload_n 2, 1) := by decide +kernel
theorem d_254_24 : decode (cM 254) 24 = .ok (.invokevirtual 445, 3) := by decide +kernel
theorem kc_254_24 : callT (oM 254) 445 = some (0, 200, 1) ∧ fok 254 200 = true ∧ stM 200 = false := by decide +kernel
theorem d_254_27 : decode (cM 254) 27 = .ok (.ifCond .eq 21, 3) := by decide +kernel
theorem d_254_30 : decode (cM 254) 30 = .ok (.aload_n 0, 1) := by decide +kernel
theorem d_254_31 : decode (cM 254) 31 = .ok (.iload_n 1, 1) := by decide +kernel
theorem d_254_32 : decode (cM 254) 32 = .ok (.iload_n 2, 1) := by decide +kernel
theorem d_254_33 : decode (cM 254) 33 = .ok (.iload_n 3, 1) := by decide +kernel
theorem d_254_34 : decode (cM 254) 34 = .ok (.ifCond .eq 7, 3) := by decide +kernel
theorem d_254_37 : decode (cM 254) 37 = .ok (.iconst 1, 1) := by decide +kernel
theorem d_254_38 : decode (cM 254) 38 = .ok (.goto 4, 3) := by decide +kernel
theorem d_254_41 : decode (cM 254) 41 = .ok (.iconst 0, 1) := by decide +kernel
theorem d_254_42 : decode (cM 254) 42 = .ok (.invokevirtual 502, 3) := by decide +kernel
theorem kc_254_42 : callT (oM 254) 502 = some (0, 253, 3) ∧ fok 254 253 = true ∧ stM 253 = false := by decide +kernel
theorem d_254_45 : decode (cM 254) 45 = .ok (.goto 4, 3) := by decide +kernel
theorem d_254_48 : decode (cM 254) 48 = .ok (.iconst (-1), 1) := by decide +kernel
theorem d_254_49 : decode (cM 254) 49 = .ok (.ireturn, 1) := by decide +kernel
theorem d_255_0 : decode (cM 255) 0 = .ok (.aload_n 0, 1) := by decide +kernel
theorem d_255_1 : decode (cM 255) 1 = .ok (.iconst 0, 1) := by decide +kernel
theorem d_255_2 : decode (cM 255) 2 = .ok (.putfield 142, 3) := by decide +kernel
theorem d_255_5 : decode (cM 255) 5 = .ok (.iload_n 1, 1) := by decide +kernel
theorem d_255_6 : decode (cM 255) 6 = .ok (.ifCond .lt 11, 3) := by decide +kernel
theorem d_255_9 : decode (cM 255) 9 = .ok (.iload_n 1, 1) := by decide +kernel
theorem d_255_10 : decode (cM 255) 10 = .ok (.aload_n 0, 1) := by decide +kernel
theorem d_255_11 : decode (cM 255) 11 = .ok (.getfield 365, 3) := by decide +kernel
theorem d_255_14 : decode (cM 255) 14 = .ok (.if_icmp .lt 7, 3) := by decide +kernel
theorem d_255_17 : decode (cM 255) 17 = .ok (.iconst (-1), 1) := by decide +kernel
theorem d_255_18 : decode (cM 255) 18 = .ok (.goto 10, 3) := by decide +kernel
theorem d_255_21 : decode (cM 255) 21 = .ok (.aload_n 0, 1) := by decide +kernel
theorem d_255_22 : decode (cM 255) 22 = .ok (.iconst 2, 1) := by decide +kernel
theorem d_255_23 : decode (cM 255) 23 = .ok (.iload_n 1, 1) := by decide +kernel
theorem d_255_24 : decode (cM 255) 24 = .ok (.iconst 0, 1) := by decide +kernel
theorem d_255_25 : decode (cM 255) 25 = .ok (.invokevirtual 502, 3) := by decide +kernel
theorem kc_255_25 : callT (oM 255) 502 = some (0, 253, 3) ∧ fok 255 253 = true ∧ stM 253 = false := by decide +kernel
theorem d_255_28 : decode (cM 255) 28 = .ok (.ireturn, 1) := by decide +kernel
theorem d_256_0 : decode (cM 256) 0 = .ok (.aload_n 0, 1) := by decide +kernel
theorem d_256_1 : decode (cM 256) 1 = .ok (.iconst 0, 1) := by decide +kernel
theorem d_256_2 : decode (cM 256) 2 = .ok (.putfield 142, 3) := by decide +kernel
theorem d_256_5 : decode (cM 256) 5 = .ok (.iload_n 1, 1) := by decide +kernel
theorem d_256_6 : decode (cM 256) 6 = .ok (.iconst (-1), 1) := by decide +kernel
theorem d_256_7 : decode (cM 256) 7 = .ok (.aload_n 0, 1) := by decide +kernel
theorem d_256_8 : decode (cM 256) 8 = .ok (.getfield 365, 3) := by decide +kernel
theorem d_256_11 : decode (cM 256) 11 = .ok (.invokestatic 187, 3) := by decide +kernel
theorem kc_256_11 : callT (oM 256) 187 = some (1, 152, 3) ∧ fok 256 152 = true ∧ stM 152 = true := by decide +kernel
theorem d_256_14 : decode (cM 256) 14 = .ok (.ifCond .ne 5, 3) := by decide +kernel
theorem d_256_17 : decode (cM 256) 17 = .ok (.iconst 0, 1) := by decide +kernel
theorem d_256_18 : decode (cM 256) 18 = .ok (.ireturn, 1) := by decide +kernel
theorem d_256_19 : decode (cM 256) 19 = .ok (.aload_n 0, 1) := by decide +kernel
theorem d_256_20 : decode (cM 256) 20 = .ok (.iload_n 1, 1) := by decide +kernel
theorem d_256_21 : decode (cM 256) 21 = .ok (.putfield 118, 3) := by decide +kernel
theorem d_256_24 : decode (cM 256) 24 = .ok (.iconst 1, 1) := by decide +kernel
theorem d_256_25 : decode (cM 256) 25 = .ok (.ireturn, 1) := by decide +kernel
theorem d_257_0 : decode (cM 257) 0 = .ok (.aload_n 0, 1) := by decide +kernel
theorem d_257_1 : decode (cM 257) 1 = .ok (.getfield 118, 3) := by decide +kernel
theorem d_257_4 : decode (cM 257) 4 = .ok (.ifCond .ge 10, 3) := by decide +kernel
theorem d_257_7 : decode (cM 257) 7 = .ok (.aload_n 0, 1) := by decide +kernel
theorem d_257_8 : decode (cM 257) 8 = .ok (.getfield 365, 3) := by decide +kernel
theorem d_257_11 : decode (cM 257) 11 = .ok (.goto 7, 3) := by decide +kernel
theorem d_257_14 : decode (cM 257) 14 = .ok (.aload_n 0, 1) := by decide +kernel
theorem d_257_15 : decode (cM 257) 15 = .ok (.getfield 118, 3) := by decide +kernel
theorem d_257_18 : decode (cM 257) 18 = .ok (.ireturn, 1) := by decide +kernel
theorem d_258_0 : decode (cM 258) 0 = .ok (.iconst 0, 1) := by decide +kernel
theorem d_258_1 : decode (cM 258) 1 = .ok (.istore_n 1, 1) := by decide +kernel
theorem d_258_2 : decode (cM 258) 2 = .ok (.iload_n 1, 1) := by decide +kernel
theorem d_258_3 : decode (cM 258) 3 = .ok (.aload_n 0, 1) := by decide +kernel
theorem d_258_4 : decode (cM 258) 4 = .ok (.invokevirtual 505, 3) := by decide +kernel
theorem kc_258_4 : callT (oM 258) 505 = some (0, 257, 0) ∧ fok 258 257 = true ∧ stM 257 = false := by decide +kernel
theorem d_258_7 : decode (cM 258) 7 = .ok (.if_icmp .ge 16, 3) := by decide +kernel
theorem d_258_10 : decode (cM 258) 10 = .ok (.aload_n 0, 1) := by decide +kernel
theorem d_258_11 : decode (cM 258) 11 = .ok (.getfield 124, 3) := by decide +kernel
theorem d_258_14 : decode (cM 258) 14 = .ok (.iload_n 1, 1) := by decide +kernel
theorem d_258_15 : decode (cM 258) 15 = .ok (.iconst 1, 1) := by decide +kernel
theorem d_258_16 : decode (cM 258) 16 = .ok (.bastore, 1) := by decide +kernel
theorem d_258_17 : decode (cM 258) 17 = .ok (.iinc 1 1, 3) := by decide +kernel
theorem d_258_20 : decode (cM 258) 20 = .ok (.goto (-18), 3) := by decide +kernel
theorem d_258_23 : decode (cM 258) 23 = .ok (.aload_n 0, 1) := by decide +kernel
theorem d_258_24 : decode (cM 258) 24 = .ok (.invokevirtual 505, 3) := by decide +kernel
theorem kc_258_24 : callT (oM 258) 505 = some (0, 257, 0) ∧ fok 258 257 = true ∧ stM 257 = false := by decide +kernel
theorem d_258_27 : decode (cM 258) 27 = .ok (.iconst 1, 1) := by decide +kernel
theorem d_258_28 : decode (cM 258) 28 = .ok (.isub, 1) := by decide +kernel
theorem d_258_29 : decode (cM 258) 29 = .ok (.istore_n 1, 1) := by decide +kernel
theorem d_258_30 : decode (cM 258) 30 = .ok (.iload_n 1, 1) := by decide +kernel
theorem d_258_31 : decode (cM 258) 31 = .ok (.ifCond .lt 46, 3) := by decide +kernel
theorem d_258_34 : decode (cM 258) 34 = .ok (.aload_n 0, 1) := by decide +kernel
theorem d_258_35 : decode (cM 258) 35 = .ok (.getfield 124, 3) := by decide +kernel
theorem d_258_38 : decode (cM 258) 38 = .ok (.iload_n 1, 1) := by decide +kernel
theorem d_258_39 : decode (cM 258) 39 = .ok (.baload, 1) := by decide +kernel
theorem d_258_40 : decode (cM 258) 40 = .ok (.ifCond .eq 31, 3) := by decide +kernel
theorem d_258_43 : decode (cM 258) 43 = .ok (.aload_n 0, 1) := by decide +kernel
theorem d_258_44 : decode (cM 258) 44 = .ok (.getfield 121, 3) := by decide +kernel
theorem d_258_47 : decode (cM 258) 47 = .ok (.iconst 3, 1) := by decide +kernel
theorem d_258_48 : decode (cM 258) 48 = .ok (.iload_n 1, 1) := by decide +kernel
theorem d_258_49 : decode (cM 258) 49 = .ok (.imul, 1) := by decide +kernel
theorem d_258_50 : decode (cM 258) 50 = .ok (.iaload, 1) := by decide +kernel
theorem d_258_51 : decode (cM 258) 51 = .ok (.iconst 2, 1) := by decide +kernel
theorem d_258_52 : decode (cM 258) 52 = .ok (.if_icmp .ne 19, 3) := by decide +kernel
theorem d_258_55 : decode (cM 258) 55 = .ok (.aload_n 0, 1) := by decide +kernel
theorem d_258_56 : decode (cM 258) 56 = .ok (.getfield 124, 3) := by decide +kernel
theorem d_258_59 : decode (cM 258) 59 = .ok (.aload_n 0, 1) := by decide +kernel
theorem d_258_60 : decode (cM 258) 60 = .ok (.getfield 121, 3) := by decide +kernel
theorem d_258_63 : decode (cM 258) 63 = .ok (.iconst 3, 1) := by decide +kernel
theorem d_258_64 : decode (cM 258) 64 = .ok (.iload_n 1, 1) := by decide +kernel
theorem d_258_65 : decode (cM 258) 65 = .ok (.imul, 1) := by decide +kernel
theorem d_258_66 : decode (cM 258) 66 = .ok (.iconst 1, 1) := by decide +kernel
theorem d_258_67 : decode (cM 258) 67 = .ok (.iadd, 1) := by decide +kernel
theorem d_258_68 : decode (cM 258) 68 = .ok (.iaload, 1) := by decide +kernel
theorem d_258_69 : decode (cM 258) 69 = .ok (.iconst 0, 1) := by decide +kernel
theorem d_258_70 : decode (cM 258) 70 = .ok (.bastore, 1) := by decide +kernel
theorem d_258_71 : decode (cM 258) 71 = .ok (.iinc 1 (-1), 3) := by decide +kernel
theorem d_258_74 : decode (cM 258) 74 = .ok (.goto (-44), 3) := by decide +kernel
theorem d_258_77 : decode (cM 258) 77 = .ok (.return_, 1) := by decide +kernel
theorem d_259_0 : decode (cM 259) 0 = .ok (.aload_n 0, 1) := by decide +kernel
theorem d_259_1 : decode (cM 259) 1 = .ok (.getfield 20, 3) := by decide +kernel
theorem d_259_4 : decode (cM 259) 4 = .ok (.iconst 0, 1) := by decide +kernel
theorem d_259_5 : decode (cM 259) 5 = .ok (.iaload, 1) := by decide +kernel
theorem d_259_6 : decode (cM 259) 6 = .ok (.istore_n 2, 1) := by decide +kernel
theorem d_259_7 : decode (cM 259) 7 = .ok (.iconst 0, 1) := by decide +kernel
theorem d_259_8 : decode (cM 259) 8 = .ok (.istore_n 3, 1) := by decide +kernel
theorem d_259_9 : decode (cM 259) 9 = .ok (.iload_n 3, 1) := by decide +kernel
theorem d_259_10 : decode (cM 259) 10 = .ok (.aload_n 0, 1) := by decide +kernel
theorem d_259_11 : decode (cM 259) 11 = .ok (.getfield 225, 3) := by decide +kernel
theorem d_259_14 : decode (cM 259) 14 = .ok (.if_icmp .ge 30, 3) := by decide +kernel
theorem d_259_17 : decode (cM 259) 17 = .ok (.iload_n 2, 1) := by decide +kernel
theorem d_259_18 : decode (cM 259) 18 = .ok (.iload_n 1, 1) := by decide +kernel
theorem d_259_19 : decode (cM 259) 19 = .ok (.iload_n 3, 1) := by decide +kernel
theorem d_259_20 : decode (cM 259) 20 = .ok (.invokestatic 255, 3) := by decide +kernel
theorem kc_259_20 : callT (oM 259) 255 = some (1, 153, 2) ∧ fok 259 153 = true ∧ stM 153 = true := by decide +kernel
theorem d_259_23 : decode (cM 259) 23 = .ok (.ifCond .eq 12, 3) := by decide +kernel
theorem d_259_26 : decode (cM 259) 26 = .ok (.aload_n 0, 1) := by decide +kernel
theorem d_259_27 : decode (cM 259) 27 = .ok (.getfield 39, 3) := by decide +kernel
theorem d_259_30 : decode (cM 259) 30 = .ok (.iload_n 3, 1) := by decide +kernel
theorem d_259_31 : decode (cM 259) 31 = .ok (.iaload, 1) := by decide +kernel
theorem d_259_32 : decode (cM 259) 32 = .ok (.goto 4, 3) := by decide +kernel
theorem d_259_35 : decode (cM 259) 35 = .ok (.iconst 0, 1) := by decide +kernel
theorem d_259_36 : decode (cM 259) 36 = .ok (.ixor, 1) := by decide +kernel
theorem d_259_37 : decode (cM 259) 37 = .ok (.istore_n 2, 1) := by decide +kernel
theorem d_259_38 : decode (cM 259) 38 = .ok (.iinc 3 1, 3) := by decide +kernel
theorem d_259_41 : decode (cM 259) 41 = .ok (.goto (-32), 3) := by decide +kernel
theorem d_259_44 : decode (cM 259) 44 = .ok (.iload_n 2, 1) := by decide +kernel
theorem d_259_45 : decode (cM 259) 45 = .ok (.ireturn, 1) := by decide +kernel
theorem d_260_0 : decode (cM 260) 0 = .ok (.aload_n 0, 1) := by decide +kernel
theorem d_260_1 : decode (cM 260) 1 = .ok (.iload_n 1, 1) := by decide +kernel
theorem d_260_2 : decode (cM 260) 2 = .ok (.invokevirtual 508, 3) := by decide +kernel
theorem kc_260_2 : callT (oM 260) 508 = some (0, 259, 1) ∧ fok 260 259 = true ∧ stM 259 = false := by decide +kernel
theorem d_260_5 : decode (cM 260) 5 = .ok (.istore_n 2, 1) := by decide +kernel
theorem d_260_6 : decode (cM 260) 6 = .ok (.iconst 0, 1) := by decide +kernel
theorem d_260_7 : decode (cM 260) 7 = .ok (.istore_n 3, 1) := by decide +kernel
theorem d_260_8 : decode (cM 260) 8 = .ok (.iload_n 3, 1) := by decide +kernel
theorem d_260_9 : decode (cM 260) 9 = .ok (.aload_n 0, 1) := by decide +kernel
theorem d_260_10 : decode (cM 260) 10 = .ok (.invokevirtual 505, 3) := by decide +kernel
theorem kc_260_10 : callT (oM 260) 505 = some (0, 257, 0) ∧ fok 260 257 = true ∧ stM 257 = false := by decide +kernel
theorem d_260_13 : decode (cM 260) 13 = .ok (.if_icmp .ge 87, 3) := by decide +kernel
theorem d_260_16 : decode (cM 260) 16 = .ok (.iconst 3, 1) := by decide +kernel
theorem d_260_17 : decode (cM 260) 17 = .ok (.iload_n 3, 1) := by decide +kernel
theorem d_260_18 : decode (cM 260) 18 = .ok (.imul, 1) := by decide +kernel
theorem d_260_19 : decode (cM 260) 19 = .ok (.istore 4, 2) := by decide +kernel
theorem d_260_21 : decode (cM 260) 21 = .ok (.aload_n 0, 1) := by decide +kernel
theorem d_260_22 : decode (cM 260) 22 = .ok (.getfield 124, 3) := by decide +kernel
theorem d_260_25 : decode (cM 260) 25 = .ok (.iload_n 3, 1) := by decide +kernel
theorem d_260_26 : decode (cM 260) 26 = .ok (.baload, 1) := by decide +kernel
theorem d_260_27 : decode (cM 260) 27 = .ok (.ifCond .eq 67, 3) := by decide +kernel
theorem d_260_30 : decode (cM 260) 30 = .ok (.aload_n 0, 1) := by decide +kernel
theorem d_260_31 : decode (cM 260) 31 = .ok (.getfield 121, 3) := by decide +kernel
theorem d_260_34 : decode (cM 260) 34 = .ok (.iload 4, 2) := by decide +kernel
theorem d_260_36 : decode (cM 260) 36 = .ok (.iaload, 1) := by decide +kernel
theorem d_260_37 : decode (cM 260) 37 = .ok (.iconst 2, 1) := by decide +kernel
theorem d_260_38 : decode (cM 260) 38 = .ok (.if_icmp .ne 6, 3) := by decide +kernel
theorem d_260_41 : decode (cM 260) 41 = .ok (.goto 53, 3) := by decide +kernel
theorem d_260_44 : decode (cM 260) 44 = .ok (.aload_n 0, 1) := by decide +kernel
theorem d_260_45 : decode (cM 260) 45 = .ok (.getfield 121, 3) := by decide +kernel
theorem d_260_48 : decode (cM 260) 48 = .ok (.iload 4, 2) := by decide +kernel
theorem d_260_50 : decode (cM 260) 50 = .ok (.iaload, 1) := by decide +kernel
theorem d_260_51 : decode (cM 260) 51 = .ok (.ifCond .ne 7, 3) := by decide +kernel
theorem d_260_54 : decode (cM 260) 54 = .ok (.iload_n 2, 1) := by decide +kernel
theorem d_260_55 : decode (cM 260) 55 = .ok (.goto 4, 3) := by decide +kernel
theorem d_260_58 : decode (cM 260) 58 = .ok (.iload_n 1, 1) := by decide +kernel
theorem d_260_59 : decode (cM 260) 59 = .ok (.aload_n 0, 1) := by decide +kernel
theorem d_260_60 : decode (cM 260) 60 = .ok (.getfield 121, 3) := by decide +kernel
theorem d_260_63 : decode (cM 260) 63 = .ok (.iload 4, 2) := by decide +kernel
theorem d_260_65 : decode (cM 260) 65 = .ok (.iconst 1, 1) := by decide +kernel
theorem d_260_66 : decode (cM 260) 66 = .ok (.iadd, 1) := by decide +kernel
theorem d_260_67 : decode (cM 260) 67 = .ok (.iaload, 1) := by decide +kernel
theorem d_260_68 : decode (cM 260) 68 = .ok (.invokestatic 255, 3) := by decide +kernel
theorem kc_260_68 : callT (oM 260) 255 = some (1, 153, 2) ∧ fok 260 153 = true ∧ stM 153 = true := by decide +kernel
theorem d_260_71 : decode (cM 260) 71 = .ok (.aload_n 0, 1) := by decide +kernel
theorem d_260_72 : decode (cM 260) 72 = .ok (.getfield 121, 3) := by decide +kernel
theorem d_260_75 : decode (cM 260) 75 = .ok (.iload 4, 2) := by decide +kernel
theorem d_260_77 : decode (cM 260) 77 = .ok (.iconst 2, 1) := by decide +kernel
theorem d_260_78 : decode (cM 260) 78 = .ok (.iadd, 1) := by decide +kernel
theorem d_260_79 : decode (cM 260) 79 = .ok (.iaload, 1) := by decide +kernel
theorem d_260_80 : decode (cM 260) 80 = .ok (.iconst 1, 1) := by decide +kernel
theorem d_260_81 : decode (cM 260) 81 = .ok (.if_icmp .ne 7, 3) := by decide +kernel
theorem d_260_84 : decode (cM 260) 84 = .ok (.iconst 1, 1) := by decide +kernel
theorem d_260_85 : decode (cM 260) 85 = .ok (.goto 4, 3) := by decide +kernel
theorem d_260_88 : decode (cM 260) 88 = .ok (.iconst 0, 1) := by decide +kernel
theorem d_260_89 : decode (cM 260) 89 = .ok (.if_icmp .eq 5, 3) := by decide +kernel
theorem d_260_92 : decode (cM 260) 92 = .ok (.iconst 0, 1) := by decide +kernel
theorem d_260_93 : decode (cM 260) 93 = .ok (.ireturn, 1) := by decide +kernel
theorem d_260_94 : decode (cM 260) 94 = .ok (.iinc 3 1, 3) := by decide +kernel
theorem d_260_97 : decode (cM 260) 97 = .ok (.goto (-89), 3) := by decide +kernel
theorem d_260_100 : decode (cM 260) 100 = .ok (.iconst 1, 1) := by decide +kernel
theorem d_260_101 : decode (cM 260) 101 = .ok (.ireturn, 1) := by decide +kernel
theorem d_261_0 : decode (cM 261) 0 = .ok (.aload_n 0, 1) := by decide +kernel
theorem d_261_1 : decode (cM 261) 1 = .ok (.iconst 0, 1) := by decide +kernel
theorem d_261_2 : decode (cM 261) 2 = .ok (.putfield 142, 3) := by decide +kernel
theorem d_261_5 : decode (cM 261) 5 = .ok (.aload_n 0, 1) := by decide +kernel
theorem d_261_6 : decode (cM 261) 6 = .ok (.invokevirtual 511, 3) := by decide +kernel
theorem kc_261_6 : callT (oM 261) 511 = some (0, 258, 0) ∧ fok 261 258 = true ∧ stM 258 = false := by decide +kernel
theorem d_261_9 : decode (cM 261) 9 = .ok (.iconst 0, 1) := by decide +kernel
theorem d_261_10 : decode (cM 261) 10 = .ok (.istore_n 1, 1) := by decide +kernel
theorem d_261_11 : decode (cM 261) 11 = .ok (.iconst 0, 1) := by decide +kernel
theorem d_261_12 : decode (cM 261) 12 = .ok (.istore_n 2, 1) := by decide +kernel
theorem d_261_13 : decode (cM 261) 13 = .ok (.iload_n 2, 1) := by decide +kernel
theorem d_261_14 : decode (cM 261) 14 = .ok (.iconst 1, 1) := by decide +kernel
theorem d_261_15 : decode (cM 261) 15 = .ok (.aload_n 0, 1) := by decide +kernel
theorem d_261_16 : decode (cM 261) 16 = .ok (.getfield 225, 3) := by decide +kernel
theorem d_261_19 : decode (cM 261) 19 = .ok (.ishl, 1) := by decide +kernel
theorem d_261_20 : decode (cM 261) 20 = .ok (.if_icmp .ge 25, 3) := by decide +kernel
theorem d_261_23 : decode (cM 261) 23 = .ok (.iload_n 1, 1) := by decide +kernel
theorem d_261_24 : decode (cM 261) 24 = .ok (.aload_n 0, 1) := by decide +kernel
theorem d_261_25 : decode (cM 261) 25 = .ok (.iload_n 2, 1) := by decide +kernel
theorem d_261_26 : decode (cM 261) 26 = .ok (.invokevirtual 514, 3) := by decide +kernel
theorem kc_261_26 : callT (oM 261) 514 = some (0, 260, 1) ∧ fok 261 260 = true ∧ stM 260 = false := by decide +kernel
theorem d_261_29 : decode (cM 261) 29 = .ok (.ifCond .eq 7, 3) := by decide +kernel
theorem d_261_32 : decode (cM 261) 32 = .ok (.iconst 1, 1) := by decide +kernel
theorem d_261_33 : decode (cM 261) 33 = .ok (.goto 4, 3) := by decide +kernel
theorem d_261_36 : decode (cM 261) 36 = .ok (.iconst 0, 1) := by decide +kernel
theorem d_261_37 : decode (cM 261) 37 = .ok (.iadd, 1) := by decide +kernel
theorem d_261_38 : decode (cM 261) 38 = .ok (.istore_n 1, 1) := by decide +kernel
theorem d_261_39 : decode (cM 261) 39 = .ok (.iinc 2 1, 3) := by decide +kernel
theorem d_261_42 : decode (cM 261) 42 = .ok (.goto (-29), 3) := by decide +kernel
theorem d_261_45 : decode (cM 261) 45 = .ok (.iload_n 1, 1) := by decide +kernel
theorem d_261_46 : decode (cM 261) 46 = .ok (.ireturn, 1) := by decide +kernel
theorem d_262_0 : decode (cM 262) 0 = .ok (.aload_n 0, 1) := by decide +kernel
theorem d_262_1 : decode (cM 262) 1 = .ok (.iconst 0, 1) := by decide +kernel
theorem d_262_2 : decode (cM 262) 2 = .ok (.putfield 142, 3) := by decide +kernel
theorem d_262_5 : decode (cM 262) 5 = .ok (.aload_n 0, 1) := by decide +kernel
theorem d_262_6 : decode (cM 262) 6 = .ok (.iload_n 1, 1) := by decide +kernel
theorem d_262_7 : decode (cM 262) 7 = .ok (.invokevirtual 445, 3) := by decide +kernel
theorem kc_262_7 : callT (oM 262) 445 = some (0, 200, 1) ∧ fok 262 200 = true ∧ stM 200 = false := by decide +kernel
theorem d_262_10 : decode (cM 262) 10 = .ok (.ifCond .ne 5, 3) := by decide +kernel
theorem d_262_13 : decode (cM 262) 13 = .ok (.iconst (-1), 1) := by decide +kernel
theorem d_262_14 : decode (cM 262) 14 = .ok (.ireturn, 1) := by decide +kernel
theorem d_262_15 : decode (cM 262) 15 = .ok (.aload_n 0, 1) := by decide +kernel
theorem d_262_16 : decode (cM 262) 16 = .ok (.invokevirtual 511, 3) := by decide +kernel
theorem kc_262_16 : callT (oM 262) 511 = some (0, 258, 0) ∧ fok 262 258 = true ∧ stM 258 = false := by decide +kernel
theorem d_262_19 : decode (cM 262) 19 = .ok (.iconst 0, 1) := by decide +kernel
theorem d_262_20 : decode (cM 262) 20 = .ok (.istore_n 2, 1) := by decide +kernel
theorem d_262_21 : decode (cM 262) 21 = .ok (.iconst 0, 1) := by decide +kernel
theorem d_262_22 : decode (cM 262) 22 = .ok (.istore_n 3, 1) := by decide +kernel
theorem d_262_23 : decode (cM 262) 23 = .ok (.iconst 0, 1) := by decide +kernel
theorem d_262_24 : decode (cM 262) 24 = .ok (.istore 4, 2) := by decide +kernel
theorem d_262_26 : decode (cM 262) 26 = .ok (.iload 4, 2) := by decide +kernel
theorem d_262_28 : decode (cM 262) 28 = .ok (.iconst 1, 1) := by decide +kernel
theorem d_262_29 : decode (cM 262) 29 = .ok (.aload_n 0, 1) := by decide +kernel
theorem d_262_30 : decode (cM 262) 30 = .ok (.getfield 225, 3) := by decide +kernel
theorem d_262_33 : decode (cM 262) 33 = .ok (.ishl, 1) := by decide +kernel
theorem d_262_34 : decode (cM 262) 34 = .ok (.if_icmp .ge 33, 3) := by decide +kernel
theorem d_262_37 : decode (cM 262) 37 = .ok (.aload_n 0, 1) := by decide +kernel
theorem d_262_38 : decode (cM 262) 38 = .ok (.iload 4, 2) := by decide +kernel
theorem d_262_40 : decode (cM 262) 40 = .ok (.invokevirtual 514, 3) := by decide +kernel
theorem kc_262_40 : callT (oM 262) 514 = some (0, 260, 1) ∧ fok 262 260 = true ∧ stM 260 = false := by decide +kernel
theorem d_262_43 : decode (cM 262) 43 = .ok (.ifCond .ne 6, 3) := by decide +kernel
theorem d_262_46 : decode (cM 262) 46 = .ok (.goto 15, 3) := by decide +kernel
theorem d_262_49 : decode (cM 262) 49 = .ok (.iinc 2 1, 3) := by decide +kernel
theorem d_262_52 : decode (cM 262) 52 = .ok (.iload_n 3, 1) := by decide +kernel
theorem d_262_53 : decode (cM 262) 53 = .ok (.iload 4, 2) := by decide +kernel
theorem d_262_55 : decode (cM 262) 55 = .ok (.iload_n 1, 1) := by decide +kernel
theorem d_262_56 : decode (cM 262) 56 = .ok (.ishr, 1) := by decide +kernel
theorem d_262_57 : decode (cM 262) 57 = .ok (.iconst 1, 1) := by decide +kernel
theorem d_262_58 : decode (cM 262) 58 = .ok (.iand, 1) := by decide +kernel
theorem d_262_59 : decode (cM 262) 59 = .ok (.iadd, 1) := by decide +kernel
theorem d_262_60 : decode (cM 262) 60 = .ok (.istore_n 3, 1) := by decide +kernel
theorem d_262_61 : decode (cM 262) 61 = .ok (.iinc 4 1, 3) := by decide +kernel
theorem d_262_64 : decode (cM 262) 64 = .ok (.goto (-38), 3) := by decide +kernel
theorem d_262_67 : decode (cM 262) 67 = .ok (.iload_n 2, 1) := by decide +kernel
theorem d_262_68 : decode (cM 262) 68 = .ok (.ifCond .ne 8, 3) := by decide +kernel
theorem d_262_71 : decode (cM 262) 71 = .ok (.bipush (-2), 2) := by decide +kernel
theorem d_262_73 : decode (cM 262) 73 = .ok (.goto 21, 3) := by decide +kernel
theorem d_262_76 : decode (cM 262) 76 = .ok (.iload_n 3, 1) := by decide +kernel
theorem d_262_77 : decode (cM 262) 77 = .ok (.iload_n 2, 1) := by decide +kernel
theorem d_262_78 : decode (cM 262) 78 = .ok (.if_icmp .ne 7, 3) := by decide +kernel
theorem d_262_81 : decode (cM 262) 81 = .ok (.iconst 1, 1) := by decide +kernel
theorem d_262_82 : decode (cM 262) 82 = .ok (.goto 12, 3) := by decide +kernel
theorem d_262_85 : decode (cM 262) 85 = .ok (.iload_n 3, 1) := by decide +kernel
theorem d_262_86 : decode (cM 262) 86 = .ok (.ifCond .ne 7, 3) := by decide +kernel
theorem d_262_89 : decode (cM 262) 89 = .ok (.iconst 0, 1) := by decide +kernel
theorem d_262_90 : decode (cM 262) 90 = .ok (.goto 4, 3) := by decide +kernel
theorem d_262_93 : decode (cM 262) 93 = .ok (.iconst 2, 1) := by decide +kernel
theorem d_262_94 : decode (cM 262) 94 = .ok (.ireturn, 1) := by decide +kernel
theorem d_263_0 : decode (cM 263) 0 = .ok (.aload_n 0, 1) := by decide +kernel
theorem d_263_1 : decode (cM 263) 1 = .ok (.iconst 0, 1) := by decide +kernel
theorem d_263_2 : decode (cM 263) 2 = .ok (.putfield 142, 3) := by decide +kernel
theorem d_263_5 : decode (cM 263) 5 = .ok (.aload_n 0, 1) := by decide +kernel
theorem d_263_6 : decode (cM 263) 6 = .ok (.invokevirtual 511, 3) := by decide +kernel
theorem kc_263_6 : callT (oM 263) 511 = some (0, 258, 0) ∧ fok 263 258 = true ∧ stM 258 = false := by decide +kernel
theorem d_263_9 : decode (cM 263) 9 = .ok (.iconst (-1), 1) := by decide +kernel
theorem d_263_10 : decode (cM 263) 10 = .ok (.istore_n 1, 1) := by decide +kernel
theorem d_263_11 : decode (cM 263) 11 = .ok (.iconst 0, 1) := by decide +kernel
theorem d_263_12 : decode (cM 263) 12 = .ok (.istore_n 2, 1) := by decide +kernel
theorem d_263_13 : decode (cM 263) 13 = .ok (.iconst 0, 1) := by decide +kernel
theorem d_263_14 : decode (cM 263) 14 = .ok (.istore_n 3, 1) := by decide +kernel
theorem d_263_15 : decode (cM 263) 15 = .ok (.iload_n 3, 1) := by decide +kernel
theorem d_263_16 : decode (cM 263) 16 = .ok (.iconst 1, 1) := by decide +kernel
theorem d_263_17 : decode (cM 263) 17 = .ok (.aload_n 0, 1) := by decide +kernel
theorem d_263_18 : decode (cM 263) 18 = .ok (.getfield 225, 3) := by decide +kernel
theorem d_263_21 : decode (cM 263) 21 = .ok (.ishl, 1) := by decide +kernel
theorem d_263_22 : decode (cM 263) 22 = .ok (.if_icmp .ge 36, 3) := by decide +kernel
theorem d_263_25 : decode (cM 263) 25 = .ok (.aload_n 0, 1) := by decide +kernel
theorem d_263_26 : decode (cM 263) 26 = .ok (.iload_n 3, 1) := by decide +kernel
theorem d_263_27 : decode (cM 263) 27 = .ok (.invokevirtual 514, 3) := by decide +kernel
theorem kc_263_27 : callT (oM 263) 514 = some (0, 260, 1) ∧ fok 263 260 = true ∧ stM 260 = false := by decide +kernel
theorem d_263_30 : decode (cM 263) 30 = .ok (.ifCond .ne 6, 3) := by decide +kernel
theorem d_263_33 : decode (cM 263) 33 = .ok (.goto 19, 3) := by decide +kernel
theorem d_263_36 : decode (cM 263) 36 = .ok (.iload_n 1, 1) := by decide +kernel
theorem d_263_37 : decode (cM 263) 37 = .ok (.aload_n 0, 1) := by decide +kernel
theorem d_263_38 : decode (cM 263) 38 = .ok (.iload_n 3, 1) := by decide +kernel
theorem d_263_39 : decode (cM 263) 39 = .ok (.invokevirtual 508, 3) := by decide +kernel
theorem kc_263_39 : callT (oM 263) 508 = some (0, 259, 1) ∧ fok 263 259 = true ∧ stM 259 = false := by decide +kernel
theorem d_263_42 : decode (cM 263) 42 = .ok (.iand, 1) := by decide +kernel
theorem d_263_43 : decode (cM 263) 43 = .ok (.istore_n 1, 1) := by decide +kernel
theorem d_263_44 : decode (cM 263) 44 = .ok (.iload_n 2, 1) := by decide +kernel
theorem d_263_45 : decode (cM 263) 45 = .ok (.aload_n 0, 1) := by decide +kernel
theorem d_263_46 : decode (cM 263) 46 = .ok (.iload_n 3, 1) := by decide +kernel
theorem d_263_47 : decode (cM 263) 47 = .ok (.invokevirtual 508, 3) := by decide +kernel
theorem kc_263_47 : callT (oM 263) 508 = some (0, 259, 1) ∧ fok 263 259 = true ∧ stM 259 = false := by decide +kernel
theorem d_263_50 : decode (cM 263) 50 = .ok (.ior, 1) := by decide +kernel
theorem d_263_51 : decode (cM 263) 51 = .ok (.istore_n 2, 1) := by decide +kernel
theorem d_263_52 : decode (cM 263) 52 = .ok (.iinc 3 1, 3) := by decide +kernel
theorem d_263_55 : decode (cM 263) 55 = .ok (.goto (-40), 3) := by decide +kernel
theorem d_263_58 : decode (cM 263) 58 = .ok (.iconst 0, 1) := by decide +kernel
theorem d_263_59 : decode (cM 263) 59 = .ok (.istore_n 3, 1) := by decide +kernel
theorem d_263_60 : decode (cM 263) 60 = .ok (.iload_n 3, 1) := by decide +kernel
theorem d_263_61 : decode (cM 263) 61 = .ok (.aload_n 0, 1) := by decide +kernel
theorem d_263_62 : decode (cM 263) 62 = .ok (.getfield 222, 3) := by decide +kernel
theorem d_263_65 : decode (cM 263) 65 = .ok (.if_icmp .ge 27, 3) := by decide +kernel
theorem d_263_68 : decode (cM 263) 68 = .ok (.iload_n 2, 1) := by decide +kernel
theorem d_263_69 : decode (cM 263) 69 = .ok (.iload_n 3, 1) := by decide +kernel
theorem d_263_70 : decode (cM 263) 70 = .ok (.invokestatic 255, 3) := by decide +kernel
theorem kc_263_70 : callT (oM 263) 255 = some (1, 153, 2) ∧ fok 263 153 = true ∧ stM 153 = true := by decide +kernel
theorem d_263_73 : decode (cM 263) 73 = .ok (.ifCond .eq 13, 3) := by decide +kernel
theorem d_263_76 : decode (cM 263) 76 = .ok (.iload_n 1, 1) := by decide +kernel
theorem d_263_77 : decode (cM 263) 77 = .ok (.iload_n 3, 1) := by decide +kernel
theorem d_263_78 : decode (cM 263) 78 = .ok (.invokestatic 255, 3) := by decide +kernel
theorem kc_263_78 : callT (oM 263) 255 = some (1, 153, 2) ∧ fok 263 153 = true ∧ stM 153 = true := by decide +kernel
theorem d_263_81 : decode (cM 263) 81 = .ok (.ifCond .ne 5, 3) := by decide +kernel
theorem d_263_84 : decode (cM 263) 84 = .ok (.iload_n 3, 1) := by decide +kernel
theorem d_263_85 : decode (cM 263) 85 = .ok (.ireturn, 1) := by decide +kernel
theorem d_263_86 : decode (cM 263) 86 = .ok (.iinc 3 1, 3) := by decide +kernel
theorem d_263_89 : decode (cM 263) 89 = .ok (.goto (-29), 3) := by decide +kernel
theorem d_263_92 : decode (cM 263) 92 = .ok (.bipush (-2), 2) := by decide +kernel
theorem d_263_94 : decode (cM 263) 94 = .ok (.ireturn, 1) := by decide +kernel
theorem d_264_0 : decode (cM 264) 0 = .ok (.aload_n 0, 1) := by decide +kernel
theorem d_264_1 : decode (cM 264) 1 = .ok (.iconst 0, 1) := by decide +kernel
theorem d_264_2 : decode (cM 264) 2 = .ok (.putfield 142, 3) := by decide +kernel
theorem d_264_5 : decode (cM 264) 5 = .ok (.iload_n 1, 1) := by decide +kernel
theorem d_264_6 : decode (cM 264) 6 = .ok (.ifCond .lt 21, 3) := by decide +kernel
theorem d_264_9 : decode (cM 264) 9 = .ok (.iload_n 2, 1) := by decide +kernel
theorem d_264_10 : decode (cM 264) 10 = .ok (.iconst 1, 1) := by decide +kernel
theorem d_264_11 : decode (cM 264) 11 = .ok (.bipush 99, 2) := by decide +kernel
theorem d_264_13 : decode (cM 264) 13 = .ok (.invokestatic 187, 3) := by decide +kernel
theorem kc_264_13 : callT (oM 264) 187 = some (1, 152, 3) ∧ fok 264 152 = true ∧ stM 152 = true := by decide +kernel
theorem d_264_16 : decode (cM 264) 16 = .ok (.ifCond .eq 11, 3) := by decide +kernel
theorem d_264_19 : decode (cM 264) 19 = .ok (.aload_n 0, 1) := by decide +kernel
theorem d_264_20 : decode (cM 264) 20 = .ok (.iload_n 3, 1) := by decide +kernel
theorem d_264_21 : decode (cM 264) 21 = .ok (.invokevirtual 439, 3) := by decide +kernel
theorem kc_264_21 : callT (oM 264) 439 = some (0, 199, 1) ∧ fok 264 199 = true ∧ stM 199 = false := by decide +kernel
theorem d_264_24 : decode (cM 264) 24 = .ok (.ifCond .ne 5, 3) := by decide +kernel
theorem d_264_27 : decode (cM 264) 27 = .ok (.iconst (-1), 1) := by decide +kernel
theorem d_264_28 : decode (cM 264) 28 = .ok (.ireturn, 1) := by decide +kernel
theorem d_264_29 : decode (cM 264) 29 = .ok (.aload_n 0, 1) := by decide +kernel
theorem d_264_30 : decode (cM 264) 30 = .ok (.getfield 358, 3) := by decide +kernel
theorem d_264_33 : decode (cM 264) 33 = .ok (.lstore 4, 2) := by decide +kernel
theorem d_264_35 : decode (cM 264) 35 = .ok (.aload_n 0, 1) := by decide +kernel
theorem d_264_36 : decode (cM 264) 36 = .ok (.iload_n 1, 1) := by decide +kernel
theorem d_264_37 : decode (cM 264) 37 = .ok (.i2l, 1) := by decide +kernel
theorem d_264_38 : decode (cM 264) 38 = .ok (.putfield 358, 3) := by decide +kernel
theorem d_264_41 : decode (cM 264) 41 = .ok (.iconst 0, 1) := by decide +kernel
theorem d_264_42 : decode (cM 264) 42 = .ok (.istore 6, 2) := by decide +kernel
theorem d_264_44 : decode (cM 264) 44 = .ok (.iconst 0, 1) := by decide +kernel
theorem d_264_45 : decode (cM 264) 45 = .ok (.istore 7, 2) := by decide +kernel
theorem d_264_47 : decode (cM 264) 47 = .ok (.iload 7, 2) := by decide +kernel
theorem d_264_49 : decode (cM 264) 49 = .ok (.bipush 10, 2) := by decide +kernel
theorem d_264_51 : decode (cM 264) 51 = .ok (.if_icmp .ge 38, 3) := by decide +kernel
theorem d_264_54 : decode (cM 264) 54 = .ok (.aload_n 0, 1) := by decide +kernel
theorem d_264_55 : decode (cM 264) 55 = .ok (.invokevirtual 453, 3) := by decide +kernel
theorem kc_264_55 : callT (oM 264) 453 = some (0, 198, 0) ∧ fok 264 198 = true ∧ stM 198 = false := by decide +kernel
theorem d_264_58 : decode (cM 264) 58 = .ok (.aload_n 0, 1) := by decide +kernel
theorem d_264_59 : decode (cM 264) 59 = .ok (.iconst 1, 1) := by decide +kernel
theorem d_264_60 : decode (cM 264) 60 = .ok (.putfield 374, 3) := by decide +kernel
theorem d_264_63 : decode (cM 264) 63 = .ok (.aload_n 0, 1) := by decide +kernel
theorem d_264_64 : decode (cM 264) 64 = .ok (.iload_n 2, 1) := by decide +kernel
theorem d_264_65 : decode (cM 264) 65 = .ok (.invokevirtual 456, 3) := by decide +kernel
theorem kc_264_65 : callT (oM 264) 456 = some (0, 214, 1) ∧ fok 264 214 = true ∧ stM 214 = false := by decide +kernel
theorem d_264_68 : decode (cM 264) 68 = .ok (.iload 6, 2) := by decide +kernel
theorem d_264_70 : decode (cM 264) 70 = .ok (.aload_n 0, 1) := by decide +kernel
theorem d_264_71 : decode (cM 264) 71 = .ok (.getfield 85, 3) := by decide +kernel
theorem d_264_74 : decode (cM 264) 74 = .ok (.iconst 1, 1) := by decide +kernel
theorem d_264_75 : decode (cM 264) 75 = .ok (.iaload, 1) := by decide +kernel
theorem d_264_76 : decode (cM 264) 76 = .ok (.iload_n 3, 1) := by decide +kernel
theorem d_264_77 : decode (cM 264) 77 = .ok (.ishr, 1) := by decide +kernel
theorem d_264_78 : decode (cM 264) 78 = .ok (.iconst 1, 1) := by decide +kernel
theorem d_264_79 : decode (cM 264) 79 = .ok (.iand, 1) := by decide +kernel
theorem d_264_80 : decode (cM 264) 80 = .ok (.iadd, 1) := by decide +kernel
theorem d_264_81 : decode (cM 264) 81 = .ok (.istore 6, 2) := by decide +kernel
theorem d_264_83 : decode (cM 264) 83 = .ok (.iinc 7 1, 3) := by decide +kernel
theorem d_264_86 : decode (cM 264) 86 = .ok (.goto (-39), 3) := by decide +kernel
theorem d_264_89 : decode (cM 264) 89 = .ok (.aload_n 0, 1) := by decide +kernel
theorem d_264_90 : decode (cM 264) 90 = .ok (.iconst 0, 1) := by decide +kernel
theorem d_264_91 : decode (cM 264) 91 = .ok (.putfield 374, 3) := by decide +kernel
theorem d_264_94 : decode (cM 264) 94 = .ok (.aload_n 0, 1) := by decide +kernel
theorem d_264_95 : decode (cM 264) 95 = .ok (.lload 4, 2) := by decide +kernel
theorem d_264_97 : decode (cM 264) 97 = .ok (.putfield 358, 3) := by decide +kernel
theorem d_264_100 : decode (cM 264) 100 = .ok (.iload 6, 2) := by decide +kernel
theorem d_264_102 : decode (cM 264) 102 = .ok (.ireturn, 1) := by decide +kernel
theorem d_265_0 : decode (cM 265) 0 = .ok (.aload_n 0, 1) := by decide +kernel
theorem d_265_1 : decode (cM 265) 1 = .ok (.iconst 0, 1) := by decide +kernel
theorem d_265_2 : decode (cM 265) 2 = .ok (.putfield 142, 3) := by decide +kernel
theorem d_265_5 : decode (cM 265) 5 = .ok (.iload_n 1, 1) := by decide +kernel
theorem d_265_6 : decode (cM 265) 6 = .ok (.iconst 0, 1) := by decide +kernel
theorem d_265_7 : decode (cM 265) 7 = .ok (.iconst 4, 1) := by decide +kernel
theorem d_265_8 : decode (cM 265) 8 = .ok (.invokestatic 187, 3) := by decide +kernel
theorem kc_265_8 : callT (oM 265) 187 = some (1, 152, 3) ∧ fok 265 152 = true ∧ stM 152 = true := by decide +kernel
theorem d_265_11 : decode (cM 265) 11 = .ok (.ifCond .eq 34, 3) := by decide +kernel
theorem d_265_14 : decode (cM 265) 14 = .ok (.iload_n 3, 1) := by decide +kernel
theorem d_265_15 : decode (cM 265) 15 = .ok (.iconst 0, 1) := by decide +kernel
theorem d_265_16 : decode (cM 265) 16 = .ok (.sipush 200, 3) := by decide +kernel
theorem d_265_19 : decode (cM 265) 19 = .ok (.invokestatic 187, 3) := by decide +kernel
theorem kc_265_19 : callT (oM 265) 187 = some (1, 152, 3) ∧ fok 265 152 = true ∧ stM 152 = true := by decide +kernel
theorem d_265_22 : decode (cM 265) 22 = .ok (.ifCond .eq 23, 3) := by decide +kernel
theorem d_265_25 : decode (cM 265) 25 = .ok (.iload_n 1, 1) := by decide +kernel
theorem d_265_26 : decode (cM 265) 26 = .ok (.iconst 2, 1) := by decide +kernel
theorem d_265_27 : decode (cM 265) 27 = .ok (.if_icmp .ne 14, 3) := by decide +kernel
theorem d_265_30 : decode (cM 265) 30 = .ok (.aload_n 0, 1) := by decide +kernel
theorem d_265_31 : decode (cM 265) 31 = .ok (.iload_n 2, 1) := by decide +kernel
theorem d_265_32 : decode (cM 265) 32 = .ok (.invokevirtual 445, 3) := by decide +kernel
theorem kc_265_32 : callT (oM 265) 445 = some (0, 200, 1) ∧ fok 265 200 = true ∧ stM 200 = false := by decide +kernel
theorem d_265_35 : decode (cM 265) 35 = .ok (.ifCond .ne 12, 3) := by decide +kernel
theorem d_265_38 : decode (cM 265) 38 = .ok (.goto 7, 3) := by decide +kernel
theorem d_265_41 : decode (cM 265) 41 = .ok (.iload_n 2, 1) := by decide +kernel
theorem d_265_42 : decode (cM 265) 42 = .ok (.ifCond .eq 5, 3) := by decide +kernel
theorem d_265_45 : decode (cM 265) 45 = .ok (.iconst (-1), 1) := by decide +kernel
theorem d_265_46 : decode (cM 265) 46 = .ok (.ireturn, 1) := by decide +kernel
theorem d_265_47 : decode (cM 265) 47 = .ok (.aload_n 0, 1) := by decide +kernel
theorem d_265_48 : decode (cM 265) 48 = .ok (.invokevirtual 453, 3) := by decide +kernel
theorem kc_265_48 : callT (oM 265) 453 = some (0, 198, 0) ∧ fok 265 198 = true ∧ stM 198 = false := by decide +kernel
theorem d_265_51 : decode (cM 265) 51 = .ok (.aload_n 0, 1) := by decide +kernel
theorem d_265_52 : decode (cM 265) 52 = .ok (.iload_n 1, 1) := by decide +kernel
theorem d_265_53 : decode (cM 265) 53 = .ok (.ifCond .ne 7, 3) := by decide +kernel
theorem d_265_56 : decode (cM 265) 56 = .ok (.iconst 1, 1) := by decide +kernel
theorem d_265_57 : decode (cM 265) 57 = .ok (.goto 4, 3) := by decide +kernel
theorem d_265_60 : decode (cM 265) 60 = .ok (.iconst 0, 1) := by decide +kernel
theorem d_265_61 : decode (cM 265) 61 = .ok (.putfield 377, 3) := by decide +kernel
theorem d_265_64 : decode (cM 265) 64 = .ok (.aload_n 0, 1) := by decide +kernel
theorem d_265_65 : decode (cM 265) 65 = .ok (.iload_n 1, 1) := by decide +kernel
theorem d_265_66 : decode (cM 265) 66 = .ok (.iconst 1, 1) := by decide +kernel
theorem d_265_67 : decode (cM 265) 67 = .ok (.if_icmp .ne 7, 3) := by decide +kernel
theorem d_265_70 : decode (cM 265) 70 = .ok (.iconst 1, 1) := by decide +kernel
theorem d_265_71 : decode (cM 265) 71 = .ok (.goto 4, 3) := by decide +kernel
theorem d_265_74 : decode (cM 265) 74 = .ok (.iconst 0, 1) := by decide +kernel
theorem d_265_75 : decode (cM 265) 75 = .ok (.putfield 380, 3) := by decide +kernel
theorem d_265_78 : decode (cM 265) 78 = .ok (.aload_n 0, 1) := by decide +kernel
theorem d_265_79 : decode (cM 265) 79 = .ok (.iload_n 1, 1) := by decide +kernel
theorem d_265_80 : decode (cM 265) 80 = .ok (.iconst 2, 1) := by decide +kernel
theorem d_265_81 : decode (cM 265) 81 = .ok (.if_icmp .ne 7, 3) := by decide +kernel
theorem d_265_84 : decode (cM 265) 84 = .ok (.iload_n 2, 1) := by decide +kernel
theorem d_265_85 : decode (cM 265) 85 = .ok (.goto 4, 3) := by decide +kernel
theorem d_265_88 : decode (cM 265) 88 = .ok (.iconst (-1), 1) := by decide +kernel
theorem d_265_89 : decode (cM 265) 89 = .ok (.putfield 386, 3) := by decide +kernel
theorem d_265_92 : decode (cM 265) 92 = .ok (.aload_n 0, 1) := by decide +kernel
theorem d_265_93 : decode (cM 265) 93 = .ok (.iload_n 1, 1) := by decide +kernel
theorem d_265_94 : decode (cM 265) 94 = .ok (.iconst 3, 1) := by decide +kernel
theorem d_265_95 : decode (cM 265) 95 = .ok (.if_icmp .ne 7, 3) := by decide +kernel
theorem d_265_98 : decode (cM 265) 98 = .ok (.iconst 1, 1) := by decide +kernel
theorem d_265_99 : decode (cM 265) 99 = .ok (.goto 4, 3) := by decide +kernel
theorem d_265_102 : decode (cM 265) 102 = .ok (.iconst 0, 1) := by decide +kernel
theorem d_265_103 : decode (cM 265) 103 = .ok (.putfield 383, 3) := by decide +kernel
theorem d_265_106 : decode (cM 265) 106 = .ok (.iload_n 1, 1) := by decide +kernel
theorem d_265_107 : decode (cM 265) 107 = .ok (.iconst 4, 1) := by decide +kernel
theorem d_265_108 : decode (cM 265) 108 = .ok (.if_icmp .ne 17, 3) := by decide +kernel
theorem d_265_111 : decode (cM 265) 111 = .ok (.aload_n 0, 1) := by decide +kernel
theorem d_265_112 : decode (cM 265) 112 = .ok (.getfield 88, 3) := by decide +kernel
theorem d_265_115 : decode (cM 265) 115 = .ok (.iconst 1, 1) := by decide +kernel
theorem d_265_116 : decode (cM 265) 116 = .ok (.iconst 0, 1) := by decide +kernel
theorem d_265_117 : decode (cM 265) 117 = .ok (.iastore, 1) := by decide +kernel
theorem d_265_118 : decode (cM 265) 118 = .ok (.aload_n 0, 1) := by decide +kernel
theorem d_265_119 : decode (cM 265) 119 = .ok (.getfield 85, 3) := by decide +kernel
theorem d_265_122 : decode (cM 265) 122 = .ok (.iconst 1, 1) := by decide +kernel
theorem d_265_123 : decode (cM 265) 123 = .ok (.iconst 0, 1) := by decide +kernel
theorem d_265_124 : decode (cM 265) 124 = .ok (.iastore, 1) := by decide +kernel
theorem d_265_125 : decode (cM 265) 125 = .ok (.aload_n 0, 1) := by decide +kernel
theorem d_265_126 : decode (cM 265) 126 = .ok (.iload_n 3, 1) := by decide +kernel
theorem d_265_127 : decode (cM 265) 127 = .ok (.invokevirtual 456, 3) := by decide +kernel
theorem kc_265_127 : callT (oM 265) 456 = some (0, 214, 1) ∧ fok 265 214 = true ∧ stM 214 = false := by decide +kernel
theorem d_265_130 : decode (cM 265) 130 = .ok (.aload_n 0, 1) := by decide +kernel
theorem d_265_131 : decode (cM 265) 131 = .ok (.invokevirtual 362, 3) := by decide +kernel
theorem kc_265_131 : callT (oM 265) 362 = some (0, 197, 0) ∧ fok 265 197 = true ∧ stM 197 = false := by decide +kernel
theorem d_265_134 : decode (cM 265) 134 = .ok (.aload_n 0, 1) := by decide +kernel
theorem d_265_135 : decode (cM 265) 135 = .ok (.iconst 1, 1) := by decide +kernel
theorem d_265_136 : decode (cM 265) 136 = .ok (.invokevirtual 389, 3) := by decide +kernel
theorem kc_265_136 : callT (oM 265) 389 = some (0, 203, 1) ∧ fok 265 203 = true ∧ stM 203 = false := by decide +kernel
theorem d_265_139 : decode (cM 265) 139 = .ok (.invokestatic 392, 3) := by decide +kernel
theorem kc_265_139 : callT (oM 265) 392 = some (1, 202, 1) ∧ fok 265 202 = true ∧ stM 202 = true := by decide +kernel
theorem d_265_142 : decode (cM 265) 142 = .ok (.ireturn, 1) := by decide +kernel
theorem d_266_0 : decode (cM 266) 0 = .ok (.aload_n 1, 1) := by decide +kernel
theorem d_266_1 : decode (cM 266) 1 = .ok (.iload_n 2, 1) := by decide +kernel
theorem d_266_2 : decode (cM 266) 2 = .ok (.aload_n 0, 1) := by decide +kernel
theorem d_266_3 : decode (cM 266) 3 = .ok (.getfield 82, 3) := by decide +kernel
theorem d_266_6 : decode (cM 266) 6 = .ok (.iconst 0, 1) := by decide +kernel
theorem d_266_7 : decode (cM 266) 7 = .ok (.iaload, 1) := by decide +kernel
theorem d_266_8 : decode (cM 266) 8 = .ok (.iastore, 1) := by decide +kernel
theorem d_266_9 : decode (cM 266) 9 = .ok (.aload_n 1, 1) := by decide +kernel
theorem d_266_10 : decode (cM 266) 10 = .ok (.iload_n 2, 1) := by decide +kernel
theorem d_266_11 : decode (cM 266) 11 = .ok (.iconst 1, 1) := by decide +kernel
theorem d_266_12 : decode (cM 266) 12 = .ok (.iadd, 1) := by decide +kernel
theorem d_266_13 : decode (cM 266) 13 = .ok (.aload_n 0, 1) := by decide +kernel
theorem d_266_14 : decode (cM 266) 14 = .ok (.getfield 85, 3) := by decide +kernel
theorem d_266_17 : decode (cM 266) 17 = .ok (.iconst 0, 1) := by decide +kernel
theorem d_266_18 : decode (cM 266) 18 = .ok (.iaload, 1) := by decide +kernel
theorem d_266_19 : decode (cM 266) 19 = .ok (.iastore, 1) := by decide +kernel
theorem d_266_20 : decode (cM 266) 20 = .ok (.aload_n 1, 1) := by decide +kernel
theorem d_266_21 : decode (cM 266) 21 = .ok (.iload_n 2, 1) := by decide +kernel
theorem d_266_22 : decode (cM 266) 22 = .ok (.iconst 2, 1) := by decide +kernel
theorem d_266_23 : decode (cM 266) 23 = .ok (.iadd, 1) := by decide +kernel
theorem d_266_24 : decode (cM 266) 24 = .ok (.aload_n 0, 1) := by decide +kernel
theorem d_266_25 : decode (cM 266) 25 = .ok (.getfield 88, 3) := by decide +kernel
theorem d_266_28 : decode (cM 266) 28 = .ok (.iconst 0, 1) := by decide +kernel
theorem d_266_29 : decode (cM 266) 29 = .ok (.iaload, 1) := by decide +kernel
theorem d_266_30 : decode (cM 266) 30 = .ok (.iastore, 1) := by decide +kernel
theorem d_266_31 : decode (cM 266) 31 = .ok (.aload_n 1, 1) := by decide +kernel
theorem d_266_32 : decode (cM 266) 32 = .ok (.iload_n 2, 1) := by decide +kernel
theorem d_266_33 : decode (cM 266) 33 = .ok (.iconst 3, 1) := by decide +kernel
theorem d_266_34 : decode (cM 266) 34 = .ok (.iadd, 1) := by decide +kernel
theorem d_266_35 : decode (cM 266) 35 = .ok (.aload_n 0, 1) := by decide +kernel
theorem d_266_36 : decode (cM 266) 36 = .ok (.getfield 91, 3) := by decide +kernel
theorem d_266_39 : decode (cM 266) 39 = .ok (.iconst 0, 1) := by decide +kernel
theorem d_266_40 : decode (cM 266) 40 = .ok (.iaload, 1) := by decide +kernel
theorem d_266_41 : decode (cM 266) 41 = .ok (.iastore, 1) := by decide +kernel
theorem d_266_42 : decode (cM 266) 42 = .ok (.iconst 0, 1) := by decide +kernel
theorem d_266_43 : decode (cM 266) 43 = .ok (.istore_n 3, 1) := by decide +kernel
theorem d_266_44 : decode (cM 266) 44 = .ok (.iload_n 3, 1) := by decide +kernel
theorem d_266_45 : decode (cM 266) 45 = .ok (.bipush 10, 2) := by decide +kernel
theorem d_266_47 : decode (cM 266) 47 = .ok (.if_icmp .ge 36, 3) := by decide +kernel
theorem d_266_50 : decode (cM 266) 50 = .ok (.aload_n 1, 1) := by decide +kernel
theorem d_266_51 : decode (cM 266) 51 = .ok (.iload_n 2, 1) := by decide +kernel
theorem d_266_52 : decode (cM 266) 52 = .ok (.iconst 4, 1) := by decide +kernel
theorem d_266_53 : decode (cM 266) 53 = .ok (.iadd, 1) := by decide +kernel
theorem d_266_54 : decode (cM 266) 54 = .ok (.iload_n 3, 1) := by decide +kernel
theorem d_266_55 : decode (cM 266) 55 = .ok (.iadd, 1) := by decide +kernel
theorem d_266_56 : decode (cM 266) 56 = .ok (.aload_n 0, 1) := by decide +kernel
theorem d_266_57 : decode (cM 266) 57 = .ok (.getfield 103, 3) := by decide +kernel
theorem d_266_60 : decode (cM 266) 60 = .ok (.iload_n 3, 1) := by decide +kernel
theorem d_266_61 : decode (cM 266) 61 = .ok (.iaload, 1) := by decide +kernel
theorem d_266_62 : decode (cM 266) 62 = .ok (.iastore, 1) := by decide +kernel
theorem d_266_63 : decode (cM 266) 63 = .ok (.aload_n 1, 1) := by decide +kernel
theorem d_266_64 : decode (cM 266) 64 = .ok (.iload_n 2, 1) := by decide +kernel
theorem d_266_65 : decode (cM 266) 65 = .ok (.bipush 14, 2) := by decide +kernel
theorem d_266_67 : decode (cM 266) 67 = .ok (.iadd, 1) := by decide +kernel
theorem d_266_68 : decode (cM 266) 68 = .ok (.iload_n 3, 1) := by decide +kernel
theorem d_266_69 : decode (cM 266) 69 = .ok (.iadd, 1) := by decide +kernel
theorem d_266_70 : decode (cM 266) 70 = .ok (.aload_n 0, 1) := by decide +kernel
theorem d_266_71 : decode (cM 266) 71 = .ok (.getfield 106, 3) := by decide +kernel
theorem d_266_74 : decode (cM 266) 74 = .ok (.iload_n 3, 1) := by decide +kernel
theorem d_266_75 : decode (cM 266) 75 = .ok (.iaload, 1) := by decide +kernel
theorem d_266_76 : decode (cM 266) 76 = .ok (.iastore, 1) := by decide +kernel
theorem d_266_77 : decode (cM 266) 77 = .ok (.iinc 3 1, 3) := by decide +kernel
theorem d_266_80 : decode (cM 266) 80 = .ok (.goto (-36), 3) := by decide +kernel
theorem d_266_83 : decode (cM 266) 83 = .ok (.return_, 1) := by decide +kernel
theorem d_267_0 : decode (cM 267) 0 = .ok (.aload_n 0, 1) := by decide +kernel
theorem d_267_1 : decode (cM 267) 1 = .ok (.getfield 82, 3) := by decide +kernel
theorem d_267_4 : decode (cM 267) 4 = .ok (.iconst 0, 1) := by decide +kernel
theorem d_267_5 : decode (cM 267) 5 = .ok (.aload_n 1, 1) := by decide +kernel
theorem d_267_6 : decode (cM 267) 6 = .ok (.iload_n 2, 1) := by decide +kernel
theorem d_267_7 : decode (cM 267) 7 = .ok (.iaload, 1) := by decide +kernel
theorem d_267_8 : decode (cM 267) 8 = .ok (.iastore, 1) := by decide +kernel
theorem d_267_9 : decode (cM 267) 9 = .ok (.aload_n 0, 1) := by decide +kernel
theorem d_267_10 : decode (cM 267) 10 = .ok (.getfield 85, 3) := by decide +kernel
theorem d_267_13 : decode (cM 267) 13 = .ok (.iconst 0, 1) := by decide +kernel
theorem d_267_14 : decode (cM 267) 14 = .ok (.aload_n 1, 1) := by decide +kernel
theorem d_267_15 : decode (cM 267) 15 = .ok (.iload_n 2, 1) := by decide +kernel
theorem d_267_16 : decode (cM 267) 16 = .ok (.iconst 1, 1) := by decide +kernel
theorem d_267_17 : decode (cM 267) 17 = .ok (.iadd, 1) := by decide +kernel
theorem d_267_18 : decode (cM 267) 18 = .ok (.iaload, 1) := by decide +kernel
theorem d_267_19 : decode (cM 267) 19 = .ok (.iastore, 1) := by decide +kernel
theorem d_267_20 : decode (cM 267) 20 = .ok (.aload_n 0, 1) := by decide +kernel
theorem d_267_21 : decode (cM 267) 21 = .ok (.getfield 88, 3) := by decide +kernel
theorem d_267_24 : decode (cM 267) 24 = .ok (.iconst 0, 1) := by decide +kernel
theorem d_267_25 : decode (cM 267) 25 = .ok (.aload_n 1, 1) := by decide +kernel
theorem d_267_26 : decode (cM 267) 26 = .ok (.iload_n 2, 1) := by decide +kernel
theorem d_267_27 : decode (cM 267) 27 = .ok (.iconst 2, 1) := by decide +kernel
theorem d_267_28 : decode (cM 267) 28 = .ok (.iadd, 1) := by decide +kernel
theorem d_267_29 : decode (cM 267) 29 = .ok (.iaload, 1) := by decide +kernel
theorem d_267_30 : decode (cM 267) 30 = .ok (.iastore, 1) := by decide +kernel
theorem d_267_31 : decode (cM 267) 31 = .ok (.aload_n 0, 1) := by decide +kernel
theorem d_267_32 : decode (cM 267) 32 = .ok (.getfield 91, 3) := by decide +kernel
theorem d_267_35 : decode (cM 267) 35 = .ok (.iconst 0, 1) := by decide +kernel
theorem d_267_36 : decode (cM 267) 36 = .ok (.aload_n 1, 1) := by decide +kernel
theorem d_267_37 : decode (cM 267) 37 = .ok (.iload_n 2, 1) := by decide +kernel
theorem d_267_38 : decode (cM 267) 38 = .ok (.iconst 3, 1) := by decide +kernel
theorem d_267_39 : decode (cM 267) 39 = .ok (.iadd, 1) := by decide +kernel
theorem d_267_40 : decode (cM 267) 40 = .ok (.iaload, 1) := by decide +kernel
theorem d_267_41 : decode (cM 267) 41 = .ok (.iastore, 1) := by decide +kernel
theorem d_267_42 : decode (cM 267) 42 = .ok (.iconst 0, 1) := by decide +kernel
theorem d_267_43 : decode (cM 267) 43 = .ok (.istore_n 3, 1) := by decide +kernel
theorem d_267_44 : decode (cM 267) 44 = .ok (.iload_n 3, 1) := by decide +kernel
theorem d_267_45 : decode (cM 267) 45 = .ok (.bipush 10, 2) := by decide +kernel
theorem d_267_47 : decode (cM 267) 47 = .ok (.if_icmp .ge 36, 3) := by decide +kernel
theorem d_267_50 : decode (cM 267) 50 = .ok (.aload_n 0, 1) := by decide +kernel
theorem d_267_51 : decode (cM 267) 51 = .ok (.getfield 103, 3) := by decide +kernel
theorem d_267_54 : decode (cM 267) 54 = .ok (.iload_n 3, 1) := by decide +kernel
theorem d_267_55 : decode (cM 267) 55 = .ok (.aload_n 1, 1) := by decide +kernel
theorem d_267_56 : decode (cM 267) 56 = .ok (.iload_n 2, 1) := by decide +kernel
theorem d_267_57 : decode (cM 267) 57 = .ok (.iconst 4, 1) := by decide +kernel
theorem d_267_58 : decode (cM 267) 58 = .ok (.iadd, 1) := by decide +kernel
theorem d_267_59 : decode (cM 267) 59 = .ok (.iload_n 3, 1) := by decide +kernel
theorem d_267_60 : decode (cM 267) 60 = .ok (.iadd, 1) := by decide +kernel
theorem d_267_61 : decode (cM 267) 61 = .ok (.iaload, 1) := by decide +kernel
theorem d_267_62 : decode (cM 267) 62 = .ok (.iastore, 1) := by decide +kernel
theorem d_267_63 : decode (cM 267) 63 = .ok (.aload_n 0, 1) := by decide +kernel
theorem d_267_64 : decode (cM 267) 64 = .ok (.getfield 106, 3) := by decide +kernel
theorem d_267_67 : decode (cM 267) 67 = .ok (.iload_n 3, 1) := by decide +kernel
theorem d_267_68 : decode (cM 267) 68 = .ok (.aload_n 1, 1) := by decide +kernel
theorem d_267_69 : decode (cM 267) 69 = .ok (.iload_n 2, 1) := by decide +kernel
theorem d_267_70 : decode (cM 267) 70 = .ok (.bipush 14, 2) := by decide +kernel
theorem d_267_72 : decode (cM 267) 72 = .ok (.iadd, 1) := by decide +kernel
theorem d_267_73 : decode (cM 267) 73 = .ok (.iload_n 3, 1) := by decide +kernel
theorem d_267_74 : decode (cM 267) 74 = .ok (.iadd, 1) := by decide +kernel
theorem d_267_75 : decode (cM 267) 75 = .ok (.iaload, 1) := by decide +kernel
theorem d_267_76 : decode (cM 267) 76 = .ok (.iastore, 1) := by decide +kernel
theorem d_267_77 : decode (cM 267) 77 = .ok (.iinc 3 1, 3) := by decide +kernel
theorem d_267_80 : decode (cM 267) 80 = .ok (.goto (-36), 3) := by decide +kernel
theorem d_267_83 : decode (cM 267) 83 = .ok (.return_, 1) := by decide +kernel
theorem d_268_0 : decode (cM 268) 0 = .ok (.aload_n 0, 1) := by decide +kernel
theorem d_268_1 : decode (cM 268) 1 = .ok (.getfield 368, 3) := by decide +kernel
theorem d_268_4 : decode (cM 268) 4 = .ok (.bipush 20, 2) := by decide +kernel
theorem d_268_6 : decode (cM 268) 6 = .ok (.if_icmp .ne 43, 3) := by decide +kernel
theorem d_268_9 : decode (cM 268) 9 = .ok (.iconst 0, 1) := by decide +kernel
theorem d_268_10 : decode (cM 268) 10 = .ok (.istore_n 1, 1) := by decide +kernel
theorem d_268_11 : decode (cM 268) 11 = .ok (.iload_n 1, 1) := by decide +kernel
theorem d_268_12 : decode (cM 268) 12 = .ok (.sipush 456, 3) := by decide +kernel
theorem d_268_15 : decode (cM 268) 15 = .ok (.if_icmp .ge 24, 3) := by decide +kernel
theorem d_268_18 : decode (cM 268) 18 = .ok (.aload_n 0, 1) := by decide +kernel
theorem d_268_19 : decode (cM 268) 19 = .ok (.getfield 127, 3) := by decide +kernel
theorem d_268_22 : decode (cM 268) 22 = .ok (.iload_n 1, 1) := by decide +kernel
theorem d_268_23 : decode (cM 268) 23 = .ok (.aload_n 0, 1) := by decide +kernel
theorem d_268_24 : decode (cM 268) 24 = .ok (.getfield 127, 3) := by decide +kernel
theorem d_268_27 : decode (cM 268) 27 = .ok (.iload_n 1, 1) := by decide +kernel
theorem d_268_28 : decode (cM 268) 28 = .ok (.bipush 24, 2) := by decide +kernel
theorem d_268_30 : decode (cM 268) 30 = .ok (.iadd, 1) := by decide +kernel
theorem d_268_31 : decode (cM 268) 31 = .ok (.iaload, 1) := by decide +kernel
theorem d_268_32 : decode (cM 268) 32 = .ok (.iastore, 1) := by decide +kernel
theorem d_268_33 : decode (cM 268) 33 = .ok (.iinc 1 1, 3) := by decide +kernel
theorem d_268_36 : decode (cM 268) 36 = .ok (.goto (-25), 3) := by decide +kernel
theorem d_268_39 : decode (cM 268) 39 = .ok (.aload_n 0, 1) := by decide +kernel
theorem d_268_40 : decode (cM 268) 40 = .ok (.dup, 1) := by decide +kernel
theorem d_268_41 : decode (cM 268) 41 = .ok (.getfield 368, 3) := by decide +kernel
theorem d_268_44 : decode (cM 268) 44 = .ok (.iconst 1, 1) := by decide +kernel
theorem d_268_45 : decode (cM 268) 45 = .ok (.isub, 1) := by decide +kernel
theorem d_268_46 : decode (cM 268) 46 = .ok (.putfield 368, 3) := by decide +kernel
theorem d_268_49 : decode (cM 268) 49 = .ok (.aload_n 0, 1) := by decide +kernel
theorem d_268_50 : decode (cM 268) 50 = .ok (.aload_n 0, 1) := by decide +kernel
theorem d_268_51 : decode (cM 268) 51 = .ok (.getfield 127, 3) := by decide +kernel
theorem d_268_54 : decode (cM 268) 54 = .ok (.bipush 24, 2) := by decide +kernel
theorem d_268_56 : decode (cM 268) 56 = .ok (.aload_n 0, 1) := by decide +kernel
theorem d_268_57 : decode (cM 268) 57 = .ok (.getfield 368, 3) := by decide +kernel
theorem d_268_60 : decode (cM 268) 60 = .ok (.imul, 1) := by decide +kernel
theorem d_268_61 : decode (cM 268) 61 = .ok (.invokevirtual 517, 3) := by decide +kernel
theorem kc_268_61 : callT (oM 268) 517 = some (0, 266, 2) ∧ fok 268 266 = true ∧ stM 266 = false := by decide +kernel
theorem d_268_64 : decode (cM 268) 64 = .ok (.aload_n 0, 1) := by decide +kernel
theorem d_268_65 : decode (cM 268) 65 = .ok (.dup, 1) := by decide +kernel
theorem d_268_66 : decode (cM 268) 66 = .ok (.getfield 368, 3) := by decide +kernel
theorem d_268_69 : decode (cM 268) 69 = .ok (.iconst 1, 1) := by decide +kernel
theorem d_268_70 : decode (cM 268) 70 = .ok (.iadd, 1) := by decide +kernel
theorem d_268_71 : decode (cM 268) 71 = .ok (.putfield 368, 3) := by decide +kernel
theorem d_268_74 : decode (cM 268) 74 = .ok (.return_, 1) := by decide +kernel
theorem d_269_0 : decode (cM 269) 0 = .ok (.aload_n 0, 1) := by decide +kernel
theorem d_269_1 : decode (cM 269) 1 = .ok (.iconst 0, 1) := by decide +kernel
theorem d_269_2 : decode (cM 269) 2 = .ok (.putfield 142, 3) := by decide +kernel
theorem d_269_5 : decode (cM 269) 5 = .ok (.aload_n 0, 1) := by decide +kernel
theorem d_269_6 : decode (cM 269) 6 = .ok (.getfield 368, 3) := by decide +kernel
theorem d_269_9 : decode (cM 269) 9 = .ok (.ifCond .ne 5, 3) := by decide +kernel
theorem d_269_12 : decode (cM 269) 12 = .ok (.iconst (-1), 1) := by decide +kernel
theorem d_269_13 : decode (cM 269) 13 = .ok (.ireturn, 1) := by decide +kernel
theorem d_269_14 : decode (cM 269) 14 = .ok (.aload_n 0, 1) := by decide +kernel
theorem d_269_15 : decode (cM 269) 15 = .ok (.dup, 1) := by decide +kernel
theorem d_269_16 : decode (cM 269) 16 = .ok (.getfield 368, 3) := by decide +kernel
theorem d_269_19 : decode (cM 269) 19 = .ok (.iconst 1, 1) := by decide +kernel
theorem d_269_20 : decode (cM 269) 20 = .ok (.isub, 1) := by decide +kernel
theorem d_269_21 : decode (cM 269) 21 = .ok (.putfield 368, 3) := by decide +kernel
theorem d_269_24 : decode (cM 269) 24 = .ok (.aload_n 0, 1) := by decide +kernel
theorem d_269_25 : decode (cM 269) 25 = .ok (.aload_n 0, 1) := by decide +kernel
theorem d_269_26 : decode (cM 269) 26 = .ok (.getfield 127, 3) := by decide +kernel
theorem d_269_29 : decode (cM 269) 29 = .ok (.bipush 24, 2) := by decide +kernel
theorem d_269_31 : decode (cM 269) 31 = .ok (.aload_n 0, 1) := by decide +kernel
theorem d_269_32 : decode (cM 269) 32 = .ok (.getfield 368, 3) := by decide +kernel
theorem d_269_35 : decode (cM 269) 35 = .ok (.imul, 1) := by decide +kernel
theorem d_269_36 : decode (cM 269) 36 = .ok (.invokevirtual 520, 3) := by decide +kernel
theorem kc_269_36 : callT (oM 269) 520 = some (0, 267, 2) ∧ fok 269 267 = true ∧ stM 267 = false := by decide +kernel
theorem d_269_39 : decode (cM 269) 39 = .ok (.aload_n 0, 1) := by decide +kernel
theorem d_269_40 : decode (cM 269) 40 = .ok (.getfield 368, 3) := by decide +kernel
theorem d_269_43 : decode (cM 269) 43 = .ok (.ireturn, 1) := by decide +kernel
theorem d_270_0 : decode (cM 270) 0 = .ok (.aload_n 0, 1) := by decide +kernel
theorem d_270_1 : decode (cM 270) 1 = .ok (.iconst 0, 1) := by decide +kernel
theorem d_270_2 : decode (cM 270) 2 = .ok (.putfield 142, 3) := by decide +kernel
theorem d_270_5 : decode (cM 270) 5 = .ok (.aload_n 0, 1) := by decide +kernel
theorem d_270_6 : decode (cM 270) 6 = .ok (.iconst 1, 1) := by decide +kernel
theorem d_270_7 : decode (cM 270) 7 = .ok (.putfield 371, 3) := by decide +kernel
theorem d_270_10 : decode (cM 270) 10 = .ok (.aload_n 0, 1) := by decide +kernel
theorem d_270_11 : decode (cM 270) 11 = .ok (.aload_n 0, 1) := by decide +kernel
theorem d_270_12 : decode (cM 270) 12 = .ok (.getfield 130, 3) := by decide +kernel
theorem d_270_15 : decode (cM 270) 15 = .ok (.iconst 0, 1) := by decide +kernel
theorem d_270_16 : decode (cM 270) 16 = .ok (.invokevirtual 517, 3) := by decide +kernel
theorem kc_270_16 : callT (oM 270) 517 = some (0, 266, 2) ∧ fok 270 266 = true ∧ stM 266 = false := by decide +kernel
theorem d_270_19 : decode (cM 270) 19 = .ok (.iconst 0, 1) := by decide +kernel
theorem d_270_20 : decode (cM 270) 20 = .ok (.istore_n 1, 1) := by decide +kernel
theorem d_270_21 : decode (cM 270) 21 = .ok (.iload_n 1, 1) := by decide +kernel
theorem d_270_22 : decode (cM 270) 22 = .ok (.bipush 14, 2) := by decide +kernel
theorem d_270_24 : decode (cM 270) 24 = .ok (.if_icmp .ge 21, 3) := by decide +kernel
theorem d_270_27 : decode (cM 270) 27 = .ok (.aload_n 0, 1) := by decide +kernel
theorem d_270_28 : decode (cM 270) 28 = .ok (.getfield 133, 3) := by decide +kernel
theorem d_270_31 : decode (cM 270) 31 = .ok (.iload_n 1, 1) := by decide +kernel
theorem d_270_32 : decode (cM 270) 32 = .ok (.aload_n 0, 1) := by decide +kernel
theorem d_270_33 : decode (cM 270) 33 = .ok (.getfield 100, 3) := by decide +kernel
theorem d_270_36 : decode (cM 270) 36 = .ok (.iload_n 1, 1) := by decide +kernel
theorem d_270_37 : decode (cM 270) 37 = .ok (.iaload, 1) := by decide +kernel
theorem d_270_38 : decode (cM 270) 38 = .ok (.iastore, 1) := by decide +kernel
theorem d_270_39 : decode (cM 270) 39 = .ok (.iinc 1 1, 3) := by decide +kernel
theorem d_270_42 : decode (cM 270) 42 = .ok (.goto (-21), 3) := by decide +kernel
theorem d_270_45 : decode (cM 270) 45 = .ok (.aload_n 0, 1) := by decide +kernel
theorem d_270_46 : decode (cM 270) 46 = .ok (.getfield 133, 3) := by decide +kernel
theorem d_270_49 : decode (cM 270) 49 = .ok (.bipush 14, 2) := by decide +kernel
theorem d_270_51 : decode (cM 270) 51 = .ok (.aload_n 0, 1) := by decide +kernel
theorem d_270_52 : decode (cM 270) 52 = .ok (.getfield 94, 3) := by decide +kernel
theorem d_270_55 : decode (cM 270) 55 = .ok (.iconst 0, 1) := by decide +kernel
theorem d_270_56 : decode (cM 270) 56 = .ok (.iaload, 1) := by decide +kernel
theorem d_270_57 : decode (cM 270) 57 = .ok (.iastore, 1) := by decide +kernel
theorem d_270_58 : decode (cM 270) 58 = .ok (.aload_n 0, 1) := by decide +kernel
theorem d_270_59 : decode (cM 270) 59 = .ok (.getfield 133, 3) := by decide +kernel
theorem d_270_62 : decode (cM 270) 62 = .ok (.bipush 15, 2) := by decide +kernel
theorem d_270_64 : decode (cM 270) 64 = .ok (.aload_n 0, 1) := by decide +kernel
theorem d_270_65 : decode (cM 270) 65 = .ok (.getfield 97, 3) := by decide +kernel
theorem d_270_68 : decode (cM 270) 68 = .ok (.iconst 0, 1) := by decide +kernel
theorem d_270_69 : decode (cM 270) 69 = .ok (.iaload, 1) := by decide +kernel
theorem d_270_70 : decode (cM 270) 70 = .ok (.iastore, 1) := by decide +kernel
theorem d_270_71 : decode (cM 270) 71 = .ok (.aload_n 0, 1) := by decide +kernel
theorem d_270_72 : decode (cM 270) 72 = .ok (.aload_n 0, 1) := by decide +kernel
theorem d_270_73 : decode (cM 270) 73 = .ok (.getfield 358, 3) := by decide +kernel
theorem d_270_76 : decode (cM 270) 76 = .ok (.putfield 523, 3) := by decide +kernel
theorem d_270_79 : decode (cM 270) 79 = .ok (.aload_n 0, 1) := by decide +kernel
theorem d_270_80 : decode (cM 270) 80 = .ok (.getfield 97, 3) := by decide +kernel
theorem d_270_83 : decode (cM 270) 83 = .ok (.iconst 0, 1) := by decide +kernel
theorem d_270_84 : decode (cM 270) 84 = .ok (.iaload, 1) := by decide +kernel
theorem d_270_85 : decode (cM 270) 85 = .ok (.ireturn, 1) := by decide +kernel
theorem d_271_0 : decode (cM 271) 0 = .ok (.aload_n 0, 1) := by decide +kernel
theorem d_271_1 : decode (cM 271) 1 = .ok (.iconst 0, 1) := by decide +kernel
theorem d_271_2 : decode (cM 271) 2 = .ok (.putfield 142, 3) := by decide +kernel
theorem d_271_5 : decode (cM 271) 5 = .ok (.aload_n 0, 1) := by decide +kernel
theorem d_271_6 : decode (cM 271) 6 = .ok (.getfield 371, 3) := by decide +kernel
theorem d_271_9 : decode (cM 271) 9 = .ok (.ifCond .ne 5, 3) := by decide +kernel
theorem d_271_12 : decode (cM 271) 12 = .ok (.iconst (-1), 1) := by decide +kernel
theorem d_271_13 : decode (cM 271) 13 = .ok (.ireturn, 1) := by decide +kernel
theorem d_271_14 : decode (cM 271) 14 = .ok (.aload_n 0, 1) := by decide +kernel
theorem d_271_15 : decode (cM 271) 15 = .ok (.aload_n 0, 1) := by decide +kernel
theorem d_271_16 : decode (cM 271) 16 = .ok (.getfield 130, 3) := by decide +kernel
theorem d_271_19 : decode (cM 271) 19 = .ok (.iconst 0, 1) := by decide +kernel
theorem d_271_20 : decode (cM 271) 20 = .ok (.invokevirtual 520, 3) := by decide +kernel
theorem kc_271_20 : callT (oM 271) 520 = some (0, 267, 2) ∧ fok 271 267 = true ∧ stM 267 = false := by decide +kernel
theorem d_271_23 : decode (cM 271) 23 = .ok (.iconst 0, 1) := by decide +kernel
theorem d_271_24 : decode (cM 271) 24 = .ok (.istore_n 1, 1) := by decide +kernel
theorem d_271_25 : decode (cM 271) 25 = .ok (.iload_n 1, 1) := by decide +kernel
theorem d_271_26 : decode (cM 271) 26 = .ok (.bipush 14, 2) := by decide +kernel
theorem d_271_28 : decode (cM 271) 28 = .ok (.if_icmp .ge 21, 3) := by decide +kernel
theorem d_271_31 : decode (cM 271) 31 = .ok (.aload_n 0, 1) := by decide +kernel
theorem d_271_32 : decode (cM 271) 32 = .ok (.getfield 100, 3) := by decide +kernel
theorem d_271_35 : decode (cM 271) 35 = .ok (.iload_n 1, 1) := by decide +kernel
theorem d_271_36 : decode (cM 271) 36 = .ok (.aload_n 0, 1) := by decide +kernel
theorem d_271_37 : decode (cM 271) 37 = .ok (.getfield 133, 3) := by decide +kernel
theorem d_271_40 : decode (cM 271) 40 = .ok (.iload_n 1, 1) := by decide +kernel
theorem d_271_41 : decode (cM 271) 41 = .ok (.iaload, 1) := by decide +kernel
theorem d_271_42 : decode (cM 271) 42 = .ok (.iastore, 1) := by decide +kernel
theorem d_271_43 : decode (cM 271) 43 = .ok (.iinc 1 1, 3) := by decide +kernel
theorem d_271_46 : decode (cM 271) 46 = .ok (.goto (-21), 3) := by decide +kernel
theorem d_271_49 : decode (cM 271) 49 = .ok (.aload_n 0, 1) := by decide +kernel
theorem d_271_50 : decode (cM 271) 50 = .ok (.getfield 94, 3) := by decide +kernel
theorem d_271_53 : decode (cM 271) 53 = .ok (.iconst 0, 1) := by decide +kernel
theorem d_271_54 : decode (cM 271) 54 = .ok (.aload_n 0, 1) := by decide +kernel
theorem d_271_55 : decode (cM 271) 55 = .ok (.getfield 133, 3) := by decide +kernel
theorem d_271_58 : decode (cM 271) 58 = .ok (.bipush 14, 2) := by decide +kernel
theorem d_271_60 : decode (cM 271) 60 = .ok (.iaload, 1) := by decide +kernel
theorem d_271_61 : decode (cM 271) 61 = .ok (.iastore, 1) := by decide +kernel
theorem d_271_62 : decode (cM 271) 62 = .ok (.aload_n 0, 1) := by decide +kernel
theorem d_271_63 : decode (cM 271) 63 = .ok (.getfield 97, 3) := by decide +kernel
theorem d_271_66 : decode (cM 271) 66 = .ok (.iconst 0, 1) := by decide +kernel
theorem d_271_67 : decode (cM 271) 67 = .ok (.aload_n 0, 1) := by decide +kernel
theorem d_271_68 : decode (cM 271) 68 = .ok (.getfield 133, 3) := by decide +kernel
theorem d_271_71 : decode (cM 271) 71 = .ok (.bipush 15, 2) := by decide +kernel
theorem d_271_73 : decode (cM 271) 73 = .ok (.iaload, 1) := by decide +kernel
theorem d_271_74 : decode (cM 271) 74 = .ok (.iastore, 1) := by decide +kernel
theorem d_271_75 : decode (cM 271) 75 = .ok (.aload_n 0, 1) := by decide +kernel
theorem d_271_76 : decode (cM 271) 76 = .ok (.aload_n 0, 1) := by decide +kernel
theorem d_271_77 : decode (cM 271) 77 = .ok (.getfield 523, 3) := by decide +kernel
theorem d_271_80 : decode (cM 271) 80 = .ok (.putfield 358, 3) := by decide +kernel
theorem d_271_83 : decode (cM 271) 83 = .ok (.aload_n 0, 1) := by decide +kernel
theorem d_271_84 : decode (cM 271) 84 = .ok (.iconst 0, 1) := by decide +kernel
theorem d_271_85 : decode (cM 271) 85 = .ok (.putfield 368, 3) := by decide +kernel
theorem d_271_88 : decode (cM 271) 88 = .ok (.aload_n 0, 1) := by decide +kernel
theorem d_271_89 : decode (cM 271) 89 = .ok (.getfield 97, 3) := by decide +kernel
theorem d_271_92 : decode (cM 271) 92 = .ok (.iconst 0, 1) := by decide +kernel
theorem d_271_93 : decode (cM 271) 93 = .ok (.iaload, 1) := by decide +kernel
theorem d_271_94 : decode (cM 271) 94 = .ok (.ireturn, 1) := by decide +kernel
theorem d_272_0 : decode (cM 272) 0 = .ok (.aload_n 0, 1) := by decide +kernel
theorem d_272_1 : decode (cM 272) 1 = .ok (.iconst 0, 1) := by decide +kernel
theorem d_272_2 : decode (cM 272) 2 = .ok (.putfield 142, 3) := by decide +kernel
theorem d_272_5 : decode (cM 272) 5 = .ok (.iconst 0, 1) := by decide +kernel
theorem d_272_6 : decode (cM 272) 6 = .ok (.istore_n 2, 1) := by decide +kernel
theorem d_272_7 : decode (cM 272) 7 = .ok (.iload_n 1, 1) := by decide +kernel
theorem d_272_8 : decode (cM 272) 8 = .ok (.tableswitch 201 0 14 #[76, 81, 86, 91, 96, 103, 112, 122, 132, 142, 149, 156, 186, 191, 196], 76) := by decide +kernel
theorem d_272_84 : decode (cM 272) 84 = .ok (.aload_n 0, 1) := by decide +kernel
theorem d_272_85 : decode (cM 272) 85 = .ok (.getfield 222, 3) := by decide +kernel
theorem d_272_88 : decode (cM 272) 88 = .ok (.ireturn, 1) := by decide +kernel
theorem d_272_89 : decode (cM 272) 89 = .ok (.aload_n 0, 1) := by decide +kernel
theorem d_272_90 : decode (cM 272) 90 = .ok (.getfield 225, 3) := by decide +kernel
theorem d_272_93 : decode (cM 272) 93 = .ok (.ireturn, 1) := by decide +kernel
theorem d_272_94 : decode (cM 272) 94 = .ok (.aload_n 0, 1) := by decide +kernel
theorem d_272_95 : decode (cM 272) 95 = .ok (.getfield 228, 3) := by decide +kernel
theorem d_272_98 : decode (cM 272) 98 = .ok (.ireturn, 1) := by decide +kernel
theorem d_272_99 : decode (cM 272) 99 = .ok (.aload_n 0, 1) := by decide +kernel
theorem d_272_100 : decode (cM 272) 100 = .ok (.getfield 234, 3) := by decide +kernel
theorem d_272_103 : decode (cM 272) 103 = .ok (.ireturn, 1) := by decide +kernel
theorem d_272_104 : decode (cM 272) 104 = .ok (.aload_n 0, 1) := by decide +kernel
theorem d_272_105 : decode (cM 272) 105 = .ok (.getfield 97, 3) := by decide +kernel
theorem d_272_108 : decode (cM 272) 108 = .ok (.iconst 0, 1) := by decide +kernel
theorem d_272_109 : decode (cM 272) 109 = .ok (.iaload, 1) := by decide +kernel
theorem d_272_110 : decode (cM 272) 110 = .ok (.ireturn, 1) := by decide +kernel
theorem d_272_111 : decode (cM 272) 111 = .ok (.aload_n 0, 1) := by decide +kernel
theorem d_272_112 : decode (cM 272) 112 = .ok (.iconst 0, 1) := by decide +kernel
theorem d_272_113 : decode (cM 272) 113 = .ok (.invokevirtual 389, 3) := by decide +kernel
theorem kc_272_113 : callT (oM 272) 389 = some (0, 203, 1) ∧ fok 272 203 = true ∧ stM 203 = false := by decide +kernel
theorem d_272_116 : decode (cM 272) 116 = .ok (.invokestatic 392, 3) := by decide +kernel
theorem kc_272_116 : callT (oM 272) 392 = some (1, 202, 1) ∧ fok 272 202 = true ∧ stM 202 = true := by decide +kernel
theorem d_272_119 : decode (cM 272) 119 = .ok (.ireturn, 1) := by decide +kernel
theorem d_272_120 : decode (cM 272) 120 = .ok (.aload_n 0, 1) := by decide +kernel
theorem d_272_121 : decode (cM 272) 121 = .ok (.getfield 82, 3) := by decide +kernel
theorem d_272_124 : decode (cM 272) 124 = .ok (.iconst 0, 1) := by decide +kernel
theorem d_272_125 : decode (cM 272) 125 = .ok (.iaload, 1) := by decide +kernel
theorem d_272_126 : decode (cM 272) 126 = .ok (.invokestatic 392, 3) := by decide +kernel
theorem kc_272_126 : callT (oM 272) 392 = some (1, 202, 1) ∧ fok 272 202 = true ∧ stM 202 = true := by decide +kernel
theorem d_272_129 : decode (cM 272) 129 = .ok (.ireturn, 1) := by decide +kernel
theorem d_272_130 : decode (cM 272) 130 = .ok (.aload_n 0, 1) := by decide +kernel
theorem d_272_131 : decode (cM 272) 131 = .ok (.getfield 85, 3) := by decide +kernel
theorem d_272_134 : decode (cM 272) 134 = .ok (.iconst 0, 1) := by decide +kernel
theorem d_272_135 : decode (cM 272) 135 = .ok (.iaload, 1) := by decide +kernel
theorem d_272_136 : decode (cM 272) 136 = .ok (.invokestatic 392, 3) := by decide +kernel
theorem kc_272_136 : callT (oM 272) 392 = some (1, 202, 1) ∧ fok 272 202 = true ∧ stM 202 = true := by decide +kernel
theorem d_272_139 : decode (cM 272) 139 = .ok (.ireturn, 1) := by decide +kernel
theorem d_272_140 : decode (cM 272) 140 = .ok (.aload_n 0, 1) := by decide +kernel
theorem d_272_141 : decode (cM 272) 141 = .ok (.getfield 88, 3) := by decide +kernel
theorem d_272_144 : decode (cM 272) 144 = .ok (.iconst 0, 1) := by decide +kernel
theorem d_272_145 : decode (cM 272) 145 = .ok (.iaload, 1) := by decide +kernel
theorem d_272_146 : decode (cM 272) 146 = .ok (.invokestatic 392, 3) := by decide +kernel
theorem kc_272_146 : callT (oM 272) 392 = some (1, 202, 1) ∧ fok 272 202 = true ∧ stM 202 = true := by decide +kernel
theorem d_272_149 : decode (cM 272) 149 = .ok (.ireturn, 1) := by decide +kernel
theorem d_272_150 : decode (cM 272) 150 = .ok (.aload_n 0, 1) := by decide +kernel
theorem d_272_151 : decode (cM 272) 151 = .ok (.getfield 91, 3) := by decide +kernel
theorem d_272_154 : decode (cM 272) 154 = .ok (.iconst 0, 1) := by decide +kernel
theorem d_272_155 : decode (cM 272) 155 = .ok (.iaload, 1) := by decide +kernel
theorem d_272_156 : decode (cM 272) 156 = .ok (.ireturn, 1) := by decide +kernel
theorem d_272_157 : decode (cM 272) 157 = .ok (.aload_n 0, 1) := by decide +kernel
theorem d_272_158 : decode (cM 272) 158 = .ok (.getfield 94, 3) := by decide +kernel
theorem d_272_161 : decode (cM 272) 161 = .ok (.iconst 0, 1) := by decide +kernel
theorem d_272_162 : decode (cM 272) 162 = .ok (.iaload, 1) := by decide +kernel
theorem d_272_163 : decode (cM 272) 163 = .ok (.ireturn, 1) := by decide +kernel
theorem d_272_164 : decode (cM 272) 164 = .ok (.iconst 0, 1) := by decide +kernel
theorem d_272_165 : decode (cM 272) 165 = .ok (.istore_n 3, 1) := by decide +kernel
theorem d_272_166 : decode (cM 272) 166 = .ok (.iload_n 3, 1) := by decide +kernel
theorem d_272_167 : decode (cM 272) 167 = .ok (.aload_n 0, 1) := by decide +kernel
theorem d_272_168 : decode (cM 272) 168 = .ok (.getfield 225, 3) := by decide +kernel
theorem d_272_171 : decode (cM 272) 171 = .ok (.if_icmp .ge 21, 3) := by decide +kernel
theorem d_272_174 : decode (cM 272) 174 = .ok (.iload_n 2, 1) := by decide +kernel
theorem d_272_175 : decode (cM 272) 175 = .ok (.aload_n 0, 1) := by decide +kernel
theorem d_272_176 : decode (cM 272) 176 = .ok (.getfield 103, 3) := by decide +kernel
theorem d_272_179 : decode (cM 272) 179 = .ok (.iload_n 3, 1) := by decide +kernel
theorem d_272_180 : decode (cM 272) 180 = .ok (.iaload, 1) := by decide +kernel
theorem d_272_181 : decode (cM 272) 181 = .ok (.invokestatic 392, 3) := by decide +kernel
theorem kc_272_181 : callT (oM 272) 392 = some (1, 202, 1) ∧ fok 272 202 = true ∧ stM 202 = true := by decide +kernel
theorem d_272_184 : decode (cM 272) 184 = .ok (.iadd, 1) := by decide +kernel
theorem d_272_185 : decode (cM 272) 185 = .ok (.istore_n 2, 1) := by decide +kernel
theorem d_272_186 : decode (cM 272) 186 = .ok (.iinc 3 1, 3) := by decide +kernel
theorem d_272_189 : decode (cM 272) 189 = .ok (.goto (-23), 3) := by decide +kernel
theorem d_272_192 : decode (cM 272) 192 = .ok (.iload_n 2, 1) := by decide +kernel
theorem d_272_193 : decode (cM 272) 193 = .ok (.ireturn, 1) := by decide +kernel
theorem d_272_194 : decode (cM 272) 194 = .ok (.aload_n 0, 1) := by decide +kernel
theorem d_272_195 : decode (cM 272) 195 = .ok (.getfield 365, 3) := by decide +kernel
theorem d_272_198 : decode (cM 272) 198 = .ok (.ireturn, 1) := by decide +kernel
theorem d_272_199 : decode (cM 272) 199 = .ok (.aload_n 0, 1) := by decide +kernel
theorem d_272_200 : decode (cM 272) 200 = .ok (.invokevirtual 505, 3) := by decide +kernel
theorem kc_272_200 : callT (oM 272) 505 = some (0, 257, 0) ∧ fok 272 257 = true ∧ stM 257 = false := by decide +kernel
theorem d_272_203 : decode (cM 272) 203 = .ok (.ireturn, 1) := by decide +kernel
theorem d_272_204 : decode (cM 272) 204 = .ok (.aload_n 0, 1) := by decide +kernel
theorem d_272_205 : decode (cM 272) 205 = .ok (.getfield 368, 3) := by decide +kernel
theorem d_272_208 : decode (cM 272) 208 = .ok (.ireturn, 1) := by decide +kernel
theorem d_272_209 : decode (cM 272) 209 = .ok (.iconst (-1), 1) := by decide +kernel
theorem d_272_210 : decode (cM 272) 210 = .ok (.ireturn, 1) := by decide +kernel
theorem d_274_0 : decode (cM 274) 0 = .ok (.iload_n 0, 1) := by decide +kernel
theorem d_274_1 : decode (cM 274) 1 = .ok (.ifCond .gt 14, 3) := by decide +kernel
theorem d_274_4 : decode (cM 274) 4 = .ok (.iload_n 0, 1) := by decide +kernel
theorem d_274_5 : decode (cM 274) 5 = .ok (.ifCond .ne 8, 3) := by decide +kernel
theorem d_274_8 : decode (cM 274) 8 = .ok (.bipush 32, 2) := by decide +kernel
theorem d_274_10 : decode (cM 274) 10 = .ok (.goto 4, 3) := by decide +kernel
theorem d_274_13 : decode (cM 274) 13 = .ok (.iconst 0, 1) := by decide +kernel
theorem d_274_14 : decode (cM 274) 14 = .ok (.ireturn, 1) := by decide +kernel
theorem d_274_15 : decode (cM 274) 15 = .ok (.bipush 31, 2) := by decide +kernel
theorem d_274_17 : decode (cM 274) 17 = .ok (.istore_n 1, 1) := by decide +kernel
theorem d_274_18 : decode (cM 274) 18 = .ok (.iload_n 0, 1) := by decide +kernel
theorem d_274_19 : decode (cM 274) 19 = .ok (.ldc_w 264, 3) := by decide +kernel
theorem d_274_22 : decode (cM 274) 22 = .ok (.if_icmp .lt 11, 3) := by decide +kernel
theorem d_274_25 : decode (cM 274) 25 = .ok (.iinc 1 (-16), 3) := by decide +kernel
theorem d_274_28 : decode (cM 274) 28 = .ok (.iload_n 0, 1) := by decide +kernel
theorem d_274_29 : decode (cM 274) 29 = .ok (.bipush 16, 2) := by decide +kernel
theorem d_274_31 : decode (cM 274) 31 = .ok (.iushr, 1) := by decide +kernel
theorem d_274_32 : decode (cM 274) 32 = .ok (.istore_n 0, 1) := by decide +kernel
theorem d_274_33 : decode (cM 274) 33 = .ok (.iload_n 0, 1) := by decide +kernel
theorem d_274_34 : decode (cM 274) 34 = .ok (.sipush 256, 3) := by decide +kernel
theorem d_274_37 : decode (cM 274) 37 = .ok (.if_icmp .lt 11, 3) := by decide +kernel
theorem d_274_40 : decode (cM 274) 40 = .ok (.iinc 1 (-8), 3) := by decide +kernel
theorem d_274_43 : decode (cM 274) 43 = .ok (.iload_n 0, 1) := by decide +kernel
theorem d_274_44 : decode (cM 274) 44 = .ok (.bipush 8, 2) := by decide +kernel
theorem d_274_46 : decode (cM 274) 46 = .ok (.iushr, 1) := by decide +kernel
theorem d_274_47 : decode (cM 274) 47 = .ok (.istore_n 0, 1) := by decide +kernel
theorem d_274_48 : decode (cM 274) 48 = .ok (.iload_n 0, 1) := by decide +kernel
theorem d_274_49 : decode (cM 274) 49 = .ok (.bipush 16, 2) := by decide +kernel
theorem d_274_51 : decode (cM 274) 51 = .ok (.if_icmp .lt 10, 3) := by decide +kernel
theorem d_274_54 : decode (cM 274) 54 = .ok (.iinc 1 (-4), 3) := by decide +kernel
theorem d_274_57 : decode (cM 274) 57 = .ok (.iload_n 0, 1) := by decide +kernel
theorem d_274_58 : decode (cM 274) 58 = .ok (.iconst 4, 1) := by decide +kernel
theorem d_274_59 : decode (cM 274) 59 = .ok (.iushr, 1) := by decide +kernel
theorem d_274_60 : decode (cM 274) 60 = .ok (.istore_n 0, 1) := by decide +kernel
theorem d_274_61 : decode (cM 274) 61 = .ok (.iload_n 0, 1) := by decide +kernel
theorem d_274_62 : decode (cM 274) 62 = .ok (.iconst 4, 1) := by decide +kernel
theorem d_274_63 : decode (cM 274) 63 = .ok (.if_icmp .lt 10, 3) := by decide +kernel
theorem d_274_66 : decode (cM 274) 66 = .ok (.iinc 1 (-2), 3) := by decide +kernel
theorem d_274_69 : decode (cM 274) 69 = .ok (.iload_n 0, 1) := by decide +kernel
theorem d_274_70 : decode (cM 274) 70 = .ok (.iconst 2, 1) := by decide +kernel
theorem d_274_71 : decode (cM 274) 71 = .ok (.iushr, 1) := by decide +kernel
theorem d_274_72 : decode (cM 274) 72 = .ok (.istore_n 0, 1) := by decide +kernel
theorem d_274_73 : decode (cM 274) 73 = .ok (.iload_n 1, 1) := by decide +kernel
theorem d_274_74 : decode (cM 274) 74 = .ok (.iload_n 0, 1) := by decide +kernel
theorem d_274_75 : decode (cM 274) 75 = .ok (.iconst 1, 1) := by decide +kernel
theorem d_274_76 : decode (cM 274) 76 = .ok (.iushr, 1) := by decide +kernel
theorem d_274_77 : decode (cM 274) 77 = .ok (.isub, 1) := by decide +kernel
theorem d_274_78 : decode (cM 274) 78 = .ok (.ireturn, 1) := by decide +kernel
theorem d_275_0 : decode (cM 275) 0 = .ok (.iload_n 0, 1) := by decide +kernel
theorem d_275_1 : decode (cM 275) 1 = .ok (.iconst (-1), 1) := by decide +kernel
theorem d_275_2 : decode (cM 275) 2 = .ok (.ixor, 1) := by decide +kernel
theorem d_275_3 : decode (cM 275) 3 = .ok (.iload_n 0, 1) := by decide +kernel
theorem d_275_4 : decode (cM 275) 4 = .ok (.iconst 1, 1) := by decide +kernel
theorem d_275_5 : decode (cM 275) 5 = .ok (.isub, 1) := by decide +kernel
theorem d_275_6 : decode (cM 275) 6 = .ok (.iand, 1) := by decide +kernel
theorem d_275_7 : decode (cM 275) 7 = .ok (.istore_n 0, 1) := by decide +kernel
theorem d_275_8 : decode (cM 275) 8 = .ok (.iload_n 0, 1) := by decide +kernel
theorem d_275_9 : decode (cM 275) 9 = .ok (.ifCond .gt 8, 3) := by decide +kernel
theorem d_275_12 : decode (cM 275) 12 = .ok (.iload_n 0, 1) := by decide +kernel
theorem d_275_13 : decode (cM 275) 13 = .ok (.bipush 32, 2) := by decide +kernel
theorem d_275_15 : decode (cM 275) 15 = .ok (.iand, 1) := by decide +kernel
theorem d_275_16 : decode (cM 275) 16 = .ok (.ireturn, 1) := by decide +kernel
theorem d_275_17 : decode (cM 275) 17 = .ok (.iconst 1, 1) := by decide +kernel
theorem d_275_18 : decode (cM 275) 18 = .ok (.istore_n 1, 1) := by decide +kernel
theorem d_275_19 : decode (cM 275) 19 = .ok (.iload_n 0, 1) := by decide +kernel
theorem d_275_20 : decode (cM 275) 20 = .ok (.ldc_w 264, 3) := by decide +kernel
theorem d_275_23 : decode (cM 275) 23 = .ok (.if_icmp .le 11, 3) := by decide +kernel
theorem d_275_26 : decode (cM 275) 26 = .ok (.iinc 1 16, 3) := by decide +kernel
theorem d_275_29 : decode (cM 275) 29 = .ok (.iload_n 0, 1) := by decide +kernel
theorem d_275_30 : decode (cM 275) 30 = .ok (.bipush 16, 2) := by decide +kernel
theorem d_275_32 : decode (cM 275) 32 = .ok (.iushr, 1) := by decide +kernel
theorem d_275_33 : decode (cM 275) 33 = .ok (.istore_n 0, 1) := by decide +kernel
theorem d_275_34 : decode (cM 275) 34 = .ok (.iload_n 0, 1) := by decide +kernel
theorem d_275_35 : decode (cM 275) 35 = .ok (.sipush 256, 3) := by decide +kernel
theorem d_275_38 : decode (cM 275) 38 = .ok (.if_icmp .le 11, 3) := by decide +kernel
theorem d_275_41 : decode (cM 275) 41 = .ok (.iinc 1 8, 3) := by decide +kernel
theorem d_275_44 : decode (cM 275) 44 = .ok (.iload_n 0, 1) := by decide +kernel
theorem d_275_45 : decode (cM 275) 45 = .ok (.bipush 8, 2) := by decide +kernel
theorem d_275_47 : decode (cM 275) 47 = .ok (.iushr, 1) := by decide +kernel
theorem d_275_48 : decode (cM 275) 48 = .ok (.istore_n 0, 1) := by decide +kernel
theorem d_275_49 : decode (cM 275) 49 = .ok (.iload_n 0, 1) := by decide +kernel
theorem d_275_50 : decode (cM 275) 50 = .ok (.bipush 16, 2) := by decide +kernel
theorem d_275_52 : decode (cM 275) 52 = .ok (.if_icmp .le 10, 3) := by decide +kernel
theorem d_275_55 : decode (cM 275) 55 = .ok (.iinc 1 4, 3) := by decide +kernel
theorem d_275_58 : decode (cM 275) 58 = .ok (.iload_n 0, 1) := by decide +kernel
theorem d_275_59 : decode (cM 275) 59 = .ok (.iconst 4, 1) := by decide +kernel
theorem d_275_60 : decode (cM 275) 60 = .ok (.iushr, 1) := by decide +kernel
theorem d_275_61 : decode (cM 275) 61 = .ok (.istore_n 0, 1) := by decide +kernel
theorem d_275_62 : decode (cM 275) 62 = .ok (.iload_n 0, 1) := by decide +kernel
theorem d_275_63 : decode (cM 275) 63 = .ok (.iconst 4, 1) := by decide +kernel
theorem d_275_64 : decode (cM 275) 64 = .ok (.if_icmp .le 10, 3) := by decide +kernel
theorem d_275_67 : decode (cM 275) 67 = .ok (.iinc 1 2, 3) := by decide +kernel
theorem d_275_70 : decode (cM 275) 70 = .ok (.iload_n 0, 1) := by decide +kernel
theorem d_275_71 : decode (cM 275) 71 = .ok (.iconst 2, 1) := by decide +kernel
theorem d_275_72 : decode (cM 275) 72 = .ok (.iushr, 1) := by decide +kernel
theorem d_275_73 : decode (cM 275) 73 = .ok (.istore_n 0, 1) := by decide +kernel
theorem d_275_74 : decode (cM 275) 74 = .ok (.iload_n 1, 1) := by decide +kernel
theorem d_275_75 : decode (cM 275) 75 = .ok (.iload_n 0, 1) := by decide +kernel
theorem d_275_76 : decode (cM 275) 76 = .ok (.iconst 1, 1) := by decide +kernel
theorem d_275_77 : decode (cM 275) 77 = .ok (.iushr, 1) := by decide +kernel
theorem d_275_78 : decode (cM 275) 78 = .ok (.iadd, 1) := by decide +kernel
theorem d_275_79 : decode (cM 275) 79 = .ok (.ireturn, 1) := by decide +kernel
theorem d_276_0 : decode (cM 276) 0 = .ok (.iload_n 0, 1) := by decide +kernel
theorem d_276_1 : decode (cM 276) 1 = .ok (.iload_n 0, 1) := by decide +kernel
theorem d_276_2 : decode (cM 276) 2 = .ok (.iconst 1, 1) := by decide +kernel
theorem d_276_3 : decode (cM 276) 3 = .ok (.iushr, 1) := by decide +kernel
theorem d_276_4 : decode (cM 276) 4 = .ok (.ldc_w 265, 3) := by decide +kernel
theorem d_276_7 : decode (cM 276) 7 = .ok (.iand, 1) := by decide +kernel
theorem d_276_8 : decode (cM 276) 8 = .ok (.isub, 1) := by decide +kernel
theorem d_276_9 : decode (cM 276) 9 = .ok (.istore_n 0, 1) := by decide +kernel
theorem d_276_10 : decode (cM 276) 10 = .ok (.iload_n 0, 1) := by decide +kernel
theorem d_276_11 : decode (cM 276) 11 = .ok (.ldc_w 266, 3) := by decide +kernel
theorem d_276_14 : decode (cM 276) 14 = .ok (.iand, 1) := by decide +kernel
theorem d_276_15 : decode (cM 276) 15 = .ok (.iload_n 0, 1) := by decide +kernel
theorem d_276_16 : decode (cM 276) 16 = .ok (.iconst 2, 1) := by decide +kernel
theorem d_276_17 : decode (cM 276) 17 = .ok (.iushr, 1) := by decide +kernel
theorem d_276_18 : decode (cM 276) 18 = .ok (.ldc_w 266, 3) := by decide +kernel
theorem d_276_21 : decode (cM 276) 21 = .ok (.iand, 1) := by decide +kernel
theorem d_276_22 : decode (cM 276) 22 = .ok (.iadd, 1) := by decide +kernel
theorem d_276_23 : decode (cM 276) 23 = .ok (.istore_n 0, 1) := by decide +kernel
theorem d_276_24 : decode (cM 276) 24 = .ok (.iload_n 0, 1) := by decide +kernel
theorem d_276_25 : decode (cM 276) 25 = .ok (.iload_n 0, 1) := by decide +kernel
theorem d_276_26 : decode (cM 276) 26 = .ok (.iconst 4, 1) := by decide +kernel
theorem d_276_27 : decode (cM 276) 27 = .ok (.iushr, 1) := by decide +kernel
theorem d_276_28 : decode (cM 276) 28 = .ok (.iadd, 1) := by decide +kernel
theorem d_276_29 : decode (cM 276) 29 = .ok (.ldc_w 267, 3) := by decide +kernel
theorem d_276_32 : decode (cM 276) 32 = .ok (.iand, 1) := by decide +kernel
theorem d_276_33 : decode (cM 276) 33 = .ok (.istore_n 0, 1) := by decide +kernel
theorem d_276_34 : decode (cM 276) 34 = .ok (.iload_n 0, 1) := by decide +kernel
theorem d_276_35 : decode (cM 276) 35 = .ok (.iload_n 0, 1) := by decide +kernel
theorem d_276_36 : decode (cM 276) 36 = .ok (.bipush 8, 2) := by decide +kernel
theorem d_276_38 : decode (cM 276) 38 = .ok (.iushr, 1) := by decide +kernel
theorem d_276_39 : decode (cM 276) 39 = .ok (.iadd, 1) := by decide +kernel
theorem d_276_40 : decode (cM 276) 40 = .ok (.istore_n 0, 1) := by decide +kernel
theorem d_276_41 : decode (cM 276) 41 = .ok (.iload_n 0, 1) := by decide +kernel
theorem d_276_42 : decode (cM 276) 42 = .ok (.iload_n 0, 1) := by decide +kernel
theorem d_276_43 : decode (cM 276) 43 = .ok (.bipush 16, 2) := by decide +kernel
theorem d_276_45 : decode (cM 276) 45 = .ok (.iushr, 1) := by decide +kernel
theorem d_276_46 : decode (cM 276) 46 = .ok (.iadd, 1) := by decide +kernel
theorem d_276_47 : decode (cM 276) 47 = .ok (.istore_n 0, 1) := by decide +kernel
theorem d_276_48 : decode (cM 276) 48 = .ok (.iload_n 0, 1) := by decide +kernel
theorem d_276_49 : decode (cM 276) 49 = .ok (.bipush 63, 2) := by decide +kernel
theorem d_276_51 : decode (cM 276) 51 = .ok (.iand, 1) := by decide +kernel
theorem d_276_52 : decode (cM 276) 52 = .ok (.ireturn, 1) := by decide +kernel
theorem d_277_0 : decode (cM 277) 0 = .ok (.lload_n 0, 1) := by decide +kernel
theorem d_277_1 : decode (cM 277) 1 = .ok (.lconst 0, 1) := by decide +kernel
theorem d_277_2 : decode (cM 277) 2 = .ok (.lcmp, 1) := by decide +kernel
theorem d_277_3 : decode (cM 277) 3 = .ok (.ifCond .ge 8, 3) := by decide +kernel
theorem d_277_6 : decode (cM 277) 6 = .ok (.lload_n 0, 1) := by decide +kernel
theorem d_277_7 : decode (cM 277) 7 = .ok (.lneg, 1) := by decide +kernel
theorem d_277_8 : decode (cM 277) 8 = .ok (.goto 4, 3) := by decide +kernel
theorem d_277_11 : decode (cM 277) 11 = .ok (.lload_n 0, 1) := by decide +kernel
theorem d_277_12 : decode (cM 277) 12 = .ok (.lreturn, 1) := by decide +kernel
theorem d_278_0 : decode (cM 278) 0 = .ok (.iload_n 0, 1) := by decide +kernel
theorem d_278_1 : decode (cM 278) 1 = .ok (.iload_n 1, 1) := by decide +kernel
theorem d_278_2 : decode (cM 278) 2 = .ok (.if_icmp .lt 7, 3) := by decide +kernel
theorem d_278_5 : decode (cM 278) 5 = .ok (.iload_n 0, 1) := by decide +kernel
theorem d_278_6 : decode (cM 278) 6 = .ok (.goto 4, 3) := by decide +kernel
theorem d_278_9 : decode (cM 278) 9 = .ok (.iload_n 1, 1) := by decide +kernel
theorem d_278_10 : decode (cM 278) 10 = .ok (.ireturn, 1) := by decide +kernel
theorem d_279_0 : decode (cM 279) 0 = .ok (.lload_n 0, 1) := by decide +kernel
theorem d_279_1 : decode (cM 279) 1 = .ok (.lload_n 2, 1) := by decide +kernel
theorem d_279_2 : decode (cM 279) 2 = .ok (.lcmp, 1) := by decide +kernel
theorem d_279_3 : decode (cM 279) 3 = .ok (.ifCond .lt 7, 3) := by decide +kernel
theorem d_279_6 : decode (cM 279) 6 = .ok (.lload_n 0, 1) := by decide +kernel
theorem d_279_7 : decode (cM 279) 7 = .ok (.goto 4, 3) := by decide +kernel
theorem d_279_10 : decode (cM 279) 10 = .ok (.lload_n 2, 1) := by decide +kernel
theorem d_279_11 : decode (cM 279) 11 = .ok (.lreturn, 1) := by decide +kernel
theorem d_280_0 : decode (cM 280) 0 = .ok (.iload_n 0, 1) := by decide +kernel
theorem d_280_1 : decode (cM 280) 1 = .ok (.iload_n 1, 1) := by decide +kernel
theorem d_280_2 : decode (cM 280) 2 = .ok (.if_icmp .gt 7, 3) := by decide +kernel
theorem d_280_5 : decode (cM 280) 5 = .ok (.iload_n 0, 1) := by decide +kernel
theorem d_280_6 : decode (cM 280) 6 = .ok (.goto 4, 3) := by decide +kernel
theorem d_280_9 : decode (cM 280) 9 = .ok (.iload_n 1, 1) := by decide +kernel
theorem d_280_10 : decode (cM 280) 10 = .ok (.ireturn, 1) := by decide +kernel
theorem d_281_0 : decode (cM 281) 0 = .ok (.lload_n 0, 1) := by decide +kernel
theorem d_281_1 : decode (cM 281) 1 = .ok (.lload_n 2, 1) := by decide +kernel
theorem d_281_2 : decode (cM 281) 2 = .ok (.lcmp, 1) := by decide +kernel
theorem d_281_3 : decode (cM 281) 3 = .ok (.ifCond .gt 7, 3) := by decide +kernel
theorem d_281_6 : decode (cM 281) 6 = .ok (.lload_n 0, 1) := by decide +kernel
theorem d_281_7 : decode (cM 281) 7 = .ok (.goto 4, 3) := by decide +kernel
theorem d_281_10 : decode (cM 281) 10 = .ok (.lload_n 2, 1) := by decide +kernel
theorem d_281_11 : decode (cM 281) 11 = .ok (.lreturn, 1) := by decide +kernel
theorem d_282_0 : decode (cM 282) 0 = .ok (.aload_n 0, 1) := by decide +kernel
theorem d_282_1 : decode (cM 282) 1 = .ok (.getfield 9, 3) := by decide +kernel
theorem d_282_4 : decode (cM 282) 4 = .ok (.arraylength, 1) := by decide +kernel
theorem d_282_5 : decode (cM 282) 5 = .ok (.aload_n 0, 1) := by decide +kernel
theorem d_282_6 : decode (cM 282) 6 = .ok (.invokevirtual 335, 3) := by decide +kernel
theorem kc_282_6 : callT (oM 282) 335 = some (0, 286, 0) ∧ fok 282 286 = true ∧ stM 286 = false := by decide +kernel
theorem d_282_9 : decode (cM 282) 9 = .ok (.ishr, 1) := by decide +kernel
theorem d_282_10 : decode (cM 282) 10 = .ok (.ireturn, 1) := by decide +kernel
theorem d_283_0 : decode (cM 283) 0 = .ok (.aload_n 0, 1) := by decide +kernel
theorem d_283_1 : decode (cM 283) 1 = .ok (.invokevirtual 492, 3) := by decide +kernel
theorem kc_283_1 : callT (oM 283) 492 = some (0, 287, 0) ∧ fok 283 287 = true ∧ stM 287 = false := by decide +kernel
theorem d_283_4 : decode (cM 283) 4 = .ok (.ifCond .eq 12, 3) := by decide +kernel
theorem d_283_7 : decode (cM 283) 7 = .ok (.aload_n 0, 1) := by decide +kernel
theorem d_283_8 : decode (cM 283) 8 = .ok (.getfield 9, 3) := by decide +kernel
theorem d_283_11 : decode (cM 283) 11 = .ok (.iload_n 1, 1) := by decide +kernel
theorem d_283_12 : decode (cM 283) 12 = .ok (.invokestatic 495, 3) := by decide +kernel
theorem kc_283_12 : callT (oM 283) 495 = some (1, 290, 2) ∧ fok 283 290 = true ∧ stM 290 = true := by decide +kernel
theorem d_283_15 : decode (cM 283) 15 = .ok (.ireturn, 1) := by decide +kernel
theorem d_283_16 : decode (cM 283) 16 = .ok (.aload_n 0, 1) := by decide +kernel
theorem d_283_17 : decode (cM 283) 17 = .ok (.getfield 9, 3) := by decide +kernel
theorem d_283_20 : decode (cM 283) 20 = .ok (.iload_n 1, 1) := by decide +kernel
theorem d_283_21 : decode (cM 283) 21 = .ok (.invokestatic 498, 3) := by decide +kernel
theorem d_283_24 : decode (cM 283) 24 = .ok (.ireturn, 1) := by decide +kernel
theorem d_284_0 : decode (cM 284) 0 = .ok (.aload_n 0, 1) := by decide +kernel
theorem d_284_1 : decode (cM 284) 1 = .ok (.iload_n 1, 1) := by decide +kernel
theorem d_284_2 : decode (cM 284) 2 = .ok (.iconst 0, 1) := by decide +kernel
theorem d_284_3 : decode (cM 284) 3 = .ok (.invokevirtual 633, 3) := by decide +kernel
theorem kc_284_3 : callT (oM 284) 633 = some (0, 285, 2) ∧ fok 284 285 = true ∧ stM 285 = false := by decide +kernel
theorem d_284_6 : decode (cM 284) 6 = .ok (.ireturn, 1) := by decide +kernel
theorem d_285_0 : decode (cM 285) 0 = .ok (.aload_n 0, 1) := by decide +kernel
theorem d_285_1 : decode (cM 285) 1 = .ok (.invokevirtual 492, 3) := by decide +kernel
theorem kc_285_1 : callT (oM 285) 492 = some (0, 287, 0) ∧ fok 285 287 = true ∧ stM 287 = false := by decide +kernel
theorem d_285_4 : decode (cM 285) 4 = .ok (.ifCond .eq 19, 3) := by decide +kernel
theorem d_285_7 : decode (cM 285) 7 = .ok (.aload_n 0, 1) := by decide +kernel
theorem d_285_8 : decode (cM 285) 8 = .ok (.getfield 9, 3) := by decide +kernel
theorem d_285_11 : decode (cM 285) 11 = .ok (.iload_n 1, 1) := by decide +kernel
theorem d_285_12 : decode (cM 285) 12 = .ok (.iload_n 2, 1) := by decide +kernel
theorem d_285_13 : decode (cM 285) 13 = .ok (.aload_n 0, 1) := by decide +kernel
theorem d_285_14 : decode (cM 285) 14 = .ok (.invokevirtual 505, 3) := by decide +kernel
theorem kc_285_14 : callT (oM 285) 505 = some (0, 282, 0) ∧ fok 285 282 = true ∧ stM 282 = false := by decide +kernel
theorem d_285_17 : decode (cM 285) 17 = .ok (.invokestatic 637, 3) := by decide +kernel
theorem kc_285_17 : callT (oM 285) 637 = some (1, 292, 4) ∧ fok 285 292 = true ∧ stM 292 = true := by decide +kernel
theorem d_285_20 : decode (cM 285) 20 = .ok (.goto 16, 3) := by decide +kernel
theorem d_285_23 : decode (cM 285) 23 = .ok (.aload_n 0, 1) := by decide +kernel
theorem d_285_24 : decode (cM 285) 24 = .ok (.getfield 9, 3) := by decide +kernel
theorem d_285_27 : decode (cM 285) 27 = .ok (.iload_n 1, 1) := by decide +kernel
theorem d_285_28 : decode (cM 285) 28 = .ok (.iload_n 2, 1) := by decide +kernel
theorem d_285_29 : decode (cM 285) 29 = .ok (.aload_n 0, 1) := by decide +kernel
theorem d_285_30 : decode (cM 285) 30 = .ok (.invokevirtual 505, 3) := by decide +kernel
theorem kc_285_30 : callT (oM 285) 505 = some (0, 282, 0) ∧ fok 285 282 = true ∧ stM 282 = false := by decide +kernel
theorem d_285_33 : decode (cM 285) 33 = .ok (.invokestatic 640, 3) := by decide +kernel
theorem d_285_36 : decode (cM 285) 36 = .ok (.ireturn, 1) := by decide +kernel
theorem d_286_0 : decode (cM 286) 0 = .ok (.getstatic 38, 3) := by decide +kernel
theorem d_286_3 : decode (cM 286) 3 = .ok (.ifCond .eq 10, 3) := by decide +kernel
theorem d_286_6 : decode (cM 286) 6 = .ok (.aload_n 0, 1) := by decide +kernel
theorem d_286_7 : decode (cM 286) 7 = .ok (.getfield 15, 3) := by decide +kernel
theorem d_286_10 : decode (cM 286) 10 = .ok (.goto 4, 3) := by decide +kernel
theorem d_286_13 : decode (cM 286) 13 = .ok (.iconst 1, 1) := by decide +kernel
theorem d_286_14 : decode (cM 286) 14 = .ok (.ireturn, 1) := by decide +kernel
theorem d_287_0 : decode (cM 287) 0 = .ok (.getstatic 38, 3) := by decide +kernel
theorem d_287_3 : decode (cM 287) 3 = .ok (.ifCond .eq 14, 3) := by decide +kernel
theorem d_287_6 : decode (cM 287) 6 = .ok (.aload_n 0, 1) := by decide +kernel
theorem d_287_7 : decode (cM 287) 7 = .ok (.getfield 15, 3) := by decide +kernel
theorem d_287_10 : decode (cM 287) 10 = .ok (.ifCond .ne 7, 3) := by decide +kernel
theorem d_287_13 : decode (cM 287) 13 = .ok (.iconst 1, 1) := by decide +kernel
theorem d_287_14 : decode (cM 287) 14 = .ok (.goto 4, 3) := by decide +kernel
theorem d_287_17 : decode (cM 287) 17 = .ok (.iconst 0, 1) := by decide +kernel
theorem d_287_18 : decode (cM 287) 18 = .ok (.ireturn, 1) := by decide +kernel
theorem d_288_0 : decode (cM 288) 0 = .ok (.iload_n 0, 1) := by decide +kernel
theorem d_288_1 : decode (cM 288) 1 = .ok (.iload_n 1, 1) := by decide +kernel
theorem d_288_2 : decode (cM 288) 2 = .ok (.getstatic 1053, 3) := by decide +kernel
theorem d_288_5 : decode (cM 288) 5 = .ok (.invokestatic 1059, 3) := by decide +kernel
theorem d_288_8 : decode (cM 288) 8 = .ok (.pop, 1) := by decide +kernel
theorem d_288_9 : decode (cM 288) 9 = .ok (.return_, 1) := by decide +kernel
theorem d_289_0 : decode (cM 289) 0 = .ok (.iload_n 0, 1) := by decide +kernel
theorem d_289_1 : decode (cM 289) 1 = .ok (.iload_n 1, 1) := by decide +kernel
theorem d_289_2 : decode (cM 289) 2 = .ok (.iload_n 2, 1) := by decide +kernel
theorem d_289_3 : decode (cM 289) 3 = .ok (.getstatic 1053, 3) := by decide +kernel
theorem d_289_6 : decode (cM 289) 6 = .ok (.invokestatic 1062, 3) := by decide +kernel
theorem d_289_9 : decode (cM 289) 9 = .ok (.pop, 1) := by decide +kernel
theorem d_289_10 : decode (cM 289) 10 = .ok (.return_, 1) := by decide +kernel
theorem d_290_0 : decode (cM 290) 0 = .ok (.iload_n 1, 1) := by decide +kernel
theorem d_290_1 : decode (cM 290) 1 = .ok (.aload_n 0, 1) := by decide +kernel
theorem d_290_2 : decode (cM 290) 2 = .ok (.arraylength, 1) := by decide +kernel
theorem d_290_3 : decode (cM 290) 3 = .ok (.invokestatic 9, 3) := by decide +kernel
theorem d_290_6 : decode (cM 290) 6 = .ok (.aload_n 0, 1) := by decide +kernel
theorem d_290_7 : decode (cM 290) 7 = .ok (.iload_n 1, 1) := by decide +kernel
theorem d_290_8 : decode (cM 290) 8 = .ok (.baload, 1) := by decide +kernel
theorem d_290_9 : decode (cM 290) 9 = .ok (.sipush 255, 3) := by decide +kernel
theorem d_290_12 : decode (cM 290) 12 = .ok (.iand, 1) := by decide +kernel
theorem d_290_13 : decode (cM 290) 13 = .ok (.i2c, 1) := by decide +kernel
theorem d_290_14 : decode (cM 290) 14 = .ok (.ireturn, 1) := by decide +kernel
theorem d_291_0 : decode (cM 291) 0 = .ok (.iload_n 0, 1) := by decide +kernel
theorem d_291_1 : decode (cM 291) 1 = .ok (.ifCond .lt 14, 3) := by decide +kernel
theorem d_291_4 : decode (cM 291) 4 = .ok (.iload_n 0, 1) := by decide +kernel
theorem d_291_5 : decode (cM 291) 5 = .ok (.sipush 255, 3) := by decide +kernel
theorem d_291_8 : decode (cM 291) 8 = .ok (.if_icmp .gt 7, 3) := by decide +kernel
theorem d_291_11 : decode (cM 291) 11 = .ok (.iconst 1, 1) := by decide +kernel
theorem d_291_12 : decode (cM 291) 12 = .ok (.goto 4, 3) := by decide +kernel
theorem d_291_15 : decode (cM 291) 15 = .ok (.iconst 0, 1) := by decide +kernel
theorem d_291_16 : decode (cM 291) 16 = .ok (.ireturn, 1) := by decide +kernel
theorem d_292_0 : decode (cM 292) 0 = .ok (.iload_n 1, 1) := by decide +kernel
theorem d_292_1 : decode (cM 292) 1 = .ok (.invokestatic 88, 3) := by decide +kernel
theorem kc_292_1 : callT (oM 292) 88 = some (1, 291, 1) ∧ fok 292 291 = true ∧ stM 291 = true := by decide +kernel
theorem d_292_4 : decode (cM 292) 4 = .ok (.ifCond .ne 5, 3) := by decide +kernel
theorem d_292_7 : decode (cM 292) 7 = .ok (.iconst (-1), 1) := by decide +kernel
theorem d_292_8 : decode (cM 292) 8 = .ok (.ireturn, 1) := by decide +kernel
theorem d_292_9 : decode (cM 292) 9 = .ok (.iload_n 2, 1) := by decide +kernel
theorem d_292_10 : decode (cM 292) 10 = .ok (.iconst 0, 1) := by decide +kernel
theorem d_292_11 : decode (cM 292) 11 = .ok (.invokestatic 92, 3) := by decide +kernel
theorem kc_292_11 : callT (oM 292) 92 = some (1, 278, 2) ∧ fok 292 278 = true ∧ stM 278 = true := by decide +kernel
theorem d_292_14 : decode (cM 292) 14 = .ok (.istore_n 2, 1) := by decide +kernel
theorem d_292_15 : decode (cM 292) 15 = .ok (.iload_n 3, 1) := by decide +kernel
theorem d_292_16 : decode (cM 292) 16 = .ok (.aload_n 0, 1) := by decide +kernel
theorem d_292_17 : decode (cM 292) 17 = .ok (.arraylength, 1) := by decide +kernel
theorem d_292_18 : decode (cM 292) 18 = .ok (.invokestatic 38, 3) := by decide +kernel
theorem kc_292_18 : callT (oM 292) 38 = some (1, 280, 2) ∧ fok 292 280 = true ∧ stM 280 = true := by decide +kernel
theorem d_292_21 : decode (cM 292) 21 = .ok (.istore_n 3, 1) := by decide +kernel
theorem d_292_22 : decode (cM 292) 22 = .ok (.iload_n 2, 1) := by decide +kernel
theorem d_292_23 : decode (cM 292) 23 = .ok (.iload_n 3, 1) := by decide +kernel
theorem d_292_24 : decode (cM 292) 24 = .ok (.if_icmp .lt 5, 3) := by decide +kernel
theorem d_292_27 : decode (cM 292) 27 = .ok (.iconst (-1), 1) := by decide +kernel
theorem d_292_28 : decode (cM 292) 28 = .ok (.ireturn, 1) := by decide +kernel
theorem d_292_29 : decode (cM 292) 29 = .ok (.aload_n 0, 1) := by decide +kernel
theorem d_292_30 : decode (cM 292) 30 = .ok (.iload_n 1, 1) := by decide +kernel
theorem d_292_31 : decode (cM 292) 31 = .ok (.iload_n 2, 1) := by decide +kernel
theorem d_292_32 : decode (cM 292) 32 = .ok (.iload_n 3, 1) := by decide +kernel
theorem d_292_33 : decode (cM 292) 33 = .ok (.invokestatic 95, 3) := by decide +kernel
theorem kc_292_33 : callT (oM 292) 95 = some (1, 293, 4) ∧ fok 292 293 = true ∧ stM 293 = true := by decide +kernel
theorem d_292_36 : decode (cM 292) 36 = .ok (.ireturn, 1) := by decide +kernel
theorem d_293_0 : decode (cM 293) 0 = .ok (.iload_n 1, 1) := by decide +kernel
theorem d_293_1 : decode (cM 293) 1 = .ok (.i2b, 1) := by decide +kernel
theorem d_293_2 : decode (cM 293) 2 = .ok (.istore 4, 2) := by decide +kernel
theorem d_293_4 : decode (cM 293) 4 = .ok (.iload_n 2, 1) := by decide +kernel
theorem d_293_5 : decode (cM 293) 5 = .ok (.istore 5, 2) := by decide +kernel
theorem d_293_7 : decode (cM 293) 7 = .ok (.iload 5, 2) := by decide +kernel
theorem d_293_9 : decode (cM 293) 9 = .ok (.iload_n 3, 1) := by decide +kernel
theorem d_293_10 : decode (cM 293) 10 = .ok (.if_icmp .ge 21, 3) := by decide +kernel
theorem d_293_13 : decode (cM 293) 13 = .ok (.aload_n 0, 1) := by decide +kernel
theorem d_293_14 : decode (cM 293) 14 = .ok (.iload 5, 2) := by decide +kernel
theorem d_293_16 : decode (cM 293) 16 = .ok (.baload, 1) := by decide +kernel
theorem d_293_17 : decode (cM 293) 17 = .ok (.iload 4, 2) := by decide +kernel
theorem d_293_19 : decode (cM 293) 19 = .ok (.if_icmp .ne 6, 3) := by decide +kernel
theorem d_293_22 : decode (cM 293) 22 = .ok (.iload 5, 2) := by decide +kernel
theorem d_293_24 : decode (cM 293) 24 = .ok (.ireturn, 1) := by decide +kernel
theorem d_293_25 : decode (cM 293) 25 = .ok (.iinc 5 1, 3) := by decide +kernel
theorem d_293_28 : decode (cM 293) 28 = .ok (.goto (-21), 3) := by decide +kernel
theorem d_293_31 : decode (cM 293) 31 = .ok (.iconst (-1), 1) := by decide +kernel
theorem d_293_32 : decode (cM 293) 32 = .ok (.ireturn, 1) := by decide +kernel
