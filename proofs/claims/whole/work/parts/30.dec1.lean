theorem d_63_0 : decode (cM 63) 0 = .ok (.aload_n 0, 1) := by decide +kernel
theorem d_63_1 : decode (cM 63) 1 = .ok (.getfield 57, 3) := by decide +kernel
theorem d_63_4 : decode (cM 63) 4 = .ok (.bipush 39, 2) := by decide +kernel
theorem d_63_6 : decode (cM 63) 6 = .ok (.if_icmp .ne 37, 3) := by decide +kernel
theorem d_63_9 : decode (cM 63) 9 = .ok (.aload_n 0, 1) := by decide +kernel
theorem d_63_10 : decode (cM 63) 10 = .ok (.getfield 210, 3) := by decide +kernel
theorem d_63_13 : decode (cM 63) 13 = .ok (.ifCond .le 30, 3) := by decide +kernel
theorem d_63_16 : decode (cM 63) 16 = .ok (.aload_n 0, 1) := by decide +kernel
theorem d_63_17 : decode (cM 63) 17 = .ok (.iconst 0, 1) := by decide +kernel
theorem d_63_18 : decode (cM 63) 18 = .ok (.invokevirtual 223, 3) := by decide +kernel
theorem kc_63_18 : callT (oM 63) 223 = some (0, 68, 1) ∧ fok 63 68 = true ∧ stM 68 = false := by decide +kernel
theorem d_63_21 : decode (cM 63) 21 = .ok (.aload_n 0, 1) := by decide +kernel
theorem d_63_22 : decode (cM 63) 22 = .ok (.dup, 1) := by decide +kernel
theorem d_63_23 : decode (cM 63) 23 = .ok (.getfield 207, 3) := by decide +kernel
theorem d_63_26 : decode (cM 63) 26 = .ok (.iconst 1, 1) := by decide +kernel
theorem d_63_27 : decode (cM 63) 27 = .ok (.isub, 1) := by decide +kernel
theorem d_63_28 : decode (cM 63) 28 = .ok (.putfield 207, 3) := by decide +kernel
theorem d_63_31 : decode (cM 63) 31 = .ok (.aload_n 0, 1) := by decide +kernel
theorem d_63_32 : decode (cM 63) 32 = .ok (.dup, 1) := by decide +kernel
theorem d_63_33 : decode (cM 63) 33 = .ok (.getfield 210, 3) := by decide +kernel
theorem d_63_36 : decode (cM 63) 36 = .ok (.iconst 1, 1) := by decide +kernel
theorem d_63_37 : decode (cM 63) 37 = .ok (.isub, 1) := by decide +kernel
theorem d_63_38 : decode (cM 63) 38 = .ok (.putfield 210, 3) := by decide +kernel
theorem d_63_41 : decode (cM 63) 41 = .ok (.iconst 1, 1) := by decide +kernel
theorem d_63_42 : decode (cM 63) 42 = .ok (.ireturn, 1) := by decide +kernel
theorem d_63_43 : decode (cM 63) 43 = .ok (.aload_n 0, 1) := by decide +kernel
theorem d_63_44 : decode (cM 63) 44 = .ok (.getfield 57, 3) := by decide +kernel
theorem d_63_47 : decode (cM 63) 47 = .ok (.invokestatic 245, 3) := by decide +kernel
theorem kc_63_47 : callT (oM 63) 245 = some (1, 69, 1) ∧ fok 63 69 = true ∧ stM 69 = true := by decide +kernel
theorem d_63_50 : decode (cM 63) 50 = .ok (.istore_n 1, 1) := by decide +kernel
theorem d_63_51 : decode (cM 63) 51 = .ok (.iload_n 1, 1) := by decide +kernel
theorem d_63_52 : decode (cM 63) 52 = .ok (.iconst 4, 1) := by decide +kernel
theorem d_63_53 : decode (cM 63) 53 = .ok (.if_icmp .ne 7, 3) := by decide +kernel
theorem d_63_56 : decode (cM 63) 56 = .ok (.iconst 1, 1) := by decide +kernel
theorem d_63_57 : decode (cM 63) 57 = .ok (.goto 4, 3) := by decide +kernel
theorem d_63_60 : decode (cM 63) 60 = .ok (.iconst 0, 1) := by decide +kernel
theorem d_63_61 : decode (cM 63) 61 = .ok (.istore_n 2, 1) := by decide +kernel
theorem d_63_62 : decode (cM 63) 62 = .ok (.iload_n 1, 1) := by decide +kernel
theorem d_63_63 : decode (cM 63) 63 = .ok (.ifCond .eq 30, 3) := by decide +kernel
theorem d_63_66 : decode (cM 63) 66 = .ok (.aload_n 0, 1) := by decide +kernel
theorem d_63_67 : decode (cM 63) 67 = .ok (.getfield 57, 3) := by decide +kernel
theorem d_63_70 : decode (cM 63) 70 = .ok (.bipush 23, 2) := by decide +kernel
theorem d_63_72 : decode (cM 63) 72 = .ok (.if_icmp .eq 21, 3) := by decide +kernel
theorem d_63_75 : decode (cM 63) 75 = .ok (.iload_n 2, 1) := by decide +kernel
theorem d_63_76 : decode (cM 63) 76 = .ok (.ifCond .eq 23, 3) := by decide +kernel
theorem d_63_79 : decode (cM 63) 79 = .ok (.aload_n 0, 1) := by decide +kernel
theorem d_63_80 : decode (cM 63) 80 = .ok (.getfield 213, 3) := by decide +kernel
theorem d_63_83 : decode (cM 63) 83 = .ok (.aload_n 0, 1) := by decide +kernel
theorem d_63_84 : decode (cM 63) 84 = .ok (.getfield 210, 3) := by decide +kernel
theorem d_63_87 : decode (cM 63) 87 = .ok (.ishr, 1) := by decide +kernel
theorem d_63_88 : decode (cM 63) 88 = .ok (.iconst 1, 1) := by decide +kernel
theorem d_63_89 : decode (cM 63) 89 = .ok (.iand, 1) := by decide +kernel
theorem d_63_90 : decode (cM 63) 90 = .ok (.ifCond .eq 9, 3) := by decide +kernel
theorem d_63_93 : decode (cM 63) 93 = .ok (.aload_n 0, 1) := by decide +kernel
theorem d_63_94 : decode (cM 63) 94 = .ok (.iconst 1, 1) := by decide +kernel
theorem d_63_95 : decode (cM 63) 95 = .ok (.invokevirtual 106, 3) := by decide +kernel
theorem kc_63_95 : callT (oM 63) 106 = some (0, 40, 1) ∧ fok 63 40 = true ∧ stM 40 = false := by decide +kernel
theorem d_63_98 : decode (cM 63) 98 = .ok (.ireturn, 1) := by decide +kernel
theorem d_63_99 : decode (cM 63) 99 = .ok (.aload_n 0, 1) := by decide +kernel
theorem d_63_100 : decode (cM 63) 100 = .ok (.invokevirtual 236, 3) := by decide +kernel
theorem kc_63_100 : callT (oM 63) 236 = some (0, 65, 0) ∧ fok 63 65 = true ∧ stM 65 = false := by decide +kernel
theorem d_63_103 : decode (cM 63) 103 = .ok (.ifCond .ne 5, 3) := by decide +kernel
theorem d_63_106 : decode (cM 63) 106 = .ok (.iconst 0, 1) := by decide +kernel
theorem d_63_107 : decode (cM 63) 107 = .ok (.ireturn, 1) := by decide +kernel
theorem d_63_108 : decode (cM 63) 108 = .ok (.aload_n 0, 1) := by decide +kernel
theorem d_63_109 : decode (cM 63) 109 = .ok (.iload_n 1, 1) := by decide +kernel
theorem d_63_110 : decode (cM 63) 110 = .ok (.invokevirtual 223, 3) := by decide +kernel
theorem kc_63_110 : callT (oM 63) 223 = some (0, 68, 1) ∧ fok 63 68 = true ∧ stM 68 = false := by decide +kernel
theorem d_63_113 : decode (cM 63) 113 = .ok (.aload_n 0, 1) := by decide +kernel
theorem d_63_114 : decode (cM 63) 114 = .ok (.aload_n 0, 1) := by decide +kernel
theorem d_63_115 : decode (cM 63) 115 = .ok (.getfield 57, 3) := by decide +kernel
theorem d_63_118 : decode (cM 63) 118 = .ok (.bipush 22, 2) := by decide +kernel
theorem d_63_120 : decode (cM 63) 120 = .ok (.if_icmp .eq 12, 3) := by decide +kernel
theorem d_63_123 : decode (cM 63) 123 = .ok (.aload_n 0, 1) := by decide +kernel
theorem d_63_124 : decode (cM 63) 124 = .ok (.getfield 57, 3) := by decide +kernel
theorem d_63_127 : decode (cM 63) 127 = .ok (.bipush 21, 2) := by decide +kernel
theorem d_63_129 : decode (cM 63) 129 = .ok (.if_icmp .ne 7, 3) := by decide +kernel
theorem d_63_132 : decode (cM 63) 132 = .ok (.iconst 1, 1) := by decide +kernel
theorem d_63_133 : decode (cM 63) 133 = .ok (.goto 4, 3) := by decide +kernel
theorem d_63_136 : decode (cM 63) 136 = .ok (.iconst 0, 1) := by decide +kernel
theorem d_63_137 : decode (cM 63) 137 = .ok (.putfield 220, 3) := by decide +kernel
theorem d_63_140 : decode (cM 63) 140 = .ok (.aload_n 0, 1) := by decide +kernel
theorem d_63_141 : decode (cM 63) 141 = .ok (.getfield 220, 3) := by decide +kernel
theorem d_63_144 : decode (cM 63) 144 = .ok (.ifCond .eq 23, 3) := by decide +kernel
theorem d_63_147 : decode (cM 63) 147 = .ok (.aload_n 0, 1) := by decide +kernel
theorem d_63_148 : decode (cM 63) 148 = .ok (.dup, 1) := by decide +kernel
theorem d_63_149 : decode (cM 63) 149 = .ok (.getfield 213, 3) := by decide +kernel
theorem d_63_152 : decode (cM 63) 152 = .ok (.iconst 1, 1) := by decide +kernel
theorem d_63_153 : decode (cM 63) 153 = .ok (.aload_n 0, 1) := by decide +kernel
theorem d_63_154 : decode (cM 63) 154 = .ok (.getfield 210, 3) := by decide +kernel
theorem d_63_157 : decode (cM 63) 157 = .ok (.ishl, 1) := by decide +kernel
theorem d_63_158 : decode (cM 63) 158 = .ok (.iconst (-1), 1) := by decide +kernel
theorem d_63_159 : decode (cM 63) 159 = .ok (.ixor, 1) := by decide +kernel
theorem d_63_160 : decode (cM 63) 160 = .ok (.iand, 1) := by decide +kernel
theorem d_63_161 : decode (cM 63) 161 = .ok (.putfield 213, 3) := by decide +kernel
theorem d_63_164 : decode (cM 63) 164 = .ok (.goto 22, 3) := by decide +kernel
theorem d_63_167 : decode (cM 63) 167 = .ok (.iload_n 2, 1) := by decide +kernel
theorem d_63_168 : decode (cM 63) 168 = .ok (.ifCond .eq 18, 3) := by decide +kernel
theorem d_63_171 : decode (cM 63) 171 = .ok (.aload_n 0, 1) := by decide +kernel
theorem d_63_172 : decode (cM 63) 172 = .ok (.dup, 1) := by decide +kernel
theorem d_63_173 : decode (cM 63) 173 = .ok (.getfield 213, 3) := by decide +kernel
theorem d_63_176 : decode (cM 63) 176 = .ok (.iconst 1, 1) := by decide +kernel
theorem d_63_177 : decode (cM 63) 177 = .ok (.aload_n 0, 1) := by decide +kernel
theorem d_63_178 : decode (cM 63) 178 = .ok (.getfield 210, 3) := by decide +kernel
theorem d_63_181 : decode (cM 63) 181 = .ok (.ishl, 1) := by decide +kernel
theorem d_63_182 : decode (cM 63) 182 = .ok (.ior, 1) := by decide +kernel
theorem d_63_183 : decode (cM 63) 183 = .ok (.putfield 213, 3) := by decide +kernel
theorem d_63_186 : decode (cM 63) 186 = .ok (.aload_n 0, 1) := by decide +kernel
theorem d_63_187 : decode (cM 63) 187 = .ok (.iconst 1, 1) := by decide +kernel
theorem d_63_188 : decode (cM 63) 188 = .ok (.putfield 216, 3) := by decide +kernel
theorem d_63_191 : decode (cM 63) 191 = .ok (.aload_n 0, 1) := by decide +kernel
theorem d_63_192 : decode (cM 63) 192 = .ok (.aload_n 0, 1) := by decide +kernel
theorem d_63_193 : decode (cM 63) 193 = .ok (.getfield 57, 3) := by decide +kernel
theorem d_63_196 : decode (cM 63) 196 = .ok (.invokevirtual 239, 3) := by decide +kernel
theorem kc_63_196 : callT (oM 63) 239 = some (0, 66, 1) ∧ fok 63 66 = true ∧ stM 66 = false := by decide +kernel
theorem d_63_199 : decode (cM 63) 199 = .ok (.ireturn, 1) := by decide +kernel
theorem d_64_0 : decode (cM 64) 0 = .ok (.aload_n 0, 1) := by decide +kernel
theorem d_64_1 : decode (cM 64) 1 = .ok (.getfield 210, 3) := by decide +kernel
theorem d_64_4 : decode (cM 64) 4 = .ok (.bipush 8, 2) := by decide +kernel
theorem d_64_6 : decode (cM 64) 6 = .ok (.if_icmp .lt 9, 3) := by decide +kernel
theorem d_64_9 : decode (cM 64) 9 = .ok (.aload_n 0, 1) := by decide +kernel
theorem d_64_10 : decode (cM 64) 10 = .ok (.iconst 2, 1) := by decide +kernel
theorem d_64_11 : decode (cM 64) 11 = .ok (.invokevirtual 106, 3) := by decide +kernel
theorem kc_64_11 : callT (oM 64) 106 = some (0, 40, 1) ∧ fok 64 40 = true ∧ stM 40 = false := by decide +kernel
theorem d_64_14 : decode (cM 64) 14 = .ok (.ireturn, 1) := by decide +kernel
theorem d_64_15 : decode (cM 64) 15 = .ok (.aload_n 0, 1) := by decide +kernel
theorem d_64_16 : decode (cM 64) 16 = .ok (.dup, 1) := by decide +kernel
theorem d_64_17 : decode (cM 64) 17 = .ok (.getfield 210, 3) := by decide +kernel
theorem d_64_20 : decode (cM 64) 20 = .ok (.iconst 1, 1) := by decide +kernel
theorem d_64_21 : decode (cM 64) 21 = .ok (.iadd, 1) := by decide +kernel
theorem d_64_22 : decode (cM 64) 22 = .ok (.putfield 210, 3) := by decide +kernel
theorem d_64_25 : decode (cM 64) 25 = .ok (.aload_n 0, 1) := by decide +kernel
theorem d_64_26 : decode (cM 64) 26 = .ok (.dup, 1) := by decide +kernel
theorem d_64_27 : decode (cM 64) 27 = .ok (.getfield 213, 3) := by decide +kernel
theorem d_64_30 : decode (cM 64) 30 = .ok (.iconst 1, 1) := by decide +kernel
theorem d_64_31 : decode (cM 64) 31 = .ok (.aload_n 0, 1) := by decide +kernel
theorem d_64_32 : decode (cM 64) 32 = .ok (.getfield 210, 3) := by decide +kernel
theorem d_64_35 : decode (cM 64) 35 = .ok (.ishl, 1) := by decide +kernel
theorem d_64_36 : decode (cM 64) 36 = .ok (.iconst (-1), 1) := by decide +kernel
theorem d_64_37 : decode (cM 64) 37 = .ok (.ixor, 1) := by decide +kernel
theorem d_64_38 : decode (cM 64) 38 = .ok (.iand, 1) := by decide +kernel
theorem d_64_39 : decode (cM 64) 39 = .ok (.putfield 213, 3) := by decide +kernel
theorem d_64_42 : decode (cM 64) 42 = .ok (.aload_n 0, 1) := by decide +kernel
theorem d_64_43 : decode (cM 64) 43 = .ok (.iconst 1, 1) := by decide +kernel
theorem d_64_44 : decode (cM 64) 44 = .ok (.putfield 220, 3) := by decide +kernel
theorem d_64_47 : decode (cM 64) 47 = .ok (.aload_n 0, 1) := by decide +kernel
theorem d_64_48 : decode (cM 64) 48 = .ok (.bipush 38, 2) := by decide +kernel
theorem d_64_50 : decode (cM 64) 50 = .ok (.invokevirtual 239, 3) := by decide +kernel
theorem kc_64_50 : callT (oM 64) 239 = some (0, 66, 1) ∧ fok 64 66 = true ∧ stM 66 = false := by decide +kernel
theorem d_64_53 : decode (cM 64) 53 = .ok (.ireturn, 1) := by decide +kernel
theorem d_65_0 : decode (cM 65) 0 = .ok (.aload_n 0, 1) := by decide +kernel
theorem d_65_1 : decode (cM 65) 1 = .ok (.getfield 48, 3) := by decide +kernel
theorem d_65_4 : decode (cM 65) 4 = .ok (.bipush 64, 2) := by decide +kernel
theorem d_65_6 : decode (cM 65) 6 = .ok (.if_icmp .lt 9, 3) := by decide +kernel
theorem d_65_9 : decode (cM 65) 9 = .ok (.aload_n 0, 1) := by decide +kernel
theorem d_65_10 : decode (cM 65) 10 = .ok (.iconst 2, 1) := by decide +kernel
theorem d_65_11 : decode (cM 65) 11 = .ok (.invokevirtual 106, 3) := by decide +kernel
theorem kc_65_11 : callT (oM 65) 106 = some (0, 40, 1) ∧ fok 65 40 = true ∧ stM 40 = false := by decide +kernel
theorem d_65_14 : decode (cM 65) 14 = .ok (.ireturn, 1) := by decide +kernel
theorem d_65_15 : decode (cM 65) 15 = .ok (.aload_n 0, 1) := by decide +kernel
theorem d_65_16 : decode (cM 65) 16 = .ok (.dup, 1) := by decide +kernel
theorem d_65_17 : decode (cM 65) 17 = .ok (.getfield 48, 3) := by decide +kernel
theorem d_65_20 : decode (cM 65) 20 = .ok (.iconst 1, 1) := by decide +kernel
theorem d_65_21 : decode (cM 65) 21 = .ok (.iadd, 1) := by decide +kernel
theorem d_65_22 : decode (cM 65) 22 = .ok (.putfield 48, 3) := by decide +kernel
theorem d_65_25 : decode (cM 65) 25 = .ok (.iconst 1, 1) := by decide +kernel
theorem d_65_26 : decode (cM 65) 26 = .ok (.ireturn, 1) := by decide +kernel
theorem d_66_0 : decode (cM 66) 0 = .ok (.aload_n 0, 1) := by decide +kernel
theorem d_66_1 : decode (cM 66) 1 = .ok (.getfield 207, 3) := by decide +kernel
theorem d_66_4 : decode (cM 66) 4 = .ok (.ifCond .lt 15, 3) := by decide +kernel
theorem d_66_7 : decode (cM 66) 7 = .ok (.aload_n 0, 1) := by decide +kernel
theorem d_66_8 : decode (cM 66) 8 = .ok (.getfield 207, 3) := by decide +kernel
theorem d_66_11 : decode (cM 66) 11 = .ok (.aload_n 0, 1) := by decide +kernel
theorem d_66_12 : decode (cM 66) 12 = .ok (.getfield 22, 3) := by decide +kernel
theorem d_66_15 : decode (cM 66) 15 = .ok (.arraylength, 1) := by decide +kernel
theorem d_66_16 : decode (cM 66) 16 = .ok (.if_icmp .lt 9, 3) := by decide +kernel
theorem d_66_19 : decode (cM 66) 19 = .ok (.aload_n 0, 1) := by decide +kernel
theorem d_66_20 : decode (cM 66) 20 = .ok (.iconst 2, 1) := by decide +kernel
theorem d_66_21 : decode (cM 66) 21 = .ok (.invokevirtual 106, 3) := by decide +kernel
theorem kc_66_21 : callT (oM 66) 106 = some (0, 40, 1) ∧ fok 66 40 = true ∧ stM 40 = false := by decide +kernel
theorem d_66_24 : decode (cM 66) 24 = .ok (.ireturn, 1) := by decide +kernel
theorem d_66_25 : decode (cM 66) 25 = .ok (.aload_n 0, 1) := by decide +kernel
theorem d_66_26 : decode (cM 66) 26 = .ok (.getfield 22, 3) := by decide +kernel
theorem d_66_29 : decode (cM 66) 29 = .ok (.aload_n 0, 1) := by decide +kernel
theorem d_66_30 : decode (cM 66) 30 = .ok (.getfield 207, 3) := by decide +kernel
theorem d_66_33 : decode (cM 66) 33 = .ok (.iload_n 1, 1) := by decide +kernel
theorem d_66_34 : decode (cM 66) 34 = .ok (.iastore, 1) := by decide +kernel
theorem d_66_35 : decode (cM 66) 35 = .ok (.aload_n 0, 1) := by decide +kernel
theorem d_66_36 : decode (cM 66) 36 = .ok (.dup, 1) := by decide +kernel
theorem d_66_37 : decode (cM 66) 37 = .ok (.getfield 207, 3) := by decide +kernel
theorem d_66_40 : decode (cM 66) 40 = .ok (.iconst 1, 1) := by decide +kernel
theorem d_66_41 : decode (cM 66) 41 = .ok (.iadd, 1) := by decide +kernel
theorem d_66_42 : decode (cM 66) 42 = .ok (.putfield 207, 3) := by decide +kernel
theorem d_66_45 : decode (cM 66) 45 = .ok (.iconst 1, 1) := by decide +kernel
theorem d_66_46 : decode (cM 66) 46 = .ok (.ireturn, 1) := by decide +kernel
theorem d_67_0 : decode (cM 67) 0 = .ok (.aload_n 0, 1) := by decide +kernel
theorem d_67_1 : decode (cM 67) 1 = .ok (.getfield 18, 3) := by decide +kernel
theorem d_67_4 : decode (cM 67) 4 = .ok (.getfield 198, 3) := by decide +kernel
theorem d_67_7 : decode (cM 67) 7 = .ok (.ifCond .lt 15, 3) := by decide +kernel
theorem d_67_10 : decode (cM 67) 10 = .ok (.aload_n 0, 1) := by decide +kernel
theorem d_67_11 : decode (cM 67) 11 = .ok (.getfield 18, 3) := by decide +kernel
theorem d_67_14 : decode (cM 67) 14 = .ok (.getfield 198, 3) := by decide +kernel
theorem d_67_17 : decode (cM 67) 17 = .ok (.bipush 64, 2) := by decide +kernel
theorem d_67_19 : decode (cM 67) 19 = .ok (.if_icmp .lt 9, 3) := by decide +kernel
theorem d_67_22 : decode (cM 67) 22 = .ok (.aload_n 0, 1) := by decide +kernel
theorem d_67_23 : decode (cM 67) 23 = .ok (.iconst 2, 1) := by decide +kernel
theorem d_67_24 : decode (cM 67) 24 = .ok (.invokevirtual 106, 3) := by decide +kernel
theorem kc_67_24 : callT (oM 67) 106 = some (0, 40, 1) ∧ fok 67 40 = true ∧ stM 40 = false := by decide +kernel
theorem d_67_27 : decode (cM 67) 27 = .ok (.ireturn, 1) := by decide +kernel
theorem d_67_28 : decode (cM 67) 28 = .ok (.aload_n 0, 1) := by decide +kernel
theorem d_67_29 : decode (cM 67) 29 = .ok (.getfield 18, 3) := by decide +kernel
theorem d_67_32 : decode (cM 67) 32 = .ok (.getfield 248, 3) := by decide +kernel
theorem d_67_35 : decode (cM 67) 35 = .ok (.aload_n 0, 1) := by decide +kernel
theorem d_67_36 : decode (cM 67) 36 = .ok (.getfield 18, 3) := by decide +kernel
theorem d_67_39 : decode (cM 67) 39 = .ok (.getfield 198, 3) := by decide +kernel
theorem d_67_42 : decode (cM 67) 42 = .ok (.iload_n 1, 1) := by decide +kernel
theorem d_67_43 : decode (cM 67) 43 = .ok (.iastore, 1) := by decide +kernel
theorem d_67_44 : decode (cM 67) 44 = .ok (.aload_n 0, 1) := by decide +kernel
theorem d_67_45 : decode (cM 67) 45 = .ok (.getfield 18, 3) := by decide +kernel
theorem d_67_48 : decode (cM 67) 48 = .ok (.dup, 1) := by decide +kernel
theorem d_67_49 : decode (cM 67) 49 = .ok (.getfield 198, 3) := by decide +kernel
theorem d_67_52 : decode (cM 67) 52 = .ok (.iconst 1, 1) := by decide +kernel
theorem d_67_53 : decode (cM 67) 53 = .ok (.iadd, 1) := by decide +kernel
theorem d_67_54 : decode (cM 67) 54 = .ok (.putfield 198, 3) := by decide +kernel
theorem d_67_57 : decode (cM 67) 57 = .ok (.iconst 1, 1) := by decide +kernel
theorem d_67_58 : decode (cM 67) 58 = .ok (.ireturn, 1) := by decide +kernel
theorem d_68_0 : decode (cM 68) 0 = .ok (.aload_n 0, 1) := by decide +kernel
theorem d_68_1 : decode (cM 68) 1 = .ok (.getfield 207, 3) := by decide +kernel
theorem d_68_4 : decode (cM 68) 4 = .ok (.ifCond .le 68, 3) := by decide +kernel
theorem d_68_7 : decode (cM 68) 7 = .ok (.aload_n 0, 1) := by decide +kernel
theorem d_68_8 : decode (cM 68) 8 = .ok (.getfield 22, 3) := by decide +kernel
theorem d_68_11 : decode (cM 68) 11 = .ok (.aload_n 0, 1) := by decide +kernel
theorem d_68_12 : decode (cM 68) 12 = .ok (.getfield 207, 3) := by decide +kernel
theorem d_68_15 : decode (cM 68) 15 = .ok (.iconst 1, 1) := by decide +kernel
theorem d_68_16 : decode (cM 68) 16 = .ok (.isub, 1) := by decide +kernel
theorem d_68_17 : decode (cM 68) 17 = .ok (.iaload, 1) := by decide +kernel
theorem d_68_18 : decode (cM 68) 18 = .ok (.bipush 38, 2) := by decide +kernel
theorem d_68_20 : decode (cM 68) 20 = .ok (.if_icmp .eq 52, 3) := by decide +kernel
theorem d_68_23 : decode (cM 68) 23 = .ok (.aload_n 0, 1) := by decide +kernel
theorem d_68_24 : decode (cM 68) 24 = .ok (.getfield 22, 3) := by decide +kernel
theorem d_68_27 : decode (cM 68) 27 = .ok (.aload_n 0, 1) := by decide +kernel
theorem d_68_28 : decode (cM 68) 28 = .ok (.getfield 207, 3) := by decide +kernel
theorem d_68_31 : decode (cM 68) 31 = .ok (.iconst 1, 1) := by decide +kernel
theorem d_68_32 : decode (cM 68) 32 = .ok (.isub, 1) := by decide +kernel
theorem d_68_33 : decode (cM 68) 33 = .ok (.iaload, 1) := by decide +kernel
theorem d_68_34 : decode (cM 68) 34 = .ok (.invokestatic 245, 3) := by decide +kernel
theorem kc_68_34 : callT (oM 68) 245 = some (1, 69, 1) ∧ fok 68 69 = true ∧ stM 69 = true := by decide +kernel
theorem d_68_37 : decode (cM 68) 37 = .ok (.iload_n 1, 1) := by decide +kernel
theorem d_68_38 : decode (cM 68) 38 = .ok (.if_icmp .lt 34, 3) := by decide +kernel
theorem d_68_41 : decode (cM 68) 41 = .ok (.aload_n 0, 1) := by decide +kernel
theorem d_68_42 : decode (cM 68) 42 = .ok (.dup, 1) := by decide +kernel
theorem d_68_43 : decode (cM 68) 43 = .ok (.getfield 207, 3) := by decide +kernel
theorem d_68_46 : decode (cM 68) 46 = .ok (.iconst 1, 1) := by decide +kernel
theorem d_68_47 : decode (cM 68) 47 = .ok (.isub, 1) := by decide +kernel
theorem d_68_48 : decode (cM 68) 48 = .ok (.putfield 207, 3) := by decide +kernel
theorem d_68_51 : decode (cM 68) 51 = .ok (.aload_n 0, 1) := by decide +kernel
theorem d_68_52 : decode (cM 68) 52 = .ok (.sipush 10000, 3) := by decide +kernel
theorem d_68_55 : decode (cM 68) 55 = .ok (.aload_n 0, 1) := by decide +kernel
theorem d_68_56 : decode (cM 68) 56 = .ok (.getfield 22, 3) := by decide +kernel
theorem d_68_59 : decode (cM 68) 59 = .ok (.aload_n 0, 1) := by decide +kernel
theorem d_68_60 : decode (cM 68) 60 = .ok (.getfield 207, 3) := by decide +kernel
theorem d_68_63 : decode (cM 68) 63 = .ok (.iaload, 1) := by decide +kernel
theorem d_68_64 : decode (cM 68) 64 = .ok (.iadd, 1) := by decide +kernel
theorem d_68_65 : decode (cM 68) 65 = .ok (.invokevirtual 242, 3) := by decide +kernel
theorem kc_68_65 : callT (oM 68) 242 = some (0, 67, 1) ∧ fok 68 67 = true ∧ stM 67 = false := by decide +kernel
theorem d_68_68 : decode (cM 68) 68 = .ok (.pop, 1) := by decide +kernel
theorem d_68_69 : decode (cM 68) 69 = .ok (.goto (-69), 3) := by decide +kernel
theorem d_68_72 : decode (cM 68) 72 = .ok (.return_, 1) := by decide +kernel
theorem d_69_0 : decode (cM 69) 0 = .ok (.iload_n 0, 1) := by decide +kernel
theorem d_69_1 : decode (cM 69) 1 = .ok (.tableswitch 120 21 43 #[107, 109, 111, 120, 120, 120, 120, 120, 120, 120, 115, 115, 117, 117, 113, 113, 113, 120, 120, 120, 113, 113, 113], 107) := by decide +kernel
theorem d_69_108 : decode (cM 69) 108 = .ok (.iconst 1, 1) := by decide +kernel
theorem d_69_109 : decode (cM 69) 109 = .ok (.ireturn, 1) := by decide +kernel
theorem d_69_110 : decode (cM 69) 110 = .ok (.iconst 2, 1) := by decide +kernel
theorem d_69_111 : decode (cM 69) 111 = .ok (.ireturn, 1) := by decide +kernel
theorem d_69_112 : decode (cM 69) 112 = .ok (.iconst 3, 1) := by decide +kernel
theorem d_69_113 : decode (cM 69) 113 = .ok (.ireturn, 1) := by decide +kernel
theorem d_69_114 : decode (cM 69) 114 = .ok (.iconst 4, 1) := by decide +kernel
theorem d_69_115 : decode (cM 69) 115 = .ok (.ireturn, 1) := by decide +kernel
theorem d_69_116 : decode (cM 69) 116 = .ok (.iconst 5, 1) := by decide +kernel
theorem d_69_117 : decode (cM 69) 117 = .ok (.ireturn, 1) := by decide +kernel
theorem d_69_118 : decode (cM 69) 118 = .ok (.bipush 6, 2) := by decide +kernel
theorem d_69_120 : decode (cM 69) 120 = .ok (.ireturn, 1) := by decide +kernel
theorem d_69_121 : decode (cM 69) 121 = .ok (.iconst 0, 1) := by decide +kernel
theorem d_69_122 : decode (cM 69) 122 = .ok (.ireturn, 1) := by decide +kernel
theorem d_70_0 : decode (cM 70) 0 = .ok (.aload_n 0, 1) := by decide +kernel
theorem d_70_1 : decode (cM 70) 1 = .ok (.invokespecial 3, 3) := by decide +kernel
theorem d_70_4 : decode (cM 70) 4 = .ok (.aload_n 0, 1) := by decide +kernel
theorem d_70_5 : decode (cM 70) 5 = .ok (.sipush 1024, 3) := by decide +kernel
theorem d_70_8 : decode (cM 70) 8 = .ok (.newarray .int, 2) := by decide +kernel
theorem d_70_10 : decode (cM 70) 10 = .ok (.putfield 9, 3) := by decide +kernel
theorem d_70_13 : decode (cM 70) 13 = .ok (.aload_n 0, 1) := by decide +kernel
theorem d_70_14 : decode (cM 70) 14 = .ok (.sipush 1024, 3) := by decide +kernel
theorem d_70_17 : decode (cM 70) 17 = .ok (.newarray .int, 2) := by decide +kernel
theorem d_70_19 : decode (cM 70) 19 = .ok (.putfield 15, 3) := by decide +kernel
theorem d_70_22 : decode (cM 70) 22 = .ok (.aload_n 0, 1) := by decide +kernel
theorem d_70_23 : decode (cM 70) 23 = .ok (.iconst 1, 1) := by decide +kernel
theorem d_70_24 : decode (cM 70) 24 = .ok (.putfield 18, 3) := by decide +kernel
theorem d_70_27 : decode (cM 70) 27 = .ok (.return_, 1) := by decide +kernel
theorem d_71_0 : decode (cM 71) 0 = .ok (.aload_n 0, 1) := by decide +kernel
theorem d_71_1 : decode (cM 71) 1 = .ok (.iload_n 3, 1) := by decide +kernel
theorem d_71_2 : decode (cM 71) 2 = .ok (.putfield 22, 3) := by decide +kernel
theorem d_71_5 : decode (cM 71) 5 = .ok (.aload_n 0, 1) := by decide +kernel
theorem d_71_6 : decode (cM 71) 6 = .ok (.iconst 1, 1) := by decide +kernel
theorem d_71_7 : decode (cM 71) 7 = .ok (.putfield 18, 3) := by decide +kernel
theorem d_71_10 : decode (cM 71) 10 = .ok (.aload_n 0, 1) := by decide +kernel
theorem d_71_11 : decode (cM 71) 11 = .ok (.getfield 9, 3) := by decide +kernel
theorem d_71_14 : decode (cM 71) 14 = .ok (.iconst 0, 1) := by decide +kernel
theorem d_71_15 : decode (cM 71) 15 = .ok (.iconst 0, 1) := by decide +kernel
theorem d_71_16 : decode (cM 71) 16 = .ok (.iastore, 1) := by decide +kernel
theorem d_71_17 : decode (cM 71) 17 = .ok (.iconst 0, 1) := by decide +kernel
theorem d_71_18 : decode (cM 71) 18 = .ok (.istore 4, 2) := by decide +kernel
theorem d_71_20 : decode (cM 71) 20 = .ok (.iload 4, 2) := by decide +kernel
theorem d_71_22 : decode (cM 71) 22 = .ok (.iload_n 2, 1) := by decide +kernel
theorem d_71_23 : decode (cM 71) 23 = .ok (.if_icmp .ge 66, 3) := by decide +kernel
theorem d_71_26 : decode (cM 71) 26 = .ok (.iload 4, 2) := by decide +kernel
theorem d_71_28 : decode (cM 71) 28 = .ok (.bipush 10, 2) := by decide +kernel
theorem d_71_30 : decode (cM 71) 30 = .ok (.if_icmp .ge 59, 3) := by decide +kernel
theorem d_71_33 : decode (cM 71) 33 = .ok (.iconst 0, 1) := by decide +kernel
theorem d_71_34 : decode (cM 71) 34 = .ok (.istore 5, 2) := by decide +kernel
theorem d_71_36 : decode (cM 71) 36 = .ok (.iload 5, 2) := by decide +kernel
theorem d_71_38 : decode (cM 71) 38 = .ok (.iconst 1, 1) := by decide +kernel
theorem d_71_39 : decode (cM 71) 39 = .ok (.iload 4, 2) := by decide +kernel
theorem d_71_41 : decode (cM 71) 41 = .ok (.ishl, 1) := by decide +kernel
theorem d_71_42 : decode (cM 71) 42 = .ok (.if_icmp .ge 33, 3) := by decide +kernel
theorem d_71_45 : decode (cM 71) 45 = .ok (.aload_n 0, 1) := by decide +kernel
theorem d_71_46 : decode (cM 71) 46 = .ok (.getfield 9, 3) := by decide +kernel
theorem d_71_49 : decode (cM 71) 49 = .ok (.iload 5, 2) := by decide +kernel
theorem d_71_51 : decode (cM 71) 51 = .ok (.iconst 1, 1) := by decide +kernel
theorem d_71_52 : decode (cM 71) 52 = .ok (.iload 4, 2) := by decide +kernel
theorem d_71_54 : decode (cM 71) 54 = .ok (.ishl, 1) := by decide +kernel
theorem d_71_55 : decode (cM 71) 55 = .ok (.ior, 1) := by decide +kernel
theorem d_71_56 : decode (cM 71) 56 = .ok (.aload_n 0, 1) := by decide +kernel
theorem d_71_57 : decode (cM 71) 57 = .ok (.getfield 9, 3) := by decide +kernel
theorem d_71_60 : decode (cM 71) 60 = .ok (.iload 5, 2) := by decide +kernel
theorem d_71_62 : decode (cM 71) 62 = .ok (.iaload, 1) := by decide +kernel
theorem d_71_63 : decode (cM 71) 63 = .ok (.aload_n 1, 1) := by decide +kernel
theorem d_71_64 : decode (cM 71) 64 = .ok (.iload 4, 2) := by decide +kernel
theorem d_71_66 : decode (cM 71) 66 = .ok (.iaload, 1) := by decide +kernel
theorem d_71_67 : decode (cM 71) 67 = .ok (.ixor, 1) := by decide +kernel
theorem d_71_68 : decode (cM 71) 68 = .ok (.iastore, 1) := by decide +kernel
theorem d_71_69 : decode (cM 71) 69 = .ok (.iinc 5 1, 3) := by decide +kernel
theorem d_71_72 : decode (cM 71) 72 = .ok (.goto (-36), 3) := by decide +kernel
theorem d_71_75 : decode (cM 71) 75 = .ok (.aload_n 0, 1) := by decide +kernel
theorem d_71_76 : decode (cM 71) 76 = .ok (.iconst 2, 1) := by decide +kernel
theorem d_71_77 : decode (cM 71) 77 = .ok (.iload 4, 2) := by decide +kernel
theorem d_71_79 : decode (cM 71) 79 = .ok (.ishl, 1) := by decide +kernel
theorem d_71_80 : decode (cM 71) 80 = .ok (.putfield 18, 3) := by decide +kernel
theorem d_71_83 : decode (cM 71) 83 = .ok (.iinc 4 1, 3) := by decide +kernel
theorem d_71_86 : decode (cM 71) 86 = .ok (.goto (-66), 3) := by decide +kernel
theorem d_71_89 : decode (cM 71) 89 = .ok (.return_, 1) := by decide +kernel
theorem d_72_0 : decode (cM 72) 0 = .ok (.iload_n 1, 1) := by decide +kernel
theorem d_72_1 : decode (cM 72) 1 = .ok (.ifCond .lt 11, 3) := by decide +kernel
theorem d_72_4 : decode (cM 72) 4 = .ok (.iload_n 1, 1) := by decide +kernel
theorem d_72_5 : decode (cM 72) 5 = .ok (.aload_n 0, 1) := by decide +kernel
theorem d_72_6 : decode (cM 72) 6 = .ok (.getfield 18, 3) := by decide +kernel
theorem d_72_9 : decode (cM 72) 9 = .ok (.if_icmp .lt 7, 3) := by decide +kernel
theorem d_72_12 : decode (cM 72) 12 = .ok (.iconst 0, 1) := by decide +kernel
theorem d_72_13 : decode (cM 72) 13 = .ok (.goto 9, 3) := by decide +kernel
theorem d_72_16 : decode (cM 72) 16 = .ok (.aload_n 0, 1) := by decide +kernel
theorem d_72_17 : decode (cM 72) 17 = .ok (.getfield 9, 3) := by decide +kernel
theorem d_72_20 : decode (cM 72) 20 = .ok (.iload_n 1, 1) := by decide +kernel
theorem d_72_21 : decode (cM 72) 21 = .ok (.iaload, 1) := by decide +kernel
theorem d_72_22 : decode (cM 72) 22 = .ok (.ireturn, 1) := by decide +kernel
theorem d_73_0 : decode (cM 73) 0 = .ok (.iload_n 1, 1) := by decide +kernel
theorem d_73_1 : decode (cM 73) 1 = .ok (.aload_n 0, 1) := by decide +kernel
theorem d_73_2 : decode (cM 73) 2 = .ok (.getfield 22, 3) := by decide +kernel
theorem d_73_5 : decode (cM 73) 5 = .ok (.iconst (-1), 1) := by decide +kernel
theorem d_73_6 : decode (cM 73) 6 = .ok (.ixor, 1) := by decide +kernel
theorem d_73_7 : decode (cM 73) 7 = .ok (.iand, 1) := by decide +kernel
theorem d_73_8 : decode (cM 73) 8 = .ok (.ifCond .ne 17, 3) := by decide +kernel
theorem d_73_11 : decode (cM 73) 11 = .ok (.aload_n 0, 1) := by decide +kernel
theorem d_73_12 : decode (cM 73) 12 = .ok (.getfield 9, 3) := by decide +kernel
theorem d_73_15 : decode (cM 73) 15 = .ok (.iload_n 1, 1) := by decide +kernel
theorem d_73_16 : decode (cM 73) 16 = .ok (.iaload, 1) := by decide +kernel
theorem d_73_17 : decode (cM 73) 17 = .ok (.iload_n 2, 1) := by decide +kernel
theorem d_73_18 : decode (cM 73) 18 = .ok (.if_icmp .ne 7, 3) := by decide +kernel
theorem d_73_21 : decode (cM 73) 21 = .ok (.iconst 1, 1) := by decide +kernel
theorem d_73_22 : decode (cM 73) 22 = .ok (.goto 4, 3) := by decide +kernel
theorem d_73_25 : decode (cM 73) 25 = .ok (.iconst 0, 1) := by decide +kernel
theorem d_73_26 : decode (cM 73) 26 = .ok (.ireturn, 1) := by decide +kernel
theorem d_74_0 : decode (cM 74) 0 = .ok (.iconst 0, 1) := by decide +kernel
theorem d_74_1 : decode (cM 74) 1 = .ok (.istore_n 2, 1) := by decide +kernel
theorem d_74_2 : decode (cM 74) 2 = .ok (.iconst 0, 1) := by decide +kernel
theorem d_74_3 : decode (cM 74) 3 = .ok (.istore_n 3, 1) := by decide +kernel
theorem d_74_4 : decode (cM 74) 4 = .ok (.iload_n 3, 1) := by decide +kernel
theorem d_74_5 : decode (cM 74) 5 = .ok (.aload_n 0, 1) := by decide +kernel
theorem d_74_6 : decode (cM 74) 6 = .ok (.getfield 18, 3) := by decide +kernel
theorem d_74_9 : decode (cM 74) 9 = .ok (.if_icmp .ge 21, 3) := by decide +kernel
theorem d_74_12 : decode (cM 74) 12 = .ok (.aload_n 0, 1) := by decide +kernel
theorem d_74_13 : decode (cM 74) 13 = .ok (.iload_n 3, 1) := by decide +kernel
theorem d_74_14 : decode (cM 74) 14 = .ok (.iload_n 1, 1) := by decide +kernel
theorem d_74_15 : decode (cM 74) 15 = .ok (.invokevirtual 25, 3) := by decide +kernel
theorem kc_74_15 : callT (oM 74) 25 = some (0, 73, 2) ∧ fok 74 73 = true ∧ stM 73 = false := by decide +kernel
theorem d_74_18 : decode (cM 74) 18 = .ok (.ifCond .eq 6, 3) := by decide +kernel
theorem d_74_21 : decode (cM 74) 21 = .ok (.iinc 2 1, 3) := by decide +kernel
theorem d_74_24 : decode (cM 74) 24 = .ok (.iinc 3 1, 3) := by decide +kernel
theorem d_74_27 : decode (cM 74) 27 = .ok (.goto (-23), 3) := by decide +kernel
theorem d_74_30 : decode (cM 74) 30 = .ok (.iload_n 2, 1) := by decide +kernel
theorem d_74_31 : decode (cM 74) 31 = .ok (.ireturn, 1) := by decide +kernel
theorem d_75_0 : decode (cM 75) 0 = .ok (.bipush (-2), 2) := by decide +kernel
theorem d_75_2 : decode (cM 75) 2 = .ok (.istore_n 2, 1) := by decide +kernel
theorem d_75_3 : decode (cM 75) 3 = .ok (.iconst 0, 1) := by decide +kernel
theorem d_75_4 : decode (cM 75) 4 = .ok (.istore_n 3, 1) := by decide +kernel
theorem d_75_5 : decode (cM 75) 5 = .ok (.iload_n 3, 1) := by decide +kernel
theorem d_75_6 : decode (cM 75) 6 = .ok (.aload_n 0, 1) := by decide +kernel
theorem d_75_7 : decode (cM 75) 7 = .ok (.getfield 18, 3) := by decide +kernel
theorem d_75_10 : decode (cM 75) 10 = .ok (.if_icmp .ge 35, 3) := by decide +kernel
theorem d_75_13 : decode (cM 75) 13 = .ok (.aload_n 0, 1) := by decide +kernel
theorem d_75_14 : decode (cM 75) 14 = .ok (.iload_n 3, 1) := by decide +kernel
theorem d_75_15 : decode (cM 75) 15 = .ok (.iload_n 1, 1) := by decide +kernel
theorem d_75_16 : decode (cM 75) 16 = .ok (.invokevirtual 25, 3) := by decide +kernel
theorem kc_75_16 : callT (oM 75) 25 = some (0, 73, 2) ∧ fok 75 73 = true ∧ stM 73 = false := by decide +kernel
theorem d_75_19 : decode (cM 75) 19 = .ok (.ifCond .eq 20, 3) := by decide +kernel
theorem d_75_22 : decode (cM 75) 22 = .ok (.iload_n 2, 1) := by decide +kernel
theorem d_75_23 : decode (cM 75) 23 = .ok (.ifCond .lt 14, 3) := by decide +kernel
theorem d_75_26 : decode (cM 75) 26 = .ok (.iload_n 3, 1) := by decide +kernel
theorem d_75_27 : decode (cM 75) 27 = .ok (.invokestatic 29, 3) := by decide +kernel
theorem kc_75_27 : callT (oM 75) 29 = some (1, 276, 1) ∧ fok 75 276 = true ∧ stM 276 = true := by decide +kernel
theorem d_75_30 : decode (cM 75) 30 = .ok (.iload_n 2, 1) := by decide +kernel
theorem d_75_31 : decode (cM 75) 31 = .ok (.invokestatic 29, 3) := by decide +kernel
theorem kc_75_31 : callT (oM 75) 29 = some (1, 276, 1) ∧ fok 75 276 = true ∧ stM 276 = true := by decide +kernel
theorem d_75_34 : decode (cM 75) 34 = .ok (.if_icmp .ge 5, 3) := by decide +kernel
theorem d_75_37 : decode (cM 75) 37 = .ok (.iload_n 3, 1) := by decide +kernel
theorem d_75_38 : decode (cM 75) 38 = .ok (.istore_n 2, 1) := by decide +kernel
theorem d_75_39 : decode (cM 75) 39 = .ok (.iinc 3 1, 3) := by decide +kernel
theorem d_75_42 : decode (cM 75) 42 = .ok (.goto (-37), 3) := by decide +kernel
theorem d_75_45 : decode (cM 75) 45 = .ok (.iload_n 2, 1) := by decide +kernel
theorem d_75_46 : decode (cM 75) 46 = .ok (.ireturn, 1) := by decide +kernel
theorem d_76_0 : decode (cM 76) 0 = .ok (.iconst 0, 1) := by decide +kernel
theorem d_76_1 : decode (cM 76) 1 = .ok (.istore_n 1, 1) := by decide +kernel
theorem d_76_2 : decode (cM 76) 2 = .ok (.iconst 1, 1) := by decide +kernel
theorem d_76_3 : decode (cM 76) 3 = .ok (.istore_n 2, 1) := by decide +kernel
theorem d_76_4 : decode (cM 76) 4 = .ok (.iload_n 2, 1) := by decide +kernel
theorem d_76_5 : decode (cM 76) 5 = .ok (.aload_n 0, 1) := by decide +kernel
theorem d_76_6 : decode (cM 76) 6 = .ok (.getfield 18, 3) := by decide +kernel
theorem d_76_9 : decode (cM 76) 9 = .ok (.if_icmp .ge 35, 3) := by decide +kernel
theorem d_76_12 : decode (cM 76) 12 = .ok (.aload_n 0, 1) := by decide +kernel
theorem d_76_13 : decode (cM 76) 13 = .ok (.iload_n 2, 1) := by decide +kernel
theorem d_76_14 : decode (cM 76) 14 = .ok (.iconst 0, 1) := by decide +kernel
theorem d_76_15 : decode (cM 76) 15 = .ok (.invokevirtual 25, 3) := by decide +kernel
theorem kc_76_15 : callT (oM 76) 25 = some (0, 73, 2) ∧ fok 76 73 = true ∧ stM 73 = false := by decide +kernel
theorem d_76_18 : decode (cM 76) 18 = .ok (.ifCond .eq 20, 3) := by decide +kernel
theorem d_76_21 : decode (cM 76) 21 = .ok (.iload_n 1, 1) := by decide +kernel
theorem d_76_22 : decode (cM 76) 22 = .ok (.ifCond .eq 14, 3) := by decide +kernel
theorem d_76_25 : decode (cM 76) 25 = .ok (.iload_n 2, 1) := by decide +kernel
theorem d_76_26 : decode (cM 76) 26 = .ok (.invokestatic 29, 3) := by decide +kernel
theorem kc_76_26 : callT (oM 76) 29 = some (1, 276, 1) ∧ fok 76 276 = true ∧ stM 276 = true := by decide +kernel
theorem d_76_29 : decode (cM 76) 29 = .ok (.iload_n 1, 1) := by decide +kernel
theorem d_76_30 : decode (cM 76) 30 = .ok (.invokestatic 29, 3) := by decide +kernel
theorem kc_76_30 : callT (oM 76) 29 = some (1, 276, 1) ∧ fok 76 276 = true ∧ stM 276 = true := by decide +kernel
theorem d_76_33 : decode (cM 76) 33 = .ok (.if_icmp .ge 5, 3) := by decide +kernel
theorem d_76_36 : decode (cM 76) 36 = .ok (.iload_n 2, 1) := by decide +kernel
theorem d_76_37 : decode (cM 76) 37 = .ok (.istore_n 1, 1) := by decide +kernel
theorem d_76_38 : decode (cM 76) 38 = .ok (.iinc 2 1, 3) := by decide +kernel
theorem d_76_41 : decode (cM 76) 41 = .ok (.goto (-37), 3) := by decide +kernel
theorem d_76_44 : decode (cM 76) 44 = .ok (.iload_n 1, 1) := by decide +kernel
theorem d_76_45 : decode (cM 76) 45 = .ok (.ireturn, 1) := by decide +kernel
theorem d_77_0 : decode (cM 77) 0 = .ok (.bipush (-2), 2) := by decide +kernel
theorem d_77_2 : decode (cM 77) 2 = .ok (.istore_n 3, 1) := by decide +kernel
theorem d_77_3 : decode (cM 77) 3 = .ok (.iconst 0, 1) := by decide +kernel
theorem d_77_4 : decode (cM 77) 4 = .ok (.istore 4, 2) := by decide +kernel
theorem d_77_6 : decode (cM 77) 6 = .ok (.iconst 0, 1) := by decide +kernel
theorem d_77_7 : decode (cM 77) 7 = .ok (.istore 5, 2) := by decide +kernel
theorem d_77_9 : decode (cM 77) 9 = .ok (.iload 5, 2) := by decide +kernel
theorem d_77_11 : decode (cM 77) 11 = .ok (.aload_n 0, 1) := by decide +kernel
theorem d_77_12 : decode (cM 77) 12 = .ok (.getfield 18, 3) := by decide +kernel
theorem d_77_15 : decode (cM 77) 15 = .ok (.if_icmp .ge 45, 3) := by decide +kernel
theorem d_77_18 : decode (cM 77) 18 = .ok (.aload_n 0, 1) := by decide +kernel
theorem d_77_19 : decode (cM 77) 19 = .ok (.iload 5, 2) := by decide +kernel
theorem d_77_21 : decode (cM 77) 21 = .ok (.iload_n 1, 1) := by decide +kernel
theorem d_77_22 : decode (cM 77) 22 = .ok (.invokevirtual 25, 3) := by decide +kernel
theorem kc_77_22 : callT (oM 77) 25 = some (0, 73, 2) ∧ fok 77 73 = true ∧ stM 73 = false := by decide +kernel
theorem d_77_25 : decode (cM 77) 25 = .ok (.ifCond .eq 29, 3) := by decide +kernel
theorem d_77_28 : decode (cM 77) 28 = .ok (.aload_n 2, 1) := by decide +kernel
theorem d_77_29 : decode (cM 77) 29 = .ok (.iload 5, 2) := by decide +kernel
theorem d_77_31 : decode (cM 77) 31 = .ok (.invokevirtual 35, 3) := by decide +kernel
theorem kc_77_31 : callT (oM 77) 35 = some (0, 95, 1) ∧ fok 77 95 = true ∧ stM 95 = false := by decide +kernel
theorem d_77_34 : decode (cM 77) 34 = .ok (.istore 6, 2) := by decide +kernel
theorem d_77_36 : decode (cM 77) 36 = .ok (.iload_n 3, 1) := by decide +kernel
theorem d_77_37 : decode (cM 77) 37 = .ok (.ifCond .lt 10, 3) := by decide +kernel
theorem d_77_40 : decode (cM 77) 40 = .ok (.iload 6, 2) := by decide +kernel
theorem d_77_42 : decode (cM 77) 42 = .ok (.iload 4, 2) := by decide +kernel
theorem d_77_44 : decode (cM 77) 44 = .ok (.if_icmp .ge 10, 3) := by decide +kernel
theorem d_77_47 : decode (cM 77) 47 = .ok (.iload 5, 2) := by decide +kernel
theorem d_77_49 : decode (cM 77) 49 = .ok (.istore_n 3, 1) := by decide +kernel
theorem d_77_50 : decode (cM 77) 50 = .ok (.iload 6, 2) := by decide +kernel
theorem d_77_52 : decode (cM 77) 52 = .ok (.istore 4, 2) := by decide +kernel
theorem d_77_54 : decode (cM 77) 54 = .ok (.iinc 5 1, 3) := by decide +kernel
theorem d_77_57 : decode (cM 77) 57 = .ok (.goto (-48), 3) := by decide +kernel
theorem d_77_60 : decode (cM 77) 60 = .ok (.iload_n 3, 1) := by decide +kernel
theorem d_77_61 : decode (cM 77) 61 = .ok (.ireturn, 1) := by decide +kernel
theorem d_78_0 : decode (cM 78) 0 = .ok (.aload_n 0, 1) := by decide +kernel
theorem d_78_1 : decode (cM 78) 1 = .ok (.getfield 22, 3) := by decide +kernel
theorem d_78_4 : decode (cM 78) 4 = .ok (.istore_n 2, 1) := by decide +kernel
theorem d_78_5 : decode (cM 78) 5 = .ok (.iconst 0, 1) := by decide +kernel
theorem d_78_6 : decode (cM 78) 6 = .ok (.istore_n 3, 1) := by decide +kernel
theorem d_78_7 : decode (cM 78) 7 = .ok (.iload_n 3, 1) := by decide +kernel
theorem d_78_8 : decode (cM 78) 8 = .ok (.aload_n 0, 1) := by decide +kernel
theorem d_78_9 : decode (cM 78) 9 = .ok (.getfield 18, 3) := by decide +kernel
theorem d_78_12 : decode (cM 78) 12 = .ok (.if_icmp .ge 22, 3) := by decide +kernel
theorem d_78_15 : decode (cM 78) 15 = .ok (.aload_n 0, 1) := by decide +kernel
theorem d_78_16 : decode (cM 78) 16 = .ok (.iload_n 3, 1) := by decide +kernel
theorem d_78_17 : decode (cM 78) 17 = .ok (.iload_n 1, 1) := by decide +kernel
theorem d_78_18 : decode (cM 78) 18 = .ok (.invokevirtual 25, 3) := by decide +kernel
theorem kc_78_18 : callT (oM 78) 25 = some (0, 73, 2) ∧ fok 78 73 = true ∧ stM 73 = false := by decide +kernel
theorem d_78_21 : decode (cM 78) 21 = .ok (.ifCond .eq 7, 3) := by decide +kernel
theorem d_78_24 : decode (cM 78) 24 = .ok (.iload_n 2, 1) := by decide +kernel
theorem d_78_25 : decode (cM 78) 25 = .ok (.iload_n 3, 1) := by decide +kernel
theorem d_78_26 : decode (cM 78) 26 = .ok (.iand, 1) := by decide +kernel
theorem d_78_27 : decode (cM 78) 27 = .ok (.istore_n 2, 1) := by decide +kernel
theorem d_78_28 : decode (cM 78) 28 = .ok (.iinc 3 1, 3) := by decide +kernel
theorem d_78_31 : decode (cM 78) 31 = .ok (.goto (-24), 3) := by decide +kernel
theorem d_78_34 : decode (cM 78) 34 = .ok (.iload_n 2, 1) := by decide +kernel
theorem d_78_35 : decode (cM 78) 35 = .ok (.ireturn, 1) := by decide +kernel
theorem d_79_0 : decode (cM 79) 0 = .ok (.aload_n 0, 1) := by decide +kernel
theorem d_79_1 : decode (cM 79) 1 = .ok (.getfield 22, 3) := by decide +kernel
theorem d_79_4 : decode (cM 79) 4 = .ok (.istore_n 2, 1) := by decide +kernel
theorem d_79_5 : decode (cM 79) 5 = .ok (.iconst 0, 1) := by decide +kernel
theorem d_79_6 : decode (cM 79) 6 = .ok (.istore_n 3, 1) := by decide +kernel
theorem d_79_7 : decode (cM 79) 7 = .ok (.iload_n 3, 1) := by decide +kernel
theorem d_79_8 : decode (cM 79) 8 = .ok (.aload_n 0, 1) := by decide +kernel
theorem d_79_9 : decode (cM 79) 9 = .ok (.getfield 18, 3) := by decide +kernel
theorem d_79_12 : decode (cM 79) 12 = .ok (.if_icmp .ge 24, 3) := by decide +kernel
theorem d_79_15 : decode (cM 79) 15 = .ok (.aload_n 0, 1) := by decide +kernel
theorem d_79_16 : decode (cM 79) 16 = .ok (.iload_n 3, 1) := by decide +kernel
theorem d_79_17 : decode (cM 79) 17 = .ok (.iload_n 1, 1) := by decide +kernel
theorem d_79_18 : decode (cM 79) 18 = .ok (.invokevirtual 25, 3) := by decide +kernel
theorem kc_79_18 : callT (oM 79) 25 = some (0, 73, 2) ∧ fok 79 73 = true ∧ stM 73 = false := by decide +kernel
theorem d_79_21 : decode (cM 79) 21 = .ok (.ifCond .eq 9, 3) := by decide +kernel
theorem d_79_24 : decode (cM 79) 24 = .ok (.iload_n 2, 1) := by decide +kernel
theorem d_79_25 : decode (cM 79) 25 = .ok (.iload_n 3, 1) := by decide +kernel
theorem d_79_26 : decode (cM 79) 26 = .ok (.iconst (-1), 1) := by decide +kernel
theorem d_79_27 : decode (cM 79) 27 = .ok (.ixor, 1) := by decide +kernel
theorem d_79_28 : decode (cM 79) 28 = .ok (.iand, 1) := by decide +kernel
theorem d_79_29 : decode (cM 79) 29 = .ok (.istore_n 2, 1) := by decide +kernel
theorem d_79_30 : decode (cM 79) 30 = .ok (.iinc 3 1, 3) := by decide +kernel
theorem d_79_33 : decode (cM 79) 33 = .ok (.goto (-26), 3) := by decide +kernel
theorem d_79_36 : decode (cM 79) 36 = .ok (.iload_n 2, 1) := by decide +kernel
theorem d_79_37 : decode (cM 79) 37 = .ok (.ireturn, 1) := by decide +kernel
theorem d_80_0 : decode (cM 80) 0 = .ok (.iconst 0, 1) := by decide +kernel
theorem d_80_1 : decode (cM 80) 1 = .ok (.istore_n 2, 1) := by decide +kernel
theorem d_80_2 : decode (cM 80) 2 = .ok (.iconst 1, 1) := by decide +kernel
theorem d_80_3 : decode (cM 80) 3 = .ok (.istore_n 3, 1) := by decide +kernel
theorem d_80_4 : decode (cM 80) 4 = .ok (.iload_n 3, 1) := by decide +kernel
theorem d_80_5 : decode (cM 80) 5 = .ok (.aload_n 0, 1) := by decide +kernel
theorem d_80_6 : decode (cM 80) 6 = .ok (.getfield 18, 3) := by decide +kernel
theorem d_80_9 : decode (cM 80) 9 = .ok (.if_icmp .ge 37, 3) := by decide +kernel
theorem d_80_12 : decode (cM 80) 12 = .ok (.iload_n 3, 1) := by decide +kernel
theorem d_80_13 : decode (cM 80) 13 = .ok (.aload_n 0, 1) := by decide +kernel
theorem d_80_14 : decode (cM 80) 14 = .ok (.getfield 22, 3) := by decide +kernel
theorem d_80_17 : decode (cM 80) 17 = .ok (.iconst (-1), 1) := by decide +kernel
theorem d_80_18 : decode (cM 80) 18 = .ok (.ixor, 1) := by decide +kernel
theorem d_80_19 : decode (cM 80) 19 = .ok (.iand, 1) := by decide +kernel
theorem d_80_20 : decode (cM 80) 20 = .ok (.ifCond .ne 20, 3) := by decide +kernel
theorem d_80_23 : decode (cM 80) 23 = .ok (.aload_n 0, 1) := by decide +kernel
theorem d_80_24 : decode (cM 80) 24 = .ok (.iload_n 3, 1) := by decide +kernel
theorem d_80_25 : decode (cM 80) 25 = .ok (.iload_n 1, 1) := by decide +kernel
theorem d_80_26 : decode (cM 80) 26 = .ok (.invokevirtual 40, 3) := by decide +kernel
theorem kc_80_26 : callT (oM 80) 40 = some (0, 81, 2) ∧ fok 80 81 = true ∧ stM 81 = false := by decide +kernel
theorem d_80_29 : decode (cM 80) 29 = .ok (.aload_n 0, 1) := by decide +kernel
theorem d_80_30 : decode (cM 80) 30 = .ok (.iload_n 2, 1) := by decide +kernel
theorem d_80_31 : decode (cM 80) 31 = .ok (.iload_n 1, 1) := by decide +kernel
theorem d_80_32 : decode (cM 80) 32 = .ok (.invokevirtual 40, 3) := by decide +kernel
theorem kc_80_32 : callT (oM 80) 40 = some (0, 81, 2) ∧ fok 80 81 = true ∧ stM 81 = false := by decide +kernel
theorem d_80_35 : decode (cM 80) 35 = .ok (.if_icmp .ge 5, 3) := by decide +kernel
theorem d_80_38 : decode (cM 80) 38 = .ok (.iload_n 3, 1) := by decide +kernel
theorem d_80_39 : decode (cM 80) 39 = .ok (.istore_n 2, 1) := by decide +kernel
theorem d_80_40 : decode (cM 80) 40 = .ok (.iinc 3 1, 3) := by decide +kernel
theorem d_80_43 : decode (cM 80) 43 = .ok (.goto (-39), 3) := by decide +kernel
theorem d_80_46 : decode (cM 80) 46 = .ok (.iload_n 2, 1) := by decide +kernel
theorem d_80_47 : decode (cM 80) 47 = .ok (.ireturn, 1) := by decide +kernel
theorem d_81_0 : decode (cM 81) 0 = .ok (.iload_n 2, 1) := by decide +kernel
theorem d_81_1 : decode (cM 81) 1 = .ok (.aload_n 0, 1) := by decide +kernel
theorem d_81_2 : decode (cM 81) 2 = .ok (.getfield 9, 3) := by decide +kernel
theorem d_81_5 : decode (cM 81) 5 = .ok (.iload_n 1, 1) := by decide +kernel
theorem d_81_6 : decode (cM 81) 6 = .ok (.iaload, 1) := by decide +kernel
theorem d_81_7 : decode (cM 81) 7 = .ok (.ixor, 1) := by decide +kernel
theorem d_81_8 : decode (cM 81) 8 = .ok (.invokestatic 29, 3) := by decide +kernel
theorem kc_81_8 : callT (oM 81) 29 = some (1, 276, 1) ∧ fok 81 276 = true ∧ stM 276 = true := by decide +kernel
theorem d_81_11 : decode (cM 81) 11 = .ok (.bipush 16, 2) := by decide +kernel
theorem d_81_13 : decode (cM 81) 13 = .ok (.imul, 1) := by decide +kernel
theorem d_81_14 : decode (cM 81) 14 = .ok (.iload_n 1, 1) := by decide +kernel
theorem d_81_15 : decode (cM 81) 15 = .ok (.invokestatic 29, 3) := by decide +kernel
theorem kc_81_15 : callT (oM 81) 29 = some (1, 276, 1) ∧ fok 81 276 = true ∧ stM 276 = true := by decide +kernel
theorem d_81_18 : decode (cM 81) 18 = .ok (.iadd, 1) := by decide +kernel
theorem d_81_19 : decode (cM 81) 19 = .ok (.ireturn, 1) := by decide +kernel
theorem d_82_0 : decode (cM 82) 0 = .ok (.iconst 0, 1) := by decide +kernel
theorem d_82_1 : decode (cM 82) 1 = .ok (.istore 4, 2) := by decide +kernel
theorem d_82_3 : decode (cM 82) 3 = .ok (.iconst 0, 1) := by decide +kernel
theorem d_82_4 : decode (cM 82) 4 = .ok (.istore 5, 2) := by decide +kernel
theorem d_82_6 : decode (cM 82) 6 = .ok (.iload 5, 2) := by decide +kernel
theorem d_82_8 : decode (cM 82) 8 = .ok (.aload_n 0, 1) := by decide +kernel
theorem d_82_9 : decode (cM 82) 9 = .ok (.getfield 18, 3) := by decide +kernel
theorem d_82_12 : decode (cM 82) 12 = .ok (.if_icmp .ge 37, 3) := by decide +kernel
theorem d_82_15 : decode (cM 82) 15 = .ok (.iload 5, 2) := by decide +kernel
theorem d_82_17 : decode (cM 82) 17 = .ok (.iload_n 3, 1) := by decide +kernel
theorem d_82_18 : decode (cM 82) 18 = .ok (.iconst (-1), 1) := by decide +kernel
theorem d_82_19 : decode (cM 82) 19 = .ok (.ixor, 1) := by decide +kernel
theorem d_82_20 : decode (cM 82) 20 = .ok (.iand, 1) := by decide +kernel
theorem d_82_21 : decode (cM 82) 21 = .ok (.ifCond .ne 22, 3) := by decide +kernel
theorem d_82_24 : decode (cM 82) 24 = .ok (.iload_n 1, 1) := by decide +kernel
theorem d_82_25 : decode (cM 82) 25 = .ok (.aload_n 0, 1) := by decide +kernel
theorem d_82_26 : decode (cM 82) 26 = .ok (.getfield 9, 3) := by decide +kernel
theorem d_82_29 : decode (cM 82) 29 = .ok (.iload 5, 2) := by decide +kernel
theorem d_82_31 : decode (cM 82) 31 = .ok (.iaload, 1) := by decide +kernel
theorem d_82_32 : decode (cM 82) 32 = .ok (.ixor, 1) := by decide +kernel
theorem d_82_33 : decode (cM 82) 33 = .ok (.invokestatic 29, 3) := by decide +kernel
theorem kc_82_33 : callT (oM 82) 29 = some (1, 276, 1) ∧ fok 82 276 = true ∧ stM 276 = true := by decide +kernel
theorem d_82_36 : decode (cM 82) 36 = .ok (.iload_n 2, 1) := by decide +kernel
theorem d_82_37 : decode (cM 82) 37 = .ok (.if_icmp .ne 6, 3) := by decide +kernel
theorem d_82_40 : decode (cM 82) 40 = .ok (.iinc 4 1, 3) := by decide +kernel
theorem d_82_43 : decode (cM 82) 43 = .ok (.iinc 5 1, 3) := by decide +kernel
theorem d_82_46 : decode (cM 82) 46 = .ok (.goto (-40), 3) := by decide +kernel
theorem d_82_49 : decode (cM 82) 49 = .ok (.iload 4, 2) := by decide +kernel
theorem d_82_51 : decode (cM 82) 51 = .ok (.ireturn, 1) := by decide +kernel
theorem d_83_0 : decode (cM 83) 0 = .ok (.aload_n 0, 1) := by decide +kernel
theorem d_83_1 : decode (cM 83) 1 = .ok (.getfield 18, 3) := by decide +kernel
theorem d_83_4 : decode (cM 83) 4 = .ok (.iconst 1, 1) := by decide +kernel
theorem d_83_5 : decode (cM 83) 5 = .ok (.isub, 1) := by decide +kernel
theorem d_83_6 : decode (cM 83) 6 = .ok (.istore_n 2, 1) := by decide +kernel
theorem d_83_7 : decode (cM 83) 7 = .ok (.iload_n 2, 1) := by decide +kernel
theorem d_83_8 : decode (cM 83) 8 = .ok (.ifCond .lt 32, 3) := by decide +kernel
theorem d_83_11 : decode (cM 83) 11 = .ok (.iload_n 2, 1) := by decide +kernel
theorem d_83_12 : decode (cM 83) 12 = .ok (.aload_n 0, 1) := by decide +kernel
theorem d_83_13 : decode (cM 83) 13 = .ok (.getfield 22, 3) := by decide +kernel
theorem d_83_16 : decode (cM 83) 16 = .ok (.iconst (-1), 1) := by decide +kernel
theorem d_83_17 : decode (cM 83) 17 = .ok (.ixor, 1) := by decide +kernel
theorem d_83_18 : decode (cM 83) 18 = .ok (.iand, 1) := by decide +kernel
theorem d_83_19 : decode (cM 83) 19 = .ok (.ifCond .ne 15, 3) := by decide +kernel
theorem d_83_22 : decode (cM 83) 22 = .ok (.aload_n 0, 1) := by decide +kernel
theorem d_83_23 : decode (cM 83) 23 = .ok (.getfield 15, 3) := by decide +kernel
theorem d_83_26 : decode (cM 83) 26 = .ok (.iload_n 2, 1) := by decide +kernel
theorem d_83_27 : decode (cM 83) 27 = .ok (.aload_n 0, 1) := by decide +kernel
theorem d_83_28 : decode (cM 83) 28 = .ok (.iload_n 2, 1) := by decide +kernel
theorem d_83_29 : decode (cM 83) 29 = .ok (.iload_n 1, 1) := by decide +kernel
theorem d_83_30 : decode (cM 83) 30 = .ok (.invokevirtual 44, 3) := by decide +kernel
theorem kc_83_30 : callT (oM 83) 44 = some (0, 84, 2) ∧ fok 83 84 = true ∧ stM 84 = false := by decide +kernel
theorem d_83_33 : decode (cM 83) 33 = .ok (.iastore, 1) := by decide +kernel
theorem d_83_34 : decode (cM 83) 34 = .ok (.iinc 2 (-1), 3) := by decide +kernel
theorem d_83_37 : decode (cM 83) 37 = .ok (.goto (-30), 3) := by decide +kernel
theorem d_83_40 : decode (cM 83) 40 = .ok (.aload_n 0, 1) := by decide +kernel
theorem d_83_41 : decode (cM 83) 41 = .ok (.getfield 15, 3) := by decide +kernel
theorem d_83_44 : decode (cM 83) 44 = .ok (.iconst 0, 1) := by decide +kernel
theorem d_83_45 : decode (cM 83) 45 = .ok (.iaload, 1) := by decide +kernel
theorem d_83_46 : decode (cM 83) 46 = .ok (.ireturn, 1) := by decide +kernel
theorem d_84_0 : decode (cM 84) 0 = .ok (.iconst (-1), 1) := by decide +kernel
theorem d_84_1 : decode (cM 84) 1 = .ok (.istore_n 3, 1) := by decide +kernel
theorem d_84_2 : decode (cM 84) 2 = .ok (.iconst 0, 1) := by decide +kernel
theorem d_84_3 : decode (cM 84) 3 = .ok (.istore 4, 2) := by decide +kernel
theorem d_84_5 : decode (cM 84) 5 = .ok (.iload 4, 2) := by decide +kernel
theorem d_84_7 : decode (cM 84) 7 = .ok (.bipush 10, 2) := by decide +kernel
theorem d_84_9 : decode (cM 84) 9 = .ok (.if_icmp .ge 43, 3) := by decide +kernel
theorem d_84_12 : decode (cM 84) 12 = .ok (.iconst 1, 1) := by decide +kernel
theorem d_84_13 : decode (cM 84) 13 = .ok (.iload 4, 2) := by decide +kernel
theorem d_84_15 : decode (cM 84) 15 = .ok (.ishl, 1) := by decide +kernel
theorem d_84_16 : decode (cM 84) 16 = .ok (.istore 5, 2) := by decide +kernel
theorem d_84_18 : decode (cM 84) 18 = .ok (.aload_n 0, 1) := by decide +kernel
theorem d_84_19 : decode (cM 84) 19 = .ok (.getfield 22, 3) := by decide +kernel
theorem d_84_22 : decode (cM 84) 22 = .ok (.iload_n 1, 1) := by decide +kernel
theorem d_84_23 : decode (cM 84) 23 = .ok (.iconst (-1), 1) := by decide +kernel
theorem d_84_24 : decode (cM 84) 24 = .ok (.ixor, 1) := by decide +kernel
theorem d_84_25 : decode (cM 84) 25 = .ok (.iand, 1) := by decide +kernel
theorem d_84_26 : decode (cM 84) 26 = .ok (.iload 5, 2) := by decide +kernel
theorem d_84_28 : decode (cM 84) 28 = .ok (.iand, 1) := by decide +kernel
theorem d_84_29 : decode (cM 84) 29 = .ok (.ifCond .eq 17, 3) := by decide +kernel
theorem d_84_32 : decode (cM 84) 32 = .ok (.iload_n 3, 1) := by decide +kernel
theorem d_84_33 : decode (cM 84) 33 = .ok (.aload_n 0, 1) := by decide +kernel
theorem d_84_34 : decode (cM 84) 34 = .ok (.iload_n 1, 1) := by decide +kernel
theorem d_84_35 : decode (cM 84) 35 = .ok (.iload 5, 2) := by decide +kernel
theorem d_84_37 : decode (cM 84) 37 = .ok (.ior, 1) := by decide +kernel
theorem d_84_38 : decode (cM 84) 38 = .ok (.iload_n 2, 1) := by decide +kernel
theorem d_84_39 : decode (cM 84) 39 = .ok (.invokevirtual 47, 3) := by decide +kernel
theorem kc_84_39 : callT (oM 84) 47 = some (0, 85, 2) ∧ fok 84 85 = true ∧ stM 85 = false := by decide +kernel
theorem d_84_42 : decode (cM 84) 42 = .ok (.invokestatic 50, 3) := by decide +kernel
theorem kc_84_42 : callT (oM 84) 50 = some (1, 278, 2) ∧ fok 84 278 = true ∧ stM 278 = true := by decide +kernel
theorem d_84_45 : decode (cM 84) 45 = .ok (.istore_n 3, 1) := by decide +kernel
theorem d_84_46 : decode (cM 84) 46 = .ok (.iinc 4 1, 3) := by decide +kernel
theorem d_84_49 : decode (cM 84) 49 = .ok (.goto (-44), 3) := by decide +kernel
theorem d_84_52 : decode (cM 84) 52 = .ok (.iload_n 3, 1) := by decide +kernel
theorem d_84_53 : decode (cM 84) 53 = .ok (.iconst (-1), 1) := by decide +kernel
theorem d_84_54 : decode (cM 84) 54 = .ok (.if_icmp .ne 7, 3) := by decide +kernel
theorem d_84_57 : decode (cM 84) 57 = .ok (.iconst 1, 1) := by decide +kernel
theorem d_84_58 : decode (cM 84) 58 = .ok (.goto 4, 3) := by decide +kernel
theorem d_84_61 : decode (cM 84) 61 = .ok (.iload_n 3, 1) := by decide +kernel
theorem d_84_62 : decode (cM 84) 62 = .ok (.ireturn, 1) := by decide +kernel
theorem d_85_0 : decode (cM 85) 0 = .ok (.iload_n 1, 1) := by decide +kernel
theorem d_85_1 : decode (cM 85) 1 = .ok (.aload_n 0, 1) := by decide +kernel
theorem d_85_2 : decode (cM 85) 2 = .ok (.getfield 18, 3) := by decide +kernel
theorem d_85_5 : decode (cM 85) 5 = .ok (.if_icmp .lt 5, 3) := by decide +kernel
theorem d_85_8 : decode (cM 85) 8 = .ok (.iconst 1, 1) := by decide +kernel
theorem d_85_9 : decode (cM 85) 9 = .ok (.ireturn, 1) := by decide +kernel
theorem d_85_10 : decode (cM 85) 10 = .ok (.aload_n 0, 1) := by decide +kernel
theorem d_85_11 : decode (cM 85) 11 = .ok (.getfield 9, 3) := by decide +kernel
theorem d_85_14 : decode (cM 85) 14 = .ok (.iload_n 1, 1) := by decide +kernel
theorem d_85_15 : decode (cM 85) 15 = .ok (.iaload, 1) := by decide +kernel
theorem d_85_16 : decode (cM 85) 16 = .ok (.iload_n 2, 1) := by decide +kernel
theorem d_85_17 : decode (cM 85) 17 = .ok (.if_icmp .ne 7, 3) := by decide +kernel
theorem d_85_20 : decode (cM 85) 20 = .ok (.iconst 2, 1) := by decide +kernel
theorem d_85_21 : decode (cM 85) 21 = .ok (.goto 11, 3) := by decide +kernel
theorem d_85_24 : decode (cM 85) 24 = .ok (.iconst 2, 1) := by decide +kernel
theorem d_85_25 : decode (cM 85) 25 = .ok (.aload_n 0, 1) := by decide +kernel
theorem d_85_26 : decode (cM 85) 26 = .ok (.getfield 15, 3) := by decide +kernel
theorem d_85_29 : decode (cM 85) 29 = .ok (.iload_n 1, 1) := by decide +kernel
theorem d_85_30 : decode (cM 85) 30 = .ok (.iaload, 1) := by decide +kernel
theorem d_85_31 : decode (cM 85) 31 = .ok (.isub, 1) := by decide +kernel
theorem d_85_32 : decode (cM 85) 32 = .ok (.ireturn, 1) := by decide +kernel
theorem d_86_0 : decode (cM 86) 0 = .ok (.iconst 0, 1) := by decide +kernel
theorem d_86_1 : decode (cM 86) 1 = .ok (.istore_n 3, 1) := by decide +kernel
theorem d_86_2 : decode (cM 86) 2 = .ok (.iload_n 3, 1) := by decide +kernel
theorem d_86_3 : decode (cM 86) 3 = .ok (.bipush 10, 2) := by decide +kernel
theorem d_86_5 : decode (cM 86) 5 = .ok (.if_icmp .ge 37, 3) := by decide +kernel
theorem d_86_8 : decode (cM 86) 8 = .ok (.iconst 1, 1) := by decide +kernel
theorem d_86_9 : decode (cM 86) 9 = .ok (.iload_n 3, 1) := by decide +kernel
theorem d_86_10 : decode (cM 86) 10 = .ok (.ishl, 1) := by decide +kernel
theorem d_86_11 : decode (cM 86) 11 = .ok (.istore 4, 2) := by decide +kernel
theorem d_86_13 : decode (cM 86) 13 = .ok (.aload_n 0, 1) := by decide +kernel
theorem d_86_14 : decode (cM 86) 14 = .ok (.getfield 22, 3) := by decide +kernel
theorem d_86_17 : decode (cM 86) 17 = .ok (.iload 4, 2) := by decide +kernel
theorem d_86_19 : decode (cM 86) 19 = .ok (.iand, 1) := by decide +kernel
theorem d_86_20 : decode (cM 86) 20 = .ok (.ifCond .eq 16, 3) := by decide +kernel
theorem d_86_23 : decode (cM 86) 23 = .ok (.aload_n 0, 1) := by decide +kernel
theorem d_86_24 : decode (cM 86) 24 = .ok (.iload 4, 2) := by decide +kernel
theorem d_86_26 : decode (cM 86) 26 = .ok (.iload_n 2, 1) := by decide +kernel
theorem d_86_27 : decode (cM 86) 27 = .ok (.invokevirtual 47, 3) := by decide +kernel
theorem kc_86_27 : callT (oM 86) 47 = some (0, 85, 2) ∧ fok 86 85 = true ∧ stM 85 = false := by decide +kernel
theorem d_86_30 : decode (cM 86) 30 = .ok (.iload_n 1, 1) := by decide +kernel
theorem d_86_31 : decode (cM 86) 31 = .ok (.if_icmp .ne 5, 3) := by decide +kernel
theorem d_86_34 : decode (cM 86) 34 = .ok (.iload_n 3, 1) := by decide +kernel
theorem d_86_35 : decode (cM 86) 35 = .ok (.ireturn, 1) := by decide +kernel
theorem d_86_36 : decode (cM 86) 36 = .ok (.iinc 3 1, 3) := by decide +kernel
theorem d_86_39 : decode (cM 86) 39 = .ok (.goto (-37), 3) := by decide +kernel
theorem d_86_42 : decode (cM 86) 42 = .ok (.bipush (-2), 2) := by decide +kernel
theorem d_86_44 : decode (cM 86) 44 = .ok (.ireturn, 1) := by decide +kernel
theorem d_87_0 : decode (cM 87) 0 = .ok (.aload_n 0, 1) := by decide +kernel
theorem d_87_1 : decode (cM 87) 1 = .ok (.invokespecial 3, 3) := by decide +kernel
theorem d_87_4 : decode (cM 87) 4 = .ok (.aload_n 0, 1) := by decide +kernel
theorem d_87_5 : decode (cM 87) 5 = .ok (.bipush 14, 2) := by decide +kernel
theorem d_87_7 : decode (cM 87) 7 = .ok (.newarray .int, 2) := by decide +kernel
theorem d_87_9 : decode (cM 87) 9 = .ok (.putfield 9, 3) := by decide +kernel
theorem d_87_12 : decode (cM 87) 12 = .ok (.aload_n 0, 1) := by decide +kernel
theorem d_87_13 : decode (cM 87) 13 = .ok (.bipush 10, 2) := by decide +kernel
theorem d_87_15 : decode (cM 87) 15 = .ok (.newarray .int, 2) := by decide +kernel
theorem d_87_17 : decode (cM 87) 17 = .ok (.putfield 15, 3) := by decide +kernel
theorem d_87_20 : decode (cM 87) 20 = .ok (.aload_n 0, 1) := by decide +kernel
theorem d_87_21 : decode (cM 87) 21 = .ok (.bipush 10, 2) := by decide +kernel
theorem d_87_23 : decode (cM 87) 23 = .ok (.newarray .int, 2) := by decide +kernel
theorem d_87_25 : decode (cM 87) 25 = .ok (.putfield 18, 3) := by decide +kernel
theorem d_87_28 : decode (cM 87) 28 = .ok (.aload_n 0, 1) := by decide +kernel
theorem d_87_29 : decode (cM 87) 29 = .ok (.bipush 10, 2) := by decide +kernel
theorem d_87_31 : decode (cM 87) 31 = .ok (.newarray .int, 2) := by decide +kernel
theorem d_87_33 : decode (cM 87) 33 = .ok (.putfield 21, 3) := by decide +kernel
theorem d_87_36 : decode (cM 87) 36 = .ok (.aload_n 0, 1) := by decide +kernel
theorem d_87_37 : decode (cM 87) 37 = .ok (.bipush 14, 2) := by decide +kernel
theorem d_87_39 : decode (cM 87) 39 = .ok (.newarray .int, 2) := by decide +kernel
theorem d_87_41 : decode (cM 87) 41 = .ok (.putfield 24, 3) := by decide +kernel
theorem d_87_44 : decode (cM 87) 44 = .ok (.aload_n 0, 1) := by decide +kernel
theorem d_87_45 : decode (cM 87) 45 = .ok (.bipush 14, 2) := by decide +kernel
theorem d_87_47 : decode (cM 87) 47 = .ok (.newarray .int, 2) := by decide +kernel
theorem d_87_49 : decode (cM 87) 49 = .ok (.putfield 27, 3) := by decide +kernel
theorem d_87_52 : decode (cM 87) 52 = .ok (.aload_n 0, 1) := by decide +kernel
theorem d_87_53 : decode (cM 87) 53 = .ok (.iconst 4, 1) := by decide +kernel
theorem d_87_54 : decode (cM 87) 54 = .ok (.newarray .int, 2) := by decide +kernel
theorem d_87_56 : decode (cM 87) 56 = .ok (.putfield 30, 3) := by decide +kernel
theorem d_87_59 : decode (cM 87) 59 = .ok (.aload_n 0, 1) := by decide +kernel
theorem d_87_60 : decode (cM 87) 60 = .ok (.bipush 64, 2) := by decide +kernel
theorem d_87_62 : decode (cM 87) 62 = .ok (.newarray .int, 2) := by decide +kernel
theorem d_87_64 : decode (cM 87) 64 = .ok (.putfield 33, 3) := by decide +kernel
theorem d_87_67 : decode (cM 87) 67 = .ok (.aload_n 0, 1) := by decide +kernel
theorem d_87_68 : decode (cM 87) 68 = .ok (.iconst 3, 1) := by decide +kernel
theorem d_87_69 : decode (cM 87) 69 = .ok (.newarray .int, 2) := by decide +kernel
theorem d_87_71 : decode (cM 87) 71 = .ok (.putfield 36, 3) := by decide +kernel
theorem d_87_74 : decode (cM 87) 74 = .ok (.aload_n 0, 1) := by decide +kernel
theorem d_87_75 : decode (cM 87) 75 = .ok (.iconst 3, 1) := by decide +kernel
theorem d_87_76 : decode (cM 87) 76 = .ok (.newarray .int, 2) := by decide +kernel
theorem d_87_78 : decode (cM 87) 78 = .ok (.putfield 39, 3) := by decide +kernel
theorem d_87_81 : decode (cM 87) 81 = .ok (.aload_n 0, 1) := by decide +kernel
theorem d_87_82 : decode (cM 87) 82 = .ok (.iconst (-1), 1) := by decide +kernel
theorem d_87_83 : decode (cM 87) 83 = .ok (.putfield 42, 3) := by decide +kernel
theorem d_87_86 : decode (cM 87) 86 = .ok (.aload_n 0, 1) := by decide +kernel
theorem d_87_87 : decode (cM 87) 87 = .ok (.iconst (-1), 1) := by decide +kernel
theorem d_87_88 : decode (cM 87) 88 = .ok (.putfield 46, 3) := by decide +kernel
theorem d_87_91 : decode (cM 87) 91 = .ok (.return_, 1) := by decide +kernel
theorem d_88_0 : decode (cM 88) 0 = .ok (.aload_n 0, 1) := by decide +kernel
theorem d_88_1 : decode (cM 88) 1 = .ok (.iconst 0, 1) := by decide +kernel
theorem d_88_2 : decode (cM 88) 2 = .ok (.putfield 49, 3) := by decide +kernel
theorem d_88_5 : decode (cM 88) 5 = .ok (.aload_n 0, 1) := by decide +kernel
theorem d_88_6 : decode (cM 88) 6 = .ok (.iconst 0, 1) := by decide +kernel
theorem d_88_7 : decode (cM 88) 7 = .ok (.putfield 52, 3) := by decide +kernel
theorem d_88_10 : decode (cM 88) 10 = .ok (.aload_n 0, 1) := by decide +kernel
theorem d_88_11 : decode (cM 88) 11 = .ok (.iconst 0, 1) := by decide +kernel
theorem d_88_12 : decode (cM 88) 12 = .ok (.putfield 55, 3) := by decide +kernel
theorem d_88_15 : decode (cM 88) 15 = .ok (.aload_n 0, 1) := by decide +kernel
theorem d_88_16 : decode (cM 88) 16 = .ok (.iconst 0, 1) := by decide +kernel
theorem d_88_17 : decode (cM 88) 17 = .ok (.putfield 58, 3) := by decide +kernel
theorem d_88_20 : decode (cM 88) 20 = .ok (.aload_n 0, 1) := by decide +kernel
theorem d_88_21 : decode (cM 88) 21 = .ok (.iconst 0, 1) := by decide +kernel
theorem d_88_22 : decode (cM 88) 22 = .ok (.putfield 61, 3) := by decide +kernel
theorem d_88_25 : decode (cM 88) 25 = .ok (.aload_n 0, 1) := by decide +kernel
theorem d_88_26 : decode (cM 88) 26 = .ok (.iconst (-1), 1) := by decide +kernel
theorem d_88_27 : decode (cM 88) 27 = .ok (.putfield 42, 3) := by decide +kernel
theorem d_88_30 : decode (cM 88) 30 = .ok (.aload_n 0, 1) := by decide +kernel
theorem d_88_31 : decode (cM 88) 31 = .ok (.iconst (-1), 1) := by decide +kernel
theorem d_88_32 : decode (cM 88) 32 = .ok (.putfield 46, 3) := by decide +kernel
theorem d_88_35 : decode (cM 88) 35 = .ok (.aload_n 0, 1) := by decide +kernel
theorem d_88_36 : decode (cM 88) 36 = .ok (.iconst 0, 1) := by decide +kernel
theorem d_88_37 : decode (cM 88) 37 = .ok (.putfield 64, 3) := by decide +kernel
theorem d_88_40 : decode (cM 88) 40 = .ok (.iconst 0, 1) := by decide +kernel
theorem d_88_41 : decode (cM 88) 41 = .ok (.istore_n 1, 1) := by decide +kernel
theorem d_88_42 : decode (cM 88) 42 = .ok (.iload_n 1, 1) := by decide +kernel
theorem d_88_43 : decode (cM 88) 43 = .ok (.iconst 3, 1) := by decide +kernel
theorem d_88_44 : decode (cM 88) 44 = .ok (.if_icmp .ge 23, 3) := by decide +kernel
theorem d_88_47 : decode (cM 88) 47 = .ok (.aload_n 0, 1) := by decide +kernel
theorem d_88_48 : decode (cM 88) 48 = .ok (.getfield 36, 3) := by decide +kernel
theorem d_88_51 : decode (cM 88) 51 = .ok (.iload_n 1, 1) := by decide +kernel
theorem d_88_52 : decode (cM 88) 52 = .ok (.iconst 0, 1) := by decide +kernel
theorem d_88_53 : decode (cM 88) 53 = .ok (.iastore, 1) := by decide +kernel
theorem d_88_54 : decode (cM 88) 54 = .ok (.aload_n 0, 1) := by decide +kernel
theorem d_88_55 : decode (cM 88) 55 = .ok (.getfield 39, 3) := by decide +kernel
theorem d_88_58 : decode (cM 88) 58 = .ok (.iload_n 1, 1) := by decide +kernel
theorem d_88_59 : decode (cM 88) 59 = .ok (.iconst 0, 1) := by decide +kernel
theorem d_88_60 : decode (cM 88) 60 = .ok (.iastore, 1) := by decide +kernel
theorem d_88_61 : decode (cM 88) 61 = .ok (.iinc 1 1, 3) := by decide +kernel
theorem d_88_64 : decode (cM 88) 64 = .ok (.goto (-22), 3) := by decide +kernel
theorem d_88_67 : decode (cM 88) 67 = .ok (.return_, 1) := by decide +kernel
theorem d_89_0 : decode (cM 89) 0 = .ok (.iconst 0, 1) := by decide +kernel
theorem d_89_1 : decode (cM 89) 1 = .ok (.istore_n 2, 1) := by decide +kernel
theorem d_89_2 : decode (cM 89) 2 = .ok (.iload_n 2, 1) := by decide +kernel
theorem d_89_3 : decode (cM 89) 3 = .ok (.aload_n 0, 1) := by decide +kernel
theorem d_89_4 : decode (cM 89) 4 = .ok (.getfield 49, 3) := by decide +kernel
theorem d_89_7 : decode (cM 89) 7 = .ok (.if_icmp .ge 21, 3) := by decide +kernel
theorem d_89_10 : decode (cM 89) 10 = .ok (.aload_n 0, 1) := by decide +kernel
theorem d_89_11 : decode (cM 89) 11 = .ok (.getfield 9, 3) := by decide +kernel
theorem d_89_14 : decode (cM 89) 14 = .ok (.iload_n 2, 1) := by decide +kernel
theorem d_89_15 : decode (cM 89) 15 = .ok (.iaload, 1) := by decide +kernel
theorem d_89_16 : decode (cM 89) 16 = .ok (.iload_n 1, 1) := by decide +kernel
theorem d_89_17 : decode (cM 89) 17 = .ok (.if_icmp .ne 5, 3) := by decide +kernel
theorem d_89_20 : decode (cM 89) 20 = .ok (.iload_n 2, 1) := by decide +kernel
theorem d_89_21 : decode (cM 89) 21 = .ok (.ireturn, 1) := by decide +kernel
theorem d_89_22 : decode (cM 89) 22 = .ok (.iinc 2 1, 3) := by decide +kernel
theorem d_89_25 : decode (cM 89) 25 = .ok (.goto (-23), 3) := by decide +kernel
theorem d_89_28 : decode (cM 89) 28 = .ok (.iconst (-1), 1) := by decide +kernel
theorem d_89_29 : decode (cM 89) 29 = .ok (.ireturn, 1) := by decide +kernel
theorem d_90_0 : decode (cM 90) 0 = .ok (.iconst 0, 1) := by decide +kernel
theorem d_90_1 : decode (cM 90) 1 = .ok (.istore_n 2, 1) := by decide +kernel
theorem d_90_2 : decode (cM 90) 2 = .ok (.iload_n 2, 1) := by decide +kernel
theorem d_90_3 : decode (cM 90) 3 = .ok (.aload_n 0, 1) := by decide +kernel
theorem d_90_4 : decode (cM 90) 4 = .ok (.getfield 52, 3) := by decide +kernel
theorem d_90_7 : decode (cM 90) 7 = .ok (.if_icmp .ge 21, 3) := by decide +kernel
theorem d_90_10 : decode (cM 90) 10 = .ok (.aload_n 0, 1) := by decide +kernel
theorem d_90_11 : decode (cM 90) 11 = .ok (.getfield 15, 3) := by decide +kernel
theorem d_90_14 : decode (cM 90) 14 = .ok (.iload_n 2, 1) := by decide +kernel
theorem d_90_15 : decode (cM 90) 15 = .ok (.iaload, 1) := by decide +kernel
theorem d_90_16 : decode (cM 90) 16 = .ok (.iload_n 1, 1) := by decide +kernel
theorem d_90_17 : decode (cM 90) 17 = .ok (.if_icmp .ne 5, 3) := by decide +kernel
theorem d_90_20 : decode (cM 90) 20 = .ok (.iload_n 2, 1) := by decide +kernel
theorem d_90_21 : decode (cM 90) 21 = .ok (.ireturn, 1) := by decide +kernel
theorem d_90_22 : decode (cM 90) 22 = .ok (.iinc 2 1, 3) := by decide +kernel
theorem d_90_25 : decode (cM 90) 25 = .ok (.goto (-23), 3) := by decide +kernel
theorem d_90_28 : decode (cM 90) 28 = .ok (.iconst (-1), 1) := by decide +kernel
theorem d_90_29 : decode (cM 90) 29 = .ok (.ireturn, 1) := by decide +kernel
theorem d_91_0 : decode (cM 91) 0 = .ok (.aload_n 0, 1) := by decide +kernel
theorem d_91_1 : decode (cM 91) 1 = .ok (.getfield 39, 3) := by decide +kernel
theorem d_91_4 : decode (cM 91) 4 = .ok (.iload_n 1, 1) := by decide +kernel
theorem d_91_5 : decode (cM 91) 5 = .ok (.iaload, 1) := by decide +kernel
theorem d_91_6 : decode (cM 91) 6 = .ok (.aload_n 0, 1) := by decide +kernel
theorem d_91_7 : decode (cM 91) 7 = .ok (.getfield 36, 3) := by decide +kernel
theorem d_91_10 : decode (cM 91) 10 = .ok (.iload_n 1, 1) := by decide +kernel
theorem d_91_11 : decode (cM 91) 11 = .ok (.iaload, 1) := by decide +kernel
theorem d_91_12 : decode (cM 91) 12 = .ok (.if_icmp .le 7, 3) := by decide +kernel
theorem d_91_15 : decode (cM 91) 15 = .ok (.iconst 1, 1) := by decide +kernel
theorem d_91_16 : decode (cM 91) 16 = .ok (.goto 4, 3) := by decide +kernel
theorem d_91_19 : decode (cM 91) 19 = .ok (.iconst 0, 1) := by decide +kernel
theorem d_91_20 : decode (cM 91) 20 = .ok (.ireturn, 1) := by decide +kernel
theorem d_92_0 : decode (cM 92) 0 = .ok (.aload_n 0, 1) := by decide +kernel
theorem d_92_1 : decode (cM 92) 1 = .ok (.getfield 42, 3) := by decide +kernel
theorem d_92_4 : decode (cM 92) 4 = .ok (.iconst (-1), 1) := by decide +kernel
theorem d_92_5 : decode (cM 92) 5 = .ok (.if_icmp .ne 7, 3) := by decide +kernel
theorem d_92_8 : decode (cM 92) 8 = .ok (.iconst 0, 1) := by decide +kernel
theorem d_92_9 : decode (cM 92) 9 = .ok (.goto 7, 3) := by decide +kernel
theorem d_92_12 : decode (cM 92) 12 = .ok (.aload_n 0, 1) := by decide +kernel
theorem d_92_13 : decode (cM 92) 13 = .ok (.getfield 42, 3) := by decide +kernel
theorem d_92_16 : decode (cM 92) 16 = .ok (.ireturn, 1) := by decide +kernel
theorem d_93_0 : decode (cM 93) 0 = .ok (.aload_n 0, 1) := by decide +kernel
theorem d_93_1 : decode (cM 93) 1 = .ok (.getfield 46, 3) := by decide +kernel
theorem d_93_4 : decode (cM 93) 4 = .ok (.iconst (-1), 1) := by decide +kernel
theorem d_93_5 : decode (cM 93) 5 = .ok (.if_icmp .ne 7, 3) := by decide +kernel
theorem d_93_8 : decode (cM 93) 8 = .ok (.iconst 0, 1) := by decide +kernel
theorem d_93_9 : decode (cM 93) 9 = .ok (.goto 7, 3) := by decide +kernel
theorem d_93_12 : decode (cM 93) 12 = .ok (.aload_n 0, 1) := by decide +kernel
theorem d_93_13 : decode (cM 93) 13 = .ok (.getfield 46, 3) := by decide +kernel
theorem d_93_16 : decode (cM 93) 16 = .ok (.ireturn, 1) := by decide +kernel
theorem d_94_0 : decode (cM 94) 0 = .ok (.iconst 0, 1) := by decide +kernel
theorem d_94_1 : decode (cM 94) 1 = .ok (.istore_n 2, 1) := by decide +kernel
theorem d_94_2 : decode (cM 94) 2 = .ok (.iload_n 2, 1) := by decide +kernel
theorem d_94_3 : decode (cM 94) 3 = .ok (.aload_n 0, 1) := by decide +kernel
theorem d_94_4 : decode (cM 94) 4 = .ok (.getfield 61, 3) := by decide +kernel
theorem d_94_7 : decode (cM 94) 7 = .ok (.if_icmp .ge 21, 3) := by decide +kernel
theorem d_94_10 : decode (cM 94) 10 = .ok (.aload_n 0, 1) := by decide +kernel
theorem d_94_11 : decode (cM 94) 11 = .ok (.getfield 30, 3) := by decide +kernel
theorem d_94_14 : decode (cM 94) 14 = .ok (.iload_n 2, 1) := by decide +kernel
theorem d_94_15 : decode (cM 94) 15 = .ok (.iaload, 1) := by decide +kernel
theorem d_94_16 : decode (cM 94) 16 = .ok (.iload_n 1, 1) := by decide +kernel
theorem d_94_17 : decode (cM 94) 17 = .ok (.if_icmp .ne 5, 3) := by decide +kernel
theorem d_94_20 : decode (cM 94) 20 = .ok (.iconst 1, 1) := by decide +kernel
theorem d_94_21 : decode (cM 94) 21 = .ok (.ireturn, 1) := by decide +kernel
theorem d_94_22 : decode (cM 94) 22 = .ok (.iinc 2 1, 3) := by decide +kernel
theorem d_94_25 : decode (cM 94) 25 = .ok (.goto (-23), 3) := by decide +kernel
theorem d_94_28 : decode (cM 94) 28 = .ok (.iconst 0, 1) := by decide +kernel
theorem d_94_29 : decode (cM 94) 29 = .ok (.ireturn, 1) := by decide +kernel
theorem d_95_0 : decode (cM 95) 0 = .ok (.iconst 0, 1) := by decide +kernel
theorem d_95_1 : decode (cM 95) 1 = .ok (.istore_n 2, 1) := by decide +kernel
theorem d_95_2 : decode (cM 95) 2 = .ok (.iconst 0, 1) := by decide +kernel
theorem d_95_3 : decode (cM 95) 3 = .ok (.istore_n 3, 1) := by decide +kernel
theorem d_95_4 : decode (cM 95) 4 = .ok (.iload_n 3, 1) := by decide +kernel
theorem d_95_5 : decode (cM 95) 5 = .ok (.aload_n 0, 1) := by decide +kernel
theorem d_95_6 : decode (cM 95) 6 = .ok (.getfield 52, 3) := by decide +kernel
theorem d_95_9 : decode (cM 95) 9 = .ok (.if_icmp .ge 26, 3) := by decide +kernel
theorem d_95_12 : decode (cM 95) 12 = .ok (.iload_n 1, 1) := by decide +kernel
theorem d_95_13 : decode (cM 95) 13 = .ok (.iload_n 3, 1) := by decide +kernel
theorem d_95_14 : decode (cM 95) 14 = .ok (.ishr, 1) := by decide +kernel
theorem d_95_15 : decode (cM 95) 15 = .ok (.iconst 1, 1) := by decide +kernel
theorem d_95_16 : decode (cM 95) 16 = .ok (.iand, 1) := by decide +kernel
theorem d_95_17 : decode (cM 95) 17 = .ok (.ifCond .eq 12, 3) := by decide +kernel
theorem d_95_20 : decode (cM 95) 20 = .ok (.iload_n 2, 1) := by decide +kernel
theorem d_95_21 : decode (cM 95) 21 = .ok (.aload_n 0, 1) := by decide +kernel
theorem d_95_22 : decode (cM 95) 22 = .ok (.getfield 18, 3) := by decide +kernel
theorem d_95_25 : decode (cM 95) 25 = .ok (.iload_n 3, 1) := by decide +kernel
theorem d_95_26 : decode (cM 95) 26 = .ok (.iaload, 1) := by decide +kernel
theorem d_95_27 : decode (cM 95) 27 = .ok (.iadd, 1) := by decide +kernel
theorem d_95_28 : decode (cM 95) 28 = .ok (.istore_n 2, 1) := by decide +kernel
theorem d_95_29 : decode (cM 95) 29 = .ok (.iinc 3 1, 3) := by decide +kernel
theorem d_95_32 : decode (cM 95) 32 = .ok (.goto (-28), 3) := by decide +kernel
theorem d_95_35 : decode (cM 95) 35 = .ok (.iload_n 2, 1) := by decide +kernel
theorem d_95_36 : decode (cM 95) 36 = .ok (.ireturn, 1) := by decide +kernel
theorem d_96_0 : decode (cM 96) 0 = .ok (.aload_n 0, 1) := by decide +kernel
theorem d_96_1 : decode (cM 96) 1 = .ok (.invokespecial 3, 3) := by decide +kernel
theorem d_96_4 : decode (cM 96) 4 = .ok (.aload_n 0, 1) := by decide +kernel
theorem d_96_5 : decode (cM 96) 5 = .ok (.bipush 20, 2) := by decide +kernel
theorem d_96_7 : decode (cM 96) 7 = .ok (.newarray .int, 2) := by decide +kernel
theorem d_96_9 : decode (cM 96) 9 = .ok (.putfield 9, 3) := by decide +kernel
theorem d_96_12 : decode (cM 96) 12 = .ok (.aload_n 0, 1) := by decide +kernel
theorem d_96_13 : decode (cM 96) 13 = .ok (.bipush 20, 2) := by decide +kernel
theorem d_96_15 : decode (cM 96) 15 = .ok (.newarray .int, 2) := by decide +kernel
theorem d_96_17 : decode (cM 96) 17 = .ok (.putfield 15, 3) := by decide +kernel
theorem d_96_20 : decode (cM 96) 20 = .ok (.aload_n 0, 1) := by decide +kernel
theorem d_96_21 : decode (cM 96) 21 = .ok (.bipush 20, 2) := by decide +kernel
theorem d_96_23 : decode (cM 96) 23 = .ok (.newarray .int, 2) := by decide +kernel
theorem d_96_25 : decode (cM 96) 25 = .ok (.putfield 18, 3) := by decide +kernel
theorem d_96_28 : decode (cM 96) 28 = .ok (.aload_n 0, 1) := by decide +kernel
theorem d_96_29 : decode (cM 96) 29 = .ok (.bipush 20, 2) := by decide +kernel
theorem d_96_31 : decode (cM 96) 31 = .ok (.newarray .int, 2) := by decide +kernel
theorem d_96_33 : decode (cM 96) 33 = .ok (.putfield 21, 3) := by decide +kernel
theorem d_96_36 : decode (cM 96) 36 = .ok (.aload_n 0, 1) := by decide +kernel
theorem d_96_37 : decode (cM 96) 37 = .ok (.bipush 20, 2) := by decide +kernel
theorem d_96_39 : decode (cM 96) 39 = .ok (.newarray .int, 2) := by decide +kernel
theorem d_96_41 : decode (cM 96) 41 = .ok (.putfield 24, 3) := by decide +kernel
theorem d_96_44 : decode (cM 96) 44 = .ok (.aload_n 0, 1) := by decide +kernel
theorem d_96_45 : decode (cM 96) 45 = .ok (.bipush 20, 2) := by decide +kernel
theorem d_96_47 : decode (cM 96) 47 = .ok (.newarray .int, 2) := by decide +kernel
theorem d_96_49 : decode (cM 96) 49 = .ok (.putfield 27, 3) := by decide +kernel
theorem d_96_52 : decode (cM 96) 52 = .ok (.aload_n 0, 1) := by decide +kernel
theorem d_96_53 : decode (cM 96) 53 = .ok (.bipush 20, 2) := by decide +kernel
theorem d_96_55 : decode (cM 96) 55 = .ok (.newarray .int, 2) := by decide +kernel
theorem d_96_57 : decode (cM 96) 57 = .ok (.putfield 30, 3) := by decide +kernel
theorem d_96_60 : decode (cM 96) 60 = .ok (.return_, 1) := by decide +kernel
theorem d_97_0 : decode (cM 97) 0 = .ok (.aload_n 0, 1) := by decide +kernel
theorem d_97_1 : decode (cM 97) 1 = .ok (.iconst 0, 1) := by decide +kernel
theorem d_97_2 : decode (cM 97) 2 = .ok (.putfield 33, 3) := by decide +kernel
theorem d_97_5 : decode (cM 97) 5 = .ok (.aload_n 0, 1) := by decide +kernel
theorem d_97_6 : decode (cM 97) 6 = .ok (.iconst 0, 1) := by decide +kernel
theorem d_97_7 : decode (cM 97) 7 = .ok (.putfield 37, 3) := by decide +kernel
theorem d_97_10 : decode (cM 97) 10 = .ok (.return_, 1) := by decide +kernel
theorem d_98_0 : decode (cM 98) 0 = .ok (.aload_n 0, 1) := by decide +kernel
theorem d_98_1 : decode (cM 98) 1 = .ok (.getfield 37, 3) := by decide +kernel
theorem d_98_4 : decode (cM 98) 4 = .ok (.ifCond .lt 12, 3) := by decide +kernel
theorem d_98_7 : decode (cM 98) 7 = .ok (.aload_n 0, 1) := by decide +kernel
theorem d_98_8 : decode (cM 98) 8 = .ok (.getfield 37, 3) := by decide +kernel
theorem d_98_11 : decode (cM 98) 11 = .ok (.bipush 20, 2) := by decide +kernel
theorem d_98_13 : decode (cM 98) 13 = .ok (.if_icmp .lt 4, 3) := by decide +kernel
theorem d_98_16 : decode (cM 98) 16 = .ok (.return_, 1) := by decide +kernel
theorem d_98_17 : decode (cM 98) 17 = .ok (.iload_n 2, 1) := by decide +kernel
theorem d_98_18 : decode (cM 98) 18 = .ok (.ifCond .lt 13, 3) := by decide +kernel
theorem d_98_21 : decode (cM 98) 21 = .ok (.iload_n 2, 1) := by decide +kernel
theorem d_98_22 : decode (cM 98) 22 = .ok (.bipush 10, 2) := by decide +kernel
theorem d_98_24 : decode (cM 98) 24 = .ok (.if_icmp .ge 7, 3) := by decide +kernel
theorem d_98_27 : decode (cM 98) 27 = .ok (.iconst 1, 1) := by decide +kernel
theorem d_98_28 : decode (cM 98) 28 = .ok (.goto 4, 3) := by decide +kernel
theorem d_98_31 : decode (cM 98) 31 = .ok (.iconst 0, 1) := by decide +kernel
theorem d_98_32 : decode (cM 98) 32 = .ok (.istore_n 3, 1) := by decide +kernel
theorem d_98_33 : decode (cM 98) 33 = .ok (.aload_n 0, 1) := by decide +kernel
theorem d_98_34 : decode (cM 98) 34 = .ok (.getfield 9, 3) := by decide +kernel
theorem d_98_37 : decode (cM 98) 37 = .ok (.aload_n 0, 1) := by decide +kernel
theorem d_98_38 : decode (cM 98) 38 = .ok (.getfield 37, 3) := by decide +kernel
theorem d_98_41 : decode (cM 98) 41 = .ok (.aload_n 1, 1) := by decide +kernel
theorem d_98_42 : decode (cM 98) 42 = .ok (.getfield 40, 3) := by decide +kernel
theorem d_98_45 : decode (cM 98) 45 = .ok (.iastore, 1) := by decide +kernel
theorem d_98_46 : decode (cM 98) 46 = .ok (.aload_n 0, 1) := by decide +kernel
theorem d_98_47 : decode (cM 98) 47 = .ok (.getfield 15, 3) := by decide +kernel
theorem d_98_50 : decode (cM 98) 50 = .ok (.aload_n 0, 1) := by decide +kernel
theorem d_98_51 : decode (cM 98) 51 = .ok (.getfield 37, 3) := by decide +kernel
theorem d_98_54 : decode (cM 98) 54 = .ok (.aload_n 1, 1) := by decide +kernel
theorem d_98_55 : decode (cM 98) 55 = .ok (.getfield 45, 3) := by decide +kernel
theorem d_98_58 : decode (cM 98) 58 = .ok (.iastore, 1) := by decide +kernel
theorem d_98_59 : decode (cM 98) 59 = .ok (.aload_n 0, 1) := by decide +kernel
theorem d_98_60 : decode (cM 98) 60 = .ok (.getfield 18, 3) := by decide +kernel
theorem d_98_63 : decode (cM 98) 63 = .ok (.aload_n 0, 1) := by decide +kernel
theorem d_98_64 : decode (cM 98) 64 = .ok (.getfield 37, 3) := by decide +kernel
theorem d_98_67 : decode (cM 98) 67 = .ok (.aload_n 1, 1) := by decide +kernel
theorem d_98_68 : decode (cM 98) 68 = .ok (.getfield 48, 3) := by decide +kernel
theorem d_98_71 : decode (cM 98) 71 = .ok (.iastore, 1) := by decide +kernel
theorem d_98_72 : decode (cM 98) 72 = .ok (.aload_n 0, 1) := by decide +kernel
theorem d_98_73 : decode (cM 98) 73 = .ok (.getfield 21, 3) := by decide +kernel
theorem d_98_76 : decode (cM 98) 76 = .ok (.aload_n 0, 1) := by decide +kernel
theorem d_98_77 : decode (cM 98) 77 = .ok (.getfield 37, 3) := by decide +kernel
theorem d_98_80 : decode (cM 98) 80 = .ok (.aload_n 1, 1) := by decide +kernel
theorem d_98_81 : decode (cM 98) 81 = .ok (.getfield 51, 3) := by decide +kernel
theorem d_98_84 : decode (cM 98) 84 = .ok (.iastore, 1) := by decide +kernel
theorem d_98_85 : decode (cM 98) 85 = .ok (.aload_n 0, 1) := by decide +kernel
theorem d_98_86 : decode (cM 98) 86 = .ok (.getfield 24, 3) := by decide +kernel
theorem d_98_89 : decode (cM 98) 89 = .ok (.aload_n 0, 1) := by decide +kernel
theorem d_98_90 : decode (cM 98) 90 = .ok (.getfield 37, 3) := by decide +kernel
theorem d_98_93 : decode (cM 98) 93 = .ok (.iload_n 3, 1) := by decide +kernel
theorem d_98_94 : decode (cM 98) 94 = .ok (.ifCond .eq 7, 3) := by decide +kernel
theorem d_98_97 : decode (cM 98) 97 = .ok (.iload_n 2, 1) := by decide +kernel
theorem d_98_98 : decode (cM 98) 98 = .ok (.goto 4, 3) := by decide +kernel
theorem d_98_101 : decode (cM 98) 101 = .ok (.iconst (-1), 1) := by decide +kernel
theorem d_98_102 : decode (cM 98) 102 = .ok (.iastore, 1) := by decide +kernel
theorem d_98_103 : decode (cM 98) 103 = .ok (.aload_n 0, 1) := by decide +kernel
theorem d_98_104 : decode (cM 98) 104 = .ok (.getfield 27, 3) := by decide +kernel
theorem d_98_107 : decode (cM 98) 107 = .ok (.aload_n 0, 1) := by decide +kernel
theorem d_98_108 : decode (cM 98) 108 = .ok (.getfield 37, 3) := by decide +kernel
theorem d_98_111 : decode (cM 98) 111 = .ok (.iload_n 3, 1) := by decide +kernel
theorem d_98_112 : decode (cM 98) 112 = .ok (.ifCond .eq 12, 3) := by decide +kernel
theorem d_98_115 : decode (cM 98) 115 = .ok (.aload_n 1, 1) := by decide +kernel
theorem d_98_116 : decode (cM 98) 116 = .ok (.getfield 54, 3) := by decide +kernel
theorem d_98_119 : decode (cM 98) 119 = .ok (.iload_n 2, 1) := by decide +kernel
theorem d_98_120 : decode (cM 98) 120 = .ok (.iaload, 1) := by decide +kernel
theorem d_98_121 : decode (cM 98) 121 = .ok (.goto 4, 3) := by decide +kernel
theorem d_98_124 : decode (cM 98) 124 = .ok (.iconst 0, 1) := by decide +kernel
theorem d_98_125 : decode (cM 98) 125 = .ok (.iastore, 1) := by decide +kernel
theorem d_98_126 : decode (cM 98) 126 = .ok (.aload_n 0, 1) := by decide +kernel
theorem d_98_127 : decode (cM 98) 127 = .ok (.getfield 30, 3) := by decide +kernel
theorem d_98_130 : decode (cM 98) 130 = .ok (.aload_n 0, 1) := by decide +kernel
theorem d_98_131 : decode (cM 98) 131 = .ok (.getfield 37, 3) := by decide +kernel
theorem d_98_134 : decode (cM 98) 134 = .ok (.iload_n 3, 1) := by decide +kernel
theorem d_98_135 : decode (cM 98) 135 = .ok (.ifCond .eq 12, 3) := by decide +kernel
theorem d_98_138 : decode (cM 98) 138 = .ok (.aload_n 1, 1) := by decide +kernel
theorem d_98_139 : decode (cM 98) 139 = .ok (.getfield 55, 3) := by decide +kernel
theorem d_98_142 : decode (cM 98) 142 = .ok (.iload_n 2, 1) := by decide +kernel
theorem d_98_143 : decode (cM 98) 143 = .ok (.iaload, 1) := by decide +kernel
theorem d_98_144 : decode (cM 98) 144 = .ok (.goto 4, 3) := by decide +kernel
theorem d_98_147 : decode (cM 98) 147 = .ok (.iconst 0, 1) := by decide +kernel
theorem d_98_148 : decode (cM 98) 148 = .ok (.iastore, 1) := by decide +kernel
theorem d_98_149 : decode (cM 98) 149 = .ok (.aload_n 0, 1) := by decide +kernel
theorem d_98_150 : decode (cM 98) 150 = .ok (.aload_n 0, 1) := by decide +kernel
theorem d_98_151 : decode (cM 98) 151 = .ok (.getfield 37, 3) := by decide +kernel
theorem d_98_154 : decode (cM 98) 154 = .ok (.iconst 1, 1) := by decide +kernel
theorem d_98_155 : decode (cM 98) 155 = .ok (.iadd, 1) := by decide +kernel
theorem d_98_156 : decode (cM 98) 156 = .ok (.bipush 20, 2) := by decide +kernel
theorem d_98_158 : decode (cM 98) 158 = .ok (.if_icmp .ge 12, 3) := by decide +kernel
theorem d_98_161 : decode (cM 98) 161 = .ok (.aload_n 0, 1) := by decide +kernel
theorem d_98_162 : decode (cM 98) 162 = .ok (.getfield 37, 3) := by decide +kernel
theorem d_98_165 : decode (cM 98) 165 = .ok (.iconst 1, 1) := by decide +kernel
theorem d_98_166 : decode (cM 98) 166 = .ok (.iadd, 1) := by decide +kernel
theorem d_98_167 : decode (cM 98) 167 = .ok (.goto 4, 3) := by decide +kernel
theorem d_98_170 : decode (cM 98) 170 = .ok (.iconst 0, 1) := by decide +kernel
theorem d_98_171 : decode (cM 98) 171 = .ok (.putfield 37, 3) := by decide +kernel
theorem d_98_174 : decode (cM 98) 174 = .ok (.aload_n 0, 1) := by decide +kernel
theorem d_98_175 : decode (cM 98) 175 = .ok (.bipush 20, 2) := by decide +kernel
theorem d_98_177 : decode (cM 98) 177 = .ok (.aload_n 0, 1) := by decide +kernel
theorem d_98_178 : decode (cM 98) 178 = .ok (.getfield 33, 3) := by decide +kernel
theorem d_98_181 : decode (cM 98) 181 = .ok (.iconst 1, 1) := by decide +kernel
theorem d_98_182 : decode (cM 98) 182 = .ok (.iadd, 1) := by decide +kernel
theorem d_98_183 : decode (cM 98) 183 = .ok (.invokestatic 58, 3) := by decide +kernel
theorem kc_98_183 : callT (oM 98) 58 = some (1, 280, 2) ∧ fok 98 280 = true ∧ stM 280 = true := by decide +kernel
theorem d_98_186 : decode (cM 98) 186 = .ok (.putfield 33, 3) := by decide +kernel
theorem d_98_189 : decode (cM 98) 189 = .ok (.return_, 1) := by decide +kernel
theorem d_99_0 : decode (cM 99) 0 = .ok (.aload_n 0, 1) := by decide +kernel
theorem d_99_1 : decode (cM 99) 1 = .ok (.getfield 33, 3) := by decide +kernel
theorem d_99_4 : decode (cM 99) 4 = .ok (.ifCond .gt 5, 3) := by decide +kernel
theorem d_99_7 : decode (cM 99) 7 = .ok (.iconst (-1), 1) := by decide +kernel
theorem d_99_8 : decode (cM 99) 8 = .ok (.ireturn, 1) := by decide +kernel
theorem d_99_9 : decode (cM 99) 9 = .ok (.aload_n 0, 1) := by decide +kernel
theorem d_99_10 : decode (cM 99) 10 = .ok (.dup, 1) := by decide +kernel
theorem d_99_11 : decode (cM 99) 11 = .ok (.getfield 33, 3) := by decide +kernel
theorem d_99_14 : decode (cM 99) 14 = .ok (.iconst 1, 1) := by decide +kernel
theorem d_99_15 : decode (cM 99) 15 = .ok (.isub, 1) := by decide +kernel
theorem d_99_16 : decode (cM 99) 16 = .ok (.putfield 33, 3) := by decide +kernel
theorem d_99_19 : decode (cM 99) 19 = .ok (.aload_n 0, 1) := by decide +kernel
theorem d_99_20 : decode (cM 99) 20 = .ok (.aload_n 0, 1) := by decide +kernel
theorem d_99_21 : decode (cM 99) 21 = .ok (.getfield 37, 3) := by decide +kernel
theorem d_99_24 : decode (cM 99) 24 = .ok (.ifCond .le 12, 3) := by decide +kernel
theorem d_99_27 : decode (cM 99) 27 = .ok (.aload_n 0, 1) := by decide +kernel
theorem d_99_28 : decode (cM 99) 28 = .ok (.getfield 37, 3) := by decide +kernel
theorem d_99_31 : decode (cM 99) 31 = .ok (.iconst 1, 1) := by decide +kernel
theorem d_99_32 : decode (cM 99) 32 = .ok (.isub, 1) := by decide +kernel
theorem d_99_33 : decode (cM 99) 33 = .ok (.goto 5, 3) := by decide +kernel
theorem d_99_36 : decode (cM 99) 36 = .ok (.bipush 19, 2) := by decide +kernel
theorem d_99_38 : decode (cM 99) 38 = .ok (.putfield 37, 3) := by decide +kernel
theorem d_99_41 : decode (cM 99) 41 = .ok (.aload_n 1, 1) := by decide +kernel
theorem d_99_42 : decode (cM 99) 42 = .ok (.aload_n 0, 1) := by decide +kernel
theorem d_99_43 : decode (cM 99) 43 = .ok (.getfield 9, 3) := by decide +kernel
theorem d_99_46 : decode (cM 99) 46 = .ok (.aload_n 0, 1) := by decide +kernel
theorem d_99_47 : decode (cM 99) 47 = .ok (.getfield 37, 3) := by decide +kernel
theorem d_99_50 : decode (cM 99) 50 = .ok (.iaload, 1) := by decide +kernel
theorem d_99_51 : decode (cM 99) 51 = .ok (.putfield 40, 3) := by decide +kernel
theorem d_99_54 : decode (cM 99) 54 = .ok (.aload_n 1, 1) := by decide +kernel
theorem d_99_55 : decode (cM 99) 55 = .ok (.aload_n 0, 1) := by decide +kernel
theorem d_99_56 : decode (cM 99) 56 = .ok (.getfield 15, 3) := by decide +kernel
theorem d_99_59 : decode (cM 99) 59 = .ok (.aload_n 0, 1) := by decide +kernel
theorem d_99_60 : decode (cM 99) 60 = .ok (.getfield 37, 3) := by decide +kernel
theorem d_99_63 : decode (cM 99) 63 = .ok (.iaload, 1) := by decide +kernel
theorem d_99_64 : decode (cM 99) 64 = .ok (.putfield 45, 3) := by decide +kernel
theorem d_99_67 : decode (cM 99) 67 = .ok (.aload_n 1, 1) := by decide +kernel
theorem d_99_68 : decode (cM 99) 68 = .ok (.aload_n 0, 1) := by decide +kernel
theorem d_99_69 : decode (cM 99) 69 = .ok (.getfield 18, 3) := by decide +kernel
theorem d_99_72 : decode (cM 99) 72 = .ok (.aload_n 0, 1) := by decide +kernel
theorem d_99_73 : decode (cM 99) 73 = .ok (.getfield 37, 3) := by decide +kernel
theorem d_99_76 : decode (cM 99) 76 = .ok (.iaload, 1) := by decide +kernel
theorem d_99_77 : decode (cM 99) 77 = .ok (.putfield 48, 3) := by decide +kernel
theorem d_99_80 : decode (cM 99) 80 = .ok (.aload_n 1, 1) := by decide +kernel
theorem d_99_81 : decode (cM 99) 81 = .ok (.aload_n 0, 1) := by decide +kernel
theorem d_99_82 : decode (cM 99) 82 = .ok (.getfield 21, 3) := by decide +kernel
theorem d_99_85 : decode (cM 99) 85 = .ok (.aload_n 0, 1) := by decide +kernel
theorem d_99_86 : decode (cM 99) 86 = .ok (.getfield 37, 3) := by decide +kernel
theorem d_99_89 : decode (cM 99) 89 = .ok (.iaload, 1) := by decide +kernel
theorem d_99_90 : decode (cM 99) 90 = .ok (.putfield 51, 3) := by decide +kernel
theorem d_99_93 : decode (cM 99) 93 = .ok (.aload_n 0, 1) := by decide +kernel
theorem d_99_94 : decode (cM 99) 94 = .ok (.getfield 24, 3) := by decide +kernel
theorem d_99_97 : decode (cM 99) 97 = .ok (.aload_n 0, 1) := by decide +kernel
theorem d_99_98 : decode (cM 99) 98 = .ok (.getfield 37, 3) := by decide +kernel
theorem d_99_101 : decode (cM 99) 101 = .ok (.iaload, 1) := by decide +kernel
theorem d_99_102 : decode (cM 99) 102 = .ok (.istore_n 2, 1) := by decide +kernel
theorem d_99_103 : decode (cM 99) 103 = .ok (.iload_n 2, 1) := by decide +kernel
theorem d_99_104 : decode (cM 99) 104 = .ok (.ifCond .lt 39, 3) := by decide +kernel
theorem d_99_107 : decode (cM 99) 107 = .ok (.iload_n 2, 1) := by decide +kernel
theorem d_99_108 : decode (cM 99) 108 = .ok (.bipush 10, 2) := by decide +kernel
theorem d_99_110 : decode (cM 99) 110 = .ok (.if_icmp .ge 33, 3) := by decide +kernel
theorem d_99_113 : decode (cM 99) 113 = .ok (.aload_n 1, 1) := by decide +kernel
theorem d_99_114 : decode (cM 99) 114 = .ok (.getfield 54, 3) := by decide +kernel
theorem d_99_117 : decode (cM 99) 117 = .ok (.iload_n 2, 1) := by decide +kernel
theorem d_99_118 : decode (cM 99) 118 = .ok (.aload_n 0, 1) := by decide +kernel
theorem d_99_119 : decode (cM 99) 119 = .ok (.getfield 27, 3) := by decide +kernel
theorem d_99_122 : decode (cM 99) 122 = .ok (.aload_n 0, 1) := by decide +kernel
theorem d_99_123 : decode (cM 99) 123 = .ok (.getfield 37, 3) := by decide +kernel
theorem d_99_126 : decode (cM 99) 126 = .ok (.iaload, 1) := by decide +kernel
theorem d_99_127 : decode (cM 99) 127 = .ok (.iastore, 1) := by decide +kernel
theorem d_99_128 : decode (cM 99) 128 = .ok (.aload_n 1, 1) := by decide +kernel
theorem d_99_129 : decode (cM 99) 129 = .ok (.getfield 55, 3) := by decide +kernel
theorem d_99_132 : decode (cM 99) 132 = .ok (.iload_n 2, 1) := by decide +kernel
theorem d_99_133 : decode (cM 99) 133 = .ok (.aload_n 0, 1) := by decide +kernel
theorem d_99_134 : decode (cM 99) 134 = .ok (.getfield 30, 3) := by decide +kernel
theorem d_99_137 : decode (cM 99) 137 = .ok (.aload_n 0, 1) := by decide +kernel
theorem d_99_138 : decode (cM 99) 138 = .ok (.getfield 37, 3) := by decide +kernel
theorem d_99_141 : decode (cM 99) 141 = .ok (.iaload, 1) := by decide +kernel
theorem d_99_142 : decode (cM 99) 142 = .ok (.iastore, 1) := by decide +kernel
theorem d_99_143 : decode (cM 99) 143 = .ok (.aload_n 0, 1) := by decide +kernel
theorem d_99_144 : decode (cM 99) 144 = .ok (.getfield 33, 3) := by decide +kernel
theorem d_99_147 : decode (cM 99) 147 = .ok (.ireturn, 1) := by decide +kernel
theorem d_100_0 : decode (cM 100) 0 = .ok (.aload_n 0, 1) := by decide +kernel
theorem d_100_1 : decode (cM 100) 1 = .ok (.invokespecial 5, 3) := by decide +kernel
theorem d_100_4 : decode (cM 100) 4 = .ok (.aload_n 0, 1) := by decide +kernel
theorem d_100_5 : decode (cM 100) 5 = .ok (.new 11, 3) := by decide +kernel
theorem d_100_8 : decode (cM 100) 8 = .ok (.dup, 1) := by decide +kernel
theorem d_100_9 : decode (cM 100) 9 = .ok (.invokespecial 13, 3) := by decide +kernel
theorem kc_100_9 : callT (oM 100) 13 = some (2, 35, 0) ∧ fok 100 35 = true ∧ stM 35 = false := by decide +kernel
theorem d_100_12 : decode (cM 100) 12 = .ok (.putfield 14, 3) := by decide +kernel
theorem d_100_15 : decode (cM 100) 15 = .ok (.aload_n 0, 1) := by decide +kernel
theorem d_100_16 : decode (cM 100) 16 = .ok (.new 18, 3) := by decide +kernel
theorem d_100_19 : decode (cM 100) 19 = .ok (.dup, 1) := by decide +kernel
theorem d_100_20 : decode (cM 100) 20 = .ok (.invokespecial 20, 3) := by decide +kernel
theorem kc_100_20 : callT (oM 100) 20 = some (2, 87, 0) ∧ fok 100 87 = true ∧ stM 87 = false := by decide +kernel
theorem d_100_23 : decode (cM 100) 23 = .ok (.putfield 21, 3) := by decide +kernel
theorem d_100_26 : decode (cM 100) 26 = .ok (.aload_n 0, 1) := by decide +kernel
theorem d_100_27 : decode (cM 100) 27 = .ok (.new 25, 3) := by decide +kernel
theorem d_100_30 : decode (cM 100) 30 = .ok (.dup, 1) := by decide +kernel
theorem d_100_31 : decode (cM 100) 31 = .ok (.invokespecial 27, 3) := by decide +kernel
theorem kc_100_31 : callT (oM 100) 27 = some (3, 17, 0) ∧ fok 100 17 = true ∧ stM 17 = false := by decide +kernel
theorem d_100_34 : decode (cM 100) 34 = .ok (.putfield 28, 3) := by decide +kernel
theorem d_100_37 : decode (cM 100) 37 = .ok (.aload_n 0, 1) := by decide +kernel
theorem d_100_38 : decode (cM 100) 38 = .ok (.new 25, 3) := by decide +kernel
theorem d_100_41 : decode (cM 100) 41 = .ok (.dup, 1) := by decide +kernel
theorem d_100_42 : decode (cM 100) 42 = .ok (.invokespecial 27, 3) := by decide +kernel
theorem kc_100_42 : callT (oM 100) 27 = some (3, 17, 0) ∧ fok 100 17 = true ∧ stM 17 = false := by decide +kernel
theorem d_100_45 : decode (cM 100) 45 = .ok (.putfield 32, 3) := by decide +kernel
theorem d_100_48 : decode (cM 100) 48 = .ok (.aload_n 0, 1) := by decide +kernel
theorem d_100_49 : decode (cM 100) 49 = .ok (.new 25, 3) := by decide +kernel
theorem d_100_52 : decode (cM 100) 52 = .ok (.dup, 1) := by decide +kernel
theorem d_100_53 : decode (cM 100) 53 = .ok (.invokespecial 27, 3) := by decide +kernel
theorem kc_100_53 : callT (oM 100) 27 = some (3, 17, 0) ∧ fok 100 17 = true ∧ stM 17 = false := by decide +kernel
theorem d_100_56 : decode (cM 100) 56 = .ok (.putfield 35, 3) := by decide +kernel
theorem d_100_59 : decode (cM 100) 59 = .ok (.aload_n 0, 1) := by decide +kernel
theorem d_100_60 : decode (cM 100) 60 = .ok (.new 38, 3) := by decide +kernel
theorem d_100_63 : decode (cM 100) 63 = .ok (.dup, 1) := by decide +kernel
theorem d_100_64 : decode (cM 100) 64 = .ok (.invokespecial 40, 3) := by decide +kernel
theorem kc_100_64 : callT (oM 100) 40 = some (3, 4, 0) ∧ fok 100 4 = true ∧ stM 4 = false := by decide +kernel
theorem d_100_67 : decode (cM 100) 67 = .ok (.putfield 41, 3) := by decide +kernel
theorem d_100_70 : decode (cM 100) 70 = .ok (.aload_n 0, 1) := by decide +kernel
theorem d_100_71 : decode (cM 100) 71 = .ok (.new 45, 3) := by decide +kernel
theorem d_100_74 : decode (cM 100) 74 = .ok (.dup, 1) := by decide +kernel
theorem d_100_75 : decode (cM 100) 75 = .ok (.invokespecial 47, 3) := by decide +kernel
theorem kc_100_75 : callT (oM 100) 47 = some (3, 96, 0) ∧ fok 100 96 = true ∧ stM 96 = false := by decide +kernel
theorem d_100_78 : decode (cM 100) 78 = .ok (.putfield 48, 3) := by decide +kernel
theorem d_100_81 : decode (cM 100) 81 = .ok (.aload_n 0, 1) := by decide +kernel
theorem d_100_82 : decode (cM 100) 82 = .ok (.new 52, 3) := by decide +kernel
theorem d_100_85 : decode (cM 100) 85 = .ok (.dup, 1) := by decide +kernel
theorem d_100_86 : decode (cM 100) 86 = .ok (.invokespecial 54, 3) := by decide +kernel
theorem kc_100_86 : callT (oM 100) 54 = some (2, 26, 0) ∧ fok 100 26 = true ∧ stM 26 = false := by decide +kernel
theorem d_100_89 : decode (cM 100) 89 = .ok (.putfield 55, 3) := by decide +kernel
theorem d_100_92 : decode (cM 100) 92 = .ok (.aload_n 0, 1) := by decide +kernel
theorem d_100_93 : decode (cM 100) 93 = .ok (.new 59, 3) := by decide +kernel
theorem d_100_96 : decode (cM 100) 96 = .ok (.dup, 1) := by decide +kernel
theorem d_100_97 : decode (cM 100) 97 = .ok (.invokespecial 61, 3) := by decide +kernel
theorem kc_100_97 : callT (oM 100) 61 = some (2, 70, 0) ∧ fok 100 70 = true ∧ stM 70 = false := by decide +kernel
theorem d_100_100 : decode (cM 100) 100 = .ok (.putfield 62, 3) := by decide +kernel
theorem d_100_103 : decode (cM 100) 103 = .ok (.aload_n 0, 1) := by decide +kernel
theorem d_100_104 : decode (cM 100) 104 = .ok (.new 66, 3) := by decide +kernel
theorem d_100_107 : decode (cM 100) 107 = .ok (.dup, 1) := by decide +kernel
theorem d_100_108 : decode (cM 100) 108 = .ok (.invokespecial 68, 3) := by decide +kernel
theorem kc_100_108 : callT (oM 100) 68 = some (3, 0, 0) ∧ fok 100 0 = true ∧ stM 0 = false := by decide +kernel
theorem d_100_111 : decode (cM 100) 111 = .ok (.putfield 69, 3) := by decide +kernel
theorem d_100_114 : decode (cM 100) 114 = .ok (.aload_n 0, 1) := by decide +kernel
theorem d_100_115 : decode (cM 100) 115 = .ok (.iconst 0, 1) := by decide +kernel
theorem d_100_116 : decode (cM 100) 116 = .ok (.putfield 73, 3) := by decide +kernel
theorem d_100_119 : decode (cM 100) 119 = .ok (.return_, 1) := by decide +kernel
theorem d_101_0 : decode (cM 101) 0 = .ok (.aload_n 0, 1) := by decide +kernel
theorem d_101_1 : decode (cM 101) 1 = .ok (.getfield 14, 3) := by decide +kernel
theorem d_101_4 : decode (cM 101) 4 = .ok (.getfield 77, 3) := by decide +kernel
theorem d_101_7 : decode (cM 101) 7 = .ok (.bipush 20, 2) := by decide +kernel
theorem d_101_9 : decode (cM 101) 9 = .ok (.iadd, 1) := by decide +kernel
theorem d_101_10 : decode (cM 101) 10 = .ok (.sipush 700, 3) := by decide +kernel
theorem d_101_13 : decode (cM 101) 13 = .ok (.if_icmp .le 5, 3) := by decide +kernel
theorem d_101_16 : decode (cM 101) 16 = .ok (.iconst (-1), 1) := by decide +kernel
theorem d_101_17 : decode (cM 101) 17 = .ok (.ireturn, 1) := by decide +kernel
theorem d_101_18 : decode (cM 101) 18 = .ok (.aload_n 0, 1) := by decide +kernel
theorem d_101_19 : decode (cM 101) 19 = .ok (.getfield 14, 3) := by decide +kernel
theorem d_101_22 : decode (cM 101) 22 = .ok (.iload_n 1, 1) := by decide +kernel
theorem d_101_23 : decode (cM 101) 23 = .ok (.invokevirtual 81, 3) := by decide +kernel
theorem kc_101_23 : callT (oM 101) 81 = some (0, 36, 1) ∧ fok 101 36 = true ∧ stM 36 = false := by decide +kernel
theorem d_101_26 : decode (cM 101) 26 = .ok (.aload_n 0, 1) := by decide +kernel
theorem d_101_27 : decode (cM 101) 27 = .ok (.getfield 14, 3) := by decide +kernel
theorem d_101_30 : decode (cM 101) 30 = .ok (.iload_n 2, 1) := by decide +kernel
theorem d_101_31 : decode (cM 101) 31 = .ok (.invokevirtual 81, 3) := by decide +kernel
theorem kc_101_31 : callT (oM 101) 81 = some (0, 36, 1) ∧ fok 101 36 = true ∧ stM 36 = false := by decide +kernel
theorem d_101_34 : decode (cM 101) 34 = .ok (.aload_n 0, 1) := by decide +kernel
theorem d_101_35 : decode (cM 101) 35 = .ok (.getfield 14, 3) := by decide +kernel
theorem d_101_38 : decode (cM 101) 38 = .ok (.iload_n 3, 1) := by decide +kernel
theorem d_101_39 : decode (cM 101) 39 = .ok (.invokevirtual 81, 3) := by decide +kernel
theorem kc_101_39 : callT (oM 101) 81 = some (0, 36, 1) ∧ fok 101 36 = true ∧ stM 36 = false := by decide +kernel
theorem d_101_42 : decode (cM 101) 42 = .ok (.aload_n 0, 1) := by decide +kernel
theorem d_101_43 : decode (cM 101) 43 = .ok (.getfield 14, 3) := by decide +kernel
theorem d_101_46 : decode (cM 101) 46 = .ok (.iload 4, 2) := by decide +kernel
theorem d_101_48 : decode (cM 101) 48 = .ok (.invokevirtual 81, 3) := by decide +kernel
theorem kc_101_48 : callT (oM 101) 81 = some (0, 36, 1) ∧ fok 101 36 = true ∧ stM 36 = false := by decide +kernel
theorem d_101_51 : decode (cM 101) 51 = .ok (.aload_n 0, 1) := by decide +kernel
theorem d_101_52 : decode (cM 101) 52 = .ok (.getfield 14, 3) := by decide +kernel
theorem d_101_55 : decode (cM 101) 55 = .ok (.iload 5, 2) := by decide +kernel
theorem d_101_57 : decode (cM 101) 57 = .ok (.invokevirtual 81, 3) := by decide +kernel
theorem kc_101_57 : callT (oM 101) 81 = some (0, 36, 1) ∧ fok 101 36 = true ∧ stM 36 = false := by decide +kernel
theorem d_101_60 : decode (cM 101) 60 = .ok (.aload_n 0, 1) := by decide +kernel
theorem d_101_61 : decode (cM 101) 61 = .ok (.getfield 14, 3) := by decide +kernel
theorem d_101_64 : decode (cM 101) 64 = .ok (.getfield 77, 3) := by decide +kernel
theorem d_101_67 : decode (cM 101) 67 = .ok (.ireturn, 1) := by decide +kernel
theorem d_102_0 : decode (cM 102) 0 = .ok (.iload_n 1, 1) := by decide +kernel
theorem d_102_1 : decode (cM 102) 1 = .ok (.ifCond .lt 14, 3) := by decide +kernel
theorem d_102_4 : decode (cM 102) 4 = .ok (.iload_n 1, 1) := by decide +kernel
theorem d_102_5 : decode (cM 102) 5 = .ok (.aload_n 0, 1) := by decide +kernel
theorem d_102_6 : decode (cM 102) 6 = .ok (.getfield 14, 3) := by decide +kernel
theorem d_102_9 : decode (cM 102) 9 = .ok (.getfield 77, 3) := by decide +kernel
theorem d_102_12 : decode (cM 102) 12 = .ok (.if_icmp .le 6, 3) := by decide +kernel
theorem d_102_15 : decode (cM 102) 15 = .ok (.bipush (-2), 2) := by decide +kernel
theorem d_102_17 : decode (cM 102) 17 = .ok (.ireturn, 1) := by decide +kernel
theorem d_102_18 : decode (cM 102) 18 = .ok (.aload_n 0, 1) := by decide +kernel
theorem d_102_19 : decode (cM 102) 19 = .ok (.getfield 14, 3) := by decide +kernel
theorem d_102_22 : decode (cM 102) 22 = .ok (.iload_n 1, 1) := by decide +kernel
theorem d_102_23 : decode (cM 102) 23 = .ok (.invokevirtual 85, 3) := by decide +kernel
theorem kc_102_23 : callT (oM 102) 85 = some (0, 38, 1) ∧ fok 102 38 = true ∧ stM 38 = false := by decide +kernel
theorem d_102_26 : decode (cM 102) 26 = .ok (.iconst 0, 1) := by decide +kernel
theorem d_102_27 : decode (cM 102) 27 = .ok (.istore_n 2, 1) := by decide +kernel
theorem d_102_28 : decode (cM 102) 28 = .ok (.iload_n 2, 1) := by decide +kernel
theorem d_102_29 : decode (cM 102) 29 = .ok (.iload_n 1, 1) := by decide +kernel
theorem d_102_30 : decode (cM 102) 30 = .ok (.if_icmp .gt 29, 3) := by decide +kernel
theorem d_102_33 : decode (cM 102) 33 = .ok (.aload_n 0, 1) := by decide +kernel
theorem d_102_34 : decode (cM 102) 34 = .ok (.getfield 14, 3) := by decide +kernel
theorem d_102_37 : decode (cM 102) 37 = .ok (.invokevirtual 88, 3) := by decide +kernel
theorem kc_102_37 : callT (oM 102) 88 = some (0, 39, 0) ∧ fok 102 39 = true ∧ stM 39 = false := by decide +kernel
theorem d_102_40 : decode (cM 102) 40 = .ok (.ifCond .eq 19, 3) := by decide +kernel
theorem d_102_43 : decode (cM 102) 43 = .ok (.aload_n 0, 1) := by decide +kernel
theorem d_102_44 : decode (cM 102) 44 = .ok (.getfield 14, 3) := by decide +kernel
theorem d_102_47 : decode (cM 102) 47 = .ok (.invokevirtual 92, 3) := by decide +kernel
theorem kc_102_47 : callT (oM 102) 92 = some (0, 51, 0) ∧ fok 102 51 = true ∧ stM 51 = false := by decide +kernel
theorem d_102_50 : decode (cM 102) 50 = .ok (.ifCond .eq 9, 3) := by decide +kernel
theorem d_102_53 : decode (cM 102) 53 = .ok (.iinc 2 1, 3) := by decide +kernel
theorem d_102_56 : decode (cM 102) 56 = .ok (.goto (-28), 3) := by decide +kernel
theorem d_102_59 : decode (cM 102) 59 = .ok (.aload_n 0, 1) := by decide +kernel
theorem d_102_60 : decode (cM 102) 60 = .ok (.getfield 14, 3) := by decide +kernel
theorem d_102_63 : decode (cM 102) 63 = .ok (.getfield 95, 3) := by decide +kernel
theorem d_102_66 : decode (cM 102) 66 = .ok (.ifCond .eq 5, 3) := by decide +kernel
theorem d_102_69 : decode (cM 102) 69 = .ok (.iconst (-1), 1) := by decide +kernel
theorem d_102_70 : decode (cM 102) 70 = .ok (.ireturn, 1) := by decide +kernel
theorem d_102_71 : decode (cM 102) 71 = .ok (.aload_n 0, 1) := by decide +kernel
theorem d_102_72 : decode (cM 102) 72 = .ok (.aload_n 0, 1) := by decide +kernel
theorem d_102_73 : decode (cM 102) 73 = .ok (.getfield 14, 3) := by decide +kernel
theorem d_102_76 : decode (cM 102) 76 = .ok (.aload_n 0, 1) := by decide +kernel
theorem d_102_77 : decode (cM 102) 77 = .ok (.getfield 21, 3) := by decide +kernel
theorem d_102_80 : decode (cM 102) 80 = .ok (.invokevirtual 98, 3) := by decide +kernel
theorem kc_102_80 : callT (oM 102) 98 = some (0, 37, 1) ∧ fok 102 37 = true ∧ stM 37 = false := by decide +kernel
theorem d_102_83 : decode (cM 102) 83 = .ok (.putfield 21, 3) := by decide +kernel
theorem d_102_86 : decode (cM 102) 86 = .ok (.aload_n 0, 1) := by decide +kernel
theorem d_102_87 : decode (cM 102) 87 = .ok (.getfield 28, 3) := by decide +kernel
theorem d_102_90 : decode (cM 102) 90 = .ok (.aload_n 0, 1) := by decide +kernel
theorem d_102_91 : decode (cM 102) 91 = .ok (.getfield 21, 3) := by decide +kernel
theorem d_102_94 : decode (cM 102) 94 = .ok (.invokevirtual 102, 3) := by decide +kernel
theorem kc_102_94 : callT (oM 102) 102 = some (0, 18, 1) ∧ fok 102 18 = true ∧ stM 18 = false := by decide +kernel
theorem d_102_97 : decode (cM 102) 97 = .ok (.aload_n 0, 1) := by decide +kernel
theorem d_102_98 : decode (cM 102) 98 = .ok (.getfield 55, 3) := by decide +kernel
theorem d_102_101 : decode (cM 102) 101 = .ok (.invokevirtual 105, 3) := by decide +kernel
theorem kc_102_101 : callT (oM 102) 105 = some (0, 27, 0) ∧ fok 102 27 = true ∧ stM 27 = false := by decide +kernel
theorem d_102_104 : decode (cM 102) 104 = .ok (.aload_n 0, 1) := by decide +kernel
theorem d_102_105 : decode (cM 102) 105 = .ok (.getfield 48, 3) := by decide +kernel
theorem d_102_108 : decode (cM 102) 108 = .ok (.invokevirtual 108, 3) := by decide +kernel
theorem kc_102_108 : callT (oM 102) 108 = some (0, 97, 0) ∧ fok 102 97 = true ∧ stM 97 = false := by decide +kernel
theorem d_102_111 : decode (cM 102) 111 = .ok (.aload_n 0, 1) := by decide +kernel
theorem d_102_112 : decode (cM 102) 112 = .ok (.iconst 0, 1) := by decide +kernel
theorem d_102_113 : decode (cM 102) 113 = .ok (.putfield 73, 3) := by decide +kernel
theorem d_102_116 : decode (cM 102) 116 = .ok (.iload_n 2, 1) := by decide +kernel
theorem d_102_117 : decode (cM 102) 117 = .ok (.ireturn, 1) := by decide +kernel
theorem d_103_0 : decode (cM 103) 0 = .ok (.iload_n 1, 1) := by decide +kernel
theorem d_103_1 : decode (cM 103) 1 = .ok (.lookupswitch 43 #[(0, 27), (1, 35)], 27) := by decide +kernel
theorem d_103_28 : decode (cM 103) 28 = .ok (.aload_n 0, 1) := by decide +kernel
theorem d_103_29 : decode (cM 103) 29 = .ok (.getfield 14, 3) := by decide +kernel
theorem d_103_32 : decode (cM 103) 32 = .ok (.getfield 95, 3) := by decide +kernel
theorem d_103_35 : decode (cM 103) 35 = .ok (.ireturn, 1) := by decide +kernel
theorem d_103_36 : decode (cM 103) 36 = .ok (.aload_n 0, 1) := by decide +kernel
theorem d_103_37 : decode (cM 103) 37 = .ok (.getfield 14, 3) := by decide +kernel
theorem d_103_40 : decode (cM 103) 40 = .ok (.getfield 109, 3) := by decide +kernel
theorem d_103_43 : decode (cM 103) 43 = .ok (.ireturn, 1) := by decide +kernel
theorem d_103_44 : decode (cM 103) 44 = .ok (.iconst (-1), 1) := by decide +kernel
theorem d_103_45 : decode (cM 103) 45 = .ok (.ireturn, 1) := by decide +kernel
theorem d_104_0 : decode (cM 104) 0 = .ok (.iload_n 1, 1) := by decide +kernel
theorem d_104_1 : decode (cM 104) 1 = .ok (.lookupswitch 45 #[(0, 27), (1, 36)], 27) := by decide +kernel
theorem d_104_28 : decode (cM 104) 28 = .ok (.aload_n 0, 1) := by decide +kernel
theorem d_104_29 : decode (cM 104) 29 = .ok (.getfield 21, 3) := by decide +kernel
theorem d_104_32 : decode (cM 104) 32 = .ok (.iload_n 2, 1) := by decide +kernel
theorem d_104_33 : decode (cM 104) 33 = .ok (.invokevirtual 112, 3) := by decide +kernel
theorem kc_104_33 : callT (oM 104) 112 = some (0, 89, 1) ∧ fok 104 89 = true ∧ stM 89 = false := by decide +kernel
theorem d_104_36 : decode (cM 104) 36 = .ok (.ireturn, 1) := by decide +kernel
theorem d_104_37 : decode (cM 104) 37 = .ok (.aload_n 0, 1) := by decide +kernel
theorem d_104_38 : decode (cM 104) 38 = .ok (.getfield 21, 3) := by decide +kernel
theorem d_104_41 : decode (cM 104) 41 = .ok (.iload_n 2, 1) := by decide +kernel
theorem d_104_42 : decode (cM 104) 42 = .ok (.invokevirtual 116, 3) := by decide +kernel
theorem kc_104_42 : callT (oM 104) 116 = some (0, 90, 1) ∧ fok 104 90 = true ∧ stM 90 = false := by decide +kernel
theorem d_104_45 : decode (cM 104) 45 = .ok (.ireturn, 1) := by decide +kernel
theorem d_104_46 : decode (cM 104) 46 = .ok (.iconst (-1), 1) := by decide +kernel
theorem d_104_47 : decode (cM 104) 47 = .ok (.ireturn, 1) := by decide +kernel
theorem d_105_0 : decode (cM 105) 0 = .ok (.aload_n 0, 1) := by decide +kernel
theorem d_105_1 : decode (cM 105) 1 = .ok (.iload_n 1, 1) := by decide +kernel
theorem d_105_2 : decode (cM 105) 2 = .ok (.invokevirtual 148, 3) := by decide +kernel
theorem kc_105_2 : callT (oM 105) 148 = some (0, 143, 1) ∧ fok 105 143 = true ∧ stM 143 = false := by decide +kernel
theorem d_105_5 : decode (cM 105) 5 = .ok (.ifCond .ne 5, 3) := by decide +kernel
theorem d_105_8 : decode (cM 105) 8 = .ok (.iconst (-1), 1) := by decide +kernel
theorem d_105_9 : decode (cM 105) 9 = .ok (.ireturn, 1) := by decide +kernel
theorem d_105_10 : decode (cM 105) 10 = .ok (.iload_n 2, 1) := by decide +kernel
theorem d_105_11 : decode (cM 105) 11 = .ok (.tableswitch 71 0 3 #[29, 39, 51, 61], 29) := by decide +kernel
theorem d_105_40 : decode (cM 105) 40 = .ok (.aload_n 0, 1) := by decide +kernel
theorem d_105_41 : decode (cM 105) 41 = .ok (.getfield 21, 3) := by decide +kernel
theorem d_105_44 : decode (cM 105) 44 = .ok (.getfield 151, 3) := by decide +kernel
theorem d_105_47 : decode (cM 105) 47 = .ok (.iload_n 1, 1) := by decide +kernel
theorem d_105_48 : decode (cM 105) 48 = .ok (.iaload, 1) := by decide +kernel
theorem d_105_49 : decode (cM 105) 49 = .ok (.ireturn, 1) := by decide +kernel
theorem d_105_50 : decode (cM 105) 50 = .ok (.aload_n 0, 1) := by decide +kernel
theorem d_105_51 : decode (cM 105) 51 = .ok (.getfield 28, 3) := by decide +kernel
theorem d_105_54 : decode (cM 105) 54 = .ok (.getfield 154, 3) := by decide +kernel
theorem d_105_57 : decode (cM 105) 57 = .ok (.iload_n 1, 1) := by decide +kernel
theorem d_105_58 : decode (cM 105) 58 = .ok (.ishr, 1) := by decide +kernel
theorem d_105_59 : decode (cM 105) 59 = .ok (.iconst 1, 1) := by decide +kernel
theorem d_105_60 : decode (cM 105) 60 = .ok (.iand, 1) := by decide +kernel
theorem d_105_61 : decode (cM 105) 61 = .ok (.ireturn, 1) := by decide +kernel
theorem d_105_62 : decode (cM 105) 62 = .ok (.aload_n 0, 1) := by decide +kernel
theorem d_105_63 : decode (cM 105) 63 = .ok (.getfield 28, 3) := by decide +kernel
theorem d_105_66 : decode (cM 105) 66 = .ok (.getfield 157, 3) := by decide +kernel
theorem d_105_69 : decode (cM 105) 69 = .ok (.iload_n 1, 1) := by decide +kernel
theorem d_105_70 : decode (cM 105) 70 = .ok (.iaload, 1) := by decide +kernel
theorem d_105_71 : decode (cM 105) 71 = .ok (.ireturn, 1) := by decide +kernel
theorem d_105_72 : decode (cM 105) 72 = .ok (.aload_n 0, 1) := by decide +kernel
theorem d_105_73 : decode (cM 105) 73 = .ok (.getfield 28, 3) := by decide +kernel
theorem d_105_76 : decode (cM 105) 76 = .ok (.getfield 160, 3) := by decide +kernel
theorem d_105_79 : decode (cM 105) 79 = .ok (.iload_n 1, 1) := by decide +kernel
theorem d_105_80 : decode (cM 105) 80 = .ok (.iaload, 1) := by decide +kernel
theorem d_105_81 : decode (cM 105) 81 = .ok (.ireturn, 1) := by decide +kernel
theorem d_105_82 : decode (cM 105) 82 = .ok (.iconst (-1), 1) := by decide +kernel
theorem d_105_83 : decode (cM 105) 83 = .ok (.ireturn, 1) := by decide +kernel
theorem d_106_0 : decode (cM 106) 0 = .ok (.iload_n 1, 1) := by decide +kernel
theorem d_106_1 : decode (cM 106) 1 = .ok (.tableswitch 51 0 2 #[27, 35, 43], 27) := by decide +kernel
theorem d_106_28 : decode (cM 106) 28 = .ok (.aload_n 0, 1) := by decide +kernel
theorem d_106_29 : decode (cM 106) 29 = .ok (.getfield 28, 3) := by decide +kernel
theorem d_106_32 : decode (cM 106) 32 = .ok (.invokevirtual 163, 3) := by decide +kernel
theorem kc_106_32 : callT (oM 106) 163 = some (0, 20, 0) ∧ fok 106 20 = true ∧ stM 20 = false := by decide +kernel
theorem d_106_35 : decode (cM 106) 35 = .ok (.ireturn, 1) := by decide +kernel
theorem d_106_36 : decode (cM 106) 36 = .ok (.aload_n 0, 1) := by decide +kernel
theorem d_106_37 : decode (cM 106) 37 = .ok (.getfield 28, 3) := by decide +kernel
theorem d_106_40 : decode (cM 106) 40 = .ok (.getfield 130, 3) := by decide +kernel
theorem d_106_43 : decode (cM 106) 43 = .ok (.ireturn, 1) := by decide +kernel
theorem d_106_44 : decode (cM 106) 44 = .ok (.aload_n 0, 1) := by decide +kernel
theorem d_106_45 : decode (cM 106) 45 = .ok (.getfield 28, 3) := by decide +kernel
theorem d_106_48 : decode (cM 106) 48 = .ok (.getfield 133, 3) := by decide +kernel
theorem d_106_51 : decode (cM 106) 51 = .ok (.ireturn, 1) := by decide +kernel
theorem d_106_52 : decode (cM 106) 52 = .ok (.iconst (-1), 1) := by decide +kernel
theorem d_106_53 : decode (cM 106) 53 = .ok (.ireturn, 1) := by decide +kernel
theorem d_107_0 : decode (cM 107) 0 = .ok (.iload_n 1, 1) := by decide +kernel
theorem d_107_1 : decode (cM 107) 1 = .ok (.iconst 2, 1) := by decide +kernel
theorem d_107_2 : decode (cM 107) 2 = .ok (.if_icmp .ne 11, 3) := by decide +kernel
theorem d_107_5 : decode (cM 107) 5 = .ok (.aload_n 0, 1) := by decide +kernel
theorem d_107_6 : decode (cM 107) 6 = .ok (.iload_n 2, 1) := by decide +kernel
theorem d_107_7 : decode (cM 107) 7 = .ok (.invokevirtual 119, 3) := by decide +kernel
theorem kc_107_7 : callT (oM 107) 119 = some (0, 142, 1) ∧ fok 107 142 = true ∧ stM 142 = false := by decide +kernel
theorem d_107_10 : decode (cM 107) 10 = .ok (.goto 8, 3) := by decide +kernel
theorem d_107_13 : decode (cM 107) 13 = .ok (.aload_n 0, 1) := by decide +kernel
theorem d_107_14 : decode (cM 107) 14 = .ok (.iload_n 2, 1) := by decide +kernel
theorem d_107_15 : decode (cM 107) 15 = .ok (.invokevirtual 148, 3) := by decide +kernel
theorem kc_107_15 : callT (oM 107) 148 = some (0, 143, 1) ∧ fok 107 143 = true ∧ stM 143 = false := by decide +kernel
theorem d_107_18 : decode (cM 107) 18 = .ok (.istore_n 3, 1) := by decide +kernel
theorem d_107_19 : decode (cM 107) 19 = .ok (.iload_n 1, 1) := by decide +kernel
theorem d_107_20 : decode (cM 107) 20 = .ok (.ifCond .lt 12, 3) := by decide +kernel
theorem d_107_23 : decode (cM 107) 23 = .ok (.iload_n 1, 1) := by decide +kernel
theorem d_107_24 : decode (cM 107) 24 = .ok (.iconst 3, 1) := by decide +kernel
theorem d_107_25 : decode (cM 107) 25 = .ok (.if_icmp .ge 7, 3) := by decide +kernel
theorem d_107_28 : decode (cM 107) 28 = .ok (.iload_n 3, 1) := by decide +kernel
theorem d_107_29 : decode (cM 107) 29 = .ok (.ifCond .ne 7, 3) := by decide +kernel
theorem d_107_32 : decode (cM 107) 32 = .ok (.ldc2_w 167, 3) := by decide +kernel
theorem d_107_35 : decode (cM 107) 35 = .ok (.lreturn, 1) := by decide +kernel
theorem d_107_36 : decode (cM 107) 36 = .ok (.aload_n 0, 1) := by decide +kernel
theorem d_107_37 : decode (cM 107) 37 = .ok (.getfield 41, 3) := by decide +kernel
theorem d_107_40 : decode (cM 107) 40 = .ok (.aload_n 0, 1) := by decide +kernel
theorem d_107_41 : decode (cM 107) 41 = .ok (.getfield 21, 3) := by decide +kernel
theorem d_107_44 : decode (cM 107) 44 = .ok (.aload_n 0, 1) := by decide +kernel
theorem d_107_45 : decode (cM 107) 45 = .ok (.getfield 28, 3) := by decide +kernel
theorem d_107_48 : decode (cM 107) 48 = .ok (.iload_n 1, 1) := by decide +kernel
theorem d_107_49 : decode (cM 107) 49 = .ok (.iload_n 2, 1) := by decide +kernel
theorem d_107_50 : decode (cM 107) 50 = .ok (.invokevirtual 169, 3) := by decide +kernel
theorem kc_107_50 : callT (oM 107) 169 = some (0, 11, 4) ∧ fok 107 11 = true ∧ stM 11 = false := by decide +kernel
theorem d_107_53 : decode (cM 107) 53 = .ok (.lreturn, 1) := by decide +kernel
theorem d_108_0 : decode (cM 108) 0 = .ok (.aload_n 0, 1) := by decide +kernel
theorem d_108_1 : decode (cM 108) 1 = .ok (.iload_n 1, 1) := by decide +kernel
theorem d_108_2 : decode (cM 108) 2 = .ok (.invokevirtual 148, 3) := by decide +kernel
theorem kc_108_2 : callT (oM 108) 148 = some (0, 143, 1) ∧ fok 108 143 = true ∧ stM 143 = false := by decide +kernel
theorem d_108_5 : decode (cM 108) 5 = .ok (.ifCond .ne 5, 3) := by decide +kernel
theorem d_108_8 : decode (cM 108) 8 = .ok (.iconst (-1), 1) := by decide +kernel
theorem d_108_9 : decode (cM 108) 9 = .ok (.ireturn, 1) := by decide +kernel
theorem d_108_10 : decode (cM 108) 10 = .ok (.aload_n 0, 1) := by decide +kernel
theorem d_108_11 : decode (cM 108) 11 = .ok (.getfield 28, 3) := by decide +kernel
theorem d_108_14 : decode (cM 108) 14 = .ok (.getfield 154, 3) := by decide +kernel
theorem d_108_17 : decode (cM 108) 17 = .ok (.iload_n 1, 1) := by decide +kernel
theorem d_108_18 : decode (cM 108) 18 = .ok (.ishr, 1) := by decide +kernel
theorem d_108_19 : decode (cM 108) 19 = .ok (.iconst 1, 1) := by decide +kernel
theorem d_108_20 : decode (cM 108) 20 = .ok (.iand, 1) := by decide +kernel
theorem d_108_21 : decode (cM 108) 21 = .ok (.ifCond .eq 6, 3) := by decide +kernel
theorem d_108_24 : decode (cM 108) 24 = .ok (.bipush (-2), 2) := by decide +kernel
theorem d_108_26 : decode (cM 108) 26 = .ok (.ireturn, 1) := by decide +kernel
theorem d_108_27 : decode (cM 108) 27 = .ok (.aload_n 0, 1) := by decide +kernel
theorem d_108_28 : decode (cM 108) 28 = .ok (.getfield 48, 3) := by decide +kernel
theorem d_108_31 : decode (cM 108) 31 = .ok (.aload_n 0, 1) := by decide +kernel
theorem d_108_32 : decode (cM 108) 32 = .ok (.getfield 28, 3) := by decide +kernel
theorem d_108_35 : decode (cM 108) 35 = .ok (.iload_n 1, 1) := by decide +kernel
theorem d_108_36 : decode (cM 108) 36 = .ok (.invokevirtual 173, 3) := by decide +kernel
theorem kc_108_36 : callT (oM 108) 173 = some (0, 98, 2) ∧ fok 108 98 = true ∧ stM 98 = false := by decide +kernel
theorem d_108_39 : decode (cM 108) 39 = .ok (.aload_n 0, 1) := by decide +kernel
theorem d_108_40 : decode (cM 108) 40 = .ok (.getfield 41, 3) := by decide +kernel
theorem d_108_43 : decode (cM 108) 43 = .ok (.invokevirtual 177, 3) := by decide +kernel
theorem kc_108_43 : callT (oM 108) 177 = some (0, 5, 0) ∧ fok 108 5 = true ∧ stM 5 = false := by decide +kernel
theorem d_108_46 : decode (cM 108) 46 = .ok (.aload_n 0, 1) := by decide +kernel
theorem d_108_47 : decode (cM 108) 47 = .ok (.getfield 41, 3) := by decide +kernel
theorem d_108_50 : decode (cM 108) 50 = .ok (.aload_n 0, 1) := by decide +kernel
theorem d_108_51 : decode (cM 108) 51 = .ok (.getfield 21, 3) := by decide +kernel
theorem d_108_54 : decode (cM 108) 54 = .ok (.aload_n 0, 1) := by decide +kernel
theorem d_108_55 : decode (cM 108) 55 = .ok (.getfield 28, 3) := by decide +kernel
theorem d_108_58 : decode (cM 108) 58 = .ok (.iload_n 1, 1) := by decide +kernel
theorem d_108_59 : decode (cM 108) 59 = .ok (.invokevirtual 180, 3) := by decide +kernel
theorem kc_108_59 : callT (oM 108) 180 = some (0, 9, 3) ∧ fok 108 9 = true ∧ stM 9 = false := by decide +kernel
theorem d_108_62 : decode (cM 108) 62 = .ok (.aload_n 0, 1) := by decide +kernel
theorem d_108_63 : decode (cM 108) 63 = .ok (.getfield 28, 3) := by decide +kernel
theorem d_108_66 : decode (cM 108) 66 = .ok (.invokevirtual 163, 3) := by decide +kernel
theorem kc_108_66 : callT (oM 108) 163 = some (0, 20, 0) ∧ fok 108 20 = true ∧ stM 20 = false := by decide +kernel
theorem d_108_69 : decode (cM 108) 69 = .ok (.invokestatic 184, 3) := by decide +kernel
theorem kc_108_69 : callT (oM 108) 184 = some (1, 276, 1) ∧ fok 108 276 = true ∧ stM 276 = true := by decide +kernel
theorem d_108_72 : decode (cM 108) 72 = .ok (.ireturn, 1) := by decide +kernel
theorem d_109_0 : decode (cM 109) 0 = .ok (.aload_n 0, 1) := by decide +kernel
theorem d_109_1 : decode (cM 109) 1 = .ok (.iload_n 1, 1) := by decide +kernel
theorem d_109_2 : decode (cM 109) 2 = .ok (.invokevirtual 148, 3) := by decide +kernel
theorem kc_109_2 : callT (oM 109) 148 = some (0, 143, 1) ∧ fok 109 143 = true ∧ stM 143 = false := by decide +kernel
theorem d_109_5 : decode (cM 109) 5 = .ok (.ifCond .eq 11, 3) := by decide +kernel
theorem d_109_8 : decode (cM 109) 8 = .ok (.aload_n 0, 1) := by decide +kernel
theorem d_109_9 : decode (cM 109) 9 = .ok (.iload_n 2, 1) := by decide +kernel
theorem d_109_10 : decode (cM 109) 10 = .ok (.invokevirtual 119, 3) := by decide +kernel
theorem kc_109_10 : callT (oM 109) 119 = some (0, 142, 1) ∧ fok 109 142 = true ∧ stM 142 = false := by decide +kernel
theorem d_109_13 : decode (cM 109) 13 = .ok (.ifCond .ne 5, 3) := by decide +kernel
theorem d_109_16 : decode (cM 109) 16 = .ok (.iconst (-1), 1) := by decide +kernel
theorem d_109_17 : decode (cM 109) 17 = .ok (.ireturn, 1) := by decide +kernel
theorem d_109_18 : decode (cM 109) 18 = .ok (.aload_n 0, 1) := by decide +kernel
theorem d_109_19 : decode (cM 109) 19 = .ok (.getfield 48, 3) := by decide +kernel
theorem d_109_22 : decode (cM 109) 22 = .ok (.aload_n 0, 1) := by decide +kernel
theorem d_109_23 : decode (cM 109) 23 = .ok (.getfield 28, 3) := by decide +kernel
theorem d_109_26 : decode (cM 109) 26 = .ok (.iload_n 1, 1) := by decide +kernel
theorem d_109_27 : decode (cM 109) 27 = .ok (.invokevirtual 173, 3) := by decide +kernel
theorem kc_109_27 : callT (oM 109) 173 = some (0, 98, 2) ∧ fok 109 98 = true ∧ stM 98 = false := by decide +kernel
theorem d_109_30 : decode (cM 109) 30 = .ok (.aload_n 0, 1) := by decide +kernel
theorem d_109_31 : decode (cM 109) 31 = .ok (.getfield 28, 3) := by decide +kernel
theorem d_109_34 : decode (cM 109) 34 = .ok (.getfield 160, 3) := by decide +kernel
theorem d_109_37 : decode (cM 109) 37 = .ok (.iload_n 1, 1) := by decide +kernel
theorem d_109_38 : decode (cM 109) 38 = .ok (.dup2, 1) := by decide +kernel
theorem d_109_39 : decode (cM 109) 39 = .ok (.iaload, 1) := by decide +kernel
theorem d_109_40 : decode (cM 109) 40 = .ok (.iconst 1, 1) := by decide +kernel
theorem d_109_41 : decode (cM 109) 41 = .ok (.iload_n 2, 1) := by decide +kernel
theorem d_109_42 : decode (cM 109) 42 = .ok (.ishl, 1) := by decide +kernel
theorem d_109_43 : decode (cM 109) 43 = .ok (.ixor, 1) := by decide +kernel
theorem d_109_44 : decode (cM 109) 44 = .ok (.iastore, 1) := by decide +kernel
theorem d_109_45 : decode (cM 109) 45 = .ok (.aload_n 0, 1) := by decide +kernel
theorem d_109_46 : decode (cM 109) 46 = .ok (.getfield 28, 3) := by decide +kernel
theorem d_109_49 : decode (cM 109) 49 = .ok (.getfield 160, 3) := by decide +kernel
theorem d_109_52 : decode (cM 109) 52 = .ok (.iload_n 1, 1) := by decide +kernel
theorem d_109_53 : decode (cM 109) 53 = .ok (.iaload, 1) := by decide +kernel
theorem d_109_54 : decode (cM 109) 54 = .ok (.iload_n 2, 1) := by decide +kernel
theorem d_109_55 : decode (cM 109) 55 = .ok (.ishr, 1) := by decide +kernel
theorem d_109_56 : decode (cM 109) 56 = .ok (.iconst 1, 1) := by decide +kernel
theorem d_109_57 : decode (cM 109) 57 = .ok (.iand, 1) := by decide +kernel
theorem d_109_58 : decode (cM 109) 58 = .ok (.ireturn, 1) := by decide +kernel
theorem d_110_0 : decode (cM 110) 0 = .ok (.aload_n 0, 1) := by decide +kernel
theorem d_110_1 : decode (cM 110) 1 = .ok (.getfield 28, 3) := by decide +kernel
theorem d_110_4 : decode (cM 110) 4 = .ok (.getfield 154, 3) := by decide +kernel
theorem d_110_7 : decode (cM 110) 7 = .ok (.ifCond .ne 15, 3) := by decide +kernel
theorem d_110_10 : decode (cM 110) 10 = .ok (.aload_n 0, 1) := by decide +kernel
theorem d_110_11 : decode (cM 110) 11 = .ok (.getfield 28, 3) := by decide +kernel
theorem d_110_14 : decode (cM 110) 14 = .ok (.getfield 133, 3) := by decide +kernel
theorem d_110_17 : decode (cM 110) 17 = .ok (.ifCond .ne 5, 3) := by decide +kernel
theorem d_110_20 : decode (cM 110) 20 = .ok (.iconst 0, 1) := by decide +kernel
theorem d_110_21 : decode (cM 110) 21 = .ok (.ireturn, 1) := by decide +kernel
theorem d_110_22 : decode (cM 110) 22 = .ok (.aload_n 0, 1) := by decide +kernel
theorem d_110_23 : decode (cM 110) 23 = .ok (.getfield 48, 3) := by decide +kernel
theorem d_110_26 : decode (cM 110) 26 = .ok (.aload_n 0, 1) := by decide +kernel
theorem d_110_27 : decode (cM 110) 27 = .ok (.getfield 28, 3) := by decide +kernel
theorem d_110_30 : decode (cM 110) 30 = .ok (.iconst (-1), 1) := by decide +kernel
theorem d_110_31 : decode (cM 110) 31 = .ok (.invokevirtual 173, 3) := by decide +kernel
theorem kc_110_31 : callT (oM 110) 173 = some (0, 98, 2) ∧ fok 110 98 = true ∧ stM 98 = false := by decide +kernel
theorem d_110_34 : decode (cM 110) 34 = .ok (.aload_n 0, 1) := by decide +kernel
theorem d_110_35 : decode (cM 110) 35 = .ok (.getfield 28, 3) := by decide +kernel
theorem d_110_38 : decode (cM 110) 38 = .ok (.invokevirtual 189, 3) := by decide +kernel
theorem kc_110_38 : callT (oM 110) 189 = some (0, 24, 0) ∧ fok 110 24 = true ∧ stM 24 = false := by decide +kernel
theorem d_110_41 : decode (cM 110) 41 = .ok (.iconst 1, 1) := by decide +kernel
theorem d_110_42 : decode (cM 110) 42 = .ok (.ireturn, 1) := by decide +kernel
theorem d_111_0 : decode (cM 111) 0 = .ok (.iload_n 1, 1) := by decide +kernel
theorem d_111_1 : decode (cM 111) 1 = .ok (.ifCond .lt 25, 3) := by decide +kernel
theorem d_111_4 : decode (cM 111) 4 = .ok (.iload_n 1, 1) := by decide +kernel
theorem d_111_5 : decode (cM 111) 5 = .ok (.sipush 200, 3) := by decide +kernel
theorem d_111_8 : decode (cM 111) 8 = .ok (.if_icmp .gt 18, 3) := by decide +kernel
theorem d_111_11 : decode (cM 111) 11 = .ok (.aload_n 0, 1) := by decide +kernel
theorem d_111_12 : decode (cM 111) 12 = .ok (.getfield 28, 3) := by decide +kernel
theorem d_111_15 : decode (cM 111) 15 = .ok (.getfield 192, 3) := by decide +kernel
theorem d_111_18 : decode (cM 111) 18 = .ok (.iload_n 1, 1) := by decide +kernel
theorem d_111_19 : decode (cM 111) 19 = .ok (.iadd, 1) := by decide +kernel
theorem d_111_20 : decode (cM 111) 20 = .ok (.sipush 9000, 3) := by decide +kernel
theorem d_111_23 : decode (cM 111) 23 = .ok (.if_icmp .le 5, 3) := by decide +kernel
theorem d_111_26 : decode (cM 111) 26 = .ok (.iconst (-1), 1) := by decide +kernel
theorem d_111_27 : decode (cM 111) 27 = .ok (.ireturn, 1) := by decide +kernel
theorem d_111_28 : decode (cM 111) 28 = .ok (.iload_n 1, 1) := by decide +kernel
theorem d_111_29 : decode (cM 111) 29 = .ok (.ifCond .le 10, 3) := by decide +kernel
theorem d_111_32 : decode (cM 111) 32 = .ok (.aload_n 0, 1) := by decide +kernel
theorem d_111_33 : decode (cM 111) 33 = .ok (.getfield 48, 3) := by decide +kernel
theorem d_111_36 : decode (cM 111) 36 = .ok (.invokevirtual 108, 3) := by decide +kernel
theorem kc_111_36 : callT (oM 111) 108 = some (0, 97, 0) ∧ fok 111 97 = true ∧ stM 97 = false := by decide +kernel
theorem d_111_39 : decode (cM 111) 39 = .ok (.aload_n 0, 1) := by decide +kernel
theorem d_111_40 : decode (cM 111) 40 = .ok (.getfield 41, 3) := by decide +kernel
theorem d_111_43 : decode (cM 111) 43 = .ok (.invokevirtual 177, 3) := by decide +kernel
theorem kc_111_43 : callT (oM 111) 177 = some (0, 5, 0) ∧ fok 111 5 = true ∧ stM 5 = false := by decide +kernel
theorem d_111_46 : decode (cM 111) 46 = .ok (.aload_n 0, 1) := by decide +kernel
theorem d_111_47 : decode (cM 111) 47 = .ok (.getfield 41, 3) := by decide +kernel
theorem d_111_50 : decode (cM 111) 50 = .ok (.aload_n 0, 1) := by decide +kernel
theorem d_111_51 : decode (cM 111) 51 = .ok (.getfield 21, 3) := by decide +kernel
theorem d_111_54 : decode (cM 111) 54 = .ok (.aload_n 0, 1) := by decide +kernel
theorem d_111_55 : decode (cM 111) 55 = .ok (.getfield 28, 3) := by decide +kernel
theorem d_111_58 : decode (cM 111) 58 = .ok (.iload_n 1, 1) := by decide +kernel
theorem d_111_59 : decode (cM 111) 59 = .ok (.invokevirtual 195, 3) := by decide +kernel
theorem kc_111_59 : callT (oM 111) 195 = some (0, 8, 3) ∧ fok 111 8 = true ∧ stM 8 = false := by decide +kernel
theorem d_111_62 : decode (cM 111) 62 = .ok (.aload_n 0, 1) := by decide +kernel
theorem d_111_63 : decode (cM 111) 63 = .ok (.getfield 28, 3) := by decide +kernel
theorem d_111_66 : decode (cM 111) 66 = .ok (.getfield 192, 3) := by decide +kernel
theorem d_111_69 : decode (cM 111) 69 = .ok (.ireturn, 1) := by decide +kernel
theorem d_112_0 : decode (cM 112) 0 = .ok (.iload_n 1, 1) := by decide +kernel
theorem d_112_1 : decode (cM 112) 1 = .ok (.ifCond .lt 19, 3) := by decide +kernel
theorem d_112_4 : decode (cM 112) 4 = .ok (.iload_n 1, 1) := by decide +kernel
theorem d_112_5 : decode (cM 112) 5 = .ok (.sipush 200, 3) := by decide +kernel
theorem d_112_8 : decode (cM 112) 8 = .ok (.if_icmp .gt 12, 3) := by decide +kernel
theorem d_112_11 : decode (cM 112) 11 = .ok (.iload_n 2, 1) := by decide +kernel
theorem d_112_12 : decode (cM 112) 12 = .ok (.ifCond .lt 8, 3) := by decide +kernel
theorem d_112_15 : decode (cM 112) 15 = .ok (.iload_n 2, 1) := by decide +kernel
theorem d_112_16 : decode (cM 112) 16 = .ok (.iconst 4, 1) := by decide +kernel
theorem d_112_17 : decode (cM 112) 17 = .ok (.if_icmp .le 5, 3) := by decide +kernel
theorem d_112_20 : decode (cM 112) 20 = .ok (.iconst (-1), 1) := by decide +kernel
theorem d_112_21 : decode (cM 112) 21 = .ok (.ireturn, 1) := by decide +kernel
theorem d_112_22 : decode (cM 112) 22 = .ok (.aload_n 0, 1) := by decide +kernel
theorem d_112_23 : decode (cM 112) 23 = .ok (.getfield 32, 3) := by decide +kernel
theorem d_112_26 : decode (cM 112) 26 = .ok (.aload_n 0, 1) := by decide +kernel
theorem d_112_27 : decode (cM 112) 27 = .ok (.getfield 28, 3) := by decide +kernel
theorem d_112_30 : decode (cM 112) 30 = .ok (.invokevirtual 198, 3) := by decide +kernel
theorem kc_112_30 : callT (oM 112) 198 = some (0, 19, 1) ∧ fok 112 19 = true ∧ stM 19 = false := by decide +kernel
theorem d_112_33 : decode (cM 112) 33 = .ok (.aload_n 0, 1) := by decide +kernel
theorem d_112_34 : decode (cM 112) 34 = .ok (.getfield 41, 3) := by decide +kernel
theorem d_112_37 : decode (cM 112) 37 = .ok (.invokevirtual 202, 3) := by decide +kernel
theorem kc_112_37 : callT (oM 112) 202 = some (0, 6, 0) ∧ fok 112 6 = true ∧ stM 6 = false := by decide +kernel
theorem d_112_40 : decode (cM 112) 40 = .ok (.aload_n 0, 1) := by decide +kernel
theorem d_112_41 : decode (cM 112) 41 = .ok (.getfield 41, 3) := by decide +kernel
theorem d_112_44 : decode (cM 112) 44 = .ok (.aload_n 0, 1) := by decide +kernel
theorem d_112_45 : decode (cM 112) 45 = .ok (.getfield 21, 3) := by decide +kernel
theorem d_112_48 : decode (cM 112) 48 = .ok (.aload_n 0, 1) := by decide +kernel
theorem d_112_49 : decode (cM 112) 49 = .ok (.getfield 32, 3) := by decide +kernel
theorem d_112_52 : decode (cM 112) 52 = .ok (.iload_n 1, 1) := by decide +kernel
theorem d_112_53 : decode (cM 112) 53 = .ok (.invokevirtual 195, 3) := by decide +kernel
theorem kc_112_53 : callT (oM 112) 195 = some (0, 8, 3) ∧ fok 112 8 = true ∧ stM 8 = false := by decide +kernel
theorem d_112_56 : decode (cM 112) 56 = .ok (.iload_n 2, 1) := by decide +kernel
theorem d_112_57 : decode (cM 112) 57 = .ok (.tableswitch 85 0 3 #[31, 42, 58, 74], 31) := by decide +kernel
theorem d_112_88 : decode (cM 112) 88 = .ok (.aload_n 0, 1) := by decide +kernel
theorem d_112_89 : decode (cM 112) 89 = .ok (.getfield 32, 3) := by decide +kernel
theorem d_112_92 : decode (cM 112) 92 = .ok (.invokevirtual 163, 3) := by decide +kernel
theorem kc_112_92 : callT (oM 112) 163 = some (0, 20, 0) ∧ fok 112 20 = true ∧ stM 20 = false := by decide +kernel
theorem d_112_95 : decode (cM 112) 95 = .ok (.invokestatic 184, 3) := by decide +kernel
theorem kc_112_95 : callT (oM 112) 184 = some (1, 276, 1) ∧ fok 112 276 = true ∧ stM 276 = true := by decide +kernel
theorem d_112_98 : decode (cM 112) 98 = .ok (.ireturn, 1) := by decide +kernel
theorem d_112_99 : decode (cM 112) 99 = .ok (.aload_n 0, 1) := by decide +kernel
theorem d_112_100 : decode (cM 112) 100 = .ok (.getfield 32, 3) := by decide +kernel
theorem d_112_103 : decode (cM 112) 103 = .ok (.getfield 205, 3) := by decide +kernel
theorem d_112_106 : decode (cM 112) 106 = .ok (.aload_n 0, 1) := by decide +kernel
theorem d_112_107 : decode (cM 112) 107 = .ok (.getfield 28, 3) := by decide +kernel
theorem d_112_110 : decode (cM 112) 110 = .ok (.getfield 205, 3) := by decide +kernel
theorem d_112_113 : decode (cM 112) 113 = .ok (.isub, 1) := by decide +kernel
theorem d_112_114 : decode (cM 112) 114 = .ok (.ireturn, 1) := by decide +kernel
theorem d_112_115 : decode (cM 112) 115 = .ok (.aload_n 0, 1) := by decide +kernel
theorem d_112_116 : decode (cM 112) 116 = .ok (.getfield 32, 3) := by decide +kernel
theorem d_112_119 : decode (cM 112) 119 = .ok (.getfield 208, 3) := by decide +kernel
theorem d_112_122 : decode (cM 112) 122 = .ok (.aload_n 0, 1) := by decide +kernel
theorem d_112_123 : decode (cM 112) 123 = .ok (.getfield 28, 3) := by decide +kernel
theorem d_112_126 : decode (cM 112) 126 = .ok (.getfield 208, 3) := by decide +kernel
theorem d_112_129 : decode (cM 112) 129 = .ok (.isub, 1) := by decide +kernel
theorem d_112_130 : decode (cM 112) 130 = .ok (.ireturn, 1) := by decide +kernel
theorem d_112_131 : decode (cM 112) 131 = .ok (.aload_n 0, 1) := by decide +kernel
theorem d_112_132 : decode (cM 112) 132 = .ok (.getfield 32, 3) := by decide +kernel
theorem d_112_135 : decode (cM 112) 135 = .ok (.getfield 133, 3) := by decide +kernel
theorem d_112_138 : decode (cM 112) 138 = .ok (.invokestatic 184, 3) := by decide +kernel
theorem kc_112_138 : callT (oM 112) 184 = some (1, 276, 1) ∧ fok 112 276 = true ∧ stM 276 = true := by decide +kernel
theorem d_112_141 : decode (cM 112) 141 = .ok (.ireturn, 1) := by decide +kernel
theorem d_112_142 : decode (cM 112) 142 = .ok (.aload_n 0, 1) := by decide +kernel
theorem d_112_143 : decode (cM 112) 143 = .ok (.getfield 32, 3) := by decide +kernel
theorem d_112_146 : decode (cM 112) 146 = .ok (.getfield 154, 3) := by decide +kernel
theorem d_112_149 : decode (cM 112) 149 = .ok (.invokestatic 184, 3) := by decide +kernel
theorem kc_112_149 : callT (oM 112) 184 = some (1, 276, 1) ∧ fok 112 276 = true ∧ stM 276 = true := by decide +kernel
theorem d_112_152 : decode (cM 112) 152 = .ok (.ireturn, 1) := by decide +kernel
theorem d_113_0 : decode (cM 113) 0 = .ok (.aload_n 0, 1) := by decide +kernel
theorem d_113_1 : decode (cM 113) 1 = .ok (.iload_n 1, 1) := by decide +kernel
theorem d_113_2 : decode (cM 113) 2 = .ok (.invokevirtual 119, 3) := by decide +kernel
theorem kc_113_2 : callT (oM 113) 119 = some (0, 142, 1) ∧ fok 113 142 = true ∧ stM 142 = false := by decide +kernel
theorem d_113_5 : decode (cM 113) 5 = .ok (.ifCond .ne 5, 3) := by decide +kernel
theorem d_113_8 : decode (cM 113) 8 = .ok (.iconst (-1), 1) := by decide +kernel
theorem d_113_9 : decode (cM 113) 9 = .ok (.ireturn, 1) := by decide +kernel
theorem d_113_10 : decode (cM 113) 10 = .ok (.aload_n 0, 1) := by decide +kernel
theorem d_113_11 : decode (cM 113) 11 = .ok (.getfield 32, 3) := by decide +kernel
theorem d_113_14 : decode (cM 113) 14 = .ok (.aload_n 0, 1) := by decide +kernel
theorem d_113_15 : decode (cM 113) 15 = .ok (.getfield 28, 3) := by decide +kernel
theorem d_113_18 : decode (cM 113) 18 = .ok (.invokevirtual 198, 3) := by decide +kernel
theorem kc_113_18 : callT (oM 113) 198 = some (0, 19, 1) ∧ fok 113 19 = true ∧ stM 19 = false := by decide +kernel
theorem d_113_21 : decode (cM 113) 21 = .ok (.aload_n 0, 1) := by decide +kernel
theorem d_113_22 : decode (cM 113) 22 = .ok (.getfield 41, 3) := by decide +kernel
theorem d_113_25 : decode (cM 113) 25 = .ok (.invokevirtual 202, 3) := by decide +kernel
theorem kc_113_25 : callT (oM 113) 202 = some (0, 6, 0) ∧ fok 113 6 = true ∧ stM 6 = false := by decide +kernel
theorem d_113_28 : decode (cM 113) 28 = .ok (.iconst 0, 1) := by decide +kernel
theorem d_113_29 : decode (cM 113) 29 = .ok (.istore_n 2, 1) := by decide +kernel
theorem d_113_30 : decode (cM 113) 30 = .ok (.iload_n 2, 1) := by decide +kernel
theorem d_113_31 : decode (cM 113) 31 = .ok (.sipush 199, 3) := by decide +kernel
theorem d_113_34 : decode (cM 113) 34 = .ok (.if_icmp .gt 41, 3) := by decide +kernel
theorem d_113_37 : decode (cM 113) 37 = .ok (.aload_n 0, 1) := by decide +kernel
theorem d_113_38 : decode (cM 113) 38 = .ok (.getfield 32, 3) := by decide +kernel
theorem d_113_41 : decode (cM 113) 41 = .ok (.invokevirtual 163, 3) := by decide +kernel
theorem kc_113_41 : callT (oM 113) 163 = some (0, 20, 0) ∧ fok 113 20 = true ∧ stM 20 = false := by decide +kernel
theorem d_113_44 : decode (cM 113) 44 = .ok (.iload_n 1, 1) := by decide +kernel
theorem d_113_45 : decode (cM 113) 45 = .ok (.ishr, 1) := by decide +kernel
theorem d_113_46 : decode (cM 113) 46 = .ok (.iconst 1, 1) := by decide +kernel
theorem d_113_47 : decode (cM 113) 47 = .ok (.iand, 1) := by decide +kernel
theorem d_113_48 : decode (cM 113) 48 = .ok (.ifCond .ne 5, 3) := by decide +kernel
theorem d_113_51 : decode (cM 113) 51 = .ok (.iload_n 2, 1) := by decide +kernel
theorem d_113_52 : decode (cM 113) 52 = .ok (.ireturn, 1) := by decide +kernel
theorem d_113_53 : decode (cM 113) 53 = .ok (.aload_n 0, 1) := by decide +kernel
theorem d_113_54 : decode (cM 113) 54 = .ok (.getfield 41, 3) := by decide +kernel
theorem d_113_57 : decode (cM 113) 57 = .ok (.aload_n 0, 1) := by decide +kernel
theorem d_113_58 : decode (cM 113) 58 = .ok (.getfield 21, 3) := by decide +kernel
theorem d_113_61 : decode (cM 113) 61 = .ok (.aload_n 0, 1) := by decide +kernel
theorem d_113_62 : decode (cM 113) 62 = .ok (.getfield 32, 3) := by decide +kernel
theorem d_113_65 : decode (cM 113) 65 = .ok (.iconst 1, 1) := by decide +kernel
theorem d_113_66 : decode (cM 113) 66 = .ok (.invokevirtual 195, 3) := by decide +kernel
theorem kc_113_66 : callT (oM 113) 195 = some (0, 8, 3) ∧ fok 113 8 = true ∧ stM 8 = false := by decide +kernel
theorem d_113_69 : decode (cM 113) 69 = .ok (.iinc 2 1, 3) := by decide +kernel
theorem d_113_72 : decode (cM 113) 72 = .ok (.goto (-42), 3) := by decide +kernel
theorem d_113_75 : decode (cM 113) 75 = .ok (.bipush (-2), 2) := by decide +kernel
theorem d_113_77 : decode (cM 113) 77 = .ok (.ireturn, 1) := by decide +kernel
theorem d_114_0 : decode (cM 114) 0 = .ok (.aload_n 0, 1) := by decide +kernel
theorem d_114_1 : decode (cM 114) 1 = .ok (.iload_n 1, 1) := by decide +kernel
theorem d_114_2 : decode (cM 114) 2 = .ok (.invokevirtual 211, 3) := by decide +kernel
theorem kc_114_2 : callT (oM 114) 211 = some (0, 144, 1) ∧ fok 114 144 = true ∧ stM 144 = false := by decide +kernel
theorem d_114_5 : decode (cM 114) 5 = .ok (.ifCond .ne 5, 3) := by decide +kernel
theorem d_114_8 : decode (cM 114) 8 = .ok (.iconst (-1), 1) := by decide +kernel
theorem d_114_9 : decode (cM 114) 9 = .ok (.ireturn, 1) := by decide +kernel
theorem d_114_10 : decode (cM 114) 10 = .ok (.aload_n 0, 1) := by decide +kernel
theorem d_114_11 : decode (cM 114) 11 = .ok (.invokevirtual 214, 3) := by decide +kernel
theorem kc_114_11 : callT (oM 114) 214 = some (0, 145, 0) ∧ fok 114 145 = true ∧ stM 145 = false := by decide +kernel
theorem d_114_14 : decode (cM 114) 14 = .ok (.aload_n 0, 1) := by decide +kernel
theorem d_114_15 : decode (cM 114) 15 = .ok (.getfield 62, 3) := by decide +kernel
theorem d_114_18 : decode (cM 114) 18 = .ok (.aload_n 0, 1) := by decide +kernel
theorem d_114_19 : decode (cM 114) 19 = .ok (.getfield 28, 3) := by decide +kernel
theorem d_114_22 : decode (cM 114) 22 = .ok (.getfield 130, 3) := by decide +kernel
theorem d_114_25 : decode (cM 114) 25 = .ok (.iload_n 1, 1) := by decide +kernel
theorem d_114_26 : decode (cM 114) 26 = .ok (.ixor, 1) := by decide +kernel
theorem d_114_27 : decode (cM 114) 27 = .ok (.invokevirtual 217, 3) := by decide +kernel
theorem kc_114_27 : callT (oM 114) 217 = some (0, 74, 1) ∧ fok 114 74 = true ∧ stM 74 = false := by decide +kernel
theorem d_114_30 : decode (cM 114) 30 = .ok (.ireturn, 1) := by decide +kernel
theorem d_115_0 : decode (cM 115) 0 = .ok (.aload_n 0, 1) := by decide +kernel
theorem d_115_1 : decode (cM 115) 1 = .ok (.iload_n 1, 1) := by decide +kernel
theorem d_115_2 : decode (cM 115) 2 = .ok (.invokevirtual 211, 3) := by decide +kernel
theorem kc_115_2 : callT (oM 115) 211 = some (0, 144, 1) ∧ fok 115 144 = true ∧ stM 144 = false := by decide +kernel
theorem d_115_5 : decode (cM 115) 5 = .ok (.ifCond .ne 5, 3) := by decide +kernel
theorem d_115_8 : decode (cM 115) 8 = .ok (.iconst (-1), 1) := by decide +kernel
theorem d_115_9 : decode (cM 115) 9 = .ok (.ireturn, 1) := by decide +kernel
theorem d_115_10 : decode (cM 115) 10 = .ok (.aload_n 0, 1) := by decide +kernel
theorem d_115_11 : decode (cM 115) 11 = .ok (.invokevirtual 214, 3) := by decide +kernel
theorem kc_115_11 : callT (oM 115) 214 = some (0, 145, 0) ∧ fok 115 145 = true ∧ stM 145 = false := by decide +kernel
theorem d_115_14 : decode (cM 115) 14 = .ok (.aload_n 0, 1) := by decide +kernel
theorem d_115_15 : decode (cM 115) 15 = .ok (.getfield 62, 3) := by decide +kernel
theorem d_115_18 : decode (cM 115) 18 = .ok (.aload_n 0, 1) := by decide +kernel
theorem d_115_19 : decode (cM 115) 19 = .ok (.getfield 28, 3) := by decide +kernel
theorem d_115_22 : decode (cM 115) 22 = .ok (.getfield 130, 3) := by decide +kernel
theorem d_115_25 : decode (cM 115) 25 = .ok (.iload_n 1, 1) := by decide +kernel
theorem d_115_26 : decode (cM 115) 26 = .ok (.ixor, 1) := by decide +kernel
theorem d_115_27 : decode (cM 115) 27 = .ok (.invokevirtual 220, 3) := by decide +kernel
theorem kc_115_27 : callT (oM 115) 220 = some (0, 75, 1) ∧ fok 115 75 = true ∧ stM 75 = false := by decide +kernel
theorem d_115_30 : decode (cM 115) 30 = .ok (.ireturn, 1) := by decide +kernel
theorem d_116_0 : decode (cM 116) 0 = .ok (.aload_n 0, 1) := by decide +kernel
theorem d_116_1 : decode (cM 116) 1 = .ok (.iload_n 1, 1) := by decide +kernel
theorem d_116_2 : decode (cM 116) 2 = .ok (.invokevirtual 211, 3) := by decide +kernel
theorem kc_116_2 : callT (oM 116) 211 = some (0, 144, 1) ∧ fok 116 144 = true ∧ stM 144 = false := by decide +kernel
theorem d_116_5 : decode (cM 116) 5 = .ok (.ifCond .eq 12, 3) := by decide +kernel
theorem d_116_8 : decode (cM 116) 8 = .ok (.iload_n 2, 1) := by decide +kernel
theorem d_116_9 : decode (cM 116) 9 = .ok (.ifCond .lt 8, 3) := by decide +kernel
theorem d_116_12 : decode (cM 116) 12 = .ok (.iload_n 2, 1) := by decide +kernel
theorem d_116_13 : decode (cM 116) 13 = .ok (.iconst 1, 1) := by decide +kernel
theorem d_116_14 : decode (cM 116) 14 = .ok (.if_icmp .le 5, 3) := by decide +kernel
theorem d_116_17 : decode (cM 116) 17 = .ok (.iconst (-1), 1) := by decide +kernel
theorem d_116_18 : decode (cM 116) 18 = .ok (.ireturn, 1) := by decide +kernel
theorem d_116_19 : decode (cM 116) 19 = .ok (.aload_n 0, 1) := by decide +kernel
theorem d_116_20 : decode (cM 116) 20 = .ok (.invokevirtual 214, 3) := by decide +kernel
theorem kc_116_20 : callT (oM 116) 214 = some (0, 145, 0) ∧ fok 116 145 = true ∧ stM 145 = false := by decide +kernel
theorem d_116_23 : decode (cM 116) 23 = .ok (.aload_n 0, 1) := by decide +kernel
theorem d_116_24 : decode (cM 116) 24 = .ok (.getfield 62, 3) := by decide +kernel
theorem d_116_27 : decode (cM 116) 27 = .ok (.aload_n 0, 1) := by decide +kernel
theorem d_116_28 : decode (cM 116) 28 = .ok (.getfield 28, 3) := by decide +kernel
theorem d_116_31 : decode (cM 116) 31 = .ok (.getfield 130, 3) := by decide +kernel
theorem d_116_34 : decode (cM 116) 34 = .ok (.iload_n 1, 1) := by decide +kernel
theorem d_116_35 : decode (cM 116) 35 = .ok (.ixor, 1) := by decide +kernel
theorem d_116_36 : decode (cM 116) 36 = .ok (.aload_n 0, 1) := by decide +kernel
theorem d_116_37 : decode (cM 116) 37 = .ok (.getfield 21, 3) := by decide +kernel
theorem d_116_40 : decode (cM 116) 40 = .ok (.invokevirtual 223, 3) := by decide +kernel
theorem kc_116_40 : callT (oM 116) 223 = some (0, 77, 2) ∧ fok 116 77 = true ∧ stM 77 = false := by decide +kernel
theorem d_116_43 : decode (cM 116) 43 = .ok (.istore_n 3, 1) := by decide +kernel
theorem d_116_44 : decode (cM 116) 44 = .ok (.iload_n 3, 1) := by decide +kernel
theorem d_116_45 : decode (cM 116) 45 = .ok (.ifCond .lt 7, 3) := by decide +kernel
theorem d_116_48 : decode (cM 116) 48 = .ok (.iload_n 2, 1) := by decide +kernel
theorem d_116_49 : decode (cM 116) 49 = .ok (.ifCond .ne 7, 3) := by decide +kernel
theorem d_116_52 : decode (cM 116) 52 = .ok (.iload_n 3, 1) := by decide +kernel
theorem d_116_53 : decode (cM 116) 53 = .ok (.goto 11, 3) := by decide +kernel
theorem d_116_56 : decode (cM 116) 56 = .ok (.aload_n 0, 1) := by decide +kernel
theorem d_116_57 : decode (cM 116) 57 = .ok (.getfield 21, 3) := by decide +kernel
theorem d_116_60 : decode (cM 116) 60 = .ok (.iload_n 3, 1) := by decide +kernel
theorem d_116_61 : decode (cM 116) 61 = .ok (.invokevirtual 227, 3) := by decide +kernel
theorem kc_116_61 : callT (oM 116) 227 = some (0, 95, 1) ∧ fok 116 95 = true ∧ stM 95 = false := by decide +kernel
theorem d_116_64 : decode (cM 116) 64 = .ok (.ireturn, 1) := by decide +kernel
theorem d_117_0 : decode (cM 117) 0 = .ok (.aload_n 0, 1) := by decide +kernel
theorem d_117_1 : decode (cM 117) 1 = .ok (.iload_n 1, 1) := by decide +kernel
theorem d_117_2 : decode (cM 117) 2 = .ok (.invokevirtual 211, 3) := by decide +kernel
theorem kc_117_2 : callT (oM 117) 211 = some (0, 144, 1) ∧ fok 117 144 = true ∧ stM 144 = false := by decide +kernel
theorem d_117_5 : decode (cM 117) 5 = .ok (.ifCond .eq 12, 3) := by decide +kernel
theorem d_117_8 : decode (cM 117) 8 = .ok (.iload_n 2, 1) := by decide +kernel
theorem d_117_9 : decode (cM 117) 9 = .ok (.ifCond .lt 8, 3) := by decide +kernel
theorem d_117_12 : decode (cM 117) 12 = .ok (.iload_n 2, 1) := by decide +kernel
theorem d_117_13 : decode (cM 117) 13 = .ok (.iconst 1, 1) := by decide +kernel
theorem d_117_14 : decode (cM 117) 14 = .ok (.if_icmp .le 5, 3) := by decide +kernel
theorem d_117_17 : decode (cM 117) 17 = .ok (.iconst (-1), 1) := by decide +kernel
theorem d_117_18 : decode (cM 117) 18 = .ok (.ireturn, 1) := by decide +kernel
theorem d_117_19 : decode (cM 117) 19 = .ok (.aload_n 0, 1) := by decide +kernel
theorem d_117_20 : decode (cM 117) 20 = .ok (.invokevirtual 214, 3) := by decide +kernel
theorem kc_117_20 : callT (oM 117) 214 = some (0, 145, 0) ∧ fok 117 145 = true ∧ stM 145 = false := by decide +kernel
theorem d_117_23 : decode (cM 117) 23 = .ok (.aload_n 0, 1) := by decide +kernel
theorem d_117_24 : decode (cM 117) 24 = .ok (.getfield 28, 3) := by decide +kernel
theorem d_117_27 : decode (cM 117) 27 = .ok (.getfield 130, 3) := by decide +kernel
theorem d_117_30 : decode (cM 117) 30 = .ok (.iload_n 1, 1) := by decide +kernel
theorem d_117_31 : decode (cM 117) 31 = .ok (.ixor, 1) := by decide +kernel
theorem d_117_32 : decode (cM 117) 32 = .ok (.istore_n 3, 1) := by decide +kernel
theorem d_117_33 : decode (cM 117) 33 = .ok (.aload_n 0, 1) := by decide +kernel
theorem d_117_34 : decode (cM 117) 34 = .ok (.getfield 62, 3) := by decide +kernel
theorem d_117_37 : decode (cM 117) 37 = .ok (.iload_n 3, 1) := by decide +kernel
theorem d_117_38 : decode (cM 117) 38 = .ok (.invokevirtual 217, 3) := by decide +kernel
theorem kc_117_38 : callT (oM 117) 217 = some (0, 74, 1) ∧ fok 117 74 = true ∧ stM 74 = false := by decide +kernel
theorem d_117_41 : decode (cM 117) 41 = .ok (.ifCond .ne 6, 3) := by decide +kernel
theorem d_117_44 : decode (cM 117) 44 = .ok (.bipush (-2), 2) := by decide +kernel
theorem d_117_46 : decode (cM 117) 46 = .ok (.ireturn, 1) := by decide +kernel
theorem d_117_47 : decode (cM 117) 47 = .ok (.iload_n 2, 1) := by decide +kernel
theorem d_117_48 : decode (cM 117) 48 = .ok (.ifCond .ne 14, 3) := by decide +kernel
theorem d_117_51 : decode (cM 117) 51 = .ok (.aload_n 0, 1) := by decide +kernel
theorem d_117_52 : decode (cM 117) 52 = .ok (.getfield 62, 3) := by decide +kernel
theorem d_117_55 : decode (cM 117) 55 = .ok (.iload_n 3, 1) := by decide +kernel
theorem d_117_56 : decode (cM 117) 56 = .ok (.invokevirtual 230, 3) := by decide +kernel
theorem kc_117_56 : callT (oM 117) 230 = some (0, 78, 1) ∧ fok 117 78 = true ∧ stM 78 = false := by decide +kernel
theorem d_117_59 : decode (cM 117) 59 = .ok (.goto 11, 3) := by decide +kernel
theorem d_117_62 : decode (cM 117) 62 = .ok (.aload_n 0, 1) := by decide +kernel
theorem d_117_63 : decode (cM 117) 63 = .ok (.getfield 62, 3) := by decide +kernel
theorem d_117_66 : decode (cM 117) 66 = .ok (.iload_n 3, 1) := by decide +kernel
theorem d_117_67 : decode (cM 117) 67 = .ok (.invokevirtual 233, 3) := by decide +kernel
theorem kc_117_67 : callT (oM 117) 233 = some (0, 79, 1) ∧ fok 117 79 = true ∧ stM 79 = false := by decide +kernel
theorem d_117_70 : decode (cM 117) 70 = .ok (.ireturn, 1) := by decide +kernel
theorem d_118_0 : decode (cM 118) 0 = .ok (.aload_n 0, 1) := by decide +kernel
theorem d_118_1 : decode (cM 118) 1 = .ok (.invokevirtual 236, 3) := by decide +kernel
theorem kc_118_1 : callT (oM 118) 236 = some (0, 146, 0) ∧ fok 118 146 = true ∧ stM 146 = false := by decide +kernel
theorem d_118_4 : decode (cM 118) 4 = .ok (.invokestatic 184, 3) := by decide +kernel
theorem kc_118_4 : callT (oM 118) 184 = some (1, 276, 1) ∧ fok 118 276 = true ∧ stM 276 = true := by decide +kernel
theorem d_118_7 : decode (cM 118) 7 = .ok (.ireturn, 1) := by decide +kernel
theorem d_119_0 : decode (cM 119) 0 = .ok (.aload_n 0, 1) := by decide +kernel
theorem d_119_1 : decode (cM 119) 1 = .ok (.invokevirtual 236, 3) := by decide +kernel
theorem kc_119_1 : callT (oM 119) 236 = some (0, 146, 0) ∧ fok 119 146 = true ∧ stM 146 = false := by decide +kernel
theorem d_119_4 : decode (cM 119) 4 = .ok (.ireturn, 1) := by decide +kernel
theorem d_120_0 : decode (cM 120) 0 = .ok (.aload_n 0, 1) := by decide +kernel
theorem d_120_1 : decode (cM 120) 1 = .ok (.iload_n 1, 1) := by decide +kernel
theorem d_120_2 : decode (cM 120) 2 = .ok (.invokevirtual 148, 3) := by decide +kernel
theorem kc_120_2 : callT (oM 120) 148 = some (0, 143, 1) ∧ fok 120 143 = true ∧ stM 143 = false := by decide +kernel
theorem d_120_5 : decode (cM 120) 5 = .ok (.ifCond .ne 5, 3) := by decide +kernel
theorem d_120_8 : decode (cM 120) 8 = .ok (.iconst (-1), 1) := by decide +kernel
theorem d_120_9 : decode (cM 120) 9 = .ok (.ireturn, 1) := by decide +kernel
theorem d_120_10 : decode (cM 120) 10 = .ok (.aload_n 0, 1) := by decide +kernel
theorem d_120_11 : decode (cM 120) 11 = .ok (.getfield 28, 3) := by decide +kernel
theorem d_120_14 : decode (cM 120) 14 = .ok (.aload_n 0, 1) := by decide +kernel
theorem d_120_15 : decode (cM 120) 15 = .ok (.getfield 21, 3) := by decide +kernel
theorem d_120_18 : decode (cM 120) 18 = .ok (.invokevirtual 239, 3) := by decide +kernel
theorem kc_120_18 : callT (oM 120) 239 = some (0, 21, 1) ∧ fok 120 21 = true ∧ stM 21 = false := by decide +kernel
theorem d_120_21 : decode (cM 120) 21 = .ok (.istore_n 2, 1) := by decide +kernel
theorem d_120_22 : decode (cM 120) 22 = .ok (.iload_n 2, 1) := by decide +kernel
theorem d_120_23 : decode (cM 120) 23 = .ok (.iload_n 1, 1) := by decide +kernel
theorem d_120_24 : decode (cM 120) 24 = .ok (.ishr, 1) := by decide +kernel
theorem d_120_25 : decode (cM 120) 25 = .ok (.iconst 1, 1) := by decide +kernel
theorem d_120_26 : decode (cM 120) 26 = .ok (.iand, 1) := by decide +kernel
theorem d_120_27 : decode (cM 120) 27 = .ok (.ifCond .ne 6, 3) := by decide +kernel
theorem d_120_30 : decode (cM 120) 30 = .ok (.bipush (-2), 2) := by decide +kernel
theorem d_120_32 : decode (cM 120) 32 = .ok (.ireturn, 1) := by decide +kernel
theorem d_120_33 : decode (cM 120) 33 = .ok (.aload_n 0, 1) := by decide +kernel
theorem d_120_34 : decode (cM 120) 34 = .ok (.getfield 69, 3) := by decide +kernel
theorem d_120_37 : decode (cM 120) 37 = .ok (.aload_n 0, 1) := by decide +kernel
theorem d_120_38 : decode (cM 120) 38 = .ok (.getfield 28, 3) := by decide +kernel
theorem d_120_41 : decode (cM 120) 41 = .ok (.getfield 160, 3) := by decide +kernel
theorem d_120_44 : decode (cM 120) 44 = .ok (.iload_n 1, 1) := by decide +kernel
theorem d_120_45 : decode (cM 120) 45 = .ok (.iload_n 2, 1) := by decide +kernel
theorem d_120_46 : decode (cM 120) 46 = .ok (.invokevirtual 243, 3) := by decide +kernel
theorem kc_120_46 : callT (oM 120) 243 = some (0, 1, 3) ∧ fok 120 1 = true ∧ stM 1 = false := by decide +kernel
theorem d_120_49 : decode (cM 120) 49 = .ok (.pop, 1) := by decide +kernel
theorem d_120_50 : decode (cM 120) 50 = .ok (.aload_n 0, 1) := by decide +kernel
theorem d_120_51 : decode (cM 120) 51 = .ok (.getfield 69, 3) := by decide +kernel
theorem d_120_54 : decode (cM 120) 54 = .ok (.aload_n 0, 1) := by decide +kernel
theorem d_120_55 : decode (cM 120) 55 = .ok (.getfield 28, 3) := by decide +kernel
theorem d_120_58 : decode (cM 120) 58 = .ok (.getfield 160, 3) := by decide +kernel
theorem d_120_61 : decode (cM 120) 61 = .ok (.iload_n 1, 1) := by decide +kernel
theorem d_120_62 : decode (cM 120) 62 = .ok (.iaload, 1) := by decide +kernel
theorem d_120_63 : decode (cM 120) 63 = .ok (.invokevirtual 247, 3) := by decide +kernel
theorem kc_120_63 : callT (oM 120) 247 = some (0, 2, 1) ∧ fok 120 2 = true ∧ stM 2 = false := by decide +kernel
theorem d_120_66 : decode (cM 120) 66 = .ok (.ireturn, 1) := by decide +kernel
theorem d_121_0 : decode (cM 121) 0 = .ok (.iload_n 1, 1) := by decide +kernel
theorem d_121_1 : decode (cM 121) 1 = .ok (.ifCond .lt 8, 3) := by decide +kernel
theorem d_121_4 : decode (cM 121) 4 = .ok (.iload_n 1, 1) := by decide +kernel
theorem d_121_5 : decode (cM 121) 5 = .ok (.iconst 1, 1) := by decide +kernel
theorem d_121_6 : decode (cM 121) 6 = .ok (.if_icmp .le 5, 3) := by decide +kernel
theorem d_121_9 : decode (cM 121) 9 = .ok (.iconst (-1), 1) := by decide +kernel
theorem d_121_10 : decode (cM 121) 10 = .ok (.ireturn, 1) := by decide +kernel
theorem d_121_11 : decode (cM 121) 11 = .ok (.aload_n 0, 1) := by decide +kernel
theorem d_121_12 : decode (cM 121) 12 = .ok (.invokevirtual 214, 3) := by decide +kernel
theorem kc_121_12 : callT (oM 121) 214 = some (0, 145, 0) ∧ fok 121 145 = true ∧ stM 145 = false := by decide +kernel
theorem d_121_15 : decode (cM 121) 15 = .ok (.iload_n 1, 1) := by decide +kernel
theorem d_121_16 : decode (cM 121) 16 = .ok (.ifCond .ne 16, 3) := by decide +kernel
theorem d_121_19 : decode (cM 121) 19 = .ok (.aload_n 0, 1) := by decide +kernel
theorem d_121_20 : decode (cM 121) 20 = .ok (.getfield 62, 3) := by decide +kernel
theorem d_121_23 : decode (cM 121) 23 = .ok (.iconst 0, 1) := by decide +kernel
theorem d_121_24 : decode (cM 121) 24 = .ok (.invokevirtual 217, 3) := by decide +kernel
theorem kc_121_24 : callT (oM 121) 217 = some (0, 74, 1) ∧ fok 121 74 = true ∧ stM 74 = false := by decide +kernel
theorem d_121_27 : decode (cM 121) 27 = .ok (.iconst 1, 1) := by decide +kernel
theorem d_121_28 : decode (cM 121) 28 = .ok (.isub, 1) := by decide +kernel
theorem d_121_29 : decode (cM 121) 29 = .ok (.goto 10, 3) := by decide +kernel
theorem d_121_32 : decode (cM 121) 32 = .ok (.aload_n 0, 1) := by decide +kernel
theorem d_121_33 : decode (cM 121) 33 = .ok (.getfield 62, 3) := by decide +kernel
theorem d_121_36 : decode (cM 121) 36 = .ok (.invokevirtual 250, 3) := by decide +kernel
theorem kc_121_36 : callT (oM 121) 250 = some (0, 76, 0) ∧ fok 121 76 = true ∧ stM 76 = false := by decide +kernel
theorem d_121_39 : decode (cM 121) 39 = .ok (.ireturn, 1) := by decide +kernel
theorem d_122_0 : decode (cM 122) 0 = .ok (.iload_n 1, 1) := by decide +kernel
theorem d_122_1 : decode (cM 122) 1 = .ok (.ifCond .lt 8, 3) := by decide +kernel
theorem d_122_4 : decode (cM 122) 4 = .ok (.iload_n 1, 1) := by decide +kernel
theorem d_122_5 : decode (cM 122) 5 = .ok (.iconst 2, 1) := by decide +kernel
theorem d_122_6 : decode (cM 122) 6 = .ok (.if_icmp .le 5, 3) := by decide +kernel
theorem d_122_9 : decode (cM 122) 9 = .ok (.iconst (-1), 1) := by decide +kernel
theorem d_122_10 : decode (cM 122) 10 = .ok (.ireturn, 1) := by decide +kernel
theorem d_122_11 : decode (cM 122) 11 = .ok (.aload_n 0, 1) := by decide +kernel
theorem d_122_12 : decode (cM 122) 12 = .ok (.invokevirtual 214, 3) := by decide +kernel
theorem kc_122_12 : callT (oM 122) 214 = some (0, 145, 0) ∧ fok 122 145 = true ∧ stM 145 = false := by decide +kernel
theorem d_122_15 : decode (cM 122) 15 = .ok (.aload_n 0, 1) := by decide +kernel
theorem d_122_16 : decode (cM 122) 16 = .ok (.getfield 62, 3) := by decide +kernel
theorem d_122_19 : decode (cM 122) 19 = .ok (.aload_n 0, 1) := by decide +kernel
theorem d_122_20 : decode (cM 122) 20 = .ok (.getfield 28, 3) := by decide +kernel
theorem d_122_23 : decode (cM 122) 23 = .ok (.getfield 130, 3) := by decide +kernel
theorem d_122_26 : decode (cM 122) 26 = .ok (.invokevirtual 253, 3) := by decide +kernel
theorem kc_122_26 : callT (oM 122) 253 = some (0, 80, 1) ∧ fok 122 80 = true ∧ stM 80 = false := by decide +kernel
theorem d_122_29 : decode (cM 122) 29 = .ok (.istore_n 2, 1) := by decide +kernel
theorem d_122_30 : decode (cM 122) 30 = .ok (.aload_n 0, 1) := by decide +kernel
theorem d_122_31 : decode (cM 122) 31 = .ok (.getfield 28, 3) := by decide +kernel
theorem d_122_34 : decode (cM 122) 34 = .ok (.getfield 130, 3) := by decide +kernel
theorem d_122_37 : decode (cM 122) 37 = .ok (.aload_n 0, 1) := by decide +kernel
theorem d_122_38 : decode (cM 122) 38 = .ok (.getfield 62, 3) := by decide +kernel
theorem d_122_41 : decode (cM 122) 41 = .ok (.iload_n 2, 1) := by decide +kernel
theorem d_122_42 : decode (cM 122) 42 = .ok (.invokevirtual 256, 3) := by decide +kernel
theorem kc_122_42 : callT (oM 122) 256 = some (0, 72, 1) ∧ fok 122 72 = true ∧ stM 72 = false := by decide +kernel
theorem d_122_45 : decode (cM 122) 45 = .ok (.ixor, 1) := by decide +kernel
theorem d_122_46 : decode (cM 122) 46 = .ok (.istore_n 3, 1) := by decide +kernel
theorem d_122_47 : decode (cM 122) 47 = .ok (.iload_n 1, 1) := by decide +kernel
theorem d_122_48 : decode (cM 122) 48 = .ok (.lookupswitch 35 #[(0, 28), (1, 33)], 28) := by decide +kernel
theorem d_122_76 : decode (cM 122) 76 = .ok (.iload_n 3, 1) := by decide +kernel
theorem d_122_77 : decode (cM 122) 77 = .ok (.invokestatic 184, 3) := by decide +kernel
theorem kc_122_77 : callT (oM 122) 184 = some (1, 276, 1) ∧ fok 122 276 = true ∧ stM 276 = true := by decide +kernel
theorem d_122_80 : decode (cM 122) 80 = .ok (.ireturn, 1) := by decide +kernel
theorem d_122_81 : decode (cM 122) 81 = .ok (.iload_n 2, 1) := by decide +kernel
theorem d_122_82 : decode (cM 122) 82 = .ok (.ireturn, 1) := by decide +kernel
theorem d_122_83 : decode (cM 122) 83 = .ok (.iload_n 3, 1) := by decide +kernel
theorem d_122_84 : decode (cM 122) 84 = .ok (.ireturn, 1) := by decide +kernel
theorem d_123_0 : decode (cM 123) 0 = .ok (.aload_n 0, 1) := by decide +kernel
theorem d_123_1 : decode (cM 123) 1 = .ok (.iload_n 1, 1) := by decide +kernel
theorem d_123_2 : decode (cM 123) 2 = .ok (.invokevirtual 119, 3) := by decide +kernel
theorem kc_123_2 : callT (oM 123) 119 = some (0, 142, 1) ∧ fok 123 142 = true ∧ stM 142 = false := by decide +kernel
theorem d_123_5 : decode (cM 123) 5 = .ok (.ifCond .ne 5, 3) := by decide +kernel
theorem d_123_8 : decode (cM 123) 8 = .ok (.iconst (-1), 1) := by decide +kernel
theorem d_123_9 : decode (cM 123) 9 = .ok (.ireturn, 1) := by decide +kernel
theorem d_123_10 : decode (cM 123) 10 = .ok (.aload_n 0, 1) := by decide +kernel
theorem d_123_11 : decode (cM 123) 11 = .ok (.getfield 28, 3) := by decide +kernel
theorem d_123_14 : decode (cM 123) 14 = .ok (.aload_n 0, 1) := by decide +kernel
theorem d_123_15 : decode (cM 123) 15 = .ok (.getfield 21, 3) := by decide +kernel
theorem d_123_18 : decode (cM 123) 18 = .ok (.invokevirtual 239, 3) := by decide +kernel
theorem kc_123_18 : callT (oM 123) 239 = some (0, 21, 1) ∧ fok 123 21 = true ∧ stM 21 = false := by decide +kernel
theorem d_123_21 : decode (cM 123) 21 = .ok (.istore_n 2, 1) := by decide +kernel
theorem d_123_22 : decode (cM 123) 22 = .ok (.aload_n 0, 1) := by decide +kernel
theorem d_123_23 : decode (cM 123) 23 = .ok (.getfield 28, 3) := by decide +kernel
theorem d_123_26 : decode (cM 123) 26 = .ok (.iload_n 1, 1) := by decide +kernel
theorem d_123_27 : decode (cM 123) 27 = .ok (.invokevirtual 140, 3) := by decide +kernel
theorem kc_123_27 : callT (oM 123) 140 = some (0, 22, 1) ∧ fok 123 22 = true ∧ stM 22 = false := by decide +kernel
theorem d_123_30 : decode (cM 123) 30 = .ok (.iload_n 2, 1) := by decide +kernel
theorem d_123_31 : decode (cM 123) 31 = .ok (.iand, 1) := by decide +kernel
theorem d_123_32 : decode (cM 123) 32 = .ok (.istore_n 3, 1) := by decide +kernel
theorem d_123_33 : decode (cM 123) 33 = .ok (.iconst 0, 1) := by decide +kernel
theorem d_123_34 : decode (cM 123) 34 = .ok (.istore 4, 2) := by decide +kernel
theorem d_123_36 : decode (cM 123) 36 = .ok (.iconst 0, 1) := by decide +kernel
theorem d_123_37 : decode (cM 123) 37 = .ok (.istore 5, 2) := by decide +kernel
theorem d_123_39 : decode (cM 123) 39 = .ok (.iload 5, 2) := by decide +kernel
theorem d_123_41 : decode (cM 123) 41 = .ok (.aload_n 0, 1) := by decide +kernel
theorem d_123_42 : decode (cM 123) 42 = .ok (.getfield 21, 3) := by decide +kernel
theorem d_123_45 : decode (cM 123) 45 = .ok (.getfield 259, 3) := by decide +kernel
theorem d_123_48 : decode (cM 123) 48 = .ok (.if_icmp .ge 39, 3) := by decide +kernel
theorem d_123_51 : decode (cM 123) 51 = .ok (.iload 5, 2) := by decide +kernel
theorem d_123_53 : decode (cM 123) 53 = .ok (.iload_n 1, 1) := by decide +kernel
theorem d_123_54 : decode (cM 123) 54 = .ok (.if_icmp .eq 27, 3) := by decide +kernel
theorem d_123_57 : decode (cM 123) 57 = .ok (.aload_n 0, 1) := by decide +kernel
theorem d_123_58 : decode (cM 123) 58 = .ok (.getfield 28, 3) := by decide +kernel
theorem d_123_61 : decode (cM 123) 61 = .ok (.iload 5, 2) := by decide +kernel
theorem d_123_63 : decode (cM 123) 63 = .ok (.invokevirtual 140, 3) := by decide +kernel
theorem kc_123_63 : callT (oM 123) 140 = some (0, 22, 1) ∧ fok 123 22 = true ∧ stM 22 = false := by decide +kernel
theorem d_123_66 : decode (cM 123) 66 = .ok (.iload_n 2, 1) := by decide +kernel
theorem d_123_67 : decode (cM 123) 67 = .ok (.iand, 1) := by decide +kernel
theorem d_123_68 : decode (cM 123) 68 = .ok (.iload_n 3, 1) := by decide +kernel
theorem d_123_69 : decode (cM 123) 69 = .ok (.if_icmp .ne 12, 3) := by decide +kernel
theorem d_123_72 : decode (cM 123) 72 = .ok (.iload 4, 2) := by decide +kernel
theorem d_123_74 : decode (cM 123) 74 = .ok (.iconst 1, 1) := by decide +kernel
theorem d_123_75 : decode (cM 123) 75 = .ok (.iload 5, 2) := by decide +kernel
theorem d_123_77 : decode (cM 123) 77 = .ok (.ishl, 1) := by decide +kernel
theorem d_123_78 : decode (cM 123) 78 = .ok (.ior, 1) := by decide +kernel
theorem d_123_79 : decode (cM 123) 79 = .ok (.istore 4, 2) := by decide +kernel
theorem d_123_81 : decode (cM 123) 81 = .ok (.iinc 5 1, 3) := by decide +kernel
theorem d_123_84 : decode (cM 123) 84 = .ok (.goto (-45), 3) := by decide +kernel
theorem d_123_87 : decode (cM 123) 87 = .ok (.iload 4, 2) := by decide +kernel
theorem d_123_89 : decode (cM 123) 89 = .ok (.ireturn, 1) := by decide +kernel
theorem d_124_0 : decode (cM 124) 0 = .ok (.aload_n 0, 1) := by decide +kernel
theorem d_124_1 : decode (cM 124) 1 = .ok (.getfield 28, 3) := by decide +kernel
theorem d_124_4 : decode (cM 124) 4 = .ok (.aload_n 0, 1) := by decide +kernel
theorem d_124_5 : decode (cM 124) 5 = .ok (.getfield 21, 3) := by decide +kernel
theorem d_124_8 : decode (cM 124) 8 = .ok (.invokevirtual 239, 3) := by decide +kernel
theorem kc_124_8 : callT (oM 124) 239 = some (0, 21, 1) ∧ fok 124 21 = true ∧ stM 21 = false := by decide +kernel
theorem d_124_11 : decode (cM 124) 11 = .ok (.istore_n 1, 1) := by decide +kernel
theorem d_124_12 : decode (cM 124) 12 = .ok (.iconst 0, 1) := by decide +kernel
theorem d_124_13 : decode (cM 124) 13 = .ok (.istore_n 2, 1) := by decide +kernel
theorem d_124_14 : decode (cM 124) 14 = .ok (.iconst 0, 1) := by decide +kernel
theorem d_124_15 : decode (cM 124) 15 = .ok (.istore_n 3, 1) := by decide +kernel
theorem d_124_16 : decode (cM 124) 16 = .ok (.iload_n 3, 1) := by decide +kernel
theorem d_124_17 : decode (cM 124) 17 = .ok (.aload_n 0, 1) := by decide +kernel
theorem d_124_18 : decode (cM 124) 18 = .ok (.getfield 21, 3) := by decide +kernel
theorem d_124_21 : decode (cM 124) 21 = .ok (.getfield 259, 3) := by decide +kernel
theorem d_124_24 : decode (cM 124) 24 = .ok (.if_icmp .ge 28, 3) := by decide +kernel
theorem d_124_27 : decode (cM 124) 27 = .ok (.aload_n 0, 1) := by decide +kernel
theorem d_124_28 : decode (cM 124) 28 = .ok (.getfield 28, 3) := by decide +kernel
theorem d_124_31 : decode (cM 124) 31 = .ok (.iload_n 3, 1) := by decide +kernel
theorem d_124_32 : decode (cM 124) 32 = .ok (.invokevirtual 140, 3) := by decide +kernel
theorem kc_124_32 : callT (oM 124) 140 = some (0, 22, 1) ∧ fok 124 22 = true ∧ stM 22 = false := by decide +kernel
theorem d_124_35 : decode (cM 124) 35 = .ok (.iload_n 1, 1) := by decide +kernel
theorem d_124_36 : decode (cM 124) 36 = .ok (.iand, 1) := by decide +kernel
theorem d_124_37 : decode (cM 124) 37 = .ok (.ifCond .ne 9, 3) := by decide +kernel
theorem d_124_40 : decode (cM 124) 40 = .ok (.iload_n 2, 1) := by decide +kernel
theorem d_124_41 : decode (cM 124) 41 = .ok (.iconst 1, 1) := by decide +kernel
theorem d_124_42 : decode (cM 124) 42 = .ok (.iload_n 3, 1) := by decide +kernel
theorem d_124_43 : decode (cM 124) 43 = .ok (.ishl, 1) := by decide +kernel
theorem d_124_44 : decode (cM 124) 44 = .ok (.ior, 1) := by decide +kernel
theorem d_124_45 : decode (cM 124) 45 = .ok (.istore_n 2, 1) := by decide +kernel
theorem d_124_46 : decode (cM 124) 46 = .ok (.iinc 3 1, 3) := by decide +kernel
theorem d_124_49 : decode (cM 124) 49 = .ok (.goto (-33), 3) := by decide +kernel
theorem d_124_52 : decode (cM 124) 52 = .ok (.iload_n 2, 1) := by decide +kernel
theorem d_124_53 : decode (cM 124) 53 = .ok (.ireturn, 1) := by decide +kernel
theorem d_125_0 : decode (cM 125) 0 = .ok (.iload_n 1, 1) := by decide +kernel
theorem d_125_1 : decode (cM 125) 1 = .ok (.ifCond .lt 8, 3) := by decide +kernel
theorem d_125_4 : decode (cM 125) 4 = .ok (.iload_n 1, 1) := by decide +kernel
theorem d_125_5 : decode (cM 125) 5 = .ok (.iconst 1, 1) := by decide +kernel
theorem d_125_6 : decode (cM 125) 6 = .ok (.if_icmp .le 5, 3) := by decide +kernel
theorem d_125_9 : decode (cM 125) 9 = .ok (.iconst (-1), 1) := by decide +kernel
theorem d_125_10 : decode (cM 125) 10 = .ok (.ireturn, 1) := by decide +kernel
theorem d_125_11 : decode (cM 125) 11 = .ok (.aload_n 0, 1) := by decide +kernel
theorem d_125_12 : decode (cM 125) 12 = .ok (.invokevirtual 236, 3) := by decide +kernel
theorem kc_125_12 : callT (oM 125) 236 = some (0, 146, 0) ∧ fok 125 146 = true ∧ stM 146 = false := by decide +kernel
theorem d_125_15 : decode (cM 125) 15 = .ok (.invokestatic 184, 3) := by decide +kernel
theorem kc_125_15 : callT (oM 125) 184 = some (1, 276, 1) ∧ fok 125 276 = true ∧ stM 276 = true := by decide +kernel
theorem d_125_18 : decode (cM 125) 18 = .ok (.istore_n 2, 1) := by decide +kernel
theorem d_125_19 : decode (cM 125) 19 = .ok (.aload_n 0, 1) := by decide +kernel
theorem d_125_20 : decode (cM 125) 20 = .ok (.getfield 28, 3) := by decide +kernel
theorem d_125_23 : decode (cM 125) 23 = .ok (.aload_n 0, 1) := by decide +kernel
theorem d_125_24 : decode (cM 125) 24 = .ok (.getfield 21, 3) := by decide +kernel
theorem d_125_27 : decode (cM 125) 27 = .ok (.invokevirtual 239, 3) := by decide +kernel
theorem kc_125_27 : callT (oM 125) 239 = some (0, 21, 1) ∧ fok 125 21 = true ∧ stM 21 = false := by decide +kernel
theorem d_125_30 : decode (cM 125) 30 = .ok (.istore_n 3, 1) := by decide +kernel
theorem d_125_31 : decode (cM 125) 31 = .ok (.iconst 0, 1) := by decide +kernel
theorem d_125_32 : decode (cM 125) 32 = .ok (.istore 4, 2) := by decide +kernel
theorem d_125_34 : decode (cM 125) 34 = .ok (.iload 4, 2) := by decide +kernel
theorem d_125_36 : decode (cM 125) 36 = .ok (.aload_n 0, 1) := by decide +kernel
theorem d_125_37 : decode (cM 125) 37 = .ok (.getfield 21, 3) := by decide +kernel
theorem d_125_40 : decode (cM 125) 40 = .ok (.getfield 262, 3) := by decide +kernel
theorem d_125_43 : decode (cM 125) 43 = .ok (.if_icmp .ge 48, 3) := by decide +kernel
theorem d_125_46 : decode (cM 125) 46 = .ok (.iload_n 3, 1) := by decide +kernel
theorem d_125_47 : decode (cM 125) 47 = .ok (.iload 4, 2) := by decide +kernel
theorem d_125_49 : decode (cM 125) 49 = .ok (.ishr, 1) := by decide +kernel
theorem d_125_50 : decode (cM 125) 50 = .ok (.iconst 1, 1) := by decide +kernel
theorem d_125_51 : decode (cM 125) 51 = .ok (.iand, 1) := by decide +kernel
theorem d_125_52 : decode (cM 125) 52 = .ok (.ifCond .ne 6, 3) := by decide +kernel
theorem d_125_55 : decode (cM 125) 55 = .ok (.goto 30, 3) := by decide +kernel
theorem d_125_58 : decode (cM 125) 58 = .ok (.aload_n 0, 1) := by decide +kernel
theorem d_125_59 : decode (cM 125) 59 = .ok (.iload 4, 2) := by decide +kernel
theorem d_125_61 : decode (cM 125) 61 = .ok (.iload_n 2, 1) := by decide +kernel
theorem d_125_62 : decode (cM 125) 62 = .ok (.invokevirtual 265, 3) := by decide +kernel
theorem kc_125_62 : callT (oM 125) 265 = some (0, 147, 2) ∧ fok 125 147 = true ∧ stM 147 = false := by decide +kernel
theorem d_125_65 : decode (cM 125) 65 = .ok (.istore 5, 2) := by decide +kernel
theorem d_125_67 : decode (cM 125) 67 = .ok (.iload 5, 2) := by decide +kernel
theorem d_125_69 : decode (cM 125) 69 = .ok (.iconst (-1), 1) := by decide +kernel
theorem d_125_70 : decode (cM 125) 70 = .ok (.if_icmp .eq 15, 3) := by decide +kernel
theorem d_125_73 : decode (cM 125) 73 = .ok (.iload_n 1, 1) := by decide +kernel
theorem d_125_74 : decode (cM 125) 74 = .ok (.ifCond .ne 8, 3) := by decide +kernel
theorem d_125_77 : decode (cM 125) 77 = .ok (.iload 4, 2) := by decide +kernel
theorem d_125_79 : decode (cM 125) 79 = .ok (.goto 5, 3) := by decide +kernel
theorem d_125_82 : decode (cM 125) 82 = .ok (.iload 5, 2) := by decide +kernel
theorem d_125_84 : decode (cM 125) 84 = .ok (.ireturn, 1) := by decide +kernel
theorem d_125_85 : decode (cM 125) 85 = .ok (.iinc 4 1, 3) := by decide +kernel
theorem d_125_88 : decode (cM 125) 88 = .ok (.goto (-54), 3) := by decide +kernel
theorem d_125_91 : decode (cM 125) 91 = .ok (.bipush (-2), 2) := by decide +kernel
theorem d_125_93 : decode (cM 125) 93 = .ok (.ireturn, 1) := by decide +kernel
theorem d_126_0 : decode (cM 126) 0 = .ok (.aload_n 0, 1) := by decide +kernel
theorem d_126_1 : decode (cM 126) 1 = .ok (.iload_n 1, 1) := by decide +kernel
theorem d_126_2 : decode (cM 126) 2 = .ok (.invokevirtual 211, 3) := by decide +kernel
theorem kc_126_2 : callT (oM 126) 211 = some (0, 144, 1) ∧ fok 126 144 = true ∧ stM 144 = false := by decide +kernel
theorem d_126_5 : decode (cM 126) 5 = .ok (.ifCond .eq 11, 3) := by decide +kernel
theorem d_126_8 : decode (cM 126) 8 = .ok (.aload_n 0, 1) := by decide +kernel
theorem d_126_9 : decode (cM 126) 9 = .ok (.iload_n 2, 1) := by decide +kernel
theorem d_126_10 : decode (cM 126) 10 = .ok (.invokevirtual 211, 3) := by decide +kernel
theorem kc_126_10 : callT (oM 126) 211 = some (0, 144, 1) ∧ fok 126 144 = true ∧ stM 144 = false := by decide +kernel
theorem d_126_13 : decode (cM 126) 13 = .ok (.ifCond .ne 5, 3) := by decide +kernel
theorem d_126_16 : decode (cM 126) 16 = .ok (.iconst (-1), 1) := by decide +kernel
theorem d_126_17 : decode (cM 126) 17 = .ok (.ireturn, 1) := by decide +kernel
theorem d_126_18 : decode (cM 126) 18 = .ok (.aload_n 0, 1) := by decide +kernel
theorem d_126_19 : decode (cM 126) 19 = .ok (.invokevirtual 214, 3) := by decide +kernel
theorem kc_126_19 : callT (oM 126) 214 = some (0, 145, 0) ∧ fok 126 145 = true ∧ stM 145 = false := by decide +kernel
theorem d_126_22 : decode (cM 126) 22 = .ok (.aload_n 0, 1) := by decide +kernel
theorem d_126_23 : decode (cM 126) 23 = .ok (.getfield 62, 3) := by decide +kernel
theorem d_126_26 : decode (cM 126) 26 = .ok (.iload_n 1, 1) := by decide +kernel
theorem d_126_27 : decode (cM 126) 27 = .ok (.iload_n 2, 1) := by decide +kernel
theorem d_126_28 : decode (cM 126) 28 = .ok (.ixor, 1) := by decide +kernel
theorem d_126_29 : decode (cM 126) 29 = .ok (.invokevirtual 220, 3) := by decide +kernel
theorem kc_126_29 : callT (oM 126) 220 = some (0, 75, 1) ∧ fok 126 75 = true ∧ stM 75 = false := by decide +kernel
theorem d_126_32 : decode (cM 126) 32 = .ok (.istore_n 3, 1) := by decide +kernel
theorem d_126_33 : decode (cM 126) 33 = .ok (.iload_n 3, 1) := by decide +kernel
theorem d_126_34 : decode (cM 126) 34 = .ok (.ifCond .ge 7, 3) := by decide +kernel
theorem d_126_37 : decode (cM 126) 37 = .ok (.iload_n 3, 1) := by decide +kernel
theorem d_126_38 : decode (cM 126) 38 = .ok (.goto 7, 3) := by decide +kernel
theorem d_126_41 : decode (cM 126) 41 = .ok (.iload_n 3, 1) := by decide +kernel
theorem d_126_42 : decode (cM 126) 42 = .ok (.invokestatic 184, 3) := by decide +kernel
theorem kc_126_42 : callT (oM 126) 184 = some (1, 276, 1) ∧ fok 126 276 = true ∧ stM 276 = true := by decide +kernel
theorem d_126_45 : decode (cM 126) 45 = .ok (.ireturn, 1) := by decide +kernel
theorem d_127_0 : decode (cM 127) 0 = .ok (.iload_n 1, 1) := by decide +kernel
theorem d_127_1 : decode (cM 127) 1 = .ok (.ifCond .lt 9, 3) := by decide +kernel
theorem d_127_4 : decode (cM 127) 4 = .ok (.iload_n 1, 1) := by decide +kernel
theorem d_127_5 : decode (cM 127) 5 = .ok (.bipush 14, 2) := by decide +kernel
theorem d_127_7 : decode (cM 127) 7 = .ok (.if_icmp .le 5, 3) := by decide +kernel
theorem d_127_10 : decode (cM 127) 10 = .ok (.iconst (-1), 1) := by decide +kernel
theorem d_127_11 : decode (cM 127) 11 = .ok (.ireturn, 1) := by decide +kernel
theorem d_127_12 : decode (cM 127) 12 = .ok (.aload_n 0, 1) := by decide +kernel
theorem d_127_13 : decode (cM 127) 13 = .ok (.invokevirtual 214, 3) := by decide +kernel
theorem kc_127_13 : callT (oM 127) 214 = some (0, 145, 0) ∧ fok 127 145 = true ∧ stM 145 = false := by decide +kernel
theorem d_127_16 : decode (cM 127) 16 = .ok (.aload_n 0, 1) := by decide +kernel
theorem d_127_17 : decode (cM 127) 17 = .ok (.getfield 62, 3) := by decide +kernel
theorem d_127_20 : decode (cM 127) 20 = .ok (.aload_n 0, 1) := by decide +kernel
theorem d_127_21 : decode (cM 127) 21 = .ok (.getfield 28, 3) := by decide +kernel
theorem d_127_24 : decode (cM 127) 24 = .ok (.getfield 130, 3) := by decide +kernel
theorem d_127_27 : decode (cM 127) 27 = .ok (.iload_n 1, 1) := by decide +kernel
theorem d_127_28 : decode (cM 127) 28 = .ok (.aload_n 0, 1) := by decide +kernel
theorem d_127_29 : decode (cM 127) 29 = .ok (.invokevirtual 236, 3) := by decide +kernel
theorem kc_127_29 : callT (oM 127) 236 = some (0, 146, 0) ∧ fok 127 146 = true ∧ stM 146 = false := by decide +kernel
theorem d_127_32 : decode (cM 127) 32 = .ok (.invokevirtual 269, 3) := by decide +kernel
theorem kc_127_32 : callT (oM 127) 269 = some (0, 82, 3) ∧ fok 127 82 = true ∧ stM 82 = false := by decide +kernel
theorem d_127_35 : decode (cM 127) 35 = .ok (.ireturn, 1) := by decide +kernel
theorem d_128_0 : decode (cM 128) 0 = .ok (.iload_n 1, 1) := by decide +kernel
theorem d_128_1 : decode (cM 128) 1 = .ok (.ifCond .lt 8, 3) := by decide +kernel
theorem d_128_4 : decode (cM 128) 4 = .ok (.iload_n 1, 1) := by decide +kernel
theorem d_128_5 : decode (cM 128) 5 = .ok (.iconst 1, 1) := by decide +kernel
theorem d_128_6 : decode (cM 128) 6 = .ok (.if_icmp .le 5, 3) := by decide +kernel
theorem d_128_9 : decode (cM 128) 9 = .ok (.iconst (-1), 1) := by decide +kernel
theorem d_128_10 : decode (cM 128) 10 = .ok (.ireturn, 1) := by decide +kernel
theorem d_128_11 : decode (cM 128) 11 = .ok (.aload_n 0, 1) := by decide +kernel
theorem d_128_12 : decode (cM 128) 12 = .ok (.getfield 28, 3) := by decide +kernel
theorem d_128_15 : decode (cM 128) 15 = .ok (.aload_n 0, 1) := by decide +kernel
theorem d_128_16 : decode (cM 128) 16 = .ok (.getfield 21, 3) := by decide +kernel
theorem d_128_19 : decode (cM 128) 19 = .ok (.invokevirtual 239, 3) := by decide +kernel
theorem kc_128_19 : callT (oM 128) 239 = some (0, 21, 1) ∧ fok 128 21 = true ∧ stM 21 = false := by decide +kernel
theorem d_128_22 : decode (cM 128) 22 = .ok (.istore_n 2, 1) := by decide +kernel
theorem d_128_23 : decode (cM 128) 23 = .ok (.aload_n 0, 1) := by decide +kernel
theorem d_128_24 : decode (cM 128) 24 = .ok (.getfield 28, 3) := by decide +kernel
theorem d_128_27 : decode (cM 128) 27 = .ok (.getfield 130, 3) := by decide +kernel
theorem d_128_30 : decode (cM 128) 30 = .ok (.ifCond .eq 7, 3) := by decide +kernel
theorem d_128_33 : decode (cM 128) 33 = .ok (.iload_n 2, 1) := by decide +kernel
theorem d_128_34 : decode (cM 128) 34 = .ok (.ifCond .ne 14, 3) := by decide +kernel
theorem d_128_37 : decode (cM 128) 37 = .ok (.iload_n 1, 1) := by decide +kernel
theorem d_128_38 : decode (cM 128) 38 = .ok (.ifCond .ne 7, 3) := by decide +kernel
theorem d_128_41 : decode (cM 128) 41 = .ok (.iconst 2, 1) := by decide +kernel
theorem d_128_42 : decode (cM 128) 42 = .ok (.goto 5, 3) := by decide +kernel
theorem d_128_45 : decode (cM 128) 45 = .ok (.bipush (-2), 2) := by decide +kernel
theorem d_128_47 : decode (cM 128) 47 = .ok (.ireturn, 1) := by decide +kernel
theorem d_128_48 : decode (cM 128) 48 = .ok (.aload_n 0, 1) := by decide +kernel
theorem d_128_49 : decode (cM 128) 49 = .ok (.invokevirtual 214, 3) := by decide +kernel
theorem kc_128_49 : callT (oM 128) 214 = some (0, 145, 0) ∧ fok 128 145 = true ∧ stM 145 = false := by decide +kernel
theorem d_128_52 : decode (cM 128) 52 = .ok (.aload_n 0, 1) := by decide +kernel
theorem d_128_53 : decode (cM 128) 53 = .ok (.getfield 62, 3) := by decide +kernel
theorem d_128_56 : decode (cM 128) 56 = .ok (.aload_n 0, 1) := by decide +kernel
theorem d_128_57 : decode (cM 128) 57 = .ok (.getfield 28, 3) := by decide +kernel
theorem d_128_60 : decode (cM 128) 60 = .ok (.getfield 130, 3) := by decide +kernel
theorem d_128_63 : decode (cM 128) 63 = .ok (.invokevirtual 273, 3) := by decide +kernel
theorem kc_128_63 : callT (oM 128) 273 = some (0, 83, 1) ∧ fok 128 83 = true ∧ stM 83 = false := by decide +kernel
theorem d_128_66 : decode (cM 128) 66 = .ok (.istore_n 3, 1) := by decide +kernel
theorem d_128_67 : decode (cM 128) 67 = .ok (.iload_n 1, 1) := by decide +kernel
theorem d_128_68 : decode (cM 128) 68 = .ok (.iconst 1, 1) := by decide +kernel
theorem d_128_69 : decode (cM 128) 69 = .ok (.if_icmp .ne 19, 3) := by decide +kernel
theorem d_128_72 : decode (cM 128) 72 = .ok (.aload_n 0, 1) := by decide +kernel
theorem d_128_73 : decode (cM 128) 73 = .ok (.getfield 62, 3) := by decide +kernel
theorem d_128_76 : decode (cM 128) 76 = .ok (.iload_n 3, 1) := by decide +kernel
theorem d_128_77 : decode (cM 128) 77 = .ok (.aload_n 0, 1) := by decide +kernel
theorem d_128_78 : decode (cM 128) 78 = .ok (.getfield 28, 3) := by decide +kernel
theorem d_128_81 : decode (cM 128) 81 = .ok (.getfield 130, 3) := by decide +kernel
theorem d_128_84 : decode (cM 128) 84 = .ok (.invokevirtual 276, 3) := by decide +kernel
theorem kc_128_84 : callT (oM 128) 276 = some (0, 86, 2) ∧ fok 128 86 = true ∧ stM 86 = false := by decide +kernel
theorem d_128_87 : decode (cM 128) 87 = .ok (.ireturn, 1) := by decide +kernel
theorem d_128_88 : decode (cM 128) 88 = .ok (.iload_n 3, 1) := by decide +kernel
theorem d_128_89 : decode (cM 128) 89 = .ok (.lookupswitch 31 #[(0, 29), (2, 27)], 27) := by decide +kernel
theorem d_128_116 : decode (cM 128) 116 = .ok (.iconst 0, 1) := by decide +kernel
theorem d_128_117 : decode (cM 128) 117 = .ok (.ireturn, 1) := by decide +kernel
theorem d_128_118 : decode (cM 128) 118 = .ok (.iconst 1, 1) := by decide +kernel
theorem d_128_119 : decode (cM 128) 119 = .ok (.ireturn, 1) := by decide +kernel
theorem d_128_120 : decode (cM 128) 120 = .ok (.iconst 2, 1) := by decide +kernel
theorem d_128_121 : decode (cM 128) 121 = .ok (.ireturn, 1) := by decide +kernel
theorem d_129_0 : decode (cM 129) 0 = .ok (.iload_n 1, 1) := by decide +kernel
theorem d_129_1 : decode (cM 129) 1 = .ok (.ifCond .lt 18, 3) := by decide +kernel
theorem d_129_4 : decode (cM 129) 4 = .ok (.iload_n 1, 1) := by decide +kernel
theorem d_129_5 : decode (cM 129) 5 = .ok (.bipush 6, 2) := by decide +kernel
theorem d_129_7 : decode (cM 129) 7 = .ok (.if_icmp .gt 12, 3) := by decide +kernel
theorem d_129_10 : decode (cM 129) 10 = .ok (.iload_n 2, 1) := by decide +kernel
theorem d_129_11 : decode (cM 129) 11 = .ok (.ifCond .lt 8, 3) := by decide +kernel
theorem d_129_14 : decode (cM 129) 14 = .ok (.iload_n 2, 1) := by decide +kernel
theorem d_129_15 : decode (cM 129) 15 = .ok (.iconst 1, 1) := by decide +kernel
theorem d_129_16 : decode (cM 129) 16 = .ok (.if_icmp .le 7, 3) := by decide +kernel
theorem d_129_19 : decode (cM 129) 19 = .ok (.ldc2_w 279, 3) := by decide +kernel
theorem d_129_22 : decode (cM 129) 22 = .ok (.lreturn, 1) := by decide +kernel
theorem d_129_23 : decode (cM 129) 23 = .ok (.bipush 100, 2) := by decide +kernel
theorem d_129_25 : decode (cM 129) 25 = .ok (.aload_n 0, 1) := by decide +kernel
theorem d_129_26 : decode (cM 129) 26 = .ok (.getfield 21, 3) := by decide +kernel
theorem d_129_29 : decode (cM 129) 29 = .ok (.invokevirtual 281, 3) := by decide +kernel
theorem kc_129_29 : callT (oM 129) 281 = some (0, 92, 0) ∧ fok 129 92 = true ∧ stM 92 = false := by decide +kernel
theorem d_129_32 : decode (cM 129) 32 = .ok (.isub, 1) := by decide +kernel
theorem d_129_33 : decode (cM 129) 33 = .ok (.istore_n 3, 1) := by decide +kernel
theorem d_129_34 : decode (cM 129) 34 = .ok (.bipush 100, 2) := by decide +kernel
theorem d_129_36 : decode (cM 129) 36 = .ok (.istore 4, 2) := by decide +kernel
theorem d_129_38 : decode (cM 129) 38 = .ok (.iload 4, 2) := by decide +kernel
theorem d_129_40 : decode (cM 129) 40 = .ok (.iconst 1, 1) := by decide +kernel
theorem d_129_41 : decode (cM 129) 41 = .ok (.if_icmp .le 24, 3) := by decide +kernel
theorem d_129_44 : decode (cM 129) 44 = .ok (.iload_n 3, 1) := by decide +kernel
theorem d_129_45 : decode (cM 129) 45 = .ok (.iload 4, 2) := by decide +kernel
theorem d_129_47 : decode (cM 129) 47 = .ok (.irem, 1) := by decide +kernel
theorem d_129_48 : decode (cM 129) 48 = .ok (.ifCond .ne 11, 3) := by decide +kernel
theorem d_129_51 : decode (cM 129) 51 = .ok (.bipush 100, 2) := by decide +kernel
theorem d_129_53 : decode (cM 129) 53 = .ok (.iload 4, 2) := by decide +kernel
theorem d_129_55 : decode (cM 129) 55 = .ok (.irem, 1) := by decide +kernel
theorem d_129_56 : decode (cM 129) 56 = .ok (.ifCond .eq 9, 3) := by decide +kernel
theorem d_129_59 : decode (cM 129) 59 = .ok (.iinc 4 (-1), 3) := by decide +kernel
theorem d_129_62 : decode (cM 129) 62 = .ok (.goto (-24), 3) := by decide +kernel
theorem d_129_65 : decode (cM 129) 65 = .ok (.iload_n 2, 1) := by decide +kernel
theorem d_129_66 : decode (cM 129) 66 = .ok (.ifCond .ne 7, 3) := by decide +kernel
theorem d_129_69 : decode (cM 129) 69 = .ok (.iload_n 3, 1) := by decide +kernel
theorem d_129_70 : decode (cM 129) 70 = .ok (.goto 5, 3) := by decide +kernel
theorem d_129_73 : decode (cM 129) 73 = .ok (.bipush 100, 2) := by decide +kernel
theorem d_129_75 : decode (cM 129) 75 = .ok (.iload 4, 2) := by decide +kernel
theorem d_129_77 : decode (cM 129) 77 = .ok (.idiv, 1) := by decide +kernel
theorem d_129_78 : decode (cM 129) 78 = .ok (.i2l, 1) := by decide +kernel
theorem d_129_79 : decode (cM 129) 79 = .ok (.lstore 5, 2) := by decide +kernel
theorem d_129_81 : decode (cM 129) 81 = .ok (.lconst 1, 1) := by decide +kernel
theorem d_129_82 : decode (cM 129) 82 = .ok (.lstore 7, 2) := by decide +kernel
theorem d_129_84 : decode (cM 129) 84 = .ok (.iconst 0, 1) := by decide +kernel
theorem d_129_85 : decode (cM 129) 85 = .ok (.istore 9, 2) := by decide +kernel
theorem d_129_87 : decode (cM 129) 87 = .ok (.iload 9, 2) := by decide +kernel
theorem d_129_89 : decode (cM 129) 89 = .ok (.iload_n 1, 1) := by decide +kernel
theorem d_129_90 : decode (cM 129) 90 = .ok (.if_icmp .ge 16, 3) := by decide +kernel
theorem d_129_93 : decode (cM 129) 93 = .ok (.lload 7, 2) := by decide +kernel
theorem d_129_95 : decode (cM 129) 95 = .ok (.lload 5, 2) := by decide +kernel
theorem d_129_97 : decode (cM 129) 97 = .ok (.lmul, 1) := by decide +kernel
theorem d_129_98 : decode (cM 129) 98 = .ok (.lstore 7, 2) := by decide +kernel
theorem d_129_100 : decode (cM 129) 100 = .ok (.iinc 9 1, 3) := by decide +kernel
theorem d_129_103 : decode (cM 129) 103 = .ok (.goto (-16), 3) := by decide +kernel
theorem d_129_106 : decode (cM 129) 106 = .ok (.lload 7, 2) := by decide +kernel
theorem d_129_108 : decode (cM 129) 108 = .ok (.lreturn, 1) := by decide +kernel
theorem d_130_0 : decode (cM 130) 0 = .ok (.iload_n 1, 1) := by decide +kernel
theorem d_130_1 : decode (cM 130) 1 = .ok (.ifCond .ne 11, 3) := by decide +kernel
theorem d_130_4 : decode (cM 130) 4 = .ok (.aload_n 0, 1) := by decide +kernel
theorem d_130_5 : decode (cM 130) 5 = .ok (.iload_n 2, 1) := by decide +kernel
theorem d_130_6 : decode (cM 130) 6 = .ok (.invokevirtual 119, 3) := by decide +kernel
theorem kc_130_6 : callT (oM 130) 119 = some (0, 142, 1) ∧ fok 130 142 = true ∧ stM 142 = false := by decide +kernel
theorem d_130_9 : decode (cM 130) 9 = .ok (.goto 21, 3) := by decide +kernel
theorem d_130_12 : decode (cM 130) 12 = .ok (.iload_n 1, 1) := by decide +kernel
theorem d_130_13 : decode (cM 130) 13 = .ok (.iconst 1, 1) := by decide +kernel
theorem d_130_14 : decode (cM 130) 14 = .ok (.if_icmp .ne 15, 3) := by decide +kernel
theorem d_130_17 : decode (cM 130) 17 = .ok (.aload_n 0, 1) := by decide +kernel
theorem d_130_18 : decode (cM 130) 18 = .ok (.iload_n 2, 1) := by decide +kernel
theorem d_130_19 : decode (cM 130) 19 = .ok (.invokevirtual 148, 3) := by decide +kernel
theorem kc_130_19 : callT (oM 130) 148 = some (0, 143, 1) ∧ fok 130 143 = true ∧ stM 143 = false := by decide +kernel
theorem d_130_22 : decode (cM 130) 22 = .ok (.ifCond .eq 7, 3) := by decide +kernel
theorem d_130_25 : decode (cM 130) 25 = .ok (.iconst 1, 1) := by decide +kernel
theorem d_130_26 : decode (cM 130) 26 = .ok (.goto 4, 3) := by decide +kernel
theorem d_130_29 : decode (cM 130) 29 = .ok (.iconst 0, 1) := by decide +kernel
theorem d_130_30 : decode (cM 130) 30 = .ok (.istore 4, 2) := by decide +kernel
theorem d_130_32 : decode (cM 130) 32 = .ok (.iload 4, 2) := by decide +kernel
theorem d_130_34 : decode (cM 130) 34 = .ok (.ifCond .eq 16, 3) := by decide +kernel
theorem d_130_37 : decode (cM 130) 37 = .ok (.aload_n 0, 1) := by decide +kernel
theorem d_130_38 : decode (cM 130) 38 = .ok (.getfield 55, 3) := by decide +kernel
theorem d_130_41 : decode (cM 130) 41 = .ok (.iload_n 1, 1) := by decide +kernel
theorem d_130_42 : decode (cM 130) 42 = .ok (.iload_n 2, 1) := by decide +kernel
theorem d_130_43 : decode (cM 130) 43 = .ok (.iload_n 3, 1) := by decide +kernel
theorem d_130_44 : decode (cM 130) 44 = .ok (.invokevirtual 284, 3) := by decide +kernel
theorem kc_130_44 : callT (oM 130) 284 = some (0, 28, 3) ∧ fok 130 28 = true ∧ stM 28 = false := by decide +kernel
theorem d_130_47 : decode (cM 130) 47 = .ok (.goto 4, 3) := by decide +kernel
theorem d_130_50 : decode (cM 130) 50 = .ok (.iconst (-1), 1) := by decide +kernel
theorem d_130_51 : decode (cM 130) 51 = .ok (.ireturn, 1) := by decide +kernel
theorem d_131_0 : decode (cM 131) 0 = .ok (.aload_n 0, 1) := by decide +kernel
theorem d_131_1 : decode (cM 131) 1 = .ok (.getfield 55, 3) := by decide +kernel
theorem d_131_4 : decode (cM 131) 4 = .ok (.iload_n 1, 1) := by decide +kernel
theorem d_131_5 : decode (cM 131) 5 = .ok (.invokevirtual 288, 3) := by decide +kernel
theorem kc_131_5 : callT (oM 131) 288 = some (0, 29, 1) ∧ fok 131 29 = true ∧ stM 29 = false := by decide +kernel
theorem d_131_8 : decode (cM 131) 8 = .ok (.ireturn, 1) := by decide +kernel
theorem d_132_0 : decode (cM 132) 0 = .ok (.iload_n 1, 1) := by decide +kernel
theorem d_132_1 : decode (cM 132) 1 = .ok (.iconst (-1), 1) := by decide +kernel
theorem d_132_2 : decode (cM 132) 2 = .ok (.if_icmp .lt 14, 3) := by decide +kernel
theorem d_132_5 : decode (cM 132) 5 = .ok (.iload_n 1, 1) := by decide +kernel
theorem d_132_6 : decode (cM 132) 6 = .ok (.aload_n 0, 1) := by decide +kernel
theorem d_132_7 : decode (cM 132) 7 = .ok (.getfield 55, 3) := by decide +kernel
theorem d_132_10 : decode (cM 132) 10 = .ok (.getfield 291, 3) := by decide +kernel
theorem d_132_13 : decode (cM 132) 13 = .ok (.if_icmp .le 5, 3) := by decide +kernel
theorem d_132_16 : decode (cM 132) 16 = .ok (.iconst 0, 1) := by decide +kernel
theorem d_132_17 : decode (cM 132) 17 = .ok (.ireturn, 1) := by decide +kernel
theorem d_132_18 : decode (cM 132) 18 = .ok (.aload_n 0, 1) := by decide +kernel
theorem d_132_19 : decode (cM 132) 19 = .ok (.getfield 55, 3) := by decide +kernel
theorem d_132_22 : decode (cM 132) 22 = .ok (.iload_n 1, 1) := by decide +kernel
theorem d_132_23 : decode (cM 132) 23 = .ok (.putfield 294, 3) := by decide +kernel
theorem d_132_26 : decode (cM 132) 26 = .ok (.iconst 1, 1) := by decide +kernel
theorem d_132_27 : decode (cM 132) 27 = .ok (.ireturn, 1) := by decide +kernel
theorem d_133_0 : decode (cM 133) 0 = .ok (.aload_n 0, 1) := by decide +kernel
theorem d_133_1 : decode (cM 133) 1 = .ok (.invokevirtual 297, 3) := by decide +kernel
theorem kc_133_1 : callT (oM 133) 297 = some (0, 148, 0) ∧ fok 133 148 = true ∧ stM 148 = false := by decide +kernel
theorem d_133_4 : decode (cM 133) 4 = .ok (.ireturn, 1) := by decide +kernel
theorem d_134_0 : decode (cM 134) 0 = .ok (.aload_n 0, 1) := by decide +kernel
theorem d_134_1 : decode (cM 134) 1 = .ok (.iload_n 1, 1) := by decide +kernel
theorem d_134_2 : decode (cM 134) 2 = .ok (.invokevirtual 148, 3) := by decide +kernel
theorem kc_134_2 : callT (oM 134) 148 = some (0, 143, 1) ∧ fok 134 143 = true ∧ stM 143 = false := by decide +kernel
theorem d_134_5 : decode (cM 134) 5 = .ok (.ifCond .ne 5, 3) := by decide +kernel
theorem d_134_8 : decode (cM 134) 8 = .ok (.iconst (-1), 1) := by decide +kernel
theorem d_134_9 : decode (cM 134) 9 = .ok (.ireturn, 1) := by decide +kernel
theorem d_134_10 : decode (cM 134) 10 = .ok (.aload_n 0, 1) := by decide +kernel
theorem d_134_11 : decode (cM 134) 11 = .ok (.invokevirtual 297, 3) := by decide +kernel
theorem kc_134_11 : callT (oM 134) 297 = some (0, 148, 0) ∧ fok 134 148 = true ∧ stM 148 = false := by decide +kernel
theorem d_134_14 : decode (cM 134) 14 = .ok (.ifCond .ne 6, 3) := by decide +kernel
theorem d_134_17 : decode (cM 134) 17 = .ok (.bipush (-2), 2) := by decide +kernel
theorem d_134_19 : decode (cM 134) 19 = .ok (.ireturn, 1) := by decide +kernel
theorem d_134_20 : decode (cM 134) 20 = .ok (.aload_n 0, 1) := by decide +kernel
theorem d_134_21 : decode (cM 134) 21 = .ok (.getfield 55, 3) := by decide +kernel
theorem d_134_24 : decode (cM 134) 24 = .ok (.getfield 300, 3) := by decide +kernel
theorem d_134_27 : decode (cM 134) 27 = .ok (.iload_n 1, 1) := by decide +kernel
theorem d_134_28 : decode (cM 134) 28 = .ok (.ishr, 1) := by decide +kernel
theorem d_134_29 : decode (cM 134) 29 = .ok (.iconst 1, 1) := by decide +kernel
theorem d_134_30 : decode (cM 134) 30 = .ok (.iand, 1) := by decide +kernel
theorem d_134_31 : decode (cM 134) 31 = .ok (.ifCond .eq 5, 3) := by decide +kernel
theorem d_134_34 : decode (cM 134) 34 = .ok (.iconst 1, 1) := by decide +kernel
theorem d_134_35 : decode (cM 134) 35 = .ok (.ireturn, 1) := by decide +kernel
theorem d_134_36 : decode (cM 134) 36 = .ok (.aload_n 0, 1) := by decide +kernel
theorem d_134_37 : decode (cM 134) 37 = .ok (.getfield 55, 3) := by decide +kernel
theorem d_134_40 : decode (cM 134) 40 = .ok (.getfield 303, 3) := by decide +kernel
theorem d_134_43 : decode (cM 134) 43 = .ok (.iload_n 1, 1) := by decide +kernel
theorem d_134_44 : decode (cM 134) 44 = .ok (.ishr, 1) := by decide +kernel
theorem d_134_45 : decode (cM 134) 45 = .ok (.iconst 1, 1) := by decide +kernel
theorem d_134_46 : decode (cM 134) 46 = .ok (.iand, 1) := by decide +kernel
theorem d_134_47 : decode (cM 134) 47 = .ok (.ifCond .eq 7, 3) := by decide +kernel
theorem d_134_50 : decode (cM 134) 50 = .ok (.iconst 2, 1) := by decide +kernel
theorem d_134_51 : decode (cM 134) 51 = .ok (.goto 4, 3) := by decide +kernel
theorem d_134_54 : decode (cM 134) 54 = .ok (.iconst 0, 1) := by decide +kernel
theorem d_134_55 : decode (cM 134) 55 = .ok (.ireturn, 1) := by decide +kernel
theorem d_135_0 : decode (cM 135) 0 = .ok (.aload_n 0, 1) := by decide +kernel
theorem d_135_1 : decode (cM 135) 1 = .ok (.invokevirtual 297, 3) := by decide +kernel
theorem kc_135_1 : callT (oM 135) 297 = some (0, 148, 0) ∧ fok 135 148 = true ∧ stM 148 = false := by decide +kernel
theorem d_135_4 : decode (cM 135) 4 = .ok (.ifCond .ne 6, 3) := by decide +kernel
theorem d_135_7 : decode (cM 135) 7 = .ok (.bipush (-2), 2) := by decide +kernel
theorem d_135_9 : decode (cM 135) 9 = .ok (.ireturn, 1) := by decide +kernel
theorem d_135_10 : decode (cM 135) 10 = .ok (.aload_n 0, 1) := by decide +kernel
theorem d_135_11 : decode (cM 135) 11 = .ok (.getfield 55, 3) := by decide +kernel
theorem d_135_14 : decode (cM 135) 14 = .ok (.getfield 306, 3) := by decide +kernel
theorem d_135_17 : decode (cM 135) 17 = .ok (.aload_n 0, 1) := by decide +kernel
theorem d_135_18 : decode (cM 135) 18 = .ok (.getfield 55, 3) := by decide +kernel
theorem d_135_21 : decode (cM 135) 21 = .ok (.getfield 309, 3) := by decide +kernel
theorem d_135_24 : decode (cM 135) 24 = .ok (.iconst (-1), 1) := by decide +kernel
theorem d_135_25 : decode (cM 135) 25 = .ok (.ixor, 1) := by decide +kernel
theorem d_135_26 : decode (cM 135) 26 = .ok (.iand, 1) := by decide +kernel
theorem d_135_27 : decode (cM 135) 27 = .ok (.istore_n 1, 1) := by decide +kernel
theorem d_135_28 : decode (cM 135) 28 = .ok (.iload_n 1, 1) := by decide +kernel
theorem d_135_29 : decode (cM 135) 29 = .ok (.ifCond .ne 8, 3) := by decide +kernel
theorem d_135_32 : decode (cM 135) 32 = .ok (.bipush (-2), 2) := by decide +kernel
theorem d_135_34 : decode (cM 135) 34 = .ok (.goto 7, 3) := by decide +kernel
theorem d_135_37 : decode (cM 135) 37 = .ok (.iload_n 1, 1) := by decide +kernel
theorem d_135_38 : decode (cM 135) 38 = .ok (.invokestatic 312, 3) := by decide +kernel
theorem kc_135_38 : callT (oM 135) 312 = some (1, 275, 1) ∧ fok 135 275 = true ∧ stM 275 = true := by decide +kernel
theorem d_135_41 : decode (cM 135) 41 = .ok (.ireturn, 1) := by decide +kernel
theorem d_136_0 : decode (cM 136) 0 = .ok (.iload_n 1, 1) := by decide +kernel
theorem d_136_1 : decode (cM 136) 1 = .ok (.ifCond .lt 22, 3) := by decide +kernel
theorem d_136_4 : decode (cM 136) 4 = .ok (.iload_n 2, 1) := by decide +kernel
theorem d_136_5 : decode (cM 136) 5 = .ok (.iconst 1, 1) := by decide +kernel
theorem d_136_6 : decode (cM 136) 6 = .ok (.if_icmp .lt 17, 3) := by decide +kernel
theorem d_136_9 : decode (cM 136) 9 = .ok (.iload_n 2, 1) := by decide +kernel
theorem d_136_10 : decode (cM 136) 10 = .ok (.bipush 99, 2) := by decide +kernel
theorem d_136_12 : decode (cM 136) 12 = .ok (.if_icmp .gt 11, 3) := by decide +kernel
theorem d_136_15 : decode (cM 136) 15 = .ok (.aload_n 0, 1) := by decide +kernel
theorem d_136_16 : decode (cM 136) 16 = .ok (.iload_n 3, 1) := by decide +kernel
theorem d_136_17 : decode (cM 136) 17 = .ok (.invokevirtual 119, 3) := by decide +kernel
theorem kc_136_17 : callT (oM 136) 119 = some (0, 142, 1) ∧ fok 136 142 = true ∧ stM 142 = false := by decide +kernel
theorem d_136_20 : decode (cM 136) 20 = .ok (.ifCond .ne 5, 3) := by decide +kernel
theorem d_136_23 : decode (cM 136) 23 = .ok (.iconst (-1), 1) := by decide +kernel
theorem d_136_24 : decode (cM 136) 24 = .ok (.ireturn, 1) := by decide +kernel
theorem d_136_25 : decode (cM 136) 25 = .ok (.iload_n 1, 1) := by decide +kernel
theorem d_136_26 : decode (cM 136) 26 = .ok (.istore 4, 2) := by decide +kernel
theorem d_136_28 : decode (cM 136) 28 = .ok (.iconst 0, 1) := by decide +kernel
theorem d_136_29 : decode (cM 136) 29 = .ok (.istore 5, 2) := by decide +kernel
theorem d_136_31 : decode (cM 136) 31 = .ok (.aload_n 0, 1) := by decide +kernel
theorem d_136_32 : decode (cM 136) 32 = .ok (.getfield 41, 3) := by decide +kernel
theorem d_136_35 : decode (cM 136) 35 = .ok (.invokevirtual 177, 3) := by decide +kernel
theorem kc_136_35 : callT (oM 136) 177 = some (0, 5, 0) ∧ fok 136 5 = true ∧ stM 5 = false := by decide +kernel
theorem d_136_38 : decode (cM 136) 38 = .ok (.iconst 0, 1) := by decide +kernel
theorem d_136_39 : decode (cM 136) 39 = .ok (.istore 6, 2) := by decide +kernel
theorem d_136_41 : decode (cM 136) 41 = .ok (.iload 6, 2) := by decide +kernel
theorem d_136_43 : decode (cM 136) 43 = .ok (.bipush 10, 2) := by decide +kernel
theorem d_136_45 : decode (cM 136) 45 = .ok (.if_icmp .ge 70, 3) := by decide +kernel
theorem d_136_48 : decode (cM 136) 48 = .ok (.aload_n 0, 1) := by decide +kernel
theorem d_136_49 : decode (cM 136) 49 = .ok (.getfield 32, 3) := by decide +kernel
theorem d_136_52 : decode (cM 136) 52 = .ok (.aload_n 0, 1) := by decide +kernel
theorem d_136_53 : decode (cM 136) 53 = .ok (.getfield 28, 3) := by decide +kernel
theorem d_136_56 : decode (cM 136) 56 = .ok (.invokevirtual 198, 3) := by decide +kernel
theorem kc_136_56 : callT (oM 136) 198 = some (0, 19, 1) ∧ fok 136 19 = true ∧ stM 19 = false := by decide +kernel
theorem d_136_59 : decode (cM 136) 59 = .ok (.aload_n 0, 1) := by decide +kernel
theorem d_136_60 : decode (cM 136) 60 = .ok (.getfield 32, 3) := by decide +kernel
theorem d_136_63 : decode (cM 136) 63 = .ok (.iload 4, 2) := by decide +kernel
theorem d_136_65 : decode (cM 136) 65 = .ok (.putfield 315, 3) := by decide +kernel
theorem d_136_68 : decode (cM 136) 68 = .ok (.aload_n 0, 1) := by decide +kernel
theorem d_136_69 : decode (cM 136) 69 = .ok (.getfield 41, 3) := by decide +kernel
theorem d_136_72 : decode (cM 136) 72 = .ok (.aload_n 0, 1) := by decide +kernel
theorem d_136_73 : decode (cM 136) 73 = .ok (.getfield 21, 3) := by decide +kernel
theorem d_136_76 : decode (cM 136) 76 = .ok (.aload_n 0, 1) := by decide +kernel
theorem d_136_77 : decode (cM 136) 77 = .ok (.getfield 32, 3) := by decide +kernel
theorem d_136_80 : decode (cM 136) 80 = .ok (.iload_n 2, 1) := by decide +kernel
theorem d_136_81 : decode (cM 136) 81 = .ok (.invokevirtual 195, 3) := by decide +kernel
theorem kc_136_81 : callT (oM 136) 195 = some (0, 8, 3) ∧ fok 136 8 = true ∧ stM 8 = false := by decide +kernel
theorem d_136_84 : decode (cM 136) 84 = .ok (.aload_n 0, 1) := by decide +kernel
theorem d_136_85 : decode (cM 136) 85 = .ok (.getfield 32, 3) := by decide +kernel
theorem d_136_88 : decode (cM 136) 88 = .ok (.getfield 315, 3) := by decide +kernel
theorem d_136_91 : decode (cM 136) 91 = .ok (.istore 4, 2) := by decide +kernel
theorem d_136_93 : decode (cM 136) 93 = .ok (.iload 5, 2) := by decide +kernel
theorem d_136_95 : decode (cM 136) 95 = .ok (.aload_n 0, 1) := by decide +kernel
theorem d_136_96 : decode (cM 136) 96 = .ok (.getfield 32, 3) := by decide +kernel
theorem d_136_99 : decode (cM 136) 99 = .ok (.getfield 133, 3) := by decide +kernel
theorem d_136_102 : decode (cM 136) 102 = .ok (.iload_n 3, 1) := by decide +kernel
theorem d_136_103 : decode (cM 136) 103 = .ok (.ishr, 1) := by decide +kernel
theorem d_136_104 : decode (cM 136) 104 = .ok (.iconst 1, 1) := by decide +kernel
theorem d_136_105 : decode (cM 136) 105 = .ok (.iand, 1) := by decide +kernel
theorem d_136_106 : decode (cM 136) 106 = .ok (.iadd, 1) := by decide +kernel
theorem d_136_107 : decode (cM 136) 107 = .ok (.istore 5, 2) := by decide +kernel
theorem d_136_109 : decode (cM 136) 109 = .ok (.iinc 6 1, 3) := by decide +kernel
theorem d_136_112 : decode (cM 136) 112 = .ok (.goto (-71), 3) := by decide +kernel
theorem d_136_115 : decode (cM 136) 115 = .ok (.iload 5, 2) := by decide +kernel
theorem d_136_117 : decode (cM 136) 117 = .ok (.ireturn, 1) := by decide +kernel
theorem d_137_0 : decode (cM 137) 0 = .ok (.iload_n 1, 1) := by decide +kernel
theorem d_137_1 : decode (cM 137) 1 = .ok (.iconst 2, 1) := by decide +kernel
theorem d_137_2 : decode (cM 137) 2 = .ok (.if_icmp .ne 11, 3) := by decide +kernel
theorem d_137_5 : decode (cM 137) 5 = .ok (.aload_n 0, 1) := by decide +kernel
theorem d_137_6 : decode (cM 137) 6 = .ok (.iload_n 2, 1) := by decide +kernel
theorem d_137_7 : decode (cM 137) 7 = .ok (.invokevirtual 148, 3) := by decide +kernel
theorem kc_137_7 : callT (oM 137) 148 = some (0, 143, 1) ∧ fok 137 143 = true ∧ stM 143 = false := by decide +kernel
theorem d_137_10 : decode (cM 137) 10 = .ok (.goto 12, 3) := by decide +kernel
theorem d_137_13 : decode (cM 137) 13 = .ok (.iload_n 2, 1) := by decide +kernel
theorem d_137_14 : decode (cM 137) 14 = .ok (.ifCond .ne 7, 3) := by decide +kernel
theorem d_137_17 : decode (cM 137) 17 = .ok (.iconst 1, 1) := by decide +kernel
theorem d_137_18 : decode (cM 137) 18 = .ok (.goto 4, 3) := by decide +kernel
theorem d_137_21 : decode (cM 137) 21 = .ok (.iconst 0, 1) := by decide +kernel
theorem d_137_22 : decode (cM 137) 22 = .ok (.istore 4, 2) := by decide +kernel
theorem d_137_24 : decode (cM 137) 24 = .ok (.iload_n 1, 1) := by decide +kernel
theorem d_137_25 : decode (cM 137) 25 = .ok (.ifCond .lt 24, 3) := by decide +kernel
theorem d_137_28 : decode (cM 137) 28 = .ok (.iload_n 1, 1) := by decide +kernel
theorem d_137_29 : decode (cM 137) 29 = .ok (.iconst 4, 1) := by decide +kernel
theorem d_137_30 : decode (cM 137) 30 = .ok (.if_icmp .gt 19, 3) := by decide +kernel
theorem d_137_33 : decode (cM 137) 33 = .ok (.iload 4, 2) := by decide +kernel
theorem d_137_35 : decode (cM 137) 35 = .ok (.ifCond .eq 14, 3) := by decide +kernel
theorem d_137_38 : decode (cM 137) 38 = .ok (.iload_n 3, 1) := by decide +kernel
theorem d_137_39 : decode (cM 137) 39 = .ok (.ifCond .lt 10, 3) := by decide +kernel
theorem d_137_42 : decode (cM 137) 42 = .ok (.iload_n 3, 1) := by decide +kernel
theorem d_137_43 : decode (cM 137) 43 = .ok (.sipush 200, 3) := by decide +kernel
theorem d_137_46 : decode (cM 137) 46 = .ok (.if_icmp .le 5, 3) := by decide +kernel
theorem d_137_49 : decode (cM 137) 49 = .ok (.iconst (-1), 1) := by decide +kernel
theorem d_137_50 : decode (cM 137) 50 = .ok (.ireturn, 1) := by decide +kernel
theorem d_137_51 : decode (cM 137) 51 = .ok (.aload_n 0, 1) := by decide +kernel
theorem d_137_52 : decode (cM 137) 52 = .ok (.getfield 32, 3) := by decide +kernel
theorem d_137_55 : decode (cM 137) 55 = .ok (.aload_n 0, 1) := by decide +kernel
theorem d_137_56 : decode (cM 137) 56 = .ok (.getfield 28, 3) := by decide +kernel
theorem d_137_59 : decode (cM 137) 59 = .ok (.invokevirtual 198, 3) := by decide +kernel
theorem kc_137_59 : callT (oM 137) 198 = some (0, 19, 1) ∧ fok 137 19 = true ∧ stM 19 = false := by decide +kernel
theorem d_137_62 : decode (cM 137) 62 = .ok (.aload_n 0, 1) := by decide +kernel
theorem d_137_63 : decode (cM 137) 63 = .ok (.getfield 41, 3) := by decide +kernel
theorem d_137_66 : decode (cM 137) 66 = .ok (.invokevirtual 202, 3) := by decide +kernel
theorem kc_137_66 : callT (oM 137) 202 = some (0, 6, 0) ∧ fok 137 6 = true ∧ stM 6 = false := by decide +kernel
theorem d_137_69 : decode (cM 137) 69 = .ok (.aload_n 0, 1) := by decide +kernel
theorem d_137_70 : decode (cM 137) 70 = .ok (.getfield 41, 3) := by decide +kernel
theorem d_137_73 : decode (cM 137) 73 = .ok (.iload_n 1, 1) := by decide +kernel
theorem d_137_74 : decode (cM 137) 74 = .ok (.iload_n 2, 1) := by decide +kernel
theorem d_137_75 : decode (cM 137) 75 = .ok (.invokevirtual 318, 3) := by decide +kernel
theorem kc_137_75 : callT (oM 137) 318 = some (0, 7, 2) ∧ fok 137 7 = true ∧ stM 7 = false := by decide +kernel
theorem d_137_78 : decode (cM 137) 78 = .ok (.iload_n 1, 1) := by decide +kernel
theorem d_137_79 : decode (cM 137) 79 = .ok (.iconst 4, 1) := by decide +kernel
theorem d_137_80 : decode (cM 137) 80 = .ok (.if_icmp .ne 10, 3) := by decide +kernel
theorem d_137_83 : decode (cM 137) 83 = .ok (.aload_n 0, 1) := by decide +kernel
theorem d_137_84 : decode (cM 137) 84 = .ok (.getfield 32, 3) := by decide +kernel
theorem d_137_87 : decode (cM 137) 87 = .ok (.invokevirtual 189, 3) := by decide +kernel
theorem kc_137_87 : callT (oM 137) 189 = some (0, 24, 0) ∧ fok 137 24 = true ∧ stM 24 = false := by decide +kernel
theorem d_137_90 : decode (cM 137) 90 = .ok (.aload_n 0, 1) := by decide +kernel
theorem d_137_91 : decode (cM 137) 91 = .ok (.getfield 41, 3) := by decide +kernel
theorem d_137_94 : decode (cM 137) 94 = .ok (.aload_n 0, 1) := by decide +kernel
theorem d_137_95 : decode (cM 137) 95 = .ok (.getfield 21, 3) := by decide +kernel
theorem d_137_98 : decode (cM 137) 98 = .ok (.aload_n 0, 1) := by decide +kernel
theorem d_137_99 : decode (cM 137) 99 = .ok (.getfield 32, 3) := by decide +kernel
theorem d_137_102 : decode (cM 137) 102 = .ok (.iload_n 3, 1) := by decide +kernel
theorem d_137_103 : decode (cM 137) 103 = .ok (.invokevirtual 195, 3) := by decide +kernel
theorem kc_137_103 : callT (oM 137) 195 = some (0, 8, 3) ∧ fok 137 8 = true ∧ stM 8 = false := by decide +kernel
theorem d_137_106 : decode (cM 137) 106 = .ok (.aload_n 0, 1) := by decide +kernel
theorem d_137_107 : decode (cM 137) 107 = .ok (.getfield 32, 3) := by decide +kernel
theorem d_137_110 : decode (cM 137) 110 = .ok (.invokevirtual 163, 3) := by decide +kernel
theorem kc_137_110 : callT (oM 137) 163 = some (0, 20, 0) ∧ fok 137 20 = true ∧ stM 20 = false := by decide +kernel
theorem d_137_113 : decode (cM 137) 113 = .ok (.invokestatic 184, 3) := by decide +kernel
theorem kc_137_113 : callT (oM 137) 184 = some (1, 276, 1) ∧ fok 137 276 = true ∧ stM 276 = true := by decide +kernel
theorem d_137_116 : decode (cM 137) 116 = .ok (.ireturn, 1) := by decide +kernel
theorem d_138_0 : decode (cM 138) 0 = .ok (.aload_n 0, 1) := by decide +kernel
theorem d_138_1 : decode (cM 138) 1 = .ok (.getfield 48, 3) := by decide +kernel
theorem d_138_4 : decode (cM 138) 4 = .ok (.aload_n 0, 1) := by decide +kernel
theorem d_138_5 : decode (cM 138) 5 = .ok (.getfield 28, 3) := by decide +kernel
theorem d_138_8 : decode (cM 138) 8 = .ok (.invokevirtual 322, 3) := by decide +kernel
theorem kc_138_8 : callT (oM 138) 322 = some (0, 99, 1) ∧ fok 138 99 = true ∧ stM 99 = false := by decide +kernel
theorem d_138_11 : decode (cM 138) 11 = .ok (.ireturn, 1) := by decide +kernel
theorem d_139_0 : decode (cM 139) 0 = .ok (.aload_n 0, 1) := by decide +kernel
theorem d_139_1 : decode (cM 139) 1 = .ok (.getfield 35, 3) := by decide +kernel
theorem d_139_4 : decode (cM 139) 4 = .ok (.aload_n 0, 1) := by decide +kernel
theorem d_139_5 : decode (cM 139) 5 = .ok (.getfield 28, 3) := by decide +kernel
theorem d_139_8 : decode (cM 139) 8 = .ok (.invokevirtual 198, 3) := by decide +kernel
theorem kc_139_8 : callT (oM 139) 198 = some (0, 19, 1) ∧ fok 139 19 = true ∧ stM 19 = false := by decide +kernel
theorem d_139_11 : decode (cM 139) 11 = .ok (.aload_n 0, 1) := by decide +kernel
theorem d_139_12 : decode (cM 139) 12 = .ok (.iconst 1, 1) := by decide +kernel
theorem d_139_13 : decode (cM 139) 13 = .ok (.putfield 73, 3) := by decide +kernel
theorem d_139_16 : decode (cM 139) 16 = .ok (.aload_n 0, 1) := by decide +kernel
theorem d_139_17 : decode (cM 139) 17 = .ok (.getfield 28, 3) := by decide +kernel
theorem d_139_20 : decode (cM 139) 20 = .ok (.getfield 192, 3) := by decide +kernel
theorem d_139_23 : decode (cM 139) 23 = .ok (.ireturn, 1) := by decide +kernel
