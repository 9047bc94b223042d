theorem d_140_0 : decode (cM 140) 0 = .ok (.aload_n 0, 1) := by decide +kernel
theorem d_140_1 : decode (cM 140) 1 = .ok (.getfield 73, 3) := by decide +kernel
theorem d_140_4 : decode (cM 140) 4 = .ok (.ifCond .ne 5, 3) := by decide +kernel
theorem d_140_7 : decode (cM 140) 7 = .ok (.iconst (-1), 1) := by decide +kernel
theorem d_140_8 : decode (cM 140) 8 = .ok (.ireturn, 1) := by decide +kernel
theorem d_140_9 : decode (cM 140) 9 = .ok (.aload_n 0, 1) := by decide +kernel
theorem d_140_10 : decode (cM 140) 10 = .ok (.getfield 28, 3) := by decide +kernel
theorem d_140_13 : decode (cM 140) 13 = .ok (.aload_n 0, 1) := by decide +kernel
theorem d_140_14 : decode (cM 140) 14 = .ok (.getfield 35, 3) := by decide +kernel
theorem d_140_17 : decode (cM 140) 17 = .ok (.invokevirtual 198, 3) := by decide +kernel
theorem kc_140_17 : callT (oM 140) 198 = some (0, 19, 1) ∧ fok 140 19 = true ∧ stM 19 = false := by decide +kernel
theorem d_140_20 : decode (cM 140) 20 = .ok (.aload_n 0, 1) := by decide +kernel
theorem d_140_21 : decode (cM 140) 21 = .ok (.getfield 48, 3) := by decide +kernel
theorem d_140_24 : decode (cM 140) 24 = .ok (.invokevirtual 108, 3) := by decide +kernel
theorem kc_140_24 : callT (oM 140) 108 = some (0, 97, 0) ∧ fok 140 97 = true ∧ stM 97 = false := by decide +kernel
theorem d_140_27 : decode (cM 140) 27 = .ok (.aload_n 0, 1) := by decide +kernel
theorem d_140_28 : decode (cM 140) 28 = .ok (.getfield 28, 3) := by decide +kernel
theorem d_140_31 : decode (cM 140) 31 = .ok (.getfield 192, 3) := by decide +kernel
theorem d_140_34 : decode (cM 140) 34 = .ok (.ireturn, 1) := by decide +kernel
theorem d_141_0 : decode (cM 141) 0 = .ok (.iload_n 1, 1) := by decide +kernel
theorem d_141_1 : decode (cM 141) 1 = .ok (.tableswitch 207 0 14 #[75, 83, 91, 99, 107, 115, 126, 137, 148, 159, 167, 175, 183, 191, 199], 75) := by decide +kernel
theorem d_141_76 : decode (cM 141) 76 = .ok (.aload_n 0, 1) := by decide +kernel
theorem d_141_77 : decode (cM 141) 77 = .ok (.getfield 21, 3) := by decide +kernel
theorem d_141_80 : decode (cM 141) 80 = .ok (.getfield 259, 3) := by decide +kernel
theorem d_141_83 : decode (cM 141) 83 = .ok (.ireturn, 1) := by decide +kernel
theorem d_141_84 : decode (cM 141) 84 = .ok (.aload_n 0, 1) := by decide +kernel
theorem d_141_85 : decode (cM 141) 85 = .ok (.getfield 21, 3) := by decide +kernel
theorem d_141_88 : decode (cM 141) 88 = .ok (.getfield 262, 3) := by decide +kernel
theorem d_141_91 : decode (cM 141) 91 = .ok (.ireturn, 1) := by decide +kernel
theorem d_141_92 : decode (cM 141) 92 = .ok (.aload_n 0, 1) := by decide +kernel
theorem d_141_93 : decode (cM 141) 93 = .ok (.getfield 21, 3) := by decide +kernel
theorem d_141_96 : decode (cM 141) 96 = .ok (.getfield 326, 3) := by decide +kernel
theorem d_141_99 : decode (cM 141) 99 = .ok (.ireturn, 1) := by decide +kernel
theorem d_141_100 : decode (cM 141) 100 = .ok (.aload_n 0, 1) := by decide +kernel
theorem d_141_101 : decode (cM 141) 101 = .ok (.getfield 21, 3) := by decide +kernel
theorem d_141_104 : decode (cM 141) 104 = .ok (.getfield 329, 3) := by decide +kernel
theorem d_141_107 : decode (cM 141) 107 = .ok (.ireturn, 1) := by decide +kernel
theorem d_141_108 : decode (cM 141) 108 = .ok (.aload_n 0, 1) := by decide +kernel
theorem d_141_109 : decode (cM 141) 109 = .ok (.getfield 28, 3) := by decide +kernel
theorem d_141_112 : decode (cM 141) 112 = .ok (.getfield 192, 3) := by decide +kernel
theorem d_141_115 : decode (cM 141) 115 = .ok (.ireturn, 1) := by decide +kernel
theorem d_141_116 : decode (cM 141) 116 = .ok (.aload_n 0, 1) := by decide +kernel
theorem d_141_117 : decode (cM 141) 117 = .ok (.getfield 28, 3) := by decide +kernel
theorem d_141_120 : decode (cM 141) 120 = .ok (.invokevirtual 163, 3) := by decide +kernel
theorem kc_141_120 : callT (oM 141) 163 = some (0, 20, 0) ∧ fok 141 20 = true ∧ stM 20 = false := by decide +kernel
theorem d_141_123 : decode (cM 141) 123 = .ok (.invokestatic 184, 3) := by decide +kernel
theorem kc_141_123 : callT (oM 141) 184 = some (1, 276, 1) ∧ fok 141 276 = true ∧ stM 276 = true := by decide +kernel
theorem d_141_126 : decode (cM 141) 126 = .ok (.ireturn, 1) := by decide +kernel
theorem d_141_127 : decode (cM 141) 127 = .ok (.aload_n 0, 1) := by decide +kernel
theorem d_141_128 : decode (cM 141) 128 = .ok (.getfield 28, 3) := by decide +kernel
theorem d_141_131 : decode (cM 141) 131 = .ok (.getfield 130, 3) := by decide +kernel
theorem d_141_134 : decode (cM 141) 134 = .ok (.invokestatic 184, 3) := by decide +kernel
theorem kc_141_134 : callT (oM 141) 184 = some (1, 276, 1) ∧ fok 141 276 = true ∧ stM 276 = true := by decide +kernel
theorem d_141_137 : decode (cM 141) 137 = .ok (.ireturn, 1) := by decide +kernel
theorem d_141_138 : decode (cM 141) 138 = .ok (.aload_n 0, 1) := by decide +kernel
theorem d_141_139 : decode (cM 141) 139 = .ok (.getfield 28, 3) := by decide +kernel
theorem d_141_142 : decode (cM 141) 142 = .ok (.getfield 133, 3) := by decide +kernel
theorem d_141_145 : decode (cM 141) 145 = .ok (.invokestatic 184, 3) := by decide +kernel
theorem kc_141_145 : callT (oM 141) 184 = some (1, 276, 1) ∧ fok 141 276 = true ∧ stM 276 = true := by decide +kernel
theorem d_141_148 : decode (cM 141) 148 = .ok (.ireturn, 1) := by decide +kernel
theorem d_141_149 : decode (cM 141) 149 = .ok (.aload_n 0, 1) := by decide +kernel
theorem d_141_150 : decode (cM 141) 150 = .ok (.getfield 28, 3) := by decide +kernel
theorem d_141_153 : decode (cM 141) 153 = .ok (.getfield 154, 3) := by decide +kernel
theorem d_141_156 : decode (cM 141) 156 = .ok (.invokestatic 184, 3) := by decide +kernel
theorem kc_141_156 : callT (oM 141) 184 = some (1, 276, 1) ∧ fok 141 276 = true ∧ stM 276 = true := by decide +kernel
theorem d_141_159 : decode (cM 141) 159 = .ok (.ireturn, 1) := by decide +kernel
theorem d_141_160 : decode (cM 141) 160 = .ok (.aload_n 0, 1) := by decide +kernel
theorem d_141_161 : decode (cM 141) 161 = .ok (.getfield 28, 3) := by decide +kernel
theorem d_141_164 : decode (cM 141) 164 = .ok (.getfield 205, 3) := by decide +kernel
theorem d_141_167 : decode (cM 141) 167 = .ok (.ireturn, 1) := by decide +kernel
theorem d_141_168 : decode (cM 141) 168 = .ok (.aload_n 0, 1) := by decide +kernel
theorem d_141_169 : decode (cM 141) 169 = .ok (.getfield 28, 3) := by decide +kernel
theorem d_141_172 : decode (cM 141) 172 = .ok (.getfield 208, 3) := by decide +kernel
theorem d_141_175 : decode (cM 141) 175 = .ok (.ireturn, 1) := by decide +kernel
theorem d_141_176 : decode (cM 141) 176 = .ok (.aload_n 0, 1) := by decide +kernel
theorem d_141_177 : decode (cM 141) 177 = .ok (.getfield 28, 3) := by decide +kernel
theorem d_141_180 : decode (cM 141) 180 = .ok (.invokevirtual 332, 3) := by decide +kernel
theorem kc_141_180 : callT (oM 141) 332 = some (0, 23, 0) ∧ fok 141 23 = true ∧ stM 23 = false := by decide +kernel
theorem d_141_183 : decode (cM 141) 183 = .ok (.ireturn, 1) := by decide +kernel
theorem d_141_184 : decode (cM 141) 184 = .ok (.aload_n 0, 1) := by decide +kernel
theorem d_141_185 : decode (cM 141) 185 = .ok (.getfield 55, 3) := by decide +kernel
theorem d_141_188 : decode (cM 141) 188 = .ok (.getfield 291, 3) := by decide +kernel
theorem d_141_191 : decode (cM 141) 191 = .ok (.ireturn, 1) := by decide +kernel
theorem d_141_192 : decode (cM 141) 192 = .ok (.aload_n 0, 1) := by decide +kernel
theorem d_141_193 : decode (cM 141) 193 = .ok (.getfield 55, 3) := by decide +kernel
theorem d_141_196 : decode (cM 141) 196 = .ok (.invokevirtual 335, 3) := by decide +kernel
theorem kc_141_196 : callT (oM 141) 335 = some (0, 30, 0) ∧ fok 141 30 = true ∧ stM 30 = false := by decide +kernel
theorem d_141_199 : decode (cM 141) 199 = .ok (.ireturn, 1) := by decide +kernel
theorem d_141_200 : decode (cM 141) 200 = .ok (.aload_n 0, 1) := by decide +kernel
theorem d_141_201 : decode (cM 141) 201 = .ok (.getfield 48, 3) := by decide +kernel
theorem d_141_204 : decode (cM 141) 204 = .ok (.getfield 338, 3) := by decide +kernel
theorem d_141_207 : decode (cM 141) 207 = .ok (.ireturn, 1) := by decide +kernel
theorem d_141_208 : decode (cM 141) 208 = .ok (.iconst (-1), 1) := by decide +kernel
theorem d_141_209 : decode (cM 141) 209 = .ok (.ireturn, 1) := by decide +kernel
theorem d_142_0 : decode (cM 142) 0 = .ok (.iload_n 1, 1) := by decide +kernel
theorem d_142_1 : decode (cM 142) 1 = .ok (.ifCond .lt 18, 3) := by decide +kernel
theorem d_142_4 : decode (cM 142) 4 = .ok (.iload_n 1, 1) := by decide +kernel
theorem d_142_5 : decode (cM 142) 5 = .ok (.aload_n 0, 1) := by decide +kernel
theorem d_142_6 : decode (cM 142) 6 = .ok (.getfield 21, 3) := by decide +kernel
theorem d_142_9 : decode (cM 142) 9 = .ok (.getfield 259, 3) := by decide +kernel
theorem d_142_12 : decode (cM 142) 12 = .ok (.if_icmp .ge 7, 3) := by decide +kernel
theorem d_142_15 : decode (cM 142) 15 = .ok (.iconst 1, 1) := by decide +kernel
theorem d_142_16 : decode (cM 142) 16 = .ok (.goto 4, 3) := by decide +kernel
theorem d_142_19 : decode (cM 142) 19 = .ok (.iconst 0, 1) := by decide +kernel
theorem d_142_20 : decode (cM 142) 20 = .ok (.ireturn, 1) := by decide +kernel
theorem d_143_0 : decode (cM 143) 0 = .ok (.iload_n 1, 1) := by decide +kernel
theorem d_143_1 : decode (cM 143) 1 = .ok (.ifCond .lt 18, 3) := by decide +kernel
theorem d_143_4 : decode (cM 143) 4 = .ok (.iload_n 1, 1) := by decide +kernel
theorem d_143_5 : decode (cM 143) 5 = .ok (.aload_n 0, 1) := by decide +kernel
theorem d_143_6 : decode (cM 143) 6 = .ok (.getfield 21, 3) := by decide +kernel
theorem d_143_9 : decode (cM 143) 9 = .ok (.getfield 262, 3) := by decide +kernel
theorem d_143_12 : decode (cM 143) 12 = .ok (.if_icmp .ge 7, 3) := by decide +kernel
theorem d_143_15 : decode (cM 143) 15 = .ok (.iconst 1, 1) := by decide +kernel
theorem d_143_16 : decode (cM 143) 16 = .ok (.goto 4, 3) := by decide +kernel
theorem d_143_19 : decode (cM 143) 19 = .ok (.iconst 0, 1) := by decide +kernel
theorem d_143_20 : decode (cM 143) 20 = .ok (.ireturn, 1) := by decide +kernel
theorem d_144_0 : decode (cM 144) 0 = .ok (.iload_n 1, 1) := by decide +kernel
theorem d_144_1 : decode (cM 144) 1 = .ok (.ifCond .lt 20, 3) := by decide +kernel
theorem d_144_4 : decode (cM 144) 4 = .ok (.iload_n 1, 1) := by decide +kernel
theorem d_144_5 : decode (cM 144) 5 = .ok (.iconst 1, 1) := by decide +kernel
theorem d_144_6 : decode (cM 144) 6 = .ok (.aload_n 0, 1) := by decide +kernel
theorem d_144_7 : decode (cM 144) 7 = .ok (.getfield 21, 3) := by decide +kernel
theorem d_144_10 : decode (cM 144) 10 = .ok (.getfield 259, 3) := by decide +kernel
theorem d_144_13 : decode (cM 144) 13 = .ok (.ishl, 1) := by decide +kernel
theorem d_144_14 : decode (cM 144) 14 = .ok (.if_icmp .ge 7, 3) := by decide +kernel
theorem d_144_17 : decode (cM 144) 17 = .ok (.iconst 1, 1) := by decide +kernel
theorem d_144_18 : decode (cM 144) 18 = .ok (.goto 4, 3) := by decide +kernel
theorem d_144_21 : decode (cM 144) 21 = .ok (.iconst 0, 1) := by decide +kernel
theorem d_144_22 : decode (cM 144) 22 = .ok (.ireturn, 1) := by decide +kernel
theorem d_145_0 : decode (cM 145) 0 = .ok (.aload_n 0, 1) := by decide +kernel
theorem d_145_1 : decode (cM 145) 1 = .ok (.getfield 62, 3) := by decide +kernel
theorem d_145_4 : decode (cM 145) 4 = .ok (.aload_n 0, 1) := by decide +kernel
theorem d_145_5 : decode (cM 145) 5 = .ok (.getfield 28, 3) := by decide +kernel
theorem d_145_8 : decode (cM 145) 8 = .ok (.getfield 160, 3) := by decide +kernel
theorem d_145_11 : decode (cM 145) 11 = .ok (.aload_n 0, 1) := by decide +kernel
theorem d_145_12 : decode (cM 145) 12 = .ok (.getfield 21, 3) := by decide +kernel
theorem d_145_15 : decode (cM 145) 15 = .ok (.getfield 262, 3) := by decide +kernel
theorem d_145_18 : decode (cM 145) 18 = .ok (.aload_n 0, 1) := by decide +kernel
theorem d_145_19 : decode (cM 145) 19 = .ok (.getfield 28, 3) := by decide +kernel
theorem d_145_22 : decode (cM 145) 22 = .ok (.aload_n 0, 1) := by decide +kernel
theorem d_145_23 : decode (cM 145) 23 = .ok (.getfield 21, 3) := by decide +kernel
theorem d_145_26 : decode (cM 145) 26 = .ok (.invokevirtual 239, 3) := by decide +kernel
theorem kc_145_26 : callT (oM 145) 239 = some (0, 21, 1) ∧ fok 145 21 = true ∧ stM 21 = false := by decide +kernel
theorem d_145_29 : decode (cM 145) 29 = .ok (.invokevirtual 339, 3) := by decide +kernel
theorem kc_145_29 : callT (oM 145) 339 = some (0, 71, 3) ∧ fok 145 71 = true ∧ stM 71 = false := by decide +kernel
theorem d_145_32 : decode (cM 145) 32 = .ok (.return_, 1) := by decide +kernel
theorem d_146_0 : decode (cM 146) 0 = .ok (.aload_n 0, 1) := by decide +kernel
theorem d_146_1 : decode (cM 146) 1 = .ok (.getfield 69, 3) := by decide +kernel
theorem d_146_4 : decode (cM 146) 4 = .ok (.aload_n 0, 1) := by decide +kernel
theorem d_146_5 : decode (cM 146) 5 = .ok (.getfield 28, 3) := by decide +kernel
theorem d_146_8 : decode (cM 146) 8 = .ok (.getfield 160, 3) := by decide +kernel
theorem d_146_11 : decode (cM 146) 11 = .ok (.aload_n 0, 1) := by decide +kernel
theorem d_146_12 : decode (cM 146) 12 = .ok (.getfield 21, 3) := by decide +kernel
theorem d_146_15 : decode (cM 146) 15 = .ok (.getfield 262, 3) := by decide +kernel
theorem d_146_18 : decode (cM 146) 18 = .ok (.aload_n 0, 1) := by decide +kernel
theorem d_146_19 : decode (cM 146) 19 = .ok (.getfield 28, 3) := by decide +kernel
theorem d_146_22 : decode (cM 146) 22 = .ok (.aload_n 0, 1) := by decide +kernel
theorem d_146_23 : decode (cM 146) 23 = .ok (.getfield 21, 3) := by decide +kernel
theorem d_146_26 : decode (cM 146) 26 = .ok (.invokevirtual 239, 3) := by decide +kernel
theorem kc_146_26 : callT (oM 146) 239 = some (0, 21, 1) ∧ fok 146 21 = true ∧ stM 21 = false := by decide +kernel
theorem d_146_29 : decode (cM 146) 29 = .ok (.invokevirtual 243, 3) := by decide +kernel
theorem kc_146_29 : callT (oM 146) 243 = some (0, 1, 3) ∧ fok 146 1 = true ∧ stM 1 = false := by decide +kernel
theorem d_146_32 : decode (cM 146) 32 = .ok (.ireturn, 1) := by decide +kernel
theorem d_147_0 : decode (cM 147) 0 = .ok (.iconst 0, 1) := by decide +kernel
theorem d_147_1 : decode (cM 147) 1 = .ok (.istore_n 3, 1) := by decide +kernel
theorem d_147_2 : decode (cM 147) 2 = .ok (.iload_n 3, 1) := by decide +kernel
theorem d_147_3 : decode (cM 147) 3 = .ok (.aload_n 0, 1) := by decide +kernel
theorem d_147_4 : decode (cM 147) 4 = .ok (.getfield 21, 3) := by decide +kernel
theorem d_147_7 : decode (cM 147) 7 = .ok (.getfield 259, 3) := by decide +kernel
theorem d_147_10 : decode (cM 147) 10 = .ok (.if_icmp .ge 56, 3) := by decide +kernel
theorem d_147_13 : decode (cM 147) 13 = .ok (.aload_n 0, 1) := by decide +kernel
theorem d_147_14 : decode (cM 147) 14 = .ok (.getfield 28, 3) := by decide +kernel
theorem d_147_17 : decode (cM 147) 17 = .ok (.getfield 160, 3) := by decide +kernel
theorem d_147_20 : decode (cM 147) 20 = .ok (.iload_n 1, 1) := by decide +kernel
theorem d_147_21 : decode (cM 147) 21 = .ok (.dup2, 1) := by decide +kernel
theorem d_147_22 : decode (cM 147) 22 = .ok (.iaload, 1) := by decide +kernel
theorem d_147_23 : decode (cM 147) 23 = .ok (.iconst 1, 1) := by decide +kernel
theorem d_147_24 : decode (cM 147) 24 = .ok (.iload_n 3, 1) := by decide +kernel
theorem d_147_25 : decode (cM 147) 25 = .ok (.ishl, 1) := by decide +kernel
theorem d_147_26 : decode (cM 147) 26 = .ok (.ixor, 1) := by decide +kernel
theorem d_147_27 : decode (cM 147) 27 = .ok (.iastore, 1) := by decide +kernel
theorem d_147_28 : decode (cM 147) 28 = .ok (.aload_n 0, 1) := by decide +kernel
theorem d_147_29 : decode (cM 147) 29 = .ok (.invokevirtual 236, 3) := by decide +kernel
theorem kc_147_29 : callT (oM 147) 236 = some (0, 146, 0) ∧ fok 147 146 = true ∧ stM 146 = false := by decide +kernel
theorem d_147_32 : decode (cM 147) 32 = .ok (.invokestatic 184, 3) := by decide +kernel
theorem kc_147_32 : callT (oM 147) 184 = some (1, 276, 1) ∧ fok 147 276 = true ∧ stM 276 = true := by decide +kernel
theorem d_147_35 : decode (cM 147) 35 = .ok (.istore 4, 2) := by decide +kernel
theorem d_147_37 : decode (cM 147) 37 = .ok (.aload_n 0, 1) := by decide +kernel
theorem d_147_38 : decode (cM 147) 38 = .ok (.getfield 28, 3) := by decide +kernel
theorem d_147_41 : decode (cM 147) 41 = .ok (.getfield 160, 3) := by decide +kernel
theorem d_147_44 : decode (cM 147) 44 = .ok (.iload_n 1, 1) := by decide +kernel
theorem d_147_45 : decode (cM 147) 45 = .ok (.dup2, 1) := by decide +kernel
theorem d_147_46 : decode (cM 147) 46 = .ok (.iaload, 1) := by decide +kernel
theorem d_147_47 : decode (cM 147) 47 = .ok (.iconst 1, 1) := by decide +kernel
theorem d_147_48 : decode (cM 147) 48 = .ok (.iload_n 3, 1) := by decide +kernel
theorem d_147_49 : decode (cM 147) 49 = .ok (.ishl, 1) := by decide +kernel
theorem d_147_50 : decode (cM 147) 50 = .ok (.ixor, 1) := by decide +kernel
theorem d_147_51 : decode (cM 147) 51 = .ok (.iastore, 1) := by decide +kernel
theorem d_147_52 : decode (cM 147) 52 = .ok (.iload 4, 2) := by decide +kernel
theorem d_147_54 : decode (cM 147) 54 = .ok (.iload_n 2, 1) := by decide +kernel
theorem d_147_55 : decode (cM 147) 55 = .ok (.if_icmp .le 5, 3) := by decide +kernel
theorem d_147_58 : decode (cM 147) 58 = .ok (.iload_n 3, 1) := by decide +kernel
theorem d_147_59 : decode (cM 147) 59 = .ok (.ireturn, 1) := by decide +kernel
theorem d_147_60 : decode (cM 147) 60 = .ok (.iinc 3 1, 3) := by decide +kernel
theorem d_147_63 : decode (cM 147) 63 = .ok (.goto (-61), 3) := by decide +kernel
theorem d_147_66 : decode (cM 147) 66 = .ok (.iconst (-1), 1) := by decide +kernel
theorem d_147_67 : decode (cM 147) 67 = .ok (.ireturn, 1) := by decide +kernel
theorem d_148_0 : decode (cM 148) 0 = .ok (.aload_n 0, 1) := by decide +kernel
theorem d_148_1 : decode (cM 148) 1 = .ok (.getfield 62, 3) := by decide +kernel
theorem d_148_4 : decode (cM 148) 4 = .ok (.aload_n 0, 1) := by decide +kernel
theorem d_148_5 : decode (cM 148) 5 = .ok (.getfield 21, 3) := by decide +kernel
theorem d_148_8 : decode (cM 148) 8 = .ok (.getfield 343, 3) := by decide +kernel
theorem d_148_11 : decode (cM 148) 11 = .ok (.aload_n 0, 1) := by decide +kernel
theorem d_148_12 : decode (cM 148) 12 = .ok (.getfield 21, 3) := by decide +kernel
theorem d_148_15 : decode (cM 148) 15 = .ok (.getfield 262, 3) := by decide +kernel
theorem d_148_18 : decode (cM 148) 18 = .ok (.iconst 1, 1) := by decide +kernel
theorem d_148_19 : decode (cM 148) 19 = .ok (.aload_n 0, 1) := by decide +kernel
theorem d_148_20 : decode (cM 148) 20 = .ok (.getfield 21, 3) := by decide +kernel
theorem d_148_23 : decode (cM 148) 23 = .ok (.getfield 262, 3) := by decide +kernel
theorem d_148_26 : decode (cM 148) 26 = .ok (.ishl, 1) := by decide +kernel
theorem d_148_27 : decode (cM 148) 27 = .ok (.iconst 1, 1) := by decide +kernel
theorem d_148_28 : decode (cM 148) 28 = .ok (.isub, 1) := by decide +kernel
theorem d_148_29 : decode (cM 148) 29 = .ok (.invokevirtual 339, 3) := by decide +kernel
theorem kc_148_29 : callT (oM 148) 339 = some (0, 71, 3) ∧ fok 148 71 = true ∧ stM 71 = false := by decide +kernel
theorem d_148_32 : decode (cM 148) 32 = .ok (.aload_n 0, 1) := by decide +kernel
theorem d_148_33 : decode (cM 148) 33 = .ok (.getfield 55, 3) := by decide +kernel
theorem d_148_36 : decode (cM 148) 36 = .ok (.aload_n 0, 1) := by decide +kernel
theorem d_148_37 : decode (cM 148) 37 = .ok (.getfield 62, 3) := by decide +kernel
theorem d_148_40 : decode (cM 148) 40 = .ok (.aload_n 0, 1) := by decide +kernel
theorem d_148_41 : decode (cM 148) 41 = .ok (.getfield 21, 3) := by decide +kernel
theorem d_148_44 : decode (cM 148) 44 = .ok (.getfield 344, 3) := by decide +kernel
theorem d_148_47 : decode (cM 148) 47 = .ok (.invokevirtual 347, 3) := by decide +kernel
theorem kc_148_47 : callT (oM 148) 347 = some (0, 31, 2) ∧ fok 148 31 = true ∧ stM 31 = false := by decide +kernel
theorem d_148_50 : decode (cM 148) 50 = .ok (.ireturn, 1) := by decide +kernel
theorem d_149_0 : decode (cM 149) 0 = .ok (.aload_n 0, 1) := by decide +kernel
theorem d_149_1 : decode (cM 149) 1 = .ok (.invokespecial 1, 3) := by decide +kernel
theorem d_149_4 : decode (cM 149) 4 = .ok (.aload_n 0, 1) := by decide +kernel
theorem d_149_5 : decode (cM 149) 5 = .ok (.sipush 700, 3) := by decide +kernel
theorem d_149_8 : decode (cM 149) 8 = .ok (.newarray .int, 2) := by decide +kernel
theorem d_149_10 : decode (cM 149) 10 = .ok (.putfield 7, 3) := by decide +kernel
theorem d_149_13 : decode (cM 149) 13 = .ok (.aload_n 0, 1) := by decide +kernel
theorem d_149_14 : decode (cM 149) 14 = .ok (.bipush 101, 2) := by decide +kernel
theorem d_149_16 : decode (cM 149) 16 = .ok (.newarray .int, 2) := by decide +kernel
theorem d_149_18 : decode (cM 149) 18 = .ok (.dup, 1) := by decide +kernel
theorem d_149_19 : decode (cM 149) 19 = .ok (.iconst 0, 1) := by decide +kernel
theorem d_149_20 : decode (cM 149) 20 = .ok (.bipush 108, 2) := by decide +kernel
theorem d_149_22 : decode (cM 149) 22 = .ok (.iastore, 1) := by decide +kernel
theorem d_149_23 : decode (cM 149) 23 = .ok (.dup, 1) := by decide +kernel
theorem d_149_24 : decode (cM 149) 24 = .ok (.iconst 1, 1) := by decide +kernel
theorem d_149_25 : decode (cM 149) 25 = .ok (.bipush 97, 2) := by decide +kernel
theorem d_149_27 : decode (cM 149) 27 = .ok (.iastore, 1) := by decide +kernel
theorem d_149_28 : decode (cM 149) 28 = .ok (.dup, 1) := by decide +kernel
theorem d_149_29 : decode (cM 149) 29 = .ok (.iconst 2, 1) := by decide +kernel
theorem d_149_30 : decode (cM 149) 30 = .ok (.bipush 109, 2) := by decide +kernel
theorem d_149_32 : decode (cM 149) 32 = .ok (.iastore, 1) := by decide +kernel
theorem d_149_33 : decode (cM 149) 33 = .ok (.dup, 1) := by decide +kernel
theorem d_149_34 : decode (cM 149) 34 = .ok (.iconst 3, 1) := by decide +kernel
theorem d_149_35 : decode (cM 149) 35 = .ok (.bipush 112, 2) := by decide +kernel
theorem d_149_37 : decode (cM 149) 37 = .ok (.iastore, 1) := by decide +kernel
theorem d_149_38 : decode (cM 149) 38 = .ok (.dup, 1) := by decide +kernel
theorem d_149_39 : decode (cM 149) 39 = .ok (.iconst 4, 1) := by decide +kernel
theorem d_149_40 : decode (cM 149) 40 = .ok (.bipush 32, 2) := by decide +kernel
theorem d_149_42 : decode (cM 149) 42 = .ok (.iastore, 1) := by decide +kernel
theorem d_149_43 : decode (cM 149) 43 = .ok (.dup, 1) := by decide +kernel
theorem d_149_44 : decode (cM 149) 44 = .ok (.iconst 5, 1) := by decide +kernel
theorem d_149_45 : decode (cM 149) 45 = .ok (.bipush 112, 2) := by decide +kernel
theorem d_149_47 : decode (cM 149) 47 = .ok (.iastore, 1) := by decide +kernel
theorem d_149_48 : decode (cM 149) 48 = .ok (.dup, 1) := by decide +kernel
theorem d_149_49 : decode (cM 149) 49 = .ok (.bipush 6, 2) := by decide +kernel
theorem d_149_51 : decode (cM 149) 51 = .ok (.bipush 117, 2) := by decide +kernel
theorem d_149_53 : decode (cM 149) 53 = .ok (.iastore, 1) := by decide +kernel
theorem d_149_54 : decode (cM 149) 54 = .ok (.dup, 1) := by decide +kernel
theorem d_149_55 : decode (cM 149) 55 = .ok (.bipush 7, 2) := by decide +kernel
theorem d_149_57 : decode (cM 149) 57 = .ok (.bipush 108, 2) := by decide +kernel
theorem d_149_59 : decode (cM 149) 59 = .ok (.iastore, 1) := by decide +kernel
theorem d_149_60 : decode (cM 149) 60 = .ok (.dup, 1) := by decide +kernel
theorem d_149_61 : decode (cM 149) 61 = .ok (.bipush 8, 2) := by decide +kernel
theorem d_149_63 : decode (cM 149) 63 = .ok (.bipush 108, 2) := by decide +kernel
theorem d_149_65 : decode (cM 149) 65 = .ok (.iastore, 1) := by decide +kernel
theorem d_149_66 : decode (cM 149) 66 = .ok (.dup, 1) := by decide +kernel
theorem d_149_67 : decode (cM 149) 67 = .ok (.bipush 9, 2) := by decide +kernel
theorem d_149_69 : decode (cM 149) 69 = .ok (.bipush 32, 2) := by decide +kernel
theorem d_149_71 : decode (cM 149) 71 = .ok (.iastore, 1) := by decide +kernel
theorem d_149_72 : decode (cM 149) 72 = .ok (.dup, 1) := by decide +kernel
theorem d_149_73 : decode (cM 149) 73 = .ok (.bipush 10, 2) := by decide +kernel
theorem d_149_75 : decode (cM 149) 75 = .ok (.bipush 108, 2) := by decide +kernel
theorem d_149_77 : decode (cM 149) 77 = .ok (.iastore, 1) := by decide +kernel
theorem d_149_78 : decode (cM 149) 78 = .ok (.dup, 1) := by decide +kernel
theorem d_149_79 : decode (cM 149) 79 = .ok (.bipush 11, 2) := by decide +kernel
theorem d_149_81 : decode (cM 149) 81 = .ok (.bipush 105, 2) := by decide +kernel
theorem d_149_83 : decode (cM 149) 83 = .ok (.iastore, 1) := by decide +kernel
theorem d_149_84 : decode (cM 149) 84 = .ok (.dup, 1) := by decide +kernel
theorem d_149_85 : decode (cM 149) 85 = .ok (.bipush 12, 2) := by decide +kernel
theorem d_149_87 : decode (cM 149) 87 = .ok (.bipush 116, 2) := by decide +kernel
theorem d_149_89 : decode (cM 149) 89 = .ok (.iastore, 1) := by decide +kernel
theorem d_149_90 : decode (cM 149) 90 = .ok (.dup, 1) := by decide +kernel
theorem d_149_91 : decode (cM 149) 91 = .ok (.bipush 13, 2) := by decide +kernel
theorem d_149_93 : decode (cM 149) 93 = .ok (.bipush 32, 2) := by decide +kernel
theorem d_149_95 : decode (cM 149) 95 = .ok (.iastore, 1) := by decide +kernel
theorem d_149_96 : decode (cM 149) 96 = .ok (.dup, 1) := by decide +kernel
theorem d_149_97 : decode (cM 149) 97 = .ok (.bipush 14, 2) := by decide +kernel
theorem d_149_99 : decode (cM 149) 99 = .ok (.bipush 114, 2) := by decide +kernel
theorem d_149_101 : decode (cM 149) 101 = .ok (.iastore, 1) := by decide +kernel
theorem d_149_102 : decode (cM 149) 102 = .ok (.dup, 1) := by decide +kernel
theorem d_149_103 : decode (cM 149) 103 = .ok (.bipush 15, 2) := by decide +kernel
theorem d_149_105 : decode (cM 149) 105 = .ok (.bipush 105, 2) := by decide +kernel
theorem d_149_107 : decode (cM 149) 107 = .ok (.iastore, 1) := by decide +kernel
theorem d_149_108 : decode (cM 149) 108 = .ok (.dup, 1) := by decide +kernel
theorem d_149_109 : decode (cM 149) 109 = .ok (.bipush 16, 2) := by decide +kernel
theorem d_149_111 : decode (cM 149) 111 = .ok (.bipush 110, 2) := by decide +kernel
theorem d_149_113 : decode (cM 149) 113 = .ok (.iastore, 1) := by decide +kernel
theorem d_149_114 : decode (cM 149) 114 = .ok (.dup, 1) := by decide +kernel
theorem d_149_115 : decode (cM 149) 115 = .ok (.bipush 17, 2) := by decide +kernel
theorem d_149_117 : decode (cM 149) 117 = .ok (.bipush 103, 2) := by decide +kernel
theorem d_149_119 : decode (cM 149) 119 = .ok (.iastore, 1) := by decide +kernel
theorem d_149_120 : decode (cM 149) 120 = .ok (.dup, 1) := by decide +kernel
theorem d_149_121 : decode (cM 149) 121 = .ok (.bipush 18, 2) := by decide +kernel
theorem d_149_123 : decode (cM 149) 123 = .ok (.bipush 32, 2) := by decide +kernel
theorem d_149_125 : decode (cM 149) 125 = .ok (.iastore, 1) := by decide +kernel
theorem d_149_126 : decode (cM 149) 126 = .ok (.dup, 1) := by decide +kernel
theorem d_149_127 : decode (cM 149) 127 = .ok (.bipush 19, 2) := by decide +kernel
theorem d_149_129 : decode (cM 149) 129 = .ok (.bipush 109, 2) := by decide +kernel
theorem d_149_131 : decode (cM 149) 131 = .ok (.iastore, 1) := by decide +kernel
theorem d_149_132 : decode (cM 149) 132 = .ok (.dup, 1) := by decide +kernel
theorem d_149_133 : decode (cM 149) 133 = .ok (.bipush 20, 2) := by decide +kernel
theorem d_149_135 : decode (cM 149) 135 = .ok (.bipush 101, 2) := by decide +kernel
theorem d_149_137 : decode (cM 149) 137 = .ok (.iastore, 1) := by decide +kernel
theorem d_149_138 : decode (cM 149) 138 = .ok (.dup, 1) := by decide +kernel
theorem d_149_139 : decode (cM 149) 139 = .ok (.bipush 21, 2) := by decide +kernel
theorem d_149_141 : decode (cM 149) 141 = .ok (.bipush 110, 2) := by decide +kernel
theorem d_149_143 : decode (cM 149) 143 = .ok (.iastore, 1) := by decide +kernel
theorem d_149_144 : decode (cM 149) 144 = .ok (.dup, 1) := by decide +kernel
theorem d_149_145 : decode (cM 149) 145 = .ok (.bipush 22, 2) := by decide +kernel
theorem d_149_147 : decode (cM 149) 147 = .ok (.bipush 100, 2) := by decide +kernel
theorem d_149_149 : decode (cM 149) 149 = .ok (.iastore, 1) := by decide +kernel
theorem d_149_150 : decode (cM 149) 150 = .ok (.dup, 1) := by decide +kernel
theorem d_149_151 : decode (cM 149) 151 = .ok (.bipush 23, 2) := by decide +kernel
theorem d_149_153 : decode (cM 149) 153 = .ok (.bipush 32, 2) := by decide +kernel
theorem d_149_155 : decode (cM 149) 155 = .ok (.iastore, 1) := by decide +kernel
theorem d_149_156 : decode (cM 149) 156 = .ok (.dup, 1) := by decide +kernel
theorem d_149_157 : decode (cM 149) 157 = .ok (.bipush 24, 2) := by decide +kernel
theorem d_149_159 : decode (cM 149) 159 = .ok (.bipush 98, 2) := by decide +kernel
theorem d_149_161 : decode (cM 149) 161 = .ok (.iastore, 1) := by decide +kernel
theorem d_149_162 : decode (cM 149) 162 = .ok (.dup, 1) := by decide +kernel
theorem d_149_163 : decode (cM 149) 163 = .ok (.bipush 25, 2) := by decide +kernel
theorem d_149_165 : decode (cM 149) 165 = .ok (.bipush 117, 2) := by decide +kernel
theorem d_149_167 : decode (cM 149) 167 = .ok (.iastore, 1) := by decide +kernel
theorem d_149_168 : decode (cM 149) 168 = .ok (.dup, 1) := by decide +kernel
theorem d_149_169 : decode (cM 149) 169 = .ok (.bipush 26, 2) := by decide +kernel
theorem d_149_171 : decode (cM 149) 171 = .ok (.bipush 114, 2) := by decide +kernel
theorem d_149_173 : decode (cM 149) 173 = .ok (.iastore, 1) := by decide +kernel
theorem d_149_174 : decode (cM 149) 174 = .ok (.dup, 1) := by decide +kernel
theorem d_149_175 : decode (cM 149) 175 = .ok (.bipush 27, 2) := by decide +kernel
theorem d_149_177 : decode (cM 149) 177 = .ok (.bipush 110, 2) := by decide +kernel
theorem d_149_179 : decode (cM 149) 179 = .ok (.iastore, 1) := by decide +kernel
theorem d_149_180 : decode (cM 149) 180 = .ok (.dup, 1) := by decide +kernel
theorem d_149_181 : decode (cM 149) 181 = .ok (.bipush 28, 2) := by decide +kernel
theorem d_149_183 : decode (cM 149) 183 = .ok (.bipush 32, 2) := by decide +kernel
theorem d_149_185 : decode (cM 149) 185 = .ok (.iastore, 1) := by decide +kernel
theorem d_149_186 : decode (cM 149) 186 = .ok (.dup, 1) := by decide +kernel
theorem d_149_187 : decode (cM 149) 187 = .ok (.bipush 29, 2) := by decide +kernel
theorem d_149_189 : decode (cM 149) 189 = .ok (.bipush 115, 2) := by decide +kernel
theorem d_149_191 : decode (cM 149) 191 = .ok (.iastore, 1) := by decide +kernel
theorem d_149_192 : decode (cM 149) 192 = .ok (.dup, 1) := by decide +kernel
theorem d_149_193 : decode (cM 149) 193 = .ok (.bipush 30, 2) := by decide +kernel
theorem d_149_195 : decode (cM 149) 195 = .ok (.bipush 101, 2) := by decide +kernel
theorem d_149_197 : decode (cM 149) 197 = .ok (.iastore, 1) := by decide +kernel
theorem d_149_198 : decode (cM 149) 198 = .ok (.dup, 1) := by decide +kernel
theorem d_149_199 : decode (cM 149) 199 = .ok (.bipush 31, 2) := by decide +kernel
theorem d_149_201 : decode (cM 149) 201 = .ok (.bipush 101, 2) := by decide +kernel
theorem d_149_203 : decode (cM 149) 203 = .ok (.iastore, 1) := by decide +kernel
theorem d_149_204 : decode (cM 149) 204 = .ok (.dup, 1) := by decide +kernel
theorem d_149_205 : decode (cM 149) 205 = .ok (.bipush 32, 2) := by decide +kernel
theorem d_149_207 : decode (cM 149) 207 = .ok (.bipush 100, 2) := by decide +kernel
theorem d_149_209 : decode (cM 149) 209 = .ok (.iastore, 1) := by decide +kernel
theorem d_149_210 : decode (cM 149) 210 = .ok (.dup, 1) := by decide +kernel
theorem d_149_211 : decode (cM 149) 211 = .ok (.bipush 33, 2) := by decide +kernel
theorem d_149_213 : decode (cM 149) 213 = .ok (.bipush 32, 2) := by decide +kernel
theorem d_149_215 : decode (cM 149) 215 = .ok (.iastore, 1) := by decide +kernel
theorem d_149_216 : decode (cM 149) 216 = .ok (.dup, 1) := by decide +kernel
theorem d_149_217 : decode (cM 149) 217 = .ok (.bipush 34, 2) := by decide +kernel
theorem d_149_219 : decode (cM 149) 219 = .ok (.bipush 108, 2) := by decide +kernel
theorem d_149_221 : decode (cM 149) 221 = .ok (.iastore, 1) := by decide +kernel
theorem d_149_222 : decode (cM 149) 222 = .ok (.dup, 1) := by decide +kernel
theorem d_149_223 : decode (cM 149) 223 = .ok (.bipush 35, 2) := by decide +kernel
theorem d_149_225 : decode (cM 149) 225 = .ok (.bipush 97, 2) := by decide +kernel
theorem d_149_227 : decode (cM 149) 227 = .ok (.iastore, 1) := by decide +kernel
theorem d_149_228 : decode (cM 149) 228 = .ok (.dup, 1) := by decide +kernel
theorem d_149_229 : decode (cM 149) 229 = .ok (.bipush 36, 2) := by decide +kernel
theorem d_149_231 : decode (cM 149) 231 = .ok (.bipush 119, 2) := by decide +kernel
theorem d_149_233 : decode (cM 149) 233 = .ok (.iastore, 1) := by decide +kernel
theorem d_149_234 : decode (cM 149) 234 = .ok (.dup, 1) := by decide +kernel
theorem d_149_235 : decode (cM 149) 235 = .ok (.bipush 37, 2) := by decide +kernel
theorem d_149_237 : decode (cM 149) 237 = .ok (.bipush 32, 2) := by decide +kernel
theorem d_149_239 : decode (cM 149) 239 = .ok (.iastore, 1) := by decide +kernel
theorem d_149_240 : decode (cM 149) 240 = .ok (.dup, 1) := by decide +kernel
theorem d_149_241 : decode (cM 149) 241 = .ok (.bipush 38, 2) := by decide +kernel
theorem d_149_243 : decode (cM 149) 243 = .ok (.bipush 116, 2) := by decide +kernel
theorem d_149_245 : decode (cM 149) 245 = .ok (.iastore, 1) := by decide +kernel
theorem d_149_246 : decode (cM 149) 246 = .ok (.dup, 1) := by decide +kernel
theorem d_149_247 : decode (cM 149) 247 = .ok (.bipush 39, 2) := by decide +kernel
theorem d_149_249 : decode (cM 149) 249 = .ok (.bipush 111, 2) := by decide +kernel
theorem d_149_251 : decode (cM 149) 251 = .ok (.iastore, 1) := by decide +kernel
theorem d_149_252 : decode (cM 149) 252 = .ok (.dup, 1) := by decide +kernel
theorem d_149_253 : decode (cM 149) 253 = .ok (.bipush 40, 2) := by decide +kernel
theorem d_149_255 : decode (cM 149) 255 = .ok (.bipush 108, 2) := by decide +kernel
theorem d_149_257 : decode (cM 149) 257 = .ok (.iastore, 1) := by decide +kernel
theorem d_149_258 : decode (cM 149) 258 = .ok (.dup, 1) := by decide +kernel
theorem d_149_259 : decode (cM 149) 259 = .ok (.bipush 41, 2) := by decide +kernel
theorem d_149_261 : decode (cM 149) 261 = .ok (.bipush 108, 2) := by decide +kernel
theorem d_149_263 : decode (cM 149) 263 = .ok (.iastore, 1) := by decide +kernel
theorem d_149_264 : decode (cM 149) 264 = .ok (.dup, 1) := by decide +kernel
theorem d_149_265 : decode (cM 149) 265 = .ok (.bipush 42, 2) := by decide +kernel
theorem d_149_267 : decode (cM 149) 267 = .ok (.bipush 32, 2) := by decide +kernel
theorem d_149_269 : decode (cM 149) 269 = .ok (.iastore, 1) := by decide +kernel
theorem d_149_270 : decode (cM 149) 270 = .ok (.dup, 1) := by decide +kernel
theorem d_149_271 : decode (cM 149) 271 = .ok (.bipush 43, 2) := by decide +kernel
theorem d_149_273 : decode (cM 149) 273 = .ok (.bipush 115, 2) := by decide +kernel
theorem d_149_275 : decode (cM 149) 275 = .ok (.iastore, 1) := by decide +kernel
theorem d_149_276 : decode (cM 149) 276 = .ok (.dup, 1) := by decide +kernel
theorem d_149_277 : decode (cM 149) 277 = .ok (.bipush 44, 2) := by decide +kernel
theorem d_149_279 : decode (cM 149) 279 = .ok (.bipush 116, 2) := by decide +kernel
theorem d_149_281 : decode (cM 149) 281 = .ok (.iastore, 1) := by decide +kernel
theorem d_149_282 : decode (cM 149) 282 = .ok (.dup, 1) := by decide +kernel
theorem d_149_283 : decode (cM 149) 283 = .ok (.bipush 45, 2) := by decide +kernel
theorem d_149_285 : decode (cM 149) 285 = .ok (.bipush 105, 2) := by decide +kernel
theorem d_149_287 : decode (cM 149) 287 = .ok (.iastore, 1) := by decide +kernel
theorem d_149_288 : decode (cM 149) 288 = .ok (.dup, 1) := by decide +kernel
theorem d_149_289 : decode (cM 149) 289 = .ok (.bipush 46, 2) := by decide +kernel
theorem d_149_291 : decode (cM 149) 291 = .ok (.bipush 99, 2) := by decide +kernel
theorem d_149_293 : decode (cM 149) 293 = .ok (.iastore, 1) := by decide +kernel
theorem d_149_294 : decode (cM 149) 294 = .ok (.dup, 1) := by decide +kernel
theorem d_149_295 : decode (cM 149) 295 = .ok (.bipush 47, 2) := by decide +kernel
theorem d_149_297 : decode (cM 149) 297 = .ok (.bipush 107, 2) := by decide +kernel
theorem d_149_299 : decode (cM 149) 299 = .ok (.iastore, 1) := by decide +kernel
theorem d_149_300 : decode (cM 149) 300 = .ok (.dup, 1) := by decide +kernel
theorem d_149_301 : decode (cM 149) 301 = .ok (.bipush 48, 2) := by decide +kernel
theorem d_149_303 : decode (cM 149) 303 = .ok (.bipush 32, 2) := by decide +kernel
theorem d_149_305 : decode (cM 149) 305 = .ok (.iastore, 1) := by decide +kernel
theorem d_149_306 : decode (cM 149) 306 = .ok (.dup, 1) := by decide +kernel
theorem d_149_307 : decode (cM 149) 307 = .ok (.bipush 49, 2) := by decide +kernel
theorem d_149_309 : decode (cM 149) 309 = .ok (.bipush 102, 2) := by decide +kernel
theorem d_149_311 : decode (cM 149) 311 = .ok (.iastore, 1) := by decide +kernel
theorem d_149_312 : decode (cM 149) 312 = .ok (.dup, 1) := by decide +kernel
theorem d_149_313 : decode (cM 149) 313 = .ok (.bipush 50, 2) := by decide +kernel
theorem d_149_315 : decode (cM 149) 315 = .ok (.bipush 97, 2) := by decide +kernel
theorem d_149_317 : decode (cM 149) 317 = .ok (.iastore, 1) := by decide +kernel
theorem d_149_318 : decode (cM 149) 318 = .ok (.dup, 1) := by decide +kernel
theorem d_149_319 : decode (cM 149) 319 = .ok (.bipush 51, 2) := by decide +kernel
theorem d_149_321 : decode (cM 149) 321 = .ok (.bipush 116, 2) := by decide +kernel
theorem d_149_323 : decode (cM 149) 323 = .ok (.iastore, 1) := by decide +kernel
theorem d_149_324 : decode (cM 149) 324 = .ok (.dup, 1) := by decide +kernel
theorem d_149_325 : decode (cM 149) 325 = .ok (.bipush 52, 2) := by decide +kernel
theorem d_149_327 : decode (cM 149) 327 = .ok (.bipush 101, 2) := by decide +kernel
theorem d_149_329 : decode (cM 149) 329 = .ok (.iastore, 1) := by decide +kernel
theorem d_149_330 : decode (cM 149) 330 = .ok (.dup, 1) := by decide +kernel
theorem d_149_331 : decode (cM 149) 331 = .ok (.bipush 53, 2) := by decide +kernel
theorem d_149_333 : decode (cM 149) 333 = .ok (.bipush 32, 2) := by decide +kernel
theorem d_149_335 : decode (cM 149) 335 = .ok (.iastore, 1) := by decide +kernel
theorem d_149_336 : decode (cM 149) 336 = .ok (.dup, 1) := by decide +kernel
theorem d_149_337 : decode (cM 149) 337 = .ok (.bipush 54, 2) := by decide +kernel
theorem d_149_339 : decode (cM 149) 339 = .ok (.bipush 97, 2) := by decide +kernel
theorem d_149_341 : decode (cM 149) 341 = .ok (.iastore, 1) := by decide +kernel
theorem d_149_342 : decode (cM 149) 342 = .ok (.dup, 1) := by decide +kernel
theorem d_149_343 : decode (cM 149) 343 = .ok (.bipush 55, 2) := by decide +kernel
theorem d_149_345 : decode (cM 149) 345 = .ok (.bipush 110, 2) := by decide +kernel
theorem d_149_347 : decode (cM 149) 347 = .ok (.iastore, 1) := by decide +kernel
theorem d_149_348 : decode (cM 149) 348 = .ok (.dup, 1) := by decide +kernel
theorem d_149_349 : decode (cM 149) 349 = .ok (.bipush 56, 2) := by decide +kernel
theorem d_149_351 : decode (cM 149) 351 = .ok (.bipush 100, 2) := by decide +kernel
theorem d_149_353 : decode (cM 149) 353 = .ok (.iastore, 1) := by decide +kernel
theorem d_149_354 : decode (cM 149) 354 = .ok (.dup, 1) := by decide +kernel
theorem d_149_355 : decode (cM 149) 355 = .ok (.bipush 57, 2) := by decide +kernel
theorem d_149_357 : decode (cM 149) 357 = .ok (.bipush 32, 2) := by decide +kernel
theorem d_149_359 : decode (cM 149) 359 = .ok (.iastore, 1) := by decide +kernel
theorem d_149_360 : decode (cM 149) 360 = .ok (.dup, 1) := by decide +kernel
theorem d_149_361 : decode (cM 149) 361 = .ok (.bipush 58, 2) := by decide +kernel
theorem d_149_363 : decode (cM 149) 363 = .ok (.bipush 111, 2) := by decide +kernel
theorem d_149_365 : decode (cM 149) 365 = .ok (.iastore, 1) := by decide +kernel
theorem d_149_366 : decode (cM 149) 366 = .ok (.dup, 1) := by decide +kernel
theorem d_149_367 : decode (cM 149) 367 = .ok (.bipush 59, 2) := by decide +kernel
theorem d_149_369 : decode (cM 149) 369 = .ok (.bipush 114, 2) := by decide +kernel
theorem d_149_371 : decode (cM 149) 371 = .ok (.iastore, 1) := by decide +kernel
theorem d_149_372 : decode (cM 149) 372 = .ok (.dup, 1) := by decide +kernel
theorem d_149_373 : decode (cM 149) 373 = .ok (.bipush 60, 2) := by decide +kernel
theorem d_149_375 : decode (cM 149) 375 = .ok (.bipush 32, 2) := by decide +kernel
theorem d_149_377 : decode (cM 149) 377 = .ok (.iastore, 1) := by decide +kernel
theorem d_149_378 : decode (cM 149) 378 = .ok (.dup, 1) := by decide +kernel
theorem d_149_379 : decode (cM 149) 379 = .ok (.bipush 61, 2) := by decide +kernel
theorem d_149_381 : decode (cM 149) 381 = .ok (.bipush 110, 2) := by decide +kernel
theorem d_149_383 : decode (cM 149) 383 = .ok (.iastore, 1) := by decide +kernel
theorem d_149_384 : decode (cM 149) 384 = .ok (.dup, 1) := by decide +kernel
theorem d_149_385 : decode (cM 149) 385 = .ok (.bipush 62, 2) := by decide +kernel
theorem d_149_387 : decode (cM 149) 387 = .ok (.bipush 111, 2) := by decide +kernel
theorem d_149_389 : decode (cM 149) 389 = .ok (.iastore, 1) := by decide +kernel
theorem d_149_390 : decode (cM 149) 390 = .ok (.dup, 1) := by decide +kernel
theorem d_149_391 : decode (cM 149) 391 = .ok (.bipush 63, 2) := by decide +kernel
theorem d_149_393 : decode (cM 149) 393 = .ok (.bipush 116, 2) := by decide +kernel
theorem d_149_395 : decode (cM 149) 395 = .ok (.iastore, 1) := by decide +kernel
theorem d_149_396 : decode (cM 149) 396 = .ok (.dup, 1) := by decide +kernel
theorem d_149_397 : decode (cM 149) 397 = .ok (.bipush 64, 2) := by decide +kernel
theorem d_149_399 : decode (cM 149) 399 = .ok (.bipush 32, 2) := by decide +kernel
theorem d_149_401 : decode (cM 149) 401 = .ok (.iastore, 1) := by decide +kernel
theorem d_149_402 : decode (cM 149) 402 = .ok (.dup, 1) := by decide +kernel
theorem d_149_403 : decode (cM 149) 403 = .ok (.bipush 65, 2) := by decide +kernel
theorem d_149_405 : decode (cM 149) 405 = .ok (.bipush 99, 2) := by decide +kernel
theorem d_149_407 : decode (cM 149) 407 = .ok (.iastore, 1) := by decide +kernel
theorem d_149_408 : decode (cM 149) 408 = .ok (.dup, 1) := by decide +kernel
theorem d_149_409 : decode (cM 149) 409 = .ok (.bipush 66, 2) := by decide +kernel
theorem d_149_411 : decode (cM 149) 411 = .ok (.bipush 111, 2) := by decide +kernel
theorem d_149_413 : decode (cM 149) 413 = .ok (.iastore, 1) := by decide +kernel
theorem d_149_414 : decode (cM 149) 414 = .ok (.dup, 1) := by decide +kernel
theorem d_149_415 : decode (cM 149) 415 = .ok (.bipush 67, 2) := by decide +kernel
theorem d_149_417 : decode (cM 149) 417 = .ok (.bipush 115, 2) := by decide +kernel
theorem d_149_419 : decode (cM 149) 419 = .ok (.iastore, 1) := by decide +kernel
theorem d_149_420 : decode (cM 149) 420 = .ok (.dup, 1) := by decide +kernel
theorem d_149_421 : decode (cM 149) 421 = .ok (.bipush 68, 2) := by decide +kernel
theorem d_149_423 : decode (cM 149) 423 = .ok (.bipush 116, 2) := by decide +kernel
theorem d_149_425 : decode (cM 149) 425 = .ok (.iastore, 1) := by decide +kernel
theorem d_149_426 : decode (cM 149) 426 = .ok (.dup, 1) := by decide +kernel
theorem d_149_427 : decode (cM 149) 427 = .ok (.bipush 69, 2) := by decide +kernel
theorem d_149_429 : decode (cM 149) 429 = .ok (.bipush 32, 2) := by decide +kernel
theorem d_149_431 : decode (cM 149) 431 = .ok (.iastore, 1) := by decide +kernel
theorem d_149_432 : decode (cM 149) 432 = .ok (.dup, 1) := by decide +kernel
theorem d_149_433 : decode (cM 149) 433 = .ok (.bipush 70, 2) := by decide +kernel
theorem d_149_435 : decode (cM 149) 435 = .ok (.bipush 119, 2) := by decide +kernel
theorem d_149_437 : decode (cM 149) 437 = .ok (.iastore, 1) := by decide +kernel
theorem d_149_438 : decode (cM 149) 438 = .ok (.dup, 1) := by decide +kernel
theorem d_149_439 : decode (cM 149) 439 = .ok (.bipush 71, 2) := by decide +kernel
theorem d_149_441 : decode (cM 149) 441 = .ok (.bipush 111, 2) := by decide +kernel
theorem d_149_443 : decode (cM 149) 443 = .ok (.iastore, 1) := by decide +kernel
theorem d_149_444 : decode (cM 149) 444 = .ok (.dup, 1) := by decide +kernel
theorem d_149_445 : decode (cM 149) 445 = .ok (.bipush 72, 2) := by decide +kernel
theorem d_149_447 : decode (cM 149) 447 = .ok (.bipush 114, 2) := by decide +kernel
theorem d_149_449 : decode (cM 149) 449 = .ok (.iastore, 1) := by decide +kernel
theorem d_149_450 : decode (cM 149) 450 = .ok (.dup, 1) := by decide +kernel
theorem d_149_451 : decode (cM 149) 451 = .ok (.bipush 73, 2) := by decide +kernel
theorem d_149_453 : decode (cM 149) 453 = .ok (.bipush 110, 2) := by decide +kernel
theorem d_149_455 : decode (cM 149) 455 = .ok (.iastore, 1) := by decide +kernel
theorem d_149_456 : decode (cM 149) 456 = .ok (.dup, 1) := by decide +kernel
theorem d_149_457 : decode (cM 149) 457 = .ok (.bipush 74, 2) := by decide +kernel
theorem d_149_459 : decode (cM 149) 459 = .ok (.bipush 32, 2) := by decide +kernel
theorem d_149_461 : decode (cM 149) 461 = .ok (.iastore, 1) := by decide +kernel
theorem d_149_462 : decode (cM 149) 462 = .ok (.dup, 1) := by decide +kernel
theorem d_149_463 : decode (cM 149) 463 = .ok (.bipush 75, 2) := by decide +kernel
theorem d_149_465 : decode (cM 149) 465 = .ok (.bipush 115, 2) := by decide +kernel
theorem d_149_467 : decode (cM 149) 467 = .ok (.iastore, 1) := by decide +kernel
theorem d_149_468 : decode (cM 149) 468 = .ok (.dup, 1) := by decide +kernel
theorem d_149_469 : decode (cM 149) 469 = .ok (.bipush 76, 2) := by decide +kernel
theorem d_149_471 : decode (cM 149) 471 = .ok (.bipush 104, 2) := by decide +kernel
theorem d_149_473 : decode (cM 149) 473 = .ok (.iastore, 1) := by decide +kernel
theorem d_149_474 : decode (cM 149) 474 = .ok (.dup, 1) := by decide +kernel
theorem d_149_475 : decode (cM 149) 475 = .ok (.bipush 77, 2) := by decide +kernel
theorem d_149_477 : decode (cM 149) 477 = .ok (.bipush 111, 2) := by decide +kernel
theorem d_149_479 : decode (cM 149) 479 = .ok (.iastore, 1) := by decide +kernel
theorem d_149_480 : decode (cM 149) 480 = .ok (.dup, 1) := by decide +kernel
theorem d_149_481 : decode (cM 149) 481 = .ok (.bipush 78, 2) := by decide +kernel
theorem d_149_483 : decode (cM 149) 483 = .ok (.bipush 119, 2) := by decide +kernel
theorem d_149_485 : decode (cM 149) 485 = .ok (.iastore, 1) := by decide +kernel
theorem d_149_486 : decode (cM 149) 486 = .ok (.dup, 1) := by decide +kernel
theorem d_149_487 : decode (cM 149) 487 = .ok (.bipush 79, 2) := by decide +kernel
theorem d_149_489 : decode (cM 149) 489 = .ok (.bipush 110, 2) := by decide +kernel
theorem d_149_491 : decode (cM 149) 491 = .ok (.iastore, 1) := by decide +kernel
theorem d_149_492 : decode (cM 149) 492 = .ok (.dup, 1) := by decide +kernel
theorem d_149_493 : decode (cM 149) 493 = .ok (.bipush 80, 2) := by decide +kernel
theorem d_149_495 : decode (cM 149) 495 = .ok (.bipush 32, 2) := by decide +kernel
theorem d_149_497 : decode (cM 149) 497 = .ok (.iastore, 1) := by decide +kernel
theorem d_149_498 : decode (cM 149) 498 = .ok (.dup, 1) := by decide +kernel
theorem d_149_499 : decode (cM 149) 499 = .ok (.bipush 81, 2) := by decide +kernel
theorem d_149_501 : decode (cM 149) 501 = .ok (.bipush 116, 2) := by decide +kernel
theorem d_149_503 : decode (cM 149) 503 = .ok (.iastore, 1) := by decide +kernel
theorem d_149_504 : decode (cM 149) 504 = .ok (.dup, 1) := by decide +kernel
theorem d_149_505 : decode (cM 149) 505 = .ok (.bipush 82, 2) := by decide +kernel
theorem d_149_507 : decode (cM 149) 507 = .ok (.bipush 105, 2) := by decide +kernel
theorem d_149_509 : decode (cM 149) 509 = .ok (.iastore, 1) := by decide +kernel
theorem d_149_510 : decode (cM 149) 510 = .ok (.dup, 1) := by decide +kernel
theorem d_149_511 : decode (cM 149) 511 = .ok (.bipush 83, 2) := by decide +kernel
theorem d_149_513 : decode (cM 149) 513 = .ok (.bipush 101, 2) := by decide +kernel
theorem d_149_515 : decode (cM 149) 515 = .ok (.iastore, 1) := by decide +kernel
theorem d_149_516 : decode (cM 149) 516 = .ok (.dup, 1) := by decide +kernel
theorem d_149_517 : decode (cM 149) 517 = .ok (.bipush 84, 2) := by decide +kernel
theorem d_149_519 : decode (cM 149) 519 = .ok (.bipush 115, 2) := by decide +kernel
theorem d_149_521 : decode (cM 149) 521 = .ok (.iastore, 1) := by decide +kernel
theorem d_149_522 : decode (cM 149) 522 = .ok (.dup, 1) := by decide +kernel
theorem d_149_523 : decode (cM 149) 523 = .ok (.bipush 85, 2) := by decide +kernel
theorem d_149_525 : decode (cM 149) 525 = .ok (.bipush 32, 2) := by decide +kernel
theorem d_149_527 : decode (cM 149) 527 = .ok (.iastore, 1) := by decide +kernel
theorem d_149_528 : decode (cM 149) 528 = .ok (.dup, 1) := by decide +kernel
theorem d_149_529 : decode (cM 149) 529 = .ok (.bipush 86, 2) := by decide +kernel
theorem d_149_531 : decode (cM 149) 531 = .ok (.bipush 111, 2) := by decide +kernel
theorem d_149_533 : decode (cM 149) 533 = .ok (.iastore, 1) := by decide +kernel
theorem d_149_534 : decode (cM 149) 534 = .ok (.dup, 1) := by decide +kernel
theorem d_149_535 : decode (cM 149) 535 = .ok (.bipush 87, 2) := by decide +kernel
theorem d_149_537 : decode (cM 149) 537 = .ok (.bipush 117, 2) := by decide +kernel
theorem d_149_539 : decode (cM 149) 539 = .ok (.iastore, 1) := by decide +kernel
theorem d_149_540 : decode (cM 149) 540 = .ok (.dup, 1) := by decide +kernel
theorem d_149_541 : decode (cM 149) 541 = .ok (.bipush 88, 2) := by decide +kernel
theorem d_149_543 : decode (cM 149) 543 = .ok (.bipush 116, 2) := by decide +kernel
theorem d_149_545 : decode (cM 149) 545 = .ok (.iastore, 1) := by decide +kernel
theorem d_149_546 : decode (cM 149) 546 = .ok (.dup, 1) := by decide +kernel
theorem d_149_547 : decode (cM 149) 547 = .ok (.bipush 89, 2) := by decide +kernel
theorem d_149_549 : decode (cM 149) 549 = .ok (.bipush 32, 2) := by decide +kernel
theorem d_149_551 : decode (cM 149) 551 = .ok (.iastore, 1) := by decide +kernel
theorem d_149_552 : decode (cM 149) 552 = .ok (.dup, 1) := by decide +kernel
theorem d_149_553 : decode (cM 149) 553 = .ok (.bipush 90, 2) := by decide +kernel
theorem d_149_555 : decode (cM 149) 555 = .ok (.bipush 97, 2) := by decide +kernel
theorem d_149_557 : decode (cM 149) 557 = .ok (.iastore, 1) := by decide +kernel
theorem d_149_558 : decode (cM 149) 558 = .ok (.dup, 1) := by decide +kernel
theorem d_149_559 : decode (cM 149) 559 = .ok (.bipush 91, 2) := by decide +kernel
theorem d_149_561 : decode (cM 149) 561 = .ok (.bipush 103, 2) := by decide +kernel
theorem d_149_563 : decode (cM 149) 563 = .ok (.iastore, 1) := by decide +kernel
theorem d_149_564 : decode (cM 149) 564 = .ok (.dup, 1) := by decide +kernel
theorem d_149_565 : decode (cM 149) 565 = .ok (.bipush 92, 2) := by decide +kernel
theorem d_149_567 : decode (cM 149) 567 = .ok (.bipush 101, 2) := by decide +kernel
theorem d_149_569 : decode (cM 149) 569 = .ok (.iastore, 1) := by decide +kernel
theorem d_149_570 : decode (cM 149) 570 = .ok (.dup, 1) := by decide +kernel
theorem d_149_571 : decode (cM 149) 571 = .ok (.bipush 93, 2) := by decide +kernel
theorem d_149_573 : decode (cM 149) 573 = .ok (.bipush 32, 2) := by decide +kernel
theorem d_149_575 : decode (cM 149) 575 = .ok (.iastore, 1) := by decide +kernel
theorem d_149_576 : decode (cM 149) 576 = .ok (.dup, 1) := by decide +kernel
theorem d_149_577 : decode (cM 149) 577 = .ok (.bipush 94, 2) := by decide +kernel
theorem d_149_579 : decode (cM 149) 579 = .ok (.bipush 109, 2) := by decide +kernel
theorem d_149_581 : decode (cM 149) 581 = .ok (.iastore, 1) := by decide +kernel
theorem d_149_582 : decode (cM 149) 582 = .ok (.dup, 1) := by decide +kernel
theorem d_149_583 : decode (cM 149) 583 = .ok (.bipush 95, 2) := by decide +kernel
theorem d_149_585 : decode (cM 149) 585 = .ok (.bipush 105, 2) := by decide +kernel
theorem d_149_587 : decode (cM 149) 587 = .ok (.iastore, 1) := by decide +kernel
theorem d_149_588 : decode (cM 149) 588 = .ok (.dup, 1) := by decide +kernel
theorem d_149_589 : decode (cM 149) 589 = .ok (.bipush 96, 2) := by decide +kernel
theorem d_149_591 : decode (cM 149) 591 = .ok (.bipush 110, 2) := by decide +kernel
theorem d_149_593 : decode (cM 149) 593 = .ok (.iastore, 1) := by decide +kernel
theorem d_149_594 : decode (cM 149) 594 = .ok (.dup, 1) := by decide +kernel
theorem d_149_595 : decode (cM 149) 595 = .ok (.bipush 97, 2) := by decide +kernel
theorem d_149_597 : decode (cM 149) 597 = .ok (.bipush 117, 2) := by decide +kernel
theorem d_149_599 : decode (cM 149) 599 = .ok (.iastore, 1) := by decide +kernel
theorem d_149_600 : decode (cM 149) 600 = .ok (.dup, 1) := by decide +kernel
theorem d_149_601 : decode (cM 149) 601 = .ok (.bipush 98, 2) := by decide +kernel
theorem d_149_603 : decode (cM 149) 603 = .ok (.bipush 116, 2) := by decide +kernel
theorem d_149_605 : decode (cM 149) 605 = .ok (.iastore, 1) := by decide +kernel
theorem d_149_606 : decode (cM 149) 606 = .ok (.dup, 1) := by decide +kernel
theorem d_149_607 : decode (cM 149) 607 = .ok (.bipush 99, 2) := by decide +kernel
theorem d_149_609 : decode (cM 149) 609 = .ok (.bipush 101, 2) := by decide +kernel
theorem d_149_611 : decode (cM 149) 611 = .ok (.iastore, 1) := by decide +kernel
theorem d_149_612 : decode (cM 149) 612 = .ok (.dup, 1) := by decide +kernel
theorem d_149_613 : decode (cM 149) 613 = .ok (.bipush 100, 2) := by decide +kernel
theorem d_149_615 : decode (cM 149) 615 = .ok (.bipush 32, 2) := by decide +kernel
theorem d_149_617 : decode (cM 149) 617 = .ok (.iastore, 1) := by decide +kernel
theorem d_149_618 : decode (cM 149) 618 = .ok (.putfield 13, 3) := by decide +kernel
theorem d_149_621 : decode (cM 149) 621 = .ok (.aload_n 0, 1) := by decide +kernel
theorem d_149_622 : decode (cM 149) 622 = .ok (.iconst (-1), 1) := by decide +kernel
theorem d_149_623 : decode (cM 149) 623 = .ok (.putfield 16, 3) := by decide +kernel
theorem d_149_626 : decode (cM 149) 626 = .ok (.aload_n 0, 1) := by decide +kernel
theorem d_149_627 : decode (cM 149) 627 = .ok (.iconst 2, 1) := by decide +kernel
theorem d_149_628 : decode (cM 149) 628 = .ok (.newarray .int, 2) := by decide +kernel
theorem d_149_630 : decode (cM 149) 630 = .ok (.putfield 20, 3) := by decide +kernel
theorem d_149_633 : decode (cM 149) 633 = .ok (.aload_n 0, 1) := by decide +kernel
theorem d_149_634 : decode (cM 149) 634 = .ok (.iconst 2, 1) := by decide +kernel
theorem d_149_635 : decode (cM 149) 635 = .ok (.newarray .boolean, 2) := by decide +kernel
theorem d_149_637 : decode (cM 149) 637 = .ok (.putfield 23, 3) := by decide +kernel
theorem d_149_640 : decode (cM 149) 640 = .ok (.aload_n 0, 1) := by decide +kernel
theorem d_149_641 : decode (cM 149) 641 = .ok (.iconst 4, 1) := by decide +kernel
theorem d_149_642 : decode (cM 149) 642 = .ok (.newarray .int, 2) := by decide +kernel
theorem d_149_644 : decode (cM 149) 644 = .ok (.putfield 27, 3) := by decide +kernel
theorem d_149_647 : decode (cM 149) 647 = .ok (.aload_n 0, 1) := by decide +kernel
theorem d_149_648 : decode (cM 149) 648 = .ok (.bipush 28, 2) := by decide +kernel
theorem d_149_650 : decode (cM 149) 650 = .ok (.newarray .int, 2) := by decide +kernel
theorem d_149_652 : decode (cM 149) 652 = .ok (.putfield 30, 3) := by decide +kernel
theorem d_149_655 : decode (cM 149) 655 = .ok (.aload_n 0, 1) := by decide +kernel
theorem d_149_656 : decode (cM 149) 656 = .ok (.bipush 20, 2) := by decide +kernel
theorem d_149_658 : decode (cM 149) 658 = .ok (.newarray .int, 2) := by decide +kernel
theorem d_149_660 : decode (cM 149) 660 = .ok (.putfield 33, 3) := by decide +kernel
theorem d_149_663 : decode (cM 149) 663 = .ok (.aload_n 0, 1) := by decide +kernel
theorem d_149_664 : decode (cM 149) 664 = .ok (.bipush 20, 2) := by decide +kernel
theorem d_149_666 : decode (cM 149) 666 = .ok (.newarray .int, 2) := by decide +kernel
theorem d_149_668 : decode (cM 149) 668 = .ok (.putfield 36, 3) := by decide +kernel
theorem d_149_671 : decode (cM 149) 671 = .ok (.aload_n 0, 1) := by decide +kernel
theorem d_149_672 : decode (cM 149) 672 = .ok (.bipush 20, 2) := by decide +kernel
theorem d_149_674 : decode (cM 149) 674 = .ok (.newarray .int, 2) := by decide +kernel
theorem d_149_676 : decode (cM 149) 676 = .ok (.putfield 39, 3) := by decide +kernel
theorem d_149_679 : decode (cM 149) 679 = .ok (.aload_n 0, 1) := by decide +kernel
theorem d_149_680 : decode (cM 149) 680 = .ok (.bipush 28, 2) := by decide +kernel
theorem d_149_682 : decode (cM 149) 682 = .ok (.newarray .int, 2) := by decide +kernel
theorem d_149_684 : decode (cM 149) 684 = .ok (.putfield 42, 3) := by decide +kernel
theorem d_149_687 : decode (cM 149) 687 = .ok (.aload_n 0, 1) := by decide +kernel
theorem d_149_688 : decode (cM 149) 688 = .ok (.bipush 28, 2) := by decide +kernel
theorem d_149_690 : decode (cM 149) 690 = .ok (.newarray .int, 2) := by decide +kernel
theorem d_149_692 : decode (cM 149) 692 = .ok (.putfield 45, 3) := by decide +kernel
theorem d_149_695 : decode (cM 149) 695 = .ok (.aload_n 0, 1) := by decide +kernel
theorem d_149_696 : decode (cM 149) 696 = .ok (.bipush 8, 2) := by decide +kernel
theorem d_149_698 : decode (cM 149) 698 = .ok (.newarray .int, 2) := by decide +kernel
theorem d_149_700 : decode (cM 149) 700 = .ok (.putfield 48, 3) := by decide +kernel
theorem d_149_703 : decode (cM 149) 703 = .ok (.aload_n 0, 1) := by decide +kernel
theorem d_149_704 : decode (cM 149) 704 = .ok (.bipush 6, 2) := by decide +kernel
theorem d_149_706 : decode (cM 149) 706 = .ok (.newarray .boolean, 2) := by decide +kernel
theorem d_149_708 : decode (cM 149) 708 = .ok (.putfield 51, 3) := by decide +kernel
theorem d_149_711 : decode (cM 149) 711 = .ok (.aload_n 0, 1) := by decide +kernel
theorem d_149_712 : decode (cM 149) 712 = .ok (.bipush 6, 2) := by decide +kernel
theorem d_149_714 : decode (cM 149) 714 = .ok (.newarray .int, 2) := by decide +kernel
theorem d_149_716 : decode (cM 149) 716 = .ok (.putfield 54, 3) := by decide +kernel
theorem d_149_719 : decode (cM 149) 719 = .ok (.aload_n 0, 1) := by decide +kernel
theorem d_149_720 : decode (cM 149) 720 = .ok (.bipush 6, 2) := by decide +kernel
theorem d_149_722 : decode (cM 149) 722 = .ok (.newarray .int, 2) := by decide +kernel
theorem d_149_724 : decode (cM 149) 724 = .ok (.putfield 57, 3) := by decide +kernel
theorem d_149_727 : decode (cM 149) 727 = .ok (.aload_n 0, 1) := by decide +kernel
theorem d_149_728 : decode (cM 149) 728 = .ok (.sipush 128, 3) := by decide +kernel
theorem d_149_731 : decode (cM 149) 731 = .ok (.newarray .int, 2) := by decide +kernel
theorem d_149_733 : decode (cM 149) 733 = .ok (.putfield 60, 3) := by decide +kernel
theorem d_149_736 : decode (cM 149) 736 = .ok (.aload_n 0, 1) := by decide +kernel
theorem d_149_737 : decode (cM 149) 737 = .ok (.sipush 128, 3) := by decide +kernel
theorem d_149_740 : decode (cM 149) 740 = .ok (.newarray .int, 2) := by decide +kernel
theorem d_149_742 : decode (cM 149) 742 = .ok (.putfield 63, 3) := by decide +kernel
theorem d_149_745 : decode (cM 149) 745 = .ok (.aload_n 0, 1) := by decide +kernel
theorem d_149_746 : decode (cM 149) 746 = .ok (.sipush 128, 3) := by decide +kernel
theorem d_149_749 : decode (cM 149) 749 = .ok (.newarray .int, 2) := by decide +kernel
theorem d_149_751 : decode (cM 149) 751 = .ok (.putfield 66, 3) := by decide +kernel
theorem d_149_754 : decode (cM 149) 754 = .ok (.aload_n 0, 1) := by decide +kernel
theorem d_149_755 : decode (cM 149) 755 = .ok (.bipush 96, 2) := by decide +kernel
theorem d_149_757 : decode (cM 149) 757 = .ok (.newarray .int, 2) := by decide +kernel
theorem d_149_759 : decode (cM 149) 759 = .ok (.putfield 69, 3) := by decide +kernel
theorem d_149_762 : decode (cM 149) 762 = .ok (.aload_n 0, 1) := by decide +kernel
theorem d_149_763 : decode (cM 149) 763 = .ok (.bipush 96, 2) := by decide +kernel
theorem d_149_765 : decode (cM 149) 765 = .ok (.newarray .int, 2) := by decide +kernel
theorem d_149_767 : decode (cM 149) 767 = .ok (.putfield 72, 3) := by decide +kernel
theorem d_149_770 : decode (cM 149) 770 = .ok (.aload_n 0, 1) := by decide +kernel
theorem d_149_771 : decode (cM 149) 771 = .ok (.bipush 7, 2) := by decide +kernel
theorem d_149_773 : decode (cM 149) 773 = .ok (.newarray .long, 2) := by decide +kernel
theorem d_149_775 : decode (cM 149) 775 = .ok (.putfield 75, 3) := by decide +kernel
theorem d_149_778 : decode (cM 149) 778 = .ok (.aload_n 0, 1) := by decide +kernel
theorem d_149_779 : decode (cM 149) 779 = .ok (.bipush 64, 2) := by decide +kernel
theorem d_149_781 : decode (cM 149) 781 = .ok (.newarray .long, 2) := by decide +kernel
theorem d_149_783 : decode (cM 149) 783 = .ok (.putfield 79, 3) := by decide +kernel
theorem d_149_786 : decode (cM 149) 786 = .ok (.aload_n 0, 1) := by decide +kernel
theorem d_149_787 : decode (cM 149) 787 = .ok (.iconst 2, 1) := by decide +kernel
theorem d_149_788 : decode (cM 149) 788 = .ok (.newarray .int, 2) := by decide +kernel
theorem d_149_790 : decode (cM 149) 790 = .ok (.putfield 82, 3) := by decide +kernel
theorem d_149_793 : decode (cM 149) 793 = .ok (.aload_n 0, 1) := by decide +kernel
theorem d_149_794 : decode (cM 149) 794 = .ok (.iconst 2, 1) := by decide +kernel
theorem d_149_795 : decode (cM 149) 795 = .ok (.newarray .int, 2) := by decide +kernel
theorem d_149_797 : decode (cM 149) 797 = .ok (.putfield 85, 3) := by decide +kernel
theorem d_149_800 : decode (cM 149) 800 = .ok (.aload_n 0, 1) := by decide +kernel
theorem d_149_801 : decode (cM 149) 801 = .ok (.iconst 2, 1) := by decide +kernel
theorem d_149_802 : decode (cM 149) 802 = .ok (.newarray .int, 2) := by decide +kernel
theorem d_149_804 : decode (cM 149) 804 = .ok (.putfield 88, 3) := by decide +kernel
theorem d_149_807 : decode (cM 149) 807 = .ok (.aload_n 0, 1) := by decide +kernel
theorem d_149_808 : decode (cM 149) 808 = .ok (.iconst 2, 1) := by decide +kernel
theorem d_149_809 : decode (cM 149) 809 = .ok (.newarray .int, 2) := by decide +kernel
theorem d_149_811 : decode (cM 149) 811 = .ok (.putfield 91, 3) := by decide +kernel
theorem d_149_814 : decode (cM 149) 814 = .ok (.aload_n 0, 1) := by decide +kernel
theorem d_149_815 : decode (cM 149) 815 = .ok (.iconst 2, 1) := by decide +kernel
theorem d_149_816 : decode (cM 149) 816 = .ok (.newarray .int, 2) := by decide +kernel
theorem d_149_818 : decode (cM 149) 818 = .ok (.putfield 94, 3) := by decide +kernel
theorem d_149_821 : decode (cM 149) 821 = .ok (.aload_n 0, 1) := by decide +kernel
theorem d_149_822 : decode (cM 149) 822 = .ok (.iconst 2, 1) := by decide +kernel
theorem d_149_823 : decode (cM 149) 823 = .ok (.newarray .int, 2) := by decide +kernel
theorem d_149_825 : decode (cM 149) 825 = .ok (.putfield 97, 3) := by decide +kernel
theorem d_149_828 : decode (cM 149) 828 = .ok (.aload_n 0, 1) := by decide +kernel
theorem d_149_829 : decode (cM 149) 829 = .ok (.bipush 28, 2) := by decide +kernel
theorem d_149_831 : decode (cM 149) 831 = .ok (.newarray .int, 2) := by decide +kernel
theorem d_149_833 : decode (cM 149) 833 = .ok (.putfield 100, 3) := by decide +kernel
theorem d_149_836 : decode (cM 149) 836 = .ok (.aload_n 0, 1) := by decide +kernel
theorem d_149_837 : decode (cM 149) 837 = .ok (.bipush 20, 2) := by decide +kernel
theorem d_149_839 : decode (cM 149) 839 = .ok (.newarray .int, 2) := by decide +kernel
theorem d_149_841 : decode (cM 149) 841 = .ok (.putfield 103, 3) := by decide +kernel
theorem d_149_844 : decode (cM 149) 844 = .ok (.aload_n 0, 1) := by decide +kernel
theorem d_149_845 : decode (cM 149) 845 = .ok (.bipush 20, 2) := by decide +kernel
theorem d_149_847 : decode (cM 149) 847 = .ok (.newarray .int, 2) := by decide +kernel
theorem d_149_849 : decode (cM 149) 849 = .ok (.putfield 106, 3) := by decide +kernel
theorem d_149_852 : decode (cM 149) 852 = .ok (.aload_n 0, 1) := by decide +kernel
theorem d_149_853 : decode (cM 149) 853 = .ok (.sipush 1024, 3) := by decide +kernel
theorem d_149_856 : decode (cM 149) 856 = .ok (.newarray .int, 2) := by decide +kernel
theorem d_149_858 : decode (cM 149) 858 = .ok (.putfield 109, 3) := by decide +kernel
theorem d_149_861 : decode (cM 149) 861 = .ok (.aload_n 0, 1) := by decide +kernel
theorem d_149_862 : decode (cM 149) 862 = .ok (.bipush 14, 2) := by decide +kernel
theorem d_149_864 : decode (cM 149) 864 = .ok (.newarray .int, 2) := by decide +kernel
theorem d_149_866 : decode (cM 149) 866 = .ok (.putfield 112, 3) := by decide +kernel
theorem d_149_869 : decode (cM 149) 869 = .ok (.aload_n 0, 1) := by decide +kernel
theorem d_149_870 : decode (cM 149) 870 = .ok (.sipush 1024, 3) := by decide +kernel
theorem d_149_873 : decode (cM 149) 873 = .ok (.newarray .int, 2) := by decide +kernel
theorem d_149_875 : decode (cM 149) 875 = .ok (.putfield 115, 3) := by decide +kernel
theorem d_149_878 : decode (cM 149) 878 = .ok (.aload_n 0, 1) := by decide +kernel
theorem d_149_879 : decode (cM 149) 879 = .ok (.iconst (-1), 1) := by decide +kernel
theorem d_149_880 : decode (cM 149) 880 = .ok (.putfield 118, 3) := by decide +kernel
theorem d_149_883 : decode (cM 149) 883 = .ok (.aload_n 0, 1) := by decide +kernel
theorem d_149_884 : decode (cM 149) 884 = .ok (.bipush 72, 2) := by decide +kernel
theorem d_149_886 : decode (cM 149) 886 = .ok (.newarray .int, 2) := by decide +kernel
theorem d_149_888 : decode (cM 149) 888 = .ok (.putfield 121, 3) := by decide +kernel
theorem d_149_891 : decode (cM 149) 891 = .ok (.aload_n 0, 1) := by decide +kernel
theorem d_149_892 : decode (cM 149) 892 = .ok (.bipush 24, 2) := by decide +kernel
theorem d_149_894 : decode (cM 149) 894 = .ok (.newarray .boolean, 2) := by decide +kernel
theorem d_149_896 : decode (cM 149) 896 = .ok (.putfield 124, 3) := by decide +kernel
theorem d_149_899 : decode (cM 149) 899 = .ok (.aload_n 0, 1) := by decide +kernel
theorem d_149_900 : decode (cM 149) 900 = .ok (.sipush 480, 3) := by decide +kernel
theorem d_149_903 : decode (cM 149) 903 = .ok (.newarray .int, 2) := by decide +kernel
theorem d_149_905 : decode (cM 149) 905 = .ok (.putfield 127, 3) := by decide +kernel
theorem d_149_908 : decode (cM 149) 908 = .ok (.aload_n 0, 1) := by decide +kernel
theorem d_149_909 : decode (cM 149) 909 = .ok (.bipush 24, 2) := by decide +kernel
theorem d_149_911 : decode (cM 149) 911 = .ok (.newarray .int, 2) := by decide +kernel
theorem d_149_913 : decode (cM 149) 913 = .ok (.putfield 130, 3) := by decide +kernel
theorem d_149_916 : decode (cM 149) 916 = .ok (.aload_n 0, 1) := by decide +kernel
theorem d_149_917 : decode (cM 149) 917 = .ok (.bipush 16, 2) := by decide +kernel
theorem d_149_919 : decode (cM 149) 919 = .ok (.newarray .int, 2) := by decide +kernel
theorem d_149_921 : decode (cM 149) 921 = .ok (.putfield 133, 3) := by decide +kernel
theorem d_149_924 : decode (cM 149) 924 = .ok (.aload_n 0, 1) := by decide +kernel
theorem d_149_925 : decode (cM 149) 925 = .ok (.invokevirtual 136, 3) := by decide +kernel
theorem kc_149_925 : callT (oM 149) 136 = some (0, 164, 0) ∧ fok 149 164 = true ∧ stM 164 = false := by decide +kernel
theorem d_149_928 : decode (cM 149) 928 = .ok (.aload_n 0, 1) := by decide +kernel
theorem d_149_929 : decode (cM 149) 929 = .ok (.invokevirtual 139, 3) := by decide +kernel
theorem kc_149_929 : callT (oM 149) 139 = some (0, 166, 0) ∧ fok 149 166 = true ∧ stM 166 = false := by decide +kernel
theorem d_149_932 : decode (cM 149) 932 = .ok (.return_, 1) := by decide +kernel
theorem d_150_0 : decode (cM 150) 0 = .ok (.aload_n 0, 1) := by decide +kernel
theorem d_150_1 : decode (cM 150) 1 = .ok (.getfield 142, 3) := by decide +kernel
theorem d_150_4 : decode (cM 150) 4 = .ok (.ireturn, 1) := by decide +kernel
theorem d_151_0 : decode (cM 151) 0 = .ok (.aload_n 0, 1) := by decide +kernel
theorem d_151_1 : decode (cM 151) 1 = .ok (.iconst 0, 1) := by decide +kernel
theorem d_151_2 : decode (cM 151) 2 = .ok (.putfield 142, 3) := by decide +kernel
theorem d_151_5 : decode (cM 151) 5 = .ok (.aload_n 0, 1) := by decide +kernel
theorem d_151_6 : decode (cM 151) 6 = .ok (.getfield 145, 3) := by decide +kernel
theorem d_151_9 : decode (cM 151) 9 = .ok (.bipush 20, 2) := by decide +kernel
theorem d_151_11 : decode (cM 151) 11 = .ok (.iadd, 1) := by decide +kernel
theorem d_151_12 : decode (cM 151) 12 = .ok (.sipush 700, 3) := by decide +kernel
theorem d_151_15 : decode (cM 151) 15 = .ok (.if_icmp .le 5, 3) := by decide +kernel
theorem d_151_18 : decode (cM 151) 18 = .ok (.iconst (-1), 1) := by decide +kernel
theorem d_151_19 : decode (cM 151) 19 = .ok (.ireturn, 1) := by decide +kernel
theorem d_151_20 : decode (cM 151) 20 = .ok (.iconst 0, 1) := by decide +kernel
theorem d_151_21 : decode (cM 151) 21 = .ok (.istore 6, 2) := by decide +kernel
theorem d_151_23 : decode (cM 151) 23 = .ok (.iload 6, 2) := by decide +kernel
theorem d_151_25 : decode (cM 151) 25 = .ok (.bipush 20, 2) := by decide +kernel
theorem d_151_27 : decode (cM 151) 27 = .ok (.if_icmp .ge 86, 3) := by decide +kernel
theorem d_151_30 : decode (cM 151) 30 = .ok (.iload 6, 2) := by decide +kernel
theorem d_151_32 : decode (cM 151) 32 = .ok (.iconst 4, 1) := by decide +kernel
theorem d_151_33 : decode (cM 151) 33 = .ok (.if_icmp .ge 7, 3) := by decide +kernel
theorem d_151_36 : decode (cM 151) 36 = .ok (.iload_n 1, 1) := by decide +kernel
theorem d_151_37 : decode (cM 151) 37 = .ok (.goto 39, 3) := by decide +kernel
theorem d_151_40 : decode (cM 151) 40 = .ok (.iload 6, 2) := by decide +kernel
theorem d_151_42 : decode (cM 151) 42 = .ok (.bipush 8, 2) := by decide +kernel
theorem d_151_44 : decode (cM 151) 44 = .ok (.if_icmp .ge 7, 3) := by decide +kernel
theorem d_151_47 : decode (cM 151) 47 = .ok (.iload_n 2, 1) := by decide +kernel
theorem d_151_48 : decode (cM 151) 48 = .ok (.goto 28, 3) := by decide +kernel
theorem d_151_51 : decode (cM 151) 51 = .ok (.iload 6, 2) := by decide +kernel
theorem d_151_53 : decode (cM 151) 53 = .ok (.bipush 12, 2) := by decide +kernel
theorem d_151_55 : decode (cM 151) 55 = .ok (.if_icmp .ge 7, 3) := by decide +kernel
theorem d_151_58 : decode (cM 151) 58 = .ok (.iload_n 3, 1) := by decide +kernel
theorem d_151_59 : decode (cM 151) 59 = .ok (.goto 17, 3) := by decide +kernel
theorem d_151_62 : decode (cM 151) 62 = .ok (.iload 6, 2) := by decide +kernel
theorem d_151_64 : decode (cM 151) 64 = .ok (.bipush 16, 2) := by decide +kernel
theorem d_151_66 : decode (cM 151) 66 = .ok (.if_icmp .ge 8, 3) := by decide +kernel
theorem d_151_69 : decode (cM 151) 69 = .ok (.iload 4, 2) := by decide +kernel
theorem d_151_71 : decode (cM 151) 71 = .ok (.goto 5, 3) := by decide +kernel
theorem d_151_74 : decode (cM 151) 74 = .ok (.iload 5, 2) := by decide +kernel
theorem d_151_76 : decode (cM 151) 76 = .ok (.istore 7, 2) := by decide +kernel
theorem d_151_78 : decode (cM 151) 78 = .ok (.aload_n 0, 1) := by decide +kernel
theorem d_151_79 : decode (cM 151) 79 = .ok (.getfield 7, 3) := by decide +kernel
theorem d_151_82 : decode (cM 151) 82 = .ok (.aload_n 0, 1) := by decide +kernel
theorem d_151_83 : decode (cM 151) 83 = .ok (.getfield 145, 3) := by decide +kernel
theorem d_151_86 : decode (cM 151) 86 = .ok (.iload 6, 2) := by decide +kernel
theorem d_151_88 : decode (cM 151) 88 = .ok (.iadd, 1) := by decide +kernel
theorem d_151_89 : decode (cM 151) 89 = .ok (.iload 7, 2) := by decide +kernel
theorem d_151_91 : decode (cM 151) 91 = .ok (.bipush 24, 2) := by decide +kernel
theorem d_151_93 : decode (cM 151) 93 = .ok (.bipush 8, 2) := by decide +kernel
theorem d_151_95 : decode (cM 151) 95 = .ok (.iload 6, 2) := by decide +kernel
theorem d_151_97 : decode (cM 151) 97 = .ok (.iconst 4, 1) := by decide +kernel
theorem d_151_98 : decode (cM 151) 98 = .ok (.irem, 1) := by decide +kernel
theorem d_151_99 : decode (cM 151) 99 = .ok (.imul, 1) := by decide +kernel
theorem d_151_100 : decode (cM 151) 100 = .ok (.isub, 1) := by decide +kernel
theorem d_151_101 : decode (cM 151) 101 = .ok (.ishr, 1) := by decide +kernel
theorem d_151_102 : decode (cM 151) 102 = .ok (.sipush 255, 3) := by decide +kernel
theorem d_151_105 : decode (cM 151) 105 = .ok (.iand, 1) := by decide +kernel
theorem d_151_106 : decode (cM 151) 106 = .ok (.iastore, 1) := by decide +kernel
theorem d_151_107 : decode (cM 151) 107 = .ok (.iinc 6 1, 3) := by decide +kernel
theorem d_151_110 : decode (cM 151) 110 = .ok (.goto (-87), 3) := by decide +kernel
theorem d_151_113 : decode (cM 151) 113 = .ok (.aload_n 0, 1) := by decide +kernel
theorem d_151_114 : decode (cM 151) 114 = .ok (.dup, 1) := by decide +kernel
theorem d_151_115 : decode (cM 151) 115 = .ok (.getfield 145, 3) := by decide +kernel
theorem d_151_118 : decode (cM 151) 118 = .ok (.bipush 20, 2) := by decide +kernel
theorem d_151_120 : decode (cM 151) 120 = .ok (.iadd, 1) := by decide +kernel
theorem d_151_121 : decode (cM 151) 121 = .ok (.putfield 145, 3) := by decide +kernel
theorem d_151_124 : decode (cM 151) 124 = .ok (.aload_n 0, 1) := by decide +kernel
theorem d_151_125 : decode (cM 151) 125 = .ok (.getfield 145, 3) := by decide +kernel
theorem d_151_128 : decode (cM 151) 128 = .ok (.ireturn, 1) := by decide +kernel
theorem d_152_0 : decode (cM 152) 0 = .ok (.iload_n 0, 1) := by decide +kernel
theorem d_152_1 : decode (cM 152) 1 = .ok (.iload_n 1, 1) := by decide +kernel
theorem d_152_2 : decode (cM 152) 2 = .ok (.if_icmp .lt 12, 3) := by decide +kernel
theorem d_152_5 : decode (cM 152) 5 = .ok (.iload_n 0, 1) := by decide +kernel
theorem d_152_6 : decode (cM 152) 6 = .ok (.iload_n 2, 1) := by decide +kernel
theorem d_152_7 : decode (cM 152) 7 = .ok (.if_icmp .gt 7, 3) := by decide +kernel
theorem d_152_10 : decode (cM 152) 10 = .ok (.iconst 1, 1) := by decide +kernel
theorem d_152_11 : decode (cM 152) 11 = .ok (.goto 4, 3) := by decide +kernel
theorem d_152_14 : decode (cM 152) 14 = .ok (.iconst 0, 1) := by decide +kernel
theorem d_152_15 : decode (cM 152) 15 = .ok (.ireturn, 1) := by decide +kernel
theorem d_153_0 : decode (cM 153) 0 = .ok (.iload_n 0, 1) := by decide +kernel
theorem d_153_1 : decode (cM 153) 1 = .ok (.iload_n 1, 1) := by decide +kernel
theorem d_153_2 : decode (cM 153) 2 = .ok (.ishr, 1) := by decide +kernel
theorem d_153_3 : decode (cM 153) 3 = .ok (.iconst 1, 1) := by decide +kernel
theorem d_153_4 : decode (cM 153) 4 = .ok (.iand, 1) := by decide +kernel
theorem d_153_5 : decode (cM 153) 5 = .ok (.iconst 1, 1) := by decide +kernel
theorem d_153_6 : decode (cM 153) 6 = .ok (.if_icmp .ne 7, 3) := by decide +kernel
theorem d_153_9 : decode (cM 153) 9 = .ok (.iconst 1, 1) := by decide +kernel
theorem d_153_10 : decode (cM 153) 10 = .ok (.goto 4, 3) := by decide +kernel
theorem d_153_13 : decode (cM 153) 13 = .ok (.iconst 0, 1) := by decide +kernel
theorem d_153_14 : decode (cM 153) 14 = .ok (.ireturn, 1) := by decide +kernel
theorem d_154_0 : decode (cM 154) 0 = .ok (.aload_n 0, 1) := by decide +kernel
theorem d_154_1 : decode (cM 154) 1 = .ok (.iload_n 1, 1) := by decide +kernel
theorem d_154_2 : decode (cM 154) 2 = .ok (.putfield 148, 3) := by decide +kernel
theorem d_154_5 : decode (cM 154) 5 = .ok (.aload_n 0, 1) := by decide +kernel
theorem d_154_6 : decode (cM 154) 6 = .ok (.aload_n 0, 1) := by decide +kernel
theorem d_154_7 : decode (cM 154) 7 = .ok (.getfield 151, 3) := by decide +kernel
theorem d_154_10 : decode (cM 154) 10 = .ok (.putfield 16, 3) := by decide +kernel
theorem d_154_13 : decode (cM 154) 13 = .ok (.iconst 0, 1) := by decide +kernel
theorem d_154_14 : decode (cM 154) 14 = .ok (.ireturn, 1) := by decide +kernel
theorem d_155_0 : decode (cM 155) 0 = .ok (.iconst 0, 1) := by decide +kernel
theorem d_155_1 : decode (cM 155) 1 = .ok (.istore_n 3, 1) := by decide +kernel
theorem d_155_2 : decode (cM 155) 2 = .ok (.iconst 0, 1) := by decide +kernel
theorem d_155_3 : decode (cM 155) 3 = .ok (.istore 4, 2) := by decide +kernel
theorem d_155_5 : decode (cM 155) 5 = .ok (.iload 4, 2) := by decide +kernel
theorem d_155_7 : decode (cM 155) 7 = .ok (.aload_n 0, 1) := by decide +kernel
theorem d_155_8 : decode (cM 155) 8 = .ok (.getfield 13, 3) := by decide +kernel
theorem d_155_11 : decode (cM 155) 11 = .ok (.arraylength, 1) := by decide +kernel
theorem d_155_12 : decode (cM 155) 12 = .ok (.if_icmp .ge 114, 3) := by decide +kernel
theorem d_155_15 : decode (cM 155) 15 = .ok (.iconst 0, 1) := by decide +kernel
theorem d_155_16 : decode (cM 155) 16 = .ok (.istore 5, 2) := by decide +kernel
theorem d_155_18 : decode (cM 155) 18 = .ok (.aload_n 0, 1) := by decide +kernel
theorem d_155_19 : decode (cM 155) 19 = .ok (.getfield 13, 3) := by decide +kernel
theorem d_155_22 : decode (cM 155) 22 = .ok (.iload 4, 2) := by decide +kernel
theorem d_155_24 : decode (cM 155) 24 = .ok (.iload 5, 2) := by decide +kernel
theorem d_155_26 : decode (cM 155) 26 = .ok (.iadd, 1) := by decide +kernel
theorem d_155_27 : decode (cM 155) 27 = .ok (.iaload, 1) := by decide +kernel
theorem d_155_28 : decode (cM 155) 28 = .ok (.bipush 32, 2) := by decide +kernel
theorem d_155_30 : decode (cM 155) 30 = .ok (.if_icmp .eq 9, 3) := by decide +kernel
theorem d_155_33 : decode (cM 155) 33 = .ok (.iinc 5 1, 3) := by decide +kernel
theorem d_155_36 : decode (cM 155) 36 = .ok (.goto (-18), 3) := by decide +kernel
theorem d_155_39 : decode (cM 155) 39 = .ok (.iload 5, 2) := by decide +kernel
theorem d_155_41 : decode (cM 155) 41 = .ok (.iload_n 2, 1) := by decide +kernel
theorem d_155_42 : decode (cM 155) 42 = .ok (.iload_n 1, 1) := by decide +kernel
theorem d_155_43 : decode (cM 155) 43 = .ok (.isub, 1) := by decide +kernel
theorem d_155_44 : decode (cM 155) 44 = .ok (.if_icmp .ne 7, 3) := by decide +kernel
theorem d_155_47 : decode (cM 155) 47 = .ok (.iconst 1, 1) := by decide +kernel
theorem d_155_48 : decode (cM 155) 48 = .ok (.goto 4, 3) := by decide +kernel
theorem d_155_51 : decode (cM 155) 51 = .ok (.iconst 0, 1) := by decide +kernel
theorem d_155_52 : decode (cM 155) 52 = .ok (.istore 6, 2) := by decide +kernel
theorem d_155_54 : decode (cM 155) 54 = .ok (.iconst 0, 1) := by decide +kernel
theorem d_155_55 : decode (cM 155) 55 = .ok (.istore 7, 2) := by decide +kernel
theorem d_155_57 : decode (cM 155) 57 = .ok (.iload 7, 2) := by decide +kernel
theorem d_155_59 : decode (cM 155) 59 = .ok (.iload 5, 2) := by decide +kernel
theorem d_155_61 : decode (cM 155) 61 = .ok (.if_icmp .ge 43, 3) := by decide +kernel
theorem d_155_64 : decode (cM 155) 64 = .ok (.iload 6, 2) := by decide +kernel
theorem d_155_66 : decode (cM 155) 66 = .ok (.ifCond .eq 38, 3) := by decide +kernel
theorem d_155_69 : decode (cM 155) 69 = .ok (.aload_n 0, 1) := by decide +kernel
theorem d_155_70 : decode (cM 155) 70 = .ok (.getfield 13, 3) := by decide +kernel
theorem d_155_73 : decode (cM 155) 73 = .ok (.iload 4, 2) := by decide +kernel
theorem d_155_75 : decode (cM 155) 75 = .ok (.iload 7, 2) := by decide +kernel
theorem d_155_77 : decode (cM 155) 77 = .ok (.iadd, 1) := by decide +kernel
theorem d_155_78 : decode (cM 155) 78 = .ok (.iaload, 1) := by decide +kernel
theorem d_155_79 : decode (cM 155) 79 = .ok (.aload_n 0, 1) := by decide +kernel
theorem d_155_80 : decode (cM 155) 80 = .ok (.getfield 7, 3) := by decide +kernel
theorem d_155_83 : decode (cM 155) 83 = .ok (.iload_n 1, 1) := by decide +kernel
theorem d_155_84 : decode (cM 155) 84 = .ok (.iload 7, 2) := by decide +kernel
theorem d_155_86 : decode (cM 155) 86 = .ok (.iadd, 1) := by decide +kernel
theorem d_155_87 : decode (cM 155) 87 = .ok (.iaload, 1) := by decide +kernel
theorem d_155_88 : decode (cM 155) 88 = .ok (.if_icmp .ne 7, 3) := by decide +kernel
theorem d_155_91 : decode (cM 155) 91 = .ok (.iconst 1, 1) := by decide +kernel
theorem d_155_92 : decode (cM 155) 92 = .ok (.goto 4, 3) := by decide +kernel
theorem d_155_95 : decode (cM 155) 95 = .ok (.iconst 0, 1) := by decide +kernel
theorem d_155_96 : decode (cM 155) 96 = .ok (.istore 6, 2) := by decide +kernel
theorem d_155_98 : decode (cM 155) 98 = .ok (.iinc 7 1, 3) := by decide +kernel
theorem d_155_101 : decode (cM 155) 101 = .ok (.goto (-44), 3) := by decide +kernel
theorem d_155_104 : decode (cM 155) 104 = .ok (.iload 6, 2) := by decide +kernel
theorem d_155_106 : decode (cM 155) 106 = .ok (.ifCond .eq 5, 3) := by decide +kernel
theorem d_155_109 : decode (cM 155) 109 = .ok (.iload_n 3, 1) := by decide +kernel
theorem d_155_110 : decode (cM 155) 110 = .ok (.ireturn, 1) := by decide +kernel
theorem d_155_111 : decode (cM 155) 111 = .ok (.iload 4, 2) := by decide +kernel
theorem d_155_113 : decode (cM 155) 113 = .ok (.iload 5, 2) := by decide +kernel
theorem d_155_115 : decode (cM 155) 115 = .ok (.iconst 1, 1) := by decide +kernel
theorem d_155_116 : decode (cM 155) 116 = .ok (.iadd, 1) := by decide +kernel
theorem d_155_117 : decode (cM 155) 117 = .ok (.iadd, 1) := by decide +kernel
theorem d_155_118 : decode (cM 155) 118 = .ok (.istore 4, 2) := by decide +kernel
theorem d_155_120 : decode (cM 155) 120 = .ok (.iinc 3 1, 3) := by decide +kernel
theorem d_155_123 : decode (cM 155) 123 = .ok (.goto (-118), 3) := by decide +kernel
theorem d_155_126 : decode (cM 155) 126 = .ok (.iconst (-1), 1) := by decide +kernel
theorem d_155_127 : decode (cM 155) 127 = .ok (.ireturn, 1) := by decide +kernel
theorem d_156_0 : decode (cM 156) 0 = .ok (.iload_n 1, 1) := by decide +kernel
theorem d_156_1 : decode (cM 156) 1 = .ok (.aload_n 0, 1) := by decide +kernel
theorem d_156_2 : decode (cM 156) 2 = .ok (.getfield 154, 3) := by decide +kernel
theorem d_156_5 : decode (cM 156) 5 = .ok (.if_icmp .ge 29, 3) := by decide +kernel
theorem d_156_8 : decode (cM 156) 8 = .ok (.aload_n 0, 1) := by decide +kernel
theorem d_156_9 : decode (cM 156) 9 = .ok (.getfield 7, 3) := by decide +kernel
theorem d_156_12 : decode (cM 156) 12 = .ok (.iload_n 1, 1) := by decide +kernel
theorem d_156_13 : decode (cM 156) 13 = .ok (.iaload, 1) := by decide +kernel
theorem d_156_14 : decode (cM 156) 14 = .ok (.bipush 97, 2) := by decide +kernel
theorem d_156_16 : decode (cM 156) 16 = .ok (.if_icmp .lt 18, 3) := by decide +kernel
theorem d_156_19 : decode (cM 156) 19 = .ok (.aload_n 0, 1) := by decide +kernel
theorem d_156_20 : decode (cM 156) 20 = .ok (.getfield 7, 3) := by decide +kernel
theorem d_156_23 : decode (cM 156) 23 = .ok (.iload_n 1, 1) := by decide +kernel
theorem d_156_24 : decode (cM 156) 24 = .ok (.iaload, 1) := by decide +kernel
theorem d_156_25 : decode (cM 156) 25 = .ok (.bipush 122, 2) := by decide +kernel
theorem d_156_27 : decode (cM 156) 27 = .ok (.if_icmp .gt 7, 3) := by decide +kernel
theorem d_156_30 : decode (cM 156) 30 = .ok (.iconst 1, 1) := by decide +kernel
theorem d_156_31 : decode (cM 156) 31 = .ok (.goto 4, 3) := by decide +kernel
theorem d_156_34 : decode (cM 156) 34 = .ok (.iconst 0, 1) := by decide +kernel
theorem d_156_35 : decode (cM 156) 35 = .ok (.ireturn, 1) := by decide +kernel
theorem d_157_0 : decode (cM 157) 0 = .ok (.iload_n 1, 1) := by decide +kernel
theorem d_157_1 : decode (cM 157) 1 = .ok (.aload_n 0, 1) := by decide +kernel
theorem d_157_2 : decode (cM 157) 2 = .ok (.getfield 154, 3) := by decide +kernel
theorem d_157_5 : decode (cM 157) 5 = .ok (.if_icmp .ge 29, 3) := by decide +kernel
theorem d_157_8 : decode (cM 157) 8 = .ok (.aload_n 0, 1) := by decide +kernel
theorem d_157_9 : decode (cM 157) 9 = .ok (.getfield 7, 3) := by decide +kernel
theorem d_157_12 : decode (cM 157) 12 = .ok (.iload_n 1, 1) := by decide +kernel
theorem d_157_13 : decode (cM 157) 13 = .ok (.iaload, 1) := by decide +kernel
theorem d_157_14 : decode (cM 157) 14 = .ok (.bipush 48, 2) := by decide +kernel
theorem d_157_16 : decode (cM 157) 16 = .ok (.if_icmp .lt 18, 3) := by decide +kernel
theorem d_157_19 : decode (cM 157) 19 = .ok (.aload_n 0, 1) := by decide +kernel
theorem d_157_20 : decode (cM 157) 20 = .ok (.getfield 7, 3) := by decide +kernel
theorem d_157_23 : decode (cM 157) 23 = .ok (.iload_n 1, 1) := by decide +kernel
theorem d_157_24 : decode (cM 157) 24 = .ok (.iaload, 1) := by decide +kernel
theorem d_157_25 : decode (cM 157) 25 = .ok (.bipush 57, 2) := by decide +kernel
theorem d_157_27 : decode (cM 157) 27 = .ok (.if_icmp .gt 7, 3) := by decide +kernel
theorem d_157_30 : decode (cM 157) 30 = .ok (.iconst 1, 1) := by decide +kernel
theorem d_157_31 : decode (cM 157) 31 = .ok (.goto 4, 3) := by decide +kernel
theorem d_157_34 : decode (cM 157) 34 = .ok (.iconst 0, 1) := by decide +kernel
theorem d_157_35 : decode (cM 157) 35 = .ok (.ireturn, 1) := by decide +kernel
theorem d_158_0 : decode (cM 158) 0 = .ok (.aload_n 0, 1) := by decide +kernel
theorem d_158_1 : decode (cM 158) 1 = .ok (.getfield 157, 3) := by decide +kernel
theorem d_158_4 : decode (cM 158) 4 = .ok (.aload_n 0, 1) := by decide +kernel
theorem d_158_5 : decode (cM 158) 5 = .ok (.getfield 154, 3) := by decide +kernel
theorem d_158_8 : decode (cM 158) 8 = .ok (.if_icmp .ge 44, 3) := by decide +kernel
theorem d_158_11 : decode (cM 158) 11 = .ok (.aload_n 0, 1) := by decide +kernel
theorem d_158_12 : decode (cM 158) 12 = .ok (.getfield 7, 3) := by decide +kernel
theorem d_158_15 : decode (cM 158) 15 = .ok (.aload_n 0, 1) := by decide +kernel
theorem d_158_16 : decode (cM 158) 16 = .ok (.getfield 157, 3) := by decide +kernel
theorem d_158_19 : decode (cM 158) 19 = .ok (.iaload, 1) := by decide +kernel
theorem d_158_20 : decode (cM 158) 20 = .ok (.bipush 10, 2) := by decide +kernel
theorem d_158_22 : decode (cM 158) 22 = .ok (.if_icmp .eq 17, 3) := by decide +kernel
theorem d_158_25 : decode (cM 158) 25 = .ok (.aload_n 0, 1) := by decide +kernel
theorem d_158_26 : decode (cM 158) 26 = .ok (.getfield 7, 3) := by decide +kernel
theorem d_158_29 : decode (cM 158) 29 = .ok (.aload_n 0, 1) := by decide +kernel
theorem d_158_30 : decode (cM 158) 30 = .ok (.getfield 157, 3) := by decide +kernel
theorem d_158_33 : decode (cM 158) 33 = .ok (.iaload, 1) := by decide +kernel
theorem d_158_34 : decode (cM 158) 34 = .ok (.bipush 32, 2) := by decide +kernel
theorem d_158_36 : decode (cM 158) 36 = .ok (.if_icmp .ne 16, 3) := by decide +kernel
theorem d_158_39 : decode (cM 158) 39 = .ok (.aload_n 0, 1) := by decide +kernel
theorem d_158_40 : decode (cM 158) 40 = .ok (.dup, 1) := by decide +kernel
theorem d_158_41 : decode (cM 158) 41 = .ok (.getfield 157, 3) := by decide +kernel
theorem d_158_44 : decode (cM 158) 44 = .ok (.iconst 1, 1) := by decide +kernel
theorem d_158_45 : decode (cM 158) 45 = .ok (.iadd, 1) := by decide +kernel
theorem d_158_46 : decode (cM 158) 46 = .ok (.putfield 157, 3) := by decide +kernel
theorem d_158_49 : decode (cM 158) 49 = .ok (.goto (-49), 3) := by decide +kernel
theorem d_158_52 : decode (cM 158) 52 = .ok (.aload_n 0, 1) := by decide +kernel
theorem d_158_53 : decode (cM 158) 53 = .ok (.aload_n 0, 1) := by decide +kernel
theorem d_158_54 : decode (cM 158) 54 = .ok (.getfield 157, 3) := by decide +kernel
theorem d_158_57 : decode (cM 158) 57 = .ok (.putfield 151, 3) := by decide +kernel
theorem d_158_60 : decode (cM 158) 60 = .ok (.aload_n 0, 1) := by decide +kernel
theorem d_158_61 : decode (cM 158) 61 = .ok (.getfield 157, 3) := by decide +kernel
theorem d_158_64 : decode (cM 158) 64 = .ok (.aload_n 0, 1) := by decide +kernel
theorem d_158_65 : decode (cM 158) 65 = .ok (.getfield 154, 3) := by decide +kernel
theorem d_158_68 : decode (cM 158) 68 = .ok (.if_icmp .ne 11, 3) := by decide +kernel
theorem d_158_71 : decode (cM 158) 71 = .ok (.aload_n 0, 1) := by decide +kernel
theorem d_158_72 : decode (cM 158) 72 = .ok (.iconst 0, 1) := by decide +kernel
theorem d_158_73 : decode (cM 158) 73 = .ok (.putfield 160, 3) := by decide +kernel
theorem d_158_76 : decode (cM 158) 76 = .ok (.goto 205, 3) := by decide +kernel
theorem d_158_79 : decode (cM 158) 79 = .ok (.aload_n 0, 1) := by decide +kernel
theorem d_158_80 : decode (cM 158) 80 = .ok (.aload_n 0, 1) := by decide +kernel
theorem d_158_81 : decode (cM 158) 81 = .ok (.getfield 157, 3) := by decide +kernel
theorem d_158_84 : decode (cM 158) 84 = .ok (.invokevirtual 163, 3) := by decide +kernel
theorem kc_158_84 : callT (oM 158) 163 = some (0, 156, 1) ∧ fok 158 156 = true ∧ stM 156 = false := by decide +kernel
theorem d_158_87 : decode (cM 158) 87 = .ok (.ifCond .eq 105, 3) := by decide +kernel
theorem d_158_90 : decode (cM 158) 90 = .ok (.aload_n 0, 1) := by decide +kernel
theorem d_158_91 : decode (cM 158) 91 = .ok (.aload_n 0, 1) := by decide +kernel
theorem d_158_92 : decode (cM 158) 92 = .ok (.getfield 157, 3) := by decide +kernel
theorem d_158_95 : decode (cM 158) 95 = .ok (.invokevirtual 163, 3) := by decide +kernel
theorem kc_158_95 : callT (oM 158) 163 = some (0, 156, 1) ∧ fok 158 156 = true ∧ stM 156 = false := by decide +kernel
theorem d_158_98 : decode (cM 158) 98 = .ok (.ifCond .eq 16, 3) := by decide +kernel
theorem d_158_101 : decode (cM 158) 101 = .ok (.aload_n 0, 1) := by decide +kernel
theorem d_158_102 : decode (cM 158) 102 = .ok (.dup, 1) := by decide +kernel
theorem d_158_103 : decode (cM 158) 103 = .ok (.getfield 157, 3) := by decide +kernel
theorem d_158_106 : decode (cM 158) 106 = .ok (.iconst 1, 1) := by decide +kernel
theorem d_158_107 : decode (cM 158) 107 = .ok (.iadd, 1) := by decide +kernel
theorem d_158_108 : decode (cM 158) 108 = .ok (.putfield 157, 3) := by decide +kernel
theorem d_158_111 : decode (cM 158) 111 = .ok (.goto (-21), 3) := by decide +kernel
theorem d_158_114 : decode (cM 158) 114 = .ok (.aload_n 0, 1) := by decide +kernel
theorem d_158_115 : decode (cM 158) 115 = .ok (.aload_n 0, 1) := by decide +kernel
theorem d_158_116 : decode (cM 158) 116 = .ok (.aload_n 0, 1) := by decide +kernel
theorem d_158_117 : decode (cM 158) 117 = .ok (.getfield 151, 3) := by decide +kernel
theorem d_158_120 : decode (cM 158) 120 = .ok (.aload_n 0, 1) := by decide +kernel
theorem d_158_121 : decode (cM 158) 121 = .ok (.getfield 157, 3) := by decide +kernel
theorem d_158_124 : decode (cM 158) 124 = .ok (.invokevirtual 167, 3) := by decide +kernel
theorem kc_158_124 : callT (oM 158) 167 = some (0, 155, 2) ∧ fok 158 155 = true ∧ stM 155 = false := by decide +kernel
theorem d_158_127 : decode (cM 158) 127 = .ok (.putfield 171, 3) := by decide +kernel
theorem d_158_130 : decode (cM 158) 130 = .ok (.aload_n 0, 1) := by decide +kernel
theorem d_158_131 : decode (cM 158) 131 = .ok (.aload_n 0, 1) := by decide +kernel
theorem d_158_132 : decode (cM 158) 132 = .ok (.getfield 171, 3) := by decide +kernel
theorem d_158_135 : decode (cM 158) 135 = .ok (.ifCond .lt 7, 3) := by decide +kernel
theorem d_158_138 : decode (cM 158) 138 = .ok (.iconst 1, 1) := by decide +kernel
theorem d_158_139 : decode (cM 158) 139 = .ok (.goto 23, 3) := by decide +kernel
theorem d_158_142 : decode (cM 158) 142 = .ok (.aload_n 0, 1) := by decide +kernel
theorem d_158_143 : decode (cM 158) 143 = .ok (.getfield 157, 3) := by decide +kernel
theorem d_158_146 : decode (cM 158) 146 = .ok (.aload_n 0, 1) := by decide +kernel
theorem d_158_147 : decode (cM 158) 147 = .ok (.getfield 151, 3) := by decide +kernel
theorem d_158_150 : decode (cM 158) 150 = .ok (.isub, 1) := by decide +kernel
theorem d_158_151 : decode (cM 158) 151 = .ok (.bipush 6, 2) := by decide +kernel
theorem d_158_153 : decode (cM 158) 153 = .ok (.if_icmp .le 8, 3) := by decide +kernel
theorem d_158_156 : decode (cM 158) 156 = .ok (.bipush 6, 2) := by decide +kernel
theorem d_158_158 : decode (cM 158) 158 = .ok (.goto 4, 3) := by decide +kernel
theorem d_158_161 : decode (cM 158) 161 = .ok (.iconst 2, 1) := by decide +kernel
theorem d_158_162 : decode (cM 158) 162 = .ok (.putfield 160, 3) := by decide +kernel
theorem d_158_165 : decode (cM 158) 165 = .ok (.aload_n 0, 1) := by decide +kernel
theorem d_158_166 : decode (cM 158) 166 = .ok (.getfield 160, 3) := by decide +kernel
theorem d_158_169 : decode (cM 158) 169 = .ok (.iconst 2, 1) := by decide +kernel
theorem d_158_170 : decode (cM 158) 170 = .ok (.if_icmp .ne 111, 3) := by decide +kernel
theorem d_158_173 : decode (cM 158) 173 = .ok (.aload_n 0, 1) := by decide +kernel
theorem d_158_174 : decode (cM 158) 174 = .ok (.aload_n 0, 1) := by decide +kernel
theorem d_158_175 : decode (cM 158) 175 = .ok (.aload_n 0, 1) := by decide +kernel
theorem d_158_176 : decode (cM 158) 176 = .ok (.getfield 151, 3) := by decide +kernel
theorem d_158_179 : decode (cM 158) 179 = .ok (.aload_n 0, 1) := by decide +kernel
theorem d_158_180 : decode (cM 158) 180 = .ok (.getfield 157, 3) := by decide +kernel
theorem d_158_183 : decode (cM 158) 183 = .ok (.invokevirtual 174, 3) := by decide +kernel
theorem kc_158_183 : callT (oM 158) 174 = some (0, 160, 2) ∧ fok 158 160 = true ∧ stM 160 = false := by decide +kernel
theorem d_158_186 : decode (cM 158) 186 = .ok (.putfield 171, 3) := by decide +kernel
theorem d_158_189 : decode (cM 158) 189 = .ok (.goto 92, 3) := by decide +kernel
theorem d_158_192 : decode (cM 158) 192 = .ok (.aload_n 0, 1) := by decide +kernel
theorem d_158_193 : decode (cM 158) 193 = .ok (.aload_n 0, 1) := by decide +kernel
theorem d_158_194 : decode (cM 158) 194 = .ok (.getfield 157, 3) := by decide +kernel
theorem d_158_197 : decode (cM 158) 197 = .ok (.invokevirtual 177, 3) := by decide +kernel
theorem kc_158_197 : callT (oM 158) 177 = some (0, 157, 1) ∧ fok 158 157 = true ∧ stM 157 = false := by decide +kernel
theorem d_158_200 : decode (cM 158) 200 = .ok (.ifCond .eq 77, 3) := by decide +kernel
theorem d_158_203 : decode (cM 158) 203 = .ok (.aload_n 0, 1) := by decide +kernel
theorem d_158_204 : decode (cM 158) 204 = .ok (.iconst 3, 1) := by decide +kernel
theorem d_158_205 : decode (cM 158) 205 = .ok (.putfield 160, 3) := by decide +kernel
theorem d_158_208 : decode (cM 158) 208 = .ok (.aload_n 0, 1) := by decide +kernel
theorem d_158_209 : decode (cM 158) 209 = .ok (.iconst 0, 1) := by decide +kernel
theorem d_158_210 : decode (cM 158) 210 = .ok (.putfield 171, 3) := by decide +kernel
theorem d_158_213 : decode (cM 158) 213 = .ok (.aload_n 0, 1) := by decide +kernel
theorem d_158_214 : decode (cM 158) 214 = .ok (.aload_n 0, 1) := by decide +kernel
theorem d_158_215 : decode (cM 158) 215 = .ok (.getfield 157, 3) := by decide +kernel
theorem d_158_218 : decode (cM 158) 218 = .ok (.invokevirtual 177, 3) := by decide +kernel
theorem kc_158_218 : callT (oM 158) 177 = some (0, 157, 1) ∧ fok 158 157 = true ∧ stM 157 = false := by decide +kernel
theorem d_158_221 : decode (cM 158) 221 = .ok (.ifCond .eq 60, 3) := by decide +kernel
theorem d_158_224 : decode (cM 158) 224 = .ok (.aload_n 0, 1) := by decide +kernel
theorem d_158_225 : decode (cM 158) 225 = .ok (.aload_n 0, 1) := by decide +kernel
theorem d_158_226 : decode (cM 158) 226 = .ok (.getfield 171, 3) := by decide +kernel
theorem d_158_229 : decode (cM 158) 229 = .ok (.ldc 180, 2) := by decide +kernel
theorem d_158_231 : decode (cM 158) 231 = .ok (.if_icmp .le 10, 3) := by decide +kernel
theorem d_158_234 : decode (cM 158) 234 = .ok (.aload_n 0, 1) := by decide +kernel
theorem d_158_235 : decode (cM 158) 235 = .ok (.getfield 171, 3) := by decide +kernel
theorem d_158_238 : decode (cM 158) 238 = .ok (.goto 23, 3) := by decide +kernel
theorem d_158_241 : decode (cM 158) 241 = .ok (.bipush 10, 2) := by decide +kernel
theorem d_158_243 : decode (cM 158) 243 = .ok (.aload_n 0, 1) := by decide +kernel
theorem d_158_244 : decode (cM 158) 244 = .ok (.getfield 171, 3) := by decide +kernel
theorem d_158_247 : decode (cM 158) 247 = .ok (.imul, 1) := by decide +kernel
theorem d_158_248 : decode (cM 158) 248 = .ok (.aload_n 0, 1) := by decide +kernel
theorem d_158_249 : decode (cM 158) 249 = .ok (.getfield 7, 3) := by decide +kernel
theorem d_158_252 : decode (cM 158) 252 = .ok (.aload_n 0, 1) := by decide +kernel
theorem d_158_253 : decode (cM 158) 253 = .ok (.getfield 157, 3) := by decide +kernel
theorem d_158_256 : decode (cM 158) 256 = .ok (.iaload, 1) := by decide +kernel
theorem d_158_257 : decode (cM 158) 257 = .ok (.iadd, 1) := by decide +kernel
theorem d_158_258 : decode (cM 158) 258 = .ok (.bipush 48, 2) := by decide +kernel
theorem d_158_260 : decode (cM 158) 260 = .ok (.isub, 1) := by decide +kernel
theorem d_158_261 : decode (cM 158) 261 = .ok (.putfield 171, 3) := by decide +kernel
theorem d_158_264 : decode (cM 158) 264 = .ok (.aload_n 0, 1) := by decide +kernel
theorem d_158_265 : decode (cM 158) 265 = .ok (.dup, 1) := by decide +kernel
theorem d_158_266 : decode (cM 158) 266 = .ok (.getfield 157, 3) := by decide +kernel
theorem d_158_269 : decode (cM 158) 269 = .ok (.iconst 1, 1) := by decide +kernel
theorem d_158_270 : decode (cM 158) 270 = .ok (.iadd, 1) := by decide +kernel
theorem d_158_271 : decode (cM 158) 271 = .ok (.putfield 157, 3) := by decide +kernel
theorem d_158_274 : decode (cM 158) 274 = .ok (.goto (-61), 3) := by decide +kernel
theorem d_158_277 : decode (cM 158) 277 = .ok (.aload_n 0, 1) := by decide +kernel
theorem d_158_278 : decode (cM 158) 278 = .ok (.invokevirtual 181, 3) := by decide +kernel
theorem kc_158_278 : callT (oM 158) 181 = some (0, 159, 0) ∧ fok 158 159 = true ∧ stM 159 = false := by decide +kernel
theorem d_158_281 : decode (cM 158) 281 = .ok (.return_, 1) := by decide +kernel
theorem d_159_0 : decode (cM 159) 0 = .ok (.aload_n 0, 1) := by decide +kernel
theorem d_159_1 : decode (cM 159) 1 = .ok (.aload_n 0, 1) := by decide +kernel
theorem d_159_2 : decode (cM 159) 2 = .ok (.getfield 7, 3) := by decide +kernel
theorem d_159_5 : decode (cM 159) 5 = .ok (.aload_n 0, 1) := by decide +kernel
theorem d_159_6 : decode (cM 159) 6 = .ok (.getfield 157, 3) := by decide +kernel
theorem d_159_9 : decode (cM 159) 9 = .ok (.iaload, 1) := by decide +kernel
theorem d_159_10 : decode (cM 159) 10 = .ok (.putfield 171, 3) := by decide +kernel
theorem d_159_13 : decode (cM 159) 13 = .ok (.aload_n 0, 1) := by decide +kernel
theorem d_159_14 : decode (cM 159) 14 = .ok (.dup, 1) := by decide +kernel
theorem d_159_15 : decode (cM 159) 15 = .ok (.getfield 157, 3) := by decide +kernel
theorem d_159_18 : decode (cM 159) 18 = .ok (.iconst 1, 1) := by decide +kernel
theorem d_159_19 : decode (cM 159) 19 = .ok (.iadd, 1) := by decide +kernel
theorem d_159_20 : decode (cM 159) 20 = .ok (.putfield 157, 3) := by decide +kernel
theorem d_159_23 : decode (cM 159) 23 = .ok (.aload_n 0, 1) := by decide +kernel
theorem d_159_24 : decode (cM 159) 24 = .ok (.getfield 171, 3) := by decide +kernel
theorem d_159_27 : decode (cM 159) 27 = .ok (.bipush 60, 2) := by decide +kernel
theorem d_159_29 : decode (cM 159) 29 = .ok (.if_icmp .eq 21, 3) := by decide +kernel
theorem d_159_32 : decode (cM 159) 32 = .ok (.aload_n 0, 1) := by decide +kernel
theorem d_159_33 : decode (cM 159) 33 = .ok (.getfield 171, 3) := by decide +kernel
theorem d_159_36 : decode (cM 159) 36 = .ok (.bipush 62, 2) := by decide +kernel
theorem d_159_38 : decode (cM 159) 38 = .ok (.if_icmp .eq 12, 3) := by decide +kernel
theorem d_159_41 : decode (cM 159) 41 = .ok (.aload_n 0, 1) := by decide +kernel
theorem d_159_42 : decode (cM 159) 42 = .ok (.getfield 171, 3) := by decide +kernel
theorem d_159_45 : decode (cM 159) 45 = .ok (.bipush 61, 2) := by decide +kernel
theorem d_159_47 : decode (cM 159) 47 = .ok (.if_icmp .ne 151, 3) := by decide +kernel
theorem d_159_50 : decode (cM 159) 50 = .ok (.aload_n 0, 1) := by decide +kernel
theorem d_159_51 : decode (cM 159) 51 = .ok (.getfield 157, 3) := by decide +kernel
theorem d_159_54 : decode (cM 159) 54 = .ok (.aload_n 0, 1) := by decide +kernel
theorem d_159_55 : decode (cM 159) 55 = .ok (.getfield 154, 3) := by decide +kernel
theorem d_159_58 : decode (cM 159) 58 = .ok (.if_icmp .ge 15, 3) := by decide +kernel
theorem d_159_61 : decode (cM 159) 61 = .ok (.aload_n 0, 1) := by decide +kernel
theorem d_159_62 : decode (cM 159) 62 = .ok (.getfield 7, 3) := by decide +kernel
theorem d_159_65 : decode (cM 159) 65 = .ok (.aload_n 0, 1) := by decide +kernel
theorem d_159_66 : decode (cM 159) 66 = .ok (.getfield 157, 3) := by decide +kernel
theorem d_159_69 : decode (cM 159) 69 = .ok (.iaload, 1) := by decide +kernel
theorem d_159_70 : decode (cM 159) 70 = .ok (.goto 4, 3) := by decide +kernel
theorem d_159_73 : decode (cM 159) 73 = .ok (.iconst 0, 1) := by decide +kernel
theorem d_159_74 : decode (cM 159) 74 = .ok (.istore_n 1, 1) := by decide +kernel
theorem d_159_75 : decode (cM 159) 75 = .ok (.aload_n 0, 1) := by decide +kernel
theorem d_159_76 : decode (cM 159) 76 = .ok (.getfield 171, 3) := by decide +kernel
theorem d_159_79 : decode (cM 159) 79 = .ok (.bipush 61, 2) := by decide +kernel
theorem d_159_81 : decode (cM 159) 81 = .ok (.if_icmp .eq 13, 3) := by decide +kernel
theorem d_159_84 : decode (cM 159) 84 = .ok (.iload_n 1, 1) := by decide +kernel
theorem d_159_85 : decode (cM 159) 85 = .ok (.bipush 61, 2) := by decide +kernel
theorem d_159_87 : decode (cM 159) 87 = .ok (.if_icmp .ne 7, 3) := by decide +kernel
theorem d_159_90 : decode (cM 159) 90 = .ok (.iconst 1, 1) := by decide +kernel
theorem d_159_91 : decode (cM 159) 91 = .ok (.goto 4, 3) := by decide +kernel
theorem d_159_94 : decode (cM 159) 94 = .ok (.iconst 0, 1) := by decide +kernel
theorem d_159_95 : decode (cM 159) 95 = .ok (.istore_n 2, 1) := by decide +kernel
theorem d_159_96 : decode (cM 159) 96 = .ok (.aload_n 0, 1) := by decide +kernel
theorem d_159_97 : decode (cM 159) 97 = .ok (.getfield 171, 3) := by decide +kernel
theorem d_159_100 : decode (cM 159) 100 = .ok (.bipush 60, 2) := by decide +kernel
theorem d_159_102 : decode (cM 159) 102 = .ok (.if_icmp .ne 13, 3) := by decide +kernel
theorem d_159_105 : decode (cM 159) 105 = .ok (.iload_n 1, 1) := by decide +kernel
theorem d_159_106 : decode (cM 159) 106 = .ok (.bipush 62, 2) := by decide +kernel
theorem d_159_108 : decode (cM 159) 108 = .ok (.if_icmp .ne 7, 3) := by decide +kernel
theorem d_159_111 : decode (cM 159) 111 = .ok (.iconst 1, 1) := by decide +kernel
theorem d_159_112 : decode (cM 159) 112 = .ok (.goto 4, 3) := by decide +kernel
theorem d_159_115 : decode (cM 159) 115 = .ok (.iconst 0, 1) := by decide +kernel
theorem d_159_116 : decode (cM 159) 116 = .ok (.istore_n 3, 1) := by decide +kernel
theorem d_159_117 : decode (cM 159) 117 = .ok (.iload_n 2, 1) := by decide +kernel
theorem d_159_118 : decode (cM 159) 118 = .ok (.ifCond .ne 7, 3) := by decide +kernel
theorem d_159_121 : decode (cM 159) 121 = .ok (.iload_n 3, 1) := by decide +kernel
theorem d_159_122 : decode (cM 159) 122 = .ok (.ifCond .eq 13, 3) := by decide +kernel
theorem d_159_125 : decode (cM 159) 125 = .ok (.aload_n 0, 1) := by decide +kernel
theorem d_159_126 : decode (cM 159) 126 = .ok (.dup, 1) := by decide +kernel
theorem d_159_127 : decode (cM 159) 127 = .ok (.getfield 157, 3) := by decide +kernel
theorem d_159_130 : decode (cM 159) 130 = .ok (.iconst 1, 1) := by decide +kernel
theorem d_159_131 : decode (cM 159) 131 = .ok (.iadd, 1) := by decide +kernel
theorem d_159_132 : decode (cM 159) 132 = .ok (.putfield 157, 3) := by decide +kernel
theorem d_159_135 : decode (cM 159) 135 = .ok (.aload_n 0, 1) := by decide +kernel
theorem d_159_136 : decode (cM 159) 136 = .ok (.iconst 5, 1) := by decide +kernel
theorem d_159_137 : decode (cM 159) 137 = .ok (.putfield 160, 3) := by decide +kernel
theorem d_159_140 : decode (cM 159) 140 = .ok (.aload_n 0, 1) := by decide +kernel
theorem d_159_141 : decode (cM 159) 141 = .ok (.aload_n 0, 1) := by decide +kernel
theorem d_159_142 : decode (cM 159) 142 = .ok (.getfield 171, 3) := by decide +kernel
theorem d_159_145 : decode (cM 159) 145 = .ok (.bipush 61, 2) := by decide +kernel
theorem d_159_147 : decode (cM 159) 147 = .ok (.if_icmp .ne 7, 3) := by decide +kernel
theorem d_159_150 : decode (cM 159) 150 = .ok (.iconst 2, 1) := by decide +kernel
theorem d_159_151 : decode (cM 159) 151 = .ok (.goto 41, 3) := by decide +kernel
theorem d_159_154 : decode (cM 159) 154 = .ok (.aload_n 0, 1) := by decide +kernel
theorem d_159_155 : decode (cM 159) 155 = .ok (.getfield 171, 3) := by decide +kernel
theorem d_159_158 : decode (cM 159) 158 = .ok (.bipush 60, 2) := by decide +kernel
theorem d_159_160 : decode (cM 159) 160 = .ok (.if_icmp .ne 23, 3) := by decide +kernel
theorem d_159_163 : decode (cM 159) 163 = .ok (.iload_n 2, 1) := by decide +kernel
theorem d_159_164 : decode (cM 159) 164 = .ok (.ifCond .eq 7, 3) := by decide +kernel
theorem d_159_167 : decode (cM 159) 167 = .ok (.iconst 1, 1) := by decide +kernel
theorem d_159_168 : decode (cM 159) 168 = .ok (.goto 24, 3) := by decide +kernel
theorem d_159_171 : decode (cM 159) 171 = .ok (.iload_n 3, 1) := by decide +kernel
theorem d_159_172 : decode (cM 159) 172 = .ok (.ifCond .eq 7, 3) := by decide +kernel
theorem d_159_175 : decode (cM 159) 175 = .ok (.iconst 3, 1) := by decide +kernel
theorem d_159_176 : decode (cM 159) 176 = .ok (.goto 16, 3) := by decide +kernel
theorem d_159_179 : decode (cM 159) 179 = .ok (.iconst 0, 1) := by decide +kernel
theorem d_159_180 : decode (cM 159) 180 = .ok (.goto 12, 3) := by decide +kernel
theorem d_159_183 : decode (cM 159) 183 = .ok (.iload_n 2, 1) := by decide +kernel
theorem d_159_184 : decode (cM 159) 184 = .ok (.ifCond .eq 7, 3) := by decide +kernel
theorem d_159_187 : decode (cM 159) 187 = .ok (.iconst 4, 1) := by decide +kernel
theorem d_159_188 : decode (cM 159) 188 = .ok (.goto 4, 3) := by decide +kernel
theorem d_159_191 : decode (cM 159) 191 = .ok (.iconst 5, 1) := by decide +kernel
theorem d_159_192 : decode (cM 159) 192 = .ok (.putfield 171, 3) := by decide +kernel
theorem d_159_195 : decode (cM 159) 195 = .ok (.goto 95, 3) := by decide +kernel
theorem d_159_198 : decode (cM 159) 198 = .ok (.aload_n 0, 1) := by decide +kernel
theorem d_159_199 : decode (cM 159) 199 = .ok (.getfield 171, 3) := by decide +kernel
theorem d_159_202 : decode (cM 159) 202 = .ok (.bipush 59, 2) := by decide +kernel
theorem d_159_204 : decode (cM 159) 204 = .ok (.if_icmp .eq 66, 3) := by decide +kernel
theorem d_159_207 : decode (cM 159) 207 = .ok (.aload_n 0, 1) := by decide +kernel
theorem d_159_208 : decode (cM 159) 208 = .ok (.getfield 171, 3) := by decide +kernel
theorem d_159_211 : decode (cM 159) 211 = .ok (.bipush 40, 2) := by decide +kernel
theorem d_159_213 : decode (cM 159) 213 = .ok (.if_icmp .eq 57, 3) := by decide +kernel
theorem d_159_216 : decode (cM 159) 216 = .ok (.aload_n 0, 1) := by decide +kernel
theorem d_159_217 : decode (cM 159) 217 = .ok (.getfield 171, 3) := by decide +kernel
theorem d_159_220 : decode (cM 159) 220 = .ok (.bipush 41, 2) := by decide +kernel
theorem d_159_222 : decode (cM 159) 222 = .ok (.if_icmp .eq 48, 3) := by decide +kernel
theorem d_159_225 : decode (cM 159) 225 = .ok (.aload_n 0, 1) := by decide +kernel
theorem d_159_226 : decode (cM 159) 226 = .ok (.getfield 171, 3) := by decide +kernel
theorem d_159_229 : decode (cM 159) 229 = .ok (.bipush 43, 2) := by decide +kernel
theorem d_159_231 : decode (cM 159) 231 = .ok (.if_icmp .eq 39, 3) := by decide +kernel
theorem d_159_234 : decode (cM 159) 234 = .ok (.aload_n 0, 1) := by decide +kernel
theorem d_159_235 : decode (cM 159) 235 = .ok (.getfield 171, 3) := by decide +kernel
theorem d_159_238 : decode (cM 159) 238 = .ok (.bipush 45, 2) := by decide +kernel
theorem d_159_240 : decode (cM 159) 240 = .ok (.if_icmp .eq 30, 3) := by decide +kernel
theorem d_159_243 : decode (cM 159) 243 = .ok (.aload_n 0, 1) := by decide +kernel
theorem d_159_244 : decode (cM 159) 244 = .ok (.getfield 171, 3) := by decide +kernel
theorem d_159_247 : decode (cM 159) 247 = .ok (.bipush 42, 2) := by decide +kernel
theorem d_159_249 : decode (cM 159) 249 = .ok (.if_icmp .eq 21, 3) := by decide +kernel
theorem d_159_252 : decode (cM 159) 252 = .ok (.aload_n 0, 1) := by decide +kernel
theorem d_159_253 : decode (cM 159) 253 = .ok (.getfield 171, 3) := by decide +kernel
theorem d_159_256 : decode (cM 159) 256 = .ok (.bipush 47, 2) := by decide +kernel
theorem d_159_258 : decode (cM 159) 258 = .ok (.if_icmp .eq 12, 3) := by decide +kernel
theorem d_159_261 : decode (cM 159) 261 = .ok (.aload_n 0, 1) := by decide +kernel
theorem d_159_262 : decode (cM 159) 262 = .ok (.getfield 171, 3) := by decide +kernel
theorem d_159_265 : decode (cM 159) 265 = .ok (.bipush 37, 2) := by decide +kernel
theorem d_159_267 : decode (cM 159) 267 = .ok (.if_icmp .ne 7, 3) := by decide +kernel
theorem d_159_270 : decode (cM 159) 270 = .ok (.iconst 1, 1) := by decide +kernel
theorem d_159_271 : decode (cM 159) 271 = .ok (.goto 4, 3) := by decide +kernel
theorem d_159_274 : decode (cM 159) 274 = .ok (.iconst 0, 1) := by decide +kernel
theorem d_159_275 : decode (cM 159) 275 = .ok (.istore_n 1, 1) := by decide +kernel
theorem d_159_276 : decode (cM 159) 276 = .ok (.aload_n 0, 1) := by decide +kernel
theorem d_159_277 : decode (cM 159) 277 = .ok (.iload_n 1, 1) := by decide +kernel
theorem d_159_278 : decode (cM 159) 278 = .ok (.ifCond .eq 7, 3) := by decide +kernel
theorem d_159_281 : decode (cM 159) 281 = .ok (.iconst 4, 1) := by decide +kernel
theorem d_159_282 : decode (cM 159) 282 = .ok (.goto 5, 3) := by decide +kernel
theorem d_159_285 : decode (cM 159) 285 = .ok (.bipush 6, 2) := by decide +kernel
theorem d_159_287 : decode (cM 159) 287 = .ok (.putfield 160, 3) := by decide +kernel
theorem d_159_290 : decode (cM 159) 290 = .ok (.return_, 1) := by decide +kernel
theorem d_160_0 : decode (cM 160) 0 = .ok (.iconst 0, 1) := by decide +kernel
theorem d_160_1 : decode (cM 160) 1 = .ok (.istore_n 3, 1) := by decide +kernel
theorem d_160_2 : decode (cM 160) 2 = .ok (.iload_n 1, 1) := by decide +kernel
theorem d_160_3 : decode (cM 160) 3 = .ok (.istore 4, 2) := by decide +kernel
theorem d_160_5 : decode (cM 160) 5 = .ok (.iload 4, 2) := by decide +kernel
theorem d_160_7 : decode (cM 160) 7 = .ok (.iload_n 1, 1) := by decide +kernel
theorem d_160_8 : decode (cM 160) 8 = .ok (.bipush 6, 2) := by decide +kernel
theorem d_160_10 : decode (cM 160) 10 = .ok (.iadd, 1) := by decide +kernel
theorem d_160_11 : decode (cM 160) 11 = .ok (.if_icmp .ge 34, 3) := by decide +kernel
theorem d_160_14 : decode (cM 160) 14 = .ok (.iload_n 3, 1) := by decide +kernel
theorem d_160_15 : decode (cM 160) 15 = .ok (.iconst 5, 1) := by decide +kernel
theorem d_160_16 : decode (cM 160) 16 = .ok (.ishl, 1) := by decide +kernel
theorem d_160_17 : decode (cM 160) 17 = .ok (.iload 4, 2) := by decide +kernel
theorem d_160_19 : decode (cM 160) 19 = .ok (.iload_n 2, 1) := by decide +kernel
theorem d_160_20 : decode (cM 160) 20 = .ok (.if_icmp .ge 16, 3) := by decide +kernel
theorem d_160_23 : decode (cM 160) 23 = .ok (.aload_n 0, 1) := by decide +kernel
theorem d_160_24 : decode (cM 160) 24 = .ok (.getfield 7, 3) := by decide +kernel
theorem d_160_27 : decode (cM 160) 27 = .ok (.iload 4, 2) := by decide +kernel
theorem d_160_29 : decode (cM 160) 29 = .ok (.iaload, 1) := by decide +kernel
theorem d_160_30 : decode (cM 160) 30 = .ok (.bipush 96, 2) := by decide +kernel
theorem d_160_32 : decode (cM 160) 32 = .ok (.isub, 1) := by decide +kernel
theorem d_160_33 : decode (cM 160) 33 = .ok (.goto 4, 3) := by decide +kernel
theorem d_160_36 : decode (cM 160) 36 = .ok (.iconst 0, 1) := by decide +kernel
theorem d_160_37 : decode (cM 160) 37 = .ok (.ior, 1) := by decide +kernel
theorem d_160_38 : decode (cM 160) 38 = .ok (.istore_n 3, 1) := by decide +kernel
theorem d_160_39 : decode (cM 160) 39 = .ok (.iinc 4 1, 3) := by decide +kernel
theorem d_160_42 : decode (cM 160) 42 = .ok (.goto (-37), 3) := by decide +kernel
theorem d_160_45 : decode (cM 160) 45 = .ok (.iload_n 3, 1) := by decide +kernel
theorem d_160_46 : decode (cM 160) 46 = .ok (.ireturn, 1) := by decide +kernel
theorem d_161_0 : decode (cM 161) 0 = .ok (.aload_n 0, 1) := by decide +kernel
theorem d_161_1 : decode (cM 161) 1 = .ok (.getfield 160, 3) := by decide +kernel
theorem d_161_4 : decode (cM 161) 4 = .ok (.iconst 1, 1) := by decide +kernel
theorem d_161_5 : decode (cM 161) 5 = .ok (.if_icmp .ne 15, 3) := by decide +kernel
theorem d_161_8 : decode (cM 161) 8 = .ok (.aload_n 0, 1) := by decide +kernel
theorem d_161_9 : decode (cM 161) 9 = .ok (.getfield 171, 3) := by decide +kernel
theorem d_161_12 : decode (cM 161) 12 = .ok (.iload_n 1, 1) := by decide +kernel
theorem d_161_13 : decode (cM 161) 13 = .ok (.if_icmp .ne 7, 3) := by decide +kernel
theorem d_161_16 : decode (cM 161) 16 = .ok (.iconst 1, 1) := by decide +kernel
theorem d_161_17 : decode (cM 161) 17 = .ok (.goto 4, 3) := by decide +kernel
theorem d_161_20 : decode (cM 161) 20 = .ok (.iconst 0, 1) := by decide +kernel
theorem d_161_21 : decode (cM 161) 21 = .ok (.ireturn, 1) := by decide +kernel
theorem d_162_0 : decode (cM 162) 0 = .ok (.aload_n 0, 1) := by decide +kernel
theorem d_162_1 : decode (cM 162) 1 = .ok (.getfield 160, 3) := by decide +kernel
theorem d_162_4 : decode (cM 162) 4 = .ok (.iconst 4, 1) := by decide +kernel
theorem d_162_5 : decode (cM 162) 5 = .ok (.if_icmp .ne 15, 3) := by decide +kernel
theorem d_162_8 : decode (cM 162) 8 = .ok (.aload_n 0, 1) := by decide +kernel
theorem d_162_9 : decode (cM 162) 9 = .ok (.getfield 171, 3) := by decide +kernel
theorem d_162_12 : decode (cM 162) 12 = .ok (.iload_n 1, 1) := by decide +kernel
theorem d_162_13 : decode (cM 162) 13 = .ok (.if_icmp .ne 7, 3) := by decide +kernel
theorem d_162_16 : decode (cM 162) 16 = .ok (.iconst 1, 1) := by decide +kernel
theorem d_162_17 : decode (cM 162) 17 = .ok (.goto 4, 3) := by decide +kernel
theorem d_162_20 : decode (cM 162) 20 = .ok (.iconst 0, 1) := by decide +kernel
theorem d_162_21 : decode (cM 162) 21 = .ok (.ireturn, 1) := by decide +kernel
theorem d_163_0 : decode (cM 163) 0 = .ok (.aload_n 0, 1) := by decide +kernel
theorem d_163_1 : decode (cM 163) 1 = .ok (.getfield 160, 3) := by decide +kernel
theorem d_163_4 : decode (cM 163) 4 = .ok (.iconst 3, 1) := by decide +kernel
theorem d_163_5 : decode (cM 163) 5 = .ok (.if_icmp .eq 9, 3) := by decide +kernel
theorem d_163_8 : decode (cM 163) 8 = .ok (.aload_n 0, 1) := by decide +kernel
theorem d_163_9 : decode (cM 163) 9 = .ok (.iconst 1, 1) := by decide +kernel
theorem d_163_10 : decode (cM 163) 10 = .ok (.invokevirtual 184, 3) := by decide +kernel
theorem kc_163_10 : callT (oM 163) 184 = some (0, 154, 1) ∧ fok 163 154 = true ∧ stM 154 = false := by decide +kernel
theorem d_163_13 : decode (cM 163) 13 = .ok (.ireturn, 1) := by decide +kernel
theorem d_163_14 : decode (cM 163) 14 = .ok (.aload_n 0, 1) := by decide +kernel
theorem d_163_15 : decode (cM 163) 15 = .ok (.getfield 171, 3) := by decide +kernel
theorem d_163_18 : decode (cM 163) 18 = .ok (.iload_n 1, 1) := by decide +kernel
theorem d_163_19 : decode (cM 163) 19 = .ok (.iload_n 2, 1) := by decide +kernel
theorem d_163_20 : decode (cM 163) 20 = .ok (.invokestatic 187, 3) := by decide +kernel
theorem kc_163_20 : callT (oM 163) 187 = some (1, 152, 3) ∧ fok 163 152 = true ∧ stM 152 = true := by decide +kernel
theorem d_163_23 : decode (cM 163) 23 = .ok (.ifCond .ne 9, 3) := by decide +kernel
theorem d_163_26 : decode (cM 163) 26 = .ok (.aload_n 0, 1) := by decide +kernel
theorem d_163_27 : decode (cM 163) 27 = .ok (.iconst 2, 1) := by decide +kernel
theorem d_163_28 : decode (cM 163) 28 = .ok (.invokevirtual 184, 3) := by decide +kernel
theorem kc_163_28 : callT (oM 163) 184 = some (0, 154, 1) ∧ fok 163 154 = true ∧ stM 154 = false := by decide +kernel
theorem d_163_31 : decode (cM 163) 31 = .ok (.ireturn, 1) := by decide +kernel
theorem d_163_32 : decode (cM 163) 32 = .ok (.aload_n 0, 1) := by decide +kernel
theorem d_163_33 : decode (cM 163) 33 = .ok (.aload_n 0, 1) := by decide +kernel
theorem d_163_34 : decode (cM 163) 34 = .ok (.getfield 171, 3) := by decide +kernel
theorem d_163_37 : decode (cM 163) 37 = .ok (.putfield 191, 3) := by decide +kernel
theorem d_163_40 : decode (cM 163) 40 = .ok (.aload_n 0, 1) := by decide +kernel
theorem d_163_41 : decode (cM 163) 41 = .ok (.invokevirtual 194, 3) := by decide +kernel
theorem kc_163_41 : callT (oM 163) 194 = some (0, 158, 0) ∧ fok 163 158 = true ∧ stM 158 = false := by decide +kernel
theorem d_163_44 : decode (cM 163) 44 = .ok (.iconst 1, 1) := by decide +kernel
theorem d_163_45 : decode (cM 163) 45 = .ok (.ireturn, 1) := by decide +kernel
theorem d_164_0 : decode (cM 164) 0 = .ok (.aload_n 0, 1) := by decide +kernel
theorem d_164_1 : decode (cM 164) 1 = .ok (.iconst 0, 1) := by decide +kernel
theorem d_164_2 : decode (cM 164) 2 = .ok (.putfield 204, 3) := by decide +kernel
theorem d_164_5 : decode (cM 164) 5 = .ok (.aload_n 0, 1) := by decide +kernel
theorem d_164_6 : decode (cM 164) 6 = .ok (.iconst 0, 1) := by decide +kernel
theorem d_164_7 : decode (cM 164) 7 = .ok (.putfield 207, 3) := by decide +kernel
theorem d_164_10 : decode (cM 164) 10 = .ok (.aload_n 0, 1) := by decide +kernel
theorem d_164_11 : decode (cM 164) 11 = .ok (.iconst 0, 1) := by decide +kernel
theorem d_164_12 : decode (cM 164) 12 = .ok (.putfield 210, 3) := by decide +kernel
theorem d_164_15 : decode (cM 164) 15 = .ok (.aload_n 0, 1) := by decide +kernel
theorem d_164_16 : decode (cM 164) 16 = .ok (.iconst 0, 1) := by decide +kernel
theorem d_164_17 : decode (cM 164) 17 = .ok (.putfield 213, 3) := by decide +kernel
theorem d_164_20 : decode (cM 164) 20 = .ok (.aload_n 0, 1) := by decide +kernel
theorem d_164_21 : decode (cM 164) 21 = .ok (.iconst 0, 1) := by decide +kernel
theorem d_164_22 : decode (cM 164) 22 = .ok (.putfield 216, 3) := by decide +kernel
theorem d_164_25 : decode (cM 164) 25 = .ok (.aload_n 0, 1) := by decide +kernel
theorem d_164_26 : decode (cM 164) 26 = .ok (.iconst 0, 1) := by decide +kernel
theorem d_164_27 : decode (cM 164) 27 = .ok (.putfield 219, 3) := by decide +kernel
theorem d_164_30 : decode (cM 164) 30 = .ok (.aload_n 0, 1) := by decide +kernel
theorem d_164_31 : decode (cM 164) 31 = .ok (.getfield 20, 3) := by decide +kernel
theorem d_164_34 : decode (cM 164) 34 = .ok (.iconst 1, 1) := by decide +kernel
theorem d_164_35 : decode (cM 164) 35 = .ok (.iconst 0, 1) := by decide +kernel
theorem d_164_36 : decode (cM 164) 36 = .ok (.iastore, 1) := by decide +kernel
theorem d_164_37 : decode (cM 164) 37 = .ok (.iconst 0, 1) := by decide +kernel
theorem d_164_38 : decode (cM 164) 38 = .ok (.istore_n 1, 1) := by decide +kernel
theorem d_164_39 : decode (cM 164) 39 = .ok (.iload_n 1, 1) := by decide +kernel
theorem d_164_40 : decode (cM 164) 40 = .ok (.iconst 2, 1) := by decide +kernel
theorem d_164_41 : decode (cM 164) 41 = .ok (.if_icmp .ge 25, 3) := by decide +kernel
theorem d_164_44 : decode (cM 164) 44 = .ok (.aload_n 0, 1) := by decide +kernel
theorem d_164_45 : decode (cM 164) 45 = .ok (.getfield 23, 3) := by decide +kernel
theorem d_164_48 : decode (cM 164) 48 = .ok (.iload_n 1, 1) := by decide +kernel
theorem d_164_49 : decode (cM 164) 49 = .ok (.iconst 0, 1) := by decide +kernel
theorem d_164_50 : decode (cM 164) 50 = .ok (.bastore, 1) := by decide +kernel
theorem d_164_51 : decode (cM 164) 51 = .ok (.aload_n 0, 1) := by decide +kernel
theorem d_164_52 : decode (cM 164) 52 = .ok (.getfield 27, 3) := by decide +kernel
theorem d_164_55 : decode (cM 164) 55 = .ok (.iconst 2, 1) := by decide +kernel
theorem d_164_56 : decode (cM 164) 56 = .ok (.iload_n 1, 1) := by decide +kernel
theorem d_164_57 : decode (cM 164) 57 = .ok (.iadd, 1) := by decide +kernel
theorem d_164_58 : decode (cM 164) 58 = .ok (.iconst 0, 1) := by decide +kernel
theorem d_164_59 : decode (cM 164) 59 = .ok (.iastore, 1) := by decide +kernel
theorem d_164_60 : decode (cM 164) 60 = .ok (.iinc 1 1, 3) := by decide +kernel
theorem d_164_63 : decode (cM 164) 63 = .ok (.goto (-24), 3) := by decide +kernel
theorem d_164_66 : decode (cM 164) 66 = .ok (.iconst 3, 1) := by decide +kernel
theorem d_164_67 : decode (cM 164) 67 = .ok (.istore_n 1, 1) := by decide +kernel
theorem d_164_68 : decode (cM 164) 68 = .ok (.iload_n 1, 1) := by decide +kernel
theorem d_164_69 : decode (cM 164) 69 = .ok (.bipush 6, 2) := by decide +kernel
theorem d_164_71 : decode (cM 164) 71 = .ok (.if_icmp .ge 16, 3) := by decide +kernel
theorem d_164_74 : decode (cM 164) 74 = .ok (.aload_n 0, 1) := by decide +kernel
theorem d_164_75 : decode (cM 164) 75 = .ok (.getfield 51, 3) := by decide +kernel
theorem d_164_78 : decode (cM 164) 78 = .ok (.iload_n 1, 1) := by decide +kernel
theorem d_164_79 : decode (cM 164) 79 = .ok (.iconst 0, 1) := by decide +kernel
theorem d_164_80 : decode (cM 164) 80 = .ok (.bastore, 1) := by decide +kernel
theorem d_164_81 : decode (cM 164) 81 = .ok (.iinc 1 1, 3) := by decide +kernel
theorem d_164_84 : decode (cM 164) 84 = .ok (.goto (-16), 3) := by decide +kernel
theorem d_164_87 : decode (cM 164) 87 = .ok (.return_, 1) := by decide +kernel
theorem d_165_0 : decode (cM 165) 0 = .ok (.iconst 0, 1) := by decide +kernel
theorem d_165_1 : decode (cM 165) 1 = .ok (.istore_n 2, 1) := by decide +kernel
theorem d_165_2 : decode (cM 165) 2 = .ok (.iload_n 2, 1) := by decide +kernel
theorem d_165_3 : decode (cM 165) 3 = .ok (.iload_n 1, 1) := by decide +kernel
theorem d_165_4 : decode (cM 165) 4 = .ok (.if_icmp .ge 17, 3) := by decide +kernel
theorem d_165_7 : decode (cM 165) 7 = .ok (.aload_n 0, 1) := by decide +kernel
theorem d_165_8 : decode (cM 165) 8 = .ok (.iload_n 2, 1) := by decide +kernel
theorem d_165_9 : decode (cM 165) 9 = .ok (.aload_n 0, 1) := by decide +kernel
theorem d_165_10 : decode (cM 165) 10 = .ok (.iload_n 1, 1) := by decide +kernel
theorem d_165_11 : decode (cM 165) 11 = .ok (.iload_n 2, 1) := by decide +kernel
theorem d_165_12 : decode (cM 165) 12 = .ok (.iadd, 1) := by decide +kernel
theorem d_165_13 : decode (cM 165) 13 = .ok (.iaload, 1) := by decide +kernel
theorem d_165_14 : decode (cM 165) 14 = .ok (.iastore, 1) := by decide +kernel
theorem d_165_15 : decode (cM 165) 15 = .ok (.iinc 2 1, 3) := by decide +kernel
theorem d_165_18 : decode (cM 165) 18 = .ok (.goto (-16), 3) := by decide +kernel
theorem d_165_21 : decode (cM 165) 21 = .ok (.return_, 1) := by decide +kernel
theorem d_166_0 : decode (cM 166) 0 = .ok (.aload_n 0, 1) := by decide +kernel
theorem d_166_1 : decode (cM 166) 1 = .ok (.aload_n 0, 1) := by decide +kernel
theorem d_166_2 : decode (cM 166) 2 = .ok (.getfield 204, 3) := by decide +kernel
theorem d_166_5 : decode (cM 166) 5 = .ok (.putfield 222, 3) := by decide +kernel
theorem d_166_8 : decode (cM 166) 8 = .ok (.aload_n 0, 1) := by decide +kernel
theorem d_166_9 : decode (cM 166) 9 = .ok (.aload_n 0, 1) := by decide +kernel
theorem d_166_10 : decode (cM 166) 10 = .ok (.getfield 207, 3) := by decide +kernel
theorem d_166_13 : decode (cM 166) 13 = .ok (.putfield 225, 3) := by decide +kernel
theorem d_166_16 : decode (cM 166) 16 = .ok (.aload_n 0, 1) := by decide +kernel
theorem d_166_17 : decode (cM 166) 17 = .ok (.aload_n 0, 1) := by decide +kernel
theorem d_166_18 : decode (cM 166) 18 = .ok (.getfield 210, 3) := by decide +kernel
theorem d_166_21 : decode (cM 166) 21 = .ok (.putfield 228, 3) := by decide +kernel
theorem d_166_24 : decode (cM 166) 24 = .ok (.aload_n 0, 1) := by decide +kernel
theorem d_166_25 : decode (cM 166) 25 = .ok (.aload_n 0, 1) := by decide +kernel
theorem d_166_26 : decode (cM 166) 26 = .ok (.getfield 213, 3) := by decide +kernel
theorem d_166_29 : decode (cM 166) 29 = .ok (.putfield 231, 3) := by decide +kernel
theorem d_166_32 : decode (cM 166) 32 = .ok (.aload_n 0, 1) := by decide +kernel
theorem d_166_33 : decode (cM 166) 33 = .ok (.aload_n 0, 1) := by decide +kernel
theorem d_166_34 : decode (cM 166) 34 = .ok (.getfield 216, 3) := by decide +kernel
theorem d_166_37 : decode (cM 166) 37 = .ok (.putfield 234, 3) := by decide +kernel
theorem d_166_40 : decode (cM 166) 40 = .ok (.aload_n 0, 1) := by decide +kernel
theorem d_166_41 : decode (cM 166) 41 = .ok (.getfield 20, 3) := by decide +kernel
theorem d_166_44 : decode (cM 166) 44 = .ok (.iconst 0, 1) := by decide +kernel
theorem d_166_45 : decode (cM 166) 45 = .ok (.aload_n 0, 1) := by decide +kernel
theorem d_166_46 : decode (cM 166) 46 = .ok (.getfield 20, 3) := by decide +kernel
theorem d_166_49 : decode (cM 166) 49 = .ok (.iconst 1, 1) := by decide +kernel
theorem d_166_50 : decode (cM 166) 50 = .ok (.iaload, 1) := by decide +kernel
theorem d_166_51 : decode (cM 166) 51 = .ok (.iastore, 1) := by decide +kernel
theorem d_166_52 : decode (cM 166) 52 = .ok (.aload_n 0, 1) := by decide +kernel
theorem d_166_53 : decode (cM 166) 53 = .ok (.getfield 27, 3) := by decide +kernel
theorem d_166_56 : decode (cM 166) 56 = .ok (.iconst 2, 1) := by decide +kernel
theorem d_166_57 : decode (cM 166) 57 = .ok (.invokestatic 237, 3) := by decide +kernel
theorem kc_166_57 : callT (oM 166) 237 = some (1, 165, 2) ∧ fok 166 165 = true ∧ stM 165 = true := by decide +kernel
theorem d_166_60 : decode (cM 166) 60 = .ok (.aload_n 0, 1) := by decide +kernel
theorem d_166_61 : decode (cM 166) 61 = .ok (.getfield 30, 3) := by decide +kernel
theorem d_166_64 : decode (cM 166) 64 = .ok (.bipush 14, 2) := by decide +kernel
theorem d_166_66 : decode (cM 166) 66 = .ok (.invokestatic 237, 3) := by decide +kernel
theorem kc_166_66 : callT (oM 166) 237 = some (1, 165, 2) ∧ fok 166 165 = true ∧ stM 165 = true := by decide +kernel
theorem d_166_69 : decode (cM 166) 69 = .ok (.aload_n 0, 1) := by decide +kernel
theorem d_166_70 : decode (cM 166) 70 = .ok (.getfield 33, 3) := by decide +kernel
theorem d_166_73 : decode (cM 166) 73 = .ok (.bipush 10, 2) := by decide +kernel
theorem d_166_75 : decode (cM 166) 75 = .ok (.invokestatic 237, 3) := by decide +kernel
theorem kc_166_75 : callT (oM 166) 237 = some (1, 165, 2) ∧ fok 166 165 = true ∧ stM 165 = true := by decide +kernel
theorem d_166_78 : decode (cM 166) 78 = .ok (.aload_n 0, 1) := by decide +kernel
theorem d_166_79 : decode (cM 166) 79 = .ok (.getfield 36, 3) := by decide +kernel
theorem d_166_82 : decode (cM 166) 82 = .ok (.bipush 10, 2) := by decide +kernel
theorem d_166_84 : decode (cM 166) 84 = .ok (.invokestatic 237, 3) := by decide +kernel
theorem kc_166_84 : callT (oM 166) 237 = some (1, 165, 2) ∧ fok 166 165 = true ∧ stM 165 = true := by decide +kernel
theorem d_166_87 : decode (cM 166) 87 = .ok (.aload_n 0, 1) := by decide +kernel
theorem d_166_88 : decode (cM 166) 88 = .ok (.getfield 39, 3) := by decide +kernel
theorem d_166_91 : decode (cM 166) 91 = .ok (.bipush 10, 2) := by decide +kernel
theorem d_166_93 : decode (cM 166) 93 = .ok (.invokestatic 237, 3) := by decide +kernel
theorem kc_166_93 : callT (oM 166) 237 = some (1, 165, 2) ∧ fok 166 165 = true ∧ stM 165 = true := by decide +kernel
theorem d_166_96 : decode (cM 166) 96 = .ok (.aload_n 0, 1) := by decide +kernel
theorem d_166_97 : decode (cM 166) 97 = .ok (.getfield 42, 3) := by decide +kernel
theorem d_166_100 : decode (cM 166) 100 = .ok (.bipush 14, 2) := by decide +kernel
theorem d_166_102 : decode (cM 166) 102 = .ok (.invokestatic 237, 3) := by decide +kernel
theorem kc_166_102 : callT (oM 166) 237 = some (1, 165, 2) ∧ fok 166 165 = true ∧ stM 165 = true := by decide +kernel
theorem d_166_105 : decode (cM 166) 105 = .ok (.aload_n 0, 1) := by decide +kernel
theorem d_166_106 : decode (cM 166) 106 = .ok (.getfield 45, 3) := by decide +kernel
theorem d_166_109 : decode (cM 166) 109 = .ok (.bipush 14, 2) := by decide +kernel
theorem d_166_111 : decode (cM 166) 111 = .ok (.invokestatic 237, 3) := by decide +kernel
theorem kc_166_111 : callT (oM 166) 237 = some (1, 165, 2) ∧ fok 166 165 = true ∧ stM 165 = true := by decide +kernel
theorem d_166_114 : decode (cM 166) 114 = .ok (.aload_n 0, 1) := by decide +kernel
theorem d_166_115 : decode (cM 166) 115 = .ok (.getfield 48, 3) := by decide +kernel
theorem d_166_118 : decode (cM 166) 118 = .ok (.iconst 4, 1) := by decide +kernel
theorem d_166_119 : decode (cM 166) 119 = .ok (.invokestatic 237, 3) := by decide +kernel
theorem kc_166_119 : callT (oM 166) 237 = some (1, 165, 2) ∧ fok 166 165 = true ∧ stM 165 = true := by decide +kernel
theorem d_166_122 : decode (cM 166) 122 = .ok (.iconst 0, 1) := by decide +kernel
theorem d_166_123 : decode (cM 166) 123 = .ok (.istore_n 1, 1) := by decide +kernel
theorem d_166_124 : decode (cM 166) 124 = .ok (.iload_n 1, 1) := by decide +kernel
theorem d_166_125 : decode (cM 166) 125 = .ok (.iconst 3, 1) := by decide +kernel
theorem d_166_126 : decode (cM 166) 126 = .ok (.if_icmp .ge 23, 3) := by decide +kernel
theorem d_166_129 : decode (cM 166) 129 = .ok (.aload_n 0, 1) := by decide +kernel
theorem d_166_130 : decode (cM 166) 130 = .ok (.getfield 51, 3) := by decide +kernel
theorem d_166_133 : decode (cM 166) 133 = .ok (.iload_n 1, 1) := by decide +kernel
theorem d_166_134 : decode (cM 166) 134 = .ok (.aload_n 0, 1) := by decide +kernel
theorem d_166_135 : decode (cM 166) 135 = .ok (.getfield 51, 3) := by decide +kernel
theorem d_166_138 : decode (cM 166) 138 = .ok (.iconst 3, 1) := by decide +kernel
theorem d_166_139 : decode (cM 166) 139 = .ok (.iload_n 1, 1) := by decide +kernel
theorem d_166_140 : decode (cM 166) 140 = .ok (.iadd, 1) := by decide +kernel
theorem d_166_141 : decode (cM 166) 141 = .ok (.baload, 1) := by decide +kernel
theorem d_166_142 : decode (cM 166) 142 = .ok (.bastore, 1) := by decide +kernel
theorem d_166_143 : decode (cM 166) 143 = .ok (.iinc 1 1, 3) := by decide +kernel
theorem d_166_146 : decode (cM 166) 146 = .ok (.goto (-22), 3) := by decide +kernel
theorem d_166_149 : decode (cM 166) 149 = .ok (.aload_n 0, 1) := by decide +kernel
theorem d_166_150 : decode (cM 166) 150 = .ok (.getfield 54, 3) := by decide +kernel
theorem d_166_153 : decode (cM 166) 153 = .ok (.iconst 3, 1) := by decide +kernel
theorem d_166_154 : decode (cM 166) 154 = .ok (.invokestatic 237, 3) := by decide +kernel
theorem kc_166_154 : callT (oM 166) 237 = some (1, 165, 2) ∧ fok 166 165 = true ∧ stM 165 = true := by decide +kernel
theorem d_166_157 : decode (cM 166) 157 = .ok (.aload_n 0, 1) := by decide +kernel
theorem d_166_158 : decode (cM 166) 158 = .ok (.getfield 57, 3) := by decide +kernel
theorem d_166_161 : decode (cM 166) 161 = .ok (.iconst 3, 1) := by decide +kernel
theorem d_166_162 : decode (cM 166) 162 = .ok (.invokestatic 237, 3) := by decide +kernel
theorem kc_166_162 : callT (oM 166) 237 = some (1, 165, 2) ∧ fok 166 165 = true ∧ stM 165 = true := by decide +kernel
theorem d_166_165 : decode (cM 166) 165 = .ok (.aload_n 0, 1) := by decide +kernel
theorem d_166_166 : decode (cM 166) 166 = .ok (.getfield 60, 3) := by decide +kernel
theorem d_166_169 : decode (cM 166) 169 = .ok (.bipush 64, 2) := by decide +kernel
theorem d_166_171 : decode (cM 166) 171 = .ok (.invokestatic 237, 3) := by decide +kernel
theorem kc_166_171 : callT (oM 166) 237 = some (1, 165, 2) ∧ fok 166 165 = true ∧ stM 165 = true := by decide +kernel
theorem d_166_174 : decode (cM 166) 174 = .ok (.aload_n 0, 1) := by decide +kernel
theorem d_166_175 : decode (cM 166) 175 = .ok (.getfield 63, 3) := by decide +kernel
theorem d_166_178 : decode (cM 166) 178 = .ok (.bipush 64, 2) := by decide +kernel
theorem d_166_180 : decode (cM 166) 180 = .ok (.invokestatic 237, 3) := by decide +kernel
theorem kc_166_180 : callT (oM 166) 237 = some (1, 165, 2) ∧ fok 166 165 = true ∧ stM 165 = true := by decide +kernel
theorem d_166_183 : decode (cM 166) 183 = .ok (.aload_n 0, 1) := by decide +kernel
theorem d_166_184 : decode (cM 166) 184 = .ok (.getfield 66, 3) := by decide +kernel
theorem d_166_187 : decode (cM 166) 187 = .ok (.bipush 64, 2) := by decide +kernel
theorem d_166_189 : decode (cM 166) 189 = .ok (.invokestatic 237, 3) := by decide +kernel
theorem kc_166_189 : callT (oM 166) 237 = some (1, 165, 2) ∧ fok 166 165 = true ∧ stM 165 = true := by decide +kernel
theorem d_166_192 : decode (cM 166) 192 = .ok (.aload_n 0, 1) := by decide +kernel
theorem d_166_193 : decode (cM 166) 193 = .ok (.invokevirtual 241, 3) := by decide +kernel
theorem kc_166_193 : callT (oM 166) 241 = some (0, 195, 0) ∧ fok 166 195 = true ∧ stM 195 = false := by decide +kernel
theorem d_166_196 : decode (cM 166) 196 = .ok (.return_, 1) := by decide +kernel
theorem d_167_0 : decode (cM 167) 0 = .ok (.iconst 0, 1) := by decide +kernel
theorem d_167_1 : decode (cM 167) 1 = .ok (.istore 4, 2) := by decide +kernel
theorem d_167_3 : decode (cM 167) 3 = .ok (.iload 4, 2) := by decide +kernel
theorem d_167_5 : decode (cM 167) 5 = .ok (.iload_n 2, 1) := by decide +kernel
theorem d_167_6 : decode (cM 167) 6 = .ok (.if_icmp .ge 22, 3) := by decide +kernel
theorem d_167_9 : decode (cM 167) 9 = .ok (.aload_n 0, 1) := by decide +kernel
theorem d_167_10 : decode (cM 167) 10 = .ok (.iload_n 1, 1) := by decide +kernel
theorem d_167_11 : decode (cM 167) 11 = .ok (.iload 4, 2) := by decide +kernel
theorem d_167_13 : decode (cM 167) 13 = .ok (.iadd, 1) := by decide +kernel
theorem d_167_14 : decode (cM 167) 14 = .ok (.iaload, 1) := by decide +kernel
theorem d_167_15 : decode (cM 167) 15 = .ok (.iload_n 3, 1) := by decide +kernel
theorem d_167_16 : decode (cM 167) 16 = .ok (.if_icmp .ne 6, 3) := by decide +kernel
theorem d_167_19 : decode (cM 167) 19 = .ok (.iload 4, 2) := by decide +kernel
theorem d_167_21 : decode (cM 167) 21 = .ok (.ireturn, 1) := by decide +kernel
theorem d_167_22 : decode (cM 167) 22 = .ok (.iinc 4 1, 3) := by decide +kernel
theorem d_167_25 : decode (cM 167) 25 = .ok (.goto (-22), 3) := by decide +kernel
theorem d_167_28 : decode (cM 167) 28 = .ok (.iconst (-1), 1) := by decide +kernel
theorem d_167_29 : decode (cM 167) 29 = .ok (.ireturn, 1) := by decide +kernel
theorem d_168_0 : decode (cM 168) 0 = .ok (.aload_n 0, 1) := by decide +kernel
theorem d_168_1 : decode (cM 168) 1 = .ok (.getfield 160, 3) := by decide +kernel
theorem d_168_4 : decode (cM 168) 4 = .ok (.iconst 2, 1) := by decide +kernel
theorem d_168_5 : decode (cM 168) 5 = .ok (.if_icmp .eq 9, 3) := by decide +kernel
theorem d_168_8 : decode (cM 168) 8 = .ok (.aload_n 0, 1) := by decide +kernel
theorem d_168_9 : decode (cM 168) 9 = .ok (.iconst 1, 1) := by decide +kernel
theorem d_168_10 : decode (cM 168) 10 = .ok (.invokevirtual 184, 3) := by decide +kernel
theorem kc_168_10 : callT (oM 168) 184 = some (0, 154, 1) ∧ fok 168 154 = true ∧ stM 154 = false := by decide +kernel
theorem d_168_13 : decode (cM 168) 13 = .ok (.ireturn, 1) := by decide +kernel
theorem d_168_14 : decode (cM 168) 14 = .ok (.aload_n 1, 1) := by decide +kernel
theorem d_168_15 : decode (cM 168) 15 = .ok (.iload_n 2, 1) := by decide +kernel
theorem d_168_16 : decode (cM 168) 16 = .ok (.iload_n 3, 1) := by decide +kernel
theorem d_168_17 : decode (cM 168) 17 = .ok (.aload_n 0, 1) := by decide +kernel
theorem d_168_18 : decode (cM 168) 18 = .ok (.getfield 171, 3) := by decide +kernel
theorem d_168_21 : decode (cM 168) 21 = .ok (.invokestatic 244, 3) := by decide +kernel
theorem kc_168_21 : callT (oM 168) 244 = some (1, 167, 4) ∧ fok 168 167 = true ∧ stM 167 = true := by decide +kernel
theorem d_168_24 : decode (cM 168) 24 = .ok (.ifCond .lt 9, 3) := by decide +kernel
theorem d_168_27 : decode (cM 168) 27 = .ok (.aload_n 0, 1) := by decide +kernel
theorem d_168_28 : decode (cM 168) 28 = .ok (.iconst 3, 1) := by decide +kernel
theorem d_168_29 : decode (cM 168) 29 = .ok (.invokevirtual 184, 3) := by decide +kernel
theorem kc_168_29 : callT (oM 168) 184 = some (0, 154, 1) ∧ fok 168 154 = true ∧ stM 154 = false := by decide +kernel
theorem d_168_32 : decode (cM 168) 32 = .ok (.ireturn, 1) := by decide +kernel
theorem d_168_33 : decode (cM 168) 33 = .ok (.aload_n 1, 1) := by decide +kernel
theorem d_168_34 : decode (cM 168) 34 = .ok (.iload_n 2, 1) := by decide +kernel
theorem d_168_35 : decode (cM 168) 35 = .ok (.iload_n 3, 1) := by decide +kernel
theorem d_168_36 : decode (cM 168) 36 = .ok (.iadd, 1) := by decide +kernel
theorem d_168_37 : decode (cM 168) 37 = .ok (.aload_n 0, 1) := by decide +kernel
theorem d_168_38 : decode (cM 168) 38 = .ok (.getfield 171, 3) := by decide +kernel
theorem d_168_41 : decode (cM 168) 41 = .ok (.iastore, 1) := by decide +kernel
theorem d_168_42 : decode (cM 168) 42 = .ok (.aload_n 0, 1) := by decide +kernel
theorem d_168_43 : decode (cM 168) 43 = .ok (.invokevirtual 194, 3) := by decide +kernel
theorem kc_168_43 : callT (oM 168) 194 = some (0, 158, 0) ∧ fok 168 158 = true ∧ stM 158 = false := by decide +kernel
theorem d_168_46 : decode (cM 168) 46 = .ok (.iconst 1, 1) := by decide +kernel
theorem d_168_47 : decode (cM 168) 47 = .ok (.ireturn, 1) := by decide +kernel
theorem d_169_0 : decode (cM 169) 0 = .ok (.aload_n 0, 1) := by decide +kernel
theorem d_169_1 : decode (cM 169) 1 = .ok (.getfield 160, 3) := by decide +kernel
theorem d_169_4 : decode (cM 169) 4 = .ok (.iconst 2, 1) := by decide +kernel
theorem d_169_5 : decode (cM 169) 5 = .ok (.if_icmp .eq 9, 3) := by decide +kernel
theorem d_169_8 : decode (cM 169) 8 = .ok (.aload_n 0, 1) := by decide +kernel
theorem d_169_9 : decode (cM 169) 9 = .ok (.iconst 1, 1) := by decide +kernel
theorem d_169_10 : decode (cM 169) 10 = .ok (.invokevirtual 184, 3) := by decide +kernel
theorem kc_169_10 : callT (oM 169) 184 = some (0, 154, 1) ∧ fok 169 154 = true ∧ stM 154 = false := by decide +kernel
theorem d_169_13 : decode (cM 169) 13 = .ok (.ireturn, 1) := by decide +kernel
theorem d_169_14 : decode (cM 169) 14 = .ok (.aload_n 1, 1) := by decide +kernel
theorem d_169_15 : decode (cM 169) 15 = .ok (.iload_n 2, 1) := by decide +kernel
theorem d_169_16 : decode (cM 169) 16 = .ok (.iload_n 3, 1) := by decide +kernel
theorem d_169_17 : decode (cM 169) 17 = .ok (.aload_n 0, 1) := by decide +kernel
theorem d_169_18 : decode (cM 169) 18 = .ok (.getfield 171, 3) := by decide +kernel
theorem d_169_21 : decode (cM 169) 21 = .ok (.invokestatic 244, 3) := by decide +kernel
theorem kc_169_21 : callT (oM 169) 244 = some (1, 167, 4) ∧ fok 169 167 = true ∧ stM 167 = true := by decide +kernel
theorem d_169_24 : decode (cM 169) 24 = .ok (.istore 4, 2) := by decide +kernel
theorem d_169_26 : decode (cM 169) 26 = .ok (.iload 4, 2) := by decide +kernel
theorem d_169_28 : decode (cM 169) 28 = .ok (.ifCond .ge 9, 3) := by decide +kernel
theorem d_169_31 : decode (cM 169) 31 = .ok (.aload_n 0, 1) := by decide +kernel
theorem d_169_32 : decode (cM 169) 32 = .ok (.iconst 4, 1) := by decide +kernel
theorem d_169_33 : decode (cM 169) 33 = .ok (.invokevirtual 184, 3) := by decide +kernel
theorem kc_169_33 : callT (oM 169) 184 = some (0, 154, 1) ∧ fok 169 154 = true ∧ stM 154 = false := by decide +kernel
theorem d_169_36 : decode (cM 169) 36 = .ok (.ireturn, 1) := by decide +kernel
theorem d_169_37 : decode (cM 169) 37 = .ok (.aload_n 0, 1) := by decide +kernel
theorem d_169_38 : decode (cM 169) 38 = .ok (.invokevirtual 194, 3) := by decide +kernel
theorem kc_169_38 : callT (oM 169) 194 = some (0, 158, 0) ∧ fok 169 158 = true ∧ stM 158 = false := by decide +kernel
theorem d_169_41 : decode (cM 169) 41 = .ok (.aload_n 0, 1) := by decide +kernel
theorem d_169_42 : decode (cM 169) 42 = .ok (.iload 4, 2) := by decide +kernel
theorem d_169_44 : decode (cM 169) 44 = .ok (.putfield 191, 3) := by decide +kernel
theorem d_169_47 : decode (cM 169) 47 = .ok (.iconst 1, 1) := by decide +kernel
theorem d_169_48 : decode (cM 169) 48 = .ok (.ireturn, 1) := by decide +kernel
theorem d_170_0 : decode (cM 170) 0 = .ok (.aload_n 0, 1) := by decide +kernel
theorem d_170_1 : decode (cM 170) 1 = .ok (.getfield 204, 3) := by decide +kernel
theorem d_170_4 : decode (cM 170) 4 = .ok (.bipush 14, 2) := by decide +kernel
theorem d_170_6 : decode (cM 170) 6 = .ok (.if_icmp .ne 9, 3) := by decide +kernel
theorem d_170_9 : decode (cM 170) 9 = .ok (.aload_n 0, 1) := by decide +kernel
theorem d_170_10 : decode (cM 170) 10 = .ok (.iconst 2, 1) := by decide +kernel
theorem d_170_11 : decode (cM 170) 11 = .ok (.invokevirtual 184, 3) := by decide +kernel
theorem kc_170_11 : callT (oM 170) 184 = some (0, 154, 1) ∧ fok 170 154 = true ∧ stM 154 = false := by decide +kernel
theorem d_170_14 : decode (cM 170) 14 = .ok (.ireturn, 1) := by decide +kernel
theorem d_170_15 : decode (cM 170) 15 = .ok (.aload_n 0, 1) := by decide +kernel
theorem d_170_16 : decode (cM 170) 16 = .ok (.invokevirtual 194, 3) := by decide +kernel
theorem kc_170_16 : callT (oM 170) 194 = some (0, 158, 0) ∧ fok 170 158 = true ∧ stM 158 = false := by decide +kernel
theorem d_170_19 : decode (cM 170) 19 = .ok (.aload_n 0, 1) := by decide +kernel
theorem d_170_20 : decode (cM 170) 20 = .ok (.aload_n 0, 1) := by decide +kernel
theorem d_170_21 : decode (cM 170) 21 = .ok (.getfield 30, 3) := by decide +kernel
theorem d_170_24 : decode (cM 170) 24 = .ok (.bipush 14, 2) := by decide +kernel
theorem d_170_26 : decode (cM 170) 26 = .ok (.aload_n 0, 1) := by decide +kernel
theorem d_170_27 : decode (cM 170) 27 = .ok (.getfield 204, 3) := by decide +kernel
theorem d_170_30 : decode (cM 170) 30 = .ok (.invokevirtual 248, 3) := by decide +kernel
theorem kc_170_30 : callT (oM 170) 248 = some (0, 168, 3) ∧ fok 170 168 = true ∧ stM 168 = false := by decide +kernel
theorem d_170_33 : decode (cM 170) 33 = .ok (.ifCond .ne 5, 3) := by decide +kernel
theorem d_170_36 : decode (cM 170) 36 = .ok (.iconst 0, 1) := by decide +kernel
theorem d_170_37 : decode (cM 170) 37 = .ok (.ireturn, 1) := by decide +kernel
theorem d_170_38 : decode (cM 170) 38 = .ok (.aload_n 0, 1) := by decide +kernel
theorem d_170_39 : decode (cM 170) 39 = .ok (.dup, 1) := by decide +kernel
theorem d_170_40 : decode (cM 170) 40 = .ok (.getfield 204, 3) := by decide +kernel
theorem d_170_43 : decode (cM 170) 43 = .ok (.iconst 1, 1) := by decide +kernel
theorem d_170_44 : decode (cM 170) 44 = .ok (.iadd, 1) := by decide +kernel
theorem d_170_45 : decode (cM 170) 45 = .ok (.putfield 204, 3) := by decide +kernel
theorem d_170_48 : decode (cM 170) 48 = .ok (.iconst 1, 1) := by decide +kernel
theorem d_170_49 : decode (cM 170) 49 = .ok (.ireturn, 1) := by decide +kernel
theorem d_171_0 : decode (cM 171) 0 = .ok (.aload_n 0, 1) := by decide +kernel
theorem d_171_1 : decode (cM 171) 1 = .ok (.getfield 151, 3) := by decide +kernel
theorem d_171_4 : decode (cM 171) 4 = .ok (.istore_n 2, 1) := by decide +kernel
theorem d_171_5 : decode (cM 171) 5 = .ok (.aload_n 0, 1) := by decide +kernel
theorem d_171_6 : decode (cM 171) 6 = .ok (.aload_n 0, 1) := by decide +kernel
theorem d_171_7 : decode (cM 171) 7 = .ok (.getfield 30, 3) := by decide +kernel
theorem d_171_10 : decode (cM 171) 10 = .ok (.bipush 14, 2) := by decide +kernel
theorem d_171_12 : decode (cM 171) 12 = .ok (.aload_n 0, 1) := by decide +kernel
theorem d_171_13 : decode (cM 171) 13 = .ok (.getfield 204, 3) := by decide +kernel
theorem d_171_16 : decode (cM 171) 16 = .ok (.invokevirtual 252, 3) := by decide +kernel
theorem kc_171_16 : callT (oM 171) 252 = some (0, 169, 3) ∧ fok 171 169 = true ∧ stM 169 = false := by decide +kernel
theorem d_171_19 : decode (cM 171) 19 = .ok (.ifCond .ne 5, 3) := by decide +kernel
theorem d_171_22 : decode (cM 171) 22 = .ok (.iconst 0, 1) := by decide +kernel
theorem d_171_23 : decode (cM 171) 23 = .ok (.ireturn, 1) := by decide +kernel
theorem d_171_24 : decode (cM 171) 24 = .ok (.iload_n 1, 1) := by decide +kernel
theorem d_171_25 : decode (cM 171) 25 = .ok (.aload_n 0, 1) := by decide +kernel
theorem d_171_26 : decode (cM 171) 26 = .ok (.getfield 191, 3) := by decide +kernel
theorem d_171_29 : decode (cM 171) 29 = .ok (.invokestatic 255, 3) := by decide +kernel
theorem kc_171_29 : callT (oM 171) 255 = some (1, 153, 2) ∧ fok 171 153 = true ∧ stM 153 = true := by decide +kernel
theorem d_171_32 : decode (cM 171) 32 = .ok (.ifCond .ne 5, 3) := by decide +kernel
theorem d_171_35 : decode (cM 171) 35 = .ok (.iconst 1, 1) := by decide +kernel
theorem d_171_36 : decode (cM 171) 36 = .ok (.ireturn, 1) := by decide +kernel
theorem d_171_37 : decode (cM 171) 37 = .ok (.aload_n 0, 1) := by decide +kernel
theorem d_171_38 : decode (cM 171) 38 = .ok (.iload_n 2, 1) := by decide +kernel
theorem d_171_39 : decode (cM 171) 39 = .ok (.putfield 151, 3) := by decide +kernel
theorem d_171_42 : decode (cM 171) 42 = .ok (.aload_n 0, 1) := by decide +kernel
theorem d_171_43 : decode (cM 171) 43 = .ok (.iconst 3, 1) := by decide +kernel
theorem d_171_44 : decode (cM 171) 44 = .ok (.invokevirtual 184, 3) := by decide +kernel
theorem kc_171_44 : callT (oM 171) 184 = some (0, 154, 1) ∧ fok 171 154 = true ∧ stM 154 = false := by decide +kernel
theorem d_171_47 : decode (cM 171) 47 = .ok (.ireturn, 1) := by decide +kernel
theorem d_172_0 : decode (cM 172) 0 = .ok (.aload_n 0, 1) := by decide +kernel
theorem d_172_1 : decode (cM 172) 1 = .ok (.getfield 207, 3) := by decide +kernel
theorem d_172_4 : decode (cM 172) 4 = .ok (.bipush 10, 2) := by decide +kernel
theorem d_172_6 : decode (cM 172) 6 = .ok (.if_icmp .ne 9, 3) := by decide +kernel
theorem d_172_9 : decode (cM 172) 9 = .ok (.aload_n 0, 1) := by decide +kernel
theorem d_172_10 : decode (cM 172) 10 = .ok (.iconst 2, 1) := by decide +kernel
theorem d_172_11 : decode (cM 172) 11 = .ok (.invokevirtual 184, 3) := by decide +kernel
theorem kc_172_11 : callT (oM 172) 184 = some (0, 154, 1) ∧ fok 172 154 = true ∧ stM 154 = false := by decide +kernel
theorem d_172_14 : decode (cM 172) 14 = .ok (.ireturn, 1) := by decide +kernel
theorem d_172_15 : decode (cM 172) 15 = .ok (.aload_n 0, 1) := by decide +kernel
theorem d_172_16 : decode (cM 172) 16 = .ok (.invokevirtual 194, 3) := by decide +kernel
theorem kc_172_16 : callT (oM 172) 194 = some (0, 158, 0) ∧ fok 172 158 = true ∧ stM 158 = false := by decide +kernel
theorem d_172_19 : decode (cM 172) 19 = .ok (.aload_n 0, 1) := by decide +kernel
theorem d_172_20 : decode (cM 172) 20 = .ok (.aload_n 0, 1) := by decide +kernel
theorem d_172_21 : decode (cM 172) 21 = .ok (.getfield 33, 3) := by decide +kernel
theorem d_172_24 : decode (cM 172) 24 = .ok (.bipush 10, 2) := by decide +kernel
theorem d_172_26 : decode (cM 172) 26 = .ok (.aload_n 0, 1) := by decide +kernel
theorem d_172_27 : decode (cM 172) 27 = .ok (.getfield 207, 3) := by decide +kernel
theorem d_172_30 : decode (cM 172) 30 = .ok (.invokevirtual 248, 3) := by decide +kernel
theorem kc_172_30 : callT (oM 172) 248 = some (0, 168, 3) ∧ fok 172 168 = true ∧ stM 168 = false := by decide +kernel
theorem d_172_33 : decode (cM 172) 33 = .ok (.ifCond .ne 5, 3) := by decide +kernel
theorem d_172_36 : decode (cM 172) 36 = .ok (.iconst 0, 1) := by decide +kernel
theorem d_172_37 : decode (cM 172) 37 = .ok (.ireturn, 1) := by decide +kernel
theorem d_172_38 : decode (cM 172) 38 = .ok (.bipush 10, 2) := by decide +kernel
theorem d_172_40 : decode (cM 172) 40 = .ok (.aload_n 0, 1) := by decide +kernel
theorem d_172_41 : decode (cM 172) 41 = .ok (.getfield 207, 3) := by decide +kernel
theorem d_172_44 : decode (cM 172) 44 = .ok (.iadd, 1) := by decide +kernel
theorem d_172_45 : decode (cM 172) 45 = .ok (.istore_n 1, 1) := by decide +kernel
theorem d_172_46 : decode (cM 172) 46 = .ok (.aload_n 0, 1) := by decide +kernel
theorem d_172_47 : decode (cM 172) 47 = .ok (.iconst 0, 1) := by decide +kernel
theorem d_172_48 : decode (cM 172) 48 = .ok (.bipush 99, 2) := by decide +kernel
theorem d_172_50 : decode (cM 172) 50 = .ok (.invokevirtual 200, 3) := by decide +kernel
theorem kc_172_50 : callT (oM 172) 200 = some (0, 163, 2) ∧ fok 172 163 = true ∧ stM 163 = false := by decide +kernel
theorem d_172_53 : decode (cM 172) 53 = .ok (.ifCond .ne 5, 3) := by decide +kernel
theorem d_172_56 : decode (cM 172) 56 = .ok (.iconst 0, 1) := by decide +kernel
theorem d_172_57 : decode (cM 172) 57 = .ok (.ireturn, 1) := by decide +kernel
theorem d_172_58 : decode (cM 172) 58 = .ok (.aload_n 0, 1) := by decide +kernel
theorem d_172_59 : decode (cM 172) 59 = .ok (.getfield 36, 3) := by decide +kernel
theorem d_172_62 : decode (cM 172) 62 = .ok (.iload_n 1, 1) := by decide +kernel
theorem d_172_63 : decode (cM 172) 63 = .ok (.aload_n 0, 1) := by decide +kernel
theorem d_172_64 : decode (cM 172) 64 = .ok (.getfield 191, 3) := by decide +kernel
theorem d_172_67 : decode (cM 172) 67 = .ok (.iastore, 1) := by decide +kernel
theorem d_172_68 : decode (cM 172) 68 = .ok (.aload_n 0, 1) := by decide +kernel
theorem d_172_69 : decode (cM 172) 69 = .ok (.getfield 39, 3) := by decide +kernel
theorem d_172_72 : decode (cM 172) 72 = .ok (.iload_n 1, 1) := by decide +kernel
theorem d_172_73 : decode (cM 172) 73 = .ok (.iconst 0, 1) := by decide +kernel
theorem d_172_74 : decode (cM 172) 74 = .ok (.iastore, 1) := by decide +kernel
theorem d_172_75 : decode (cM 172) 75 = .ok (.aload_n 0, 1) := by decide +kernel
theorem d_172_76 : decode (cM 172) 76 = .ok (.getfield 160, 3) := by decide +kernel
theorem d_172_79 : decode (cM 172) 79 = .ok (.iconst 2, 1) := by decide +kernel
theorem d_172_80 : decode (cM 172) 80 = .ok (.if_icmp .ne 36, 3) := by decide +kernel
theorem d_172_83 : decode (cM 172) 83 = .ok (.aload_n 0, 1) := by decide +kernel
theorem d_172_84 : decode (cM 172) 84 = .ok (.aload_n 0, 1) := by decide +kernel
theorem d_172_85 : decode (cM 172) 85 = .ok (.getfield 39, 3) := by decide +kernel
theorem d_172_88 : decode (cM 172) 88 = .ok (.iload_n 1, 1) := by decide +kernel
theorem d_172_89 : decode (cM 172) 89 = .ok (.iaload, 1) := by decide +kernel
theorem d_172_90 : decode (cM 172) 90 = .ok (.invokevirtual 258, 3) := by decide +kernel
theorem kc_172_90 : callT (oM 172) 258 = some (0, 171, 1) ∧ fok 172 171 = true ∧ stM 171 = false := by decide +kernel
theorem d_172_93 : decode (cM 172) 93 = .ok (.ifCond .ne 5, 3) := by decide +kernel
theorem d_172_96 : decode (cM 172) 96 = .ok (.iconst 0, 1) := by decide +kernel
theorem d_172_97 : decode (cM 172) 97 = .ok (.ireturn, 1) := by decide +kernel
theorem d_172_98 : decode (cM 172) 98 = .ok (.aload_n 0, 1) := by decide +kernel
theorem d_172_99 : decode (cM 172) 99 = .ok (.getfield 39, 3) := by decide +kernel
theorem d_172_102 : decode (cM 172) 102 = .ok (.iload_n 1, 1) := by decide +kernel
theorem d_172_103 : decode (cM 172) 103 = .ok (.dup2, 1) := by decide +kernel
theorem d_172_104 : decode (cM 172) 104 = .ok (.iaload, 1) := by decide +kernel
theorem d_172_105 : decode (cM 172) 105 = .ok (.iconst 1, 1) := by decide +kernel
theorem d_172_106 : decode (cM 172) 106 = .ok (.aload_n 0, 1) := by decide +kernel
theorem d_172_107 : decode (cM 172) 107 = .ok (.getfield 191, 3) := by decide +kernel
theorem d_172_110 : decode (cM 172) 110 = .ok (.ishl, 1) := by decide +kernel
theorem d_172_111 : decode (cM 172) 111 = .ok (.ior, 1) := by decide +kernel
theorem d_172_112 : decode (cM 172) 112 = .ok (.iastore, 1) := by decide +kernel
theorem d_172_113 : decode (cM 172) 113 = .ok (.goto (-38), 3) := by decide +kernel
theorem d_172_116 : decode (cM 172) 116 = .ok (.aload_n 0, 1) := by decide +kernel
theorem d_172_117 : decode (cM 172) 117 = .ok (.dup, 1) := by decide +kernel
theorem d_172_118 : decode (cM 172) 118 = .ok (.getfield 207, 3) := by decide +kernel
theorem d_172_121 : decode (cM 172) 121 = .ok (.iconst 1, 1) := by decide +kernel
theorem d_172_122 : decode (cM 172) 122 = .ok (.iadd, 1) := by decide +kernel
theorem d_172_123 : decode (cM 172) 123 = .ok (.putfield 207, 3) := by decide +kernel
theorem d_172_126 : decode (cM 172) 126 = .ok (.iconst 1, 1) := by decide +kernel
theorem d_172_127 : decode (cM 172) 127 = .ok (.ireturn, 1) := by decide +kernel
theorem d_173_0 : decode (cM 173) 0 = .ok (.aload_n 0, 1) := by decide +kernel
theorem d_173_1 : decode (cM 173) 1 = .ok (.invokevirtual 194, 3) := by decide +kernel
theorem kc_173_1 : callT (oM 173) 194 = some (0, 158, 0) ∧ fok 173 158 = true ∧ stM 158 = false := by decide +kernel
theorem d_173_4 : decode (cM 173) 4 = .ok (.aload_n 0, 1) := by decide +kernel
theorem d_173_5 : decode (cM 173) 5 = .ok (.aload_n 0, 1) := by decide +kernel
theorem d_173_6 : decode (cM 173) 6 = .ok (.getfield 20, 3) := by decide +kernel
theorem d_173_9 : decode (cM 173) 9 = .ok (.iconst 1, 1) := by decide +kernel
theorem d_173_10 : decode (cM 173) 10 = .ok (.iaload, 1) := by decide +kernel
theorem d_173_11 : decode (cM 173) 11 = .ok (.invokevirtual 258, 3) := by decide +kernel
theorem kc_173_11 : callT (oM 173) 258 = some (0, 171, 1) ∧ fok 173 171 = true ∧ stM 171 = false := by decide +kernel
theorem d_173_14 : decode (cM 173) 14 = .ok (.ifCond .ne 5, 3) := by decide +kernel
theorem d_173_17 : decode (cM 173) 17 = .ok (.iconst 0, 1) := by decide +kernel
theorem d_173_18 : decode (cM 173) 18 = .ok (.ireturn, 1) := by decide +kernel
theorem d_173_19 : decode (cM 173) 19 = .ok (.aload_n 0, 1) := by decide +kernel
theorem d_173_20 : decode (cM 173) 20 = .ok (.getfield 20, 3) := by decide +kernel
theorem d_173_23 : decode (cM 173) 23 = .ok (.iconst 1, 1) := by decide +kernel
theorem d_173_24 : decode (cM 173) 24 = .ok (.dup2, 1) := by decide +kernel
theorem d_173_25 : decode (cM 173) 25 = .ok (.iaload, 1) := by decide +kernel
theorem d_173_26 : decode (cM 173) 26 = .ok (.iconst 1, 1) := by decide +kernel
theorem d_173_27 : decode (cM 173) 27 = .ok (.aload_n 0, 1) := by decide +kernel
theorem d_173_28 : decode (cM 173) 28 = .ok (.getfield 191, 3) := by decide +kernel
theorem d_173_31 : decode (cM 173) 31 = .ok (.ishl, 1) := by decide +kernel
theorem d_173_32 : decode (cM 173) 32 = .ok (.ior, 1) := by decide +kernel
theorem d_173_33 : decode (cM 173) 33 = .ok (.iastore, 1) := by decide +kernel
theorem d_173_34 : decode (cM 173) 34 = .ok (.iconst 1, 1) := by decide +kernel
theorem d_173_35 : decode (cM 173) 35 = .ok (.ireturn, 1) := by decide +kernel
theorem d_174_0 : decode (cM 174) 0 = .ok (.aload_n 0, 1) := by decide +kernel
theorem d_174_1 : decode (cM 174) 1 = .ok (.getfield 210, 3) := by decide +kernel
theorem d_174_4 : decode (cM 174) 4 = .ok (.bipush 14, 2) := by decide +kernel
theorem d_174_6 : decode (cM 174) 6 = .ok (.if_icmp .ne 9, 3) := by decide +kernel
theorem d_174_9 : decode (cM 174) 9 = .ok (.aload_n 0, 1) := by decide +kernel
theorem d_174_10 : decode (cM 174) 10 = .ok (.iconst 2, 1) := by decide +kernel
theorem d_174_11 : decode (cM 174) 11 = .ok (.invokevirtual 184, 3) := by decide +kernel
theorem kc_174_11 : callT (oM 174) 184 = some (0, 154, 1) ∧ fok 174 154 = true ∧ stM 154 = false := by decide +kernel
theorem d_174_14 : decode (cM 174) 14 = .ok (.ireturn, 1) := by decide +kernel
theorem d_174_15 : decode (cM 174) 15 = .ok (.aload_n 0, 1) := by decide +kernel
theorem d_174_16 : decode (cM 174) 16 = .ok (.invokevirtual 194, 3) := by decide +kernel
theorem kc_174_16 : callT (oM 174) 194 = some (0, 158, 0) ∧ fok 174 158 = true ∧ stM 158 = false := by decide +kernel
theorem d_174_19 : decode (cM 174) 19 = .ok (.bipush 14, 2) := by decide +kernel
theorem d_174_21 : decode (cM 174) 21 = .ok (.aload_n 0, 1) := by decide +kernel
theorem d_174_22 : decode (cM 174) 22 = .ok (.getfield 210, 3) := by decide +kernel
theorem d_174_25 : decode (cM 174) 25 = .ok (.iadd, 1) := by decide +kernel
theorem d_174_26 : decode (cM 174) 26 = .ok (.istore_n 1, 1) := by decide +kernel
theorem d_174_27 : decode (cM 174) 27 = .ok (.aload_n 0, 1) := by decide +kernel
theorem d_174_28 : decode (cM 174) 28 = .ok (.aload_n 0, 1) := by decide +kernel
theorem d_174_29 : decode (cM 174) 29 = .ok (.getfield 33, 3) := by decide +kernel
theorem d_174_32 : decode (cM 174) 32 = .ok (.bipush 10, 2) := by decide +kernel
theorem d_174_34 : decode (cM 174) 34 = .ok (.aload_n 0, 1) := by decide +kernel
theorem d_174_35 : decode (cM 174) 35 = .ok (.getfield 207, 3) := by decide +kernel
theorem d_174_38 : decode (cM 174) 38 = .ok (.invokevirtual 252, 3) := by decide +kernel
theorem kc_174_38 : callT (oM 174) 252 = some (0, 169, 3) ∧ fok 174 169 = true ∧ stM 169 = false := by decide +kernel
theorem d_174_41 : decode (cM 174) 41 = .ok (.ifCond .ne 5, 3) := by decide +kernel
theorem d_174_44 : decode (cM 174) 44 = .ok (.iconst 0, 1) := by decide +kernel
theorem d_174_45 : decode (cM 174) 45 = .ok (.ireturn, 1) := by decide +kernel
theorem d_174_46 : decode (cM 174) 46 = .ok (.aload_n 0, 1) := by decide +kernel
theorem d_174_47 : decode (cM 174) 47 = .ok (.getfield 42, 3) := by decide +kernel
theorem d_174_50 : decode (cM 174) 50 = .ok (.iload_n 1, 1) := by decide +kernel
theorem d_174_51 : decode (cM 174) 51 = .ok (.aload_n 0, 1) := by decide +kernel
theorem d_174_52 : decode (cM 174) 52 = .ok (.getfield 191, 3) := by decide +kernel
theorem d_174_55 : decode (cM 174) 55 = .ok (.iastore, 1) := by decide +kernel
theorem d_174_56 : decode (cM 174) 56 = .ok (.aload_n 0, 1) := by decide +kernel
theorem d_174_57 : decode (cM 174) 57 = .ok (.iconst 0, 1) := by decide +kernel
theorem d_174_58 : decode (cM 174) 58 = .ok (.bipush 99, 2) := by decide +kernel
theorem d_174_60 : decode (cM 174) 60 = .ok (.invokevirtual 200, 3) := by decide +kernel
theorem kc_174_60 : callT (oM 174) 200 = some (0, 163, 2) ∧ fok 174 163 = true ∧ stM 163 = false := by decide +kernel
theorem d_174_63 : decode (cM 174) 63 = .ok (.ifCond .ne 5, 3) := by decide +kernel
theorem d_174_66 : decode (cM 174) 66 = .ok (.iconst 0, 1) := by decide +kernel
theorem d_174_67 : decode (cM 174) 67 = .ok (.ireturn, 1) := by decide +kernel
theorem d_174_68 : decode (cM 174) 68 = .ok (.aload_n 0, 1) := by decide +kernel
theorem d_174_69 : decode (cM 174) 69 = .ok (.getfield 45, 3) := by decide +kernel
theorem d_174_72 : decode (cM 174) 72 = .ok (.iload_n 1, 1) := by decide +kernel
theorem d_174_73 : decode (cM 174) 73 = .ok (.aload_n 0, 1) := by decide +kernel
theorem d_174_74 : decode (cM 174) 74 = .ok (.getfield 191, 3) := by decide +kernel
theorem d_174_77 : decode (cM 174) 77 = .ok (.iastore, 1) := by decide +kernel
theorem d_174_78 : decode (cM 174) 78 = .ok (.aload_n 0, 1) := by decide +kernel
theorem d_174_79 : decode (cM 174) 79 = .ok (.dup, 1) := by decide +kernel
theorem d_174_80 : decode (cM 174) 80 = .ok (.getfield 210, 3) := by decide +kernel
theorem d_174_83 : decode (cM 174) 83 = .ok (.iconst 1, 1) := by decide +kernel
theorem d_174_84 : decode (cM 174) 84 = .ok (.iadd, 1) := by decide +kernel
theorem d_174_85 : decode (cM 174) 85 = .ok (.putfield 210, 3) := by decide +kernel
theorem d_174_88 : decode (cM 174) 88 = .ok (.iconst 1, 1) := by decide +kernel
theorem d_174_89 : decode (cM 174) 89 = .ok (.ireturn, 1) := by decide +kernel
theorem d_175_0 : decode (cM 175) 0 = .ok (.aload_n 0, 1) := by decide +kernel
theorem d_175_1 : decode (cM 175) 1 = .ok (.getfield 213, 3) := by decide +kernel
theorem d_175_4 : decode (cM 175) 4 = .ok (.iconst 4, 1) := by decide +kernel
theorem d_175_5 : decode (cM 175) 5 = .ok (.if_icmp .ne 9, 3) := by decide +kernel
theorem d_175_8 : decode (cM 175) 8 = .ok (.aload_n 0, 1) := by decide +kernel
theorem d_175_9 : decode (cM 175) 9 = .ok (.iconst 2, 1) := by decide +kernel
theorem d_175_10 : decode (cM 175) 10 = .ok (.invokevirtual 184, 3) := by decide +kernel
theorem kc_175_10 : callT (oM 175) 184 = some (0, 154, 1) ∧ fok 175 154 = true ∧ stM 154 = false := by decide +kernel
theorem d_175_13 : decode (cM 175) 13 = .ok (.ireturn, 1) := by decide +kernel
theorem d_175_14 : decode (cM 175) 14 = .ok (.aload_n 0, 1) := by decide +kernel
theorem d_175_15 : decode (cM 175) 15 = .ok (.invokevirtual 194, 3) := by decide +kernel
theorem kc_175_15 : callT (oM 175) 194 = some (0, 158, 0) ∧ fok 175 158 = true ∧ stM 158 = false := by decide +kernel
theorem d_175_18 : decode (cM 175) 18 = .ok (.aload_n 0, 1) := by decide +kernel
theorem d_175_19 : decode (cM 175) 19 = .ok (.iconst 0, 1) := by decide +kernel
theorem d_175_20 : decode (cM 175) 20 = .ok (.bipush 99, 2) := by decide +kernel
theorem d_175_22 : decode (cM 175) 22 = .ok (.invokevirtual 200, 3) := by decide +kernel
theorem kc_175_22 : callT (oM 175) 200 = some (0, 163, 2) ∧ fok 175 163 = true ∧ stM 163 = false := by decide +kernel
theorem d_175_25 : decode (cM 175) 25 = .ok (.ifCond .ne 5, 3) := by decide +kernel
theorem d_175_28 : decode (cM 175) 28 = .ok (.iconst 0, 1) := by decide +kernel
theorem d_175_29 : decode (cM 175) 29 = .ok (.ireturn, 1) := by decide +kernel
theorem d_175_30 : decode (cM 175) 30 = .ok (.aload_n 0, 1) := by decide +kernel
theorem d_175_31 : decode (cM 175) 31 = .ok (.getfield 48, 3) := by decide +kernel
theorem d_175_34 : decode (cM 175) 34 = .ok (.iconst 4, 1) := by decide +kernel
theorem d_175_35 : decode (cM 175) 35 = .ok (.aload_n 0, 1) := by decide +kernel
theorem d_175_36 : decode (cM 175) 36 = .ok (.getfield 213, 3) := by decide +kernel
theorem d_175_39 : decode (cM 175) 39 = .ok (.iadd, 1) := by decide +kernel
theorem d_175_40 : decode (cM 175) 40 = .ok (.aload_n 0, 1) := by decide +kernel
theorem d_175_41 : decode (cM 175) 41 = .ok (.getfield 191, 3) := by decide +kernel
theorem d_175_44 : decode (cM 175) 44 = .ok (.iastore, 1) := by decide +kernel
theorem d_175_45 : decode (cM 175) 45 = .ok (.aload_n 0, 1) := by decide +kernel
theorem d_175_46 : decode (cM 175) 46 = .ok (.dup, 1) := by decide +kernel
theorem d_175_47 : decode (cM 175) 47 = .ok (.getfield 213, 3) := by decide +kernel
theorem d_175_50 : decode (cM 175) 50 = .ok (.iconst 1, 1) := by decide +kernel
theorem d_175_51 : decode (cM 175) 51 = .ok (.iadd, 1) := by decide +kernel
theorem d_175_52 : decode (cM 175) 52 = .ok (.putfield 213, 3) := by decide +kernel
theorem d_175_55 : decode (cM 175) 55 = .ok (.iconst 1, 1) := by decide +kernel
theorem d_175_56 : decode (cM 175) 56 = .ok (.ireturn, 1) := by decide +kernel
theorem d_176_0 : decode (cM 176) 0 = .ok (.aload_n 0, 1) := by decide +kernel
theorem d_176_1 : decode (cM 176) 1 = .ok (.getfield 23, 3) := by decide +kernel
theorem d_176_4 : decode (cM 176) 4 = .ok (.iload_n 1, 1) := by decide +kernel
theorem d_176_5 : decode (cM 176) 5 = .ok (.baload, 1) := by decide +kernel
theorem d_176_6 : decode (cM 176) 6 = .ok (.ifCond .eq 9, 3) := by decide +kernel
theorem d_176_9 : decode (cM 176) 9 = .ok (.aload_n 0, 1) := by decide +kernel
theorem d_176_10 : decode (cM 176) 10 = .ok (.iconst 3, 1) := by decide +kernel
theorem d_176_11 : decode (cM 176) 11 = .ok (.invokevirtual 184, 3) := by decide +kernel
theorem kc_176_11 : callT (oM 176) 184 = some (0, 154, 1) ∧ fok 176 154 = true ∧ stM 154 = false := by decide +kernel
theorem d_176_14 : decode (cM 176) 14 = .ok (.ireturn, 1) := by decide +kernel
theorem d_176_15 : decode (cM 176) 15 = .ok (.aload_n 0, 1) := by decide +kernel
theorem d_176_16 : decode (cM 176) 16 = .ok (.getfield 23, 3) := by decide +kernel
theorem d_176_19 : decode (cM 176) 19 = .ok (.iload_n 1, 1) := by decide +kernel
theorem d_176_20 : decode (cM 176) 20 = .ok (.iconst 1, 1) := by decide +kernel
theorem d_176_21 : decode (cM 176) 21 = .ok (.bastore, 1) := by decide +kernel
theorem d_176_22 : decode (cM 176) 22 = .ok (.aload_n 0, 1) := by decide +kernel
theorem d_176_23 : decode (cM 176) 23 = .ok (.invokevirtual 194, 3) := by decide +kernel
theorem kc_176_23 : callT (oM 176) 194 = some (0, 158, 0) ∧ fok 176 158 = true ∧ stM 158 = false := by decide +kernel
theorem d_176_26 : decode (cM 176) 26 = .ok (.aload_n 0, 1) := by decide +kernel
theorem d_176_27 : decode (cM 176) 27 = .ok (.iconst 0, 1) := by decide +kernel
theorem d_176_28 : decode (cM 176) 28 = .ok (.iload_n 2, 1) := by decide +kernel
theorem d_176_29 : decode (cM 176) 29 = .ok (.invokevirtual 200, 3) := by decide +kernel
theorem kc_176_29 : callT (oM 176) 200 = some (0, 163, 2) ∧ fok 176 163 = true ∧ stM 163 = false := by decide +kernel
theorem d_176_32 : decode (cM 176) 32 = .ok (.ifCond .ne 5, 3) := by decide +kernel
theorem d_176_35 : decode (cM 176) 35 = .ok (.iconst 0, 1) := by decide +kernel
theorem d_176_36 : decode (cM 176) 36 = .ok (.ireturn, 1) := by decide +kernel
theorem d_176_37 : decode (cM 176) 37 = .ok (.aload_n 0, 1) := by decide +kernel
theorem d_176_38 : decode (cM 176) 38 = .ok (.getfield 27, 3) := by decide +kernel
theorem d_176_41 : decode (cM 176) 41 = .ok (.iconst 2, 1) := by decide +kernel
theorem d_176_42 : decode (cM 176) 42 = .ok (.iload_n 1, 1) := by decide +kernel
theorem d_176_43 : decode (cM 176) 43 = .ok (.iadd, 1) := by decide +kernel
theorem d_176_44 : decode (cM 176) 44 = .ok (.aload_n 0, 1) := by decide +kernel
theorem d_176_45 : decode (cM 176) 45 = .ok (.getfield 191, 3) := by decide +kernel
theorem d_176_48 : decode (cM 176) 48 = .ok (.iastore, 1) := by decide +kernel
theorem d_176_49 : decode (cM 176) 49 = .ok (.iconst 1, 1) := by decide +kernel
theorem d_176_50 : decode (cM 176) 50 = .ok (.ireturn, 1) := by decide +kernel
theorem d_177_0 : decode (cM 177) 0 = .ok (.aload_n 0, 1) := by decide +kernel
theorem d_177_1 : decode (cM 177) 1 = .ok (.getfield 160, 3) := by decide +kernel
theorem d_177_4 : decode (cM 177) 4 = .ok (.iconst 1, 1) := by decide +kernel
theorem d_177_5 : decode (cM 177) 5 = .ok (.if_icmp .ne 12, 3) := by decide +kernel
theorem d_177_8 : decode (cM 177) 8 = .ok (.aload_n 0, 1) := by decide +kernel
theorem d_177_9 : decode (cM 177) 9 = .ok (.getfield 171, 3) := by decide +kernel
theorem d_177_12 : decode (cM 177) 12 = .ok (.bipush 7, 2) := by decide +kernel
theorem d_177_14 : decode (cM 177) 14 = .ok (.if_icmp .le 9, 3) := by decide +kernel
theorem d_177_17 : decode (cM 177) 17 = .ok (.aload_n 0, 1) := by decide +kernel
theorem d_177_18 : decode (cM 177) 18 = .ok (.iconst 1, 1) := by decide +kernel
theorem d_177_19 : decode (cM 177) 19 = .ok (.invokevirtual 184, 3) := by decide +kernel
theorem kc_177_19 : callT (oM 177) 184 = some (0, 154, 1) ∧ fok 177 154 = true ∧ stM 154 = false := by decide +kernel
theorem d_177_22 : decode (cM 177) 22 = .ok (.ireturn, 1) := by decide +kernel
theorem d_177_23 : decode (cM 177) 23 = .ok (.aload_n 0, 1) := by decide +kernel
theorem d_177_24 : decode (cM 177) 24 = .ok (.getfield 171, 3) := by decide +kernel
theorem d_177_27 : decode (cM 177) 27 = .ok (.tableswitch 103 0 6 #[41, 49, 57, 65, 73, 81, 92], 41) := by decide +kernel
theorem d_177_68 : decode (cM 177) 68 = .ok (.aload_n 0, 1) := by decide +kernel
theorem d_177_69 : decode (cM 177) 69 = .ok (.invokevirtual 261, 3) := by decide +kernel
theorem kc_177_69 : callT (oM 177) 261 = some (0, 170, 0) ∧ fok 177 170 = true ∧ stM 170 = false := by decide +kernel
theorem d_177_72 : decode (cM 177) 72 = .ok (.istore_n 1, 1) := by decide +kernel
theorem d_177_73 : decode (cM 177) 73 = .ok (.goto 154, 3) := by decide +kernel
theorem d_177_76 : decode (cM 177) 76 = .ok (.aload_n 0, 1) := by decide +kernel
theorem d_177_77 : decode (cM 177) 77 = .ok (.invokevirtual 265, 3) := by decide +kernel
theorem kc_177_77 : callT (oM 177) 265 = some (0, 172, 0) ∧ fok 177 172 = true ∧ stM 172 = false := by decide +kernel
theorem d_177_80 : decode (cM 177) 80 = .ok (.istore_n 1, 1) := by decide +kernel
theorem d_177_81 : decode (cM 177) 81 = .ok (.goto 146, 3) := by decide +kernel
theorem d_177_84 : decode (cM 177) 84 = .ok (.aload_n 0, 1) := by decide +kernel
theorem d_177_85 : decode (cM 177) 85 = .ok (.invokevirtual 268, 3) := by decide +kernel
theorem kc_177_85 : callT (oM 177) 268 = some (0, 173, 0) ∧ fok 177 173 = true ∧ stM 173 = false := by decide +kernel
theorem d_177_88 : decode (cM 177) 88 = .ok (.istore_n 1, 1) := by decide +kernel
theorem d_177_89 : decode (cM 177) 89 = .ok (.goto 138, 3) := by decide +kernel
theorem d_177_92 : decode (cM 177) 92 = .ok (.aload_n 0, 1) := by decide +kernel
theorem d_177_93 : decode (cM 177) 93 = .ok (.invokevirtual 271, 3) := by decide +kernel
theorem kc_177_93 : callT (oM 177) 271 = some (0, 174, 0) ∧ fok 177 174 = true ∧ stM 174 = false := by decide +kernel
theorem d_177_96 : decode (cM 177) 96 = .ok (.istore_n 1, 1) := by decide +kernel
theorem d_177_97 : decode (cM 177) 97 = .ok (.goto 130, 3) := by decide +kernel
theorem d_177_100 : decode (cM 177) 100 = .ok (.aload_n 0, 1) := by decide +kernel
theorem d_177_101 : decode (cM 177) 101 = .ok (.invokevirtual 274, 3) := by decide +kernel
theorem kc_177_101 : callT (oM 177) 274 = some (0, 175, 0) ∧ fok 177 175 = true ∧ stM 175 = false := by decide +kernel
theorem d_177_104 : decode (cM 177) 104 = .ok (.istore_n 1, 1) := by decide +kernel
theorem d_177_105 : decode (cM 177) 105 = .ok (.goto 122, 3) := by decide +kernel
theorem d_177_108 : decode (cM 177) 108 = .ok (.aload_n 0, 1) := by decide +kernel
theorem d_177_109 : decode (cM 177) 109 = .ok (.iconst 0, 1) := by decide +kernel
theorem d_177_110 : decode (cM 177) 110 = .ok (.bipush 100, 2) := by decide +kernel
theorem d_177_112 : decode (cM 177) 112 = .ok (.invokevirtual 277, 3) := by decide +kernel
theorem kc_177_112 : callT (oM 177) 277 = some (0, 176, 2) ∧ fok 177 176 = true ∧ stM 176 = false := by decide +kernel
theorem d_177_115 : decode (cM 177) 115 = .ok (.istore_n 1, 1) := by decide +kernel
theorem d_177_116 : decode (cM 177) 116 = .ok (.goto 111, 3) := by decide +kernel
theorem d_177_119 : decode (cM 177) 119 = .ok (.aload_n 0, 1) := by decide +kernel
theorem d_177_120 : decode (cM 177) 120 = .ok (.iconst 1, 1) := by decide +kernel
theorem d_177_121 : decode (cM 177) 121 = .ok (.ldc 180, 2) := by decide +kernel
theorem d_177_123 : decode (cM 177) 123 = .ok (.invokevirtual 277, 3) := by decide +kernel
theorem kc_177_123 : callT (oM 177) 277 = some (0, 176, 2) ∧ fok 177 176 = true ∧ stM 176 = false := by decide +kernel
theorem d_177_126 : decode (cM 177) 126 = .ok (.istore_n 1, 1) := by decide +kernel
theorem d_177_127 : decode (cM 177) 127 = .ok (.goto 100, 3) := by decide +kernel
theorem d_177_130 : decode (cM 177) 130 = .ok (.aload_n 0, 1) := by decide +kernel
theorem d_177_131 : decode (cM 177) 131 = .ok (.invokevirtual 194, 3) := by decide +kernel
theorem kc_177_131 : callT (oM 177) 194 = some (0, 158, 0) ∧ fok 177 158 = true ∧ stM 158 = false := by decide +kernel
theorem d_177_134 : decode (cM 177) 134 = .ok (.aload_n 0, 1) := by decide +kernel
theorem d_177_135 : decode (cM 177) 135 = .ok (.getfield 160, 3) := by decide +kernel
theorem d_177_138 : decode (cM 177) 138 = .ok (.iconst 1, 1) := by decide +kernel
theorem d_177_139 : decode (cM 177) 139 = .ok (.if_icmp .ne 21, 3) := by decide +kernel
theorem d_177_142 : decode (cM 177) 142 = .ok (.aload_n 0, 1) := by decide +kernel
theorem d_177_143 : decode (cM 177) 143 = .ok (.getfield 171, 3) := by decide +kernel
theorem d_177_146 : decode (cM 177) 146 = .ok (.bipush 8, 2) := by decide +kernel
theorem d_177_148 : decode (cM 177) 148 = .ok (.if_icmp .lt 12, 3) := by decide +kernel
theorem d_177_151 : decode (cM 177) 151 = .ok (.aload_n 0, 1) := by decide +kernel
theorem d_177_152 : decode (cM 177) 152 = .ok (.getfield 171, 3) := by decide +kernel
theorem d_177_155 : decode (cM 177) 155 = .ok (.bipush 10, 2) := by decide +kernel
theorem d_177_157 : decode (cM 177) 157 = .ok (.if_icmp .le 9, 3) := by decide +kernel
theorem d_177_160 : decode (cM 177) 160 = .ok (.aload_n 0, 1) := by decide +kernel
theorem d_177_161 : decode (cM 177) 161 = .ok (.iconst 1, 1) := by decide +kernel
theorem d_177_162 : decode (cM 177) 162 = .ok (.invokevirtual 184, 3) := by decide +kernel
theorem kc_177_162 : callT (oM 177) 184 = some (0, 154, 1) ∧ fok 177 154 = true ∧ stM 154 = false := by decide +kernel
theorem d_177_165 : decode (cM 177) 165 = .ok (.ireturn, 1) := by decide +kernel
theorem d_177_166 : decode (cM 177) 166 = .ok (.iconst 3, 1) := by decide +kernel
theorem d_177_167 : decode (cM 177) 167 = .ok (.aload_n 0, 1) := by decide +kernel
theorem d_177_168 : decode (cM 177) 168 = .ok (.getfield 171, 3) := by decide +kernel
theorem d_177_171 : decode (cM 177) 171 = .ok (.iadd, 1) := by decide +kernel
theorem d_177_172 : decode (cM 177) 172 = .ok (.bipush 8, 2) := by decide +kernel
theorem d_177_174 : decode (cM 177) 174 = .ok (.isub, 1) := by decide +kernel
theorem d_177_175 : decode (cM 177) 175 = .ok (.istore_n 2, 1) := by decide +kernel
theorem d_177_176 : decode (cM 177) 176 = .ok (.aload_n 0, 1) := by decide +kernel
theorem d_177_177 : decode (cM 177) 177 = .ok (.getfield 51, 3) := by decide +kernel
theorem d_177_180 : decode (cM 177) 180 = .ok (.iload_n 2, 1) := by decide +kernel
theorem d_177_181 : decode (cM 177) 181 = .ok (.baload, 1) := by decide +kernel
theorem d_177_182 : decode (cM 177) 182 = .ok (.ifCond .eq 9, 3) := by decide +kernel
theorem d_177_185 : decode (cM 177) 185 = .ok (.aload_n 0, 1) := by decide +kernel
theorem d_177_186 : decode (cM 177) 186 = .ok (.iconst 3, 1) := by decide +kernel
theorem d_177_187 : decode (cM 177) 187 = .ok (.invokevirtual 184, 3) := by decide +kernel
theorem kc_177_187 : callT (oM 177) 184 = some (0, 154, 1) ∧ fok 177 154 = true ∧ stM 154 = false := by decide +kernel
theorem d_177_190 : decode (cM 177) 190 = .ok (.ireturn, 1) := by decide +kernel
theorem d_177_191 : decode (cM 177) 191 = .ok (.aload_n 0, 1) := by decide +kernel
theorem d_177_192 : decode (cM 177) 192 = .ok (.getfield 51, 3) := by decide +kernel
theorem d_177_195 : decode (cM 177) 195 = .ok (.iload_n 2, 1) := by decide +kernel
theorem d_177_196 : decode (cM 177) 196 = .ok (.iconst 1, 1) := by decide +kernel
theorem d_177_197 : decode (cM 177) 197 = .ok (.bastore, 1) := by decide +kernel
theorem d_177_198 : decode (cM 177) 198 = .ok (.aload_n 0, 1) := by decide +kernel
theorem d_177_199 : decode (cM 177) 199 = .ok (.invokevirtual 194, 3) := by decide +kernel
theorem kc_177_199 : callT (oM 177) 194 = some (0, 158, 0) ∧ fok 177 158 = true ∧ stM 158 = false := by decide +kernel
theorem d_177_202 : decode (cM 177) 202 = .ok (.aload_n 0, 1) := by decide +kernel
theorem d_177_203 : decode (cM 177) 203 = .ok (.getfield 54, 3) := by decide +kernel
theorem d_177_206 : decode (cM 177) 206 = .ok (.iload_n 2, 1) := by decide +kernel
theorem d_177_207 : decode (cM 177) 207 = .ok (.aload_n 0, 1) := by decide +kernel
theorem d_177_208 : decode (cM 177) 208 = .ok (.getfield 216, 3) := by decide +kernel
theorem d_177_211 : decode (cM 177) 211 = .ok (.iastore, 1) := by decide +kernel
theorem d_177_212 : decode (cM 177) 212 = .ok (.aload_n 0, 1) := by decide +kernel
theorem d_177_213 : decode (cM 177) 213 = .ok (.invokevirtual 280, 3) := by decide +kernel
theorem kc_177_213 : callT (oM 177) 280 = some (0, 190, 0) ∧ fok 177 190 = true ∧ stM 190 = false := by decide +kernel
theorem d_177_216 : decode (cM 177) 216 = .ok (.istore_n 1, 1) := by decide +kernel
theorem d_177_217 : decode (cM 177) 217 = .ok (.aload_n 0, 1) := by decide +kernel
theorem d_177_218 : decode (cM 177) 218 = .ok (.getfield 57, 3) := by decide +kernel
theorem d_177_221 : decode (cM 177) 221 = .ok (.iload_n 2, 1) := by decide +kernel
theorem d_177_222 : decode (cM 177) 222 = .ok (.aload_n 0, 1) := by decide +kernel
theorem d_177_223 : decode (cM 177) 223 = .ok (.getfield 216, 3) := by decide +kernel
theorem d_177_226 : decode (cM 177) 226 = .ok (.iastore, 1) := by decide +kernel
theorem d_177_227 : decode (cM 177) 227 = .ok (.iload_n 1, 1) := by decide +kernel
theorem d_177_228 : decode (cM 177) 228 = .ok (.ifCond .ne 5, 3) := by decide +kernel
theorem d_177_231 : decode (cM 177) 231 = .ok (.iconst 0, 1) := by decide +kernel
theorem d_177_232 : decode (cM 177) 232 = .ok (.ireturn, 1) := by decide +kernel
theorem d_177_233 : decode (cM 177) 233 = .ok (.aload_n 0, 1) := by decide +kernel
theorem d_177_234 : decode (cM 177) 234 = .ok (.bipush 59, 2) := by decide +kernel
theorem d_177_236 : decode (cM 177) 236 = .ok (.invokevirtual 197, 3) := by decide +kernel
theorem kc_177_236 : callT (oM 177) 197 = some (0, 162, 1) ∧ fok 177 162 = true ∧ stM 162 = false := by decide +kernel
theorem d_177_239 : decode (cM 177) 239 = .ok (.ifCond .ne 9, 3) := by decide +kernel
theorem d_177_242 : decode (cM 177) 242 = .ok (.aload_n 0, 1) := by decide +kernel
theorem d_177_243 : decode (cM 177) 243 = .ok (.iconst 1, 1) := by decide +kernel
theorem d_177_244 : decode (cM 177) 244 = .ok (.invokevirtual 184, 3) := by decide +kernel
theorem kc_177_244 : callT (oM 177) 184 = some (0, 154, 1) ∧ fok 177 154 = true ∧ stM 154 = false := by decide +kernel
theorem d_177_247 : decode (cM 177) 247 = .ok (.ireturn, 1) := by decide +kernel
theorem d_177_248 : decode (cM 177) 248 = .ok (.aload_n 0, 1) := by decide +kernel
theorem d_177_249 : decode (cM 177) 249 = .ok (.invokevirtual 194, 3) := by decide +kernel
theorem kc_177_249 : callT (oM 177) 194 = some (0, 158, 0) ∧ fok 177 158 = true ∧ stM 158 = false := by decide +kernel
theorem d_177_252 : decode (cM 177) 252 = .ok (.iconst 1, 1) := by decide +kernel
theorem d_177_253 : decode (cM 177) 253 = .ok (.ireturn, 1) := by decide +kernel
theorem d_178_0 : decode (cM 178) 0 = .ok (.aload_n 0, 1) := by decide +kernel
theorem d_178_1 : decode (cM 178) 1 = .ok (.iconst 0, 1) := by decide +kernel
theorem d_178_2 : decode (cM 178) 2 = .ok (.putfield 142, 3) := by decide +kernel
theorem d_178_5 : decode (cM 178) 5 = .ok (.iload_n 1, 1) := by decide +kernel
theorem d_178_6 : decode (cM 178) 6 = .ok (.ifCond .lt 11, 3) := by decide +kernel
theorem d_178_9 : decode (cM 178) 9 = .ok (.iload_n 1, 1) := by decide +kernel
theorem d_178_10 : decode (cM 178) 10 = .ok (.aload_n 0, 1) := by decide +kernel
theorem d_178_11 : decode (cM 178) 11 = .ok (.getfield 145, 3) := by decide +kernel
theorem d_178_14 : decode (cM 178) 14 = .ok (.if_icmp .le 6, 3) := by decide +kernel
theorem d_178_17 : decode (cM 178) 17 = .ok (.bipush (-2), 2) := by decide +kernel
theorem d_178_19 : decode (cM 178) 19 = .ok (.ireturn, 1) := by decide +kernel
theorem d_178_20 : decode (cM 178) 20 = .ok (.aload_n 0, 1) := by decide +kernel
theorem d_178_21 : decode (cM 178) 21 = .ok (.iload_n 1, 1) := by decide +kernel
theorem d_178_22 : decode (cM 178) 22 = .ok (.putfield 154, 3) := by decide +kernel
theorem d_178_25 : decode (cM 178) 25 = .ok (.aload_n 0, 1) := by decide +kernel
theorem d_178_26 : decode (cM 178) 26 = .ok (.iconst 0, 1) := by decide +kernel
theorem d_178_27 : decode (cM 178) 27 = .ok (.putfield 145, 3) := by decide +kernel
theorem d_178_30 : decode (cM 178) 30 = .ok (.aload_n 0, 1) := by decide +kernel
theorem d_178_31 : decode (cM 178) 31 = .ok (.iconst 0, 1) := by decide +kernel
theorem d_178_32 : decode (cM 178) 32 = .ok (.putfield 148, 3) := by decide +kernel
theorem d_178_35 : decode (cM 178) 35 = .ok (.aload_n 0, 1) := by decide +kernel
theorem d_178_36 : decode (cM 178) 36 = .ok (.iconst (-1), 1) := by decide +kernel
theorem d_178_37 : decode (cM 178) 37 = .ok (.putfield 16, 3) := by decide +kernel
theorem d_178_40 : decode (cM 178) 40 = .ok (.aload_n 0, 1) := by decide +kernel
theorem d_178_41 : decode (cM 178) 41 = .ok (.iconst 0, 1) := by decide +kernel
theorem d_178_42 : decode (cM 178) 42 = .ok (.putfield 157, 3) := by decide +kernel
theorem d_178_45 : decode (cM 178) 45 = .ok (.aload_n 0, 1) := by decide +kernel
theorem d_178_46 : decode (cM 178) 46 = .ok (.invokevirtual 136, 3) := by decide +kernel
theorem kc_178_46 : callT (oM 178) 136 = some (0, 164, 0) ∧ fok 178 164 = true ∧ stM 164 = false := by decide +kernel
theorem d_178_49 : decode (cM 178) 49 = .ok (.aload_n 0, 1) := by decide +kernel
theorem d_178_50 : decode (cM 178) 50 = .ok (.invokevirtual 194, 3) := by decide +kernel
theorem kc_178_50 : callT (oM 178) 194 = some (0, 158, 0) ∧ fok 178 158 = true ∧ stM 158 = false := by decide +kernel
theorem d_178_53 : decode (cM 178) 53 = .ok (.iconst 0, 1) := by decide +kernel
theorem d_178_54 : decode (cM 178) 54 = .ok (.istore_n 2, 1) := by decide +kernel
theorem d_178_55 : decode (cM 178) 55 = .ok (.aload_n 0, 1) := by decide +kernel
theorem d_178_56 : decode (cM 178) 56 = .ok (.getfield 160, 3) := by decide +kernel
theorem d_178_59 : decode (cM 178) 59 = .ok (.ifCond .eq 18, 3) := by decide +kernel
theorem d_178_62 : decode (cM 178) 62 = .ok (.aload_n 0, 1) := by decide +kernel
theorem d_178_63 : decode (cM 178) 63 = .ok (.invokevirtual 283, 3) := by decide +kernel
theorem kc_178_63 : callT (oM 178) 283 = some (0, 177, 0) ∧ fok 178 177 = true ∧ stM 177 = false := by decide +kernel
theorem d_178_66 : decode (cM 178) 66 = .ok (.ifCond .ne 5, 3) := by decide +kernel
theorem d_178_69 : decode (cM 178) 69 = .ok (.iconst (-1), 1) := by decide +kernel
theorem d_178_70 : decode (cM 178) 70 = .ok (.ireturn, 1) := by decide +kernel
theorem d_178_71 : decode (cM 178) 71 = .ok (.iinc 2 1, 3) := by decide +kernel
theorem d_178_74 : decode (cM 178) 74 = .ok (.goto (-19), 3) := by decide +kernel
theorem d_178_77 : decode (cM 178) 77 = .ok (.aload_n 0, 1) := by decide +kernel
theorem d_178_78 : decode (cM 178) 78 = .ok (.invokevirtual 139, 3) := by decide +kernel
theorem kc_178_78 : callT (oM 178) 139 = some (0, 166, 0) ∧ fok 178 166 = true ∧ stM 166 = false := by decide +kernel
theorem d_178_81 : decode (cM 178) 81 = .ok (.iload_n 2, 1) := by decide +kernel
theorem d_178_82 : decode (cM 178) 82 = .ok (.ireturn, 1) := by decide +kernel
theorem d_179_0 : decode (cM 179) 0 = .ok (.aload_n 0, 1) := by decide +kernel
theorem d_179_1 : decode (cM 179) 1 = .ok (.iconst 0, 1) := by decide +kernel
theorem d_179_2 : decode (cM 179) 2 = .ok (.putfield 142, 3) := by decide +kernel
theorem d_179_5 : decode (cM 179) 5 = .ok (.iload_n 1, 1) := by decide +kernel
theorem d_179_6 : decode (cM 179) 6 = .ok (.ifCond .ne 10, 3) := by decide +kernel
theorem d_179_9 : decode (cM 179) 9 = .ok (.aload_n 0, 1) := by decide +kernel
theorem d_179_10 : decode (cM 179) 10 = .ok (.getfield 148, 3) := by decide +kernel
theorem d_179_13 : decode (cM 179) 13 = .ok (.goto 16, 3) := by decide +kernel
theorem d_179_16 : decode (cM 179) 16 = .ok (.iload_n 1, 1) := by decide +kernel
theorem d_179_17 : decode (cM 179) 17 = .ok (.iconst 1, 1) := by decide +kernel
theorem d_179_18 : decode (cM 179) 18 = .ok (.if_icmp .ne 10, 3) := by decide +kernel
theorem d_179_21 : decode (cM 179) 21 = .ok (.aload_n 0, 1) := by decide +kernel
theorem d_179_22 : decode (cM 179) 22 = .ok (.getfield 16, 3) := by decide +kernel
theorem d_179_25 : decode (cM 179) 25 = .ok (.goto 4, 3) := by decide +kernel
theorem d_179_28 : decode (cM 179) 28 = .ok (.iconst (-1), 1) := by decide +kernel
theorem d_179_29 : decode (cM 179) 29 = .ok (.ireturn, 1) := by decide +kernel
theorem d_180_0 : decode (cM 180) 0 = .ok (.aload_n 0, 1) := by decide +kernel
theorem d_180_1 : decode (cM 180) 1 = .ok (.iconst 0, 1) := by decide +kernel
theorem d_180_2 : decode (cM 180) 2 = .ok (.putfield 142, 3) := by decide +kernel
theorem d_180_5 : decode (cM 180) 5 = .ok (.iload_n 1, 1) := by decide +kernel
theorem d_180_6 : decode (cM 180) 6 = .ok (.ifCond .ne 19, 3) := by decide +kernel
theorem d_180_9 : decode (cM 180) 9 = .ok (.aload_n 0, 1) := by decide +kernel
theorem d_180_10 : decode (cM 180) 10 = .ok (.getfield 30, 3) := by decide +kernel
theorem d_180_13 : decode (cM 180) 13 = .ok (.iconst 0, 1) := by decide +kernel
theorem d_180_14 : decode (cM 180) 14 = .ok (.aload_n 0, 1) := by decide +kernel
theorem d_180_15 : decode (cM 180) 15 = .ok (.getfield 222, 3) := by decide +kernel
theorem d_180_18 : decode (cM 180) 18 = .ok (.iload_n 2, 1) := by decide +kernel
theorem d_180_19 : decode (cM 180) 19 = .ok (.invokestatic 244, 3) := by decide +kernel
theorem kc_180_19 : callT (oM 180) 244 = some (1, 167, 4) ∧ fok 180 167 = true ∧ stM 167 = true := by decide +kernel
theorem d_180_22 : decode (cM 180) 22 = .ok (.goto 25, 3) := by decide +kernel
theorem d_180_25 : decode (cM 180) 25 = .ok (.iload_n 1, 1) := by decide +kernel
theorem d_180_26 : decode (cM 180) 26 = .ok (.iconst 1, 1) := by decide +kernel
theorem d_180_27 : decode (cM 180) 27 = .ok (.if_icmp .ne 19, 3) := by decide +kernel
theorem d_180_30 : decode (cM 180) 30 = .ok (.aload_n 0, 1) := by decide +kernel
theorem d_180_31 : decode (cM 180) 31 = .ok (.getfield 33, 3) := by decide +kernel
theorem d_180_34 : decode (cM 180) 34 = .ok (.iconst 0, 1) := by decide +kernel
theorem d_180_35 : decode (cM 180) 35 = .ok (.aload_n 0, 1) := by decide +kernel
theorem d_180_36 : decode (cM 180) 36 = .ok (.getfield 225, 3) := by decide +kernel
theorem d_180_39 : decode (cM 180) 39 = .ok (.iload_n 2, 1) := by decide +kernel
theorem d_180_40 : decode (cM 180) 40 = .ok (.invokestatic 244, 3) := by decide +kernel
theorem kc_180_40 : callT (oM 180) 244 = some (1, 167, 4) ∧ fok 180 167 = true ∧ stM 167 = true := by decide +kernel
theorem d_180_43 : decode (cM 180) 43 = .ok (.goto 4, 3) := by decide +kernel
theorem d_180_46 : decode (cM 180) 46 = .ok (.iconst (-1), 1) := by decide +kernel
theorem d_180_47 : decode (cM 180) 47 = .ok (.ireturn, 1) := by decide +kernel
theorem d_181_0 : decode (cM 181) 0 = .ok (.iload_n 0, 1) := by decide +kernel
theorem d_181_1 : decode (cM 181) 1 = .ok (.bipush 13, 2) := by decide +kernel
theorem d_181_3 : decode (cM 181) 3 = .ok (.if_icmp .lt 8, 3) := by decide +kernel
theorem d_181_6 : decode (cM 181) 6 = .ok (.bipush 6, 2) := by decide +kernel
theorem d_181_8 : decode (cM 181) 8 = .ok (.goto 50, 3) := by decide +kernel
theorem d_181_11 : decode (cM 181) 11 = .ok (.iload_n 0, 1) := by decide +kernel
theorem d_181_12 : decode (cM 181) 12 = .ok (.bipush 11, 2) := by decide +kernel
theorem d_181_14 : decode (cM 181) 14 = .ok (.if_icmp .lt 7, 3) := by decide +kernel
theorem d_181_17 : decode (cM 181) 17 = .ok (.iconst 5, 1) := by decide +kernel
theorem d_181_18 : decode (cM 181) 18 = .ok (.goto 40, 3) := by decide +kernel
theorem d_181_21 : decode (cM 181) 21 = .ok (.iload_n 0, 1) := by decide +kernel
theorem d_181_22 : decode (cM 181) 22 = .ok (.iconst 5, 1) := by decide +kernel
theorem d_181_23 : decode (cM 181) 23 = .ok (.if_icmp .lt 7, 3) := by decide +kernel
theorem d_181_26 : decode (cM 181) 26 = .ok (.iconst 4, 1) := by decide +kernel
theorem d_181_27 : decode (cM 181) 27 = .ok (.goto 31, 3) := by decide +kernel
theorem d_181_30 : decode (cM 181) 30 = .ok (.iload_n 0, 1) := by decide +kernel
theorem d_181_31 : decode (cM 181) 31 = .ok (.iconst 2, 1) := by decide +kernel
theorem d_181_32 : decode (cM 181) 32 = .ok (.if_icmp .ne 7, 3) := by decide +kernel
theorem d_181_35 : decode (cM 181) 35 = .ok (.iconst 3, 1) := by decide +kernel
theorem d_181_36 : decode (cM 181) 36 = .ok (.goto 22, 3) := by decide +kernel
theorem d_181_39 : decode (cM 181) 39 = .ok (.iload_n 0, 1) := by decide +kernel
theorem d_181_40 : decode (cM 181) 40 = .ok (.iconst 3, 1) := by decide +kernel
theorem d_181_41 : decode (cM 181) 41 = .ok (.if_icmp .ne 7, 3) := by decide +kernel
theorem d_181_44 : decode (cM 181) 44 = .ok (.iconst 2, 1) := by decide +kernel
theorem d_181_45 : decode (cM 181) 45 = .ok (.goto 13, 3) := by decide +kernel
theorem d_181_48 : decode (cM 181) 48 = .ok (.iload_n 0, 1) := by decide +kernel
theorem d_181_49 : decode (cM 181) 49 = .ok (.iconst 4, 1) := by decide +kernel
theorem d_181_50 : decode (cM 181) 50 = .ok (.if_icmp .ne 7, 3) := by decide +kernel
theorem d_181_53 : decode (cM 181) 53 = .ok (.iconst 1, 1) := by decide +kernel
theorem d_181_54 : decode (cM 181) 54 = .ok (.goto 4, 3) := by decide +kernel
theorem d_181_57 : decode (cM 181) 57 = .ok (.iconst 0, 1) := by decide +kernel
theorem d_181_58 : decode (cM 181) 58 = .ok (.ireturn, 1) := by decide +kernel
theorem d_182_0 : decode (cM 182) 0 = .ok (.aload_n 0, 1) := by decide +kernel
theorem d_182_1 : decode (cM 182) 1 = .ok (.getfield 60, 3) := by decide +kernel
theorem d_182_4 : decode (cM 182) 4 = .ok (.bipush 64, 2) := by decide +kernel
theorem d_182_6 : decode (cM 182) 6 = .ok (.aload_n 0, 1) := by decide +kernel
theorem d_182_7 : decode (cM 182) 7 = .ok (.getfield 216, 3) := by decide +kernel
theorem d_182_10 : decode (cM 182) 10 = .ok (.iadd, 1) := by decide +kernel
theorem d_182_11 : decode (cM 182) 11 = .ok (.iload_n 1, 1) := by decide +kernel
theorem d_182_12 : decode (cM 182) 12 = .ok (.iastore, 1) := by decide +kernel
theorem d_182_13 : decode (cM 182) 13 = .ok (.aload_n 0, 1) := by decide +kernel
theorem d_182_14 : decode (cM 182) 14 = .ok (.getfield 63, 3) := by decide +kernel
theorem d_182_17 : decode (cM 182) 17 = .ok (.bipush 64, 2) := by decide +kernel
theorem d_182_19 : decode (cM 182) 19 = .ok (.aload_n 0, 1) := by decide +kernel
theorem d_182_20 : decode (cM 182) 20 = .ok (.getfield 216, 3) := by decide +kernel
theorem d_182_23 : decode (cM 182) 23 = .ok (.iadd, 1) := by decide +kernel
theorem d_182_24 : decode (cM 182) 24 = .ok (.iload_n 2, 1) := by decide +kernel
theorem d_182_25 : decode (cM 182) 25 = .ok (.iastore, 1) := by decide +kernel
theorem d_182_26 : decode (cM 182) 26 = .ok (.aload_n 0, 1) := by decide +kernel
theorem d_182_27 : decode (cM 182) 27 = .ok (.getfield 66, 3) := by decide +kernel
theorem d_182_30 : decode (cM 182) 30 = .ok (.bipush 64, 2) := by decide +kernel
theorem d_182_32 : decode (cM 182) 32 = .ok (.aload_n 0, 1) := by decide +kernel
theorem d_182_33 : decode (cM 182) 33 = .ok (.getfield 216, 3) := by decide +kernel
theorem d_182_36 : decode (cM 182) 36 = .ok (.iadd, 1) := by decide +kernel
theorem d_182_37 : decode (cM 182) 37 = .ok (.iload_n 3, 1) := by decide +kernel
theorem d_182_38 : decode (cM 182) 38 = .ok (.iastore, 1) := by decide +kernel
theorem d_182_39 : decode (cM 182) 39 = .ok (.aload_n 0, 1) := by decide +kernel
theorem d_182_40 : decode (cM 182) 40 = .ok (.getfield 72, 3) := by decide +kernel
theorem d_182_43 : decode (cM 182) 43 = .ok (.aload_n 0, 1) := by decide +kernel
theorem d_182_44 : decode (cM 182) 44 = .ok (.getfield 286, 3) := by decide +kernel
theorem d_182_47 : decode (cM 182) 47 = .ok (.aload_n 0, 1) := by decide +kernel
theorem d_182_48 : decode (cM 182) 48 = .ok (.getfield 216, 3) := by decide +kernel
theorem d_182_51 : decode (cM 182) 51 = .ok (.iastore, 1) := by decide +kernel
theorem d_182_52 : decode (cM 182) 52 = .ok (.aload_n 0, 1) := by decide +kernel
theorem d_182_53 : decode (cM 182) 53 = .ok (.dup, 1) := by decide +kernel
theorem d_182_54 : decode (cM 182) 54 = .ok (.getfield 286, 3) := by decide +kernel
theorem d_182_57 : decode (cM 182) 57 = .ok (.iconst 1, 1) := by decide +kernel
theorem d_182_58 : decode (cM 182) 58 = .ok (.iadd, 1) := by decide +kernel
theorem d_182_59 : decode (cM 182) 59 = .ok (.putfield 286, 3) := by decide +kernel
theorem d_182_62 : decode (cM 182) 62 = .ok (.aload_n 0, 1) := by decide +kernel
theorem d_182_63 : decode (cM 182) 63 = .ok (.dup, 1) := by decide +kernel
theorem d_182_64 : decode (cM 182) 64 = .ok (.getfield 216, 3) := by decide +kernel
theorem d_182_67 : decode (cM 182) 67 = .ok (.iconst 1, 1) := by decide +kernel
theorem d_182_68 : decode (cM 182) 68 = .ok (.iadd, 1) := by decide +kernel
theorem d_182_69 : decode (cM 182) 69 = .ok (.putfield 216, 3) := by decide +kernel
theorem d_182_72 : decode (cM 182) 72 = .ok (.return_, 1) := by decide +kernel
theorem d_183_0 : decode (cM 183) 0 = .ok (.aload_n 0, 1) := by decide +kernel
theorem d_183_1 : decode (cM 183) 1 = .ok (.dup, 1) := by decide +kernel
theorem d_183_2 : decode (cM 183) 2 = .ok (.getfield 286, 3) := by decide +kernel
theorem d_183_5 : decode (cM 183) 5 = .ok (.iconst 1, 1) := by decide +kernel
theorem d_183_6 : decode (cM 183) 6 = .ok (.isub, 1) := by decide +kernel
theorem d_183_7 : decode (cM 183) 7 = .ok (.putfield 286, 3) := by decide +kernel
theorem d_183_10 : decode (cM 183) 10 = .ok (.aload_n 0, 1) := by decide +kernel
theorem d_183_11 : decode (cM 183) 11 = .ok (.getfield 72, 3) := by decide +kernel
theorem d_183_14 : decode (cM 183) 14 = .ok (.aload_n 0, 1) := by decide +kernel
theorem d_183_15 : decode (cM 183) 15 = .ok (.getfield 286, 3) := by decide +kernel
theorem d_183_18 : decode (cM 183) 18 = .ok (.iaload, 1) := by decide +kernel
theorem d_183_19 : decode (cM 183) 19 = .ok (.ireturn, 1) := by decide +kernel
theorem d_184_0 : decode (cM 184) 0 = .ok (.aload_n 0, 1) := by decide +kernel
theorem d_184_1 : decode (cM 184) 1 = .ok (.getfield 289, 3) := by decide +kernel
theorem d_184_4 : decode (cM 184) 4 = .ok (.ifCond .le 72, 3) := by decide +kernel
theorem d_184_7 : decode (cM 184) 7 = .ok (.aload_n 0, 1) := by decide +kernel
theorem d_184_8 : decode (cM 184) 8 = .ok (.getfield 69, 3) := by decide +kernel
theorem d_184_11 : decode (cM 184) 11 = .ok (.aload_n 0, 1) := by decide +kernel
theorem d_184_12 : decode (cM 184) 12 = .ok (.getfield 289, 3) := by decide +kernel
theorem d_184_15 : decode (cM 184) 15 = .ok (.iconst 1, 1) := by decide +kernel
theorem d_184_16 : decode (cM 184) 16 = .ok (.isub, 1) := by decide +kernel
theorem d_184_17 : decode (cM 184) 17 = .ok (.iaload, 1) := by decide +kernel
theorem d_184_18 : decode (cM 184) 18 = .ok (.invokestatic 292, 3) := by decide +kernel
theorem kc_184_18 : callT (oM 184) 292 = some (1, 181, 1) ∧ fok 184 181 = true ∧ stM 181 = true := by decide +kernel
theorem d_184_21 : decode (cM 184) 21 = .ok (.iload_n 1, 1) := by decide +kernel
theorem d_184_22 : decode (cM 184) 22 = .ok (.if_icmp .lt 54, 3) := by decide +kernel
theorem d_184_25 : decode (cM 184) 25 = .ok (.aload_n 0, 1) := by decide +kernel
theorem d_184_26 : decode (cM 184) 26 = .ok (.dup, 1) := by decide +kernel
theorem d_184_27 : decode (cM 184) 27 = .ok (.getfield 289, 3) := by decide +kernel
theorem d_184_30 : decode (cM 184) 30 = .ok (.iconst 1, 1) := by decide +kernel
theorem d_184_31 : decode (cM 184) 31 = .ok (.isub, 1) := by decide +kernel
theorem d_184_32 : decode (cM 184) 32 = .ok (.putfield 289, 3) := by decide +kernel
theorem d_184_35 : decode (cM 184) 35 = .ok (.aload_n 0, 1) := by decide +kernel
theorem d_184_36 : decode (cM 184) 36 = .ok (.getfield 69, 3) := by decide +kernel
theorem d_184_39 : decode (cM 184) 39 = .ok (.aload_n 0, 1) := by decide +kernel
theorem d_184_40 : decode (cM 184) 40 = .ok (.getfield 289, 3) := by decide +kernel
theorem d_184_43 : decode (cM 184) 43 = .ok (.iaload, 1) := by decide +kernel
theorem d_184_44 : decode (cM 184) 44 = .ok (.istore_n 2, 1) := by decide +kernel
theorem d_184_45 : decode (cM 184) 45 = .ok (.iload_n 2, 1) := by decide +kernel
theorem d_184_46 : decode (cM 184) 46 = .ok (.iconst 2, 1) := by decide +kernel
theorem d_184_47 : decode (cM 184) 47 = .ok (.if_icmp .ne 7, 3) := by decide +kernel
theorem d_184_50 : decode (cM 184) 50 = .ok (.iconst (-1), 1) := by decide +kernel
theorem d_184_51 : decode (cM 184) 51 = .ok (.goto 7, 3) := by decide +kernel
theorem d_184_54 : decode (cM 184) 54 = .ok (.aload_n 0, 1) := by decide +kernel
theorem d_184_55 : decode (cM 184) 55 = .ok (.invokevirtual 296, 3) := by decide +kernel
theorem kc_184_55 : callT (oM 184) 296 = some (0, 183, 0) ∧ fok 184 183 = true ∧ stM 183 = false := by decide +kernel
theorem d_184_58 : decode (cM 184) 58 = .ok (.istore_n 3, 1) := by decide +kernel
theorem d_184_59 : decode (cM 184) 59 = .ok (.aload_n 0, 1) := by decide +kernel
theorem d_184_60 : decode (cM 184) 60 = .ok (.invokevirtual 296, 3) := by decide +kernel
theorem kc_184_60 : callT (oM 184) 296 = some (0, 183, 0) ∧ fok 184 183 = true ∧ stM 183 = false := by decide +kernel
theorem d_184_63 : decode (cM 184) 63 = .ok (.istore 4, 2) := by decide +kernel
theorem d_184_65 : decode (cM 184) 65 = .ok (.aload_n 0, 1) := by decide +kernel
theorem d_184_66 : decode (cM 184) 66 = .ok (.iload_n 2, 1) := by decide +kernel
theorem d_184_67 : decode (cM 184) 67 = .ok (.iload 4, 2) := by decide +kernel
theorem d_184_69 : decode (cM 184) 69 = .ok (.iload_n 3, 1) := by decide +kernel
theorem d_184_70 : decode (cM 184) 70 = .ok (.invokevirtual 300, 3) := by decide +kernel
theorem kc_184_70 : callT (oM 184) 300 = some (0, 182, 3) ∧ fok 184 182 = true ∧ stM 182 = false := by decide +kernel
theorem d_184_73 : decode (cM 184) 73 = .ok (.goto (-73), 3) := by decide +kernel
theorem d_184_76 : decode (cM 184) 76 = .ok (.return_, 1) := by decide +kernel
theorem d_185_0 : decode (cM 185) 0 = .ok (.aload_n 0, 1) := by decide +kernel
theorem d_185_1 : decode (cM 185) 1 = .ok (.getfield 219, 3) := by decide +kernel
theorem d_185_4 : decode (cM 185) 4 = .ok (.bipush 64, 2) := by decide +kernel
theorem d_185_6 : decode (cM 185) 6 = .ok (.if_icmp .ne 9, 3) := by decide +kernel
theorem d_185_9 : decode (cM 185) 9 = .ok (.aload_n 0, 1) := by decide +kernel
theorem d_185_10 : decode (cM 185) 10 = .ok (.iconst 2, 1) := by decide +kernel
theorem d_185_11 : decode (cM 185) 11 = .ok (.invokevirtual 184, 3) := by decide +kernel
theorem kc_185_11 : callT (oM 185) 184 = some (0, 154, 1) ∧ fok 185 154 = true ∧ stM 154 = false := by decide +kernel
theorem d_185_14 : decode (cM 185) 14 = .ok (.ireturn, 1) := by decide +kernel
theorem d_185_15 : decode (cM 185) 15 = .ok (.aload_n 0, 1) := by decide +kernel
theorem d_185_16 : decode (cM 185) 16 = .ok (.dup, 1) := by decide +kernel
theorem d_185_17 : decode (cM 185) 17 = .ok (.getfield 219, 3) := by decide +kernel
theorem d_185_20 : decode (cM 185) 20 = .ok (.iconst 1, 1) := by decide +kernel
theorem d_185_21 : decode (cM 185) 21 = .ok (.iadd, 1) := by decide +kernel
theorem d_185_22 : decode (cM 185) 22 = .ok (.putfield 219, 3) := by decide +kernel
theorem d_185_25 : decode (cM 185) 25 = .ok (.iconst 1, 1) := by decide +kernel
theorem d_185_26 : decode (cM 185) 26 = .ok (.ireturn, 1) := by decide +kernel
theorem d_186_0 : decode (cM 186) 0 = .ok (.aload_n 0, 1) := by decide +kernel
theorem d_186_1 : decode (cM 186) 1 = .ok (.getfield 69, 3) := by decide +kernel
theorem d_186_4 : decode (cM 186) 4 = .ok (.aload_n 0, 1) := by decide +kernel
theorem d_186_5 : decode (cM 186) 5 = .ok (.getfield 289, 3) := by decide +kernel
theorem d_186_8 : decode (cM 186) 8 = .ok (.iload_n 1, 1) := by decide +kernel
theorem d_186_9 : decode (cM 186) 9 = .ok (.iastore, 1) := by decide +kernel
theorem d_186_10 : decode (cM 186) 10 = .ok (.aload_n 0, 1) := by decide +kernel
theorem d_186_11 : decode (cM 186) 11 = .ok (.dup, 1) := by decide +kernel
theorem d_186_12 : decode (cM 186) 12 = .ok (.getfield 289, 3) := by decide +kernel
theorem d_186_15 : decode (cM 186) 15 = .ok (.iconst 1, 1) := by decide +kernel
theorem d_186_16 : decode (cM 186) 16 = .ok (.iadd, 1) := by decide +kernel
theorem d_186_17 : decode (cM 186) 17 = .ok (.putfield 289, 3) := by decide +kernel
theorem d_186_20 : decode (cM 186) 20 = .ok (.return_, 1) := by decide +kernel
theorem d_187_0 : decode (cM 187) 0 = .ok (.aload_n 0, 1) := by decide +kernel
theorem d_187_1 : decode (cM 187) 1 = .ok (.getfield 160, 3) := by decide +kernel
theorem d_187_4 : decode (cM 187) 4 = .ok (.iconst 1, 1) := by decide +kernel
theorem d_187_5 : decode (cM 187) 5 = .ok (.if_icmp .ne 22, 3) := by decide +kernel
theorem d_187_8 : decode (cM 187) 8 = .ok (.aload_n 0, 1) := by decide +kernel
theorem d_187_9 : decode (cM 187) 9 = .ok (.getfield 171, 3) := by decide +kernel
theorem d_187_12 : decode (cM 187) 12 = .ok (.bipush 14, 2) := by decide +kernel
theorem d_187_14 : decode (cM 187) 14 = .ok (.if_icmp .lt 13, 3) := by decide +kernel
theorem d_187_17 : decode (cM 187) 17 = .ok (.aload_n 0, 1) := by decide +kernel
theorem d_187_18 : decode (cM 187) 18 = .ok (.getfield 171, 3) := by decide +kernel
theorem d_187_21 : decode (cM 187) 21 = .ok (.bipush 14, 2) := by decide +kernel
theorem d_187_23 : decode (cM 187) 23 = .ok (.isub, 1) := by decide +kernel
theorem d_187_24 : decode (cM 187) 24 = .ok (.goto 4, 3) := by decide +kernel
theorem d_187_27 : decode (cM 187) 27 = .ok (.iconst (-1), 1) := by decide +kernel
theorem d_187_28 : decode (cM 187) 28 = .ok (.ireturn, 1) := by decide +kernel
theorem d_188_0 : decode (cM 188) 0 = .ok (.aload_n 0, 1) := by decide +kernel
theorem d_188_1 : decode (cM 188) 1 = .ok (.bipush 40, 2) := by decide +kernel
theorem d_188_3 : decode (cM 188) 3 = .ok (.invokevirtual 197, 3) := by decide +kernel
theorem kc_188_3 : callT (oM 188) 197 = some (0, 162, 1) ∧ fok 188 162 = true ∧ stM 162 = false := by decide +kernel
theorem d_188_6 : decode (cM 188) 6 = .ok (.ifCond .eq 44, 3) := by decide +kernel
theorem d_188_9 : decode (cM 188) 9 = .ok (.aload_n 0, 1) := by decide +kernel
theorem d_188_10 : decode (cM 188) 10 = .ok (.getfield 304, 3) := by decide +kernel
theorem d_188_13 : decode (cM 188) 13 = .ok (.bipush 8, 2) := by decide +kernel
theorem d_188_15 : decode (cM 188) 15 = .ok (.if_icmp .ne 9, 3) := by decide +kernel
theorem d_188_18 : decode (cM 188) 18 = .ok (.aload_n 0, 1) := by decide +kernel
theorem d_188_19 : decode (cM 188) 19 = .ok (.iconst 2, 1) := by decide +kernel
theorem d_188_20 : decode (cM 188) 20 = .ok (.invokevirtual 184, 3) := by decide +kernel
theorem kc_188_20 : callT (oM 188) 184 = some (0, 154, 1) ∧ fok 188 154 = true ∧ stM 154 = false := by decide +kernel
theorem d_188_23 : decode (cM 188) 23 = .ok (.ireturn, 1) := by decide +kernel
theorem d_188_24 : decode (cM 188) 24 = .ok (.aload_n 0, 1) := by decide +kernel
theorem d_188_25 : decode (cM 188) 25 = .ok (.dup, 1) := by decide +kernel
theorem d_188_26 : decode (cM 188) 26 = .ok (.getfield 304, 3) := by decide +kernel
theorem d_188_29 : decode (cM 188) 29 = .ok (.iconst 1, 1) := by decide +kernel
theorem d_188_30 : decode (cM 188) 30 = .ok (.iadd, 1) := by decide +kernel
theorem d_188_31 : decode (cM 188) 31 = .ok (.putfield 304, 3) := by decide +kernel
theorem d_188_34 : decode (cM 188) 34 = .ok (.aload_n 0, 1) := by decide +kernel
theorem d_188_35 : decode (cM 188) 35 = .ok (.iconst 0, 1) := by decide +kernel
theorem d_188_36 : decode (cM 188) 36 = .ok (.invokevirtual 307, 3) := by decide +kernel
theorem kc_188_36 : callT (oM 188) 307 = some (0, 186, 1) ∧ fok 188 186 = true ∧ stM 186 = false := by decide +kernel
theorem d_188_39 : decode (cM 188) 39 = .ok (.aload_n 0, 1) := by decide +kernel
theorem d_188_40 : decode (cM 188) 40 = .ok (.iconst 1, 1) := by decide +kernel
theorem d_188_41 : decode (cM 188) 41 = .ok (.putfield 311, 3) := by decide +kernel
theorem d_188_44 : decode (cM 188) 44 = .ok (.aload_n 0, 1) := by decide +kernel
theorem d_188_45 : decode (cM 188) 45 = .ok (.invokevirtual 194, 3) := by decide +kernel
theorem kc_188_45 : callT (oM 188) 194 = some (0, 158, 0) ∧ fok 188 158 = true ∧ stM 158 = false := by decide +kernel
theorem d_188_48 : decode (cM 188) 48 = .ok (.iconst 1, 1) := by decide +kernel
theorem d_188_49 : decode (cM 188) 49 = .ok (.ireturn, 1) := by decide +kernel
theorem d_188_50 : decode (cM 188) 50 = .ok (.aload_n 0, 1) := by decide +kernel
theorem d_188_51 : decode (cM 188) 51 = .ok (.bipush 13, 2) := by decide +kernel
theorem d_188_53 : decode (cM 188) 53 = .ok (.invokevirtual 315, 3) := by decide +kernel
theorem kc_188_53 : callT (oM 188) 315 = some (0, 161, 1) ∧ fok 188 161 = true ∧ stM 161 = false := by decide +kernel
theorem d_188_56 : decode (cM 188) 56 = .ok (.ifCond .eq 30, 3) := by decide +kernel
theorem d_188_59 : decode (cM 188) 59 = .ok (.aload_n 0, 1) := by decide +kernel
theorem d_188_60 : decode (cM 188) 60 = .ok (.getfield 311, 3) := by decide +kernel
theorem d_188_63 : decode (cM 188) 63 = .ok (.ifCond .eq 23, 3) := by decide +kernel
theorem d_188_66 : decode (cM 188) 66 = .ok (.aload_n 0, 1) := by decide +kernel
theorem d_188_67 : decode (cM 188) 67 = .ok (.invokevirtual 318, 3) := by decide +kernel
theorem kc_188_67 : callT (oM 188) 318 = some (0, 185, 0) ∧ fok 188 185 = true ∧ stM 185 = false := by decide +kernel
theorem d_188_70 : decode (cM 188) 70 = .ok (.ifCond .ne 5, 3) := by decide +kernel
theorem d_188_73 : decode (cM 188) 73 = .ok (.iconst 0, 1) := by decide +kernel
theorem d_188_74 : decode (cM 188) 74 = .ok (.ireturn, 1) := by decide +kernel
theorem d_188_75 : decode (cM 188) 75 = .ok (.aload_n 0, 1) := by decide +kernel
theorem d_188_76 : decode (cM 188) 76 = .ok (.iconst 2, 1) := by decide +kernel
theorem d_188_77 : decode (cM 188) 77 = .ok (.invokevirtual 307, 3) := by decide +kernel
theorem kc_188_77 : callT (oM 188) 307 = some (0, 186, 1) ∧ fok 188 186 = true ∧ stM 186 = false := by decide +kernel
theorem d_188_80 : decode (cM 188) 80 = .ok (.aload_n 0, 1) := by decide +kernel
theorem d_188_81 : decode (cM 188) 81 = .ok (.invokevirtual 194, 3) := by decide +kernel
theorem kc_188_81 : callT (oM 188) 194 = some (0, 158, 0) ∧ fok 188 158 = true ∧ stM 158 = false := by decide +kernel
theorem d_188_84 : decode (cM 188) 84 = .ok (.iconst 1, 1) := by decide +kernel
theorem d_188_85 : decode (cM 188) 85 = .ok (.ireturn, 1) := by decide +kernel
theorem d_188_86 : decode (cM 188) 86 = .ok (.aload_n 0, 1) := by decide +kernel
theorem d_188_87 : decode (cM 188) 87 = .ok (.invokevirtual 321, 3) := by decide +kernel
theorem kc_188_87 : callT (oM 188) 321 = some (0, 187, 0) ∧ fok 188 187 = true ∧ stM 187 = false := by decide +kernel
theorem d_188_90 : decode (cM 188) 90 = .ok (.istore_n 1, 1) := by decide +kernel
theorem d_188_91 : decode (cM 188) 91 = .ok (.iload_n 1, 1) := by decide +kernel
theorem d_188_92 : decode (cM 188) 92 = .ok (.ifCond .ge 17, 3) := by decide +kernel
theorem d_188_95 : decode (cM 188) 95 = .ok (.aload_n 0, 1) := by decide +kernel
theorem d_188_96 : decode (cM 188) 96 = .ok (.getfield 160, 3) := by decide +kernel
theorem d_188_99 : decode (cM 188) 99 = .ok (.iconst 3, 1) := by decide +kernel
theorem d_188_100 : decode (cM 188) 100 = .ok (.if_icmp .eq 9, 3) := by decide +kernel
theorem d_188_103 : decode (cM 188) 103 = .ok (.aload_n 0, 1) := by decide +kernel
theorem d_188_104 : decode (cM 188) 104 = .ok (.iconst 1, 1) := by decide +kernel
theorem d_188_105 : decode (cM 188) 105 = .ok (.invokevirtual 184, 3) := by decide +kernel
theorem kc_188_105 : callT (oM 188) 184 = some (0, 154, 1) ∧ fok 188 154 = true ∧ stM 154 = false := by decide +kernel
theorem d_188_108 : decode (cM 188) 108 = .ok (.ireturn, 1) := by decide +kernel
theorem d_188_109 : decode (cM 188) 109 = .ok (.iload_n 1, 1) := by decide +kernel
theorem d_188_110 : decode (cM 188) 110 = .ok (.ifCond .ge 19, 3) := by decide +kernel
theorem d_188_113 : decode (cM 188) 113 = .ok (.aload_n 0, 1) := by decide +kernel
theorem d_188_114 : decode (cM 188) 114 = .ok (.getfield 171, 3) := by decide +kernel
theorem d_188_117 : decode (cM 188) 117 = .ok (.sipush 9999, 3) := by decide +kernel
theorem d_188_120 : decode (cM 188) 120 = .ok (.if_icmp .le 9, 3) := by decide +kernel
theorem d_188_123 : decode (cM 188) 123 = .ok (.aload_n 0, 1) := by decide +kernel
theorem d_188_124 : decode (cM 188) 124 = .ok (.iconst 2, 1) := by decide +kernel
theorem d_188_125 : decode (cM 188) 125 = .ok (.invokevirtual 184, 3) := by decide +kernel
theorem kc_188_125 : callT (oM 188) 184 = some (0, 154, 1) ∧ fok 188 154 = true ∧ stM 154 = false := by decide +kernel
theorem d_188_128 : decode (cM 188) 128 = .ok (.ireturn, 1) := by decide +kernel
theorem d_188_129 : decode (cM 188) 129 = .ok (.aload_n 0, 1) := by decide +kernel
theorem d_188_130 : decode (cM 188) 130 = .ok (.invokevirtual 318, 3) := by decide +kernel
theorem kc_188_130 : callT (oM 188) 318 = some (0, 185, 0) ∧ fok 188 185 = true ∧ stM 185 = false := by decide +kernel
theorem d_188_133 : decode (cM 188) 133 = .ok (.ifCond .ne 5, 3) := by decide +kernel
theorem d_188_136 : decode (cM 188) 136 = .ok (.iconst 0, 1) := by decide +kernel
theorem d_188_137 : decode (cM 188) 137 = .ok (.ireturn, 1) := by decide +kernel
theorem d_188_138 : decode (cM 188) 138 = .ok (.aload_n 0, 1) := by decide +kernel
theorem d_188_139 : decode (cM 188) 139 = .ok (.iload_n 1, 1) := by decide +kernel
theorem d_188_140 : decode (cM 188) 140 = .ok (.ifCond .lt 7, 3) := by decide +kernel
theorem d_188_143 : decode (cM 188) 143 = .ok (.iconst 1, 1) := by decide +kernel
theorem d_188_144 : decode (cM 188) 144 = .ok (.goto 4, 3) := by decide +kernel
theorem d_188_147 : decode (cM 188) 147 = .ok (.iconst 0, 1) := by decide +kernel
theorem d_188_148 : decode (cM 188) 148 = .ok (.iload_n 1, 1) := by decide +kernel
theorem d_188_149 : decode (cM 188) 149 = .ok (.ifCond .lt 7, 3) := by decide +kernel
theorem d_188_152 : decode (cM 188) 152 = .ok (.iload_n 1, 1) := by decide +kernel
theorem d_188_153 : decode (cM 188) 153 = .ok (.goto 7, 3) := by decide +kernel
theorem d_188_156 : decode (cM 188) 156 = .ok (.aload_n 0, 1) := by decide +kernel
theorem d_188_157 : decode (cM 188) 157 = .ok (.getfield 171, 3) := by decide +kernel
theorem d_188_160 : decode (cM 188) 160 = .ok (.iconst 0, 1) := by decide +kernel
theorem d_188_161 : decode (cM 188) 161 = .ok (.invokevirtual 300, 3) := by decide +kernel
theorem kc_188_161 : callT (oM 188) 300 = some (0, 182, 3) ∧ fok 188 182 = true ∧ stM 182 = false := by decide +kernel
theorem d_188_164 : decode (cM 188) 164 = .ok (.aload_n 0, 1) := by decide +kernel
theorem d_188_165 : decode (cM 188) 165 = .ok (.iconst 0, 1) := by decide +kernel
theorem d_188_166 : decode (cM 188) 166 = .ok (.putfield 324, 3) := by decide +kernel
theorem d_188_169 : decode (cM 188) 169 = .ok (.aload_n 0, 1) := by decide +kernel
theorem d_188_170 : decode (cM 188) 170 = .ok (.invokevirtual 194, 3) := by decide +kernel
theorem kc_188_170 : callT (oM 188) 194 = some (0, 158, 0) ∧ fok 188 158 = true ∧ stM 158 = false := by decide +kernel
theorem d_188_173 : decode (cM 188) 173 = .ok (.iconst 1, 1) := by decide +kernel
theorem d_188_174 : decode (cM 188) 174 = .ok (.ireturn, 1) := by decide +kernel
theorem d_189_0 : decode (cM 189) 0 = .ok (.aload_n 0, 1) := by decide +kernel
theorem d_189_1 : decode (cM 189) 1 = .ok (.bipush 41, 2) := by decide +kernel
theorem d_189_3 : decode (cM 189) 3 = .ok (.invokevirtual 197, 3) := by decide +kernel
theorem kc_189_3 : callT (oM 189) 197 = some (0, 162, 1) ∧ fok 189 162 = true ∧ stM 162 = false := by decide +kernel
theorem d_189_6 : decode (cM 189) 6 = .ok (.ifCond .eq 41, 3) := by decide +kernel
theorem d_189_9 : decode (cM 189) 9 = .ok (.aload_n 0, 1) := by decide +kernel
theorem d_189_10 : decode (cM 189) 10 = .ok (.getfield 304, 3) := by decide +kernel
theorem d_189_13 : decode (cM 189) 13 = .ok (.ifCond .le 34, 3) := by decide +kernel
theorem d_189_16 : decode (cM 189) 16 = .ok (.aload_n 0, 1) := by decide +kernel
theorem d_189_17 : decode (cM 189) 17 = .ok (.iconst 1, 1) := by decide +kernel
theorem d_189_18 : decode (cM 189) 18 = .ok (.invokevirtual 327, 3) := by decide +kernel
theorem kc_189_18 : callT (oM 189) 327 = some (0, 184, 1) ∧ fok 189 184 = true ∧ stM 184 = false := by decide +kernel
theorem d_189_21 : decode (cM 189) 21 = .ok (.aload_n 0, 1) := by decide +kernel
theorem d_189_22 : decode (cM 189) 22 = .ok (.dup, 1) := by decide +kernel
theorem d_189_23 : decode (cM 189) 23 = .ok (.getfield 289, 3) := by decide +kernel
theorem d_189_26 : decode (cM 189) 26 = .ok (.iconst 1, 1) := by decide +kernel
theorem d_189_27 : decode (cM 189) 27 = .ok (.isub, 1) := by decide +kernel
theorem d_189_28 : decode (cM 189) 28 = .ok (.putfield 289, 3) := by decide +kernel
theorem d_189_31 : decode (cM 189) 31 = .ok (.aload_n 0, 1) := by decide +kernel
theorem d_189_32 : decode (cM 189) 32 = .ok (.dup, 1) := by decide +kernel
theorem d_189_33 : decode (cM 189) 33 = .ok (.getfield 304, 3) := by decide +kernel
theorem d_189_36 : decode (cM 189) 36 = .ok (.iconst 1, 1) := by decide +kernel
theorem d_189_37 : decode (cM 189) 37 = .ok (.isub, 1) := by decide +kernel
theorem d_189_38 : decode (cM 189) 38 = .ok (.putfield 304, 3) := by decide +kernel
theorem d_189_41 : decode (cM 189) 41 = .ok (.aload_n 0, 1) := by decide +kernel
theorem d_189_42 : decode (cM 189) 42 = .ok (.invokevirtual 194, 3) := by decide +kernel
theorem kc_189_42 : callT (oM 189) 194 = some (0, 158, 0) ∧ fok 189 158 = true ∧ stM 158 = false := by decide +kernel
theorem d_189_45 : decode (cM 189) 45 = .ok (.iconst 1, 1) := by decide +kernel
theorem d_189_46 : decode (cM 189) 46 = .ok (.ireturn, 1) := by decide +kernel
theorem d_189_47 : decode (cM 189) 47 = .ok (.aload_n 0, 1) := by decide +kernel
theorem d_189_48 : decode (cM 189) 48 = .ok (.bipush 11, 2) := by decide +kernel
theorem d_189_50 : decode (cM 189) 50 = .ok (.invokevirtual 315, 3) := by decide +kernel
theorem kc_189_50 : callT (oM 189) 315 = some (0, 161, 1) ∧ fok 189 161 = true ∧ stM 161 = false := by decide +kernel
theorem d_189_53 : decode (cM 189) 53 = .ok (.ifCond .eq 7, 3) := by decide +kernel
theorem d_189_56 : decode (cM 189) 56 = .ok (.iconst 3, 1) := by decide +kernel
theorem d_189_57 : decode (cM 189) 57 = .ok (.goto 90, 3) := by decide +kernel
theorem d_189_60 : decode (cM 189) 60 = .ok (.aload_n 0, 1) := by decide +kernel
theorem d_189_61 : decode (cM 189) 61 = .ok (.bipush 12, 2) := by decide +kernel
theorem d_189_63 : decode (cM 189) 63 = .ok (.invokevirtual 315, 3) := by decide +kernel
theorem kc_189_63 : callT (oM 189) 315 = some (0, 161, 1) ∧ fok 189 161 = true ∧ stM 161 = false := by decide +kernel
theorem d_189_66 : decode (cM 189) 66 = .ok (.ifCond .eq 7, 3) := by decide +kernel
theorem d_189_69 : decode (cM 189) 69 = .ok (.iconst 4, 1) := by decide +kernel
theorem d_189_70 : decode (cM 189) 70 = .ok (.goto 77, 3) := by decide +kernel
theorem d_189_73 : decode (cM 189) 73 = .ok (.aload_n 0, 1) := by decide +kernel
theorem d_189_74 : decode (cM 189) 74 = .ok (.getfield 160, 3) := by decide +kernel
theorem d_189_77 : decode (cM 189) 77 = .ok (.iconst 5, 1) := by decide +kernel
theorem d_189_78 : decode (cM 189) 78 = .ok (.if_icmp .ne 12, 3) := by decide +kernel
theorem d_189_81 : decode (cM 189) 81 = .ok (.iconst 5, 1) := by decide +kernel
theorem d_189_82 : decode (cM 189) 82 = .ok (.aload_n 0, 1) := by decide +kernel
theorem d_189_83 : decode (cM 189) 83 = .ok (.getfield 171, 3) := by decide +kernel
theorem d_189_86 : decode (cM 189) 86 = .ok (.iadd, 1) := by decide +kernel
theorem d_189_87 : decode (cM 189) 87 = .ok (.goto 60, 3) := by decide +kernel
theorem d_189_90 : decode (cM 189) 90 = .ok (.aload_n 0, 1) := by decide +kernel
theorem d_189_91 : decode (cM 189) 91 = .ok (.bipush 43, 2) := by decide +kernel
theorem d_189_93 : decode (cM 189) 93 = .ok (.invokevirtual 197, 3) := by decide +kernel
theorem kc_189_93 : callT (oM 189) 197 = some (0, 162, 1) ∧ fok 189 162 = true ∧ stM 162 = false := by decide +kernel
theorem d_189_96 : decode (cM 189) 96 = .ok (.ifCond .eq 8, 3) := by decide +kernel
theorem d_189_99 : decode (cM 189) 99 = .ok (.bipush 11, 2) := by decide +kernel
theorem d_189_101 : decode (cM 189) 101 = .ok (.goto 46, 3) := by decide +kernel
theorem d_189_104 : decode (cM 189) 104 = .ok (.aload_n 0, 1) := by decide +kernel
theorem d_189_105 : decode (cM 189) 105 = .ok (.bipush 45, 2) := by decide +kernel
theorem d_189_107 : decode (cM 189) 107 = .ok (.invokevirtual 197, 3) := by decide +kernel
theorem kc_189_107 : callT (oM 189) 197 = some (0, 162, 1) ∧ fok 189 162 = true ∧ stM 162 = false := by decide +kernel
theorem d_189_110 : decode (cM 189) 110 = .ok (.ifCond .eq 8, 3) := by decide +kernel
theorem d_189_113 : decode (cM 189) 113 = .ok (.bipush 12, 2) := by decide +kernel
theorem d_189_115 : decode (cM 189) 115 = .ok (.goto 32, 3) := by decide +kernel
theorem d_189_118 : decode (cM 189) 118 = .ok (.aload_n 0, 1) := by decide +kernel
theorem d_189_119 : decode (cM 189) 119 = .ok (.bipush 42, 2) := by decide +kernel
theorem d_189_121 : decode (cM 189) 121 = .ok (.invokevirtual 197, 3) := by decide +kernel
theorem kc_189_121 : callT (oM 189) 197 = some (0, 162, 1) ∧ fok 189 162 = true ∧ stM 162 = false := by decide +kernel
theorem d_189_124 : decode (cM 189) 124 = .ok (.ifCond .eq 8, 3) := by decide +kernel
theorem d_189_127 : decode (cM 189) 127 = .ok (.bipush 13, 2) := by decide +kernel
theorem d_189_129 : decode (cM 189) 129 = .ok (.goto 18, 3) := by decide +kernel
theorem d_189_132 : decode (cM 189) 132 = .ok (.aload_n 0, 1) := by decide +kernel
theorem d_189_133 : decode (cM 189) 133 = .ok (.bipush 47, 2) := by decide +kernel
theorem d_189_135 : decode (cM 189) 135 = .ok (.invokevirtual 197, 3) := by decide +kernel
theorem kc_189_135 : callT (oM 189) 197 = some (0, 162, 1) ∧ fok 189 162 = true ∧ stM 162 = false := by decide +kernel
theorem d_189_138 : decode (cM 189) 138 = .ok (.ifCond .eq 8, 3) := by decide +kernel
theorem d_189_141 : decode (cM 189) 141 = .ok (.bipush 14, 2) := by decide +kernel
theorem d_189_143 : decode (cM 189) 143 = .ok (.goto 4, 3) := by decide +kernel
theorem d_189_146 : decode (cM 189) 146 = .ok (.iconst 0, 1) := by decide +kernel
theorem d_189_147 : decode (cM 189) 147 = .ok (.istore_n 1, 1) := by decide +kernel
theorem d_189_148 : decode (cM 189) 148 = .ok (.iload_n 1, 1) := by decide +kernel
theorem d_189_149 : decode (cM 189) 149 = .ok (.ifCond .ne 9, 3) := by decide +kernel
theorem d_189_152 : decode (cM 189) 152 = .ok (.aload_n 0, 1) := by decide +kernel
theorem d_189_153 : decode (cM 189) 153 = .ok (.iconst 1, 1) := by decide +kernel
theorem d_189_154 : decode (cM 189) 154 = .ok (.invokevirtual 184, 3) := by decide +kernel
theorem kc_189_154 : callT (oM 189) 184 = some (0, 154, 1) ∧ fok 189 154 = true ∧ stM 154 = false := by decide +kernel
theorem d_189_157 : decode (cM 189) 157 = .ok (.ireturn, 1) := by decide +kernel
theorem d_189_158 : decode (cM 189) 158 = .ok (.aload_n 0, 1) := by decide +kernel
theorem d_189_159 : decode (cM 189) 159 = .ok (.iload_n 1, 1) := by decide +kernel
theorem d_189_160 : decode (cM 189) 160 = .ok (.invokestatic 292, 3) := by decide +kernel
theorem kc_189_160 : callT (oM 189) 292 = some (1, 181, 1) ∧ fok 189 181 = true ∧ stM 181 = true := by decide +kernel
theorem d_189_163 : decode (cM 189) 163 = .ok (.iconst 4, 1) := by decide +kernel
theorem d_189_164 : decode (cM 189) 164 = .ok (.if_icmp .ne 7, 3) := by decide +kernel
theorem d_189_167 : decode (cM 189) 167 = .ok (.iconst 5, 1) := by decide +kernel
theorem d_189_168 : decode (cM 189) 168 = .ok (.goto 7, 3) := by decide +kernel
theorem d_189_171 : decode (cM 189) 171 = .ok (.iload_n 1, 1) := by decide +kernel
theorem d_189_172 : decode (cM 189) 172 = .ok (.invokestatic 292, 3) := by decide +kernel
theorem kc_189_172 : callT (oM 189) 292 = some (1, 181, 1) ∧ fok 189 181 = true ∧ stM 181 = true := by decide +kernel
theorem d_189_175 : decode (cM 189) 175 = .ok (.invokevirtual 327, 3) := by decide +kernel
theorem kc_189_175 : callT (oM 189) 327 = some (0, 184, 1) ∧ fok 189 184 = true ∧ stM 184 = false := by decide +kernel
theorem d_189_178 : decode (cM 189) 178 = .ok (.iload_n 1, 1) := by decide +kernel
theorem d_189_179 : decode (cM 189) 179 = .ok (.invokestatic 292, 3) := by decide +kernel
theorem kc_189_179 : callT (oM 189) 292 = some (1, 181, 1) ∧ fok 189 181 = true ∧ stM 181 = true := by decide +kernel
theorem d_189_182 : decode (cM 189) 182 = .ok (.iconst 4, 1) := by decide +kernel
theorem d_189_183 : decode (cM 189) 183 = .ok (.if_icmp .ne 34, 3) := by decide +kernel
theorem d_189_186 : decode (cM 189) 186 = .ok (.aload_n 0, 1) := by decide +kernel
theorem d_189_187 : decode (cM 189) 187 = .ok (.getfield 289, 3) := by decide +kernel
theorem d_189_190 : decode (cM 189) 190 = .ok (.ifCond .le 27, 3) := by decide +kernel
theorem d_189_193 : decode (cM 189) 193 = .ok (.aload_n 0, 1) := by decide +kernel
theorem d_189_194 : decode (cM 189) 194 = .ok (.getfield 69, 3) := by decide +kernel
theorem d_189_197 : decode (cM 189) 197 = .ok (.aload_n 0, 1) := by decide +kernel
theorem d_189_198 : decode (cM 189) 198 = .ok (.getfield 289, 3) := by decide +kernel
theorem d_189_201 : decode (cM 189) 201 = .ok (.iconst 1, 1) := by decide +kernel
theorem d_189_202 : decode (cM 189) 202 = .ok (.isub, 1) := by decide +kernel
theorem d_189_203 : decode (cM 189) 203 = .ok (.iaload, 1) := by decide +kernel
theorem d_189_204 : decode (cM 189) 204 = .ok (.invokestatic 292, 3) := by decide +kernel
theorem kc_189_204 : callT (oM 189) 292 = some (1, 181, 1) ∧ fok 189 181 = true ∧ stM 181 = true := by decide +kernel
theorem d_189_207 : decode (cM 189) 207 = .ok (.iconst 4, 1) := by decide +kernel
theorem d_189_208 : decode (cM 189) 208 = .ok (.if_icmp .ne 9, 3) := by decide +kernel
theorem d_189_211 : decode (cM 189) 211 = .ok (.aload_n 0, 1) := by decide +kernel
theorem d_189_212 : decode (cM 189) 212 = .ok (.iconst 1, 1) := by decide +kernel
theorem d_189_213 : decode (cM 189) 213 = .ok (.invokevirtual 184, 3) := by decide +kernel
theorem kc_189_213 : callT (oM 189) 184 = some (0, 154, 1) ∧ fok 189 154 = true ∧ stM 154 = false := by decide +kernel
theorem d_189_216 : decode (cM 189) 216 = .ok (.ireturn, 1) := by decide +kernel
theorem d_189_217 : decode (cM 189) 217 = .ok (.aload_n 0, 1) := by decide +kernel
theorem d_189_218 : decode (cM 189) 218 = .ok (.invokevirtual 318, 3) := by decide +kernel
theorem kc_189_218 : callT (oM 189) 318 = some (0, 185, 0) ∧ fok 189 185 = true ∧ stM 185 = false := by decide +kernel
theorem d_189_221 : decode (cM 189) 221 = .ok (.ifCond .ne 5, 3) := by decide +kernel
theorem d_189_224 : decode (cM 189) 224 = .ok (.iconst 0, 1) := by decide +kernel
theorem d_189_225 : decode (cM 189) 225 = .ok (.ireturn, 1) := by decide +kernel
theorem d_189_226 : decode (cM 189) 226 = .ok (.aload_n 0, 1) := by decide +kernel
theorem d_189_227 : decode (cM 189) 227 = .ok (.iload_n 1, 1) := by decide +kernel
theorem d_189_228 : decode (cM 189) 228 = .ok (.invokevirtual 307, 3) := by decide +kernel
theorem kc_189_228 : callT (oM 189) 307 = some (0, 186, 1) ∧ fok 189 186 = true ∧ stM 186 = false := by decide +kernel
theorem d_189_231 : decode (cM 189) 231 = .ok (.aload_n 0, 1) := by decide +kernel
theorem d_189_232 : decode (cM 189) 232 = .ok (.iconst 1, 1) := by decide +kernel
theorem d_189_233 : decode (cM 189) 233 = .ok (.putfield 324, 3) := by decide +kernel
theorem d_189_236 : decode (cM 189) 236 = .ok (.aload_n 0, 1) := by decide +kernel
theorem d_189_237 : decode (cM 189) 237 = .ok (.iload_n 1, 1) := by decide +kernel
theorem d_189_238 : decode (cM 189) 238 = .ok (.invokestatic 292, 3) := by decide +kernel
theorem kc_189_238 : callT (oM 189) 292 = some (1, 181, 1) ∧ fok 189 181 = true ∧ stM 181 = true := by decide +kernel
theorem d_189_241 : decode (cM 189) 241 = .ok (.iconst 3, 1) := by decide +kernel
theorem d_189_242 : decode (cM 189) 242 = .ok (.if_icmp .ge 7, 3) := by decide +kernel
theorem d_189_245 : decode (cM 189) 245 = .ok (.iconst 1, 1) := by decide +kernel
theorem d_189_246 : decode (cM 189) 246 = .ok (.goto 4, 3) := by decide +kernel
theorem d_189_249 : decode (cM 189) 249 = .ok (.iconst 0, 1) := by decide +kernel
theorem d_189_250 : decode (cM 189) 250 = .ok (.putfield 311, 3) := by decide +kernel
theorem d_189_253 : decode (cM 189) 253 = .ok (.aload_n 0, 1) := by decide +kernel
theorem d_189_254 : decode (cM 189) 254 = .ok (.invokevirtual 194, 3) := by decide +kernel
theorem kc_189_254 : callT (oM 189) 194 = some (0, 158, 0) ∧ fok 189 158 = true ∧ stM 158 = false := by decide +kernel
theorem d_189_257 : decode (cM 189) 257 = .ok (.iconst 1, 1) := by decide +kernel
theorem d_189_258 : decode (cM 189) 258 = .ok (.ireturn, 1) := by decide +kernel
