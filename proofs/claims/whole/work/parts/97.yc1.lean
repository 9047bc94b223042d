/-! ===== the start: the second side, all of it, the law's run ===== -/
def LI8 : List (Nat × Nat × Int32) := [(0, 5, 0), (53, 0, 1), (49, 1, (-1)), (15, 6, (-1)), (15, 5, (-1)), (1, 1, (-1)), (3, 6, (-1)), (3, 5, (-1))]
def LR8 : List (Nat × Nat × Nat) := [(0, 10, 56), (56, 1, 58), (56, 0, 57), (0, 9, 53), (53, 3, 55), (53, 1, 54), (0, 8, 49), (49, 12, 52), (49, 11, 51), (49, 10, 50), (0, 7, 41), (41, 8, 48), (41, 7, 47), (41, 6, 46), (41, 5, 45), (41, 4, 44), (41, 3, 43), (41, 2, 42), (0, 6, 38), (38, 6, 40), (38, 5, 39), (0, 4, 34), (34, 9, 37), (34, 8, 36), (34, 7, 35), (0, 3, 30), (30, 9, 33), (30, 8, 32), (30, 7, 31), (0, 2, 26), (26, 9, 29), (26, 8, 28), (26, 7, 27), (0, 1, 15), (15, 17, 25), (15, 16, 24), (15, 15, 23), (15, 14, 22), (15, 13, 21), (15, 12, 20), (15, 11, 19), (15, 10, 18), (15, 9, 17), (15, 8, 16), (0, 0, 1), (1, 11, 14), (1, 9, 3), (3, 17, 13), (3, 16, 12), (3, 15, 11), (3, 14, 10), (3, 13, 9), (3, 12, 8), (3, 11, 7), (3, 10, 6), (3, 9, 5), (3, 8, 4), (1, 3, 2)]
def LI9 : List (Nat × Nat × Int32) := [(59, 69, (-1)), (59, 5, (-1)), (61, 100, 32), (61, 99, 101), (61, 98, 116), (61, 97, 117), (61, 96, 110), (61, 95, 105), (61, 94, 109), (61, 93, 32), (61, 92, 101), (61, 91, 103), (61, 90, 97), (61, 89, 32), (61, 88, 116), (61, 87, 117), (61, 86, 111), (61, 85, 32), (61, 84, 115), (61, 83, 101), (61, 82, 105), (61, 81, 116), (61, 80, 32), (61, 79, 110), (61, 78, 119), (61, 77, 111), (61, 76, 104), (61, 75, 115), (61, 74, 32), (61, 73, 110), (61, 72, 114), (61, 71, 111), (61, 70, 119), (61, 69, 32), (61, 68, 116), (61, 67, 115), (61, 66, 111), (61, 65, 99), (61, 64, 32), (61, 63, 116), (61, 62, 111), (61, 61, 110), (61, 60, 32), (61, 59, 114), (61, 58, 111), (61, 57, 32), (61, 56, 100), (61, 55, 110), (61, 54, 97), (61, 53, 32), (61, 52, 101), (61, 51, 116), (61, 50, 97), (61, 49, 102), (61, 48, 32), (61, 47, 107), (61, 46, 99), (61, 45, 105), (61, 44, 116), (61, 43, 115), (61, 42, 32), (61, 41, 108), (61, 40, 108), (61, 39, 111), (61, 38, 116), (61, 37, 32), (61, 36, 119), (61, 35, 97), (61, 34, 108), (61, 33, 32), (61, 32, 100), (61, 31, 101), (61, 30, 101), (61, 29, 115), (61, 28, 32), (61, 27, 110), (61, 26, 114), (61, 25, 117), (61, 24, 98), (61, 23, 32), (61, 22, 100), (61, 21, 110), (61, 20, 101), (61, 19, 109), (61, 18, 32), (61, 17, 103), (61, 16, 110), (61, 15, 105), (61, 14, 114), (61, 13, 32), (61, 12, 116), (61, 11, 105), (61, 10, 108), (61, 9, 32), (61, 8, 108), (61, 7, 108), (61, 6, 117), (61, 5, 112), (61, 4, 32), (61, 3, 112), (61, 2, 109), (61, 1, 97), (61, 0, 108), (0, 5, 0), (53, 0, 1), (49, 1, (-1)), (15, 6, (-1)), (15, 5, (-1)), (1, 1, (-1)), (3, 6, (-1)), (3, 5, (-1))]
def LR9 : List (Nat × Nat × Nat) := [(59, 76, 98), (59, 75, 97), (59, 73, 96), (59, 71, 95), (59, 70, 94), (59, 67, 93), (59, 66, 92), (59, 64, 91), (59, 57, 90), (59, 56, 89), (59, 55, 88), (59, 54, 87), (59, 53, 86), (59, 52, 85), (59, 51, 84), (59, 50, 83), (59, 49, 82), (59, 47, 81), (59, 46, 80), (59, 39, 79), (59, 38, 78), (59, 37, 77), (59, 36, 76), (59, 35, 75), (59, 34, 74), (59, 33, 73), (59, 32, 72), (59, 31, 71), (59, 30, 70), (59, 29, 69), (59, 28, 68), (59, 27, 67), (59, 26, 66), (59, 25, 65), (59, 24, 64), (59, 23, 63), (59, 22, 62), (59, 3, 61), (59, 0, 60), (0, 10, 56), (56, 1, 58), (56, 0, 57), (0, 9, 53), (53, 3, 55), (53, 1, 54), (0, 8, 49), (49, 12, 52), (49, 11, 51), (49, 10, 50), (0, 7, 41), (41, 8, 48), (41, 7, 47), (41, 6, 46), (41, 5, 45), (41, 4, 44), (41, 3, 43), (41, 2, 42), (0, 6, 38), (38, 6, 40), (38, 5, 39), (0, 4, 34), (34, 9, 37), (34, 8, 36), (34, 7, 35), (0, 3, 30), (30, 9, 33), (30, 8, 32), (30, 7, 31), (0, 2, 26), (26, 9, 29), (26, 8, 28), (26, 7, 27), (0, 1, 15), (15, 17, 25), (15, 16, 24), (15, 15, 23), (15, 14, 22), (15, 13, 21), (15, 12, 20), (15, 11, 19), (15, 10, 18), (15, 9, 17), (15, 8, 16), (0, 0, 1), (1, 11, 14), (1, 9, 3), (3, 17, 13), (3, 16, 12), (3, 15, 11), (3, 14, 10), (3, 13, 9), (3, 12, 8), (3, 11, 7), (3, 10, 6), (3, 9, 5), (3, 8, 4), (1, 3, 2)]
/-- what the second side's making leaves -/
def In9 (X : Nat × (Nat → Int32)) (σ : Mm) : Prop := Sg 15 σ ∧ mKs σ = KS ∧ mU σ = (99, szs KS, 0) ∧ mX σ = X ∧ MT σ D0 ∧ MH σ 0 (D0 1 0) (hbg D0) ∧ mL σ 59 58 = lN (hbg D0 6 0) ∧ (mI σ 59 68 = 0 ∧ mI σ 59 69 = -1 ∧ mI σ 59 72 = 0 ∧ mI σ 59 74 = 0) ∧ ∀ x i, (x ≤ 58 ∨ x = 60 ∨ x = 61 ∨ (x = 59 ∧ i ≤ 5)) → mI σ x i = gI LI9 x i
theorem sg_9 {X : Nat × (Nat → Int32)} {σ : Mm} (h : Mz X 99 LI9 LR9 σ) : Sg 15 σ := by
  obtain ⟨h1, h2, h3, h4, h5, h6, h7, h8⟩ := h
  refine ⟨Or.inl (h1.trans rfl), fun q hq => ?_, Or.inr rfl, ?_, ?_⟩
  · rw [h6]
    have : ∀ q ∈ RT, gR LR9 q.1 q.2.1 = some q.2.2 := by decide +kernel
    exact this q hq
  · rw [h6]; decide +kernel
  · rw [h6]; decide +kernel
theorem e_vc0 {M pc p2 : Nat} {ls st : List Value} {σ σ1 : Mm} {w : Option Value × Mm} {ix j a : Nat} (hd : decode (cM M) pc = .ok (.invokevirtual ix, 3)) (hc : callT (oM M) ix = some (0, j, 0) ∧ fok M j = true ∧ stM j = false) (hr : st.length ≤ 4 ∧ ls.length = xM M) (hp : pc + 3 = p2) (hcl : Cl j [.ref a] σ (none, σ1)) (h : Ev M p2 ls st σ1 w) : Ev M pc ls (.ref a :: st) σ w := e_vcall (w1 := (none, σ1)) hd hc rfl hr hp hcl h
/-- the end of the second side's making -/
theorem n_149e {X : Nat × (Nat → Int32)} {σ : Mm} (h : Mz X 99 LI9 LR9 σ) : Ez none 149 924 [.ref 59] [] σ (In9 X) := by
  have S := sg_9 h
  obtain ⟨σ1, c1, f1, r1, -⟩ := c_164 S
  have S1 := f1.sg S
  obtain ⟨σ2, c2, s2, mt, mh, nu, zz, fr, e2⟩ := c_166 S1 r1 wd0
  have e1 : σ1.2.2 = σ.2.2 := f1.2
  have k2 : mKs σ2 = KS := by
    have : mKs σ2 = mKs σ := by unfold mKs; rw [e2, e1]
    exact this.trans h.1
  have u2 : mU σ2 = (99, szs KS, 0) := by
    have : mU σ2 = mU σ := by unfold mU; rw [e2, e1]
    exact this.trans h.2.1
  have x2 : mX σ2 = X := by
    have : mX σ2 = mX σ := by unfold mX; rw [e2, e1]
    exact this.trans h.2.2.1
  refine ⟨σ2, ?_, s2, k2, u2, x2, mt, mh, nu, zz, fun x i hx => ?_⟩
  · refine e_aload_n d_149_924 rfl rfl ?_
    refine e_vc0 d_149_925 kc_149_925 ⟨Nat.le_of_ble_eq_true rfl, xx_149.symm⟩ rfl c1 ?_
    refine e_aload_n d_149_928 rfl rfl ?_
    refine e_vc0 d_149_929 kc_149_929 ⟨Nat.le_of_ble_eq_true rfl, xx_149.symm⟩ rfl c2 ?_
    exact e_vret d_149_932 rr_149
  · rw [fr x i hx, (f1.1 x i (fun z => by unfold Wm1 at z; omega)).1, h.2.2.2.1]
theorem n_149_59 {X : Nat × (Nat → Int32)} {σ0 : Mm} (h0 : Mz X 60 LI8 LR8 σ0) : ∃ σ', Cl 149 [.ref 59] σ0 (none, σ') ∧ In9 X σ' := by
  suffices hz : Ez none 149 0 [.ref 59] [] σ0 (In9 X) by
    obtain ⟨σ', e, p⟩ := hz
    exact ⟨σ', ⟨okr_v (by decide +kernel) oo_149 (by decide) (by rw [xx_149]; exact Nat.le_of_ble_eq_true rfl) rfl (h0.k (by decide) rfl), by rw [xx_149]; exact e⟩, p⟩
  refine z_up (fun w => e_aload_n d_149_0 rfl rfl) ?_
  refine z_up (fun w => e_obj d_149_1 (show callT (oM 149) 1 = some (4, 0, 0) by decide +kernel) (show 1 ≤ frM 149 ∧ 20 ≤ loM 149 by decide +kernel) ⟨Nat.le_of_ble_eq_true rfl, xx_149.symm⟩ rfl) ?_
  refine z_up (fun w => e_aload_n d_149_4 rfl rfl) ?_
  refine z_up (fun w => e_sipush d_149_5 cs_700 rfl) ?_
  refine z_arr (s := 700) h0 d_149_8 rfl (by decide) rfl rfl rfl (fun σ1 h1 => ?_)
  refine z_up (fun w => e_putR d_149_10 oo_149 pF_9_7 (by decide +kernel) (h1.k (by decide) rfl) rfl) ?_
  replace h1 := h1.uR (a := 59) (j := 0) (v := 60) (by decide)
  generalize uR (σ1) 59 0 (some 60) = σ1067 at h1 ⊢
  refine z_up (fun w => e_aload_n d_149_13 rfl rfl) ?_
  refine z_up (fun w => e_bipush d_149_14 cb_101 rfl) ?_
  refine z_arr (s := 101) h1 d_149_16 rfl (by decide) rfl rfl rfl (fun σ2 h2 => ?_)
  refine z_up (fun w => e_dup d_149_18 rfl rfl) ?_
  refine z_up (fun w => e_iconst d_149_19 ci_0 rfl) ?_
  refine z_up (fun w => e_bipush d_149_20 cb_108 rfl) ?_
  refine z_up (fun w => e_iastore d_149_22 (okI_at (h2.k (a := 61) (by decide) rfl) rfl) rfl) ?_
  replace h2 := h2.uI (a := 61) (j := 0) (v := 108) (by decide)
  show Ez _ 149 23 [.ref 59] [.ref 61, .ref 59] (uI σ2 61 0 108) _
  generalize uI (σ2) 61 0 108 = σ1069 at h2 ⊢
  refine z_up (fun w => e_dup d_149_23 rfl rfl) ?_
  refine z_up (fun w => e_iconst d_149_24 ci_1 rfl) ?_
  refine z_up (fun w => e_bipush d_149_25 cb_97 rfl) ?_
  refine z_up (fun w => e_iastore d_149_27 (okI_at (h2.k (a := 61) (by decide) rfl) rfl) rfl) ?_
  replace h2 := h2.uI (a := 61) (j := 1) (v := 97) (by decide)
  show Ez _ 149 28 [.ref 59] [.ref 61, .ref 59] (uI σ1069 61 1 97) _
  generalize uI (σ1069) 61 1 97 = σ1070 at h2 ⊢
  refine z_up (fun w => e_dup d_149_28 rfl rfl) ?_
  refine z_up (fun w => e_iconst d_149_29 ci_2 rfl) ?_
  refine z_up (fun w => e_bipush d_149_30 cb_109 rfl) ?_
  refine z_up (fun w => e_iastore d_149_32 (okI_at (h2.k (a := 61) (by decide) rfl) rfl) rfl) ?_
  replace h2 := h2.uI (a := 61) (j := 2) (v := 109) (by decide)
  show Ez _ 149 33 [.ref 59] [.ref 61, .ref 59] (uI σ1070 61 2 109) _
  generalize uI (σ1070) 61 2 109 = σ1071 at h2 ⊢
  refine z_up (fun w => e_dup d_149_33 rfl rfl) ?_
  refine z_up (fun w => e_iconst d_149_34 ci_3 rfl) ?_
  refine z_up (fun w => e_bipush d_149_35 cb_112 rfl) ?_
  refine z_up (fun w => e_iastore d_149_37 (okI_at (h2.k (a := 61) (by decide) rfl) rfl) rfl) ?_
  replace h2 := h2.uI (a := 61) (j := 3) (v := 112) (by decide)
  show Ez _ 149 38 [.ref 59] [.ref 61, .ref 59] (uI σ1071 61 3 112) _
  generalize uI (σ1071) 61 3 112 = σ1072 at h2 ⊢
  refine z_up (fun w => e_dup d_149_38 rfl rfl) ?_
  refine z_up (fun w => e_iconst d_149_39 ci_4 rfl) ?_
  refine z_up (fun w => e_bipush d_149_40 cb_32 rfl) ?_
  refine z_up (fun w => e_iastore d_149_42 (okI_at (h2.k (a := 61) (by decide) rfl) rfl) rfl) ?_
  replace h2 := h2.uI (a := 61) (j := 4) (v := 32) (by decide)
  show Ez _ 149 43 [.ref 59] [.ref 61, .ref 59] (uI σ1072 61 4 32) _
  generalize uI (σ1072) 61 4 32 = σ1073 at h2 ⊢
  refine z_up (fun w => e_dup d_149_43 rfl rfl) ?_
  refine z_up (fun w => e_iconst d_149_44 ci_5 rfl) ?_
  refine z_up (fun w => e_bipush d_149_45 cb_112 rfl) ?_
  refine z_up (fun w => e_iastore d_149_47 (okI_at (h2.k (a := 61) (by decide) rfl) rfl) rfl) ?_
  replace h2 := h2.uI (a := 61) (j := 5) (v := 112) (by decide)
  show Ez _ 149 48 [.ref 59] [.ref 61, .ref 59] (uI σ1073 61 5 112) _
  generalize uI (σ1073) 61 5 112 = σ1074 at h2 ⊢
  refine z_up (fun w => e_dup d_149_48 rfl rfl) ?_
  refine z_up (fun w => e_bipush d_149_49 cb_6 rfl) ?_
  refine z_up (fun w => e_bipush d_149_51 cb_117 rfl) ?_
  refine z_up (fun w => e_iastore d_149_53 (okI_at (h2.k (a := 61) (by decide) rfl) rfl) rfl) ?_
  replace h2 := h2.uI (a := 61) (j := 6) (v := 117) (by decide)
  show Ez _ 149 54 [.ref 59] [.ref 61, .ref 59] (uI σ1074 61 6 117) _
  generalize uI (σ1074) 61 6 117 = σ1075 at h2 ⊢
  refine z_up (fun w => e_dup d_149_54 rfl rfl) ?_
  refine z_up (fun w => e_bipush d_149_55 cb_7 rfl) ?_
  refine z_up (fun w => e_bipush d_149_57 cb_108 rfl) ?_
  refine z_up (fun w => e_iastore d_149_59 (okI_at (h2.k (a := 61) (by decide) rfl) rfl) rfl) ?_
  replace h2 := h2.uI (a := 61) (j := 7) (v := 108) (by decide)
  show Ez _ 149 60 [.ref 59] [.ref 61, .ref 59] (uI σ1075 61 7 108) _
  generalize uI (σ1075) 61 7 108 = σ1076 at h2 ⊢
  refine z_up (fun w => e_dup d_149_60 rfl rfl) ?_
  refine z_up (fun w => e_bipush d_149_61 cb_8 rfl) ?_
  refine z_up (fun w => e_bipush d_149_63 cb_108 rfl) ?_
  refine z_up (fun w => e_iastore d_149_65 (okI_at (h2.k (a := 61) (by decide) rfl) rfl) rfl) ?_
  replace h2 := h2.uI (a := 61) (j := 8) (v := 108) (by decide)
  show Ez _ 149 66 [.ref 59] [.ref 61, .ref 59] (uI σ1076 61 8 108) _
  generalize uI (σ1076) 61 8 108 = σ1077 at h2 ⊢
  refine z_up (fun w => e_dup d_149_66 rfl rfl) ?_
  refine z_up (fun w => e_bipush d_149_67 cb_9 rfl) ?_
  refine z_up (fun w => e_bipush d_149_69 cb_32 rfl) ?_
  refine z_up (fun w => e_iastore d_149_71 (okI_at (h2.k (a := 61) (by decide) rfl) rfl) rfl) ?_
  replace h2 := h2.uI (a := 61) (j := 9) (v := 32) (by decide)
  show Ez _ 149 72 [.ref 59] [.ref 61, .ref 59] (uI σ1077 61 9 32) _
  generalize uI (σ1077) 61 9 32 = σ1078 at h2 ⊢
  refine z_up (fun w => e_dup d_149_72 rfl rfl) ?_
  refine z_up (fun w => e_bipush d_149_73 cb_10 rfl) ?_
  refine z_up (fun w => e_bipush d_149_75 cb_108 rfl) ?_
  refine z_up (fun w => e_iastore d_149_77 (okI_at (h2.k (a := 61) (by decide) rfl) rfl) rfl) ?_
  replace h2 := h2.uI (a := 61) (j := 10) (v := 108) (by decide)
  show Ez _ 149 78 [.ref 59] [.ref 61, .ref 59] (uI σ1078 61 10 108) _
  generalize uI (σ1078) 61 10 108 = σ1079 at h2 ⊢
  refine z_up (fun w => e_dup d_149_78 rfl rfl) ?_
  refine z_up (fun w => e_bipush d_149_79 cb_11 rfl) ?_
  refine z_up (fun w => e_bipush d_149_81 cb_105 rfl) ?_
  refine z_up (fun w => e_iastore d_149_83 (okI_at (h2.k (a := 61) (by decide) rfl) rfl) rfl) ?_
  replace h2 := h2.uI (a := 61) (j := 11) (v := 105) (by decide)
  show Ez _ 149 84 [.ref 59] [.ref 61, .ref 59] (uI σ1079 61 11 105) _
  generalize uI (σ1079) 61 11 105 = σ1080 at h2 ⊢
  refine z_up (fun w => e_dup d_149_84 rfl rfl) ?_
  refine z_up (fun w => e_bipush d_149_85 cb_12 rfl) ?_
  refine z_up (fun w => e_bipush d_149_87 cb_116 rfl) ?_
  refine z_up (fun w => e_iastore d_149_89 (okI_at (h2.k (a := 61) (by decide) rfl) rfl) rfl) ?_
  replace h2 := h2.uI (a := 61) (j := 12) (v := 116) (by decide)
  show Ez _ 149 90 [.ref 59] [.ref 61, .ref 59] (uI σ1080 61 12 116) _
  generalize uI (σ1080) 61 12 116 = σ1081 at h2 ⊢
  refine z_up (fun w => e_dup d_149_90 rfl rfl) ?_
  refine z_up (fun w => e_bipush d_149_91 cb_13 rfl) ?_
  refine z_up (fun w => e_bipush d_149_93 cb_32 rfl) ?_
  refine z_up (fun w => e_iastore d_149_95 (okI_at (h2.k (a := 61) (by decide) rfl) rfl) rfl) ?_
  replace h2 := h2.uI (a := 61) (j := 13) (v := 32) (by decide)
  show Ez _ 149 96 [.ref 59] [.ref 61, .ref 59] (uI σ1081 61 13 32) _
  generalize uI (σ1081) 61 13 32 = σ1082 at h2 ⊢
  refine z_up (fun w => e_dup d_149_96 rfl rfl) ?_
  refine z_up (fun w => e_bipush d_149_97 cb_14 rfl) ?_
  refine z_up (fun w => e_bipush d_149_99 cb_114 rfl) ?_
  refine z_up (fun w => e_iastore d_149_101 (okI_at (h2.k (a := 61) (by decide) rfl) rfl) rfl) ?_
  replace h2 := h2.uI (a := 61) (j := 14) (v := 114) (by decide)
  show Ez _ 149 102 [.ref 59] [.ref 61, .ref 59] (uI σ1082 61 14 114) _
  generalize uI (σ1082) 61 14 114 = σ1083 at h2 ⊢
  refine z_up (fun w => e_dup d_149_102 rfl rfl) ?_
  refine z_up (fun w => e_bipush d_149_103 cb_15 rfl) ?_
  refine z_up (fun w => e_bipush d_149_105 cb_105 rfl) ?_
  refine z_up (fun w => e_iastore d_149_107 (okI_at (h2.k (a := 61) (by decide) rfl) rfl) rfl) ?_
  replace h2 := h2.uI (a := 61) (j := 15) (v := 105) (by decide)
  show Ez _ 149 108 [.ref 59] [.ref 61, .ref 59] (uI σ1083 61 15 105) _
  generalize uI (σ1083) 61 15 105 = σ1084 at h2 ⊢
  refine z_up (fun w => e_dup d_149_108 rfl rfl) ?_
  refine z_up (fun w => e_bipush d_149_109 cb_16 rfl) ?_
  refine z_up (fun w => e_bipush d_149_111 cb_110 rfl) ?_
  refine z_up (fun w => e_iastore d_149_113 (okI_at (h2.k (a := 61) (by decide) rfl) rfl) rfl) ?_
  replace h2 := h2.uI (a := 61) (j := 16) (v := 110) (by decide)
  show Ez _ 149 114 [.ref 59] [.ref 61, .ref 59] (uI σ1084 61 16 110) _
  generalize uI (σ1084) 61 16 110 = σ1085 at h2 ⊢
  refine z_up (fun w => e_dup d_149_114 rfl rfl) ?_
  refine z_up (fun w => e_bipush d_149_115 cb_17 rfl) ?_
  refine z_up (fun w => e_bipush d_149_117 cb_103 rfl) ?_
  refine z_up (fun w => e_iastore d_149_119 (okI_at (h2.k (a := 61) (by decide) rfl) rfl) rfl) ?_
  replace h2 := h2.uI (a := 61) (j := 17) (v := 103) (by decide)
  show Ez _ 149 120 [.ref 59] [.ref 61, .ref 59] (uI σ1085 61 17 103) _
  generalize uI (σ1085) 61 17 103 = σ1086 at h2 ⊢
  refine z_up (fun w => e_dup d_149_120 rfl rfl) ?_
  refine z_up (fun w => e_bipush d_149_121 cb_18 rfl) ?_
  refine z_up (fun w => e_bipush d_149_123 cb_32 rfl) ?_
  refine z_up (fun w => e_iastore d_149_125 (okI_at (h2.k (a := 61) (by decide) rfl) rfl) rfl) ?_
  replace h2 := h2.uI (a := 61) (j := 18) (v := 32) (by decide)
  show Ez _ 149 126 [.ref 59] [.ref 61, .ref 59] (uI σ1086 61 18 32) _
  generalize uI (σ1086) 61 18 32 = σ1087 at h2 ⊢
  refine z_up (fun w => e_dup d_149_126 rfl rfl) ?_
  refine z_up (fun w => e_bipush d_149_127 cb_19 rfl) ?_
  refine z_up (fun w => e_bipush d_149_129 cb_109 rfl) ?_
  refine z_up (fun w => e_iastore d_149_131 (okI_at (h2.k (a := 61) (by decide) rfl) rfl) rfl) ?_
  replace h2 := h2.uI (a := 61) (j := 19) (v := 109) (by decide)
  show Ez _ 149 132 [.ref 59] [.ref 61, .ref 59] (uI σ1087 61 19 109) _
  generalize uI (σ1087) 61 19 109 = σ1088 at h2 ⊢
  refine z_up (fun w => e_dup d_149_132 rfl rfl) ?_
  refine z_up (fun w => e_bipush d_149_133 cb_20 rfl) ?_
  refine z_up (fun w => e_bipush d_149_135 cb_101 rfl) ?_
  refine z_up (fun w => e_iastore d_149_137 (okI_at (h2.k (a := 61) (by decide) rfl) rfl) rfl) ?_
  replace h2 := h2.uI (a := 61) (j := 20) (v := 101) (by decide)
  show Ez _ 149 138 [.ref 59] [.ref 61, .ref 59] (uI σ1088 61 20 101) _
  generalize uI (σ1088) 61 20 101 = σ1089 at h2 ⊢
  refine z_up (fun w => e_dup d_149_138 rfl rfl) ?_
  refine z_up (fun w => e_bipush d_149_139 cb_21 rfl) ?_
  refine z_up (fun w => e_bipush d_149_141 cb_110 rfl) ?_
  refine z_up (fun w => e_iastore d_149_143 (okI_at (h2.k (a := 61) (by decide) rfl) rfl) rfl) ?_
  replace h2 := h2.uI (a := 61) (j := 21) (v := 110) (by decide)
  show Ez _ 149 144 [.ref 59] [.ref 61, .ref 59] (uI σ1089 61 21 110) _
  generalize uI (σ1089) 61 21 110 = σ1090 at h2 ⊢
  refine z_up (fun w => e_dup d_149_144 rfl rfl) ?_
  refine z_up (fun w => e_bipush d_149_145 cb_22 rfl) ?_
  refine z_up (fun w => e_bipush d_149_147 cb_100 rfl) ?_
  refine z_up (fun w => e_iastore d_149_149 (okI_at (h2.k (a := 61) (by decide) rfl) rfl) rfl) ?_
  replace h2 := h2.uI (a := 61) (j := 22) (v := 100) (by decide)
  show Ez _ 149 150 [.ref 59] [.ref 61, .ref 59] (uI σ1090 61 22 100) _
  generalize uI (σ1090) 61 22 100 = σ1091 at h2 ⊢
  refine z_up (fun w => e_dup d_149_150 rfl rfl) ?_
  refine z_up (fun w => e_bipush d_149_151 cb_23 rfl) ?_
  refine z_up (fun w => e_bipush d_149_153 cb_32 rfl) ?_
  refine z_up (fun w => e_iastore d_149_155 (okI_at (h2.k (a := 61) (by decide) rfl) rfl) rfl) ?_
  replace h2 := h2.uI (a := 61) (j := 23) (v := 32) (by decide)
  show Ez _ 149 156 [.ref 59] [.ref 61, .ref 59] (uI σ1091 61 23 32) _
  generalize uI (σ1091) 61 23 32 = σ1092 at h2 ⊢
  refine z_up (fun w => e_dup d_149_156 rfl rfl) ?_
  refine z_up (fun w => e_bipush d_149_157 cb_24 rfl) ?_
  refine z_up (fun w => e_bipush d_149_159 cb_98 rfl) ?_
  refine z_up (fun w => e_iastore d_149_161 (okI_at (h2.k (a := 61) (by decide) rfl) rfl) rfl) ?_
  replace h2 := h2.uI (a := 61) (j := 24) (v := 98) (by decide)
  show Ez _ 149 162 [.ref 59] [.ref 61, .ref 59] (uI σ1092 61 24 98) _
  generalize uI (σ1092) 61 24 98 = σ1093 at h2 ⊢
  refine z_up (fun w => e_dup d_149_162 rfl rfl) ?_
  refine z_up (fun w => e_bipush d_149_163 cb_25 rfl) ?_
  refine z_up (fun w => e_bipush d_149_165 cb_117 rfl) ?_
  refine z_up (fun w => e_iastore d_149_167 (okI_at (h2.k (a := 61) (by decide) rfl) rfl) rfl) ?_
  replace h2 := h2.uI (a := 61) (j := 25) (v := 117) (by decide)
  show Ez _ 149 168 [.ref 59] [.ref 61, .ref 59] (uI σ1093 61 25 117) _
  generalize uI (σ1093) 61 25 117 = σ1094 at h2 ⊢
  refine z_up (fun w => e_dup d_149_168 rfl rfl) ?_
  refine z_up (fun w => e_bipush d_149_169 cb_26 rfl) ?_
  refine z_up (fun w => e_bipush d_149_171 cb_114 rfl) ?_
  refine z_up (fun w => e_iastore d_149_173 (okI_at (h2.k (a := 61) (by decide) rfl) rfl) rfl) ?_
  replace h2 := h2.uI (a := 61) (j := 26) (v := 114) (by decide)
  show Ez _ 149 174 [.ref 59] [.ref 61, .ref 59] (uI σ1094 61 26 114) _
  generalize uI (σ1094) 61 26 114 = σ1095 at h2 ⊢
  refine z_up (fun w => e_dup d_149_174 rfl rfl) ?_
  refine z_up (fun w => e_bipush d_149_175 cb_27 rfl) ?_
  refine z_up (fun w => e_bipush d_149_177 cb_110 rfl) ?_
  refine z_up (fun w => e_iastore d_149_179 (okI_at (h2.k (a := 61) (by decide) rfl) rfl) rfl) ?_
  replace h2 := h2.uI (a := 61) (j := 27) (v := 110) (by decide)
  show Ez _ 149 180 [.ref 59] [.ref 61, .ref 59] (uI σ1095 61 27 110) _
  generalize uI (σ1095) 61 27 110 = σ1096 at h2 ⊢
  refine z_up (fun w => e_dup d_149_180 rfl rfl) ?_
  refine z_up (fun w => e_bipush d_149_181 cb_28 rfl) ?_
  refine z_up (fun w => e_bipush d_149_183 cb_32 rfl) ?_
  refine z_up (fun w => e_iastore d_149_185 (okI_at (h2.k (a := 61) (by decide) rfl) rfl) rfl) ?_
  replace h2 := h2.uI (a := 61) (j := 28) (v := 32) (by decide)
  show Ez _ 149 186 [.ref 59] [.ref 61, .ref 59] (uI σ1096 61 28 32) _
  generalize uI (σ1096) 61 28 32 = σ1097 at h2 ⊢
  refine z_up (fun w => e_dup d_149_186 rfl rfl) ?_
  refine z_up (fun w => e_bipush d_149_187 cb_29 rfl) ?_
  refine z_up (fun w => e_bipush d_149_189 cb_115 rfl) ?_
  refine z_up (fun w => e_iastore d_149_191 (okI_at (h2.k (a := 61) (by decide) rfl) rfl) rfl) ?_
  replace h2 := h2.uI (a := 61) (j := 29) (v := 115) (by decide)
  show Ez _ 149 192 [.ref 59] [.ref 61, .ref 59] (uI σ1097 61 29 115) _
  generalize uI (σ1097) 61 29 115 = σ1098 at h2 ⊢
  refine z_up (fun w => e_dup d_149_192 rfl rfl) ?_
  refine z_up (fun w => e_bipush d_149_193 cb_30 rfl) ?_
  refine z_up (fun w => e_bipush d_149_195 cb_101 rfl) ?_
  refine z_up (fun w => e_iastore d_149_197 (okI_at (h2.k (a := 61) (by decide) rfl) rfl) rfl) ?_
  replace h2 := h2.uI (a := 61) (j := 30) (v := 101) (by decide)
  show Ez _ 149 198 [.ref 59] [.ref 61, .ref 59] (uI σ1098 61 30 101) _
  generalize uI (σ1098) 61 30 101 = σ1099 at h2 ⊢
  refine z_up (fun w => e_dup d_149_198 rfl rfl) ?_
  refine z_up (fun w => e_bipush d_149_199 cb_31 rfl) ?_
  refine z_up (fun w => e_bipush d_149_201 cb_101 rfl) ?_
  refine z_up (fun w => e_iastore d_149_203 (okI_at (h2.k (a := 61) (by decide) rfl) rfl) rfl) ?_
  replace h2 := h2.uI (a := 61) (j := 31) (v := 101) (by decide)
  show Ez _ 149 204 [.ref 59] [.ref 61, .ref 59] (uI σ1099 61 31 101) _
  generalize uI (σ1099) 61 31 101 = σ1100 at h2 ⊢
  refine z_up (fun w => e_dup d_149_204 rfl rfl) ?_
  refine z_up (fun w => e_bipush d_149_205 cb_32 rfl) ?_
  refine z_up (fun w => e_bipush d_149_207 cb_100 rfl) ?_
  refine z_up (fun w => e_iastore d_149_209 (okI_at (h2.k (a := 61) (by decide) rfl) rfl) rfl) ?_
  replace h2 := h2.uI (a := 61) (j := 32) (v := 100) (by decide)
  show Ez _ 149 210 [.ref 59] [.ref 61, .ref 59] (uI σ1100 61 32 100) _
  generalize uI (σ1100) 61 32 100 = σ1101 at h2 ⊢
  refine z_up (fun w => e_dup d_149_210 rfl rfl) ?_
  refine z_up (fun w => e_bipush d_149_211 cb_33 rfl) ?_
  refine z_up (fun w => e_bipush d_149_213 cb_32 rfl) ?_
  refine z_up (fun w => e_iastore d_149_215 (okI_at (h2.k (a := 61) (by decide) rfl) rfl) rfl) ?_
  replace h2 := h2.uI (a := 61) (j := 33) (v := 32) (by decide)
  show Ez _ 149 216 [.ref 59] [.ref 61, .ref 59] (uI σ1101 61 33 32) _
  generalize uI (σ1101) 61 33 32 = σ1102 at h2 ⊢
  refine z_up (fun w => e_dup d_149_216 rfl rfl) ?_
  refine z_up (fun w => e_bipush d_149_217 cb_34 rfl) ?_
  refine z_up (fun w => e_bipush d_149_219 cb_108 rfl) ?_
  refine z_up (fun w => e_iastore d_149_221 (okI_at (h2.k (a := 61) (by decide) rfl) rfl) rfl) ?_
  replace h2 := h2.uI (a := 61) (j := 34) (v := 108) (by decide)
  show Ez _ 149 222 [.ref 59] [.ref 61, .ref 59] (uI σ1102 61 34 108) _
  generalize uI (σ1102) 61 34 108 = σ1103 at h2 ⊢
  refine z_up (fun w => e_dup d_149_222 rfl rfl) ?_
  refine z_up (fun w => e_bipush d_149_223 cb_35 rfl) ?_
  refine z_up (fun w => e_bipush d_149_225 cb_97 rfl) ?_
  refine z_up (fun w => e_iastore d_149_227 (okI_at (h2.k (a := 61) (by decide) rfl) rfl) rfl) ?_
  replace h2 := h2.uI (a := 61) (j := 35) (v := 97) (by decide)
  show Ez _ 149 228 [.ref 59] [.ref 61, .ref 59] (uI σ1103 61 35 97) _
  generalize uI (σ1103) 61 35 97 = σ1104 at h2 ⊢
  refine z_up (fun w => e_dup d_149_228 rfl rfl) ?_
  refine z_up (fun w => e_bipush d_149_229 cb_36 rfl) ?_
  refine z_up (fun w => e_bipush d_149_231 cb_119 rfl) ?_
  refine z_up (fun w => e_iastore d_149_233 (okI_at (h2.k (a := 61) (by decide) rfl) rfl) rfl) ?_
  replace h2 := h2.uI (a := 61) (j := 36) (v := 119) (by decide)
  show Ez _ 149 234 [.ref 59] [.ref 61, .ref 59] (uI σ1104 61 36 119) _
  generalize uI (σ1104) 61 36 119 = σ1105 at h2 ⊢
  refine z_up (fun w => e_dup d_149_234 rfl rfl) ?_
  refine z_up (fun w => e_bipush d_149_235 cb_37 rfl) ?_
  refine z_up (fun w => e_bipush d_149_237 cb_32 rfl) ?_
  refine z_up (fun w => e_iastore d_149_239 (okI_at (h2.k (a := 61) (by decide) rfl) rfl) rfl) ?_
  replace h2 := h2.uI (a := 61) (j := 37) (v := 32) (by decide)
  show Ez _ 149 240 [.ref 59] [.ref 61, .ref 59] (uI σ1105 61 37 32) _
  generalize uI (σ1105) 61 37 32 = σ1106 at h2 ⊢
  refine z_up (fun w => e_dup d_149_240 rfl rfl) ?_
  refine z_up (fun w => e_bipush d_149_241 cb_38 rfl) ?_
  refine z_up (fun w => e_bipush d_149_243 cb_116 rfl) ?_
  refine z_up (fun w => e_iastore d_149_245 (okI_at (h2.k (a := 61) (by decide) rfl) rfl) rfl) ?_
  replace h2 := h2.uI (a := 61) (j := 38) (v := 116) (by decide)
  show Ez _ 149 246 [.ref 59] [.ref 61, .ref 59] (uI σ1106 61 38 116) _
  generalize uI (σ1106) 61 38 116 = σ1107 at h2 ⊢
  refine z_up (fun w => e_dup d_149_246 rfl rfl) ?_
  refine z_up (fun w => e_bipush d_149_247 cb_39 rfl) ?_
  refine z_up (fun w => e_bipush d_149_249 cb_111 rfl) ?_
  refine z_up (fun w => e_iastore d_149_251 (okI_at (h2.k (a := 61) (by decide) rfl) rfl) rfl) ?_
  replace h2 := h2.uI (a := 61) (j := 39) (v := 111) (by decide)
  show Ez _ 149 252 [.ref 59] [.ref 61, .ref 59] (uI σ1107 61 39 111) _
  generalize uI (σ1107) 61 39 111 = σ1108 at h2 ⊢
  refine z_up (fun w => e_dup d_149_252 rfl rfl) ?_
  refine z_up (fun w => e_bipush d_149_253 cb_40 rfl) ?_
  refine z_up (fun w => e_bipush d_149_255 cb_108 rfl) ?_
  refine z_up (fun w => e_iastore d_149_257 (okI_at (h2.k (a := 61) (by decide) rfl) rfl) rfl) ?_
  replace h2 := h2.uI (a := 61) (j := 40) (v := 108) (by decide)
  show Ez _ 149 258 [.ref 59] [.ref 61, .ref 59] (uI σ1108 61 40 108) _
  generalize uI (σ1108) 61 40 108 = σ1109 at h2 ⊢
  refine z_up (fun w => e_dup d_149_258 rfl rfl) ?_
  refine z_up (fun w => e_bipush d_149_259 cb_41 rfl) ?_
  refine z_up (fun w => e_bipush d_149_261 cb_108 rfl) ?_
  refine z_up (fun w => e_iastore d_149_263 (okI_at (h2.k (a := 61) (by decide) rfl) rfl) rfl) ?_
  replace h2 := h2.uI (a := 61) (j := 41) (v := 108) (by decide)
  show Ez _ 149 264 [.ref 59] [.ref 61, .ref 59] (uI σ1109 61 41 108) _
  generalize uI (σ1109) 61 41 108 = σ1110 at h2 ⊢
  refine z_up (fun w => e_dup d_149_264 rfl rfl) ?_
  refine z_up (fun w => e_bipush d_149_265 cb_42 rfl) ?_
  refine z_up (fun w => e_bipush d_149_267 cb_32 rfl) ?_
  refine z_up (fun w => e_iastore d_149_269 (okI_at (h2.k (a := 61) (by decide) rfl) rfl) rfl) ?_
  replace h2 := h2.uI (a := 61) (j := 42) (v := 32) (by decide)
  show Ez _ 149 270 [.ref 59] [.ref 61, .ref 59] (uI σ1110 61 42 32) _
  generalize uI (σ1110) 61 42 32 = σ1111 at h2 ⊢
  refine z_up (fun w => e_dup d_149_270 rfl rfl) ?_
  refine z_up (fun w => e_bipush d_149_271 cb_43 rfl) ?_
  refine z_up (fun w => e_bipush d_149_273 cb_115 rfl) ?_
  refine z_up (fun w => e_iastore d_149_275 (okI_at (h2.k (a := 61) (by decide) rfl) rfl) rfl) ?_
  replace h2 := h2.uI (a := 61) (j := 43) (v := 115) (by decide)
  show Ez _ 149 276 [.ref 59] [.ref 61, .ref 59] (uI σ1111 61 43 115) _
  generalize uI (σ1111) 61 43 115 = σ1112 at h2 ⊢
  refine z_up (fun w => e_dup d_149_276 rfl rfl) ?_
  refine z_up (fun w => e_bipush d_149_277 cb_44 rfl) ?_
  refine z_up (fun w => e_bipush d_149_279 cb_116 rfl) ?_
  refine z_up (fun w => e_iastore d_149_281 (okI_at (h2.k (a := 61) (by decide) rfl) rfl) rfl) ?_
  replace h2 := h2.uI (a := 61) (j := 44) (v := 116) (by decide)
  show Ez _ 149 282 [.ref 59] [.ref 61, .ref 59] (uI σ1112 61 44 116) _
  generalize uI (σ1112) 61 44 116 = σ1113 at h2 ⊢
  refine z_up (fun w => e_dup d_149_282 rfl rfl) ?_
  refine z_up (fun w => e_bipush d_149_283 cb_45 rfl) ?_
  refine z_up (fun w => e_bipush d_149_285 cb_105 rfl) ?_
  refine z_up (fun w => e_iastore d_149_287 (okI_at (h2.k (a := 61) (by decide) rfl) rfl) rfl) ?_
  replace h2 := h2.uI (a := 61) (j := 45) (v := 105) (by decide)
  show Ez _ 149 288 [.ref 59] [.ref 61, .ref 59] (uI σ1113 61 45 105) _
  generalize uI (σ1113) 61 45 105 = σ1114 at h2 ⊢
  refine z_up (fun w => e_dup d_149_288 rfl rfl) ?_
  refine z_up (fun w => e_bipush d_149_289 cb_46 rfl) ?_
  refine z_up (fun w => e_bipush d_149_291 cb_99 rfl) ?_
  refine z_up (fun w => e_iastore d_149_293 (okI_at (h2.k (a := 61) (by decide) rfl) rfl) rfl) ?_
  replace h2 := h2.uI (a := 61) (j := 46) (v := 99) (by decide)
  show Ez _ 149 294 [.ref 59] [.ref 61, .ref 59] (uI σ1114 61 46 99) _
  generalize uI (σ1114) 61 46 99 = σ1115 at h2 ⊢
  refine z_up (fun w => e_dup d_149_294 rfl rfl) ?_
  refine z_up (fun w => e_bipush d_149_295 cb_47 rfl) ?_
  refine z_up (fun w => e_bipush d_149_297 cb_107 rfl) ?_
  refine z_up (fun w => e_iastore d_149_299 (okI_at (h2.k (a := 61) (by decide) rfl) rfl) rfl) ?_
  replace h2 := h2.uI (a := 61) (j := 47) (v := 107) (by decide)
  show Ez _ 149 300 [.ref 59] [.ref 61, .ref 59] (uI σ1115 61 47 107) _
  generalize uI (σ1115) 61 47 107 = σ1116 at h2 ⊢
  refine z_up (fun w => e_dup d_149_300 rfl rfl) ?_
  refine z_up (fun w => e_bipush d_149_301 cb_48 rfl) ?_
  refine z_up (fun w => e_bipush d_149_303 cb_32 rfl) ?_
  refine z_up (fun w => e_iastore d_149_305 (okI_at (h2.k (a := 61) (by decide) rfl) rfl) rfl) ?_
  replace h2 := h2.uI (a := 61) (j := 48) (v := 32) (by decide)
  show Ez _ 149 306 [.ref 59] [.ref 61, .ref 59] (uI σ1116 61 48 32) _
  generalize uI (σ1116) 61 48 32 = σ1117 at h2 ⊢
  refine z_up (fun w => e_dup d_149_306 rfl rfl) ?_
  refine z_up (fun w => e_bipush d_149_307 cb_49 rfl) ?_
  refine z_up (fun w => e_bipush d_149_309 cb_102 rfl) ?_
  refine z_up (fun w => e_iastore d_149_311 (okI_at (h2.k (a := 61) (by decide) rfl) rfl) rfl) ?_
  replace h2 := h2.uI (a := 61) (j := 49) (v := 102) (by decide)
  show Ez _ 149 312 [.ref 59] [.ref 61, .ref 59] (uI σ1117 61 49 102) _
  generalize uI (σ1117) 61 49 102 = σ1118 at h2 ⊢
  refine z_up (fun w => e_dup d_149_312 rfl rfl) ?_
  refine z_up (fun w => e_bipush d_149_313 cb_50 rfl) ?_
  refine z_up (fun w => e_bipush d_149_315 cb_97 rfl) ?_
  refine z_up (fun w => e_iastore d_149_317 (okI_at (h2.k (a := 61) (by decide) rfl) rfl) rfl) ?_
  replace h2 := h2.uI (a := 61) (j := 50) (v := 97) (by decide)
  show Ez _ 149 318 [.ref 59] [.ref 61, .ref 59] (uI σ1118 61 50 97) _
  generalize uI (σ1118) 61 50 97 = σ1119 at h2 ⊢
  refine z_up (fun w => e_dup d_149_318 rfl rfl) ?_
  refine z_up (fun w => e_bipush d_149_319 cb_51 rfl) ?_
  refine z_up (fun w => e_bipush d_149_321 cb_116 rfl) ?_
  refine z_up (fun w => e_iastore d_149_323 (okI_at (h2.k (a := 61) (by decide) rfl) rfl) rfl) ?_
  replace h2 := h2.uI (a := 61) (j := 51) (v := 116) (by decide)
  show Ez _ 149 324 [.ref 59] [.ref 61, .ref 59] (uI σ1119 61 51 116) _
  generalize uI (σ1119) 61 51 116 = σ1120 at h2 ⊢
  refine z_up (fun w => e_dup d_149_324 rfl rfl) ?_
  refine z_up (fun w => e_bipush d_149_325 cb_52 rfl) ?_
  refine z_up (fun w => e_bipush d_149_327 cb_101 rfl) ?_
  refine z_up (fun w => e_iastore d_149_329 (okI_at (h2.k (a := 61) (by decide) rfl) rfl) rfl) ?_
  replace h2 := h2.uI (a := 61) (j := 52) (v := 101) (by decide)
  show Ez _ 149 330 [.ref 59] [.ref 61, .ref 59] (uI σ1120 61 52 101) _
  generalize uI (σ1120) 61 52 101 = σ1121 at h2 ⊢
  refine z_up (fun w => e_dup d_149_330 rfl rfl) ?_
  refine z_up (fun w => e_bipush d_149_331 cb_53 rfl) ?_
  refine z_up (fun w => e_bipush d_149_333 cb_32 rfl) ?_
  refine z_up (fun w => e_iastore d_149_335 (okI_at (h2.k (a := 61) (by decide) rfl) rfl) rfl) ?_
  replace h2 := h2.uI (a := 61) (j := 53) (v := 32) (by decide)
  show Ez _ 149 336 [.ref 59] [.ref 61, .ref 59] (uI σ1121 61 53 32) _
  generalize uI (σ1121) 61 53 32 = σ1122 at h2 ⊢
  refine z_up (fun w => e_dup d_149_336 rfl rfl) ?_
  refine z_up (fun w => e_bipush d_149_337 cb_54 rfl) ?_
  refine z_up (fun w => e_bipush d_149_339 cb_97 rfl) ?_
  refine z_up (fun w => e_iastore d_149_341 (okI_at (h2.k (a := 61) (by decide) rfl) rfl) rfl) ?_
  replace h2 := h2.uI (a := 61) (j := 54) (v := 97) (by decide)
  show Ez _ 149 342 [.ref 59] [.ref 61, .ref 59] (uI σ1122 61 54 97) _
  generalize uI (σ1122) 61 54 97 = σ1123 at h2 ⊢
  refine z_up (fun w => e_dup d_149_342 rfl rfl) ?_
  refine z_up (fun w => e_bipush d_149_343 cb_55 rfl) ?_
  refine z_up (fun w => e_bipush d_149_345 cb_110 rfl) ?_
  refine z_up (fun w => e_iastore d_149_347 (okI_at (h2.k (a := 61) (by decide) rfl) rfl) rfl) ?_
  replace h2 := h2.uI (a := 61) (j := 55) (v := 110) (by decide)
  show Ez _ 149 348 [.ref 59] [.ref 61, .ref 59] (uI σ1123 61 55 110) _
  generalize uI (σ1123) 61 55 110 = σ1124 at h2 ⊢
  refine z_up (fun w => e_dup d_149_348 rfl rfl) ?_
  refine z_up (fun w => e_bipush d_149_349 cb_56 rfl) ?_
  refine z_up (fun w => e_bipush d_149_351 cb_100 rfl) ?_
  refine z_up (fun w => e_iastore d_149_353 (okI_at (h2.k (a := 61) (by decide) rfl) rfl) rfl) ?_
  replace h2 := h2.uI (a := 61) (j := 56) (v := 100) (by decide)
  show Ez _ 149 354 [.ref 59] [.ref 61, .ref 59] (uI σ1124 61 56 100) _
  generalize uI (σ1124) 61 56 100 = σ1125 at h2 ⊢
  refine z_up (fun w => e_dup d_149_354 rfl rfl) ?_
  refine z_up (fun w => e_bipush d_149_355 cb_57 rfl) ?_
  refine z_up (fun w => e_bipush d_149_357 cb_32 rfl) ?_
  refine z_up (fun w => e_iastore d_149_359 (okI_at (h2.k (a := 61) (by decide) rfl) rfl) rfl) ?_
  replace h2 := h2.uI (a := 61) (j := 57) (v := 32) (by decide)
  show Ez _ 149 360 [.ref 59] [.ref 61, .ref 59] (uI σ1125 61 57 32) _
  generalize uI (σ1125) 61 57 32 = σ1126 at h2 ⊢
  refine z_up (fun w => e_dup d_149_360 rfl rfl) ?_
  refine z_up (fun w => e_bipush d_149_361 cb_58 rfl) ?_
  refine z_up (fun w => e_bipush d_149_363 cb_111 rfl) ?_
  refine z_up (fun w => e_iastore d_149_365 (okI_at (h2.k (a := 61) (by decide) rfl) rfl) rfl) ?_
  replace h2 := h2.uI (a := 61) (j := 58) (v := 111) (by decide)
  show Ez _ 149 366 [.ref 59] [.ref 61, .ref 59] (uI σ1126 61 58 111) _
  generalize uI (σ1126) 61 58 111 = σ1127 at h2 ⊢
  refine z_up (fun w => e_dup d_149_366 rfl rfl) ?_
  refine z_up (fun w => e_bipush d_149_367 cb_59 rfl) ?_
  refine z_up (fun w => e_bipush d_149_369 cb_114 rfl) ?_
  refine z_up (fun w => e_iastore d_149_371 (okI_at (h2.k (a := 61) (by decide) rfl) rfl) rfl) ?_
  replace h2 := h2.uI (a := 61) (j := 59) (v := 114) (by decide)
  show Ez _ 149 372 [.ref 59] [.ref 61, .ref 59] (uI σ1127 61 59 114) _
  generalize uI (σ1127) 61 59 114 = σ1128 at h2 ⊢
  refine z_up (fun w => e_dup d_149_372 rfl rfl) ?_
  refine z_up (fun w => e_bipush d_149_373 cb_60 rfl) ?_
  refine z_up (fun w => e_bipush d_149_375 cb_32 rfl) ?_
  refine z_up (fun w => e_iastore d_149_377 (okI_at (h2.k (a := 61) (by decide) rfl) rfl) rfl) ?_
  replace h2 := h2.uI (a := 61) (j := 60) (v := 32) (by decide)
  show Ez _ 149 378 [.ref 59] [.ref 61, .ref 59] (uI σ1128 61 60 32) _
  generalize uI (σ1128) 61 60 32 = σ1129 at h2 ⊢
  refine z_up (fun w => e_dup d_149_378 rfl rfl) ?_
  refine z_up (fun w => e_bipush d_149_379 cb_61 rfl) ?_
  refine z_up (fun w => e_bipush d_149_381 cb_110 rfl) ?_
  refine z_up (fun w => e_iastore d_149_383 (okI_at (h2.k (a := 61) (by decide) rfl) rfl) rfl) ?_
  replace h2 := h2.uI (a := 61) (j := 61) (v := 110) (by decide)
  show Ez _ 149 384 [.ref 59] [.ref 61, .ref 59] (uI σ1129 61 61 110) _
  generalize uI (σ1129) 61 61 110 = σ1130 at h2 ⊢
  refine z_up (fun w => e_dup d_149_384 rfl rfl) ?_
  refine z_up (fun w => e_bipush d_149_385 cb_62 rfl) ?_
  refine z_up (fun w => e_bipush d_149_387 cb_111 rfl) ?_
  refine z_up (fun w => e_iastore d_149_389 (okI_at (h2.k (a := 61) (by decide) rfl) rfl) rfl) ?_
  replace h2 := h2.uI (a := 61) (j := 62) (v := 111) (by decide)
  show Ez _ 149 390 [.ref 59] [.ref 61, .ref 59] (uI σ1130 61 62 111) _
  generalize uI (σ1130) 61 62 111 = σ1131 at h2 ⊢
  refine z_up (fun w => e_dup d_149_390 rfl rfl) ?_
  refine z_up (fun w => e_bipush d_149_391 cb_63 rfl) ?_
  refine z_up (fun w => e_bipush d_149_393 cb_116 rfl) ?_
  refine z_up (fun w => e_iastore d_149_395 (okI_at (h2.k (a := 61) (by decide) rfl) rfl) rfl) ?_
  replace h2 := h2.uI (a := 61) (j := 63) (v := 116) (by decide)
  show Ez _ 149 396 [.ref 59] [.ref 61, .ref 59] (uI σ1131 61 63 116) _
  generalize uI (σ1131) 61 63 116 = σ1132 at h2 ⊢
  refine z_up (fun w => e_dup d_149_396 rfl rfl) ?_
  refine z_up (fun w => e_bipush d_149_397 cb_64 rfl) ?_
  refine z_up (fun w => e_bipush d_149_399 cb_32 rfl) ?_
  refine z_up (fun w => e_iastore d_149_401 (okI_at (h2.k (a := 61) (by decide) rfl) rfl) rfl) ?_
  replace h2 := h2.uI (a := 61) (j := 64) (v := 32) (by decide)
  show Ez _ 149 402 [.ref 59] [.ref 61, .ref 59] (uI σ1132 61 64 32) _
  generalize uI (σ1132) 61 64 32 = σ1133 at h2 ⊢
  refine z_up (fun w => e_dup d_149_402 rfl rfl) ?_
  refine z_up (fun w => e_bipush d_149_403 cb_65 rfl) ?_
  refine z_up (fun w => e_bipush d_149_405 cb_99 rfl) ?_
  refine z_up (fun w => e_iastore d_149_407 (okI_at (h2.k (a := 61) (by decide) rfl) rfl) rfl) ?_
  replace h2 := h2.uI (a := 61) (j := 65) (v := 99) (by decide)
  show Ez _ 149 408 [.ref 59] [.ref 61, .ref 59] (uI σ1133 61 65 99) _
  generalize uI (σ1133) 61 65 99 = σ1134 at h2 ⊢
  refine z_up (fun w => e_dup d_149_408 rfl rfl) ?_
  refine z_up (fun w => e_bipush d_149_409 cb_66 rfl) ?_
  refine z_up (fun w => e_bipush d_149_411 cb_111 rfl) ?_
  refine z_up (fun w => e_iastore d_149_413 (okI_at (h2.k (a := 61) (by decide) rfl) rfl) rfl) ?_
  replace h2 := h2.uI (a := 61) (j := 66) (v := 111) (by decide)
  show Ez _ 149 414 [.ref 59] [.ref 61, .ref 59] (uI σ1134 61 66 111) _
  generalize uI (σ1134) 61 66 111 = σ1135 at h2 ⊢
  refine z_up (fun w => e_dup d_149_414 rfl rfl) ?_
  refine z_up (fun w => e_bipush d_149_415 cb_67 rfl) ?_
  refine z_up (fun w => e_bipush d_149_417 cb_115 rfl) ?_
  refine z_up (fun w => e_iastore d_149_419 (okI_at (h2.k (a := 61) (by decide) rfl) rfl) rfl) ?_
  replace h2 := h2.uI (a := 61) (j := 67) (v := 115) (by decide)
  show Ez _ 149 420 [.ref 59] [.ref 61, .ref 59] (uI σ1135 61 67 115) _
  generalize uI (σ1135) 61 67 115 = σ1136 at h2 ⊢
  refine z_up (fun w => e_dup d_149_420 rfl rfl) ?_
  refine z_up (fun w => e_bipush d_149_421 cb_68 rfl) ?_
  refine z_up (fun w => e_bipush d_149_423 cb_116 rfl) ?_
  refine z_up (fun w => e_iastore d_149_425 (okI_at (h2.k (a := 61) (by decide) rfl) rfl) rfl) ?_
  replace h2 := h2.uI (a := 61) (j := 68) (v := 116) (by decide)
  show Ez _ 149 426 [.ref 59] [.ref 61, .ref 59] (uI σ1136 61 68 116) _
  generalize uI (σ1136) 61 68 116 = σ1137 at h2 ⊢
  refine z_up (fun w => e_dup d_149_426 rfl rfl) ?_
  refine z_up (fun w => e_bipush d_149_427 cb_69 rfl) ?_
  refine z_up (fun w => e_bipush d_149_429 cb_32 rfl) ?_
  refine z_up (fun w => e_iastore d_149_431 (okI_at (h2.k (a := 61) (by decide) rfl) rfl) rfl) ?_
  replace h2 := h2.uI (a := 61) (j := 69) (v := 32) (by decide)
  show Ez _ 149 432 [.ref 59] [.ref 61, .ref 59] (uI σ1137 61 69 32) _
  generalize uI (σ1137) 61 69 32 = σ1138 at h2 ⊢
  refine z_up (fun w => e_dup d_149_432 rfl rfl) ?_
  refine z_up (fun w => e_bipush d_149_433 cb_70 rfl) ?_
  refine z_up (fun w => e_bipush d_149_435 cb_119 rfl) ?_
  refine z_up (fun w => e_iastore d_149_437 (okI_at (h2.k (a := 61) (by decide) rfl) rfl) rfl) ?_
  replace h2 := h2.uI (a := 61) (j := 70) (v := 119) (by decide)
  show Ez _ 149 438 [.ref 59] [.ref 61, .ref 59] (uI σ1138 61 70 119) _
  generalize uI (σ1138) 61 70 119 = σ1139 at h2 ⊢
  refine z_up (fun w => e_dup d_149_438 rfl rfl) ?_
  refine z_up (fun w => e_bipush d_149_439 cb_71 rfl) ?_
  refine z_up (fun w => e_bipush d_149_441 cb_111 rfl) ?_
  refine z_up (fun w => e_iastore d_149_443 (okI_at (h2.k (a := 61) (by decide) rfl) rfl) rfl) ?_
  replace h2 := h2.uI (a := 61) (j := 71) (v := 111) (by decide)
  show Ez _ 149 444 [.ref 59] [.ref 61, .ref 59] (uI σ1139 61 71 111) _
  generalize uI (σ1139) 61 71 111 = σ1140 at h2 ⊢
  refine z_up (fun w => e_dup d_149_444 rfl rfl) ?_
  refine z_up (fun w => e_bipush d_149_445 cb_72 rfl) ?_
  refine z_up (fun w => e_bipush d_149_447 cb_114 rfl) ?_
  refine z_up (fun w => e_iastore d_149_449 (okI_at (h2.k (a := 61) (by decide) rfl) rfl) rfl) ?_
  replace h2 := h2.uI (a := 61) (j := 72) (v := 114) (by decide)
  show Ez _ 149 450 [.ref 59] [.ref 61, .ref 59] (uI σ1140 61 72 114) _
  generalize uI (σ1140) 61 72 114 = σ1141 at h2 ⊢
  refine z_up (fun w => e_dup d_149_450 rfl rfl) ?_
  refine z_up (fun w => e_bipush d_149_451 cb_73 rfl) ?_
  refine z_up (fun w => e_bipush d_149_453 cb_110 rfl) ?_
  refine z_up (fun w => e_iastore d_149_455 (okI_at (h2.k (a := 61) (by decide) rfl) rfl) rfl) ?_
  replace h2 := h2.uI (a := 61) (j := 73) (v := 110) (by decide)
  show Ez _ 149 456 [.ref 59] [.ref 61, .ref 59] (uI σ1141 61 73 110) _
  generalize uI (σ1141) 61 73 110 = σ1142 at h2 ⊢
  refine z_up (fun w => e_dup d_149_456 rfl rfl) ?_
  refine z_up (fun w => e_bipush d_149_457 cb_74 rfl) ?_
  refine z_up (fun w => e_bipush d_149_459 cb_32 rfl) ?_
  refine z_up (fun w => e_iastore d_149_461 (okI_at (h2.k (a := 61) (by decide) rfl) rfl) rfl) ?_
  replace h2 := h2.uI (a := 61) (j := 74) (v := 32) (by decide)
  show Ez _ 149 462 [.ref 59] [.ref 61, .ref 59] (uI σ1142 61 74 32) _
  generalize uI (σ1142) 61 74 32 = σ1143 at h2 ⊢
  refine z_up (fun w => e_dup d_149_462 rfl rfl) ?_
  refine z_up (fun w => e_bipush d_149_463 cb_75 rfl) ?_
  refine z_up (fun w => e_bipush d_149_465 cb_115 rfl) ?_
  refine z_up (fun w => e_iastore d_149_467 (okI_at (h2.k (a := 61) (by decide) rfl) rfl) rfl) ?_
  replace h2 := h2.uI (a := 61) (j := 75) (v := 115) (by decide)
  show Ez _ 149 468 [.ref 59] [.ref 61, .ref 59] (uI σ1143 61 75 115) _
  generalize uI (σ1143) 61 75 115 = σ1144 at h2 ⊢
  refine z_up (fun w => e_dup d_149_468 rfl rfl) ?_
  refine z_up (fun w => e_bipush d_149_469 cb_76 rfl) ?_
  refine z_up (fun w => e_bipush d_149_471 cb_104 rfl) ?_
  refine z_up (fun w => e_iastore d_149_473 (okI_at (h2.k (a := 61) (by decide) rfl) rfl) rfl) ?_
  replace h2 := h2.uI (a := 61) (j := 76) (v := 104) (by decide)
  show Ez _ 149 474 [.ref 59] [.ref 61, .ref 59] (uI σ1144 61 76 104) _
  generalize uI (σ1144) 61 76 104 = σ1145 at h2 ⊢
  refine z_up (fun w => e_dup d_149_474 rfl rfl) ?_
  refine z_up (fun w => e_bipush d_149_475 cb_77 rfl) ?_
  refine z_up (fun w => e_bipush d_149_477 cb_111 rfl) ?_
  refine z_up (fun w => e_iastore d_149_479 (okI_at (h2.k (a := 61) (by decide) rfl) rfl) rfl) ?_
  replace h2 := h2.uI (a := 61) (j := 77) (v := 111) (by decide)
  show Ez _ 149 480 [.ref 59] [.ref 61, .ref 59] (uI σ1145 61 77 111) _
  generalize uI (σ1145) 61 77 111 = σ1146 at h2 ⊢
  refine z_up (fun w => e_dup d_149_480 rfl rfl) ?_
  refine z_up (fun w => e_bipush d_149_481 cb_78 rfl) ?_
  refine z_up (fun w => e_bipush d_149_483 cb_119 rfl) ?_
  refine z_up (fun w => e_iastore d_149_485 (okI_at (h2.k (a := 61) (by decide) rfl) rfl) rfl) ?_
  replace h2 := h2.uI (a := 61) (j := 78) (v := 119) (by decide)
  show Ez _ 149 486 [.ref 59] [.ref 61, .ref 59] (uI σ1146 61 78 119) _
  generalize uI (σ1146) 61 78 119 = σ1147 at h2 ⊢
  refine z_up (fun w => e_dup d_149_486 rfl rfl) ?_
  refine z_up (fun w => e_bipush d_149_487 cb_79 rfl) ?_
  refine z_up (fun w => e_bipush d_149_489 cb_110 rfl) ?_
  refine z_up (fun w => e_iastore d_149_491 (okI_at (h2.k (a := 61) (by decide) rfl) rfl) rfl) ?_
  replace h2 := h2.uI (a := 61) (j := 79) (v := 110) (by decide)
  show Ez _ 149 492 [.ref 59] [.ref 61, .ref 59] (uI σ1147 61 79 110) _
  generalize uI (σ1147) 61 79 110 = σ1148 at h2 ⊢
  refine z_up (fun w => e_dup d_149_492 rfl rfl) ?_
  refine z_up (fun w => e_bipush d_149_493 cb_80 rfl) ?_
  refine z_up (fun w => e_bipush d_149_495 cb_32 rfl) ?_
  refine z_up (fun w => e_iastore d_149_497 (okI_at (h2.k (a := 61) (by decide) rfl) rfl) rfl) ?_
  replace h2 := h2.uI (a := 61) (j := 80) (v := 32) (by decide)
  show Ez _ 149 498 [.ref 59] [.ref 61, .ref 59] (uI σ1148 61 80 32) _
  generalize uI (σ1148) 61 80 32 = σ1149 at h2 ⊢
  refine z_up (fun w => e_dup d_149_498 rfl rfl) ?_
  refine z_up (fun w => e_bipush d_149_499 cb_81 rfl) ?_
  refine z_up (fun w => e_bipush d_149_501 cb_116 rfl) ?_
  refine z_up (fun w => e_iastore d_149_503 (okI_at (h2.k (a := 61) (by decide) rfl) rfl) rfl) ?_
  replace h2 := h2.uI (a := 61) (j := 81) (v := 116) (by decide)
  show Ez _ 149 504 [.ref 59] [.ref 61, .ref 59] (uI σ1149 61 81 116) _
  generalize uI (σ1149) 61 81 116 = σ1150 at h2 ⊢
  refine z_up (fun w => e_dup d_149_504 rfl rfl) ?_
  refine z_up (fun w => e_bipush d_149_505 cb_82 rfl) ?_
  refine z_up (fun w => e_bipush d_149_507 cb_105 rfl) ?_
  refine z_up (fun w => e_iastore d_149_509 (okI_at (h2.k (a := 61) (by decide) rfl) rfl) rfl) ?_
  replace h2 := h2.uI (a := 61) (j := 82) (v := 105) (by decide)
  show Ez _ 149 510 [.ref 59] [.ref 61, .ref 59] (uI σ1150 61 82 105) _
  generalize uI (σ1150) 61 82 105 = σ1151 at h2 ⊢
  refine z_up (fun w => e_dup d_149_510 rfl rfl) ?_
  refine z_up (fun w => e_bipush d_149_511 cb_83 rfl) ?_
  refine z_up (fun w => e_bipush d_149_513 cb_101 rfl) ?_
  refine z_up (fun w => e_iastore d_149_515 (okI_at (h2.k (a := 61) (by decide) rfl) rfl) rfl) ?_
  replace h2 := h2.uI (a := 61) (j := 83) (v := 101) (by decide)
  show Ez _ 149 516 [.ref 59] [.ref 61, .ref 59] (uI σ1151 61 83 101) _
  generalize uI (σ1151) 61 83 101 = σ1152 at h2 ⊢
  refine z_up (fun w => e_dup d_149_516 rfl rfl) ?_
  refine z_up (fun w => e_bipush d_149_517 cb_84 rfl) ?_
  refine z_up (fun w => e_bipush d_149_519 cb_115 rfl) ?_
  refine z_up (fun w => e_iastore d_149_521 (okI_at (h2.k (a := 61) (by decide) rfl) rfl) rfl) ?_
  replace h2 := h2.uI (a := 61) (j := 84) (v := 115) (by decide)
  show Ez _ 149 522 [.ref 59] [.ref 61, .ref 59] (uI σ1152 61 84 115) _
  generalize uI (σ1152) 61 84 115 = σ1153 at h2 ⊢
  refine z_up (fun w => e_dup d_149_522 rfl rfl) ?_
  refine z_up (fun w => e_bipush d_149_523 cb_85 rfl) ?_
  refine z_up (fun w => e_bipush d_149_525 cb_32 rfl) ?_
  refine z_up (fun w => e_iastore d_149_527 (okI_at (h2.k (a := 61) (by decide) rfl) rfl) rfl) ?_
  replace h2 := h2.uI (a := 61) (j := 85) (v := 32) (by decide)
  show Ez _ 149 528 [.ref 59] [.ref 61, .ref 59] (uI σ1153 61 85 32) _
  generalize uI (σ1153) 61 85 32 = σ1154 at h2 ⊢
  refine z_up (fun w => e_dup d_149_528 rfl rfl) ?_
  refine z_up (fun w => e_bipush d_149_529 cb_86 rfl) ?_
  refine z_up (fun w => e_bipush d_149_531 cb_111 rfl) ?_
  refine z_up (fun w => e_iastore d_149_533 (okI_at (h2.k (a := 61) (by decide) rfl) rfl) rfl) ?_
  replace h2 := h2.uI (a := 61) (j := 86) (v := 111) (by decide)
  show Ez _ 149 534 [.ref 59] [.ref 61, .ref 59] (uI σ1154 61 86 111) _
  generalize uI (σ1154) 61 86 111 = σ1155 at h2 ⊢
  refine z_up (fun w => e_dup d_149_534 rfl rfl) ?_
  refine z_up (fun w => e_bipush d_149_535 cb_87 rfl) ?_
  refine z_up (fun w => e_bipush d_149_537 cb_117 rfl) ?_
  refine z_up (fun w => e_iastore d_149_539 (okI_at (h2.k (a := 61) (by decide) rfl) rfl) rfl) ?_
  replace h2 := h2.uI (a := 61) (j := 87) (v := 117) (by decide)
  show Ez _ 149 540 [.ref 59] [.ref 61, .ref 59] (uI σ1155 61 87 117) _
  generalize uI (σ1155) 61 87 117 = σ1156 at h2 ⊢
  refine z_up (fun w => e_dup d_149_540 rfl rfl) ?_
  refine z_up (fun w => e_bipush d_149_541 cb_88 rfl) ?_
  refine z_up (fun w => e_bipush d_149_543 cb_116 rfl) ?_
  refine z_up (fun w => e_iastore d_149_545 (okI_at (h2.k (a := 61) (by decide) rfl) rfl) rfl) ?_
  replace h2 := h2.uI (a := 61) (j := 88) (v := 116) (by decide)
  show Ez _ 149 546 [.ref 59] [.ref 61, .ref 59] (uI σ1156 61 88 116) _
  generalize uI (σ1156) 61 88 116 = σ1157 at h2 ⊢
  refine z_up (fun w => e_dup d_149_546 rfl rfl) ?_
  refine z_up (fun w => e_bipush d_149_547 cb_89 rfl) ?_
  refine z_up (fun w => e_bipush d_149_549 cb_32 rfl) ?_
  refine z_up (fun w => e_iastore d_149_551 (okI_at (h2.k (a := 61) (by decide) rfl) rfl) rfl) ?_
  replace h2 := h2.uI (a := 61) (j := 89) (v := 32) (by decide)
  show Ez _ 149 552 [.ref 59] [.ref 61, .ref 59] (uI σ1157 61 89 32) _
  generalize uI (σ1157) 61 89 32 = σ1158 at h2 ⊢
  refine z_up (fun w => e_dup d_149_552 rfl rfl) ?_
  refine z_up (fun w => e_bipush d_149_553 cb_90 rfl) ?_
  refine z_up (fun w => e_bipush d_149_555 cb_97 rfl) ?_
  refine z_up (fun w => e_iastore d_149_557 (okI_at (h2.k (a := 61) (by decide) rfl) rfl) rfl) ?_
  replace h2 := h2.uI (a := 61) (j := 90) (v := 97) (by decide)
  show Ez _ 149 558 [.ref 59] [.ref 61, .ref 59] (uI σ1158 61 90 97) _
  generalize uI (σ1158) 61 90 97 = σ1159 at h2 ⊢
  refine z_up (fun w => e_dup d_149_558 rfl rfl) ?_
  refine z_up (fun w => e_bipush d_149_559 cb_91 rfl) ?_
  refine z_up (fun w => e_bipush d_149_561 cb_103 rfl) ?_
  refine z_up (fun w => e_iastore d_149_563 (okI_at (h2.k (a := 61) (by decide) rfl) rfl) rfl) ?_
  replace h2 := h2.uI (a := 61) (j := 91) (v := 103) (by decide)
  show Ez _ 149 564 [.ref 59] [.ref 61, .ref 59] (uI σ1159 61 91 103) _
  generalize uI (σ1159) 61 91 103 = σ1160 at h2 ⊢
  refine z_up (fun w => e_dup d_149_564 rfl rfl) ?_
  refine z_up (fun w => e_bipush d_149_565 cb_92 rfl) ?_
  refine z_up (fun w => e_bipush d_149_567 cb_101 rfl) ?_
  refine z_up (fun w => e_iastore d_149_569 (okI_at (h2.k (a := 61) (by decide) rfl) rfl) rfl) ?_
  replace h2 := h2.uI (a := 61) (j := 92) (v := 101) (by decide)
  show Ez _ 149 570 [.ref 59] [.ref 61, .ref 59] (uI σ1160 61 92 101) _
  generalize uI (σ1160) 61 92 101 = σ1161 at h2 ⊢
  refine z_up (fun w => e_dup d_149_570 rfl rfl) ?_
  refine z_up (fun w => e_bipush d_149_571 cb_93 rfl) ?_
  refine z_up (fun w => e_bipush d_149_573 cb_32 rfl) ?_
  refine z_up (fun w => e_iastore d_149_575 (okI_at (h2.k (a := 61) (by decide) rfl) rfl) rfl) ?_
  replace h2 := h2.uI (a := 61) (j := 93) (v := 32) (by decide)
  show Ez _ 149 576 [.ref 59] [.ref 61, .ref 59] (uI σ1161 61 93 32) _
  generalize uI (σ1161) 61 93 32 = σ1162 at h2 ⊢
  refine z_up (fun w => e_dup d_149_576 rfl rfl) ?_
  refine z_up (fun w => e_bipush d_149_577 cb_94 rfl) ?_
  refine z_up (fun w => e_bipush d_149_579 cb_109 rfl) ?_
  refine z_up (fun w => e_iastore d_149_581 (okI_at (h2.k (a := 61) (by decide) rfl) rfl) rfl) ?_
  replace h2 := h2.uI (a := 61) (j := 94) (v := 109) (by decide)
  show Ez _ 149 582 [.ref 59] [.ref 61, .ref 59] (uI σ1162 61 94 109) _
  generalize uI (σ1162) 61 94 109 = σ1163 at h2 ⊢
  refine z_up (fun w => e_dup d_149_582 rfl rfl) ?_
  refine z_up (fun w => e_bipush d_149_583 cb_95 rfl) ?_
  refine z_up (fun w => e_bipush d_149_585 cb_105 rfl) ?_
  refine z_up (fun w => e_iastore d_149_587 (okI_at (h2.k (a := 61) (by decide) rfl) rfl) rfl) ?_
  replace h2 := h2.uI (a := 61) (j := 95) (v := 105) (by decide)
  show Ez _ 149 588 [.ref 59] [.ref 61, .ref 59] (uI σ1163 61 95 105) _
  generalize uI (σ1163) 61 95 105 = σ1164 at h2 ⊢
  refine z_up (fun w => e_dup d_149_588 rfl rfl) ?_
  refine z_up (fun w => e_bipush d_149_589 cb_96 rfl) ?_
  refine z_up (fun w => e_bipush d_149_591 cb_110 rfl) ?_
  refine z_up (fun w => e_iastore d_149_593 (okI_at (h2.k (a := 61) (by decide) rfl) rfl) rfl) ?_
  replace h2 := h2.uI (a := 61) (j := 96) (v := 110) (by decide)
  show Ez _ 149 594 [.ref 59] [.ref 61, .ref 59] (uI σ1164 61 96 110) _
  generalize uI (σ1164) 61 96 110 = σ1165 at h2 ⊢
  refine z_up (fun w => e_dup d_149_594 rfl rfl) ?_
  refine z_up (fun w => e_bipush d_149_595 cb_97 rfl) ?_
  refine z_up (fun w => e_bipush d_149_597 cb_117 rfl) ?_
  refine z_up (fun w => e_iastore d_149_599 (okI_at (h2.k (a := 61) (by decide) rfl) rfl) rfl) ?_
  replace h2 := h2.uI (a := 61) (j := 97) (v := 117) (by decide)
  show Ez _ 149 600 [.ref 59] [.ref 61, .ref 59] (uI σ1165 61 97 117) _
  generalize uI (σ1165) 61 97 117 = σ1166 at h2 ⊢
  refine z_up (fun w => e_dup d_149_600 rfl rfl) ?_
  refine z_up (fun w => e_bipush d_149_601 cb_98 rfl) ?_
  refine z_up (fun w => e_bipush d_149_603 cb_116 rfl) ?_
  refine z_up (fun w => e_iastore d_149_605 (okI_at (h2.k (a := 61) (by decide) rfl) rfl) rfl) ?_
  replace h2 := h2.uI (a := 61) (j := 98) (v := 116) (by decide)
  show Ez _ 149 606 [.ref 59] [.ref 61, .ref 59] (uI σ1166 61 98 116) _
  generalize uI (σ1166) 61 98 116 = σ1167 at h2 ⊢
  refine z_up (fun w => e_dup d_149_606 rfl rfl) ?_
  refine z_up (fun w => e_bipush d_149_607 cb_99 rfl) ?_
  refine z_up (fun w => e_bipush d_149_609 cb_101 rfl) ?_
  refine z_up (fun w => e_iastore d_149_611 (okI_at (h2.k (a := 61) (by decide) rfl) rfl) rfl) ?_
  replace h2 := h2.uI (a := 61) (j := 99) (v := 101) (by decide)
  show Ez _ 149 612 [.ref 59] [.ref 61, .ref 59] (uI σ1167 61 99 101) _
  generalize uI (σ1167) 61 99 101 = σ1168 at h2 ⊢
  refine z_up (fun w => e_dup d_149_612 rfl rfl) ?_
  refine z_up (fun w => e_bipush d_149_613 cb_100 rfl) ?_
  refine z_up (fun w => e_bipush d_149_615 cb_32 rfl) ?_
  refine z_up (fun w => e_iastore d_149_617 (okI_at (h2.k (a := 61) (by decide) rfl) rfl) rfl) ?_
  replace h2 := h2.uI (a := 61) (j := 100) (v := 32) (by decide)
  show Ez _ 149 618 [.ref 59] [.ref 61, .ref 59] (uI σ1168 61 100 32) _
  generalize uI (σ1168) 61 100 32 = σ1169 at h2 ⊢
  refine z_up (fun w => e_putR d_149_618 oo_149 pF_9_13 (by decide +kernel) (h2.k (by decide) rfl) rfl) ?_
  replace h2 := h2.uR (a := 59) (j := 3) (v := 61) (by decide)
  generalize uR (σ1169) 59 3 (some 61) = σ1170 at h2 ⊢
  refine z_up (fun w => e_aload_n d_149_621 rfl rfl) ?_
  refine z_up (fun w => e_iconst d_149_622 ci_m1 rfl) ?_
  refine z_up (fun w => e_putI d_149_623 oo_149 pF_9_16 (Or.inl rfl) (h2.k (by decide) rfl) rfl) ?_
  replace h2 := h2.uI (a := 59) (j := 5) (v := (-1)) (by decide)
  generalize uI (σ1170) 59 5 (-1) = σ1171 at h2 ⊢
  refine z_up (fun w => e_aload_n d_149_626 rfl rfl) ?_
  refine z_up (fun w => e_iconst d_149_627 ci_2 rfl) ?_
  refine z_arr (s := 2) h2 d_149_628 rfl (by decide) rfl rfl rfl (fun σ3 h3 => ?_)
  refine z_up (fun w => e_putR d_149_630 oo_149 pF_9_20 (by decide +kernel) (h3.k (by decide) rfl) rfl) ?_
  replace h3 := h3.uR (a := 59) (j := 22) (v := 62) (by decide)
  generalize uR (σ3) 59 22 (some 62) = σ1173 at h3 ⊢
  refine z_up (fun w => e_aload_n d_149_633 rfl rfl) ?_
  refine z_up (fun w => e_iconst d_149_634 ci_2 rfl) ?_
  refine z_arr (s := 2) h3 d_149_635 rfl (by decide) rfl rfl rfl (fun σ4 h4 => ?_)
  refine z_up (fun w => e_putR d_149_637 oo_149 pF_9_23 (by decide +kernel) (h4.k (by decide) rfl) rfl) ?_
  replace h4 := h4.uR (a := 59) (j := 23) (v := 63) (by decide)
  generalize uR (σ4) 59 23 (some 63) = σ1175 at h4 ⊢
  refine z_up (fun w => e_aload_n d_149_640 rfl rfl) ?_
  refine z_up (fun w => e_iconst d_149_641 ci_4 rfl) ?_
  refine z_arr (s := 4) h4 d_149_642 rfl (by decide) rfl rfl rfl (fun σ5 h5 => ?_)
  refine z_up (fun w => e_putR d_149_644 oo_149 pF_9_27 (by decide +kernel) (h5.k (by decide) rfl) rfl) ?_
  replace h5 := h5.uR (a := 59) (j := 24) (v := 64) (by decide)
  generalize uR (σ5) 59 24 (some 64) = σ1177 at h5 ⊢
  refine z_up (fun w => e_aload_n d_149_647 rfl rfl) ?_
  refine z_up (fun w => e_bipush d_149_648 cb_28 rfl) ?_
  refine z_arr (s := 28) h5 d_149_650 rfl (by decide) rfl rfl rfl (fun σ6 h6 => ?_)
  refine z_up (fun w => e_putR d_149_652 oo_149 pF_9_30 (by decide +kernel) (h6.k (by decide) rfl) rfl) ?_
  replace h6 := h6.uR (a := 59) (j := 25) (v := 65) (by decide)
  generalize uR (σ6) 59 25 (some 65) = σ1179 at h6 ⊢
  refine z_up (fun w => e_aload_n d_149_655 rfl rfl) ?_
  refine z_up (fun w => e_bipush d_149_656 cb_20 rfl) ?_
  refine z_arr (s := 20) h6 d_149_658 rfl (by decide) rfl rfl rfl (fun σ7 h7 => ?_)
  refine z_up (fun w => e_putR d_149_660 oo_149 pF_9_33 (by decide +kernel) (h7.k (by decide) rfl) rfl) ?_
  replace h7 := h7.uR (a := 59) (j := 26) (v := 66) (by decide)
  generalize uR (σ7) 59 26 (some 66) = σ1181 at h7 ⊢
  refine z_up (fun w => e_aload_n d_149_663 rfl rfl) ?_
  refine z_up (fun w => e_bipush d_149_664 cb_20 rfl) ?_
  refine z_arr (s := 20) h7 d_149_666 rfl (by decide) rfl rfl rfl (fun σ8 h8 => ?_)
  refine z_up (fun w => e_putR d_149_668 oo_149 pF_9_36 (by decide +kernel) (h8.k (by decide) rfl) rfl) ?_
  replace h8 := h8.uR (a := 59) (j := 27) (v := 67) (by decide)
  generalize uR (σ8) 59 27 (some 67) = σ1183 at h8 ⊢
  refine z_up (fun w => e_aload_n d_149_671 rfl rfl) ?_
  refine z_up (fun w => e_bipush d_149_672 cb_20 rfl) ?_
  refine z_arr (s := 20) h8 d_149_674 rfl (by decide) rfl rfl rfl (fun σ9 h9 => ?_)
  refine z_up (fun w => e_putR d_149_676 oo_149 pF_9_39 (by decide +kernel) (h9.k (by decide) rfl) rfl) ?_
  replace h9 := h9.uR (a := 59) (j := 28) (v := 68) (by decide)
  generalize uR (σ9) 59 28 (some 68) = σ1185 at h9 ⊢
  refine z_up (fun w => e_aload_n d_149_679 rfl rfl) ?_
  refine z_up (fun w => e_bipush d_149_680 cb_28 rfl) ?_
  refine z_arr (s := 28) h9 d_149_682 rfl (by decide) rfl rfl rfl (fun σ10 h10 => ?_)
  refine z_up (fun w => e_putR d_149_684 oo_149 pF_9_42 (by decide +kernel) (h10.k (by decide) rfl) rfl) ?_
  replace h10 := h10.uR (a := 59) (j := 29) (v := 69) (by decide)
  generalize uR (σ10) 59 29 (some 69) = σ1187 at h10 ⊢
  refine z_up (fun w => e_aload_n d_149_687 rfl rfl) ?_
  refine z_up (fun w => e_bipush d_149_688 cb_28 rfl) ?_
  refine z_arr (s := 28) h10 d_149_690 rfl (by decide) rfl rfl rfl (fun σ11 h11 => ?_)
  refine z_up (fun w => e_putR d_149_692 oo_149 pF_9_45 (by decide +kernel) (h11.k (by decide) rfl) rfl) ?_
  replace h11 := h11.uR (a := 59) (j := 30) (v := 70) (by decide)
  generalize uR (σ11) 59 30 (some 70) = σ1189 at h11 ⊢
  refine z_up (fun w => e_aload_n d_149_695 rfl rfl) ?_
  refine z_up (fun w => e_bipush d_149_696 cb_8 rfl) ?_
  refine z_arr (s := 8) h11 d_149_698 rfl (by decide) rfl rfl rfl (fun σ12 h12 => ?_)
  refine z_up (fun w => e_putR d_149_700 oo_149 pF_9_48 (by decide +kernel) (h12.k (by decide) rfl) rfl) ?_
  replace h12 := h12.uR (a := 59) (j := 31) (v := 71) (by decide)
  generalize uR (σ12) 59 31 (some 71) = σ1191 at h12 ⊢
  refine z_up (fun w => e_aload_n d_149_703 rfl rfl) ?_
  refine z_up (fun w => e_bipush d_149_704 cb_6 rfl) ?_
  refine z_arr (s := 6) h12 d_149_706 rfl (by decide) rfl rfl rfl (fun σ13 h13 => ?_)
  refine z_up (fun w => e_putR d_149_708 oo_149 pF_9_51 (by decide +kernel) (h13.k (by decide) rfl) rfl) ?_
  replace h13 := h13.uR (a := 59) (j := 32) (v := 72) (by decide)
  generalize uR (σ13) 59 32 (some 72) = σ1193 at h13 ⊢
  refine z_up (fun w => e_aload_n d_149_711 rfl rfl) ?_
  refine z_up (fun w => e_bipush d_149_712 cb_6 rfl) ?_
  refine z_arr (s := 6) h13 d_149_714 rfl (by decide) rfl rfl rfl (fun σ14 h14 => ?_)
  refine z_up (fun w => e_putR d_149_716 oo_149 pF_9_54 (by decide +kernel) (h14.k (by decide) rfl) rfl) ?_
  replace h14 := h14.uR (a := 59) (j := 33) (v := 73) (by decide)
  generalize uR (σ14) 59 33 (some 73) = σ1195 at h14 ⊢
  refine z_up (fun w => e_aload_n d_149_719 rfl rfl) ?_
  refine z_up (fun w => e_bipush d_149_720 cb_6 rfl) ?_
  refine z_arr (s := 6) h14 d_149_722 rfl (by decide) rfl rfl rfl (fun σ15 h15 => ?_)
  refine z_up (fun w => e_putR d_149_724 oo_149 pF_9_57 (by decide +kernel) (h15.k (by decide) rfl) rfl) ?_
  replace h15 := h15.uR (a := 59) (j := 34) (v := 74) (by decide)
  generalize uR (σ15) 59 34 (some 74) = σ1197 at h15 ⊢
  refine z_up (fun w => e_aload_n d_149_727 rfl rfl) ?_
  refine z_up (fun w => e_sipush d_149_728 cs_128 rfl) ?_
  refine z_arr (s := 128) h15 d_149_731 rfl (by decide) rfl rfl rfl (fun σ16 h16 => ?_)
  refine z_up (fun w => e_putR d_149_733 oo_149 pF_9_60 (by decide +kernel) (h16.k (by decide) rfl) rfl) ?_
  replace h16 := h16.uR (a := 59) (j := 35) (v := 75) (by decide)
  generalize uR (σ16) 59 35 (some 75) = σ1199 at h16 ⊢
  refine z_up (fun w => e_aload_n d_149_736 rfl rfl) ?_
  refine z_up (fun w => e_sipush d_149_737 cs_128 rfl) ?_
  refine z_arr (s := 128) h16 d_149_740 rfl (by decide) rfl rfl rfl (fun σ17 h17 => ?_)
  refine z_up (fun w => e_putR d_149_742 oo_149 pF_9_63 (by decide +kernel) (h17.k (by decide) rfl) rfl) ?_
  replace h17 := h17.uR (a := 59) (j := 36) (v := 76) (by decide)
  generalize uR (σ17) 59 36 (some 76) = σ1201 at h17 ⊢
  refine z_up (fun w => e_aload_n d_149_745 rfl rfl) ?_
  refine z_up (fun w => e_sipush d_149_746 cs_128 rfl) ?_
  refine z_arr (s := 128) h17 d_149_749 rfl (by decide) rfl rfl rfl (fun σ18 h18 => ?_)
  refine z_up (fun w => e_putR d_149_751 oo_149 pF_9_66 (by decide +kernel) (h18.k (by decide) rfl) rfl) ?_
  replace h18 := h18.uR (a := 59) (j := 37) (v := 77) (by decide)
  generalize uR (σ18) 59 37 (some 77) = σ1203 at h18 ⊢
  refine z_up (fun w => e_aload_n d_149_754 rfl rfl) ?_
  refine z_up (fun w => e_bipush d_149_755 cb_96 rfl) ?_
  refine z_arr (s := 96) h18 d_149_757 rfl (by decide) rfl rfl rfl (fun σ19 h19 => ?_)
  refine z_up (fun w => e_putR d_149_759 oo_149 pF_9_69 (by decide +kernel) (h19.k (by decide) rfl) rfl) ?_
  replace h19 := h19.uR (a := 59) (j := 38) (v := 78) (by decide)
  generalize uR (σ19) 59 38 (some 78) = σ1205 at h19 ⊢
  refine z_up (fun w => e_aload_n d_149_762 rfl rfl) ?_
  refine z_up (fun w => e_bipush d_149_763 cb_96 rfl) ?_
  refine z_arr (s := 96) h19 d_149_765 rfl (by decide) rfl rfl rfl (fun σ20 h20 => ?_)
  refine z_up (fun w => e_putR d_149_767 oo_149 pF_9_72 (by decide +kernel) (h20.k (by decide) rfl) rfl) ?_
  replace h20 := h20.uR (a := 59) (j := 39) (v := 79) (by decide)
  generalize uR (σ20) 59 39 (some 79) = σ1207 at h20 ⊢
  refine z_up (fun w => e_aload_n d_149_770 rfl rfl) ?_
  refine z_up (fun w => e_bipush d_149_771 cb_7 rfl) ?_
  refine z_arr (s := 7) h20 d_149_773 rfl (by decide) rfl rfl rfl (fun σ21 h21 => ?_)
  refine z_up (fun w => e_putR d_149_775 oo_149 pF_9_75 (by decide +kernel) (h21.k (by decide) rfl) rfl) ?_
  replace h21 := h21.uR (a := 59) (j := 46) (v := 80) (by decide)
  generalize uR (σ21) 59 46 (some 80) = σ1209 at h21 ⊢
  refine z_up (fun w => e_aload_n d_149_778 rfl rfl) ?_
  refine z_up (fun w => e_bipush d_149_779 cb_64 rfl) ?_
  refine z_arr (s := 64) h21 d_149_781 rfl (by decide) rfl rfl rfl (fun σ22 h22 => ?_)
  refine z_up (fun w => e_putR d_149_783 oo_149 pF_9_79 (by decide +kernel) (h22.k (by decide) rfl) rfl) ?_
  replace h22 := h22.uR (a := 59) (j := 47) (v := 81) (by decide)
  generalize uR (σ22) 59 47 (some 81) = σ1211 at h22 ⊢
  refine z_up (fun w => e_aload_n d_149_786 rfl rfl) ?_
  refine z_up (fun w => e_iconst d_149_787 ci_2 rfl) ?_
  refine z_arr (s := 2) h22 d_149_788 rfl (by decide) rfl rfl rfl (fun σ23 h23 => ?_)
  refine z_up (fun w => e_putR d_149_790 oo_149 pF_9_82 (by decide +kernel) (h23.k (by decide) rfl) rfl) ?_
  replace h23 := h23.uR (a := 59) (j := 49) (v := 82) (by decide)
  generalize uR (σ23) 59 49 (some 82) = σ1213 at h23 ⊢
  refine z_up (fun w => e_aload_n d_149_793 rfl rfl) ?_
  refine z_up (fun w => e_iconst d_149_794 ci_2 rfl) ?_
  refine z_arr (s := 2) h23 d_149_795 rfl (by decide) rfl rfl rfl (fun σ24 h24 => ?_)
  refine z_up (fun w => e_putR d_149_797 oo_149 pF_9_85 (by decide +kernel) (h24.k (by decide) rfl) rfl) ?_
  replace h24 := h24.uR (a := 59) (j := 50) (v := 83) (by decide)
  generalize uR (σ24) 59 50 (some 83) = σ1215 at h24 ⊢
  refine z_up (fun w => e_aload_n d_149_800 rfl rfl) ?_
  refine z_up (fun w => e_iconst d_149_801 ci_2 rfl) ?_
  refine z_arr (s := 2) h24 d_149_802 rfl (by decide) rfl rfl rfl (fun σ25 h25 => ?_)
  refine z_up (fun w => e_putR d_149_804 oo_149 pF_9_88 (by decide +kernel) (h25.k (by decide) rfl) rfl) ?_
  replace h25 := h25.uR (a := 59) (j := 51) (v := 84) (by decide)
  generalize uR (σ25) 59 51 (some 84) = σ1217 at h25 ⊢
  refine z_up (fun w => e_aload_n d_149_807 rfl rfl) ?_
  refine z_up (fun w => e_iconst d_149_808 ci_2 rfl) ?_
  refine z_arr (s := 2) h25 d_149_809 rfl (by decide) rfl rfl rfl (fun σ26 h26 => ?_)
  refine z_up (fun w => e_putR d_149_811 oo_149 pF_9_91 (by decide +kernel) (h26.k (by decide) rfl) rfl) ?_
  replace h26 := h26.uR (a := 59) (j := 52) (v := 85) (by decide)
  generalize uR (σ26) 59 52 (some 85) = σ1219 at h26 ⊢
  refine z_up (fun w => e_aload_n d_149_814 rfl rfl) ?_
  refine z_up (fun w => e_iconst d_149_815 ci_2 rfl) ?_
  refine z_arr (s := 2) h26 d_149_816 rfl (by decide) rfl rfl rfl (fun σ27 h27 => ?_)
  refine z_up (fun w => e_putR d_149_818 oo_149 pF_9_94 (by decide +kernel) (h27.k (by decide) rfl) rfl) ?_
  replace h27 := h27.uR (a := 59) (j := 53) (v := 86) (by decide)
  generalize uR (σ27) 59 53 (some 86) = σ1221 at h27 ⊢
  refine z_up (fun w => e_aload_n d_149_821 rfl rfl) ?_
  refine z_up (fun w => e_iconst d_149_822 ci_2 rfl) ?_
  refine z_arr (s := 2) h27 d_149_823 rfl (by decide) rfl rfl rfl (fun σ28 h28 => ?_)
  refine z_up (fun w => e_putR d_149_825 oo_149 pF_9_97 (by decide +kernel) (h28.k (by decide) rfl) rfl) ?_
  replace h28 := h28.uR (a := 59) (j := 54) (v := 87) (by decide)
  generalize uR (σ28) 59 54 (some 87) = σ1223 at h28 ⊢
  refine z_up (fun w => e_aload_n d_149_828 rfl rfl) ?_
  refine z_up (fun w => e_bipush d_149_829 cb_28 rfl) ?_
  refine z_arr (s := 28) h28 d_149_831 rfl (by decide) rfl rfl rfl (fun σ29 h29 => ?_)
  refine z_up (fun w => e_putR d_149_833 oo_149 pF_9_100 (by decide +kernel) (h29.k (by decide) rfl) rfl) ?_
  replace h29 := h29.uR (a := 59) (j := 55) (v := 88) (by decide)
  generalize uR (σ29) 59 55 (some 88) = σ1225 at h29 ⊢
  refine z_up (fun w => e_aload_n d_149_836 rfl rfl) ?_
  refine z_up (fun w => e_bipush d_149_837 cb_20 rfl) ?_
  refine z_arr (s := 20) h29 d_149_839 rfl (by decide) rfl rfl rfl (fun σ30 h30 => ?_)
  refine z_up (fun w => e_putR d_149_841 oo_149 pF_9_103 (by decide +kernel) (h30.k (by decide) rfl) rfl) ?_
  replace h30 := h30.uR (a := 59) (j := 56) (v := 89) (by decide)
  generalize uR (σ30) 59 56 (some 89) = σ1227 at h30 ⊢
  refine z_up (fun w => e_aload_n d_149_844 rfl rfl) ?_
  refine z_up (fun w => e_bipush d_149_845 cb_20 rfl) ?_
  refine z_arr (s := 20) h30 d_149_847 rfl (by decide) rfl rfl rfl (fun σ31 h31 => ?_)
  refine z_up (fun w => e_putR d_149_849 oo_149 pF_9_106 (by decide +kernel) (h31.k (by decide) rfl) rfl) ?_
  replace h31 := h31.uR (a := 59) (j := 57) (v := 90) (by decide)
  generalize uR (σ31) 59 57 (some 90) = σ1229 at h31 ⊢
  refine z_up (fun w => e_aload_n d_149_852 rfl rfl) ?_
  refine z_up (fun w => e_sipush d_149_853 cs_1024 rfl) ?_
  refine z_arr (s := 1024) h31 d_149_856 rfl (by decide) rfl rfl rfl (fun σ32 h32 => ?_)
  refine z_up (fun w => e_putR d_149_858 oo_149 pF_9_109 (by decide +kernel) (h32.k (by decide) rfl) rfl) ?_
  replace h32 := h32.uR (a := 59) (j := 64) (v := 91) (by decide)
  generalize uR (σ32) 59 64 (some 91) = σ1231 at h32 ⊢
  refine z_up (fun w => e_aload_n d_149_861 rfl rfl) ?_
  refine z_up (fun w => e_bipush d_149_862 cb_14 rfl) ?_
  refine z_arr (s := 14) h32 d_149_864 rfl (by decide) rfl rfl rfl (fun σ33 h33 => ?_)
  refine z_up (fun w => e_putR d_149_866 oo_149 pF_9_112 (by decide +kernel) (h33.k (by decide) rfl) rfl) ?_
  replace h33 := h33.uR (a := 59) (j := 66) (v := 92) (by decide)
  generalize uR (σ33) 59 66 (some 92) = σ1233 at h33 ⊢
  refine z_up (fun w => e_aload_n d_149_869 rfl rfl) ?_
  refine z_up (fun w => e_sipush d_149_870 cs_1024 rfl) ?_
  refine z_arr (s := 1024) h33 d_149_873 rfl (by decide) rfl rfl rfl (fun σ34 h34 => ?_)
  refine z_up (fun w => e_putR d_149_875 oo_149 pF_9_115 (by decide +kernel) (h34.k (by decide) rfl) rfl) ?_
  replace h34 := h34.uR (a := 59) (j := 67) (v := 93) (by decide)
  generalize uR (σ34) 59 67 (some 93) = σ1235 at h34 ⊢
  refine z_up (fun w => e_aload_n d_149_878 rfl rfl) ?_
  refine z_up (fun w => e_iconst d_149_879 ci_m1 rfl) ?_
  refine z_up (fun w => e_putI d_149_880 oo_149 pF_9_118 (Or.inl rfl) (h34.k (by decide) rfl) rfl) ?_
  replace h34 := h34.uI (a := 59) (j := 69) (v := (-1)) (by decide)
  generalize uI (σ1235) 59 69 (-1) = σ1236 at h34 ⊢
  refine z_up (fun w => e_aload_n d_149_883 rfl rfl) ?_
  refine z_up (fun w => e_bipush d_149_884 cb_72 rfl) ?_
  refine z_arr (s := 72) h34 d_149_886 rfl (by decide) rfl rfl rfl (fun σ35 h35 => ?_)
  refine z_up (fun w => e_putR d_149_888 oo_149 pF_9_121 (by decide +kernel) (h35.k (by decide) rfl) rfl) ?_
  replace h35 := h35.uR (a := 59) (j := 70) (v := 94) (by decide)
  generalize uR (σ35) 59 70 (some 94) = σ1238 at h35 ⊢
  refine z_up (fun w => e_aload_n d_149_891 rfl rfl) ?_
  refine z_up (fun w => e_bipush d_149_892 cb_24 rfl) ?_
  refine z_arr (s := 24) h35 d_149_894 rfl (by decide) rfl rfl rfl (fun σ36 h36 => ?_)
  refine z_up (fun w => e_putR d_149_896 oo_149 pF_9_124 (by decide +kernel) (h36.k (by decide) rfl) rfl) ?_
  replace h36 := h36.uR (a := 59) (j := 71) (v := 95) (by decide)
  generalize uR (σ36) 59 71 (some 95) = σ1240 at h36 ⊢
  refine z_up (fun w => e_aload_n d_149_899 rfl rfl) ?_
  refine z_up (fun w => e_sipush d_149_900 cs_480 rfl) ?_
  refine z_arr (s := 480) h36 d_149_903 rfl (by decide) rfl rfl rfl (fun σ37 h37 => ?_)
  refine z_up (fun w => e_putR d_149_905 oo_149 pF_9_127 (by decide +kernel) (h37.k (by decide) rfl) rfl) ?_
  replace h37 := h37.uR (a := 59) (j := 73) (v := 96) (by decide)
  generalize uR (σ37) 59 73 (some 96) = σ1242 at h37 ⊢
  refine z_up (fun w => e_aload_n d_149_908 rfl rfl) ?_
  refine z_up (fun w => e_bipush d_149_909 cb_24 rfl) ?_
  refine z_arr (s := 24) h37 d_149_911 rfl (by decide) rfl rfl rfl (fun σ38 h38 => ?_)
  refine z_up (fun w => e_putR d_149_913 oo_149 pF_9_130 (by decide +kernel) (h38.k (by decide) rfl) rfl) ?_
  replace h38 := h38.uR (a := 59) (j := 75) (v := 97) (by decide)
  generalize uR (σ38) 59 75 (some 97) = σ1244 at h38 ⊢
  refine z_up (fun w => e_aload_n d_149_916 rfl rfl) ?_
  refine z_up (fun w => e_bipush d_149_917 cb_16 rfl) ?_
  refine z_arr (s := 16) h38 d_149_919 rfl (by decide) rfl rfl rfl (fun σ39 h39 => ?_)
  refine z_up (fun w => e_putR d_149_921 oo_149 pF_9_133 (by decide +kernel) (h39.k (by decide) rfl) rfl) ?_
  replace h39 := h39.uR (a := 59) (j := 76) (v := 98) (by decide)
  generalize uR (σ39) 59 76 (some 98) = σ1246 at h39 ⊢
  exact n_149e h39
