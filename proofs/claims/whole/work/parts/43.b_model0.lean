/-! X9_thrown -/
theorem b_150_0 {t : Nat} {σ : Mm} {w : Option Value × Mm}  (hS : Sg t σ) 
    (H : w = (some (.int (mI σ 59 2)), σ)) :
    Ev 150 0 [.ref 59] [] σ w := by
  refine e_aload_n d_150_0 rfl rfl ?_
  refine e_getI d_150_1 oo_150 pF_9_142 (by decide) (hS.k rfl) rfl ?_
  subst H
  exact e_iret d_150_4 rr_150
/-! X9_feed -/
theorem b_151_0 {t : Nat} {σ : Mm} {w : Option Value × Mm} {x1 : Int32} {x2 : Int32} {x3 : Int32} {x4 : Int32} {x5 : Int32} (hS : Sg t σ) 
    (H : (700 < ((mI (uI σ 59 2 0) 59 1) + 20) → (w = (some (.int (-1)), uI σ 59 2 0))) ∧ (¬ (700 < ((mI (uI σ 59 2 0) 59 1) + 20)) → Ev 151 23 [.ref 59, .int x1, .int x2, .int x3, .int x4, .int x5, .int 0, .retAddr 0] [] (uI σ 59 2 0) w)) :
    Ev 151 0 [.ref 59, .int x1, .int x2, .int x3, .int x4, .int x5, .retAddr 0, .retAddr 0] [] σ w := by
  refine e_aload_n d_151_0 rfl rfl ?_
  refine e_iconst d_151_1 ci_0 rfl ?_
  refine e_putI d_151_2 oo_151 pF_9_142 (Or.inl rfl) (hS.k rfl) rfl ?_
  refine e_aload_n d_151_5 rfl rfl ?_
  refine e_getI d_151_6 oo_151 pF_9_145 (by decide) (hS.uI.k rfl) rfl ?_
  refine e_bipush d_151_9 cb_20 rfl ?_
  refine e_iadd d_151_11 rfl ?_
  refine e_sipush d_151_12 cs_700 rfl ?_
  refine e_icmp_le (t := 20) d_151_15 (by decide) rfl (fun hc => ?_) (fun hc => ?_)
  · replace H := H.2 hc
    refine e_iconst d_151_20 ci_0 rfl ?_
    refine e_istore (ls2 := [.ref 59, .int x1, .int x2, .int x3, .int x4, .int x5, .int 0, .retAddr 0]) d_151_21 rfl rfl rfl ?_
    exact H
  · replace H := H.1 hc
    refine e_iconst d_151_18 ci_m1 rfl ?_
    subst H
    exact e_iret d_151_19 rr_151
theorem b_151_23 {t : Nat} {σ : Mm} {w : Option Value × Mm} {x1 : Int32} {x2 : Int32} {x3 : Int32} {x4 : Int32} {x5 : Int32} {x6 : Int32} {z7 : Value} (hS : Sg t σ) 
    (H : (x6 < 20 → ((x6 < 4 → Ev 151 76 [.ref 59, .int x1, .int x2, .int x3, .int x4, .int x5, .int x6, z7] [.int x1] σ w) ∧ (¬ (x6 < 4) → ((x6 < 8 → Ev 151 76 [.ref 59, .int x1, .int x2, .int x3, .int x4, .int x5, .int x6, z7] [.int x2] σ w) ∧ (¬ (x6 < 8) → ((x6 < 12 → Ev 151 76 [.ref 59, .int x1, .int x2, .int x3, .int x4, .int x5, .int x6, z7] [.int x3] σ w) ∧ (¬ (x6 < 12) → ((x6 < 16 → Ev 151 76 [.ref 59, .int x1, .int x2, .int x3, .int x4, .int x5, .int x6, z7] [.int x4] σ w) ∧ (¬ (x6 < 16) → Ev 151 76 [.ref 59, .int x1, .int x2, .int x3, .int x4, .int x5, .int x6, z7] [.int x5] σ w))))))))) ∧ (¬ (x6 < 20) → (w = (some (.int (mI (uI σ 59 1 ((mI σ 59 1) + 20)) 59 1)), uI σ 59 1 ((mI σ 59 1) + 20))))) :
    Ev 151 23 [.ref 59, .int x1, .int x2, .int x3, .int x4, .int x5, .int x6, z7] [] σ w := by
  refine e_iload d_151_23 rfl rfl ?_
  refine e_bipush d_151_25 cb_20 rfl ?_
  refine e_icmp_ge (t := 113) d_151_27 (by decide) rfl (fun hc => ?_) (fun hc => ?_)
  · replace H := H.2 hc
    refine e_aload_n d_151_113 rfl rfl ?_
    refine e_dup d_151_114 rfl rfl ?_
    refine e_getI d_151_115 oo_151 pF_9_145 (by decide) (hS.k rfl) rfl ?_
    refine e_bipush d_151_118 cb_20 rfl ?_
    refine e_iadd d_151_120 rfl ?_
    refine e_putI d_151_121 oo_151 pF_9_145 (Or.inl rfl) (hS.k rfl) rfl ?_
    refine e_aload_n d_151_124 rfl rfl ?_
    refine e_getI d_151_125 oo_151 pF_9_145 (by decide) (hS.uI.k rfl) rfl ?_
    subst H
    exact e_iret d_151_128 rr_151
  · replace H := H.1 hc
    refine e_iload d_151_30 rfl rfl ?_
    refine e_iconst d_151_32 ci_4 rfl ?_
    refine e_icmp_ge (t := 40) d_151_33 (by decide) rfl (fun hc => ?_) (fun hc => ?_)
    · replace H := H.2 hc
      refine e_iload d_151_40 rfl rfl ?_
      refine e_bipush d_151_42 cb_8 rfl ?_
      refine e_icmp_ge (t := 51) d_151_44 (by decide) rfl (fun hc => ?_) (fun hc => ?_)
      · replace H := H.2 hc
        refine e_iload d_151_51 rfl rfl ?_
        refine e_bipush d_151_53 cb_12 rfl ?_
        refine e_icmp_ge (t := 62) d_151_55 (by decide) rfl (fun hc => ?_) (fun hc => ?_)
        · replace H := H.2 hc
          refine e_iload d_151_62 rfl rfl ?_
          refine e_bipush d_151_64 cb_16 rfl ?_
          refine e_icmp_ge (t := 74) d_151_66 (by decide) rfl (fun hc => ?_) (fun hc => ?_)
          · replace H := H.2 hc
            refine e_iload d_151_74 rfl rfl ?_
            exact H
          · replace H := H.1 hc
            refine e_iload d_151_69 rfl rfl ?_
            refine e_goto (t := 76) d_151_71 (by decide) ?_
            exact H
        · replace H := H.1 hc
          refine e_iload_n d_151_58 rfl rfl ?_
          refine e_goto (t := 76) d_151_59 (by decide) ?_
          exact H
      · replace H := H.1 hc
        refine e_iload_n d_151_47 rfl rfl ?_
        refine e_goto (t := 76) d_151_48 (by decide) ?_
        exact H
    · replace H := H.1 hc
      refine e_iload_n d_151_36 rfl rfl ?_
      refine e_goto (t := 76) d_151_37 (by decide) ?_
      exact H
theorem b_151_76 {t : Nat} {σ : Mm} {w : Option Value × Mm} {x1 : Int32} {x2 : Int32} {x3 : Int32} {x4 : Int32} {x5 : Int32} {x6 : Int32} {z7 : Value} {s0 : Int32} (hS : Sg t σ) 
    (H : inb ((mI σ 59 1) + x6) 700 = true ∧ (∀ (σ1 : Mm), σ1 = uI σ 60 ((mI σ 59 1) + x6).toNatClampNeg ((s0 >>> ((24 - (8 * (x6 - x6 / 4 * 4))) &&& 31)) &&& 255) → Ev 151 23 [.ref 59, .int x1, .int x2, .int x3, .int x4, .int x5, .int (x6 + 1), .int s0] [] σ1 w)) :
    Ev 151 76 [.ref 59, .int x1, .int x2, .int x3, .int x4, .int x5, .int x6, z7] [.int s0] σ w := by
  refine e_istore (ls2 := [.ref 59, .int x1, .int x2, .int x3, .int x4, .int x5, .int x6, .int s0]) d_151_76 rfl rfl rfl ?_
  refine e_aload_n d_151_78 rfl rfl ?_
  refine e_getR d_151_79 oo_151 pF_9_7 (by decide) (hS.k rfl) (hS.r rt_59_0) rfl ?_
  refine e_aload_n d_151_82 rfl rfl ?_
  refine e_getI d_151_83 oo_151 pF_9_145 (by decide) (hS.k rfl) rfl ?_
  refine e_iload d_151_86 rfl rfl ?_
  refine e_iadd d_151_88 rfl ?_
  refine e_iload d_151_89 rfl rfl ?_
  refine e_bipush d_151_91 cb_24 rfl ?_
  refine e_bipush d_151_93 cb_8 rfl ?_
  refine e_iload d_151_95 rfl rfl ?_
  refine e_iconst d_151_97 ci_4 rfl ?_
  refine e_irem d_151_98 (by decide) rfl ?_
  refine e_imul d_151_99 rfl ?_
  refine e_isub d_151_100 rfl ?_
  refine e_ishr d_151_101 rfl ?_
  refine e_sipush d_151_102 cs_255 rfl ?_
  refine e_iand d_151_105 rfl ?_
  obtain ⟨hb, H⟩ := H
  refine e_iastore d_151_106 (okI_at (hS.k rfl) hb) rfl ?_
  generalize hm2 : uI σ 60 ((mI σ 59 1) + x6).toNatClampNeg ((s0 >>> ((24 - (8 * (x6 - x6 / 4 * 4))) &&& 31)) &&& 255) = σ1
  have hS3 : Sg t σ1 := by rw [← hm2]; exact hS.uI
  replace H := H σ1 hm2.symm
  refine e_iinc (ls2 := [.ref 59, .int x1, .int x2, .int x3, .int x4, .int x5, .int (x6 + 1), .int s0]) d_151_107 rfl ci_1 rfl rfl rfl ?_
  refine e_goto (t := 23) d_151_110 (by decide) ?_
  exact H
/-! X9_isIn -/
theorem b_152_0 {t : Nat} {σ : Mm} {w : Option Value × Mm} {x0 : Int32} {x1 : Int32} {x2 : Int32} (hS : Sg t σ) 
    (H : (x0 < x1 → (w = (some (.int 0), σ))) ∧ (¬ (x0 < x1) → ((x2 < x0 → (w = (some (.int 0), σ))) ∧ (¬ (x2 < x0) → (w = (some (.int 1), σ)))))) :
    Ev 152 0 [.int x0, .int x1, .int x2] [] σ w := by
  refine e_iload_n d_152_0 rfl rfl ?_
  refine e_iload_n d_152_1 rfl rfl ?_
  refine e_icmp_lt (t := 14) d_152_2 (by decide) rfl (fun hc => ?_) (fun hc => ?_)
  · replace H := H.1 hc
    refine e_iconst d_152_14 ci_0 rfl ?_
    subst H
    exact e_zret d_152_15 rr_152 (Or.inl rfl)
  · replace H := H.2 hc
    refine e_iload_n d_152_5 rfl rfl ?_
    refine e_iload_n d_152_6 rfl rfl ?_
    refine e_icmp_gt (t := 14) d_152_7 (by decide) rfl (fun hc => ?_) (fun hc => ?_)
    · replace H := H.1 hc
      refine e_iconst d_152_14 ci_0 rfl ?_
      subst H
      exact e_zret d_152_15 rr_152 (Or.inl rfl)
    · replace H := H.2 hc
      refine e_iconst d_152_10 ci_1 rfl ?_
      refine e_goto (t := 15) d_152_11 (by decide) ?_
      subst H
      exact e_zret d_152_15 rr_152 (Or.inr rfl)
/-! X9_isOf -/
theorem b_153_0 {t : Nat} {σ : Mm} {w : Option Value × Mm} {x0 : Int32} {x1 : Int32} (hS : Sg t σ) 
    (H : (((x0 >>> (x1 &&& 31)) &&& 1) = 1 → (w = (some (.int 1), σ))) ∧ (¬ (((x0 >>> (x1 &&& 31)) &&& 1) = 1) → (w = (some (.int 0), σ)))) :
    Ev 153 0 [.int x0, .int x1] [] σ w := by
  refine e_iload_n d_153_0 rfl rfl ?_
  refine e_iload_n d_153_1 rfl rfl ?_
  refine e_ishr d_153_2 rfl ?_
  refine e_iconst d_153_3 ci_1 rfl ?_
  refine e_iand d_153_4 rfl ?_
  refine e_iconst d_153_5 ci_1 rfl ?_
  refine e_icmp_ne (t := 13) d_153_6 (by decide) rfl (fun hc => ?_) (fun hc => ?_)
  · replace H := H.2 hc
    refine e_iconst d_153_13 ci_0 rfl ?_
    subst H
    exact e_zret d_153_14 rr_153 (Or.inl rfl)
  · replace H := H.1 hc
    refine e_iconst d_153_9 ci_1 rfl ?_
    refine e_goto (t := 14) d_153_10 (by decide) ?_
    subst H
    exact e_zret d_153_14 rr_153 (Or.inr rfl)
/-! X9_wrong -/
theorem b_154_0 {t : Nat} {σ : Mm} {w : Option Value × Mm} {x1 : Int32} (hS : Sg t σ) 
    (H : ∀ (σ1 : Mm), σ1 = uI (uI σ 59 4 x1) 59 5 (mI (uI σ 59 4 x1) 59 10) → (w = (some (.int 0), σ1))) :
    Ev 154 0 [.ref 59, .int x1] [] σ w := by
  refine e_aload_n d_154_0 rfl rfl ?_
  refine e_iload_n d_154_1 rfl rfl ?_
  refine e_putI d_154_2 oo_154 pF_9_148 (Or.inl rfl) (hS.k rfl) rfl ?_
  refine e_aload_n d_154_5 rfl rfl ?_
  refine e_aload_n d_154_6 rfl rfl ?_
  refine e_getI d_154_7 oo_154 pF_9_151 (by decide) (hS.uI.k rfl) rfl ?_
  refine e_putI d_154_10 oo_154 pF_9_16 (Or.inl rfl) (hS.uI.k rfl) rfl ?_
  generalize hm2 : uI (uI σ 59 4 x1) 59 5 (mI (uI σ 59 4 x1) 59 10) = σ1
  have hS3 : Sg t σ1 := by rw [← hm2]; exact hS.uI.uI
  replace H := H σ1 hm2.symm
  refine e_iconst d_154_13 ci_0 rfl ?_
  subst H
  exact e_zret d_154_14 rr_154 (Or.inl rfl)
/-! X9_wordAt -/
theorem b_155_0 {t : Nat} {σ : Mm} {w : Option Value × Mm} {x1 : Int32} {x2 : Int32} (hS : Sg t σ) 
    (H : Ev 155 5 [.ref 59, .int x1, .int x2, .int 0, .int 0, .retAddr 0, .retAddr 0, .retAddr 0] [] σ w) :
    Ev 155 0 [.ref 59, .int x1, .int x2, .retAddr 0, .retAddr 0, .retAddr 0, .retAddr 0, .retAddr 0] [] σ w := by
  refine e_iconst d_155_0 ci_0 rfl ?_
  refine e_istore_n (ls2 := [.ref 59, .int x1, .int x2, .int 0, .retAddr 0, .retAddr 0, .retAddr 0, .retAddr 0]) d_155_1 rfl rfl rfl ?_
  refine e_iconst d_155_2 ci_0 rfl ?_
  refine e_istore (ls2 := [.ref 59, .int x1, .int x2, .int 0, .int 0, .retAddr 0, .retAddr 0, .retAddr 0]) d_155_3 rfl rfl rfl ?_
  exact H
theorem b_155_5 {t : Nat} {σ : Mm} {w : Option Value × Mm} {x1 : Int32} {x2 : Int32} {x3 : Int32} {x4 : Int32} {z5 : Value} {z6 : Value} {z7 : Value} (hS : Sg t σ) 
    (H : (x4 < 101 → Ev 155 18 [.ref 59, .int x1, .int x2, .int x3, .int x4, .int 0, z6, z7] [] σ w) ∧ (¬ (x4 < 101) → (w = (some (.int (-1)), σ)))) :
    Ev 155 5 [.ref 59, .int x1, .int x2, .int x3, .int x4, z5, z6, z7] [] σ w := by
  refine e_iload d_155_5 rfl rfl ?_
  refine e_aload_n d_155_7 rfl rfl ?_
  refine e_getR d_155_8 oo_155 pF_9_13 (by decide) (hS.k rfl) (hS.r rt_59_3) rfl ?_
  refine e_alen (v := 101) d_155_11 (alen_at (hS.k rfl) ⟨by decide, by decide⟩) rfl rfl ?_
  refine e_icmp_ge (t := 126) d_155_12 (by decide) rfl (fun hc => ?_) (fun hc => ?_)
  · replace H := H.2 hc
    refine e_iconst d_155_126 ci_m1 rfl ?_
    subst H
    exact e_iret d_155_127 rr_155
  · replace H := H.1 hc
    refine e_iconst d_155_15 ci_0 rfl ?_
    refine e_istore (ls2 := [.ref 59, .int x1, .int x2, .int x3, .int x4, .int 0, z6, z7]) d_155_16 rfl rfl rfl ?_
    exact H
theorem b_155_18 {t : Nat} {σ : Mm} {w : Option Value × Mm} {x1 : Int32} {x2 : Int32} {x3 : Int32} {x4 : Int32} {x5 : Int32} {z6 : Value} {z7 : Value} (hS : Sg t σ) 
    (H : inb (x4 + x5) 101 = true ∧ (((mI σ 61 (x4 + x5).toNatClampNeg) = 32 → ((x5 = (x2 - x1) → Ev 155 57 [.ref 59, .int x1, .int x2, .int x3, .int x4, .int x5, .int 1, .int 0] [] σ w) ∧ (¬ (x5 = (x2 - x1)) → Ev 155 57 [.ref 59, .int x1, .int x2, .int x3, .int x4, .int x5, .int 0, .int 0] [] σ w))) ∧ (¬ ((mI σ 61 (x4 + x5).toNatClampNeg) = 32) → Ev 155 18 [.ref 59, .int x1, .int x2, .int x3, .int x4, .int (x5 + 1), z6, z7] [] σ w))) :
    Ev 155 18 [.ref 59, .int x1, .int x2, .int x3, .int x4, .int x5, z6, z7] [] σ w := by
  refine e_aload_n d_155_18 rfl rfl ?_
  refine e_getR d_155_19 oo_155 pF_9_13 (by decide) (hS.k rfl) (hS.r rt_59_3) rfl ?_
  refine e_iload d_155_22 rfl rfl ?_
  refine e_iload d_155_24 rfl rfl ?_
  refine e_iadd d_155_26 rfl ?_
  obtain ⟨hb, H⟩ := H
  refine e_iaload (v := (mI σ 61 (x4 + x5).toNatClampNeg)) d_155_27 (rdI_at (hS.k rfl) hb) rfl ?_
  refine e_bipush d_155_28 cb_32 rfl ?_
  refine e_icmp_eq (t := 39) d_155_30 (by decide) rfl (fun hc => ?_) (fun hc => ?_)
  · replace H := H.1 hc
    refine e_iload d_155_39 rfl rfl ?_
    refine e_iload_n d_155_41 rfl rfl ?_
    refine e_iload_n d_155_42 rfl rfl ?_
    refine e_isub d_155_43 rfl ?_
    refine e_icmp_ne (t := 51) d_155_44 (by decide) rfl (fun hc => ?_) (fun hc => ?_)
    · replace H := H.2 hc
      refine e_iconst d_155_51 ci_0 rfl ?_
      refine e_istore (ls2 := [.ref 59, .int x1, .int x2, .int x3, .int x4, .int x5, .int 0, z7]) d_155_52 rfl rfl rfl ?_
      refine e_iconst d_155_54 ci_0 rfl ?_
      refine e_istore (ls2 := [.ref 59, .int x1, .int x2, .int x3, .int x4, .int x5, .int 0, .int 0]) d_155_55 rfl rfl rfl ?_
      exact H
    · replace H := H.1 hc
      refine e_iconst d_155_47 ci_1 rfl ?_
      refine e_goto (t := 52) d_155_48 (by decide) ?_
      refine e_istore (ls2 := [.ref 59, .int x1, .int x2, .int x3, .int x4, .int x5, .int 1, z7]) d_155_52 rfl rfl rfl ?_
      refine e_iconst d_155_54 ci_0 rfl ?_
      refine e_istore (ls2 := [.ref 59, .int x1, .int x2, .int x3, .int x4, .int x5, .int 1, .int 0]) d_155_55 rfl rfl rfl ?_
      exact H
  · replace H := H.2 hc
    refine e_iinc (ls2 := [.ref 59, .int x1, .int x2, .int x3, .int x4, .int (x5 + 1), z6, z7]) d_155_33 rfl ci_1 rfl rfl rfl ?_
    refine e_goto (t := 18) d_155_36 (by decide) ?_
    exact H
theorem b_155_57 {t : Nat} {σ : Mm} {w : Option Value × Mm} {x1 : Int32} {x2 : Int32} {x3 : Int32} {x4 : Int32} {x5 : Int32} {x6 : Int32} {x7 : Int32} (hS : Sg t σ) 
    (H : (x7 < x5 → ((x6 = 0 → ((x6 = 0 → Ev 155 5 [.ref 59, .int x1, .int x2, .int (x3 + 1), .int (x4 + (x5 + 1)), .int x5, .int x6, .int x7] [] σ w) ∧ (¬ (x6 = 0) → (w = (some (.int x3), σ))))) ∧ (¬ (x6 = 0) → (inb (x4 + x7) 101 = true ∧ (inb (x1 + x7) 700 = true ∧ (((mI σ 61 (x4 + x7).toNatClampNeg) = (mI σ 60 (x1 + x7).toNatClampNeg) → Ev 155 57 [.ref 59, .int x1, .int x2, .int x3, .int x4, .int x5, .int 1, .int (x7 + 1)] [] σ w) ∧ (¬ ((mI σ 61 (x4 + x7).toNatClampNeg) = (mI σ 60 (x1 + x7).toNatClampNeg)) → Ev 155 57 [.ref 59, .int x1, .int x2, .int x3, .int x4, .int x5, .int 0, .int (x7 + 1)] [] σ w))))))) ∧ (¬ (x7 < x5) → ((x6 = 0 → Ev 155 5 [.ref 59, .int x1, .int x2, .int (x3 + 1), .int (x4 + (x5 + 1)), .int x5, .int x6, .int x7] [] σ w) ∧ (¬ (x6 = 0) → (w = (some (.int x3), σ)))))) :
    Ev 155 57 [.ref 59, .int x1, .int x2, .int x3, .int x4, .int x5, .int x6, .int x7] [] σ w := by
  refine e_iload d_155_57 rfl rfl ?_
  refine e_iload d_155_59 rfl rfl ?_
  refine e_icmp_ge (t := 104) d_155_61 (by decide) rfl (fun hc => ?_) (fun hc => ?_)
  · replace H := H.2 hc
    refine e_iload d_155_104 rfl rfl ?_
    refine e_if_eq (t := 111) d_155_106 (by decide) rfl (fun hc => ?_) (fun hc => ?_)
    · replace H := H.1 hc
      refine e_iload d_155_111 rfl rfl ?_
      refine e_iload d_155_113 rfl rfl ?_
      refine e_iconst d_155_115 ci_1 rfl ?_
      refine e_iadd d_155_116 rfl ?_
      refine e_iadd d_155_117 rfl ?_
      refine e_istore (ls2 := [.ref 59, .int x1, .int x2, .int x3, .int (x4 + (x5 + 1)), .int x5, .int x6, .int x7]) d_155_118 rfl rfl rfl ?_
      refine e_iinc (ls2 := [.ref 59, .int x1, .int x2, .int (x3 + 1), .int (x4 + (x5 + 1)), .int x5, .int x6, .int x7]) d_155_120 rfl ci_1 rfl rfl rfl ?_
      refine e_goto (t := 5) d_155_123 (by decide) ?_
      exact H
    · replace H := H.2 hc
      refine e_iload_n d_155_109 rfl rfl ?_
      subst H
      exact e_iret d_155_110 rr_155
  · replace H := H.1 hc
    refine e_iload d_155_64 rfl rfl ?_
    refine e_if_eq (t := 104) d_155_66 (by decide) rfl (fun hc => ?_) (fun hc => ?_)
    · replace H := H.1 hc
      refine e_iload d_155_104 rfl rfl ?_
      refine e_if_eq (t := 111) d_155_106 (by decide) rfl (fun hc => ?_) (fun hc => ?_)
      · replace H := H.1 hc
        refine e_iload d_155_111 rfl rfl ?_
        refine e_iload d_155_113 rfl rfl ?_
        refine e_iconst d_155_115 ci_1 rfl ?_
        refine e_iadd d_155_116 rfl ?_
        refine e_iadd d_155_117 rfl ?_
        refine e_istore (ls2 := [.ref 59, .int x1, .int x2, .int x3, .int (x4 + (x5 + 1)), .int x5, .int x6, .int x7]) d_155_118 rfl rfl rfl ?_
        refine e_iinc (ls2 := [.ref 59, .int x1, .int x2, .int (x3 + 1), .int (x4 + (x5 + 1)), .int x5, .int x6, .int x7]) d_155_120 rfl ci_1 rfl rfl rfl ?_
        refine e_goto (t := 5) d_155_123 (by decide) ?_
        exact H
      · replace H := H.2 hc
        refine e_iload_n d_155_109 rfl rfl ?_
        subst H
        exact e_iret d_155_110 rr_155
    · replace H := H.2 hc
      refine e_aload_n d_155_69 rfl rfl ?_
      refine e_getR d_155_70 oo_155 pF_9_13 (by decide) (hS.k rfl) (hS.r rt_59_3) rfl ?_
      refine e_iload d_155_73 rfl rfl ?_
      refine e_iload d_155_75 rfl rfl ?_
      refine e_iadd d_155_77 rfl ?_
      obtain ⟨hb, H⟩ := H
      refine e_iaload (v := (mI σ 61 (x4 + x7).toNatClampNeg)) d_155_78 (rdI_at (hS.k rfl) hb) rfl ?_
      refine e_aload_n d_155_79 rfl rfl ?_
      refine e_getR d_155_80 oo_155 pF_9_7 (by decide) (hS.k rfl) (hS.r rt_59_0) rfl ?_
      refine e_iload_n d_155_83 rfl rfl ?_
      refine e_iload d_155_84 rfl rfl ?_
      refine e_iadd d_155_86 rfl ?_
      obtain ⟨hb, H⟩ := H
      refine e_iaload (v := (mI σ 60 (x1 + x7).toNatClampNeg)) d_155_87 (rdI_at (hS.k rfl) hb) rfl ?_
      refine e_icmp_ne (t := 95) d_155_88 (by decide) rfl (fun hc => ?_) (fun hc => ?_)
      · replace H := H.2 hc
        refine e_iconst d_155_95 ci_0 rfl ?_
        refine e_istore (ls2 := [.ref 59, .int x1, .int x2, .int x3, .int x4, .int x5, .int 0, .int x7]) d_155_96 rfl rfl rfl ?_
        refine e_iinc (ls2 := [.ref 59, .int x1, .int x2, .int x3, .int x4, .int x5, .int 0, .int (x7 + 1)]) d_155_98 rfl ci_1 rfl rfl rfl ?_
        refine e_goto (t := 57) d_155_101 (by decide) ?_
        exact H
      · replace H := H.1 hc
        refine e_iconst d_155_91 ci_1 rfl ?_
        refine e_goto (t := 96) d_155_92 (by decide) ?_
        refine e_istore (ls2 := [.ref 59, .int x1, .int x2, .int x3, .int x4, .int x5, .int 1, .int x7]) d_155_96 rfl rfl rfl ?_
        refine e_iinc (ls2 := [.ref 59, .int x1, .int x2, .int x3, .int x4, .int x5, .int 1, .int (x7 + 1)]) d_155_98 rfl ci_1 rfl rfl rfl ?_
        refine e_goto (t := 57) d_155_101 (by decide) ?_
        exact H
/-! X9_isSmall -/
theorem b_156_0 {t : Nat} {σ : Mm} {w : Option Value × Mm} {x1 : Int32} (hS : Sg t σ) 
    (H : (x1 < (mI σ 59 6) → (inb x1 700 = true ∧ (((mI σ 60 x1.toNatClampNeg) < 97 → (w = (some (.int 0), σ))) ∧ (¬ ((mI σ 60 x1.toNatClampNeg) < 97) → (inb x1 700 = true ∧ ((122 < (mI σ 60 x1.toNatClampNeg) → (w = (some (.int 0), σ))) ∧ (¬ (122 < (mI σ 60 x1.toNatClampNeg)) → (w = (some (.int 1), σ))))))))) ∧ (¬ (x1 < (mI σ 59 6)) → (w = (some (.int 0), σ)))) :
    Ev 156 0 [.ref 59, .int x1] [] σ w := by
  refine e_iload_n d_156_0 rfl rfl ?_
  refine e_aload_n d_156_1 rfl rfl ?_
  refine e_getI d_156_2 oo_156 pF_9_154 (by decide) (hS.k rfl) rfl ?_
  refine e_icmp_ge (t := 34) d_156_5 (by decide) rfl (fun hc => ?_) (fun hc => ?_)
  · replace H := H.2 hc
    refine e_iconst d_156_34 ci_0 rfl ?_
    subst H
    exact e_zret d_156_35 rr_156 (Or.inl rfl)
  · replace H := H.1 hc
    refine e_aload_n d_156_8 rfl rfl ?_
    refine e_getR d_156_9 oo_156 pF_9_7 (by decide) (hS.k rfl) (hS.r rt_59_0) rfl ?_
    refine e_iload_n d_156_12 rfl rfl ?_
    obtain ⟨hb, H⟩ := H
    refine e_iaload (v := (mI σ 60 x1.toNatClampNeg)) d_156_13 (rdI_at (hS.k rfl) hb) rfl ?_
    refine e_bipush d_156_14 cb_97 rfl ?_
    refine e_icmp_lt (t := 34) d_156_16 (by decide) rfl (fun hc => ?_) (fun hc => ?_)
    · replace H := H.1 hc
      refine e_iconst d_156_34 ci_0 rfl ?_
      subst H
      exact e_zret d_156_35 rr_156 (Or.inl rfl)
    · replace H := H.2 hc
      refine e_aload_n d_156_19 rfl rfl ?_
      refine e_getR d_156_20 oo_156 pF_9_7 (by decide) (hS.k rfl) (hS.r rt_59_0) rfl ?_
      refine e_iload_n d_156_23 rfl rfl ?_
      obtain ⟨hb, H⟩ := H
      refine e_iaload (v := (mI σ 60 x1.toNatClampNeg)) d_156_24 (rdI_at (hS.k rfl) hb) rfl ?_
      refine e_bipush d_156_25 cb_122 rfl ?_
      refine e_icmp_gt (t := 34) d_156_27 (by decide) rfl (fun hc => ?_) (fun hc => ?_)
      · replace H := H.1 hc
        refine e_iconst d_156_34 ci_0 rfl ?_
        subst H
        exact e_zret d_156_35 rr_156 (Or.inl rfl)
      · replace H := H.2 hc
        refine e_iconst d_156_30 ci_1 rfl ?_
        refine e_goto (t := 35) d_156_31 (by decide) ?_
        subst H
        exact e_zret d_156_35 rr_156 (Or.inr rfl)
/-! X9_isDigit -/
theorem b_157_0 {t : Nat} {σ : Mm} {w : Option Value × Mm} {x1 : Int32} (hS : Sg t σ) 
    (H : (x1 < (mI σ 59 6) → (inb x1 700 = true ∧ (((mI σ 60 x1.toNatClampNeg) < 48 → (w = (some (.int 0), σ))) ∧ (¬ ((mI σ 60 x1.toNatClampNeg) < 48) → (inb x1 700 = true ∧ ((57 < (mI σ 60 x1.toNatClampNeg) → (w = (some (.int 0), σ))) ∧ (¬ (57 < (mI σ 60 x1.toNatClampNeg)) → (w = (some (.int 1), σ))))))))) ∧ (¬ (x1 < (mI σ 59 6)) → (w = (some (.int 0), σ)))) :
    Ev 157 0 [.ref 59, .int x1] [] σ w := by
  refine e_iload_n d_157_0 rfl rfl ?_
  refine e_aload_n d_157_1 rfl rfl ?_
  refine e_getI d_157_2 oo_157 pF_9_154 (by decide) (hS.k rfl) rfl ?_
  refine e_icmp_ge (t := 34) d_157_5 (by decide) rfl (fun hc => ?_) (fun hc => ?_)
  · replace H := H.2 hc
    refine e_iconst d_157_34 ci_0 rfl ?_
    subst H
    exact e_zret d_157_35 rr_157 (Or.inl rfl)
  · replace H := H.1 hc
    refine e_aload_n d_157_8 rfl rfl ?_
    refine e_getR d_157_9 oo_157 pF_9_7 (by decide) (hS.k rfl) (hS.r rt_59_0) rfl ?_
    refine e_iload_n d_157_12 rfl rfl ?_
    obtain ⟨hb, H⟩ := H
    refine e_iaload (v := (mI σ 60 x1.toNatClampNeg)) d_157_13 (rdI_at (hS.k rfl) hb) rfl ?_
    refine e_bipush d_157_14 cb_48 rfl ?_
    refine e_icmp_lt (t := 34) d_157_16 (by decide) rfl (fun hc => ?_) (fun hc => ?_)
    · replace H := H.1 hc
      refine e_iconst d_157_34 ci_0 rfl ?_
      subst H
      exact e_zret d_157_35 rr_157 (Or.inl rfl)
    · replace H := H.2 hc
      refine e_aload_n d_157_19 rfl rfl ?_
      refine e_getR d_157_20 oo_157 pF_9_7 (by decide) (hS.k rfl) (hS.r rt_59_0) rfl ?_
      refine e_iload_n d_157_23 rfl rfl ?_
      obtain ⟨hb, H⟩ := H
      refine e_iaload (v := (mI σ 60 x1.toNatClampNeg)) d_157_24 (rdI_at (hS.k rfl) hb) rfl ?_
      refine e_bipush d_157_25 cb_57 rfl ?_
      refine e_icmp_gt (t := 34) d_157_27 (by decide) rfl (fun hc => ?_) (fun hc => ?_)
      · replace H := H.1 hc
        refine e_iconst d_157_34 ci_0 rfl ?_
        subst H
        exact e_zret d_157_35 rr_157 (Or.inl rfl)
      · replace H := H.2 hc
        refine e_iconst d_157_30 ci_1 rfl ?_
        refine e_goto (t := 35) d_157_31 (by decide) ?_
        subst H
        exact e_zret d_157_35 rr_157 (Or.inr rfl)
/-! X9_token -/
theorem b_158_0 {t : Nat} {σ : Mm} {w : Option Value × Mm}  (hS : Sg t σ) 
    (H : ((mI σ 59 7) < (mI σ 59 6) → (inb (mI σ 59 7) 700 = true ∧ (((mI σ 60 (mI σ 59 7).toNatClampNeg) = 10 → Ev 158 0 [.ref 59] [] (uI σ 59 7 ((mI σ 59 7) + 1)) w) ∧ (¬ ((mI σ 60 (mI σ 59 7).toNatClampNeg) = 10) → (inb (mI σ 59 7) 700 = true ∧ (((mI σ 60 (mI σ 59 7).toNatClampNeg) = 32 → Ev 158 0 [.ref 59] [] (uI σ 59 7 ((mI σ 59 7) + 1)) w) ∧ (¬ ((mI σ 60 (mI σ 59 7).toNatClampNeg) = 32) → Ev 158 52 [.ref 59] [] σ w))))))) ∧ (¬ ((mI σ 59 7) < (mI σ 59 6)) → Ev 158 52 [.ref 59] [] σ w)) :
    Ev 158 0 [.ref 59] [] σ w := by
  refine e_aload_n d_158_0 rfl rfl ?_
  refine e_getI d_158_1 oo_158 pF_9_157 (by decide) (hS.k rfl) rfl ?_
  refine e_aload_n d_158_4 rfl rfl ?_
  refine e_getI d_158_5 oo_158 pF_9_154 (by decide) (hS.k rfl) rfl ?_
  refine e_icmp_ge (t := 52) d_158_8 (by decide) rfl (fun hc => ?_) (fun hc => ?_)
  · replace H := H.2 hc
    exact H
  · replace H := H.1 hc
    refine e_aload_n d_158_11 rfl rfl ?_
    refine e_getR d_158_12 oo_158 pF_9_7 (by decide) (hS.k rfl) (hS.r rt_59_0) rfl ?_
    refine e_aload_n d_158_15 rfl rfl ?_
    refine e_getI d_158_16 oo_158 pF_9_157 (by decide) (hS.k rfl) rfl ?_
    obtain ⟨hb, H⟩ := H
    refine e_iaload (v := (mI σ 60 (mI σ 59 7).toNatClampNeg)) d_158_19 (rdI_at (hS.k rfl) hb) rfl ?_
    refine e_bipush d_158_20 cb_10 rfl ?_
    refine e_icmp_eq (t := 39) d_158_22 (by decide) rfl (fun hc => ?_) (fun hc => ?_)
    · replace H := H.1 hc
      refine e_aload_n d_158_39 rfl rfl ?_
      refine e_dup d_158_40 rfl rfl ?_
      refine e_getI d_158_41 oo_158 pF_9_157 (by decide) (hS.k rfl) rfl ?_
      refine e_iconst d_158_44 ci_1 rfl ?_
      refine e_iadd d_158_45 rfl ?_
      refine e_putI d_158_46 oo_158 pF_9_157 (Or.inl rfl) (hS.k rfl) rfl ?_
      refine e_goto (t := 0) d_158_49 (by decide) ?_
      exact H
    · replace H := H.2 hc
      refine e_aload_n d_158_25 rfl rfl ?_
      refine e_getR d_158_26 oo_158 pF_9_7 (by decide) (hS.k rfl) (hS.r rt_59_0) rfl ?_
      refine e_aload_n d_158_29 rfl rfl ?_
      refine e_getI d_158_30 oo_158 pF_9_157 (by decide) (hS.k rfl) rfl ?_
      obtain ⟨hb, H⟩ := H
      refine e_iaload (v := (mI σ 60 (mI σ 59 7).toNatClampNeg)) d_158_33 (rdI_at (hS.k rfl) hb) rfl ?_
      refine e_bipush d_158_34 cb_32 rfl ?_
      refine e_icmp_ne (t := 52) d_158_36 (by decide) rfl (fun hc => ?_) (fun hc => ?_)
      · replace H := H.2 hc
        exact H
      · replace H := H.1 hc
        refine e_aload_n d_158_39 rfl rfl ?_
        refine e_dup d_158_40 rfl rfl ?_
        refine e_getI d_158_41 oo_158 pF_9_157 (by decide) (hS.k rfl) rfl ?_
        refine e_iconst d_158_44 ci_1 rfl ?_
        refine e_iadd d_158_45 rfl ?_
        refine e_putI d_158_46 oo_158 pF_9_157 (Or.inl rfl) (hS.k rfl) rfl ?_
        refine e_goto (t := 0) d_158_49 (by decide) ?_
        exact H
theorem b_158_52 {t : Nat} {σ : Mm} {w : Option Value × Mm}  (hS : Sg t σ) 
    (H : ((mI (uI σ 59 10 (mI σ 59 7)) 59 7) = (mI (uI σ 59 10 (mI σ 59 7)) 59 6) → (w = (none, uI (uI σ 59 10 (mI σ 59 7)) 59 8 0))) ∧ (¬ ((mI (uI σ 59 10 (mI σ 59 7)) 59 7) = (mI (uI σ 59 10 (mI σ 59 7)) 59 6)) → (∃ (v3 : Int32) (σ1 : Mm), Cl 156 [.ref 59, .int (mI (uI σ 59 10 (mI σ 59 7)) 59 7)] (uI σ 59 10 (mI σ 59 7)) (some (.int v3), σ1) ∧ Sg t σ1 ∧ ((v3 = 0 → (∃ (v6 : Int32) (σ4 : Mm), Cl 157 [.ref 59, .int (mI σ1 59 7)] σ1 (some (.int v6), σ4) ∧ Sg t σ4 ∧ ((v6 = 0 → (∃ (σ7 : Mm), Cl 159 [.ref 59] σ4 (none, σ7) ∧ Sg t σ7 ∧ (w = (none, σ7)))) ∧ (¬ (v6 = 0) → Ev 158 213 [.ref 59] [] (uI (uI σ4 59 8 3) 59 9 0) w)))) ∧ (¬ (v3 = 0) → Ev 158 90 [.ref 59] [] σ1 w))))) :
    Ev 158 52 [.ref 59] [] σ w := by
  refine e_aload_n d_158_52 rfl rfl ?_
  refine e_aload_n d_158_53 rfl rfl ?_
  refine e_getI d_158_54 oo_158 pF_9_157 (by decide) (hS.k rfl) rfl ?_
  refine e_putI d_158_57 oo_158 pF_9_151 (Or.inl rfl) (hS.k rfl) rfl ?_
  refine e_aload_n d_158_60 rfl rfl ?_
  refine e_getI d_158_61 oo_158 pF_9_157 (by decide) (hS.uI.k rfl) rfl ?_
  refine e_aload_n d_158_64 rfl rfl ?_
  refine e_getI d_158_65 oo_158 pF_9_154 (by decide) (hS.uI.k rfl) rfl ?_
  refine e_icmp_ne (t := 79) d_158_68 (by decide) rfl (fun hc => ?_) (fun hc => ?_)
  · replace H := H.2 hc
    refine e_aload_n d_158_79 rfl rfl ?_
    refine e_aload_n d_158_80 rfl rfl ?_
    refine e_getI d_158_81 oo_158 pF_9_157 (by decide) (hS.uI.k rfl) rfl ?_
    obtain ⟨v3, σ1, hcl, hS2, H⟩ := H
    refine e_vcall (w1 := (some (.int v3), σ1)) d_158_84 kc_158_84 rfl ⟨Nat.le_of_ble_eq_true rfl, xx_158.symm⟩ rfl hcl ?_
    show Ev 158 87 [.ref 59] [.int v3] σ1 w
    refine e_if_eq (t := 192) d_158_87 (by decide) rfl (fun hc => ?_) (fun hc => ?_)
    · replace H := H.1 hc
      refine e_aload_n d_158_192 rfl rfl ?_
      refine e_aload_n d_158_193 rfl rfl ?_
      refine e_getI d_158_194 oo_158 pF_9_157 (by decide) (hS2.k rfl) rfl ?_
      obtain ⟨v6, σ4, hcl, hS5, H⟩ := H
      refine e_vcall (w1 := (some (.int v6), σ4)) d_158_197 kc_158_197 rfl ⟨Nat.le_of_ble_eq_true rfl, xx_158.symm⟩ rfl hcl ?_
      show Ev 158 200 [.ref 59] [.int v6] σ4 w
      refine e_if_eq (t := 277) d_158_200 (by decide) rfl (fun hc => ?_) (fun hc => ?_)
      · replace H := H.1 hc
        refine e_aload_n d_158_277 rfl rfl ?_
        obtain ⟨σ7, hcl, hS8, H⟩ := H
        refine e_vcall (w1 := (none, σ7)) d_158_278 kc_158_278 rfl ⟨Nat.le_of_ble_eq_true rfl, xx_158.symm⟩ rfl hcl ?_
        show Ev 158 281 [.ref 59] [] σ7 w
        subst H
        exact e_vret d_158_281 rr_158
      · replace H := H.2 hc
        refine e_aload_n d_158_203 rfl rfl ?_
        refine e_iconst d_158_204 ci_3 rfl ?_
        refine e_putI d_158_205 oo_158 pF_9_160 (Or.inl rfl) (hS5.k rfl) rfl ?_
        refine e_aload_n d_158_208 rfl rfl ?_
        refine e_iconst d_158_209 ci_0 rfl ?_
        refine e_putI d_158_210 oo_158 pF_9_171 (Or.inl rfl) (hS5.uI.k rfl) rfl ?_
        exact H
    · replace H := H.2 hc
      exact H
  · replace H := H.1 hc
    refine e_aload_n d_158_71 rfl rfl ?_
    refine e_iconst d_158_72 ci_0 rfl ?_
    refine e_putI d_158_73 oo_158 pF_9_160 (Or.inl rfl) (hS.uI.k rfl) rfl ?_
    refine e_goto (t := 281) d_158_76 (by decide) ?_
    subst H
    exact e_vret d_158_281 rr_158
theorem b_158_90 {t : Nat} {σ : Mm} {w : Option Value × Mm}  (hS : Sg t σ) 
    (H : ∃ (v3 : Int32) (σ1 : Mm), Cl 156 [.ref 59, .int (mI σ 59 7)] σ (some (.int v3), σ1) ∧ Sg t σ1 ∧ ((v3 = 0 → (∃ (v6 : Int32) (σ4 : Mm), Cl 155 [.ref 59, .int (mI σ1 59 10), .int (mI σ1 59 7)] σ1 (some (.int v6), σ4) ∧ Sg t σ4 ∧ (((mI (uI σ4 59 9 v6) 59 9) < 0 → ((6 < ((mI (uI σ4 59 9 v6) 59 7) - (mI (uI σ4 59 9 v6) 59 10)) → Ev 158 162 [.ref 59] [.int 6, .ref 59] (uI σ4 59 9 v6) w) ∧ (¬ (6 < ((mI (uI σ4 59 9 v6) 59 7) - (mI (uI σ4 59 9 v6) 59 10))) → Ev 158 162 [.ref 59] [.int 2, .ref 59] (uI σ4 59 9 v6) w))) ∧ (¬ ((mI (uI σ4 59 9 v6) 59 9) < 0) → Ev 158 162 [.ref 59] [.int 1, .ref 59] (uI σ4 59 9 v6) w)))) ∧ (¬ (v3 = 0) → Ev 158 90 [.ref 59] [] (uI σ1 59 7 ((mI σ1 59 7) + 1)) w))) :
    Ev 158 90 [.ref 59] [] σ w := by
  refine e_aload_n d_158_90 rfl rfl ?_
  refine e_aload_n d_158_91 rfl rfl ?_
  refine e_getI d_158_92 oo_158 pF_9_157 (by decide) (hS.k rfl) rfl ?_
  obtain ⟨v3, σ1, hcl, hS2, H⟩ := H
  refine e_vcall (w1 := (some (.int v3), σ1)) d_158_95 kc_158_95 rfl ⟨Nat.le_of_ble_eq_true rfl, xx_158.symm⟩ rfl hcl ?_
  show Ev 158 98 [.ref 59] [.int v3] σ1 w
  refine e_if_eq (t := 114) d_158_98 (by decide) rfl (fun hc => ?_) (fun hc => ?_)
  · replace H := H.1 hc
    refine e_aload_n d_158_114 rfl rfl ?_
    refine e_aload_n d_158_115 rfl rfl ?_
    refine e_aload_n d_158_116 rfl rfl ?_
    refine e_getI d_158_117 oo_158 pF_9_151 (by decide) (hS2.k rfl) rfl ?_
    refine e_aload_n d_158_120 rfl rfl ?_
    refine e_getI d_158_121 oo_158 pF_9_157 (by decide) (hS2.k rfl) rfl ?_
    obtain ⟨v6, σ4, hcl, hS5, H⟩ := H
    refine e_vcall (w1 := (some (.int v6), σ4)) d_158_124 kc_158_124 rfl ⟨Nat.le_of_ble_eq_true rfl, xx_158.symm⟩ rfl hcl ?_
    show Ev 158 127 [.ref 59] [.int v6, .ref 59] σ4 w
    refine e_putI d_158_127 oo_158 pF_9_171 (Or.inl rfl) (hS5.k rfl) rfl ?_
    refine e_aload_n d_158_130 rfl rfl ?_
    refine e_aload_n d_158_131 rfl rfl ?_
    refine e_getI d_158_132 oo_158 pF_9_171 (by decide) (hS5.uI.k rfl) rfl ?_
    refine e_if_lt (t := 142) d_158_135 (by decide) rfl (fun hc => ?_) (fun hc => ?_)
    · replace H := H.1 hc
      refine e_aload_n d_158_142 rfl rfl ?_
      refine e_getI d_158_143 oo_158 pF_9_157 (by decide) (hS5.uI.k rfl) rfl ?_
      refine e_aload_n d_158_146 rfl rfl ?_
      refine e_getI d_158_147 oo_158 pF_9_151 (by decide) (hS5.uI.k rfl) rfl ?_
      refine e_isub d_158_150 rfl ?_
      refine e_bipush d_158_151 cb_6 rfl ?_
      refine e_icmp_le (t := 161) d_158_153 (by decide) rfl (fun hc => ?_) (fun hc => ?_)
      · replace H := H.2 hc
        refine e_iconst d_158_161 ci_2 rfl ?_
        exact H
      · replace H := H.1 hc
        refine e_bipush d_158_156 cb_6 rfl ?_
        refine e_goto (t := 162) d_158_158 (by decide) ?_
        exact H
    · replace H := H.2 hc
      refine e_iconst d_158_138 ci_1 rfl ?_
      refine e_goto (t := 162) d_158_139 (by decide) ?_
      exact H
  · replace H := H.2 hc
    refine e_aload_n d_158_101 rfl rfl ?_
    refine e_dup d_158_102 rfl rfl ?_
    refine e_getI d_158_103 oo_158 pF_9_157 (by decide) (hS2.k rfl) rfl ?_
    refine e_iconst d_158_106 ci_1 rfl ?_
    refine e_iadd d_158_107 rfl ?_
    refine e_putI d_158_108 oo_158 pF_9_157 (Or.inl rfl) (hS2.k rfl) rfl ?_
    refine e_goto (t := 90) d_158_111 (by decide) ?_
    exact H
theorem b_158_162 {t : Nat} {σ : Mm} {w : Option Value × Mm} {s0 : Int32} (hS : Sg t σ) 
    (H : ((mI (uI σ 59 8 s0) 59 8) = 2 → (∃ (v3 : Int32) (σ1 : Mm), Cl 160 [.ref 59, .int (mI (uI σ 59 8 s0) 59 10), .int (mI (uI σ 59 8 s0) 59 7)] (uI σ 59 8 s0) (some (.int v3), σ1) ∧ Sg t σ1 ∧ (w = (none, uI σ1 59 9 v3)))) ∧ (¬ ((mI (uI σ 59 8 s0) 59 8) = 2) → (w = (none, uI σ 59 8 s0)))) :
    Ev 158 162 [.ref 59] [.int s0, .ref 59] σ w := by
  refine e_putI d_158_162 oo_158 pF_9_160 (Or.inl rfl) (hS.k rfl) rfl ?_
  refine e_aload_n d_158_165 rfl rfl ?_
  refine e_getI d_158_166 oo_158 pF_9_160 (by decide) (hS.uI.k rfl) rfl ?_
  refine e_iconst d_158_169 ci_2 rfl ?_
  refine e_icmp_ne (t := 281) d_158_170 (by decide) rfl (fun hc => ?_) (fun hc => ?_)
  · replace H := H.2 hc
    subst H
    exact e_vret d_158_281 rr_158
  · replace H := H.1 hc
    refine e_aload_n d_158_173 rfl rfl ?_
    refine e_aload_n d_158_174 rfl rfl ?_
    refine e_aload_n d_158_175 rfl rfl ?_
    refine e_getI d_158_176 oo_158 pF_9_151 (by decide) (hS.uI.k rfl) rfl ?_
    refine e_aload_n d_158_179 rfl rfl ?_
    refine e_getI d_158_180 oo_158 pF_9_157 (by decide) (hS.uI.k rfl) rfl ?_
    obtain ⟨v3, σ1, hcl, hS2, H⟩ := H
    refine e_vcall (w1 := (some (.int v3), σ1)) d_158_183 kc_158_183 rfl ⟨Nat.le_of_ble_eq_true rfl, xx_158.symm⟩ rfl hcl ?_
    show Ev 158 186 [.ref 59] [.int v3, .ref 59] σ1 w
    refine e_putI d_158_186 oo_158 pF_9_171 (Or.inl rfl) (hS2.k rfl) rfl ?_
    refine e_goto (t := 281) d_158_189 (by decide) ?_
    subst H
    exact e_vret d_158_281 rr_158
theorem b_158_213 {t : Nat} {σ : Mm} {w : Option Value × Mm}  (hS : Sg t σ) 
    (H : ∃ (v3 : Int32) (σ1 : Mm), Cl 157 [.ref 59, .int (mI σ 59 7)] σ (some (.int v3), σ1) ∧ Sg t σ1 ∧ ((v3 = 0 → (w = (none, σ1))) ∧ (¬ (v3 = 0) → ((99999 < (mI σ1 59 9) → (∀ (σ7 : Mm), σ7 = uI (uI σ1 59 9 (mI σ1 59 9)) 59 7 ((mI (uI σ1 59 9 (mI σ1 59 9)) 59 7) + 1) → Ev 158 213 [.ref 59] [] σ7 w)) ∧ (¬ (99999 < (mI σ1 59 9)) → (inb (mI σ1 59 7) 700 = true ∧ (∀ (σ4 : Mm), σ4 = uI σ1 59 9 (((10 * (mI σ1 59 9)) + (mI σ1 60 (mI σ1 59 7).toNatClampNeg)) - 48) → Ev 158 213 [.ref 59] [] (uI σ4 59 7 ((mI σ4 59 7) + 1)) w))))))) :
    Ev 158 213 [.ref 59] [] σ w := by
  refine e_aload_n d_158_213 rfl rfl ?_
  refine e_aload_n d_158_214 rfl rfl ?_
  refine e_getI d_158_215 oo_158 pF_9_157 (by decide) (hS.k rfl) rfl ?_
  obtain ⟨v3, σ1, hcl, hS2, H⟩ := H
  refine e_vcall (w1 := (some (.int v3), σ1)) d_158_218 kc_158_218 rfl ⟨Nat.le_of_ble_eq_true rfl, xx_158.symm⟩ rfl hcl ?_
  show Ev 158 221 [.ref 59] [.int v3] σ1 w
  refine e_if_eq (t := 281) d_158_221 (by decide) rfl (fun hc => ?_) (fun hc => ?_)
  · replace H := H.1 hc
    subst H
    exact e_vret d_158_281 rr_158
  · replace H := H.2 hc
    refine e_aload_n d_158_224 rfl rfl ?_
    refine e_aload_n d_158_225 rfl rfl ?_
    refine e_getI d_158_226 oo_158 pF_9_171 (by decide) (hS2.k rfl) rfl ?_
    refine e_ldc d_158_229 oo_158 pI_9_180 rfl ?_
    refine e_icmp_le (t := 241) d_158_231 (by decide) rfl (fun hc => ?_) (fun hc => ?_)
    · replace H := H.2 hc
      refine e_bipush d_158_241 cb_10 rfl ?_
      refine e_aload_n d_158_243 rfl rfl ?_
      refine e_getI d_158_244 oo_158 pF_9_171 (by decide) (hS2.k rfl) rfl ?_
      refine e_imul d_158_247 rfl ?_
      refine e_aload_n d_158_248 rfl rfl ?_
      refine e_getR d_158_249 oo_158 pF_9_7 (by decide) (hS2.k rfl) (hS2.r rt_59_0) rfl ?_
      refine e_aload_n d_158_252 rfl rfl ?_
      refine e_getI d_158_253 oo_158 pF_9_157 (by decide) (hS2.k rfl) rfl ?_
      obtain ⟨hb, H⟩ := H
      refine e_iaload (v := (mI σ1 60 (mI σ1 59 7).toNatClampNeg)) d_158_256 (rdI_at (hS2.k rfl) hb) rfl ?_
      refine e_iadd d_158_257 rfl ?_
      refine e_bipush d_158_258 cb_48 rfl ?_
      refine e_isub d_158_260 rfl ?_
      refine e_putI d_158_261 oo_158 pF_9_171 (Or.inl rfl) (hS2.k rfl) rfl ?_
      generalize hm5 : uI σ1 59 9 (((10 * (mI σ1 59 9)) + (mI σ1 60 (mI σ1 59 7).toNatClampNeg)) - 48) = σ4
      have hS6 : Sg t σ4 := by rw [← hm5]; exact hS2.uI
      replace H := H σ4 hm5.symm
      refine e_aload_n d_158_264 rfl rfl ?_
      refine e_dup d_158_265 rfl rfl ?_
      refine e_getI d_158_266 oo_158 pF_9_157 (by decide) (hS6.k rfl) rfl ?_
      refine e_iconst d_158_269 ci_1 rfl ?_
      refine e_iadd d_158_270 rfl ?_
      refine e_putI d_158_271 oo_158 pF_9_157 (Or.inl rfl) (hS6.k rfl) rfl ?_
      refine e_goto (t := 213) d_158_274 (by decide) ?_
      exact H
    · replace H := H.1 hc
      refine e_aload_n d_158_234 rfl rfl ?_
      refine e_getI d_158_235 oo_158 pF_9_171 (by decide) (hS2.k rfl) rfl ?_
      refine e_goto (t := 261) d_158_238 (by decide) ?_
      refine e_putI d_158_261 oo_158 pF_9_171 (Or.inl rfl) (hS2.k rfl) rfl ?_
      refine e_aload_n d_158_264 rfl rfl ?_
      refine e_dup d_158_265 rfl rfl ?_
      refine e_getI d_158_266 oo_158 pF_9_157 (by decide) (hS2.uI.k rfl) rfl ?_
      refine e_iconst d_158_269 ci_1 rfl ?_
      refine e_iadd d_158_270 rfl ?_
      refine e_putI d_158_271 oo_158 pF_9_157 (Or.inl rfl) (hS2.uI.k rfl) rfl ?_
      generalize hm8 : uI (uI σ1 59 9 (mI σ1 59 9)) 59 7 ((mI (uI σ1 59 9 (mI σ1 59 9)) 59 7) + 1) = σ7
      have hS9 : Sg t σ7 := by rw [← hm8]; exact hS2.uI.uI
      replace H := H σ7 hm8.symm
      refine e_goto (t := 213) d_158_274 (by decide) ?_
      exact H
/-! X9_signToken -/
theorem b_159_0 {t : Nat} {σ : Mm} {w : Option Value × Mm}  (hS : Sg t σ) 
    (H : inb (mI σ 59 7) 700 = true ∧ (∀ (σ1 : Mm), σ1 = uI σ 59 9 (mI σ 60 (mI σ 59 7).toNatClampNeg) → (((mI (uI σ1 59 7 ((mI σ1 59 7) + 1)) 59 9) = 60 → (((mI (uI σ1 59 7 ((mI σ1 59 7) + 1)) 59 7) < (mI (uI σ1 59 7 ((mI σ1 59 7) + 1)) 59 6) → (inb (mI (uI σ1 59 7 ((mI σ1 59 7) + 1)) 59 7) 700 = true ∧ Ev 159 74 [.ref 59, .retAddr 0, .retAddr 0, .retAddr 0] [.int (mI (uI σ1 59 7 ((mI σ1 59 7) + 1)) 60 (mI (uI σ1 59 7 ((mI σ1 59 7) + 1)) 59 7).toNatClampNeg)] (uI σ1 59 7 ((mI σ1 59 7) + 1)) w)) ∧ (¬ ((mI (uI σ1 59 7 ((mI σ1 59 7) + 1)) 59 7) < (mI (uI σ1 59 7 ((mI σ1 59 7) + 1)) 59 6)) → Ev 159 74 [.ref 59, .retAddr 0, .retAddr 0, .retAddr 0] [.int 0] (uI σ1 59 7 ((mI σ1 59 7) + 1)) w))) ∧ (¬ ((mI (uI σ1 59 7 ((mI σ1 59 7) + 1)) 59 9) = 60) → (((mI (uI σ1 59 7 ((mI σ1 59 7) + 1)) 59 9) = 62 → (((mI (uI σ1 59 7 ((mI σ1 59 7) + 1)) 59 7) < (mI (uI σ1 59 7 ((mI σ1 59 7) + 1)) 59 6) → (inb (mI (uI σ1 59 7 ((mI σ1 59 7) + 1)) 59 7) 700 = true ∧ Ev 159 74 [.ref 59, .retAddr 0, .retAddr 0, .retAddr 0] [.int (mI (uI σ1 59 7 ((mI σ1 59 7) + 1)) 60 (mI (uI σ1 59 7 ((mI σ1 59 7) + 1)) 59 7).toNatClampNeg)] (uI σ1 59 7 ((mI σ1 59 7) + 1)) w)) ∧ (¬ ((mI (uI σ1 59 7 ((mI σ1 59 7) + 1)) 59 7) < (mI (uI σ1 59 7 ((mI σ1 59 7) + 1)) 59 6)) → Ev 159 74 [.ref 59, .retAddr 0, .retAddr 0, .retAddr 0] [.int 0] (uI σ1 59 7 ((mI σ1 59 7) + 1)) w))) ∧ (¬ ((mI (uI σ1 59 7 ((mI σ1 59 7) + 1)) 59 9) = 62) → (((mI (uI σ1 59 7 ((mI σ1 59 7) + 1)) 59 9) = 61 → (((mI (uI σ1 59 7 ((mI σ1 59 7) + 1)) 59 7) < (mI (uI σ1 59 7 ((mI σ1 59 7) + 1)) 59 6) → (inb (mI (uI σ1 59 7 ((mI σ1 59 7) + 1)) 59 7) 700 = true ∧ Ev 159 74 [.ref 59, .retAddr 0, .retAddr 0, .retAddr 0] [.int (mI (uI σ1 59 7 ((mI σ1 59 7) + 1)) 60 (mI (uI σ1 59 7 ((mI σ1 59 7) + 1)) 59 7).toNatClampNeg)] (uI σ1 59 7 ((mI σ1 59 7) + 1)) w)) ∧ (¬ ((mI (uI σ1 59 7 ((mI σ1 59 7) + 1)) 59 7) < (mI (uI σ1 59 7 ((mI σ1 59 7) + 1)) 59 6)) → Ev 159 74 [.ref 59, .retAddr 0, .retAddr 0, .retAddr 0] [.int 0] (uI σ1 59 7 ((mI σ1 59 7) + 1)) w))) ∧ (¬ ((mI (uI σ1 59 7 ((mI σ1 59 7) + 1)) 59 9) = 61) → (((mI (uI σ1 59 7 ((mI σ1 59 7) + 1)) 59 9) = 59 → Ev 159 270 [.ref 59, .retAddr 0, .retAddr 0, .retAddr 0] [] (uI σ1 59 7 ((mI σ1 59 7) + 1)) w) ∧ (¬ ((mI (uI σ1 59 7 ((mI σ1 59 7) + 1)) 59 9) = 59) → (((mI (uI σ1 59 7 ((mI σ1 59 7) + 1)) 59 9) = 40 → Ev 159 270 [.ref 59, .retAddr 0, .retAddr 0, .retAddr 0] [] (uI σ1 59 7 ((mI σ1 59 7) + 1)) w) ∧ (¬ ((mI (uI σ1 59 7 ((mI σ1 59 7) + 1)) 59 9) = 40) → (((mI (uI σ1 59 7 ((mI σ1 59 7) + 1)) 59 9) = 41 → Ev 159 270 [.ref 59, .retAddr 0, .retAddr 0, .retAddr 0] [] (uI σ1 59 7 ((mI σ1 59 7) + 1)) w) ∧ (¬ ((mI (uI σ1 59 7 ((mI σ1 59 7) + 1)) 59 9) = 41) → (((mI (uI σ1 59 7 ((mI σ1 59 7) + 1)) 59 9) = 43 → Ev 159 270 [.ref 59, .retAddr 0, .retAddr 0, .retAddr 0] [] (uI σ1 59 7 ((mI σ1 59 7) + 1)) w) ∧ (¬ ((mI (uI σ1 59 7 ((mI σ1 59 7) + 1)) 59 9) = 43) → (((mI (uI σ1 59 7 ((mI σ1 59 7) + 1)) 59 9) = 45 → Ev 159 270 [.ref 59, .retAddr 0, .retAddr 0, .retAddr 0] [] (uI σ1 59 7 ((mI σ1 59 7) + 1)) w) ∧ (¬ ((mI (uI σ1 59 7 ((mI σ1 59 7) + 1)) 59 9) = 45) → Ev 159 243 [.ref 59, .retAddr 0, .retAddr 0, .retAddr 0] [] (uI σ1 59 7 ((mI σ1 59 7) + 1)) w)))))))))))))))))) :
    Ev 159 0 [.ref 59, .retAddr 0, .retAddr 0, .retAddr 0] [] σ w := by
  refine e_aload_n d_159_0 rfl rfl ?_
  refine e_aload_n d_159_1 rfl rfl ?_
  refine e_getR d_159_2 oo_159 pF_9_7 (by decide) (hS.k rfl) (hS.r rt_59_0) rfl ?_
  refine e_aload_n d_159_5 rfl rfl ?_
  refine e_getI d_159_6 oo_159 pF_9_157 (by decide) (hS.k rfl) rfl ?_
  obtain ⟨hb, H⟩ := H
  refine e_iaload (v := (mI σ 60 (mI σ 59 7).toNatClampNeg)) d_159_9 (rdI_at (hS.k rfl) hb) rfl ?_
  refine e_putI d_159_10 oo_159 pF_9_171 (Or.inl rfl) (hS.k rfl) rfl ?_
  generalize hm2 : uI σ 59 9 (mI σ 60 (mI σ 59 7).toNatClampNeg) = σ1
  have hS3 : Sg t σ1 := by rw [← hm2]; exact hS.uI
  replace H := H σ1 hm2.symm
  refine e_aload_n d_159_13 rfl rfl ?_
  refine e_dup d_159_14 rfl rfl ?_
  refine e_getI d_159_15 oo_159 pF_9_157 (by decide) (hS3.k rfl) rfl ?_
  refine e_iconst d_159_18 ci_1 rfl ?_
  refine e_iadd d_159_19 rfl ?_
  refine e_putI d_159_20 oo_159 pF_9_157 (Or.inl rfl) (hS3.k rfl) rfl ?_
  refine e_aload_n d_159_23 rfl rfl ?_
  refine e_getI d_159_24 oo_159 pF_9_171 (by decide) (hS3.uI.k rfl) rfl ?_
  refine e_bipush d_159_27 cb_60 rfl ?_
  refine e_icmp_eq (t := 50) d_159_29 (by decide) rfl (fun hc => ?_) (fun hc => ?_)
  · replace H := H.1 hc
    refine e_aload_n d_159_50 rfl rfl ?_
    refine e_getI d_159_51 oo_159 pF_9_157 (by decide) (hS3.uI.k rfl) rfl ?_
    refine e_aload_n d_159_54 rfl rfl ?_
    refine e_getI d_159_55 oo_159 pF_9_154 (by decide) (hS3.uI.k rfl) rfl ?_
    refine e_icmp_ge (t := 73) d_159_58 (by decide) rfl (fun hc => ?_) (fun hc => ?_)
    · replace H := H.2 hc
      refine e_iconst d_159_73 ci_0 rfl ?_
      exact H
    · replace H := H.1 hc
      refine e_aload_n d_159_61 rfl rfl ?_
      refine e_getR d_159_62 oo_159 pF_9_7 (by decide) (hS3.uI.k rfl) (hS3.uI.r rt_59_0) rfl ?_
      refine e_aload_n d_159_65 rfl rfl ?_
      refine e_getI d_159_66 oo_159 pF_9_157 (by decide) (hS3.uI.k rfl) rfl ?_
      obtain ⟨hb, H⟩ := H
      refine e_iaload (v := (mI (uI σ1 59 7 ((mI σ1 59 7) + 1)) 60 (mI (uI σ1 59 7 ((mI σ1 59 7) + 1)) 59 7).toNatClampNeg)) d_159_69 (rdI_at (hS3.uI.k rfl) hb) rfl ?_
      refine e_goto (t := 74) d_159_70 (by decide) ?_
      exact H
  · replace H := H.2 hc
    refine e_aload_n d_159_32 rfl rfl ?_
    refine e_getI d_159_33 oo_159 pF_9_171 (by decide) (hS3.uI.k rfl) rfl ?_
    refine e_bipush d_159_36 cb_62 rfl ?_
    refine e_icmp_eq (t := 50) d_159_38 (by decide) rfl (fun hc => ?_) (fun hc => ?_)
    · replace H := H.1 hc
      refine e_aload_n d_159_50 rfl rfl ?_
      refine e_getI d_159_51 oo_159 pF_9_157 (by decide) (hS3.uI.k rfl) rfl ?_
      refine e_aload_n d_159_54 rfl rfl ?_
      refine e_getI d_159_55 oo_159 pF_9_154 (by decide) (hS3.uI.k rfl) rfl ?_
      refine e_icmp_ge (t := 73) d_159_58 (by decide) rfl (fun hc => ?_) (fun hc => ?_)
      · replace H := H.2 hc
        refine e_iconst d_159_73 ci_0 rfl ?_
        exact H
      · replace H := H.1 hc
        refine e_aload_n d_159_61 rfl rfl ?_
        refine e_getR d_159_62 oo_159 pF_9_7 (by decide) (hS3.uI.k rfl) (hS3.uI.r rt_59_0) rfl ?_
        refine e_aload_n d_159_65 rfl rfl ?_
        refine e_getI d_159_66 oo_159 pF_9_157 (by decide) (hS3.uI.k rfl) rfl ?_
        obtain ⟨hb, H⟩ := H
        refine e_iaload (v := (mI (uI σ1 59 7 ((mI σ1 59 7) + 1)) 60 (mI (uI σ1 59 7 ((mI σ1 59 7) + 1)) 59 7).toNatClampNeg)) d_159_69 (rdI_at (hS3.uI.k rfl) hb) rfl ?_
        refine e_goto (t := 74) d_159_70 (by decide) ?_
        exact H
    · replace H := H.2 hc
      refine e_aload_n d_159_41 rfl rfl ?_
      refine e_getI d_159_42 oo_159 pF_9_171 (by decide) (hS3.uI.k rfl) rfl ?_
      refine e_bipush d_159_45 cb_61 rfl ?_
      refine e_icmp_ne (t := 198) d_159_47 (by decide) rfl (fun hc => ?_) (fun hc => ?_)
      · replace H := H.2 hc
        refine e_aload_n d_159_198 rfl rfl ?_
        refine e_getI d_159_199 oo_159 pF_9_171 (by decide) (hS3.uI.k rfl) rfl ?_
        refine e_bipush d_159_202 cb_59 rfl ?_
        refine e_icmp_eq (t := 270) d_159_204 (by decide) rfl (fun hc => ?_) (fun hc => ?_)
        · replace H := H.1 hc
          exact H
        · replace H := H.2 hc
          refine e_aload_n d_159_207 rfl rfl ?_
          refine e_getI d_159_208 oo_159 pF_9_171 (by decide) (hS3.uI.k rfl) rfl ?_
          refine e_bipush d_159_211 cb_40 rfl ?_
          refine e_icmp_eq (t := 270) d_159_213 (by decide) rfl (fun hc => ?_) (fun hc => ?_)
          · replace H := H.1 hc
            exact H
          · replace H := H.2 hc
            refine e_aload_n d_159_216 rfl rfl ?_
            refine e_getI d_159_217 oo_159 pF_9_171 (by decide) (hS3.uI.k rfl) rfl ?_
            refine e_bipush d_159_220 cb_41 rfl ?_
            refine e_icmp_eq (t := 270) d_159_222 (by decide) rfl (fun hc => ?_) (fun hc => ?_)
            · replace H := H.1 hc
              exact H
            · replace H := H.2 hc
              refine e_aload_n d_159_225 rfl rfl ?_
              refine e_getI d_159_226 oo_159 pF_9_171 (by decide) (hS3.uI.k rfl) rfl ?_
              refine e_bipush d_159_229 cb_43 rfl ?_
              refine e_icmp_eq (t := 270) d_159_231 (by decide) rfl (fun hc => ?_) (fun hc => ?_)
              · replace H := H.1 hc
                exact H
              · replace H := H.2 hc
                refine e_aload_n d_159_234 rfl rfl ?_
                refine e_getI d_159_235 oo_159 pF_9_171 (by decide) (hS3.uI.k rfl) rfl ?_
                refine e_bipush d_159_238 cb_45 rfl ?_
                refine e_icmp_eq (t := 270) d_159_240 (by decide) rfl (fun hc => ?_) (fun hc => ?_)
                · replace H := H.1 hc
                  exact H
                · replace H := H.2 hc
                  exact H
      · replace H := H.1 hc
        refine e_aload_n d_159_50 rfl rfl ?_
        refine e_getI d_159_51 oo_159 pF_9_157 (by decide) (hS3.uI.k rfl) rfl ?_
        refine e_aload_n d_159_54 rfl rfl ?_
        refine e_getI d_159_55 oo_159 pF_9_154 (by decide) (hS3.uI.k rfl) rfl ?_
        refine e_icmp_ge (t := 73) d_159_58 (by decide) rfl (fun hc => ?_) (fun hc => ?_)
        · replace H := H.2 hc
          refine e_iconst d_159_73 ci_0 rfl ?_
          exact H
        · replace H := H.1 hc
          refine e_aload_n d_159_61 rfl rfl ?_
          refine e_getR d_159_62 oo_159 pF_9_7 (by decide) (hS3.uI.k rfl) (hS3.uI.r rt_59_0) rfl ?_
          refine e_aload_n d_159_65 rfl rfl ?_
          refine e_getI d_159_66 oo_159 pF_9_157 (by decide) (hS3.uI.k rfl) rfl ?_
          obtain ⟨hb, H⟩ := H
          refine e_iaload (v := (mI (uI σ1 59 7 ((mI σ1 59 7) + 1)) 60 (mI (uI σ1 59 7 ((mI σ1 59 7) + 1)) 59 7).toNatClampNeg)) d_159_69 (rdI_at (hS3.uI.k rfl) hb) rfl ?_
          refine e_goto (t := 74) d_159_70 (by decide) ?_
          exact H
theorem b_159_74 {t : Nat} {σ : Mm} {w : Option Value × Mm} {z1 : Value} {z2 : Value} {z3 : Value} {s0 : Int32} (hS : Sg t σ) 
    (H : ((mI σ 59 9) = 61 → (((mI σ 59 9) = 60 → ((s0 = 62 → Ev 159 116 [.ref 59, .int s0, .int 0, z3] [.int 1] σ w) ∧ (¬ (s0 = 62) → Ev 159 116 [.ref 59, .int s0, .int 0, z3] [.int 0] σ w))) ∧ (¬ ((mI σ 59 9) = 60) → Ev 159 116 [.ref 59, .int s0, .int 0, z3] [.int 0] σ w))) ∧ (¬ ((mI σ 59 9) = 61) → ((s0 = 61 → (((mI σ 59 9) = 60 → ((s0 = 62 → Ev 159 116 [.ref 59, .int s0, .int 1, z3] [.int 1] σ w) ∧ (¬ (s0 = 62) → Ev 159 116 [.ref 59, .int s0, .int 1, z3] [.int 0] σ w))) ∧ (¬ ((mI σ 59 9) = 60) → Ev 159 116 [.ref 59, .int s0, .int 1, z3] [.int 0] σ w))) ∧ (¬ (s0 = 61) → (((mI σ 59 9) = 60 → ((s0 = 62 → Ev 159 116 [.ref 59, .int s0, .int 0, z3] [.int 1] σ w) ∧ (¬ (s0 = 62) → Ev 159 116 [.ref 59, .int s0, .int 0, z3] [.int 0] σ w))) ∧ (¬ ((mI σ 59 9) = 60) → Ev 159 116 [.ref 59, .int s0, .int 0, z3] [.int 0] σ w)))))) :
    Ev 159 74 [.ref 59, z1, z2, z3] [.int s0] σ w := by
  refine e_istore_n (ls2 := [.ref 59, .int s0, z2, z3]) d_159_74 rfl rfl rfl ?_
  refine e_aload_n d_159_75 rfl rfl ?_
  refine e_getI d_159_76 oo_159 pF_9_171 (by decide) (hS.k rfl) rfl ?_
  refine e_bipush d_159_79 cb_61 rfl ?_
  refine e_icmp_eq (t := 94) d_159_81 (by decide) rfl (fun hc => ?_) (fun hc => ?_)
  · replace H := H.1 hc
    refine e_iconst d_159_94 ci_0 rfl ?_
    refine e_istore_n (ls2 := [.ref 59, .int s0, .int 0, z3]) d_159_95 rfl rfl rfl ?_
    refine e_aload_n d_159_96 rfl rfl ?_
    refine e_getI d_159_97 oo_159 pF_9_171 (by decide) (hS.k rfl) rfl ?_
    refine e_bipush d_159_100 cb_60 rfl ?_
    refine e_icmp_ne (t := 115) d_159_102 (by decide) rfl (fun hc => ?_) (fun hc => ?_)
    · replace H := H.2 hc
      refine e_iconst d_159_115 ci_0 rfl ?_
      exact H
    · replace H := H.1 hc
      refine e_iload_n d_159_105 rfl rfl ?_
      refine e_bipush d_159_106 cb_62 rfl ?_
      refine e_icmp_ne (t := 115) d_159_108 (by decide) rfl (fun hc => ?_) (fun hc => ?_)
      · replace H := H.2 hc
        refine e_iconst d_159_115 ci_0 rfl ?_
        exact H
      · replace H := H.1 hc
        refine e_iconst d_159_111 ci_1 rfl ?_
        refine e_goto (t := 116) d_159_112 (by decide) ?_
        exact H
  · replace H := H.2 hc
    refine e_iload_n d_159_84 rfl rfl ?_
    refine e_bipush d_159_85 cb_61 rfl ?_
    refine e_icmp_ne (t := 94) d_159_87 (by decide) rfl (fun hc => ?_) (fun hc => ?_)
    · replace H := H.2 hc
      refine e_iconst d_159_94 ci_0 rfl ?_
      refine e_istore_n (ls2 := [.ref 59, .int s0, .int 0, z3]) d_159_95 rfl rfl rfl ?_
      refine e_aload_n d_159_96 rfl rfl ?_
      refine e_getI d_159_97 oo_159 pF_9_171 (by decide) (hS.k rfl) rfl ?_
      refine e_bipush d_159_100 cb_60 rfl ?_
      refine e_icmp_ne (t := 115) d_159_102 (by decide) rfl (fun hc => ?_) (fun hc => ?_)
      · replace H := H.2 hc
        refine e_iconst d_159_115 ci_0 rfl ?_
        exact H
      · replace H := H.1 hc
        refine e_iload_n d_159_105 rfl rfl ?_
        refine e_bipush d_159_106 cb_62 rfl ?_
        refine e_icmp_ne (t := 115) d_159_108 (by decide) rfl (fun hc => ?_) (fun hc => ?_)
        · replace H := H.2 hc
          refine e_iconst d_159_115 ci_0 rfl ?_
          exact H
        · replace H := H.1 hc
          refine e_iconst d_159_111 ci_1 rfl ?_
          refine e_goto (t := 116) d_159_112 (by decide) ?_
          exact H
    · replace H := H.1 hc
      refine e_iconst d_159_90 ci_1 rfl ?_
      refine e_goto (t := 95) d_159_91 (by decide) ?_
      refine e_istore_n (ls2 := [.ref 59, .int s0, .int 1, z3]) d_159_95 rfl rfl rfl ?_
      refine e_aload_n d_159_96 rfl rfl ?_
      refine e_getI d_159_97 oo_159 pF_9_171 (by decide) (hS.k rfl) rfl ?_
      refine e_bipush d_159_100 cb_60 rfl ?_
      refine e_icmp_ne (t := 115) d_159_102 (by decide) rfl (fun hc => ?_) (fun hc => ?_)
      · replace H := H.2 hc
        refine e_iconst d_159_115 ci_0 rfl ?_
        exact H
      · replace H := H.1 hc
        refine e_iload_n d_159_105 rfl rfl ?_
        refine e_bipush d_159_106 cb_62 rfl ?_
        refine e_icmp_ne (t := 115) d_159_108 (by decide) rfl (fun hc => ?_) (fun hc => ?_)
        · replace H := H.2 hc
          refine e_iconst d_159_115 ci_0 rfl ?_
          exact H
        · replace H := H.1 hc
          refine e_iconst d_159_111 ci_1 rfl ?_
          refine e_goto (t := 116) d_159_112 (by decide) ?_
          exact H
theorem b_159_116 {t : Nat} {σ : Mm} {w : Option Value × Mm} {x1 : Int32} {x2 : Int32} {z3 : Value} {s0 : Int32} (hS : Sg t σ) 
    (H : (x2 = 0 → ((s0 = 0 → Ev 159 135 [.ref 59, .int x1, .int x2, .int s0] [] σ w) ∧ (¬ (s0 = 0) → Ev 159 135 [.ref 59, .int x1, .int x2, .int s0] [] (uI σ 59 7 ((mI σ 59 7) + 1)) w))) ∧ (¬ (x2 = 0) → Ev 159 135 [.ref 59, .int x1, .int x2, .int s0] [] (uI σ 59 7 ((mI σ 59 7) + 1)) w)) :
    Ev 159 116 [.ref 59, .int x1, .int x2, z3] [.int s0] σ w := by
  refine e_istore_n (ls2 := [.ref 59, .int x1, .int x2, .int s0]) d_159_116 rfl rfl rfl ?_
  refine e_iload_n d_159_117 rfl rfl ?_
  refine e_if_ne (t := 125) d_159_118 (by decide) rfl (fun hc => ?_) (fun hc => ?_)
  · replace H := H.2 hc
    refine e_aload_n d_159_125 rfl rfl ?_
    refine e_dup d_159_126 rfl rfl ?_
    refine e_getI d_159_127 oo_159 pF_9_157 (by decide) (hS.k rfl) rfl ?_
    refine e_iconst d_159_130 ci_1 rfl ?_
    refine e_iadd d_159_131 rfl ?_
    refine e_putI d_159_132 oo_159 pF_9_157 (Or.inl rfl) (hS.k rfl) rfl ?_
    exact H
  · replace H := H.1 hc
    refine e_iload_n d_159_121 rfl rfl ?_
    refine e_if_eq (t := 135) d_159_122 (by decide) rfl (fun hc => ?_) (fun hc => ?_)
    · replace H := H.1 hc
      exact H
    · replace H := H.2 hc
      refine e_aload_n d_159_125 rfl rfl ?_
      refine e_dup d_159_126 rfl rfl ?_
      refine e_getI d_159_127 oo_159 pF_9_157 (by decide) (hS.k rfl) rfl ?_
      refine e_iconst d_159_130 ci_1 rfl ?_
      refine e_iadd d_159_131 rfl ?_
      refine e_putI d_159_132 oo_159 pF_9_157 (Or.inl rfl) (hS.k rfl) rfl ?_
      exact H
theorem b_159_135 {t : Nat} {σ : Mm} {w : Option Value × Mm} {x1 : Int32} {x2 : Int32} {x3 : Int32} (hS : Sg t σ) 
    (H : ((mI (uI σ 59 8 5) 59 9) = 61 → (w = (none, uI (uI σ 59 8 5) 59 9 2))) ∧ (¬ ((mI (uI σ 59 8 5) 59 9) = 61) → (((mI (uI σ 59 8 5) 59 9) = 60 → ((x2 = 0 → ((x3 = 0 → (w = (none, uI (uI σ 59 8 5) 59 9 0))) ∧ (¬ (x3 = 0) → (w = (none, uI (uI σ 59 8 5) 59 9 3))))) ∧ (¬ (x2 = 0) → (w = (none, uI (uI σ 59 8 5) 59 9 1))))) ∧ (¬ ((mI (uI σ 59 8 5) 59 9) = 60) → ((x2 = 0 → (w = (none, uI (uI σ 59 8 5) 59 9 5))) ∧ (¬ (x2 = 0) → (w = (none, uI (uI σ 59 8 5) 59 9 4)))))))) :
    Ev 159 135 [.ref 59, .int x1, .int x2, .int x3] [] σ w := by
  refine e_aload_n d_159_135 rfl rfl ?_
  refine e_iconst d_159_136 ci_5 rfl ?_
  refine e_putI d_159_137 oo_159 pF_9_160 (Or.inl rfl) (hS.k rfl) rfl ?_
  refine e_aload_n d_159_140 rfl rfl ?_
  refine e_aload_n d_159_141 rfl rfl ?_
  refine e_getI d_159_142 oo_159 pF_9_171 (by decide) (hS.uI.k rfl) rfl ?_
  refine e_bipush d_159_145 cb_61 rfl ?_
  refine e_icmp_ne (t := 154) d_159_147 (by decide) rfl (fun hc => ?_) (fun hc => ?_)
  · replace H := H.2 hc
    refine e_aload_n d_159_154 rfl rfl ?_
    refine e_getI d_159_155 oo_159 pF_9_171 (by decide) (hS.uI.k rfl) rfl ?_
    refine e_bipush d_159_158 cb_60 rfl ?_
    refine e_icmp_ne (t := 183) d_159_160 (by decide) rfl (fun hc => ?_) (fun hc => ?_)
    · replace H := H.2 hc
      refine e_iload_n d_159_183 rfl rfl ?_
      refine e_if_eq (t := 191) d_159_184 (by decide) rfl (fun hc => ?_) (fun hc => ?_)
      · replace H := H.1 hc
        refine e_iconst d_159_191 ci_5 rfl ?_
        refine e_putI d_159_192 oo_159 pF_9_171 (Or.inl rfl) (hS.uI.k rfl) rfl ?_
        refine e_goto (t := 290) d_159_195 (by decide) ?_
        subst H
        exact e_vret d_159_290 rr_159
      · replace H := H.2 hc
        refine e_iconst d_159_187 ci_4 rfl ?_
        refine e_goto (t := 192) d_159_188 (by decide) ?_
        refine e_putI d_159_192 oo_159 pF_9_171 (Or.inl rfl) (hS.uI.k rfl) rfl ?_
        refine e_goto (t := 290) d_159_195 (by decide) ?_
        subst H
        exact e_vret d_159_290 rr_159
    · replace H := H.1 hc
      refine e_iload_n d_159_163 rfl rfl ?_
      refine e_if_eq (t := 171) d_159_164 (by decide) rfl (fun hc => ?_) (fun hc => ?_)
      · replace H := H.1 hc
        refine e_iload_n d_159_171 rfl rfl ?_
        refine e_if_eq (t := 179) d_159_172 (by decide) rfl (fun hc => ?_) (fun hc => ?_)
        · replace H := H.1 hc
          refine e_iconst d_159_179 ci_0 rfl ?_
          refine e_goto (t := 192) d_159_180 (by decide) ?_
          refine e_putI d_159_192 oo_159 pF_9_171 (Or.inl rfl) (hS.uI.k rfl) rfl ?_
          refine e_goto (t := 290) d_159_195 (by decide) ?_
          subst H
          exact e_vret d_159_290 rr_159
        · replace H := H.2 hc
          refine e_iconst d_159_175 ci_3 rfl ?_
          refine e_goto (t := 192) d_159_176 (by decide) ?_
          refine e_putI d_159_192 oo_159 pF_9_171 (Or.inl rfl) (hS.uI.k rfl) rfl ?_
          refine e_goto (t := 290) d_159_195 (by decide) ?_
          subst H
          exact e_vret d_159_290 rr_159
      · replace H := H.2 hc
        refine e_iconst d_159_167 ci_1 rfl ?_
        refine e_goto (t := 192) d_159_168 (by decide) ?_
        refine e_putI d_159_192 oo_159 pF_9_171 (Or.inl rfl) (hS.uI.k rfl) rfl ?_
        refine e_goto (t := 290) d_159_195 (by decide) ?_
        subst H
        exact e_vret d_159_290 rr_159
  · replace H := H.1 hc
    refine e_iconst d_159_150 ci_2 rfl ?_
    refine e_goto (t := 192) d_159_151 (by decide) ?_
    refine e_putI d_159_192 oo_159 pF_9_171 (Or.inl rfl) (hS.uI.k rfl) rfl ?_
    refine e_goto (t := 290) d_159_195 (by decide) ?_
    subst H
    exact e_vret d_159_290 rr_159
theorem b_159_243 {t : Nat} {σ : Mm} {w : Option Value × Mm} {z1 : Value} {z2 : Value} {z3 : Value} (hS : Sg t σ) 
    (H : ((mI σ 59 9) = 42 → Ev 159 270 [.ref 59, z1, z2, z3] [] σ w) ∧ (¬ ((mI σ 59 9) = 42) → (((mI σ 59 9) = 47 → Ev 159 270 [.ref 59, z1, z2, z3] [] σ w) ∧ (¬ ((mI σ 59 9) = 47) → (((mI σ 59 9) = 37 → Ev 159 270 [.ref 59, z1, z2, z3] [] σ w) ∧ (¬ ((mI σ 59 9) = 37) → (w = (none, uI σ 59 8 6)))))))) :
    Ev 159 243 [.ref 59, z1, z2, z3] [] σ w := by
  refine e_aload_n d_159_243 rfl rfl ?_
  refine e_getI d_159_244 oo_159 pF_9_171 (by decide) (hS.k rfl) rfl ?_
  refine e_bipush d_159_247 cb_42 rfl ?_
  refine e_icmp_eq (t := 270) d_159_249 (by decide) rfl (fun hc => ?_) (fun hc => ?_)
  · replace H := H.1 hc
    exact H
  · replace H := H.2 hc
    refine e_aload_n d_159_252 rfl rfl ?_
    refine e_getI d_159_253 oo_159 pF_9_171 (by decide) (hS.k rfl) rfl ?_
    refine e_bipush d_159_256 cb_47 rfl ?_
    refine e_icmp_eq (t := 270) d_159_258 (by decide) rfl (fun hc => ?_) (fun hc => ?_)
    · replace H := H.1 hc
      exact H
    · replace H := H.2 hc
      refine e_aload_n d_159_261 rfl rfl ?_
      refine e_getI d_159_262 oo_159 pF_9_171 (by decide) (hS.k rfl) rfl ?_
      refine e_bipush d_159_265 cb_37 rfl ?_
      refine e_icmp_ne (t := 274) d_159_267 (by decide) rfl (fun hc => ?_) (fun hc => ?_)
      · replace H := H.2 hc
        refine e_iconst d_159_274 ci_0 rfl ?_
        refine e_istore_n (ls2 := [.ref 59, .int 0, z2, z3]) d_159_275 rfl rfl rfl ?_
        refine e_aload_n d_159_276 rfl rfl ?_
        refine e_iload_n d_159_277 rfl rfl ?_
        refine e_if_eq (t := 285) d_159_278 (by decide) rfl (fun _ => ?_) (fun hc => absurd hc (by decide))
        refine e_bipush d_159_285 cb_6 rfl ?_
        refine e_putI d_159_287 oo_159 pF_9_160 (Or.inl rfl) (hS.k rfl) rfl ?_
        subst H
        exact e_vret d_159_290 rr_159
      · replace H := H.1 hc
        exact H
theorem b_159_270 {t : Nat} {σ : Mm} {w : Option Value × Mm} {z1 : Value} {z2 : Value} {z3 : Value} (hS : Sg t σ) 
    (H : w = (none, uI σ 59 8 4)) :
    Ev 159 270 [.ref 59, z1, z2, z3] [] σ w := by
  refine e_iconst d_159_270 ci_1 rfl ?_
  refine e_goto (t := 275) d_159_271 (by decide) ?_
  refine e_istore_n (ls2 := [.ref 59, .int 1, z2, z3]) d_159_275 rfl rfl rfl ?_
  refine e_aload_n d_159_276 rfl rfl ?_
  refine e_iload_n d_159_277 rfl rfl ?_
  refine e_if_eq (t := 285) d_159_278 (by decide) rfl (fun hc => absurd hc (by decide)) (fun _ => ?_)
  refine e_iconst d_159_281 ci_4 rfl ?_
  refine e_goto (t := 287) d_159_282 (by decide) ?_
  refine e_putI d_159_287 oo_159 pF_9_160 (Or.inl rfl) (hS.k rfl) rfl ?_
  subst H
  exact e_vret d_159_290 rr_159
/-! X9_packed -/
theorem b_160_0 {t : Nat} {σ : Mm} {w : Option Value × Mm} {x1 : Int32} {x2 : Int32} (hS : Sg t σ) 
    (H : Ev 160 5 [.ref 59, .int x1, .int x2, .int 0, .int x1] [] σ w) :
    Ev 160 0 [.ref 59, .int x1, .int x2, .retAddr 0, .retAddr 0] [] σ w := by
  refine e_iconst d_160_0 ci_0 rfl ?_
  refine e_istore_n (ls2 := [.ref 59, .int x1, .int x2, .int 0, .retAddr 0]) d_160_1 rfl rfl rfl ?_
  refine e_iload_n d_160_2 rfl rfl ?_
  refine e_istore (ls2 := [.ref 59, .int x1, .int x2, .int 0, .int x1]) d_160_3 rfl rfl rfl ?_
  exact H
theorem b_160_5 {t : Nat} {σ : Mm} {w : Option Value × Mm} {x1 : Int32} {x2 : Int32} {x3 : Int32} {x4 : Int32} (hS : Sg t σ) 
    (H : (x4 < (x1 + 6) → ((x4 < x2 → (inb x4 700 = true ∧ Ev 160 5 [.ref 59, .int x1, .int x2, .int ((x3 <<< (5 &&& 31)) ||| ((mI σ 60 x4.toNatClampNeg) - 96)), .int (x4 + 1)] [] σ w)) ∧ (¬ (x4 < x2) → Ev 160 5 [.ref 59, .int x1, .int x2, .int ((x3 <<< (5 &&& 31)) ||| 0), .int (x4 + 1)] [] σ w))) ∧ (¬ (x4 < (x1 + 6)) → (w = (some (.int x3), σ)))) :
    Ev 160 5 [.ref 59, .int x1, .int x2, .int x3, .int x4] [] σ w := by
  refine e_iload d_160_5 rfl rfl ?_
  refine e_iload_n d_160_7 rfl rfl ?_
  refine e_bipush d_160_8 cb_6 rfl ?_
  refine e_iadd d_160_10 rfl ?_
  refine e_icmp_ge (t := 45) d_160_11 (by decide) rfl (fun hc => ?_) (fun hc => ?_)
  · replace H := H.2 hc
    refine e_iload_n d_160_45 rfl rfl ?_
    subst H
    exact e_iret d_160_46 rr_160
  · replace H := H.1 hc
    refine e_iload_n d_160_14 rfl rfl ?_
    refine e_iconst d_160_15 ci_5 rfl ?_
    refine e_ishl d_160_16 rfl ?_
    refine e_iload d_160_17 rfl rfl ?_
    refine e_iload_n d_160_19 rfl rfl ?_
    refine e_icmp_ge (t := 36) d_160_20 (by decide) rfl (fun hc => ?_) (fun hc => ?_)
    · replace H := H.2 hc
      refine e_iconst d_160_36 ci_0 rfl ?_
      refine e_ior d_160_37 rfl ?_
      refine e_istore_n (ls2 := [.ref 59, .int x1, .int x2, .int ((x3 <<< (5 &&& 31)) ||| 0), .int x4]) d_160_38 rfl rfl rfl ?_
      refine e_iinc (ls2 := [.ref 59, .int x1, .int x2, .int ((x3 <<< (5 &&& 31)) ||| 0), .int (x4 + 1)]) d_160_39 rfl ci_1 rfl rfl rfl ?_
      refine e_goto (t := 5) d_160_42 (by decide) ?_
      exact H
    · replace H := H.1 hc
      refine e_aload_n d_160_23 rfl rfl ?_
      refine e_getR d_160_24 oo_160 pF_9_7 (by decide) (hS.k rfl) (hS.r rt_59_0) rfl ?_
      refine e_iload d_160_27 rfl rfl ?_
      obtain ⟨hb, H⟩ := H
      refine e_iaload (v := (mI σ 60 x4.toNatClampNeg)) d_160_29 (rdI_at (hS.k rfl) hb) rfl ?_
      refine e_bipush d_160_30 cb_96 rfl ?_
      refine e_isub d_160_32 rfl ?_
      refine e_goto (t := 37) d_160_33 (by decide) ?_
      refine e_ior d_160_37 rfl ?_
      refine e_istore_n (ls2 := [.ref 59, .int x1, .int x2, .int ((x3 <<< (5 &&& 31)) ||| ((mI σ 60 x4.toNatClampNeg) - 96)), .int x4]) d_160_38 rfl rfl rfl ?_
      refine e_iinc (ls2 := [.ref 59, .int x1, .int x2, .int ((x3 <<< (5 &&& 31)) ||| ((mI σ 60 x4.toNatClampNeg) - 96)), .int (x4 + 1)]) d_160_39 rfl ci_1 rfl rfl rfl ?_
      refine e_goto (t := 5) d_160_42 (by decide) ?_
      exact H
/-! X9_isKey -/
theorem b_161_0 {t : Nat} {σ : Mm} {w : Option Value × Mm} {x1 : Int32} (hS : Sg t σ) 
    (H : ((mI σ 59 8) = 1 → (((mI σ 59 9) = x1 → (w = (some (.int 1), σ))) ∧ (¬ ((mI σ 59 9) = x1) → (w = (some (.int 0), σ))))) ∧ (¬ ((mI σ 59 8) = 1) → (w = (some (.int 0), σ)))) :
    Ev 161 0 [.ref 59, .int x1] [] σ w := by
  refine e_aload_n d_161_0 rfl rfl ?_
  refine e_getI d_161_1 oo_161 pF_9_160 (by decide) (hS.k rfl) rfl ?_
  refine e_iconst d_161_4 ci_1 rfl ?_
  refine e_icmp_ne (t := 20) d_161_5 (by decide) rfl (fun hc => ?_) (fun hc => ?_)
  · replace H := H.2 hc
    refine e_iconst d_161_20 ci_0 rfl ?_
    subst H
    exact e_zret d_161_21 rr_161 (Or.inl rfl)
  · replace H := H.1 hc
    refine e_aload_n d_161_8 rfl rfl ?_
    refine e_getI d_161_9 oo_161 pF_9_171 (by decide) (hS.k rfl) rfl ?_
    refine e_iload_n d_161_12 rfl rfl ?_
    refine e_icmp_ne (t := 20) d_161_13 (by decide) rfl (fun hc => ?_) (fun hc => ?_)
    · replace H := H.2 hc
      refine e_iconst d_161_20 ci_0 rfl ?_
      subst H
      exact e_zret d_161_21 rr_161 (Or.inl rfl)
    · replace H := H.1 hc
      refine e_iconst d_161_16 ci_1 rfl ?_
      refine e_goto (t := 21) d_161_17 (by decide) ?_
      subst H
      exact e_zret d_161_21 rr_161 (Or.inr rfl)
/-! X9_isSign -/
theorem b_162_0 {t : Nat} {σ : Mm} {w : Option Value × Mm} {x1 : Int32} (hS : Sg t σ) 
    (H : ((mI σ 59 8) = 4 → (((mI σ 59 9) = x1 → (w = (some (.int 1), σ))) ∧ (¬ ((mI σ 59 9) = x1) → (w = (some (.int 0), σ))))) ∧ (¬ ((mI σ 59 8) = 4) → (w = (some (.int 0), σ)))) :
    Ev 162 0 [.ref 59, .int x1] [] σ w := by
  refine e_aload_n d_162_0 rfl rfl ?_
  refine e_getI d_162_1 oo_162 pF_9_160 (by decide) (hS.k rfl) rfl ?_
  refine e_iconst d_162_4 ci_4 rfl ?_
  refine e_icmp_ne (t := 20) d_162_5 (by decide) rfl (fun hc => ?_) (fun hc => ?_)
  · replace H := H.2 hc
    refine e_iconst d_162_20 ci_0 rfl ?_
    subst H
    exact e_zret d_162_21 rr_162 (Or.inl rfl)
  · replace H := H.1 hc
    refine e_aload_n d_162_8 rfl rfl ?_
    refine e_getI d_162_9 oo_162 pF_9_171 (by decide) (hS.k rfl) rfl ?_
    refine e_iload_n d_162_12 rfl rfl ?_
    refine e_icmp_ne (t := 20) d_162_13 (by decide) rfl (fun hc => ?_) (fun hc => ?_)
    · replace H := H.2 hc
      refine e_iconst d_162_20 ci_0 rfl ?_
      subst H
      exact e_zret d_162_21 rr_162 (Or.inl rfl)
    · replace H := H.1 hc
      refine e_iconst d_162_16 ci_1 rfl ?_
      refine e_goto (t := 21) d_162_17 (by decide) ?_
      subst H
      exact e_zret d_162_21 rr_162 (Or.inr rfl)
/-! X9_number -/
theorem b_163_0 {t : Nat} {σ : Mm} {w : Option Value × Mm} {x1 : Int32} {x2 : Int32} (hS : Sg t σ) 
    (H : ((mI σ 59 8) = 3 → (∃ (v3 : Int32) (σ1 : Mm), Cl 152 [.int (mI σ 59 9), .int x1, .int x2] σ (some (.int v3), σ1) ∧ Sg t σ1 ∧ ((v3 = 0 → (∃ (v9 : Int32) (σ7 : Mm), Cl 154 [.ref 59, .int 2] σ1 (some (.int v9), σ7) ∧ Sg t σ7 ∧ ((v9 = 0 ∨ v9 = 1) ∧ w = (some (.int v9), σ7)))) ∧ (¬ (v3 = 0) → (∃ (σ4 : Mm), Cl 158 [.ref 59] (uI σ1 59 11 (mI σ1 59 9)) (none, σ4) ∧ Sg t σ4 ∧ (w = (some (.int 1), σ4))))))) ∧ (¬ ((mI σ 59 8) = 3) → (∃ (v12 : Int32) (σ10 : Mm), Cl 154 [.ref 59, .int 1] σ (some (.int v12), σ10) ∧ Sg t σ10 ∧ ((v12 = 0 ∨ v12 = 1) ∧ w = (some (.int v12), σ10))))) :
    Ev 163 0 [.ref 59, .int x1, .int x2] [] σ w := by
  refine e_aload_n d_163_0 rfl rfl ?_
  refine e_getI d_163_1 oo_163 pF_9_160 (by decide) (hS.k rfl) rfl ?_
  refine e_iconst d_163_4 ci_3 rfl ?_
  refine e_icmp_eq (t := 14) d_163_5 (by decide) rfl (fun hc => ?_) (fun hc => ?_)
  · replace H := H.1 hc
    refine e_aload_n d_163_14 rfl rfl ?_
    refine e_getI d_163_15 oo_163 pF_9_171 (by decide) (hS.k rfl) rfl ?_
    refine e_iload_n d_163_18 rfl rfl ?_
    refine e_iload_n d_163_19 rfl rfl ?_
    obtain ⟨v3, σ1, hcl, hS2, H⟩ := H
    refine e_scall (w1 := (some (.int v3), σ1)) d_163_20 kc_163_20 rfl ⟨Nat.le_of_ble_eq_true rfl, xx_163.symm⟩ rfl hcl ?_
    show Ev 163 23 [.ref 59, .int x1, .int x2] [.int v3] σ1 w
    refine e_if_ne (t := 32) d_163_23 (by decide) rfl (fun hc => ?_) (fun hc => ?_)
    · replace H := H.2 hc
      refine e_aload_n d_163_32 rfl rfl ?_
      refine e_aload_n d_163_33 rfl rfl ?_
      refine e_getI d_163_34 oo_163 pF_9_171 (by decide) (hS2.k rfl) rfl ?_
      refine e_putI d_163_37 oo_163 pF_9_191 (Or.inl rfl) (hS2.k rfl) rfl ?_
      refine e_aload_n d_163_40 rfl rfl ?_
      obtain ⟨σ4, hcl, hS5, H⟩ := H
      refine e_vcall (w1 := (none, σ4)) d_163_41 kc_163_41 rfl ⟨Nat.le_of_ble_eq_true rfl, xx_163.symm⟩ rfl hcl ?_
      show Ev 163 44 [.ref 59, .int x1, .int x2] [] σ4 w
      refine e_iconst d_163_44 ci_1 rfl ?_
      subst H
      exact e_zret d_163_45 rr_163 (Or.inr rfl)
    · replace H := H.1 hc
      refine e_aload_n d_163_26 rfl rfl ?_
      refine e_iconst d_163_27 ci_2 rfl ?_
      obtain ⟨v9, σ7, hcl, hS8, H⟩ := H
      refine e_vcall (w1 := (some (.int v9), σ7)) d_163_28 kc_163_28 rfl ⟨Nat.le_of_ble_eq_true rfl, xx_163.symm⟩ rfl hcl ?_
      show Ev 163 31 [.ref 59, .int x1, .int x2] [.int v9] σ7 w
      obtain ⟨hz, H⟩ := H
      subst H
      exact e_zret d_163_31 rr_163 hz
  · replace H := H.2 hc
    refine e_aload_n d_163_8 rfl rfl ?_
    refine e_iconst d_163_9 ci_1 rfl ?_
    obtain ⟨v12, σ10, hcl, hS11, H⟩ := H
    refine e_vcall (w1 := (some (.int v12), σ10)) d_163_10 kc_163_10 rfl ⟨Nat.le_of_ble_eq_true rfl, xx_163.symm⟩ rfl hcl ?_
    show Ev 163 13 [.ref 59, .int x1, .int x2] [.int v12] σ10 w
    obtain ⟨hz, H⟩ := H
    subst H
    exact e_zret d_163_13 rr_163 hz
/-! X9_plain -/
theorem b_164_0 {t : Nat} {σ : Mm} {w : Option Value × Mm}  (hS : Sg t σ) 
    (H : ∀ (σ1 : Mm), σ1 = uI (uI (uI (uI σ 59 17 0) 59 18 0) 59 19 0) 59 20 0 → Ev 164 39 [.ref 59, .int 0] [] (uI (uI (uI σ1 59 21 0) 59 43 0) 62 1 0) w) :
    Ev 164 0 [.ref 59, .retAddr 0] [] σ w := by
  refine e_aload_n d_164_0 rfl rfl ?_
  refine e_iconst d_164_1 ci_0 rfl ?_
  refine e_putI d_164_2 oo_164 pF_9_204 (Or.inl rfl) (hS.k rfl) rfl ?_
  refine e_aload_n d_164_5 rfl rfl ?_
  refine e_iconst d_164_6 ci_0 rfl ?_
  refine e_putI d_164_7 oo_164 pF_9_207 (Or.inl rfl) (hS.uI.k rfl) rfl ?_
  refine e_aload_n d_164_10 rfl rfl ?_
  refine e_iconst d_164_11 ci_0 rfl ?_
  refine e_putI d_164_12 oo_164 pF_9_210 (Or.inl rfl) (hS.uI.uI.k rfl) rfl ?_
  refine e_aload_n d_164_15 rfl rfl ?_
  refine e_iconst d_164_16 ci_0 rfl ?_
  refine e_putI d_164_17 oo_164 pF_9_213 (Or.inl rfl) (hS.uI.uI.uI.k rfl) rfl ?_
  generalize hm2 : uI (uI (uI (uI σ 59 17 0) 59 18 0) 59 19 0) 59 20 0 = σ1
  have hS3 : Sg t σ1 := by rw [← hm2]; exact hS.uI.uI.uI.uI
  replace H := H σ1 hm2.symm
  refine e_aload_n d_164_20 rfl rfl ?_
  refine e_iconst d_164_21 ci_0 rfl ?_
  refine e_putI d_164_22 oo_164 pF_9_216 (Or.inl rfl) (hS3.k rfl) rfl ?_
  refine e_aload_n d_164_25 rfl rfl ?_
  refine e_iconst d_164_26 ci_0 rfl ?_
  refine e_putI d_164_27 oo_164 pF_9_219 (Or.inl rfl) (hS3.uI.k rfl) rfl ?_
  refine e_aload_n d_164_30 rfl rfl ?_
  refine e_getR d_164_31 oo_164 pF_9_20 (by decide) (hS3.uI.uI.k rfl) (hS3.uI.uI.r rt_59_22) rfl ?_
  refine e_iconst d_164_34 ci_1 rfl ?_
  refine e_iconst d_164_35 ci_0 rfl ?_
  refine e_iastore d_164_36 (okI_at (hS3.uI.uI.k rfl) rfl) rfl ?_
  show Ev 164 37 [.ref 59, .retAddr 0] [] (uI (uI (uI σ1 59 21 0) 59 43 0) 62 1 0) w
  refine e_iconst d_164_37 ci_0 rfl ?_
  refine e_istore_n (ls2 := [.ref 59, .int 0]) d_164_38 rfl rfl rfl ?_
  exact H
theorem b_164_39 {t : Nat} {σ : Mm} {w : Option Value × Mm} {x1 : Int32} (hS : Sg t σ) 
    (H : (x1 < 2 → (inb x1 2 = true ∧ (inb (2 + x1) 4 = true ∧ (∀ (σ1 : Mm), σ1 = uI (uI σ 63 x1.toNatClampNeg (0 &&& 1)) 64 (2 + x1).toNatClampNeg 0 → Ev 164 39 [.ref 59, .int (x1 + 1)] [] σ1 w)))) ∧ (¬ (x1 < 2) → Ev 164 68 [.ref 59, .int 3] [] σ w)) :
    Ev 164 39 [.ref 59, .int x1] [] σ w := by
  refine e_iload_n d_164_39 rfl rfl ?_
  refine e_iconst d_164_40 ci_2 rfl ?_
  refine e_icmp_ge (t := 66) d_164_41 (by decide) rfl (fun hc => ?_) (fun hc => ?_)
  · replace H := H.2 hc
    refine e_iconst d_164_66 ci_3 rfl ?_
    refine e_istore_n (ls2 := [.ref 59, .int 3]) d_164_67 rfl rfl rfl ?_
    exact H
  · replace H := H.1 hc
    refine e_aload_n d_164_44 rfl rfl ?_
    refine e_getR d_164_45 oo_164 pF_9_23 (by decide) (hS.k rfl) (hS.r rt_59_23) rfl ?_
    refine e_iload_n d_164_48 rfl rfl ?_
    refine e_iconst d_164_49 ci_0 rfl ?_
    obtain ⟨hb, H⟩ := H
    refine e_bastoreZ d_164_50 (okI_no (hS.k rfl)) (okI_at (hS.k rfl) hb) rfl ?_
    refine e_aload_n d_164_51 rfl rfl ?_
    refine e_getR d_164_52 oo_164 pF_9_27 (by decide) (hS.uI.k rfl) (hS.uI.r rt_59_24) rfl ?_
    refine e_iconst d_164_55 ci_2 rfl ?_
    refine e_iload_n d_164_56 rfl rfl ?_
    refine e_iadd d_164_57 rfl ?_
    refine e_iconst d_164_58 ci_0 rfl ?_
    obtain ⟨hb, H⟩ := H
    refine e_iastore d_164_59 (okI_at (hS.uI.k rfl) hb) rfl ?_
    generalize hm2 : uI (uI σ 63 x1.toNatClampNeg (0 &&& 1)) 64 (2 + x1).toNatClampNeg 0 = σ1
    have hS3 : Sg t σ1 := by rw [← hm2]; exact hS.uI.uI
    replace H := H σ1 hm2.symm
    refine e_iinc (ls2 := [.ref 59, .int (x1 + 1)]) d_164_60 rfl ci_1 rfl rfl rfl ?_
    refine e_goto (t := 39) d_164_63 (by decide) ?_
    exact H
theorem b_164_68 {t : Nat} {σ : Mm} {w : Option Value × Mm} {x1 : Int32} (hS : Sg t σ) 
    (H : (x1 < 6 → (inb x1 6 = true ∧ Ev 164 68 [.ref 59, .int (x1 + 1)] [] (uI σ 72 x1.toNatClampNeg (0 &&& 1)) w)) ∧ (¬ (x1 < 6) → (w = (none, σ)))) :
    Ev 164 68 [.ref 59, .int x1] [] σ w := by
  refine e_iload_n d_164_68 rfl rfl ?_
  refine e_bipush d_164_69 cb_6 rfl ?_
  refine e_icmp_ge (t := 87) d_164_71 (by decide) rfl (fun hc => ?_) (fun hc => ?_)
  · replace H := H.2 hc
    subst H
    exact e_vret d_164_87 rr_164
  · replace H := H.1 hc
    refine e_aload_n d_164_74 rfl rfl ?_
    refine e_getR d_164_75 oo_164 pF_9_51 (by decide) (hS.k rfl) (hS.r rt_59_32) rfl ?_
    refine e_iload_n d_164_78 rfl rfl ?_
    refine e_iconst d_164_79 ci_0 rfl ?_
    obtain ⟨hb, H⟩ := H
    refine e_bastoreZ d_164_80 (okI_no (hS.k rfl)) (okI_at (hS.k rfl) hb) rfl ?_
    refine e_iinc (ls2 := [.ref 59, .int (x1 + 1)]) d_164_81 rfl ci_1 rfl rfl rfl ?_
    refine e_goto (t := 68) d_164_84 (by decide) ?_
    exact H
/-! X9_copies -/
theorem b_165_0 {t : Nat} {σ : Mm} {w : Option Value × Mm} {a0 n0 : Nat} {x1 : Int32} (hS : Sg t σ) (h0 : KS[a0]? = some (11, n0))
    (H : Ev 165 2 [.ref a0, .int x1, .int 0] [] σ w) :
    Ev 165 0 [.ref a0, .int x1, .retAddr 0] [] σ w := by
  refine e_iconst d_165_0 ci_0 rfl ?_
  refine e_istore_n (ls2 := [.ref a0, .int x1, .int 0]) d_165_1 rfl rfl rfl ?_
  exact H
theorem b_165_2 {t : Nat} {σ : Mm} {w : Option Value × Mm} {x1 : Int32} {x2 : Int32} {a0 n0 : Nat} (hS : Sg t σ) (h0 : KS[a0]? = some (11, n0))
    (H : (x2 < x1 → (inb (x1 + x2) n0 = true ∧ (inb x2 n0 = true ∧ (∀ (σ1 : Mm), σ1 = uI σ a0 x2.toNatClampNeg (mI σ a0 (x1 + x2).toNatClampNeg) → Ev 165 2 [.ref a0, .int x1, .int (x2 + 1)] [] σ1 w)))) ∧ (¬ (x2 < x1) → (w = (none, σ)))) :
    Ev 165 2 [.ref a0, .int x1, .int x2] [] σ w := by
  refine e_iload_n d_165_2 rfl rfl ?_
  refine e_iload_n d_165_3 rfl rfl ?_
  refine e_icmp_ge (t := 21) d_165_4 (by decide) rfl (fun hc => ?_) (fun hc => ?_)
  · replace H := H.2 hc
    subst H
    exact e_vret d_165_21 rr_165
  · replace H := H.1 hc
    refine e_aload_n d_165_7 rfl rfl ?_
    refine e_iload_n d_165_8 rfl rfl ?_
    refine e_aload_n d_165_9 rfl rfl ?_
    refine e_iload_n d_165_10 rfl rfl ?_
    refine e_iload_n d_165_11 rfl rfl ?_
    refine e_iadd d_165_12 rfl ?_
    obtain ⟨hb, H⟩ := H
    refine e_iaload (v := (mI σ a0 (x1 + x2).toNatClampNeg)) d_165_13 (rdI_at (hS.k h0) hb) rfl ?_
    obtain ⟨hb, H⟩ := H
    refine e_iastore d_165_14 (okI_at (hS.k h0) hb) rfl ?_
    generalize hm2 : uI σ a0 x2.toNatClampNeg (mI σ a0 (x1 + x2).toNatClampNeg) = σ1
    have hS3 : Sg t σ1 := by rw [← hm2]; exact hS.uI
    replace H := H σ1 hm2.symm
    refine e_iinc (ls2 := [.ref a0, .int x1, .int (x2 + 1)]) d_165_15 rfl ci_1 rfl rfl rfl ?_
    refine e_goto (t := 2) d_165_18 (by decide) ?_
    exact H
/-! X9_keepText -/
theorem b_166_0 {t : Nat} {σ : Mm} {w : Option Value × Mm}  (hS : Sg t σ) 
    (H : ∀ (σ1 : Mm), σ1 = uI (uI σ 59 12 (mI σ 59 17)) 59 13 (mI (uI σ 59 12 (mI σ 59 17)) 59 18) → (∀ (σ4 : Mm), σ4 = uI (uI σ1 59 14 (mI σ1 59 19)) 59 15 (mI (uI σ1 59 14 (mI σ1 59 19)) 59 20) → (∀ (σ7 : Mm), σ7 = uI (uI σ4 59 16 (mI σ4 59 21)) 62 0 (mI (uI σ4 59 16 (mI σ4 59 21)) 62 1) → (∃ (σ10 : Mm), Cl 165 [.ref 64, .int 2] σ7 (none, σ10) ∧ Sg t σ10 ∧ (∃ (σ13 : Mm), Cl 165 [.ref 65, .int 14] σ10 (none, σ13) ∧ Sg t σ13 ∧ (∃ (σ16 : Mm), Cl 165 [.ref 66, .int 10] σ13 (none, σ16) ∧ Sg t σ16 ∧ (∃ (σ19 : Mm), Cl 165 [.ref 67, .int 10] σ16 (none, σ19) ∧ Sg t σ19 ∧ Ev 166 87 [.ref 59, .retAddr 0] [] σ19 w))))))) :
    Ev 166 0 [.ref 59, .retAddr 0] [] σ w := by
  refine e_aload_n d_166_0 rfl rfl ?_
  refine e_aload_n d_166_1 rfl rfl ?_
  refine e_getI d_166_2 oo_166 pF_9_204 (by decide) (hS.k rfl) rfl ?_
  refine e_putI d_166_5 oo_166 pF_9_222 (Or.inl rfl) (hS.k rfl) rfl ?_
  refine e_aload_n d_166_8 rfl rfl ?_
  refine e_aload_n d_166_9 rfl rfl ?_
  refine e_getI d_166_10 oo_166 pF_9_207 (by decide) (hS.uI.k rfl) rfl ?_
  refine e_putI d_166_13 oo_166 pF_9_225 (Or.inl rfl) (hS.uI.k rfl) rfl ?_
  generalize hm2 : uI (uI σ 59 12 (mI σ 59 17)) 59 13 (mI (uI σ 59 12 (mI σ 59 17)) 59 18) = σ1
  have hS3 : Sg t σ1 := by rw [← hm2]; exact hS.uI.uI
  replace H := H σ1 hm2.symm
  refine e_aload_n d_166_16 rfl rfl ?_
  refine e_aload_n d_166_17 rfl rfl ?_
  refine e_getI d_166_18 oo_166 pF_9_210 (by decide) (hS3.k rfl) rfl ?_
  refine e_putI d_166_21 oo_166 pF_9_228 (Or.inl rfl) (hS3.k rfl) rfl ?_
  refine e_aload_n d_166_24 rfl rfl ?_
  refine e_aload_n d_166_25 rfl rfl ?_
  refine e_getI d_166_26 oo_166 pF_9_213 (by decide) (hS3.uI.k rfl) rfl ?_
  refine e_putI d_166_29 oo_166 pF_9_231 (Or.inl rfl) (hS3.uI.k rfl) rfl ?_
  generalize hm5 : uI (uI σ1 59 14 (mI σ1 59 19)) 59 15 (mI (uI σ1 59 14 (mI σ1 59 19)) 59 20) = σ4
  have hS6 : Sg t σ4 := by rw [← hm5]; exact hS3.uI.uI
  replace H := H σ4 hm5.symm
  refine e_aload_n d_166_32 rfl rfl ?_
  refine e_aload_n d_166_33 rfl rfl ?_
  refine e_getI d_166_34 oo_166 pF_9_216 (by decide) (hS6.k rfl) rfl ?_
  refine e_putI d_166_37 oo_166 pF_9_234 (Or.inl rfl) (hS6.k rfl) rfl ?_
  refine e_aload_n d_166_40 rfl rfl ?_
  refine e_getR d_166_41 oo_166 pF_9_20 (by decide) (hS6.uI.k rfl) (hS6.uI.r rt_59_22) rfl ?_
  refine e_iconst d_166_44 ci_0 rfl ?_
  refine e_aload_n d_166_45 rfl rfl ?_
  refine e_getR d_166_46 oo_166 pF_9_20 (by decide) (hS6.uI.k rfl) (hS6.uI.r rt_59_22) rfl ?_
  refine e_iconst d_166_49 ci_1 rfl ?_
  refine e_iaload (v := (mI (uI σ4 59 16 (mI σ4 59 21)) 62 1)) d_166_50 (rdI_at (hS6.uI.k rfl) rfl) rfl ?_
  refine e_iastore d_166_51 (okI_at (hS6.uI.k rfl) rfl) rfl ?_
  show Ev 166 52 [.ref 59, .retAddr 0] [] (uI (uI σ4 59 16 (mI σ4 59 21)) 62 0 (mI (uI σ4 59 16 (mI σ4 59 21)) 62 1)) w
  generalize hm8 : uI (uI σ4 59 16 (mI σ4 59 21)) 62 0 (mI (uI σ4 59 16 (mI σ4 59 21)) 62 1) = σ7
  have hS9 : Sg t σ7 := by rw [← hm8]; exact hS6.uI.uI
  replace H := H σ7 hm8.symm
  refine e_aload_n d_166_52 rfl rfl ?_
  refine e_getR d_166_53 oo_166 pF_9_27 (by decide) (hS9.k rfl) (hS9.r rt_59_24) rfl ?_
  refine e_iconst d_166_56 ci_2 rfl ?_
  obtain ⟨σ10, hcl, hS11, H⟩ := H
  refine e_scall (w1 := (none, σ10)) d_166_57 kc_166_57 rfl ⟨Nat.le_of_ble_eq_true rfl, xx_166.symm⟩ rfl hcl ?_
  show Ev 166 60 [.ref 59, .retAddr 0] [] σ10 w
  refine e_aload_n d_166_60 rfl rfl ?_
  refine e_getR d_166_61 oo_166 pF_9_30 (by decide) (hS11.k rfl) (hS11.r rt_59_25) rfl ?_
  refine e_bipush d_166_64 cb_14 rfl ?_
  obtain ⟨σ13, hcl, hS14, H⟩ := H
  refine e_scall (w1 := (none, σ13)) d_166_66 kc_166_66 rfl ⟨Nat.le_of_ble_eq_true rfl, xx_166.symm⟩ rfl hcl ?_
  show Ev 166 69 [.ref 59, .retAddr 0] [] σ13 w
  refine e_aload_n d_166_69 rfl rfl ?_
  refine e_getR d_166_70 oo_166 pF_9_33 (by decide) (hS14.k rfl) (hS14.r rt_59_26) rfl ?_
  refine e_bipush d_166_73 cb_10 rfl ?_
  obtain ⟨σ16, hcl, hS17, H⟩ := H
  refine e_scall (w1 := (none, σ16)) d_166_75 kc_166_75 rfl ⟨Nat.le_of_ble_eq_true rfl, xx_166.symm⟩ rfl hcl ?_
  show Ev 166 78 [.ref 59, .retAddr 0] [] σ16 w
  refine e_aload_n d_166_78 rfl rfl ?_
  refine e_getR d_166_79 oo_166 pF_9_36 (by decide) (hS17.k rfl) (hS17.r rt_59_27) rfl ?_
  refine e_bipush d_166_82 cb_10 rfl ?_
  obtain ⟨σ19, hcl, hS20, H⟩ := H
  refine e_scall (w1 := (none, σ19)) d_166_84 kc_166_84 rfl ⟨Nat.le_of_ble_eq_true rfl, xx_166.symm⟩ rfl hcl ?_
  show Ev 166 87 [.ref 59, .retAddr 0] [] σ19 w
  exact H
theorem b_166_87 {t : Nat} {σ : Mm} {w : Option Value × Mm} {z1 : Value} (hS : Sg t σ) 
    (H : ∃ (σ1 : Mm), Cl 165 [.ref 68, .int 10] σ (none, σ1) ∧ Sg t σ1 ∧ (∃ (σ4 : Mm), Cl 165 [.ref 69, .int 14] σ1 (none, σ4) ∧ Sg t σ4 ∧ (∃ (σ7 : Mm), Cl 165 [.ref 70, .int 14] σ4 (none, σ7) ∧ Sg t σ7 ∧ (∃ (σ10 : Mm), Cl 165 [.ref 71, .int 4] σ7 (none, σ10) ∧ Sg t σ10 ∧ Ev 166 124 [.ref 59, .int 0] [] σ10 w)))) :
    Ev 166 87 [.ref 59, z1] [] σ w := by
  refine e_aload_n d_166_87 rfl rfl ?_
  refine e_getR d_166_88 oo_166 pF_9_39 (by decide) (hS.k rfl) (hS.r rt_59_28) rfl ?_
  refine e_bipush d_166_91 cb_10 rfl ?_
  obtain ⟨σ1, hcl, hS2, H⟩ := H
  refine e_scall (w1 := (none, σ1)) d_166_93 kc_166_93 rfl ⟨Nat.le_of_ble_eq_true rfl, xx_166.symm⟩ rfl hcl ?_
  show Ev 166 96 [.ref 59, z1] [] σ1 w
  refine e_aload_n d_166_96 rfl rfl ?_
  refine e_getR d_166_97 oo_166 pF_9_42 (by decide) (hS2.k rfl) (hS2.r rt_59_29) rfl ?_
  refine e_bipush d_166_100 cb_14 rfl ?_
  obtain ⟨σ4, hcl, hS5, H⟩ := H
  refine e_scall (w1 := (none, σ4)) d_166_102 kc_166_102 rfl ⟨Nat.le_of_ble_eq_true rfl, xx_166.symm⟩ rfl hcl ?_
  show Ev 166 105 [.ref 59, z1] [] σ4 w
  refine e_aload_n d_166_105 rfl rfl ?_
  refine e_getR d_166_106 oo_166 pF_9_45 (by decide) (hS5.k rfl) (hS5.r rt_59_30) rfl ?_
  refine e_bipush d_166_109 cb_14 rfl ?_
  obtain ⟨σ7, hcl, hS8, H⟩ := H
  refine e_scall (w1 := (none, σ7)) d_166_111 kc_166_111 rfl ⟨Nat.le_of_ble_eq_true rfl, xx_166.symm⟩ rfl hcl ?_
  show Ev 166 114 [.ref 59, z1] [] σ7 w
  refine e_aload_n d_166_114 rfl rfl ?_
  refine e_getR d_166_115 oo_166 pF_9_48 (by decide) (hS8.k rfl) (hS8.r rt_59_31) rfl ?_
  refine e_iconst d_166_118 ci_4 rfl ?_
  obtain ⟨σ10, hcl, hS11, H⟩ := H
  refine e_scall (w1 := (none, σ10)) d_166_119 kc_166_119 rfl ⟨Nat.le_of_ble_eq_true rfl, xx_166.symm⟩ rfl hcl ?_
  show Ev 166 122 [.ref 59, z1] [] σ10 w
  refine e_iconst d_166_122 ci_0 rfl ?_
  refine e_istore_n (ls2 := [.ref 59, .int 0]) d_166_123 rfl rfl rfl ?_
  exact H
theorem b_166_124 {t : Nat} {σ : Mm} {w : Option Value × Mm} {x1 : Int32} (hS : Sg t σ) 
    (H : (x1 < 3 → (inb (3 + x1) 6 = true ∧ (inb x1 6 = true ∧ (∀ (σ19 : Mm), σ19 = uI σ 72 x1.toNatClampNeg ((mI σ 72 (3 + x1).toNatClampNeg) &&& 1) → Ev 166 124 [.ref 59, .int (x1 + 1)] [] σ19 w)))) ∧ (¬ (x1 < 3) → (∃ (σ1 : Mm), Cl 165 [.ref 73, .int 3] σ (none, σ1) ∧ Sg t σ1 ∧ (∃ (σ4 : Mm), Cl 165 [.ref 74, .int 3] σ1 (none, σ4) ∧ Sg t σ4 ∧ (∃ (σ7 : Mm), Cl 165 [.ref 75, .int 64] σ4 (none, σ7) ∧ Sg t σ7 ∧ (∃ (σ10 : Mm), Cl 165 [.ref 76, .int 64] σ7 (none, σ10) ∧ Sg t σ10 ∧ (∃ (σ13 : Mm), Cl 165 [.ref 77, .int 64] σ10 (none, σ13) ∧ Sg t σ13 ∧ (∃ (σ16 : Mm), Cl 195 [.ref 59] σ13 (none, σ16) ∧ Sg t σ16 ∧ (w = (none, σ16)))))))))) :
    Ev 166 124 [.ref 59, .int x1] [] σ w := by
  refine e_iload_n d_166_124 rfl rfl ?_
  refine e_iconst d_166_125 ci_3 rfl ?_
  refine e_icmp_ge (t := 149) d_166_126 (by decide) rfl (fun hc => ?_) (fun hc => ?_)
  · replace H := H.2 hc
    refine e_aload_n d_166_149 rfl rfl ?_
    refine e_getR d_166_150 oo_166 pF_9_54 (by decide) (hS.k rfl) (hS.r rt_59_33) rfl ?_
    refine e_iconst d_166_153 ci_3 rfl ?_
    obtain ⟨σ1, hcl, hS2, H⟩ := H
    refine e_scall (w1 := (none, σ1)) d_166_154 kc_166_154 rfl ⟨Nat.le_of_ble_eq_true rfl, xx_166.symm⟩ rfl hcl ?_
    show Ev 166 157 [.ref 59, .int x1] [] σ1 w
    refine e_aload_n d_166_157 rfl rfl ?_
    refine e_getR d_166_158 oo_166 pF_9_57 (by decide) (hS2.k rfl) (hS2.r rt_59_34) rfl ?_
    refine e_iconst d_166_161 ci_3 rfl ?_
    obtain ⟨σ4, hcl, hS5, H⟩ := H
    refine e_scall (w1 := (none, σ4)) d_166_162 kc_166_162 rfl ⟨Nat.le_of_ble_eq_true rfl, xx_166.symm⟩ rfl hcl ?_
    show Ev 166 165 [.ref 59, .int x1] [] σ4 w
    refine e_aload_n d_166_165 rfl rfl ?_
    refine e_getR d_166_166 oo_166 pF_9_60 (by decide) (hS5.k rfl) (hS5.r rt_59_35) rfl ?_
    refine e_bipush d_166_169 cb_64 rfl ?_
    obtain ⟨σ7, hcl, hS8, H⟩ := H
    refine e_scall (w1 := (none, σ7)) d_166_171 kc_166_171 rfl ⟨Nat.le_of_ble_eq_true rfl, xx_166.symm⟩ rfl hcl ?_
    show Ev 166 174 [.ref 59, .int x1] [] σ7 w
    refine e_aload_n d_166_174 rfl rfl ?_
    refine e_getR d_166_175 oo_166 pF_9_63 (by decide) (hS8.k rfl) (hS8.r rt_59_36) rfl ?_
    refine e_bipush d_166_178 cb_64 rfl ?_
    obtain ⟨σ10, hcl, hS11, H⟩ := H
    refine e_scall (w1 := (none, σ10)) d_166_180 kc_166_180 rfl ⟨Nat.le_of_ble_eq_true rfl, xx_166.symm⟩ rfl hcl ?_
    show Ev 166 183 [.ref 59, .int x1] [] σ10 w
    refine e_aload_n d_166_183 rfl rfl ?_
    refine e_getR d_166_184 oo_166 pF_9_66 (by decide) (hS11.k rfl) (hS11.r rt_59_37) rfl ?_
    refine e_bipush d_166_187 cb_64 rfl ?_
    obtain ⟨σ13, hcl, hS14, H⟩ := H
    refine e_scall (w1 := (none, σ13)) d_166_189 kc_166_189 rfl ⟨Nat.le_of_ble_eq_true rfl, xx_166.symm⟩ rfl hcl ?_
    show Ev 166 192 [.ref 59, .int x1] [] σ13 w
    refine e_aload_n d_166_192 rfl rfl ?_
    obtain ⟨σ16, hcl, hS17, H⟩ := H
    refine e_vcall (w1 := (none, σ16)) d_166_193 kc_166_193 rfl ⟨Nat.le_of_ble_eq_true rfl, xx_166.symm⟩ rfl hcl ?_
    show Ev 166 196 [.ref 59, .int x1] [] σ16 w
    subst H
    exact e_vret d_166_196 rr_166
  · replace H := H.1 hc
    refine e_aload_n d_166_129 rfl rfl ?_
    refine e_getR d_166_130 oo_166 pF_9_51 (by decide) (hS.k rfl) (hS.r rt_59_32) rfl ?_
    refine e_iload_n d_166_133 rfl rfl ?_
    refine e_aload_n d_166_134 rfl rfl ?_
    refine e_getR d_166_135 oo_166 pF_9_51 (by decide) (hS.k rfl) (hS.r rt_59_32) rfl ?_
    refine e_iconst d_166_138 ci_3 rfl ?_
    refine e_iload_n d_166_139 rfl rfl ?_
    refine e_iadd d_166_140 rfl ?_
    obtain ⟨hb, H⟩ := H
    refine e_baload (v := (mI σ 72 (3 + x1).toNatClampNeg)) d_166_141 (rdB_at (hS.k rfl) (Or.inr rfl) hb) rfl ?_
    obtain ⟨hb, H⟩ := H
    refine e_bastoreZ d_166_142 (okI_no (hS.k rfl)) (okI_at (hS.k rfl) hb) rfl ?_
    generalize hm20 : uI σ 72 x1.toNatClampNeg ((mI σ 72 (3 + x1).toNatClampNeg) &&& 1) = σ19
    have hS21 : Sg t σ19 := by rw [← hm20]; exact hS.uI
    replace H := H σ19 hm20.symm
    refine e_iinc (ls2 := [.ref 59, .int (x1 + 1)]) d_166_143 rfl ci_1 rfl rfl rfl ?_
    refine e_goto (t := 124) d_166_146 (by decide) ?_
    exact H
/-! X9_find -/
theorem b_167_0 {t : Nat} {σ : Mm} {w : Option Value × Mm} {a0 n0 : Nat} {x1 : Int32} {x2 : Int32} {x3 : Int32} (hS : Sg t σ) (h0 : KS[a0]? = some (11, n0))
    (H : Ev 167 3 [.ref a0, .int x1, .int x2, .int x3, .int 0] [] σ w) :
    Ev 167 0 [.ref a0, .int x1, .int x2, .int x3, .retAddr 0] [] σ w := by
  refine e_iconst d_167_0 ci_0 rfl ?_
  refine e_istore (ls2 := [.ref a0, .int x1, .int x2, .int x3, .int 0]) d_167_1 rfl rfl rfl ?_
  exact H
theorem b_167_3 {t : Nat} {σ : Mm} {w : Option Value × Mm} {x1 : Int32} {x2 : Int32} {x3 : Int32} {x4 : Int32} {a0 n0 : Nat} (hS : Sg t σ) (h0 : KS[a0]? = some (11, n0))
    (H : (x4 < x2 → (inb (x1 + x4) n0 = true ∧ (((mI σ a0 (x1 + x4).toNatClampNeg) = x3 → (w = (some (.int x4), σ))) ∧ (¬ ((mI σ a0 (x1 + x4).toNatClampNeg) = x3) → Ev 167 3 [.ref a0, .int x1, .int x2, .int x3, .int (x4 + 1)] [] σ w)))) ∧ (¬ (x4 < x2) → (w = (some (.int (-1)), σ)))) :
    Ev 167 3 [.ref a0, .int x1, .int x2, .int x3, .int x4] [] σ w := by
  refine e_iload d_167_3 rfl rfl ?_
  refine e_iload_n d_167_5 rfl rfl ?_
  refine e_icmp_ge (t := 28) d_167_6 (by decide) rfl (fun hc => ?_) (fun hc => ?_)
  · replace H := H.2 hc
    refine e_iconst d_167_28 ci_m1 rfl ?_
    subst H
    exact e_iret d_167_29 rr_167
  · replace H := H.1 hc
    refine e_aload_n d_167_9 rfl rfl ?_
    refine e_iload_n d_167_10 rfl rfl ?_
    refine e_iload d_167_11 rfl rfl ?_
    refine e_iadd d_167_13 rfl ?_
    obtain ⟨hb, H⟩ := H
    refine e_iaload (v := (mI σ a0 (x1 + x4).toNatClampNeg)) d_167_14 (rdI_at (hS.k h0) hb) rfl ?_
    refine e_iload_n d_167_15 rfl rfl ?_
    refine e_icmp_ne (t := 22) d_167_16 (by decide) rfl (fun hc => ?_) (fun hc => ?_)
    · replace H := H.2 hc
      refine e_iinc (ls2 := [.ref a0, .int x1, .int x2, .int x3, .int (x4 + 1)]) d_167_22 rfl ci_1 rfl rfl rfl ?_
      refine e_goto (t := 3) d_167_25 (by decide) ?_
      exact H
    · replace H := H.1 hc
      refine e_iload d_167_19 rfl rfl ?_
      subst H
      exact e_iret d_167_21 rr_167
/-! X9_newName -/
theorem b_168_0 {t : Nat} {σ : Mm} {w : Option Value × Mm} {a1 n1 : Nat} {x2 : Int32} {x3 : Int32} (hS : Sg t σ) (h1 : KS[a1]? = some (11, n1))
    (H : ((mI σ 59 8) = 2 → (∃ (v3 : Int32) (σ1 : Mm), Cl 167 [.ref a1, .int x2, .int x3, .int (mI σ 59 9)] σ (some (.int v3), σ1) ∧ Sg t σ1 ∧ ((v3 < 0 → (inb (x2 + x3) n1 = true ∧ (∀ (σ4 : Mm), σ4 = uI σ1 a1 (x2 + x3).toNatClampNeg (mI σ1 59 9) → (∃ (σ7 : Mm), Cl 158 [.ref 59] σ4 (none, σ7) ∧ Sg t σ7 ∧ (w = (some (.int 1), σ7)))))) ∧ (¬ (v3 < 0) → (∃ (v12 : Int32) (σ10 : Mm), Cl 154 [.ref 59, .int 3] σ1 (some (.int v12), σ10) ∧ Sg t σ10 ∧ ((v12 = 0 ∨ v12 = 1) ∧ w = (some (.int v12), σ10))))))) ∧ (¬ ((mI σ 59 8) = 2) → (∃ (v15 : Int32) (σ13 : Mm), Cl 154 [.ref 59, .int 1] σ (some (.int v15), σ13) ∧ Sg t σ13 ∧ ((v15 = 0 ∨ v15 = 1) ∧ w = (some (.int v15), σ13))))) :
    Ev 168 0 [.ref 59, .ref a1, .int x2, .int x3] [] σ w := by
  refine e_aload_n d_168_0 rfl rfl ?_
  refine e_getI d_168_1 oo_168 pF_9_160 (by decide) (hS.k rfl) rfl ?_
  refine e_iconst d_168_4 ci_2 rfl ?_
  refine e_icmp_eq (t := 14) d_168_5 (by decide) rfl (fun hc => ?_) (fun hc => ?_)
  · replace H := H.1 hc
    refine e_aload_n d_168_14 rfl rfl ?_
    refine e_iload_n d_168_15 rfl rfl ?_
    refine e_iload_n d_168_16 rfl rfl ?_
    refine e_aload_n d_168_17 rfl rfl ?_
    refine e_getI d_168_18 oo_168 pF_9_171 (by decide) (hS.k rfl) rfl ?_
    obtain ⟨v3, σ1, hcl, hS2, H⟩ := H
    refine e_scall (w1 := (some (.int v3), σ1)) d_168_21 kc_168_21 rfl ⟨Nat.le_of_ble_eq_true rfl, xx_168.symm⟩ rfl hcl ?_
    show Ev 168 24 [.ref 59, .ref a1, .int x2, .int x3] [.int v3] σ1 w
    refine e_if_lt (t := 33) d_168_24 (by decide) rfl (fun hc => ?_) (fun hc => ?_)
    · replace H := H.1 hc
      refine e_aload_n d_168_33 rfl rfl ?_
      refine e_iload_n d_168_34 rfl rfl ?_
      refine e_iload_n d_168_35 rfl rfl ?_
      refine e_iadd d_168_36 rfl ?_
      refine e_aload_n d_168_37 rfl rfl ?_
      refine e_getI d_168_38 oo_168 pF_9_171 (by decide) (hS2.k rfl) rfl ?_
      obtain ⟨hb, H⟩ := H
      refine e_iastore d_168_41 (okI_at (hS2.k h1) hb) rfl ?_
      generalize hm5 : uI σ1 a1 (x2 + x3).toNatClampNeg (mI σ1 59 9) = σ4
      have hS6 : Sg t σ4 := by rw [← hm5]; exact hS2.uI
      replace H := H σ4 hm5.symm
      refine e_aload_n d_168_42 rfl rfl ?_
      obtain ⟨σ7, hcl, hS8, H⟩ := H
      refine e_vcall (w1 := (none, σ7)) d_168_43 kc_168_43 rfl ⟨Nat.le_of_ble_eq_true rfl, xx_168.symm⟩ rfl hcl ?_
      show Ev 168 46 [.ref 59, .ref a1, .int x2, .int x3] [] σ7 w
      refine e_iconst d_168_46 ci_1 rfl ?_
      subst H
      exact e_zret d_168_47 rr_168 (Or.inr rfl)
    · replace H := H.2 hc
      refine e_aload_n d_168_27 rfl rfl ?_
      refine e_iconst d_168_28 ci_3 rfl ?_
      obtain ⟨v12, σ10, hcl, hS11, H⟩ := H
      refine e_vcall (w1 := (some (.int v12), σ10)) d_168_29 kc_168_29 rfl ⟨Nat.le_of_ble_eq_true rfl, xx_168.symm⟩ rfl hcl ?_
      show Ev 168 32 [.ref 59, .ref a1, .int x2, .int x3] [.int v12] σ10 w
      obtain ⟨hz, H⟩ := H
      subst H
      exact e_zret d_168_32 rr_168 hz
  · replace H := H.2 hc
    refine e_aload_n d_168_8 rfl rfl ?_
    refine e_iconst d_168_9 ci_1 rfl ?_
    obtain ⟨v15, σ13, hcl, hS14, H⟩ := H
    refine e_vcall (w1 := (some (.int v15), σ13)) d_168_10 kc_168_10 rfl ⟨Nat.le_of_ble_eq_true rfl, xx_168.symm⟩ rfl hcl ?_
    show Ev 168 13 [.ref 59, .ref a1, .int x2, .int x3] [.int v15] σ13 w
    obtain ⟨hz, H⟩ := H
    subst H
    exact e_zret d_168_13 rr_168 hz
/-! X9_thereIn -/
theorem b_169_0 {t : Nat} {σ : Mm} {w : Option Value × Mm} {a1 n1 : Nat} {x2 : Int32} {x3 : Int32} (hS : Sg t σ) (h1 : KS[a1]? = some (11, n1))
    (H : ((mI σ 59 8) = 2 → (∃ (v3 : Int32) (σ1 : Mm), Cl 167 [.ref a1, .int x2, .int x3, .int (mI σ 59 9)] σ (some (.int v3), σ1) ∧ Sg t σ1 ∧ ((v3 < 0 → (∃ (v9 : Int32) (σ7 : Mm), Cl 154 [.ref 59, .int 4] σ1 (some (.int v9), σ7) ∧ Sg t σ7 ∧ ((v9 = 0 ∨ v9 = 1) ∧ w = (some (.int v9), σ7)))) ∧ (¬ (v3 < 0) → (∃ (σ4 : Mm), Cl 158 [.ref 59] σ1 (none, σ4) ∧ Sg t σ4 ∧ (w = (some (.int 1), uI σ4 59 11 v3))))))) ∧ (¬ ((mI σ 59 8) = 2) → (∃ (v12 : Int32) (σ10 : Mm), Cl 154 [.ref 59, .int 1] σ (some (.int v12), σ10) ∧ Sg t σ10 ∧ ((v12 = 0 ∨ v12 = 1) ∧ w = (some (.int v12), σ10))))) :
    Ev 169 0 [.ref 59, .ref a1, .int x2, .int x3, .retAddr 0] [] σ w := by
  refine e_aload_n d_169_0 rfl rfl ?_
  refine e_getI d_169_1 oo_169 pF_9_160 (by decide) (hS.k rfl) rfl ?_
  refine e_iconst d_169_4 ci_2 rfl ?_
  refine e_icmp_eq (t := 14) d_169_5 (by decide) rfl (fun hc => ?_) (fun hc => ?_)
  · replace H := H.1 hc
    refine e_aload_n d_169_14 rfl rfl ?_
    refine e_iload_n d_169_15 rfl rfl ?_
    refine e_iload_n d_169_16 rfl rfl ?_
    refine e_aload_n d_169_17 rfl rfl ?_
    refine e_getI d_169_18 oo_169 pF_9_171 (by decide) (hS.k rfl) rfl ?_
    obtain ⟨v3, σ1, hcl, hS2, H⟩ := H
    refine e_scall (w1 := (some (.int v3), σ1)) d_169_21 kc_169_21 rfl ⟨Nat.le_of_ble_eq_true rfl, xx_169.symm⟩ rfl hcl ?_
    show Ev 169 24 [.ref 59, .ref a1, .int x2, .int x3, .retAddr 0] [.int v3] σ1 w
    refine e_istore (ls2 := [.ref 59, .ref a1, .int x2, .int x3, .int v3]) d_169_24 rfl rfl rfl ?_
    refine e_iload d_169_26 rfl rfl ?_
    refine e_if_ge (t := 37) d_169_28 (by decide) rfl (fun hc => ?_) (fun hc => ?_)
    · replace H := H.2 hc
      refine e_aload_n d_169_37 rfl rfl ?_
      obtain ⟨σ4, hcl, hS5, H⟩ := H
      refine e_vcall (w1 := (none, σ4)) d_169_38 kc_169_38 rfl ⟨Nat.le_of_ble_eq_true rfl, xx_169.symm⟩ rfl hcl ?_
      show Ev 169 41 [.ref 59, .ref a1, .int x2, .int x3, .int v3] [] σ4 w
      refine e_aload_n d_169_41 rfl rfl ?_
      refine e_iload d_169_42 rfl rfl ?_
      refine e_putI d_169_44 oo_169 pF_9_191 (Or.inl rfl) (hS5.k rfl) rfl ?_
      refine e_iconst d_169_47 ci_1 rfl ?_
      subst H
      exact e_zret d_169_48 rr_169 (Or.inr rfl)
    · replace H := H.1 hc
      refine e_aload_n d_169_31 rfl rfl ?_
      refine e_iconst d_169_32 ci_4 rfl ?_
      obtain ⟨v9, σ7, hcl, hS8, H⟩ := H
      refine e_vcall (w1 := (some (.int v9), σ7)) d_169_33 kc_169_33 rfl ⟨Nat.le_of_ble_eq_true rfl, xx_169.symm⟩ rfl hcl ?_
      show Ev 169 36 [.ref 59, .ref a1, .int x2, .int x3, .int v3] [.int v9] σ7 w
      obtain ⟨hz, H⟩ := H
      subst H
      exact e_zret d_169_36 rr_169 hz
  · replace H := H.2 hc
    refine e_aload_n d_169_8 rfl rfl ?_
    refine e_iconst d_169_9 ci_1 rfl ?_
    obtain ⟨v12, σ10, hcl, hS11, H⟩ := H
    refine e_vcall (w1 := (some (.int v12), σ10)) d_169_10 kc_169_10 rfl ⟨Nat.le_of_ble_eq_true rfl, xx_169.symm⟩ rfl hcl ?_
    show Ev 169 13 [.ref 59, .ref a1, .int x2, .int x3, .retAddr 0] [.int v12] σ10 w
    obtain ⟨hz, H⟩ := H
    subst H
    exact e_zret d_169_13 rr_169 hz
/-! X9_lampLine -/
theorem b_170_0 {t : Nat} {σ : Mm} {w : Option Value × Mm}  (hS : Sg t σ) 
    (H : ((mI σ 59 17) = 14 → (∃ (v9 : Int32) (σ7 : Mm), Cl 154 [.ref 59, .int 2] σ (some (.int v9), σ7) ∧ Sg t σ7 ∧ ((v9 = 0 ∨ v9 = 1) ∧ w = (some (.int v9), σ7)))) ∧ (¬ ((mI σ 59 17) = 14) → (∃ (σ1 : Mm), Cl 158 [.ref 59] σ (none, σ1) ∧ Sg t σ1 ∧ (∃ (v6 : Int32) (σ4 : Mm), Cl 168 [.ref 59, .ref 65, .int 14, .int (mI σ1 59 17)] σ1 (some (.int v6), σ4) ∧ Sg t σ4 ∧ ((v6 = 0 → (w = (some (.int 0), σ4))) ∧ (¬ (v6 = 0) → (w = (some (.int 1), uI σ4 59 17 ((mI σ4 59 17) + 1))))))))) :
    Ev 170 0 [.ref 59] [] σ w := by
  refine e_aload_n d_170_0 rfl rfl ?_
  refine e_getI d_170_1 oo_170 pF_9_204 (by decide) (hS.k rfl) rfl ?_
  refine e_bipush d_170_4 cb_14 rfl ?_
  refine e_icmp_ne (t := 15) d_170_6 (by decide) rfl (fun hc => ?_) (fun hc => ?_)
  · replace H := H.2 hc
    refine e_aload_n d_170_15 rfl rfl ?_
    obtain ⟨σ1, hcl, hS2, H⟩ := H
    refine e_vcall (w1 := (none, σ1)) d_170_16 kc_170_16 rfl ⟨Nat.le_of_ble_eq_true rfl, xx_170.symm⟩ rfl hcl ?_
    show Ev 170 19 [.ref 59] [] σ1 w
    refine e_aload_n d_170_19 rfl rfl ?_
    refine e_aload_n d_170_20 rfl rfl ?_
    refine e_getR d_170_21 oo_170 pF_9_30 (by decide) (hS2.k rfl) (hS2.r rt_59_25) rfl ?_
    refine e_bipush d_170_24 cb_14 rfl ?_
    refine e_aload_n d_170_26 rfl rfl ?_
    refine e_getI d_170_27 oo_170 pF_9_204 (by decide) (hS2.k rfl) rfl ?_
    obtain ⟨v6, σ4, hcl, hS5, H⟩ := H
    refine e_vcall (w1 := (some (.int v6), σ4)) d_170_30 kc_170_30 rfl ⟨Nat.le_of_ble_eq_true rfl, xx_170.symm⟩ rfl hcl ?_
    show Ev 170 33 [.ref 59] [.int v6] σ4 w
    refine e_if_ne (t := 38) d_170_33 (by decide) rfl (fun hc => ?_) (fun hc => ?_)
    · replace H := H.2 hc
      refine e_aload_n d_170_38 rfl rfl ?_
      refine e_dup d_170_39 rfl rfl ?_
      refine e_getI d_170_40 oo_170 pF_9_204 (by decide) (hS5.k rfl) rfl ?_
      refine e_iconst d_170_43 ci_1 rfl ?_
      refine e_iadd d_170_44 rfl ?_
      refine e_putI d_170_45 oo_170 pF_9_204 (Or.inl rfl) (hS5.k rfl) rfl ?_
      refine e_iconst d_170_48 ci_1 rfl ?_
      subst H
      exact e_zret d_170_49 rr_170 (Or.inr rfl)
    · replace H := H.1 hc
      refine e_iconst d_170_36 ci_0 rfl ?_
      subst H
      exact e_zret d_170_37 rr_170 (Or.inl rfl)
  · replace H := H.1 hc
    refine e_aload_n d_170_9 rfl rfl ?_
    refine e_iconst d_170_10 ci_2 rfl ?_
    obtain ⟨v9, σ7, hcl, hS8, H⟩ := H
    refine e_vcall (w1 := (some (.int v9), σ7)) d_170_11 kc_170_11 rfl ⟨Nat.le_of_ble_eq_true rfl, xx_170.symm⟩ rfl hcl ?_
    show Ev 170 14 [.ref 59] [.int v9] σ7 w
    obtain ⟨hz, H⟩ := H
    subst H
    exact e_zret d_170_14 rr_170 hz
/-! X9_lampFor -/
theorem b_171_0 {t : Nat} {σ : Mm} {w : Option Value × Mm} {x1 : Int32} (hS : Sg t σ) 
    (H : ∃ (v3 : Int32) (σ1 : Mm), Cl 169 [.ref 59, .ref 65, .int 14, .int (mI σ 59 17)] σ (some (.int v3), σ1) ∧ Sg t σ1 ∧ ((v3 = 0 → (w = (some (.int 0), σ1))) ∧ (¬ (v3 = 0) → (∃ (v6 : Int32) (σ4 : Mm), Cl 153 [.int x1, .int (mI σ1 59 11)] σ1 (some (.int v6), σ4) ∧ Sg t σ4 ∧ ((v6 = 0 → (w = (some (.int 1), σ4))) ∧ (¬ (v6 = 0) → (∃ (v9 : Int32) (σ7 : Mm), Cl 154 [.ref 59, .int 3] (uI σ4 59 10 (mI σ 59 10)) (some (.int v9), σ7) ∧ Sg t σ7 ∧ ((v9 = 0 ∨ v9 = 1) ∧ w = (some (.int v9), σ7))))))))) :
    Ev 171 0 [.ref 59, .int x1, .retAddr 0] [] σ w := by
  refine e_aload_n d_171_0 rfl rfl ?_
  refine e_getI d_171_1 oo_171 pF_9_151 (by decide) (hS.k rfl) rfl ?_
  refine e_istore_n (ls2 := [.ref 59, .int x1, .int (mI σ 59 10)]) d_171_4 rfl rfl rfl ?_
  refine e_aload_n d_171_5 rfl rfl ?_
  refine e_aload_n d_171_6 rfl rfl ?_
  refine e_getR d_171_7 oo_171 pF_9_30 (by decide) (hS.k rfl) (hS.r rt_59_25) rfl ?_
  refine e_bipush d_171_10 cb_14 rfl ?_
  refine e_aload_n d_171_12 rfl rfl ?_
  refine e_getI d_171_13 oo_171 pF_9_204 (by decide) (hS.k rfl) rfl ?_
  obtain ⟨v3, σ1, hcl, hS2, H⟩ := H
  refine e_vcall (w1 := (some (.int v3), σ1)) d_171_16 kc_171_16 rfl ⟨Nat.le_of_ble_eq_true rfl, xx_171.symm⟩ rfl hcl ?_
  show Ev 171 19 [.ref 59, .int x1, .int (mI σ 59 10)] [.int v3] σ1 w
  refine e_if_ne (t := 24) d_171_19 (by decide) rfl (fun hc => ?_) (fun hc => ?_)
  · replace H := H.2 hc
    refine e_iload_n d_171_24 rfl rfl ?_
    refine e_aload_n d_171_25 rfl rfl ?_
    refine e_getI d_171_26 oo_171 pF_9_191 (by decide) (hS2.k rfl) rfl ?_
    obtain ⟨v6, σ4, hcl, hS5, H⟩ := H
    refine e_scall (w1 := (some (.int v6), σ4)) d_171_29 kc_171_29 rfl ⟨Nat.le_of_ble_eq_true rfl, xx_171.symm⟩ rfl hcl ?_
    show Ev 171 32 [.ref 59, .int x1, .int (mI σ 59 10)] [.int v6] σ4 w
    refine e_if_ne (t := 37) d_171_32 (by decide) rfl (fun hc => ?_) (fun hc => ?_)
    · replace H := H.2 hc
      refine e_aload_n d_171_37 rfl rfl ?_
      refine e_iload_n d_171_38 rfl rfl ?_
      refine e_putI d_171_39 oo_171 pF_9_151 (Or.inl rfl) (hS5.k rfl) rfl ?_
      refine e_aload_n d_171_42 rfl rfl ?_
      refine e_iconst d_171_43 ci_3 rfl ?_
      obtain ⟨v9, σ7, hcl, hS8, H⟩ := H
      refine e_vcall (w1 := (some (.int v9), σ7)) d_171_44 kc_171_44 rfl ⟨Nat.le_of_ble_eq_true rfl, xx_171.symm⟩ rfl hcl ?_
      show Ev 171 47 [.ref 59, .int x1, .int (mI σ 59 10)] [.int v9] σ7 w
      obtain ⟨hz, H⟩ := H
      subst H
      exact e_zret d_171_47 rr_171 hz
    · replace H := H.1 hc
      refine e_iconst d_171_35 ci_1 rfl ?_
      subst H
      exact e_zret d_171_36 rr_171 (Or.inr rfl)
  · replace H := H.1 hc
    refine e_iconst d_171_22 ci_0 rfl ?_
    subst H
    exact e_zret d_171_23 rr_171 (Or.inl rfl)
/-! X9_pullLine -/
theorem b_172_0 {t : Nat} {σ : Mm} {w : Option Value × Mm}  (hS : Sg t σ) 
    (H : ((mI σ 59 18) = 10 → (∃ (v18 : Int32) (σ16 : Mm), Cl 154 [.ref 59, .int 2] σ (some (.int v18), σ16) ∧ Sg t σ16 ∧ ((v18 = 0 ∨ v18 = 1) ∧ w = (some (.int v18), σ16)))) ∧ (¬ ((mI σ 59 18) = 10) → (∃ (σ1 : Mm), Cl 158 [.ref 59] σ (none, σ1) ∧ Sg t σ1 ∧ (∃ (v6 : Int32) (σ4 : Mm), Cl 168 [.ref 59, .ref 66, .int 10, .int (mI σ1 59 18)] σ1 (some (.int v6), σ4) ∧ Sg t σ4 ∧ ((v6 = 0 → (w = (some (.int 0), σ4))) ∧ (¬ (v6 = 0) → (∃ (v9 : Int32) (σ7 : Mm), Cl 163 [.ref 59, .int 0, .int 99] σ4 (some (.int v9), σ7) ∧ Sg t σ7 ∧ ((v9 = 0 → (w = (some (.int 0), σ7))) ∧ (¬ (v9 = 0) → (inb (10 + (mI σ4 59 18)) 20 = true ∧ (∀ (σ10 : Mm), σ10 = uI σ7 67 (10 + (mI σ4 59 18)).toNatClampNeg (mI σ7 59 11) → (inb (10 + (mI σ4 59 18)) 20 = true ∧ (∀ (σ13 : Mm), σ13 = uI σ10 68 (10 + (mI σ4 59 18)).toNatClampNeg 0 → Ev 172 75 [.ref 59, .int (10 + (mI σ4 59 18))] [] σ13 w))))))))))))) :
    Ev 172 0 [.ref 59, .retAddr 0] [] σ w := by
  refine e_aload_n d_172_0 rfl rfl ?_
  refine e_getI d_172_1 oo_172 pF_9_207 (by decide) (hS.k rfl) rfl ?_
  refine e_bipush d_172_4 cb_10 rfl ?_
  refine e_icmp_ne (t := 15) d_172_6 (by decide) rfl (fun hc => ?_) (fun hc => ?_)
  · replace H := H.2 hc
    refine e_aload_n d_172_15 rfl rfl ?_
    obtain ⟨σ1, hcl, hS2, H⟩ := H
    refine e_vcall (w1 := (none, σ1)) d_172_16 kc_172_16 rfl ⟨Nat.le_of_ble_eq_true rfl, xx_172.symm⟩ rfl hcl ?_
    show Ev 172 19 [.ref 59, .retAddr 0] [] σ1 w
    refine e_aload_n d_172_19 rfl rfl ?_
    refine e_aload_n d_172_20 rfl rfl ?_
    refine e_getR d_172_21 oo_172 pF_9_33 (by decide) (hS2.k rfl) (hS2.r rt_59_26) rfl ?_
    refine e_bipush d_172_24 cb_10 rfl ?_
    refine e_aload_n d_172_26 rfl rfl ?_
    refine e_getI d_172_27 oo_172 pF_9_207 (by decide) (hS2.k rfl) rfl ?_
    obtain ⟨v6, σ4, hcl, hS5, H⟩ := H
    refine e_vcall (w1 := (some (.int v6), σ4)) d_172_30 kc_172_30 rfl ⟨Nat.le_of_ble_eq_true rfl, xx_172.symm⟩ rfl hcl ?_
    show Ev 172 33 [.ref 59, .retAddr 0] [.int v6] σ4 w
    refine e_if_ne (t := 38) d_172_33 (by decide) rfl (fun hc => ?_) (fun hc => ?_)
    · replace H := H.2 hc
      refine e_bipush d_172_38 cb_10 rfl ?_
      refine e_aload_n d_172_40 rfl rfl ?_
      refine e_getI d_172_41 oo_172 pF_9_207 (by decide) (hS5.k rfl) rfl ?_
      refine e_iadd d_172_44 rfl ?_
      refine e_istore_n (ls2 := [.ref 59, .int (10 + (mI σ4 59 18))]) d_172_45 rfl rfl rfl ?_
      refine e_aload_n d_172_46 rfl rfl ?_
      refine e_iconst d_172_47 ci_0 rfl ?_
      refine e_bipush d_172_48 cb_99 rfl ?_
      obtain ⟨v9, σ7, hcl, hS8, H⟩ := H
      refine e_vcall (w1 := (some (.int v9), σ7)) d_172_50 kc_172_50 rfl ⟨Nat.le_of_ble_eq_true rfl, xx_172.symm⟩ rfl hcl ?_
      show Ev 172 53 [.ref 59, .int (10 + (mI σ4 59 18))] [.int v9] σ7 w
      refine e_if_ne (t := 58) d_172_53 (by decide) rfl (fun hc => ?_) (fun hc => ?_)
      · replace H := H.2 hc
        refine e_aload_n d_172_58 rfl rfl ?_
        refine e_getR d_172_59 oo_172 pF_9_36 (by decide) (hS8.k rfl) (hS8.r rt_59_27) rfl ?_
        refine e_iload_n d_172_62 rfl rfl ?_
        refine e_aload_n d_172_63 rfl rfl ?_
        refine e_getI d_172_64 oo_172 pF_9_191 (by decide) (hS8.k rfl) rfl ?_
        obtain ⟨hb, H⟩ := H
        refine e_iastore d_172_67 (okI_at (hS8.k rfl) hb) rfl ?_
        generalize hm11 : uI σ7 67 (10 + (mI σ4 59 18)).toNatClampNeg (mI σ7 59 11) = σ10
        have hS12 : Sg t σ10 := by rw [← hm11]; exact hS8.uI
        replace H := H σ10 hm11.symm
        refine e_aload_n d_172_68 rfl rfl ?_
        refine e_getR d_172_69 oo_172 pF_9_39 (by decide) (hS12.k rfl) (hS12.r rt_59_28) rfl ?_
        refine e_iload_n d_172_72 rfl rfl ?_
        refine e_iconst d_172_73 ci_0 rfl ?_
        obtain ⟨hb, H⟩ := H
        refine e_iastore d_172_74 (okI_at (hS12.k rfl) hb) rfl ?_
        generalize hm14 : uI σ10 68 (10 + (mI σ4 59 18)).toNatClampNeg 0 = σ13
        have hS15 : Sg t σ13 := by rw [← hm14]; exact hS12.uI
        replace H := H σ13 hm14.symm
        exact H
      · replace H := H.1 hc
        refine e_iconst d_172_56 ci_0 rfl ?_
        subst H
        exact e_zret d_172_57 rr_172 (Or.inl rfl)
    · replace H := H.1 hc
      refine e_iconst d_172_36 ci_0 rfl ?_
      subst H
      exact e_zret d_172_37 rr_172 (Or.inl rfl)
  · replace H := H.1 hc
    refine e_aload_n d_172_9 rfl rfl ?_
    refine e_iconst d_172_10 ci_2 rfl ?_
    obtain ⟨v18, σ16, hcl, hS17, H⟩ := H
    refine e_vcall (w1 := (some (.int v18), σ16)) d_172_11 kc_172_11 rfl ⟨Nat.le_of_ble_eq_true rfl, xx_172.symm⟩ rfl hcl ?_
    show Ev 172 14 [.ref 59, .retAddr 0] [.int v18] σ16 w
    obtain ⟨hz, H⟩ := H
    subst H
    exact e_zret d_172_14 rr_172 hz
theorem b_172_75 {t : Nat} {σ : Mm} {w : Option Value × Mm} {x1 : Int32} (hS : Sg t σ) 
    (H : ((mI σ 59 8) = 2 → (inb x1 20 = true ∧ (∃ (v3 : Int32) (σ1 : Mm), Cl 171 [.ref 59, .int (mI σ 68 x1.toNatClampNeg)] σ (some (.int v3), σ1) ∧ Sg t σ1 ∧ ((v3 = 0 → (w = (some (.int 0), σ1))) ∧ (¬ (v3 = 0) → (inb x1 20 = true ∧ (inb x1 20 = true ∧ (∀ (σ4 : Mm), σ4 = uI σ1 68 x1.toNatClampNeg ((mI σ1 68 x1.toNatClampNeg) ||| ((1 : Int32) <<< ((mI σ1 59 11) &&& 31))) → Ev 172 75 [.ref 59, .int x1] [] σ4 w)))))))) ∧ (¬ ((mI σ 59 8) = 2) → (w = (some (.int 1), uI σ 59 18 ((mI σ 59 18) + 1))))) :
    Ev 172 75 [.ref 59, .int x1] [] σ w := by
  refine e_aload_n d_172_75 rfl rfl ?_
  refine e_getI d_172_76 oo_172 pF_9_160 (by decide) (hS.k rfl) rfl ?_
  refine e_iconst d_172_79 ci_2 rfl ?_
  refine e_icmp_ne (t := 116) d_172_80 (by decide) rfl (fun hc => ?_) (fun hc => ?_)
  · replace H := H.2 hc
    refine e_aload_n d_172_116 rfl rfl ?_
    refine e_dup d_172_117 rfl rfl ?_
    refine e_getI d_172_118 oo_172 pF_9_207 (by decide) (hS.k rfl) rfl ?_
    refine e_iconst d_172_121 ci_1 rfl ?_
    refine e_iadd d_172_122 rfl ?_
    refine e_putI d_172_123 oo_172 pF_9_207 (Or.inl rfl) (hS.k rfl) rfl ?_
    refine e_iconst d_172_126 ci_1 rfl ?_
    subst H
    exact e_zret d_172_127 rr_172 (Or.inr rfl)
  · replace H := H.1 hc
    refine e_aload_n d_172_83 rfl rfl ?_
    refine e_aload_n d_172_84 rfl rfl ?_
    refine e_getR d_172_85 oo_172 pF_9_39 (by decide) (hS.k rfl) (hS.r rt_59_28) rfl ?_
    refine e_iload_n d_172_88 rfl rfl ?_
    obtain ⟨hb, H⟩ := H
    refine e_iaload (v := (mI σ 68 x1.toNatClampNeg)) d_172_89 (rdI_at (hS.k rfl) hb) rfl ?_
    obtain ⟨v3, σ1, hcl, hS2, H⟩ := H
    refine e_vcall (w1 := (some (.int v3), σ1)) d_172_90 kc_172_90 rfl ⟨Nat.le_of_ble_eq_true rfl, xx_172.symm⟩ rfl hcl ?_
    show Ev 172 93 [.ref 59, .int x1] [.int v3] σ1 w
    refine e_if_ne (t := 98) d_172_93 (by decide) rfl (fun hc => ?_) (fun hc => ?_)
    · replace H := H.2 hc
      refine e_aload_n d_172_98 rfl rfl ?_
      refine e_getR d_172_99 oo_172 pF_9_39 (by decide) (hS2.k rfl) (hS2.r rt_59_28) rfl ?_
      refine e_iload_n d_172_102 rfl rfl ?_
      refine e_dup2 d_172_103 rfl rfl ?_
      obtain ⟨hb, H⟩ := H
      refine e_iaload (v := (mI σ1 68 x1.toNatClampNeg)) d_172_104 (rdI_at (hS2.k rfl) hb) rfl ?_
      refine e_iconst d_172_105 ci_1 rfl ?_
      refine e_aload_n d_172_106 rfl rfl ?_
      refine e_getI d_172_107 oo_172 pF_9_191 (by decide) (hS2.k rfl) rfl ?_
      refine e_ishl d_172_110 rfl ?_
      refine e_ior d_172_111 rfl ?_
      obtain ⟨hb, H⟩ := H
      refine e_iastore d_172_112 (okI_at (hS2.k rfl) hb) rfl ?_
      generalize hm5 : uI σ1 68 x1.toNatClampNeg ((mI σ1 68 x1.toNatClampNeg) ||| ((1 : Int32) <<< ((mI σ1 59 11) &&& 31))) = σ4
      have hS6 : Sg t σ4 := by rw [← hm5]; exact hS2.uI
      replace H := H σ4 hm5.symm
      refine e_goto (t := 75) d_172_113 (by decide) ?_
      exact H
    · replace H := H.1 hc
      refine e_iconst d_172_96 ci_0 rfl ?_
      subst H
      exact e_zret d_172_97 rr_172 (Or.inl rfl)
/-! X9_litLine -/
theorem b_173_0 {t : Nat} {σ : Mm} {w : Option Value × Mm}  (hS : Sg t σ) 
    (H : ∃ (σ1 : Mm), Cl 158 [.ref 59] σ (none, σ1) ∧ Sg t σ1 ∧ (∃ (v6 : Int32) (σ4 : Mm), Cl 171 [.ref 59, .int (mI σ1 62 1)] σ1 (some (.int v6), σ4) ∧ Sg t σ4 ∧ ((v6 = 0 → (w = (some (.int 0), σ4))) ∧ (¬ (v6 = 0) → (∀ (σ7 : Mm), σ7 = uI σ4 62 1 ((mI σ4 62 1) ||| ((1 : Int32) <<< ((mI σ4 59 11) &&& 31))) → (w = (some (.int 1), σ7))))))) :
    Ev 173 0 [.ref 59] [] σ w := by
  refine e_aload_n d_173_0 rfl rfl ?_
  obtain ⟨σ1, hcl, hS2, H⟩ := H
  refine e_vcall (w1 := (none, σ1)) d_173_1 kc_173_1 rfl ⟨Nat.le_of_ble_eq_true rfl, xx_173.symm⟩ rfl hcl ?_
  show Ev 173 4 [.ref 59] [] σ1 w
  refine e_aload_n d_173_4 rfl rfl ?_
  refine e_aload_n d_173_5 rfl rfl ?_
  refine e_getR d_173_6 oo_173 pF_9_20 (by decide) (hS2.k rfl) (hS2.r rt_59_22) rfl ?_
  refine e_iconst d_173_9 ci_1 rfl ?_
  refine e_iaload (v := (mI σ1 62 1)) d_173_10 (rdI_at (hS2.k rfl) rfl) rfl ?_
  obtain ⟨v6, σ4, hcl, hS5, H⟩ := H
  refine e_vcall (w1 := (some (.int v6), σ4)) d_173_11 kc_173_11 rfl ⟨Nat.le_of_ble_eq_true rfl, xx_173.symm⟩ rfl hcl ?_
  show Ev 173 14 [.ref 59] [.int v6] σ4 w
  refine e_if_ne (t := 19) d_173_14 (by decide) rfl (fun hc => ?_) (fun hc => ?_)
  · replace H := H.2 hc
    refine e_aload_n d_173_19 rfl rfl ?_
    refine e_getR d_173_20 oo_173 pF_9_20 (by decide) (hS5.k rfl) (hS5.r rt_59_22) rfl ?_
    refine e_iconst d_173_23 ci_1 rfl ?_
    refine e_dup2 d_173_24 rfl rfl ?_
    refine e_iaload (v := (mI σ4 62 1)) d_173_25 (rdI_at (hS5.k rfl) rfl) rfl ?_
    refine e_iconst d_173_26 ci_1 rfl ?_
    refine e_aload_n d_173_27 rfl rfl ?_
    refine e_getI d_173_28 oo_173 pF_9_191 (by decide) (hS5.k rfl) rfl ?_
    refine e_ishl d_173_31 rfl ?_
    refine e_ior d_173_32 rfl ?_
    refine e_iastore d_173_33 (okI_at (hS5.k rfl) rfl) rfl ?_
    show Ev 173 34 [.ref 59] [] (uI σ4 62 1 ((mI σ4 62 1) ||| ((1 : Int32) <<< ((mI σ4 59 11) &&& 31)))) w
    generalize hm8 : uI σ4 62 1 ((mI σ4 62 1) ||| ((1 : Int32) <<< ((mI σ4 59 11) &&& 31))) = σ7
    have hS9 : Sg t σ7 := by rw [← hm8]; exact hS5.uI
    replace H := H σ7 hm8.symm
    refine e_iconst d_173_34 ci_1 rfl ?_
    subst H
    exact e_zret d_173_35 rr_173 (Or.inr rfl)
  · replace H := H.1 hc
    refine e_iconst d_173_17 ci_0 rfl ?_
    subst H
    exact e_zret d_173_18 rr_173 (Or.inl rfl)
/-! X9_ringLine -/
theorem b_174_0 {t : Nat} {σ : Mm} {w : Option Value × Mm}  (hS : Sg t σ) 
    (H : ((mI σ 59 19) = 14 → (∃ (v18 : Int32) (σ16 : Mm), Cl 154 [.ref 59, .int 2] σ (some (.int v18), σ16) ∧ Sg t σ16 ∧ ((v18 = 0 ∨ v18 = 1) ∧ w = (some (.int v18), σ16)))) ∧ (¬ ((mI σ 59 19) = 14) → (∃ (σ1 : Mm), Cl 158 [.ref 59] σ (none, σ1) ∧ Sg t σ1 ∧ (∃ (v6 : Int32) (σ4 : Mm), Cl 169 [.ref 59, .ref 66, .int 10, .int (mI σ1 59 18)] σ1 (some (.int v6), σ4) ∧ Sg t σ4 ∧ ((v6 = 0 → (w = (some (.int 0), σ4))) ∧ (¬ (v6 = 0) → (inb (14 + (mI σ1 59 19)) 28 = true ∧ (∀ (σ7 : Mm), σ7 = uI σ4 69 (14 + (mI σ1 59 19)).toNatClampNeg (mI σ4 59 11) → (∃ (v12 : Int32) (σ10 : Mm), Cl 163 [.ref 59, .int 0, .int 99] σ7 (some (.int v12), σ10) ∧ Sg t σ10 ∧ ((v12 = 0 → (w = (some (.int 0), σ10))) ∧ (¬ (v12 = 0) → (inb (14 + (mI σ1 59 19)) 28 = true ∧ (∀ (σ13 : Mm), σ13 = uI σ10 70 (14 + (mI σ1 59 19)).toNatClampNeg (mI σ10 59 11) → (w = (some (.int 1), uI σ13 59 19 ((mI σ13 59 19) + 1)))))))))))))))) :
    Ev 174 0 [.ref 59, .retAddr 0] [] σ w := by
  refine e_aload_n d_174_0 rfl rfl ?_
  refine e_getI d_174_1 oo_174 pF_9_210 (by decide) (hS.k rfl) rfl ?_
  refine e_bipush d_174_4 cb_14 rfl ?_
  refine e_icmp_ne (t := 15) d_174_6 (by decide) rfl (fun hc => ?_) (fun hc => ?_)
  · replace H := H.2 hc
    refine e_aload_n d_174_15 rfl rfl ?_
    obtain ⟨σ1, hcl, hS2, H⟩ := H
    refine e_vcall (w1 := (none, σ1)) d_174_16 kc_174_16 rfl ⟨Nat.le_of_ble_eq_true rfl, xx_174.symm⟩ rfl hcl ?_
    show Ev 174 19 [.ref 59, .retAddr 0] [] σ1 w
    refine e_bipush d_174_19 cb_14 rfl ?_
    refine e_aload_n d_174_21 rfl rfl ?_
    refine e_getI d_174_22 oo_174 pF_9_210 (by decide) (hS2.k rfl) rfl ?_
    refine e_iadd d_174_25 rfl ?_
    refine e_istore_n (ls2 := [.ref 59, .int (14 + (mI σ1 59 19))]) d_174_26 rfl rfl rfl ?_
    refine e_aload_n d_174_27 rfl rfl ?_
    refine e_aload_n d_174_28 rfl rfl ?_
    refine e_getR d_174_29 oo_174 pF_9_33 (by decide) (hS2.k rfl) (hS2.r rt_59_26) rfl ?_
    refine e_bipush d_174_32 cb_10 rfl ?_
    refine e_aload_n d_174_34 rfl rfl ?_
    refine e_getI d_174_35 oo_174 pF_9_207 (by decide) (hS2.k rfl) rfl ?_
    obtain ⟨v6, σ4, hcl, hS5, H⟩ := H
    refine e_vcall (w1 := (some (.int v6), σ4)) d_174_38 kc_174_38 rfl ⟨Nat.le_of_ble_eq_true rfl, xx_174.symm⟩ rfl hcl ?_
    show Ev 174 41 [.ref 59, .int (14 + (mI σ1 59 19))] [.int v6] σ4 w
    refine e_if_ne (t := 46) d_174_41 (by decide) rfl (fun hc => ?_) (fun hc => ?_)
    · replace H := H.2 hc
      refine e_aload_n d_174_46 rfl rfl ?_
      refine e_getR d_174_47 oo_174 pF_9_42 (by decide) (hS5.k rfl) (hS5.r rt_59_29) rfl ?_
      refine e_iload_n d_174_50 rfl rfl ?_
      refine e_aload_n d_174_51 rfl rfl ?_
      refine e_getI d_174_52 oo_174 pF_9_191 (by decide) (hS5.k rfl) rfl ?_
      obtain ⟨hb, H⟩ := H
      refine e_iastore d_174_55 (okI_at (hS5.k rfl) hb) rfl ?_
      generalize hm8 : uI σ4 69 (14 + (mI σ1 59 19)).toNatClampNeg (mI σ4 59 11) = σ7
      have hS9 : Sg t σ7 := by rw [← hm8]; exact hS5.uI
      replace H := H σ7 hm8.symm
      refine e_aload_n d_174_56 rfl rfl ?_
      refine e_iconst d_174_57 ci_0 rfl ?_
      refine e_bipush d_174_58 cb_99 rfl ?_
      obtain ⟨v12, σ10, hcl, hS11, H⟩ := H
      refine e_vcall (w1 := (some (.int v12), σ10)) d_174_60 kc_174_60 rfl ⟨Nat.le_of_ble_eq_true rfl, xx_174.symm⟩ rfl hcl ?_
      show Ev 174 63 [.ref 59, .int (14 + (mI σ1 59 19))] [.int v12] σ10 w
      refine e_if_ne (t := 68) d_174_63 (by decide) rfl (fun hc => ?_) (fun hc => ?_)
      · replace H := H.2 hc
        refine e_aload_n d_174_68 rfl rfl ?_
        refine e_getR d_174_69 oo_174 pF_9_45 (by decide) (hS11.k rfl) (hS11.r rt_59_30) rfl ?_
        refine e_iload_n d_174_72 rfl rfl ?_
        refine e_aload_n d_174_73 rfl rfl ?_
        refine e_getI d_174_74 oo_174 pF_9_191 (by decide) (hS11.k rfl) rfl ?_
        obtain ⟨hb, H⟩ := H
        refine e_iastore d_174_77 (okI_at (hS11.k rfl) hb) rfl ?_
        generalize hm14 : uI σ10 70 (14 + (mI σ1 59 19)).toNatClampNeg (mI σ10 59 11) = σ13
        have hS15 : Sg t σ13 := by rw [← hm14]; exact hS11.uI
        replace H := H σ13 hm14.symm
        refine e_aload_n d_174_78 rfl rfl ?_
        refine e_dup d_174_79 rfl rfl ?_
        refine e_getI d_174_80 oo_174 pF_9_210 (by decide) (hS15.k rfl) rfl ?_
        refine e_iconst d_174_83 ci_1 rfl ?_
        refine e_iadd d_174_84 rfl ?_
        refine e_putI d_174_85 oo_174 pF_9_210 (Or.inl rfl) (hS15.k rfl) rfl ?_
        refine e_iconst d_174_88 ci_1 rfl ?_
        subst H
        exact e_zret d_174_89 rr_174 (Or.inr rfl)
      · replace H := H.1 hc
        refine e_iconst d_174_66 ci_0 rfl ?_
        subst H
        exact e_zret d_174_67 rr_174 (Or.inl rfl)
    · replace H := H.1 hc
      refine e_iconst d_174_44 ci_0 rfl ?_
      subst H
      exact e_zret d_174_45 rr_174 (Or.inl rfl)
  · replace H := H.1 hc
    refine e_aload_n d_174_9 rfl rfl ?_
    refine e_iconst d_174_10 ci_2 rfl ?_
    obtain ⟨v18, σ16, hcl, hS17, H⟩ := H
    refine e_vcall (w1 := (some (.int v18), σ16)) d_174_11 kc_174_11 rfl ⟨Nat.le_of_ble_eq_true rfl, xx_174.symm⟩ rfl hcl ?_
    show Ev 174 14 [.ref 59, .retAddr 0] [.int v18] σ16 w
    obtain ⟨hz, H⟩ := H
    subst H
    exact e_zret d_174_14 rr_174 hz
/-! X9_mendLine -/
theorem b_175_0 {t : Nat} {σ : Mm} {w : Option Value × Mm}  (hS : Sg t σ) 
    (H : ((mI σ 59 20) = 4 → (∃ (v12 : Int32) (σ10 : Mm), Cl 154 [.ref 59, .int 2] σ (some (.int v12), σ10) ∧ Sg t σ10 ∧ ((v12 = 0 ∨ v12 = 1) ∧ w = (some (.int v12), σ10)))) ∧ (¬ ((mI σ 59 20) = 4) → (∃ (σ1 : Mm), Cl 158 [.ref 59] σ (none, σ1) ∧ Sg t σ1 ∧ (∃ (v6 : Int32) (σ4 : Mm), Cl 163 [.ref 59, .int 0, .int 99] σ1 (some (.int v6), σ4) ∧ Sg t σ4 ∧ ((v6 = 0 → (w = (some (.int 0), σ4))) ∧ (¬ (v6 = 0) → (inb (4 + (mI σ4 59 20)) 8 = true ∧ (∀ (σ7 : Mm), σ7 = uI σ4 71 (4 + (mI σ4 59 20)).toNatClampNeg (mI σ4 59 11) → (w = (some (.int 1), uI σ7 59 20 ((mI σ7 59 20) + 1))))))))))) :
    Ev 175 0 [.ref 59] [] σ w := by
  refine e_aload_n d_175_0 rfl rfl ?_
  refine e_getI d_175_1 oo_175 pF_9_213 (by decide) (hS.k rfl) rfl ?_
  refine e_iconst d_175_4 ci_4 rfl ?_
  refine e_icmp_ne (t := 14) d_175_5 (by decide) rfl (fun hc => ?_) (fun hc => ?_)
  · replace H := H.2 hc
    refine e_aload_n d_175_14 rfl rfl ?_
    obtain ⟨σ1, hcl, hS2, H⟩ := H
    refine e_vcall (w1 := (none, σ1)) d_175_15 kc_175_15 rfl ⟨Nat.le_of_ble_eq_true rfl, xx_175.symm⟩ rfl hcl ?_
    show Ev 175 18 [.ref 59] [] σ1 w
    refine e_aload_n d_175_18 rfl rfl ?_
    refine e_iconst d_175_19 ci_0 rfl ?_
    refine e_bipush d_175_20 cb_99 rfl ?_
    obtain ⟨v6, σ4, hcl, hS5, H⟩ := H
    refine e_vcall (w1 := (some (.int v6), σ4)) d_175_22 kc_175_22 rfl ⟨Nat.le_of_ble_eq_true rfl, xx_175.symm⟩ rfl hcl ?_
    show Ev 175 25 [.ref 59] [.int v6] σ4 w
    refine e_if_ne (t := 30) d_175_25 (by decide) rfl (fun hc => ?_) (fun hc => ?_)
    · replace H := H.2 hc
      refine e_aload_n d_175_30 rfl rfl ?_
      refine e_getR d_175_31 oo_175 pF_9_48 (by decide) (hS5.k rfl) (hS5.r rt_59_31) rfl ?_
      refine e_iconst d_175_34 ci_4 rfl ?_
      refine e_aload_n d_175_35 rfl rfl ?_
      refine e_getI d_175_36 oo_175 pF_9_213 (by decide) (hS5.k rfl) rfl ?_
      refine e_iadd d_175_39 rfl ?_
      refine e_aload_n d_175_40 rfl rfl ?_
      refine e_getI d_175_41 oo_175 pF_9_191 (by decide) (hS5.k rfl) rfl ?_
      obtain ⟨hb, H⟩ := H
      refine e_iastore d_175_44 (okI_at (hS5.k rfl) hb) rfl ?_
      generalize hm8 : uI σ4 71 (4 + (mI σ4 59 20)).toNatClampNeg (mI σ4 59 11) = σ7
      have hS9 : Sg t σ7 := by rw [← hm8]; exact hS5.uI
      replace H := H σ7 hm8.symm
      refine e_aload_n d_175_45 rfl rfl ?_
      refine e_dup d_175_46 rfl rfl ?_
      refine e_getI d_175_47 oo_175 pF_9_213 (by decide) (hS9.k rfl) rfl ?_
      refine e_iconst d_175_50 ci_1 rfl ?_
      refine e_iadd d_175_51 rfl ?_
      refine e_putI d_175_52 oo_175 pF_9_213 (Or.inl rfl) (hS9.k rfl) rfl ?_
      refine e_iconst d_175_55 ci_1 rfl ?_
      subst H
      exact e_zret d_175_56 rr_175 (Or.inr rfl)
    · replace H := H.1 hc
      refine e_iconst d_175_28 ci_0 rfl ?_
      subst H
      exact e_zret d_175_29 rr_175 (Or.inl rfl)
  · replace H := H.1 hc
    refine e_aload_n d_175_8 rfl rfl ?_
    refine e_iconst d_175_9 ci_2 rfl ?_
    obtain ⟨v12, σ10, hcl, hS11, H⟩ := H
    refine e_vcall (w1 := (some (.int v12), σ10)) d_175_10 kc_175_10 rfl ⟨Nat.le_of_ble_eq_true rfl, xx_175.symm⟩ rfl hcl ?_
    show Ev 175 13 [.ref 59] [.int v12] σ10 w
    obtain ⟨hz, H⟩ := H
    subst H
    exact e_zret d_175_13 rr_175 hz
/-! X9_onceLine -/
theorem b_176_0 {t : Nat} {σ : Mm} {w : Option Value × Mm} {x1 : Int32} {x2 : Int32} (hS : Sg t σ) 
    (H : inb x1 2 = true ∧ (((mI σ 63 x1.toNatClampNeg) = 0 → (inb x1 2 = true ∧ (∃ (σ1 : Mm), Cl 158 [.ref 59] (uI σ 63 x1.toNatClampNeg (1 &&& 1)) (none, σ1) ∧ Sg t σ1 ∧ (∃ (v6 : Int32) (σ4 : Mm), Cl 163 [.ref 59, .int 0, .int x2] σ1 (some (.int v6), σ4) ∧ Sg t σ4 ∧ ((v6 = 0 → (w = (some (.int 0), σ4))) ∧ (¬ (v6 = 0) → (inb (2 + x1) 4 = true ∧ (∀ (σ7 : Mm), σ7 = uI σ4 64 (2 + x1).toNatClampNeg (mI σ4 59 11) → (w = (some (.int 1), σ7)))))))))) ∧ (¬ ((mI σ 63 x1.toNatClampNeg) = 0) → (∃ (v12 : Int32) (σ10 : Mm), Cl 154 [.ref 59, .int 3] σ (some (.int v12), σ10) ∧ Sg t σ10 ∧ ((v12 = 0 ∨ v12 = 1) ∧ w = (some (.int v12), σ10)))))) :
    Ev 176 0 [.ref 59, .int x1, .int x2] [] σ w := by
  refine e_aload_n d_176_0 rfl rfl ?_
  refine e_getR d_176_1 oo_176 pF_9_23 (by decide) (hS.k rfl) (hS.r rt_59_23) rfl ?_
  refine e_iload_n d_176_4 rfl rfl ?_
  obtain ⟨hb, H⟩ := H
  refine e_baload (v := (mI σ 63 x1.toNatClampNeg)) d_176_5 (rdB_at (hS.k rfl) (Or.inr rfl) hb) rfl ?_
  refine e_if_eq (t := 15) d_176_6 (by decide) rfl (fun hc => ?_) (fun hc => ?_)
  · replace H := H.1 hc
    refine e_aload_n d_176_15 rfl rfl ?_
    refine e_getR d_176_16 oo_176 pF_9_23 (by decide) (hS.k rfl) (hS.r rt_59_23) rfl ?_
    refine e_iload_n d_176_19 rfl rfl ?_
    refine e_iconst d_176_20 ci_1 rfl ?_
    obtain ⟨hb, H⟩ := H
    refine e_bastoreZ d_176_21 (okI_no (hS.k rfl)) (okI_at (hS.k rfl) hb) rfl ?_
    refine e_aload_n d_176_22 rfl rfl ?_
    obtain ⟨σ1, hcl, hS2, H⟩ := H
    refine e_vcall (w1 := (none, σ1)) d_176_23 kc_176_23 rfl ⟨Nat.le_of_ble_eq_true rfl, xx_176.symm⟩ rfl hcl ?_
    show Ev 176 26 [.ref 59, .int x1, .int x2] [] σ1 w
    refine e_aload_n d_176_26 rfl rfl ?_
    refine e_iconst d_176_27 ci_0 rfl ?_
    refine e_iload_n d_176_28 rfl rfl ?_
    obtain ⟨v6, σ4, hcl, hS5, H⟩ := H
    refine e_vcall (w1 := (some (.int v6), σ4)) d_176_29 kc_176_29 rfl ⟨Nat.le_of_ble_eq_true rfl, xx_176.symm⟩ rfl hcl ?_
    show Ev 176 32 [.ref 59, .int x1, .int x2] [.int v6] σ4 w
    refine e_if_ne (t := 37) d_176_32 (by decide) rfl (fun hc => ?_) (fun hc => ?_)
    · replace H := H.2 hc
      refine e_aload_n d_176_37 rfl rfl ?_
      refine e_getR d_176_38 oo_176 pF_9_27 (by decide) (hS5.k rfl) (hS5.r rt_59_24) rfl ?_
      refine e_iconst d_176_41 ci_2 rfl ?_
      refine e_iload_n d_176_42 rfl rfl ?_
      refine e_iadd d_176_43 rfl ?_
      refine e_aload_n d_176_44 rfl rfl ?_
      refine e_getI d_176_45 oo_176 pF_9_191 (by decide) (hS5.k rfl) rfl ?_
      obtain ⟨hb, H⟩ := H
      refine e_iastore d_176_48 (okI_at (hS5.k rfl) hb) rfl ?_
      generalize hm8 : uI σ4 64 (2 + x1).toNatClampNeg (mI σ4 59 11) = σ7
      have hS9 : Sg t σ7 := by rw [← hm8]; exact hS5.uI
      replace H := H σ7 hm8.symm
      refine e_iconst d_176_49 ci_1 rfl ?_
      subst H
      exact e_zret d_176_50 rr_176 (Or.inr rfl)
    · replace H := H.1 hc
      refine e_iconst d_176_35 ci_0 rfl ?_
      subst H
      exact e_zret d_176_36 rr_176 (Or.inl rfl)
  · replace H := H.2 hc
    refine e_aload_n d_176_9 rfl rfl ?_
    refine e_iconst d_176_10 ci_3 rfl ?_
    obtain ⟨v12, σ10, hcl, hS11, H⟩ := H
    refine e_vcall (w1 := (some (.int v12), σ10)) d_176_11 kc_176_11 rfl ⟨Nat.le_of_ble_eq_true rfl, xx_176.symm⟩ rfl hcl ?_
    show Ev 176 14 [.ref 59, .int x1, .int x2] [.int v12] σ10 w
    obtain ⟨hz, H⟩ := H
    subst H
    exact e_zret d_176_14 rr_176 hz
/-! X9_lineRead -/
theorem b_177_0 {t : Nat} {σ : Mm} {w : Option Value × Mm}  (hS : Sg t σ) 
    (H : ((mI σ 59 8) = 1 → ((7 < (mI σ 59 9) → (∃ (v48 : Int32) (σ46 : Mm), Cl 154 [.ref 59, .int 1] σ (some (.int v48), σ46) ∧ Sg t σ46 ∧ ((v48 = 0 ∨ v48 = 1) ∧ w = (some (.int v48), σ46)))) ∧ (¬ (7 < (mI σ 59 9)) → (((mI σ 59 9) = 0 → (∃ (v27 : Int32) (σ25 : Mm), Cl 170 [.ref 59] σ (some (.int v27), σ25) ∧ Sg t σ25 ∧ Ev 177 227 [.ref 59, .int v27, .retAddr 0] [] σ25 w)) ∧ ((mI σ 59 9) = 1 → (∃ (v30 : Int32) (σ28 : Mm), Cl 172 [.ref 59] σ (some (.int v30), σ28) ∧ Sg t σ28 ∧ Ev 177 227 [.ref 59, .int v30, .retAddr 0] [] σ28 w)) ∧ ((mI σ 59 9) = 2 → (∃ (v33 : Int32) (σ31 : Mm), Cl 173 [.ref 59] σ (some (.int v33), σ31) ∧ Sg t σ31 ∧ Ev 177 227 [.ref 59, .int v33, .retAddr 0] [] σ31 w)) ∧ ((mI σ 59 9) = 3 → (∃ (v36 : Int32) (σ34 : Mm), Cl 174 [.ref 59] σ (some (.int v36), σ34) ∧ Sg t σ34 ∧ Ev 177 227 [.ref 59, .int v36, .retAddr 0] [] σ34 w)) ∧ ((mI σ 59 9) = 4 → (∃ (v39 : Int32) (σ37 : Mm), Cl 175 [.ref 59] σ (some (.int v39), σ37) ∧ Sg t σ37 ∧ Ev 177 227 [.ref 59, .int v39, .retAddr 0] [] σ37 w)) ∧ ((mI σ 59 9) = 5 → (∃ (v42 : Int32) (σ40 : Mm), Cl 176 [.ref 59, .int 0, .int 100] σ (some (.int v42), σ40) ∧ Sg t σ40 ∧ Ev 177 227 [.ref 59, .int v42, .retAddr 0] [] σ40 w)) ∧ ((mI σ 59 9) = 6 → (∃ (v45 : Int32) (σ43 : Mm), Cl 176 [.ref 59, .int 1, .int 99999] σ (some (.int v45), σ43) ∧ Sg t σ43 ∧ Ev 177 227 [.ref 59, .int v45, .retAddr 0] [] σ43 w)) ∧ ((¬ (mI σ 59 9) = 0 ∧ ¬ (mI σ 59 9) = 1 ∧ ¬ (mI σ 59 9) = 2 ∧ ¬ (mI σ 59 9) = 3 ∧ ¬ (mI σ 59 9) = 4 ∧ ¬ (mI σ 59 9) = 5 ∧ ¬ (mI σ 59 9) = 6) → (∃ (σ4 : Mm), Cl 158 [.ref 59] σ (none, σ4) ∧ Sg t σ4 ∧ (((mI σ4 59 8) = 1 → (((mI σ4 59 9) < 8 → (∃ (v12 : Int32) (σ10 : Mm), Cl 154 [.ref 59, .int 1] σ4 (some (.int v12), σ10) ∧ Sg t σ10 ∧ ((v12 = 0 ∨ v12 = 1) ∧ w = (some (.int v12), σ10)))) ∧ (¬ ((mI σ4 59 9) < 8) → ((10 < (mI σ4 59 9) → (∃ (v24 : Int32) (σ22 : Mm), Cl 154 [.ref 59, .int 1] σ4 (some (.int v24), σ22) ∧ Sg t σ22 ∧ ((v24 = 0 ∨ v24 = 1) ∧ w = (some (.int v24), σ22)))) ∧ (¬ (10 < (mI σ4 59 9)) → (inb ((3 + (mI σ4 59 9)) - 8) 6 = true ∧ (((mI σ4 72 ((3 + (mI σ4 59 9)) - 8).toNatClampNeg) = 0 → (inb ((3 + (mI σ4 59 9)) - 8) 6 = true ∧ (∀ (σ13 : Mm), σ13 = uI σ4 72 ((3 + (mI σ4 59 9)) - 8).toNatClampNeg (1 &&& 1) → (∃ (σ16 : Mm), Cl 158 [.ref 59] σ13 (none, σ16) ∧ Sg t σ16 ∧ Ev 177 202 [.ref 59, .retAddr 0, .int ((3 + (mI σ4 59 9)) - 8)] [] σ16 w)))) ∧ (¬ ((mI σ4 72 ((3 + (mI σ4 59 9)) - 8).toNatClampNeg) = 0) → (∃ (v21 : Int32) (σ19 : Mm), Cl 154 [.ref 59, .int 3] σ4 (some (.int v21), σ19) ∧ Sg t σ19 ∧ ((v21 = 0 ∨ v21 = 1) ∧ w = (some (.int v21), σ19))))))))))) ∧ (¬ ((mI σ4 59 8) = 1) → (∃ (v9 : Int32) (σ7 : Mm), Cl 154 [.ref 59, .int 1] σ4 (some (.int v9), σ7) ∧ Sg t σ7 ∧ ((v9 = 0 ∨ v9 = 1) ∧ w = (some (.int v9), σ7))))))))))) ∧ (¬ ((mI σ 59 8) = 1) → (∃ (v3 : Int32) (σ1 : Mm), Cl 154 [.ref 59, .int 1] σ (some (.int v3), σ1) ∧ Sg t σ1 ∧ ((v3 = 0 ∨ v3 = 1) ∧ w = (some (.int v3), σ1))))) :
    Ev 177 0 [.ref 59, .retAddr 0, .retAddr 0] [] σ w := by
  refine e_aload_n d_177_0 rfl rfl ?_
  refine e_getI d_177_1 oo_177 pF_9_160 (by decide) (hS.k rfl) rfl ?_
  refine e_iconst d_177_4 ci_1 rfl ?_
  refine e_icmp_ne (t := 17) d_177_5 (by decide) rfl (fun hc => ?_) (fun hc => ?_)
  · replace H := H.2 hc
    refine e_aload_n d_177_17 rfl rfl ?_
    refine e_iconst d_177_18 ci_1 rfl ?_
    obtain ⟨v3, σ1, hcl, hS2, H⟩ := H
    refine e_vcall (w1 := (some (.int v3), σ1)) d_177_19 kc_177_19 rfl ⟨Nat.le_of_ble_eq_true rfl, xx_177.symm⟩ rfl hcl ?_
    show Ev 177 22 [.ref 59, .retAddr 0, .retAddr 0] [.int v3] σ1 w
    obtain ⟨hz, H⟩ := H
    subst H
    exact e_zret d_177_22 rr_177 hz
  · replace H := H.1 hc
    refine e_aload_n d_177_8 rfl rfl ?_
    refine e_getI d_177_9 oo_177 pF_9_171 (by decide) (hS.k rfl) rfl ?_
    refine e_bipush d_177_12 cb_7 rfl ?_
    refine e_icmp_le (t := 23) d_177_14 (by decide) rfl (fun hc => ?_) (fun hc => ?_)
    · replace H := H.2 hc
      refine e_aload_n d_177_23 rfl rfl ?_
      refine e_getI d_177_24 oo_177 pF_9_171 (by decide) (hS.k rfl) rfl ?_
      by_cases hs0 : (mI σ 59 9) = 0
      · replace H := H.1 hs0
        refine e_table (off := 41) (t := 68) d_177_27 (by rw [hs0]; decide +kernel) (by decide) ?_
        refine e_aload_n d_177_68 rfl rfl ?_
        obtain ⟨v27, σ25, hcl, hS26, H⟩ := H
        refine e_vcall (w1 := (some (.int v27), σ25)) d_177_69 kc_177_69 rfl ⟨Nat.le_of_ble_eq_true rfl, xx_177.symm⟩ rfl hcl ?_
        show Ev 177 72 [.ref 59, .retAddr 0, .retAddr 0] [.int v27] σ25 w
        refine e_istore_n (ls2 := [.ref 59, .int v27, .retAddr 0]) d_177_72 rfl rfl rfl ?_
        refine e_goto (t := 227) d_177_73 (by decide) ?_
        exact H
      by_cases hs1 : (mI σ 59 9) = 1
      · replace H := H.2.1 hs1
        refine e_table (off := 49) (t := 76) d_177_27 (by rw [hs1]; decide +kernel) (by decide) ?_
        refine e_aload_n d_177_76 rfl rfl ?_
        obtain ⟨v30, σ28, hcl, hS29, H⟩ := H
        refine e_vcall (w1 := (some (.int v30), σ28)) d_177_77 kc_177_77 rfl ⟨Nat.le_of_ble_eq_true rfl, xx_177.symm⟩ rfl hcl ?_
        show Ev 177 80 [.ref 59, .retAddr 0, .retAddr 0] [.int v30] σ28 w
        refine e_istore_n (ls2 := [.ref 59, .int v30, .retAddr 0]) d_177_80 rfl rfl rfl ?_
        refine e_goto (t := 227) d_177_81 (by decide) ?_
        exact H
      by_cases hs2 : (mI σ 59 9) = 2
      · replace H := H.2.2.1 hs2
        refine e_table (off := 57) (t := 84) d_177_27 (by rw [hs2]; decide +kernel) (by decide) ?_
        refine e_aload_n d_177_84 rfl rfl ?_
        obtain ⟨v33, σ31, hcl, hS32, H⟩ := H
        refine e_vcall (w1 := (some (.int v33), σ31)) d_177_85 kc_177_85 rfl ⟨Nat.le_of_ble_eq_true rfl, xx_177.symm⟩ rfl hcl ?_
        show Ev 177 88 [.ref 59, .retAddr 0, .retAddr 0] [.int v33] σ31 w
        refine e_istore_n (ls2 := [.ref 59, .int v33, .retAddr 0]) d_177_88 rfl rfl rfl ?_
        refine e_goto (t := 227) d_177_89 (by decide) ?_
        exact H
      by_cases hs3 : (mI σ 59 9) = 3
      · replace H := H.2.2.2.1 hs3
        refine e_table (off := 65) (t := 92) d_177_27 (by rw [hs3]; decide +kernel) (by decide) ?_
        refine e_aload_n d_177_92 rfl rfl ?_
        obtain ⟨v36, σ34, hcl, hS35, H⟩ := H
        refine e_vcall (w1 := (some (.int v36), σ34)) d_177_93 kc_177_93 rfl ⟨Nat.le_of_ble_eq_true rfl, xx_177.symm⟩ rfl hcl ?_
        show Ev 177 96 [.ref 59, .retAddr 0, .retAddr 0] [.int v36] σ34 w
        refine e_istore_n (ls2 := [.ref 59, .int v36, .retAddr 0]) d_177_96 rfl rfl rfl ?_
        refine e_goto (t := 227) d_177_97 (by decide) ?_
        exact H
      by_cases hs4 : (mI σ 59 9) = 4
      · replace H := H.2.2.2.2.1 hs4
        refine e_table (off := 73) (t := 100) d_177_27 (by rw [hs4]; decide +kernel) (by decide) ?_
        refine e_aload_n d_177_100 rfl rfl ?_
        obtain ⟨v39, σ37, hcl, hS38, H⟩ := H
        refine e_vcall (w1 := (some (.int v39), σ37)) d_177_101 kc_177_101 rfl ⟨Nat.le_of_ble_eq_true rfl, xx_177.symm⟩ rfl hcl ?_
        show Ev 177 104 [.ref 59, .retAddr 0, .retAddr 0] [.int v39] σ37 w
        refine e_istore_n (ls2 := [.ref 59, .int v39, .retAddr 0]) d_177_104 rfl rfl rfl ?_
        refine e_goto (t := 227) d_177_105 (by decide) ?_
        exact H
      by_cases hs5 : (mI σ 59 9) = 5
      · replace H := H.2.2.2.2.2.1 hs5
        refine e_table (off := 81) (t := 108) d_177_27 (by rw [hs5]; decide +kernel) (by decide) ?_
        refine e_aload_n d_177_108 rfl rfl ?_
        refine e_iconst d_177_109 ci_0 rfl ?_
        refine e_bipush d_177_110 cb_100 rfl ?_
        obtain ⟨v42, σ40, hcl, hS41, H⟩ := H
        refine e_vcall (w1 := (some (.int v42), σ40)) d_177_112 kc_177_112 rfl ⟨Nat.le_of_ble_eq_true rfl, xx_177.symm⟩ rfl hcl ?_
        show Ev 177 115 [.ref 59, .retAddr 0, .retAddr 0] [.int v42] σ40 w
        refine e_istore_n (ls2 := [.ref 59, .int v42, .retAddr 0]) d_177_115 rfl rfl rfl ?_
        refine e_goto (t := 227) d_177_116 (by decide) ?_
        exact H
      by_cases hs6 : (mI σ 59 9) = 6
      · replace H := H.2.2.2.2.2.2.1 hs6
        refine e_table (off := 92) (t := 119) d_177_27 (by rw [hs6]; decide +kernel) (by decide) ?_
        refine e_aload_n d_177_119 rfl rfl ?_
        refine e_iconst d_177_120 ci_1 rfl ?_
        refine e_ldc d_177_121 oo_177 pI_9_180 rfl ?_
        obtain ⟨v45, σ43, hcl, hS44, H⟩ := H
        refine e_vcall (w1 := (some (.int v45), σ43)) d_177_123 kc_177_123 rfl ⟨Nat.le_of_ble_eq_true rfl, xx_177.symm⟩ rfl hcl ?_
        show Ev 177 126 [.ref 59, .retAddr 0, .retAddr 0] [.int v45] σ43 w
        refine e_istore_n (ls2 := [.ref 59, .int v45, .retAddr 0]) d_177_126 rfl rfl rfl ?_
        refine e_goto (t := 227) d_177_127 (by decide) ?_
        exact H
      replace H := H.2.2.2.2.2.2.2 ⟨hs0, hs1, hs2, hs3, hs4, hs5, hs6⟩
      refine e_table (off := 103) (t := 130) d_177_27 (sw_177_27 hs0 hs1 hs2 hs3 hs4 hs5 hs6) (by decide) ?_
      refine e_aload_n d_177_130 rfl rfl ?_
      obtain ⟨σ4, hcl, hS5, H⟩ := H
      refine e_vcall (w1 := (none, σ4)) d_177_131 kc_177_131 rfl ⟨Nat.le_of_ble_eq_true rfl, xx_177.symm⟩ rfl hcl ?_
      show Ev 177 134 [.ref 59, .retAddr 0, .retAddr 0] [] σ4 w
      refine e_aload_n d_177_134 rfl rfl ?_
      refine e_getI d_177_135 oo_177 pF_9_160 (by decide) (hS5.k rfl) rfl ?_
      refine e_iconst d_177_138 ci_1 rfl ?_
      refine e_icmp_ne (t := 160) d_177_139 (by decide) rfl (fun hc => ?_) (fun hc => ?_)
      · replace H := H.2 hc
        refine e_aload_n d_177_160 rfl rfl ?_
        refine e_iconst d_177_161 ci_1 rfl ?_
        obtain ⟨v9, σ7, hcl, hS8, H⟩ := H
        refine e_vcall (w1 := (some (.int v9), σ7)) d_177_162 kc_177_162 rfl ⟨Nat.le_of_ble_eq_true rfl, xx_177.symm⟩ rfl hcl ?_
        show Ev 177 165 [.ref 59, .retAddr 0, .retAddr 0] [.int v9] σ7 w
        obtain ⟨hz, H⟩ := H
        subst H
        exact e_zret d_177_165 rr_177 hz
      · replace H := H.1 hc
        refine e_aload_n d_177_142 rfl rfl ?_
        refine e_getI d_177_143 oo_177 pF_9_171 (by decide) (hS5.k rfl) rfl ?_
        refine e_bipush d_177_146 cb_8 rfl ?_
        refine e_icmp_lt (t := 160) d_177_148 (by decide) rfl (fun hc => ?_) (fun hc => ?_)
        · replace H := H.1 hc
          refine e_aload_n d_177_160 rfl rfl ?_
          refine e_iconst d_177_161 ci_1 rfl ?_
          obtain ⟨v12, σ10, hcl, hS11, H⟩ := H
          refine e_vcall (w1 := (some (.int v12), σ10)) d_177_162 kc_177_162 rfl ⟨Nat.le_of_ble_eq_true rfl, xx_177.symm⟩ rfl hcl ?_
          show Ev 177 165 [.ref 59, .retAddr 0, .retAddr 0] [.int v12] σ10 w
          obtain ⟨hz, H⟩ := H
          subst H
          exact e_zret d_177_165 rr_177 hz
        · replace H := H.2 hc
          refine e_aload_n d_177_151 rfl rfl ?_
          refine e_getI d_177_152 oo_177 pF_9_171 (by decide) (hS5.k rfl) rfl ?_
          refine e_bipush d_177_155 cb_10 rfl ?_
          refine e_icmp_le (t := 166) d_177_157 (by decide) rfl (fun hc => ?_) (fun hc => ?_)
          · replace H := H.2 hc
            refine e_iconst d_177_166 ci_3 rfl ?_
            refine e_aload_n d_177_167 rfl rfl ?_
            refine e_getI d_177_168 oo_177 pF_9_171 (by decide) (hS5.k rfl) rfl ?_
            refine e_iadd d_177_171 rfl ?_
            refine e_bipush d_177_172 cb_8 rfl ?_
            refine e_isub d_177_174 rfl ?_
            refine e_istore_n (ls2 := [.ref 59, .retAddr 0, .int ((3 + (mI σ4 59 9)) - 8)]) d_177_175 rfl rfl rfl ?_
            refine e_aload_n d_177_176 rfl rfl ?_
            refine e_getR d_177_177 oo_177 pF_9_51 (by decide) (hS5.k rfl) (hS5.r rt_59_32) rfl ?_
            refine e_iload_n d_177_180 rfl rfl ?_
            obtain ⟨hb, H⟩ := H
            refine e_baload (v := (mI σ4 72 ((3 + (mI σ4 59 9)) - 8).toNatClampNeg)) d_177_181 (rdB_at (hS5.k rfl) (Or.inr rfl) hb) rfl ?_
            refine e_if_eq (t := 191) d_177_182 (by decide) rfl (fun hc => ?_) (fun hc => ?_)
            · replace H := H.1 hc
              refine e_aload_n d_177_191 rfl rfl ?_
              refine e_getR d_177_192 oo_177 pF_9_51 (by decide) (hS5.k rfl) (hS5.r rt_59_32) rfl ?_
              refine e_iload_n d_177_195 rfl rfl ?_
              refine e_iconst d_177_196 ci_1 rfl ?_
              obtain ⟨hb, H⟩ := H
              refine e_bastoreZ d_177_197 (okI_no (hS5.k rfl)) (okI_at (hS5.k rfl) hb) rfl ?_
              generalize hm14 : uI σ4 72 ((3 + (mI σ4 59 9)) - 8).toNatClampNeg (1 &&& 1) = σ13
              have hS15 : Sg t σ13 := by rw [← hm14]; exact hS5.uI
              replace H := H σ13 hm14.symm
              refine e_aload_n d_177_198 rfl rfl ?_
              obtain ⟨σ16, hcl, hS17, H⟩ := H
              refine e_vcall (w1 := (none, σ16)) d_177_199 kc_177_199 rfl ⟨Nat.le_of_ble_eq_true rfl, xx_177.symm⟩ rfl hcl ?_
              show Ev 177 202 [.ref 59, .retAddr 0, .int ((3 + (mI σ4 59 9)) - 8)] [] σ16 w
              exact H
            · replace H := H.2 hc
              refine e_aload_n d_177_185 rfl rfl ?_
              refine e_iconst d_177_186 ci_3 rfl ?_
              obtain ⟨v21, σ19, hcl, hS20, H⟩ := H
              refine e_vcall (w1 := (some (.int v21), σ19)) d_177_187 kc_177_187 rfl ⟨Nat.le_of_ble_eq_true rfl, xx_177.symm⟩ rfl hcl ?_
              show Ev 177 190 [.ref 59, .retAddr 0, .int ((3 + (mI σ4 59 9)) - 8)] [.int v21] σ19 w
              obtain ⟨hz, H⟩ := H
              subst H
              exact e_zret d_177_190 rr_177 hz
          · replace H := H.1 hc
            refine e_aload_n d_177_160 rfl rfl ?_
            refine e_iconst d_177_161 ci_1 rfl ?_
            obtain ⟨v24, σ22, hcl, hS23, H⟩ := H
            refine e_vcall (w1 := (some (.int v24), σ22)) d_177_162 kc_177_162 rfl ⟨Nat.le_of_ble_eq_true rfl, xx_177.symm⟩ rfl hcl ?_
            show Ev 177 165 [.ref 59, .retAddr 0, .retAddr 0] [.int v24] σ22 w
            obtain ⟨hz, H⟩ := H
            subst H
            exact e_zret d_177_165 rr_177 hz
    · replace H := H.1 hc
      refine e_aload_n d_177_17 rfl rfl ?_
      refine e_iconst d_177_18 ci_1 rfl ?_
      obtain ⟨v48, σ46, hcl, hS47, H⟩ := H
      refine e_vcall (w1 := (some (.int v48), σ46)) d_177_19 kc_177_19 rfl ⟨Nat.le_of_ble_eq_true rfl, xx_177.symm⟩ rfl hcl ?_
      show Ev 177 22 [.ref 59, .retAddr 0, .retAddr 0] [.int v48] σ46 w
      obtain ⟨hz, H⟩ := H
      subst H
      exact e_zret d_177_22 rr_177 hz
theorem b_177_202 {t : Nat} {σ : Mm} {w : Option Value × Mm} {z1 : Value} {x2 : Int32} (hS : Sg t σ) 
    (H : inb x2 6 = true ∧ (∃ (v3 : Int32) (σ1 : Mm), Cl 190 [.ref 59] (uI σ 73 x2.toNatClampNeg (mI σ 59 21)) (some (.int v3), σ1) ∧ Sg t σ1 ∧ (inb x2 6 = true ∧ Ev 177 227 [.ref 59, .int v3, .int x2] [] (uI σ1 74 x2.toNatClampNeg (mI σ1 59 21)) w))) :
    Ev 177 202 [.ref 59, z1, .int x2] [] σ w := by
  refine e_aload_n d_177_202 rfl rfl ?_
  refine e_getR d_177_203 oo_177 pF_9_54 (by decide) (hS.k rfl) (hS.r rt_59_33) rfl ?_
  refine e_iload_n d_177_206 rfl rfl ?_
  refine e_aload_n d_177_207 rfl rfl ?_
  refine e_getI d_177_208 oo_177 pF_9_216 (by decide) (hS.k rfl) rfl ?_
  obtain ⟨hb, H⟩ := H
  refine e_iastore d_177_211 (okI_at (hS.k rfl) hb) rfl ?_
  refine e_aload_n d_177_212 rfl rfl ?_
  obtain ⟨v3, σ1, hcl, hS2, H⟩ := H
  refine e_vcall (w1 := (some (.int v3), σ1)) d_177_213 kc_177_213 rfl ⟨Nat.le_of_ble_eq_true rfl, xx_177.symm⟩ rfl hcl ?_
  show Ev 177 216 [.ref 59, z1, .int x2] [.int v3] σ1 w
  refine e_istore_n (ls2 := [.ref 59, .int v3, .int x2]) d_177_216 rfl rfl rfl ?_
  refine e_aload_n d_177_217 rfl rfl ?_
  refine e_getR d_177_218 oo_177 pF_9_57 (by decide) (hS2.k rfl) (hS2.r rt_59_34) rfl ?_
  refine e_iload_n d_177_221 rfl rfl ?_
  refine e_aload_n d_177_222 rfl rfl ?_
  refine e_getI d_177_223 oo_177 pF_9_216 (by decide) (hS2.k rfl) rfl ?_
  obtain ⟨hb, H⟩ := H
  refine e_iastore d_177_226 (okI_at (hS2.k rfl) hb) rfl ?_
  exact H
theorem b_177_227 {t : Nat} {σ : Mm} {w : Option Value × Mm} {x1 : Int32} {z2 : Value} (hS : Sg t σ) 
    (H : (x1 = 0 → (w = (some (.int 0), σ))) ∧ (¬ (x1 = 0) → (∃ (v3 : Int32) (σ1 : Mm), Cl 162 [.ref 59, .int 59] σ (some (.int v3), σ1) ∧ Sg t σ1 ∧ ((v3 = 0 → (∃ (v9 : Int32) (σ7 : Mm), Cl 154 [.ref 59, .int 1] σ1 (some (.int v9), σ7) ∧ Sg t σ7 ∧ ((v9 = 0 ∨ v9 = 1) ∧ w = (some (.int v9), σ7)))) ∧ (¬ (v3 = 0) → (∃ (σ4 : Mm), Cl 158 [.ref 59] σ1 (none, σ4) ∧ Sg t σ4 ∧ (w = (some (.int 1), σ4)))))))) :
    Ev 177 227 [.ref 59, .int x1, z2] [] σ w := by
  refine e_iload_n d_177_227 rfl rfl ?_
  refine e_if_ne (t := 233) d_177_228 (by decide) rfl (fun hc => ?_) (fun hc => ?_)
  · replace H := H.2 hc
    refine e_aload_n d_177_233 rfl rfl ?_
    refine e_bipush d_177_234 cb_59 rfl ?_
    obtain ⟨v3, σ1, hcl, hS2, H⟩ := H
    refine e_vcall (w1 := (some (.int v3), σ1)) d_177_236 kc_177_236 rfl ⟨Nat.le_of_ble_eq_true rfl, xx_177.symm⟩ rfl hcl ?_
    show Ev 177 239 [.ref 59, .int x1, z2] [.int v3] σ1 w
    refine e_if_ne (t := 248) d_177_239 (by decide) rfl (fun hc => ?_) (fun hc => ?_)
    · replace H := H.2 hc
      refine e_aload_n d_177_248 rfl rfl ?_
      obtain ⟨σ4, hcl, hS5, H⟩ := H
      refine e_vcall (w1 := (none, σ4)) d_177_249 kc_177_249 rfl ⟨Nat.le_of_ble_eq_true rfl, xx_177.symm⟩ rfl hcl ?_
      show Ev 177 252 [.ref 59, .int x1, z2] [] σ4 w
      refine e_iconst d_177_252 ci_1 rfl ?_
      subst H
      exact e_zret d_177_253 rr_177 (Or.inr rfl)
    · replace H := H.1 hc
      refine e_aload_n d_177_242 rfl rfl ?_
      refine e_iconst d_177_243 ci_1 rfl ?_
      obtain ⟨v9, σ7, hcl, hS8, H⟩ := H
      refine e_vcall (w1 := (some (.int v9), σ7)) d_177_244 kc_177_244 rfl ⟨Nat.le_of_ble_eq_true rfl, xx_177.symm⟩ rfl hcl ?_
      show Ev 177 247 [.ref 59, .int x1, z2] [.int v9] σ7 w
      obtain ⟨hz, H⟩ := H
      subst H
      exact e_zret d_177_247 rr_177 hz
  · replace H := H.1 hc
    refine e_iconst d_177_231 ci_0 rfl ?_
    subst H
    exact e_zret d_177_232 rr_177 (Or.inl rfl)
/-! X9_text -/
theorem b_178_0 {t : Nat} {σ : Mm} {w : Option Value × Mm} {x1 : Int32} (hS : Sg t σ) 
    (H : (x1 < 0 → (w = (some (.int (-2)), uI σ 59 2 0))) ∧ (¬ (x1 < 0) → (((mI (uI σ 59 2 0) 59 1) < x1 → (w = (some (.int (-2)), uI σ 59 2 0))) ∧ (¬ ((mI (uI σ 59 2 0) 59 1) < x1) → (∀ (σ1 : Mm), σ1 = uI (uI (uI (uI σ 59 2 0) 59 6 x1) 59 1 0) 59 4 0 → (∃ (σ4 : Mm), Cl 164 [.ref 59] (uI (uI σ1 59 5 (-1)) 59 7 0) (none, σ4) ∧ Sg t σ4 ∧ (∃ (σ7 : Mm), Cl 158 [.ref 59] σ4 (none, σ7) ∧ Sg t σ7 ∧ Ev 178 55 [.ref 59, .int x1, .int 0] [] σ7 w))))))) :
    Ev 178 0 [.ref 59, .int x1, .retAddr 0] [] σ w := by
  refine e_aload_n d_178_0 rfl rfl ?_
  refine e_iconst d_178_1 ci_0 rfl ?_
  refine e_putI d_178_2 oo_178 pF_9_142 (Or.inl rfl) (hS.k rfl) rfl ?_
  refine e_iload_n d_178_5 rfl rfl ?_
  refine e_if_lt (t := 17) d_178_6 (by decide) rfl (fun hc => ?_) (fun hc => ?_)
  · replace H := H.1 hc
    refine e_bipush d_178_17 cb_m2 rfl ?_
    subst H
    exact e_iret d_178_19 rr_178
  · replace H := H.2 hc
    refine e_iload_n d_178_9 rfl rfl ?_
    refine e_aload_n d_178_10 rfl rfl ?_
    refine e_getI d_178_11 oo_178 pF_9_145 (by decide) (hS.uI.k rfl) rfl ?_
    refine e_icmp_le (t := 20) d_178_14 (by decide) rfl (fun hc => ?_) (fun hc => ?_)
    · replace H := H.2 hc
      refine e_aload_n d_178_20 rfl rfl ?_
      refine e_iload_n d_178_21 rfl rfl ?_
      refine e_putI d_178_22 oo_178 pF_9_154 (Or.inl rfl) (hS.uI.k rfl) rfl ?_
      refine e_aload_n d_178_25 rfl rfl ?_
      refine e_iconst d_178_26 ci_0 rfl ?_
      refine e_putI d_178_27 oo_178 pF_9_145 (Or.inl rfl) (hS.uI.uI.k rfl) rfl ?_
      refine e_aload_n d_178_30 rfl rfl ?_
      refine e_iconst d_178_31 ci_0 rfl ?_
      refine e_putI d_178_32 oo_178 pF_9_148 (Or.inl rfl) (hS.uI.uI.uI.k rfl) rfl ?_
      generalize hm2 : uI (uI (uI (uI σ 59 2 0) 59 6 x1) 59 1 0) 59 4 0 = σ1
      have hS3 : Sg t σ1 := by rw [← hm2]; exact hS.uI.uI.uI.uI
      replace H := H σ1 hm2.symm
      refine e_aload_n d_178_35 rfl rfl ?_
      refine e_iconst d_178_36 ci_m1 rfl ?_
      refine e_putI d_178_37 oo_178 pF_9_16 (Or.inl rfl) (hS3.k rfl) rfl ?_
      refine e_aload_n d_178_40 rfl rfl ?_
      refine e_iconst d_178_41 ci_0 rfl ?_
      refine e_putI d_178_42 oo_178 pF_9_157 (Or.inl rfl) (hS3.uI.k rfl) rfl ?_
      refine e_aload_n d_178_45 rfl rfl ?_
      obtain ⟨σ4, hcl, hS5, H⟩ := H
      refine e_vcall (w1 := (none, σ4)) d_178_46 kc_178_46 rfl ⟨Nat.le_of_ble_eq_true rfl, xx_178.symm⟩ rfl hcl ?_
      show Ev 178 49 [.ref 59, .int x1, .retAddr 0] [] σ4 w
      refine e_aload_n d_178_49 rfl rfl ?_
      obtain ⟨σ7, hcl, hS8, H⟩ := H
      refine e_vcall (w1 := (none, σ7)) d_178_50 kc_178_50 rfl ⟨Nat.le_of_ble_eq_true rfl, xx_178.symm⟩ rfl hcl ?_
      show Ev 178 53 [.ref 59, .int x1, .retAddr 0] [] σ7 w
      refine e_iconst d_178_53 ci_0 rfl ?_
      refine e_istore_n (ls2 := [.ref 59, .int x1, .int 0]) d_178_54 rfl rfl rfl ?_
      exact H
    · replace H := H.1 hc
      refine e_bipush d_178_17 cb_m2 rfl ?_
      subst H
      exact e_iret d_178_19 rr_178
theorem b_178_55 {t : Nat} {σ : Mm} {w : Option Value × Mm} {x1 : Int32} {x2 : Int32} (hS : Sg t σ) 
    (H : ((mI σ 59 8) = 0 → (∃ (σ1 : Mm), Cl 166 [.ref 59] σ (none, σ1) ∧ Sg t σ1 ∧ (w = (some (.int x2), σ1)))) ∧ (¬ ((mI σ 59 8) = 0) → (∃ (v6 : Int32) (σ4 : Mm), Cl 177 [.ref 59] σ (some (.int v6), σ4) ∧ Sg t σ4 ∧ ((v6 = 0 → (w = (some (.int (-1)), σ4))) ∧ (¬ (v6 = 0) → Ev 178 55 [.ref 59, .int x1, .int (x2 + 1)] [] σ4 w))))) :
    Ev 178 55 [.ref 59, .int x1, .int x2] [] σ w := by
  refine e_aload_n d_178_55 rfl rfl ?_
  refine e_getI d_178_56 oo_178 pF_9_160 (by decide) (hS.k rfl) rfl ?_
  refine e_if_eq (t := 77) d_178_59 (by decide) rfl (fun hc => ?_) (fun hc => ?_)
  · replace H := H.1 hc
    refine e_aload_n d_178_77 rfl rfl ?_
    obtain ⟨σ1, hcl, hS2, H⟩ := H
    refine e_vcall (w1 := (none, σ1)) d_178_78 kc_178_78 rfl ⟨Nat.le_of_ble_eq_true rfl, xx_178.symm⟩ rfl hcl ?_
    show Ev 178 81 [.ref 59, .int x1, .int x2] [] σ1 w
    refine e_iload_n d_178_81 rfl rfl ?_
    subst H
    exact e_iret d_178_82 rr_178
  · replace H := H.2 hc
    refine e_aload_n d_178_62 rfl rfl ?_
    obtain ⟨v6, σ4, hcl, hS5, H⟩ := H
    refine e_vcall (w1 := (some (.int v6), σ4)) d_178_63 kc_178_63 rfl ⟨Nat.le_of_ble_eq_true rfl, xx_178.symm⟩ rfl hcl ?_
    show Ev 178 66 [.ref 59, .int x1, .int x2] [.int v6] σ4 w
    refine e_if_ne (t := 71) d_178_66 (by decide) rfl (fun hc => ?_) (fun hc => ?_)
    · replace H := H.2 hc
      refine e_iinc (ls2 := [.ref 59, .int x1, .int (x2 + 1)]) d_178_71 rfl ci_1 rfl rfl rfl ?_
      refine e_goto (t := 55) d_178_74 (by decide) ?_
      exact H
    · replace H := H.1 hc
      refine e_iconst d_178_69 ci_m1 rfl ?_
      subst H
      exact e_iret d_178_70 rr_178
/-! X9_fault -/
theorem b_179_0 {t : Nat} {σ : Mm} {w : Option Value × Mm} {x1 : Int32} (hS : Sg t σ) 
    (H : (x1 = 0 → (w = (some (.int (mI (uI σ 59 2 0) 59 4)), uI σ 59 2 0))) ∧ (¬ (x1 = 0) → ((x1 = 1 → (w = (some (.int (mI (uI σ 59 2 0) 59 5)), uI σ 59 2 0))) ∧ (¬ (x1 = 1) → (w = (some (.int (-1)), uI σ 59 2 0)))))) :
    Ev 179 0 [.ref 59, .int x1] [] σ w := by
  refine e_aload_n d_179_0 rfl rfl ?_
  refine e_iconst d_179_1 ci_0 rfl ?_
  refine e_putI d_179_2 oo_179 pF_9_142 (Or.inl rfl) (hS.k rfl) rfl ?_
  refine e_iload_n d_179_5 rfl rfl ?_
  refine e_if_ne (t := 16) d_179_6 (by decide) rfl (fun hc => ?_) (fun hc => ?_)
  · replace H := H.2 hc
    refine e_iload_n d_179_16 rfl rfl ?_
    refine e_iconst d_179_17 ci_1 rfl ?_
    refine e_icmp_ne (t := 28) d_179_18 (by decide) rfl (fun hc => ?_) (fun hc => ?_)
    · replace H := H.2 hc
      refine e_iconst d_179_28 ci_m1 rfl ?_
      subst H
      exact e_iret d_179_29 rr_179
    · replace H := H.1 hc
      refine e_aload_n d_179_21 rfl rfl ?_
      refine e_getI d_179_22 oo_179 pF_9_16 (by decide) (hS.uI.k rfl) rfl ?_
      refine e_goto (t := 29) d_179_25 (by decide) ?_
      subst H
      exact e_iret d_179_29 rr_179
  · replace H := H.1 hc
    refine e_aload_n d_179_9 rfl rfl ?_
    refine e_getI d_179_10 oo_179 pF_9_148 (by decide) (hS.uI.k rfl) rfl ?_
    refine e_goto (t := 29) d_179_13 (by decide) ?_
    subst H
    exact e_iret d_179_29 rr_179
/-! X9_named -/
theorem b_180_0 {t : Nat} {σ : Mm} {w : Option Value × Mm} {x1 : Int32} {x2 : Int32} (hS : Sg t σ) 
    (H : (x1 = 0 → (∃ (v6 : Int32) (σ4 : Mm), Cl 167 [.ref 65, .int 0, .int (mI (uI σ 59 2 0) 59 12), .int x2] (uI σ 59 2 0) (some (.int v6), σ4) ∧ Sg t σ4 ∧ (w = (some (.int v6), σ4)))) ∧ (¬ (x1 = 0) → ((x1 = 1 → (∃ (v3 : Int32) (σ1 : Mm), Cl 167 [.ref 66, .int 0, .int (mI (uI σ 59 2 0) 59 13), .int x2] (uI σ 59 2 0) (some (.int v3), σ1) ∧ Sg t σ1 ∧ (w = (some (.int v3), σ1)))) ∧ (¬ (x1 = 1) → (w = (some (.int (-1)), uI σ 59 2 0)))))) :
    Ev 180 0 [.ref 59, .int x1, .int x2] [] σ w := by
  refine e_aload_n d_180_0 rfl rfl ?_
  refine e_iconst d_180_1 ci_0 rfl ?_
  refine e_putI d_180_2 oo_180 pF_9_142 (Or.inl rfl) (hS.k rfl) rfl ?_
  refine e_iload_n d_180_5 rfl rfl ?_
  refine e_if_ne (t := 25) d_180_6 (by decide) rfl (fun hc => ?_) (fun hc => ?_)
  · replace H := H.2 hc
    refine e_iload_n d_180_25 rfl rfl ?_
    refine e_iconst d_180_26 ci_1 rfl ?_
    refine e_icmp_ne (t := 46) d_180_27 (by decide) rfl (fun hc => ?_) (fun hc => ?_)
    · replace H := H.2 hc
      refine e_iconst d_180_46 ci_m1 rfl ?_
      subst H
      exact e_iret d_180_47 rr_180
    · replace H := H.1 hc
      refine e_aload_n d_180_30 rfl rfl ?_
      refine e_getR d_180_31 oo_180 pF_9_33 (by decide) (hS.uI.k rfl) (hS.uI.r rt_59_26) rfl ?_
      refine e_iconst d_180_34 ci_0 rfl ?_
      refine e_aload_n d_180_35 rfl rfl ?_
      refine e_getI d_180_36 oo_180 pF_9_225 (by decide) (hS.uI.k rfl) rfl ?_
      refine e_iload_n d_180_39 rfl rfl ?_
      obtain ⟨v3, σ1, hcl, hS2, H⟩ := H
      refine e_scall (w1 := (some (.int v3), σ1)) d_180_40 kc_180_40 rfl ⟨Nat.le_of_ble_eq_true rfl, xx_180.symm⟩ rfl hcl ?_
      show Ev 180 43 [.ref 59, .int x1, .int x2] [.int v3] σ1 w
      refine e_goto (t := 47) d_180_43 (by decide) ?_
      subst H
      exact e_iret d_180_47 rr_180
  · replace H := H.1 hc
    refine e_aload_n d_180_9 rfl rfl ?_
    refine e_getR d_180_10 oo_180 pF_9_30 (by decide) (hS.uI.k rfl) (hS.uI.r rt_59_25) rfl ?_
    refine e_iconst d_180_13 ci_0 rfl ?_
    refine e_aload_n d_180_14 rfl rfl ?_
    refine e_getI d_180_15 oo_180 pF_9_222 (by decide) (hS.uI.k rfl) rfl ?_
    refine e_iload_n d_180_18 rfl rfl ?_
    obtain ⟨v6, σ4, hcl, hS5, H⟩ := H
    refine e_scall (w1 := (some (.int v6), σ4)) d_180_19 kc_180_19 rfl ⟨Nat.le_of_ble_eq_true rfl, xx_180.symm⟩ rfl hcl ?_
    show Ev 180 22 [.ref 59, .int x1, .int x2] [.int v6] σ4 w
    refine e_goto (t := 47) d_180_22 (by decide) ?_
    subst H
    exact e_iret d_180_47 rr_180
/-! X9_standing -/
theorem b_181_0 {t : Nat} {σ : Mm} {w : Option Value × Mm} {x0 : Int32} (hS : Sg t σ) 
    (H : (x0 < 13 → ((x0 < 11 → ((x0 < 5 → ((x0 = 2 → (w = (some (.int 3), σ))) ∧ (¬ (x0 = 2) → ((x0 = 3 → (w = (some (.int 2), σ))) ∧ (¬ (x0 = 3) → ((x0 = 4 → (w = (some (.int 1), σ))) ∧ (¬ (x0 = 4) → (w = (some (.int 0), σ))))))))) ∧ (¬ (x0 < 5) → (w = (some (.int 4), σ))))) ∧ (¬ (x0 < 11) → (w = (some (.int 5), σ))))) ∧ (¬ (x0 < 13) → (w = (some (.int 6), σ)))) :
    Ev 181 0 [.int x0] [] σ w := by
  refine e_iload_n d_181_0 rfl rfl ?_
  refine e_bipush d_181_1 cb_13 rfl ?_
  refine e_icmp_lt (t := 11) d_181_3 (by decide) rfl (fun hc => ?_) (fun hc => ?_)
  · replace H := H.1 hc
    refine e_iload_n d_181_11 rfl rfl ?_
    refine e_bipush d_181_12 cb_11 rfl ?_
    refine e_icmp_lt (t := 21) d_181_14 (by decide) rfl (fun hc => ?_) (fun hc => ?_)
    · replace H := H.1 hc
      refine e_iload_n d_181_21 rfl rfl ?_
      refine e_iconst d_181_22 ci_5 rfl ?_
      refine e_icmp_lt (t := 30) d_181_23 (by decide) rfl (fun hc => ?_) (fun hc => ?_)
      · replace H := H.1 hc
        refine e_iload_n d_181_30 rfl rfl ?_
        refine e_iconst d_181_31 ci_2 rfl ?_
        refine e_icmp_ne (t := 39) d_181_32 (by decide) rfl (fun hc => ?_) (fun hc => ?_)
        · replace H := H.2 hc
          refine e_iload_n d_181_39 rfl rfl ?_
          refine e_iconst d_181_40 ci_3 rfl ?_
          refine e_icmp_ne (t := 48) d_181_41 (by decide) rfl (fun hc => ?_) (fun hc => ?_)
          · replace H := H.2 hc
            refine e_iload_n d_181_48 rfl rfl ?_
            refine e_iconst d_181_49 ci_4 rfl ?_
            refine e_icmp_ne (t := 57) d_181_50 (by decide) rfl (fun hc => ?_) (fun hc => ?_)
            · replace H := H.2 hc
              refine e_iconst d_181_57 ci_0 rfl ?_
              subst H
              exact e_iret d_181_58 rr_181
            · replace H := H.1 hc
              refine e_iconst d_181_53 ci_1 rfl ?_
              refine e_goto (t := 58) d_181_54 (by decide) ?_
              subst H
              exact e_iret d_181_58 rr_181
          · replace H := H.1 hc
            refine e_iconst d_181_44 ci_2 rfl ?_
            refine e_goto (t := 58) d_181_45 (by decide) ?_
            subst H
            exact e_iret d_181_58 rr_181
        · replace H := H.1 hc
          refine e_iconst d_181_35 ci_3 rfl ?_
          refine e_goto (t := 58) d_181_36 (by decide) ?_
          subst H
          exact e_iret d_181_58 rr_181
      · replace H := H.2 hc
        refine e_iconst d_181_26 ci_4 rfl ?_
        refine e_goto (t := 58) d_181_27 (by decide) ?_
        subst H
        exact e_iret d_181_58 rr_181
    · replace H := H.2 hc
      refine e_iconst d_181_17 ci_5 rfl ?_
      refine e_goto (t := 58) d_181_18 (by decide) ?_
      subst H
      exact e_iret d_181_58 rr_181
  · replace H := H.2 hc
    refine e_bipush d_181_6 cb_6 rfl ?_
    refine e_goto (t := 58) d_181_8 (by decide) ?_
    subst H
    exact e_iret d_181_58 rr_181
/-! X9_grown -/
theorem b_182_0 {t : Nat} {σ : Mm} {w : Option Value × Mm} {x1 : Int32} {x2 : Int32} {x3 : Int32} (hS : Sg t σ) 
    (H : inb (64 + (mI σ 59 21)) 128 = true ∧ (∀ (σ1 : Mm), σ1 = uI σ 75 (64 + (mI σ 59 21)).toNatClampNeg x1 → (inb (64 + (mI σ1 59 21)) 128 = true ∧ (∀ (σ4 : Mm), σ4 = uI σ1 76 (64 + (mI σ1 59 21)).toNatClampNeg x2 → (inb (64 + (mI σ4 59 21)) 128 = true ∧ (∀ (σ7 : Mm), σ7 = uI σ4 77 (64 + (mI σ4 59 21)).toNatClampNeg x3 → (inb (mI σ7 59 41) 96 = true ∧ (∀ (σ10 : Mm), σ10 = uI σ7 79 (mI σ7 59 41).toNatClampNeg (mI σ7 59 21) → (∀ (σ13 : Mm), σ13 = uI (uI σ10 59 41 ((mI σ10 59 41) + 1)) 59 21 ((mI (uI σ10 59 41 ((mI σ10 59 41) + 1)) 59 21) + 1) → (w = (none, σ13))))))))))) :
    Ev 182 0 [.ref 59, .int x1, .int x2, .int x3] [] σ w := by
  refine e_aload_n d_182_0 rfl rfl ?_
  refine e_getR d_182_1 oo_182 pF_9_60 (by decide) (hS.k rfl) (hS.r rt_59_35) rfl ?_
  refine e_bipush d_182_4 cb_64 rfl ?_
  refine e_aload_n d_182_6 rfl rfl ?_
  refine e_getI d_182_7 oo_182 pF_9_216 (by decide) (hS.k rfl) rfl ?_
  refine e_iadd d_182_10 rfl ?_
  refine e_iload_n d_182_11 rfl rfl ?_
  obtain ⟨hb, H⟩ := H
  refine e_iastore d_182_12 (okI_at (hS.k rfl) hb) rfl ?_
  generalize hm2 : uI σ 75 (64 + (mI σ 59 21)).toNatClampNeg x1 = σ1
  have hS3 : Sg t σ1 := by rw [← hm2]; exact hS.uI
  replace H := H σ1 hm2.symm
  refine e_aload_n d_182_13 rfl rfl ?_
  refine e_getR d_182_14 oo_182 pF_9_63 (by decide) (hS3.k rfl) (hS3.r rt_59_36) rfl ?_
  refine e_bipush d_182_17 cb_64 rfl ?_
  refine e_aload_n d_182_19 rfl rfl ?_
  refine e_getI d_182_20 oo_182 pF_9_216 (by decide) (hS3.k rfl) rfl ?_
  refine e_iadd d_182_23 rfl ?_
  refine e_iload_n d_182_24 rfl rfl ?_
  obtain ⟨hb, H⟩ := H
  refine e_iastore d_182_25 (okI_at (hS3.k rfl) hb) rfl ?_
  generalize hm5 : uI σ1 76 (64 + (mI σ1 59 21)).toNatClampNeg x2 = σ4
  have hS6 : Sg t σ4 := by rw [← hm5]; exact hS3.uI
  replace H := H σ4 hm5.symm
  refine e_aload_n d_182_26 rfl rfl ?_
  refine e_getR d_182_27 oo_182 pF_9_66 (by decide) (hS6.k rfl) (hS6.r rt_59_37) rfl ?_
  refine e_bipush d_182_30 cb_64 rfl ?_
  refine e_aload_n d_182_32 rfl rfl ?_
  refine e_getI d_182_33 oo_182 pF_9_216 (by decide) (hS6.k rfl) rfl ?_
  refine e_iadd d_182_36 rfl ?_
  refine e_iload_n d_182_37 rfl rfl ?_
  obtain ⟨hb, H⟩ := H
  refine e_iastore d_182_38 (okI_at (hS6.k rfl) hb) rfl ?_
  generalize hm8 : uI σ4 77 (64 + (mI σ4 59 21)).toNatClampNeg x3 = σ7
  have hS9 : Sg t σ7 := by rw [← hm8]; exact hS6.uI
  replace H := H σ7 hm8.symm
  refine e_aload_n d_182_39 rfl rfl ?_
  refine e_getR d_182_40 oo_182 pF_9_72 (by decide) (hS9.k rfl) (hS9.r rt_59_39) rfl ?_
  refine e_aload_n d_182_43 rfl rfl ?_
  refine e_getI d_182_44 oo_182 pF_9_286 (by decide) (hS9.k rfl) rfl ?_
  refine e_aload_n d_182_47 rfl rfl ?_
  refine e_getI d_182_48 oo_182 pF_9_216 (by decide) (hS9.k rfl) rfl ?_
  obtain ⟨hb, H⟩ := H
  refine e_iastore d_182_51 (okI_at (hS9.k rfl) hb) rfl ?_
  generalize hm11 : uI σ7 79 (mI σ7 59 41).toNatClampNeg (mI σ7 59 21) = σ10
  have hS12 : Sg t σ10 := by rw [← hm11]; exact hS9.uI
  replace H := H σ10 hm11.symm
  refine e_aload_n d_182_52 rfl rfl ?_
  refine e_dup d_182_53 rfl rfl ?_
  refine e_getI d_182_54 oo_182 pF_9_286 (by decide) (hS12.k rfl) rfl ?_
  refine e_iconst d_182_57 ci_1 rfl ?_
  refine e_iadd d_182_58 rfl ?_
  refine e_putI d_182_59 oo_182 pF_9_286 (Or.inl rfl) (hS12.k rfl) rfl ?_
  refine e_aload_n d_182_62 rfl rfl ?_
  refine e_dup d_182_63 rfl rfl ?_
  refine e_getI d_182_64 oo_182 pF_9_216 (by decide) (hS12.uI.k rfl) rfl ?_
  refine e_iconst d_182_67 ci_1 rfl ?_
  refine e_iadd d_182_68 rfl ?_
  refine e_putI d_182_69 oo_182 pF_9_216 (Or.inl rfl) (hS12.uI.k rfl) rfl ?_
  generalize hm14 : uI (uI σ10 59 41 ((mI σ10 59 41) + 1)) 59 21 ((mI (uI σ10 59 41 ((mI σ10 59 41) + 1)) 59 21) + 1) = σ13
  have hS15 : Sg t σ13 := by rw [← hm14]; exact hS12.uI.uI
  replace H := H σ13 hm14.symm
  subst H
  exact e_vret d_182_72 rr_182
/-! X9_dropHeld -/
theorem b_183_0 {t : Nat} {σ : Mm} {w : Option Value × Mm}  (hS : Sg t σ) 
    (H : inb (mI (uI σ 59 41 ((mI σ 59 41) - 1)) 59 41) 96 = true ∧ (w = (some (.int (mI (uI σ 59 41 ((mI σ 59 41) - 1)) 79 (mI (uI σ 59 41 ((mI σ 59 41) - 1)) 59 41).toNatClampNeg)), uI σ 59 41 ((mI σ 59 41) - 1)))) :
    Ev 183 0 [.ref 59] [] σ w := by
  refine e_aload_n d_183_0 rfl rfl ?_
  refine e_dup d_183_1 rfl rfl ?_
  refine e_getI d_183_2 oo_183 pF_9_286 (by decide) (hS.k rfl) rfl ?_
  refine e_iconst d_183_5 ci_1 rfl ?_
  refine e_isub d_183_6 rfl ?_
  refine e_putI d_183_7 oo_183 pF_9_286 (Or.inl rfl) (hS.k rfl) rfl ?_
  refine e_aload_n d_183_10 rfl rfl ?_
  refine e_getR d_183_11 oo_183 pF_9_72 (by decide) (hS.uI.k rfl) (hS.uI.r rt_59_39) rfl ?_
  refine e_aload_n d_183_14 rfl rfl ?_
  refine e_getI d_183_15 oo_183 pF_9_286 (by decide) (hS.uI.k rfl) rfl ?_
  obtain ⟨hb, H⟩ := H
  refine e_iaload (v := (mI (uI σ 59 41 ((mI σ 59 41) - 1)) 79 (mI (uI σ 59 41 ((mI σ 59 41) - 1)) 59 41).toNatClampNeg)) d_183_18 (rdI_at (hS.uI.k rfl) hb) rfl ?_
  subst H
  exact e_iret d_183_19 rr_183
/-! X9_bind -/
theorem b_184_0 {t : Nat} {σ : Mm} {w : Option Value × Mm} {x1 : Int32} (hS : Sg t σ) 
    (H : (0 < (mI σ 59 40) → (inb ((mI σ 59 40) - 1) 96 = true ∧ (∃ (v3 : Int32) (σ1 : Mm), Cl 181 [.int (mI σ 78 ((mI σ 59 40) - 1).toNatClampNeg)] σ (some (.int v3), σ1) ∧ Sg t σ1 ∧ ((v3 < x1 → (w = (none, σ1))) ∧ (¬ (v3 < x1) → (inb (mI (uI σ1 59 40 ((mI σ1 59 40) - 1)) 59 40) 96 = true ∧ (((mI (uI σ1 59 40 ((mI σ1 59 40) - 1)) 78 (mI (uI σ1 59 40 ((mI σ1 59 40) - 1)) 59 40).toNatClampNeg) = 2 → (∃ (v15 : Int32) (σ13 : Mm), Cl 183 [.ref 59] (uI σ1 59 40 ((mI σ1 59 40) - 1)) (some (.int v15), σ13) ∧ Sg t σ13 ∧ (∃ (σ16 : Mm), Cl 182 [.ref 59, .int (mI (uI σ1 59 40 ((mI σ1 59 40) - 1)) 78 (mI (uI σ1 59 40 ((mI σ1 59 40) - 1)) 59 40).toNatClampNeg), .int v15, .int (-1)] σ13 (none, σ16) ∧ Sg t σ16 ∧ Ev 184 0 [.ref 59, .int x1, .int (mI (uI σ1 59 40 ((mI σ1 59 40) - 1)) 78 (mI (uI σ1 59 40 ((mI σ1 59 40) - 1)) 59 40).toNatClampNeg), .int (-1), .int v15] [] σ16 w))) ∧ (¬ ((mI (uI σ1 59 40 ((mI σ1 59 40) - 1)) 78 (mI (uI σ1 59 40 ((mI σ1 59 40) - 1)) 59 40).toNatClampNeg) = 2) → (∃ (v6 : Int32) (σ4 : Mm), Cl 183 [.ref 59] (uI σ1 59 40 ((mI σ1 59 40) - 1)) (some (.int v6), σ4) ∧ Sg t σ4 ∧ (∃ (v9 : Int32) (σ7 : Mm), Cl 183 [.ref 59] σ4 (some (.int v9), σ7) ∧ Sg t σ7 ∧ (∃ (σ10 : Mm), Cl 182 [.ref 59, .int (mI (uI σ1 59 40 ((mI σ1 59 40) - 1)) 78 (mI (uI σ1 59 40 ((mI σ1 59 40) - 1)) 59 40).toNatClampNeg), .int v9, .int v6] σ7 (none, σ10) ∧ Sg t σ10 ∧ Ev 184 0 [.ref 59, .int x1, .int (mI (uI σ1 59 40 ((mI σ1 59 40) - 1)) 78 (mI (uI σ1 59 40 ((mI σ1 59 40) - 1)) 59 40).toNatClampNeg), .int v6, .int v9] [] σ10 w))))))))))) ∧ (¬ (0 < (mI σ 59 40)) → (w = (none, σ)))) :
    Ev 184 0 [.ref 59, .int x1, .retAddr 0, .retAddr 0, .retAddr 0] [] σ w := by
  refine e_aload_n d_184_0 rfl rfl ?_
  refine e_getI d_184_1 oo_184 pF_9_289 (by decide) (hS.k rfl) rfl ?_
  refine e_if_le (t := 76) d_184_4 (by decide) rfl (fun hc => ?_) (fun hc => ?_)
  · replace H := H.2 hc
    subst H
    exact e_vret d_184_76 rr_184
  · replace H := H.1 hc
    refine e_aload_n d_184_7 rfl rfl ?_
    refine e_getR d_184_8 oo_184 pF_9_69 (by decide) (hS.k rfl) (hS.r rt_59_38) rfl ?_
    refine e_aload_n d_184_11 rfl rfl ?_
    refine e_getI d_184_12 oo_184 pF_9_289 (by decide) (hS.k rfl) rfl ?_
    refine e_iconst d_184_15 ci_1 rfl ?_
    refine e_isub d_184_16 rfl ?_
    obtain ⟨hb, H⟩ := H
    refine e_iaload (v := (mI σ 78 ((mI σ 59 40) - 1).toNatClampNeg)) d_184_17 (rdI_at (hS.k rfl) hb) rfl ?_
    obtain ⟨v3, σ1, hcl, hS2, H⟩ := H
    refine e_scall (w1 := (some (.int v3), σ1)) d_184_18 kc_184_18 rfl ⟨Nat.le_of_ble_eq_true rfl, xx_184.symm⟩ rfl hcl ?_
    show Ev 184 21 [.ref 59, .int x1, .retAddr 0, .retAddr 0, .retAddr 0] [.int v3] σ1 w
    refine e_iload_n d_184_21 rfl rfl ?_
    refine e_icmp_lt (t := 76) d_184_22 (by decide) rfl (fun hc => ?_) (fun hc => ?_)
    · replace H := H.1 hc
      subst H
      exact e_vret d_184_76 rr_184
    · replace H := H.2 hc
      refine e_aload_n d_184_25 rfl rfl ?_
      refine e_dup d_184_26 rfl rfl ?_
      refine e_getI d_184_27 oo_184 pF_9_289 (by decide) (hS2.k rfl) rfl ?_
      refine e_iconst d_184_30 ci_1 rfl ?_
      refine e_isub d_184_31 rfl ?_
      refine e_putI d_184_32 oo_184 pF_9_289 (Or.inl rfl) (hS2.k rfl) rfl ?_
      refine e_aload_n d_184_35 rfl rfl ?_
      refine e_getR d_184_36 oo_184 pF_9_69 (by decide) (hS2.uI.k rfl) (hS2.uI.r rt_59_38) rfl ?_
      refine e_aload_n d_184_39 rfl rfl ?_
      refine e_getI d_184_40 oo_184 pF_9_289 (by decide) (hS2.uI.k rfl) rfl ?_
      obtain ⟨hb, H⟩ := H
      refine e_iaload (v := (mI (uI σ1 59 40 ((mI σ1 59 40) - 1)) 78 (mI (uI σ1 59 40 ((mI σ1 59 40) - 1)) 59 40).toNatClampNeg)) d_184_43 (rdI_at (hS2.uI.k rfl) hb) rfl ?_
      refine e_istore_n (ls2 := [.ref 59, .int x1, .int (mI (uI σ1 59 40 ((mI σ1 59 40) - 1)) 78 (mI (uI σ1 59 40 ((mI σ1 59 40) - 1)) 59 40).toNatClampNeg), .retAddr 0, .retAddr 0]) d_184_44 rfl rfl rfl ?_
      refine e_iload_n d_184_45 rfl rfl ?_
      refine e_iconst d_184_46 ci_2 rfl ?_
      refine e_icmp_ne (t := 54) d_184_47 (by decide) rfl (fun hc => ?_) (fun hc => ?_)
      · replace H := H.2 hc
        refine e_aload_n d_184_54 rfl rfl ?_
        obtain ⟨v6, σ4, hcl, hS5, H⟩ := H
        refine e_vcall (w1 := (some (.int v6), σ4)) d_184_55 kc_184_55 rfl ⟨Nat.le_of_ble_eq_true rfl, xx_184.symm⟩ rfl hcl ?_
        show Ev 184 58 [.ref 59, .int x1, .int (mI (uI σ1 59 40 ((mI σ1 59 40) - 1)) 78 (mI (uI σ1 59 40 ((mI σ1 59 40) - 1)) 59 40).toNatClampNeg), .retAddr 0, .retAddr 0] [.int v6] σ4 w
        refine e_istore_n (ls2 := [.ref 59, .int x1, .int (mI (uI σ1 59 40 ((mI σ1 59 40) - 1)) 78 (mI (uI σ1 59 40 ((mI σ1 59 40) - 1)) 59 40).toNatClampNeg), .int v6, .retAddr 0]) d_184_58 rfl rfl rfl ?_
        refine e_aload_n d_184_59 rfl rfl ?_
        obtain ⟨v9, σ7, hcl, hS8, H⟩ := H
        refine e_vcall (w1 := (some (.int v9), σ7)) d_184_60 kc_184_60 rfl ⟨Nat.le_of_ble_eq_true rfl, xx_184.symm⟩ rfl hcl ?_
        show Ev 184 63 [.ref 59, .int x1, .int (mI (uI σ1 59 40 ((mI σ1 59 40) - 1)) 78 (mI (uI σ1 59 40 ((mI σ1 59 40) - 1)) 59 40).toNatClampNeg), .int v6, .retAddr 0] [.int v9] σ7 w
        refine e_istore (ls2 := [.ref 59, .int x1, .int (mI (uI σ1 59 40 ((mI σ1 59 40) - 1)) 78 (mI (uI σ1 59 40 ((mI σ1 59 40) - 1)) 59 40).toNatClampNeg), .int v6, .int v9]) d_184_63 rfl rfl rfl ?_
        refine e_aload_n d_184_65 rfl rfl ?_
        refine e_iload_n d_184_66 rfl rfl ?_
        refine e_iload d_184_67 rfl rfl ?_
        refine e_iload_n d_184_69 rfl rfl ?_
        obtain ⟨σ10, hcl, hS11, H⟩ := H
        refine e_vcall (w1 := (none, σ10)) d_184_70 kc_184_70 rfl ⟨Nat.le_of_ble_eq_true rfl, xx_184.symm⟩ rfl hcl ?_
        show Ev 184 73 [.ref 59, .int x1, .int (mI (uI σ1 59 40 ((mI σ1 59 40) - 1)) 78 (mI (uI σ1 59 40 ((mI σ1 59 40) - 1)) 59 40).toNatClampNeg), .int v6, .int v9] [] σ10 w
        refine e_goto (t := 0) d_184_73 (by decide) ?_
        exact H
      · replace H := H.1 hc
        refine e_iconst d_184_50 ci_m1 rfl ?_
        refine e_goto (t := 58) d_184_51 (by decide) ?_
        refine e_istore_n (ls2 := [.ref 59, .int x1, .int (mI (uI σ1 59 40 ((mI σ1 59 40) - 1)) 78 (mI (uI σ1 59 40 ((mI σ1 59 40) - 1)) 59 40).toNatClampNeg), .int (-1), .retAddr 0]) d_184_58 rfl rfl rfl ?_
        refine e_aload_n d_184_59 rfl rfl ?_
        obtain ⟨v15, σ13, hcl, hS14, H⟩ := H
        refine e_vcall (w1 := (some (.int v15), σ13)) d_184_60 kc_184_60 rfl ⟨Nat.le_of_ble_eq_true rfl, xx_184.symm⟩ rfl hcl ?_
        show Ev 184 63 [.ref 59, .int x1, .int (mI (uI σ1 59 40 ((mI σ1 59 40) - 1)) 78 (mI (uI σ1 59 40 ((mI σ1 59 40) - 1)) 59 40).toNatClampNeg), .int (-1), .retAddr 0] [.int v15] σ13 w
        refine e_istore (ls2 := [.ref 59, .int x1, .int (mI (uI σ1 59 40 ((mI σ1 59 40) - 1)) 78 (mI (uI σ1 59 40 ((mI σ1 59 40) - 1)) 59 40).toNatClampNeg), .int (-1), .int v15]) d_184_63 rfl rfl rfl ?_
        refine e_aload_n d_184_65 rfl rfl ?_
        refine e_iload_n d_184_66 rfl rfl ?_
        refine e_iload d_184_67 rfl rfl ?_
        refine e_iload_n d_184_69 rfl rfl ?_
        obtain ⟨σ16, hcl, hS17, H⟩ := H
        refine e_vcall (w1 := (none, σ16)) d_184_70 kc_184_70 rfl ⟨Nat.le_of_ble_eq_true rfl, xx_184.symm⟩ rfl hcl ?_
        show Ev 184 73 [.ref 59, .int x1, .int (mI (uI σ1 59 40 ((mI σ1 59 40) - 1)) 78 (mI (uI σ1 59 40 ((mI σ1 59 40) - 1)) 59 40).toNatClampNeg), .int (-1), .int v15] [] σ16 w
        refine e_goto (t := 0) d_184_73 (by decide) ?_
        exact H
/-! X9_isCounted -/
theorem b_185_0 {t : Nat} {σ : Mm} {w : Option Value × Mm}  (hS : Sg t σ) 
    (H : ((mI σ 59 43) = 64 → (∃ (v3 : Int32) (σ1 : Mm), Cl 154 [.ref 59, .int 2] σ (some (.int v3), σ1) ∧ Sg t σ1 ∧ ((v3 = 0 ∨ v3 = 1) ∧ w = (some (.int v3), σ1)))) ∧ (¬ ((mI σ 59 43) = 64) → (w = (some (.int 1), uI σ 59 43 ((mI σ 59 43) + 1))))) :
    Ev 185 0 [.ref 59] [] σ w := by
  refine e_aload_n d_185_0 rfl rfl ?_
  refine e_getI d_185_1 oo_185 pF_9_219 (by decide) (hS.k rfl) rfl ?_
  refine e_bipush d_185_4 cb_64 rfl ?_
  refine e_icmp_ne (t := 15) d_185_6 (by decide) rfl (fun hc => ?_) (fun hc => ?_)
  · replace H := H.2 hc
    refine e_aload_n d_185_15 rfl rfl ?_
    refine e_dup d_185_16 rfl rfl ?_
    refine e_getI d_185_17 oo_185 pF_9_219 (by decide) (hS.k rfl) rfl ?_
    refine e_iconst d_185_20 ci_1 rfl ?_
    refine e_iadd d_185_21 rfl ?_
    refine e_putI d_185_22 oo_185 pF_9_219 (Or.inl rfl) (hS.k rfl) rfl ?_
    refine e_iconst d_185_25 ci_1 rfl ?_
    subst H
    exact e_zret d_185_26 rr_185 (Or.inr rfl)
  · replace H := H.1 hc
    refine e_aload_n d_185_9 rfl rfl ?_
    refine e_iconst d_185_10 ci_2 rfl ?_
    obtain ⟨v3, σ1, hcl, hS2, H⟩ := H
    refine e_vcall (w1 := (some (.int v3), σ1)) d_185_11 kc_185_11 rfl ⟨Nat.le_of_ble_eq_true rfl, xx_185.symm⟩ rfl hcl ?_
    show Ev 185 14 [.ref 59] [.int v3] σ1 w
    obtain ⟨hz, H⟩ := H
    subst H
    exact e_zret d_185_14 rr_185 hz
/-! X9_waitsFor -/
theorem b_186_0 {t : Nat} {σ : Mm} {w : Option Value × Mm} {x1 : Int32} (hS : Sg t σ) 
    (H : inb (mI σ 59 40) 96 = true ∧ (∀ (σ1 : Mm), σ1 = uI (uI σ 78 (mI σ 59 40).toNatClampNeg x1) 59 40 ((mI (uI σ 78 (mI σ 59 40).toNatClampNeg x1) 59 40) + 1) → (w = (none, σ1)))) :
    Ev 186 0 [.ref 59, .int x1] [] σ w := by
  refine e_aload_n d_186_0 rfl rfl ?_
  refine e_getR d_186_1 oo_186 pF_9_69 (by decide) (hS.k rfl) (hS.r rt_59_38) rfl ?_
  refine e_aload_n d_186_4 rfl rfl ?_
  refine e_getI d_186_5 oo_186 pF_9_289 (by decide) (hS.k rfl) rfl ?_
  refine e_iload_n d_186_8 rfl rfl ?_
  obtain ⟨hb, H⟩ := H
  refine e_iastore d_186_9 (okI_at (hS.k rfl) hb) rfl ?_
  refine e_aload_n d_186_10 rfl rfl ?_
  refine e_dup d_186_11 rfl rfl ?_
  refine e_getI d_186_12 oo_186 pF_9_289 (by decide) (hS.uI.k rfl) rfl ?_
  refine e_iconst d_186_15 ci_1 rfl ?_
  refine e_iadd d_186_16 rfl ?_
  refine e_putI d_186_17 oo_186 pF_9_289 (Or.inl rfl) (hS.uI.k rfl) rfl ?_
  generalize hm2 : uI (uI σ 78 (mI σ 59 40).toNatClampNeg x1) 59 40 ((mI (uI σ 78 (mI σ 59 40).toNatClampNeg x1) 59 40) + 1) = σ1
  have hS3 : Sg t σ1 := by rw [← hm2]; exact hS.uI.uI
  replace H := H σ1 hm2.symm
  subst H
  exact e_vret d_186_20 rr_186
/-! X9_nameMet -/
theorem b_187_0 {t : Nat} {σ : Mm} {w : Option Value × Mm}  (hS : Sg t σ) 
    (H : ((mI σ 59 8) = 1 → (((mI σ 59 9) < 14 → (w = (some (.int (-1)), σ))) ∧ (¬ ((mI σ 59 9) < 14) → (w = (some (.int ((mI σ 59 9) - 14)), σ))))) ∧ (¬ ((mI σ 59 8) = 1) → (w = (some (.int (-1)), σ)))) :
    Ev 187 0 [.ref 59] [] σ w := by
  refine e_aload_n d_187_0 rfl rfl ?_
  refine e_getI d_187_1 oo_187 pF_9_160 (by decide) (hS.k rfl) rfl ?_
  refine e_iconst d_187_4 ci_1 rfl ?_
  refine e_icmp_ne (t := 27) d_187_5 (by decide) rfl (fun hc => ?_) (fun hc => ?_)
  · replace H := H.2 hc
    refine e_iconst d_187_27 ci_m1 rfl ?_
    subst H
    exact e_iret d_187_28 rr_187
  · replace H := H.1 hc
    refine e_aload_n d_187_8 rfl rfl ?_
    refine e_getI d_187_9 oo_187 pF_9_171 (by decide) (hS.k rfl) rfl ?_
    refine e_bipush d_187_12 cb_14 rfl ?_
    refine e_icmp_lt (t := 27) d_187_14 (by decide) rfl (fun hc => ?_) (fun hc => ?_)
    · replace H := H.1 hc
      refine e_iconst d_187_27 ci_m1 rfl ?_
      subst H
      exact e_iret d_187_28 rr_187
    · replace H := H.2 hc
      refine e_aload_n d_187_17 rfl rfl ?_
      refine e_getI d_187_18 oo_187 pF_9_171 (by decide) (hS.k rfl) rfl ?_
      refine e_bipush d_187_21 cb_14 rfl ?_
      refine e_isub d_187_23 rfl ?_
      refine e_goto (t := 28) d_187_24 (by decide) ?_
      subst H
      exact e_iret d_187_28 rr_187
/-! X9_leafRead -/
theorem b_188_0 {t : Nat} {σ : Mm} {w : Option Value × Mm}  (hS : Sg t σ) 
    (H : ∃ (v3 : Int32) (σ1 : Mm), Cl 162 [.ref 59, .int 40] σ (some (.int v3), σ1) ∧ Sg t σ1 ∧ ((v3 = 0 → (∃ (v6 : Int32) (σ4 : Mm), Cl 161 [.ref 59, .int 13] σ1 (some (.int v6), σ4) ∧ Sg t σ4 ∧ ((v6 = 0 → (∃ (v9 : Int32) (σ7 : Mm), Cl 187 [.ref 59] σ4 (some (.int v9), σ7) ∧ Sg t σ7 ∧ ((v9 < 0 → (((mI σ7 59 8) = 3 → Ev 188 109 [.ref 59, .int v9] [] σ7 w) ∧ (¬ ((mI σ7 59 8) = 3) → (∃ (v12 : Int32) (σ10 : Mm), Cl 154 [.ref 59, .int 1] σ7 (some (.int v12), σ10) ∧ Sg t σ10 ∧ ((v12 = 0 ∨ v12 = 1) ∧ w = (some (.int v12), σ10)))))) ∧ (¬ (v9 < 0) → Ev 188 109 [.ref 59, .int v9] [] σ7 w)))) ∧ (¬ (v6 = 0) → (((mI σ4 59 45) = 0 → (∃ (v15 : Int32) (σ13 : Mm), Cl 187 [.ref 59] σ4 (some (.int v15), σ13) ∧ Sg t σ13 ∧ ((v15 < 0 → (((mI σ13 59 8) = 3 → Ev 188 109 [.ref 59, .int v15] [] σ13 w) ∧ (¬ ((mI σ13 59 8) = 3) → (∃ (v18 : Int32) (σ16 : Mm), Cl 154 [.ref 59, .int 1] σ13 (some (.int v18), σ16) ∧ Sg t σ16 ∧ ((v18 = 0 ∨ v18 = 1) ∧ w = (some (.int v18), σ16)))))) ∧ (¬ (v15 < 0) → Ev 188 109 [.ref 59, .int v15] [] σ13 w)))) ∧ (¬ ((mI σ4 59 45) = 0) → (∃ (v21 : Int32) (σ19 : Mm), Cl 185 [.ref 59] σ4 (some (.int v21), σ19) ∧ Sg t σ19 ∧ ((v21 = 0 → (w = (some (.int 0), σ19))) ∧ (¬ (v21 = 0) → (∃ (σ22 : Mm), Cl 186 [.ref 59, .int 2] σ19 (none, σ22) ∧ Sg t σ22 ∧ (∃ (σ25 : Mm), Cl 158 [.ref 59] σ22 (none, σ25) ∧ Sg t σ25 ∧ (w = (some (.int 1), σ25))))))))))))) ∧ (¬ (v3 = 0) → (((mI σ1 59 42) = 8 → (∃ (v36 : Int32) (σ34 : Mm), Cl 154 [.ref 59, .int 2] σ1 (some (.int v36), σ34) ∧ Sg t σ34 ∧ ((v36 = 0 ∨ v36 = 1) ∧ w = (some (.int v36), σ34)))) ∧ (¬ ((mI σ1 59 42) = 8) → (∃ (σ28 : Mm), Cl 186 [.ref 59, .int 0] (uI σ1 59 42 ((mI σ1 59 42) + 1)) (none, σ28) ∧ Sg t σ28 ∧ (∃ (σ31 : Mm), Cl 158 [.ref 59] (uI σ28 59 45 1) (none, σ31) ∧ Sg t σ31 ∧ (w = (some (.int 1), σ31))))))))) :
    Ev 188 0 [.ref 59, .retAddr 0] [] σ w := by
  refine e_aload_n d_188_0 rfl rfl ?_
  refine e_bipush d_188_1 cb_40 rfl ?_
  obtain ⟨v3, σ1, hcl, hS2, H⟩ := H
  refine e_vcall (w1 := (some (.int v3), σ1)) d_188_3 kc_188_3 rfl ⟨Nat.le_of_ble_eq_true rfl, xx_188.symm⟩ rfl hcl ?_
  show Ev 188 6 [.ref 59, .retAddr 0] [.int v3] σ1 w
  refine e_if_eq (t := 50) d_188_6 (by decide) rfl (fun hc => ?_) (fun hc => ?_)
  · replace H := H.1 hc
    refine e_aload_n d_188_50 rfl rfl ?_
    refine e_bipush d_188_51 cb_13 rfl ?_
    obtain ⟨v6, σ4, hcl, hS5, H⟩ := H
    refine e_vcall (w1 := (some (.int v6), σ4)) d_188_53 kc_188_53 rfl ⟨Nat.le_of_ble_eq_true rfl, xx_188.symm⟩ rfl hcl ?_
    show Ev 188 56 [.ref 59, .retAddr 0] [.int v6] σ4 w
    refine e_if_eq (t := 86) d_188_56 (by decide) rfl (fun hc => ?_) (fun hc => ?_)
    · replace H := H.1 hc
      refine e_aload_n d_188_86 rfl rfl ?_
      obtain ⟨v9, σ7, hcl, hS8, H⟩ := H
      refine e_vcall (w1 := (some (.int v9), σ7)) d_188_87 kc_188_87 rfl ⟨Nat.le_of_ble_eq_true rfl, xx_188.symm⟩ rfl hcl ?_
      show Ev 188 90 [.ref 59, .retAddr 0] [.int v9] σ7 w
      refine e_istore_n (ls2 := [.ref 59, .int v9]) d_188_90 rfl rfl rfl ?_
      refine e_iload_n d_188_91 rfl rfl ?_
      refine e_if_ge (t := 109) d_188_92 (by decide) rfl (fun hc => ?_) (fun hc => ?_)
      · replace H := H.2 hc
        exact H
      · replace H := H.1 hc
        refine e_aload_n d_188_95 rfl rfl ?_
        refine e_getI d_188_96 oo_188 pF_9_160 (by decide) (hS8.k rfl) rfl ?_
        refine e_iconst d_188_99 ci_3 rfl ?_
        refine e_icmp_eq (t := 109) d_188_100 (by decide) rfl (fun hc => ?_) (fun hc => ?_)
        · replace H := H.1 hc
          exact H
        · replace H := H.2 hc
          refine e_aload_n d_188_103 rfl rfl ?_
          refine e_iconst d_188_104 ci_1 rfl ?_
          obtain ⟨v12, σ10, hcl, hS11, H⟩ := H
          refine e_vcall (w1 := (some (.int v12), σ10)) d_188_105 kc_188_105 rfl ⟨Nat.le_of_ble_eq_true rfl, xx_188.symm⟩ rfl hcl ?_
          show Ev 188 108 [.ref 59, .int v9] [.int v12] σ10 w
          obtain ⟨hz, H⟩ := H
          subst H
          exact e_zret d_188_108 rr_188 hz
    · replace H := H.2 hc
      refine e_aload_n d_188_59 rfl rfl ?_
      refine e_getZ d_188_60 oo_188 pF_9_311 (by decide) (hS5.k rfl) rfl ?_
      refine e_if_eq (t := 86) d_188_63 (by decide) rfl (fun hc => ?_) (fun hc => ?_)
      · replace H := H.1 hc
        refine e_aload_n d_188_86 rfl rfl ?_
        obtain ⟨v15, σ13, hcl, hS14, H⟩ := H
        refine e_vcall (w1 := (some (.int v15), σ13)) d_188_87 kc_188_87 rfl ⟨Nat.le_of_ble_eq_true rfl, xx_188.symm⟩ rfl hcl ?_
        show Ev 188 90 [.ref 59, .retAddr 0] [.int v15] σ13 w
        refine e_istore_n (ls2 := [.ref 59, .int v15]) d_188_90 rfl rfl rfl ?_
        refine e_iload_n d_188_91 rfl rfl ?_
        refine e_if_ge (t := 109) d_188_92 (by decide) rfl (fun hc => ?_) (fun hc => ?_)
        · replace H := H.2 hc
          exact H
        · replace H := H.1 hc
          refine e_aload_n d_188_95 rfl rfl ?_
          refine e_getI d_188_96 oo_188 pF_9_160 (by decide) (hS14.k rfl) rfl ?_
          refine e_iconst d_188_99 ci_3 rfl ?_
          refine e_icmp_eq (t := 109) d_188_100 (by decide) rfl (fun hc => ?_) (fun hc => ?_)
          · replace H := H.1 hc
            exact H
          · replace H := H.2 hc
            refine e_aload_n d_188_103 rfl rfl ?_
            refine e_iconst d_188_104 ci_1 rfl ?_
            obtain ⟨v18, σ16, hcl, hS17, H⟩ := H
            refine e_vcall (w1 := (some (.int v18), σ16)) d_188_105 kc_188_105 rfl ⟨Nat.le_of_ble_eq_true rfl, xx_188.symm⟩ rfl hcl ?_
            show Ev 188 108 [.ref 59, .int v15] [.int v18] σ16 w
            obtain ⟨hz, H⟩ := H
            subst H
            exact e_zret d_188_108 rr_188 hz
      · replace H := H.2 hc
        refine e_aload_n d_188_66 rfl rfl ?_
        obtain ⟨v21, σ19, hcl, hS20, H⟩ := H
        refine e_vcall (w1 := (some (.int v21), σ19)) d_188_67 kc_188_67 rfl ⟨Nat.le_of_ble_eq_true rfl, xx_188.symm⟩ rfl hcl ?_
        show Ev 188 70 [.ref 59, .retAddr 0] [.int v21] σ19 w
        refine e_if_ne (t := 75) d_188_70 (by decide) rfl (fun hc => ?_) (fun hc => ?_)
        · replace H := H.2 hc
          refine e_aload_n d_188_75 rfl rfl ?_
          refine e_iconst d_188_76 ci_2 rfl ?_
          obtain ⟨σ22, hcl, hS23, H⟩ := H
          refine e_vcall (w1 := (none, σ22)) d_188_77 kc_188_77 rfl ⟨Nat.le_of_ble_eq_true rfl, xx_188.symm⟩ rfl hcl ?_
          show Ev 188 80 [.ref 59, .retAddr 0] [] σ22 w
          refine e_aload_n d_188_80 rfl rfl ?_
          obtain ⟨σ25, hcl, hS26, H⟩ := H
          refine e_vcall (w1 := (none, σ25)) d_188_81 kc_188_81 rfl ⟨Nat.le_of_ble_eq_true rfl, xx_188.symm⟩ rfl hcl ?_
          show Ev 188 84 [.ref 59, .retAddr 0] [] σ25 w
          refine e_iconst d_188_84 ci_1 rfl ?_
          subst H
          exact e_zret d_188_85 rr_188 (Or.inr rfl)
        · replace H := H.1 hc
          refine e_iconst d_188_73 ci_0 rfl ?_
          subst H
          exact e_zret d_188_74 rr_188 (Or.inl rfl)
  · replace H := H.2 hc
    refine e_aload_n d_188_9 rfl rfl ?_
    refine e_getI d_188_10 oo_188 pF_9_304 (by decide) (hS2.k rfl) rfl ?_
    refine e_bipush d_188_13 cb_8 rfl ?_
    refine e_icmp_ne (t := 24) d_188_15 (by decide) rfl (fun hc => ?_) (fun hc => ?_)
    · replace H := H.2 hc
      refine e_aload_n d_188_24 rfl rfl ?_
      refine e_dup d_188_25 rfl rfl ?_
      refine e_getI d_188_26 oo_188 pF_9_304 (by decide) (hS2.k rfl) rfl ?_
      refine e_iconst d_188_29 ci_1 rfl ?_
      refine e_iadd d_188_30 rfl ?_
      refine e_putI d_188_31 oo_188 pF_9_304 (Or.inl rfl) (hS2.k rfl) rfl ?_
      refine e_aload_n d_188_34 rfl rfl ?_
      refine e_iconst d_188_35 ci_0 rfl ?_
      obtain ⟨σ28, hcl, hS29, H⟩ := H
      refine e_vcall (w1 := (none, σ28)) d_188_36 kc_188_36 rfl ⟨Nat.le_of_ble_eq_true rfl, xx_188.symm⟩ rfl hcl ?_
      show Ev 188 39 [.ref 59, .retAddr 0] [] σ28 w
      refine e_aload_n d_188_39 rfl rfl ?_
      refine e_iconst d_188_40 ci_1 rfl ?_
      refine e_putZ d_188_41 oo_188 pF_9_311 (Or.inl rfl) (hS29.k rfl) (Or.inr rfl) rfl ?_
      refine e_aload_n d_188_44 rfl rfl ?_
      obtain ⟨σ31, hcl, hS32, H⟩ := H
      refine e_vcall (w1 := (none, σ31)) d_188_45 kc_188_45 rfl ⟨Nat.le_of_ble_eq_true rfl, xx_188.symm⟩ rfl hcl ?_
      show Ev 188 48 [.ref 59, .retAddr 0] [] σ31 w
      refine e_iconst d_188_48 ci_1 rfl ?_
      subst H
      exact e_zret d_188_49 rr_188 (Or.inr rfl)
    · replace H := H.1 hc
      refine e_aload_n d_188_18 rfl rfl ?_
      refine e_iconst d_188_19 ci_2 rfl ?_
      obtain ⟨v36, σ34, hcl, hS35, H⟩ := H
      refine e_vcall (w1 := (some (.int v36), σ34)) d_188_20 kc_188_20 rfl ⟨Nat.le_of_ble_eq_true rfl, xx_188.symm⟩ rfl hcl ?_
      show Ev 188 23 [.ref 59, .retAddr 0] [.int v36] σ34 w
      obtain ⟨hz, H⟩ := H
      subst H
      exact e_zret d_188_23 rr_188 hz
theorem b_188_109 {t : Nat} {σ : Mm} {w : Option Value × Mm} {x1 : Int32} (hS : Sg t σ) 
    (H : (x1 < 0 → ((9999 < (mI σ 59 9) → (∃ (v9 : Int32) (σ7 : Mm), Cl 154 [.ref 59, .int 2] σ (some (.int v9), σ7) ∧ Sg t σ7 ∧ ((v9 = 0 ∨ v9 = 1) ∧ w = (some (.int v9), σ7)))) ∧ (¬ (9999 < (mI σ 59 9)) → (∃ (v6 : Int32) (σ4 : Mm), Cl 185 [.ref 59] σ (some (.int v6), σ4) ∧ Sg t σ4 ∧ ((v6 = 0 → (w = (some (.int 0), σ4))) ∧ (¬ (v6 = 0) → ((x1 < 0 → Ev 188 148 [.ref 59, .int x1] [.int 0, .ref 59] σ4 w) ∧ (¬ (x1 < 0) → Ev 188 148 [.ref 59, .int x1] [.int 1, .ref 59] σ4 w)))))))) ∧ (¬ (x1 < 0) → (∃ (v3 : Int32) (σ1 : Mm), Cl 185 [.ref 59] σ (some (.int v3), σ1) ∧ Sg t σ1 ∧ ((v3 = 0 → (w = (some (.int 0), σ1))) ∧ (¬ (v3 = 0) → ((x1 < 0 → Ev 188 148 [.ref 59, .int x1] [.int 0, .ref 59] σ1 w) ∧ (¬ (x1 < 0) → Ev 188 148 [.ref 59, .int x1] [.int 1, .ref 59] σ1 w))))))) :
    Ev 188 109 [.ref 59, .int x1] [] σ w := by
  refine e_iload_n d_188_109 rfl rfl ?_
  refine e_if_ge (t := 129) d_188_110 (by decide) rfl (fun hc => ?_) (fun hc => ?_)
  · replace H := H.2 hc
    refine e_aload_n d_188_129 rfl rfl ?_
    obtain ⟨v3, σ1, hcl, hS2, H⟩ := H
    refine e_vcall (w1 := (some (.int v3), σ1)) d_188_130 kc_188_130 rfl ⟨Nat.le_of_ble_eq_true rfl, xx_188.symm⟩ rfl hcl ?_
    show Ev 188 133 [.ref 59, .int x1] [.int v3] σ1 w
    refine e_if_ne (t := 138) d_188_133 (by decide) rfl (fun hc => ?_) (fun hc => ?_)
    · replace H := H.2 hc
      refine e_aload_n d_188_138 rfl rfl ?_
      refine e_iload_n d_188_139 rfl rfl ?_
      refine e_if_lt (t := 147) d_188_140 (by decide) rfl (fun hc => ?_) (fun hc => ?_)
      · replace H := H.1 hc
        refine e_iconst d_188_147 ci_0 rfl ?_
        exact H
      · replace H := H.2 hc
        refine e_iconst d_188_143 ci_1 rfl ?_
        refine e_goto (t := 148) d_188_144 (by decide) ?_
        exact H
    · replace H := H.1 hc
      refine e_iconst d_188_136 ci_0 rfl ?_
      subst H
      exact e_zret d_188_137 rr_188 (Or.inl rfl)
  · replace H := H.1 hc
    refine e_aload_n d_188_113 rfl rfl ?_
    refine e_getI d_188_114 oo_188 pF_9_171 (by decide) (hS.k rfl) rfl ?_
    refine e_sipush d_188_117 cs_9999 rfl ?_
    refine e_icmp_le (t := 129) d_188_120 (by decide) rfl (fun hc => ?_) (fun hc => ?_)
    · replace H := H.2 hc
      refine e_aload_n d_188_129 rfl rfl ?_
      obtain ⟨v6, σ4, hcl, hS5, H⟩ := H
      refine e_vcall (w1 := (some (.int v6), σ4)) d_188_130 kc_188_130 rfl ⟨Nat.le_of_ble_eq_true rfl, xx_188.symm⟩ rfl hcl ?_
      show Ev 188 133 [.ref 59, .int x1] [.int v6] σ4 w
      refine e_if_ne (t := 138) d_188_133 (by decide) rfl (fun hc => ?_) (fun hc => ?_)
      · replace H := H.2 hc
        refine e_aload_n d_188_138 rfl rfl ?_
        refine e_iload_n d_188_139 rfl rfl ?_
        refine e_if_lt (t := 147) d_188_140 (by decide) rfl (fun hc => ?_) (fun hc => ?_)
        · replace H := H.1 hc
          refine e_iconst d_188_147 ci_0 rfl ?_
          exact H
        · replace H := H.2 hc
          refine e_iconst d_188_143 ci_1 rfl ?_
          refine e_goto (t := 148) d_188_144 (by decide) ?_
          exact H
      · replace H := H.1 hc
        refine e_iconst d_188_136 ci_0 rfl ?_
        subst H
        exact e_zret d_188_137 rr_188 (Or.inl rfl)
    · replace H := H.1 hc
      refine e_aload_n d_188_123 rfl rfl ?_
      refine e_iconst d_188_124 ci_2 rfl ?_
      obtain ⟨v9, σ7, hcl, hS8, H⟩ := H
      refine e_vcall (w1 := (some (.int v9), σ7)) d_188_125 kc_188_125 rfl ⟨Nat.le_of_ble_eq_true rfl, xx_188.symm⟩ rfl hcl ?_
      show Ev 188 128 [.ref 59, .int x1] [.int v9] σ7 w
      obtain ⟨hz, H⟩ := H
      subst H
      exact e_zret d_188_128 rr_188 hz
theorem b_188_148 {t : Nat} {σ : Mm} {w : Option Value × Mm} {x1 : Int32} {s0 : Int32} (hS : Sg t σ) 
    (H : (x1 < 0 → (∃ (σ1 : Mm), Cl 182 [.ref 59, .int s0, .int (mI σ 59 9), .int 0] σ (none, σ1) ∧ Sg t σ1 ∧ (∃ (σ4 : Mm), Cl 158 [.ref 59] (uI σ1 59 44 0) (none, σ4) ∧ Sg t σ4 ∧ (w = (some (.int 1), σ4))))) ∧ (¬ (x1 < 0) → (∃ (σ7 : Mm), Cl 182 [.ref 59, .int s0, .int x1, .int 0] σ (none, σ7) ∧ Sg t σ7 ∧ (∃ (σ10 : Mm), Cl 158 [.ref 59] (uI σ7 59 44 0) (none, σ10) ∧ Sg t σ10 ∧ (w = (some (.int 1), σ10)))))) :
    Ev 188 148 [.ref 59, .int x1] [.int s0, .ref 59] σ w := by
  refine e_iload_n d_188_148 rfl rfl ?_
  refine e_if_lt (t := 156) d_188_149 (by decide) rfl (fun hc => ?_) (fun hc => ?_)
  · replace H := H.1 hc
    refine e_aload_n d_188_156 rfl rfl ?_
    refine e_getI d_188_157 oo_188 pF_9_171 (by decide) (hS.k rfl) rfl ?_
    refine e_iconst d_188_160 ci_0 rfl ?_
    obtain ⟨σ1, hcl, hS2, H⟩ := H
    refine e_vcall (w1 := (none, σ1)) d_188_161 kc_188_161 rfl ⟨Nat.le_of_ble_eq_true rfl, xx_188.symm⟩ rfl hcl ?_
    show Ev 188 164 [.ref 59, .int x1] [] σ1 w
    refine e_aload_n d_188_164 rfl rfl ?_
    refine e_iconst d_188_165 ci_0 rfl ?_
    refine e_putZ d_188_166 oo_188 pF_9_324 (Or.inl rfl) (hS2.k rfl) (Or.inl rfl) rfl ?_
    refine e_aload_n d_188_169 rfl rfl ?_
    obtain ⟨σ4, hcl, hS5, H⟩ := H
    refine e_vcall (w1 := (none, σ4)) d_188_170 kc_188_170 rfl ⟨Nat.le_of_ble_eq_true rfl, xx_188.symm⟩ rfl hcl ?_
    show Ev 188 173 [.ref 59, .int x1] [] σ4 w
    refine e_iconst d_188_173 ci_1 rfl ?_
    subst H
    exact e_zret d_188_174 rr_188 (Or.inr rfl)
  · replace H := H.2 hc
    refine e_iload_n d_188_152 rfl rfl ?_
    refine e_goto (t := 160) d_188_153 (by decide) ?_
    refine e_iconst d_188_160 ci_0 rfl ?_
    obtain ⟨σ7, hcl, hS8, H⟩ := H
    refine e_vcall (w1 := (none, σ7)) d_188_161 kc_188_161 rfl ⟨Nat.le_of_ble_eq_true rfl, xx_188.symm⟩ rfl hcl ?_
    show Ev 188 164 [.ref 59, .int x1] [] σ7 w
    refine e_aload_n d_188_164 rfl rfl ?_
    refine e_iconst d_188_165 ci_0 rfl ?_
    refine e_putZ d_188_166 oo_188 pF_9_324 (Or.inl rfl) (hS8.k rfl) (Or.inl rfl) rfl ?_
    refine e_aload_n d_188_169 rfl rfl ?_
    obtain ⟨σ10, hcl, hS11, H⟩ := H
    refine e_vcall (w1 := (none, σ10)) d_188_170 kc_188_170 rfl ⟨Nat.le_of_ble_eq_true rfl, xx_188.symm⟩ rfl hcl ?_
    show Ev 188 173 [.ref 59, .int x1] [] σ10 w
    refine e_iconst d_188_173 ci_1 rfl ?_
    subst H
    exact e_zret d_188_174 rr_188 (Or.inr rfl)
/-! X9_signs -/
theorem b_189_0 {t : Nat} {σ : Mm} {w : Option Value × Mm}  (hS : Sg t σ) 
    (H : ∃ (v3 : Int32) (σ1 : Mm), Cl 162 [.ref 59, .int 41] σ (some (.int v3), σ1) ∧ Sg t σ1 ∧ ((v3 = 0 → Ev 189 47 [.ref 59, .retAddr 0] [] σ1 w) ∧ (¬ (v3 = 0) → ((0 < (mI σ1 59 42) → (∃ (σ4 : Mm), Cl 184 [.ref 59, .int 1] σ1 (none, σ4) ∧ Sg t σ4 ∧ (∀ (σ7 : Mm), σ7 = uI (uI σ4 59 40 ((mI σ4 59 40) - 1)) 59 42 ((mI (uI σ4 59 40 ((mI σ4 59 40) - 1)) 59 42) - 1) → (∃ (σ10 : Mm), Cl 158 [.ref 59] σ7 (none, σ10) ∧ Sg t σ10 ∧ (w = (some (.int 1), σ10)))))) ∧ (¬ (0 < (mI σ1 59 42)) → Ev 189 47 [.ref 59, .retAddr 0] [] σ1 w))))) :
    Ev 189 0 [.ref 59, .retAddr 0] [] σ w := by
  refine e_aload_n d_189_0 rfl rfl ?_
  refine e_bipush d_189_1 cb_41 rfl ?_
  obtain ⟨v3, σ1, hcl, hS2, H⟩ := H
  refine e_vcall (w1 := (some (.int v3), σ1)) d_189_3 kc_189_3 rfl ⟨Nat.le_of_ble_eq_true rfl, xx_189.symm⟩ rfl hcl ?_
  show Ev 189 6 [.ref 59, .retAddr 0] [.int v3] σ1 w
  refine e_if_eq (t := 47) d_189_6 (by decide) rfl (fun hc => ?_) (fun hc => ?_)
  · replace H := H.1 hc
    exact H
  · replace H := H.2 hc
    refine e_aload_n d_189_9 rfl rfl ?_
    refine e_getI d_189_10 oo_189 pF_9_304 (by decide) (hS2.k rfl) rfl ?_
    refine e_if_le (t := 47) d_189_13 (by decide) rfl (fun hc => ?_) (fun hc => ?_)
    · replace H := H.2 hc
      exact H
    · replace H := H.1 hc
      refine e_aload_n d_189_16 rfl rfl ?_
      refine e_iconst d_189_17 ci_1 rfl ?_
      obtain ⟨σ4, hcl, hS5, H⟩ := H
      refine e_vcall (w1 := (none, σ4)) d_189_18 kc_189_18 rfl ⟨Nat.le_of_ble_eq_true rfl, xx_189.symm⟩ rfl hcl ?_
      show Ev 189 21 [.ref 59, .retAddr 0] [] σ4 w
      refine e_aload_n d_189_21 rfl rfl ?_
      refine e_dup d_189_22 rfl rfl ?_
      refine e_getI d_189_23 oo_189 pF_9_289 (by decide) (hS5.k rfl) rfl ?_
      refine e_iconst d_189_26 ci_1 rfl ?_
      refine e_isub d_189_27 rfl ?_
      refine e_putI d_189_28 oo_189 pF_9_289 (Or.inl rfl) (hS5.k rfl) rfl ?_
      refine e_aload_n d_189_31 rfl rfl ?_
      refine e_dup d_189_32 rfl rfl ?_
      refine e_getI d_189_33 oo_189 pF_9_304 (by decide) (hS5.uI.k rfl) rfl ?_
      refine e_iconst d_189_36 ci_1 rfl ?_
      refine e_isub d_189_37 rfl ?_
      refine e_putI d_189_38 oo_189 pF_9_304 (Or.inl rfl) (hS5.uI.k rfl) rfl ?_
      generalize hm8 : uI (uI σ4 59 40 ((mI σ4 59 40) - 1)) 59 42 ((mI (uI σ4 59 40 ((mI σ4 59 40) - 1)) 59 42) - 1) = σ7
      have hS9 : Sg t σ7 := by rw [← hm8]; exact hS5.uI.uI
      replace H := H σ7 hm8.symm
      refine e_aload_n d_189_41 rfl rfl ?_
      obtain ⟨σ10, hcl, hS11, H⟩ := H
      refine e_vcall (w1 := (none, σ10)) d_189_42 kc_189_42 rfl ⟨Nat.le_of_ble_eq_true rfl, xx_189.symm⟩ rfl hcl ?_
      show Ev 189 45 [.ref 59, .retAddr 0] [] σ10 w
      refine e_iconst d_189_45 ci_1 rfl ?_
      subst H
      exact e_zret d_189_46 rr_189 (Or.inr rfl)
theorem b_189_47 {t : Nat} {σ : Mm} {w : Option Value × Mm} {z1 : Value} (hS : Sg t σ) 
    (H : ∃ (v3 : Int32) (σ1 : Mm), Cl 161 [.ref 59, .int 11] σ (some (.int v3), σ1) ∧ Sg t σ1 ∧ ((v3 = 0 → (∃ (v6 : Int32) (σ4 : Mm), Cl 161 [.ref 59, .int 12] σ1 (some (.int v6), σ4) ∧ Sg t σ4 ∧ ((v6 = 0 → (((mI σ4 59 8) = 5 → Ev 189 147 [.ref 59, z1] [.int (5 + (mI σ4 59 9))] σ4 w) ∧ (¬ ((mI σ4 59 8) = 5) → (∃ (v9 : Int32) (σ7 : Mm), Cl 162 [.ref 59, .int 43] σ4 (some (.int v9), σ7) ∧ Sg t σ7 ∧ ((v9 = 0 → (∃ (v12 : Int32) (σ10 : Mm), Cl 162 [.ref 59, .int 45] σ7 (some (.int v12), σ10) ∧ Sg t σ10 ∧ ((v12 = 0 → (∃ (v15 : Int32) (σ13 : Mm), Cl 162 [.ref 59, .int 42] σ10 (some (.int v15), σ13) ∧ Sg t σ13 ∧ ((v15 = 0 → (∃ (v18 : Int32) (σ16 : Mm), Cl 162 [.ref 59, .int 47] σ13 (some (.int v18), σ16) ∧ Sg t σ16 ∧ ((v18 = 0 → Ev 189 147 [.ref 59, z1] [.int 0] σ16 w) ∧ (¬ (v18 = 0) → Ev 189 147 [.ref 59, z1] [.int 14] σ16 w)))) ∧ (¬ (v15 = 0) → Ev 189 147 [.ref 59, z1] [.int 13] σ13 w)))) ∧ (¬ (v12 = 0) → Ev 189 147 [.ref 59, z1] [.int 12] σ10 w)))) ∧ (¬ (v9 = 0) → Ev 189 147 [.ref 59, z1] [.int 11] σ7 w)))))) ∧ (¬ (v6 = 0) → Ev 189 147 [.ref 59, z1] [.int 4] σ4 w)))) ∧ (¬ (v3 = 0) → Ev 189 147 [.ref 59, z1] [.int 3] σ1 w))) :
    Ev 189 47 [.ref 59, z1] [] σ w := by
  refine e_aload_n d_189_47 rfl rfl ?_
  refine e_bipush d_189_48 cb_11 rfl ?_
  obtain ⟨v3, σ1, hcl, hS2, H⟩ := H
  refine e_vcall (w1 := (some (.int v3), σ1)) d_189_50 kc_189_50 rfl ⟨Nat.le_of_ble_eq_true rfl, xx_189.symm⟩ rfl hcl ?_
  show Ev 189 53 [.ref 59, z1] [.int v3] σ1 w
  refine e_if_eq (t := 60) d_189_53 (by decide) rfl (fun hc => ?_) (fun hc => ?_)
  · replace H := H.1 hc
    refine e_aload_n d_189_60 rfl rfl ?_
    refine e_bipush d_189_61 cb_12 rfl ?_
    obtain ⟨v6, σ4, hcl, hS5, H⟩ := H
    refine e_vcall (w1 := (some (.int v6), σ4)) d_189_63 kc_189_63 rfl ⟨Nat.le_of_ble_eq_true rfl, xx_189.symm⟩ rfl hcl ?_
    show Ev 189 66 [.ref 59, z1] [.int v6] σ4 w
    refine e_if_eq (t := 73) d_189_66 (by decide) rfl (fun hc => ?_) (fun hc => ?_)
    · replace H := H.1 hc
      refine e_aload_n d_189_73 rfl rfl ?_
      refine e_getI d_189_74 oo_189 pF_9_160 (by decide) (hS5.k rfl) rfl ?_
      refine e_iconst d_189_77 ci_5 rfl ?_
      refine e_icmp_ne (t := 90) d_189_78 (by decide) rfl (fun hc => ?_) (fun hc => ?_)
      · replace H := H.2 hc
        refine e_aload_n d_189_90 rfl rfl ?_
        refine e_bipush d_189_91 cb_43 rfl ?_
        obtain ⟨v9, σ7, hcl, hS8, H⟩ := H
        refine e_vcall (w1 := (some (.int v9), σ7)) d_189_93 kc_189_93 rfl ⟨Nat.le_of_ble_eq_true rfl, xx_189.symm⟩ rfl hcl ?_
        show Ev 189 96 [.ref 59, z1] [.int v9] σ7 w
        refine e_if_eq (t := 104) d_189_96 (by decide) rfl (fun hc => ?_) (fun hc => ?_)
        · replace H := H.1 hc
          refine e_aload_n d_189_104 rfl rfl ?_
          refine e_bipush d_189_105 cb_45 rfl ?_
          obtain ⟨v12, σ10, hcl, hS11, H⟩ := H
          refine e_vcall (w1 := (some (.int v12), σ10)) d_189_107 kc_189_107 rfl ⟨Nat.le_of_ble_eq_true rfl, xx_189.symm⟩ rfl hcl ?_
          show Ev 189 110 [.ref 59, z1] [.int v12] σ10 w
          refine e_if_eq (t := 118) d_189_110 (by decide) rfl (fun hc => ?_) (fun hc => ?_)
          · replace H := H.1 hc
            refine e_aload_n d_189_118 rfl rfl ?_
            refine e_bipush d_189_119 cb_42 rfl ?_
            obtain ⟨v15, σ13, hcl, hS14, H⟩ := H
            refine e_vcall (w1 := (some (.int v15), σ13)) d_189_121 kc_189_121 rfl ⟨Nat.le_of_ble_eq_true rfl, xx_189.symm⟩ rfl hcl ?_
            show Ev 189 124 [.ref 59, z1] [.int v15] σ13 w
            refine e_if_eq (t := 132) d_189_124 (by decide) rfl (fun hc => ?_) (fun hc => ?_)
            · replace H := H.1 hc
              refine e_aload_n d_189_132 rfl rfl ?_
              refine e_bipush d_189_133 cb_47 rfl ?_
              obtain ⟨v18, σ16, hcl, hS17, H⟩ := H
              refine e_vcall (w1 := (some (.int v18), σ16)) d_189_135 kc_189_135 rfl ⟨Nat.le_of_ble_eq_true rfl, xx_189.symm⟩ rfl hcl ?_
              show Ev 189 138 [.ref 59, z1] [.int v18] σ16 w
              refine e_if_eq (t := 146) d_189_138 (by decide) rfl (fun hc => ?_) (fun hc => ?_)
              · replace H := H.1 hc
                refine e_iconst d_189_146 ci_0 rfl ?_
                exact H
              · replace H := H.2 hc
                refine e_bipush d_189_141 cb_14 rfl ?_
                refine e_goto (t := 147) d_189_143 (by decide) ?_
                exact H
            · replace H := H.2 hc
              refine e_bipush d_189_127 cb_13 rfl ?_
              refine e_goto (t := 147) d_189_129 (by decide) ?_
              exact H
          · replace H := H.2 hc
            refine e_bipush d_189_113 cb_12 rfl ?_
            refine e_goto (t := 147) d_189_115 (by decide) ?_
            exact H
        · replace H := H.2 hc
          refine e_bipush d_189_99 cb_11 rfl ?_
          refine e_goto (t := 147) d_189_101 (by decide) ?_
          exact H
      · replace H := H.1 hc
        refine e_iconst d_189_81 ci_5 rfl ?_
        refine e_aload_n d_189_82 rfl rfl ?_
        refine e_getI d_189_83 oo_189 pF_9_171 (by decide) (hS5.k rfl) rfl ?_
        refine e_iadd d_189_86 rfl ?_
        refine e_goto (t := 147) d_189_87 (by decide) ?_
        exact H
    · replace H := H.2 hc
      refine e_iconst d_189_69 ci_4 rfl ?_
      refine e_goto (t := 147) d_189_70 (by decide) ?_
      exact H
  · replace H := H.2 hc
    refine e_iconst d_189_56 ci_3 rfl ?_
    refine e_goto (t := 147) d_189_57 (by decide) ?_
    exact H
theorem b_189_147 {t : Nat} {σ : Mm} {w : Option Value × Mm} {z1 : Value} {s0 : Int32} (hS : Sg t σ) 
    (H : (s0 = 0 → (∃ (v9 : Int32) (σ7 : Mm), Cl 154 [.ref 59, .int 1] σ (some (.int v9), σ7) ∧ Sg t σ7 ∧ ((v9 = 0 ∨ v9 = 1) ∧ w = (some (.int v9), σ7)))) ∧ (¬ (s0 = 0) → (∃ (v3 : Int32) (σ1 : Mm), Cl 181 [.int s0] σ (some (.int v3), σ1) ∧ Sg t σ1 ∧ ((v3 = 4 → Ev 189 175 [.ref 59, .int s0] [.int 5, .ref 59] σ1 w) ∧ (¬ (v3 = 4) → (∃ (v6 : Int32) (σ4 : Mm), Cl 181 [.int s0] σ1 (some (.int v6), σ4) ∧ Sg t σ4 ∧ Ev 189 175 [.ref 59, .int s0] [.int v6, .ref 59] σ4 w)))))) :
    Ev 189 147 [.ref 59, z1] [.int s0] σ w := by
  refine e_istore_n (ls2 := [.ref 59, .int s0]) d_189_147 rfl rfl rfl ?_
  refine e_iload_n d_189_148 rfl rfl ?_
  refine e_if_ne (t := 158) d_189_149 (by decide) rfl (fun hc => ?_) (fun hc => ?_)
  · replace H := H.2 hc
    refine e_aload_n d_189_158 rfl rfl ?_
    refine e_iload_n d_189_159 rfl rfl ?_
    obtain ⟨v3, σ1, hcl, hS2, H⟩ := H
    refine e_scall (w1 := (some (.int v3), σ1)) d_189_160 kc_189_160 rfl ⟨Nat.le_of_ble_eq_true rfl, xx_189.symm⟩ rfl hcl ?_
    show Ev 189 163 [.ref 59, .int s0] [.int v3, .ref 59] σ1 w
    refine e_iconst d_189_163 ci_4 rfl ?_
    refine e_icmp_ne (t := 171) d_189_164 (by decide) rfl (fun hc => ?_) (fun hc => ?_)
    · replace H := H.2 hc
      refine e_iload_n d_189_171 rfl rfl ?_
      obtain ⟨v6, σ4, hcl, hS5, H⟩ := H
      refine e_scall (w1 := (some (.int v6), σ4)) d_189_172 kc_189_172 rfl ⟨Nat.le_of_ble_eq_true rfl, xx_189.symm⟩ rfl hcl ?_
      show Ev 189 175 [.ref 59, .int s0] [.int v6, .ref 59] σ4 w
      exact H
    · replace H := H.1 hc
      refine e_iconst d_189_167 ci_5 rfl ?_
      refine e_goto (t := 175) d_189_168 (by decide) ?_
      exact H
  · replace H := H.1 hc
    refine e_aload_n d_189_152 rfl rfl ?_
    refine e_iconst d_189_153 ci_1 rfl ?_
    obtain ⟨v9, σ7, hcl, hS8, H⟩ := H
    refine e_vcall (w1 := (some (.int v9), σ7)) d_189_154 kc_189_154 rfl ⟨Nat.le_of_ble_eq_true rfl, xx_189.symm⟩ rfl hcl ?_
    show Ev 189 157 [.ref 59, .int s0] [.int v9] σ7 w
    obtain ⟨hz, H⟩ := H
    subst H
    exact e_zret d_189_157 rr_189 hz
theorem b_189_175 {t : Nat} {σ : Mm} {w : Option Value × Mm} {x1 : Int32} {s0 : Int32} (hS : Sg t σ) 
    (H : ∃ (σ1 : Mm), Cl 184 [.ref 59, .int s0] σ (none, σ1) ∧ Sg t σ1 ∧ (∃ (v6 : Int32) (σ4 : Mm), Cl 181 [.int x1] σ1 (some (.int v6), σ4) ∧ Sg t σ4 ∧ ((v6 = 4 → ((0 < (mI σ4 59 40) → (inb ((mI σ4 59 40) - 1) 96 = true ∧ (∃ (v9 : Int32) (σ7 : Mm), Cl 181 [.int (mI σ4 78 ((mI σ4 59 40) - 1).toNatClampNeg)] σ4 (some (.int v9), σ7) ∧ Sg t σ7 ∧ ((v9 = 4 → (∃ (v12 : Int32) (σ10 : Mm), Cl 154 [.ref 59, .int 1] σ7 (some (.int v12), σ10) ∧ Sg t σ10 ∧ ((v12 = 0 ∨ v12 = 1) ∧ w = (some (.int v12), σ10)))) ∧ (¬ (v9 = 4) → Ev 189 217 [.ref 59, .int x1] [] σ7 w))))) ∧ (¬ (0 < (mI σ4 59 40)) → Ev 189 217 [.ref 59, .int x1] [] σ4 w))) ∧ (¬ (v6 = 4) → Ev 189 217 [.ref 59, .int x1] [] σ4 w)))) :
    Ev 189 175 [.ref 59, .int x1] [.int s0, .ref 59] σ w := by
  obtain ⟨σ1, hcl, hS2, H⟩ := H
  refine e_vcall (w1 := (none, σ1)) d_189_175 kc_189_175 rfl ⟨Nat.le_of_ble_eq_true rfl, xx_189.symm⟩ rfl hcl ?_
  show Ev 189 178 [.ref 59, .int x1] [] σ1 w
  refine e_iload_n d_189_178 rfl rfl ?_
  obtain ⟨v6, σ4, hcl, hS5, H⟩ := H
  refine e_scall (w1 := (some (.int v6), σ4)) d_189_179 kc_189_179 rfl ⟨Nat.le_of_ble_eq_true rfl, xx_189.symm⟩ rfl hcl ?_
  show Ev 189 182 [.ref 59, .int x1] [.int v6] σ4 w
  refine e_iconst d_189_182 ci_4 rfl ?_
  refine e_icmp_ne (t := 217) d_189_183 (by decide) rfl (fun hc => ?_) (fun hc => ?_)
  · replace H := H.2 hc
    exact H
  · replace H := H.1 hc
    refine e_aload_n d_189_186 rfl rfl ?_
    refine e_getI d_189_187 oo_189 pF_9_289 (by decide) (hS5.k rfl) rfl ?_
    refine e_if_le (t := 217) d_189_190 (by decide) rfl (fun hc => ?_) (fun hc => ?_)
    · replace H := H.2 hc
      exact H
    · replace H := H.1 hc
      refine e_aload_n d_189_193 rfl rfl ?_
      refine e_getR d_189_194 oo_189 pF_9_69 (by decide) (hS5.k rfl) (hS5.r rt_59_38) rfl ?_
      refine e_aload_n d_189_197 rfl rfl ?_
      refine e_getI d_189_198 oo_189 pF_9_289 (by decide) (hS5.k rfl) rfl ?_
      refine e_iconst d_189_201 ci_1 rfl ?_
      refine e_isub d_189_202 rfl ?_
      obtain ⟨hb, H⟩ := H
      refine e_iaload (v := (mI σ4 78 ((mI σ4 59 40) - 1).toNatClampNeg)) d_189_203 (rdI_at (hS5.k rfl) hb) rfl ?_
      obtain ⟨v9, σ7, hcl, hS8, H⟩ := H
      refine e_scall (w1 := (some (.int v9), σ7)) d_189_204 kc_189_204 rfl ⟨Nat.le_of_ble_eq_true rfl, xx_189.symm⟩ rfl hcl ?_
      show Ev 189 207 [.ref 59, .int x1] [.int v9] σ7 w
      refine e_iconst d_189_207 ci_4 rfl ?_
      refine e_icmp_ne (t := 217) d_189_208 (by decide) rfl (fun hc => ?_) (fun hc => ?_)
      · replace H := H.2 hc
        exact H
      · replace H := H.1 hc
        refine e_aload_n d_189_211 rfl rfl ?_
        refine e_iconst d_189_212 ci_1 rfl ?_
        obtain ⟨v12, σ10, hcl, hS11, H⟩ := H
        refine e_vcall (w1 := (some (.int v12), σ10)) d_189_213 kc_189_213 rfl ⟨Nat.le_of_ble_eq_true rfl, xx_189.symm⟩ rfl hcl ?_
        show Ev 189 216 [.ref 59, .int x1] [.int v12] σ10 w
        obtain ⟨hz, H⟩ := H
        subst H
        exact e_zret d_189_216 rr_189 hz
theorem b_189_217 {t : Nat} {σ : Mm} {w : Option Value × Mm} {x1 : Int32} (hS : Sg t σ) 
    (H : ∃ (v3 : Int32) (σ1 : Mm), Cl 185 [.ref 59] σ (some (.int v3), σ1) ∧ Sg t σ1 ∧ ((v3 = 0 → (w = (some (.int 0), σ1))) ∧ (¬ (v3 = 0) → (∃ (σ4 : Mm), Cl 186 [.ref 59, .int x1] σ1 (none, σ4) ∧ Sg t σ4 ∧ (∃ (v9 : Int32) (σ7 : Mm), Cl 181 [.int x1] (uI σ4 59 44 1) (some (.int v9), σ7) ∧ Sg t σ7 ∧ ((v9 < 3 → (∃ (σ13 : Mm), Cl 158 [.ref 59] (uI σ7 59 45 1) (none, σ13) ∧ Sg t σ13 ∧ (w = (some (.int 1), σ13)))) ∧ (¬ (v9 < 3) → (∃ (σ10 : Mm), Cl 158 [.ref 59] (uI σ7 59 45 0) (none, σ10) ∧ Sg t σ10 ∧ (w = (some (.int 1), σ10)))))))))) :
    Ev 189 217 [.ref 59, .int x1] [] σ w := by
  refine e_aload_n d_189_217 rfl rfl ?_
  obtain ⟨v3, σ1, hcl, hS2, H⟩ := H
  refine e_vcall (w1 := (some (.int v3), σ1)) d_189_218 kc_189_218 rfl ⟨Nat.le_of_ble_eq_true rfl, xx_189.symm⟩ rfl hcl ?_
  show Ev 189 221 [.ref 59, .int x1] [.int v3] σ1 w
  refine e_if_ne (t := 226) d_189_221 (by decide) rfl (fun hc => ?_) (fun hc => ?_)
  · replace H := H.2 hc
    refine e_aload_n d_189_226 rfl rfl ?_
    refine e_iload_n d_189_227 rfl rfl ?_
    obtain ⟨σ4, hcl, hS5, H⟩ := H
    refine e_vcall (w1 := (none, σ4)) d_189_228 kc_189_228 rfl ⟨Nat.le_of_ble_eq_true rfl, xx_189.symm⟩ rfl hcl ?_
    show Ev 189 231 [.ref 59, .int x1] [] σ4 w
    refine e_aload_n d_189_231 rfl rfl ?_
    refine e_iconst d_189_232 ci_1 rfl ?_
    refine e_putZ d_189_233 oo_189 pF_9_324 (Or.inl rfl) (hS5.k rfl) (Or.inr rfl) rfl ?_
    refine e_aload_n d_189_236 rfl rfl ?_
    refine e_iload_n d_189_237 rfl rfl ?_
    obtain ⟨v9, σ7, hcl, hS8, H⟩ := H
    refine e_scall (w1 := (some (.int v9), σ7)) d_189_238 kc_189_238 rfl ⟨Nat.le_of_ble_eq_true rfl, xx_189.symm⟩ rfl hcl ?_
    show Ev 189 241 [.ref 59, .int x1] [.int v9, .ref 59] σ7 w
    refine e_iconst d_189_241 ci_3 rfl ?_
    refine e_icmp_ge (t := 249) d_189_242 (by decide) rfl (fun hc => ?_) (fun hc => ?_)
    · replace H := H.2 hc
      refine e_iconst d_189_249 ci_0 rfl ?_
      refine e_putZ d_189_250 oo_189 pF_9_311 (Or.inl rfl) (hS8.k rfl) (Or.inl rfl) rfl ?_
      refine e_aload_n d_189_253 rfl rfl ?_
      obtain ⟨σ10, hcl, hS11, H⟩ := H
      refine e_vcall (w1 := (none, σ10)) d_189_254 kc_189_254 rfl ⟨Nat.le_of_ble_eq_true rfl, xx_189.symm⟩ rfl hcl ?_
      show Ev 189 257 [.ref 59, .int x1] [] σ10 w
      refine e_iconst d_189_257 ci_1 rfl ?_
      subst H
      exact e_zret d_189_258 rr_189 (Or.inr rfl)
    · replace H := H.1 hc
      refine e_iconst d_189_245 ci_1 rfl ?_
      refine e_goto (t := 250) d_189_246 (by decide) ?_
      refine e_putZ d_189_250 oo_189 pF_9_311 (Or.inl rfl) (hS8.k rfl) (Or.inr rfl) rfl ?_
      refine e_aload_n d_189_253 rfl rfl ?_
      obtain ⟨σ13, hcl, hS14, H⟩ := H
      refine e_vcall (w1 := (none, σ13)) d_189_254 kc_189_254 rfl ⟨Nat.le_of_ble_eq_true rfl, xx_189.symm⟩ rfl hcl ?_
      show Ev 189 257 [.ref 59, .int x1] [] σ13 w
      refine e_iconst d_189_257 ci_1 rfl ?_
      subst H
      exact e_zret d_189_258 rr_189 (Or.inr rfl)
  · replace H := H.1 hc
    refine e_iconst d_189_224 ci_0 rfl ?_
    subst H
    exact e_zret d_189_225 rr_189 (Or.inl rfl)
/-! X9_sumRead -/
theorem b_190_0 {t : Nat} {σ : Mm} {w : Option Value × Mm}  (hS : Sg t σ) 
    (H : ∀ (σ1 : Mm), σ1 = uI (uI (uI (uI σ 59 40 0) 59 41 0) 59 42 0) 59 44 1 → Ev 190 25 [.ref 59] [] (uI σ1 59 45 1) w) :
    Ev 190 0 [.ref 59] [] σ w := by
  refine e_aload_n d_190_0 rfl rfl ?_
  refine e_iconst d_190_1 ci_0 rfl ?_
  refine e_putI d_190_2 oo_190 pF_9_289 (Or.inl rfl) (hS.k rfl) rfl ?_
  refine e_aload_n d_190_5 rfl rfl ?_
  refine e_iconst d_190_6 ci_0 rfl ?_
  refine e_putI d_190_7 oo_190 pF_9_286 (Or.inl rfl) (hS.uI.k rfl) rfl ?_
  refine e_aload_n d_190_10 rfl rfl ?_
  refine e_iconst d_190_11 ci_0 rfl ?_
  refine e_putI d_190_12 oo_190 pF_9_304 (Or.inl rfl) (hS.uI.uI.k rfl) rfl ?_
  refine e_aload_n d_190_15 rfl rfl ?_
  refine e_iconst d_190_16 ci_1 rfl ?_
  refine e_putZ d_190_17 oo_190 pF_9_324 (Or.inl rfl) (hS.uI.uI.uI.k rfl) (Or.inr rfl) rfl ?_
  generalize hm2 : uI (uI (uI (uI σ 59 40 0) 59 41 0) 59 42 0) 59 44 1 = σ1
  have hS3 : Sg t σ1 := by rw [← hm2]; exact hS.uI.uI.uI.uI
  replace H := H σ1 hm2.symm
  refine e_aload_n d_190_20 rfl rfl ?_
  refine e_iconst d_190_21 ci_1 rfl ?_
  refine e_putZ d_190_22 oo_190 pF_9_311 (Or.inl rfl) (hS3.k rfl) (Or.inr rfl) rfl ?_
  exact H
theorem b_190_25 {t : Nat} {σ : Mm} {w : Option Value × Mm}  (hS : Sg t σ) 
    (H : ∃ (v3 : Int32) (σ1 : Mm), Cl 162 [.ref 59, .int 59] σ (some (.int v3), σ1) ∧ Sg t σ1 ∧ ((v3 = 0 → (((mI σ1 59 44) = 0 → (∃ (v6 : Int32) (σ4 : Mm), Cl 189 [.ref 59] σ1 (some (.int v6), σ4) ∧ Sg t σ4 ∧ ((v6 = 0 → (w = (some (.int 0), σ4))) ∧ (¬ (v6 = 0) → Ev 190 25 [.ref 59] [] σ4 w)))) ∧ (¬ ((mI σ1 59 44) = 0) → (∃ (v9 : Int32) (σ7 : Mm), Cl 188 [.ref 59] σ1 (some (.int v9), σ7) ∧ Sg t σ7 ∧ ((v9 = 0 → (w = (some (.int 0), σ7))) ∧ (¬ (v9 = 0) → Ev 190 25 [.ref 59] [] σ7 w)))))) ∧ (¬ (v3 = 0) → (((mI σ1 59 44) = 0 → ((0 < (mI σ1 59 42) → (((mI σ1 59 44) = 0 → (∃ (v21 : Int32) (σ19 : Mm), Cl 189 [.ref 59] σ1 (some (.int v21), σ19) ∧ Sg t σ19 ∧ ((v21 = 0 → (w = (some (.int 0), σ19))) ∧ (¬ (v21 = 0) → Ev 190 25 [.ref 59] [] σ19 w)))) ∧ (¬ ((mI σ1 59 44) = 0) → (∃ (v24 : Int32) (σ22 : Mm), Cl 188 [.ref 59] σ1 (some (.int v24), σ22) ∧ Sg t σ22 ∧ ((v24 = 0 → (w = (some (.int 0), σ22))) ∧ (¬ (v24 = 0) → Ev 190 25 [.ref 59] [] σ22 w)))))) ∧ (¬ (0 < (mI σ1 59 42)) → (∃ (σ16 : Mm), Cl 184 [.ref 59, .int 1] σ1 (none, σ16) ∧ Sg t σ16 ∧ (w = (some (.int 1), σ16)))))) ∧ (¬ ((mI σ1 59 44) = 0) → (((mI σ1 59 44) = 0 → (∃ (v12 : Int32) (σ10 : Mm), Cl 189 [.ref 59] σ1 (some (.int v12), σ10) ∧ Sg t σ10 ∧ ((v12 = 0 → (w = (some (.int 0), σ10))) ∧ (¬ (v12 = 0) → Ev 190 25 [.ref 59] [] σ10 w)))) ∧ (¬ ((mI σ1 59 44) = 0) → (∃ (v15 : Int32) (σ13 : Mm), Cl 188 [.ref 59] σ1 (some (.int v15), σ13) ∧ Sg t σ13 ∧ ((v15 = 0 → (w = (some (.int 0), σ13))) ∧ (¬ (v15 = 0) → Ev 190 25 [.ref 59] [] σ13 w)))))))))) :
    Ev 190 25 [.ref 59] [] σ w := by
  refine e_aload_n d_190_25 rfl rfl ?_
  refine e_bipush d_190_26 cb_59 rfl ?_
  obtain ⟨v3, σ1, hcl, hS2, H⟩ := H
  refine e_vcall (w1 := (some (.int v3), σ1)) d_190_28 kc_190_28 rfl ⟨Nat.le_of_ble_eq_true rfl, xx_190.symm⟩ rfl hcl ?_
  show Ev 190 31 [.ref 59] [.int v3] σ1 w
  refine e_if_eq (t := 48) d_190_31 (by decide) rfl (fun hc => ?_) (fun hc => ?_)
  · replace H := H.1 hc
    refine e_aload_n d_190_48 rfl rfl ?_
    refine e_getZ d_190_49 oo_190 pF_9_324 (by decide) (hS2.k rfl) rfl ?_
    refine e_if_eq (t := 65) d_190_52 (by decide) rfl (fun hc => ?_) (fun hc => ?_)
    · replace H := H.1 hc
      refine e_aload_n d_190_65 rfl rfl ?_
      obtain ⟨v6, σ4, hcl, hS5, H⟩ := H
      refine e_vcall (w1 := (some (.int v6), σ4)) d_190_66 kc_190_66 rfl ⟨Nat.le_of_ble_eq_true rfl, xx_190.symm⟩ rfl hcl ?_
      show Ev 190 69 [.ref 59] [.int v6] σ4 w
      refine e_if_ne (t := 25) d_190_69 (by decide) rfl (fun hc => ?_) (fun hc => ?_)
      · replace H := H.2 hc
        exact H
      · replace H := H.1 hc
        refine e_iconst d_190_72 ci_0 rfl ?_
        subst H
        exact e_zret d_190_73 rr_190 (Or.inl rfl)
    · replace H := H.2 hc
      refine e_aload_n d_190_55 rfl rfl ?_
      obtain ⟨v9, σ7, hcl, hS8, H⟩ := H
      refine e_vcall (w1 := (some (.int v9), σ7)) d_190_56 kc_190_56 rfl ⟨Nat.le_of_ble_eq_true rfl, xx_190.symm⟩ rfl hcl ?_
      show Ev 190 59 [.ref 59] [.int v9] σ7 w
      refine e_if_eq (t := 72) d_190_59 (by decide) rfl (fun hc => ?_) (fun hc => ?_)
      · replace H := H.1 hc
        refine e_iconst d_190_72 ci_0 rfl ?_
        subst H
        exact e_zret d_190_73 rr_190 (Or.inl rfl)
      · replace H := H.2 hc
        refine e_goto (t := 25) d_190_62 (by decide) ?_
        exact H
  · replace H := H.2 hc
    refine e_aload_n d_190_34 rfl rfl ?_
    refine e_getZ d_190_35 oo_190 pF_9_324 (by decide) (hS2.k rfl) rfl ?_
    refine e_if_ne (t := 48) d_190_38 (by decide) rfl (fun hc => ?_) (fun hc => ?_)
    · replace H := H.2 hc
      refine e_aload_n d_190_48 rfl rfl ?_
      refine e_getZ d_190_49 oo_190 pF_9_324 (by decide) (hS2.k rfl) rfl ?_
      refine e_if_eq (t := 65) d_190_52 (by decide) rfl (fun hc => ?_) (fun hc => ?_)
      · replace H := H.1 hc
        refine e_aload_n d_190_65 rfl rfl ?_
        obtain ⟨v12, σ10, hcl, hS11, H⟩ := H
        refine e_vcall (w1 := (some (.int v12), σ10)) d_190_66 kc_190_66 rfl ⟨Nat.le_of_ble_eq_true rfl, xx_190.symm⟩ rfl hcl ?_
        show Ev 190 69 [.ref 59] [.int v12] σ10 w
        refine e_if_ne (t := 25) d_190_69 (by decide) rfl (fun hc => ?_) (fun hc => ?_)
        · replace H := H.2 hc
          exact H
        · replace H := H.1 hc
          refine e_iconst d_190_72 ci_0 rfl ?_
          subst H
          exact e_zret d_190_73 rr_190 (Or.inl rfl)
      · replace H := H.2 hc
        refine e_aload_n d_190_55 rfl rfl ?_
        obtain ⟨v15, σ13, hcl, hS14, H⟩ := H
        refine e_vcall (w1 := (some (.int v15), σ13)) d_190_56 kc_190_56 rfl ⟨Nat.le_of_ble_eq_true rfl, xx_190.symm⟩ rfl hcl ?_
        show Ev 190 59 [.ref 59] [.int v15] σ13 w
        refine e_if_eq (t := 72) d_190_59 (by decide) rfl (fun hc => ?_) (fun hc => ?_)
        · replace H := H.1 hc
          refine e_iconst d_190_72 ci_0 rfl ?_
          subst H
          exact e_zret d_190_73 rr_190 (Or.inl rfl)
        · replace H := H.2 hc
          refine e_goto (t := 25) d_190_62 (by decide) ?_
          exact H
    · replace H := H.1 hc
      refine e_aload_n d_190_41 rfl rfl ?_
      refine e_getI d_190_42 oo_190 pF_9_304 (by decide) (hS2.k rfl) rfl ?_
      refine e_if_le (t := 74) d_190_45 (by decide) rfl (fun hc => ?_) (fun hc => ?_)
      · replace H := H.2 hc
        refine e_aload_n d_190_74 rfl rfl ?_
        refine e_iconst d_190_75 ci_1 rfl ?_
        obtain ⟨σ16, hcl, hS17, H⟩ := H
        refine e_vcall (w1 := (none, σ16)) d_190_76 kc_190_76 rfl ⟨Nat.le_of_ble_eq_true rfl, xx_190.symm⟩ rfl hcl ?_
        show Ev 190 79 [.ref 59] [] σ16 w
        refine e_iconst d_190_79 ci_1 rfl ?_
        subst H
        exact e_zret d_190_80 rr_190 (Or.inr rfl)
      · replace H := H.1 hc
        refine e_aload_n d_190_48 rfl rfl ?_
        refine e_getZ d_190_49 oo_190 pF_9_324 (by decide) (hS2.k rfl) rfl ?_
        refine e_if_eq (t := 65) d_190_52 (by decide) rfl (fun hc => ?_) (fun hc => ?_)
        · replace H := H.1 hc
          refine e_aload_n d_190_65 rfl rfl ?_
          obtain ⟨v21, σ19, hcl, hS20, H⟩ := H
          refine e_vcall (w1 := (some (.int v21), σ19)) d_190_66 kc_190_66 rfl ⟨Nat.le_of_ble_eq_true rfl, xx_190.symm⟩ rfl hcl ?_
          show Ev 190 69 [.ref 59] [.int v21] σ19 w
          refine e_if_ne (t := 25) d_190_69 (by decide) rfl (fun hc => ?_) (fun hc => ?_)
          · replace H := H.2 hc
            exact H
          · replace H := H.1 hc
            refine e_iconst d_190_72 ci_0 rfl ?_
            subst H
            exact e_zret d_190_73 rr_190 (Or.inl rfl)
        · replace H := H.2 hc
          refine e_aload_n d_190_55 rfl rfl ?_
          obtain ⟨v24, σ22, hcl, hS23, H⟩ := H
          refine e_vcall (w1 := (some (.int v24), σ22)) d_190_56 kc_190_56 rfl ⟨Nat.le_of_ble_eq_true rfl, xx_190.symm⟩ rfl hcl ?_
          show Ev 190 59 [.ref 59] [.int v24] σ22 w
          refine e_if_eq (t := 72) d_190_59 (by decide) rfl (fun hc => ?_) (fun hc => ?_)
          · replace H := H.1 hc
            refine e_iconst d_190_72 ci_0 rfl ?_
            subst H
            exact e_zret d_190_73 rr_190 (Or.inl rfl)
          · replace H := H.2 hc
            refine e_goto (t := 25) d_190_62 (by decide) ?_
            exact H
/-! X9_bounded -/
theorem b_191_0 {t : Nat} {σ : Mm} {w : Option Value × Mm} {y1 : Int64} (hS : Sg t σ) 
    (H : ((mI σ 59 48) = 0 → ((1000000000000 < y1 → (((mI (uI σ 59 48 1) 59 48) = 0 → (w = (some (.long y1), uI σ 59 48 1))) ∧ (¬ ((mI (uI σ 59 48 1) 59 48) = 0) → (w = (some (.long 0), uI σ 59 48 1))))) ∧ (¬ (1000000000000 < y1) → ((y1 < (-1000000000000) → (((mI (uI σ 59 48 1) 59 48) = 0 → (w = (some (.long y1), uI σ 59 48 1))) ∧ (¬ ((mI (uI σ 59 48 1) 59 48) = 0) → (w = (some (.long 0), uI σ 59 48 1))))) ∧ (¬ (y1 < (-1000000000000)) → (((mI (uI σ 59 48 0) 59 48) = 0 → (w = (some (.long y1), uI σ 59 48 0))) ∧ (¬ ((mI (uI σ 59 48 0) 59 48) = 0) → (w = (some (.long 0), uI σ 59 48 0))))))))) ∧ (¬ ((mI σ 59 48) = 0) → (((mI (uI σ 59 48 1) 59 48) = 0 → (w = (some (.long y1), uI σ 59 48 1))) ∧ (¬ ((mI (uI σ 59 48 1) 59 48) = 0) → (w = (some (.long 0), uI σ 59 48 1)))))) :
    Ev 191 0 [.ref 59, .long y1, .float 0] [] σ w := by
  refine e_aload_n d_191_0 rfl rfl ?_
  refine e_aload_n d_191_1 rfl rfl ?_
  refine e_getZ d_191_2 oo_191 pF_9_336 (by decide) (hS.k rfl) rfl ?_
  refine e_if_ne (t := 24) d_191_5 (by decide) rfl (fun hc => ?_) (fun hc => ?_)
  · replace H := H.2 hc
    refine e_iconst d_191_24 ci_1 rfl ?_
    refine e_goto (t := 29) d_191_25 (by decide) ?_
    refine e_putZ d_191_29 oo_191 pF_9_336 (Or.inl rfl) (hS.k rfl) (Or.inr rfl) rfl ?_
    refine e_aload_n d_191_32 rfl rfl ?_
    refine e_getZ d_191_33 oo_191 pF_9_336 (by decide) (hS.uI.k rfl) rfl ?_
    refine e_if_eq (t := 43) d_191_36 (by decide) rfl (fun hc => ?_) (fun hc => ?_)
    · replace H := H.1 hc
      refine e_lload_n d_191_43 rfl rfl ?_
      subst H
      exact e_lret d_191_44 rr_191
    · replace H := H.2 hc
      refine e_lconst d_191_39 cl_0 rfl ?_
      refine e_goto (t := 44) d_191_40 (by decide) ?_
      subst H
      exact e_lret d_191_44 rr_191
  · replace H := H.1 hc
    refine e_lload_n d_191_8 rfl rfl ?_
    refine e_ldc2 d_191_9 oo_191 pL_9_339 rfl ?_
    refine e_lc_gt (t := 24) d_191_12 d_191_13 rfl (by decide) rfl (fun hc => ?_) (fun hc => ?_)
    · replace H := H.1 hc
      refine e_iconst d_191_24 ci_1 rfl ?_
      refine e_goto (t := 29) d_191_25 (by decide) ?_
      refine e_putZ d_191_29 oo_191 pF_9_336 (Or.inl rfl) (hS.k rfl) (Or.inr rfl) rfl ?_
      refine e_aload_n d_191_32 rfl rfl ?_
      refine e_getZ d_191_33 oo_191 pF_9_336 (by decide) (hS.uI.k rfl) rfl ?_
      refine e_if_eq (t := 43) d_191_36 (by decide) rfl (fun hc => ?_) (fun hc => ?_)
      · replace H := H.1 hc
        refine e_lload_n d_191_43 rfl rfl ?_
        subst H
        exact e_lret d_191_44 rr_191
      · replace H := H.2 hc
        refine e_lconst d_191_39 cl_0 rfl ?_
        refine e_goto (t := 44) d_191_40 (by decide) ?_
        subst H
        exact e_lret d_191_44 rr_191
    · replace H := H.2 hc
      refine e_lload_n d_191_16 rfl rfl ?_
      refine e_ldc2 d_191_17 oo_191 pL_9_341 rfl ?_
      refine e_lc_ge (t := 28) d_191_20 d_191_21 rfl (by decide) rfl (fun hc => ?_) (fun hc => ?_)
      · replace H := H.2 hc
        refine e_iconst d_191_28 ci_0 rfl ?_
        refine e_putZ d_191_29 oo_191 pF_9_336 (Or.inl rfl) (hS.k rfl) (Or.inl rfl) rfl ?_
        refine e_aload_n d_191_32 rfl rfl ?_
        refine e_getZ d_191_33 oo_191 pF_9_336 (by decide) (hS.uI.k rfl) rfl ?_
        refine e_if_eq (t := 43) d_191_36 (by decide) rfl (fun hc => ?_) (fun hc => ?_)
        · replace H := H.1 hc
          refine e_lload_n d_191_43 rfl rfl ?_
          subst H
          exact e_lret d_191_44 rr_191
        · replace H := H.2 hc
          refine e_lconst d_191_39 cl_0 rfl ?_
          refine e_goto (t := 44) d_191_40 (by decide) ?_
          subst H
          exact e_lret d_191_44 rr_191
      · replace H := H.1 hc
        refine e_iconst d_191_24 ci_1 rfl ?_
        refine e_goto (t := 29) d_191_25 (by decide) ?_
        refine e_putZ d_191_29 oo_191 pF_9_336 (Or.inl rfl) (hS.k rfl) (Or.inr rfl) rfl ?_
        refine e_aload_n d_191_32 rfl rfl ?_
        refine e_getZ d_191_33 oo_191 pF_9_336 (by decide) (hS.uI.k rfl) rfl ?_
        refine e_if_eq (t := 43) d_191_36 (by decide) rfl (fun hc => ?_) (fun hc => ?_)
        · replace H := H.1 hc
          refine e_lload_n d_191_43 rfl rfl ?_
          subst H
          exact e_lret d_191_44 rr_191
        · replace H := H.2 hc
          refine e_lconst d_191_39 cl_0 rfl ?_
          refine e_goto (t := 44) d_191_40 (by decide) ?_
          subst H
          exact e_lret d_191_44 rr_191
/-! X9_compares -/
theorem b_192_0 {t : Nat} {σ : Mm} {w : Option Value × Mm} {x0 : Int32} {y1 : Int64} {y3 : Int64} (hS : Sg t σ) 
    (H : (x0 = 5 → ((y1 < y3 → (w = (some (.int 1), σ))) ∧ (¬ (y1 < y3) → (w = (some (.int 0), σ))))) ∧ (x0 = 6 → ((y3 < y1 → (w = (some (.int 0), σ))) ∧ (¬ (y3 < y1) → (w = (some (.int 1), σ))))) ∧ (x0 = 7 → ((y1 = y3 → (w = (some (.int 1), σ))) ∧ (¬ (y1 = y3) → (w = (some (.int 0), σ))))) ∧ (x0 = 8 → ((y1 = y3 → (w = (some (.int 0), σ))) ∧ (¬ (y1 = y3) → (w = (some (.int 1), σ))))) ∧ (x0 = 9 → ((y1 < y3 → (w = (some (.int 0), σ))) ∧ (¬ (y1 < y3) → (w = (some (.int 1), σ))))) ∧ ((¬ x0 = 5 ∧ ¬ x0 = 6 ∧ ¬ x0 = 7 ∧ ¬ x0 = 8 ∧ ¬ x0 = 9) → ((y3 < y1 → (w = (some (.int 1), σ))) ∧ (¬ (y3 < y1) → (w = (some (.int 0), σ)))))) :
    Ev 192 0 [.int x0, .long y1, .float 0, .long y3, .float 0] [] σ w := by
  refine e_iload_n d_192_0 rfl rfl ?_
  by_cases hs5 : x0 = 5
  · replace H := H.1 hs5
    refine e_table (off := 35) (t := 36) d_192_1 (by rw [hs5]; decide +kernel) (by decide) ?_
    refine e_lload_n d_192_36 rfl rfl ?_
    refine e_lload_n d_192_37 rfl rfl ?_
    refine e_lc_ge (t := 46) d_192_38 d_192_39 rfl (by decide) rfl (fun hc => ?_) (fun hc => ?_)
    · replace H := H.2 hc
      refine e_iconst d_192_46 ci_0 rfl ?_
      subst H
      exact e_zret d_192_47 rr_192 (Or.inl rfl)
    · replace H := H.1 hc
      refine e_iconst d_192_42 ci_1 rfl ?_
      refine e_goto (t := 47) d_192_43 (by decide) ?_
      subst H
      exact e_zret d_192_47 rr_192 (Or.inr rfl)
  by_cases hs6 : x0 = 6
  · replace H := H.2.1 hs6
    refine e_table (off := 47) (t := 48) d_192_1 (by rw [hs6]; decide +kernel) (by decide) ?_
    refine e_lload_n d_192_48 rfl rfl ?_
    refine e_lload_n d_192_49 rfl rfl ?_
    refine e_lc_gt (t := 58) d_192_50 d_192_51 rfl (by decide) rfl (fun hc => ?_) (fun hc => ?_)
    · replace H := H.1 hc
      refine e_iconst d_192_58 ci_0 rfl ?_
      subst H
      exact e_zret d_192_59 rr_192 (Or.inl rfl)
    · replace H := H.2 hc
      refine e_iconst d_192_54 ci_1 rfl ?_
      refine e_goto (t := 59) d_192_55 (by decide) ?_
      subst H
      exact e_zret d_192_59 rr_192 (Or.inr rfl)
  by_cases hs7 : x0 = 7
  · replace H := H.2.2.1 hs7
    refine e_table (off := 59) (t := 60) d_192_1 (by rw [hs7]; decide +kernel) (by decide) ?_
    refine e_lload_n d_192_60 rfl rfl ?_
    refine e_lload_n d_192_61 rfl rfl ?_
    refine e_lc_ne (t := 70) d_192_62 d_192_63 rfl (by decide) rfl (fun hc => ?_) (fun hc => ?_)
    · replace H := H.2 hc
      refine e_iconst d_192_70 ci_0 rfl ?_
      subst H
      exact e_zret d_192_71 rr_192 (Or.inl rfl)
    · replace H := H.1 hc
      refine e_iconst d_192_66 ci_1 rfl ?_
      refine e_goto (t := 71) d_192_67 (by decide) ?_
      subst H
      exact e_zret d_192_71 rr_192 (Or.inr rfl)
  by_cases hs8 : x0 = 8
  · replace H := H.2.2.2.1 hs8
    refine e_table (off := 71) (t := 72) d_192_1 (by rw [hs8]; decide +kernel) (by decide) ?_
    refine e_lload_n d_192_72 rfl rfl ?_
    refine e_lload_n d_192_73 rfl rfl ?_
    refine e_lc_eq (t := 82) d_192_74 d_192_75 rfl (by decide) rfl (fun hc => ?_) (fun hc => ?_)
    · replace H := H.1 hc
      refine e_iconst d_192_82 ci_0 rfl ?_
      subst H
      exact e_zret d_192_83 rr_192 (Or.inl rfl)
    · replace H := H.2 hc
      refine e_iconst d_192_78 ci_1 rfl ?_
      refine e_goto (t := 83) d_192_79 (by decide) ?_
      subst H
      exact e_zret d_192_83 rr_192 (Or.inr rfl)
  by_cases hs9 : x0 = 9
  · replace H := H.2.2.2.2.1 hs9
    refine e_table (off := 83) (t := 84) d_192_1 (by rw [hs9]; decide +kernel) (by decide) ?_
    refine e_lload_n d_192_84 rfl rfl ?_
    refine e_lload_n d_192_85 rfl rfl ?_
    refine e_lc_lt (t := 94) d_192_86 d_192_87 rfl (by decide) rfl (fun hc => ?_) (fun hc => ?_)
    · replace H := H.1 hc
      refine e_iconst d_192_94 ci_0 rfl ?_
      subst H
      exact e_zret d_192_95 rr_192 (Or.inl rfl)
    · replace H := H.2 hc
      refine e_iconst d_192_90 ci_1 rfl ?_
      refine e_goto (t := 95) d_192_91 (by decide) ?_
      subst H
      exact e_zret d_192_95 rr_192 (Or.inr rfl)
  replace H := H.2.2.2.2.2 ⟨hs5, hs6, hs7, hs8, hs9⟩
  refine e_table (off := 95) (t := 96) d_192_1 (sw_192_1 hs5 hs6 hs7 hs8 hs9) (by decide) ?_
  refine e_lload_n d_192_96 rfl rfl ?_
  refine e_lload_n d_192_97 rfl rfl ?_
  refine e_lc_le (t := 106) d_192_98 d_192_99 rfl (by decide) rfl (fun hc => ?_) (fun hc => ?_)
  · replace H := H.2 hc
    refine e_iconst d_192_106 ci_0 rfl ?_
    subst H
    exact e_zret d_192_107 rr_192 (Or.inl rfl)
  · replace H := H.1 hc
    refine e_iconst d_192_102 ci_1 rfl ?_
    refine e_goto (t := 107) d_192_103 (by decide) ?_
    subst H
    exact e_zret d_192_107 rr_192 (Or.inr rfl)
/-! X9_times -/
theorem b_193_0 {t : Nat} {σ : Mm} {w : Option Value × Mm} {y1 : Int64} {y3 : Int64} (hS : Sg t σ) 
    (H : (y1 = 0 → Ev 193 49 [.ref 59, .long y1, .float 0, .long y3, .float 0, .retAddr 0] [.int 0] σ w) ∧ (¬ (y1 = 0) → ((y3 = 0 → Ev 193 49 [.ref 59, .long y1, .float 0, .long y3, .float 0, .retAddr 0] [.int 0] σ w) ∧ (¬ (y3 = 0) → ((y3 < 0 → Ev 193 24 [.ref 59, .long y1, .float 0, .long y3, .float 0, .retAddr 0] [.long (-y3)] σ w) ∧ (¬ (y3 < 0) → Ev 193 24 [.ref 59, .long y1, .float 0, .long y3, .float 0, .retAddr 0] [.long y3] σ w)))))) :
    Ev 193 0 [.ref 59, .long y1, .float 0, .long y3, .float 0, .retAddr 0] [] σ w := by
  refine e_lload_n d_193_0 rfl rfl ?_
  refine e_lconst d_193_1 cl_0 rfl ?_
  refine e_lc_eq (t := 48) d_193_2 d_193_3 rfl (by decide) rfl (fun hc => ?_) (fun hc => ?_)
  · replace H := H.1 hc
    refine e_iconst d_193_48 ci_0 rfl ?_
    exact H
  · replace H := H.2 hc
    refine e_lload_n d_193_6 rfl rfl ?_
    refine e_lconst d_193_7 cl_0 rfl ?_
    refine e_lc_eq (t := 48) d_193_8 d_193_9 rfl (by decide) rfl (fun hc => ?_) (fun hc => ?_)
    · replace H := H.1 hc
      refine e_iconst d_193_48 ci_0 rfl ?_
      exact H
    · replace H := H.2 hc
      refine e_lload_n d_193_12 rfl rfl ?_
      refine e_lconst d_193_13 cl_0 rfl ?_
      refine e_lc_ge (t := 23) d_193_14 d_193_15 rfl (by decide) rfl (fun hc => ?_) (fun hc => ?_)
      · replace H := H.2 hc
        refine e_lload_n d_193_23 rfl rfl ?_
        exact H
      · replace H := H.1 hc
        refine e_lload_n d_193_18 rfl rfl ?_
        refine e_lneg d_193_19 rfl ?_
        refine e_goto (t := 24) d_193_20 (by decide) ?_
        exact H
theorem b_193_24 {t : Nat} {σ : Mm} {w : Option Value × Mm} {y1 : Int64} {y3 : Int64} {z5 : Value} {s0 : Int64} (hS : Sg t σ) 
    (H : (y1 < 0 → (¬ (-y1) = 0 ∧ (((1000000000000 / (-y1)) < s0 → Ev 193 49 [.ref 59, .long y1, .float 0, .long y3, .float 0, z5] [.int 1] σ w) ∧ (¬ ((1000000000000 / (-y1)) < s0) → Ev 193 49 [.ref 59, .long y1, .float 0, .long y3, .float 0, z5] [.int 0] σ w)))) ∧ (¬ (y1 < 0) → (¬ y1 = 0 ∧ (((1000000000000 / y1) < s0 → Ev 193 49 [.ref 59, .long y1, .float 0, .long y3, .float 0, z5] [.int 1] σ w) ∧ (¬ ((1000000000000 / y1) < s0) → Ev 193 49 [.ref 59, .long y1, .float 0, .long y3, .float 0, z5] [.int 0] σ w))))) :
    Ev 193 24 [.ref 59, .long y1, .float 0, .long y3, .float 0, z5] [.long s0] σ w := by
  refine e_ldc2 d_193_24 oo_193 pL_9_339 rfl ?_
  refine e_lload_n d_193_27 rfl rfl ?_
  refine e_lconst d_193_28 cl_0 rfl ?_
  refine e_lc_ge (t := 38) d_193_29 d_193_30 rfl (by decide) rfl (fun hc => ?_) (fun hc => ?_)
  · replace H := H.2 hc
    refine e_lload_n d_193_38 rfl rfl ?_
    obtain ⟨hz, H⟩ := H
    refine e_ldiv d_193_39 hz rfl ?_
    refine e_lc_le (t := 48) d_193_40 d_193_41 rfl (by decide) rfl (fun hc => ?_) (fun hc => ?_)
    · replace H := H.2 hc
      refine e_iconst d_193_48 ci_0 rfl ?_
      exact H
    · replace H := H.1 hc
      refine e_iconst d_193_44 ci_1 rfl ?_
      refine e_goto (t := 49) d_193_45 (by decide) ?_
      exact H
  · replace H := H.1 hc
    refine e_lload_n d_193_33 rfl rfl ?_
    refine e_lneg d_193_34 rfl ?_
    refine e_goto (t := 39) d_193_35 (by decide) ?_
    obtain ⟨hz, H⟩ := H
    refine e_ldiv d_193_39 hz rfl ?_
    refine e_lc_le (t := 48) d_193_40 d_193_41 rfl (by decide) rfl (fun hc => ?_) (fun hc => ?_)
    · replace H := H.2 hc
      refine e_iconst d_193_48 ci_0 rfl ?_
      exact H
    · replace H := H.1 hc
      refine e_iconst d_193_44 ci_1 rfl ?_
      refine e_goto (t := 49) d_193_45 (by decide) ?_
      exact H
theorem b_193_49 {t : Nat} {σ : Mm} {w : Option Value × Mm} {y1 : Int64} {y3 : Int64} {z5 : Value} {s0 : Int32} (hS : Sg t σ) 
    (H : ((mI σ 59 48) = 0 → ((s0 = 0 → (((mI (uI σ 59 48 0) 59 48) = 0 → (w = (some (.long (y1 * y3)), uI σ 59 48 0))) ∧ (¬ ((mI (uI σ 59 48 0) 59 48) = 0) → (w = (some (.long 0), uI σ 59 48 0))))) ∧ (¬ (s0 = 0) → (((mI (uI σ 59 48 1) 59 48) = 0 → (w = (some (.long (y1 * y3)), uI σ 59 48 1))) ∧ (¬ ((mI (uI σ 59 48 1) 59 48) = 0) → (w = (some (.long 0), uI σ 59 48 1))))))) ∧ (¬ ((mI σ 59 48) = 0) → (((mI (uI σ 59 48 1) 59 48) = 0 → (w = (some (.long (y1 * y3)), uI σ 59 48 1))) ∧ (¬ ((mI (uI σ 59 48 1) 59 48) = 0) → (w = (some (.long 0), uI σ 59 48 1)))))) :
    Ev 193 49 [.ref 59, .long y1, .float 0, .long y3, .float 0, z5] [.int s0] σ w := by
  refine e_istore (ls2 := [.ref 59, .long y1, .float 0, .long y3, .float 0, .int s0]) d_193_49 rfl rfl rfl ?_
  refine e_aload_n d_193_51 rfl rfl ?_
  refine e_aload_n d_193_52 rfl rfl ?_
  refine e_getZ d_193_53 oo_193 pF_9_336 (by decide) (hS.k rfl) rfl ?_
  refine e_if_ne (t := 64) d_193_56 (by decide) rfl (fun hc => ?_) (fun hc => ?_)
  · replace H := H.2 hc
    refine e_iconst d_193_64 ci_1 rfl ?_
    refine e_goto (t := 69) d_193_65 (by decide) ?_
    refine e_putZ d_193_69 oo_193 pF_9_336 (Or.inl rfl) (hS.k rfl) (Or.inr rfl) rfl ?_
    refine e_aload_n d_193_72 rfl rfl ?_
    refine e_getZ d_193_73 oo_193 pF_9_336 (by decide) (hS.uI.k rfl) rfl ?_
    refine e_if_eq (t := 83) d_193_76 (by decide) rfl (fun hc => ?_) (fun hc => ?_)
    · replace H := H.1 hc
      refine e_lload_n d_193_83 rfl rfl ?_
      refine e_lload_n d_193_84 rfl rfl ?_
      refine e_lmul d_193_85 rfl ?_
      subst H
      exact e_lret d_193_86 rr_193
    · replace H := H.2 hc
      refine e_lconst d_193_79 cl_0 rfl ?_
      refine e_goto (t := 86) d_193_80 (by decide) ?_
      subst H
      exact e_lret d_193_86 rr_193
  · replace H := H.1 hc
    refine e_iload d_193_59 rfl rfl ?_
    refine e_if_eq (t := 68) d_193_61 (by decide) rfl (fun hc => ?_) (fun hc => ?_)
    · replace H := H.1 hc
      refine e_iconst d_193_68 ci_0 rfl ?_
      refine e_putZ d_193_69 oo_193 pF_9_336 (Or.inl rfl) (hS.k rfl) (Or.inl rfl) rfl ?_
      refine e_aload_n d_193_72 rfl rfl ?_
      refine e_getZ d_193_73 oo_193 pF_9_336 (by decide) (hS.uI.k rfl) rfl ?_
      refine e_if_eq (t := 83) d_193_76 (by decide) rfl (fun hc => ?_) (fun hc => ?_)
      · replace H := H.1 hc
        refine e_lload_n d_193_83 rfl rfl ?_
        refine e_lload_n d_193_84 rfl rfl ?_
        refine e_lmul d_193_85 rfl ?_
        subst H
        exact e_lret d_193_86 rr_193
      · replace H := H.2 hc
        refine e_lconst d_193_79 cl_0 rfl ?_
        refine e_goto (t := 86) d_193_80 (by decide) ?_
        subst H
        exact e_lret d_193_86 rr_193
    · replace H := H.2 hc
      refine e_iconst d_193_64 ci_1 rfl ?_
      refine e_goto (t := 69) d_193_65 (by decide) ?_
      refine e_putZ d_193_69 oo_193 pF_9_336 (Or.inl rfl) (hS.k rfl) (Or.inr rfl) rfl ?_
      refine e_aload_n d_193_72 rfl rfl ?_
      refine e_getZ d_193_73 oo_193 pF_9_336 (by decide) (hS.uI.k rfl) rfl ?_
      refine e_if_eq (t := 83) d_193_76 (by decide) rfl (fun hc => ?_) (fun hc => ?_)
      · replace H := H.1 hc
        refine e_lload_n d_193_83 rfl rfl ?_
        refine e_lload_n d_193_84 rfl rfl ?_
        refine e_lmul d_193_85 rfl ?_
        subst H
        exact e_lret d_193_86 rr_193
      · replace H := H.2 hc
        refine e_lconst d_193_79 cl_0 rfl ?_
        refine e_goto (t := 86) d_193_80 (by decide) ?_
        subst H
        exact e_lret d_193_86 rr_193
/-! X9_valueOf -/
theorem b_194_0 {t : Nat} {σ : Mm} {w : Option Value × Mm} {x1 : Int32} (hS : Sg t σ) 
    (H : inb x1 128 = true ∧ (((mI σ 75 x1.toNatClampNeg) = 0 → (inb x1 128 = true ∧ (w = (some (.long (Int32.toInt64 (mI σ 76 x1.toNatClampNeg))), σ)))) ∧ (¬ ((mI σ 75 x1.toNatClampNeg) = 0) → (inb x1 128 = true ∧ (((mI σ 75 x1.toNatClampNeg) = 1 → (inb x1 128 = true ∧ (inb (mI σ 76 x1.toNatClampNeg) 7 = true ∧ (w = (some (.long (mL σ 80 (mI σ 76 x1.toNatClampNeg).toNatClampNeg)), σ))))) ∧ (¬ ((mI σ 75 x1.toNatClampNeg) = 1) → (inb x1 128 = true ∧ (inb (mI σ 76 x1.toNatClampNeg) 64 = true ∧ (inb x1 128 = true ∧ (((mI σ 75 x1.toNatClampNeg) = 2 → (((mL σ 81 (mI σ 76 x1.toNatClampNeg).toNatClampNeg) = 0 → (w = (some (.long 1), σ))) ∧ (¬ ((mL σ 81 (mI σ 76 x1.toNatClampNeg).toNatClampNeg) = 0) → (w = (some (.long 0), σ))))) ∧ (¬ ((mI σ 75 x1.toNatClampNeg) = 2) → (inb x1 128 = true ∧ (inb (mI σ 77 x1.toNatClampNeg) 64 = true ∧ (inb x1 128 = true ∧ (((mI σ 75 x1.toNatClampNeg) = 3 → (((mL σ 81 (mI σ 76 x1.toNatClampNeg).toNatClampNeg) = 0 → Ev 194 173 [.ref 59, .int x1, .long (mL σ 81 (mI σ 76 x1.toNatClampNeg).toNatClampNeg), .float 0, .long (mL σ 81 (mI σ 77 x1.toNatClampNeg).toNatClampNeg), .float 0] [] σ w) ∧ (¬ ((mL σ 81 (mI σ 76 x1.toNatClampNeg).toNatClampNeg) = 0) → (((mL σ 81 (mI σ 77 x1.toNatClampNeg).toNatClampNeg) = 0 → Ev 194 173 [.ref 59, .int x1, .long (mL σ 81 (mI σ 76 x1.toNatClampNeg).toNatClampNeg), .float 0, .long (mL σ 81 (mI σ 77 x1.toNatClampNeg).toNatClampNeg), .float 0] [] σ w) ∧ (¬ ((mL σ 81 (mI σ 77 x1.toNatClampNeg).toNatClampNeg) = 0) → Ev 194 169 [.ref 59, .int x1, .long (mL σ 81 (mI σ 76 x1.toNatClampNeg).toNatClampNeg), .float 0, .long (mL σ 81 (mI σ 77 x1.toNatClampNeg).toNatClampNeg), .float 0] [] σ w))))) ∧ ((mI σ 75 x1.toNatClampNeg) = 4 → (((mL σ 81 (mI σ 76 x1.toNatClampNeg).toNatClampNeg) = 0 → (((mL σ 81 (mI σ 77 x1.toNatClampNeg).toNatClampNeg) = 0 → Ev 194 192 [.ref 59, .int x1, .long (mL σ 81 (mI σ 76 x1.toNatClampNeg).toNatClampNeg), .float 0, .long (mL σ 81 (mI σ 77 x1.toNatClampNeg).toNatClampNeg), .float 0] [] σ w) ∧ (¬ ((mL σ 81 (mI σ 77 x1.toNatClampNeg).toNatClampNeg) = 0) → Ev 194 188 [.ref 59, .int x1, .long (mL σ 81 (mI σ 76 x1.toNatClampNeg).toNatClampNeg), .float 0, .long (mL σ 81 (mI σ 77 x1.toNatClampNeg).toNatClampNeg), .float 0] [] σ w))) ∧ (¬ ((mL σ 81 (mI σ 76 x1.toNatClampNeg).toNatClampNeg) = 0) → Ev 194 188 [.ref 59, .int x1, .long (mL σ 81 (mI σ 76 x1.toNatClampNeg).toNatClampNeg), .float 0, .long (mL σ 81 (mI σ 77 x1.toNatClampNeg).toNatClampNeg), .float 0] [] σ w))) ∧ ((mI σ 75 x1.toNatClampNeg) = 11 → (∃ (v6 : Int64) (σ4 : Mm), Cl 191 [.ref 59, .long ((mL σ 81 (mI σ 76 x1.toNatClampNeg).toNatClampNeg) + (mL σ 81 (mI σ 77 x1.toNatClampNeg).toNatClampNeg))] σ (some (.long v6), σ4) ∧ Sg t σ4 ∧ (w = (some (.long v6), σ4)))) ∧ ((mI σ 75 x1.toNatClampNeg) = 12 → (∃ (v9 : Int64) (σ7 : Mm), Cl 191 [.ref 59, .long ((mL σ 81 (mI σ 76 x1.toNatClampNeg).toNatClampNeg) - (mL σ 81 (mI σ 77 x1.toNatClampNeg).toNatClampNeg))] σ (some (.long v9), σ7) ∧ Sg t σ7 ∧ (w = (some (.long v9), σ7)))) ∧ ((mI σ 75 x1.toNatClampNeg) = 13 → (∃ (v12 : Int64) (σ10 : Mm), Cl 193 [.ref 59, .long (mL σ 81 (mI σ 76 x1.toNatClampNeg).toNatClampNeg), .long (mL σ 81 (mI σ 77 x1.toNatClampNeg).toNatClampNeg)] σ (some (.long v12), σ10) ∧ Sg t σ10 ∧ (w = (some (.long v12), σ10)))) ∧ ((mI σ 75 x1.toNatClampNeg) = 14 → Ev 194 220 [.ref 59, .int x1, .long (mL σ 81 (mI σ 76 x1.toNatClampNeg).toNatClampNeg), .float 0, .long (mL σ 81 (mI σ 77 x1.toNatClampNeg).toNatClampNeg), .float 0] [] σ w) ∧ ((¬ (mI σ 75 x1.toNatClampNeg) = 3 ∧ ¬ (mI σ 75 x1.toNatClampNeg) = 4 ∧ ¬ (mI σ 75 x1.toNatClampNeg) = 11 ∧ ¬ (mI σ 75 x1.toNatClampNeg) = 12 ∧ ¬ (mI σ 75 x1.toNatClampNeg) = 13 ∧ ¬ (mI σ 75 x1.toNatClampNeg) = 14) → (inb x1 128 = true ∧ (∃ (v3 : Int32) (σ1 : Mm), Cl 192 [.int (mI σ 75 x1.toNatClampNeg), .long (mL σ 81 (mI σ 76 x1.toNatClampNeg).toNatClampNeg), .long (mL σ 81 (mI σ 77 x1.toNatClampNeg).toNatClampNeg)] σ (some (.int v3), σ1) ∧ Sg t σ1 ∧ ((v3 = 0 → Ev 194 278 [.ref 59, .int x1, .long (mL σ 81 (mI σ 76 x1.toNatClampNeg).toNatClampNeg), .float 0, .long (mL σ 81 (mI σ 77 x1.toNatClampNeg).toNatClampNeg), .float 0] [] σ1 w) ∧ (¬ (v3 = 0) → Ev 194 274 [.ref 59, .int x1, .long (mL σ 81 (mI σ 76 x1.toNatClampNeg).toNatClampNeg), .float 0, .long (mL σ 81 (mI σ 77 x1.toNatClampNeg).toNatClampNeg), .float 0] [] σ1 w)))))))))))))))))))) :
    Ev 194 0 [.ref 59, .int x1, .retAddr 0, .retAddr 0, .retAddr 0, .retAddr 0] [] σ w := by
  refine e_aload_n d_194_0 rfl rfl ?_
  refine e_getR d_194_1 oo_194 pF_9_60 (by decide) (hS.k rfl) (hS.r rt_59_35) rfl ?_
  refine e_iload_n d_194_4 rfl rfl ?_
  obtain ⟨hb, H⟩ := H
  refine e_iaload (v := (mI σ 75 x1.toNatClampNeg)) d_194_5 (rdI_at (hS.k rfl) hb) rfl ?_
  refine e_if_ne (t := 17) d_194_6 (by decide) rfl (fun hc => ?_) (fun hc => ?_)
  · replace H := H.2 hc
    refine e_aload_n d_194_17 rfl rfl ?_
    refine e_getR d_194_18 oo_194 pF_9_60 (by decide) (hS.k rfl) (hS.r rt_59_35) rfl ?_
    refine e_iload_n d_194_21 rfl rfl ?_
    obtain ⟨hb, H⟩ := H
    refine e_iaload (v := (mI σ 75 x1.toNatClampNeg)) d_194_22 (rdI_at (hS.k rfl) hb) rfl ?_
    refine e_iconst d_194_23 ci_1 rfl ?_
    refine e_icmp_ne (t := 39) d_194_24 (by decide) rfl (fun hc => ?_) (fun hc => ?_)
    · replace H := H.2 hc
      refine e_aload_n d_194_39 rfl rfl ?_
      refine e_getR d_194_40 oo_194 pF_9_79 (by decide) (hS.k rfl) (hS.r rt_59_47) rfl ?_
      refine e_aload_n d_194_43 rfl rfl ?_
      refine e_getR d_194_44 oo_194 pF_9_63 (by decide) (hS.k rfl) (hS.r rt_59_36) rfl ?_
      refine e_iload_n d_194_47 rfl rfl ?_
      obtain ⟨hb, H⟩ := H
      refine e_iaload (v := (mI σ 76 x1.toNatClampNeg)) d_194_48 (rdI_at (hS.k rfl) hb) rfl ?_
      obtain ⟨hb, H⟩ := H
      refine e_laload (v := (mL σ 81 (mI σ 76 x1.toNatClampNeg).toNatClampNeg)) d_194_49 (rdL_at (hS.k rfl) hb) rfl ?_
      refine e_lstore_n (ls2 := [.ref 59, .int x1, .long (mL σ 81 (mI σ 76 x1.toNatClampNeg).toNatClampNeg), .float 0, .retAddr 0, .retAddr 0]) d_194_50 rfl rfl rfl ?_
      refine e_aload_n d_194_51 rfl rfl ?_
      refine e_getR d_194_52 oo_194 pF_9_60 (by decide) (hS.k rfl) (hS.r rt_59_35) rfl ?_
      refine e_iload_n d_194_55 rfl rfl ?_
      obtain ⟨hb, H⟩ := H
      refine e_iaload (v := (mI σ 75 x1.toNatClampNeg)) d_194_56 (rdI_at (hS.k rfl) hb) rfl ?_
      refine e_iconst d_194_57 ci_2 rfl ?_
      refine e_icmp_ne (t := 73) d_194_58 (by decide) rfl (fun hc => ?_) (fun hc => ?_)
      · replace H := H.2 hc
        refine e_aload_n d_194_73 rfl rfl ?_
        refine e_getR d_194_74 oo_194 pF_9_79 (by decide) (hS.k rfl) (hS.r rt_59_47) rfl ?_
        refine e_aload_n d_194_77 rfl rfl ?_
        refine e_getR d_194_78 oo_194 pF_9_66 (by decide) (hS.k rfl) (hS.r rt_59_37) rfl ?_
        refine e_iload_n d_194_81 rfl rfl ?_
        obtain ⟨hb, H⟩ := H
        refine e_iaload (v := (mI σ 77 x1.toNatClampNeg)) d_194_82 (rdI_at (hS.k rfl) hb) rfl ?_
        obtain ⟨hb, H⟩ := H
        refine e_laload (v := (mL σ 81 (mI σ 77 x1.toNatClampNeg).toNatClampNeg)) d_194_83 (rdL_at (hS.k rfl) hb) rfl ?_
        refine e_lstore (ls2 := [.ref 59, .int x1, .long (mL σ 81 (mI σ 76 x1.toNatClampNeg).toNatClampNeg), .float 0, .long (mL σ 81 (mI σ 77 x1.toNatClampNeg).toNatClampNeg), .float 0]) d_194_84 rfl rfl rfl ?_
        refine e_aload_n d_194_86 rfl rfl ?_
        refine e_getR d_194_87 oo_194 pF_9_60 (by decide) (hS.k rfl) (hS.r rt_59_35) rfl ?_
        refine e_iload_n d_194_90 rfl rfl ?_
        obtain ⟨hb, H⟩ := H
        refine e_iaload (v := (mI σ 75 x1.toNatClampNeg)) d_194_91 (rdI_at (hS.k rfl) hb) rfl ?_
        by_cases hs3 : (mI σ 75 x1.toNatClampNeg) = 3
        · replace H := H.1 hs3
          refine e_table (off := 64) (t := 156) d_194_92 (by rw [hs3]; decide +kernel) (by decide) ?_
          refine e_lload_n d_194_156 rfl rfl ?_
          refine e_lconst d_194_157 cl_0 rfl ?_
          refine e_lc_eq (t := 173) d_194_158 d_194_159 rfl (by decide) rfl (fun hc => ?_) (fun hc => ?_)
          · replace H := H.1 hc
            exact H
          · replace H := H.2 hc
            refine e_lload d_194_162 rfl rfl ?_
            refine e_lconst d_194_164 cl_0 rfl ?_
            refine e_lc_eq (t := 173) d_194_165 d_194_166 rfl (by decide) rfl (fun hc => ?_) (fun hc => ?_)
            · replace H := H.1 hc
              exact H
            · replace H := H.2 hc
              exact H
        by_cases hs4 : (mI σ 75 x1.toNatClampNeg) = 4
        · replace H := H.2.1 hs4
          refine e_table (off := 83) (t := 175) d_194_92 (by rw [hs4]; decide +kernel) (by decide) ?_
          refine e_lload_n d_194_175 rfl rfl ?_
          refine e_lconst d_194_176 cl_0 rfl ?_
          refine e_lc_ne (t := 188) d_194_177 d_194_178 rfl (by decide) rfl (fun hc => ?_) (fun hc => ?_)
          · replace H := H.2 hc
            exact H
          · replace H := H.1 hc
            refine e_lload d_194_181 rfl rfl ?_
            refine e_lconst d_194_183 cl_0 rfl ?_
            refine e_lc_eq (t := 192) d_194_184 d_194_185 rfl (by decide) rfl (fun hc => ?_) (fun hc => ?_)
            · replace H := H.1 hc
              exact H
            · replace H := H.2 hc
              exact H
        by_cases hs11 : (mI σ 75 x1.toNatClampNeg) = 11
        · replace H := H.2.2.1 hs11
          refine e_table (off := 102) (t := 194) d_194_92 (by rw [hs11]; decide +kernel) (by decide) ?_
          refine e_aload_n d_194_194 rfl rfl ?_
          refine e_lload_n d_194_195 rfl rfl ?_
          refine e_lload d_194_196 rfl rfl ?_
          refine e_ladd d_194_198 rfl ?_
          obtain ⟨v6, σ4, hcl, hS5, H⟩ := H
          refine e_vcall (w1 := (some (.long v6), σ4)) d_194_199 kc_194_199 rfl ⟨Nat.le_of_ble_eq_true rfl, xx_194.symm⟩ rfl hcl ?_
          show Ev 194 202 [.ref 59, .int x1, .long (mL σ 81 (mI σ 76 x1.toNatClampNeg).toNatClampNeg), .float 0, .long (mL σ 81 (mI σ 77 x1.toNatClampNeg).toNatClampNeg), .float 0] [.long v6] σ4 w
          subst H
          exact e_lret d_194_202 rr_194
        by_cases hs12 : (mI σ 75 x1.toNatClampNeg) = 12
        · replace H := H.2.2.2.1 hs12
          refine e_table (off := 111) (t := 203) d_194_92 (by rw [hs12]; decide +kernel) (by decide) ?_
          refine e_aload_n d_194_203 rfl rfl ?_
          refine e_lload_n d_194_204 rfl rfl ?_
          refine e_lload d_194_205 rfl rfl ?_
          refine e_lsub d_194_207 rfl ?_
          obtain ⟨v9, σ7, hcl, hS8, H⟩ := H
          refine e_vcall (w1 := (some (.long v9), σ7)) d_194_208 kc_194_208 rfl ⟨Nat.le_of_ble_eq_true rfl, xx_194.symm⟩ rfl hcl ?_
          show Ev 194 211 [.ref 59, .int x1, .long (mL σ 81 (mI σ 76 x1.toNatClampNeg).toNatClampNeg), .float 0, .long (mL σ 81 (mI σ 77 x1.toNatClampNeg).toNatClampNeg), .float 0] [.long v9] σ7 w
          subst H
          exact e_lret d_194_211 rr_194
        by_cases hs13 : (mI σ 75 x1.toNatClampNeg) = 13
        · replace H := H.2.2.2.2.1 hs13
          refine e_table (off := 120) (t := 212) d_194_92 (by rw [hs13]; decide +kernel) (by decide) ?_
          refine e_aload_n d_194_212 rfl rfl ?_
          refine e_lload_n d_194_213 rfl rfl ?_
          refine e_lload d_194_214 rfl rfl ?_
          obtain ⟨v12, σ10, hcl, hS11, H⟩ := H
          refine e_vcall (w1 := (some (.long v12), σ10)) d_194_216 kc_194_216 rfl ⟨Nat.le_of_ble_eq_true rfl, xx_194.symm⟩ rfl hcl ?_
          show Ev 194 219 [.ref 59, .int x1, .long (mL σ 81 (mI σ 76 x1.toNatClampNeg).toNatClampNeg), .float 0, .long (mL σ 81 (mI σ 77 x1.toNatClampNeg).toNatClampNeg), .float 0] [.long v12] σ10 w
          subst H
          exact e_lret d_194_219 rr_194
        by_cases hs14 : (mI σ 75 x1.toNatClampNeg) = 14
        · replace H := H.2.2.2.2.2.1 hs14
          refine e_table (off := 128) (t := 220) d_194_92 (by rw [hs14]; decide +kernel) (by decide) ?_
          exact H
        replace H := H.2.2.2.2.2.2 ⟨hs3, hs4, hs11, hs12, hs13, hs14⟩
        refine e_table (off := 167) (t := 259) d_194_92 (sw_194_92 hs3 hs4 hs11 hs12 hs13 hs14) (by decide) ?_
        refine e_aload_n d_194_259 rfl rfl ?_
        refine e_getR d_194_260 oo_194 pF_9_60 (by decide) (hS.k rfl) (hS.r rt_59_35) rfl ?_
        refine e_iload_n d_194_263 rfl rfl ?_
        obtain ⟨hb, H⟩ := H
        refine e_iaload (v := (mI σ 75 x1.toNatClampNeg)) d_194_264 (rdI_at (hS.k rfl) hb) rfl ?_
        refine e_lload_n d_194_265 rfl rfl ?_
        refine e_lload d_194_266 rfl rfl ?_
        obtain ⟨v3, σ1, hcl, hS2, H⟩ := H
        refine e_scall (w1 := (some (.int v3), σ1)) d_194_268 kc_194_268 rfl ⟨Nat.le_of_ble_eq_true rfl, xx_194.symm⟩ rfl hcl ?_
        show Ev 194 271 [.ref 59, .int x1, .long (mL σ 81 (mI σ 76 x1.toNatClampNeg).toNatClampNeg), .float 0, .long (mL σ 81 (mI σ 77 x1.toNatClampNeg).toNatClampNeg), .float 0] [.int v3] σ1 w
        refine e_if_eq (t := 278) d_194_271 (by decide) rfl (fun hc => ?_) (fun hc => ?_)
        · replace H := H.1 hc
          exact H
        · replace H := H.2 hc
          exact H
      · replace H := H.1 hc
        refine e_lload_n d_194_61 rfl rfl ?_
        refine e_lconst d_194_62 cl_0 rfl ?_
        refine e_lc_ne (t := 71) d_194_63 d_194_64 rfl (by decide) rfl (fun hc => ?_) (fun hc => ?_)
        · replace H := H.2 hc
          refine e_lconst d_194_71 cl_0 rfl ?_
          subst H
          exact e_lret d_194_72 rr_194
        · replace H := H.1 hc
          refine e_lconst d_194_67 cl_1 rfl ?_
          refine e_goto (t := 72) d_194_68 (by decide) ?_
          subst H
          exact e_lret d_194_72 rr_194
    · replace H := H.1 hc
      refine e_aload_n d_194_27 rfl rfl ?_
      refine e_getR d_194_28 oo_194 pF_9_75 (by decide) (hS.k rfl) (hS.r rt_59_46) rfl ?_
      refine e_aload_n d_194_31 rfl rfl ?_
      refine e_getR d_194_32 oo_194 pF_9_63 (by decide) (hS.k rfl) (hS.r rt_59_36) rfl ?_
      refine e_iload_n d_194_35 rfl rfl ?_
      obtain ⟨hb, H⟩ := H
      refine e_iaload (v := (mI σ 76 x1.toNatClampNeg)) d_194_36 (rdI_at (hS.k rfl) hb) rfl ?_
      obtain ⟨hb, H⟩ := H
      refine e_laload (v := (mL σ 80 (mI σ 76 x1.toNatClampNeg).toNatClampNeg)) d_194_37 (rdL_at (hS.k rfl) hb) rfl ?_
      subst H
      exact e_lret d_194_38 rr_194
  · replace H := H.1 hc
    refine e_aload_n d_194_9 rfl rfl ?_
    refine e_getR d_194_10 oo_194 pF_9_63 (by decide) (hS.k rfl) (hS.r rt_59_36) rfl ?_
    refine e_iload_n d_194_13 rfl rfl ?_
    obtain ⟨hb, H⟩ := H
    refine e_iaload (v := (mI σ 76 x1.toNatClampNeg)) d_194_14 (rdI_at (hS.k rfl) hb) rfl ?_
    refine e_i2l d_194_15 rfl ?_
    subst H
    exact e_lret d_194_16 rr_194
theorem b_194_169 {t : Nat} {σ : Mm} {w : Option Value × Mm} {x1 : Int32} {y2 : Int64} {y4 : Int64} (hS : Sg t σ) 
    (H : w = (some (.long 1), σ)) :
    Ev 194 169 [.ref 59, .int x1, .long y2, .float 0, .long y4, .float 0] [] σ w := by
  refine e_lconst d_194_169 cl_1 rfl ?_
  refine e_goto (t := 174) d_194_170 (by decide) ?_
  subst H
  exact e_lret d_194_174 rr_194
theorem b_194_173 {t : Nat} {σ : Mm} {w : Option Value × Mm} {x1 : Int32} {y2 : Int64} {y4 : Int64} (hS : Sg t σ) 
    (H : w = (some (.long 0), σ)) :
    Ev 194 173 [.ref 59, .int x1, .long y2, .float 0, .long y4, .float 0] [] σ w := by
  refine e_lconst d_194_173 cl_0 rfl ?_
  subst H
  exact e_lret d_194_174 rr_194
theorem b_194_188 {t : Nat} {σ : Mm} {w : Option Value × Mm} {x1 : Int32} {y2 : Int64} {y4 : Int64} (hS : Sg t σ) 
    (H : w = (some (.long 1), σ)) :
    Ev 194 188 [.ref 59, .int x1, .long y2, .float 0, .long y4, .float 0] [] σ w := by
  refine e_lconst d_194_188 cl_1 rfl ?_
  refine e_goto (t := 193) d_194_189 (by decide) ?_
  subst H
  exact e_lret d_194_193 rr_194
theorem b_194_192 {t : Nat} {σ : Mm} {w : Option Value × Mm} {x1 : Int32} {y2 : Int64} {y4 : Int64} (hS : Sg t σ) 
    (H : w = (some (.long 0), σ)) :
    Ev 194 192 [.ref 59, .int x1, .long y2, .float 0, .long y4, .float 0] [] σ w := by
  refine e_lconst d_194_192 cl_0 rfl ?_
  subst H
  exact e_lret d_194_193 rr_194
theorem b_194_220 {t : Nat} {σ : Mm} {w : Option Value × Mm} {x1 : Int32} {y2 : Int64} {y4 : Int64} (hS : Sg t σ) 
    (H : ((mI σ 59 48) = 0 → ((y4 = 0 → (((mI (uI σ 59 48 1) 59 48) = 0 → (¬ y4 = 0 ∧ (w = (some (.long (y2 / y4)), uI σ 59 48 1)))) ∧ (¬ ((mI (uI σ 59 48 1) 59 48) = 0) → (w = (some (.long 0), uI σ 59 48 1))))) ∧ (¬ (y4 = 0) → (((mI (uI σ 59 48 0) 59 48) = 0 → (¬ y4 = 0 ∧ (w = (some (.long (y2 / y4)), uI σ 59 48 0)))) ∧ (¬ ((mI (uI σ 59 48 0) 59 48) = 0) → (w = (some (.long 0), uI σ 59 48 0))))))) ∧ (¬ ((mI σ 59 48) = 0) → (((mI (uI σ 59 48 1) 59 48) = 0 → (¬ y4 = 0 ∧ (w = (some (.long (y2 / y4)), uI σ 59 48 1)))) ∧ (¬ ((mI (uI σ 59 48 1) 59 48) = 0) → (w = (some (.long 0), uI σ 59 48 1)))))) :
    Ev 194 220 [.ref 59, .int x1, .long y2, .float 0, .long y4, .float 0] [] σ w := by
  refine e_aload_n d_194_220 rfl rfl ?_
  refine e_aload_n d_194_221 rfl rfl ?_
  refine e_getZ d_194_222 oo_194 pF_9_336 (by decide) (hS.k rfl) rfl ?_
  refine e_if_ne (t := 235) d_194_225 (by decide) rfl (fun hc => ?_) (fun hc => ?_)
  · replace H := H.2 hc
    refine e_iconst d_194_235 ci_1 rfl ?_
    refine e_goto (t := 240) d_194_236 (by decide) ?_
    refine e_putZ d_194_240 oo_194 pF_9_336 (Or.inl rfl) (hS.k rfl) (Or.inr rfl) rfl ?_
    refine e_aload_n d_194_243 rfl rfl ?_
    refine e_getZ d_194_244 oo_194 pF_9_336 (by decide) (hS.uI.k rfl) rfl ?_
    refine e_if_eq (t := 254) d_194_247 (by decide) rfl (fun hc => ?_) (fun hc => ?_)
    · replace H := H.1 hc
      refine e_lload_n d_194_254 rfl rfl ?_
      refine e_lload d_194_255 rfl rfl ?_
      obtain ⟨hz, H⟩ := H
      refine e_ldiv d_194_257 hz rfl ?_
      subst H
      exact e_lret d_194_258 rr_194
    · replace H := H.2 hc
      refine e_lconst d_194_250 cl_0 rfl ?_
      refine e_goto (t := 258) d_194_251 (by decide) ?_
      subst H
      exact e_lret d_194_258 rr_194
  · replace H := H.1 hc
    refine e_lload d_194_228 rfl rfl ?_
    refine e_lconst d_194_230 cl_0 rfl ?_
    refine e_lc_ne (t := 239) d_194_231 d_194_232 rfl (by decide) rfl (fun hc => ?_) (fun hc => ?_)
    · replace H := H.2 hc
      refine e_iconst d_194_239 ci_0 rfl ?_
      refine e_putZ d_194_240 oo_194 pF_9_336 (Or.inl rfl) (hS.k rfl) (Or.inl rfl) rfl ?_
      refine e_aload_n d_194_243 rfl rfl ?_
      refine e_getZ d_194_244 oo_194 pF_9_336 (by decide) (hS.uI.k rfl) rfl ?_
      refine e_if_eq (t := 254) d_194_247 (by decide) rfl (fun hc => ?_) (fun hc => ?_)
      · replace H := H.1 hc
        refine e_lload_n d_194_254 rfl rfl ?_
        refine e_lload d_194_255 rfl rfl ?_
        obtain ⟨hz, H⟩ := H
        refine e_ldiv d_194_257 hz rfl ?_
        subst H
        exact e_lret d_194_258 rr_194
      · replace H := H.2 hc
        refine e_lconst d_194_250 cl_0 rfl ?_
        refine e_goto (t := 258) d_194_251 (by decide) ?_
        subst H
        exact e_lret d_194_258 rr_194
    · replace H := H.1 hc
      refine e_iconst d_194_235 ci_1 rfl ?_
      refine e_goto (t := 240) d_194_236 (by decide) ?_
      refine e_putZ d_194_240 oo_194 pF_9_336 (Or.inl rfl) (hS.k rfl) (Or.inr rfl) rfl ?_
      refine e_aload_n d_194_243 rfl rfl ?_
      refine e_getZ d_194_244 oo_194 pF_9_336 (by decide) (hS.uI.k rfl) rfl ?_
      refine e_if_eq (t := 254) d_194_247 (by decide) rfl (fun hc => ?_) (fun hc => ?_)
      · replace H := H.1 hc
        refine e_lload_n d_194_254 rfl rfl ?_
        refine e_lload d_194_255 rfl rfl ?_
        obtain ⟨hz, H⟩ := H
        refine e_ldiv d_194_257 hz rfl ?_
        subst H
        exact e_lret d_194_258 rr_194
      · replace H := H.2 hc
        refine e_lconst d_194_250 cl_0 rfl ?_
        refine e_goto (t := 258) d_194_251 (by decide) ?_
        subst H
        exact e_lret d_194_258 rr_194
theorem b_194_274 {t : Nat} {σ : Mm} {w : Option Value × Mm} {x1 : Int32} {y2 : Int64} {y4 : Int64} (hS : Sg t σ) 
    (H : w = (some (.long 1), σ)) :
    Ev 194 274 [.ref 59, .int x1, .long y2, .float 0, .long y4, .float 0] [] σ w := by
  refine e_lconst d_194_274 cl_1 rfl ?_
  refine e_goto (t := 279) d_194_275 (by decide) ?_
  subst H
  exact e_lret d_194_279 rr_194
theorem b_194_278 {t : Nat} {σ : Mm} {w : Option Value × Mm} {x1 : Int32} {y2 : Int64} {y4 : Int64} (hS : Sg t σ) 
    (H : w = (some (.long 0), σ)) :
    Ev 194 278 [.ref 59, .int x1, .long y2, .float 0, .long y4, .float 0] [] σ w := by
  refine e_lconst d_194_278 cl_0 rfl ?_
  subst H
  exact e_lret d_194_279 rr_194
/-! X9_begin -/
theorem b_195_0 {t : Nat} {σ : Mm} {w : Option Value × Mm}  (hS : Sg t σ) 
    (H : ∃ (σ1 : Mm), Cl 196 [.ref 59, .int 0] σ (none, σ1) ∧ Sg t σ1 ∧ (∃ (σ4 : Mm), Cl 197 [.ref 59] (uL σ1 59 58 (Int32.toInt64 (mI σ1 64 1))) (none, σ4) ∧ Sg t σ4 ∧ (∀ (σ7 : Mm), σ7 = uI (uI (uI σ4 59 68 0) 59 69 (-1)) 59 72 0 → (w = (none, uI σ7 59 74 0))))) :
    Ev 195 0 [.ref 59] [] σ w := by
  refine e_aload_n d_195_0 rfl rfl ?_
  refine e_iconst d_195_1 ci_0 rfl ?_
  obtain ⟨σ1, hcl, hS2, H⟩ := H
  refine e_vcall (w1 := (none, σ1)) d_195_2 kc_195_2 rfl ⟨Nat.le_of_ble_eq_true rfl, xx_195.symm⟩ rfl hcl ?_
  show Ev 195 5 [.ref 59] [] σ1 w
  refine e_aload_n d_195_5 rfl rfl ?_
  refine e_aload_n d_195_6 rfl rfl ?_
  refine e_getR d_195_7 oo_195 pF_9_27 (by decide) (hS2.k rfl) (hS2.r rt_59_24) rfl ?_
  refine e_iconst d_195_10 ci_1 rfl ?_
  refine e_iaload (v := (mI σ1 64 1)) d_195_11 (rdI_at (hS2.k rfl) rfl) rfl ?_
  refine e_i2l d_195_12 rfl ?_
  refine e_putL d_195_13 oo_195 pF_9_358 (Or.inl rfl) (hS2.k rfl) rfl ?_
  refine e_aload_n d_195_16 rfl rfl ?_
  obtain ⟨σ4, hcl, hS5, H⟩ := H
  refine e_vcall (w1 := (none, σ4)) d_195_17 kc_195_17 rfl ⟨Nat.le_of_ble_eq_true rfl, xx_195.symm⟩ rfl hcl ?_
  show Ev 195 20 [.ref 59] [] σ4 w
  refine e_aload_n d_195_20 rfl rfl ?_
  refine e_iconst d_195_21 ci_0 rfl ?_
  refine e_putI d_195_22 oo_195 pF_9_365 (Or.inl rfl) (hS5.k rfl) rfl ?_
  refine e_aload_n d_195_25 rfl rfl ?_
  refine e_iconst d_195_26 ci_m1 rfl ?_
  refine e_putI d_195_27 oo_195 pF_9_118 (Or.inl rfl) (hS5.uI.k rfl) rfl ?_
  refine e_aload_n d_195_30 rfl rfl ?_
  refine e_iconst d_195_31 ci_0 rfl ?_
  refine e_putI d_195_32 oo_195 pF_9_368 (Or.inl rfl) (hS5.uI.uI.k rfl) rfl ?_
  generalize hm8 : uI (uI (uI σ4 59 68 0) 59 69 (-1)) 59 72 0 = σ7
  have hS9 : Sg t σ7 := by rw [← hm8]; exact hS5.uI.uI.uI
  replace H := H σ7 hm8.symm
  refine e_aload_n d_195_35 rfl rfl ?_
  refine e_iconst d_195_36 ci_0 rfl ?_
  refine e_putZ d_195_37 oo_195 pF_9_371 (Or.inl rfl) (hS9.k rfl) (Or.inl rfl) rfl ?_
  subst H
  exact e_vret d_195_40 rr_195
/-! X9_atFirst -/
theorem b_196_0 {t : Nat} {σ : Mm} {w : Option Value × Mm} {x1 : Int32} (hS : Sg t σ) 
    (H : inb x1 2 = true ∧ (inb x1 2 = true ∧ (∀ (σ1 : Mm), σ1 = uI (uI σ 82 x1.toNatClampNeg (mI σ 62 0)) 83 x1.toNatClampNeg 0 → (inb x1 2 = true ∧ (inb x1 2 = true ∧ (∀ (σ4 : Mm), σ4 = uI (uI σ1 84 x1.toNatClampNeg 0) 85 x1.toNatClampNeg 0 → (inb x1 2 = true ∧ (inb x1 2 = true ∧ (∀ (σ7 : Mm), σ7 = uI (uI σ4 86 x1.toNatClampNeg 0) 87 x1.toNatClampNeg 0 → Ev 196 49 [.ref 59, .int x1, .int 0] [] σ7 w))))))))) :
    Ev 196 0 [.ref 59, .int x1, .retAddr 0] [] σ w := by
  refine e_aload_n d_196_0 rfl rfl ?_
  refine e_getR d_196_1 oo_196 pF_9_82 (by decide) (hS.k rfl) (hS.r rt_59_49) rfl ?_
  refine e_iload_n d_196_4 rfl rfl ?_
  refine e_aload_n d_196_5 rfl rfl ?_
  refine e_getR d_196_6 oo_196 pF_9_20 (by decide) (hS.k rfl) (hS.r rt_59_22) rfl ?_
  refine e_iconst d_196_9 ci_0 rfl ?_
  refine e_iaload (v := (mI σ 62 0)) d_196_10 (rdI_at (hS.k rfl) rfl) rfl ?_
  obtain ⟨hb, H⟩ := H
  refine e_iastore d_196_11 (okI_at (hS.k rfl) hb) rfl ?_
  refine e_aload_n d_196_12 rfl rfl ?_
  refine e_getR d_196_13 oo_196 pF_9_85 (by decide) (hS.uI.k rfl) (hS.uI.r rt_59_50) rfl ?_
  refine e_iload_n d_196_16 rfl rfl ?_
  refine e_iconst d_196_17 ci_0 rfl ?_
  obtain ⟨hb, H⟩ := H
  refine e_iastore d_196_18 (okI_at (hS.uI.k rfl) hb) rfl ?_
  generalize hm2 : uI (uI σ 82 x1.toNatClampNeg (mI σ 62 0)) 83 x1.toNatClampNeg 0 = σ1
  have hS3 : Sg t σ1 := by rw [← hm2]; exact hS.uI.uI
  replace H := H σ1 hm2.symm
  refine e_aload_n d_196_19 rfl rfl ?_
  refine e_getR d_196_20 oo_196 pF_9_88 (by decide) (hS3.k rfl) (hS3.r rt_59_51) rfl ?_
  refine e_iload_n d_196_23 rfl rfl ?_
  refine e_iconst d_196_24 ci_0 rfl ?_
  obtain ⟨hb, H⟩ := H
  refine e_iastore d_196_25 (okI_at (hS3.k rfl) hb) rfl ?_
  refine e_aload_n d_196_26 rfl rfl ?_
  refine e_getR d_196_27 oo_196 pF_9_91 (by decide) (hS3.uI.k rfl) (hS3.uI.r rt_59_52) rfl ?_
  refine e_iload_n d_196_30 rfl rfl ?_
  refine e_iconst d_196_31 ci_0 rfl ?_
  obtain ⟨hb, H⟩ := H
  refine e_iastore d_196_32 (okI_at (hS3.uI.k rfl) hb) rfl ?_
  generalize hm5 : uI (uI σ1 84 x1.toNatClampNeg 0) 85 x1.toNatClampNeg 0 = σ4
  have hS6 : Sg t σ4 := by rw [← hm5]; exact hS3.uI.uI
  replace H := H σ4 hm5.symm
  refine e_aload_n d_196_33 rfl rfl ?_
  refine e_getR d_196_34 oo_196 pF_9_94 (by decide) (hS6.k rfl) (hS6.r rt_59_53) rfl ?_
  refine e_iload_n d_196_37 rfl rfl ?_
  refine e_iconst d_196_38 ci_0 rfl ?_
  obtain ⟨hb, H⟩ := H
  refine e_iastore d_196_39 (okI_at (hS6.k rfl) hb) rfl ?_
  refine e_aload_n d_196_40 rfl rfl ?_
  refine e_getR d_196_41 oo_196 pF_9_97 (by decide) (hS6.uI.k rfl) (hS6.uI.r rt_59_54) rfl ?_
  refine e_iload_n d_196_44 rfl rfl ?_
  refine e_iconst d_196_45 ci_0 rfl ?_
  obtain ⟨hb, H⟩ := H
  refine e_iastore d_196_46 (okI_at (hS6.uI.k rfl) hb) rfl ?_
  generalize hm8 : uI (uI σ4 86 x1.toNatClampNeg 0) 87 x1.toNatClampNeg 0 = σ7
  have hS9 : Sg t σ7 := by rw [← hm8]; exact hS6.uI.uI
  replace H := H σ7 hm8.symm
  refine e_iconst d_196_47 ci_0 rfl ?_
  refine e_istore_n (ls2 := [.ref 59, .int x1, .int 0]) d_196_48 rfl rfl rfl ?_
  exact H
theorem b_196_49 {t : Nat} {σ : Mm} {w : Option Value × Mm} {x1 : Int32} {x2 : Int32} (hS : Sg t σ) 
    (H : (x2 < 14 → (inb ((14 * x1) + x2) 28 = true ∧ Ev 196 49 [.ref 59, .int x1, .int (x2 + 1)] [] (uI σ 88 ((14 * x1) + x2).toNatClampNeg 0) w)) ∧ (¬ (x2 < 14) → Ev 196 75 [.ref 59, .int x1, .int 0] [] σ w)) :
    Ev 196 49 [.ref 59, .int x1, .int x2] [] σ w := by
  refine e_iload_n d_196_49 rfl rfl ?_
  refine e_bipush d_196_50 cb_14 rfl ?_
  refine e_icmp_ge (t := 73) d_196_52 (by decide) rfl (fun hc => ?_) (fun hc => ?_)
  · replace H := H.2 hc
    refine e_iconst d_196_73 ci_0 rfl ?_
    refine e_istore_n (ls2 := [.ref 59, .int x1, .int 0]) d_196_74 rfl rfl rfl ?_
    exact H
  · replace H := H.1 hc
    refine e_aload_n d_196_55 rfl rfl ?_
    refine e_getR d_196_56 oo_196 pF_9_100 (by decide) (hS.k rfl) (hS.r rt_59_55) rfl ?_
    refine e_bipush d_196_59 cb_14 rfl ?_
    refine e_iload_n d_196_61 rfl rfl ?_
    refine e_imul d_196_62 rfl ?_
    refine e_iload_n d_196_63 rfl rfl ?_
    refine e_iadd d_196_64 rfl ?_
    refine e_iconst d_196_65 ci_0 rfl ?_
    obtain ⟨hb, H⟩ := H
    refine e_iastore d_196_66 (okI_at (hS.k rfl) hb) rfl ?_
    refine e_iinc (ls2 := [.ref 59, .int x1, .int (x2 + 1)]) d_196_67 rfl ci_1 rfl rfl rfl ?_
    refine e_goto (t := 49) d_196_70 (by decide) ?_
    exact H
theorem b_196_75 {t : Nat} {σ : Mm} {w : Option Value × Mm} {x1 : Int32} {x2 : Int32} (hS : Sg t σ) 
    (H : (x2 < 10 → (inb x2 20 = true ∧ (inb ((10 * x1) + x2) 20 = true ∧ (∀ (σ1 : Mm), σ1 = uI σ 89 ((10 * x1) + x2).toNatClampNeg (mI σ 68 x2.toNatClampNeg) → (inb ((10 * x1) + x2) 20 = true ∧ (∀ (σ4 : Mm), σ4 = uI σ1 90 ((10 * x1) + x2).toNatClampNeg 0 → Ev 196 75 [.ref 59, .int x1, .int (x2 + 1)] [] σ4 w)))))) ∧ (¬ (x2 < 10) → (w = (none, σ)))) :
    Ev 196 75 [.ref 59, .int x1, .int x2] [] σ w := by
  refine e_iload_n d_196_75 rfl rfl ?_
  refine e_bipush d_196_76 cb_10 rfl ?_
  refine e_icmp_ge (t := 116) d_196_78 (by decide) rfl (fun hc => ?_) (fun hc => ?_)
  · replace H := H.2 hc
    subst H
    exact e_vret d_196_116 rr_196
  · replace H := H.1 hc
    refine e_aload_n d_196_81 rfl rfl ?_
    refine e_getR d_196_82 oo_196 pF_9_103 (by decide) (hS.k rfl) (hS.r rt_59_56) rfl ?_
    refine e_bipush d_196_85 cb_10 rfl ?_
    refine e_iload_n d_196_87 rfl rfl ?_
    refine e_imul d_196_88 rfl ?_
    refine e_iload_n d_196_89 rfl rfl ?_
    refine e_iadd d_196_90 rfl ?_
    refine e_aload_n d_196_91 rfl rfl ?_
    refine e_getR d_196_92 oo_196 pF_9_39 (by decide) (hS.k rfl) (hS.r rt_59_28) rfl ?_
    refine e_iload_n d_196_95 rfl rfl ?_
    obtain ⟨hb, H⟩ := H
    refine e_iaload (v := (mI σ 68 x2.toNatClampNeg)) d_196_96 (rdI_at (hS.k rfl) hb) rfl ?_
    obtain ⟨hb, H⟩ := H
    refine e_iastore d_196_97 (okI_at (hS.k rfl) hb) rfl ?_
    generalize hm2 : uI σ 89 ((10 * x1) + x2).toNatClampNeg (mI σ 68 x2.toNatClampNeg) = σ1
    have hS3 : Sg t σ1 := by rw [← hm2]; exact hS.uI
    replace H := H σ1 hm2.symm
    refine e_aload_n d_196_98 rfl rfl ?_
    refine e_getR d_196_99 oo_196 pF_9_106 (by decide) (hS3.k rfl) (hS3.r rt_59_57) rfl ?_
    refine e_bipush d_196_102 cb_10 rfl ?_
    refine e_iload_n d_196_104 rfl rfl ?_
    refine e_imul d_196_105 rfl ?_
    refine e_iload_n d_196_106 rfl rfl ?_
    refine e_iadd d_196_107 rfl ?_
    refine e_iconst d_196_108 ci_0 rfl ?_
    obtain ⟨hb, H⟩ := H
    refine e_iastore d_196_109 (okI_at (hS3.k rfl) hb) rfl ?_
    generalize hm5 : uI σ1 90 ((10 * x1) + x2).toNatClampNeg 0 = σ4
    have hS6 : Sg t σ4 := by rw [← hm5]; exact hS3.uI
    replace H := H σ4 hm5.symm
    refine e_iinc (ls2 := [.ref 59, .int x1, .int (x2 + 1)]) d_196_110 rfl ci_1 rfl rfl rfl ?_
    refine e_goto (t := 75) d_196_113 (by decide) ?_
    exact H
/-! X9_plainTried -/
theorem b_197_0 {t : Nat} {σ : Mm} {w : Option Value × Mm}  (hS : Sg t σ) 
    (H : ∀ (σ1 : Mm), σ1 = uI (uI (uI (uI σ 59 59 0) 59 60 0) 59 61 0) 59 62 0 → (w = (none, uI σ1 59 63 (-1)))) :
    Ev 197 0 [.ref 59] [] σ w := by
  refine e_aload_n d_197_0 rfl rfl ?_
  refine e_iconst d_197_1 ci_0 rfl ?_
  refine e_putZ d_197_2 oo_197 pF_9_374 (Or.inl rfl) (hS.k rfl) (Or.inl rfl) rfl ?_
  refine e_aload_n d_197_5 rfl rfl ?_
  refine e_iconst d_197_6 ci_0 rfl ?_
  refine e_putZ d_197_7 oo_197 pF_9_377 (Or.inl rfl) (hS.uI.k rfl) (Or.inl rfl) rfl ?_
  refine e_aload_n d_197_10 rfl rfl ?_
  refine e_iconst d_197_11 ci_0 rfl ?_
  refine e_putZ d_197_12 oo_197 pF_9_380 (Or.inl rfl) (hS.uI.uI.k rfl) (Or.inl rfl) rfl ?_
  refine e_aload_n d_197_15 rfl rfl ?_
  refine e_iconst d_197_16 ci_0 rfl ?_
  refine e_putZ d_197_17 oo_197 pF_9_383 (Or.inl rfl) (hS.uI.uI.uI.k rfl) (Or.inl rfl) rfl ?_
  generalize hm2 : uI (uI (uI (uI σ 59 59 0) 59 60 0) 59 61 0) 59 62 0 = σ1
  have hS3 : Sg t σ1 := by rw [← hm2]; exact hS.uI.uI.uI.uI
  replace H := H σ1 hm2.symm
  refine e_aload_n d_197_20 rfl rfl ?_
  refine e_iconst d_197_21 ci_m1 rfl ?_
  refine e_putI d_197_22 oo_197 pF_9_386 (Or.inl rfl) (hS3.k rfl) rfl ?_
  subst H
  exact e_vret d_197_25 rr_197
/-! X9_layTried -/
theorem b_198_0 {t : Nat} {σ : Mm} {w : Option Value × Mm}  (hS : Sg t σ) 
    (H : ∀ (σ1 : Mm), σ1 = uI (uI σ 82 1 (mI σ 82 0)) 83 1 (mI (uI σ 82 1 (mI σ 82 0)) 83 0) → (∀ (σ4 : Mm), σ4 = uI (uI σ1 84 1 (mI σ1 84 0)) 85 1 (mI (uI σ1 84 1 (mI σ1 84 0)) 85 0) → Ev 198 60 [.ref 59, .retAddr 0] [] (uI σ4 86 1 (mI σ4 86 0)) w)) :
    Ev 198 0 [.ref 59, .retAddr 0] [] σ w := by
  refine e_aload_n d_198_0 rfl rfl ?_
  refine e_getR d_198_1 oo_198 pF_9_82 (by decide) (hS.k rfl) (hS.r rt_59_49) rfl ?_
  refine e_iconst d_198_4 ci_1 rfl ?_
  refine e_aload_n d_198_5 rfl rfl ?_
  refine e_getR d_198_6 oo_198 pF_9_82 (by decide) (hS.k rfl) (hS.r rt_59_49) rfl ?_
  refine e_iconst d_198_9 ci_0 rfl ?_
  refine e_iaload (v := (mI σ 82 0)) d_198_10 (rdI_at (hS.k rfl) rfl) rfl ?_
  refine e_iastore d_198_11 (okI_at (hS.k rfl) rfl) rfl ?_
  show Ev 198 12 [.ref 59, .retAddr 0] [] (uI σ 82 1 (mI σ 82 0)) w
  refine e_aload_n d_198_12 rfl rfl ?_
  refine e_getR d_198_13 oo_198 pF_9_85 (by decide) (hS.uI.k rfl) (hS.uI.r rt_59_50) rfl ?_
  refine e_iconst d_198_16 ci_1 rfl ?_
  refine e_aload_n d_198_17 rfl rfl ?_
  refine e_getR d_198_18 oo_198 pF_9_85 (by decide) (hS.uI.k rfl) (hS.uI.r rt_59_50) rfl ?_
  refine e_iconst d_198_21 ci_0 rfl ?_
  refine e_iaload (v := (mI (uI σ 82 1 (mI σ 82 0)) 83 0)) d_198_22 (rdI_at (hS.uI.k rfl) rfl) rfl ?_
  refine e_iastore d_198_23 (okI_at (hS.uI.k rfl) rfl) rfl ?_
  show Ev 198 24 [.ref 59, .retAddr 0] [] (uI (uI σ 82 1 (mI σ 82 0)) 83 1 (mI (uI σ 82 1 (mI σ 82 0)) 83 0)) w
  generalize hm2 : uI (uI σ 82 1 (mI σ 82 0)) 83 1 (mI (uI σ 82 1 (mI σ 82 0)) 83 0) = σ1
  have hS3 : Sg t σ1 := by rw [← hm2]; exact hS.uI.uI
  replace H := H σ1 hm2.symm
  refine e_aload_n d_198_24 rfl rfl ?_
  refine e_getR d_198_25 oo_198 pF_9_88 (by decide) (hS3.k rfl) (hS3.r rt_59_51) rfl ?_
  refine e_iconst d_198_28 ci_1 rfl ?_
  refine e_aload_n d_198_29 rfl rfl ?_
  refine e_getR d_198_30 oo_198 pF_9_88 (by decide) (hS3.k rfl) (hS3.r rt_59_51) rfl ?_
  refine e_iconst d_198_33 ci_0 rfl ?_
  refine e_iaload (v := (mI σ1 84 0)) d_198_34 (rdI_at (hS3.k rfl) rfl) rfl ?_
  refine e_iastore d_198_35 (okI_at (hS3.k rfl) rfl) rfl ?_
  show Ev 198 36 [.ref 59, .retAddr 0] [] (uI σ1 84 1 (mI σ1 84 0)) w
  refine e_aload_n d_198_36 rfl rfl ?_
  refine e_getR d_198_37 oo_198 pF_9_91 (by decide) (hS3.uI.k rfl) (hS3.uI.r rt_59_52) rfl ?_
  refine e_iconst d_198_40 ci_1 rfl ?_
  refine e_aload_n d_198_41 rfl rfl ?_
  refine e_getR d_198_42 oo_198 pF_9_91 (by decide) (hS3.uI.k rfl) (hS3.uI.r rt_59_52) rfl ?_
  refine e_iconst d_198_45 ci_0 rfl ?_
  refine e_iaload (v := (mI (uI σ1 84 1 (mI σ1 84 0)) 85 0)) d_198_46 (rdI_at (hS3.uI.k rfl) rfl) rfl ?_
  refine e_iastore d_198_47 (okI_at (hS3.uI.k rfl) rfl) rfl ?_
  show Ev 198 48 [.ref 59, .retAddr 0] [] (uI (uI σ1 84 1 (mI σ1 84 0)) 85 1 (mI (uI σ1 84 1 (mI σ1 84 0)) 85 0)) w
  generalize hm5 : uI (uI σ1 84 1 (mI σ1 84 0)) 85 1 (mI (uI σ1 84 1 (mI σ1 84 0)) 85 0) = σ4
  have hS6 : Sg t σ4 := by rw [← hm5]; exact hS3.uI.uI
  replace H := H σ4 hm5.symm
  refine e_aload_n d_198_48 rfl rfl ?_
  refine e_getR d_198_49 oo_198 pF_9_94 (by decide) (hS6.k rfl) (hS6.r rt_59_53) rfl ?_
  refine e_iconst d_198_52 ci_1 rfl ?_
  refine e_aload_n d_198_53 rfl rfl ?_
  refine e_getR d_198_54 oo_198 pF_9_94 (by decide) (hS6.k rfl) (hS6.r rt_59_53) rfl ?_
  refine e_iconst d_198_57 ci_0 rfl ?_
  refine e_iaload (v := (mI σ4 86 0)) d_198_58 (rdI_at (hS6.k rfl) rfl) rfl ?_
  refine e_iastore d_198_59 (okI_at (hS6.k rfl) rfl) rfl ?_
  show Ev 198 60 [.ref 59, .retAddr 0] [] (uI σ4 86 1 (mI σ4 86 0)) w
  exact H
theorem b_198_60 {t : Nat} {σ : Mm} {w : Option Value × Mm} {z1 : Value} (hS : Sg t σ) 
    (H : Ev 198 74 [.ref 59, .int 0] [] (uI σ 87 1 (mI σ 87 0)) w) :
    Ev 198 60 [.ref 59, z1] [] σ w := by
  refine e_aload_n d_198_60 rfl rfl ?_
  refine e_getR d_198_61 oo_198 pF_9_97 (by decide) (hS.k rfl) (hS.r rt_59_54) rfl ?_
  refine e_iconst d_198_64 ci_1 rfl ?_
  refine e_aload_n d_198_65 rfl rfl ?_
  refine e_getR d_198_66 oo_198 pF_9_97 (by decide) (hS.k rfl) (hS.r rt_59_54) rfl ?_
  refine e_iconst d_198_69 ci_0 rfl ?_
  refine e_iaload (v := (mI σ 87 0)) d_198_70 (rdI_at (hS.k rfl) rfl) rfl ?_
  refine e_iastore d_198_71 (okI_at (hS.k rfl) rfl) rfl ?_
  show Ev 198 72 [.ref 59, z1] [] (uI σ 87 1 (mI σ 87 0)) w
  refine e_iconst d_198_72 ci_0 rfl ?_
  refine e_istore_n (ls2 := [.ref 59, .int 0]) d_198_73 rfl rfl rfl ?_
  exact H
theorem b_198_74 {t : Nat} {σ : Mm} {w : Option Value × Mm} {x1 : Int32} (hS : Sg t σ) 
    (H : (x1 < 14 → (inb x1 28 = true ∧ (inb (14 + x1) 28 = true ∧ (∀ (σ1 : Mm), σ1 = uI σ 88 (14 + x1).toNatClampNeg (mI σ 88 x1.toNatClampNeg) → Ev 198 74 [.ref 59, .int (x1 + 1)] [] σ1 w)))) ∧ (¬ (x1 < 14) → Ev 198 103 [.ref 59, .int 0] [] σ w)) :
    Ev 198 74 [.ref 59, .int x1] [] σ w := by
  refine e_iload_n d_198_74 rfl rfl ?_
  refine e_bipush d_198_75 cb_14 rfl ?_
  refine e_icmp_ge (t := 101) d_198_77 (by decide) rfl (fun hc => ?_) (fun hc => ?_)
  · replace H := H.2 hc
    refine e_iconst d_198_101 ci_0 rfl ?_
    refine e_istore_n (ls2 := [.ref 59, .int 0]) d_198_102 rfl rfl rfl ?_
    exact H
  · replace H := H.1 hc
    refine e_aload_n d_198_80 rfl rfl ?_
    refine e_getR d_198_81 oo_198 pF_9_100 (by decide) (hS.k rfl) (hS.r rt_59_55) rfl ?_
    refine e_bipush d_198_84 cb_14 rfl ?_
    refine e_iload_n d_198_86 rfl rfl ?_
    refine e_iadd d_198_87 rfl ?_
    refine e_aload_n d_198_88 rfl rfl ?_
    refine e_getR d_198_89 oo_198 pF_9_100 (by decide) (hS.k rfl) (hS.r rt_59_55) rfl ?_
    refine e_iload_n d_198_92 rfl rfl ?_
    obtain ⟨hb, H⟩ := H
    refine e_iaload (v := (mI σ 88 x1.toNatClampNeg)) d_198_93 (rdI_at (hS.k rfl) hb) rfl ?_
    obtain ⟨hb, H⟩ := H
    refine e_iastore d_198_94 (okI_at (hS.k rfl) hb) rfl ?_
    generalize hm2 : uI σ 88 (14 + x1).toNatClampNeg (mI σ 88 x1.toNatClampNeg) = σ1
    have hS3 : Sg t σ1 := by rw [← hm2]; exact hS.uI
    replace H := H σ1 hm2.symm
    refine e_iinc (ls2 := [.ref 59, .int (x1 + 1)]) d_198_95 rfl ci_1 rfl rfl rfl ?_
    refine e_goto (t := 74) d_198_98 (by decide) ?_
    exact H
theorem b_198_103 {t : Nat} {σ : Mm} {w : Option Value × Mm} {x1 : Int32} (hS : Sg t σ) 
    (H : (x1 < 10 → (inb x1 20 = true ∧ (inb (10 + x1) 20 = true ∧ (∀ (σ4 : Mm), σ4 = uI σ 89 (10 + x1).toNatClampNeg (mI σ 89 x1.toNatClampNeg) → (inb x1 20 = true ∧ (inb (10 + x1) 20 = true ∧ (∀ (σ7 : Mm), σ7 = uI σ4 90 (10 + x1).toNatClampNeg (mI σ4 90 x1.toNatClampNeg) → Ev 198 103 [.ref 59, .int (x1 + 1)] [] σ7 w))))))) ∧ (¬ (x1 < 10) → (∃ (σ1 : Mm), Cl 197 [.ref 59] σ (none, σ1) ∧ Sg t σ1 ∧ (w = (none, σ1))))) :
    Ev 198 103 [.ref 59, .int x1] [] σ w := by
  refine e_iload_n d_198_103 rfl rfl ?_
  refine e_bipush d_198_104 cb_10 rfl ?_
  refine e_icmp_ge (t := 145) d_198_106 (by decide) rfl (fun hc => ?_) (fun hc => ?_)
  · replace H := H.2 hc
    refine e_aload_n d_198_145 rfl rfl ?_
    obtain ⟨σ1, hcl, hS2, H⟩ := H
    refine e_vcall (w1 := (none, σ1)) d_198_146 kc_198_146 rfl ⟨Nat.le_of_ble_eq_true rfl, xx_198.symm⟩ rfl hcl ?_
    show Ev 198 149 [.ref 59, .int x1] [] σ1 w
    subst H
    exact e_vret d_198_149 rr_198
  · replace H := H.1 hc
    refine e_aload_n d_198_109 rfl rfl ?_
    refine e_getR d_198_110 oo_198 pF_9_103 (by decide) (hS.k rfl) (hS.r rt_59_56) rfl ?_
    refine e_bipush d_198_113 cb_10 rfl ?_
    refine e_iload_n d_198_115 rfl rfl ?_
    refine e_iadd d_198_116 rfl ?_
    refine e_aload_n d_198_117 rfl rfl ?_
    refine e_getR d_198_118 oo_198 pF_9_103 (by decide) (hS.k rfl) (hS.r rt_59_56) rfl ?_
    refine e_iload_n d_198_121 rfl rfl ?_
    obtain ⟨hb, H⟩ := H
    refine e_iaload (v := (mI σ 89 x1.toNatClampNeg)) d_198_122 (rdI_at (hS.k rfl) hb) rfl ?_
    obtain ⟨hb, H⟩ := H
    refine e_iastore d_198_123 (okI_at (hS.k rfl) hb) rfl ?_
    generalize hm5 : uI σ 89 (10 + x1).toNatClampNeg (mI σ 89 x1.toNatClampNeg) = σ4
    have hS6 : Sg t σ4 := by rw [← hm5]; exact hS.uI
    replace H := H σ4 hm5.symm
    refine e_aload_n d_198_124 rfl rfl ?_
    refine e_getR d_198_125 oo_198 pF_9_106 (by decide) (hS6.k rfl) (hS6.r rt_59_57) rfl ?_
    refine e_bipush d_198_128 cb_10 rfl ?_
    refine e_iload_n d_198_130 rfl rfl ?_
    refine e_iadd d_198_131 rfl ?_
    refine e_aload_n d_198_132 rfl rfl ?_
    refine e_getR d_198_133 oo_198 pF_9_106 (by decide) (hS6.k rfl) (hS6.r rt_59_57) rfl ?_
    refine e_iload_n d_198_136 rfl rfl ?_
    obtain ⟨hb, H⟩ := H
    refine e_iaload (v := (mI σ4 90 x1.toNatClampNeg)) d_198_137 (rdI_at (hS6.k rfl) hb) rfl ?_
    obtain ⟨hb, H⟩ := H
    refine e_iastore d_198_138 (okI_at (hS6.k rfl) hb) rfl ?_
    generalize hm8 : uI σ4 90 (10 + x1).toNatClampNeg (mI σ4 90 x1.toNatClampNeg) = σ7
    have hS9 : Sg t σ7 := by rw [← hm8]; exact hS6.uI
    replace H := H σ7 hm8.symm
    refine e_iinc (ls2 := [.ref 59, .int (x1 + 1)]) d_198_139 rfl ci_1 rfl rfl rfl ?_
    refine e_goto (t := 103) d_198_142 (by decide) ?_
    exact H
