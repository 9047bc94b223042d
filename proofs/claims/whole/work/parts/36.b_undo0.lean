/-! X7_forget -/
theorem b_97_0 {t : Nat} {σ : Mm} {w : Option Value × Mm}  (hS : Sg t σ) 
    (H : w = (none, uI (uI σ 41 0 0) 41 1 0)) :
    Ev 97 0 [.ref 41] [] σ w := by
  refine e_aload_n d_97_0 rfl rfl ?_
  refine e_iconst d_97_1 ci_0 rfl ?_
  refine e_putI d_97_2 oo_97 pF_7_33 (Or.inl rfl) (hS.k rfl) rfl ?_
  refine e_aload_n d_97_5 rfl rfl ?_
  refine e_iconst d_97_6 ci_0 rfl ?_
  refine e_putI d_97_7 oo_97 pF_7_37 (Or.inl rfl) (hS.uI.k rfl) rfl ?_
  subst H
  exact e_vret d_97_10 rr_97
/-! X7_remember -/
theorem b_98_0 {t : Nat} {σ : Mm} {w : Option Value × Mm} {a1 : Nat} {x2 : Int32} (hS : Sg t σ) (h1 : a1 = 26 ∨ a1 = 30 ∨ a1 = 34)
    (H : ((mI σ 41 1) < 0 → (w = (none, σ))) ∧ (¬ ((mI σ 41 1) < 0) → (((mI σ 41 1) < 20 → ((x2 < 0 → Ev 98 32 [.ref 41, .ref a1, .int x2, .retAddr 0] [.int 0] σ w) ∧ (¬ (x2 < 0) → ((x2 < 10 → Ev 98 32 [.ref 41, .ref a1, .int x2, .retAddr 0] [.int 1] σ w) ∧ (¬ (x2 < 10) → Ev 98 32 [.ref 41, .ref a1, .int x2, .retAddr 0] [.int 0] σ w))))) ∧ (¬ ((mI σ 41 1) < 20) → (w = (none, σ)))))) :
    Ev 98 0 [.ref 41, .ref a1, .int x2, .retAddr 0] [] σ w := by
  refine e_aload_n d_98_0 rfl rfl ?_
  refine e_getI d_98_1 oo_98 pF_7_37 (by decide) (hS.k rfl) rfl ?_
  refine e_if_lt (t := 16) d_98_4 (by decide) rfl (fun hc => ?_) (fun hc => ?_)
  · replace H := H.1 hc
    subst H
    exact e_vret d_98_16 rr_98
  · replace H := H.2 hc
    refine e_aload_n d_98_7 rfl rfl ?_
    refine e_getI d_98_8 oo_98 pF_7_37 (by decide) (hS.k rfl) rfl ?_
    refine e_bipush d_98_11 cb_20 rfl ?_
    refine e_icmp_lt (t := 17) d_98_13 (by decide) rfl (fun hc => ?_) (fun hc => ?_)
    · replace H := H.1 hc
      refine e_iload_n d_98_17 rfl rfl ?_
      refine e_if_lt (t := 31) d_98_18 (by decide) rfl (fun hc => ?_) (fun hc => ?_)
      · replace H := H.1 hc
        refine e_iconst d_98_31 ci_0 rfl ?_
        exact H
      · replace H := H.2 hc
        refine e_iload_n d_98_21 rfl rfl ?_
        refine e_bipush d_98_22 cb_10 rfl ?_
        refine e_icmp_ge (t := 31) d_98_24 (by decide) rfl (fun hc => ?_) (fun hc => ?_)
        · replace H := H.2 hc
          refine e_iconst d_98_31 ci_0 rfl ?_
          exact H
        · replace H := H.1 hc
          refine e_iconst d_98_27 ci_1 rfl ?_
          refine e_goto (t := 32) d_98_28 (by decide) ?_
          exact H
    · replace H := H.2 hc
      subst H
      exact e_vret d_98_16 rr_98
theorem b_98_32 {t : Nat} {σ : Mm} {w : Option Value × Mm} {x2 : Int32} {z3 : Value} {s0 : Int32} {a1 : Nat} (hS : Sg t σ) (h1 : a1 = 26 ∨ a1 = 30 ∨ a1 = 34)
    (H : inb (mI σ 41 1) 20 = true ∧ (∀ (σ1 : Mm), σ1 = uI σ 42 (mI σ 41 1).toNatClampNeg (mI σ a1 1) → (inb (mI σ1 41 1) 20 = true ∧ (∀ (σ4 : Mm), σ4 = uI σ1 43 (mI σ1 41 1).toNatClampNeg (mI σ1 a1 2) → (inb (mI σ4 41 1) 20 = true ∧ (∀ (σ7 : Mm), σ7 = uI σ4 44 (mI σ4 41 1).toNatClampNeg (mI σ4 a1 3) → (inb (mI σ7 41 1) 20 = true ∧ (∀ (σ10 : Mm), σ10 = uI σ7 45 (mI σ7 41 1).toNatClampNeg (mI σ7 a1 4) → ((s0 = 0 → Ev 98 102 [.ref 41, .ref a1, .int x2, .int s0] [.int (-1), .int (mI σ10 41 1), .ref 46] σ10 w) ∧ (¬ (s0 = 0) → Ev 98 102 [.ref 41, .ref a1, .int x2, .int s0] [.int x2, .int (mI σ10 41 1), .ref 46] σ10 w)))))))))) :
    Ev 98 32 [.ref 41, .ref a1, .int x2, z3] [.int s0] σ w := by
  refine e_istore_n (ls2 := [.ref 41, .ref a1, .int x2, .int s0]) d_98_32 rfl rfl rfl ?_
  refine e_aload_n d_98_33 rfl rfl ?_
  refine e_getR d_98_34 oo_98 pF_7_9 (by decide) (hS.k rfl) (hS.r rt_41_2) rfl ?_
  refine e_aload_n d_98_37 rfl rfl ?_
  refine e_getI d_98_38 oo_98 pF_7_37 (by decide) (hS.k rfl) rfl ?_
  refine e_aload_n d_98_41 rfl rfl ?_
  refine e_getI d_98_42 oo_98 pF_7_40 (by decide) (hS.k (kH h1)) rfl ?_
  obtain ⟨hb, H⟩ := H
  refine e_iastore d_98_45 (okI_at (hS.k rfl) hb) rfl ?_
  generalize hm2 : uI σ 42 (mI σ 41 1).toNatClampNeg (mI σ a1 1) = σ1
  have hS3 : Sg t σ1 := by rw [← hm2]; exact hS.uI
  replace H := H σ1 hm2.symm
  refine e_aload_n d_98_46 rfl rfl ?_
  refine e_getR d_98_47 oo_98 pF_7_15 (by decide) (hS3.k rfl) (hS3.r rt_41_3) rfl ?_
  refine e_aload_n d_98_50 rfl rfl ?_
  refine e_getI d_98_51 oo_98 pF_7_37 (by decide) (hS3.k rfl) rfl ?_
  refine e_aload_n d_98_54 rfl rfl ?_
  refine e_getI d_98_55 oo_98 pF_7_45 (by decide) (hS3.k (kH h1)) rfl ?_
  obtain ⟨hb, H⟩ := H
  refine e_iastore d_98_58 (okI_at (hS3.k rfl) hb) rfl ?_
  generalize hm5 : uI σ1 43 (mI σ1 41 1).toNatClampNeg (mI σ1 a1 2) = σ4
  have hS6 : Sg t σ4 := by rw [← hm5]; exact hS3.uI
  replace H := H σ4 hm5.symm
  refine e_aload_n d_98_59 rfl rfl ?_
  refine e_getR d_98_60 oo_98 pF_7_18 (by decide) (hS6.k rfl) (hS6.r rt_41_4) rfl ?_
  refine e_aload_n d_98_63 rfl rfl ?_
  refine e_getI d_98_64 oo_98 pF_7_37 (by decide) (hS6.k rfl) rfl ?_
  refine e_aload_n d_98_67 rfl rfl ?_
  refine e_getI d_98_68 oo_98 pF_7_48 (by decide) (hS6.k (kH h1)) rfl ?_
  obtain ⟨hb, H⟩ := H
  refine e_iastore d_98_71 (okI_at (hS6.k rfl) hb) rfl ?_
  generalize hm8 : uI σ4 44 (mI σ4 41 1).toNatClampNeg (mI σ4 a1 3) = σ7
  have hS9 : Sg t σ7 := by rw [← hm8]; exact hS6.uI
  replace H := H σ7 hm8.symm
  refine e_aload_n d_98_72 rfl rfl ?_
  refine e_getR d_98_73 oo_98 pF_7_21 (by decide) (hS9.k rfl) (hS9.r rt_41_5) rfl ?_
  refine e_aload_n d_98_76 rfl rfl ?_
  refine e_getI d_98_77 oo_98 pF_7_37 (by decide) (hS9.k rfl) rfl ?_
  refine e_aload_n d_98_80 rfl rfl ?_
  refine e_getI d_98_81 oo_98 pF_7_51 (by decide) (hS9.k (kH h1)) rfl ?_
  obtain ⟨hb, H⟩ := H
  refine e_iastore d_98_84 (okI_at (hS9.k rfl) hb) rfl ?_
  generalize hm11 : uI σ7 45 (mI σ7 41 1).toNatClampNeg (mI σ7 a1 4) = σ10
  have hS12 : Sg t σ10 := by rw [← hm11]; exact hS9.uI
  replace H := H σ10 hm11.symm
  refine e_aload_n d_98_85 rfl rfl ?_
  refine e_getR d_98_86 oo_98 pF_7_24 (by decide) (hS12.k rfl) (hS12.r rt_41_6) rfl ?_
  refine e_aload_n d_98_89 rfl rfl ?_
  refine e_getI d_98_90 oo_98 pF_7_37 (by decide) (hS12.k rfl) rfl ?_
  refine e_iload_n d_98_93 rfl rfl ?_
  refine e_if_eq (t := 101) d_98_94 (by decide) rfl (fun hc => ?_) (fun hc => ?_)
  · replace H := H.1 hc
    refine e_iconst d_98_101 ci_m1 rfl ?_
    exact H
  · replace H := H.2 hc
    refine e_iload_n d_98_97 rfl rfl ?_
    refine e_goto (t := 102) d_98_98 (by decide) ?_
    exact H
theorem b_98_102 {t : Nat} {σ : Mm} {w : Option Value × Mm} {x2 : Int32} {x3 : Int32} {s0 : Int32} {s1 : Int32} {a1 : Nat} (hS : Sg t σ) (h1 : a1 = 26 ∨ a1 = 30 ∨ a1 = 34)
    (H : inb s1 20 = true ∧ ((x3 = 0 → (inb (mI (uI σ 46 s1.toNatClampNeg s0) 41 1) 20 = true ∧ (∀ (σ1 : Mm), σ1 = uI (uI σ 46 s1.toNatClampNeg s0) 47 (mI (uI σ 46 s1.toNatClampNeg s0) 41 1).toNatClampNeg 0 → ((x3 = 0 → Ev 98 148 [.ref 41, .ref a1, .int x2, .int x3] [.int 0, .int (mI σ1 41 1), .ref 48] σ1 w) ∧ (¬ (x3 = 0) → (inb x2 10 = true ∧ Ev 98 148 [.ref 41, .ref a1, .int x2, .int x3] [.int (mI σ1 (a1 + 3) x2.toNatClampNeg), .int (mI σ1 41 1), .ref 48] σ1 w)))))) ∧ (¬ (x3 = 0) → (inb x2 10 = true ∧ (inb (mI (uI σ 46 s1.toNatClampNeg s0) 41 1) 20 = true ∧ (∀ (σ4 : Mm), σ4 = uI (uI σ 46 s1.toNatClampNeg s0) 47 (mI (uI σ 46 s1.toNatClampNeg s0) 41 1).toNatClampNeg (mI (uI σ 46 s1.toNatClampNeg s0) (a1 + 2) x2.toNatClampNeg) → ((x3 = 0 → Ev 98 148 [.ref 41, .ref a1, .int x2, .int x3] [.int 0, .int (mI σ4 41 1), .ref 48] σ4 w) ∧ (¬ (x3 = 0) → (inb x2 10 = true ∧ Ev 98 148 [.ref 41, .ref a1, .int x2, .int x3] [.int (mI σ4 (a1 + 3) x2.toNatClampNeg), .int (mI σ4 41 1), .ref 48] σ4 w))))))))) :
    Ev 98 102 [.ref 41, .ref a1, .int x2, .int x3] [.int s0, .int s1, .ref 46] σ w := by
  obtain ⟨hb, H⟩ := H
  refine e_iastore d_98_102 (okI_at (hS.k rfl) hb) rfl ?_
  refine e_aload_n d_98_103 rfl rfl ?_
  refine e_getR d_98_104 oo_98 pF_7_27 (by decide) (hS.uI.k rfl) (hS.uI.r rt_41_7) rfl ?_
  refine e_aload_n d_98_107 rfl rfl ?_
  refine e_getI d_98_108 oo_98 pF_7_37 (by decide) (hS.uI.k rfl) rfl ?_
  refine e_iload_n d_98_111 rfl rfl ?_
  refine e_if_eq (t := 124) d_98_112 (by decide) rfl (fun hc => ?_) (fun hc => ?_)
  · replace H := H.1 hc
    refine e_iconst d_98_124 ci_0 rfl ?_
    obtain ⟨hb, H⟩ := H
    refine e_iastore d_98_125 (okI_at (hS.uI.k rfl) hb) rfl ?_
    generalize hm2 : uI (uI σ 46 s1.toNatClampNeg s0) 47 (mI (uI σ 46 s1.toNatClampNeg s0) 41 1).toNatClampNeg 0 = σ1
    have hS3 : Sg t σ1 := by rw [← hm2]; exact hS.uI.uI
    replace H := H σ1 hm2.symm
    refine e_aload_n d_98_126 rfl rfl ?_
    refine e_getR d_98_127 oo_98 pF_7_30 (by decide) (hS3.k rfl) (hS3.r rt_41_8) rfl ?_
    refine e_aload_n d_98_130 rfl rfl ?_
    refine e_getI d_98_131 oo_98 pF_7_37 (by decide) (hS3.k rfl) rfl ?_
    refine e_iload_n d_98_134 rfl rfl ?_
    refine e_if_eq (t := 147) d_98_135 (by decide) rfl (fun hc => ?_) (fun hc => ?_)
    · replace H := H.1 hc
      refine e_iconst d_98_147 ci_0 rfl ?_
      exact H
    · replace H := H.2 hc
      refine e_aload_n d_98_138 rfl rfl ?_
      refine e_getR d_98_139 oo_98 pF_7_55 (by decide) (hS3.k (kH h1)) (hS3.rH9 h1) rfl ?_
      refine e_iload_n d_98_142 rfl rfl ?_
      obtain ⟨hb, H⟩ := H
      refine e_iaload (v := (mI σ1 (a1 + 3) x2.toNatClampNeg)) d_98_143 (rdI_at (hS3.k (kH3 h1)) hb) rfl ?_
      refine e_goto (t := 148) d_98_144 (by decide) ?_
      exact H
  · replace H := H.2 hc
    refine e_aload_n d_98_115 rfl rfl ?_
    refine e_getR d_98_116 oo_98 pF_7_54 (by decide) (hS.uI.k (kH h1)) (hS.uI.rH8 h1) rfl ?_
    refine e_iload_n d_98_119 rfl rfl ?_
    obtain ⟨hb, H⟩ := H
    refine e_iaload (v := (mI (uI σ 46 s1.toNatClampNeg s0) (a1 + 2) x2.toNatClampNeg)) d_98_120 (rdI_at (hS.uI.k (kH2 h1)) hb) rfl ?_
    refine e_goto (t := 125) d_98_121 (by decide) ?_
    obtain ⟨hb, H⟩ := H
    refine e_iastore d_98_125 (okI_at (hS.uI.k rfl) hb) rfl ?_
    generalize hm5 : uI (uI σ 46 s1.toNatClampNeg s0) 47 (mI (uI σ 46 s1.toNatClampNeg s0) 41 1).toNatClampNeg (mI (uI σ 46 s1.toNatClampNeg s0) (a1 + 2) x2.toNatClampNeg) = σ4
    have hS6 : Sg t σ4 := by rw [← hm5]; exact hS.uI.uI
    replace H := H σ4 hm5.symm
    refine e_aload_n d_98_126 rfl rfl ?_
    refine e_getR d_98_127 oo_98 pF_7_30 (by decide) (hS6.k rfl) (hS6.r rt_41_8) rfl ?_
    refine e_aload_n d_98_130 rfl rfl ?_
    refine e_getI d_98_131 oo_98 pF_7_37 (by decide) (hS6.k rfl) rfl ?_
    refine e_iload_n d_98_134 rfl rfl ?_
    refine e_if_eq (t := 147) d_98_135 (by decide) rfl (fun hc => ?_) (fun hc => ?_)
    · replace H := H.1 hc
      refine e_iconst d_98_147 ci_0 rfl ?_
      exact H
    · replace H := H.2 hc
      refine e_aload_n d_98_138 rfl rfl ?_
      refine e_getR d_98_139 oo_98 pF_7_55 (by decide) (hS6.k (kH h1)) (hS6.rH9 h1) rfl ?_
      refine e_iload_n d_98_142 rfl rfl ?_
      obtain ⟨hb, H⟩ := H
      refine e_iaload (v := (mI σ4 (a1 + 3) x2.toNatClampNeg)) d_98_143 (rdI_at (hS6.k (kH3 h1)) hb) rfl ?_
      refine e_goto (t := 148) d_98_144 (by decide) ?_
      exact H
theorem b_98_148 {t : Nat} {σ : Mm} {w : Option Value × Mm} {x2 : Int32} {x3 : Int32} {s0 : Int32} {s1 : Int32} {a1 : Nat} (hS : Sg t σ) (h1 : a1 = 26 ∨ a1 = 30 ∨ a1 = 34)
    (H : inb s1 20 = true ∧ ((((mI (uI σ 48 s1.toNatClampNeg s0) 41 1) + 1) < 20 → (∀ (σ4 : Mm), σ4 = uI (uI σ 48 s1.toNatClampNeg s0) 41 1 ((mI (uI σ 48 s1.toNatClampNeg s0) 41 1) + 1) → (∃ (v9 : Int32) (σ7 : Mm), Cl 280 [.int 20, .int ((mI σ4 41 0) + 1)] σ4 (some (.int v9), σ7) ∧ Sg t σ7 ∧ (w = (none, uI σ7 41 0 v9))))) ∧ (¬ (((mI (uI σ 48 s1.toNatClampNeg s0) 41 1) + 1) < 20) → (∃ (v3 : Int32) (σ1 : Mm), Cl 280 [.int 20, .int ((mI (uI (uI σ 48 s1.toNatClampNeg s0) 41 1 0) 41 0) + 1)] (uI (uI σ 48 s1.toNatClampNeg s0) 41 1 0) (some (.int v3), σ1) ∧ Sg t σ1 ∧ (w = (none, uI σ1 41 0 v3)))))) :
    Ev 98 148 [.ref 41, .ref a1, .int x2, .int x3] [.int s0, .int s1, .ref 48] σ w := by
  obtain ⟨hb, H⟩ := H
  refine e_iastore d_98_148 (okI_at (hS.k rfl) hb) rfl ?_
  refine e_aload_n d_98_149 rfl rfl ?_
  refine e_aload_n d_98_150 rfl rfl ?_
  refine e_getI d_98_151 oo_98 pF_7_37 (by decide) (hS.uI.k rfl) rfl ?_
  refine e_iconst d_98_154 ci_1 rfl ?_
  refine e_iadd d_98_155 rfl ?_
  refine e_bipush d_98_156 cb_20 rfl ?_
  refine e_icmp_ge (t := 170) d_98_158 (by decide) rfl (fun hc => ?_) (fun hc => ?_)
  · replace H := H.2 hc
    refine e_iconst d_98_170 ci_0 rfl ?_
    refine e_putI d_98_171 oo_98 pF_7_37 (Or.inl rfl) (hS.uI.k rfl) rfl ?_
    refine e_aload_n d_98_174 rfl rfl ?_
    refine e_bipush d_98_175 cb_20 rfl ?_
    refine e_aload_n d_98_177 rfl rfl ?_
    refine e_getI d_98_178 oo_98 pF_7_33 (by decide) (hS.uI.uI.k rfl) rfl ?_
    refine e_iconst d_98_181 ci_1 rfl ?_
    refine e_iadd d_98_182 rfl ?_
    obtain ⟨v3, σ1, hcl, hS2, H⟩ := H
    refine e_scall (w1 := (some (.int v3), σ1)) d_98_183 kc_98_183 rfl ⟨Nat.le_of_ble_eq_true rfl, xx_98.symm⟩ rfl hcl ?_
    show Ev 98 186 [.ref 41, .ref a1, .int x2, .int x3] [.int v3, .ref 41] σ1 w
    refine e_putI d_98_186 oo_98 pF_7_33 (Or.inl rfl) (hS2.k rfl) rfl ?_
    subst H
    exact e_vret d_98_189 rr_98
  · replace H := H.1 hc
    refine e_aload_n d_98_161 rfl rfl ?_
    refine e_getI d_98_162 oo_98 pF_7_37 (by decide) (hS.uI.k rfl) rfl ?_
    refine e_iconst d_98_165 ci_1 rfl ?_
    refine e_iadd d_98_166 rfl ?_
    refine e_goto (t := 171) d_98_167 (by decide) ?_
    refine e_putI d_98_171 oo_98 pF_7_37 (Or.inl rfl) (hS.uI.k rfl) rfl ?_
    generalize hm5 : uI (uI σ 48 s1.toNatClampNeg s0) 41 1 ((mI (uI σ 48 s1.toNatClampNeg s0) 41 1) + 1) = σ4
    have hS6 : Sg t σ4 := by rw [← hm5]; exact hS.uI.uI
    replace H := H σ4 hm5.symm
    refine e_aload_n d_98_174 rfl rfl ?_
    refine e_bipush d_98_175 cb_20 rfl ?_
    refine e_aload_n d_98_177 rfl rfl ?_
    refine e_getI d_98_178 oo_98 pF_7_33 (by decide) (hS6.k rfl) rfl ?_
    refine e_iconst d_98_181 ci_1 rfl ?_
    refine e_iadd d_98_182 rfl ?_
    obtain ⟨v9, σ7, hcl, hS8, H⟩ := H
    refine e_scall (w1 := (some (.int v9), σ7)) d_98_183 kc_98_183 rfl ⟨Nat.le_of_ble_eq_true rfl, xx_98.symm⟩ rfl hcl ?_
    show Ev 98 186 [.ref 41, .ref a1, .int x2, .int x3] [.int v9, .ref 41] σ7 w
    refine e_putI d_98_186 oo_98 pF_7_33 (Or.inl rfl) (hS8.k rfl) rfl ?_
    subst H
    exact e_vret d_98_189 rr_98
/-! X7_takeBack -/
theorem b_99_0 {t : Nat} {σ : Mm} {w : Option Value × Mm} {a1 : Nat} (hS : Sg t σ) (h1 : a1 = 26 ∨ a1 = 30 ∨ a1 = 34)
    (H : (0 < (mI σ 41 0) → ((0 < (mI (uI σ 41 0 ((mI σ 41 0) - 1)) 41 1) → Ev 99 38 [.ref 41, .ref a1, .retAddr 0] [.int ((mI (uI σ 41 0 ((mI σ 41 0) - 1)) 41 1) - 1), .ref 41] (uI σ 41 0 ((mI σ 41 0) - 1)) w) ∧ (¬ (0 < (mI (uI σ 41 0 ((mI σ 41 0) - 1)) 41 1)) → Ev 99 38 [.ref 41, .ref a1, .retAddr 0] [.int 19, .ref 41] (uI σ 41 0 ((mI σ 41 0) - 1)) w))) ∧ (¬ (0 < (mI σ 41 0)) → (w = (some (.int (-1)), σ)))) :
    Ev 99 0 [.ref 41, .ref a1, .retAddr 0] [] σ w := by
  refine e_aload_n d_99_0 rfl rfl ?_
  refine e_getI d_99_1 oo_99 pF_7_33 (by decide) (hS.k rfl) rfl ?_
  refine e_if_gt (t := 9) d_99_4 (by decide) rfl (fun hc => ?_) (fun hc => ?_)
  · replace H := H.1 hc
    refine e_aload_n d_99_9 rfl rfl ?_
    refine e_dup d_99_10 rfl rfl ?_
    refine e_getI d_99_11 oo_99 pF_7_33 (by decide) (hS.k rfl) rfl ?_
    refine e_iconst d_99_14 ci_1 rfl ?_
    refine e_isub d_99_15 rfl ?_
    refine e_putI d_99_16 oo_99 pF_7_33 (Or.inl rfl) (hS.k rfl) rfl ?_
    refine e_aload_n d_99_19 rfl rfl ?_
    refine e_aload_n d_99_20 rfl rfl ?_
    refine e_getI d_99_21 oo_99 pF_7_37 (by decide) (hS.uI.k rfl) rfl ?_
    refine e_if_le (t := 36) d_99_24 (by decide) rfl (fun hc => ?_) (fun hc => ?_)
    · replace H := H.2 hc
      refine e_bipush d_99_36 cb_19 rfl ?_
      exact H
    · replace H := H.1 hc
      refine e_aload_n d_99_27 rfl rfl ?_
      refine e_getI d_99_28 oo_99 pF_7_37 (by decide) (hS.uI.k rfl) rfl ?_
      refine e_iconst d_99_31 ci_1 rfl ?_
      refine e_isub d_99_32 rfl ?_
      refine e_goto (t := 38) d_99_33 (by decide) ?_
      exact H
  · replace H := H.2 hc
    refine e_iconst d_99_7 ci_m1 rfl ?_
    subst H
    exact e_iret d_99_8 rr_99
theorem b_99_38 {t : Nat} {σ : Mm} {w : Option Value × Mm} {z2 : Value} {s0 : Int32} {a1 : Nat} (hS : Sg t σ) (h1 : a1 = 26 ∨ a1 = 30 ∨ a1 = 34)
    (H : inb (mI (uI σ 41 1 s0) 41 1) 20 = true ∧ (∀ (σ1 : Mm), σ1 = uI (uI σ 41 1 s0) a1 1 (mI (uI σ 41 1 s0) 42 (mI (uI σ 41 1 s0) 41 1).toNatClampNeg) → (inb (mI σ1 41 1) 20 = true ∧ (∀ (σ4 : Mm), σ4 = uI σ1 a1 2 (mI σ1 43 (mI σ1 41 1).toNatClampNeg) → (inb (mI σ4 41 1) 20 = true ∧ (∀ (σ7 : Mm), σ7 = uI σ4 a1 3 (mI σ4 44 (mI σ4 41 1).toNatClampNeg) → (inb (mI σ7 41 1) 20 = true ∧ (∀ (σ10 : Mm), σ10 = uI σ7 a1 4 (mI σ7 45 (mI σ7 41 1).toNatClampNeg) → (inb (mI σ10 41 1) 20 = true ∧ (((mI σ10 46 (mI σ10 41 1).toNatClampNeg) < 0 → (w = (some (.int (mI σ10 41 0)), σ10))) ∧ (¬ ((mI σ10 46 (mI σ10 41 1).toNatClampNeg) < 0) → (((mI σ10 46 (mI σ10 41 1).toNatClampNeg) < 10 → Ev 99 113 [.ref 41, .ref a1, .int (mI σ10 46 (mI σ10 41 1).toNatClampNeg)] [] σ10 w) ∧ (¬ ((mI σ10 46 (mI σ10 41 1).toNatClampNeg) < 10) → (w = (some (.int (mI σ10 41 0)), σ10))))))))))))))) :
    Ev 99 38 [.ref 41, .ref a1, z2] [.int s0, .ref 41] σ w := by
  refine e_putI d_99_38 oo_99 pF_7_37 (Or.inl rfl) (hS.k rfl) rfl ?_
  refine e_aload_n d_99_41 rfl rfl ?_
  refine e_aload_n d_99_42 rfl rfl ?_
  refine e_getR d_99_43 oo_99 pF_7_9 (by decide) (hS.uI.k rfl) (hS.uI.r rt_41_2) rfl ?_
  refine e_aload_n d_99_46 rfl rfl ?_
  refine e_getI d_99_47 oo_99 pF_7_37 (by decide) (hS.uI.k rfl) rfl ?_
  obtain ⟨hb, H⟩ := H
  refine e_iaload (v := (mI (uI σ 41 1 s0) 42 (mI (uI σ 41 1 s0) 41 1).toNatClampNeg)) d_99_50 (rdI_at (hS.uI.k rfl) hb) rfl ?_
  refine e_putI d_99_51 oo_99 pF_7_40 (Or.inl rfl) (hS.uI.k (kH h1)) rfl ?_
  generalize hm2 : uI (uI σ 41 1 s0) a1 1 (mI (uI σ 41 1 s0) 42 (mI (uI σ 41 1 s0) 41 1).toNatClampNeg) = σ1
  have hS3 : Sg t σ1 := by rw [← hm2]; exact hS.uI.uI
  replace H := H σ1 hm2.symm
  refine e_aload_n d_99_54 rfl rfl ?_
  refine e_aload_n d_99_55 rfl rfl ?_
  refine e_getR d_99_56 oo_99 pF_7_15 (by decide) (hS3.k rfl) (hS3.r rt_41_3) rfl ?_
  refine e_aload_n d_99_59 rfl rfl ?_
  refine e_getI d_99_60 oo_99 pF_7_37 (by decide) (hS3.k rfl) rfl ?_
  obtain ⟨hb, H⟩ := H
  refine e_iaload (v := (mI σ1 43 (mI σ1 41 1).toNatClampNeg)) d_99_63 (rdI_at (hS3.k rfl) hb) rfl ?_
  refine e_putI d_99_64 oo_99 pF_7_45 (Or.inl rfl) (hS3.k (kH h1)) rfl ?_
  generalize hm5 : uI σ1 a1 2 (mI σ1 43 (mI σ1 41 1).toNatClampNeg) = σ4
  have hS6 : Sg t σ4 := by rw [← hm5]; exact hS3.uI
  replace H := H σ4 hm5.symm
  refine e_aload_n d_99_67 rfl rfl ?_
  refine e_aload_n d_99_68 rfl rfl ?_
  refine e_getR d_99_69 oo_99 pF_7_18 (by decide) (hS6.k rfl) (hS6.r rt_41_4) rfl ?_
  refine e_aload_n d_99_72 rfl rfl ?_
  refine e_getI d_99_73 oo_99 pF_7_37 (by decide) (hS6.k rfl) rfl ?_
  obtain ⟨hb, H⟩ := H
  refine e_iaload (v := (mI σ4 44 (mI σ4 41 1).toNatClampNeg)) d_99_76 (rdI_at (hS6.k rfl) hb) rfl ?_
  refine e_putI d_99_77 oo_99 pF_7_48 (Or.inl rfl) (hS6.k (kH h1)) rfl ?_
  generalize hm8 : uI σ4 a1 3 (mI σ4 44 (mI σ4 41 1).toNatClampNeg) = σ7
  have hS9 : Sg t σ7 := by rw [← hm8]; exact hS6.uI
  replace H := H σ7 hm8.symm
  refine e_aload_n d_99_80 rfl rfl ?_
  refine e_aload_n d_99_81 rfl rfl ?_
  refine e_getR d_99_82 oo_99 pF_7_21 (by decide) (hS9.k rfl) (hS9.r rt_41_5) rfl ?_
  refine e_aload_n d_99_85 rfl rfl ?_
  refine e_getI d_99_86 oo_99 pF_7_37 (by decide) (hS9.k rfl) rfl ?_
  obtain ⟨hb, H⟩ := H
  refine e_iaload (v := (mI σ7 45 (mI σ7 41 1).toNatClampNeg)) d_99_89 (rdI_at (hS9.k rfl) hb) rfl ?_
  refine e_putI d_99_90 oo_99 pF_7_51 (Or.inl rfl) (hS9.k (kH h1)) rfl ?_
  generalize hm11 : uI σ7 a1 4 (mI σ7 45 (mI σ7 41 1).toNatClampNeg) = σ10
  have hS12 : Sg t σ10 := by rw [← hm11]; exact hS9.uI
  replace H := H σ10 hm11.symm
  refine e_aload_n d_99_93 rfl rfl ?_
  refine e_getR d_99_94 oo_99 pF_7_24 (by decide) (hS12.k rfl) (hS12.r rt_41_6) rfl ?_
  refine e_aload_n d_99_97 rfl rfl ?_
  refine e_getI d_99_98 oo_99 pF_7_37 (by decide) (hS12.k rfl) rfl ?_
  obtain ⟨hb, H⟩ := H
  refine e_iaload (v := (mI σ10 46 (mI σ10 41 1).toNatClampNeg)) d_99_101 (rdI_at (hS12.k rfl) hb) rfl ?_
  refine e_istore_n (ls2 := [.ref 41, .ref a1, .int (mI σ10 46 (mI σ10 41 1).toNatClampNeg)]) d_99_102 rfl rfl rfl ?_
  refine e_iload_n d_99_103 rfl rfl ?_
  refine e_if_lt (t := 143) d_99_104 (by decide) rfl (fun hc => ?_) (fun hc => ?_)
  · replace H := H.1 hc
    refine e_aload_n d_99_143 rfl rfl ?_
    refine e_getI d_99_144 oo_99 pF_7_33 (by decide) (hS12.k rfl) rfl ?_
    subst H
    exact e_iret d_99_147 rr_99
  · replace H := H.2 hc
    refine e_iload_n d_99_107 rfl rfl ?_
    refine e_bipush d_99_108 cb_10 rfl ?_
    refine e_icmp_ge (t := 143) d_99_110 (by decide) rfl (fun hc => ?_) (fun hc => ?_)
    · replace H := H.2 hc
      refine e_aload_n d_99_143 rfl rfl ?_
      refine e_getI d_99_144 oo_99 pF_7_33 (by decide) (hS12.k rfl) rfl ?_
      subst H
      exact e_iret d_99_147 rr_99
    · replace H := H.1 hc
      exact H
theorem b_99_113 {t : Nat} {σ : Mm} {w : Option Value × Mm} {x2 : Int32} {a1 : Nat} (hS : Sg t σ) (h1 : a1 = 26 ∨ a1 = 30 ∨ a1 = 34)
    (H : inb (mI σ 41 1) 20 = true ∧ (inb x2 10 = true ∧ (∀ (σ1 : Mm), σ1 = uI σ (a1 + 2) x2.toNatClampNeg (mI σ 47 (mI σ 41 1).toNatClampNeg) → (inb (mI σ1 41 1) 20 = true ∧ (inb x2 10 = true ∧ (∀ (σ4 : Mm), σ4 = uI σ1 (a1 + 3) x2.toNatClampNeg (mI σ1 48 (mI σ1 41 1).toNatClampNeg) → (w = (some (.int (mI σ4 41 0)), σ4)))))))) :
    Ev 99 113 [.ref 41, .ref a1, .int x2] [] σ w := by
  refine e_aload_n d_99_113 rfl rfl ?_
  refine e_getR d_99_114 oo_99 pF_7_54 (by decide) (hS.k (kH h1)) (hS.rH8 h1) rfl ?_
  refine e_iload_n d_99_117 rfl rfl ?_
  refine e_aload_n d_99_118 rfl rfl ?_
  refine e_getR d_99_119 oo_99 pF_7_27 (by decide) (hS.k rfl) (hS.r rt_41_7) rfl ?_
  refine e_aload_n d_99_122 rfl rfl ?_
  refine e_getI d_99_123 oo_99 pF_7_37 (by decide) (hS.k rfl) rfl ?_
  obtain ⟨hb, H⟩ := H
  refine e_iaload (v := (mI σ 47 (mI σ 41 1).toNatClampNeg)) d_99_126 (rdI_at (hS.k rfl) hb) rfl ?_
  obtain ⟨hb, H⟩ := H
  refine e_iastore d_99_127 (okI_at (hS.k (kH2 h1)) hb) rfl ?_
  generalize hm2 : uI σ (a1 + 2) x2.toNatClampNeg (mI σ 47 (mI σ 41 1).toNatClampNeg) = σ1
  have hS3 : Sg t σ1 := by rw [← hm2]; exact hS.uI
  replace H := H σ1 hm2.symm
  refine e_aload_n d_99_128 rfl rfl ?_
  refine e_getR d_99_129 oo_99 pF_7_55 (by decide) (hS3.k (kH h1)) (hS3.rH9 h1) rfl ?_
  refine e_iload_n d_99_132 rfl rfl ?_
  refine e_aload_n d_99_133 rfl rfl ?_
  refine e_getR d_99_134 oo_99 pF_7_30 (by decide) (hS3.k rfl) (hS3.r rt_41_8) rfl ?_
  refine e_aload_n d_99_137 rfl rfl ?_
  refine e_getI d_99_138 oo_99 pF_7_37 (by decide) (hS3.k rfl) rfl ?_
  obtain ⟨hb, H⟩ := H
  refine e_iaload (v := (mI σ1 48 (mI σ1 41 1).toNatClampNeg)) d_99_141 (rdI_at (hS3.k rfl) hb) rfl ?_
  obtain ⟨hb, H⟩ := H
  refine e_iastore d_99_142 (okI_at (hS3.k (kH3 h1)) hb) rfl ?_
  generalize hm5 : uI σ1 (a1 + 3) x2.toNatClampNeg (mI σ1 48 (mI σ1 41 1).toNatClampNeg) = σ4
  have hS6 : Sg t σ4 := by rw [← hm5]; exact hS3.uI
  replace H := H σ4 hm5.symm
  refine e_aload_n d_99_143 rfl rfl ?_
  refine e_getI d_99_144 oo_99 pF_7_33 (by decide) (hS6.k rfl) rfl ?_
  subst H
  exact e_iret d_99_147 rr_99
