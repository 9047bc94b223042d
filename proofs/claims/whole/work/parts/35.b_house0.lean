/-! X2_begin -/
theorem b_18_0 {t : Nat} {σ : Mm} {w : Option Value × Mm} {a : Nat} {a1 : Nat} (hS : Sg t σ) (ha : a = 26 ∨ a = 30 ∨ a = 34) (h1 : a1 = 3 ∨ a1 = 15)
    (H : ∀ (σ1 : Mm), σ1 = uI (uI σ a 0 0) a 1 (mI (uI σ a 0 0) a1 2) → (∀ (σ4 : Mm), σ4 = uI (uI (uI (uI σ1 a 2 0) a 3 0) a 4 0) a 5 0 → (∃ (v9 : Int32) (σ7 : Mm), Cl 93 [.ref a1] σ4 (some (.int v9), σ7) ∧ Sg t σ7 ∧ Ev 18 43 [.ref a, .ref a1, .int 0] [] (uI σ7 a 6 v9) w))) :
    Ev 18 0 [.ref a, .ref a1, .retAddr 0] [] σ w := by
  refine e_aload_n d_18_0 rfl rfl ?_
  refine e_iconst d_18_1 ci_0 rfl ?_
  refine e_putI d_18_2 oo_18 pF_2_21 (Or.inl rfl) (hS.k (kH ha)) rfl ?_
  refine e_aload_n d_18_5 rfl rfl ?_
  refine e_aload_n d_18_6 rfl rfl ?_
  refine e_getI d_18_7 oo_18 pF_2_25 (by decide) (hS.uI.k (kT h1)) rfl ?_
  refine e_putI d_18_10 oo_18 pF_2_30 (Or.inl rfl) (hS.uI.k (kH ha)) rfl ?_
  generalize hm2 : uI (uI σ a 0 0) a 1 (mI (uI σ a 0 0) a1 2) = σ1
  have hS3 : Sg t σ1 := by rw [← hm2]; exact hS.uI.uI
  replace H := H σ1 hm2.symm
  refine e_aload_n d_18_13 rfl rfl ?_
  refine e_iconst d_18_14 ci_0 rfl ?_
  refine e_putI d_18_15 oo_18 pF_2_33 (Or.inl rfl) (hS3.k (kH ha)) rfl ?_
  refine e_aload_n d_18_18 rfl rfl ?_
  refine e_iconst d_18_19 ci_0 rfl ?_
  refine e_putI d_18_20 oo_18 pF_2_36 (Or.inl rfl) (hS3.uI.k (kH ha)) rfl ?_
  refine e_aload_n d_18_23 rfl rfl ?_
  refine e_iconst d_18_24 ci_0 rfl ?_
  refine e_putI d_18_25 oo_18 pF_2_39 (Or.inl rfl) (hS3.uI.uI.k (kH ha)) rfl ?_
  refine e_aload_n d_18_28 rfl rfl ?_
  refine e_iconst d_18_29 ci_0 rfl ?_
  refine e_putI d_18_30 oo_18 pF_2_42 (Or.inl rfl) (hS3.uI.uI.uI.k (kH ha)) rfl ?_
  generalize hm5 : uI (uI (uI (uI σ1 a 2 0) a 3 0) a 4 0) a 5 0 = σ4
  have hS6 : Sg t σ4 := by rw [← hm5]; exact hS3.uI.uI.uI.uI
  replace H := H σ4 hm5.symm
  refine e_aload_n d_18_33 rfl rfl ?_
  refine e_aload_n d_18_34 rfl rfl ?_
  obtain ⟨v9, σ7, hcl, hS8, H⟩ := H
  refine e_vcall (w1 := (some (.int v9), σ7)) d_18_35 kc_18_35 rfl ⟨Nat.le_of_ble_eq_true rfl, xx_18.symm⟩ rfl hcl ?_
  show Ev 18 38 [.ref a, .ref a1, .retAddr 0] [.int v9, .ref a] σ7 w
  refine e_putI d_18_38 oo_18 pF_2_49 (Or.inl rfl) (hS8.k (kH ha)) rfl ?_
  refine e_iconst d_18_41 ci_0 rfl ?_
  refine e_istore_n (ls2 := [.ref a, .ref a1, .int 0]) d_18_42 rfl rfl rfl ?_
  exact H
theorem b_18_43 {t : Nat} {σ : Mm} {w : Option Value × Mm} {x2 : Int32} {a : Nat} {a1 : Nat} (hS : Sg t σ) (ha : a = 26 ∨ a = 30 ∨ a = 34) (h1 : a1 = 3 ∨ a1 = 15)
    (H : (x2 < 14 → (inb x2 14 = true ∧ Ev 18 43 [.ref a, .ref a1, .int (x2 + 1)] [] (uI σ (a + 1) x2.toNatClampNeg 0) w)) ∧ (¬ (x2 < 14) → Ev 18 64 [.ref a, .ref a1, .int 0] [] σ w)) :
    Ev 18 43 [.ref a, .ref a1, .int x2] [] σ w := by
  refine e_iload_n d_18_43 rfl rfl ?_
  refine e_bipush d_18_44 cb_14 rfl ?_
  refine e_icmp_ge (t := 62) d_18_46 (by decide) rfl (fun hc => ?_) (fun hc => ?_)
  · replace H := H.2 hc
    refine e_iconst d_18_62 ci_0 rfl ?_
    refine e_istore_n (ls2 := [.ref a, .ref a1, .int 0]) d_18_63 rfl rfl rfl ?_
    exact H
  · replace H := H.1 hc
    refine e_aload_n d_18_49 rfl rfl ?_
    refine e_getR d_18_50 oo_18 pF_2_9 (by decide) (hS.k (kH ha)) (hS.rH7 ha) rfl ?_
    refine e_iload_n d_18_53 rfl rfl ?_
    refine e_iconst d_18_54 ci_0 rfl ?_
    obtain ⟨hb, H⟩ := H
    refine e_iastore d_18_55 (okI_at (hS.k (kH1 ha)) hb) rfl ?_
    refine e_iinc (ls2 := [.ref a, .ref a1, .int (x2 + 1)]) d_18_56 rfl ci_1 rfl rfl rfl ?_
    refine e_goto (t := 43) d_18_59 (by decide) ?_
    exact H
theorem b_18_64 {t : Nat} {σ : Mm} {w : Option Value × Mm} {x2 : Int32} {a : Nat} {a1 : Nat} (hS : Sg t σ) (ha : a = 26 ∨ a = 30 ∨ a = 34) (h1 : a1 = 3 ∨ a1 = 15)
    (H : (x2 < 10 → ((x2 < (mI σ a1 1) → (inb x2 10 = true ∧ (inb x2 10 = true ∧ (∀ (σ4 : Mm), σ4 = uI σ (a + 2) x2.toNatClampNeg (mI σ (a1 + 4) x2.toNatClampNeg) → (inb x2 10 = true ∧ Ev 18 64 [.ref a, .ref a1, .int (x2 + 1)] [] (uI σ4 (a + 3) x2.toNatClampNeg 0) w))))) ∧ (¬ (x2 < (mI σ a1 1)) → (inb x2 10 = true ∧ (inb x2 10 = true ∧ (∀ (σ1 : Mm), σ1 = uI (uI σ (a + 2) x2.toNatClampNeg 0) (a + 3) x2.toNatClampNeg 0 → Ev 18 64 [.ref a, .ref a1, .int (x2 + 1)] [] σ1 w)))))) ∧ (¬ (x2 < 10) → (w = (none, σ)))) :
    Ev 18 64 [.ref a, .ref a1, .int x2] [] σ w := by
  refine e_iload_n d_18_64 rfl rfl ?_
  refine e_bipush d_18_65 cb_10 rfl ?_
  refine e_icmp_ge (t := 107) d_18_67 (by decide) rfl (fun hc => ?_) (fun hc => ?_)
  · replace H := H.2 hc
    subst H
    exact e_vret d_18_107 rr_18
  · replace H := H.1 hc
    refine e_aload_n d_18_70 rfl rfl ?_
    refine e_getR d_18_71 oo_18 pF_2_15 (by decide) (hS.k (kH ha)) (hS.rH8 ha) rfl ?_
    refine e_iload_n d_18_74 rfl rfl ?_
    refine e_iload_n d_18_75 rfl rfl ?_
    refine e_aload_n d_18_76 rfl rfl ?_
    refine e_getI d_18_77 oo_18 pF_2_52 (by decide) (hS.k (kT h1)) rfl ?_
    refine e_icmp_ge (t := 92) d_18_80 (by decide) rfl (fun hc => ?_) (fun hc => ?_)
    · replace H := H.2 hc
      refine e_iconst d_18_92 ci_0 rfl ?_
      obtain ⟨hb, H⟩ := H
      refine e_iastore d_18_93 (okI_at (hS.k (kH2 ha)) hb) rfl ?_
      refine e_aload_n d_18_94 rfl rfl ?_
      refine e_getR d_18_95 oo_18 pF_2_18 (by decide) (hS.uI.k (kH ha)) (hS.uI.rH9 ha) rfl ?_
      refine e_iload_n d_18_98 rfl rfl ?_
      refine e_iconst d_18_99 ci_0 rfl ?_
      obtain ⟨hb, H⟩ := H
      refine e_iastore d_18_100 (okI_at (hS.uI.k (kH3 ha)) hb) rfl ?_
      generalize hm2 : uI (uI σ (a + 2) x2.toNatClampNeg 0) (a + 3) x2.toNatClampNeg 0 = σ1
      have hS3 : Sg t σ1 := by rw [← hm2]; exact hS.uI.uI
      replace H := H σ1 hm2.symm
      refine e_iinc (ls2 := [.ref a, .ref a1, .int (x2 + 1)]) d_18_101 rfl ci_1 rfl rfl rfl ?_
      refine e_goto (t := 64) d_18_104 (by decide) ?_
      exact H
    · replace H := H.1 hc
      refine e_aload_n d_18_83 rfl rfl ?_
      refine e_getR d_18_84 oo_18 pF_2_55 (by decide) (hS.k (kT h1)) (hS.rT11 h1) rfl ?_
      refine e_iload_n d_18_87 rfl rfl ?_
      obtain ⟨hb, H⟩ := H
      refine e_iaload (v := (mI σ (a1 + 4) x2.toNatClampNeg)) d_18_88 (rdI_at (hS.k (kT4 h1)) hb) rfl ?_
      refine e_goto (t := 93) d_18_89 (by decide) ?_
      obtain ⟨hb, H⟩ := H
      refine e_iastore d_18_93 (okI_at (hS.k (kH2 ha)) hb) rfl ?_
      generalize hm5 : uI σ (a + 2) x2.toNatClampNeg (mI σ (a1 + 4) x2.toNatClampNeg) = σ4
      have hS6 : Sg t σ4 := by rw [← hm5]; exact hS.uI
      replace H := H σ4 hm5.symm
      refine e_aload_n d_18_94 rfl rfl ?_
      refine e_getR d_18_95 oo_18 pF_2_18 (by decide) (hS6.k (kH ha)) (hS6.rH9 ha) rfl ?_
      refine e_iload_n d_18_98 rfl rfl ?_
      refine e_iconst d_18_99 ci_0 rfl ?_
      obtain ⟨hb, H⟩ := H
      refine e_iastore d_18_100 (okI_at (hS6.k (kH3 ha)) hb) rfl ?_
      refine e_iinc (ls2 := [.ref a, .ref a1, .int (x2 + 1)]) d_18_101 rfl ci_1 rfl rfl rfl ?_
      refine e_goto (t := 64) d_18_104 (by decide) ?_
      exact H
/-! X2_become -/
theorem b_19_0 {t : Nat} {σ : Mm} {w : Option Value × Mm} {a : Nat} {a1 : Nat} (hS : Sg t σ) (ha : a = 26 ∨ a = 30 ∨ a = 34) (h1 : a1 = 26 ∨ a1 = 30 ∨ a1 = 34)
    (H : ∀ (σ1 : Mm), σ1 = uI (uI σ a 0 (mI σ a1 0)) a 1 (mI (uI σ a 0 (mI σ a1 0)) a1 1) → (∀ (σ4 : Mm), σ4 = uI (uI σ1 a 2 (mI σ1 a1 2)) a 3 (mI (uI σ1 a 2 (mI σ1 a1 2)) a1 3) → (∀ (σ7 : Mm), σ7 = uI (uI σ4 a 4 (mI σ4 a1 4)) a 5 (mI (uI σ4 a 4 (mI σ4 a1 4)) a1 5) → (∀ (σ10 : Mm), σ10 = uW (uI σ7 a 6 (mI σ7 a1 6)) (a + 1) (va_cpy (mI (uI σ7 a 6 (mI σ7 a1 6)) (a1 + 1)) (mI (uI σ7 a 6 (mI σ7 a1 6)) (a + 1)) 0 0 14) → (∀ (σ13 : Mm), σ13 = uW σ10 (a + 2) (va_cpy (mI σ10 (a1 + 2)) (mI σ10 (a + 2)) 0 0 10) → Ev 19 86 [.ref a, .ref a1] [] σ13 w))))) :
    Ev 19 0 [.ref a, .ref a1] [] σ w := by
  refine e_aload_n d_19_0 rfl rfl ?_
  refine e_aload_n d_19_1 rfl rfl ?_
  refine e_getI d_19_2 oo_19 pF_2_21 (by decide) (hS.k (kH h1)) rfl ?_
  refine e_putI d_19_5 oo_19 pF_2_21 (Or.inl rfl) (hS.k (kH ha)) rfl ?_
  refine e_aload_n d_19_8 rfl rfl ?_
  refine e_aload_n d_19_9 rfl rfl ?_
  refine e_getI d_19_10 oo_19 pF_2_30 (by decide) (hS.uI.k (kH h1)) rfl ?_
  refine e_putI d_19_13 oo_19 pF_2_30 (Or.inl rfl) (hS.uI.k (kH ha)) rfl ?_
  generalize hm2 : uI (uI σ a 0 (mI σ a1 0)) a 1 (mI (uI σ a 0 (mI σ a1 0)) a1 1) = σ1
  have hS3 : Sg t σ1 := by rw [← hm2]; exact hS.uI.uI
  replace H := H σ1 hm2.symm
  refine e_aload_n d_19_16 rfl rfl ?_
  refine e_aload_n d_19_17 rfl rfl ?_
  refine e_getI d_19_18 oo_19 pF_2_33 (by decide) (hS3.k (kH h1)) rfl ?_
  refine e_putI d_19_21 oo_19 pF_2_33 (Or.inl rfl) (hS3.k (kH ha)) rfl ?_
  refine e_aload_n d_19_24 rfl rfl ?_
  refine e_aload_n d_19_25 rfl rfl ?_
  refine e_getI d_19_26 oo_19 pF_2_36 (by decide) (hS3.uI.k (kH h1)) rfl ?_
  refine e_putI d_19_29 oo_19 pF_2_36 (Or.inl rfl) (hS3.uI.k (kH ha)) rfl ?_
  generalize hm5 : uI (uI σ1 a 2 (mI σ1 a1 2)) a 3 (mI (uI σ1 a 2 (mI σ1 a1 2)) a1 3) = σ4
  have hS6 : Sg t σ4 := by rw [← hm5]; exact hS3.uI.uI
  replace H := H σ4 hm5.symm
  refine e_aload_n d_19_32 rfl rfl ?_
  refine e_aload_n d_19_33 rfl rfl ?_
  refine e_getI d_19_34 oo_19 pF_2_39 (by decide) (hS6.k (kH h1)) rfl ?_
  refine e_putI d_19_37 oo_19 pF_2_39 (Or.inl rfl) (hS6.k (kH ha)) rfl ?_
  refine e_aload_n d_19_40 rfl rfl ?_
  refine e_aload_n d_19_41 rfl rfl ?_
  refine e_getI d_19_42 oo_19 pF_2_42 (by decide) (hS6.uI.k (kH h1)) rfl ?_
  refine e_putI d_19_45 oo_19 pF_2_42 (Or.inl rfl) (hS6.uI.k (kH ha)) rfl ?_
  generalize hm8 : uI (uI σ4 a 4 (mI σ4 a1 4)) a 5 (mI (uI σ4 a 4 (mI σ4 a1 4)) a1 5) = σ7
  have hS9 : Sg t σ7 := by rw [← hm8]; exact hS6.uI.uI
  replace H := H σ7 hm8.symm
  refine e_aload_n d_19_48 rfl rfl ?_
  refine e_aload_n d_19_49 rfl rfl ?_
  refine e_getI d_19_50 oo_19 pF_2_49 (by decide) (hS9.k (kH h1)) rfl ?_
  refine e_putI d_19_53 oo_19 pF_2_49 (Or.inl rfl) (hS9.k (kH ha)) rfl ?_
  refine e_aload_n d_19_56 rfl rfl ?_
  refine e_getR d_19_57 oo_19 pF_2_9 (by decide) (hS9.uI.k (kH h1)) (hS9.uI.rH7 h1) rfl ?_
  refine e_iconst d_19_60 ci_0 rfl ?_
  refine e_aload_n d_19_61 rfl rfl ?_
  refine e_getR d_19_62 oo_19 pF_2_9 (by decide) (hS9.uI.k (kH ha)) (hS9.uI.rH7 ha) rfl ?_
  refine e_iconst d_19_65 ci_0 rfl ?_
  refine e_bipush d_19_66 cb_14 rfl ?_
  refine e_copy d_19_68 kc_19_68.1 kc_19_68.2 ⟨Nat.le_of_ble_eq_true rfl, xx_19.symm⟩ (hS9.uI.k (kH1 ha)) (hS9.uI.k (kH1 h1)) ⟨by decide, by decide, by decide, by decide, by decide⟩ rfl ?_
  show Ev 19 71 [.ref a, .ref a1] [] (uW (uI σ7 a 6 (mI σ7 a1 6)) (a + 1) (va_cpy (mI (uI σ7 a 6 (mI σ7 a1 6)) (a1 + 1)) (mI (uI σ7 a 6 (mI σ7 a1 6)) (a + 1)) 0 0 14)) w
  generalize hm11 : uW (uI σ7 a 6 (mI σ7 a1 6)) (a + 1) (va_cpy (mI (uI σ7 a 6 (mI σ7 a1 6)) (a1 + 1)) (mI (uI σ7 a 6 (mI σ7 a1 6)) (a + 1)) 0 0 14) = σ10
  have hS12 : Sg t σ10 := by rw [← hm11]; exact hS9.uI.uW
  replace H := H σ10 hm11.symm
  refine e_aload_n d_19_71 rfl rfl ?_
  refine e_getR d_19_72 oo_19 pF_2_15 (by decide) (hS12.k (kH h1)) (hS12.rH8 h1) rfl ?_
  refine e_iconst d_19_75 ci_0 rfl ?_
  refine e_aload_n d_19_76 rfl rfl ?_
  refine e_getR d_19_77 oo_19 pF_2_15 (by decide) (hS12.k (kH ha)) (hS12.rH8 ha) rfl ?_
  refine e_iconst d_19_80 ci_0 rfl ?_
  refine e_bipush d_19_81 cb_10 rfl ?_
  refine e_copy d_19_83 kc_19_83.1 kc_19_83.2 ⟨Nat.le_of_ble_eq_true rfl, xx_19.symm⟩ (hS12.k (kH2 ha)) (hS12.k (kH2 h1)) ⟨by decide, by decide, by decide, by decide, by decide⟩ rfl ?_
  show Ev 19 86 [.ref a, .ref a1] [] (uW σ10 (a + 2) (va_cpy (mI σ10 (a1 + 2)) (mI σ10 (a + 2)) 0 0 10)) w
  generalize hm14 : uW σ10 (a + 2) (va_cpy (mI σ10 (a1 + 2)) (mI σ10 (a + 2)) 0 0 10) = σ13
  have hS15 : Sg t σ13 := by rw [← hm14]; exact hS12.uW
  replace H := H σ13 hm14.symm
  exact H
theorem b_19_86 {t : Nat} {σ : Mm} {w : Option Value × Mm} {a : Nat} {a1 : Nat} (hS : Sg t σ) (ha : a = 26 ∨ a = 30 ∨ a = 34) (h1 : a1 = 26 ∨ a1 = 30 ∨ a1 = 34)
    (H : ∀ (σ1 : Mm), σ1 = uW σ (a + 3) (va_cpy (mI σ (a1 + 3)) (mI σ (a + 3)) 0 0 10) → (w = (none, σ1))) :
    Ev 19 86 [.ref a, .ref a1] [] σ w := by
  refine e_aload_n d_19_86 rfl rfl ?_
  refine e_getR d_19_87 oo_19 pF_2_18 (by decide) (hS.k (kH h1)) (hS.rH9 h1) rfl ?_
  refine e_iconst d_19_90 ci_0 rfl ?_
  refine e_aload_n d_19_91 rfl rfl ?_
  refine e_getR d_19_92 oo_19 pF_2_18 (by decide) (hS.k (kH ha)) (hS.rH9 ha) rfl ?_
  refine e_iconst d_19_95 ci_0 rfl ?_
  refine e_bipush d_19_96 cb_10 rfl ?_
  refine e_copy d_19_98 kc_19_98.1 kc_19_98.2 ⟨Nat.le_of_ble_eq_true rfl, xx_19.symm⟩ (hS.k (kH3 ha)) (hS.k (kH3 h1)) ⟨by decide, by decide, by decide, by decide, by decide⟩ rfl ?_
  show Ev 19 101 [.ref a, .ref a1] [] (uW σ (a + 3) (va_cpy (mI σ (a1 + 3)) (mI σ (a + 3)) 0 0 10)) w
  generalize hm2 : uW σ (a + 3) (va_cpy (mI σ (a1 + 3)) (mI σ (a + 3)) 0 0 10) = σ1
  have hS3 : Sg t σ1 := by rw [← hm2]; exact hS.uW
  replace H := H σ1 hm2.symm
  subst H
  exact e_vret d_19_101 rr_19
/-! X2_shownLamps -/
theorem b_20_0 {t : Nat} {σ : Mm} {w : Option Value × Mm} {a : Nat} (hS : Sg t σ) (ha : a = 26 ∨ a = 30 ∨ a = 34)
    (H : w = (some (.int ((mI σ a 1) &&& ((mI σ a 2) ^^^ (-1)))), σ)) :
    Ev 20 0 [.ref a] [] σ w := by
  refine e_aload_n d_20_0 rfl rfl ?_
  refine e_getI d_20_1 oo_20 pF_2_30 (by decide) (hS.k (kH ha)) rfl ?_
  refine e_aload_n d_20_4 rfl rfl ?_
  refine e_getI d_20_5 oo_20 pF_2_33 (by decide) (hS.k (kH ha)) rfl ?_
  refine e_iconst d_20_8 ci_m1 rfl ?_
  refine e_ixor d_20_9 rfl ?_
  refine e_iand d_20_10 rfl ?_
  subst H
  exact e_iret d_20_11 rr_20
/-! X2_freePulls -/
theorem b_21_0 {t : Nat} {σ : Mm} {w : Option Value × Mm} {a : Nat} {a1 : Nat} (hS : Sg t σ) (ha : a = 26 ∨ a = 30 ∨ a = 34) (h1 : a1 = 3 ∨ a1 = 15)
    (H : w = (some (.int ((((1 : Int32) <<< ((mI σ a1 1) &&& 31)) - 1) &&& ((mI σ a 3) ^^^ (-1)))), σ)) :
    Ev 21 0 [.ref a, .ref a1] [] σ w := by
  refine e_iconst d_21_0 ci_1 rfl ?_
  refine e_aload_n d_21_1 rfl rfl ?_
  refine e_getI d_21_2 oo_21 pF_2_52 (by decide) (hS.k (kT h1)) rfl ?_
  refine e_ishl d_21_5 rfl ?_
  refine e_iconst d_21_6 ci_1 rfl ?_
  refine e_isub d_21_7 rfl ?_
  refine e_aload_n d_21_8 rfl rfl ?_
  refine e_getI d_21_9 oo_21 pF_2_36 (by decide) (hS.k (kH ha)) rfl ?_
  refine e_iconst d_21_12 ci_m1 rfl ?_
  refine e_ixor d_21_13 rfl ?_
  refine e_iand d_21_14 rfl ?_
  subst H
  exact e_iret d_21_15 rr_21
/-! X2_pullsTiedTo -/
theorem b_22_0 {t : Nat} {σ : Mm} {w : Option Value × Mm} {a : Nat} {x1 : Int32} (hS : Sg t σ) (ha : a = 26 ∨ a = 30 ∨ a = 34)
    (H : Ev 22 4 [.ref a, .int x1, .int 0, .int 0] [] σ w) :
    Ev 22 0 [.ref a, .int x1, .retAddr 0, .retAddr 0] [] σ w := by
  refine e_iconst d_22_0 ci_0 rfl ?_
  refine e_istore_n (ls2 := [.ref a, .int x1, .int 0, .retAddr 0]) d_22_1 rfl rfl rfl ?_
  refine e_iconst d_22_2 ci_0 rfl ?_
  refine e_istore_n (ls2 := [.ref a, .int x1, .int 0, .int 0]) d_22_3 rfl rfl rfl ?_
  exact H
theorem b_22_4 {t : Nat} {σ : Mm} {w : Option Value × Mm} {x1 : Int32} {x2 : Int32} {x3 : Int32} {a : Nat} (hS : Sg t σ) (ha : a = 26 ∨ a = 30 ∨ a = 34)
    (H : (x3 < 10 → (inb x3 10 = true ∧ Ev 22 4 [.ref a, .int x1, .int (x2 ||| ((((mI σ (a + 2) x3.toNatClampNeg) >>> (x1 &&& 31)) &&& 1) <<< (x3 &&& 31))), .int (x3 + 1)] [] σ w)) ∧ (¬ (x3 < 10) → (w = (some (.int x2), σ)))) :
    Ev 22 4 [.ref a, .int x1, .int x2, .int x3] [] σ w := by
  refine e_iload_n d_22_4 rfl rfl ?_
  refine e_bipush d_22_5 cb_10 rfl ?_
  refine e_icmp_ge (t := 31) d_22_7 (by decide) rfl (fun hc => ?_) (fun hc => ?_)
  · replace H := H.2 hc
    refine e_iload_n d_22_31 rfl rfl ?_
    subst H
    exact e_iret d_22_32 rr_22
  · replace H := H.1 hc
    refine e_iload_n d_22_10 rfl rfl ?_
    refine e_aload_n d_22_11 rfl rfl ?_
    refine e_getR d_22_12 oo_22 pF_2_15 (by decide) (hS.k (kH ha)) (hS.rH8 ha) rfl ?_
    refine e_iload_n d_22_15 rfl rfl ?_
    obtain ⟨hb, H⟩ := H
    refine e_iaload (v := (mI σ (a + 2) x3.toNatClampNeg)) d_22_16 (rdI_at (hS.k (kH2 ha)) hb) rfl ?_
    refine e_iload_n d_22_17 rfl rfl ?_
    refine e_ishr d_22_18 rfl ?_
    refine e_iconst d_22_19 ci_1 rfl ?_
    refine e_iand d_22_20 rfl ?_
    refine e_iload_n d_22_21 rfl rfl ?_
    refine e_ishl d_22_22 rfl ?_
    refine e_ior d_22_23 rfl ?_
    refine e_istore_n (ls2 := [.ref a, .int x1, .int (x2 ||| ((((mI σ (a + 2) x3.toNatClampNeg) >>> (x1 &&& 31)) &&& 1) <<< (x3 &&& 31))), .int x3]) d_22_24 rfl rfl rfl ?_
    refine e_iinc (ls2 := [.ref a, .int x1, .int (x2 ||| ((((mI σ (a + 2) x3.toNatClampNeg) >>> (x1 &&& 31)) &&& 1) <<< (x3 &&& 31))), .int (x3 + 1)]) d_22_25 rfl ci_1 rfl rfl rfl ?_
    refine e_goto (t := 4) d_22_28 (by decide) ?_
    exact H
/-! X2_howManyTies -/
theorem b_23_0 {t : Nat} {σ : Mm} {w : Option Value × Mm} {a : Nat} (hS : Sg t σ) (ha : a = 26 ∨ a = 30 ∨ a = 34)
    (H : Ev 23 4 [.ref a, .int 0, .int 0] [] σ w) :
    Ev 23 0 [.ref a, .retAddr 0, .retAddr 0] [] σ w := by
  refine e_iconst d_23_0 ci_0 rfl ?_
  refine e_istore_n (ls2 := [.ref a, .int 0, .retAddr 0]) d_23_1 rfl rfl rfl ?_
  refine e_iconst d_23_2 ci_0 rfl ?_
  refine e_istore_n (ls2 := [.ref a, .int 0, .int 0]) d_23_3 rfl rfl rfl ?_
  exact H
theorem b_23_4 {t : Nat} {σ : Mm} {w : Option Value × Mm} {x1 : Int32} {x2 : Int32} {a : Nat} (hS : Sg t σ) (ha : a = 26 ∨ a = 30 ∨ a = 34)
    (H : (x2 < 10 → (inb x2 10 = true ∧ (∃ (v3 : Int32) (σ1 : Mm), Cl 276 [.int (mI σ (a + 2) x2.toNatClampNeg)] σ (some (.int v3), σ1) ∧ Sg t σ1 ∧ Ev 23 4 [.ref a, .int (x1 + v3), .int (x2 + 1)] [] σ1 w))) ∧ (¬ (x2 < 10) → (w = (some (.int x1), σ)))) :
    Ev 23 4 [.ref a, .int x1, .int x2] [] σ w := by
  refine e_iload_n d_23_4 rfl rfl ?_
  refine e_bipush d_23_5 cb_10 rfl ?_
  refine e_icmp_ge (t := 28) d_23_7 (by decide) rfl (fun hc => ?_) (fun hc => ?_)
  · replace H := H.2 hc
    refine e_iload_n d_23_28 rfl rfl ?_
    subst H
    exact e_iret d_23_29 rr_23
  · replace H := H.1 hc
    refine e_iload_n d_23_10 rfl rfl ?_
    refine e_aload_n d_23_11 rfl rfl ?_
    refine e_getR d_23_12 oo_23 pF_2_15 (by decide) (hS.k (kH ha)) (hS.rH8 ha) rfl ?_
    refine e_iload_n d_23_15 rfl rfl ?_
    obtain ⟨hb, H⟩ := H
    refine e_iaload (v := (mI σ (a + 2) x2.toNatClampNeg)) d_23_16 (rdI_at (hS.k (kH2 ha)) hb) rfl ?_
    obtain ⟨v3, σ1, hcl, hS2, H⟩ := H
    refine e_scall (w1 := (some (.int v3), σ1)) d_23_17 kc_23_17 rfl ⟨Nat.le_of_ble_eq_true rfl, xx_23.symm⟩ rfl hcl ?_
    show Ev 23 20 [.ref a, .int x1, .int x2] [.int v3, .int x1] σ1 w
    refine e_iadd d_23_20 rfl ?_
    refine e_istore_n (ls2 := [.ref a, .int (x1 + v3), .int x2]) d_23_21 rfl rfl rfl ?_
    refine e_iinc (ls2 := [.ref a, .int (x1 + v3), .int (x2 + 1)]) d_23_22 rfl ci_1 rfl rfl rfl ?_
    refine e_goto (t := 4) d_23_25 (by decide) ?_
    exact H
/-! X2_makeWhole -/
theorem b_24_0 {t : Nat} {σ : Mm} {w : Option Value × Mm} {a : Nat} (hS : Sg t σ) (ha : a = 26 ∨ a = 30 ∨ a = 34)
    (H : w = (none, uI (uI σ a 3 0) a 2 0)) :
    Ev 24 0 [.ref a] [] σ w := by
  refine e_aload_n d_24_0 rfl rfl ?_
  refine e_iconst d_24_1 ci_0 rfl ?_
  refine e_putI d_24_2 oo_24 pF_2_36 (Or.inl rfl) (hS.k (kH ha)) rfl ?_
  refine e_aload_n d_24_5 rfl rfl ?_
  refine e_iconst d_24_6 ci_0 rfl ?_
  refine e_putI d_24_7 oo_24 pF_2_33 (Or.inl rfl) (hS.uI.k (kH ha)) rfl ?_
  subst H
  exact e_vret d_24_10 rr_24
/-! X2_draw -/
theorem b_25_0 {t : Nat} {σ : Mm} {w : Option Value × Mm} {a : Nat} (hS : Sg t σ) (ha : a = 26 ∨ a = 30 ∨ a = 34)
    (H : ∀ (σ1 : Mm), σ1 = uI σ a 6 ((((mI σ a 6) * 1103515245) + 12345) &&& 2147483647) → (w = (some (.int ((mI σ1 a 6) / 65536)), σ1))) :
    Ev 25 0 [.ref a] [] σ w := by
  refine e_aload_n d_25_0 rfl rfl ?_
  refine e_aload_n d_25_1 rfl rfl ?_
  refine e_getI d_25_2 oo_25 pF_2_49 (by decide) (hS.k (kH ha)) rfl ?_
  refine e_ldc d_25_5 oo_25 pI_2_68 rfl ?_
  refine e_imul d_25_7 rfl ?_
  refine e_sipush d_25_8 cs_12345 rfl ?_
  refine e_iadd d_25_11 rfl ?_
  refine e_ldc d_25_12 oo_25 pI_2_69 rfl ?_
  refine e_iand d_25_14 rfl ?_
  refine e_putI d_25_15 oo_25 pF_2_49 (Or.inl rfl) (hS.k (kH ha)) rfl ?_
  generalize hm2 : uI σ a 6 ((((mI σ a 6) * 1103515245) + 12345) &&& 2147483647) = σ1
  have hS3 : Sg t σ1 := by rw [← hm2]; exact hS.uI
  replace H := H σ1 hm2.symm
  refine e_aload_n d_25_18 rfl rfl ?_
  refine e_getI d_25_19 oo_25 pF_2_49 (by decide) (hS3.k (kH ha)) rfl ?_
  refine e_ldc d_25_22 oo_25 pI_2_70 rfl ?_
  refine e_idiv d_25_24 (by decide) rfl ?_
  subst H
  exact e_iret d_25_25 rr_25
