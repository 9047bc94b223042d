/-! X3_forget -/
theorem b_27_0 {t : Nat} {σ : Mm} {w : Option Value × Mm}  (hS : Sg t σ) 
    (H : w = (none, uI (uI σ 49 0 0) 49 1 (-1))) :
    Ev 27 0 [.ref 49] [] σ w := by
  refine e_aload_n d_27_0 rfl rfl ?_
  refine e_iconst d_27_1 ci_0 rfl ?_
  refine e_putI d_27_2 oo_27 pF_3_26 (Or.inl rfl) (hS.k rfl) rfl ?_
  refine e_aload_n d_27_5 rfl rfl ?_
  refine e_iconst d_27_6 ci_m1 rfl ?_
  refine e_putI d_27_7 oo_27 pF_3_22 (Or.inl rfl) (hS.uI.k rfl) rfl ?_
  subst H
  exact e_vret d_27_10 rr_27
/-! X3_write -/
theorem b_28_0 {t : Nat} {σ : Mm} {w : Option Value × Mm} {x1 : Int32} {x2 : Int32} {x3 : Int32} (hS : Sg t σ) 
    (H : ((mI σ 49 0) < 0 → (w = (some (.int (-1)), σ))) ∧ (¬ ((mI σ 49 0) < 0) → (((mI σ 49 0) < 24 → (inb (mI σ 49 0) 24 = true ∧ (inb (mI (uI σ 50 (mI σ 49 0).toNatClampNeg x1) 49 0) 24 = true ∧ (∀ (σ1 : Mm), σ1 = uI (uI σ 50 (mI σ 49 0).toNatClampNeg x1) 51 (mI (uI σ 50 (mI σ 49 0).toNatClampNeg x1) 49 0).toNatClampNeg x2 → (inb (mI σ1 49 0) 24 = true ∧ (∀ (σ4 : Mm), σ4 = uI σ1 52 (mI σ1 49 0).toNatClampNeg (x3 &&& 1) → (w = (some (.int ((mI (uI σ4 49 0 ((mI σ4 49 0) + 1)) 49 0) - 1)), uI σ4 49 0 ((mI σ4 49 0) + 1))))))))) ∧ (¬ ((mI σ 49 0) < 24) → (w = (some (.int (-1)), σ)))))) :
    Ev 28 0 [.ref 49, .int x1, .int x2, .int x3] [] σ w := by
  refine e_aload_n d_28_0 rfl rfl ?_
  refine e_getI d_28_1 oo_28 pF_3_26 (by decide) (hS.k rfl) rfl ?_
  refine e_if_lt (t := 16) d_28_4 (by decide) rfl (fun hc => ?_) (fun hc => ?_)
  · replace H := H.1 hc
    refine e_iconst d_28_16 ci_m1 rfl ?_
    subst H
    exact e_iret d_28_17 rr_28
  · replace H := H.2 hc
    refine e_aload_n d_28_7 rfl rfl ?_
    refine e_getI d_28_8 oo_28 pF_3_26 (by decide) (hS.k rfl) rfl ?_
    refine e_bipush d_28_11 cb_24 rfl ?_
    refine e_icmp_lt (t := 18) d_28_13 (by decide) rfl (fun hc => ?_) (fun hc => ?_)
    · replace H := H.1 hc
      refine e_aload_n d_28_18 rfl rfl ?_
      refine e_getR d_28_19 oo_28 pF_3_9 (by decide) (hS.k rfl) (hS.r rt_49_10) rfl ?_
      refine e_aload_n d_28_22 rfl rfl ?_
      refine e_getI d_28_23 oo_28 pF_3_26 (by decide) (hS.k rfl) rfl ?_
      refine e_iload_n d_28_26 rfl rfl ?_
      obtain ⟨hb, H⟩ := H
      refine e_iastore d_28_27 (okI_at (hS.k rfl) hb) rfl ?_
      refine e_aload_n d_28_28 rfl rfl ?_
      refine e_getR d_28_29 oo_28 pF_3_15 (by decide) (hS.uI.k rfl) (hS.uI.r rt_49_11) rfl ?_
      refine e_aload_n d_28_32 rfl rfl ?_
      refine e_getI d_28_33 oo_28 pF_3_26 (by decide) (hS.uI.k rfl) rfl ?_
      refine e_iload_n d_28_36 rfl rfl ?_
      obtain ⟨hb, H⟩ := H
      refine e_iastore d_28_37 (okI_at (hS.uI.k rfl) hb) rfl ?_
      generalize hm2 : uI (uI σ 50 (mI σ 49 0).toNatClampNeg x1) 51 (mI (uI σ 50 (mI σ 49 0).toNatClampNeg x1) 49 0).toNatClampNeg x2 = σ1
      have hS3 : Sg t σ1 := by rw [← hm2]; exact hS.uI.uI
      replace H := H σ1 hm2.symm
      refine e_aload_n d_28_38 rfl rfl ?_
      refine e_getR d_28_39 oo_28 pF_3_18 (by decide) (hS3.k rfl) (hS3.r rt_49_12) rfl ?_
      refine e_aload_n d_28_42 rfl rfl ?_
      refine e_getI d_28_43 oo_28 pF_3_26 (by decide) (hS3.k rfl) rfl ?_
      refine e_iload_n d_28_46 rfl rfl ?_
      obtain ⟨hb, H⟩ := H
      refine e_bastoreZ d_28_47 (okI_no (hS3.k rfl)) (okI_at (hS3.k rfl) hb) rfl ?_
      generalize hm5 : uI σ1 52 (mI σ1 49 0).toNatClampNeg (x3 &&& 1) = σ4
      have hS6 : Sg t σ4 := by rw [← hm5]; exact hS3.uI
      replace H := H σ4 hm5.symm
      refine e_aload_n d_28_48 rfl rfl ?_
      refine e_dup d_28_49 rfl rfl ?_
      refine e_getI d_28_50 oo_28 pF_3_26 (by decide) (hS6.k rfl) rfl ?_
      refine e_iconst d_28_53 ci_1 rfl ?_
      refine e_iadd d_28_54 rfl ?_
      refine e_putI d_28_55 oo_28 pF_3_26 (Or.inl rfl) (hS6.k rfl) rfl ?_
      refine e_aload_n d_28_58 rfl rfl ?_
      refine e_getI d_28_59 oo_28 pF_3_26 (by decide) (hS6.uI.k rfl) rfl ?_
      refine e_iconst d_28_62 ci_1 rfl ?_
      refine e_isub d_28_63 rfl ?_
      subst H
      exact e_iret d_28_64 rr_28
    · replace H := H.2 hc
      refine e_iconst d_28_16 ci_m1 rfl ?_
      subst H
      exact e_iret d_28_17 rr_28
/-! X3_writeStrike -/
theorem b_29_0 {t : Nat} {σ : Mm} {w : Option Value × Mm} {x1 : Int32} (hS : Sg t σ) 
    (H : (x1 < 0 → (w = (some (.int (-1)), σ))) ∧ (¬ (x1 < 0) → ((x1 < (mI σ 49 0) → (∃ (v3 : Int32) (σ1 : Mm), Cl 28 [.ref 49, .int 2, .int x1, .int 1] σ (some (.int v3), σ1) ∧ Sg t σ1 ∧ (w = (some (.int v3), σ1)))) ∧ (¬ (x1 < (mI σ 49 0)) → (w = (some (.int (-1)), σ)))))) :
    Ev 29 0 [.ref 49, .int x1] [] σ w := by
  refine e_iload_n d_29_0 rfl rfl ?_
  refine e_if_lt (t := 12) d_29_1 (by decide) rfl (fun hc => ?_) (fun hc => ?_)
  · replace H := H.1 hc
    refine e_iconst d_29_12 ci_m1 rfl ?_
    refine e_goto (t := 23) d_29_13 (by decide) ?_
    subst H
    exact e_iret d_29_23 rr_29
  · replace H := H.2 hc
    refine e_iload_n d_29_4 rfl rfl ?_
    refine e_aload_n d_29_5 rfl rfl ?_
    refine e_getI d_29_6 oo_29 pF_3_26 (by decide) (hS.k rfl) rfl ?_
    refine e_icmp_lt (t := 16) d_29_9 (by decide) rfl (fun hc => ?_) (fun hc => ?_)
    · replace H := H.1 hc
      refine e_aload_n d_29_16 rfl rfl ?_
      refine e_iconst d_29_17 ci_2 rfl ?_
      refine e_iload_n d_29_18 rfl rfl ?_
      refine e_iconst d_29_19 ci_1 rfl ?_
      obtain ⟨v3, σ1, hcl, hS2, H⟩ := H
      refine e_vcall (w1 := (some (.int v3), σ1)) d_29_20 kc_29_20 rfl ⟨Nat.le_of_ble_eq_true rfl, xx_29.symm⟩ rfl hcl ?_
      show Ev 29 23 [.ref 49, .int x1] [.int v3] σ1 w
      subst H
      exact e_iret d_29_23 rr_29
    · replace H := H.2 hc
      refine e_iconst d_29_12 ci_m1 rfl ?_
      refine e_goto (t := 23) d_29_13 (by decide) ?_
      subst H
      exact e_iret d_29_23 rr_29
/-! X3_howManyKnown -/
theorem b_30_0 {t : Nat} {σ : Mm} {w : Option Value × Mm}  (hS : Sg t σ) 
    (H : ((mI σ 49 1) = (-1) → (w = (some (.int (mI σ 49 0)), σ))) ∧ (¬ ((mI σ 49 1) = (-1)) → (w = (some (.int (mI σ 49 1)), σ)))) :
    Ev 30 0 [.ref 49] [] σ w := by
  refine e_aload_n d_30_0 rfl rfl ?_
  refine e_getI d_30_1 oo_30 pF_3_22 (by decide) (hS.k rfl) rfl ?_
  refine e_iconst d_30_4 ci_m1 rfl ?_
  refine e_icmp_ne (t := 15) d_30_5 (by decide) rfl (fun hc => ?_) (fun hc => ?_)
  · replace H := H.2 hc
    refine e_aload_n d_30_15 rfl rfl ?_
    refine e_getI d_30_16 oo_30 pF_3_22 (by decide) (hS.k rfl) rfl ?_
    subst H
    exact e_iret d_30_19 rr_30
  · replace H := H.1 hc
    refine e_aload_n d_30_8 rfl rfl ?_
    refine e_getI d_30_9 oo_30 pF_3_26 (by decide) (hS.k rfl) rfl ?_
    refine e_goto (t := 19) d_30_12 (by decide) ?_
    subst H
    exact e_iret d_30_19 rr_30
/-! X3_look -/
theorem b_31_0 {t : Nat} {σ : Mm} {w : Option Value × Mm} {x2 : Int32} (hS : Sg t σ) 
    (H : ∃ (σ1 : Mm), Cl 33 [.ref 49] σ (none, σ1) ∧ Sg t σ1 ∧ (∀ (σ4 : Mm), σ4 = uI (uI (uI σ1 49 2 (-1)) 49 3 0) 49 4 (-1) → Ev 31 29 [.ref 49, .ref 53, .int x2, .int 0, .int 0, .retAddr 0] [] (uI σ4 49 5 0) w)) :
    Ev 31 0 [.ref 49, .ref 53, .int x2, .retAddr 0, .retAddr 0, .retAddr 0] [] σ w := by
  refine e_aload_n d_31_0 rfl rfl ?_
  obtain ⟨σ1, hcl, hS2, H⟩ := H
  refine e_vcall (w1 := (none, σ1)) d_31_1 kc_31_1 rfl ⟨Nat.le_of_ble_eq_true rfl, xx_31.symm⟩ rfl hcl ?_
  show Ev 31 4 [.ref 49, .ref 53, .int x2, .retAddr 0, .retAddr 0, .retAddr 0] [] σ1 w
  refine e_iconst d_31_4 ci_0 rfl ?_
  refine e_istore_n (ls2 := [.ref 49, .ref 53, .int x2, .int 0, .retAddr 0, .retAddr 0]) d_31_5 rfl rfl rfl ?_
  refine e_aload_n d_31_6 rfl rfl ?_
  refine e_iconst d_31_7 ci_m1 rfl ?_
  refine e_putI d_31_8 oo_31 pF_3_36 (Or.inl rfl) (hS2.k rfl) rfl ?_
  refine e_aload_n d_31_11 rfl rfl ?_
  refine e_iconst d_31_12 ci_0 rfl ?_
  refine e_putI d_31_13 oo_31 pF_3_39 (Or.inl rfl) (hS2.uI.k rfl) rfl ?_
  refine e_aload_n d_31_16 rfl rfl ?_
  refine e_iconst d_31_17 ci_m1 rfl ?_
  refine e_putI d_31_18 oo_31 pF_3_42 (Or.inl rfl) (hS2.uI.uI.k rfl) rfl ?_
  generalize hm5 : uI (uI (uI σ1 49 2 (-1)) 49 3 0) 49 4 (-1) = σ4
  have hS6 : Sg t σ4 := by rw [← hm5]; exact hS2.uI.uI.uI
  replace H := H σ4 hm5.symm
  refine e_aload_n d_31_21 rfl rfl ?_
  refine e_iconst d_31_22 ci_0 rfl ?_
  refine e_putI d_31_23 oo_31 pF_3_45 (Or.inl rfl) (hS6.k rfl) rfl ?_
  refine e_iconst d_31_26 ci_0 rfl ?_
  refine e_istore (ls2 := [.ref 49, .ref 53, .int x2, .int 0, .int 0, .retAddr 0]) d_31_27 rfl rfl rfl ?_
  exact H
theorem b_31_29 {t : Nat} {σ : Mm} {w : Option Value × Mm} {x2 : Int32} {x3 : Int32} {x4 : Int32} {z5 : Value} (hS : Sg t σ) 
    (H : (x4 < (mI σ 53 0) → ((x4 < 1024 → (inb x4 1024 = true ∧ (∃ (v3 : Int32) (σ1 : Mm), Cl 32 [.ref 49, .int x4, .int (x2 ^^^ (mI σ 54 x4.toNatClampNeg))] σ (some (.int v3), σ1) ∧ Sg t σ1 ∧ ((v3 = 0 → Ev 31 29 [.ref 49, .ref 53, .int x2, .int x3, .int (x4 + 1), .int (x2 ^^^ (mI σ 54 x4.toNatClampNeg))] [] σ1 w) ∧ (¬ (v3 = 0) → (∀ (σ4 : Mm), σ4 = uI (uI σ1 49 2 ((mI σ1 49 2) &&& x4)) 49 3 ((mI (uI σ1 49 2 ((mI σ1 49 2) &&& x4)) 49 3) ||| x4) → (∀ (σ7 : Mm), σ7 = uI σ4 49 4 ((mI σ4 49 4) &&& (x2 ^^^ (mI σ 54 x4.toNatClampNeg))) → (∀ (σ10 : Mm), σ10 = uI σ7 49 5 ((mI σ7 49 5) ||| (x2 ^^^ (mI σ 54 x4.toNatClampNeg))) → Ev 31 29 [.ref 49, .ref 53, .int x2, .int (x3 + 1), .int (x4 + 1), .int (x2 ^^^ (mI σ 54 x4.toNatClampNeg))] [] σ10 w)))))))) ∧ (¬ (x4 < 1024) → (w = (some (.int x3), σ))))) ∧ (¬ (x4 < (mI σ 53 0)) → (w = (some (.int x3), σ)))) :
    Ev 31 29 [.ref 49, .ref 53, .int x2, .int x3, .int x4, z5] [] σ w := by
  refine e_iload d_31_29 rfl rfl ?_
  refine e_aload_n d_31_31 rfl rfl ?_
  refine e_getI d_31_32 oo_31 pF_3_48 (by decide) (hS.k rfl) rfl ?_
  refine e_icmp_ge (t := 121) d_31_35 (by decide) rfl (fun hc => ?_) (fun hc => ?_)
  · replace H := H.2 hc
    refine e_iload_n d_31_121 rfl rfl ?_
    subst H
    exact e_iret d_31_122 rr_31
  · replace H := H.1 hc
    refine e_iload d_31_38 rfl rfl ?_
    refine e_sipush d_31_40 cs_1024 rfl ?_
    refine e_icmp_ge (t := 121) d_31_43 (by decide) rfl (fun hc => ?_) (fun hc => ?_)
    · replace H := H.2 hc
      refine e_iload_n d_31_121 rfl rfl ?_
      subst H
      exact e_iret d_31_122 rr_31
    · replace H := H.1 hc
      refine e_iload_n d_31_46 rfl rfl ?_
      refine e_aload_n d_31_47 rfl rfl ?_
      refine e_getR d_31_48 oo_31 pF_3_51 (by decide) (hS.k rfl) (hS.r rt_53_1) rfl ?_
      refine e_iload d_31_51 rfl rfl ?_
      obtain ⟨hb, H⟩ := H
      refine e_iaload (v := (mI σ 54 x4.toNatClampNeg)) d_31_53 (rdI_at (hS.k rfl) hb) rfl ?_
      refine e_ixor d_31_54 rfl ?_
      refine e_istore (ls2 := [.ref 49, .ref 53, .int x2, .int x3, .int x4, .int (x2 ^^^ (mI σ 54 x4.toNatClampNeg))]) d_31_55 rfl rfl rfl ?_
      refine e_aload_n d_31_57 rfl rfl ?_
      refine e_iload d_31_58 rfl rfl ?_
      refine e_iload d_31_60 rfl rfl ?_
      obtain ⟨v3, σ1, hcl, hS2, H⟩ := H
      refine e_vcall (w1 := (some (.int v3), σ1)) d_31_62 kc_31_62 rfl ⟨Nat.le_of_ble_eq_true rfl, xx_31.symm⟩ rfl hcl ?_
      show Ev 31 65 [.ref 49, .ref 53, .int x2, .int x3, .int x4, .int (x2 ^^^ (mI σ 54 x4.toNatClampNeg))] [.int v3] σ1 w
      refine e_if_eq (t := 115) d_31_65 (by decide) rfl (fun hc => ?_) (fun hc => ?_)
      · replace H := H.1 hc
        refine e_iinc (ls2 := [.ref 49, .ref 53, .int x2, .int x3, .int (x4 + 1), .int (x2 ^^^ (mI σ 54 x4.toNatClampNeg))]) d_31_115 rfl ci_1 rfl rfl rfl ?_
        refine e_goto (t := 29) d_31_118 (by decide) ?_
        exact H
      · replace H := H.2 hc
        refine e_iinc (ls2 := [.ref 49, .ref 53, .int x2, .int (x3 + 1), .int x4, .int (x2 ^^^ (mI σ 54 x4.toNatClampNeg))]) d_31_68 rfl ci_1 rfl rfl rfl ?_
        refine e_aload_n d_31_71 rfl rfl ?_
        refine e_dup d_31_72 rfl rfl ?_
        refine e_getI d_31_73 oo_31 pF_3_36 (by decide) (hS2.k rfl) rfl ?_
        refine e_iload d_31_76 rfl rfl ?_
        refine e_iand d_31_78 rfl ?_
        refine e_putI d_31_79 oo_31 pF_3_36 (Or.inl rfl) (hS2.k rfl) rfl ?_
        refine e_aload_n d_31_82 rfl rfl ?_
        refine e_dup d_31_83 rfl rfl ?_
        refine e_getI d_31_84 oo_31 pF_3_39 (by decide) (hS2.uI.k rfl) rfl ?_
        refine e_iload d_31_87 rfl rfl ?_
        refine e_ior d_31_89 rfl ?_
        refine e_putI d_31_90 oo_31 pF_3_39 (Or.inl rfl) (hS2.uI.k rfl) rfl ?_
        generalize hm5 : uI (uI σ1 49 2 ((mI σ1 49 2) &&& x4)) 49 3 ((mI (uI σ1 49 2 ((mI σ1 49 2) &&& x4)) 49 3) ||| x4) = σ4
        have hS6 : Sg t σ4 := by rw [← hm5]; exact hS2.uI.uI
        replace H := H σ4 hm5.symm
        refine e_aload_n d_31_93 rfl rfl ?_
        refine e_dup d_31_94 rfl rfl ?_
        refine e_getI d_31_95 oo_31 pF_3_42 (by decide) (hS6.k rfl) rfl ?_
        refine e_iload d_31_98 rfl rfl ?_
        refine e_iand d_31_100 rfl ?_
        refine e_putI d_31_101 oo_31 pF_3_42 (Or.inl rfl) (hS6.k rfl) rfl ?_
        generalize hm8 : uI σ4 49 4 ((mI σ4 49 4) &&& (x2 ^^^ (mI σ 54 x4.toNatClampNeg))) = σ7
        have hS9 : Sg t σ7 := by rw [← hm8]; exact hS6.uI
        replace H := H σ7 hm8.symm
        refine e_aload_n d_31_104 rfl rfl ?_
        refine e_dup d_31_105 rfl rfl ?_
        refine e_getI d_31_106 oo_31 pF_3_45 (by decide) (hS9.k rfl) rfl ?_
        refine e_iload d_31_109 rfl rfl ?_
        refine e_ior d_31_111 rfl ?_
        refine e_putI d_31_112 oo_31 pF_3_45 (Or.inl rfl) (hS9.k rfl) rfl ?_
        generalize hm11 : uI σ7 49 5 ((mI σ7 49 5) ||| (x2 ^^^ (mI σ 54 x4.toNatClampNeg))) = σ10
        have hS12 : Sg t σ10 := by rw [← hm11]; exact hS9.uI
        replace H := H σ10 hm11.symm
        refine e_iinc (ls2 := [.ref 49, .ref 53, .int x2, .int (x3 + 1), .int (x4 + 1), .int (x2 ^^^ (mI σ 54 x4.toNatClampNeg))]) d_31_115 rfl ci_1 rfl rfl rfl ?_
        refine e_goto (t := 29) d_31_118 (by decide) ?_
        exact H
/-! X3_isFitting -/
theorem b_32_0 {t : Nat} {σ : Mm} {w : Option Value × Mm} {x1 : Int32} {x2 : Int32} (hS : Sg t σ) 
    (H : ((x2 &&& (mI σ 49 6)) = (mI σ 49 6) → (((x2 &&& (mI σ 49 7)) = 0 → (((x1 &&& (mI σ 49 8)) = (mI σ 49 8) → (((x1 &&& (mI σ 49 9)) = 0 → (w = (some (.int 1), σ))) ∧ (¬ ((x1 &&& (mI σ 49 9)) = 0) → (w = (some (.int 0), σ))))) ∧ (¬ ((x1 &&& (mI σ 49 8)) = (mI σ 49 8)) → (w = (some (.int 0), σ))))) ∧ (¬ ((x2 &&& (mI σ 49 7)) = 0) → (w = (some (.int 0), σ))))) ∧ (¬ ((x2 &&& (mI σ 49 6)) = (mI σ 49 6)) → (w = (some (.int 0), σ)))) :
    Ev 32 0 [.ref 49, .int x1, .int x2] [] σ w := by
  refine e_iload_n d_32_0 rfl rfl ?_
  refine e_aload_n d_32_1 rfl rfl ?_
  refine e_getI d_32_2 oo_32 pF_3_58 (by decide) (hS.k rfl) rfl ?_
  refine e_iand d_32_5 rfl ?_
  refine e_aload_n d_32_6 rfl rfl ?_
  refine e_getI d_32_7 oo_32 pF_3_58 (by decide) (hS.k rfl) rfl ?_
  refine e_icmp_ne (t := 48) d_32_10 (by decide) rfl (fun hc => ?_) (fun hc => ?_)
  · replace H := H.2 hc
    refine e_iconst d_32_48 ci_0 rfl ?_
    subst H
    exact e_zret d_32_49 rr_32 (Or.inl rfl)
  · replace H := H.1 hc
    refine e_iload_n d_32_13 rfl rfl ?_
    refine e_aload_n d_32_14 rfl rfl ?_
    refine e_getI d_32_15 oo_32 pF_3_61 (by decide) (hS.k rfl) rfl ?_
    refine e_iand d_32_18 rfl ?_
    refine e_if_ne (t := 48) d_32_19 (by decide) rfl (fun hc => ?_) (fun hc => ?_)
    · replace H := H.2 hc
      refine e_iconst d_32_48 ci_0 rfl ?_
      subst H
      exact e_zret d_32_49 rr_32 (Or.inl rfl)
    · replace H := H.1 hc
      refine e_iload_n d_32_22 rfl rfl ?_
      refine e_aload_n d_32_23 rfl rfl ?_
      refine e_getI d_32_24 oo_32 pF_3_64 (by decide) (hS.k rfl) rfl ?_
      refine e_iand d_32_27 rfl ?_
      refine e_aload_n d_32_28 rfl rfl ?_
      refine e_getI d_32_29 oo_32 pF_3_64 (by decide) (hS.k rfl) rfl ?_
      refine e_icmp_ne (t := 48) d_32_32 (by decide) rfl (fun hc => ?_) (fun hc => ?_)
      · replace H := H.2 hc
        refine e_iconst d_32_48 ci_0 rfl ?_
        subst H
        exact e_zret d_32_49 rr_32 (Or.inl rfl)
      · replace H := H.1 hc
        refine e_iload_n d_32_35 rfl rfl ?_
        refine e_aload_n d_32_36 rfl rfl ?_
        refine e_getI d_32_37 oo_32 pF_3_67 (by decide) (hS.k rfl) rfl ?_
        refine e_iand d_32_40 rfl ?_
        refine e_if_ne (t := 48) d_32_41 (by decide) rfl (fun hc => ?_) (fun hc => ?_)
        · replace H := H.2 hc
          refine e_iconst d_32_48 ci_0 rfl ?_
          subst H
          exact e_zret d_32_49 rr_32 (Or.inl rfl)
        · replace H := H.1 hc
          refine e_iconst d_32_44 ci_1 rfl ?_
          refine e_goto (t := 49) d_32_45 (by decide) ?_
          subst H
          exact e_zret d_32_49 rr_32 (Or.inr rfl)
/-! X3_gatherKnown -/
theorem b_33_0 {t : Nat} {σ : Mm} {w : Option Value × Mm}  (hS : Sg t σ) 
    (H : ∀ (σ1 : Mm), σ1 = uI (uI (uI (uI σ 49 6 0) 49 7 0) 49 8 0) 49 9 0 → (∃ (v6 : Int32) (σ4 : Mm), Cl 30 [.ref 49] σ1 (some (.int v6), σ4) ∧ Sg t σ4 ∧ (∃ (v9 : Int32) (σ7 : Mm), Cl 280 [.int v6, .int 24] σ4 (some (.int v9), σ7) ∧ Sg t σ7 ∧ Ev 33 34 [.ref 49, .int 0, .int (v9 - 1)] [] σ7 w))) :
    Ev 33 0 [.ref 49, .retAddr 0, .retAddr 0] [] σ w := by
  refine e_aload_n d_33_0 rfl rfl ?_
  refine e_iconst d_33_1 ci_0 rfl ?_
  refine e_putI d_33_2 oo_33 pF_3_58 (Or.inl rfl) (hS.k rfl) rfl ?_
  refine e_aload_n d_33_5 rfl rfl ?_
  refine e_iconst d_33_6 ci_0 rfl ?_
  refine e_putI d_33_7 oo_33 pF_3_61 (Or.inl rfl) (hS.uI.k rfl) rfl ?_
  refine e_aload_n d_33_10 rfl rfl ?_
  refine e_iconst d_33_11 ci_0 rfl ?_
  refine e_putI d_33_12 oo_33 pF_3_64 (Or.inl rfl) (hS.uI.uI.k rfl) rfl ?_
  refine e_aload_n d_33_15 rfl rfl ?_
  refine e_iconst d_33_16 ci_0 rfl ?_
  refine e_putI d_33_17 oo_33 pF_3_67 (Or.inl rfl) (hS.uI.uI.uI.k rfl) rfl ?_
  generalize hm2 : uI (uI (uI (uI σ 49 6 0) 49 7 0) 49 8 0) 49 9 0 = σ1
  have hS3 : Sg t σ1 := by rw [← hm2]; exact hS.uI.uI.uI.uI
  replace H := H σ1 hm2.symm
  refine e_iconst d_33_20 ci_0 rfl ?_
  refine e_istore_n (ls2 := [.ref 49, .int 0, .retAddr 0]) d_33_21 rfl rfl rfl ?_
  refine e_aload_n d_33_22 rfl rfl ?_
  obtain ⟨v6, σ4, hcl, hS5, H⟩ := H
  refine e_vcall (w1 := (some (.int v6), σ4)) d_33_23 kc_33_23 rfl ⟨Nat.le_of_ble_eq_true rfl, xx_33.symm⟩ rfl hcl ?_
  show Ev 33 26 [.ref 49, .int 0, .retAddr 0] [.int v6] σ4 w
  refine e_bipush d_33_26 cb_24 rfl ?_
  obtain ⟨v9, σ7, hcl, hS8, H⟩ := H
  refine e_scall (w1 := (some (.int v9), σ7)) d_33_28 kc_33_28 rfl ⟨Nat.le_of_ble_eq_true rfl, xx_33.symm⟩ rfl hcl ?_
  show Ev 33 31 [.ref 49, .int 0, .retAddr 0] [.int v9] σ7 w
  refine e_iconst d_33_31 ci_1 rfl ?_
  refine e_isub d_33_32 rfl ?_
  refine e_istore_n (ls2 := [.ref 49, .int 0, .int (v9 - 1)]) d_33_33 rfl rfl rfl ?_
  exact H
theorem b_33_34 {t : Nat} {σ : Mm} {w : Option Value × Mm} {x1 : Int32} {x2 : Int32} (hS : Sg t σ) 
    (H : (x2 < 0 → (w = (none, σ))) ∧ (¬ (x2 < 0) → ((((x1 >>> (x2 &&& 31)) &&& 1) = 0 → (inb x2 24 = true ∧ (((mI σ 50 x2.toNatClampNeg) = 2 → (inb x2 24 = true ∧ Ev 33 34 [.ref 49, .int (x1 ||| ((1 : Int32) <<< ((mI σ 51 x2.toNatClampNeg) &&& 31))), .int (x2 + (-1))] [] σ w)) ∧ (¬ ((mI σ 50 x2.toNatClampNeg) = 2) → (inb x2 24 = true ∧ (inb x2 24 = true ∧ (inb x2 24 = true ∧ (∃ (σ1 : Mm), Cl 34 [.ref 49, .int (mI σ 50 x2.toNatClampNeg), .int ((1 : Int32) <<< ((mI σ 51 x2.toNatClampNeg) &&& 31)), .int (mI σ 52 x2.toNatClampNeg)] σ (none, σ1) ∧ Sg t σ1 ∧ Ev 33 34 [.ref 49, .int x1, .int (x2 + (-1))] [] σ1 w)))))))) ∧ (¬ (((x1 >>> (x2 &&& 31)) &&& 1) = 0) → Ev 33 34 [.ref 49, .int x1, .int (x2 + (-1))] [] σ w)))) :
    Ev 33 34 [.ref 49, .int x1, .int x2] [] σ w := by
  refine e_iload_n d_33_34 rfl rfl ?_
  refine e_if_lt (t := 100) d_33_35 (by decide) rfl (fun hc => ?_) (fun hc => ?_)
  · replace H := H.1 hc
    subst H
    exact e_vret d_33_100 rr_33
  · replace H := H.2 hc
    refine e_iload_n d_33_38 rfl rfl ?_
    refine e_iload_n d_33_39 rfl rfl ?_
    refine e_ishr d_33_40 rfl ?_
    refine e_iconst d_33_41 ci_1 rfl ?_
    refine e_iand d_33_42 rfl ?_
    refine e_if_ne (t := 94) d_33_43 (by decide) rfl (fun hc => ?_) (fun hc => ?_)
    · replace H := H.2 hc
      refine e_iinc (ls2 := [.ref 49, .int x1, .int (x2 + (-1))]) d_33_94 rfl ci_m1 rfl rfl rfl ?_
      refine e_goto (t := 34) d_33_97 (by decide) ?_
      exact H
    · replace H := H.1 hc
      refine e_aload_n d_33_46 rfl rfl ?_
      refine e_getR d_33_47 oo_33 pF_3_9 (by decide) (hS.k rfl) (hS.r rt_49_10) rfl ?_
      refine e_iload_n d_33_50 rfl rfl ?_
      obtain ⟨hb, H⟩ := H
      refine e_iaload (v := (mI σ 50 x2.toNatClampNeg)) d_33_51 (rdI_at (hS.k rfl) hb) rfl ?_
      refine e_iconst d_33_52 ci_2 rfl ?_
      refine e_icmp_ne (t := 70) d_33_53 (by decide) rfl (fun hc => ?_) (fun hc => ?_)
      · replace H := H.2 hc
        refine e_aload_n d_33_70 rfl rfl ?_
        refine e_aload_n d_33_71 rfl rfl ?_
        refine e_getR d_33_72 oo_33 pF_3_9 (by decide) (hS.k rfl) (hS.r rt_49_10) rfl ?_
        refine e_iload_n d_33_75 rfl rfl ?_
        obtain ⟨hb, H⟩ := H
        refine e_iaload (v := (mI σ 50 x2.toNatClampNeg)) d_33_76 (rdI_at (hS.k rfl) hb) rfl ?_
        refine e_iconst d_33_77 ci_1 rfl ?_
        refine e_aload_n d_33_78 rfl rfl ?_
        refine e_getR d_33_79 oo_33 pF_3_15 (by decide) (hS.k rfl) (hS.r rt_49_11) rfl ?_
        refine e_iload_n d_33_82 rfl rfl ?_
        obtain ⟨hb, H⟩ := H
        refine e_iaload (v := (mI σ 51 x2.toNatClampNeg)) d_33_83 (rdI_at (hS.k rfl) hb) rfl ?_
        refine e_ishl d_33_84 rfl ?_
        refine e_aload_n d_33_85 rfl rfl ?_
        refine e_getR d_33_86 oo_33 pF_3_18 (by decide) (hS.k rfl) (hS.r rt_49_12) rfl ?_
        refine e_iload_n d_33_89 rfl rfl ?_
        obtain ⟨hb, H⟩ := H
        refine e_baload (v := (mI σ 52 x2.toNatClampNeg)) d_33_90 (rdB_at (hS.k rfl) (Or.inr rfl) hb) rfl ?_
        obtain ⟨σ1, hcl, hS2, H⟩ := H
        refine e_vcall (w1 := (none, σ1)) d_33_91 kc_33_91 rfl ⟨Nat.le_of_ble_eq_true rfl, xx_33.symm⟩ rfl hcl ?_
        show Ev 33 94 [.ref 49, .int x1, .int x2] [] σ1 w
        refine e_iinc (ls2 := [.ref 49, .int x1, .int (x2 + (-1))]) d_33_94 rfl ci_m1 rfl rfl rfl ?_
        refine e_goto (t := 34) d_33_97 (by decide) ?_
        exact H
      · replace H := H.1 hc
        refine e_iload_n d_33_56 rfl rfl ?_
        refine e_iconst d_33_57 ci_1 rfl ?_
        refine e_aload_n d_33_58 rfl rfl ?_
        refine e_getR d_33_59 oo_33 pF_3_15 (by decide) (hS.k rfl) (hS.r rt_49_11) rfl ?_
        refine e_iload_n d_33_62 rfl rfl ?_
        obtain ⟨hb, H⟩ := H
        refine e_iaload (v := (mI σ 51 x2.toNatClampNeg)) d_33_63 (rdI_at (hS.k rfl) hb) rfl ?_
        refine e_ishl d_33_64 rfl ?_
        refine e_ior d_33_65 rfl ?_
        refine e_istore_n (ls2 := [.ref 49, .int (x1 ||| ((1 : Int32) <<< ((mI σ 51 x2.toNatClampNeg) &&& 31))), .int x2]) d_33_66 rfl rfl rfl ?_
        refine e_goto (t := 94) d_33_67 (by decide) ?_
        refine e_iinc (ls2 := [.ref 49, .int (x1 ||| ((1 : Int32) <<< ((mI σ 51 x2.toNatClampNeg) &&& 31))), .int (x2 + (-1))]) d_33_94 rfl ci_m1 rfl rfl rfl ?_
        refine e_goto (t := 34) d_33_97 (by decide) ?_
        exact H
/-! X3_gatherOne -/
theorem b_34_0 {t : Nat} {σ : Mm} {w : Option Value × Mm} {x1 : Int32} {x2 : Int32} {x3 : Int32} (hS : Sg t σ) 
    (H : (x1 = 0 → ((x3 = 0 → Ev 34 21 [.ref 49, .int x1, .int x2, .int x3] [] σ w) ∧ (¬ (x3 = 0) → (w = (none, uI σ 49 6 ((mI σ 49 6) ||| x2)))))) ∧ (¬ (x1 = 0) → Ev 34 21 [.ref 49, .int x1, .int x2, .int x3] [] σ w)) :
    Ev 34 0 [.ref 49, .int x1, .int x2, .int x3] [] σ w := by
  refine e_iload_n d_34_0 rfl rfl ?_
  refine e_if_ne (t := 21) d_34_1 (by decide) rfl (fun hc => ?_) (fun hc => ?_)
  · replace H := H.2 hc
    exact H
  · replace H := H.1 hc
    refine e_iload_n d_34_4 rfl rfl ?_
    refine e_if_eq (t := 21) d_34_5 (by decide) rfl (fun hc => ?_) (fun hc => ?_)
    · replace H := H.1 hc
      exact H
    · replace H := H.2 hc
      refine e_aload_n d_34_8 rfl rfl ?_
      refine e_dup d_34_9 rfl rfl ?_
      refine e_getI d_34_10 oo_34 pF_3_58 (by decide) (hS.k rfl) rfl ?_
      refine e_iload_n d_34_13 rfl rfl ?_
      refine e_ior d_34_14 rfl ?_
      refine e_putI d_34_15 oo_34 pF_3_58 (Or.inl rfl) (hS.k rfl) rfl ?_
      refine e_goto (t := 70) d_34_18 (by decide) ?_
      subst H
      exact e_vret d_34_70 rr_34
theorem b_34_21 {t : Nat} {σ : Mm} {w : Option Value × Mm} {x1 : Int32} {x2 : Int32} {x3 : Int32} (hS : Sg t σ) 
    (H : (x1 = 0 → (w = (none, uI σ 49 7 ((mI σ 49 7) ||| x2)))) ∧ (¬ (x1 = 0) → ((x1 = 1 → ((x3 = 0 → (w = (none, uI σ 49 9 ((mI σ 49 9) ||| x2)))) ∧ (¬ (x3 = 0) → (w = (none, uI σ 49 8 ((mI σ 49 8) ||| x2)))))) ∧ (¬ (x1 = 1) → (w = (none, uI σ 49 9 ((mI σ 49 9) ||| x2))))))) :
    Ev 34 21 [.ref 49, .int x1, .int x2, .int x3] [] σ w := by
  refine e_iload_n d_34_21 rfl rfl ?_
  refine e_if_ne (t := 38) d_34_22 (by decide) rfl (fun hc => ?_) (fun hc => ?_)
  · replace H := H.2 hc
    refine e_iload_n d_34_38 rfl rfl ?_
    refine e_iconst d_34_39 ci_1 rfl ?_
    refine e_icmp_ne (t := 60) d_34_40 (by decide) rfl (fun hc => ?_) (fun hc => ?_)
    · replace H := H.2 hc
      refine e_aload_n d_34_60 rfl rfl ?_
      refine e_dup d_34_61 rfl rfl ?_
      refine e_getI d_34_62 oo_34 pF_3_67 (by decide) (hS.k rfl) rfl ?_
      refine e_iload_n d_34_65 rfl rfl ?_
      refine e_ior d_34_66 rfl ?_
      refine e_putI d_34_67 oo_34 pF_3_67 (Or.inl rfl) (hS.k rfl) rfl ?_
      subst H
      exact e_vret d_34_70 rr_34
    · replace H := H.1 hc
      refine e_iload_n d_34_43 rfl rfl ?_
      refine e_if_eq (t := 60) d_34_44 (by decide) rfl (fun hc => ?_) (fun hc => ?_)
      · replace H := H.1 hc
        refine e_aload_n d_34_60 rfl rfl ?_
        refine e_dup d_34_61 rfl rfl ?_
        refine e_getI d_34_62 oo_34 pF_3_67 (by decide) (hS.k rfl) rfl ?_
        refine e_iload_n d_34_65 rfl rfl ?_
        refine e_ior d_34_66 rfl ?_
        refine e_putI d_34_67 oo_34 pF_3_67 (Or.inl rfl) (hS.k rfl) rfl ?_
        subst H
        exact e_vret d_34_70 rr_34
      · replace H := H.2 hc
        refine e_aload_n d_34_47 rfl rfl ?_
        refine e_dup d_34_48 rfl rfl ?_
        refine e_getI d_34_49 oo_34 pF_3_64 (by decide) (hS.k rfl) rfl ?_
        refine e_iload_n d_34_52 rfl rfl ?_
        refine e_ior d_34_53 rfl ?_
        refine e_putI d_34_54 oo_34 pF_3_64 (Or.inl rfl) (hS.k rfl) rfl ?_
        refine e_goto (t := 70) d_34_57 (by decide) ?_
        subst H
        exact e_vret d_34_70 rr_34
  · replace H := H.1 hc
    refine e_aload_n d_34_25 rfl rfl ?_
    refine e_dup d_34_26 rfl rfl ?_
    refine e_getI d_34_27 oo_34 pF_3_61 (by decide) (hS.k rfl) rfl ?_
    refine e_iload_n d_34_30 rfl rfl ?_
    refine e_ior d_34_31 rfl ?_
    refine e_putI d_34_32 oo_34 pF_3_61 (Or.inl rfl) (hS.k rfl) rfl ?_
    refine e_goto (t := 70) d_34_35 (by decide) ?_
    subst H
    exact e_vret d_34_70 rr_34
