/-! X8_feed -/
theorem b_101_0 {t : Nat} {σ : Mm} {w : Option Value × Mm} {x1 : Int32} {x2 : Int32} {x3 : Int32} {x4 : Int32} {x5 : Int32} (hS : Sg t σ) 
    (H : (700 < ((mI σ 1 2) + 20) → (w = (some (.int (-1)), σ))) ∧ (¬ (700 < ((mI σ 1 2) + 20)) → (∃ (σ1 : Mm), Cl 36 [.ref 1, .int x1] σ (none, σ1) ∧ Sg t σ1 ∧ (∃ (σ4 : Mm), Cl 36 [.ref 1, .int x2] σ1 (none, σ4) ∧ Sg t σ4 ∧ (∃ (σ7 : Mm), Cl 36 [.ref 1, .int x3] σ4 (none, σ7) ∧ Sg t σ7 ∧ (∃ (σ10 : Mm), Cl 36 [.ref 1, .int x4] σ7 (none, σ10) ∧ Sg t σ10 ∧ (∃ (σ13 : Mm), Cl 36 [.ref 1, .int x5] σ10 (none, σ13) ∧ Sg t σ13 ∧ (w = (some (.int (mI σ13 1 2)), σ13))))))))) :
    Ev 101 0 [.ref 0, .int x1, .int x2, .int x3, .int x4, .int x5] [] σ w := by
  refine e_aload_n d_101_0 rfl rfl ?_
  refine e_getR d_101_1 oo_101 pF_8_14 (by decide) (hS.k rfl) (hS.r rt_0_0) rfl ?_
  refine e_getI d_101_4 oo_101 pF_8_77 (by decide) (hS.k rfl) rfl ?_
  refine e_bipush d_101_7 cb_20 rfl ?_
  refine e_iadd d_101_9 rfl ?_
  refine e_sipush d_101_10 cs_700 rfl ?_
  refine e_icmp_le (t := 18) d_101_13 (by decide) rfl (fun hc => ?_) (fun hc => ?_)
  · replace H := H.2 hc
    refine e_aload_n d_101_18 rfl rfl ?_
    refine e_getR d_101_19 oo_101 pF_8_14 (by decide) (hS.k rfl) (hS.r rt_0_0) rfl ?_
    refine e_iload_n d_101_22 rfl rfl ?_
    obtain ⟨σ1, hcl, hS2, H⟩ := H
    refine e_vcall (w1 := (none, σ1)) d_101_23 kc_101_23 rfl ⟨Nat.le_of_ble_eq_true rfl, xx_101.symm⟩ rfl hcl ?_
    show Ev 101 26 [.ref 0, .int x1, .int x2, .int x3, .int x4, .int x5] [] σ1 w
    refine e_aload_n d_101_26 rfl rfl ?_
    refine e_getR d_101_27 oo_101 pF_8_14 (by decide) (hS2.k rfl) (hS2.r rt_0_0) rfl ?_
    refine e_iload_n d_101_30 rfl rfl ?_
    obtain ⟨σ4, hcl, hS5, H⟩ := H
    refine e_vcall (w1 := (none, σ4)) d_101_31 kc_101_31 rfl ⟨Nat.le_of_ble_eq_true rfl, xx_101.symm⟩ rfl hcl ?_
    show Ev 101 34 [.ref 0, .int x1, .int x2, .int x3, .int x4, .int x5] [] σ4 w
    refine e_aload_n d_101_34 rfl rfl ?_
    refine e_getR d_101_35 oo_101 pF_8_14 (by decide) (hS5.k rfl) (hS5.r rt_0_0) rfl ?_
    refine e_iload_n d_101_38 rfl rfl ?_
    obtain ⟨σ7, hcl, hS8, H⟩ := H
    refine e_vcall (w1 := (none, σ7)) d_101_39 kc_101_39 rfl ⟨Nat.le_of_ble_eq_true rfl, xx_101.symm⟩ rfl hcl ?_
    show Ev 101 42 [.ref 0, .int x1, .int x2, .int x3, .int x4, .int x5] [] σ7 w
    refine e_aload_n d_101_42 rfl rfl ?_
    refine e_getR d_101_43 oo_101 pF_8_14 (by decide) (hS8.k rfl) (hS8.r rt_0_0) rfl ?_
    refine e_iload d_101_46 rfl rfl ?_
    obtain ⟨σ10, hcl, hS11, H⟩ := H
    refine e_vcall (w1 := (none, σ10)) d_101_48 kc_101_48 rfl ⟨Nat.le_of_ble_eq_true rfl, xx_101.symm⟩ rfl hcl ?_
    show Ev 101 51 [.ref 0, .int x1, .int x2, .int x3, .int x4, .int x5] [] σ10 w
    refine e_aload_n d_101_51 rfl rfl ?_
    refine e_getR d_101_52 oo_101 pF_8_14 (by decide) (hS11.k rfl) (hS11.r rt_0_0) rfl ?_
    refine e_iload d_101_55 rfl rfl ?_
    obtain ⟨σ13, hcl, hS14, H⟩ := H
    refine e_vcall (w1 := (none, σ13)) d_101_57 kc_101_57 rfl ⟨Nat.le_of_ble_eq_true rfl, xx_101.symm⟩ rfl hcl ?_
    show Ev 101 60 [.ref 0, .int x1, .int x2, .int x3, .int x4, .int x5] [] σ13 w
    refine e_aload_n d_101_60 rfl rfl ?_
    refine e_getR d_101_61 oo_101 pF_8_14 (by decide) (hS14.k rfl) (hS14.r rt_0_0) rfl ?_
    refine e_getI d_101_64 oo_101 pF_8_77 (by decide) (hS14.k rfl) rfl ?_
    subst H
    exact e_iret d_101_67 rr_101
  · replace H := H.1 hc
    refine e_iconst d_101_16 ci_m1 rfl ?_
    subst H
    exact e_iret d_101_17 rr_101
/-! X8_text -/
theorem b_102_0 {t : Nat} {σ : Mm} {w : Option Value × Mm} {x1 : Int32} (hS : Sg t σ) 
    (H : (x1 < 0 → (w = (some (.int (-2)), σ))) ∧ (¬ (x1 < 0) → (((mI σ 1 2) < x1 → (w = (some (.int (-2)), σ))) ∧ (¬ ((mI σ 1 2) < x1) → (∃ (σ1 : Mm), Cl 38 [.ref 1, .int x1] σ (none, σ1) ∧ Sg t σ1 ∧ Ev 102 28 [.ref 0, .int x1, .int 0] [] σ1 w))))) :
    Ev 102 0 [.ref 0, .int x1, .retAddr 0] [] σ w := by
  refine e_iload_n d_102_0 rfl rfl ?_
  refine e_if_lt (t := 15) d_102_1 (by decide) rfl (fun hc => ?_) (fun hc => ?_)
  · replace H := H.1 hc
    refine e_bipush d_102_15 cb_m2 rfl ?_
    subst H
    exact e_iret d_102_17 rr_102
  · replace H := H.2 hc
    refine e_iload_n d_102_4 rfl rfl ?_
    refine e_aload_n d_102_5 rfl rfl ?_
    refine e_getR d_102_6 oo_102 pF_8_14 (by decide) (hS.k rfl) (hS.r rt_0_0) rfl ?_
    refine e_getI d_102_9 oo_102 pF_8_77 (by decide) (hS.k rfl) rfl ?_
    refine e_icmp_le (t := 18) d_102_12 (by decide) rfl (fun hc => ?_) (fun hc => ?_)
    · replace H := H.2 hc
      refine e_aload_n d_102_18 rfl rfl ?_
      refine e_getR d_102_19 oo_102 pF_8_14 (by decide) (hS.k rfl) (hS.r rt_0_0) rfl ?_
      refine e_iload_n d_102_22 rfl rfl ?_
      obtain ⟨σ1, hcl, hS2, H⟩ := H
      refine e_vcall (w1 := (none, σ1)) d_102_23 kc_102_23 rfl ⟨Nat.le_of_ble_eq_true rfl, xx_102.symm⟩ rfl hcl ?_
      show Ev 102 26 [.ref 0, .int x1, .retAddr 0] [] σ1 w
      refine e_iconst d_102_26 ci_0 rfl ?_
      refine e_istore_n (ls2 := [.ref 0, .int x1, .int 0]) d_102_27 rfl rfl rfl ?_
      exact H
    · replace H := H.1 hc
      refine e_bipush d_102_15 cb_m2 rfl ?_
      subst H
      exact e_iret d_102_17 rr_102
theorem b_102_28 {t : Nat} {σ : Mm} {w : Option Value × Mm} {x1 : Int32} {x2 : Int32} (hS : Sg t σ) 
    (H : (x1 < x2 → (((mI σ 1 0) = 0 → Ev 102 71 [.ref 0, .int x1, .int x2] [] σ w) ∧ (¬ ((mI σ 1 0) = 0) → (w = (some (.int (-1)), σ))))) ∧ (¬ (x1 < x2) → (∃ (v3 : Int32) (σ1 : Mm), Cl 39 [.ref 1] σ (some (.int v3), σ1) ∧ Sg t σ1 ∧ ((v3 = 0 → (((mI σ1 1 0) = 0 → Ev 102 71 [.ref 0, .int x1, .int x2] [] σ1 w) ∧ (¬ ((mI σ1 1 0) = 0) → (w = (some (.int (-1)), σ1))))) ∧ (¬ (v3 = 0) → (∃ (v6 : Int32) (σ4 : Mm), Cl 51 [.ref 1] σ1 (some (.int v6), σ4) ∧ Sg t σ4 ∧ ((v6 = 0 → (((mI σ4 1 0) = 0 → Ev 102 71 [.ref 0, .int x1, .int x2] [] σ4 w) ∧ (¬ ((mI σ4 1 0) = 0) → (w = (some (.int (-1)), σ4))))) ∧ (¬ (v6 = 0) → Ev 102 28 [.ref 0, .int x1, .int (x2 + 1)] [] σ4 w)))))))) :
    Ev 102 28 [.ref 0, .int x1, .int x2] [] σ w := by
  refine e_iload_n d_102_28 rfl rfl ?_
  refine e_iload_n d_102_29 rfl rfl ?_
  refine e_icmp_gt (t := 59) d_102_30 (by decide) rfl (fun hc => ?_) (fun hc => ?_)
  · replace H := H.1 hc
    refine e_aload_n d_102_59 rfl rfl ?_
    refine e_getR d_102_60 oo_102 pF_8_14 (by decide) (hS.k rfl) (hS.r rt_0_0) rfl ?_
    refine e_getI d_102_63 oo_102 pF_8_95 (by decide) (hS.k rfl) rfl ?_
    refine e_if_eq (t := 71) d_102_66 (by decide) rfl (fun hc => ?_) (fun hc => ?_)
    · replace H := H.1 hc
      exact H
    · replace H := H.2 hc
      refine e_iconst d_102_69 ci_m1 rfl ?_
      subst H
      exact e_iret d_102_70 rr_102
  · replace H := H.2 hc
    refine e_aload_n d_102_33 rfl rfl ?_
    refine e_getR d_102_34 oo_102 pF_8_14 (by decide) (hS.k rfl) (hS.r rt_0_0) rfl ?_
    obtain ⟨v3, σ1, hcl, hS2, H⟩ := H
    refine e_vcall (w1 := (some (.int v3), σ1)) d_102_37 kc_102_37 rfl ⟨Nat.le_of_ble_eq_true rfl, xx_102.symm⟩ rfl hcl ?_
    show Ev 102 40 [.ref 0, .int x1, .int x2] [.int v3] σ1 w
    refine e_if_eq (t := 59) d_102_40 (by decide) rfl (fun hc => ?_) (fun hc => ?_)
    · replace H := H.1 hc
      refine e_aload_n d_102_59 rfl rfl ?_
      refine e_getR d_102_60 oo_102 pF_8_14 (by decide) (hS2.k rfl) (hS2.r rt_0_0) rfl ?_
      refine e_getI d_102_63 oo_102 pF_8_95 (by decide) (hS2.k rfl) rfl ?_
      refine e_if_eq (t := 71) d_102_66 (by decide) rfl (fun hc => ?_) (fun hc => ?_)
      · replace H := H.1 hc
        exact H
      · replace H := H.2 hc
        refine e_iconst d_102_69 ci_m1 rfl ?_
        subst H
        exact e_iret d_102_70 rr_102
    · replace H := H.2 hc
      refine e_aload_n d_102_43 rfl rfl ?_
      refine e_getR d_102_44 oo_102 pF_8_14 (by decide) (hS2.k rfl) (hS2.r rt_0_0) rfl ?_
      obtain ⟨v6, σ4, hcl, hS5, H⟩ := H
      refine e_vcall (w1 := (some (.int v6), σ4)) d_102_47 kc_102_47 rfl ⟨Nat.le_of_ble_eq_true rfl, xx_102.symm⟩ rfl hcl ?_
      show Ev 102 50 [.ref 0, .int x1, .int x2] [.int v6] σ4 w
      refine e_if_eq (t := 59) d_102_50 (by decide) rfl (fun hc => ?_) (fun hc => ?_)
      · replace H := H.1 hc
        refine e_aload_n d_102_59 rfl rfl ?_
        refine e_getR d_102_60 oo_102 pF_8_14 (by decide) (hS5.k rfl) (hS5.r rt_0_0) rfl ?_
        refine e_getI d_102_63 oo_102 pF_8_95 (by decide) (hS5.k rfl) rfl ?_
        refine e_if_eq (t := 71) d_102_66 (by decide) rfl (fun hc => ?_) (fun hc => ?_)
        · replace H := H.1 hc
          exact H
        · replace H := H.2 hc
          refine e_iconst d_102_69 ci_m1 rfl ?_
          subst H
          exact e_iret d_102_70 rr_102
      · replace H := H.2 hc
        refine e_iinc (ls2 := [.ref 0, .int x1, .int (x2 + 1)]) d_102_53 rfl ci_1 rfl rfl rfl ?_
        refine e_goto (t := 28) d_102_56 (by decide) ?_
        exact H
theorem b_102_86 {t : Nat} {σ : Mm} {w : Option Value × Mm} {x1 : Int32} {x2 : Int32} (hS : Sg t σ) 
    (H : ∃ (σ1 : Mm), Cl 18 [.ref 26, .ref t] σ (none, σ1) ∧ Sg t σ1 ∧ (∃ (σ4 : Mm), Cl 27 [.ref 49] σ1 (none, σ4) ∧ Sg t σ4 ∧ (∃ (σ7 : Mm), Cl 97 [.ref 41] σ4 (none, σ7) ∧ Sg t σ7 ∧ (w = (some (.int x2), uI σ7 0 5 0))))) :
    Ev 102 86 [.ref 0, .int x1, .int x2] [] σ w := by
  refine e_aload_n d_102_86 rfl rfl ?_
  refine e_getR d_102_87 oo_102 pF_8_28 (by decide) (hS.k rfl) (hS.r rt_0_2) rfl ?_
  refine e_aload_n d_102_90 rfl rfl ?_
  refine e_getR d_102_91 oo_102 pF_8_21 (by decide) (hS.k rfl) hS.told rfl ?_
  obtain ⟨σ1, hcl, hS2, H⟩ := H
  refine e_vcall (w1 := (none, σ1)) d_102_94 kc_102_94 rfl ⟨Nat.le_of_ble_eq_true rfl, xx_102.symm⟩ rfl hcl ?_
  show Ev 102 97 [.ref 0, .int x1, .int x2] [] σ1 w
  refine e_aload_n d_102_97 rfl rfl ?_
  refine e_getR d_102_98 oo_102 pF_8_55 (by decide) (hS2.k rfl) (hS2.r rt_0_8) rfl ?_
  obtain ⟨σ4, hcl, hS5, H⟩ := H
  refine e_vcall (w1 := (none, σ4)) d_102_101 kc_102_101 rfl ⟨Nat.le_of_ble_eq_true rfl, xx_102.symm⟩ rfl hcl ?_
  show Ev 102 104 [.ref 0, .int x1, .int x2] [] σ4 w
  refine e_aload_n d_102_104 rfl rfl ?_
  refine e_getR d_102_105 oo_102 pF_8_48 (by decide) (hS5.k rfl) (hS5.r rt_0_7) rfl ?_
  obtain ⟨σ7, hcl, hS8, H⟩ := H
  refine e_vcall (w1 := (none, σ7)) d_102_108 kc_102_108 rfl ⟨Nat.le_of_ble_eq_true rfl, xx_102.symm⟩ rfl hcl ?_
  show Ev 102 111 [.ref 0, .int x1, .int x2] [] σ7 w
  refine e_aload_n d_102_111 rfl rfl ?_
  refine e_iconst d_102_112 ci_0 rfl ?_
  refine e_putZ d_102_113 oo_102 pF_8_73 (Or.inl rfl) (hS8.k rfl) (Or.inl rfl) rfl ?_
  refine e_iload_n d_102_116 rfl rfl ?_
  subst H
  exact e_iret d_102_117 rr_102
/-! X8_fault -/
theorem b_103_0 {t : Nat} {σ : Mm} {w : Option Value × Mm} {x1 : Int32} (hS : Sg t σ) 
    (H : (x1 = 0 → (w = (some (.int (mI σ 1 0)), σ))) ∧ (x1 = 1 → (w = (some (.int (mI σ 1 1)), σ))) ∧ ((¬ x1 = 0 ∧ ¬ x1 = 1) → (w = (some (.int (-1)), σ)))) :
    Ev 103 0 [.ref 0, .int x1] [] σ w := by
  refine e_iload_n d_103_0 rfl rfl ?_
  by_cases hs0 : x1 = 0
  · replace H := H.1 hs0
    refine e_lookup (off := 27) (t := 28) d_103_1 (by decide) (by rw [hs0]; decide +kernel) (by decide) ?_
    refine e_aload_n d_103_28 rfl rfl ?_
    refine e_getR d_103_29 oo_103 pF_8_14 (by decide) (hS.k rfl) (hS.r rt_0_0) rfl ?_
    refine e_getI d_103_32 oo_103 pF_8_95 (by decide) (hS.k rfl) rfl ?_
    subst H
    exact e_iret d_103_35 rr_103
  by_cases hs1 : x1 = 1
  · replace H := H.2.1 hs1
    refine e_lookup (off := 35) (t := 36) d_103_1 (by decide) (by rw [hs1]; decide +kernel) (by decide) ?_
    refine e_aload_n d_103_36 rfl rfl ?_
    refine e_getR d_103_37 oo_103 pF_8_14 (by decide) (hS.k rfl) (hS.r rt_0_0) rfl ?_
    refine e_getI d_103_40 oo_103 pF_8_109 (by decide) (hS.k rfl) rfl ?_
    subst H
    exact e_iret d_103_43 rr_103
  replace H := H.2.2 ⟨hs0, hs1⟩
  refine e_lookup (off := 43) (t := 44) d_103_1 (by decide) (sw_103_1 hs0 hs1) (by decide) ?_
  refine e_iconst d_103_44 ci_m1 rfl ?_
  subst H
  exact e_iret d_103_45 rr_103
/-! X8_named -/
theorem b_104_0 {t : Nat} {σ : Mm} {w : Option Value × Mm} {x1 : Int32} {x2 : Int32} (hS : Sg t σ) 
    (H : (x1 = 0 → (∃ (v3 : Int32) (σ1 : Mm), Cl 89 [.ref t, .int x2] σ (some (.int v3), σ1) ∧ Sg t σ1 ∧ (w = (some (.int v3), σ1)))) ∧ (x1 = 1 → (∃ (v6 : Int32) (σ4 : Mm), Cl 90 [.ref t, .int x2] σ (some (.int v6), σ4) ∧ Sg t σ4 ∧ (w = (some (.int v6), σ4)))) ∧ ((¬ x1 = 0 ∧ ¬ x1 = 1) → (w = (some (.int (-1)), σ)))) :
    Ev 104 0 [.ref 0, .int x1, .int x2] [] σ w := by
  refine e_iload_n d_104_0 rfl rfl ?_
  by_cases hs0 : x1 = 0
  · replace H := H.1 hs0
    refine e_lookup (off := 27) (t := 28) d_104_1 (by decide) (by rw [hs0]; decide +kernel) (by decide) ?_
    refine e_aload_n d_104_28 rfl rfl ?_
    refine e_getR d_104_29 oo_104 pF_8_21 (by decide) (hS.k rfl) hS.told rfl ?_
    refine e_iload_n d_104_32 rfl rfl ?_
    obtain ⟨v3, σ1, hcl, hS2, H⟩ := H
    refine e_vcall (w1 := (some (.int v3), σ1)) d_104_33 kc_104_33 rfl ⟨Nat.le_of_ble_eq_true rfl, xx_104.symm⟩ rfl hcl ?_
    show Ev 104 36 [.ref 0, .int x1, .int x2] [.int v3] σ1 w
    subst H
    exact e_iret d_104_36 rr_104
  by_cases hs1 : x1 = 1
  · replace H := H.2.1 hs1
    refine e_lookup (off := 36) (t := 37) d_104_1 (by decide) (by rw [hs1]; decide +kernel) (by decide) ?_
    refine e_aload_n d_104_37 rfl rfl ?_
    refine e_getR d_104_38 oo_104 pF_8_21 (by decide) (hS.k rfl) hS.told rfl ?_
    refine e_iload_n d_104_41 rfl rfl ?_
    obtain ⟨v6, σ4, hcl, hS5, H⟩ := H
    refine e_vcall (w1 := (some (.int v6), σ4)) d_104_42 kc_104_42 rfl ⟨Nat.le_of_ble_eq_true rfl, xx_104.symm⟩ rfl hcl ?_
    show Ev 104 45 [.ref 0, .int x1, .int x2] [.int v6] σ4 w
    subst H
    exact e_iret d_104_45 rr_104
  replace H := H.2.2 ⟨hs0, hs1⟩
  refine e_lookup (off := 45) (t := 46) d_104_1 (by decide) (sw_104_1 hs0 hs1) (by decide) ?_
  refine e_iconst d_104_46 ci_m1 rfl ?_
  subst H
  exact e_iret d_104_47 rr_104
/-! X8_pull -/
theorem b_105_0 {t : Nat} {σ : Mm} {w : Option Value × Mm} {x1 : Int32} {x2 : Int32} (hS : Sg t σ) 
    (H : ∃ (v3 : Int32) (σ1 : Mm), Cl 143 [.ref 0, .int x1] σ (some (.int v3), σ1) ∧ Sg t σ1 ∧ ((v3 = 0 → (w = (some (.int (-1)), σ1))) ∧ (¬ (v3 = 0) → ((x2 = 0 → (inb x1 10 = true ∧ (w = (some (.int (mI σ1 (t + 3) x1.toNatClampNeg)), σ1)))) ∧ (x2 = 1 → (w = (some (.int (((mI σ1 26 3) >>> (x1 &&& 31)) &&& 1)), σ1))) ∧ (x2 = 2 → (inb x1 10 = true ∧ (w = (some (.int (mI σ1 29 x1.toNatClampNeg)), σ1)))) ∧ (x2 = 3 → (inb x1 10 = true ∧ (w = (some (.int (mI σ1 28 x1.toNatClampNeg)), σ1)))) ∧ ((¬ x2 = 0 ∧ ¬ x2 = 1 ∧ ¬ x2 = 2 ∧ ¬ x2 = 3) → (w = (some (.int (-1)), σ1))))))) :
    Ev 105 0 [.ref 0, .int x1, .int x2] [] σ w := by
  refine e_aload_n d_105_0 rfl rfl ?_
  refine e_iload_n d_105_1 rfl rfl ?_
  obtain ⟨v3, σ1, hcl, hS2, H⟩ := H
  refine e_vcall (w1 := (some (.int v3), σ1)) d_105_2 kc_105_2 rfl ⟨Nat.le_of_ble_eq_true rfl, xx_105.symm⟩ rfl hcl ?_
  show Ev 105 5 [.ref 0, .int x1, .int x2] [.int v3] σ1 w
  refine e_if_ne (t := 10) d_105_5 (by decide) rfl (fun hc => ?_) (fun hc => ?_)
  · replace H := H.2 hc
    refine e_iload_n d_105_10 rfl rfl ?_
    by_cases hs0 : x2 = 0
    · replace H := H.1 hs0
      refine e_table (off := 29) (t := 40) d_105_11 (by rw [hs0]; decide +kernel) (by decide) ?_
      refine e_aload_n d_105_40 rfl rfl ?_
      refine e_getR d_105_41 oo_105 pF_8_21 (by decide) (hS2.k rfl) hS2.told rfl ?_
      refine e_getR d_105_44 oo_105 pF_8_151 (by decide) (hS2.k (kT hS.tt)) (hS2.rT10 hS.tt) rfl ?_
      refine e_iload_n d_105_47 rfl rfl ?_
      obtain ⟨hb, H⟩ := H
      refine e_iaload (v := (mI σ1 (t + 3) x1.toNatClampNeg)) d_105_48 (rdI_at (hS2.k (kT3 hS.tt)) hb) rfl ?_
      subst H
      exact e_iret d_105_49 rr_105
    by_cases hs1 : x2 = 1
    · replace H := H.2.1 hs1
      refine e_table (off := 39) (t := 50) d_105_11 (by rw [hs1]; decide +kernel) (by decide) ?_
      refine e_aload_n d_105_50 rfl rfl ?_
      refine e_getR d_105_51 oo_105 pF_8_28 (by decide) (hS2.k rfl) (hS2.r rt_0_2) rfl ?_
      refine e_getI d_105_54 oo_105 pF_8_154 (by decide) (hS2.k rfl) rfl ?_
      refine e_iload_n d_105_57 rfl rfl ?_
      refine e_ishr d_105_58 rfl ?_
      refine e_iconst d_105_59 ci_1 rfl ?_
      refine e_iand d_105_60 rfl ?_
      subst H
      exact e_iret d_105_61 rr_105
    by_cases hs2 : x2 = 2
    · replace H := H.2.2.1 hs2
      refine e_table (off := 51) (t := 62) d_105_11 (by rw [hs2]; decide +kernel) (by decide) ?_
      refine e_aload_n d_105_62 rfl rfl ?_
      refine e_getR d_105_63 oo_105 pF_8_28 (by decide) (hS2.k rfl) (hS2.r rt_0_2) rfl ?_
      refine e_getR d_105_66 oo_105 pF_8_157 (by decide) (hS2.k rfl) (hS2.r rt_26_9) rfl ?_
      refine e_iload_n d_105_69 rfl rfl ?_
      obtain ⟨hb, H⟩ := H
      refine e_iaload (v := (mI σ1 29 x1.toNatClampNeg)) d_105_70 (rdI_at (hS2.k rfl) hb) rfl ?_
      subst H
      exact e_iret d_105_71 rr_105
    by_cases hs3 : x2 = 3
    · replace H := H.2.2.2.1 hs3
      refine e_table (off := 61) (t := 72) d_105_11 (by rw [hs3]; decide +kernel) (by decide) ?_
      refine e_aload_n d_105_72 rfl rfl ?_
      refine e_getR d_105_73 oo_105 pF_8_28 (by decide) (hS2.k rfl) (hS2.r rt_0_2) rfl ?_
      refine e_getR d_105_76 oo_105 pF_8_160 (by decide) (hS2.k rfl) (hS2.r rt_26_8) rfl ?_
      refine e_iload_n d_105_79 rfl rfl ?_
      obtain ⟨hb, H⟩ := H
      refine e_iaload (v := (mI σ1 28 x1.toNatClampNeg)) d_105_80 (rdI_at (hS2.k rfl) hb) rfl ?_
      subst H
      exact e_iret d_105_81 rr_105
    replace H := H.2.2.2.2 ⟨hs0, hs1, hs2, hs3⟩
    refine e_table (off := 71) (t := 82) d_105_11 (sw_105_11 hs0 hs1 hs2 hs3) (by decide) ?_
    refine e_iconst d_105_82 ci_m1 rfl ?_
    subst H
    exact e_iret d_105_83 rr_105
  · replace H := H.1 hc
    refine e_iconst d_105_8 ci_m1 rfl ?_
    subst H
    exact e_iret d_105_9 rr_105
/-! X8_evening -/
theorem b_106_0 {t : Nat} {σ : Mm} {w : Option Value × Mm} {x1 : Int32} (hS : Sg t σ) 
    (H : (x1 = 0 → (∃ (v3 : Int32) (σ1 : Mm), Cl 20 [.ref 26] σ (some (.int v3), σ1) ∧ Sg t σ1 ∧ (w = (some (.int v3), σ1)))) ∧ (x1 = 1 → (w = (some (.int (mI σ 26 1)), σ))) ∧ (x1 = 2 → (w = (some (.int (mI σ 26 2)), σ))) ∧ ((¬ x1 = 0 ∧ ¬ x1 = 1 ∧ ¬ x1 = 2) → (w = (some (.int (-1)), σ)))) :
    Ev 106 0 [.ref 0, .int x1] [] σ w := by
  refine e_iload_n d_106_0 rfl rfl ?_
  by_cases hs0 : x1 = 0
  · replace H := H.1 hs0
    refine e_table (off := 27) (t := 28) d_106_1 (by rw [hs0]; decide +kernel) (by decide) ?_
    refine e_aload_n d_106_28 rfl rfl ?_
    refine e_getR d_106_29 oo_106 pF_8_28 (by decide) (hS.k rfl) (hS.r rt_0_2) rfl ?_
    obtain ⟨v3, σ1, hcl, hS2, H⟩ := H
    refine e_vcall (w1 := (some (.int v3), σ1)) d_106_32 kc_106_32 rfl ⟨Nat.le_of_ble_eq_true rfl, xx_106.symm⟩ rfl hcl ?_
    show Ev 106 35 [.ref 0, .int x1] [.int v3] σ1 w
    subst H
    exact e_iret d_106_35 rr_106
  by_cases hs1 : x1 = 1
  · replace H := H.2.1 hs1
    refine e_table (off := 35) (t := 36) d_106_1 (by rw [hs1]; decide +kernel) (by decide) ?_
    refine e_aload_n d_106_36 rfl rfl ?_
    refine e_getR d_106_37 oo_106 pF_8_28 (by decide) (hS.k rfl) (hS.r rt_0_2) rfl ?_
    refine e_getI d_106_40 oo_106 pF_8_130 (by decide) (hS.k rfl) rfl ?_
    subst H
    exact e_iret d_106_43 rr_106
  by_cases hs2 : x1 = 2
  · replace H := H.2.2.1 hs2
    refine e_table (off := 43) (t := 44) d_106_1 (by rw [hs2]; decide +kernel) (by decide) ?_
    refine e_aload_n d_106_44 rfl rfl ?_
    refine e_getR d_106_45 oo_106 pF_8_28 (by decide) (hS.k rfl) (hS.r rt_0_2) rfl ?_
    refine e_getI d_106_48 oo_106 pF_8_133 (by decide) (hS.k rfl) rfl ?_
    subst H
    exact e_iret d_106_51 rr_106
  replace H := H.2.2.2 ⟨hs0, hs1, hs2⟩
  refine e_table (off := 51) (t := 52) d_106_1 (sw_106_1 hs0 hs1 hs2) (by decide) ?_
  refine e_iconst d_106_52 ci_m1 rfl ?_
  subst H
  exact e_iret d_106_53 rr_106
/-! X8_law -/
theorem b_107_0 {t : Nat} {σ : Mm} {w : Option Value × Mm} {x1 : Int32} {x2 : Int32} (hS : Sg t σ) 
    (H : (x1 = 2 → (∃ (v6 : Int32) (σ4 : Mm), Cl 142 [.ref 0, .int x2] σ (some (.int v6), σ4) ∧ Sg t σ4 ∧ Ev 107 18 [.ref 0, .int x1, .int x2, .retAddr 0] [.int v6] σ4 w)) ∧ (¬ (x1 = 2) → (∃ (v3 : Int32) (σ1 : Mm), Cl 143 [.ref 0, .int x2] σ (some (.int v3), σ1) ∧ Sg t σ1 ∧ Ev 107 18 [.ref 0, .int x1, .int x2, .retAddr 0] [.int v3] σ1 w))) :
    Ev 107 0 [.ref 0, .int x1, .int x2, .retAddr 0] [] σ w := by
  refine e_iload_n d_107_0 rfl rfl ?_
  refine e_iconst d_107_1 ci_2 rfl ?_
  refine e_icmp_ne (t := 13) d_107_2 (by decide) rfl (fun hc => ?_) (fun hc => ?_)
  · replace H := H.2 hc
    refine e_aload_n d_107_13 rfl rfl ?_
    refine e_iload_n d_107_14 rfl rfl ?_
    obtain ⟨v3, σ1, hcl, hS2, H⟩ := H
    refine e_vcall (w1 := (some (.int v3), σ1)) d_107_15 kc_107_15 rfl ⟨Nat.le_of_ble_eq_true rfl, xx_107.symm⟩ rfl hcl ?_
    show Ev 107 18 [.ref 0, .int x1, .int x2, .retAddr 0] [.int v3] σ1 w
    exact H
  · replace H := H.1 hc
    refine e_aload_n d_107_5 rfl rfl ?_
    refine e_iload_n d_107_6 rfl rfl ?_
    obtain ⟨v6, σ4, hcl, hS5, H⟩ := H
    refine e_vcall (w1 := (some (.int v6), σ4)) d_107_7 kc_107_7 rfl ⟨Nat.le_of_ble_eq_true rfl, xx_107.symm⟩ rfl hcl ?_
    show Ev 107 10 [.ref 0, .int x1, .int x2, .retAddr 0] [.int v6] σ4 w
    refine e_goto (t := 18) d_107_10 (by decide) ?_
    exact H
theorem b_107_18 {t : Nat} {σ : Mm} {w : Option Value × Mm} {x1 : Int32} {x2 : Int32} {z3 : Value} {s0 : Int32} (hS : Sg t σ) 
    (H : (x1 < 0 → (w = (some (.long (-9223372036854775808)), σ))) ∧ (¬ (x1 < 0) → ((x1 < 3 → ((s0 = 0 → (w = (some (.long (-9223372036854775808)), σ))) ∧ (¬ (s0 = 0) → (∃ (v3 : Int64) (σ1 : Mm), Cl 11 [.ref 38, .ref t, .ref 26, .int x1, .int x2] σ (some (.long v3), σ1) ∧ Sg t σ1 ∧ (w = (some (.long v3), σ1)))))) ∧ (¬ (x1 < 3) → (w = (some (.long (-9223372036854775808)), σ)))))) :
    Ev 107 18 [.ref 0, .int x1, .int x2, z3] [.int s0] σ w := by
  refine e_istore_n (ls2 := [.ref 0, .int x1, .int x2, .int s0]) d_107_18 rfl rfl rfl ?_
  refine e_iload_n d_107_19 rfl rfl ?_
  refine e_if_lt (t := 32) d_107_20 (by decide) rfl (fun hc => ?_) (fun hc => ?_)
  · replace H := H.1 hc
    refine e_ldc2 d_107_32 oo_107 pL_8_167 rfl ?_
    subst H
    exact e_lret d_107_35 rr_107
  · replace H := H.2 hc
    refine e_iload_n d_107_23 rfl rfl ?_
    refine e_iconst d_107_24 ci_3 rfl ?_
    refine e_icmp_ge (t := 32) d_107_25 (by decide) rfl (fun hc => ?_) (fun hc => ?_)
    · replace H := H.2 hc
      refine e_ldc2 d_107_32 oo_107 pL_8_167 rfl ?_
      subst H
      exact e_lret d_107_35 rr_107
    · replace H := H.1 hc
      refine e_iload_n d_107_28 rfl rfl ?_
      refine e_if_ne (t := 36) d_107_29 (by decide) rfl (fun hc => ?_) (fun hc => ?_)
      · replace H := H.2 hc
        refine e_aload_n d_107_36 rfl rfl ?_
        refine e_getR d_107_37 oo_107 pF_8_41 (by decide) (hS.k rfl) (hS.r rt_0_6) rfl ?_
        refine e_aload_n d_107_40 rfl rfl ?_
        refine e_getR d_107_41 oo_107 pF_8_21 (by decide) (hS.k rfl) hS.told rfl ?_
        refine e_aload_n d_107_44 rfl rfl ?_
        refine e_getR d_107_45 oo_107 pF_8_28 (by decide) (hS.k rfl) (hS.r rt_0_2) rfl ?_
        refine e_iload_n d_107_48 rfl rfl ?_
        refine e_iload_n d_107_49 rfl rfl ?_
        obtain ⟨v3, σ1, hcl, hS2, H⟩ := H
        refine e_vcall (w1 := (some (.long v3), σ1)) d_107_50 kc_107_50 rfl ⟨Nat.le_of_ble_eq_true rfl, xx_107.symm⟩ rfl hcl ?_
        show Ev 107 53 [.ref 0, .int x1, .int x2, .int s0] [.long v3] σ1 w
        subst H
        exact e_lret d_107_53 rr_107
      · replace H := H.1 hc
        refine e_ldc2 d_107_32 oo_107 pL_8_167 rfl ?_
        subst H
        exact e_lret d_107_35 rr_107
/-! X8_ring -/
theorem b_108_0 {t : Nat} {σ : Mm} {w : Option Value × Mm} {x1 : Int32} (hS : Sg t σ) 
    (H : ∃ (v3 : Int32) (σ1 : Mm), Cl 143 [.ref 0, .int x1] σ (some (.int v3), σ1) ∧ Sg t σ1 ∧ ((v3 = 0 → (w = (some (.int (-1)), σ1))) ∧ (¬ (v3 = 0) → (((((mI σ1 26 3) >>> (x1 &&& 31)) &&& 1) = 0 → (∃ (σ4 : Mm), Cl 98 [.ref 41, .ref 26, .int x1] σ1 (none, σ4) ∧ Sg t σ4 ∧ (∃ (σ7 : Mm), Cl 5 [.ref 38] σ4 (none, σ7) ∧ Sg t σ7 ∧ (∃ (σ10 : Mm), Cl 9 [.ref 38, .ref t, .ref 26, .int x1] σ7 (none, σ10) ∧ Sg t σ10 ∧ (∃ (v15 : Int32) (σ13 : Mm), Cl 20 [.ref 26] σ10 (some (.int v15), σ13) ∧ Sg t σ13 ∧ (∃ (v18 : Int32) (σ16 : Mm), Cl 276 [.int v15] σ13 (some (.int v18), σ16) ∧ Sg t σ16 ∧ (w = (some (.int v18), σ16)))))))) ∧ (¬ ((((mI σ1 26 3) >>> (x1 &&& 31)) &&& 1) = 0) → (w = (some (.int (-2)), σ1))))))) :
    Ev 108 0 [.ref 0, .int x1] [] σ w := by
  refine e_aload_n d_108_0 rfl rfl ?_
  refine e_iload_n d_108_1 rfl rfl ?_
  obtain ⟨v3, σ1, hcl, hS2, H⟩ := H
  refine e_vcall (w1 := (some (.int v3), σ1)) d_108_2 kc_108_2 rfl ⟨Nat.le_of_ble_eq_true rfl, xx_108.symm⟩ rfl hcl ?_
  show Ev 108 5 [.ref 0, .int x1] [.int v3] σ1 w
  refine e_if_ne (t := 10) d_108_5 (by decide) rfl (fun hc => ?_) (fun hc => ?_)
  · replace H := H.2 hc
    refine e_aload_n d_108_10 rfl rfl ?_
    refine e_getR d_108_11 oo_108 pF_8_28 (by decide) (hS2.k rfl) (hS2.r rt_0_2) rfl ?_
    refine e_getI d_108_14 oo_108 pF_8_154 (by decide) (hS2.k rfl) rfl ?_
    refine e_iload_n d_108_17 rfl rfl ?_
    refine e_ishr d_108_18 rfl ?_
    refine e_iconst d_108_19 ci_1 rfl ?_
    refine e_iand d_108_20 rfl ?_
    refine e_if_eq (t := 27) d_108_21 (by decide) rfl (fun hc => ?_) (fun hc => ?_)
    · replace H := H.1 hc
      refine e_aload_n d_108_27 rfl rfl ?_
      refine e_getR d_108_28 oo_108 pF_8_48 (by decide) (hS2.k rfl) (hS2.r rt_0_7) rfl ?_
      refine e_aload_n d_108_31 rfl rfl ?_
      refine e_getR d_108_32 oo_108 pF_8_28 (by decide) (hS2.k rfl) (hS2.r rt_0_2) rfl ?_
      refine e_iload_n d_108_35 rfl rfl ?_
      obtain ⟨σ4, hcl, hS5, H⟩ := H
      refine e_vcall (w1 := (none, σ4)) d_108_36 kc_108_36 rfl ⟨Nat.le_of_ble_eq_true rfl, xx_108.symm⟩ rfl hcl ?_
      show Ev 108 39 [.ref 0, .int x1] [] σ4 w
      refine e_aload_n d_108_39 rfl rfl ?_
      refine e_getR d_108_40 oo_108 pF_8_41 (by decide) (hS5.k rfl) (hS5.r rt_0_6) rfl ?_
      obtain ⟨σ7, hcl, hS8, H⟩ := H
      refine e_vcall (w1 := (none, σ7)) d_108_43 kc_108_43 rfl ⟨Nat.le_of_ble_eq_true rfl, xx_108.symm⟩ rfl hcl ?_
      show Ev 108 46 [.ref 0, .int x1] [] σ7 w
      refine e_aload_n d_108_46 rfl rfl ?_
      refine e_getR d_108_47 oo_108 pF_8_41 (by decide) (hS8.k rfl) (hS8.r rt_0_6) rfl ?_
      refine e_aload_n d_108_50 rfl rfl ?_
      refine e_getR d_108_51 oo_108 pF_8_21 (by decide) (hS8.k rfl) hS8.told rfl ?_
      refine e_aload_n d_108_54 rfl rfl ?_
      refine e_getR d_108_55 oo_108 pF_8_28 (by decide) (hS8.k rfl) (hS8.r rt_0_2) rfl ?_
      refine e_iload_n d_108_58 rfl rfl ?_
      obtain ⟨σ10, hcl, hS11, H⟩ := H
      refine e_vcall (w1 := (none, σ10)) d_108_59 kc_108_59 rfl ⟨Nat.le_of_ble_eq_true rfl, xx_108.symm⟩ rfl hcl ?_
      show Ev 108 62 [.ref 0, .int x1] [] σ10 w
      refine e_aload_n d_108_62 rfl rfl ?_
      refine e_getR d_108_63 oo_108 pF_8_28 (by decide) (hS11.k rfl) (hS11.r rt_0_2) rfl ?_
      obtain ⟨v15, σ13, hcl, hS14, H⟩ := H
      refine e_vcall (w1 := (some (.int v15), σ13)) d_108_66 kc_108_66 rfl ⟨Nat.le_of_ble_eq_true rfl, xx_108.symm⟩ rfl hcl ?_
      show Ev 108 69 [.ref 0, .int x1] [.int v15] σ13 w
      obtain ⟨v18, σ16, hcl, hS17, H⟩ := H
      refine e_scall (w1 := (some (.int v18), σ16)) d_108_69 kc_108_69 rfl ⟨Nat.le_of_ble_eq_true rfl, xx_108.symm⟩ rfl hcl ?_
      show Ev 108 72 [.ref 0, .int x1] [.int v18] σ16 w
      subst H
      exact e_iret d_108_72 rr_108
    · replace H := H.2 hc
      refine e_bipush d_108_24 cb_m2 rfl ?_
      subst H
      exact e_iret d_108_26 rr_108
  · replace H := H.1 hc
    refine e_iconst d_108_8 ci_m1 rfl ?_
    subst H
    exact e_iret d_108_9 rr_108
/-! X8_tie -/
theorem b_109_0 {t : Nat} {σ : Mm} {w : Option Value × Mm} {x1 : Int32} {x2 : Int32} (hS : Sg t σ) 
    (H : ∃ (v3 : Int32) (σ1 : Mm), Cl 143 [.ref 0, .int x1] σ (some (.int v3), σ1) ∧ Sg t σ1 ∧ ((v3 = 0 → (w = (some (.int (-1)), σ1))) ∧ (¬ (v3 = 0) → (∃ (v6 : Int32) (σ4 : Mm), Cl 142 [.ref 0, .int x2] σ1 (some (.int v6), σ4) ∧ Sg t σ4 ∧ ((v6 = 0 → (w = (some (.int (-1)), σ4))) ∧ (¬ (v6 = 0) → (∃ (σ7 : Mm), Cl 98 [.ref 41, .ref 26, .int x1] σ4 (none, σ7) ∧ Sg t σ7 ∧ (inb x1 10 = true ∧ (inb x1 10 = true ∧ (∀ (σ10 : Mm), σ10 = uI σ7 28 x1.toNatClampNeg ((mI σ7 28 x1.toNatClampNeg) ^^^ ((1 : Int32) <<< (x2 &&& 31))) → (inb x1 10 = true ∧ (w = (some (.int (((mI σ10 28 x1.toNatClampNeg) >>> (x2 &&& 31)) &&& 1)), σ10))))))))))))) :
    Ev 109 0 [.ref 0, .int x1, .int x2] [] σ w := by
  refine e_aload_n d_109_0 rfl rfl ?_
  refine e_iload_n d_109_1 rfl rfl ?_
  obtain ⟨v3, σ1, hcl, hS2, H⟩ := H
  refine e_vcall (w1 := (some (.int v3), σ1)) d_109_2 kc_109_2 rfl ⟨Nat.le_of_ble_eq_true rfl, xx_109.symm⟩ rfl hcl ?_
  show Ev 109 5 [.ref 0, .int x1, .int x2] [.int v3] σ1 w
  refine e_if_eq (t := 16) d_109_5 (by decide) rfl (fun hc => ?_) (fun hc => ?_)
  · replace H := H.1 hc
    refine e_iconst d_109_16 ci_m1 rfl ?_
    subst H
    exact e_iret d_109_17 rr_109
  · replace H := H.2 hc
    refine e_aload_n d_109_8 rfl rfl ?_
    refine e_iload_n d_109_9 rfl rfl ?_
    obtain ⟨v6, σ4, hcl, hS5, H⟩ := H
    refine e_vcall (w1 := (some (.int v6), σ4)) d_109_10 kc_109_10 rfl ⟨Nat.le_of_ble_eq_true rfl, xx_109.symm⟩ rfl hcl ?_
    show Ev 109 13 [.ref 0, .int x1, .int x2] [.int v6] σ4 w
    refine e_if_ne (t := 18) d_109_13 (by decide) rfl (fun hc => ?_) (fun hc => ?_)
    · replace H := H.2 hc
      refine e_aload_n d_109_18 rfl rfl ?_
      refine e_getR d_109_19 oo_109 pF_8_48 (by decide) (hS5.k rfl) (hS5.r rt_0_7) rfl ?_
      refine e_aload_n d_109_22 rfl rfl ?_
      refine e_getR d_109_23 oo_109 pF_8_28 (by decide) (hS5.k rfl) (hS5.r rt_0_2) rfl ?_
      refine e_iload_n d_109_26 rfl rfl ?_
      obtain ⟨σ7, hcl, hS8, H⟩ := H
      refine e_vcall (w1 := (none, σ7)) d_109_27 kc_109_27 rfl ⟨Nat.le_of_ble_eq_true rfl, xx_109.symm⟩ rfl hcl ?_
      show Ev 109 30 [.ref 0, .int x1, .int x2] [] σ7 w
      refine e_aload_n d_109_30 rfl rfl ?_
      refine e_getR d_109_31 oo_109 pF_8_28 (by decide) (hS8.k rfl) (hS8.r rt_0_2) rfl ?_
      refine e_getR d_109_34 oo_109 pF_8_160 (by decide) (hS8.k rfl) (hS8.r rt_26_8) rfl ?_
      refine e_iload_n d_109_37 rfl rfl ?_
      refine e_dup2 d_109_38 rfl rfl ?_
      obtain ⟨hb, H⟩ := H
      refine e_iaload (v := (mI σ7 28 x1.toNatClampNeg)) d_109_39 (rdI_at (hS8.k rfl) hb) rfl ?_
      refine e_iconst d_109_40 ci_1 rfl ?_
      refine e_iload_n d_109_41 rfl rfl ?_
      refine e_ishl d_109_42 rfl ?_
      refine e_ixor d_109_43 rfl ?_
      obtain ⟨hb, H⟩ := H
      refine e_iastore d_109_44 (okI_at (hS8.k rfl) hb) rfl ?_
      generalize hm11 : uI σ7 28 x1.toNatClampNeg ((mI σ7 28 x1.toNatClampNeg) ^^^ ((1 : Int32) <<< (x2 &&& 31))) = σ10
      have hS12 : Sg t σ10 := by rw [← hm11]; exact hS8.uI
      replace H := H σ10 hm11.symm
      refine e_aload_n d_109_45 rfl rfl ?_
      refine e_getR d_109_46 oo_109 pF_8_28 (by decide) (hS12.k rfl) (hS12.r rt_0_2) rfl ?_
      refine e_getR d_109_49 oo_109 pF_8_160 (by decide) (hS12.k rfl) (hS12.r rt_26_8) rfl ?_
      refine e_iload_n d_109_52 rfl rfl ?_
      obtain ⟨hb, H⟩ := H
      refine e_iaload (v := (mI σ10 28 x1.toNatClampNeg)) d_109_53 (rdI_at (hS12.k rfl) hb) rfl ?_
      refine e_iload_n d_109_54 rfl rfl ?_
      refine e_ishr d_109_55 rfl ?_
      refine e_iconst d_109_56 ci_1 rfl ?_
      refine e_iand d_109_57 rfl ?_
      subst H
      exact e_iret d_109_58 rr_109
    · replace H := H.1 hc
      refine e_iconst d_109_16 ci_m1 rfl ?_
      subst H
      exact e_iret d_109_17 rr_109
/-! X8_mend -/
theorem b_110_0 {t : Nat} {σ : Mm} {w : Option Value × Mm}  (hS : Sg t σ) 
    (H : ((mI σ 26 3) = 0 → (((mI σ 26 2) = 0 → (w = (some (.int 0), σ))) ∧ (¬ ((mI σ 26 2) = 0) → (∃ (σ7 : Mm), Cl 98 [.ref 41, .ref 26, .int (-1)] σ (none, σ7) ∧ Sg t σ7 ∧ (∃ (σ10 : Mm), Cl 24 [.ref 26] σ7 (none, σ10) ∧ Sg t σ10 ∧ (w = (some (.int 1), σ10))))))) ∧ (¬ ((mI σ 26 3) = 0) → (∃ (σ1 : Mm), Cl 98 [.ref 41, .ref 26, .int (-1)] σ (none, σ1) ∧ Sg t σ1 ∧ (∃ (σ4 : Mm), Cl 24 [.ref 26] σ1 (none, σ4) ∧ Sg t σ4 ∧ (w = (some (.int 1), σ4)))))) :
    Ev 110 0 [.ref 0] [] σ w := by
  refine e_aload_n d_110_0 rfl rfl ?_
  refine e_getR d_110_1 oo_110 pF_8_28 (by decide) (hS.k rfl) (hS.r rt_0_2) rfl ?_
  refine e_getI d_110_4 oo_110 pF_8_154 (by decide) (hS.k rfl) rfl ?_
  refine e_if_ne (t := 22) d_110_7 (by decide) rfl (fun hc => ?_) (fun hc => ?_)
  · replace H := H.2 hc
    refine e_aload_n d_110_22 rfl rfl ?_
    refine e_getR d_110_23 oo_110 pF_8_48 (by decide) (hS.k rfl) (hS.r rt_0_7) rfl ?_
    refine e_aload_n d_110_26 rfl rfl ?_
    refine e_getR d_110_27 oo_110 pF_8_28 (by decide) (hS.k rfl) (hS.r rt_0_2) rfl ?_
    refine e_iconst d_110_30 ci_m1 rfl ?_
    obtain ⟨σ1, hcl, hS2, H⟩ := H
    refine e_vcall (w1 := (none, σ1)) d_110_31 kc_110_31 rfl ⟨Nat.le_of_ble_eq_true rfl, xx_110.symm⟩ rfl hcl ?_
    show Ev 110 34 [.ref 0] [] σ1 w
    refine e_aload_n d_110_34 rfl rfl ?_
    refine e_getR d_110_35 oo_110 pF_8_28 (by decide) (hS2.k rfl) (hS2.r rt_0_2) rfl ?_
    obtain ⟨σ4, hcl, hS5, H⟩ := H
    refine e_vcall (w1 := (none, σ4)) d_110_38 kc_110_38 rfl ⟨Nat.le_of_ble_eq_true rfl, xx_110.symm⟩ rfl hcl ?_
    show Ev 110 41 [.ref 0] [] σ4 w
    refine e_iconst d_110_41 ci_1 rfl ?_
    subst H
    exact e_zret d_110_42 rr_110 (Or.inr rfl)
  · replace H := H.1 hc
    refine e_aload_n d_110_10 rfl rfl ?_
    refine e_getR d_110_11 oo_110 pF_8_28 (by decide) (hS.k rfl) (hS.r rt_0_2) rfl ?_
    refine e_getI d_110_14 oo_110 pF_8_133 (by decide) (hS.k rfl) rfl ?_
    refine e_if_ne (t := 22) d_110_17 (by decide) rfl (fun hc => ?_) (fun hc => ?_)
    · replace H := H.2 hc
      refine e_aload_n d_110_22 rfl rfl ?_
      refine e_getR d_110_23 oo_110 pF_8_48 (by decide) (hS.k rfl) (hS.r rt_0_7) rfl ?_
      refine e_aload_n d_110_26 rfl rfl ?_
      refine e_getR d_110_27 oo_110 pF_8_28 (by decide) (hS.k rfl) (hS.r rt_0_2) rfl ?_
      refine e_iconst d_110_30 ci_m1 rfl ?_
      obtain ⟨σ7, hcl, hS8, H⟩ := H
      refine e_vcall (w1 := (none, σ7)) d_110_31 kc_110_31 rfl ⟨Nat.le_of_ble_eq_true rfl, xx_110.symm⟩ rfl hcl ?_
      show Ev 110 34 [.ref 0] [] σ7 w
      refine e_aload_n d_110_34 rfl rfl ?_
      refine e_getR d_110_35 oo_110 pF_8_28 (by decide) (hS8.k rfl) (hS8.r rt_0_2) rfl ?_
      obtain ⟨σ10, hcl, hS11, H⟩ := H
      refine e_vcall (w1 := (none, σ10)) d_110_38 kc_110_38 rfl ⟨Nat.le_of_ble_eq_true rfl, xx_110.symm⟩ rfl hcl ?_
      show Ev 110 41 [.ref 0] [] σ10 w
      refine e_iconst d_110_41 ci_1 rfl ?_
      subst H
      exact e_zret d_110_42 rr_110 (Or.inr rfl)
    · replace H := H.1 hc
      refine e_iconst d_110_20 ci_0 rfl ?_
      subst H
      exact e_zret d_110_21 rr_110 (Or.inl rfl)
/-! X8_go -/
theorem b_111_0 {t : Nat} {σ : Mm} {w : Option Value × Mm} {x1 : Int32} (hS : Sg t σ) 
    (H : (x1 < 0 → (w = (some (.int (-1)), σ))) ∧ (¬ (x1 < 0) → ((200 < x1 → (w = (some (.int (-1)), σ))) ∧ (¬ (200 < x1) → ((9000 < ((mI σ 26 0) + x1) → (w = (some (.int (-1)), σ))) ∧ (¬ (9000 < ((mI σ 26 0) + x1)) → ((0 < x1 → (∃ (σ1 : Mm), Cl 97 [.ref 41] σ (none, σ1) ∧ Sg t σ1 ∧ Ev 111 39 [.ref 0, .int x1] [] σ1 w)) ∧ (¬ (0 < x1) → Ev 111 39 [.ref 0, .int x1] [] σ w)))))))) :
    Ev 111 0 [.ref 0, .int x1] [] σ w := by
  refine e_iload_n d_111_0 rfl rfl ?_
  refine e_if_lt (t := 26) d_111_1 (by decide) rfl (fun hc => ?_) (fun hc => ?_)
  · replace H := H.1 hc
    refine e_iconst d_111_26 ci_m1 rfl ?_
    subst H
    exact e_iret d_111_27 rr_111
  · replace H := H.2 hc
    refine e_iload_n d_111_4 rfl rfl ?_
    refine e_sipush d_111_5 cs_200 rfl ?_
    refine e_icmp_gt (t := 26) d_111_8 (by decide) rfl (fun hc => ?_) (fun hc => ?_)
    · replace H := H.1 hc
      refine e_iconst d_111_26 ci_m1 rfl ?_
      subst H
      exact e_iret d_111_27 rr_111
    · replace H := H.2 hc
      refine e_aload_n d_111_11 rfl rfl ?_
      refine e_getR d_111_12 oo_111 pF_8_28 (by decide) (hS.k rfl) (hS.r rt_0_2) rfl ?_
      refine e_getI d_111_15 oo_111 pF_8_192 (by decide) (hS.k rfl) rfl ?_
      refine e_iload_n d_111_18 rfl rfl ?_
      refine e_iadd d_111_19 rfl ?_
      refine e_sipush d_111_20 cs_9000 rfl ?_
      refine e_icmp_le (t := 28) d_111_23 (by decide) rfl (fun hc => ?_) (fun hc => ?_)
      · replace H := H.2 hc
        refine e_iload_n d_111_28 rfl rfl ?_
        refine e_if_le (t := 39) d_111_29 (by decide) rfl (fun hc => ?_) (fun hc => ?_)
        · replace H := H.2 hc
          exact H
        · replace H := H.1 hc
          refine e_aload_n d_111_32 rfl rfl ?_
          refine e_getR d_111_33 oo_111 pF_8_48 (by decide) (hS.k rfl) (hS.r rt_0_7) rfl ?_
          obtain ⟨σ1, hcl, hS2, H⟩ := H
          refine e_vcall (w1 := (none, σ1)) d_111_36 kc_111_36 rfl ⟨Nat.le_of_ble_eq_true rfl, xx_111.symm⟩ rfl hcl ?_
          show Ev 111 39 [.ref 0, .int x1] [] σ1 w
          exact H
      · replace H := H.1 hc
        refine e_iconst d_111_26 ci_m1 rfl ?_
        subst H
        exact e_iret d_111_27 rr_111
theorem b_111_39 {t : Nat} {σ : Mm} {w : Option Value × Mm} {x1 : Int32} (hS : Sg t σ) 
    (H : ∃ (σ1 : Mm), Cl 5 [.ref 38] σ (none, σ1) ∧ Sg t σ1 ∧ (∃ (σ4 : Mm), Cl 8 [.ref 38, .ref t, .ref 26, .int x1] σ1 (none, σ4) ∧ Sg t σ4 ∧ (w = (some (.int (mI σ4 26 0)), σ4)))) :
    Ev 111 39 [.ref 0, .int x1] [] σ w := by
  refine e_aload_n d_111_39 rfl rfl ?_
  refine e_getR d_111_40 oo_111 pF_8_41 (by decide) (hS.k rfl) (hS.r rt_0_6) rfl ?_
  obtain ⟨σ1, hcl, hS2, H⟩ := H
  refine e_vcall (w1 := (none, σ1)) d_111_43 kc_111_43 rfl ⟨Nat.le_of_ble_eq_true rfl, xx_111.symm⟩ rfl hcl ?_
  show Ev 111 46 [.ref 0, .int x1] [] σ1 w
  refine e_aload_n d_111_46 rfl rfl ?_
  refine e_getR d_111_47 oo_111 pF_8_41 (by decide) (hS2.k rfl) (hS2.r rt_0_6) rfl ?_
  refine e_aload_n d_111_50 rfl rfl ?_
  refine e_getR d_111_51 oo_111 pF_8_21 (by decide) (hS2.k rfl) hS2.told rfl ?_
  refine e_aload_n d_111_54 rfl rfl ?_
  refine e_getR d_111_55 oo_111 pF_8_28 (by decide) (hS2.k rfl) (hS2.r rt_0_2) rfl ?_
  refine e_iload_n d_111_58 rfl rfl ?_
  obtain ⟨σ4, hcl, hS5, H⟩ := H
  refine e_vcall (w1 := (none, σ4)) d_111_59 kc_111_59 rfl ⟨Nat.le_of_ble_eq_true rfl, xx_111.symm⟩ rfl hcl ?_
  show Ev 111 62 [.ref 0, .int x1] [] σ4 w
  refine e_aload_n d_111_62 rfl rfl ?_
  refine e_getR d_111_63 oo_111 pF_8_28 (by decide) (hS5.k rfl) (hS5.r rt_0_2) rfl ?_
  refine e_getI d_111_66 oo_111 pF_8_192 (by decide) (hS5.k rfl) rfl ?_
  subst H
  exact e_iret d_111_69 rr_111
/-! X8_ahead -/
theorem b_112_0 {t : Nat} {σ : Mm} {w : Option Value × Mm} {x1 : Int32} {x2 : Int32} (hS : Sg t σ) 
    (H : (x1 < 0 → (w = (some (.int (-1)), σ))) ∧ (¬ (x1 < 0) → ((200 < x1 → (w = (some (.int (-1)), σ))) ∧ (¬ (200 < x1) → ((x2 < 0 → (w = (some (.int (-1)), σ))) ∧ (¬ (x2 < 0) → ((4 < x2 → (w = (some (.int (-1)), σ))) ∧ (¬ (4 < x2) → (∃ (σ1 : Mm), Cl 19 [.ref 30, .ref 26] σ (none, σ1) ∧ Sg t σ1 ∧ (∃ (σ4 : Mm), Cl 6 [.ref 38] σ1 (none, σ4) ∧ Sg t σ4 ∧ (∃ (σ7 : Mm), Cl 8 [.ref 38, .ref t, .ref 30, .int x1] σ4 (none, σ7) ∧ Sg t σ7 ∧ ((x2 = 0 → (∃ (v15 : Int32) (σ13 : Mm), Cl 20 [.ref 30] σ7 (some (.int v15), σ13) ∧ Sg t σ13 ∧ (∃ (v18 : Int32) (σ16 : Mm), Cl 276 [.int v15] σ13 (some (.int v18), σ16) ∧ Sg t σ16 ∧ (w = (some (.int v18), σ16))))) ∧ (x2 = 1 → (w = (some (.int ((mI σ7 30 4) - (mI σ7 26 4))), σ7))) ∧ (x2 = 2 → (w = (some (.int ((mI σ7 30 5) - (mI σ7 26 5))), σ7))) ∧ (x2 = 3 → (∃ (v21 : Int32) (σ19 : Mm), Cl 276 [.int (mI σ7 30 2)] σ7 (some (.int v21), σ19) ∧ Sg t σ19 ∧ (w = (some (.int v21), σ19)))) ∧ ((¬ x2 = 0 ∧ ¬ x2 = 1 ∧ ¬ x2 = 2 ∧ ¬ x2 = 3) → (∃ (v12 : Int32) (σ10 : Mm), Cl 276 [.int (mI σ7 30 3)] σ7 (some (.int v12), σ10) ∧ Sg t σ10 ∧ (w = (some (.int v12), σ10)))))))))))))))) :
    Ev 112 0 [.ref 0, .int x1, .int x2] [] σ w := by
  refine e_iload_n d_112_0 rfl rfl ?_
  refine e_if_lt (t := 20) d_112_1 (by decide) rfl (fun hc => ?_) (fun hc => ?_)
  · replace H := H.1 hc
    refine e_iconst d_112_20 ci_m1 rfl ?_
    subst H
    exact e_iret d_112_21 rr_112
  · replace H := H.2 hc
    refine e_iload_n d_112_4 rfl rfl ?_
    refine e_sipush d_112_5 cs_200 rfl ?_
    refine e_icmp_gt (t := 20) d_112_8 (by decide) rfl (fun hc => ?_) (fun hc => ?_)
    · replace H := H.1 hc
      refine e_iconst d_112_20 ci_m1 rfl ?_
      subst H
      exact e_iret d_112_21 rr_112
    · replace H := H.2 hc
      refine e_iload_n d_112_11 rfl rfl ?_
      refine e_if_lt (t := 20) d_112_12 (by decide) rfl (fun hc => ?_) (fun hc => ?_)
      · replace H := H.1 hc
        refine e_iconst d_112_20 ci_m1 rfl ?_
        subst H
        exact e_iret d_112_21 rr_112
      · replace H := H.2 hc
        refine e_iload_n d_112_15 rfl rfl ?_
        refine e_iconst d_112_16 ci_4 rfl ?_
        refine e_icmp_le (t := 22) d_112_17 (by decide) rfl (fun hc => ?_) (fun hc => ?_)
        · replace H := H.2 hc
          refine e_aload_n d_112_22 rfl rfl ?_
          refine e_getR d_112_23 oo_112 pF_8_32 (by decide) (hS.k rfl) (hS.r rt_0_3) rfl ?_
          refine e_aload_n d_112_26 rfl rfl ?_
          refine e_getR d_112_27 oo_112 pF_8_28 (by decide) (hS.k rfl) (hS.r rt_0_2) rfl ?_
          obtain ⟨σ1, hcl, hS2, H⟩ := H
          refine e_vcall (w1 := (none, σ1)) d_112_30 kc_112_30 rfl ⟨Nat.le_of_ble_eq_true rfl, xx_112.symm⟩ rfl hcl ?_
          show Ev 112 33 [.ref 0, .int x1, .int x2] [] σ1 w
          refine e_aload_n d_112_33 rfl rfl ?_
          refine e_getR d_112_34 oo_112 pF_8_41 (by decide) (hS2.k rfl) (hS2.r rt_0_6) rfl ?_
          obtain ⟨σ4, hcl, hS5, H⟩ := H
          refine e_vcall (w1 := (none, σ4)) d_112_37 kc_112_37 rfl ⟨Nat.le_of_ble_eq_true rfl, xx_112.symm⟩ rfl hcl ?_
          show Ev 112 40 [.ref 0, .int x1, .int x2] [] σ4 w
          refine e_aload_n d_112_40 rfl rfl ?_
          refine e_getR d_112_41 oo_112 pF_8_41 (by decide) (hS5.k rfl) (hS5.r rt_0_6) rfl ?_
          refine e_aload_n d_112_44 rfl rfl ?_
          refine e_getR d_112_45 oo_112 pF_8_21 (by decide) (hS5.k rfl) hS5.told rfl ?_
          refine e_aload_n d_112_48 rfl rfl ?_
          refine e_getR d_112_49 oo_112 pF_8_32 (by decide) (hS5.k rfl) (hS5.r rt_0_3) rfl ?_
          refine e_iload_n d_112_52 rfl rfl ?_
          obtain ⟨σ7, hcl, hS8, H⟩ := H
          refine e_vcall (w1 := (none, σ7)) d_112_53 kc_112_53 rfl ⟨Nat.le_of_ble_eq_true rfl, xx_112.symm⟩ rfl hcl ?_
          show Ev 112 56 [.ref 0, .int x1, .int x2] [] σ7 w
          refine e_iload_n d_112_56 rfl rfl ?_
          by_cases hs0 : x2 = 0
          · replace H := H.1 hs0
            refine e_table (off := 31) (t := 88) d_112_57 (by rw [hs0]; decide +kernel) (by decide) ?_
            refine e_aload_n d_112_88 rfl rfl ?_
            refine e_getR d_112_89 oo_112 pF_8_32 (by decide) (hS8.k rfl) (hS8.r rt_0_3) rfl ?_
            obtain ⟨v15, σ13, hcl, hS14, H⟩ := H
            refine e_vcall (w1 := (some (.int v15), σ13)) d_112_92 kc_112_92 rfl ⟨Nat.le_of_ble_eq_true rfl, xx_112.symm⟩ rfl hcl ?_
            show Ev 112 95 [.ref 0, .int x1, .int x2] [.int v15] σ13 w
            obtain ⟨v18, σ16, hcl, hS17, H⟩ := H
            refine e_scall (w1 := (some (.int v18), σ16)) d_112_95 kc_112_95 rfl ⟨Nat.le_of_ble_eq_true rfl, xx_112.symm⟩ rfl hcl ?_
            show Ev 112 98 [.ref 0, .int x1, .int x2] [.int v18] σ16 w
            subst H
            exact e_iret d_112_98 rr_112
          by_cases hs1 : x2 = 1
          · replace H := H.2.1 hs1
            refine e_table (off := 42) (t := 99) d_112_57 (by rw [hs1]; decide +kernel) (by decide) ?_
            refine e_aload_n d_112_99 rfl rfl ?_
            refine e_getR d_112_100 oo_112 pF_8_32 (by decide) (hS8.k rfl) (hS8.r rt_0_3) rfl ?_
            refine e_getI d_112_103 oo_112 pF_8_205 (by decide) (hS8.k rfl) rfl ?_
            refine e_aload_n d_112_106 rfl rfl ?_
            refine e_getR d_112_107 oo_112 pF_8_28 (by decide) (hS8.k rfl) (hS8.r rt_0_2) rfl ?_
            refine e_getI d_112_110 oo_112 pF_8_205 (by decide) (hS8.k rfl) rfl ?_
            refine e_isub d_112_113 rfl ?_
            subst H
            exact e_iret d_112_114 rr_112
          by_cases hs2 : x2 = 2
          · replace H := H.2.2.1 hs2
            refine e_table (off := 58) (t := 115) d_112_57 (by rw [hs2]; decide +kernel) (by decide) ?_
            refine e_aload_n d_112_115 rfl rfl ?_
            refine e_getR d_112_116 oo_112 pF_8_32 (by decide) (hS8.k rfl) (hS8.r rt_0_3) rfl ?_
            refine e_getI d_112_119 oo_112 pF_8_208 (by decide) (hS8.k rfl) rfl ?_
            refine e_aload_n d_112_122 rfl rfl ?_
            refine e_getR d_112_123 oo_112 pF_8_28 (by decide) (hS8.k rfl) (hS8.r rt_0_2) rfl ?_
            refine e_getI d_112_126 oo_112 pF_8_208 (by decide) (hS8.k rfl) rfl ?_
            refine e_isub d_112_129 rfl ?_
            subst H
            exact e_iret d_112_130 rr_112
          by_cases hs3 : x2 = 3
          · replace H := H.2.2.2.1 hs3
            refine e_table (off := 74) (t := 131) d_112_57 (by rw [hs3]; decide +kernel) (by decide) ?_
            refine e_aload_n d_112_131 rfl rfl ?_
            refine e_getR d_112_132 oo_112 pF_8_32 (by decide) (hS8.k rfl) (hS8.r rt_0_3) rfl ?_
            refine e_getI d_112_135 oo_112 pF_8_133 (by decide) (hS8.k rfl) rfl ?_
            obtain ⟨v21, σ19, hcl, hS20, H⟩ := H
            refine e_scall (w1 := (some (.int v21), σ19)) d_112_138 kc_112_138 rfl ⟨Nat.le_of_ble_eq_true rfl, xx_112.symm⟩ rfl hcl ?_
            show Ev 112 141 [.ref 0, .int x1, .int x2] [.int v21] σ19 w
            subst H
            exact e_iret d_112_141 rr_112
          replace H := H.2.2.2.2 ⟨hs0, hs1, hs2, hs3⟩
          refine e_table (off := 85) (t := 142) d_112_57 (sw_112_57 hs0 hs1 hs2 hs3) (by decide) ?_
          refine e_aload_n d_112_142 rfl rfl ?_
          refine e_getR d_112_143 oo_112 pF_8_32 (by decide) (hS8.k rfl) (hS8.r rt_0_3) rfl ?_
          refine e_getI d_112_146 oo_112 pF_8_154 (by decide) (hS8.k rfl) rfl ?_
          obtain ⟨v12, σ10, hcl, hS11, H⟩ := H
          refine e_scall (w1 := (some (.int v12), σ10)) d_112_149 kc_112_149 rfl ⟨Nat.le_of_ble_eq_true rfl, xx_112.symm⟩ rfl hcl ?_
          show Ev 112 152 [.ref 0, .int x1, .int x2] [.int v12] σ10 w
          subst H
          exact e_iret d_112_152 rr_112
        · replace H := H.1 hc
          refine e_iconst d_112_20 ci_m1 rfl ?_
          subst H
          exact e_iret d_112_21 rr_112
/-! X8_dark -/
theorem b_113_0 {t : Nat} {σ : Mm} {w : Option Value × Mm} {x1 : Int32} (hS : Sg t σ) 
    (H : ∃ (v3 : Int32) (σ1 : Mm), Cl 142 [.ref 0, .int x1] σ (some (.int v3), σ1) ∧ Sg t σ1 ∧ ((v3 = 0 → (w = (some (.int (-1)), σ1))) ∧ (¬ (v3 = 0) → (∃ (σ4 : Mm), Cl 19 [.ref 30, .ref 26] σ1 (none, σ4) ∧ Sg t σ4 ∧ (∃ (σ7 : Mm), Cl 6 [.ref 38] σ4 (none, σ7) ∧ Sg t σ7 ∧ Ev 113 30 [.ref 0, .int x1, .int 0] [] σ7 w))))) :
    Ev 113 0 [.ref 0, .int x1, .retAddr 0] [] σ w := by
  refine e_aload_n d_113_0 rfl rfl ?_
  refine e_iload_n d_113_1 rfl rfl ?_
  obtain ⟨v3, σ1, hcl, hS2, H⟩ := H
  refine e_vcall (w1 := (some (.int v3), σ1)) d_113_2 kc_113_2 rfl ⟨Nat.le_of_ble_eq_true rfl, xx_113.symm⟩ rfl hcl ?_
  show Ev 113 5 [.ref 0, .int x1, .retAddr 0] [.int v3] σ1 w
  refine e_if_ne (t := 10) d_113_5 (by decide) rfl (fun hc => ?_) (fun hc => ?_)
  · replace H := H.2 hc
    refine e_aload_n d_113_10 rfl rfl ?_
    refine e_getR d_113_11 oo_113 pF_8_32 (by decide) (hS2.k rfl) (hS2.r rt_0_3) rfl ?_
    refine e_aload_n d_113_14 rfl rfl ?_
    refine e_getR d_113_15 oo_113 pF_8_28 (by decide) (hS2.k rfl) (hS2.r rt_0_2) rfl ?_
    obtain ⟨σ4, hcl, hS5, H⟩ := H
    refine e_vcall (w1 := (none, σ4)) d_113_18 kc_113_18 rfl ⟨Nat.le_of_ble_eq_true rfl, xx_113.symm⟩ rfl hcl ?_
    show Ev 113 21 [.ref 0, .int x1, .retAddr 0] [] σ4 w
    refine e_aload_n d_113_21 rfl rfl ?_
    refine e_getR d_113_22 oo_113 pF_8_41 (by decide) (hS5.k rfl) (hS5.r rt_0_6) rfl ?_
    obtain ⟨σ7, hcl, hS8, H⟩ := H
    refine e_vcall (w1 := (none, σ7)) d_113_25 kc_113_25 rfl ⟨Nat.le_of_ble_eq_true rfl, xx_113.symm⟩ rfl hcl ?_
    show Ev 113 28 [.ref 0, .int x1, .retAddr 0] [] σ7 w
    refine e_iconst d_113_28 ci_0 rfl ?_
    refine e_istore_n (ls2 := [.ref 0, .int x1, .int 0]) d_113_29 rfl rfl rfl ?_
    exact H
  · replace H := H.1 hc
    refine e_iconst d_113_8 ci_m1 rfl ?_
    subst H
    exact e_iret d_113_9 rr_113
theorem b_113_30 {t : Nat} {σ : Mm} {w : Option Value × Mm} {x1 : Int32} {x2 : Int32} (hS : Sg t σ) 
    (H : (199 < x2 → (w = (some (.int (-2)), σ))) ∧ (¬ (199 < x2) → (∃ (v3 : Int32) (σ1 : Mm), Cl 20 [.ref 30] σ (some (.int v3), σ1) ∧ Sg t σ1 ∧ ((((v3 >>> (x1 &&& 31)) &&& 1) = 0 → (w = (some (.int x2), σ1))) ∧ (¬ (((v3 >>> (x1 &&& 31)) &&& 1) = 0) → (∃ (σ4 : Mm), Cl 8 [.ref 38, .ref t, .ref 30, .int 1] σ1 (none, σ4) ∧ Sg t σ4 ∧ Ev 113 30 [.ref 0, .int x1, .int (x2 + 1)] [] σ4 w)))))) :
    Ev 113 30 [.ref 0, .int x1, .int x2] [] σ w := by
  refine e_iload_n d_113_30 rfl rfl ?_
  refine e_sipush d_113_31 cs_199 rfl ?_
  refine e_icmp_gt (t := 75) d_113_34 (by decide) rfl (fun hc => ?_) (fun hc => ?_)
  · replace H := H.1 hc
    refine e_bipush d_113_75 cb_m2 rfl ?_
    subst H
    exact e_iret d_113_77 rr_113
  · replace H := H.2 hc
    refine e_aload_n d_113_37 rfl rfl ?_
    refine e_getR d_113_38 oo_113 pF_8_32 (by decide) (hS.k rfl) (hS.r rt_0_3) rfl ?_
    obtain ⟨v3, σ1, hcl, hS2, H⟩ := H
    refine e_vcall (w1 := (some (.int v3), σ1)) d_113_41 kc_113_41 rfl ⟨Nat.le_of_ble_eq_true rfl, xx_113.symm⟩ rfl hcl ?_
    show Ev 113 44 [.ref 0, .int x1, .int x2] [.int v3] σ1 w
    refine e_iload_n d_113_44 rfl rfl ?_
    refine e_ishr d_113_45 rfl ?_
    refine e_iconst d_113_46 ci_1 rfl ?_
    refine e_iand d_113_47 rfl ?_
    refine e_if_ne (t := 53) d_113_48 (by decide) rfl (fun hc => ?_) (fun hc => ?_)
    · replace H := H.2 hc
      refine e_aload_n d_113_53 rfl rfl ?_
      refine e_getR d_113_54 oo_113 pF_8_41 (by decide) (hS2.k rfl) (hS2.r rt_0_6) rfl ?_
      refine e_aload_n d_113_57 rfl rfl ?_
      refine e_getR d_113_58 oo_113 pF_8_21 (by decide) (hS2.k rfl) hS2.told rfl ?_
      refine e_aload_n d_113_61 rfl rfl ?_
      refine e_getR d_113_62 oo_113 pF_8_32 (by decide) (hS2.k rfl) (hS2.r rt_0_3) rfl ?_
      refine e_iconst d_113_65 ci_1 rfl ?_
      obtain ⟨σ4, hcl, hS5, H⟩ := H
      refine e_vcall (w1 := (none, σ4)) d_113_66 kc_113_66 rfl ⟨Nat.le_of_ble_eq_true rfl, xx_113.symm⟩ rfl hcl ?_
      show Ev 113 69 [.ref 0, .int x1, .int x2] [] σ4 w
      refine e_iinc (ls2 := [.ref 0, .int x1, .int (x2 + 1)]) d_113_69 rfl ci_1 rfl rfl rfl ?_
      refine e_goto (t := 30) d_113_72 (by decide) ?_
      exact H
    · replace H := H.1 hc
      refine e_iload_n d_113_51 rfl rfl ?_
      subst H
      exact e_iret d_113_52 rr_113
/-! X8_ways -/
theorem b_114_0 {t : Nat} {σ : Mm} {w : Option Value × Mm} {x1 : Int32} (hS : Sg t σ) 
    (H : ∃ (v3 : Int32) (σ1 : Mm), Cl 144 [.ref 0, .int x1] σ (some (.int v3), σ1) ∧ Sg t σ1 ∧ ((v3 = 0 → (w = (some (.int (-1)), σ1))) ∧ (¬ (v3 = 0) → (∃ (σ4 : Mm), Cl 145 [.ref 0] σ1 (none, σ4) ∧ Sg t σ4 ∧ (∃ (v9 : Int32) (σ7 : Mm), Cl 74 [.ref 53, .int ((mI σ4 26 1) ^^^ x1)] σ4 (some (.int v9), σ7) ∧ Sg t σ7 ∧ (w = (some (.int v9), σ7))))))) :
    Ev 114 0 [.ref 0, .int x1] [] σ w := by
  refine e_aload_n d_114_0 rfl rfl ?_
  refine e_iload_n d_114_1 rfl rfl ?_
  obtain ⟨v3, σ1, hcl, hS2, H⟩ := H
  refine e_vcall (w1 := (some (.int v3), σ1)) d_114_2 kc_114_2 rfl ⟨Nat.le_of_ble_eq_true rfl, xx_114.symm⟩ rfl hcl ?_
  show Ev 114 5 [.ref 0, .int x1] [.int v3] σ1 w
  refine e_if_ne (t := 10) d_114_5 (by decide) rfl (fun hc => ?_) (fun hc => ?_)
  · replace H := H.2 hc
    refine e_aload_n d_114_10 rfl rfl ?_
    obtain ⟨σ4, hcl, hS5, H⟩ := H
    refine e_vcall (w1 := (none, σ4)) d_114_11 kc_114_11 rfl ⟨Nat.le_of_ble_eq_true rfl, xx_114.symm⟩ rfl hcl ?_
    show Ev 114 14 [.ref 0, .int x1] [] σ4 w
    refine e_aload_n d_114_14 rfl rfl ?_
    refine e_getR d_114_15 oo_114 pF_8_62 (by decide) (hS5.k rfl) (hS5.r rt_0_9) rfl ?_
    refine e_aload_n d_114_18 rfl rfl ?_
    refine e_getR d_114_19 oo_114 pF_8_28 (by decide) (hS5.k rfl) (hS5.r rt_0_2) rfl ?_
    refine e_getI d_114_22 oo_114 pF_8_130 (by decide) (hS5.k rfl) rfl ?_
    refine e_iload_n d_114_25 rfl rfl ?_
    refine e_ixor d_114_26 rfl ?_
    obtain ⟨v9, σ7, hcl, hS8, H⟩ := H
    refine e_vcall (w1 := (some (.int v9), σ7)) d_114_27 kc_114_27 rfl ⟨Nat.le_of_ble_eq_true rfl, xx_114.symm⟩ rfl hcl ?_
    show Ev 114 30 [.ref 0, .int x1] [.int v9] σ7 w
    subst H
    exact e_iret d_114_30 rr_114
  · replace H := H.1 hc
    refine e_iconst d_114_8 ci_m1 rfl ?_
    subst H
    exact e_iret d_114_9 rr_114
/-! X8_fewest -/
theorem b_115_0 {t : Nat} {σ : Mm} {w : Option Value × Mm} {x1 : Int32} (hS : Sg t σ) 
    (H : ∃ (v3 : Int32) (σ1 : Mm), Cl 144 [.ref 0, .int x1] σ (some (.int v3), σ1) ∧ Sg t σ1 ∧ ((v3 = 0 → (w = (some (.int (-1)), σ1))) ∧ (¬ (v3 = 0) → (∃ (σ4 : Mm), Cl 145 [.ref 0] σ1 (none, σ4) ∧ Sg t σ4 ∧ (∃ (v9 : Int32) (σ7 : Mm), Cl 75 [.ref 53, .int ((mI σ4 26 1) ^^^ x1)] σ4 (some (.int v9), σ7) ∧ Sg t σ7 ∧ (w = (some (.int v9), σ7))))))) :
    Ev 115 0 [.ref 0, .int x1] [] σ w := by
  refine e_aload_n d_115_0 rfl rfl ?_
  refine e_iload_n d_115_1 rfl rfl ?_
  obtain ⟨v3, σ1, hcl, hS2, H⟩ := H
  refine e_vcall (w1 := (some (.int v3), σ1)) d_115_2 kc_115_2 rfl ⟨Nat.le_of_ble_eq_true rfl, xx_115.symm⟩ rfl hcl ?_
  show Ev 115 5 [.ref 0, .int x1] [.int v3] σ1 w
  refine e_if_ne (t := 10) d_115_5 (by decide) rfl (fun hc => ?_) (fun hc => ?_)
  · replace H := H.2 hc
    refine e_aload_n d_115_10 rfl rfl ?_
    obtain ⟨σ4, hcl, hS5, H⟩ := H
    refine e_vcall (w1 := (none, σ4)) d_115_11 kc_115_11 rfl ⟨Nat.le_of_ble_eq_true rfl, xx_115.symm⟩ rfl hcl ?_
    show Ev 115 14 [.ref 0, .int x1] [] σ4 w
    refine e_aload_n d_115_14 rfl rfl ?_
    refine e_getR d_115_15 oo_115 pF_8_62 (by decide) (hS5.k rfl) (hS5.r rt_0_9) rfl ?_
    refine e_aload_n d_115_18 rfl rfl ?_
    refine e_getR d_115_19 oo_115 pF_8_28 (by decide) (hS5.k rfl) (hS5.r rt_0_2) rfl ?_
    refine e_getI d_115_22 oo_115 pF_8_130 (by decide) (hS5.k rfl) rfl ?_
    refine e_iload_n d_115_25 rfl rfl ?_
    refine e_ixor d_115_26 rfl ?_
    obtain ⟨v9, σ7, hcl, hS8, H⟩ := H
    refine e_vcall (w1 := (some (.int v9), σ7)) d_115_27 kc_115_27 rfl ⟨Nat.le_of_ble_eq_true rfl, xx_115.symm⟩ rfl hcl ?_
    show Ev 115 30 [.ref 0, .int x1] [.int v9] σ7 w
    subst H
    exact e_iret d_115_30 rr_115
  · replace H := H.1 hc
    refine e_iconst d_115_8 ci_m1 rfl ?_
    subst H
    exact e_iret d_115_9 rr_115
/-! X8_cheapest -/
theorem b_116_0 {t : Nat} {σ : Mm} {w : Option Value × Mm} {x1 : Int32} {x2 : Int32} (hS : Sg t σ) 
    (H : ∃ (v3 : Int32) (σ1 : Mm), Cl 144 [.ref 0, .int x1] σ (some (.int v3), σ1) ∧ Sg t σ1 ∧ ((v3 = 0 → (w = (some (.int (-1)), σ1))) ∧ (¬ (v3 = 0) → ((x2 < 0 → (w = (some (.int (-1)), σ1))) ∧ (¬ (x2 < 0) → ((1 < x2 → (w = (some (.int (-1)), σ1))) ∧ (¬ (1 < x2) → (∃ (σ4 : Mm), Cl 145 [.ref 0] σ1 (none, σ4) ∧ Sg t σ4 ∧ (∃ (v9 : Int32) (σ7 : Mm), Cl 77 [.ref 53, .int ((mI σ4 26 1) ^^^ x1), .ref t] σ4 (some (.int v9), σ7) ∧ Sg t σ7 ∧ ((v9 < 0 → (w = (some (.int v9), σ7))) ∧ (¬ (v9 < 0) → ((x2 = 0 → (w = (some (.int v9), σ7))) ∧ (¬ (x2 = 0) → (∃ (v12 : Int32) (σ10 : Mm), Cl 95 [.ref t, .int v9] σ7 (some (.int v12), σ10) ∧ Sg t σ10 ∧ (w = (some (.int v12), σ10)))))))))))))))) :
    Ev 116 0 [.ref 0, .int x1, .int x2, .retAddr 0] [] σ w := by
  refine e_aload_n d_116_0 rfl rfl ?_
  refine e_iload_n d_116_1 rfl rfl ?_
  obtain ⟨v3, σ1, hcl, hS2, H⟩ := H
  refine e_vcall (w1 := (some (.int v3), σ1)) d_116_2 kc_116_2 rfl ⟨Nat.le_of_ble_eq_true rfl, xx_116.symm⟩ rfl hcl ?_
  show Ev 116 5 [.ref 0, .int x1, .int x2, .retAddr 0] [.int v3] σ1 w
  refine e_if_eq (t := 17) d_116_5 (by decide) rfl (fun hc => ?_) (fun hc => ?_)
  · replace H := H.1 hc
    refine e_iconst d_116_17 ci_m1 rfl ?_
    subst H
    exact e_iret d_116_18 rr_116
  · replace H := H.2 hc
    refine e_iload_n d_116_8 rfl rfl ?_
    refine e_if_lt (t := 17) d_116_9 (by decide) rfl (fun hc => ?_) (fun hc => ?_)
    · replace H := H.1 hc
      refine e_iconst d_116_17 ci_m1 rfl ?_
      subst H
      exact e_iret d_116_18 rr_116
    · replace H := H.2 hc
      refine e_iload_n d_116_12 rfl rfl ?_
      refine e_iconst d_116_13 ci_1 rfl ?_
      refine e_icmp_le (t := 19) d_116_14 (by decide) rfl (fun hc => ?_) (fun hc => ?_)
      · replace H := H.2 hc
        refine e_aload_n d_116_19 rfl rfl ?_
        obtain ⟨σ4, hcl, hS5, H⟩ := H
        refine e_vcall (w1 := (none, σ4)) d_116_20 kc_116_20 rfl ⟨Nat.le_of_ble_eq_true rfl, xx_116.symm⟩ rfl hcl ?_
        show Ev 116 23 [.ref 0, .int x1, .int x2, .retAddr 0] [] σ4 w
        refine e_aload_n d_116_23 rfl rfl ?_
        refine e_getR d_116_24 oo_116 pF_8_62 (by decide) (hS5.k rfl) (hS5.r rt_0_9) rfl ?_
        refine e_aload_n d_116_27 rfl rfl ?_
        refine e_getR d_116_28 oo_116 pF_8_28 (by decide) (hS5.k rfl) (hS5.r rt_0_2) rfl ?_
        refine e_getI d_116_31 oo_116 pF_8_130 (by decide) (hS5.k rfl) rfl ?_
        refine e_iload_n d_116_34 rfl rfl ?_
        refine e_ixor d_116_35 rfl ?_
        refine e_aload_n d_116_36 rfl rfl ?_
        refine e_getR d_116_37 oo_116 pF_8_21 (by decide) (hS5.k rfl) hS5.told rfl ?_
        obtain ⟨v9, σ7, hcl, hS8, H⟩ := H
        refine e_vcall (w1 := (some (.int v9), σ7)) d_116_40 kc_116_40 rfl ⟨Nat.le_of_ble_eq_true rfl, xx_116.symm⟩ rfl hcl ?_
        show Ev 116 43 [.ref 0, .int x1, .int x2, .retAddr 0] [.int v9] σ7 w
        refine e_istore_n (ls2 := [.ref 0, .int x1, .int x2, .int v9]) d_116_43 rfl rfl rfl ?_
        refine e_iload_n d_116_44 rfl rfl ?_
        refine e_if_lt (t := 52) d_116_45 (by decide) rfl (fun hc => ?_) (fun hc => ?_)
        · replace H := H.1 hc
          refine e_iload_n d_116_52 rfl rfl ?_
          refine e_goto (t := 64) d_116_53 (by decide) ?_
          subst H
          exact e_iret d_116_64 rr_116
        · replace H := H.2 hc
          refine e_iload_n d_116_48 rfl rfl ?_
          refine e_if_ne (t := 56) d_116_49 (by decide) rfl (fun hc => ?_) (fun hc => ?_)
          · replace H := H.2 hc
            refine e_aload_n d_116_56 rfl rfl ?_
            refine e_getR d_116_57 oo_116 pF_8_21 (by decide) (hS8.k rfl) hS8.told rfl ?_
            refine e_iload_n d_116_60 rfl rfl ?_
            obtain ⟨v12, σ10, hcl, hS11, H⟩ := H
            refine e_vcall (w1 := (some (.int v12), σ10)) d_116_61 kc_116_61 rfl ⟨Nat.le_of_ble_eq_true rfl, xx_116.symm⟩ rfl hcl ?_
            show Ev 116 64 [.ref 0, .int x1, .int x2, .int v9] [.int v12] σ10 w
            subst H
            exact e_iret d_116_64 rr_116
          · replace H := H.1 hc
            refine e_iload_n d_116_52 rfl rfl ?_
            refine e_goto (t := 64) d_116_53 (by decide) ?_
            subst H
            exact e_iret d_116_64 rr_116
      · replace H := H.1 hc
        refine e_iconst d_116_17 ci_m1 rfl ?_
        subst H
        exact e_iret d_116_18 rr_116
/-! X8_must -/
theorem b_117_0 {t : Nat} {σ : Mm} {w : Option Value × Mm} {x1 : Int32} {x2 : Int32} (hS : Sg t σ) 
    (H : ∃ (v3 : Int32) (σ1 : Mm), Cl 144 [.ref 0, .int x1] σ (some (.int v3), σ1) ∧ Sg t σ1 ∧ ((v3 = 0 → (w = (some (.int (-1)), σ1))) ∧ (¬ (v3 = 0) → ((x2 < 0 → (w = (some (.int (-1)), σ1))) ∧ (¬ (x2 < 0) → ((1 < x2 → (w = (some (.int (-1)), σ1))) ∧ (¬ (1 < x2) → (∃ (σ4 : Mm), Cl 145 [.ref 0] σ1 (none, σ4) ∧ Sg t σ4 ∧ (∃ (v9 : Int32) (σ7 : Mm), Cl 74 [.ref 53, .int ((mI σ4 26 1) ^^^ x1)] σ4 (some (.int v9), σ7) ∧ Sg t σ7 ∧ ((v9 = 0 → (w = (some (.int (-2)), σ7))) ∧ (¬ (v9 = 0) → ((x2 = 0 → (∃ (v15 : Int32) (σ13 : Mm), Cl 78 [.ref 53, .int ((mI σ4 26 1) ^^^ x1)] σ7 (some (.int v15), σ13) ∧ Sg t σ13 ∧ (w = (some (.int v15), σ13)))) ∧ (¬ (x2 = 0) → (∃ (v12 : Int32) (σ10 : Mm), Cl 79 [.ref 53, .int ((mI σ4 26 1) ^^^ x1)] σ7 (some (.int v12), σ10) ∧ Sg t σ10 ∧ (w = (some (.int v12), σ10)))))))))))))))) :
    Ev 117 0 [.ref 0, .int x1, .int x2, .retAddr 0] [] σ w := by
  refine e_aload_n d_117_0 rfl rfl ?_
  refine e_iload_n d_117_1 rfl rfl ?_
  obtain ⟨v3, σ1, hcl, hS2, H⟩ := H
  refine e_vcall (w1 := (some (.int v3), σ1)) d_117_2 kc_117_2 rfl ⟨Nat.le_of_ble_eq_true rfl, xx_117.symm⟩ rfl hcl ?_
  show Ev 117 5 [.ref 0, .int x1, .int x2, .retAddr 0] [.int v3] σ1 w
  refine e_if_eq (t := 17) d_117_5 (by decide) rfl (fun hc => ?_) (fun hc => ?_)
  · replace H := H.1 hc
    refine e_iconst d_117_17 ci_m1 rfl ?_
    subst H
    exact e_iret d_117_18 rr_117
  · replace H := H.2 hc
    refine e_iload_n d_117_8 rfl rfl ?_
    refine e_if_lt (t := 17) d_117_9 (by decide) rfl (fun hc => ?_) (fun hc => ?_)
    · replace H := H.1 hc
      refine e_iconst d_117_17 ci_m1 rfl ?_
      subst H
      exact e_iret d_117_18 rr_117
    · replace H := H.2 hc
      refine e_iload_n d_117_12 rfl rfl ?_
      refine e_iconst d_117_13 ci_1 rfl ?_
      refine e_icmp_le (t := 19) d_117_14 (by decide) rfl (fun hc => ?_) (fun hc => ?_)
      · replace H := H.2 hc
        refine e_aload_n d_117_19 rfl rfl ?_
        obtain ⟨σ4, hcl, hS5, H⟩ := H
        refine e_vcall (w1 := (none, σ4)) d_117_20 kc_117_20 rfl ⟨Nat.le_of_ble_eq_true rfl, xx_117.symm⟩ rfl hcl ?_
        show Ev 117 23 [.ref 0, .int x1, .int x2, .retAddr 0] [] σ4 w
        refine e_aload_n d_117_23 rfl rfl ?_
        refine e_getR d_117_24 oo_117 pF_8_28 (by decide) (hS5.k rfl) (hS5.r rt_0_2) rfl ?_
        refine e_getI d_117_27 oo_117 pF_8_130 (by decide) (hS5.k rfl) rfl ?_
        refine e_iload_n d_117_30 rfl rfl ?_
        refine e_ixor d_117_31 rfl ?_
        refine e_istore_n (ls2 := [.ref 0, .int x1, .int x2, .int ((mI σ4 26 1) ^^^ x1)]) d_117_32 rfl rfl rfl ?_
        refine e_aload_n d_117_33 rfl rfl ?_
        refine e_getR d_117_34 oo_117 pF_8_62 (by decide) (hS5.k rfl) (hS5.r rt_0_9) rfl ?_
        refine e_iload_n d_117_37 rfl rfl ?_
        obtain ⟨v9, σ7, hcl, hS8, H⟩ := H
        refine e_vcall (w1 := (some (.int v9), σ7)) d_117_38 kc_117_38 rfl ⟨Nat.le_of_ble_eq_true rfl, xx_117.symm⟩ rfl hcl ?_
        show Ev 117 41 [.ref 0, .int x1, .int x2, .int ((mI σ4 26 1) ^^^ x1)] [.int v9] σ7 w
        refine e_if_ne (t := 47) d_117_41 (by decide) rfl (fun hc => ?_) (fun hc => ?_)
        · replace H := H.2 hc
          refine e_iload_n d_117_47 rfl rfl ?_
          refine e_if_ne (t := 62) d_117_48 (by decide) rfl (fun hc => ?_) (fun hc => ?_)
          · replace H := H.2 hc
            refine e_aload_n d_117_62 rfl rfl ?_
            refine e_getR d_117_63 oo_117 pF_8_62 (by decide) (hS8.k rfl) (hS8.r rt_0_9) rfl ?_
            refine e_iload_n d_117_66 rfl rfl ?_
            obtain ⟨v12, σ10, hcl, hS11, H⟩ := H
            refine e_vcall (w1 := (some (.int v12), σ10)) d_117_67 kc_117_67 rfl ⟨Nat.le_of_ble_eq_true rfl, xx_117.symm⟩ rfl hcl ?_
            show Ev 117 70 [.ref 0, .int x1, .int x2, .int ((mI σ4 26 1) ^^^ x1)] [.int v12] σ10 w
            subst H
            exact e_iret d_117_70 rr_117
          · replace H := H.1 hc
            refine e_aload_n d_117_51 rfl rfl ?_
            refine e_getR d_117_52 oo_117 pF_8_62 (by decide) (hS8.k rfl) (hS8.r rt_0_9) rfl ?_
            refine e_iload_n d_117_55 rfl rfl ?_
            obtain ⟨v15, σ13, hcl, hS14, H⟩ := H
            refine e_vcall (w1 := (some (.int v15), σ13)) d_117_56 kc_117_56 rfl ⟨Nat.le_of_ble_eq_true rfl, xx_117.symm⟩ rfl hcl ?_
            show Ev 117 59 [.ref 0, .int x1, .int x2, .int ((mI σ4 26 1) ^^^ x1)] [.int v15] σ13 w
            refine e_goto (t := 70) d_117_59 (by decide) ?_
            subst H
            exact e_iret d_117_70 rr_117
        · replace H := H.1 hc
          refine e_bipush d_117_44 cb_m2 rfl ?_
          subst H
          exact e_iret d_117_46 rr_117
      · replace H := H.1 hc
        refine e_iconst d_117_17 ci_m1 rfl ?_
        subst H
        exact e_iret d_117_18 rr_117
/-! X8_rank -/
theorem b_118_0 {t : Nat} {σ : Mm} {w : Option Value × Mm}  (hS : Sg t σ) 
    (H : ∃ (v3 : Int32) (σ1 : Mm), Cl 146 [.ref 0] σ (some (.int v3), σ1) ∧ Sg t σ1 ∧ (∃ (v6 : Int32) (σ4 : Mm), Cl 276 [.int v3] σ1 (some (.int v6), σ4) ∧ Sg t σ4 ∧ (w = (some (.int v6), σ4)))) :
    Ev 118 0 [.ref 0] [] σ w := by
  refine e_aload_n d_118_0 rfl rfl ?_
  obtain ⟨v3, σ1, hcl, hS2, H⟩ := H
  refine e_vcall (w1 := (some (.int v3), σ1)) d_118_1 kc_118_1 rfl ⟨Nat.le_of_ble_eq_true rfl, xx_118.symm⟩ rfl hcl ?_
  show Ev 118 4 [.ref 0] [.int v3] σ1 w
  obtain ⟨v6, σ4, hcl, hS5, H⟩ := H
  refine e_scall (w1 := (some (.int v6), σ4)) d_118_4 kc_118_4 rfl ⟨Nat.le_of_ble_eq_true rfl, xx_118.symm⟩ rfl hcl ?_
  show Ev 118 7 [.ref 0] [.int v6] σ4 w
  subst H
  exact e_iret d_118_7 rr_118
/-! X8_basis -/
theorem b_119_0 {t : Nat} {σ : Mm} {w : Option Value × Mm}  (hS : Sg t σ) 
    (H : ∃ (v3 : Int32) (σ1 : Mm), Cl 146 [.ref 0] σ (some (.int v3), σ1) ∧ Sg t σ1 ∧ (w = (some (.int v3), σ1))) :
    Ev 119 0 [.ref 0] [] σ w := by
  refine e_aload_n d_119_0 rfl rfl ?_
  obtain ⟨v3, σ1, hcl, hS2, H⟩ := H
  refine e_vcall (w1 := (some (.int v3), σ1)) d_119_1 kc_119_1 rfl ⟨Nat.le_of_ble_eq_true rfl, xx_119.symm⟩ rfl hcl ?_
  show Ev 119 4 [.ref 0] [.int v3] σ1 w
  subst H
  exact e_iret d_119_4 rr_119
/-! X8_sumOf -/
theorem b_120_0 {t : Nat} {σ : Mm} {w : Option Value × Mm} {x1 : Int32} (hS : Sg t σ) 
    (H : ∃ (v3 : Int32) (σ1 : Mm), Cl 143 [.ref 0, .int x1] σ (some (.int v3), σ1) ∧ Sg t σ1 ∧ ((v3 = 0 → (w = (some (.int (-1)), σ1))) ∧ (¬ (v3 = 0) → (∃ (v6 : Int32) (σ4 : Mm), Cl 21 [.ref 26, .ref t] σ1 (some (.int v6), σ4) ∧ Sg t σ4 ∧ ((((v6 >>> (x1 &&& 31)) &&& 1) = 0 → (w = (some (.int (-2)), σ4))) ∧ (¬ (((v6 >>> (x1 &&& 31)) &&& 1) = 0) → (∃ (v9 : Int32) (σ7 : Mm), Cl 1 [.ref 56, .ref 28, .int x1, .int v6] σ4 (some (.int v9), σ7) ∧ Sg t σ7 ∧ (inb x1 10 = true ∧ (∃ (v12 : Int32) (σ10 : Mm), Cl 2 [.ref 56, .int (mI σ7 28 x1.toNatClampNeg)] σ7 (some (.int v12), σ10) ∧ Sg t σ10 ∧ (w = (some (.int v12), σ10))))))))))) :
    Ev 120 0 [.ref 0, .int x1, .retAddr 0] [] σ w := by
  refine e_aload_n d_120_0 rfl rfl ?_
  refine e_iload_n d_120_1 rfl rfl ?_
  obtain ⟨v3, σ1, hcl, hS2, H⟩ := H
  refine e_vcall (w1 := (some (.int v3), σ1)) d_120_2 kc_120_2 rfl ⟨Nat.le_of_ble_eq_true rfl, xx_120.symm⟩ rfl hcl ?_
  show Ev 120 5 [.ref 0, .int x1, .retAddr 0] [.int v3] σ1 w
  refine e_if_ne (t := 10) d_120_5 (by decide) rfl (fun hc => ?_) (fun hc => ?_)
  · replace H := H.2 hc
    refine e_aload_n d_120_10 rfl rfl ?_
    refine e_getR d_120_11 oo_120 pF_8_28 (by decide) (hS2.k rfl) (hS2.r rt_0_2) rfl ?_
    refine e_aload_n d_120_14 rfl rfl ?_
    refine e_getR d_120_15 oo_120 pF_8_21 (by decide) (hS2.k rfl) hS2.told rfl ?_
    obtain ⟨v6, σ4, hcl, hS5, H⟩ := H
    refine e_vcall (w1 := (some (.int v6), σ4)) d_120_18 kc_120_18 rfl ⟨Nat.le_of_ble_eq_true rfl, xx_120.symm⟩ rfl hcl ?_
    show Ev 120 21 [.ref 0, .int x1, .retAddr 0] [.int v6] σ4 w
    refine e_istore_n (ls2 := [.ref 0, .int x1, .int v6]) d_120_21 rfl rfl rfl ?_
    refine e_iload_n d_120_22 rfl rfl ?_
    refine e_iload_n d_120_23 rfl rfl ?_
    refine e_ishr d_120_24 rfl ?_
    refine e_iconst d_120_25 ci_1 rfl ?_
    refine e_iand d_120_26 rfl ?_
    refine e_if_ne (t := 33) d_120_27 (by decide) rfl (fun hc => ?_) (fun hc => ?_)
    · replace H := H.2 hc
      refine e_aload_n d_120_33 rfl rfl ?_
      refine e_getR d_120_34 oo_120 pF_8_69 (by decide) (hS5.k rfl) (hS5.r rt_0_10) rfl ?_
      refine e_aload_n d_120_37 rfl rfl ?_
      refine e_getR d_120_38 oo_120 pF_8_28 (by decide) (hS5.k rfl) (hS5.r rt_0_2) rfl ?_
      refine e_getR d_120_41 oo_120 pF_8_160 (by decide) (hS5.k rfl) (hS5.r rt_26_8) rfl ?_
      refine e_iload_n d_120_44 rfl rfl ?_
      refine e_iload_n d_120_45 rfl rfl ?_
      obtain ⟨v9, σ7, hcl, hS8, H⟩ := H
      refine e_vcall (w1 := (some (.int v9), σ7)) d_120_46 kc_120_46 rfl ⟨Nat.le_of_ble_eq_true rfl, xx_120.symm⟩ rfl hcl ?_
      show Ev 120 49 [.ref 0, .int x1, .int v6] [.int v9] σ7 w
      refine e_pop d_120_49 rfl rfl ?_
      refine e_aload_n d_120_50 rfl rfl ?_
      refine e_getR d_120_51 oo_120 pF_8_69 (by decide) (hS8.k rfl) (hS8.r rt_0_10) rfl ?_
      refine e_aload_n d_120_54 rfl rfl ?_
      refine e_getR d_120_55 oo_120 pF_8_28 (by decide) (hS8.k rfl) (hS8.r rt_0_2) rfl ?_
      refine e_getR d_120_58 oo_120 pF_8_160 (by decide) (hS8.k rfl) (hS8.r rt_26_8) rfl ?_
      refine e_iload_n d_120_61 rfl rfl ?_
      obtain ⟨hb, H⟩ := H
      refine e_iaload (v := (mI σ7 28 x1.toNatClampNeg)) d_120_62 (rdI_at (hS8.k rfl) hb) rfl ?_
      obtain ⟨v12, σ10, hcl, hS11, H⟩ := H
      refine e_vcall (w1 := (some (.int v12), σ10)) d_120_63 kc_120_63 rfl ⟨Nat.le_of_ble_eq_true rfl, xx_120.symm⟩ rfl hcl ?_
      show Ev 120 66 [.ref 0, .int x1, .int v6] [.int v12] σ10 w
      subst H
      exact e_iret d_120_66 rr_120
    · replace H := H.1 hc
      refine e_bipush d_120_30 cb_m2 rfl ?_
      subst H
      exact e_iret d_120_32 rr_120
  · replace H := H.1 hc
    refine e_iconst d_120_8 ci_m1 rfl ?_
    subst H
    exact e_iret d_120_9 rr_120
/-! X8_silent -/
theorem b_121_0 {t : Nat} {σ : Mm} {w : Option Value × Mm} {x1 : Int32} (hS : Sg t σ) 
    (H : (x1 < 0 → (w = (some (.int (-1)), σ))) ∧ (¬ (x1 < 0) → ((1 < x1 → (w = (some (.int (-1)), σ))) ∧ (¬ (1 < x1) → (∃ (σ1 : Mm), Cl 145 [.ref 0] σ (none, σ1) ∧ Sg t σ1 ∧ ((x1 = 0 → (∃ (v9 : Int32) (σ7 : Mm), Cl 74 [.ref 53, .int 0] σ1 (some (.int v9), σ7) ∧ Sg t σ7 ∧ (w = (some (.int (v9 - 1)), σ7)))) ∧ (¬ (x1 = 0) → (∃ (v6 : Int32) (σ4 : Mm), Cl 76 [.ref 53] σ1 (some (.int v6), σ4) ∧ Sg t σ4 ∧ (w = (some (.int v6), σ4)))))))))) :
    Ev 121 0 [.ref 0, .int x1] [] σ w := by
  refine e_iload_n d_121_0 rfl rfl ?_
  refine e_if_lt (t := 9) d_121_1 (by decide) rfl (fun hc => ?_) (fun hc => ?_)
  · replace H := H.1 hc
    refine e_iconst d_121_9 ci_m1 rfl ?_
    subst H
    exact e_iret d_121_10 rr_121
  · replace H := H.2 hc
    refine e_iload_n d_121_4 rfl rfl ?_
    refine e_iconst d_121_5 ci_1 rfl ?_
    refine e_icmp_le (t := 11) d_121_6 (by decide) rfl (fun hc => ?_) (fun hc => ?_)
    · replace H := H.2 hc
      refine e_aload_n d_121_11 rfl rfl ?_
      obtain ⟨σ1, hcl, hS2, H⟩ := H
      refine e_vcall (w1 := (none, σ1)) d_121_12 kc_121_12 rfl ⟨Nat.le_of_ble_eq_true rfl, xx_121.symm⟩ rfl hcl ?_
      show Ev 121 15 [.ref 0, .int x1] [] σ1 w
      refine e_iload_n d_121_15 rfl rfl ?_
      refine e_if_ne (t := 32) d_121_16 (by decide) rfl (fun hc => ?_) (fun hc => ?_)
      · replace H := H.2 hc
        refine e_aload_n d_121_32 rfl rfl ?_
        refine e_getR d_121_33 oo_121 pF_8_62 (by decide) (hS2.k rfl) (hS2.r rt_0_9) rfl ?_
        obtain ⟨v6, σ4, hcl, hS5, H⟩ := H
        refine e_vcall (w1 := (some (.int v6), σ4)) d_121_36 kc_121_36 rfl ⟨Nat.le_of_ble_eq_true rfl, xx_121.symm⟩ rfl hcl ?_
        show Ev 121 39 [.ref 0, .int x1] [.int v6] σ4 w
        subst H
        exact e_iret d_121_39 rr_121
      · replace H := H.1 hc
        refine e_aload_n d_121_19 rfl rfl ?_
        refine e_getR d_121_20 oo_121 pF_8_62 (by decide) (hS2.k rfl) (hS2.r rt_0_9) rfl ?_
        refine e_iconst d_121_23 ci_0 rfl ?_
        obtain ⟨v9, σ7, hcl, hS8, H⟩ := H
        refine e_vcall (w1 := (some (.int v9), σ7)) d_121_24 kc_121_24 rfl ⟨Nat.le_of_ble_eq_true rfl, xx_121.symm⟩ rfl hcl ?_
        show Ev 121 27 [.ref 0, .int x1] [.int v9] σ7 w
        refine e_iconst d_121_27 ci_1 rfl ?_
        refine e_isub d_121_28 rfl ?_
        refine e_goto (t := 39) d_121_29 (by decide) ?_
        subst H
        exact e_iret d_121_39 rr_121
    · replace H := H.1 hc
      refine e_iconst d_121_9 ci_m1 rfl ?_
      subst H
      exact e_iret d_121_10 rr_121
/-! X8_darkest -/
theorem b_122_0 {t : Nat} {σ : Mm} {w : Option Value × Mm} {x1 : Int32} (hS : Sg t σ) 
    (H : (x1 < 0 → (w = (some (.int (-1)), σ))) ∧ (¬ (x1 < 0) → ((2 < x1 → (w = (some (.int (-1)), σ))) ∧ (¬ (2 < x1) → (∃ (σ1 : Mm), Cl 145 [.ref 0] σ (none, σ1) ∧ Sg t σ1 ∧ (∃ (v6 : Int32) (σ4 : Mm), Cl 80 [.ref 53, .int (mI σ1 26 1)] σ1 (some (.int v6), σ4) ∧ Sg t σ4 ∧ (∃ (v9 : Int32) (σ7 : Mm), Cl 72 [.ref 53, .int v6] σ4 (some (.int v9), σ7) ∧ Sg t σ7 ∧ ((x1 = 0 → (∃ (v12 : Int32) (σ10 : Mm), Cl 276 [.int ((mI σ4 26 1) ^^^ v9)] σ7 (some (.int v12), σ10) ∧ Sg t σ10 ∧ (w = (some (.int v12), σ10)))) ∧ (x1 = 1 → (w = (some (.int v6), σ7))) ∧ ((¬ x1 = 0 ∧ ¬ x1 = 1) → (w = (some (.int ((mI σ4 26 1) ^^^ v9)), σ7))))))))))) :
    Ev 122 0 [.ref 0, .int x1, .retAddr 0, .retAddr 0] [] σ w := by
  refine e_iload_n d_122_0 rfl rfl ?_
  refine e_if_lt (t := 9) d_122_1 (by decide) rfl (fun hc => ?_) (fun hc => ?_)
  · replace H := H.1 hc
    refine e_iconst d_122_9 ci_m1 rfl ?_
    subst H
    exact e_iret d_122_10 rr_122
  · replace H := H.2 hc
    refine e_iload_n d_122_4 rfl rfl ?_
    refine e_iconst d_122_5 ci_2 rfl ?_
    refine e_icmp_le (t := 11) d_122_6 (by decide) rfl (fun hc => ?_) (fun hc => ?_)
    · replace H := H.2 hc
      refine e_aload_n d_122_11 rfl rfl ?_
      obtain ⟨σ1, hcl, hS2, H⟩ := H
      refine e_vcall (w1 := (none, σ1)) d_122_12 kc_122_12 rfl ⟨Nat.le_of_ble_eq_true rfl, xx_122.symm⟩ rfl hcl ?_
      show Ev 122 15 [.ref 0, .int x1, .retAddr 0, .retAddr 0] [] σ1 w
      refine e_aload_n d_122_15 rfl rfl ?_
      refine e_getR d_122_16 oo_122 pF_8_62 (by decide) (hS2.k rfl) (hS2.r rt_0_9) rfl ?_
      refine e_aload_n d_122_19 rfl rfl ?_
      refine e_getR d_122_20 oo_122 pF_8_28 (by decide) (hS2.k rfl) (hS2.r rt_0_2) rfl ?_
      refine e_getI d_122_23 oo_122 pF_8_130 (by decide) (hS2.k rfl) rfl ?_
      obtain ⟨v6, σ4, hcl, hS5, H⟩ := H
      refine e_vcall (w1 := (some (.int v6), σ4)) d_122_26 kc_122_26 rfl ⟨Nat.le_of_ble_eq_true rfl, xx_122.symm⟩ rfl hcl ?_
      show Ev 122 29 [.ref 0, .int x1, .retAddr 0, .retAddr 0] [.int v6] σ4 w
      refine e_istore_n (ls2 := [.ref 0, .int x1, .int v6, .retAddr 0]) d_122_29 rfl rfl rfl ?_
      refine e_aload_n d_122_30 rfl rfl ?_
      refine e_getR d_122_31 oo_122 pF_8_28 (by decide) (hS5.k rfl) (hS5.r rt_0_2) rfl ?_
      refine e_getI d_122_34 oo_122 pF_8_130 (by decide) (hS5.k rfl) rfl ?_
      refine e_aload_n d_122_37 rfl rfl ?_
      refine e_getR d_122_38 oo_122 pF_8_62 (by decide) (hS5.k rfl) (hS5.r rt_0_9) rfl ?_
      refine e_iload_n d_122_41 rfl rfl ?_
      obtain ⟨v9, σ7, hcl, hS8, H⟩ := H
      refine e_vcall (w1 := (some (.int v9), σ7)) d_122_42 kc_122_42 rfl ⟨Nat.le_of_ble_eq_true rfl, xx_122.symm⟩ rfl hcl ?_
      show Ev 122 45 [.ref 0, .int x1, .int v6, .retAddr 0] [.int v9, .int (mI σ4 26 1)] σ7 w
      refine e_ixor d_122_45 rfl ?_
      refine e_istore_n (ls2 := [.ref 0, .int x1, .int v6, .int ((mI σ4 26 1) ^^^ v9)]) d_122_46 rfl rfl rfl ?_
      refine e_iload_n d_122_47 rfl rfl ?_
      by_cases hs0 : x1 = 0
      · replace H := H.1 hs0
        refine e_lookup (off := 28) (t := 76) d_122_48 (by decide) (by rw [hs0]; decide +kernel) (by decide) ?_
        refine e_iload_n d_122_76 rfl rfl ?_
        obtain ⟨v12, σ10, hcl, hS11, H⟩ := H
        refine e_scall (w1 := (some (.int v12), σ10)) d_122_77 kc_122_77 rfl ⟨Nat.le_of_ble_eq_true rfl, xx_122.symm⟩ rfl hcl ?_
        show Ev 122 80 [.ref 0, .int x1, .int v6, .int ((mI σ4 26 1) ^^^ v9)] [.int v12] σ10 w
        subst H
        exact e_iret d_122_80 rr_122
      by_cases hs1 : x1 = 1
      · replace H := H.2.1 hs1
        refine e_lookup (off := 33) (t := 81) d_122_48 (by decide) (by rw [hs1]; decide +kernel) (by decide) ?_
        refine e_iload_n d_122_81 rfl rfl ?_
        subst H
        exact e_iret d_122_82 rr_122
      replace H := H.2.2 ⟨hs0, hs1⟩
      refine e_lookup (off := 35) (t := 83) d_122_48 (by decide) (sw_122_48 hs0 hs1) (by decide) ?_
      refine e_iload_n d_122_83 rfl rfl ?_
      subst H
      exact e_iret d_122_84 rr_122
    · replace H := H.1 hc
      refine e_iconst d_122_9 ci_m1 rfl ?_
      subst H
      exact e_iret d_122_10 rr_122
/-! X8_twins -/
theorem b_123_0 {t : Nat} {σ : Mm} {w : Option Value × Mm} {x1 : Int32} (hS : Sg t σ) 
    (H : ∃ (v3 : Int32) (σ1 : Mm), Cl 142 [.ref 0, .int x1] σ (some (.int v3), σ1) ∧ Sg t σ1 ∧ ((v3 = 0 → (w = (some (.int (-1)), σ1))) ∧ (¬ (v3 = 0) → (∃ (v6 : Int32) (σ4 : Mm), Cl 21 [.ref 26, .ref t] σ1 (some (.int v6), σ4) ∧ Sg t σ4 ∧ (∃ (v9 : Int32) (σ7 : Mm), Cl 22 [.ref 26, .int x1] σ4 (some (.int v9), σ7) ∧ Sg t σ7 ∧ Ev 123 39 [.ref 0, .int x1, .int v6, .int (v9 &&& v6), .int 0, .int 0] [] σ7 w))))) :
    Ev 123 0 [.ref 0, .int x1, .retAddr 0, .retAddr 0, .retAddr 0, .retAddr 0] [] σ w := by
  refine e_aload_n d_123_0 rfl rfl ?_
  refine e_iload_n d_123_1 rfl rfl ?_
  obtain ⟨v3, σ1, hcl, hS2, H⟩ := H
  refine e_vcall (w1 := (some (.int v3), σ1)) d_123_2 kc_123_2 rfl ⟨Nat.le_of_ble_eq_true rfl, xx_123.symm⟩ rfl hcl ?_
  show Ev 123 5 [.ref 0, .int x1, .retAddr 0, .retAddr 0, .retAddr 0, .retAddr 0] [.int v3] σ1 w
  refine e_if_ne (t := 10) d_123_5 (by decide) rfl (fun hc => ?_) (fun hc => ?_)
  · replace H := H.2 hc
    refine e_aload_n d_123_10 rfl rfl ?_
    refine e_getR d_123_11 oo_123 pF_8_28 (by decide) (hS2.k rfl) (hS2.r rt_0_2) rfl ?_
    refine e_aload_n d_123_14 rfl rfl ?_
    refine e_getR d_123_15 oo_123 pF_8_21 (by decide) (hS2.k rfl) hS2.told rfl ?_
    obtain ⟨v6, σ4, hcl, hS5, H⟩ := H
    refine e_vcall (w1 := (some (.int v6), σ4)) d_123_18 kc_123_18 rfl ⟨Nat.le_of_ble_eq_true rfl, xx_123.symm⟩ rfl hcl ?_
    show Ev 123 21 [.ref 0, .int x1, .retAddr 0, .retAddr 0, .retAddr 0, .retAddr 0] [.int v6] σ4 w
    refine e_istore_n (ls2 := [.ref 0, .int x1, .int v6, .retAddr 0, .retAddr 0, .retAddr 0]) d_123_21 rfl rfl rfl ?_
    refine e_aload_n d_123_22 rfl rfl ?_
    refine e_getR d_123_23 oo_123 pF_8_28 (by decide) (hS5.k rfl) (hS5.r rt_0_2) rfl ?_
    refine e_iload_n d_123_26 rfl rfl ?_
    obtain ⟨v9, σ7, hcl, hS8, H⟩ := H
    refine e_vcall (w1 := (some (.int v9), σ7)) d_123_27 kc_123_27 rfl ⟨Nat.le_of_ble_eq_true rfl, xx_123.symm⟩ rfl hcl ?_
    show Ev 123 30 [.ref 0, .int x1, .int v6, .retAddr 0, .retAddr 0, .retAddr 0] [.int v9] σ7 w
    refine e_iload_n d_123_30 rfl rfl ?_
    refine e_iand d_123_31 rfl ?_
    refine e_istore_n (ls2 := [.ref 0, .int x1, .int v6, .int (v9 &&& v6), .retAddr 0, .retAddr 0]) d_123_32 rfl rfl rfl ?_
    refine e_iconst d_123_33 ci_0 rfl ?_
    refine e_istore (ls2 := [.ref 0, .int x1, .int v6, .int (v9 &&& v6), .int 0, .retAddr 0]) d_123_34 rfl rfl rfl ?_
    refine e_iconst d_123_36 ci_0 rfl ?_
    refine e_istore (ls2 := [.ref 0, .int x1, .int v6, .int (v9 &&& v6), .int 0, .int 0]) d_123_37 rfl rfl rfl ?_
    exact H
  · replace H := H.1 hc
    refine e_iconst d_123_8 ci_m1 rfl ?_
    subst H
    exact e_iret d_123_9 rr_123
theorem b_123_39 {t : Nat} {σ : Mm} {w : Option Value × Mm} {x1 : Int32} {x2 : Int32} {x3 : Int32} {x4 : Int32} {x5 : Int32} (hS : Sg t σ) 
    (H : (x5 < (mI σ t 0) → ((x5 = x1 → Ev 123 39 [.ref 0, .int x1, .int x2, .int x3, .int x4, .int (x5 + 1)] [] σ w) ∧ (¬ (x5 = x1) → (∃ (v3 : Int32) (σ1 : Mm), Cl 22 [.ref 26, .int x5] σ (some (.int v3), σ1) ∧ Sg t σ1 ∧ (((v3 &&& x2) = x3 → Ev 123 39 [.ref 0, .int x1, .int x2, .int x3, .int (x4 ||| ((1 : Int32) <<< (x5 &&& 31))), .int (x5 + 1)] [] σ1 w) ∧ (¬ ((v3 &&& x2) = x3) → Ev 123 39 [.ref 0, .int x1, .int x2, .int x3, .int x4, .int (x5 + 1)] [] σ1 w)))))) ∧ (¬ (x5 < (mI σ t 0)) → (w = (some (.int x4), σ)))) :
    Ev 123 39 [.ref 0, .int x1, .int x2, .int x3, .int x4, .int x5] [] σ w := by
  refine e_iload d_123_39 rfl rfl ?_
  refine e_aload_n d_123_41 rfl rfl ?_
  refine e_getR d_123_42 oo_123 pF_8_21 (by decide) (hS.k rfl) hS.told rfl ?_
  refine e_getI d_123_45 oo_123 pF_8_259 (by decide) (hS.k (kT hS.tt)) rfl ?_
  refine e_icmp_ge (t := 87) d_123_48 (by decide) rfl (fun hc => ?_) (fun hc => ?_)
  · replace H := H.2 hc
    refine e_iload d_123_87 rfl rfl ?_
    subst H
    exact e_iret d_123_89 rr_123
  · replace H := H.1 hc
    refine e_iload d_123_51 rfl rfl ?_
    refine e_iload_n d_123_53 rfl rfl ?_
    refine e_icmp_eq (t := 81) d_123_54 (by decide) rfl (fun hc => ?_) (fun hc => ?_)
    · replace H := H.1 hc
      refine e_iinc (ls2 := [.ref 0, .int x1, .int x2, .int x3, .int x4, .int (x5 + 1)]) d_123_81 rfl ci_1 rfl rfl rfl ?_
      refine e_goto (t := 39) d_123_84 (by decide) ?_
      exact H
    · replace H := H.2 hc
      refine e_aload_n d_123_57 rfl rfl ?_
      refine e_getR d_123_58 oo_123 pF_8_28 (by decide) (hS.k rfl) (hS.r rt_0_2) rfl ?_
      refine e_iload d_123_61 rfl rfl ?_
      obtain ⟨v3, σ1, hcl, hS2, H⟩ := H
      refine e_vcall (w1 := (some (.int v3), σ1)) d_123_63 kc_123_63 rfl ⟨Nat.le_of_ble_eq_true rfl, xx_123.symm⟩ rfl hcl ?_
      show Ev 123 66 [.ref 0, .int x1, .int x2, .int x3, .int x4, .int x5] [.int v3] σ1 w
      refine e_iload_n d_123_66 rfl rfl ?_
      refine e_iand d_123_67 rfl ?_
      refine e_iload_n d_123_68 rfl rfl ?_
      refine e_icmp_ne (t := 81) d_123_69 (by decide) rfl (fun hc => ?_) (fun hc => ?_)
      · replace H := H.2 hc
        refine e_iinc (ls2 := [.ref 0, .int x1, .int x2, .int x3, .int x4, .int (x5 + 1)]) d_123_81 rfl ci_1 rfl rfl rfl ?_
        refine e_goto (t := 39) d_123_84 (by decide) ?_
        exact H
      · replace H := H.1 hc
        refine e_iload d_123_72 rfl rfl ?_
        refine e_iconst d_123_74 ci_1 rfl ?_
        refine e_iload d_123_75 rfl rfl ?_
        refine e_ishl d_123_77 rfl ?_
        refine e_ior d_123_78 rfl ?_
        refine e_istore (ls2 := [.ref 0, .int x1, .int x2, .int x3, .int (x4 ||| ((1 : Int32) <<< (x5 &&& 31))), .int x5]) d_123_79 rfl rfl rfl ?_
        refine e_iinc (ls2 := [.ref 0, .int x1, .int x2, .int x3, .int (x4 ||| ((1 : Int32) <<< (x5 &&& 31))), .int (x5 + 1)]) d_123_81 rfl ci_1 rfl rfl rfl ?_
        refine e_goto (t := 39) d_123_84 (by decide) ?_
        exact H
/-! X8_fixed -/
theorem b_124_0 {t : Nat} {σ : Mm} {w : Option Value × Mm}  (hS : Sg t σ) 
    (H : ∃ (v3 : Int32) (σ1 : Mm), Cl 21 [.ref 26, .ref t] σ (some (.int v3), σ1) ∧ Sg t σ1 ∧ Ev 124 16 [.ref 0, .int v3, .int 0, .int 0] [] σ1 w) :
    Ev 124 0 [.ref 0, .retAddr 0, .retAddr 0, .retAddr 0] [] σ w := by
  refine e_aload_n d_124_0 rfl rfl ?_
  refine e_getR d_124_1 oo_124 pF_8_28 (by decide) (hS.k rfl) (hS.r rt_0_2) rfl ?_
  refine e_aload_n d_124_4 rfl rfl ?_
  refine e_getR d_124_5 oo_124 pF_8_21 (by decide) (hS.k rfl) hS.told rfl ?_
  obtain ⟨v3, σ1, hcl, hS2, H⟩ := H
  refine e_vcall (w1 := (some (.int v3), σ1)) d_124_8 kc_124_8 rfl ⟨Nat.le_of_ble_eq_true rfl, xx_124.symm⟩ rfl hcl ?_
  show Ev 124 11 [.ref 0, .retAddr 0, .retAddr 0, .retAddr 0] [.int v3] σ1 w
  refine e_istore_n (ls2 := [.ref 0, .int v3, .retAddr 0, .retAddr 0]) d_124_11 rfl rfl rfl ?_
  refine e_iconst d_124_12 ci_0 rfl ?_
  refine e_istore_n (ls2 := [.ref 0, .int v3, .int 0, .retAddr 0]) d_124_13 rfl rfl rfl ?_
  refine e_iconst d_124_14 ci_0 rfl ?_
  refine e_istore_n (ls2 := [.ref 0, .int v3, .int 0, .int 0]) d_124_15 rfl rfl rfl ?_
  exact H
theorem b_124_16 {t : Nat} {σ : Mm} {w : Option Value × Mm} {x1 : Int32} {x2 : Int32} {x3 : Int32} (hS : Sg t σ) 
    (H : (x3 < (mI σ t 0) → (∃ (v3 : Int32) (σ1 : Mm), Cl 22 [.ref 26, .int x3] σ (some (.int v3), σ1) ∧ Sg t σ1 ∧ (((v3 &&& x1) = 0 → Ev 124 16 [.ref 0, .int x1, .int (x2 ||| ((1 : Int32) <<< (x3 &&& 31))), .int (x3 + 1)] [] σ1 w) ∧ (¬ ((v3 &&& x1) = 0) → Ev 124 16 [.ref 0, .int x1, .int x2, .int (x3 + 1)] [] σ1 w)))) ∧ (¬ (x3 < (mI σ t 0)) → (w = (some (.int x2), σ)))) :
    Ev 124 16 [.ref 0, .int x1, .int x2, .int x3] [] σ w := by
  refine e_iload_n d_124_16 rfl rfl ?_
  refine e_aload_n d_124_17 rfl rfl ?_
  refine e_getR d_124_18 oo_124 pF_8_21 (by decide) (hS.k rfl) hS.told rfl ?_
  refine e_getI d_124_21 oo_124 pF_8_259 (by decide) (hS.k (kT hS.tt)) rfl ?_
  refine e_icmp_ge (t := 52) d_124_24 (by decide) rfl (fun hc => ?_) (fun hc => ?_)
  · replace H := H.2 hc
    refine e_iload_n d_124_52 rfl rfl ?_
    subst H
    exact e_iret d_124_53 rr_124
  · replace H := H.1 hc
    refine e_aload_n d_124_27 rfl rfl ?_
    refine e_getR d_124_28 oo_124 pF_8_28 (by decide) (hS.k rfl) (hS.r rt_0_2) rfl ?_
    refine e_iload_n d_124_31 rfl rfl ?_
    obtain ⟨v3, σ1, hcl, hS2, H⟩ := H
    refine e_vcall (w1 := (some (.int v3), σ1)) d_124_32 kc_124_32 rfl ⟨Nat.le_of_ble_eq_true rfl, xx_124.symm⟩ rfl hcl ?_
    show Ev 124 35 [.ref 0, .int x1, .int x2, .int x3] [.int v3] σ1 w
    refine e_iload_n d_124_35 rfl rfl ?_
    refine e_iand d_124_36 rfl ?_
    refine e_if_ne (t := 46) d_124_37 (by decide) rfl (fun hc => ?_) (fun hc => ?_)
    · replace H := H.2 hc
      refine e_iinc (ls2 := [.ref 0, .int x1, .int x2, .int (x3 + 1)]) d_124_46 rfl ci_1 rfl rfl rfl ?_
      refine e_goto (t := 16) d_124_49 (by decide) ?_
      exact H
    · replace H := H.1 hc
      refine e_iload_n d_124_40 rfl rfl ?_
      refine e_iconst d_124_41 ci_1 rfl ?_
      refine e_iload_n d_124_42 rfl rfl ?_
      refine e_ishl d_124_43 rfl ?_
      refine e_ior d_124_44 rfl ?_
      refine e_istore_n (ls2 := [.ref 0, .int x1, .int (x2 ||| ((1 : Int32) <<< (x3 &&& 31))), .int x3]) d_124_45 rfl rfl rfl ?_
      refine e_iinc (ls2 := [.ref 0, .int x1, .int (x2 ||| ((1 : Int32) <<< (x3 &&& 31))), .int (x3 + 1)]) d_124_46 rfl ci_1 rfl rfl rfl ?_
      refine e_goto (t := 16) d_124_49 (by decide) ?_
      exact H
/-! X8_knot -/
theorem b_125_0 {t : Nat} {σ : Mm} {w : Option Value × Mm} {x1 : Int32} (hS : Sg t σ) 
    (H : (x1 < 0 → (w = (some (.int (-1)), σ))) ∧ (¬ (x1 < 0) → ((1 < x1 → (w = (some (.int (-1)), σ))) ∧ (¬ (1 < x1) → (∃ (v3 : Int32) (σ1 : Mm), Cl 146 [.ref 0] σ (some (.int v3), σ1) ∧ Sg t σ1 ∧ (∃ (v6 : Int32) (σ4 : Mm), Cl 276 [.int v3] σ1 (some (.int v6), σ4) ∧ Sg t σ4 ∧ (∃ (v9 : Int32) (σ7 : Mm), Cl 21 [.ref 26, .ref t] σ4 (some (.int v9), σ7) ∧ Sg t σ7 ∧ Ev 125 34 [.ref 0, .int x1, .int v6, .int v9, .int 0, .retAddr 0] [] σ7 w))))))) :
    Ev 125 0 [.ref 0, .int x1, .retAddr 0, .retAddr 0, .retAddr 0, .retAddr 0] [] σ w := by
  refine e_iload_n d_125_0 rfl rfl ?_
  refine e_if_lt (t := 9) d_125_1 (by decide) rfl (fun hc => ?_) (fun hc => ?_)
  · replace H := H.1 hc
    refine e_iconst d_125_9 ci_m1 rfl ?_
    subst H
    exact e_iret d_125_10 rr_125
  · replace H := H.2 hc
    refine e_iload_n d_125_4 rfl rfl ?_
    refine e_iconst d_125_5 ci_1 rfl ?_
    refine e_icmp_le (t := 11) d_125_6 (by decide) rfl (fun hc => ?_) (fun hc => ?_)
    · replace H := H.2 hc
      refine e_aload_n d_125_11 rfl rfl ?_
      obtain ⟨v3, σ1, hcl, hS2, H⟩ := H
      refine e_vcall (w1 := (some (.int v3), σ1)) d_125_12 kc_125_12 rfl ⟨Nat.le_of_ble_eq_true rfl, xx_125.symm⟩ rfl hcl ?_
      show Ev 125 15 [.ref 0, .int x1, .retAddr 0, .retAddr 0, .retAddr 0, .retAddr 0] [.int v3] σ1 w
      obtain ⟨v6, σ4, hcl, hS5, H⟩ := H
      refine e_scall (w1 := (some (.int v6), σ4)) d_125_15 kc_125_15 rfl ⟨Nat.le_of_ble_eq_true rfl, xx_125.symm⟩ rfl hcl ?_
      show Ev 125 18 [.ref 0, .int x1, .retAddr 0, .retAddr 0, .retAddr 0, .retAddr 0] [.int v6] σ4 w
      refine e_istore_n (ls2 := [.ref 0, .int x1, .int v6, .retAddr 0, .retAddr 0, .retAddr 0]) d_125_18 rfl rfl rfl ?_
      refine e_aload_n d_125_19 rfl rfl ?_
      refine e_getR d_125_20 oo_125 pF_8_28 (by decide) (hS5.k rfl) (hS5.r rt_0_2) rfl ?_
      refine e_aload_n d_125_23 rfl rfl ?_
      refine e_getR d_125_24 oo_125 pF_8_21 (by decide) (hS5.k rfl) hS5.told rfl ?_
      obtain ⟨v9, σ7, hcl, hS8, H⟩ := H
      refine e_vcall (w1 := (some (.int v9), σ7)) d_125_27 kc_125_27 rfl ⟨Nat.le_of_ble_eq_true rfl, xx_125.symm⟩ rfl hcl ?_
      show Ev 125 30 [.ref 0, .int x1, .int v6, .retAddr 0, .retAddr 0, .retAddr 0] [.int v9] σ7 w
      refine e_istore_n (ls2 := [.ref 0, .int x1, .int v6, .int v9, .retAddr 0, .retAddr 0]) d_125_30 rfl rfl rfl ?_
      refine e_iconst d_125_31 ci_0 rfl ?_
      refine e_istore (ls2 := [.ref 0, .int x1, .int v6, .int v9, .int 0, .retAddr 0]) d_125_32 rfl rfl rfl ?_
      exact H
    · replace H := H.1 hc
      refine e_iconst d_125_9 ci_m1 rfl ?_
      subst H
      exact e_iret d_125_10 rr_125
theorem b_125_34 {t : Nat} {σ : Mm} {w : Option Value × Mm} {x1 : Int32} {x2 : Int32} {x3 : Int32} {x4 : Int32} {z5 : Value} (hS : Sg t σ) 
    (H : (x4 < (mI σ t 1) → ((((x3 >>> (x4 &&& 31)) &&& 1) = 0 → Ev 125 34 [.ref 0, .int x1, .int x2, .int x3, .int (x4 + 1), z5] [] σ w) ∧ (¬ (((x3 >>> (x4 &&& 31)) &&& 1) = 0) → (∃ (v3 : Int32) (σ1 : Mm), Cl 147 [.ref 0, .int x4, .int x2] σ (some (.int v3), σ1) ∧ Sg t σ1 ∧ ((v3 = (-1) → Ev 125 34 [.ref 0, .int x1, .int x2, .int x3, .int (x4 + 1), .int v3] [] σ1 w) ∧ (¬ (v3 = (-1)) → ((x1 = 0 → (w = (some (.int x4), σ1))) ∧ (¬ (x1 = 0) → (w = (some (.int v3), σ1)))))))))) ∧ (¬ (x4 < (mI σ t 1)) → (w = (some (.int (-2)), σ)))) :
    Ev 125 34 [.ref 0, .int x1, .int x2, .int x3, .int x4, z5] [] σ w := by
  refine e_iload d_125_34 rfl rfl ?_
  refine e_aload_n d_125_36 rfl rfl ?_
  refine e_getR d_125_37 oo_125 pF_8_21 (by decide) (hS.k rfl) hS.told rfl ?_
  refine e_getI d_125_40 oo_125 pF_8_262 (by decide) (hS.k (kT hS.tt)) rfl ?_
  refine e_icmp_ge (t := 91) d_125_43 (by decide) rfl (fun hc => ?_) (fun hc => ?_)
  · replace H := H.2 hc
    refine e_bipush d_125_91 cb_m2 rfl ?_
    subst H
    exact e_iret d_125_93 rr_125
  · replace H := H.1 hc
    refine e_iload_n d_125_46 rfl rfl ?_
    refine e_iload d_125_47 rfl rfl ?_
    refine e_ishr d_125_49 rfl ?_
    refine e_iconst d_125_50 ci_1 rfl ?_
    refine e_iand d_125_51 rfl ?_
    refine e_if_ne (t := 58) d_125_52 (by decide) rfl (fun hc => ?_) (fun hc => ?_)
    · replace H := H.2 hc
      refine e_aload_n d_125_58 rfl rfl ?_
      refine e_iload d_125_59 rfl rfl ?_
      refine e_iload_n d_125_61 rfl rfl ?_
      obtain ⟨v3, σ1, hcl, hS2, H⟩ := H
      refine e_vcall (w1 := (some (.int v3), σ1)) d_125_62 kc_125_62 rfl ⟨Nat.le_of_ble_eq_true rfl, xx_125.symm⟩ rfl hcl ?_
      show Ev 125 65 [.ref 0, .int x1, .int x2, .int x3, .int x4, z5] [.int v3] σ1 w
      refine e_istore (ls2 := [.ref 0, .int x1, .int x2, .int x3, .int x4, .int v3]) d_125_65 rfl rfl rfl ?_
      refine e_iload d_125_67 rfl rfl ?_
      refine e_iconst d_125_69 ci_m1 rfl ?_
      refine e_icmp_eq (t := 85) d_125_70 (by decide) rfl (fun hc => ?_) (fun hc => ?_)
      · replace H := H.1 hc
        refine e_iinc (ls2 := [.ref 0, .int x1, .int x2, .int x3, .int (x4 + 1), .int v3]) d_125_85 rfl ci_1 rfl rfl rfl ?_
        refine e_goto (t := 34) d_125_88 (by decide) ?_
        exact H
      · replace H := H.2 hc
        refine e_iload_n d_125_73 rfl rfl ?_
        refine e_if_ne (t := 82) d_125_74 (by decide) rfl (fun hc => ?_) (fun hc => ?_)
        · replace H := H.2 hc
          refine e_iload d_125_82 rfl rfl ?_
          subst H
          exact e_iret d_125_84 rr_125
        · replace H := H.1 hc
          refine e_iload d_125_77 rfl rfl ?_
          refine e_goto (t := 84) d_125_79 (by decide) ?_
          subst H
          exact e_iret d_125_84 rr_125
    · replace H := H.1 hc
      refine e_goto (t := 85) d_125_55 (by decide) ?_
      refine e_iinc (ls2 := [.ref 0, .int x1, .int x2, .int x3, .int (x4 + 1), z5]) d_125_85 rfl ci_1 rfl rfl rfl ?_
      refine e_goto (t := 34) d_125_88 (by decide) ?_
      exact H
/-! X8_apart -/
theorem b_126_0 {t : Nat} {σ : Mm} {w : Option Value × Mm} {x1 : Int32} {x2 : Int32} (hS : Sg t σ) 
    (H : ∃ (v3 : Int32) (σ1 : Mm), Cl 144 [.ref 0, .int x1] σ (some (.int v3), σ1) ∧ Sg t σ1 ∧ ((v3 = 0 → (w = (some (.int (-1)), σ1))) ∧ (¬ (v3 = 0) → (∃ (v6 : Int32) (σ4 : Mm), Cl 144 [.ref 0, .int x2] σ1 (some (.int v6), σ4) ∧ Sg t σ4 ∧ ((v6 = 0 → (w = (some (.int (-1)), σ4))) ∧ (¬ (v6 = 0) → (∃ (σ7 : Mm), Cl 145 [.ref 0] σ4 (none, σ7) ∧ Sg t σ7 ∧ (∃ (v12 : Int32) (σ10 : Mm), Cl 75 [.ref 53, .int (x1 ^^^ x2)] σ7 (some (.int v12), σ10) ∧ Sg t σ10 ∧ ((v12 < 0 → (w = (some (.int v12), σ10))) ∧ (¬ (v12 < 0) → (∃ (v15 : Int32) (σ13 : Mm), Cl 276 [.int v12] σ10 (some (.int v15), σ13) ∧ Sg t σ13 ∧ (w = (some (.int v15), σ13))))))))))))) :
    Ev 126 0 [.ref 0, .int x1, .int x2, .retAddr 0] [] σ w := by
  refine e_aload_n d_126_0 rfl rfl ?_
  refine e_iload_n d_126_1 rfl rfl ?_
  obtain ⟨v3, σ1, hcl, hS2, H⟩ := H
  refine e_vcall (w1 := (some (.int v3), σ1)) d_126_2 kc_126_2 rfl ⟨Nat.le_of_ble_eq_true rfl, xx_126.symm⟩ rfl hcl ?_
  show Ev 126 5 [.ref 0, .int x1, .int x2, .retAddr 0] [.int v3] σ1 w
  refine e_if_eq (t := 16) d_126_5 (by decide) rfl (fun hc => ?_) (fun hc => ?_)
  · replace H := H.1 hc
    refine e_iconst d_126_16 ci_m1 rfl ?_
    subst H
    exact e_iret d_126_17 rr_126
  · replace H := H.2 hc
    refine e_aload_n d_126_8 rfl rfl ?_
    refine e_iload_n d_126_9 rfl rfl ?_
    obtain ⟨v6, σ4, hcl, hS5, H⟩ := H
    refine e_vcall (w1 := (some (.int v6), σ4)) d_126_10 kc_126_10 rfl ⟨Nat.le_of_ble_eq_true rfl, xx_126.symm⟩ rfl hcl ?_
    show Ev 126 13 [.ref 0, .int x1, .int x2, .retAddr 0] [.int v6] σ4 w
    refine e_if_ne (t := 18) d_126_13 (by decide) rfl (fun hc => ?_) (fun hc => ?_)
    · replace H := H.2 hc
      refine e_aload_n d_126_18 rfl rfl ?_
      obtain ⟨σ7, hcl, hS8, H⟩ := H
      refine e_vcall (w1 := (none, σ7)) d_126_19 kc_126_19 rfl ⟨Nat.le_of_ble_eq_true rfl, xx_126.symm⟩ rfl hcl ?_
      show Ev 126 22 [.ref 0, .int x1, .int x2, .retAddr 0] [] σ7 w
      refine e_aload_n d_126_22 rfl rfl ?_
      refine e_getR d_126_23 oo_126 pF_8_62 (by decide) (hS8.k rfl) (hS8.r rt_0_9) rfl ?_
      refine e_iload_n d_126_26 rfl rfl ?_
      refine e_iload_n d_126_27 rfl rfl ?_
      refine e_ixor d_126_28 rfl ?_
      obtain ⟨v12, σ10, hcl, hS11, H⟩ := H
      refine e_vcall (w1 := (some (.int v12), σ10)) d_126_29 kc_126_29 rfl ⟨Nat.le_of_ble_eq_true rfl, xx_126.symm⟩ rfl hcl ?_
      show Ev 126 32 [.ref 0, .int x1, .int x2, .retAddr 0] [.int v12] σ10 w
      refine e_istore_n (ls2 := [.ref 0, .int x1, .int x2, .int v12]) d_126_32 rfl rfl rfl ?_
      refine e_iload_n d_126_33 rfl rfl ?_
      refine e_if_ge (t := 41) d_126_34 (by decide) rfl (fun hc => ?_) (fun hc => ?_)
      · replace H := H.2 hc
        refine e_iload_n d_126_41 rfl rfl ?_
        obtain ⟨v15, σ13, hcl, hS14, H⟩ := H
        refine e_scall (w1 := (some (.int v15), σ13)) d_126_42 kc_126_42 rfl ⟨Nat.le_of_ble_eq_true rfl, xx_126.symm⟩ rfl hcl ?_
        show Ev 126 45 [.ref 0, .int x1, .int x2, .int v12] [.int v15] σ13 w
        subst H
        exact e_iret d_126_45 rr_126
      · replace H := H.1 hc
        refine e_iload_n d_126_37 rfl rfl ?_
        refine e_goto (t := 45) d_126_38 (by decide) ?_
        subst H
        exact e_iret d_126_45 rr_126
    · replace H := H.1 hc
      refine e_iconst d_126_16 ci_m1 rfl ?_
      subst H
      exact e_iret d_126_17 rr_126
/-! X8_evenings -/
theorem b_127_0 {t : Nat} {σ : Mm} {w : Option Value × Mm} {x1 : Int32} (hS : Sg t σ) 
    (H : (x1 < 0 → (w = (some (.int (-1)), σ))) ∧ (¬ (x1 < 0) → ((14 < x1 → (w = (some (.int (-1)), σ))) ∧ (¬ (14 < x1) → (∃ (σ1 : Mm), Cl 145 [.ref 0] σ (none, σ1) ∧ Sg t σ1 ∧ (∃ (v6 : Int32) (σ4 : Mm), Cl 146 [.ref 0] σ1 (some (.int v6), σ4) ∧ Sg t σ4 ∧ (∃ (v9 : Int32) (σ7 : Mm), Cl 82 [.ref 53, .int (mI σ1 26 1), .int x1, .int v6] σ4 (some (.int v9), σ7) ∧ Sg t σ7 ∧ (w = (some (.int v9), σ7))))))))) :
    Ev 127 0 [.ref 0, .int x1] [] σ w := by
  refine e_iload_n d_127_0 rfl rfl ?_
  refine e_if_lt (t := 10) d_127_1 (by decide) rfl (fun hc => ?_) (fun hc => ?_)
  · replace H := H.1 hc
    refine e_iconst d_127_10 ci_m1 rfl ?_
    subst H
    exact e_iret d_127_11 rr_127
  · replace H := H.2 hc
    refine e_iload_n d_127_4 rfl rfl ?_
    refine e_bipush d_127_5 cb_14 rfl ?_
    refine e_icmp_le (t := 12) d_127_7 (by decide) rfl (fun hc => ?_) (fun hc => ?_)
    · replace H := H.2 hc
      refine e_aload_n d_127_12 rfl rfl ?_
      obtain ⟨σ1, hcl, hS2, H⟩ := H
      refine e_vcall (w1 := (none, σ1)) d_127_13 kc_127_13 rfl ⟨Nat.le_of_ble_eq_true rfl, xx_127.symm⟩ rfl hcl ?_
      show Ev 127 16 [.ref 0, .int x1] [] σ1 w
      refine e_aload_n d_127_16 rfl rfl ?_
      refine e_getR d_127_17 oo_127 pF_8_62 (by decide) (hS2.k rfl) (hS2.r rt_0_9) rfl ?_
      refine e_aload_n d_127_20 rfl rfl ?_
      refine e_getR d_127_21 oo_127 pF_8_28 (by decide) (hS2.k rfl) (hS2.r rt_0_2) rfl ?_
      refine e_getI d_127_24 oo_127 pF_8_130 (by decide) (hS2.k rfl) rfl ?_
      refine e_iload_n d_127_27 rfl rfl ?_
      refine e_aload_n d_127_28 rfl rfl ?_
      obtain ⟨v6, σ4, hcl, hS5, H⟩ := H
      refine e_vcall (w1 := (some (.int v6), σ4)) d_127_29 kc_127_29 rfl ⟨Nat.le_of_ble_eq_true rfl, xx_127.symm⟩ rfl hcl ?_
      show Ev 127 32 [.ref 0, .int x1] [.int v6, .int x1, .int (mI σ1 26 1), .ref 53] σ4 w
      obtain ⟨v9, σ7, hcl, hS8, H⟩ := H
      refine e_vcall (w1 := (some (.int v9), σ7)) d_127_32 kc_127_32 rfl ⟨Nat.le_of_ble_eq_true rfl, xx_127.symm⟩ rfl hcl ?_
      show Ev 127 35 [.ref 0, .int x1] [.int v9] σ7 w
      subst H
      exact e_iret d_127_35 rr_127
    · replace H := H.1 hc
      refine e_iconst d_127_10 ci_m1 rfl ?_
      subst H
      exact e_iret d_127_11 rr_127
/-! X8_game -/
theorem b_128_0 {t : Nat} {σ : Mm} {w : Option Value × Mm} {x1 : Int32} (hS : Sg t σ) 
    (H : (x1 < 0 → (w = (some (.int (-1)), σ))) ∧ (¬ (x1 < 0) → ((1 < x1 → (w = (some (.int (-1)), σ))) ∧ (¬ (1 < x1) → (∃ (v3 : Int32) (σ1 : Mm), Cl 21 [.ref 26, .ref t] σ (some (.int v3), σ1) ∧ Sg t σ1 ∧ (((mI σ1 26 1) = 0 → ((x1 = 0 → (w = (some (.int 2), σ1))) ∧ (¬ (x1 = 0) → (w = (some (.int (-2)), σ1))))) ∧ (¬ ((mI σ1 26 1) = 0) → ((v3 = 0 → ((x1 = 0 → (w = (some (.int 2), σ1))) ∧ (¬ (x1 = 0) → (w = (some (.int (-2)), σ1))))) ∧ (¬ (v3 = 0) → (∃ (σ4 : Mm), Cl 145 [.ref 0] σ1 (none, σ4) ∧ Sg t σ4 ∧ (∃ (v9 : Int32) (σ7 : Mm), Cl 83 [.ref 53, .int (mI σ4 26 1)] σ4 (some (.int v9), σ7) ∧ Sg t σ7 ∧ ((x1 = 1 → (∃ (v12 : Int32) (σ10 : Mm), Cl 86 [.ref 53, .int v9, .int (mI σ7 26 1)] σ7 (some (.int v12), σ10) ∧ Sg t σ10 ∧ (w = (some (.int v12), σ10)))) ∧ (¬ (x1 = 1) → ((v9 = 0 → (w = (some (.int 1), σ7))) ∧ (v9 = 2 → (w = (some (.int 0), σ7))) ∧ ((¬ v9 = 0 ∧ ¬ v9 = 2) → (w = (some (.int 2), σ7))))))))))))))))) :
    Ev 128 0 [.ref 0, .int x1, .retAddr 0, .retAddr 0] [] σ w := by
  refine e_iload_n d_128_0 rfl rfl ?_
  refine e_if_lt (t := 9) d_128_1 (by decide) rfl (fun hc => ?_) (fun hc => ?_)
  · replace H := H.1 hc
    refine e_iconst d_128_9 ci_m1 rfl ?_
    subst H
    exact e_iret d_128_10 rr_128
  · replace H := H.2 hc
    refine e_iload_n d_128_4 rfl rfl ?_
    refine e_iconst d_128_5 ci_1 rfl ?_
    refine e_icmp_le (t := 11) d_128_6 (by decide) rfl (fun hc => ?_) (fun hc => ?_)
    · replace H := H.2 hc
      refine e_aload_n d_128_11 rfl rfl ?_
      refine e_getR d_128_12 oo_128 pF_8_28 (by decide) (hS.k rfl) (hS.r rt_0_2) rfl ?_
      refine e_aload_n d_128_15 rfl rfl ?_
      refine e_getR d_128_16 oo_128 pF_8_21 (by decide) (hS.k rfl) hS.told rfl ?_
      obtain ⟨v3, σ1, hcl, hS2, H⟩ := H
      refine e_vcall (w1 := (some (.int v3), σ1)) d_128_19 kc_128_19 rfl ⟨Nat.le_of_ble_eq_true rfl, xx_128.symm⟩ rfl hcl ?_
      show Ev 128 22 [.ref 0, .int x1, .retAddr 0, .retAddr 0] [.int v3] σ1 w
      refine e_istore_n (ls2 := [.ref 0, .int x1, .int v3, .retAddr 0]) d_128_22 rfl rfl rfl ?_
      refine e_aload_n d_128_23 rfl rfl ?_
      refine e_getR d_128_24 oo_128 pF_8_28 (by decide) (hS2.k rfl) (hS2.r rt_0_2) rfl ?_
      refine e_getI d_128_27 oo_128 pF_8_130 (by decide) (hS2.k rfl) rfl ?_
      refine e_if_eq (t := 37) d_128_30 (by decide) rfl (fun hc => ?_) (fun hc => ?_)
      · replace H := H.1 hc
        refine e_iload_n d_128_37 rfl rfl ?_
        refine e_if_ne (t := 45) d_128_38 (by decide) rfl (fun hc => ?_) (fun hc => ?_)
        · replace H := H.2 hc
          refine e_bipush d_128_45 cb_m2 rfl ?_
          subst H
          exact e_iret d_128_47 rr_128
        · replace H := H.1 hc
          refine e_iconst d_128_41 ci_2 rfl ?_
          refine e_goto (t := 47) d_128_42 (by decide) ?_
          subst H
          exact e_iret d_128_47 rr_128
      · replace H := H.2 hc
        refine e_iload_n d_128_33 rfl rfl ?_
        refine e_if_ne (t := 48) d_128_34 (by decide) rfl (fun hc => ?_) (fun hc => ?_)
        · replace H := H.2 hc
          refine e_aload_n d_128_48 rfl rfl ?_
          obtain ⟨σ4, hcl, hS5, H⟩ := H
          refine e_vcall (w1 := (none, σ4)) d_128_49 kc_128_49 rfl ⟨Nat.le_of_ble_eq_true rfl, xx_128.symm⟩ rfl hcl ?_
          show Ev 128 52 [.ref 0, .int x1, .int v3, .retAddr 0] [] σ4 w
          refine e_aload_n d_128_52 rfl rfl ?_
          refine e_getR d_128_53 oo_128 pF_8_62 (by decide) (hS5.k rfl) (hS5.r rt_0_9) rfl ?_
          refine e_aload_n d_128_56 rfl rfl ?_
          refine e_getR d_128_57 oo_128 pF_8_28 (by decide) (hS5.k rfl) (hS5.r rt_0_2) rfl ?_
          refine e_getI d_128_60 oo_128 pF_8_130 (by decide) (hS5.k rfl) rfl ?_
          obtain ⟨v9, σ7, hcl, hS8, H⟩ := H
          refine e_vcall (w1 := (some (.int v9), σ7)) d_128_63 kc_128_63 rfl ⟨Nat.le_of_ble_eq_true rfl, xx_128.symm⟩ rfl hcl ?_
          show Ev 128 66 [.ref 0, .int x1, .int v3, .retAddr 0] [.int v9] σ7 w
          refine e_istore_n (ls2 := [.ref 0, .int x1, .int v3, .int v9]) d_128_66 rfl rfl rfl ?_
          refine e_iload_n d_128_67 rfl rfl ?_
          refine e_iconst d_128_68 ci_1 rfl ?_
          refine e_icmp_ne (t := 88) d_128_69 (by decide) rfl (fun hc => ?_) (fun hc => ?_)
          · replace H := H.2 hc
            refine e_iload_n d_128_88 rfl rfl ?_
            by_cases hs0 : v9 = 0
            · replace H := H.1 hs0
              refine e_lookup (off := 29) (t := 118) d_128_89 (by decide) (by rw [hs0]; decide +kernel) (by decide) ?_
              refine e_iconst d_128_118 ci_1 rfl ?_
              subst H
              exact e_iret d_128_119 rr_128
            by_cases hs2 : v9 = 2
            · replace H := H.2.1 hs2
              refine e_lookup (off := 27) (t := 116) d_128_89 (by decide) (by rw [hs2]; decide +kernel) (by decide) ?_
              refine e_iconst d_128_116 ci_0 rfl ?_
              subst H
              exact e_iret d_128_117 rr_128
            replace H := H.2.2 ⟨hs0, hs2⟩
            refine e_lookup (off := 31) (t := 120) d_128_89 (by decide) (sw_128_89 hs0 hs2) (by decide) ?_
            refine e_iconst d_128_120 ci_2 rfl ?_
            subst H
            exact e_iret d_128_121 rr_128
          · replace H := H.1 hc
            refine e_aload_n d_128_72 rfl rfl ?_
            refine e_getR d_128_73 oo_128 pF_8_62 (by decide) (hS8.k rfl) (hS8.r rt_0_9) rfl ?_
            refine e_iload_n d_128_76 rfl rfl ?_
            refine e_aload_n d_128_77 rfl rfl ?_
            refine e_getR d_128_78 oo_128 pF_8_28 (by decide) (hS8.k rfl) (hS8.r rt_0_2) rfl ?_
            refine e_getI d_128_81 oo_128 pF_8_130 (by decide) (hS8.k rfl) rfl ?_
            obtain ⟨v12, σ10, hcl, hS11, H⟩ := H
            refine e_vcall (w1 := (some (.int v12), σ10)) d_128_84 kc_128_84 rfl ⟨Nat.le_of_ble_eq_true rfl, xx_128.symm⟩ rfl hcl ?_
            show Ev 128 87 [.ref 0, .int x1, .int v3, .int v9] [.int v12] σ10 w
            subst H
            exact e_iret d_128_87 rr_128
        · replace H := H.1 hc
          refine e_iload_n d_128_37 rfl rfl ?_
          refine e_if_ne (t := 45) d_128_38 (by decide) rfl (fun hc => ?_) (fun hc => ?_)
          · replace H := H.2 hc
            refine e_bipush d_128_45 cb_m2 rfl ?_
            subst H
            exact e_iret d_128_47 rr_128
          · replace H := H.1 hc
            refine e_iconst d_128_41 ci_2 rfl ?_
            refine e_goto (t := 47) d_128_42 (by decide) ?_
            subst H
            exact e_iret d_128_47 rr_128
    · replace H := H.1 hc
      refine e_iconst d_128_9 ci_m1 rfl ?_
      subst H
      exact e_iret d_128_10 rr_128
/-! X8_holds -/
theorem b_129_0 {t : Nat} {σ : Mm} {w : Option Value × Mm} {x1 : Int32} {x2 : Int32} (hS : Sg t σ) 
    (H : (x1 < 0 → (w = (some (.long (-1)), σ))) ∧ (¬ (x1 < 0) → ((6 < x1 → (w = (some (.long (-1)), σ))) ∧ (¬ (6 < x1) → ((x2 < 0 → (w = (some (.long (-1)), σ))) ∧ (¬ (x2 < 0) → ((1 < x2 → (w = (some (.long (-1)), σ))) ∧ (¬ (1 < x2) → (∃ (v3 : Int32) (σ1 : Mm), Cl 92 [.ref t] σ (some (.int v3), σ1) ∧ Sg t σ1 ∧ Ev 129 38 [.ref 0, .int x1, .int x2, .int (100 - v3), .int 100, .retAddr 0, .retAddr 0, .retAddr 0, .retAddr 0, .retAddr 0] [] σ1 w))))))))) :
    Ev 129 0 [.ref 0, .int x1, .int x2, .retAddr 0, .retAddr 0, .retAddr 0, .retAddr 0, .retAddr 0, .retAddr 0, .retAddr 0] [] σ w := by
  refine e_iload_n d_129_0 rfl rfl ?_
  refine e_if_lt (t := 19) d_129_1 (by decide) rfl (fun hc => ?_) (fun hc => ?_)
  · replace H := H.1 hc
    refine e_ldc2 d_129_19 oo_129 pL_8_279 rfl ?_
    subst H
    exact e_lret d_129_22 rr_129
  · replace H := H.2 hc
    refine e_iload_n d_129_4 rfl rfl ?_
    refine e_bipush d_129_5 cb_6 rfl ?_
    refine e_icmp_gt (t := 19) d_129_7 (by decide) rfl (fun hc => ?_) (fun hc => ?_)
    · replace H := H.1 hc
      refine e_ldc2 d_129_19 oo_129 pL_8_279 rfl ?_
      subst H
      exact e_lret d_129_22 rr_129
    · replace H := H.2 hc
      refine e_iload_n d_129_10 rfl rfl ?_
      refine e_if_lt (t := 19) d_129_11 (by decide) rfl (fun hc => ?_) (fun hc => ?_)
      · replace H := H.1 hc
        refine e_ldc2 d_129_19 oo_129 pL_8_279 rfl ?_
        subst H
        exact e_lret d_129_22 rr_129
      · replace H := H.2 hc
        refine e_iload_n d_129_14 rfl rfl ?_
        refine e_iconst d_129_15 ci_1 rfl ?_
        refine e_icmp_le (t := 23) d_129_16 (by decide) rfl (fun hc => ?_) (fun hc => ?_)
        · replace H := H.2 hc
          refine e_bipush d_129_23 cb_100 rfl ?_
          refine e_aload_n d_129_25 rfl rfl ?_
          refine e_getR d_129_26 oo_129 pF_8_21 (by decide) (hS.k rfl) hS.told rfl ?_
          obtain ⟨v3, σ1, hcl, hS2, H⟩ := H
          refine e_vcall (w1 := (some (.int v3), σ1)) d_129_29 kc_129_29 rfl ⟨Nat.le_of_ble_eq_true rfl, xx_129.symm⟩ rfl hcl ?_
          show Ev 129 32 [.ref 0, .int x1, .int x2, .retAddr 0, .retAddr 0, .retAddr 0, .retAddr 0, .retAddr 0, .retAddr 0, .retAddr 0] [.int v3, .int 100] σ1 w
          refine e_isub d_129_32 rfl ?_
          refine e_istore_n (ls2 := [.ref 0, .int x1, .int x2, .int (100 - v3), .retAddr 0, .retAddr 0, .retAddr 0, .retAddr 0, .retAddr 0, .retAddr 0]) d_129_33 rfl rfl rfl ?_
          refine e_bipush d_129_34 cb_100 rfl ?_
          refine e_istore (ls2 := [.ref 0, .int x1, .int x2, .int (100 - v3), .int 100, .retAddr 0, .retAddr 0, .retAddr 0, .retAddr 0, .retAddr 0]) d_129_36 rfl rfl rfl ?_
          exact H
        · replace H := H.1 hc
          refine e_ldc2 d_129_19 oo_129 pL_8_279 rfl ?_
          subst H
          exact e_lret d_129_22 rr_129
theorem b_129_38 {t : Nat} {σ : Mm} {w : Option Value × Mm} {x1 : Int32} {x2 : Int32} {x3 : Int32} {x4 : Int32} {z5 : Value} {z6 : Value} {z7 : Value} {z8 : Value} {z9 : Value} (hS : Sg t σ) 
    (H : (1 < x4 → (¬ x4 = 0 ∧ (((x3 - x3 / x4 * x4) = 0 → (¬ x4 = 0 ∧ (((100 - 100 / x4 * x4) = 0 → Ev 129 65 [.ref 0, .int x1, .int x2, .int x3, .int x4, z5, z6, z7, z8, z9] [] σ w) ∧ (¬ ((100 - 100 / x4 * x4) = 0) → Ev 129 38 [.ref 0, .int x1, .int x2, .int x3, .int (x4 + (-1)), z5, z6, z7, z8, z9] [] σ w)))) ∧ (¬ ((x3 - x3 / x4 * x4) = 0) → Ev 129 38 [.ref 0, .int x1, .int x2, .int x3, .int (x4 + (-1)), z5, z6, z7, z8, z9] [] σ w)))) ∧ (¬ (1 < x4) → Ev 129 65 [.ref 0, .int x1, .int x2, .int x3, .int x4, z5, z6, z7, z8, z9] [] σ w)) :
    Ev 129 38 [.ref 0, .int x1, .int x2, .int x3, .int x4, z5, z6, z7, z8, z9] [] σ w := by
  refine e_iload d_129_38 rfl rfl ?_
  refine e_iconst d_129_40 ci_1 rfl ?_
  refine e_icmp_le (t := 65) d_129_41 (by decide) rfl (fun hc => ?_) (fun hc => ?_)
  · replace H := H.2 hc
    exact H
  · replace H := H.1 hc
    refine e_iload_n d_129_44 rfl rfl ?_
    refine e_iload d_129_45 rfl rfl ?_
    obtain ⟨hz, H⟩ := H
    refine e_irem d_129_47 hz rfl ?_
    refine e_if_ne (t := 59) d_129_48 (by decide) rfl (fun hc => ?_) (fun hc => ?_)
    · replace H := H.2 hc
      refine e_iinc (ls2 := [.ref 0, .int x1, .int x2, .int x3, .int (x4 + (-1)), z5, z6, z7, z8, z9]) d_129_59 rfl ci_m1 rfl rfl rfl ?_
      refine e_goto (t := 38) d_129_62 (by decide) ?_
      exact H
    · replace H := H.1 hc
      refine e_bipush d_129_51 cb_100 rfl ?_
      refine e_iload d_129_53 rfl rfl ?_
      obtain ⟨hz, H⟩ := H
      refine e_irem d_129_55 hz rfl ?_
      refine e_if_eq (t := 65) d_129_56 (by decide) rfl (fun hc => ?_) (fun hc => ?_)
      · replace H := H.1 hc
        exact H
      · replace H := H.2 hc
        refine e_iinc (ls2 := [.ref 0, .int x1, .int x2, .int x3, .int (x4 + (-1)), z5, z6, z7, z8, z9]) d_129_59 rfl ci_m1 rfl rfl rfl ?_
        refine e_goto (t := 38) d_129_62 (by decide) ?_
        exact H
theorem b_129_65 {t : Nat} {σ : Mm} {w : Option Value × Mm} {x1 : Int32} {x2 : Int32} {x3 : Int32} {x4 : Int32} {z5 : Value} {z6 : Value} {z7 : Value} {z8 : Value} {z9 : Value} (hS : Sg t σ) 
    (H : (x2 = 0 → (¬ x4 = 0 ∧ Ev 129 87 [.ref 0, .int x1, .int x2, .int x3, .int x4, .long (Int32.toInt64 (x3 / x4)), .float 0, .long 1, .float 0, .int 0] [] σ w)) ∧ (¬ (x2 = 0) → (¬ x4 = 0 ∧ Ev 129 87 [.ref 0, .int x1, .int x2, .int x3, .int x4, .long (Int32.toInt64 (100 / x4)), .float 0, .long 1, .float 0, .int 0] [] σ w))) :
    Ev 129 65 [.ref 0, .int x1, .int x2, .int x3, .int x4, z5, z6, z7, z8, z9] [] σ w := by
  refine e_iload_n d_129_65 rfl rfl ?_
  refine e_if_ne (t := 73) d_129_66 (by decide) rfl (fun hc => ?_) (fun hc => ?_)
  · replace H := H.2 hc
    refine e_bipush d_129_73 cb_100 rfl ?_
    refine e_iload d_129_75 rfl rfl ?_
    obtain ⟨hz, H⟩ := H
    refine e_idiv d_129_77 hz rfl ?_
    refine e_i2l d_129_78 rfl ?_
    refine e_lstore (ls2 := [.ref 0, .int x1, .int x2, .int x3, .int x4, .long (Int32.toInt64 (100 / x4)), .float 0, z7, z8, z9]) d_129_79 rfl rfl rfl ?_
    refine e_lconst d_129_81 cl_1 rfl ?_
    refine e_lstore (ls2 := [.ref 0, .int x1, .int x2, .int x3, .int x4, .long (Int32.toInt64 (100 / x4)), .float 0, .long 1, .float 0, z9]) d_129_82 rfl rfl rfl ?_
    refine e_iconst d_129_84 ci_0 rfl ?_
    refine e_istore (ls2 := [.ref 0, .int x1, .int x2, .int x3, .int x4, .long (Int32.toInt64 (100 / x4)), .float 0, .long 1, .float 0, .int 0]) d_129_85 rfl rfl rfl ?_
    exact H
  · replace H := H.1 hc
    refine e_iload_n d_129_69 rfl rfl ?_
    refine e_goto (t := 75) d_129_70 (by decide) ?_
    refine e_iload d_129_75 rfl rfl ?_
    obtain ⟨hz, H⟩ := H
    refine e_idiv d_129_77 hz rfl ?_
    refine e_i2l d_129_78 rfl ?_
    refine e_lstore (ls2 := [.ref 0, .int x1, .int x2, .int x3, .int x4, .long (Int32.toInt64 (x3 / x4)), .float 0, z7, z8, z9]) d_129_79 rfl rfl rfl ?_
    refine e_lconst d_129_81 cl_1 rfl ?_
    refine e_lstore (ls2 := [.ref 0, .int x1, .int x2, .int x3, .int x4, .long (Int32.toInt64 (x3 / x4)), .float 0, .long 1, .float 0, z9]) d_129_82 rfl rfl rfl ?_
    refine e_iconst d_129_84 ci_0 rfl ?_
    refine e_istore (ls2 := [.ref 0, .int x1, .int x2, .int x3, .int x4, .long (Int32.toInt64 (x3 / x4)), .float 0, .long 1, .float 0, .int 0]) d_129_85 rfl rfl rfl ?_
    exact H
theorem b_129_87 {t : Nat} {σ : Mm} {w : Option Value × Mm} {x1 : Int32} {x2 : Int32} {x3 : Int32} {x4 : Int32} {y5 : Int64} {y7 : Int64} {x9 : Int32} (hS : Sg t σ) 
    (H : (x9 < x1 → Ev 129 87 [.ref 0, .int x1, .int x2, .int x3, .int x4, .long y5, .float 0, .long (y7 * y5), .float 0, .int (x9 + 1)] [] σ w) ∧ (¬ (x9 < x1) → (w = (some (.long y7), σ)))) :
    Ev 129 87 [.ref 0, .int x1, .int x2, .int x3, .int x4, .long y5, .float 0, .long y7, .float 0, .int x9] [] σ w := by
  refine e_iload d_129_87 rfl rfl ?_
  refine e_iload_n d_129_89 rfl rfl ?_
  refine e_icmp_ge (t := 106) d_129_90 (by decide) rfl (fun hc => ?_) (fun hc => ?_)
  · replace H := H.2 hc
    refine e_lload d_129_106 rfl rfl ?_
    subst H
    exact e_lret d_129_108 rr_129
  · replace H := H.1 hc
    refine e_lload d_129_93 rfl rfl ?_
    refine e_lload d_129_95 rfl rfl ?_
    refine e_lmul d_129_97 rfl ?_
    refine e_lstore (ls2 := [.ref 0, .int x1, .int x2, .int x3, .int x4, .long y5, .float 0, .long (y7 * y5), .float 0, .int x9]) d_129_98 rfl rfl rfl ?_
    refine e_iinc (ls2 := [.ref 0, .int x1, .int x2, .int x3, .int x4, .long y5, .float 0, .long (y7 * y5), .float 0, .int (x9 + 1)]) d_129_100 rfl ci_1 rfl rfl rfl ?_
    refine e_goto (t := 87) d_129_103 (by decide) ?_
    exact H
/-! X8_note -/
theorem b_130_0 {t : Nat} {σ : Mm} {w : Option Value × Mm} {x1 : Int32} {x2 : Int32} {x3 : Int32} (hS : Sg t σ) 
    (H : (x1 = 0 → (∃ (v9 : Int32) (σ7 : Mm), Cl 142 [.ref 0, .int x2] σ (some (.int v9), σ7) ∧ Sg t σ7 ∧ ((v9 = 0 → (w = (some (.int (-1)), σ7))) ∧ (¬ (v9 = 0) → (∃ (v12 : Int32) (σ10 : Mm), Cl 28 [.ref 49, .int x1, .int x2, .int x3] σ7 (some (.int v12), σ10) ∧ Sg t σ10 ∧ (w = (some (.int v12), σ10))))))) ∧ (¬ (x1 = 0) → ((x1 = 1 → (∃ (v3 : Int32) (σ1 : Mm), Cl 143 [.ref 0, .int x2] σ (some (.int v3), σ1) ∧ Sg t σ1 ∧ ((v3 = 0 → (w = (some (.int (-1)), σ1))) ∧ (¬ (v3 = 0) → (∃ (v6 : Int32) (σ4 : Mm), Cl 28 [.ref 49, .int x1, .int x2, .int x3] σ1 (some (.int v6), σ4) ∧ Sg t σ4 ∧ (w = (some (.int v6), σ4))))))) ∧ (¬ (x1 = 1) → (w = (some (.int (-1)), σ)))))) :
    Ev 130 0 [.ref 0, .int x1, .int x2, .int x3, .retAddr 0] [] σ w := by
  refine e_iload_n d_130_0 rfl rfl ?_
  refine e_if_ne (t := 12) d_130_1 (by decide) rfl (fun hc => ?_) (fun hc => ?_)
  · replace H := H.2 hc
    refine e_iload_n d_130_12 rfl rfl ?_
    refine e_iconst d_130_13 ci_1 rfl ?_
    refine e_icmp_ne (t := 29) d_130_14 (by decide) rfl (fun hc => ?_) (fun hc => ?_)
    · replace H := H.2 hc
      refine e_iconst d_130_29 ci_0 rfl ?_
      refine e_istore (ls2 := [.ref 0, .int x1, .int x2, .int x3, .int 0]) d_130_30 rfl rfl rfl ?_
      refine e_iload d_130_32 rfl rfl ?_
      refine e_if_eq (t := 50) d_130_34 (by decide) rfl (fun _ => ?_) (fun hc => absurd hc (by decide))
      refine e_iconst d_130_50 ci_m1 rfl ?_
      subst H
      exact e_iret d_130_51 rr_130
    · replace H := H.1 hc
      refine e_aload_n d_130_17 rfl rfl ?_
      refine e_iload_n d_130_18 rfl rfl ?_
      obtain ⟨v3, σ1, hcl, hS2, H⟩ := H
      refine e_vcall (w1 := (some (.int v3), σ1)) d_130_19 kc_130_19 rfl ⟨Nat.le_of_ble_eq_true rfl, xx_130.symm⟩ rfl hcl ?_
      show Ev 130 22 [.ref 0, .int x1, .int x2, .int x3, .retAddr 0] [.int v3] σ1 w
      refine e_if_eq (t := 29) d_130_22 (by decide) rfl (fun hc => ?_) (fun hc => ?_)
      · replace H := H.1 hc
        refine e_iconst d_130_29 ci_0 rfl ?_
        refine e_istore (ls2 := [.ref 0, .int x1, .int x2, .int x3, .int 0]) d_130_30 rfl rfl rfl ?_
        refine e_iload d_130_32 rfl rfl ?_
        refine e_if_eq (t := 50) d_130_34 (by decide) rfl (fun _ => ?_) (fun hc => absurd hc (by decide))
        refine e_iconst d_130_50 ci_m1 rfl ?_
        subst H
        exact e_iret d_130_51 rr_130
      · replace H := H.2 hc
        refine e_iconst d_130_25 ci_1 rfl ?_
        refine e_goto (t := 30) d_130_26 (by decide) ?_
        refine e_istore (ls2 := [.ref 0, .int x1, .int x2, .int x3, .int 1]) d_130_30 rfl rfl rfl ?_
        refine e_iload d_130_32 rfl rfl ?_
        refine e_if_eq (t := 50) d_130_34 (by decide) rfl (fun hc => absurd hc (by decide)) (fun _ => ?_)
        refine e_aload_n d_130_37 rfl rfl ?_
        refine e_getR d_130_38 oo_130 pF_8_55 (by decide) (hS2.k rfl) (hS2.r rt_0_8) rfl ?_
        refine e_iload_n d_130_41 rfl rfl ?_
        refine e_iload_n d_130_42 rfl rfl ?_
        refine e_iload_n d_130_43 rfl rfl ?_
        obtain ⟨v6, σ4, hcl, hS5, H⟩ := H
        refine e_vcall (w1 := (some (.int v6), σ4)) d_130_44 kc_130_44 rfl ⟨Nat.le_of_ble_eq_true rfl, xx_130.symm⟩ rfl hcl ?_
        show Ev 130 47 [.ref 0, .int x1, .int x2, .int x3, .int 1] [.int v6] σ4 w
        refine e_goto (t := 51) d_130_47 (by decide) ?_
        subst H
        exact e_iret d_130_51 rr_130
  · replace H := H.1 hc
    refine e_aload_n d_130_4 rfl rfl ?_
    refine e_iload_n d_130_5 rfl rfl ?_
    obtain ⟨v9, σ7, hcl, hS8, H⟩ := H
    refine e_vcall (w1 := (some (.int v9), σ7)) d_130_6 kc_130_6 rfl ⟨Nat.le_of_ble_eq_true rfl, xx_130.symm⟩ rfl hcl ?_
    show Ev 130 9 [.ref 0, .int x1, .int x2, .int x3, .retAddr 0] [.int v9] σ7 w
    refine e_goto (t := 30) d_130_9 (by decide) ?_
    refine e_istore (ls2 := [.ref 0, .int x1, .int x2, .int x3, .int v9]) d_130_30 rfl rfl rfl ?_
    refine e_iload d_130_32 rfl rfl ?_
    refine e_if_eq (t := 50) d_130_34 (by decide) rfl (fun hc => ?_) (fun hc => ?_)
    · replace H := H.1 hc
      refine e_iconst d_130_50 ci_m1 rfl ?_
      subst H
      exact e_iret d_130_51 rr_130
    · replace H := H.2 hc
      refine e_aload_n d_130_37 rfl rfl ?_
      refine e_getR d_130_38 oo_130 pF_8_55 (by decide) (hS8.k rfl) (hS8.r rt_0_8) rfl ?_
      refine e_iload_n d_130_41 rfl rfl ?_
      refine e_iload_n d_130_42 rfl rfl ?_
      refine e_iload_n d_130_43 rfl rfl ?_
      obtain ⟨v12, σ10, hcl, hS11, H⟩ := H
      refine e_vcall (w1 := (some (.int v12), σ10)) d_130_44 kc_130_44 rfl ⟨Nat.le_of_ble_eq_true rfl, xx_130.symm⟩ rfl hcl ?_
      show Ev 130 47 [.ref 0, .int x1, .int x2, .int x3, .int v9] [.int v12] σ10 w
      refine e_goto (t := 51) d_130_47 (by decide) ?_
      subst H
      exact e_iret d_130_51 rr_130
/-! X8_strike -/
theorem b_131_0 {t : Nat} {σ : Mm} {w : Option Value × Mm} {x1 : Int32} (hS : Sg t σ) 
    (H : ∃ (v3 : Int32) (σ1 : Mm), Cl 29 [.ref 49, .int x1] σ (some (.int v3), σ1) ∧ Sg t σ1 ∧ (w = (some (.int v3), σ1))) :
    Ev 131 0 [.ref 0, .int x1] [] σ w := by
  refine e_aload_n d_131_0 rfl rfl ?_
  refine e_getR d_131_1 oo_131 pF_8_55 (by decide) (hS.k rfl) (hS.r rt_0_8) rfl ?_
  refine e_iload_n d_131_4 rfl rfl ?_
  obtain ⟨v3, σ1, hcl, hS2, H⟩ := H
  refine e_vcall (w1 := (some (.int v3), σ1)) d_131_5 kc_131_5 rfl ⟨Nat.le_of_ble_eq_true rfl, xx_131.symm⟩ rfl hcl ?_
  show Ev 131 8 [.ref 0, .int x1] [.int v3] σ1 w
  subst H
  exact e_iret d_131_8 rr_131
/-! X8_known -/
theorem b_132_0 {t : Nat} {σ : Mm} {w : Option Value × Mm} {x1 : Int32} (hS : Sg t σ) 
    (H : (x1 < (-1) → (w = (some (.int 0), σ))) ∧ (¬ (x1 < (-1)) → (((mI σ 49 0) < x1 → (w = (some (.int 0), σ))) ∧ (¬ ((mI σ 49 0) < x1) → (w = (some (.int 1), uI σ 49 1 x1)))))) :
    Ev 132 0 [.ref 0, .int x1] [] σ w := by
  refine e_iload_n d_132_0 rfl rfl ?_
  refine e_iconst d_132_1 ci_m1 rfl ?_
  refine e_icmp_lt (t := 16) d_132_2 (by decide) rfl (fun hc => ?_) (fun hc => ?_)
  · replace H := H.1 hc
    refine e_iconst d_132_16 ci_0 rfl ?_
    subst H
    exact e_zret d_132_17 rr_132 (Or.inl rfl)
  · replace H := H.2 hc
    refine e_iload_n d_132_5 rfl rfl ?_
    refine e_aload_n d_132_6 rfl rfl ?_
    refine e_getR d_132_7 oo_132 pF_8_55 (by decide) (hS.k rfl) (hS.r rt_0_8) rfl ?_
    refine e_getI d_132_10 oo_132 pF_8_291 (by decide) (hS.k rfl) rfl ?_
    refine e_icmp_le (t := 18) d_132_13 (by decide) rfl (fun hc => ?_) (fun hc => ?_)
    · replace H := H.2 hc
      refine e_aload_n d_132_18 rfl rfl ?_
      refine e_getR d_132_19 oo_132 pF_8_55 (by decide) (hS.k rfl) (hS.r rt_0_8) rfl ?_
      refine e_iload_n d_132_22 rfl rfl ?_
      refine e_putI d_132_23 oo_132 pF_8_294 (Or.inl rfl) (hS.k rfl) rfl ?_
      refine e_iconst d_132_26 ci_1 rfl ?_
      subst H
      exact e_zret d_132_27 rr_132 (Or.inr rfl)
    · replace H := H.1 hc
      refine e_iconst d_132_16 ci_0 rfl ?_
      subst H
      exact e_zret d_132_17 rr_132 (Or.inl rfl)
/-! X8_fits -/
theorem b_133_0 {t : Nat} {σ : Mm} {w : Option Value × Mm}  (hS : Sg t σ) 
    (H : ∃ (v3 : Int32) (σ1 : Mm), Cl 148 [.ref 0] σ (some (.int v3), σ1) ∧ Sg t σ1 ∧ (w = (some (.int v3), σ1))) :
    Ev 133 0 [.ref 0] [] σ w := by
  refine e_aload_n d_133_0 rfl rfl ?_
  obtain ⟨v3, σ1, hcl, hS2, H⟩ := H
  refine e_vcall (w1 := (some (.int v3), σ1)) d_133_1 kc_133_1 rfl ⟨Nat.le_of_ble_eq_true rfl, xx_133.symm⟩ rfl hcl ?_
  show Ev 133 4 [.ref 0] [.int v3] σ1 w
  subst H
  exact e_iret d_133_4 rr_133
/-! X8_rang -/
theorem b_134_0 {t : Nat} {σ : Mm} {w : Option Value × Mm} {x1 : Int32} (hS : Sg t σ) 
    (H : ∃ (v3 : Int32) (σ1 : Mm), Cl 143 [.ref 0, .int x1] σ (some (.int v3), σ1) ∧ Sg t σ1 ∧ ((v3 = 0 → (w = (some (.int (-1)), σ1))) ∧ (¬ (v3 = 0) → (∃ (v6 : Int32) (σ4 : Mm), Cl 148 [.ref 0] σ1 (some (.int v6), σ4) ∧ Sg t σ4 ∧ ((v6 = 0 → (w = (some (.int (-2)), σ4))) ∧ (¬ (v6 = 0) → (((((mI σ4 49 2) >>> (x1 &&& 31)) &&& 1) = 0 → (((((mI σ4 49 3) >>> (x1 &&& 31)) &&& 1) = 0 → (w = (some (.int 0), σ4))) ∧ (¬ ((((mI σ4 49 3) >>> (x1 &&& 31)) &&& 1) = 0) → (w = (some (.int 2), σ4))))) ∧ (¬ ((((mI σ4 49 2) >>> (x1 &&& 31)) &&& 1) = 0) → (w = (some (.int 1), σ4)))))))))) :
    Ev 134 0 [.ref 0, .int x1] [] σ w := by
  refine e_aload_n d_134_0 rfl rfl ?_
  refine e_iload_n d_134_1 rfl rfl ?_
  obtain ⟨v3, σ1, hcl, hS2, H⟩ := H
  refine e_vcall (w1 := (some (.int v3), σ1)) d_134_2 kc_134_2 rfl ⟨Nat.le_of_ble_eq_true rfl, xx_134.symm⟩ rfl hcl ?_
  show Ev 134 5 [.ref 0, .int x1] [.int v3] σ1 w
  refine e_if_ne (t := 10) d_134_5 (by decide) rfl (fun hc => ?_) (fun hc => ?_)
  · replace H := H.2 hc
    refine e_aload_n d_134_10 rfl rfl ?_
    obtain ⟨v6, σ4, hcl, hS5, H⟩ := H
    refine e_vcall (w1 := (some (.int v6), σ4)) d_134_11 kc_134_11 rfl ⟨Nat.le_of_ble_eq_true rfl, xx_134.symm⟩ rfl hcl ?_
    show Ev 134 14 [.ref 0, .int x1] [.int v6] σ4 w
    refine e_if_ne (t := 20) d_134_14 (by decide) rfl (fun hc => ?_) (fun hc => ?_)
    · replace H := H.2 hc
      refine e_aload_n d_134_20 rfl rfl ?_
      refine e_getR d_134_21 oo_134 pF_8_55 (by decide) (hS5.k rfl) (hS5.r rt_0_8) rfl ?_
      refine e_getI d_134_24 oo_134 pF_8_300 (by decide) (hS5.k rfl) rfl ?_
      refine e_iload_n d_134_27 rfl rfl ?_
      refine e_ishr d_134_28 rfl ?_
      refine e_iconst d_134_29 ci_1 rfl ?_
      refine e_iand d_134_30 rfl ?_
      refine e_if_eq (t := 36) d_134_31 (by decide) rfl (fun hc => ?_) (fun hc => ?_)
      · replace H := H.1 hc
        refine e_aload_n d_134_36 rfl rfl ?_
        refine e_getR d_134_37 oo_134 pF_8_55 (by decide) (hS5.k rfl) (hS5.r rt_0_8) rfl ?_
        refine e_getI d_134_40 oo_134 pF_8_303 (by decide) (hS5.k rfl) rfl ?_
        refine e_iload_n d_134_43 rfl rfl ?_
        refine e_ishr d_134_44 rfl ?_
        refine e_iconst d_134_45 ci_1 rfl ?_
        refine e_iand d_134_46 rfl ?_
        refine e_if_eq (t := 54) d_134_47 (by decide) rfl (fun hc => ?_) (fun hc => ?_)
        · replace H := H.1 hc
          refine e_iconst d_134_54 ci_0 rfl ?_
          subst H
          exact e_iret d_134_55 rr_134
        · replace H := H.2 hc
          refine e_iconst d_134_50 ci_2 rfl ?_
          refine e_goto (t := 55) d_134_51 (by decide) ?_
          subst H
          exact e_iret d_134_55 rr_134
      · replace H := H.2 hc
        refine e_iconst d_134_34 ci_1 rfl ?_
        subst H
        exact e_iret d_134_35 rr_134
    · replace H := H.1 hc
      refine e_bipush d_134_17 cb_m2 rfl ?_
      subst H
      exact e_iret d_134_19 rr_134
  · replace H := H.1 hc
    refine e_iconst d_134_8 ci_m1 rfl ?_
    subst H
    exact e_iret d_134_9 rr_134
/-! X8_ask -/
theorem b_135_0 {t : Nat} {σ : Mm} {w : Option Value × Mm}  (hS : Sg t σ) 
    (H : ∃ (v3 : Int32) (σ1 : Mm), Cl 148 [.ref 0] σ (some (.int v3), σ1) ∧ Sg t σ1 ∧ ((v3 = 0 → (w = (some (.int (-2)), σ1))) ∧ (¬ (v3 = 0) → ((((mI σ1 49 5) &&& ((mI σ1 49 4) ^^^ (-1))) = 0 → (w = (some (.int (-2)), σ1))) ∧ (¬ (((mI σ1 49 5) &&& ((mI σ1 49 4) ^^^ (-1))) = 0) → (∃ (v6 : Int32) (σ4 : Mm), Cl 275 [.int ((mI σ1 49 5) &&& ((mI σ1 49 4) ^^^ (-1)))] σ1 (some (.int v6), σ4) ∧ Sg t σ4 ∧ (w = (some (.int v6), σ4)))))))) :
    Ev 135 0 [.ref 0, .retAddr 0] [] σ w := by
  refine e_aload_n d_135_0 rfl rfl ?_
  obtain ⟨v3, σ1, hcl, hS2, H⟩ := H
  refine e_vcall (w1 := (some (.int v3), σ1)) d_135_1 kc_135_1 rfl ⟨Nat.le_of_ble_eq_true rfl, xx_135.symm⟩ rfl hcl ?_
  show Ev 135 4 [.ref 0, .retAddr 0] [.int v3] σ1 w
  refine e_if_ne (t := 10) d_135_4 (by decide) rfl (fun hc => ?_) (fun hc => ?_)
  · replace H := H.2 hc
    refine e_aload_n d_135_10 rfl rfl ?_
    refine e_getR d_135_11 oo_135 pF_8_55 (by decide) (hS2.k rfl) (hS2.r rt_0_8) rfl ?_
    refine e_getI d_135_14 oo_135 pF_8_306 (by decide) (hS2.k rfl) rfl ?_
    refine e_aload_n d_135_17 rfl rfl ?_
    refine e_getR d_135_18 oo_135 pF_8_55 (by decide) (hS2.k rfl) (hS2.r rt_0_8) rfl ?_
    refine e_getI d_135_21 oo_135 pF_8_309 (by decide) (hS2.k rfl) rfl ?_
    refine e_iconst d_135_24 ci_m1 rfl ?_
    refine e_ixor d_135_25 rfl ?_
    refine e_iand d_135_26 rfl ?_
    refine e_istore_n (ls2 := [.ref 0, .int ((mI σ1 49 5) &&& ((mI σ1 49 4) ^^^ (-1)))]) d_135_27 rfl rfl rfl ?_
    refine e_iload_n d_135_28 rfl rfl ?_
    refine e_if_ne (t := 37) d_135_29 (by decide) rfl (fun hc => ?_) (fun hc => ?_)
    · replace H := H.2 hc
      refine e_iload_n d_135_37 rfl rfl ?_
      obtain ⟨v6, σ4, hcl, hS5, H⟩ := H
      refine e_scall (w1 := (some (.int v6), σ4)) d_135_38 kc_135_38 rfl ⟨Nat.le_of_ble_eq_true rfl, xx_135.symm⟩ rfl hcl ?_
      show Ev 135 41 [.ref 0, .int ((mI σ1 49 5) &&& ((mI σ1 49 4) ^^^ (-1)))] [.int v6] σ4 w
      subst H
      exact e_iret d_135_41 rr_135
    · replace H := H.1 hc
      refine e_bipush d_135_32 cb_m2 rfl ?_
      refine e_goto (t := 41) d_135_34 (by decide) ?_
      subst H
      exact e_iret d_135_41 rr_135
  · replace H := H.1 hc
    refine e_bipush d_135_7 cb_m2 rfl ?_
    subst H
    exact e_iret d_135_9 rr_135
/-! X8_chance -/
theorem b_136_0 {t : Nat} {σ : Mm} {w : Option Value × Mm} {x1 : Int32} {x2 : Int32} {x3 : Int32} (hS : Sg t σ) 
    (H : (x1 < 0 → (w = (some (.int (-1)), σ))) ∧ (¬ (x1 < 0) → ((x2 < 1 → (w = (some (.int (-1)), σ))) ∧ (¬ (x2 < 1) → ((99 < x2 → (w = (some (.int (-1)), σ))) ∧ (¬ (99 < x2) → (∃ (v3 : Int32) (σ1 : Mm), Cl 142 [.ref 0, .int x3] σ (some (.int v3), σ1) ∧ Sg t σ1 ∧ ((v3 = 0 → (w = (some (.int (-1)), σ1))) ∧ (¬ (v3 = 0) → (∃ (σ4 : Mm), Cl 5 [.ref 38] σ1 (none, σ4) ∧ Sg t σ4 ∧ Ev 136 41 [.ref 0, .int x1, .int x2, .int x3, .int x1, .int 0, .int 0] [] σ4 w)))))))))) :
    Ev 136 0 [.ref 0, .int x1, .int x2, .int x3, .retAddr 0, .retAddr 0, .retAddr 0] [] σ w := by
  refine e_iload_n d_136_0 rfl rfl ?_
  refine e_if_lt (t := 23) d_136_1 (by decide) rfl (fun hc => ?_) (fun hc => ?_)
  · replace H := H.1 hc
    refine e_iconst d_136_23 ci_m1 rfl ?_
    subst H
    exact e_iret d_136_24 rr_136
  · replace H := H.2 hc
    refine e_iload_n d_136_4 rfl rfl ?_
    refine e_iconst d_136_5 ci_1 rfl ?_
    refine e_icmp_lt (t := 23) d_136_6 (by decide) rfl (fun hc => ?_) (fun hc => ?_)
    · replace H := H.1 hc
      refine e_iconst d_136_23 ci_m1 rfl ?_
      subst H
      exact e_iret d_136_24 rr_136
    · replace H := H.2 hc
      refine e_iload_n d_136_9 rfl rfl ?_
      refine e_bipush d_136_10 cb_99 rfl ?_
      refine e_icmp_gt (t := 23) d_136_12 (by decide) rfl (fun hc => ?_) (fun hc => ?_)
      · replace H := H.1 hc
        refine e_iconst d_136_23 ci_m1 rfl ?_
        subst H
        exact e_iret d_136_24 rr_136
      · replace H := H.2 hc
        refine e_aload_n d_136_15 rfl rfl ?_
        refine e_iload_n d_136_16 rfl rfl ?_
        obtain ⟨v3, σ1, hcl, hS2, H⟩ := H
        refine e_vcall (w1 := (some (.int v3), σ1)) d_136_17 kc_136_17 rfl ⟨Nat.le_of_ble_eq_true rfl, xx_136.symm⟩ rfl hcl ?_
        show Ev 136 20 [.ref 0, .int x1, .int x2, .int x3, .retAddr 0, .retAddr 0, .retAddr 0] [.int v3] σ1 w
        refine e_if_ne (t := 25) d_136_20 (by decide) rfl (fun hc => ?_) (fun hc => ?_)
        · replace H := H.2 hc
          refine e_iload_n d_136_25 rfl rfl ?_
          refine e_istore (ls2 := [.ref 0, .int x1, .int x2, .int x3, .int x1, .retAddr 0, .retAddr 0]) d_136_26 rfl rfl rfl ?_
          refine e_iconst d_136_28 ci_0 rfl ?_
          refine e_istore (ls2 := [.ref 0, .int x1, .int x2, .int x3, .int x1, .int 0, .retAddr 0]) d_136_29 rfl rfl rfl ?_
          refine e_aload_n d_136_31 rfl rfl ?_
          refine e_getR d_136_32 oo_136 pF_8_41 (by decide) (hS2.k rfl) (hS2.r rt_0_6) rfl ?_
          obtain ⟨σ4, hcl, hS5, H⟩ := H
          refine e_vcall (w1 := (none, σ4)) d_136_35 kc_136_35 rfl ⟨Nat.le_of_ble_eq_true rfl, xx_136.symm⟩ rfl hcl ?_
          show Ev 136 38 [.ref 0, .int x1, .int x2, .int x3, .int x1, .int 0, .retAddr 0] [] σ4 w
          refine e_iconst d_136_38 ci_0 rfl ?_
          refine e_istore (ls2 := [.ref 0, .int x1, .int x2, .int x3, .int x1, .int 0, .int 0]) d_136_39 rfl rfl rfl ?_
          exact H
        · replace H := H.1 hc
          refine e_iconst d_136_23 ci_m1 rfl ?_
          subst H
          exact e_iret d_136_24 rr_136
theorem b_136_41 {t : Nat} {σ : Mm} {w : Option Value × Mm} {x1 : Int32} {x2 : Int32} {x3 : Int32} {x4 : Int32} {x5 : Int32} {x6 : Int32} (hS : Sg t σ) 
    (H : (x6 < 10 → (∃ (σ1 : Mm), Cl 19 [.ref 30, .ref 26] σ (none, σ1) ∧ Sg t σ1 ∧ (∃ (σ4 : Mm), Cl 8 [.ref 38, .ref t, .ref 30, .int x2] (uI σ1 30 6 x4) (none, σ4) ∧ Sg t σ4 ∧ Ev 136 41 [.ref 0, .int x1, .int x2, .int x3, .int (mI σ4 30 6), .int (x5 + (((mI σ4 30 2) >>> (x3 &&& 31)) &&& 1)), .int (x6 + 1)] [] σ4 w))) ∧ (¬ (x6 < 10) → (w = (some (.int x5), σ)))) :
    Ev 136 41 [.ref 0, .int x1, .int x2, .int x3, .int x4, .int x5, .int x6] [] σ w := by
  refine e_iload d_136_41 rfl rfl ?_
  refine e_bipush d_136_43 cb_10 rfl ?_
  refine e_icmp_ge (t := 115) d_136_45 (by decide) rfl (fun hc => ?_) (fun hc => ?_)
  · replace H := H.2 hc
    refine e_iload d_136_115 rfl rfl ?_
    subst H
    exact e_iret d_136_117 rr_136
  · replace H := H.1 hc
    refine e_aload_n d_136_48 rfl rfl ?_
    refine e_getR d_136_49 oo_136 pF_8_32 (by decide) (hS.k rfl) (hS.r rt_0_3) rfl ?_
    refine e_aload_n d_136_52 rfl rfl ?_
    refine e_getR d_136_53 oo_136 pF_8_28 (by decide) (hS.k rfl) (hS.r rt_0_2) rfl ?_
    obtain ⟨σ1, hcl, hS2, H⟩ := H
    refine e_vcall (w1 := (none, σ1)) d_136_56 kc_136_56 rfl ⟨Nat.le_of_ble_eq_true rfl, xx_136.symm⟩ rfl hcl ?_
    show Ev 136 59 [.ref 0, .int x1, .int x2, .int x3, .int x4, .int x5, .int x6] [] σ1 w
    refine e_aload_n d_136_59 rfl rfl ?_
    refine e_getR d_136_60 oo_136 pF_8_32 (by decide) (hS2.k rfl) (hS2.r rt_0_3) rfl ?_
    refine e_iload d_136_63 rfl rfl ?_
    refine e_putI d_136_65 oo_136 pF_8_315 (Or.inl rfl) (hS2.k rfl) rfl ?_
    refine e_aload_n d_136_68 rfl rfl ?_
    refine e_getR d_136_69 oo_136 pF_8_41 (by decide) (hS2.uI.k rfl) (hS2.uI.r rt_0_6) rfl ?_
    refine e_aload_n d_136_72 rfl rfl ?_
    refine e_getR d_136_73 oo_136 pF_8_21 (by decide) (hS2.uI.k rfl) hS2.uI.told rfl ?_
    refine e_aload_n d_136_76 rfl rfl ?_
    refine e_getR d_136_77 oo_136 pF_8_32 (by decide) (hS2.uI.k rfl) (hS2.uI.r rt_0_3) rfl ?_
    refine e_iload_n d_136_80 rfl rfl ?_
    obtain ⟨σ4, hcl, hS5, H⟩ := H
    refine e_vcall (w1 := (none, σ4)) d_136_81 kc_136_81 rfl ⟨Nat.le_of_ble_eq_true rfl, xx_136.symm⟩ rfl hcl ?_
    show Ev 136 84 [.ref 0, .int x1, .int x2, .int x3, .int x4, .int x5, .int x6] [] σ4 w
    refine e_aload_n d_136_84 rfl rfl ?_
    refine e_getR d_136_85 oo_136 pF_8_32 (by decide) (hS5.k rfl) (hS5.r rt_0_3) rfl ?_
    refine e_getI d_136_88 oo_136 pF_8_315 (by decide) (hS5.k rfl) rfl ?_
    refine e_istore (ls2 := [.ref 0, .int x1, .int x2, .int x3, .int (mI σ4 30 6), .int x5, .int x6]) d_136_91 rfl rfl rfl ?_
    refine e_iload d_136_93 rfl rfl ?_
    refine e_aload_n d_136_95 rfl rfl ?_
    refine e_getR d_136_96 oo_136 pF_8_32 (by decide) (hS5.k rfl) (hS5.r rt_0_3) rfl ?_
    refine e_getI d_136_99 oo_136 pF_8_133 (by decide) (hS5.k rfl) rfl ?_
    refine e_iload_n d_136_102 rfl rfl ?_
    refine e_ishr d_136_103 rfl ?_
    refine e_iconst d_136_104 ci_1 rfl ?_
    refine e_iand d_136_105 rfl ?_
    refine e_iadd d_136_106 rfl ?_
    refine e_istore (ls2 := [.ref 0, .int x1, .int x2, .int x3, .int (mI σ4 30 6), .int (x5 + (((mI σ4 30 2) >>> (x3 &&& 31)) &&& 1)), .int x6]) d_136_107 rfl rfl rfl ?_
    refine e_iinc (ls2 := [.ref 0, .int x1, .int x2, .int x3, .int (mI σ4 30 6), .int (x5 + (((mI σ4 30 2) >>> (x3 &&& 31)) &&& 1)), .int (x6 + 1)]) d_136_109 rfl ci_1 rfl rfl rfl ?_
    refine e_goto (t := 41) d_136_112 (by decide) ?_
    exact H
/-! X8_tried -/
theorem b_137_0 {t : Nat} {σ : Mm} {w : Option Value × Mm} {x1 : Int32} {x2 : Int32} {x3 : Int32} (hS : Sg t σ) 
    (H : (x1 = 2 → (∃ (v3 : Int32) (σ1 : Mm), Cl 143 [.ref 0, .int x2] σ (some (.int v3), σ1) ∧ Sg t σ1 ∧ Ev 137 22 [.ref 0, .int x1, .int x2, .int x3, .retAddr 0] [.int v3] σ1 w)) ∧ (¬ (x1 = 2) → ((x2 = 0 → Ev 137 22 [.ref 0, .int x1, .int x2, .int x3, .retAddr 0] [.int 1] σ w) ∧ (¬ (x2 = 0) → Ev 137 22 [.ref 0, .int x1, .int x2, .int x3, .retAddr 0] [.int 0] σ w)))) :
    Ev 137 0 [.ref 0, .int x1, .int x2, .int x3, .retAddr 0] [] σ w := by
  refine e_iload_n d_137_0 rfl rfl ?_
  refine e_iconst d_137_1 ci_2 rfl ?_
  refine e_icmp_ne (t := 13) d_137_2 (by decide) rfl (fun hc => ?_) (fun hc => ?_)
  · replace H := H.2 hc
    refine e_iload_n d_137_13 rfl rfl ?_
    refine e_if_ne (t := 21) d_137_14 (by decide) rfl (fun hc => ?_) (fun hc => ?_)
    · replace H := H.2 hc
      refine e_iconst d_137_21 ci_0 rfl ?_
      exact H
    · replace H := H.1 hc
      refine e_iconst d_137_17 ci_1 rfl ?_
      refine e_goto (t := 22) d_137_18 (by decide) ?_
      exact H
  · replace H := H.1 hc
    refine e_aload_n d_137_5 rfl rfl ?_
    refine e_iload_n d_137_6 rfl rfl ?_
    obtain ⟨v3, σ1, hcl, hS2, H⟩ := H
    refine e_vcall (w1 := (some (.int v3), σ1)) d_137_7 kc_137_7 rfl ⟨Nat.le_of_ble_eq_true rfl, xx_137.symm⟩ rfl hcl ?_
    show Ev 137 10 [.ref 0, .int x1, .int x2, .int x3, .retAddr 0] [.int v3] σ1 w
    refine e_goto (t := 22) d_137_10 (by decide) ?_
    exact H
theorem b_137_22 {t : Nat} {σ : Mm} {w : Option Value × Mm} {x1 : Int32} {x2 : Int32} {x3 : Int32} {z4 : Value} {s0 : Int32} (hS : Sg t σ) 
    (H : (x1 < 0 → (w = (some (.int (-1)), σ))) ∧ (¬ (x1 < 0) → ((4 < x1 → (w = (some (.int (-1)), σ))) ∧ (¬ (4 < x1) → ((s0 = 0 → (w = (some (.int (-1)), σ))) ∧ (¬ (s0 = 0) → ((x3 < 0 → (w = (some (.int (-1)), σ))) ∧ (¬ (x3 < 0) → ((200 < x3 → (w = (some (.int (-1)), σ))) ∧ (¬ (200 < x3) → (∃ (σ1 : Mm), Cl 19 [.ref 30, .ref 26] σ (none, σ1) ∧ Sg t σ1 ∧ (∃ (σ4 : Mm), Cl 6 [.ref 38] σ1 (none, σ4) ∧ Sg t σ4 ∧ (∃ (σ7 : Mm), Cl 7 [.ref 38, .int x1, .int x2] σ4 (none, σ7) ∧ Sg t σ7 ∧ ((x1 = 4 → (∃ (σ19 : Mm), Cl 24 [.ref 30] σ7 (none, σ19) ∧ Sg t σ19 ∧ (∃ (σ22 : Mm), Cl 8 [.ref 38, .ref t, .ref 30, .int x3] σ19 (none, σ22) ∧ Sg t σ22 ∧ (∃ (v27 : Int32) (σ25 : Mm), Cl 20 [.ref 30] σ22 (some (.int v27), σ25) ∧ Sg t σ25 ∧ (∃ (v30 : Int32) (σ28 : Mm), Cl 276 [.int v27] σ25 (some (.int v30), σ28) ∧ Sg t σ28 ∧ (w = (some (.int v30), σ28))))))) ∧ (¬ (x1 = 4) → (∃ (σ10 : Mm), Cl 8 [.ref 38, .ref t, .ref 30, .int x3] σ7 (none, σ10) ∧ Sg t σ10 ∧ (∃ (v15 : Int32) (σ13 : Mm), Cl 20 [.ref 30] σ10 (some (.int v15), σ13) ∧ Sg t σ13 ∧ (∃ (v18 : Int32) (σ16 : Mm), Cl 276 [.int v15] σ13 (some (.int v18), σ16) ∧ Sg t σ16 ∧ (w = (some (.int v18), σ16)))))))))))))))))))) :
    Ev 137 22 [.ref 0, .int x1, .int x2, .int x3, z4] [.int s0] σ w := by
  refine e_istore (ls2 := [.ref 0, .int x1, .int x2, .int x3, .int s0]) d_137_22 rfl rfl rfl ?_
  refine e_iload_n d_137_24 rfl rfl ?_
  refine e_if_lt (t := 49) d_137_25 (by decide) rfl (fun hc => ?_) (fun hc => ?_)
  · replace H := H.1 hc
    refine e_iconst d_137_49 ci_m1 rfl ?_
    subst H
    exact e_iret d_137_50 rr_137
  · replace H := H.2 hc
    refine e_iload_n d_137_28 rfl rfl ?_
    refine e_iconst d_137_29 ci_4 rfl ?_
    refine e_icmp_gt (t := 49) d_137_30 (by decide) rfl (fun hc => ?_) (fun hc => ?_)
    · replace H := H.1 hc
      refine e_iconst d_137_49 ci_m1 rfl ?_
      subst H
      exact e_iret d_137_50 rr_137
    · replace H := H.2 hc
      refine e_iload d_137_33 rfl rfl ?_
      refine e_if_eq (t := 49) d_137_35 (by decide) rfl (fun hc => ?_) (fun hc => ?_)
      · replace H := H.1 hc
        refine e_iconst d_137_49 ci_m1 rfl ?_
        subst H
        exact e_iret d_137_50 rr_137
      · replace H := H.2 hc
        refine e_iload_n d_137_38 rfl rfl ?_
        refine e_if_lt (t := 49) d_137_39 (by decide) rfl (fun hc => ?_) (fun hc => ?_)
        · replace H := H.1 hc
          refine e_iconst d_137_49 ci_m1 rfl ?_
          subst H
          exact e_iret d_137_50 rr_137
        · replace H := H.2 hc
          refine e_iload_n d_137_42 rfl rfl ?_
          refine e_sipush d_137_43 cs_200 rfl ?_
          refine e_icmp_le (t := 51) d_137_46 (by decide) rfl (fun hc => ?_) (fun hc => ?_)
          · replace H := H.2 hc
            refine e_aload_n d_137_51 rfl rfl ?_
            refine e_getR d_137_52 oo_137 pF_8_32 (by decide) (hS.k rfl) (hS.r rt_0_3) rfl ?_
            refine e_aload_n d_137_55 rfl rfl ?_
            refine e_getR d_137_56 oo_137 pF_8_28 (by decide) (hS.k rfl) (hS.r rt_0_2) rfl ?_
            obtain ⟨σ1, hcl, hS2, H⟩ := H
            refine e_vcall (w1 := (none, σ1)) d_137_59 kc_137_59 rfl ⟨Nat.le_of_ble_eq_true rfl, xx_137.symm⟩ rfl hcl ?_
            show Ev 137 62 [.ref 0, .int x1, .int x2, .int x3, .int s0] [] σ1 w
            refine e_aload_n d_137_62 rfl rfl ?_
            refine e_getR d_137_63 oo_137 pF_8_41 (by decide) (hS2.k rfl) (hS2.r rt_0_6) rfl ?_
            obtain ⟨σ4, hcl, hS5, H⟩ := H
            refine e_vcall (w1 := (none, σ4)) d_137_66 kc_137_66 rfl ⟨Nat.le_of_ble_eq_true rfl, xx_137.symm⟩ rfl hcl ?_
            show Ev 137 69 [.ref 0, .int x1, .int x2, .int x3, .int s0] [] σ4 w
            refine e_aload_n d_137_69 rfl rfl ?_
            refine e_getR d_137_70 oo_137 pF_8_41 (by decide) (hS5.k rfl) (hS5.r rt_0_6) rfl ?_
            refine e_iload_n d_137_73 rfl rfl ?_
            refine e_iload_n d_137_74 rfl rfl ?_
            obtain ⟨σ7, hcl, hS8, H⟩ := H
            refine e_vcall (w1 := (none, σ7)) d_137_75 kc_137_75 rfl ⟨Nat.le_of_ble_eq_true rfl, xx_137.symm⟩ rfl hcl ?_
            show Ev 137 78 [.ref 0, .int x1, .int x2, .int x3, .int s0] [] σ7 w
            refine e_iload_n d_137_78 rfl rfl ?_
            refine e_iconst d_137_79 ci_4 rfl ?_
            refine e_icmp_ne (t := 90) d_137_80 (by decide) rfl (fun hc => ?_) (fun hc => ?_)
            · replace H := H.2 hc
              refine e_aload_n d_137_90 rfl rfl ?_
              refine e_getR d_137_91 oo_137 pF_8_41 (by decide) (hS8.k rfl) (hS8.r rt_0_6) rfl ?_
              refine e_aload_n d_137_94 rfl rfl ?_
              refine e_getR d_137_95 oo_137 pF_8_21 (by decide) (hS8.k rfl) hS8.told rfl ?_
              refine e_aload_n d_137_98 rfl rfl ?_
              refine e_getR d_137_99 oo_137 pF_8_32 (by decide) (hS8.k rfl) (hS8.r rt_0_3) rfl ?_
              refine e_iload_n d_137_102 rfl rfl ?_
              obtain ⟨σ10, hcl, hS11, H⟩ := H
              refine e_vcall (w1 := (none, σ10)) d_137_103 kc_137_103 rfl ⟨Nat.le_of_ble_eq_true rfl, xx_137.symm⟩ rfl hcl ?_
              show Ev 137 106 [.ref 0, .int x1, .int x2, .int x3, .int s0] [] σ10 w
              refine e_aload_n d_137_106 rfl rfl ?_
              refine e_getR d_137_107 oo_137 pF_8_32 (by decide) (hS11.k rfl) (hS11.r rt_0_3) rfl ?_
              obtain ⟨v15, σ13, hcl, hS14, H⟩ := H
              refine e_vcall (w1 := (some (.int v15), σ13)) d_137_110 kc_137_110 rfl ⟨Nat.le_of_ble_eq_true rfl, xx_137.symm⟩ rfl hcl ?_
              show Ev 137 113 [.ref 0, .int x1, .int x2, .int x3, .int s0] [.int v15] σ13 w
              obtain ⟨v18, σ16, hcl, hS17, H⟩ := H
              refine e_scall (w1 := (some (.int v18), σ16)) d_137_113 kc_137_113 rfl ⟨Nat.le_of_ble_eq_true rfl, xx_137.symm⟩ rfl hcl ?_
              show Ev 137 116 [.ref 0, .int x1, .int x2, .int x3, .int s0] [.int v18] σ16 w
              subst H
              exact e_iret d_137_116 rr_137
            · replace H := H.1 hc
              refine e_aload_n d_137_83 rfl rfl ?_
              refine e_getR d_137_84 oo_137 pF_8_32 (by decide) (hS8.k rfl) (hS8.r rt_0_3) rfl ?_
              obtain ⟨σ19, hcl, hS20, H⟩ := H
              refine e_vcall (w1 := (none, σ19)) d_137_87 kc_137_87 rfl ⟨Nat.le_of_ble_eq_true rfl, xx_137.symm⟩ rfl hcl ?_
              show Ev 137 90 [.ref 0, .int x1, .int x2, .int x3, .int s0] [] σ19 w
              refine e_aload_n d_137_90 rfl rfl ?_
              refine e_getR d_137_91 oo_137 pF_8_41 (by decide) (hS20.k rfl) (hS20.r rt_0_6) rfl ?_
              refine e_aload_n d_137_94 rfl rfl ?_
              refine e_getR d_137_95 oo_137 pF_8_21 (by decide) (hS20.k rfl) hS20.told rfl ?_
              refine e_aload_n d_137_98 rfl rfl ?_
              refine e_getR d_137_99 oo_137 pF_8_32 (by decide) (hS20.k rfl) (hS20.r rt_0_3) rfl ?_
              refine e_iload_n d_137_102 rfl rfl ?_
              obtain ⟨σ22, hcl, hS23, H⟩ := H
              refine e_vcall (w1 := (none, σ22)) d_137_103 kc_137_103 rfl ⟨Nat.le_of_ble_eq_true rfl, xx_137.symm⟩ rfl hcl ?_
              show Ev 137 106 [.ref 0, .int x1, .int x2, .int x3, .int s0] [] σ22 w
              refine e_aload_n d_137_106 rfl rfl ?_
              refine e_getR d_137_107 oo_137 pF_8_32 (by decide) (hS23.k rfl) (hS23.r rt_0_3) rfl ?_
              obtain ⟨v27, σ25, hcl, hS26, H⟩ := H
              refine e_vcall (w1 := (some (.int v27), σ25)) d_137_110 kc_137_110 rfl ⟨Nat.le_of_ble_eq_true rfl, xx_137.symm⟩ rfl hcl ?_
              show Ev 137 113 [.ref 0, .int x1, .int x2, .int x3, .int s0] [.int v27] σ25 w
              obtain ⟨v30, σ28, hcl, hS29, H⟩ := H
              refine e_scall (w1 := (some (.int v30), σ28)) d_137_113 kc_137_113 rfl ⟨Nat.le_of_ble_eq_true rfl, xx_137.symm⟩ rfl hcl ?_
              show Ev 137 116 [.ref 0, .int x1, .int x2, .int x3, .int s0] [.int v30] σ28 w
              subst H
              exact e_iret d_137_116 rr_137
          · replace H := H.1 hc
            refine e_iconst d_137_49 ci_m1 rfl ?_
            subst H
            exact e_iret d_137_50 rr_137
/-! X8_undo -/
theorem b_138_0 {t : Nat} {σ : Mm} {w : Option Value × Mm}  (hS : Sg t σ) 
    (H : ∃ (v3 : Int32) (σ1 : Mm), Cl 99 [.ref 41, .ref 26] σ (some (.int v3), σ1) ∧ Sg t σ1 ∧ (w = (some (.int v3), σ1))) :
    Ev 138 0 [.ref 0] [] σ w := by
  refine e_aload_n d_138_0 rfl rfl ?_
  refine e_getR d_138_1 oo_138 pF_8_48 (by decide) (hS.k rfl) (hS.r rt_0_7) rfl ?_
  refine e_aload_n d_138_4 rfl rfl ?_
  refine e_getR d_138_5 oo_138 pF_8_28 (by decide) (hS.k rfl) (hS.r rt_0_2) rfl ?_
  obtain ⟨v3, σ1, hcl, hS2, H⟩ := H
  refine e_vcall (w1 := (some (.int v3), σ1)) d_138_8 kc_138_8 rfl ⟨Nat.le_of_ble_eq_true rfl, xx_138.symm⟩ rfl hcl ?_
  show Ev 138 11 [.ref 0] [.int v3] σ1 w
  subst H
  exact e_iret d_138_11 rr_138
/-! X8_keep -/
theorem b_139_0 {t : Nat} {σ : Mm} {w : Option Value × Mm}  (hS : Sg t σ) 
    (H : ∃ (σ1 : Mm), Cl 19 [.ref 34, .ref 26] σ (none, σ1) ∧ Sg t σ1 ∧ (w = (some (.int (mI (uI σ1 0 5 1) 26 0)), uI σ1 0 5 1))) :
    Ev 139 0 [.ref 0] [] σ w := by
  refine e_aload_n d_139_0 rfl rfl ?_
  refine e_getR d_139_1 oo_139 pF_8_35 (by decide) (hS.k rfl) (hS.r rt_0_4) rfl ?_
  refine e_aload_n d_139_4 rfl rfl ?_
  refine e_getR d_139_5 oo_139 pF_8_28 (by decide) (hS.k rfl) (hS.r rt_0_2) rfl ?_
  obtain ⟨σ1, hcl, hS2, H⟩ := H
  refine e_vcall (w1 := (none, σ1)) d_139_8 kc_139_8 rfl ⟨Nat.le_of_ble_eq_true rfl, xx_139.symm⟩ rfl hcl ?_
  show Ev 139 11 [.ref 0] [] σ1 w
  refine e_aload_n d_139_11 rfl rfl ?_
  refine e_iconst d_139_12 ci_1 rfl ?_
  refine e_putZ d_139_13 oo_139 pF_8_73 (Or.inl rfl) (hS2.k rfl) (Or.inr rfl) rfl ?_
  refine e_aload_n d_139_16 rfl rfl ?_
  refine e_getR d_139_17 oo_139 pF_8_28 (by decide) (hS2.uI.k rfl) (hS2.uI.r rt_0_2) rfl ?_
  refine e_getI d_139_20 oo_139 pF_8_192 (by decide) (hS2.uI.k rfl) rfl ?_
  subst H
  exact e_iret d_139_23 rr_139
/-! X8_back -/
theorem b_140_0 {t : Nat} {σ : Mm} {w : Option Value × Mm}  (hS : Sg t σ) 
    (H : ((mI σ 0 5) = 0 → (w = (some (.int (-1)), σ))) ∧ (¬ ((mI σ 0 5) = 0) → (∃ (σ1 : Mm), Cl 19 [.ref 26, .ref 34] σ (none, σ1) ∧ Sg t σ1 ∧ (∃ (σ4 : Mm), Cl 97 [.ref 41] σ1 (none, σ4) ∧ Sg t σ4 ∧ (w = (some (.int (mI σ4 26 0)), σ4)))))) :
    Ev 140 0 [.ref 0] [] σ w := by
  refine e_aload_n d_140_0 rfl rfl ?_
  refine e_getZ d_140_1 oo_140 pF_8_73 (by decide) (hS.k rfl) rfl ?_
  refine e_if_ne (t := 9) d_140_4 (by decide) rfl (fun hc => ?_) (fun hc => ?_)
  · replace H := H.2 hc
    refine e_aload_n d_140_9 rfl rfl ?_
    refine e_getR d_140_10 oo_140 pF_8_28 (by decide) (hS.k rfl) (hS.r rt_0_2) rfl ?_
    refine e_aload_n d_140_13 rfl rfl ?_
    refine e_getR d_140_14 oo_140 pF_8_35 (by decide) (hS.k rfl) (hS.r rt_0_4) rfl ?_
    obtain ⟨σ1, hcl, hS2, H⟩ := H
    refine e_vcall (w1 := (none, σ1)) d_140_17 kc_140_17 rfl ⟨Nat.le_of_ble_eq_true rfl, xx_140.symm⟩ rfl hcl ?_
    show Ev 140 20 [.ref 0] [] σ1 w
    refine e_aload_n d_140_20 rfl rfl ?_
    refine e_getR d_140_21 oo_140 pF_8_48 (by decide) (hS2.k rfl) (hS2.r rt_0_7) rfl ?_
    obtain ⟨σ4, hcl, hS5, H⟩ := H
    refine e_vcall (w1 := (none, σ4)) d_140_24 kc_140_24 rfl ⟨Nat.le_of_ble_eq_true rfl, xx_140.symm⟩ rfl hcl ?_
    show Ev 140 27 [.ref 0] [] σ4 w
    refine e_aload_n d_140_27 rfl rfl ?_
    refine e_getR d_140_28 oo_140 pF_8_28 (by decide) (hS5.k rfl) (hS5.r rt_0_2) rfl ?_
    refine e_getI d_140_31 oo_140 pF_8_192 (by decide) (hS5.k rfl) rfl ?_
    subst H
    exact e_iret d_140_34 rr_140
  · replace H := H.1 hc
    refine e_iconst d_140_7 ci_m1 rfl ?_
    subst H
    exact e_iret d_140_8 rr_140
/-! X8_count -/
theorem b_141_0 {t : Nat} {σ : Mm} {w : Option Value × Mm} {x1 : Int32} (hS : Sg t σ) 
    (H : (x1 = 0 → (w = (some (.int (mI σ t 0)), σ))) ∧ (x1 = 1 → (w = (some (.int (mI σ t 1)), σ))) ∧ (x1 = 2 → (w = (some (.int (mI σ t 3)), σ))) ∧ (x1 = 3 → (w = (some (.int (mI σ t 7)), σ))) ∧ (x1 = 4 → (w = (some (.int (mI σ 26 0)), σ))) ∧ (x1 = 5 → (∃ (v3 : Int32) (σ1 : Mm), Cl 20 [.ref 26] σ (some (.int v3), σ1) ∧ Sg t σ1 ∧ (∃ (v6 : Int32) (σ4 : Mm), Cl 276 [.int v3] σ1 (some (.int v6), σ4) ∧ Sg t σ4 ∧ (w = (some (.int v6), σ4))))) ∧ (x1 = 6 → (∃ (v9 : Int32) (σ7 : Mm), Cl 276 [.int (mI σ 26 1)] σ (some (.int v9), σ7) ∧ Sg t σ7 ∧ (w = (some (.int v9), σ7)))) ∧ (x1 = 7 → (∃ (v12 : Int32) (σ10 : Mm), Cl 276 [.int (mI σ 26 2)] σ (some (.int v12), σ10) ∧ Sg t σ10 ∧ (w = (some (.int v12), σ10)))) ∧ (x1 = 8 → (∃ (v15 : Int32) (σ13 : Mm), Cl 276 [.int (mI σ 26 3)] σ (some (.int v15), σ13) ∧ Sg t σ13 ∧ (w = (some (.int v15), σ13)))) ∧ (x1 = 9 → (w = (some (.int (mI σ 26 4)), σ))) ∧ (x1 = 10 → (w = (some (.int (mI σ 26 5)), σ))) ∧ (x1 = 11 → (∃ (v18 : Int32) (σ16 : Mm), Cl 23 [.ref 26] σ (some (.int v18), σ16) ∧ Sg t σ16 ∧ (w = (some (.int v18), σ16)))) ∧ (x1 = 12 → (w = (some (.int (mI σ 49 0)), σ))) ∧ (x1 = 13 → (∃ (v21 : Int32) (σ19 : Mm), Cl 30 [.ref 49] σ (some (.int v21), σ19) ∧ Sg t σ19 ∧ (w = (some (.int v21), σ19)))) ∧ (x1 = 14 → (w = (some (.int (mI σ 41 0)), σ))) ∧ ((¬ x1 = 0 ∧ ¬ x1 = 1 ∧ ¬ x1 = 2 ∧ ¬ x1 = 3 ∧ ¬ x1 = 4 ∧ ¬ x1 = 5 ∧ ¬ x1 = 6 ∧ ¬ x1 = 7 ∧ ¬ x1 = 8 ∧ ¬ x1 = 9 ∧ ¬ x1 = 10 ∧ ¬ x1 = 11 ∧ ¬ x1 = 12 ∧ ¬ x1 = 13 ∧ ¬ x1 = 14) → (w = (some (.int (-1)), σ)))) :
    Ev 141 0 [.ref 0, .int x1] [] σ w := by
  refine e_iload_n d_141_0 rfl rfl ?_
  by_cases hs0 : x1 = 0
  · replace H := H.1 hs0
    refine e_table (off := 75) (t := 76) d_141_1 (by rw [hs0]; decide +kernel) (by decide) ?_
    refine e_aload_n d_141_76 rfl rfl ?_
    refine e_getR d_141_77 oo_141 pF_8_21 (by decide) (hS.k rfl) hS.told rfl ?_
    refine e_getI d_141_80 oo_141 pF_8_259 (by decide) (hS.k (kT hS.tt)) rfl ?_
    subst H
    exact e_iret d_141_83 rr_141
  by_cases hs1 : x1 = 1
  · replace H := H.2.1 hs1
    refine e_table (off := 83) (t := 84) d_141_1 (by rw [hs1]; decide +kernel) (by decide) ?_
    refine e_aload_n d_141_84 rfl rfl ?_
    refine e_getR d_141_85 oo_141 pF_8_21 (by decide) (hS.k rfl) hS.told rfl ?_
    refine e_getI d_141_88 oo_141 pF_8_262 (by decide) (hS.k (kT hS.tt)) rfl ?_
    subst H
    exact e_iret d_141_91 rr_141
  by_cases hs2 : x1 = 2
  · replace H := H.2.2.1 hs2
    refine e_table (off := 91) (t := 92) d_141_1 (by rw [hs2]; decide +kernel) (by decide) ?_
    refine e_aload_n d_141_92 rfl rfl ?_
    refine e_getR d_141_93 oo_141 pF_8_21 (by decide) (hS.k rfl) hS.told rfl ?_
    refine e_getI d_141_96 oo_141 pF_8_326 (by decide) (hS.k (kT hS.tt)) rfl ?_
    subst H
    exact e_iret d_141_99 rr_141
  by_cases hs3 : x1 = 3
  · replace H := H.2.2.2.1 hs3
    refine e_table (off := 99) (t := 100) d_141_1 (by rw [hs3]; decide +kernel) (by decide) ?_
    refine e_aload_n d_141_100 rfl rfl ?_
    refine e_getR d_141_101 oo_141 pF_8_21 (by decide) (hS.k rfl) hS.told rfl ?_
    refine e_getI d_141_104 oo_141 pF_8_329 (by decide) (hS.k (kT hS.tt)) rfl ?_
    subst H
    exact e_iret d_141_107 rr_141
  by_cases hs4 : x1 = 4
  · replace H := H.2.2.2.2.1 hs4
    refine e_table (off := 107) (t := 108) d_141_1 (by rw [hs4]; decide +kernel) (by decide) ?_
    refine e_aload_n d_141_108 rfl rfl ?_
    refine e_getR d_141_109 oo_141 pF_8_28 (by decide) (hS.k rfl) (hS.r rt_0_2) rfl ?_
    refine e_getI d_141_112 oo_141 pF_8_192 (by decide) (hS.k rfl) rfl ?_
    subst H
    exact e_iret d_141_115 rr_141
  by_cases hs5 : x1 = 5
  · replace H := H.2.2.2.2.2.1 hs5
    refine e_table (off := 115) (t := 116) d_141_1 (by rw [hs5]; decide +kernel) (by decide) ?_
    refine e_aload_n d_141_116 rfl rfl ?_
    refine e_getR d_141_117 oo_141 pF_8_28 (by decide) (hS.k rfl) (hS.r rt_0_2) rfl ?_
    obtain ⟨v3, σ1, hcl, hS2, H⟩ := H
    refine e_vcall (w1 := (some (.int v3), σ1)) d_141_120 kc_141_120 rfl ⟨Nat.le_of_ble_eq_true rfl, xx_141.symm⟩ rfl hcl ?_
    show Ev 141 123 [.ref 0, .int x1] [.int v3] σ1 w
    obtain ⟨v6, σ4, hcl, hS5, H⟩ := H
    refine e_scall (w1 := (some (.int v6), σ4)) d_141_123 kc_141_123 rfl ⟨Nat.le_of_ble_eq_true rfl, xx_141.symm⟩ rfl hcl ?_
    show Ev 141 126 [.ref 0, .int x1] [.int v6] σ4 w
    subst H
    exact e_iret d_141_126 rr_141
  by_cases hs6 : x1 = 6
  · replace H := H.2.2.2.2.2.2.1 hs6
    refine e_table (off := 126) (t := 127) d_141_1 (by rw [hs6]; decide +kernel) (by decide) ?_
    refine e_aload_n d_141_127 rfl rfl ?_
    refine e_getR d_141_128 oo_141 pF_8_28 (by decide) (hS.k rfl) (hS.r rt_0_2) rfl ?_
    refine e_getI d_141_131 oo_141 pF_8_130 (by decide) (hS.k rfl) rfl ?_
    obtain ⟨v9, σ7, hcl, hS8, H⟩ := H
    refine e_scall (w1 := (some (.int v9), σ7)) d_141_134 kc_141_134 rfl ⟨Nat.le_of_ble_eq_true rfl, xx_141.symm⟩ rfl hcl ?_
    show Ev 141 137 [.ref 0, .int x1] [.int v9] σ7 w
    subst H
    exact e_iret d_141_137 rr_141
  by_cases hs7 : x1 = 7
  · replace H := H.2.2.2.2.2.2.2.1 hs7
    refine e_table (off := 137) (t := 138) d_141_1 (by rw [hs7]; decide +kernel) (by decide) ?_
    refine e_aload_n d_141_138 rfl rfl ?_
    refine e_getR d_141_139 oo_141 pF_8_28 (by decide) (hS.k rfl) (hS.r rt_0_2) rfl ?_
    refine e_getI d_141_142 oo_141 pF_8_133 (by decide) (hS.k rfl) rfl ?_
    obtain ⟨v12, σ10, hcl, hS11, H⟩ := H
    refine e_scall (w1 := (some (.int v12), σ10)) d_141_145 kc_141_145 rfl ⟨Nat.le_of_ble_eq_true rfl, xx_141.symm⟩ rfl hcl ?_
    show Ev 141 148 [.ref 0, .int x1] [.int v12] σ10 w
    subst H
    exact e_iret d_141_148 rr_141
  by_cases hs8 : x1 = 8
  · replace H := H.2.2.2.2.2.2.2.2.1 hs8
    refine e_table (off := 148) (t := 149) d_141_1 (by rw [hs8]; decide +kernel) (by decide) ?_
    refine e_aload_n d_141_149 rfl rfl ?_
    refine e_getR d_141_150 oo_141 pF_8_28 (by decide) (hS.k rfl) (hS.r rt_0_2) rfl ?_
    refine e_getI d_141_153 oo_141 pF_8_154 (by decide) (hS.k rfl) rfl ?_
    obtain ⟨v15, σ13, hcl, hS14, H⟩ := H
    refine e_scall (w1 := (some (.int v15), σ13)) d_141_156 kc_141_156 rfl ⟨Nat.le_of_ble_eq_true rfl, xx_141.symm⟩ rfl hcl ?_
    show Ev 141 159 [.ref 0, .int x1] [.int v15] σ13 w
    subst H
    exact e_iret d_141_159 rr_141
  by_cases hs9 : x1 = 9
  · replace H := H.2.2.2.2.2.2.2.2.2.1 hs9
    refine e_table (off := 159) (t := 160) d_141_1 (by rw [hs9]; decide +kernel) (by decide) ?_
    refine e_aload_n d_141_160 rfl rfl ?_
    refine e_getR d_141_161 oo_141 pF_8_28 (by decide) (hS.k rfl) (hS.r rt_0_2) rfl ?_
    refine e_getI d_141_164 oo_141 pF_8_205 (by decide) (hS.k rfl) rfl ?_
    subst H
    exact e_iret d_141_167 rr_141
  by_cases hs10 : x1 = 10
  · replace H := H.2.2.2.2.2.2.2.2.2.2.1 hs10
    refine e_table (off := 167) (t := 168) d_141_1 (by rw [hs10]; decide +kernel) (by decide) ?_
    refine e_aload_n d_141_168 rfl rfl ?_
    refine e_getR d_141_169 oo_141 pF_8_28 (by decide) (hS.k rfl) (hS.r rt_0_2) rfl ?_
    refine e_getI d_141_172 oo_141 pF_8_208 (by decide) (hS.k rfl) rfl ?_
    subst H
    exact e_iret d_141_175 rr_141
  by_cases hs11 : x1 = 11
  · replace H := H.2.2.2.2.2.2.2.2.2.2.2.1 hs11
    refine e_table (off := 175) (t := 176) d_141_1 (by rw [hs11]; decide +kernel) (by decide) ?_
    refine e_aload_n d_141_176 rfl rfl ?_
    refine e_getR d_141_177 oo_141 pF_8_28 (by decide) (hS.k rfl) (hS.r rt_0_2) rfl ?_
    obtain ⟨v18, σ16, hcl, hS17, H⟩ := H
    refine e_vcall (w1 := (some (.int v18), σ16)) d_141_180 kc_141_180 rfl ⟨Nat.le_of_ble_eq_true rfl, xx_141.symm⟩ rfl hcl ?_
    show Ev 141 183 [.ref 0, .int x1] [.int v18] σ16 w
    subst H
    exact e_iret d_141_183 rr_141
  by_cases hs12 : x1 = 12
  · replace H := H.2.2.2.2.2.2.2.2.2.2.2.2.1 hs12
    refine e_table (off := 183) (t := 184) d_141_1 (by rw [hs12]; decide +kernel) (by decide) ?_
    refine e_aload_n d_141_184 rfl rfl ?_
    refine e_getR d_141_185 oo_141 pF_8_55 (by decide) (hS.k rfl) (hS.r rt_0_8) rfl ?_
    refine e_getI d_141_188 oo_141 pF_8_291 (by decide) (hS.k rfl) rfl ?_
    subst H
    exact e_iret d_141_191 rr_141
  by_cases hs13 : x1 = 13
  · replace H := H.2.2.2.2.2.2.2.2.2.2.2.2.2.1 hs13
    refine e_table (off := 191) (t := 192) d_141_1 (by rw [hs13]; decide +kernel) (by decide) ?_
    refine e_aload_n d_141_192 rfl rfl ?_
    refine e_getR d_141_193 oo_141 pF_8_55 (by decide) (hS.k rfl) (hS.r rt_0_8) rfl ?_
    obtain ⟨v21, σ19, hcl, hS20, H⟩ := H
    refine e_vcall (w1 := (some (.int v21), σ19)) d_141_196 kc_141_196 rfl ⟨Nat.le_of_ble_eq_true rfl, xx_141.symm⟩ rfl hcl ?_
    show Ev 141 199 [.ref 0, .int x1] [.int v21] σ19 w
    subst H
    exact e_iret d_141_199 rr_141
  by_cases hs14 : x1 = 14
  · replace H := H.2.2.2.2.2.2.2.2.2.2.2.2.2.2.1 hs14
    refine e_table (off := 199) (t := 200) d_141_1 (by rw [hs14]; decide +kernel) (by decide) ?_
    refine e_aload_n d_141_200 rfl rfl ?_
    refine e_getR d_141_201 oo_141 pF_8_48 (by decide) (hS.k rfl) (hS.r rt_0_7) rfl ?_
    refine e_getI d_141_204 oo_141 pF_8_338 (by decide) (hS.k rfl) rfl ?_
    subst H
    exact e_iret d_141_207 rr_141
  replace H := H.2.2.2.2.2.2.2.2.2.2.2.2.2.2.2 ⟨hs0, hs1, hs2, hs3, hs4, hs5, hs6, hs7, hs8, hs9, hs10, hs11, hs12, hs13, hs14⟩
  refine e_table (off := 207) (t := 208) d_141_1 (sw_141_1 hs0 hs1 hs2 hs3 hs4 hs5 hs6 hs7 hs8 hs9 hs10 hs11 hs12 hs13 hs14) (by decide) ?_
  refine e_iconst d_141_208 ci_m1 rfl ?_
  subst H
  exact e_iret d_141_209 rr_141
/-! X8_isLamp -/
theorem b_142_0 {t : Nat} {σ : Mm} {w : Option Value × Mm} {x1 : Int32} (hS : Sg t σ) 
    (H : (x1 < 0 → (w = (some (.int 0), σ))) ∧ (¬ (x1 < 0) → ((x1 < (mI σ t 0) → (w = (some (.int 1), σ))) ∧ (¬ (x1 < (mI σ t 0)) → (w = (some (.int 0), σ)))))) :
    Ev 142 0 [.ref 0, .int x1] [] σ w := by
  refine e_iload_n d_142_0 rfl rfl ?_
  refine e_if_lt (t := 19) d_142_1 (by decide) rfl (fun hc => ?_) (fun hc => ?_)
  · replace H := H.1 hc
    refine e_iconst d_142_19 ci_0 rfl ?_
    subst H
    exact e_zret d_142_20 rr_142 (Or.inl rfl)
  · replace H := H.2 hc
    refine e_iload_n d_142_4 rfl rfl ?_
    refine e_aload_n d_142_5 rfl rfl ?_
    refine e_getR d_142_6 oo_142 pF_8_21 (by decide) (hS.k rfl) hS.told rfl ?_
    refine e_getI d_142_9 oo_142 pF_8_259 (by decide) (hS.k (kT hS.tt)) rfl ?_
    refine e_icmp_ge (t := 19) d_142_12 (by decide) rfl (fun hc => ?_) (fun hc => ?_)
    · replace H := H.2 hc
      refine e_iconst d_142_19 ci_0 rfl ?_
      subst H
      exact e_zret d_142_20 rr_142 (Or.inl rfl)
    · replace H := H.1 hc
      refine e_iconst d_142_15 ci_1 rfl ?_
      refine e_goto (t := 20) d_142_16 (by decide) ?_
      subst H
      exact e_zret d_142_20 rr_142 (Or.inr rfl)
/-! X8_isPull -/
theorem b_143_0 {t : Nat} {σ : Mm} {w : Option Value × Mm} {x1 : Int32} (hS : Sg t σ) 
    (H : (x1 < 0 → (w = (some (.int 0), σ))) ∧ (¬ (x1 < 0) → ((x1 < (mI σ t 1) → (w = (some (.int 1), σ))) ∧ (¬ (x1 < (mI σ t 1)) → (w = (some (.int 0), σ)))))) :
    Ev 143 0 [.ref 0, .int x1] [] σ w := by
  refine e_iload_n d_143_0 rfl rfl ?_
  refine e_if_lt (t := 19) d_143_1 (by decide) rfl (fun hc => ?_) (fun hc => ?_)
  · replace H := H.1 hc
    refine e_iconst d_143_19 ci_0 rfl ?_
    subst H
    exact e_zret d_143_20 rr_143 (Or.inl rfl)
  · replace H := H.2 hc
    refine e_iload_n d_143_4 rfl rfl ?_
    refine e_aload_n d_143_5 rfl rfl ?_
    refine e_getR d_143_6 oo_143 pF_8_21 (by decide) (hS.k rfl) hS.told rfl ?_
    refine e_getI d_143_9 oo_143 pF_8_262 (by decide) (hS.k (kT hS.tt)) rfl ?_
    refine e_icmp_ge (t := 19) d_143_12 (by decide) rfl (fun hc => ?_) (fun hc => ?_)
    · replace H := H.2 hc
      refine e_iconst d_143_19 ci_0 rfl ?_
      subst H
      exact e_zret d_143_20 rr_143 (Or.inl rfl)
    · replace H := H.1 hc
      refine e_iconst d_143_15 ci_1 rfl ?_
      refine e_goto (t := 20) d_143_16 (by decide) ?_
      subst H
      exact e_zret d_143_20 rr_143 (Or.inr rfl)
/-! X8_areLamps -/
theorem b_144_0 {t : Nat} {σ : Mm} {w : Option Value × Mm} {x1 : Int32} (hS : Sg t σ) 
    (H : (x1 < 0 → (w = (some (.int 0), σ))) ∧ (¬ (x1 < 0) → ((x1 < ((1 : Int32) <<< ((mI σ t 0) &&& 31)) → (w = (some (.int 1), σ))) ∧ (¬ (x1 < ((1 : Int32) <<< ((mI σ t 0) &&& 31))) → (w = (some (.int 0), σ)))))) :
    Ev 144 0 [.ref 0, .int x1] [] σ w := by
  refine e_iload_n d_144_0 rfl rfl ?_
  refine e_if_lt (t := 21) d_144_1 (by decide) rfl (fun hc => ?_) (fun hc => ?_)
  · replace H := H.1 hc
    refine e_iconst d_144_21 ci_0 rfl ?_
    subst H
    exact e_zret d_144_22 rr_144 (Or.inl rfl)
  · replace H := H.2 hc
    refine e_iload_n d_144_4 rfl rfl ?_
    refine e_iconst d_144_5 ci_1 rfl ?_
    refine e_aload_n d_144_6 rfl rfl ?_
    refine e_getR d_144_7 oo_144 pF_8_21 (by decide) (hS.k rfl) hS.told rfl ?_
    refine e_getI d_144_10 oo_144 pF_8_259 (by decide) (hS.k (kT hS.tt)) rfl ?_
    refine e_ishl d_144_13 rfl ?_
    refine e_icmp_ge (t := 21) d_144_14 (by decide) rfl (fun hc => ?_) (fun hc => ?_)
    · replace H := H.2 hc
      refine e_iconst d_144_21 ci_0 rfl ?_
      subst H
      exact e_zret d_144_22 rr_144 (Or.inl rfl)
    · replace H := H.1 hc
      refine e_iconst d_144_17 ci_1 rfl ?_
      refine e_goto (t := 22) d_144_18 (by decide) ?_
      subst H
      exact e_zret d_144_22 rr_144 (Or.inr rfl)
/-! X8_gatherFree -/
theorem b_145_0 {t : Nat} {σ : Mm} {w : Option Value × Mm}  (hS : Sg t σ) 
    (H : ∃ (v3 : Int32) (σ1 : Mm), Cl 21 [.ref 26, .ref t] σ (some (.int v3), σ1) ∧ Sg t σ1 ∧ (∃ (σ4 : Mm), Cl 71 [.ref 53, .ref 28, .int (mI σ t 1), .int v3] σ1 (none, σ4) ∧ Sg t σ4 ∧ (w = (none, σ4)))) :
    Ev 145 0 [.ref 0] [] σ w := by
  refine e_aload_n d_145_0 rfl rfl ?_
  refine e_getR d_145_1 oo_145 pF_8_62 (by decide) (hS.k rfl) (hS.r rt_0_9) rfl ?_
  refine e_aload_n d_145_4 rfl rfl ?_
  refine e_getR d_145_5 oo_145 pF_8_28 (by decide) (hS.k rfl) (hS.r rt_0_2) rfl ?_
  refine e_getR d_145_8 oo_145 pF_8_160 (by decide) (hS.k rfl) (hS.r rt_26_8) rfl ?_
  refine e_aload_n d_145_11 rfl rfl ?_
  refine e_getR d_145_12 oo_145 pF_8_21 (by decide) (hS.k rfl) hS.told rfl ?_
  refine e_getI d_145_15 oo_145 pF_8_262 (by decide) (hS.k (kT hS.tt)) rfl ?_
  refine e_aload_n d_145_18 rfl rfl ?_
  refine e_getR d_145_19 oo_145 pF_8_28 (by decide) (hS.k rfl) (hS.r rt_0_2) rfl ?_
  refine e_aload_n d_145_22 rfl rfl ?_
  refine e_getR d_145_23 oo_145 pF_8_21 (by decide) (hS.k rfl) hS.told rfl ?_
  obtain ⟨v3, σ1, hcl, hS2, H⟩ := H
  refine e_vcall (w1 := (some (.int v3), σ1)) d_145_26 kc_145_26 rfl ⟨Nat.le_of_ble_eq_true rfl, xx_145.symm⟩ rfl hcl ?_
  show Ev 145 29 [.ref 0] [.int v3, .int (mI σ t 1), .ref 28, .ref 53] σ1 w
  obtain ⟨σ4, hcl, hS5, H⟩ := H
  refine e_vcall (w1 := (none, σ4)) d_145_29 kc_145_29 rfl ⟨Nat.le_of_ble_eq_true rfl, xx_145.symm⟩ rfl hcl ?_
  show Ev 145 32 [.ref 0] [] σ4 w
  subst H
  exact e_vret d_145_32 rr_145
/-! X8_basisNow -/
theorem b_146_0 {t : Nat} {σ : Mm} {w : Option Value × Mm}  (hS : Sg t σ) 
    (H : ∃ (v3 : Int32) (σ1 : Mm), Cl 21 [.ref 26, .ref t] σ (some (.int v3), σ1) ∧ Sg t σ1 ∧ (∃ (v6 : Int32) (σ4 : Mm), Cl 1 [.ref 56, .ref 28, .int (mI σ t 1), .int v3] σ1 (some (.int v6), σ4) ∧ Sg t σ4 ∧ (w = (some (.int v6), σ4)))) :
    Ev 146 0 [.ref 0] [] σ w := by
  refine e_aload_n d_146_0 rfl rfl ?_
  refine e_getR d_146_1 oo_146 pF_8_69 (by decide) (hS.k rfl) (hS.r rt_0_10) rfl ?_
  refine e_aload_n d_146_4 rfl rfl ?_
  refine e_getR d_146_5 oo_146 pF_8_28 (by decide) (hS.k rfl) (hS.r rt_0_2) rfl ?_
  refine e_getR d_146_8 oo_146 pF_8_160 (by decide) (hS.k rfl) (hS.r rt_26_8) rfl ?_
  refine e_aload_n d_146_11 rfl rfl ?_
  refine e_getR d_146_12 oo_146 pF_8_21 (by decide) (hS.k rfl) hS.told rfl ?_
  refine e_getI d_146_15 oo_146 pF_8_262 (by decide) (hS.k (kT hS.tt)) rfl ?_
  refine e_aload_n d_146_18 rfl rfl ?_
  refine e_getR d_146_19 oo_146 pF_8_28 (by decide) (hS.k rfl) (hS.r rt_0_2) rfl ?_
  refine e_aload_n d_146_22 rfl rfl ?_
  refine e_getR d_146_23 oo_146 pF_8_21 (by decide) (hS.k rfl) hS.told rfl ?_
  obtain ⟨v3, σ1, hcl, hS2, H⟩ := H
  refine e_vcall (w1 := (some (.int v3), σ1)) d_146_26 kc_146_26 rfl ⟨Nat.le_of_ble_eq_true rfl, xx_146.symm⟩ rfl hcl ?_
  show Ev 146 29 [.ref 0] [.int v3, .int (mI σ t 1), .ref 28, .ref 56] σ1 w
  obtain ⟨v6, σ4, hcl, hS5, H⟩ := H
  refine e_vcall (w1 := (some (.int v6), σ4)) d_146_29 kc_146_29 rfl ⟨Nat.le_of_ble_eq_true rfl, xx_146.symm⟩ rfl hcl ?_
  show Ev 146 32 [.ref 0] [.int v6] σ4 w
  subst H
  exact e_iret d_146_32 rr_146
/-! X8_lampThatOpens -/
theorem b_147_0 {t : Nat} {σ : Mm} {w : Option Value × Mm} {x1 : Int32} {x2 : Int32} (hS : Sg t σ) 
    (H : Ev 147 2 [.ref 0, .int x1, .int x2, .int 0, .retAddr 0] [] σ w) :
    Ev 147 0 [.ref 0, .int x1, .int x2, .retAddr 0, .retAddr 0] [] σ w := by
  refine e_iconst d_147_0 ci_0 rfl ?_
  refine e_istore_n (ls2 := [.ref 0, .int x1, .int x2, .int 0, .retAddr 0]) d_147_1 rfl rfl rfl ?_
  exact H
theorem b_147_2 {t : Nat} {σ : Mm} {w : Option Value × Mm} {x1 : Int32} {x2 : Int32} {x3 : Int32} {z4 : Value} (hS : Sg t σ) 
    (H : (x3 < (mI σ t 0) → (inb x1 10 = true ∧ (inb x1 10 = true ∧ (∀ (σ1 : Mm), σ1 = uI σ 28 x1.toNatClampNeg ((mI σ 28 x1.toNatClampNeg) ^^^ ((1 : Int32) <<< (x3 &&& 31))) → (∃ (v6 : Int32) (σ4 : Mm), Cl 146 [.ref 0] σ1 (some (.int v6), σ4) ∧ Sg t σ4 ∧ (∃ (v9 : Int32) (σ7 : Mm), Cl 276 [.int v6] σ4 (some (.int v9), σ7) ∧ Sg t σ7 ∧ (inb x1 10 = true ∧ (inb x1 10 = true ∧ (∀ (σ10 : Mm), σ10 = uI σ7 28 x1.toNatClampNeg ((mI σ7 28 x1.toNatClampNeg) ^^^ ((1 : Int32) <<< (x3 &&& 31))) → ((x2 < v9 → (w = (some (.int x3), σ10))) ∧ (¬ (x2 < v9) → Ev 147 2 [.ref 0, .int x1, .int x2, .int (x3 + 1), .int v9] [] σ10 w))))))))))) ∧ (¬ (x3 < (mI σ t 0)) → (w = (some (.int (-1)), σ)))) :
    Ev 147 2 [.ref 0, .int x1, .int x2, .int x3, z4] [] σ w := by
  refine e_iload_n d_147_2 rfl rfl ?_
  refine e_aload_n d_147_3 rfl rfl ?_
  refine e_getR d_147_4 oo_147 pF_8_21 (by decide) (hS.k rfl) hS.told rfl ?_
  refine e_getI d_147_7 oo_147 pF_8_259 (by decide) (hS.k (kT hS.tt)) rfl ?_
  refine e_icmp_ge (t := 66) d_147_10 (by decide) rfl (fun hc => ?_) (fun hc => ?_)
  · replace H := H.2 hc
    refine e_iconst d_147_66 ci_m1 rfl ?_
    subst H
    exact e_iret d_147_67 rr_147
  · replace H := H.1 hc
    refine e_aload_n d_147_13 rfl rfl ?_
    refine e_getR d_147_14 oo_147 pF_8_28 (by decide) (hS.k rfl) (hS.r rt_0_2) rfl ?_
    refine e_getR d_147_17 oo_147 pF_8_160 (by decide) (hS.k rfl) (hS.r rt_26_8) rfl ?_
    refine e_iload_n d_147_20 rfl rfl ?_
    refine e_dup2 d_147_21 rfl rfl ?_
    obtain ⟨hb, H⟩ := H
    refine e_iaload (v := (mI σ 28 x1.toNatClampNeg)) d_147_22 (rdI_at (hS.k rfl) hb) rfl ?_
    refine e_iconst d_147_23 ci_1 rfl ?_
    refine e_iload_n d_147_24 rfl rfl ?_
    refine e_ishl d_147_25 rfl ?_
    refine e_ixor d_147_26 rfl ?_
    obtain ⟨hb, H⟩ := H
    refine e_iastore d_147_27 (okI_at (hS.k rfl) hb) rfl ?_
    generalize hm2 : uI σ 28 x1.toNatClampNeg ((mI σ 28 x1.toNatClampNeg) ^^^ ((1 : Int32) <<< (x3 &&& 31))) = σ1
    have hS3 : Sg t σ1 := by rw [← hm2]; exact hS.uI
    replace H := H σ1 hm2.symm
    refine e_aload_n d_147_28 rfl rfl ?_
    obtain ⟨v6, σ4, hcl, hS5, H⟩ := H
    refine e_vcall (w1 := (some (.int v6), σ4)) d_147_29 kc_147_29 rfl ⟨Nat.le_of_ble_eq_true rfl, xx_147.symm⟩ rfl hcl ?_
    show Ev 147 32 [.ref 0, .int x1, .int x2, .int x3, z4] [.int v6] σ4 w
    obtain ⟨v9, σ7, hcl, hS8, H⟩ := H
    refine e_scall (w1 := (some (.int v9), σ7)) d_147_32 kc_147_32 rfl ⟨Nat.le_of_ble_eq_true rfl, xx_147.symm⟩ rfl hcl ?_
    show Ev 147 35 [.ref 0, .int x1, .int x2, .int x3, z4] [.int v9] σ7 w
    refine e_istore (ls2 := [.ref 0, .int x1, .int x2, .int x3, .int v9]) d_147_35 rfl rfl rfl ?_
    refine e_aload_n d_147_37 rfl rfl ?_
    refine e_getR d_147_38 oo_147 pF_8_28 (by decide) (hS8.k rfl) (hS8.r rt_0_2) rfl ?_
    refine e_getR d_147_41 oo_147 pF_8_160 (by decide) (hS8.k rfl) (hS8.r rt_26_8) rfl ?_
    refine e_iload_n d_147_44 rfl rfl ?_
    refine e_dup2 d_147_45 rfl rfl ?_
    obtain ⟨hb, H⟩ := H
    refine e_iaload (v := (mI σ7 28 x1.toNatClampNeg)) d_147_46 (rdI_at (hS8.k rfl) hb) rfl ?_
    refine e_iconst d_147_47 ci_1 rfl ?_
    refine e_iload_n d_147_48 rfl rfl ?_
    refine e_ishl d_147_49 rfl ?_
    refine e_ixor d_147_50 rfl ?_
    obtain ⟨hb, H⟩ := H
    refine e_iastore d_147_51 (okI_at (hS8.k rfl) hb) rfl ?_
    generalize hm11 : uI σ7 28 x1.toNatClampNeg ((mI σ7 28 x1.toNatClampNeg) ^^^ ((1 : Int32) <<< (x3 &&& 31))) = σ10
    have hS12 : Sg t σ10 := by rw [← hm11]; exact hS8.uI
    replace H := H σ10 hm11.symm
    refine e_iload d_147_52 rfl rfl ?_
    refine e_iload_n d_147_54 rfl rfl ?_
    refine e_icmp_le (t := 60) d_147_55 (by decide) rfl (fun hc => ?_) (fun hc => ?_)
    · replace H := H.2 hc
      refine e_iinc (ls2 := [.ref 0, .int x1, .int x2, .int (x3 + 1), .int v9]) d_147_60 rfl ci_1 rfl rfl rfl ?_
      refine e_goto (t := 2) d_147_63 (by decide) ?_
      exact H
    · replace H := H.1 hc
      refine e_iload_n d_147_58 rfl rfl ?_
      subst H
      exact e_iret d_147_59 rr_147
/-! X8_lookAtNotes -/
theorem b_148_0 {t : Nat} {σ : Mm} {w : Option Value × Mm}  (hS : Sg t σ) 
    (H : ∃ (σ1 : Mm), Cl 71 [.ref 53, .ref (t + 4), .int (mI σ t 1), .int (((1 : Int32) <<< ((mI σ t 1) &&& 31)) - 1)] σ (none, σ1) ∧ Sg t σ1 ∧ (∃ (v6 : Int32) (σ4 : Mm), Cl 31 [.ref 49, .ref 53, .int (mI σ1 t 2)] σ1 (some (.int v6), σ4) ∧ Sg t σ4 ∧ (w = (some (.int v6), σ4)))) :
    Ev 148 0 [.ref 0] [] σ w := by
  refine e_aload_n d_148_0 rfl rfl ?_
  refine e_getR d_148_1 oo_148 pF_8_62 (by decide) (hS.k rfl) (hS.r rt_0_9) rfl ?_
  refine e_aload_n d_148_4 rfl rfl ?_
  refine e_getR d_148_5 oo_148 pF_8_21 (by decide) (hS.k rfl) hS.told rfl ?_
  refine e_getR d_148_8 oo_148 pF_8_343 (by decide) (hS.k (kT hS.tt)) (hS.rT11 hS.tt) rfl ?_
  refine e_aload_n d_148_11 rfl rfl ?_
  refine e_getR d_148_12 oo_148 pF_8_21 (by decide) (hS.k rfl) hS.told rfl ?_
  refine e_getI d_148_15 oo_148 pF_8_262 (by decide) (hS.k (kT hS.tt)) rfl ?_
  refine e_iconst d_148_18 ci_1 rfl ?_
  refine e_aload_n d_148_19 rfl rfl ?_
  refine e_getR d_148_20 oo_148 pF_8_21 (by decide) (hS.k rfl) hS.told rfl ?_
  refine e_getI d_148_23 oo_148 pF_8_262 (by decide) (hS.k (kT hS.tt)) rfl ?_
  refine e_ishl d_148_26 rfl ?_
  refine e_iconst d_148_27 ci_1 rfl ?_
  refine e_isub d_148_28 rfl ?_
  obtain ⟨σ1, hcl, hS2, H⟩ := H
  refine e_vcall (w1 := (none, σ1)) d_148_29 kc_148_29 rfl ⟨Nat.le_of_ble_eq_true rfl, xx_148.symm⟩ rfl hcl ?_
  show Ev 148 32 [.ref 0] [] σ1 w
  refine e_aload_n d_148_32 rfl rfl ?_
  refine e_getR d_148_33 oo_148 pF_8_55 (by decide) (hS2.k rfl) (hS2.r rt_0_8) rfl ?_
  refine e_aload_n d_148_36 rfl rfl ?_
  refine e_getR d_148_37 oo_148 pF_8_62 (by decide) (hS2.k rfl) (hS2.r rt_0_9) rfl ?_
  refine e_aload_n d_148_40 rfl rfl ?_
  refine e_getR d_148_41 oo_148 pF_8_21 (by decide) (hS2.k rfl) hS2.told rfl ?_
  refine e_getI d_148_44 oo_148 pF_8_344 (by decide) (hS2.k (kT hS.tt)) rfl ?_
  obtain ⟨v6, σ4, hcl, hS5, H⟩ := H
  refine e_vcall (w1 := (some (.int v6), σ4)) d_148_47 kc_148_47 rfl ⟨Nat.le_of_ble_eq_true rfl, xx_148.symm⟩ rfl hcl ?_
  show Ev 148 50 [.ref 0] [.int v6] σ4 w
  subst H
  exact e_iret d_148_50 rr_148
