/-! X4_take -/
theorem b_36_0 {t : Nat} {σ : Mm} {w : Option Value × Mm} {x1 : Int32} (hS : Sg t σ) 
    (H : Ev 36 3 [.ref 1, .int x1, .int 24] [] σ w) :
    Ev 36 0 [.ref 1, .int x1, .retAddr 0] [] σ w := by
  refine e_bipush d_36_0 cb_24 rfl ?_
  refine e_istore_n (ls2 := [.ref 1, .int x1, .int 24]) d_36_2 rfl rfl rfl ?_
  exact H
theorem b_36_3 {t : Nat} {σ : Mm} {w : Option Value × Mm} {x1 : Int32} {x2 : Int32} (hS : Sg t σ) 
    (H : (x2 < 0 → (w = (none, σ))) ∧ (¬ (x2 < 0) → (((mI σ 1 2) < 0 → (w = (none, σ))) ∧ (¬ ((mI σ 1 2) < 0) → (((mI σ 1 2) < 700 → (inb (mI σ 1 2) 700 = true ∧ (∀ (σ1 : Mm), σ1 = uI σ 2 (mI σ 1 2).toNatClampNeg ((Int32.toInt8 ((Int32.toInt8 (x1 >>> (x2 &&& 31))).toInt32)).toInt32) → Ev 36 3 [.ref 1, .int x1, .int (x2 + (-8))] [] (uI σ1 1 2 ((mI σ1 1 2) + 1)) w))) ∧ (¬ ((mI σ 1 2) < 700) → (w = (none, σ)))))))) :
    Ev 36 3 [.ref 1, .int x1, .int x2] [] σ w := by
  refine e_iload_n d_36_3 rfl rfl ?_
  refine e_if_lt (t := 53) d_36_4 (by decide) rfl (fun hc => ?_) (fun hc => ?_)
  · replace H := H.1 hc
    subst H
    exact e_vret d_36_53 rr_36
  · replace H := H.2 hc
    refine e_aload_n d_36_7 rfl rfl ?_
    refine e_getI d_36_8 oo_36 pF_4_30 (by decide) (hS.k rfl) rfl ?_
    refine e_if_lt (t := 53) d_36_11 (by decide) rfl (fun hc => ?_) (fun hc => ?_)
    · replace H := H.1 hc
      subst H
      exact e_vret d_36_53 rr_36
    · replace H := H.2 hc
      refine e_aload_n d_36_14 rfl rfl ?_
      refine e_getI d_36_15 oo_36 pF_4_30 (by decide) (hS.k rfl) rfl ?_
      refine e_sipush d_36_18 cs_700 rfl ?_
      refine e_icmp_ge (t := 53) d_36_21 (by decide) rfl (fun hc => ?_) (fun hc => ?_)
      · replace H := H.2 hc
        subst H
        exact e_vret d_36_53 rr_36
      · replace H := H.1 hc
        refine e_aload_n d_36_24 rfl rfl ?_
        refine e_getR d_36_25 oo_36 pF_4_9 (by decide) (hS.k rfl) (hS.r rt_1_3) rfl ?_
        refine e_aload_n d_36_28 rfl rfl ?_
        refine e_getI d_36_29 oo_36 pF_4_30 (by decide) (hS.k rfl) rfl ?_
        refine e_iload_n d_36_32 rfl rfl ?_
        refine e_iload_n d_36_33 rfl rfl ?_
        refine e_ishr d_36_34 rfl ?_
        refine e_i2b d_36_35 rfl ?_
        obtain ⟨hb, H⟩ := H
        refine e_bastoreB d_36_36 (okI_at (hS.k rfl) hb) rfl ?_
        generalize hm2 : uI σ 2 (mI σ 1 2).toNatClampNeg ((Int32.toInt8 ((Int32.toInt8 (x1 >>> (x2 &&& 31))).toInt32)).toInt32) = σ1
        have hS3 : Sg t σ1 := by rw [← hm2]; exact hS.uI
        replace H := H σ1 hm2.symm
        refine e_aload_n d_36_37 rfl rfl ?_
        refine e_dup d_36_38 rfl rfl ?_
        refine e_getI d_36_39 oo_36 pF_4_30 (by decide) (hS3.k rfl) rfl ?_
        refine e_iconst d_36_42 ci_1 rfl ?_
        refine e_iadd d_36_43 rfl ?_
        refine e_putI d_36_44 oo_36 pF_4_30 (Or.inl rfl) (hS3.k rfl) rfl ?_
        refine e_iinc (ls2 := [.ref 1, .int x1, .int (x2 + (-8))]) d_36_47 rfl ci_m8 rfl rfl rfl ?_
        refine e_goto (t := 3) d_36_50 (by decide) ?_
        exact H
/-! X4_begin -/
theorem b_38_0 {t : Nat} {σ : Mm} {w : Option Value × Mm} {x1 : Int32} (hS : Sg t σ) 
    (H : ∃ (v3 : Int32) (σ1 : Mm), Cl 280 [.int x1, .int 700] σ (some (.int v3), σ1) ∧ Sg t σ1 ∧ (∃ (σ4 : Mm), Cl 88 [.ref (18 - t)] (uI (uI (uI σ1 1 4 v3) 1 2 0) 1 5 0) (none, σ4) ∧ Sg t σ4 ∧ (w = (none, uI (uI (uI σ4 1 10 0) 1 0 0) 1 1 (-1))))) :
    Ev 38 0 [.ref 1, .int x1] [] σ w := by
  refine e_aload_n d_38_0 rfl rfl ?_
  refine e_iload_n d_38_1 rfl rfl ?_
  refine e_sipush d_38_2 cs_700 rfl ?_
  obtain ⟨v3, σ1, hcl, hS2, H⟩ := H
  refine e_scall (w1 := (some (.int v3), σ1)) d_38_5 kc_38_5 rfl ⟨Nat.le_of_ble_eq_true rfl, xx_38.symm⟩ rfl hcl ?_
  show Ev 38 8 [.ref 1, .int x1] [.int v3, .ref 1] σ1 w
  refine e_putI d_38_8 oo_38 pF_4_39 (Or.inl rfl) (hS2.k rfl) rfl ?_
  refine e_aload_n d_38_11 rfl rfl ?_
  refine e_iconst d_38_12 ci_0 rfl ?_
  refine e_putI d_38_13 oo_38 pF_4_30 (Or.inl rfl) (hS2.uI.k rfl) rfl ?_
  refine e_aload_n d_38_16 rfl rfl ?_
  refine e_iconst d_38_17 ci_0 rfl ?_
  refine e_putI d_38_18 oo_38 pF_4_42 (Or.inl rfl) (hS2.uI.uI.k rfl) rfl ?_
  refine e_aload_n d_38_21 rfl rfl ?_
  refine e_getR d_38_22 oo_38 pF_4_18 (by decide) (hS2.uI.uI.uI.k rfl) hS2.uI.uI.uI.into rfl ?_
  obtain ⟨σ4, hcl, hS5, H⟩ := H
  refine e_vcall (w1 := (none, σ4)) d_38_25 kc_38_25 rfl ⟨Nat.le_of_ble_eq_true rfl, xx_38.symm⟩ rfl hcl ?_
  show Ev 38 28 [.ref 1, .int x1] [] σ4 w
  refine e_aload_n d_38_28 rfl rfl ?_
  refine e_iconst d_38_29 ci_0 rfl ?_
  refine e_putI d_38_30 oo_38 pF_4_48 (Or.inl rfl) (hS5.k rfl) rfl ?_
  refine e_aload_n d_38_33 rfl rfl ?_
  refine e_iconst d_38_34 ci_0 rfl ?_
  refine e_putI d_38_35 oo_38 pF_4_51 (Or.inl rfl) (hS5.uI.k rfl) rfl ?_
  refine e_aload_n d_38_38 rfl rfl ?_
  refine e_iconst d_38_39 ci_m1 rfl ?_
  refine e_putI d_38_40 oo_38 pF_4_26 (Or.inl rfl) (hS5.uI.uI.k rfl) rfl ?_
  subst H
  exact e_vret d_38_43 rr_38
/-! X4_hasMore -/
theorem b_39_0 {t : Nat} {σ : Mm} {w : Option Value × Mm}  (hS : Sg t σ) 
    (H : ∃ (σ1 : Mm), Cl 44 [.ref 1] σ (none, σ1) ∧ Sg t σ1 ∧ (((mI σ1 1 6) = 0 → (w = (some (.int 0), σ1))) ∧ (¬ ((mI σ1 1 6) = 0) → (w = (some (.int 1), σ1))))) :
    Ev 39 0 [.ref 1] [] σ w := by
  refine e_aload_n d_39_0 rfl rfl ?_
  obtain ⟨σ1, hcl, hS2, H⟩ := H
  refine e_vcall (w1 := (none, σ1)) d_39_1 kc_39_1 rfl ⟨Nat.le_of_ble_eq_true rfl, xx_39.symm⟩ rfl hcl ?_
  show Ev 39 4 [.ref 1] [] σ1 w
  refine e_aload_n d_39_4 rfl rfl ?_
  refine e_getI d_39_5 oo_39 pF_4_57 (by decide) (hS2.k rfl) rfl ?_
  refine e_if_eq (t := 15) d_39_8 (by decide) rfl (fun hc => ?_) (fun hc => ?_)
  · replace H := H.1 hc
    refine e_iconst d_39_15 ci_0 rfl ?_
    subst H
    exact e_zret d_39_16 rr_39 (Or.inl rfl)
  · replace H := H.2 hc
    refine e_iconst d_39_11 ci_1 rfl ?_
    refine e_goto (t := 16) d_39_12 (by decide) ?_
    subst H
    exact e_zret d_39_16 rr_39 (Or.inr rfl)
/-! X4_refuse -/
theorem b_40_0 {t : Nat} {σ : Mm} {w : Option Value × Mm} {x1 : Int32} (hS : Sg t σ) 
    (H : ∀ (σ1 : Mm), σ1 = uI (uI σ 1 0 x1) 1 1 (mI (uI σ 1 0 x1) 1 7) → (w = (some (.int 0), σ1))) :
    Ev 40 0 [.ref 1, .int x1] [] σ w := by
  refine e_aload_n d_40_0 rfl rfl ?_
  refine e_iload_n d_40_1 rfl rfl ?_
  refine e_putI d_40_2 oo_40 pF_4_51 (Or.inl rfl) (hS.k rfl) rfl ?_
  refine e_aload_n d_40_5 rfl rfl ?_
  refine e_aload_n d_40_6 rfl rfl ?_
  refine e_getI d_40_7 oo_40 pF_4_60 (by decide) (hS.uI.k rfl) rfl ?_
  refine e_putI d_40_10 oo_40 pF_4_26 (Or.inl rfl) (hS.uI.k rfl) rfl ?_
  generalize hm2 : uI (uI σ 1 0 x1) 1 1 (mI (uI σ 1 0 x1) 1 7) = σ1
  have hS3 : Sg t σ1 := by rw [← hm2]; exact hS.uI.uI
  replace H := H σ1 hm2.symm
  refine e_iconst d_40_13 ci_0 rfl ?_
  subst H
  exact e_zret d_40_14 rr_40 (Or.inl rfl)
/-! X4_at -/
theorem b_41_0 {t : Nat} {σ : Mm} {w : Option Value × Mm} {x1 : Int32} (hS : Sg t σ) 
    (H : (x1 < 0 → (w = (some (.int 0), σ))) ∧ (¬ (x1 < 0) → ((x1 < (mI σ 1 4) → ((x1 < 700 → (inb x1 700 = true ∧ (w = (some (.int ((mI σ 2 x1.toNatClampNeg) &&& 255)), σ)))) ∧ (¬ (x1 < 700) → (w = (some (.int 0), σ))))) ∧ (¬ (x1 < (mI σ 1 4)) → (w = (some (.int 0), σ)))))) :
    Ev 41 0 [.ref 1, .int x1] [] σ w := by
  refine e_iload_n d_41_0 rfl rfl ?_
  refine e_if_lt (t := 32) d_41_1 (by decide) rfl (fun hc => ?_) (fun hc => ?_)
  · replace H := H.1 hc
    refine e_iconst d_41_32 ci_0 rfl ?_
    subst H
    exact e_iret d_41_33 rr_41
  · replace H := H.2 hc
    refine e_iload_n d_41_4 rfl rfl ?_
    refine e_aload_n d_41_5 rfl rfl ?_
    refine e_getI d_41_6 oo_41 pF_4_39 (by decide) (hS.k rfl) rfl ?_
    refine e_icmp_ge (t := 32) d_41_9 (by decide) rfl (fun hc => ?_) (fun hc => ?_)
    · replace H := H.2 hc
      refine e_iconst d_41_32 ci_0 rfl ?_
      subst H
      exact e_iret d_41_33 rr_41
    · replace H := H.1 hc
      refine e_iload_n d_41_12 rfl rfl ?_
      refine e_sipush d_41_13 cs_700 rfl ?_
      refine e_icmp_ge (t := 32) d_41_16 (by decide) rfl (fun hc => ?_) (fun hc => ?_)
      · replace H := H.2 hc
        refine e_iconst d_41_32 ci_0 rfl ?_
        subst H
        exact e_iret d_41_33 rr_41
      · replace H := H.1 hc
        refine e_aload_n d_41_19 rfl rfl ?_
        refine e_getR d_41_20 oo_41 pF_4_9 (by decide) (hS.k rfl) (hS.r rt_1_3) rfl ?_
        refine e_iload_n d_41_23 rfl rfl ?_
        obtain ⟨hb, H⟩ := H
        refine e_baload (v := (mI σ 2 x1.toNatClampNeg)) d_41_24 (rdB_at (hS.k rfl) (Or.inl rfl) hb) rfl ?_
        refine e_sipush d_41_25 cs_255 rfl ?_
        refine e_iand d_41_28 rfl ?_
        refine e_goto (t := 33) d_41_29 (by decide) ?_
        subst H
        exact e_iret d_41_33 rr_41
/-! X4_isLetter -/
theorem b_42_0 {t : Nat} {σ : Mm} {w : Option Value × Mm} {x0 : Int32} (hS : Sg t σ) 
    (H : (x0 < 97 → (w = (some (.int 0), σ))) ∧ (¬ (x0 < 97) → ((122 < x0 → (w = (some (.int 0), σ))) ∧ (¬ (122 < x0) → (w = (some (.int 1), σ)))))) :
    Ev 42 0 [.int x0] [] σ w := by
  refine e_iload_n d_42_0 rfl rfl ?_
  refine e_bipush d_42_1 cb_97 rfl ?_
  refine e_icmp_lt (t := 16) d_42_3 (by decide) rfl (fun hc => ?_) (fun hc => ?_)
  · replace H := H.1 hc
    refine e_iconst d_42_16 ci_0 rfl ?_
    subst H
    exact e_zret d_42_17 rr_42 (Or.inl rfl)
  · replace H := H.2 hc
    refine e_iload_n d_42_6 rfl rfl ?_
    refine e_bipush d_42_7 cb_122 rfl ?_
    refine e_icmp_gt (t := 16) d_42_9 (by decide) rfl (fun hc => ?_) (fun hc => ?_)
    · replace H := H.1 hc
      refine e_iconst d_42_16 ci_0 rfl ?_
      subst H
      exact e_zret d_42_17 rr_42 (Or.inl rfl)
    · replace H := H.2 hc
      refine e_iconst d_42_12 ci_1 rfl ?_
      refine e_goto (t := 17) d_42_13 (by decide) ?_
      subst H
      exact e_zret d_42_17 rr_42 (Or.inr rfl)
/-! X4_isDigit -/
theorem b_43_0 {t : Nat} {σ : Mm} {w : Option Value × Mm} {x0 : Int32} (hS : Sg t σ) 
    (H : (x0 < 48 → (w = (some (.int 0), σ))) ∧ (¬ (x0 < 48) → ((57 < x0 → (w = (some (.int 0), σ))) ∧ (¬ (57 < x0) → (w = (some (.int 1), σ)))))) :
    Ev 43 0 [.int x0] [] σ w := by
  refine e_iload_n d_43_0 rfl rfl ?_
  refine e_bipush d_43_1 cb_48 rfl ?_
  refine e_icmp_lt (t := 16) d_43_3 (by decide) rfl (fun hc => ?_) (fun hc => ?_)
  · replace H := H.1 hc
    refine e_iconst d_43_16 ci_0 rfl ?_
    subst H
    exact e_zret d_43_17 rr_43 (Or.inl rfl)
  · replace H := H.2 hc
    refine e_iload_n d_43_6 rfl rfl ?_
    refine e_bipush d_43_7 cb_57 rfl ?_
    refine e_icmp_gt (t := 16) d_43_9 (by decide) rfl (fun hc => ?_) (fun hc => ?_)
    · replace H := H.1 hc
      refine e_iconst d_43_16 ci_0 rfl ?_
      subst H
      exact e_zret d_43_17 rr_43 (Or.inl rfl)
    · replace H := H.2 hc
      refine e_iconst d_43_12 ci_1 rfl ?_
      refine e_goto (t := 17) d_43_13 (by decide) ?_
      subst H
      exact e_zret d_43_17 rr_43 (Or.inr rfl)
/-! X4_next -/
theorem b_44_0 {t : Nat} {σ : Mm} {w : Option Value × Mm}  (hS : Sg t σ) 
    (H : ((mI σ 1 5) < (mI σ 1 4) → (∃ (v3 : Int32) (σ1 : Mm), Cl 41 [.ref 1, .int (mI σ 1 5)] σ (some (.int v3), σ1) ∧ Sg t σ1 ∧ ((v3 = 10 → Ev 44 0 [.ref 1] [] (uI σ1 1 5 ((mI σ1 1 5) + 1)) w) ∧ (¬ (v3 = 10) → (∃ (v6 : Int32) (σ4 : Mm), Cl 41 [.ref 1, .int (mI σ1 1 5)] σ1 (some (.int v6), σ4) ∧ Sg t σ4 ∧ ((v6 = 32 → Ev 44 0 [.ref 1] [] (uI σ4 1 5 ((mI σ4 1 5) + 1)) w) ∧ (¬ (v6 = 32) → Ev 44 50 [.ref 1] [] σ4 w))))))) ∧ (¬ ((mI σ 1 5) < (mI σ 1 4)) → Ev 44 50 [.ref 1] [] σ w)) :
    Ev 44 0 [.ref 1] [] σ w := by
  refine e_aload_n d_44_0 rfl rfl ?_
  refine e_getI d_44_1 oo_44 pF_4_42 (by decide) (hS.k rfl) rfl ?_
  refine e_aload_n d_44_4 rfl rfl ?_
  refine e_getI d_44_5 oo_44 pF_4_39 (by decide) (hS.k rfl) rfl ?_
  refine e_icmp_ge (t := 50) d_44_8 (by decide) rfl (fun hc => ?_) (fun hc => ?_)
  · replace H := H.2 hc
    exact H
  · replace H := H.1 hc
    refine e_aload_n d_44_11 rfl rfl ?_
    refine e_aload_n d_44_12 rfl rfl ?_
    refine e_getI d_44_13 oo_44 pF_4_42 (by decide) (hS.k rfl) rfl ?_
    obtain ⟨v3, σ1, hcl, hS2, H⟩ := H
    refine e_vcall (w1 := (some (.int v3), σ1)) d_44_16 kc_44_16 rfl ⟨Nat.le_of_ble_eq_true rfl, xx_44.symm⟩ rfl hcl ?_
    show Ev 44 19 [.ref 1] [.int v3] σ1 w
    refine e_bipush d_44_19 cb_10 rfl ?_
    refine e_icmp_eq (t := 37) d_44_21 (by decide) rfl (fun hc => ?_) (fun hc => ?_)
    · replace H := H.1 hc
      refine e_aload_n d_44_37 rfl rfl ?_
      refine e_dup d_44_38 rfl rfl ?_
      refine e_getI d_44_39 oo_44 pF_4_42 (by decide) (hS2.k rfl) rfl ?_
      refine e_iconst d_44_42 ci_1 rfl ?_
      refine e_iadd d_44_43 rfl ?_
      refine e_putI d_44_44 oo_44 pF_4_42 (Or.inl rfl) (hS2.k rfl) rfl ?_
      refine e_goto (t := 0) d_44_47 (by decide) ?_
      exact H
    · replace H := H.2 hc
      refine e_aload_n d_44_24 rfl rfl ?_
      refine e_aload_n d_44_25 rfl rfl ?_
      refine e_getI d_44_26 oo_44 pF_4_42 (by decide) (hS2.k rfl) rfl ?_
      obtain ⟨v6, σ4, hcl, hS5, H⟩ := H
      refine e_vcall (w1 := (some (.int v6), σ4)) d_44_29 kc_44_29 rfl ⟨Nat.le_of_ble_eq_true rfl, xx_44.symm⟩ rfl hcl ?_
      show Ev 44 32 [.ref 1] [.int v6] σ4 w
      refine e_bipush d_44_32 cb_32 rfl ?_
      refine e_icmp_ne (t := 50) d_44_34 (by decide) rfl (fun hc => ?_) (fun hc => ?_)
      · replace H := H.2 hc
        exact H
      · replace H := H.1 hc
        refine e_aload_n d_44_37 rfl rfl ?_
        refine e_dup d_44_38 rfl rfl ?_
        refine e_getI d_44_39 oo_44 pF_4_42 (by decide) (hS5.k rfl) rfl ?_
        refine e_iconst d_44_42 ci_1 rfl ?_
        refine e_iadd d_44_43 rfl ?_
        refine e_putI d_44_44 oo_44 pF_4_42 (Or.inl rfl) (hS5.k rfl) rfl ?_
        refine e_goto (t := 0) d_44_47 (by decide) ?_
        exact H
theorem b_44_50 {t : Nat} {σ : Mm} {w : Option Value × Mm}  (hS : Sg t σ) 
    (H : ((mI (uI (uI σ 1 7 (mI σ 1 5)) 1 8 0) 1 5) < (mI (uI (uI σ 1 7 (mI σ 1 5)) 1 8 0) 1 4) → (∃ (v3 : Int32) (σ1 : Mm), Cl 41 [.ref 1, .int (mI (uI (uI σ 1 7 (mI σ 1 5)) 1 8 0) 1 5)] (uI (uI σ 1 7 (mI σ 1 5)) 1 8 0) (some (.int v3), σ1) ∧ Sg t σ1 ∧ (∃ (v6 : Int32) (σ4 : Mm), Cl 42 [.int v3] σ1 (some (.int v6), σ4) ∧ Sg t σ4 ∧ ((v6 = 0 → (∃ (v9 : Int32) (σ7 : Mm), Cl 41 [.ref 1, .int (mI σ4 1 5)] σ4 (some (.int v9), σ7) ∧ Sg t σ7 ∧ (∃ (v12 : Int32) (σ10 : Mm), Cl 43 [.int v9] σ7 (some (.int v12), σ10) ∧ Sg t σ10 ∧ ((v12 = 0 → (∃ (σ13 : Mm), Cl 48 [.ref 1] σ10 (none, σ13) ∧ Sg t σ13 ∧ (w = (none, σ13)))) ∧ (¬ (v12 = 0) → (∃ (σ16 : Mm), Cl 47 [.ref 1] σ10 (none, σ16) ∧ Sg t σ16 ∧ (w = (none, σ16)))))))) ∧ (¬ (v6 = 0) → (∃ (σ19 : Mm), Cl 45 [.ref 1] σ4 (none, σ19) ∧ Sg t σ19 ∧ (w = (none, σ19)))))))) ∧ (¬ ((mI (uI (uI σ 1 7 (mI σ 1 5)) 1 8 0) 1 5) < (mI (uI (uI σ 1 7 (mI σ 1 5)) 1 8 0) 1 4)) → (∀ (σ22 : Mm), σ22 = uI (uI (uI σ 1 7 (mI σ 1 5)) 1 8 0) 1 6 0 → (w = (none, σ22))))) :
    Ev 44 50 [.ref 1] [] σ w := by
  refine e_aload_n d_44_50 rfl rfl ?_
  refine e_aload_n d_44_51 rfl rfl ?_
  refine e_getI d_44_52 oo_44 pF_4_42 (by decide) (hS.k rfl) rfl ?_
  refine e_putI d_44_55 oo_44 pF_4_60 (Or.inl rfl) (hS.k rfl) rfl ?_
  refine e_aload_n d_44_58 rfl rfl ?_
  refine e_iconst d_44_59 ci_0 rfl ?_
  refine e_putI d_44_60 oo_44 pF_4_67 (Or.inl rfl) (hS.uI.k rfl) rfl ?_
  refine e_aload_n d_44_63 rfl rfl ?_
  refine e_getI d_44_64 oo_44 pF_4_42 (by decide) (hS.uI.uI.k rfl) rfl ?_
  refine e_aload_n d_44_67 rfl rfl ?_
  refine e_getI d_44_68 oo_44 pF_4_39 (by decide) (hS.uI.uI.k rfl) rfl ?_
  refine e_icmp_lt (t := 82) d_44_71 (by decide) rfl (fun hc => ?_) (fun hc => ?_)
  · replace H := H.1 hc
    refine e_aload_n d_44_82 rfl rfl ?_
    refine e_aload_n d_44_83 rfl rfl ?_
    refine e_getI d_44_84 oo_44 pF_4_42 (by decide) (hS.uI.uI.k rfl) rfl ?_
    obtain ⟨v3, σ1, hcl, hS2, H⟩ := H
    refine e_vcall (w1 := (some (.int v3), σ1)) d_44_87 kc_44_87 rfl ⟨Nat.le_of_ble_eq_true rfl, xx_44.symm⟩ rfl hcl ?_
    show Ev 44 90 [.ref 1] [.int v3] σ1 w
    obtain ⟨v6, σ4, hcl, hS5, H⟩ := H
    refine e_scall (w1 := (some (.int v6), σ4)) d_44_90 kc_44_90 rfl ⟨Nat.le_of_ble_eq_true rfl, xx_44.symm⟩ rfl hcl ?_
    show Ev 44 93 [.ref 1] [.int v6] σ4 w
    refine e_if_eq (t := 103) d_44_93 (by decide) rfl (fun hc => ?_) (fun hc => ?_)
    · replace H := H.1 hc
      refine e_aload_n d_44_103 rfl rfl ?_
      refine e_aload_n d_44_104 rfl rfl ?_
      refine e_getI d_44_105 oo_44 pF_4_42 (by decide) (hS5.k rfl) rfl ?_
      obtain ⟨v9, σ7, hcl, hS8, H⟩ := H
      refine e_vcall (w1 := (some (.int v9), σ7)) d_44_108 kc_44_108 rfl ⟨Nat.le_of_ble_eq_true rfl, xx_44.symm⟩ rfl hcl ?_
      show Ev 44 111 [.ref 1] [.int v9] σ7 w
      obtain ⟨v12, σ10, hcl, hS11, H⟩ := H
      refine e_scall (w1 := (some (.int v12), σ10)) d_44_111 kc_44_111 rfl ⟨Nat.le_of_ble_eq_true rfl, xx_44.symm⟩ rfl hcl ?_
      show Ev 44 114 [.ref 1] [.int v12] σ10 w
      refine e_if_eq (t := 124) d_44_114 (by decide) rfl (fun hc => ?_) (fun hc => ?_)
      · replace H := H.1 hc
        refine e_aload_n d_44_124 rfl rfl ?_
        obtain ⟨σ13, hcl, hS14, H⟩ := H
        refine e_vcall (w1 := (none, σ13)) d_44_125 kc_44_125 rfl ⟨Nat.le_of_ble_eq_true rfl, xx_44.symm⟩ rfl hcl ?_
        show Ev 44 128 [.ref 1] [] σ13 w
        subst H
        exact e_vret d_44_128 rr_44
      · replace H := H.2 hc
        refine e_aload_n d_44_117 rfl rfl ?_
        obtain ⟨σ16, hcl, hS17, H⟩ := H
        refine e_vcall (w1 := (none, σ16)) d_44_118 kc_44_118 rfl ⟨Nat.le_of_ble_eq_true rfl, xx_44.symm⟩ rfl hcl ?_
        show Ev 44 121 [.ref 1] [] σ16 w
        refine e_goto (t := 128) d_44_121 (by decide) ?_
        subst H
        exact e_vret d_44_128 rr_44
    · replace H := H.2 hc
      refine e_aload_n d_44_96 rfl rfl ?_
      obtain ⟨σ19, hcl, hS20, H⟩ := H
      refine e_vcall (w1 := (none, σ19)) d_44_97 kc_44_97 rfl ⟨Nat.le_of_ble_eq_true rfl, xx_44.symm⟩ rfl hcl ?_
      show Ev 44 100 [.ref 1] [] σ19 w
      refine e_goto (t := 128) d_44_100 (by decide) ?_
      subst H
      exact e_vret d_44_128 rr_44
  · replace H := H.2 hc
    refine e_aload_n d_44_74 rfl rfl ?_
    refine e_iconst d_44_75 ci_0 rfl ?_
    refine e_putI d_44_76 oo_44 pF_4_57 (Or.inl rfl) (hS.uI.uI.k rfl) rfl ?_
    generalize hm23 : uI (uI (uI σ 1 7 (mI σ 1 5)) 1 8 0) 1 6 0 = σ22
    have hS24 : Sg t σ22 := by rw [← hm23]; exact hS.uI.uI.uI
    replace H := H σ22 hm23.symm
    refine e_goto (t := 128) d_44_79 (by decide) ?_
    subst H
    exact e_vret d_44_128 rr_44
/-! X4_nextWord -/
theorem b_45_0 {t : Nat} {σ : Mm} {w : Option Value × Mm}  (hS : Sg t σ) 
    (H : Ev 45 2 [.ref 1, .int 0] [] σ w) :
    Ev 45 0 [.ref 1, .retAddr 0] [] σ w := by
  refine e_iconst d_45_0 ci_0 rfl ?_
  refine e_istore_n (ls2 := [.ref 1, .int 0]) d_45_1 rfl rfl rfl ?_
  exact H
theorem b_45_2 {t : Nat} {σ : Mm} {w : Option Value × Mm} {x1 : Int32} (hS : Sg t σ) 
    (H : ((mI σ 1 5) < (mI σ 1 4) → (∃ (v6 : Int32) (σ4 : Mm), Cl 41 [.ref 1, .int (mI σ 1 5)] σ (some (.int v6), σ4) ∧ Sg t σ4 ∧ (∃ (v9 : Int32) (σ7 : Mm), Cl 42 [.int v6] σ4 (some (.int v9), σ7) ∧ Sg t σ7 ∧ ((v9 = 0 → ((6 < x1 → (w = (none, uI σ7 1 6 1))) ∧ (¬ (6 < x1) → (∃ (v12 : Int32) (σ10 : Mm), Cl 46 [.ref 1] σ7 (some (.int v12), σ10) ∧ Sg t σ10 ∧ (w = (none, uI σ10 1 6 v12)))))) ∧ (¬ (v9 = 0) → ((x1 < 6 → (∃ (v15 : Int32) (σ13 : Mm), Cl 41 [.ref 1, .int (mI σ7 1 5)] σ7 (some (.int v15), σ13) ∧ Sg t σ13 ∧ (∀ (σ16 : Mm), σ16 = uI σ13 1 8 ((mI σ7 1 8) ||| (((v15 - 97) + 1) <<< ((5 * (5 - x1)) &&& 31))) → Ev 45 2 [.ref 1, .int (x1 + 1)] [] (uI σ16 1 5 ((mI σ16 1 5) + 1)) w))) ∧ (¬ (x1 < 6) → Ev 45 2 [.ref 1, .int (x1 + 1)] [] (uI σ7 1 5 ((mI σ7 1 5) + 1)) w))))))) ∧ (¬ ((mI σ 1 5) < (mI σ 1 4)) → ((6 < x1 → (w = (none, uI σ 1 6 1))) ∧ (¬ (6 < x1) → (∃ (v3 : Int32) (σ1 : Mm), Cl 46 [.ref 1] σ (some (.int v3), σ1) ∧ Sg t σ1 ∧ (w = (none, uI σ1 1 6 v3))))))) :
    Ev 45 2 [.ref 1, .int x1] [] σ w := by
  refine e_aload_n d_45_2 rfl rfl ?_
  refine e_getI d_45_3 oo_45 pF_4_42 (by decide) (hS.k rfl) rfl ?_
  refine e_aload_n d_45_6 rfl rfl ?_
  refine e_getI d_45_7 oo_45 pF_4_39 (by decide) (hS.k rfl) rfl ?_
  refine e_icmp_ge (t := 77) d_45_10 (by decide) rfl (fun hc => ?_) (fun hc => ?_)
  · replace H := H.2 hc
    refine e_aload_n d_45_77 rfl rfl ?_
    refine e_iload_n d_45_78 rfl rfl ?_
    refine e_bipush d_45_79 cb_6 rfl ?_
    refine e_icmp_le (t := 88) d_45_81 (by decide) rfl (fun hc => ?_) (fun hc => ?_)
    · replace H := H.2 hc
      refine e_aload_n d_45_88 rfl rfl ?_
      obtain ⟨v3, σ1, hcl, hS2, H⟩ := H
      refine e_vcall (w1 := (some (.int v3), σ1)) d_45_89 kc_45_89 rfl ⟨Nat.le_of_ble_eq_true rfl, xx_45.symm⟩ rfl hcl ?_
      show Ev 45 92 [.ref 1, .int x1] [.int v3, .ref 1] σ1 w
      refine e_putI d_45_92 oo_45 pF_4_57 (Or.inl rfl) (hS2.k rfl) rfl ?_
      subst H
      exact e_vret d_45_95 rr_45
    · replace H := H.1 hc
      refine e_iconst d_45_84 ci_1 rfl ?_
      refine e_goto (t := 92) d_45_85 (by decide) ?_
      refine e_putI d_45_92 oo_45 pF_4_57 (Or.inl rfl) (hS.k rfl) rfl ?_
      subst H
      exact e_vret d_45_95 rr_45
  · replace H := H.1 hc
    refine e_aload_n d_45_13 rfl rfl ?_
    refine e_aload_n d_45_14 rfl rfl ?_
    refine e_getI d_45_15 oo_45 pF_4_42 (by decide) (hS.k rfl) rfl ?_
    obtain ⟨v6, σ4, hcl, hS5, H⟩ := H
    refine e_vcall (w1 := (some (.int v6), σ4)) d_45_18 kc_45_18 rfl ⟨Nat.le_of_ble_eq_true rfl, xx_45.symm⟩ rfl hcl ?_
    show Ev 45 21 [.ref 1, .int x1] [.int v6] σ4 w
    obtain ⟨v9, σ7, hcl, hS8, H⟩ := H
    refine e_scall (w1 := (some (.int v9), σ7)) d_45_21 kc_45_21 rfl ⟨Nat.le_of_ble_eq_true rfl, xx_45.symm⟩ rfl hcl ?_
    show Ev 45 24 [.ref 1, .int x1] [.int v9] σ7 w
    refine e_if_eq (t := 77) d_45_24 (by decide) rfl (fun hc => ?_) (fun hc => ?_)
    · replace H := H.1 hc
      refine e_aload_n d_45_77 rfl rfl ?_
      refine e_iload_n d_45_78 rfl rfl ?_
      refine e_bipush d_45_79 cb_6 rfl ?_
      refine e_icmp_le (t := 88) d_45_81 (by decide) rfl (fun hc => ?_) (fun hc => ?_)
      · replace H := H.2 hc
        refine e_aload_n d_45_88 rfl rfl ?_
        obtain ⟨v12, σ10, hcl, hS11, H⟩ := H
        refine e_vcall (w1 := (some (.int v12), σ10)) d_45_89 kc_45_89 rfl ⟨Nat.le_of_ble_eq_true rfl, xx_45.symm⟩ rfl hcl ?_
        show Ev 45 92 [.ref 1, .int x1] [.int v12, .ref 1] σ10 w
        refine e_putI d_45_92 oo_45 pF_4_57 (Or.inl rfl) (hS11.k rfl) rfl ?_
        subst H
        exact e_vret d_45_95 rr_45
      · replace H := H.1 hc
        refine e_iconst d_45_84 ci_1 rfl ?_
        refine e_goto (t := 92) d_45_85 (by decide) ?_
        refine e_putI d_45_92 oo_45 pF_4_57 (Or.inl rfl) (hS8.k rfl) rfl ?_
        subst H
        exact e_vret d_45_95 rr_45
    · replace H := H.2 hc
      refine e_iload_n d_45_27 rfl rfl ?_
      refine e_bipush d_45_28 cb_6 rfl ?_
      refine e_icmp_ge (t := 61) d_45_30 (by decide) rfl (fun hc => ?_) (fun hc => ?_)
      · replace H := H.2 hc
        refine e_iinc (ls2 := [.ref 1, .int (x1 + 1)]) d_45_61 rfl ci_1 rfl rfl rfl ?_
        refine e_aload_n d_45_64 rfl rfl ?_
        refine e_dup d_45_65 rfl rfl ?_
        refine e_getI d_45_66 oo_45 pF_4_42 (by decide) (hS8.k rfl) rfl ?_
        refine e_iconst d_45_69 ci_1 rfl ?_
        refine e_iadd d_45_70 rfl ?_
        refine e_putI d_45_71 oo_45 pF_4_42 (Or.inl rfl) (hS8.k rfl) rfl ?_
        refine e_goto (t := 2) d_45_74 (by decide) ?_
        exact H
      · replace H := H.1 hc
        refine e_aload_n d_45_33 rfl rfl ?_
        refine e_dup d_45_34 rfl rfl ?_
        refine e_getI d_45_35 oo_45 pF_4_67 (by decide) (hS8.k rfl) rfl ?_
        refine e_aload_n d_45_38 rfl rfl ?_
        refine e_aload_n d_45_39 rfl rfl ?_
        refine e_getI d_45_40 oo_45 pF_4_42 (by decide) (hS8.k rfl) rfl ?_
        obtain ⟨v15, σ13, hcl, hS14, H⟩ := H
        refine e_vcall (w1 := (some (.int v15), σ13)) d_45_43 kc_45_43 rfl ⟨Nat.le_of_ble_eq_true rfl, xx_45.symm⟩ rfl hcl ?_
        show Ev 45 46 [.ref 1, .int x1] [.int v15, .int (mI σ7 1 8), .ref 1] σ13 w
        refine e_bipush d_45_46 cb_97 rfl ?_
        refine e_isub d_45_48 rfl ?_
        refine e_iconst d_45_49 ci_1 rfl ?_
        refine e_iadd d_45_50 rfl ?_
        refine e_iconst d_45_51 ci_5 rfl ?_
        refine e_iconst d_45_52 ci_5 rfl ?_
        refine e_iload_n d_45_53 rfl rfl ?_
        refine e_isub d_45_54 rfl ?_
        refine e_imul d_45_55 rfl ?_
        refine e_ishl d_45_56 rfl ?_
        refine e_ior d_45_57 rfl ?_
        refine e_putI d_45_58 oo_45 pF_4_67 (Or.inl rfl) (hS14.k rfl) rfl ?_
        generalize hm17 : uI σ13 1 8 ((mI σ7 1 8) ||| (((v15 - 97) + 1) <<< ((5 * (5 - x1)) &&& 31))) = σ16
        have hS18 : Sg t σ16 := by rw [← hm17]; exact hS14.uI
        replace H := H σ16 hm17.symm
        refine e_iinc (ls2 := [.ref 1, .int (x1 + 1)]) d_45_61 rfl ci_1 rfl rfl rfl ?_
        refine e_aload_n d_45_64 rfl rfl ?_
        refine e_dup d_45_65 rfl rfl ?_
        refine e_getI d_45_66 oo_45 pF_4_42 (by decide) (hS18.k rfl) rfl ?_
        refine e_iconst d_45_69 ci_1 rfl ?_
        refine e_iadd d_45_70 rfl ?_
        refine e_putI d_45_71 oo_45 pF_4_42 (Or.inl rfl) (hS18.k rfl) rfl ?_
        refine e_goto (t := 2) d_45_74 (by decide) ?_
        exact H
/-! X4_kindOfWord -/
theorem b_46_0 {t : Nat} {σ : Mm} {w : Option Value × Mm}  (hS : Sg t σ) 
    (H : Ev 46 2 [.ref 1, .int 0, .retAddr 0, .retAddr 0, .retAddr 0] [] σ w) :
    Ev 46 0 [.ref 1, .retAddr 0, .retAddr 0, .retAddr 0, .retAddr 0] [] σ w := by
  refine e_iconst d_46_0 ci_0 rfl ?_
  refine e_istore_n (ls2 := [.ref 1, .int 0, .retAddr 0, .retAddr 0, .retAddr 0]) d_46_1 rfl rfl rfl ?_
  exact H
theorem b_46_2 {t : Nat} {σ : Mm} {w : Option Value × Mm} {x1 : Int32} {z2 : Value} {z3 : Value} {z4 : Value} (hS : Sg t σ) 
    (H : ∃ (v3 : Int32) (σ1 : Mm), Cl 282 [.ref 1000000] σ (some (.int v3), σ1) ∧ Sg t σ1 ∧ ((v3 < (x1 + 6) → (w = (some (.int 3), σ1))) ∧ (¬ (v3 < (x1 + 6)) → Ev 46 18 [.ref 1, .int x1, .int 0, .int x1, z4] [] σ1 w))) :
    Ev 46 2 [.ref 1, .int x1, z2, z3, z4] [] σ w := by
  refine e_iload_n d_46_2 rfl rfl ?_
  refine e_bipush d_46_3 cb_6 rfl ?_
  refine e_iadd d_46_5 rfl ?_
  refine e_ldcS d_46_6 oo_46 pS_4_90.1 pS_4_90.2 rfl ?_
  obtain ⟨v3, σ1, hcl, hS2, H⟩ := H
  refine e_vcall (w1 := (some (.int v3), σ1)) d_46_8 kc_46_8 rfl ⟨Nat.le_of_ble_eq_true rfl, xx_46.symm⟩ rfl hcl ?_
  show Ev 46 11 [.ref 1, .int x1, z2, z3, z4] [.int v3, .int (x1 + 6)] σ1 w
  refine e_icmp_gt (t := 85) d_46_11 (by decide) rfl (fun hc => ?_) (fun hc => ?_)
  · replace H := H.1 hc
    refine e_iconst d_46_85 ci_3 rfl ?_
    subst H
    exact e_iret d_46_86 rr_46
  · replace H := H.2 hc
    refine e_iconst d_46_14 ci_0 rfl ?_
    refine e_istore_n (ls2 := [.ref 1, .int x1, .int 0, z3, z4]) d_46_15 rfl rfl rfl ?_
    refine e_iload_n d_46_16 rfl rfl ?_
    refine e_istore_n (ls2 := [.ref 1, .int x1, .int 0, .int x1, z4]) d_46_17 rfl rfl rfl ?_
    exact H
theorem b_46_18 {t : Nat} {σ : Mm} {w : Option Value × Mm} {x1 : Int32} {x2 : Int32} {x3 : Int32} {z4 : Value} (hS : Sg t σ) 
    (H : (x3 < (x1 + 6) → (∃ (v3 : Int32) (σ1 : Mm), Cl 283 [.ref 1000000, .int x3] σ (some (.int v3), σ1) ∧ Sg t σ1 ∧ ((v3 = 32 → Ev 46 18 [.ref 1, .int x1, .int ((x2 <<< (5 &&& 31)) ||| 0), .int (x3 + 1), .int v3] [] σ1 w) ∧ (¬ (v3 = 32) → Ev 46 18 [.ref 1, .int x1, .int ((x2 <<< (5 &&& 31)) ||| ((v3 - 97) + 1)), .int (x3 + 1), .int v3] [] σ1 w)))) ∧ (¬ (x3 < (x1 + 6)) → ((x2 = (mI σ 1 8) → (w = (some (.int (10 + (x1 / 6))), σ))) ∧ (¬ (x2 = (mI σ 1 8)) → Ev 46 2 [.ref 1, .int (x1 + 6), .int x2, .int x3, z4] [] σ w)))) :
    Ev 46 18 [.ref 1, .int x1, .int x2, .int x3, z4] [] σ w := by
  refine e_iload_n d_46_18 rfl rfl ?_
  refine e_iload_n d_46_19 rfl rfl ?_
  refine e_bipush d_46_20 cb_6 rfl ?_
  refine e_iadd d_46_22 rfl ?_
  refine e_icmp_ge (t := 63) d_46_23 (by decide) rfl (fun hc => ?_) (fun hc => ?_)
  · replace H := H.2 hc
    refine e_iload_n d_46_63 rfl rfl ?_
    refine e_aload_n d_46_64 rfl rfl ?_
    refine e_getI d_46_65 oo_46 pF_4_67 (by decide) (hS.k rfl) rfl ?_
    refine e_icmp_ne (t := 79) d_46_68 (by decide) rfl (fun hc => ?_) (fun hc => ?_)
    · replace H := H.2 hc
      refine e_iinc (ls2 := [.ref 1, .int (x1 + 6), .int x2, .int x3, z4]) d_46_79 rfl ci_6 rfl rfl rfl ?_
      refine e_goto (t := 2) d_46_82 (by decide) ?_
      exact H
    · replace H := H.1 hc
      refine e_bipush d_46_71 cb_10 rfl ?_
      refine e_iload_n d_46_73 rfl rfl ?_
      refine e_bipush d_46_74 cb_6 rfl ?_
      refine e_idiv d_46_76 (by decide) rfl ?_
      refine e_iadd d_46_77 rfl ?_
      subst H
      exact e_iret d_46_78 rr_46
  · replace H := H.1 hc
    refine e_ldcS d_46_26 oo_46 pS_4_90.1 pS_4_90.2 rfl ?_
    refine e_iload_n d_46_28 rfl rfl ?_
    obtain ⟨v3, σ1, hcl, hS2, H⟩ := H
    refine e_vcall (w1 := (some (.int v3), σ1)) d_46_29 kc_46_29 rfl ⟨Nat.le_of_ble_eq_true rfl, xx_46.symm⟩ rfl hcl ?_
    show Ev 46 32 [.ref 1, .int x1, .int x2, .int x3, z4] [.int v3] σ1 w
    refine e_istore (ls2 := [.ref 1, .int x1, .int x2, .int x3, .int v3]) d_46_32 rfl rfl rfl ?_
    refine e_iload_n d_46_34 rfl rfl ?_
    refine e_iconst d_46_35 ci_5 rfl ?_
    refine e_ishl d_46_36 rfl ?_
    refine e_iload d_46_37 rfl rfl ?_
    refine e_bipush d_46_39 cb_32 rfl ?_
    refine e_icmp_ne (t := 48) d_46_41 (by decide) rfl (fun hc => ?_) (fun hc => ?_)
    · replace H := H.2 hc
      refine e_iload d_46_48 rfl rfl ?_
      refine e_bipush d_46_50 cb_97 rfl ?_
      refine e_isub d_46_52 rfl ?_
      refine e_iconst d_46_53 ci_1 rfl ?_
      refine e_iadd d_46_54 rfl ?_
      refine e_ior d_46_55 rfl ?_
      refine e_istore_n (ls2 := [.ref 1, .int x1, .int ((x2 <<< (5 &&& 31)) ||| ((v3 - 97) + 1)), .int x3, .int v3]) d_46_56 rfl rfl rfl ?_
      refine e_iinc (ls2 := [.ref 1, .int x1, .int ((x2 <<< (5 &&& 31)) ||| ((v3 - 97) + 1)), .int (x3 + 1), .int v3]) d_46_57 rfl ci_1 rfl rfl rfl ?_
      refine e_goto (t := 18) d_46_60 (by decide) ?_
      exact H
    · replace H := H.1 hc
      refine e_iconst d_46_44 ci_0 rfl ?_
      refine e_goto (t := 55) d_46_45 (by decide) ?_
      refine e_ior d_46_55 rfl ?_
      refine e_istore_n (ls2 := [.ref 1, .int x1, .int ((x2 <<< (5 &&& 31)) ||| 0), .int x3, .int v3]) d_46_56 rfl rfl rfl ?_
      refine e_iinc (ls2 := [.ref 1, .int x1, .int ((x2 <<< (5 &&& 31)) ||| 0), .int (x3 + 1), .int v3]) d_46_57 rfl ci_1 rfl rfl rfl ?_
      refine e_goto (t := 18) d_46_60 (by decide) ?_
      exact H
/-! X4_nextNumber -/
theorem b_47_0 {t : Nat} {σ : Mm} {w : Option Value × Mm}  (hS : Sg t σ) 
    (H : ((mI σ 1 5) < (mI σ 1 4) → (∃ (v3 : Int32) (σ1 : Mm), Cl 41 [.ref 1, .int (mI σ 1 5)] σ (some (.int v3), σ1) ∧ Sg t σ1 ∧ (∃ (v6 : Int32) (σ4 : Mm), Cl 43 [.int v3] σ1 (some (.int v6), σ4) ∧ Sg t σ4 ∧ ((v6 = 0 → (w = (none, uI σ4 1 6 2))) ∧ (¬ (v6 = 0) → (∃ (v9 : Int32) (σ7 : Mm), Cl 41 [.ref 1, .int (mI σ4 1 5)] σ4 (some (.int v9), σ7) ∧ Sg t σ7 ∧ (∃ (v12 : Int32) (σ10 : Mm), Cl 280 [.int 1000000, .int ((((mI σ4 1 8) * 10) + v9) - 48)] σ7 (some (.int v12), σ10) ∧ Sg t σ10 ∧ (∀ (σ13 : Mm), σ13 = uI (uI σ10 1 8 v12) 1 5 ((mI (uI σ10 1 8 v12) 1 5) + 1) → Ev 47 0 [.ref 1] [] σ13 w)))))))) ∧ (¬ ((mI σ 1 5) < (mI σ 1 4)) → (w = (none, uI σ 1 6 2)))) :
    Ev 47 0 [.ref 1] [] σ w := by
  refine e_aload_n d_47_0 rfl rfl ?_
  refine e_getI d_47_1 oo_47 pF_4_42 (by decide) (hS.k rfl) rfl ?_
  refine e_aload_n d_47_4 rfl rfl ?_
  refine e_getI d_47_5 oo_47 pF_4_39 (by decide) (hS.k rfl) rfl ?_
  refine e_icmp_ge (t := 66) d_47_8 (by decide) rfl (fun hc => ?_) (fun hc => ?_)
  · replace H := H.2 hc
    refine e_aload_n d_47_66 rfl rfl ?_
    refine e_iconst d_47_67 ci_2 rfl ?_
    refine e_putI d_47_68 oo_47 pF_4_57 (Or.inl rfl) (hS.k rfl) rfl ?_
    subst H
    exact e_vret d_47_71 rr_47
  · replace H := H.1 hc
    refine e_aload_n d_47_11 rfl rfl ?_
    refine e_aload_n d_47_12 rfl rfl ?_
    refine e_getI d_47_13 oo_47 pF_4_42 (by decide) (hS.k rfl) rfl ?_
    obtain ⟨v3, σ1, hcl, hS2, H⟩ := H
    refine e_vcall (w1 := (some (.int v3), σ1)) d_47_16 kc_47_16 rfl ⟨Nat.le_of_ble_eq_true rfl, xx_47.symm⟩ rfl hcl ?_
    show Ev 47 19 [.ref 1] [.int v3] σ1 w
    obtain ⟨v6, σ4, hcl, hS5, H⟩ := H
    refine e_scall (w1 := (some (.int v6), σ4)) d_47_19 kc_47_19 rfl ⟨Nat.le_of_ble_eq_true rfl, xx_47.symm⟩ rfl hcl ?_
    show Ev 47 22 [.ref 1] [.int v6] σ4 w
    refine e_if_eq (t := 66) d_47_22 (by decide) rfl (fun hc => ?_) (fun hc => ?_)
    · replace H := H.1 hc
      refine e_aload_n d_47_66 rfl rfl ?_
      refine e_iconst d_47_67 ci_2 rfl ?_
      refine e_putI d_47_68 oo_47 pF_4_57 (Or.inl rfl) (hS5.k rfl) rfl ?_
      subst H
      exact e_vret d_47_71 rr_47
    · replace H := H.2 hc
      refine e_aload_n d_47_25 rfl rfl ?_
      refine e_ldc d_47_26 oo_47 pI_4_100 rfl ?_
      refine e_aload_n d_47_28 rfl rfl ?_
      refine e_getI d_47_29 oo_47 pF_4_67 (by decide) (hS5.k rfl) rfl ?_
      refine e_bipush d_47_32 cb_10 rfl ?_
      refine e_imul d_47_34 rfl ?_
      refine e_aload_n d_47_35 rfl rfl ?_
      refine e_aload_n d_47_36 rfl rfl ?_
      refine e_getI d_47_37 oo_47 pF_4_42 (by decide) (hS5.k rfl) rfl ?_
      obtain ⟨v9, σ7, hcl, hS8, H⟩ := H
      refine e_vcall (w1 := (some (.int v9), σ7)) d_47_40 kc_47_40 rfl ⟨Nat.le_of_ble_eq_true rfl, xx_47.symm⟩ rfl hcl ?_
      show Ev 47 43 [.ref 1] [.int v9, .int ((mI σ4 1 8) * 10), .int 1000000, .ref 1] σ7 w
      refine e_iadd d_47_43 rfl ?_
      refine e_bipush d_47_44 cb_48 rfl ?_
      refine e_isub d_47_46 rfl ?_
      obtain ⟨v12, σ10, hcl, hS11, H⟩ := H
      refine e_scall (w1 := (some (.int v12), σ10)) d_47_47 kc_47_47 rfl ⟨Nat.le_of_ble_eq_true rfl, xx_47.symm⟩ rfl hcl ?_
      show Ev 47 50 [.ref 1] [.int v12, .ref 1] σ10 w
      refine e_putI d_47_50 oo_47 pF_4_67 (Or.inl rfl) (hS11.k rfl) rfl ?_
      refine e_aload_n d_47_53 rfl rfl ?_
      refine e_dup d_47_54 rfl rfl ?_
      refine e_getI d_47_55 oo_47 pF_4_42 (by decide) (hS11.uI.k rfl) rfl ?_
      refine e_iconst d_47_58 ci_1 rfl ?_
      refine e_iadd d_47_59 rfl ?_
      refine e_putI d_47_60 oo_47 pF_4_42 (Or.inl rfl) (hS11.uI.k rfl) rfl ?_
      generalize hm14 : uI (uI σ10 1 8 v12) 1 5 ((mI (uI σ10 1 8 v12) 1 5) + 1) = σ13
      have hS15 : Sg t σ13 := by rw [← hm14]; exact hS11.uI.uI
      replace H := H σ13 hm14.symm
      refine e_goto (t := 0) d_47_63 (by decide) ?_
      exact H
/-! X4_nextSign -/
theorem b_48_0 {t : Nat} {σ : Mm} {w : Option Value × Mm}  (hS : Sg t σ) 
    (H : ∃ (v3 : Int32) (σ1 : Mm), Cl 41 [.ref 1, .int (mI σ 1 5)] σ (some (.int v3), σ1) ∧ Sg t σ1 ∧ (∃ (v6 : Int32) (σ4 : Mm), Cl 41 [.ref 1, .int ((mI σ1 1 5) + 1)] σ1 (some (.int v6), σ4) ∧ Sg t σ4 ∧ (∃ (v9 : Int32) (σ7 : Mm), Cl 284 [.ref 1000001, .int (Int32.toUInt32 v3 % 65536).toInt32] σ4 (some (.int v9), σ7) ∧ Sg t σ7 ∧ ((v9 < 0 → Ev 48 51 [.ref 1, .int v3, .int v6, .int v9] [.int 1, .ref 1] (uI σ7 1 5 ((mI σ7 1 5) + 1)) w) ∧ (¬ (v9 < 0) → Ev 48 51 [.ref 1, .int v3, .int v6, .int v9] [.int (31 + v9), .ref 1] (uI σ7 1 5 ((mI σ7 1 5) + 1)) w))))) :
    Ev 48 0 [.ref 1, .retAddr 0, .retAddr 0, .retAddr 0] [] σ w := by
  refine e_aload_n d_48_0 rfl rfl ?_
  refine e_aload_n d_48_1 rfl rfl ?_
  refine e_getI d_48_2 oo_48 pF_4_42 (by decide) (hS.k rfl) rfl ?_
  obtain ⟨v3, σ1, hcl, hS2, H⟩ := H
  refine e_vcall (w1 := (some (.int v3), σ1)) d_48_5 kc_48_5 rfl ⟨Nat.le_of_ble_eq_true rfl, xx_48.symm⟩ rfl hcl ?_
  show Ev 48 8 [.ref 1, .retAddr 0, .retAddr 0, .retAddr 0] [.int v3] σ1 w
  refine e_istore_n (ls2 := [.ref 1, .int v3, .retAddr 0, .retAddr 0]) d_48_8 rfl rfl rfl ?_
  refine e_aload_n d_48_9 rfl rfl ?_
  refine e_aload_n d_48_10 rfl rfl ?_
  refine e_getI d_48_11 oo_48 pF_4_42 (by decide) (hS2.k rfl) rfl ?_
  refine e_iconst d_48_14 ci_1 rfl ?_
  refine e_iadd d_48_15 rfl ?_
  obtain ⟨v6, σ4, hcl, hS5, H⟩ := H
  refine e_vcall (w1 := (some (.int v6), σ4)) d_48_16 kc_48_16 rfl ⟨Nat.le_of_ble_eq_true rfl, xx_48.symm⟩ rfl hcl ?_
  show Ev 48 19 [.ref 1, .int v3, .retAddr 0, .retAddr 0] [.int v6] σ4 w
  refine e_istore_n (ls2 := [.ref 1, .int v3, .int v6, .retAddr 0]) d_48_19 rfl rfl rfl ?_
  refine e_ldcS d_48_20 oo_48 pS_4_101.1 pS_4_101.2 rfl ?_
  refine e_iload_n d_48_22 rfl rfl ?_
  refine e_i2c d_48_23 rfl ?_
  obtain ⟨v9, σ7, hcl, hS8, H⟩ := H
  refine e_vcall (w1 := (some (.int v9), σ7)) d_48_24 kc_48_24 rfl ⟨Nat.le_of_ble_eq_true rfl, xx_48.symm⟩ rfl hcl ?_
  show Ev 48 27 [.ref 1, .int v3, .int v6, .retAddr 0] [.int v9] σ7 w
  refine e_istore_n (ls2 := [.ref 1, .int v3, .int v6, .int v9]) d_48_27 rfl rfl rfl ?_
  refine e_aload_n d_48_28 rfl rfl ?_
  refine e_dup d_48_29 rfl rfl ?_
  refine e_getI d_48_30 oo_48 pF_4_42 (by decide) (hS8.k rfl) rfl ?_
  refine e_iconst d_48_33 ci_1 rfl ?_
  refine e_iadd d_48_34 rfl ?_
  refine e_putI d_48_35 oo_48 pF_4_42 (Or.inl rfl) (hS8.k rfl) rfl ?_
  refine e_aload_n d_48_38 rfl rfl ?_
  refine e_iload_n d_48_39 rfl rfl ?_
  refine e_if_ge (t := 47) d_48_40 (by decide) rfl (fun hc => ?_) (fun hc => ?_)
  · replace H := H.2 hc
    refine e_bipush d_48_47 cb_31 rfl ?_
    refine e_iload_n d_48_49 rfl rfl ?_
    refine e_iadd d_48_50 rfl ?_
    exact H
  · replace H := H.1 hc
    refine e_iconst d_48_43 ci_1 rfl ?_
    refine e_goto (t := 51) d_48_44 (by decide) ?_
    exact H
theorem b_48_51 {t : Nat} {σ : Mm} {w : Option Value × Mm} {x1 : Int32} {x2 : Int32} {x3 : Int32} {s0 : Int32} (hS : Sg t σ) 
    (H : ((mI (uI σ 1 6 s0) 1 6) = 35 → ((x2 = 61 → (∀ (σ1 : Mm), σ1 = uI (uI (uI σ 1 6 s0) 1 6 41) 1 5 ((mI (uI (uI σ 1 6 s0) 1 6 41) 1 5) + 1) → (w = (none, σ1)))) ∧ (¬ (x2 = 61) → Ev 48 78 [.ref 1, .int x1, .int x2, .int x3] [] (uI σ 1 6 s0) w))) ∧ (¬ ((mI (uI σ 1 6 s0) 1 6) = 35) → Ev 48 78 [.ref 1, .int x1, .int x2, .int x3] [] (uI σ 1 6 s0) w)) :
    Ev 48 51 [.ref 1, .int x1, .int x2, .int x3] [.int s0, .ref 1] σ w := by
  refine e_putI d_48_51 oo_48 pF_4_57 (Or.inl rfl) (hS.k rfl) rfl ?_
  refine e_aload_n d_48_54 rfl rfl ?_
  refine e_getI d_48_55 oo_48 pF_4_57 (by decide) (hS.uI.k rfl) rfl ?_
  refine e_bipush d_48_58 cb_35 rfl ?_
  refine e_icmp_ne (t := 78) d_48_60 (by decide) rfl (fun hc => ?_) (fun hc => ?_)
  · replace H := H.2 hc
    exact H
  · replace H := H.1 hc
    refine e_iload_n d_48_63 rfl rfl ?_
    refine e_bipush d_48_64 cb_61 rfl ?_
    refine e_icmp_ne (t := 78) d_48_66 (by decide) rfl (fun hc => ?_) (fun hc => ?_)
    · replace H := H.2 hc
      exact H
    · replace H := H.1 hc
      refine e_aload_n d_48_69 rfl rfl ?_
      refine e_bipush d_48_70 cb_41 rfl ?_
      refine e_putI d_48_72 oo_48 pF_4_57 (Or.inl rfl) (hS.uI.k rfl) rfl ?_
      refine e_goto (t := 127) d_48_75 (by decide) ?_
      refine e_aload_n d_48_127 rfl rfl ?_
      refine e_dup d_48_128 rfl rfl ?_
      refine e_getI d_48_129 oo_48 pF_4_42 (by decide) (hS.uI.uI.k rfl) rfl ?_
      refine e_iconst d_48_132 ci_1 rfl ?_
      refine e_iadd d_48_133 rfl ?_
      refine e_putI d_48_134 oo_48 pF_4_42 (Or.inl rfl) (hS.uI.uI.k rfl) rfl ?_
      generalize hm2 : uI (uI (uI σ 1 6 s0) 1 6 41) 1 5 ((mI (uI (uI σ 1 6 s0) 1 6 41) 1 5) + 1) = σ1
      have hS3 : Sg t σ1 := by rw [← hm2]; exact hS.uI.uI.uI
      replace H := H σ1 hm2.symm
      subst H
      exact e_vret d_48_137 rr_48
theorem b_48_78 {t : Nat} {σ : Mm} {w : Option Value × Mm} {x1 : Int32} {x2 : Int32} {x3 : Int32} (hS : Sg t σ) 
    (H : ((mI σ 1 6) = 35 → ((x2 = 62 → (∀ (σ1 : Mm), σ1 = uI (uI σ 1 6 42) 1 5 ((mI (uI σ 1 6 42) 1 5) + 1) → (w = (none, σ1)))) ∧ (¬ (x2 = 62) → Ev 48 102 [.ref 1, .int x1, .int x2, .int x3] [] σ w))) ∧ (¬ ((mI σ 1 6) = 35) → Ev 48 102 [.ref 1, .int x1, .int x2, .int x3] [] σ w)) :
    Ev 48 78 [.ref 1, .int x1, .int x2, .int x3] [] σ w := by
  refine e_aload_n d_48_78 rfl rfl ?_
  refine e_getI d_48_79 oo_48 pF_4_57 (by decide) (hS.k rfl) rfl ?_
  refine e_bipush d_48_82 cb_35 rfl ?_
  refine e_icmp_ne (t := 102) d_48_84 (by decide) rfl (fun hc => ?_) (fun hc => ?_)
  · replace H := H.2 hc
    exact H
  · replace H := H.1 hc
    refine e_iload_n d_48_87 rfl rfl ?_
    refine e_bipush d_48_88 cb_62 rfl ?_
    refine e_icmp_ne (t := 102) d_48_90 (by decide) rfl (fun hc => ?_) (fun hc => ?_)
    · replace H := H.2 hc
      exact H
    · replace H := H.1 hc
      refine e_aload_n d_48_93 rfl rfl ?_
      refine e_bipush d_48_94 cb_42 rfl ?_
      refine e_putI d_48_96 oo_48 pF_4_57 (Or.inl rfl) (hS.k rfl) rfl ?_
      refine e_goto (t := 127) d_48_99 (by decide) ?_
      refine e_aload_n d_48_127 rfl rfl ?_
      refine e_dup d_48_128 rfl rfl ?_
      refine e_getI d_48_129 oo_48 pF_4_42 (by decide) (hS.uI.k rfl) rfl ?_
      refine e_iconst d_48_132 ci_1 rfl ?_
      refine e_iadd d_48_133 rfl ?_
      refine e_putI d_48_134 oo_48 pF_4_42 (Or.inl rfl) (hS.uI.k rfl) rfl ?_
      generalize hm2 : uI (uI σ 1 6 42) 1 5 ((mI (uI σ 1 6 42) 1 5) + 1) = σ1
      have hS3 : Sg t σ1 := by rw [← hm2]; exact hS.uI.uI
      replace H := H σ1 hm2.symm
      subst H
      exact e_vret d_48_137 rr_48
theorem b_48_102 {t : Nat} {σ : Mm} {w : Option Value × Mm} {x1 : Int32} {x2 : Int32} {x3 : Int32} (hS : Sg t σ) 
    (H : ((mI σ 1 6) = 37 → ((x2 = 61 → (∀ (σ1 : Mm), σ1 = uI (uI σ 1 6 43) 1 5 ((mI (uI σ 1 6 43) 1 5) + 1) → (w = (none, σ1)))) ∧ (¬ (x2 = 61) → (w = (none, σ))))) ∧ (¬ ((mI σ 1 6) = 37) → (w = (none, σ)))) :
    Ev 48 102 [.ref 1, .int x1, .int x2, .int x3] [] σ w := by
  refine e_aload_n d_48_102 rfl rfl ?_
  refine e_getI d_48_103 oo_48 pF_4_57 (by decide) (hS.k rfl) rfl ?_
  refine e_bipush d_48_106 cb_37 rfl ?_
  refine e_icmp_ne (t := 126) d_48_108 (by decide) rfl (fun hc => ?_) (fun hc => ?_)
  · replace H := H.2 hc
    subst H
    exact e_vret d_48_126 rr_48
  · replace H := H.1 hc
    refine e_iload_n d_48_111 rfl rfl ?_
    refine e_bipush d_48_112 cb_61 rfl ?_
    refine e_icmp_ne (t := 126) d_48_114 (by decide) rfl (fun hc => ?_) (fun hc => ?_)
    · replace H := H.2 hc
      subst H
      exact e_vret d_48_126 rr_48
    · replace H := H.1 hc
      refine e_aload_n d_48_117 rfl rfl ?_
      refine e_bipush d_48_118 cb_43 rfl ?_
      refine e_putI d_48_120 oo_48 pF_4_57 (Or.inl rfl) (hS.k rfl) rfl ?_
      refine e_goto (t := 127) d_48_123 (by decide) ?_
      refine e_aload_n d_48_127 rfl rfl ?_
      refine e_dup d_48_128 rfl rfl ?_
      refine e_getI d_48_129 oo_48 pF_4_42 (by decide) (hS.uI.k rfl) rfl ?_
      refine e_iconst d_48_132 ci_1 rfl ?_
      refine e_iadd d_48_133 rfl ?_
      refine e_putI d_48_134 oo_48 pF_4_42 (Or.inl rfl) (hS.uI.k rfl) rfl ?_
      generalize hm2 : uI (uI σ 1 6 43) 1 5 ((mI (uI σ 1 6 43) 1 5) + 1) = σ1
      have hS3 : Sg t σ1 := by rw [← hm2]; exact hS.uI.uI
      replace H := H σ1 hm2.symm
      subst H
      exact e_vret d_48_137 rr_48
/-! X4_wants -/
theorem b_49_0 {t : Nat} {σ : Mm} {w : Option Value × Mm} {x1 : Int32} (hS : Sg t σ) 
    (H : ∃ (σ1 : Mm), Cl 44 [.ref 1] σ (none, σ1) ∧ Sg t σ1 ∧ (((mI σ1 1 6) = x1 → (w = (some (.int 1), σ1))) ∧ (¬ ((mI σ1 1 6) = x1) → (∃ (v6 : Int32) (σ4 : Mm), Cl 40 [.ref 1, .int 1] σ1 (some (.int v6), σ4) ∧ Sg t σ4 ∧ ((v6 = 0 → (w = (some (.int 0), σ4))) ∧ (¬ (v6 = 0) → (w = (some (.int 1), σ4)))))))) :
    Ev 49 0 [.ref 1, .int x1] [] σ w := by
  refine e_aload_n d_49_0 rfl rfl ?_
  obtain ⟨σ1, hcl, hS2, H⟩ := H
  refine e_vcall (w1 := (none, σ1)) d_49_1 kc_49_1 rfl ⟨Nat.le_of_ble_eq_true rfl, xx_49.symm⟩ rfl hcl ?_
  show Ev 49 4 [.ref 1, .int x1] [] σ1 w
  refine e_aload_n d_49_4 rfl rfl ?_
  refine e_getI d_49_5 oo_49 pF_4_57 (by decide) (hS2.k rfl) rfl ?_
  refine e_iload_n d_49_8 rfl rfl ?_
  refine e_icmp_eq (t := 20) d_49_9 (by decide) rfl (fun hc => ?_) (fun hc => ?_)
  · replace H := H.1 hc
    refine e_iconst d_49_20 ci_1 rfl ?_
    refine e_goto (t := 25) d_49_21 (by decide) ?_
    subst H
    exact e_zret d_49_25 rr_49 (Or.inr rfl)
  · replace H := H.2 hc
    refine e_aload_n d_49_12 rfl rfl ?_
    refine e_iconst d_49_13 ci_1 rfl ?_
    obtain ⟨v6, σ4, hcl, hS5, H⟩ := H
    refine e_vcall (w1 := (some (.int v6), σ4)) d_49_14 kc_49_14 rfl ⟨Nat.le_of_ble_eq_true rfl, xx_49.symm⟩ rfl hcl ?_
    show Ev 49 17 [.ref 1, .int x1] [.int v6] σ4 w
    refine e_if_eq (t := 24) d_49_17 (by decide) rfl (fun hc => ?_) (fun hc => ?_)
    · replace H := H.1 hc
      refine e_iconst d_49_24 ci_0 rfl ?_
      subst H
      exact e_zret d_49_25 rr_49 (Or.inl rfl)
    · replace H := H.2 hc
      refine e_iconst d_49_20 ci_1 rfl ?_
      refine e_goto (t := 25) d_49_21 (by decide) ?_
      subst H
      exact e_zret d_49_25 rr_49 (Or.inr rfl)
/-! X4_wantsNumber -/
theorem b_50_0 {t : Nat} {σ : Mm} {w : Option Value × Mm} {x1 : Int32} (hS : Sg t σ) 
    (H : ∃ (σ1 : Mm), Cl 44 [.ref 1] σ (none, σ1) ∧ Sg t σ1 ∧ (((mI σ1 1 6) = 2 → ((x1 < (mI σ1 1 8) → (∃ (v6 : Int32) (σ4 : Mm), Cl 40 [.ref 1, .int 2] σ1 (some (.int v6), σ4) ∧ Sg t σ4 ∧ ((v6 = 0 → (w = (some (.int 0), σ4))) ∧ (¬ (v6 = 0) → (w = (some (.int 1), σ4)))))) ∧ (¬ (x1 < (mI σ1 1 8)) → (w = (some (.int 1), σ1))))) ∧ (¬ ((mI σ1 1 6) = 2) → (∃ (v9 : Int32) (σ7 : Mm), Cl 40 [.ref 1, .int 1] σ1 (some (.int v9), σ7) ∧ Sg t σ7 ∧ ((v9 = 0 ∨ v9 = 1) ∧ w = (some (.int v9), σ7)))))) :
    Ev 50 0 [.ref 1, .int x1] [] σ w := by
  refine e_aload_n d_50_0 rfl rfl ?_
  obtain ⟨σ1, hcl, hS2, H⟩ := H
  refine e_vcall (w1 := (none, σ1)) d_50_1 kc_50_1 rfl ⟨Nat.le_of_ble_eq_true rfl, xx_50.symm⟩ rfl hcl ?_
  show Ev 50 4 [.ref 1, .int x1] [] σ1 w
  refine e_aload_n d_50_4 rfl rfl ?_
  refine e_getI d_50_5 oo_50 pF_4_57 (by decide) (hS2.k rfl) rfl ?_
  refine e_iconst d_50_8 ci_2 rfl ?_
  refine e_icmp_eq (t := 18) d_50_9 (by decide) rfl (fun hc => ?_) (fun hc => ?_)
  · replace H := H.1 hc
    refine e_aload_n d_50_18 rfl rfl ?_
    refine e_getI d_50_19 oo_50 pF_4_67 (by decide) (hS2.k rfl) rfl ?_
    refine e_iload_n d_50_22 rfl rfl ?_
    refine e_icmp_le (t := 34) d_50_23 (by decide) rfl (fun hc => ?_) (fun hc => ?_)
    · replace H := H.2 hc
      refine e_iconst d_50_34 ci_1 rfl ?_
      refine e_goto (t := 39) d_50_35 (by decide) ?_
      subst H
      exact e_zret d_50_39 rr_50 (Or.inr rfl)
    · replace H := H.1 hc
      refine e_aload_n d_50_26 rfl rfl ?_
      refine e_iconst d_50_27 ci_2 rfl ?_
      obtain ⟨v6, σ4, hcl, hS5, H⟩ := H
      refine e_vcall (w1 := (some (.int v6), σ4)) d_50_28 kc_50_28 rfl ⟨Nat.le_of_ble_eq_true rfl, xx_50.symm⟩ rfl hcl ?_
      show Ev 50 31 [.ref 1, .int x1] [.int v6] σ4 w
      refine e_if_eq (t := 38) d_50_31 (by decide) rfl (fun hc => ?_) (fun hc => ?_)
      · replace H := H.1 hc
        refine e_iconst d_50_38 ci_0 rfl ?_
        subst H
        exact e_zret d_50_39 rr_50 (Or.inl rfl)
      · replace H := H.2 hc
        refine e_iconst d_50_34 ci_1 rfl ?_
        refine e_goto (t := 39) d_50_35 (by decide) ?_
        subst H
        exact e_zret d_50_39 rr_50 (Or.inr rfl)
  · replace H := H.2 hc
    refine e_aload_n d_50_12 rfl rfl ?_
    refine e_iconst d_50_13 ci_1 rfl ?_
    obtain ⟨v9, σ7, hcl, hS8, H⟩ := H
    refine e_vcall (w1 := (some (.int v9), σ7)) d_50_14 kc_50_14 rfl ⟨Nat.le_of_ble_eq_true rfl, xx_50.symm⟩ rfl hcl ?_
    show Ev 50 17 [.ref 1, .int x1] [.int v9] σ7 w
    obtain ⟨hz, H⟩ := H
    subst H
    exact e_zret d_50_17 rr_50 hz
/-! X4_readLine -/
theorem b_51_0 {t : Nat} {σ : Mm} {w : Option Value × Mm}  (hS : Sg t σ) 
    (H : ((mI σ 1 6) = 10 → (∃ (v9 : Int32) (σ7 : Mm), Cl 52 [.ref 1] σ (some (.int v9), σ7) ∧ Sg t σ7 ∧ ((v9 = 0 → (w = (some (.int 0), σ7))) ∧ (¬ (v9 = 0) → (∃ (v12 : Int32) (σ10 : Mm), Cl 49 [.ref 1, .int 40] σ7 (some (.int v12), σ10) ∧ Sg t σ10 ∧ ((v12 = 0 → (w = (some (.int 0), σ10))) ∧ (¬ (v12 = 0) → (w = (some (.int 1), σ10))))))))) ∧ ((mI σ 1 6) = 11 → (∃ (v15 : Int32) (σ13 : Mm), Cl 53 [.ref 1] σ (some (.int v15), σ13) ∧ Sg t σ13 ∧ ((v15 = 0 → Ev 51 88 [.ref 1, .retAddr 0] [.int 0] σ13 w) ∧ (¬ (v15 = 0) → (∃ (v18 : Int32) (σ16 : Mm), Cl 54 [.ref 1, .int ((mI σ13 (18 - t) 1) - 1)] σ13 (some (.int v18), σ16) ∧ Sg t σ16 ∧ ((v18 = 0 → Ev 51 88 [.ref 1, .retAddr 0] [.int 0] σ16 w) ∧ (¬ (v18 = 0) → Ev 51 88 [.ref 1, .retAddr 0] [.int 1] σ16 w))))))) ∧ ((mI σ 1 6) = 12 → (∃ (v21 : Int32) (σ19 : Mm), Cl 55 [.ref 1] σ (some (.int v21), σ19) ∧ Sg t σ19 ∧ ((v21 = 0 → (w = (some (.int 0), σ19))) ∧ (¬ (v21 = 0) → (∃ (v24 : Int32) (σ22 : Mm), Cl 49 [.ref 1, .int 40] σ19 (some (.int v24), σ22) ∧ Sg t σ22 ∧ ((v24 = 0 → (w = (some (.int 0), σ22))) ∧ (¬ (v24 = 0) → (w = (some (.int 1), σ22))))))))) ∧ ((mI σ 1 6) = 13 → (∃ (v27 : Int32) (σ25 : Mm), Cl 56 [.ref 1] σ (some (.int v27), σ25) ∧ Sg t σ25 ∧ ((v27 = 0 → (w = (some (.int 0), σ25))) ∧ (¬ (v27 = 0) → (∃ (v30 : Int32) (σ28 : Mm), Cl 49 [.ref 1, .int 40] σ25 (some (.int v30), σ28) ∧ Sg t σ28 ∧ ((v30 = 0 → (w = (some (.int 0), σ28))) ∧ (¬ (v30 = 0) → (w = (some (.int 1), σ28))))))))) ∧ ((mI σ 1 6) = 14 → (∃ (v33 : Int32) (σ31 : Mm), Cl 57 [.ref 1] σ (some (.int v33), σ31) ∧ Sg t σ31 ∧ ((v33 = 0 → (w = (some (.int 0), σ31))) ∧ (¬ (v33 = 0) → (∃ (v36 : Int32) (σ34 : Mm), Cl 49 [.ref 1, .int 40] σ31 (some (.int v36), σ34) ∧ Sg t σ34 ∧ ((v36 = 0 → (w = (some (.int 0), σ34))) ∧ (¬ (v36 = 0) → (w = (some (.int 1), σ34))))))))) ∧ ((mI σ 1 6) = 15 → (∃ (v39 : Int32) (σ37 : Mm), Cl 58 [.ref 1] σ (some (.int v39), σ37) ∧ Sg t σ37 ∧ ((v39 = 0 → (w = (some (.int 0), σ37))) ∧ (¬ (v39 = 0) → (∃ (v42 : Int32) (σ40 : Mm), Cl 49 [.ref 1, .int 40] σ37 (some (.int v42), σ40) ∧ Sg t σ40 ∧ ((v42 = 0 → (w = (some (.int 0), σ40))) ∧ (¬ (v42 = 0) → (w = (some (.int 1), σ40))))))))) ∧ ((mI σ 1 6) = 16 → (∃ (v45 : Int32) (σ43 : Mm), Cl 59 [.ref 1] σ (some (.int v45), σ43) ∧ Sg t σ43 ∧ ((v45 = 0 → (w = (some (.int 0), σ43))) ∧ (¬ (v45 = 0) → (∃ (v48 : Int32) (σ46 : Mm), Cl 49 [.ref 1, .int 40] σ43 (some (.int v48), σ46) ∧ Sg t σ46 ∧ ((v48 = 0 → (w = (some (.int 0), σ46))) ∧ (¬ (v48 = 0) → (w = (some (.int 1), σ46))))))))) ∧ ((mI σ 1 6) = 17 → (∃ (v51 : Int32) (σ49 : Mm), Cl 60 [.ref 1] σ (some (.int v51), σ49) ∧ Sg t σ49 ∧ ((v51 = 0 → (w = (some (.int 0), σ49))) ∧ (¬ (v51 = 0) → (∃ (v54 : Int32) (σ52 : Mm), Cl 49 [.ref 1, .int 40] σ49 (some (.int v54), σ52) ∧ Sg t σ52 ∧ ((v54 = 0 → (w = (some (.int 0), σ52))) ∧ (¬ (v54 = 0) → (w = (some (.int 1), σ52))))))))) ∧ ((¬ (mI σ 1 6) = 10 ∧ ¬ (mI σ 1 6) = 11 ∧ ¬ (mI σ 1 6) = 12 ∧ ¬ (mI σ 1 6) = 13 ∧ ¬ (mI σ 1 6) = 14 ∧ ¬ (mI σ 1 6) = 15 ∧ ¬ (mI σ 1 6) = 16 ∧ ¬ (mI σ 1 6) = 17) → (∃ (v3 : Int32) (σ1 : Mm), Cl 40 [.ref 1, .int 1] σ (some (.int v3), σ1) ∧ Sg t σ1 ∧ ((v3 = 0 → (w = (some (.int 0), σ1))) ∧ (¬ (v3 = 0) → (∃ (v6 : Int32) (σ4 : Mm), Cl 49 [.ref 1, .int 40] σ1 (some (.int v6), σ4) ∧ Sg t σ4 ∧ ((v6 = 0 → (w = (some (.int 0), σ4))) ∧ (¬ (v6 = 0) → (w = (some (.int 1), σ4)))))))))) :
    Ev 51 0 [.ref 1, .retAddr 0] [] σ w := by
  refine e_aload_n d_51_0 rfl rfl ?_
  refine e_getI d_51_1 oo_51 pF_4_57 (by decide) (hS.k rfl) rfl ?_
  by_cases hs10 : (mI σ 1 6) = 10
  · replace H := H.1 hs10
    refine e_table (off := 48) (t := 52) d_51_4 (by rw [hs10]; decide +kernel) (by decide) ?_
    refine e_aload_n d_51_52 rfl rfl ?_
    obtain ⟨v9, σ7, hcl, hS8, H⟩ := H
    refine e_vcall (w1 := (some (.int v9), σ7)) d_51_53 kc_51_53 rfl ⟨Nat.le_of_ble_eq_true rfl, xx_51.symm⟩ rfl hcl ?_
    show Ev 51 56 [.ref 1, .retAddr 0] [.int v9] σ7 w
    refine e_istore_n (ls2 := [.ref 1, .int v9]) d_51_56 rfl rfl rfl ?_
    refine e_goto (t := 146) d_51_57 (by decide) ?_
    refine e_iload_n d_51_146 rfl rfl ?_
    refine e_if_eq (t := 163) d_51_147 (by decide) rfl (fun hc => ?_) (fun hc => ?_)
    · replace H := H.1 hc
      refine e_iconst d_51_163 ci_0 rfl ?_
      subst H
      exact e_zret d_51_164 rr_51 (Or.inl rfl)
    · replace H := H.2 hc
      refine e_aload_n d_51_150 rfl rfl ?_
      refine e_bipush d_51_151 cb_40 rfl ?_
      obtain ⟨v12, σ10, hcl, hS11, H⟩ := H
      refine e_vcall (w1 := (some (.int v12), σ10)) d_51_153 kc_51_153 rfl ⟨Nat.le_of_ble_eq_true rfl, xx_51.symm⟩ rfl hcl ?_
      show Ev 51 156 [.ref 1, .int v9] [.int v12] σ10 w
      refine e_if_eq (t := 163) d_51_156 (by decide) rfl (fun hc => ?_) (fun hc => ?_)
      · replace H := H.1 hc
        refine e_iconst d_51_163 ci_0 rfl ?_
        subst H
        exact e_zret d_51_164 rr_51 (Or.inl rfl)
      · replace H := H.2 hc
        refine e_iconst d_51_159 ci_1 rfl ?_
        refine e_goto (t := 164) d_51_160 (by decide) ?_
        subst H
        exact e_zret d_51_164 rr_51 (Or.inr rfl)
  by_cases hs11 : (mI σ 1 6) = 11
  · replace H := H.2.1 hs11
    refine e_table (off := 56) (t := 60) d_51_4 (by rw [hs11]; decide +kernel) (by decide) ?_
    refine e_aload_n d_51_60 rfl rfl ?_
    obtain ⟨v15, σ13, hcl, hS14, H⟩ := H
    refine e_vcall (w1 := (some (.int v15), σ13)) d_51_61 kc_51_61 rfl ⟨Nat.le_of_ble_eq_true rfl, xx_51.symm⟩ rfl hcl ?_
    show Ev 51 64 [.ref 1, .retAddr 0] [.int v15] σ13 w
    refine e_if_eq (t := 87) d_51_64 (by decide) rfl (fun hc => ?_) (fun hc => ?_)
    · replace H := H.1 hc
      refine e_iconst d_51_87 ci_0 rfl ?_
      exact H
    · replace H := H.2 hc
      refine e_aload_n d_51_67 rfl rfl ?_
      refine e_aload_n d_51_68 rfl rfl ?_
      refine e_getR d_51_69 oo_51 pF_4_18 (by decide) (hS14.k rfl) hS14.into rfl ?_
      refine e_getI d_51_72 oo_51 pF_4_116 (by decide) (hS14.k (kT hS.ti)) rfl ?_
      refine e_iconst d_51_75 ci_1 rfl ?_
      refine e_isub d_51_76 rfl ?_
      obtain ⟨v18, σ16, hcl, hS17, H⟩ := H
      refine e_vcall (w1 := (some (.int v18), σ16)) d_51_77 kc_51_77 rfl ⟨Nat.le_of_ble_eq_true rfl, xx_51.symm⟩ rfl hcl ?_
      show Ev 51 80 [.ref 1, .retAddr 0] [.int v18] σ16 w
      refine e_if_eq (t := 87) d_51_80 (by decide) rfl (fun hc => ?_) (fun hc => ?_)
      · replace H := H.1 hc
        refine e_iconst d_51_87 ci_0 rfl ?_
        exact H
      · replace H := H.2 hc
        refine e_iconst d_51_83 ci_1 rfl ?_
        refine e_goto (t := 88) d_51_84 (by decide) ?_
        exact H
  by_cases hs12 : (mI σ 1 6) = 12
  · replace H := H.2.2.1 hs12
    refine e_table (off := 88) (t := 92) d_51_4 (by rw [hs12]; decide +kernel) (by decide) ?_
    refine e_aload_n d_51_92 rfl rfl ?_
    obtain ⟨v21, σ19, hcl, hS20, H⟩ := H
    refine e_vcall (w1 := (some (.int v21), σ19)) d_51_93 kc_51_93 rfl ⟨Nat.le_of_ble_eq_true rfl, xx_51.symm⟩ rfl hcl ?_
    show Ev 51 96 [.ref 1, .retAddr 0] [.int v21] σ19 w
    refine e_istore_n (ls2 := [.ref 1, .int v21]) d_51_96 rfl rfl rfl ?_
    refine e_goto (t := 146) d_51_97 (by decide) ?_
    refine e_iload_n d_51_146 rfl rfl ?_
    refine e_if_eq (t := 163) d_51_147 (by decide) rfl (fun hc => ?_) (fun hc => ?_)
    · replace H := H.1 hc
      refine e_iconst d_51_163 ci_0 rfl ?_
      subst H
      exact e_zret d_51_164 rr_51 (Or.inl rfl)
    · replace H := H.2 hc
      refine e_aload_n d_51_150 rfl rfl ?_
      refine e_bipush d_51_151 cb_40 rfl ?_
      obtain ⟨v24, σ22, hcl, hS23, H⟩ := H
      refine e_vcall (w1 := (some (.int v24), σ22)) d_51_153 kc_51_153 rfl ⟨Nat.le_of_ble_eq_true rfl, xx_51.symm⟩ rfl hcl ?_
      show Ev 51 156 [.ref 1, .int v21] [.int v24] σ22 w
      refine e_if_eq (t := 163) d_51_156 (by decide) rfl (fun hc => ?_) (fun hc => ?_)
      · replace H := H.1 hc
        refine e_iconst d_51_163 ci_0 rfl ?_
        subst H
        exact e_zret d_51_164 rr_51 (Or.inl rfl)
      · replace H := H.2 hc
        refine e_iconst d_51_159 ci_1 rfl ?_
        refine e_goto (t := 164) d_51_160 (by decide) ?_
        subst H
        exact e_zret d_51_164 rr_51 (Or.inr rfl)
  by_cases hs13 : (mI σ 1 6) = 13
  · replace H := H.2.2.2.1 hs13
    refine e_table (off := 96) (t := 100) d_51_4 (by rw [hs13]; decide +kernel) (by decide) ?_
    refine e_aload_n d_51_100 rfl rfl ?_
    obtain ⟨v27, σ25, hcl, hS26, H⟩ := H
    refine e_vcall (w1 := (some (.int v27), σ25)) d_51_101 kc_51_101 rfl ⟨Nat.le_of_ble_eq_true rfl, xx_51.symm⟩ rfl hcl ?_
    show Ev 51 104 [.ref 1, .retAddr 0] [.int v27] σ25 w
    refine e_istore_n (ls2 := [.ref 1, .int v27]) d_51_104 rfl rfl rfl ?_
    refine e_goto (t := 146) d_51_105 (by decide) ?_
    refine e_iload_n d_51_146 rfl rfl ?_
    refine e_if_eq (t := 163) d_51_147 (by decide) rfl (fun hc => ?_) (fun hc => ?_)
    · replace H := H.1 hc
      refine e_iconst d_51_163 ci_0 rfl ?_
      subst H
      exact e_zret d_51_164 rr_51 (Or.inl rfl)
    · replace H := H.2 hc
      refine e_aload_n d_51_150 rfl rfl ?_
      refine e_bipush d_51_151 cb_40 rfl ?_
      obtain ⟨v30, σ28, hcl, hS29, H⟩ := H
      refine e_vcall (w1 := (some (.int v30), σ28)) d_51_153 kc_51_153 rfl ⟨Nat.le_of_ble_eq_true rfl, xx_51.symm⟩ rfl hcl ?_
      show Ev 51 156 [.ref 1, .int v27] [.int v30] σ28 w
      refine e_if_eq (t := 163) d_51_156 (by decide) rfl (fun hc => ?_) (fun hc => ?_)
      · replace H := H.1 hc
        refine e_iconst d_51_163 ci_0 rfl ?_
        subst H
        exact e_zret d_51_164 rr_51 (Or.inl rfl)
      · replace H := H.2 hc
        refine e_iconst d_51_159 ci_1 rfl ?_
        refine e_goto (t := 164) d_51_160 (by decide) ?_
        subst H
        exact e_zret d_51_164 rr_51 (Or.inr rfl)
  by_cases hs14 : (mI σ 1 6) = 14
  · replace H := H.2.2.2.2.1 hs14
    refine e_table (off := 104) (t := 108) d_51_4 (by rw [hs14]; decide +kernel) (by decide) ?_
    refine e_aload_n d_51_108 rfl rfl ?_
    obtain ⟨v33, σ31, hcl, hS32, H⟩ := H
    refine e_vcall (w1 := (some (.int v33), σ31)) d_51_109 kc_51_109 rfl ⟨Nat.le_of_ble_eq_true rfl, xx_51.symm⟩ rfl hcl ?_
    show Ev 51 112 [.ref 1, .retAddr 0] [.int v33] σ31 w
    refine e_istore_n (ls2 := [.ref 1, .int v33]) d_51_112 rfl rfl rfl ?_
    refine e_goto (t := 146) d_51_113 (by decide) ?_
    refine e_iload_n d_51_146 rfl rfl ?_
    refine e_if_eq (t := 163) d_51_147 (by decide) rfl (fun hc => ?_) (fun hc => ?_)
    · replace H := H.1 hc
      refine e_iconst d_51_163 ci_0 rfl ?_
      subst H
      exact e_zret d_51_164 rr_51 (Or.inl rfl)
    · replace H := H.2 hc
      refine e_aload_n d_51_150 rfl rfl ?_
      refine e_bipush d_51_151 cb_40 rfl ?_
      obtain ⟨v36, σ34, hcl, hS35, H⟩ := H
      refine e_vcall (w1 := (some (.int v36), σ34)) d_51_153 kc_51_153 rfl ⟨Nat.le_of_ble_eq_true rfl, xx_51.symm⟩ rfl hcl ?_
      show Ev 51 156 [.ref 1, .int v33] [.int v36] σ34 w
      refine e_if_eq (t := 163) d_51_156 (by decide) rfl (fun hc => ?_) (fun hc => ?_)
      · replace H := H.1 hc
        refine e_iconst d_51_163 ci_0 rfl ?_
        subst H
        exact e_zret d_51_164 rr_51 (Or.inl rfl)
      · replace H := H.2 hc
        refine e_iconst d_51_159 ci_1 rfl ?_
        refine e_goto (t := 164) d_51_160 (by decide) ?_
        subst H
        exact e_zret d_51_164 rr_51 (Or.inr rfl)
  by_cases hs15 : (mI σ 1 6) = 15
  · replace H := H.2.2.2.2.2.1 hs15
    refine e_table (off := 112) (t := 116) d_51_4 (by rw [hs15]; decide +kernel) (by decide) ?_
    refine e_aload_n d_51_116 rfl rfl ?_
    obtain ⟨v39, σ37, hcl, hS38, H⟩ := H
    refine e_vcall (w1 := (some (.int v39), σ37)) d_51_117 kc_51_117 rfl ⟨Nat.le_of_ble_eq_true rfl, xx_51.symm⟩ rfl hcl ?_
    show Ev 51 120 [.ref 1, .retAddr 0] [.int v39] σ37 w
    refine e_istore_n (ls2 := [.ref 1, .int v39]) d_51_120 rfl rfl rfl ?_
    refine e_goto (t := 146) d_51_121 (by decide) ?_
    refine e_iload_n d_51_146 rfl rfl ?_
    refine e_if_eq (t := 163) d_51_147 (by decide) rfl (fun hc => ?_) (fun hc => ?_)
    · replace H := H.1 hc
      refine e_iconst d_51_163 ci_0 rfl ?_
      subst H
      exact e_zret d_51_164 rr_51 (Or.inl rfl)
    · replace H := H.2 hc
      refine e_aload_n d_51_150 rfl rfl ?_
      refine e_bipush d_51_151 cb_40 rfl ?_
      obtain ⟨v42, σ40, hcl, hS41, H⟩ := H
      refine e_vcall (w1 := (some (.int v42), σ40)) d_51_153 kc_51_153 rfl ⟨Nat.le_of_ble_eq_true rfl, xx_51.symm⟩ rfl hcl ?_
      show Ev 51 156 [.ref 1, .int v39] [.int v42] σ40 w
      refine e_if_eq (t := 163) d_51_156 (by decide) rfl (fun hc => ?_) (fun hc => ?_)
      · replace H := H.1 hc
        refine e_iconst d_51_163 ci_0 rfl ?_
        subst H
        exact e_zret d_51_164 rr_51 (Or.inl rfl)
      · replace H := H.2 hc
        refine e_iconst d_51_159 ci_1 rfl ?_
        refine e_goto (t := 164) d_51_160 (by decide) ?_
        subst H
        exact e_zret d_51_164 rr_51 (Or.inr rfl)
  by_cases hs16 : (mI σ 1 6) = 16
  · replace H := H.2.2.2.2.2.2.1 hs16
    refine e_table (off := 120) (t := 124) d_51_4 (by rw [hs16]; decide +kernel) (by decide) ?_
    refine e_aload_n d_51_124 rfl rfl ?_
    obtain ⟨v45, σ43, hcl, hS44, H⟩ := H
    refine e_vcall (w1 := (some (.int v45), σ43)) d_51_125 kc_51_125 rfl ⟨Nat.le_of_ble_eq_true rfl, xx_51.symm⟩ rfl hcl ?_
    show Ev 51 128 [.ref 1, .retAddr 0] [.int v45] σ43 w
    refine e_istore_n (ls2 := [.ref 1, .int v45]) d_51_128 rfl rfl rfl ?_
    refine e_goto (t := 146) d_51_129 (by decide) ?_
    refine e_iload_n d_51_146 rfl rfl ?_
    refine e_if_eq (t := 163) d_51_147 (by decide) rfl (fun hc => ?_) (fun hc => ?_)
    · replace H := H.1 hc
      refine e_iconst d_51_163 ci_0 rfl ?_
      subst H
      exact e_zret d_51_164 rr_51 (Or.inl rfl)
    · replace H := H.2 hc
      refine e_aload_n d_51_150 rfl rfl ?_
      refine e_bipush d_51_151 cb_40 rfl ?_
      obtain ⟨v48, σ46, hcl, hS47, H⟩ := H
      refine e_vcall (w1 := (some (.int v48), σ46)) d_51_153 kc_51_153 rfl ⟨Nat.le_of_ble_eq_true rfl, xx_51.symm⟩ rfl hcl ?_
      show Ev 51 156 [.ref 1, .int v45] [.int v48] σ46 w
      refine e_if_eq (t := 163) d_51_156 (by decide) rfl (fun hc => ?_) (fun hc => ?_)
      · replace H := H.1 hc
        refine e_iconst d_51_163 ci_0 rfl ?_
        subst H
        exact e_zret d_51_164 rr_51 (Or.inl rfl)
      · replace H := H.2 hc
        refine e_iconst d_51_159 ci_1 rfl ?_
        refine e_goto (t := 164) d_51_160 (by decide) ?_
        subst H
        exact e_zret d_51_164 rr_51 (Or.inr rfl)
  by_cases hs17 : (mI σ 1 6) = 17
  · replace H := H.2.2.2.2.2.2.2.1 hs17
    refine e_table (off := 128) (t := 132) d_51_4 (by rw [hs17]; decide +kernel) (by decide) ?_
    refine e_aload_n d_51_132 rfl rfl ?_
    obtain ⟨v51, σ49, hcl, hS50, H⟩ := H
    refine e_vcall (w1 := (some (.int v51), σ49)) d_51_133 kc_51_133 rfl ⟨Nat.le_of_ble_eq_true rfl, xx_51.symm⟩ rfl hcl ?_
    show Ev 51 136 [.ref 1, .retAddr 0] [.int v51] σ49 w
    refine e_istore_n (ls2 := [.ref 1, .int v51]) d_51_136 rfl rfl rfl ?_
    refine e_goto (t := 146) d_51_137 (by decide) ?_
    refine e_iload_n d_51_146 rfl rfl ?_
    refine e_if_eq (t := 163) d_51_147 (by decide) rfl (fun hc => ?_) (fun hc => ?_)
    · replace H := H.1 hc
      refine e_iconst d_51_163 ci_0 rfl ?_
      subst H
      exact e_zret d_51_164 rr_51 (Or.inl rfl)
    · replace H := H.2 hc
      refine e_aload_n d_51_150 rfl rfl ?_
      refine e_bipush d_51_151 cb_40 rfl ?_
      obtain ⟨v54, σ52, hcl, hS53, H⟩ := H
      refine e_vcall (w1 := (some (.int v54), σ52)) d_51_153 kc_51_153 rfl ⟨Nat.le_of_ble_eq_true rfl, xx_51.symm⟩ rfl hcl ?_
      show Ev 51 156 [.ref 1, .int v51] [.int v54] σ52 w
      refine e_if_eq (t := 163) d_51_156 (by decide) rfl (fun hc => ?_) (fun hc => ?_)
      · replace H := H.1 hc
        refine e_iconst d_51_163 ci_0 rfl ?_
        subst H
        exact e_zret d_51_164 rr_51 (Or.inl rfl)
      · replace H := H.2 hc
        refine e_iconst d_51_159 ci_1 rfl ?_
        refine e_goto (t := 164) d_51_160 (by decide) ?_
        subst H
        exact e_zret d_51_164 rr_51 (Or.inr rfl)
  replace H := H.2.2.2.2.2.2.2.2 ⟨hs10, hs11, hs12, hs13, hs14, hs15, hs16, hs17⟩
  refine e_table (off := 136) (t := 140) d_51_4 (sw_51_4 hs10 hs11 hs12 hs13 hs14 hs15 hs16 hs17) (by decide) ?_
  refine e_aload_n d_51_140 rfl rfl ?_
  refine e_iconst d_51_141 ci_1 rfl ?_
  obtain ⟨v3, σ1, hcl, hS2, H⟩ := H
  refine e_vcall (w1 := (some (.int v3), σ1)) d_51_142 kc_51_142 rfl ⟨Nat.le_of_ble_eq_true rfl, xx_51.symm⟩ rfl hcl ?_
  show Ev 51 145 [.ref 1, .retAddr 0] [.int v3] σ1 w
  refine e_istore_n (ls2 := [.ref 1, .int v3]) d_51_145 rfl rfl rfl ?_
  refine e_iload_n d_51_146 rfl rfl ?_
  refine e_if_eq (t := 163) d_51_147 (by decide) rfl (fun hc => ?_) (fun hc => ?_)
  · replace H := H.1 hc
    refine e_iconst d_51_163 ci_0 rfl ?_
    subst H
    exact e_zret d_51_164 rr_51 (Or.inl rfl)
  · replace H := H.2 hc
    refine e_aload_n d_51_150 rfl rfl ?_
    refine e_bipush d_51_151 cb_40 rfl ?_
    obtain ⟨v6, σ4, hcl, hS5, H⟩ := H
    refine e_vcall (w1 := (some (.int v6), σ4)) d_51_153 kc_51_153 rfl ⟨Nat.le_of_ble_eq_true rfl, xx_51.symm⟩ rfl hcl ?_
    show Ev 51 156 [.ref 1, .int v3] [.int v6] σ4 w
    refine e_if_eq (t := 163) d_51_156 (by decide) rfl (fun hc => ?_) (fun hc => ?_)
    · replace H := H.1 hc
      refine e_iconst d_51_163 ci_0 rfl ?_
      subst H
      exact e_zret d_51_164 rr_51 (Or.inl rfl)
    · replace H := H.2 hc
      refine e_iconst d_51_159 ci_1 rfl ?_
      refine e_goto (t := 164) d_51_160 (by decide) ?_
      subst H
      exact e_zret d_51_164 rr_51 (Or.inr rfl)
theorem b_51_88 {t : Nat} {σ : Mm} {w : Option Value × Mm} {z1 : Value} {s0 : Int32} (hS : Sg t σ) 
    (H : (s0 = 0 → (w = (some (.int 0), σ))) ∧ (¬ (s0 = 0) → (∃ (v3 : Int32) (σ1 : Mm), Cl 49 [.ref 1, .int 40] σ (some (.int v3), σ1) ∧ Sg t σ1 ∧ ((v3 = 0 → (w = (some (.int 0), σ1))) ∧ (¬ (v3 = 0) → (w = (some (.int 1), σ1))))))) :
    Ev 51 88 [.ref 1, z1] [.int s0] σ w := by
  refine e_istore_n (ls2 := [.ref 1, .int s0]) d_51_88 rfl rfl rfl ?_
  refine e_goto (t := 146) d_51_89 (by decide) ?_
  refine e_iload_n d_51_146 rfl rfl ?_
  refine e_if_eq (t := 163) d_51_147 (by decide) rfl (fun hc => ?_) (fun hc => ?_)
  · replace H := H.1 hc
    refine e_iconst d_51_163 ci_0 rfl ?_
    subst H
    exact e_zret d_51_164 rr_51 (Or.inl rfl)
  · replace H := H.2 hc
    refine e_aload_n d_51_150 rfl rfl ?_
    refine e_bipush d_51_151 cb_40 rfl ?_
    obtain ⟨v3, σ1, hcl, hS2, H⟩ := H
    refine e_vcall (w1 := (some (.int v3), σ1)) d_51_153 kc_51_153 rfl ⟨Nat.le_of_ble_eq_true rfl, xx_51.symm⟩ rfl hcl ?_
    show Ev 51 156 [.ref 1, .int s0] [.int v3] σ1 w
    refine e_if_eq (t := 163) d_51_156 (by decide) rfl (fun hc => ?_) (fun hc => ?_)
    · replace H := H.1 hc
      refine e_iconst d_51_163 ci_0 rfl ?_
      subst H
      exact e_zret d_51_164 rr_51 (Or.inl rfl)
    · replace H := H.2 hc
      refine e_iconst d_51_159 ci_1 rfl ?_
      refine e_goto (t := 164) d_51_160 (by decide) ?_
      subst H
      exact e_zret d_51_164 rr_51 (Or.inr rfl)
/-! X4_readLamp -/
theorem b_52_0 {t : Nat} {σ : Mm} {w : Option Value × Mm}  (hS : Sg t σ) 
    (H : ((mI σ (18 - t) 0) < 14 → (∃ (v3 : Int32) (σ1 : Mm), Cl 49 [.ref 1, .int 3] σ (some (.int v3), σ1) ∧ Sg t σ1 ∧ ((v3 = 0 → (w = (some (.int 0), σ1))) ∧ (¬ (v3 = 0) → (∃ (v6 : Int32) (σ4 : Mm), Cl 89 [.ref (18 - t), .int (mI σ1 1 8)] σ1 (some (.int v6), σ4) ∧ Sg t σ4 ∧ ((v6 = (-1) → (inb (mI σ (18 - t) 0) 14 = true ∧ (∀ (σ7 : Mm), σ7 = uI σ4 ((18 - t) + 1) (mI σ (18 - t) 0).toNatClampNeg (mI σ4 1 8) → (∀ (σ10 : Mm), σ10 = uI σ7 (18 - t) 0 ((mI σ7 (18 - t) 0) + 1) → (w = (some (.int 1), σ10)))))) ∧ (¬ (v6 = (-1)) → (∃ (v15 : Int32) (σ13 : Mm), Cl 40 [.ref 1, .int 3] σ4 (some (.int v15), σ13) ∧ Sg t σ13 ∧ ((v15 = 0 ∨ v15 = 1) ∧ w = (some (.int v15), σ13)))))))))) ∧ (¬ ((mI σ (18 - t) 0) < 14) → (∃ (v18 : Int32) (σ16 : Mm), Cl 40 [.ref 1, .int 2] σ (some (.int v18), σ16) ∧ Sg t σ16 ∧ ((v18 = 0 ∨ v18 = 1) ∧ w = (some (.int v18), σ16))))) :
    Ev 52 0 [.ref 1, .retAddr 0] [] σ w := by
  refine e_aload_n d_52_0 rfl rfl ?_
  refine e_getR d_52_1 oo_52 pF_4_18 (by decide) (hS.k rfl) hS.into rfl ?_
  refine e_getI d_52_4 oo_52 pF_4_143 (by decide) (hS.k (kT hS.ti)) rfl ?_
  refine e_istore_n (ls2 := [.ref 1, .int (mI σ (18 - t) 0)]) d_52_7 rfl rfl rfl ?_
  refine e_iload_n d_52_8 rfl rfl ?_
  refine e_bipush d_52_9 cb_14 rfl ?_
  refine e_icmp_lt (t := 20) d_52_11 (by decide) rfl (fun hc => ?_) (fun hc => ?_)
  · replace H := H.1 hc
    refine e_aload_n d_52_20 rfl rfl ?_
    refine e_iconst d_52_21 ci_3 rfl ?_
    obtain ⟨v3, σ1, hcl, hS2, H⟩ := H
    refine e_vcall (w1 := (some (.int v3), σ1)) d_52_22 kc_52_22 rfl ⟨Nat.le_of_ble_eq_true rfl, xx_52.symm⟩ rfl hcl ?_
    show Ev 52 25 [.ref 1, .int (mI σ (18 - t) 0)] [.int v3] σ1 w
    refine e_if_ne (t := 30) d_52_25 (by decide) rfl (fun hc => ?_) (fun hc => ?_)
    · replace H := H.2 hc
      refine e_aload_n d_52_30 rfl rfl ?_
      refine e_getR d_52_31 oo_52 pF_4_18 (by decide) (hS2.k rfl) hS2.into rfl ?_
      refine e_aload_n d_52_34 rfl rfl ?_
      refine e_getI d_52_35 oo_52 pF_4_67 (by decide) (hS2.k rfl) rfl ?_
      obtain ⟨v6, σ4, hcl, hS5, H⟩ := H
      refine e_vcall (w1 := (some (.int v6), σ4)) d_52_38 kc_52_38 rfl ⟨Nat.le_of_ble_eq_true rfl, xx_52.symm⟩ rfl hcl ?_
      show Ev 52 41 [.ref 1, .int (mI σ (18 - t) 0)] [.int v6] σ4 w
      refine e_iconst d_52_41 ci_m1 rfl ?_
      refine e_icmp_eq (t := 51) d_52_42 (by decide) rfl (fun hc => ?_) (fun hc => ?_)
      · replace H := H.1 hc
        refine e_aload_n d_52_51 rfl rfl ?_
        refine e_getR d_52_52 oo_52 pF_4_18 (by decide) (hS5.k rfl) hS5.into rfl ?_
        refine e_getR d_52_55 oo_52 pF_4_149 (by decide) (hS5.k (kT hS.ti)) (hS5.rT8 hS.ti) rfl ?_
        refine e_iload_n d_52_58 rfl rfl ?_
        refine e_aload_n d_52_59 rfl rfl ?_
        refine e_getI d_52_60 oo_52 pF_4_67 (by decide) (hS5.k rfl) rfl ?_
        obtain ⟨hb, H⟩ := H
        refine e_iastore d_52_63 (okI_at (hS5.k (kT1 hS.ti)) hb) rfl ?_
        generalize hm8 : uI σ4 ((18 - t) + 1) (mI σ (18 - t) 0).toNatClampNeg (mI σ4 1 8) = σ7
        have hS9 : Sg t σ7 := by rw [← hm8]; exact hS5.uI
        replace H := H σ7 hm8.symm
        refine e_aload_n d_52_64 rfl rfl ?_
        refine e_getR d_52_65 oo_52 pF_4_18 (by decide) (hS9.k rfl) hS9.into rfl ?_
        refine e_dup d_52_68 rfl rfl ?_
        refine e_getI d_52_69 oo_52 pF_4_143 (by decide) (hS9.k (kT hS.ti)) rfl ?_
        refine e_iconst d_52_72 ci_1 rfl ?_
        refine e_iadd d_52_73 rfl ?_
        refine e_putI d_52_74 oo_52 pF_4_143 (Or.inl rfl) (hS9.k (kT hS.ti)) rfl ?_
        generalize hm11 : uI σ7 (18 - t) 0 ((mI σ7 (18 - t) 0) + 1) = σ10
        have hS12 : Sg t σ10 := by rw [← hm11]; exact hS9.uI
        replace H := H σ10 hm11.symm
        refine e_iconst d_52_77 ci_1 rfl ?_
        subst H
        exact e_zret d_52_78 rr_52 (Or.inr rfl)
      · replace H := H.2 hc
        refine e_aload_n d_52_45 rfl rfl ?_
        refine e_iconst d_52_46 ci_3 rfl ?_
        obtain ⟨v15, σ13, hcl, hS14, H⟩ := H
        refine e_vcall (w1 := (some (.int v15), σ13)) d_52_47 kc_52_47 rfl ⟨Nat.le_of_ble_eq_true rfl, xx_52.symm⟩ rfl hcl ?_
        show Ev 52 50 [.ref 1, .int (mI σ (18 - t) 0)] [.int v15] σ13 w
        obtain ⟨hz, H⟩ := H
        subst H
        exact e_zret d_52_50 rr_52 hz
    · replace H := H.1 hc
      refine e_iconst d_52_28 ci_0 rfl ?_
      subst H
      exact e_zret d_52_29 rr_52 (Or.inl rfl)
  · replace H := H.2 hc
    refine e_aload_n d_52_14 rfl rfl ?_
    refine e_iconst d_52_15 ci_2 rfl ?_
    obtain ⟨v18, σ16, hcl, hS17, H⟩ := H
    refine e_vcall (w1 := (some (.int v18), σ16)) d_52_16 kc_52_16 rfl ⟨Nat.le_of_ble_eq_true rfl, xx_52.symm⟩ rfl hcl ?_
    show Ev 52 19 [.ref 1, .int (mI σ (18 - t) 0)] [.int v18] σ16 w
    obtain ⟨hz, H⟩ := H
    subst H
    exact e_zret d_52_19 rr_52 hz
/-! X4_readPull -/
theorem b_53_0 {t : Nat} {σ : Mm} {w : Option Value × Mm}  (hS : Sg t σ) 
    (H : ((mI σ (18 - t) 1) < 10 → (∃ (v3 : Int32) (σ1 : Mm), Cl 49 [.ref 1, .int 3] σ (some (.int v3), σ1) ∧ Sg t σ1 ∧ ((v3 = 0 → (w = (some (.int 0), σ1))) ∧ (¬ (v3 = 0) → (∃ (v6 : Int32) (σ4 : Mm), Cl 90 [.ref (18 - t), .int (mI σ1 1 8)] σ1 (some (.int v6), σ4) ∧ Sg t σ4 ∧ ((v6 = (-1) → (inb (mI σ (18 - t) 1) 10 = true ∧ (∀ (σ7 : Mm), σ7 = uI σ4 ((18 - t) + 2) (mI σ (18 - t) 1).toNatClampNeg (mI σ4 1 8) → (∃ (v12 : Int32) (σ10 : Mm), Cl 50 [.ref 1, .int 99] σ7 (some (.int v12), σ10) ∧ Sg t σ10 ∧ ((v12 = 0 → (w = (some (.int 0), σ10))) ∧ (¬ (v12 = 0) → (inb (mI σ (18 - t) 1) 10 = true ∧ (∀ (σ13 : Mm), σ13 = uI σ10 ((18 - t) + 3) (mI σ (18 - t) 1).toNatClampNeg (mI σ10 1 8) → (inb (mI σ (18 - t) 1) 10 = true ∧ (∀ (σ16 : Mm), σ16 = uI σ13 ((18 - t) + 4) (mI σ (18 - t) 1).toNatClampNeg 0 → Ev 53 98 [.ref 1, .int (mI σ (18 - t) 1)] [] σ16 w)))))))))) ∧ (¬ (v6 = (-1)) → (∃ (v21 : Int32) (σ19 : Mm), Cl 40 [.ref 1, .int 3] σ4 (some (.int v21), σ19) ∧ Sg t σ19 ∧ ((v21 = 0 ∨ v21 = 1) ∧ w = (some (.int v21), σ19)))))))))) ∧ (¬ ((mI σ (18 - t) 1) < 10) → (∃ (v24 : Int32) (σ22 : Mm), Cl 40 [.ref 1, .int 2] σ (some (.int v24), σ22) ∧ Sg t σ22 ∧ ((v24 = 0 ∨ v24 = 1) ∧ w = (some (.int v24), σ22))))) :
    Ev 53 0 [.ref 1, .retAddr 0] [] σ w := by
  refine e_aload_n d_53_0 rfl rfl ?_
  refine e_getR d_53_1 oo_53 pF_4_18 (by decide) (hS.k rfl) hS.into rfl ?_
  refine e_getI d_53_4 oo_53 pF_4_116 (by decide) (hS.k (kT hS.ti)) rfl ?_
  refine e_istore_n (ls2 := [.ref 1, .int (mI σ (18 - t) 1)]) d_53_7 rfl rfl rfl ?_
  refine e_iload_n d_53_8 rfl rfl ?_
  refine e_bipush d_53_9 cb_10 rfl ?_
  refine e_icmp_lt (t := 20) d_53_11 (by decide) rfl (fun hc => ?_) (fun hc => ?_)
  · replace H := H.1 hc
    refine e_aload_n d_53_20 rfl rfl ?_
    refine e_iconst d_53_21 ci_3 rfl ?_
    obtain ⟨v3, σ1, hcl, hS2, H⟩ := H
    refine e_vcall (w1 := (some (.int v3), σ1)) d_53_22 kc_53_22 rfl ⟨Nat.le_of_ble_eq_true rfl, xx_53.symm⟩ rfl hcl ?_
    show Ev 53 25 [.ref 1, .int (mI σ (18 - t) 1)] [.int v3] σ1 w
    refine e_if_ne (t := 30) d_53_25 (by decide) rfl (fun hc => ?_) (fun hc => ?_)
    · replace H := H.2 hc
      refine e_aload_n d_53_30 rfl rfl ?_
      refine e_getR d_53_31 oo_53 pF_4_18 (by decide) (hS2.k rfl) hS2.into rfl ?_
      refine e_aload_n d_53_34 rfl rfl ?_
      refine e_getI d_53_35 oo_53 pF_4_67 (by decide) (hS2.k rfl) rfl ?_
      obtain ⟨v6, σ4, hcl, hS5, H⟩ := H
      refine e_vcall (w1 := (some (.int v6), σ4)) d_53_38 kc_53_38 rfl ⟨Nat.le_of_ble_eq_true rfl, xx_53.symm⟩ rfl hcl ?_
      show Ev 53 41 [.ref 1, .int (mI σ (18 - t) 1)] [.int v6] σ4 w
      refine e_iconst d_53_41 ci_m1 rfl ?_
      refine e_icmp_eq (t := 51) d_53_42 (by decide) rfl (fun hc => ?_) (fun hc => ?_)
      · replace H := H.1 hc
        refine e_aload_n d_53_51 rfl rfl ?_
        refine e_getR d_53_52 oo_53 pF_4_18 (by decide) (hS5.k rfl) hS5.into rfl ?_
        refine e_getR d_53_55 oo_53 pF_4_155 (by decide) (hS5.k (kT hS.ti)) (hS5.rT9 hS.ti) rfl ?_
        refine e_iload_n d_53_58 rfl rfl ?_
        refine e_aload_n d_53_59 rfl rfl ?_
        refine e_getI d_53_60 oo_53 pF_4_67 (by decide) (hS5.k rfl) rfl ?_
        obtain ⟨hb, H⟩ := H
        refine e_iastore d_53_63 (okI_at (hS5.k (kT2 hS.ti)) hb) rfl ?_
        generalize hm8 : uI σ4 ((18 - t) + 2) (mI σ (18 - t) 1).toNatClampNeg (mI σ4 1 8) = σ7
        have hS9 : Sg t σ7 := by rw [← hm8]; exact hS5.uI
        replace H := H σ7 hm8.symm
        refine e_aload_n d_53_64 rfl rfl ?_
        refine e_bipush d_53_65 cb_99 rfl ?_
        obtain ⟨v12, σ10, hcl, hS11, H⟩ := H
        refine e_vcall (w1 := (some (.int v12), σ10)) d_53_67 kc_53_67 rfl ⟨Nat.le_of_ble_eq_true rfl, xx_53.symm⟩ rfl hcl ?_
        show Ev 53 70 [.ref 1, .int (mI σ (18 - t) 1)] [.int v12] σ10 w
        refine e_if_ne (t := 75) d_53_70 (by decide) rfl (fun hc => ?_) (fun hc => ?_)
        · replace H := H.2 hc
          refine e_aload_n d_53_75 rfl rfl ?_
          refine e_getR d_53_76 oo_53 pF_4_18 (by decide) (hS11.k rfl) hS11.into rfl ?_
          refine e_getR d_53_79 oo_53 pF_4_161 (by decide) (hS11.k (kT hS.ti)) (hS11.rT10 hS.ti) rfl ?_
          refine e_iload_n d_53_82 rfl rfl ?_
          refine e_aload_n d_53_83 rfl rfl ?_
          refine e_getI d_53_84 oo_53 pF_4_67 (by decide) (hS11.k rfl) rfl ?_
          obtain ⟨hb, H⟩ := H
          refine e_iastore d_53_87 (okI_at (hS11.k (kT3 hS.ti)) hb) rfl ?_
          generalize hm14 : uI σ10 ((18 - t) + 3) (mI σ (18 - t) 1).toNatClampNeg (mI σ10 1 8) = σ13
          have hS15 : Sg t σ13 := by rw [← hm14]; exact hS11.uI
          replace H := H σ13 hm14.symm
          refine e_aload_n d_53_88 rfl rfl ?_
          refine e_getR d_53_89 oo_53 pF_4_18 (by decide) (hS15.k rfl) hS15.into rfl ?_
          refine e_getR d_53_92 oo_53 pF_4_164 (by decide) (hS15.k (kT hS.ti)) (hS15.rT11 hS.ti) rfl ?_
          refine e_iload_n d_53_95 rfl rfl ?_
          refine e_iconst d_53_96 ci_0 rfl ?_
          obtain ⟨hb, H⟩ := H
          refine e_iastore d_53_97 (okI_at (hS15.k (kT4 hS.ti)) hb) rfl ?_
          generalize hm17 : uI σ13 ((18 - t) + 4) (mI σ (18 - t) 1).toNatClampNeg 0 = σ16
          have hS18 : Sg t σ16 := by rw [← hm17]; exact hS15.uI
          replace H := H σ16 hm17.symm
          exact H
        · replace H := H.1 hc
          refine e_iconst d_53_73 ci_0 rfl ?_
          subst H
          exact e_zret d_53_74 rr_53 (Or.inl rfl)
      · replace H := H.2 hc
        refine e_aload_n d_53_45 rfl rfl ?_
        refine e_iconst d_53_46 ci_3 rfl ?_
        obtain ⟨v21, σ19, hcl, hS20, H⟩ := H
        refine e_vcall (w1 := (some (.int v21), σ19)) d_53_47 kc_53_47 rfl ⟨Nat.le_of_ble_eq_true rfl, xx_53.symm⟩ rfl hcl ?_
        show Ev 53 50 [.ref 1, .int (mI σ (18 - t) 1)] [.int v21] σ19 w
        obtain ⟨hz, H⟩ := H
        subst H
        exact e_zret d_53_50 rr_53 hz
    · replace H := H.1 hc
      refine e_iconst d_53_28 ci_0 rfl ?_
      subst H
      exact e_zret d_53_29 rr_53 (Or.inl rfl)
  · replace H := H.2 hc
    refine e_aload_n d_53_14 rfl rfl ?_
    refine e_iconst d_53_15 ci_2 rfl ?_
    obtain ⟨v24, σ22, hcl, hS23, H⟩ := H
    refine e_vcall (w1 := (some (.int v24), σ22)) d_53_16 kc_53_16 rfl ⟨Nat.le_of_ble_eq_true rfl, xx_53.symm⟩ rfl hcl ?_
    show Ev 53 19 [.ref 1, .int (mI σ (18 - t) 1)] [.int v24] σ22 w
    obtain ⟨hz, H⟩ := H
    subst H
    exact e_zret d_53_19 rr_53 hz
theorem b_53_98 {t : Nat} {σ : Mm} {w : Option Value × Mm} {x1 : Int32} (hS : Sg t σ) 
    (H : w = (some (.int 1), uI σ (18 - t) 1 ((mI σ (18 - t) 1) + 1))) :
    Ev 53 98 [.ref 1, .int x1] [] σ w := by
  refine e_aload_n d_53_98 rfl rfl ?_
  refine e_getR d_53_99 oo_53 pF_4_18 (by decide) (hS.k rfl) hS.into rfl ?_
  refine e_dup d_53_102 rfl rfl ?_
  refine e_getI d_53_103 oo_53 pF_4_116 (by decide) (hS.k (kT hS.ti)) rfl ?_
  refine e_iconst d_53_106 ci_1 rfl ?_
  refine e_iadd d_53_107 rfl ?_
  refine e_putI d_53_108 oo_53 pF_4_116 (Or.inl rfl) (hS.k (kT hS.ti)) rfl ?_
  refine e_iconst d_53_111 ci_1 rfl ?_
  subst H
  exact e_zret d_53_112 rr_53 (Or.inr rfl)
/-! X4_readTies -/
theorem b_54_0 {t : Nat} {σ : Mm} {w : Option Value × Mm} {x1 : Int32} (hS : Sg t σ) 
    (H : (x1 < 0 → (∃ (v3 : Int32) (σ1 : Mm), Cl 40 [.ref 1, .int 2] σ (some (.int v3), σ1) ∧ Sg t σ1 ∧ ((v3 = 0 ∨ v3 = 1) ∧ w = (some (.int v3), σ1)))) ∧ (¬ (x1 < 0) → ((x1 < 10 → Ev 54 18 [.ref 1, .int x1, .int 0, .retAddr 0, .retAddr 0] [] σ w) ∧ (¬ (x1 < 10) → (∃ (v6 : Int32) (σ4 : Mm), Cl 40 [.ref 1, .int 2] σ (some (.int v6), σ4) ∧ Sg t σ4 ∧ ((v6 = 0 ∨ v6 = 1) ∧ w = (some (.int v6), σ4))))))) :
    Ev 54 0 [.ref 1, .int x1, .retAddr 0, .retAddr 0, .retAddr 0] [] σ w := by
  refine e_iload_n d_54_0 rfl rfl ?_
  refine e_if_lt (t := 10) d_54_1 (by decide) rfl (fun hc => ?_) (fun hc => ?_)
  · replace H := H.1 hc
    refine e_aload_n d_54_10 rfl rfl ?_
    refine e_iconst d_54_11 ci_2 rfl ?_
    obtain ⟨v3, σ1, hcl, hS2, H⟩ := H
    refine e_vcall (w1 := (some (.int v3), σ1)) d_54_12 kc_54_12 rfl ⟨Nat.le_of_ble_eq_true rfl, xx_54.symm⟩ rfl hcl ?_
    show Ev 54 15 [.ref 1, .int x1, .retAddr 0, .retAddr 0, .retAddr 0] [.int v3] σ1 w
    obtain ⟨hz, H⟩ := H
    subst H
    exact e_zret d_54_15 rr_54 hz
  · replace H := H.2 hc
    refine e_iload_n d_54_4 rfl rfl ?_
    refine e_bipush d_54_5 cb_10 rfl ?_
    refine e_icmp_lt (t := 16) d_54_7 (by decide) rfl (fun hc => ?_) (fun hc => ?_)
    · replace H := H.1 hc
      refine e_iconst d_54_16 ci_0 rfl ?_
      refine e_istore_n (ls2 := [.ref 1, .int x1, .int 0, .retAddr 0, .retAddr 0]) d_54_17 rfl rfl rfl ?_
      exact H
    · replace H := H.2 hc
      refine e_aload_n d_54_10 rfl rfl ?_
      refine e_iconst d_54_11 ci_2 rfl ?_
      obtain ⟨v6, σ4, hcl, hS5, H⟩ := H
      refine e_vcall (w1 := (some (.int v6), σ4)) d_54_12 kc_54_12 rfl ⟨Nat.le_of_ble_eq_true rfl, xx_54.symm⟩ rfl hcl ?_
      show Ev 54 15 [.ref 1, .int x1, .retAddr 0, .retAddr 0, .retAddr 0] [.int v6] σ4 w
      obtain ⟨hz, H⟩ := H
      subst H
      exact e_zret d_54_15 rr_54 hz
theorem b_54_18 {t : Nat} {σ : Mm} {w : Option Value × Mm} {x1 : Int32} {x2 : Int32} {z3 : Value} {z4 : Value} (hS : Sg t σ) 
    (H : (14 < x2 → (w = (some (.int 0), σ))) ∧ (¬ (14 < x2) → (∃ (σ1 : Mm), Cl 44 [.ref 1] σ (none, σ1) ∧ Sg t σ1 ∧ (((mI σ1 1 6) = 3 → (∃ (v6 : Int32) (σ4 : Mm), Cl 89 [.ref (18 - t), .int (mI σ1 1 8)] σ1 (some (.int v6), σ4) ∧ Sg t σ4 ∧ ((v6 = (-1) → (∃ (v15 : Int32) (σ13 : Mm), Cl 40 [.ref 1, .int 4] σ4 (some (.int v15), σ13) ∧ Sg t σ13 ∧ ((v15 = 0 ∨ v15 = 1) ∧ w = (some (.int v15), σ13)))) ∧ (¬ (v6 = (-1)) → (inb x1 10 = true ∧ (((((mI σ4 ((18 - t) + 4) x1.toNatClampNeg) >>> (v6 &&& 31)) &&& 1) = 0 → (inb x1 10 = true ∧ (inb x1 10 = true ∧ (∀ (σ7 : Mm), σ7 = uI σ4 ((18 - t) + 4) x1.toNatClampNeg ((mI σ4 ((18 - t) + 4) x1.toNatClampNeg) ||| ((1 : Int32) <<< (v6 &&& 31))) → Ev 54 18 [.ref 1, .int x1, .int (x2 + 1), .int (mI σ 1 5), .int v6] [] σ7 w)))) ∧ (¬ ((((mI σ4 ((18 - t) + 4) x1.toNatClampNeg) >>> (v6 &&& 31)) &&& 1) = 0) → (∃ (v12 : Int32) (σ10 : Mm), Cl 40 [.ref 1, .int 3] σ4 (some (.int v12), σ10) ∧ Sg t σ10 ∧ ((v12 = 0 ∨ v12 = 1) ∧ w = (some (.int v12), σ10)))))))))) ∧ (¬ ((mI σ1 1 6) = 3) → (w = (some (.int 1), uI σ1 1 5 (mI σ 1 5)))))))) :
    Ev 54 18 [.ref 1, .int x1, .int x2, z3, z4] [] σ w := by
  refine e_iload_n d_54_18 rfl rfl ?_
  refine e_bipush d_54_19 cb_14 rfl ?_
  refine e_icmp_gt (t := 118) d_54_21 (by decide) rfl (fun hc => ?_) (fun hc => ?_)
  · replace H := H.1 hc
    refine e_iconst d_54_118 ci_0 rfl ?_
    subst H
    exact e_zret d_54_119 rr_54 (Or.inl rfl)
  · replace H := H.2 hc
    refine e_aload_n d_54_24 rfl rfl ?_
    refine e_getI d_54_25 oo_54 pF_4_42 (by decide) (hS.k rfl) rfl ?_
    refine e_istore_n (ls2 := [.ref 1, .int x1, .int x2, .int (mI σ 1 5), z4]) d_54_28 rfl rfl rfl ?_
    refine e_aload_n d_54_29 rfl rfl ?_
    obtain ⟨σ1, hcl, hS2, H⟩ := H
    refine e_vcall (w1 := (none, σ1)) d_54_30 kc_54_30 rfl ⟨Nat.le_of_ble_eq_true rfl, xx_54.symm⟩ rfl hcl ?_
    show Ev 54 33 [.ref 1, .int x1, .int x2, .int (mI σ 1 5), z4] [] σ1 w
    refine e_aload_n d_54_33 rfl rfl ?_
    refine e_getI d_54_34 oo_54 pF_4_57 (by decide) (hS2.k rfl) rfl ?_
    refine e_iconst d_54_37 ci_3 rfl ?_
    refine e_icmp_eq (t := 48) d_54_38 (by decide) rfl (fun hc => ?_) (fun hc => ?_)
    · replace H := H.1 hc
      refine e_aload_n d_54_48 rfl rfl ?_
      refine e_getR d_54_49 oo_54 pF_4_18 (by decide) (hS2.k rfl) hS2.into rfl ?_
      refine e_aload_n d_54_52 rfl rfl ?_
      refine e_getI d_54_53 oo_54 pF_4_67 (by decide) (hS2.k rfl) rfl ?_
      obtain ⟨v6, σ4, hcl, hS5, H⟩ := H
      refine e_vcall (w1 := (some (.int v6), σ4)) d_54_56 kc_54_56 rfl ⟨Nat.le_of_ble_eq_true rfl, xx_54.symm⟩ rfl hcl ?_
      show Ev 54 59 [.ref 1, .int x1, .int x2, .int (mI σ 1 5), z4] [.int v6] σ4 w
      refine e_istore (ls2 := [.ref 1, .int x1, .int x2, .int (mI σ 1 5), .int v6]) d_54_59 rfl rfl rfl ?_
      refine e_iload d_54_61 rfl rfl ?_
      refine e_iconst d_54_63 ci_m1 rfl ?_
      refine e_icmp_ne (t := 73) d_54_64 (by decide) rfl (fun hc => ?_) (fun hc => ?_)
      · replace H := H.2 hc
        refine e_aload_n d_54_73 rfl rfl ?_
        refine e_getR d_54_74 oo_54 pF_4_18 (by decide) (hS5.k rfl) hS5.into rfl ?_
        refine e_getR d_54_77 oo_54 pF_4_164 (by decide) (hS5.k (kT hS.ti)) (hS5.rT11 hS.ti) rfl ?_
        refine e_iload_n d_54_80 rfl rfl ?_
        obtain ⟨hb, H⟩ := H
        refine e_iaload (v := (mI σ4 ((18 - t) + 4) x1.toNatClampNeg)) d_54_81 (rdI_at (hS5.k (kT4 hS.ti)) hb) rfl ?_
        refine e_iload d_54_82 rfl rfl ?_
        refine e_ishr d_54_84 rfl ?_
        refine e_iconst d_54_85 ci_1 rfl ?_
        refine e_iand d_54_86 rfl ?_
        refine e_if_eq (t := 96) d_54_87 (by decide) rfl (fun hc => ?_) (fun hc => ?_)
        · replace H := H.1 hc
          refine e_aload_n d_54_96 rfl rfl ?_
          refine e_getR d_54_97 oo_54 pF_4_18 (by decide) (hS5.k rfl) hS5.into rfl ?_
          refine e_getR d_54_100 oo_54 pF_4_164 (by decide) (hS5.k (kT hS.ti)) (hS5.rT11 hS.ti) rfl ?_
          refine e_iload_n d_54_103 rfl rfl ?_
          refine e_dup2 d_54_104 rfl rfl ?_
          obtain ⟨hb, H⟩ := H
          refine e_iaload (v := (mI σ4 ((18 - t) + 4) x1.toNatClampNeg)) d_54_105 (rdI_at (hS5.k (kT4 hS.ti)) hb) rfl ?_
          refine e_iconst d_54_106 ci_1 rfl ?_
          refine e_iload d_54_107 rfl rfl ?_
          refine e_ishl d_54_109 rfl ?_
          refine e_ior d_54_110 rfl ?_
          obtain ⟨hb, H⟩ := H
          refine e_iastore d_54_111 (okI_at (hS5.k (kT4 hS.ti)) hb) rfl ?_
          generalize hm8 : uI σ4 ((18 - t) + 4) x1.toNatClampNeg ((mI σ4 ((18 - t) + 4) x1.toNatClampNeg) ||| ((1 : Int32) <<< (v6 &&& 31))) = σ7
          have hS9 : Sg t σ7 := by rw [← hm8]; exact hS5.uI
          replace H := H σ7 hm8.symm
          refine e_iinc (ls2 := [.ref 1, .int x1, .int (x2 + 1), .int (mI σ 1 5), .int v6]) d_54_112 rfl ci_1 rfl rfl rfl ?_
          refine e_goto (t := 18) d_54_115 (by decide) ?_
          exact H
        · replace H := H.2 hc
          refine e_aload_n d_54_90 rfl rfl ?_
          refine e_iconst d_54_91 ci_3 rfl ?_
          obtain ⟨v12, σ10, hcl, hS11, H⟩ := H
          refine e_vcall (w1 := (some (.int v12), σ10)) d_54_92 kc_54_92 rfl ⟨Nat.le_of_ble_eq_true rfl, xx_54.symm⟩ rfl hcl ?_
          show Ev 54 95 [.ref 1, .int x1, .int x2, .int (mI σ 1 5), .int v6] [.int v12] σ10 w
          obtain ⟨hz, H⟩ := H
          subst H
          exact e_zret d_54_95 rr_54 hz
      · replace H := H.1 hc
        refine e_aload_n d_54_67 rfl rfl ?_
        refine e_iconst d_54_68 ci_4 rfl ?_
        obtain ⟨v15, σ13, hcl, hS14, H⟩ := H
        refine e_vcall (w1 := (some (.int v15), σ13)) d_54_69 kc_54_69 rfl ⟨Nat.le_of_ble_eq_true rfl, xx_54.symm⟩ rfl hcl ?_
        show Ev 54 72 [.ref 1, .int x1, .int x2, .int (mI σ 1 5), .int v6] [.int v15] σ13 w
        obtain ⟨hz, H⟩ := H
        subst H
        exact e_zret d_54_72 rr_54 hz
    · replace H := H.2 hc
      refine e_aload_n d_54_41 rfl rfl ?_
      refine e_iload_n d_54_42 rfl rfl ?_
      refine e_putI d_54_43 oo_54 pF_4_42 (Or.inl rfl) (hS2.k rfl) rfl ?_
      refine e_iconst d_54_46 ci_1 rfl ?_
      subst H
      exact e_zret d_54_47 rr_54 (Or.inr rfl)
/-! X4_readLit -/
theorem b_55_0 {t : Nat} {σ : Mm} {w : Option Value × Mm}  (hS : Sg t σ) 
    (H : ∃ (v3 : Int32) (σ1 : Mm), Cl 49 [.ref 1, .int 3] σ (some (.int v3), σ1) ∧ Sg t σ1 ∧ ((v3 = 0 → (w = (some (.int 0), σ1))) ∧ (¬ (v3 = 0) → (∃ (v6 : Int32) (σ4 : Mm), Cl 89 [.ref (18 - t), .int (mI σ1 1 8)] σ1 (some (.int v6), σ4) ∧ Sg t σ4 ∧ ((v6 = (-1) → (∃ (v15 : Int32) (σ13 : Mm), Cl 40 [.ref 1, .int 4] σ4 (some (.int v15), σ13) ∧ Sg t σ13 ∧ ((v15 = 0 ∨ v15 = 1) ∧ w = (some (.int v15), σ13)))) ∧ (¬ (v6 = (-1)) → (((((mI σ4 (18 - t) 2) >>> (v6 &&& 31)) &&& 1) = 0 → (∀ (σ7 : Mm), σ7 = uI σ4 (18 - t) 2 ((mI σ4 (18 - t) 2) ||| ((1 : Int32) <<< (v6 &&& 31))) → (w = (some (.int 1), σ7)))) ∧ (¬ ((((mI σ4 (18 - t) 2) >>> (v6 &&& 31)) &&& 1) = 0) → (∃ (v12 : Int32) (σ10 : Mm), Cl 40 [.ref 1, .int 3] σ4 (some (.int v12), σ10) ∧ Sg t σ10 ∧ ((v12 = 0 ∨ v12 = 1) ∧ w = (some (.int v12), σ10))))))))))) :
    Ev 55 0 [.ref 1, .retAddr 0] [] σ w := by
  refine e_aload_n d_55_0 rfl rfl ?_
  refine e_iconst d_55_1 ci_3 rfl ?_
  obtain ⟨v3, σ1, hcl, hS2, H⟩ := H
  refine e_vcall (w1 := (some (.int v3), σ1)) d_55_2 kc_55_2 rfl ⟨Nat.le_of_ble_eq_true rfl, xx_55.symm⟩ rfl hcl ?_
  show Ev 55 5 [.ref 1, .retAddr 0] [.int v3] σ1 w
  refine e_if_ne (t := 10) d_55_5 (by decide) rfl (fun hc => ?_) (fun hc => ?_)
  · replace H := H.2 hc
    refine e_aload_n d_55_10 rfl rfl ?_
    refine e_getR d_55_11 oo_55 pF_4_18 (by decide) (hS2.k rfl) hS2.into rfl ?_
    refine e_aload_n d_55_14 rfl rfl ?_
    refine e_getI d_55_15 oo_55 pF_4_67 (by decide) (hS2.k rfl) rfl ?_
    obtain ⟨v6, σ4, hcl, hS5, H⟩ := H
    refine e_vcall (w1 := (some (.int v6), σ4)) d_55_18 kc_55_18 rfl ⟨Nat.le_of_ble_eq_true rfl, xx_55.symm⟩ rfl hcl ?_
    show Ev 55 21 [.ref 1, .retAddr 0] [.int v6] σ4 w
    refine e_istore_n (ls2 := [.ref 1, .int v6]) d_55_21 rfl rfl rfl ?_
    refine e_iload_n d_55_22 rfl rfl ?_
    refine e_iconst d_55_23 ci_m1 rfl ?_
    refine e_icmp_ne (t := 33) d_55_24 (by decide) rfl (fun hc => ?_) (fun hc => ?_)
    · replace H := H.2 hc
      refine e_aload_n d_55_33 rfl rfl ?_
      refine e_getR d_55_34 oo_55 pF_4_18 (by decide) (hS5.k rfl) hS5.into rfl ?_
      refine e_getI d_55_37 oo_55 pF_4_167 (by decide) (hS5.k (kT hS.ti)) rfl ?_
      refine e_iload_n d_55_40 rfl rfl ?_
      refine e_ishr d_55_41 rfl ?_
      refine e_iconst d_55_42 ci_1 rfl ?_
      refine e_iand d_55_43 rfl ?_
      refine e_if_eq (t := 53) d_55_44 (by decide) rfl (fun hc => ?_) (fun hc => ?_)
      · replace H := H.1 hc
        refine e_aload_n d_55_53 rfl rfl ?_
        refine e_getR d_55_54 oo_55 pF_4_18 (by decide) (hS5.k rfl) hS5.into rfl ?_
        refine e_dup d_55_57 rfl rfl ?_
        refine e_getI d_55_58 oo_55 pF_4_167 (by decide) (hS5.k (kT hS.ti)) rfl ?_
        refine e_iconst d_55_61 ci_1 rfl ?_
        refine e_iload_n d_55_62 rfl rfl ?_
        refine e_ishl d_55_63 rfl ?_
        refine e_ior d_55_64 rfl ?_
        refine e_putI d_55_65 oo_55 pF_4_167 (Or.inl rfl) (hS5.k (kT hS.ti)) rfl ?_
        generalize hm8 : uI σ4 (18 - t) 2 ((mI σ4 (18 - t) 2) ||| ((1 : Int32) <<< (v6 &&& 31))) = σ7
        have hS9 : Sg t σ7 := by rw [← hm8]; exact hS5.uI
        replace H := H σ7 hm8.symm
        refine e_iconst d_55_68 ci_1 rfl ?_
        subst H
        exact e_zret d_55_69 rr_55 (Or.inr rfl)
      · replace H := H.2 hc
        refine e_aload_n d_55_47 rfl rfl ?_
        refine e_iconst d_55_48 ci_3 rfl ?_
        obtain ⟨v12, σ10, hcl, hS11, H⟩ := H
        refine e_vcall (w1 := (some (.int v12), σ10)) d_55_49 kc_55_49 rfl ⟨Nat.le_of_ble_eq_true rfl, xx_55.symm⟩ rfl hcl ?_
        show Ev 55 52 [.ref 1, .int v6] [.int v12] σ10 w
        obtain ⟨hz, H⟩ := H
        subst H
        exact e_zret d_55_52 rr_55 hz
    · replace H := H.1 hc
      refine e_aload_n d_55_27 rfl rfl ?_
      refine e_iconst d_55_28 ci_4 rfl ?_
      obtain ⟨v15, σ13, hcl, hS14, H⟩ := H
      refine e_vcall (w1 := (some (.int v15), σ13)) d_55_29 kc_55_29 rfl ⟨Nat.le_of_ble_eq_true rfl, xx_55.symm⟩ rfl hcl ?_
      show Ev 55 32 [.ref 1, .int v6] [.int v15] σ13 w
      obtain ⟨hz, H⟩ := H
      subst H
      exact e_zret d_55_32 rr_55 hz
  · replace H := H.1 hc
    refine e_iconst d_55_8 ci_0 rfl ?_
    subst H
    exact e_zret d_55_9 rr_55 (Or.inl rfl)
/-! X4_readRing -/
theorem b_56_0 {t : Nat} {σ : Mm} {w : Option Value × Mm}  (hS : Sg t σ) 
    (H : ((mI σ (18 - t) 3) < 14 → (∃ (v3 : Int32) (σ1 : Mm), Cl 49 [.ref 1, .int 3] σ (some (.int v3), σ1) ∧ Sg t σ1 ∧ ((v3 = 0 → (w = (some (.int 0), σ1))) ∧ (¬ (v3 = 0) → (∃ (v6 : Int32) (σ4 : Mm), Cl 90 [.ref (18 - t), .int (mI σ1 1 8)] σ1 (some (.int v6), σ4) ∧ Sg t σ4 ∧ ((v6 = (-1) → (∃ (v21 : Int32) (σ19 : Mm), Cl 40 [.ref 1, .int 4] σ4 (some (.int v21), σ19) ∧ Sg t σ19 ∧ ((v21 = 0 ∨ v21 = 1) ∧ w = (some (.int v21), σ19)))) ∧ (¬ (v6 = (-1)) → (∃ (v9 : Int32) (σ7 : Mm), Cl 50 [.ref 1, .int 99] σ4 (some (.int v9), σ7) ∧ Sg t σ7 ∧ ((v9 = 0 → (w = (some (.int 0), σ7))) ∧ (¬ (v9 = 0) → (inb (mI σ (18 - t) 3) 14 = true ∧ (∀ (σ10 : Mm), σ10 = uI σ7 ((18 - t) + 5) (mI σ (18 - t) 3).toNatClampNeg v6 → (inb (mI σ (18 - t) 3) 14 = true ∧ (∀ (σ13 : Mm), σ13 = uI σ10 ((18 - t) + 6) (mI σ (18 - t) 3).toNatClampNeg (mI σ10 1 8) → (∀ (σ16 : Mm), σ16 = uI σ13 (18 - t) 3 ((mI σ13 (18 - t) 3) + 1) → (w = (some (.int 1), σ16))))))))))))))))) ∧ (¬ ((mI σ (18 - t) 3) < 14) → (∃ (v24 : Int32) (σ22 : Mm), Cl 40 [.ref 1, .int 2] σ (some (.int v24), σ22) ∧ Sg t σ22 ∧ ((v24 = 0 ∨ v24 = 1) ∧ w = (some (.int v24), σ22))))) :
    Ev 56 0 [.ref 1, .retAddr 0, .retAddr 0] [] σ w := by
  refine e_aload_n d_56_0 rfl rfl ?_
  refine e_getR d_56_1 oo_56 pF_4_18 (by decide) (hS.k rfl) hS.into rfl ?_
  refine e_getI d_56_4 oo_56 pF_4_170 (by decide) (hS.k (kT hS.ti)) rfl ?_
  refine e_istore_n (ls2 := [.ref 1, .int (mI σ (18 - t) 3), .retAddr 0]) d_56_7 rfl rfl rfl ?_
  refine e_iload_n d_56_8 rfl rfl ?_
  refine e_bipush d_56_9 cb_14 rfl ?_
  refine e_icmp_lt (t := 20) d_56_11 (by decide) rfl (fun hc => ?_) (fun hc => ?_)
  · replace H := H.1 hc
    refine e_aload_n d_56_20 rfl rfl ?_
    refine e_iconst d_56_21 ci_3 rfl ?_
    obtain ⟨v3, σ1, hcl, hS2, H⟩ := H
    refine e_vcall (w1 := (some (.int v3), σ1)) d_56_22 kc_56_22 rfl ⟨Nat.le_of_ble_eq_true rfl, xx_56.symm⟩ rfl hcl ?_
    show Ev 56 25 [.ref 1, .int (mI σ (18 - t) 3), .retAddr 0] [.int v3] σ1 w
    refine e_if_ne (t := 30) d_56_25 (by decide) rfl (fun hc => ?_) (fun hc => ?_)
    · replace H := H.2 hc
      refine e_aload_n d_56_30 rfl rfl ?_
      refine e_getR d_56_31 oo_56 pF_4_18 (by decide) (hS2.k rfl) hS2.into rfl ?_
      refine e_aload_n d_56_34 rfl rfl ?_
      refine e_getI d_56_35 oo_56 pF_4_67 (by decide) (hS2.k rfl) rfl ?_
      obtain ⟨v6, σ4, hcl, hS5, H⟩ := H
      refine e_vcall (w1 := (some (.int v6), σ4)) d_56_38 kc_56_38 rfl ⟨Nat.le_of_ble_eq_true rfl, xx_56.symm⟩ rfl hcl ?_
      show Ev 56 41 [.ref 1, .int (mI σ (18 - t) 3), .retAddr 0] [.int v6] σ4 w
      refine e_istore_n (ls2 := [.ref 1, .int (mI σ (18 - t) 3), .int v6]) d_56_41 rfl rfl rfl ?_
      refine e_iload_n d_56_42 rfl rfl ?_
      refine e_iconst d_56_43 ci_m1 rfl ?_
      refine e_icmp_ne (t := 53) d_56_44 (by decide) rfl (fun hc => ?_) (fun hc => ?_)
      · replace H := H.2 hc
        refine e_aload_n d_56_53 rfl rfl ?_
        refine e_bipush d_56_54 cb_99 rfl ?_
        obtain ⟨v9, σ7, hcl, hS8, H⟩ := H
        refine e_vcall (w1 := (some (.int v9), σ7)) d_56_56 kc_56_56 rfl ⟨Nat.le_of_ble_eq_true rfl, xx_56.symm⟩ rfl hcl ?_
        show Ev 56 59 [.ref 1, .int (mI σ (18 - t) 3), .int v6] [.int v9] σ7 w
        refine e_if_ne (t := 64) d_56_59 (by decide) rfl (fun hc => ?_) (fun hc => ?_)
        · replace H := H.2 hc
          refine e_aload_n d_56_64 rfl rfl ?_
          refine e_getR d_56_65 oo_56 pF_4_18 (by decide) (hS8.k rfl) hS8.into rfl ?_
          refine e_getR d_56_68 oo_56 pF_4_173 (by decide) (hS8.k (kT hS.ti)) (hS8.rT12 hS.ti) rfl ?_
          refine e_iload_n d_56_71 rfl rfl ?_
          refine e_iload_n d_56_72 rfl rfl ?_
          obtain ⟨hb, H⟩ := H
          refine e_iastore d_56_73 (okI_at (hS8.k (kT5 hS.ti)) hb) rfl ?_
          generalize hm11 : uI σ7 ((18 - t) + 5) (mI σ (18 - t) 3).toNatClampNeg v6 = σ10
          have hS12 : Sg t σ10 := by rw [← hm11]; exact hS8.uI
          replace H := H σ10 hm11.symm
          refine e_aload_n d_56_74 rfl rfl ?_
          refine e_getR d_56_75 oo_56 pF_4_18 (by decide) (hS12.k rfl) hS12.into rfl ?_
          refine e_getR d_56_78 oo_56 pF_4_176 (by decide) (hS12.k (kT hS.ti)) (hS12.rT13 hS.ti) rfl ?_
          refine e_iload_n d_56_81 rfl rfl ?_
          refine e_aload_n d_56_82 rfl rfl ?_
          refine e_getI d_56_83 oo_56 pF_4_67 (by decide) (hS12.k rfl) rfl ?_
          obtain ⟨hb, H⟩ := H
          refine e_iastore d_56_86 (okI_at (hS12.k (kT6 hS.ti)) hb) rfl ?_
          generalize hm14 : uI σ10 ((18 - t) + 6) (mI σ (18 - t) 3).toNatClampNeg (mI σ10 1 8) = σ13
          have hS15 : Sg t σ13 := by rw [← hm14]; exact hS12.uI
          replace H := H σ13 hm14.symm
          refine e_aload_n d_56_87 rfl rfl ?_
          refine e_getR d_56_88 oo_56 pF_4_18 (by decide) (hS15.k rfl) hS15.into rfl ?_
          refine e_dup d_56_91 rfl rfl ?_
          refine e_getI d_56_92 oo_56 pF_4_170 (by decide) (hS15.k (kT hS.ti)) rfl ?_
          refine e_iconst d_56_95 ci_1 rfl ?_
          refine e_iadd d_56_96 rfl ?_
          refine e_putI d_56_97 oo_56 pF_4_170 (Or.inl rfl) (hS15.k (kT hS.ti)) rfl ?_
          generalize hm17 : uI σ13 (18 - t) 3 ((mI σ13 (18 - t) 3) + 1) = σ16
          have hS18 : Sg t σ16 := by rw [← hm17]; exact hS15.uI
          replace H := H σ16 hm17.symm
          refine e_iconst d_56_100 ci_1 rfl ?_
          subst H
          exact e_zret d_56_101 rr_56 (Or.inr rfl)
        · replace H := H.1 hc
          refine e_iconst d_56_62 ci_0 rfl ?_
          subst H
          exact e_zret d_56_63 rr_56 (Or.inl rfl)
      · replace H := H.1 hc
        refine e_aload_n d_56_47 rfl rfl ?_
        refine e_iconst d_56_48 ci_4 rfl ?_
        obtain ⟨v21, σ19, hcl, hS20, H⟩ := H
        refine e_vcall (w1 := (some (.int v21), σ19)) d_56_49 kc_56_49 rfl ⟨Nat.le_of_ble_eq_true rfl, xx_56.symm⟩ rfl hcl ?_
        show Ev 56 52 [.ref 1, .int (mI σ (18 - t) 3), .int v6] [.int v21] σ19 w
        obtain ⟨hz, H⟩ := H
        subst H
        exact e_zret d_56_52 rr_56 hz
    · replace H := H.1 hc
      refine e_iconst d_56_28 ci_0 rfl ?_
      subst H
      exact e_zret d_56_29 rr_56 (Or.inl rfl)
  · replace H := H.2 hc
    refine e_aload_n d_56_14 rfl rfl ?_
    refine e_iconst d_56_15 ci_2 rfl ?_
    obtain ⟨v24, σ22, hcl, hS23, H⟩ := H
    refine e_vcall (w1 := (some (.int v24), σ22)) d_56_16 kc_56_16 rfl ⟨Nat.le_of_ble_eq_true rfl, xx_56.symm⟩ rfl hcl ?_
    show Ev 56 19 [.ref 1, .int (mI σ (18 - t) 3), .retAddr 0] [.int v24] σ22 w
    obtain ⟨hz, H⟩ := H
    subst H
    exact e_zret d_56_19 rr_56 hz
/-! X4_readMend -/
theorem b_57_0 {t : Nat} {σ : Mm} {w : Option Value × Mm}  (hS : Sg t σ) 
    (H : ((mI σ (18 - t) 4) < 4 → (∃ (v3 : Int32) (σ1 : Mm), Cl 50 [.ref 1, .int 99] σ (some (.int v3), σ1) ∧ Sg t σ1 ∧ ((v3 = 0 → (w = (some (.int 0), σ1))) ∧ (¬ (v3 = 0) → (inb (mI σ (18 - t) 4) 4 = true ∧ (∀ (σ4 : Mm), σ4 = uI σ1 ((18 - t) + 7) (mI σ (18 - t) 4).toNatClampNeg (mI σ1 1 8) → (∀ (σ7 : Mm), σ7 = uI σ4 (18 - t) 4 ((mI σ4 (18 - t) 4) + 1) → (w = (some (.int 1), σ7))))))))) ∧ (¬ ((mI σ (18 - t) 4) < 4) → (∃ (v12 : Int32) (σ10 : Mm), Cl 40 [.ref 1, .int 2] σ (some (.int v12), σ10) ∧ Sg t σ10 ∧ ((v12 = 0 ∨ v12 = 1) ∧ w = (some (.int v12), σ10))))) :
    Ev 57 0 [.ref 1, .retAddr 0] [] σ w := by
  refine e_aload_n d_57_0 rfl rfl ?_
  refine e_getR d_57_1 oo_57 pF_4_18 (by decide) (hS.k rfl) hS.into rfl ?_
  refine e_getI d_57_4 oo_57 pF_4_179 (by decide) (hS.k (kT hS.ti)) rfl ?_
  refine e_istore_n (ls2 := [.ref 1, .int (mI σ (18 - t) 4)]) d_57_7 rfl rfl rfl ?_
  refine e_iload_n d_57_8 rfl rfl ?_
  refine e_iconst d_57_9 ci_4 rfl ?_
  refine e_icmp_lt (t := 19) d_57_10 (by decide) rfl (fun hc => ?_) (fun hc => ?_)
  · replace H := H.1 hc
    refine e_aload_n d_57_19 rfl rfl ?_
    refine e_bipush d_57_20 cb_99 rfl ?_
    obtain ⟨v3, σ1, hcl, hS2, H⟩ := H
    refine e_vcall (w1 := (some (.int v3), σ1)) d_57_22 kc_57_22 rfl ⟨Nat.le_of_ble_eq_true rfl, xx_57.symm⟩ rfl hcl ?_
    show Ev 57 25 [.ref 1, .int (mI σ (18 - t) 4)] [.int v3] σ1 w
    refine e_if_ne (t := 30) d_57_25 (by decide) rfl (fun hc => ?_) (fun hc => ?_)
    · replace H := H.2 hc
      refine e_aload_n d_57_30 rfl rfl ?_
      refine e_getR d_57_31 oo_57 pF_4_18 (by decide) (hS2.k rfl) hS2.into rfl ?_
      refine e_getR d_57_34 oo_57 pF_4_182 (by decide) (hS2.k (kT hS.ti)) (hS2.rT14 hS.ti) rfl ?_
      refine e_iload_n d_57_37 rfl rfl ?_
      refine e_aload_n d_57_38 rfl rfl ?_
      refine e_getI d_57_39 oo_57 pF_4_67 (by decide) (hS2.k rfl) rfl ?_
      obtain ⟨hb, H⟩ := H
      refine e_iastore d_57_42 (okI_at (hS2.k (kT7 hS.ti)) hb) rfl ?_
      generalize hm5 : uI σ1 ((18 - t) + 7) (mI σ (18 - t) 4).toNatClampNeg (mI σ1 1 8) = σ4
      have hS6 : Sg t σ4 := by rw [← hm5]; exact hS2.uI
      replace H := H σ4 hm5.symm
      refine e_aload_n d_57_43 rfl rfl ?_
      refine e_getR d_57_44 oo_57 pF_4_18 (by decide) (hS6.k rfl) hS6.into rfl ?_
      refine e_dup d_57_47 rfl rfl ?_
      refine e_getI d_57_48 oo_57 pF_4_179 (by decide) (hS6.k (kT hS.ti)) rfl ?_
      refine e_iconst d_57_51 ci_1 rfl ?_
      refine e_iadd d_57_52 rfl ?_
      refine e_putI d_57_53 oo_57 pF_4_179 (Or.inl rfl) (hS6.k (kT hS.ti)) rfl ?_
      generalize hm8 : uI σ4 (18 - t) 4 ((mI σ4 (18 - t) 4) + 1) = σ7
      have hS9 : Sg t σ7 := by rw [← hm8]; exact hS6.uI
      replace H := H σ7 hm8.symm
      refine e_iconst d_57_56 ci_1 rfl ?_
      subst H
      exact e_zret d_57_57 rr_57 (Or.inr rfl)
    · replace H := H.1 hc
      refine e_iconst d_57_28 ci_0 rfl ?_
      subst H
      exact e_zret d_57_29 rr_57 (Or.inl rfl)
  · replace H := H.2 hc
    refine e_aload_n d_57_13 rfl rfl ?_
    refine e_iconst d_57_14 ci_2 rfl ?_
    obtain ⟨v12, σ10, hcl, hS11, H⟩ := H
    refine e_vcall (w1 := (some (.int v12), σ10)) d_57_15 kc_57_15 rfl ⟨Nat.le_of_ble_eq_true rfl, xx_57.symm⟩ rfl hcl ?_
    show Ev 57 18 [.ref 1, .int (mI σ (18 - t) 4)] [.int v12] σ10 w
    obtain ⟨hz, H⟩ := H
    subst H
    exact e_zret d_57_18 rr_57 hz
/-! X4_readBurn -/
theorem b_58_0 {t : Nat} {σ : Mm} {w : Option Value × Mm}  (hS : Sg t σ) 
    (H : ((mI σ (18 - t) 5) = (-1) → (∃ (v3 : Int32) (σ1 : Mm), Cl 50 [.ref 1, .int 100] σ (some (.int v3), σ1) ∧ Sg t σ1 ∧ ((v3 = 0 → (w = (some (.int 0), σ1))) ∧ (¬ (v3 = 0) → (w = (some (.int 1), uI σ1 (18 - t) 5 (mI σ1 1 8))))))) ∧ (¬ ((mI σ (18 - t) 5) = (-1)) → (∃ (v6 : Int32) (σ4 : Mm), Cl 40 [.ref 1, .int 3] σ (some (.int v6), σ4) ∧ Sg t σ4 ∧ ((v6 = 0 ∨ v6 = 1) ∧ w = (some (.int v6), σ4))))) :
    Ev 58 0 [.ref 1] [] σ w := by
  refine e_aload_n d_58_0 rfl rfl ?_
  refine e_getR d_58_1 oo_58 pF_4_18 (by decide) (hS.k rfl) hS.into rfl ?_
  refine e_getI d_58_4 oo_58 pF_4_185 (by decide) (hS.k (kT hS.ti)) rfl ?_
  refine e_iconst d_58_7 ci_m1 rfl ?_
  refine e_icmp_eq (t := 17) d_58_8 (by decide) rfl (fun hc => ?_) (fun hc => ?_)
  · replace H := H.1 hc
    refine e_aload_n d_58_17 rfl rfl ?_
    refine e_bipush d_58_18 cb_100 rfl ?_
    obtain ⟨v3, σ1, hcl, hS2, H⟩ := H
    refine e_vcall (w1 := (some (.int v3), σ1)) d_58_20 kc_58_20 rfl ⟨Nat.le_of_ble_eq_true rfl, xx_58.symm⟩ rfl hcl ?_
    show Ev 58 23 [.ref 1] [.int v3] σ1 w
    refine e_if_ne (t := 28) d_58_23 (by decide) rfl (fun hc => ?_) (fun hc => ?_)
    · replace H := H.2 hc
      refine e_aload_n d_58_28 rfl rfl ?_
      refine e_getR d_58_29 oo_58 pF_4_18 (by decide) (hS2.k rfl) hS2.into rfl ?_
      refine e_aload_n d_58_32 rfl rfl ?_
      refine e_getI d_58_33 oo_58 pF_4_67 (by decide) (hS2.k rfl) rfl ?_
      refine e_putI d_58_36 oo_58 pF_4_185 (Or.inl rfl) (hS2.k (kT hS.ti)) rfl ?_
      refine e_iconst d_58_39 ci_1 rfl ?_
      subst H
      exact e_zret d_58_40 rr_58 (Or.inr rfl)
    · replace H := H.1 hc
      refine e_iconst d_58_26 ci_0 rfl ?_
      subst H
      exact e_zret d_58_27 rr_58 (Or.inl rfl)
  · replace H := H.2 hc
    refine e_aload_n d_58_11 rfl rfl ?_
    refine e_iconst d_58_12 ci_3 rfl ?_
    obtain ⟨v6, σ4, hcl, hS5, H⟩ := H
    refine e_vcall (w1 := (some (.int v6), σ4)) d_58_13 kc_58_13 rfl ⟨Nat.le_of_ble_eq_true rfl, xx_58.symm⟩ rfl hcl ?_
    show Ev 58 16 [.ref 1] [.int v6] σ4 w
    obtain ⟨hz, H⟩ := H
    subst H
    exact e_zret d_58_16 rr_58 hz
/-! X4_readSeed -/
theorem b_59_0 {t : Nat} {σ : Mm} {w : Option Value × Mm}  (hS : Sg t σ) 
    (H : ((mI σ (18 - t) 6) = (-1) → (∃ (v3 : Int32) (σ1 : Mm), Cl 50 [.ref 1, .int 99999] σ (some (.int v3), σ1) ∧ Sg t σ1 ∧ ((v3 = 0 → (w = (some (.int 0), σ1))) ∧ (¬ (v3 = 0) → (w = (some (.int 1), uI σ1 (18 - t) 6 (mI σ1 1 8))))))) ∧ (¬ ((mI σ (18 - t) 6) = (-1)) → (∃ (v6 : Int32) (σ4 : Mm), Cl 40 [.ref 1, .int 3] σ (some (.int v6), σ4) ∧ Sg t σ4 ∧ ((v6 = 0 ∨ v6 = 1) ∧ w = (some (.int v6), σ4))))) :
    Ev 59 0 [.ref 1] [] σ w := by
  refine e_aload_n d_59_0 rfl rfl ?_
  refine e_getR d_59_1 oo_59 pF_4_18 (by decide) (hS.k rfl) hS.into rfl ?_
  refine e_getI d_59_4 oo_59 pF_4_188 (by decide) (hS.k (kT hS.ti)) rfl ?_
  refine e_iconst d_59_7 ci_m1 rfl ?_
  refine e_icmp_eq (t := 17) d_59_8 (by decide) rfl (fun hc => ?_) (fun hc => ?_)
  · replace H := H.1 hc
    refine e_aload_n d_59_17 rfl rfl ?_
    refine e_ldc d_59_18 oo_59 pI_4_191 rfl ?_
    obtain ⟨v3, σ1, hcl, hS2, H⟩ := H
    refine e_vcall (w1 := (some (.int v3), σ1)) d_59_20 kc_59_20 rfl ⟨Nat.le_of_ble_eq_true rfl, xx_59.symm⟩ rfl hcl ?_
    show Ev 59 23 [.ref 1] [.int v3] σ1 w
    refine e_if_ne (t := 28) d_59_23 (by decide) rfl (fun hc => ?_) (fun hc => ?_)
    · replace H := H.2 hc
      refine e_aload_n d_59_28 rfl rfl ?_
      refine e_getR d_59_29 oo_59 pF_4_18 (by decide) (hS2.k rfl) hS2.into rfl ?_
      refine e_aload_n d_59_32 rfl rfl ?_
      refine e_getI d_59_33 oo_59 pF_4_67 (by decide) (hS2.k rfl) rfl ?_
      refine e_putI d_59_36 oo_59 pF_4_188 (Or.inl rfl) (hS2.k (kT hS.ti)) rfl ?_
      refine e_iconst d_59_39 ci_1 rfl ?_
      subst H
      exact e_zret d_59_40 rr_59 (Or.inr rfl)
    · replace H := H.1 hc
      refine e_iconst d_59_26 ci_0 rfl ?_
      subst H
      exact e_zret d_59_27 rr_59 (Or.inl rfl)
  · replace H := H.2 hc
    refine e_aload_n d_59_11 rfl rfl ?_
    refine e_iconst d_59_12 ci_3 rfl ?_
    obtain ⟨v6, σ4, hcl, hS5, H⟩ := H
    refine e_vcall (w1 := (some (.int v6), σ4)) d_59_13 kc_59_13 rfl ⟨Nat.le_of_ble_eq_true rfl, xx_59.symm⟩ rfl hcl ?_
    show Ev 59 16 [.ref 1] [.int v6] σ4 w
    obtain ⟨hz, H⟩ := H
    subst H
    exact e_zret d_59_16 rr_59 hz
/-! X4_readLaw -/
theorem b_60_0 {t : Nat} {σ : Mm} {w : Option Value × Mm}  (hS : Sg t σ) 
    (H : ∃ (σ1 : Mm), Cl 44 [.ref 1] σ (none, σ1) ∧ Sg t σ1 ∧ (((mI σ1 1 6) < 18 → (∃ (v6 : Int32) (σ4 : Mm), Cl 40 [.ref 1, .int 1] σ1 (some (.int v6), σ4) ∧ Sg t σ4 ∧ ((v6 = 0 ∨ v6 = 1) ∧ w = (some (.int v6), σ4)))) ∧ (¬ ((mI σ1 1 6) < 18) → ((20 < (mI σ1 1 6) → (∃ (v24 : Int32) (σ22 : Mm), Cl 40 [.ref 1, .int 1] σ1 (some (.int v24), σ22) ∧ Sg t σ22 ∧ ((v24 = 0 ∨ v24 = 1) ∧ w = (some (.int v24), σ22)))) ∧ (¬ (20 < (mI σ1 1 6)) → (∃ (v9 : Int32) (σ7 : Mm), Cl 91 [.ref (18 - t), .int ((mI σ1 1 6) - 18)] σ1 (some (.int v9), σ7) ∧ Sg t σ7 ∧ ((v9 = 0 → (inb ((mI σ1 1 6) - 18) 3 = true ∧ (∀ (σ10 : Mm), σ10 = uI σ7 ((18 - t) + 9) ((mI σ1 1 6) - 18).toNatClampNeg (mI σ7 (18 - t) 7) → (∃ (v15 : Int32) (σ13 : Mm), Cl 61 [.ref 1] σ10 (some (.int v15), σ13) ∧ Sg t σ13 ∧ ((v15 = 0 → (w = (some (.int 0), σ13))) ∧ (¬ (v15 = 0) → (inb ((mI σ1 1 6) - 18) 3 = true ∧ (∀ (σ16 : Mm), σ16 = uI σ13 ((18 - t) + 10) ((mI σ1 1 6) - 18).toNatClampNeg (mI σ13 (18 - t) 7) → (w = (some (.int 1), σ16)))))))))) ∧ (¬ (v9 = 0) → (∃ (v21 : Int32) (σ19 : Mm), Cl 40 [.ref 1, .int 3] σ7 (some (.int v21), σ19) ∧ Sg t σ19 ∧ ((v21 = 0 ∨ v21 = 1) ∧ w = (some (.int v21), σ19))))))))))) :
    Ev 60 0 [.ref 1, .retAddr 0] [] σ w := by
  refine e_aload_n d_60_0 rfl rfl ?_
  obtain ⟨σ1, hcl, hS2, H⟩ := H
  refine e_vcall (w1 := (none, σ1)) d_60_1 kc_60_1 rfl ⟨Nat.le_of_ble_eq_true rfl, xx_60.symm⟩ rfl hcl ?_
  show Ev 60 4 [.ref 1, .retAddr 0] [] σ1 w
  refine e_aload_n d_60_4 rfl rfl ?_
  refine e_getI d_60_5 oo_60 pF_4_57 (by decide) (hS2.k rfl) rfl ?_
  refine e_bipush d_60_8 cb_18 rfl ?_
  refine e_icmp_lt (t := 22) d_60_10 (by decide) rfl (fun hc => ?_) (fun hc => ?_)
  · replace H := H.1 hc
    refine e_aload_n d_60_22 rfl rfl ?_
    refine e_iconst d_60_23 ci_1 rfl ?_
    obtain ⟨v6, σ4, hcl, hS5, H⟩ := H
    refine e_vcall (w1 := (some (.int v6), σ4)) d_60_24 kc_60_24 rfl ⟨Nat.le_of_ble_eq_true rfl, xx_60.symm⟩ rfl hcl ?_
    show Ev 60 27 [.ref 1, .retAddr 0] [.int v6] σ4 w
    obtain ⟨hz, H⟩ := H
    subst H
    exact e_zret d_60_27 rr_60 hz
  · replace H := H.2 hc
    refine e_aload_n d_60_13 rfl rfl ?_
    refine e_getI d_60_14 oo_60 pF_4_57 (by decide) (hS2.k rfl) rfl ?_
    refine e_bipush d_60_17 cb_20 rfl ?_
    refine e_icmp_le (t := 28) d_60_19 (by decide) rfl (fun hc => ?_) (fun hc => ?_)
    · replace H := H.2 hc
      refine e_aload_n d_60_28 rfl rfl ?_
      refine e_getI d_60_29 oo_60 pF_4_57 (by decide) (hS2.k rfl) rfl ?_
      refine e_bipush d_60_32 cb_18 rfl ?_
      refine e_isub d_60_34 rfl ?_
      refine e_istore_n (ls2 := [.ref 1, .int ((mI σ1 1 6) - 18)]) d_60_35 rfl rfl rfl ?_
      refine e_aload_n d_60_36 rfl rfl ?_
      refine e_getR d_60_37 oo_60 pF_4_18 (by decide) (hS2.k rfl) hS2.into rfl ?_
      refine e_iload_n d_60_40 rfl rfl ?_
      obtain ⟨v9, σ7, hcl, hS8, H⟩ := H
      refine e_vcall (w1 := (some (.int v9), σ7)) d_60_41 kc_60_41 rfl ⟨Nat.le_of_ble_eq_true rfl, xx_60.symm⟩ rfl hcl ?_
      show Ev 60 44 [.ref 1, .int ((mI σ1 1 6) - 18)] [.int v9] σ7 w
      refine e_if_eq (t := 53) d_60_44 (by decide) rfl (fun hc => ?_) (fun hc => ?_)
      · replace H := H.1 hc
        refine e_aload_n d_60_53 rfl rfl ?_
        refine e_getR d_60_54 oo_60 pF_4_18 (by decide) (hS8.k rfl) hS8.into rfl ?_
        refine e_getR d_60_57 oo_60 pF_4_195 (by decide) (hS8.k (kT hS.ti)) (hS8.rT16 hS.ti) rfl ?_
        refine e_iload_n d_60_60 rfl rfl ?_
        refine e_aload_n d_60_61 rfl rfl ?_
        refine e_getR d_60_62 oo_60 pF_4_18 (by decide) (hS8.k rfl) hS8.into rfl ?_
        refine e_getI d_60_65 oo_60 pF_4_198 (by decide) (hS8.k (kT hS.ti)) rfl ?_
        obtain ⟨hb, H⟩ := H
        refine e_iastore d_60_68 (okI_at (hS8.k (kT9 hS.ti)) hb) rfl ?_
        generalize hm11 : uI σ7 ((18 - t) + 9) ((mI σ1 1 6) - 18).toNatClampNeg (mI σ7 (18 - t) 7) = σ10
        have hS12 : Sg t σ10 := by rw [← hm11]; exact hS8.uI
        replace H := H σ10 hm11.symm
        refine e_aload_n d_60_69 rfl rfl ?_
        obtain ⟨v15, σ13, hcl, hS14, H⟩ := H
        refine e_vcall (w1 := (some (.int v15), σ13)) d_60_70 kc_60_70 rfl ⟨Nat.le_of_ble_eq_true rfl, xx_60.symm⟩ rfl hcl ?_
        show Ev 60 73 [.ref 1, .int ((mI σ1 1 6) - 18)] [.int v15] σ13 w
        refine e_if_ne (t := 78) d_60_73 (by decide) rfl (fun hc => ?_) (fun hc => ?_)
        · replace H := H.2 hc
          refine e_aload_n d_60_78 rfl rfl ?_
          refine e_getR d_60_79 oo_60 pF_4_18 (by decide) (hS14.k rfl) hS14.into rfl ?_
          refine e_getR d_60_82 oo_60 pF_4_204 (by decide) (hS14.k (kT hS.ti)) (hS14.rT17 hS.ti) rfl ?_
          refine e_iload_n d_60_85 rfl rfl ?_
          refine e_aload_n d_60_86 rfl rfl ?_
          refine e_getR d_60_87 oo_60 pF_4_18 (by decide) (hS14.k rfl) hS14.into rfl ?_
          refine e_getI d_60_90 oo_60 pF_4_198 (by decide) (hS14.k (kT hS.ti)) rfl ?_
          obtain ⟨hb, H⟩ := H
          refine e_iastore d_60_93 (okI_at (hS14.k (kT10 hS.ti)) hb) rfl ?_
          generalize hm17 : uI σ13 ((18 - t) + 10) ((mI σ1 1 6) - 18).toNatClampNeg (mI σ13 (18 - t) 7) = σ16
          have hS18 : Sg t σ16 := by rw [← hm17]; exact hS14.uI
          replace H := H σ16 hm17.symm
          refine e_iconst d_60_94 ci_1 rfl ?_
          subst H
          exact e_zret d_60_95 rr_60 (Or.inr rfl)
        · replace H := H.1 hc
          refine e_iconst d_60_76 ci_0 rfl ?_
          subst H
          exact e_zret d_60_77 rr_60 (Or.inl rfl)
      · replace H := H.2 hc
        refine e_aload_n d_60_47 rfl rfl ?_
        refine e_iconst d_60_48 ci_3 rfl ?_
        obtain ⟨v21, σ19, hcl, hS20, H⟩ := H
        refine e_vcall (w1 := (some (.int v21), σ19)) d_60_49 kc_60_49 rfl ⟨Nat.le_of_ble_eq_true rfl, xx_60.symm⟩ rfl hcl ?_
        show Ev 60 52 [.ref 1, .int ((mI σ1 1 6) - 18)] [.int v21] σ19 w
        obtain ⟨hz, H⟩ := H
        subst H
        exact e_zret d_60_52 rr_60 hz
    · replace H := H.1 hc
      refine e_aload_n d_60_22 rfl rfl ?_
      refine e_iconst d_60_23 ci_1 rfl ?_
      obtain ⟨v24, σ22, hcl, hS23, H⟩ := H
      refine e_vcall (w1 := (some (.int v24), σ22)) d_60_24 kc_60_24 rfl ⟨Nat.le_of_ble_eq_true rfl, xx_60.symm⟩ rfl hcl ?_
      show Ev 60 27 [.ref 1, .retAddr 0] [.int v24] σ22 w
      obtain ⟨hz, H⟩ := H
      subst H
      exact e_zret d_60_27 rr_60 hz
/-! X4_readWorth -/
theorem b_61_0 {t : Nat} {σ : Mm} {w : Option Value × Mm}  (hS : Sg t σ) 
    (H : ∀ (σ1 : Mm), σ1 = uI (uI (uI (uI σ 1 12 0) 1 13 0) 1 14 0) 1 15 1 → Ev 61 27 [.ref 1, .int 0, .retAddr 0] [] (uI σ1 1 16 1) w) :
    Ev 61 0 [.ref 1, .retAddr 0, .retAddr 0] [] σ w := by
  refine e_aload_n d_61_0 rfl rfl ?_
  refine e_iconst d_61_1 ci_0 rfl ?_
  refine e_putI d_61_2 oo_61 pF_4_207 (Or.inl rfl) (hS.k rfl) rfl ?_
  refine e_aload_n d_61_5 rfl rfl ?_
  refine e_iconst d_61_6 ci_0 rfl ?_
  refine e_putI d_61_7 oo_61 pF_4_210 (Or.inl rfl) (hS.uI.k rfl) rfl ?_
  refine e_aload_n d_61_10 rfl rfl ?_
  refine e_iconst d_61_11 ci_0 rfl ?_
  refine e_putI d_61_12 oo_61 pF_4_213 (Or.inl rfl) (hS.uI.uI.k rfl) rfl ?_
  refine e_aload_n d_61_15 rfl rfl ?_
  refine e_iconst d_61_16 ci_1 rfl ?_
  refine e_putZ d_61_17 oo_61 pF_4_216 (Or.inl rfl) (hS.uI.uI.uI.k rfl) (Or.inr rfl) rfl ?_
  generalize hm2 : uI (uI (uI (uI σ 1 12 0) 1 13 0) 1 14 0) 1 15 1 = σ1
  have hS3 : Sg t σ1 := by rw [← hm2]; exact hS.uI.uI.uI.uI
  replace H := H σ1 hm2.symm
  refine e_aload_n d_61_20 rfl rfl ?_
  refine e_iconst d_61_21 ci_1 rfl ?_
  refine e_putZ d_61_22 oo_61 pF_4_220 (Or.inl rfl) (hS3.k rfl) (Or.inr rfl) rfl ?_
  refine e_iconst d_61_25 ci_0 rfl ?_
  refine e_istore_n (ls2 := [.ref 1, .int 0, .retAddr 0]) d_61_26 rfl rfl rfl ?_
  exact H
theorem b_61_27 {t : Nat} {σ : Mm} {w : Option Value × Mm} {x1 : Int32} {z2 : Value} (hS : Sg t σ) 
    (H : ((mI σ 1 4) < x1 → (w = (some (.int 0), σ))) ∧ (¬ ((mI σ 1 4) < x1) → (∃ (σ1 : Mm), Cl 44 [.ref 1] σ (none, σ1) ∧ Sg t σ1 ∧ (((mI σ1 1 15) = 0 → (((mI σ1 1 13) = 0 → (((mI σ1 1 6) = 40 → (∃ (σ4 : Mm), Cl 68 [.ref 1, .int 0] (uI σ1 1 5 (mI σ 1 5)) (none, σ4) ∧ Sg t σ4 ∧ (w = (some (.int 1), σ4)))) ∧ (¬ ((mI σ1 1 6) = 40) → Ev 61 79 [.ref 1, .int x1, .int (mI σ 1 5)] [] σ1 w))) ∧ (¬ ((mI σ1 1 13) = 0) → Ev 61 79 [.ref 1, .int x1, .int (mI σ 1 5)] [] σ1 w))) ∧ (¬ ((mI σ1 1 15) = 0) → Ev 61 79 [.ref 1, .int x1, .int (mI σ 1 5)] [] σ1 w))))) :
    Ev 61 27 [.ref 1, .int x1, z2] [] σ w := by
  refine e_iload_n d_61_27 rfl rfl ?_
  refine e_aload_n d_61_28 rfl rfl ?_
  refine e_getI d_61_29 oo_61 pF_4_39 (by decide) (hS.k rfl) rfl ?_
  refine e_icmp_gt (t := 111) d_61_32 (by decide) rfl (fun hc => ?_) (fun hc => ?_)
  · replace H := H.1 hc
    refine e_iconst d_61_111 ci_0 rfl ?_
    subst H
    exact e_zret d_61_112 rr_61 (Or.inl rfl)
  · replace H := H.2 hc
    refine e_aload_n d_61_35 rfl rfl ?_
    refine e_getI d_61_36 oo_61 pF_4_42 (by decide) (hS.k rfl) rfl ?_
    refine e_istore_n (ls2 := [.ref 1, .int x1, .int (mI σ 1 5)]) d_61_39 rfl rfl rfl ?_
    refine e_aload_n d_61_40 rfl rfl ?_
    obtain ⟨σ1, hcl, hS2, H⟩ := H
    refine e_vcall (w1 := (none, σ1)) d_61_41 kc_61_41 rfl ⟨Nat.le_of_ble_eq_true rfl, xx_61.symm⟩ rfl hcl ?_
    show Ev 61 44 [.ref 1, .int x1, .int (mI σ 1 5)] [] σ1 w
    refine e_aload_n d_61_44 rfl rfl ?_
    refine e_getZ d_61_45 oo_61 pF_4_216 (by decide) (hS2.k rfl) rfl ?_
    refine e_if_ne (t := 79) d_61_48 (by decide) rfl (fun hc => ?_) (fun hc => ?_)
    · replace H := H.2 hc
      exact H
    · replace H := H.1 hc
      refine e_aload_n d_61_51 rfl rfl ?_
      refine e_getI d_61_52 oo_61 pF_4_210 (by decide) (hS2.k rfl) rfl ?_
      refine e_if_ne (t := 79) d_61_55 (by decide) rfl (fun hc => ?_) (fun hc => ?_)
      · replace H := H.2 hc
        exact H
      · replace H := H.1 hc
        refine e_aload_n d_61_58 rfl rfl ?_
        refine e_getI d_61_59 oo_61 pF_4_57 (by decide) (hS2.k rfl) rfl ?_
        refine e_bipush d_61_62 cb_40 rfl ?_
        refine e_icmp_ne (t := 79) d_61_64 (by decide) rfl (fun hc => ?_) (fun hc => ?_)
        · replace H := H.2 hc
          exact H
        · replace H := H.1 hc
          refine e_aload_n d_61_67 rfl rfl ?_
          refine e_iload_n d_61_68 rfl rfl ?_
          refine e_putI d_61_69 oo_61 pF_4_42 (Or.inl rfl) (hS2.k rfl) rfl ?_
          refine e_aload_n d_61_72 rfl rfl ?_
          refine e_iconst d_61_73 ci_0 rfl ?_
          obtain ⟨σ4, hcl, hS5, H⟩ := H
          refine e_vcall (w1 := (none, σ4)) d_61_74 kc_61_74 rfl ⟨Nat.le_of_ble_eq_true rfl, xx_61.symm⟩ rfl hcl ?_
          show Ev 61 77 [.ref 1, .int x1, .int (mI σ 1 5)] [] σ4 w
          refine e_iconst d_61_77 ci_1 rfl ?_
          subst H
          exact e_zret d_61_78 rr_61 (Or.inr rfl)
theorem b_61_79 {t : Nat} {σ : Mm} {w : Option Value × Mm} {x1 : Int32} {x2 : Int32} (hS : Sg t σ) 
    (H : ((mI σ 1 15) = 0 → (∃ (v3 : Int32) (σ1 : Mm), Cl 63 [.ref 1] σ (some (.int v3), σ1) ∧ Sg t σ1 ∧ ((v3 = 0 → (w = (some (.int 0), σ1))) ∧ (¬ (v3 = 0) → Ev 61 27 [.ref 1, .int (x1 + 1), .int x2] [] σ1 w)))) ∧ (¬ ((mI σ 1 15) = 0) → (∃ (v6 : Int32) (σ4 : Mm), Cl 62 [.ref 1] σ (some (.int v6), σ4) ∧ Sg t σ4 ∧ ((v6 = 0 → (w = (some (.int 0), σ4))) ∧ (¬ (v6 = 0) → Ev 61 27 [.ref 1, .int (x1 + 1), .int x2] [] σ4 w))))) :
    Ev 61 79 [.ref 1, .int x1, .int x2] [] σ w := by
  refine e_aload_n d_61_79 rfl rfl ?_
  refine e_getZ d_61_80 oo_61 pF_4_216 (by decide) (hS.k rfl) rfl ?_
  refine e_if_eq (t := 96) d_61_83 (by decide) rfl (fun hc => ?_) (fun hc => ?_)
  · replace H := H.1 hc
    refine e_aload_n d_61_96 rfl rfl ?_
    obtain ⟨v3, σ1, hcl, hS2, H⟩ := H
    refine e_vcall (w1 := (some (.int v3), σ1)) d_61_97 kc_61_97 rfl ⟨Nat.le_of_ble_eq_true rfl, xx_61.symm⟩ rfl hcl ?_
    show Ev 61 100 [.ref 1, .int x1, .int x2] [.int v3] σ1 w
    refine e_if_ne (t := 105) d_61_100 (by decide) rfl (fun hc => ?_) (fun hc => ?_)
    · replace H := H.2 hc
      refine e_iinc (ls2 := [.ref 1, .int (x1 + 1), .int x2]) d_61_105 rfl ci_1 rfl rfl rfl ?_
      refine e_goto (t := 27) d_61_108 (by decide) ?_
      exact H
    · replace H := H.1 hc
      refine e_iconst d_61_103 ci_0 rfl ?_
      subst H
      exact e_zret d_61_104 rr_61 (Or.inl rfl)
  · replace H := H.2 hc
    refine e_aload_n d_61_86 rfl rfl ?_
    obtain ⟨v6, σ4, hcl, hS5, H⟩ := H
    refine e_vcall (w1 := (some (.int v6), σ4)) d_61_87 kc_61_87 rfl ⟨Nat.le_of_ble_eq_true rfl, xx_61.symm⟩ rfl hcl ?_
    show Ev 61 90 [.ref 1, .int x1, .int x2] [.int v6] σ4 w
    refine e_if_eq (t := 103) d_61_90 (by decide) rfl (fun hc => ?_) (fun hc => ?_)
    · replace H := H.1 hc
      refine e_iconst d_61_103 ci_0 rfl ?_
      subst H
      exact e_zret d_61_104 rr_61 (Or.inl rfl)
    · replace H := H.2 hc
      refine e_goto (t := 105) d_61_93 (by decide) ?_
      refine e_iinc (ls2 := [.ref 1, .int (x1 + 1), .int x2]) d_61_105 rfl ci_1 rfl rfl rfl ?_
      refine e_goto (t := 27) d_61_108 (by decide) ?_
      exact H
/-! X4_takeValue -/
theorem b_62_0 {t : Nat} {σ : Mm} {w : Option Value × Mm}  (hS : Sg t σ) 
    (H : ((mI σ 1 6) = 38 → (∃ (v9 : Int32) (σ7 : Mm), Cl 64 [.ref 1] σ (some (.int v9), σ7) ∧ Sg t σ7 ∧ ((v9 = 0 ∨ v9 = 1) ∧ w = (some (.int v9), σ7)))) ∧ (¬ ((mI σ 1 6) = 38) → (((mI σ 1 6) = 23 → (((mI σ 1 16) = 0 → Ev 62 52 [.ref 1] [] σ w) ∧ (¬ ((mI σ 1 16) = 0) → (∃ (v3 : Int32) (σ1 : Mm), Cl 65 [.ref 1] σ (some (.int v3), σ1) ∧ Sg t σ1 ∧ ((v3 = 0 → (w = (some (.int 0), σ1))) ∧ (¬ (v3 = 0) → (∃ (v6 : Int32) (σ4 : Mm), Cl 66 [.ref 1, .int 23] σ1 (some (.int v6), σ4) ∧ Sg t σ4 ∧ ((v6 = 0 → (w = (some (.int 0), σ4))) ∧ (¬ (v6 = 0) → (w = (some (.int 1), σ4))))))))))) ∧ (¬ ((mI σ 1 6) = 23) → Ev 62 52 [.ref 1] [] σ w)))) :
    Ev 62 0 [.ref 1] [] σ w := by
  refine e_aload_n d_62_0 rfl rfl ?_
  refine e_getI d_62_1 oo_62 pF_4_57 (by decide) (hS.k rfl) rfl ?_
  refine e_bipush d_62_4 cb_38 rfl ?_
  refine e_icmp_ne (t := 14) d_62_6 (by decide) rfl (fun hc => ?_) (fun hc => ?_)
  · replace H := H.2 hc
    refine e_aload_n d_62_14 rfl rfl ?_
    refine e_getI d_62_15 oo_62 pF_4_57 (by decide) (hS.k rfl) rfl ?_
    refine e_bipush d_62_18 cb_23 rfl ?_
    refine e_icmp_ne (t := 52) d_62_20 (by decide) rfl (fun hc => ?_) (fun hc => ?_)
    · replace H := H.2 hc
      exact H
    · replace H := H.1 hc
      refine e_aload_n d_62_23 rfl rfl ?_
      refine e_getZ d_62_24 oo_62 pF_4_220 (by decide) (hS.k rfl) rfl ?_
      refine e_if_eq (t := 52) d_62_27 (by decide) rfl (fun hc => ?_) (fun hc => ?_)
      · replace H := H.1 hc
        exact H
      · replace H := H.2 hc
        refine e_aload_n d_62_30 rfl rfl ?_
        obtain ⟨v3, σ1, hcl, hS2, H⟩ := H
        refine e_vcall (w1 := (some (.int v3), σ1)) d_62_31 kc_62_31 rfl ⟨Nat.le_of_ble_eq_true rfl, xx_62.symm⟩ rfl hcl ?_
        show Ev 62 34 [.ref 1] [.int v3] σ1 w
        refine e_if_eq (t := 50) d_62_34 (by decide) rfl (fun hc => ?_) (fun hc => ?_)
        · replace H := H.1 hc
          refine e_iconst d_62_50 ci_0 rfl ?_
          subst H
          exact e_zret d_62_51 rr_62 (Or.inl rfl)
        · replace H := H.2 hc
          refine e_aload_n d_62_37 rfl rfl ?_
          refine e_bipush d_62_38 cb_23 rfl ?_
          obtain ⟨v6, σ4, hcl, hS5, H⟩ := H
          refine e_vcall (w1 := (some (.int v6), σ4)) d_62_40 kc_62_40 rfl ⟨Nat.le_of_ble_eq_true rfl, xx_62.symm⟩ rfl hcl ?_
          show Ev 62 43 [.ref 1] [.int v6] σ4 w
          refine e_if_eq (t := 50) d_62_43 (by decide) rfl (fun hc => ?_) (fun hc => ?_)
          · replace H := H.1 hc
            refine e_iconst d_62_50 ci_0 rfl ?_
            subst H
            exact e_zret d_62_51 rr_62 (Or.inl rfl)
          · replace H := H.2 hc
            refine e_iconst d_62_46 ci_1 rfl ?_
            refine e_goto (t := 51) d_62_47 (by decide) ?_
            subst H
            exact e_zret d_62_51 rr_62 (Or.inr rfl)
  · replace H := H.1 hc
    refine e_aload_n d_62_9 rfl rfl ?_
    obtain ⟨v9, σ7, hcl, hS8, H⟩ := H
    refine e_vcall (w1 := (some (.int v9), σ7)) d_62_10 kc_62_10 rfl ⟨Nat.le_of_ble_eq_true rfl, xx_62.symm⟩ rfl hcl ?_
    show Ev 62 13 [.ref 1] [.int v9] σ7 w
    obtain ⟨hz, H⟩ := H
    subst H
    exact e_zret d_62_13 rr_62 hz
theorem b_62_52 {t : Nat} {σ : Mm} {w : Option Value × Mm}  (hS : Sg t σ) 
    (H : ((mI σ 1 6) = 2 → ((9999 < (mI (uI σ 1 15 0) 1 8) → (∃ (v21 : Int32) (σ19 : Mm), Cl 40 [.ref 1, .int 2] (uI σ 1 15 0) (some (.int v21), σ19) ∧ Sg t σ19 ∧ ((v21 = 0 ∨ v21 = 1) ∧ w = (some (.int v21), σ19)))) ∧ (¬ (9999 < (mI (uI σ 1 15 0) 1 8)) → (∃ (v15 : Int32) (σ13 : Mm), Cl 65 [.ref 1] (uI σ 1 15 0) (some (.int v15), σ13) ∧ Sg t σ13 ∧ ((v15 = 0 → (w = (some (.int 0), σ13))) ∧ (¬ (v15 = 0) → (∃ (v18 : Int32) (σ16 : Mm), Cl 67 [.ref 1, .int (mI σ13 1 8)] σ13 (some (.int v18), σ16) ∧ Sg t σ16 ∧ ((v18 = 0 → (w = (some (.int 0), σ16))) ∧ (¬ (v18 = 0) → (w = (some (.int 1), σ16))))))))))) ∧ (¬ ((mI σ 1 6) = 2) → (((mI σ 1 6) < 24 → (∃ (v3 : Int32) (σ1 : Mm), Cl 40 [.ref 1, .int 1] σ (some (.int v3), σ1) ∧ Sg t σ1 ∧ ((v3 = 0 ∨ v3 = 1) ∧ w = (some (.int v3), σ1)))) ∧ (¬ ((mI σ 1 6) < 24) → ((30 < (mI σ 1 6) → (∃ (v6 : Int32) (σ4 : Mm), Cl 40 [.ref 1, .int 1] σ (some (.int v6), σ4) ∧ Sg t σ4 ∧ ((v6 = 0 ∨ v6 = 1) ∧ w = (some (.int v6), σ4)))) ∧ (¬ (30 < (mI σ 1 6)) → (∃ (v9 : Int32) (σ7 : Mm), Cl 65 [.ref 1] (uI σ 1 15 0) (some (.int v9), σ7) ∧ Sg t σ7 ∧ ((v9 = 0 → (w = (some (.int 0), σ7))) ∧ (¬ (v9 = 0) → (∃ (v12 : Int32) (σ10 : Mm), Cl 67 [.ref 1, .int (10000 + (mI σ7 1 6))] σ7 (some (.int v12), σ10) ∧ Sg t σ10 ∧ ((v12 = 0 → (w = (some (.int 0), σ10))) ∧ (¬ (v12 = 0) → (w = (some (.int 1), σ10)))))))))))))) :
    Ev 62 52 [.ref 1] [] σ w := by
  refine e_aload_n d_62_52 rfl rfl ?_
  refine e_getI d_62_53 oo_62 pF_4_57 (by decide) (hS.k rfl) rfl ?_
  refine e_iconst d_62_56 ci_2 rfl ?_
  refine e_icmp_ne (t := 107) d_62_57 (by decide) rfl (fun hc => ?_) (fun hc => ?_)
  · replace H := H.2 hc
    refine e_aload_n d_62_107 rfl rfl ?_
    refine e_getI d_62_108 oo_62 pF_4_57 (by decide) (hS.k rfl) rfl ?_
    refine e_bipush d_62_111 cb_24 rfl ?_
    refine e_icmp_lt (t := 158) d_62_113 (by decide) rfl (fun hc => ?_) (fun hc => ?_)
    · replace H := H.1 hc
      refine e_aload_n d_62_158 rfl rfl ?_
      refine e_iconst d_62_159 ci_1 rfl ?_
      obtain ⟨v3, σ1, hcl, hS2, H⟩ := H
      refine e_vcall (w1 := (some (.int v3), σ1)) d_62_160 kc_62_160 rfl ⟨Nat.le_of_ble_eq_true rfl, xx_62.symm⟩ rfl hcl ?_
      show Ev 62 163 [.ref 1] [.int v3] σ1 w
      obtain ⟨hz, H⟩ := H
      subst H
      exact e_zret d_62_163 rr_62 hz
    · replace H := H.2 hc
      refine e_aload_n d_62_116 rfl rfl ?_
      refine e_getI d_62_117 oo_62 pF_4_57 (by decide) (hS.k rfl) rfl ?_
      refine e_bipush d_62_120 cb_30 rfl ?_
      refine e_icmp_gt (t := 158) d_62_122 (by decide) rfl (fun hc => ?_) (fun hc => ?_)
      · replace H := H.1 hc
        refine e_aload_n d_62_158 rfl rfl ?_
        refine e_iconst d_62_159 ci_1 rfl ?_
        obtain ⟨v6, σ4, hcl, hS5, H⟩ := H
        refine e_vcall (w1 := (some (.int v6), σ4)) d_62_160 kc_62_160 rfl ⟨Nat.le_of_ble_eq_true rfl, xx_62.symm⟩ rfl hcl ?_
        show Ev 62 163 [.ref 1] [.int v6] σ4 w
        obtain ⟨hz, H⟩ := H
        subst H
        exact e_zret d_62_163 rr_62 hz
      · replace H := H.2 hc
        refine e_aload_n d_62_125 rfl rfl ?_
        refine e_iconst d_62_126 ci_0 rfl ?_
        refine e_putZ d_62_127 oo_62 pF_4_216 (Or.inl rfl) (hS.k rfl) (Or.inl rfl) rfl ?_
        refine e_aload_n d_62_130 rfl rfl ?_
        obtain ⟨v9, σ7, hcl, hS8, H⟩ := H
        refine e_vcall (w1 := (some (.int v9), σ7)) d_62_131 kc_62_131 rfl ⟨Nat.le_of_ble_eq_true rfl, xx_62.symm⟩ rfl hcl ?_
        show Ev 62 134 [.ref 1] [.int v9] σ7 w
        refine e_if_eq (t := 156) d_62_134 (by decide) rfl (fun hc => ?_) (fun hc => ?_)
        · replace H := H.1 hc
          refine e_iconst d_62_156 ci_0 rfl ?_
          subst H
          exact e_zret d_62_157 rr_62 (Or.inl rfl)
        · replace H := H.2 hc
          refine e_aload_n d_62_137 rfl rfl ?_
          refine e_sipush d_62_138 cs_10000 rfl ?_
          refine e_aload_n d_62_141 rfl rfl ?_
          refine e_getI d_62_142 oo_62 pF_4_57 (by decide) (hS8.k rfl) rfl ?_
          refine e_iadd d_62_145 rfl ?_
          obtain ⟨v12, σ10, hcl, hS11, H⟩ := H
          refine e_vcall (w1 := (some (.int v12), σ10)) d_62_146 kc_62_146 rfl ⟨Nat.le_of_ble_eq_true rfl, xx_62.symm⟩ rfl hcl ?_
          show Ev 62 149 [.ref 1] [.int v12] σ10 w
          refine e_if_eq (t := 156) d_62_149 (by decide) rfl (fun hc => ?_) (fun hc => ?_)
          · replace H := H.1 hc
            refine e_iconst d_62_156 ci_0 rfl ?_
            subst H
            exact e_zret d_62_157 rr_62 (Or.inl rfl)
          · replace H := H.2 hc
            refine e_iconst d_62_152 ci_1 rfl ?_
            refine e_goto (t := 157) d_62_153 (by decide) ?_
            subst H
            exact e_zret d_62_157 rr_62 (Or.inr rfl)
  · replace H := H.1 hc
    refine e_aload_n d_62_60 rfl rfl ?_
    refine e_iconst d_62_61 ci_0 rfl ?_
    refine e_putZ d_62_62 oo_62 pF_4_216 (Or.inl rfl) (hS.k rfl) (Or.inl rfl) rfl ?_
    refine e_aload_n d_62_65 rfl rfl ?_
    refine e_getI d_62_66 oo_62 pF_4_67 (by decide) (hS.uI.k rfl) rfl ?_
    refine e_sipush d_62_69 cs_9999 rfl ?_
    refine e_icmp_le (t := 83) d_62_72 (by decide) rfl (fun hc => ?_) (fun hc => ?_)
    · replace H := H.2 hc
      refine e_aload_n d_62_83 rfl rfl ?_
      obtain ⟨v15, σ13, hcl, hS14, H⟩ := H
      refine e_vcall (w1 := (some (.int v15), σ13)) d_62_84 kc_62_84 rfl ⟨Nat.le_of_ble_eq_true rfl, xx_62.symm⟩ rfl hcl ?_
      show Ev 62 87 [.ref 1] [.int v15] σ13 w
      refine e_if_eq (t := 105) d_62_87 (by decide) rfl (fun hc => ?_) (fun hc => ?_)
      · replace H := H.1 hc
        refine e_iconst d_62_105 ci_0 rfl ?_
        subst H
        exact e_zret d_62_106 rr_62 (Or.inl rfl)
      · replace H := H.2 hc
        refine e_aload_n d_62_90 rfl rfl ?_
        refine e_aload_n d_62_91 rfl rfl ?_
        refine e_getI d_62_92 oo_62 pF_4_67 (by decide) (hS14.k rfl) rfl ?_
        obtain ⟨v18, σ16, hcl, hS17, H⟩ := H
        refine e_vcall (w1 := (some (.int v18), σ16)) d_62_95 kc_62_95 rfl ⟨Nat.le_of_ble_eq_true rfl, xx_62.symm⟩ rfl hcl ?_
        show Ev 62 98 [.ref 1] [.int v18] σ16 w
        refine e_if_eq (t := 105) d_62_98 (by decide) rfl (fun hc => ?_) (fun hc => ?_)
        · replace H := H.1 hc
          refine e_iconst d_62_105 ci_0 rfl ?_
          subst H
          exact e_zret d_62_106 rr_62 (Or.inl rfl)
        · replace H := H.2 hc
          refine e_iconst d_62_101 ci_1 rfl ?_
          refine e_goto (t := 106) d_62_102 (by decide) ?_
          subst H
          exact e_zret d_62_106 rr_62 (Or.inr rfl)
    · replace H := H.1 hc
      refine e_aload_n d_62_75 rfl rfl ?_
      refine e_iconst d_62_76 ci_2 rfl ?_
      obtain ⟨v21, σ19, hcl, hS20, H⟩ := H
      refine e_vcall (w1 := (some (.int v21), σ19)) d_62_77 kc_62_77 rfl ⟨Nat.le_of_ble_eq_true rfl, xx_62.symm⟩ rfl hcl ?_
      show Ev 62 80 [.ref 1] [.int v21] σ19 w
      refine e_goto (t := 106) d_62_80 (by decide) ?_
      obtain ⟨hz, H⟩ := H
      subst H
      exact e_zret d_62_106 rr_62 hz
/-! X4_takeSign -/
theorem b_63_0 {t : Nat} {σ : Mm} {w : Option Value × Mm}  (hS : Sg t σ) 
    (H : ((mI σ 1 6) = 39 → ((0 < (mI σ 1 13) → (∃ (σ7 : Mm), Cl 68 [.ref 1, .int 0] σ (none, σ7) ∧ Sg t σ7 ∧ (∀ (σ10 : Mm), σ10 = uI (uI σ7 1 12 ((mI σ7 1 12) - 1)) 1 13 ((mI (uI σ7 1 12 ((mI σ7 1 12) - 1)) 1 13) - 1) → (w = (some (.int 1), σ10))))) ∧ (¬ (0 < (mI σ 1 13)) → (∃ (v6 : Int32) (σ4 : Mm), Cl 69 [.int (mI σ 1 6)] σ (some (.int v6), σ4) ∧ Sg t σ4 ∧ ((v6 = 4 → Ev 63 61 [.ref 1, .int v6, .retAddr 0] [.int 1] σ4 w) ∧ (¬ (v6 = 4) → Ev 63 61 [.ref 1, .int v6, .retAddr 0] [.int 0] σ4 w)))))) ∧ (¬ ((mI σ 1 6) = 39) → (∃ (v3 : Int32) (σ1 : Mm), Cl 69 [.int (mI σ 1 6)] σ (some (.int v3), σ1) ∧ Sg t σ1 ∧ ((v3 = 4 → Ev 63 61 [.ref 1, .int v3, .retAddr 0] [.int 1] σ1 w) ∧ (¬ (v3 = 4) → Ev 63 61 [.ref 1, .int v3, .retAddr 0] [.int 0] σ1 w))))) :
    Ev 63 0 [.ref 1, .retAddr 0, .retAddr 0] [] σ w := by
  refine e_aload_n d_63_0 rfl rfl ?_
  refine e_getI d_63_1 oo_63 pF_4_57 (by decide) (hS.k rfl) rfl ?_
  refine e_bipush d_63_4 cb_39 rfl ?_
  refine e_icmp_ne (t := 43) d_63_6 (by decide) rfl (fun hc => ?_) (fun hc => ?_)
  · replace H := H.2 hc
    refine e_aload_n d_63_43 rfl rfl ?_
    refine e_getI d_63_44 oo_63 pF_4_57 (by decide) (hS.k rfl) rfl ?_
    obtain ⟨v3, σ1, hcl, hS2, H⟩ := H
    refine e_scall (w1 := (some (.int v3), σ1)) d_63_47 kc_63_47 rfl ⟨Nat.le_of_ble_eq_true rfl, xx_63.symm⟩ rfl hcl ?_
    show Ev 63 50 [.ref 1, .retAddr 0, .retAddr 0] [.int v3] σ1 w
    refine e_istore_n (ls2 := [.ref 1, .int v3, .retAddr 0]) d_63_50 rfl rfl rfl ?_
    refine e_iload_n d_63_51 rfl rfl ?_
    refine e_iconst d_63_52 ci_4 rfl ?_
    refine e_icmp_ne (t := 60) d_63_53 (by decide) rfl (fun hc => ?_) (fun hc => ?_)
    · replace H := H.2 hc
      refine e_iconst d_63_60 ci_0 rfl ?_
      exact H
    · replace H := H.1 hc
      refine e_iconst d_63_56 ci_1 rfl ?_
      refine e_goto (t := 61) d_63_57 (by decide) ?_
      exact H
  · replace H := H.1 hc
    refine e_aload_n d_63_9 rfl rfl ?_
    refine e_getI d_63_10 oo_63 pF_4_210 (by decide) (hS.k rfl) rfl ?_
    refine e_if_le (t := 43) d_63_13 (by decide) rfl (fun hc => ?_) (fun hc => ?_)
    · replace H := H.2 hc
      refine e_aload_n d_63_43 rfl rfl ?_
      refine e_getI d_63_44 oo_63 pF_4_57 (by decide) (hS.k rfl) rfl ?_
      obtain ⟨v6, σ4, hcl, hS5, H⟩ := H
      refine e_scall (w1 := (some (.int v6), σ4)) d_63_47 kc_63_47 rfl ⟨Nat.le_of_ble_eq_true rfl, xx_63.symm⟩ rfl hcl ?_
      show Ev 63 50 [.ref 1, .retAddr 0, .retAddr 0] [.int v6] σ4 w
      refine e_istore_n (ls2 := [.ref 1, .int v6, .retAddr 0]) d_63_50 rfl rfl rfl ?_
      refine e_iload_n d_63_51 rfl rfl ?_
      refine e_iconst d_63_52 ci_4 rfl ?_
      refine e_icmp_ne (t := 60) d_63_53 (by decide) rfl (fun hc => ?_) (fun hc => ?_)
      · replace H := H.2 hc
        refine e_iconst d_63_60 ci_0 rfl ?_
        exact H
      · replace H := H.1 hc
        refine e_iconst d_63_56 ci_1 rfl ?_
        refine e_goto (t := 61) d_63_57 (by decide) ?_
        exact H
    · replace H := H.1 hc
      refine e_aload_n d_63_16 rfl rfl ?_
      refine e_iconst d_63_17 ci_0 rfl ?_
      obtain ⟨σ7, hcl, hS8, H⟩ := H
      refine e_vcall (w1 := (none, σ7)) d_63_18 kc_63_18 rfl ⟨Nat.le_of_ble_eq_true rfl, xx_63.symm⟩ rfl hcl ?_
      show Ev 63 21 [.ref 1, .retAddr 0, .retAddr 0] [] σ7 w
      refine e_aload_n d_63_21 rfl rfl ?_
      refine e_dup d_63_22 rfl rfl ?_
      refine e_getI d_63_23 oo_63 pF_4_207 (by decide) (hS8.k rfl) rfl ?_
      refine e_iconst d_63_26 ci_1 rfl ?_
      refine e_isub d_63_27 rfl ?_
      refine e_putI d_63_28 oo_63 pF_4_207 (Or.inl rfl) (hS8.k rfl) rfl ?_
      refine e_aload_n d_63_31 rfl rfl ?_
      refine e_dup d_63_32 rfl rfl ?_
      refine e_getI d_63_33 oo_63 pF_4_210 (by decide) (hS8.uI.k rfl) rfl ?_
      refine e_iconst d_63_36 ci_1 rfl ?_
      refine e_isub d_63_37 rfl ?_
      refine e_putI d_63_38 oo_63 pF_4_210 (Or.inl rfl) (hS8.uI.k rfl) rfl ?_
      generalize hm11 : uI (uI σ7 1 12 ((mI σ7 1 12) - 1)) 1 13 ((mI (uI σ7 1 12 ((mI σ7 1 12) - 1)) 1 13) - 1) = σ10
      have hS12 : Sg t σ10 := by rw [← hm11]; exact hS8.uI.uI
      replace H := H σ10 hm11.symm
      refine e_iconst d_63_41 ci_1 rfl ?_
      subst H
      exact e_zret d_63_42 rr_63 (Or.inr rfl)
theorem b_63_61 {t : Nat} {σ : Mm} {w : Option Value × Mm} {x1 : Int32} {z2 : Value} {s0 : Int32} (hS : Sg t σ) 
    (H : (x1 = 0 → (∃ (v3 : Int32) (σ1 : Mm), Cl 40 [.ref 1, .int 1] σ (some (.int v3), σ1) ∧ Sg t σ1 ∧ ((v3 = 0 ∨ v3 = 1) ∧ w = (some (.int v3), σ1)))) ∧ (¬ (x1 = 0) → (((mI σ 1 6) = 23 → (∃ (v6 : Int32) (σ4 : Mm), Cl 40 [.ref 1, .int 1] σ (some (.int v6), σ4) ∧ Sg t σ4 ∧ ((v6 = 0 ∨ v6 = 1) ∧ w = (some (.int v6), σ4)))) ∧ (¬ ((mI σ 1 6) = 23) → ((s0 = 0 → Ev 63 99 [.ref 1, .int x1, .int s0] [] σ w) ∧ (¬ (s0 = 0) → (((((mI σ 1 14) >>> ((mI σ 1 13) &&& 31)) &&& 1) = 0 → Ev 63 99 [.ref 1, .int x1, .int s0] [] σ w) ∧ (¬ ((((mI σ 1 14) >>> ((mI σ 1 13) &&& 31)) &&& 1) = 0) → (∃ (v9 : Int32) (σ7 : Mm), Cl 40 [.ref 1, .int 1] σ (some (.int v9), σ7) ∧ Sg t σ7 ∧ ((v9 = 0 ∨ v9 = 1) ∧ w = (some (.int v9), σ7))))))))))) :
    Ev 63 61 [.ref 1, .int x1, z2] [.int s0] σ w := by
  refine e_istore_n (ls2 := [.ref 1, .int x1, .int s0]) d_63_61 rfl rfl rfl ?_
  refine e_iload_n d_63_62 rfl rfl ?_
  refine e_if_eq (t := 93) d_63_63 (by decide) rfl (fun hc => ?_) (fun hc => ?_)
  · replace H := H.1 hc
    refine e_aload_n d_63_93 rfl rfl ?_
    refine e_iconst d_63_94 ci_1 rfl ?_
    obtain ⟨v3, σ1, hcl, hS2, H⟩ := H
    refine e_vcall (w1 := (some (.int v3), σ1)) d_63_95 kc_63_95 rfl ⟨Nat.le_of_ble_eq_true rfl, xx_63.symm⟩ rfl hcl ?_
    show Ev 63 98 [.ref 1, .int x1, .int s0] [.int v3] σ1 w
    obtain ⟨hz, H⟩ := H
    subst H
    exact e_zret d_63_98 rr_63 hz
  · replace H := H.2 hc
    refine e_aload_n d_63_66 rfl rfl ?_
    refine e_getI d_63_67 oo_63 pF_4_57 (by decide) (hS.k rfl) rfl ?_
    refine e_bipush d_63_70 cb_23 rfl ?_
    refine e_icmp_eq (t := 93) d_63_72 (by decide) rfl (fun hc => ?_) (fun hc => ?_)
    · replace H := H.1 hc
      refine e_aload_n d_63_93 rfl rfl ?_
      refine e_iconst d_63_94 ci_1 rfl ?_
      obtain ⟨v6, σ4, hcl, hS5, H⟩ := H
      refine e_vcall (w1 := (some (.int v6), σ4)) d_63_95 kc_63_95 rfl ⟨Nat.le_of_ble_eq_true rfl, xx_63.symm⟩ rfl hcl ?_
      show Ev 63 98 [.ref 1, .int x1, .int s0] [.int v6] σ4 w
      obtain ⟨hz, H⟩ := H
      subst H
      exact e_zret d_63_98 rr_63 hz
    · replace H := H.2 hc
      refine e_iload_n d_63_75 rfl rfl ?_
      refine e_if_eq (t := 99) d_63_76 (by decide) rfl (fun hc => ?_) (fun hc => ?_)
      · replace H := H.1 hc
        exact H
      · replace H := H.2 hc
        refine e_aload_n d_63_79 rfl rfl ?_
        refine e_getI d_63_80 oo_63 pF_4_213 (by decide) (hS.k rfl) rfl ?_
        refine e_aload_n d_63_83 rfl rfl ?_
        refine e_getI d_63_84 oo_63 pF_4_210 (by decide) (hS.k rfl) rfl ?_
        refine e_ishr d_63_87 rfl ?_
        refine e_iconst d_63_88 ci_1 rfl ?_
        refine e_iand d_63_89 rfl ?_
        refine e_if_eq (t := 99) d_63_90 (by decide) rfl (fun hc => ?_) (fun hc => ?_)
        · replace H := H.1 hc
          exact H
        · replace H := H.2 hc
          refine e_aload_n d_63_93 rfl rfl ?_
          refine e_iconst d_63_94 ci_1 rfl ?_
          obtain ⟨v9, σ7, hcl, hS8, H⟩ := H
          refine e_vcall (w1 := (some (.int v9), σ7)) d_63_95 kc_63_95 rfl ⟨Nat.le_of_ble_eq_true rfl, xx_63.symm⟩ rfl hcl ?_
          show Ev 63 98 [.ref 1, .int x1, .int s0] [.int v9] σ7 w
          obtain ⟨hz, H⟩ := H
          subst H
          exact e_zret d_63_98 rr_63 hz
theorem b_63_99 {t : Nat} {σ : Mm} {w : Option Value × Mm} {x1 : Int32} {x2 : Int32} (hS : Sg t σ) 
    (H : ∃ (v3 : Int32) (σ1 : Mm), Cl 65 [.ref 1] σ (some (.int v3), σ1) ∧ Sg t σ1 ∧ ((v3 = 0 → (w = (some (.int 0), σ1))) ∧ (¬ (v3 = 0) → (∃ (σ4 : Mm), Cl 68 [.ref 1, .int x1] σ1 (none, σ4) ∧ Sg t σ4 ∧ (((mI σ4 1 6) = 22 → Ev 63 137 [.ref 1, .int x1, .int x2] [.int 1, .ref 1] σ4 w) ∧ (¬ ((mI σ4 1 6) = 22) → (((mI σ4 1 6) = 21 → Ev 63 137 [.ref 1, .int x1, .int x2] [.int 1, .ref 1] σ4 w) ∧ (¬ ((mI σ4 1 6) = 21) → Ev 63 137 [.ref 1, .int x1, .int x2] [.int 0, .ref 1] σ4 w)))))))) :
    Ev 63 99 [.ref 1, .int x1, .int x2] [] σ w := by
  refine e_aload_n d_63_99 rfl rfl ?_
  obtain ⟨v3, σ1, hcl, hS2, H⟩ := H
  refine e_vcall (w1 := (some (.int v3), σ1)) d_63_100 kc_63_100 rfl ⟨Nat.le_of_ble_eq_true rfl, xx_63.symm⟩ rfl hcl ?_
  show Ev 63 103 [.ref 1, .int x1, .int x2] [.int v3] σ1 w
  refine e_if_ne (t := 108) d_63_103 (by decide) rfl (fun hc => ?_) (fun hc => ?_)
  · replace H := H.2 hc
    refine e_aload_n d_63_108 rfl rfl ?_
    refine e_iload_n d_63_109 rfl rfl ?_
    obtain ⟨σ4, hcl, hS5, H⟩ := H
    refine e_vcall (w1 := (none, σ4)) d_63_110 kc_63_110 rfl ⟨Nat.le_of_ble_eq_true rfl, xx_63.symm⟩ rfl hcl ?_
    show Ev 63 113 [.ref 1, .int x1, .int x2] [] σ4 w
    refine e_aload_n d_63_113 rfl rfl ?_
    refine e_aload_n d_63_114 rfl rfl ?_
    refine e_getI d_63_115 oo_63 pF_4_57 (by decide) (hS5.k rfl) rfl ?_
    refine e_bipush d_63_118 cb_22 rfl ?_
    refine e_icmp_eq (t := 132) d_63_120 (by decide) rfl (fun hc => ?_) (fun hc => ?_)
    · replace H := H.1 hc
      refine e_iconst d_63_132 ci_1 rfl ?_
      refine e_goto (t := 137) d_63_133 (by decide) ?_
      exact H
    · replace H := H.2 hc
      refine e_aload_n d_63_123 rfl rfl ?_
      refine e_getI d_63_124 oo_63 pF_4_57 (by decide) (hS5.k rfl) rfl ?_
      refine e_bipush d_63_127 cb_21 rfl ?_
      refine e_icmp_ne (t := 136) d_63_129 (by decide) rfl (fun hc => ?_) (fun hc => ?_)
      · replace H := H.2 hc
        refine e_iconst d_63_136 ci_0 rfl ?_
        exact H
      · replace H := H.1 hc
        refine e_iconst d_63_132 ci_1 rfl ?_
        refine e_goto (t := 137) d_63_133 (by decide) ?_
        exact H
  · replace H := H.1 hc
    refine e_iconst d_63_106 ci_0 rfl ?_
    subst H
    exact e_zret d_63_107 rr_63 (Or.inl rfl)
theorem b_63_137 {t : Nat} {σ : Mm} {w : Option Value × Mm} {x1 : Int32} {x2 : Int32} {s0 : Int32} (hS : Sg t σ) 
    (H : (s0 = 0 ∨ s0 = 1) ∧ (((mI (uI σ 1 16 s0) 1 16) = 0 → ((x2 = 0 → (∃ (v3 : Int32) (σ1 : Mm), Cl 66 [.ref 1, .int (mI (uI (uI σ 1 16 s0) 1 15 1) 1 6)] (uI (uI σ 1 16 s0) 1 15 1) (some (.int v3), σ1) ∧ Sg t σ1 ∧ ((v3 = 0 ∨ v3 = 1) ∧ w = (some (.int v3), σ1)))) ∧ (¬ (x2 = 0) → (∀ (σ4 : Mm), σ4 = uI (uI σ 1 16 s0) 1 14 ((mI (uI σ 1 16 s0) 1 14) ||| ((1 : Int32) <<< ((mI (uI σ 1 16 s0) 1 13) &&& 31))) → (∃ (v9 : Int32) (σ7 : Mm), Cl 66 [.ref 1, .int (mI (uI σ4 1 15 1) 1 6)] (uI σ4 1 15 1) (some (.int v9), σ7) ∧ Sg t σ7 ∧ ((v9 = 0 ∨ v9 = 1) ∧ w = (some (.int v9), σ7))))))) ∧ (¬ ((mI (uI σ 1 16 s0) 1 16) = 0) → (∀ (σ10 : Mm), σ10 = uI (uI σ 1 16 s0) 1 14 ((mI (uI σ 1 16 s0) 1 14) &&& (((1 : Int32) <<< ((mI (uI σ 1 16 s0) 1 13) &&& 31)) ^^^ (-1))) → (∃ (v15 : Int32) (σ13 : Mm), Cl 66 [.ref 1, .int (mI (uI σ10 1 15 1) 1 6)] (uI σ10 1 15 1) (some (.int v15), σ13) ∧ Sg t σ13 ∧ ((v15 = 0 ∨ v15 = 1) ∧ w = (some (.int v15), σ13))))))) :
    Ev 63 137 [.ref 1, .int x1, .int x2] [.int s0, .ref 1] σ w := by
  obtain ⟨hz, H⟩ := H
  refine e_putZ d_63_137 oo_63 pF_4_220 (Or.inl rfl) (hS.k rfl) hz rfl ?_
  refine e_aload_n d_63_140 rfl rfl ?_
  refine e_getZ d_63_141 oo_63 pF_4_220 (by decide) (hS.uI.k rfl) rfl ?_
  refine e_if_eq (t := 167) d_63_144 (by decide) rfl (fun hc => ?_) (fun hc => ?_)
  · replace H := H.1 hc
    refine e_iload_n d_63_167 rfl rfl ?_
    refine e_if_eq (t := 186) d_63_168 (by decide) rfl (fun hc => ?_) (fun hc => ?_)
    · replace H := H.1 hc
      refine e_aload_n d_63_186 rfl rfl ?_
      refine e_iconst d_63_187 ci_1 rfl ?_
      refine e_putZ d_63_188 oo_63 pF_4_216 (Or.inl rfl) (hS.uI.k rfl) (Or.inr rfl) rfl ?_
      refine e_aload_n d_63_191 rfl rfl ?_
      refine e_aload_n d_63_192 rfl rfl ?_
      refine e_getI d_63_193 oo_63 pF_4_57 (by decide) (hS.uI.uI.k rfl) rfl ?_
      obtain ⟨v3, σ1, hcl, hS2, H⟩ := H
      refine e_vcall (w1 := (some (.int v3), σ1)) d_63_196 kc_63_196 rfl ⟨Nat.le_of_ble_eq_true rfl, xx_63.symm⟩ rfl hcl ?_
      show Ev 63 199 [.ref 1, .int x1, .int x2] [.int v3] σ1 w
      obtain ⟨hz, H⟩ := H
      subst H
      exact e_zret d_63_199 rr_63 hz
    · replace H := H.2 hc
      refine e_aload_n d_63_171 rfl rfl ?_
      refine e_dup d_63_172 rfl rfl ?_
      refine e_getI d_63_173 oo_63 pF_4_213 (by decide) (hS.uI.k rfl) rfl ?_
      refine e_iconst d_63_176 ci_1 rfl ?_
      refine e_aload_n d_63_177 rfl rfl ?_
      refine e_getI d_63_178 oo_63 pF_4_210 (by decide) (hS.uI.k rfl) rfl ?_
      refine e_ishl d_63_181 rfl ?_
      refine e_ior d_63_182 rfl ?_
      refine e_putI d_63_183 oo_63 pF_4_213 (Or.inl rfl) (hS.uI.k rfl) rfl ?_
      generalize hm5 : uI (uI σ 1 16 s0) 1 14 ((mI (uI σ 1 16 s0) 1 14) ||| ((1 : Int32) <<< ((mI (uI σ 1 16 s0) 1 13) &&& 31))) = σ4
      have hS6 : Sg t σ4 := by rw [← hm5]; exact hS.uI.uI
      replace H := H σ4 hm5.symm
      refine e_aload_n d_63_186 rfl rfl ?_
      refine e_iconst d_63_187 ci_1 rfl ?_
      refine e_putZ d_63_188 oo_63 pF_4_216 (Or.inl rfl) (hS6.k rfl) (Or.inr rfl) rfl ?_
      refine e_aload_n d_63_191 rfl rfl ?_
      refine e_aload_n d_63_192 rfl rfl ?_
      refine e_getI d_63_193 oo_63 pF_4_57 (by decide) (hS6.uI.k rfl) rfl ?_
      obtain ⟨v9, σ7, hcl, hS8, H⟩ := H
      refine e_vcall (w1 := (some (.int v9), σ7)) d_63_196 kc_63_196 rfl ⟨Nat.le_of_ble_eq_true rfl, xx_63.symm⟩ rfl hcl ?_
      show Ev 63 199 [.ref 1, .int x1, .int x2] [.int v9] σ7 w
      obtain ⟨hz, H⟩ := H
      subst H
      exact e_zret d_63_199 rr_63 hz
  · replace H := H.2 hc
    refine e_aload_n d_63_147 rfl rfl ?_
    refine e_dup d_63_148 rfl rfl ?_
    refine e_getI d_63_149 oo_63 pF_4_213 (by decide) (hS.uI.k rfl) rfl ?_
    refine e_iconst d_63_152 ci_1 rfl ?_
    refine e_aload_n d_63_153 rfl rfl ?_
    refine e_getI d_63_154 oo_63 pF_4_210 (by decide) (hS.uI.k rfl) rfl ?_
    refine e_ishl d_63_157 rfl ?_
    refine e_iconst d_63_158 ci_m1 rfl ?_
    refine e_ixor d_63_159 rfl ?_
    refine e_iand d_63_160 rfl ?_
    refine e_putI d_63_161 oo_63 pF_4_213 (Or.inl rfl) (hS.uI.k rfl) rfl ?_
    generalize hm11 : uI (uI σ 1 16 s0) 1 14 ((mI (uI σ 1 16 s0) 1 14) &&& (((1 : Int32) <<< ((mI (uI σ 1 16 s0) 1 13) &&& 31)) ^^^ (-1))) = σ10
    have hS12 : Sg t σ10 := by rw [← hm11]; exact hS.uI.uI
    replace H := H σ10 hm11.symm
    refine e_goto (t := 186) d_63_164 (by decide) ?_
    refine e_aload_n d_63_186 rfl rfl ?_
    refine e_iconst d_63_187 ci_1 rfl ?_
    refine e_putZ d_63_188 oo_63 pF_4_216 (Or.inl rfl) (hS12.k rfl) (Or.inr rfl) rfl ?_
    refine e_aload_n d_63_191 rfl rfl ?_
    refine e_aload_n d_63_192 rfl rfl ?_
    refine e_getI d_63_193 oo_63 pF_4_57 (by decide) (hS12.uI.k rfl) rfl ?_
    obtain ⟨v15, σ13, hcl, hS14, H⟩ := H
    refine e_vcall (w1 := (some (.int v15), σ13)) d_63_196 kc_63_196 rfl ⟨Nat.le_of_ble_eq_true rfl, xx_63.symm⟩ rfl hcl ?_
    show Ev 63 199 [.ref 1, .int x1, .int x2] [.int v15] σ13 w
    obtain ⟨hz, H⟩ := H
    subst H
    exact e_zret d_63_199 rr_63 hz
/-! X4_openOne -/
theorem b_64_0 {t : Nat} {σ : Mm} {w : Option Value × Mm}  (hS : Sg t σ) 
    (H : ((mI σ 1 13) < 8 → (∀ (σ1 : Mm), σ1 = uI (uI σ 1 13 ((mI σ 1 13) + 1)) 1 14 ((mI (uI σ 1 13 ((mI σ 1 13) + 1)) 1 14) &&& (((1 : Int32) <<< ((mI (uI σ 1 13 ((mI σ 1 13) + 1)) 1 13) &&& 31)) ^^^ (-1))) → (∃ (v6 : Int32) (σ4 : Mm), Cl 66 [.ref 1, .int 38] (uI σ1 1 16 1) (some (.int v6), σ4) ∧ Sg t σ4 ∧ ((v6 = 0 ∨ v6 = 1) ∧ w = (some (.int v6), σ4))))) ∧ (¬ ((mI σ 1 13) < 8) → (∃ (v9 : Int32) (σ7 : Mm), Cl 40 [.ref 1, .int 2] σ (some (.int v9), σ7) ∧ Sg t σ7 ∧ ((v9 = 0 ∨ v9 = 1) ∧ w = (some (.int v9), σ7))))) :
    Ev 64 0 [.ref 1] [] σ w := by
  refine e_aload_n d_64_0 rfl rfl ?_
  refine e_getI d_64_1 oo_64 pF_4_210 (by decide) (hS.k rfl) rfl ?_
  refine e_bipush d_64_4 cb_8 rfl ?_
  refine e_icmp_lt (t := 15) d_64_6 (by decide) rfl (fun hc => ?_) (fun hc => ?_)
  · replace H := H.1 hc
    refine e_aload_n d_64_15 rfl rfl ?_
    refine e_dup d_64_16 rfl rfl ?_
    refine e_getI d_64_17 oo_64 pF_4_210 (by decide) (hS.k rfl) rfl ?_
    refine e_iconst d_64_20 ci_1 rfl ?_
    refine e_iadd d_64_21 rfl ?_
    refine e_putI d_64_22 oo_64 pF_4_210 (Or.inl rfl) (hS.k rfl) rfl ?_
    refine e_aload_n d_64_25 rfl rfl ?_
    refine e_dup d_64_26 rfl rfl ?_
    refine e_getI d_64_27 oo_64 pF_4_213 (by decide) (hS.uI.k rfl) rfl ?_
    refine e_iconst d_64_30 ci_1 rfl ?_
    refine e_aload_n d_64_31 rfl rfl ?_
    refine e_getI d_64_32 oo_64 pF_4_210 (by decide) (hS.uI.k rfl) rfl ?_
    refine e_ishl d_64_35 rfl ?_
    refine e_iconst d_64_36 ci_m1 rfl ?_
    refine e_ixor d_64_37 rfl ?_
    refine e_iand d_64_38 rfl ?_
    refine e_putI d_64_39 oo_64 pF_4_213 (Or.inl rfl) (hS.uI.k rfl) rfl ?_
    generalize hm2 : uI (uI σ 1 13 ((mI σ 1 13) + 1)) 1 14 ((mI (uI σ 1 13 ((mI σ 1 13) + 1)) 1 14) &&& (((1 : Int32) <<< ((mI (uI σ 1 13 ((mI σ 1 13) + 1)) 1 13) &&& 31)) ^^^ (-1))) = σ1
    have hS3 : Sg t σ1 := by rw [← hm2]; exact hS.uI.uI
    replace H := H σ1 hm2.symm
    refine e_aload_n d_64_42 rfl rfl ?_
    refine e_iconst d_64_43 ci_1 rfl ?_
    refine e_putZ d_64_44 oo_64 pF_4_220 (Or.inl rfl) (hS3.k rfl) (Or.inr rfl) rfl ?_
    refine e_aload_n d_64_47 rfl rfl ?_
    refine e_bipush d_64_48 cb_38 rfl ?_
    obtain ⟨v6, σ4, hcl, hS5, H⟩ := H
    refine e_vcall (w1 := (some (.int v6), σ4)) d_64_50 kc_64_50 rfl ⟨Nat.le_of_ble_eq_true rfl, xx_64.symm⟩ rfl hcl ?_
    show Ev 64 53 [.ref 1] [.int v6] σ4 w
    obtain ⟨hz, H⟩ := H
    subst H
    exact e_zret d_64_53 rr_64 hz
  · replace H := H.2 hc
    refine e_aload_n d_64_9 rfl rfl ?_
    refine e_iconst d_64_10 ci_2 rfl ?_
    obtain ⟨v9, σ7, hcl, hS8, H⟩ := H
    refine e_vcall (w1 := (some (.int v9), σ7)) d_64_11 kc_64_11 rfl ⟨Nat.le_of_ble_eq_true rfl, xx_64.symm⟩ rfl hcl ?_
    show Ev 64 14 [.ref 1] [.int v9] σ7 w
    obtain ⟨hz, H⟩ := H
    subst H
    exact e_zret d_64_14 rr_64 hz
/-! X4_takeKnot -/
theorem b_65_0 {t : Nat} {σ : Mm} {w : Option Value × Mm}  (hS : Sg t σ) 
    (H : ((mI σ 1 10) < 64 → (w = (some (.int 1), uI σ 1 10 ((mI σ 1 10) + 1)))) ∧ (¬ ((mI σ 1 10) < 64) → (∃ (v3 : Int32) (σ1 : Mm), Cl 40 [.ref 1, .int 2] σ (some (.int v3), σ1) ∧ Sg t σ1 ∧ ((v3 = 0 ∨ v3 = 1) ∧ w = (some (.int v3), σ1))))) :
    Ev 65 0 [.ref 1] [] σ w := by
  refine e_aload_n d_65_0 rfl rfl ?_
  refine e_getI d_65_1 oo_65 pF_4_48 (by decide) (hS.k rfl) rfl ?_
  refine e_bipush d_65_4 cb_64 rfl ?_
  refine e_icmp_lt (t := 15) d_65_6 (by decide) rfl (fun hc => ?_) (fun hc => ?_)
  · replace H := H.1 hc
    refine e_aload_n d_65_15 rfl rfl ?_
    refine e_dup d_65_16 rfl rfl ?_
    refine e_getI d_65_17 oo_65 pF_4_48 (by decide) (hS.k rfl) rfl ?_
    refine e_iconst d_65_20 ci_1 rfl ?_
    refine e_iadd d_65_21 rfl ?_
    refine e_putI d_65_22 oo_65 pF_4_48 (Or.inl rfl) (hS.k rfl) rfl ?_
    refine e_iconst d_65_25 ci_1 rfl ?_
    subst H
    exact e_zret d_65_26 rr_65 (Or.inr rfl)
  · replace H := H.2 hc
    refine e_aload_n d_65_9 rfl rfl ?_
    refine e_iconst d_65_10 ci_2 rfl ?_
    obtain ⟨v3, σ1, hcl, hS2, H⟩ := H
    refine e_vcall (w1 := (some (.int v3), σ1)) d_65_11 kc_65_11 rfl ⟨Nat.le_of_ble_eq_true rfl, xx_65.symm⟩ rfl hcl ?_
    show Ev 65 14 [.ref 1] [.int v3] σ1 w
    obtain ⟨hz, H⟩ := H
    subst H
    exact e_zret d_65_14 rr_65 hz
/-! X4_putOff -/
theorem b_66_0 {t : Nat} {σ : Mm} {w : Option Value × Mm} {x1 : Int32} (hS : Sg t σ) 
    (H : ((mI σ 1 12) < 0 → (∃ (v3 : Int32) (σ1 : Mm), Cl 40 [.ref 1, .int 2] σ (some (.int v3), σ1) ∧ Sg t σ1 ∧ ((v3 = 0 ∨ v3 = 1) ∧ w = (some (.int v3), σ1)))) ∧ (¬ ((mI σ 1 12) < 0) → (((mI σ 1 12) < 72 → (inb (mI σ 1 12) 72 = true ∧ (∀ (σ4 : Mm), σ4 = uI (uI σ 14 (mI σ 1 12).toNatClampNeg x1) 1 12 ((mI (uI σ 14 (mI σ 1 12).toNatClampNeg x1) 1 12) + 1) → (w = (some (.int 1), σ4))))) ∧ (¬ ((mI σ 1 12) < 72) → (∃ (v9 : Int32) (σ7 : Mm), Cl 40 [.ref 1, .int 2] σ (some (.int v9), σ7) ∧ Sg t σ7 ∧ ((v9 = 0 ∨ v9 = 1) ∧ w = (some (.int v9), σ7))))))) :
    Ev 66 0 [.ref 1, .int x1] [] σ w := by
  refine e_aload_n d_66_0 rfl rfl ?_
  refine e_getI d_66_1 oo_66 pF_4_207 (by decide) (hS.k rfl) rfl ?_
  refine e_if_lt (t := 19) d_66_4 (by decide) rfl (fun hc => ?_) (fun hc => ?_)
  · replace H := H.1 hc
    refine e_aload_n d_66_19 rfl rfl ?_
    refine e_iconst d_66_20 ci_2 rfl ?_
    obtain ⟨v3, σ1, hcl, hS2, H⟩ := H
    refine e_vcall (w1 := (some (.int v3), σ1)) d_66_21 kc_66_21 rfl ⟨Nat.le_of_ble_eq_true rfl, xx_66.symm⟩ rfl hcl ?_
    show Ev 66 24 [.ref 1, .int x1] [.int v3] σ1 w
    obtain ⟨hz, H⟩ := H
    subst H
    exact e_zret d_66_24 rr_66 hz
  · replace H := H.2 hc
    refine e_aload_n d_66_7 rfl rfl ?_
    refine e_getI d_66_8 oo_66 pF_4_207 (by decide) (hS.k rfl) rfl ?_
    refine e_aload_n d_66_11 rfl rfl ?_
    refine e_getR d_66_12 oo_66 pF_4_22 (by decide) (hS.k rfl) (hS.r rt_1_11) rfl ?_
    refine e_alen (v := 72) d_66_15 (alen_at (hS.k rfl) ⟨by decide, by decide⟩) rfl rfl ?_
    refine e_icmp_lt (t := 25) d_66_16 (by decide) rfl (fun hc => ?_) (fun hc => ?_)
    · replace H := H.1 hc
      refine e_aload_n d_66_25 rfl rfl ?_
      refine e_getR d_66_26 oo_66 pF_4_22 (by decide) (hS.k rfl) (hS.r rt_1_11) rfl ?_
      refine e_aload_n d_66_29 rfl rfl ?_
      refine e_getI d_66_30 oo_66 pF_4_207 (by decide) (hS.k rfl) rfl ?_
      refine e_iload_n d_66_33 rfl rfl ?_
      obtain ⟨hb, H⟩ := H
      refine e_iastore d_66_34 (okI_at (hS.k rfl) hb) rfl ?_
      refine e_aload_n d_66_35 rfl rfl ?_
      refine e_dup d_66_36 rfl rfl ?_
      refine e_getI d_66_37 oo_66 pF_4_207 (by decide) (hS.uI.k rfl) rfl ?_
      refine e_iconst d_66_40 ci_1 rfl ?_
      refine e_iadd d_66_41 rfl ?_
      refine e_putI d_66_42 oo_66 pF_4_207 (Or.inl rfl) (hS.uI.k rfl) rfl ?_
      generalize hm5 : uI (uI σ 14 (mI σ 1 12).toNatClampNeg x1) 1 12 ((mI (uI σ 14 (mI σ 1 12).toNatClampNeg x1) 1 12) + 1) = σ4
      have hS6 : Sg t σ4 := by rw [← hm5]; exact hS.uI.uI
      replace H := H σ4 hm5.symm
      refine e_iconst d_66_45 ci_1 rfl ?_
      subst H
      exact e_zret d_66_46 rr_66 (Or.inr rfl)
    · replace H := H.2 hc
      refine e_aload_n d_66_19 rfl rfl ?_
      refine e_iconst d_66_20 ci_2 rfl ?_
      obtain ⟨v9, σ7, hcl, hS8, H⟩ := H
      refine e_vcall (w1 := (some (.int v9), σ7)) d_66_21 kc_66_21 rfl ⟨Nat.le_of_ble_eq_true rfl, xx_66.symm⟩ rfl hcl ?_
      show Ev 66 24 [.ref 1, .int x1] [.int v9] σ7 w
      obtain ⟨hz, H⟩ := H
      subst H
      exact e_zret d_66_24 rr_66 hz
/-! X4_addStep -/
theorem b_67_0 {t : Nat} {σ : Mm} {w : Option Value × Mm} {x1 : Int32} (hS : Sg t σ) 
    (H : ((mI σ (18 - t) 7) < 0 → (∃ (v3 : Int32) (σ1 : Mm), Cl 40 [.ref 1, .int 2] σ (some (.int v3), σ1) ∧ Sg t σ1 ∧ ((v3 = 0 ∨ v3 = 1) ∧ w = (some (.int v3), σ1)))) ∧ (¬ ((mI σ (18 - t) 7) < 0) → (((mI σ (18 - t) 7) < 64 → (inb (mI σ (18 - t) 7) 64 = true ∧ (∀ (σ4 : Mm), σ4 = uI σ ((18 - t) + 8) (mI σ (18 - t) 7).toNatClampNeg x1 → (∀ (σ7 : Mm), σ7 = uI σ4 (18 - t) 7 ((mI σ4 (18 - t) 7) + 1) → (w = (some (.int 1), σ7)))))) ∧ (¬ ((mI σ (18 - t) 7) < 64) → (∃ (v12 : Int32) (σ10 : Mm), Cl 40 [.ref 1, .int 2] σ (some (.int v12), σ10) ∧ Sg t σ10 ∧ ((v12 = 0 ∨ v12 = 1) ∧ w = (some (.int v12), σ10))))))) :
    Ev 67 0 [.ref 1, .int x1] [] σ w := by
  refine e_aload_n d_67_0 rfl rfl ?_
  refine e_getR d_67_1 oo_67 pF_4_18 (by decide) (hS.k rfl) hS.into rfl ?_
  refine e_getI d_67_4 oo_67 pF_4_198 (by decide) (hS.k (kT hS.ti)) rfl ?_
  refine e_if_lt (t := 22) d_67_7 (by decide) rfl (fun hc => ?_) (fun hc => ?_)
  · replace H := H.1 hc
    refine e_aload_n d_67_22 rfl rfl ?_
    refine e_iconst d_67_23 ci_2 rfl ?_
    obtain ⟨v3, σ1, hcl, hS2, H⟩ := H
    refine e_vcall (w1 := (some (.int v3), σ1)) d_67_24 kc_67_24 rfl ⟨Nat.le_of_ble_eq_true rfl, xx_67.symm⟩ rfl hcl ?_
    show Ev 67 27 [.ref 1, .int x1] [.int v3] σ1 w
    obtain ⟨hz, H⟩ := H
    subst H
    exact e_zret d_67_27 rr_67 hz
  · replace H := H.2 hc
    refine e_aload_n d_67_10 rfl rfl ?_
    refine e_getR d_67_11 oo_67 pF_4_18 (by decide) (hS.k rfl) hS.into rfl ?_
    refine e_getI d_67_14 oo_67 pF_4_198 (by decide) (hS.k (kT hS.ti)) rfl ?_
    refine e_bipush d_67_17 cb_64 rfl ?_
    refine e_icmp_lt (t := 28) d_67_19 (by decide) rfl (fun hc => ?_) (fun hc => ?_)
    · replace H := H.1 hc
      refine e_aload_n d_67_28 rfl rfl ?_
      refine e_getR d_67_29 oo_67 pF_4_18 (by decide) (hS.k rfl) hS.into rfl ?_
      refine e_getR d_67_32 oo_67 pF_4_248 (by decide) (hS.k (kT hS.ti)) (hS.rT15 hS.ti) rfl ?_
      refine e_aload_n d_67_35 rfl rfl ?_
      refine e_getR d_67_36 oo_67 pF_4_18 (by decide) (hS.k rfl) hS.into rfl ?_
      refine e_getI d_67_39 oo_67 pF_4_198 (by decide) (hS.k (kT hS.ti)) rfl ?_
      refine e_iload_n d_67_42 rfl rfl ?_
      obtain ⟨hb, H⟩ := H
      refine e_iastore d_67_43 (okI_at (hS.k (kT8 hS.ti)) hb) rfl ?_
      generalize hm5 : uI σ ((18 - t) + 8) (mI σ (18 - t) 7).toNatClampNeg x1 = σ4
      have hS6 : Sg t σ4 := by rw [← hm5]; exact hS.uI
      replace H := H σ4 hm5.symm
      refine e_aload_n d_67_44 rfl rfl ?_
      refine e_getR d_67_45 oo_67 pF_4_18 (by decide) (hS6.k rfl) hS6.into rfl ?_
      refine e_dup d_67_48 rfl rfl ?_
      refine e_getI d_67_49 oo_67 pF_4_198 (by decide) (hS6.k (kT hS.ti)) rfl ?_
      refine e_iconst d_67_52 ci_1 rfl ?_
      refine e_iadd d_67_53 rfl ?_
      refine e_putI d_67_54 oo_67 pF_4_198 (Or.inl rfl) (hS6.k (kT hS.ti)) rfl ?_
      generalize hm8 : uI σ4 (18 - t) 7 ((mI σ4 (18 - t) 7) + 1) = σ7
      have hS9 : Sg t σ7 := by rw [← hm8]; exact hS6.uI
      replace H := H σ7 hm8.symm
      refine e_iconst d_67_57 ci_1 rfl ?_
      subst H
      exact e_zret d_67_58 rr_67 (Or.inr rfl)
    · replace H := H.2 hc
      refine e_aload_n d_67_22 rfl rfl ?_
      refine e_iconst d_67_23 ci_2 rfl ?_
      obtain ⟨v12, σ10, hcl, hS11, H⟩ := H
      refine e_vcall (w1 := (some (.int v12), σ10)) d_67_24 kc_67_24 rfl ⟨Nat.le_of_ble_eq_true rfl, xx_67.symm⟩ rfl hcl ?_
      show Ev 67 27 [.ref 1, .int x1] [.int v12] σ10 w
      obtain ⟨hz, H⟩ := H
      subst H
      exact e_zret d_67_27 rr_67 hz
/-! X4_settle -/
theorem b_68_0 {t : Nat} {σ : Mm} {w : Option Value × Mm} {x1 : Int32} (hS : Sg t σ) 
    (H : (0 < (mI σ 1 12) → (inb ((mI σ 1 12) - 1) 72 = true ∧ (((mI σ 14 ((mI σ 1 12) - 1).toNatClampNeg) = 38 → (w = (none, σ))) ∧ (¬ ((mI σ 14 ((mI σ 1 12) - 1).toNatClampNeg) = 38) → (inb ((mI σ 1 12) - 1) 72 = true ∧ (∃ (v3 : Int32) (σ1 : Mm), Cl 69 [.int (mI σ 14 ((mI σ 1 12) - 1).toNatClampNeg)] σ (some (.int v3), σ1) ∧ Sg t σ1 ∧ ((v3 < x1 → (w = (none, σ1))) ∧ (¬ (v3 < x1) → (inb (mI (uI σ1 1 12 ((mI σ1 1 12) - 1)) 1 12) 72 = true ∧ (∃ (v6 : Int32) (σ4 : Mm), Cl 67 [.ref 1, .int (10000 + (mI (uI σ1 1 12 ((mI σ1 1 12) - 1)) 14 (mI (uI σ1 1 12 ((mI σ1 1 12) - 1)) 1 12).toNatClampNeg))] (uI σ1 1 12 ((mI σ1 1 12) - 1)) (some (.int v6), σ4) ∧ Sg t σ4 ∧ Ev 68 0 [.ref 1, .int x1] [] σ4 w)))))))))) ∧ (¬ (0 < (mI σ 1 12)) → (w = (none, σ)))) :
    Ev 68 0 [.ref 1, .int x1] [] σ w := by
  refine e_aload_n d_68_0 rfl rfl ?_
  refine e_getI d_68_1 oo_68 pF_4_207 (by decide) (hS.k rfl) rfl ?_
  refine e_if_le (t := 72) d_68_4 (by decide) rfl (fun hc => ?_) (fun hc => ?_)
  · replace H := H.2 hc
    subst H
    exact e_vret d_68_72 rr_68
  · replace H := H.1 hc
    refine e_aload_n d_68_7 rfl rfl ?_
    refine e_getR d_68_8 oo_68 pF_4_22 (by decide) (hS.k rfl) (hS.r rt_1_11) rfl ?_
    refine e_aload_n d_68_11 rfl rfl ?_
    refine e_getI d_68_12 oo_68 pF_4_207 (by decide) (hS.k rfl) rfl ?_
    refine e_iconst d_68_15 ci_1 rfl ?_
    refine e_isub d_68_16 rfl ?_
    obtain ⟨hb, H⟩ := H
    refine e_iaload (v := (mI σ 14 ((mI σ 1 12) - 1).toNatClampNeg)) d_68_17 (rdI_at (hS.k rfl) hb) rfl ?_
    refine e_bipush d_68_18 cb_38 rfl ?_
    refine e_icmp_eq (t := 72) d_68_20 (by decide) rfl (fun hc => ?_) (fun hc => ?_)
    · replace H := H.1 hc
      subst H
      exact e_vret d_68_72 rr_68
    · replace H := H.2 hc
      refine e_aload_n d_68_23 rfl rfl ?_
      refine e_getR d_68_24 oo_68 pF_4_22 (by decide) (hS.k rfl) (hS.r rt_1_11) rfl ?_
      refine e_aload_n d_68_27 rfl rfl ?_
      refine e_getI d_68_28 oo_68 pF_4_207 (by decide) (hS.k rfl) rfl ?_
      refine e_iconst d_68_31 ci_1 rfl ?_
      refine e_isub d_68_32 rfl ?_
      obtain ⟨hb, H⟩ := H
      refine e_iaload (v := (mI σ 14 ((mI σ 1 12) - 1).toNatClampNeg)) d_68_33 (rdI_at (hS.k rfl) hb) rfl ?_
      obtain ⟨v3, σ1, hcl, hS2, H⟩ := H
      refine e_scall (w1 := (some (.int v3), σ1)) d_68_34 kc_68_34 rfl ⟨Nat.le_of_ble_eq_true rfl, xx_68.symm⟩ rfl hcl ?_
      show Ev 68 37 [.ref 1, .int x1] [.int v3] σ1 w
      refine e_iload_n d_68_37 rfl rfl ?_
      refine e_icmp_lt (t := 72) d_68_38 (by decide) rfl (fun hc => ?_) (fun hc => ?_)
      · replace H := H.1 hc
        subst H
        exact e_vret d_68_72 rr_68
      · replace H := H.2 hc
        refine e_aload_n d_68_41 rfl rfl ?_
        refine e_dup d_68_42 rfl rfl ?_
        refine e_getI d_68_43 oo_68 pF_4_207 (by decide) (hS2.k rfl) rfl ?_
        refine e_iconst d_68_46 ci_1 rfl ?_
        refine e_isub d_68_47 rfl ?_
        refine e_putI d_68_48 oo_68 pF_4_207 (Or.inl rfl) (hS2.k rfl) rfl ?_
        refine e_aload_n d_68_51 rfl rfl ?_
        refine e_sipush d_68_52 cs_10000 rfl ?_
        refine e_aload_n d_68_55 rfl rfl ?_
        refine e_getR d_68_56 oo_68 pF_4_22 (by decide) (hS2.uI.k rfl) (hS2.uI.r rt_1_11) rfl ?_
        refine e_aload_n d_68_59 rfl rfl ?_
        refine e_getI d_68_60 oo_68 pF_4_207 (by decide) (hS2.uI.k rfl) rfl ?_
        obtain ⟨hb, H⟩ := H
        refine e_iaload (v := (mI (uI σ1 1 12 ((mI σ1 1 12) - 1)) 14 (mI (uI σ1 1 12 ((mI σ1 1 12) - 1)) 1 12).toNatClampNeg)) d_68_63 (rdI_at (hS2.uI.k rfl) hb) rfl ?_
        refine e_iadd d_68_64 rfl ?_
        obtain ⟨v6, σ4, hcl, hS5, H⟩ := H
        refine e_vcall (w1 := (some (.int v6), σ4)) d_68_65 kc_68_65 rfl ⟨Nat.le_of_ble_eq_true rfl, xx_68.symm⟩ rfl hcl ?_
        show Ev 68 68 [.ref 1, .int x1] [.int v6] σ4 w
        refine e_pop d_68_68 rfl rfl ?_
        refine e_goto (t := 0) d_68_69 (by decide) ?_
        exact H
/-! X4_bindingOf -/
theorem b_69_0 {t : Nat} {σ : Mm} {w : Option Value × Mm} {x0 : Int32} (hS : Sg t σ) 
    (H : (x0 = 21 → (w = (some (.int 1), σ))) ∧ (x0 = 22 → (w = (some (.int 2), σ))) ∧ (x0 = 23 → (w = (some (.int 3), σ))) ∧ (x0 = 31 → (w = (some (.int 5), σ))) ∧ (x0 = 32 → (w = (some (.int 5), σ))) ∧ (x0 = 33 → (w = (some (.int 6), σ))) ∧ (x0 = 34 → (w = (some (.int 6), σ))) ∧ (x0 = 35 → (w = (some (.int 4), σ))) ∧ (x0 = 36 → (w = (some (.int 4), σ))) ∧ (x0 = 37 → (w = (some (.int 4), σ))) ∧ (x0 = 41 → (w = (some (.int 4), σ))) ∧ (x0 = 42 → (w = (some (.int 4), σ))) ∧ (x0 = 43 → (w = (some (.int 4), σ))) ∧ ((¬ x0 = 21 ∧ ¬ x0 = 22 ∧ ¬ x0 = 23 ∧ ¬ x0 = 31 ∧ ¬ x0 = 32 ∧ ¬ x0 = 33 ∧ ¬ x0 = 34 ∧ ¬ x0 = 35 ∧ ¬ x0 = 36 ∧ ¬ x0 = 37 ∧ ¬ x0 = 41 ∧ ¬ x0 = 42 ∧ ¬ x0 = 43) → (w = (some (.int 0), σ)))) :
    Ev 69 0 [.int x0] [] σ w := by
  refine e_iload_n d_69_0 rfl rfl ?_
  by_cases hs21 : x0 = 21
  · replace H := H.1 hs21
    refine e_table (off := 107) (t := 108) d_69_1 (by rw [hs21]; decide +kernel) (by decide) ?_
    refine e_iconst d_69_108 ci_1 rfl ?_
    subst H
    exact e_iret d_69_109 rr_69
  by_cases hs22 : x0 = 22
  · replace H := H.2.1 hs22
    refine e_table (off := 109) (t := 110) d_69_1 (by rw [hs22]; decide +kernel) (by decide) ?_
    refine e_iconst d_69_110 ci_2 rfl ?_
    subst H
    exact e_iret d_69_111 rr_69
  by_cases hs23 : x0 = 23
  · replace H := H.2.2.1 hs23
    refine e_table (off := 111) (t := 112) d_69_1 (by rw [hs23]; decide +kernel) (by decide) ?_
    refine e_iconst d_69_112 ci_3 rfl ?_
    subst H
    exact e_iret d_69_113 rr_69
  by_cases hs31 : x0 = 31
  · replace H := H.2.2.2.1 hs31
    refine e_table (off := 115) (t := 116) d_69_1 (by rw [hs31]; decide +kernel) (by decide) ?_
    refine e_iconst d_69_116 ci_5 rfl ?_
    subst H
    exact e_iret d_69_117 rr_69
  by_cases hs32 : x0 = 32
  · replace H := H.2.2.2.2.1 hs32
    refine e_table (off := 115) (t := 116) d_69_1 (by rw [hs32]; decide +kernel) (by decide) ?_
    refine e_iconst d_69_116 ci_5 rfl ?_
    subst H
    exact e_iret d_69_117 rr_69
  by_cases hs33 : x0 = 33
  · replace H := H.2.2.2.2.2.1 hs33
    refine e_table (off := 117) (t := 118) d_69_1 (by rw [hs33]; decide +kernel) (by decide) ?_
    refine e_bipush d_69_118 cb_6 rfl ?_
    subst H
    exact e_iret d_69_120 rr_69
  by_cases hs34 : x0 = 34
  · replace H := H.2.2.2.2.2.2.1 hs34
    refine e_table (off := 117) (t := 118) d_69_1 (by rw [hs34]; decide +kernel) (by decide) ?_
    refine e_bipush d_69_118 cb_6 rfl ?_
    subst H
    exact e_iret d_69_120 rr_69
  by_cases hs35 : x0 = 35
  · replace H := H.2.2.2.2.2.2.2.1 hs35
    refine e_table (off := 113) (t := 114) d_69_1 (by rw [hs35]; decide +kernel) (by decide) ?_
    refine e_iconst d_69_114 ci_4 rfl ?_
    subst H
    exact e_iret d_69_115 rr_69
  by_cases hs36 : x0 = 36
  · replace H := H.2.2.2.2.2.2.2.2.1 hs36
    refine e_table (off := 113) (t := 114) d_69_1 (by rw [hs36]; decide +kernel) (by decide) ?_
    refine e_iconst d_69_114 ci_4 rfl ?_
    subst H
    exact e_iret d_69_115 rr_69
  by_cases hs37 : x0 = 37
  · replace H := H.2.2.2.2.2.2.2.2.2.1 hs37
    refine e_table (off := 113) (t := 114) d_69_1 (by rw [hs37]; decide +kernel) (by decide) ?_
    refine e_iconst d_69_114 ci_4 rfl ?_
    subst H
    exact e_iret d_69_115 rr_69
  by_cases hs41 : x0 = 41
  · replace H := H.2.2.2.2.2.2.2.2.2.2.1 hs41
    refine e_table (off := 113) (t := 114) d_69_1 (by rw [hs41]; decide +kernel) (by decide) ?_
    refine e_iconst d_69_114 ci_4 rfl ?_
    subst H
    exact e_iret d_69_115 rr_69
  by_cases hs42 : x0 = 42
  · replace H := H.2.2.2.2.2.2.2.2.2.2.2.1 hs42
    refine e_table (off := 113) (t := 114) d_69_1 (by rw [hs42]; decide +kernel) (by decide) ?_
    refine e_iconst d_69_114 ci_4 rfl ?_
    subst H
    exact e_iret d_69_115 rr_69
  by_cases hs43 : x0 = 43
  · replace H := H.2.2.2.2.2.2.2.2.2.2.2.2.1 hs43
    refine e_table (off := 113) (t := 114) d_69_1 (by rw [hs43]; decide +kernel) (by decide) ?_
    refine e_iconst d_69_114 ci_4 rfl ?_
    subst H
    exact e_iret d_69_115 rr_69
  replace H := H.2.2.2.2.2.2.2.2.2.2.2.2.2 ⟨hs21, hs22, hs23, hs31, hs32, hs33, hs34, hs35, hs36, hs37, hs41, hs42, hs43⟩
  refine e_table (off := 120) (t := 121) d_69_1 (sw_69_1 hs21 hs22 hs23 hs31 hs32 hs33 hs34 hs35 hs36 hs37 hs41 hs42 hs43) (by decide) ?_
  refine e_iconst d_69_121 ci_0 rfl ?_
  subst H
  exact e_iret d_69_122 rr_69
