/-! X9_isLamp -/
theorem b_199_0 {t : Nat} {σ : Mm} {w : Option Value × Mm} {x1 : Int32} (hS : Sg t σ) 
    (H : (x1 < 0 → (w = (some (.int 0), σ))) ∧ (¬ (x1 < 0) → ((x1 < (mI σ 59 12) → (w = (some (.int 1), σ))) ∧ (¬ (x1 < (mI σ 59 12)) → (w = (some (.int 0), σ)))))) :
    Ev 199 0 [.ref 59, .int x1] [] σ w := by
  refine e_iload_n d_199_0 rfl rfl ?_
  refine e_if_lt (t := 16) d_199_1 (by decide) rfl (fun hc => ?_) (fun hc => ?_)
  · replace H := H.1 hc
    refine e_iconst d_199_16 ci_0 rfl ?_
    subst H
    exact e_zret d_199_17 rr_199 (Or.inl rfl)
  · replace H := H.2 hc
    refine e_iload_n d_199_4 rfl rfl ?_
    refine e_aload_n d_199_5 rfl rfl ?_
    refine e_getI d_199_6 oo_199 pF_9_222 (by decide) (hS.k rfl) rfl ?_
    refine e_icmp_ge (t := 16) d_199_9 (by decide) rfl (fun hc => ?_) (fun hc => ?_)
    · replace H := H.2 hc
      refine e_iconst d_199_16 ci_0 rfl ?_
      subst H
      exact e_zret d_199_17 rr_199 (Or.inl rfl)
    · replace H := H.1 hc
      refine e_iconst d_199_12 ci_1 rfl ?_
      refine e_goto (t := 17) d_199_13 (by decide) ?_
      subst H
      exact e_zret d_199_17 rr_199 (Or.inr rfl)
/-! X9_isPull -/
theorem b_200_0 {t : Nat} {σ : Mm} {w : Option Value × Mm} {x1 : Int32} (hS : Sg t σ) 
    (H : (x1 < 0 → (w = (some (.int 0), σ))) ∧ (¬ (x1 < 0) → ((x1 < (mI σ 59 13) → (w = (some (.int 1), σ))) ∧ (¬ (x1 < (mI σ 59 13)) → (w = (some (.int 0), σ)))))) :
    Ev 200 0 [.ref 59, .int x1] [] σ w := by
  refine e_iload_n d_200_0 rfl rfl ?_
  refine e_if_lt (t := 16) d_200_1 (by decide) rfl (fun hc => ?_) (fun hc => ?_)
  · replace H := H.1 hc
    refine e_iconst d_200_16 ci_0 rfl ?_
    subst H
    exact e_zret d_200_17 rr_200 (Or.inl rfl)
  · replace H := H.2 hc
    refine e_iload_n d_200_4 rfl rfl ?_
    refine e_aload_n d_200_5 rfl rfl ?_
    refine e_getI d_200_6 oo_200 pF_9_225 (by decide) (hS.k rfl) rfl ?_
    refine e_icmp_ge (t := 16) d_200_9 (by decide) rfl (fun hc => ?_) (fun hc => ?_)
    · replace H := H.2 hc
      refine e_iconst d_200_16 ci_0 rfl ?_
      subst H
      exact e_zret d_200_17 rr_200 (Or.inl rfl)
    · replace H := H.1 hc
      refine e_iconst d_200_12 ci_1 rfl ?_
      refine e_goto (t := 17) d_200_13 (by decide) ?_
      subst H
      exact e_zret d_200_17 rr_200 (Or.inr rfl)
/-! X9_areLamps -/
theorem b_201_0 {t : Nat} {σ : Mm} {w : Option Value × Mm} {x1 : Int32} (hS : Sg t σ) 
    (H : (x1 < 0 → (w = (some (.int 0), σ))) ∧ (¬ (x1 < 0) → (((x1 >>> ((mI σ 59 12) &&& 31)) = 0 → (w = (some (.int 1), σ))) ∧ (¬ ((x1 >>> ((mI σ 59 12) &&& 31)) = 0) → (w = (some (.int 0), σ)))))) :
    Ev 201 0 [.ref 59, .int x1] [] σ w := by
  refine e_iload_n d_201_0 rfl rfl ?_
  refine e_if_lt (t := 17) d_201_1 (by decide) rfl (fun hc => ?_) (fun hc => ?_)
  · replace H := H.1 hc
    refine e_iconst d_201_17 ci_0 rfl ?_
    subst H
    exact e_zret d_201_18 rr_201 (Or.inl rfl)
  · replace H := H.2 hc
    refine e_iload_n d_201_4 rfl rfl ?_
    refine e_aload_n d_201_5 rfl rfl ?_
    refine e_getI d_201_6 oo_201 pF_9_222 (by decide) (hS.k rfl) rfl ?_
    refine e_ishr d_201_9 rfl ?_
    refine e_if_ne (t := 17) d_201_10 (by decide) rfl (fun hc => ?_) (fun hc => ?_)
    · replace H := H.2 hc
      refine e_iconst d_201_17 ci_0 rfl ?_
      subst H
      exact e_zret d_201_18 rr_201 (Or.inl rfl)
    · replace H := H.1 hc
      refine e_iconst d_201_13 ci_1 rfl ?_
      refine e_goto (t := 18) d_201_14 (by decide) ?_
      subst H
      exact e_zret d_201_18 rr_201 (Or.inr rfl)
/-! X9_manyOf -/
theorem b_202_0 {t : Nat} {σ : Mm} {w : Option Value × Mm} {x0 : Int32} (hS : Sg t σ) 
    (H : Ev 202 4 [.int x0, .int 0, .int 0] [] σ w) :
    Ev 202 0 [.int x0, .retAddr 0, .retAddr 0] [] σ w := by
  refine e_iconst d_202_0 ci_0 rfl ?_
  refine e_istore_n (ls2 := [.int x0, .int 0, .retAddr 0]) d_202_1 rfl rfl rfl ?_
  refine e_iconst d_202_2 ci_0 rfl ?_
  refine e_istore_n (ls2 := [.int x0, .int 0, .int 0]) d_202_3 rfl rfl rfl ?_
  exact H
theorem b_202_4 {t : Nat} {σ : Mm} {w : Option Value × Mm} {x0 : Int32} {x1 : Int32} {x2 : Int32} (hS : Sg t σ) 
    (H : (x2 < 14 → Ev 202 4 [.int x0, .int (x1 + ((x0 >>> (x2 &&& 31)) &&& 1)), .int (x2 + 1)] [] σ w) ∧ (¬ (x2 < 14) → (w = (some (.int x1), σ)))) :
    Ev 202 4 [.int x0, .int x1, .int x2] [] σ w := by
  refine e_iload_n d_202_4 rfl rfl ?_
  refine e_bipush d_202_5 cb_14 rfl ?_
  refine e_icmp_ge (t := 24) d_202_7 (by decide) rfl (fun hc => ?_) (fun hc => ?_)
  · replace H := H.2 hc
    refine e_iload_n d_202_24 rfl rfl ?_
    subst H
    exact e_iret d_202_25 rr_202
  · replace H := H.1 hc
    refine e_iload_n d_202_10 rfl rfl ?_
    refine e_iload_n d_202_11 rfl rfl ?_
    refine e_iload_n d_202_12 rfl rfl ?_
    refine e_ishr d_202_13 rfl ?_
    refine e_iconst d_202_14 ci_1 rfl ?_
    refine e_iand d_202_15 rfl ?_
    refine e_iadd d_202_16 rfl ?_
    refine e_istore_n (ls2 := [.int x0, .int (x1 + ((x0 >>> (x2 &&& 31)) &&& 1)), .int x2]) d_202_17 rfl rfl rfl ?_
    refine e_iinc (ls2 := [.int x0, .int (x1 + ((x0 >>> (x2 &&& 31)) &&& 1)), .int (x2 + 1)]) d_202_18 rfl ci_1 rfl rfl rfl ?_
    refine e_goto (t := 4) d_202_21 (by decide) ?_
    exact H
/-! X9_shown2 -/
theorem b_203_0 {t : Nat} {σ : Mm} {w : Option Value × Mm} {x1 : Int32} (hS : Sg t σ) 
    (H : inb x1 2 = true ∧ (inb x1 2 = true ∧ (w = (some (.int ((mI σ 82 x1.toNatClampNeg) &&& ((mI σ 83 x1.toNatClampNeg) ^^^ (-1)))), σ)))) :
    Ev 203 0 [.ref 59, .int x1] [] σ w := by
  refine e_aload_n d_203_0 rfl rfl ?_
  refine e_getR d_203_1 oo_203 pF_9_82 (by decide) (hS.k rfl) (hS.r rt_59_49) rfl ?_
  refine e_iload_n d_203_4 rfl rfl ?_
  obtain ⟨hb, H⟩ := H
  refine e_iaload (v := (mI σ 82 x1.toNatClampNeg)) d_203_5 (rdI_at (hS.k rfl) hb) rfl ?_
  refine e_aload_n d_203_6 rfl rfl ?_
  refine e_getR d_203_7 oo_203 pF_9_85 (by decide) (hS.k rfl) (hS.r rt_59_50) rfl ?_
  refine e_iload_n d_203_10 rfl rfl ?_
  obtain ⟨hb, H⟩ := H
  refine e_iaload (v := (mI σ 83 x1.toNatClampNeg)) d_203_11 (rdI_at (hS.k rfl) hb) rfl ?_
  refine e_iconst d_203_12 ci_m1 rfl ?_
  refine e_ixor d_203_13 rfl ?_
  refine e_iand d_203_14 rfl ?_
  subst H
  exact e_iret d_203_15 rr_203
/-! X9_tiedTo -/
theorem b_204_0 {t : Nat} {σ : Mm} {w : Option Value × Mm} {x1 : Int32} {x2 : Int32} {x3 : Int32} (hS : Sg t σ) 
    (H : Ev 204 6 [.ref 59, .int x1, .int x2, .int x3, .int 0, .int 0] [] σ w) :
    Ev 204 0 [.ref 59, .int x1, .int x2, .int x3, .retAddr 0, .retAddr 0] [] σ w := by
  refine e_iconst d_204_0 ci_0 rfl ?_
  refine e_istore (ls2 := [.ref 59, .int x1, .int x2, .int x3, .int 0, .retAddr 0]) d_204_1 rfl rfl rfl ?_
  refine e_iconst d_204_3 ci_0 rfl ?_
  refine e_istore (ls2 := [.ref 59, .int x1, .int x2, .int x3, .int 0, .int 0]) d_204_4 rfl rfl rfl ?_
  exact H
theorem b_204_6 {t : Nat} {σ : Mm} {w : Option Value × Mm} {x1 : Int32} {x2 : Int32} {x3 : Int32} {x4 : Int32} {x5 : Int32} (hS : Sg t σ) 
    (H : (x5 < (mI σ 59 13) → (∃ (v3 : Int32) (σ1 : Mm), Cl 153 [.int x3, .int x5] σ (some (.int v3), σ1) ∧ Sg t σ1 ∧ ((v3 = 0 → Ev 204 6 [.ref 59, .int x1, .int x2, .int x3, .int (x4 ||| 0), .int (x5 + 1)] [] σ1 w) ∧ (¬ (v3 = 0) → (inb ((10 * x1) + x5) 20 = true ∧ (∃ (v6 : Int32) (σ4 : Mm), Cl 153 [.int (mI σ1 89 ((10 * x1) + x5).toNatClampNeg), .int x2] σ1 (some (.int v6), σ4) ∧ Sg t σ4 ∧ ((v6 = 0 → Ev 204 6 [.ref 59, .int x1, .int x2, .int x3, .int (x4 ||| 0), .int (x5 + 1)] [] σ4 w) ∧ (¬ (v6 = 0) → Ev 204 6 [.ref 59, .int x1, .int x2, .int x3, .int (x4 ||| ((1 : Int32) <<< (x5 &&& 31))), .int (x5 + 1)] [] σ4 w)))))))) ∧ (¬ (x5 < (mI σ 59 13)) → (w = (some (.int x4), σ)))) :
    Ev 204 6 [.ref 59, .int x1, .int x2, .int x3, .int x4, .int x5] [] σ w := by
  refine e_iload d_204_6 rfl rfl ?_
  refine e_aload_n d_204_8 rfl rfl ?_
  refine e_getI d_204_9 oo_204 pF_9_225 (by decide) (hS.k rfl) rfl ?_
  refine e_icmp_ge (t := 62) d_204_12 (by decide) rfl (fun hc => ?_) (fun hc => ?_)
  · replace H := H.2 hc
    refine e_iload d_204_62 rfl rfl ?_
    subst H
    exact e_iret d_204_64 rr_204
  · replace H := H.1 hc
    refine e_iload d_204_15 rfl rfl ?_
    refine e_iload_n d_204_17 rfl rfl ?_
    refine e_iload d_204_18 rfl rfl ?_
    obtain ⟨v3, σ1, hcl, hS2, H⟩ := H
    refine e_scall (w1 := (some (.int v3), σ1)) d_204_20 kc_204_20 rfl ⟨Nat.le_of_ble_eq_true rfl, xx_204.symm⟩ rfl hcl ?_
    show Ev 204 23 [.ref 59, .int x1, .int x2, .int x3, .int x4, .int x5] [.int v3, .int x4] σ1 w
    refine e_if_eq (t := 52) d_204_23 (by decide) rfl (fun hc => ?_) (fun hc => ?_)
    · replace H := H.1 hc
      refine e_iconst d_204_52 ci_0 rfl ?_
      refine e_ior d_204_53 rfl ?_
      refine e_istore (ls2 := [.ref 59, .int x1, .int x2, .int x3, .int (x4 ||| 0), .int x5]) d_204_54 rfl rfl rfl ?_
      refine e_iinc (ls2 := [.ref 59, .int x1, .int x2, .int x3, .int (x4 ||| 0), .int (x5 + 1)]) d_204_56 rfl ci_1 rfl rfl rfl ?_
      refine e_goto (t := 6) d_204_59 (by decide) ?_
      exact H
    · replace H := H.2 hc
      refine e_aload_n d_204_26 rfl rfl ?_
      refine e_getR d_204_27 oo_204 pF_9_103 (by decide) (hS2.k rfl) (hS2.r rt_59_56) rfl ?_
      refine e_bipush d_204_30 cb_10 rfl ?_
      refine e_iload_n d_204_32 rfl rfl ?_
      refine e_imul d_204_33 rfl ?_
      refine e_iload d_204_34 rfl rfl ?_
      refine e_iadd d_204_36 rfl ?_
      obtain ⟨hb, H⟩ := H
      refine e_iaload (v := (mI σ1 89 ((10 * x1) + x5).toNatClampNeg)) d_204_37 (rdI_at (hS2.k rfl) hb) rfl ?_
      refine e_iload_n d_204_38 rfl rfl ?_
      obtain ⟨v6, σ4, hcl, hS5, H⟩ := H
      refine e_scall (w1 := (some (.int v6), σ4)) d_204_39 kc_204_39 rfl ⟨Nat.le_of_ble_eq_true rfl, xx_204.symm⟩ rfl hcl ?_
      show Ev 204 42 [.ref 59, .int x1, .int x2, .int x3, .int x4, .int x5] [.int v6, .int x4] σ4 w
      refine e_if_eq (t := 52) d_204_42 (by decide) rfl (fun hc => ?_) (fun hc => ?_)
      · replace H := H.1 hc
        refine e_iconst d_204_52 ci_0 rfl ?_
        refine e_ior d_204_53 rfl ?_
        refine e_istore (ls2 := [.ref 59, .int x1, .int x2, .int x3, .int (x4 ||| 0), .int x5]) d_204_54 rfl rfl rfl ?_
        refine e_iinc (ls2 := [.ref 59, .int x1, .int x2, .int x3, .int (x4 ||| 0), .int (x5 + 1)]) d_204_56 rfl ci_1 rfl rfl rfl ?_
        refine e_goto (t := 6) d_204_59 (by decide) ?_
        exact H
      · replace H := H.2 hc
        refine e_iconst d_204_45 ci_1 rfl ?_
        refine e_iload d_204_46 rfl rfl ?_
        refine e_ishl d_204_48 rfl ?_
        refine e_goto (t := 53) d_204_49 (by decide) ?_
        refine e_ior d_204_53 rfl ?_
        refine e_istore (ls2 := [.ref 59, .int x1, .int x2, .int x3, .int (x4 ||| ((1 : Int32) <<< (x5 &&& 31))), .int x5]) d_204_54 rfl rfl rfl ?_
        refine e_iinc (ls2 := [.ref 59, .int x1, .int x2, .int x3, .int (x4 ||| ((1 : Int32) <<< (x5 &&& 31))), .int (x5 + 1)]) d_204_56 rfl ci_1 rfl rfl rfl ?_
        refine e_goto (t := 6) d_204_59 (by decide) ?_
        exact H
/-! X9_layAll -/
theorem b_205_0 {t : Nat} {σ : Mm} {w : Option Value × Mm} {x1 : Int32} (hS : Sg t σ) 
    (H : ∃ (v3 : Int32) (σ1 : Mm), Cl 203 [.ref 59, .int x1] σ (some (.int v3), σ1) ∧ Sg t σ1 ∧ (∃ (v6 : Int32) (σ4 : Mm), Cl 202 [.int v3] σ1 (some (.int v6), σ4) ∧ Sg t σ4 ∧ (inb x1 2 = true ∧ (∃ (v9 : Int32) (σ7 : Mm), Cl 202 [.int (mI (uL σ4 80 2 (Int32.toInt64 v6)) 83 x1.toNatClampNeg)] (uL σ4 80 2 (Int32.toInt64 v6)) (some (.int v9), σ7) ∧ Sg t σ7 ∧ (inb x1 2 = true ∧ (∀ (σ10 : Mm), σ10 = uL (uL σ7 80 4 (Int32.toInt64 v9)) 80 6 (Int32.toInt64 (mI (uL σ7 80 4 (Int32.toInt64 v9)) 87 x1.toNatClampNeg)) → (w = (none, σ10)))))))) :
    Ev 205 0 [.ref 59, .int x1] [] σ w := by
  refine e_aload_n d_205_0 rfl rfl ?_
  refine e_getR d_205_1 oo_205 pF_9_75 (by decide) (hS.k rfl) (hS.r rt_59_46) rfl ?_
  refine e_iconst d_205_4 ci_2 rfl ?_
  refine e_aload_n d_205_5 rfl rfl ?_
  refine e_iload_n d_205_6 rfl rfl ?_
  obtain ⟨v3, σ1, hcl, hS2, H⟩ := H
  refine e_vcall (w1 := (some (.int v3), σ1)) d_205_7 kc_205_7 rfl ⟨Nat.le_of_ble_eq_true rfl, xx_205.symm⟩ rfl hcl ?_
  show Ev 205 10 [.ref 59, .int x1] [.int v3, .int 2, .ref 80] σ1 w
  obtain ⟨v6, σ4, hcl, hS5, H⟩ := H
  refine e_scall (w1 := (some (.int v6), σ4)) d_205_10 kc_205_10 rfl ⟨Nat.le_of_ble_eq_true rfl, xx_205.symm⟩ rfl hcl ?_
  show Ev 205 13 [.ref 59, .int x1] [.int v6, .int 2, .ref 80] σ4 w
  refine e_i2l d_205_13 rfl ?_
  refine e_lastore d_205_14 (okI_at (hS5.k rfl) rfl) rfl ?_
  show Ev 205 15 [.ref 59, .int x1] [] (uL σ4 80 2 (Int32.toInt64 v6)) w
  refine e_aload_n d_205_15 rfl rfl ?_
  refine e_getR d_205_16 oo_205 pF_9_75 (by decide) (hS5.uL.k rfl) (hS5.uL.r rt_59_46) rfl ?_
  refine e_iconst d_205_19 ci_4 rfl ?_
  refine e_aload_n d_205_20 rfl rfl ?_
  refine e_getR d_205_21 oo_205 pF_9_85 (by decide) (hS5.uL.k rfl) (hS5.uL.r rt_59_50) rfl ?_
  refine e_iload_n d_205_24 rfl rfl ?_
  obtain ⟨hb, H⟩ := H
  refine e_iaload (v := (mI (uL σ4 80 2 (Int32.toInt64 v6)) 83 x1.toNatClampNeg)) d_205_25 (rdI_at (hS5.uL.k rfl) hb) rfl ?_
  obtain ⟨v9, σ7, hcl, hS8, H⟩ := H
  refine e_scall (w1 := (some (.int v9), σ7)) d_205_26 kc_205_26 rfl ⟨Nat.le_of_ble_eq_true rfl, xx_205.symm⟩ rfl hcl ?_
  show Ev 205 29 [.ref 59, .int x1] [.int v9, .int 4, .ref 80] σ7 w
  refine e_i2l d_205_29 rfl ?_
  refine e_lastore d_205_30 (okI_at (hS8.k rfl) rfl) rfl ?_
  show Ev 205 31 [.ref 59, .int x1] [] (uL σ7 80 4 (Int32.toInt64 v9)) w
  refine e_aload_n d_205_31 rfl rfl ?_
  refine e_getR d_205_32 oo_205 pF_9_75 (by decide) (hS8.uL.k rfl) (hS8.uL.r rt_59_46) rfl ?_
  refine e_bipush d_205_35 cb_6 rfl ?_
  refine e_aload_n d_205_37 rfl rfl ?_
  refine e_getR d_205_38 oo_205 pF_9_97 (by decide) (hS8.uL.k rfl) (hS8.uL.r rt_59_54) rfl ?_
  refine e_iload_n d_205_41 rfl rfl ?_
  obtain ⟨hb, H⟩ := H
  refine e_iaload (v := (mI (uL σ7 80 4 (Int32.toInt64 v9)) 87 x1.toNatClampNeg)) d_205_42 (rdI_at (hS8.uL.k rfl) hb) rfl ?_
  refine e_i2l d_205_43 rfl ?_
  refine e_lastore d_205_44 (okI_at (hS8.uL.k rfl) rfl) rfl ?_
  show Ev 205 45 [.ref 59, .int x1] [] (uL (uL σ7 80 4 (Int32.toInt64 v9)) 80 6 (Int32.toInt64 (mI (uL σ7 80 4 (Int32.toInt64 v9)) 87 x1.toNatClampNeg))) w
  generalize hm11 : uL (uL σ7 80 4 (Int32.toInt64 v9)) 80 6 (Int32.toInt64 (mI (uL σ7 80 4 (Int32.toInt64 v9)) 87 x1.toNatClampNeg)) = σ10
  have hS12 : Sg t σ10 := by rw [← hm11]; exact hS8.uL.uL
  replace H := H σ10 hm11.symm
  subst H
  exact e_vret d_205_45 rr_205
/-! X9_layPull -/
theorem b_206_0 {t : Nat} {σ : Mm} {w : Option Value × Mm} {x1 : Int32} {x2 : Int32} (hS : Sg t σ) 
    (H : ∃ (σ1 : Mm), Cl 205 [.ref 59, .int x1] σ (none, σ1) ∧ Sg t σ1 ∧ (inb x2 20 = true ∧ (∀ (σ4 : Mm), σ4 = uL σ1 80 0 (Int32.toInt64 (mI σ1 67 x2.toNatClampNeg)) → (inb ((10 * x1) + x2) 20 = true ∧ (∀ (σ7 : Mm), σ7 = uL σ4 80 1 (Int32.toInt64 (mI σ4 90 ((10 * x1) + x2).toNatClampNeg)) → (inb ((10 * x1) + x2) 20 = true ∧ (∃ (v12 : Int32) (σ10 : Mm), Cl 202 [.int (mI σ7 89 ((10 * x1) + x2).toNatClampNeg)] σ7 (some (.int v12), σ10) ∧ Sg t σ10 ∧ (∀ (σ13 : Mm), σ13 = uL (uL σ10 80 3 (Int32.toInt64 v12)) 80 5 0 → (w = (none, σ13)))))))))) :
    Ev 206 0 [.ref 59, .int x1, .int x2] [] σ w := by
  refine e_aload_n d_206_0 rfl rfl ?_
  refine e_iload_n d_206_1 rfl rfl ?_
  obtain ⟨σ1, hcl, hS2, H⟩ := H
  refine e_vcall (w1 := (none, σ1)) d_206_2 kc_206_2 rfl ⟨Nat.le_of_ble_eq_true rfl, xx_206.symm⟩ rfl hcl ?_
  show Ev 206 5 [.ref 59, .int x1, .int x2] [] σ1 w
  refine e_aload_n d_206_5 rfl rfl ?_
  refine e_getR d_206_6 oo_206 pF_9_75 (by decide) (hS2.k rfl) (hS2.r rt_59_46) rfl ?_
  refine e_iconst d_206_9 ci_0 rfl ?_
  refine e_aload_n d_206_10 rfl rfl ?_
  refine e_getR d_206_11 oo_206 pF_9_36 (by decide) (hS2.k rfl) (hS2.r rt_59_27) rfl ?_
  refine e_iload_n d_206_14 rfl rfl ?_
  obtain ⟨hb, H⟩ := H
  refine e_iaload (v := (mI σ1 67 x2.toNatClampNeg)) d_206_15 (rdI_at (hS2.k rfl) hb) rfl ?_
  refine e_i2l d_206_16 rfl ?_
  refine e_lastore d_206_17 (okI_at (hS2.k rfl) rfl) rfl ?_
  show Ev 206 18 [.ref 59, .int x1, .int x2] [] (uL σ1 80 0 (Int32.toInt64 (mI σ1 67 x2.toNatClampNeg))) w
  generalize hm5 : uL σ1 80 0 (Int32.toInt64 (mI σ1 67 x2.toNatClampNeg)) = σ4
  have hS6 : Sg t σ4 := by rw [← hm5]; exact hS2.uL
  replace H := H σ4 hm5.symm
  refine e_aload_n d_206_18 rfl rfl ?_
  refine e_getR d_206_19 oo_206 pF_9_75 (by decide) (hS6.k rfl) (hS6.r rt_59_46) rfl ?_
  refine e_iconst d_206_22 ci_1 rfl ?_
  refine e_aload_n d_206_23 rfl rfl ?_
  refine e_getR d_206_24 oo_206 pF_9_106 (by decide) (hS6.k rfl) (hS6.r rt_59_57) rfl ?_
  refine e_bipush d_206_27 cb_10 rfl ?_
  refine e_iload_n d_206_29 rfl rfl ?_
  refine e_imul d_206_30 rfl ?_
  refine e_iload_n d_206_31 rfl rfl ?_
  refine e_iadd d_206_32 rfl ?_
  obtain ⟨hb, H⟩ := H
  refine e_iaload (v := (mI σ4 90 ((10 * x1) + x2).toNatClampNeg)) d_206_33 (rdI_at (hS6.k rfl) hb) rfl ?_
  refine e_i2l d_206_34 rfl ?_
  refine e_lastore d_206_35 (okI_at (hS6.k rfl) rfl) rfl ?_
  show Ev 206 36 [.ref 59, .int x1, .int x2] [] (uL σ4 80 1 (Int32.toInt64 (mI σ4 90 ((10 * x1) + x2).toNatClampNeg))) w
  generalize hm8 : uL σ4 80 1 (Int32.toInt64 (mI σ4 90 ((10 * x1) + x2).toNatClampNeg)) = σ7
  have hS9 : Sg t σ7 := by rw [← hm8]; exact hS6.uL
  replace H := H σ7 hm8.symm
  refine e_aload_n d_206_36 rfl rfl ?_
  refine e_getR d_206_37 oo_206 pF_9_75 (by decide) (hS9.k rfl) (hS9.r rt_59_46) rfl ?_
  refine e_iconst d_206_40 ci_3 rfl ?_
  refine e_aload_n d_206_41 rfl rfl ?_
  refine e_getR d_206_42 oo_206 pF_9_103 (by decide) (hS9.k rfl) (hS9.r rt_59_56) rfl ?_
  refine e_bipush d_206_45 cb_10 rfl ?_
  refine e_iload_n d_206_47 rfl rfl ?_
  refine e_imul d_206_48 rfl ?_
  refine e_iload_n d_206_49 rfl rfl ?_
  refine e_iadd d_206_50 rfl ?_
  obtain ⟨hb, H⟩ := H
  refine e_iaload (v := (mI σ7 89 ((10 * x1) + x2).toNatClampNeg)) d_206_51 (rdI_at (hS9.k rfl) hb) rfl ?_
  obtain ⟨v12, σ10, hcl, hS11, H⟩ := H
  refine e_scall (w1 := (some (.int v12), σ10)) d_206_52 kc_206_52 rfl ⟨Nat.le_of_ble_eq_true rfl, xx_206.symm⟩ rfl hcl ?_
  show Ev 206 55 [.ref 59, .int x1, .int x2] [.int v12, .int 3, .ref 80] σ10 w
  refine e_i2l d_206_55 rfl ?_
  refine e_lastore d_206_56 (okI_at (hS11.k rfl) rfl) rfl ?_
  show Ev 206 57 [.ref 59, .int x1, .int x2] [] (uL σ10 80 3 (Int32.toInt64 v12)) w
  refine e_aload_n d_206_57 rfl rfl ?_
  refine e_getR d_206_58 oo_206 pF_9_75 (by decide) (hS11.uL.k rfl) (hS11.uL.r rt_59_46) rfl ?_
  refine e_iconst d_206_61 ci_5 rfl ?_
  refine e_lconst d_206_62 cl_0 rfl ?_
  refine e_lastore d_206_63 (okI_at (hS11.uL.k rfl) rfl) rfl ?_
  show Ev 206 64 [.ref 59, .int x1, .int x2] [] (uL (uL σ10 80 3 (Int32.toInt64 v12)) 80 5 0) w
  generalize hm14 : uL (uL σ10 80 3 (Int32.toInt64 v12)) 80 5 0 = σ13
  have hS15 : Sg t σ13 := by rw [← hm14]; exact hS11.uL.uL
  replace H := H σ13 hm14.symm
  subst H
  exact e_vret d_206_64 rr_206
/-! X9_layLamp -/
theorem b_207_0 {t : Nat} {σ : Mm} {w : Option Value × Mm} {x1 : Int32} {x2 : Int32} (hS : Sg t σ) 
    (H : ∃ (σ1 : Mm), Cl 205 [.ref 59, .int x1] σ (none, σ1) ∧ Sg t σ1 ∧ (∃ (v6 : Int32) (σ4 : Mm), Cl 204 [.ref 59, .int x1, .int x2, .int 1023] (uL (uL σ1 80 0 0) 80 1 0) (some (.int v6), σ4) ∧ Sg t σ4 ∧ (∃ (v9 : Int32) (σ7 : Mm), Cl 202 [.int v6] σ4 (some (.int v9), σ7) ∧ Sg t σ7 ∧ (inb ((14 * x1) + x2) 28 = true ∧ (∀ (σ10 : Mm), σ10 = uL (uL σ7 80 3 (Int32.toInt64 v9)) 80 5 (Int32.toInt64 (mI (uL σ7 80 3 (Int32.toInt64 v9)) 88 ((14 * x1) + x2).toNatClampNeg)) → (w = (none, σ10))))))) :
    Ev 207 0 [.ref 59, .int x1, .int x2] [] σ w := by
  refine e_aload_n d_207_0 rfl rfl ?_
  refine e_iload_n d_207_1 rfl rfl ?_
  obtain ⟨σ1, hcl, hS2, H⟩ := H
  refine e_vcall (w1 := (none, σ1)) d_207_2 kc_207_2 rfl ⟨Nat.le_of_ble_eq_true rfl, xx_207.symm⟩ rfl hcl ?_
  show Ev 207 5 [.ref 59, .int x1, .int x2] [] σ1 w
  refine e_aload_n d_207_5 rfl rfl ?_
  refine e_getR d_207_6 oo_207 pF_9_75 (by decide) (hS2.k rfl) (hS2.r rt_59_46) rfl ?_
  refine e_iconst d_207_9 ci_0 rfl ?_
  refine e_lconst d_207_10 cl_0 rfl ?_
  refine e_lastore d_207_11 (okI_at (hS2.k rfl) rfl) rfl ?_
  show Ev 207 12 [.ref 59, .int x1, .int x2] [] (uL σ1 80 0 0) w
  refine e_aload_n d_207_12 rfl rfl ?_
  refine e_getR d_207_13 oo_207 pF_9_75 (by decide) (hS2.uL.k rfl) (hS2.uL.r rt_59_46) rfl ?_
  refine e_iconst d_207_16 ci_1 rfl ?_
  refine e_lconst d_207_17 cl_0 rfl ?_
  refine e_lastore d_207_18 (okI_at (hS2.uL.k rfl) rfl) rfl ?_
  show Ev 207 19 [.ref 59, .int x1, .int x2] [] (uL (uL σ1 80 0 0) 80 1 0) w
  refine e_aload_n d_207_19 rfl rfl ?_
  refine e_getR d_207_20 oo_207 pF_9_75 (by decide) (hS2.uL.uL.k rfl) (hS2.uL.uL.r rt_59_46) rfl ?_
  refine e_iconst d_207_23 ci_3 rfl ?_
  refine e_aload_n d_207_24 rfl rfl ?_
  refine e_iload_n d_207_25 rfl rfl ?_
  refine e_iload_n d_207_26 rfl rfl ?_
  refine e_sipush d_207_27 cs_1023 rfl ?_
  obtain ⟨v6, σ4, hcl, hS5, H⟩ := H
  refine e_vcall (w1 := (some (.int v6), σ4)) d_207_30 kc_207_30 rfl ⟨Nat.le_of_ble_eq_true rfl, xx_207.symm⟩ rfl hcl ?_
  show Ev 207 33 [.ref 59, .int x1, .int x2] [.int v6, .int 3, .ref 80] σ4 w
  obtain ⟨v9, σ7, hcl, hS8, H⟩ := H
  refine e_scall (w1 := (some (.int v9), σ7)) d_207_33 kc_207_33 rfl ⟨Nat.le_of_ble_eq_true rfl, xx_207.symm⟩ rfl hcl ?_
  show Ev 207 36 [.ref 59, .int x1, .int x2] [.int v9, .int 3, .ref 80] σ7 w
  refine e_i2l d_207_36 rfl ?_
  refine e_lastore d_207_37 (okI_at (hS8.k rfl) rfl) rfl ?_
  show Ev 207 38 [.ref 59, .int x1, .int x2] [] (uL σ7 80 3 (Int32.toInt64 v9)) w
  refine e_aload_n d_207_38 rfl rfl ?_
  refine e_getR d_207_39 oo_207 pF_9_75 (by decide) (hS8.uL.k rfl) (hS8.uL.r rt_59_46) rfl ?_
  refine e_iconst d_207_42 ci_5 rfl ?_
  refine e_aload_n d_207_43 rfl rfl ?_
  refine e_getR d_207_44 oo_207 pF_9_100 (by decide) (hS8.uL.k rfl) (hS8.uL.r rt_59_55) rfl ?_
  refine e_bipush d_207_47 cb_14 rfl ?_
  refine e_iload_n d_207_49 rfl rfl ?_
  refine e_imul d_207_50 rfl ?_
  refine e_iload_n d_207_51 rfl rfl ?_
  refine e_iadd d_207_52 rfl ?_
  obtain ⟨hb, H⟩ := H
  refine e_iaload (v := (mI (uL σ7 80 3 (Int32.toInt64 v9)) 88 ((14 * x1) + x2).toNatClampNeg)) d_207_53 (rdI_at (hS8.uL.k rfl) hb) rfl ?_
  refine e_i2l d_207_54 rfl ?_
  refine e_lastore d_207_55 (okI_at (hS8.uL.k rfl) rfl) rfl ?_
  show Ev 207 56 [.ref 59, .int x1, .int x2] [] (uL (uL σ7 80 3 (Int32.toInt64 v9)) 80 5 (Int32.toInt64 (mI (uL σ7 80 3 (Int32.toInt64 v9)) 88 ((14 * x1) + x2).toNatClampNeg))) w
  generalize hm11 : uL (uL σ7 80 3 (Int32.toInt64 v9)) 80 5 (Int32.toInt64 (mI (uL σ7 80 3 (Int32.toInt64 v9)) 88 ((14 * x1) + x2).toNatClampNeg)) = σ10
  have hS12 : Sg t σ10 := by rw [← hm11]; exact hS8.uL.uL
  replace H := H σ10 hm11.symm
  subst H
  exact e_vret d_207_56 rr_207
/-! X9_lawOf -/
theorem b_208_0 {t : Nat} {σ : Mm} {w : Option Value × Mm} {x1 : Int32} (hS : Sg t σ) 
    (H : inb x1 6 = true ∧ Ev 208 12 [.ref 59, .int x1, .int (mI (uI σ 59 48 0) 73 x1.toNatClampNeg)] [] (uI σ 59 48 0) w) :
    Ev 208 0 [.ref 59, .int x1, .retAddr 0] [] σ w := by
  refine e_aload_n d_208_0 rfl rfl ?_
  refine e_iconst d_208_1 ci_0 rfl ?_
  refine e_putZ d_208_2 oo_208 pF_9_336 (Or.inl rfl) (hS.k rfl) (Or.inl rfl) rfl ?_
  refine e_aload_n d_208_5 rfl rfl ?_
  refine e_getR d_208_6 oo_208 pF_9_54 (by decide) (hS.uI.k rfl) (hS.uI.r rt_59_33) rfl ?_
  refine e_iload_n d_208_9 rfl rfl ?_
  obtain ⟨hb, H⟩ := H
  refine e_iaload (v := (mI (uI σ 59 48 0) 73 x1.toNatClampNeg)) d_208_10 (rdI_at (hS.uI.k rfl) hb) rfl ?_
  refine e_istore_n (ls2 := [.ref 59, .int x1, .int (mI (uI σ 59 48 0) 73 x1.toNatClampNeg)]) d_208_11 rfl rfl rfl ?_
  exact H
theorem b_208_12 {t : Nat} {σ : Mm} {w : Option Value × Mm} {x1 : Int32} {x2 : Int32} (hS : Sg t σ) 
    (H : inb x1 6 = true ∧ ((x2 < (mI σ 74 x1.toNatClampNeg) → (∃ (v3 : Int64) (σ1 : Mm), Cl 194 [.ref 59, .int x2] σ (some (.long v3), σ1) ∧ Sg t σ1 ∧ (inb x2 64 = true ∧ Ev 208 12 [.ref 59, .int x1, .int (x2 + 1)] [] (uL σ1 81 x2.toNatClampNeg v3) w))) ∧ (¬ (x2 < (mI σ 74 x1.toNatClampNeg)) → (((mI σ 59 48) = 0 → (inb x1 6 = true ∧ (inb ((mI σ 74 x1.toNatClampNeg) - 1) 64 = true ∧ (w = (some (.long (mL σ 81 ((mI σ 74 x1.toNatClampNeg) - 1).toNatClampNeg)), σ))))) ∧ (¬ ((mI σ 59 48) = 0) → (w = (some (.long 0), σ))))))) :
    Ev 208 12 [.ref 59, .int x1, .int x2] [] σ w := by
  refine e_iload_n d_208_12 rfl rfl ?_
  refine e_aload_n d_208_13 rfl rfl ?_
  refine e_getR d_208_14 oo_208 pF_9_57 (by decide) (hS.k rfl) (hS.r rt_59_34) rfl ?_
  refine e_iload_n d_208_17 rfl rfl ?_
  obtain ⟨hb, H⟩ := H
  refine e_iaload (v := (mI σ 74 x1.toNatClampNeg)) d_208_18 (rdI_at (hS.k rfl) hb) rfl ?_
  refine e_icmp_ge (t := 39) d_208_19 (by decide) rfl (fun hc => ?_) (fun hc => ?_)
  · replace H := H.2 hc
    refine e_aload_n d_208_39 rfl rfl ?_
    refine e_getZ d_208_40 oo_208 pF_9_336 (by decide) (hS.k rfl) rfl ?_
    refine e_if_eq (t := 50) d_208_43 (by decide) rfl (fun hc => ?_) (fun hc => ?_)
    · replace H := H.1 hc
      refine e_aload_n d_208_50 rfl rfl ?_
      refine e_getR d_208_51 oo_208 pF_9_79 (by decide) (hS.k rfl) (hS.r rt_59_47) rfl ?_
      refine e_aload_n d_208_54 rfl rfl ?_
      refine e_getR d_208_55 oo_208 pF_9_57 (by decide) (hS.k rfl) (hS.r rt_59_34) rfl ?_
      refine e_iload_n d_208_58 rfl rfl ?_
      obtain ⟨hb, H⟩ := H
      refine e_iaload (v := (mI σ 74 x1.toNatClampNeg)) d_208_59 (rdI_at (hS.k rfl) hb) rfl ?_
      refine e_iconst d_208_60 ci_1 rfl ?_
      refine e_isub d_208_61 rfl ?_
      obtain ⟨hb, H⟩ := H
      refine e_laload (v := (mL σ 81 ((mI σ 74 x1.toNatClampNeg) - 1).toNatClampNeg)) d_208_62 (rdL_at (hS.k rfl) hb) rfl ?_
      subst H
      exact e_lret d_208_63 rr_208
    · replace H := H.2 hc
      refine e_lconst d_208_46 cl_0 rfl ?_
      refine e_goto (t := 63) d_208_47 (by decide) ?_
      subst H
      exact e_lret d_208_63 rr_208
  · replace H := H.1 hc
    refine e_aload_n d_208_22 rfl rfl ?_
    refine e_getR d_208_23 oo_208 pF_9_79 (by decide) (hS.k rfl) (hS.r rt_59_47) rfl ?_
    refine e_iload_n d_208_26 rfl rfl ?_
    refine e_aload_n d_208_27 rfl rfl ?_
    refine e_iload_n d_208_28 rfl rfl ?_
    obtain ⟨v3, σ1, hcl, hS2, H⟩ := H
    refine e_vcall (w1 := (some (.long v3), σ1)) d_208_29 kc_208_29 rfl ⟨Nat.le_of_ble_eq_true rfl, xx_208.symm⟩ rfl hcl ?_
    show Ev 208 32 [.ref 59, .int x1, .int x2] [.long v3, .int x2, .ref 81] σ1 w
    obtain ⟨hb, H⟩ := H
    refine e_lastore d_208_32 (okI_at (hS2.k rfl) hb) rfl ?_
    refine e_iinc (ls2 := [.ref 59, .int x1, .int (x2 + 1)]) d_208_33 rfl ci_1 rfl rfl rfl ?_
    refine e_goto (t := 12) d_208_36 (by decide) ?_
    exact H
/-! X9_boundLaw -/
theorem b_209_0 {t : Nat} {σ : Mm} {w : Option Value × Mm} {x1 : Int32} {x2 : Int32} {x3 : Int32} (hS : Sg t σ) 
    (H : inb x1 6 = true ∧ (((mI σ 72 x1.toNatClampNeg) = 0 → (w = (some (.int x2), σ))) ∧ (¬ ((mI σ 72 x1.toNatClampNeg) = 0) → (∃ (v3 : Int64) (σ1 : Mm), Cl 208 [.ref 59, .int x1] σ (some (.long v3), σ1) ∧ Sg t σ1 ∧ (((mI σ1 59 48) = 0 → ((v3 < 0 → (w = (some (.int 0), σ1))) ∧ (¬ (v3 < 0) → (((Int32.toInt64 x3) < v3 → (w = (some (.int x3), σ1))) ∧ (¬ ((Int32.toInt64 x3) < v3) → (w = (some (.int (Int64.toInt32 v3)), σ1))))))) ∧ (¬ ((mI σ1 59 48) = 0) → (w = (some (.int x2), σ1)))))))) :
    Ev 209 0 [.ref 59, .int x1, .int x2, .int x3, .retAddr 0, .retAddr 0] [] σ w := by
  refine e_aload_n d_209_0 rfl rfl ?_
  refine e_getR d_209_1 oo_209 pF_9_51 (by decide) (hS.k rfl) (hS.r rt_59_32) rfl ?_
  refine e_iload_n d_209_4 rfl rfl ?_
  obtain ⟨hb, H⟩ := H
  refine e_baload (v := (mI σ 72 x1.toNatClampNeg)) d_209_5 (rdB_at (hS.k rfl) (Or.inr rfl) hb) rfl ?_
  refine e_if_ne (t := 11) d_209_6 (by decide) rfl (fun hc => ?_) (fun hc => ?_)
  · replace H := H.2 hc
    refine e_aload_n d_209_11 rfl rfl ?_
    refine e_iload_n d_209_12 rfl rfl ?_
    obtain ⟨v3, σ1, hcl, hS2, H⟩ := H
    refine e_vcall (w1 := (some (.long v3), σ1)) d_209_13 kc_209_13 rfl ⟨Nat.le_of_ble_eq_true rfl, xx_209.symm⟩ rfl hcl ?_
    show Ev 209 16 [.ref 59, .int x1, .int x2, .int x3, .retAddr 0, .retAddr 0] [.long v3] σ1 w
    refine e_lstore (ls2 := [.ref 59, .int x1, .int x2, .int x3, .long v3, .float 0]) d_209_16 rfl rfl rfl ?_
    refine e_aload_n d_209_18 rfl rfl ?_
    refine e_getZ d_209_19 oo_209 pF_9_336 (by decide) (hS2.k rfl) rfl ?_
    refine e_if_eq (t := 27) d_209_22 (by decide) rfl (fun hc => ?_) (fun hc => ?_)
    · replace H := H.1 hc
      refine e_lload d_209_27 rfl rfl ?_
      refine e_lconst d_209_29 cl_0 rfl ?_
      refine e_lc_ge (t := 38) d_209_30 d_209_31 rfl (by decide) rfl (fun hc => ?_) (fun hc => ?_)
      · replace H := H.2 hc
        refine e_lload d_209_38 rfl rfl ?_
        refine e_iload_n d_209_40 rfl rfl ?_
        refine e_i2l d_209_41 rfl ?_
        refine e_lc_le (t := 50) d_209_42 d_209_43 rfl (by decide) rfl (fun hc => ?_) (fun hc => ?_)
        · replace H := H.2 hc
          refine e_lload d_209_50 rfl rfl ?_
          refine e_l2i d_209_52 rfl ?_
          subst H
          exact e_iret d_209_53 rr_209
        · replace H := H.1 hc
          refine e_iload_n d_209_46 rfl rfl ?_
          refine e_goto (t := 53) d_209_47 (by decide) ?_
          subst H
          exact e_iret d_209_53 rr_209
      · replace H := H.1 hc
        refine e_iconst d_209_34 ci_0 rfl ?_
        refine e_goto (t := 53) d_209_35 (by decide) ?_
        subst H
        exact e_iret d_209_53 rr_209
    · replace H := H.2 hc
      refine e_iload_n d_209_25 rfl rfl ?_
      subst H
      exact e_iret d_209_26 rr_209
  · replace H := H.1 hc
    refine e_iload_n d_209_9 rfl rfl ?_
    subst H
    exact e_iret d_209_10 rr_209
/-! X9_ringsOne -/
theorem b_210_0 {t : Nat} {σ : Mm} {w : Option Value × Mm} {x1 : Int32} {x2 : Int32} (hS : Sg t σ) 
    (H : ∃ (σ1 : Mm), Cl 206 [.ref 59, .int x1, .int x2] σ (none, σ1) ∧ Sg t σ1 ∧ (inb x2 20 = true ∧ (∃ (v6 : Int32) (σ4 : Mm), Cl 209 [.ref 59, .int 0, .int (mI σ1 67 x2.toNatClampNeg), .int 999] σ1 (some (.int v6), σ4) ∧ Sg t σ4 ∧ (inb x1 2 = true ∧ (inb ((10 * x1) + x2) 20 = true ∧ (inb x1 2 = true ∧ (∀ (σ7 : Mm), σ7 = uI σ4 82 x1.toNatClampNeg ((mI σ4 82 x1.toNatClampNeg) ^^^ (mI σ4 89 ((10 * x1) + x2).toNatClampNeg)) → Ev 210 44 [.ref 59, .int x1, .int x2, .int ((10 * x1) + x2), .int v6] [] σ7 w))))))) :
    Ev 210 0 [.ref 59, .int x1, .int x2, .retAddr 0, .retAddr 0] [] σ w := by
  refine e_bipush d_210_0 cb_10 rfl ?_
  refine e_iload_n d_210_2 rfl rfl ?_
  refine e_imul d_210_3 rfl ?_
  refine e_iload_n d_210_4 rfl rfl ?_
  refine e_iadd d_210_5 rfl ?_
  refine e_istore_n (ls2 := [.ref 59, .int x1, .int x2, .int ((10 * x1) + x2), .retAddr 0]) d_210_6 rfl rfl rfl ?_
  refine e_aload_n d_210_7 rfl rfl ?_
  refine e_iload_n d_210_8 rfl rfl ?_
  refine e_iload_n d_210_9 rfl rfl ?_
  obtain ⟨σ1, hcl, hS2, H⟩ := H
  refine e_vcall (w1 := (none, σ1)) d_210_10 kc_210_10 rfl ⟨Nat.le_of_ble_eq_true rfl, xx_210.symm⟩ rfl hcl ?_
  show Ev 210 13 [.ref 59, .int x1, .int x2, .int ((10 * x1) + x2), .retAddr 0] [] σ1 w
  refine e_aload_n d_210_13 rfl rfl ?_
  refine e_iconst d_210_14 ci_0 rfl ?_
  refine e_aload_n d_210_15 rfl rfl ?_
  refine e_getR d_210_16 oo_210 pF_9_36 (by decide) (hS2.k rfl) (hS2.r rt_59_27) rfl ?_
  refine e_iload_n d_210_19 rfl rfl ?_
  obtain ⟨hb, H⟩ := H
  refine e_iaload (v := (mI σ1 67 x2.toNatClampNeg)) d_210_20 (rdI_at (hS2.k rfl) hb) rfl ?_
  refine e_sipush d_210_21 cs_999 rfl ?_
  obtain ⟨v6, σ4, hcl, hS5, H⟩ := H
  refine e_vcall (w1 := (some (.int v6), σ4)) d_210_24 kc_210_24 rfl ⟨Nat.le_of_ble_eq_true rfl, xx_210.symm⟩ rfl hcl ?_
  show Ev 210 27 [.ref 59, .int x1, .int x2, .int ((10 * x1) + x2), .retAddr 0] [.int v6] σ4 w
  refine e_istore (ls2 := [.ref 59, .int x1, .int x2, .int ((10 * x1) + x2), .int v6]) d_210_27 rfl rfl rfl ?_
  refine e_aload_n d_210_29 rfl rfl ?_
  refine e_getR d_210_30 oo_210 pF_9_82 (by decide) (hS5.k rfl) (hS5.r rt_59_49) rfl ?_
  refine e_iload_n d_210_33 rfl rfl ?_
  refine e_dup2 d_210_34 rfl rfl ?_
  obtain ⟨hb, H⟩ := H
  refine e_iaload (v := (mI σ4 82 x1.toNatClampNeg)) d_210_35 (rdI_at (hS5.k rfl) hb) rfl ?_
  refine e_aload_n d_210_36 rfl rfl ?_
  refine e_getR d_210_37 oo_210 pF_9_103 (by decide) (hS5.k rfl) (hS5.r rt_59_56) rfl ?_
  refine e_iload_n d_210_40 rfl rfl ?_
  obtain ⟨hb, H⟩ := H
  refine e_iaload (v := (mI σ4 89 ((10 * x1) + x2).toNatClampNeg)) d_210_41 (rdI_at (hS5.k rfl) hb) rfl ?_
  refine e_ixor d_210_42 rfl ?_
  obtain ⟨hb, H⟩ := H
  refine e_iastore d_210_43 (okI_at (hS5.k rfl) hb) rfl ?_
  generalize hm8 : uI σ4 82 x1.toNatClampNeg ((mI σ4 82 x1.toNatClampNeg) ^^^ (mI σ4 89 ((10 * x1) + x2).toNatClampNeg)) = σ7
  have hS9 : Sg t σ7 := by rw [← hm8]; exact hS5.uI
  replace H := H σ7 hm8.symm
  exact H
theorem b_210_44 {t : Nat} {σ : Mm} {w : Option Value × Mm} {x1 : Int32} {x2 : Int32} {x3 : Int32} {x4 : Int32} (hS : Sg t σ) 
    (H : inb x1 2 = true ∧ ((((mI σ 85 x1.toNatClampNeg) + x4) < 99999 → (inb x1 2 = true ∧ Ev 210 77 [.ref 59, .int x1, .int x2, .int x3, .int x4] [.int ((mI σ 85 x1.toNatClampNeg) + x4), .int x1, .ref 85] σ w)) ∧ (¬ (((mI σ 85 x1.toNatClampNeg) + x4) < 99999) → Ev 210 77 [.ref 59, .int x1, .int x2, .int x3, .int x4] [.int 99999, .int x1, .ref 85] σ w))) :
    Ev 210 44 [.ref 59, .int x1, .int x2, .int x3, .int x4] [] σ w := by
  refine e_aload_n d_210_44 rfl rfl ?_
  refine e_getR d_210_45 oo_210 pF_9_91 (by decide) (hS.k rfl) (hS.r rt_59_52) rfl ?_
  refine e_iload_n d_210_48 rfl rfl ?_
  refine e_aload_n d_210_49 rfl rfl ?_
  refine e_getR d_210_50 oo_210 pF_9_91 (by decide) (hS.k rfl) (hS.r rt_59_52) rfl ?_
  refine e_iload_n d_210_53 rfl rfl ?_
  obtain ⟨hb, H⟩ := H
  refine e_iaload (v := (mI σ 85 x1.toNatClampNeg)) d_210_54 (rdI_at (hS.k rfl) hb) rfl ?_
  refine e_iload d_210_55 rfl rfl ?_
  refine e_iadd d_210_57 rfl ?_
  refine e_ldc d_210_58 oo_210 pI_9_180 rfl ?_
  refine e_icmp_ge (t := 75) d_210_60 (by decide) rfl (fun hc => ?_) (fun hc => ?_)
  · replace H := H.2 hc
    refine e_ldc d_210_75 oo_210 pI_9_180 rfl ?_
    exact H
  · replace H := H.1 hc
    refine e_aload_n d_210_63 rfl rfl ?_
    refine e_getR d_210_64 oo_210 pF_9_91 (by decide) (hS.k rfl) (hS.r rt_59_52) rfl ?_
    refine e_iload_n d_210_67 rfl rfl ?_
    obtain ⟨hb, H⟩ := H
    refine e_iaload (v := (mI σ 85 x1.toNatClampNeg)) d_210_68 (rdI_at (hS.k rfl) hb) rfl ?_
    refine e_iload d_210_69 rfl rfl ?_
    refine e_iadd d_210_71 rfl ?_
    refine e_goto (t := 77) d_210_72 (by decide) ?_
    exact H
theorem b_210_77 {t : Nat} {σ : Mm} {w : Option Value × Mm} {x1 : Int32} {x2 : Int32} {x3 : Int32} {x4 : Int32} {s0 : Int32} {s1 : Int32} (hS : Sg t σ) 
    (H : inb s1 2 = true ∧ (inb x3 20 = true ∧ (((mI (uI σ 85 s1.toNatClampNeg s0) 90 x3.toNatClampNeg) < 999 → (inb x3 20 = true ∧ Ev 210 109 [.ref 59, .int x1, .int x2, .int x3, .int x4] [.int ((mI (uI σ 85 s1.toNatClampNeg s0) 90 x3.toNatClampNeg) + 1), .int x3, .ref 90] (uI σ 85 s1.toNatClampNeg s0) w)) ∧ (¬ ((mI (uI σ 85 s1.toNatClampNeg s0) 90 x3.toNatClampNeg) < 999) → Ev 210 109 [.ref 59, .int x1, .int x2, .int x3, .int x4] [.int 999, .int x3, .ref 90] (uI σ 85 s1.toNatClampNeg s0) w)))) :
    Ev 210 77 [.ref 59, .int x1, .int x2, .int x3, .int x4] [.int s0, .int s1, .ref 85] σ w := by
  obtain ⟨hb, H⟩ := H
  refine e_iastore d_210_77 (okI_at (hS.k rfl) hb) rfl ?_
  refine e_aload_n d_210_78 rfl rfl ?_
  refine e_getR d_210_79 oo_210 pF_9_106 (by decide) (hS.uI.k rfl) (hS.uI.r rt_59_57) rfl ?_
  refine e_iload_n d_210_82 rfl rfl ?_
  refine e_aload_n d_210_83 rfl rfl ?_
  refine e_getR d_210_84 oo_210 pF_9_106 (by decide) (hS.uI.k rfl) (hS.uI.r rt_59_57) rfl ?_
  refine e_iload_n d_210_87 rfl rfl ?_
  obtain ⟨hb, H⟩ := H
  refine e_iaload (v := (mI (uI σ 85 s1.toNatClampNeg s0) 90 x3.toNatClampNeg)) d_210_88 (rdI_at (hS.uI.k rfl) hb) rfl ?_
  refine e_sipush d_210_89 cs_999 rfl ?_
  refine e_icmp_ge (t := 106) d_210_92 (by decide) rfl (fun hc => ?_) (fun hc => ?_)
  · replace H := H.2 hc
    refine e_sipush d_210_106 cs_999 rfl ?_
    exact H
  · replace H := H.1 hc
    refine e_aload_n d_210_95 rfl rfl ?_
    refine e_getR d_210_96 oo_210 pF_9_106 (by decide) (hS.uI.k rfl) (hS.uI.r rt_59_57) rfl ?_
    refine e_iload_n d_210_99 rfl rfl ?_
    obtain ⟨hb, H⟩ := H
    refine e_iaload (v := (mI (uI σ 85 s1.toNatClampNeg s0) 90 x3.toNatClampNeg)) d_210_100 (rdI_at (hS.uI.k rfl) hb) rfl ?_
    refine e_iconst d_210_101 ci_1 rfl ?_
    refine e_iadd d_210_102 rfl ?_
    refine e_goto (t := 109) d_210_103 (by decide) ?_
    exact H
theorem b_210_109 {t : Nat} {σ : Mm} {w : Option Value × Mm} {x1 : Int32} {x2 : Int32} {x3 : Int32} {x4 : Int32} {s0 : Int32} {s1 : Int32} (hS : Sg t σ) 
    (H : inb s1 20 = true ∧ (((mI (uI σ 90 s1.toNatClampNeg s0) 72 1) = 0 → (w = (none, uI σ 90 s1.toNatClampNeg s0))) ∧ (¬ ((mI (uI σ 90 s1.toNatClampNeg s0) 72 1) = 0) → (((mI (uI σ 90 s1.toNatClampNeg s0) 59 61) = 0 → (∃ (σ1 : Mm), Cl 206 [.ref 59, .int x1, .int x2] (uI σ 90 s1.toNatClampNeg s0) (none, σ1) ∧ Sg t σ1 ∧ (∃ (v6 : Int64) (σ4 : Mm), Cl 208 [.ref 59, .int 1] σ1 (some (.long v6), σ4) ∧ Sg t σ4 ∧ ((v6 = 0 → (w = (none, σ4))) ∧ (¬ (v6 = 0) → (inb x1 2 = true ∧ (inb x1 2 = true ∧ (∀ (σ7 : Mm), σ7 = uI σ4 84 x1.toNatClampNeg ((mI σ4 84 x1.toNatClampNeg) ||| ((1 : Int32) <<< (x2 &&& 31))) → (w = (none, σ7)))))))))) ∧ (¬ ((mI (uI σ 90 s1.toNatClampNeg s0) 59 61) = 0) → (w = (none, uI σ 90 s1.toNatClampNeg s0))))))) :
    Ev 210 109 [.ref 59, .int x1, .int x2, .int x3, .int x4] [.int s0, .int s1, .ref 90] σ w := by
  obtain ⟨hb, H⟩ := H
  refine e_iastore d_210_109 (okI_at (hS.k rfl) hb) rfl ?_
  refine e_aload_n d_210_110 rfl rfl ?_
  refine e_getR d_210_111 oo_210 pF_9_51 (by decide) (hS.uI.k rfl) (hS.uI.r rt_59_32) rfl ?_
  refine e_iconst d_210_114 ci_1 rfl ?_
  refine e_baload (v := (mI (uI σ 90 s1.toNatClampNeg s0) 72 1)) d_210_115 (rdB_at (hS.uI.k rfl) (Or.inr rfl) rfl) rfl ?_
  refine e_if_eq (t := 126) d_210_116 (by decide) rfl (fun hc => ?_) (fun hc => ?_)
  · replace H := H.1 hc
    subst H
    exact e_vret d_210_126 rr_210
  · replace H := H.2 hc
    refine e_aload_n d_210_119 rfl rfl ?_
    refine e_getZ d_210_120 oo_210 pF_9_380 (by decide) (hS.uI.k rfl) rfl ?_
    refine e_if_eq (t := 127) d_210_123 (by decide) rfl (fun hc => ?_) (fun hc => ?_)
    · replace H := H.1 hc
      refine e_aload_n d_210_127 rfl rfl ?_
      refine e_iload_n d_210_128 rfl rfl ?_
      refine e_iload_n d_210_129 rfl rfl ?_
      obtain ⟨σ1, hcl, hS2, H⟩ := H
      refine e_vcall (w1 := (none, σ1)) d_210_130 kc_210_130 rfl ⟨Nat.le_of_ble_eq_true rfl, xx_210.symm⟩ rfl hcl ?_
      show Ev 210 133 [.ref 59, .int x1, .int x2, .int x3, .int x4] [] σ1 w
      refine e_aload_n d_210_133 rfl rfl ?_
      refine e_iconst d_210_134 ci_1 rfl ?_
      obtain ⟨v6, σ4, hcl, hS5, H⟩ := H
      refine e_vcall (w1 := (some (.long v6), σ4)) d_210_135 kc_210_135 rfl ⟨Nat.le_of_ble_eq_true rfl, xx_210.symm⟩ rfl hcl ?_
      show Ev 210 138 [.ref 59, .int x1, .int x2, .int x3, .int x4] [.long v6] σ4 w
      refine e_lconst d_210_138 cl_0 rfl ?_
      refine e_lc_eq (t := 155) d_210_139 d_210_140 rfl (by decide) rfl (fun hc => ?_) (fun hc => ?_)
      · replace H := H.1 hc
        subst H
        exact e_vret d_210_155 rr_210
      · replace H := H.2 hc
        refine e_aload_n d_210_143 rfl rfl ?_
        refine e_getR d_210_144 oo_210 pF_9_88 (by decide) (hS5.k rfl) (hS5.r rt_59_51) rfl ?_
        refine e_iload_n d_210_147 rfl rfl ?_
        refine e_dup2 d_210_148 rfl rfl ?_
        obtain ⟨hb, H⟩ := H
        refine e_iaload (v := (mI σ4 84 x1.toNatClampNeg)) d_210_149 (rdI_at (hS5.k rfl) hb) rfl ?_
        refine e_iconst d_210_150 ci_1 rfl ?_
        refine e_iload_n d_210_151 rfl rfl ?_
        refine e_ishl d_210_152 rfl ?_
        refine e_ior d_210_153 rfl ?_
        obtain ⟨hb, H⟩ := H
        refine e_iastore d_210_154 (okI_at (hS5.k rfl) hb) rfl ?_
        generalize hm8 : uI σ4 84 x1.toNatClampNeg ((mI σ4 84 x1.toNatClampNeg) ||| ((1 : Int32) <<< (x2 &&& 31))) = σ7
        have hS9 : Sg t σ7 := by rw [← hm8]; exact hS5.uI
        replace H := H σ7 hm8.symm
        subst H
        exact e_vret d_210_155 rr_210
    · replace H := H.2 hc
      subst H
      exact e_vret d_210_126 rr_210
/-! X9_number1 -/
theorem b_211_0 {t : Nat} {σ : Mm} {w : Option Value × Mm} {x1 : Int32} (hS : Sg t σ) 
    (H : ∀ (σ1 : Mm), σ1 = uL σ 59 58 ((((mL σ 59 58) * 1103515245) + 12345) &&& 2147483647) → (¬ (Int32.toInt64 x1) = 0 ∧ (w = (some (.int (Int64.toInt32 (((mL σ1 59 58) / 65536) - ((mL σ1 59 58) / 65536) / (Int32.toInt64 x1) * (Int32.toInt64 x1)))), σ1)))) :
    Ev 211 0 [.ref 59, .int x1] [] σ w := by
  refine e_aload_n d_211_0 rfl rfl ?_
  refine e_aload_n d_211_1 rfl rfl ?_
  refine e_getL d_211_2 oo_211 pF_9_358 (by decide) (hS.k rfl) rfl ?_
  refine e_ldc2 d_211_5 oo_211 pL_9_416 rfl ?_
  refine e_lmul d_211_8 rfl ?_
  refine e_ldc2 d_211_9 oo_211 pL_9_418 rfl ?_
  refine e_ladd d_211_12 rfl ?_
  refine e_ldc2 d_211_13 oo_211 pL_9_420 rfl ?_
  refine e_land d_211_16 rfl ?_
  refine e_putL d_211_17 oo_211 pF_9_358 (Or.inl rfl) (hS.k rfl) rfl ?_
  generalize hm2 : uL σ 59 58 ((((mL σ 59 58) * 1103515245) + 12345) &&& 2147483647) = σ1
  have hS3 : Sg t σ1 := by rw [← hm2]; exact hS.uL
  replace H := H σ1 hm2.symm
  refine e_aload_n d_211_20 rfl rfl ?_
  refine e_getL d_211_21 oo_211 pF_9_358 (by decide) (hS3.k rfl) rfl ?_
  refine e_ldc2 d_211_24 oo_211 pL_9_422 rfl ?_
  refine e_ldiv d_211_27 (by decide) rfl ?_
  refine e_iload_n d_211_28 rfl rfl ?_
  refine e_i2l d_211_29 rfl ?_
  obtain ⟨hz, H⟩ := H
  refine e_lrem d_211_30 hz rfl ?_
  refine e_l2i d_211_31 rfl ?_
  subst H
  exact e_iret d_211_32 rr_211
/-! X9_isFate -/
theorem b_212_0 {t : Nat} {σ : Mm} {w : Option Value × Mm} {x1 : Int32} {x2 : Int32} (hS : Sg t σ) 
    (H : ((mI σ 59 60) = 0 → (∃ (σ1 : Mm), Cl 207 [.ref 59, .int x1, .int x2] σ (none, σ1) ∧ Sg t σ1 ∧ (∃ (v6 : Int32) (σ4 : Mm), Cl 209 [.ref 59, .int 2, .int (mI σ1 64 0), .int 100] σ1 (some (.int v6), σ4) ∧ Sg t σ4 ∧ ((v6 = 0 → ((v6 = 100 → (w = (some (.int 1), σ4))) ∧ (¬ (v6 = 100) → (w = (some (.int 0), σ4))))) ∧ (¬ (v6 = 0) → ((v6 = 100 → ((v6 = 100 → (w = (some (.int 1), σ4))) ∧ (¬ (v6 = 100) → (w = (some (.int 0), σ4))))) ∧ (¬ (v6 = 100) → (((mI σ4 59 59) = 0 → ((v6 < 50 → (w = (some (.int 0), σ4))) ∧ (¬ (v6 < 50) → (w = (some (.int 1), σ4))))) ∧ (¬ ((mI σ4 59 59) = 0) → (∃ (v9 : Int32) (σ7 : Mm), Cl 211 [.ref 59, .int 100] σ4 (some (.int v9), σ7) ∧ Sg t σ7 ∧ ((v9 < v6 → (w = (some (.int 1), σ7))) ∧ (¬ (v9 < v6) → (w = (some (.int 0), σ7)))))))))))))) ∧ (¬ ((mI σ 59 60) = 0) → (w = (some (.int 0), σ)))) :
    Ev 212 0 [.ref 59, .int x1, .int x2, .retAddr 0] [] σ w := by
  refine e_aload_n d_212_0 rfl rfl ?_
  refine e_getZ d_212_1 oo_212 pF_9_377 (by decide) (hS.k rfl) rfl ?_
  refine e_if_eq (t := 9) d_212_4 (by decide) rfl (fun hc => ?_) (fun hc => ?_)
  · replace H := H.1 hc
    refine e_aload_n d_212_9 rfl rfl ?_
    refine e_iload_n d_212_10 rfl rfl ?_
    refine e_iload_n d_212_11 rfl rfl ?_
    obtain ⟨σ1, hcl, hS2, H⟩ := H
    refine e_vcall (w1 := (none, σ1)) d_212_12 kc_212_12 rfl ⟨Nat.le_of_ble_eq_true rfl, xx_212.symm⟩ rfl hcl ?_
    show Ev 212 15 [.ref 59, .int x1, .int x2, .retAddr 0] [] σ1 w
    refine e_aload_n d_212_15 rfl rfl ?_
    refine e_iconst d_212_16 ci_2 rfl ?_
    refine e_aload_n d_212_17 rfl rfl ?_
    refine e_getR d_212_18 oo_212 pF_9_27 (by decide) (hS2.k rfl) (hS2.r rt_59_24) rfl ?_
    refine e_iconst d_212_21 ci_0 rfl ?_
    refine e_iaload (v := (mI σ1 64 0)) d_212_22 (rdI_at (hS2.k rfl) rfl) rfl ?_
    refine e_bipush d_212_23 cb_100 rfl ?_
    obtain ⟨v6, σ4, hcl, hS5, H⟩ := H
    refine e_vcall (w1 := (some (.int v6), σ4)) d_212_25 kc_212_25 rfl ⟨Nat.le_of_ble_eq_true rfl, xx_212.symm⟩ rfl hcl ?_
    show Ev 212 28 [.ref 59, .int x1, .int x2, .retAddr 0] [.int v6] σ4 w
    refine e_istore_n (ls2 := [.ref 59, .int x1, .int x2, .int v6]) d_212_28 rfl rfl rfl ?_
    refine e_iload_n d_212_29 rfl rfl ?_
    refine e_if_eq (t := 39) d_212_30 (by decide) rfl (fun hc => ?_) (fun hc => ?_)
    · replace H := H.1 hc
      refine e_iload_n d_212_39 rfl rfl ?_
      refine e_bipush d_212_40 cb_100 rfl ?_
      refine e_icmp_ne (t := 49) d_212_42 (by decide) rfl (fun hc => ?_) (fun hc => ?_)
      · replace H := H.2 hc
        refine e_iconst d_212_49 ci_0 rfl ?_
        subst H
        exact e_zret d_212_50 rr_212 (Or.inl rfl)
      · replace H := H.1 hc
        refine e_iconst d_212_45 ci_1 rfl ?_
        refine e_goto (t := 50) d_212_46 (by decide) ?_
        subst H
        exact e_zret d_212_50 rr_212 (Or.inr rfl)
    · replace H := H.2 hc
      refine e_iload_n d_212_33 rfl rfl ?_
      refine e_bipush d_212_34 cb_100 rfl ?_
      refine e_icmp_ne (t := 51) d_212_36 (by decide) rfl (fun hc => ?_) (fun hc => ?_)
      · replace H := H.2 hc
        refine e_aload_n d_212_51 rfl rfl ?_
        refine e_getZ d_212_52 oo_212 pF_9_374 (by decide) (hS5.k rfl) rfl ?_
        refine e_if_eq (t := 76) d_212_55 (by decide) rfl (fun hc => ?_) (fun hc => ?_)
        · replace H := H.1 hc
          refine e_iload_n d_212_76 rfl rfl ?_
          refine e_bipush d_212_77 cb_50 rfl ?_
          refine e_icmp_lt (t := 86) d_212_79 (by decide) rfl (fun hc => ?_) (fun hc => ?_)
          · replace H := H.1 hc
            refine e_iconst d_212_86 ci_0 rfl ?_
            subst H
            exact e_zret d_212_87 rr_212 (Or.inl rfl)
          · replace H := H.2 hc
            refine e_iconst d_212_82 ci_1 rfl ?_
            refine e_goto (t := 87) d_212_83 (by decide) ?_
            subst H
            exact e_zret d_212_87 rr_212 (Or.inr rfl)
        · replace H := H.2 hc
          refine e_aload_n d_212_58 rfl rfl ?_
          refine e_bipush d_212_59 cb_100 rfl ?_
          obtain ⟨v9, σ7, hcl, hS8, H⟩ := H
          refine e_vcall (w1 := (some (.int v9), σ7)) d_212_61 kc_212_61 rfl ⟨Nat.le_of_ble_eq_true rfl, xx_212.symm⟩ rfl hcl ?_
          show Ev 212 64 [.ref 59, .int x1, .int x2, .int v6] [.int v9] σ7 w
          refine e_iload_n d_212_64 rfl rfl ?_
          refine e_icmp_ge (t := 72) d_212_65 (by decide) rfl (fun hc => ?_) (fun hc => ?_)
          · replace H := H.2 hc
            refine e_iconst d_212_72 ci_0 rfl ?_
            refine e_goto (t := 87) d_212_73 (by decide) ?_
            subst H
            exact e_zret d_212_87 rr_212 (Or.inl rfl)
          · replace H := H.1 hc
            refine e_iconst d_212_68 ci_1 rfl ?_
            refine e_goto (t := 87) d_212_69 (by decide) ?_
            subst H
            exact e_zret d_212_87 rr_212 (Or.inr rfl)
      · replace H := H.1 hc
        refine e_iload_n d_212_39 rfl rfl ?_
        refine e_bipush d_212_40 cb_100 rfl ?_
        refine e_icmp_ne (t := 49) d_212_42 (by decide) rfl (fun hc => ?_) (fun hc => ?_)
        · replace H := H.2 hc
          refine e_iconst d_212_49 ci_0 rfl ?_
          subst H
          exact e_zret d_212_50 rr_212 (Or.inl rfl)
        · replace H := H.1 hc
          refine e_iconst d_212_45 ci_1 rfl ?_
          refine e_goto (t := 50) d_212_46 (by decide) ?_
          subst H
          exact e_zret d_212_50 rr_212 (Or.inr rfl)
  · replace H := H.2 hc
    refine e_iconst d_212_7 ci_0 rfl ?_
    subst H
    exact e_zret d_212_8 rr_212 (Or.inl rfl)
/-! X9_minuteGoes -/
theorem b_213_0 {t : Nat} {σ : Mm} {w : Option Value × Mm} {x1 : Int32} (hS : Sg t σ) 
    (H : Ev 213 2 [.ref 59, .int x1, .int 0, .retAddr 0] [] σ w) :
    Ev 213 0 [.ref 59, .int x1, .retAddr 0, .retAddr 0] [] σ w := by
  refine e_iconst d_213_0 ci_0 rfl ?_
  refine e_istore_n (ls2 := [.ref 59, .int x1, .int 0, .retAddr 0]) d_213_1 rfl rfl rfl ?_
  exact H
theorem b_213_2 {t : Nat} {σ : Mm} {w : Option Value × Mm} {x1 : Int32} {x2 : Int32} {z3 : Value} (hS : Sg t σ) 
    (H : (x2 < (mI σ 59 15) → (((mI σ 59 62) = 0 → (inb x2 8 = true ∧ (inb x1 2 = true ∧ (((mI σ 71 x2.toNatClampNeg) = (mI σ 87 x1.toNatClampNeg) → (inb x1 2 = true ∧ (inb x1 2 = true ∧ (∀ (σ1 : Mm), σ1 = uI (uI σ 84 x1.toNatClampNeg 0) 83 x1.toNatClampNeg 0 → Ev 213 2 [.ref 59, .int x1, .int (x2 + 1), z3] [] σ1 w)))) ∧ (¬ ((mI σ 71 x2.toNatClampNeg) = (mI σ 87 x1.toNatClampNeg)) → Ev 213 2 [.ref 59, .int x1, .int (x2 + 1), z3] [] σ w))))) ∧ (¬ ((mI σ 59 62) = 0) → Ev 213 57 [.ref 59, .int x1, .int 0, z3] [] σ w))) ∧ (¬ (x2 < (mI σ 59 15)) → Ev 213 57 [.ref 59, .int x1, .int 0, z3] [] σ w)) :
    Ev 213 2 [.ref 59, .int x1, .int x2, z3] [] σ w := by
  refine e_iload_n d_213_2 rfl rfl ?_
  refine e_aload_n d_213_3 rfl rfl ?_
  refine e_getI d_213_4 oo_213 pF_9_231 (by decide) (hS.k rfl) rfl ?_
  refine e_icmp_ge (t := 55) d_213_7 (by decide) rfl (fun hc => ?_) (fun hc => ?_)
  · replace H := H.2 hc
    refine e_iconst d_213_55 ci_0 rfl ?_
    refine e_istore_n (ls2 := [.ref 59, .int x1, .int 0, z3]) d_213_56 rfl rfl rfl ?_
    exact H
  · replace H := H.1 hc
    refine e_aload_n d_213_10 rfl rfl ?_
    refine e_getZ d_213_11 oo_213 pF_9_383 (by decide) (hS.k rfl) rfl ?_
    refine e_if_ne (t := 55) d_213_14 (by decide) rfl (fun hc => ?_) (fun hc => ?_)
    · replace H := H.2 hc
      refine e_iconst d_213_55 ci_0 rfl ?_
      refine e_istore_n (ls2 := [.ref 59, .int x1, .int 0, z3]) d_213_56 rfl rfl rfl ?_
      exact H
    · replace H := H.1 hc
      refine e_aload_n d_213_17 rfl rfl ?_
      refine e_getR d_213_18 oo_213 pF_9_48 (by decide) (hS.k rfl) (hS.r rt_59_31) rfl ?_
      refine e_iload_n d_213_21 rfl rfl ?_
      obtain ⟨hb, H⟩ := H
      refine e_iaload (v := (mI σ 71 x2.toNatClampNeg)) d_213_22 (rdI_at (hS.k rfl) hb) rfl ?_
      refine e_aload_n d_213_23 rfl rfl ?_
      refine e_getR d_213_24 oo_213 pF_9_97 (by decide) (hS.k rfl) (hS.r rt_59_54) rfl ?_
      refine e_iload_n d_213_27 rfl rfl ?_
      obtain ⟨hb, H⟩ := H
      refine e_iaload (v := (mI σ 87 x1.toNatClampNeg)) d_213_28 (rdI_at (hS.k rfl) hb) rfl ?_
      refine e_icmp_eq (t := 35) d_213_29 (by decide) rfl (fun hc => ?_) (fun hc => ?_)
      · replace H := H.1 hc
        refine e_aload_n d_213_35 rfl rfl ?_
        refine e_getR d_213_36 oo_213 pF_9_88 (by decide) (hS.k rfl) (hS.r rt_59_51) rfl ?_
        refine e_iload_n d_213_39 rfl rfl ?_
        refine e_iconst d_213_40 ci_0 rfl ?_
        obtain ⟨hb, H⟩ := H
        refine e_iastore d_213_41 (okI_at (hS.k rfl) hb) rfl ?_
        refine e_aload_n d_213_42 rfl rfl ?_
        refine e_getR d_213_43 oo_213 pF_9_85 (by decide) (hS.uI.k rfl) (hS.uI.r rt_59_50) rfl ?_
        refine e_iload_n d_213_46 rfl rfl ?_
        refine e_iconst d_213_47 ci_0 rfl ?_
        obtain ⟨hb, H⟩ := H
        refine e_iastore d_213_48 (okI_at (hS.uI.k rfl) hb) rfl ?_
        generalize hm2 : uI (uI σ 84 x1.toNatClampNeg 0) 83 x1.toNatClampNeg 0 = σ1
        have hS3 : Sg t σ1 := by rw [← hm2]; exact hS.uI.uI
        replace H := H σ1 hm2.symm
        refine e_iinc (ls2 := [.ref 59, .int x1, .int (x2 + 1), z3]) d_213_49 rfl ci_1 rfl rfl rfl ?_
        refine e_goto (t := 2) d_213_52 (by decide) ?_
        exact H
      · replace H := H.2 hc
        refine e_goto (t := 49) d_213_32 (by decide) ?_
        refine e_iinc (ls2 := [.ref 59, .int x1, .int (x2 + 1), z3]) d_213_49 rfl ci_1 rfl rfl rfl ?_
        refine e_goto (t := 2) d_213_52 (by decide) ?_
        exact H
theorem b_213_57 {t : Nat} {σ : Mm} {w : Option Value × Mm} {x1 : Int32} {x2 : Int32} {z3 : Value} (hS : Sg t σ) 
    (H : (x2 < (mI σ 59 14) → (inb x2 28 = true ∧ (inb x1 2 = true ∧ (((mI σ 70 x2.toNatClampNeg) = (mI σ 87 x1.toNatClampNeg) → (inb x2 28 = true ∧ (((mI σ 69 x2.toNatClampNeg) = (mI σ 59 63) → Ev 213 57 [.ref 59, .int x1, .int (x2 + 1), z3] [] σ w) ∧ (¬ ((mI σ 69 x2.toNatClampNeg) = (mI σ 59 63)) → (inb x1 2 = true ∧ (inb x2 28 = true ∧ (∃ (v3 : Int32) (σ1 : Mm), Cl 153 [.int (mI σ 84 x1.toNatClampNeg), .int (mI σ 69 x2.toNatClampNeg)] σ (some (.int v3), σ1) ∧ Sg t σ1 ∧ ((v3 = 0 → (inb x2 28 = true ∧ (∃ (σ4 : Mm), Cl 210 [.ref 59, .int x1, .int (mI σ1 69 x2.toNatClampNeg)] σ1 (none, σ4) ∧ Sg t σ4 ∧ Ev 213 57 [.ref 59, .int x1, .int (x2 + 1), z3] [] σ4 w))) ∧ (¬ (v3 = 0) → (inb x1 2 = true ∧ (inb x1 2 = true ∧ (∀ (σ7 : Mm), σ7 = uI σ1 86 x1.toNatClampNeg ((mI σ1 86 x1.toNatClampNeg) + 1) → Ev 213 57 [.ref 59, .int x1, .int (x2 + 1), z3] [] σ7 w)))))))))))) ∧ (¬ ((mI σ 70 x2.toNatClampNeg) = (mI σ 87 x1.toNatClampNeg)) → Ev 213 57 [.ref 59, .int x1, .int (x2 + 1), z3] [] σ w))))) ∧ (¬ (x2 < (mI σ 59 14)) → Ev 213 146 [.ref 59, .int x1, .int 0, z3] [] σ w)) :
    Ev 213 57 [.ref 59, .int x1, .int x2, z3] [] σ w := by
  refine e_iload_n d_213_57 rfl rfl ?_
  refine e_aload_n d_213_58 rfl rfl ?_
  refine e_getI d_213_59 oo_213 pF_9_228 (by decide) (hS.k rfl) rfl ?_
  refine e_icmp_ge (t := 144) d_213_62 (by decide) rfl (fun hc => ?_) (fun hc => ?_)
  · replace H := H.2 hc
    refine e_iconst d_213_144 ci_0 rfl ?_
    refine e_istore_n (ls2 := [.ref 59, .int x1, .int 0, z3]) d_213_145 rfl rfl rfl ?_
    exact H
  · replace H := H.1 hc
    refine e_aload_n d_213_65 rfl rfl ?_
    refine e_getR d_213_66 oo_213 pF_9_45 (by decide) (hS.k rfl) (hS.r rt_59_30) rfl ?_
    refine e_iload_n d_213_69 rfl rfl ?_
    obtain ⟨hb, H⟩ := H
    refine e_iaload (v := (mI σ 70 x2.toNatClampNeg)) d_213_70 (rdI_at (hS.k rfl) hb) rfl ?_
    refine e_aload_n d_213_71 rfl rfl ?_
    refine e_getR d_213_72 oo_213 pF_9_97 (by decide) (hS.k rfl) (hS.r rt_59_54) rfl ?_
    refine e_iload_n d_213_75 rfl rfl ?_
    obtain ⟨hb, H⟩ := H
    refine e_iaload (v := (mI σ 87 x1.toNatClampNeg)) d_213_76 (rdI_at (hS.k rfl) hb) rfl ?_
    refine e_icmp_ne (t := 138) d_213_77 (by decide) rfl (fun hc => ?_) (fun hc => ?_)
    · replace H := H.2 hc
      refine e_iinc (ls2 := [.ref 59, .int x1, .int (x2 + 1), z3]) d_213_138 rfl ci_1 rfl rfl rfl ?_
      refine e_goto (t := 57) d_213_141 (by decide) ?_
      exact H
    · replace H := H.1 hc
      refine e_aload_n d_213_80 rfl rfl ?_
      refine e_getR d_213_81 oo_213 pF_9_42 (by decide) (hS.k rfl) (hS.r rt_59_29) rfl ?_
      refine e_iload_n d_213_84 rfl rfl ?_
      obtain ⟨hb, H⟩ := H
      refine e_iaload (v := (mI σ 69 x2.toNatClampNeg)) d_213_85 (rdI_at (hS.k rfl) hb) rfl ?_
      refine e_aload_n d_213_86 rfl rfl ?_
      refine e_getI d_213_87 oo_213 pF_9_386 (by decide) (hS.k rfl) rfl ?_
      refine e_icmp_ne (t := 96) d_213_90 (by decide) rfl (fun hc => ?_) (fun hc => ?_)
      · replace H := H.2 hc
        refine e_aload_n d_213_96 rfl rfl ?_
        refine e_getR d_213_97 oo_213 pF_9_88 (by decide) (hS.k rfl) (hS.r rt_59_51) rfl ?_
        refine e_iload_n d_213_100 rfl rfl ?_
        obtain ⟨hb, H⟩ := H
        refine e_iaload (v := (mI σ 84 x1.toNatClampNeg)) d_213_101 (rdI_at (hS.k rfl) hb) rfl ?_
        refine e_aload_n d_213_102 rfl rfl ?_
        refine e_getR d_213_103 oo_213 pF_9_42 (by decide) (hS.k rfl) (hS.r rt_59_29) rfl ?_
        refine e_iload_n d_213_106 rfl rfl ?_
        obtain ⟨hb, H⟩ := H
        refine e_iaload (v := (mI σ 69 x2.toNatClampNeg)) d_213_107 (rdI_at (hS.k rfl) hb) rfl ?_
        obtain ⟨v3, σ1, hcl, hS2, H⟩ := H
        refine e_scall (w1 := (some (.int v3), σ1)) d_213_108 kc_213_108 rfl ⟨Nat.le_of_ble_eq_true rfl, xx_213.symm⟩ rfl hcl ?_
        show Ev 213 111 [.ref 59, .int x1, .int x2, z3] [.int v3] σ1 w
        refine e_if_eq (t := 127) d_213_111 (by decide) rfl (fun hc => ?_) (fun hc => ?_)
        · replace H := H.1 hc
          refine e_aload_n d_213_127 rfl rfl ?_
          refine e_iload_n d_213_128 rfl rfl ?_
          refine e_aload_n d_213_129 rfl rfl ?_
          refine e_getR d_213_130 oo_213 pF_9_42 (by decide) (hS2.k rfl) (hS2.r rt_59_29) rfl ?_
          refine e_iload_n d_213_133 rfl rfl ?_
          obtain ⟨hb, H⟩ := H
          refine e_iaload (v := (mI σ1 69 x2.toNatClampNeg)) d_213_134 (rdI_at (hS2.k rfl) hb) rfl ?_
          obtain ⟨σ4, hcl, hS5, H⟩ := H
          refine e_vcall (w1 := (none, σ4)) d_213_135 kc_213_135 rfl ⟨Nat.le_of_ble_eq_true rfl, xx_213.symm⟩ rfl hcl ?_
          show Ev 213 138 [.ref 59, .int x1, .int x2, z3] [] σ4 w
          refine e_iinc (ls2 := [.ref 59, .int x1, .int (x2 + 1), z3]) d_213_138 rfl ci_1 rfl rfl rfl ?_
          refine e_goto (t := 57) d_213_141 (by decide) ?_
          exact H
        · replace H := H.2 hc
          refine e_aload_n d_213_114 rfl rfl ?_
          refine e_getR d_213_115 oo_213 pF_9_94 (by decide) (hS2.k rfl) (hS2.r rt_59_53) rfl ?_
          refine e_iload_n d_213_118 rfl rfl ?_
          refine e_dup2 d_213_119 rfl rfl ?_
          obtain ⟨hb, H⟩ := H
          refine e_iaload (v := (mI σ1 86 x1.toNatClampNeg)) d_213_120 (rdI_at (hS2.k rfl) hb) rfl ?_
          refine e_iconst d_213_121 ci_1 rfl ?_
          refine e_iadd d_213_122 rfl ?_
          obtain ⟨hb, H⟩ := H
          refine e_iastore d_213_123 (okI_at (hS2.k rfl) hb) rfl ?_
          generalize hm8 : uI σ1 86 x1.toNatClampNeg ((mI σ1 86 x1.toNatClampNeg) + 1) = σ7
          have hS9 : Sg t σ7 := by rw [← hm8]; exact hS2.uI
          replace H := H σ7 hm8.symm
          refine e_goto (t := 138) d_213_124 (by decide) ?_
          refine e_iinc (ls2 := [.ref 59, .int x1, .int (x2 + 1), z3]) d_213_138 rfl ci_1 rfl rfl rfl ?_
          refine e_goto (t := 57) d_213_141 (by decide) ?_
          exact H
      · replace H := H.1 hc
        refine e_goto (t := 138) d_213_93 (by decide) ?_
        refine e_iinc (ls2 := [.ref 59, .int x1, .int (x2 + 1), z3]) d_213_138 rfl ci_1 rfl rfl rfl ?_
        refine e_goto (t := 57) d_213_141 (by decide) ?_
        exact H
theorem b_213_146 {t : Nat} {σ : Mm} {w : Option Value × Mm} {x1 : Int32} {x2 : Int32} {z3 : Value} (hS : Sg t σ) 
    (H : (x2 < (mI σ 59 12) → (∃ (v6 : Int32) (σ4 : Mm), Cl 203 [.ref 59, .int x1] σ (some (.int v6), σ4) ∧ Sg t σ4 ∧ (∃ (v9 : Int32) (σ7 : Mm), Cl 153 [.int v6, .int x2] σ4 (some (.int v9), σ7) ∧ Sg t σ7 ∧ ((v9 = 0 → Ev 213 146 [.ref 59, .int x1, .int (x2 + 1), .int ((14 * x1) + x2)] [] σ7 w) ∧ (¬ (v9 = 0) → (inb ((14 * x1) + x2) 28 = true ∧ (((mI σ7 88 ((14 * x1) + x2).toNatClampNeg) < 999 → (inb ((14 * x1) + x2) 28 = true ∧ Ev 213 207 [.ref 59, .int x1, .int x2, .int ((14 * x1) + x2)] [.int ((mI σ7 88 ((14 * x1) + x2).toNatClampNeg) + 1), .int ((14 * x1) + x2), .ref 88] σ7 w)) ∧ (¬ ((mI σ7 88 ((14 * x1) + x2).toNatClampNeg) < 999) → Ev 213 207 [.ref 59, .int x1, .int x2, .int ((14 * x1) + x2)] [.int 999, .int ((14 * x1) + x2), .ref 88] σ7 w)))))))) ∧ (¬ (x2 < (mI σ 59 12)) → (inb x1 2 = true ∧ (inb x1 2 = true ∧ (∀ (σ1 : Mm), σ1 = uI σ 87 x1.toNatClampNeg ((mI σ 87 x1.toNatClampNeg) + 1) → (w = (none, σ1))))))) :
    Ev 213 146 [.ref 59, .int x1, .int x2, z3] [] σ w := by
  refine e_iload_n d_213_146 rfl rfl ?_
  refine e_aload_n d_213_147 rfl rfl ?_
  refine e_getI d_213_148 oo_213 pF_9_222 (by decide) (hS.k rfl) rfl ?_
  refine e_icmp_ge (t := 235) d_213_151 (by decide) rfl (fun hc => ?_) (fun hc => ?_)
  · replace H := H.2 hc
    refine e_aload_n d_213_235 rfl rfl ?_
    refine e_getR d_213_236 oo_213 pF_9_97 (by decide) (hS.k rfl) (hS.r rt_59_54) rfl ?_
    refine e_iload_n d_213_239 rfl rfl ?_
    refine e_dup2 d_213_240 rfl rfl ?_
    obtain ⟨hb, H⟩ := H
    refine e_iaload (v := (mI σ 87 x1.toNatClampNeg)) d_213_241 (rdI_at (hS.k rfl) hb) rfl ?_
    refine e_iconst d_213_242 ci_1 rfl ?_
    refine e_iadd d_213_243 rfl ?_
    obtain ⟨hb, H⟩ := H
    refine e_iastore d_213_244 (okI_at (hS.k rfl) hb) rfl ?_
    generalize hm2 : uI σ 87 x1.toNatClampNeg ((mI σ 87 x1.toNatClampNeg) + 1) = σ1
    have hS3 : Sg t σ1 := by rw [← hm2]; exact hS.uI
    replace H := H σ1 hm2.symm
    subst H
    exact e_vret d_213_245 rr_213
  · replace H := H.1 hc
    refine e_bipush d_213_154 cb_14 rfl ?_
    refine e_iload_n d_213_156 rfl rfl ?_
    refine e_imul d_213_157 rfl ?_
    refine e_iload_n d_213_158 rfl rfl ?_
    refine e_iadd d_213_159 rfl ?_
    refine e_istore_n (ls2 := [.ref 59, .int x1, .int x2, .int ((14 * x1) + x2)]) d_213_160 rfl rfl rfl ?_
    refine e_aload_n d_213_161 rfl rfl ?_
    refine e_iload_n d_213_162 rfl rfl ?_
    obtain ⟨v6, σ4, hcl, hS5, H⟩ := H
    refine e_vcall (w1 := (some (.int v6), σ4)) d_213_163 kc_213_163 rfl ⟨Nat.le_of_ble_eq_true rfl, xx_213.symm⟩ rfl hcl ?_
    show Ev 213 166 [.ref 59, .int x1, .int x2, .int ((14 * x1) + x2)] [.int v6] σ4 w
    refine e_iload_n d_213_166 rfl rfl ?_
    obtain ⟨v9, σ7, hcl, hS8, H⟩ := H
    refine e_scall (w1 := (some (.int v9), σ7)) d_213_167 kc_213_167 rfl ⟨Nat.le_of_ble_eq_true rfl, xx_213.symm⟩ rfl hcl ?_
    show Ev 213 170 [.ref 59, .int x1, .int x2, .int ((14 * x1) + x2)] [.int v9] σ7 w
    refine e_if_ne (t := 176) d_213_170 (by decide) rfl (fun hc => ?_) (fun hc => ?_)
    · replace H := H.2 hc
      refine e_aload_n d_213_176 rfl rfl ?_
      refine e_getR d_213_177 oo_213 pF_9_100 (by decide) (hS8.k rfl) (hS8.r rt_59_55) rfl ?_
      refine e_iload_n d_213_180 rfl rfl ?_
      refine e_aload_n d_213_181 rfl rfl ?_
      refine e_getR d_213_182 oo_213 pF_9_100 (by decide) (hS8.k rfl) (hS8.r rt_59_55) rfl ?_
      refine e_iload_n d_213_185 rfl rfl ?_
      obtain ⟨hb, H⟩ := H
      refine e_iaload (v := (mI σ7 88 ((14 * x1) + x2).toNatClampNeg)) d_213_186 (rdI_at (hS8.k rfl) hb) rfl ?_
      refine e_sipush d_213_187 cs_999 rfl ?_
      refine e_icmp_ge (t := 204) d_213_190 (by decide) rfl (fun hc => ?_) (fun hc => ?_)
      · replace H := H.2 hc
        refine e_sipush d_213_204 cs_999 rfl ?_
        exact H
      · replace H := H.1 hc
        refine e_aload_n d_213_193 rfl rfl ?_
        refine e_getR d_213_194 oo_213 pF_9_100 (by decide) (hS8.k rfl) (hS8.r rt_59_55) rfl ?_
        refine e_iload_n d_213_197 rfl rfl ?_
        obtain ⟨hb, H⟩ := H
        refine e_iaload (v := (mI σ7 88 ((14 * x1) + x2).toNatClampNeg)) d_213_198 (rdI_at (hS8.k rfl) hb) rfl ?_
        refine e_iconst d_213_199 ci_1 rfl ?_
        refine e_iadd d_213_200 rfl ?_
        refine e_goto (t := 207) d_213_201 (by decide) ?_
        exact H
    · replace H := H.1 hc
      refine e_goto (t := 229) d_213_173 (by decide) ?_
      refine e_iinc (ls2 := [.ref 59, .int x1, .int (x2 + 1), .int ((14 * x1) + x2)]) d_213_229 rfl ci_1 rfl rfl rfl ?_
      refine e_goto (t := 146) d_213_232 (by decide) ?_
      exact H
theorem b_213_207 {t : Nat} {σ : Mm} {w : Option Value × Mm} {x1 : Int32} {x2 : Int32} {x3 : Int32} {s0 : Int32} {s1 : Int32} (hS : Sg t σ) 
    (H : inb s1 28 = true ∧ (∃ (v3 : Int32) (σ1 : Mm), Cl 212 [.ref 59, .int x1, .int x2] (uI σ 88 s1.toNatClampNeg s0) (some (.int v3), σ1) ∧ Sg t σ1 ∧ ((v3 = 0 → Ev 213 146 [.ref 59, .int x1, .int (x2 + 1), .int x3] [] σ1 w) ∧ (¬ (v3 = 0) → (inb x1 2 = true ∧ (inb x1 2 = true ∧ (∀ (σ4 : Mm), σ4 = uI σ1 83 x1.toNatClampNeg ((mI σ1 83 x1.toNatClampNeg) ||| ((1 : Int32) <<< (x2 &&& 31))) → Ev 213 146 [.ref 59, .int x1, .int (x2 + 1), .int x3] [] σ4 w))))))) :
    Ev 213 207 [.ref 59, .int x1, .int x2, .int x3] [.int s0, .int s1, .ref 88] σ w := by
  obtain ⟨hb, H⟩ := H
  refine e_iastore d_213_207 (okI_at (hS.k rfl) hb) rfl ?_
  refine e_aload_n d_213_208 rfl rfl ?_
  refine e_iload_n d_213_209 rfl rfl ?_
  refine e_iload_n d_213_210 rfl rfl ?_
  obtain ⟨v3, σ1, hcl, hS2, H⟩ := H
  refine e_vcall (w1 := (some (.int v3), σ1)) d_213_211 kc_213_211 rfl ⟨Nat.le_of_ble_eq_true rfl, xx_213.symm⟩ rfl hcl ?_
  show Ev 213 214 [.ref 59, .int x1, .int x2, .int x3] [.int v3] σ1 w
  refine e_if_eq (t := 229) d_213_214 (by decide) rfl (fun hc => ?_) (fun hc => ?_)
  · replace H := H.1 hc
    refine e_iinc (ls2 := [.ref 59, .int x1, .int (x2 + 1), .int x3]) d_213_229 rfl ci_1 rfl rfl rfl ?_
    refine e_goto (t := 146) d_213_232 (by decide) ?_
    exact H
  · replace H := H.2 hc
    refine e_aload_n d_213_217 rfl rfl ?_
    refine e_getR d_213_218 oo_213 pF_9_85 (by decide) (hS2.k rfl) (hS2.r rt_59_50) rfl ?_
    refine e_iload_n d_213_221 rfl rfl ?_
    refine e_dup2 d_213_222 rfl rfl ?_
    obtain ⟨hb, H⟩ := H
    refine e_iaload (v := (mI σ1 83 x1.toNatClampNeg)) d_213_223 (rdI_at (hS2.k rfl) hb) rfl ?_
    refine e_iconst d_213_224 ci_1 rfl ?_
    refine e_iload_n d_213_225 rfl rfl ?_
    refine e_ishl d_213_226 rfl ?_
    refine e_ior d_213_227 rfl ?_
    obtain ⟨hb, H⟩ := H
    refine e_iastore d_213_228 (okI_at (hS2.k rfl) hb) rfl ?_
    generalize hm5 : uI σ1 83 x1.toNatClampNeg ((mI σ1 83 x1.toNatClampNeg) ||| ((1 : Int32) <<< (x2 &&& 31))) = σ4
    have hS6 : Sg t σ4 := by rw [← hm5]; exact hS2.uI
    replace H := H σ4 hm5.symm
    refine e_iinc (ls2 := [.ref 59, .int x1, .int (x2 + 1), .int x3]) d_213_229 rfl ci_1 rfl rfl rfl ?_
    refine e_goto (t := 146) d_213_232 (by decide) ?_
    exact H
/-! X9_goMany -/
theorem b_214_0 {t : Nat} {σ : Mm} {w : Option Value × Mm} {x1 : Int32} (hS : Sg t σ) 
    (H : Ev 214 2 [.ref 59, .int x1, .int 0] [] σ w) :
    Ev 214 0 [.ref 59, .int x1, .retAddr 0] [] σ w := by
  refine e_iconst d_214_0 ci_0 rfl ?_
  refine e_istore_n (ls2 := [.ref 59, .int x1, .int 0]) d_214_1 rfl rfl rfl ?_
  exact H
theorem b_214_2 {t : Nat} {σ : Mm} {w : Option Value × Mm} {x1 : Int32} {x2 : Int32} (hS : Sg t σ) 
    (H : (x2 < x1 → (∃ (σ1 : Mm), Cl 213 [.ref 59, .int 1] σ (none, σ1) ∧ Sg t σ1 ∧ Ev 214 2 [.ref 59, .int x1, .int (x2 + 1)] [] σ1 w)) ∧ (¬ (x2 < x1) → (w = (none, σ)))) :
    Ev 214 2 [.ref 59, .int x1, .int x2] [] σ w := by
  refine e_iload_n d_214_2 rfl rfl ?_
  refine e_iload_n d_214_3 rfl rfl ?_
  refine e_icmp_ge (t := 18) d_214_4 (by decide) rfl (fun hc => ?_) (fun hc => ?_)
  · replace H := H.2 hc
    subst H
    exact e_vret d_214_18 rr_214
  · replace H := H.1 hc
    refine e_aload_n d_214_7 rfl rfl ?_
    refine e_iconst d_214_8 ci_1 rfl ?_
    obtain ⟨σ1, hcl, hS2, H⟩ := H
    refine e_vcall (w1 := (none, σ1)) d_214_9 kc_214_9 rfl ⟨Nat.le_of_ble_eq_true rfl, xx_214.symm⟩ rfl hcl ?_
    show Ev 214 12 [.ref 59, .int x1, .int x2] [] σ1 w
    refine e_iinc (ls2 := [.ref 59, .int x1, .int (x2 + 1)]) d_214_12 rfl ci_1 rfl rfl rfl ?_
    refine e_goto (t := 2) d_214_15 (by decide) ?_
    exact H
/-! X9_fails -/
theorem b_215_0 {t : Nat} {σ : Mm} {w : Option Value × Mm} {x1 : Int32} (hS : Sg t σ) 
    (H : w = (some (.int 0), uI σ 59 2 x1)) :
    Ev 215 0 [.ref 59, .int x1] [] σ w := by
  refine e_aload_n d_215_0 rfl rfl ?_
  refine e_iload_n d_215_1 rfl rfl ?_
  refine e_putI d_215_2 oo_215 pF_9_142 (Or.inl rfl) (hS.k rfl) rfl ?_
  refine e_iconst d_215_5 ci_0 rfl ?_
  subst H
  exact e_iret d_215_6 rr_215
/-! X9_lamp -/
theorem b_216_0 {t : Nat} {σ : Mm} {w : Option Value × Mm} {x1 : Int32} {x2 : Int32} (hS : Sg t σ) 
    (H : ∃ (v3 : Int32) (σ1 : Mm), Cl 199 [.ref 59, .int x1] (uI σ 59 2 0) (some (.int v3), σ1) ∧ Sg t σ1 ∧ ((v3 = 0 → (∃ (v12 : Int32) (σ10 : Mm), Cl 215 [.ref 59, .int 1] σ1 (some (.int v12), σ10) ∧ Sg t σ10 ∧ (w = (some (.int v12), σ10)))) ∧ (¬ (v3 = 0) → ((x2 = 0 → (w = (some (.int (((mI σ1 82 0) >>> (x1 &&& 31)) &&& 1)), σ1))) ∧ (x2 = 1 → (w = (some (.int (((mI σ1 83 0) >>> (x1 &&& 31)) &&& 1)), σ1))) ∧ (x2 = 2 → (inb x1 28 = true ∧ (w = (some (.int (mI σ1 88 x1.toNatClampNeg)), σ1)))) ∧ (x2 = 3 → (∃ (v9 : Int32) (σ7 : Mm), Cl 204 [.ref 59, .int 0, .int x1, .int 1023] σ1 (some (.int v9), σ7) ∧ Sg t σ7 ∧ (w = (some (.int v9), σ7)))) ∧ ((¬ x2 = 0 ∧ ¬ x2 = 1 ∧ ¬ x2 = 2 ∧ ¬ x2 = 3) → (∃ (v6 : Int32) (σ4 : Mm), Cl 215 [.ref 59, .int 2] σ1 (some (.int v6), σ4) ∧ Sg t σ4 ∧ (w = (some (.int v6), σ4)))))))) :
    Ev 216 0 [.ref 59, .int x1, .int x2] [] σ w := by
  refine e_aload_n d_216_0 rfl rfl ?_
  refine e_iconst d_216_1 ci_0 rfl ?_
  refine e_putI d_216_2 oo_216 pF_9_142 (Or.inl rfl) (hS.k rfl) rfl ?_
  refine e_aload_n d_216_5 rfl rfl ?_
  refine e_iload_n d_216_6 rfl rfl ?_
  obtain ⟨v3, σ1, hcl, hS2, H⟩ := H
  refine e_vcall (w1 := (some (.int v3), σ1)) d_216_7 kc_216_7 rfl ⟨Nat.le_of_ble_eq_true rfl, xx_216.symm⟩ rfl hcl ?_
  show Ev 216 10 [.ref 59, .int x1, .int x2] [.int v3] σ1 w
  refine e_if_ne (t := 19) d_216_10 (by decide) rfl (fun hc => ?_) (fun hc => ?_)
  · replace H := H.2 hc
    refine e_iload_n d_216_19 rfl rfl ?_
    by_cases hs0 : x2 = 0
    · replace H := H.1 hs0
      refine e_table (off := 32) (t := 52) d_216_20 (by rw [hs0]; decide +kernel) (by decide) ?_
      refine e_aload_n d_216_52 rfl rfl ?_
      refine e_getR d_216_53 oo_216 pF_9_82 (by decide) (hS2.k rfl) (hS2.r rt_59_49) rfl ?_
      refine e_iconst d_216_56 ci_0 rfl ?_
      refine e_iaload (v := (mI σ1 82 0)) d_216_57 (rdI_at (hS2.k rfl) rfl) rfl ?_
      refine e_iload_n d_216_58 rfl rfl ?_
      refine e_ishr d_216_59 rfl ?_
      refine e_iconst d_216_60 ci_1 rfl ?_
      refine e_iand d_216_61 rfl ?_
      subst H
      exact e_iret d_216_62 rr_216
    by_cases hs1 : x2 = 1
    · replace H := H.2.1 hs1
      refine e_table (off := 43) (t := 63) d_216_20 (by rw [hs1]; decide +kernel) (by decide) ?_
      refine e_aload_n d_216_63 rfl rfl ?_
      refine e_getR d_216_64 oo_216 pF_9_85 (by decide) (hS2.k rfl) (hS2.r rt_59_50) rfl ?_
      refine e_iconst d_216_67 ci_0 rfl ?_
      refine e_iaload (v := (mI σ1 83 0)) d_216_68 (rdI_at (hS2.k rfl) rfl) rfl ?_
      refine e_iload_n d_216_69 rfl rfl ?_
      refine e_ishr d_216_70 rfl ?_
      refine e_iconst d_216_71 ci_1 rfl ?_
      refine e_iand d_216_72 rfl ?_
      subst H
      exact e_iret d_216_73 rr_216
    by_cases hs2 : x2 = 2
    · replace H := H.2.2.1 hs2
      refine e_table (off := 54) (t := 74) d_216_20 (by rw [hs2]; decide +kernel) (by decide) ?_
      refine e_aload_n d_216_74 rfl rfl ?_
      refine e_getR d_216_75 oo_216 pF_9_100 (by decide) (hS2.k rfl) (hS2.r rt_59_55) rfl ?_
      refine e_iload_n d_216_78 rfl rfl ?_
      obtain ⟨hb, H⟩ := H
      refine e_iaload (v := (mI σ1 88 x1.toNatClampNeg)) d_216_79 (rdI_at (hS2.k rfl) hb) rfl ?_
      subst H
      exact e_iret d_216_80 rr_216
    by_cases hs3 : x2 = 3
    · replace H := H.2.2.2.1 hs3
      refine e_table (off := 61) (t := 81) d_216_20 (by rw [hs3]; decide +kernel) (by decide) ?_
      refine e_aload_n d_216_81 rfl rfl ?_
      refine e_iconst d_216_82 ci_0 rfl ?_
      refine e_iload_n d_216_83 rfl rfl ?_
      refine e_sipush d_216_84 cs_1023 rfl ?_
      obtain ⟨v9, σ7, hcl, hS8, H⟩ := H
      refine e_vcall (w1 := (some (.int v9), σ7)) d_216_87 kc_216_87 rfl ⟨Nat.le_of_ble_eq_true rfl, xx_216.symm⟩ rfl hcl ?_
      show Ev 216 90 [.ref 59, .int x1, .int x2] [.int v9] σ7 w
      subst H
      exact e_iret d_216_90 rr_216
    replace H := H.2.2.2.2 ⟨hs0, hs1, hs2, hs3⟩
    refine e_table (off := 71) (t := 91) d_216_20 (sw_216_20 hs0 hs1 hs2 hs3) (by decide) ?_
    refine e_aload_n d_216_91 rfl rfl ?_
    refine e_iconst d_216_92 ci_2 rfl ?_
    obtain ⟨v6, σ4, hcl, hS5, H⟩ := H
    refine e_vcall (w1 := (some (.int v6), σ4)) d_216_93 kc_216_93 rfl ⟨Nat.le_of_ble_eq_true rfl, xx_216.symm⟩ rfl hcl ?_
    show Ev 216 96 [.ref 59, .int x1, .int x2] [.int v6] σ4 w
    subst H
    exact e_iret d_216_96 rr_216
  · replace H := H.1 hc
    refine e_aload_n d_216_13 rfl rfl ?_
    refine e_iconst d_216_14 ci_1 rfl ?_
    obtain ⟨v12, σ10, hcl, hS11, H⟩ := H
    refine e_vcall (w1 := (some (.int v12), σ10)) d_216_15 kc_216_15 rfl ⟨Nat.le_of_ble_eq_true rfl, xx_216.symm⟩ rfl hcl ?_
    show Ev 216 18 [.ref 59, .int x1, .int x2] [.int v12] σ10 w
    subst H
    exact e_iret d_216_18 rr_216
/-! X9_pull -/
theorem b_217_0 {t : Nat} {σ : Mm} {w : Option Value × Mm} {x1 : Int32} {x2 : Int32} (hS : Sg t σ) 
    (H : ∃ (v3 : Int32) (σ1 : Mm), Cl 200 [.ref 59, .int x1] (uI σ 59 2 0) (some (.int v3), σ1) ∧ Sg t σ1 ∧ ((v3 = 0 → (w = (some (.int (-1)), σ1))) ∧ (¬ (v3 = 0) → ((x2 = 0 → (inb x1 20 = true ∧ (w = (some (.int (mI σ1 67 x1.toNatClampNeg)), σ1)))) ∧ (x2 = 1 → (w = (some (.int (((mI σ1 84 0) >>> (x1 &&& 31)) &&& 1)), σ1))) ∧ (x2 = 2 → (inb x1 20 = true ∧ (w = (some (.int (mI σ1 90 x1.toNatClampNeg)), σ1)))) ∧ (x2 = 3 → (inb x1 20 = true ∧ (w = (some (.int (mI σ1 89 x1.toNatClampNeg)), σ1)))) ∧ ((¬ x2 = 0 ∧ ¬ x2 = 1 ∧ ¬ x2 = 2 ∧ ¬ x2 = 3) → (w = (some (.int (-1)), σ1))))))) :
    Ev 217 0 [.ref 59, .int x1, .int x2] [] σ w := by
  refine e_aload_n d_217_0 rfl rfl ?_
  refine e_iconst d_217_1 ci_0 rfl ?_
  refine e_putI d_217_2 oo_217 pF_9_142 (Or.inl rfl) (hS.k rfl) rfl ?_
  refine e_aload_n d_217_5 rfl rfl ?_
  refine e_iload_n d_217_6 rfl rfl ?_
  obtain ⟨v3, σ1, hcl, hS2, H⟩ := H
  refine e_vcall (w1 := (some (.int v3), σ1)) d_217_7 kc_217_7 rfl ⟨Nat.le_of_ble_eq_true rfl, xx_217.symm⟩ rfl hcl ?_
  show Ev 217 10 [.ref 59, .int x1, .int x2] [.int v3] σ1 w
  refine e_if_ne (t := 15) d_217_10 (by decide) rfl (fun hc => ?_) (fun hc => ?_)
  · replace H := H.2 hc
    refine e_iload_n d_217_15 rfl rfl ?_
    by_cases hs0 : x2 = 0
    · replace H := H.1 hs0
      refine e_table (off := 32) (t := 48) d_217_16 (by rw [hs0]; decide +kernel) (by decide) ?_
      refine e_aload_n d_217_48 rfl rfl ?_
      refine e_getR d_217_49 oo_217 pF_9_36 (by decide) (hS2.k rfl) (hS2.r rt_59_27) rfl ?_
      refine e_iload_n d_217_52 rfl rfl ?_
      obtain ⟨hb, H⟩ := H
      refine e_iaload (v := (mI σ1 67 x1.toNatClampNeg)) d_217_53 (rdI_at (hS2.k rfl) hb) rfl ?_
      subst H
      exact e_iret d_217_54 rr_217
    by_cases hs1 : x2 = 1
    · replace H := H.2.1 hs1
      refine e_table (off := 39) (t := 55) d_217_16 (by rw [hs1]; decide +kernel) (by decide) ?_
      refine e_aload_n d_217_55 rfl rfl ?_
      refine e_getR d_217_56 oo_217 pF_9_88 (by decide) (hS2.k rfl) (hS2.r rt_59_51) rfl ?_
      refine e_iconst d_217_59 ci_0 rfl ?_
      refine e_iaload (v := (mI σ1 84 0)) d_217_60 (rdI_at (hS2.k rfl) rfl) rfl ?_
      refine e_iload_n d_217_61 rfl rfl ?_
      refine e_ishr d_217_62 rfl ?_
      refine e_iconst d_217_63 ci_1 rfl ?_
      refine e_iand d_217_64 rfl ?_
      subst H
      exact e_iret d_217_65 rr_217
    by_cases hs2 : x2 = 2
    · replace H := H.2.2.1 hs2
      refine e_table (off := 50) (t := 66) d_217_16 (by rw [hs2]; decide +kernel) (by decide) ?_
      refine e_aload_n d_217_66 rfl rfl ?_
      refine e_getR d_217_67 oo_217 pF_9_106 (by decide) (hS2.k rfl) (hS2.r rt_59_57) rfl ?_
      refine e_iload_n d_217_70 rfl rfl ?_
      obtain ⟨hb, H⟩ := H
      refine e_iaload (v := (mI σ1 90 x1.toNatClampNeg)) d_217_71 (rdI_at (hS2.k rfl) hb) rfl ?_
      subst H
      exact e_iret d_217_72 rr_217
    by_cases hs3 : x2 = 3
    · replace H := H.2.2.2.1 hs3
      refine e_table (off := 57) (t := 73) d_217_16 (by rw [hs3]; decide +kernel) (by decide) ?_
      refine e_aload_n d_217_73 rfl rfl ?_
      refine e_getR d_217_74 oo_217 pF_9_103 (by decide) (hS2.k rfl) (hS2.r rt_59_56) rfl ?_
      refine e_iload_n d_217_77 rfl rfl ?_
      obtain ⟨hb, H⟩ := H
      refine e_iaload (v := (mI σ1 89 x1.toNatClampNeg)) d_217_78 (rdI_at (hS2.k rfl) hb) rfl ?_
      subst H
      exact e_iret d_217_79 rr_217
    replace H := H.2.2.2.2 ⟨hs0, hs1, hs2, hs3⟩
    refine e_table (off := 64) (t := 80) d_217_16 (sw_217_16 hs0 hs1 hs2 hs3) (by decide) ?_
    refine e_iconst d_217_80 ci_m1 rfl ?_
    subst H
    exact e_iret d_217_81 rr_217
  · replace H := H.1 hc
    refine e_iconst d_217_13 ci_m1 rfl ?_
    subst H
    exact e_iret d_217_14 rr_217
/-! X9_evening -/
theorem b_218_0 {t : Nat} {σ : Mm} {w : Option Value × Mm} {x1 : Int32} (hS : Sg t σ) 
    (H : (x1 = 0 → (∃ (v3 : Int32) (σ1 : Mm), Cl 203 [.ref 59, .int 0] (uI σ 59 2 0) (some (.int v3), σ1) ∧ Sg t σ1 ∧ (w = (some (.int v3), σ1)))) ∧ (¬ (x1 = 0) → ((x1 = 1 → (w = (some (.int (mI (uI σ 59 2 0) 82 0)), uI σ 59 2 0))) ∧ (¬ (x1 = 1) → ((x1 = 2 → (w = (some (.int (mI (uI σ 59 2 0) 83 0)), uI σ 59 2 0))) ∧ (¬ (x1 = 2) → (w = (some (.int (-1)), uI σ 59 2 0)))))))) :
    Ev 218 0 [.ref 59, .int x1] [] σ w := by
  refine e_aload_n d_218_0 rfl rfl ?_
  refine e_iconst d_218_1 ci_0 rfl ?_
  refine e_putI d_218_2 oo_218 pF_9_142 (Or.inl rfl) (hS.k rfl) rfl ?_
  refine e_iload_n d_218_5 rfl rfl ?_
  refine e_if_ne (t := 17) d_218_6 (by decide) rfl (fun hc => ?_) (fun hc => ?_)
  · replace H := H.2 hc
    refine e_iload_n d_218_17 rfl rfl ?_
    refine e_iconst d_218_18 ci_1 rfl ?_
    refine e_icmp_ne (t := 31) d_218_19 (by decide) rfl (fun hc => ?_) (fun hc => ?_)
    · replace H := H.2 hc
      refine e_iload_n d_218_31 rfl rfl ?_
      refine e_iconst d_218_32 ci_2 rfl ?_
      refine e_icmp_ne (t := 45) d_218_33 (by decide) rfl (fun hc => ?_) (fun hc => ?_)
      · replace H := H.2 hc
        refine e_iconst d_218_45 ci_m1 rfl ?_
        subst H
        exact e_iret d_218_46 rr_218
      · replace H := H.1 hc
        refine e_aload_n d_218_36 rfl rfl ?_
        refine e_getR d_218_37 oo_218 pF_9_85 (by decide) (hS.uI.k rfl) (hS.uI.r rt_59_50) rfl ?_
        refine e_iconst d_218_40 ci_0 rfl ?_
        refine e_iaload (v := (mI (uI σ 59 2 0) 83 0)) d_218_41 (rdI_at (hS.uI.k rfl) rfl) rfl ?_
        refine e_goto (t := 46) d_218_42 (by decide) ?_
        subst H
        exact e_iret d_218_46 rr_218
    · replace H := H.1 hc
      refine e_aload_n d_218_22 rfl rfl ?_
      refine e_getR d_218_23 oo_218 pF_9_82 (by decide) (hS.uI.k rfl) (hS.uI.r rt_59_49) rfl ?_
      refine e_iconst d_218_26 ci_0 rfl ?_
      refine e_iaload (v := (mI (uI σ 59 2 0) 82 0)) d_218_27 (rdI_at (hS.uI.k rfl) rfl) rfl ?_
      refine e_goto (t := 46) d_218_28 (by decide) ?_
      subst H
      exact e_iret d_218_46 rr_218
  · replace H := H.1 hc
    refine e_aload_n d_218_9 rfl rfl ?_
    refine e_iconst d_218_10 ci_0 rfl ?_
    obtain ⟨v3, σ1, hcl, hS2, H⟩ := H
    refine e_vcall (w1 := (some (.int v3), σ1)) d_218_11 kc_218_11 rfl ⟨Nat.le_of_ble_eq_true rfl, xx_218.symm⟩ rfl hcl ?_
    show Ev 218 14 [.ref 59, .int x1] [.int v3] σ1 w
    refine e_goto (t := 46) d_218_14 (by decide) ?_
    subst H
    exact e_iret d_218_46 rr_218
/-! X9_law -/
theorem b_219_0 {t : Nat} {σ : Mm} {w : Option Value × Mm} {x1 : Int32} {x2 : Int32} (hS : Sg t σ) 
    (H : ∃ (v3 : Int32) (σ1 : Mm), Cl 152 [.int x1, .int 0, .int 2] (uI σ 59 2 0) (some (.int v3), σ1) ∧ Sg t σ1 ∧ ((v3 = 0 → (w = (some (.long (-9223372036854775808)), σ1))) ∧ (¬ (v3 = 0) → (inb x1 6 = true ∧ (((mI σ1 72 x1.toNatClampNeg) = 0 → (w = (some (.long (-9223372036854775808)), σ1))) ∧ (¬ ((mI σ1 72 x1.toNatClampNeg) = 0) → ((x1 = 2 → (∃ (v9 : Int32) (σ7 : Mm), Cl 199 [.ref 59, .int x2] σ1 (some (.int v9), σ7) ∧ Sg t σ7 ∧ ((v9 = 0 → (w = (some (.long (-9223372036854775808)), σ7))) ∧ (¬ (v9 = 0) → Ev 219 51 [.ref 59, .int x1, .int x2, .retAddr 0, .retAddr 0] [] σ7 w)))) ∧ (¬ (x1 = 2) → (∃ (v6 : Int32) (σ4 : Mm), Cl 200 [.ref 59, .int x2] σ1 (some (.int v6), σ4) ∧ Sg t σ4 ∧ ((v6 = 0 → (w = (some (.long (-9223372036854775808)), σ4))) ∧ (¬ (v6 = 0) → Ev 219 51 [.ref 59, .int x1, .int x2, .retAddr 0, .retAddr 0] [] σ4 w))))))))))) :
    Ev 219 0 [.ref 59, .int x1, .int x2, .retAddr 0, .retAddr 0] [] σ w := by
  refine e_aload_n d_219_0 rfl rfl ?_
  refine e_iconst d_219_1 ci_0 rfl ?_
  refine e_putI d_219_2 oo_219 pF_9_142 (Or.inl rfl) (hS.k rfl) rfl ?_
  refine e_iload_n d_219_5 rfl rfl ?_
  refine e_iconst d_219_6 ci_0 rfl ?_
  refine e_iconst d_219_7 ci_2 rfl ?_
  obtain ⟨v3, σ1, hcl, hS2, H⟩ := H
  refine e_scall (w1 := (some (.int v3), σ1)) d_219_8 kc_219_8 rfl ⟨Nat.le_of_ble_eq_true rfl, xx_219.symm⟩ rfl hcl ?_
  show Ev 219 11 [.ref 59, .int x1, .int x2, .retAddr 0, .retAddr 0] [.int v3] σ1 w
  refine e_if_eq (t := 47) d_219_11 (by decide) rfl (fun hc => ?_) (fun hc => ?_)
  · replace H := H.1 hc
    refine e_ldc2 d_219_47 oo_219 pL_9_448 rfl ?_
    subst H
    exact e_lret d_219_50 rr_219
  · replace H := H.2 hc
    refine e_aload_n d_219_14 rfl rfl ?_
    refine e_getR d_219_15 oo_219 pF_9_51 (by decide) (hS2.k rfl) (hS2.r rt_59_32) rfl ?_
    refine e_iload_n d_219_18 rfl rfl ?_
    obtain ⟨hb, H⟩ := H
    refine e_baload (v := (mI σ1 72 x1.toNatClampNeg)) d_219_19 (rdB_at (hS2.k rfl) (Or.inr rfl) hb) rfl ?_
    refine e_if_eq (t := 47) d_219_20 (by decide) rfl (fun hc => ?_) (fun hc => ?_)
    · replace H := H.1 hc
      refine e_ldc2 d_219_47 oo_219 pL_9_448 rfl ?_
      subst H
      exact e_lret d_219_50 rr_219
    · replace H := H.2 hc
      refine e_iload_n d_219_23 rfl rfl ?_
      refine e_iconst d_219_24 ci_2 rfl ?_
      refine e_icmp_ne (t := 39) d_219_25 (by decide) rfl (fun hc => ?_) (fun hc => ?_)
      · replace H := H.2 hc
        refine e_aload_n d_219_39 rfl rfl ?_
        refine e_iload_n d_219_40 rfl rfl ?_
        obtain ⟨v6, σ4, hcl, hS5, H⟩ := H
        refine e_vcall (w1 := (some (.int v6), σ4)) d_219_41 kc_219_41 rfl ⟨Nat.le_of_ble_eq_true rfl, xx_219.symm⟩ rfl hcl ?_
        show Ev 219 44 [.ref 59, .int x1, .int x2, .retAddr 0, .retAddr 0] [.int v6] σ4 w
        refine e_if_ne (t := 51) d_219_44 (by decide) rfl (fun hc => ?_) (fun hc => ?_)
        · replace H := H.2 hc
          exact H
        · replace H := H.1 hc
          refine e_ldc2 d_219_47 oo_219 pL_9_448 rfl ?_
          subst H
          exact e_lret d_219_50 rr_219
      · replace H := H.1 hc
        refine e_aload_n d_219_28 rfl rfl ?_
        refine e_iload_n d_219_29 rfl rfl ?_
        obtain ⟨v9, σ7, hcl, hS8, H⟩ := H
        refine e_vcall (w1 := (some (.int v9), σ7)) d_219_30 kc_219_30 rfl ⟨Nat.le_of_ble_eq_true rfl, xx_219.symm⟩ rfl hcl ?_
        show Ev 219 33 [.ref 59, .int x1, .int x2, .retAddr 0, .retAddr 0] [.int v9] σ7 w
        refine e_if_ne (t := 51) d_219_33 (by decide) rfl (fun hc => ?_) (fun hc => ?_)
        · replace H := H.2 hc
          exact H
        · replace H := H.1 hc
          refine e_goto (t := 47) d_219_36 (by decide) ?_
          refine e_ldc2 d_219_47 oo_219 pL_9_448 rfl ?_
          subst H
          exact e_lret d_219_50 rr_219
theorem b_219_51 {t : Nat} {σ : Mm} {w : Option Value × Mm} {x1 : Int32} {x2 : Int32} {z3 : Value} {z4 : Value} (hS : Sg t σ) 
    (H : (x1 = 2 → (∃ (σ7 : Mm), Cl 207 [.ref 59, .int 0, .int x2] σ (none, σ7) ∧ Sg t σ7 ∧ (∃ (v12 : Int64) (σ10 : Mm), Cl 208 [.ref 59, .int x1] σ7 (some (.long v12), σ10) ∧ Sg t σ10 ∧ (((mI σ10 59 48) = 0 → (w = (some (.long v12), σ10))) ∧ (¬ ((mI σ10 59 48) = 0) → (w = (some (.long (-9223372036854775808)), σ10))))))) ∧ (¬ (x1 = 2) → (∃ (σ1 : Mm), Cl 206 [.ref 59, .int 0, .int x2] σ (none, σ1) ∧ Sg t σ1 ∧ (∃ (v6 : Int64) (σ4 : Mm), Cl 208 [.ref 59, .int x1] σ1 (some (.long v6), σ4) ∧ Sg t σ4 ∧ (((mI σ4 59 48) = 0 → (w = (some (.long v6), σ4))) ∧ (¬ ((mI σ4 59 48) = 0) → (w = (some (.long (-9223372036854775808)), σ4)))))))) :
    Ev 219 51 [.ref 59, .int x1, .int x2, z3, z4] [] σ w := by
  refine e_iload_n d_219_51 rfl rfl ?_
  refine e_iconst d_219_52 ci_2 rfl ?_
  refine e_icmp_ne (t := 65) d_219_53 (by decide) rfl (fun hc => ?_) (fun hc => ?_)
  · replace H := H.2 hc
    refine e_aload_n d_219_65 rfl rfl ?_
    refine e_iconst d_219_66 ci_0 rfl ?_
    refine e_iload_n d_219_67 rfl rfl ?_
    obtain ⟨σ1, hcl, hS2, H⟩ := H
    refine e_vcall (w1 := (none, σ1)) d_219_68 kc_219_68 rfl ⟨Nat.le_of_ble_eq_true rfl, xx_219.symm⟩ rfl hcl ?_
    show Ev 219 71 [.ref 59, .int x1, .int x2, z3, z4] [] σ1 w
    refine e_aload_n d_219_71 rfl rfl ?_
    refine e_iload_n d_219_72 rfl rfl ?_
    obtain ⟨v6, σ4, hcl, hS5, H⟩ := H
    refine e_vcall (w1 := (some (.long v6), σ4)) d_219_73 kc_219_73 rfl ⟨Nat.le_of_ble_eq_true rfl, xx_219.symm⟩ rfl hcl ?_
    show Ev 219 76 [.ref 59, .int x1, .int x2, z3, z4] [.long v6] σ4 w
    refine e_lstore_n (ls2 := [.ref 59, .int x1, .int x2, .long v6, .float 0]) d_219_76 rfl rfl rfl ?_
    refine e_aload_n d_219_77 rfl rfl ?_
    refine e_getZ d_219_78 oo_219 pF_9_336 (by decide) (hS5.k rfl) rfl ?_
    refine e_if_eq (t := 90) d_219_81 (by decide) rfl (fun hc => ?_) (fun hc => ?_)
    · replace H := H.1 hc
      refine e_lload_n d_219_90 rfl rfl ?_
      subst H
      exact e_lret d_219_91 rr_219
    · replace H := H.2 hc
      refine e_ldc2 d_219_84 oo_219 pL_9_448 rfl ?_
      refine e_goto (t := 91) d_219_87 (by decide) ?_
      subst H
      exact e_lret d_219_91 rr_219
  · replace H := H.1 hc
    refine e_aload_n d_219_56 rfl rfl ?_
    refine e_iconst d_219_57 ci_0 rfl ?_
    refine e_iload_n d_219_58 rfl rfl ?_
    obtain ⟨σ7, hcl, hS8, H⟩ := H
    refine e_vcall (w1 := (none, σ7)) d_219_59 kc_219_59 rfl ⟨Nat.le_of_ble_eq_true rfl, xx_219.symm⟩ rfl hcl ?_
    show Ev 219 62 [.ref 59, .int x1, .int x2, z3, z4] [] σ7 w
    refine e_goto (t := 71) d_219_62 (by decide) ?_
    refine e_aload_n d_219_71 rfl rfl ?_
    refine e_iload_n d_219_72 rfl rfl ?_
    obtain ⟨v12, σ10, hcl, hS11, H⟩ := H
    refine e_vcall (w1 := (some (.long v12), σ10)) d_219_73 kc_219_73 rfl ⟨Nat.le_of_ble_eq_true rfl, xx_219.symm⟩ rfl hcl ?_
    show Ev 219 76 [.ref 59, .int x1, .int x2, z3, z4] [.long v12] σ10 w
    refine e_lstore_n (ls2 := [.ref 59, .int x1, .int x2, .long v12, .float 0]) d_219_76 rfl rfl rfl ?_
    refine e_aload_n d_219_77 rfl rfl ?_
    refine e_getZ d_219_78 oo_219 pF_9_336 (by decide) (hS11.k rfl) rfl ?_
    refine e_if_eq (t := 90) d_219_81 (by decide) rfl (fun hc => ?_) (fun hc => ?_)
    · replace H := H.1 hc
      refine e_lload_n d_219_90 rfl rfl ?_
      subst H
      exact e_lret d_219_91 rr_219
    · replace H := H.2 hc
      refine e_ldc2 d_219_84 oo_219 pL_9_448 rfl ?_
      refine e_goto (t := 91) d_219_87 (by decide) ?_
      subst H
      exact e_lret d_219_91 rr_219
/-! X9_ring -/
theorem b_220_0 {t : Nat} {σ : Mm} {w : Option Value × Mm} {x1 : Int32} (hS : Sg t σ) 
    (H : ∃ (v3 : Int32) (σ1 : Mm), Cl 200 [.ref 59, .int x1] (uI σ 59 2 0) (some (.int v3), σ1) ∧ Sg t σ1 ∧ ((v3 = 0 → (w = (some (.int (-1)), σ1))) ∧ (¬ (v3 = 0) → (∃ (v6 : Int32) (σ4 : Mm), Cl 153 [.int (mI σ1 84 0), .int x1] σ1 (some (.int v6), σ4) ∧ Sg t σ4 ∧ ((v6 = 0 → (∃ (σ7 : Mm), Cl 197 [.ref 59] σ4 (none, σ7) ∧ Sg t σ7 ∧ (∃ (σ10 : Mm), Cl 268 [.ref 59] σ7 (none, σ10) ∧ Sg t σ10 ∧ (∃ (σ13 : Mm), Cl 210 [.ref 59, .int 0, .int x1] σ10 (none, σ13) ∧ Sg t σ13 ∧ (∃ (v18 : Int32) (σ16 : Mm), Cl 203 [.ref 59, .int 0] σ13 (some (.int v18), σ16) ∧ Sg t σ16 ∧ (∃ (v21 : Int32) (σ19 : Mm), Cl 202 [.int v18] σ16 (some (.int v21), σ19) ∧ Sg t σ19 ∧ (w = (some (.int v21), σ19)))))))) ∧ (¬ (v6 = 0) → (w = (some (.int (-2)), σ4)))))))) :
    Ev 220 0 [.ref 59, .int x1] [] σ w := by
  refine e_aload_n d_220_0 rfl rfl ?_
  refine e_iconst d_220_1 ci_0 rfl ?_
  refine e_putI d_220_2 oo_220 pF_9_142 (Or.inl rfl) (hS.k rfl) rfl ?_
  refine e_aload_n d_220_5 rfl rfl ?_
  refine e_iload_n d_220_6 rfl rfl ?_
  obtain ⟨v3, σ1, hcl, hS2, H⟩ := H
  refine e_vcall (w1 := (some (.int v3), σ1)) d_220_7 kc_220_7 rfl ⟨Nat.le_of_ble_eq_true rfl, xx_220.symm⟩ rfl hcl ?_
  show Ev 220 10 [.ref 59, .int x1] [.int v3] σ1 w
  refine e_if_ne (t := 15) d_220_10 (by decide) rfl (fun hc => ?_) (fun hc => ?_)
  · replace H := H.2 hc
    refine e_aload_n d_220_15 rfl rfl ?_
    refine e_getR d_220_16 oo_220 pF_9_88 (by decide) (hS2.k rfl) (hS2.r rt_59_51) rfl ?_
    refine e_iconst d_220_19 ci_0 rfl ?_
    refine e_iaload (v := (mI σ1 84 0)) d_220_20 (rdI_at (hS2.k rfl) rfl) rfl ?_
    refine e_iload_n d_220_21 rfl rfl ?_
    obtain ⟨v6, σ4, hcl, hS5, H⟩ := H
    refine e_scall (w1 := (some (.int v6), σ4)) d_220_22 kc_220_22 rfl ⟨Nat.le_of_ble_eq_true rfl, xx_220.symm⟩ rfl hcl ?_
    show Ev 220 25 [.ref 59, .int x1] [.int v6] σ4 w
    refine e_if_eq (t := 31) d_220_25 (by decide) rfl (fun hc => ?_) (fun hc => ?_)
    · replace H := H.1 hc
      refine e_aload_n d_220_31 rfl rfl ?_
      obtain ⟨σ7, hcl, hS8, H⟩ := H
      refine e_vcall (w1 := (none, σ7)) d_220_32 kc_220_32 rfl ⟨Nat.le_of_ble_eq_true rfl, xx_220.symm⟩ rfl hcl ?_
      show Ev 220 35 [.ref 59, .int x1] [] σ7 w
      refine e_aload_n d_220_35 rfl rfl ?_
      obtain ⟨σ10, hcl, hS11, H⟩ := H
      refine e_vcall (w1 := (none, σ10)) d_220_36 kc_220_36 rfl ⟨Nat.le_of_ble_eq_true rfl, xx_220.symm⟩ rfl hcl ?_
      show Ev 220 39 [.ref 59, .int x1] [] σ10 w
      refine e_aload_n d_220_39 rfl rfl ?_
      refine e_iconst d_220_40 ci_0 rfl ?_
      refine e_iload_n d_220_41 rfl rfl ?_
      obtain ⟨σ13, hcl, hS14, H⟩ := H
      refine e_vcall (w1 := (none, σ13)) d_220_42 kc_220_42 rfl ⟨Nat.le_of_ble_eq_true rfl, xx_220.symm⟩ rfl hcl ?_
      show Ev 220 45 [.ref 59, .int x1] [] σ13 w
      refine e_aload_n d_220_45 rfl rfl ?_
      refine e_iconst d_220_46 ci_0 rfl ?_
      obtain ⟨v18, σ16, hcl, hS17, H⟩ := H
      refine e_vcall (w1 := (some (.int v18), σ16)) d_220_47 kc_220_47 rfl ⟨Nat.le_of_ble_eq_true rfl, xx_220.symm⟩ rfl hcl ?_
      show Ev 220 50 [.ref 59, .int x1] [.int v18] σ16 w
      obtain ⟨v21, σ19, hcl, hS20, H⟩ := H
      refine e_scall (w1 := (some (.int v21), σ19)) d_220_50 kc_220_50 rfl ⟨Nat.le_of_ble_eq_true rfl, xx_220.symm⟩ rfl hcl ?_
      show Ev 220 53 [.ref 59, .int x1] [.int v21] σ19 w
      subst H
      exact e_iret d_220_53 rr_220
    · replace H := H.2 hc
      refine e_bipush d_220_28 cb_m2 rfl ?_
      subst H
      exact e_iret d_220_30 rr_220
  · replace H := H.1 hc
    refine e_iconst d_220_13 ci_m1 rfl ?_
    subst H
    exact e_iret d_220_14 rr_220
/-! X9_tie -/
theorem b_221_0 {t : Nat} {σ : Mm} {w : Option Value × Mm} {x1 : Int32} {x2 : Int32} (hS : Sg t σ) 
    (H : ∃ (v3 : Int32) (σ1 : Mm), Cl 200 [.ref 59, .int x1] (uI σ 59 2 0) (some (.int v3), σ1) ∧ Sg t σ1 ∧ ((v3 = 0 → (w = (some (.int (-1)), σ1))) ∧ (¬ (v3 = 0) → (∃ (v6 : Int32) (σ4 : Mm), Cl 199 [.ref 59, .int x2] σ1 (some (.int v6), σ4) ∧ Sg t σ4 ∧ ((v6 = 0 → (w = (some (.int (-1)), σ4))) ∧ (¬ (v6 = 0) → (∃ (σ7 : Mm), Cl 268 [.ref 59] σ4 (none, σ7) ∧ Sg t σ7 ∧ (inb x1 20 = true ∧ (inb x1 20 = true ∧ (∀ (σ10 : Mm), σ10 = uI σ7 89 x1.toNatClampNeg ((mI σ7 89 x1.toNatClampNeg) ^^^ ((1 : Int32) <<< (x2 &&& 31))) → (inb x1 20 = true ∧ (w = (some (.int (((mI σ10 89 x1.toNatClampNeg) >>> (x2 &&& 31)) &&& 1)), σ10))))))))))))) :
    Ev 221 0 [.ref 59, .int x1, .int x2] [] σ w := by
  refine e_aload_n d_221_0 rfl rfl ?_
  refine e_iconst d_221_1 ci_0 rfl ?_
  refine e_putI d_221_2 oo_221 pF_9_142 (Or.inl rfl) (hS.k rfl) rfl ?_
  refine e_aload_n d_221_5 rfl rfl ?_
  refine e_iload_n d_221_6 rfl rfl ?_
  obtain ⟨v3, σ1, hcl, hS2, H⟩ := H
  refine e_vcall (w1 := (some (.int v3), σ1)) d_221_7 kc_221_7 rfl ⟨Nat.le_of_ble_eq_true rfl, xx_221.symm⟩ rfl hcl ?_
  show Ev 221 10 [.ref 59, .int x1, .int x2] [.int v3] σ1 w
  refine e_if_eq (t := 21) d_221_10 (by decide) rfl (fun hc => ?_) (fun hc => ?_)
  · replace H := H.1 hc
    refine e_iconst d_221_21 ci_m1 rfl ?_
    subst H
    exact e_iret d_221_22 rr_221
  · replace H := H.2 hc
    refine e_aload_n d_221_13 rfl rfl ?_
    refine e_iload_n d_221_14 rfl rfl ?_
    obtain ⟨v6, σ4, hcl, hS5, H⟩ := H
    refine e_vcall (w1 := (some (.int v6), σ4)) d_221_15 kc_221_15 rfl ⟨Nat.le_of_ble_eq_true rfl, xx_221.symm⟩ rfl hcl ?_
    show Ev 221 18 [.ref 59, .int x1, .int x2] [.int v6] σ4 w
    refine e_if_ne (t := 23) d_221_18 (by decide) rfl (fun hc => ?_) (fun hc => ?_)
    · replace H := H.2 hc
      refine e_aload_n d_221_23 rfl rfl ?_
      obtain ⟨σ7, hcl, hS8, H⟩ := H
      refine e_vcall (w1 := (none, σ7)) d_221_24 kc_221_24 rfl ⟨Nat.le_of_ble_eq_true rfl, xx_221.symm⟩ rfl hcl ?_
      show Ev 221 27 [.ref 59, .int x1, .int x2] [] σ7 w
      refine e_aload_n d_221_27 rfl rfl ?_
      refine e_getR d_221_28 oo_221 pF_9_103 (by decide) (hS8.k rfl) (hS8.r rt_59_56) rfl ?_
      refine e_iload_n d_221_31 rfl rfl ?_
      refine e_dup2 d_221_32 rfl rfl ?_
      obtain ⟨hb, H⟩ := H
      refine e_iaload (v := (mI σ7 89 x1.toNatClampNeg)) d_221_33 (rdI_at (hS8.k rfl) hb) rfl ?_
      refine e_iconst d_221_34 ci_1 rfl ?_
      refine e_iload_n d_221_35 rfl rfl ?_
      refine e_ishl d_221_36 rfl ?_
      refine e_ixor d_221_37 rfl ?_
      obtain ⟨hb, H⟩ := H
      refine e_iastore d_221_38 (okI_at (hS8.k rfl) hb) rfl ?_
      generalize hm11 : uI σ7 89 x1.toNatClampNeg ((mI σ7 89 x1.toNatClampNeg) ^^^ ((1 : Int32) <<< (x2 &&& 31))) = σ10
      have hS12 : Sg t σ10 := by rw [← hm11]; exact hS8.uI
      replace H := H σ10 hm11.symm
      refine e_aload_n d_221_39 rfl rfl ?_
      refine e_getR d_221_40 oo_221 pF_9_103 (by decide) (hS12.k rfl) (hS12.r rt_59_56) rfl ?_
      refine e_iload_n d_221_43 rfl rfl ?_
      obtain ⟨hb, H⟩ := H
      refine e_iaload (v := (mI σ10 89 x1.toNatClampNeg)) d_221_44 (rdI_at (hS12.k rfl) hb) rfl ?_
      refine e_iload_n d_221_45 rfl rfl ?_
      refine e_ishr d_221_46 rfl ?_
      refine e_iconst d_221_47 ci_1 rfl ?_
      refine e_iand d_221_48 rfl ?_
      subst H
      exact e_iret d_221_49 rr_221
    · replace H := H.1 hc
      refine e_iconst d_221_21 ci_m1 rfl ?_
      subst H
      exact e_iret d_221_22 rr_221
/-! X9_mend -/
theorem b_222_0 {t : Nat} {σ : Mm} {w : Option Value × Mm}  (hS : Sg t σ) 
    (H : ((mI (uI σ 59 2 0) 84 0) = 0 → (((mI (uI σ 59 2 0) 83 0) = 0 → (w = (some (.int 0), uI σ 59 2 0))) ∧ (¬ ((mI (uI σ 59 2 0) 83 0) = 0) → (∃ (σ4 : Mm), Cl 268 [.ref 59] (uI σ 59 2 0) (none, σ4) ∧ Sg t σ4 ∧ (w = (some (.int 1), uI (uI σ4 84 0 0) 83 0 0)))))) ∧ (¬ ((mI (uI σ 59 2 0) 84 0) = 0) → (∃ (σ1 : Mm), Cl 268 [.ref 59] (uI σ 59 2 0) (none, σ1) ∧ Sg t σ1 ∧ (w = (some (.int 1), uI (uI σ1 84 0 0) 83 0 0))))) :
    Ev 222 0 [.ref 59] [] σ w := by
  refine e_aload_n d_222_0 rfl rfl ?_
  refine e_iconst d_222_1 ci_0 rfl ?_
  refine e_putI d_222_2 oo_222 pF_9_142 (Or.inl rfl) (hS.k rfl) rfl ?_
  refine e_aload_n d_222_5 rfl rfl ?_
  refine e_getR d_222_6 oo_222 pF_9_88 (by decide) (hS.uI.k rfl) (hS.uI.r rt_59_51) rfl ?_
  refine e_iconst d_222_9 ci_0 rfl ?_
  refine e_iaload (v := (mI (uI σ 59 2 0) 84 0)) d_222_10 (rdI_at (hS.uI.k rfl) rfl) rfl ?_
  refine e_if_ne (t := 25) d_222_11 (by decide) rfl (fun hc => ?_) (fun hc => ?_)
  · replace H := H.2 hc
    refine e_aload_n d_222_25 rfl rfl ?_
    obtain ⟨σ1, hcl, hS2, H⟩ := H
    refine e_vcall (w1 := (none, σ1)) d_222_26 kc_222_26 rfl ⟨Nat.le_of_ble_eq_true rfl, xx_222.symm⟩ rfl hcl ?_
    show Ev 222 29 [.ref 59] [] σ1 w
    refine e_aload_n d_222_29 rfl rfl ?_
    refine e_getR d_222_30 oo_222 pF_9_88 (by decide) (hS2.k rfl) (hS2.r rt_59_51) rfl ?_
    refine e_iconst d_222_33 ci_0 rfl ?_
    refine e_iconst d_222_34 ci_0 rfl ?_
    refine e_iastore d_222_35 (okI_at (hS2.k rfl) rfl) rfl ?_
    show Ev 222 36 [.ref 59] [] (uI σ1 84 0 0) w
    refine e_aload_n d_222_36 rfl rfl ?_
    refine e_getR d_222_37 oo_222 pF_9_85 (by decide) (hS2.uI.k rfl) (hS2.uI.r rt_59_50) rfl ?_
    refine e_iconst d_222_40 ci_0 rfl ?_
    refine e_iconst d_222_41 ci_0 rfl ?_
    refine e_iastore d_222_42 (okI_at (hS2.uI.k rfl) rfl) rfl ?_
    show Ev 222 43 [.ref 59] [] (uI (uI σ1 84 0 0) 83 0 0) w
    refine e_iconst d_222_43 ci_1 rfl ?_
    subst H
    exact e_zret d_222_44 rr_222 (Or.inr rfl)
  · replace H := H.1 hc
    refine e_aload_n d_222_14 rfl rfl ?_
    refine e_getR d_222_15 oo_222 pF_9_85 (by decide) (hS.uI.k rfl) (hS.uI.r rt_59_50) rfl ?_
    refine e_iconst d_222_18 ci_0 rfl ?_
    refine e_iaload (v := (mI (uI σ 59 2 0) 83 0)) d_222_19 (rdI_at (hS.uI.k rfl) rfl) rfl ?_
    refine e_if_ne (t := 25) d_222_20 (by decide) rfl (fun hc => ?_) (fun hc => ?_)
    · replace H := H.2 hc
      refine e_aload_n d_222_25 rfl rfl ?_
      obtain ⟨σ4, hcl, hS5, H⟩ := H
      refine e_vcall (w1 := (none, σ4)) d_222_26 kc_222_26 rfl ⟨Nat.le_of_ble_eq_true rfl, xx_222.symm⟩ rfl hcl ?_
      show Ev 222 29 [.ref 59] [] σ4 w
      refine e_aload_n d_222_29 rfl rfl ?_
      refine e_getR d_222_30 oo_222 pF_9_88 (by decide) (hS5.k rfl) (hS5.r rt_59_51) rfl ?_
      refine e_iconst d_222_33 ci_0 rfl ?_
      refine e_iconst d_222_34 ci_0 rfl ?_
      refine e_iastore d_222_35 (okI_at (hS5.k rfl) rfl) rfl ?_
      show Ev 222 36 [.ref 59] [] (uI σ4 84 0 0) w
      refine e_aload_n d_222_36 rfl rfl ?_
      refine e_getR d_222_37 oo_222 pF_9_85 (by decide) (hS5.uI.k rfl) (hS5.uI.r rt_59_50) rfl ?_
      refine e_iconst d_222_40 ci_0 rfl ?_
      refine e_iconst d_222_41 ci_0 rfl ?_
      refine e_iastore d_222_42 (okI_at (hS5.uI.k rfl) rfl) rfl ?_
      show Ev 222 43 [.ref 59] [] (uI (uI σ4 84 0 0) 83 0 0) w
      refine e_iconst d_222_43 ci_1 rfl ?_
      subst H
      exact e_zret d_222_44 rr_222 (Or.inr rfl)
    · replace H := H.1 hc
      refine e_iconst d_222_23 ci_0 rfl ?_
      subst H
      exact e_zret d_222_24 rr_222 (Or.inl rfl)
/-! X9_go -/
theorem b_223_0 {t : Nat} {σ : Mm} {w : Option Value × Mm} {x1 : Int32} (hS : Sg t σ) 
    (H : ∃ (v3 : Int32) (σ1 : Mm), Cl 152 [.int x1, .int 0, .int 200] (uI σ 59 2 0) (some (.int v3), σ1) ∧ Sg t σ1 ∧ ((v3 = 0 → (w = (some (.int (-1)), σ1))) ∧ (¬ (v3 = 0) → ((9000 < ((mI σ1 87 0) + x1) → (w = (some (.int (-1)), σ1))) ∧ (¬ (9000 < ((mI σ1 87 0) + x1)) → (∃ (σ4 : Mm), Cl 197 [.ref 59] σ1 (none, σ4) ∧ Sg t σ4 ∧ Ev 223 43 [.ref 59, .int x1, .int 0] [] (uI σ4 59 59 1) w)))))) :
    Ev 223 0 [.ref 59, .int x1, .retAddr 0] [] σ w := by
  refine e_aload_n d_223_0 rfl rfl ?_
  refine e_iconst d_223_1 ci_0 rfl ?_
  refine e_putI d_223_2 oo_223 pF_9_142 (Or.inl rfl) (hS.k rfl) rfl ?_
  refine e_iload_n d_223_5 rfl rfl ?_
  refine e_iconst d_223_6 ci_0 rfl ?_
  refine e_sipush d_223_7 cs_200 rfl ?_
  obtain ⟨v3, σ1, hcl, hS2, H⟩ := H
  refine e_scall (w1 := (some (.int v3), σ1)) d_223_10 kc_223_10 rfl ⟨Nat.le_of_ble_eq_true rfl, xx_223.symm⟩ rfl hcl ?_
  show Ev 223 13 [.ref 59, .int x1, .retAddr 0] [.int v3] σ1 w
  refine e_if_eq (t := 30) d_223_13 (by decide) rfl (fun hc => ?_) (fun hc => ?_)
  · replace H := H.1 hc
    refine e_iconst d_223_30 ci_m1 rfl ?_
    subst H
    exact e_iret d_223_31 rr_223
  · replace H := H.2 hc
    refine e_aload_n d_223_16 rfl rfl ?_
    refine e_getR d_223_17 oo_223 pF_9_97 (by decide) (hS2.k rfl) (hS2.r rt_59_54) rfl ?_
    refine e_iconst d_223_20 ci_0 rfl ?_
    refine e_iaload (v := (mI σ1 87 0)) d_223_21 (rdI_at (hS2.k rfl) rfl) rfl ?_
    refine e_iload_n d_223_22 rfl rfl ?_
    refine e_iadd d_223_23 rfl ?_
    refine e_sipush d_223_24 cs_9000 rfl ?_
    refine e_icmp_le (t := 32) d_223_27 (by decide) rfl (fun hc => ?_) (fun hc => ?_)
    · replace H := H.2 hc
      refine e_aload_n d_223_32 rfl rfl ?_
      obtain ⟨σ4, hcl, hS5, H⟩ := H
      refine e_vcall (w1 := (none, σ4)) d_223_33 kc_223_33 rfl ⟨Nat.le_of_ble_eq_true rfl, xx_223.symm⟩ rfl hcl ?_
      show Ev 223 36 [.ref 59, .int x1, .retAddr 0] [] σ4 w
      refine e_aload_n d_223_36 rfl rfl ?_
      refine e_iconst d_223_37 ci_1 rfl ?_
      refine e_putZ d_223_38 oo_223 pF_9_374 (Or.inl rfl) (hS5.k rfl) (Or.inr rfl) rfl ?_
      refine e_iconst d_223_41 ci_0 rfl ?_
      refine e_istore_n (ls2 := [.ref 59, .int x1, .int 0]) d_223_42 rfl rfl rfl ?_
      exact H
    · replace H := H.1 hc
      refine e_iconst d_223_30 ci_m1 rfl ?_
      subst H
      exact e_iret d_223_31 rr_223
theorem b_223_43 {t : Nat} {σ : Mm} {w : Option Value × Mm} {x1 : Int32} {x2 : Int32} (hS : Sg t σ) 
    (H : (x2 < x1 → (∃ (σ4 : Mm), Cl 213 [.ref 59, .int 0] σ (none, σ4) ∧ Sg t σ4 ∧ Ev 223 43 [.ref 59, .int x1, .int (x2 + 1)] [] σ4 w)) ∧ (¬ (x2 < x1) → ((0 < x1 → (w = (some (.int (mI (uI (uI σ 59 59 0) 59 72 0) 87 0)), uI (uI σ 59 59 0) 59 72 0))) ∧ (¬ (0 < x1) → (∀ (σ1 : Mm), σ1 = uI (uI σ 59 59 0) 59 72 (mI (uI σ 59 59 0) 59 72) → (w = (some (.int (mI σ1 87 0)), σ1))))))) :
    Ev 223 43 [.ref 59, .int x1, .int x2] [] σ w := by
  refine e_iload_n d_223_43 rfl rfl ?_
  refine e_iload_n d_223_44 rfl rfl ?_
  refine e_icmp_ge (t := 59) d_223_45 (by decide) rfl (fun hc => ?_) (fun hc => ?_)
  · replace H := H.2 hc
    refine e_aload_n d_223_59 rfl rfl ?_
    refine e_iconst d_223_60 ci_0 rfl ?_
    refine e_putZ d_223_61 oo_223 pF_9_374 (Or.inl rfl) (hS.k rfl) (Or.inl rfl) rfl ?_
    refine e_aload_n d_223_64 rfl rfl ?_
    refine e_iload_n d_223_65 rfl rfl ?_
    refine e_if_le (t := 73) d_223_66 (by decide) rfl (fun hc => ?_) (fun hc => ?_)
    · replace H := H.2 hc
      refine e_aload_n d_223_73 rfl rfl ?_
      refine e_getI d_223_74 oo_223 pF_9_368 (by decide) (hS.uI.k rfl) rfl ?_
      refine e_putI d_223_77 oo_223 pF_9_368 (Or.inl rfl) (hS.uI.k rfl) rfl ?_
      generalize hm2 : uI (uI σ 59 59 0) 59 72 (mI (uI σ 59 59 0) 59 72) = σ1
      have hS3 : Sg t σ1 := by rw [← hm2]; exact hS.uI.uI
      replace H := H σ1 hm2.symm
      refine e_aload_n d_223_80 rfl rfl ?_
      refine e_getR d_223_81 oo_223 pF_9_97 (by decide) (hS3.k rfl) (hS3.r rt_59_54) rfl ?_
      refine e_iconst d_223_84 ci_0 rfl ?_
      refine e_iaload (v := (mI σ1 87 0)) d_223_85 (rdI_at (hS3.k rfl) rfl) rfl ?_
      subst H
      exact e_iret d_223_86 rr_223
    · replace H := H.1 hc
      refine e_iconst d_223_69 ci_0 rfl ?_
      refine e_goto (t := 77) d_223_70 (by decide) ?_
      refine e_putI d_223_77 oo_223 pF_9_368 (Or.inl rfl) (hS.uI.k rfl) rfl ?_
      refine e_aload_n d_223_80 rfl rfl ?_
      refine e_getR d_223_81 oo_223 pF_9_97 (by decide) (hS.uI.uI.k rfl) (hS.uI.uI.r rt_59_54) rfl ?_
      refine e_iconst d_223_84 ci_0 rfl ?_
      refine e_iaload (v := (mI (uI (uI σ 59 59 0) 59 72 0) 87 0)) d_223_85 (rdI_at (hS.uI.uI.k rfl) rfl) rfl ?_
      subst H
      exact e_iret d_223_86 rr_223
  · replace H := H.1 hc
    refine e_aload_n d_223_48 rfl rfl ?_
    refine e_iconst d_223_49 ci_0 rfl ?_
    obtain ⟨σ4, hcl, hS5, H⟩ := H
    refine e_vcall (w1 := (none, σ4)) d_223_50 kc_223_50 rfl ⟨Nat.le_of_ble_eq_true rfl, xx_223.symm⟩ rfl hcl ?_
    show Ev 223 53 [.ref 59, .int x1, .int x2] [] σ4 w
    refine e_iinc (ls2 := [.ref 59, .int x1, .int (x2 + 1)]) d_223_53 rfl ci_1 rfl rfl rfl ?_
    refine e_goto (t := 43) d_223_56 (by decide) ?_
    exact H
/-! X9_ahead -/
theorem b_224_0 {t : Nat} {σ : Mm} {w : Option Value × Mm} {x1 : Int32} {x2 : Int32} (hS : Sg t σ) 
    (H : ∃ (v3 : Int32) (σ1 : Mm), Cl 152 [.int x1, .int 0, .int 200] (uI σ 59 2 0) (some (.int v3), σ1) ∧ Sg t σ1 ∧ ((v3 = 0 → (w = (some (.int (-1)), σ1))) ∧ (¬ (v3 = 0) → (∃ (v6 : Int32) (σ4 : Mm), Cl 152 [.int x2, .int 0, .int 4] σ1 (some (.int v6), σ4) ∧ Sg t σ4 ∧ ((v6 = 0 → (w = (some (.int (-1)), σ4))) ∧ (¬ (v6 = 0) → (∃ (σ7 : Mm), Cl 198 [.ref 59] σ4 (none, σ7) ∧ Sg t σ7 ∧ (∃ (σ10 : Mm), Cl 214 [.ref 59, .int x1] σ7 (none, σ10) ∧ Sg t σ10 ∧ ((x2 = 0 → (∃ (v18 : Int32) (σ16 : Mm), Cl 203 [.ref 59, .int 1] σ10 (some (.int v18), σ16) ∧ Sg t σ16 ∧ (∃ (v21 : Int32) (σ19 : Mm), Cl 202 [.int v18] σ16 (some (.int v21), σ19) ∧ Sg t σ19 ∧ (w = (some (.int v21), σ19))))) ∧ (x2 = 1 → (w = (some (.int ((mI σ10 85 1) - (mI σ10 85 0))), σ10))) ∧ (x2 = 2 → (w = (some (.int ((mI σ10 86 1) - (mI σ10 86 0))), σ10))) ∧ (x2 = 3 → (∃ (v24 : Int32) (σ22 : Mm), Cl 202 [.int (mI σ10 83 1)] σ10 (some (.int v24), σ22) ∧ Sg t σ22 ∧ (w = (some (.int v24), σ22)))) ∧ ((¬ x2 = 0 ∧ ¬ x2 = 1 ∧ ¬ x2 = 2 ∧ ¬ x2 = 3) → (∃ (v15 : Int32) (σ13 : Mm), Cl 202 [.int (mI σ10 84 1)] σ10 (some (.int v15), σ13) ∧ Sg t σ13 ∧ (w = (some (.int v15), σ13))))))))))))) :
    Ev 224 0 [.ref 59, .int x1, .int x2] [] σ w := by
  refine e_aload_n d_224_0 rfl rfl ?_
  refine e_iconst d_224_1 ci_0 rfl ?_
  refine e_putI d_224_2 oo_224 pF_9_142 (Or.inl rfl) (hS.k rfl) rfl ?_
  refine e_iload_n d_224_5 rfl rfl ?_
  refine e_iconst d_224_6 ci_0 rfl ?_
  refine e_sipush d_224_7 cs_200 rfl ?_
  obtain ⟨v3, σ1, hcl, hS2, H⟩ := H
  refine e_scall (w1 := (some (.int v3), σ1)) d_224_10 kc_224_10 rfl ⟨Nat.le_of_ble_eq_true rfl, xx_224.symm⟩ rfl hcl ?_
  show Ev 224 13 [.ref 59, .int x1, .int x2] [.int v3] σ1 w
  refine e_if_eq (t := 25) d_224_13 (by decide) rfl (fun hc => ?_) (fun hc => ?_)
  · replace H := H.1 hc
    refine e_iconst d_224_25 ci_m1 rfl ?_
    subst H
    exact e_iret d_224_26 rr_224
  · replace H := H.2 hc
    refine e_iload_n d_224_16 rfl rfl ?_
    refine e_iconst d_224_17 ci_0 rfl ?_
    refine e_iconst d_224_18 ci_4 rfl ?_
    obtain ⟨v6, σ4, hcl, hS5, H⟩ := H
    refine e_scall (w1 := (some (.int v6), σ4)) d_224_19 kc_224_19 rfl ⟨Nat.le_of_ble_eq_true rfl, xx_224.symm⟩ rfl hcl ?_
    show Ev 224 22 [.ref 59, .int x1, .int x2] [.int v6] σ4 w
    refine e_if_ne (t := 27) d_224_22 (by decide) rfl (fun hc => ?_) (fun hc => ?_)
    · replace H := H.2 hc
      refine e_aload_n d_224_27 rfl rfl ?_
      obtain ⟨σ7, hcl, hS8, H⟩ := H
      refine e_vcall (w1 := (none, σ7)) d_224_28 kc_224_28 rfl ⟨Nat.le_of_ble_eq_true rfl, xx_224.symm⟩ rfl hcl ?_
      show Ev 224 31 [.ref 59, .int x1, .int x2] [] σ7 w
      refine e_aload_n d_224_31 rfl rfl ?_
      refine e_iload_n d_224_32 rfl rfl ?_
      obtain ⟨σ10, hcl, hS11, H⟩ := H
      refine e_vcall (w1 := (none, σ10)) d_224_33 kc_224_33 rfl ⟨Nat.le_of_ble_eq_true rfl, xx_224.symm⟩ rfl hcl ?_
      show Ev 224 36 [.ref 59, .int x1, .int x2] [] σ10 w
      refine e_iload_n d_224_36 rfl rfl ?_
      by_cases hs0 : x2 = 0
      · replace H := H.1 hs0
        refine e_table (off := 31) (t := 68) d_224_37 (by rw [hs0]; decide +kernel) (by decide) ?_
        refine e_aload_n d_224_68 rfl rfl ?_
        refine e_iconst d_224_69 ci_1 rfl ?_
        obtain ⟨v18, σ16, hcl, hS17, H⟩ := H
        refine e_vcall (w1 := (some (.int v18), σ16)) d_224_70 kc_224_70 rfl ⟨Nat.le_of_ble_eq_true rfl, xx_224.symm⟩ rfl hcl ?_
        show Ev 224 73 [.ref 59, .int x1, .int x2] [.int v18] σ16 w
        obtain ⟨v21, σ19, hcl, hS20, H⟩ := H
        refine e_scall (w1 := (some (.int v21), σ19)) d_224_73 kc_224_73 rfl ⟨Nat.le_of_ble_eq_true rfl, xx_224.symm⟩ rfl hcl ?_
        show Ev 224 76 [.ref 59, .int x1, .int x2] [.int v21] σ19 w
        subst H
        exact e_iret d_224_76 rr_224
      by_cases hs1 : x2 = 1
      · replace H := H.2.1 hs1
        refine e_table (off := 40) (t := 77) d_224_37 (by rw [hs1]; decide +kernel) (by decide) ?_
        refine e_aload_n d_224_77 rfl rfl ?_
        refine e_getR d_224_78 oo_224 pF_9_91 (by decide) (hS11.k rfl) (hS11.r rt_59_52) rfl ?_
        refine e_iconst d_224_81 ci_1 rfl ?_
        refine e_iaload (v := (mI σ10 85 1)) d_224_82 (rdI_at (hS11.k rfl) rfl) rfl ?_
        refine e_aload_n d_224_83 rfl rfl ?_
        refine e_getR d_224_84 oo_224 pF_9_91 (by decide) (hS11.k rfl) (hS11.r rt_59_52) rfl ?_
        refine e_iconst d_224_87 ci_0 rfl ?_
        refine e_iaload (v := (mI σ10 85 0)) d_224_88 (rdI_at (hS11.k rfl) rfl) rfl ?_
        refine e_isub d_224_89 rfl ?_
        subst H
        exact e_iret d_224_90 rr_224
      by_cases hs2 : x2 = 2
      · replace H := H.2.2.1 hs2
        refine e_table (off := 54) (t := 91) d_224_37 (by rw [hs2]; decide +kernel) (by decide) ?_
        refine e_aload_n d_224_91 rfl rfl ?_
        refine e_getR d_224_92 oo_224 pF_9_94 (by decide) (hS11.k rfl) (hS11.r rt_59_53) rfl ?_
        refine e_iconst d_224_95 ci_1 rfl ?_
        refine e_iaload (v := (mI σ10 86 1)) d_224_96 (rdI_at (hS11.k rfl) rfl) rfl ?_
        refine e_aload_n d_224_97 rfl rfl ?_
        refine e_getR d_224_98 oo_224 pF_9_94 (by decide) (hS11.k rfl) (hS11.r rt_59_53) rfl ?_
        refine e_iconst d_224_101 ci_0 rfl ?_
        refine e_iaload (v := (mI σ10 86 0)) d_224_102 (rdI_at (hS11.k rfl) rfl) rfl ?_
        refine e_isub d_224_103 rfl ?_
        subst H
        exact e_iret d_224_104 rr_224
      by_cases hs3 : x2 = 3
      · replace H := H.2.2.2.1 hs3
        refine e_table (off := 68) (t := 105) d_224_37 (by rw [hs3]; decide +kernel) (by decide) ?_
        refine e_aload_n d_224_105 rfl rfl ?_
        refine e_getR d_224_106 oo_224 pF_9_85 (by decide) (hS11.k rfl) (hS11.r rt_59_50) rfl ?_
        refine e_iconst d_224_109 ci_1 rfl ?_
        refine e_iaload (v := (mI σ10 83 1)) d_224_110 (rdI_at (hS11.k rfl) rfl) rfl ?_
        obtain ⟨v24, σ22, hcl, hS23, H⟩ := H
        refine e_scall (w1 := (some (.int v24), σ22)) d_224_111 kc_224_111 rfl ⟨Nat.le_of_ble_eq_true rfl, xx_224.symm⟩ rfl hcl ?_
        show Ev 224 114 [.ref 59, .int x1, .int x2] [.int v24] σ22 w
        subst H
        exact e_iret d_224_114 rr_224
      replace H := H.2.2.2.2 ⟨hs0, hs1, hs2, hs3⟩
      refine e_table (off := 78) (t := 115) d_224_37 (sw_224_37 hs0 hs1 hs2 hs3) (by decide) ?_
      refine e_aload_n d_224_115 rfl rfl ?_
      refine e_getR d_224_116 oo_224 pF_9_88 (by decide) (hS11.k rfl) (hS11.r rt_59_51) rfl ?_
      refine e_iconst d_224_119 ci_1 rfl ?_
      refine e_iaload (v := (mI σ10 84 1)) d_224_120 (rdI_at (hS11.k rfl) rfl) rfl ?_
      obtain ⟨v15, σ13, hcl, hS14, H⟩ := H
      refine e_scall (w1 := (some (.int v15), σ13)) d_224_121 kc_224_121 rfl ⟨Nat.le_of_ble_eq_true rfl, xx_224.symm⟩ rfl hcl ?_
      show Ev 224 124 [.ref 59, .int x1, .int x2] [.int v15] σ13 w
      subst H
      exact e_iret d_224_124 rr_224
    · replace H := H.1 hc
      refine e_iconst d_224_25 ci_m1 rfl ?_
      subst H
      exact e_iret d_224_26 rr_224
/-! X9_dark -/
theorem b_225_0 {t : Nat} {σ : Mm} {w : Option Value × Mm} {x1 : Int32} (hS : Sg t σ) 
    (H : ∃ (v3 : Int32) (σ1 : Mm), Cl 199 [.ref 59, .int x1] (uI σ 59 2 0) (some (.int v3), σ1) ∧ Sg t σ1 ∧ ((v3 = 0 → (w = (some (.int (-1)), σ1))) ∧ (¬ (v3 = 0) → (∃ (σ4 : Mm), Cl 198 [.ref 59] σ1 (none, σ4) ∧ Sg t σ4 ∧ Ev 225 21 [.ref 59, .int x1, .int 0] [] σ4 w)))) :
    Ev 225 0 [.ref 59, .int x1, .retAddr 0] [] σ w := by
  refine e_aload_n d_225_0 rfl rfl ?_
  refine e_iconst d_225_1 ci_0 rfl ?_
  refine e_putI d_225_2 oo_225 pF_9_142 (Or.inl rfl) (hS.k rfl) rfl ?_
  refine e_aload_n d_225_5 rfl rfl ?_
  refine e_iload_n d_225_6 rfl rfl ?_
  obtain ⟨v3, σ1, hcl, hS2, H⟩ := H
  refine e_vcall (w1 := (some (.int v3), σ1)) d_225_7 kc_225_7 rfl ⟨Nat.le_of_ble_eq_true rfl, xx_225.symm⟩ rfl hcl ?_
  show Ev 225 10 [.ref 59, .int x1, .retAddr 0] [.int v3] σ1 w
  refine e_if_ne (t := 15) d_225_10 (by decide) rfl (fun hc => ?_) (fun hc => ?_)
  · replace H := H.2 hc
    refine e_aload_n d_225_15 rfl rfl ?_
    obtain ⟨σ4, hcl, hS5, H⟩ := H
    refine e_vcall (w1 := (none, σ4)) d_225_16 kc_225_16 rfl ⟨Nat.le_of_ble_eq_true rfl, xx_225.symm⟩ rfl hcl ?_
    show Ev 225 19 [.ref 59, .int x1, .retAddr 0] [] σ4 w
    refine e_iconst d_225_19 ci_0 rfl ?_
    refine e_istore_n (ls2 := [.ref 59, .int x1, .int 0]) d_225_20 rfl rfl rfl ?_
    exact H
  · replace H := H.1 hc
    refine e_iconst d_225_13 ci_m1 rfl ?_
    subst H
    exact e_iret d_225_14 rr_225
theorem b_225_21 {t : Nat} {σ : Mm} {w : Option Value × Mm} {x1 : Int32} {x2 : Int32} (hS : Sg t σ) 
    (H : (x2 < 200 → (∃ (v3 : Int32) (σ1 : Mm), Cl 203 [.ref 59, .int 1] σ (some (.int v3), σ1) ∧ Sg t σ1 ∧ (∃ (v6 : Int32) (σ4 : Mm), Cl 153 [.int v3, .int x1] σ1 (some (.int v6), σ4) ∧ Sg t σ4 ∧ ((v6 = 0 → (w = (some (.int x2), σ4))) ∧ (¬ (v6 = 0) → (∃ (σ7 : Mm), Cl 213 [.ref 59, .int 1] σ4 (none, σ7) ∧ Sg t σ7 ∧ Ev 225 21 [.ref 59, .int x1, .int (x2 + 1)] [] σ7 w)))))) ∧ (¬ (x2 < 200) → (w = (some (.int (-2)), σ)))) :
    Ev 225 21 [.ref 59, .int x1, .int x2] [] σ w := by
  refine e_iload_n d_225_21 rfl rfl ?_
  refine e_sipush d_225_22 cs_200 rfl ?_
  refine e_icmp_ge (t := 53) d_225_25 (by decide) rfl (fun hc => ?_) (fun hc => ?_)
  · replace H := H.2 hc
    refine e_bipush d_225_53 cb_m2 rfl ?_
    subst H
    exact e_iret d_225_55 rr_225
  · replace H := H.1 hc
    refine e_aload_n d_225_28 rfl rfl ?_
    refine e_iconst d_225_29 ci_1 rfl ?_
    obtain ⟨v3, σ1, hcl, hS2, H⟩ := H
    refine e_vcall (w1 := (some (.int v3), σ1)) d_225_30 kc_225_30 rfl ⟨Nat.le_of_ble_eq_true rfl, xx_225.symm⟩ rfl hcl ?_
    show Ev 225 33 [.ref 59, .int x1, .int x2] [.int v3] σ1 w
    refine e_iload_n d_225_33 rfl rfl ?_
    obtain ⟨v6, σ4, hcl, hS5, H⟩ := H
    refine e_scall (w1 := (some (.int v6), σ4)) d_225_34 kc_225_34 rfl ⟨Nat.le_of_ble_eq_true rfl, xx_225.symm⟩ rfl hcl ?_
    show Ev 225 37 [.ref 59, .int x1, .int x2] [.int v6] σ4 w
    refine e_if_ne (t := 42) d_225_37 (by decide) rfl (fun hc => ?_) (fun hc => ?_)
    · replace H := H.2 hc
      refine e_aload_n d_225_42 rfl rfl ?_
      refine e_iconst d_225_43 ci_1 rfl ?_
      obtain ⟨σ7, hcl, hS8, H⟩ := H
      refine e_vcall (w1 := (none, σ7)) d_225_44 kc_225_44 rfl ⟨Nat.le_of_ble_eq_true rfl, xx_225.symm⟩ rfl hcl ?_
      show Ev 225 47 [.ref 59, .int x1, .int x2] [] σ7 w
      refine e_iinc (ls2 := [.ref 59, .int x1, .int (x2 + 1)]) d_225_47 rfl ci_1 rfl rfl rfl ?_
      refine e_goto (t := 21) d_225_50 (by decide) ?_
      exact H
    · replace H := H.1 hc
      refine e_iload_n d_225_40 rfl rfl ?_
      subst H
      exact e_iret d_225_41 rr_225
/-! X9_layTurns -/
theorem b_226_0 {t : Nat} {σ : Mm} {w : Option Value × Mm}  (hS : Sg t σ) 
    (H : ∀ (σ1 : Mm), σ1 = uI σ 59 65 ((((1 : Int32) <<< ((mI σ 59 13) &&& 31)) - 1) &&& ((mI σ 84 0) ^^^ (-1))) → Ev 226 23 [.ref 59, .int 0, .retAddr 0] [] σ1 w) :
    Ev 226 0 [.ref 59, .retAddr 0, .retAddr 0] [] σ w := by
  refine e_aload_n d_226_0 rfl rfl ?_
  refine e_iconst d_226_1 ci_1 rfl ?_
  refine e_aload_n d_226_2 rfl rfl ?_
  refine e_getI d_226_3 oo_226 pF_9_225 (by decide) (hS.k rfl) rfl ?_
  refine e_ishl d_226_6 rfl ?_
  refine e_iconst d_226_7 ci_1 rfl ?_
  refine e_isub d_226_8 rfl ?_
  refine e_aload_n d_226_9 rfl rfl ?_
  refine e_getR d_226_10 oo_226 pF_9_88 (by decide) (hS.k rfl) (hS.r rt_59_51) rfl ?_
  refine e_iconst d_226_13 ci_0 rfl ?_
  refine e_iaload (v := (mI σ 84 0)) d_226_14 (rdI_at (hS.k rfl) rfl) rfl ?_
  refine e_iconst d_226_15 ci_m1 rfl ?_
  refine e_ixor d_226_16 rfl ?_
  refine e_iand d_226_17 rfl ?_
  refine e_putI d_226_18 oo_226 pF_9_459 (Or.inl rfl) (hS.k rfl) rfl ?_
  generalize hm2 : uI σ 59 65 ((((1 : Int32) <<< ((mI σ 59 13) &&& 31)) - 1) &&& ((mI σ 84 0) ^^^ (-1))) = σ1
  have hS3 : Sg t σ1 := by rw [← hm2]; exact hS.uI
  replace H := H σ1 hm2.symm
  refine e_iconst d_226_21 ci_0 rfl ?_
  refine e_istore_n (ls2 := [.ref 59, .int 0, .retAddr 0]) d_226_22 rfl rfl rfl ?_
  exact H
theorem b_226_23 {t : Nat} {σ : Mm} {w : Option Value × Mm} {x1 : Int32} {z2 : Value} (hS : Sg t σ) 
    (H : (x1 < ((1 : Int32) <<< ((mI σ 59 13) &&& 31)) → (inb x1 1024 = true ∧ Ev 226 42 [.ref 59, .int x1, .int 0] [] (uI σ 91 x1.toNatClampNeg 0) w)) ∧ (¬ (x1 < ((1 : Int32) <<< ((mI σ 59 13) &&& 31))) → (w = (none, σ)))) :
    Ev 226 23 [.ref 59, .int x1, z2] [] σ w := by
  refine e_iload_n d_226_23 rfl rfl ?_
  refine e_iconst d_226_24 ci_1 rfl ?_
  refine e_aload_n d_226_25 rfl rfl ?_
  refine e_getI d_226_26 oo_226 pF_9_225 (by decide) (hS.k rfl) rfl ?_
  refine e_ishl d_226_29 rfl ?_
  refine e_icmp_ge (t := 89) d_226_30 (by decide) rfl (fun hc => ?_) (fun hc => ?_)
  · replace H := H.2 hc
    subst H
    exact e_vret d_226_89 rr_226
  · replace H := H.1 hc
    refine e_aload_n d_226_33 rfl rfl ?_
    refine e_getR d_226_34 oo_226 pF_9_109 (by decide) (hS.k rfl) (hS.r rt_59_64) rfl ?_
    refine e_iload_n d_226_37 rfl rfl ?_
    refine e_iconst d_226_38 ci_0 rfl ?_
    obtain ⟨hb, H⟩ := H
    refine e_iastore d_226_39 (okI_at (hS.k rfl) hb) rfl ?_
    refine e_iconst d_226_40 ci_0 rfl ?_
    refine e_istore_n (ls2 := [.ref 59, .int x1, .int 0]) d_226_41 rfl rfl rfl ?_
    exact H
theorem b_226_42 {t : Nat} {σ : Mm} {w : Option Value × Mm} {x1 : Int32} {x2 : Int32} (hS : Sg t σ) 
    (H : (x2 < (mI σ 59 13) → (inb x1 1024 = true ∧ (∃ (v3 : Int32) (σ1 : Mm), Cl 153 [.int x1, .int x2] σ (some (.int v3), σ1) ∧ Sg t σ1 ∧ ((v3 = 0 → (inb x1 1024 = true ∧ (∀ (σ4 : Mm), σ4 = uI σ1 91 x1.toNatClampNeg ((mI σ 91 x1.toNatClampNeg) ^^^ 0) → Ev 226 42 [.ref 59, .int x1, .int (x2 + 1)] [] σ4 w))) ∧ (¬ (v3 = 0) → (inb x2 20 = true ∧ (inb x1 1024 = true ∧ (∀ (σ7 : Mm), σ7 = uI σ1 91 x1.toNatClampNeg ((mI σ 91 x1.toNatClampNeg) ^^^ (mI σ1 89 x2.toNatClampNeg)) → Ev 226 42 [.ref 59, .int x1, .int (x2 + 1)] [] σ7 w)))))))) ∧ (¬ (x2 < (mI σ 59 13)) → Ev 226 23 [.ref 59, .int (x1 + 1), .int x2] [] σ w)) :
    Ev 226 42 [.ref 59, .int x1, .int x2] [] σ w := by
  refine e_iload_n d_226_42 rfl rfl ?_
  refine e_aload_n d_226_43 rfl rfl ?_
  refine e_getI d_226_44 oo_226 pF_9_225 (by decide) (hS.k rfl) rfl ?_
  refine e_icmp_ge (t := 83) d_226_47 (by decide) rfl (fun hc => ?_) (fun hc => ?_)
  · replace H := H.2 hc
    refine e_iinc (ls2 := [.ref 59, .int (x1 + 1), .int x2]) d_226_83 rfl ci_1 rfl rfl rfl ?_
    refine e_goto (t := 23) d_226_86 (by decide) ?_
    exact H
  · replace H := H.1 hc
    refine e_aload_n d_226_50 rfl rfl ?_
    refine e_getR d_226_51 oo_226 pF_9_109 (by decide) (hS.k rfl) (hS.r rt_59_64) rfl ?_
    refine e_iload_n d_226_54 rfl rfl ?_
    refine e_dup2 d_226_55 rfl rfl ?_
    obtain ⟨hb, H⟩ := H
    refine e_iaload (v := (mI σ 91 x1.toNatClampNeg)) d_226_56 (rdI_at (hS.k rfl) hb) rfl ?_
    refine e_iload_n d_226_57 rfl rfl ?_
    refine e_iload_n d_226_58 rfl rfl ?_
    obtain ⟨v3, σ1, hcl, hS2, H⟩ := H
    refine e_scall (w1 := (some (.int v3), σ1)) d_226_59 kc_226_59 rfl ⟨Nat.le_of_ble_eq_true rfl, xx_226.symm⟩ rfl hcl ?_
    show Ev 226 62 [.ref 59, .int x1, .int x2] [.int v3, .int (mI σ 91 x1.toNatClampNeg), .int x1, .ref 91] σ1 w
    refine e_if_eq (t := 74) d_226_62 (by decide) rfl (fun hc => ?_) (fun hc => ?_)
    · replace H := H.1 hc
      refine e_iconst d_226_74 ci_0 rfl ?_
      refine e_ixor d_226_75 rfl ?_
      obtain ⟨hb, H⟩ := H
      refine e_iastore d_226_76 (okI_at (hS2.k rfl) hb) rfl ?_
      generalize hm5 : uI σ1 91 x1.toNatClampNeg ((mI σ 91 x1.toNatClampNeg) ^^^ 0) = σ4
      have hS6 : Sg t σ4 := by rw [← hm5]; exact hS2.uI
      replace H := H σ4 hm5.symm
      refine e_iinc (ls2 := [.ref 59, .int x1, .int (x2 + 1)]) d_226_77 rfl ci_1 rfl rfl rfl ?_
      refine e_goto (t := 42) d_226_80 (by decide) ?_
      exact H
    · replace H := H.2 hc
      refine e_aload_n d_226_65 rfl rfl ?_
      refine e_getR d_226_66 oo_226 pF_9_103 (by decide) (hS2.k rfl) (hS2.r rt_59_56) rfl ?_
      refine e_iload_n d_226_69 rfl rfl ?_
      obtain ⟨hb, H⟩ := H
      refine e_iaload (v := (mI σ1 89 x2.toNatClampNeg)) d_226_70 (rdI_at (hS2.k rfl) hb) rfl ?_
      refine e_goto (t := 75) d_226_71 (by decide) ?_
      refine e_ixor d_226_75 rfl ?_
      obtain ⟨hb, H⟩ := H
      refine e_iastore d_226_76 (okI_at (hS2.k rfl) hb) rfl ?_
      generalize hm8 : uI σ1 91 x1.toNatClampNeg ((mI σ 91 x1.toNatClampNeg) ^^^ (mI σ1 89 x2.toNatClampNeg)) = σ7
      have hS9 : Sg t σ7 := by rw [← hm8]; exact hS2.uI
      replace H := H σ7 hm8.symm
      refine e_iinc (ls2 := [.ref 59, .int x1, .int (x2 + 1)]) d_226_77 rfl ci_1 rfl rfl rfl ?_
      refine e_goto (t := 42) d_226_80 (by decide) ?_
      exact H
/-! X9_turnsTo -/
theorem b_227_0 {t : Nat} {σ : Mm} {w : Option Value × Mm} {x1 : Int32} {x2 : Int32} (hS : Sg t σ) 
    (H : ((x1 &&& ((mI σ 59 65) ^^^ (-1))) = 0 → (inb x1 1024 = true ∧ (((mI σ 91 x1.toNatClampNeg) = x2 → (w = (some (.int 1), σ))) ∧ (¬ ((mI σ 91 x1.toNatClampNeg) = x2) → (w = (some (.int 0), σ)))))) ∧ (¬ ((x1 &&& ((mI σ 59 65) ^^^ (-1))) = 0) → (w = (some (.int 0), σ)))) :
    Ev 227 0 [.ref 59, .int x1, .int x2] [] σ w := by
  refine e_iload_n d_227_0 rfl rfl ?_
  refine e_aload_n d_227_1 rfl rfl ?_
  refine e_getI d_227_2 oo_227 pF_9_459 (by decide) (hS.k rfl) rfl ?_
  refine e_iconst d_227_5 ci_m1 rfl ?_
  refine e_ixor d_227_6 rfl ?_
  refine e_iand d_227_7 rfl ?_
  refine e_if_ne (t := 25) d_227_8 (by decide) rfl (fun hc => ?_) (fun hc => ?_)
  · replace H := H.2 hc
    refine e_iconst d_227_25 ci_0 rfl ?_
    subst H
    exact e_zret d_227_26 rr_227 (Or.inl rfl)
  · replace H := H.1 hc
    refine e_aload_n d_227_11 rfl rfl ?_
    refine e_getR d_227_12 oo_227 pF_9_109 (by decide) (hS.k rfl) (hS.r rt_59_64) rfl ?_
    refine e_iload_n d_227_15 rfl rfl ?_
    obtain ⟨hb, H⟩ := H
    refine e_iaload (v := (mI σ 91 x1.toNatClampNeg)) d_227_16 (rdI_at (hS.k rfl) hb) rfl ?_
    refine e_iload_n d_227_17 rfl rfl ?_
    refine e_icmp_ne (t := 25) d_227_18 (by decide) rfl (fun hc => ?_) (fun hc => ?_)
    · replace H := H.2 hc
      refine e_iconst d_227_25 ci_0 rfl ?_
      subst H
      exact e_zret d_227_26 rr_227 (Or.inl rfl)
    · replace H := H.1 hc
      refine e_iconst d_227_21 ci_1 rfl ?_
      refine e_goto (t := 26) d_227_22 (by decide) ?_
      subst H
      exact e_zret d_227_26 rr_227 (Or.inr rfl)
/-! X9_costOf -/
theorem b_228_0 {t : Nat} {σ : Mm} {w : Option Value × Mm} {x1 : Int32} (hS : Sg t σ) 
    (H : Ev 228 4 [.ref 59, .int x1, .int 0, .int 0] [] σ w) :
    Ev 228 0 [.ref 59, .int x1, .retAddr 0, .retAddr 0] [] σ w := by
  refine e_iconst d_228_0 ci_0 rfl ?_
  refine e_istore_n (ls2 := [.ref 59, .int x1, .int 0, .retAddr 0]) d_228_1 rfl rfl rfl ?_
  refine e_iconst d_228_2 ci_0 rfl ?_
  refine e_istore_n (ls2 := [.ref 59, .int x1, .int 0, .int 0]) d_228_3 rfl rfl rfl ?_
  exact H
theorem b_228_4 {t : Nat} {σ : Mm} {w : Option Value × Mm} {x1 : Int32} {x2 : Int32} {x3 : Int32} (hS : Sg t σ) 
    (H : (x3 < (mI σ 59 13) → (∃ (v3 : Int32) (σ1 : Mm), Cl 153 [.int x1, .int x3] σ (some (.int v3), σ1) ∧ Sg t σ1 ∧ ((v3 = 0 → Ev 228 4 [.ref 59, .int x1, .int (x2 + 0), .int (x3 + 1)] [] σ1 w) ∧ (¬ (v3 = 0) → (inb x3 20 = true ∧ Ev 228 4 [.ref 59, .int x1, .int (x2 + (mI σ1 67 x3.toNatClampNeg)), .int (x3 + 1)] [] σ1 w))))) ∧ (¬ (x3 < (mI σ 59 13)) → (w = (some (.int x2), σ)))) :
    Ev 228 4 [.ref 59, .int x1, .int x2, .int x3] [] σ w := by
  refine e_iload_n d_228_4 rfl rfl ?_
  refine e_aload_n d_228_5 rfl rfl ?_
  refine e_getI d_228_6 oo_228 pF_9_225 (by decide) (hS.k rfl) rfl ?_
  refine e_icmp_ge (t := 39) d_228_9 (by decide) rfl (fun hc => ?_) (fun hc => ?_)
  · replace H := H.2 hc
    refine e_iload_n d_228_39 rfl rfl ?_
    subst H
    exact e_iret d_228_40 rr_228
  · replace H := H.1 hc
    refine e_iload_n d_228_12 rfl rfl ?_
    refine e_iload_n d_228_13 rfl rfl ?_
    refine e_iload_n d_228_14 rfl rfl ?_
    obtain ⟨v3, σ1, hcl, hS2, H⟩ := H
    refine e_scall (w1 := (some (.int v3), σ1)) d_228_15 kc_228_15 rfl ⟨Nat.le_of_ble_eq_true rfl, xx_228.symm⟩ rfl hcl ?_
    show Ev 228 18 [.ref 59, .int x1, .int x2, .int x3] [.int v3, .int x2] σ1 w
    refine e_if_eq (t := 30) d_228_18 (by decide) rfl (fun hc => ?_) (fun hc => ?_)
    · replace H := H.1 hc
      refine e_iconst d_228_30 ci_0 rfl ?_
      refine e_iadd d_228_31 rfl ?_
      refine e_istore_n (ls2 := [.ref 59, .int x1, .int (x2 + 0), .int x3]) d_228_32 rfl rfl rfl ?_
      refine e_iinc (ls2 := [.ref 59, .int x1, .int (x2 + 0), .int (x3 + 1)]) d_228_33 rfl ci_1 rfl rfl rfl ?_
      refine e_goto (t := 4) d_228_36 (by decide) ?_
      exact H
    · replace H := H.2 hc
      refine e_aload_n d_228_21 rfl rfl ?_
      refine e_getR d_228_22 oo_228 pF_9_36 (by decide) (hS2.k rfl) (hS2.r rt_59_27) rfl ?_
      refine e_iload_n d_228_25 rfl rfl ?_
      obtain ⟨hb, H⟩ := H
      refine e_iaload (v := (mI σ1 67 x3.toNatClampNeg)) d_228_26 (rdI_at (hS2.k rfl) hb) rfl ?_
      refine e_goto (t := 31) d_228_27 (by decide) ?_
      refine e_iadd d_228_31 rfl ?_
      refine e_istore_n (ls2 := [.ref 59, .int x1, .int (x2 + (mI σ1 67 x3.toNatClampNeg)), .int x3]) d_228_32 rfl rfl rfl ?_
      refine e_iinc (ls2 := [.ref 59, .int x1, .int (x2 + (mI σ1 67 x3.toNatClampNeg)), .int (x3 + 1)]) d_228_33 rfl ci_1 rfl rfl rfl ?_
      refine e_goto (t := 4) d_228_36 (by decide) ?_
      exact H
/-! X9_ways -/
theorem b_229_0 {t : Nat} {σ : Mm} {w : Option Value × Mm} {x1 : Int32} (hS : Sg t σ) 
    (H : ∃ (v3 : Int32) (σ1 : Mm), Cl 201 [.ref 59, .int x1] (uI σ 59 2 0) (some (.int v3), σ1) ∧ Sg t σ1 ∧ ((v3 = 0 → (w = (some (.int (-1)), σ1))) ∧ (¬ (v3 = 0) → (∃ (σ4 : Mm), Cl 226 [.ref 59] σ1 (none, σ4) ∧ Sg t σ4 ∧ Ev 229 23 [.ref 59, .int x1, .int 0, .int 0] [] σ4 w)))) :
    Ev 229 0 [.ref 59, .int x1, .retAddr 0, .retAddr 0] [] σ w := by
  refine e_aload_n d_229_0 rfl rfl ?_
  refine e_iconst d_229_1 ci_0 rfl ?_
  refine e_putI d_229_2 oo_229 pF_9_142 (Or.inl rfl) (hS.k rfl) rfl ?_
  refine e_aload_n d_229_5 rfl rfl ?_
  refine e_iload_n d_229_6 rfl rfl ?_
  obtain ⟨v3, σ1, hcl, hS2, H⟩ := H
  refine e_vcall (w1 := (some (.int v3), σ1)) d_229_7 kc_229_7 rfl ⟨Nat.le_of_ble_eq_true rfl, xx_229.symm⟩ rfl hcl ?_
  show Ev 229 10 [.ref 59, .int x1, .retAddr 0, .retAddr 0] [.int v3] σ1 w
  refine e_if_ne (t := 15) d_229_10 (by decide) rfl (fun hc => ?_) (fun hc => ?_)
  · replace H := H.2 hc
    refine e_aload_n d_229_15 rfl rfl ?_
    obtain ⟨σ4, hcl, hS5, H⟩ := H
    refine e_vcall (w1 := (none, σ4)) d_229_16 kc_229_16 rfl ⟨Nat.le_of_ble_eq_true rfl, xx_229.symm⟩ rfl hcl ?_
    show Ev 229 19 [.ref 59, .int x1, .retAddr 0, .retAddr 0] [] σ4 w
    refine e_iconst d_229_19 ci_0 rfl ?_
    refine e_istore_n (ls2 := [.ref 59, .int x1, .int 0, .retAddr 0]) d_229_20 rfl rfl rfl ?_
    refine e_iconst d_229_21 ci_0 rfl ?_
    refine e_istore_n (ls2 := [.ref 59, .int x1, .int 0, .int 0]) d_229_22 rfl rfl rfl ?_
    exact H
  · replace H := H.1 hc
    refine e_iconst d_229_13 ci_m1 rfl ?_
    subst H
    exact e_iret d_229_14 rr_229
theorem b_229_23 {t : Nat} {σ : Mm} {w : Option Value × Mm} {x1 : Int32} {x2 : Int32} {x3 : Int32} (hS : Sg t σ) 
    (H : (x3 < ((1 : Int32) <<< ((mI σ 59 13) &&& 31)) → (∃ (v3 : Int32) (σ1 : Mm), Cl 227 [.ref 59, .int x3, .int (x1 ^^^ (mI σ 82 0))] σ (some (.int v3), σ1) ∧ Sg t σ1 ∧ ((v3 = 0 → Ev 229 23 [.ref 59, .int x1, .int (x2 + 0), .int (x3 + 1)] [] σ1 w) ∧ (¬ (v3 = 0) → Ev 229 23 [.ref 59, .int x1, .int (x2 + 1), .int (x3 + 1)] [] σ1 w)))) ∧ (¬ (x3 < ((1 : Int32) <<< ((mI σ 59 13) &&& 31))) → (w = (some (.int x2), σ)))) :
    Ev 229 23 [.ref 59, .int x1, .int x2, .int x3] [] σ w := by
  refine e_iload_n d_229_23 rfl rfl ?_
  refine e_iconst d_229_24 ci_1 rfl ?_
  refine e_aload_n d_229_25 rfl rfl ?_
  refine e_getI d_229_26 oo_229 pF_9_225 (by decide) (hS.k rfl) rfl ?_
  refine e_ishl d_229_29 rfl ?_
  refine e_icmp_ge (t := 63) d_229_30 (by decide) rfl (fun hc => ?_) (fun hc => ?_)
  · replace H := H.2 hc
    refine e_iload_n d_229_63 rfl rfl ?_
    subst H
    exact e_iret d_229_64 rr_229
  · replace H := H.1 hc
    refine e_iload_n d_229_33 rfl rfl ?_
    refine e_aload_n d_229_34 rfl rfl ?_
    refine e_iload_n d_229_35 rfl rfl ?_
    refine e_iload_n d_229_36 rfl rfl ?_
    refine e_aload_n d_229_37 rfl rfl ?_
    refine e_getR d_229_38 oo_229 pF_9_82 (by decide) (hS.k rfl) (hS.r rt_59_49) rfl ?_
    refine e_iconst d_229_41 ci_0 rfl ?_
    refine e_iaload (v := (mI σ 82 0)) d_229_42 (rdI_at (hS.k rfl) rfl) rfl ?_
    refine e_ixor d_229_43 rfl ?_
    obtain ⟨v3, σ1, hcl, hS2, H⟩ := H
    refine e_vcall (w1 := (some (.int v3), σ1)) d_229_44 kc_229_44 rfl ⟨Nat.le_of_ble_eq_true rfl, xx_229.symm⟩ rfl hcl ?_
    show Ev 229 47 [.ref 59, .int x1, .int x2, .int x3] [.int v3, .int x2] σ1 w
    refine e_if_eq (t := 54) d_229_47 (by decide) rfl (fun hc => ?_) (fun hc => ?_)
    · replace H := H.1 hc
      refine e_iconst d_229_54 ci_0 rfl ?_
      refine e_iadd d_229_55 rfl ?_
      refine e_istore_n (ls2 := [.ref 59, .int x1, .int (x2 + 0), .int x3]) d_229_56 rfl rfl rfl ?_
      refine e_iinc (ls2 := [.ref 59, .int x1, .int (x2 + 0), .int (x3 + 1)]) d_229_57 rfl ci_1 rfl rfl rfl ?_
      refine e_goto (t := 23) d_229_60 (by decide) ?_
      exact H
    · replace H := H.2 hc
      refine e_iconst d_229_50 ci_1 rfl ?_
      refine e_goto (t := 55) d_229_51 (by decide) ?_
      refine e_iadd d_229_55 rfl ?_
      refine e_istore_n (ls2 := [.ref 59, .int x1, .int (x2 + 1), .int x3]) d_229_56 rfl rfl rfl ?_
      refine e_iinc (ls2 := [.ref 59, .int x1, .int (x2 + 1), .int (x3 + 1)]) d_229_57 rfl ci_1 rfl rfl rfl ?_
      refine e_goto (t := 23) d_229_60 (by decide) ?_
      exact H
/-! X9_fewestTo -/
theorem b_230_0 {t : Nat} {σ : Mm} {w : Option Value × Mm} {x1 : Int32} (hS : Sg t σ) 
    (H : Ev 230 5 [.ref 59, .int x1, .int (-2), .int 0] [] σ w) :
    Ev 230 0 [.ref 59, .int x1, .retAddr 0, .retAddr 0] [] σ w := by
  refine e_bipush d_230_0 cb_m2 rfl ?_
  refine e_istore_n (ls2 := [.ref 59, .int x1, .int (-2), .retAddr 0]) d_230_2 rfl rfl rfl ?_
  refine e_iconst d_230_3 ci_0 rfl ?_
  refine e_istore_n (ls2 := [.ref 59, .int x1, .int (-2), .int 0]) d_230_4 rfl rfl rfl ?_
  exact H
theorem b_230_5 {t : Nat} {σ : Mm} {w : Option Value × Mm} {x1 : Int32} {x2 : Int32} {x3 : Int32} (hS : Sg t σ) 
    (H : (x3 < ((1 : Int32) <<< ((mI σ 59 13) &&& 31)) → (∃ (v3 : Int32) (σ1 : Mm), Cl 227 [.ref 59, .int x3, .int x1] σ (some (.int v3), σ1) ∧ Sg t σ1 ∧ ((v3 = 0 → Ev 230 5 [.ref 59, .int x1, .int x2, .int (x3 + 1)] [] σ1 w) ∧ (¬ (v3 = 0) → ((x2 < 0 → Ev 230 5 [.ref 59, .int x1, .int x3, .int (x3 + 1)] [] σ1 w) ∧ (¬ (x2 < 0) → (∃ (v6 : Int32) (σ4 : Mm), Cl 202 [.int x3] σ1 (some (.int v6), σ4) ∧ Sg t σ4 ∧ (∃ (v9 : Int32) (σ7 : Mm), Cl 202 [.int x2] σ4 (some (.int v9), σ7) ∧ Sg t σ7 ∧ ((v6 < v9 → Ev 230 5 [.ref 59, .int x1, .int x3, .int (x3 + 1)] [] σ7 w) ∧ (¬ (v6 < v9) → Ev 230 5 [.ref 59, .int x1, .int x2, .int (x3 + 1)] [] σ7 w)))))))))) ∧ (¬ (x3 < ((1 : Int32) <<< ((mI σ 59 13) &&& 31))) → (w = (some (.int x2), σ)))) :
    Ev 230 5 [.ref 59, .int x1, .int x2, .int x3] [] σ w := by
  refine e_iload_n d_230_5 rfl rfl ?_
  refine e_iconst d_230_6 ci_1 rfl ?_
  refine e_aload_n d_230_7 rfl rfl ?_
  refine e_getI d_230_8 oo_230 pF_9_225 (by decide) (hS.k rfl) rfl ?_
  refine e_ishl d_230_11 rfl ?_
  refine e_icmp_ge (t := 47) d_230_12 (by decide) rfl (fun hc => ?_) (fun hc => ?_)
  · replace H := H.2 hc
    refine e_iload_n d_230_47 rfl rfl ?_
    subst H
    exact e_iret d_230_48 rr_230
  · replace H := H.1 hc
    refine e_aload_n d_230_15 rfl rfl ?_
    refine e_iload_n d_230_16 rfl rfl ?_
    refine e_iload_n d_230_17 rfl rfl ?_
    obtain ⟨v3, σ1, hcl, hS2, H⟩ := H
    refine e_vcall (w1 := (some (.int v3), σ1)) d_230_18 kc_230_18 rfl ⟨Nat.le_of_ble_eq_true rfl, xx_230.symm⟩ rfl hcl ?_
    show Ev 230 21 [.ref 59, .int x1, .int x2, .int x3] [.int v3] σ1 w
    refine e_if_eq (t := 41) d_230_21 (by decide) rfl (fun hc => ?_) (fun hc => ?_)
    · replace H := H.1 hc
      refine e_iinc (ls2 := [.ref 59, .int x1, .int x2, .int (x3 + 1)]) d_230_41 rfl ci_1 rfl rfl rfl ?_
      refine e_goto (t := 5) d_230_44 (by decide) ?_
      exact H
    · replace H := H.2 hc
      refine e_iload_n d_230_24 rfl rfl ?_
      refine e_if_lt (t := 39) d_230_25 (by decide) rfl (fun hc => ?_) (fun hc => ?_)
      · replace H := H.1 hc
        refine e_iload_n d_230_39 rfl rfl ?_
        refine e_istore_n (ls2 := [.ref 59, .int x1, .int x3, .int x3]) d_230_40 rfl rfl rfl ?_
        refine e_iinc (ls2 := [.ref 59, .int x1, .int x3, .int (x3 + 1)]) d_230_41 rfl ci_1 rfl rfl rfl ?_
        refine e_goto (t := 5) d_230_44 (by decide) ?_
        exact H
      · replace H := H.2 hc
        refine e_iload_n d_230_28 rfl rfl ?_
        obtain ⟨v6, σ4, hcl, hS5, H⟩ := H
        refine e_scall (w1 := (some (.int v6), σ4)) d_230_29 kc_230_29 rfl ⟨Nat.le_of_ble_eq_true rfl, xx_230.symm⟩ rfl hcl ?_
        show Ev 230 32 [.ref 59, .int x1, .int x2, .int x3] [.int v6] σ4 w
        refine e_iload_n d_230_32 rfl rfl ?_
        obtain ⟨v9, σ7, hcl, hS8, H⟩ := H
        refine e_scall (w1 := (some (.int v9), σ7)) d_230_33 kc_230_33 rfl ⟨Nat.le_of_ble_eq_true rfl, xx_230.symm⟩ rfl hcl ?_
        show Ev 230 36 [.ref 59, .int x1, .int x2, .int x3] [.int v9, .int v6] σ7 w
        refine e_icmp_ge (t := 41) d_230_36 (by decide) rfl (fun hc => ?_) (fun hc => ?_)
        · replace H := H.2 hc
          refine e_iinc (ls2 := [.ref 59, .int x1, .int x2, .int (x3 + 1)]) d_230_41 rfl ci_1 rfl rfl rfl ?_
          refine e_goto (t := 5) d_230_44 (by decide) ?_
          exact H
        · replace H := H.1 hc
          refine e_iload_n d_230_39 rfl rfl ?_
          refine e_istore_n (ls2 := [.ref 59, .int x1, .int x3, .int x3]) d_230_40 rfl rfl rfl ?_
          refine e_iinc (ls2 := [.ref 59, .int x1, .int x3, .int (x3 + 1)]) d_230_41 rfl ci_1 rfl rfl rfl ?_
          refine e_goto (t := 5) d_230_44 (by decide) ?_
          exact H
/-! X9_fewest -/
theorem b_231_0 {t : Nat} {σ : Mm} {w : Option Value × Mm} {x1 : Int32} (hS : Sg t σ) 
    (H : ∃ (v3 : Int32) (σ1 : Mm), Cl 201 [.ref 59, .int x1] (uI σ 59 2 0) (some (.int v3), σ1) ∧ Sg t σ1 ∧ ((v3 = 0 → (w = (some (.int (-1)), σ1))) ∧ (¬ (v3 = 0) → (∃ (σ4 : Mm), Cl 226 [.ref 59] σ1 (none, σ4) ∧ Sg t σ4 ∧ (∃ (v9 : Int32) (σ7 : Mm), Cl 230 [.ref 59, .int (x1 ^^^ (mI σ4 82 0))] σ4 (some (.int v9), σ7) ∧ Sg t σ7 ∧ (w = (some (.int v9), σ7))))))) :
    Ev 231 0 [.ref 59, .int x1] [] σ w := by
  refine e_aload_n d_231_0 rfl rfl ?_
  refine e_iconst d_231_1 ci_0 rfl ?_
  refine e_putI d_231_2 oo_231 pF_9_142 (Or.inl rfl) (hS.k rfl) rfl ?_
  refine e_aload_n d_231_5 rfl rfl ?_
  refine e_iload_n d_231_6 rfl rfl ?_
  obtain ⟨v3, σ1, hcl, hS2, H⟩ := H
  refine e_vcall (w1 := (some (.int v3), σ1)) d_231_7 kc_231_7 rfl ⟨Nat.le_of_ble_eq_true rfl, xx_231.symm⟩ rfl hcl ?_
  show Ev 231 10 [.ref 59, .int x1] [.int v3] σ1 w
  refine e_if_ne (t := 15) d_231_10 (by decide) rfl (fun hc => ?_) (fun hc => ?_)
  · replace H := H.2 hc
    refine e_aload_n d_231_15 rfl rfl ?_
    obtain ⟨σ4, hcl, hS5, H⟩ := H
    refine e_vcall (w1 := (none, σ4)) d_231_16 kc_231_16 rfl ⟨Nat.le_of_ble_eq_true rfl, xx_231.symm⟩ rfl hcl ?_
    show Ev 231 19 [.ref 59, .int x1] [] σ4 w
    refine e_aload_n d_231_19 rfl rfl ?_
    refine e_iload_n d_231_20 rfl rfl ?_
    refine e_aload_n d_231_21 rfl rfl ?_
    refine e_getR d_231_22 oo_231 pF_9_82 (by decide) (hS5.k rfl) (hS5.r rt_59_49) rfl ?_
    refine e_iconst d_231_25 ci_0 rfl ?_
    refine e_iaload (v := (mI σ4 82 0)) d_231_26 (rdI_at (hS5.k rfl) rfl) rfl ?_
    refine e_ixor d_231_27 rfl ?_
    obtain ⟨v9, σ7, hcl, hS8, H⟩ := H
    refine e_vcall (w1 := (some (.int v9), σ7)) d_231_28 kc_231_28 rfl ⟨Nat.le_of_ble_eq_true rfl, xx_231.symm⟩ rfl hcl ?_
    show Ev 231 31 [.ref 59, .int x1] [.int v9] σ7 w
    subst H
    exact e_iret d_231_31 rr_231
  · replace H := H.1 hc
    refine e_iconst d_231_13 ci_m1 rfl ?_
    subst H
    exact e_iret d_231_14 rr_231
/-! X9_cheapest -/
theorem b_232_0 {t : Nat} {σ : Mm} {w : Option Value × Mm} {x1 : Int32} {x2 : Int32} (hS : Sg t σ) 
    (H : ∃ (v3 : Int32) (σ1 : Mm), Cl 201 [.ref 59, .int x1] (uI σ 59 2 0) (some (.int v3), σ1) ∧ Sg t σ1 ∧ ((v3 = 0 → (w = (some (.int (-1)), σ1))) ∧ (¬ (v3 = 0) → (∃ (v6 : Int32) (σ4 : Mm), Cl 152 [.int x2, .int 0, .int 1] σ1 (some (.int v6), σ4) ∧ Sg t σ4 ∧ ((v6 = 0 → (w = (some (.int (-1)), σ4))) ∧ (¬ (v6 = 0) → (∃ (σ7 : Mm), Cl 226 [.ref 59] σ4 (none, σ7) ∧ Sg t σ7 ∧ Ev 232 34 [.ref 59, .int x1, .int x2, .int (-2), .int 0] [] σ7 w))))))) :
    Ev 232 0 [.ref 59, .int x1, .int x2, .retAddr 0, .retAddr 0] [] σ w := by
  refine e_aload_n d_232_0 rfl rfl ?_
  refine e_iconst d_232_1 ci_0 rfl ?_
  refine e_putI d_232_2 oo_232 pF_9_142 (Or.inl rfl) (hS.k rfl) rfl ?_
  refine e_aload_n d_232_5 rfl rfl ?_
  refine e_iload_n d_232_6 rfl rfl ?_
  obtain ⟨v3, σ1, hcl, hS2, H⟩ := H
  refine e_vcall (w1 := (some (.int v3), σ1)) d_232_7 kc_232_7 rfl ⟨Nat.le_of_ble_eq_true rfl, xx_232.symm⟩ rfl hcl ?_
  show Ev 232 10 [.ref 59, .int x1, .int x2, .retAddr 0, .retAddr 0] [.int v3] σ1 w
  refine e_if_eq (t := 22) d_232_10 (by decide) rfl (fun hc => ?_) (fun hc => ?_)
  · replace H := H.1 hc
    refine e_iconst d_232_22 ci_m1 rfl ?_
    subst H
    exact e_iret d_232_23 rr_232
  · replace H := H.2 hc
    refine e_iload_n d_232_13 rfl rfl ?_
    refine e_iconst d_232_14 ci_0 rfl ?_
    refine e_iconst d_232_15 ci_1 rfl ?_
    obtain ⟨v6, σ4, hcl, hS5, H⟩ := H
    refine e_scall (w1 := (some (.int v6), σ4)) d_232_16 kc_232_16 rfl ⟨Nat.le_of_ble_eq_true rfl, xx_232.symm⟩ rfl hcl ?_
    show Ev 232 19 [.ref 59, .int x1, .int x2, .retAddr 0, .retAddr 0] [.int v6] σ4 w
    refine e_if_ne (t := 24) d_232_19 (by decide) rfl (fun hc => ?_) (fun hc => ?_)
    · replace H := H.2 hc
      refine e_aload_n d_232_24 rfl rfl ?_
      obtain ⟨σ7, hcl, hS8, H⟩ := H
      refine e_vcall (w1 := (none, σ7)) d_232_25 kc_232_25 rfl ⟨Nat.le_of_ble_eq_true rfl, xx_232.symm⟩ rfl hcl ?_
      show Ev 232 28 [.ref 59, .int x1, .int x2, .retAddr 0, .retAddr 0] [] σ7 w
      refine e_bipush d_232_28 cb_m2 rfl ?_
      refine e_istore_n (ls2 := [.ref 59, .int x1, .int x2, .int (-2), .retAddr 0]) d_232_30 rfl rfl rfl ?_
      refine e_iconst d_232_31 ci_0 rfl ?_
      refine e_istore (ls2 := [.ref 59, .int x1, .int x2, .int (-2), .int 0]) d_232_32 rfl rfl rfl ?_
      exact H
    · replace H := H.1 hc
      refine e_iconst d_232_22 ci_m1 rfl ?_
      subst H
      exact e_iret d_232_23 rr_232
theorem b_232_34 {t : Nat} {σ : Mm} {w : Option Value × Mm} {x1 : Int32} {x2 : Int32} {x3 : Int32} {x4 : Int32} (hS : Sg t σ) 
    (H : (x4 < ((1 : Int32) <<< ((mI σ 59 13) &&& 31)) → (∃ (v6 : Int32) (σ4 : Mm), Cl 227 [.ref 59, .int x4, .int (x1 ^^^ (mI σ 82 0))] σ (some (.int v6), σ4) ∧ Sg t σ4 ∧ ((v6 = 0 → Ev 232 34 [.ref 59, .int x1, .int x2, .int x3, .int (x4 + 1)] [] σ4 w) ∧ (¬ (v6 = 0) → ((x3 < 0 → Ev 232 34 [.ref 59, .int x1, .int x2, .int x4, .int (x4 + 1)] [] σ4 w) ∧ (¬ (x3 < 0) → (∃ (v9 : Int32) (σ7 : Mm), Cl 228 [.ref 59, .int x4] σ4 (some (.int v9), σ7) ∧ Sg t σ7 ∧ (∃ (v12 : Int32) (σ10 : Mm), Cl 228 [.ref 59, .int x3] σ7 (some (.int v12), σ10) ∧ Sg t σ10 ∧ ((v9 < v12 → Ev 232 34 [.ref 59, .int x1, .int x2, .int x4, .int (x4 + 1)] [] σ10 w) ∧ (¬ (v9 < v12) → Ev 232 34 [.ref 59, .int x1, .int x2, .int x3, .int (x4 + 1)] [] σ10 w)))))))))) ∧ (¬ (x4 < ((1 : Int32) <<< ((mI σ 59 13) &&& 31))) → ((x3 < 0 → (w = (some (.int x3), σ))) ∧ (¬ (x3 < 0) → ((x2 = 0 → (w = (some (.int x3), σ))) ∧ (¬ (x2 = 0) → (∃ (v3 : Int32) (σ1 : Mm), Cl 228 [.ref 59, .int x3] σ (some (.int v3), σ1) ∧ Sg t σ1 ∧ (w = (some (.int v3), σ1))))))))) :
    Ev 232 34 [.ref 59, .int x1, .int x2, .int x3, .int x4] [] σ w := by
  refine e_iload d_232_34 rfl rfl ?_
  refine e_iconst d_232_36 ci_1 rfl ?_
  refine e_aload_n d_232_37 rfl rfl ?_
  refine e_getI d_232_38 oo_232 pF_9_225 (by decide) (hS.k rfl) rfl ?_
  refine e_ishl d_232_41 rfl ?_
  refine e_icmp_ge (t := 89) d_232_42 (by decide) rfl (fun hc => ?_) (fun hc => ?_)
  · replace H := H.2 hc
    refine e_iload_n d_232_89 rfl rfl ?_
    refine e_if_lt (t := 97) d_232_90 (by decide) rfl (fun hc => ?_) (fun hc => ?_)
    · replace H := H.1 hc
      refine e_iload_n d_232_97 rfl rfl ?_
      refine e_goto (t := 106) d_232_98 (by decide) ?_
      subst H
      exact e_iret d_232_106 rr_232
    · replace H := H.2 hc
      refine e_iload_n d_232_93 rfl rfl ?_
      refine e_if_ne (t := 101) d_232_94 (by decide) rfl (fun hc => ?_) (fun hc => ?_)
      · replace H := H.2 hc
        refine e_aload_n d_232_101 rfl rfl ?_
        refine e_iload_n d_232_102 rfl rfl ?_
        obtain ⟨v3, σ1, hcl, hS2, H⟩ := H
        refine e_vcall (w1 := (some (.int v3), σ1)) d_232_103 kc_232_103 rfl ⟨Nat.le_of_ble_eq_true rfl, xx_232.symm⟩ rfl hcl ?_
        show Ev 232 106 [.ref 59, .int x1, .int x2, .int x3, .int x4] [.int v3] σ1 w
        subst H
        exact e_iret d_232_106 rr_232
      · replace H := H.1 hc
        refine e_iload_n d_232_97 rfl rfl ?_
        refine e_goto (t := 106) d_232_98 (by decide) ?_
        subst H
        exact e_iret d_232_106 rr_232
  · replace H := H.1 hc
    refine e_aload_n d_232_45 rfl rfl ?_
    refine e_iload d_232_46 rfl rfl ?_
    refine e_iload_n d_232_48 rfl rfl ?_
    refine e_aload_n d_232_49 rfl rfl ?_
    refine e_getR d_232_50 oo_232 pF_9_82 (by decide) (hS.k rfl) (hS.r rt_59_49) rfl ?_
    refine e_iconst d_232_53 ci_0 rfl ?_
    refine e_iaload (v := (mI σ 82 0)) d_232_54 (rdI_at (hS.k rfl) rfl) rfl ?_
    refine e_ixor d_232_55 rfl ?_
    obtain ⟨v6, σ4, hcl, hS5, H⟩ := H
    refine e_vcall (w1 := (some (.int v6), σ4)) d_232_56 kc_232_56 rfl ⟨Nat.le_of_ble_eq_true rfl, xx_232.symm⟩ rfl hcl ?_
    show Ev 232 59 [.ref 59, .int x1, .int x2, .int x3, .int x4] [.int v6] σ4 w
    refine e_if_eq (t := 83) d_232_59 (by decide) rfl (fun hc => ?_) (fun hc => ?_)
    · replace H := H.1 hc
      refine e_iinc (ls2 := [.ref 59, .int x1, .int x2, .int x3, .int (x4 + 1)]) d_232_83 rfl ci_1 rfl rfl rfl ?_
      refine e_goto (t := 34) d_232_86 (by decide) ?_
      exact H
    · replace H := H.2 hc
      refine e_iload_n d_232_62 rfl rfl ?_
      refine e_if_lt (t := 80) d_232_63 (by decide) rfl (fun hc => ?_) (fun hc => ?_)
      · replace H := H.1 hc
        refine e_iload d_232_80 rfl rfl ?_
        refine e_istore_n (ls2 := [.ref 59, .int x1, .int x2, .int x4, .int x4]) d_232_82 rfl rfl rfl ?_
        refine e_iinc (ls2 := [.ref 59, .int x1, .int x2, .int x4, .int (x4 + 1)]) d_232_83 rfl ci_1 rfl rfl rfl ?_
        refine e_goto (t := 34) d_232_86 (by decide) ?_
        exact H
      · replace H := H.2 hc
        refine e_aload_n d_232_66 rfl rfl ?_
        refine e_iload d_232_67 rfl rfl ?_
        obtain ⟨v9, σ7, hcl, hS8, H⟩ := H
        refine e_vcall (w1 := (some (.int v9), σ7)) d_232_69 kc_232_69 rfl ⟨Nat.le_of_ble_eq_true rfl, xx_232.symm⟩ rfl hcl ?_
        show Ev 232 72 [.ref 59, .int x1, .int x2, .int x3, .int x4] [.int v9] σ7 w
        refine e_aload_n d_232_72 rfl rfl ?_
        refine e_iload_n d_232_73 rfl rfl ?_
        obtain ⟨v12, σ10, hcl, hS11, H⟩ := H
        refine e_vcall (w1 := (some (.int v12), σ10)) d_232_74 kc_232_74 rfl ⟨Nat.le_of_ble_eq_true rfl, xx_232.symm⟩ rfl hcl ?_
        show Ev 232 77 [.ref 59, .int x1, .int x2, .int x3, .int x4] [.int v12, .int v9] σ10 w
        refine e_icmp_ge (t := 83) d_232_77 (by decide) rfl (fun hc => ?_) (fun hc => ?_)
        · replace H := H.2 hc
          refine e_iinc (ls2 := [.ref 59, .int x1, .int x2, .int x3, .int (x4 + 1)]) d_232_83 rfl ci_1 rfl rfl rfl ?_
          refine e_goto (t := 34) d_232_86 (by decide) ?_
          exact H
        · replace H := H.1 hc
          refine e_iload d_232_80 rfl rfl ?_
          refine e_istore_n (ls2 := [.ref 59, .int x1, .int x2, .int x4, .int x4]) d_232_82 rfl rfl rfl ?_
          refine e_iinc (ls2 := [.ref 59, .int x1, .int x2, .int x4, .int (x4 + 1)]) d_232_83 rfl ci_1 rfl rfl rfl ?_
          refine e_goto (t := 34) d_232_86 (by decide) ?_
          exact H
/-! X9_must -/
theorem b_233_0 {t : Nat} {σ : Mm} {w : Option Value × Mm} {x1 : Int32} {x2 : Int32} (hS : Sg t σ) 
    (H : ∃ (v3 : Int32) (σ1 : Mm), Cl 201 [.ref 59, .int x1] (uI σ 59 2 0) (some (.int v3), σ1) ∧ Sg t σ1 ∧ ((v3 = 0 → (w = (some (.int (-1)), σ1))) ∧ (¬ (v3 = 0) → (∃ (v6 : Int32) (σ4 : Mm), Cl 152 [.int x2, .int 0, .int 1] σ1 (some (.int v6), σ4) ∧ Sg t σ4 ∧ ((v6 = 0 → (w = (some (.int (-1)), σ4))) ∧ (¬ (v6 = 0) → (∃ (σ7 : Mm), Cl 226 [.ref 59] σ4 (none, σ7) ∧ Sg t σ7 ∧ Ev 233 42 [.ref 59, .int x1, .int x2, .int (mI σ7 59 65), .int 0, .int 0, .int 0] [] σ7 w))))))) :
    Ev 233 0 [.ref 59, .int x1, .int x2, .retAddr 0, .retAddr 0, .retAddr 0, .retAddr 0] [] σ w := by
  refine e_aload_n d_233_0 rfl rfl ?_
  refine e_iconst d_233_1 ci_0 rfl ?_
  refine e_putI d_233_2 oo_233 pF_9_142 (Or.inl rfl) (hS.k rfl) rfl ?_
  refine e_aload_n d_233_5 rfl rfl ?_
  refine e_iload_n d_233_6 rfl rfl ?_
  obtain ⟨v3, σ1, hcl, hS2, H⟩ := H
  refine e_vcall (w1 := (some (.int v3), σ1)) d_233_7 kc_233_7 rfl ⟨Nat.le_of_ble_eq_true rfl, xx_233.symm⟩ rfl hcl ?_
  show Ev 233 10 [.ref 59, .int x1, .int x2, .retAddr 0, .retAddr 0, .retAddr 0, .retAddr 0] [.int v3] σ1 w
  refine e_if_eq (t := 22) d_233_10 (by decide) rfl (fun hc => ?_) (fun hc => ?_)
  · replace H := H.1 hc
    refine e_iconst d_233_22 ci_m1 rfl ?_
    subst H
    exact e_iret d_233_23 rr_233
  · replace H := H.2 hc
    refine e_iload_n d_233_13 rfl rfl ?_
    refine e_iconst d_233_14 ci_0 rfl ?_
    refine e_iconst d_233_15 ci_1 rfl ?_
    obtain ⟨v6, σ4, hcl, hS5, H⟩ := H
    refine e_scall (w1 := (some (.int v6), σ4)) d_233_16 kc_233_16 rfl ⟨Nat.le_of_ble_eq_true rfl, xx_233.symm⟩ rfl hcl ?_
    show Ev 233 19 [.ref 59, .int x1, .int x2, .retAddr 0, .retAddr 0, .retAddr 0, .retAddr 0] [.int v6] σ4 w
    refine e_if_ne (t := 24) d_233_19 (by decide) rfl (fun hc => ?_) (fun hc => ?_)
    · replace H := H.2 hc
      refine e_aload_n d_233_24 rfl rfl ?_
      obtain ⟨σ7, hcl, hS8, H⟩ := H
      refine e_vcall (w1 := (none, σ7)) d_233_25 kc_233_25 rfl ⟨Nat.le_of_ble_eq_true rfl, xx_233.symm⟩ rfl hcl ?_
      show Ev 233 28 [.ref 59, .int x1, .int x2, .retAddr 0, .retAddr 0, .retAddr 0, .retAddr 0] [] σ7 w
      refine e_aload_n d_233_28 rfl rfl ?_
      refine e_getI d_233_29 oo_233 pF_9_459 (by decide) (hS8.k rfl) rfl ?_
      refine e_istore_n (ls2 := [.ref 59, .int x1, .int x2, .int (mI σ7 59 65), .retAddr 0, .retAddr 0, .retAddr 0]) d_233_32 rfl rfl rfl ?_
      refine e_iconst d_233_33 ci_0 rfl ?_
      refine e_istore (ls2 := [.ref 59, .int x1, .int x2, .int (mI σ7 59 65), .int 0, .retAddr 0, .retAddr 0]) d_233_34 rfl rfl rfl ?_
      refine e_iconst d_233_36 ci_0 rfl ?_
      refine e_istore (ls2 := [.ref 59, .int x1, .int x2, .int (mI σ7 59 65), .int 0, .int 0, .retAddr 0]) d_233_37 rfl rfl rfl ?_
      refine e_iconst d_233_39 ci_0 rfl ?_
      refine e_istore (ls2 := [.ref 59, .int x1, .int x2, .int (mI σ7 59 65), .int 0, .int 0, .int 0]) d_233_40 rfl rfl rfl ?_
      exact H
    · replace H := H.1 hc
      refine e_iconst d_233_22 ci_m1 rfl ?_
      subst H
      exact e_iret d_233_23 rr_233
theorem b_233_42 {t : Nat} {σ : Mm} {w : Option Value × Mm} {x1 : Int32} {x2 : Int32} {x3 : Int32} {x4 : Int32} {x5 : Int32} {x6 : Int32} (hS : Sg t σ) 
    (H : (x6 < ((1 : Int32) <<< ((mI σ 59 13) &&& 31)) → (∃ (v3 : Int32) (σ1 : Mm), Cl 227 [.ref 59, .int x6, .int (x1 ^^^ (mI σ 82 0))] σ (some (.int v3), σ1) ∧ Sg t σ1 ∧ ((v3 = 0 → Ev 233 42 [.ref 59, .int x1, .int x2, .int x3, .int x4, .int x5, .int (x6 + 1)] [] σ1 w) ∧ (¬ (v3 = 0) → Ev 233 42 [.ref 59, .int x1, .int x2, .int (x3 &&& x6), .int (x4 ||| x6), .int (x5 + 1), .int (x6 + 1)] [] σ1 w)))) ∧ (¬ (x6 < ((1 : Int32) <<< ((mI σ 59 13) &&& 31))) → ((x5 = 0 → (w = (some (.int (-2)), σ))) ∧ (¬ (x5 = 0) → ((x2 = 0 → (w = (some (.int x3), σ))) ∧ (¬ (x2 = 0) → (w = (some (.int ((mI σ 59 65) &&& (x4 ^^^ (-1)))), σ)))))))) :
    Ev 233 42 [.ref 59, .int x1, .int x2, .int x3, .int x4, .int x5, .int x6] [] σ w := by
  refine e_iload d_233_42 rfl rfl ?_
  refine e_iconst d_233_44 ci_1 rfl ?_
  refine e_aload_n d_233_45 rfl rfl ?_
  refine e_getI d_233_46 oo_233 pF_9_225 (by decide) (hS.k rfl) rfl ?_
  refine e_ishl d_233_49 rfl ?_
  refine e_icmp_ge (t := 94) d_233_50 (by decide) rfl (fun hc => ?_) (fun hc => ?_)
  · replace H := H.2 hc
    refine e_iload d_233_94 rfl rfl ?_
    refine e_if_ne (t := 104) d_233_96 (by decide) rfl (fun hc => ?_) (fun hc => ?_)
    · replace H := H.2 hc
      refine e_iload_n d_233_104 rfl rfl ?_
      refine e_if_ne (t := 112) d_233_105 (by decide) rfl (fun hc => ?_) (fun hc => ?_)
      · replace H := H.2 hc
        refine e_aload_n d_233_112 rfl rfl ?_
        refine e_getI d_233_113 oo_233 pF_9_459 (by decide) (hS.k rfl) rfl ?_
        refine e_iload d_233_116 rfl rfl ?_
        refine e_iconst d_233_118 ci_m1 rfl ?_
        refine e_ixor d_233_119 rfl ?_
        refine e_iand d_233_120 rfl ?_
        subst H
        exact e_iret d_233_121 rr_233
      · replace H := H.1 hc
        refine e_iload_n d_233_108 rfl rfl ?_
        refine e_goto (t := 121) d_233_109 (by decide) ?_
        subst H
        exact e_iret d_233_121 rr_233
    · replace H := H.1 hc
      refine e_bipush d_233_99 cb_m2 rfl ?_
      refine e_goto (t := 121) d_233_101 (by decide) ?_
      subst H
      exact e_iret d_233_121 rr_233
  · replace H := H.1 hc
    refine e_aload_n d_233_53 rfl rfl ?_
    refine e_iload d_233_54 rfl rfl ?_
    refine e_iload_n d_233_56 rfl rfl ?_
    refine e_aload_n d_233_57 rfl rfl ?_
    refine e_getR d_233_58 oo_233 pF_9_82 (by decide) (hS.k rfl) (hS.r rt_59_49) rfl ?_
    refine e_iconst d_233_61 ci_0 rfl ?_
    refine e_iaload (v := (mI σ 82 0)) d_233_62 (rdI_at (hS.k rfl) rfl) rfl ?_
    refine e_ixor d_233_63 rfl ?_
    obtain ⟨v3, σ1, hcl, hS2, H⟩ := H
    refine e_vcall (w1 := (some (.int v3), σ1)) d_233_64 kc_233_64 rfl ⟨Nat.le_of_ble_eq_true rfl, xx_233.symm⟩ rfl hcl ?_
    show Ev 233 67 [.ref 59, .int x1, .int x2, .int x3, .int x4, .int x5, .int x6] [.int v3] σ1 w
    refine e_if_ne (t := 73) d_233_67 (by decide) rfl (fun hc => ?_) (fun hc => ?_)
    · replace H := H.2 hc
      refine e_iload_n d_233_73 rfl rfl ?_
      refine e_iload d_233_74 rfl rfl ?_
      refine e_iand d_233_76 rfl ?_
      refine e_istore_n (ls2 := [.ref 59, .int x1, .int x2, .int (x3 &&& x6), .int x4, .int x5, .int x6]) d_233_77 rfl rfl rfl ?_
      refine e_iload d_233_78 rfl rfl ?_
      refine e_iload d_233_80 rfl rfl ?_
      refine e_ior d_233_82 rfl ?_
      refine e_istore (ls2 := [.ref 59, .int x1, .int x2, .int (x3 &&& x6), .int (x4 ||| x6), .int x5, .int x6]) d_233_83 rfl rfl rfl ?_
      refine e_iinc (ls2 := [.ref 59, .int x1, .int x2, .int (x3 &&& x6), .int (x4 ||| x6), .int (x5 + 1), .int x6]) d_233_85 rfl ci_1 rfl rfl rfl ?_
      refine e_iinc (ls2 := [.ref 59, .int x1, .int x2, .int (x3 &&& x6), .int (x4 ||| x6), .int (x5 + 1), .int (x6 + 1)]) d_233_88 rfl ci_1 rfl rfl rfl ?_
      refine e_goto (t := 42) d_233_91 (by decide) ?_
      exact H
    · replace H := H.1 hc
      refine e_goto (t := 88) d_233_70 (by decide) ?_
      refine e_iinc (ls2 := [.ref 59, .int x1, .int x2, .int x3, .int x4, .int x5, .int (x6 + 1)]) d_233_88 rfl ci_1 rfl rfl rfl ?_
      refine e_goto (t := 42) d_233_91 (by decide) ?_
      exact H
/-! X9_silentMany -/
theorem b_234_0 {t : Nat} {σ : Mm} {w : Option Value × Mm}  (hS : Sg t σ) 
    (H : Ev 234 4 [.ref 59, .int 0, .int 1] [] σ w) :
    Ev 234 0 [.ref 59, .retAddr 0, .retAddr 0] [] σ w := by
  refine e_iconst d_234_0 ci_0 rfl ?_
  refine e_istore_n (ls2 := [.ref 59, .int 0, .retAddr 0]) d_234_1 rfl rfl rfl ?_
  refine e_iconst d_234_2 ci_1 rfl ?_
  refine e_istore_n (ls2 := [.ref 59, .int 0, .int 1]) d_234_3 rfl rfl rfl ?_
  exact H
theorem b_234_4 {t : Nat} {σ : Mm} {w : Option Value × Mm} {x1 : Int32} {x2 : Int32} (hS : Sg t σ) 
    (H : (x2 < ((1 : Int32) <<< ((mI σ 59 13) &&& 31)) → (∃ (v3 : Int32) (σ1 : Mm), Cl 227 [.ref 59, .int x2, .int 0] σ (some (.int v3), σ1) ∧ Sg t σ1 ∧ ((v3 = 0 → Ev 234 4 [.ref 59, .int (x1 + 0), .int (x2 + 1)] [] σ1 w) ∧ (¬ (v3 = 0) → Ev 234 4 [.ref 59, .int (x1 + 1), .int (x2 + 1)] [] σ1 w)))) ∧ (¬ (x2 < ((1 : Int32) <<< ((mI σ 59 13) &&& 31))) → (w = (some (.int x1), σ)))) :
    Ev 234 4 [.ref 59, .int x1, .int x2] [] σ w := by
  refine e_iload_n d_234_4 rfl rfl ?_
  refine e_iconst d_234_5 ci_1 rfl ?_
  refine e_aload_n d_234_6 rfl rfl ?_
  refine e_getI d_234_7 oo_234 pF_9_225 (by decide) (hS.k rfl) rfl ?_
  refine e_ishl d_234_10 rfl ?_
  refine e_icmp_ge (t := 37) d_234_11 (by decide) rfl (fun hc => ?_) (fun hc => ?_)
  · replace H := H.2 hc
    refine e_iload_n d_234_37 rfl rfl ?_
    subst H
    exact e_iret d_234_38 rr_234
  · replace H := H.1 hc
    refine e_iload_n d_234_14 rfl rfl ?_
    refine e_aload_n d_234_15 rfl rfl ?_
    refine e_iload_n d_234_16 rfl rfl ?_
    refine e_iconst d_234_17 ci_0 rfl ?_
    obtain ⟨v3, σ1, hcl, hS2, H⟩ := H
    refine e_vcall (w1 := (some (.int v3), σ1)) d_234_18 kc_234_18 rfl ⟨Nat.le_of_ble_eq_true rfl, xx_234.symm⟩ rfl hcl ?_
    show Ev 234 21 [.ref 59, .int x1, .int x2] [.int v3, .int x1] σ1 w
    refine e_if_eq (t := 28) d_234_21 (by decide) rfl (fun hc => ?_) (fun hc => ?_)
    · replace H := H.1 hc
      refine e_iconst d_234_28 ci_0 rfl ?_
      refine e_iadd d_234_29 rfl ?_
      refine e_istore_n (ls2 := [.ref 59, .int (x1 + 0), .int x2]) d_234_30 rfl rfl rfl ?_
      refine e_iinc (ls2 := [.ref 59, .int (x1 + 0), .int (x2 + 1)]) d_234_31 rfl ci_1 rfl rfl rfl ?_
      refine e_goto (t := 4) d_234_34 (by decide) ?_
      exact H
    · replace H := H.2 hc
      refine e_iconst d_234_24 ci_1 rfl ?_
      refine e_goto (t := 29) d_234_25 (by decide) ?_
      refine e_iadd d_234_29 rfl ?_
      refine e_istore_n (ls2 := [.ref 59, .int (x1 + 1), .int x2]) d_234_30 rfl rfl rfl ?_
      refine e_iinc (ls2 := [.ref 59, .int (x1 + 1), .int (x2 + 1)]) d_234_31 rfl ci_1 rfl rfl rfl ?_
      refine e_goto (t := 4) d_234_34 (by decide) ?_
      exact H
/-! X9_rankNow -/
theorem b_235_0 {t : Nat} {σ : Mm} {w : Option Value × Mm}  (hS : Sg t σ) 
    (H : ∃ (σ1 : Mm), Cl 226 [.ref 59] σ (none, σ1) ∧ Sg t σ1 ∧ (∃ (v6 : Int32) (σ4 : Mm), Cl 202 [.int (mI σ1 59 65)] σ1 (some (.int v6), σ4) ∧ Sg t σ4 ∧ (∃ (v9 : Int32) (σ7 : Mm), Cl 234 [.ref 59] σ4 (some (.int v9), σ7) ∧ Sg t σ7 ∧ Ev 235 19 [.ref 59, .int v6, .int (v9 + 1)] [] σ7 w))) :
    Ev 235 0 [.ref 59, .retAddr 0, .retAddr 0] [] σ w := by
  refine e_aload_n d_235_0 rfl rfl ?_
  obtain ⟨σ1, hcl, hS2, H⟩ := H
  refine e_vcall (w1 := (none, σ1)) d_235_1 kc_235_1 rfl ⟨Nat.le_of_ble_eq_true rfl, xx_235.symm⟩ rfl hcl ?_
  show Ev 235 4 [.ref 59, .retAddr 0, .retAddr 0] [] σ1 w
  refine e_aload_n d_235_4 rfl rfl ?_
  refine e_getI d_235_5 oo_235 pF_9_459 (by decide) (hS2.k rfl) rfl ?_
  obtain ⟨v6, σ4, hcl, hS5, H⟩ := H
  refine e_scall (w1 := (some (.int v6), σ4)) d_235_8 kc_235_8 rfl ⟨Nat.le_of_ble_eq_true rfl, xx_235.symm⟩ rfl hcl ?_
  show Ev 235 11 [.ref 59, .retAddr 0, .retAddr 0] [.int v6] σ4 w
  refine e_istore_n (ls2 := [.ref 59, .int v6, .retAddr 0]) d_235_11 rfl rfl rfl ?_
  refine e_aload_n d_235_12 rfl rfl ?_
  obtain ⟨v9, σ7, hcl, hS8, H⟩ := H
  refine e_vcall (w1 := (some (.int v9), σ7)) d_235_13 kc_235_13 rfl ⟨Nat.le_of_ble_eq_true rfl, xx_235.symm⟩ rfl hcl ?_
  show Ev 235 16 [.ref 59, .int v6, .retAddr 0] [.int v9] σ7 w
  refine e_iconst d_235_16 ci_1 rfl ?_
  refine e_iadd d_235_17 rfl ?_
  refine e_istore_n (ls2 := [.ref 59, .int v6, .int (v9 + 1)]) d_235_18 rfl rfl rfl ?_
  exact H
theorem b_235_19 {t : Nat} {σ : Mm} {w : Option Value × Mm} {x1 : Int32} {x2 : Int32} (hS : Sg t σ) 
    (H : (1 < x2 → Ev 235 19 [.ref 59, .int (x1 + (-1)), .int (x2 / 2)] [] σ w) ∧ (¬ (1 < x2) → (w = (some (.int x1), σ)))) :
    Ev 235 19 [.ref 59, .int x1, .int x2] [] σ w := by
  refine e_iload_n d_235_19 rfl rfl ?_
  refine e_iconst d_235_20 ci_1 rfl ?_
  refine e_icmp_le (t := 34) d_235_21 (by decide) rfl (fun hc => ?_) (fun hc => ?_)
  · replace H := H.2 hc
    refine e_iload_n d_235_34 rfl rfl ?_
    subst H
    exact e_iret d_235_35 rr_235
  · replace H := H.1 hc
    refine e_iinc (ls2 := [.ref 59, .int (x1 + (-1)), .int x2]) d_235_24 rfl ci_m1 rfl rfl rfl ?_
    refine e_iload_n d_235_27 rfl rfl ?_
    refine e_iconst d_235_28 ci_2 rfl ?_
    refine e_idiv d_235_29 (by decide) rfl ?_
    refine e_istore_n (ls2 := [.ref 59, .int (x1 + (-1)), .int (x2 / 2)]) d_235_30 rfl rfl rfl ?_
    refine e_goto (t := 19) d_235_31 (by decide) ?_
    exact H
/-! X9_rank -/
theorem b_236_0 {t : Nat} {σ : Mm} {w : Option Value × Mm}  (hS : Sg t σ) 
    (H : ∃ (v3 : Int32) (σ1 : Mm), Cl 235 [.ref 59] (uI σ 59 2 0) (some (.int v3), σ1) ∧ Sg t σ1 ∧ (w = (some (.int v3), σ1))) :
    Ev 236 0 [.ref 59] [] σ w := by
  refine e_aload_n d_236_0 rfl rfl ?_
  refine e_iconst d_236_1 ci_0 rfl ?_
  refine e_putI d_236_2 oo_236 pF_9_142 (Or.inl rfl) (hS.k rfl) rfl ?_
  refine e_aload_n d_236_5 rfl rfl ?_
  obtain ⟨v3, σ1, hcl, hS2, H⟩ := H
  refine e_vcall (w1 := (some (.int v3), σ1)) d_236_6 kc_236_6 rfl ⟨Nat.le_of_ble_eq_true rfl, xx_236.symm⟩ rfl hcl ?_
  show Ev 236 9 [.ref 59] [.int v3] σ1 w
  subst H
  exact e_iret d_236_9 rr_236
/-! X9_isSum -/
theorem b_237_0 {t : Nat} {σ : Mm} {w : Option Value × Mm} {x1 : Int32} {x2 : Int32} (hS : Sg t σ) 
    (H : Ev 237 2 [.ref 59, .int x1, .int x2, .int 0] [] σ w) :
    Ev 237 0 [.ref 59, .int x1, .int x2, .retAddr 0] [] σ w := by
  refine e_iconst d_237_0 ci_0 rfl ?_
  refine e_istore_n (ls2 := [.ref 59, .int x1, .int x2, .int 0]) d_237_1 rfl rfl rfl ?_
  exact H
theorem b_237_2 {t : Nat} {σ : Mm} {w : Option Value × Mm} {x1 : Int32} {x2 : Int32} {x3 : Int32} (hS : Sg t σ) 
    (H : (x3 < ((1 : Int32) <<< (x1 &&& 31)) → (((x3 &&& (x2 ^^^ (-1))) = 0 → (inb x1 20 = true ∧ (∃ (v3 : Int32) (σ1 : Mm), Cl 227 [.ref 59, .int x3, .int (mI σ 89 x1.toNatClampNeg)] σ (some (.int v3), σ1) ∧ Sg t σ1 ∧ ((v3 = 0 → Ev 237 2 [.ref 59, .int x1, .int x2, .int (x3 + 1)] [] σ1 w) ∧ (¬ (v3 = 0) → (w = (some (.int 1), σ1))))))) ∧ (¬ ((x3 &&& (x2 ^^^ (-1))) = 0) → Ev 237 2 [.ref 59, .int x1, .int x2, .int (x3 + 1)] [] σ w))) ∧ (¬ (x3 < ((1 : Int32) <<< (x1 &&& 31))) → (w = (some (.int 0), σ)))) :
    Ev 237 2 [.ref 59, .int x1, .int x2, .int x3] [] σ w := by
  refine e_iload_n d_237_2 rfl rfl ?_
  refine e_iconst d_237_3 ci_1 rfl ?_
  refine e_iload_n d_237_4 rfl rfl ?_
  refine e_ishl d_237_5 rfl ?_
  refine e_icmp_ge (t := 39) d_237_6 (by decide) rfl (fun hc => ?_) (fun hc => ?_)
  · replace H := H.2 hc
    refine e_iconst d_237_39 ci_0 rfl ?_
    subst H
    exact e_zret d_237_40 rr_237 (Or.inl rfl)
  · replace H := H.1 hc
    refine e_iload_n d_237_9 rfl rfl ?_
    refine e_iload_n d_237_10 rfl rfl ?_
    refine e_iconst d_237_11 ci_m1 rfl ?_
    refine e_ixor d_237_12 rfl ?_
    refine e_iand d_237_13 rfl ?_
    refine e_if_ne (t := 33) d_237_14 (by decide) rfl (fun hc => ?_) (fun hc => ?_)
    · replace H := H.2 hc
      refine e_iinc (ls2 := [.ref 59, .int x1, .int x2, .int (x3 + 1)]) d_237_33 rfl ci_1 rfl rfl rfl ?_
      refine e_goto (t := 2) d_237_36 (by decide) ?_
      exact H
    · replace H := H.1 hc
      refine e_aload_n d_237_17 rfl rfl ?_
      refine e_iload_n d_237_18 rfl rfl ?_
      refine e_aload_n d_237_19 rfl rfl ?_
      refine e_getR d_237_20 oo_237 pF_9_103 (by decide) (hS.k rfl) (hS.r rt_59_56) rfl ?_
      refine e_iload_n d_237_23 rfl rfl ?_
      obtain ⟨hb, H⟩ := H
      refine e_iaload (v := (mI σ 89 x1.toNatClampNeg)) d_237_24 (rdI_at (hS.k rfl) hb) rfl ?_
      obtain ⟨v3, σ1, hcl, hS2, H⟩ := H
      refine e_vcall (w1 := (some (.int v3), σ1)) d_237_25 kc_237_25 rfl ⟨Nat.le_of_ble_eq_true rfl, xx_237.symm⟩ rfl hcl ?_
      show Ev 237 28 [.ref 59, .int x1, .int x2, .int x3] [.int v3] σ1 w
      refine e_if_eq (t := 33) d_237_28 (by decide) rfl (fun hc => ?_) (fun hc => ?_)
      · replace H := H.1 hc
        refine e_iinc (ls2 := [.ref 59, .int x1, .int x2, .int (x3 + 1)]) d_237_33 rfl ci_1 rfl rfl rfl ?_
        refine e_goto (t := 2) d_237_36 (by decide) ?_
        exact H
      · replace H := H.2 hc
        refine e_iconst d_237_31 ci_1 rfl ?_
        subst H
        exact e_zret d_237_32 rr_237 (Or.inr rfl)
/-! X9_basisNow -/
theorem b_238_0 {t : Nat} {σ : Mm} {w : Option Value × Mm}  (hS : Sg t σ) 
    (H : ∃ (σ1 : Mm), Cl 226 [.ref 59] σ (none, σ1) ∧ Sg t σ1 ∧ Ev 238 8 [.ref 59, .int 0, .int 0] [] σ1 w) :
    Ev 238 0 [.ref 59, .retAddr 0, .retAddr 0] [] σ w := by
  refine e_aload_n d_238_0 rfl rfl ?_
  obtain ⟨σ1, hcl, hS2, H⟩ := H
  refine e_vcall (w1 := (none, σ1)) d_238_1 kc_238_1 rfl ⟨Nat.le_of_ble_eq_true rfl, xx_238.symm⟩ rfl hcl ?_
  show Ev 238 4 [.ref 59, .retAddr 0, .retAddr 0] [] σ1 w
  refine e_iconst d_238_4 ci_0 rfl ?_
  refine e_istore_n (ls2 := [.ref 59, .int 0, .retAddr 0]) d_238_5 rfl rfl rfl ?_
  refine e_iconst d_238_6 ci_0 rfl ?_
  refine e_istore_n (ls2 := [.ref 59, .int 0, .int 0]) d_238_7 rfl rfl rfl ?_
  exact H
theorem b_238_8 {t : Nat} {σ : Mm} {w : Option Value × Mm} {x1 : Int32} {x2 : Int32} (hS : Sg t σ) 
    (H : (x2 < (mI σ 59 13) → (∃ (v3 : Int32) (σ1 : Mm), Cl 153 [.int (mI σ 59 65), .int x2] σ (some (.int v3), σ1) ∧ Sg t σ1 ∧ ((v3 = 0 → Ev 238 8 [.ref 59, .int (x1 ||| 0), .int (x2 + 1)] [] σ1 w) ∧ (¬ (v3 = 0) → (∃ (v6 : Int32) (σ4 : Mm), Cl 237 [.ref 59, .int x2, .int (mI σ1 59 65)] σ1 (some (.int v6), σ4) ∧ Sg t σ4 ∧ ((v6 = 0 → Ev 238 8 [.ref 59, .int (x1 ||| ((1 : Int32) <<< (x2 &&& 31))), .int (x2 + 1)] [] σ4 w) ∧ (¬ (v6 = 0) → Ev 238 8 [.ref 59, .int (x1 ||| 0), .int (x2 + 1)] [] σ4 w))))))) ∧ (¬ (x2 < (mI σ 59 13)) → (w = (some (.int x1), σ)))) :
    Ev 238 8 [.ref 59, .int x1, .int x2] [] σ w := by
  refine e_iload_n d_238_8 rfl rfl ?_
  refine e_aload_n d_238_9 rfl rfl ?_
  refine e_getI d_238_10 oo_238 pF_9_225 (by decide) (hS.k rfl) rfl ?_
  refine e_icmp_ge (t := 55) d_238_13 (by decide) rfl (fun hc => ?_) (fun hc => ?_)
  · replace H := H.2 hc
    refine e_iload_n d_238_55 rfl rfl ?_
    subst H
    exact e_iret d_238_56 rr_238
  · replace H := H.1 hc
    refine e_iload_n d_238_16 rfl rfl ?_
    refine e_aload_n d_238_17 rfl rfl ?_
    refine e_getI d_238_18 oo_238 pF_9_459 (by decide) (hS.k rfl) rfl ?_
    refine e_iload_n d_238_21 rfl rfl ?_
    obtain ⟨v3, σ1, hcl, hS2, H⟩ := H
    refine e_scall (w1 := (some (.int v3), σ1)) d_238_22 kc_238_22 rfl ⟨Nat.le_of_ble_eq_true rfl, xx_238.symm⟩ rfl hcl ?_
    show Ev 238 25 [.ref 59, .int x1, .int x2] [.int v3, .int x1] σ1 w
    refine e_if_eq (t := 46) d_238_25 (by decide) rfl (fun hc => ?_) (fun hc => ?_)
    · replace H := H.1 hc
      refine e_iconst d_238_46 ci_0 rfl ?_
      refine e_ior d_238_47 rfl ?_
      refine e_istore_n (ls2 := [.ref 59, .int (x1 ||| 0), .int x2]) d_238_48 rfl rfl rfl ?_
      refine e_iinc (ls2 := [.ref 59, .int (x1 ||| 0), .int (x2 + 1)]) d_238_49 rfl ci_1 rfl rfl rfl ?_
      refine e_goto (t := 8) d_238_52 (by decide) ?_
      exact H
    · replace H := H.2 hc
      refine e_aload_n d_238_28 rfl rfl ?_
      refine e_iload_n d_238_29 rfl rfl ?_
      refine e_aload_n d_238_30 rfl rfl ?_
      refine e_getI d_238_31 oo_238 pF_9_459 (by decide) (hS2.k rfl) rfl ?_
      obtain ⟨v6, σ4, hcl, hS5, H⟩ := H
      refine e_vcall (w1 := (some (.int v6), σ4)) d_238_34 kc_238_34 rfl ⟨Nat.le_of_ble_eq_true rfl, xx_238.symm⟩ rfl hcl ?_
      show Ev 238 37 [.ref 59, .int x1, .int x2] [.int v6, .int x1] σ4 w
      refine e_if_ne (t := 46) d_238_37 (by decide) rfl (fun hc => ?_) (fun hc => ?_)
      · replace H := H.2 hc
        refine e_iconst d_238_46 ci_0 rfl ?_
        refine e_ior d_238_47 rfl ?_
        refine e_istore_n (ls2 := [.ref 59, .int (x1 ||| 0), .int x2]) d_238_48 rfl rfl rfl ?_
        refine e_iinc (ls2 := [.ref 59, .int (x1 ||| 0), .int (x2 + 1)]) d_238_49 rfl ci_1 rfl rfl rfl ?_
        refine e_goto (t := 8) d_238_52 (by decide) ?_
        exact H
      · replace H := H.1 hc
        refine e_iconst d_238_40 ci_1 rfl ?_
        refine e_iload_n d_238_41 rfl rfl ?_
        refine e_ishl d_238_42 rfl ?_
        refine e_goto (t := 47) d_238_43 (by decide) ?_
        refine e_ior d_238_47 rfl ?_
        refine e_istore_n (ls2 := [.ref 59, .int (x1 ||| ((1 : Int32) <<< (x2 &&& 31))), .int x2]) d_238_48 rfl rfl rfl ?_
        refine e_iinc (ls2 := [.ref 59, .int (x1 ||| ((1 : Int32) <<< (x2 &&& 31))), .int (x2 + 1)]) d_238_49 rfl ci_1 rfl rfl rfl ?_
        refine e_goto (t := 8) d_238_52 (by decide) ?_
        exact H
/-! X9_basis -/
theorem b_239_0 {t : Nat} {σ : Mm} {w : Option Value × Mm}  (hS : Sg t σ) 
    (H : ∃ (v3 : Int32) (σ1 : Mm), Cl 238 [.ref 59] (uI σ 59 2 0) (some (.int v3), σ1) ∧ Sg t σ1 ∧ (w = (some (.int v3), σ1))) :
    Ev 239 0 [.ref 59] [] σ w := by
  refine e_aload_n d_239_0 rfl rfl ?_
  refine e_iconst d_239_1 ci_0 rfl ?_
  refine e_putI d_239_2 oo_239 pF_9_142 (Or.inl rfl) (hS.k rfl) rfl ?_
  refine e_aload_n d_239_5 rfl rfl ?_
  obtain ⟨v3, σ1, hcl, hS2, H⟩ := H
  refine e_vcall (w1 := (some (.int v3), σ1)) d_239_6 kc_239_6 rfl ⟨Nat.le_of_ble_eq_true rfl, xx_239.symm⟩ rfl hcl ?_
  show Ev 239 9 [.ref 59] [.int v3] σ1 w
  subst H
  exact e_iret d_239_9 rr_239
/-! X9_sumOf -/
theorem b_240_0 {t : Nat} {σ : Mm} {w : Option Value × Mm} {x1 : Int32} (hS : Sg t σ) 
    (H : ∃ (v3 : Int32) (σ1 : Mm), Cl 200 [.ref 59, .int x1] (uI σ 59 2 0) (some (.int v3), σ1) ∧ Sg t σ1 ∧ ((v3 = 0 → (w = (some (.int (-1)), σ1))) ∧ (¬ (v3 = 0) → (∃ (v6 : Int32) (σ4 : Mm), Cl 238 [.ref 59] σ1 (some (.int v6), σ4) ∧ Sg t σ4 ∧ (∃ (v9 : Int32) (σ7 : Mm), Cl 153 [.int v6, .int x1] σ4 (some (.int v9), σ7) ∧ Sg t σ7 ∧ ((v9 = 0 → (∃ (v12 : Int32) (σ10 : Mm), Cl 153 [.int (mI σ7 59 65), .int x1] σ7 (some (.int v12), σ10) ∧ Sg t σ10 ∧ ((v12 = 0 → (w = (some (.int (-2)), σ10))) ∧ (¬ (v12 = 0) → Ev 240 44 [.ref 59, .int x1, .int v6, .int 0] [] σ10 w)))) ∧ (¬ (v9 = 0) → (w = (some (.int (-2)), σ7))))))))) :
    Ev 240 0 [.ref 59, .int x1, .retAddr 0, .retAddr 0] [] σ w := by
  refine e_aload_n d_240_0 rfl rfl ?_
  refine e_iconst d_240_1 ci_0 rfl ?_
  refine e_putI d_240_2 oo_240 pF_9_142 (Or.inl rfl) (hS.k rfl) rfl ?_
  refine e_aload_n d_240_5 rfl rfl ?_
  refine e_iload_n d_240_6 rfl rfl ?_
  obtain ⟨v3, σ1, hcl, hS2, H⟩ := H
  refine e_vcall (w1 := (some (.int v3), σ1)) d_240_7 kc_240_7 rfl ⟨Nat.le_of_ble_eq_true rfl, xx_240.symm⟩ rfl hcl ?_
  show Ev 240 10 [.ref 59, .int x1, .retAddr 0, .retAddr 0] [.int v3] σ1 w
  refine e_if_ne (t := 15) d_240_10 (by decide) rfl (fun hc => ?_) (fun hc => ?_)
  · replace H := H.2 hc
    refine e_aload_n d_240_15 rfl rfl ?_
    obtain ⟨v6, σ4, hcl, hS5, H⟩ := H
    refine e_vcall (w1 := (some (.int v6), σ4)) d_240_16 kc_240_16 rfl ⟨Nat.le_of_ble_eq_true rfl, xx_240.symm⟩ rfl hcl ?_
    show Ev 240 19 [.ref 59, .int x1, .retAddr 0, .retAddr 0] [.int v6] σ4 w
    refine e_istore_n (ls2 := [.ref 59, .int x1, .int v6, .retAddr 0]) d_240_19 rfl rfl rfl ?_
    refine e_iload_n d_240_20 rfl rfl ?_
    refine e_iload_n d_240_21 rfl rfl ?_
    obtain ⟨v9, σ7, hcl, hS8, H⟩ := H
    refine e_scall (w1 := (some (.int v9), σ7)) d_240_22 kc_240_22 rfl ⟨Nat.le_of_ble_eq_true rfl, xx_240.symm⟩ rfl hcl ?_
    show Ev 240 25 [.ref 59, .int x1, .int v6, .retAddr 0] [.int v9] σ7 w
    refine e_if_ne (t := 39) d_240_25 (by decide) rfl (fun hc => ?_) (fun hc => ?_)
    · replace H := H.2 hc
      refine e_bipush d_240_39 cb_m2 rfl ?_
      subst H
      exact e_iret d_240_41 rr_240
    · replace H := H.1 hc
      refine e_aload_n d_240_28 rfl rfl ?_
      refine e_getI d_240_29 oo_240 pF_9_459 (by decide) (hS8.k rfl) rfl ?_
      refine e_iload_n d_240_32 rfl rfl ?_
      obtain ⟨v12, σ10, hcl, hS11, H⟩ := H
      refine e_scall (w1 := (some (.int v12), σ10)) d_240_33 kc_240_33 rfl ⟨Nat.le_of_ble_eq_true rfl, xx_240.symm⟩ rfl hcl ?_
      show Ev 240 36 [.ref 59, .int x1, .int v6, .retAddr 0] [.int v12] σ10 w
      refine e_if_ne (t := 42) d_240_36 (by decide) rfl (fun hc => ?_) (fun hc => ?_)
      · replace H := H.2 hc
        refine e_iconst d_240_42 ci_0 rfl ?_
        refine e_istore_n (ls2 := [.ref 59, .int x1, .int v6, .int 0]) d_240_43 rfl rfl rfl ?_
        exact H
      · replace H := H.1 hc
        refine e_bipush d_240_39 cb_m2 rfl ?_
        subst H
        exact e_iret d_240_41 rr_240
  · replace H := H.1 hc
    refine e_iconst d_240_13 ci_m1 rfl ?_
    subst H
    exact e_iret d_240_14 rr_240
theorem b_240_44 {t : Nat} {σ : Mm} {w : Option Value × Mm} {x1 : Int32} {x2 : Int32} {x3 : Int32} (hS : Sg t σ) 
    (H : ((x3 &&& (x2 ^^^ (-1))) = 0 → (inb x1 20 = true ∧ (∃ (v3 : Int32) (σ1 : Mm), Cl 227 [.ref 59, .int x3, .int (mI σ 89 x1.toNatClampNeg)] σ (some (.int v3), σ1) ∧ Sg t σ1 ∧ ((v3 = 0 → Ev 240 44 [.ref 59, .int x1, .int x2, .int (x3 + 1)] [] σ1 w) ∧ (¬ (v3 = 0) → (w = (some (.int x3), σ1))))))) ∧ (¬ ((x3 &&& (x2 ^^^ (-1))) = 0) → Ev 240 44 [.ref 59, .int x1, .int x2, .int (x3 + 1)] [] σ w)) :
    Ev 240 44 [.ref 59, .int x1, .int x2, .int x3] [] σ w := by
  refine e_iload_n d_240_44 rfl rfl ?_
  refine e_iload_n d_240_45 rfl rfl ?_
  refine e_iconst d_240_46 ci_m1 rfl ?_
  refine e_ixor d_240_47 rfl ?_
  refine e_iand d_240_48 rfl ?_
  refine e_if_ne (t := 66) d_240_49 (by decide) rfl (fun hc => ?_) (fun hc => ?_)
  · replace H := H.2 hc
    refine e_iinc (ls2 := [.ref 59, .int x1, .int x2, .int (x3 + 1)]) d_240_66 rfl ci_1 rfl rfl rfl ?_
    refine e_goto (t := 44) d_240_69 (by decide) ?_
    exact H
  · replace H := H.1 hc
    refine e_aload_n d_240_52 rfl rfl ?_
    refine e_iload_n d_240_53 rfl rfl ?_
    refine e_aload_n d_240_54 rfl rfl ?_
    refine e_getR d_240_55 oo_240 pF_9_103 (by decide) (hS.k rfl) (hS.r rt_59_56) rfl ?_
    refine e_iload_n d_240_58 rfl rfl ?_
    obtain ⟨hb, H⟩ := H
    refine e_iaload (v := (mI σ 89 x1.toNatClampNeg)) d_240_59 (rdI_at (hS.k rfl) hb) rfl ?_
    obtain ⟨v3, σ1, hcl, hS2, H⟩ := H
    refine e_vcall (w1 := (some (.int v3), σ1)) d_240_60 kc_240_60 rfl ⟨Nat.le_of_ble_eq_true rfl, xx_240.symm⟩ rfl hcl ?_
    show Ev 240 63 [.ref 59, .int x1, .int x2, .int x3] [.int v3] σ1 w
    refine e_if_ne (t := 72) d_240_63 (by decide) rfl (fun hc => ?_) (fun hc => ?_)
    · replace H := H.2 hc
      refine e_iload_n d_240_72 rfl rfl ?_
      subst H
      exact e_iret d_240_73 rr_240
    · replace H := H.1 hc
      refine e_iinc (ls2 := [.ref 59, .int x1, .int x2, .int (x3 + 1)]) d_240_66 rfl ci_1 rfl rfl rfl ?_
      refine e_goto (t := 44) d_240_69 (by decide) ?_
      exact H
/-! X9_silent -/
theorem b_241_0 {t : Nat} {σ : Mm} {w : Option Value × Mm} {x1 : Int32} (hS : Sg t σ) 
    (H : ∃ (v3 : Int32) (σ1 : Mm), Cl 152 [.int x1, .int 0, .int 1] (uI σ 59 2 0) (some (.int v3), σ1) ∧ Sg t σ1 ∧ ((v3 = 0 → (w = (some (.int (-1)), σ1))) ∧ (¬ (v3 = 0) → (∃ (σ4 : Mm), Cl 226 [.ref 59] σ1 (none, σ4) ∧ Sg t σ4 ∧ ((x1 = 0 → (∃ (v9 : Int32) (σ7 : Mm), Cl 234 [.ref 59] σ4 (some (.int v9), σ7) ∧ Sg t σ7 ∧ (w = (some (.int v9), σ7)))) ∧ (¬ (x1 = 0) → Ev 241 33 [.ref 59, .int x1, .int 0, .int 1] [] σ4 w)))))) :
    Ev 241 0 [.ref 59, .int x1, .retAddr 0, .retAddr 0] [] σ w := by
  refine e_aload_n d_241_0 rfl rfl ?_
  refine e_iconst d_241_1 ci_0 rfl ?_
  refine e_putI d_241_2 oo_241 pF_9_142 (Or.inl rfl) (hS.k rfl) rfl ?_
  refine e_iload_n d_241_5 rfl rfl ?_
  refine e_iconst d_241_6 ci_0 rfl ?_
  refine e_iconst d_241_7 ci_1 rfl ?_
  obtain ⟨v3, σ1, hcl, hS2, H⟩ := H
  refine e_scall (w1 := (some (.int v3), σ1)) d_241_8 kc_241_8 rfl ⟨Nat.le_of_ble_eq_true rfl, xx_241.symm⟩ rfl hcl ?_
  show Ev 241 11 [.ref 59, .int x1, .retAddr 0, .retAddr 0] [.int v3] σ1 w
  refine e_if_ne (t := 16) d_241_11 (by decide) rfl (fun hc => ?_) (fun hc => ?_)
  · replace H := H.2 hc
    refine e_aload_n d_241_16 rfl rfl ?_
    obtain ⟨σ4, hcl, hS5, H⟩ := H
    refine e_vcall (w1 := (none, σ4)) d_241_17 kc_241_17 rfl ⟨Nat.le_of_ble_eq_true rfl, xx_241.symm⟩ rfl hcl ?_
    show Ev 241 20 [.ref 59, .int x1, .retAddr 0, .retAddr 0] [] σ4 w
    refine e_iload_n d_241_20 rfl rfl ?_
    refine e_if_ne (t := 29) d_241_21 (by decide) rfl (fun hc => ?_) (fun hc => ?_)
    · replace H := H.2 hc
      refine e_iconst d_241_29 ci_0 rfl ?_
      refine e_istore_n (ls2 := [.ref 59, .int x1, .int 0, .retAddr 0]) d_241_30 rfl rfl rfl ?_
      refine e_iconst d_241_31 ci_1 rfl ?_
      refine e_istore_n (ls2 := [.ref 59, .int x1, .int 0, .int 1]) d_241_32 rfl rfl rfl ?_
      exact H
    · replace H := H.1 hc
      refine e_aload_n d_241_24 rfl rfl ?_
      obtain ⟨v9, σ7, hcl, hS8, H⟩ := H
      refine e_vcall (w1 := (some (.int v9), σ7)) d_241_25 kc_241_25 rfl ⟨Nat.le_of_ble_eq_true rfl, xx_241.symm⟩ rfl hcl ?_
      show Ev 241 28 [.ref 59, .int x1, .retAddr 0, .retAddr 0] [.int v9] σ7 w
      subst H
      exact e_iret d_241_28 rr_241
  · replace H := H.1 hc
    refine e_iconst d_241_14 ci_m1 rfl ?_
    subst H
    exact e_iret d_241_15 rr_241
theorem b_241_33 {t : Nat} {σ : Mm} {w : Option Value × Mm} {x1 : Int32} {x2 : Int32} {x3 : Int32} (hS : Sg t σ) 
    (H : (x3 < ((1 : Int32) <<< ((mI σ 59 13) &&& 31)) → (∃ (v3 : Int32) (σ1 : Mm), Cl 227 [.ref 59, .int x3, .int 0] σ (some (.int v3), σ1) ∧ Sg t σ1 ∧ ((v3 = 0 → Ev 241 33 [.ref 59, .int x1, .int x2, .int (x3 + 1)] [] σ1 w) ∧ (¬ (v3 = 0) → ((x2 = 0 → Ev 241 33 [.ref 59, .int x1, .int x3, .int (x3 + 1)] [] σ1 w) ∧ (¬ (x2 = 0) → (∃ (v6 : Int32) (σ4 : Mm), Cl 202 [.int x3] σ1 (some (.int v6), σ4) ∧ Sg t σ4 ∧ (∃ (v9 : Int32) (σ7 : Mm), Cl 202 [.int x2] σ4 (some (.int v9), σ7) ∧ Sg t σ7 ∧ ((v6 < v9 → Ev 241 33 [.ref 59, .int x1, .int x3, .int (x3 + 1)] [] σ7 w) ∧ (¬ (v6 < v9) → Ev 241 33 [.ref 59, .int x1, .int x2, .int (x3 + 1)] [] σ7 w)))))))))) ∧ (¬ (x3 < ((1 : Int32) <<< ((mI σ 59 13) &&& 31))) → (w = (some (.int x2), σ)))) :
    Ev 241 33 [.ref 59, .int x1, .int x2, .int x3] [] σ w := by
  refine e_iload_n d_241_33 rfl rfl ?_
  refine e_iconst d_241_34 ci_1 rfl ?_
  refine e_aload_n d_241_35 rfl rfl ?_
  refine e_getI d_241_36 oo_241 pF_9_225 (by decide) (hS.k rfl) rfl ?_
  refine e_ishl d_241_39 rfl ?_
  refine e_icmp_ge (t := 75) d_241_40 (by decide) rfl (fun hc => ?_) (fun hc => ?_)
  · replace H := H.2 hc
    refine e_iload_n d_241_75 rfl rfl ?_
    subst H
    exact e_iret d_241_76 rr_241
  · replace H := H.1 hc
    refine e_aload_n d_241_43 rfl rfl ?_
    refine e_iload_n d_241_44 rfl rfl ?_
    refine e_iconst d_241_45 ci_0 rfl ?_
    obtain ⟨v3, σ1, hcl, hS2, H⟩ := H
    refine e_vcall (w1 := (some (.int v3), σ1)) d_241_46 kc_241_46 rfl ⟨Nat.le_of_ble_eq_true rfl, xx_241.symm⟩ rfl hcl ?_
    show Ev 241 49 [.ref 59, .int x1, .int x2, .int x3] [.int v3] σ1 w
    refine e_if_eq (t := 69) d_241_49 (by decide) rfl (fun hc => ?_) (fun hc => ?_)
    · replace H := H.1 hc
      refine e_iinc (ls2 := [.ref 59, .int x1, .int x2, .int (x3 + 1)]) d_241_69 rfl ci_1 rfl rfl rfl ?_
      refine e_goto (t := 33) d_241_72 (by decide) ?_
      exact H
    · replace H := H.2 hc
      refine e_iload_n d_241_52 rfl rfl ?_
      refine e_if_eq (t := 67) d_241_53 (by decide) rfl (fun hc => ?_) (fun hc => ?_)
      · replace H := H.1 hc
        refine e_iload_n d_241_67 rfl rfl ?_
        refine e_istore_n (ls2 := [.ref 59, .int x1, .int x3, .int x3]) d_241_68 rfl rfl rfl ?_
        refine e_iinc (ls2 := [.ref 59, .int x1, .int x3, .int (x3 + 1)]) d_241_69 rfl ci_1 rfl rfl rfl ?_
        refine e_goto (t := 33) d_241_72 (by decide) ?_
        exact H
      · replace H := H.2 hc
        refine e_iload_n d_241_56 rfl rfl ?_
        obtain ⟨v6, σ4, hcl, hS5, H⟩ := H
        refine e_scall (w1 := (some (.int v6), σ4)) d_241_57 kc_241_57 rfl ⟨Nat.le_of_ble_eq_true rfl, xx_241.symm⟩ rfl hcl ?_
        show Ev 241 60 [.ref 59, .int x1, .int x2, .int x3] [.int v6] σ4 w
        refine e_iload_n d_241_60 rfl rfl ?_
        obtain ⟨v9, σ7, hcl, hS8, H⟩ := H
        refine e_scall (w1 := (some (.int v9), σ7)) d_241_61 kc_241_61 rfl ⟨Nat.le_of_ble_eq_true rfl, xx_241.symm⟩ rfl hcl ?_
        show Ev 241 64 [.ref 59, .int x1, .int x2, .int x3] [.int v9, .int v6] σ7 w
        refine e_icmp_ge (t := 69) d_241_64 (by decide) rfl (fun hc => ?_) (fun hc => ?_)
        · replace H := H.2 hc
          refine e_iinc (ls2 := [.ref 59, .int x1, .int x2, .int (x3 + 1)]) d_241_69 rfl ci_1 rfl rfl rfl ?_
          refine e_goto (t := 33) d_241_72 (by decide) ?_
          exact H
        · replace H := H.1 hc
          refine e_iload_n d_241_67 rfl rfl ?_
          refine e_istore_n (ls2 := [.ref 59, .int x1, .int x3, .int x3]) d_241_68 rfl rfl rfl ?_
          refine e_iinc (ls2 := [.ref 59, .int x1, .int x3, .int (x3 + 1)]) d_241_69 rfl ci_1 rfl rfl rfl ?_
          refine e_goto (t := 33) d_241_72 (by decide) ?_
          exact H
/-! X9_darkest -/
theorem b_242_0 {t : Nat} {σ : Mm} {w : Option Value × Mm} {x1 : Int32} (hS : Sg t σ) 
    (H : ∃ (v3 : Int32) (σ1 : Mm), Cl 152 [.int x1, .int 0, .int 2] (uI σ 59 2 0) (some (.int v3), σ1) ∧ Sg t σ1 ∧ ((v3 = 0 → (w = (some (.int (-1)), σ1))) ∧ (¬ (v3 = 0) → (∃ (σ4 : Mm), Cl 226 [.ref 59] σ1 (none, σ4) ∧ Sg t σ4 ∧ Ev 242 24 [.ref 59, .int x1, .int 0, .int 1, .retAddr 0] [] σ4 w)))) :
    Ev 242 0 [.ref 59, .int x1, .retAddr 0, .retAddr 0, .retAddr 0] [] σ w := by
  refine e_aload_n d_242_0 rfl rfl ?_
  refine e_iconst d_242_1 ci_0 rfl ?_
  refine e_putI d_242_2 oo_242 pF_9_142 (Or.inl rfl) (hS.k rfl) rfl ?_
  refine e_iload_n d_242_5 rfl rfl ?_
  refine e_iconst d_242_6 ci_0 rfl ?_
  refine e_iconst d_242_7 ci_2 rfl ?_
  obtain ⟨v3, σ1, hcl, hS2, H⟩ := H
  refine e_scall (w1 := (some (.int v3), σ1)) d_242_8 kc_242_8 rfl ⟨Nat.le_of_ble_eq_true rfl, xx_242.symm⟩ rfl hcl ?_
  show Ev 242 11 [.ref 59, .int x1, .retAddr 0, .retAddr 0, .retAddr 0] [.int v3] σ1 w
  refine e_if_ne (t := 16) d_242_11 (by decide) rfl (fun hc => ?_) (fun hc => ?_)
  · replace H := H.2 hc
    refine e_aload_n d_242_16 rfl rfl ?_
    obtain ⟨σ4, hcl, hS5, H⟩ := H
    refine e_vcall (w1 := (none, σ4)) d_242_17 kc_242_17 rfl ⟨Nat.le_of_ble_eq_true rfl, xx_242.symm⟩ rfl hcl ?_
    show Ev 242 20 [.ref 59, .int x1, .retAddr 0, .retAddr 0, .retAddr 0] [] σ4 w
    refine e_iconst d_242_20 ci_0 rfl ?_
    refine e_istore_n (ls2 := [.ref 59, .int x1, .int 0, .retAddr 0, .retAddr 0]) d_242_21 rfl rfl rfl ?_
    refine e_iconst d_242_22 ci_1 rfl ?_
    refine e_istore_n (ls2 := [.ref 59, .int x1, .int 0, .int 1, .retAddr 0]) d_242_23 rfl rfl rfl ?_
    exact H
  · replace H := H.1 hc
    refine e_iconst d_242_14 ci_m1 rfl ?_
    subst H
    exact e_iret d_242_15 rr_242
theorem b_242_24 {t : Nat} {σ : Mm} {w : Option Value × Mm} {x1 : Int32} {x2 : Int32} {x3 : Int32} {z4 : Value} (hS : Sg t σ) 
    (H : (x3 < ((1 : Int32) <<< ((mI σ 59 13) &&& 31)) → (((x3 &&& ((mI σ 59 65) ^^^ (-1))) = 0 → (inb x3 1024 = true ∧ (∃ (v6 : Int32) (σ4 : Mm), Cl 202 [.int ((mI σ 82 0) ^^^ (mI σ 91 x3.toNatClampNeg))] σ (some (.int v6), σ4) ∧ Sg t σ4 ∧ (inb x2 1024 = true ∧ (∃ (v9 : Int32) (σ7 : Mm), Cl 202 [.int ((mI σ4 82 0) ^^^ (mI σ4 91 x2.toNatClampNeg))] σ4 (some (.int v9), σ7) ∧ Sg t σ7 ∧ (((v6 - v9) < 0 → Ev 242 106 [.ref 59, .int x1, .int x3, .int x3, .int (v6 - v9)] [] σ7 w) ∧ (¬ ((v6 - v9) < 0) → (((v6 - v9) = 0 → (∃ (v12 : Int32) (σ10 : Mm), Cl 202 [.int x3] σ7 (some (.int v12), σ10) ∧ Sg t σ10 ∧ (∃ (v15 : Int32) (σ13 : Mm), Cl 202 [.int x2] σ10 (some (.int v15), σ13) ∧ Sg t σ13 ∧ ((v12 < v15 → Ev 242 106 [.ref 59, .int x1, .int x3, .int x3, .int (v6 - v9)] [] σ13 w) ∧ (¬ (v12 < v15) → Ev 242 106 [.ref 59, .int x1, .int x2, .int x3, .int (v6 - v9)] [] σ13 w))))) ∧ (¬ ((v6 - v9) = 0) → Ev 242 106 [.ref 59, .int x1, .int x2, .int x3, .int (v6 - v9)] [] σ7 w))))))))) ∧ (¬ ((x3 &&& ((mI σ 59 65) ^^^ (-1))) = 0) → Ev 242 106 [.ref 59, .int x1, .int x2, .int x3, z4] [] σ w))) ∧ (¬ (x3 < ((1 : Int32) <<< ((mI σ 59 13) &&& 31))) → (inb x2 1024 = true ∧ ((x1 = 0 → (∃ (v3 : Int32) (σ1 : Mm), Cl 202 [.int ((mI σ 82 0) ^^^ (mI σ 91 x2.toNatClampNeg))] σ (some (.int v3), σ1) ∧ Sg t σ1 ∧ (w = (some (.int v3), σ1)))) ∧ (¬ (x1 = 0) → ((x1 = 1 → (w = (some (.int x2), σ))) ∧ (¬ (x1 = 1) → (w = (some (.int ((mI σ 82 0) ^^^ (mI σ 91 x2.toNatClampNeg))), σ))))))))) :
    Ev 242 24 [.ref 59, .int x1, .int x2, .int x3, z4] [] σ w := by
  refine e_iload_n d_242_24 rfl rfl ?_
  refine e_iconst d_242_25 ci_1 rfl ?_
  refine e_aload_n d_242_26 rfl rfl ?_
  refine e_getI d_242_27 oo_242 pF_9_225 (by decide) (hS.k rfl) rfl ?_
  refine e_ishl d_242_30 rfl ?_
  refine e_icmp_ge (t := 112) d_242_31 (by decide) rfl (fun hc => ?_) (fun hc => ?_)
  · replace H := H.2 hc
    refine e_aload_n d_242_112 rfl rfl ?_
    refine e_getR d_242_113 oo_242 pF_9_82 (by decide) (hS.k rfl) (hS.r rt_59_49) rfl ?_
    refine e_iconst d_242_116 ci_0 rfl ?_
    refine e_iaload (v := (mI σ 82 0)) d_242_117 (rdI_at (hS.k rfl) rfl) rfl ?_
    refine e_aload_n d_242_118 rfl rfl ?_
    refine e_getR d_242_119 oo_242 pF_9_109 (by decide) (hS.k rfl) (hS.r rt_59_64) rfl ?_
    refine e_iload_n d_242_122 rfl rfl ?_
    obtain ⟨hb, H⟩ := H
    refine e_iaload (v := (mI σ 91 x2.toNatClampNeg)) d_242_123 (rdI_at (hS.k rfl) hb) rfl ?_
    refine e_ixor d_242_124 rfl ?_
    refine e_istore_n (ls2 := [.ref 59, .int x1, .int x2, .int ((mI σ 82 0) ^^^ (mI σ 91 x2.toNatClampNeg)), z4]) d_242_125 rfl rfl rfl ?_
    refine e_iload_n d_242_126 rfl rfl ?_
    refine e_if_ne (t := 137) d_242_127 (by decide) rfl (fun hc => ?_) (fun hc => ?_)
    · replace H := H.2 hc
      refine e_iload_n d_242_137 rfl rfl ?_
      refine e_iconst d_242_138 ci_1 rfl ?_
      refine e_icmp_ne (t := 146) d_242_139 (by decide) rfl (fun hc => ?_) (fun hc => ?_)
      · replace H := H.2 hc
        refine e_iload_n d_242_146 rfl rfl ?_
        subst H
        exact e_iret d_242_147 rr_242
      · replace H := H.1 hc
        refine e_iload_n d_242_142 rfl rfl ?_
        refine e_goto (t := 147) d_242_143 (by decide) ?_
        subst H
        exact e_iret d_242_147 rr_242
    · replace H := H.1 hc
      refine e_iload_n d_242_130 rfl rfl ?_
      obtain ⟨v3, σ1, hcl, hS2, H⟩ := H
      refine e_scall (w1 := (some (.int v3), σ1)) d_242_131 kc_242_131 rfl ⟨Nat.le_of_ble_eq_true rfl, xx_242.symm⟩ rfl hcl ?_
      show Ev 242 134 [.ref 59, .int x1, .int x2, .int ((mI σ 82 0) ^^^ (mI σ 91 x2.toNatClampNeg)), z4] [.int v3] σ1 w
      refine e_goto (t := 147) d_242_134 (by decide) ?_
      subst H
      exact e_iret d_242_147 rr_242
  · replace H := H.1 hc
    refine e_iload_n d_242_34 rfl rfl ?_
    refine e_aload_n d_242_35 rfl rfl ?_
    refine e_getI d_242_36 oo_242 pF_9_459 (by decide) (hS.k rfl) rfl ?_
    refine e_iconst d_242_39 ci_m1 rfl ?_
    refine e_ixor d_242_40 rfl ?_
    refine e_iand d_242_41 rfl ?_
    refine e_if_eq (t := 48) d_242_42 (by decide) rfl (fun hc => ?_) (fun hc => ?_)
    · replace H := H.1 hc
      refine e_aload_n d_242_48 rfl rfl ?_
      refine e_getR d_242_49 oo_242 pF_9_82 (by decide) (hS.k rfl) (hS.r rt_59_49) rfl ?_
      refine e_iconst d_242_52 ci_0 rfl ?_
      refine e_iaload (v := (mI σ 82 0)) d_242_53 (rdI_at (hS.k rfl) rfl) rfl ?_
      refine e_aload_n d_242_54 rfl rfl ?_
      refine e_getR d_242_55 oo_242 pF_9_109 (by decide) (hS.k rfl) (hS.r rt_59_64) rfl ?_
      refine e_iload_n d_242_58 rfl rfl ?_
      obtain ⟨hb, H⟩ := H
      refine e_iaload (v := (mI σ 91 x3.toNatClampNeg)) d_242_59 (rdI_at (hS.k rfl) hb) rfl ?_
      refine e_ixor d_242_60 rfl ?_
      obtain ⟨v6, σ4, hcl, hS5, H⟩ := H
      refine e_scall (w1 := (some (.int v6), σ4)) d_242_61 kc_242_61 rfl ⟨Nat.le_of_ble_eq_true rfl, xx_242.symm⟩ rfl hcl ?_
      show Ev 242 64 [.ref 59, .int x1, .int x2, .int x3, z4] [.int v6] σ4 w
      refine e_aload_n d_242_64 rfl rfl ?_
      refine e_getR d_242_65 oo_242 pF_9_82 (by decide) (hS5.k rfl) (hS5.r rt_59_49) rfl ?_
      refine e_iconst d_242_68 ci_0 rfl ?_
      refine e_iaload (v := (mI σ4 82 0)) d_242_69 (rdI_at (hS5.k rfl) rfl) rfl ?_
      refine e_aload_n d_242_70 rfl rfl ?_
      refine e_getR d_242_71 oo_242 pF_9_109 (by decide) (hS5.k rfl) (hS5.r rt_59_64) rfl ?_
      refine e_iload_n d_242_74 rfl rfl ?_
      obtain ⟨hb, H⟩ := H
      refine e_iaload (v := (mI σ4 91 x2.toNatClampNeg)) d_242_75 (rdI_at (hS5.k rfl) hb) rfl ?_
      refine e_ixor d_242_76 rfl ?_
      obtain ⟨v9, σ7, hcl, hS8, H⟩ := H
      refine e_scall (w1 := (some (.int v9), σ7)) d_242_77 kc_242_77 rfl ⟨Nat.le_of_ble_eq_true rfl, xx_242.symm⟩ rfl hcl ?_
      show Ev 242 80 [.ref 59, .int x1, .int x2, .int x3, z4] [.int v9, .int v6] σ7 w
      refine e_isub d_242_80 rfl ?_
      refine e_istore (ls2 := [.ref 59, .int x1, .int x2, .int x3, .int (v6 - v9)]) d_242_81 rfl rfl rfl ?_
      refine e_iload d_242_83 rfl rfl ?_
      refine e_if_lt (t := 104) d_242_85 (by decide) rfl (fun hc => ?_) (fun hc => ?_)
      · replace H := H.1 hc
        refine e_iload_n d_242_104 rfl rfl ?_
        refine e_istore_n (ls2 := [.ref 59, .int x1, .int x3, .int x3, .int (v6 - v9)]) d_242_105 rfl rfl rfl ?_
        exact H
      · replace H := H.2 hc
        refine e_iload d_242_88 rfl rfl ?_
        refine e_if_ne (t := 106) d_242_90 (by decide) rfl (fun hc => ?_) (fun hc => ?_)
        · replace H := H.2 hc
          exact H
        · replace H := H.1 hc
          refine e_iload_n d_242_93 rfl rfl ?_
          obtain ⟨v12, σ10, hcl, hS11, H⟩ := H
          refine e_scall (w1 := (some (.int v12), σ10)) d_242_94 kc_242_94 rfl ⟨Nat.le_of_ble_eq_true rfl, xx_242.symm⟩ rfl hcl ?_
          show Ev 242 97 [.ref 59, .int x1, .int x2, .int x3, .int (v6 - v9)] [.int v12] σ10 w
          refine e_iload_n d_242_97 rfl rfl ?_
          obtain ⟨v15, σ13, hcl, hS14, H⟩ := H
          refine e_scall (w1 := (some (.int v15), σ13)) d_242_98 kc_242_98 rfl ⟨Nat.le_of_ble_eq_true rfl, xx_242.symm⟩ rfl hcl ?_
          show Ev 242 101 [.ref 59, .int x1, .int x2, .int x3, .int (v6 - v9)] [.int v15, .int v12] σ13 w
          refine e_icmp_ge (t := 106) d_242_101 (by decide) rfl (fun hc => ?_) (fun hc => ?_)
          · replace H := H.2 hc
            exact H
          · replace H := H.1 hc
            refine e_iload_n d_242_104 rfl rfl ?_
            refine e_istore_n (ls2 := [.ref 59, .int x1, .int x3, .int x3, .int (v6 - v9)]) d_242_105 rfl rfl rfl ?_
            exact H
    · replace H := H.2 hc
      refine e_goto (t := 106) d_242_45 (by decide) ?_
      exact H
theorem b_242_106 {t : Nat} {σ : Mm} {w : Option Value × Mm} {x1 : Int32} {x2 : Int32} {x3 : Int32} {z4 : Value} (hS : Sg t σ) 
    (H : Ev 242 24 [.ref 59, .int x1, .int x2, .int (x3 + 1), z4] [] σ w) :
    Ev 242 106 [.ref 59, .int x1, .int x2, .int x3, z4] [] σ w := by
  refine e_iinc (ls2 := [.ref 59, .int x1, .int x2, .int (x3 + 1), z4]) d_242_106 rfl ci_1 rfl rfl rfl ?_
  refine e_goto (t := 24) d_242_109 (by decide) ?_
  exact H
/-! X9_twins -/
theorem b_243_0 {t : Nat} {σ : Mm} {w : Option Value × Mm} {x1 : Int32} (hS : Sg t σ) 
    (H : ∃ (v3 : Int32) (σ1 : Mm), Cl 199 [.ref 59, .int x1] (uI σ 59 2 0) (some (.int v3), σ1) ∧ Sg t σ1 ∧ ((v3 = 0 → (w = (some (.int (-1)), σ1))) ∧ (¬ (v3 = 0) → (∃ (σ4 : Mm), Cl 226 [.ref 59] σ1 (none, σ4) ∧ Sg t σ4 ∧ Ev 243 23 [.ref 59, .int x1, .int 0, .int 0] [] σ4 w)))) :
    Ev 243 0 [.ref 59, .int x1, .retAddr 0, .retAddr 0] [] σ w := by
  refine e_aload_n d_243_0 rfl rfl ?_
  refine e_iconst d_243_1 ci_0 rfl ?_
  refine e_putI d_243_2 oo_243 pF_9_142 (Or.inl rfl) (hS.k rfl) rfl ?_
  refine e_aload_n d_243_5 rfl rfl ?_
  refine e_iload_n d_243_6 rfl rfl ?_
  obtain ⟨v3, σ1, hcl, hS2, H⟩ := H
  refine e_vcall (w1 := (some (.int v3), σ1)) d_243_7 kc_243_7 rfl ⟨Nat.le_of_ble_eq_true rfl, xx_243.symm⟩ rfl hcl ?_
  show Ev 243 10 [.ref 59, .int x1, .retAddr 0, .retAddr 0] [.int v3] σ1 w
  refine e_if_ne (t := 15) d_243_10 (by decide) rfl (fun hc => ?_) (fun hc => ?_)
  · replace H := H.2 hc
    refine e_aload_n d_243_15 rfl rfl ?_
    obtain ⟨σ4, hcl, hS5, H⟩ := H
    refine e_vcall (w1 := (none, σ4)) d_243_16 kc_243_16 rfl ⟨Nat.le_of_ble_eq_true rfl, xx_243.symm⟩ rfl hcl ?_
    show Ev 243 19 [.ref 59, .int x1, .retAddr 0, .retAddr 0] [] σ4 w
    refine e_iconst d_243_19 ci_0 rfl ?_
    refine e_istore_n (ls2 := [.ref 59, .int x1, .int 0, .retAddr 0]) d_243_20 rfl rfl rfl ?_
    refine e_iconst d_243_21 ci_0 rfl ?_
    refine e_istore_n (ls2 := [.ref 59, .int x1, .int 0, .int 0]) d_243_22 rfl rfl rfl ?_
    exact H
  · replace H := H.1 hc
    refine e_iconst d_243_13 ci_m1 rfl ?_
    subst H
    exact e_iret d_243_14 rr_243
theorem b_243_23 {t : Nat} {σ : Mm} {w : Option Value × Mm} {x1 : Int32} {x2 : Int32} {x3 : Int32} (hS : Sg t σ) 
    (H : (x3 < (mI σ 59 12) → ((x3 = x1 → Ev 243 23 [.ref 59, .int x1, .int (x2 ||| 0), .int (x3 + 1)] [] σ w) ∧ (¬ (x3 = x1) → (∃ (v3 : Int32) (σ1 : Mm), Cl 204 [.ref 59, .int 0, .int x3, .int (mI σ 59 65)] σ (some (.int v3), σ1) ∧ Sg t σ1 ∧ (∃ (v6 : Int32) (σ4 : Mm), Cl 204 [.ref 59, .int 0, .int x1, .int (mI σ1 59 65)] σ1 (some (.int v6), σ4) ∧ Sg t σ4 ∧ ((v3 = v6 → Ev 243 23 [.ref 59, .int x1, .int (x2 ||| ((1 : Int32) <<< (x3 &&& 31))), .int (x3 + 1)] [] σ4 w) ∧ (¬ (v3 = v6) → Ev 243 23 [.ref 59, .int x1, .int (x2 ||| 0), .int (x3 + 1)] [] σ4 w))))))) ∧ (¬ (x3 < (mI σ 59 12)) → (w = (some (.int x2), σ)))) :
    Ev 243 23 [.ref 59, .int x1, .int x2, .int x3] [] σ w := by
  refine e_iload_n d_243_23 rfl rfl ?_
  refine e_aload_n d_243_24 rfl rfl ?_
  refine e_getI d_243_25 oo_243 pF_9_222 (by decide) (hS.k rfl) rfl ?_
  refine e_icmp_ge (t := 75) d_243_28 (by decide) rfl (fun hc => ?_) (fun hc => ?_)
  · replace H := H.2 hc
    refine e_iload_n d_243_75 rfl rfl ?_
    subst H
    exact e_iret d_243_76 rr_243
  · replace H := H.1 hc
    refine e_iload_n d_243_31 rfl rfl ?_
    refine e_iload_n d_243_32 rfl rfl ?_
    refine e_iload_n d_243_33 rfl rfl ?_
    refine e_icmp_eq (t := 66) d_243_34 (by decide) rfl (fun hc => ?_) (fun hc => ?_)
    · replace H := H.1 hc
      refine e_iconst d_243_66 ci_0 rfl ?_
      refine e_ior d_243_67 rfl ?_
      refine e_istore_n (ls2 := [.ref 59, .int x1, .int (x2 ||| 0), .int x3]) d_243_68 rfl rfl rfl ?_
      refine e_iinc (ls2 := [.ref 59, .int x1, .int (x2 ||| 0), .int (x3 + 1)]) d_243_69 rfl ci_1 rfl rfl rfl ?_
      refine e_goto (t := 23) d_243_72 (by decide) ?_
      exact H
    · replace H := H.2 hc
      refine e_aload_n d_243_37 rfl rfl ?_
      refine e_iconst d_243_38 ci_0 rfl ?_
      refine e_iload_n d_243_39 rfl rfl ?_
      refine e_aload_n d_243_40 rfl rfl ?_
      refine e_getI d_243_41 oo_243 pF_9_459 (by decide) (hS.k rfl) rfl ?_
      obtain ⟨v3, σ1, hcl, hS2, H⟩ := H
      refine e_vcall (w1 := (some (.int v3), σ1)) d_243_44 kc_243_44 rfl ⟨Nat.le_of_ble_eq_true rfl, xx_243.symm⟩ rfl hcl ?_
      show Ev 243 47 [.ref 59, .int x1, .int x2, .int x3] [.int v3, .int x2] σ1 w
      refine e_aload_n d_243_47 rfl rfl ?_
      refine e_iconst d_243_48 ci_0 rfl ?_
      refine e_iload_n d_243_49 rfl rfl ?_
      refine e_aload_n d_243_50 rfl rfl ?_
      refine e_getI d_243_51 oo_243 pF_9_459 (by decide) (hS2.k rfl) rfl ?_
      obtain ⟨v6, σ4, hcl, hS5, H⟩ := H
      refine e_vcall (w1 := (some (.int v6), σ4)) d_243_54 kc_243_54 rfl ⟨Nat.le_of_ble_eq_true rfl, xx_243.symm⟩ rfl hcl ?_
      show Ev 243 57 [.ref 59, .int x1, .int x2, .int x3] [.int v6, .int v3, .int x2] σ4 w
      refine e_icmp_ne (t := 66) d_243_57 (by decide) rfl (fun hc => ?_) (fun hc => ?_)
      · replace H := H.2 hc
        refine e_iconst d_243_66 ci_0 rfl ?_
        refine e_ior d_243_67 rfl ?_
        refine e_istore_n (ls2 := [.ref 59, .int x1, .int (x2 ||| 0), .int x3]) d_243_68 rfl rfl rfl ?_
        refine e_iinc (ls2 := [.ref 59, .int x1, .int (x2 ||| 0), .int (x3 + 1)]) d_243_69 rfl ci_1 rfl rfl rfl ?_
        refine e_goto (t := 23) d_243_72 (by decide) ?_
        exact H
      · replace H := H.1 hc
        refine e_iconst d_243_60 ci_1 rfl ?_
        refine e_iload_n d_243_61 rfl rfl ?_
        refine e_ishl d_243_62 rfl ?_
        refine e_goto (t := 67) d_243_63 (by decide) ?_
        refine e_ior d_243_67 rfl ?_
        refine e_istore_n (ls2 := [.ref 59, .int x1, .int (x2 ||| ((1 : Int32) <<< (x3 &&& 31))), .int x3]) d_243_68 rfl rfl rfl ?_
        refine e_iinc (ls2 := [.ref 59, .int x1, .int (x2 ||| ((1 : Int32) <<< (x3 &&& 31))), .int (x3 + 1)]) d_243_69 rfl ci_1 rfl rfl rfl ?_
        refine e_goto (t := 23) d_243_72 (by decide) ?_
        exact H
/-! X9_fixed -/
theorem b_244_0 {t : Nat} {σ : Mm} {w : Option Value × Mm}  (hS : Sg t σ) 
    (H : ∃ (σ1 : Mm), Cl 226 [.ref 59] (uI σ 59 2 0) (none, σ1) ∧ Sg t σ1 ∧ Ev 244 13 [.ref 59, .int 0, .int 0] [] σ1 w) :
    Ev 244 0 [.ref 59, .retAddr 0, .retAddr 0] [] σ w := by
  refine e_aload_n d_244_0 rfl rfl ?_
  refine e_iconst d_244_1 ci_0 rfl ?_
  refine e_putI d_244_2 oo_244 pF_9_142 (Or.inl rfl) (hS.k rfl) rfl ?_
  refine e_aload_n d_244_5 rfl rfl ?_
  obtain ⟨σ1, hcl, hS2, H⟩ := H
  refine e_vcall (w1 := (none, σ1)) d_244_6 kc_244_6 rfl ⟨Nat.le_of_ble_eq_true rfl, xx_244.symm⟩ rfl hcl ?_
  show Ev 244 9 [.ref 59, .retAddr 0, .retAddr 0] [] σ1 w
  refine e_iconst d_244_9 ci_0 rfl ?_
  refine e_istore_n (ls2 := [.ref 59, .int 0, .retAddr 0]) d_244_10 rfl rfl rfl ?_
  refine e_iconst d_244_11 ci_0 rfl ?_
  refine e_istore_n (ls2 := [.ref 59, .int 0, .int 0]) d_244_12 rfl rfl rfl ?_
  exact H
theorem b_244_13 {t : Nat} {σ : Mm} {w : Option Value × Mm} {x1 : Int32} {x2 : Int32} (hS : Sg t σ) 
    (H : (x2 < (mI σ 59 12) → (∃ (v3 : Int32) (σ1 : Mm), Cl 204 [.ref 59, .int 0, .int x2, .int (mI σ 59 65)] σ (some (.int v3), σ1) ∧ Sg t σ1 ∧ ((v3 = 0 → Ev 244 13 [.ref 59, .int (x1 ||| ((1 : Int32) <<< (x2 &&& 31))), .int (x2 + 1)] [] σ1 w) ∧ (¬ (v3 = 0) → Ev 244 13 [.ref 59, .int (x1 ||| 0), .int (x2 + 1)] [] σ1 w)))) ∧ (¬ (x2 < (mI σ 59 12)) → (w = (some (.int x1), σ)))) :
    Ev 244 13 [.ref 59, .int x1, .int x2] [] σ w := by
  refine e_iload_n d_244_13 rfl rfl ?_
  refine e_aload_n d_244_14 rfl rfl ?_
  refine e_getI d_244_15 oo_244 pF_9_222 (by decide) (hS.k rfl) rfl ?_
  refine e_icmp_ge (t := 50) d_244_18 (by decide) rfl (fun hc => ?_) (fun hc => ?_)
  · replace H := H.2 hc
    refine e_iload_n d_244_50 rfl rfl ?_
    subst H
    exact e_iret d_244_51 rr_244
  · replace H := H.1 hc
    refine e_iload_n d_244_21 rfl rfl ?_
    refine e_aload_n d_244_22 rfl rfl ?_
    refine e_iconst d_244_23 ci_0 rfl ?_
    refine e_iload_n d_244_24 rfl rfl ?_
    refine e_aload_n d_244_25 rfl rfl ?_
    refine e_getI d_244_26 oo_244 pF_9_459 (by decide) (hS.k rfl) rfl ?_
    obtain ⟨v3, σ1, hcl, hS2, H⟩ := H
    refine e_vcall (w1 := (some (.int v3), σ1)) d_244_29 kc_244_29 rfl ⟨Nat.le_of_ble_eq_true rfl, xx_244.symm⟩ rfl hcl ?_
    show Ev 244 32 [.ref 59, .int x1, .int x2] [.int v3, .int x1] σ1 w
    refine e_if_ne (t := 41) d_244_32 (by decide) rfl (fun hc => ?_) (fun hc => ?_)
    · replace H := H.2 hc
      refine e_iconst d_244_41 ci_0 rfl ?_
      refine e_ior d_244_42 rfl ?_
      refine e_istore_n (ls2 := [.ref 59, .int (x1 ||| 0), .int x2]) d_244_43 rfl rfl rfl ?_
      refine e_iinc (ls2 := [.ref 59, .int (x1 ||| 0), .int (x2 + 1)]) d_244_44 rfl ci_1 rfl rfl rfl ?_
      refine e_goto (t := 13) d_244_47 (by decide) ?_
      exact H
    · replace H := H.1 hc
      refine e_iconst d_244_35 ci_1 rfl ?_
      refine e_iload_n d_244_36 rfl rfl ?_
      refine e_ishl d_244_37 rfl ?_
      refine e_goto (t := 42) d_244_38 (by decide) ?_
      refine e_ior d_244_42 rfl ?_
      refine e_istore_n (ls2 := [.ref 59, .int (x1 ||| ((1 : Int32) <<< (x2 &&& 31))), .int x2]) d_244_43 rfl rfl rfl ?_
      refine e_iinc (ls2 := [.ref 59, .int (x1 ||| ((1 : Int32) <<< (x2 &&& 31))), .int (x2 + 1)]) d_244_44 rfl ci_1 rfl rfl rfl ?_
      refine e_goto (t := 13) d_244_47 (by decide) ?_
      exact H
/-! X9_rankBy -/
theorem b_245_0 {t : Nat} {σ : Mm} {w : Option Value × Mm}  (hS : Sg t σ) 
    (H : Ev 245 4 [.ref 59, .int 0, .int 0, .retAddr 0, .retAddr 0] [] σ w) :
    Ev 245 0 [.ref 59, .retAddr 0, .retAddr 0, .retAddr 0, .retAddr 0] [] σ w := by
  refine e_iconst d_245_0 ci_0 rfl ?_
  refine e_istore_n (ls2 := [.ref 59, .int 0, .retAddr 0, .retAddr 0, .retAddr 0]) d_245_1 rfl rfl rfl ?_
  refine e_iconst d_245_2 ci_0 rfl ?_
  refine e_istore_n (ls2 := [.ref 59, .int 0, .int 0, .retAddr 0, .retAddr 0]) d_245_3 rfl rfl rfl ?_
  exact H
theorem b_245_4 {t : Nat} {σ : Mm} {w : Option Value × Mm} {x1 : Int32} {x2 : Int32} {z3 : Value} {z4 : Value} (hS : Sg t σ) 
    (H : (x2 < 14 → (inb x2 14 = true ∧ Ev 245 4 [.ref 59, .int x1, .int (x2 + 1), z3, z4] [] (uI σ 92 x2.toNatClampNeg 0) w)) ∧ (¬ (x2 < 14) → Ev 245 25 [.ref 59, .int x1, .int 0, z3, z4] [] σ w)) :
    Ev 245 4 [.ref 59, .int x1, .int x2, z3, z4] [] σ w := by
  refine e_iload_n d_245_4 rfl rfl ?_
  refine e_bipush d_245_5 cb_14 rfl ?_
  refine e_icmp_ge (t := 23) d_245_7 (by decide) rfl (fun hc => ?_) (fun hc => ?_)
  · replace H := H.2 hc
    refine e_iconst d_245_23 ci_0 rfl ?_
    refine e_istore_n (ls2 := [.ref 59, .int x1, .int 0, z3, z4]) d_245_24 rfl rfl rfl ?_
    exact H
  · replace H := H.1 hc
    refine e_aload_n d_245_10 rfl rfl ?_
    refine e_getR d_245_11 oo_245 pF_9_112 (by decide) (hS.k rfl) (hS.r rt_59_66) rfl ?_
    refine e_iload_n d_245_14 rfl rfl ?_
    refine e_iconst d_245_15 ci_0 rfl ?_
    obtain ⟨hb, H⟩ := H
    refine e_iastore d_245_16 (okI_at (hS.k rfl) hb) rfl ?_
    refine e_iinc (ls2 := [.ref 59, .int x1, .int (x2 + 1), z3, z4]) d_245_17 rfl ci_1 rfl rfl rfl ?_
    refine e_goto (t := 4) d_245_20 (by decide) ?_
    exact H
theorem b_245_25 {t : Nat} {σ : Mm} {w : Option Value × Mm} {x1 : Int32} {x2 : Int32} {z3 : Value} {z4 : Value} (hS : Sg t σ) 
    (H : (x2 < (mI σ 59 13) → (∃ (v3 : Int32) (σ1 : Mm), Cl 153 [.int (mI σ 84 0), .int x2] σ (some (.int v3), σ1) ∧ Sg t σ1 ∧ ((v3 = 0 → (inb x2 20 = true ∧ Ev 245 61 [.ref 59, .int x1, .int x2, .int (mI σ1 89 x2.toNatClampNeg), .int 13] [] σ1 w)) ∧ (¬ (v3 = 0) → Ev 245 61 [.ref 59, .int x1, .int x2, .int 0, .int 13] [] σ1 w)))) ∧ (¬ (x2 < (mI σ 59 13)) → (w = (some (.int x1), σ)))) :
    Ev 245 25 [.ref 59, .int x1, .int x2, z3, z4] [] σ w := by
  refine e_iload_n d_245_25 rfl rfl ?_
  refine e_aload_n d_245_26 rfl rfl ?_
  refine e_getI d_245_27 oo_245 pF_9_225 (by decide) (hS.k rfl) rfl ?_
  refine e_icmp_ge (t := 130) d_245_30 (by decide) rfl (fun hc => ?_) (fun hc => ?_)
  · replace H := H.2 hc
    refine e_iload_n d_245_130 rfl rfl ?_
    subst H
    exact e_iret d_245_131 rr_245
  · replace H := H.1 hc
    refine e_aload_n d_245_33 rfl rfl ?_
    refine e_getR d_245_34 oo_245 pF_9_88 (by decide) (hS.k rfl) (hS.r rt_59_51) rfl ?_
    refine e_iconst d_245_37 ci_0 rfl ?_
    refine e_iaload (v := (mI σ 84 0)) d_245_38 (rdI_at (hS.k rfl) rfl) rfl ?_
    refine e_iload_n d_245_39 rfl rfl ?_
    obtain ⟨v3, σ1, hcl, hS2, H⟩ := H
    refine e_scall (w1 := (some (.int v3), σ1)) d_245_40 kc_245_40 rfl ⟨Nat.le_of_ble_eq_true rfl, xx_245.symm⟩ rfl hcl ?_
    show Ev 245 43 [.ref 59, .int x1, .int x2, z3, z4] [.int v3] σ1 w
    refine e_if_eq (t := 50) d_245_43 (by decide) rfl (fun hc => ?_) (fun hc => ?_)
    · replace H := H.1 hc
      refine e_aload_n d_245_50 rfl rfl ?_
      refine e_getR d_245_51 oo_245 pF_9_103 (by decide) (hS2.k rfl) (hS2.r rt_59_56) rfl ?_
      refine e_iload_n d_245_54 rfl rfl ?_
      obtain ⟨hb, H⟩ := H
      refine e_iaload (v := (mI σ1 89 x2.toNatClampNeg)) d_245_55 (rdI_at (hS2.k rfl) hb) rfl ?_
      refine e_istore_n (ls2 := [.ref 59, .int x1, .int x2, .int (mI σ1 89 x2.toNatClampNeg), z4]) d_245_56 rfl rfl rfl ?_
      refine e_bipush d_245_57 cb_13 rfl ?_
      refine e_istore (ls2 := [.ref 59, .int x1, .int x2, .int (mI σ1 89 x2.toNatClampNeg), .int 13]) d_245_59 rfl rfl rfl ?_
      exact H
    · replace H := H.2 hc
      refine e_iconst d_245_46 ci_0 rfl ?_
      refine e_goto (t := 56) d_245_47 (by decide) ?_
      refine e_istore_n (ls2 := [.ref 59, .int x1, .int x2, .int 0, z4]) d_245_56 rfl rfl rfl ?_
      refine e_bipush d_245_57 cb_13 rfl ?_
      refine e_istore (ls2 := [.ref 59, .int x1, .int x2, .int 0, .int 13]) d_245_59 rfl rfl rfl ?_
      exact H
theorem b_245_61 {t : Nat} {σ : Mm} {w : Option Value × Mm} {x1 : Int32} {x2 : Int32} {x3 : Int32} {x4 : Int32} (hS : Sg t σ) 
    (H : (x4 < 0 → Ev 245 25 [.ref 59, .int x1, .int (x2 + 1), .int x3, .int x4] [] σ w) ∧ (¬ (x4 < 0) → ((x3 = 0 → Ev 245 25 [.ref 59, .int x1, .int (x2 + 1), .int x3, .int x4] [] σ w) ∧ (¬ (x3 = 0) → (∃ (v3 : Int32) (σ1 : Mm), Cl 153 [.int x3, .int x4] σ (some (.int v3), σ1) ∧ Sg t σ1 ∧ ((v3 = 0 → Ev 245 61 [.ref 59, .int x1, .int x2, .int x3, .int (x4 + (-1))] [] σ1 w) ∧ (¬ (v3 = 0) → (inb x4 14 = true ∧ (((mI σ1 92 x4.toNatClampNeg) = 0 → (inb x4 14 = true ∧ Ev 245 61 [.ref 59, .int (x1 + 1), .int x2, .int 0, .int (x4 + (-1))] [] (uI σ1 92 x4.toNatClampNeg x3) w)) ∧ (¬ ((mI σ1 92 x4.toNatClampNeg) = 0) → (inb x4 14 = true ∧ Ev 245 61 [.ref 59, .int x1, .int x2, .int (x3 ^^^ (mI σ1 92 x4.toNatClampNeg)), .int (x4 + (-1))] [] σ1 w))))))))))) :
    Ev 245 61 [.ref 59, .int x1, .int x2, .int x3, .int x4] [] σ w := by
  refine e_iload d_245_61 rfl rfl ?_
  refine e_if_lt (t := 124) d_245_63 (by decide) rfl (fun hc => ?_) (fun hc => ?_)
  · replace H := H.1 hc
    refine e_iinc (ls2 := [.ref 59, .int x1, .int (x2 + 1), .int x3, .int x4]) d_245_124 rfl ci_1 rfl rfl rfl ?_
    refine e_goto (t := 25) d_245_127 (by decide) ?_
    exact H
  · replace H := H.2 hc
    refine e_iload_n d_245_66 rfl rfl ?_
    refine e_if_eq (t := 124) d_245_67 (by decide) rfl (fun hc => ?_) (fun hc => ?_)
    · replace H := H.1 hc
      refine e_iinc (ls2 := [.ref 59, .int x1, .int (x2 + 1), .int x3, .int x4]) d_245_124 rfl ci_1 rfl rfl rfl ?_
      refine e_goto (t := 25) d_245_127 (by decide) ?_
      exact H
    · replace H := H.2 hc
      refine e_iload_n d_245_70 rfl rfl ?_
      refine e_iload d_245_71 rfl rfl ?_
      obtain ⟨v3, σ1, hcl, hS2, H⟩ := H
      refine e_scall (w1 := (some (.int v3), σ1)) d_245_73 kc_245_73 rfl ⟨Nat.le_of_ble_eq_true rfl, xx_245.symm⟩ rfl hcl ?_
      show Ev 245 76 [.ref 59, .int x1, .int x2, .int x3, .int x4] [.int v3] σ1 w
      refine e_if_ne (t := 82) d_245_76 (by decide) rfl (fun hc => ?_) (fun hc => ?_)
      · replace H := H.2 hc
        refine e_aload_n d_245_82 rfl rfl ?_
        refine e_getR d_245_83 oo_245 pF_9_112 (by decide) (hS2.k rfl) (hS2.r rt_59_66) rfl ?_
        refine e_iload d_245_86 rfl rfl ?_
        obtain ⟨hb, H⟩ := H
        refine e_iaload (v := (mI σ1 92 x4.toNatClampNeg)) d_245_88 (rdI_at (hS2.k rfl) hb) rfl ?_
        refine e_if_ne (t := 108) d_245_89 (by decide) rfl (fun hc => ?_) (fun hc => ?_)
        · replace H := H.2 hc
          refine e_iload_n d_245_108 rfl rfl ?_
          refine e_aload_n d_245_109 rfl rfl ?_
          refine e_getR d_245_110 oo_245 pF_9_112 (by decide) (hS2.k rfl) (hS2.r rt_59_66) rfl ?_
          refine e_iload d_245_113 rfl rfl ?_
          obtain ⟨hb, H⟩ := H
          refine e_iaload (v := (mI σ1 92 x4.toNatClampNeg)) d_245_115 (rdI_at (hS2.k rfl) hb) rfl ?_
          refine e_ixor d_245_116 rfl ?_
          refine e_istore_n (ls2 := [.ref 59, .int x1, .int x2, .int (x3 ^^^ (mI σ1 92 x4.toNatClampNeg)), .int x4]) d_245_117 rfl rfl rfl ?_
          refine e_iinc (ls2 := [.ref 59, .int x1, .int x2, .int (x3 ^^^ (mI σ1 92 x4.toNatClampNeg)), .int (x4 + (-1))]) d_245_118 rfl ci_m1 rfl rfl rfl ?_
          refine e_goto (t := 61) d_245_121 (by decide) ?_
          exact H
        · replace H := H.1 hc
          refine e_aload_n d_245_92 rfl rfl ?_
          refine e_getR d_245_93 oo_245 pF_9_112 (by decide) (hS2.k rfl) (hS2.r rt_59_66) rfl ?_
          refine e_iload d_245_96 rfl rfl ?_
          refine e_iload_n d_245_98 rfl rfl ?_
          obtain ⟨hb, H⟩ := H
          refine e_iastore d_245_99 (okI_at (hS2.k rfl) hb) rfl ?_
          refine e_iinc (ls2 := [.ref 59, .int (x1 + 1), .int x2, .int x3, .int x4]) d_245_100 rfl ci_1 rfl rfl rfl ?_
          refine e_iconst d_245_103 ci_0 rfl ?_
          refine e_istore_n (ls2 := [.ref 59, .int (x1 + 1), .int x2, .int 0, .int x4]) d_245_104 rfl rfl rfl ?_
          refine e_goto (t := 118) d_245_105 (by decide) ?_
          refine e_iinc (ls2 := [.ref 59, .int (x1 + 1), .int x2, .int 0, .int (x4 + (-1))]) d_245_118 rfl ci_m1 rfl rfl rfl ?_
          refine e_goto (t := 61) d_245_121 (by decide) ?_
          exact H
      · replace H := H.1 hc
        refine e_goto (t := 118) d_245_79 (by decide) ?_
        refine e_iinc (ls2 := [.ref 59, .int x1, .int x2, .int x3, .int (x4 + (-1))]) d_245_118 rfl ci_m1 rfl rfl rfl ?_
        refine e_goto (t := 61) d_245_121 (by decide) ?_
        exact H
/-! X9_knot -/
theorem b_246_0 {t : Nat} {σ : Mm} {w : Option Value × Mm} {x1 : Int32} (hS : Sg t σ) 
    (H : ∃ (v3 : Int32) (σ1 : Mm), Cl 152 [.int x1, .int 0, .int 1] (uI σ 59 2 0) (some (.int v3), σ1) ∧ Sg t σ1 ∧ ((v3 = 0 → (w = (some (.int (-1)), σ1))) ∧ (¬ (v3 = 0) → (∃ (v6 : Int32) (σ4 : Mm), Cl 245 [.ref 59] σ1 (some (.int v6), σ4) ∧ Sg t σ4 ∧ Ev 246 23 [.ref 59, .int x1, .int v6, .int 0, .retAddr 0, .retAddr 0] [] σ4 w)))) :
    Ev 246 0 [.ref 59, .int x1, .retAddr 0, .retAddr 0, .retAddr 0, .retAddr 0] [] σ w := by
  refine e_aload_n d_246_0 rfl rfl ?_
  refine e_iconst d_246_1 ci_0 rfl ?_
  refine e_putI d_246_2 oo_246 pF_9_142 (Or.inl rfl) (hS.k rfl) rfl ?_
  refine e_iload_n d_246_5 rfl rfl ?_
  refine e_iconst d_246_6 ci_0 rfl ?_
  refine e_iconst d_246_7 ci_1 rfl ?_
  obtain ⟨v3, σ1, hcl, hS2, H⟩ := H
  refine e_scall (w1 := (some (.int v3), σ1)) d_246_8 kc_246_8 rfl ⟨Nat.le_of_ble_eq_true rfl, xx_246.symm⟩ rfl hcl ?_
  show Ev 246 11 [.ref 59, .int x1, .retAddr 0, .retAddr 0, .retAddr 0, .retAddr 0] [.int v3] σ1 w
  refine e_if_ne (t := 16) d_246_11 (by decide) rfl (fun hc => ?_) (fun hc => ?_)
  · replace H := H.2 hc
    refine e_aload_n d_246_16 rfl rfl ?_
    obtain ⟨v6, σ4, hcl, hS5, H⟩ := H
    refine e_vcall (w1 := (some (.int v6), σ4)) d_246_17 kc_246_17 rfl ⟨Nat.le_of_ble_eq_true rfl, xx_246.symm⟩ rfl hcl ?_
    show Ev 246 20 [.ref 59, .int x1, .retAddr 0, .retAddr 0, .retAddr 0, .retAddr 0] [.int v6] σ4 w
    refine e_istore_n (ls2 := [.ref 59, .int x1, .int v6, .retAddr 0, .retAddr 0, .retAddr 0]) d_246_20 rfl rfl rfl ?_
    refine e_iconst d_246_21 ci_0 rfl ?_
    refine e_istore_n (ls2 := [.ref 59, .int x1, .int v6, .int 0, .retAddr 0, .retAddr 0]) d_246_22 rfl rfl rfl ?_
    exact H
  · replace H := H.1 hc
    refine e_iconst d_246_14 ci_m1 rfl ?_
    subst H
    exact e_iret d_246_15 rr_246
theorem b_246_23 {t : Nat} {σ : Mm} {w : Option Value × Mm} {x1 : Int32} {x2 : Int32} {x3 : Int32} {z4 : Value} {z5 : Value} (hS : Sg t σ) 
    (H : (x3 < (mI σ 59 13) → (∃ (v3 : Int32) (σ1 : Mm), Cl 153 [.int (mI σ 84 0), .int x3] σ (some (.int v3), σ1) ∧ Sg t σ1 ∧ ((v3 = 0 → Ev 246 50 [.ref 59, .int x1, .int x2, .int x3, .int 0, z5] [] σ1 w) ∧ (¬ (v3 = 0) → Ev 246 23 [.ref 59, .int x1, .int x2, .int (x3 + 1), z4, z5] [] σ1 w)))) ∧ (¬ (x3 < (mI σ 59 13)) → (w = (some (.int (-2)), σ)))) :
    Ev 246 23 [.ref 59, .int x1, .int x2, .int x3, z4, z5] [] σ w := by
  refine e_iload_n d_246_23 rfl rfl ?_
  refine e_aload_n d_246_24 rfl rfl ?_
  refine e_getI d_246_25 oo_246 pF_9_225 (by decide) (hS.k rfl) rfl ?_
  refine e_icmp_ge (t := 120) d_246_28 (by decide) rfl (fun hc => ?_) (fun hc => ?_)
  · replace H := H.2 hc
    refine e_bipush d_246_120 cb_m2 rfl ?_
    subst H
    exact e_iret d_246_122 rr_246
  · replace H := H.1 hc
    refine e_aload_n d_246_31 rfl rfl ?_
    refine e_getR d_246_32 oo_246 pF_9_88 (by decide) (hS.k rfl) (hS.r rt_59_51) rfl ?_
    refine e_iconst d_246_35 ci_0 rfl ?_
    refine e_iaload (v := (mI σ 84 0)) d_246_36 (rdI_at (hS.k rfl) rfl) rfl ?_
    refine e_iload_n d_246_37 rfl rfl ?_
    obtain ⟨v3, σ1, hcl, hS2, H⟩ := H
    refine e_scall (w1 := (some (.int v3), σ1)) d_246_38 kc_246_38 rfl ⟨Nat.le_of_ble_eq_true rfl, xx_246.symm⟩ rfl hcl ?_
    show Ev 246 41 [.ref 59, .int x1, .int x2, .int x3, z4, z5] [.int v3] σ1 w
    refine e_if_eq (t := 47) d_246_41 (by decide) rfl (fun hc => ?_) (fun hc => ?_)
    · replace H := H.1 hc
      refine e_iconst d_246_47 ci_0 rfl ?_
      refine e_istore (ls2 := [.ref 59, .int x1, .int x2, .int x3, .int 0, z5]) d_246_48 rfl rfl rfl ?_
      exact H
    · replace H := H.2 hc
      refine e_goto (t := 114) d_246_44 (by decide) ?_
      refine e_iinc (ls2 := [.ref 59, .int x1, .int x2, .int (x3 + 1), z4, z5]) d_246_114 rfl ci_1 rfl rfl rfl ?_
      refine e_goto (t := 23) d_246_117 (by decide) ?_
      exact H
theorem b_246_50 {t : Nat} {σ : Mm} {w : Option Value × Mm} {x1 : Int32} {x2 : Int32} {x3 : Int32} {x4 : Int32} {z5 : Value} (hS : Sg t σ) 
    (H : (x4 < (mI σ 59 12) → (inb x3 20 = true ∧ (inb x3 20 = true ∧ (∀ (σ1 : Mm), σ1 = uI σ 89 x3.toNatClampNeg ((mI σ 89 x3.toNatClampNeg) ^^^ ((1 : Int32) <<< (x4 &&& 31))) → (∃ (v6 : Int32) (σ4 : Mm), Cl 245 [.ref 59] σ1 (some (.int v6), σ4) ∧ Sg t σ4 ∧ (inb x3 20 = true ∧ (inb x3 20 = true ∧ (∀ (σ7 : Mm), σ7 = uI σ4 89 x3.toNatClampNeg ((mI σ4 89 x3.toNatClampNeg) ^^^ ((1 : Int32) <<< (x4 &&& 31))) → ((x2 < v6 → ((x1 = 0 → (w = (some (.int x3), σ7))) ∧ (¬ (x1 = 0) → (w = (some (.int x4), σ7))))) ∧ (¬ (x2 < v6) → Ev 246 50 [.ref 59, .int x1, .int x2, .int x3, .int (x4 + 1), .int v6] [] σ7 w)))))))))) ∧ (¬ (x4 < (mI σ 59 12)) → Ev 246 23 [.ref 59, .int x1, .int x2, .int (x3 + 1), .int x4, z5] [] σ w)) :
    Ev 246 50 [.ref 59, .int x1, .int x2, .int x3, .int x4, z5] [] σ w := by
  refine e_iload d_246_50 rfl rfl ?_
  refine e_aload_n d_246_52 rfl rfl ?_
  refine e_getI d_246_53 oo_246 pF_9_222 (by decide) (hS.k rfl) rfl ?_
  refine e_icmp_ge (t := 114) d_246_56 (by decide) rfl (fun hc => ?_) (fun hc => ?_)
  · replace H := H.2 hc
    refine e_iinc (ls2 := [.ref 59, .int x1, .int x2, .int (x3 + 1), .int x4, z5]) d_246_114 rfl ci_1 rfl rfl rfl ?_
    refine e_goto (t := 23) d_246_117 (by decide) ?_
    exact H
  · replace H := H.1 hc
    refine e_aload_n d_246_59 rfl rfl ?_
    refine e_getR d_246_60 oo_246 pF_9_103 (by decide) (hS.k rfl) (hS.r rt_59_56) rfl ?_
    refine e_iload_n d_246_63 rfl rfl ?_
    refine e_dup2 d_246_64 rfl rfl ?_
    obtain ⟨hb, H⟩ := H
    refine e_iaload (v := (mI σ 89 x3.toNatClampNeg)) d_246_65 (rdI_at (hS.k rfl) hb) rfl ?_
    refine e_iconst d_246_66 ci_1 rfl ?_
    refine e_iload d_246_67 rfl rfl ?_
    refine e_ishl d_246_69 rfl ?_
    refine e_ixor d_246_70 rfl ?_
    obtain ⟨hb, H⟩ := H
    refine e_iastore d_246_71 (okI_at (hS.k rfl) hb) rfl ?_
    generalize hm2 : uI σ 89 x3.toNatClampNeg ((mI σ 89 x3.toNatClampNeg) ^^^ ((1 : Int32) <<< (x4 &&& 31))) = σ1
    have hS3 : Sg t σ1 := by rw [← hm2]; exact hS.uI
    replace H := H σ1 hm2.symm
    refine e_aload_n d_246_72 rfl rfl ?_
    obtain ⟨v6, σ4, hcl, hS5, H⟩ := H
    refine e_vcall (w1 := (some (.int v6), σ4)) d_246_73 kc_246_73 rfl ⟨Nat.le_of_ble_eq_true rfl, xx_246.symm⟩ rfl hcl ?_
    show Ev 246 76 [.ref 59, .int x1, .int x2, .int x3, .int x4, z5] [.int v6] σ4 w
    refine e_istore (ls2 := [.ref 59, .int x1, .int x2, .int x3, .int x4, .int v6]) d_246_76 rfl rfl rfl ?_
    refine e_aload_n d_246_78 rfl rfl ?_
    refine e_getR d_246_79 oo_246 pF_9_103 (by decide) (hS5.k rfl) (hS5.r rt_59_56) rfl ?_
    refine e_iload_n d_246_82 rfl rfl ?_
    refine e_dup2 d_246_83 rfl rfl ?_
    obtain ⟨hb, H⟩ := H
    refine e_iaload (v := (mI σ4 89 x3.toNatClampNeg)) d_246_84 (rdI_at (hS5.k rfl) hb) rfl ?_
    refine e_iconst d_246_85 ci_1 rfl ?_
    refine e_iload d_246_86 rfl rfl ?_
    refine e_ishl d_246_88 rfl ?_
    refine e_ixor d_246_89 rfl ?_
    obtain ⟨hb, H⟩ := H
    refine e_iastore d_246_90 (okI_at (hS5.k rfl) hb) rfl ?_
    generalize hm8 : uI σ4 89 x3.toNatClampNeg ((mI σ4 89 x3.toNatClampNeg) ^^^ ((1 : Int32) <<< (x4 &&& 31))) = σ7
    have hS9 : Sg t σ7 := by rw [← hm8]; exact hS5.uI
    replace H := H σ7 hm8.symm
    refine e_iload d_246_91 rfl rfl ?_
    refine e_iload_n d_246_93 rfl rfl ?_
    refine e_icmp_le (t := 108) d_246_94 (by decide) rfl (fun hc => ?_) (fun hc => ?_)
    · replace H := H.2 hc
      refine e_iinc (ls2 := [.ref 59, .int x1, .int x2, .int x3, .int (x4 + 1), .int v6]) d_246_108 rfl ci_1 rfl rfl rfl ?_
      refine e_goto (t := 50) d_246_111 (by decide) ?_
      exact H
    · replace H := H.1 hc
      refine e_iload_n d_246_97 rfl rfl ?_
      refine e_if_ne (t := 105) d_246_98 (by decide) rfl (fun hc => ?_) (fun hc => ?_)
      · replace H := H.2 hc
        refine e_iload d_246_105 rfl rfl ?_
        subst H
        exact e_iret d_246_107 rr_246
      · replace H := H.1 hc
        refine e_iload_n d_246_101 rfl rfl ?_
        refine e_goto (t := 107) d_246_102 (by decide) ?_
        subst H
        exact e_iret d_246_107 rr_246
/-! X9_apart -/
theorem b_247_0 {t : Nat} {σ : Mm} {w : Option Value × Mm} {x1 : Int32} {x2 : Int32} (hS : Sg t σ) 
    (H : ∃ (v3 : Int32) (σ1 : Mm), Cl 201 [.ref 59, .int x1] (uI σ 59 2 0) (some (.int v3), σ1) ∧ Sg t σ1 ∧ ((v3 = 0 → (w = (some (.int (-1)), σ1))) ∧ (¬ (v3 = 0) → (∃ (v6 : Int32) (σ4 : Mm), Cl 201 [.ref 59, .int x2] σ1 (some (.int v6), σ4) ∧ Sg t σ4 ∧ ((v6 = 0 → (w = (some (.int (-1)), σ4))) ∧ (¬ (v6 = 0) → (∃ (σ7 : Mm), Cl 226 [.ref 59] σ4 (none, σ7) ∧ Sg t σ7 ∧ (∃ (v12 : Int32) (σ10 : Mm), Cl 230 [.ref 59, .int (x1 ^^^ x2)] σ7 (some (.int v12), σ10) ∧ Sg t σ10 ∧ ((v12 < 0 → (w = (some (.int (-2)), σ10))) ∧ (¬ (v12 < 0) → (∃ (v15 : Int32) (σ13 : Mm), Cl 202 [.int v12] σ10 (some (.int v15), σ13) ∧ Sg t σ13 ∧ (w = (some (.int v15), σ13))))))))))))) :
    Ev 247 0 [.ref 59, .int x1, .int x2, .retAddr 0] [] σ w := by
  refine e_aload_n d_247_0 rfl rfl ?_
  refine e_iconst d_247_1 ci_0 rfl ?_
  refine e_putI d_247_2 oo_247 pF_9_142 (Or.inl rfl) (hS.k rfl) rfl ?_
  refine e_aload_n d_247_5 rfl rfl ?_
  refine e_iload_n d_247_6 rfl rfl ?_
  obtain ⟨v3, σ1, hcl, hS2, H⟩ := H
  refine e_vcall (w1 := (some (.int v3), σ1)) d_247_7 kc_247_7 rfl ⟨Nat.le_of_ble_eq_true rfl, xx_247.symm⟩ rfl hcl ?_
  show Ev 247 10 [.ref 59, .int x1, .int x2, .retAddr 0] [.int v3] σ1 w
  refine e_if_eq (t := 21) d_247_10 (by decide) rfl (fun hc => ?_) (fun hc => ?_)
  · replace H := H.1 hc
    refine e_iconst d_247_21 ci_m1 rfl ?_
    subst H
    exact e_iret d_247_22 rr_247
  · replace H := H.2 hc
    refine e_aload_n d_247_13 rfl rfl ?_
    refine e_iload_n d_247_14 rfl rfl ?_
    obtain ⟨v6, σ4, hcl, hS5, H⟩ := H
    refine e_vcall (w1 := (some (.int v6), σ4)) d_247_15 kc_247_15 rfl ⟨Nat.le_of_ble_eq_true rfl, xx_247.symm⟩ rfl hcl ?_
    show Ev 247 18 [.ref 59, .int x1, .int x2, .retAddr 0] [.int v6] σ4 w
    refine e_if_ne (t := 23) d_247_18 (by decide) rfl (fun hc => ?_) (fun hc => ?_)
    · replace H := H.2 hc
      refine e_aload_n d_247_23 rfl rfl ?_
      obtain ⟨σ7, hcl, hS8, H⟩ := H
      refine e_vcall (w1 := (none, σ7)) d_247_24 kc_247_24 rfl ⟨Nat.le_of_ble_eq_true rfl, xx_247.symm⟩ rfl hcl ?_
      show Ev 247 27 [.ref 59, .int x1, .int x2, .retAddr 0] [] σ7 w
      refine e_aload_n d_247_27 rfl rfl ?_
      refine e_iload_n d_247_28 rfl rfl ?_
      refine e_iload_n d_247_29 rfl rfl ?_
      refine e_ixor d_247_30 rfl ?_
      obtain ⟨v12, σ10, hcl, hS11, H⟩ := H
      refine e_vcall (w1 := (some (.int v12), σ10)) d_247_31 kc_247_31 rfl ⟨Nat.le_of_ble_eq_true rfl, xx_247.symm⟩ rfl hcl ?_
      show Ev 247 34 [.ref 59, .int x1, .int x2, .retAddr 0] [.int v12] σ10 w
      refine e_istore_n (ls2 := [.ref 59, .int x1, .int x2, .int v12]) d_247_34 rfl rfl rfl ?_
      refine e_iload_n d_247_35 rfl rfl ?_
      refine e_if_ge (t := 44) d_247_36 (by decide) rfl (fun hc => ?_) (fun hc => ?_)
      · replace H := H.2 hc
        refine e_iload_n d_247_44 rfl rfl ?_
        obtain ⟨v15, σ13, hcl, hS14, H⟩ := H
        refine e_scall (w1 := (some (.int v15), σ13)) d_247_45 kc_247_45 rfl ⟨Nat.le_of_ble_eq_true rfl, xx_247.symm⟩ rfl hcl ?_
        show Ev 247 48 [.ref 59, .int x1, .int x2, .int v12] [.int v15] σ13 w
        subst H
        exact e_iret d_247_48 rr_247
      · replace H := H.1 hc
        refine e_bipush d_247_39 cb_m2 rfl ?_
        refine e_goto (t := 48) d_247_41 (by decide) ?_
        subst H
        exact e_iret d_247_48 rr_247
    · replace H := H.1 hc
      refine e_iconst d_247_21 ci_m1 rfl ?_
      subst H
      exact e_iret d_247_22 rr_247
/-! X9_evenings -/
theorem b_248_0 {t : Nat} {σ : Mm} {w : Option Value × Mm} {x1 : Int32} (hS : Sg t σ) 
    (H : ∃ (v3 : Int32) (σ1 : Mm), Cl 152 [.int x1, .int 0, .int 14] (uI σ 59 2 0) (some (.int v3), σ1) ∧ Sg t σ1 ∧ ((v3 = 0 → (w = (some (.int (-1)), σ1))) ∧ (¬ (v3 = 0) → (∃ (σ4 : Mm), Cl 226 [.ref 59] σ1 (none, σ4) ∧ Sg t σ4 ∧ Ev 248 25 [.ref 59, .int x1, .int 0, .int 0] [] σ4 w)))) :
    Ev 248 0 [.ref 59, .int x1, .retAddr 0, .retAddr 0] [] σ w := by
  refine e_aload_n d_248_0 rfl rfl ?_
  refine e_iconst d_248_1 ci_0 rfl ?_
  refine e_putI d_248_2 oo_248 pF_9_142 (Or.inl rfl) (hS.k rfl) rfl ?_
  refine e_iload_n d_248_5 rfl rfl ?_
  refine e_iconst d_248_6 ci_0 rfl ?_
  refine e_bipush d_248_7 cb_14 rfl ?_
  obtain ⟨v3, σ1, hcl, hS2, H⟩ := H
  refine e_scall (w1 := (some (.int v3), σ1)) d_248_9 kc_248_9 rfl ⟨Nat.le_of_ble_eq_true rfl, xx_248.symm⟩ rfl hcl ?_
  show Ev 248 12 [.ref 59, .int x1, .retAddr 0, .retAddr 0] [.int v3] σ1 w
  refine e_if_ne (t := 17) d_248_12 (by decide) rfl (fun hc => ?_) (fun hc => ?_)
  · replace H := H.2 hc
    refine e_aload_n d_248_17 rfl rfl ?_
    obtain ⟨σ4, hcl, hS5, H⟩ := H
    refine e_vcall (w1 := (none, σ4)) d_248_18 kc_248_18 rfl ⟨Nat.le_of_ble_eq_true rfl, xx_248.symm⟩ rfl hcl ?_
    show Ev 248 21 [.ref 59, .int x1, .retAddr 0, .retAddr 0] [] σ4 w
    refine e_iconst d_248_21 ci_0 rfl ?_
    refine e_istore_n (ls2 := [.ref 59, .int x1, .int 0, .retAddr 0]) d_248_22 rfl rfl rfl ?_
    refine e_iconst d_248_23 ci_0 rfl ?_
    refine e_istore_n (ls2 := [.ref 59, .int x1, .int 0, .int 0]) d_248_24 rfl rfl rfl ?_
    exact H
  · replace H := H.1 hc
    refine e_iconst d_248_15 ci_m1 rfl ?_
    subst H
    exact e_iret d_248_16 rr_248
theorem b_248_25 {t : Nat} {σ : Mm} {w : Option Value × Mm} {x1 : Int32} {x2 : Int32} {x3 : Int32} (hS : Sg t σ) 
    (H : (x3 < ((1 : Int32) <<< ((mI σ 59 13) &&& 31)) → (((x3 &&& ((mI σ 59 65) ^^^ (-1))) = 0 → (inb x3 1024 = true ∧ (∃ (v6 : Int32) (σ4 : Mm), Cl 202 [.int ((mI σ 82 0) ^^^ (mI σ 91 x3.toNatClampNeg))] σ (some (.int v6), σ4) ∧ Sg t σ4 ∧ ((v6 = x1 → Ev 248 25 [.ref 59, .int x1, .int (x2 + 1), .int (x3 + 1)] [] σ4 w) ∧ (¬ (v6 = x1) → Ev 248 25 [.ref 59, .int x1, .int (x2 + 0), .int (x3 + 1)] [] σ4 w))))) ∧ (¬ ((x3 &&& ((mI σ 59 65) ^^^ (-1))) = 0) → Ev 248 25 [.ref 59, .int x1, .int (x2 + 0), .int (x3 + 1)] [] σ w))) ∧ (¬ (x3 < ((1 : Int32) <<< ((mI σ 59 13) &&& 31))) → (∃ (v3 : Int32) (σ1 : Mm), Cl 234 [.ref 59] σ (some (.int v3), σ1) ∧ Sg t σ1 ∧ (¬ (v3 + 1) = 0 ∧ (w = (some (.int (x2 / (v3 + 1))), σ1)))))) :
    Ev 248 25 [.ref 59, .int x1, .int x2, .int x3] [] σ w := by
  refine e_iload_n d_248_25 rfl rfl ?_
  refine e_iconst d_248_26 ci_1 rfl ?_
  refine e_aload_n d_248_27 rfl rfl ?_
  refine e_getI d_248_28 oo_248 pF_9_225 (by decide) (hS.k rfl) rfl ?_
  refine e_ishl d_248_31 rfl ?_
  refine e_icmp_ge (t := 80) d_248_32 (by decide) rfl (fun hc => ?_) (fun hc => ?_)
  · replace H := H.2 hc
    refine e_iload_n d_248_80 rfl rfl ?_
    refine e_aload_n d_248_81 rfl rfl ?_
    obtain ⟨v3, σ1, hcl, hS2, H⟩ := H
    refine e_vcall (w1 := (some (.int v3), σ1)) d_248_82 kc_248_82 rfl ⟨Nat.le_of_ble_eq_true rfl, xx_248.symm⟩ rfl hcl ?_
    show Ev 248 85 [.ref 59, .int x1, .int x2, .int x3] [.int v3, .int x2] σ1 w
    refine e_iconst d_248_85 ci_1 rfl ?_
    refine e_iadd d_248_86 rfl ?_
    obtain ⟨hz, H⟩ := H
    refine e_idiv d_248_87 hz rfl ?_
    subst H
    exact e_iret d_248_88 rr_248
  · replace H := H.1 hc
    refine e_iload_n d_248_35 rfl rfl ?_
    refine e_iload_n d_248_36 rfl rfl ?_
    refine e_aload_n d_248_37 rfl rfl ?_
    refine e_getI d_248_38 oo_248 pF_9_459 (by decide) (hS.k rfl) rfl ?_
    refine e_iconst d_248_41 ci_m1 rfl ?_
    refine e_ixor d_248_42 rfl ?_
    refine e_iand d_248_43 rfl ?_
    refine e_if_ne (t := 71) d_248_44 (by decide) rfl (fun hc => ?_) (fun hc => ?_)
    · replace H := H.2 hc
      refine e_iconst d_248_71 ci_0 rfl ?_
      refine e_iadd d_248_72 rfl ?_
      refine e_istore_n (ls2 := [.ref 59, .int x1, .int (x2 + 0), .int x3]) d_248_73 rfl rfl rfl ?_
      refine e_iinc (ls2 := [.ref 59, .int x1, .int (x2 + 0), .int (x3 + 1)]) d_248_74 rfl ci_1 rfl rfl rfl ?_
      refine e_goto (t := 25) d_248_77 (by decide) ?_
      exact H
    · replace H := H.1 hc
      refine e_aload_n d_248_47 rfl rfl ?_
      refine e_getR d_248_48 oo_248 pF_9_82 (by decide) (hS.k rfl) (hS.r rt_59_49) rfl ?_
      refine e_iconst d_248_51 ci_0 rfl ?_
      refine e_iaload (v := (mI σ 82 0)) d_248_52 (rdI_at (hS.k rfl) rfl) rfl ?_
      refine e_aload_n d_248_53 rfl rfl ?_
      refine e_getR d_248_54 oo_248 pF_9_109 (by decide) (hS.k rfl) (hS.r rt_59_64) rfl ?_
      refine e_iload_n d_248_57 rfl rfl ?_
      obtain ⟨hb, H⟩ := H
      refine e_iaload (v := (mI σ 91 x3.toNatClampNeg)) d_248_58 (rdI_at (hS.k rfl) hb) rfl ?_
      refine e_ixor d_248_59 rfl ?_
      obtain ⟨v6, σ4, hcl, hS5, H⟩ := H
      refine e_scall (w1 := (some (.int v6), σ4)) d_248_60 kc_248_60 rfl ⟨Nat.le_of_ble_eq_true rfl, xx_248.symm⟩ rfl hcl ?_
      show Ev 248 63 [.ref 59, .int x1, .int x2, .int x3] [.int v6, .int x2] σ4 w
      refine e_iload_n d_248_63 rfl rfl ?_
      refine e_icmp_ne (t := 71) d_248_64 (by decide) rfl (fun hc => ?_) (fun hc => ?_)
      · replace H := H.2 hc
        refine e_iconst d_248_71 ci_0 rfl ?_
        refine e_iadd d_248_72 rfl ?_
        refine e_istore_n (ls2 := [.ref 59, .int x1, .int (x2 + 0), .int x3]) d_248_73 rfl rfl rfl ?_
        refine e_iinc (ls2 := [.ref 59, .int x1, .int (x2 + 0), .int (x3 + 1)]) d_248_74 rfl ci_1 rfl rfl rfl ?_
        refine e_goto (t := 25) d_248_77 (by decide) ?_
        exact H
      · replace H := H.1 hc
        refine e_iconst d_248_67 ci_1 rfl ?_
        refine e_goto (t := 72) d_248_68 (by decide) ?_
        refine e_iadd d_248_72 rfl ?_
        refine e_istore_n (ls2 := [.ref 59, .int x1, .int (x2 + 1), .int x3]) d_248_73 rfl rfl rfl ?_
        refine e_iinc (ls2 := [.ref 59, .int x1, .int (x2 + 1), .int (x3 + 1)]) d_248_74 rfl ci_1 rfl rfl rfl ?_
        refine e_goto (t := 25) d_248_77 (by decide) ?_
        exact H
/-! X9_worthBy -/
theorem b_249_0 {t : Nat} {σ : Mm} {w : Option Value × Mm} {x1 : Int32} {x2 : Int32} (hS : Sg t σ) 
    (H : inb (x1 ||| ((1 : Int32) <<< (x2 &&& 31))) 1024 = true ∧ (((mI σ 91 (x1 ||| ((1 : Int32) <<< (x2 &&& 31))).toNatClampNeg) = (mI σ 82 0) → (w = (some (.int 1), σ))) ∧ (¬ ((mI σ 91 (x1 ||| ((1 : Int32) <<< (x2 &&& 31))).toNatClampNeg) = (mI σ 82 0)) → (inb (x1 ||| ((1 : Int32) <<< (x2 &&& 31))) 1024 = true ∧ (w = (some (.int (-(mI σ 93 (x1 ||| ((1 : Int32) <<< (x2 &&& 31))).toNatClampNeg))), σ)))))) :
    Ev 249 0 [.ref 59, .int x1, .int x2] [] σ w := by
  refine e_aload_n d_249_0 rfl rfl ?_
  refine e_getR d_249_1 oo_249 pF_9_109 (by decide) (hS.k rfl) (hS.r rt_59_64) rfl ?_
  refine e_iload_n d_249_4 rfl rfl ?_
  refine e_iconst d_249_5 ci_1 rfl ?_
  refine e_iload_n d_249_6 rfl rfl ?_
  refine e_ishl d_249_7 rfl ?_
  refine e_ior d_249_8 rfl ?_
  obtain ⟨hb, H⟩ := H
  refine e_iaload (v := (mI σ 91 (x1 ||| ((1 : Int32) <<< (x2 &&& 31))).toNatClampNeg)) d_249_9 (rdI_at (hS.k rfl) hb) rfl ?_
  refine e_aload_n d_249_10 rfl rfl ?_
  refine e_getR d_249_11 oo_249 pF_9_82 (by decide) (hS.k rfl) (hS.r rt_59_49) rfl ?_
  refine e_iconst d_249_14 ci_0 rfl ?_
  refine e_iaload (v := (mI σ 82 0)) d_249_15 (rdI_at (hS.k rfl) rfl) rfl ?_
  refine e_icmp_ne (t := 23) d_249_16 (by decide) rfl (fun hc => ?_) (fun hc => ?_)
  · replace H := H.2 hc
    refine e_aload_n d_249_23 rfl rfl ?_
    refine e_getR d_249_24 oo_249 pF_9_115 (by decide) (hS.k rfl) (hS.r rt_59_67) rfl ?_
    refine e_iload_n d_249_27 rfl rfl ?_
    refine e_iconst d_249_28 ci_1 rfl ?_
    refine e_iload_n d_249_29 rfl rfl ?_
    refine e_ishl d_249_30 rfl ?_
    refine e_ior d_249_31 rfl ?_
    obtain ⟨hb, H⟩ := H
    refine e_iaload (v := (mI σ 93 (x1 ||| ((1 : Int32) <<< (x2 &&& 31))).toNatClampNeg)) d_249_32 (rdI_at (hS.k rfl) hb) rfl ?_
    refine e_ineg d_249_33 rfl ?_
    subst H
    exact e_iret d_249_34 rr_249
  · replace H := H.1 hc
    refine e_iconst d_249_19 ci_1 rfl ?_
    refine e_goto (t := 34) d_249_20 (by decide) ?_
    subst H
    exact e_iret d_249_34 rr_249
/-! X9_layWorth -/
theorem b_250_0 {t : Nat} {σ : Mm} {w : Option Value × Mm}  (hS : Sg t σ) 
    (H : ∃ (σ1 : Mm), Cl 226 [.ref 59] σ (none, σ1) ∧ Sg t σ1 ∧ Ev 250 13 [.ref 59, .int (((1 : Int32) <<< ((mI σ1 59 13) &&& 31)) - 1), .retAddr 0, .retAddr 0, .retAddr 0] [] σ1 w) :
    Ev 250 0 [.ref 59, .retAddr 0, .retAddr 0, .retAddr 0, .retAddr 0] [] σ w := by
  refine e_aload_n d_250_0 rfl rfl ?_
  obtain ⟨σ1, hcl, hS2, H⟩ := H
  refine e_vcall (w1 := (none, σ1)) d_250_1 kc_250_1 rfl ⟨Nat.le_of_ble_eq_true rfl, xx_250.symm⟩ rfl hcl ?_
  show Ev 250 4 [.ref 59, .retAddr 0, .retAddr 0, .retAddr 0, .retAddr 0] [] σ1 w
  refine e_iconst d_250_4 ci_1 rfl ?_
  refine e_aload_n d_250_5 rfl rfl ?_
  refine e_getI d_250_6 oo_250 pF_9_225 (by decide) (hS2.k rfl) rfl ?_
  refine e_ishl d_250_9 rfl ?_
  refine e_iconst d_250_10 ci_1 rfl ?_
  refine e_isub d_250_11 rfl ?_
  refine e_istore_n (ls2 := [.ref 59, .int (((1 : Int32) <<< ((mI σ1 59 13) &&& 31)) - 1), .retAddr 0, .retAddr 0, .retAddr 0]) d_250_12 rfl rfl rfl ?_
  exact H
theorem b_250_13 {t : Nat} {σ : Mm} {w : Option Value × Mm} {x1 : Int32} {z2 : Value} {z3 : Value} {z4 : Value} (hS : Sg t σ) 
    (H : (x1 < 0 → (w = (none, σ))) ∧ (¬ (x1 < 0) → Ev 250 22 [.ref 59, .int x1, .int (-2), .int 0, z4] [] σ w)) :
    Ev 250 13 [.ref 59, .int x1, z2, z3, z4] [] σ w := by
  refine e_iload_n d_250_13 rfl rfl ?_
  refine e_if_lt (t := 101) d_250_14 (by decide) rfl (fun hc => ?_) (fun hc => ?_)
  · replace H := H.1 hc
    subst H
    exact e_vret d_250_101 rr_250
  · replace H := H.2 hc
    refine e_bipush d_250_17 cb_m2 rfl ?_
    refine e_istore_n (ls2 := [.ref 59, .int x1, .int (-2), z3, z4]) d_250_19 rfl rfl rfl ?_
    refine e_iconst d_250_20 ci_0 rfl ?_
    refine e_istore_n (ls2 := [.ref 59, .int x1, .int (-2), .int 0, z4]) d_250_21 rfl rfl rfl ?_
    exact H
theorem b_250_22 {t : Nat} {σ : Mm} {w : Option Value × Mm} {x1 : Int32} {x2 : Int32} {x3 : Int32} {z4 : Value} (hS : Sg t σ) 
    (H : (x3 < (mI σ 59 13) → (∃ (v3 : Int32) (σ1 : Mm), Cl 153 [.int x1, .int x3] σ (some (.int v3), σ1) ∧ Sg t σ1 ∧ ((v3 = 0 → (∃ (v6 : Int32) (σ4 : Mm), Cl 153 [.int (mI σ1 59 65), .int x3] σ1 (some (.int v6), σ4) ∧ Sg t σ4 ∧ ((v6 = 0 → Ev 250 22 [.ref 59, .int x1, .int x2, .int (x3 + 1), z4] [] σ4 w) ∧ (¬ (v6 = 0) → (∃ (v9 : Int32) (σ7 : Mm), Cl 249 [.ref 59, .int x1, .int x3] σ4 (some (.int v9), σ7) ∧ Sg t σ7 ∧ ((x2 < v9 → Ev 250 22 [.ref 59, .int x1, .int v9, .int (x3 + 1), .int v9] [] σ7 w) ∧ (¬ (x2 < v9) → Ev 250 22 [.ref 59, .int x1, .int x2, .int (x3 + 1), .int v9] [] σ7 w))))))) ∧ (¬ (v3 = 0) → Ev 250 22 [.ref 59, .int x1, .int x2, .int (x3 + 1), z4] [] σ1 w)))) ∧ (¬ (x3 < (mI σ 59 13)) → ((x2 < (-1) → (inb x1 1024 = true ∧ Ev 250 13 [.ref 59, .int (x1 + (-1)), .int x2, .int x3, z4] [] (uI σ 93 x1.toNatClampNeg 0) w)) ∧ (¬ (x2 < (-1)) → (inb x1 1024 = true ∧ Ev 250 13 [.ref 59, .int (x1 + (-1)), .int x2, .int x3, z4] [] (uI σ 93 x1.toNatClampNeg x2) w))))) :
    Ev 250 22 [.ref 59, .int x1, .int x2, .int x3, z4] [] σ w := by
  refine e_iload_n d_250_22 rfl rfl ?_
  refine e_aload_n d_250_23 rfl rfl ?_
  refine e_getI d_250_24 oo_250 pF_9_225 (by decide) (hS.k rfl) rfl ?_
  refine e_icmp_ge (t := 79) d_250_27 (by decide) rfl (fun hc => ?_) (fun hc => ?_)
  · replace H := H.2 hc
    refine e_aload_n d_250_79 rfl rfl ?_
    refine e_getR d_250_80 oo_250 pF_9_115 (by decide) (hS.k rfl) (hS.r rt_59_67) rfl ?_
    refine e_iload_n d_250_83 rfl rfl ?_
    refine e_iload_n d_250_84 rfl rfl ?_
    refine e_iconst d_250_85 ci_m1 rfl ?_
    refine e_icmp_ge (t := 93) d_250_86 (by decide) rfl (fun hc => ?_) (fun hc => ?_)
    · replace H := H.2 hc
      refine e_iload_n d_250_93 rfl rfl ?_
      obtain ⟨hb, H⟩ := H
      refine e_iastore d_250_94 (okI_at (hS.k rfl) hb) rfl ?_
      refine e_iinc (ls2 := [.ref 59, .int (x1 + (-1)), .int x2, .int x3, z4]) d_250_95 rfl ci_m1 rfl rfl rfl ?_
      refine e_goto (t := 13) d_250_98 (by decide) ?_
      exact H
    · replace H := H.1 hc
      refine e_iconst d_250_89 ci_0 rfl ?_
      refine e_goto (t := 94) d_250_90 (by decide) ?_
      obtain ⟨hb, H⟩ := H
      refine e_iastore d_250_94 (okI_at (hS.k rfl) hb) rfl ?_
      refine e_iinc (ls2 := [.ref 59, .int (x1 + (-1)), .int x2, .int x3, z4]) d_250_95 rfl ci_m1 rfl rfl rfl ?_
      refine e_goto (t := 13) d_250_98 (by decide) ?_
      exact H
  · replace H := H.1 hc
    refine e_iload_n d_250_30 rfl rfl ?_
    refine e_iload_n d_250_31 rfl rfl ?_
    obtain ⟨v3, σ1, hcl, hS2, H⟩ := H
    refine e_scall (w1 := (some (.int v3), σ1)) d_250_32 kc_250_32 rfl ⟨Nat.le_of_ble_eq_true rfl, xx_250.symm⟩ rfl hcl ?_
    show Ev 250 35 [.ref 59, .int x1, .int x2, .int x3, z4] [.int v3] σ1 w
    refine e_if_ne (t := 73) d_250_35 (by decide) rfl (fun hc => ?_) (fun hc => ?_)
    · replace H := H.2 hc
      refine e_iinc (ls2 := [.ref 59, .int x1, .int x2, .int (x3 + 1), z4]) d_250_73 rfl ci_1 rfl rfl rfl ?_
      refine e_goto (t := 22) d_250_76 (by decide) ?_
      exact H
    · replace H := H.1 hc
      refine e_aload_n d_250_38 rfl rfl ?_
      refine e_getI d_250_39 oo_250 pF_9_459 (by decide) (hS2.k rfl) rfl ?_
      refine e_iload_n d_250_42 rfl rfl ?_
      obtain ⟨v6, σ4, hcl, hS5, H⟩ := H
      refine e_scall (w1 := (some (.int v6), σ4)) d_250_43 kc_250_43 rfl ⟨Nat.le_of_ble_eq_true rfl, xx_250.symm⟩ rfl hcl ?_
      show Ev 250 46 [.ref 59, .int x1, .int x2, .int x3, z4] [.int v6] σ4 w
      refine e_if_ne (t := 52) d_250_46 (by decide) rfl (fun hc => ?_) (fun hc => ?_)
      · replace H := H.2 hc
        refine e_aload_n d_250_52 rfl rfl ?_
        refine e_iload_n d_250_53 rfl rfl ?_
        refine e_iload_n d_250_54 rfl rfl ?_
        obtain ⟨v9, σ7, hcl, hS8, H⟩ := H
        refine e_vcall (w1 := (some (.int v9), σ7)) d_250_55 kc_250_55 rfl ⟨Nat.le_of_ble_eq_true rfl, xx_250.symm⟩ rfl hcl ?_
        show Ev 250 58 [.ref 59, .int x1, .int x2, .int x3, z4] [.int v9] σ7 w
        refine e_istore (ls2 := [.ref 59, .int x1, .int x2, .int x3, .int v9]) d_250_58 rfl rfl rfl ?_
        refine e_iload d_250_60 rfl rfl ?_
        refine e_iload_n d_250_62 rfl rfl ?_
        refine e_icmp_le (t := 71) d_250_63 (by decide) rfl (fun hc => ?_) (fun hc => ?_)
        · replace H := H.2 hc
          refine e_iload_n d_250_71 rfl rfl ?_
          refine e_istore_n (ls2 := [.ref 59, .int x1, .int x2, .int x3, .int v9]) d_250_72 rfl rfl rfl ?_
          refine e_iinc (ls2 := [.ref 59, .int x1, .int x2, .int (x3 + 1), .int v9]) d_250_73 rfl ci_1 rfl rfl rfl ?_
          refine e_goto (t := 22) d_250_76 (by decide) ?_
          exact H
        · replace H := H.1 hc
          refine e_iload d_250_66 rfl rfl ?_
          refine e_goto (t := 72) d_250_68 (by decide) ?_
          refine e_istore_n (ls2 := [.ref 59, .int x1, .int v9, .int x3, .int v9]) d_250_72 rfl rfl rfl ?_
          refine e_iinc (ls2 := [.ref 59, .int x1, .int v9, .int (x3 + 1), .int v9]) d_250_73 rfl ci_1 rfl rfl rfl ?_
          refine e_goto (t := 22) d_250_76 (by decide) ?_
          exact H
      · replace H := H.1 hc
        refine e_goto (t := 73) d_250_49 (by decide) ?_
        refine e_iinc (ls2 := [.ref 59, .int x1, .int x2, .int (x3 + 1), z4]) d_250_73 rfl ci_1 rfl rfl rfl ?_
        refine e_goto (t := 22) d_250_76 (by decide) ?_
        exact H
/-! X9_game -/
theorem b_251_0 {t : Nat} {σ : Mm} {w : Option Value × Mm} {x1 : Int32} (hS : Sg t σ) 
    (H : ∃ (v3 : Int32) (σ1 : Mm), Cl 152 [.int x1, .int 0, .int 1] (uI σ 59 2 0) (some (.int v3), σ1) ∧ Sg t σ1 ∧ ((v3 = 0 → (w = (some (.int (-1)), σ1))) ∧ (¬ (v3 = 0) → (∃ (σ4 : Mm), Cl 250 [.ref 59] σ1 (none, σ4) ∧ Sg t σ4 ∧ (((mI σ4 82 0) = 0 → ((x1 = 0 → (w = (some (.int 2), σ4))) ∧ (¬ (x1 = 0) → (w = (some (.int (-2)), σ4))))) ∧ (¬ ((mI σ4 82 0) = 0) → (((mI σ4 59 65) = 0 → ((x1 = 0 → (w = (some (.int 2), σ4))) ∧ (¬ (x1 = 0) → (w = (some (.int (-2)), σ4))))) ∧ (¬ ((mI σ4 59 65) = 0) → ((x1 = 0 → (((mI σ4 93 0) = 1 → (w = (some (.int 0), σ4))) ∧ (¬ ((mI σ4 93 0) = 1) → (((mI σ4 93 0) = 0 → (w = (some (.int 2), σ4))) ∧ (¬ ((mI σ4 93 0) = 0) → (w = (some (.int 1), σ4))))))) ∧ (¬ (x1 = 0) → Ev 251 82 [.ref 59, .int x1, .int 0] [] σ4 w)))))))))) :
    Ev 251 0 [.ref 59, .int x1, .retAddr 0] [] σ w := by
  refine e_aload_n d_251_0 rfl rfl ?_
  refine e_iconst d_251_1 ci_0 rfl ?_
  refine e_putI d_251_2 oo_251 pF_9_142 (Or.inl rfl) (hS.k rfl) rfl ?_
  refine e_iload_n d_251_5 rfl rfl ?_
  refine e_iconst d_251_6 ci_0 rfl ?_
  refine e_iconst d_251_7 ci_1 rfl ?_
  obtain ⟨v3, σ1, hcl, hS2, H⟩ := H
  refine e_scall (w1 := (some (.int v3), σ1)) d_251_8 kc_251_8 rfl ⟨Nat.le_of_ble_eq_true rfl, xx_251.symm⟩ rfl hcl ?_
  show Ev 251 11 [.ref 59, .int x1, .retAddr 0] [.int v3] σ1 w
  refine e_if_ne (t := 16) d_251_11 (by decide) rfl (fun hc => ?_) (fun hc => ?_)
  · replace H := H.2 hc
    refine e_aload_n d_251_16 rfl rfl ?_
    obtain ⟨σ4, hcl, hS5, H⟩ := H
    refine e_vcall (w1 := (none, σ4)) d_251_17 kc_251_17 rfl ⟨Nat.le_of_ble_eq_true rfl, xx_251.symm⟩ rfl hcl ?_
    show Ev 251 20 [.ref 59, .int x1, .retAddr 0] [] σ4 w
    refine e_aload_n d_251_20 rfl rfl ?_
    refine e_getR d_251_21 oo_251 pF_9_82 (by decide) (hS5.k rfl) (hS5.r rt_59_49) rfl ?_
    refine e_iconst d_251_24 ci_0 rfl ?_
    refine e_iaload (v := (mI σ4 82 0)) d_251_25 (rdI_at (hS5.k rfl) rfl) rfl ?_
    refine e_if_eq (t := 36) d_251_26 (by decide) rfl (fun hc => ?_) (fun hc => ?_)
    · replace H := H.1 hc
      refine e_iload_n d_251_36 rfl rfl ?_
      refine e_if_ne (t := 44) d_251_37 (by decide) rfl (fun hc => ?_) (fun hc => ?_)
      · replace H := H.2 hc
        refine e_bipush d_251_44 cb_m2 rfl ?_
        subst H
        exact e_iret d_251_46 rr_251
      · replace H := H.1 hc
        refine e_iconst d_251_40 ci_2 rfl ?_
        refine e_goto (t := 46) d_251_41 (by decide) ?_
        subst H
        exact e_iret d_251_46 rr_251
    · replace H := H.2 hc
      refine e_aload_n d_251_29 rfl rfl ?_
      refine e_getI d_251_30 oo_251 pF_9_459 (by decide) (hS5.k rfl) rfl ?_
      refine e_if_ne (t := 47) d_251_33 (by decide) rfl (fun hc => ?_) (fun hc => ?_)
      · replace H := H.2 hc
        refine e_iload_n d_251_47 rfl rfl ?_
        refine e_if_ne (t := 80) d_251_48 (by decide) rfl (fun hc => ?_) (fun hc => ?_)
        · replace H := H.2 hc
          refine e_iconst d_251_80 ci_0 rfl ?_
          refine e_istore_n (ls2 := [.ref 59, .int x1, .int 0]) d_251_81 rfl rfl rfl ?_
          exact H
        · replace H := H.1 hc
          refine e_aload_n d_251_51 rfl rfl ?_
          refine e_getR d_251_52 oo_251 pF_9_115 (by decide) (hS5.k rfl) (hS5.r rt_59_67) rfl ?_
          refine e_iconst d_251_55 ci_0 rfl ?_
          refine e_iaload (v := (mI σ4 93 0)) d_251_56 (rdI_at (hS5.k rfl) rfl) rfl ?_
          refine e_iconst d_251_57 ci_1 rfl ?_
          refine e_icmp_ne (t := 65) d_251_58 (by decide) rfl (fun hc => ?_) (fun hc => ?_)
          · replace H := H.2 hc
            refine e_aload_n d_251_65 rfl rfl ?_
            refine e_getR d_251_66 oo_251 pF_9_115 (by decide) (hS5.k rfl) (hS5.r rt_59_67) rfl ?_
            refine e_iconst d_251_69 ci_0 rfl ?_
            refine e_iaload (v := (mI σ4 93 0)) d_251_70 (rdI_at (hS5.k rfl) rfl) rfl ?_
            refine e_if_ne (t := 78) d_251_71 (by decide) rfl (fun hc => ?_) (fun hc => ?_)
            · replace H := H.2 hc
              refine e_iconst d_251_78 ci_1 rfl ?_
              subst H
              exact e_iret d_251_79 rr_251
            · replace H := H.1 hc
              refine e_iconst d_251_74 ci_2 rfl ?_
              refine e_goto (t := 79) d_251_75 (by decide) ?_
              subst H
              exact e_iret d_251_79 rr_251
          · replace H := H.1 hc
            refine e_iconst d_251_61 ci_0 rfl ?_
            refine e_goto (t := 79) d_251_62 (by decide) ?_
            subst H
            exact e_iret d_251_79 rr_251
      · replace H := H.1 hc
        refine e_iload_n d_251_36 rfl rfl ?_
        refine e_if_ne (t := 44) d_251_37 (by decide) rfl (fun hc => ?_) (fun hc => ?_)
        · replace H := H.2 hc
          refine e_bipush d_251_44 cb_m2 rfl ?_
          subst H
          exact e_iret d_251_46 rr_251
        · replace H := H.1 hc
          refine e_iconst d_251_40 ci_2 rfl ?_
          refine e_goto (t := 46) d_251_41 (by decide) ?_
          subst H
          exact e_iret d_251_46 rr_251
  · replace H := H.1 hc
    refine e_iconst d_251_14 ci_m1 rfl ?_
    subst H
    exact e_iret d_251_15 rr_251
theorem b_251_82 {t : Nat} {σ : Mm} {w : Option Value × Mm} {x1 : Int32} {x2 : Int32} (hS : Sg t σ) 
    (H : ∃ (v3 : Int32) (σ1 : Mm), Cl 153 [.int (mI σ 59 65), .int x2] σ (some (.int v3), σ1) ∧ Sg t σ1 ∧ ((v3 = 0 → Ev 251 82 [.ref 59, .int x1, .int (x2 + 1)] [] σ1 w) ∧ (¬ (v3 = 0) → (∃ (v6 : Int32) (σ4 : Mm), Cl 249 [.ref 59, .int 0, .int x2] σ1 (some (.int v6), σ4) ∧ Sg t σ4 ∧ ((v6 = (mI σ4 93 0) → (w = (some (.int x2), σ4))) ∧ (¬ (v6 = (mI σ4 93 0)) → Ev 251 82 [.ref 59, .int x1, .int (x2 + 1)] [] σ4 w)))))) :
    Ev 251 82 [.ref 59, .int x1, .int x2] [] σ w := by
  refine e_aload_n d_251_82 rfl rfl ?_
  refine e_getI d_251_83 oo_251 pF_9_459 (by decide) (hS.k rfl) rfl ?_
  refine e_iload_n d_251_86 rfl rfl ?_
  obtain ⟨v3, σ1, hcl, hS2, H⟩ := H
  refine e_scall (w1 := (some (.int v3), σ1)) d_251_87 kc_251_87 rfl ⟨Nat.le_of_ble_eq_true rfl, xx_251.symm⟩ rfl hcl ?_
  show Ev 251 90 [.ref 59, .int x1, .int x2] [.int v3] σ1 w
  refine e_if_eq (t := 108) d_251_90 (by decide) rfl (fun hc => ?_) (fun hc => ?_)
  · replace H := H.1 hc
    refine e_iinc (ls2 := [.ref 59, .int x1, .int (x2 + 1)]) d_251_108 rfl ci_1 rfl rfl rfl ?_
    refine e_goto (t := 82) d_251_111 (by decide) ?_
    exact H
  · replace H := H.2 hc
    refine e_aload_n d_251_93 rfl rfl ?_
    refine e_iconst d_251_94 ci_0 rfl ?_
    refine e_iload_n d_251_95 rfl rfl ?_
    obtain ⟨v6, σ4, hcl, hS5, H⟩ := H
    refine e_vcall (w1 := (some (.int v6), σ4)) d_251_96 kc_251_96 rfl ⟨Nat.le_of_ble_eq_true rfl, xx_251.symm⟩ rfl hcl ?_
    show Ev 251 99 [.ref 59, .int x1, .int x2] [.int v6] σ4 w
    refine e_aload_n d_251_99 rfl rfl ?_
    refine e_getR d_251_100 oo_251 pF_9_115 (by decide) (hS5.k rfl) (hS5.r rt_59_67) rfl ?_
    refine e_iconst d_251_103 ci_0 rfl ?_
    refine e_iaload (v := (mI σ4 93 0)) d_251_104 (rdI_at (hS5.k rfl) rfl) rfl ?_
    refine e_icmp_eq (t := 114) d_251_105 (by decide) rfl (fun hc => ?_) (fun hc => ?_)
    · replace H := H.1 hc
      refine e_iload_n d_251_114 rfl rfl ?_
      subst H
      exact e_iret d_251_115 rr_251
    · replace H := H.2 hc
      refine e_iinc (ls2 := [.ref 59, .int x1, .int (x2 + 1)]) d_251_108 rfl ci_1 rfl rfl rfl ?_
      refine e_goto (t := 82) d_251_111 (by decide) ?_
      exact H
/-! X9_holds -/
theorem b_252_0 {t : Nat} {σ : Mm} {w : Option Value × Mm} {x1 : Int32} {x2 : Int32} (hS : Sg t σ) 
    (H : ∃ (v3 : Int32) (σ1 : Mm), Cl 152 [.int x1, .int 0, .int 6] (uI σ 59 2 0) (some (.int v3), σ1) ∧ Sg t σ1 ∧ ((v3 = 0 → (w = (some (.long (-1)), σ1))) ∧ (¬ (v3 = 0) → (∃ (v6 : Int32) (σ4 : Mm), Cl 152 [.int x2, .int 0, .int 1] σ1 (some (.int v6), σ4) ∧ Sg t σ4 ∧ ((v6 = 0 → (w = (some (.long (-1)), σ4))) ∧ (¬ (v6 = 0) → Ev 252 36 [.ref 59, .int x1, .int x2, .long 1, .float 0, .long 1, .float 0, .int 0, .retAddr 0, .retAddr 0, .retAddr 0, .retAddr 0, .retAddr 0] [] σ4 w)))))) :
    Ev 252 0 [.ref 59, .int x1, .int x2, .retAddr 0, .retAddr 0, .retAddr 0, .retAddr 0, .retAddr 0, .retAddr 0, .retAddr 0, .retAddr 0, .retAddr 0, .retAddr 0] [] σ w := by
  refine e_aload_n d_252_0 rfl rfl ?_
  refine e_iconst d_252_1 ci_0 rfl ?_
  refine e_putI d_252_2 oo_252 pF_9_142 (Or.inl rfl) (hS.k rfl) rfl ?_
  refine e_iload_n d_252_5 rfl rfl ?_
  refine e_iconst d_252_6 ci_0 rfl ?_
  refine e_bipush d_252_7 cb_6 rfl ?_
  obtain ⟨v3, σ1, hcl, hS2, H⟩ := H
  refine e_scall (w1 := (some (.int v3), σ1)) d_252_9 kc_252_9 rfl ⟨Nat.le_of_ble_eq_true rfl, xx_252.symm⟩ rfl hcl ?_
  show Ev 252 12 [.ref 59, .int x1, .int x2, .retAddr 0, .retAddr 0, .retAddr 0, .retAddr 0, .retAddr 0, .retAddr 0, .retAddr 0, .retAddr 0, .retAddr 0, .retAddr 0] [.int v3] σ1 w
  refine e_if_eq (t := 24) d_252_12 (by decide) rfl (fun hc => ?_) (fun hc => ?_)
  · replace H := H.1 hc
    refine e_ldc2 d_252_24 oo_252 pL_9_498 rfl ?_
    subst H
    exact e_lret d_252_27 rr_252
  · replace H := H.2 hc
    refine e_iload_n d_252_15 rfl rfl ?_
    refine e_iconst d_252_16 ci_0 rfl ?_
    refine e_iconst d_252_17 ci_1 rfl ?_
    obtain ⟨v6, σ4, hcl, hS5, H⟩ := H
    refine e_scall (w1 := (some (.int v6), σ4)) d_252_18 kc_252_18 rfl ⟨Nat.le_of_ble_eq_true rfl, xx_252.symm⟩ rfl hcl ?_
    show Ev 252 21 [.ref 59, .int x1, .int x2, .retAddr 0, .retAddr 0, .retAddr 0, .retAddr 0, .retAddr 0, .retAddr 0, .retAddr 0, .retAddr 0, .retAddr 0, .retAddr 0] [.int v6] σ4 w
    refine e_if_ne (t := 28) d_252_21 (by decide) rfl (fun hc => ?_) (fun hc => ?_)
    · replace H := H.2 hc
      refine e_lconst d_252_28 cl_1 rfl ?_
      refine e_lstore_n (ls2 := [.ref 59, .int x1, .int x2, .long 1, .float 0, .retAddr 0, .retAddr 0, .retAddr 0, .retAddr 0, .retAddr 0, .retAddr 0, .retAddr 0, .retAddr 0]) d_252_29 rfl rfl rfl ?_
      refine e_lconst d_252_30 cl_1 rfl ?_
      refine e_lstore (ls2 := [.ref 59, .int x1, .int x2, .long 1, .float 0, .long 1, .float 0, .retAddr 0, .retAddr 0, .retAddr 0, .retAddr 0, .retAddr 0, .retAddr 0]) d_252_31 rfl rfl rfl ?_
      refine e_iconst d_252_33 ci_0 rfl ?_
      refine e_istore (ls2 := [.ref 59, .int x1, .int x2, .long 1, .float 0, .long 1, .float 0, .int 0, .retAddr 0, .retAddr 0, .retAddr 0, .retAddr 0, .retAddr 0]) d_252_34 rfl rfl rfl ?_
      exact H
    · replace H := H.1 hc
      refine e_ldc2 d_252_24 oo_252 pL_9_498 rfl ?_
      subst H
      exact e_lret d_252_27 rr_252
theorem b_252_36 {t : Nat} {σ : Mm} {w : Option Value × Mm} {x1 : Int32} {x2 : Int32} {y3 : Int64} {y5 : Int64} {x7 : Int32} {z8 : Value} {z9 : Value} {z10 : Value} {z11 : Value} {z12 : Value} (hS : Sg t σ) 
    (H : (x7 < x1 → Ev 252 36 [.ref 59, .int x1, .int x2, .long (y3 * (Int32.toInt64 (100 - (mI σ 64 0)))), .float 0, .long (y5 * 100), .float 0, .int (x7 + 1), z8, z9, z10, z11, z12] [] σ w) ∧ (¬ (x7 < x1) → Ev 252 76 [.ref 59, .int x1, .int x2, .long y3, .float 0, .long y5, .float 0, .long y5, .float 0, .long y3, .float 0, z11, z12] [] σ w)) :
    Ev 252 36 [.ref 59, .int x1, .int x2, .long y3, .float 0, .long y5, .float 0, .int x7, z8, z9, z10, z11, z12] [] σ w := by
  refine e_iload d_252_36 rfl rfl ?_
  refine e_iload_n d_252_38 rfl rfl ?_
  refine e_icmp_ge (t := 69) d_252_39 (by decide) rfl (fun hc => ?_) (fun hc => ?_)
  · replace H := H.2 hc
    refine e_lload d_252_69 rfl rfl ?_
    refine e_lstore (ls2 := [.ref 59, .int x1, .int x2, .long y3, .float 0, .long y5, .float 0, .long y5, .float 0, z9, z10, z11, z12]) d_252_71 rfl rfl rfl ?_
    refine e_lload_n d_252_73 rfl rfl ?_
    refine e_lstore (ls2 := [.ref 59, .int x1, .int x2, .long y3, .float 0, .long y5, .float 0, .long y5, .float 0, .long y3, .float 0, z11, z12]) d_252_74 rfl rfl rfl ?_
    exact H
  · replace H := H.1 hc
    refine e_lload_n d_252_42 rfl rfl ?_
    refine e_bipush d_252_43 cb_100 rfl ?_
    refine e_aload_n d_252_45 rfl rfl ?_
    refine e_getR d_252_46 oo_252 pF_9_27 (by decide) (hS.k rfl) (hS.r rt_59_24) rfl ?_
    refine e_iconst d_252_49 ci_0 rfl ?_
    refine e_iaload (v := (mI σ 64 0)) d_252_50 (rdI_at (hS.k rfl) rfl) rfl ?_
    refine e_isub d_252_51 rfl ?_
    refine e_i2l d_252_52 rfl ?_
    refine e_lmul d_252_53 rfl ?_
    refine e_lstore_n (ls2 := [.ref 59, .int x1, .int x2, .long (y3 * (Int32.toInt64 (100 - (mI σ 64 0)))), .float 0, .long y5, .float 0, .int x7, z8, z9, z10, z11, z12]) d_252_54 rfl rfl rfl ?_
    refine e_lload d_252_55 rfl rfl ?_
    refine e_ldc2 d_252_57 oo_252 pL_9_500 rfl ?_
    refine e_lmul d_252_60 rfl ?_
    refine e_lstore (ls2 := [.ref 59, .int x1, .int x2, .long (y3 * (Int32.toInt64 (100 - (mI σ 64 0)))), .float 0, .long (y5 * 100), .float 0, .int x7, z8, z9, z10, z11, z12]) d_252_61 rfl rfl rfl ?_
    refine e_iinc (ls2 := [.ref 59, .int x1, .int x2, .long (y3 * (Int32.toInt64 (100 - (mI σ 64 0)))), .float 0, .long (y5 * 100), .float 0, .int (x7 + 1), z8, z9, z10, z11, z12]) d_252_63 rfl ci_1 rfl rfl rfl ?_
    refine e_goto (t := 36) d_252_66 (by decide) ?_
    exact H
theorem b_252_76 {t : Nat} {σ : Mm} {w : Option Value × Mm} {x1 : Int32} {x2 : Int32} {y3 : Int64} {y5 : Int64} {y7 : Int64} {y9 : Int64} {z11 : Value} {z12 : Value} (hS : Sg t σ) 
    (H : (y9 = 0 → ((x2 = 0 → (¬ y7 = 0 ∧ (w = (some (.long (y3 / y7)), σ)))) ∧ (¬ (x2 = 0) → (¬ y7 = 0 ∧ (w = (some (.long (y5 / y7)), σ)))))) ∧ (¬ (y9 = 0) → (¬ y9 = 0 ∧ Ev 252 76 [.ref 59, .int x1, .int x2, .long y3, .float 0, .long y5, .float 0, .long y9, .float 0, .long (y7 - y7 / y9 * y9), .float 0, .long (y7 - y7 / y9 * y9), .float 0] [] σ w))) :
    Ev 252 76 [.ref 59, .int x1, .int x2, .long y3, .float 0, .long y5, .float 0, .long y7, .float 0, .long y9, .float 0, z11, z12] [] σ w := by
  refine e_lload d_252_76 rfl rfl ?_
  refine e_lconst d_252_78 cl_0 rfl ?_
  refine e_lc_eq (t := 101) d_252_79 d_252_80 rfl (by decide) rfl (fun hc => ?_) (fun hc => ?_)
  · replace H := H.1 hc
    refine e_iload_n d_252_101 rfl rfl ?_
    refine e_if_ne (t := 112) d_252_102 (by decide) rfl (fun hc => ?_) (fun hc => ?_)
    · replace H := H.2 hc
      refine e_lload d_252_112 rfl rfl ?_
      refine e_lload d_252_114 rfl rfl ?_
      obtain ⟨hz, H⟩ := H
      refine e_ldiv d_252_116 hz rfl ?_
      subst H
      exact e_lret d_252_117 rr_252
    · replace H := H.1 hc
      refine e_lload_n d_252_105 rfl rfl ?_
      refine e_lload d_252_106 rfl rfl ?_
      obtain ⟨hz, H⟩ := H
      refine e_ldiv d_252_108 hz rfl ?_
      refine e_goto (t := 117) d_252_109 (by decide) ?_
      subst H
      exact e_lret d_252_117 rr_252
  · replace H := H.2 hc
    refine e_lload d_252_83 rfl rfl ?_
    refine e_lload d_252_85 rfl rfl ?_
    obtain ⟨hz, H⟩ := H
    refine e_lrem d_252_87 hz rfl ?_
    refine e_lstore (ls2 := [.ref 59, .int x1, .int x2, .long y3, .float 0, .long y5, .float 0, .long y7, .float 0, .long y9, .float 0, .long (y7 - y7 / y9 * y9), .float 0]) d_252_88 rfl rfl rfl ?_
    refine e_lload d_252_90 rfl rfl ?_
    refine e_lstore (ls2 := [.ref 59, .int x1, .int x2, .long y3, .float 0, .long y5, .float 0, .long y9, .float 0, .long y9, .float 0, .long (y7 - y7 / y9 * y9), .float 0]) d_252_92 rfl rfl rfl ?_
    refine e_lload d_252_94 rfl rfl ?_
    refine e_lstore (ls2 := [.ref 59, .int x1, .int x2, .long y3, .float 0, .long y5, .float 0, .long y9, .float 0, .long (y7 - y7 / y9 * y9), .float 0, .long (y7 - y7 / y9 * y9), .float 0]) d_252_96 rfl rfl rfl ?_
    refine e_goto (t := 76) d_252_98 (by decide) ?_
    exact H
/-! X9_notes1 -/
theorem b_253_0 {t : Nat} {σ : Mm} {w : Option Value × Mm} {x1 : Int32} {x2 : Int32} {x3 : Int32} (hS : Sg t σ) 
    (H : ((mI σ 59 68) = 24 → (w = (some (.int (-1)), σ))) ∧ (¬ ((mI σ 59 68) = 24) → (inb (3 * (mI σ 59 68)) 72 = true ∧ (∀ (σ1 : Mm), σ1 = uI σ 94 (3 * (mI σ 59 68)).toNatClampNeg x1 → (inb ((3 * (mI σ 59 68)) + 1) 72 = true ∧ (∀ (σ4 : Mm), σ4 = uI σ1 94 ((3 * (mI σ 59 68)) + 1).toNatClampNeg x2 → (inb ((3 * (mI σ 59 68)) + 2) 72 = true ∧ (∀ (σ7 : Mm), σ7 = uI σ4 94 ((3 * (mI σ 59 68)) + 2).toNatClampNeg x3 → (w = (some (.int ((mI (uI σ7 59 68 ((mI σ7 59 68) + 1)) 59 68) - 1)), uI σ7 59 68 ((mI σ7 59 68) + 1))))))))))) :
    Ev 253 0 [.ref 59, .int x1, .int x2, .int x3, .retAddr 0] [] σ w := by
  refine e_aload_n d_253_0 rfl rfl ?_
  refine e_getI d_253_1 oo_253 pF_9_365 (by decide) (hS.k rfl) rfl ?_
  refine e_bipush d_253_4 cb_24 rfl ?_
  refine e_icmp_ne (t := 11) d_253_6 (by decide) rfl (fun hc => ?_) (fun hc => ?_)
  · replace H := H.2 hc
    refine e_iconst d_253_11 ci_3 rfl ?_
    refine e_aload_n d_253_12 rfl rfl ?_
    refine e_getI d_253_13 oo_253 pF_9_365 (by decide) (hS.k rfl) rfl ?_
    refine e_imul d_253_16 rfl ?_
    refine e_istore (ls2 := [.ref 59, .int x1, .int x2, .int x3, .int (3 * (mI σ 59 68))]) d_253_17 rfl rfl rfl ?_
    refine e_aload_n d_253_19 rfl rfl ?_
    refine e_getR d_253_20 oo_253 pF_9_121 (by decide) (hS.k rfl) (hS.r rt_59_70) rfl ?_
    refine e_iload d_253_23 rfl rfl ?_
    refine e_iload_n d_253_25 rfl rfl ?_
    obtain ⟨hb, H⟩ := H
    refine e_iastore d_253_26 (okI_at (hS.k rfl) hb) rfl ?_
    generalize hm2 : uI σ 94 (3 * (mI σ 59 68)).toNatClampNeg x1 = σ1
    have hS3 : Sg t σ1 := by rw [← hm2]; exact hS.uI
    replace H := H σ1 hm2.symm
    refine e_aload_n d_253_27 rfl rfl ?_
    refine e_getR d_253_28 oo_253 pF_9_121 (by decide) (hS3.k rfl) (hS3.r rt_59_70) rfl ?_
    refine e_iload d_253_31 rfl rfl ?_
    refine e_iconst d_253_33 ci_1 rfl ?_
    refine e_iadd d_253_34 rfl ?_
    refine e_iload_n d_253_35 rfl rfl ?_
    obtain ⟨hb, H⟩ := H
    refine e_iastore d_253_36 (okI_at (hS3.k rfl) hb) rfl ?_
    generalize hm5 : uI σ1 94 ((3 * (mI σ 59 68)) + 1).toNatClampNeg x2 = σ4
    have hS6 : Sg t σ4 := by rw [← hm5]; exact hS3.uI
    replace H := H σ4 hm5.symm
    refine e_aload_n d_253_37 rfl rfl ?_
    refine e_getR d_253_38 oo_253 pF_9_121 (by decide) (hS6.k rfl) (hS6.r rt_59_70) rfl ?_
    refine e_iload d_253_41 rfl rfl ?_
    refine e_iconst d_253_43 ci_2 rfl ?_
    refine e_iadd d_253_44 rfl ?_
    refine e_iload_n d_253_45 rfl rfl ?_
    obtain ⟨hb, H⟩ := H
    refine e_iastore d_253_46 (okI_at (hS6.k rfl) hb) rfl ?_
    generalize hm8 : uI σ4 94 ((3 * (mI σ 59 68)) + 2).toNatClampNeg x3 = σ7
    have hS9 : Sg t σ7 := by rw [← hm8]; exact hS6.uI
    replace H := H σ7 hm8.symm
    refine e_aload_n d_253_47 rfl rfl ?_
    refine e_dup d_253_48 rfl rfl ?_
    refine e_getI d_253_49 oo_253 pF_9_365 (by decide) (hS9.k rfl) rfl ?_
    refine e_iconst d_253_52 ci_1 rfl ?_
    refine e_iadd d_253_53 rfl ?_
    refine e_putI d_253_54 oo_253 pF_9_365 (Or.inl rfl) (hS9.k rfl) rfl ?_
    refine e_aload_n d_253_57 rfl rfl ?_
    refine e_getI d_253_58 oo_253 pF_9_365 (by decide) (hS9.uI.k rfl) rfl ?_
    refine e_iconst d_253_61 ci_1 rfl ?_
    refine e_isub d_253_62 rfl ?_
    subst H
    exact e_iret d_253_63 rr_253
  · replace H := H.1 hc
    refine e_iconst d_253_9 ci_m1 rfl ?_
    subst H
    exact e_iret d_253_10 rr_253
/-! X9_note -/
theorem b_254_0 {t : Nat} {σ : Mm} {w : Option Value × Mm} {x1 : Int32} {x2 : Int32} {x3 : Int32} (hS : Sg t σ) 
    (H : (x1 = 0 → (∃ (v3 : Int32) (σ1 : Mm), Cl 199 [.ref 59, .int x2] (uI σ 59 2 0) (some (.int v3), σ1) ∧ Sg t σ1 ∧ ((v3 = 0 → Ev 254 17 [.ref 59, .int x1, .int x2, .int x3] [] σ1 w) ∧ (¬ (v3 = 0) → ((x3 = 0 → (∃ (v6 : Int32) (σ4 : Mm), Cl 253 [.ref 59, .int x1, .int x2, .int 0] σ1 (some (.int v6), σ4) ∧ Sg t σ4 ∧ (w = (some (.int v6), σ4)))) ∧ (¬ (x3 = 0) → (∃ (v9 : Int32) (σ7 : Mm), Cl 253 [.ref 59, .int x1, .int x2, .int 1] σ1 (some (.int v9), σ7) ∧ Sg t σ7 ∧ (w = (some (.int v9), σ7))))))))) ∧ (¬ (x1 = 0) → Ev 254 17 [.ref 59, .int x1, .int x2, .int x3] [] (uI σ 59 2 0) w)) :
    Ev 254 0 [.ref 59, .int x1, .int x2, .int x3] [] σ w := by
  refine e_aload_n d_254_0 rfl rfl ?_
  refine e_iconst d_254_1 ci_0 rfl ?_
  refine e_putI d_254_2 oo_254 pF_9_142 (Or.inl rfl) (hS.k rfl) rfl ?_
  refine e_iload_n d_254_5 rfl rfl ?_
  refine e_if_ne (t := 17) d_254_6 (by decide) rfl (fun hc => ?_) (fun hc => ?_)
  · replace H := H.2 hc
    exact H
  · replace H := H.1 hc
    refine e_aload_n d_254_9 rfl rfl ?_
    refine e_iload_n d_254_10 rfl rfl ?_
    obtain ⟨v3, σ1, hcl, hS2, H⟩ := H
    refine e_vcall (w1 := (some (.int v3), σ1)) d_254_11 kc_254_11 rfl ⟨Nat.le_of_ble_eq_true rfl, xx_254.symm⟩ rfl hcl ?_
    show Ev 254 14 [.ref 59, .int x1, .int x2, .int x3] [.int v3] σ1 w
    refine e_if_ne (t := 30) d_254_14 (by decide) rfl (fun hc => ?_) (fun hc => ?_)
    · replace H := H.2 hc
      refine e_aload_n d_254_30 rfl rfl ?_
      refine e_iload_n d_254_31 rfl rfl ?_
      refine e_iload_n d_254_32 rfl rfl ?_
      refine e_iload_n d_254_33 rfl rfl ?_
      refine e_if_eq (t := 41) d_254_34 (by decide) rfl (fun hc => ?_) (fun hc => ?_)
      · replace H := H.1 hc
        refine e_iconst d_254_41 ci_0 rfl ?_
        obtain ⟨v6, σ4, hcl, hS5, H⟩ := H
        refine e_vcall (w1 := (some (.int v6), σ4)) d_254_42 kc_254_42 rfl ⟨Nat.le_of_ble_eq_true rfl, xx_254.symm⟩ rfl hcl ?_
        show Ev 254 45 [.ref 59, .int x1, .int x2, .int x3] [.int v6] σ4 w
        refine e_goto (t := 49) d_254_45 (by decide) ?_
        subst H
        exact e_iret d_254_49 rr_254
      · replace H := H.2 hc
        refine e_iconst d_254_37 ci_1 rfl ?_
        refine e_goto (t := 42) d_254_38 (by decide) ?_
        obtain ⟨v9, σ7, hcl, hS8, H⟩ := H
        refine e_vcall (w1 := (some (.int v9), σ7)) d_254_42 kc_254_42 rfl ⟨Nat.le_of_ble_eq_true rfl, xx_254.symm⟩ rfl hcl ?_
        show Ev 254 45 [.ref 59, .int x1, .int x2, .int x3] [.int v9] σ7 w
        refine e_goto (t := 49) d_254_45 (by decide) ?_
        subst H
        exact e_iret d_254_49 rr_254
    · replace H := H.1 hc
      exact H
theorem b_254_17 {t : Nat} {σ : Mm} {w : Option Value × Mm} {x1 : Int32} {x2 : Int32} {x3 : Int32} (hS : Sg t σ) 
    (H : (x1 = 1 → (∃ (v3 : Int32) (σ1 : Mm), Cl 200 [.ref 59, .int x2] σ (some (.int v3), σ1) ∧ Sg t σ1 ∧ ((v3 = 0 → (w = (some (.int (-1)), σ1))) ∧ (¬ (v3 = 0) → ((x3 = 0 → (∃ (v6 : Int32) (σ4 : Mm), Cl 253 [.ref 59, .int x1, .int x2, .int 0] σ1 (some (.int v6), σ4) ∧ Sg t σ4 ∧ (w = (some (.int v6), σ4)))) ∧ (¬ (x3 = 0) → (∃ (v9 : Int32) (σ7 : Mm), Cl 253 [.ref 59, .int x1, .int x2, .int 1] σ1 (some (.int v9), σ7) ∧ Sg t σ7 ∧ (w = (some (.int v9), σ7))))))))) ∧ (¬ (x1 = 1) → (w = (some (.int (-1)), σ)))) :
    Ev 254 17 [.ref 59, .int x1, .int x2, .int x3] [] σ w := by
  refine e_iload_n d_254_17 rfl rfl ?_
  refine e_iconst d_254_18 ci_1 rfl ?_
  refine e_icmp_ne (t := 48) d_254_19 (by decide) rfl (fun hc => ?_) (fun hc => ?_)
  · replace H := H.2 hc
    refine e_iconst d_254_48 ci_m1 rfl ?_
    subst H
    exact e_iret d_254_49 rr_254
  · replace H := H.1 hc
    refine e_aload_n d_254_22 rfl rfl ?_
    refine e_iload_n d_254_23 rfl rfl ?_
    obtain ⟨v3, σ1, hcl, hS2, H⟩ := H
    refine e_vcall (w1 := (some (.int v3), σ1)) d_254_24 kc_254_24 rfl ⟨Nat.le_of_ble_eq_true rfl, xx_254.symm⟩ rfl hcl ?_
    show Ev 254 27 [.ref 59, .int x1, .int x2, .int x3] [.int v3] σ1 w
    refine e_if_eq (t := 48) d_254_27 (by decide) rfl (fun hc => ?_) (fun hc => ?_)
    · replace H := H.1 hc
      refine e_iconst d_254_48 ci_m1 rfl ?_
      subst H
      exact e_iret d_254_49 rr_254
    · replace H := H.2 hc
      refine e_aload_n d_254_30 rfl rfl ?_
      refine e_iload_n d_254_31 rfl rfl ?_
      refine e_iload_n d_254_32 rfl rfl ?_
      refine e_iload_n d_254_33 rfl rfl ?_
      refine e_if_eq (t := 41) d_254_34 (by decide) rfl (fun hc => ?_) (fun hc => ?_)
      · replace H := H.1 hc
        refine e_iconst d_254_41 ci_0 rfl ?_
        obtain ⟨v6, σ4, hcl, hS5, H⟩ := H
        refine e_vcall (w1 := (some (.int v6), σ4)) d_254_42 kc_254_42 rfl ⟨Nat.le_of_ble_eq_true rfl, xx_254.symm⟩ rfl hcl ?_
        show Ev 254 45 [.ref 59, .int x1, .int x2, .int x3] [.int v6] σ4 w
        refine e_goto (t := 49) d_254_45 (by decide) ?_
        subst H
        exact e_iret d_254_49 rr_254
      · replace H := H.2 hc
        refine e_iconst d_254_37 ci_1 rfl ?_
        refine e_goto (t := 42) d_254_38 (by decide) ?_
        obtain ⟨v9, σ7, hcl, hS8, H⟩ := H
        refine e_vcall (w1 := (some (.int v9), σ7)) d_254_42 kc_254_42 rfl ⟨Nat.le_of_ble_eq_true rfl, xx_254.symm⟩ rfl hcl ?_
        show Ev 254 45 [.ref 59, .int x1, .int x2, .int x3] [.int v9] σ7 w
        refine e_goto (t := 49) d_254_45 (by decide) ?_
        subst H
        exact e_iret d_254_49 rr_254
/-! X9_strike -/
theorem b_255_0 {t : Nat} {σ : Mm} {w : Option Value × Mm} {x1 : Int32} (hS : Sg t σ) 
    (H : (x1 < 0 → (w = (some (.int (-1)), uI σ 59 2 0))) ∧ (¬ (x1 < 0) → ((x1 < (mI (uI σ 59 2 0) 59 68) → (∃ (v3 : Int32) (σ1 : Mm), Cl 253 [.ref 59, .int 2, .int x1, .int 0] (uI σ 59 2 0) (some (.int v3), σ1) ∧ Sg t σ1 ∧ (w = (some (.int v3), σ1)))) ∧ (¬ (x1 < (mI (uI σ 59 2 0) 59 68)) → (w = (some (.int (-1)), uI σ 59 2 0)))))) :
    Ev 255 0 [.ref 59, .int x1] [] σ w := by
  refine e_aload_n d_255_0 rfl rfl ?_
  refine e_iconst d_255_1 ci_0 rfl ?_
  refine e_putI d_255_2 oo_255 pF_9_142 (Or.inl rfl) (hS.k rfl) rfl ?_
  refine e_iload_n d_255_5 rfl rfl ?_
  refine e_if_lt (t := 17) d_255_6 (by decide) rfl (fun hc => ?_) (fun hc => ?_)
  · replace H := H.1 hc
    refine e_iconst d_255_17 ci_m1 rfl ?_
    refine e_goto (t := 28) d_255_18 (by decide) ?_
    subst H
    exact e_iret d_255_28 rr_255
  · replace H := H.2 hc
    refine e_iload_n d_255_9 rfl rfl ?_
    refine e_aload_n d_255_10 rfl rfl ?_
    refine e_getI d_255_11 oo_255 pF_9_365 (by decide) (hS.uI.k rfl) rfl ?_
    refine e_icmp_lt (t := 21) d_255_14 (by decide) rfl (fun hc => ?_) (fun hc => ?_)
    · replace H := H.1 hc
      refine e_aload_n d_255_21 rfl rfl ?_
      refine e_iconst d_255_22 ci_2 rfl ?_
      refine e_iload_n d_255_23 rfl rfl ?_
      refine e_iconst d_255_24 ci_0 rfl ?_
      obtain ⟨v3, σ1, hcl, hS2, H⟩ := H
      refine e_vcall (w1 := (some (.int v3), σ1)) d_255_25 kc_255_25 rfl ⟨Nat.le_of_ble_eq_true rfl, xx_255.symm⟩ rfl hcl ?_
      show Ev 255 28 [.ref 59, .int x1] [.int v3] σ1 w
      subst H
      exact e_iret d_255_28 rr_255
    · replace H := H.2 hc
      refine e_iconst d_255_17 ci_m1 rfl ?_
      refine e_goto (t := 28) d_255_18 (by decide) ?_
      subst H
      exact e_iret d_255_28 rr_255
/-! X9_known -/
theorem b_256_0 {t : Nat} {σ : Mm} {w : Option Value × Mm} {x1 : Int32} (hS : Sg t σ) 
    (H : ∃ (v3 : Int32) (σ1 : Mm), Cl 152 [.int x1, .int (-1), .int (mI (uI σ 59 2 0) 59 68)] (uI σ 59 2 0) (some (.int v3), σ1) ∧ Sg t σ1 ∧ ((v3 = 0 → (w = (some (.int 0), σ1))) ∧ (¬ (v3 = 0) → (w = (some (.int 1), uI σ1 59 69 x1))))) :
    Ev 256 0 [.ref 59, .int x1] [] σ w := by
  refine e_aload_n d_256_0 rfl rfl ?_
  refine e_iconst d_256_1 ci_0 rfl ?_
  refine e_putI d_256_2 oo_256 pF_9_142 (Or.inl rfl) (hS.k rfl) rfl ?_
  refine e_iload_n d_256_5 rfl rfl ?_
  refine e_iconst d_256_6 ci_m1 rfl ?_
  refine e_aload_n d_256_7 rfl rfl ?_
  refine e_getI d_256_8 oo_256 pF_9_365 (by decide) (hS.uI.k rfl) rfl ?_
  obtain ⟨v3, σ1, hcl, hS2, H⟩ := H
  refine e_scall (w1 := (some (.int v3), σ1)) d_256_11 kc_256_11 rfl ⟨Nat.le_of_ble_eq_true rfl, xx_256.symm⟩ rfl hcl ?_
  show Ev 256 14 [.ref 59, .int x1] [.int v3] σ1 w
  refine e_if_ne (t := 19) d_256_14 (by decide) rfl (fun hc => ?_) (fun hc => ?_)
  · replace H := H.2 hc
    refine e_aload_n d_256_19 rfl rfl ?_
    refine e_iload_n d_256_20 rfl rfl ?_
    refine e_putI d_256_21 oo_256 pF_9_118 (Or.inl rfl) (hS2.k rfl) rfl ?_
    refine e_iconst d_256_24 ci_1 rfl ?_
    subst H
    exact e_zret d_256_25 rr_256 (Or.inr rfl)
  · replace H := H.1 hc
    refine e_iconst d_256_17 ci_0 rfl ?_
    subst H
    exact e_zret d_256_18 rr_256 (Or.inl rfl)
/-! X9_knownBy -/
theorem b_257_0 {t : Nat} {σ : Mm} {w : Option Value × Mm}  (hS : Sg t σ) 
    (H : ((mI σ 59 69) < 0 → (w = (some (.int (mI σ 59 68)), σ))) ∧ (¬ ((mI σ 59 69) < 0) → (w = (some (.int (mI σ 59 69)), σ)))) :
    Ev 257 0 [.ref 59] [] σ w := by
  refine e_aload_n d_257_0 rfl rfl ?_
  refine e_getI d_257_1 oo_257 pF_9_118 (by decide) (hS.k rfl) rfl ?_
  refine e_if_ge (t := 14) d_257_4 (by decide) rfl (fun hc => ?_) (fun hc => ?_)
  · replace H := H.2 hc
    refine e_aload_n d_257_14 rfl rfl ?_
    refine e_getI d_257_15 oo_257 pF_9_118 (by decide) (hS.k rfl) rfl ?_
    subst H
    exact e_iret d_257_18 rr_257
  · replace H := H.1 hc
    refine e_aload_n d_257_7 rfl rfl ?_
    refine e_getI d_257_8 oo_257 pF_9_365 (by decide) (hS.k rfl) rfl ?_
    refine e_goto (t := 18) d_257_11 (by decide) ?_
    subst H
    exact e_iret d_257_18 rr_257
/-! X9_layCounts -/
theorem b_258_0 {t : Nat} {σ : Mm} {w : Option Value × Mm}  (hS : Sg t σ) 
    (H : Ev 258 2 [.ref 59, .int 0] [] σ w) :
    Ev 258 0 [.ref 59, .retAddr 0] [] σ w := by
  refine e_iconst d_258_0 ci_0 rfl ?_
  refine e_istore_n (ls2 := [.ref 59, .int 0]) d_258_1 rfl rfl rfl ?_
  exact H
theorem b_258_2 {t : Nat} {σ : Mm} {w : Option Value × Mm} {x1 : Int32} (hS : Sg t σ) 
    (H : ∃ (v3 : Int32) (σ1 : Mm), Cl 257 [.ref 59] σ (some (.int v3), σ1) ∧ Sg t σ1 ∧ ((x1 < v3 → (inb x1 24 = true ∧ Ev 258 2 [.ref 59, .int (x1 + 1)] [] (uI σ1 95 x1.toNatClampNeg (1 &&& 1)) w)) ∧ (¬ (x1 < v3) → (∃ (v6 : Int32) (σ4 : Mm), Cl 257 [.ref 59] σ1 (some (.int v6), σ4) ∧ Sg t σ4 ∧ Ev 258 30 [.ref 59, .int (v6 - 1)] [] σ4 w)))) :
    Ev 258 2 [.ref 59, .int x1] [] σ w := by
  refine e_iload_n d_258_2 rfl rfl ?_
  refine e_aload_n d_258_3 rfl rfl ?_
  obtain ⟨v3, σ1, hcl, hS2, H⟩ := H
  refine e_vcall (w1 := (some (.int v3), σ1)) d_258_4 kc_258_4 rfl ⟨Nat.le_of_ble_eq_true rfl, xx_258.symm⟩ rfl hcl ?_
  show Ev 258 7 [.ref 59, .int x1] [.int v3, .int x1] σ1 w
  refine e_icmp_ge (t := 23) d_258_7 (by decide) rfl (fun hc => ?_) (fun hc => ?_)
  · replace H := H.2 hc
    refine e_aload_n d_258_23 rfl rfl ?_
    obtain ⟨v6, σ4, hcl, hS5, H⟩ := H
    refine e_vcall (w1 := (some (.int v6), σ4)) d_258_24 kc_258_24 rfl ⟨Nat.le_of_ble_eq_true rfl, xx_258.symm⟩ rfl hcl ?_
    show Ev 258 27 [.ref 59, .int x1] [.int v6] σ4 w
    refine e_iconst d_258_27 ci_1 rfl ?_
    refine e_isub d_258_28 rfl ?_
    refine e_istore_n (ls2 := [.ref 59, .int (v6 - 1)]) d_258_29 rfl rfl rfl ?_
    exact H
  · replace H := H.1 hc
    refine e_aload_n d_258_10 rfl rfl ?_
    refine e_getR d_258_11 oo_258 pF_9_124 (by decide) (hS2.k rfl) (hS2.r rt_59_71) rfl ?_
    refine e_iload_n d_258_14 rfl rfl ?_
    refine e_iconst d_258_15 ci_1 rfl ?_
    obtain ⟨hb, H⟩ := H
    refine e_bastoreZ d_258_16 (okI_no (hS2.k rfl)) (okI_at (hS2.k rfl) hb) rfl ?_
    refine e_iinc (ls2 := [.ref 59, .int (x1 + 1)]) d_258_17 rfl ci_1 rfl rfl rfl ?_
    refine e_goto (t := 2) d_258_20 (by decide) ?_
    exact H
theorem b_258_30 {t : Nat} {σ : Mm} {w : Option Value × Mm} {x1 : Int32} (hS : Sg t σ) 
    (H : (x1 < 0 → (w = (none, σ))) ∧ (¬ (x1 < 0) → (inb x1 24 = true ∧ (((mI σ 95 x1.toNatClampNeg) = 0 → Ev 258 30 [.ref 59, .int (x1 + (-1))] [] σ w) ∧ (¬ ((mI σ 95 x1.toNatClampNeg) = 0) → (inb (3 * x1) 72 = true ∧ (((mI σ 94 (3 * x1).toNatClampNeg) = 2 → (inb ((3 * x1) + 1) 72 = true ∧ (inb (mI σ 94 ((3 * x1) + 1).toNatClampNeg) 24 = true ∧ (∀ (σ1 : Mm), σ1 = uI σ 95 (mI σ 94 ((3 * x1) + 1).toNatClampNeg).toNatClampNeg (0 &&& 1) → Ev 258 30 [.ref 59, .int (x1 + (-1))] [] σ1 w)))) ∧ (¬ ((mI σ 94 (3 * x1).toNatClampNeg) = 2) → Ev 258 30 [.ref 59, .int (x1 + (-1))] [] σ w)))))))) :
    Ev 258 30 [.ref 59, .int x1] [] σ w := by
  refine e_iload_n d_258_30 rfl rfl ?_
  refine e_if_lt (t := 77) d_258_31 (by decide) rfl (fun hc => ?_) (fun hc => ?_)
  · replace H := H.1 hc
    subst H
    exact e_vret d_258_77 rr_258
  · replace H := H.2 hc
    refine e_aload_n d_258_34 rfl rfl ?_
    refine e_getR d_258_35 oo_258 pF_9_124 (by decide) (hS.k rfl) (hS.r rt_59_71) rfl ?_
    refine e_iload_n d_258_38 rfl rfl ?_
    obtain ⟨hb, H⟩ := H
    refine e_baload (v := (mI σ 95 x1.toNatClampNeg)) d_258_39 (rdB_at (hS.k rfl) (Or.inr rfl) hb) rfl ?_
    refine e_if_eq (t := 71) d_258_40 (by decide) rfl (fun hc => ?_) (fun hc => ?_)
    · replace H := H.1 hc
      refine e_iinc (ls2 := [.ref 59, .int (x1 + (-1))]) d_258_71 rfl ci_m1 rfl rfl rfl ?_
      refine e_goto (t := 30) d_258_74 (by decide) ?_
      exact H
    · replace H := H.2 hc
      refine e_aload_n d_258_43 rfl rfl ?_
      refine e_getR d_258_44 oo_258 pF_9_121 (by decide) (hS.k rfl) (hS.r rt_59_70) rfl ?_
      refine e_iconst d_258_47 ci_3 rfl ?_
      refine e_iload_n d_258_48 rfl rfl ?_
      refine e_imul d_258_49 rfl ?_
      obtain ⟨hb, H⟩ := H
      refine e_iaload (v := (mI σ 94 (3 * x1).toNatClampNeg)) d_258_50 (rdI_at (hS.k rfl) hb) rfl ?_
      refine e_iconst d_258_51 ci_2 rfl ?_
      refine e_icmp_ne (t := 71) d_258_52 (by decide) rfl (fun hc => ?_) (fun hc => ?_)
      · replace H := H.2 hc
        refine e_iinc (ls2 := [.ref 59, .int (x1 + (-1))]) d_258_71 rfl ci_m1 rfl rfl rfl ?_
        refine e_goto (t := 30) d_258_74 (by decide) ?_
        exact H
      · replace H := H.1 hc
        refine e_aload_n d_258_55 rfl rfl ?_
        refine e_getR d_258_56 oo_258 pF_9_124 (by decide) (hS.k rfl) (hS.r rt_59_71) rfl ?_
        refine e_aload_n d_258_59 rfl rfl ?_
        refine e_getR d_258_60 oo_258 pF_9_121 (by decide) (hS.k rfl) (hS.r rt_59_70) rfl ?_
        refine e_iconst d_258_63 ci_3 rfl ?_
        refine e_iload_n d_258_64 rfl rfl ?_
        refine e_imul d_258_65 rfl ?_
        refine e_iconst d_258_66 ci_1 rfl ?_
        refine e_iadd d_258_67 rfl ?_
        obtain ⟨hb, H⟩ := H
        refine e_iaload (v := (mI σ 94 ((3 * x1) + 1).toNatClampNeg)) d_258_68 (rdI_at (hS.k rfl) hb) rfl ?_
        refine e_iconst d_258_69 ci_0 rfl ?_
        obtain ⟨hb, H⟩ := H
        refine e_bastoreZ d_258_70 (okI_no (hS.k rfl)) (okI_at (hS.k rfl) hb) rfl ?_
        generalize hm2 : uI σ 95 (mI σ 94 ((3 * x1) + 1).toNatClampNeg).toNatClampNeg (0 &&& 1) = σ1
        have hS3 : Sg t σ1 := by rw [← hm2]; exact hS.uI
        replace H := H σ1 hm2.symm
        refine e_iinc (ls2 := [.ref 59, .int (x1 + (-1))]) d_258_71 rfl ci_m1 rfl rfl rfl ?_
        refine e_goto (t := 30) d_258_74 (by decide) ?_
        exact H
