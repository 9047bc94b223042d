/-! X9_eveningBy -/
theorem b_259_0 {t : Nat} {σ : Mm} {w : Option Value × Mm} {x1 : Int32} (hS : Sg t σ) 
    (H : Ev 259 9 [.ref 59, .int x1, .int (mI σ 62 0), .int 0] [] σ w) :
    Ev 259 0 [.ref 59, .int x1, .retAddr 0, .retAddr 0] [] σ w := by
  refine e_aload_n d_259_0 rfl rfl ?_
  refine e_getR d_259_1 oo_259 pF_9_20 (by decide) (hS.k rfl) (hS.r rt_59_22) rfl ?_
  refine e_iconst d_259_4 ci_0 rfl ?_
  refine e_iaload (v := (mI σ 62 0)) d_259_5 (rdI_at (hS.k rfl) rfl) rfl ?_
  refine e_istore_n (ls2 := [.ref 59, .int x1, .int (mI σ 62 0), .retAddr 0]) d_259_6 rfl rfl rfl ?_
  refine e_iconst d_259_7 ci_0 rfl ?_
  refine e_istore_n (ls2 := [.ref 59, .int x1, .int (mI σ 62 0), .int 0]) d_259_8 rfl rfl rfl ?_
  exact H
theorem b_259_9 {t : Nat} {σ : Mm} {w : Option Value × Mm} {x1 : Int32} {x2 : Int32} {x3 : Int32} (hS : Sg t σ) 
    (H : (x3 < (mI σ 59 13) → (∃ (v3 : Int32) (σ1 : Mm), Cl 153 [.int x1, .int x3] σ (some (.int v3), σ1) ∧ Sg t σ1 ∧ ((v3 = 0 → Ev 259 9 [.ref 59, .int x1, .int (x2 ^^^ 0), .int (x3 + 1)] [] σ1 w) ∧ (¬ (v3 = 0) → (inb x3 20 = true ∧ Ev 259 9 [.ref 59, .int x1, .int (x2 ^^^ (mI σ1 68 x3.toNatClampNeg)), .int (x3 + 1)] [] σ1 w))))) ∧ (¬ (x3 < (mI σ 59 13)) → (w = (some (.int x2), σ)))) :
    Ev 259 9 [.ref 59, .int x1, .int x2, .int x3] [] σ w := by
  refine e_iload_n d_259_9 rfl rfl ?_
  refine e_aload_n d_259_10 rfl rfl ?_
  refine e_getI d_259_11 oo_259 pF_9_225 (by decide) (hS.k rfl) rfl ?_
  refine e_icmp_ge (t := 44) d_259_14 (by decide) rfl (fun hc => ?_) (fun hc => ?_)
  · replace H := H.2 hc
    refine e_iload_n d_259_44 rfl rfl ?_
    subst H
    exact e_iret d_259_45 rr_259
  · replace H := H.1 hc
    refine e_iload_n d_259_17 rfl rfl ?_
    refine e_iload_n d_259_18 rfl rfl ?_
    refine e_iload_n d_259_19 rfl rfl ?_
    obtain ⟨v3, σ1, hcl, hS2, H⟩ := H
    refine e_scall (w1 := (some (.int v3), σ1)) d_259_20 kc_259_20 rfl ⟨Nat.le_of_ble_eq_true rfl, xx_259.symm⟩ rfl hcl ?_
    show Ev 259 23 [.ref 59, .int x1, .int x2, .int x3] [.int v3, .int x2] σ1 w
    refine e_if_eq (t := 35) d_259_23 (by decide) rfl (fun hc => ?_) (fun hc => ?_)
    · replace H := H.1 hc
      refine e_iconst d_259_35 ci_0 rfl ?_
      refine e_ixor d_259_36 rfl ?_
      refine e_istore_n (ls2 := [.ref 59, .int x1, .int (x2 ^^^ 0), .int x3]) d_259_37 rfl rfl rfl ?_
      refine e_iinc (ls2 := [.ref 59, .int x1, .int (x2 ^^^ 0), .int (x3 + 1)]) d_259_38 rfl ci_1 rfl rfl rfl ?_
      refine e_goto (t := 9) d_259_41 (by decide) ?_
      exact H
    · replace H := H.2 hc
      refine e_aload_n d_259_26 rfl rfl ?_
      refine e_getR d_259_27 oo_259 pF_9_39 (by decide) (hS2.k rfl) (hS2.r rt_59_28) rfl ?_
      refine e_iload_n d_259_30 rfl rfl ?_
      obtain ⟨hb, H⟩ := H
      refine e_iaload (v := (mI σ1 68 x3.toNatClampNeg)) d_259_31 (rdI_at (hS2.k rfl) hb) rfl ?_
      refine e_goto (t := 36) d_259_32 (by decide) ?_
      refine e_ixor d_259_36 rfl ?_
      refine e_istore_n (ls2 := [.ref 59, .int x1, .int (x2 ^^^ (mI σ1 68 x3.toNatClampNeg)), .int x3]) d_259_37 rfl rfl rfl ?_
      refine e_iinc (ls2 := [.ref 59, .int x1, .int (x2 ^^^ (mI σ1 68 x3.toNatClampNeg)), .int (x3 + 1)]) d_259_38 rfl ci_1 rfl rfl rfl ?_
      refine e_goto (t := 9) d_259_41 (by decide) ?_
      exact H
/-! X9_isSo -/
theorem b_260_0 {t : Nat} {σ : Mm} {w : Option Value × Mm} {x1 : Int32} (hS : Sg t σ) 
    (H : ∃ (v3 : Int32) (σ1 : Mm), Cl 259 [.ref 59, .int x1] σ (some (.int v3), σ1) ∧ Sg t σ1 ∧ Ev 260 8 [.ref 59, .int x1, .int v3, .int 0, .retAddr 0] [] σ1 w) :
    Ev 260 0 [.ref 59, .int x1, .retAddr 0, .retAddr 0, .retAddr 0] [] σ w := by
  refine e_aload_n d_260_0 rfl rfl ?_
  refine e_iload_n d_260_1 rfl rfl ?_
  obtain ⟨v3, σ1, hcl, hS2, H⟩ := H
  refine e_vcall (w1 := (some (.int v3), σ1)) d_260_2 kc_260_2 rfl ⟨Nat.le_of_ble_eq_true rfl, xx_260.symm⟩ rfl hcl ?_
  show Ev 260 5 [.ref 59, .int x1, .retAddr 0, .retAddr 0, .retAddr 0] [.int v3] σ1 w
  refine e_istore_n (ls2 := [.ref 59, .int x1, .int v3, .retAddr 0, .retAddr 0]) d_260_5 rfl rfl rfl ?_
  refine e_iconst d_260_6 ci_0 rfl ?_
  refine e_istore_n (ls2 := [.ref 59, .int x1, .int v3, .int 0, .retAddr 0]) d_260_7 rfl rfl rfl ?_
  exact H
theorem b_260_8 {t : Nat} {σ : Mm} {w : Option Value × Mm} {x1 : Int32} {x2 : Int32} {x3 : Int32} {z4 : Value} (hS : Sg t σ) 
    (H : ∃ (v3 : Int32) (σ1 : Mm), Cl 257 [.ref 59] σ (some (.int v3), σ1) ∧ Sg t σ1 ∧ ((x3 < v3 → (inb x3 24 = true ∧ (((mI σ1 95 x3.toNatClampNeg) = 0 → Ev 260 8 [.ref 59, .int x1, .int x2, .int (x3 + 1), .int (3 * x3)] [] σ1 w) ∧ (¬ ((mI σ1 95 x3.toNatClampNeg) = 0) → (inb (3 * x3) 72 = true ∧ (((mI σ1 94 (3 * x3).toNatClampNeg) = 2 → Ev 260 8 [.ref 59, .int x1, .int x2, .int (x3 + 1), .int (3 * x3)] [] σ1 w) ∧ (¬ ((mI σ1 94 (3 * x3).toNatClampNeg) = 2) → (inb (3 * x3) 72 = true ∧ (((mI σ1 94 (3 * x3).toNatClampNeg) = 0 → Ev 260 59 [.ref 59, .int x1, .int x2, .int x3, .int (3 * x3)] [.int x2] σ1 w) ∧ (¬ ((mI σ1 94 (3 * x3).toNatClampNeg) = 0) → Ev 260 59 [.ref 59, .int x1, .int x2, .int x3, .int (3 * x3)] [.int x1] σ1 w)))))))))) ∧ (¬ (x3 < v3) → (w = (some (.int 1), σ1))))) :
    Ev 260 8 [.ref 59, .int x1, .int x2, .int x3, z4] [] σ w := by
  refine e_iload_n d_260_8 rfl rfl ?_
  refine e_aload_n d_260_9 rfl rfl ?_
  obtain ⟨v3, σ1, hcl, hS2, H⟩ := H
  refine e_vcall (w1 := (some (.int v3), σ1)) d_260_10 kc_260_10 rfl ⟨Nat.le_of_ble_eq_true rfl, xx_260.symm⟩ rfl hcl ?_
  show Ev 260 13 [.ref 59, .int x1, .int x2, .int x3, z4] [.int v3, .int x3] σ1 w
  refine e_icmp_ge (t := 100) d_260_13 (by decide) rfl (fun hc => ?_) (fun hc => ?_)
  · replace H := H.2 hc
    refine e_iconst d_260_100 ci_1 rfl ?_
    subst H
    exact e_zret d_260_101 rr_260 (Or.inr rfl)
  · replace H := H.1 hc
    refine e_iconst d_260_16 ci_3 rfl ?_
    refine e_iload_n d_260_17 rfl rfl ?_
    refine e_imul d_260_18 rfl ?_
    refine e_istore (ls2 := [.ref 59, .int x1, .int x2, .int x3, .int (3 * x3)]) d_260_19 rfl rfl rfl ?_
    refine e_aload_n d_260_21 rfl rfl ?_
    refine e_getR d_260_22 oo_260 pF_9_124 (by decide) (hS2.k rfl) (hS2.r rt_59_71) rfl ?_
    refine e_iload_n d_260_25 rfl rfl ?_
    obtain ⟨hb, H⟩ := H
    refine e_baload (v := (mI σ1 95 x3.toNatClampNeg)) d_260_26 (rdB_at (hS2.k rfl) (Or.inr rfl) hb) rfl ?_
    refine e_if_eq (t := 94) d_260_27 (by decide) rfl (fun hc => ?_) (fun hc => ?_)
    · replace H := H.1 hc
      refine e_iinc (ls2 := [.ref 59, .int x1, .int x2, .int (x3 + 1), .int (3 * x3)]) d_260_94 rfl ci_1 rfl rfl rfl ?_
      refine e_goto (t := 8) d_260_97 (by decide) ?_
      exact H
    · replace H := H.2 hc
      refine e_aload_n d_260_30 rfl rfl ?_
      refine e_getR d_260_31 oo_260 pF_9_121 (by decide) (hS2.k rfl) (hS2.r rt_59_70) rfl ?_
      refine e_iload d_260_34 rfl rfl ?_
      obtain ⟨hb, H⟩ := H
      refine e_iaload (v := (mI σ1 94 (3 * x3).toNatClampNeg)) d_260_36 (rdI_at (hS2.k rfl) hb) rfl ?_
      refine e_iconst d_260_37 ci_2 rfl ?_
      refine e_icmp_ne (t := 44) d_260_38 (by decide) rfl (fun hc => ?_) (fun hc => ?_)
      · replace H := H.2 hc
        refine e_aload_n d_260_44 rfl rfl ?_
        refine e_getR d_260_45 oo_260 pF_9_121 (by decide) (hS2.k rfl) (hS2.r rt_59_70) rfl ?_
        refine e_iload d_260_48 rfl rfl ?_
        obtain ⟨hb, H⟩ := H
        refine e_iaload (v := (mI σ1 94 (3 * x3).toNatClampNeg)) d_260_50 (rdI_at (hS2.k rfl) hb) rfl ?_
        refine e_if_ne (t := 58) d_260_51 (by decide) rfl (fun hc => ?_) (fun hc => ?_)
        · replace H := H.2 hc
          refine e_iload_n d_260_58 rfl rfl ?_
          exact H
        · replace H := H.1 hc
          refine e_iload_n d_260_54 rfl rfl ?_
          refine e_goto (t := 59) d_260_55 (by decide) ?_
          exact H
      · replace H := H.1 hc
        refine e_goto (t := 94) d_260_41 (by decide) ?_
        refine e_iinc (ls2 := [.ref 59, .int x1, .int x2, .int (x3 + 1), .int (3 * x3)]) d_260_94 rfl ci_1 rfl rfl rfl ?_
        refine e_goto (t := 8) d_260_97 (by decide) ?_
        exact H
theorem b_260_59 {t : Nat} {σ : Mm} {w : Option Value × Mm} {x1 : Int32} {x2 : Int32} {x3 : Int32} {x4 : Int32} {s0 : Int32} (hS : Sg t σ) 
    (H : inb (x4 + 1) 72 = true ∧ (∃ (v3 : Int32) (σ1 : Mm), Cl 153 [.int s0, .int (mI σ 94 (x4 + 1).toNatClampNeg)] σ (some (.int v3), σ1) ∧ Sg t σ1 ∧ (inb (x4 + 2) 72 = true ∧ (((mI σ1 94 (x4 + 2).toNatClampNeg) = 1 → ((v3 = 1 → Ev 260 8 [.ref 59, .int x1, .int x2, .int (x3 + 1), .int x4] [] σ1 w) ∧ (¬ (v3 = 1) → (w = (some (.int 0), σ1))))) ∧ (¬ ((mI σ1 94 (x4 + 2).toNatClampNeg) = 1) → ((v3 = 0 → Ev 260 8 [.ref 59, .int x1, .int x2, .int (x3 + 1), .int x4] [] σ1 w) ∧ (¬ (v3 = 0) → (w = (some (.int 0), σ1))))))))) :
    Ev 260 59 [.ref 59, .int x1, .int x2, .int x3, .int x4] [.int s0] σ w := by
  refine e_aload_n d_260_59 rfl rfl ?_
  refine e_getR d_260_60 oo_260 pF_9_121 (by decide) (hS.k rfl) (hS.r rt_59_70) rfl ?_
  refine e_iload d_260_63 rfl rfl ?_
  refine e_iconst d_260_65 ci_1 rfl ?_
  refine e_iadd d_260_66 rfl ?_
  obtain ⟨hb, H⟩ := H
  refine e_iaload (v := (mI σ 94 (x4 + 1).toNatClampNeg)) d_260_67 (rdI_at (hS.k rfl) hb) rfl ?_
  obtain ⟨v3, σ1, hcl, hS2, H⟩ := H
  refine e_scall (w1 := (some (.int v3), σ1)) d_260_68 kc_260_68 rfl ⟨Nat.le_of_ble_eq_true rfl, xx_260.symm⟩ rfl hcl ?_
  show Ev 260 71 [.ref 59, .int x1, .int x2, .int x3, .int x4] [.int v3] σ1 w
  refine e_aload_n d_260_71 rfl rfl ?_
  refine e_getR d_260_72 oo_260 pF_9_121 (by decide) (hS2.k rfl) (hS2.r rt_59_70) rfl ?_
  refine e_iload d_260_75 rfl rfl ?_
  refine e_iconst d_260_77 ci_2 rfl ?_
  refine e_iadd d_260_78 rfl ?_
  obtain ⟨hb, H⟩ := H
  refine e_iaload (v := (mI σ1 94 (x4 + 2).toNatClampNeg)) d_260_79 (rdI_at (hS2.k rfl) hb) rfl ?_
  refine e_iconst d_260_80 ci_1 rfl ?_
  refine e_icmp_ne (t := 88) d_260_81 (by decide) rfl (fun hc => ?_) (fun hc => ?_)
  · replace H := H.2 hc
    refine e_iconst d_260_88 ci_0 rfl ?_
    refine e_icmp_eq (t := 94) d_260_89 (by decide) rfl (fun hc => ?_) (fun hc => ?_)
    · replace H := H.1 hc
      refine e_iinc (ls2 := [.ref 59, .int x1, .int x2, .int (x3 + 1), .int x4]) d_260_94 rfl ci_1 rfl rfl rfl ?_
      refine e_goto (t := 8) d_260_97 (by decide) ?_
      exact H
    · replace H := H.2 hc
      refine e_iconst d_260_92 ci_0 rfl ?_
      subst H
      exact e_zret d_260_93 rr_260 (Or.inl rfl)
  · replace H := H.1 hc
    refine e_iconst d_260_84 ci_1 rfl ?_
    refine e_goto (t := 89) d_260_85 (by decide) ?_
    refine e_icmp_eq (t := 94) d_260_89 (by decide) rfl (fun hc => ?_) (fun hc => ?_)
    · replace H := H.1 hc
      refine e_iinc (ls2 := [.ref 59, .int x1, .int x2, .int (x3 + 1), .int x4]) d_260_94 rfl ci_1 rfl rfl rfl ?_
      refine e_goto (t := 8) d_260_97 (by decide) ?_
      exact H
    · replace H := H.2 hc
      refine e_iconst d_260_92 ci_0 rfl ?_
      subst H
      exact e_zret d_260_93 rr_260 (Or.inl rfl)
/-! X9_fits -/
theorem b_261_0 {t : Nat} {σ : Mm} {w : Option Value × Mm}  (hS : Sg t σ) 
    (H : ∃ (σ1 : Mm), Cl 258 [.ref 59] (uI σ 59 2 0) (none, σ1) ∧ Sg t σ1 ∧ Ev 261 13 [.ref 59, .int 0, .int 0] [] σ1 w) :
    Ev 261 0 [.ref 59, .retAddr 0, .retAddr 0] [] σ w := by
  refine e_aload_n d_261_0 rfl rfl ?_
  refine e_iconst d_261_1 ci_0 rfl ?_
  refine e_putI d_261_2 oo_261 pF_9_142 (Or.inl rfl) (hS.k rfl) rfl ?_
  refine e_aload_n d_261_5 rfl rfl ?_
  obtain ⟨σ1, hcl, hS2, H⟩ := H
  refine e_vcall (w1 := (none, σ1)) d_261_6 kc_261_6 rfl ⟨Nat.le_of_ble_eq_true rfl, xx_261.symm⟩ rfl hcl ?_
  show Ev 261 9 [.ref 59, .retAddr 0, .retAddr 0] [] σ1 w
  refine e_iconst d_261_9 ci_0 rfl ?_
  refine e_istore_n (ls2 := [.ref 59, .int 0, .retAddr 0]) d_261_10 rfl rfl rfl ?_
  refine e_iconst d_261_11 ci_0 rfl ?_
  refine e_istore_n (ls2 := [.ref 59, .int 0, .int 0]) d_261_12 rfl rfl rfl ?_
  exact H
theorem b_261_13 {t : Nat} {σ : Mm} {w : Option Value × Mm} {x1 : Int32} {x2 : Int32} (hS : Sg t σ) 
    (H : (x2 < ((1 : Int32) <<< ((mI σ 59 13) &&& 31)) → (∃ (v3 : Int32) (σ1 : Mm), Cl 260 [.ref 59, .int x2] σ (some (.int v3), σ1) ∧ Sg t σ1 ∧ ((v3 = 0 → Ev 261 13 [.ref 59, .int (x1 + 0), .int (x2 + 1)] [] σ1 w) ∧ (¬ (v3 = 0) → Ev 261 13 [.ref 59, .int (x1 + 1), .int (x2 + 1)] [] σ1 w)))) ∧ (¬ (x2 < ((1 : Int32) <<< ((mI σ 59 13) &&& 31))) → (w = (some (.int x1), σ)))) :
    Ev 261 13 [.ref 59, .int x1, .int x2] [] σ w := by
  refine e_iload_n d_261_13 rfl rfl ?_
  refine e_iconst d_261_14 ci_1 rfl ?_
  refine e_aload_n d_261_15 rfl rfl ?_
  refine e_getI d_261_16 oo_261 pF_9_225 (by decide) (hS.k rfl) rfl ?_
  refine e_ishl d_261_19 rfl ?_
  refine e_icmp_ge (t := 45) d_261_20 (by decide) rfl (fun hc => ?_) (fun hc => ?_)
  · replace H := H.2 hc
    refine e_iload_n d_261_45 rfl rfl ?_
    subst H
    exact e_iret d_261_46 rr_261
  · replace H := H.1 hc
    refine e_iload_n d_261_23 rfl rfl ?_
    refine e_aload_n d_261_24 rfl rfl ?_
    refine e_iload_n d_261_25 rfl rfl ?_
    obtain ⟨v3, σ1, hcl, hS2, H⟩ := H
    refine e_vcall (w1 := (some (.int v3), σ1)) d_261_26 kc_261_26 rfl ⟨Nat.le_of_ble_eq_true rfl, xx_261.symm⟩ rfl hcl ?_
    show Ev 261 29 [.ref 59, .int x1, .int x2] [.int v3, .int x1] σ1 w
    refine e_if_eq (t := 36) d_261_29 (by decide) rfl (fun hc => ?_) (fun hc => ?_)
    · replace H := H.1 hc
      refine e_iconst d_261_36 ci_0 rfl ?_
      refine e_iadd d_261_37 rfl ?_
      refine e_istore_n (ls2 := [.ref 59, .int (x1 + 0), .int x2]) d_261_38 rfl rfl rfl ?_
      refine e_iinc (ls2 := [.ref 59, .int (x1 + 0), .int (x2 + 1)]) d_261_39 rfl ci_1 rfl rfl rfl ?_
      refine e_goto (t := 13) d_261_42 (by decide) ?_
      exact H
    · replace H := H.2 hc
      refine e_iconst d_261_32 ci_1 rfl ?_
      refine e_goto (t := 37) d_261_33 (by decide) ?_
      refine e_iadd d_261_37 rfl ?_
      refine e_istore_n (ls2 := [.ref 59, .int (x1 + 1), .int x2]) d_261_38 rfl rfl rfl ?_
      refine e_iinc (ls2 := [.ref 59, .int (x1 + 1), .int (x2 + 1)]) d_261_39 rfl ci_1 rfl rfl rfl ?_
      refine e_goto (t := 13) d_261_42 (by decide) ?_
      exact H
/-! X9_rang -/
theorem b_262_0 {t : Nat} {σ : Mm} {w : Option Value × Mm} {x1 : Int32} (hS : Sg t σ) 
    (H : ∃ (v3 : Int32) (σ1 : Mm), Cl 200 [.ref 59, .int x1] (uI σ 59 2 0) (some (.int v3), σ1) ∧ Sg t σ1 ∧ ((v3 = 0 → (w = (some (.int (-1)), σ1))) ∧ (¬ (v3 = 0) → (∃ (σ4 : Mm), Cl 258 [.ref 59] σ1 (none, σ4) ∧ Sg t σ4 ∧ Ev 262 26 [.ref 59, .int x1, .int 0, .int 0, .int 0] [] σ4 w)))) :
    Ev 262 0 [.ref 59, .int x1, .retAddr 0, .retAddr 0, .retAddr 0] [] σ w := by
  refine e_aload_n d_262_0 rfl rfl ?_
  refine e_iconst d_262_1 ci_0 rfl ?_
  refine e_putI d_262_2 oo_262 pF_9_142 (Or.inl rfl) (hS.k rfl) rfl ?_
  refine e_aload_n d_262_5 rfl rfl ?_
  refine e_iload_n d_262_6 rfl rfl ?_
  obtain ⟨v3, σ1, hcl, hS2, H⟩ := H
  refine e_vcall (w1 := (some (.int v3), σ1)) d_262_7 kc_262_7 rfl ⟨Nat.le_of_ble_eq_true rfl, xx_262.symm⟩ rfl hcl ?_
  show Ev 262 10 [.ref 59, .int x1, .retAddr 0, .retAddr 0, .retAddr 0] [.int v3] σ1 w
  refine e_if_ne (t := 15) d_262_10 (by decide) rfl (fun hc => ?_) (fun hc => ?_)
  · replace H := H.2 hc
    refine e_aload_n d_262_15 rfl rfl ?_
    obtain ⟨σ4, hcl, hS5, H⟩ := H
    refine e_vcall (w1 := (none, σ4)) d_262_16 kc_262_16 rfl ⟨Nat.le_of_ble_eq_true rfl, xx_262.symm⟩ rfl hcl ?_
    show Ev 262 19 [.ref 59, .int x1, .retAddr 0, .retAddr 0, .retAddr 0] [] σ4 w
    refine e_iconst d_262_19 ci_0 rfl ?_
    refine e_istore_n (ls2 := [.ref 59, .int x1, .int 0, .retAddr 0, .retAddr 0]) d_262_20 rfl rfl rfl ?_
    refine e_iconst d_262_21 ci_0 rfl ?_
    refine e_istore_n (ls2 := [.ref 59, .int x1, .int 0, .int 0, .retAddr 0]) d_262_22 rfl rfl rfl ?_
    refine e_iconst d_262_23 ci_0 rfl ?_
    refine e_istore (ls2 := [.ref 59, .int x1, .int 0, .int 0, .int 0]) d_262_24 rfl rfl rfl ?_
    exact H
  · replace H := H.1 hc
    refine e_iconst d_262_13 ci_m1 rfl ?_
    subst H
    exact e_iret d_262_14 rr_262
theorem b_262_26 {t : Nat} {σ : Mm} {w : Option Value × Mm} {x1 : Int32} {x2 : Int32} {x3 : Int32} {x4 : Int32} (hS : Sg t σ) 
    (H : (x4 < ((1 : Int32) <<< ((mI σ 59 13) &&& 31)) → (∃ (v3 : Int32) (σ1 : Mm), Cl 260 [.ref 59, .int x4] σ (some (.int v3), σ1) ∧ Sg t σ1 ∧ ((v3 = 0 → Ev 262 26 [.ref 59, .int x1, .int x2, .int x3, .int (x4 + 1)] [] σ1 w) ∧ (¬ (v3 = 0) → Ev 262 26 [.ref 59, .int x1, .int (x2 + 1), .int (x3 + ((x4 >>> (x1 &&& 31)) &&& 1)), .int (x4 + 1)] [] σ1 w)))) ∧ (¬ (x4 < ((1 : Int32) <<< ((mI σ 59 13) &&& 31))) → ((x2 = 0 → (w = (some (.int (-2)), σ))) ∧ (¬ (x2 = 0) → ((x3 = x2 → (w = (some (.int 1), σ))) ∧ (¬ (x3 = x2) → ((x3 = 0 → (w = (some (.int 0), σ))) ∧ (¬ (x3 = 0) → (w = (some (.int 2), σ)))))))))) :
    Ev 262 26 [.ref 59, .int x1, .int x2, .int x3, .int x4] [] σ w := by
  refine e_iload d_262_26 rfl rfl ?_
  refine e_iconst d_262_28 ci_1 rfl ?_
  refine e_aload_n d_262_29 rfl rfl ?_
  refine e_getI d_262_30 oo_262 pF_9_225 (by decide) (hS.k rfl) rfl ?_
  refine e_ishl d_262_33 rfl ?_
  refine e_icmp_ge (t := 67) d_262_34 (by decide) rfl (fun hc => ?_) (fun hc => ?_)
  · replace H := H.2 hc
    refine e_iload_n d_262_67 rfl rfl ?_
    refine e_if_ne (t := 76) d_262_68 (by decide) rfl (fun hc => ?_) (fun hc => ?_)
    · replace H := H.2 hc
      refine e_iload_n d_262_76 rfl rfl ?_
      refine e_iload_n d_262_77 rfl rfl ?_
      refine e_icmp_ne (t := 85) d_262_78 (by decide) rfl (fun hc => ?_) (fun hc => ?_)
      · replace H := H.2 hc
        refine e_iload_n d_262_85 rfl rfl ?_
        refine e_if_ne (t := 93) d_262_86 (by decide) rfl (fun hc => ?_) (fun hc => ?_)
        · replace H := H.2 hc
          refine e_iconst d_262_93 ci_2 rfl ?_
          subst H
          exact e_iret d_262_94 rr_262
        · replace H := H.1 hc
          refine e_iconst d_262_89 ci_0 rfl ?_
          refine e_goto (t := 94) d_262_90 (by decide) ?_
          subst H
          exact e_iret d_262_94 rr_262
      · replace H := H.1 hc
        refine e_iconst d_262_81 ci_1 rfl ?_
        refine e_goto (t := 94) d_262_82 (by decide) ?_
        subst H
        exact e_iret d_262_94 rr_262
    · replace H := H.1 hc
      refine e_bipush d_262_71 cb_m2 rfl ?_
      refine e_goto (t := 94) d_262_73 (by decide) ?_
      subst H
      exact e_iret d_262_94 rr_262
  · replace H := H.1 hc
    refine e_aload_n d_262_37 rfl rfl ?_
    refine e_iload d_262_38 rfl rfl ?_
    obtain ⟨v3, σ1, hcl, hS2, H⟩ := H
    refine e_vcall (w1 := (some (.int v3), σ1)) d_262_40 kc_262_40 rfl ⟨Nat.le_of_ble_eq_true rfl, xx_262.symm⟩ rfl hcl ?_
    show Ev 262 43 [.ref 59, .int x1, .int x2, .int x3, .int x4] [.int v3] σ1 w
    refine e_if_ne (t := 49) d_262_43 (by decide) rfl (fun hc => ?_) (fun hc => ?_)
    · replace H := H.2 hc
      refine e_iinc (ls2 := [.ref 59, .int x1, .int (x2 + 1), .int x3, .int x4]) d_262_49 rfl ci_1 rfl rfl rfl ?_
      refine e_iload_n d_262_52 rfl rfl ?_
      refine e_iload d_262_53 rfl rfl ?_
      refine e_iload_n d_262_55 rfl rfl ?_
      refine e_ishr d_262_56 rfl ?_
      refine e_iconst d_262_57 ci_1 rfl ?_
      refine e_iand d_262_58 rfl ?_
      refine e_iadd d_262_59 rfl ?_
      refine e_istore_n (ls2 := [.ref 59, .int x1, .int (x2 + 1), .int (x3 + ((x4 >>> (x1 &&& 31)) &&& 1)), .int x4]) d_262_60 rfl rfl rfl ?_
      refine e_iinc (ls2 := [.ref 59, .int x1, .int (x2 + 1), .int (x3 + ((x4 >>> (x1 &&& 31)) &&& 1)), .int (x4 + 1)]) d_262_61 rfl ci_1 rfl rfl rfl ?_
      refine e_goto (t := 26) d_262_64 (by decide) ?_
      exact H
    · replace H := H.1 hc
      refine e_goto (t := 61) d_262_46 (by decide) ?_
      refine e_iinc (ls2 := [.ref 59, .int x1, .int x2, .int x3, .int (x4 + 1)]) d_262_61 rfl ci_1 rfl rfl rfl ?_
      refine e_goto (t := 26) d_262_64 (by decide) ?_
      exact H
/-! X9_ask -/
theorem b_263_0 {t : Nat} {σ : Mm} {w : Option Value × Mm}  (hS : Sg t σ) 
    (H : ∃ (σ1 : Mm), Cl 258 [.ref 59] (uI σ 59 2 0) (none, σ1) ∧ Sg t σ1 ∧ Ev 263 15 [.ref 59, .int (-1), .int 0, .int 0] [] σ1 w) :
    Ev 263 0 [.ref 59, .retAddr 0, .retAddr 0, .retAddr 0] [] σ w := by
  refine e_aload_n d_263_0 rfl rfl ?_
  refine e_iconst d_263_1 ci_0 rfl ?_
  refine e_putI d_263_2 oo_263 pF_9_142 (Or.inl rfl) (hS.k rfl) rfl ?_
  refine e_aload_n d_263_5 rfl rfl ?_
  obtain ⟨σ1, hcl, hS2, H⟩ := H
  refine e_vcall (w1 := (none, σ1)) d_263_6 kc_263_6 rfl ⟨Nat.le_of_ble_eq_true rfl, xx_263.symm⟩ rfl hcl ?_
  show Ev 263 9 [.ref 59, .retAddr 0, .retAddr 0, .retAddr 0] [] σ1 w
  refine e_iconst d_263_9 ci_m1 rfl ?_
  refine e_istore_n (ls2 := [.ref 59, .int (-1), .retAddr 0, .retAddr 0]) d_263_10 rfl rfl rfl ?_
  refine e_iconst d_263_11 ci_0 rfl ?_
  refine e_istore_n (ls2 := [.ref 59, .int (-1), .int 0, .retAddr 0]) d_263_12 rfl rfl rfl ?_
  refine e_iconst d_263_13 ci_0 rfl ?_
  refine e_istore_n (ls2 := [.ref 59, .int (-1), .int 0, .int 0]) d_263_14 rfl rfl rfl ?_
  exact H
theorem b_263_15 {t : Nat} {σ : Mm} {w : Option Value × Mm} {x1 : Int32} {x2 : Int32} {x3 : Int32} (hS : Sg t σ) 
    (H : (x3 < ((1 : Int32) <<< ((mI σ 59 13) &&& 31)) → (∃ (v3 : Int32) (σ1 : Mm), Cl 260 [.ref 59, .int x3] σ (some (.int v3), σ1) ∧ Sg t σ1 ∧ ((v3 = 0 → Ev 263 15 [.ref 59, .int x1, .int x2, .int (x3 + 1)] [] σ1 w) ∧ (¬ (v3 = 0) → (∃ (v6 : Int32) (σ4 : Mm), Cl 259 [.ref 59, .int x3] σ1 (some (.int v6), σ4) ∧ Sg t σ4 ∧ (∃ (v9 : Int32) (σ7 : Mm), Cl 259 [.ref 59, .int x3] σ4 (some (.int v9), σ7) ∧ Sg t σ7 ∧ Ev 263 15 [.ref 59, .int (x1 &&& v6), .int (x2 ||| v9), .int (x3 + 1)] [] σ7 w)))))) ∧ (¬ (x3 < ((1 : Int32) <<< ((mI σ 59 13) &&& 31))) → Ev 263 60 [.ref 59, .int x1, .int x2, .int 0] [] σ w)) :
    Ev 263 15 [.ref 59, .int x1, .int x2, .int x3] [] σ w := by
  refine e_iload_n d_263_15 rfl rfl ?_
  refine e_iconst d_263_16 ci_1 rfl ?_
  refine e_aload_n d_263_17 rfl rfl ?_
  refine e_getI d_263_18 oo_263 pF_9_225 (by decide) (hS.k rfl) rfl ?_
  refine e_ishl d_263_21 rfl ?_
  refine e_icmp_ge (t := 58) d_263_22 (by decide) rfl (fun hc => ?_) (fun hc => ?_)
  · replace H := H.2 hc
    refine e_iconst d_263_58 ci_0 rfl ?_
    refine e_istore_n (ls2 := [.ref 59, .int x1, .int x2, .int 0]) d_263_59 rfl rfl rfl ?_
    exact H
  · replace H := H.1 hc
    refine e_aload_n d_263_25 rfl rfl ?_
    refine e_iload_n d_263_26 rfl rfl ?_
    obtain ⟨v3, σ1, hcl, hS2, H⟩ := H
    refine e_vcall (w1 := (some (.int v3), σ1)) d_263_27 kc_263_27 rfl ⟨Nat.le_of_ble_eq_true rfl, xx_263.symm⟩ rfl hcl ?_
    show Ev 263 30 [.ref 59, .int x1, .int x2, .int x3] [.int v3] σ1 w
    refine e_if_ne (t := 36) d_263_30 (by decide) rfl (fun hc => ?_) (fun hc => ?_)
    · replace H := H.2 hc
      refine e_iload_n d_263_36 rfl rfl ?_
      refine e_aload_n d_263_37 rfl rfl ?_
      refine e_iload_n d_263_38 rfl rfl ?_
      obtain ⟨v6, σ4, hcl, hS5, H⟩ := H
      refine e_vcall (w1 := (some (.int v6), σ4)) d_263_39 kc_263_39 rfl ⟨Nat.le_of_ble_eq_true rfl, xx_263.symm⟩ rfl hcl ?_
      show Ev 263 42 [.ref 59, .int x1, .int x2, .int x3] [.int v6, .int x1] σ4 w
      refine e_iand d_263_42 rfl ?_
      refine e_istore_n (ls2 := [.ref 59, .int (x1 &&& v6), .int x2, .int x3]) d_263_43 rfl rfl rfl ?_
      refine e_iload_n d_263_44 rfl rfl ?_
      refine e_aload_n d_263_45 rfl rfl ?_
      refine e_iload_n d_263_46 rfl rfl ?_
      obtain ⟨v9, σ7, hcl, hS8, H⟩ := H
      refine e_vcall (w1 := (some (.int v9), σ7)) d_263_47 kc_263_47 rfl ⟨Nat.le_of_ble_eq_true rfl, xx_263.symm⟩ rfl hcl ?_
      show Ev 263 50 [.ref 59, .int (x1 &&& v6), .int x2, .int x3] [.int v9, .int x2] σ7 w
      refine e_ior d_263_50 rfl ?_
      refine e_istore_n (ls2 := [.ref 59, .int (x1 &&& v6), .int (x2 ||| v9), .int x3]) d_263_51 rfl rfl rfl ?_
      refine e_iinc (ls2 := [.ref 59, .int (x1 &&& v6), .int (x2 ||| v9), .int (x3 + 1)]) d_263_52 rfl ci_1 rfl rfl rfl ?_
      refine e_goto (t := 15) d_263_55 (by decide) ?_
      exact H
    · replace H := H.1 hc
      refine e_goto (t := 52) d_263_33 (by decide) ?_
      refine e_iinc (ls2 := [.ref 59, .int x1, .int x2, .int (x3 + 1)]) d_263_52 rfl ci_1 rfl rfl rfl ?_
      refine e_goto (t := 15) d_263_55 (by decide) ?_
      exact H
theorem b_263_60 {t : Nat} {σ : Mm} {w : Option Value × Mm} {x1 : Int32} {x2 : Int32} {x3 : Int32} (hS : Sg t σ) 
    (H : (x3 < (mI σ 59 12) → (∃ (v3 : Int32) (σ1 : Mm), Cl 153 [.int x2, .int x3] σ (some (.int v3), σ1) ∧ Sg t σ1 ∧ ((v3 = 0 → Ev 263 60 [.ref 59, .int x1, .int x2, .int (x3 + 1)] [] σ1 w) ∧ (¬ (v3 = 0) → (∃ (v6 : Int32) (σ4 : Mm), Cl 153 [.int x1, .int x3] σ1 (some (.int v6), σ4) ∧ Sg t σ4 ∧ ((v6 = 0 → (w = (some (.int x3), σ4))) ∧ (¬ (v6 = 0) → Ev 263 60 [.ref 59, .int x1, .int x2, .int (x3 + 1)] [] σ4 w))))))) ∧ (¬ (x3 < (mI σ 59 12)) → (w = (some (.int (-2)), σ)))) :
    Ev 263 60 [.ref 59, .int x1, .int x2, .int x3] [] σ w := by
  refine e_iload_n d_263_60 rfl rfl ?_
  refine e_aload_n d_263_61 rfl rfl ?_
  refine e_getI d_263_62 oo_263 pF_9_222 (by decide) (hS.k rfl) rfl ?_
  refine e_icmp_ge (t := 92) d_263_65 (by decide) rfl (fun hc => ?_) (fun hc => ?_)
  · replace H := H.2 hc
    refine e_bipush d_263_92 cb_m2 rfl ?_
    subst H
    exact e_iret d_263_94 rr_263
  · replace H := H.1 hc
    refine e_iload_n d_263_68 rfl rfl ?_
    refine e_iload_n d_263_69 rfl rfl ?_
    obtain ⟨v3, σ1, hcl, hS2, H⟩ := H
    refine e_scall (w1 := (some (.int v3), σ1)) d_263_70 kc_263_70 rfl ⟨Nat.le_of_ble_eq_true rfl, xx_263.symm⟩ rfl hcl ?_
    show Ev 263 73 [.ref 59, .int x1, .int x2, .int x3] [.int v3] σ1 w
    refine e_if_eq (t := 86) d_263_73 (by decide) rfl (fun hc => ?_) (fun hc => ?_)
    · replace H := H.1 hc
      refine e_iinc (ls2 := [.ref 59, .int x1, .int x2, .int (x3 + 1)]) d_263_86 rfl ci_1 rfl rfl rfl ?_
      refine e_goto (t := 60) d_263_89 (by decide) ?_
      exact H
    · replace H := H.2 hc
      refine e_iload_n d_263_76 rfl rfl ?_
      refine e_iload_n d_263_77 rfl rfl ?_
      obtain ⟨v6, σ4, hcl, hS5, H⟩ := H
      refine e_scall (w1 := (some (.int v6), σ4)) d_263_78 kc_263_78 rfl ⟨Nat.le_of_ble_eq_true rfl, xx_263.symm⟩ rfl hcl ?_
      show Ev 263 81 [.ref 59, .int x1, .int x2, .int x3] [.int v6] σ4 w
      refine e_if_ne (t := 86) d_263_81 (by decide) rfl (fun hc => ?_) (fun hc => ?_)
      · replace H := H.2 hc
        refine e_iinc (ls2 := [.ref 59, .int x1, .int x2, .int (x3 + 1)]) d_263_86 rfl ci_1 rfl rfl rfl ?_
        refine e_goto (t := 60) d_263_89 (by decide) ?_
        exact H
      · replace H := H.1 hc
        refine e_iload_n d_263_84 rfl rfl ?_
        subst H
        exact e_iret d_263_85 rr_263
/-! X9_chance -/
theorem b_264_0 {t : Nat} {σ : Mm} {w : Option Value × Mm} {x1 : Int32} {x2 : Int32} {x3 : Int32} (hS : Sg t σ) 
    (H : (x1 < 0 → (w = (some (.int (-1)), uI σ 59 2 0))) ∧ (¬ (x1 < 0) → (∃ (v3 : Int32) (σ1 : Mm), Cl 152 [.int x2, .int 1, .int 99] (uI σ 59 2 0) (some (.int v3), σ1) ∧ Sg t σ1 ∧ ((v3 = 0 → (w = (some (.int (-1)), σ1))) ∧ (¬ (v3 = 0) → (∃ (v6 : Int32) (σ4 : Mm), Cl 199 [.ref 59, .int x3] σ1 (some (.int v6), σ4) ∧ Sg t σ4 ∧ ((v6 = 0 → (w = (some (.int (-1)), σ4))) ∧ (¬ (v6 = 0) → Ev 264 47 [.ref 59, .int x1, .int x2, .int x3, .long (mL σ4 59 58), .float 0, .int 0, .int 0] [] (uL σ4 59 58 (Int32.toInt64 x1)) w)))))))) :
    Ev 264 0 [.ref 59, .int x1, .int x2, .int x3, .retAddr 0, .retAddr 0, .retAddr 0, .retAddr 0] [] σ w := by
  refine e_aload_n d_264_0 rfl rfl ?_
  refine e_iconst d_264_1 ci_0 rfl ?_
  refine e_putI d_264_2 oo_264 pF_9_142 (Or.inl rfl) (hS.k rfl) rfl ?_
  refine e_iload_n d_264_5 rfl rfl ?_
  refine e_if_lt (t := 27) d_264_6 (by decide) rfl (fun hc => ?_) (fun hc => ?_)
  · replace H := H.1 hc
    refine e_iconst d_264_27 ci_m1 rfl ?_
    subst H
    exact e_iret d_264_28 rr_264
  · replace H := H.2 hc
    refine e_iload_n d_264_9 rfl rfl ?_
    refine e_iconst d_264_10 ci_1 rfl ?_
    refine e_bipush d_264_11 cb_99 rfl ?_
    obtain ⟨v3, σ1, hcl, hS2, H⟩ := H
    refine e_scall (w1 := (some (.int v3), σ1)) d_264_13 kc_264_13 rfl ⟨Nat.le_of_ble_eq_true rfl, xx_264.symm⟩ rfl hcl ?_
    show Ev 264 16 [.ref 59, .int x1, .int x2, .int x3, .retAddr 0, .retAddr 0, .retAddr 0, .retAddr 0] [.int v3] σ1 w
    refine e_if_eq (t := 27) d_264_16 (by decide) rfl (fun hc => ?_) (fun hc => ?_)
    · replace H := H.1 hc
      refine e_iconst d_264_27 ci_m1 rfl ?_
      subst H
      exact e_iret d_264_28 rr_264
    · replace H := H.2 hc
      refine e_aload_n d_264_19 rfl rfl ?_
      refine e_iload_n d_264_20 rfl rfl ?_
      obtain ⟨v6, σ4, hcl, hS5, H⟩ := H
      refine e_vcall (w1 := (some (.int v6), σ4)) d_264_21 kc_264_21 rfl ⟨Nat.le_of_ble_eq_true rfl, xx_264.symm⟩ rfl hcl ?_
      show Ev 264 24 [.ref 59, .int x1, .int x2, .int x3, .retAddr 0, .retAddr 0, .retAddr 0, .retAddr 0] [.int v6] σ4 w
      refine e_if_ne (t := 29) d_264_24 (by decide) rfl (fun hc => ?_) (fun hc => ?_)
      · replace H := H.2 hc
        refine e_aload_n d_264_29 rfl rfl ?_
        refine e_getL d_264_30 oo_264 pF_9_358 (by decide) (hS5.k rfl) rfl ?_
        refine e_lstore (ls2 := [.ref 59, .int x1, .int x2, .int x3, .long (mL σ4 59 58), .float 0, .retAddr 0, .retAddr 0]) d_264_33 rfl rfl rfl ?_
        refine e_aload_n d_264_35 rfl rfl ?_
        refine e_iload_n d_264_36 rfl rfl ?_
        refine e_i2l d_264_37 rfl ?_
        refine e_putL d_264_38 oo_264 pF_9_358 (Or.inl rfl) (hS5.k rfl) rfl ?_
        refine e_iconst d_264_41 ci_0 rfl ?_
        refine e_istore (ls2 := [.ref 59, .int x1, .int x2, .int x3, .long (mL σ4 59 58), .float 0, .int 0, .retAddr 0]) d_264_42 rfl rfl rfl ?_
        refine e_iconst d_264_44 ci_0 rfl ?_
        refine e_istore (ls2 := [.ref 59, .int x1, .int x2, .int x3, .long (mL σ4 59 58), .float 0, .int 0, .int 0]) d_264_45 rfl rfl rfl ?_
        exact H
      · replace H := H.1 hc
        refine e_iconst d_264_27 ci_m1 rfl ?_
        subst H
        exact e_iret d_264_28 rr_264
theorem b_264_47 {t : Nat} {σ : Mm} {w : Option Value × Mm} {x1 : Int32} {x2 : Int32} {x3 : Int32} {y4 : Int64} {x6 : Int32} {x7 : Int32} (hS : Sg t σ) 
    (H : (x7 < 10 → (∃ (σ1 : Mm), Cl 198 [.ref 59] σ (none, σ1) ∧ Sg t σ1 ∧ (∃ (σ4 : Mm), Cl 214 [.ref 59, .int x2] (uI σ1 59 59 1) (none, σ4) ∧ Sg t σ4 ∧ Ev 264 47 [.ref 59, .int x1, .int x2, .int x3, .long y4, .float 0, .int (x6 + (((mI σ4 83 1) >>> (x3 &&& 31)) &&& 1)), .int (x7 + 1)] [] σ4 w))) ∧ (¬ (x7 < 10) → (w = (some (.int x6), uL (uI σ 59 59 0) 59 58 y4)))) :
    Ev 264 47 [.ref 59, .int x1, .int x2, .int x3, .long y4, .float 0, .int x6, .int x7] [] σ w := by
  refine e_iload d_264_47 rfl rfl ?_
  refine e_bipush d_264_49 cb_10 rfl ?_
  refine e_icmp_ge (t := 89) d_264_51 (by decide) rfl (fun hc => ?_) (fun hc => ?_)
  · replace H := H.2 hc
    refine e_aload_n d_264_89 rfl rfl ?_
    refine e_iconst d_264_90 ci_0 rfl ?_
    refine e_putZ d_264_91 oo_264 pF_9_374 (Or.inl rfl) (hS.k rfl) (Or.inl rfl) rfl ?_
    refine e_aload_n d_264_94 rfl rfl ?_
    refine e_lload d_264_95 rfl rfl ?_
    refine e_putL d_264_97 oo_264 pF_9_358 (Or.inl rfl) (hS.uI.k rfl) rfl ?_
    refine e_iload d_264_100 rfl rfl ?_
    subst H
    exact e_iret d_264_102 rr_264
  · replace H := H.1 hc
    refine e_aload_n d_264_54 rfl rfl ?_
    obtain ⟨σ1, hcl, hS2, H⟩ := H
    refine e_vcall (w1 := (none, σ1)) d_264_55 kc_264_55 rfl ⟨Nat.le_of_ble_eq_true rfl, xx_264.symm⟩ rfl hcl ?_
    show Ev 264 58 [.ref 59, .int x1, .int x2, .int x3, .long y4, .float 0, .int x6, .int x7] [] σ1 w
    refine e_aload_n d_264_58 rfl rfl ?_
    refine e_iconst d_264_59 ci_1 rfl ?_
    refine e_putZ d_264_60 oo_264 pF_9_374 (Or.inl rfl) (hS2.k rfl) (Or.inr rfl) rfl ?_
    refine e_aload_n d_264_63 rfl rfl ?_
    refine e_iload_n d_264_64 rfl rfl ?_
    obtain ⟨σ4, hcl, hS5, H⟩ := H
    refine e_vcall (w1 := (none, σ4)) d_264_65 kc_264_65 rfl ⟨Nat.le_of_ble_eq_true rfl, xx_264.symm⟩ rfl hcl ?_
    show Ev 264 68 [.ref 59, .int x1, .int x2, .int x3, .long y4, .float 0, .int x6, .int x7] [] σ4 w
    refine e_iload d_264_68 rfl rfl ?_
    refine e_aload_n d_264_70 rfl rfl ?_
    refine e_getR d_264_71 oo_264 pF_9_85 (by decide) (hS5.k rfl) (hS5.r rt_59_50) rfl ?_
    refine e_iconst d_264_74 ci_1 rfl ?_
    refine e_iaload (v := (mI σ4 83 1)) d_264_75 (rdI_at (hS5.k rfl) rfl) rfl ?_
    refine e_iload_n d_264_76 rfl rfl ?_
    refine e_ishr d_264_77 rfl ?_
    refine e_iconst d_264_78 ci_1 rfl ?_
    refine e_iand d_264_79 rfl ?_
    refine e_iadd d_264_80 rfl ?_
    refine e_istore (ls2 := [.ref 59, .int x1, .int x2, .int x3, .long y4, .float 0, .int (x6 + (((mI σ4 83 1) >>> (x3 &&& 31)) &&& 1)), .int x7]) d_264_81 rfl rfl rfl ?_
    refine e_iinc (ls2 := [.ref 59, .int x1, .int x2, .int x3, .long y4, .float 0, .int (x6 + (((mI σ4 83 1) >>> (x3 &&& 31)) &&& 1)), .int (x7 + 1)]) d_264_83 rfl ci_1 rfl rfl rfl ?_
    refine e_goto (t := 47) d_264_86 (by decide) ?_
    exact H
/-! X9_tried -/
theorem b_265_0 {t : Nat} {σ : Mm} {w : Option Value × Mm} {x1 : Int32} {x2 : Int32} {x3 : Int32} (hS : Sg t σ) 
    (H : ∃ (v3 : Int32) (σ1 : Mm), Cl 152 [.int x1, .int 0, .int 4] (uI σ 59 2 0) (some (.int v3), σ1) ∧ Sg t σ1 ∧ ((v3 = 0 → (w = (some (.int (-1)), σ1))) ∧ (¬ (v3 = 0) → (∃ (v6 : Int32) (σ4 : Mm), Cl 152 [.int x3, .int 0, .int 200] σ1 (some (.int v6), σ4) ∧ Sg t σ4 ∧ ((v6 = 0 → (w = (some (.int (-1)), σ4))) ∧ (¬ (v6 = 0) → ((x1 = 2 → (∃ (v9 : Int32) (σ7 : Mm), Cl 200 [.ref 59, .int x2] σ4 (some (.int v9), σ7) ∧ Sg t σ7 ∧ ((v9 = 0 → (w = (some (.int (-1)), σ7))) ∧ (¬ (v9 = 0) → Ev 265 47 [.ref 59, .int x1, .int x2, .int x3] [] σ7 w)))) ∧ (¬ (x1 = 2) → ((x2 = 0 → Ev 265 47 [.ref 59, .int x1, .int x2, .int x3] [] σ4 w) ∧ (¬ (x2 = 0) → (w = (some (.int (-1)), σ4)))))))))))) :
    Ev 265 0 [.ref 59, .int x1, .int x2, .int x3] [] σ w := by
  refine e_aload_n d_265_0 rfl rfl ?_
  refine e_iconst d_265_1 ci_0 rfl ?_
  refine e_putI d_265_2 oo_265 pF_9_142 (Or.inl rfl) (hS.k rfl) rfl ?_
  refine e_iload_n d_265_5 rfl rfl ?_
  refine e_iconst d_265_6 ci_0 rfl ?_
  refine e_iconst d_265_7 ci_4 rfl ?_
  obtain ⟨v3, σ1, hcl, hS2, H⟩ := H
  refine e_scall (w1 := (some (.int v3), σ1)) d_265_8 kc_265_8 rfl ⟨Nat.le_of_ble_eq_true rfl, xx_265.symm⟩ rfl hcl ?_
  show Ev 265 11 [.ref 59, .int x1, .int x2, .int x3] [.int v3] σ1 w
  refine e_if_eq (t := 45) d_265_11 (by decide) rfl (fun hc => ?_) (fun hc => ?_)
  · replace H := H.1 hc
    refine e_iconst d_265_45 ci_m1 rfl ?_
    subst H
    exact e_iret d_265_46 rr_265
  · replace H := H.2 hc
    refine e_iload_n d_265_14 rfl rfl ?_
    refine e_iconst d_265_15 ci_0 rfl ?_
    refine e_sipush d_265_16 cs_200 rfl ?_
    obtain ⟨v6, σ4, hcl, hS5, H⟩ := H
    refine e_scall (w1 := (some (.int v6), σ4)) d_265_19 kc_265_19 rfl ⟨Nat.le_of_ble_eq_true rfl, xx_265.symm⟩ rfl hcl ?_
    show Ev 265 22 [.ref 59, .int x1, .int x2, .int x3] [.int v6] σ4 w
    refine e_if_eq (t := 45) d_265_22 (by decide) rfl (fun hc => ?_) (fun hc => ?_)
    · replace H := H.1 hc
      refine e_iconst d_265_45 ci_m1 rfl ?_
      subst H
      exact e_iret d_265_46 rr_265
    · replace H := H.2 hc
      refine e_iload_n d_265_25 rfl rfl ?_
      refine e_iconst d_265_26 ci_2 rfl ?_
      refine e_icmp_ne (t := 41) d_265_27 (by decide) rfl (fun hc => ?_) (fun hc => ?_)
      · replace H := H.2 hc
        refine e_iload_n d_265_41 rfl rfl ?_
        refine e_if_eq (t := 47) d_265_42 (by decide) rfl (fun hc => ?_) (fun hc => ?_)
        · replace H := H.1 hc
          exact H
        · replace H := H.2 hc
          refine e_iconst d_265_45 ci_m1 rfl ?_
          subst H
          exact e_iret d_265_46 rr_265
      · replace H := H.1 hc
        refine e_aload_n d_265_30 rfl rfl ?_
        refine e_iload_n d_265_31 rfl rfl ?_
        obtain ⟨v9, σ7, hcl, hS8, H⟩ := H
        refine e_vcall (w1 := (some (.int v9), σ7)) d_265_32 kc_265_32 rfl ⟨Nat.le_of_ble_eq_true rfl, xx_265.symm⟩ rfl hcl ?_
        show Ev 265 35 [.ref 59, .int x1, .int x2, .int x3] [.int v9] σ7 w
        refine e_if_ne (t := 47) d_265_35 (by decide) rfl (fun hc => ?_) (fun hc => ?_)
        · replace H := H.2 hc
          exact H
        · replace H := H.1 hc
          refine e_goto (t := 45) d_265_38 (by decide) ?_
          refine e_iconst d_265_45 ci_m1 rfl ?_
          subst H
          exact e_iret d_265_46 rr_265
theorem b_265_47 {t : Nat} {σ : Mm} {w : Option Value × Mm} {x1 : Int32} {x2 : Int32} {x3 : Int32} (hS : Sg t σ) 
    (H : ∃ (σ1 : Mm), Cl 198 [.ref 59] σ (none, σ1) ∧ Sg t σ1 ∧ ((x1 = 0 → ((x1 = 1 → Ev 265 75 [.ref 59, .int x1, .int x2, .int x3] [.int 1, .ref 59] (uI σ1 59 60 1) w) ∧ (¬ (x1 = 1) → Ev 265 75 [.ref 59, .int x1, .int x2, .int x3] [.int 0, .ref 59] (uI σ1 59 60 1) w))) ∧ (¬ (x1 = 0) → ((x1 = 1 → Ev 265 75 [.ref 59, .int x1, .int x2, .int x3] [.int 1, .ref 59] (uI σ1 59 60 0) w) ∧ (¬ (x1 = 1) → Ev 265 75 [.ref 59, .int x1, .int x2, .int x3] [.int 0, .ref 59] (uI σ1 59 60 0) w))))) :
    Ev 265 47 [.ref 59, .int x1, .int x2, .int x3] [] σ w := by
  refine e_aload_n d_265_47 rfl rfl ?_
  obtain ⟨σ1, hcl, hS2, H⟩ := H
  refine e_vcall (w1 := (none, σ1)) d_265_48 kc_265_48 rfl ⟨Nat.le_of_ble_eq_true rfl, xx_265.symm⟩ rfl hcl ?_
  show Ev 265 51 [.ref 59, .int x1, .int x2, .int x3] [] σ1 w
  refine e_aload_n d_265_51 rfl rfl ?_
  refine e_iload_n d_265_52 rfl rfl ?_
  refine e_if_ne (t := 60) d_265_53 (by decide) rfl (fun hc => ?_) (fun hc => ?_)
  · replace H := H.2 hc
    refine e_iconst d_265_60 ci_0 rfl ?_
    refine e_putZ d_265_61 oo_265 pF_9_377 (Or.inl rfl) (hS2.k rfl) (Or.inl rfl) rfl ?_
    refine e_aload_n d_265_64 rfl rfl ?_
    refine e_iload_n d_265_65 rfl rfl ?_
    refine e_iconst d_265_66 ci_1 rfl ?_
    refine e_icmp_ne (t := 74) d_265_67 (by decide) rfl (fun hc => ?_) (fun hc => ?_)
    · replace H := H.2 hc
      refine e_iconst d_265_74 ci_0 rfl ?_
      exact H
    · replace H := H.1 hc
      refine e_iconst d_265_70 ci_1 rfl ?_
      refine e_goto (t := 75) d_265_71 (by decide) ?_
      exact H
  · replace H := H.1 hc
    refine e_iconst d_265_56 ci_1 rfl ?_
    refine e_goto (t := 61) d_265_57 (by decide) ?_
    refine e_putZ d_265_61 oo_265 pF_9_377 (Or.inl rfl) (hS2.k rfl) (Or.inr rfl) rfl ?_
    refine e_aload_n d_265_64 rfl rfl ?_
    refine e_iload_n d_265_65 rfl rfl ?_
    refine e_iconst d_265_66 ci_1 rfl ?_
    refine e_icmp_ne (t := 74) d_265_67 (by decide) rfl (fun hc => ?_) (fun hc => ?_)
    · replace H := H.2 hc
      refine e_iconst d_265_74 ci_0 rfl ?_
      exact H
    · replace H := H.1 hc
      refine e_iconst d_265_70 ci_1 rfl ?_
      refine e_goto (t := 75) d_265_71 (by decide) ?_
      exact H
theorem b_265_75 {t : Nat} {σ : Mm} {w : Option Value × Mm} {x1 : Int32} {x2 : Int32} {x3 : Int32} {s0 : Int32} (hS : Sg t σ) 
    (H : (s0 = 0 ∨ s0 = 1) ∧ ((x1 = 2 → ((x1 = 3 → Ev 265 103 [.ref 59, .int x1, .int x2, .int x3] [.int 1, .ref 59] (uI (uI σ 59 61 s0) 59 63 x2) w) ∧ (¬ (x1 = 3) → Ev 265 103 [.ref 59, .int x1, .int x2, .int x3] [.int 0, .ref 59] (uI (uI σ 59 61 s0) 59 63 x2) w))) ∧ (¬ (x1 = 2) → ((x1 = 3 → Ev 265 103 [.ref 59, .int x1, .int x2, .int x3] [.int 1, .ref 59] (uI (uI σ 59 61 s0) 59 63 (-1)) w) ∧ (¬ (x1 = 3) → Ev 265 103 [.ref 59, .int x1, .int x2, .int x3] [.int 0, .ref 59] (uI (uI σ 59 61 s0) 59 63 (-1)) w))))) :
    Ev 265 75 [.ref 59, .int x1, .int x2, .int x3] [.int s0, .ref 59] σ w := by
  obtain ⟨hz, H⟩ := H
  refine e_putZ d_265_75 oo_265 pF_9_380 (Or.inl rfl) (hS.k rfl) hz rfl ?_
  refine e_aload_n d_265_78 rfl rfl ?_
  refine e_iload_n d_265_79 rfl rfl ?_
  refine e_iconst d_265_80 ci_2 rfl ?_
  refine e_icmp_ne (t := 88) d_265_81 (by decide) rfl (fun hc => ?_) (fun hc => ?_)
  · replace H := H.2 hc
    refine e_iconst d_265_88 ci_m1 rfl ?_
    refine e_putI d_265_89 oo_265 pF_9_386 (Or.inl rfl) (hS.uI.k rfl) rfl ?_
    refine e_aload_n d_265_92 rfl rfl ?_
    refine e_iload_n d_265_93 rfl rfl ?_
    refine e_iconst d_265_94 ci_3 rfl ?_
    refine e_icmp_ne (t := 102) d_265_95 (by decide) rfl (fun hc => ?_) (fun hc => ?_)
    · replace H := H.2 hc
      refine e_iconst d_265_102 ci_0 rfl ?_
      exact H
    · replace H := H.1 hc
      refine e_iconst d_265_98 ci_1 rfl ?_
      refine e_goto (t := 103) d_265_99 (by decide) ?_
      exact H
  · replace H := H.1 hc
    refine e_iload_n d_265_84 rfl rfl ?_
    refine e_goto (t := 89) d_265_85 (by decide) ?_
    refine e_putI d_265_89 oo_265 pF_9_386 (Or.inl rfl) (hS.uI.k rfl) rfl ?_
    refine e_aload_n d_265_92 rfl rfl ?_
    refine e_iload_n d_265_93 rfl rfl ?_
    refine e_iconst d_265_94 ci_3 rfl ?_
    refine e_icmp_ne (t := 102) d_265_95 (by decide) rfl (fun hc => ?_) (fun hc => ?_)
    · replace H := H.2 hc
      refine e_iconst d_265_102 ci_0 rfl ?_
      exact H
    · replace H := H.1 hc
      refine e_iconst d_265_98 ci_1 rfl ?_
      refine e_goto (t := 103) d_265_99 (by decide) ?_
      exact H
theorem b_265_103 {t : Nat} {σ : Mm} {w : Option Value × Mm} {x1 : Int32} {x2 : Int32} {x3 : Int32} {s0 : Int32} (hS : Sg t σ) 
    (H : (s0 = 0 ∨ s0 = 1) ∧ ((x1 = 4 → (∃ (σ13 : Mm), Cl 214 [.ref 59, .int x3] (uI (uI (uI σ 59 62 s0) 84 1 0) 83 1 0) (none, σ13) ∧ Sg t σ13 ∧ (∃ (σ16 : Mm), Cl 197 [.ref 59] σ13 (none, σ16) ∧ Sg t σ16 ∧ (∃ (v21 : Int32) (σ19 : Mm), Cl 203 [.ref 59, .int 1] σ16 (some (.int v21), σ19) ∧ Sg t σ19 ∧ (∃ (v24 : Int32) (σ22 : Mm), Cl 202 [.int v21] σ19 (some (.int v24), σ22) ∧ Sg t σ22 ∧ (w = (some (.int v24), σ22))))))) ∧ (¬ (x1 = 4) → (∃ (σ1 : Mm), Cl 214 [.ref 59, .int x3] (uI σ 59 62 s0) (none, σ1) ∧ Sg t σ1 ∧ (∃ (σ4 : Mm), Cl 197 [.ref 59] σ1 (none, σ4) ∧ Sg t σ4 ∧ (∃ (v9 : Int32) (σ7 : Mm), Cl 203 [.ref 59, .int 1] σ4 (some (.int v9), σ7) ∧ Sg t σ7 ∧ (∃ (v12 : Int32) (σ10 : Mm), Cl 202 [.int v9] σ7 (some (.int v12), σ10) ∧ Sg t σ10 ∧ (w = (some (.int v12), σ10))))))))) :
    Ev 265 103 [.ref 59, .int x1, .int x2, .int x3] [.int s0, .ref 59] σ w := by
  obtain ⟨hz, H⟩ := H
  refine e_putZ d_265_103 oo_265 pF_9_383 (Or.inl rfl) (hS.k rfl) hz rfl ?_
  refine e_iload_n d_265_106 rfl rfl ?_
  refine e_iconst d_265_107 ci_4 rfl ?_
  refine e_icmp_ne (t := 125) d_265_108 (by decide) rfl (fun hc => ?_) (fun hc => ?_)
  · replace H := H.2 hc
    refine e_aload_n d_265_125 rfl rfl ?_
    refine e_iload_n d_265_126 rfl rfl ?_
    obtain ⟨σ1, hcl, hS2, H⟩ := H
    refine e_vcall (w1 := (none, σ1)) d_265_127 kc_265_127 rfl ⟨Nat.le_of_ble_eq_true rfl, xx_265.symm⟩ rfl hcl ?_
    show Ev 265 130 [.ref 59, .int x1, .int x2, .int x3] [] σ1 w
    refine e_aload_n d_265_130 rfl rfl ?_
    obtain ⟨σ4, hcl, hS5, H⟩ := H
    refine e_vcall (w1 := (none, σ4)) d_265_131 kc_265_131 rfl ⟨Nat.le_of_ble_eq_true rfl, xx_265.symm⟩ rfl hcl ?_
    show Ev 265 134 [.ref 59, .int x1, .int x2, .int x3] [] σ4 w
    refine e_aload_n d_265_134 rfl rfl ?_
    refine e_iconst d_265_135 ci_1 rfl ?_
    obtain ⟨v9, σ7, hcl, hS8, H⟩ := H
    refine e_vcall (w1 := (some (.int v9), σ7)) d_265_136 kc_265_136 rfl ⟨Nat.le_of_ble_eq_true rfl, xx_265.symm⟩ rfl hcl ?_
    show Ev 265 139 [.ref 59, .int x1, .int x2, .int x3] [.int v9] σ7 w
    obtain ⟨v12, σ10, hcl, hS11, H⟩ := H
    refine e_scall (w1 := (some (.int v12), σ10)) d_265_139 kc_265_139 rfl ⟨Nat.le_of_ble_eq_true rfl, xx_265.symm⟩ rfl hcl ?_
    show Ev 265 142 [.ref 59, .int x1, .int x2, .int x3] [.int v12] σ10 w
    subst H
    exact e_iret d_265_142 rr_265
  · replace H := H.1 hc
    refine e_aload_n d_265_111 rfl rfl ?_
    refine e_getR d_265_112 oo_265 pF_9_88 (by decide) (hS.uI.k rfl) (hS.uI.r rt_59_51) rfl ?_
    refine e_iconst d_265_115 ci_1 rfl ?_
    refine e_iconst d_265_116 ci_0 rfl ?_
    refine e_iastore d_265_117 (okI_at (hS.uI.k rfl) rfl) rfl ?_
    show Ev 265 118 [.ref 59, .int x1, .int x2, .int x3] [] (uI (uI σ 59 62 s0) 84 1 0) w
    refine e_aload_n d_265_118 rfl rfl ?_
    refine e_getR d_265_119 oo_265 pF_9_85 (by decide) (hS.uI.uI.k rfl) (hS.uI.uI.r rt_59_50) rfl ?_
    refine e_iconst d_265_122 ci_1 rfl ?_
    refine e_iconst d_265_123 ci_0 rfl ?_
    refine e_iastore d_265_124 (okI_at (hS.uI.uI.k rfl) rfl) rfl ?_
    show Ev 265 125 [.ref 59, .int x1, .int x2, .int x3] [] (uI (uI (uI σ 59 62 s0) 84 1 0) 83 1 0) w
    refine e_aload_n d_265_125 rfl rfl ?_
    refine e_iload_n d_265_126 rfl rfl ?_
    obtain ⟨σ13, hcl, hS14, H⟩ := H
    refine e_vcall (w1 := (none, σ13)) d_265_127 kc_265_127 rfl ⟨Nat.le_of_ble_eq_true rfl, xx_265.symm⟩ rfl hcl ?_
    show Ev 265 130 [.ref 59, .int x1, .int x2, .int x3] [] σ13 w
    refine e_aload_n d_265_130 rfl rfl ?_
    obtain ⟨σ16, hcl, hS17, H⟩ := H
    refine e_vcall (w1 := (none, σ16)) d_265_131 kc_265_131 rfl ⟨Nat.le_of_ble_eq_true rfl, xx_265.symm⟩ rfl hcl ?_
    show Ev 265 134 [.ref 59, .int x1, .int x2, .int x3] [] σ16 w
    refine e_aload_n d_265_134 rfl rfl ?_
    refine e_iconst d_265_135 ci_1 rfl ?_
    obtain ⟨v21, σ19, hcl, hS20, H⟩ := H
    refine e_vcall (w1 := (some (.int v21), σ19)) d_265_136 kc_265_136 rfl ⟨Nat.le_of_ble_eq_true rfl, xx_265.symm⟩ rfl hcl ?_
    show Ev 265 139 [.ref 59, .int x1, .int x2, .int x3] [.int v21] σ19 w
    obtain ⟨v24, σ22, hcl, hS23, H⟩ := H
    refine e_scall (w1 := (some (.int v24), σ22)) d_265_139 kc_265_139 rfl ⟨Nat.le_of_ble_eq_true rfl, xx_265.symm⟩ rfl hcl ?_
    show Ev 265 142 [.ref 59, .int x1, .int x2, .int x3] [.int v24] σ22 w
    subst H
    exact e_iret d_265_142 rr_265
/-! X9_put -/
theorem b_266_0 {t : Nat} {σ : Mm} {w : Option Value × Mm} {a1 n1 : Nat} {x2 : Int32} (hS : Sg t σ) (h1 : KS[a1]? = some (11, n1))
    (H : inb x2 n1 = true ∧ (inb (x2 + 1) n1 = true ∧ (∀ (σ1 : Mm), σ1 = uI (uI σ a1 x2.toNatClampNeg (mI σ 82 0)) a1 (x2 + 1).toNatClampNeg (mI (uI σ a1 x2.toNatClampNeg (mI σ 82 0)) 83 0) → (inb (x2 + 2) n1 = true ∧ (∀ (σ4 : Mm), σ4 = uI σ1 a1 (x2 + 2).toNatClampNeg (mI σ1 84 0) → (inb (x2 + 3) n1 = true ∧ (∀ (σ7 : Mm), σ7 = uI σ4 a1 (x2 + 3).toNatClampNeg (mI σ4 85 0) → Ev 266 44 [.ref 59, .ref a1, .int x2, .int 0] [] σ7 w))))))) :
    Ev 266 0 [.ref 59, .ref a1, .int x2, .retAddr 0] [] σ w := by
  refine e_aload_n d_266_0 rfl rfl ?_
  refine e_iload_n d_266_1 rfl rfl ?_
  refine e_aload_n d_266_2 rfl rfl ?_
  refine e_getR d_266_3 oo_266 pF_9_82 (by decide) (hS.k rfl) (hS.r rt_59_49) rfl ?_
  refine e_iconst d_266_6 ci_0 rfl ?_
  refine e_iaload (v := (mI σ 82 0)) d_266_7 (rdI_at (hS.k rfl) rfl) rfl ?_
  obtain ⟨hb, H⟩ := H
  refine e_iastore d_266_8 (okI_at (hS.k h1) hb) rfl ?_
  refine e_aload_n d_266_9 rfl rfl ?_
  refine e_iload_n d_266_10 rfl rfl ?_
  refine e_iconst d_266_11 ci_1 rfl ?_
  refine e_iadd d_266_12 rfl ?_
  refine e_aload_n d_266_13 rfl rfl ?_
  refine e_getR d_266_14 oo_266 pF_9_85 (by decide) (hS.uI.k rfl) (hS.uI.r rt_59_50) rfl ?_
  refine e_iconst d_266_17 ci_0 rfl ?_
  refine e_iaload (v := (mI (uI σ a1 x2.toNatClampNeg (mI σ 82 0)) 83 0)) d_266_18 (rdI_at (hS.uI.k rfl) rfl) rfl ?_
  obtain ⟨hb, H⟩ := H
  refine e_iastore d_266_19 (okI_at (hS.uI.k h1) hb) rfl ?_
  generalize hm2 : uI (uI σ a1 x2.toNatClampNeg (mI σ 82 0)) a1 (x2 + 1).toNatClampNeg (mI (uI σ a1 x2.toNatClampNeg (mI σ 82 0)) 83 0) = σ1
  have hS3 : Sg t σ1 := by rw [← hm2]; exact hS.uI.uI
  replace H := H σ1 hm2.symm
  refine e_aload_n d_266_20 rfl rfl ?_
  refine e_iload_n d_266_21 rfl rfl ?_
  refine e_iconst d_266_22 ci_2 rfl ?_
  refine e_iadd d_266_23 rfl ?_
  refine e_aload_n d_266_24 rfl rfl ?_
  refine e_getR d_266_25 oo_266 pF_9_88 (by decide) (hS3.k rfl) (hS3.r rt_59_51) rfl ?_
  refine e_iconst d_266_28 ci_0 rfl ?_
  refine e_iaload (v := (mI σ1 84 0)) d_266_29 (rdI_at (hS3.k rfl) rfl) rfl ?_
  obtain ⟨hb, H⟩ := H
  refine e_iastore d_266_30 (okI_at (hS3.k h1) hb) rfl ?_
  generalize hm5 : uI σ1 a1 (x2 + 2).toNatClampNeg (mI σ1 84 0) = σ4
  have hS6 : Sg t σ4 := by rw [← hm5]; exact hS3.uI
  replace H := H σ4 hm5.symm
  refine e_aload_n d_266_31 rfl rfl ?_
  refine e_iload_n d_266_32 rfl rfl ?_
  refine e_iconst d_266_33 ci_3 rfl ?_
  refine e_iadd d_266_34 rfl ?_
  refine e_aload_n d_266_35 rfl rfl ?_
  refine e_getR d_266_36 oo_266 pF_9_91 (by decide) (hS6.k rfl) (hS6.r rt_59_52) rfl ?_
  refine e_iconst d_266_39 ci_0 rfl ?_
  refine e_iaload (v := (mI σ4 85 0)) d_266_40 (rdI_at (hS6.k rfl) rfl) rfl ?_
  obtain ⟨hb, H⟩ := H
  refine e_iastore d_266_41 (okI_at (hS6.k h1) hb) rfl ?_
  generalize hm8 : uI σ4 a1 (x2 + 3).toNatClampNeg (mI σ4 85 0) = σ7
  have hS9 : Sg t σ7 := by rw [← hm8]; exact hS6.uI
  replace H := H σ7 hm8.symm
  refine e_iconst d_266_42 ci_0 rfl ?_
  refine e_istore_n (ls2 := [.ref 59, .ref a1, .int x2, .int 0]) d_266_43 rfl rfl rfl ?_
  exact H
theorem b_266_44 {t : Nat} {σ : Mm} {w : Option Value × Mm} {x2 : Int32} {x3 : Int32} {a1 n1 : Nat} (hS : Sg t σ) (h1 : KS[a1]? = some (11, n1))
    (H : (x3 < 10 → (inb x3 20 = true ∧ (inb ((x2 + 4) + x3) n1 = true ∧ (∀ (σ1 : Mm), σ1 = uI σ a1 ((x2 + 4) + x3).toNatClampNeg (mI σ 89 x3.toNatClampNeg) → (inb x3 20 = true ∧ (inb ((x2 + 14) + x3) n1 = true ∧ (∀ (σ4 : Mm), σ4 = uI σ1 a1 ((x2 + 14) + x3).toNatClampNeg (mI σ1 90 x3.toNatClampNeg) → Ev 266 44 [.ref 59, .ref a1, .int x2, .int (x3 + 1)] [] σ4 w))))))) ∧ (¬ (x3 < 10) → (w = (none, σ)))) :
    Ev 266 44 [.ref 59, .ref a1, .int x2, .int x3] [] σ w := by
  refine e_iload_n d_266_44 rfl rfl ?_
  refine e_bipush d_266_45 cb_10 rfl ?_
  refine e_icmp_ge (t := 83) d_266_47 (by decide) rfl (fun hc => ?_) (fun hc => ?_)
  · replace H := H.2 hc
    subst H
    exact e_vret d_266_83 rr_266
  · replace H := H.1 hc
    refine e_aload_n d_266_50 rfl rfl ?_
    refine e_iload_n d_266_51 rfl rfl ?_
    refine e_iconst d_266_52 ci_4 rfl ?_
    refine e_iadd d_266_53 rfl ?_
    refine e_iload_n d_266_54 rfl rfl ?_
    refine e_iadd d_266_55 rfl ?_
    refine e_aload_n d_266_56 rfl rfl ?_
    refine e_getR d_266_57 oo_266 pF_9_103 (by decide) (hS.k rfl) (hS.r rt_59_56) rfl ?_
    refine e_iload_n d_266_60 rfl rfl ?_
    obtain ⟨hb, H⟩ := H
    refine e_iaload (v := (mI σ 89 x3.toNatClampNeg)) d_266_61 (rdI_at (hS.k rfl) hb) rfl ?_
    obtain ⟨hb, H⟩ := H
    refine e_iastore d_266_62 (okI_at (hS.k h1) hb) rfl ?_
    generalize hm2 : uI σ a1 ((x2 + 4) + x3).toNatClampNeg (mI σ 89 x3.toNatClampNeg) = σ1
    have hS3 : Sg t σ1 := by rw [← hm2]; exact hS.uI
    replace H := H σ1 hm2.symm
    refine e_aload_n d_266_63 rfl rfl ?_
    refine e_iload_n d_266_64 rfl rfl ?_
    refine e_bipush d_266_65 cb_14 rfl ?_
    refine e_iadd d_266_67 rfl ?_
    refine e_iload_n d_266_68 rfl rfl ?_
    refine e_iadd d_266_69 rfl ?_
    refine e_aload_n d_266_70 rfl rfl ?_
    refine e_getR d_266_71 oo_266 pF_9_106 (by decide) (hS3.k rfl) (hS3.r rt_59_57) rfl ?_
    refine e_iload_n d_266_74 rfl rfl ?_
    obtain ⟨hb, H⟩ := H
    refine e_iaload (v := (mI σ1 90 x3.toNatClampNeg)) d_266_75 (rdI_at (hS3.k rfl) hb) rfl ?_
    obtain ⟨hb, H⟩ := H
    refine e_iastore d_266_76 (okI_at (hS3.k h1) hb) rfl ?_
    generalize hm5 : uI σ1 a1 ((x2 + 14) + x3).toNatClampNeg (mI σ1 90 x3.toNatClampNeg) = σ4
    have hS6 : Sg t σ4 := by rw [← hm5]; exact hS3.uI
    replace H := H σ4 hm5.symm
    refine e_iinc (ls2 := [.ref 59, .ref a1, .int x2, .int (x3 + 1)]) d_266_77 rfl ci_1 rfl rfl rfl ?_
    refine e_goto (t := 44) d_266_80 (by decide) ?_
    exact H
/-! X9_take -/
theorem b_267_0 {t : Nat} {σ : Mm} {w : Option Value × Mm} {a1 n1 : Nat} {x2 : Int32} (hS : Sg t σ) (h1 : KS[a1]? = some (11, n1))
    (H : inb x2 n1 = true ∧ (inb (x2 + 1) n1 = true ∧ (∀ (σ1 : Mm), σ1 = uI (uI σ 82 0 (mI σ a1 x2.toNatClampNeg)) 83 0 (mI (uI σ 82 0 (mI σ a1 x2.toNatClampNeg)) a1 (x2 + 1).toNatClampNeg) → (inb (x2 + 2) n1 = true ∧ (∀ (σ4 : Mm), σ4 = uI σ1 84 0 (mI σ1 a1 (x2 + 2).toNatClampNeg) → (inb (x2 + 3) n1 = true ∧ (∀ (σ7 : Mm), σ7 = uI σ4 85 0 (mI σ4 a1 (x2 + 3).toNatClampNeg) → Ev 267 44 [.ref 59, .ref a1, .int x2, .int 0] [] σ7 w))))))) :
    Ev 267 0 [.ref 59, .ref a1, .int x2, .retAddr 0] [] σ w := by
  refine e_aload_n d_267_0 rfl rfl ?_
  refine e_getR d_267_1 oo_267 pF_9_82 (by decide) (hS.k rfl) (hS.r rt_59_49) rfl ?_
  refine e_iconst d_267_4 ci_0 rfl ?_
  refine e_aload_n d_267_5 rfl rfl ?_
  refine e_iload_n d_267_6 rfl rfl ?_
  obtain ⟨hb, H⟩ := H
  refine e_iaload (v := (mI σ a1 x2.toNatClampNeg)) d_267_7 (rdI_at (hS.k h1) hb) rfl ?_
  refine e_iastore d_267_8 (okI_at (hS.k rfl) rfl) rfl ?_
  show Ev 267 9 [.ref 59, .ref a1, .int x2, .retAddr 0] [] (uI σ 82 0 (mI σ a1 x2.toNatClampNeg)) w
  refine e_aload_n d_267_9 rfl rfl ?_
  refine e_getR d_267_10 oo_267 pF_9_85 (by decide) (hS.uI.k rfl) (hS.uI.r rt_59_50) rfl ?_
  refine e_iconst d_267_13 ci_0 rfl ?_
  refine e_aload_n d_267_14 rfl rfl ?_
  refine e_iload_n d_267_15 rfl rfl ?_
  refine e_iconst d_267_16 ci_1 rfl ?_
  refine e_iadd d_267_17 rfl ?_
  obtain ⟨hb, H⟩ := H
  refine e_iaload (v := (mI (uI σ 82 0 (mI σ a1 x2.toNatClampNeg)) a1 (x2 + 1).toNatClampNeg)) d_267_18 (rdI_at (hS.uI.k h1) hb) rfl ?_
  refine e_iastore d_267_19 (okI_at (hS.uI.k rfl) rfl) rfl ?_
  show Ev 267 20 [.ref 59, .ref a1, .int x2, .retAddr 0] [] (uI (uI σ 82 0 (mI σ a1 x2.toNatClampNeg)) 83 0 (mI (uI σ 82 0 (mI σ a1 x2.toNatClampNeg)) a1 (x2 + 1).toNatClampNeg)) w
  generalize hm2 : uI (uI σ 82 0 (mI σ a1 x2.toNatClampNeg)) 83 0 (mI (uI σ 82 0 (mI σ a1 x2.toNatClampNeg)) a1 (x2 + 1).toNatClampNeg) = σ1
  have hS3 : Sg t σ1 := by rw [← hm2]; exact hS.uI.uI
  replace H := H σ1 hm2.symm
  refine e_aload_n d_267_20 rfl rfl ?_
  refine e_getR d_267_21 oo_267 pF_9_88 (by decide) (hS3.k rfl) (hS3.r rt_59_51) rfl ?_
  refine e_iconst d_267_24 ci_0 rfl ?_
  refine e_aload_n d_267_25 rfl rfl ?_
  refine e_iload_n d_267_26 rfl rfl ?_
  refine e_iconst d_267_27 ci_2 rfl ?_
  refine e_iadd d_267_28 rfl ?_
  obtain ⟨hb, H⟩ := H
  refine e_iaload (v := (mI σ1 a1 (x2 + 2).toNatClampNeg)) d_267_29 (rdI_at (hS3.k h1) hb) rfl ?_
  refine e_iastore d_267_30 (okI_at (hS3.k rfl) rfl) rfl ?_
  show Ev 267 31 [.ref 59, .ref a1, .int x2, .retAddr 0] [] (uI σ1 84 0 (mI σ1 a1 (x2 + 2).toNatClampNeg)) w
  generalize hm5 : uI σ1 84 0 (mI σ1 a1 (x2 + 2).toNatClampNeg) = σ4
  have hS6 : Sg t σ4 := by rw [← hm5]; exact hS3.uI
  replace H := H σ4 hm5.symm
  refine e_aload_n d_267_31 rfl rfl ?_
  refine e_getR d_267_32 oo_267 pF_9_91 (by decide) (hS6.k rfl) (hS6.r rt_59_52) rfl ?_
  refine e_iconst d_267_35 ci_0 rfl ?_
  refine e_aload_n d_267_36 rfl rfl ?_
  refine e_iload_n d_267_37 rfl rfl ?_
  refine e_iconst d_267_38 ci_3 rfl ?_
  refine e_iadd d_267_39 rfl ?_
  obtain ⟨hb, H⟩ := H
  refine e_iaload (v := (mI σ4 a1 (x2 + 3).toNatClampNeg)) d_267_40 (rdI_at (hS6.k h1) hb) rfl ?_
  refine e_iastore d_267_41 (okI_at (hS6.k rfl) rfl) rfl ?_
  show Ev 267 42 [.ref 59, .ref a1, .int x2, .retAddr 0] [] (uI σ4 85 0 (mI σ4 a1 (x2 + 3).toNatClampNeg)) w
  generalize hm8 : uI σ4 85 0 (mI σ4 a1 (x2 + 3).toNatClampNeg) = σ7
  have hS9 : Sg t σ7 := by rw [← hm8]; exact hS6.uI
  replace H := H σ7 hm8.symm
  refine e_iconst d_267_42 ci_0 rfl ?_
  refine e_istore_n (ls2 := [.ref 59, .ref a1, .int x2, .int 0]) d_267_43 rfl rfl rfl ?_
  exact H
theorem b_267_44 {t : Nat} {σ : Mm} {w : Option Value × Mm} {x2 : Int32} {x3 : Int32} {a1 n1 : Nat} (hS : Sg t σ) (h1 : KS[a1]? = some (11, n1))
    (H : (x3 < 10 → (inb ((x2 + 4) + x3) n1 = true ∧ (inb x3 20 = true ∧ (∀ (σ1 : Mm), σ1 = uI σ 89 x3.toNatClampNeg (mI σ a1 ((x2 + 4) + x3).toNatClampNeg) → (inb ((x2 + 14) + x3) n1 = true ∧ (inb x3 20 = true ∧ (∀ (σ4 : Mm), σ4 = uI σ1 90 x3.toNatClampNeg (mI σ1 a1 ((x2 + 14) + x3).toNatClampNeg) → Ev 267 44 [.ref 59, .ref a1, .int x2, .int (x3 + 1)] [] σ4 w))))))) ∧ (¬ (x3 < 10) → (w = (none, σ)))) :
    Ev 267 44 [.ref 59, .ref a1, .int x2, .int x3] [] σ w := by
  refine e_iload_n d_267_44 rfl rfl ?_
  refine e_bipush d_267_45 cb_10 rfl ?_
  refine e_icmp_ge (t := 83) d_267_47 (by decide) rfl (fun hc => ?_) (fun hc => ?_)
  · replace H := H.2 hc
    subst H
    exact e_vret d_267_83 rr_267
  · replace H := H.1 hc
    refine e_aload_n d_267_50 rfl rfl ?_
    refine e_getR d_267_51 oo_267 pF_9_103 (by decide) (hS.k rfl) (hS.r rt_59_56) rfl ?_
    refine e_iload_n d_267_54 rfl rfl ?_
    refine e_aload_n d_267_55 rfl rfl ?_
    refine e_iload_n d_267_56 rfl rfl ?_
    refine e_iconst d_267_57 ci_4 rfl ?_
    refine e_iadd d_267_58 rfl ?_
    refine e_iload_n d_267_59 rfl rfl ?_
    refine e_iadd d_267_60 rfl ?_
    obtain ⟨hb, H⟩ := H
    refine e_iaload (v := (mI σ a1 ((x2 + 4) + x3).toNatClampNeg)) d_267_61 (rdI_at (hS.k h1) hb) rfl ?_
    obtain ⟨hb, H⟩ := H
    refine e_iastore d_267_62 (okI_at (hS.k rfl) hb) rfl ?_
    generalize hm2 : uI σ 89 x3.toNatClampNeg (mI σ a1 ((x2 + 4) + x3).toNatClampNeg) = σ1
    have hS3 : Sg t σ1 := by rw [← hm2]; exact hS.uI
    replace H := H σ1 hm2.symm
    refine e_aload_n d_267_63 rfl rfl ?_
    refine e_getR d_267_64 oo_267 pF_9_106 (by decide) (hS3.k rfl) (hS3.r rt_59_57) rfl ?_
    refine e_iload_n d_267_67 rfl rfl ?_
    refine e_aload_n d_267_68 rfl rfl ?_
    refine e_iload_n d_267_69 rfl rfl ?_
    refine e_bipush d_267_70 cb_14 rfl ?_
    refine e_iadd d_267_72 rfl ?_
    refine e_iload_n d_267_73 rfl rfl ?_
    refine e_iadd d_267_74 rfl ?_
    obtain ⟨hb, H⟩ := H
    refine e_iaload (v := (mI σ1 a1 ((x2 + 14) + x3).toNatClampNeg)) d_267_75 (rdI_at (hS3.k h1) hb) rfl ?_
    obtain ⟨hb, H⟩ := H
    refine e_iastore d_267_76 (okI_at (hS3.k rfl) hb) rfl ?_
    generalize hm5 : uI σ1 90 x3.toNatClampNeg (mI σ1 a1 ((x2 + 14) + x3).toNatClampNeg) = σ4
    have hS6 : Sg t σ4 := by rw [← hm5]; exact hS3.uI
    replace H := H σ4 hm5.symm
    refine e_iinc (ls2 := [.ref 59, .ref a1, .int x2, .int (x3 + 1)]) d_267_77 rfl ci_1 rfl rfl rfl ?_
    refine e_goto (t := 44) d_267_80 (by decide) ?_
    exact H
/-! X9_remember -/
theorem b_268_0 {t : Nat} {σ : Mm} {w : Option Value × Mm}  (hS : Sg t σ) 
    (H : ((mI σ 59 72) = 20 → Ev 268 11 [.ref 59, .int 0] [] σ w) ∧ (¬ ((mI σ 59 72) = 20) → Ev 268 49 [.ref 59, .retAddr 0] [] σ w)) :
    Ev 268 0 [.ref 59, .retAddr 0] [] σ w := by
  refine e_aload_n d_268_0 rfl rfl ?_
  refine e_getI d_268_1 oo_268 pF_9_368 (by decide) (hS.k rfl) rfl ?_
  refine e_bipush d_268_4 cb_20 rfl ?_
  refine e_icmp_ne (t := 49) d_268_6 (by decide) rfl (fun hc => ?_) (fun hc => ?_)
  · replace H := H.2 hc
    exact H
  · replace H := H.1 hc
    refine e_iconst d_268_9 ci_0 rfl ?_
    refine e_istore_n (ls2 := [.ref 59, .int 0]) d_268_10 rfl rfl rfl ?_
    exact H
theorem b_268_11 {t : Nat} {σ : Mm} {w : Option Value × Mm} {x1 : Int32} (hS : Sg t σ) 
    (H : (x1 < 456 → (inb (x1 + 24) 480 = true ∧ (inb x1 480 = true ∧ (∀ (σ1 : Mm), σ1 = uI σ 96 x1.toNatClampNeg (mI σ 96 (x1 + 24).toNatClampNeg) → Ev 268 11 [.ref 59, .int (x1 + 1)] [] σ1 w)))) ∧ (¬ (x1 < 456) → Ev 268 49 [.ref 59, .int x1] [] (uI σ 59 72 ((mI σ 59 72) - 1)) w)) :
    Ev 268 11 [.ref 59, .int x1] [] σ w := by
  refine e_iload_n d_268_11 rfl rfl ?_
  refine e_sipush d_268_12 cs_456 rfl ?_
  refine e_icmp_ge (t := 39) d_268_15 (by decide) rfl (fun hc => ?_) (fun hc => ?_)
  · replace H := H.2 hc
    refine e_aload_n d_268_39 rfl rfl ?_
    refine e_dup d_268_40 rfl rfl ?_
    refine e_getI d_268_41 oo_268 pF_9_368 (by decide) (hS.k rfl) rfl ?_
    refine e_iconst d_268_44 ci_1 rfl ?_
    refine e_isub d_268_45 rfl ?_
    refine e_putI d_268_46 oo_268 pF_9_368 (Or.inl rfl) (hS.k rfl) rfl ?_
    exact H
  · replace H := H.1 hc
    refine e_aload_n d_268_18 rfl rfl ?_
    refine e_getR d_268_19 oo_268 pF_9_127 (by decide) (hS.k rfl) (hS.r rt_59_73) rfl ?_
    refine e_iload_n d_268_22 rfl rfl ?_
    refine e_aload_n d_268_23 rfl rfl ?_
    refine e_getR d_268_24 oo_268 pF_9_127 (by decide) (hS.k rfl) (hS.r rt_59_73) rfl ?_
    refine e_iload_n d_268_27 rfl rfl ?_
    refine e_bipush d_268_28 cb_24 rfl ?_
    refine e_iadd d_268_30 rfl ?_
    obtain ⟨hb, H⟩ := H
    refine e_iaload (v := (mI σ 96 (x1 + 24).toNatClampNeg)) d_268_31 (rdI_at (hS.k rfl) hb) rfl ?_
    obtain ⟨hb, H⟩ := H
    refine e_iastore d_268_32 (okI_at (hS.k rfl) hb) rfl ?_
    generalize hm2 : uI σ 96 x1.toNatClampNeg (mI σ 96 (x1 + 24).toNatClampNeg) = σ1
    have hS3 : Sg t σ1 := by rw [← hm2]; exact hS.uI
    replace H := H σ1 hm2.symm
    refine e_iinc (ls2 := [.ref 59, .int (x1 + 1)]) d_268_33 rfl ci_1 rfl rfl rfl ?_
    refine e_goto (t := 11) d_268_36 (by decide) ?_
    exact H
theorem b_268_49 {t : Nat} {σ : Mm} {w : Option Value × Mm} {z1 : Value} (hS : Sg t σ) 
    (H : ∃ (σ1 : Mm), Cl 266 [.ref 59, .ref 96, .int (24 * (mI σ 59 72))] σ (none, σ1) ∧ Sg t σ1 ∧ (w = (none, uI σ1 59 72 ((mI σ1 59 72) + 1)))) :
    Ev 268 49 [.ref 59, z1] [] σ w := by
  refine e_aload_n d_268_49 rfl rfl ?_
  refine e_aload_n d_268_50 rfl rfl ?_
  refine e_getR d_268_51 oo_268 pF_9_127 (by decide) (hS.k rfl) (hS.r rt_59_73) rfl ?_
  refine e_bipush d_268_54 cb_24 rfl ?_
  refine e_aload_n d_268_56 rfl rfl ?_
  refine e_getI d_268_57 oo_268 pF_9_368 (by decide) (hS.k rfl) rfl ?_
  refine e_imul d_268_60 rfl ?_
  obtain ⟨σ1, hcl, hS2, H⟩ := H
  refine e_vcall (w1 := (none, σ1)) d_268_61 kc_268_61 rfl ⟨Nat.le_of_ble_eq_true rfl, xx_268.symm⟩ rfl hcl ?_
  show Ev 268 64 [.ref 59, z1] [] σ1 w
  refine e_aload_n d_268_64 rfl rfl ?_
  refine e_dup d_268_65 rfl rfl ?_
  refine e_getI d_268_66 oo_268 pF_9_368 (by decide) (hS2.k rfl) rfl ?_
  refine e_iconst d_268_69 ci_1 rfl ?_
  refine e_iadd d_268_70 rfl ?_
  refine e_putI d_268_71 oo_268 pF_9_368 (Or.inl rfl) (hS2.k rfl) rfl ?_
  subst H
  exact e_vret d_268_74 rr_268
/-! X9_undo -/
theorem b_269_0 {t : Nat} {σ : Mm} {w : Option Value × Mm}  (hS : Sg t σ) 
    (H : ((mI (uI σ 59 2 0) 59 72) = 0 → (w = (some (.int (-1)), uI σ 59 2 0))) ∧ (¬ ((mI (uI σ 59 2 0) 59 72) = 0) → (∀ (σ1 : Mm), σ1 = uI (uI σ 59 2 0) 59 72 ((mI (uI σ 59 2 0) 59 72) - 1) → (∃ (σ4 : Mm), Cl 267 [.ref 59, .ref 96, .int (24 * (mI σ1 59 72))] σ1 (none, σ4) ∧ Sg t σ4 ∧ (w = (some (.int (mI σ4 59 72)), σ4)))))) :
    Ev 269 0 [.ref 59] [] σ w := by
  refine e_aload_n d_269_0 rfl rfl ?_
  refine e_iconst d_269_1 ci_0 rfl ?_
  refine e_putI d_269_2 oo_269 pF_9_142 (Or.inl rfl) (hS.k rfl) rfl ?_
  refine e_aload_n d_269_5 rfl rfl ?_
  refine e_getI d_269_6 oo_269 pF_9_368 (by decide) (hS.uI.k rfl) rfl ?_
  refine e_if_ne (t := 14) d_269_9 (by decide) rfl (fun hc => ?_) (fun hc => ?_)
  · replace H := H.2 hc
    refine e_aload_n d_269_14 rfl rfl ?_
    refine e_dup d_269_15 rfl rfl ?_
    refine e_getI d_269_16 oo_269 pF_9_368 (by decide) (hS.uI.k rfl) rfl ?_
    refine e_iconst d_269_19 ci_1 rfl ?_
    refine e_isub d_269_20 rfl ?_
    refine e_putI d_269_21 oo_269 pF_9_368 (Or.inl rfl) (hS.uI.k rfl) rfl ?_
    generalize hm2 : uI (uI σ 59 2 0) 59 72 ((mI (uI σ 59 2 0) 59 72) - 1) = σ1
    have hS3 : Sg t σ1 := by rw [← hm2]; exact hS.uI.uI
    replace H := H σ1 hm2.symm
    refine e_aload_n d_269_24 rfl rfl ?_
    refine e_aload_n d_269_25 rfl rfl ?_
    refine e_getR d_269_26 oo_269 pF_9_127 (by decide) (hS3.k rfl) (hS3.r rt_59_73) rfl ?_
    refine e_bipush d_269_29 cb_24 rfl ?_
    refine e_aload_n d_269_31 rfl rfl ?_
    refine e_getI d_269_32 oo_269 pF_9_368 (by decide) (hS3.k rfl) rfl ?_
    refine e_imul d_269_35 rfl ?_
    obtain ⟨σ4, hcl, hS5, H⟩ := H
    refine e_vcall (w1 := (none, σ4)) d_269_36 kc_269_36 rfl ⟨Nat.le_of_ble_eq_true rfl, xx_269.symm⟩ rfl hcl ?_
    show Ev 269 39 [.ref 59] [] σ4 w
    refine e_aload_n d_269_39 rfl rfl ?_
    refine e_getI d_269_40 oo_269 pF_9_368 (by decide) (hS5.k rfl) rfl ?_
    subst H
    exact e_iret d_269_43 rr_269
  · replace H := H.1 hc
    refine e_iconst d_269_12 ci_m1 rfl ?_
    subst H
    exact e_iret d_269_13 rr_269
/-! X9_keep -/
theorem b_270_0 {t : Nat} {σ : Mm} {w : Option Value × Mm}  (hS : Sg t σ) 
    (H : ∃ (σ1 : Mm), Cl 266 [.ref 59, .ref 97, .int 0] (uI (uI σ 59 2 0) 59 74 1) (none, σ1) ∧ Sg t σ1 ∧ Ev 270 21 [.ref 59, .int 0] [] σ1 w) :
    Ev 270 0 [.ref 59, .retAddr 0] [] σ w := by
  refine e_aload_n d_270_0 rfl rfl ?_
  refine e_iconst d_270_1 ci_0 rfl ?_
  refine e_putI d_270_2 oo_270 pF_9_142 (Or.inl rfl) (hS.k rfl) rfl ?_
  refine e_aload_n d_270_5 rfl rfl ?_
  refine e_iconst d_270_6 ci_1 rfl ?_
  refine e_putZ d_270_7 oo_270 pF_9_371 (Or.inl rfl) (hS.uI.k rfl) (Or.inr rfl) rfl ?_
  refine e_aload_n d_270_10 rfl rfl ?_
  refine e_aload_n d_270_11 rfl rfl ?_
  refine e_getR d_270_12 oo_270 pF_9_130 (by decide) (hS.uI.uI.k rfl) (hS.uI.uI.r rt_59_75) rfl ?_
  refine e_iconst d_270_15 ci_0 rfl ?_
  obtain ⟨σ1, hcl, hS2, H⟩ := H
  refine e_vcall (w1 := (none, σ1)) d_270_16 kc_270_16 rfl ⟨Nat.le_of_ble_eq_true rfl, xx_270.symm⟩ rfl hcl ?_
  show Ev 270 19 [.ref 59, .retAddr 0] [] σ1 w
  refine e_iconst d_270_19 ci_0 rfl ?_
  refine e_istore_n (ls2 := [.ref 59, .int 0]) d_270_20 rfl rfl rfl ?_
  exact H
theorem b_270_21 {t : Nat} {σ : Mm} {w : Option Value × Mm} {x1 : Int32} (hS : Sg t σ) 
    (H : (x1 < 14 → (inb x1 28 = true ∧ (inb x1 16 = true ∧ (∀ (σ4 : Mm), σ4 = uI σ 98 x1.toNatClampNeg (mI σ 88 x1.toNatClampNeg) → Ev 270 21 [.ref 59, .int (x1 + 1)] [] σ4 w)))) ∧ (¬ (x1 < 14) → (∀ (σ1 : Mm), σ1 = uI (uI σ 98 14 (mI σ 86 0)) 98 15 (mI (uI σ 98 14 (mI σ 86 0)) 87 0) → (w = (some (.int (mI (uL σ1 59 77 (mL σ1 59 58)) 87 0)), uL σ1 59 77 (mL σ1 59 58)))))) :
    Ev 270 21 [.ref 59, .int x1] [] σ w := by
  refine e_iload_n d_270_21 rfl rfl ?_
  refine e_bipush d_270_22 cb_14 rfl ?_
  refine e_icmp_ge (t := 45) d_270_24 (by decide) rfl (fun hc => ?_) (fun hc => ?_)
  · replace H := H.2 hc
    refine e_aload_n d_270_45 rfl rfl ?_
    refine e_getR d_270_46 oo_270 pF_9_133 (by decide) (hS.k rfl) (hS.r rt_59_76) rfl ?_
    refine e_bipush d_270_49 cb_14 rfl ?_
    refine e_aload_n d_270_51 rfl rfl ?_
    refine e_getR d_270_52 oo_270 pF_9_94 (by decide) (hS.k rfl) (hS.r rt_59_53) rfl ?_
    refine e_iconst d_270_55 ci_0 rfl ?_
    refine e_iaload (v := (mI σ 86 0)) d_270_56 (rdI_at (hS.k rfl) rfl) rfl ?_
    refine e_iastore d_270_57 (okI_at (hS.k rfl) rfl) rfl ?_
    show Ev 270 58 [.ref 59, .int x1] [] (uI σ 98 14 (mI σ 86 0)) w
    refine e_aload_n d_270_58 rfl rfl ?_
    refine e_getR d_270_59 oo_270 pF_9_133 (by decide) (hS.uI.k rfl) (hS.uI.r rt_59_76) rfl ?_
    refine e_bipush d_270_62 cb_15 rfl ?_
    refine e_aload_n d_270_64 rfl rfl ?_
    refine e_getR d_270_65 oo_270 pF_9_97 (by decide) (hS.uI.k rfl) (hS.uI.r rt_59_54) rfl ?_
    refine e_iconst d_270_68 ci_0 rfl ?_
    refine e_iaload (v := (mI (uI σ 98 14 (mI σ 86 0)) 87 0)) d_270_69 (rdI_at (hS.uI.k rfl) rfl) rfl ?_
    refine e_iastore d_270_70 (okI_at (hS.uI.k rfl) rfl) rfl ?_
    show Ev 270 71 [.ref 59, .int x1] [] (uI (uI σ 98 14 (mI σ 86 0)) 98 15 (mI (uI σ 98 14 (mI σ 86 0)) 87 0)) w
    generalize hm2 : uI (uI σ 98 14 (mI σ 86 0)) 98 15 (mI (uI σ 98 14 (mI σ 86 0)) 87 0) = σ1
    have hS3 : Sg t σ1 := by rw [← hm2]; exact hS.uI.uI
    replace H := H σ1 hm2.symm
    refine e_aload_n d_270_71 rfl rfl ?_
    refine e_aload_n d_270_72 rfl rfl ?_
    refine e_getL d_270_73 oo_270 pF_9_358 (by decide) (hS3.k rfl) rfl ?_
    refine e_putL d_270_76 oo_270 pF_9_523 (Or.inl rfl) (hS3.k rfl) rfl ?_
    refine e_aload_n d_270_79 rfl rfl ?_
    refine e_getR d_270_80 oo_270 pF_9_97 (by decide) (hS3.uL.k rfl) (hS3.uL.r rt_59_54) rfl ?_
    refine e_iconst d_270_83 ci_0 rfl ?_
    refine e_iaload (v := (mI (uL σ1 59 77 (mL σ1 59 58)) 87 0)) d_270_84 (rdI_at (hS3.uL.k rfl) rfl) rfl ?_
    subst H
    exact e_iret d_270_85 rr_270
  · replace H := H.1 hc
    refine e_aload_n d_270_27 rfl rfl ?_
    refine e_getR d_270_28 oo_270 pF_9_133 (by decide) (hS.k rfl) (hS.r rt_59_76) rfl ?_
    refine e_iload_n d_270_31 rfl rfl ?_
    refine e_aload_n d_270_32 rfl rfl ?_
    refine e_getR d_270_33 oo_270 pF_9_100 (by decide) (hS.k rfl) (hS.r rt_59_55) rfl ?_
    refine e_iload_n d_270_36 rfl rfl ?_
    obtain ⟨hb, H⟩ := H
    refine e_iaload (v := (mI σ 88 x1.toNatClampNeg)) d_270_37 (rdI_at (hS.k rfl) hb) rfl ?_
    obtain ⟨hb, H⟩ := H
    refine e_iastore d_270_38 (okI_at (hS.k rfl) hb) rfl ?_
    generalize hm5 : uI σ 98 x1.toNatClampNeg (mI σ 88 x1.toNatClampNeg) = σ4
    have hS6 : Sg t σ4 := by rw [← hm5]; exact hS.uI
    replace H := H σ4 hm5.symm
    refine e_iinc (ls2 := [.ref 59, .int (x1 + 1)]) d_270_39 rfl ci_1 rfl rfl rfl ?_
    refine e_goto (t := 21) d_270_42 (by decide) ?_
    exact H
/-! X9_back -/
theorem b_271_0 {t : Nat} {σ : Mm} {w : Option Value × Mm}  (hS : Sg t σ) 
    (H : ((mI (uI σ 59 2 0) 59 74) = 0 → (w = (some (.int (-1)), uI σ 59 2 0))) ∧ (¬ ((mI (uI σ 59 2 0) 59 74) = 0) → (∃ (σ1 : Mm), Cl 267 [.ref 59, .ref 97, .int 0] (uI σ 59 2 0) (none, σ1) ∧ Sg t σ1 ∧ Ev 271 25 [.ref 59, .int 0] [] σ1 w))) :
    Ev 271 0 [.ref 59, .retAddr 0] [] σ w := by
  refine e_aload_n d_271_0 rfl rfl ?_
  refine e_iconst d_271_1 ci_0 rfl ?_
  refine e_putI d_271_2 oo_271 pF_9_142 (Or.inl rfl) (hS.k rfl) rfl ?_
  refine e_aload_n d_271_5 rfl rfl ?_
  refine e_getZ d_271_6 oo_271 pF_9_371 (by decide) (hS.uI.k rfl) rfl ?_
  refine e_if_ne (t := 14) d_271_9 (by decide) rfl (fun hc => ?_) (fun hc => ?_)
  · replace H := H.2 hc
    refine e_aload_n d_271_14 rfl rfl ?_
    refine e_aload_n d_271_15 rfl rfl ?_
    refine e_getR d_271_16 oo_271 pF_9_130 (by decide) (hS.uI.k rfl) (hS.uI.r rt_59_75) rfl ?_
    refine e_iconst d_271_19 ci_0 rfl ?_
    obtain ⟨σ1, hcl, hS2, H⟩ := H
    refine e_vcall (w1 := (none, σ1)) d_271_20 kc_271_20 rfl ⟨Nat.le_of_ble_eq_true rfl, xx_271.symm⟩ rfl hcl ?_
    show Ev 271 23 [.ref 59, .retAddr 0] [] σ1 w
    refine e_iconst d_271_23 ci_0 rfl ?_
    refine e_istore_n (ls2 := [.ref 59, .int 0]) d_271_24 rfl rfl rfl ?_
    exact H
  · replace H := H.1 hc
    refine e_iconst d_271_12 ci_m1 rfl ?_
    subst H
    exact e_iret d_271_13 rr_271
theorem b_271_25 {t : Nat} {σ : Mm} {w : Option Value × Mm} {x1 : Int32} (hS : Sg t σ) 
    (H : (x1 < 14 → (inb x1 16 = true ∧ (inb x1 28 = true ∧ (∀ (σ4 : Mm), σ4 = uI σ 88 x1.toNatClampNeg (mI σ 98 x1.toNatClampNeg) → Ev 271 25 [.ref 59, .int (x1 + 1)] [] σ4 w)))) ∧ (¬ (x1 < 14) → (∀ (σ1 : Mm), σ1 = uI (uI σ 86 0 (mI σ 98 14)) 87 0 (mI (uI σ 86 0 (mI σ 98 14)) 98 15) → (w = (some (.int (mI (uI (uL σ1 59 58 (mL σ1 59 77)) 59 72 0) 87 0)), uI (uL σ1 59 58 (mL σ1 59 77)) 59 72 0))))) :
    Ev 271 25 [.ref 59, .int x1] [] σ w := by
  refine e_iload_n d_271_25 rfl rfl ?_
  refine e_bipush d_271_26 cb_14 rfl ?_
  refine e_icmp_ge (t := 49) d_271_28 (by decide) rfl (fun hc => ?_) (fun hc => ?_)
  · replace H := H.2 hc
    refine e_aload_n d_271_49 rfl rfl ?_
    refine e_getR d_271_50 oo_271 pF_9_94 (by decide) (hS.k rfl) (hS.r rt_59_53) rfl ?_
    refine e_iconst d_271_53 ci_0 rfl ?_
    refine e_aload_n d_271_54 rfl rfl ?_
    refine e_getR d_271_55 oo_271 pF_9_133 (by decide) (hS.k rfl) (hS.r rt_59_76) rfl ?_
    refine e_bipush d_271_58 cb_14 rfl ?_
    refine e_iaload (v := (mI σ 98 14)) d_271_60 (rdI_at (hS.k rfl) rfl) rfl ?_
    refine e_iastore d_271_61 (okI_at (hS.k rfl) rfl) rfl ?_
    show Ev 271 62 [.ref 59, .int x1] [] (uI σ 86 0 (mI σ 98 14)) w
    refine e_aload_n d_271_62 rfl rfl ?_
    refine e_getR d_271_63 oo_271 pF_9_97 (by decide) (hS.uI.k rfl) (hS.uI.r rt_59_54) rfl ?_
    refine e_iconst d_271_66 ci_0 rfl ?_
    refine e_aload_n d_271_67 rfl rfl ?_
    refine e_getR d_271_68 oo_271 pF_9_133 (by decide) (hS.uI.k rfl) (hS.uI.r rt_59_76) rfl ?_
    refine e_bipush d_271_71 cb_15 rfl ?_
    refine e_iaload (v := (mI (uI σ 86 0 (mI σ 98 14)) 98 15)) d_271_73 (rdI_at (hS.uI.k rfl) rfl) rfl ?_
    refine e_iastore d_271_74 (okI_at (hS.uI.k rfl) rfl) rfl ?_
    show Ev 271 75 [.ref 59, .int x1] [] (uI (uI σ 86 0 (mI σ 98 14)) 87 0 (mI (uI σ 86 0 (mI σ 98 14)) 98 15)) w
    generalize hm2 : uI (uI σ 86 0 (mI σ 98 14)) 87 0 (mI (uI σ 86 0 (mI σ 98 14)) 98 15) = σ1
    have hS3 : Sg t σ1 := by rw [← hm2]; exact hS.uI.uI
    replace H := H σ1 hm2.symm
    refine e_aload_n d_271_75 rfl rfl ?_
    refine e_aload_n d_271_76 rfl rfl ?_
    refine e_getL d_271_77 oo_271 pF_9_523 (by decide) (hS3.k rfl) rfl ?_
    refine e_putL d_271_80 oo_271 pF_9_358 (Or.inl rfl) (hS3.k rfl) rfl ?_
    refine e_aload_n d_271_83 rfl rfl ?_
    refine e_iconst d_271_84 ci_0 rfl ?_
    refine e_putI d_271_85 oo_271 pF_9_368 (Or.inl rfl) (hS3.uL.k rfl) rfl ?_
    refine e_aload_n d_271_88 rfl rfl ?_
    refine e_getR d_271_89 oo_271 pF_9_97 (by decide) (hS3.uL.uI.k rfl) (hS3.uL.uI.r rt_59_54) rfl ?_
    refine e_iconst d_271_92 ci_0 rfl ?_
    refine e_iaload (v := (mI (uI (uL σ1 59 58 (mL σ1 59 77)) 59 72 0) 87 0)) d_271_93 (rdI_at (hS3.uL.uI.k rfl) rfl) rfl ?_
    subst H
    exact e_iret d_271_94 rr_271
  · replace H := H.1 hc
    refine e_aload_n d_271_31 rfl rfl ?_
    refine e_getR d_271_32 oo_271 pF_9_100 (by decide) (hS.k rfl) (hS.r rt_59_55) rfl ?_
    refine e_iload_n d_271_35 rfl rfl ?_
    refine e_aload_n d_271_36 rfl rfl ?_
    refine e_getR d_271_37 oo_271 pF_9_133 (by decide) (hS.k rfl) (hS.r rt_59_76) rfl ?_
    refine e_iload_n d_271_40 rfl rfl ?_
    obtain ⟨hb, H⟩ := H
    refine e_iaload (v := (mI σ 98 x1.toNatClampNeg)) d_271_41 (rdI_at (hS.k rfl) hb) rfl ?_
    obtain ⟨hb, H⟩ := H
    refine e_iastore d_271_42 (okI_at (hS.k rfl) hb) rfl ?_
    generalize hm5 : uI σ 88 x1.toNatClampNeg (mI σ 98 x1.toNatClampNeg) = σ4
    have hS6 : Sg t σ4 := by rw [← hm5]; exact hS.uI
    replace H := H σ4 hm5.symm
    refine e_iinc (ls2 := [.ref 59, .int (x1 + 1)]) d_271_43 rfl ci_1 rfl rfl rfl ?_
    refine e_goto (t := 25) d_271_46 (by decide) ?_
    exact H
/-! X9_count -/
theorem b_272_0 {t : Nat} {σ : Mm} {w : Option Value × Mm} {x1 : Int32} (hS : Sg t σ) 
    (H : (x1 = 0 → (w = (some (.int (mI (uI σ 59 2 0) 59 12)), uI σ 59 2 0))) ∧ (x1 = 1 → (w = (some (.int (mI (uI σ 59 2 0) 59 13)), uI σ 59 2 0))) ∧ (x1 = 2 → (w = (some (.int (mI (uI σ 59 2 0) 59 14)), uI σ 59 2 0))) ∧ (x1 = 3 → (w = (some (.int (mI (uI σ 59 2 0) 59 16)), uI σ 59 2 0))) ∧ (x1 = 4 → (w = (some (.int (mI (uI σ 59 2 0) 87 0)), uI σ 59 2 0))) ∧ (x1 = 5 → (∃ (v3 : Int32) (σ1 : Mm), Cl 203 [.ref 59, .int 0] (uI σ 59 2 0) (some (.int v3), σ1) ∧ Sg t σ1 ∧ (∃ (v6 : Int32) (σ4 : Mm), Cl 202 [.int v3] σ1 (some (.int v6), σ4) ∧ Sg t σ4 ∧ (w = (some (.int v6), σ4))))) ∧ (x1 = 6 → (∃ (v9 : Int32) (σ7 : Mm), Cl 202 [.int (mI (uI σ 59 2 0) 82 0)] (uI σ 59 2 0) (some (.int v9), σ7) ∧ Sg t σ7 ∧ (w = (some (.int v9), σ7)))) ∧ (x1 = 7 → (∃ (v12 : Int32) (σ10 : Mm), Cl 202 [.int (mI (uI σ 59 2 0) 83 0)] (uI σ 59 2 0) (some (.int v12), σ10) ∧ Sg t σ10 ∧ (w = (some (.int v12), σ10)))) ∧ (x1 = 8 → (∃ (v15 : Int32) (σ13 : Mm), Cl 202 [.int (mI (uI σ 59 2 0) 84 0)] (uI σ 59 2 0) (some (.int v15), σ13) ∧ Sg t σ13 ∧ (w = (some (.int v15), σ13)))) ∧ (x1 = 9 → (w = (some (.int (mI (uI σ 59 2 0) 85 0)), uI σ 59 2 0))) ∧ (x1 = 10 → (w = (some (.int (mI (uI σ 59 2 0) 86 0)), uI σ 59 2 0))) ∧ (x1 = 11 → Ev 272 166 [.ref 59, .int x1, .int 0, .int 0] [] (uI σ 59 2 0) w) ∧ (x1 = 12 → (w = (some (.int (mI (uI σ 59 2 0) 59 68)), uI σ 59 2 0))) ∧ (x1 = 13 → (∃ (v18 : Int32) (σ16 : Mm), Cl 257 [.ref 59] (uI σ 59 2 0) (some (.int v18), σ16) ∧ Sg t σ16 ∧ (w = (some (.int v18), σ16)))) ∧ (x1 = 14 → (w = (some (.int (mI (uI σ 59 2 0) 59 72)), uI σ 59 2 0))) ∧ ((¬ x1 = 0 ∧ ¬ x1 = 1 ∧ ¬ x1 = 2 ∧ ¬ x1 = 3 ∧ ¬ x1 = 4 ∧ ¬ x1 = 5 ∧ ¬ x1 = 6 ∧ ¬ x1 = 7 ∧ ¬ x1 = 8 ∧ ¬ x1 = 9 ∧ ¬ x1 = 10 ∧ ¬ x1 = 11 ∧ ¬ x1 = 12 ∧ ¬ x1 = 13 ∧ ¬ x1 = 14) → (w = (some (.int (-1)), uI σ 59 2 0)))) :
    Ev 272 0 [.ref 59, .int x1, .retAddr 0, .retAddr 0] [] σ w := by
  refine e_aload_n d_272_0 rfl rfl ?_
  refine e_iconst d_272_1 ci_0 rfl ?_
  refine e_putI d_272_2 oo_272 pF_9_142 (Or.inl rfl) (hS.k rfl) rfl ?_
  refine e_iconst d_272_5 ci_0 rfl ?_
  refine e_istore_n (ls2 := [.ref 59, .int x1, .int 0, .retAddr 0]) d_272_6 rfl rfl rfl ?_
  refine e_iload_n d_272_7 rfl rfl ?_
  by_cases hs0 : x1 = 0
  · replace H := H.1 hs0
    refine e_table (off := 76) (t := 84) d_272_8 (by rw [hs0]; decide +kernel) (by decide) ?_
    refine e_aload_n d_272_84 rfl rfl ?_
    refine e_getI d_272_85 oo_272 pF_9_222 (by decide) (hS.uI.k rfl) rfl ?_
    subst H
    exact e_iret d_272_88 rr_272
  by_cases hs1 : x1 = 1
  · replace H := H.2.1 hs1
    refine e_table (off := 81) (t := 89) d_272_8 (by rw [hs1]; decide +kernel) (by decide) ?_
    refine e_aload_n d_272_89 rfl rfl ?_
    refine e_getI d_272_90 oo_272 pF_9_225 (by decide) (hS.uI.k rfl) rfl ?_
    subst H
    exact e_iret d_272_93 rr_272
  by_cases hs2 : x1 = 2
  · replace H := H.2.2.1 hs2
    refine e_table (off := 86) (t := 94) d_272_8 (by rw [hs2]; decide +kernel) (by decide) ?_
    refine e_aload_n d_272_94 rfl rfl ?_
    refine e_getI d_272_95 oo_272 pF_9_228 (by decide) (hS.uI.k rfl) rfl ?_
    subst H
    exact e_iret d_272_98 rr_272
  by_cases hs3 : x1 = 3
  · replace H := H.2.2.2.1 hs3
    refine e_table (off := 91) (t := 99) d_272_8 (by rw [hs3]; decide +kernel) (by decide) ?_
    refine e_aload_n d_272_99 rfl rfl ?_
    refine e_getI d_272_100 oo_272 pF_9_234 (by decide) (hS.uI.k rfl) rfl ?_
    subst H
    exact e_iret d_272_103 rr_272
  by_cases hs4 : x1 = 4
  · replace H := H.2.2.2.2.1 hs4
    refine e_table (off := 96) (t := 104) d_272_8 (by rw [hs4]; decide +kernel) (by decide) ?_
    refine e_aload_n d_272_104 rfl rfl ?_
    refine e_getR d_272_105 oo_272 pF_9_97 (by decide) (hS.uI.k rfl) (hS.uI.r rt_59_54) rfl ?_
    refine e_iconst d_272_108 ci_0 rfl ?_
    refine e_iaload (v := (mI (uI σ 59 2 0) 87 0)) d_272_109 (rdI_at (hS.uI.k rfl) rfl) rfl ?_
    subst H
    exact e_iret d_272_110 rr_272
  by_cases hs5 : x1 = 5
  · replace H := H.2.2.2.2.2.1 hs5
    refine e_table (off := 103) (t := 111) d_272_8 (by rw [hs5]; decide +kernel) (by decide) ?_
    refine e_aload_n d_272_111 rfl rfl ?_
    refine e_iconst d_272_112 ci_0 rfl ?_
    obtain ⟨v3, σ1, hcl, hS2, H⟩ := H
    refine e_vcall (w1 := (some (.int v3), σ1)) d_272_113 kc_272_113 rfl ⟨Nat.le_of_ble_eq_true rfl, xx_272.symm⟩ rfl hcl ?_
    show Ev 272 116 [.ref 59, .int x1, .int 0, .retAddr 0] [.int v3] σ1 w
    obtain ⟨v6, σ4, hcl, hS5, H⟩ := H
    refine e_scall (w1 := (some (.int v6), σ4)) d_272_116 kc_272_116 rfl ⟨Nat.le_of_ble_eq_true rfl, xx_272.symm⟩ rfl hcl ?_
    show Ev 272 119 [.ref 59, .int x1, .int 0, .retAddr 0] [.int v6] σ4 w
    subst H
    exact e_iret d_272_119 rr_272
  by_cases hs6 : x1 = 6
  · replace H := H.2.2.2.2.2.2.1 hs6
    refine e_table (off := 112) (t := 120) d_272_8 (by rw [hs6]; decide +kernel) (by decide) ?_
    refine e_aload_n d_272_120 rfl rfl ?_
    refine e_getR d_272_121 oo_272 pF_9_82 (by decide) (hS.uI.k rfl) (hS.uI.r rt_59_49) rfl ?_
    refine e_iconst d_272_124 ci_0 rfl ?_
    refine e_iaload (v := (mI (uI σ 59 2 0) 82 0)) d_272_125 (rdI_at (hS.uI.k rfl) rfl) rfl ?_
    obtain ⟨v9, σ7, hcl, hS8, H⟩ := H
    refine e_scall (w1 := (some (.int v9), σ7)) d_272_126 kc_272_126 rfl ⟨Nat.le_of_ble_eq_true rfl, xx_272.symm⟩ rfl hcl ?_
    show Ev 272 129 [.ref 59, .int x1, .int 0, .retAddr 0] [.int v9] σ7 w
    subst H
    exact e_iret d_272_129 rr_272
  by_cases hs7 : x1 = 7
  · replace H := H.2.2.2.2.2.2.2.1 hs7
    refine e_table (off := 122) (t := 130) d_272_8 (by rw [hs7]; decide +kernel) (by decide) ?_
    refine e_aload_n d_272_130 rfl rfl ?_
    refine e_getR d_272_131 oo_272 pF_9_85 (by decide) (hS.uI.k rfl) (hS.uI.r rt_59_50) rfl ?_
    refine e_iconst d_272_134 ci_0 rfl ?_
    refine e_iaload (v := (mI (uI σ 59 2 0) 83 0)) d_272_135 (rdI_at (hS.uI.k rfl) rfl) rfl ?_
    obtain ⟨v12, σ10, hcl, hS11, H⟩ := H
    refine e_scall (w1 := (some (.int v12), σ10)) d_272_136 kc_272_136 rfl ⟨Nat.le_of_ble_eq_true rfl, xx_272.symm⟩ rfl hcl ?_
    show Ev 272 139 [.ref 59, .int x1, .int 0, .retAddr 0] [.int v12] σ10 w
    subst H
    exact e_iret d_272_139 rr_272
  by_cases hs8 : x1 = 8
  · replace H := H.2.2.2.2.2.2.2.2.1 hs8
    refine e_table (off := 132) (t := 140) d_272_8 (by rw [hs8]; decide +kernel) (by decide) ?_
    refine e_aload_n d_272_140 rfl rfl ?_
    refine e_getR d_272_141 oo_272 pF_9_88 (by decide) (hS.uI.k rfl) (hS.uI.r rt_59_51) rfl ?_
    refine e_iconst d_272_144 ci_0 rfl ?_
    refine e_iaload (v := (mI (uI σ 59 2 0) 84 0)) d_272_145 (rdI_at (hS.uI.k rfl) rfl) rfl ?_
    obtain ⟨v15, σ13, hcl, hS14, H⟩ := H
    refine e_scall (w1 := (some (.int v15), σ13)) d_272_146 kc_272_146 rfl ⟨Nat.le_of_ble_eq_true rfl, xx_272.symm⟩ rfl hcl ?_
    show Ev 272 149 [.ref 59, .int x1, .int 0, .retAddr 0] [.int v15] σ13 w
    subst H
    exact e_iret d_272_149 rr_272
  by_cases hs9 : x1 = 9
  · replace H := H.2.2.2.2.2.2.2.2.2.1 hs9
    refine e_table (off := 142) (t := 150) d_272_8 (by rw [hs9]; decide +kernel) (by decide) ?_
    refine e_aload_n d_272_150 rfl rfl ?_
    refine e_getR d_272_151 oo_272 pF_9_91 (by decide) (hS.uI.k rfl) (hS.uI.r rt_59_52) rfl ?_
    refine e_iconst d_272_154 ci_0 rfl ?_
    refine e_iaload (v := (mI (uI σ 59 2 0) 85 0)) d_272_155 (rdI_at (hS.uI.k rfl) rfl) rfl ?_
    subst H
    exact e_iret d_272_156 rr_272
  by_cases hs10 : x1 = 10
  · replace H := H.2.2.2.2.2.2.2.2.2.2.1 hs10
    refine e_table (off := 149) (t := 157) d_272_8 (by rw [hs10]; decide +kernel) (by decide) ?_
    refine e_aload_n d_272_157 rfl rfl ?_
    refine e_getR d_272_158 oo_272 pF_9_94 (by decide) (hS.uI.k rfl) (hS.uI.r rt_59_53) rfl ?_
    refine e_iconst d_272_161 ci_0 rfl ?_
    refine e_iaload (v := (mI (uI σ 59 2 0) 86 0)) d_272_162 (rdI_at (hS.uI.k rfl) rfl) rfl ?_
    subst H
    exact e_iret d_272_163 rr_272
  by_cases hs11 : x1 = 11
  · replace H := H.2.2.2.2.2.2.2.2.2.2.2.1 hs11
    refine e_table (off := 156) (t := 164) d_272_8 (by rw [hs11]; decide +kernel) (by decide) ?_
    refine e_iconst d_272_164 ci_0 rfl ?_
    refine e_istore_n (ls2 := [.ref 59, .int x1, .int 0, .int 0]) d_272_165 rfl rfl rfl ?_
    exact H
  by_cases hs12 : x1 = 12
  · replace H := H.2.2.2.2.2.2.2.2.2.2.2.2.1 hs12
    refine e_table (off := 186) (t := 194) d_272_8 (by rw [hs12]; decide +kernel) (by decide) ?_
    refine e_aload_n d_272_194 rfl rfl ?_
    refine e_getI d_272_195 oo_272 pF_9_365 (by decide) (hS.uI.k rfl) rfl ?_
    subst H
    exact e_iret d_272_198 rr_272
  by_cases hs13 : x1 = 13
  · replace H := H.2.2.2.2.2.2.2.2.2.2.2.2.2.1 hs13
    refine e_table (off := 191) (t := 199) d_272_8 (by rw [hs13]; decide +kernel) (by decide) ?_
    refine e_aload_n d_272_199 rfl rfl ?_
    obtain ⟨v18, σ16, hcl, hS17, H⟩ := H
    refine e_vcall (w1 := (some (.int v18), σ16)) d_272_200 kc_272_200 rfl ⟨Nat.le_of_ble_eq_true rfl, xx_272.symm⟩ rfl hcl ?_
    show Ev 272 203 [.ref 59, .int x1, .int 0, .retAddr 0] [.int v18] σ16 w
    subst H
    exact e_iret d_272_203 rr_272
  by_cases hs14 : x1 = 14
  · replace H := H.2.2.2.2.2.2.2.2.2.2.2.2.2.2.1 hs14
    refine e_table (off := 196) (t := 204) d_272_8 (by rw [hs14]; decide +kernel) (by decide) ?_
    refine e_aload_n d_272_204 rfl rfl ?_
    refine e_getI d_272_205 oo_272 pF_9_368 (by decide) (hS.uI.k rfl) rfl ?_
    subst H
    exact e_iret d_272_208 rr_272
  replace H := H.2.2.2.2.2.2.2.2.2.2.2.2.2.2.2 ⟨hs0, hs1, hs2, hs3, hs4, hs5, hs6, hs7, hs8, hs9, hs10, hs11, hs12, hs13, hs14⟩
  refine e_table (off := 201) (t := 209) d_272_8 (sw_272_8 hs0 hs1 hs2 hs3 hs4 hs5 hs6 hs7 hs8 hs9 hs10 hs11 hs12 hs13 hs14) (by decide) ?_
  refine e_iconst d_272_209 ci_m1 rfl ?_
  subst H
  exact e_iret d_272_210 rr_272
theorem b_272_166 {t : Nat} {σ : Mm} {w : Option Value × Mm} {x1 : Int32} {x2 : Int32} {x3 : Int32} (hS : Sg t σ) 
    (H : (x3 < (mI σ 59 13) → (inb x3 20 = true ∧ (∃ (v3 : Int32) (σ1 : Mm), Cl 202 [.int (mI σ 89 x3.toNatClampNeg)] σ (some (.int v3), σ1) ∧ Sg t σ1 ∧ Ev 272 166 [.ref 59, .int x1, .int (x2 + v3), .int (x3 + 1)] [] σ1 w))) ∧ (¬ (x3 < (mI σ 59 13)) → (w = (some (.int x2), σ)))) :
    Ev 272 166 [.ref 59, .int x1, .int x2, .int x3] [] σ w := by
  refine e_iload_n d_272_166 rfl rfl ?_
  refine e_aload_n d_272_167 rfl rfl ?_
  refine e_getI d_272_168 oo_272 pF_9_225 (by decide) (hS.k rfl) rfl ?_
  refine e_icmp_ge (t := 192) d_272_171 (by decide) rfl (fun hc => ?_) (fun hc => ?_)
  · replace H := H.2 hc
    refine e_iload_n d_272_192 rfl rfl ?_
    subst H
    exact e_iret d_272_193 rr_272
  · replace H := H.1 hc
    refine e_iload_n d_272_174 rfl rfl ?_
    refine e_aload_n d_272_175 rfl rfl ?_
    refine e_getR d_272_176 oo_272 pF_9_103 (by decide) (hS.k rfl) (hS.r rt_59_56) rfl ?_
    refine e_iload_n d_272_179 rfl rfl ?_
    obtain ⟨hb, H⟩ := H
    refine e_iaload (v := (mI σ 89 x3.toNatClampNeg)) d_272_180 (rdI_at (hS.k rfl) hb) rfl ?_
    obtain ⟨v3, σ1, hcl, hS2, H⟩ := H
    refine e_scall (w1 := (some (.int v3), σ1)) d_272_181 kc_272_181 rfl ⟨Nat.le_of_ble_eq_true rfl, xx_272.symm⟩ rfl hcl ?_
    show Ev 272 184 [.ref 59, .int x1, .int x2, .int x3] [.int v3, .int x2] σ1 w
    refine e_iadd d_272_184 rfl ?_
    refine e_istore_n (ls2 := [.ref 59, .int x1, .int (x2 + v3), .int x3]) d_272_185 rfl rfl rfl ?_
    refine e_iinc (ls2 := [.ref 59, .int x1, .int (x2 + v3), .int (x3 + 1)]) d_272_186 rfl ci_1 rfl rfl rfl ?_
    refine e_goto (t := 166) d_272_189 (by decide) ?_
    exact H
