/-! X5_gather -/
theorem b_71_0 {t : Nat} {σ : Mm} {w : Option Value × Mm} {a1 n1 : Nat} {x2 : Int32} {x3 : Int32} (hS : Sg t σ) (h1 : KS[a1]? = some (11, n1))
    (H : Ev 71 20 [.ref 53, .ref a1, .int x2, .int x3, .int 0, .retAddr 0] [] (uI (uI (uI σ 53 2 x3) 53 0 1) 54 0 0) w) :
    Ev 71 0 [.ref 53, .ref a1, .int x2, .int x3, .retAddr 0, .retAddr 0] [] σ w := by
  refine e_aload_n d_71_0 rfl rfl ?_
  refine e_iload_n d_71_1 rfl rfl ?_
  refine e_putI d_71_2 oo_71 pF_5_22 (Or.inl rfl) (hS.k rfl) rfl ?_
  refine e_aload_n d_71_5 rfl rfl ?_
  refine e_iconst d_71_6 ci_1 rfl ?_
  refine e_putI d_71_7 oo_71 pF_5_18 (Or.inl rfl) (hS.uI.k rfl) rfl ?_
  refine e_aload_n d_71_10 rfl rfl ?_
  refine e_getR d_71_11 oo_71 pF_5_9 (by decide) (hS.uI.uI.k rfl) (hS.uI.uI.r rt_53_1) rfl ?_
  refine e_iconst d_71_14 ci_0 rfl ?_
  refine e_iconst d_71_15 ci_0 rfl ?_
  refine e_iastore d_71_16 (okI_at (hS.uI.uI.k rfl) rfl) rfl ?_
  show Ev 71 17 [.ref 53, .ref a1, .int x2, .int x3, .retAddr 0, .retAddr 0] [] (uI (uI (uI σ 53 2 x3) 53 0 1) 54 0 0) w
  refine e_iconst d_71_17 ci_0 rfl ?_
  refine e_istore (ls2 := [.ref 53, .ref a1, .int x2, .int x3, .int 0, .retAddr 0]) d_71_18 rfl rfl rfl ?_
  exact H
theorem b_71_20 {t : Nat} {σ : Mm} {w : Option Value × Mm} {x2 : Int32} {x3 : Int32} {x4 : Int32} {z5 : Value} {a1 n1 : Nat} (hS : Sg t σ) (h1 : KS[a1]? = some (11, n1))
    (H : (x4 < x2 → ((x4 < 10 → Ev 71 36 [.ref 53, .ref a1, .int x2, .int x3, .int x4, .int 0] [] σ w) ∧ (¬ (x4 < 10) → (w = (none, σ))))) ∧ (¬ (x4 < x2) → (w = (none, σ)))) :
    Ev 71 20 [.ref 53, .ref a1, .int x2, .int x3, .int x4, z5] [] σ w := by
  refine e_iload d_71_20 rfl rfl ?_
  refine e_iload_n d_71_22 rfl rfl ?_
  refine e_icmp_ge (t := 89) d_71_23 (by decide) rfl (fun hc => ?_) (fun hc => ?_)
  · replace H := H.2 hc
    subst H
    exact e_vret d_71_89 rr_71
  · replace H := H.1 hc
    refine e_iload d_71_26 rfl rfl ?_
    refine e_bipush d_71_28 cb_10 rfl ?_
    refine e_icmp_ge (t := 89) d_71_30 (by decide) rfl (fun hc => ?_) (fun hc => ?_)
    · replace H := H.2 hc
      subst H
      exact e_vret d_71_89 rr_71
    · replace H := H.1 hc
      refine e_iconst d_71_33 ci_0 rfl ?_
      refine e_istore (ls2 := [.ref 53, .ref a1, .int x2, .int x3, .int x4, .int 0]) d_71_34 rfl rfl rfl ?_
      exact H
theorem b_71_36 {t : Nat} {σ : Mm} {w : Option Value × Mm} {x2 : Int32} {x3 : Int32} {x4 : Int32} {x5 : Int32} {a1 n1 : Nat} (hS : Sg t σ) (h1 : KS[a1]? = some (11, n1))
    (H : (x5 < ((1 : Int32) <<< (x4 &&& 31)) → (inb x5 1024 = true ∧ (inb x4 n1 = true ∧ (inb (x5 ||| ((1 : Int32) <<< (x4 &&& 31))) 1024 = true ∧ (∀ (σ1 : Mm), σ1 = uI σ 54 (x5 ||| ((1 : Int32) <<< (x4 &&& 31))).toNatClampNeg ((mI σ 54 x5.toNatClampNeg) ^^^ (mI σ a1 x4.toNatClampNeg)) → Ev 71 36 [.ref 53, .ref a1, .int x2, .int x3, .int x4, .int (x5 + 1)] [] σ1 w))))) ∧ (¬ (x5 < ((1 : Int32) <<< (x4 &&& 31))) → Ev 71 20 [.ref 53, .ref a1, .int x2, .int x3, .int (x4 + 1), .int x5] [] (uI σ 53 0 ((2 : Int32) <<< (x4 &&& 31))) w)) :
    Ev 71 36 [.ref 53, .ref a1, .int x2, .int x3, .int x4, .int x5] [] σ w := by
  refine e_iload d_71_36 rfl rfl ?_
  refine e_iconst d_71_38 ci_1 rfl ?_
  refine e_iload d_71_39 rfl rfl ?_
  refine e_ishl d_71_41 rfl ?_
  refine e_icmp_ge (t := 75) d_71_42 (by decide) rfl (fun hc => ?_) (fun hc => ?_)
  · replace H := H.2 hc
    refine e_aload_n d_71_75 rfl rfl ?_
    refine e_iconst d_71_76 ci_2 rfl ?_
    refine e_iload d_71_77 rfl rfl ?_
    refine e_ishl d_71_79 rfl ?_
    refine e_putI d_71_80 oo_71 pF_5_18 (Or.inl rfl) (hS.k rfl) rfl ?_
    refine e_iinc (ls2 := [.ref 53, .ref a1, .int x2, .int x3, .int (x4 + 1), .int x5]) d_71_83 rfl ci_1 rfl rfl rfl ?_
    refine e_goto (t := 20) d_71_86 (by decide) ?_
    exact H
  · replace H := H.1 hc
    refine e_aload_n d_71_45 rfl rfl ?_
    refine e_getR d_71_46 oo_71 pF_5_9 (by decide) (hS.k rfl) (hS.r rt_53_1) rfl ?_
    refine e_iload d_71_49 rfl rfl ?_
    refine e_iconst d_71_51 ci_1 rfl ?_
    refine e_iload d_71_52 rfl rfl ?_
    refine e_ishl d_71_54 rfl ?_
    refine e_ior d_71_55 rfl ?_
    refine e_aload_n d_71_56 rfl rfl ?_
    refine e_getR d_71_57 oo_71 pF_5_9 (by decide) (hS.k rfl) (hS.r rt_53_1) rfl ?_
    refine e_iload d_71_60 rfl rfl ?_
    obtain ⟨hb, H⟩ := H
    refine e_iaload (v := (mI σ 54 x5.toNatClampNeg)) d_71_62 (rdI_at (hS.k rfl) hb) rfl ?_
    refine e_aload_n d_71_63 rfl rfl ?_
    refine e_iload d_71_64 rfl rfl ?_
    obtain ⟨hb, H⟩ := H
    refine e_iaload (v := (mI σ a1 x4.toNatClampNeg)) d_71_66 (rdI_at (hS.k h1) hb) rfl ?_
    refine e_ixor d_71_67 rfl ?_
    obtain ⟨hb, H⟩ := H
    refine e_iastore d_71_68 (okI_at (hS.k rfl) hb) rfl ?_
    generalize hm2 : uI σ 54 (x5 ||| ((1 : Int32) <<< (x4 &&& 31))).toNatClampNeg ((mI σ 54 x5.toNatClampNeg) ^^^ (mI σ a1 x4.toNatClampNeg)) = σ1
    have hS3 : Sg t σ1 := by rw [← hm2]; exact hS.uI
    replace H := H σ1 hm2.symm
    refine e_iinc (ls2 := [.ref 53, .ref a1, .int x2, .int x3, .int x4, .int (x5 + 1)]) d_71_69 rfl ci_1 rfl rfl rfl ?_
    refine e_goto (t := 36) d_71_72 (by decide) ?_
    exact H
/-! X5_turnedBy -/
theorem b_72_0 {t : Nat} {σ : Mm} {w : Option Value × Mm} {x1 : Int32} (hS : Sg t σ) 
    (H : (x1 < 0 → (w = (some (.int 0), σ))) ∧ (¬ (x1 < 0) → ((x1 < (mI σ 53 0) → (inb x1 1024 = true ∧ (w = (some (.int (mI σ 54 x1.toNatClampNeg)), σ)))) ∧ (¬ (x1 < (mI σ 53 0)) → (w = (some (.int 0), σ)))))) :
    Ev 72 0 [.ref 53, .int x1] [] σ w := by
  refine e_iload_n d_72_0 rfl rfl ?_
  refine e_if_lt (t := 12) d_72_1 (by decide) rfl (fun hc => ?_) (fun hc => ?_)
  · replace H := H.1 hc
    refine e_iconst d_72_12 ci_0 rfl ?_
    refine e_goto (t := 22) d_72_13 (by decide) ?_
    subst H
    exact e_iret d_72_22 rr_72
  · replace H := H.2 hc
    refine e_iload_n d_72_4 rfl rfl ?_
    refine e_aload_n d_72_5 rfl rfl ?_
    refine e_getI d_72_6 oo_72 pF_5_18 (by decide) (hS.k rfl) rfl ?_
    refine e_icmp_lt (t := 16) d_72_9 (by decide) rfl (fun hc => ?_) (fun hc => ?_)
    · replace H := H.1 hc
      refine e_aload_n d_72_16 rfl rfl ?_
      refine e_getR d_72_17 oo_72 pF_5_9 (by decide) (hS.k rfl) (hS.r rt_53_1) rfl ?_
      refine e_iload_n d_72_20 rfl rfl ?_
      obtain ⟨hb, H⟩ := H
      refine e_iaload (v := (mI σ 54 x1.toNatClampNeg)) d_72_21 (rdI_at (hS.k rfl) hb) rfl ?_
      subst H
      exact e_iret d_72_22 rr_72
    · replace H := H.2 hc
      refine e_iconst d_72_12 ci_0 rfl ?_
      refine e_goto (t := 22) d_72_13 (by decide) ?_
      subst H
      exact e_iret d_72_22 rr_72
/-! X5_isWay -/
theorem b_73_0 {t : Nat} {σ : Mm} {w : Option Value × Mm} {x1 : Int32} {x2 : Int32} (hS : Sg t σ) 
    (H : ((x1 &&& ((mI σ 53 2) ^^^ (-1))) = 0 → (inb x1 1024 = true ∧ (((mI σ 54 x1.toNatClampNeg) = x2 → (w = (some (.int 1), σ))) ∧ (¬ ((mI σ 54 x1.toNatClampNeg) = x2) → (w = (some (.int 0), σ)))))) ∧ (¬ ((x1 &&& ((mI σ 53 2) ^^^ (-1))) = 0) → (w = (some (.int 0), σ)))) :
    Ev 73 0 [.ref 53, .int x1, .int x2] [] σ w := by
  refine e_iload_n d_73_0 rfl rfl ?_
  refine e_aload_n d_73_1 rfl rfl ?_
  refine e_getI d_73_2 oo_73 pF_5_22 (by decide) (hS.k rfl) rfl ?_
  refine e_iconst d_73_5 ci_m1 rfl ?_
  refine e_ixor d_73_6 rfl ?_
  refine e_iand d_73_7 rfl ?_
  refine e_if_ne (t := 25) d_73_8 (by decide) rfl (fun hc => ?_) (fun hc => ?_)
  · replace H := H.2 hc
    refine e_iconst d_73_25 ci_0 rfl ?_
    subst H
    exact e_zret d_73_26 rr_73 (Or.inl rfl)
  · replace H := H.1 hc
    refine e_aload_n d_73_11 rfl rfl ?_
    refine e_getR d_73_12 oo_73 pF_5_9 (by decide) (hS.k rfl) (hS.r rt_53_1) rfl ?_
    refine e_iload_n d_73_15 rfl rfl ?_
    obtain ⟨hb, H⟩ := H
    refine e_iaload (v := (mI σ 54 x1.toNatClampNeg)) d_73_16 (rdI_at (hS.k rfl) hb) rfl ?_
    refine e_iload_n d_73_17 rfl rfl ?_
    refine e_icmp_ne (t := 25) d_73_18 (by decide) rfl (fun hc => ?_) (fun hc => ?_)
    · replace H := H.2 hc
      refine e_iconst d_73_25 ci_0 rfl ?_
      subst H
      exact e_zret d_73_26 rr_73 (Or.inl rfl)
    · replace H := H.1 hc
      refine e_iconst d_73_21 ci_1 rfl ?_
      refine e_goto (t := 26) d_73_22 (by decide) ?_
      subst H
      exact e_zret d_73_26 rr_73 (Or.inr rfl)
/-! X5_howMany -/
theorem b_74_0 {t : Nat} {σ : Mm} {w : Option Value × Mm} {x1 : Int32} (hS : Sg t σ) 
    (H : Ev 74 4 [.ref 53, .int x1, .int 0, .int 0] [] σ w) :
    Ev 74 0 [.ref 53, .int x1, .retAddr 0, .retAddr 0] [] σ w := by
  refine e_iconst d_74_0 ci_0 rfl ?_
  refine e_istore_n (ls2 := [.ref 53, .int x1, .int 0, .retAddr 0]) d_74_1 rfl rfl rfl ?_
  refine e_iconst d_74_2 ci_0 rfl ?_
  refine e_istore_n (ls2 := [.ref 53, .int x1, .int 0, .int 0]) d_74_3 rfl rfl rfl ?_
  exact H
theorem b_74_4 {t : Nat} {σ : Mm} {w : Option Value × Mm} {x1 : Int32} {x2 : Int32} {x3 : Int32} (hS : Sg t σ) 
    (H : (x3 < (mI σ 53 0) → (∃ (v3 : Int32) (σ1 : Mm), Cl 73 [.ref 53, .int x3, .int x1] σ (some (.int v3), σ1) ∧ Sg t σ1 ∧ ((v3 = 0 → Ev 74 4 [.ref 53, .int x1, .int x2, .int (x3 + 1)] [] σ1 w) ∧ (¬ (v3 = 0) → Ev 74 4 [.ref 53, .int x1, .int (x2 + 1), .int (x3 + 1)] [] σ1 w)))) ∧ (¬ (x3 < (mI σ 53 0)) → (w = (some (.int x2), σ)))) :
    Ev 74 4 [.ref 53, .int x1, .int x2, .int x3] [] σ w := by
  refine e_iload_n d_74_4 rfl rfl ?_
  refine e_aload_n d_74_5 rfl rfl ?_
  refine e_getI d_74_6 oo_74 pF_5_18 (by decide) (hS.k rfl) rfl ?_
  refine e_icmp_ge (t := 30) d_74_9 (by decide) rfl (fun hc => ?_) (fun hc => ?_)
  · replace H := H.2 hc
    refine e_iload_n d_74_30 rfl rfl ?_
    subst H
    exact e_iret d_74_31 rr_74
  · replace H := H.1 hc
    refine e_aload_n d_74_12 rfl rfl ?_
    refine e_iload_n d_74_13 rfl rfl ?_
    refine e_iload_n d_74_14 rfl rfl ?_
    obtain ⟨v3, σ1, hcl, hS2, H⟩ := H
    refine e_vcall (w1 := (some (.int v3), σ1)) d_74_15 kc_74_15 rfl ⟨Nat.le_of_ble_eq_true rfl, xx_74.symm⟩ rfl hcl ?_
    show Ev 74 18 [.ref 53, .int x1, .int x2, .int x3] [.int v3] σ1 w
    refine e_if_eq (t := 24) d_74_18 (by decide) rfl (fun hc => ?_) (fun hc => ?_)
    · replace H := H.1 hc
      refine e_iinc (ls2 := [.ref 53, .int x1, .int x2, .int (x3 + 1)]) d_74_24 rfl ci_1 rfl rfl rfl ?_
      refine e_goto (t := 4) d_74_27 (by decide) ?_
      exact H
    · replace H := H.2 hc
      refine e_iinc (ls2 := [.ref 53, .int x1, .int (x2 + 1), .int x3]) d_74_21 rfl ci_1 rfl rfl rfl ?_
      refine e_iinc (ls2 := [.ref 53, .int x1, .int (x2 + 1), .int (x3 + 1)]) d_74_24 rfl ci_1 rfl rfl rfl ?_
      refine e_goto (t := 4) d_74_27 (by decide) ?_
      exact H
/-! X5_ofFewest -/
theorem b_75_0 {t : Nat} {σ : Mm} {w : Option Value × Mm} {x1 : Int32} (hS : Sg t σ) 
    (H : Ev 75 5 [.ref 53, .int x1, .int (-2), .int 0] [] σ w) :
    Ev 75 0 [.ref 53, .int x1, .retAddr 0, .retAddr 0] [] σ w := by
  refine e_bipush d_75_0 cb_m2 rfl ?_
  refine e_istore_n (ls2 := [.ref 53, .int x1, .int (-2), .retAddr 0]) d_75_2 rfl rfl rfl ?_
  refine e_iconst d_75_3 ci_0 rfl ?_
  refine e_istore_n (ls2 := [.ref 53, .int x1, .int (-2), .int 0]) d_75_4 rfl rfl rfl ?_
  exact H
theorem b_75_5 {t : Nat} {σ : Mm} {w : Option Value × Mm} {x1 : Int32} {x2 : Int32} {x3 : Int32} (hS : Sg t σ) 
    (H : (x3 < (mI σ 53 0) → (∃ (v3 : Int32) (σ1 : Mm), Cl 73 [.ref 53, .int x3, .int x1] σ (some (.int v3), σ1) ∧ Sg t σ1 ∧ ((v3 = 0 → Ev 75 5 [.ref 53, .int x1, .int x2, .int (x3 + 1)] [] σ1 w) ∧ (¬ (v3 = 0) → ((x2 < 0 → Ev 75 5 [.ref 53, .int x1, .int x3, .int (x3 + 1)] [] σ1 w) ∧ (¬ (x2 < 0) → (∃ (v6 : Int32) (σ4 : Mm), Cl 276 [.int x3] σ1 (some (.int v6), σ4) ∧ Sg t σ4 ∧ (∃ (v9 : Int32) (σ7 : Mm), Cl 276 [.int x2] σ4 (some (.int v9), σ7) ∧ Sg t σ7 ∧ ((v6 < v9 → Ev 75 5 [.ref 53, .int x1, .int x3, .int (x3 + 1)] [] σ7 w) ∧ (¬ (v6 < v9) → Ev 75 5 [.ref 53, .int x1, .int x2, .int (x3 + 1)] [] σ7 w)))))))))) ∧ (¬ (x3 < (mI σ 53 0)) → (w = (some (.int x2), σ)))) :
    Ev 75 5 [.ref 53, .int x1, .int x2, .int x3] [] σ w := by
  refine e_iload_n d_75_5 rfl rfl ?_
  refine e_aload_n d_75_6 rfl rfl ?_
  refine e_getI d_75_7 oo_75 pF_5_18 (by decide) (hS.k rfl) rfl ?_
  refine e_icmp_ge (t := 45) d_75_10 (by decide) rfl (fun hc => ?_) (fun hc => ?_)
  · replace H := H.2 hc
    refine e_iload_n d_75_45 rfl rfl ?_
    subst H
    exact e_iret d_75_46 rr_75
  · replace H := H.1 hc
    refine e_aload_n d_75_13 rfl rfl ?_
    refine e_iload_n d_75_14 rfl rfl ?_
    refine e_iload_n d_75_15 rfl rfl ?_
    obtain ⟨v3, σ1, hcl, hS2, H⟩ := H
    refine e_vcall (w1 := (some (.int v3), σ1)) d_75_16 kc_75_16 rfl ⟨Nat.le_of_ble_eq_true rfl, xx_75.symm⟩ rfl hcl ?_
    show Ev 75 19 [.ref 53, .int x1, .int x2, .int x3] [.int v3] σ1 w
    refine e_if_eq (t := 39) d_75_19 (by decide) rfl (fun hc => ?_) (fun hc => ?_)
    · replace H := H.1 hc
      refine e_iinc (ls2 := [.ref 53, .int x1, .int x2, .int (x3 + 1)]) d_75_39 rfl ci_1 rfl rfl rfl ?_
      refine e_goto (t := 5) d_75_42 (by decide) ?_
      exact H
    · replace H := H.2 hc
      refine e_iload_n d_75_22 rfl rfl ?_
      refine e_if_lt (t := 37) d_75_23 (by decide) rfl (fun hc => ?_) (fun hc => ?_)
      · replace H := H.1 hc
        refine e_iload_n d_75_37 rfl rfl ?_
        refine e_istore_n (ls2 := [.ref 53, .int x1, .int x3, .int x3]) d_75_38 rfl rfl rfl ?_
        refine e_iinc (ls2 := [.ref 53, .int x1, .int x3, .int (x3 + 1)]) d_75_39 rfl ci_1 rfl rfl rfl ?_
        refine e_goto (t := 5) d_75_42 (by decide) ?_
        exact H
      · replace H := H.2 hc
        refine e_iload_n d_75_26 rfl rfl ?_
        obtain ⟨v6, σ4, hcl, hS5, H⟩ := H
        refine e_scall (w1 := (some (.int v6), σ4)) d_75_27 kc_75_27 rfl ⟨Nat.le_of_ble_eq_true rfl, xx_75.symm⟩ rfl hcl ?_
        show Ev 75 30 [.ref 53, .int x1, .int x2, .int x3] [.int v6] σ4 w
        refine e_iload_n d_75_30 rfl rfl ?_
        obtain ⟨v9, σ7, hcl, hS8, H⟩ := H
        refine e_scall (w1 := (some (.int v9), σ7)) d_75_31 kc_75_31 rfl ⟨Nat.le_of_ble_eq_true rfl, xx_75.symm⟩ rfl hcl ?_
        show Ev 75 34 [.ref 53, .int x1, .int x2, .int x3] [.int v9, .int v6] σ7 w
        refine e_icmp_ge (t := 39) d_75_34 (by decide) rfl (fun hc => ?_) (fun hc => ?_)
        · replace H := H.2 hc
          refine e_iinc (ls2 := [.ref 53, .int x1, .int x2, .int (x3 + 1)]) d_75_39 rfl ci_1 rfl rfl rfl ?_
          refine e_goto (t := 5) d_75_42 (by decide) ?_
          exact H
        · replace H := H.1 hc
          refine e_iload_n d_75_37 rfl rfl ?_
          refine e_istore_n (ls2 := [.ref 53, .int x1, .int x3, .int x3]) d_75_38 rfl rfl rfl ?_
          refine e_iinc (ls2 := [.ref 53, .int x1, .int x3, .int (x3 + 1)]) d_75_39 rfl ci_1 rfl rfl rfl ?_
          refine e_goto (t := 5) d_75_42 (by decide) ?_
          exact H
/-! X5_ofFewestSilent -/
theorem b_76_0 {t : Nat} {σ : Mm} {w : Option Value × Mm}  (hS : Sg t σ) 
    (H : Ev 76 4 [.ref 53, .int 0, .int 1] [] σ w) :
    Ev 76 0 [.ref 53, .retAddr 0, .retAddr 0] [] σ w := by
  refine e_iconst d_76_0 ci_0 rfl ?_
  refine e_istore_n (ls2 := [.ref 53, .int 0, .retAddr 0]) d_76_1 rfl rfl rfl ?_
  refine e_iconst d_76_2 ci_1 rfl ?_
  refine e_istore_n (ls2 := [.ref 53, .int 0, .int 1]) d_76_3 rfl rfl rfl ?_
  exact H
theorem b_76_4 {t : Nat} {σ : Mm} {w : Option Value × Mm} {x1 : Int32} {x2 : Int32} (hS : Sg t σ) 
    (H : (x2 < (mI σ 53 0) → (∃ (v3 : Int32) (σ1 : Mm), Cl 73 [.ref 53, .int x2, .int 0] σ (some (.int v3), σ1) ∧ Sg t σ1 ∧ ((v3 = 0 → Ev 76 4 [.ref 53, .int x1, .int (x2 + 1)] [] σ1 w) ∧ (¬ (v3 = 0) → ((x1 = 0 → Ev 76 4 [.ref 53, .int x2, .int (x2 + 1)] [] σ1 w) ∧ (¬ (x1 = 0) → (∃ (v6 : Int32) (σ4 : Mm), Cl 276 [.int x2] σ1 (some (.int v6), σ4) ∧ Sg t σ4 ∧ (∃ (v9 : Int32) (σ7 : Mm), Cl 276 [.int x1] σ4 (some (.int v9), σ7) ∧ Sg t σ7 ∧ ((v6 < v9 → Ev 76 4 [.ref 53, .int x2, .int (x2 + 1)] [] σ7 w) ∧ (¬ (v6 < v9) → Ev 76 4 [.ref 53, .int x1, .int (x2 + 1)] [] σ7 w)))))))))) ∧ (¬ (x2 < (mI σ 53 0)) → (w = (some (.int x1), σ)))) :
    Ev 76 4 [.ref 53, .int x1, .int x2] [] σ w := by
  refine e_iload_n d_76_4 rfl rfl ?_
  refine e_aload_n d_76_5 rfl rfl ?_
  refine e_getI d_76_6 oo_76 pF_5_18 (by decide) (hS.k rfl) rfl ?_
  refine e_icmp_ge (t := 44) d_76_9 (by decide) rfl (fun hc => ?_) (fun hc => ?_)
  · replace H := H.2 hc
    refine e_iload_n d_76_44 rfl rfl ?_
    subst H
    exact e_iret d_76_45 rr_76
  · replace H := H.1 hc
    refine e_aload_n d_76_12 rfl rfl ?_
    refine e_iload_n d_76_13 rfl rfl ?_
    refine e_iconst d_76_14 ci_0 rfl ?_
    obtain ⟨v3, σ1, hcl, hS2, H⟩ := H
    refine e_vcall (w1 := (some (.int v3), σ1)) d_76_15 kc_76_15 rfl ⟨Nat.le_of_ble_eq_true rfl, xx_76.symm⟩ rfl hcl ?_
    show Ev 76 18 [.ref 53, .int x1, .int x2] [.int v3] σ1 w
    refine e_if_eq (t := 38) d_76_18 (by decide) rfl (fun hc => ?_) (fun hc => ?_)
    · replace H := H.1 hc
      refine e_iinc (ls2 := [.ref 53, .int x1, .int (x2 + 1)]) d_76_38 rfl ci_1 rfl rfl rfl ?_
      refine e_goto (t := 4) d_76_41 (by decide) ?_
      exact H
    · replace H := H.2 hc
      refine e_iload_n d_76_21 rfl rfl ?_
      refine e_if_eq (t := 36) d_76_22 (by decide) rfl (fun hc => ?_) (fun hc => ?_)
      · replace H := H.1 hc
        refine e_iload_n d_76_36 rfl rfl ?_
        refine e_istore_n (ls2 := [.ref 53, .int x2, .int x2]) d_76_37 rfl rfl rfl ?_
        refine e_iinc (ls2 := [.ref 53, .int x2, .int (x2 + 1)]) d_76_38 rfl ci_1 rfl rfl rfl ?_
        refine e_goto (t := 4) d_76_41 (by decide) ?_
        exact H
      · replace H := H.2 hc
        refine e_iload_n d_76_25 rfl rfl ?_
        obtain ⟨v6, σ4, hcl, hS5, H⟩ := H
        refine e_scall (w1 := (some (.int v6), σ4)) d_76_26 kc_76_26 rfl ⟨Nat.le_of_ble_eq_true rfl, xx_76.symm⟩ rfl hcl ?_
        show Ev 76 29 [.ref 53, .int x1, .int x2] [.int v6] σ4 w
        refine e_iload_n d_76_29 rfl rfl ?_
        obtain ⟨v9, σ7, hcl, hS8, H⟩ := H
        refine e_scall (w1 := (some (.int v9), σ7)) d_76_30 kc_76_30 rfl ⟨Nat.le_of_ble_eq_true rfl, xx_76.symm⟩ rfl hcl ?_
        show Ev 76 33 [.ref 53, .int x1, .int x2] [.int v9, .int v6] σ7 w
        refine e_icmp_ge (t := 38) d_76_33 (by decide) rfl (fun hc => ?_) (fun hc => ?_)
        · replace H := H.2 hc
          refine e_iinc (ls2 := [.ref 53, .int x1, .int (x2 + 1)]) d_76_38 rfl ci_1 rfl rfl rfl ?_
          refine e_goto (t := 4) d_76_41 (by decide) ?_
          exact H
        · replace H := H.1 hc
          refine e_iload_n d_76_36 rfl rfl ?_
          refine e_istore_n (ls2 := [.ref 53, .int x2, .int x2]) d_76_37 rfl rfl rfl ?_
          refine e_iinc (ls2 := [.ref 53, .int x2, .int (x2 + 1)]) d_76_38 rfl ci_1 rfl rfl rfl ?_
          refine e_goto (t := 4) d_76_41 (by decide) ?_
          exact H
/-! X5_ofLeastCost -/
theorem b_77_0 {t : Nat} {σ : Mm} {w : Option Value × Mm} {x1 : Int32} {a2 : Nat} (hS : Sg t σ) (h2 : a2 = 3 ∨ a2 = 15)
    (H : Ev 77 9 [.ref 53, .int x1, .ref a2, .int (-2), .int 0, .int 0, .retAddr 0] [] σ w) :
    Ev 77 0 [.ref 53, .int x1, .ref a2, .retAddr 0, .retAddr 0, .retAddr 0, .retAddr 0] [] σ w := by
  refine e_bipush d_77_0 cb_m2 rfl ?_
  refine e_istore_n (ls2 := [.ref 53, .int x1, .ref a2, .int (-2), .retAddr 0, .retAddr 0, .retAddr 0]) d_77_2 rfl rfl rfl ?_
  refine e_iconst d_77_3 ci_0 rfl ?_
  refine e_istore (ls2 := [.ref 53, .int x1, .ref a2, .int (-2), .int 0, .retAddr 0, .retAddr 0]) d_77_4 rfl rfl rfl ?_
  refine e_iconst d_77_6 ci_0 rfl ?_
  refine e_istore (ls2 := [.ref 53, .int x1, .ref a2, .int (-2), .int 0, .int 0, .retAddr 0]) d_77_7 rfl rfl rfl ?_
  exact H
theorem b_77_9 {t : Nat} {σ : Mm} {w : Option Value × Mm} {x1 : Int32} {x3 : Int32} {x4 : Int32} {x5 : Int32} {z6 : Value} {a2 : Nat} (hS : Sg t σ) (h2 : a2 = 3 ∨ a2 = 15)
    (H : (x5 < (mI σ 53 0) → (∃ (v3 : Int32) (σ1 : Mm), Cl 73 [.ref 53, .int x5, .int x1] σ (some (.int v3), σ1) ∧ Sg t σ1 ∧ ((v3 = 0 → Ev 77 9 [.ref 53, .int x1, .ref a2, .int x3, .int x4, .int (x5 + 1), z6] [] σ1 w) ∧ (¬ (v3 = 0) → (∃ (v6 : Int32) (σ4 : Mm), Cl 95 [.ref a2, .int x5] σ1 (some (.int v6), σ4) ∧ Sg t σ4 ∧ ((x3 < 0 → Ev 77 9 [.ref 53, .int x1, .ref a2, .int x5, .int v6, .int (x5 + 1), .int v6] [] σ4 w) ∧ (¬ (x3 < 0) → ((v6 < x4 → Ev 77 9 [.ref 53, .int x1, .ref a2, .int x5, .int v6, .int (x5 + 1), .int v6] [] σ4 w) ∧ (¬ (v6 < x4) → Ev 77 9 [.ref 53, .int x1, .ref a2, .int x3, .int x4, .int (x5 + 1), .int v6] [] σ4 w))))))))) ∧ (¬ (x5 < (mI σ 53 0)) → (w = (some (.int x3), σ)))) :
    Ev 77 9 [.ref 53, .int x1, .ref a2, .int x3, .int x4, .int x5, z6] [] σ w := by
  refine e_iload d_77_9 rfl rfl ?_
  refine e_aload_n d_77_11 rfl rfl ?_
  refine e_getI d_77_12 oo_77 pF_5_18 (by decide) (hS.k rfl) rfl ?_
  refine e_icmp_ge (t := 60) d_77_15 (by decide) rfl (fun hc => ?_) (fun hc => ?_)
  · replace H := H.2 hc
    refine e_iload_n d_77_60 rfl rfl ?_
    subst H
    exact e_iret d_77_61 rr_77
  · replace H := H.1 hc
    refine e_aload_n d_77_18 rfl rfl ?_
    refine e_iload d_77_19 rfl rfl ?_
    refine e_iload_n d_77_21 rfl rfl ?_
    obtain ⟨v3, σ1, hcl, hS2, H⟩ := H
    refine e_vcall (w1 := (some (.int v3), σ1)) d_77_22 kc_77_22 rfl ⟨Nat.le_of_ble_eq_true rfl, xx_77.symm⟩ rfl hcl ?_
    show Ev 77 25 [.ref 53, .int x1, .ref a2, .int x3, .int x4, .int x5, z6] [.int v3] σ1 w
    refine e_if_eq (t := 54) d_77_25 (by decide) rfl (fun hc => ?_) (fun hc => ?_)
    · replace H := H.1 hc
      refine e_iinc (ls2 := [.ref 53, .int x1, .ref a2, .int x3, .int x4, .int (x5 + 1), z6]) d_77_54 rfl ci_1 rfl rfl rfl ?_
      refine e_goto (t := 9) d_77_57 (by decide) ?_
      exact H
    · replace H := H.2 hc
      refine e_aload_n d_77_28 rfl rfl ?_
      refine e_iload d_77_29 rfl rfl ?_
      obtain ⟨v6, σ4, hcl, hS5, H⟩ := H
      refine e_vcall (w1 := (some (.int v6), σ4)) d_77_31 kc_77_31 rfl ⟨Nat.le_of_ble_eq_true rfl, xx_77.symm⟩ rfl hcl ?_
      show Ev 77 34 [.ref 53, .int x1, .ref a2, .int x3, .int x4, .int x5, z6] [.int v6] σ4 w
      refine e_istore (ls2 := [.ref 53, .int x1, .ref a2, .int x3, .int x4, .int x5, .int v6]) d_77_34 rfl rfl rfl ?_
      refine e_iload_n d_77_36 rfl rfl ?_
      refine e_if_lt (t := 47) d_77_37 (by decide) rfl (fun hc => ?_) (fun hc => ?_)
      · replace H := H.1 hc
        refine e_iload d_77_47 rfl rfl ?_
        refine e_istore_n (ls2 := [.ref 53, .int x1, .ref a2, .int x5, .int x4, .int x5, .int v6]) d_77_49 rfl rfl rfl ?_
        refine e_iload d_77_50 rfl rfl ?_
        refine e_istore (ls2 := [.ref 53, .int x1, .ref a2, .int x5, .int v6, .int x5, .int v6]) d_77_52 rfl rfl rfl ?_
        refine e_iinc (ls2 := [.ref 53, .int x1, .ref a2, .int x5, .int v6, .int (x5 + 1), .int v6]) d_77_54 rfl ci_1 rfl rfl rfl ?_
        refine e_goto (t := 9) d_77_57 (by decide) ?_
        exact H
      · replace H := H.2 hc
        refine e_iload d_77_40 rfl rfl ?_
        refine e_iload d_77_42 rfl rfl ?_
        refine e_icmp_ge (t := 54) d_77_44 (by decide) rfl (fun hc => ?_) (fun hc => ?_)
        · replace H := H.2 hc
          refine e_iinc (ls2 := [.ref 53, .int x1, .ref a2, .int x3, .int x4, .int (x5 + 1), .int v6]) d_77_54 rfl ci_1 rfl rfl rfl ?_
          refine e_goto (t := 9) d_77_57 (by decide) ?_
          exact H
        · replace H := H.1 hc
          refine e_iload d_77_47 rfl rfl ?_
          refine e_istore_n (ls2 := [.ref 53, .int x1, .ref a2, .int x5, .int x4, .int x5, .int v6]) d_77_49 rfl rfl rfl ?_
          refine e_iload d_77_50 rfl rfl ?_
          refine e_istore (ls2 := [.ref 53, .int x1, .ref a2, .int x5, .int v6, .int x5, .int v6]) d_77_52 rfl rfl rfl ?_
          refine e_iinc (ls2 := [.ref 53, .int x1, .ref a2, .int x5, .int v6, .int (x5 + 1), .int v6]) d_77_54 rfl ci_1 rfl rfl rfl ?_
          refine e_goto (t := 9) d_77_57 (by decide) ?_
          exact H
/-! X5_inAll -/
theorem b_78_0 {t : Nat} {σ : Mm} {w : Option Value × Mm} {x1 : Int32} (hS : Sg t σ) 
    (H : Ev 78 7 [.ref 53, .int x1, .int (mI σ 53 2), .int 0] [] σ w) :
    Ev 78 0 [.ref 53, .int x1, .retAddr 0, .retAddr 0] [] σ w := by
  refine e_aload_n d_78_0 rfl rfl ?_
  refine e_getI d_78_1 oo_78 pF_5_22 (by decide) (hS.k rfl) rfl ?_
  refine e_istore_n (ls2 := [.ref 53, .int x1, .int (mI σ 53 2), .retAddr 0]) d_78_4 rfl rfl rfl ?_
  refine e_iconst d_78_5 ci_0 rfl ?_
  refine e_istore_n (ls2 := [.ref 53, .int x1, .int (mI σ 53 2), .int 0]) d_78_6 rfl rfl rfl ?_
  exact H
theorem b_78_7 {t : Nat} {σ : Mm} {w : Option Value × Mm} {x1 : Int32} {x2 : Int32} {x3 : Int32} (hS : Sg t σ) 
    (H : (x3 < (mI σ 53 0) → (∃ (v3 : Int32) (σ1 : Mm), Cl 73 [.ref 53, .int x3, .int x1] σ (some (.int v3), σ1) ∧ Sg t σ1 ∧ ((v3 = 0 → Ev 78 7 [.ref 53, .int x1, .int x2, .int (x3 + 1)] [] σ1 w) ∧ (¬ (v3 = 0) → Ev 78 7 [.ref 53, .int x1, .int (x2 &&& x3), .int (x3 + 1)] [] σ1 w)))) ∧ (¬ (x3 < (mI σ 53 0)) → (w = (some (.int x2), σ)))) :
    Ev 78 7 [.ref 53, .int x1, .int x2, .int x3] [] σ w := by
  refine e_iload_n d_78_7 rfl rfl ?_
  refine e_aload_n d_78_8 rfl rfl ?_
  refine e_getI d_78_9 oo_78 pF_5_18 (by decide) (hS.k rfl) rfl ?_
  refine e_icmp_ge (t := 34) d_78_12 (by decide) rfl (fun hc => ?_) (fun hc => ?_)
  · replace H := H.2 hc
    refine e_iload_n d_78_34 rfl rfl ?_
    subst H
    exact e_iret d_78_35 rr_78
  · replace H := H.1 hc
    refine e_aload_n d_78_15 rfl rfl ?_
    refine e_iload_n d_78_16 rfl rfl ?_
    refine e_iload_n d_78_17 rfl rfl ?_
    obtain ⟨v3, σ1, hcl, hS2, H⟩ := H
    refine e_vcall (w1 := (some (.int v3), σ1)) d_78_18 kc_78_18 rfl ⟨Nat.le_of_ble_eq_true rfl, xx_78.symm⟩ rfl hcl ?_
    show Ev 78 21 [.ref 53, .int x1, .int x2, .int x3] [.int v3] σ1 w
    refine e_if_eq (t := 28) d_78_21 (by decide) rfl (fun hc => ?_) (fun hc => ?_)
    · replace H := H.1 hc
      refine e_iinc (ls2 := [.ref 53, .int x1, .int x2, .int (x3 + 1)]) d_78_28 rfl ci_1 rfl rfl rfl ?_
      refine e_goto (t := 7) d_78_31 (by decide) ?_
      exact H
    · replace H := H.2 hc
      refine e_iload_n d_78_24 rfl rfl ?_
      refine e_iload_n d_78_25 rfl rfl ?_
      refine e_iand d_78_26 rfl ?_
      refine e_istore_n (ls2 := [.ref 53, .int x1, .int (x2 &&& x3), .int x3]) d_78_27 rfl rfl rfl ?_
      refine e_iinc (ls2 := [.ref 53, .int x1, .int (x2 &&& x3), .int (x3 + 1)]) d_78_28 rfl ci_1 rfl rfl rfl ?_
      refine e_goto (t := 7) d_78_31 (by decide) ?_
      exact H
/-! X5_inNone -/
theorem b_79_0 {t : Nat} {σ : Mm} {w : Option Value × Mm} {x1 : Int32} (hS : Sg t σ) 
    (H : Ev 79 7 [.ref 53, .int x1, .int (mI σ 53 2), .int 0] [] σ w) :
    Ev 79 0 [.ref 53, .int x1, .retAddr 0, .retAddr 0] [] σ w := by
  refine e_aload_n d_79_0 rfl rfl ?_
  refine e_getI d_79_1 oo_79 pF_5_22 (by decide) (hS.k rfl) rfl ?_
  refine e_istore_n (ls2 := [.ref 53, .int x1, .int (mI σ 53 2), .retAddr 0]) d_79_4 rfl rfl rfl ?_
  refine e_iconst d_79_5 ci_0 rfl ?_
  refine e_istore_n (ls2 := [.ref 53, .int x1, .int (mI σ 53 2), .int 0]) d_79_6 rfl rfl rfl ?_
  exact H
theorem b_79_7 {t : Nat} {σ : Mm} {w : Option Value × Mm} {x1 : Int32} {x2 : Int32} {x3 : Int32} (hS : Sg t σ) 
    (H : (x3 < (mI σ 53 0) → (∃ (v3 : Int32) (σ1 : Mm), Cl 73 [.ref 53, .int x3, .int x1] σ (some (.int v3), σ1) ∧ Sg t σ1 ∧ ((v3 = 0 → Ev 79 7 [.ref 53, .int x1, .int x2, .int (x3 + 1)] [] σ1 w) ∧ (¬ (v3 = 0) → Ev 79 7 [.ref 53, .int x1, .int (x2 &&& (x3 ^^^ (-1))), .int (x3 + 1)] [] σ1 w)))) ∧ (¬ (x3 < (mI σ 53 0)) → (w = (some (.int x2), σ)))) :
    Ev 79 7 [.ref 53, .int x1, .int x2, .int x3] [] σ w := by
  refine e_iload_n d_79_7 rfl rfl ?_
  refine e_aload_n d_79_8 rfl rfl ?_
  refine e_getI d_79_9 oo_79 pF_5_18 (by decide) (hS.k rfl) rfl ?_
  refine e_icmp_ge (t := 36) d_79_12 (by decide) rfl (fun hc => ?_) (fun hc => ?_)
  · replace H := H.2 hc
    refine e_iload_n d_79_36 rfl rfl ?_
    subst H
    exact e_iret d_79_37 rr_79
  · replace H := H.1 hc
    refine e_aload_n d_79_15 rfl rfl ?_
    refine e_iload_n d_79_16 rfl rfl ?_
    refine e_iload_n d_79_17 rfl rfl ?_
    obtain ⟨v3, σ1, hcl, hS2, H⟩ := H
    refine e_vcall (w1 := (some (.int v3), σ1)) d_79_18 kc_79_18 rfl ⟨Nat.le_of_ble_eq_true rfl, xx_79.symm⟩ rfl hcl ?_
    show Ev 79 21 [.ref 53, .int x1, .int x2, .int x3] [.int v3] σ1 w
    refine e_if_eq (t := 30) d_79_21 (by decide) rfl (fun hc => ?_) (fun hc => ?_)
    · replace H := H.1 hc
      refine e_iinc (ls2 := [.ref 53, .int x1, .int x2, .int (x3 + 1)]) d_79_30 rfl ci_1 rfl rfl rfl ?_
      refine e_goto (t := 7) d_79_33 (by decide) ?_
      exact H
    · replace H := H.2 hc
      refine e_iload_n d_79_24 rfl rfl ?_
      refine e_iload_n d_79_25 rfl rfl ?_
      refine e_iconst d_79_26 ci_m1 rfl ?_
      refine e_ixor d_79_27 rfl ?_
      refine e_iand d_79_28 rfl ?_
      refine e_istore_n (ls2 := [.ref 53, .int x1, .int (x2 &&& (x3 ^^^ (-1))), .int x3]) d_79_29 rfl rfl rfl ?_
      refine e_iinc (ls2 := [.ref 53, .int x1, .int (x2 &&& (x3 ^^^ (-1))), .int (x3 + 1)]) d_79_30 rfl ci_1 rfl rfl rfl ?_
      refine e_goto (t := 7) d_79_33 (by decide) ?_
      exact H
/-! X5_ofDarkest -/
theorem b_80_0 {t : Nat} {σ : Mm} {w : Option Value × Mm} {x1 : Int32} (hS : Sg t σ) 
    (H : Ev 80 4 [.ref 53, .int x1, .int 0, .int 1] [] σ w) :
    Ev 80 0 [.ref 53, .int x1, .retAddr 0, .retAddr 0] [] σ w := by
  refine e_iconst d_80_0 ci_0 rfl ?_
  refine e_istore_n (ls2 := [.ref 53, .int x1, .int 0, .retAddr 0]) d_80_1 rfl rfl rfl ?_
  refine e_iconst d_80_2 ci_1 rfl ?_
  refine e_istore_n (ls2 := [.ref 53, .int x1, .int 0, .int 1]) d_80_3 rfl rfl rfl ?_
  exact H
theorem b_80_4 {t : Nat} {σ : Mm} {w : Option Value × Mm} {x1 : Int32} {x2 : Int32} {x3 : Int32} (hS : Sg t σ) 
    (H : (x3 < (mI σ 53 0) → (((x3 &&& ((mI σ 53 2) ^^^ (-1))) = 0 → (∃ (v3 : Int32) (σ1 : Mm), Cl 81 [.ref 53, .int x3, .int x1] σ (some (.int v3), σ1) ∧ Sg t σ1 ∧ (∃ (v6 : Int32) (σ4 : Mm), Cl 81 [.ref 53, .int x2, .int x1] σ1 (some (.int v6), σ4) ∧ Sg t σ4 ∧ ((v3 < v6 → Ev 80 4 [.ref 53, .int x1, .int x3, .int (x3 + 1)] [] σ4 w) ∧ (¬ (v3 < v6) → Ev 80 4 [.ref 53, .int x1, .int x2, .int (x3 + 1)] [] σ4 w))))) ∧ (¬ ((x3 &&& ((mI σ 53 2) ^^^ (-1))) = 0) → Ev 80 4 [.ref 53, .int x1, .int x2, .int (x3 + 1)] [] σ w))) ∧ (¬ (x3 < (mI σ 53 0)) → (w = (some (.int x2), σ)))) :
    Ev 80 4 [.ref 53, .int x1, .int x2, .int x3] [] σ w := by
  refine e_iload_n d_80_4 rfl rfl ?_
  refine e_aload_n d_80_5 rfl rfl ?_
  refine e_getI d_80_6 oo_80 pF_5_18 (by decide) (hS.k rfl) rfl ?_
  refine e_icmp_ge (t := 46) d_80_9 (by decide) rfl (fun hc => ?_) (fun hc => ?_)
  · replace H := H.2 hc
    refine e_iload_n d_80_46 rfl rfl ?_
    subst H
    exact e_iret d_80_47 rr_80
  · replace H := H.1 hc
    refine e_iload_n d_80_12 rfl rfl ?_
    refine e_aload_n d_80_13 rfl rfl ?_
    refine e_getI d_80_14 oo_80 pF_5_22 (by decide) (hS.k rfl) rfl ?_
    refine e_iconst d_80_17 ci_m1 rfl ?_
    refine e_ixor d_80_18 rfl ?_
    refine e_iand d_80_19 rfl ?_
    refine e_if_ne (t := 40) d_80_20 (by decide) rfl (fun hc => ?_) (fun hc => ?_)
    · replace H := H.2 hc
      refine e_iinc (ls2 := [.ref 53, .int x1, .int x2, .int (x3 + 1)]) d_80_40 rfl ci_1 rfl rfl rfl ?_
      refine e_goto (t := 4) d_80_43 (by decide) ?_
      exact H
    · replace H := H.1 hc
      refine e_aload_n d_80_23 rfl rfl ?_
      refine e_iload_n d_80_24 rfl rfl ?_
      refine e_iload_n d_80_25 rfl rfl ?_
      obtain ⟨v3, σ1, hcl, hS2, H⟩ := H
      refine e_vcall (w1 := (some (.int v3), σ1)) d_80_26 kc_80_26 rfl ⟨Nat.le_of_ble_eq_true rfl, xx_80.symm⟩ rfl hcl ?_
      show Ev 80 29 [.ref 53, .int x1, .int x2, .int x3] [.int v3] σ1 w
      refine e_aload_n d_80_29 rfl rfl ?_
      refine e_iload_n d_80_30 rfl rfl ?_
      refine e_iload_n d_80_31 rfl rfl ?_
      obtain ⟨v6, σ4, hcl, hS5, H⟩ := H
      refine e_vcall (w1 := (some (.int v6), σ4)) d_80_32 kc_80_32 rfl ⟨Nat.le_of_ble_eq_true rfl, xx_80.symm⟩ rfl hcl ?_
      show Ev 80 35 [.ref 53, .int x1, .int x2, .int x3] [.int v6, .int v3] σ4 w
      refine e_icmp_ge (t := 40) d_80_35 (by decide) rfl (fun hc => ?_) (fun hc => ?_)
      · replace H := H.2 hc
        refine e_iinc (ls2 := [.ref 53, .int x1, .int x2, .int (x3 + 1)]) d_80_40 rfl ci_1 rfl rfl rfl ?_
        refine e_goto (t := 4) d_80_43 (by decide) ?_
        exact H
      · replace H := H.1 hc
        refine e_iload_n d_80_38 rfl rfl ?_
        refine e_istore_n (ls2 := [.ref 53, .int x1, .int x3, .int x3]) d_80_39 rfl rfl rfl ?_
        refine e_iinc (ls2 := [.ref 53, .int x1, .int x3, .int (x3 + 1)]) d_80_40 rfl ci_1 rfl rfl rfl ?_
        refine e_goto (t := 4) d_80_43 (by decide) ?_
        exact H
/-! X5_darkness -/
theorem b_81_0 {t : Nat} {σ : Mm} {w : Option Value × Mm} {x1 : Int32} {x2 : Int32} (hS : Sg t σ) 
    (H : inb x1 1024 = true ∧ (∃ (v3 : Int32) (σ1 : Mm), Cl 276 [.int (x2 ^^^ (mI σ 54 x1.toNatClampNeg))] σ (some (.int v3), σ1) ∧ Sg t σ1 ∧ (∃ (v6 : Int32) (σ4 : Mm), Cl 276 [.int x1] σ1 (some (.int v6), σ4) ∧ Sg t σ4 ∧ (w = (some (.int ((v3 * 16) + v6)), σ4))))) :
    Ev 81 0 [.ref 53, .int x1, .int x2] [] σ w := by
  refine e_iload_n d_81_0 rfl rfl ?_
  refine e_aload_n d_81_1 rfl rfl ?_
  refine e_getR d_81_2 oo_81 pF_5_9 (by decide) (hS.k rfl) (hS.r rt_53_1) rfl ?_
  refine e_iload_n d_81_5 rfl rfl ?_
  obtain ⟨hb, H⟩ := H
  refine e_iaload (v := (mI σ 54 x1.toNatClampNeg)) d_81_6 (rdI_at (hS.k rfl) hb) rfl ?_
  refine e_ixor d_81_7 rfl ?_
  obtain ⟨v3, σ1, hcl, hS2, H⟩ := H
  refine e_scall (w1 := (some (.int v3), σ1)) d_81_8 kc_81_8 rfl ⟨Nat.le_of_ble_eq_true rfl, xx_81.symm⟩ rfl hcl ?_
  show Ev 81 11 [.ref 53, .int x1, .int x2] [.int v3] σ1 w
  refine e_bipush d_81_11 cb_16 rfl ?_
  refine e_imul d_81_13 rfl ?_
  refine e_iload_n d_81_14 rfl rfl ?_
  obtain ⟨v6, σ4, hcl, hS5, H⟩ := H
  refine e_scall (w1 := (some (.int v6), σ4)) d_81_15 kc_81_15 rfl ⟨Nat.le_of_ble_eq_true rfl, xx_81.symm⟩ rfl hcl ?_
  show Ev 81 18 [.ref 53, .int x1, .int x2] [.int v6, .int (v3 * 16)] σ4 w
  refine e_iadd d_81_18 rfl ?_
  subst H
  exact e_iret d_81_19 rr_81
/-! X5_eveningsOf -/
theorem b_82_0 {t : Nat} {σ : Mm} {w : Option Value × Mm} {x1 : Int32} {x2 : Int32} {x3 : Int32} (hS : Sg t σ) 
    (H : Ev 82 6 [.ref 53, .int x1, .int x2, .int x3, .int 0, .int 0] [] σ w) :
    Ev 82 0 [.ref 53, .int x1, .int x2, .int x3, .retAddr 0, .retAddr 0] [] σ w := by
  refine e_iconst d_82_0 ci_0 rfl ?_
  refine e_istore (ls2 := [.ref 53, .int x1, .int x2, .int x3, .int 0, .retAddr 0]) d_82_1 rfl rfl rfl ?_
  refine e_iconst d_82_3 ci_0 rfl ?_
  refine e_istore (ls2 := [.ref 53, .int x1, .int x2, .int x3, .int 0, .int 0]) d_82_4 rfl rfl rfl ?_
  exact H
theorem b_82_6 {t : Nat} {σ : Mm} {w : Option Value × Mm} {x1 : Int32} {x2 : Int32} {x3 : Int32} {x4 : Int32} {x5 : Int32} (hS : Sg t σ) 
    (H : (x5 < (mI σ 53 0) → (((x5 &&& (x3 ^^^ (-1))) = 0 → (inb x5 1024 = true ∧ (∃ (v3 : Int32) (σ1 : Mm), Cl 276 [.int (x1 ^^^ (mI σ 54 x5.toNatClampNeg))] σ (some (.int v3), σ1) ∧ Sg t σ1 ∧ ((v3 = x2 → Ev 82 6 [.ref 53, .int x1, .int x2, .int x3, .int (x4 + 1), .int (x5 + 1)] [] σ1 w) ∧ (¬ (v3 = x2) → Ev 82 6 [.ref 53, .int x1, .int x2, .int x3, .int x4, .int (x5 + 1)] [] σ1 w))))) ∧ (¬ ((x5 &&& (x3 ^^^ (-1))) = 0) → Ev 82 6 [.ref 53, .int x1, .int x2, .int x3, .int x4, .int (x5 + 1)] [] σ w))) ∧ (¬ (x5 < (mI σ 53 0)) → (w = (some (.int x4), σ)))) :
    Ev 82 6 [.ref 53, .int x1, .int x2, .int x3, .int x4, .int x5] [] σ w := by
  refine e_iload d_82_6 rfl rfl ?_
  refine e_aload_n d_82_8 rfl rfl ?_
  refine e_getI d_82_9 oo_82 pF_5_18 (by decide) (hS.k rfl) rfl ?_
  refine e_icmp_ge (t := 49) d_82_12 (by decide) rfl (fun hc => ?_) (fun hc => ?_)
  · replace H := H.2 hc
    refine e_iload d_82_49 rfl rfl ?_
    subst H
    exact e_iret d_82_51 rr_82
  · replace H := H.1 hc
    refine e_iload d_82_15 rfl rfl ?_
    refine e_iload_n d_82_17 rfl rfl ?_
    refine e_iconst d_82_18 ci_m1 rfl ?_
    refine e_ixor d_82_19 rfl ?_
    refine e_iand d_82_20 rfl ?_
    refine e_if_ne (t := 43) d_82_21 (by decide) rfl (fun hc => ?_) (fun hc => ?_)
    · replace H := H.2 hc
      refine e_iinc (ls2 := [.ref 53, .int x1, .int x2, .int x3, .int x4, .int (x5 + 1)]) d_82_43 rfl ci_1 rfl rfl rfl ?_
      refine e_goto (t := 6) d_82_46 (by decide) ?_
      exact H
    · replace H := H.1 hc
      refine e_iload_n d_82_24 rfl rfl ?_
      refine e_aload_n d_82_25 rfl rfl ?_
      refine e_getR d_82_26 oo_82 pF_5_9 (by decide) (hS.k rfl) (hS.r rt_53_1) rfl ?_
      refine e_iload d_82_29 rfl rfl ?_
      obtain ⟨hb, H⟩ := H
      refine e_iaload (v := (mI σ 54 x5.toNatClampNeg)) d_82_31 (rdI_at (hS.k rfl) hb) rfl ?_
      refine e_ixor d_82_32 rfl ?_
      obtain ⟨v3, σ1, hcl, hS2, H⟩ := H
      refine e_scall (w1 := (some (.int v3), σ1)) d_82_33 kc_82_33 rfl ⟨Nat.le_of_ble_eq_true rfl, xx_82.symm⟩ rfl hcl ?_
      show Ev 82 36 [.ref 53, .int x1, .int x2, .int x3, .int x4, .int x5] [.int v3] σ1 w
      refine e_iload_n d_82_36 rfl rfl ?_
      refine e_icmp_ne (t := 43) d_82_37 (by decide) rfl (fun hc => ?_) (fun hc => ?_)
      · replace H := H.2 hc
        refine e_iinc (ls2 := [.ref 53, .int x1, .int x2, .int x3, .int x4, .int (x5 + 1)]) d_82_43 rfl ci_1 rfl rfl rfl ?_
        refine e_goto (t := 6) d_82_46 (by decide) ?_
        exact H
      · replace H := H.1 hc
        refine e_iinc (ls2 := [.ref 53, .int x1, .int x2, .int x3, .int (x4 + 1), .int x5]) d_82_40 rfl ci_1 rfl rfl rfl ?_
        refine e_iinc (ls2 := [.ref 53, .int x1, .int x2, .int x3, .int (x4 + 1), .int (x5 + 1)]) d_82_43 rfl ci_1 rfl rfl rfl ?_
        refine e_goto (t := 6) d_82_46 (by decide) ?_
        exact H
/-! X5_play -/
theorem b_83_0 {t : Nat} {σ : Mm} {w : Option Value × Mm} {x1 : Int32} (hS : Sg t σ) 
    (H : Ev 83 7 [.ref 53, .int x1, .int ((mI σ 53 0) - 1)] [] σ w) :
    Ev 83 0 [.ref 53, .int x1, .retAddr 0] [] σ w := by
  refine e_aload_n d_83_0 rfl rfl ?_
  refine e_getI d_83_1 oo_83 pF_5_18 (by decide) (hS.k rfl) rfl ?_
  refine e_iconst d_83_4 ci_1 rfl ?_
  refine e_isub d_83_5 rfl ?_
  refine e_istore_n (ls2 := [.ref 53, .int x1, .int ((mI σ 53 0) - 1)]) d_83_6 rfl rfl rfl ?_
  exact H
theorem b_83_7 {t : Nat} {σ : Mm} {w : Option Value × Mm} {x1 : Int32} {x2 : Int32} (hS : Sg t σ) 
    (H : (x2 < 0 → (w = (some (.int (mI σ 55 0)), σ))) ∧ (¬ (x2 < 0) → (((x2 &&& ((mI σ 53 2) ^^^ (-1))) = 0 → (∃ (v3 : Int32) (σ1 : Mm), Cl 84 [.ref 53, .int x2, .int x1] σ (some (.int v3), σ1) ∧ Sg t σ1 ∧ (inb x2 1024 = true ∧ Ev 83 7 [.ref 53, .int x1, .int (x2 + (-1))] [] (uI σ1 55 x2.toNatClampNeg v3) w))) ∧ (¬ ((x2 &&& ((mI σ 53 2) ^^^ (-1))) = 0) → Ev 83 7 [.ref 53, .int x1, .int (x2 + (-1))] [] σ w)))) :
    Ev 83 7 [.ref 53, .int x1, .int x2] [] σ w := by
  refine e_iload_n d_83_7 rfl rfl ?_
  refine e_if_lt (t := 40) d_83_8 (by decide) rfl (fun hc => ?_) (fun hc => ?_)
  · replace H := H.1 hc
    refine e_aload_n d_83_40 rfl rfl ?_
    refine e_getR d_83_41 oo_83 pF_5_15 (by decide) (hS.k rfl) (hS.r rt_53_3) rfl ?_
    refine e_iconst d_83_44 ci_0 rfl ?_
    refine e_iaload (v := (mI σ 55 0)) d_83_45 (rdI_at (hS.k rfl) rfl) rfl ?_
    subst H
    exact e_iret d_83_46 rr_83
  · replace H := H.2 hc
    refine e_iload_n d_83_11 rfl rfl ?_
    refine e_aload_n d_83_12 rfl rfl ?_
    refine e_getI d_83_13 oo_83 pF_5_22 (by decide) (hS.k rfl) rfl ?_
    refine e_iconst d_83_16 ci_m1 rfl ?_
    refine e_ixor d_83_17 rfl ?_
    refine e_iand d_83_18 rfl ?_
    refine e_if_ne (t := 34) d_83_19 (by decide) rfl (fun hc => ?_) (fun hc => ?_)
    · replace H := H.2 hc
      refine e_iinc (ls2 := [.ref 53, .int x1, .int (x2 + (-1))]) d_83_34 rfl ci_m1 rfl rfl rfl ?_
      refine e_goto (t := 7) d_83_37 (by decide) ?_
      exact H
    · replace H := H.1 hc
      refine e_aload_n d_83_22 rfl rfl ?_
      refine e_getR d_83_23 oo_83 pF_5_15 (by decide) (hS.k rfl) (hS.r rt_53_3) rfl ?_
      refine e_iload_n d_83_26 rfl rfl ?_
      refine e_aload_n d_83_27 rfl rfl ?_
      refine e_iload_n d_83_28 rfl rfl ?_
      refine e_iload_n d_83_29 rfl rfl ?_
      obtain ⟨v3, σ1, hcl, hS2, H⟩ := H
      refine e_vcall (w1 := (some (.int v3), σ1)) d_83_30 kc_83_30 rfl ⟨Nat.le_of_ble_eq_true rfl, xx_83.symm⟩ rfl hcl ?_
      show Ev 83 33 [.ref 53, .int x1, .int x2] [.int v3, .int x2, .ref 55] σ1 w
      obtain ⟨hb, H⟩ := H
      refine e_iastore d_83_33 (okI_at (hS2.k rfl) hb) rfl ?_
      refine e_iinc (ls2 := [.ref 53, .int x1, .int (x2 + (-1))]) d_83_34 rfl ci_m1 rfl rfl rfl ?_
      refine e_goto (t := 7) d_83_37 (by decide) ?_
      exact H
/-! X5_bestFrom -/
theorem b_84_0 {t : Nat} {σ : Mm} {w : Option Value × Mm} {x1 : Int32} {x2 : Int32} (hS : Sg t σ) 
    (H : Ev 84 5 [.ref 53, .int x1, .int x2, .int (-1), .int 0, .retAddr 0] [] σ w) :
    Ev 84 0 [.ref 53, .int x1, .int x2, .retAddr 0, .retAddr 0, .retAddr 0] [] σ w := by
  refine e_iconst d_84_0 ci_m1 rfl ?_
  refine e_istore_n (ls2 := [.ref 53, .int x1, .int x2, .int (-1), .retAddr 0, .retAddr 0]) d_84_1 rfl rfl rfl ?_
  refine e_iconst d_84_2 ci_0 rfl ?_
  refine e_istore (ls2 := [.ref 53, .int x1, .int x2, .int (-1), .int 0, .retAddr 0]) d_84_3 rfl rfl rfl ?_
  exact H
theorem b_84_5 {t : Nat} {σ : Mm} {w : Option Value × Mm} {x1 : Int32} {x2 : Int32} {x3 : Int32} {x4 : Int32} {z5 : Value} (hS : Sg t σ) 
    (H : (x4 < 10 → (((((mI σ 53 2) &&& (x1 ^^^ (-1))) &&& ((1 : Int32) <<< (x4 &&& 31))) = 0 → Ev 84 5 [.ref 53, .int x1, .int x2, .int x3, .int (x4 + 1), .int ((1 : Int32) <<< (x4 &&& 31))] [] σ w) ∧ (¬ ((((mI σ 53 2) &&& (x1 ^^^ (-1))) &&& ((1 : Int32) <<< (x4 &&& 31))) = 0) → (∃ (v3 : Int32) (σ1 : Mm), Cl 85 [.ref 53, .int (x1 ||| ((1 : Int32) <<< (x4 &&& 31))), .int x2] σ (some (.int v3), σ1) ∧ Sg t σ1 ∧ (∃ (v6 : Int32) (σ4 : Mm), Cl 278 [.int x3, .int v3] σ1 (some (.int v6), σ4) ∧ Sg t σ4 ∧ Ev 84 5 [.ref 53, .int x1, .int x2, .int v6, .int (x4 + 1), .int ((1 : Int32) <<< (x4 &&& 31))] [] σ4 w))))) ∧ (¬ (x4 < 10) → ((x3 = (-1) → (w = (some (.int 1), σ))) ∧ (¬ (x3 = (-1)) → (w = (some (.int x3), σ)))))) :
    Ev 84 5 [.ref 53, .int x1, .int x2, .int x3, .int x4, z5] [] σ w := by
  refine e_iload d_84_5 rfl rfl ?_
  refine e_bipush d_84_7 cb_10 rfl ?_
  refine e_icmp_ge (t := 52) d_84_9 (by decide) rfl (fun hc => ?_) (fun hc => ?_)
  · replace H := H.2 hc
    refine e_iload_n d_84_52 rfl rfl ?_
    refine e_iconst d_84_53 ci_m1 rfl ?_
    refine e_icmp_ne (t := 61) d_84_54 (by decide) rfl (fun hc => ?_) (fun hc => ?_)
    · replace H := H.2 hc
      refine e_iload_n d_84_61 rfl rfl ?_
      subst H
      exact e_iret d_84_62 rr_84
    · replace H := H.1 hc
      refine e_iconst d_84_57 ci_1 rfl ?_
      refine e_goto (t := 62) d_84_58 (by decide) ?_
      subst H
      exact e_iret d_84_62 rr_84
  · replace H := H.1 hc
    refine e_iconst d_84_12 ci_1 rfl ?_
    refine e_iload d_84_13 rfl rfl ?_
    refine e_ishl d_84_15 rfl ?_
    refine e_istore (ls2 := [.ref 53, .int x1, .int x2, .int x3, .int x4, .int ((1 : Int32) <<< (x4 &&& 31))]) d_84_16 rfl rfl rfl ?_
    refine e_aload_n d_84_18 rfl rfl ?_
    refine e_getI d_84_19 oo_84 pF_5_22 (by decide) (hS.k rfl) rfl ?_
    refine e_iload_n d_84_22 rfl rfl ?_
    refine e_iconst d_84_23 ci_m1 rfl ?_
    refine e_ixor d_84_24 rfl ?_
    refine e_iand d_84_25 rfl ?_
    refine e_iload d_84_26 rfl rfl ?_
    refine e_iand d_84_28 rfl ?_
    refine e_if_eq (t := 46) d_84_29 (by decide) rfl (fun hc => ?_) (fun hc => ?_)
    · replace H := H.1 hc
      refine e_iinc (ls2 := [.ref 53, .int x1, .int x2, .int x3, .int (x4 + 1), .int ((1 : Int32) <<< (x4 &&& 31))]) d_84_46 rfl ci_1 rfl rfl rfl ?_
      refine e_goto (t := 5) d_84_49 (by decide) ?_
      exact H
    · replace H := H.2 hc
      refine e_iload_n d_84_32 rfl rfl ?_
      refine e_aload_n d_84_33 rfl rfl ?_
      refine e_iload_n d_84_34 rfl rfl ?_
      refine e_iload d_84_35 rfl rfl ?_
      refine e_ior d_84_37 rfl ?_
      refine e_iload_n d_84_38 rfl rfl ?_
      obtain ⟨v3, σ1, hcl, hS2, H⟩ := H
      refine e_vcall (w1 := (some (.int v3), σ1)) d_84_39 kc_84_39 rfl ⟨Nat.le_of_ble_eq_true rfl, xx_84.symm⟩ rfl hcl ?_
      show Ev 84 42 [.ref 53, .int x1, .int x2, .int x3, .int x4, .int ((1 : Int32) <<< (x4 &&& 31))] [.int v3, .int x3] σ1 w
      obtain ⟨v6, σ4, hcl, hS5, H⟩ := H
      refine e_scall (w1 := (some (.int v6), σ4)) d_84_42 kc_84_42 rfl ⟨Nat.le_of_ble_eq_true rfl, xx_84.symm⟩ rfl hcl ?_
      show Ev 84 45 [.ref 53, .int x1, .int x2, .int x3, .int x4, .int ((1 : Int32) <<< (x4 &&& 31))] [.int v6] σ4 w
      refine e_istore_n (ls2 := [.ref 53, .int x1, .int x2, .int v6, .int x4, .int ((1 : Int32) <<< (x4 &&& 31))]) d_84_45 rfl rfl rfl ?_
      refine e_iinc (ls2 := [.ref 53, .int x1, .int x2, .int v6, .int (x4 + 1), .int ((1 : Int32) <<< (x4 &&& 31))]) d_84_46 rfl ci_1 rfl rfl rfl ?_
      refine e_goto (t := 5) d_84_49 (by decide) ?_
      exact H
/-! X5_outcomeBy -/
theorem b_85_0 {t : Nat} {σ : Mm} {w : Option Value × Mm} {x1 : Int32} {x2 : Int32} (hS : Sg t σ) 
    (H : (x1 < (mI σ 53 0) → (inb x1 1024 = true ∧ (((mI σ 54 x1.toNatClampNeg) = x2 → (w = (some (.int 2), σ))) ∧ (¬ ((mI σ 54 x1.toNatClampNeg) = x2) → (inb x1 1024 = true ∧ (w = (some (.int (2 - (mI σ 55 x1.toNatClampNeg))), σ))))))) ∧ (¬ (x1 < (mI σ 53 0)) → (w = (some (.int 1), σ)))) :
    Ev 85 0 [.ref 53, .int x1, .int x2] [] σ w := by
  refine e_iload_n d_85_0 rfl rfl ?_
  refine e_aload_n d_85_1 rfl rfl ?_
  refine e_getI d_85_2 oo_85 pF_5_18 (by decide) (hS.k rfl) rfl ?_
  refine e_icmp_lt (t := 10) d_85_5 (by decide) rfl (fun hc => ?_) (fun hc => ?_)
  · replace H := H.1 hc
    refine e_aload_n d_85_10 rfl rfl ?_
    refine e_getR d_85_11 oo_85 pF_5_9 (by decide) (hS.k rfl) (hS.r rt_53_1) rfl ?_
    refine e_iload_n d_85_14 rfl rfl ?_
    obtain ⟨hb, H⟩ := H
    refine e_iaload (v := (mI σ 54 x1.toNatClampNeg)) d_85_15 (rdI_at (hS.k rfl) hb) rfl ?_
    refine e_iload_n d_85_16 rfl rfl ?_
    refine e_icmp_ne (t := 24) d_85_17 (by decide) rfl (fun hc => ?_) (fun hc => ?_)
    · replace H := H.2 hc
      refine e_iconst d_85_24 ci_2 rfl ?_
      refine e_aload_n d_85_25 rfl rfl ?_
      refine e_getR d_85_26 oo_85 pF_5_15 (by decide) (hS.k rfl) (hS.r rt_53_3) rfl ?_
      refine e_iload_n d_85_29 rfl rfl ?_
      obtain ⟨hb, H⟩ := H
      refine e_iaload (v := (mI σ 55 x1.toNatClampNeg)) d_85_30 (rdI_at (hS.k rfl) hb) rfl ?_
      refine e_isub d_85_31 rfl ?_
      subst H
      exact e_iret d_85_32 rr_85
    · replace H := H.1 hc
      refine e_iconst d_85_20 ci_2 rfl ?_
      refine e_goto (t := 32) d_85_21 (by decide) ?_
      subst H
      exact e_iret d_85_32 rr_85
  · replace H := H.2 hc
    refine e_iconst d_85_8 ci_1 rfl ?_
    subst H
    exact e_iret d_85_9 rr_85
/-! X5_firstPullTo -/
theorem b_86_0 {t : Nat} {σ : Mm} {w : Option Value × Mm} {x1 : Int32} {x2 : Int32} (hS : Sg t σ) 
    (H : Ev 86 2 [.ref 53, .int x1, .int x2, .int 0, .retAddr 0] [] σ w) :
    Ev 86 0 [.ref 53, .int x1, .int x2, .retAddr 0, .retAddr 0] [] σ w := by
  refine e_iconst d_86_0 ci_0 rfl ?_
  refine e_istore_n (ls2 := [.ref 53, .int x1, .int x2, .int 0, .retAddr 0]) d_86_1 rfl rfl rfl ?_
  exact H
theorem b_86_2 {t : Nat} {σ : Mm} {w : Option Value × Mm} {x1 : Int32} {x2 : Int32} {x3 : Int32} {z4 : Value} (hS : Sg t σ) 
    (H : (x3 < 10 → ((((mI σ 53 2) &&& ((1 : Int32) <<< (x3 &&& 31))) = 0 → Ev 86 2 [.ref 53, .int x1, .int x2, .int (x3 + 1), .int ((1 : Int32) <<< (x3 &&& 31))] [] σ w) ∧ (¬ (((mI σ 53 2) &&& ((1 : Int32) <<< (x3 &&& 31))) = 0) → (∃ (v3 : Int32) (σ1 : Mm), Cl 85 [.ref 53, .int ((1 : Int32) <<< (x3 &&& 31)), .int x2] σ (some (.int v3), σ1) ∧ Sg t σ1 ∧ ((v3 = x1 → (w = (some (.int x3), σ1))) ∧ (¬ (v3 = x1) → Ev 86 2 [.ref 53, .int x1, .int x2, .int (x3 + 1), .int ((1 : Int32) <<< (x3 &&& 31))] [] σ1 w)))))) ∧ (¬ (x3 < 10) → (w = (some (.int (-2)), σ)))) :
    Ev 86 2 [.ref 53, .int x1, .int x2, .int x3, z4] [] σ w := by
  refine e_iload_n d_86_2 rfl rfl ?_
  refine e_bipush d_86_3 cb_10 rfl ?_
  refine e_icmp_ge (t := 42) d_86_5 (by decide) rfl (fun hc => ?_) (fun hc => ?_)
  · replace H := H.2 hc
    refine e_bipush d_86_42 cb_m2 rfl ?_
    subst H
    exact e_iret d_86_44 rr_86
  · replace H := H.1 hc
    refine e_iconst d_86_8 ci_1 rfl ?_
    refine e_iload_n d_86_9 rfl rfl ?_
    refine e_ishl d_86_10 rfl ?_
    refine e_istore (ls2 := [.ref 53, .int x1, .int x2, .int x3, .int ((1 : Int32) <<< (x3 &&& 31))]) d_86_11 rfl rfl rfl ?_
    refine e_aload_n d_86_13 rfl rfl ?_
    refine e_getI d_86_14 oo_86 pF_5_22 (by decide) (hS.k rfl) rfl ?_
    refine e_iload d_86_17 rfl rfl ?_
    refine e_iand d_86_19 rfl ?_
    refine e_if_eq (t := 36) d_86_20 (by decide) rfl (fun hc => ?_) (fun hc => ?_)
    · replace H := H.1 hc
      refine e_iinc (ls2 := [.ref 53, .int x1, .int x2, .int (x3 + 1), .int ((1 : Int32) <<< (x3 &&& 31))]) d_86_36 rfl ci_1 rfl rfl rfl ?_
      refine e_goto (t := 2) d_86_39 (by decide) ?_
      exact H
    · replace H := H.2 hc
      refine e_aload_n d_86_23 rfl rfl ?_
      refine e_iload d_86_24 rfl rfl ?_
      refine e_iload_n d_86_26 rfl rfl ?_
      obtain ⟨v3, σ1, hcl, hS2, H⟩ := H
      refine e_vcall (w1 := (some (.int v3), σ1)) d_86_27 kc_86_27 rfl ⟨Nat.le_of_ble_eq_true rfl, xx_86.symm⟩ rfl hcl ?_
      show Ev 86 30 [.ref 53, .int x1, .int x2, .int x3, .int ((1 : Int32) <<< (x3 &&& 31))] [.int v3] σ1 w
      refine e_iload_n d_86_30 rfl rfl ?_
      refine e_icmp_ne (t := 36) d_86_31 (by decide) rfl (fun hc => ?_) (fun hc => ?_)
      · replace H := H.2 hc
        refine e_iinc (ls2 := [.ref 53, .int x1, .int x2, .int (x3 + 1), .int ((1 : Int32) <<< (x3 &&& 31))]) d_86_36 rfl ci_1 rfl rfl rfl ?_
        refine e_goto (t := 2) d_86_39 (by decide) ?_
        exact H
      · replace H := H.1 hc
        refine e_iload_n d_86_34 rfl rfl ?_
        subst H
        exact e_iret d_86_35 rr_86
