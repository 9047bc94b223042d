/-! X0_settle -/
theorem b_1_0 {t : Nat} {σ : Mm} {w : Option Value × Mm} {a1 n1 : Nat} {x2 : Int32} {x3 : Int32} (hS : Sg t σ) (h1 : KS[a1]? = some (11, n1))
    (H : Ev 1 3 [.ref 56, .ref a1, .int x2, .int x3, .int 0, .retAddr 0, .retAddr 0] [] σ w) :
    Ev 1 0 [.ref 56, .ref a1, .int x2, .int x3, .retAddr 0, .retAddr 0, .retAddr 0] [] σ w := by
  refine e_iconst d_1_0 ci_0 rfl ?_
  refine e_istore (ls2 := [.ref 56, .ref a1, .int x2, .int x3, .int 0, .retAddr 0, .retAddr 0]) d_1_1 rfl rfl rfl ?_
  exact H
theorem b_1_3 {t : Nat} {σ : Mm} {w : Option Value × Mm} {x2 : Int32} {x3 : Int32} {x4 : Int32} {z5 : Value} {z6 : Value} {a1 n1 : Nat} (hS : Sg t σ) (h1 : KS[a1]? = some (11, n1))
    (H : (x4 < 14 → (inb x4 14 = true ∧ (inb x4 14 = true ∧ (∀ (σ1 : Mm), σ1 = uI (uI σ 57 x4.toNatClampNeg 0) 58 x4.toNatClampNeg 0 → Ev 1 3 [.ref 56, .ref a1, .int x2, .int x3, .int (x4 + 1), z5, z6] [] σ1 w)))) ∧ (¬ (x4 < 14) → Ev 1 38 [.ref 56, .ref a1, .int x2, .int x3, .int 0, .int 0, z6] [] σ w)) :
    Ev 1 3 [.ref 56, .ref a1, .int x2, .int x3, .int x4, z5, z6] [] σ w := by
  refine e_iload d_1_3 rfl rfl ?_
  refine e_bipush d_1_5 cb_14 rfl ?_
  refine e_icmp_ge (t := 32) d_1_7 (by decide) rfl (fun hc => ?_) (fun hc => ?_)
  · replace H := H.2 hc
    refine e_iconst d_1_32 ci_0 rfl ?_
    refine e_istore (ls2 := [.ref 56, .ref a1, .int x2, .int x3, .int 0, z5, z6]) d_1_33 rfl rfl rfl ?_
    refine e_iconst d_1_35 ci_0 rfl ?_
    refine e_istore (ls2 := [.ref 56, .ref a1, .int x2, .int x3, .int 0, .int 0, z6]) d_1_36 rfl rfl rfl ?_
    exact H
  · replace H := H.1 hc
    refine e_aload_n d_1_10 rfl rfl ?_
    refine e_getR d_1_11 oo_1 pF_0_9 (by decide) (hS.k rfl) (hS.r rt_56_0) rfl ?_
    refine e_iload d_1_14 rfl rfl ?_
    refine e_iconst d_1_16 ci_0 rfl ?_
    obtain ⟨hb, H⟩ := H
    refine e_iastore d_1_17 (okI_at (hS.k rfl) hb) rfl ?_
    refine e_aload_n d_1_18 rfl rfl ?_
    refine e_getR d_1_19 oo_1 pF_0_15 (by decide) (hS.uI.k rfl) (hS.uI.r rt_56_1) rfl ?_
    refine e_iload d_1_22 rfl rfl ?_
    refine e_iconst d_1_24 ci_0 rfl ?_
    obtain ⟨hb, H⟩ := H
    refine e_iastore d_1_25 (okI_at (hS.uI.k rfl) hb) rfl ?_
    generalize hm2 : uI (uI σ 57 x4.toNatClampNeg 0) 58 x4.toNatClampNeg 0 = σ1
    have hS3 : Sg t σ1 := by rw [← hm2]; exact hS.uI.uI
    replace H := H σ1 hm2.symm
    refine e_iinc (ls2 := [.ref 56, .ref a1, .int x2, .int x3, .int (x4 + 1), z5, z6]) d_1_26 rfl ci_1 rfl rfl rfl ?_
    refine e_goto (t := 3) d_1_29 (by decide) ?_
    exact H
theorem b_1_38 {t : Nat} {σ : Mm} {w : Option Value × Mm} {x2 : Int32} {x3 : Int32} {x4 : Int32} {x5 : Int32} {z6 : Value} {a1 n1 : Nat} (hS : Sg t σ) (h1 : KS[a1]? = some (11, n1))
    (H : (x5 < x2 → ((x5 < 10 → ((((x3 >>> (x5 &&& 31)) &&& 1) = 0 → Ev 1 38 [.ref 56, .ref a1, .int x2, .int x3, .int x4, .int (x5 + 1), z6] [] σ w) ∧ (¬ (((x3 >>> (x5 &&& 31)) &&& 1) = 0) → (inb x5 n1 = true ∧ (∃ (σ1 : Mm), Cl 3 [.ref 56, .int (mI σ a1 x5.toNatClampNeg)] σ (none, σ1) ∧ Sg t σ1 ∧ (∃ (v6 : Int32) (σ4 : Mm), Cl 274 [.int (mI σ1 56 2)] σ1 (some (.int v6), σ4) ∧ Sg t σ4 ∧ (((31 - v6) < 0 → Ev 1 38 [.ref 56, .ref a1, .int x2, .int x3, .int x4, .int (x5 + 1), .int (31 - v6)] [] σ4 w) ∧ (¬ ((31 - v6) < 0) → (((31 - v6) < 14 → (inb (31 - v6) 14 = true ∧ (∀ (σ7 : Mm), σ7 = uI σ4 57 (31 - v6).toNatClampNeg (mI σ4 56 2) → (inb (31 - v6) 14 = true ∧ (∀ (σ10 : Mm), σ10 = uI σ7 58 (31 - v6).toNatClampNeg ((mI σ7 56 3) ||| ((1 : Int32) <<< (x5 &&& 31))) → Ev 1 119 [.ref 56, .ref a1, .int x2, .int x3, .int x4, .int x5, .int (31 - v6)] [] σ10 w))))) ∧ (¬ ((31 - v6) < 14) → Ev 1 38 [.ref 56, .ref a1, .int x2, .int x3, .int x4, .int (x5 + 1), .int (31 - v6)] [] σ4 w)))))))))) ∧ (¬ (x5 < 10) → (w = (some (.int x4), σ))))) ∧ (¬ (x5 < x2) → (w = (some (.int x4), σ)))) :
    Ev 1 38 [.ref 56, .ref a1, .int x2, .int x3, .int x4, .int x5, z6] [] σ w := by
  refine e_iload d_1_38 rfl rfl ?_
  refine e_iload_n d_1_40 rfl rfl ?_
  refine e_icmp_ge (t := 134) d_1_41 (by decide) rfl (fun hc => ?_) (fun hc => ?_)
  · replace H := H.2 hc
    refine e_iload d_1_134 rfl rfl ?_
    subst H
    exact e_iret d_1_136 rr_1
  · replace H := H.1 hc
    refine e_iload d_1_44 rfl rfl ?_
    refine e_bipush d_1_46 cb_10 rfl ?_
    refine e_icmp_ge (t := 134) d_1_48 (by decide) rfl (fun hc => ?_) (fun hc => ?_)
    · replace H := H.2 hc
      refine e_iload d_1_134 rfl rfl ?_
      subst H
      exact e_iret d_1_136 rr_1
    · replace H := H.1 hc
      refine e_iload_n d_1_51 rfl rfl ?_
      refine e_iload d_1_52 rfl rfl ?_
      refine e_ishr d_1_54 rfl ?_
      refine e_iconst d_1_55 ci_1 rfl ?_
      refine e_iand d_1_56 rfl ?_
      refine e_if_eq (t := 128) d_1_57 (by decide) rfl (fun hc => ?_) (fun hc => ?_)
      · replace H := H.1 hc
        refine e_iinc (ls2 := [.ref 56, .ref a1, .int x2, .int x3, .int x4, .int (x5 + 1), z6]) d_1_128 rfl ci_1 rfl rfl rfl ?_
        refine e_goto (t := 38) d_1_131 (by decide) ?_
        exact H
      · replace H := H.2 hc
        refine e_aload_n d_1_60 rfl rfl ?_
        refine e_aload_n d_1_61 rfl rfl ?_
        refine e_iload d_1_62 rfl rfl ?_
        obtain ⟨hb, H⟩ := H
        refine e_iaload (v := (mI σ a1 x5.toNatClampNeg)) d_1_64 (rdI_at (hS.k h1) hb) rfl ?_
        obtain ⟨σ1, hcl, hS2, H⟩ := H
        refine e_vcall (w1 := (none, σ1)) d_1_65 kc_1_65 rfl ⟨Nat.le_of_ble_eq_true rfl, xx_1.symm⟩ rfl hcl ?_
        show Ev 1 68 [.ref 56, .ref a1, .int x2, .int x3, .int x4, .int x5, z6] [] σ1 w
        refine e_bipush d_1_68 cb_31 rfl ?_
        refine e_aload_n d_1_70 rfl rfl ?_
        refine e_getI d_1_71 oo_1 pF_0_22 (by decide) (hS2.k rfl) rfl ?_
        obtain ⟨v6, σ4, hcl, hS5, H⟩ := H
        refine e_scall (w1 := (some (.int v6), σ4)) d_1_74 kc_1_74 rfl ⟨Nat.le_of_ble_eq_true rfl, xx_1.symm⟩ rfl hcl ?_
        show Ev 1 77 [.ref 56, .ref a1, .int x2, .int x3, .int x4, .int x5, z6] [.int v6, .int 31] σ4 w
        refine e_isub d_1_77 rfl ?_
        refine e_istore (ls2 := [.ref 56, .ref a1, .int x2, .int x3, .int x4, .int x5, .int (31 - v6)]) d_1_78 rfl rfl rfl ?_
        refine e_iload d_1_80 rfl rfl ?_
        refine e_if_lt (t := 128) d_1_82 (by decide) rfl (fun hc => ?_) (fun hc => ?_)
        · replace H := H.1 hc
          refine e_iinc (ls2 := [.ref 56, .ref a1, .int x2, .int x3, .int x4, .int (x5 + 1), .int (31 - v6)]) d_1_128 rfl ci_1 rfl rfl rfl ?_
          refine e_goto (t := 38) d_1_131 (by decide) ?_
          exact H
        · replace H := H.2 hc
          refine e_iload d_1_85 rfl rfl ?_
          refine e_bipush d_1_87 cb_14 rfl ?_
          refine e_icmp_ge (t := 128) d_1_89 (by decide) rfl (fun hc => ?_) (fun hc => ?_)
          · replace H := H.2 hc
            refine e_iinc (ls2 := [.ref 56, .ref a1, .int x2, .int x3, .int x4, .int (x5 + 1), .int (31 - v6)]) d_1_128 rfl ci_1 rfl rfl rfl ?_
            refine e_goto (t := 38) d_1_131 (by decide) ?_
            exact H
          · replace H := H.1 hc
            refine e_aload_n d_1_92 rfl rfl ?_
            refine e_getR d_1_93 oo_1 pF_0_9 (by decide) (hS5.k rfl) (hS5.r rt_56_0) rfl ?_
            refine e_iload d_1_96 rfl rfl ?_
            refine e_aload_n d_1_98 rfl rfl ?_
            refine e_getI d_1_99 oo_1 pF_0_22 (by decide) (hS5.k rfl) rfl ?_
            obtain ⟨hb, H⟩ := H
            refine e_iastore d_1_102 (okI_at (hS5.k rfl) hb) rfl ?_
            generalize hm8 : uI σ4 57 (31 - v6).toNatClampNeg (mI σ4 56 2) = σ7
            have hS9 : Sg t σ7 := by rw [← hm8]; exact hS5.uI
            replace H := H σ7 hm8.symm
            refine e_aload_n d_1_103 rfl rfl ?_
            refine e_getR d_1_104 oo_1 pF_0_15 (by decide) (hS9.k rfl) (hS9.r rt_56_1) rfl ?_
            refine e_iload d_1_107 rfl rfl ?_
            refine e_aload_n d_1_109 rfl rfl ?_
            refine e_getI d_1_110 oo_1 pF_0_32 (by decide) (hS9.k rfl) rfl ?_
            refine e_iconst d_1_113 ci_1 rfl ?_
            refine e_iload d_1_114 rfl rfl ?_
            refine e_ishl d_1_116 rfl ?_
            refine e_ior d_1_117 rfl ?_
            obtain ⟨hb, H⟩ := H
            refine e_iastore d_1_118 (okI_at (hS9.k rfl) hb) rfl ?_
            generalize hm11 : uI σ7 58 (31 - v6).toNatClampNeg ((mI σ7 56 3) ||| ((1 : Int32) <<< (x5 &&& 31))) = σ10
            have hS12 : Sg t σ10 := by rw [← hm11]; exact hS9.uI
            replace H := H σ10 hm11.symm
            exact H
theorem b_1_119 {t : Nat} {σ : Mm} {w : Option Value × Mm} {x2 : Int32} {x3 : Int32} {x4 : Int32} {x5 : Int32} {x6 : Int32} {a1 n1 : Nat} (hS : Sg t σ) (h1 : KS[a1]? = some (11, n1))
    (H : Ev 1 38 [.ref 56, .ref a1, .int x2, .int x3, .int (x4 ||| ((1 : Int32) <<< (x5 &&& 31))), .int (x5 + 1), .int x6] [] σ w) :
    Ev 1 119 [.ref 56, .ref a1, .int x2, .int x3, .int x4, .int x5, .int x6] [] σ w := by
  refine e_iload d_1_119 rfl rfl ?_
  refine e_iconst d_1_121 ci_1 rfl ?_
  refine e_iload d_1_122 rfl rfl ?_
  refine e_ishl d_1_124 rfl ?_
  refine e_ior d_1_125 rfl ?_
  refine e_istore (ls2 := [.ref 56, .ref a1, .int x2, .int x3, .int (x4 ||| ((1 : Int32) <<< (x5 &&& 31))), .int x5, .int x6]) d_1_126 rfl rfl rfl ?_
  refine e_iinc (ls2 := [.ref 56, .ref a1, .int x2, .int x3, .int (x4 ||| ((1 : Int32) <<< (x5 &&& 31))), .int (x5 + 1), .int x6]) d_1_128 rfl ci_1 rfl rfl rfl ?_
  refine e_goto (t := 38) d_1_131 (by decide) ?_
  exact H
/-! X0_partsOf -/
theorem b_2_0 {t : Nat} {σ : Mm} {w : Option Value × Mm} {x1 : Int32} (hS : Sg t σ) 
    (H : ∃ (σ1 : Mm), Cl 3 [.ref 56, .int x1] σ (none, σ1) ∧ Sg t σ1 ∧ (((mI σ1 56 2) = 0 → (w = (some (.int (mI σ1 56 3)), σ1))) ∧ (¬ ((mI σ1 56 2) = 0) → (w = (some (.int (-2)), σ1))))) :
    Ev 2 0 [.ref 56, .int x1] [] σ w := by
  refine e_aload_n d_2_0 rfl rfl ?_
  refine e_iload_n d_2_1 rfl rfl ?_
  obtain ⟨σ1, hcl, hS2, H⟩ := H
  refine e_vcall (w1 := (none, σ1)) d_2_2 kc_2_2 rfl ⟨Nat.le_of_ble_eq_true rfl, xx_2.symm⟩ rfl hcl ?_
  show Ev 2 5 [.ref 56, .int x1] [] σ1 w
  refine e_aload_n d_2_5 rfl rfl ?_
  refine e_getI d_2_6 oo_2 pF_0_22 (by decide) (hS2.k rfl) rfl ?_
  refine e_if_ne (t := 19) d_2_9 (by decide) rfl (fun hc => ?_) (fun hc => ?_)
  · replace H := H.2 hc
    refine e_bipush d_2_19 cb_m2 rfl ?_
    subst H
    exact e_iret d_2_21 rr_2
  · replace H := H.1 hc
    refine e_aload_n d_2_12 rfl rfl ?_
    refine e_getI d_2_13 oo_2 pF_0_32 (by decide) (hS2.k rfl) rfl ?_
    refine e_goto (t := 21) d_2_16 (by decide) ?_
    subst H
    exact e_iret d_2_21 rr_2
/-! X0_reduce -/
theorem b_3_0 {t : Nat} {σ : Mm} {w : Option Value × Mm} {x1 : Int32} (hS : Sg t σ) 
    (H : Ev 3 13 [.ref 56, .int x1, .int 13] [] (uI (uI σ 56 2 x1) 56 3 0) w) :
    Ev 3 0 [.ref 56, .int x1, .retAddr 0] [] σ w := by
  refine e_aload_n d_3_0 rfl rfl ?_
  refine e_iload_n d_3_1 rfl rfl ?_
  refine e_putI d_3_2 oo_3 pF_0_22 (Or.inl rfl) (hS.k rfl) rfl ?_
  refine e_aload_n d_3_5 rfl rfl ?_
  refine e_iconst d_3_6 ci_0 rfl ?_
  refine e_putI d_3_7 oo_3 pF_0_32 (Or.inl rfl) (hS.uI.k rfl) rfl ?_
  refine e_bipush d_3_10 cb_13 rfl ?_
  refine e_istore_n (ls2 := [.ref 56, .int x1, .int 13]) d_3_12 rfl rfl rfl ?_
  exact H
theorem b_3_13 {t : Nat} {σ : Mm} {w : Option Value × Mm} {x1 : Int32} {x2 : Int32} (hS : Sg t σ) 
    (H : (x2 < 0 → (w = (none, σ))) ∧ (¬ (x2 < 0) → (((((mI σ 56 2) >>> (x2 &&& 31)) &&& 1) = 0 → Ev 3 13 [.ref 56, .int x1, .int (x2 + (-1))] [] σ w) ∧ (¬ ((((mI σ 56 2) >>> (x2 &&& 31)) &&& 1) = 0) → (inb x2 14 = true ∧ (∀ (σ1 : Mm), σ1 = uI σ 56 2 ((mI σ 56 2) ^^^ (mI σ 57 x2.toNatClampNeg)) → (inb x2 14 = true ∧ (∀ (σ4 : Mm), σ4 = uI σ1 56 3 ((mI σ1 56 3) ^^^ (mI σ1 58 x2.toNatClampNeg)) → Ev 3 13 [.ref 56, .int x1, .int (x2 + (-1))] [] σ4 w)))))))) :
    Ev 3 13 [.ref 56, .int x1, .int x2] [] σ w := by
  refine e_iload_n d_3_13 rfl rfl ?_
  refine e_if_lt (t := 64) d_3_14 (by decide) rfl (fun hc => ?_) (fun hc => ?_)
  · replace H := H.1 hc
    subst H
    exact e_vret d_3_64 rr_3
  · replace H := H.2 hc
    refine e_aload_n d_3_17 rfl rfl ?_
    refine e_getI d_3_18 oo_3 pF_0_22 (by decide) (hS.k rfl) rfl ?_
    refine e_iload_n d_3_21 rfl rfl ?_
    refine e_ishr d_3_22 rfl ?_
    refine e_iconst d_3_23 ci_1 rfl ?_
    refine e_iand d_3_24 rfl ?_
    refine e_if_eq (t := 58) d_3_25 (by decide) rfl (fun hc => ?_) (fun hc => ?_)
    · replace H := H.1 hc
      refine e_iinc (ls2 := [.ref 56, .int x1, .int (x2 + (-1))]) d_3_58 rfl ci_m1 rfl rfl rfl ?_
      refine e_goto (t := 13) d_3_61 (by decide) ?_
      exact H
    · replace H := H.2 hc
      refine e_aload_n d_3_28 rfl rfl ?_
      refine e_dup d_3_29 rfl rfl ?_
      refine e_getI d_3_30 oo_3 pF_0_22 (by decide) (hS.k rfl) rfl ?_
      refine e_aload_n d_3_33 rfl rfl ?_
      refine e_getR d_3_34 oo_3 pF_0_9 (by decide) (hS.k rfl) (hS.r rt_56_0) rfl ?_
      refine e_iload_n d_3_37 rfl rfl ?_
      obtain ⟨hb, H⟩ := H
      refine e_iaload (v := (mI σ 57 x2.toNatClampNeg)) d_3_38 (rdI_at (hS.k rfl) hb) rfl ?_
      refine e_ixor d_3_39 rfl ?_
      refine e_putI d_3_40 oo_3 pF_0_22 (Or.inl rfl) (hS.k rfl) rfl ?_
      generalize hm2 : uI σ 56 2 ((mI σ 56 2) ^^^ (mI σ 57 x2.toNatClampNeg)) = σ1
      have hS3 : Sg t σ1 := by rw [← hm2]; exact hS.uI
      replace H := H σ1 hm2.symm
      refine e_aload_n d_3_43 rfl rfl ?_
      refine e_dup d_3_44 rfl rfl ?_
      refine e_getI d_3_45 oo_3 pF_0_32 (by decide) (hS3.k rfl) rfl ?_
      refine e_aload_n d_3_48 rfl rfl ?_
      refine e_getR d_3_49 oo_3 pF_0_15 (by decide) (hS3.k rfl) (hS3.r rt_56_1) rfl ?_
      refine e_iload_n d_3_52 rfl rfl ?_
      obtain ⟨hb, H⟩ := H
      refine e_iaload (v := (mI σ1 58 x2.toNatClampNeg)) d_3_53 (rdI_at (hS3.k rfl) hb) rfl ?_
      refine e_ixor d_3_54 rfl ?_
      refine e_putI d_3_55 oo_3 pF_0_32 (Or.inl rfl) (hS3.k rfl) rfl ?_
      generalize hm5 : uI σ1 56 3 ((mI σ1 56 3) ^^^ (mI σ1 58 x2.toNatClampNeg)) = σ4
      have hS6 : Sg t σ4 := by rw [← hm5]; exact hS3.uI
      replace H := H σ4 hm5.symm
      refine e_iinc (ls2 := [.ref 56, .int x1, .int (x2 + (-1))]) d_3_58 rfl ci_m1 rfl rfl rfl ?_
      refine e_goto (t := 13) d_3_61 (by decide) ?_
      exact H
