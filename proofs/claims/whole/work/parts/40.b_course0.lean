/-! X1_asDrawn -/
theorem b_5_0 {t : Nat} {σ : Mm} {w : Option Value × Mm}  (hS : Sg t σ) 
    (H : ∃ (σ1 : Mm), Cl 7 [.ref 38, .int (-1), .int (-1)] (uI σ 38 0 1) (none, σ1) ∧ Sg t σ1 ∧ (w = (none, σ1))) :
    Ev 5 0 [.ref 38] [] σ w := by
  refine e_aload_n d_5_0 rfl rfl ?_
  refine e_iconst d_5_1 ci_1 rfl ?_
  refine e_putZ d_5_2 oo_5 pF_1_19 (Or.inl rfl) (hS.k rfl) (Or.inr rfl) rfl ?_
  refine e_aload_n d_5_5 rfl rfl ?_
  refine e_iconst d_5_6 ci_m1 rfl ?_
  refine e_iconst d_5_7 ci_m1 rfl ?_
  obtain ⟨σ1, hcl, hS2, H⟩ := H
  refine e_vcall (w1 := (none, σ1)) d_5_8 kc_5_8 rfl ⟨Nat.le_of_ble_eq_true rfl, xx_5.symm⟩ rfl hcl ?_
  show Ev 5 11 [.ref 38] [] σ1 w
  subst H
  exact e_vret d_5_11 rr_5
/-! X1_asItGoes -/
theorem b_6_0 {t : Nat} {σ : Mm} {w : Option Value × Mm}  (hS : Sg t σ) 
    (H : ∃ (σ1 : Mm), Cl 7 [.ref 38, .int (-1), .int (-1)] (uI σ 38 0 0) (none, σ1) ∧ Sg t σ1 ∧ (w = (none, σ1))) :
    Ev 6 0 [.ref 38] [] σ w := by
  refine e_aload_n d_6_0 rfl rfl ?_
  refine e_iconst d_6_1 ci_0 rfl ?_
  refine e_putZ d_6_2 oo_6 pF_1_19 (Or.inl rfl) (hS.k rfl) (Or.inl rfl) rfl ?_
  refine e_aload_n d_6_5 rfl rfl ?_
  refine e_iconst d_6_6 ci_m1 rfl ?_
  refine e_iconst d_6_7 ci_m1 rfl ?_
  obtain ⟨σ1, hcl, hS2, H⟩ := H
  refine e_vcall (w1 := (none, σ1)) d_6_8 kc_6_8 rfl ⟨Nat.le_of_ble_eq_true rfl, xx_6.symm⟩ rfl hcl ?_
  show Ev 6 11 [.ref 38] [] σ1 w
  subst H
  exact e_vret d_6_11 rr_6
/-! X1_otherwise -/
theorem b_7_0 {t : Nat} {σ : Mm} {w : Option Value × Mm} {x1 : Int32} {x2 : Int32} (hS : Sg t σ) 
    (H : (x1 = 0 → ((x1 = 1 → Ev 7 24 [.ref 38, .int x1, .int x2] [.int 0, .ref 38] (uI σ 38 1 0) w) ∧ (¬ (x1 = 1) → Ev 7 24 [.ref 38, .int x1, .int x2] [.int 1, .ref 38] (uI σ 38 1 0) w))) ∧ (¬ (x1 = 0) → ((x1 = 1 → Ev 7 24 [.ref 38, .int x1, .int x2] [.int 0, .ref 38] (uI σ 38 1 1) w) ∧ (¬ (x1 = 1) → Ev 7 24 [.ref 38, .int x1, .int x2] [.int 1, .ref 38] (uI σ 38 1 1) w)))) :
    Ev 7 0 [.ref 38, .int x1, .int x2] [] σ w := by
  refine e_aload_n d_7_0 rfl rfl ?_
  refine e_iload_n d_7_1 rfl rfl ?_
  refine e_if_eq (t := 9) d_7_2 (by decide) rfl (fun hc => ?_) (fun hc => ?_)
  · replace H := H.1 hc
    refine e_iconst d_7_9 ci_0 rfl ?_
    refine e_putZ d_7_10 oo_7 pF_1_27 (Or.inl rfl) (hS.k rfl) (Or.inl rfl) rfl ?_
    refine e_aload_n d_7_13 rfl rfl ?_
    refine e_iload_n d_7_14 rfl rfl ?_
    refine e_iconst d_7_15 ci_1 rfl ?_
    refine e_icmp_eq (t := 23) d_7_16 (by decide) rfl (fun hc => ?_) (fun hc => ?_)
    · replace H := H.1 hc
      refine e_iconst d_7_23 ci_0 rfl ?_
      exact H
    · replace H := H.2 hc
      refine e_iconst d_7_19 ci_1 rfl ?_
      refine e_goto (t := 24) d_7_20 (by decide) ?_
      exact H
  · replace H := H.2 hc
    refine e_iconst d_7_5 ci_1 rfl ?_
    refine e_goto (t := 10) d_7_6 (by decide) ?_
    refine e_putZ d_7_10 oo_7 pF_1_27 (Or.inl rfl) (hS.k rfl) (Or.inr rfl) rfl ?_
    refine e_aload_n d_7_13 rfl rfl ?_
    refine e_iload_n d_7_14 rfl rfl ?_
    refine e_iconst d_7_15 ci_1 rfl ?_
    refine e_icmp_eq (t := 23) d_7_16 (by decide) rfl (fun hc => ?_) (fun hc => ?_)
    · replace H := H.1 hc
      refine e_iconst d_7_23 ci_0 rfl ?_
      exact H
    · replace H := H.2 hc
      refine e_iconst d_7_19 ci_1 rfl ?_
      refine e_goto (t := 24) d_7_20 (by decide) ?_
      exact H
theorem b_7_24 {t : Nat} {σ : Mm} {w : Option Value × Mm} {x1 : Int32} {x2 : Int32} {s0 : Int32} (hS : Sg t σ) 
    (H : (s0 = 0 ∨ s0 = 1) ∧ ((x1 = 2 → ((x1 = 3 → (w = (none, uI (uI (uI σ 38 2 s0) 38 4 x2) 38 3 0))) ∧ (¬ (x1 = 3) → (w = (none, uI (uI (uI σ 38 2 s0) 38 4 x2) 38 3 1))))) ∧ (¬ (x1 = 2) → ((x1 = 3 → (w = (none, uI (uI (uI σ 38 2 s0) 38 4 (-1)) 38 3 0))) ∧ (¬ (x1 = 3) → (w = (none, uI (uI (uI σ 38 2 s0) 38 4 (-1)) 38 3 1))))))) :
    Ev 7 24 [.ref 38, .int x1, .int x2] [.int s0, .ref 38] σ w := by
  obtain ⟨hz, H⟩ := H
  refine e_putZ d_7_24 oo_7 pF_1_30 (Or.inl rfl) (hS.k rfl) hz rfl ?_
  refine e_aload_n d_7_27 rfl rfl ?_
  refine e_iload_n d_7_28 rfl rfl ?_
  refine e_iconst d_7_29 ci_2 rfl ?_
  refine e_icmp_ne (t := 37) d_7_30 (by decide) rfl (fun hc => ?_) (fun hc => ?_)
  · replace H := H.2 hc
    refine e_iconst d_7_37 ci_m1 rfl ?_
    refine e_putI d_7_38 oo_7 pF_1_33 (Or.inl rfl) (hS.uI.k rfl) rfl ?_
    refine e_aload_n d_7_41 rfl rfl ?_
    refine e_iload_n d_7_42 rfl rfl ?_
    refine e_iconst d_7_43 ci_3 rfl ?_
    refine e_icmp_eq (t := 51) d_7_44 (by decide) rfl (fun hc => ?_) (fun hc => ?_)
    · replace H := H.1 hc
      refine e_iconst d_7_51 ci_0 rfl ?_
      refine e_putZ d_7_52 oo_7 pF_1_37 (Or.inl rfl) (hS.uI.uI.k rfl) (Or.inl rfl) rfl ?_
      subst H
      exact e_vret d_7_55 rr_7
    · replace H := H.2 hc
      refine e_iconst d_7_47 ci_1 rfl ?_
      refine e_goto (t := 52) d_7_48 (by decide) ?_
      refine e_putZ d_7_52 oo_7 pF_1_37 (Or.inl rfl) (hS.uI.uI.k rfl) (Or.inr rfl) rfl ?_
      subst H
      exact e_vret d_7_55 rr_7
  · replace H := H.1 hc
    refine e_iload_n d_7_33 rfl rfl ?_
    refine e_goto (t := 38) d_7_34 (by decide) ?_
    refine e_putI d_7_38 oo_7 pF_1_33 (Or.inl rfl) (hS.uI.k rfl) rfl ?_
    refine e_aload_n d_7_41 rfl rfl ?_
    refine e_iload_n d_7_42 rfl rfl ?_
    refine e_iconst d_7_43 ci_3 rfl ?_
    refine e_icmp_eq (t := 51) d_7_44 (by decide) rfl (fun hc => ?_) (fun hc => ?_)
    · replace H := H.1 hc
      refine e_iconst d_7_51 ci_0 rfl ?_
      refine e_putZ d_7_52 oo_7 pF_1_37 (Or.inl rfl) (hS.uI.uI.k rfl) (Or.inl rfl) rfl ?_
      subst H
      exact e_vret d_7_55 rr_7
    · replace H := H.2 hc
      refine e_iconst d_7_47 ci_1 rfl ?_
      refine e_goto (t := 52) d_7_48 (by decide) ?_
      refine e_putZ d_7_52 oo_7 pF_1_37 (Or.inl rfl) (hS.uI.uI.k rfl) (Or.inr rfl) rfl ?_
      subst H
      exact e_vret d_7_55 rr_7
/-! X1_run -/
theorem b_8_0 {t : Nat} {σ : Mm} {w : Option Value × Mm} {a1 : Nat} {a2 : Nat} {x3 : Int32} (hS : Sg t σ) (h1 : a1 = 3 ∨ a1 = 15) (h2 : a2 = 26 ∨ a2 = 30 ∨ a2 = 34)
    (H : Ev 8 3 [.ref 38, .ref a1, .ref a2, .int x3, .int 0, .retAddr 0] [] σ w) :
    Ev 8 0 [.ref 38, .ref a1, .ref a2, .int x3, .retAddr 0, .retAddr 0] [] σ w := by
  refine e_iconst d_8_0 ci_0 rfl ?_
  refine e_istore (ls2 := [.ref 38, .ref a1, .ref a2, .int x3, .int 0, .retAddr 0]) d_8_1 rfl rfl rfl ?_
  exact H
theorem b_8_3 {t : Nat} {σ : Mm} {w : Option Value × Mm} {x3 : Int32} {x4 : Int32} {z5 : Value} {a1 : Nat} {a2 : Nat} (hS : Sg t σ) (h1 : a1 = 3 ∨ a1 = 15) (h2 : a2 = 26 ∨ a2 = 30 ∨ a2 = 34)
    (H : (x4 < x3 → (((mI σ 38 3) = 0 → Ev 8 34 [.ref 38, .ref a1, .ref a2, .int x3, .int x4, .int 0] [] σ w) ∧ (¬ ((mI σ 38 3) = 0) → (∃ (v3 : Int32) (σ1 : Mm), Cl 94 [.ref a1, .int (mI σ a2 0)] σ (some (.int v3), σ1) ∧ Sg t σ1 ∧ ((v3 = 0 → Ev 8 34 [.ref 38, .ref a1, .ref a2, .int x3, .int x4, .int 0] [] σ1 w) ∧ (¬ (v3 = 0) → (∃ (σ4 : Mm), Cl 24 [.ref a2] σ1 (none, σ4) ∧ Sg t σ4 ∧ Ev 8 34 [.ref 38, .ref a1, .ref a2, .int x3, .int x4, .int 0] [] σ4 w))))))) ∧ (¬ (x4 < x3) → (w = (none, σ)))) :
    Ev 8 3 [.ref 38, .ref a1, .ref a2, .int x3, .int x4, z5] [] σ w := by
  refine e_iload d_8_3 rfl rfl ?_
  refine e_iload_n d_8_5 rfl rfl ?_
  refine e_icmp_ge (t := 144) d_8_6 (by decide) rfl (fun hc => ?_) (fun hc => ?_)
  · replace H := H.2 hc
    subst H
    exact e_vret d_8_144 rr_8
  · replace H := H.1 hc
    refine e_aload_n d_8_9 rfl rfl ?_
    refine e_getZ d_8_10 oo_8 pF_1_37 (by decide) (hS.k rfl) rfl ?_
    refine e_if_eq (t := 31) d_8_13 (by decide) rfl (fun hc => ?_) (fun hc => ?_)
    · replace H := H.1 hc
      refine e_iconst d_8_31 ci_0 rfl ?_
      refine e_istore (ls2 := [.ref 38, .ref a1, .ref a2, .int x3, .int x4, .int 0]) d_8_32 rfl rfl rfl ?_
      exact H
    · replace H := H.2 hc
      refine e_aload_n d_8_16 rfl rfl ?_
      refine e_aload_n d_8_17 rfl rfl ?_
      refine e_getI d_8_18 oo_8 pF_1_40 (by decide) (hS.k (kH h2)) rfl ?_
      obtain ⟨v3, σ1, hcl, hS2, H⟩ := H
      refine e_vcall (w1 := (some (.int v3), σ1)) d_8_21 kc_8_21 rfl ⟨Nat.le_of_ble_eq_true rfl, xx_8.symm⟩ rfl hcl ?_
      show Ev 8 24 [.ref 38, .ref a1, .ref a2, .int x3, .int x4, z5] [.int v3] σ1 w
      refine e_if_eq (t := 31) d_8_24 (by decide) rfl (fun hc => ?_) (fun hc => ?_)
      · replace H := H.1 hc
        refine e_iconst d_8_31 ci_0 rfl ?_
        refine e_istore (ls2 := [.ref 38, .ref a1, .ref a2, .int x3, .int x4, .int 0]) d_8_32 rfl rfl rfl ?_
        exact H
      · replace H := H.2 hc
        refine e_aload_n d_8_27 rfl rfl ?_
        obtain ⟨σ4, hcl, hS5, H⟩ := H
        refine e_vcall (w1 := (none, σ4)) d_8_28 kc_8_28 rfl ⟨Nat.le_of_ble_eq_true rfl, xx_8.symm⟩ rfl hcl ?_
        show Ev 8 31 [.ref 38, .ref a1, .ref a2, .int x3, .int x4, z5] [] σ4 w
        refine e_iconst d_8_31 ci_0 rfl ?_
        refine e_istore (ls2 := [.ref 38, .ref a1, .ref a2, .int x3, .int x4, .int 0]) d_8_32 rfl rfl rfl ?_
        exact H
theorem b_8_34 {t : Nat} {σ : Mm} {w : Option Value × Mm} {x3 : Int32} {x4 : Int32} {x5 : Int32} {a1 : Nat} {a2 : Nat} (hS : Sg t σ) (h1 : a1 = 3 ∨ a1 = 15) (h2 : a2 = 26 ∨ a2 = 30 ∨ a2 = 34)
    (H : (x5 < (mI σ a1 3) → (inb x5 14 = true ∧ (((mI σ (a1 + 6) x5.toNatClampNeg) = (mI σ a2 0) → (inb x5 14 = true ∧ (((mI σ (a1 + 5) x5.toNatClampNeg) = (mI σ 38 4) → Ev 8 34 [.ref 38, .ref a1, .ref a2, .int x3, .int x4, .int (x5 + 1)] [] σ w) ∧ (¬ ((mI σ (a1 + 5) x5.toNatClampNeg) = (mI σ 38 4)) → (inb x5 14 = true ∧ (∃ (σ1 : Mm), Cl 9 [.ref 38, .ref a1, .ref a2, .int (mI σ (a1 + 5) x5.toNatClampNeg)] σ (none, σ1) ∧ Sg t σ1 ∧ Ev 8 34 [.ref 38, .ref a1, .ref a2, .int x3, .int x4, .int (x5 + 1)] [] σ1 w)))))) ∧ (¬ ((mI σ (a1 + 6) x5.toNatClampNeg) = (mI σ a2 0)) → Ev 8 34 [.ref 38, .ref a1, .ref a2, .int x3, .int x4, .int (x5 + 1)] [] σ w)))) ∧ (¬ (x5 < (mI σ a1 3)) → Ev 8 93 [.ref 38, .ref a1, .ref a2, .int x3, .int x4, .int 0] [] σ w)) :
    Ev 8 34 [.ref 38, .ref a1, .ref a2, .int x3, .int x4, .int x5] [] σ w := by
  refine e_iload d_8_34 rfl rfl ?_
  refine e_aload_n d_8_36 rfl rfl ?_
  refine e_getI d_8_37 oo_8 pF_1_54 (by decide) (hS.k (kT h1)) rfl ?_
  refine e_icmp_ge (t := 90) d_8_40 (by decide) rfl (fun hc => ?_) (fun hc => ?_)
  · replace H := H.2 hc
    refine e_iconst d_8_90 ci_0 rfl ?_
    refine e_istore (ls2 := [.ref 38, .ref a1, .ref a2, .int x3, .int x4, .int 0]) d_8_91 rfl rfl rfl ?_
    exact H
  · replace H := H.1 hc
    refine e_aload_n d_8_43 rfl rfl ?_
    refine e_getR d_8_44 oo_8 pF_1_57 (by decide) (hS.k (kT h1)) (hS.rT13 h1) rfl ?_
    refine e_iload d_8_47 rfl rfl ?_
    obtain ⟨hb, H⟩ := H
    refine e_iaload (v := (mI σ (a1 + 6) x5.toNatClampNeg)) d_8_49 (rdI_at (hS.k (kT6 h1)) hb) rfl ?_
    refine e_aload_n d_8_50 rfl rfl ?_
    refine e_getI d_8_51 oo_8 pF_1_40 (by decide) (hS.k (kH h2)) rfl ?_
    refine e_icmp_ne (t := 84) d_8_54 (by decide) rfl (fun hc => ?_) (fun hc => ?_)
    · replace H := H.2 hc
      refine e_iinc (ls2 := [.ref 38, .ref a1, .ref a2, .int x3, .int x4, .int (x5 + 1)]) d_8_84 rfl ci_1 rfl rfl rfl ?_
      refine e_goto (t := 34) d_8_87 (by decide) ?_
      exact H
    · replace H := H.1 hc
      refine e_aload_n d_8_57 rfl rfl ?_
      refine e_getR d_8_58 oo_8 pF_1_60 (by decide) (hS.k (kT h1)) (hS.rT12 h1) rfl ?_
      refine e_iload d_8_61 rfl rfl ?_
      obtain ⟨hb, H⟩ := H
      refine e_iaload (v := (mI σ (a1 + 5) x5.toNatClampNeg)) d_8_63 (rdI_at (hS.k (kT5 h1)) hb) rfl ?_
      refine e_aload_n d_8_64 rfl rfl ?_
      refine e_getI d_8_65 oo_8 pF_1_33 (by decide) (hS.k rfl) rfl ?_
      refine e_icmp_eq (t := 84) d_8_68 (by decide) rfl (fun hc => ?_) (fun hc => ?_)
      · replace H := H.1 hc
        refine e_iinc (ls2 := [.ref 38, .ref a1, .ref a2, .int x3, .int x4, .int (x5 + 1)]) d_8_84 rfl ci_1 rfl rfl rfl ?_
        refine e_goto (t := 34) d_8_87 (by decide) ?_
        exact H
      · replace H := H.2 hc
        refine e_aload_n d_8_71 rfl rfl ?_
        refine e_aload_n d_8_72 rfl rfl ?_
        refine e_aload_n d_8_73 rfl rfl ?_
        refine e_aload_n d_8_74 rfl rfl ?_
        refine e_getR d_8_75 oo_8 pF_1_60 (by decide) (hS.k (kT h1)) (hS.rT12 h1) rfl ?_
        refine e_iload d_8_78 rfl rfl ?_
        obtain ⟨hb, H⟩ := H
        refine e_iaload (v := (mI σ (a1 + 5) x5.toNatClampNeg)) d_8_80 (rdI_at (hS.k (kT5 h1)) hb) rfl ?_
        obtain ⟨σ1, hcl, hS2, H⟩ := H
        refine e_vcall (w1 := (none, σ1)) d_8_81 kc_8_81 rfl ⟨Nat.le_of_ble_eq_true rfl, xx_8.symm⟩ rfl hcl ?_
        show Ev 8 84 [.ref 38, .ref a1, .ref a2, .int x3, .int x4, .int x5] [] σ1 w
        refine e_iinc (ls2 := [.ref 38, .ref a1, .ref a2, .int x3, .int x4, .int (x5 + 1)]) d_8_84 rfl ci_1 rfl rfl rfl ?_
        refine e_goto (t := 34) d_8_87 (by decide) ?_
        exact H
theorem b_8_93 {t : Nat} {σ : Mm} {w : Option Value × Mm} {x3 : Int32} {x4 : Int32} {x5 : Int32} {a1 : Nat} {a2 : Nat} (hS : Sg t σ) (h1 : a1 = 3 ∨ a1 = 15) (h2 : a2 = 26 ∨ a2 = 30 ∨ a2 = 34)
    (H : (x5 < (mI σ a1 0) → (∃ (v3 : Int32) (σ1 : Mm), Cl 20 [.ref a2] σ (some (.int v3), σ1) ∧ Sg t σ1 ∧ ((((v3 >>> (x5 &&& 31)) &&& 1) = 0 → Ev 8 93 [.ref 38, .ref a1, .ref a2, .int x3, .int x4, .int (x5 + 1)] [] σ1 w) ∧ (¬ (((v3 >>> (x5 &&& 31)) &&& 1) = 0) → (∃ (σ4 : Mm), Cl 10 [.ref 38, .ref a1, .ref a2, .int x5] σ1 (none, σ4) ∧ Sg t σ4 ∧ Ev 8 93 [.ref 38, .ref a1, .ref a2, .int x3, .int x4, .int (x5 + 1)] [] σ4 w))))) ∧ (¬ (x5 < (mI σ a1 0)) → Ev 8 3 [.ref 38, .ref a1, .ref a2, .int x3, .int (x4 + 1), .int x5] [] (uI σ a2 0 ((mI σ a2 0) + 1)) w)) :
    Ev 8 93 [.ref 38, .ref a1, .ref a2, .int x3, .int x4, .int x5] [] σ w := by
  refine e_iload d_8_93 rfl rfl ?_
  refine e_aload_n d_8_95 rfl rfl ?_
  refine e_getI d_8_96 oo_8 pF_1_67 (by decide) (hS.k (kT h1)) rfl ?_
  refine e_icmp_ge (t := 128) d_8_99 (by decide) rfl (fun hc => ?_) (fun hc => ?_)
  · replace H := H.2 hc
    refine e_aload_n d_8_128 rfl rfl ?_
    refine e_dup d_8_129 rfl rfl ?_
    refine e_getI d_8_130 oo_8 pF_1_40 (by decide) (hS.k (kH h2)) rfl ?_
    refine e_iconst d_8_133 ci_1 rfl ?_
    refine e_iadd d_8_134 rfl ?_
    refine e_putI d_8_135 oo_8 pF_1_40 (Or.inl rfl) (hS.k (kH h2)) rfl ?_
    refine e_iinc (ls2 := [.ref 38, .ref a1, .ref a2, .int x3, .int (x4 + 1), .int x5]) d_8_138 rfl ci_1 rfl rfl rfl ?_
    refine e_goto (t := 3) d_8_141 (by decide) ?_
    exact H
  · replace H := H.1 hc
    refine e_aload_n d_8_102 rfl rfl ?_
    obtain ⟨v3, σ1, hcl, hS2, H⟩ := H
    refine e_vcall (w1 := (some (.int v3), σ1)) d_8_103 kc_8_103 rfl ⟨Nat.le_of_ble_eq_true rfl, xx_8.symm⟩ rfl hcl ?_
    show Ev 8 106 [.ref 38, .ref a1, .ref a2, .int x3, .int x4, .int x5] [.int v3] σ1 w
    refine e_iload d_8_106 rfl rfl ?_
    refine e_ishr d_8_108 rfl ?_
    refine e_iconst d_8_109 ci_1 rfl ?_
    refine e_iand d_8_110 rfl ?_
    refine e_if_eq (t := 122) d_8_111 (by decide) rfl (fun hc => ?_) (fun hc => ?_)
    · replace H := H.1 hc
      refine e_iinc (ls2 := [.ref 38, .ref a1, .ref a2, .int x3, .int x4, .int (x5 + 1)]) d_8_122 rfl ci_1 rfl rfl rfl ?_
      refine e_goto (t := 93) d_8_125 (by decide) ?_
      exact H
    · replace H := H.2 hc
      refine e_aload_n d_8_114 rfl rfl ?_
      refine e_aload_n d_8_115 rfl rfl ?_
      refine e_aload_n d_8_116 rfl rfl ?_
      refine e_iload d_8_117 rfl rfl ?_
      obtain ⟨σ4, hcl, hS5, H⟩ := H
      refine e_vcall (w1 := (none, σ4)) d_8_119 kc_8_119 rfl ⟨Nat.le_of_ble_eq_true rfl, xx_8.symm⟩ rfl hcl ?_
      show Ev 8 122 [.ref 38, .ref a1, .ref a2, .int x3, .int x4, .int x5] [] σ4 w
      refine e_iinc (ls2 := [.ref 38, .ref a1, .ref a2, .int x3, .int x4, .int (x5 + 1)]) d_8_122 rfl ci_1 rfl rfl rfl ?_
      refine e_goto (t := 93) d_8_125 (by decide) ?_
      exact H
/-! X1_rung -/
theorem b_9_0 {t : Nat} {σ : Mm} {w : Option Value × Mm} {a1 : Nat} {a2 : Nat} {x3 : Int32} (hS : Sg t σ) (h1 : a1 = 3 ∨ a1 = 15) (h2 : a2 = 26 ∨ a2 = 30 ∨ a2 = 34)
    (H : (x3 < 0 → (w = (none, σ))) ∧ (¬ (x3 < 0) → ((x3 < (mI σ a1 1) → (((((mI σ a2 3) >>> (x3 &&& 31)) &&& 1) = 0 → (∃ (v3 : Int64) (σ1 : Mm), Cl 11 [.ref 38, .ref a1, .ref a2, .int 0, .int x3] σ (some (.long v3), σ1) ∧ Sg t σ1 ∧ ((v3 = (-9223372036854775808) → (inb x3 10 = true ∧ Ev 9 76 [.ref 38, .ref a1, .ref a2, .int x3, .long v3, .float 0, .retAddr 0, .retAddr 0] [.long (Int32.toInt64 (mI σ1 (a1 + 3) x3.toNatClampNeg))] σ1 w)) ∧ (¬ (v3 = (-9223372036854775808)) → (∃ (v6 : Int64) (σ4 : Mm), Cl 281 [.long 999, .long v3] σ1 (some (.long v6), σ4) ∧ Sg t σ4 ∧ (∃ (v9 : Int64) (σ7 : Mm), Cl 279 [.long 0, .long v6] σ4 (some (.long v9), σ7) ∧ Sg t σ7 ∧ Ev 9 76 [.ref 38, .ref a1, .ref a2, .int x3, .long v3, .float 0, .retAddr 0, .retAddr 0] [.long v9] σ7 w)))))) ∧ (¬ ((((mI σ a2 3) >>> (x3 &&& 31)) &&& 1) = 0) → (w = (none, uI σ a2 5 ((mI σ a2 5) + 1)))))) ∧ (¬ (x3 < (mI σ a1 1)) → (w = (none, σ)))))) :
    Ev 9 0 [.ref 38, .ref a1, .ref a2, .int x3, .retAddr 0, .retAddr 0, .retAddr 0, .retAddr 0] [] σ w := by
  refine e_iload_n d_9_0 rfl rfl ?_
  refine e_if_lt (t := 12) d_9_1 (by decide) rfl (fun hc => ?_) (fun hc => ?_)
  · replace H := H.1 hc
    subst H
    exact e_vret d_9_12 rr_9
  · replace H := H.2 hc
    refine e_iload_n d_9_4 rfl rfl ?_
    refine e_aload_n d_9_5 rfl rfl ?_
    refine e_getI d_9_6 oo_9 pF_1_77 (by decide) (hS.k (kT h1)) rfl ?_
    refine e_icmp_lt (t := 13) d_9_9 (by decide) rfl (fun hc => ?_) (fun hc => ?_)
    · replace H := H.1 hc
      refine e_aload_n d_9_13 rfl rfl ?_
      refine e_getI d_9_14 oo_9 pF_1_80 (by decide) (hS.k (kH h2)) rfl ?_
      refine e_iload_n d_9_17 rfl rfl ?_
      refine e_ishr d_9_18 rfl ?_
      refine e_iconst d_9_19 ci_1 rfl ?_
      refine e_iand d_9_20 rfl ?_
      refine e_if_eq (t := 35) d_9_21 (by decide) rfl (fun hc => ?_) (fun hc => ?_)
      · replace H := H.1 hc
        refine e_aload_n d_9_35 rfl rfl ?_
        refine e_aload_n d_9_36 rfl rfl ?_
        refine e_aload_n d_9_37 rfl rfl ?_
        refine e_iconst d_9_38 ci_0 rfl ?_
        refine e_iload_n d_9_39 rfl rfl ?_
        obtain ⟨v3, σ1, hcl, hS2, H⟩ := H
        refine e_vcall (w1 := (some (.long v3), σ1)) d_9_40 kc_9_40 rfl ⟨Nat.le_of_ble_eq_true rfl, xx_9.symm⟩ rfl hcl ?_
        show Ev 9 43 [.ref 38, .ref a1, .ref a2, .int x3, .retAddr 0, .retAddr 0, .retAddr 0, .retAddr 0] [.long v3] σ1 w
        refine e_lstore (ls2 := [.ref 38, .ref a1, .ref a2, .int x3, .long v3, .float 0, .retAddr 0, .retAddr 0]) d_9_43 rfl rfl rfl ?_
        refine e_lload d_9_45 rfl rfl ?_
        refine e_ldc2 d_9_47 oo_9 pL_1_90 rfl ?_
        refine e_lc_ne (t := 64) d_9_50 d_9_51 rfl (by decide) rfl (fun hc => ?_) (fun hc => ?_)
        · replace H := H.2 hc
          refine e_lconst d_9_64 cl_0 rfl ?_
          refine e_ldc2 d_9_65 oo_9 pL_1_95 rfl ?_
          refine e_lload d_9_68 rfl rfl ?_
          obtain ⟨v6, σ4, hcl, hS5, H⟩ := H
          refine e_scall (w1 := (some (.long v6), σ4)) d_9_70 kc_9_70 rfl ⟨Nat.le_of_ble_eq_true rfl, xx_9.symm⟩ rfl hcl ?_
          show Ev 9 73 [.ref 38, .ref a1, .ref a2, .int x3, .long v3, .float 0, .retAddr 0, .retAddr 0] [.long v6, .long 0] σ4 w
          obtain ⟨v9, σ7, hcl, hS8, H⟩ := H
          refine e_scall (w1 := (some (.long v9), σ7)) d_9_73 kc_9_73 rfl ⟨Nat.le_of_ble_eq_true rfl, xx_9.symm⟩ rfl hcl ?_
          show Ev 9 76 [.ref 38, .ref a1, .ref a2, .int x3, .long v3, .float 0, .retAddr 0, .retAddr 0] [.long v9] σ7 w
          exact H
        · replace H := H.1 hc
          refine e_aload_n d_9_54 rfl rfl ?_
          refine e_getR d_9_55 oo_9 pF_1_92 (by decide) (hS2.k (kT h1)) (hS2.rT10 h1) rfl ?_
          refine e_iload_n d_9_58 rfl rfl ?_
          obtain ⟨hb, H⟩ := H
          refine e_iaload (v := (mI σ1 (a1 + 3) x3.toNatClampNeg)) d_9_59 (rdI_at (hS2.k (kT3 h1)) hb) rfl ?_
          refine e_i2l d_9_60 rfl ?_
          refine e_goto (t := 76) d_9_61 (by decide) ?_
          exact H
      · replace H := H.2 hc
        refine e_aload_n d_9_24 rfl rfl ?_
        refine e_dup d_9_25 rfl rfl ?_
        refine e_getI d_9_26 oo_9 pF_1_83 (by decide) (hS.k (kH h2)) rfl ?_
        refine e_iconst d_9_29 ci_1 rfl ?_
        refine e_iadd d_9_30 rfl ?_
        refine e_putI d_9_31 oo_9 pF_1_83 (Or.inl rfl) (hS.k (kH h2)) rfl ?_
        subst H
        exact e_vret d_9_34 rr_9
    · replace H := H.2 hc
      subst H
      exact e_vret d_9_12 rr_9
theorem b_9_76 {t : Nat} {σ : Mm} {w : Option Value × Mm} {x3 : Int32} {y4 : Int64} {z6 : Value} {z7 : Value} {s0 : Int64} {a1 : Nat} {a2 : Nat} (hS : Sg t σ) (h1 : a1 = 3 ∨ a1 = 15) (h2 : a2 = 26 ∨ a2 = 30 ∨ a2 = 34)
    (H : inb x3 10 = true ∧ (∀ (σ1 : Mm), σ1 = uI σ a2 1 ((mI σ a2 1) ^^^ (mI σ (a2 + 2) x3.toNatClampNeg)) → (∃ (v6 : Int32) (σ4 : Mm), Cl 280 [.int 99999, .int ((mI σ1 a2 4) + (Int64.toInt32 s0))] σ1 (some (.int v6), σ4) ∧ Sg t σ4 ∧ (inb x3 10 = true ∧ (∃ (v9 : Int32) (σ7 : Mm), Cl 280 [.int 999, .int ((mI (uI σ4 a2 4 v6) (a2 + 3) x3.toNatClampNeg) + 1)] (uI σ4 a2 4 v6) (some (.int v9), σ7) ∧ Sg t σ7 ∧ (inb x3 10 = true ∧ (∃ (v12 : Int64) (σ10 : Mm), Cl 11 [.ref 38, .ref a1, .ref a2, .int 1, .int x3] (uI σ7 (a2 + 3) x3.toNatClampNeg v9) (some (.long v12), σ10) ∧ Sg t σ10 ∧ (((mI σ10 38 2) = 0 → (w = (none, σ10))) ∧ (¬ ((mI σ10 38 2) = 0) → ((v12 = 0 → (w = (none, σ10))) ∧ (¬ (v12 = 0) → Ev 9 154 [.ref 38, .ref a1, .ref a2, .int x3, .long s0, .float 0, .long v12, .float 0] [] σ10 w))))))))))) :
    Ev 9 76 [.ref 38, .ref a1, .ref a2, .int x3, .long y4, .float 0, z6, z7] [.long s0] σ w := by
  refine e_lstore (ls2 := [.ref 38, .ref a1, .ref a2, .int x3, .long s0, .float 0, z6, z7]) d_9_76 rfl rfl rfl ?_
  refine e_aload_n d_9_78 rfl rfl ?_
  refine e_dup d_9_79 rfl rfl ?_
  refine e_getI d_9_80 oo_9 pF_1_106 (by decide) (hS.k (kH h2)) rfl ?_
  refine e_aload_n d_9_83 rfl rfl ?_
  refine e_getR d_9_84 oo_9 pF_1_109 (by decide) (hS.k (kH h2)) (hS.rH8 h2) rfl ?_
  refine e_iload_n d_9_87 rfl rfl ?_
  obtain ⟨hb, H⟩ := H
  refine e_iaload (v := (mI σ (a2 + 2) x3.toNatClampNeg)) d_9_88 (rdI_at (hS.k (kH2 h2)) hb) rfl ?_
  refine e_ixor d_9_89 rfl ?_
  refine e_putI d_9_90 oo_9 pF_1_106 (Or.inl rfl) (hS.k (kH h2)) rfl ?_
  generalize hm2 : uI σ a2 1 ((mI σ a2 1) ^^^ (mI σ (a2 + 2) x3.toNatClampNeg)) = σ1
  have hS3 : Sg t σ1 := by rw [← hm2]; exact hS.uI
  replace H := H σ1 hm2.symm
  refine e_aload_n d_9_93 rfl rfl ?_
  refine e_ldc d_9_94 oo_9 pI_1_112 rfl ?_
  refine e_aload_n d_9_96 rfl rfl ?_
  refine e_getI d_9_97 oo_9 pF_1_113 (by decide) (hS3.k (kH h2)) rfl ?_
  refine e_lload d_9_100 rfl rfl ?_
  refine e_l2i d_9_102 rfl ?_
  refine e_iadd d_9_103 rfl ?_
  obtain ⟨v6, σ4, hcl, hS5, H⟩ := H
  refine e_scall (w1 := (some (.int v6), σ4)) d_9_104 kc_9_104 rfl ⟨Nat.le_of_ble_eq_true rfl, xx_9.symm⟩ rfl hcl ?_
  show Ev 9 107 [.ref 38, .ref a1, .ref a2, .int x3, .long s0, .float 0, z6, z7] [.int v6, .ref a2] σ4 w
  refine e_putI d_9_107 oo_9 pF_1_113 (Or.inl rfl) (hS5.k (kH h2)) rfl ?_
  refine e_aload_n d_9_110 rfl rfl ?_
  refine e_getR d_9_111 oo_9 pF_1_119 (by decide) (hS5.uI.k (kH h2)) (hS5.uI.rH9 h2) rfl ?_
  refine e_iload_n d_9_114 rfl rfl ?_
  refine e_sipush d_9_115 cs_999 rfl ?_
  refine e_aload_n d_9_118 rfl rfl ?_
  refine e_getR d_9_119 oo_9 pF_1_119 (by decide) (hS5.uI.k (kH h2)) (hS5.uI.rH9 h2) rfl ?_
  refine e_iload_n d_9_122 rfl rfl ?_
  obtain ⟨hb, H⟩ := H
  refine e_iaload (v := (mI (uI σ4 a2 4 v6) (a2 + 3) x3.toNatClampNeg)) d_9_123 (rdI_at (hS5.uI.k (kH3 h2)) hb) rfl ?_
  refine e_iconst d_9_124 ci_1 rfl ?_
  refine e_iadd d_9_125 rfl ?_
  obtain ⟨v9, σ7, hcl, hS8, H⟩ := H
  refine e_scall (w1 := (some (.int v9), σ7)) d_9_126 kc_9_126 rfl ⟨Nat.le_of_ble_eq_true rfl, xx_9.symm⟩ rfl hcl ?_
  show Ev 9 129 [.ref 38, .ref a1, .ref a2, .int x3, .long s0, .float 0, z6, z7] [.int v9, .int x3, .ref (a2 + 3)] σ7 w
  obtain ⟨hb, H⟩ := H
  refine e_iastore d_9_129 (okI_at (hS8.k (kH3 h2)) hb) rfl ?_
  refine e_aload_n d_9_130 rfl rfl ?_
  refine e_aload_n d_9_131 rfl rfl ?_
  refine e_aload_n d_9_132 rfl rfl ?_
  refine e_iconst d_9_133 ci_1 rfl ?_
  refine e_iload_n d_9_134 rfl rfl ?_
  obtain ⟨v12, σ10, hcl, hS11, H⟩ := H
  refine e_vcall (w1 := (some (.long v12), σ10)) d_9_135 kc_9_135 rfl ⟨Nat.le_of_ble_eq_true rfl, xx_9.symm⟩ rfl hcl ?_
  show Ev 9 138 [.ref 38, .ref a1, .ref a2, .int x3, .long s0, .float 0, z6, z7] [.long v12] σ10 w
  refine e_lstore (ls2 := [.ref 38, .ref a1, .ref a2, .int x3, .long s0, .float 0, .long v12, .float 0]) d_9_138 rfl rfl rfl ?_
  refine e_aload_n d_9_140 rfl rfl ?_
  refine e_getZ d_9_141 oo_9 pF_1_30 (by decide) (hS11.k rfl) rfl ?_
  refine e_if_eq (t := 175) d_9_144 (by decide) rfl (fun hc => ?_) (fun hc => ?_)
  · replace H := H.1 hc
    subst H
    exact e_vret d_9_175 rr_9
  · replace H := H.2 hc
    refine e_lload d_9_147 rfl rfl ?_
    refine e_lconst d_9_149 cl_0 rfl ?_
    refine e_lc_eq (t := 175) d_9_150 d_9_151 rfl (by decide) rfl (fun hc => ?_) (fun hc => ?_)
    · replace H := H.1 hc
      subst H
      exact e_vret d_9_175 rr_9
    · replace H := H.2 hc
      exact H
theorem b_9_154 {t : Nat} {σ : Mm} {w : Option Value × Mm} {x3 : Int32} {y4 : Int64} {y6 : Int64} {a1 : Nat} {a2 : Nat} (hS : Sg t σ) (h1 : a1 = 3 ∨ a1 = 15) (h2 : a2 = 26 ∨ a2 = 30 ∨ a2 = 34)
    (H : (y6 = (-9223372036854775808) → (w = (none, σ))) ∧ (¬ (y6 = (-9223372036854775808)) → (∀ (σ1 : Mm), σ1 = uI σ a2 3 ((mI σ a2 3) ||| ((1 : Int32) <<< (x3 &&& 31))) → (w = (none, σ1))))) :
    Ev 9 154 [.ref 38, .ref a1, .ref a2, .int x3, .long y4, .float 0, .long y6, .float 0] [] σ w := by
  refine e_lload d_9_154 rfl rfl ?_
  refine e_ldc2 d_9_156 oo_9 pL_1_90 rfl ?_
  refine e_lc_eq (t := 175) d_9_159 d_9_160 rfl (by decide) rfl (fun hc => ?_) (fun hc => ?_)
  · replace H := H.1 hc
    subst H
    exact e_vret d_9_175 rr_9
  · replace H := H.2 hc
    refine e_aload_n d_9_163 rfl rfl ?_
    refine e_dup d_9_164 rfl rfl ?_
    refine e_getI d_9_165 oo_9 pF_1_80 (by decide) (hS.k (kH h2)) rfl ?_
    refine e_iconst d_9_168 ci_1 rfl ?_
    refine e_iload_n d_9_169 rfl rfl ?_
    refine e_ishl d_9_170 rfl ?_
    refine e_ior d_9_171 rfl ?_
    refine e_putI d_9_172 oo_9 pF_1_80 (Or.inl rfl) (hS.k (kH h2)) rfl ?_
    generalize hm2 : uI σ a2 3 ((mI σ a2 3) ||| ((1 : Int32) <<< (x3 &&& 31))) = σ1
    have hS3 : Sg t σ1 := by rw [← hm2]; exact hS.uI
    replace H := H σ1 hm2.symm
    subst H
    exact e_vret d_9_175 rr_9
/-! X1_age -/
theorem b_10_0 {t : Nat} {σ : Mm} {w : Option Value × Mm} {a1 : Nat} {a2 : Nat} {x3 : Int32} (hS : Sg t σ) (h1 : a1 = 3 ∨ a1 = 15) (h2 : a2 = 26 ∨ a2 = 30 ∨ a2 = 34)
    (H : inb x3 14 = true ∧ (∃ (v3 : Int32) (σ1 : Mm), Cl 280 [.int 999, .int ((mI σ (a2 + 1) x3.toNatClampNeg) + 1)] σ (some (.int v3), σ1) ∧ Sg t σ1 ∧ (inb x3 14 = true ∧ (∃ (v6 : Int64) (σ4 : Mm), Cl 11 [.ref 38, .ref a1, .ref a2, .int 2, .int x3] (uI σ1 (a2 + 1) x3.toNatClampNeg v3) (some (.long v6), σ4) ∧ Sg t σ4 ∧ ((v6 = (-9223372036854775808) → (∃ (v15 : Int32) (σ13 : Mm), Cl 92 [.ref a1] σ4 (some (.int v15), σ13) ∧ Sg t σ13 ∧ Ev 10 59 [.ref 38, .ref a1, .ref a2, .int x3, .long v6, .float 0, .retAddr 0, .retAddr 0] [.int v15] σ13 w)) ∧ (¬ (v6 = (-9223372036854775808)) → (∃ (v9 : Int64) (σ7 : Mm), Cl 281 [.long 100, .long v6] σ4 (some (.long v9), σ7) ∧ Sg t σ7 ∧ (∃ (v12 : Int64) (σ10 : Mm), Cl 279 [.long 0, .long v9] σ7 (some (.long v12), σ10) ∧ Sg t σ10 ∧ Ev 10 59 [.ref 38, .ref a1, .ref a2, .int x3, .long v6, .float 0, .retAddr 0, .retAddr 0] [.int (Int64.toInt32 v12)] σ10 w)))))))) :
    Ev 10 0 [.ref 38, .ref a1, .ref a2, .int x3, .retAddr 0, .retAddr 0, .retAddr 0, .retAddr 0] [] σ w := by
  refine e_aload_n d_10_0 rfl rfl ?_
  refine e_getR d_10_1 oo_10 pF_1_122 (by decide) (hS.k (kH h2)) (hS.rH7 h2) rfl ?_
  refine e_iload_n d_10_4 rfl rfl ?_
  refine e_sipush d_10_5 cs_999 rfl ?_
  refine e_aload_n d_10_8 rfl rfl ?_
  refine e_getR d_10_9 oo_10 pF_1_122 (by decide) (hS.k (kH h2)) (hS.rH7 h2) rfl ?_
  refine e_iload_n d_10_12 rfl rfl ?_
  obtain ⟨hb, H⟩ := H
  refine e_iaload (v := (mI σ (a2 + 1) x3.toNatClampNeg)) d_10_13 (rdI_at (hS.k (kH1 h2)) hb) rfl ?_
  refine e_iconst d_10_14 ci_1 rfl ?_
  refine e_iadd d_10_15 rfl ?_
  obtain ⟨v3, σ1, hcl, hS2, H⟩ := H
  refine e_scall (w1 := (some (.int v3), σ1)) d_10_16 kc_10_16 rfl ⟨Nat.le_of_ble_eq_true rfl, xx_10.symm⟩ rfl hcl ?_
  show Ev 10 19 [.ref 38, .ref a1, .ref a2, .int x3, .retAddr 0, .retAddr 0, .retAddr 0, .retAddr 0] [.int v3, .int x3, .ref (a2 + 1)] σ1 w
  obtain ⟨hb, H⟩ := H
  refine e_iastore d_10_19 (okI_at (hS2.k (kH1 h2)) hb) rfl ?_
  refine e_aload_n d_10_20 rfl rfl ?_
  refine e_aload_n d_10_21 rfl rfl ?_
  refine e_aload_n d_10_22 rfl rfl ?_
  refine e_iconst d_10_23 ci_2 rfl ?_
  refine e_iload_n d_10_24 rfl rfl ?_
  obtain ⟨v6, σ4, hcl, hS5, H⟩ := H
  refine e_vcall (w1 := (some (.long v6), σ4)) d_10_25 kc_10_25 rfl ⟨Nat.le_of_ble_eq_true rfl, xx_10.symm⟩ rfl hcl ?_
  show Ev 10 28 [.ref 38, .ref a1, .ref a2, .int x3, .retAddr 0, .retAddr 0, .retAddr 0, .retAddr 0] [.long v6] σ4 w
  refine e_lstore (ls2 := [.ref 38, .ref a1, .ref a2, .int x3, .long v6, .float 0, .retAddr 0, .retAddr 0]) d_10_28 rfl rfl rfl ?_
  refine e_lload d_10_30 rfl rfl ?_
  refine e_ldc2 d_10_32 oo_10 pL_1_90 rfl ?_
  refine e_lc_ne (t := 46) d_10_35 d_10_36 rfl (by decide) rfl (fun hc => ?_) (fun hc => ?_)
  · replace H := H.2 hc
    refine e_lconst d_10_46 cl_0 rfl ?_
    refine e_ldc2 d_10_47 oo_10 pL_1_128 rfl ?_
    refine e_lload d_10_50 rfl rfl ?_
    obtain ⟨v9, σ7, hcl, hS8, H⟩ := H
    refine e_scall (w1 := (some (.long v9), σ7)) d_10_52 kc_10_52 rfl ⟨Nat.le_of_ble_eq_true rfl, xx_10.symm⟩ rfl hcl ?_
    show Ev 10 55 [.ref 38, .ref a1, .ref a2, .int x3, .long v6, .float 0, .retAddr 0, .retAddr 0] [.long v9, .long 0] σ7 w
    obtain ⟨v12, σ10, hcl, hS11, H⟩ := H
    refine e_scall (w1 := (some (.long v12), σ10)) d_10_55 kc_10_55 rfl ⟨Nat.le_of_ble_eq_true rfl, xx_10.symm⟩ rfl hcl ?_
    show Ev 10 58 [.ref 38, .ref a1, .ref a2, .int x3, .long v6, .float 0, .retAddr 0, .retAddr 0] [.long v12] σ10 w
    refine e_l2i d_10_58 rfl ?_
    exact H
  · replace H := H.1 hc
    refine e_aload_n d_10_39 rfl rfl ?_
    obtain ⟨v15, σ13, hcl, hS14, H⟩ := H
    refine e_vcall (w1 := (some (.int v15), σ13)) d_10_40 kc_10_40 rfl ⟨Nat.le_of_ble_eq_true rfl, xx_10.symm⟩ rfl hcl ?_
    show Ev 10 43 [.ref 38, .ref a1, .ref a2, .int x3, .long v6, .float 0, .retAddr 0, .retAddr 0] [.int v15] σ13 w
    refine e_goto (t := 59) d_10_43 (by decide) ?_
    exact H
theorem b_10_59 {t : Nat} {σ : Mm} {w : Option Value × Mm} {x3 : Int32} {y4 : Int64} {z6 : Value} {z7 : Value} {s0 : Int32} {a1 : Nat} {a2 : Nat} (hS : Sg t σ) (h1 : a1 = 3 ∨ a1 = 15) (h2 : a2 = 26 ∨ a2 = 30 ∨ a2 = 34)
    (H : ((mI σ 38 0) = 0 → ((s0 < 50 → Ev 10 116 [.ref 38, .ref a1, .ref a2, .int x3, .long y4, .float 0, .int s0, .int 0] [] σ w) ∧ (¬ (s0 < 50) → Ev 10 116 [.ref 38, .ref a1, .ref a2, .int x3, .long y4, .float 0, .int s0, .int 1] [] σ w))) ∧ (¬ ((mI σ 38 0) = 0) → ((0 < s0 → ((s0 < 100 → (∃ (v3 : Int32) (σ1 : Mm), Cl 25 [.ref a2] σ (some (.int v3), σ1) ∧ Sg t σ1 ∧ (((v3 - v3 / 100 * 100) < s0 → Ev 10 116 [.ref 38, .ref a1, .ref a2, .int x3, .long y4, .float 0, .int s0, .int 1] [] σ1 w) ∧ (¬ ((v3 - v3 / 100 * 100) < s0) → Ev 10 116 [.ref 38, .ref a1, .ref a2, .int x3, .long y4, .float 0, .int s0, .int 0] [] σ1 w)))) ∧ (¬ (s0 < 100) → ((s0 < 50 → Ev 10 116 [.ref 38, .ref a1, .ref a2, .int x3, .long y4, .float 0, .int s0, .int 0] [] σ w) ∧ (¬ (s0 < 50) → Ev 10 116 [.ref 38, .ref a1, .ref a2, .int x3, .long y4, .float 0, .int s0, .int 1] [] σ w))))) ∧ (¬ (0 < s0) → ((s0 < 50 → Ev 10 116 [.ref 38, .ref a1, .ref a2, .int x3, .long y4, .float 0, .int s0, .int 0] [] σ w) ∧ (¬ (s0 < 50) → Ev 10 116 [.ref 38, .ref a1, .ref a2, .int x3, .long y4, .float 0, .int s0, .int 1] [] σ w)))))) :
    Ev 10 59 [.ref 38, .ref a1, .ref a2, .int x3, .long y4, .float 0, z6, z7] [.int s0] σ w := by
  refine e_istore (ls2 := [.ref 38, .ref a1, .ref a2, .int x3, .long y4, .float 0, .int s0, z7]) d_10_59 rfl rfl rfl ?_
  refine e_aload_n d_10_61 rfl rfl ?_
  refine e_getZ d_10_62 oo_10 pF_1_19 (by decide) (hS.k rfl) rfl ?_
  refine e_if_eq (t := 102) d_10_65 (by decide) rfl (fun hc => ?_) (fun hc => ?_)
  · replace H := H.1 hc
    refine e_iload d_10_102 rfl rfl ?_
    refine e_bipush d_10_104 cb_50 rfl ?_
    refine e_icmp_lt (t := 113) d_10_106 (by decide) rfl (fun hc => ?_) (fun hc => ?_)
    · replace H := H.1 hc
      refine e_iconst d_10_113 ci_0 rfl ?_
      refine e_istore (ls2 := [.ref 38, .ref a1, .ref a2, .int x3, .long y4, .float 0, .int s0, .int 0]) d_10_114 rfl rfl rfl ?_
      exact H
    · replace H := H.2 hc
      refine e_iconst d_10_109 ci_1 rfl ?_
      refine e_goto (t := 114) d_10_110 (by decide) ?_
      refine e_istore (ls2 := [.ref 38, .ref a1, .ref a2, .int x3, .long y4, .float 0, .int s0, .int 1]) d_10_114 rfl rfl rfl ?_
      exact H
  · replace H := H.2 hc
    refine e_iload d_10_68 rfl rfl ?_
    refine e_if_le (t := 102) d_10_70 (by decide) rfl (fun hc => ?_) (fun hc => ?_)
    · replace H := H.2 hc
      refine e_iload d_10_102 rfl rfl ?_
      refine e_bipush d_10_104 cb_50 rfl ?_
      refine e_icmp_lt (t := 113) d_10_106 (by decide) rfl (fun hc => ?_) (fun hc => ?_)
      · replace H := H.1 hc
        refine e_iconst d_10_113 ci_0 rfl ?_
        refine e_istore (ls2 := [.ref 38, .ref a1, .ref a2, .int x3, .long y4, .float 0, .int s0, .int 0]) d_10_114 rfl rfl rfl ?_
        exact H
      · replace H := H.2 hc
        refine e_iconst d_10_109 ci_1 rfl ?_
        refine e_goto (t := 114) d_10_110 (by decide) ?_
        refine e_istore (ls2 := [.ref 38, .ref a1, .ref a2, .int x3, .long y4, .float 0, .int s0, .int 1]) d_10_114 rfl rfl rfl ?_
        exact H
    · replace H := H.1 hc
      refine e_iload d_10_73 rfl rfl ?_
      refine e_bipush d_10_75 cb_100 rfl ?_
      refine e_icmp_ge (t := 102) d_10_77 (by decide) rfl (fun hc => ?_) (fun hc => ?_)
      · replace H := H.2 hc
        refine e_iload d_10_102 rfl rfl ?_
        refine e_bipush d_10_104 cb_50 rfl ?_
        refine e_icmp_lt (t := 113) d_10_106 (by decide) rfl (fun hc => ?_) (fun hc => ?_)
        · replace H := H.1 hc
          refine e_iconst d_10_113 ci_0 rfl ?_
          refine e_istore (ls2 := [.ref 38, .ref a1, .ref a2, .int x3, .long y4, .float 0, .int s0, .int 0]) d_10_114 rfl rfl rfl ?_
          exact H
        · replace H := H.2 hc
          refine e_iconst d_10_109 ci_1 rfl ?_
          refine e_goto (t := 114) d_10_110 (by decide) ?_
          refine e_istore (ls2 := [.ref 38, .ref a1, .ref a2, .int x3, .long y4, .float 0, .int s0, .int 1]) d_10_114 rfl rfl rfl ?_
          exact H
      · replace H := H.1 hc
        refine e_aload_n d_10_80 rfl rfl ?_
        obtain ⟨v3, σ1, hcl, hS2, H⟩ := H
        refine e_vcall (w1 := (some (.int v3), σ1)) d_10_81 kc_10_81 rfl ⟨Nat.le_of_ble_eq_true rfl, xx_10.symm⟩ rfl hcl ?_
        show Ev 10 84 [.ref 38, .ref a1, .ref a2, .int x3, .long y4, .float 0, .int s0, z7] [.int v3] σ1 w
        refine e_bipush d_10_84 cb_100 rfl ?_
        refine e_irem d_10_86 (by decide) rfl ?_
        refine e_iload d_10_87 rfl rfl ?_
        refine e_icmp_ge (t := 96) d_10_89 (by decide) rfl (fun hc => ?_) (fun hc => ?_)
        · replace H := H.2 hc
          refine e_iconst d_10_96 ci_0 rfl ?_
          refine e_istore (ls2 := [.ref 38, .ref a1, .ref a2, .int x3, .long y4, .float 0, .int s0, .int 0]) d_10_97 rfl rfl rfl ?_
          refine e_goto (t := 116) d_10_99 (by decide) ?_
          exact H
        · replace H := H.1 hc
          refine e_iconst d_10_92 ci_1 rfl ?_
          refine e_goto (t := 97) d_10_93 (by decide) ?_
          refine e_istore (ls2 := [.ref 38, .ref a1, .ref a2, .int x3, .long y4, .float 0, .int s0, .int 1]) d_10_97 rfl rfl rfl ?_
          refine e_goto (t := 116) d_10_99 (by decide) ?_
          exact H
theorem b_10_116 {t : Nat} {σ : Mm} {w : Option Value × Mm} {x3 : Int32} {y4 : Int64} {x6 : Int32} {x7 : Int32} {a1 : Nat} {a2 : Nat} (hS : Sg t σ) (h1 : a1 = 3 ∨ a1 = 15) (h2 : a2 = 26 ∨ a2 = 30 ∨ a2 = 34)
    (H : ((mI σ 38 1) = 0 → (w = (none, σ))) ∧ (¬ ((mI σ 38 1) = 0) → ((x7 = 0 → (w = (none, σ))) ∧ (¬ (x7 = 0) → (∀ (σ1 : Mm), σ1 = uI σ a2 2 ((mI σ a2 2) ||| ((1 : Int32) <<< (x3 &&& 31))) → (w = (none, σ1))))))) :
    Ev 10 116 [.ref 38, .ref a1, .ref a2, .int x3, .long y4, .float 0, .int x6, .int x7] [] σ w := by
  refine e_aload_n d_10_116 rfl rfl ?_
  refine e_getZ d_10_117 oo_10 pF_1_27 (by decide) (hS.k rfl) rfl ?_
  refine e_if_eq (t := 140) d_10_120 (by decide) rfl (fun hc => ?_) (fun hc => ?_)
  · replace H := H.1 hc
    subst H
    exact e_vret d_10_140 rr_10
  · replace H := H.2 hc
    refine e_iload d_10_123 rfl rfl ?_
    refine e_if_eq (t := 140) d_10_125 (by decide) rfl (fun hc => ?_) (fun hc => ?_)
    · replace H := H.1 hc
      subst H
      exact e_vret d_10_140 rr_10
    · replace H := H.2 hc
      refine e_aload_n d_10_128 rfl rfl ?_
      refine e_dup d_10_129 rfl rfl ?_
      refine e_getI d_10_130 oo_10 pF_1_133 (by decide) (hS.k (kH h2)) rfl ?_
      refine e_iconst d_10_133 ci_1 rfl ?_
      refine e_iload_n d_10_134 rfl rfl ?_
      refine e_ishl d_10_135 rfl ?_
      refine e_ior d_10_136 rfl ?_
      refine e_putI d_10_137 oo_10 pF_1_133 (Or.inl rfl) (hS.k (kH h2)) rfl ?_
      generalize hm2 : uI σ a2 2 ((mI σ a2 2) ||| ((1 : Int32) <<< (x3 &&& 31))) = σ1
      have hS3 : Sg t σ1 := by rw [← hm2]; exact hS.uI
      replace H := H σ1 hm2.symm
      subst H
      exact e_vret d_10_140 rr_10
/-! X1_worth -/
theorem b_11_0 {t : Nat} {σ : Mm} {w : Option Value × Mm} {a1 : Nat} {a2 : Nat} {x3 : Int32} {x4 : Int32} (hS : Sg t σ) (h1 : a1 = 3 ∨ a1 = 15) (h2 : a2 = 26 ∨ a2 = 30 ∨ a2 = 34)
    (H : ∃ (v3 : Int32) (σ1 : Mm), Cl 91 [.ref a1, .int x3] σ (some (.int v3), σ1) ∧ Sg t σ1 ∧ ((v3 = 0 → (w = (some (.long (-9223372036854775808)), σ1))) ∧ (¬ (v3 = 0) → ((x3 = 2 → Ev 11 22 [.ref 38, .ref a1, .ref a2, .int x3, .int x4, .retAddr 0] [.int 0] σ1 w) ∧ (¬ (x3 = 2) → Ev 11 22 [.ref 38, .ref a1, .ref a2, .int x3, .int x4, .retAddr 0] [.int 1] σ1 w))))) :
    Ev 11 0 [.ref 38, .ref a1, .ref a2, .int x3, .int x4, .retAddr 0] [] σ w := by
  refine e_aload_n d_11_0 rfl rfl ?_
  refine e_iload_n d_11_1 rfl rfl ?_
  obtain ⟨v3, σ1, hcl, hS2, H⟩ := H
  refine e_vcall (w1 := (some (.int v3), σ1)) d_11_2 kc_11_2 rfl ⟨Nat.le_of_ble_eq_true rfl, xx_11.symm⟩ rfl hcl ?_
  show Ev 11 5 [.ref 38, .ref a1, .ref a2, .int x3, .int x4, .retAddr 0] [.int v3] σ1 w
  refine e_if_ne (t := 12) d_11_5 (by decide) rfl (fun hc => ?_) (fun hc => ?_)
  · replace H := H.2 hc
    refine e_iload_n d_11_12 rfl rfl ?_
    refine e_iconst d_11_13 ci_2 rfl ?_
    refine e_icmp_eq (t := 21) d_11_14 (by decide) rfl (fun hc => ?_) (fun hc => ?_)
    · replace H := H.1 hc
      refine e_iconst d_11_21 ci_0 rfl ?_
      exact H
    · replace H := H.2 hc
      refine e_iconst d_11_17 ci_1 rfl ?_
      refine e_goto (t := 22) d_11_18 (by decide) ?_
      exact H
  · replace H := H.1 hc
    refine e_ldc2 d_11_8 oo_11 pL_1_90 rfl ?_
    subst H
    exact e_lret d_11_11 rr_11
theorem b_11_22 {t : Nat} {σ : Mm} {w : Option Value × Mm} {x3 : Int32} {x4 : Int32} {z5 : Value} {s0 : Int32} {a1 : Nat} {a2 : Nat} (hS : Sg t σ) (h1 : a1 = 3 ∨ a1 = 15) (h2 : a2 = 26 ∨ a2 = 30 ∨ a2 = 34)
    (H : (s0 = 0 → ((s0 = 0 → Ev 11 67 [.ref 38, .ref a1, .ref a2, .int x3, .int x4, .int s0] [.int 0, .int 1, .ref 39] (uI σ 39 0 0) w) ∧ (¬ (s0 = 0) → (inb x4 10 = true ∧ Ev 11 67 [.ref 38, .ref a1, .ref a2, .int x3, .int x4, .int s0] [.int (mI (uI σ 39 0 0) (a2 + 3) x4.toNatClampNeg), .int 1, .ref 39] (uI σ 39 0 0) w)))) ∧ (¬ (s0 = 0) → (inb x4 10 = true ∧ (∀ (σ1 : Mm), σ1 = uI σ 39 0 (mI σ (a1 + 3) x4.toNatClampNeg) → ((s0 = 0 → Ev 11 67 [.ref 38, .ref a1, .ref a2, .int x3, .int x4, .int s0] [.int 0, .int 1, .ref 39] σ1 w) ∧ (¬ (s0 = 0) → (inb x4 10 = true ∧ Ev 11 67 [.ref 38, .ref a1, .ref a2, .int x3, .int x4, .int s0] [.int (mI σ1 (a2 + 3) x4.toNatClampNeg), .int 1, .ref 39] σ1 w))))))) :
    Ev 11 22 [.ref 38, .ref a1, .ref a2, .int x3, .int x4, z5] [.int s0] σ w := by
  refine e_istore (ls2 := [.ref 38, .ref a1, .ref a2, .int x3, .int x4, .int s0]) d_11_22 rfl rfl rfl ?_
  refine e_aload_n d_11_24 rfl rfl ?_
  refine e_getR d_11_25 oo_11 pF_1_9 (by decide) (hS.k rfl) (hS.r rt_38_5) rfl ?_
  refine e_iconst d_11_28 ci_0 rfl ?_
  refine e_iload d_11_29 rfl rfl ?_
  refine e_if_eq (t := 44) d_11_31 (by decide) rfl (fun hc => ?_) (fun hc => ?_)
  · replace H := H.1 hc
    refine e_iconst d_11_44 ci_0 rfl ?_
    refine e_iastore d_11_45 (okI_at (hS.k rfl) rfl) rfl ?_
    show Ev 11 46 [.ref 38, .ref a1, .ref a2, .int x3, .int x4, .int s0] [] (uI σ 39 0 0) w
    refine e_aload_n d_11_46 rfl rfl ?_
    refine e_getR d_11_47 oo_11 pF_1_9 (by decide) (hS.uI.k rfl) (hS.uI.r rt_38_5) rfl ?_
    refine e_iconst d_11_50 ci_1 rfl ?_
    refine e_iload d_11_51 rfl rfl ?_
    refine e_if_eq (t := 66) d_11_53 (by decide) rfl (fun hc => ?_) (fun hc => ?_)
    · replace H := H.1 hc
      refine e_iconst d_11_66 ci_0 rfl ?_
      exact H
    · replace H := H.2 hc
      refine e_aload_n d_11_56 rfl rfl ?_
      refine e_getR d_11_57 oo_11 pF_1_119 (by decide) (hS.uI.k (kH h2)) (hS.uI.rH9 h2) rfl ?_
      refine e_iload d_11_60 rfl rfl ?_
      obtain ⟨hb, H⟩ := H
      refine e_iaload (v := (mI (uI σ 39 0 0) (a2 + 3) x4.toNatClampNeg)) d_11_62 (rdI_at (hS.uI.k (kH3 h2)) hb) rfl ?_
      refine e_goto (t := 67) d_11_63 (by decide) ?_
      exact H
  · replace H := H.2 hc
    refine e_aload_n d_11_34 rfl rfl ?_
    refine e_getR d_11_35 oo_11 pF_1_92 (by decide) (hS.k (kT h1)) (hS.rT10 h1) rfl ?_
    refine e_iload d_11_38 rfl rfl ?_
    obtain ⟨hb, H⟩ := H
    refine e_iaload (v := (mI σ (a1 + 3) x4.toNatClampNeg)) d_11_40 (rdI_at (hS.k (kT3 h1)) hb) rfl ?_
    refine e_goto (t := 45) d_11_41 (by decide) ?_
    refine e_iastore d_11_45 (okI_at (hS.k rfl) rfl) rfl ?_
    show Ev 11 46 [.ref 38, .ref a1, .ref a2, .int x3, .int x4, .int s0] [] (uI σ 39 0 (mI σ (a1 + 3) x4.toNatClampNeg)) w
    generalize hm2 : uI σ 39 0 (mI σ (a1 + 3) x4.toNatClampNeg) = σ1
    have hS3 : Sg t σ1 := by rw [← hm2]; exact hS.uI
    replace H := H σ1 hm2.symm
    refine e_aload_n d_11_46 rfl rfl ?_
    refine e_getR d_11_47 oo_11 pF_1_9 (by decide) (hS3.k rfl) (hS3.r rt_38_5) rfl ?_
    refine e_iconst d_11_50 ci_1 rfl ?_
    refine e_iload d_11_51 rfl rfl ?_
    refine e_if_eq (t := 66) d_11_53 (by decide) rfl (fun hc => ?_) (fun hc => ?_)
    · replace H := H.1 hc
      refine e_iconst d_11_66 ci_0 rfl ?_
      exact H
    · replace H := H.2 hc
      refine e_aload_n d_11_56 rfl rfl ?_
      refine e_getR d_11_57 oo_11 pF_1_119 (by decide) (hS3.k (kH h2)) (hS3.rH9 h2) rfl ?_
      refine e_iload d_11_60 rfl rfl ?_
      obtain ⟨hb, H⟩ := H
      refine e_iaload (v := (mI σ1 (a2 + 3) x4.toNatClampNeg)) d_11_62 (rdI_at (hS3.k (kH3 h2)) hb) rfl ?_
      refine e_goto (t := 67) d_11_63 (by decide) ?_
      exact H
theorem b_11_67 {t : Nat} {σ : Mm} {w : Option Value × Mm} {x3 : Int32} {x4 : Int32} {x5 : Int32} {s0 : Int32} {s1 : Int32} {a1 : Nat} {a2 : Nat} (hS : Sg t σ) (h1 : a1 = 3 ∨ a1 = 15) (h2 : a2 = 26 ∨ a2 = 30 ∨ a2 = 34)
    (H : inb s1 7 = true ∧ (∃ (v3 : Int32) (σ1 : Mm), Cl 20 [.ref a2] (uI σ 39 s1.toNatClampNeg s0) (some (.int v3), σ1) ∧ Sg t σ1 ∧ (∃ (v6 : Int32) (σ4 : Mm), Cl 276 [.int v3] σ1 (some (.int v6), σ4) ∧ Sg t σ4 ∧ ((x5 = 0 → (∃ (v9 : Int32) (σ7 : Mm), Cl 22 [.ref a2, .int x4] (uI σ4 39 2 v6) (some (.int v9), σ7) ∧ Sg t σ7 ∧ Ev 11 107 [.ref 38, .ref a1, .ref a2, .int x3, .int x4, .int x5] [.int v9, .int 3, .ref 39] σ7 w)) ∧ (¬ (x5 = 0) → (inb x4 10 = true ∧ Ev 11 107 [.ref 38, .ref a1, .ref a2, .int x3, .int x4, .int x5] [.int (mI (uI σ4 39 2 v6) (a2 + 2) x4.toNatClampNeg), .int 3, .ref 39] (uI σ4 39 2 v6) w)))))) :
    Ev 11 67 [.ref 38, .ref a1, .ref a2, .int x3, .int x4, .int x5] [.int s0, .int s1, .ref 39] σ w := by
  obtain ⟨hb, H⟩ := H
  refine e_iastore d_11_67 (okI_at (hS.k rfl) hb) rfl ?_
  refine e_aload_n d_11_68 rfl rfl ?_
  refine e_getR d_11_69 oo_11 pF_1_9 (by decide) (hS.uI.k rfl) (hS.uI.r rt_38_5) rfl ?_
  refine e_iconst d_11_72 ci_2 rfl ?_
  refine e_aload_n d_11_73 rfl rfl ?_
  obtain ⟨v3, σ1, hcl, hS2, H⟩ := H
  refine e_vcall (w1 := (some (.int v3), σ1)) d_11_74 kc_11_74 rfl ⟨Nat.le_of_ble_eq_true rfl, xx_11.symm⟩ rfl hcl ?_
  show Ev 11 77 [.ref 38, .ref a1, .ref a2, .int x3, .int x4, .int x5] [.int v3, .int 2, .ref 39] σ1 w
  obtain ⟨v6, σ4, hcl, hS5, H⟩ := H
  refine e_scall (w1 := (some (.int v6), σ4)) d_11_77 kc_11_77 rfl ⟨Nat.le_of_ble_eq_true rfl, xx_11.symm⟩ rfl hcl ?_
  show Ev 11 80 [.ref 38, .ref a1, .ref a2, .int x3, .int x4, .int x5] [.int v6, .int 2, .ref 39] σ4 w
  refine e_iastore d_11_80 (okI_at (hS5.k rfl) rfl) rfl ?_
  show Ev 11 81 [.ref 38, .ref a1, .ref a2, .int x3, .int x4, .int x5] [] (uI σ4 39 2 v6) w
  refine e_aload_n d_11_81 rfl rfl ?_
  refine e_getR d_11_82 oo_11 pF_1_9 (by decide) (hS5.uI.k rfl) (hS5.uI.r rt_38_5) rfl ?_
  refine e_iconst d_11_85 ci_3 rfl ?_
  refine e_iload d_11_86 rfl rfl ?_
  refine e_if_eq (t := 101) d_11_88 (by decide) rfl (fun hc => ?_) (fun hc => ?_)
  · replace H := H.1 hc
    refine e_aload_n d_11_101 rfl rfl ?_
    refine e_iload d_11_102 rfl rfl ?_
    obtain ⟨v9, σ7, hcl, hS8, H⟩ := H
    refine e_vcall (w1 := (some (.int v9), σ7)) d_11_104 kc_11_104 rfl ⟨Nat.le_of_ble_eq_true rfl, xx_11.symm⟩ rfl hcl ?_
    show Ev 11 107 [.ref 38, .ref a1, .ref a2, .int x3, .int x4, .int x5] [.int v9, .int 3, .ref 39] σ7 w
    exact H
  · replace H := H.2 hc
    refine e_aload_n d_11_91 rfl rfl ?_
    refine e_getR d_11_92 oo_11 pF_1_109 (by decide) (hS5.uI.k (kH h2)) (hS5.uI.rH8 h2) rfl ?_
    refine e_iload d_11_95 rfl rfl ?_
    obtain ⟨hb, H⟩ := H
    refine e_iaload (v := (mI (uI σ4 39 2 v6) (a2 + 2) x4.toNatClampNeg)) d_11_97 (rdI_at (hS5.uI.k (kH2 h2)) hb) rfl ?_
    refine e_goto (t := 107) d_11_98 (by decide) ?_
    exact H
theorem b_11_107 {t : Nat} {σ : Mm} {w : Option Value × Mm} {x3 : Int32} {x4 : Int32} {x5 : Int32} {s0 : Int32} {s1 : Int32} {a1 : Nat} {a2 : Nat} (hS : Sg t σ) (h1 : a1 = 3 ∨ a1 = 15) (h2 : a2 = 26 ∨ a2 = 30 ∨ a2 = 34)
    (H : ∃ (v3 : Int32) (σ1 : Mm), Cl 276 [.int s0] σ (some (.int v3), σ1) ∧ Sg t σ1 ∧ (inb s1 7 = true ∧ (∃ (v6 : Int32) (σ4 : Mm), Cl 276 [.int (mI (uI σ1 39 s1.toNatClampNeg v3) a2 2)] (uI σ1 39 s1.toNatClampNeg v3) (some (.int v6), σ4) ∧ Sg t σ4 ∧ ((x5 = 0 → (inb x4 14 = true ∧ (∀ (σ7 : Mm), σ7 = uI (uI σ4 39 4 v6) 39 5 (mI (uI σ4 39 4 v6) (a2 + 1) x4.toNatClampNeg) → (∃ (v12 : Int64) (σ10 : Mm), Cl 12 [.ref 38, .ref a1, .int x3] (uI σ7 39 6 (mI σ7 a2 0)) (some (.long v12), σ10) ∧ Sg t σ10 ∧ (w = (some (.long v12), σ10)))))) ∧ (¬ (x5 = 0) → (∀ (σ13 : Mm), σ13 = uI (uI (uI σ4 39 4 v6) 39 5 0) 39 6 (mI (uI (uI σ4 39 4 v6) 39 5 0) a2 0) → (∃ (v18 : Int64) (σ16 : Mm), Cl 12 [.ref 38, .ref a1, .int x3] σ13 (some (.long v18), σ16) ∧ Sg t σ16 ∧ (w = (some (.long v18), σ16))))))))) :
    Ev 11 107 [.ref 38, .ref a1, .ref a2, .int x3, .int x4, .int x5] [.int s0, .int s1, .ref 39] σ w := by
  obtain ⟨v3, σ1, hcl, hS2, H⟩ := H
  refine e_scall (w1 := (some (.int v3), σ1)) d_11_107 kc_11_107 rfl ⟨Nat.le_of_ble_eq_true rfl, xx_11.symm⟩ rfl hcl ?_
  show Ev 11 110 [.ref 38, .ref a1, .ref a2, .int x3, .int x4, .int x5] [.int v3, .int s1, .ref 39] σ1 w
  obtain ⟨hb, H⟩ := H
  refine e_iastore d_11_110 (okI_at (hS2.k rfl) hb) rfl ?_
  refine e_aload_n d_11_111 rfl rfl ?_
  refine e_getR d_11_112 oo_11 pF_1_9 (by decide) (hS2.uI.k rfl) (hS2.uI.r rt_38_5) rfl ?_
  refine e_iconst d_11_115 ci_4 rfl ?_
  refine e_aload_n d_11_116 rfl rfl ?_
  refine e_getI d_11_117 oo_11 pF_1_133 (by decide) (hS2.uI.k (kH h2)) rfl ?_
  obtain ⟨v6, σ4, hcl, hS5, H⟩ := H
  refine e_scall (w1 := (some (.int v6), σ4)) d_11_120 kc_11_120 rfl ⟨Nat.le_of_ble_eq_true rfl, xx_11.symm⟩ rfl hcl ?_
  show Ev 11 123 [.ref 38, .ref a1, .ref a2, .int x3, .int x4, .int x5] [.int v6, .int 4, .ref 39] σ4 w
  refine e_iastore d_11_123 (okI_at (hS5.k rfl) rfl) rfl ?_
  show Ev 11 124 [.ref 38, .ref a1, .ref a2, .int x3, .int x4, .int x5] [] (uI σ4 39 4 v6) w
  refine e_aload_n d_11_124 rfl rfl ?_
  refine e_getR d_11_125 oo_11 pF_1_9 (by decide) (hS5.uI.k rfl) (hS5.uI.r rt_38_5) rfl ?_
  refine e_iconst d_11_128 ci_5 rfl ?_
  refine e_iload d_11_129 rfl rfl ?_
  refine e_if_eq (t := 138) d_11_131 (by decide) rfl (fun hc => ?_) (fun hc => ?_)
  · replace H := H.1 hc
    refine e_aload_n d_11_138 rfl rfl ?_
    refine e_getR d_11_139 oo_11 pF_1_122 (by decide) (hS5.uI.k (kH h2)) (hS5.uI.rH7 h2) rfl ?_
    refine e_iload d_11_142 rfl rfl ?_
    obtain ⟨hb, H⟩ := H
    refine e_iaload (v := (mI (uI σ4 39 4 v6) (a2 + 1) x4.toNatClampNeg)) d_11_144 (rdI_at (hS5.uI.k (kH1 h2)) hb) rfl ?_
    refine e_iastore d_11_145 (okI_at (hS5.uI.k rfl) rfl) rfl ?_
    show Ev 11 146 [.ref 38, .ref a1, .ref a2, .int x3, .int x4, .int x5] [] (uI (uI σ4 39 4 v6) 39 5 (mI (uI σ4 39 4 v6) (a2 + 1) x4.toNatClampNeg)) w
    generalize hm8 : uI (uI σ4 39 4 v6) 39 5 (mI (uI σ4 39 4 v6) (a2 + 1) x4.toNatClampNeg) = σ7
    have hS9 : Sg t σ7 := by rw [← hm8]; exact hS5.uI.uI
    replace H := H σ7 hm8.symm
    refine e_aload_n d_11_146 rfl rfl ?_
    refine e_getR d_11_147 oo_11 pF_1_9 (by decide) (hS9.k rfl) (hS9.r rt_38_5) rfl ?_
    refine e_bipush d_11_150 cb_6 rfl ?_
    refine e_aload_n d_11_152 rfl rfl ?_
    refine e_getI d_11_153 oo_11 pF_1_40 (by decide) (hS9.k (kH h2)) rfl ?_
    refine e_iastore d_11_156 (okI_at (hS9.k rfl) rfl) rfl ?_
    show Ev 11 157 [.ref 38, .ref a1, .ref a2, .int x3, .int x4, .int x5] [] (uI σ7 39 6 (mI σ7 a2 0)) w
    refine e_aload_n d_11_157 rfl rfl ?_
    refine e_aload_n d_11_158 rfl rfl ?_
    refine e_iload_n d_11_159 rfl rfl ?_
    obtain ⟨v12, σ10, hcl, hS11, H⟩ := H
    refine e_vcall (w1 := (some (.long v12), σ10)) d_11_160 kc_11_160 rfl ⟨Nat.le_of_ble_eq_true rfl, xx_11.symm⟩ rfl hcl ?_
    show Ev 11 163 [.ref 38, .ref a1, .ref a2, .int x3, .int x4, .int x5] [.long v12] σ10 w
    subst H
    exact e_lret d_11_163 rr_11
  · replace H := H.2 hc
    refine e_iconst d_11_134 ci_0 rfl ?_
    refine e_goto (t := 145) d_11_135 (by decide) ?_
    refine e_iastore d_11_145 (okI_at (hS5.uI.k rfl) rfl) rfl ?_
    show Ev 11 146 [.ref 38, .ref a1, .ref a2, .int x3, .int x4, .int x5] [] (uI (uI σ4 39 4 v6) 39 5 0) w
    refine e_aload_n d_11_146 rfl rfl ?_
    refine e_getR d_11_147 oo_11 pF_1_9 (by decide) (hS5.uI.uI.k rfl) (hS5.uI.uI.r rt_38_5) rfl ?_
    refine e_bipush d_11_150 cb_6 rfl ?_
    refine e_aload_n d_11_152 rfl rfl ?_
    refine e_getI d_11_153 oo_11 pF_1_40 (by decide) (hS5.uI.uI.k (kH h2)) rfl ?_
    refine e_iastore d_11_156 (okI_at (hS5.uI.uI.k rfl) rfl) rfl ?_
    show Ev 11 157 [.ref 38, .ref a1, .ref a2, .int x3, .int x4, .int x5] [] (uI (uI (uI σ4 39 4 v6) 39 5 0) 39 6 (mI (uI (uI σ4 39 4 v6) 39 5 0) a2 0)) w
    generalize hm14 : uI (uI (uI σ4 39 4 v6) 39 5 0) 39 6 (mI (uI (uI σ4 39 4 v6) 39 5 0) a2 0) = σ13
    have hS15 : Sg t σ13 := by rw [← hm14]; exact hS5.uI.uI.uI
    replace H := H σ13 hm14.symm
    refine e_aload_n d_11_157 rfl rfl ?_
    refine e_aload_n d_11_158 rfl rfl ?_
    refine e_iload_n d_11_159 rfl rfl ?_
    obtain ⟨v18, σ16, hcl, hS17, H⟩ := H
    refine e_vcall (w1 := (some (.long v18), σ16)) d_11_160 kc_11_160 rfl ⟨Nat.le_of_ble_eq_true rfl, xx_11.symm⟩ rfl hcl ?_
    show Ev 11 163 [.ref 38, .ref a1, .ref a2, .int x3, .int x4, .int x5] [.long v18] σ16 w
    subst H
    exact e_lret d_11_163 rr_11
/-! X1_reckon -/
theorem b_12_0 {t : Nat} {σ : Mm} {w : Option Value × Mm} {a1 : Nat} {x2 : Int32} (hS : Sg t σ) (h1 : a1 = 3 ∨ a1 = 15)
    (H : inb x2 3 = true ∧ Ev 12 10 [.ref 38, .ref a1, .int x2, .int 0, .int (mI σ (a1 + 9) x2.toNatClampNeg), .retAddr 0, .retAddr 0] [] σ w) :
    Ev 12 0 [.ref 38, .ref a1, .int x2, .retAddr 0, .retAddr 0, .retAddr 0, .retAddr 0] [] σ w := by
  refine e_iconst d_12_0 ci_0 rfl ?_
  refine e_istore_n (ls2 := [.ref 38, .ref a1, .int x2, .int 0, .retAddr 0, .retAddr 0, .retAddr 0]) d_12_1 rfl rfl rfl ?_
  refine e_aload_n d_12_2 rfl rfl ?_
  refine e_getR d_12_3 oo_12 pF_1_152 (by decide) (hS.k (kT h1)) (hS.rT16 h1) rfl ?_
  refine e_iload_n d_12_6 rfl rfl ?_
  obtain ⟨hb, H⟩ := H
  refine e_iaload (v := (mI σ (a1 + 9) x2.toNatClampNeg)) d_12_7 (rdI_at (hS.k (kT9 h1)) hb) rfl ?_
  refine e_istore (ls2 := [.ref 38, .ref a1, .int x2, .int 0, .int (mI σ (a1 + 9) x2.toNatClampNeg), .retAddr 0, .retAddr 0]) d_12_8 rfl rfl rfl ?_
  exact H
theorem b_12_10 {t : Nat} {σ : Mm} {w : Option Value × Mm} {x2 : Int32} {x3 : Int32} {x4 : Int32} {z5 : Value} {z6 : Value} {a1 : Nat} (hS : Sg t σ) (h1 : a1 = 3 ∨ a1 = 15)
    (H : inb x2 3 = true ∧ ((x4 < (mI σ (a1 + 10) x2.toNatClampNeg) → ((x4 < 64 → (inb x4 64 = true ∧ ((((mI σ (a1 + 8) x4.toNatClampNeg) - 10000) < 0 → Ev 12 64 [.ref 38, .ref a1, .int x2, .int x3, .int x4, .int (mI σ (a1 + 8) x4.toNatClampNeg), .int ((mI σ (a1 + 8) x4.toNatClampNeg) - 10000)] [] σ w) ∧ (¬ (((mI σ (a1 + 8) x4.toNatClampNeg) - 10000) < 0) → ((((mI σ (a1 + 8) x4.toNatClampNeg) - 10000) < 24 → Ev 12 108 [.ref 38, .ref a1, .int x2, .int x3, .int x4, .int (mI σ (a1 + 8) x4.toNatClampNeg), .int ((mI σ (a1 + 8) x4.toNatClampNeg) - 10000)] [] σ w) ∧ (¬ (((mI σ (a1 + 8) x4.toNatClampNeg) - 10000) < 24) → ((30 < ((mI σ (a1 + 8) x4.toNatClampNeg) - 10000) → Ev 12 108 [.ref 38, .ref a1, .int x2, .int x3, .int x4, .int (mI σ (a1 + 8) x4.toNatClampNeg), .int ((mI σ (a1 + 8) x4.toNatClampNeg) - 10000)] [] σ w) ∧ (¬ (30 < ((mI σ (a1 + 8) x4.toNatClampNeg) - 10000)) → Ev 12 64 [.ref 38, .ref a1, .int x2, .int x3, .int x4, .int (mI σ (a1 + 8) x4.toNatClampNeg), .int ((mI σ (a1 + 8) x4.toNatClampNeg) - 10000)] [] σ w)))))))) ∧ (¬ (x4 < 64) → ((x3 = 1 → (w = (some (.long (mL σ 40 0)), σ))) ∧ (¬ (x3 = 1) → (w = (some (.long (-9223372036854775808)), σ))))))) ∧ (¬ (x4 < (mI σ (a1 + 10) x2.toNatClampNeg)) → ((x3 = 1 → (w = (some (.long (mL σ 40 0)), σ))) ∧ (¬ (x3 = 1) → (w = (some (.long (-9223372036854775808)), σ))))))) :
    Ev 12 10 [.ref 38, .ref a1, .int x2, .int x3, .int x4, z5, z6] [] σ w := by
  refine e_iload d_12_10 rfl rfl ?_
  refine e_aload_n d_12_12 rfl rfl ?_
  refine e_getR d_12_13 oo_12 pF_1_155 (by decide) (hS.k (kT h1)) (hS.rT17 h1) rfl ?_
  refine e_iload_n d_12_16 rfl rfl ?_
  obtain ⟨hb, H⟩ := H
  refine e_iaload (v := (mI σ (a1 + 10) x2.toNatClampNeg)) d_12_17 (rdI_at (hS.k (kT10 h1)) hb) rfl ?_
  refine e_icmp_ge (t := 220) d_12_18 (by decide) rfl (fun hc => ?_) (fun hc => ?_)
  · replace H := H.2 hc
    refine e_iload_n d_12_220 rfl rfl ?_
    refine e_iconst d_12_221 ci_1 rfl ?_
    refine e_icmp_ne (t := 234) d_12_222 (by decide) rfl (fun hc => ?_) (fun hc => ?_)
    · replace H := H.2 hc
      refine e_ldc2 d_12_234 oo_12 pL_1_90 rfl ?_
      subst H
      exact e_lret d_12_237 rr_12
    · replace H := H.1 hc
      refine e_aload_n d_12_225 rfl rfl ?_
      refine e_getR d_12_226 oo_12 pF_1_15 (by decide) (hS.k rfl) (hS.r rt_38_6) rfl ?_
      refine e_iconst d_12_229 ci_0 rfl ?_
      refine e_laload (v := (mL σ 40 0)) d_12_230 (rdL_at (hS.k rfl) rfl) rfl ?_
      refine e_goto (t := 237) d_12_231 (by decide) ?_
      subst H
      exact e_lret d_12_237 rr_12
  · replace H := H.1 hc
    refine e_iload d_12_21 rfl rfl ?_
    refine e_bipush d_12_23 cb_64 rfl ?_
    refine e_icmp_ge (t := 220) d_12_25 (by decide) rfl (fun hc => ?_) (fun hc => ?_)
    · replace H := H.2 hc
      refine e_iload_n d_12_220 rfl rfl ?_
      refine e_iconst d_12_221 ci_1 rfl ?_
      refine e_icmp_ne (t := 234) d_12_222 (by decide) rfl (fun hc => ?_) (fun hc => ?_)
      · replace H := H.2 hc
        refine e_ldc2 d_12_234 oo_12 pL_1_90 rfl ?_
        subst H
        exact e_lret d_12_237 rr_12
      · replace H := H.1 hc
        refine e_aload_n d_12_225 rfl rfl ?_
        refine e_getR d_12_226 oo_12 pF_1_15 (by decide) (hS.k rfl) (hS.r rt_38_6) rfl ?_
        refine e_iconst d_12_229 ci_0 rfl ?_
        refine e_laload (v := (mL σ 40 0)) d_12_230 (rdL_at (hS.k rfl) rfl) rfl ?_
        refine e_goto (t := 237) d_12_231 (by decide) ?_
        subst H
        exact e_lret d_12_237 rr_12
    · replace H := H.1 hc
      refine e_aload_n d_12_28 rfl rfl ?_
      refine e_getR d_12_29 oo_12 pF_1_158 (by decide) (hS.k (kT h1)) (hS.rT15 h1) rfl ?_
      refine e_iload d_12_32 rfl rfl ?_
      obtain ⟨hb, H⟩ := H
      refine e_iaload (v := (mI σ (a1 + 8) x4.toNatClampNeg)) d_12_34 (rdI_at (hS.k (kT8 h1)) hb) rfl ?_
      refine e_istore (ls2 := [.ref 38, .ref a1, .int x2, .int x3, .int x4, .int (mI σ (a1 + 8) x4.toNatClampNeg), z6]) d_12_35 rfl rfl rfl ?_
      refine e_iload d_12_37 rfl rfl ?_
      refine e_sipush d_12_39 cs_10000 rfl ?_
      refine e_isub d_12_42 rfl ?_
      refine e_istore (ls2 := [.ref 38, .ref a1, .int x2, .int x3, .int x4, .int (mI σ (a1 + 8) x4.toNatClampNeg), .int ((mI σ (a1 + 8) x4.toNatClampNeg) - 10000)]) d_12_43 rfl rfl rfl ?_
      refine e_iload d_12_45 rfl rfl ?_
      refine e_if_lt (t := 64) d_12_47 (by decide) rfl (fun hc => ?_) (fun hc => ?_)
      · replace H := H.1 hc
        exact H
      · replace H := H.2 hc
        refine e_iload d_12_50 rfl rfl ?_
        refine e_bipush d_12_52 cb_24 rfl ?_
        refine e_icmp_lt (t := 108) d_12_54 (by decide) rfl (fun hc => ?_) (fun hc => ?_)
        · replace H := H.1 hc
          exact H
        · replace H := H.2 hc
          refine e_iload d_12_57 rfl rfl ?_
          refine e_bipush d_12_59 cb_30 rfl ?_
          refine e_icmp_gt (t := 108) d_12_61 (by decide) rfl (fun hc => ?_) (fun hc => ?_)
          · replace H := H.1 hc
            exact H
          · replace H := H.2 hc
            exact H
theorem b_12_64 {t : Nat} {σ : Mm} {w : Option Value × Mm} {x2 : Int32} {x3 : Int32} {x4 : Int32} {x5 : Int32} {x6 : Int32} {a1 : Nat} (hS : Sg t σ) (h1 : a1 = 3 ∨ a1 = 15)
    (H : (x3 < 64 → ((x6 < 0 → (inb x3 64 = true ∧ (∀ (σ4 : Mm), σ4 = uL σ 40 x3.toNatClampNeg (Int32.toInt64 x5) → Ev 12 10 [.ref 38, .ref a1, .int x2, .int (x3 + 1), .int (x4 + 1), .int x5, .int x6] [] σ4 w))) ∧ (¬ (x6 < 0) → (inb (x6 - 24) 7 = true ∧ (inb x3 64 = true ∧ (∀ (σ1 : Mm), σ1 = uL σ 40 x3.toNatClampNeg (Int32.toInt64 (mI σ 39 (x6 - 24).toNatClampNeg)) → Ev 12 10 [.ref 38, .ref a1, .int x2, .int (x3 + 1), .int (x4 + 1), .int x5, .int x6] [] σ1 w)))))) ∧ (¬ (x3 < 64) → (w = (some (.long (-9223372036854775808)), σ)))) :
    Ev 12 64 [.ref 38, .ref a1, .int x2, .int x3, .int x4, .int x5, .int x6] [] σ w := by
  refine e_iload_n d_12_64 rfl rfl ?_
  refine e_bipush d_12_65 cb_64 rfl ?_
  refine e_icmp_lt (t := 74) d_12_67 (by decide) rfl (fun hc => ?_) (fun hc => ?_)
  · replace H := H.1 hc
    refine e_aload_n d_12_74 rfl rfl ?_
    refine e_getR d_12_75 oo_12 pF_1_15 (by decide) (hS.k rfl) (hS.r rt_38_6) rfl ?_
    refine e_iload_n d_12_78 rfl rfl ?_
    refine e_iload d_12_79 rfl rfl ?_
    refine e_if_ge (t := 90) d_12_81 (by decide) rfl (fun hc => ?_) (fun hc => ?_)
    · replace H := H.2 hc
      refine e_aload_n d_12_90 rfl rfl ?_
      refine e_getR d_12_91 oo_12 pF_1_9 (by decide) (hS.k rfl) (hS.r rt_38_5) rfl ?_
      refine e_iload d_12_94 rfl rfl ?_
      refine e_bipush d_12_96 cb_24 rfl ?_
      refine e_isub d_12_98 rfl ?_
      obtain ⟨hb, H⟩ := H
      refine e_iaload (v := (mI σ 39 (x6 - 24).toNatClampNeg)) d_12_99 (rdI_at (hS.k rfl) hb) rfl ?_
      refine e_i2l d_12_100 rfl ?_
      obtain ⟨hb, H⟩ := H
      refine e_lastore d_12_101 (okI_at (hS.k rfl) hb) rfl ?_
      generalize hm2 : uL σ 40 x3.toNatClampNeg (Int32.toInt64 (mI σ 39 (x6 - 24).toNatClampNeg)) = σ1
      have hS3 : Sg t σ1 := by rw [← hm2]; exact hS.uL
      replace H := H σ1 hm2.symm
      refine e_iinc (ls2 := [.ref 38, .ref a1, .int x2, .int (x3 + 1), .int x4, .int x5, .int x6]) d_12_102 rfl ci_1 rfl rfl rfl ?_
      refine e_goto (t := 214) d_12_105 (by decide) ?_
      refine e_iinc (ls2 := [.ref 38, .ref a1, .int x2, .int (x3 + 1), .int (x4 + 1), .int x5, .int x6]) d_12_214 rfl ci_1 rfl rfl rfl ?_
      refine e_goto (t := 10) d_12_217 (by decide) ?_
      exact H
    · replace H := H.1 hc
      refine e_iload d_12_84 rfl rfl ?_
      refine e_i2l d_12_86 rfl ?_
      refine e_goto (t := 101) d_12_87 (by decide) ?_
      obtain ⟨hb, H⟩ := H
      refine e_lastore d_12_101 (okI_at (hS.k rfl) hb) rfl ?_
      generalize hm5 : uL σ 40 x3.toNatClampNeg (Int32.toInt64 x5) = σ4
      have hS6 : Sg t σ4 := by rw [← hm5]; exact hS.uL
      replace H := H σ4 hm5.symm
      refine e_iinc (ls2 := [.ref 38, .ref a1, .int x2, .int (x3 + 1), .int x4, .int x5, .int x6]) d_12_102 rfl ci_1 rfl rfl rfl ?_
      refine e_goto (t := 214) d_12_105 (by decide) ?_
      refine e_iinc (ls2 := [.ref 38, .ref a1, .int x2, .int (x3 + 1), .int (x4 + 1), .int x5, .int x6]) d_12_214 rfl ci_1 rfl rfl rfl ?_
      refine e_goto (t := 10) d_12_217 (by decide) ?_
      exact H
  · replace H := H.2 hc
    refine e_ldc2 d_12_70 oo_12 pL_1_90 rfl ?_
    subst H
    exact e_lret d_12_73 rr_12
theorem b_12_108 {t : Nat} {σ : Mm} {w : Option Value × Mm} {x2 : Int32} {x3 : Int32} {x4 : Int32} {x5 : Int32} {x6 : Int32} {a1 : Nat} (hS : Sg t σ) (h1 : a1 = 3 ∨ a1 = 15)
    (H : (x6 = 23 → ((x3 < 1 → (w = (some (.long (-9223372036854775808)), σ))) ∧ (¬ (x3 < 1) → (inb (x3 - 1) 64 = true ∧ (((mL σ 40 (x3 - 1).toNatClampNeg) = 0 → (∃ (v12 : Int64) (σ10 : Mm), Cl 14 [.int 1] σ (some (.long v12), σ10) ∧ Sg t σ10 ∧ (inb (x3 - 1) 64 = true ∧ Ev 12 10 [.ref 38, .ref a1, .int x2, .int x3, .int (x4 + 1), .int x5, .int x6] [] (uL σ10 40 (x3 - 1).toNatClampNeg v12) w))) ∧ (¬ ((mL σ 40 (x3 - 1).toNatClampNeg) = 0) → (∃ (v9 : Int64) (σ7 : Mm), Cl 14 [.int 0] σ (some (.long v9), σ7) ∧ Sg t σ7 ∧ (inb (x3 - 1) 64 = true ∧ Ev 12 10 [.ref 38, .ref a1, .int x2, .int x3, .int (x4 + 1), .int x5, .int x6] [] (uL σ7 40 (x3 - 1).toNatClampNeg v9) w)))))))) ∧ (¬ (x6 = 23) → ((x3 < 2 → (w = (some (.long (-9223372036854775808)), σ))) ∧ (¬ (x3 < 2) → (inb ((x3 + (-1)) - 1) 64 = true ∧ (inb (x3 + (-1)) 64 = true ∧ (∃ (v3 : Int64) (σ1 : Mm), Cl 13 [.int x6, .long (mL σ 40 ((x3 + (-1)) - 1).toNatClampNeg), .long (mL σ 40 (x3 + (-1)).toNatClampNeg)] σ (some (.long v3), σ1) ∧ Sg t σ1 ∧ (inb ((x3 + (-1)) - 1) 64 = true ∧ (∀ (σ4 : Mm), σ4 = uL σ1 40 ((x3 + (-1)) - 1).toNatClampNeg v3 → (inb ((x3 + (-1)) - 1) 64 = true ∧ (((mL σ4 40 ((x3 + (-1)) - 1).toNatClampNeg) = (-9223372036854775808) → (w = (some (.long (-9223372036854775808)), σ4))) ∧ (¬ ((mL σ4 40 ((x3 + (-1)) - 1).toNatClampNeg) = (-9223372036854775808)) → Ev 12 10 [.ref 38, .ref a1, .int x2, .int (x3 + (-1)), .int (x4 + 1), .int x5, .int x6] [] σ4 w)))))))))))) :
    Ev 12 108 [.ref 38, .ref a1, .int x2, .int x3, .int x4, .int x5, .int x6] [] σ w := by
  refine e_iload d_12_108 rfl rfl ?_
  refine e_bipush d_12_110 cb_23 rfl ?_
  refine e_icmp_ne (t := 156) d_12_112 (by decide) rfl (fun hc => ?_) (fun hc => ?_)
  · replace H := H.2 hc
    refine e_iload_n d_12_156 rfl rfl ?_
    refine e_iconst d_12_157 ci_2 rfl ?_
    refine e_icmp_ge (t := 165) d_12_158 (by decide) rfl (fun hc => ?_) (fun hc => ?_)
    · replace H := H.2 hc
      refine e_iinc (ls2 := [.ref 38, .ref a1, .int x2, .int (x3 + (-1)), .int x4, .int x5, .int x6]) d_12_165 rfl ci_m1 rfl rfl rfl ?_
      refine e_aload_n d_12_168 rfl rfl ?_
      refine e_getR d_12_169 oo_12 pF_1_15 (by decide) (hS.k rfl) (hS.r rt_38_6) rfl ?_
      refine e_iload_n d_12_172 rfl rfl ?_
      refine e_iconst d_12_173 ci_1 rfl ?_
      refine e_isub d_12_174 rfl ?_
      refine e_iload d_12_175 rfl rfl ?_
      refine e_aload_n d_12_177 rfl rfl ?_
      refine e_getR d_12_178 oo_12 pF_1_15 (by decide) (hS.k rfl) (hS.r rt_38_6) rfl ?_
      refine e_iload_n d_12_181 rfl rfl ?_
      refine e_iconst d_12_182 ci_1 rfl ?_
      refine e_isub d_12_183 rfl ?_
      obtain ⟨hb, H⟩ := H
      refine e_laload (v := (mL σ 40 ((x3 + (-1)) - 1).toNatClampNeg)) d_12_184 (rdL_at (hS.k rfl) hb) rfl ?_
      refine e_aload_n d_12_185 rfl rfl ?_
      refine e_getR d_12_186 oo_12 pF_1_15 (by decide) (hS.k rfl) (hS.r rt_38_6) rfl ?_
      refine e_iload_n d_12_189 rfl rfl ?_
      obtain ⟨hb, H⟩ := H
      refine e_laload (v := (mL σ 40 (x3 + (-1)).toNatClampNeg)) d_12_190 (rdL_at (hS.k rfl) hb) rfl ?_
      obtain ⟨v3, σ1, hcl, hS2, H⟩ := H
      refine e_scall (w1 := (some (.long v3), σ1)) d_12_191 kc_12_191 rfl ⟨Nat.le_of_ble_eq_true rfl, xx_12.symm⟩ rfl hcl ?_
      show Ev 12 194 [.ref 38, .ref a1, .int x2, .int (x3 + (-1)), .int x4, .int x5, .int x6] [.long v3, .int ((x3 + (-1)) - 1), .ref 40] σ1 w
      obtain ⟨hb, H⟩ := H
      refine e_lastore d_12_194 (okI_at (hS2.k rfl) hb) rfl ?_
      generalize hm5 : uL σ1 40 ((x3 + (-1)) - 1).toNatClampNeg v3 = σ4
      have hS6 : Sg t σ4 := by rw [← hm5]; exact hS2.uL
      replace H := H σ4 hm5.symm
      refine e_aload_n d_12_195 rfl rfl ?_
      refine e_getR d_12_196 oo_12 pF_1_15 (by decide) (hS6.k rfl) (hS6.r rt_38_6) rfl ?_
      refine e_iload_n d_12_199 rfl rfl ?_
      refine e_iconst d_12_200 ci_1 rfl ?_
      refine e_isub d_12_201 rfl ?_
      obtain ⟨hb, H⟩ := H
      refine e_laload (v := (mL σ4 40 ((x3 + (-1)) - 1).toNatClampNeg)) d_12_202 (rdL_at (hS6.k rfl) hb) rfl ?_
      refine e_ldc2 d_12_203 oo_12 pL_1_90 rfl ?_
      refine e_lc_ne (t := 214) d_12_206 d_12_207 rfl (by decide) rfl (fun hc => ?_) (fun hc => ?_)
      · replace H := H.2 hc
        refine e_iinc (ls2 := [.ref 38, .ref a1, .int x2, .int (x3 + (-1)), .int (x4 + 1), .int x5, .int x6]) d_12_214 rfl ci_1 rfl rfl rfl ?_
        refine e_goto (t := 10) d_12_217 (by decide) ?_
        exact H
      · replace H := H.1 hc
        refine e_ldc2 d_12_210 oo_12 pL_1_90 rfl ?_
        subst H
        exact e_lret d_12_213 rr_12
    · replace H := H.1 hc
      refine e_ldc2 d_12_161 oo_12 pL_1_90 rfl ?_
      subst H
      exact e_lret d_12_164 rr_12
  · replace H := H.1 hc
    refine e_iload_n d_12_115 rfl rfl ?_
    refine e_iconst d_12_116 ci_1 rfl ?_
    refine e_icmp_ge (t := 124) d_12_117 (by decide) rfl (fun hc => ?_) (fun hc => ?_)
    · replace H := H.2 hc
      refine e_aload_n d_12_124 rfl rfl ?_
      refine e_getR d_12_125 oo_12 pF_1_15 (by decide) (hS.k rfl) (hS.r rt_38_6) rfl ?_
      refine e_iload_n d_12_128 rfl rfl ?_
      refine e_iconst d_12_129 ci_1 rfl ?_
      refine e_isub d_12_130 rfl ?_
      refine e_aload_n d_12_131 rfl rfl ?_
      refine e_getR d_12_132 oo_12 pF_1_15 (by decide) (hS.k rfl) (hS.r rt_38_6) rfl ?_
      refine e_iload_n d_12_135 rfl rfl ?_
      refine e_iconst d_12_136 ci_1 rfl ?_
      refine e_isub d_12_137 rfl ?_
      obtain ⟨hb, H⟩ := H
      refine e_laload (v := (mL σ 40 (x3 - 1).toNatClampNeg)) d_12_138 (rdL_at (hS.k rfl) hb) rfl ?_
      refine e_lconst d_12_139 cl_0 rfl ?_
      refine e_lc_ne (t := 148) d_12_140 d_12_141 rfl (by decide) rfl (fun hc => ?_) (fun hc => ?_)
      · replace H := H.2 hc
        refine e_iconst d_12_148 ci_0 rfl ?_
        obtain ⟨v9, σ7, hcl, hS8, H⟩ := H
        refine e_scall (w1 := (some (.long v9), σ7)) d_12_149 kc_12_149 rfl ⟨Nat.le_of_ble_eq_true rfl, xx_12.symm⟩ rfl hcl ?_
        show Ev 12 152 [.ref 38, .ref a1, .int x2, .int x3, .int x4, .int x5, .int x6] [.long v9, .int (x3 - 1), .ref 40] σ7 w
        obtain ⟨hb, H⟩ := H
        refine e_lastore d_12_152 (okI_at (hS8.k rfl) hb) rfl ?_
        refine e_goto (t := 214) d_12_153 (by decide) ?_
        refine e_iinc (ls2 := [.ref 38, .ref a1, .int x2, .int x3, .int (x4 + 1), .int x5, .int x6]) d_12_214 rfl ci_1 rfl rfl rfl ?_
        refine e_goto (t := 10) d_12_217 (by decide) ?_
        exact H
      · replace H := H.1 hc
        refine e_iconst d_12_144 ci_1 rfl ?_
        refine e_goto (t := 149) d_12_145 (by decide) ?_
        obtain ⟨v12, σ10, hcl, hS11, H⟩ := H
        refine e_scall (w1 := (some (.long v12), σ10)) d_12_149 kc_12_149 rfl ⟨Nat.le_of_ble_eq_true rfl, xx_12.symm⟩ rfl hcl ?_
        show Ev 12 152 [.ref 38, .ref a1, .int x2, .int x3, .int x4, .int x5, .int x6] [.long v12, .int (x3 - 1), .ref 40] σ10 w
        obtain ⟨hb, H⟩ := H
        refine e_lastore d_12_152 (okI_at (hS11.k rfl) hb) rfl ?_
        refine e_goto (t := 214) d_12_153 (by decide) ?_
        refine e_iinc (ls2 := [.ref 38, .ref a1, .int x2, .int x3, .int (x4 + 1), .int x5, .int x6]) d_12_214 rfl ci_1 rfl rfl rfl ?_
        refine e_goto (t := 10) d_12_217 (by decide) ?_
        exact H
    · replace H := H.1 hc
      refine e_ldc2 d_12_120 oo_12 pL_1_90 rfl ?_
      subst H
      exact e_lret d_12_123 rr_12
/-! X1_joined -/
theorem b_13_0 {t : Nat} {σ : Mm} {w : Option Value × Mm} {x0 : Int32} {y1 : Int64} {y3 : Int64} (hS : Sg t σ) 
    (H : (x0 = 21 → ((y1 = 0 → ((y3 = 0 → (∃ (v6 : Int64) (σ4 : Mm), Cl 14 [.int 0] σ (some (.long v6), σ4) ∧ Sg t σ4 ∧ (w = (some (.long v6), σ4)))) ∧ (¬ (y3 = 0) → (∃ (v9 : Int64) (σ7 : Mm), Cl 14 [.int 1] σ (some (.long v9), σ7) ∧ Sg t σ7 ∧ (w = (some (.long v9), σ7)))))) ∧ (¬ (y1 = 0) → (∃ (v3 : Int64) (σ1 : Mm), Cl 14 [.int 1] σ (some (.long v3), σ1) ∧ Sg t σ1 ∧ (w = (some (.long v3), σ1)))))) ∧ (x0 = 22 → ((y1 = 0 → (∃ (v12 : Int64) (σ10 : Mm), Cl 14 [.int 0] σ (some (.long v12), σ10) ∧ Sg t σ10 ∧ (w = (some (.long v12), σ10)))) ∧ (¬ (y1 = 0) → ((y3 = 0 → (∃ (v15 : Int64) (σ13 : Mm), Cl 14 [.int 0] σ (some (.long v15), σ13) ∧ Sg t σ13 ∧ (w = (some (.long v15), σ13)))) ∧ (¬ (y3 = 0) → (∃ (v18 : Int64) (σ16 : Mm), Cl 14 [.int 1] σ (some (.long v18), σ16) ∧ Sg t σ16 ∧ (w = (some (.long v18), σ16)))))))) ∧ (x0 = 31 → (∃ (v21 : Int64) (σ19 : Mm), Cl 15 [.long (y1 + y3)] σ (some (.long v21), σ19) ∧ Sg t σ19 ∧ (w = (some (.long v21), σ19)))) ∧ (x0 = 32 → (∃ (v24 : Int64) (σ22 : Mm), Cl 15 [.long (y1 - y3)] σ (some (.long v24), σ22) ∧ Sg t σ22 ∧ (w = (some (.long v24), σ22)))) ∧ (x0 = 33 → (∃ (v27 : Int64) (σ25 : Mm), Cl 16 [.long y1, .long y3] σ (some (.long v27), σ25) ∧ Sg t σ25 ∧ (w = (some (.long v27), σ25)))) ∧ (x0 = 34 → ((y3 = 0 → (w = (some (.long (-9223372036854775808)), σ))) ∧ (¬ (y3 = 0) → (¬ y3 = 0 ∧ (w = (some (.long (y1 / y3)), σ)))))) ∧ (x0 = 35 → ((y1 < y3 → (∃ (v33 : Int64) (σ31 : Mm), Cl 14 [.int 1] σ (some (.long v33), σ31) ∧ Sg t σ31 ∧ (w = (some (.long v33), σ31)))) ∧ (¬ (y1 < y3) → (∃ (v30 : Int64) (σ28 : Mm), Cl 14 [.int 0] σ (some (.long v30), σ28) ∧ Sg t σ28 ∧ (w = (some (.long v30), σ28)))))) ∧ (x0 = 36 → ((y1 = y3 → (∃ (v39 : Int64) (σ37 : Mm), Cl 14 [.int 1] σ (some (.long v39), σ37) ∧ Sg t σ37 ∧ (w = (some (.long v39), σ37)))) ∧ (¬ (y1 = y3) → (∃ (v36 : Int64) (σ34 : Mm), Cl 14 [.int 0] σ (some (.long v36), σ34) ∧ Sg t σ34 ∧ (w = (some (.long v36), σ34)))))) ∧ (x0 = 37 → ((y3 < y1 → (∃ (v45 : Int64) (σ43 : Mm), Cl 14 [.int 1] σ (some (.long v45), σ43) ∧ Sg t σ43 ∧ (w = (some (.long v45), σ43)))) ∧ (¬ (y3 < y1) → (∃ (v42 : Int64) (σ40 : Mm), Cl 14 [.int 0] σ (some (.long v42), σ40) ∧ Sg t σ40 ∧ (w = (some (.long v42), σ40)))))) ∧ (x0 = 41 → ((y3 < y1 → (∃ (v48 : Int64) (σ46 : Mm), Cl 14 [.int 0] σ (some (.long v48), σ46) ∧ Sg t σ46 ∧ (w = (some (.long v48), σ46)))) ∧ (¬ (y3 < y1) → (∃ (v51 : Int64) (σ49 : Mm), Cl 14 [.int 1] σ (some (.long v51), σ49) ∧ Sg t σ49 ∧ (w = (some (.long v51), σ49)))))) ∧ (x0 = 42 → ((y1 = y3 → (∃ (v54 : Int64) (σ52 : Mm), Cl 14 [.int 0] σ (some (.long v54), σ52) ∧ Sg t σ52 ∧ (w = (some (.long v54), σ52)))) ∧ (¬ (y1 = y3) → (∃ (v57 : Int64) (σ55 : Mm), Cl 14 [.int 1] σ (some (.long v57), σ55) ∧ Sg t σ55 ∧ (w = (some (.long v57), σ55)))))) ∧ (x0 = 43 → ((y1 < y3 → (∃ (v60 : Int64) (σ58 : Mm), Cl 14 [.int 0] σ (some (.long v60), σ58) ∧ Sg t σ58 ∧ (w = (some (.long v60), σ58)))) ∧ (¬ (y1 < y3) → (∃ (v63 : Int64) (σ61 : Mm), Cl 14 [.int 1] σ (some (.long v63), σ61) ∧ Sg t σ61 ∧ (w = (some (.long v63), σ61)))))) ∧ ((¬ x0 = 21 ∧ ¬ x0 = 22 ∧ ¬ x0 = 31 ∧ ¬ x0 = 32 ∧ ¬ x0 = 33 ∧ ¬ x0 = 34 ∧ ¬ x0 = 35 ∧ ¬ x0 = 36 ∧ ¬ x0 = 37 ∧ ¬ x0 = 41 ∧ ¬ x0 = 42 ∧ ¬ x0 = 43) → (w = (some (.long (-9223372036854775808)), σ)))) :
    Ev 13 0 [.int x0, .long y1, .float 0, .long y3, .float 0] [] σ w := by
  refine e_iload_n d_13_0 rfl rfl ?_
  by_cases hs21 : x0 = 21
  · replace H := H.1 hs21
    refine e_table (off := 107) (t := 108) d_13_1 (by rw [hs21]; decide +kernel) (by decide) ?_
    refine e_lload_n d_13_108 rfl rfl ?_
    refine e_lconst d_13_109 cl_0 rfl ?_
    refine e_lc_ne (t := 120) d_13_110 d_13_111 rfl (by decide) rfl (fun hc => ?_) (fun hc => ?_)
    · replace H := H.2 hc
      refine e_iconst d_13_120 ci_1 rfl ?_
      refine e_goto (t := 125) d_13_121 (by decide) ?_
      obtain ⟨v3, σ1, hcl, hS2, H⟩ := H
      refine e_scall (w1 := (some (.long v3), σ1)) d_13_125 kc_13_125 rfl ⟨Nat.le_of_ble_eq_true rfl, xx_13.symm⟩ rfl hcl ?_
      show Ev 13 128 [.int x0, .long y1, .float 0, .long y3, .float 0] [.long v3] σ1 w
      subst H
      exact e_lret d_13_128 rr_13
    · replace H := H.1 hc
      refine e_lload_n d_13_114 rfl rfl ?_
      refine e_lconst d_13_115 cl_0 rfl ?_
      refine e_lc_eq (t := 124) d_13_116 d_13_117 rfl (by decide) rfl (fun hc => ?_) (fun hc => ?_)
      · replace H := H.1 hc
        refine e_iconst d_13_124 ci_0 rfl ?_
        obtain ⟨v6, σ4, hcl, hS5, H⟩ := H
        refine e_scall (w1 := (some (.long v6), σ4)) d_13_125 kc_13_125 rfl ⟨Nat.le_of_ble_eq_true rfl, xx_13.symm⟩ rfl hcl ?_
        show Ev 13 128 [.int x0, .long y1, .float 0, .long y3, .float 0] [.long v6] σ4 w
        subst H
        exact e_lret d_13_128 rr_13
      · replace H := H.2 hc
        refine e_iconst d_13_120 ci_1 rfl ?_
        refine e_goto (t := 125) d_13_121 (by decide) ?_
        obtain ⟨v9, σ7, hcl, hS8, H⟩ := H
        refine e_scall (w1 := (some (.long v9), σ7)) d_13_125 kc_13_125 rfl ⟨Nat.le_of_ble_eq_true rfl, xx_13.symm⟩ rfl hcl ?_
        show Ev 13 128 [.int x0, .long y1, .float 0, .long y3, .float 0] [.long v9] σ7 w
        subst H
        exact e_lret d_13_128 rr_13
  by_cases hs22 : x0 = 22
  · replace H := H.2.1 hs22
    refine e_table (off := 128) (t := 129) d_13_1 (by rw [hs22]; decide +kernel) (by decide) ?_
    refine e_lload_n d_13_129 rfl rfl ?_
    refine e_lconst d_13_130 cl_0 rfl ?_
    refine e_lc_eq (t := 145) d_13_131 d_13_132 rfl (by decide) rfl (fun hc => ?_) (fun hc => ?_)
    · replace H := H.1 hc
      refine e_iconst d_13_145 ci_0 rfl ?_
      obtain ⟨v12, σ10, hcl, hS11, H⟩ := H
      refine e_scall (w1 := (some (.long v12), σ10)) d_13_146 kc_13_146 rfl ⟨Nat.le_of_ble_eq_true rfl, xx_13.symm⟩ rfl hcl ?_
      show Ev 13 149 [.int x0, .long y1, .float 0, .long y3, .float 0] [.long v12] σ10 w
      subst H
      exact e_lret d_13_149 rr_13
    · replace H := H.2 hc
      refine e_lload_n d_13_135 rfl rfl ?_
      refine e_lconst d_13_136 cl_0 rfl ?_
      refine e_lc_eq (t := 145) d_13_137 d_13_138 rfl (by decide) rfl (fun hc => ?_) (fun hc => ?_)
      · replace H := H.1 hc
        refine e_iconst d_13_145 ci_0 rfl ?_
        obtain ⟨v15, σ13, hcl, hS14, H⟩ := H
        refine e_scall (w1 := (some (.long v15), σ13)) d_13_146 kc_13_146 rfl ⟨Nat.le_of_ble_eq_true rfl, xx_13.symm⟩ rfl hcl ?_
        show Ev 13 149 [.int x0, .long y1, .float 0, .long y3, .float 0] [.long v15] σ13 w
        subst H
        exact e_lret d_13_149 rr_13
      · replace H := H.2 hc
        refine e_iconst d_13_141 ci_1 rfl ?_
        refine e_goto (t := 146) d_13_142 (by decide) ?_
        obtain ⟨v18, σ16, hcl, hS17, H⟩ := H
        refine e_scall (w1 := (some (.long v18), σ16)) d_13_146 kc_13_146 rfl ⟨Nat.le_of_ble_eq_true rfl, xx_13.symm⟩ rfl hcl ?_
        show Ev 13 149 [.int x0, .long y1, .float 0, .long y3, .float 0] [.long v18] σ16 w
        subst H
        exact e_lret d_13_149 rr_13
  by_cases hs31 : x0 = 31
  · replace H := H.2.2.1 hs31
    refine e_table (off := 239) (t := 240) d_13_1 (by rw [hs31]; decide +kernel) (by decide) ?_
    refine e_lload_n d_13_240 rfl rfl ?_
    refine e_lload_n d_13_241 rfl rfl ?_
    refine e_ladd d_13_242 rfl ?_
    obtain ⟨v21, σ19, hcl, hS20, H⟩ := H
    refine e_scall (w1 := (some (.long v21), σ19)) d_13_243 kc_13_243 rfl ⟨Nat.le_of_ble_eq_true rfl, xx_13.symm⟩ rfl hcl ?_
    show Ev 13 246 [.int x0, .long y1, .float 0, .long y3, .float 0] [.long v21] σ19 w
    subst H
    exact e_lret d_13_246 rr_13
  by_cases hs32 : x0 = 32
  · replace H := H.2.2.2.1 hs32
    refine e_table (off := 246) (t := 247) d_13_1 (by rw [hs32]; decide +kernel) (by decide) ?_
    refine e_lload_n d_13_247 rfl rfl ?_
    refine e_lload_n d_13_248 rfl rfl ?_
    refine e_lsub d_13_249 rfl ?_
    obtain ⟨v24, σ22, hcl, hS23, H⟩ := H
    refine e_scall (w1 := (some (.long v24), σ22)) d_13_250 kc_13_250 rfl ⟨Nat.le_of_ble_eq_true rfl, xx_13.symm⟩ rfl hcl ?_
    show Ev 13 253 [.int x0, .long y1, .float 0, .long y3, .float 0] [.long v24] σ22 w
    subst H
    exact e_lret d_13_253 rr_13
  by_cases hs33 : x0 = 33
  · replace H := H.2.2.2.2.1 hs33
    refine e_table (off := 253) (t := 254) d_13_1 (by rw [hs33]; decide +kernel) (by decide) ?_
    refine e_lload_n d_13_254 rfl rfl ?_
    refine e_lload_n d_13_255 rfl rfl ?_
    obtain ⟨v27, σ25, hcl, hS26, H⟩ := H
    refine e_scall (w1 := (some (.long v27), σ25)) d_13_256 kc_13_256 rfl ⟨Nat.le_of_ble_eq_true rfl, xx_13.symm⟩ rfl hcl ?_
    show Ev 13 259 [.int x0, .long y1, .float 0, .long y3, .float 0] [.long v27] σ25 w
    subst H
    exact e_lret d_13_259 rr_13
  by_cases hs34 : x0 = 34
  · replace H := H.2.2.2.2.2.1 hs34
    refine e_table (off := 259) (t := 260) d_13_1 (by rw [hs34]; decide +kernel) (by decide) ?_
    refine e_lload_n d_13_260 rfl rfl ?_
    refine e_lconst d_13_261 cl_0 rfl ?_
    refine e_lc_ne (t := 272) d_13_262 d_13_263 rfl (by decide) rfl (fun hc => ?_) (fun hc => ?_)
    · replace H := H.2 hc
      refine e_lload_n d_13_272 rfl rfl ?_
      refine e_lload_n d_13_273 rfl rfl ?_
      obtain ⟨hz, H⟩ := H
      refine e_ldiv d_13_274 hz rfl ?_
      subst H
      exact e_lret d_13_275 rr_13
    · replace H := H.1 hc
      refine e_ldc2 d_13_266 oo_13 pL_1_90 rfl ?_
      refine e_goto (t := 275) d_13_269 (by decide) ?_
      subst H
      exact e_lret d_13_275 rr_13
  by_cases hs35 : x0 = 35
  · replace H := H.2.2.2.2.2.2.1 hs35
    refine e_table (off := 149) (t := 150) d_13_1 (by rw [hs35]; decide +kernel) (by decide) ?_
    refine e_lload_n d_13_150 rfl rfl ?_
    refine e_lload_n d_13_151 rfl rfl ?_
    refine e_lc_ge (t := 160) d_13_152 d_13_153 rfl (by decide) rfl (fun hc => ?_) (fun hc => ?_)
    · replace H := H.2 hc
      refine e_iconst d_13_160 ci_0 rfl ?_
      obtain ⟨v30, σ28, hcl, hS29, H⟩ := H
      refine e_scall (w1 := (some (.long v30), σ28)) d_13_161 kc_13_161 rfl ⟨Nat.le_of_ble_eq_true rfl, xx_13.symm⟩ rfl hcl ?_
      show Ev 13 164 [.int x0, .long y1, .float 0, .long y3, .float 0] [.long v30] σ28 w
      subst H
      exact e_lret d_13_164 rr_13
    · replace H := H.1 hc
      refine e_iconst d_13_156 ci_1 rfl ?_
      refine e_goto (t := 161) d_13_157 (by decide) ?_
      obtain ⟨v33, σ31, hcl, hS32, H⟩ := H
      refine e_scall (w1 := (some (.long v33), σ31)) d_13_161 kc_13_161 rfl ⟨Nat.le_of_ble_eq_true rfl, xx_13.symm⟩ rfl hcl ?_
      show Ev 13 164 [.int x0, .long y1, .float 0, .long y3, .float 0] [.long v33] σ31 w
      subst H
      exact e_lret d_13_164 rr_13
  by_cases hs36 : x0 = 36
  · replace H := H.2.2.2.2.2.2.2.1 hs36
    refine e_table (off := 179) (t := 180) d_13_1 (by rw [hs36]; decide +kernel) (by decide) ?_
    refine e_lload_n d_13_180 rfl rfl ?_
    refine e_lload_n d_13_181 rfl rfl ?_
    refine e_lc_ne (t := 190) d_13_182 d_13_183 rfl (by decide) rfl (fun hc => ?_) (fun hc => ?_)
    · replace H := H.2 hc
      refine e_iconst d_13_190 ci_0 rfl ?_
      obtain ⟨v36, σ34, hcl, hS35, H⟩ := H
      refine e_scall (w1 := (some (.long v36), σ34)) d_13_191 kc_13_191 rfl ⟨Nat.le_of_ble_eq_true rfl, xx_13.symm⟩ rfl hcl ?_
      show Ev 13 194 [.int x0, .long y1, .float 0, .long y3, .float 0] [.long v36] σ34 w
      subst H
      exact e_lret d_13_194 rr_13
    · replace H := H.1 hc
      refine e_iconst d_13_186 ci_1 rfl ?_
      refine e_goto (t := 191) d_13_187 (by decide) ?_
      obtain ⟨v39, σ37, hcl, hS38, H⟩ := H
      refine e_scall (w1 := (some (.long v39), σ37)) d_13_191 kc_13_191 rfl ⟨Nat.le_of_ble_eq_true rfl, xx_13.symm⟩ rfl hcl ?_
      show Ev 13 194 [.int x0, .long y1, .float 0, .long y3, .float 0] [.long v39] σ37 w
      subst H
      exact e_lret d_13_194 rr_13
  by_cases hs37 : x0 = 37
  · replace H := H.2.2.2.2.2.2.2.2.1 hs37
    refine e_table (off := 224) (t := 225) d_13_1 (by rw [hs37]; decide +kernel) (by decide) ?_
    refine e_lload_n d_13_225 rfl rfl ?_
    refine e_lload_n d_13_226 rfl rfl ?_
    refine e_lc_le (t := 235) d_13_227 d_13_228 rfl (by decide) rfl (fun hc => ?_) (fun hc => ?_)
    · replace H := H.2 hc
      refine e_iconst d_13_235 ci_0 rfl ?_
      obtain ⟨v42, σ40, hcl, hS41, H⟩ := H
      refine e_scall (w1 := (some (.long v42), σ40)) d_13_236 kc_13_236 rfl ⟨Nat.le_of_ble_eq_true rfl, xx_13.symm⟩ rfl hcl ?_
      show Ev 13 239 [.int x0, .long y1, .float 0, .long y3, .float 0] [.long v42] σ40 w
      subst H
      exact e_lret d_13_239 rr_13
    · replace H := H.1 hc
      refine e_iconst d_13_231 ci_1 rfl ?_
      refine e_goto (t := 236) d_13_232 (by decide) ?_
      obtain ⟨v45, σ43, hcl, hS44, H⟩ := H
      refine e_scall (w1 := (some (.long v45), σ43)) d_13_236 kc_13_236 rfl ⟨Nat.le_of_ble_eq_true rfl, xx_13.symm⟩ rfl hcl ?_
      show Ev 13 239 [.int x0, .long y1, .float 0, .long y3, .float 0] [.long v45] σ43 w
      subst H
      exact e_lret d_13_239 rr_13
  by_cases hs41 : x0 = 41
  · replace H := H.2.2.2.2.2.2.2.2.2.1 hs41
    refine e_table (off := 164) (t := 165) d_13_1 (by rw [hs41]; decide +kernel) (by decide) ?_
    refine e_lload_n d_13_165 rfl rfl ?_
    refine e_lload_n d_13_166 rfl rfl ?_
    refine e_lc_gt (t := 175) d_13_167 d_13_168 rfl (by decide) rfl (fun hc => ?_) (fun hc => ?_)
    · replace H := H.1 hc
      refine e_iconst d_13_175 ci_0 rfl ?_
      obtain ⟨v48, σ46, hcl, hS47, H⟩ := H
      refine e_scall (w1 := (some (.long v48), σ46)) d_13_176 kc_13_176 rfl ⟨Nat.le_of_ble_eq_true rfl, xx_13.symm⟩ rfl hcl ?_
      show Ev 13 179 [.int x0, .long y1, .float 0, .long y3, .float 0] [.long v48] σ46 w
      subst H
      exact e_lret d_13_179 rr_13
    · replace H := H.2 hc
      refine e_iconst d_13_171 ci_1 rfl ?_
      refine e_goto (t := 176) d_13_172 (by decide) ?_
      obtain ⟨v51, σ49, hcl, hS50, H⟩ := H
      refine e_scall (w1 := (some (.long v51), σ49)) d_13_176 kc_13_176 rfl ⟨Nat.le_of_ble_eq_true rfl, xx_13.symm⟩ rfl hcl ?_
      show Ev 13 179 [.int x0, .long y1, .float 0, .long y3, .float 0] [.long v51] σ49 w
      subst H
      exact e_lret d_13_179 rr_13
  by_cases hs42 : x0 = 42
  · replace H := H.2.2.2.2.2.2.2.2.2.2.1 hs42
    refine e_table (off := 194) (t := 195) d_13_1 (by rw [hs42]; decide +kernel) (by decide) ?_
    refine e_lload_n d_13_195 rfl rfl ?_
    refine e_lload_n d_13_196 rfl rfl ?_
    refine e_lc_eq (t := 205) d_13_197 d_13_198 rfl (by decide) rfl (fun hc => ?_) (fun hc => ?_)
    · replace H := H.1 hc
      refine e_iconst d_13_205 ci_0 rfl ?_
      obtain ⟨v54, σ52, hcl, hS53, H⟩ := H
      refine e_scall (w1 := (some (.long v54), σ52)) d_13_206 kc_13_206 rfl ⟨Nat.le_of_ble_eq_true rfl, xx_13.symm⟩ rfl hcl ?_
      show Ev 13 209 [.int x0, .long y1, .float 0, .long y3, .float 0] [.long v54] σ52 w
      subst H
      exact e_lret d_13_209 rr_13
    · replace H := H.2 hc
      refine e_iconst d_13_201 ci_1 rfl ?_
      refine e_goto (t := 206) d_13_202 (by decide) ?_
      obtain ⟨v57, σ55, hcl, hS56, H⟩ := H
      refine e_scall (w1 := (some (.long v57), σ55)) d_13_206 kc_13_206 rfl ⟨Nat.le_of_ble_eq_true rfl, xx_13.symm⟩ rfl hcl ?_
      show Ev 13 209 [.int x0, .long y1, .float 0, .long y3, .float 0] [.long v57] σ55 w
      subst H
      exact e_lret d_13_209 rr_13
  by_cases hs43 : x0 = 43
  · replace H := H.2.2.2.2.2.2.2.2.2.2.2.1 hs43
    refine e_table (off := 209) (t := 210) d_13_1 (by rw [hs43]; decide +kernel) (by decide) ?_
    refine e_lload_n d_13_210 rfl rfl ?_
    refine e_lload_n d_13_211 rfl rfl ?_
    refine e_lc_lt (t := 220) d_13_212 d_13_213 rfl (by decide) rfl (fun hc => ?_) (fun hc => ?_)
    · replace H := H.1 hc
      refine e_iconst d_13_220 ci_0 rfl ?_
      obtain ⟨v60, σ58, hcl, hS59, H⟩ := H
      refine e_scall (w1 := (some (.long v60), σ58)) d_13_221 kc_13_221 rfl ⟨Nat.le_of_ble_eq_true rfl, xx_13.symm⟩ rfl hcl ?_
      show Ev 13 224 [.int x0, .long y1, .float 0, .long y3, .float 0] [.long v60] σ58 w
      subst H
      exact e_lret d_13_224 rr_13
    · replace H := H.2 hc
      refine e_iconst d_13_216 ci_1 rfl ?_
      refine e_goto (t := 221) d_13_217 (by decide) ?_
      obtain ⟨v63, σ61, hcl, hS62, H⟩ := H
      refine e_scall (w1 := (some (.long v63), σ61)) d_13_221 kc_13_221 rfl ⟨Nat.le_of_ble_eq_true rfl, xx_13.symm⟩ rfl hcl ?_
      show Ev 13 224 [.int x0, .long y1, .float 0, .long y3, .float 0] [.long v63] σ61 w
      subst H
      exact e_lret d_13_224 rr_13
  replace H := H.2.2.2.2.2.2.2.2.2.2.2.2 ⟨hs21, hs22, hs31, hs32, hs33, hs34, hs35, hs36, hs37, hs41, hs42, hs43⟩
  refine e_table (off := 275) (t := 276) d_13_1 (sw_13_1 hs21 hs22 hs31 hs32 hs33 hs34 hs35 hs36 hs37 hs41 hs42 hs43) (by decide) ?_
  refine e_ldc2 d_13_276 oo_13 pL_1_90 rfl ?_
  subst H
  exact e_lret d_13_279 rr_13
/-! X1_asValue -/
theorem b_14_0 {t : Nat} {σ : Mm} {w : Option Value × Mm} {x0 : Int32} (hS : Sg t σ) 
    (H : (x0 = 0 → (w = (some (.long 0), σ))) ∧ (¬ (x0 = 0) → (w = (some (.long 1), σ)))) :
    Ev 14 0 [.int x0] [] σ w := by
  refine e_iload_n d_14_0 rfl rfl ?_
  refine e_if_eq (t := 8) d_14_1 (by decide) rfl (fun hc => ?_) (fun hc => ?_)
  · replace H := H.1 hc
    refine e_lconst d_14_8 cl_0 rfl ?_
    subst H
    exact e_lret d_14_9 rr_14
  · replace H := H.2 hc
    refine e_lconst d_14_4 cl_1 rfl ?_
    refine e_goto (t := 9) d_14_5 (by decide) ?_
    subst H
    exact e_lret d_14_9 rr_14
/-! X1_bounded -/
theorem b_15_0 {t : Nat} {σ : Mm} {w : Option Value × Mm} {y0 : Int64} (hS : Sg t σ) 
    (H : (1000000000000 < y0 → (w = (some (.long (-9223372036854775808)), σ))) ∧ (¬ (1000000000000 < y0) → ((y0 < (-1000000000000) → (w = (some (.long (-9223372036854775808)), σ))) ∧ (¬ (y0 < (-1000000000000)) → (w = (some (.long y0), σ)))))) :
    Ev 15 0 [.long y0, .float 0] [] σ w := by
  refine e_lload_n d_15_0 rfl rfl ?_
  refine e_ldc2 d_15_1 oo_15 pL_1_176 rfl ?_
  refine e_lc_gt (t := 16) d_15_4 d_15_5 rfl (by decide) rfl (fun hc => ?_) (fun hc => ?_)
  · replace H := H.1 hc
    refine e_ldc2 d_15_16 oo_15 pL_1_90 rfl ?_
    refine e_goto (t := 23) d_15_19 (by decide) ?_
    subst H
    exact e_lret d_15_23 rr_15
  · replace H := H.2 hc
    refine e_lload_n d_15_8 rfl rfl ?_
    refine e_ldc2 d_15_9 oo_15 pL_1_178 rfl ?_
    refine e_lc_ge (t := 22) d_15_12 d_15_13 rfl (by decide) rfl (fun hc => ?_) (fun hc => ?_)
    · replace H := H.2 hc
      refine e_lload_n d_15_22 rfl rfl ?_
      subst H
      exact e_lret d_15_23 rr_15
    · replace H := H.1 hc
      refine e_ldc2 d_15_16 oo_15 pL_1_90 rfl ?_
      refine e_goto (t := 23) d_15_19 (by decide) ?_
      subst H
      exact e_lret d_15_23 rr_15
/-! X1_product -/
theorem b_16_0 {t : Nat} {σ : Mm} {w : Option Value × Mm} {y0 : Int64} {y2 : Int64} (hS : Sg t σ) 
    (H : (y0 = 0 → (w = (some (.long (y0 * y2)), σ))) ∧ (¬ (y0 = 0) → (∃ (v3 : Int64) (σ1 : Mm), Cl 277 [.long y2] σ (some (.long v3), σ1) ∧ Sg t σ1 ∧ (∃ (v6 : Int64) (σ4 : Mm), Cl 277 [.long y0] σ1 (some (.long v6), σ4) ∧ Sg t σ4 ∧ (¬ v6 = 0 ∧ (((1000000000000 / v6) < v3 → (w = (some (.long (-9223372036854775808)), σ4))) ∧ (¬ ((1000000000000 / v6) < v3) → (w = (some (.long (y0 * y2)), σ4))))))))) :
    Ev 16 0 [.long y0, .float 0, .long y2, .float 0] [] σ w := by
  refine e_lload_n d_16_0 rfl rfl ?_
  refine e_lconst d_16_1 cl_0 rfl ?_
  refine e_lc_eq (t := 26) d_16_2 d_16_3 rfl (by decide) rfl (fun hc => ?_) (fun hc => ?_)
  · replace H := H.1 hc
    refine e_lload_n d_16_26 rfl rfl ?_
    refine e_lload_n d_16_27 rfl rfl ?_
    refine e_lmul d_16_28 rfl ?_
    subst H
    exact e_lret d_16_29 rr_16
  · replace H := H.2 hc
    refine e_lload_n d_16_6 rfl rfl ?_
    obtain ⟨v3, σ1, hcl, hS2, H⟩ := H
    refine e_scall (w1 := (some (.long v3), σ1)) d_16_7 kc_16_7 rfl ⟨Nat.le_of_ble_eq_true rfl, xx_16.symm⟩ rfl hcl ?_
    show Ev 16 10 [.long y0, .float 0, .long y2, .float 0] [.long v3] σ1 w
    refine e_ldc2 d_16_10 oo_16 pL_1_176 rfl ?_
    refine e_lload_n d_16_13 rfl rfl ?_
    obtain ⟨v6, σ4, hcl, hS5, H⟩ := H
    refine e_scall (w1 := (some (.long v6), σ4)) d_16_14 kc_16_14 rfl ⟨Nat.le_of_ble_eq_true rfl, xx_16.symm⟩ rfl hcl ?_
    show Ev 16 17 [.long y0, .float 0, .long y2, .float 0] [.long v6, .long 1000000000000, .long v3] σ4 w
    obtain ⟨hz, H⟩ := H
    refine e_ldiv d_16_17 hz rfl ?_
    refine e_lc_le (t := 26) d_16_18 d_16_19 rfl (by decide) rfl (fun hc => ?_) (fun hc => ?_)
    · replace H := H.2 hc
      refine e_lload_n d_16_26 rfl rfl ?_
      refine e_lload_n d_16_27 rfl rfl ?_
      refine e_lmul d_16_28 rfl ?_
      subst H
      exact e_lret d_16_29 rr_16
    · replace H := H.1 hc
      refine e_ldc2 d_16_22 oo_16 pL_1_90 rfl ?_
      subst H
      exact e_lret d_16_25 rr_16
