/-! X6_empty -/
theorem b_88_0 {t : Nat} {σ : Mm} {w : Option Value × Mm} {a : Nat} (hS : Sg t σ) (ha : a = 3 ∨ a = 15)
    (H : ∀ (σ1 : Mm), σ1 = uI (uI (uI (uI σ a 0 0) a 1 0) a 2 0) a 3 0 → (∀ (σ4 : Mm), σ4 = uI (uI (uI (uI σ1 a 4 0) a 5 (-1)) a 6 (-1)) a 7 0 → Ev 88 42 [.ref a, .int 0] [] σ4 w)) :
    Ev 88 0 [.ref a, .retAddr 0] [] σ w := by
  refine e_aload_n d_88_0 rfl rfl ?_
  refine e_iconst d_88_1 ci_0 rfl ?_
  refine e_putI d_88_2 oo_88 pF_6_49 (Or.inl rfl) (hS.k (kT ha)) rfl ?_
  refine e_aload_n d_88_5 rfl rfl ?_
  refine e_iconst d_88_6 ci_0 rfl ?_
  refine e_putI d_88_7 oo_88 pF_6_52 (Or.inl rfl) (hS.uI.k (kT ha)) rfl ?_
  refine e_aload_n d_88_10 rfl rfl ?_
  refine e_iconst d_88_11 ci_0 rfl ?_
  refine e_putI d_88_12 oo_88 pF_6_55 (Or.inl rfl) (hS.uI.uI.k (kT ha)) rfl ?_
  refine e_aload_n d_88_15 rfl rfl ?_
  refine e_iconst d_88_16 ci_0 rfl ?_
  refine e_putI d_88_17 oo_88 pF_6_58 (Or.inl rfl) (hS.uI.uI.uI.k (kT ha)) rfl ?_
  generalize hm2 : uI (uI (uI (uI σ a 0 0) a 1 0) a 2 0) a 3 0 = σ1
  have hS3 : Sg t σ1 := by rw [← hm2]; exact hS.uI.uI.uI.uI
  replace H := H σ1 hm2.symm
  refine e_aload_n d_88_20 rfl rfl ?_
  refine e_iconst d_88_21 ci_0 rfl ?_
  refine e_putI d_88_22 oo_88 pF_6_61 (Or.inl rfl) (hS3.k (kT ha)) rfl ?_
  refine e_aload_n d_88_25 rfl rfl ?_
  refine e_iconst d_88_26 ci_m1 rfl ?_
  refine e_putI d_88_27 oo_88 pF_6_42 (Or.inl rfl) (hS3.uI.k (kT ha)) rfl ?_
  refine e_aload_n d_88_30 rfl rfl ?_
  refine e_iconst d_88_31 ci_m1 rfl ?_
  refine e_putI d_88_32 oo_88 pF_6_46 (Or.inl rfl) (hS3.uI.uI.k (kT ha)) rfl ?_
  refine e_aload_n d_88_35 rfl rfl ?_
  refine e_iconst d_88_36 ci_0 rfl ?_
  refine e_putI d_88_37 oo_88 pF_6_64 (Or.inl rfl) (hS3.uI.uI.uI.k (kT ha)) rfl ?_
  generalize hm5 : uI (uI (uI (uI σ1 a 4 0) a 5 (-1)) a 6 (-1)) a 7 0 = σ4
  have hS6 : Sg t σ4 := by rw [← hm5]; exact hS3.uI.uI.uI.uI
  replace H := H σ4 hm5.symm
  refine e_iconst d_88_40 ci_0 rfl ?_
  refine e_istore_n (ls2 := [.ref a, .int 0]) d_88_41 rfl rfl rfl ?_
  exact H
theorem b_88_42 {t : Nat} {σ : Mm} {w : Option Value × Mm} {x1 : Int32} {a : Nat} (hS : Sg t σ) (ha : a = 3 ∨ a = 15)
    (H : (x1 < 3 → (inb x1 3 = true ∧ (inb x1 3 = true ∧ (∀ (σ1 : Mm), σ1 = uI (uI σ (a + 9) x1.toNatClampNeg 0) (a + 10) x1.toNatClampNeg 0 → Ev 88 42 [.ref a, .int (x1 + 1)] [] σ1 w)))) ∧ (¬ (x1 < 3) → (w = (none, σ)))) :
    Ev 88 42 [.ref a, .int x1] [] σ w := by
  refine e_iload_n d_88_42 rfl rfl ?_
  refine e_iconst d_88_43 ci_3 rfl ?_
  refine e_icmp_ge (t := 67) d_88_44 (by decide) rfl (fun hc => ?_) (fun hc => ?_)
  · replace H := H.2 hc
    subst H
    exact e_vret d_88_67 rr_88
  · replace H := H.1 hc
    refine e_aload_n d_88_47 rfl rfl ?_
    refine e_getR d_88_48 oo_88 pF_6_36 (by decide) (hS.k (kT ha)) (hS.rT16 ha) rfl ?_
    refine e_iload_n d_88_51 rfl rfl ?_
    refine e_iconst d_88_52 ci_0 rfl ?_
    obtain ⟨hb, H⟩ := H
    refine e_iastore d_88_53 (okI_at (hS.k (kT9 ha)) hb) rfl ?_
    refine e_aload_n d_88_54 rfl rfl ?_
    refine e_getR d_88_55 oo_88 pF_6_39 (by decide) (hS.uI.k (kT ha)) (hS.uI.rT17 ha) rfl ?_
    refine e_iload_n d_88_58 rfl rfl ?_
    refine e_iconst d_88_59 ci_0 rfl ?_
    obtain ⟨hb, H⟩ := H
    refine e_iastore d_88_60 (okI_at (hS.uI.k (kT10 ha)) hb) rfl ?_
    generalize hm2 : uI (uI σ (a + 9) x1.toNatClampNeg 0) (a + 10) x1.toNatClampNeg 0 = σ1
    have hS3 : Sg t σ1 := by rw [← hm2]; exact hS.uI.uI
    replace H := H σ1 hm2.symm
    refine e_iinc (ls2 := [.ref a, .int (x1 + 1)]) d_88_61 rfl ci_1 rfl rfl rfl ?_
    refine e_goto (t := 42) d_88_64 (by decide) ?_
    exact H
/-! X6_lampCalled -/
theorem b_89_0 {t : Nat} {σ : Mm} {w : Option Value × Mm} {a : Nat} {x1 : Int32} (hS : Sg t σ) (ha : a = 3 ∨ a = 15)
    (H : Ev 89 2 [.ref a, .int x1, .int 0] [] σ w) :
    Ev 89 0 [.ref a, .int x1, .retAddr 0] [] σ w := by
  refine e_iconst d_89_0 ci_0 rfl ?_
  refine e_istore_n (ls2 := [.ref a, .int x1, .int 0]) d_89_1 rfl rfl rfl ?_
  exact H
theorem b_89_2 {t : Nat} {σ : Mm} {w : Option Value × Mm} {x1 : Int32} {x2 : Int32} {a : Nat} (hS : Sg t σ) (ha : a = 3 ∨ a = 15)
    (H : (x2 < (mI σ a 0) → (inb x2 14 = true ∧ (((mI σ (a + 1) x2.toNatClampNeg) = x1 → (w = (some (.int x2), σ))) ∧ (¬ ((mI σ (a + 1) x2.toNatClampNeg) = x1) → Ev 89 2 [.ref a, .int x1, .int (x2 + 1)] [] σ w)))) ∧ (¬ (x2 < (mI σ a 0)) → (w = (some (.int (-1)), σ)))) :
    Ev 89 2 [.ref a, .int x1, .int x2] [] σ w := by
  refine e_iload_n d_89_2 rfl rfl ?_
  refine e_aload_n d_89_3 rfl rfl ?_
  refine e_getI d_89_4 oo_89 pF_6_49 (by decide) (hS.k (kT ha)) rfl ?_
  refine e_icmp_ge (t := 28) d_89_7 (by decide) rfl (fun hc => ?_) (fun hc => ?_)
  · replace H := H.2 hc
    refine e_iconst d_89_28 ci_m1 rfl ?_
    subst H
    exact e_iret d_89_29 rr_89
  · replace H := H.1 hc
    refine e_aload_n d_89_10 rfl rfl ?_
    refine e_getR d_89_11 oo_89 pF_6_9 (by decide) (hS.k (kT ha)) (hS.rT8 ha) rfl ?_
    refine e_iload_n d_89_14 rfl rfl ?_
    obtain ⟨hb, H⟩ := H
    refine e_iaload (v := (mI σ (a + 1) x2.toNatClampNeg)) d_89_15 (rdI_at (hS.k (kT1 ha)) hb) rfl ?_
    refine e_iload_n d_89_16 rfl rfl ?_
    refine e_icmp_ne (t := 22) d_89_17 (by decide) rfl (fun hc => ?_) (fun hc => ?_)
    · replace H := H.2 hc
      refine e_iinc (ls2 := [.ref a, .int x1, .int (x2 + 1)]) d_89_22 rfl ci_1 rfl rfl rfl ?_
      refine e_goto (t := 2) d_89_25 (by decide) ?_
      exact H
    · replace H := H.1 hc
      refine e_iload_n d_89_20 rfl rfl ?_
      subst H
      exact e_iret d_89_21 rr_89
/-! X6_pullCalled -/
theorem b_90_0 {t : Nat} {σ : Mm} {w : Option Value × Mm} {a : Nat} {x1 : Int32} (hS : Sg t σ) (ha : a = 3 ∨ a = 15)
    (H : Ev 90 2 [.ref a, .int x1, .int 0] [] σ w) :
    Ev 90 0 [.ref a, .int x1, .retAddr 0] [] σ w := by
  refine e_iconst d_90_0 ci_0 rfl ?_
  refine e_istore_n (ls2 := [.ref a, .int x1, .int 0]) d_90_1 rfl rfl rfl ?_
  exact H
theorem b_90_2 {t : Nat} {σ : Mm} {w : Option Value × Mm} {x1 : Int32} {x2 : Int32} {a : Nat} (hS : Sg t σ) (ha : a = 3 ∨ a = 15)
    (H : (x2 < (mI σ a 1) → (inb x2 10 = true ∧ (((mI σ (a + 2) x2.toNatClampNeg) = x1 → (w = (some (.int x2), σ))) ∧ (¬ ((mI σ (a + 2) x2.toNatClampNeg) = x1) → Ev 90 2 [.ref a, .int x1, .int (x2 + 1)] [] σ w)))) ∧ (¬ (x2 < (mI σ a 1)) → (w = (some (.int (-1)), σ)))) :
    Ev 90 2 [.ref a, .int x1, .int x2] [] σ w := by
  refine e_iload_n d_90_2 rfl rfl ?_
  refine e_aload_n d_90_3 rfl rfl ?_
  refine e_getI d_90_4 oo_90 pF_6_52 (by decide) (hS.k (kT ha)) rfl ?_
  refine e_icmp_ge (t := 28) d_90_7 (by decide) rfl (fun hc => ?_) (fun hc => ?_)
  · replace H := H.2 hc
    refine e_iconst d_90_28 ci_m1 rfl ?_
    subst H
    exact e_iret d_90_29 rr_90
  · replace H := H.1 hc
    refine e_aload_n d_90_10 rfl rfl ?_
    refine e_getR d_90_11 oo_90 pF_6_15 (by decide) (hS.k (kT ha)) (hS.rT9 ha) rfl ?_
    refine e_iload_n d_90_14 rfl rfl ?_
    obtain ⟨hb, H⟩ := H
    refine e_iaload (v := (mI σ (a + 2) x2.toNatClampNeg)) d_90_15 (rdI_at (hS.k (kT2 ha)) hb) rfl ?_
    refine e_iload_n d_90_16 rfl rfl ?_
    refine e_icmp_ne (t := 22) d_90_17 (by decide) rfl (fun hc => ?_) (fun hc => ?_)
    · replace H := H.2 hc
      refine e_iinc (ls2 := [.ref a, .int x1, .int (x2 + 1)]) d_90_22 rfl ci_1 rfl rfl rfl ?_
      refine e_goto (t := 2) d_90_25 (by decide) ?_
      exact H
    · replace H := H.1 hc
      refine e_iload_n d_90_20 rfl rfl ?_
      subst H
      exact e_iret d_90_21 rr_90
/-! X6_hasLaw -/
theorem b_91_0 {t : Nat} {σ : Mm} {w : Option Value × Mm} {a : Nat} {x1 : Int32} (hS : Sg t σ) (ha : a = 3 ∨ a = 15)
    (H : inb x1 3 = true ∧ (inb x1 3 = true ∧ (((mI σ (a + 9) x1.toNatClampNeg) < (mI σ (a + 10) x1.toNatClampNeg) → (w = (some (.int 1), σ))) ∧ (¬ ((mI σ (a + 9) x1.toNatClampNeg) < (mI σ (a + 10) x1.toNatClampNeg)) → (w = (some (.int 0), σ)))))) :
    Ev 91 0 [.ref a, .int x1] [] σ w := by
  refine e_aload_n d_91_0 rfl rfl ?_
  refine e_getR d_91_1 oo_91 pF_6_39 (by decide) (hS.k (kT ha)) (hS.rT17 ha) rfl ?_
  refine e_iload_n d_91_4 rfl rfl ?_
  obtain ⟨hb, H⟩ := H
  refine e_iaload (v := (mI σ (a + 10) x1.toNatClampNeg)) d_91_5 (rdI_at (hS.k (kT10 ha)) hb) rfl ?_
  refine e_aload_n d_91_6 rfl rfl ?_
  refine e_getR d_91_7 oo_91 pF_6_36 (by decide) (hS.k (kT ha)) (hS.rT16 ha) rfl ?_
  refine e_iload_n d_91_10 rfl rfl ?_
  obtain ⟨hb, H⟩ := H
  refine e_iaload (v := (mI σ (a + 9) x1.toNatClampNeg)) d_91_11 (rdI_at (hS.k (kT9 ha)) hb) rfl ?_
  refine e_icmp_le (t := 19) d_91_12 (by decide) rfl (fun hc => ?_) (fun hc => ?_)
  · replace H := H.2 hc
    refine e_iconst d_91_19 ci_0 rfl ?_
    subst H
    exact e_zret d_91_20 rr_91 (Or.inl rfl)
  · replace H := H.1 hc
    refine e_iconst d_91_15 ci_1 rfl ?_
    refine e_goto (t := 20) d_91_16 (by decide) ?_
    subst H
    exact e_zret d_91_20 rr_91 (Or.inr rfl)
/-! X6_burnOdds -/
theorem b_92_0 {t : Nat} {σ : Mm} {w : Option Value × Mm} {a : Nat} (hS : Sg t σ) (ha : a = 3 ∨ a = 15)
    (H : ((mI σ a 5) = (-1) → (w = (some (.int 0), σ))) ∧ (¬ ((mI σ a 5) = (-1)) → (w = (some (.int (mI σ a 5)), σ)))) :
    Ev 92 0 [.ref a] [] σ w := by
  refine e_aload_n d_92_0 rfl rfl ?_
  refine e_getI d_92_1 oo_92 pF_6_42 (by decide) (hS.k (kT ha)) rfl ?_
  refine e_iconst d_92_4 ci_m1 rfl ?_
  refine e_icmp_ne (t := 12) d_92_5 (by decide) rfl (fun hc => ?_) (fun hc => ?_)
  · replace H := H.2 hc
    refine e_aload_n d_92_12 rfl rfl ?_
    refine e_getI d_92_13 oo_92 pF_6_42 (by decide) (hS.k (kT ha)) rfl ?_
    subst H
    exact e_iret d_92_16 rr_92
  · replace H := H.1 hc
    refine e_iconst d_92_8 ci_0 rfl ?_
    refine e_goto (t := 16) d_92_9 (by decide) ?_
    subst H
    exact e_iret d_92_16 rr_92
/-! X6_firstNumber -/
theorem b_93_0 {t : Nat} {σ : Mm} {w : Option Value × Mm} {a : Nat} (hS : Sg t σ) (ha : a = 3 ∨ a = 15)
    (H : ((mI σ a 6) = (-1) → (w = (some (.int 0), σ))) ∧ (¬ ((mI σ a 6) = (-1)) → (w = (some (.int (mI σ a 6)), σ)))) :
    Ev 93 0 [.ref a] [] σ w := by
  refine e_aload_n d_93_0 rfl rfl ?_
  refine e_getI d_93_1 oo_93 pF_6_46 (by decide) (hS.k (kT ha)) rfl ?_
  refine e_iconst d_93_4 ci_m1 rfl ?_
  refine e_icmp_ne (t := 12) d_93_5 (by decide) rfl (fun hc => ?_) (fun hc => ?_)
  · replace H := H.2 hc
    refine e_aload_n d_93_12 rfl rfl ?_
    refine e_getI d_93_13 oo_93 pF_6_46 (by decide) (hS.k (kT ha)) rfl ?_
    subst H
    exact e_iret d_93_16 rr_93
  · replace H := H.1 hc
    refine e_iconst d_93_8 ci_0 rfl ?_
    refine e_goto (t := 16) d_93_9 (by decide) ?_
    subst H
    exact e_iret d_93_16 rr_93
/-! X6_mendsIn -/
theorem b_94_0 {t : Nat} {σ : Mm} {w : Option Value × Mm} {a : Nat} {x1 : Int32} (hS : Sg t σ) (ha : a = 3 ∨ a = 15)
    (H : Ev 94 2 [.ref a, .int x1, .int 0] [] σ w) :
    Ev 94 0 [.ref a, .int x1, .retAddr 0] [] σ w := by
  refine e_iconst d_94_0 ci_0 rfl ?_
  refine e_istore_n (ls2 := [.ref a, .int x1, .int 0]) d_94_1 rfl rfl rfl ?_
  exact H
theorem b_94_2 {t : Nat} {σ : Mm} {w : Option Value × Mm} {x1 : Int32} {x2 : Int32} {a : Nat} (hS : Sg t σ) (ha : a = 3 ∨ a = 15)
    (H : (x2 < (mI σ a 4) → (inb x2 4 = true ∧ (((mI σ (a + 7) x2.toNatClampNeg) = x1 → (w = (some (.int 1), σ))) ∧ (¬ ((mI σ (a + 7) x2.toNatClampNeg) = x1) → Ev 94 2 [.ref a, .int x1, .int (x2 + 1)] [] σ w)))) ∧ (¬ (x2 < (mI σ a 4)) → (w = (some (.int 0), σ)))) :
    Ev 94 2 [.ref a, .int x1, .int x2] [] σ w := by
  refine e_iload_n d_94_2 rfl rfl ?_
  refine e_aload_n d_94_3 rfl rfl ?_
  refine e_getI d_94_4 oo_94 pF_6_61 (by decide) (hS.k (kT ha)) rfl ?_
  refine e_icmp_ge (t := 28) d_94_7 (by decide) rfl (fun hc => ?_) (fun hc => ?_)
  · replace H := H.2 hc
    refine e_iconst d_94_28 ci_0 rfl ?_
    subst H
    exact e_zret d_94_29 rr_94 (Or.inl rfl)
  · replace H := H.1 hc
    refine e_aload_n d_94_10 rfl rfl ?_
    refine e_getR d_94_11 oo_94 pF_6_30 (by decide) (hS.k (kT ha)) (hS.rT14 ha) rfl ?_
    refine e_iload_n d_94_14 rfl rfl ?_
    obtain ⟨hb, H⟩ := H
    refine e_iaload (v := (mI σ (a + 7) x2.toNatClampNeg)) d_94_15 (rdI_at (hS.k (kT7 ha)) hb) rfl ?_
    refine e_iload_n d_94_16 rfl rfl ?_
    refine e_icmp_ne (t := 22) d_94_17 (by decide) rfl (fun hc => ?_) (fun hc => ?_)
    · replace H := H.2 hc
      refine e_iinc (ls2 := [.ref a, .int x1, .int (x2 + 1)]) d_94_22 rfl ci_1 rfl rfl rfl ?_
      refine e_goto (t := 2) d_94_25 (by decide) ?_
      exact H
    · replace H := H.1 hc
      refine e_iconst d_94_20 ci_1 rfl ?_
      subst H
      exact e_zret d_94_21 rr_94 (Or.inr rfl)
/-! X6_costOf -/
theorem b_95_0 {t : Nat} {σ : Mm} {w : Option Value × Mm} {a : Nat} {x1 : Int32} (hS : Sg t σ) (ha : a = 3 ∨ a = 15)
    (H : Ev 95 4 [.ref a, .int x1, .int 0, .int 0] [] σ w) :
    Ev 95 0 [.ref a, .int x1, .retAddr 0, .retAddr 0] [] σ w := by
  refine e_iconst d_95_0 ci_0 rfl ?_
  refine e_istore_n (ls2 := [.ref a, .int x1, .int 0, .retAddr 0]) d_95_1 rfl rfl rfl ?_
  refine e_iconst d_95_2 ci_0 rfl ?_
  refine e_istore_n (ls2 := [.ref a, .int x1, .int 0, .int 0]) d_95_3 rfl rfl rfl ?_
  exact H
theorem b_95_4 {t : Nat} {σ : Mm} {w : Option Value × Mm} {x1 : Int32} {x2 : Int32} {x3 : Int32} {a : Nat} (hS : Sg t σ) (ha : a = 3 ∨ a = 15)
    (H : (x3 < (mI σ a 1) → ((((x1 >>> (x3 &&& 31)) &&& 1) = 0 → Ev 95 4 [.ref a, .int x1, .int x2, .int (x3 + 1)] [] σ w) ∧ (¬ (((x1 >>> (x3 &&& 31)) &&& 1) = 0) → (inb x3 10 = true ∧ Ev 95 4 [.ref a, .int x1, .int (x2 + (mI σ (a + 3) x3.toNatClampNeg)), .int (x3 + 1)] [] σ w)))) ∧ (¬ (x3 < (mI σ a 1)) → (w = (some (.int x2), σ)))) :
    Ev 95 4 [.ref a, .int x1, .int x2, .int x3] [] σ w := by
  refine e_iload_n d_95_4 rfl rfl ?_
  refine e_aload_n d_95_5 rfl rfl ?_
  refine e_getI d_95_6 oo_95 pF_6_52 (by decide) (hS.k (kT ha)) rfl ?_
  refine e_icmp_ge (t := 35) d_95_9 (by decide) rfl (fun hc => ?_) (fun hc => ?_)
  · replace H := H.2 hc
    refine e_iload_n d_95_35 rfl rfl ?_
    subst H
    exact e_iret d_95_36 rr_95
  · replace H := H.1 hc
    refine e_iload_n d_95_12 rfl rfl ?_
    refine e_iload_n d_95_13 rfl rfl ?_
    refine e_ishr d_95_14 rfl ?_
    refine e_iconst d_95_15 ci_1 rfl ?_
    refine e_iand d_95_16 rfl ?_
    refine e_if_eq (t := 29) d_95_17 (by decide) rfl (fun hc => ?_) (fun hc => ?_)
    · replace H := H.1 hc
      refine e_iinc (ls2 := [.ref a, .int x1, .int x2, .int (x3 + 1)]) d_95_29 rfl ci_1 rfl rfl rfl ?_
      refine e_goto (t := 4) d_95_32 (by decide) ?_
      exact H
    · replace H := H.2 hc
      refine e_iload_n d_95_20 rfl rfl ?_
      refine e_aload_n d_95_21 rfl rfl ?_
      refine e_getR d_95_22 oo_95 pF_6_18 (by decide) (hS.k (kT ha)) (hS.rT10 ha) rfl ?_
      refine e_iload_n d_95_25 rfl rfl ?_
      obtain ⟨hb, H⟩ := H
      refine e_iaload (v := (mI σ (a + 3) x3.toNatClampNeg)) d_95_26 (rdI_at (hS.k (kT3 ha)) hb) rfl ?_
      refine e_iadd d_95_27 rfl ?_
      refine e_istore_n (ls2 := [.ref a, .int x1, .int (x2 + (mI σ (a + 3) x3.toNatClampNeg)), .int x3]) d_95_28 rfl rfl rfl ?_
      refine e_iinc (ls2 := [.ref a, .int x1, .int (x2 + (mI σ (a + 3) x3.toNatClampNeg)), .int (x3 + 1)]) d_95_29 rfl ci_1 rfl rfl rfl ?_
      refine e_goto (t := 4) d_95_32 (by decide) ?_
      exact H
