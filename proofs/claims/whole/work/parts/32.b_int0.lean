/-! J6_numberOfLeadingZeros_0f7a4 -/
theorem b_274_0 {t : Nat} {σ : Mm} {w : Option Value × Mm} {x0 : Int32} (hS : Sg t σ) 
    (H : (0 < x0 → ((x0 < 65536 → Ev 274 33 [.int x0, .int 31] [] σ w) ∧ (¬ (x0 < 65536) → Ev 274 33 [.int (Int32.toUInt32 x0 >>> (Int32.toUInt32 16 &&& Int32.toUInt32 31)).toInt32, .int (31 + (-16))] [] σ w))) ∧ (¬ (0 < x0) → ((x0 = 0 → (w = (some (.int 32), σ))) ∧ (¬ (x0 = 0) → (w = (some (.int 0), σ)))))) :
    Ev 274 0 [.int x0, .retAddr 0] [] σ w := by
  refine e_iload_n d_274_0 rfl rfl ?_
  refine e_if_gt (t := 15) d_274_1 (by decide) rfl (fun hc => ?_) (fun hc => ?_)
  · replace H := H.1 hc
    refine e_bipush d_274_15 cb_31 rfl ?_
    refine e_istore_n (ls2 := [.int x0, .int 31]) d_274_17 rfl rfl rfl ?_
    refine e_iload_n d_274_18 rfl rfl ?_
    refine e_ldc_w d_274_19 oo_274 pI_11_264 rfl ?_
    refine e_icmp_lt (t := 33) d_274_22 (by decide) rfl (fun hc => ?_) (fun hc => ?_)
    · replace H := H.1 hc
      exact H
    · replace H := H.2 hc
      refine e_iinc (ls2 := [.int x0, .int (31 + (-16))]) d_274_25 rfl ci_m16 rfl rfl rfl ?_
      refine e_iload_n d_274_28 rfl rfl ?_
      refine e_bipush d_274_29 cb_16 rfl ?_
      refine e_iushr d_274_31 rfl ?_
      refine e_istore_n (ls2 := [.int (Int32.toUInt32 x0 >>> (Int32.toUInt32 16 &&& Int32.toUInt32 31)).toInt32, .int (31 + (-16))]) d_274_32 rfl rfl rfl ?_
      exact H
  · replace H := H.2 hc
    refine e_iload_n d_274_4 rfl rfl ?_
    refine e_if_ne (t := 13) d_274_5 (by decide) rfl (fun hc => ?_) (fun hc => ?_)
    · replace H := H.2 hc
      refine e_iconst d_274_13 ci_0 rfl ?_
      subst H
      exact e_iret d_274_14 rr_274
    · replace H := H.1 hc
      refine e_bipush d_274_8 cb_32 rfl ?_
      refine e_goto (t := 14) d_274_10 (by decide) ?_
      subst H
      exact e_iret d_274_14 rr_274
theorem b_274_33 {t : Nat} {σ : Mm} {w : Option Value × Mm} {x0 : Int32} {x1 : Int32} (hS : Sg t σ) 
    (H : (x0 < 256 → ((x0 < 16 → Ev 274 61 [.int x0, .int x1] [] σ w) ∧ (¬ (x0 < 16) → Ev 274 61 [.int (Int32.toUInt32 x0 >>> (Int32.toUInt32 4 &&& Int32.toUInt32 31)).toInt32, .int (x1 + (-4))] [] σ w))) ∧ (¬ (x0 < 256) → (((Int32.toUInt32 x0 >>> (Int32.toUInt32 8 &&& Int32.toUInt32 31)).toInt32 < 16 → Ev 274 61 [.int (Int32.toUInt32 x0 >>> (Int32.toUInt32 8 &&& Int32.toUInt32 31)).toInt32, .int (x1 + (-8))] [] σ w) ∧ (¬ ((Int32.toUInt32 x0 >>> (Int32.toUInt32 8 &&& Int32.toUInt32 31)).toInt32 < 16) → Ev 274 61 [.int (Int32.toUInt32 ((Int32.toUInt32 x0 >>> (Int32.toUInt32 8 &&& Int32.toUInt32 31)).toInt32) >>> (Int32.toUInt32 4 &&& Int32.toUInt32 31)).toInt32, .int ((x1 + (-8)) + (-4))] [] σ w)))) :
    Ev 274 33 [.int x0, .int x1] [] σ w := by
  refine e_iload_n d_274_33 rfl rfl ?_
  refine e_sipush d_274_34 cs_256 rfl ?_
  refine e_icmp_lt (t := 48) d_274_37 (by decide) rfl (fun hc => ?_) (fun hc => ?_)
  · replace H := H.1 hc
    refine e_iload_n d_274_48 rfl rfl ?_
    refine e_bipush d_274_49 cb_16 rfl ?_
    refine e_icmp_lt (t := 61) d_274_51 (by decide) rfl (fun hc => ?_) (fun hc => ?_)
    · replace H := H.1 hc
      exact H
    · replace H := H.2 hc
      refine e_iinc (ls2 := [.int x0, .int (x1 + (-4))]) d_274_54 rfl ci_m4 rfl rfl rfl ?_
      refine e_iload_n d_274_57 rfl rfl ?_
      refine e_iconst d_274_58 ci_4 rfl ?_
      refine e_iushr d_274_59 rfl ?_
      refine e_istore_n (ls2 := [.int (Int32.toUInt32 x0 >>> (Int32.toUInt32 4 &&& Int32.toUInt32 31)).toInt32, .int (x1 + (-4))]) d_274_60 rfl rfl rfl ?_
      exact H
  · replace H := H.2 hc
    refine e_iinc (ls2 := [.int x0, .int (x1 + (-8))]) d_274_40 rfl ci_m8 rfl rfl rfl ?_
    refine e_iload_n d_274_43 rfl rfl ?_
    refine e_bipush d_274_44 cb_8 rfl ?_
    refine e_iushr d_274_46 rfl ?_
    refine e_istore_n (ls2 := [.int (Int32.toUInt32 x0 >>> (Int32.toUInt32 8 &&& Int32.toUInt32 31)).toInt32, .int (x1 + (-8))]) d_274_47 rfl rfl rfl ?_
    refine e_iload_n d_274_48 rfl rfl ?_
    refine e_bipush d_274_49 cb_16 rfl ?_
    refine e_icmp_lt (t := 61) d_274_51 (by decide) rfl (fun hc => ?_) (fun hc => ?_)
    · replace H := H.1 hc
      exact H
    · replace H := H.2 hc
      refine e_iinc (ls2 := [.int (Int32.toUInt32 x0 >>> (Int32.toUInt32 8 &&& Int32.toUInt32 31)).toInt32, .int ((x1 + (-8)) + (-4))]) d_274_54 rfl ci_m4 rfl rfl rfl ?_
      refine e_iload_n d_274_57 rfl rfl ?_
      refine e_iconst d_274_58 ci_4 rfl ?_
      refine e_iushr d_274_59 rfl ?_
      refine e_istore_n (ls2 := [.int (Int32.toUInt32 ((Int32.toUInt32 x0 >>> (Int32.toUInt32 8 &&& Int32.toUInt32 31)).toInt32) >>> (Int32.toUInt32 4 &&& Int32.toUInt32 31)).toInt32, .int ((x1 + (-8)) + (-4))]) d_274_60 rfl rfl rfl ?_
      exact H
theorem b_274_61 {t : Nat} {σ : Mm} {w : Option Value × Mm} {x0 : Int32} {x1 : Int32} (hS : Sg t σ) 
    (H : (x0 < 4 → (w = (some (.int (x1 - (Int32.toUInt32 x0 >>> (Int32.toUInt32 1 &&& Int32.toUInt32 31)).toInt32)), σ))) ∧ (¬ (x0 < 4) → (w = (some (.int ((x1 + (-2)) - (Int32.toUInt32 ((Int32.toUInt32 x0 >>> (Int32.toUInt32 2 &&& Int32.toUInt32 31)).toInt32) >>> (Int32.toUInt32 1 &&& Int32.toUInt32 31)).toInt32)), σ)))) :
    Ev 274 61 [.int x0, .int x1] [] σ w := by
  refine e_iload_n d_274_61 rfl rfl ?_
  refine e_iconst d_274_62 ci_4 rfl ?_
  refine e_icmp_lt (t := 73) d_274_63 (by decide) rfl (fun hc => ?_) (fun hc => ?_)
  · replace H := H.1 hc
    refine e_iload_n d_274_73 rfl rfl ?_
    refine e_iload_n d_274_74 rfl rfl ?_
    refine e_iconst d_274_75 ci_1 rfl ?_
    refine e_iushr d_274_76 rfl ?_
    refine e_isub d_274_77 rfl ?_
    subst H
    exact e_iret d_274_78 rr_274
  · replace H := H.2 hc
    refine e_iinc (ls2 := [.int x0, .int (x1 + (-2))]) d_274_66 rfl ci_m2 rfl rfl rfl ?_
    refine e_iload_n d_274_69 rfl rfl ?_
    refine e_iconst d_274_70 ci_2 rfl ?_
    refine e_iushr d_274_71 rfl ?_
    refine e_istore_n (ls2 := [.int (Int32.toUInt32 x0 >>> (Int32.toUInt32 2 &&& Int32.toUInt32 31)).toInt32, .int (x1 + (-2))]) d_274_72 rfl rfl rfl ?_
    refine e_iload_n d_274_73 rfl rfl ?_
    refine e_iload_n d_274_74 rfl rfl ?_
    refine e_iconst d_274_75 ci_1 rfl ?_
    refine e_iushr d_274_76 rfl ?_
    refine e_isub d_274_77 rfl ?_
    subst H
    exact e_iret d_274_78 rr_274
/-! J6_numberOfTrailingZeros_0f7a4 -/
theorem b_275_0 {t : Nat} {σ : Mm} {w : Option Value × Mm} {x0 : Int32} (hS : Sg t σ) 
    (H : (0 < ((x0 ^^^ (-1)) &&& (x0 - 1)) → ((65536 < ((x0 ^^^ (-1)) &&& (x0 - 1)) → Ev 275 34 [.int (Int32.toUInt32 ((x0 ^^^ (-1)) &&& (x0 - 1)) >>> (Int32.toUInt32 16 &&& Int32.toUInt32 31)).toInt32, .int (1 + 16)] [] σ w) ∧ (¬ (65536 < ((x0 ^^^ (-1)) &&& (x0 - 1))) → Ev 275 34 [.int ((x0 ^^^ (-1)) &&& (x0 - 1)), .int 1] [] σ w))) ∧ (¬ (0 < ((x0 ^^^ (-1)) &&& (x0 - 1))) → (w = (some (.int (((x0 ^^^ (-1)) &&& (x0 - 1)) &&& 32)), σ)))) :
    Ev 275 0 [.int x0, .retAddr 0] [] σ w := by
  refine e_iload_n d_275_0 rfl rfl ?_
  refine e_iconst d_275_1 ci_m1 rfl ?_
  refine e_ixor d_275_2 rfl ?_
  refine e_iload_n d_275_3 rfl rfl ?_
  refine e_iconst d_275_4 ci_1 rfl ?_
  refine e_isub d_275_5 rfl ?_
  refine e_iand d_275_6 rfl ?_
  refine e_istore_n (ls2 := [.int ((x0 ^^^ (-1)) &&& (x0 - 1)), .retAddr 0]) d_275_7 rfl rfl rfl ?_
  refine e_iload_n d_275_8 rfl rfl ?_
  refine e_if_gt (t := 17) d_275_9 (by decide) rfl (fun hc => ?_) (fun hc => ?_)
  · replace H := H.1 hc
    refine e_iconst d_275_17 ci_1 rfl ?_
    refine e_istore_n (ls2 := [.int ((x0 ^^^ (-1)) &&& (x0 - 1)), .int 1]) d_275_18 rfl rfl rfl ?_
    refine e_iload_n d_275_19 rfl rfl ?_
    refine e_ldc_w d_275_20 oo_275 pI_11_264 rfl ?_
    refine e_icmp_le (t := 34) d_275_23 (by decide) rfl (fun hc => ?_) (fun hc => ?_)
    · replace H := H.2 hc
      exact H
    · replace H := H.1 hc
      refine e_iinc (ls2 := [.int ((x0 ^^^ (-1)) &&& (x0 - 1)), .int (1 + 16)]) d_275_26 rfl ci_16 rfl rfl rfl ?_
      refine e_iload_n d_275_29 rfl rfl ?_
      refine e_bipush d_275_30 cb_16 rfl ?_
      refine e_iushr d_275_32 rfl ?_
      refine e_istore_n (ls2 := [.int (Int32.toUInt32 ((x0 ^^^ (-1)) &&& (x0 - 1)) >>> (Int32.toUInt32 16 &&& Int32.toUInt32 31)).toInt32, .int (1 + 16)]) d_275_33 rfl rfl rfl ?_
      exact H
  · replace H := H.2 hc
    refine e_iload_n d_275_12 rfl rfl ?_
    refine e_bipush d_275_13 cb_32 rfl ?_
    refine e_iand d_275_15 rfl ?_
    subst H
    exact e_iret d_275_16 rr_275
theorem b_275_34 {t : Nat} {σ : Mm} {w : Option Value × Mm} {x0 : Int32} {x1 : Int32} (hS : Sg t σ) 
    (H : (256 < x0 → ((16 < (Int32.toUInt32 x0 >>> (Int32.toUInt32 8 &&& Int32.toUInt32 31)).toInt32 → Ev 275 62 [.int (Int32.toUInt32 ((Int32.toUInt32 x0 >>> (Int32.toUInt32 8 &&& Int32.toUInt32 31)).toInt32) >>> (Int32.toUInt32 4 &&& Int32.toUInt32 31)).toInt32, .int ((x1 + 8) + 4)] [] σ w) ∧ (¬ (16 < (Int32.toUInt32 x0 >>> (Int32.toUInt32 8 &&& Int32.toUInt32 31)).toInt32) → Ev 275 62 [.int (Int32.toUInt32 x0 >>> (Int32.toUInt32 8 &&& Int32.toUInt32 31)).toInt32, .int (x1 + 8)] [] σ w))) ∧ (¬ (256 < x0) → ((16 < x0 → Ev 275 62 [.int (Int32.toUInt32 x0 >>> (Int32.toUInt32 4 &&& Int32.toUInt32 31)).toInt32, .int (x1 + 4)] [] σ w) ∧ (¬ (16 < x0) → Ev 275 62 [.int x0, .int x1] [] σ w)))) :
    Ev 275 34 [.int x0, .int x1] [] σ w := by
  refine e_iload_n d_275_34 rfl rfl ?_
  refine e_sipush d_275_35 cs_256 rfl ?_
  refine e_icmp_le (t := 49) d_275_38 (by decide) rfl (fun hc => ?_) (fun hc => ?_)
  · replace H := H.2 hc
    refine e_iload_n d_275_49 rfl rfl ?_
    refine e_bipush d_275_50 cb_16 rfl ?_
    refine e_icmp_le (t := 62) d_275_52 (by decide) rfl (fun hc => ?_) (fun hc => ?_)
    · replace H := H.2 hc
      exact H
    · replace H := H.1 hc
      refine e_iinc (ls2 := [.int x0, .int (x1 + 4)]) d_275_55 rfl ci_4 rfl rfl rfl ?_
      refine e_iload_n d_275_58 rfl rfl ?_
      refine e_iconst d_275_59 ci_4 rfl ?_
      refine e_iushr d_275_60 rfl ?_
      refine e_istore_n (ls2 := [.int (Int32.toUInt32 x0 >>> (Int32.toUInt32 4 &&& Int32.toUInt32 31)).toInt32, .int (x1 + 4)]) d_275_61 rfl rfl rfl ?_
      exact H
  · replace H := H.1 hc
    refine e_iinc (ls2 := [.int x0, .int (x1 + 8)]) d_275_41 rfl ci_8 rfl rfl rfl ?_
    refine e_iload_n d_275_44 rfl rfl ?_
    refine e_bipush d_275_45 cb_8 rfl ?_
    refine e_iushr d_275_47 rfl ?_
    refine e_istore_n (ls2 := [.int (Int32.toUInt32 x0 >>> (Int32.toUInt32 8 &&& Int32.toUInt32 31)).toInt32, .int (x1 + 8)]) d_275_48 rfl rfl rfl ?_
    refine e_iload_n d_275_49 rfl rfl ?_
    refine e_bipush d_275_50 cb_16 rfl ?_
    refine e_icmp_le (t := 62) d_275_52 (by decide) rfl (fun hc => ?_) (fun hc => ?_)
    · replace H := H.2 hc
      exact H
    · replace H := H.1 hc
      refine e_iinc (ls2 := [.int (Int32.toUInt32 x0 >>> (Int32.toUInt32 8 &&& Int32.toUInt32 31)).toInt32, .int ((x1 + 8) + 4)]) d_275_55 rfl ci_4 rfl rfl rfl ?_
      refine e_iload_n d_275_58 rfl rfl ?_
      refine e_iconst d_275_59 ci_4 rfl ?_
      refine e_iushr d_275_60 rfl ?_
      refine e_istore_n (ls2 := [.int (Int32.toUInt32 ((Int32.toUInt32 x0 >>> (Int32.toUInt32 8 &&& Int32.toUInt32 31)).toInt32) >>> (Int32.toUInt32 4 &&& Int32.toUInt32 31)).toInt32, .int ((x1 + 8) + 4)]) d_275_61 rfl rfl rfl ?_
      exact H
theorem b_275_62 {t : Nat} {σ : Mm} {w : Option Value × Mm} {x0 : Int32} {x1 : Int32} (hS : Sg t σ) 
    (H : (4 < x0 → (w = (some (.int ((x1 + 2) + (Int32.toUInt32 ((Int32.toUInt32 x0 >>> (Int32.toUInt32 2 &&& Int32.toUInt32 31)).toInt32) >>> (Int32.toUInt32 1 &&& Int32.toUInt32 31)).toInt32)), σ))) ∧ (¬ (4 < x0) → (w = (some (.int (x1 + (Int32.toUInt32 x0 >>> (Int32.toUInt32 1 &&& Int32.toUInt32 31)).toInt32)), σ)))) :
    Ev 275 62 [.int x0, .int x1] [] σ w := by
  refine e_iload_n d_275_62 rfl rfl ?_
  refine e_iconst d_275_63 ci_4 rfl ?_
  refine e_icmp_le (t := 74) d_275_64 (by decide) rfl (fun hc => ?_) (fun hc => ?_)
  · replace H := H.2 hc
    refine e_iload_n d_275_74 rfl rfl ?_
    refine e_iload_n d_275_75 rfl rfl ?_
    refine e_iconst d_275_76 ci_1 rfl ?_
    refine e_iushr d_275_77 rfl ?_
    refine e_iadd d_275_78 rfl ?_
    subst H
    exact e_iret d_275_79 rr_275
  · replace H := H.1 hc
    refine e_iinc (ls2 := [.int x0, .int (x1 + 2)]) d_275_67 rfl ci_2 rfl rfl rfl ?_
    refine e_iload_n d_275_70 rfl rfl ?_
    refine e_iconst d_275_71 ci_2 rfl ?_
    refine e_iushr d_275_72 rfl ?_
    refine e_istore_n (ls2 := [.int (Int32.toUInt32 x0 >>> (Int32.toUInt32 2 &&& Int32.toUInt32 31)).toInt32, .int (x1 + 2)]) d_275_73 rfl rfl rfl ?_
    refine e_iload_n d_275_74 rfl rfl ?_
    refine e_iload_n d_275_75 rfl rfl ?_
    refine e_iconst d_275_76 ci_1 rfl ?_
    refine e_iushr d_275_77 rfl ?_
    refine e_iadd d_275_78 rfl ?_
    subst H
    exact e_iret d_275_79 rr_275
/-! J6_bitCount_0f7a4 -/
theorem b_276_0 {t : Nat} {σ : Mm} {w : Option Value × Mm} {x0 : Int32} (hS : Sg t σ) 
    (H : w = (some (.int ((((((((x0 - ((Int32.toUInt32 x0 >>> (Int32.toUInt32 1 &&& Int32.toUInt32 31)).toInt32 &&& 1431655765)) &&& 858993459) + ((Int32.toUInt32 (x0 - ((Int32.toUInt32 x0 >>> (Int32.toUInt32 1 &&& Int32.toUInt32 31)).toInt32 &&& 1431655765)) >>> (Int32.toUInt32 2 &&& Int32.toUInt32 31)).toInt32 &&& 858993459)) + (Int32.toUInt32 (((x0 - ((Int32.toUInt32 x0 >>> (Int32.toUInt32 1 &&& Int32.toUInt32 31)).toInt32 &&& 1431655765)) &&& 858993459) + ((Int32.toUInt32 (x0 - ((Int32.toUInt32 x0 >>> (Int32.toUInt32 1 &&& Int32.toUInt32 31)).toInt32 &&& 1431655765)) >>> (Int32.toUInt32 2 &&& Int32.toUInt32 31)).toInt32 &&& 858993459)) >>> (Int32.toUInt32 4 &&& Int32.toUInt32 31)).toInt32) &&& 252645135) + (Int32.toUInt32 (((((x0 - ((Int32.toUInt32 x0 >>> (Int32.toUInt32 1 &&& Int32.toUInt32 31)).toInt32 &&& 1431655765)) &&& 858993459) + ((Int32.toUInt32 (x0 - ((Int32.toUInt32 x0 >>> (Int32.toUInt32 1 &&& Int32.toUInt32 31)).toInt32 &&& 1431655765)) >>> (Int32.toUInt32 2 &&& Int32.toUInt32 31)).toInt32 &&& 858993459)) + (Int32.toUInt32 (((x0 - ((Int32.toUInt32 x0 >>> (Int32.toUInt32 1 &&& Int32.toUInt32 31)).toInt32 &&& 1431655765)) &&& 858993459) + ((Int32.toUInt32 (x0 - ((Int32.toUInt32 x0 >>> (Int32.toUInt32 1 &&& Int32.toUInt32 31)).toInt32 &&& 1431655765)) >>> (Int32.toUInt32 2 &&& Int32.toUInt32 31)).toInt32 &&& 858993459)) >>> (Int32.toUInt32 4 &&& Int32.toUInt32 31)).toInt32) &&& 252645135) >>> (Int32.toUInt32 8 &&& Int32.toUInt32 31)).toInt32) + (Int32.toUInt32 ((((((x0 - ((Int32.toUInt32 x0 >>> (Int32.toUInt32 1 &&& Int32.toUInt32 31)).toInt32 &&& 1431655765)) &&& 858993459) + ((Int32.toUInt32 (x0 - ((Int32.toUInt32 x0 >>> (Int32.toUInt32 1 &&& Int32.toUInt32 31)).toInt32 &&& 1431655765)) >>> (Int32.toUInt32 2 &&& Int32.toUInt32 31)).toInt32 &&& 858993459)) + (Int32.toUInt32 (((x0 - ((Int32.toUInt32 x0 >>> (Int32.toUInt32 1 &&& Int32.toUInt32 31)).toInt32 &&& 1431655765)) &&& 858993459) + ((Int32.toUInt32 (x0 - ((Int32.toUInt32 x0 >>> (Int32.toUInt32 1 &&& Int32.toUInt32 31)).toInt32 &&& 1431655765)) >>> (Int32.toUInt32 2 &&& Int32.toUInt32 31)).toInt32 &&& 858993459)) >>> (Int32.toUInt32 4 &&& Int32.toUInt32 31)).toInt32) &&& 252645135) + (Int32.toUInt32 (((((x0 - ((Int32.toUInt32 x0 >>> (Int32.toUInt32 1 &&& Int32.toUInt32 31)).toInt32 &&& 1431655765)) &&& 858993459) + ((Int32.toUInt32 (x0 - ((Int32.toUInt32 x0 >>> (Int32.toUInt32 1 &&& Int32.toUInt32 31)).toInt32 &&& 1431655765)) >>> (Int32.toUInt32 2 &&& Int32.toUInt32 31)).toInt32 &&& 858993459)) + (Int32.toUInt32 (((x0 - ((Int32.toUInt32 x0 >>> (Int32.toUInt32 1 &&& Int32.toUInt32 31)).toInt32 &&& 1431655765)) &&& 858993459) + ((Int32.toUInt32 (x0 - ((Int32.toUInt32 x0 >>> (Int32.toUInt32 1 &&& Int32.toUInt32 31)).toInt32 &&& 1431655765)) >>> (Int32.toUInt32 2 &&& Int32.toUInt32 31)).toInt32 &&& 858993459)) >>> (Int32.toUInt32 4 &&& Int32.toUInt32 31)).toInt32) &&& 252645135) >>> (Int32.toUInt32 8 &&& Int32.toUInt32 31)).toInt32) >>> (Int32.toUInt32 16 &&& Int32.toUInt32 31)).toInt32) &&& 63)), σ)) :
    Ev 276 0 [.int x0] [] σ w := by
  refine e_iload_n d_276_0 rfl rfl ?_
  refine e_iload_n d_276_1 rfl rfl ?_
  refine e_iconst d_276_2 ci_1 rfl ?_
  refine e_iushr d_276_3 rfl ?_
  refine e_ldc_w d_276_4 oo_276 pI_11_265 rfl ?_
  refine e_iand d_276_7 rfl ?_
  refine e_isub d_276_8 rfl ?_
  refine e_istore_n (ls2 := [.int (x0 - ((Int32.toUInt32 x0 >>> (Int32.toUInt32 1 &&& Int32.toUInt32 31)).toInt32 &&& 1431655765))]) d_276_9 rfl rfl rfl ?_
  refine e_iload_n d_276_10 rfl rfl ?_
  refine e_ldc_w d_276_11 oo_276 pI_11_266 rfl ?_
  refine e_iand d_276_14 rfl ?_
  refine e_iload_n d_276_15 rfl rfl ?_
  refine e_iconst d_276_16 ci_2 rfl ?_
  refine e_iushr d_276_17 rfl ?_
  refine e_ldc_w d_276_18 oo_276 pI_11_266 rfl ?_
  refine e_iand d_276_21 rfl ?_
  refine e_iadd d_276_22 rfl ?_
  refine e_istore_n (ls2 := [.int (((x0 - ((Int32.toUInt32 x0 >>> (Int32.toUInt32 1 &&& Int32.toUInt32 31)).toInt32 &&& 1431655765)) &&& 858993459) + ((Int32.toUInt32 (x0 - ((Int32.toUInt32 x0 >>> (Int32.toUInt32 1 &&& Int32.toUInt32 31)).toInt32 &&& 1431655765)) >>> (Int32.toUInt32 2 &&& Int32.toUInt32 31)).toInt32 &&& 858993459))]) d_276_23 rfl rfl rfl ?_
  refine e_iload_n d_276_24 rfl rfl ?_
  refine e_iload_n d_276_25 rfl rfl ?_
  refine e_iconst d_276_26 ci_4 rfl ?_
  refine e_iushr d_276_27 rfl ?_
  refine e_iadd d_276_28 rfl ?_
  refine e_ldc_w d_276_29 oo_276 pI_11_267 rfl ?_
  refine e_iand d_276_32 rfl ?_
  refine e_istore_n (ls2 := [.int (((((x0 - ((Int32.toUInt32 x0 >>> (Int32.toUInt32 1 &&& Int32.toUInt32 31)).toInt32 &&& 1431655765)) &&& 858993459) + ((Int32.toUInt32 (x0 - ((Int32.toUInt32 x0 >>> (Int32.toUInt32 1 &&& Int32.toUInt32 31)).toInt32 &&& 1431655765)) >>> (Int32.toUInt32 2 &&& Int32.toUInt32 31)).toInt32 &&& 858993459)) + (Int32.toUInt32 (((x0 - ((Int32.toUInt32 x0 >>> (Int32.toUInt32 1 &&& Int32.toUInt32 31)).toInt32 &&& 1431655765)) &&& 858993459) + ((Int32.toUInt32 (x0 - ((Int32.toUInt32 x0 >>> (Int32.toUInt32 1 &&& Int32.toUInt32 31)).toInt32 &&& 1431655765)) >>> (Int32.toUInt32 2 &&& Int32.toUInt32 31)).toInt32 &&& 858993459)) >>> (Int32.toUInt32 4 &&& Int32.toUInt32 31)).toInt32) &&& 252645135)]) d_276_33 rfl rfl rfl ?_
  refine e_iload_n d_276_34 rfl rfl ?_
  refine e_iload_n d_276_35 rfl rfl ?_
  refine e_bipush d_276_36 cb_8 rfl ?_
  refine e_iushr d_276_38 rfl ?_
  refine e_iadd d_276_39 rfl ?_
  refine e_istore_n (ls2 := [.int ((((((x0 - ((Int32.toUInt32 x0 >>> (Int32.toUInt32 1 &&& Int32.toUInt32 31)).toInt32 &&& 1431655765)) &&& 858993459) + ((Int32.toUInt32 (x0 - ((Int32.toUInt32 x0 >>> (Int32.toUInt32 1 &&& Int32.toUInt32 31)).toInt32 &&& 1431655765)) >>> (Int32.toUInt32 2 &&& Int32.toUInt32 31)).toInt32 &&& 858993459)) + (Int32.toUInt32 (((x0 - ((Int32.toUInt32 x0 >>> (Int32.toUInt32 1 &&& Int32.toUInt32 31)).toInt32 &&& 1431655765)) &&& 858993459) + ((Int32.toUInt32 (x0 - ((Int32.toUInt32 x0 >>> (Int32.toUInt32 1 &&& Int32.toUInt32 31)).toInt32 &&& 1431655765)) >>> (Int32.toUInt32 2 &&& Int32.toUInt32 31)).toInt32 &&& 858993459)) >>> (Int32.toUInt32 4 &&& Int32.toUInt32 31)).toInt32) &&& 252645135) + (Int32.toUInt32 (((((x0 - ((Int32.toUInt32 x0 >>> (Int32.toUInt32 1 &&& Int32.toUInt32 31)).toInt32 &&& 1431655765)) &&& 858993459) + ((Int32.toUInt32 (x0 - ((Int32.toUInt32 x0 >>> (Int32.toUInt32 1 &&& Int32.toUInt32 31)).toInt32 &&& 1431655765)) >>> (Int32.toUInt32 2 &&& Int32.toUInt32 31)).toInt32 &&& 858993459)) + (Int32.toUInt32 (((x0 - ((Int32.toUInt32 x0 >>> (Int32.toUInt32 1 &&& Int32.toUInt32 31)).toInt32 &&& 1431655765)) &&& 858993459) + ((Int32.toUInt32 (x0 - ((Int32.toUInt32 x0 >>> (Int32.toUInt32 1 &&& Int32.toUInt32 31)).toInt32 &&& 1431655765)) >>> (Int32.toUInt32 2 &&& Int32.toUInt32 31)).toInt32 &&& 858993459)) >>> (Int32.toUInt32 4 &&& Int32.toUInt32 31)).toInt32) &&& 252645135) >>> (Int32.toUInt32 8 &&& Int32.toUInt32 31)).toInt32)]) d_276_40 rfl rfl rfl ?_
  refine e_iload_n d_276_41 rfl rfl ?_
  refine e_iload_n d_276_42 rfl rfl ?_
  refine e_bipush d_276_43 cb_16 rfl ?_
  refine e_iushr d_276_45 rfl ?_
  refine e_iadd d_276_46 rfl ?_
  refine e_istore_n (ls2 := [.int (((((((x0 - ((Int32.toUInt32 x0 >>> (Int32.toUInt32 1 &&& Int32.toUInt32 31)).toInt32 &&& 1431655765)) &&& 858993459) + ((Int32.toUInt32 (x0 - ((Int32.toUInt32 x0 >>> (Int32.toUInt32 1 &&& Int32.toUInt32 31)).toInt32 &&& 1431655765)) >>> (Int32.toUInt32 2 &&& Int32.toUInt32 31)).toInt32 &&& 858993459)) + (Int32.toUInt32 (((x0 - ((Int32.toUInt32 x0 >>> (Int32.toUInt32 1 &&& Int32.toUInt32 31)).toInt32 &&& 1431655765)) &&& 858993459) + ((Int32.toUInt32 (x0 - ((Int32.toUInt32 x0 >>> (Int32.toUInt32 1 &&& Int32.toUInt32 31)).toInt32 &&& 1431655765)) >>> (Int32.toUInt32 2 &&& Int32.toUInt32 31)).toInt32 &&& 858993459)) >>> (Int32.toUInt32 4 &&& Int32.toUInt32 31)).toInt32) &&& 252645135) + (Int32.toUInt32 (((((x0 - ((Int32.toUInt32 x0 >>> (Int32.toUInt32 1 &&& Int32.toUInt32 31)).toInt32 &&& 1431655765)) &&& 858993459) + ((Int32.toUInt32 (x0 - ((Int32.toUInt32 x0 >>> (Int32.toUInt32 1 &&& Int32.toUInt32 31)).toInt32 &&& 1431655765)) >>> (Int32.toUInt32 2 &&& Int32.toUInt32 31)).toInt32 &&& 858993459)) + (Int32.toUInt32 (((x0 - ((Int32.toUInt32 x0 >>> (Int32.toUInt32 1 &&& Int32.toUInt32 31)).toInt32 &&& 1431655765)) &&& 858993459) + ((Int32.toUInt32 (x0 - ((Int32.toUInt32 x0 >>> (Int32.toUInt32 1 &&& Int32.toUInt32 31)).toInt32 &&& 1431655765)) >>> (Int32.toUInt32 2 &&& Int32.toUInt32 31)).toInt32 &&& 858993459)) >>> (Int32.toUInt32 4 &&& Int32.toUInt32 31)).toInt32) &&& 252645135) >>> (Int32.toUInt32 8 &&& Int32.toUInt32 31)).toInt32) + (Int32.toUInt32 ((((((x0 - ((Int32.toUInt32 x0 >>> (Int32.toUInt32 1 &&& Int32.toUInt32 31)).toInt32 &&& 1431655765)) &&& 858993459) + ((Int32.toUInt32 (x0 - ((Int32.toUInt32 x0 >>> (Int32.toUInt32 1 &&& Int32.toUInt32 31)).toInt32 &&& 1431655765)) >>> (Int32.toUInt32 2 &&& Int32.toUInt32 31)).toInt32 &&& 858993459)) + (Int32.toUInt32 (((x0 - ((Int32.toUInt32 x0 >>> (Int32.toUInt32 1 &&& Int32.toUInt32 31)).toInt32 &&& 1431655765)) &&& 858993459) + ((Int32.toUInt32 (x0 - ((Int32.toUInt32 x0 >>> (Int32.toUInt32 1 &&& Int32.toUInt32 31)).toInt32 &&& 1431655765)) >>> (Int32.toUInt32 2 &&& Int32.toUInt32 31)).toInt32 &&& 858993459)) >>> (Int32.toUInt32 4 &&& Int32.toUInt32 31)).toInt32) &&& 252645135) + (Int32.toUInt32 (((((x0 - ((Int32.toUInt32 x0 >>> (Int32.toUInt32 1 &&& Int32.toUInt32 31)).toInt32 &&& 1431655765)) &&& 858993459) + ((Int32.toUInt32 (x0 - ((Int32.toUInt32 x0 >>> (Int32.toUInt32 1 &&& Int32.toUInt32 31)).toInt32 &&& 1431655765)) >>> (Int32.toUInt32 2 &&& Int32.toUInt32 31)).toInt32 &&& 858993459)) + (Int32.toUInt32 (((x0 - ((Int32.toUInt32 x0 >>> (Int32.toUInt32 1 &&& Int32.toUInt32 31)).toInt32 &&& 1431655765)) &&& 858993459) + ((Int32.toUInt32 (x0 - ((Int32.toUInt32 x0 >>> (Int32.toUInt32 1 &&& Int32.toUInt32 31)).toInt32 &&& 1431655765)) >>> (Int32.toUInt32 2 &&& Int32.toUInt32 31)).toInt32 &&& 858993459)) >>> (Int32.toUInt32 4 &&& Int32.toUInt32 31)).toInt32) &&& 252645135) >>> (Int32.toUInt32 8 &&& Int32.toUInt32 31)).toInt32) >>> (Int32.toUInt32 16 &&& Int32.toUInt32 31)).toInt32)]) d_276_47 rfl rfl rfl ?_
  refine e_iload_n d_276_48 rfl rfl ?_
  refine e_bipush d_276_49 cb_63 rfl ?_
  refine e_iand d_276_51 rfl ?_
  subst H
  exact e_iret d_276_52 rr_276
