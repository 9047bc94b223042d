/-! J9_abs_067f4 -/
theorem b_277_0 {t : Nat} {σ : Mm} {w : Option Value × Mm} {y0 : Int64} (hS : Sg t σ) 
    (H : (y0 < 0 → (w = (some (.long (-y0)), σ))) ∧ (¬ (y0 < 0) → (w = (some (.long y0), σ)))) :
    Ev 277 0 [.long y0, .float 0] [] σ w := by
  refine e_lload_n d_277_0 rfl rfl ?_
  refine e_lconst d_277_1 cl_0 rfl ?_
  refine e_lc_ge (t := 11) d_277_2 d_277_3 rfl (by decide) rfl (fun hc => ?_) (fun hc => ?_)
  · replace H := H.2 hc
    refine e_lload_n d_277_11 rfl rfl ?_
    subst H
    exact e_lret d_277_12 rr_277
  · replace H := H.1 hc
    refine e_lload_n d_277_6 rfl rfl ?_
    refine e_lneg d_277_7 rfl ?_
    refine e_goto (t := 12) d_277_8 (by decide) ?_
    subst H
    exact e_lret d_277_12 rr_277
/-! J9_max_7cf53 -/
theorem b_278_0 {t : Nat} {σ : Mm} {w : Option Value × Mm} {x0 : Int32} {x1 : Int32} (hS : Sg t σ) 
    (H : (x0 < x1 → (w = (some (.int x1), σ))) ∧ (¬ (x0 < x1) → (w = (some (.int x0), σ)))) :
    Ev 278 0 [.int x0, .int x1] [] σ w := by
  refine e_iload_n d_278_0 rfl rfl ?_
  refine e_iload_n d_278_1 rfl rfl ?_
  refine e_icmp_lt (t := 9) d_278_2 (by decide) rfl (fun hc => ?_) (fun hc => ?_)
  · replace H := H.1 hc
    refine e_iload_n d_278_9 rfl rfl ?_
    subst H
    exact e_iret d_278_10 rr_278
  · replace H := H.2 hc
    refine e_iload_n d_278_5 rfl rfl ?_
    refine e_goto (t := 10) d_278_6 (by decide) ?_
    subst H
    exact e_iret d_278_10 rr_278
/-! J9_max_f86c9 -/
theorem b_279_0 {t : Nat} {σ : Mm} {w : Option Value × Mm} {y0 : Int64} {y2 : Int64} (hS : Sg t σ) 
    (H : (y0 < y2 → (w = (some (.long y2), σ))) ∧ (¬ (y0 < y2) → (w = (some (.long y0), σ)))) :
    Ev 279 0 [.long y0, .float 0, .long y2, .float 0] [] σ w := by
  refine e_lload_n d_279_0 rfl rfl ?_
  refine e_lload_n d_279_1 rfl rfl ?_
  refine e_lc_lt (t := 10) d_279_2 d_279_3 rfl (by decide) rfl (fun hc => ?_) (fun hc => ?_)
  · replace H := H.1 hc
    refine e_lload_n d_279_10 rfl rfl ?_
    subst H
    exact e_lret d_279_11 rr_279
  · replace H := H.2 hc
    refine e_lload_n d_279_6 rfl rfl ?_
    refine e_goto (t := 11) d_279_7 (by decide) ?_
    subst H
    exact e_lret d_279_11 rr_279
/-! J9_min_7cf53 -/
theorem b_280_0 {t : Nat} {σ : Mm} {w : Option Value × Mm} {x0 : Int32} {x1 : Int32} (hS : Sg t σ) 
    (H : (x1 < x0 → (w = (some (.int x1), σ))) ∧ (¬ (x1 < x0) → (w = (some (.int x0), σ)))) :
    Ev 280 0 [.int x0, .int x1] [] σ w := by
  refine e_iload_n d_280_0 rfl rfl ?_
  refine e_iload_n d_280_1 rfl rfl ?_
  refine e_icmp_gt (t := 9) d_280_2 (by decide) rfl (fun hc => ?_) (fun hc => ?_)
  · replace H := H.1 hc
    refine e_iload_n d_280_9 rfl rfl ?_
    subst H
    exact e_iret d_280_10 rr_280
  · replace H := H.2 hc
    refine e_iload_n d_280_5 rfl rfl ?_
    refine e_goto (t := 10) d_280_6 (by decide) ?_
    subst H
    exact e_iret d_280_10 rr_280
/-! J9_min_f86c9 -/
theorem b_281_0 {t : Nat} {σ : Mm} {w : Option Value × Mm} {y0 : Int64} {y2 : Int64} (hS : Sg t σ) 
    (H : (y2 < y0 → (w = (some (.long y2), σ))) ∧ (¬ (y2 < y0) → (w = (some (.long y0), σ)))) :
    Ev 281 0 [.long y0, .float 0, .long y2, .float 0] [] σ w := by
  refine e_lload_n d_281_0 rfl rfl ?_
  refine e_lload_n d_281_1 rfl rfl ?_
  refine e_lc_gt (t := 10) d_281_2 d_281_3 rfl (by decide) rfl (fun hc => ?_) (fun hc => ?_)
  · replace H := H.1 hc
    refine e_lload_n d_281_10 rfl rfl ?_
    subst H
    exact e_lret d_281_11 rr_281
  · replace H := H.2 hc
    refine e_lload_n d_281_6 rfl rfl ?_
    refine e_goto (t := 11) d_281_7 (by decide) ?_
    subst H
    exact e_lret d_281_11 rr_281
