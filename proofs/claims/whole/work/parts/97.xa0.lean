/-! ===== what is made is what stands: no method but the law loses cells ===== -/
/-- all slots -/
def szs (l : List (Nat × Nat)) : Nat := (l.map (fun q => q.2)).sum
theorem szs_ap (l : List (Nat × Nat)) (q : Nat × Nat) : szs (l ++ [q]) = szs l + q.2 := by
  unfold szs
  rw [List.map_append, List.sum_append]
  show _ + (q.2 + 0) = _
  rw [Nat.add_zero]
def jr (σ σ' : Mm) : Prop := (mU σ').1 + (mKs σ).length = (mU σ).1 + (mKs σ').length ∧ (mU σ').2.1 + szs (mKs σ) = (mU σ).2.1 + szs (mKs σ') ∧ (mU σ').2.2 = (mU σ).2.2
theorem jr_rf (a : Mm) : jr a a := ⟨rfl, rfl, rfl⟩
theorem jr_tr {a b c : Mm} (h : jr a b) (g : jr b c) : jr a c := by
  obtain ⟨h1, h2, h3⟩ := h
  obtain ⟨g1, g2, g3⟩ := g
  exact ⟨by omega, by omega, g3.trans h3⟩
theorem jr_nw {σ σ' : Mm} {kd sz : Nat} (h : jr (nw σ kd sz) σ') : jr σ σ' := by
  obtain ⟨h1, h2, h3⟩ := h
  have e1 : (mKs (nw σ kd sz)).length = (mKs σ).length + 1 := by
    show (mKs σ ++ [(kd, sz)]).length = _
    rw [List.length_append]; rfl
  have e2 : szs (mKs (nw σ kd sz)) = szs (mKs σ) + sz := szs_ap _ _
  have h1 : (mU σ').1 + (mKs (nw σ kd sz)).length = (mU σ).1 + 1 + (mKs σ').length := h1
  have h2 : (mU σ').2.1 + szs (mKs (nw σ kd sz)) = (mU σ).2.1 + sz + szs (mKs σ') := h2
  rw [e1] at h1
  rw [e2] at h2
  exact ⟨by omega, by omega, h3⟩
theorem fok_ne {M j : Nat} (h : fok M j = true) : j ≠ 273 := by
  unfold fok at h
  rw [Bool.and_eq_true] at h
  exact of_decide_eq_true h.2
theorem o_10 : ∀ M, M < 350 → M ≠ 273 → oM M ≠ 10 := by decide +kernel
theorem o_hi {M : Nat} (h : 350 ≤ M) : oM M ≠ 10 := by
  have e : mtab[M / 50]? = none := List.getElem?_eq_none (by show 7 ≤ M / 50; omega)
  unfold oM mrow
  rw [e]
  show (0 : Nat) ≠ 10
  decide
theorem c_7s : ∀ o, o < 20 → o ≠ 10 → ∀ q ∈ callUT.getD o [], q.2.1 ≠ 7 := by decide +kernel
theorem no_7 {M idx : Nat} {q : Nat × Nat × Nat} (hM : M ≠ 273) (h : callT (oM M) idx = some q) : ¬ q.1 = 7 := by
  have ho : oM M ≠ 10 := by
    rcases Nat.lt_or_ge M 350 with g | g
    · exact o_10 M g hM
    · exact o_hi g
  obtain ⟨h1, h2⟩ := find_of (L := callUT) h
  have h2 : oM M < 20 := Nat.lt_of_lt_of_le h2 (by decide)
  exact c_7s (oM M) h2 ho (idx, q) h1
section Jr
variable {M pc : Nat} {ls st : List Value} {σ : Mm} {w : Option Value × Mm} {k : Nat → List Value → List Value → Mm → Rs} {call : Nat → List Value → Mm → Rs}
theorem jq_getfield (hk : ∀ pc2 ls2 st2 σ2, k pc2 ls2 st2 σ2 = some w → jr σ2 w.2) (hc : ∀ j as σ w1, j ≠ 273 → call j as σ = some w1 → jr σ w1.2) {idx : Nat} (h : p_getfield idx M pc ls st σ k call = some w) : jr σ w.2 := by
  unfold p_getfield at h
  split at h
  next f hf =>
    obtain ⟨a, r, -, h3⟩ := s_r_spec h
    unfold getF at h3
    split at h3
    · obtain ⟨-, h3⟩ := if_spec h3
      split at h3 <;> exact hk _ _ _ _ h3
    · obtain ⟨-, h3⟩ := if_spec h3
      split at h3
      · exact hk _ _ _ _ h3
      · split at h3 <;> exact hk _ _ _ _ h3
  next => cases h
theorem jq_putfield (hk : ∀ pc2 ls2 st2 σ2, k pc2 ls2 st2 σ2 = some w → jr σ2 w.2) (hc : ∀ j as σ w1, j ≠ 273 → call j as σ = some w1 → jr σ w1.2) {idx : Nat} (h : p_putfield idx M pc ls st σ k call = some w) : jr σ w.2 := by
  unfold p_putfield at h
  split at h
  next f hf =>
    split at h
    next =>
      obtain ⟨-, h3⟩ := if_spec h
      obtain ⟨ci, j, ty⟩ := f
      obtain ⟨-, ⟨x, -, -, h4⟩ | ⟨x, -, -, h4⟩ | ⟨x, -, -, h4⟩⟩ := putF_spec h3
      · have h5 := hk _ _ _ _ h4
        exact h5
      · have h5 := hk _ _ _ _ h4
        exact h5
      · have h5 := hk _ _ _ _ h4
        exact h5
    next => cases h
  next => cases h
theorem jq_iaload (hk : ∀ pc2 ls2 st2 σ2, k pc2 ls2 st2 σ2 = some w → jr σ2 w.2) (hc : ∀ j as σ w1, j ≠ 273 → call j as σ = some w1 → jr σ w1.2) (h : p_iaload M pc ls st σ k call = some w) : jr σ w.2 := by
  obtain ⟨a, x, r, -, h3⟩ := s_ri_spec h
  split at h3
  · exact hk _ _ _ _ h3
  · cases h3
theorem jq_baload (hk : ∀ pc2 ls2 st2 σ2, k pc2 ls2 st2 σ2 = some w → jr σ2 w.2) (hc : ∀ j as σ w1, j ≠ 273 → call j as σ = some w1 → jr σ w1.2) (h : p_baload M pc ls st σ k call = some w) : jr σ w.2 := by
  obtain ⟨a, x, r, -, h3⟩ := s_ri_spec h
  split at h3
  · exact hk _ _ _ _ h3
  · cases h3
theorem jq_laload (hk : ∀ pc2 ls2 st2 σ2, k pc2 ls2 st2 σ2 = some w → jr σ2 w.2) (hc : ∀ j as σ w1, j ≠ 273 → call j as σ = some w1 → jr σ w1.2) (h : p_laload M pc ls st σ k call = some w) : jr σ w.2 := by
  obtain ⟨a, x, r, -, h3⟩ := s_ri_spec h
  split at h3
  · exact hk _ _ _ _ h3
  · cases h3
theorem jq_arraylength (hk : ∀ pc2 ls2 st2 σ2, k pc2 ls2 st2 σ2 = some w → jr σ2 w.2) (hc : ∀ j as σ w1, j ≠ 273 → call j as σ = some w1 → jr σ w1.2) (h : p_arraylength M pc ls st σ k call = some w) : jr σ w.2 := by
  obtain ⟨a, r, -, h3⟩ := s_r_spec h
  split at h3
  · exact hk _ _ _ _ h3
  · cases h3
theorem jq_iastore (hk : ∀ pc2 ls2 st2 σ2, k pc2 ls2 st2 σ2 = some w → jr σ2 w.2) (hc : ∀ j as σ w1, j ≠ 273 → call j as σ = some w1 → jr σ w1.2) (h : p_iastore M pc ls st σ k call = some w) : jr σ w.2 := by
  obtain ⟨a, x, v, r, -, h3⟩ := s_rii_spec h
  obtain ⟨-, h3⟩ := if_spec h3
  have h5 := hk _ _ _ _ h3
  exact h5
theorem jq_lastore (hk : ∀ pc2 ls2 st2 σ2, k pc2 ls2 st2 σ2 = some w → jr σ2 w.2) (hc : ∀ j as σ w1, j ≠ 273 → call j as σ = some w1 → jr σ w1.2) (h : p_lastore M pc ls st σ k call = some w) : jr σ w.2 := by
  obtain ⟨a, x, v, r, -, h3⟩ := s_ril_spec h
  obtain ⟨-, h3⟩ := if_spec h3
  have h5 := hk _ _ _ _ h3
  exact h5
theorem jq_bastore (hk : ∀ pc2 ls2 st2 σ2, k pc2 ls2 st2 σ2 = some w → jr σ2 w.2) (hc : ∀ j as σ w1, j ≠ 273 → call j as σ = some w1 → jr σ w1.2) (h : p_bastore M pc ls st σ k call = some w) : jr σ w.2 := by
  obtain ⟨a, x, v, r, -, h3⟩ := s_rii_spec h
  split at h3
  · have h5 := hk _ _ _ _ h3
    exact h5
  · obtain ⟨-, h3⟩ := if_spec h3
    have h5 := hk _ _ _ _ h3
    exact h5
theorem jq_ldc (hk : ∀ pc2 ls2 st2 σ2, k pc2 ls2 st2 σ2 = some w → jr σ2 w.2) (hc : ∀ j as σ w1, j ≠ 273 → call j as σ = some w1 → jr σ w1.2) {idx : Nat} (h : p_ldc idx M pc ls st σ k call = some w) : jr σ w.2 := by
  unfold p_ldc at h
  split at h
  · exact hk _ _ _ _ h
  · split at h
    · exact hk _ _ _ _ h
    · cases h
theorem jq_ldc_w (hk : ∀ pc2 ls2 st2 σ2, k pc2 ls2 st2 σ2 = some w → jr σ2 w.2) (hc : ∀ j as σ w1, j ≠ 273 → call j as σ = some w1 → jr σ w1.2) {idx : Nat} (h : p_ldc_w idx M pc ls st σ k call = some w) : jr σ w.2 := by
  unfold p_ldc_w at h
  split at h
  · exact hk _ _ _ _ h
  · cases h
theorem jq_ldc2_w (hk : ∀ pc2 ls2 st2 σ2, k pc2 ls2 st2 σ2 = some w → jr σ2 w.2) (hc : ∀ j as σ w1, j ≠ 273 → call j as σ = some w1 → jr σ w1.2) {idx : Nat} (h : p_ldc2_w idx M pc ls st σ k call = some w) : jr σ w.2 := by
  unfold p_ldc2_w at h
  split at h
  · exact hk _ _ _ _ h
  · cases h
theorem jq_getstatic (hk : ∀ pc2 ls2 st2 σ2, k pc2 ls2 st2 σ2 = some w → jr σ2 w.2) (hc : ∀ j as σ w1, j ≠ 273 → call j as σ = some w1 → jr σ w1.2) {idx : Nat} (h : p_getstatic idx M pc ls st σ k call = some w) : jr σ w.2 := by
  obtain ⟨-, h3⟩ := if_spec h
  exact hk _ _ _ _ h3
theorem jq_tableswitch (hk : ∀ pc2 ls2 st2 σ2, k pc2 ls2 st2 σ2 = some w → jr σ2 w.2) (hc : ∀ j as σ w1, j ≠ 273 → call j as σ = some w1 → jr σ w1.2) {d lo hi : Int} {offs : Array Int} (h : p_tableswitch d lo hi offs M pc ls st σ k call = some w) : jr σ w.2 := by
  obtain ⟨x, r, -, h3⟩ := s_i_spec h
  split at h3
  · obtain ⟨t, -, h3⟩ := jmp_spec h3
    exact hk _ _ _ _ h3
  · cases h3
theorem jq_lookupswitch (hk : ∀ pc2 ls2 st2 σ2, k pc2 ls2 st2 σ2 = some w → jr σ2 w.2) (hc : ∀ j as σ w1, j ≠ 273 → call j as σ = some w1 → jr σ w1.2) {d : Int} {ps : Array (Int × Int)} (h : p_lookupswitch d ps M pc ls st σ k call = some w) : jr σ w.2 := by
  obtain ⟨x, r, -, h3⟩ := s_i_spec h
  obtain ⟨-, h3⟩ := if_spec h3
  obtain ⟨t, -, h3⟩ := jmp_spec h3
  exact hk _ _ _ _ h3
theorem jq_new (hk : ∀ pc2 ls2 st2 σ2, k pc2 ls2 st2 σ2 = some w → jr σ2 w.2) (hc : ∀ j as σ w1, j ≠ 273 → call j as σ = some w1 → jr σ w1.2) {idx : Nat} (h : p_new idx M pc ls st σ k call = some w) : jr σ w.2 := by
  unfold p_new at h
  split at h
  · obtain ⟨-, h3⟩ := if_spec h
    exact jr_nw (hk _ _ _ _ h3)
  · cases h
theorem jq_newarray (hk : ∀ pc2 ls2 st2 σ2, k pc2 ls2 st2 σ2 = some w → jr σ2 w.2) (hc : ∀ j as σ w1, j ≠ 273 → call j as σ = some w1 → jr σ w1.2) {t : ArrayType} (h : p_newarray t M pc ls st σ k call = some w) : jr σ w.2 := by
  obtain ⟨x, r, -, h3⟩ := s_i_spec h
  split at h3
  · obtain ⟨-, h3⟩ := if_spec h3
    exact jr_nw (hk _ _ _ _ h3)
  · cases h3
theorem jq_dup (hk : ∀ pc2 ls2 st2 σ2, k pc2 ls2 st2 σ2 = some w → jr σ2 w.2) (hc : ∀ j as σ w1, j ≠ 273 → call j as σ = some w1 → jr σ w1.2) (h : p_dup M pc ls st σ k call = some w) : jr σ w.2 := by
  unfold p_dup at h
  split at h
  · obtain ⟨-, h3⟩ := if_spec h
    exact hk _ _ _ _ h3
  · cases h
theorem jq_pop (hk : ∀ pc2 ls2 st2 σ2, k pc2 ls2 st2 σ2 = some w → jr σ2 w.2) (hc : ∀ j as σ w1, j ≠ 273 → call j as σ = some w1 → jr σ w1.2) (h : p_pop M pc ls st σ k call = some w) : jr σ w.2 := by
  unfold p_pop at h
  split at h
  · obtain ⟨-, h3⟩ := if_spec h
    exact hk _ _ _ _ h3
  · cases h
theorem jq_dup2 (hk : ∀ pc2 ls2 st2 σ2, k pc2 ls2 st2 σ2 = some w → jr σ2 w.2) (hc : ∀ j as σ w1, j ≠ 273 → call j as σ = some w1 → jr σ w1.2) (h : p_dup2 M pc ls st σ k call = some w) : jr σ w.2 := by
  unfold p_dup2 at h
  split at h
  · obtain ⟨-, h3⟩ := if_spec h
    exact hk _ _ _ _ h3
  · cases h
theorem jq_scall (hk : ∀ pc2 ls2 st2 σ2, k pc2 ls2 st2 σ2 = some w → jr σ2 w.2) (hc : ∀ j as σ w1, j ≠ 273 → call j as σ = some w1 → jr σ w1.2) {j n : Nat} (hj : j ≠ 273) (h : p_scall j n M pc ls st σ k call = some w) : jr σ w.2 := by
  unfold p_scall at h
  split at h
  · obtain ⟨-, h3⟩ := if_spec h
    split at h3
    next w1 hca => exact jr_tr (hc _ _ _ _ hj hca) (hk _ _ _ _ h3)
    next => cases h3
  · cases h
theorem jq_invokevirtual (hk : ∀ pc2 ls2 st2 σ2, k pc2 ls2 st2 σ2 = some w → jr σ2 w.2) (hc : ∀ j as σ w1, j ≠ 273 → call j as σ = some w1 → jr σ w1.2) {idx : Nat} (h : p_invokevirtual idx M pc ls st σ k call = some w) : jr σ w.2 := by
  unfold p_invokevirtual at h
  split at h
  · obtain ⟨hb, h3⟩ := if_spec h
    unfold p_vcall at h3
    split at h3
    · obtain ⟨-, h3⟩ := if_spec h3
      split at h3
      next w1 hca => exact jr_tr (hc _ _ _ _ (fok_ne hb.2.1) hca) (hk _ _ _ _ h3)
      next => cases h3
    · cases h3
  · cases h
theorem jq_invokespecial (hk : ∀ pc2 ls2 st2 σ2, k pc2 ls2 st2 σ2 = some w → jr σ2 w.2) (hc : ∀ j as σ w1, j ≠ 273 → call j as σ = some w1 → jr σ w1.2) {idx : Nat} (h : p_invokespecial idx M pc ls st σ k call = some w) : jr σ w.2 := by
  unfold p_invokespecial at h
  split at h
  · split at h
    next hb =>
      unfold p_icall at h
      split at h
      · obtain ⟨-, h3⟩ := if_spec h
        split at h3
        next w1 hca =>
          split at h3
          · exact jr_tr (hc _ _ _ _ (fok_ne hb.2.1) hca) (hk _ _ _ _ h3)
          · cases h3
        next => cases h3
      · cases h
    next =>
      obtain ⟨-, h3⟩ := if_spec h
      obtain ⟨x, r, -, h3⟩ := s_r_spec h3
      obtain ⟨-, h3⟩ := if_spec h3
      exact hk _ _ _ _ h3
  · cases h
theorem jq_invokestatic (hM : M ≠ 273) (hk : ∀ pc2 ls2 st2 σ2, k pc2 ls2 st2 σ2 = some w → jr σ2 w.2) (hc : ∀ j as σ w1, j ≠ 273 → call j as σ = some w1 → jr σ w1.2) {idx : Nat} (h : p_invokestatic idx M pc ls st σ k call = some w) : jr σ w.2 := by
  unfold p_invokestatic at h
  split at h
  next q hq =>
    split at h
    next hb => exact jq_scall hk hc (fok_ne hb.2.1) h
    next =>
      split at h
      · unfold p_copy at h
        split at h
        · obtain ⟨-, h3⟩ := if_spec h
          split at h3
          · obtain ⟨-, h3⟩ := if_spec h3
            have h5 := hk _ _ _ _ h3
            exact h5
          · cases h3
        · cases h
      · split at h
        · obtain ⟨x, y, r, -, h3⟩ := s_ii_spec h
          obtain ⟨-, h3⟩ := if_spec h3
          exact hk _ _ _ _ h3
        · obtain ⟨hb, h3⟩ := if_spec h
          exact absurd hb.1 (no_7 hM hq)
  next => cases h
theorem jq_ireturn (hk : ∀ pc2 ls2 st2 σ2, k pc2 ls2 st2 σ2 = some w → jr σ2 w.2) (hc : ∀ j as σ w1, j ≠ 273 → call j as σ = some w1 → jr σ w1.2) (h : p_ireturn M pc ls st σ k call = some w) : jr σ w.2 := by
  unfold p_ireturn at h
  split at h
  · split at h
    · cases h; exact jr_rf _
    · obtain ⟨-, h⟩ := if_spec h; cases h; exact jr_rf _
    · obtain ⟨-, h⟩ := if_spec h; cases h; exact jr_rf _
    · obtain ⟨-, h⟩ := if_spec h; cases h; exact jr_rf _
    · cases h
  · cases h
theorem jq_lreturn (hk : ∀ pc2 ls2 st2 σ2, k pc2 ls2 st2 σ2 = some w → jr σ2 w.2) (hc : ∀ j as σ w1, j ≠ 273 → call j as σ = some w1 → jr σ w1.2) (h : p_lreturn M pc ls st σ k call = some w) : jr σ w.2 := by
  unfold p_lreturn at h
  split at h
  · obtain ⟨-, h⟩ := if_spec h; cases h; exact jr_rf _
  · cases h
theorem jq_areturn (hk : ∀ pc2 ls2 st2 σ2, k pc2 ls2 st2 σ2 = some w → jr σ2 w.2) (hc : ∀ j as σ w1, j ≠ 273 → call j as σ = some w1 → jr σ w1.2) (h : p_areturn M pc ls st σ k call = some w) : jr σ w.2 := by
  unfold p_areturn at h
  split at h
  · split at h
    · cases h; exact jr_rf _
    · cases h
  · cases h
theorem jq_return_ (hk : ∀ pc2 ls2 st2 σ2, k pc2 ls2 st2 σ2 = some w → jr σ2 w.2) (hc : ∀ j as σ w1, j ≠ 273 → call j as σ = some w1 → jr σ w1.2) (h : p_return_ M pc ls st σ k call = some w) : jr σ w.2 := by
  unfold p_return_ at h
  split at h
  · obtain ⟨-, h⟩ := if_spec h; cases h; exact jr_rf _
  · cases h
theorem jq_all (hM : M ≠ 273) (hk : ∀ pc2 ls2 st2 σ2, k pc2 ls2 st2 σ2 = some w → jr σ2 w.2) (hc : ∀ j as σ w1, j ≠ 273 → call j as σ = some w1 → jr σ w1.2) {i : Instr} (h : opk i M pc ls st σ k call = some w) : jr σ w.2 := by
  cases i with
  | iconst a =>
    exact hk _ _ _ _ h
  | bipush a =>
    exact hk _ _ _ _ h
  | sipush a =>
    exact hk _ _ _ _ h
  | lconst a =>
    exact hk _ _ _ _ h
  | iload_n a =>
    obtain ⟨x, r, -, h3⟩ := s_i_spec h
    exact hk _ _ _ _ h3
  | iload a =>
    obtain ⟨x, r, -, h3⟩ := s_i_spec h
    exact hk _ _ _ _ h3
  | lload_n a =>
    obtain ⟨x, r, -, h3⟩ := s_l_spec h
    exact hk _ _ _ _ h3
  | lload a =>
    obtain ⟨x, r, -, h3⟩ := s_l_spec h
    exact hk _ _ _ _ h3
  | aload_n a =>
    obtain ⟨x, r, -, h3⟩ := s_r_spec h
    exact hk _ _ _ _ h3
  | aload a =>
    obtain ⟨x, r, -, h3⟩ := s_r_spec h
    exact hk _ _ _ _ h3
  | istore_n a =>
    obtain ⟨x, r, -, h3⟩ := s_i_spec h
    obtain ⟨-, h3⟩ := if_spec h3
    exact hk _ _ _ _ h3
  | istore a =>
    obtain ⟨x, r, -, h3⟩ := s_i_spec h
    obtain ⟨-, h3⟩ := if_spec h3
    exact hk _ _ _ _ h3
  | lstore_n a =>
    obtain ⟨x, r, -, h3⟩ := s_l_spec h
    obtain ⟨-, h3⟩ := if_spec h3
    exact hk _ _ _ _ h3
  | lstore a =>
    obtain ⟨x, r, -, h3⟩ := s_l_spec h
    obtain ⟨-, h3⟩ := if_spec h3
    exact hk _ _ _ _ h3
  | astore_n a =>
    obtain ⟨x, r, -, h3⟩ := s_r_spec h
    obtain ⟨-, h3⟩ := if_spec h3
    exact hk _ _ _ _ h3
  | astore a =>
    obtain ⟨x, r, -, h3⟩ := s_r_spec h
    obtain ⟨-, h3⟩ := if_spec h3
    exact hk _ _ _ _ h3
  | iinc a b =>
    obtain ⟨x, r, -, h3⟩ := s_i_spec h
    obtain ⟨-, h3⟩ := if_spec h3
    exact hk _ _ _ _ h3
  | iadd  =>
    obtain ⟨x, y, r, -, h3⟩ := s_ii_spec h
    exact hk _ _ _ _ h3
  | isub  =>
    obtain ⟨x, y, r, -, h3⟩ := s_ii_spec h
    exact hk _ _ _ _ h3
  | imul  =>
    obtain ⟨x, y, r, -, h3⟩ := s_ii_spec h
    exact hk _ _ _ _ h3
  | iand  =>
    obtain ⟨x, y, r, -, h3⟩ := s_ii_spec h
    exact hk _ _ _ _ h3
  | ior  =>
    obtain ⟨x, y, r, -, h3⟩ := s_ii_spec h
    exact hk _ _ _ _ h3
  | ixor  =>
    obtain ⟨x, y, r, -, h3⟩ := s_ii_spec h
    exact hk _ _ _ _ h3
  | ishl  =>
    obtain ⟨x, y, r, -, h3⟩ := s_ii_spec h
    exact hk _ _ _ _ h3
  | ishr  =>
    obtain ⟨x, y, r, -, h3⟩ := s_ii_spec h
    exact hk _ _ _ _ h3
  | iushr  =>
    obtain ⟨x, y, r, -, h3⟩ := s_ii_spec h
    exact hk _ _ _ _ h3
  | idiv  =>
    obtain ⟨x, y, r, -, h3⟩ := s_ii_spec h
    split at h3
    · cases h3
    · exact hk _ _ _ _ h3
  | irem  =>
    obtain ⟨x, y, r, -, h3⟩ := s_ii_spec h
    split at h3
    · cases h3
    · exact hk _ _ _ _ h3
  | ineg  =>
    obtain ⟨x, r, -, h3⟩ := s_i_spec h
    exact hk _ _ _ _ h3
  | i2b  =>
    obtain ⟨x, r, -, h3⟩ := s_i_spec h
    exact hk _ _ _ _ h3
  | i2c  =>
    obtain ⟨x, r, -, h3⟩ := s_i_spec h
    exact hk _ _ _ _ h3
  | i2l  =>
    obtain ⟨x, r, -, h3⟩ := s_i_spec h
    exact hk _ _ _ _ h3
  | l2i  =>
    obtain ⟨x, r, -, h3⟩ := s_l_spec h
    exact hk _ _ _ _ h3
  | lneg  =>
    obtain ⟨x, r, -, h3⟩ := s_l_spec h
    exact hk _ _ _ _ h3
  | ladd  =>
    obtain ⟨x, y, r, -, h3⟩ := s_ll_spec h
    exact hk _ _ _ _ h3
  | lsub  =>
    obtain ⟨x, y, r, -, h3⟩ := s_ll_spec h
    exact hk _ _ _ _ h3
  | lmul  =>
    obtain ⟨x, y, r, -, h3⟩ := s_ll_spec h
    exact hk _ _ _ _ h3
  | land  =>
    obtain ⟨x, y, r, -, h3⟩ := s_ll_spec h
    exact hk _ _ _ _ h3
  | lcmp  =>
    obtain ⟨x, y, r, -, h3⟩ := s_ll_spec h
    exact hk _ _ _ _ h3
  | ldiv  =>
    obtain ⟨x, y, r, -, h3⟩ := s_ll_spec h
    split at h3
    · cases h3
    · exact hk _ _ _ _ h3
  | lrem  =>
    obtain ⟨x, y, r, -, h3⟩ := s_ll_spec h
    split at h3
    · cases h3
    · exact hk _ _ _ _ h3
  | ifCond a b =>
    obtain ⟨x, r, -, h3⟩ := s_i_spec h
    obtain ⟨t, -, h3⟩ := jmp_spec h3
    split at h3 <;> exact hk _ _ _ _ h3
  | if_icmp a b =>
    obtain ⟨x, y, r, -, h3⟩ := s_ii_spec h
    obtain ⟨t, -, h3⟩ := jmp_spec h3
    split at h3 <;> exact hk _ _ _ _ h3
  | goto a =>
    have h : jmp pc a (fun t => k t ls st σ) = some w := h
    obtain ⟨t, -, h3⟩ := jmp_spec h
    exact hk _ _ _ _ h3
  | dup  => exact jq_dup (M := M) (pc := pc) (ls := ls) (call := call) hk hc h
  | dup2  => exact jq_dup2 (M := M) (pc := pc) (ls := ls) (call := call) hk hc h
  | pop  => exact jq_pop (M := M) (pc := pc) (ls := ls) (call := call) hk hc h
  | tableswitch a b c d => exact jq_tableswitch (M := M) (pc := pc) (ls := ls) (call := call) hk hc h
  | lookupswitch a b => exact jq_lookupswitch (M := M) (pc := pc) (ls := ls) (call := call) hk hc h
  | ldc a => exact jq_ldc (M := M) (pc := pc) (ls := ls) (call := call) hk hc h
  | ldc_w a => exact jq_ldc_w (M := M) (pc := pc) (ls := ls) (call := call) hk hc h
  | ldc2_w a => exact jq_ldc2_w (M := M) (pc := pc) (ls := ls) (call := call) hk hc h
  | getstatic a => exact jq_getstatic (M := M) (pc := pc) (ls := ls) (call := call) hk hc h
  | getfield a => exact jq_getfield (M := M) (pc := pc) (ls := ls) (call := call) hk hc h
  | putfield a => exact jq_putfield (M := M) (pc := pc) (ls := ls) (call := call) hk hc h
  | arraylength  => exact jq_arraylength (M := M) (pc := pc) (ls := ls) (call := call) hk hc h
  | iaload  => exact jq_iaload (M := M) (pc := pc) (ls := ls) (call := call) hk hc h
  | baload  => exact jq_baload (M := M) (pc := pc) (ls := ls) (call := call) hk hc h
  | laload  => exact jq_laload (M := M) (pc := pc) (ls := ls) (call := call) hk hc h
  | iastore  => exact jq_iastore (M := M) (pc := pc) (ls := ls) (call := call) hk hc h
  | bastore  => exact jq_bastore (M := M) (pc := pc) (ls := ls) (call := call) hk hc h
  | lastore  => exact jq_lastore (M := M) (pc := pc) (ls := ls) (call := call) hk hc h
  | new a => exact jq_new (M := M) (pc := pc) (ls := ls) (call := call) hk hc h
  | newarray a => exact jq_newarray (M := M) (pc := pc) (ls := ls) (call := call) hk hc h
  | invokevirtual a => exact jq_invokevirtual (M := M) (pc := pc) (ls := ls) (call := call) hk hc h
  | invokestatic a => exact jq_invokestatic (M := M) (pc := pc) (ls := ls) (call := call) hM hk hc h
  | invokespecial a => exact jq_invokespecial (M := M) (pc := pc) (ls := ls) (call := call) hk hc h
  | ireturn  => exact jq_ireturn (M := M) (pc := pc) (ls := ls) (call := call) hk hc h
  | lreturn  => exact jq_lreturn (M := M) (pc := pc) (ls := ls) (call := call) hk hc h
  | areturn  => exact jq_areturn (M := M) (pc := pc) (ls := ls) (call := call) hk hc h
  | return_  => exact jq_return_ (M := M) (pc := pc) (ls := ls) (call := call) hk hc h
  | _ => cases h
end Jr
theorem run_jr : ∀ (n M pc : Nat) (ls st : List Value) (σ : Mm) (w : Option Value × Mm), M ≠ 273 → run n M pc ls st σ = some w → jr σ w.2 := by
  intro n
  induction n with
  | zero => intro M pc ls st σ w _ h; cases h
  | succ n ih =>
    intro M pc ls st σ w hM h
    unfold run at h
    split at h
    next i len hd =>
      obtain ⟨-, h3⟩ := if_spec h
      refine jq_all hM (fun pc2 ls2 st2 σ2 h2 => ih _ _ _ _ _ _ hM h2) (fun j as σ2 w1 hj h2 => ?_) h3
      obtain ⟨-, h2⟩ := if_spec h2
      exact ih _ _ _ _ _ _ hj h2
    next => cases h
theorem cl_jr {j : Nat} {as : List Value} {σ : Mm} {w : Option Value × Mm} (hj : j ≠ 273) (h : Cl j as σ w) : jr σ w.2 ∧ mX w.2 = mX σ := by
  obtain ⟨-, n, h⟩ := h
  exact ⟨run_jr _ _ _ _ _ _ _ hj h, (run_le _ _ _ _ _ _ _ h).2.2⟩
/-- the law's own array is there -/
def S9 (σ : Mm) : Prop := mKs σ = KS ++ [(12, 1)]
theorem s9_k {σ : Mm} (h : S9 σ) : mK σ 99 = some (12, 1) := by
  have h : mKs σ = KS ++ [(12, 1)] := h
  unfold mK
  rw [h]; rfl
/-- between two good memories: the same count -/
theorem cl_mu {j : Nat} {as : List Value} {t' : Nat} {σ : Mm} {w : Option Value × Mm} (hj : j ≠ 273) (h : Cl j as σ w) (h1 : S9 σ) (h2 : Sg t' w.2) : S9 w.2 ∧ mU w.2 = mU σ ∧ mX w.2 = mX σ := by
  obtain ⟨⟨a, b, c⟩, d⟩ := cl_jr hj h
  obtain ⟨-, n, hr⟩ := h
  have le := (run_le _ _ _ _ _ _ _ hr).1
  have h1 : mKs σ = KS ++ [(12, 1)] := h1
  rcases h2.1 with e | e
  · rw [h1, e] at a
    have a : (mU w.2).1 + 100 = (mU σ).1 + 99 := a
    omega
  · rw [h1, e] at a b
    exact ⟨e, Prod.ext (by omega) (Prod.ext (by omega) c), d⟩
