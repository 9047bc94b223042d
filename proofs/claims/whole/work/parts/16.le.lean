/-! ===== cells and slots only grow ===== -/
theorem le2_nw {σ σ' : Mm} {kd sz : Nat} (h : le2 (nw σ kd sz) σ') : le2 σ σ' := by
  obtain ⟨h1, h2, h3⟩ := h
  have h1 : (mU σ).1 + 1 ≤ (mU σ').1 := h1
  have h2 : (mU σ).2.1 + sz ≤ (mU σ').2.1 := h2
  exact ⟨by omega, by omega, h3⟩
theorem le2_lost {σ σ' : Mm} {n : Nat} (h : le2 (lost σ n) σ') : le2 σ σ' := by
  obtain ⟨h1, h2, h3⟩ := h
  have h1 : (mU σ).1 + 1 ≤ (mU σ').1 := h1
  have h2 : (mU σ).2.1 + n ≤ (mU σ').2.1 := h2
  exact ⟨by omega, by omega, h3⟩
theorem le2_tr {a b c : Mm} (h : le2 a b) (g : le2 b c) : le2 a c := ⟨Nat.le_trans h.1 g.1, Nat.le_trans h.2.1 g.2.1, g.2.2.trans h.2.2⟩
theorem le2_rf (a : Mm) : le2 a a := ⟨Nat.le_refl _, Nat.le_refl _, rfl⟩
theorem lampP_le {a o : Nat} {x y : Int32} {σ : Mm} {call : Nat → List Value → Mm → Rs} {w : Int32 × Mm} (hc : ∀ j as σ w1, call j as σ = some w1 → le2 σ w1.2) (h : lampP a x y o σ call = some w) : le2 σ w.2 := by
  have up : ∀ (σ1 : Mm) (v : Int64), le2 σ1 (uL σ1 o 0 v) := fun σ1 v => le2_rf σ1
  have lo : ∀ σ1 : Mm, le2 σ1 (lost σ1 6) := fun σ1 => ⟨Nat.le_succ _, Nat.le_add_right _ _, rfl⟩
  unfold lampP at h
  split at h
  next =>
    split at h
    next b σ1 hca =>
      have l1 : le2 σ σ1 := hc _ _ _ _ hca
      split at h
      next => cases h; exact le2_tr l1 (lo σ1)
      next =>
        split at h
        next hh _ =>
          split at h
          next =>
            split at h
            next => cases h; exact le2_tr l1 (up σ1 _)
            next =>
              split at h
              next => cases h; exact le2_tr l1 (up σ1 _)
              next =>
                split at h
                next =>
                  split at h
                  next =>
                    split at h
                    next => cases h; exact le2_tr l1 (up σ1 _)
                    next => cases h
                  next => cases h
                next =>
                  split at h
                  next =>
                    split at h
                    next v σ2 hcb =>
                      have l2 : le2 σ1 σ2 := hc _ _ _ _ hcb
                      split at h
                      next => cases h; exact le2_tr (le2_tr l1 l2) (up σ2 _)
                      next => cases h
                    next => cases h
                  next => cases h; exact le2_tr l1 (lo σ1)
          next => cases h
        next => cases h
    next => cases h
  next => cases h
section Le
variable {M pc : Nat} {ls st : List Value} {σ : Mm} {w : Option Value × Mm} {k : Nat → List Value → List Value → Mm → Rs} {call : Nat → List Value → Mm → Rs}
theorem q_getfield (hk : ∀ pc2 ls2 st2 σ2, k pc2 ls2 st2 σ2 = some w → le2 σ2 w.2) (hc : ∀ j as σ w1, call j as σ = some w1 → le2 σ w1.2) {idx : Nat} (h : p_getfield idx M pc ls st σ k call = some w) : le2 σ w.2 := by
  unfold p_getfield at h
  split at h
  next f hf =>
    obtain ⟨a, r, -, h3⟩ := s_r_spec h
    unfold getF at h3
    split at h3
    · obtain ⟨-, h3⟩ := if_spec h3
      split at h3 <;> exact hk _ _ _ _ h3
    · obtain ⟨-, h3⟩ := if_spec h3
      split at h3
      · exact hk _ _ _ _ h3
      · split at h3 <;> exact hk _ _ _ _ h3
  next => cases h
theorem q_putfield (hk : ∀ pc2 ls2 st2 σ2, k pc2 ls2 st2 σ2 = some w → le2 σ2 w.2) (hc : ∀ j as σ w1, call j as σ = some w1 → le2 σ w1.2) {idx : Nat} (h : p_putfield idx M pc ls st σ k call = some w) : le2 σ w.2 := by
  unfold p_putfield at h
  split at h
  next f hf =>
    split at h
    next =>
      obtain ⟨-, h3⟩ := if_spec h
      obtain ⟨ci, j, ty⟩ := f
      obtain ⟨-, ⟨x, -, -, h4⟩ | ⟨x, -, -, h4⟩ | ⟨x, -, -, h4⟩⟩ := putF_spec h3
      · have h5 := hk _ _ _ _ h4
        exact h5
      · have h5 := hk _ _ _ _ h4
        exact h5
      · have h5 := hk _ _ _ _ h4
        exact h5
    next => cases h
  next => cases h
theorem q_iaload (hk : ∀ pc2 ls2 st2 σ2, k pc2 ls2 st2 σ2 = some w → le2 σ2 w.2) (hc : ∀ j as σ w1, call j as σ = some w1 → le2 σ w1.2) (h : p_iaload M pc ls st σ k call = some w) : le2 σ w.2 := by
  obtain ⟨a, x, r, -, h3⟩ := s_ri_spec h
  split at h3
  · exact hk _ _ _ _ h3
  · cases h3
theorem q_baload (hk : ∀ pc2 ls2 st2 σ2, k pc2 ls2 st2 σ2 = some w → le2 σ2 w.2) (hc : ∀ j as σ w1, call j as σ = some w1 → le2 σ w1.2) (h : p_baload M pc ls st σ k call = some w) : le2 σ w.2 := by
  obtain ⟨a, x, r, -, h3⟩ := s_ri_spec h
  split at h3
  · exact hk _ _ _ _ h3
  · cases h3
theorem q_laload (hk : ∀ pc2 ls2 st2 σ2, k pc2 ls2 st2 σ2 = some w → le2 σ2 w.2) (hc : ∀ j as σ w1, call j as σ = some w1 → le2 σ w1.2) (h : p_laload M pc ls st σ k call = some w) : le2 σ w.2 := by
  obtain ⟨a, x, r, -, h3⟩ := s_ri_spec h
  split at h3
  · exact hk _ _ _ _ h3
  · cases h3
theorem q_arraylength (hk : ∀ pc2 ls2 st2 σ2, k pc2 ls2 st2 σ2 = some w → le2 σ2 w.2) (hc : ∀ j as σ w1, call j as σ = some w1 → le2 σ w1.2) (h : p_arraylength M pc ls st σ k call = some w) : le2 σ w.2 := by
  obtain ⟨a, r, -, h3⟩ := s_r_spec h
  split at h3
  · exact hk _ _ _ _ h3
  · cases h3
theorem q_iastore (hk : ∀ pc2 ls2 st2 σ2, k pc2 ls2 st2 σ2 = some w → le2 σ2 w.2) (hc : ∀ j as σ w1, call j as σ = some w1 → le2 σ w1.2) (h : p_iastore M pc ls st σ k call = some w) : le2 σ w.2 := by
  obtain ⟨a, x, v, r, -, h3⟩ := s_rii_spec h
  obtain ⟨-, h3⟩ := if_spec h3
  have h5 := hk _ _ _ _ h3
  exact h5
theorem q_lastore (hk : ∀ pc2 ls2 st2 σ2, k pc2 ls2 st2 σ2 = some w → le2 σ2 w.2) (hc : ∀ j as σ w1, call j as σ = some w1 → le2 σ w1.2) (h : p_lastore M pc ls st σ k call = some w) : le2 σ w.2 := by
  obtain ⟨a, x, v, r, -, h3⟩ := s_ril_spec h
  obtain ⟨-, h3⟩ := if_spec h3
  have h5 := hk _ _ _ _ h3
  exact h5
theorem q_bastore (hk : ∀ pc2 ls2 st2 σ2, k pc2 ls2 st2 σ2 = some w → le2 σ2 w.2) (hc : ∀ j as σ w1, call j as σ = some w1 → le2 σ w1.2) (h : p_bastore M pc ls st σ k call = some w) : le2 σ w.2 := by
  obtain ⟨a, x, v, r, -, h3⟩ := s_rii_spec h
  split at h3
  · have h5 := hk _ _ _ _ h3
    exact h5
  · obtain ⟨-, h3⟩ := if_spec h3
    have h5 := hk _ _ _ _ h3
    exact h5
theorem q_ldc (hk : ∀ pc2 ls2 st2 σ2, k pc2 ls2 st2 σ2 = some w → le2 σ2 w.2) (hc : ∀ j as σ w1, call j as σ = some w1 → le2 σ w1.2) {idx : Nat} (h : p_ldc idx M pc ls st σ k call = some w) : le2 σ w.2 := by
  unfold p_ldc at h
  split at h
  · exact hk _ _ _ _ h
  · split at h
    · exact hk _ _ _ _ h
    · cases h
theorem q_ldc_w (hk : ∀ pc2 ls2 st2 σ2, k pc2 ls2 st2 σ2 = some w → le2 σ2 w.2) (hc : ∀ j as σ w1, call j as σ = some w1 → le2 σ w1.2) {idx : Nat} (h : p_ldc_w idx M pc ls st σ k call = some w) : le2 σ w.2 := by
  unfold p_ldc_w at h
  split at h
  · exact hk _ _ _ _ h
  · cases h
theorem q_ldc2_w (hk : ∀ pc2 ls2 st2 σ2, k pc2 ls2 st2 σ2 = some w → le2 σ2 w.2) (hc : ∀ j as σ w1, call j as σ = some w1 → le2 σ w1.2) {idx : Nat} (h : p_ldc2_w idx M pc ls st σ k call = some w) : le2 σ w.2 := by
  unfold p_ldc2_w at h
  split at h
  · exact hk _ _ _ _ h
  · cases h
theorem q_getstatic (hk : ∀ pc2 ls2 st2 σ2, k pc2 ls2 st2 σ2 = some w → le2 σ2 w.2) (hc : ∀ j as σ w1, call j as σ = some w1 → le2 σ w1.2) {idx : Nat} (h : p_getstatic idx M pc ls st σ k call = some w) : le2 σ w.2 := by
  obtain ⟨-, h3⟩ := if_spec h
  exact hk _ _ _ _ h3
theorem q_tableswitch (hk : ∀ pc2 ls2 st2 σ2, k pc2 ls2 st2 σ2 = some w → le2 σ2 w.2) (hc : ∀ j as σ w1, call j as σ = some w1 → le2 σ w1.2) {d lo hi : Int} {offs : Array Int} (h : p_tableswitch d lo hi offs M pc ls st σ k call = some w) : le2 σ w.2 := by
  obtain ⟨x, r, -, h3⟩ := s_i_spec h
  split at h3
  · obtain ⟨t, -, h3⟩ := jmp_spec h3
    exact hk _ _ _ _ h3
  · cases h3
theorem q_lookupswitch (hk : ∀ pc2 ls2 st2 σ2, k pc2 ls2 st2 σ2 = some w → le2 σ2 w.2) (hc : ∀ j as σ w1, call j as σ = some w1 → le2 σ w1.2) {d : Int} {ps : Array (Int × Int)} (h : p_lookupswitch d ps M pc ls st σ k call = some w) : le2 σ w.2 := by
  obtain ⟨x, r, -, h3⟩ := s_i_spec h
  obtain ⟨-, h3⟩ := if_spec h3
  obtain ⟨t, -, h3⟩ := jmp_spec h3
  exact hk _ _ _ _ h3
theorem q_new (hk : ∀ pc2 ls2 st2 σ2, k pc2 ls2 st2 σ2 = some w → le2 σ2 w.2) (hc : ∀ j as σ w1, call j as σ = some w1 → le2 σ w1.2) {idx : Nat} (h : p_new idx M pc ls st σ k call = some w) : le2 σ w.2 := by
  unfold p_new at h
  split at h
  · obtain ⟨-, h3⟩ := if_spec h
    exact le2_nw (hk _ _ _ _ h3)
  · cases h
theorem q_newarray (hk : ∀ pc2 ls2 st2 σ2, k pc2 ls2 st2 σ2 = some w → le2 σ2 w.2) (hc : ∀ j as σ w1, call j as σ = some w1 → le2 σ w1.2) {t : ArrayType} (h : p_newarray t M pc ls st σ k call = some w) : le2 σ w.2 := by
  obtain ⟨x, r, -, h3⟩ := s_i_spec h
  split at h3
  · obtain ⟨-, h3⟩ := if_spec h3
    exact le2_nw (hk _ _ _ _ h3)
  · cases h3
theorem q_dup (hk : ∀ pc2 ls2 st2 σ2, k pc2 ls2 st2 σ2 = some w → le2 σ2 w.2) (hc : ∀ j as σ w1, call j as σ = some w1 → le2 σ w1.2) (h : p_dup M pc ls st σ k call = some w) : le2 σ w.2 := by
  unfold p_dup at h
  split at h
  · obtain ⟨-, h3⟩ := if_spec h
    exact hk _ _ _ _ h3
  · cases h
theorem q_pop (hk : ∀ pc2 ls2 st2 σ2, k pc2 ls2 st2 σ2 = some w → le2 σ2 w.2) (hc : ∀ j as σ w1, call j as σ = some w1 → le2 σ w1.2) (h : p_pop M pc ls st σ k call = some w) : le2 σ w.2 := by
  unfold p_pop at h
  split at h
  · obtain ⟨-, h3⟩ := if_spec h
    exact hk _ _ _ _ h3
  · cases h
theorem q_dup2 (hk : ∀ pc2 ls2 st2 σ2, k pc2 ls2 st2 σ2 = some w → le2 σ2 w.2) (hc : ∀ j as σ w1, call j as σ = some w1 → le2 σ w1.2) (h : p_dup2 M pc ls st σ k call = some w) : le2 σ w.2 := by
  unfold p_dup2 at h
  split at h
  · obtain ⟨-, h3⟩ := if_spec h
    exact hk _ _ _ _ h3
  · cases h
theorem q_scall (hk : ∀ pc2 ls2 st2 σ2, k pc2 ls2 st2 σ2 = some w → le2 σ2 w.2) (hc : ∀ j as σ w1, call j as σ = some w1 → le2 σ w1.2) {j n : Nat} (h : p_scall j n M pc ls st σ k call = some w) : le2 σ w.2 := by
  unfold p_scall at h
  split at h
  · obtain ⟨-, h3⟩ := if_spec h
    split at h3
    next w1 hca => exact le2_tr (hc _ _ _ _ hca) (hk _ _ _ _ h3)
    next => cases h3
  · cases h
theorem q_invokevirtual (hk : ∀ pc2 ls2 st2 σ2, k pc2 ls2 st2 σ2 = some w → le2 σ2 w.2) (hc : ∀ j as σ w1, call j as σ = some w1 → le2 σ w1.2) {idx : Nat} (h : p_invokevirtual idx M pc ls st σ k call = some w) : le2 σ w.2 := by
  unfold p_invokevirtual at h
  split at h
  · obtain ⟨-, h3⟩ := if_spec h
    unfold p_vcall at h3
    split at h3
    · obtain ⟨-, h3⟩ := if_spec h3
      split at h3
      next w1 hca => exact le2_tr (hc _ _ _ _ hca) (hk _ _ _ _ h3)
      next => cases h3
    · cases h3
  · cases h
theorem q_invokespecial (hk : ∀ pc2 ls2 st2 σ2, k pc2 ls2 st2 σ2 = some w → le2 σ2 w.2) (hc : ∀ j as σ w1, call j as σ = some w1 → le2 σ w1.2) {idx : Nat} (h : p_invokespecial idx M pc ls st σ k call = some w) : le2 σ w.2 := by
  unfold p_invokespecial at h
  split at h
  · split at h
    · unfold p_icall at h
      split at h
      · obtain ⟨-, h3⟩ := if_spec h
        split at h3
        next w1 hca =>
          split at h3
          · exact le2_tr (hc _ _ _ _ hca) (hk _ _ _ _ h3)
          · cases h3
        next => cases h3
      · cases h
    · obtain ⟨-, h3⟩ := if_spec h
      obtain ⟨x, r, -, h3⟩ := s_r_spec h3
      obtain ⟨-, h3⟩ := if_spec h3
      exact hk _ _ _ _ h3
  · cases h
theorem q_invokestatic (hk : ∀ pc2 ls2 st2 σ2, k pc2 ls2 st2 σ2 = some w → le2 σ2 w.2) (hc : ∀ j as σ w1, call j as σ = some w1 → le2 σ w1.2) {idx : Nat} (h : p_invokestatic idx M pc ls st σ k call = some w) : le2 σ w.2 := by
  unfold p_invokestatic at h
  split at h
  · split at h
    · exact q_scall hk hc h
    · split at h
      · unfold p_copy at h
        split at h
        · obtain ⟨-, h3⟩ := if_spec h
          split at h3
          · obtain ⟨-, h3⟩ := if_spec h3
            have h5 := hk _ _ _ _ h3
            exact h5
          · cases h3
        · cases h
      · split at h
        · obtain ⟨x, y, r, -, h3⟩ := s_ii_spec h
          obtain ⟨-, h3⟩ := if_spec h3
          exact hk _ _ _ _ h3
        · obtain ⟨-, h3⟩ := if_spec h
          unfold p_lamp at h3
          split at h3
          · obtain ⟨-, h3⟩ := if_spec h3
            split at h3
            next w1 hca => exact le2_tr (lampP_le hc hca) (hk _ _ _ _ h3)
            next => cases h3
          · cases h3
  · cases h
theorem q_ireturn (hk : ∀ pc2 ls2 st2 σ2, k pc2 ls2 st2 σ2 = some w → le2 σ2 w.2) (hc : ∀ j as σ w1, call j as σ = some w1 → le2 σ w1.2) (h : p_ireturn M pc ls st σ k call = some w) : le2 σ w.2 := by
  unfold p_ireturn at h
  split at h
  · split at h
    · cases h; exact le2_rf _
    · obtain ⟨-, h⟩ := if_spec h; cases h; exact le2_rf _
    · obtain ⟨-, h⟩ := if_spec h; cases h; exact le2_rf _
    · obtain ⟨-, h⟩ := if_spec h; cases h; exact le2_rf _
    · cases h
  · cases h
theorem q_lreturn (hk : ∀ pc2 ls2 st2 σ2, k pc2 ls2 st2 σ2 = some w → le2 σ2 w.2) (hc : ∀ j as σ w1, call j as σ = some w1 → le2 σ w1.2) (h : p_lreturn M pc ls st σ k call = some w) : le2 σ w.2 := by
  unfold p_lreturn at h
  split at h
  · obtain ⟨-, h⟩ := if_spec h; cases h; exact le2_rf _
  · cases h
theorem q_areturn (hk : ∀ pc2 ls2 st2 σ2, k pc2 ls2 st2 σ2 = some w → le2 σ2 w.2) (hc : ∀ j as σ w1, call j as σ = some w1 → le2 σ w1.2) (h : p_areturn M pc ls st σ k call = some w) : le2 σ w.2 := by
  unfold p_areturn at h
  split at h
  · split at h
    · cases h; exact le2_rf _
    · cases h
  · cases h
theorem q_return_ (hk : ∀ pc2 ls2 st2 σ2, k pc2 ls2 st2 σ2 = some w → le2 σ2 w.2) (hc : ∀ j as σ w1, call j as σ = some w1 → le2 σ w1.2) (h : p_return_ M pc ls st σ k call = some w) : le2 σ w.2 := by
  unfold p_return_ at h
  split at h
  · obtain ⟨-, h⟩ := if_spec h; cases h; exact le2_rf _
  · cases h
theorem q_all (hk : ∀ pc2 ls2 st2 σ2, k pc2 ls2 st2 σ2 = some w → le2 σ2 w.2) (hc : ∀ j as σ w1, call j as σ = some w1 → le2 σ w1.2) {i : Instr} (h : opk i M pc ls st σ k call = some w) : le2 σ w.2 := by
  cases i with
  | iconst a =>
    exact hk _ _ _ _ h
  | bipush a =>
    exact hk _ _ _ _ h
  | sipush a =>
    exact hk _ _ _ _ h
  | lconst a =>
    exact hk _ _ _ _ h
  | iload_n a =>
    obtain ⟨x, r, -, h3⟩ := s_i_spec h
    exact hk _ _ _ _ h3
  | iload a =>
    obtain ⟨x, r, -, h3⟩ := s_i_spec h
    exact hk _ _ _ _ h3
  | lload_n a =>
    obtain ⟨x, r, -, h3⟩ := s_l_spec h
    exact hk _ _ _ _ h3
  | lload a =>
    obtain ⟨x, r, -, h3⟩ := s_l_spec h
    exact hk _ _ _ _ h3
  | aload_n a =>
    obtain ⟨x, r, -, h3⟩ := s_r_spec h
    exact hk _ _ _ _ h3
  | aload a =>
    obtain ⟨x, r, -, h3⟩ := s_r_spec h
    exact hk _ _ _ _ h3
  | istore_n a =>
    obtain ⟨x, r, -, h3⟩ := s_i_spec h
    obtain ⟨-, h3⟩ := if_spec h3
    exact hk _ _ _ _ h3
  | istore a =>
    obtain ⟨x, r, -, h3⟩ := s_i_spec h
    obtain ⟨-, h3⟩ := if_spec h3
    exact hk _ _ _ _ h3
  | lstore_n a =>
    obtain ⟨x, r, -, h3⟩ := s_l_spec h
    obtain ⟨-, h3⟩ := if_spec h3
    exact hk _ _ _ _ h3
  | lstore a =>
    obtain ⟨x, r, -, h3⟩ := s_l_spec h
    obtain ⟨-, h3⟩ := if_spec h3
    exact hk _ _ _ _ h3
  | astore_n a =>
    obtain ⟨x, r, -, h3⟩ := s_r_spec h
    obtain ⟨-, h3⟩ := if_spec h3
    exact hk _ _ _ _ h3
  | astore a =>
    obtain ⟨x, r, -, h3⟩ := s_r_spec h
    obtain ⟨-, h3⟩ := if_spec h3
    exact hk _ _ _ _ h3
  | iinc a b =>
    obtain ⟨x, r, -, h3⟩ := s_i_spec h
    obtain ⟨-, h3⟩ := if_spec h3
    exact hk _ _ _ _ h3
  | iadd  =>
    obtain ⟨x, y, r, -, h3⟩ := s_ii_spec h
    exact hk _ _ _ _ h3
  | isub  =>
    obtain ⟨x, y, r, -, h3⟩ := s_ii_spec h
    exact hk _ _ _ _ h3
  | imul  =>
    obtain ⟨x, y, r, -, h3⟩ := s_ii_spec h
    exact hk _ _ _ _ h3
  | iand  =>
    obtain ⟨x, y, r, -, h3⟩ := s_ii_spec h
    exact hk _ _ _ _ h3
  | ior  =>
    obtain ⟨x, y, r, -, h3⟩ := s_ii_spec h
    exact hk _ _ _ _ h3
  | ixor  =>
    obtain ⟨x, y, r, -, h3⟩ := s_ii_spec h
    exact hk _ _ _ _ h3
  | ishl  =>
    obtain ⟨x, y, r, -, h3⟩ := s_ii_spec h
    exact hk _ _ _ _ h3
  | ishr  =>
    obtain ⟨x, y, r, -, h3⟩ := s_ii_spec h
    exact hk _ _ _ _ h3
  | iushr  =>
    obtain ⟨x, y, r, -, h3⟩ := s_ii_spec h
    exact hk _ _ _ _ h3
  | idiv  =>
    obtain ⟨x, y, r, -, h3⟩ := s_ii_spec h
    split at h3
    · cases h3
    · exact hk _ _ _ _ h3
  | irem  =>
    obtain ⟨x, y, r, -, h3⟩ := s_ii_spec h
    split at h3
    · cases h3
    · exact hk _ _ _ _ h3
  | ineg  =>
    obtain ⟨x, r, -, h3⟩ := s_i_spec h
    exact hk _ _ _ _ h3
  | i2b  =>
    obtain ⟨x, r, -, h3⟩ := s_i_spec h
    exact hk _ _ _ _ h3
  | i2c  =>
    obtain ⟨x, r, -, h3⟩ := s_i_spec h
    exact hk _ _ _ _ h3
  | i2l  =>
    obtain ⟨x, r, -, h3⟩ := s_i_spec h
    exact hk _ _ _ _ h3
  | l2i  =>
    obtain ⟨x, r, -, h3⟩ := s_l_spec h
    exact hk _ _ _ _ h3
  | lneg  =>
    obtain ⟨x, r, -, h3⟩ := s_l_spec h
    exact hk _ _ _ _ h3
  | ladd  =>
    obtain ⟨x, y, r, -, h3⟩ := s_ll_spec h
    exact hk _ _ _ _ h3
  | lsub  =>
    obtain ⟨x, y, r, -, h3⟩ := s_ll_spec h
    exact hk _ _ _ _ h3
  | lmul  =>
    obtain ⟨x, y, r, -, h3⟩ := s_ll_spec h
    exact hk _ _ _ _ h3
  | land  =>
    obtain ⟨x, y, r, -, h3⟩ := s_ll_spec h
    exact hk _ _ _ _ h3
  | lcmp  =>
    obtain ⟨x, y, r, -, h3⟩ := s_ll_spec h
    exact hk _ _ _ _ h3
  | ldiv  =>
    obtain ⟨x, y, r, -, h3⟩ := s_ll_spec h
    split at h3
    · cases h3
    · exact hk _ _ _ _ h3
  | lrem  =>
    obtain ⟨x, y, r, -, h3⟩ := s_ll_spec h
    split at h3
    · cases h3
    · exact hk _ _ _ _ h3
  | ifCond a b =>
    obtain ⟨x, r, -, h3⟩ := s_i_spec h
    obtain ⟨t, -, h3⟩ := jmp_spec h3
    split at h3 <;> exact hk _ _ _ _ h3
  | if_icmp a b =>
    obtain ⟨x, y, r, -, h3⟩ := s_ii_spec h
    obtain ⟨t, -, h3⟩ := jmp_spec h3
    split at h3 <;> exact hk _ _ _ _ h3
  | goto a =>
    have h : jmp pc a (fun t => k t ls st σ) = some w := h
    obtain ⟨t, -, h3⟩ := jmp_spec h
    exact hk _ _ _ _ h3
  | dup  => exact q_dup (M := M) (pc := pc) (ls := ls) (call := call) hk hc h
  | dup2  => exact q_dup2 (M := M) (pc := pc) (ls := ls) (call := call) hk hc h
  | pop  => exact q_pop (M := M) (pc := pc) (ls := ls) (call := call) hk hc h
  | tableswitch a b c d => exact q_tableswitch (M := M) (pc := pc) (ls := ls) (call := call) hk hc h
  | lookupswitch a b => exact q_lookupswitch (M := M) (pc := pc) (ls := ls) (call := call) hk hc h
  | ldc a => exact q_ldc (M := M) (pc := pc) (ls := ls) (call := call) hk hc h
  | ldc_w a => exact q_ldc_w (M := M) (pc := pc) (ls := ls) (call := call) hk hc h
  | ldc2_w a => exact q_ldc2_w (M := M) (pc := pc) (ls := ls) (call := call) hk hc h
  | getstatic a => exact q_getstatic (M := M) (pc := pc) (ls := ls) (call := call) hk hc h
  | getfield a => exact q_getfield (M := M) (pc := pc) (ls := ls) (call := call) hk hc h
  | putfield a => exact q_putfield (M := M) (pc := pc) (ls := ls) (call := call) hk hc h
  | arraylength  => exact q_arraylength (M := M) (pc := pc) (ls := ls) (call := call) hk hc h
  | iaload  => exact q_iaload (M := M) (pc := pc) (ls := ls) (call := call) hk hc h
  | baload  => exact q_baload (M := M) (pc := pc) (ls := ls) (call := call) hk hc h
  | laload  => exact q_laload (M := M) (pc := pc) (ls := ls) (call := call) hk hc h
  | iastore  => exact q_iastore (M := M) (pc := pc) (ls := ls) (call := call) hk hc h
  | bastore  => exact q_bastore (M := M) (pc := pc) (ls := ls) (call := call) hk hc h
  | lastore  => exact q_lastore (M := M) (pc := pc) (ls := ls) (call := call) hk hc h
  | new a => exact q_new (M := M) (pc := pc) (ls := ls) (call := call) hk hc h
  | newarray a => exact q_newarray (M := M) (pc := pc) (ls := ls) (call := call) hk hc h
  | invokevirtual a => exact q_invokevirtual (M := M) (pc := pc) (ls := ls) (call := call) hk hc h
  | invokestatic a => exact q_invokestatic (M := M) (pc := pc) (ls := ls) (call := call) hk hc h
  | invokespecial a => exact q_invokespecial (M := M) (pc := pc) (ls := ls) (call := call) hk hc h
  | ireturn  => exact q_ireturn (M := M) (pc := pc) (ls := ls) (call := call) hk hc h
  | lreturn  => exact q_lreturn (M := M) (pc := pc) (ls := ls) (call := call) hk hc h
  | areturn  => exact q_areturn (M := M) (pc := pc) (ls := ls) (call := call) hk hc h
  | return_  => exact q_return_ (M := M) (pc := pc) (ls := ls) (call := call) hk hc h
  | _ => cases h
end Le
theorem run_le : ∀ (n M pc : Nat) (ls st : List Value) (σ : Mm) (w : Option Value × Mm), run n M pc ls st σ = some w → le2 σ w.2 := by
  intro n
  induction n with
  | zero => intro M pc ls st σ w h; cases h
  | succ n ih =>
    intro M pc ls st σ w h
    unfold run at h
    split at h
    next i len hd =>
      obtain ⟨-, h3⟩ := if_spec h
      refine q_all (fun pc2 ls2 st2 σ2 h2 => ih _ _ _ _ _ _ h2) (fun j as σ2 w1 h2 => ?_) h3
      obtain ⟨-, h2⟩ := if_spec h2
      exact ih _ _ _ _ _ _ h2
    next => cases h
