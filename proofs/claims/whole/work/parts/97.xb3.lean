/-! ===== the law: its loop ===== -/
theorem rdX0 {t : Nat} {σ : Mm} {L i : Nat} {xs : Nat → Int32} (hS : Sg t σ) (hX : mX σ = (L, xs)) (hi : i < L) (hL : L ≤ 3072) : rdI σ 2000000 (nI i) = some (xs i) := by
  unfold rdI
  rw [sc_none hS (by decide), hX]
  show (if _ then _ else _) = _
  rw [nI_clamp (by omega)]
  exact if_pos ⟨rfl, inb_nI hi (by omega)⟩
theorem alX {t : Nat} {σ : Mm} {L : Nat} {xs : Nat → Int32} (hS : Sg t σ) (hX : mX σ = (L, xs)) : alen σ 2000000 = some L := by
  unfold alen
  rw [sc_none hS (by decide), hX]
  rfl
theorem l_6 {L i : Nat} (hL : L ≤ 3072) (hi : i ≤ L) (h : ¬ (nI L - 6 < nI i)) : i + 6 ≤ L := by
  rcases Nat.lt_or_ge L 6 with g | g
  · refine absurd ?_ h
    rw [fa_lt, nI_toInt (by omega)]
    rcases (show L = 0 ∨ L = 1 ∨ L = 2 ∨ L = 3 ∨ L = 4 ∨ L = 5 by omega) with e | e | e | e | e | e <;> subst e
    · have : (nI 0 - 6).toInt = -6 := by decide
      omega
    · have : (nI 1 - 6).toInt = -5 := by decide
      omega
    · have : (nI 2 - 6).toInt = -4 := by decide
      omega
    · have : (nI 3 - 6).toInt = -3 := by decide
      omega
    · have : (nI 4 - 6).toInt = -2 := by decide
      omega
    · have : (nI 5 - 6).toInt = -1 := by decide
      omega
  · rw [show nI L - 6 = nI (L - 6) from pk_sub (a := L) (b := 6) (by omega), fa_lt, nI_toInt (by omega), nI_toInt (by omega)] at h
    omega
theorem w_23 {L : Nat} {xs : Nat → Int32} (hL : L ≤ 3072) : ∀ (n i t : Nat) (σ : Mm) (D H : Nat → Nat → Nat) (z5 z6 : Value), L < i + n → i ≤ L → Inv t σ D H → S9 σ → mX σ = (L, xs) → 6 * (mU σ).1 ≤ 600 + i ∧ (mU σ).2.1 ≤ 13000 + i → ∃ σf, Ev 273 23 [.ref 2000000, .ref 0, .ref 59, .ref 99, .int (nI i), z5, z6] [] σ (some (.int 1), σf) ∧ ((mU σf).1 ≤ 1126 ∧ (mU σf).2.1 ≤ 16323) := by
  intro n
  induction n with
  | zero => intro i t σ D H z5 z6 h1 h2; omega
  | succ n ih =>
    intro i t σ D H z5 z6 h1 h2 hI h9 hX hU
    have S0 := hI.1.sg
    by_cases hc : nI L - 6 < nI i
    · refine ⟨σ, ?_, by omega, by omega⟩
      refine e_iload d_273_23 rfl rfl ?_
      refine e_aload_n d_273_25 rfl rfl ?_
      refine e_alen (m := L) (v := nI L) d_273_26 (alX S0 hX) rfl rfl ?_
      refine e_bipush d_273_27 cb_6 rfl ?_
      refine e_isub d_273_29 rfl ?_
      refine e_icmp_gt (t := 1461) d_273_30 (by decide) rfl (fun _ => ?_) (fun z => absurd hc z)
      refine e_iconst d_273_1461 ci_1 rfl ?_
      exact e_zret d_273_1462 rr_273 (Or.inr rfl)
    · have h6 := l_6 hL h2 hc
      have hw := w_40 (z5 := z5) (z6 := z6) (x := xs i &&& 63) (P := fun σf => (mU σf).1 ≤ 1126 ∧ (mU σf).2.1 ≤ 16323) hI h9 hX h6 hL (fun t' σ' D' H' z5 z6 I' I9 X' U' => by
        have hU' : 6 * (mU σ').1 ≤ 600 + (i + 6) ∧ (mU σ').2.1 ≤ 13000 + (i + 6) := by
          rcases U' with e | e
          · rw [e]; omega
          · rw [e]
            show 6 * ((mU σ).1 + 1) ≤ _ ∧ (mU σ).2.1 + 6 ≤ _
            omega
        obtain ⟨σf, e, p⟩ := ih (i + 6) t' σ' D' H' z5 z6 (by omega) h6 I' I9 X' hU'
        refine ⟨σf, ?_, p⟩
        refine e_iinc (ls2 := [.ref 2000000, .ref 0, .ref 59, .ref 99, .int (nI i + 6), z5, z6]) d_273_1455 rfl ci_6 rfl rfl rfl ?_
        refine e_goto (t := 23) d_273_1458 (by decide) ?_
        rw [show nI i + 6 = nI (i + 6) from nI_add _ _]
        exact e)
      obtain ⟨σf, e, p⟩ := hw
      refine ⟨σf, ?_, p⟩
      refine e_iload d_273_23 rfl rfl ?_
      refine e_aload_n d_273_25 rfl rfl ?_
      refine e_alen (m := L) (v := nI L) d_273_26 (alX S0 hX) rfl rfl ?_
      refine e_bipush d_273_27 cb_6 rfl ?_
      refine e_isub d_273_29 rfl ?_
      refine e_icmp_gt (t := 1461) d_273_30 (by decide) rfl (fun z => absurd z hc) (fun _ => ?_)
      refine e_aload_n d_273_33 rfl rfl ?_
      refine e_iload d_273_34 rfl rfl ?_
      refine e_iaload (v := xs i) d_273_36 (rdX0 S0 hX (by omega) hL) rfl ?_
      refine e_bipush d_273_37 cb_63 rfl ?_
      refine e_iand d_273_39 rfl ?_
      exact e
