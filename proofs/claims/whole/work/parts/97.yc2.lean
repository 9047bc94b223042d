/-! ===== the start: all stands; the law's run ===== -/
section Yc2
variable {X : Nat × (Nat → Int32)} {σ : Mm}
theorem inv_9 (h : In9 X σ) : Inv 15 σ D0 (hbg D0) := by
  obtain ⟨S, k, u, x, mt, mh, nu, ⟨z1, z2, z3, z4⟩, fr⟩ := h
  have ct : CT σ 15 D0 := by
    refine ⟨⟨?_, ?_, ?_, ?_, ?_⟩, Or.inl ⟨?_, rfl⟩, Or.inl ⟨?_, rfl⟩, ?_, fun i hi => absurd hi (Nat.not_lt_zero _), fun i hi => absurd hi (Nat.not_lt_zero _), fun i hi => absurd hi (Nat.not_lt_zero _), fun i hi => absurd hi (Nat.not_lt_zero _), fun i hi => absurd hi (Nat.not_lt_zero _), fun i hi => absurd hi (Nat.not_lt_zero _), fun i hi => absurd hi (Nat.not_lt_zero _), fun i hi => absurd hi (Nat.not_lt_zero _), fun i hi => ?_, fun i hi => ?_⟩
    · rw [fr 15 0 (by omega)]; decide +kernel
    · rw [fr 15 1 (by omega)]; decide +kernel
    · rw [fr 15 2 (by omega)]; decide +kernel
    · rw [fr 15 3 (by omega)]; decide +kernel
    · rw [fr 15 4 (by omega)]; decide +kernel
    · rw [fr 15 5 (by omega)]; decide +kernel
    · rw [fr 15 6 (by omega)]; decide +kernel
    · rw [fr 15 7 (by omega)]; decide +kernel
    · rw [fr _ i (by omega)]
      have : ∀ i, i < 3 → gI LI9 (15 + 9) i = nI (D0 16 i) := by decide +kernel
      exact this i hi
    · rw [fr _ i (by omega)]
      have : ∀ i, i < 3 → gI LI9 (15 + 10) i = nI (D0 17 i) := by decide +kernel
      exact this i hi
  have ch : CH σ 26 (hbg D0) := by
    refine ⟨fun f hf => ?_, fun i hi => ?_, fun i hi => ?_, fun i hi => ?_⟩
    · rw [fr 26 f (by omega)]
      have : ∀ f, f < 7 → gI LI9 26 f = nI (hbg D0 f 0) := by decide +kernel
      exact this f hf
    · rw [fr _ i (by omega)]
      have : ∀ i, i < 14 → gI LI9 (26 + 1) i = nI (hbg D0 7 i) := by decide +kernel
      exact this i hi
    · rw [fr _ i (by omega)]
      have : ∀ i, i < 10 → gI LI9 (26 + 2) i = nI (hbg D0 8 i) := by decide +kernel
      exact this i hi
    · rw [fr _ i (by omega)]
      have : ∀ i, i < 10 → gI LI9 (26 + 3) i = nI (hbg D0 9 i) := by decide +kernel
      exact this i hi
  refine ⟨⟨S, Or.inr rfl, ⟨wd0.1, (wh_bg wd0).1, (wh_bg wd0).2⟩, ⟨ct, ch⟩, mt, mh, nu⟩, ⟨0, by decide, ?_, ?_, ?_, ?_, fun i hi => absurd hi (Nat.not_lt_zero _), fun i hi => ?_⟩, ⟨false, ?_, z4, fun z => absurd z (by decide)⟩, ⟨0, 0, fun _ => hbg D0, by decide, by decide, ?_, ?_, z3, rfl, fun k hk => absurd hk (Nat.not_lt_zero _)⟩, ⟨0, -1, fun _ => 0, fun _ => 0, fun _ => false, by decide, ?_, z1, ?_, z2, Or.inl rfl, fun k hk => absurd hk (Nat.not_lt_zero _)⟩⟩
  · rw [fr 1 2 (by omega)]; decide +kernel
  · rw [fr 59 1 (by omega)]; decide +kernel
  · rw [fr 59 4 (by omega), fr 1 0 (by omega)]; decide +kernel
  · rw [fr 59 5 (by omega), fr 1 1 (by omega)]; decide +kernel
  · rw [fr 61 i (by omega)]
    have : ∀ i, i < 101 → gI LI9 61 i = nI (wdl.getD i 0) := by decide +kernel
    exact this i hi
  · rw [fr 0 5 (by omega)]; decide +kernel
  · rw [fr 41 0 (by omega)]; decide +kernel
  · rw [fr 41 1 (by omega)]; decide +kernel
  · rw [fr 49 0 (by omega)]; decide +kernel
  · rw [fr 49 1 (by omega)]; decide +kernel
/-- the law's own array made, all still stands -/
theorem inv_10 (h : In9 X σ) : Inv 15 (nw σ 12 1) D0 (hbg D0) ∧ S9 (nw σ 12 1) := by
  have hI := inv_9 h
  obtain ⟨S, k, u, x, -⟩ := h
  have hl : (mKs σ).length = 99 := by rw [k]; rfl
  have F : Fr Wq σ (u1 σ.1 99 (fun _ => 0), u1 σ.2.1 99 (fun _ => 0), σ.2.2) := by
    refine ⟨fun a i ha => ⟨?_, ?_⟩, rfl⟩
    · show (if a = 99 then (fun _ => (0 : Int32)) else σ.1 a) i = σ.1 a i
      rw [if_neg (fun e => ha (by unfold Wq; omega))]
    · show (if a = 99 then (fun _ => (0 : Int64)) else σ.2.1 a) i = σ.2.1 a i
      rw [if_neg (fun e => ha (by unfold Wq; omega))]
  have I2 := hI.fr F
  have k9 : S9 (nw σ 12 1) := by
    show mKs σ ++ [(12, 1)] = _
    rw [k]
  have mr : ∀ a j b, a < 99 → mR σ a j = some b → mR (nw σ 12 1) a j = some b := by
    intro a j b ha e
    show (if a = (mKs σ).length then (fun _ => (none : Option Nat)) else mR σ a) j = some b
    rw [hl, if_neg (by omega)]; exact e
  have hrt : ∀ q ∈ RT, q.1 < 99 := by decide +kernel
  have sg : Sg 15 (nw σ 12 1) := ⟨Or.inr k9, fun q hq => mr _ _ _ (hrt q hq) (S.2.1 q hq), S.2.2.1, mr _ _ _ (by decide) S.2.2.2.1, mr _ _ _ (by decide) S.2.2.2.2⟩
  refine ⟨?_, k9⟩
  obtain ⟨⟨-, q2⟩, r⟩ := I2
  have e1 : (nw σ 12 1).1 = u1 σ.1 99 (fun _ => 0) := by show u1 σ.1 (mKs σ).length _ = _; rw [hl]
  have e2 : (nw σ 12 1).2.1 = u1 σ.2.1 99 (fun _ => 0) := by show u1 σ.2.1 (mKs σ).length _ = _; rw [hl]
  generalize nw σ 12 1 = ν at sg e1 e2
  obtain ⟨ν1, ν2, ν3⟩ := ν
  have e1 : ν1 = u1 σ.1 99 (fun _ => 0) := e1
  have e2 : ν2 = u1 σ.2.1 99 (fun _ => 0) := e2
  subst e1 e2
  exact ⟨⟨sg, q2⟩, r⟩
/-- the law's first rows -/
theorem law_go {L : Nat} {xs : Nat → Int32} {σ0 : Mm} (hL : L ≤ 3072) (h0 : Mz (L, xs) 0 [] [] σ0) : ∃ σf, Ev 273 0 [.ref 2000000, .retAddr 0, .retAddr 0, .retAddr 0, .retAddr 0, .retAddr 0, .retAddr 0] [] σ0 (some (.int 1), σf) ∧ ((mU σf).1 ≤ 1126 ∧ (mU σf).2.1 ≤ 16323) := by
  show Ez (some (.int 1)) 273 0 _ [] σ0 (fun σf => (mU σf).1 ≤ 1126 ∧ (mU σf).2.1 ≤ 16323)
  refine z_new h0 d_273_0 oo_273 pN_10_8 rfl rfl (fun σ1 h1 => ?_)
  refine z_up (fun w => e_dup d_273_3 rfl rfl) ?_
  refine z_call d_273_4 kc_273_4 (by decide) rfl ⟨Nat.le_of_ble_eq_true rfl, xx_273.symm⟩ rfl (n_100_0 h1) (fun σ2 h2 => ?_)
  refine z_up (fun w => e_astore_n (ls2 := [.ref 2000000, .ref 0, .retAddr 0, .retAddr 0, .retAddr 0, .retAddr 0, .retAddr 0]) d_273_7 rfl rfl rfl) ?_
  refine z_new h2 d_273_8 oo_273 pN_10_18 rfl rfl (fun σ3 h3 => ?_)
  refine z_up (fun w => e_dup d_273_11 rfl rfl) ?_
  refine z_call d_273_12 kc_273_12 (by decide) rfl ⟨Nat.le_of_ble_eq_true rfl, xx_273.symm⟩ rfl (n_149_59 h3) (fun σ4 h4 => ?_)
  refine z_up (fun w => e_astore_n (ls2 := [.ref 2000000, .ref 0, .ref 59, .retAddr 0, .retAddr 0, .retAddr 0, .retAddr 0]) d_273_15 rfl rfl rfl) ?_
  refine z_up (fun w => e_iconst d_273_16 ci_1 rfl) ?_
  obtain ⟨hI, h9⟩ := inv_10 h4
  obtain ⟨S, k, u, x, -⟩ := h4
  have hl : (mKs σ4).length = 99 := by rw [k]; rfl
  refine z_up (fun w => e_newarray (c := 12) d_273_17 rfl ⟨by decide, by decide, by rw [hl, u], by rw [u]; decide⟩ rfl) ?_
  rw [hl]
  refine z_up (fun w => e_astore_n (ls2 := [.ref 2000000, .ref 0, .ref 59, .ref 99, .retAddr 0, .retAddr 0, .retAddr 0]) d_273_19 rfl rfl rfl) ?_
  refine z_up (fun w => e_iconst d_273_20 ci_0 rfl) ?_
  refine z_up (fun w => e_istore (ls2 := [.ref 2000000, .ref 0, .ref 59, .ref 99, .int 0, .retAddr 0, .retAddr 0]) d_273_21 rfl rfl rfl) ?_
  refine w_23 hL (L + 1) 0 15 (nw σ4 12 1) D0 (hbg D0) (.retAddr 0) (.retAddr 0) (by omega) (Nat.zero_le _) hI h9 x ?_
  show 6 * ((mU σ4).1 + 1) ≤ 600 + 0 ∧ (mU σ4).2.1 + 1 ≤ 13000 + 0
  rw [u]
  exact ⟨by decide, by decide +kernel⟩
end Yc2
