/-! ===== text, first side: what was read is told ===== -/
theorem mR_uR {σ : Mm} {a j b i : Nat} {v : Option Nat} : mR (uR σ a j v) b i = if b = a ∧ i = j then v else mR σ b i := by
  show u2 σ.2.2.1 a j v b i = _
  unfold u2
  by_cases h : b = a
  · by_cases h2 : i = j
    · rw [if_pos h, if_pos h2, if_pos ⟨h, h2⟩]
    · rw [if_pos h, if_neg h2, if_neg (fun z => h2 z.2)]
      rfl
  · rw [if_neg h, if_neg (fun z => h z.1)]
    rfl
theorem rt_no : ∀ q ∈ RT, ¬ (q.1 = 1 ∧ q.2.1 = 9) ∧ ¬ (q.1 = 0 ∧ q.2.1 = 1) := by decide
theorem sg_give {t : Nat} {σ : Mm} (hS : Sg t σ) : Sg (18 - t) (uR (uR σ 1 9 (some t)) 0 1 (some (18 - t))) := by
  obtain ⟨h1, h2, h3, h4, h5⟩ := hS
  refine ⟨h1, fun q hq => ?_, by omega, ?_, ?_⟩
  · obtain ⟨n1, n2⟩ := rt_no q hq
    rw [mR_uR, if_neg n2, mR_uR, if_neg n1]
    exact h2 q hq
  · rw [mR_uR, if_pos ⟨rfl, rfl⟩]
  · rw [mR_uR, if_neg (by omega), mR_uR, if_pos ⟨rfl, rfl⟩]
    congr 1
    omega
section TxC1
variable {t n a : Nat} {σ σ' : Mm} {D : Nat → Nat → Nat} {B : Nat → Nat}
theorem c_37 (hS : Sg t σ) : Cl 37 [.ref 1, .ref t] σ (some (.ref (18 - t)), uR σ 1 9 (some t)) := by
  refine ⟨okr_v (by decide +kernel) oo_37 (by decide) (by rw [xx_37]; exact Nat.le_of_ble_eq_true rfl) rfl (hS.k rfl), ?_⟩
  rw [xx_37]
  show Ev 37 0 [.ref 1, .ref t, .retAddr 0] [] σ _
  refine e_aload_n d_37_0 rfl rfl ?_
  refine e_getR d_37_1 oo_37 pF_4_18 (by decide) (hS.k rfl) hS.into rfl ?_
  refine e_astore_n (ls2 := [.ref 1, .ref t, .ref (18 - t)]) d_37_4 rfl rfl rfl ?_
  refine e_aload_n d_37_5 rfl rfl ?_
  refine e_aload_n d_37_6 rfl rfl ?_
  refine e_putR d_37_7 oo_37 pF_4_18 (Or.inl rfl) (hS.k rfl) rfl ?_
  refine e_aload_n d_37_10 rfl rfl ?_
  exact e_aret d_37_11 rr_37
theorem g_71 {x1 x2 : Int32} {w : Option Value × Mm} (hS : Sg t σ) (h : Ev 102 86 [.ref 0, .int x1, .int x2] [] (uR (uR σ 1 9 (some t)) 0 1 (some (18 - t))) w) : Ev 102 71 [.ref 0, .int x1, .int x2] [] σ w := by
  refine e_aload_n d_102_71 rfl rfl ?_
  refine e_aload_n d_102_72 rfl rfl ?_
  refine e_getR d_102_73 oo_102 pF_8_14 (by decide) (hS.k rfl) (hS.r rt_0_0) rfl ?_
  refine e_aload_n d_102_76 rfl rfl ?_
  refine e_getR d_102_77 oo_102 pF_8_21 (by decide) (hS.k rfl) hS.told rfl ?_
  refine e_vcall (w1 := (some (.ref (18 - t)), uR σ 1 9 (some t))) d_102_80 kc_102_80 rfl ⟨Nat.le_of_ble_eq_true rfl, xx_102.symm⟩ rfl (c_37 hS) ?_
  show Ev 102 83 [.ref 0, .int x1, .int x2] [.ref (18 - t), .ref 0] (uR σ 1 9 (some t)) w
  exact e_putR d_102_83 oo_102 pF_8_21 (Or.inl rfl) (show mK (uR σ 1 9 (some t)) 0 = some (8, 11) from hS.k rfl) rfl h
/-- the house at first -/
theorem c_18 (hS : Sg t σ) (ha : a = 3 ∨ a = 15) (hT : CT σ a D) (hW : WDr D) : ∃ σ', Cl 18 [.ref 26, .ref a] σ (none, σ') ∧ Fr (fun x i => 26 ≤ x ∧ x ≤ 29) σ σ' ∧ CH σ' 26 (hbg D) := by
  have hP := hW.1.1.2.1
  have h26 : (26 : Nat) = 26 ∨ (26 : Nat) = 30 ∨ (26 : Nat) = 34 := Or.inl rfl
  generalize eτ : uI (uI (uI (uI (uI (uI σ 26 0 0) 26 1 (nI (D 2 0))) 26 2 0) 26 3 0) 26 4 0) 26 5 0 = τ
  have F : Fr (fun x i => 26 ≤ x ∧ x ≤ 29) σ τ := by
    rw [← eτ]
    exact ((((((Fr.rf σ).uI ⟨by decide, by decide⟩).uI ⟨by decide, by decide⟩).uI ⟨by decide, by decide⟩).uI ⟨by decide, by decide⟩).uI ⟨by decide, by decide⟩).uI ⟨by decide, by decide⟩
  have St := F.sg hS
  have Tt : CT τ a D := hT.fr F (fun x i h1 h2 z => by omega)
  have c93 := c_93 St ha Tt hW.1
  have Fh : Fr (fun x i => 26 ≤ x ∧ x ≤ 29) σ (uI τ 26 6 (nI (D 6 0))) := F.uI ⟨by decide, by decide⟩
  have s7 : ∀ f, f < 7 → mI (uI τ 26 6 (nI (D 6 0))) 26 f = nI (hbg D f 0) := by
    intro f hf
    rw [← eτ]
    rcases (show f = 0 ∨ f = 1 ∨ f = 2 ∨ f = 3 ∨ f = 4 ∨ f = 5 ∨ f = 6 by omega) with rfl | rfl | rfl | rfl | rfl | rfl | rfl <;> simp [mI_uI, hbg] <;> rfl
  generalize eυ : uI τ 26 6 (nI (D 6 0)) = υ at Fh s7
  have Su := Fh.sg hS
  have Tu : CT υ a D := hT.fr Fh (fun x i h1 h2 z => by omega)
  -- ties and wear
  have lp2 : ∀ υ2, Fr (fun x i => x = 27) υ υ2 → (∀ i, i < 14 → mI υ2 27 i = 0) → ∃ σ', Ev 18 64 [.ref 26, .ref a, .int (nI 0)] [] υ2 (none, σ') ∧ Fr (fun x i => 26 ≤ x ∧ x ≤ 29) σ σ' ∧ CH σ' 26 (hbg D) := by
    intro υ2 F2 z27
    refine lp (fun k ξ => Fr (fun x i => x = 28 ∨ x = 29) υ2 ξ ∧ ∀ i, i < k → mI ξ 28 i = nI (hbg D 8 i) ∧ mI ξ 29 i = 0) (fun k ξ => ∃ σ', Ev 18 64 [.ref 26, .ref a, .int (nI k)] [] ξ (none, σ') ∧ Fr (fun x i => 26 ≤ x ∧ x ≤ 29) σ σ' ∧ CH σ' 26 (hbg D)) 10 ?_ ?_ (Nat.zero_le _) ⟨Fr.rf υ2, fun i hi => absurd hi (Nat.not_lt_zero i)⟩
    · intro k ξ hk ⟨Fx, hx⟩ ih
      have FF : Fr (fun x i => 27 ≤ x ∧ x ≤ 29) υ ξ := (F2.mono (fun x i h => by omega)).tr (Fx.mono (fun x i h => by omega))
      have Sx := FF.sg Su
      have Tx : CT ξ a D := Tu.fr FF (fun x i h1 h2 z => by omega)
      obtain ⟨σ', d, r⟩ := ih (uI (uI ξ 28 k (nI (hbg D 8 k))) 29 k 0) ⟨(Fx.uI (Or.inl rfl)).uI (Or.inr rfl), fun i hi => by
        by_cases e : i = k
        · rw [e]; exact ⟨by rw [mI_n (by omega), mI_s], mI_s⟩
        · rw [mI_n (by omega), mI_n (by omega), mI_n (by omega), mI_n (by omega)]; exact hx i (by omega)⟩
      refine ⟨σ', b_18_64 Sx h26 ha ?_, r⟩
      rw [Tx.1.2.1, nI_clamp (by omega), nI_1]
      have ib : inb (nI k) 10 = true := inb_nI hk (by decide)
      refine pk_lt k 10 (fun _ => pk_lt k (D 1 0) (fun g => ⟨ib, ib, fun σ4 q4 => ⟨ib, ?_⟩⟩) (fun g => ⟨ib, ib, fun σ1 q1 => ?_⟩) rfl rfl (by omega) (by omega)) (fun z => absurd z (by omega)) rfl rfl (by omega) (by decide)
      · rw [Tx.2.2.2.2.2.2.2.1 k g] at q4
        have e8 : hbg D 8 k = D 11 k := by unfold hbg; rw [if_neg (by omega), if_neg (by omega), if_pos ⟨rfl, g⟩]
        rw [e8] at d
        rw [q4]
        exact d
      · have e8 : hbg D 8 k = 0 := by unfold hbg; rw [if_neg (by omega), if_neg (by omega), if_neg (by omega)]
        rw [e8] at d
        rw [q1]
        exact d
    · intro ξ ⟨Fx, hx⟩
      have FF : Fr (fun x i => 27 ≤ x ∧ x ≤ 29) υ ξ := (F2.mono (fun x i h => by omega)).tr (Fx.mono (fun x i h => by omega))
      refine ⟨ξ, b_18_64 (FF.sg Su) h26 ha (pk_lt 10 10 (fun z => absurd z (by decide)) (fun _ => rfl)), Fh.tr (FF.mono (fun x i h => by omega)), fun f hf => ((FF.1 26 f (fun z => by omega)).1).trans (s7 f hf), fun i hi => ?_, fun i hi => (hx i hi).1, fun i hi => ?_⟩
      · rw [(Fx.1 27 i (fun z => by omega)).1, z27 i hi]
        unfold hbg
        rw [if_neg (by omega), if_neg (by omega), if_neg (by omega)]
        rfl
      · rw [(hx i hi).2]
        unfold hbg
        rw [if_neg (by omega), if_neg (by omega), if_neg (by omega)]
        rfl
  -- ages
  have lp1 : ∃ σ', Ev 18 43 [.ref 26, .ref a, .int (nI 0)] [] υ (none, σ') ∧ Fr (fun x i => 26 ≤ x ∧ x ≤ 29) σ σ' ∧ CH σ' 26 (hbg D) := by
    refine lp (fun k ξ => Fr (fun x i => x = 27) υ ξ ∧ ∀ i, i < k → mI ξ 27 i = 0) (fun k ξ => ∃ σ', Ev 18 43 [.ref 26, .ref a, .int (nI k)] [] ξ (none, σ') ∧ Fr (fun x i => 26 ≤ x ∧ x ≤ 29) σ σ' ∧ CH σ' 26 (hbg D)) 14 ?_ ?_ (Nat.zero_le _) ⟨Fr.rf υ, fun i hi => absurd hi (Nat.not_lt_zero i)⟩
    · intro k ξ hk ⟨Fx, hx⟩ ih
      obtain ⟨σ', d, r⟩ := ih (uI ξ 27 k 0) ⟨Fx.uI rfl, fun i hi => by
        by_cases e : i = k
        · rw [e]; exact mI_s
        · rw [mI_n (by omega)]; exact hx i (by omega)⟩
      refine ⟨σ', b_18_43 (Fx.sg Su) h26 ha ?_, r⟩
      rw [nI_clamp (by omega), nI_1]
      exact pk_lt k 14 (fun _ => ⟨inb_nI hk (by decide), d⟩) (fun z => absurd z (by omega))
    · intro ξ ⟨Fx, hx⟩
      obtain ⟨σ', d, r⟩ := lp2 ξ Fx hx
      exact ⟨σ', b_18_43 (Fx.sg Su) h26 ha (pk_lt 14 14 (fun z => absurd z (by decide)) (fun _ => d)), r⟩
  obtain ⟨σ', d, r⟩ := lp1
  refine ⟨σ', ck_18 hS h26 ha (b_18_0 hS h26 ha (fun σ1 q1 σ4 q4 => ?_)), r⟩
  rw [mI_n (by omega), hT.1.2.2.1] at q1
  rw [q4, q1, eτ]
  refine ⟨_, _, c93, St, ?_⟩
  rw [eυ]
  exact d
/-- text, where it reads so many bytes -/
theorem t_cls {H : Nat → Nat → Nat} {n0 : Nat} (hI : Inv t σ D H) (hn : n ≤ n0) (hn0 : n0 ≤ 700) (hf : mI σ 1 2 = nI n0) (hB : ∀ i, i < n → B i < 256 ∧ mI σ 2 i &&& 255 = nI (B i)) : (∀ e, pText B n (n + 1) D0 0 0 = .inl e → ∃ σ1, Cl 102 [.ref 0, .int (nI n)] σ (some (.int (-1)), σ1) ∧ Fr (fun x i => x = 1 ∨ (18 - t ≤ x ∧ x ≤ 18 - t + 10) ∨ x = 14) σ σ1 ∧ CF e σ1 ∧ mI σ1 1 2 = 0) ∧ (∀ D' l, pText B n (n + 1) D0 0 0 = .inr (D', l) → ∃ σ1, Cl 102 [.ref 0, .int (nI n)] σ (some (.int (nI l)), σ1) ∧ Sg (18 - t) σ1 ∧ WDr D' ∧ CT σ1 (18 - t) D' ∧ CH σ1 26 (hbg D') ∧ (mI σ1 1 2 = 0 ∧ mI σ1 1 0 = 0 ∧ mI σ1 1 1 = -1 ∧ mI σ1 49 0 = 0 ∧ mI σ1 49 1 = -1 ∧ mI σ1 41 0 = 0 ∧ mI σ1 41 1 = 0 ∧ mI σ1 0 5 = 0) ∧ ∀ x i, 59 ≤ x → mI σ1 x i = mI σ x i ∧ mL σ1 x i = mL σ x i) := by
  have hS := hI.1.sg
  have ha := hS.ti
  -- begin
  have c280 := c_280n (σ := σ) (a := n) (b := 700) hS (by omega) (by decide)
  rw [show min n 700 = n by omega] at c280
  have F1 : Fr (fun x i => x = 1 ∨ (18 - t ≤ x ∧ x ≤ 18 - t + 10) ∨ x = 14) σ (uI (uI (uI σ 1 4 (nI n)) 1 2 0) 1 5 0) := (((Fr.rf σ).uI (Or.inl rfl)).uI (Or.inl rfl)).uI (Or.inl rfl)
  obtain ⟨σ4, d4, F4, C4⟩ := c_88 (F1.sg hS) ha
  have FF4 := F1.tr (F4.mono (fun x i h => Or.inr (Or.inl h)))
  have r4 : ∀ i, mI σ4 1 i = mI (uI (uI (uI σ 1 4 (nI n)) 1 2 0) 1 5 0) 1 i := fun i => (F4.1 1 i (fun z => by omega)).1
  generalize eβ : uI (uI (uI σ4 1 10 0) 1 0 0) 1 1 (-1) = β
  have Fb : Fr (fun x i => x = 1 ∨ (18 - t ≤ x ∧ x ≤ 18 - t + 10) ∨ x = 14) σ β := by
    rw [← eβ]
    exact ((FF4.uI (Or.inl rfl)).uI (Or.inl rfl)).uI (Or.inl rfl)
  have Sb := Fb.sg hS
  have c38 : Cl 38 [.ref 1, .int (nI n)] σ (none, β) := by
    refine ck_38 hS (b_38_0 hS ⟨_, _, c280, hS, σ4, d4, FF4.sg hS, ?_⟩)
    rw [eβ]
  have b4 : mI β 1 4 = nI n := by rw [← eβ, mI_n (by omega), mI_n (by omega), mI_n (by omega), r4, mI_n (by omega), mI_n (by omega), mI_s]
  have b2 : mI β 1 2 = 0 := by rw [← eβ, mI_n (by omega), mI_n (by omega), mI_n (by omega), r4, mI_n (by omega), mI_s]
  have b5 : mI β 1 5 = nI 0 := by rw [← eβ, mI_n (by omega), mI_n (by omega), mI_n (by omega), r4, mI_s]; rfl
  have b10 : mI β 1 10 = nI (D0 7 0) := by rw [← eβ, mI_n (by omega), mI_n (by omega), mI_s]; rfl
  have b0' : mI β 1 0 = 0 := by rw [← eβ, mI_n (by omega), mI_s]
  have b1' : mI β 1 1 = -1 := by rw [← eβ, mI_s]
  have Cb : CR β (18 - t) D0 := C4.fr (W := fun x i => x = 1) (by rw [← eβ]; exact (((Fr.rf (P := fun x i => x = 1) σ4).uI rfl).uI rfl).uI rfl) (fun x i h1 h2 z => by omega)
  have Rb : RC β B n := by
    refine ⟨by omega, b4, fun i hi => ?_⟩
    rw [(Fb.1 2 i (fun z => by omega)).1]
    exact hB i hi
  have L := lp_102 Sb Rb b0' (n + 1) 0 D0 0 β (by omega) (Nat.zero_le _) (Nat.zero_le _) wd0 (Fr.rf β) Cb b5 b10
  have to : ∀ w, Ev 102 28 [.ref 0, .int (nI n), .int (nI 0)] [] β w → Cl 102 [.ref 0, .int (nI n)] σ w := by
    intro w hw
    refine ck_102 hS (b_102_0 hS ⟨fun z => absurd z (nI_pos (by omega)), fun _ => ?_⟩)
    rw [hf]
    exact ⟨fun z => absurd z (nI_nlt hn (by omega)), fun _ => ⟨β, c38, Sb, hw⟩⟩
  refine ⟨fun e he => ?_, fun D' l he => ?_⟩
  · obtain ⟨σ1, d1, F, c⟩ := L.1 e he
    refine ⟨σ1, to _ d1, Fb.tr (F.mono (fun x i h => ?_)), c, ?_⟩
    · rcases h with h | h
      · omega
      · unfold Wl1 at h; omega
    · rw [(F.1 1 2 (fun z => by unfold Wl0 Wl1 at z; omega)).1, b2]
  · obtain ⟨σ1, F, C, W', hl, go⟩ := L.2 D' l he
    have S1 := F.sg Sb
    have SG := sg_give S1
    have ha' : 18 - t = 3 ∨ 18 - t = 15 := ha
    have CTg : CT (uR (uR σ1 1 9 (some t)) 0 1 (some (18 - t))) (18 - t) D' := C.ct W'
    obtain ⟨σ2, d2, F2, H2⟩ := c_18 (D := D') SG ha' CTg W'
    have S2 := F2.sg SG
    have r2 : ∀ x i, ¬ (26 ≤ x ∧ x ≤ 29) → mI σ2 x i = mI σ1 x i ∧ mL σ2 x i = mL σ1 x i := fun x i h => F2.1 x i h
    generalize eω : uI (uI (uI (uI (uI σ2 49 0 0) 49 1 (-1)) 41 0 0) 41 1 0) 0 5 0 = ω
    have Fw : Fr (fun x i => x = 49 ∨ x = 41 ∨ x = 0) σ2 ω := by
      rw [← eω]
      exact (((((Fr.rf σ2).uI (Or.inl rfl)).uI (Or.inl rfl)).uI (Or.inr (Or.inl rfl))).uI (Or.inr (Or.inl rfl))).uI (Or.inr (Or.inr rfl))
    have e27 : Cl 27 [.ref 49] σ2 (none, uI (uI σ2 49 0 0) 49 1 (-1)) := ck_27 S2 (b_27_0 S2 rfl)
    have e97 : Cl 97 [.ref 41] (uI (uI σ2 49 0 0) 49 1 (-1)) (none, uI (uI (uI (uI σ2 49 0 0) 49 1 (-1)) 41 0 0) 41 1 0) := ck_97 S2.uI.uI (b_97_0 S2.uI.uI rfl)
    have rw1 : ∀ i, mI ω 1 i = mI σ1 1 i := fun i => ((Fw.1 1 i (fun z => by omega)).1).trans ((r2 1 i (by omega)).1)
    have r1 : ∀ i, ¬ (5 ≤ i) → mI σ1 1 i = mI β 1 i := fun i hi => (F.1 1 i (fun z => by unfold Wl1 at z; omega)).1
    have ht := hS.tt
    refine ⟨ω, to _ (go _ (g_71 S1 (b_102_86 SG ⟨σ2, d2, S2, _, e27, S2.uI.uI, _, e97, S2.uI.uI.uI.uI, ?_⟩))), Fw.sg S2, W', ?_, ?_, ⟨?_, ?_, ?_, ?_, ?_, ?_, ?_, ?_⟩, fun x i hx => ?_⟩
    · rw [eω]
    · refine (CTg.fr F2 (fun x i h1 h2 z => by omega)).fr Fw (fun x i h1 h2 z => by omega)
    · exact H2.fr Fw (fun x i h1 h2 z => by omega)
    · rw [rw1, r1 2 (by omega), b2]
    · rw [rw1, r1 0 (by omega), b0']
    · rw [rw1, r1 1 (by omega), b1']
    · rw [← eω, mI_n (by omega), mI_n (by omega), mI_n (by omega), mI_n (by omega), mI_s]
    · rw [← eω, mI_n (by omega), mI_n (by omega), mI_n (by omega), mI_s]
    · rw [← eω, mI_n (by omega), mI_n (by omega), mI_s]
    · rw [← eω, mI_n (by omega), mI_s]
    · rw [← eω, mI_s]
    · have a1 := Fw.1 x i (fun z => by omega)
      have a2 := r2 x i (by omega)
      have a3 := F.1 x i (fun z => by unfold Wl1 at z; omega)
      have a4 := Fb.1 x i (fun z => by omega)
      exact ⟨((a1.1.trans a2.1).trans a3.1).trans a4.1, ((a1.2.trans a2.2).trans a3.2).trans a4.2⟩
end TxC1
