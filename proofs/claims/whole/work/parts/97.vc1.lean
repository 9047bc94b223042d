/-! ===== lines, second side: each ===== -/
section LinM1
variable {t n : Nat} {σ σ' : Mm} {D : Nat → Nat → Nat} {B : Nat → Nat}
theorem c_170 {p0 : Nat} (hS : Sg t σ) (h : RM σ B n) (hM : MC σ B n p0) (hp0 : p0 ≤ n) (hR : MRd σ D) (hW : WDr D) : OkN σ B n (pLamp B n D (tS B n p0) (tE B n p0)) (fun v σ' => Cl 170 [.ref 59] σ (v, σ')) := by
  have hL := hW.1.1.1
  have hp := tE_le (B := B) hp0
  have l0 := hR.1.1
  have i14 : (nI (D 0 0) = 14) ↔ D 0 0 = 14 := nI_eq (b := 14) (by omega) (by decide)
  by_cases g0 : D 0 0 = 14
  · obtain ⟨σ', d, F, r⟩ := c_154 (e := 2) hS hM.2.1
    refine OkN.no (if_pos g0) ⟨σ', ck_170 hS (b_170_0 hS ?_), F.mono (fun _ _ h => wm_f h), r⟩
    rw [l0]
    exact ⟨fun _ => ⟨_, _, d, F.sg hS, Or.inl rfl, rfl⟩, fun z => absurd (i14.mpr g0) z⟩
  · obtain ⟨σ1, d1, F1, R1, M1⟩ := nxr hS h hM hp0 hR
    have S1 := F1.sg hS
    generalize hpp : tE B n p0 = p at *
    obtain ⟨y, no⟩ := r_168 (f := 8) (n0 := 28) S1 (h.fz F1) M1 hp R1 hW (Or.inl ⟨rfl, rfl, by omega⟩)
    have to : ∀ w', (∃ (v6 : Int32) (σ4 : Mm), Cl 168 [.ref 59, .ref 65, .int 14, .int (nI (D 0 0))] σ1 (some (.int v6), σ4) ∧ Sg t σ4 ∧ ((v6 = 0 → (w' = (some (.int 0), σ4))) ∧ (¬ (v6 = 0) → (w' = (some (.int 1), uI σ4 59 17 ((mI σ4 59 17) + 1)))))) → Cl 170 [.ref 59] σ w' := by
      intro w' hw
      refine ck_170 hS (b_170_0 hS ?_)
      rw [l0]
      refine ⟨fun z => absurd (i14.mp z) g0, fun _ => ⟨σ1, d1, S1, ?_⟩⟩
      rw [R1.1.1]
      exact hw
    by_cases g1 : tK B n p = 3
    · have e1 : pLamp B n D (tS B n p0) p = if fdl D (tV B n p) < D 0 0 then .inl (3, tS B n p) else .inr (hu (hu D 8 (D 0 0) (tV B n p)) 0 0 (D 0 0 + 1), tE B n p) := (if_neg g0).trans (if_neg (fun z => z g1))
      by_cases g2 : fdl D (tV B n p) < D 0 0
      · obtain ⟨σ', d, F, r⟩ := no 3 (Or.inr ⟨g1, g2, rfl⟩)
        exact OkN.no (e1.trans (if_pos g2)) ⟨σ', to _ ⟨_, _, d, F.sg S1, fun _ => rfl, fun z => absurd rfl z⟩, (F1.mono (fun _ _ h => Or.inr (wm_z h))).tr (F.mono (fun _ _ h => wm_f h)), r⟩
      · obtain ⟨σ4, d, F, M4, R4, v4⟩ := y g1 g2
        have R4 : MRd σ4 (hu D 8 (D 0 0) (tV B n p)) := R4
        have v4 : mI σ4 65 (14 + D 0 0) = nI (tV B n p) := v4
        have e00 : hu D 8 (D 0 0) (tV B n p) 0 0 = D 0 0 := hu_n (by omega)
        have R5 := R4.cnt (c := 0) (k := 17) (Or.inl ⟨rfl, rfl⟩) (fun f f1 f2 fc => by
          have : f = 8 := by
            unfold cf at fc
            repeat' split at fc
            all_goals omega
          subst this
          rw [e00, hu_s]
          exact v4)
        rw [e00] at R5
        have F4 : Fr Wm1 σ σ4 := (F1.mono (fun _ _ h => wm_z h)).tr (F.mono (fun x i h => by
          rcases h with h | ⟨rfl, h⟩
          · exact wm_z h
          · rw [h]; exact mof_w (f := 8) (by decide) (by decide)))
        refine OkN.yes (e1.trans (if_neg g2)) ⟨uI σ4 59 17 (nI (D 0 0 + 1)), to _ ⟨_, _, d, F4.sg hS, fun z => absurd z (by decide), fun _ => ?_⟩, F4.uI (Or.inl ⟨rfl, by omega⟩), M4.cg (fun i h1 h2 => mI_n (by omega)), R5⟩
        rw [R4.1.1, e00, nI_1]
    · obtain ⟨σ', d, F, r⟩ := no 1 (Or.inl ⟨g1, rfl⟩)
      exact OkN.no ((if_neg g0).trans (if_pos g1)) ⟨σ', to _ ⟨_, _, d, F.sg S1, fun _ => rfl, fun z => absurd rfl z⟩, (F1.mono (fun _ _ h => Or.inr (wm_z h))).tr (F.mono (fun _ _ h => wm_f h)), r⟩
/-- one lamp for a set -/
theorem r_171 {s p : Nat} (hS : Sg t σ) (h : RM σ B n) (hM : MC σ B n p) (hp : p ≤ n) (hR : MRd σ D) (hW : WDr D) (hs : s < 2 ^ 31) : (tK B n p = 3 → fdl D (tV B n p) < D 0 0 → s.testBit (fdl D (tV B n p)) = false → ∃ σ', Cl 171 [.ref 59, .int (nI s)] σ (some (.int 1), σ') ∧ Fr (fun x i => Wz x i ∨ (x = 59 ∧ i = 11)) σ σ' ∧ MC σ' B n (tE B n p) ∧ mI σ' 59 11 = nI (fdl D (tV B n p))) ∧ (∀ e, (tK B n p ≠ 3 ∧ e = 1) ∨ (tK B n p = 3 ∧ ¬ fdl D (tV B n p) < D 0 0 ∧ e = 4) ∨ (tK B n p = 3 ∧ fdl D (tV B n p) < D 0 0 ∧ s.testBit (fdl D (tV B n p)) = true ∧ e = 3) → ∃ σ', Cl 171 [.ref 59, .int (nI s)] σ (some (.int 0), σ') ∧ Fr Wm0 σ σ' ∧ MF (e, tS B n p) σ') := by
  have hL := hW.1.1.1
  obtain ⟨y, no⟩ := r_169 (f := 8) (n0 := 28) hS h hM hp hR hW (Or.inl ⟨rfl, rfl⟩)
  have l0 := hR.1.1
  have to : ∀ w', (∃ (v3 : Int32) (σ1 : Mm), Cl 169 [.ref 59, .ref 65, .int 14, .int (nI (D 0 0))] σ (some (.int v3), σ1) ∧ Sg t σ1 ∧ ((v3 = 0 → (w' = (some (.int 0), σ1))) ∧ (¬ (v3 = 0) → (∃ (v6 : Int32) (σ4 : Mm), Cl 153 [.int (nI s), .int (mI σ1 59 11)] σ1 (some (.int v6), σ4) ∧ Sg t σ4 ∧ ((v6 = 0 → (w' = (some (.int 1), σ4))) ∧ (¬ (v6 = 0) → (∃ (v9 : Int32) (σ7 : Mm), Cl 154 [.ref 59, .int 3] (uI σ4 59 10 (mI σ 59 10)) (some (.int v9), σ7) ∧ Sg t σ7 ∧ ((v9 = 0 ∨ v9 = 1) ∧ w' = (some (.int v9), σ7)))))))) ) → Cl 171 [.ref 59, .int (nI s)] σ w' := by
    intro w' hw
    refine ck_171 hS (b_171_0 hS ?_)
    rw [l0]
    exact hw
  have fle : fdl D (tV B n p) ≤ D 0 0 := fa_first_le _ _
  have wz11 : ∀ x i, (Wz x i ∨ (x = 59 ∧ i = 11)) → Wm1 x i := fun x i h => by
    rcases h with h | h
    · exact wm_z h
    · unfold Wm1; omega
  refine ⟨fun e1 e2 e3 => ?_, fun e he => ?_⟩
  · obtain ⟨σ1, d, F, M1, v1⟩ := y e1 e2
    have v1 : mI σ1 59 11 = nI (fdl D (tV B n p)) := v1
    have S1 := F.sg hS
    have c153 := c_153 (σ := σ1) (n := s) (k := fdl D (tV B n p)) S1 hs (by omega)
    rw [e3] at c153
    exact ⟨σ1, to _ ⟨_, _, d, S1, fun z => absurd z (by decide), fun _ => ⟨_, _, by rw [v1]; exact c153, S1, fun _ => rfl, fun z => absurd rfl z⟩⟩, F, M1, v1⟩
  · rcases he with ⟨e1, e2⟩ | ⟨e1, e2, e3⟩ | ⟨e1, e2, e3, e4⟩
    · obtain ⟨σ', d, F, r⟩ := no 1 (Or.inl ⟨e1, rfl⟩)
      rw [e2]
      exact ⟨σ', to _ ⟨_, _, d, F.sg hS, fun _ => rfl, fun z => absurd rfl z⟩, F.mono (fun _ _ h => wm_f h), r⟩
    · obtain ⟨σ', d, F, r⟩ := no 4 (Or.inr ⟨e1, e2, rfl⟩)
      rw [e3]
      exact ⟨σ', to _ ⟨_, _, d, F.sg hS, fun _ => rfl, fun z => absurd rfl z⟩, F.mono (fun _ _ h => wm_f h), r⟩
    · obtain ⟨σ1, d, F, M1, v1⟩ := y e1 e2
      have v1 : mI σ1 59 11 = nI (fdl D (tV B n p)) := v1
      have S1 := F.sg hS
      have c153 := c_153 (σ := σ1) (n := s) (k := fdl D (tV B n p)) S1 hs (by omega)
      rw [if_pos e3] at c153
      have F2 : Fr Wm1 σ (uI σ1 59 10 (nI (tS B n p))) := (F.mono wz11).uI (Or.inl ⟨rfl, by omega⟩)
      obtain ⟨σ', d2, F3, r⟩ := c_154 (e := 3) (F2.sg hS) mI_s
      rw [e4]
      refine ⟨σ', to _ ⟨_, _, d, S1, fun z => absurd z (by decide), fun _ => ⟨_, _, by rw [v1]; exact c153, S1, fun z => absurd z (by decide), fun _ => ⟨_, _, by rw [hM.2.1]; exact d2, F3.sg (F2.sg hS), Or.inl rfl, rfl⟩⟩⟩, (F2.mono (fun _ _ h => Or.inr h)).tr (F3.mono (fun _ _ h => wm_f h)), r⟩
theorem wz11 {x i : Nat} (h : Wz x i ∨ (x = 59 ∧ i = 11)) : Wm1 x i := by
  rcases h with h | h
  · exact wm_z h
  · unfold Wm1; omega
theorem MRd.f11 (hR : MRd σ D) (hf : Fr (fun x i => Wz x i ∨ (x = 59 ∧ i = 11)) σ σ') : MRd σ' D := hR.fr (fun x i h => (hf.1 x i (fun z => by unfold Wz at z; omega)).1)
theorem c_173 {p0 : Nat} (hS : Sg t σ) (h : RM σ B n) (hM : MC σ B n p0) (hp0 : p0 ≤ n) (hR : MRd σ D) (hW : WDr D) : OkN σ B n (pLit B n D (tE B n p0)) (fun v σ' => Cl 173 [.ref 59] σ (v, σ')) := by
  have hL := hW.1.1.1
  have h2 := hW.1.1.2.2.1
  have h2' : D 2 0 < 2 ^ 31 := Nat.lt_trans h2 (Nat.pow_lt_pow_right (by decide) (by omega))
  have hp := tE_le (B := B) hp0
  obtain ⟨σ1, d1, F1, R1, M1⟩ := nxr hS h hM hp0 hR
  have S1 := F1.sg hS
  generalize tE B n p0 = p at *
  obtain ⟨y, no⟩ := r_171 (s := D 2 0) S1 (h.fz F1) M1 hp R1 hW h2'
  have l2 := R1.1.2.2.1
  have to : ∀ w', (∃ (v6 : Int32) (σ4 : Mm), Cl 171 [.ref 59, .int (nI (D 2 0))] σ1 (some (.int v6), σ4) ∧ Sg t σ4 ∧ ((v6 = 0 → (w' = (some (.int 0), σ4))) ∧ (¬ (v6 = 0) → (∀ (σ7 : Mm), σ7 = uI σ4 62 1 ((mI σ4 62 1) ||| ((1 : Int32) <<< ((mI σ4 59 11) &&& 31))) → (w' = (some (.int 1), σ7)))))) → Cl 173 [.ref 59] σ w' := by
    intro w' hw
    refine ck_173 hS (b_173_0 hS ⟨σ1, d1, S1, ?_⟩)
    rw [l2]
    exact hw
  have fle : fdl D (tV B n p) ≤ D 0 0 := fa_first_le _ _
  have bad : ∀ e, ((tK B n p ≠ 3 ∧ e = 1) ∨ (tK B n p = 3 ∧ ¬ fdl D (tV B n p) < D 0 0 ∧ e = 4) ∨ (tK B n p = 3 ∧ fdl D (tV B n p) < D 0 0 ∧ (D 2 0).testBit (fdl D (tV B n p)) = true ∧ e = 3)) → ∃ σ', Cl 173 [.ref 59] σ (some (.int 0), σ') ∧ Fr Wm0 σ σ' ∧ MF (e, tS B n p) σ' := by
    intro e he
    obtain ⟨σ', d, F, r⟩ := no e he
    exact ⟨σ', to _ ⟨_, _, d, F.sg S1, fun _ => rfl, fun z => absurd rfl z⟩, (F1.mono (fun _ _ h => Or.inr (wm_z h))).tr F, r⟩
  by_cases g1 : tK B n p = 3
  · have e1 : pLit B n D p = if ¬ fdl D (tV B n p) < D 0 0 then .inl (4, tS B n p) else if (D 2 0).testBit (fdl D (tV B n p)) = true then .inl (3, tS B n p) else .inr (hu D 2 0 (D 2 0 ||| 2 ^ fdl D (tV B n p)), tE B n p) := if_neg (fun z => z g1)
    by_cases g2 : fdl D (tV B n p) < D 0 0
    · have e2 := e1.trans (if_neg (fun z => z g2))
      by_cases g3 : (D 2 0).testBit (fdl D (tV B n p)) = true
      · exact OkN.no (e2.trans (if_pos g3)) (bad 3 (Or.inr (Or.inr ⟨g1, g2, g3, rfl⟩)))
      · obtain ⟨σ4, d, F, M4, v4⟩ := y g1 g2 (bf g3)
        have R4 := R1.f11 F
        have F4 : Fr Wm1 σ σ4 := (F1.mono (fun _ _ h => wm_z h)).tr (F.mono (fun _ _ h => wz11 h))
        refine OkN.yes (e2.trans (if_neg g3)) ⟨uI σ4 62 1 (nI (D 2 0 ||| 2 ^ fdl D (tV B n p))), to _ ⟨_, _, d, F4.sg hS, fun z => absurd z (by decide), fun _ σ7 q7 => ?_⟩, F4.uI (Or.inr (Or.inl ⟨rfl, rfl⟩)), M4.cg (fun i h1 h2 => mI_n (by omega)), R4.lit⟩
        rw [R4.1.2.2.1, v4, nI_one (by omega), fa_or] at q7
        rw [q7]
    · exact OkN.no (e1.trans (if_pos g2)) (bad 4 (Or.inr (Or.inl ⟨g1, g2, rfl⟩)))
  · exact OkN.no (if_pos g1) (bad 1 (Or.inl ⟨g1, rfl⟩))
theorem c_175 {p0 : Nat} (hS : Sg t σ) (h : RM σ B n) (hM : MC σ B n p0) (hp0 : p0 ≤ n) (hR : MRd σ D) (hW : WDr D) : OkN σ B n (pMend B n D (tS B n p0) (tE B n p0)) (fun v σ' => Cl 175 [.ref 59] σ (v, σ')) := by
  have hM4 := hW.1.1.2.2.2.2.1
  have hp := tE_le (B := B) hp0
  have l4 := hR.1.2.2.2.2
  have i4 : (nI (D 4 0) = 4) ↔ D 4 0 = 4 := nI_eq (b := 4) (by omega) (by decide)
  by_cases g0 : D 4 0 = 4
  · obtain ⟨σ', d, F, r⟩ := c_154 (e := 2) hS hM.2.1
    refine OkN.no (if_pos g0) ⟨σ', ck_175 hS (b_175_0 hS ?_), F.mono (fun _ _ h => wm_f h), r⟩
    rw [l4]
    exact ⟨fun _ => ⟨_, _, d, F.sg hS, Or.inl rfl, rfl⟩, fun z => absurd (i4.mpr g0) z⟩
  · obtain ⟨σ1, d1, F1, R1, M1⟩ := nxr hS h hM hp0 hR
    have S1 := F1.sg hS
    generalize hpp : tE B n p0 = p at *
    obtain ⟨y, no⟩ := c_163 (m := 99) S1 (h.fz F1) M1 hp (by decide)
    have to : ∀ w', (∃ (v6 : Int32) (σ4 : Mm), Cl 163 [.ref 59, .int 0, .int 99] σ1 (some (.int v6), σ4) ∧ Sg t σ4 ∧ ((v6 = 0 → (w' = (some (.int 0), σ4))) ∧ (¬ (v6 = 0) → (inb (4 + (mI σ4 59 20)) 8 = true ∧ (∀ (σ7 : Mm), σ7 = uI σ4 71 (4 + (mI σ4 59 20)).toNatClampNeg (mI σ4 59 11) → (w' = (some (.int 1), uI σ7 59 20 ((mI σ7 59 20) + 1)))))))) → Cl 175 [.ref 59] σ w' := by
      intro w' hw
      refine ck_175 hS (b_175_0 hS ?_)
      rw [l4]
      exact ⟨fun z => absurd (i4.mp z) g0, fun _ => ⟨σ1, d1, S1, hw⟩⟩
    by_cases g3 : tK B n p = 2
    · have e3 : pMend B n D (tS B n p0) p = if 99 < tV B n p then .inl (2, tS B n p) else .inr (hu (hu D 14 (D 4 0) (tV B n p)) 4 0 (D 4 0 + 1), tE B n p) := (if_neg g0).trans (if_neg (fun z => z g3))
      by_cases g4 : 99 < tV B n p
      · obtain ⟨σ', d, F, r⟩ := no 2 (Or.inr ⟨g3, g4, rfl⟩)
        exact OkN.no (e3.trans (if_pos g4)) ⟨σ', to _ ⟨_, _, d, F.sg S1, fun _ => rfl, fun z => absurd rfl z⟩, (F1.mono (fun _ _ h => Or.inr (wm_z h))).tr (F.mono (fun _ _ h => wm_f h)), r⟩
      · obtain ⟨σ4, d, F, M4, v4⟩ := y g3 (by omega)
        have R4 := R1.f11 F
        have F4 : Fr Wm1 σ σ4 := (F1.mono (fun _ _ h => wm_z h)).tr (F.mono (fun _ _ h => wz11 h))
        have R5 : MRd (uI σ4 71 (4 + D 4 0) (nI (tV B n p))) (hu D 14 (D 4 0) (tV B n p)) := R4.put (f := 14) (by decide) (by decide)
        have eD : hu D 14 (D 4 0) (tV B n p) 4 0 = D 4 0 := hu_n (by omega)
        have R6 := R5.cnt (c := 4) (k := 20) (Or.inr (Or.inr (Or.inr ⟨rfl, rfl⟩))) (fun f f1 f2 fc => by
          have hf : f = 14 := by
            unfold cf at fc
            repeat' split at fc
            all_goals omega
          subst hf
          rw [eD, hu_s]
          show mI _ 71 (4 + D 4 0) = _
          exact mI_s)
        rw [eD] at R6
        have e4 : (4 : Int32) + nI (D 4 0) = nI (4 + D 4 0) := nI_add 4 (D 4 0)
        refine OkN.yes (e3.trans (if_neg g4)) ⟨uI (uI σ4 71 (4 + D 4 0) (nI (tV B n p))) 59 20 (nI (D 4 0 + 1)), to _ ⟨_, _, d, F4.sg hS, fun z => absurd z (by decide), fun _ => ?_⟩, (F4.uI (mof_w (f := 14) (by decide) (by decide))).uI (Or.inl ⟨rfl, by omega⟩), M4.cg (fun i h1 h2 => by rw [mI_n (by omega), mI_n (by omega)]), R6⟩
        rw [R4.1.2.2.2.2, e4, nI_clamp (by omega), v4]
        refine ⟨inb_nI (by omega) (by decide), fun σ7 q7 => ?_⟩
        have l : mI σ7 59 20 = nI (D 4 0) := by rw [q7, mI_n (by omega)]; exact R4.1.2.2.2.2
        rw [l, nI_1, q7]
    · obtain ⟨σ', d, F, r⟩ := no 1 (Or.inl ⟨g3, rfl⟩)
      exact OkN.no ((if_neg g0).trans (if_pos g3)) ⟨σ', to _ ⟨_, _, d, F.sg S1, fun _ => rfl, fun z => absurd rfl z⟩, (F1.mono (fun _ _ h => Or.inr (wm_z h))).tr (F.mono (fun _ _ h => wm_f h)), r⟩
theorem c_176 {p0 g most : Nat} (hg : (g = 5 ∧ most = 100) ∨ (g = 6 ∧ most = 99999)) (hS : Sg t σ) (h : RM σ B n) (hM : MC σ B n p0) (hp0 : p0 ≤ n) (hR : MRd σ D) (hW : WDr D) : OkN σ B n (pOnce B n D g most (tS B n p0) (tE B n p0)) (fun v σ' => Cl 176 [.ref 59, .int (nI (g - 5)), .int (nI most)] σ (v, σ')) := by
  have hp := tE_le (B := B) hp0
  have g2 : g - 5 < 2 := by omega
  have ing : inb (nI (g - 5)) 2 = true := inb_nI g2 (by decide)
  have l63 : mI σ 63 (g - 5) = (if D (g + 16) 0 = 0 then 0 else 1) := by
    rcases hg with ⟨rfl, _⟩ | ⟨rfl, _⟩
    · exact hR.2.1.2.2.1
    · exact hR.2.1.2.2.2
  by_cases g0 : D (g + 16) 0 = 0
  · rw [if_pos g0] at l63
    have F0 : Fr Wm1 σ (uI σ 63 (g - 5) 1) := (Fr.rf σ).uI (Or.inr (Or.inr (Or.inl rfl)))
    obtain ⟨σ1, d1, F1, M1⟩ := c_158 (p := tE B n p0) (F0.sg hS) (h.fm F0) hp (by rw [mI_n (by omega)]; exact hM.1)
    have FF1 : Fr Wm1 σ σ1 := F0.tr (F1.mono (fun _ _ h => wm_z h))
    have S1 := FF1.sg hS
    obtain ⟨y, no⟩ := c_163 (m := most) S1 (h.fm FF1) M1 hp (by omega)
    have e0 : pOnce B n D g most (tS B n p0) (tE B n p0) = if ¬ tK B n (tE B n p0) = 2 then .inl (1, tS B n (tE B n p0)) else if most < tV B n (tE B n p0) then .inl (2, tS B n (tE B n p0)) else .inr (hu (hu D g 0 (tV B n (tE B n p0))) (g + 16) 0 1, tE B n (tE B n p0)) := if_neg (fun z => z g0)
    generalize tE B n p0 = p at *
    have to : ∀ w', (∃ (v6 : Int32) (σ4 : Mm), Cl 163 [.ref 59, .int 0, .int (nI most)] σ1 (some (.int v6), σ4) ∧ Sg t σ4 ∧ ((v6 = 0 → (w' = (some (.int 0), σ4))) ∧ (¬ (v6 = 0) → (inb (2 + nI (g - 5)) 4 = true ∧ (∀ (σ7 : Mm), σ7 = uI σ4 64 (2 + nI (g - 5)).toNatClampNeg (mI σ4 59 11) → (w' = (some (.int 1), σ7))))))) → Cl 176 [.ref 59, .int (nI (g - 5)), .int (nI most)] σ w' := by
      intro w' hw
      refine ck_176 hS (b_176_0 hS ⟨ing, ?_⟩)
      rw [nI_clamp (by omega), l63]
      exact ⟨fun _ => ⟨ing, σ1, d1, S1, hw⟩, fun z => absurd rfl z⟩
    by_cases g3 : tK B n p = 2
    · have e3 := e0.trans (if_neg (fun z => z g3))
      by_cases g4 : most < tV B n p
      · obtain ⟨σ', d, F, r⟩ := no 2 (Or.inr ⟨g3, g4, rfl⟩)
        exact OkN.no (e3.trans (if_pos g4)) ⟨σ', to _ ⟨_, _, d, F.sg S1, fun _ => rfl, fun z => absurd rfl z⟩, (FF1.mono (fun _ _ h => Or.inr h)).tr (F.mono (fun _ _ h => wm_f h)), r⟩
      · obtain ⟨σ4, d, F, M4, v4⟩ := y g3 (by omega)
        have F4 : Fr Wm1 σ σ4 := FF1.tr (F.mono (fun _ _ h => wz11 h))
        have e4 : (2 : Int32) + nI (g - 5) = nI (2 + (g - 5)) := nI_add 2 (g - 5)
        refine OkN.yes (e3.trans (if_neg g4)) ⟨uI σ4 64 (2 + (g - 5)) (nI (tV B n p)), to _ ⟨_, _, d, F4.sg hS, fun z => absurd z (by decide), fun _ => ?_⟩, F4.uI (Or.inr (Or.inr (Or.inr (Or.inl ⟨rfl, by omega⟩)))), M4.cg (fun i h1 h2 => mI_n (by omega)), hR.once (by omega) ?_ mI_s (fun x i h1 h2 => ?_)⟩
        · rw [e4, nI_clamp (by omega), v4]
          exact ⟨inb_nI (by omega) (by decide), fun σ7 q7 => by rw [q7]⟩
        · rw [mI_n (by omega), (F.1 63 _ (fun z => by unfold Wz at z; omega)).1, (F1.1 63 _ (fun z => by unfold Wz at z; omega)).1, mI_s]
        · rw [mI_n (by omega), (F.1 x i (fun z => by unfold Wz at z; omega)).1, (F1.1 x i (fun z => by unfold Wz at z; omega)).1, mI_n (by omega)]
    · obtain ⟨σ', d, F, r⟩ := no 1 (Or.inl ⟨g3, rfl⟩)
      exact OkN.no (e0.trans (if_pos g3)) ⟨σ', to _ ⟨_, _, d, F.sg S1, fun _ => rfl, fun z => absurd rfl z⟩, (FF1.mono (fun _ _ h => Or.inr h)).tr (F.mono (fun _ _ h => wm_f h)), r⟩
  · rw [if_neg g0] at l63
    obtain ⟨σ', d, F, r⟩ := c_154 (e := 3) hS hM.2.1
    refine OkN.no (if_pos g0) ⟨σ', ck_176 hS (b_176_0 hS ⟨ing, ?_⟩), F.mono (fun _ _ h => wm_f h), r⟩
    rw [nI_clamp (by omega), l63]
    exact ⟨fun z => absurd z (by decide), fun _ => ⟨_, _, d, F.sg hS, Or.inl rfl, rfl⟩⟩
end LinM1
