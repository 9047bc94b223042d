/-! ===== lines, first side: the rest ===== -/
section LinC3
variable {t n a : Nat} {σ σ' : Mm} {D : Nat → Nat → Nat} {B : Nat → Nat}
theorem c_57 {p s0 : Nat} (hS : Sg t σ) (h : RC σ B n) (hC : CR σ (18 - t) D) (hW : WDr D) (hp : p ≤ n) (h5 : mI σ 1 5 = nI p) (h7 : mI σ 1 7 = nI s0) (h10 : mI σ 1 10 = nI (D 7 0)) : OkL t σ (pMend B n D s0 p) (fun v σ' => Cl 57 [.ref 1] σ (v, σ')) := by
  have ha := hS.ti
  have hM := hW.1.1.2.2.2.2.1
  have l4 : mI σ (18 - t) 4 = nI (D 4 0) := hC.1 4 (by omega)
  by_cases g0 : D 4 0 = 4
  · obtain ⟨σ', d, F, r⟩ := c_40 (e := 2) hS h7
    refine OkL.no (if_pos g0) ⟨σ', ck_57 hS (b_57_0 hS ?_), F.mono (fun _ _ h => wl_f h), r⟩
    rw [l4, g0]
    exact ⟨fun z => absurd z (by decide), fun _ => ⟨_, _, d, F.sg hS, Or.inl rfl, rfl⟩⟩
  · have lt4 : nI (D 4 0) < 4 := nI_lt (b := 4) (by omega) (by decide)
    obtain ⟨ny, no⟩ := c_50 (m := 99) hS h hp h5 (by decide)
    by_cases g3 : tK B n p = 2
    · have e3 : pMend B n D s0 p = if 99 < tV B n p then .inl (2, tS B n p) else .inr (hu (hu D 14 (D 4 0) (tV B n p)) 4 0 (D 4 0 + 1), tE B n p) := (if_neg g0).trans (if_neg (fun z => z g3))
      by_cases g4 : 99 < tV B n p
      · obtain ⟨σ', d, F, r⟩ := no 2 (Or.inr ⟨g3, g4, rfl⟩)
        refine OkL.no (e3.trans (if_pos g4)) ⟨σ', ck_57 hS (b_57_0 hS ?_), F.mono (fun _ _ h => wkf h), r⟩
        rw [l4]
        exact ⟨fun _ => ⟨_, _, d, F.sg hS, fun _ => rfl, fun z => absurd rfl z⟩, fun z => absurd lt4 z⟩
      · obtain ⟨σ1, d1, F1, a5, a8⟩ := ny g3 (by omega)
        have S1 := F1.sg hS
        have C1 := hC.fkk ha F1
        have C2 : CR (uI σ1 (18 - t + 7) (D 4 0) (nI (tV B n p))) (18 - t) (hu D 14 (D 4 0) (tV B n p)) := C1.put (f := 14) (by decide) (by decide)
        have eD : hu D 14 (D 4 0) (tV B n p) 4 0 = D 4 0 := hu_n (by omega)
        have C3 := C2.cnt (c := 4) (Or.inr (Or.inr (Or.inr rfl))) (fun f f1 f2 fc => by
          have hf : f = 14 := by
            unfold cf at fc
            repeat' split at fc
            all_goals omega
          subst hf
          rw [eD, hu_s]
          show mI _ (18 - t + 7) (D 4 0) = _
          exact mI_s)
        rw [eD] at C3
        refine OkL.yes (e3.trans (if_neg g4)) ⟨_, ck_57 hS (b_57_0 hS ?_), ((F1.mono (fun _ _ h => wl_k h)).uI (Or.inr (Or.inl ⟨by omega, by omega⟩))).uI (Or.inr (Or.inl ⟨by omega, by omega⟩)), ?_, ?_, C3⟩
        · rw [l4, nI_clamp (by omega)]
          refine ⟨fun _ => ⟨_, _, d1, S1, fun z => absurd z (by decide), fun _ => ⟨inb_nI (by omega) (by decide), fun σ4 q4 σ7 q7 => ?_⟩⟩, fun z => absurd lt4 z⟩
          rw [a8] at q4
          have l : mI σ4 (18 - t) 4 = nI (D 4 0) := by rw [q4, mI_n (by omega)]; exact C1.1 4 (by omega)
          rw [l, nI_1, q4] at q7
          rw [q7]
        · rw [mI_n (by omega), mI_n (by omega)]; exact a5
        · rw [mI_n (by omega), mI_n (by omega), (F1.1 1 10 (fun z => by unfold Wkk at z; omega)).1, hu_n (by omega), hu_n (by omega)]; exact h10
    · obtain ⟨σ', d, F, r⟩ := no 1 (Or.inl ⟨g3, rfl⟩)
      refine OkL.no ((if_neg g0).trans (if_pos g3)) ⟨σ', ck_57 hS (b_57_0 hS ?_), F.mono (fun _ _ h => wkf h), r⟩
      rw [l4]
      exact ⟨fun _ => ⟨_, _, d, F.sg hS, fun _ => rfl, fun z => absurd rfl z⟩, fun z => absurd lt4 z⟩
theorem c_56 {p s0 : Nat} (hS : Sg t σ) (h : RC σ B n) (hC : CR σ (18 - t) D) (hW : WDr D) (hp : p ≤ n) (h5 : mI σ 1 5 = nI p) (h7 : mI σ 1 7 = nI s0) (h10 : mI σ 1 10 = nI (D 7 0)) : OkL t σ (pRing B n D s0 p) (fun v σ' => Cl 56 [.ref 1] σ (v, σ')) := by
  have ha := hS.ti
  have hP := hW.1.1.2.1
  have hR := hW.1.1.2.2.2.1
  have hV := tV_lt (B := B) (n := n) (p := p)
  have l3 : mI σ (18 - t) 3 = nI (D 3 0) := hC.1 3 (by omega)
  by_cases g0 : D 3 0 = 14
  · obtain ⟨σ', d, F, r⟩ := c_40 (e := 2) hS h7
    refine OkL.no (if_pos g0) ⟨σ', ck_56 hS (b_56_0 hS ?_), F.mono (fun _ _ h => wl_f h), r⟩
    rw [l3, g0]
    exact ⟨fun z => absurd z (by decide), fun _ => ⟨_, _, d, F.sg hS, Or.inl rfl, rfl⟩⟩
  · have lt14 : nI (D 3 0) < 14 := nI_lt (b := 14) (by omega) (by decide)
    have in14 : inb (nI (D 3 0)) 14 = true := inb_nI (by omega) (by decide)
    obtain ⟨y, no⟩ := c_49 (k := 3) hS h hp h5 (by decide)
    by_cases g1 : tK B n p = 3
    · obtain ⟨σ1, d1, F1, a5, a7, a8⟩ := y g1
      have S1 := F1.sg hS
      have C1 := hC.fkk ha F1
      have FF1 : Fr (Wl1 (18 - t)) σ σ1 := F1.mono (fun _ _ h => wl_k h)
      have c90 := r_90 (v := tV B n p) S1 ha C1 hW hV
      have e1 : pRing B n D s0 p = if ¬ fdp D (tV B n p) < D 1 0 then .inl (4, tS B n p) else if ¬ tK B n (tE B n p) = 2 then .inl (1, tS B n (tE B n p)) else if 99 < tV B n (tE B n p) then .inl (2, tS B n (tE B n p)) else .inr (wRing D (fdp D (tV B n p)) (tV B n (tE B n p)), tE B n (tE B n p)) := (if_neg g0).trans (if_neg (fun z => z g1))
      have fdle : fdp D (tV B n p) ≤ D 1 0 := fa_first_le _ _
      by_cases g2 : fdp D (tV B n p) < D 1 0
      · rw [if_pos g2] at c90
        have nm := nIm1 (l := fdp D (tV B n p)) (by omega)
        have e2 := e1.trans (if_neg (fun z => z g2))
        obtain ⟨ny, nno'⟩ := c_50 (m := 99) S1 (h.fl ha FF1) (tE_le hp) a5 (by decide)
        have to : ∀ w', (∃ (v9 : Int32) (σ7 : Mm), Cl 50 [.ref 1, .int 99] σ1 (some (.int v9), σ7) ∧ Sg t σ7 ∧ ((v9 = 0 → (w' = (some (.int 0), σ7))) ∧ (¬ (v9 = 0) → (inb (nI (D 3 0)) 14 = true ∧ (∀ (σ10 : Mm), σ10 = uI σ7 ((18 - t) + 5) (D 3 0) (nI (fdp D (tV B n p))) → (inb (nI (D 3 0)) 14 = true ∧ (∀ (σ13 : Mm), σ13 = uI σ10 ((18 - t) + 6) (D 3 0) (mI σ10 1 8) → (∀ (σ16 : Mm), σ16 = uI σ13 (18 - t) 3 ((mI σ13 (18 - t) 3) + 1) → (w' = (some (.int 1), σ16))))))))) ) → Cl 56 [.ref 1] σ w' := by
          intro w' hw
          refine ck_56 hS (b_56_0 hS ?_)
          rw [l3]
          refine ⟨fun _ => ⟨_, _, d1, S1, fun z => absurd z (by decide), fun _ => ?_⟩, fun z => absurd lt14 z⟩
          rw [a8, nI_clamp (by omega)]
          exact ⟨_, _, c90, S1, fun z => absurd z nm, fun _ => hw⟩
        by_cases g3 : tK B n (tE B n p) = 2
        · have e3 := e2.trans (if_neg (fun z => z g3))
          by_cases g4 : 99 < tV B n (tE B n p)
          · obtain ⟨σ', d, F, r⟩ := nno' 2 (Or.inr ⟨g3, g4, rfl⟩)
            exact OkL.no (e3.trans (if_pos g4)) ⟨σ', to _ ⟨_, _, d, F.sg S1, fun _ => rfl, fun z => absurd rfl z⟩, (FF1.mono (fun _ _ h => Or.inr h)).tr (F.mono (fun _ _ h => wkf h)), r⟩
          · obtain ⟨σ2, d2, F3, b5, b8⟩ := ny g3 (by omega)
            have C3 := C1.fkk ha F3
            have FF3 := FF1.tr (F3.mono (fun _ _ h => wl_k h))
            have S3 := FF3.sg hS
            have C4 : CR (uI σ2 (18 - t + 5) (D 3 0) (nI (fdp D (tV B n p)))) (18 - t) (hu D 12 (D 3 0) (fdp D (tV B n p))) := C3.put (f := 12) (by decide) (by decide)
            have C5 : CR (uI (uI σ2 (18 - t + 5) (D 3 0) (nI (fdp D (tV B n p)))) (18 - t + 6) (D 3 0) (nI (tV B n (tE B n p)))) (18 - t) (hu (hu D 12 (D 3 0) (fdp D (tV B n p))) 13 (D 3 0) (tV B n (tE B n p))) := C4.put (f := 13) (by decide) (by decide)
            have eD : hu (hu D 12 (D 3 0) (fdp D (tV B n p))) 13 (D 3 0) (tV B n (tE B n p)) 3 0 = D 3 0 := by rw [hu_n (by omega), hu_n (by omega)]
            have C6 := C5.cnt (c := 3) (Or.inr (Or.inr (Or.inl rfl))) (fun f f1 f2 fc => by
              have hf : f = 12 ∨ f = 13 := by
                unfold cf at fc
                repeat' split at fc
                all_goals omega
              rw [eD]
              rcases hf with rfl | rfl
              · rw [hu_n (by omega), hu_s]
                show mI _ (18 - t + 5) (D 3 0) = _
                rw [mI_n (by omega), mI_s]
              · rw [hu_s]
                show mI _ (18 - t + 6) (D 3 0) = _
                exact mI_s)
            rw [eD] at C6
            refine OkL.yes (e3.trans (if_neg g4)) ⟨_, to _ ⟨_, _, d2, S3, fun z => absurd z (by decide), fun _ => ⟨in14, fun σ10 q10 => ⟨in14, fun σ13 q13 σ16 q16 => ?_⟩⟩⟩, ((FF3.uI (Or.inr (Or.inl ⟨by omega, by omega⟩))).uI (Or.inr (Or.inl ⟨by omega, by omega⟩))).uI (Or.inr (Or.inl ⟨by omega, by omega⟩)), ?_, ?_, C6⟩
            · have u8 : mI σ10 1 8 = nI (tV B n (tE B n p)) := by rw [q10, mI_n (by omega)]; exact b8
              rw [u8] at q13
              have l : mI σ13 (18 - t) 3 = nI (D 3 0) := by rw [q13, mI_n (by omega), q10, mI_n (by omega)]; exact C3.1 3 (by omega)
              rw [l, nI_1, q13, q10] at q16
              rw [q16]
            · rw [mI_n (by omega), mI_n (by omega), mI_n (by omega)]; exact b5
            · rw [mI_n (by omega), mI_n (by omega), mI_n (by omega), (F3.1 1 10 (fun z => by unfold Wkk at z; omega)).1, (F1.1 1 10 (fun z => by unfold Wkk at z; omega)).1]
              unfold wRing
              rw [hu_n (by omega), hu_n (by omega), hu_n (by omega)]; exact h10
        · obtain ⟨σ', d, F, r⟩ := nno' 1 (Or.inl ⟨g3, rfl⟩)
          exact OkL.no (e2.trans (if_pos g3)) ⟨σ', to _ ⟨_, _, d, F.sg S1, fun _ => rfl, fun z => absurd rfl z⟩, (FF1.mono (fun _ _ h => Or.inr h)).tr (F.mono (fun _ _ h => wkf h)), r⟩
      · rw [if_neg g2] at c90
        obtain ⟨σ', d, F, r⟩ := c_40 (e := 4) S1 a7
        refine OkL.no (e1.trans (if_pos g2)) ⟨σ', ck_56 hS (b_56_0 hS ?_), (FF1.mono (fun _ _ h => Or.inr h)).tr (F.mono (fun _ _ h => wl_f h)), r⟩
        rw [l3]
        refine ⟨fun _ => ⟨_, _, d1, S1, fun z => absurd z (by decide), fun _ => ?_⟩, fun z => absurd lt14 z⟩
        rw [a8]
        exact ⟨_, _, c90, S1, fun _ => ⟨_, _, d, F.sg S1, Or.inl rfl, rfl⟩, fun z => absurd rfl z⟩
    · obtain ⟨σ', d, F, r⟩ := no g1
      refine OkL.no ((if_neg g0).trans (if_pos g1)) ⟨σ', ck_56 hS (b_56_0 hS ?_), F.mono (fun _ _ h => wkf h), r⟩
      rw [l3]
      exact ⟨fun _ => ⟨_, _, d, F.sg hS, fun _ => rfl, fun z => absurd rfl z⟩, fun z => absurd lt14 z⟩
theorem c_58 {p s0 : Nat} (hS : Sg t σ) (h : RC σ B n) (hC : CR σ (18 - t) D) (hW : WDr D) (hp : p ≤ n) (h5 : mI σ 1 5 = nI p) (h7 : mI σ 1 7 = nI s0) (h10 : mI σ 1 10 = nI (D 7 0)) : OkL t σ (pOnce B n D 5 100 s0 p) (fun v σ' => Cl 58 [.ref 1] σ (v, σ')) := by
  have ha := hS.ti
  have hV := tV_lt (B := B) (n := n) (p := p)
  have b5 := hW.1.1.2.2.2.2.2.1
  have l5 := hC.2.1 5 (Or.inl rfl)
  by_cases g0 : D 21 0 = 0
  · rw [if_pos g0] at l5
    have e0 : pOnce B n D 5 100 s0 p = if ¬ tK B n p = 2 then .inl (1, tS B n p) else if 100 < tV B n p then .inl (2, tS B n p) else .inr (hu (hu D 5 0 (tV B n p)) (5 + 16) 0 1, tE B n p) := if_neg (fun z => z g0)
    obtain ⟨ny, no⟩ := c_50 (m := 100) hS h hp h5 (by decide)
    by_cases g3 : tK B n p = 2
    · have e3 := e0.trans (if_neg (fun z => z g3))
      by_cases g4 : 100 < tV B n p
      · obtain ⟨σ', d, F, r⟩ := no 2 (Or.inr ⟨g3, g4, rfl⟩)
        refine OkL.no (e3.trans (if_pos g4)) ⟨σ', ck_58 hS (b_58_0 hS ?_), F.mono (fun _ _ h => wkf h), r⟩
        rw [l5]
        exact ⟨fun _ => ⟨_, _, d, F.sg hS, fun _ => rfl, fun z => absurd rfl z⟩, fun z => absurd rfl z⟩
      · obtain ⟨σ1, d1, F1, a5, a8⟩ := ny g3 (by omega)
        have C1 := hC.fkk ha F1
        refine OkL.yes (e3.trans (if_neg g4)) ⟨uI σ1 (18 - t) 5 (nI (tV B n p)), ck_58 hS (b_58_0 hS ?_), (F1.mono (fun _ _ h => wl_k h)).uI (Or.inr (Or.inl ⟨by omega, by omega⟩)), ?_, ?_, C1.once (Or.inl rfl)⟩
        · rw [l5]
          refine ⟨fun _ => ⟨_, _, d1, F1.sg hS, fun z => absurd z (by decide), fun _ => ?_⟩, fun z => absurd rfl z⟩
          rw [a8]
        · rw [mI_n (by omega)]; exact a5
        · rw [mI_n (by omega), (F1.1 1 10 (fun z => by unfold Wkk at z; omega)).1, hu_n (by omega), hu_n (by omega)]; exact h10
    · obtain ⟨σ', d, F, r⟩ := no 1 (Or.inl ⟨g3, rfl⟩)
      refine OkL.no (e0.trans (if_pos g3)) ⟨σ', ck_58 hS (b_58_0 hS ?_), F.mono (fun _ _ h => wkf h), r⟩
      rw [l5]
      exact ⟨fun _ => ⟨_, _, d, F.sg hS, fun _ => rfl, fun z => absurd rfl z⟩, fun z => absurd rfl z⟩
  · rw [if_neg g0] at l5
    obtain ⟨σ', d, F, r⟩ := c_40 (e := 3) hS h7
    refine OkL.no (if_pos g0) ⟨σ', ck_58 hS (b_58_0 hS ?_), F.mono (fun _ _ h => wl_f h), r⟩
    rw [l5]
    exact ⟨fun z => absurd z (nIm1 (by omega)), fun _ => ⟨_, _, d, F.sg hS, Or.inl rfl, rfl⟩⟩
theorem c_59 {p s0 : Nat} (hS : Sg t σ) (h : RC σ B n) (hC : CR σ (18 - t) D) (hW : WDr D) (hp : p ≤ n) (h5 : mI σ 1 5 = nI p) (h7 : mI σ 1 7 = nI s0) (h10 : mI σ 1 10 = nI (D 7 0)) : OkL t σ (pOnce B n D 6 99999 s0 p) (fun v σ' => Cl 59 [.ref 1] σ (v, σ')) := by
  have ha := hS.ti
  have hV := tV_lt (B := B) (n := n) (p := p)
  have b6 := hW.1.1.2.2.2.2.2.2.1
  have l5 := hC.2.1 6 (Or.inr rfl)
  by_cases g0 : D 22 0 = 0
  · rw [if_pos g0] at l5
    have e0 : pOnce B n D 6 99999 s0 p = if ¬ tK B n p = 2 then .inl (1, tS B n p) else if 99999 < tV B n p then .inl (2, tS B n p) else .inr (hu (hu D 6 0 (tV B n p)) (6 + 16) 0 1, tE B n p) := if_neg (fun z => z g0)
    obtain ⟨ny, no⟩ := c_50 (m := 99999) hS h hp h5 (by decide)
    by_cases g3 : tK B n p = 2
    · have e3 := e0.trans (if_neg (fun z => z g3))
      by_cases g4 : 99999 < tV B n p
      · obtain ⟨σ', d, F, r⟩ := no 2 (Or.inr ⟨g3, g4, rfl⟩)
        refine OkL.no (e3.trans (if_pos g4)) ⟨σ', ck_59 hS (b_59_0 hS ?_), F.mono (fun _ _ h => wkf h), r⟩
        rw [l5]
        exact ⟨fun _ => ⟨_, _, d, F.sg hS, fun _ => rfl, fun z => absurd rfl z⟩, fun z => absurd rfl z⟩
      · obtain ⟨σ1, d1, F1, a5, a8⟩ := ny g3 (by omega)
        have C1 := hC.fkk ha F1
        refine OkL.yes (e3.trans (if_neg g4)) ⟨uI σ1 (18 - t) 6 (nI (tV B n p)), ck_59 hS (b_59_0 hS ?_), (F1.mono (fun _ _ h => wl_k h)).uI (Or.inr (Or.inl ⟨by omega, by omega⟩)), ?_, ?_, C1.once (Or.inr rfl)⟩
        · rw [l5]
          refine ⟨fun _ => ⟨_, _, d1, F1.sg hS, fun z => absurd z (by decide), fun _ => ?_⟩, fun z => absurd rfl z⟩
          rw [a8]
        · rw [mI_n (by omega)]; exact a5
        · rw [mI_n (by omega), (F1.1 1 10 (fun z => by unfold Wkk at z; omega)).1, hu_n (by omega), hu_n (by omega)]; exact h10
    · obtain ⟨σ', d, F, r⟩ := no 1 (Or.inl ⟨g3, rfl⟩)
      refine OkL.no (e0.trans (if_pos g3)) ⟨σ', ck_59 hS (b_59_0 hS ?_), F.mono (fun _ _ h => wkf h), r⟩
      rw [l5]
      exact ⟨fun _ => ⟨_, _, d, F.sg hS, fun _ => rfl, fun z => absurd rfl z⟩, fun z => absurd rfl z⟩
  · rw [if_neg g0] at l5
    obtain ⟨σ', d, F, r⟩ := c_40 (e := 3) hS h7
    refine OkL.no (if_pos g0) ⟨σ', ck_59 hS (b_59_0 hS ?_), F.mono (fun _ _ h => wl_f h), r⟩
    rw [l5]
    exact ⟨fun z => absurd z (nIm1 (by omega)), fun _ => ⟨_, _, d, F.sg hS, Or.inl rfl, rfl⟩⟩
theorem r_91 {q : Nat} (hS : Sg t σ) (ha : a = 3 ∨ a = 15) (h : CR σ a D) (hW : WDr D) (hq : q < 3) : Cl 91 [.ref a, .int (nI q)] σ (some (.int (if decide (D 16 q < D 17 q) = true then 1 else 0)), σ) := by
  have h1 : mI σ (a + 9) q = nI (D 16 q) := h.2.2.2 16 q (Or.inl rfl) hq
  have h2 : mI σ (a + 10) q = nI (D 17 q) := h.2.2.2 17 q (Or.inr rfl) hq
  have h3 := hW.1.2.2.2.2.2.2.1 q hq
  refine ck_91 hS ha (b_91_0 hS ha ?_)
  rw [nI_clamp (by omega), h1, h2]
  refine ⟨inb_nI hq (by decide), inb_nI hq (by decide), pk_lt (D 16 q) (D 17 q) (fun z => ?_) (fun z => ?_) rfl rfl (by omega) (by omega)⟩
  · rw [decide_eq_true z]; rfl
  · rw [decide_eq_false (Nat.not_lt.mpr z)]; rfl
theorem c_60 {p : Nat} (hS : Sg t σ) (h : RC σ B n) (hC : CR σ (18 - t) D) (hW : WDr D) (hp : p ≤ n) (h5 : mI σ 1 5 = nI p) (h10 : mI σ 1 10 = nI (D 7 0)) : OkL t σ (pLaw B n D p) (fun v σ' => Cl 60 [.ref 1] σ (v, σ')) := by
  have ha := hS.ti
  have hK := hW.1.1.2.2.2.2.2.2.2
  obtain ⟨σ1, d1, F1, a5, a6, a7, a8⟩ := c_44 hS h hp h5
  have FF1 : Fr (Wl1 (18 - t)) σ σ1 := F1.mono (fun _ _ h => wl_k h)
  have S1 := F1.sg hS
  have C1 := hC.fkk ha F1
  have k43 := tK_lt B n p
  have r10 : mI σ1 1 10 = nI (D 7 0) := by rw [(F1.1 1 10 (fun z => by unfold Wkk at z; omega)).1]; exact h10
  by_cases g0 : tK B n p < 18 ∨ 20 < tK B n p
  · obtain ⟨σ', d, F, r⟩ := c_40 (e := 1) S1 a7
    have gd : ∃ (v : Int32) (σ2 : Mm), Cl 40 [.ref 1, .int 1] σ1 (some (.int v), σ2) ∧ Sg t σ2 ∧ ((v = 0 ∨ v = 1) ∧ ((some (.int 0), σ') : Option Value × Mm) = (some (.int v), σ2)) := ⟨_, _, d, F.sg S1, Or.inl rfl, rfl⟩
    refine OkL.no (if_pos g0) ⟨σ', ck_60 hS (b_60_0 hS ⟨σ1, d1, S1, ?_⟩), (FF1.mono (fun _ _ h => Or.inr h)).tr (F.mono (fun _ _ h => wl_f h)), r⟩
    rw [a6]
    exact pk_lt (tK B n p) 18 (fun _ => gd) (fun l1 => pk_lt 20 (tK B n p) (fun _ => gd) (fun l2 => absurd g0 (by omega)) rfl rfl (by decide) (by omega)) rfl rfl (by omega) (by decide)
  · have e0 : pLaw B n D p = if D 16 (tK B n p - 18) < D 17 (tK B n p - 18) then .inl (3, tS B n p) else match pS B n D (tE B n p) with
        | .inl e => .inl e
        | .inr (D', q) => .inr (hu (hu D' 16 (tK B n p - 18) (D 7 0)) 17 (tK B n p - 18) (D' 7 0), q) := if_neg g0
    have esub : nI (tK B n p) - 18 = nI (tK B n p - 18) := by rw [show (18 : Int32) = nI 18 from rfl, pk_sub (by omega)]
    have l18 : ¬ nI (tK B n p) < 18 := nI_nlt (b := 18) (by omega) (by omega)
    have l20 : ¬ (20 : Int32) < nI (tK B n p) := nI_nlt (a := 20) (by omega) (by decide)
    have hq3 : tK B n p - 18 < 3 := by omega
    generalize tK B n p - 18 = q0 at e0 esub hq3
    have c91 := r_91 S1 ha C1 hW hq3
    have in3 : inb (nI q0) 3 = true := inb_nI hq3 (by decide)
    by_cases g1 : D 16 q0 < D 17 q0
    · rw [decide_eq_true g1, if_pos rfl] at c91
      obtain ⟨σ', d, F, r⟩ := c_40 (e := 3) S1 a7
      refine OkL.no (e0.trans (if_pos g1)) ⟨σ', ck_60 hS (b_60_0 hS ⟨σ1, d1, S1, ?_⟩), (FF1.mono (fun _ _ h => Or.inr h)).tr (F.mono (fun _ _ h => wl_f h)), r⟩
      rw [a6, esub]
      exact ⟨fun z => absurd z l18, fun _ => ⟨fun z => absurd z l20, fun _ => ⟨_, _, c91, S1, fun z => absurd z (by decide), fun _ => ⟨_, _, d, F.sg S1, Or.inl rfl, rfl⟩⟩⟩⟩
    · rw [decide_eq_false g1] at c91
      have e1 := e0.trans (if_neg g1)
      have C2 : CR (uI σ1 (18 - t + 9) q0 (nI (D 7 0))) (18 - t) (hu D 16 q0 (D 7 0)) := C1.law (f := 16) (Or.inl rfl)
      have F2 : Fr (Wl1 (18 - t)) σ (uI σ1 (18 - t + 9) q0 (nI (D 7 0))) := FF1.uI (Or.inr (Or.inl ⟨by omega, by omega⟩))
      generalize eυ : uI σ1 (18 - t + 9) q0 (nI (D 7 0)) = υ at C2 F2
      have Su := F2.sg hS
      have I := c_61 (D := D) (p := tE B n p) Su (h.fl ha F2) (tE_le hp) hK (by rw [← eυ, mI_n (by omega)]; exact a5) (by rw [← eυ, mI_n (by omega)]; exact r10) (C2.1 7 (Or.inr rfl)) (fun i hi => C2.2.2.1 15 i (by decide) (by decide) hi)
      have to : ∀ w', (∃ (v15 : Int32) (σ13 : Mm), Cl 61 [.ref 1] υ (some (.int v15), σ13) ∧ Sg t σ13 ∧ ((v15 = 0 → (w' = (some (.int 0), σ13))) ∧ (¬ (v15 = 0) → (inb (nI q0) 3 = true ∧ (∀ (σ16 : Mm), σ16 = uI σ13 ((18 - t) + 10) q0 (mI σ13 (18 - t) 7) → (w' = (some (.int 1), σ16))))))) → Cl 60 [.ref 1] σ w' := by
        intro w' hw
        refine ck_60 hS (b_60_0 hS ⟨σ1, d1, S1, ?_⟩)
        rw [a6, esub]
        refine ⟨fun z => absurd z l18, fun _ => ⟨fun z => absurd z l20, fun _ => ⟨_, _, c91, S1, fun _ => ⟨in3, fun σ10 q10 => ?_⟩, fun z => absurd rfl z⟩⟩⟩
        rw [nI_clamp (by omega), C1.1 7 (Or.inr rfl), eυ] at q10
        rw [q10, nI_clamp (by omega)]
        exact hw
      cases hps : pS B n D (tE B n p) with
      | inl e =>
        rw [hps] at e1
        have e1 : pLaw B n D p = .inl e := e1
        obtain ⟨σ', d, F, r⟩ := I.1 e hps
        refine OkL.no e1 ⟨σ', to _ ⟨_, _, d, F.sg Su, fun _ => rfl, fun z => absurd rfl z⟩, (F2.mono (fun _ _ h => Or.inr h)).tr (F.mono (fun x i h => ?_)), r⟩
        unfold Wn2 at h; unfold Wl1; omega
      | inr r0 =>
        obtain ⟨D1, q⟩ := r0
        rw [hps] at e1
        have e1 : pLaw B n D p = .inr (hu (hu D1 16 q0 (D 7 0)) 17 q0 (D1 7 0), q) := e1
        obtain ⟨k1, k2, k3, k4, k5, k6, k7⟩ := pX_ok (XI.s0 (tE_le hp) hK) hps
        obtain ⟨σ13, d, F, s5, s10, s7, s9⟩ := I.2 D1 q hps
        have FF : Fr (Wl1 (18 - t)) σ σ13 := F2.tr (F.mono (fun x i h => by unfold Woo at h; unfold Wl1; omega))
        have rr : ∀ x i, ¬ (x = 1) → ¬ (x = 18 - t ∧ i = 7) → x ≠ 18 - t + 8 → x ≠ 14 → mI σ13 x i = mI υ x i := fun x i h1 h2 h3 h4 => (F.1 x i (fun z => by unfold Woo at z; omega)).1
        have ok : ∀ f i, ¬ ((f = 7 ∧ i = 0) ∨ f = 15 ∨ f = 18 ∨ f = 19 ∨ f = 20) → D1 f i = D f i := k1.2.1
        have C3 : CR σ13 (18 - t) (hu D1 16 q0 (D 7 0)) := by
          obtain ⟨h1, h2, h3, h4⟩ := C2
          refine ⟨fun g hg => ?_, fun g hg => ?_, fun f i f1 f2 hi => ?_, fun f i hf hi => ?_⟩
          · rw [hu_n (by omega)]
            by_cases e7 : g = 7
            · rw [e7]; exact s7
            · rw [rr _ g (by omega) (by omega) (by omega) (by omega), ok g 0 (by omega), h1 g hg, hu_n (by omega)]
          · rw [rr _ g (by omega) (by omega) (by omega) (by omega), h2 g hg, hu_n (by omega), hu_n (by omega), hu_n (by omega), hu_n (by omega), ok g 0 (by omega), ok (g + 16) 0 (by omega)]
          · have hc := cf_sc f1
            rw [hu_n (by omega)] at hi
            rw [hu_n (by omega)]
            by_cases e15 : f = 15
            · subst e15; exact s9 i hi
            · have hc7 : cf f ≠ 7 := by
                unfold cf
                repeat' split
                all_goals omega
              rw [ok (cf f) 0 (by omega)] at hi
              rw [rr _ i (by omega) (by omega) (by omega) (by omega), ok f i (by omega), h3 f i f1 f2 (by rw [hu_n (by omega)]; exact hi), hu_n (by omega)]
          · rw [rr _ i (by omega) (by omega) (by omega) (by omega), h4 f i hf hi]
            by_cases e16 : f = 16 ∧ i = q0
            · rw [e16.1, e16.2, hu_s, hu_s]
            · rw [hu_n e16, hu_n e16, ok f i (by omega)]
        have C4 : CR (uI σ13 (18 - t + 10) q0 (nI (D1 7 0))) (18 - t) (hu (hu D1 16 q0 (D 7 0)) 17 q0 (D1 7 0)) := C3.law (f := 17) (Or.inr rfl)
        refine OkL.yes e1 ⟨_, to _ ⟨_, _, d, F.sg Su, fun z => absurd z (by decide), fun _ => ⟨in3, fun σ16 q16 => ?_⟩⟩, FF.uI (Or.inr (Or.inl ⟨by omega, by omega⟩)), ?_, ?_, C4⟩
        · rw [s7] at q16
          rw [q16]
        · rw [mI_n (by omega)]; exact s5
        · rw [mI_n (by omega), hu_n (by omega), hu_n (by omega)]; exact s10
end LinC3
