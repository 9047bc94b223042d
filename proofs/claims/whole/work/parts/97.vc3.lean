/-! ===== a line, second side ===== -/
theorem ev_det {n m M pc : Nat} {ls st : List Value} {σ : Mm} {w1 w2 : Option Value × Mm} (h1 : run n M pc ls st σ = some w1) (h2 : run m M pc ls st σ = some w2) : w1 = w2 := by
  have a := run_mono h1 (Nat.le_max_left n m)
  have b := run_mono h2 (Nat.le_max_right n m)
  rw [a] at b
  injection b
section LinM3
variable {t n : Nat} {σ σ' : Mm} {D : Nat → Nat → Nat} {B : Nat → Nat}
theorem lineEndM {r : Rz} {K : Option Value → Mm → Prop} (hS : Sg t σ) (h : RM σ B n) (hr : ∀ D' q, r = .inr (D', q) → q ≤ n) (I : OkN σ B n r K) : OkN σ B n (fin B n r) (fun v σ' => ∃ (u : Int32) (σ7 : Mm), K (some (.int u)) σ7 ∧ Sg t σ7 ∧ ∀ z2 : Value, Ev 177 227 [.ref 59, .int u, z2] [] σ7 (v, σ')) := by
  cases r with
  | inl e =>
    obtain ⟨σ7, d, F, c⟩ := I.1 e rfl
    have S7 := F.sg hS
    exact OkN.no rfl ⟨σ7, ⟨0, σ7, d, S7, fun z2 => b_177_227 S7 ⟨fun _ => rfl, fun z => absurd rfl z⟩⟩, F, c⟩
  | inr r0 =>
    obtain ⟨D', q⟩ := r0
    obtain ⟨σ7, d, F, M7, R7⟩ := I.2 D' q rfl
    have S7 := F.sg hS
    have hq := hr D' q rfl
    have c59 := c_162 (ch := 59) (k0 := 40) S7 M7 (by decide) (by decide) (by decide) (by decide)
    by_cases g : tK B n q = 40
    · rw [decide_eq_true g, if_pos rfl] at c59
      obtain ⟨σ1, d1, F1, R1, M1⟩ := nxr S7 (h.fm F) M7 hq R7
      exact OkN.yes (show fin B n (.inr (D', q)) = _ from if_pos g) ⟨σ1, ⟨1, σ7, d, S7, fun z2 => b_177_227 S7 ⟨fun z => absurd z (by decide), fun _ => ⟨_, _, c59, S7, fun z => absurd z (by decide), fun _ => ⟨σ1, d1, F1.sg S7, rfl⟩⟩⟩⟩, F.tr (F1.mono (fun _ _ h => wm_z h)), M1, R1⟩
    · rw [decide_eq_false g] at c59
      obtain ⟨σ1, d1, F1, c⟩ := c_154 (e := 1) S7 M7.2.1
      exact OkN.no (show fin B n (.inr (D', q)) = _ from if_neg g) ⟨σ1, ⟨1, σ7, d, S7, fun z2 => b_177_227 S7 ⟨fun z => absurd z (by decide), fun _ => ⟨_, _, c59, S7, fun _ => ⟨_, _, d1, F1.sg S7, Or.inl rfl, rfl⟩, fun z => absurd rfl z⟩⟩⟩, (F.mono (fun _ _ h => Or.inr h)).tr (F1.mono (fun _ _ h => wm_f h)), c⟩
theorem OkN.imp {r : Rz} {K K' : Option Value → Mm → Prop} (I : OkN σ B n r K) (h : ∀ v σ', K v σ' → K' v σ') : OkN σ B n r K' :=
  ⟨fun e he => by obtain ⟨σ', d, q⟩ := I.1 e he; exact ⟨σ', h _ _ d, q⟩, fun D q he => by obtain ⟨σ', d, q⟩ := I.2 D q he; exact ⟨σ', h _ _ d, q⟩⟩
/-- a law, from its word on -/
theorem r_law {p : Nat} (hS : Sg t σ) (h : RM σ B n) (hM : MC σ B n p) (hp : p ≤ n) (hR : MRd σ D) (hW : WDr D) : OkN σ B n (pLaw B n D p) (fun v σ' => (v = some (.int 0) ∧ (∃ (e : Int32), (((mI σ 59 8 = 1 → ((mI σ 59 9 < 8) ∨ 10 < mI σ 59 9)) ∧ e = 1) ∨ (mI σ 59 8 = 1 ∧ ¬ mI σ 59 9 < 8 ∧ ¬ 10 < mI σ 59 9 ∧ e = 3 ∧ ∃ k : Nat, 3 + mI σ 59 9 - 8 = nI k ∧ k < 6 ∧ ¬ mI σ 72 k = 0)) ∧ Cl 154 [.ref 59, .int e] σ (some (.int 0), σ'))) ∨ (∃ k : Nat, mI σ 59 8 = 1 ∧ ¬ mI σ 59 9 < 8 ∧ ¬ 10 < mI σ 59 9 ∧ 3 + mI σ 59 9 - 8 = nI k ∧ k < 6 ∧ mI σ 72 k = 0 ∧ ∃ σ16 σ20 : Mm, ∃ v3 : Int32, Cl 158 [.ref 59] (uI σ 72 k 1) (none, σ16) ∧ Sg t σ16 ∧ Cl 190 [.ref 59] (uI σ16 73 k (mI σ16 59 21)) (some (.int v3), σ20) ∧ Sg t σ20 ∧ v = some (.int v3) ∧ σ' = uI σ20 74 k (mI σ20 59 21))) := by
  have hT := hM.2.2
  have hK := hW.1.1.2.2.2.2.2.2.2
  have hlt := tK_lt B n p
  by_cases g0 : tK B n p < 18 ∨ 20 < tK B n p
  · obtain ⟨σ', d, F, r⟩ := c_154 (e := 1) hS hM.2.1
    refine OkN.no (if_pos g0) ⟨σ', Or.inl ⟨rfl, 1, Or.inl ⟨fun z => ?_, rfl⟩, d⟩, F.mono (fun _ _ h => wm_f h), r⟩
    have hk := hT.n1.mp z
    obtain ⟨w1, w2, w3, w4, w5, w6⟩ := wx_tab (tK B n p - 10) (by omega)
    rw [hT.w1 hk.1 hk.2]
    rcases g0 with g | g
    · left
      rw [w4 (by omega)]
      exact nI_lt (b := 8) (by omega) (by decide)
    · right
      exact nI_lt (a := 10) (by have := w5 (by omega); omega) (by omega)
  · have e0 : pLaw B n D p = if D 16 (tK B n p - 18) < D 17 (tK B n p - 18) then .inl (3, tS B n p) else match pS B n D (tE B n p) with
        | .inl e => .inl e
        | .inr (D', q) => .inr (hu (hu D' 16 (tK B n p - 18) (D 7 0)) 17 (tK B n p - 18) (D' 7 0), q) := if_neg g0
    have k1 : mI σ 59 8 = 1 := hT.n1.mpr ⟨by omega, by omega⟩
    obtain ⟨w1, w2, w3, w4, w5, w6⟩ := wx_tab (tK B n p - 10) (by omega)
    have kw : mI σ 59 9 = nI (tK B n p - 10) := by rw [hT.w1 (by omega) (by omega), w4 (by omega)]
    have n8 : ¬ mI σ 59 9 < 8 := by rw [kw]; exact nI_nlt (b := 8) (by omega) (by omega)
    have n10' : ¬ 10 < mI σ 59 9 := by rw [kw]; exact nI_nlt (a := 10) (by omega) (by decide)
    have hq3 : tK B n p - 18 < 3 := by omega
    have ek : 3 + mI σ 59 9 - 8 = nI (3 + (tK B n p - 18)) := by
      rw [kw, show (3 : Int32) = nI 3 from rfl, nI_add, show (8 : Int32) = nI 8 from rfl, pk_sub (by omega)]
      congr 1
      omega
    generalize tK B n p - 18 = q0 at e0 ek hq3
    obtain ⟨l72, l73⟩ := hR.2.2.2.2.2 q0 hq3
    by_cases g1 : D 16 q0 < D 17 q0
    · rw [decide_eq_true g1, if_pos rfl] at l72
      obtain ⟨σ', d, F, r⟩ := c_154 (e := 3) hS hM.2.1
      exact OkN.no (e0.trans (if_pos g1)) ⟨σ', Or.inl ⟨rfl, 3, Or.inr ⟨k1, n8, n10', rfl, 3 + q0, ek, by omega, by rw [l72]; decide⟩, d⟩, F.mono (fun _ _ h => wm_f h), r⟩
    · rw [decide_eq_false g1] at l72
      have e1 := e0.trans (if_neg g1)
      have F0 : Fr Wm1 σ (uI σ 72 (3 + q0) 1) := (Fr.rf σ).uI (Or.inr (Or.inr (Or.inr (Or.inr (Or.inr (Or.inr (Or.inr (Or.inr (Or.inl ⟨by decide, by decide, by omega⟩)))))))))
      obtain ⟨σ16, d16, F16, M16⟩ := c_158 (p := tE B n p) (F0.sg hS) (h.fm F0) (tE_le hp) (by rw [mI_n (by omega)]; exact hM.1)
      have FF16 : Fr Wm1 σ σ16 := F0.tr (F16.mono (fun _ _ h => wm_z h))
      have r16 : ∀ x i, ¬ (x = 72 ∧ i = 3 + q0) → ((x = 59 ∧ ((17 ≤ i ∧ i ≤ 21) ∨ i = 43)) ∨ (62 ≤ x ∧ x ≤ 77)) → mI σ16 x i = mI σ x i := fun x i h1 h2 => ((F16.1 x i (fun z => by unfold Wz at z; omega)).1).trans (mI_n h1)
      have v21 : mI σ16 59 21 = nI (D 7 0) := by rw [r16 59 21 (by omega) (by omega)]; exact hR.2.2.1.1
      have F17 : Fr Wm1 σ (uI σ16 73 (3 + q0) (nI (D 7 0))) := FF16.uI (Or.inr (Or.inr (Or.inr (Or.inr (Or.inr (Or.inr (Or.inr (Or.inr (Or.inl ⟨by decide, by decide, by omega⟩)))))))))
      have S17 := F17.sg hS
      obtain ⟨d3, d4⟩ := tE_adv (B := B) hp (by omega)
      have I := c_190 (D := D) (p := tE B n p) S17 (h.fm F17) d4 hK (M16.cg (fun i h1 h2 => mI_n (by omega))) (by rw [mI_n (by omega), r16 59 43 (by omega) (by omega)]; exact hR.2.2.1.2) (by rw [mI_n (by omega)]; exact v21) (fun i hi => by rw [mI_n (by omega), mI_n (by omega), mI_n (by omega), r16 75 _ (by omega) (by omega), r16 76 _ (by omega) (by omega), r16 77 _ (by omega) (by omega)]; exact hR.2.2.2.2.1 i hi)
      have mk : ∀ (v3 : Int32) (σ20 : Mm), Cl 190 [.ref 59] (uI σ16 73 (3 + q0) (nI (D 7 0))) (some (.int v3), σ20) → Sg t σ20 → (∃ k : Nat, mI σ 59 8 = 1 ∧ ¬ mI σ 59 9 < 8 ∧ ¬ 10 < mI σ 59 9 ∧ 3 + mI σ 59 9 - 8 = nI k ∧ k < 6 ∧ mI σ 72 k = 0 ∧ ∃ σ16' σ20' : Mm, ∃ v3' : Int32, Cl 158 [.ref 59] (uI σ 72 k 1) (none, σ16') ∧ Sg t σ16' ∧ Cl 190 [.ref 59] (uI σ16' 73 k (mI σ16' 59 21)) (some (.int v3'), σ20') ∧ Sg t σ20' ∧ some (Value.int v3) = some (.int v3') ∧ uI σ20 74 (3 + q0) (mI σ20 59 21) = uI σ20' 74 k (mI σ20' 59 21)) := fun v3 σ20 hc hs => ⟨3 + q0, k1, n8, n10', ek, by omega, l72, σ16, σ20, v3, d16, FF16.sg hS, by rw [v21]; exact hc, hs, rfl, rfl⟩
      cases hps : pS B n D (tE B n p) with
      | inl e =>
        rw [hps] at e1
        have e1 : pLaw B n D p = .inl e := e1
        obtain ⟨σ20, d, F, r⟩ := I.1 e hps
        refine OkN.no e1 ⟨uI σ20 74 (3 + q0) (mI σ20 59 21), Or.inr (mk 0 σ20 d (F.sg S17)), ((F17.mono (fun _ _ h => Or.inr h)).tr (F.mono (fun x i h => ?_))).uI (Or.inr (Or.inr (Or.inr (Or.inr (Or.inr (Or.inr (Or.inr (Or.inr (Or.inr (Or.inl ⟨by decide, by decide, by omega⟩)))))))))), ?_⟩
        · rcases h with h | h
          · exact Or.inl h
          · exact Or.inr (wm_s h)
        · exact ⟨by rw [mI_n (by omega)]; exact r.1, by rw [mI_n (by omega)]; exact r.2⟩
      | inr r0 =>
        obtain ⟨D1, q⟩ := r0
        rw [hps] at e1
        have e1 : pLaw B n D p = .inr (hu (hu D1 16 q0 (D 7 0)) 17 q0 (D1 7 0), q) := e1
        obtain ⟨k1', k2, k3, k4, k5, k6, k7⟩ := pX_ok (XI.s0 d4 hK) hps
        obtain ⟨σ20, d, F, M20, s43, s21, sk'⟩ := I.2 D1 q hps
        have FF : Fr Wm1 σ σ20 := F17.tr (F.mono (fun _ _ h => wm_s h))
        have ok : ∀ f i, ¬ ((f = 7 ∧ i = 0) ∨ f = 15 ∨ f = 18 ∨ f = 19 ∨ f = 20) → D1 f i = D f i := k1'.2.1
        have rr : ∀ x i, ¬ (x = 72 ∧ i = 3 + q0) → ¬ (x = 73 ∧ i = 3 + q0) → ((x = 59 ∧ 17 ≤ i ∧ i ≤ 20) ∨ (62 ≤ x ∧ x ≤ 74)) → mI σ20 x i = mI σ x i := fun x i h1 h2 h3 => (((F.1 x i (fun z => by unfold Ws1 at z; omega)).1).trans (mI_n h2)).trans (r16 x i h1 (by omega))
        generalize hE : hu (hu D1 16 q0 (D 7 0)) 17 q0 (D1 7 0) = E at e1
        have o : ∀ f i, ¬ (f = 7 ∧ i = 0) → f ≠ 15 → f ≠ 16 → f ≠ 17 → f ≠ 18 → f ≠ 19 → f ≠ 20 → E f i = D f i := fun f i h1 h2 h3 h4 h5 h6 h7 => by rw [← hE, hu_n (by omega), hu_n (by omega), ok f i (by omega)]
        have o1 : ∀ f i, (f = 18 ∨ f = 19 ∨ f = 20 ∨ f = 7) → E f i = D1 f i := fun f i hf => by rw [← hE, hu_n (by omega), hu_n (by omega)]
        have e16 : ∀ i, E 16 i = if i = q0 then D 7 0 else D 16 i := fun i => by
          rw [← hE, hu_n (by omega)]
          by_cases e : i = q0
          · rw [if_pos e, e, hu_s]
          · rw [if_neg e, hu_n (by omega), ok 16 i (by omega)]
        have e17 : ∀ i, E 17 i = if i = q0 then D1 7 0 else D 17 i := fun i => by
          rw [← hE]
          by_cases e : i = q0
          · rw [if_pos e, e, hu_s]
          · rw [if_neg e, hu_n (by omega), hu_n (by omega), ok 17 i (by omega)]
        have RE : MRd (uI σ20 74 (3 + q0) (nI (D1 7 0))) E := by
          obtain ⟨⟨a0, a1, a2, a3, a4⟩, ⟨b1, b2, b3, b4⟩, ⟨c1, c2⟩, dd, ee, gg⟩ := hR
          refine ⟨⟨?_, ?_, ?_, ?_, ?_⟩, ⟨?_, ?_, ?_, ?_⟩, ⟨?_, ?_⟩, fun f i h1 h2 hi => ?_, fun i hi => ?_, fun i hi => ?_⟩
          · rw [mI_n (by omega), rr _ _ (by omega) (by omega) (by omega), o 0 0 (by omega) (by omega) (by omega) (by omega) (by omega) (by omega) (by omega)]; exact a0
          · rw [mI_n (by omega), rr _ _ (by omega) (by omega) (by omega), o 1 0 (by omega) (by omega) (by omega) (by omega) (by omega) (by omega) (by omega)]; exact a1
          · rw [mI_n (by omega), rr _ _ (by omega) (by omega) (by omega), o 2 0 (by omega) (by omega) (by omega) (by omega) (by omega) (by omega) (by omega)]; exact a2
          · rw [mI_n (by omega), rr _ _ (by omega) (by omega) (by omega), o 3 0 (by omega) (by omega) (by omega) (by omega) (by omega) (by omega) (by omega)]; exact a3
          · rw [mI_n (by omega), rr _ _ (by omega) (by omega) (by omega), o 4 0 (by omega) (by omega) (by omega) (by omega) (by omega) (by omega) (by omega)]; exact a4
          · rw [mI_n (by omega), rr _ _ (by omega) (by omega) (by omega), o 5 0 (by omega) (by omega) (by omega) (by omega) (by omega) (by omega) (by omega)]; exact b1
          · rw [mI_n (by omega), rr _ _ (by omega) (by omega) (by omega), o 6 0 (by omega) (by omega) (by omega) (by omega) (by omega) (by omega) (by omega)]; exact b2
          · rw [mI_n (by omega), rr _ _ (by omega) (by omega) (by omega), o 21 0 (by omega) (by omega) (by omega) (by omega) (by omega) (by omega) (by omega)]; exact b3
          · rw [mI_n (by omega), rr _ _ (by omega) (by omega) (by omega), o 22 0 (by omega) (by omega) (by omega) (by omega) (by omega) (by omega) (by omega)]; exact b4
          · rw [mI_n (by omega), o1 7 0 (by omega)]; exact s21
          · rw [mI_n (by omega), o1 7 0 (by omega)]; exact s43
          · have hc := cf_sc h1
            have hc7 : cf f ≠ 7 := by
              unfold cf
              repeat' split
              all_goals omega
            rw [o (cf f) 0 (by omega) (by omega) (by omega) (by omega) (by omega) (by omega) (by omega)] at hi
            rw [mI_n (by omega), rr _ _ (by omega) (by omega) (by omega), o f i (by omega) (by omega) (by omega) (by omega) (by omega) (by omega) (by omega)]
            exact dd f i h1 h2 hi
          · rw [o1 7 0 (by omega)] at hi
            rw [mI_n (by omega), mI_n (by omega), mI_n (by omega), o1 18 i (by omega), o1 19 i (by omega), o1 20 i (by omega)]
            exact sk' i hi
          · rw [e16, e17]
            by_cases e : i = q0
            · subst e
              rw [if_pos rfl, if_pos rfl, decide_eq_true k2, if_pos rfl, mI_n (by omega), mI_n (by omega), mI_s]
              refine ⟨?_, fun _ => ⟨?_, rfl⟩⟩
              · rw [(F.1 72 _ (fun z => by unfold Ws1 at z; omega)).1, mI_n (by omega), (F16.1 72 _ (fun z => by unfold Wz at z; omega)).1, mI_s]
              · rw [(F.1 73 _ (fun z => by unfold Ws1 at z; omega)).1, mI_s]
            · rw [if_neg e, if_neg e, mI_n (by omega), mI_n (by omega), mI_n (by omega), rr 72 _ (by omega) (by omega) (by omega), rr 73 _ (by omega) (by omega) (by omega), rr 74 _ (by omega) (by omega) (by omega)]
              exact gg i hi
        have MKK := mk 1 σ20 d (F.sg S17)
        rw [s21] at MKK
        exact OkN.yes e1 ⟨uI σ20 74 (3 + q0) (nI (D1 7 0)), Or.inr MKK, FF.uI (Or.inr (Or.inr (Or.inr (Or.inr (Or.inr (Or.inr (Or.inr (Or.inr (Or.inl ⟨by decide, by decide, by omega⟩))))))))), M20.cg (fun i h1 h2 => mI_n (by omega)), RE⟩
theorem c_177 {p : Nat} (hS : Sg t σ) (h : RM σ B n) (hM : MC σ B n p) (hp : p ≤ n) (hk : tK B n p ≠ 0) (hR : MRd σ D) (hW : WDr D) : OkN σ B n (pLine B n D p) (fun v σ' => Cl 177 [.ref 59] σ (v, σ')) := by
  obtain ⟨d1, d2⟩ := tE_adv (B := B) hp hk
  have hT := hM.2.2
  have k43 := tK_lt B n p
  have eL : pLine B n D p = fin B n (pBody B n D (tK B n p) (tS B n p) (tE B n p)) := by
    unfold pLine fin
    rfl
  rw [eL]
  have hq : ∀ D' q, pBody B n D (tK B n p) (tS B n p) (tE B n p) = .inr (D', q) → q ≤ n := fun D' q he => (pBody_ok hW d2 he).2.2
  by_cases gk : 10 ≤ tK B n p ∧ tK B n p ≤ 17
  · have k1 : mI σ 59 8 = 1 := hT.n1.mpr ⟨by omega, by omega⟩
    obtain ⟨w1, w2, w3, w4, w5, w6⟩ := wx_tab (tK B n p - 10) (by omega)
    have kw : mI σ 59 9 = nI (tK B n p - 10) := by rw [hT.w1 (by omega) (by omega), w4 (by omega)]
    have ik : ∀ m, m < 256 → (nI (tK B n p - 10) = nI m ↔ tK B n p - 10 = m) := fun m hm => nI_eq (by omega) (by omega)
    have n7 : ¬ (7 : Int32) < nI (tK B n p - 10) := nI_nlt (a := 7) (by omega) (by decide)
    have nw' : ∀ m, m < 256 → tK B n p - 10 ≠ m → ¬ nI (tK B n p - 10) = nI m := fun m hm e z => e ((ik m hm).mp z)
    by_cases c10 : tK B n p = 10
    · have eb : pBody B n D (tK B n p) (tS B n p) (tE B n p) = pLamp B n D (tS B n p) (tE B n p) := if_pos c10
      rw [eb] at hq ⊢
      refine (lineEndM hS h hq (c_170 hS h hM hp hR hW)).imp (fun v σ' hw => ck_177 hS (b_177_0 hS ?_))
      obtain ⟨u, σ7, q1, q2, q3⟩ := hw
      rw [k1, kw]
      exact ⟨fun _ => ⟨fun z => absurd z n7, fun _ => ⟨fun _ => ⟨u, σ7, q1, q2, q3 _⟩, fun z => absurd z (nw' 1 (by decide) (by omega)), fun z => absurd z (nw' 2 (by decide) (by omega)), fun z => absurd z (nw' 3 (by decide) (by omega)), fun z => absurd z (nw' 4 (by decide) (by omega)), fun z => absurd z (nw' 5 (by decide) (by omega)), fun z => absurd z (nw' 6 (by decide) (by omega)), fun z => absurd ((ik 0 (by decide)).mpr (by omega)) z.1⟩⟩, fun z => absurd rfl z⟩
    by_cases c11 : tK B n p = 11
    · have eb : pBody B n D (tK B n p) (tS B n p) (tE B n p) = pPull B n D (tS B n p) (tE B n p) := (if_neg c10).trans (if_pos c11)
      rw [eb] at hq ⊢
      refine (lineEndM hS h hq (c_172 hS h hM hp hk hR hW)).imp (fun v σ' hw => ck_177 hS (b_177_0 hS ?_))
      obtain ⟨u, σ7, q1, q2, q3⟩ := hw
      rw [k1, kw]
      exact ⟨fun _ => ⟨fun z => absurd z n7, fun _ => ⟨fun z => absurd z (nw' 0 (by decide) (by omega)), fun _ => ⟨u, σ7, q1, q2, q3 _⟩, fun z => absurd z (nw' 2 (by decide) (by omega)), fun z => absurd z (nw' 3 (by decide) (by omega)), fun z => absurd z (nw' 4 (by decide) (by omega)), fun z => absurd z (nw' 5 (by decide) (by omega)), fun z => absurd z (nw' 6 (by decide) (by omega)), fun z => absurd ((ik 1 (by decide)).mpr (by omega)) z.2.1⟩⟩, fun z => absurd rfl z⟩
    by_cases c12 : tK B n p = 12
    · have eb : pBody B n D (tK B n p) (tS B n p) (tE B n p) = pLit B n D (tE B n p) := (if_neg c10).trans ((if_neg c11).trans (if_pos c12))
      rw [eb] at hq ⊢
      refine (lineEndM hS h hq (c_173 hS h hM hp hR hW)).imp (fun v σ' hw => ck_177 hS (b_177_0 hS ?_))
      obtain ⟨u, σ7, q1, q2, q3⟩ := hw
      rw [k1, kw]
      exact ⟨fun _ => ⟨fun z => absurd z n7, fun _ => ⟨fun z => absurd z (nw' 0 (by decide) (by omega)), fun z => absurd z (nw' 1 (by decide) (by omega)), fun _ => ⟨u, σ7, q1, q2, q3 _⟩, fun z => absurd z (nw' 3 (by decide) (by omega)), fun z => absurd z (nw' 4 (by decide) (by omega)), fun z => absurd z (nw' 5 (by decide) (by omega)), fun z => absurd z (nw' 6 (by decide) (by omega)), fun z => absurd ((ik 2 (by decide)).mpr (by omega)) z.2.2.1⟩⟩, fun z => absurd rfl z⟩
    by_cases c13 : tK B n p = 13
    · have eb : pBody B n D (tK B n p) (tS B n p) (tE B n p) = pRing B n D (tS B n p) (tE B n p) := (if_neg c10).trans ((if_neg c11).trans ((if_neg c12).trans (if_pos c13)))
      rw [eb] at hq ⊢
      refine (lineEndM hS h hq (c_174 hS h hM hp hR hW)).imp (fun v σ' hw => ck_177 hS (b_177_0 hS ?_))
      obtain ⟨u, σ7, q1, q2, q3⟩ := hw
      rw [k1, kw]
      exact ⟨fun _ => ⟨fun z => absurd z n7, fun _ => ⟨fun z => absurd z (nw' 0 (by decide) (by omega)), fun z => absurd z (nw' 1 (by decide) (by omega)), fun z => absurd z (nw' 2 (by decide) (by omega)), fun _ => ⟨u, σ7, q1, q2, q3 _⟩, fun z => absurd z (nw' 4 (by decide) (by omega)), fun z => absurd z (nw' 5 (by decide) (by omega)), fun z => absurd z (nw' 6 (by decide) (by omega)), fun z => absurd ((ik 3 (by decide)).mpr (by omega)) z.2.2.2.1⟩⟩, fun z => absurd rfl z⟩
    by_cases c14 : tK B n p = 14
    · have eb : pBody B n D (tK B n p) (tS B n p) (tE B n p) = pMend B n D (tS B n p) (tE B n p) := (if_neg c10).trans ((if_neg c11).trans ((if_neg c12).trans ((if_neg c13).trans (if_pos c14))))
      rw [eb] at hq ⊢
      refine (lineEndM hS h hq (c_175 hS h hM hp hR hW)).imp (fun v σ' hw => ck_177 hS (b_177_0 hS ?_))
      obtain ⟨u, σ7, q1, q2, q3⟩ := hw
      rw [k1, kw]
      exact ⟨fun _ => ⟨fun z => absurd z n7, fun _ => ⟨fun z => absurd z (nw' 0 (by decide) (by omega)), fun z => absurd z (nw' 1 (by decide) (by omega)), fun z => absurd z (nw' 2 (by decide) (by omega)), fun z => absurd z (nw' 3 (by decide) (by omega)), fun _ => ⟨u, σ7, q1, q2, q3 _⟩, fun z => absurd z (nw' 5 (by decide) (by omega)), fun z => absurd z (nw' 6 (by decide) (by omega)), fun z => absurd ((ik 4 (by decide)).mpr (by omega)) z.2.2.2.2.1⟩⟩, fun z => absurd rfl z⟩
    by_cases c15 : tK B n p = 15
    · have eb : pBody B n D (tK B n p) (tS B n p) (tE B n p) = pOnce B n D 5 100 (tS B n p) (tE B n p) := (if_neg c10).trans ((if_neg c11).trans ((if_neg c12).trans ((if_neg c13).trans ((if_neg c14).trans (if_pos c15)))))
      rw [eb] at hq ⊢
      refine (lineEndM hS h hq (c_176 (Or.inl ⟨rfl, rfl⟩) hS h hM hp hR hW)).imp (fun v σ' hw => ck_177 hS (b_177_0 hS ?_))
      obtain ⟨u, σ7, q1, q2, q3⟩ := hw
      rw [k1, kw]
      exact ⟨fun _ => ⟨fun z => absurd z n7, fun _ => ⟨fun z => absurd z (nw' 0 (by decide) (by omega)), fun z => absurd z (nw' 1 (by decide) (by omega)), fun z => absurd z (nw' 2 (by decide) (by omega)), fun z => absurd z (nw' 3 (by decide) (by omega)), fun z => absurd z (nw' 4 (by decide) (by omega)), fun _ => ⟨u, σ7, q1, q2, q3 _⟩, fun z => absurd z (nw' 6 (by decide) (by omega)), fun z => absurd ((ik 5 (by decide)).mpr (by omega)) z.2.2.2.2.2.1⟩⟩, fun z => absurd rfl z⟩
    by_cases c16 : tK B n p = 16
    · have eb : pBody B n D (tK B n p) (tS B n p) (tE B n p) = pOnce B n D 6 99999 (tS B n p) (tE B n p) := (if_neg c10).trans ((if_neg c11).trans ((if_neg c12).trans ((if_neg c13).trans ((if_neg c14).trans ((if_neg c15).trans (if_pos c16))))))
      rw [eb] at hq ⊢
      refine (lineEndM hS h hq (c_176 (Or.inr ⟨rfl, rfl⟩) hS h hM hp hR hW)).imp (fun v σ' hw => ck_177 hS (b_177_0 hS ?_))
      obtain ⟨u, σ7, q1, q2, q3⟩ := hw
      rw [k1, kw]
      exact ⟨fun _ => ⟨fun z => absurd z n7, fun _ => ⟨fun z => absurd z (nw' 0 (by decide) (by omega)), fun z => absurd z (nw' 1 (by decide) (by omega)), fun z => absurd z (nw' 2 (by decide) (by omega)), fun z => absurd z (nw' 3 (by decide) (by omega)), fun z => absurd z (nw' 4 (by decide) (by omega)), fun z => absurd z (nw' 5 (by decide) (by omega)), fun _ => ⟨u, σ7, q1, q2, q3 _⟩, fun z => absurd ((ik 6 (by decide)).mpr (by omega)) z.2.2.2.2.2.2⟩⟩, fun z => absurd rfl z⟩
    · -- a law
      have eb : pBody B n D (tK B n p) (tS B n p) (tE B n p) = pLaw B n D (tE B n p) := (if_neg c10).trans ((if_neg c11).trans ((if_neg c12).trans ((if_neg c13).trans ((if_neg c14).trans ((if_neg c15).trans ((if_neg c16).trans (if_pos (by omega))))))))
      rw [eb] at hq ⊢
      obtain ⟨σ4, d4, F4, R4, M4⟩ := nxr hS h hM hp hR
      have S4 := F4.sg hS
      have FF4 : Fr Wm1 σ σ4 := F4.mono (fun _ _ h => wm_z h)
      have I := lineEndM S4 (h.fz F4) hq (r_law S4 (h.fz F4) M4 d2 R4 hW)
      have I2 : OkN σ4 B n (fin B n (pLaw B n D (tE B n p))) (fun v σ' => Cl 177 [.ref 59] σ (v, σ')) := I.imp (fun v σ' hw => by
        refine ck_177 hS (b_177_0 hS ?_)
        rw [k1, kw]
        refine ⟨fun _ => ⟨fun z => absurd z n7, fun _ => ⟨fun z => absurd z (nw' 0 (by decide) (by omega)), fun z => absurd z (nw' 1 (by decide) (by omega)), fun z => absurd z (nw' 2 (by decide) (by omega)), fun z => absurd z (nw' 3 (by decide) (by omega)), fun z => absurd z (nw' 4 (by decide) (by omega)), fun z => absurd z (nw' 5 (by decide) (by omega)), fun z => absurd z (nw' 6 (by decide) (by omega)), fun _ => ⟨σ4, d4, S4, ?_⟩⟩⟩, fun z => absurd rfl z⟩
        obtain ⟨u, σ7, hK, S7, hev⟩ := hw
        rcases hK with ⟨eu, e, he, dd⟩ | ⟨k, a1, a2, a3, a4, a5, a6, σ16, σ20, v3, b1, b2, b3, b4, b5, b6⟩
        · injection eu with eu
          injection eu with eu
          subst eu
          -- what it answers at once
          have hv : ((v, σ') : Option Value × Mm) = (some (.int 0), σ7) := by
            obtain ⟨m, hm⟩ := hev (.retAddr 0)
            obtain ⟨m2, hm2⟩ := b_177_227 (w := (some (.int 0), σ7)) (x1 := 0) (z2 := .retAddr 0) S7 ⟨fun _ => rfl, fun z => absurd rfl z⟩
            exact ev_det hm hm2
          have gd : ∀ e' : Int32, e' = e → ∃ (v9 : Int32) (σ7' : Mm), Cl 154 [.ref 59, .int e'] σ4 (some (.int v9), σ7') ∧ Sg t σ7' ∧ ((v9 = 0 ∨ v9 = 1) ∧ ((v, σ') : Option Value × Mm) = (some (.int v9), σ7')) := fun e' h => by rw [h]; exact ⟨_, _, dd, S7, Or.inl rfl, hv⟩
          rcases he with ⟨hk1, e1⟩ | ⟨c1, c2, c3, e3, k, c4, c5, c6⟩
          · refine ⟨fun z => ?_, fun _ => gd 1 e1.symm⟩
            refine ⟨fun _ => gd 1 e1.symm, fun y => ⟨fun _ => gd 1 e1.symm, fun y2 => absurd (hk1 z) (fun u => u.elim y y2)⟩⟩
          · refine ⟨fun _ => ⟨fun z => absurd z c2, fun _ => ⟨fun z => absurd z c3, fun _ => ?_⟩⟩, fun z => absurd c1 z⟩
            rw [c4, nI_clamp (by omega)]
            exact ⟨inb_nI c5 (by decide), fun z => absurd z c6, fun _ => gd 3 e3.symm⟩
        · injection b5 with b5
          injection b5 with b5
          subst b5 b6
          refine ⟨fun _ => ⟨fun z => absurd z a2, fun _ => ⟨fun z => absurd z a3, fun _ => ?_⟩⟩, fun z => absurd a1 z⟩
          rw [a4, nI_clamp (by omega)]
          have in6 : inb (nI k) 6 = true := inb_nI a5 (by decide)
          refine ⟨in6, fun _ => ⟨in6, fun σ13 q13 => ?_⟩, fun z => absurd a6 z⟩
          rw [q13]
          refine ⟨σ16, b1, b2, b_177_202 b2 ⟨in6, ?_⟩⟩
          rw [nI_clamp (by omega)]
          exact ⟨_, _, b3, b4, in6, hev _⟩)
      exact ⟨fun e he => by
        obtain ⟨σ', d, F, r⟩ := I2.1 e he
        exact ⟨σ', d, (FF4.mono (fun _ _ h => Or.inr h)).tr F, r⟩, fun D' q he => by
        obtain ⟨σ', d, F, r⟩ := I2.2 D' q he
        exact ⟨σ', d, FF4.tr F, r⟩⟩
  · have eb : pBody B n D (tK B n p) (tS B n p) (tE B n p) = .inl (1, tS B n p) := by
      unfold pBody
      rw [if_neg (by omega), if_neg (by omega), if_neg (by omega), if_neg (by omega), if_neg (by omega), if_neg (by omega), if_neg (by omega), if_neg (by omega)]
    rw [eb]
    obtain ⟨σ', d, F, r⟩ := c_154 (e := 1) hS hM.2.1
    refine OkN.no rfl ⟨σ', ck_177 hS (b_177_0 hS ⟨fun z => ⟨fun _ => ⟨_, _, d, F.sg hS, Or.inl rfl, rfl⟩, fun y => ?_⟩, fun _ => ⟨_, _, d, F.sg hS, Or.inl rfl, rfl⟩⟩), F.mono (fun _ _ h => wm_f h), r⟩
    have hk1 := hT.n1.mp z
    obtain ⟨w1, w2, w3, w4, w5, w6⟩ := wx_tab (tK B n p - 10) (by omega)
    rw [hT.w1 hk1.1 hk1.2] at y
    refine absurd (nI_lt (a := 7) ?_ (by omega)) y
    rcases Nat.lt_or_ge (tK B n p - 10) 11 with g | g
    · rw [w4 (by omega)]; omega
    · have := w5 g; omega
end LinM3
