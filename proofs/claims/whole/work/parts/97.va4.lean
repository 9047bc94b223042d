/-! ===== a line, first side; faults have a number ===== -/
theorem ne1 {k q : Nat} (h : 0 < k) : ((k, q) : Nat × Nat).1 ≠ 0 := Nat.ne_of_gt h
section Flt
variable {B : Nat → Nat} {n : Nat} {D : Nat → Nat → Nat}
theorem pX_f {f : Nat} : ∀ {m : Nat} {x : Xs} {e : Nat × Nat}, n < x.1 + m → XI f n x → pX B n m x = .inl e → e.1 ≠ 0 := by
  intro m
  induction m with
  | zero => intro x e h hx; exact absurd hx.2.2.2.2.2.2.2 (by omega)
  | succ m ih =>
    intro x e hm hx h
    have h : (if x.2.2.2.2.2.2.1 = false ∧ x.2.2.2.2.2.1 = 0 ∧ tK B n x.1 = 40 then .inr (xfi x, x.1) else match xst B n x with
      | .inl e => .inl e
      | .inr y => pX B n m y) = (.inl e : Rz) := h
    split at h
    · cases h
    · cases ex : xst B n x with
      | inl z =>
        rw [ex] at h
        injection h with h
        subst h
        unfold xst at ex
        split at ex
        · unfold leaf at ex
          repeat' split at ex
          all_goals first | (cases ex; done) | (injection ex with ex; rw [← ex]; exact ne1 (by decide))
        · unfold sgn at ex
          repeat' split at ex
          all_goals first | (cases ex; done) | (injection ex with ex; rw [← ex]; exact ne1 (by decide))
      | inr y =>
        rw [ex] at h
        obtain ⟨b1, b2, b3⟩ := hx.st ex
        exact ih (by omega) b1 h
theorem pTies_f : ∀ {m s p : Nat} {e : Nat × Nat}, n < p + m → p ≤ n → pTies B n D m s p = .inl e → e.1 ≠ 0 := by
  intro m
  induction m with
  | zero => intro s p e h1 h2; omega
  | succ m ih =>
    intro s p e hm hp h
    have h : (if ¬ tK B n p = 3 then .inr (s, p) else if ¬ fdl D (tV B n p) < D 0 0 then .inl (4, tS B n p) else if s.testBit (fdl D (tV B n p)) = true then .inl (3, tS B n p) else pTies B n D m (s ||| 2 ^ fdl D (tV B n p)) (tE B n p)) = (.inl e : (Nat × Nat) ⊕ (Nat × Nat)) := h
    split at h
    · cases h
    rename_i g1
    split at h
    · injection h with h; rw [← h]; exact ne1 (by decide)
    split at h
    · injection h with h; rw [← h]; exact ne1 (by decide)
    obtain ⟨d1, d2⟩ := tE_adv (B := B) hp (by omega)
    exact ih (by omega) d2 h
theorem pLine_f {p : Nat} {e : Nat × Nat} (hW : WDr D) (hp : p ≤ n) (hk : tK B n p ≠ 0) (h : pLine B n D p = .inl e) : e.1 ≠ 0 := by
  obtain ⟨d1, d2⟩ := tE_adv (B := B) hp hk
  unfold pLine at h
  split at h
  · rename_i e' hb
    injection h with h
    subst h
    unfold pBody at hb
    split at hb
    · unfold pLamp at hb
      repeat' split at hb
      all_goals first | (cases hb; done) | (injection hb with hb; rw [← hb]; exact ne1 (by decide))
    split at hb
    · unfold pPull at hb
      split at hb
      · injection hb with hb; rw [← hb]; exact ne1 (by decide)
      split at hb
      · injection hb with hb; rw [← hb]; exact ne1 (by decide)
      rename_i g1
      split at hb
      · injection hb with hb; rw [← hb]; exact ne1 (by decide)
      split at hb
      · injection hb with hb; rw [← hb]; exact ne1 (by decide)
      rename_i g2
      split at hb
      · injection hb with hb; rw [← hb]; exact ne1 (by decide)
      obtain ⟨d3, d4⟩ := tE_adv (B := B) d2 (by omega)
      obtain ⟨d5, d6⟩ := tE_adv (B := B) d4 (by omega)
      split at hb
      · rename_i e2 ht
        injection hb with hb
        subst hb
        exact pTies_f (by omega) d6 ht
      · cases hb
    split at hb
    · unfold pLit at hb
      repeat' split at hb
      all_goals first | (cases hb; done) | (injection hb with hb; rw [← hb]; exact ne1 (by decide))
    split at hb
    · unfold pRing at hb
      repeat' split at hb
      all_goals first | (cases hb; done) | (injection hb with hb; rw [← hb]; exact ne1 (by decide))
    split at hb
    · unfold pMend at hb
      repeat' split at hb
      all_goals first | (cases hb; done) | (injection hb with hb; rw [← hb]; exact ne1 (by decide))
    split at hb
    · unfold pOnce at hb
      repeat' split at hb
      all_goals first | (cases hb; done) | (injection hb with hb; rw [← hb]; exact ne1 (by decide))
    split at hb
    · unfold pOnce at hb
      repeat' split at hb
      all_goals first | (cases hb; done) | (injection hb with hb; rw [← hb]; exact ne1 (by decide))
    split at hb
    · unfold pLaw at hb
      split at hb
      · injection hb with hb; rw [← hb]; exact ne1 (by decide)
      rename_i g1
      split at hb
      · injection hb with hb; rw [← hb]; exact ne1 (by decide)
      obtain ⟨d3, d4⟩ := tE_adv (B := B) d2 (by omega)
      split at hb
      · rename_i e2 ht
        injection hb with hb
        subst hb
        exact pX_f (by dsimp only; omega) (XI.s0 d4 hW.1.1.2.2.2.2.2.2.2) ht
      · cases hb
    · injection hb with hb; rw [← hb]; exact ne1 (by decide)
  · split at h
    · cases h
    · injection h with h; rw [← h]; exact ne1 (by decide)
end Flt
/-- a line's end -/
def fin (B : Nat → Nat) (n : Nat) (r : Rz) : Rz := match r with
  | .inl e => .inl e
  | .inr (D', q) => if tK B n q = 40 then .inr (D', tE B n q) else .inl (1, tS B n q)
section LinC4
variable {t n a : Nat} {σ σ' : Mm} {D : Nat → Nat → Nat} {B : Nat → Nat}
theorem lineEnd {r : Rz} {K : Option Value → Mm → Prop} (hS : Sg t σ) (h : RC σ B n) (hr : ∀ D' q, r = .inr (D', q) → q ≤ n) (I : OkL t σ r K) : OkL t σ (fin B n r) (fun v σ' => ∃ (u : Int32) (σ7 : Mm), K (some (.int u)) σ7 ∧ Sg t σ7 ∧ ((u = 0 → ((v, σ') : Option Value × Mm) = (some (.int 0), σ7)) ∧ (¬ (u = 0) → (∃ (v12 : Int32) (σ10 : Mm), Cl 49 [.ref 1, .int 40] σ7 (some (.int v12), σ10) ∧ Sg t σ10 ∧ ((v12 = 0 → ((v, σ') : Option Value × Mm) = (some (.int 0), σ10)) ∧ (¬ (v12 = 0) → ((v, σ') : Option Value × Mm) = (some (.int 1), σ10))))))) := by
  have ha := hS.ti
  cases r with
  | inl e =>
    obtain ⟨σ7, d, F, c⟩ := I.1 e rfl
    exact OkL.no rfl ⟨σ7, ⟨0, σ7, d, F.sg hS, fun _ => rfl, fun z => absurd rfl z⟩, F, c⟩
  | inr r0 =>
    obtain ⟨D', q⟩ := r0
    obtain ⟨σ7, d, F, s5, s10, sC⟩ := I.2 D' q rfl
    have S7 := F.sg hS
    have hq := hr D' q rfl
    obtain ⟨y, no⟩ := c_49 (k := 40) S7 (h.fl ha F) hq s5 (by decide)
    by_cases g : tK B n q = 40
    · obtain ⟨σ1, d1, F1, a5, a7, a8⟩ := y g
      refine OkL.yes (show fin B n (.inr (D', q)) = _ from if_pos g) ⟨σ1, ⟨1, σ7, d, S7, fun z => absurd z (by decide), fun _ => ⟨1, σ1, d1, F1.sg S7, fun z => absurd z (by decide), fun _ => rfl⟩⟩, F.tr (F1.mono (fun _ _ h => wl_k h)), a5, ?_, sC.fkk ha F1⟩
      rw [(F1.1 1 10 (fun z => by unfold Wkk at z; omega)).1]; exact s10
    · obtain ⟨σ1, d1, F1, c⟩ := no g
      exact OkL.no (show fin B n (.inr (D', q)) = _ from if_neg g) ⟨σ1, ⟨1, σ7, d, S7, fun z => absurd z (by decide), fun _ => ⟨0, σ1, d1, F1.sg S7, fun _ => rfl, fun z => absurd rfl z⟩⟩, (F.mono (fun _ _ h => Or.inr h)).tr (F1.mono (fun _ _ h => wkf h)), c⟩
theorem OkL.imp {r : Rz} {K K' : Option Value → Mm → Prop} (I : OkL t σ r K) (h : ∀ v σ', K v σ' → K' v σ') : OkL t σ r K' :=
  ⟨fun e he => by obtain ⟨σ', d, q⟩ := I.1 e he; exact ⟨σ', h _ _ d, q⟩, fun D q he => by obtain ⟨σ', d, q⟩ := I.2 D q he; exact ⟨σ', h _ _ d, q⟩⟩
/-- a pull with its ties -/
theorem r_pull {p s0 : Nat} (hS : Sg t σ) (h : RC σ B n) (hC : CR σ (18 - t) D) (hW : WDr D) (hp : p ≤ n) (h5 : mI σ 1 5 = nI p) (h7 : mI σ 1 7 = nI s0) (h10 : mI σ 1 10 = nI (D 7 0)) : OkL t σ (pPull B n D s0 p) (fun v σ' => (v = some (.int 0) ∧ Cl 53 [.ref 1] σ (some (.int 0), σ')) ∨ ∃ σ13, Cl 53 [.ref 1] σ (some (.int 1), σ13) ∧ Sg t σ13 ∧ Cl 54 [.ref 1, .int (mI σ13 (18 - t) 1 - 1)] σ13 (v, σ')) := by
  have ha := hS.ti
  have I := c_53 hS h hC hW hp h5 h7 h10
  have e0 : pPull B n D s0 p = match pPull1 B n D s0 p with
      | .inl e => .inl e
      | .inr _ => match pTies B n D (n + 1) 0 (tE B n (tE B n p)) with
        | .inl e => .inl e
        | .inr (s, q) => .inr (wPull D (tV B n p) (tV B n (tE B n p)) s, q) := by
    unfold pPull pPull1
    repeat' split
    all_goals first | rfl | (exfalso; simp_all; done) | simp_all
  cases h1 : pPull1 B n D s0 p with
  | inl e =>
    rw [h1] at e0
    obtain ⟨σ', d, F, c⟩ := I.1 e h1
    exact OkL.no e0 ⟨σ', Or.inl ⟨rfl, d⟩, F, c⟩
  | inr r0 =>
    obtain ⟨D2, q2⟩ := r0
    have hq : D2 = wPull D (tV B n p) (tV B n (tE B n p)) 0 ∧ q2 = tE B n (tE B n p) ∧ tK B n p = 3 ∧ tK B n (tE B n p) = 2 ∧ D 1 0 ≠ 10 ∧ tV B n (tE B n p) ≤ 99 := by
      unfold pPull1 at h1
      split at h1
      · cases h1
      rename_i g0
      split at h1
      · cases h1
      rename_i g1
      split at h1
      · cases h1
      split at h1
      · cases h1
      rename_i g3
      split at h1
      · cases h1
      rename_i g4
      injection h1 with h1
      injection h1 with ha hb
      exact ⟨ha.symm, hb.symm, by omega, by omega, g0, by omega⟩
    obtain ⟨eD2, eq2, k1, k2, k3, k4⟩ := hq
    rw [h1] at e0
    dsimp only at e0
    obtain ⟨σ13, d, F, s5, s10, sC⟩ := I.2 D2 q2 h1
    have S13 := F.sg hS
    obtain ⟨d1, d2⟩ := tE_adv (B := B) hp (by omega)
    obtain ⟨d3, d4⟩ := tE_adv (B := B) d2 (by omega)
    have hP10 := hW.1.1.2.1
    have hV := tV_lt (B := B) (n := n) (p := p)
    have e21 : D2 1 0 = D 1 0 + 1 := by rw [eD2]; unfold wPull; rw [hu_s]
    have W2 : WDr D2 := by
      obtain ⟨⟨⟨a0, a1, a2, a3, a4, a5, a6, a7⟩, b1, b2, b3, b4, b5, b6, b7, b8⟩, c1, c2⟩ := hW
      have s : ∀ f i, f ≠ 1 → f ≠ 9 → f ≠ 10 → f ≠ 11 → D2 f i = D f i := fun f i h1 h2 h3 h4 => by rw [eD2]; unfold wPull; rw [hu_n (by omega), hu_n (by omega), hu_n (by omega), hu_n (by omega)]
      have s' : ∀ f, f ≠ 1 → f ≠ 9 → f ≠ 10 → f ≠ 11 → D2 f = D f := fun f h1 h2 h3 h4 => funext (fun i => s f i h1 h2 h3 h4)
      have e9 : ∀ i, D2 9 i = if i = D 1 0 then tV B n p else D 9 i := fun i => by
        rw [eD2]; unfold wPull
        rw [hu_n (by omega), hu_n (by omega), hu_n (by omega)]
        by_cases e : i = D 1 0
        · rw [if_pos e, e, hu_s]
        · rw [if_neg e, hu_n (by omega)]
      have e10 : ∀ i, D2 10 i = if i = D 1 0 then tV B n (tE B n p) else D 10 i := fun i => by
        rw [eD2]; unfold wPull
        rw [hu_n (by omega), hu_n (by omega)]
        by_cases e : i = D 1 0
        · rw [if_pos e, e, hu_s]
        · rw [if_neg e, hu_n (by omega), hu_n (by omega)]
      have e11 : ∀ i, D2 11 i = if i = D 1 0 then 0 else D 11 i := fun i => by
        rw [eD2]; unfold wPull
        rw [hu_n (by omega)]
        by_cases e : i = D 1 0
        · rw [if_pos e, e, hu_s]
        · rw [if_neg e, hu_n (by omega), hu_n (by omega), hu_n (by omega)]
      have p0 := Nat.two_pow_pos (D 0 0)
      refine ⟨⟨⟨by rw [s 0 0 (by decide) (by decide) (by decide) (by decide)]; exact a0, by omega, by rw [s 2 0 (by decide) (by decide) (by decide) (by decide), s 0 0 (by decide) (by decide) (by decide) (by decide)]; exact a2, by rw [s 3 0 (by decide) (by decide) (by decide) (by decide)]; exact a3, by rw [s 4 0 (by decide) (by decide) (by decide) (by decide)]; exact a4, by rw [s 5 0 (by decide) (by decide) (by decide) (by decide)]; exact a5, by rw [s 6 0 (by decide) (by decide) (by decide) (by decide)]; exact a6, by rw [s 7 0 (by decide) (by decide) (by decide) (by decide)]; exact a7⟩, fun i hi => ?_, fun i hi => ?_, fun i hi => ?_, fun i hi => ?_, fun i hi => ?_, fun i hi => ?_, fun i hi => ?_, fun i hi => ?_⟩, fun z => ?_, fun z => ?_⟩
      · rw [e10]
        split
        · omega
        · exact b1 i (by omega)
      · rw [e11, s 0 0 (by decide) (by decide) (by decide) (by decide)]
        split
        · omega
        · exact b2 i (by omega)
      · rw [s 3 0 (by decide) (by decide) (by decide) (by decide)] at hi; rw [s 12 i (by decide) (by decide) (by decide) (by decide), e21]; have := b3 i hi; omega
      · rw [s 3 0 (by decide) (by decide) (by decide) (by decide)] at hi; rw [s 13 i (by decide) (by decide) (by decide) (by decide)]; exact b4 i hi
      · rw [s 4 0 (by decide) (by decide) (by decide) (by decide)] at hi; rw [s 14 i (by decide) (by decide) (by decide) (by decide)]; exact b5 i hi
      · rw [s 16 i (by decide) (by decide) (by decide) (by decide), s 17 i (by decide) (by decide) (by decide) (by decide), s 7 0 (by decide) (by decide) (by decide) (by decide), s' 15 (by decide) (by decide) (by decide) (by decide), s' 18 (by decide) (by decide) (by decide) (by decide), s' 19 (by decide) (by decide) (by decide) (by decide), s' 20 (by decide) (by decide) (by decide) (by decide)]; exact b6 i hi
      · rw [s 0 0 (by decide) (by decide) (by decide) (by decide)] at hi; rw [s 8 i (by decide) (by decide) (by decide) (by decide)]; exact b7 i hi
      · rw [e9]
        split
        · exact hV
        · exact b8 i (by omega)
      · rw [s 21 0 (by decide) (by decide) (by decide) (by decide)] at z; rw [s 5 0 (by decide) (by decide) (by decide) (by decide)]; exact c1 z
      · rw [s 22 0 (by decide) (by decide) (by decide) (by decide)] at z; rw [s 6 0 (by decide) (by decide) (by decide) (by decide)]; exact c2 z
    have eT : ∀ m s p, pTies B n D2 m s p = pTies B n D m s p := by
      intro m
      induction m with
      | zero => intro s p; rfl
      | succ m ih =>
        intro s p
        have ef : ∀ v, fdl D2 v = fdl D v := fun v => fdl_cg (by rw [eD2]; unfold wPull; rw [hu_n (by omega), hu_n (by omega), hu_n (by omega), hu_n (by omega)]) (funext (fun i => by rw [eD2]; unfold wPull; rw [hu_n (by omega), hu_n (by omega), hu_n (by omega), hu_n (by omega)]))
        have e00 : D2 0 0 = D 0 0 := by rw [eD2]; unfold wPull; rw [hu_n (by omega), hu_n (by omega), hu_n (by omega), hu_n (by omega)]
        show (if ¬ tK B n p = 3 then .inr (s, p) else if ¬ fdl D2 (tV B n p) < D2 0 0 then .inl (4, tS B n p) else if s.testBit (fdl D2 (tV B n p)) = true then .inl (3, tS B n p) else pTies B n D2 m (s ||| 2 ^ fdl D2 (tV B n p)) (tE B n p)) = (if ¬ tK B n p = 3 then .inr (s, p) else if ¬ fdl D (tV B n p) < D 0 0 then .inl (4, tS B n p) else if s.testBit (fdl D (tV B n p)) = true then .inl (3, tS B n p) else pTies B n D m (s ||| 2 ^ fdl D (tV B n p)) (tE B n p))
        rw [ef, e00, ih]
    have eh : ∀ s, hu D2 11 (D 1 0) s = wPull D (tV B n p) (tV B n (tE B n p)) s := fun s => by rw [eD2, wPull_t]
    have C0 : CR σ13 (18 - t) (hu D2 11 (D 1 0) 0) := by rw [eh, ← eD2]; exact sC
    rw [eq2] at s5
    have L := lp_54 (P := D 1 0) S13 (h.fl ha F) W2 (by omega) (n + 1) (tE B n (tE B n p)) 0 0 σ13 (by omega) d4 (Nat.two_pow_pos _) (Nat.zero_le _) (Fr.rf σ13) C0 s5 (.retAddr 0) (.retAddr 0)
    rw [eT] at L
    have l1 : mI σ13 (18 - t) 1 - 1 = nI (D 1 0) := by
      rw [sC.1 1 (by omega), e21, show (1 : Int32) = nI 1 from rfl, pk_sub (by omega)]; rfl
    have to : ∀ w', Ev 54 18 [.ref 1, .int (nI (D 1 0)), .int (nI 0), .retAddr 0, .retAddr 0] [] σ13 w' → Cl 54 [.ref 1, .int (mI σ13 (18 - t) 1 - 1)] σ13 w' := by
      intro w' hw
      rw [l1]
      refine ck_54 S13 (b_54_0 S13 ⟨fun z => absurd z (nI_pos (by omega)), fun _ => pk_lt (D 1 0) 10 (fun _ => hw) (fun z => absurd z (by omega)) rfl rfl (by omega) (by decide)⟩)
    cases hT : pTies B n D (n + 1) 0 (tE B n (tE B n p)) with
    | inl e =>
      rw [hT] at e0
      have e0 : pPull B n D s0 p = .inl e := e0
      obtain ⟨σ', d', F', c⟩ := L.1 e hT
      refine OkL.no e0 ⟨σ', Or.inr ⟨σ13, d, S13, to _ d'⟩, (F.mono (fun _ _ h => Or.inr h)).tr (F'.mono (fun x i h => ?_)), c⟩
      unfold Wti Wkk Wrf at h
      unfold Wl1
      omega
    | inr r1 =>
      obtain ⟨s, q⟩ := r1
      rw [hT] at e0
      have e0 : pPull B n D s0 p = .inr (wPull D (tV B n p) (tV B n (tE B n p)) s, q) := e0
      obtain ⟨σ', d', F', s5', c⟩ := L.2 s q hT
      rw [eh] at c
      refine OkL.yes e0 ⟨σ', Or.inr ⟨σ13, d, S13, to _ d'⟩, F.tr (F'.mono (fun x i h => ?_)), s5', ?_, c⟩
      · unfold Wti Wkk at h
        unfold Wl1
        omega
      · rw [(F'.1 1 10 (fun z => by unfold Wti Wkk at z; omega)).1, s10, eD2]
        unfold wPull
        rw [hu_n (by omega), hu_n (by omega), hu_n (by omega), hu_n (by omega), hu_n (by omega), hu_n (by omega), hu_n (by omega), hu_n (by omega)]
theorem c_51 {p : Nat} (hS : Sg t σ) (h : RC σ B n) (hC : CR σ (18 - t) D) (hW : WDr D) (hp : p ≤ n) (hk : tK B n p ≠ 0) (h5 : mI σ 1 5 = nI (tE B n p)) (h6 : mI σ 1 6 = nI (tK B n p)) (h7 : mI σ 1 7 = nI (tS B n p)) (h10 : mI σ 1 10 = nI (D 7 0)) : OkL t σ (pLine B n D p) (fun v σ' => Cl 51 [.ref 1] σ (v, σ')) := by
  obtain ⟨d1, d2⟩ := tE_adv (B := B) hp hk
  have k43 := tK_lt B n p
  have ik : ∀ m, m < 256 → (nI (tK B n p) = nI m ↔ tK B n p = m) := fun m hm => nI_eq (by omega) (by omega)
  have eL : pLine B n D p = fin B n (pBody B n D (tK B n p) (tS B n p) (tE B n p)) := by
    unfold pLine fin
    rfl
  rw [eL]
  have hq : ∀ D' q, pBody B n D (tK B n p) (tS B n p) (tE B n p) = .inr (D', q) → q ≤ n := fun D' q he => (pBody_ok hW d2 he).2.2
  have sw : ∀ m, m < 256 → tK B n p = m → nI (tK B n p) = nI m := fun m hm e => (ik m hm).mpr e
  have nw' : ∀ m, m < 256 → tK B n p ≠ m → ¬ nI (tK B n p) = nI m := fun m hm e z => e ((ik m hm).mp z)
  by_cases c10 : tK B n p = 10
  · have eb : pBody B n D (tK B n p) (tS B n p) (tE B n p) = pLamp B n D (tS B n p) (tE B n p) := if_pos c10
    rw [eb] at hq ⊢
    refine (lineEnd hS h hq (c_52 hS h hC hW d2 h5 h7 h10)).imp (fun v σ' hw => ck_51 hS (b_51_0 hS ?_))
    rw [h6]
    exact ⟨fun _ => hw, fun z => absurd z (nw' 11 (by decide) (by omega)), fun z => absurd z (nw' 12 (by decide) (by omega)), fun z => absurd z (nw' 13 (by decide) (by omega)), fun z => absurd z (nw' 14 (by decide) (by omega)), fun z => absurd z (nw' 15 (by decide) (by omega)), fun z => absurd z (nw' 16 (by decide) (by omega)), fun z => absurd z (nw' 17 (by decide) (by omega)), fun z => absurd (sw 10 (by decide) c10) z.1⟩
  by_cases c11 : tK B n p = 11
  · have eb : pBody B n D (tK B n p) (tS B n p) (tE B n p) = pPull B n D (tS B n p) (tE B n p) := (if_neg c10).trans (if_pos c11)
    rw [eb] at hq ⊢
    refine (lineEnd hS h hq (r_pull hS h hC hW d2 h5 h7 h10)).imp (fun v σ' hw => ck_51 hS (b_51_0 hS ?_))
    rw [h6]
    refine ⟨fun z => absurd z (nw' 10 (by decide) c10), fun _ => ?_, fun z => absurd z (nw' 12 (by decide) (by omega)), fun z => absurd z (nw' 13 (by decide) (by omega)), fun z => absurd z (nw' 14 (by decide) (by omega)), fun z => absurd z (nw' 15 (by decide) (by omega)), fun z => absurd z (nw' 16 (by decide) (by omega)), fun z => absurd z (nw' 17 (by decide) (by omega)), fun z => absurd (sw 11 (by decide) c11) z.2.1⟩
    obtain ⟨u, σ7, hK, S7, w0, w1⟩ := hw
    rcases hK with ⟨eu, dd⟩ | ⟨σ13, dd, S13, d54⟩
    · injection eu with eu
      injection eu with eu
      subst eu
      refine ⟨_, _, dd, S7, fun _ => b_51_88 S7 ⟨fun _ => w0 rfl, fun z => absurd rfl z⟩, fun z => absurd rfl z⟩
    · refine ⟨_, _, dd, S13, fun z => absurd z (by decide), fun _ => ⟨_, _, d54, S7, fun z => b_51_88 S7 ⟨fun _ => w0 z, fun y => absurd rfl y⟩, fun z => b_51_88 S7 ⟨fun y => absurd y (by decide), fun _ => w1 z⟩⟩⟩
  by_cases c12 : tK B n p = 12
  · have eb : pBody B n D (tK B n p) (tS B n p) (tE B n p) = pLit B n D (tE B n p) := (if_neg c10).trans ((if_neg c11).trans (if_pos c12))
    rw [eb] at hq ⊢
    refine (lineEnd hS h hq (c_55 hS h hC hW d2 h5 h10)).imp (fun v σ' hw => ck_51 hS (b_51_0 hS ?_))
    rw [h6]
    exact ⟨fun z => absurd z (nw' 10 (by decide) c10), fun z => absurd z (nw' 11 (by decide) c11), fun _ => hw, fun z => absurd z (nw' 13 (by decide) (by omega)), fun z => absurd z (nw' 14 (by decide) (by omega)), fun z => absurd z (nw' 15 (by decide) (by omega)), fun z => absurd z (nw' 16 (by decide) (by omega)), fun z => absurd z (nw' 17 (by decide) (by omega)), fun z => absurd (sw 12 (by decide) c12) z.2.2.1⟩
  by_cases c13 : tK B n p = 13
  · have eb : pBody B n D (tK B n p) (tS B n p) (tE B n p) = pRing B n D (tS B n p) (tE B n p) := (if_neg c10).trans ((if_neg c11).trans ((if_neg c12).trans (if_pos c13)))
    rw [eb] at hq ⊢
    refine (lineEnd hS h hq (c_56 hS h hC hW d2 h5 h7 h10)).imp (fun v σ' hw => ck_51 hS (b_51_0 hS ?_))
    rw [h6]
    exact ⟨fun z => absurd z (nw' 10 (by decide) c10), fun z => absurd z (nw' 11 (by decide) c11), fun z => absurd z (nw' 12 (by decide) c12), fun _ => hw, fun z => absurd z (nw' 14 (by decide) (by omega)), fun z => absurd z (nw' 15 (by decide) (by omega)), fun z => absurd z (nw' 16 (by decide) (by omega)), fun z => absurd z (nw' 17 (by decide) (by omega)), fun z => absurd (sw 13 (by decide) c13) z.2.2.2.1⟩
  by_cases c14 : tK B n p = 14
  · have eb : pBody B n D (tK B n p) (tS B n p) (tE B n p) = pMend B n D (tS B n p) (tE B n p) := (if_neg c10).trans ((if_neg c11).trans ((if_neg c12).trans ((if_neg c13).trans (if_pos c14))))
    rw [eb] at hq ⊢
    refine (lineEnd hS h hq (c_57 hS h hC hW d2 h5 h7 h10)).imp (fun v σ' hw => ck_51 hS (b_51_0 hS ?_))
    rw [h6]
    exact ⟨fun z => absurd z (nw' 10 (by decide) c10), fun z => absurd z (nw' 11 (by decide) c11), fun z => absurd z (nw' 12 (by decide) c12), fun z => absurd z (nw' 13 (by decide) c13), fun _ => hw, fun z => absurd z (nw' 15 (by decide) (by omega)), fun z => absurd z (nw' 16 (by decide) (by omega)), fun z => absurd z (nw' 17 (by decide) (by omega)), fun z => absurd (sw 14 (by decide) c14) z.2.2.2.2.1⟩
  by_cases c15 : tK B n p = 15
  · have eb : pBody B n D (tK B n p) (tS B n p) (tE B n p) = pOnce B n D 5 100 (tS B n p) (tE B n p) := (if_neg c10).trans ((if_neg c11).trans ((if_neg c12).trans ((if_neg c13).trans ((if_neg c14).trans (if_pos c15)))))
    rw [eb] at hq ⊢
    refine (lineEnd hS h hq (c_58 hS h hC hW d2 h5 h7 h10)).imp (fun v σ' hw => ck_51 hS (b_51_0 hS ?_))
    rw [h6]
    exact ⟨fun z => absurd z (nw' 10 (by decide) c10), fun z => absurd z (nw' 11 (by decide) c11), fun z => absurd z (nw' 12 (by decide) c12), fun z => absurd z (nw' 13 (by decide) c13), fun z => absurd z (nw' 14 (by decide) c14), fun _ => hw, fun z => absurd z (nw' 16 (by decide) (by omega)), fun z => absurd z (nw' 17 (by decide) (by omega)), fun z => absurd (sw 15 (by decide) c15) z.2.2.2.2.2.1⟩
  by_cases c16 : tK B n p = 16
  · have eb : pBody B n D (tK B n p) (tS B n p) (tE B n p) = pOnce B n D 6 99999 (tS B n p) (tE B n p) := (if_neg c10).trans ((if_neg c11).trans ((if_neg c12).trans ((if_neg c13).trans ((if_neg c14).trans ((if_neg c15).trans (if_pos c16))))))
    rw [eb] at hq ⊢
    refine (lineEnd hS h hq (c_59 hS h hC hW d2 h5 h7 h10)).imp (fun v σ' hw => ck_51 hS (b_51_0 hS ?_))
    rw [h6]
    exact ⟨fun z => absurd z (nw' 10 (by decide) c10), fun z => absurd z (nw' 11 (by decide) c11), fun z => absurd z (nw' 12 (by decide) c12), fun z => absurd z (nw' 13 (by decide) c13), fun z => absurd z (nw' 14 (by decide) c14), fun z => absurd z (nw' 15 (by decide) c15), fun _ => hw, fun z => absurd z (nw' 17 (by decide) (by omega)), fun z => absurd (sw 16 (by decide) c16) z.2.2.2.2.2.2.1⟩
  by_cases c17 : tK B n p = 17
  · have eb : pBody B n D (tK B n p) (tS B n p) (tE B n p) = pLaw B n D (tE B n p) := (if_neg c10).trans ((if_neg c11).trans ((if_neg c12).trans ((if_neg c13).trans ((if_neg c14).trans ((if_neg c15).trans ((if_neg c16).trans (if_pos c17)))))))
    rw [eb] at hq ⊢
    refine (lineEnd hS h hq (c_60 hS h hC hW d2 h5 h10)).imp (fun v σ' hw => ck_51 hS (b_51_0 hS ?_))
    rw [h6]
    exact ⟨fun z => absurd z (nw' 10 (by decide) c10), fun z => absurd z (nw' 11 (by decide) c11), fun z => absurd z (nw' 12 (by decide) c12), fun z => absurd z (nw' 13 (by decide) c13), fun z => absurd z (nw' 14 (by decide) c14), fun z => absurd z (nw' 15 (by decide) c15), fun z => absurd z (nw' 16 (by decide) c16), fun _ => hw, fun z => absurd (sw 17 (by decide) c17) z.2.2.2.2.2.2.2⟩
  · have eb : pBody B n D (tK B n p) (tS B n p) (tE B n p) = .inl (1, tS B n p) := (if_neg c10).trans ((if_neg c11).trans ((if_neg c12).trans ((if_neg c13).trans ((if_neg c14).trans ((if_neg c15).trans ((if_neg c16).trans (if_neg c17)))))))
    rw [eb]
    obtain ⟨σ', d, F, r⟩ := c_40 (e := 1) hS h7
    refine OkL.no rfl ⟨σ', ck_51 hS (b_51_0 hS ?_), F.mono (fun _ _ h => wl_f h), r⟩
    rw [h6]
    exact ⟨fun z => absurd z (nw' 10 (by decide) c10), fun z => absurd z (nw' 11 (by decide) c11), fun z => absurd z (nw' 12 (by decide) c12), fun z => absurd z (nw' 13 (by decide) c13), fun z => absurd z (nw' 14 (by decide) c14), fun z => absurd z (nw' 15 (by decide) c15), fun z => absurd z (nw' 16 (by decide) c16), fun z => absurd z (nw' 17 (by decide) c17), fun _ => ⟨_, _, d, F.sg hS, fun _ => rfl, fun z => absurd rfl z⟩⟩
end LinC4
