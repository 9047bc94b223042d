/-! ===== text, first side ===== -/
theorem le4 {k q : Nat} (h : k ≤ 4) : ((k, q) : Nat × Nat).1 ≤ 4 := h
section Flt4
variable {B : Nat → Nat} {n : Nat} {D : Nat → Nat → Nat}
theorem pX_4 {f : Nat} : ∀ {m : Nat} {x : Xs} {e : Nat × Nat}, n < x.1 + m → XI f n x → pX B n m x = .inl e → e.1 ≤ 4 := by
  intro m
  induction m with
  | zero => intro x e h hx; exact absurd hx.2.2.2.2.2.2.2 (by omega)
  | succ m ih =>
    intro x e hm hx h
    have h : (if x.2.2.2.2.2.2.1 = false ∧ x.2.2.2.2.2.1 = 0 ∧ tK B n x.1 = 40 then .inr (xfi x, x.1) else match xst B n x with
      | .inl e => .inl e
      | .inr y => pX B n m y) = (.inl e : Rz) := h
    split at h
    · cases h
    · cases ex : xst B n x with
      | inl z =>
        rw [ex] at h
        injection h with h
        subst h
        unfold xst at ex
        split at ex
        · unfold leaf at ex
          repeat' split at ex
          all_goals first | (cases ex; done) | (injection ex with ex; rw [← ex]; exact le4 (by decide))
        · unfold sgn at ex
          repeat' split at ex
          all_goals first | (cases ex; done) | (injection ex with ex; rw [← ex]; exact le4 (by decide))
      | inr y =>
        rw [ex] at h
        obtain ⟨b1, b2, b3⟩ := hx.st ex
        exact ih (by omega) b1 h
theorem pTies_4 : ∀ {m s p : Nat} {e : Nat × Nat}, n < p + m → p ≤ n → pTies B n D m s p = .inl e → e.1 ≤ 4 := by
  intro m
  induction m with
  | zero => intro s p e h1 h2; omega
  | succ m ih =>
    intro s p e hm hp h
    have h : (if ¬ tK B n p = 3 then .inr (s, p) else if ¬ fdl D (tV B n p) < D 0 0 then .inl (4, tS B n p) else if s.testBit (fdl D (tV B n p)) = true then .inl (3, tS B n p) else pTies B n D m (s ||| 2 ^ fdl D (tV B n p)) (tE B n p)) = (.inl e : (Nat × Nat) ⊕ (Nat × Nat)) := h
    split at h
    · cases h
    rename_i g1
    split at h
    · injection h with h; rw [← h]; exact le4 (by decide)
    split at h
    · injection h with h; rw [← h]; exact le4 (by decide)
    obtain ⟨d1, d2⟩ := tE_adv (B := B) hp (by omega)
    exact ih (by omega) d2 h
theorem pLine_4 {p : Nat} {e : Nat × Nat} (hW : WDr D) (hp : p ≤ n) (hk : tK B n p ≠ 0) (h : pLine B n D p = .inl e) : e.1 ≤ 4 := by
  obtain ⟨d1, d2⟩ := tE_adv (B := B) hp hk
  unfold pLine at h
  split at h
  · rename_i e' hb
    injection h with h
    subst h
    unfold pBody at hb
    split at hb
    · unfold pLamp at hb
      repeat' split at hb
      all_goals first | (cases hb; done) | (injection hb with hb; rw [← hb]; exact le4 (by decide))
    split at hb
    · unfold pPull at hb
      split at hb
      · injection hb with hb; rw [← hb]; exact le4 (by decide)
      split at hb
      · injection hb with hb; rw [← hb]; exact le4 (by decide)
      rename_i g1
      split at hb
      · injection hb with hb; rw [← hb]; exact le4 (by decide)
      split at hb
      · injection hb with hb; rw [← hb]; exact le4 (by decide)
      rename_i g2
      split at hb
      · injection hb with hb; rw [← hb]; exact le4 (by decide)
      obtain ⟨d3, d4⟩ := tE_adv (B := B) d2 (by omega)
      obtain ⟨d5, d6⟩ := tE_adv (B := B) d4 (by omega)
      split at hb
      · rename_i e2 ht
        injection hb with hb
        subst hb
        exact pTies_4 (by omega) d6 ht
      · cases hb
    split at hb
    · unfold pLit at hb
      repeat' split at hb
      all_goals first | (cases hb; done) | (injection hb with hb; rw [← hb]; exact le4 (by decide))
    split at hb
    · unfold pRing at hb
      repeat' split at hb
      all_goals first | (cases hb; done) | (injection hb with hb; rw [← hb]; exact le4 (by decide))
    split at hb
    · unfold pMend at hb
      repeat' split at hb
      all_goals first | (cases hb; done) | (injection hb with hb; rw [← hb]; exact le4 (by decide))
    split at hb
    · unfold pOnce at hb
      repeat' split at hb
      all_goals first | (cases hb; done) | (injection hb with hb; rw [← hb]; exact le4 (by decide))
    split at hb
    · unfold pOnce at hb
      repeat' split at hb
      all_goals first | (cases hb; done) | (injection hb with hb; rw [← hb]; exact le4 (by decide))
    split at hb
    · unfold pLaw at hb
      split at hb
      · injection hb with hb; rw [← hb]; exact le4 (by decide)
      rename_i g1
      split at hb
      · injection hb with hb; rw [← hb]; exact le4 (by decide)
      obtain ⟨d3, d4⟩ := tE_adv (B := B) d2 (by omega)
      split at hb
      · rename_i e2 ht
        injection hb with hb
        subst hb
        exact pX_4 (by dsimp only; omega) (XI.s0 d4 hW.1.1.2.2.2.2.2.2.2) ht
      · cases hb
    · injection hb with hb; rw [← hb]; exact le4 (by decide)
  · split at h
    · cases h
    · injection h with h; rw [← h]; exact le4 (by decide)
end Flt4
def D0 : Nat → Nat → Nat := fun _ _ => 0
/-- how it is at first -/
def hbg (D : Nat → Nat → Nat) : Nat → Nat → Nat := fun f i => if f = 1 ∧ i = 0 then D 2 0 else if f = 6 ∧ i = 0 then D 6 0 else if f = 8 ∧ i < D 1 0 then D 11 i else 0
theorem wd0 : WDr D0 := by
  refine ⟨⟨⟨by decide, by decide, by decide, by decide, by decide, by decide, by decide, by decide⟩, fun i hi => absurd hi (Nat.not_lt_zero i), fun i hi => absurd hi (Nat.not_lt_zero i), fun i hi => absurd hi (Nat.not_lt_zero i), fun i hi => absurd hi (Nat.not_lt_zero i), fun i hi => absurd hi (Nat.not_lt_zero i), fun q _ => ⟨Nat.zero_le _, Nat.zero_le _, fun z => absurd z (Nat.lt_irrefl _)⟩, fun i hi => absurd hi (Nat.not_lt_zero i), fun i hi => absurd hi (Nat.not_lt_zero i)⟩, fun _ => rfl, fun _ => rfl⟩
theorem wh_bg {D : Nat → Nat → Nat} (h : WDr D) : WH (D 1 0) (hbg D) ∧ hbg D 0 0 ≤ 9000 := by
  obtain ⟨⟨⟨a0, a1, a2, a3, a4, a5, a6, a7⟩, b1, b2, b3, b4, b5, b6, b7, b8⟩, c1, c2⟩ := h
  have p14 : 2 ^ D 0 0 ≤ 2 ^ 14 := Nat.pow_le_pow_right (by decide) a0
  have z : ∀ f i, f ≠ 1 → f ≠ 6 → f ≠ 8 → hbg D f i = 0 := fun f i h1 h2 h3 => by
    unfold hbg
    rw [if_neg (by omega), if_neg (by omega), if_neg (by omega)]
  have e1 : hbg D 1 0 = D 2 0 := if_pos ⟨rfl, rfl⟩
  have e6 : hbg D 6 0 = D 6 0 := by unfold hbg; rw [if_neg (by omega), if_pos ⟨rfl, rfl⟩]
  refine ⟨⟨by rw [z 0 0 (by decide) (by decide) (by decide)]; decide, by rw [e1]; omega, by rw [z 2 0 (by decide) (by decide) (by decide)]; decide, by rw [z 3 0 (by decide) (by decide) (by decide)]; decide, by rw [z 4 0 (by decide) (by decide) (by decide)]; decide, by rw [e6]; omega, fun i => by rw [z 7 i (by decide) (by decide) (by decide)]; decide, fun i => ?_, fun i => by rw [z 9 i (by decide) (by decide) (by decide)]; decide, fun i hi => ?_⟩, by rw [z 0 0 (by decide) (by decide) (by decide)]; decide⟩
  · unfold hbg
    rw [if_neg (by omega), if_neg (by omega)]
    split
    · rename_i g; have := b2 i g.2; omega
    · decide
  · unfold hbg
    rw [if_neg (by omega), if_neg (by omega), if_neg (by omega)]
section TxC
variable {t n a : Nat} {σ σ' : Mm} {D : Nat → Nat → Nat} {B : Nat → Nat}
theorem CR.ct (h : CR σ a D) (hW : WDr D) : CT σ a D := by
  obtain ⟨h1, h2, h3, h4⟩ := h
  have h5 := h2 5 (Or.inl rfl)
  have h6 := h2 6 (Or.inr rfl)
  refine ⟨⟨h1 0 (by omega), h1 1 (by omega), h1 2 (by omega), h1 3 (by omega), h1 4 (by omega)⟩, ?_, ?_, h1 7 (by omega), fun i hi => h3 8 i (by omega) (by omega) hi, fun i hi => h3 9 i (by omega) (by omega) hi, fun i hi => h3 10 i (by omega) (by omega) hi, fun i hi => h3 11 i (by omega) (by omega) hi, fun i hi => h3 12 i (by omega) (by omega) hi, fun i hi => h3 13 i (by omega) (by omega) hi, fun i hi => h3 14 i (by omega) (by omega) hi, fun i hi => h3 15 i (by omega) (by omega) hi, fun i hi => h4 16 i (Or.inl rfl) hi, fun i hi => h4 17 i (Or.inr rfl) hi⟩
  · by_cases e : D 21 0 = 0
    · exact Or.inl ⟨h5.trans (if_pos e), hW.2.1 e⟩
    · exact Or.inr (h5.trans (if_neg e))
  · by_cases e : D 22 0 = 0
    · exact Or.inl ⟨h6.trans (if_pos e), hW.2.2 e⟩
    · exact Or.inr (h6.trans (if_neg e))
theorem c_88 (hS : Sg t σ) (ha : a = 3 ∨ a = 15) : ∃ σ', Cl 88 [.ref a] σ (none, σ') ∧ Fr (fun x i => a ≤ x ∧ x ≤ a + 10) σ σ' ∧ CR σ' a D0 := by
  generalize eτ : uI (uI (uI (uI (uI (uI (uI (uI σ a 0 0) a 1 0) a 2 0) a 3 0) a 4 0) a 5 (-1)) a 6 (-1)) a 7 0 = τ
  have F : Fr (fun x i => a ≤ x ∧ x ≤ a + 10) σ τ := by
    rw [← eτ]
    exact ((((((((Fr.rf σ).uI ⟨Nat.le_refl _, by omega⟩).uI ⟨Nat.le_refl _, by omega⟩).uI ⟨Nat.le_refl _, by omega⟩).uI ⟨Nat.le_refl _, by omega⟩).uI ⟨Nat.le_refl _, by omega⟩).uI ⟨Nat.le_refl _, by omega⟩).uI ⟨Nat.le_refl _, by omega⟩).uI ⟨Nat.le_refl _, by omega⟩
  have s1 : ∀ g, (g ≤ 4 ∨ g = 7) → mI τ a g = nI (D0 g 0) := by
    intro g hg
    rw [← eτ]
    rcases (show g = 0 ∨ g = 1 ∨ g = 2 ∨ g = 3 ∨ g = 4 ∨ g = 7 by omega) with rfl | rfl | rfl | rfl | rfl | rfl <;> simp [mI_uI, D0] <;> rfl
  have s2 : ∀ g, (g = 5 ∨ g = 6) → mI τ a g = -1 := by
    intro g hg
    rw [← eτ]
    rcases hg with rfl | rfl <;> simp [mI_uI]
  have loop : ∃ σ', Ev 88 42 [.ref a, .int (nI 0)] [] τ (none, σ') ∧ Fr (fun x i => a ≤ x ∧ x ≤ a + 10) σ σ' ∧ CR σ' a D0 := by
    refine lp (fun k υ => Fr (fun x i => x = a + 9 ∨ x = a + 10) τ υ ∧ ∀ i, i < k → mI υ (a + 9) i = 0 ∧ mI υ (a + 10) i = 0) (fun k υ => ∃ σ', Ev 88 42 [.ref a, .int (nI k)] [] υ (none, σ') ∧ Fr (fun x i => a ≤ x ∧ x ≤ a + 10) σ σ' ∧ CR σ' a D0) 3 ?_ ?_ (Nat.zero_le _) ⟨Fr.rf τ, fun i hi => absurd hi (Nat.not_lt_zero i)⟩
    · intro k υ hk ⟨Fu, hu'⟩ ih
      have Su := Fu.sg (F.sg hS)
      obtain ⟨σ', d, r⟩ := ih (uI (uI υ (a + 9) k 0) (a + 10) k 0) ⟨(Fu.uI (Or.inl rfl)).uI (Or.inr rfl), fun i hi => by
        by_cases e : i = k
        · rw [e]; exact ⟨by rw [mI_n (by omega), mI_s], mI_s⟩
        · rw [mI_n (by omega), mI_n (by omega), mI_n (by omega), mI_n (by omega)]; exact hu' i (by omega)⟩
      refine ⟨σ', b_88_42 Su ha ?_, r⟩
      rw [nI_clamp (by omega), nI_1]
      exact pk_lt k 3 (fun _ => ⟨inb_nI hk (by decide), inb_nI hk (by decide), fun σ1 q1 => by rw [q1]; exact d⟩) (fun z => absurd z (by omega))
    · intro υ ⟨Fu, hu'⟩
      have Su := Fu.sg (F.sg hS)
      have rr : ∀ g, mI υ a g = mI τ a g := fun g => (Fu.1 a g (fun z => by omega)).1
      refine ⟨υ, b_88_42 Su ha (pk_lt 3 3 (fun z => absurd z (by decide)) (fun _ => rfl)), F.tr (Fu.mono (fun x i h => by omega)), fun g hg => (rr g).trans (s1 g hg), fun g hg => ?_, fun f i _ _ hi => absurd hi (Nat.not_lt_zero i), fun f i hf hi => ?_⟩
      · rw [rr g, s2 g hg]
        exact (if_pos rfl).symm
      · rcases hf with rfl | rfl
        · exact (hu' i hi).1
        · exact (hu' i hi).2
  obtain ⟨σ', d, r⟩ := loop
  refine ⟨σ', ck_88 hS ha (b_88_0 hS ha (fun σ1 q1 σ4 q4 => ?_)), r⟩
  rw [q4, q1, eτ]
  exact d
/-- the lines, one behind the other -/
theorem lp_102 (hS : Sg t σ) (h : RC σ B n) (h0 : mI σ 1 0 = 0) : ∀ m p D l τ, n < p + m → p ≤ n → l ≤ p → WDr D → Fr (Wl1 (18 - t)) σ τ → CR τ (18 - t) D → mI τ 1 5 = nI p → mI τ 1 10 = nI (D 7 0) → (∀ e, pText B n m D p l = .inl e → ∃ σ', Ev 102 28 [.ref 0, .int (nI n), .int (nI l)] [] τ (some (.int (-1)), σ') ∧ Fr (Wl0 (18 - t)) σ σ' ∧ CF e σ') ∧ (∀ D' l', pText B n m D p l = .inr (D', l') → ∃ σ', Fr (Wl1 (18 - t)) σ σ' ∧ CR σ' (18 - t) D' ∧ WDr D' ∧ l' ≤ n ∧ ∀ w, Ev 102 71 [.ref 0, .int (nI n), .int (nI l')] [] σ' w → Ev 102 28 [.ref 0, .int (nI n), .int (nI l)] [] τ w) := by
  have ha := hS.ti
  have hn := h.1
  intro m
  induction m with
  | zero => intro p D l τ h1 h2; omega
  | succ m ih =>
    intro p D l τ hm hp hl hW F hC t5 t10
    have St := F.sg hS
    have Rt := h.fl ha F
    obtain ⟨σ1, d1, F1, a5, a6, a7, a8⟩ := c_44 St Rt hp t5
    have FF1 : Fr (Wl1 (18 - t)) σ σ1 := F.tr (F1.mono (fun _ _ h => wl_k h))
    have S1 := FF1.sg hS
    have C1 := hC.fkk ha F1
    have k43 := tK_lt B n p
    have i0 : (nI (tK B n p) = 0) ↔ tK B n p = 0 := nI_eq (b := 0) (by omega) (by decide)
    have f0 : ∀ υ, Fr (Wl1 (18 - t)) σ υ → mI υ 1 0 = 0 := fun υ Fu => ((Fu.1 1 0 (fun z => by unfold Wl1 at z; omega)).1).trans h0
    have eT : pText B n (m + 1) D p l = if tK B n p = 0 then .inr (D, l) else match pLine B n D p with
      | .inl e => .inl e
      | .inr (D', q) => pText B n m D' q (l + 1) := rfl
    have nlt : ¬ nI n < nI l := nI_nlt (by omega) (by omega)
    have r10 : mI σ1 1 10 = nI (D 7 0) := by rw [(F1.1 1 10 (fun z => by unfold Wkk at z; omega)).1]; exact t10
    by_cases g : tK B n p = 0
    · rw [if_pos g] at eT
      rw [eT]
      have c39 : Cl 39 [.ref 1] τ (some (.int 0), σ1) := ck_39 St (b_39_0 St ⟨σ1, d1, S1, by rw [a6, g]; exact ⟨fun _ => rfl, fun z => absurd rfl z⟩⟩)
      refine ⟨fun e he => (by cases he), fun D' l' he => ?_⟩
      injection he with he
      injection he with e1 e2
      subst e1 e2
      refine ⟨σ1, FF1, C1, hW, by omega, fun w hw => b_102_28 St ⟨fun z => absurd z nlt, fun _ => ⟨_, _, c39, S1, fun _ => ?_, fun z => absurd rfl z⟩⟩⟩
      rw [f0 σ1 FF1]
      exact ⟨fun _ => hw, fun z => absurd rfl z⟩
    · rw [if_neg g] at eT
      have c39 : Cl 39 [.ref 1] τ (some (.int 1), σ1) := ck_39 St (b_39_0 St ⟨σ1, d1, S1, by rw [a6]; exact ⟨fun z => absurd (i0.mp z) g, fun _ => rfl⟩⟩)
      have I := c_51 S1 (h.fl ha FF1) C1 hW hp g a5 a6 a7 r10
      have to : ∀ (v : Int32) (σ4 : Mm) w, Cl 51 [.ref 1] σ1 (some (.int v), σ4) → Sg t σ4 → ((v = 0 → (((mI σ4 1 0) = 0 → Ev 102 71 [.ref 0, .int (nI n), .int (nI l)] [] σ4 w) ∧ (¬ ((mI σ4 1 0) = 0) → (w = (some (.int (-1)), σ4))))) ∧ (¬ (v = 0) → Ev 102 28 [.ref 0, .int (nI n), .int (nI l + 1)] [] σ4 w)) → Ev 102 28 [.ref 0, .int (nI n), .int (nI l)] [] τ w := fun v σ4 w hc hs hw => b_102_28 St ⟨fun z => absurd z nlt, fun _ => ⟨_, _, c39, S1, fun z => absurd z (by decide), fun _ => ⟨_, _, hc, hs, hw⟩⟩⟩
      cases hL : pLine B n D p with
      | inl e =>
        rw [hL] at eT
        have eT : pText B n (m + 1) D p l = .inl e := eT
        rw [eT]
        refine ⟨fun e' he => ?_, fun D' l' he => (by cases he)⟩
        injection he with he
        subst he
        obtain ⟨σ4, d, Fd, c⟩ := I.1 e hL
        have ne := pLine_f hW hp g hL
        have FF : Fr (Wl0 (18 - t)) σ σ4 := (FF1.mono (fun _ _ h => Or.inr h)).tr Fd
        have hb : e.1 < 2 ^ 31 ∨ True := Or.inr trivial
        refine ⟨σ4, to 0 σ4 _ d (FF.sg hS) ⟨fun _ => ⟨fun z => ?_, fun _ => rfl⟩, fun z => absurd rfl z⟩, FF, c⟩
        rw [c.1] at z
        have e4 : e.1 ≤ 4 := pLine_4 hW hp g hL
        exact absurd ((nI_eq (b := 0) (by omega) (by decide)).mp z) ne
      | inr r0 =>
        obtain ⟨D1, q1⟩ := r0
        rw [hL] at eT
        have eT : pText B n (m + 1) D p l = pText B n m D1 q1 (l + 1) := eT
        obtain ⟨W1, l1, l2⟩ := pLine_ok hW hp g hL
        obtain ⟨σ4, d, Fd, s5, s10, sC⟩ := I.2 D1 q1 hL
        have FF : Fr (Wl1 (18 - t)) σ σ4 := FF1.tr Fd
        have J := ih q1 D1 (l + 1) σ4 (by omega) l2 (by omega) W1 FF sC s5 s10
        rw [eT]
        refine ⟨fun e he => ?_, fun D' l' he => ?_⟩
        · obtain ⟨σ', d', r⟩ := J.1 e he
          exact ⟨σ', to 1 σ4 _ d (FF.sg hS) ⟨fun z => absurd z (by decide), fun _ => by rw [nI_1]; exact d'⟩, r⟩
        · obtain ⟨σ', j1, j2, j3, j4, j5⟩ := J.2 D' l' he
          exact ⟨σ', j1, j2, j3, j4, fun w hw => to 1 σ4 _ d (FF.sg hS) ⟨fun z => absurd z (by decide), fun _ => by rw [nI_1]; exact j5 w hw⟩⟩
end TxC
