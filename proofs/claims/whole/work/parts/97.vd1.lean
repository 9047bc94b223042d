/-! ===== text ===== -/
theorem CT.frm {σ σ' : Mm} {a : Nat} {D : Nat → Nat → Nat} (h : CT σ a D) (r : ∀ x i, a ≤ x → x ≤ a + 10 → mI σ' x i = mI σ x i) : CT σ' a D := by
  unfold CT at h ⊢
  rw [r a 0 (by omega) (by omega), r a 1 (by omega) (by omega), r a 2 (by omega) (by omega), r a 3 (by omega) (by omega), r a 4 (by omega) (by omega), r a 5 (by omega) (by omega), r a 6 (by omega) (by omega), r a 7 (by omega) (by omega)]
  obtain ⟨b1, b2, b3, b4, c1, c2, c3, c4, c5, c6, c7, c8, c9, c10⟩ := h
  exact ⟨b1, b2, b3, b4, fun i hi => (r _ i (by omega) (by omega)).trans (c1 i hi), fun i hi => (r _ i (by omega) (by omega)).trans (c2 i hi), fun i hi => (r _ i (by omega) (by omega)).trans (c3 i hi), fun i hi => (r _ i (by omega) (by omega)).trans (c4 i hi), fun i hi => (r _ i (by omega) (by omega)).trans (c5 i hi), fun i hi => (r _ i (by omega) (by omega)).trans (c6 i hi), fun i hi => (r _ i (by omega) (by omega)).trans (c7 i hi), fun i hi => (r _ i (by omega) (by omega)).trans (c8 i hi), fun i hi => (r _ i (by omega) (by omega)).trans (c9 i hi), fun i hi => (r _ i (by omega) (by omega)).trans (c10 i hi)⟩
/-- only the first halves count -/
theorem MT.frm {σ σ' : Mm} {D : Nat → Nat → Nat} (h : MT σ D) (hW : WD D) (r : ∀ x i, ((x = 59 ∧ 12 ≤ i ∧ i ≤ 16) ∨ (x = 62 ∧ i = 0) ∨ (x = 64 ∧ i < 2) ∨ (x = 65 ∧ i < 14) ∨ (66 ≤ x ∧ x ≤ 68 ∧ i < 10) ∨ (69 ≤ x ∧ x ≤ 70 ∧ i < 14) ∨ (x = 71 ∧ i < 4) ∨ (72 ≤ x ∧ x ≤ 74 ∧ i < 3) ∨ (75 ≤ x ∧ x ≤ 77 ∧ i < 64)) → mI σ' x i = mI σ x i) : MT σ' D := by
  obtain ⟨w0, w1, w2, w3, w4, w5, w6, w7⟩ := hW.1
  unfold MT at h ⊢
  rw [r 59 12 (by omega), r 59 13 (by omega), r 62 0 (by omega), r 59 14 (by omega), r 59 15 (by omega), r 64 0 (by omega), r 64 1 (by omega), r 59 16 (by omega)]
  obtain ⟨b1, b2, b3, b4, c1, c2, c3, c4, c5, c6, c7, c8, c9, c10⟩ := h
  refine ⟨b1, b2, b3, b4, fun i hi => (r _ i (by omega)).trans (c1 i hi), fun i hi => (r _ i (by omega)).trans (c2 i hi), fun i hi => (r _ i (by omega)).trans (c3 i hi), fun i hi => (r _ i (by omega)).trans (c4 i hi), fun i hi => (r _ i (by omega)).trans (c5 i hi), fun i hi => (r _ i (by omega)).trans (c6 i hi), fun i hi => (r _ i (by omega)).trans (c7 i hi), fun i hi => ?_, fun i hi => (r _ i (by omega)).trans (c9 i hi), fun i hi h2 => ⟨(r _ i (by omega)).trans (c10 i hi h2).1, (r _ i (by omega)).trans (c10 i hi h2).2⟩⟩
  rw [r 75 i (by omega), r 76 i (by omega), r 77 i (by omega)]
  exact c8 i hi
section TxJ
variable {t n : Nat} {σ σ' : Mm} {D : Nat → Nat → Nat} {B : Nat → Nat}
theorem c_195 (hS : Sg t σ) (hW : WDr D) (h62 : mI σ 62 0 = nI (D 2 0)) (h64 : mI σ 64 1 = nI (D 6 0)) (h68 : ∀ i, i < D 1 0 → mI σ 68 i = nI (D 11 i)) : ∃ σ', Cl 195 [.ref 59] σ (none, σ') ∧ Fr (fun x i => (82 ≤ x ∧ x ≤ 90) ∨ (x = 59 ∧ (i = 58 ∨ (59 ≤ i ∧ i ≤ 63) ∨ i = 68 ∨ i = 69 ∨ i = 72 ∨ i = 74))) σ σ' ∧ MH σ' 0 (D 1 0) (hbg D) ∧ mL σ' 59 58 = lN (hbg D 6 0) ∧ mI σ' 59 68 = 0 ∧ mI σ' 59 69 = -1 ∧ mI σ' 59 72 = 0 ∧ mI σ' 59 74 = 0 := by
  have h6 := hW.1.1.2.2.2.2.2.2.1
  obtain ⟨σ1, d1, F1, M1⟩ := c_196 hS hW h62 h68
  have e64 : mI σ1 64 1 = nI (D 6 0) := by rw [(F1.1 64 1 (fun z => by omega)).1]; exact h64
  have eL : (nI (D 6 0)).toInt64 = lN (hbg D 6 0) := by
    have e6 : hbg D 6 0 = D 6 0 := by unfold hbg; rw [if_neg (by omega), if_pos ⟨rfl, rfl⟩]
    rw [e6, fa_eq64, Int32.toInt_toInt64, nI_toInt (by omega), lN_toInt (by omega)]
  have F2 : Fr (fun x i => (82 ≤ x ∧ x ≤ 90) ∨ (x = 59 ∧ (i = 58 ∨ (59 ≤ i ∧ i ≤ 63) ∨ i = 68 ∨ i = 69 ∨ i = 72 ∨ i = 74))) σ (uL σ1 59 58 (lN (hbg D 6 0))) := (F1.mono (fun x i h => Or.inl h)).uL (Or.inr ⟨rfl, Or.inl rfl⟩)
  obtain ⟨σ4, d4, F4, P4⟩ := c_197 (F2.sg hS)
  have FF4 := F2.tr (F4.mono (fun x i h => by unfold Wp at h; exact Or.inr ⟨h.1, by omega⟩))
  have MHL : MH (uL σ1 59 58 (lN (hbg D 6 0))) 0 (D 1 0) (hbg D) := M1
  have M4 : MH σ4 0 (D 1 0) (hbg D) := MHL.fr (by decide) hW.1.1.2.1 F4 (fun x i h z => by unfold Wp at z; omega)
  refine ⟨uI (uI (uI (uI σ4 59 68 0) 59 69 (-1)) 59 72 0) 59 74 0, ck_195 hS (b_195_0 hS ⟨σ1, d1, F1.sg hS, ?_⟩), (((FF4.uI (Or.inr ⟨rfl, by omega⟩)).uI (Or.inr ⟨rfl, by omega⟩)).uI (Or.inr ⟨rfl, by omega⟩)).uI (Or.inr ⟨rfl, by omega⟩), ?_, ?_, ?_, ?_, ?_, ?_⟩
  · rw [e64, eL]
    exact ⟨σ4, d4, FF4.sg hS, fun σ7 q7 => by rw [q7]⟩
  · exact M4.fr (W := fun x i => x = 59) (by decide) hW.1.1.2.1 (((((Fr.rf (P := fun x i => x = 59) σ4).uI rfl).uI rfl).uI rfl).uI rfl) (fun x i h z => by omega)
  · show mL σ4 59 58 = _
    rw [(F4.1 59 58 (fun z => by unfold Wp at z; omega)).2, mL_uL, if_pos ⟨rfl, rfl⟩]
  · rw [mI_n (by omega), mI_n (by omega), mI_n (by omega), mI_s]
  · rw [mI_n (by omega), mI_n (by omega), mI_s]
  · rw [mI_n (by omega), mI_s]
  · rw [mI_s]
theorem Cpy.rf {r : Nat} (h : r ≤ 64) : Cpy σ r σ := ⟨fun _ _ _ => rfl, rfl, fun _ _ _ _ _ => rfl, fun x i h1 h2 _ => by omega⟩
/-- what was read is told -/
theorem c_166 (hS : Sg t σ) (hR : MRd σ D) (hW : WDr D) : ∃ σ', Cl 166 [.ref 59] σ (none, σ') ∧ Sg t σ' ∧ MT σ' D ∧ MH σ' 0 (D 1 0) (hbg D) ∧ mL σ' 59 58 = lN (hbg D 6 0) ∧ (mI σ' 59 68 = 0 ∧ mI σ' 59 69 = -1 ∧ mI σ' 59 72 = 0 ∧ mI σ' 59 74 = 0) ∧ (∀ x i, (x ≤ 58 ∨ x = 60 ∨ x = 61 ∨ (x = 59 ∧ i ≤ 5)) → mI σ' x i = mI σ x i) ∧ σ'.2.2 = σ.2.2 := by
  obtain ⟨⟨a0, a1, a2, a3, a4⟩, ⟨b1, b2, b3, b4⟩, ⟨c1, c2⟩, dd, ee, gg⟩ := hR
  have hP := hW.1.1.2.1
  have hL := hW.1.1.1
  have h3 := hW.1.1.2.2.2.1
  have h4 := hW.1.1.2.2.2.2.1
  have h7 := hW.1.1.2.2.2.2.2.2.2
  generalize eη : uI (uI (uI (uI (uI (uI σ 59 12 (nI (D 0 0))) 59 13 (nI (D 1 0))) 59 14 (nI (D 3 0))) 59 15 (nI (D 4 0))) 59 16 (nI (D 7 0))) 62 0 (nI (D 2 0)) = η
  have Fη : Fr (fun x i => (x = 59 ∧ 12 ≤ i ∧ i ≤ 16) ∨ (x = 62 ∧ i = 0)) σ η := by
    rw [← eη]
    exact ((((((Fr.rf σ).uI (Or.inl ⟨rfl, by omega⟩)).uI (Or.inl ⟨rfl, by omega⟩)).uI (Or.inl ⟨rfl, by omega⟩)).uI (Or.inl ⟨rfl, by omega⟩)).uI (Or.inl ⟨rfl, by omega⟩)).uI (Or.inr ⟨rfl, rfl⟩)
  have Sη := Fη.sg hS
  have rη : ∀ x i, ¬ ((x = 59 ∧ 12 ≤ i ∧ i ≤ 16) ∨ (x = 62 ∧ i = 0)) → mI η x i = mI σ x i := fun x i h => (Fη.1 x i h).1
  have zη : mI η 59 12 = nI (D 0 0) ∧ mI η 59 13 = nI (D 1 0) ∧ mI η 59 14 = nI (D 3 0) ∧ mI η 59 15 = nI (D 4 0) ∧ mI η 59 16 = nI (D 7 0) ∧ mI η 62 0 = nI (D 2 0) := by
    rw [← eη]
    simp [mI_uI]
  obtain ⟨τ1, t1, S1, C1⟩ := (Cpy.rf (σ := η) (r := 64) (by decide)).st (n0 := 4) Sη (by decide) rfl (by decide) (by decide)
  obtain ⟨τ2, t2, S2, C2⟩ := C1.st (n0 := 28) Sη (by decide) rfl (by decide) (by decide)
  obtain ⟨τ3, t3, S3, C3⟩ := C2.st (n0 := 20) Sη (by decide) rfl (by decide) (by decide)
  obtain ⟨τ4, t4, S4, C4⟩ := C3.st (n0 := 20) Sη (by decide) rfl (by decide) (by decide)
  obtain ⟨τ5, t5, S5, C5⟩ := C4.st (n0 := 20) Sη (by decide) rfl (by decide) (by decide)
  obtain ⟨τ6, t6, S6, C6⟩ := C5.st (n0 := 28) Sη (by decide) rfl (by decide) (by decide)
  obtain ⟨τ7, t7, S7, C7⟩ := C6.st (n0 := 28) Sη (by decide) rfl (by decide) (by decide)
  obtain ⟨τ8, t8, S8, C8⟩ := C7.st (n0 := 8) Sη (by decide) rfl (by decide) (by decide)
  have e0 : ∀ w, Ev 166 124 [.ref 59, .int 0] [] τ8 w → Cl 166 [.ref 59] σ w := by
    intro w hw
    refine ck_166 hS (b_166_0 hS (fun σ1 q1 σ4 q4 σ7 q7 => ?_))
    rw [a0, mI_n (by omega), a1] at q1
    have u19 : mI σ1 59 19 = nI (D 3 0) := by rw [q1, mI_n (by omega), mI_n (by omega)]; exact a3
    have u20 : mI σ1 59 20 = nI (D 4 0) := by rw [q1, mI_n (by omega), mI_n (by omega)]; exact a4
    rw [u19, mI_n (by omega), u20] at q4
    have u21 : mI σ4 59 21 = nI (D 7 0) := by rw [q4, mI_n (by omega), mI_n (by omega), q1, mI_n (by omega), mI_n (by omega)]; exact c1
    have u62 : mI σ4 62 1 = nI (D 2 0) := by rw [q4, mI_n (by omega), mI_n (by omega), q1, mI_n (by omega), mI_n (by omega)]; exact a2
    rw [u21, mI_n (by omega), u62, q4, q1, eη] at q7
    rw [q7]
    exact ⟨τ1, t1, S1, τ2, t2, S2, τ3, t3, S3, τ4, t4, S4, b_166_87 S4 ⟨τ5, t5, S5, τ6, t6, S6, τ7, t7, S7, τ8, t8, S8, hw⟩⟩
  -- the laws that are told
  have bit : ∀ k, k < 3 → mI η 72 (3 + k) &&& 1 = mI η 72 (3 + k) := by
    intro k hk
    rw [rη 72 (3 + k) (by omega), (gg k hk).1]
    cases decide (D 16 k < D 17 k) <;> rfl
  have l72 : ∃ τ9, Cpy η 73 τ9 ∧ ∀ w, Ev 166 124 [.ref 59, .int (nI 3)] [] τ9 w → Ev 166 124 [.ref 59, .int (nI 0)] [] τ8 w := by
    have key : ∀ m k ξ, k + m = 3 → (∀ x i, ¬ (64 ≤ x ∧ x < 72) → ¬ (x = 72 ∧ i < k) → mI ξ x i = mI η x i) → ξ.2.2 = η.2.2 → (∀ x i, 64 ≤ x → x < 72 → ¬ i < hal x → mI ξ x i = mI η x i) → (∀ x i, 64 ≤ x → x < 72 → i < hal x → mI ξ x i = mI η x (hal x + i)) → (∀ i, i < k → mI ξ 72 i = mI η 72 (3 + i)) → ∃ τ9, Cpy η 73 τ9 ∧ ∀ w, Ev 166 124 [.ref 59, .int (nI 3)] [] τ9 w → Ev 166 124 [.ref 59, .int (nI k)] [] ξ w := by
      intro m
      induction m with
      | zero =>
        intro k ξ hk h1 h2 h3 h4 h5
        have hk : k = 3 := by omega
        subst hk
        refine ⟨ξ, ⟨fun x i hx => h1 x i (by omega) (by omega), h2, fun x i g1 g2 g3 => ?_, fun x i g1 g2 g3 => ?_⟩, fun w hw => hw⟩
        · by_cases e : x = 72
          · subst e
            exact h1 72 i (by omega) (fun z => g3 z.2)
          · exact h3 x i g1 (by omega) g3
        · by_cases e : x = 72
          · subst e
            exact h5 i g3
          · exact h4 x i g1 (by omega) g3
      | succ m ih =>
        intro k ξ hk h1 h2 h3 h4 h5
        have Sx : Sg t ξ := by
          have hs := Sη
          unfold Sg mKs mR at hs ⊢
          rw [h2]
          exact hs
        obtain ⟨τ9, c, g⟩ := ih (k + 1) (uI ξ 72 k (mI η 72 (3 + k))) (by omega) (fun x i g1 g2 => by rw [mI_n (by omega)]; exact h1 x i g1 (by omega)) h2 (fun x i g1 g2 g3 => by rw [mI_n (by omega)]; exact h3 x i g1 g2 g3) (fun x i g1 g2 g3 => by rw [mI_n (by omega)]; exact h4 x i g1 g2 g3) (fun i hi => by
          by_cases e : i = k
          · rw [e, mI_s]
          · rw [mI_n (by omega)]; exact h5 i (by omega))
        refine ⟨τ9, c, fun w hw => b_166_124 Sx ?_⟩
        have e3 : (3 : Int32) + nI k = nI (3 + k) := nI_add 3 k
        rw [e3, nI_clamp (by omega), nI_clamp (by omega), h1 72 (3 + k) (by omega) (by omega), bit k (by omega), nI_1]
        exact pk_lt k 3 (fun _ => ⟨inb_nI (by omega) (by decide), inb_nI (by omega) (by decide), fun σ19 q19 => by rw [q19]; exact g w hw⟩) (fun z => absurd z (by omega))
    exact key 3 0 τ8 rfl (fun x i g1 _ => C8.1 x i g1) C8.2.1 C8.2.2.1 C8.2.2.2 (fun i hi => absurd hi (Nat.not_lt_zero i))
  obtain ⟨τ9, C9, g9⟩ := l72
  obtain ⟨τ10, t10, S10, C10⟩ := C9.st (n0 := 6) Sη (by decide) rfl (by decide) (by decide)
  obtain ⟨τ11, t11, S11, C11⟩ := C10.st (n0 := 6) Sη (by decide) rfl (by decide) (by decide)
  obtain ⟨τ12, t12, S12, C12⟩ := C11.st (n0 := 128) Sη (by decide) rfl (by decide) (by decide)
  obtain ⟨τ13, t13, S13, C13⟩ := C12.st (n0 := 128) Sη (by decide) rfl (by decide) (by decide)
  obtain ⟨τ14, t14, S14, C14⟩ := C13.st (n0 := 128) Sη (by decide) rfl (by decide) (by decide)
  -- rows of the second half stand in the first
  have row : ∀ f i, 8 ≤ f → f ≤ 14 → i < D (cf f) 0 → mI τ14 (57 + f) i = nI (D f i) := by
    intro f i f1 f2 hi
    have hc : i < hal (57 + f) ∧ hal (57 + f) = mof f := by
      rcases (show f = 8 ∨ f = 9 ∨ f = 10 ∨ f = 11 ∨ f = 12 ∨ f = 13 ∨ f = 14 by omega) with rfl | rfl | rfl | rfl | rfl | rfl | rfl
      · exact ⟨by show i < 14; have hi : i < D 0 0 := hi; omega, rfl⟩
      · exact ⟨by show i < 10; have hi : i < D 1 0 := hi; omega, rfl⟩
      · exact ⟨by show i < 10; have hi : i < D 1 0 := hi; omega, rfl⟩
      · exact ⟨by show i < 10; have hi : i < D 1 0 := hi; omega, rfl⟩
      · exact ⟨by show i < 14; have hi : i < D 3 0 := hi; omega, rfl⟩
      · exact ⟨by show i < 14; have hi : i < D 3 0 := hi; omega, rfl⟩
      · exact ⟨by show i < 4; have hi : i < D 4 0 := hi; omega, rfl⟩
    rw [C14.2.2.2 (57 + f) i (by omega) (by omega) hc.1, rη _ _ (by omega), hc.2]
    exact dd f i f1 f2 hi
  have r64 : mI τ14 64 0 = nI (D 5 0) ∧ mI τ14 64 1 = nI (D 6 0) := by
    refine ⟨?_, ?_⟩
    · rw [C14.2.2.2 64 0 (by decide) (by decide) (by decide), rη _ _ (by omega)]; exact b1
    · rw [C14.2.2.2 64 1 (by decide) (by decide) (by decide), rη _ _ (by omega)]; exact b2
  have r62 : mI τ14 62 0 = nI (D 2 0) := by rw [C14.1 62 0 (by omega)]; exact zη.2.2.2.2.2
  obtain ⟨σ', d, F, MHh, mLh, n68, n69, n72, n74⟩ := c_195 S14 hW r62 r64.2 (fun i hi => row 11 i (by decide) (by decide) hi)
  have rr : ∀ x i, ¬ ((82 ≤ x ∧ x ≤ 90) ∨ (x = 59 ∧ (i = 58 ∨ (59 ≤ i ∧ i ≤ 63) ∨ i = 68 ∨ i = 69 ∨ i = 72 ∨ i = 74))) → mI σ' x i = mI τ14 x i := fun x i h => (F.1 x i h).1
  have c59 : ∀ i, i ≤ 21 → mI σ' 59 i = mI η 59 i := fun i hi => (rr 59 i (by omega)).trans (C14.1 59 i (by omega))
  refine ⟨σ', e0 _ (g9 _ (b_166_124 (C9.sg Sη) (pk_lt 3 3 (fun z => absurd z (by decide)) (fun _ => ⟨τ10, t10, S10, τ11, t11, S11, τ12, t12, S12, τ13, t13, S13, τ14, t14, S14, σ', d, F.sg S14, rfl⟩)))), F.sg S14, ⟨⟨?_, ?_, ?_, ?_, ?_⟩, ?_, ?_, ?_, fun i hi => ?_, fun i hi => ?_, fun i hi => ?_, fun i hi => ?_, fun i hi => ?_, fun i hi => ?_, fun i hi => ?_, fun i hi => ?_, fun i hi => ?_, fun i hi h2 => ?_⟩, MHh, mLh, ⟨n68, n69, n72, n74⟩, fun x i hx => ?_, F.2.trans (C14.2.1.trans Fη.2)⟩
  · rw [c59 12 (by omega)]; exact zη.1
  · rw [c59 13 (by omega)]; exact zη.2.1
  · rw [rr 62 0 (by omega)]; exact r62
  · rw [c59 14 (by omega)]; exact zη.2.2.1
  · rw [c59 15 (by omega)]; exact zη.2.2.2.1
  · rw [rr 64 0 (by omega)]; exact r64.1
  · rw [rr 64 1 (by omega)]; exact r64.2
  · rw [c59 16 (by omega)]; exact zη.2.2.2.2.1
  · rw [rr 65 i (by omega)]; exact row 8 i (by decide) (by decide) hi
  · rw [rr 66 i (by omega)]; exact row 9 i (by decide) (by decide) hi
  · rw [rr 67 i (by omega)]; exact row 10 i (by decide) (by decide) hi
  · rw [rr 68 i (by omega)]; exact row 11 i (by decide) (by decide) hi
  · rw [rr 69 i (by omega)]; exact row 12 i (by decide) (by decide) hi
  · rw [rr 70 i (by omega)]; exact row 13 i (by decide) (by decide) hi
  · rw [rr 71 i (by omega)]; exact row 14 i (by decide) (by decide) hi
  · have h64 : ∀ x, 75 ≤ x → x ≤ 77 → mI σ' x i = mI σ x (64 + i) := fun x g1 g2 => by
      have e : hal x = 64 := by unfold hal; rw [if_neg (by omega), if_neg (by omega), if_neg (by omega), if_neg (by omega), if_neg (by omega), if_neg (by omega)]
      rw [rr x i (by omega), C14.2.2.2 x i (by omega) (by omega) (by rw [e]; omega), e, rη _ _ (by omega)]
    rw [h64 75 (by decide) (by decide), h64 76 (by decide) (by decide), h64 77 (by decide) (by decide)]
    exact ee i hi
  · rw [rr 72 i (by omega), C14.2.2.2 72 i (by decide) (by decide) hi, rη _ _ (by omega)]
    exact (gg i hi).1
  · rw [rr 73 i (by omega), rr 74 i (by omega), C14.2.2.2 73 i (by decide) (by decide) hi, C14.2.2.2 74 i (by decide) (by decide) hi, rη _ _ (by omega), rη _ _ (by omega)]
    exact (gg i hi).2 h2
  · rw [rr x i (by omega), C14.1 x i (by omega), rη x i (by omega)]
theorem lp_178 (hS : Sg t σ) (h : RM σ B n) : ∀ m p D l τ, n < p + m → p ≤ n → l ≤ p → WDr D → Fr Wm1 σ τ → MC τ B n p → MRd τ D → (∀ e, pText B n m D p l = .inl e → ∃ σ', Ev 178 55 [.ref 59, .int (nI n), .int (nI l)] [] τ (some (.int (-1)), σ') ∧ Fr Wm0 σ σ' ∧ MF e σ') ∧ (∀ D' l', pText B n m D p l = .inr (D', l') → ∃ σ', Fr Wm1 σ σ' ∧ MRd σ' D' ∧ WDr D' ∧ ∀ σ2, Cl 166 [.ref 59] σ' (none, σ2) → Sg t σ2 → Ev 178 55 [.ref 59, .int (nI n), .int (nI l)] [] τ (some (.int (nI l')), σ2)) := by
  intro m
  induction m with
  | zero => intro p D l τ h1 h2; omega
  | succ m ih =>
    intro p D l τ hm hp hl hW F hM hR
    have St := F.sg hS
    have Rt := h.fm F
    have hT := hM.2.2
    have eT : pText B n (m + 1) D p l = if tK B n p = 0 then .inr (D, l) else match pLine B n D p with
      | .inl e => .inl e
      | .inr (D', q) => pText B n m D' q (l + 1) := rfl
    by_cases g : tK B n p = 0
    · rw [if_pos g] at eT
      rw [eT]
      refine ⟨fun e he => (by cases he), fun D' l' he => ?_⟩
      injection he with he
      injection he with e1 e2
      subst e1 e2
      exact ⟨τ, F, hR, hW, fun σ2 hc hs => b_178_55 St ⟨fun _ => ⟨σ2, hc, hs, rfl⟩, fun z => absurd (hT.n0.mpr g) z⟩⟩
    · rw [if_neg g] at eT
      have I := c_177 St Rt hM hp g hR hW
      have to : ∀ (v : Int32) (σ4 : Mm) w, Cl 177 [.ref 59] τ (some (.int v), σ4) → Sg t σ4 → ((v = 0 → (w = (some (.int (-1)), σ4))) ∧ (¬ (v = 0) → Ev 178 55 [.ref 59, .int (nI n), .int (nI l + 1)] [] σ4 w)) → Ev 178 55 [.ref 59, .int (nI n), .int (nI l)] [] τ w := fun v σ4 w hc hs hw => b_178_55 St ⟨fun z => absurd (hT.n0.mp z) g, fun _ => ⟨_, _, hc, hs, hw⟩⟩
      cases hL : pLine B n D p with
      | inl e =>
        rw [hL] at eT
        have eT : pText B n (m + 1) D p l = .inl e := eT
        rw [eT]
        refine ⟨fun e' he => ?_, fun D' l' he => (by cases he)⟩
        injection he with he
        subst he
        obtain ⟨σ4, d, Fd, c⟩ := I.1 e hL
        exact ⟨σ4, to 0 σ4 _ d (Fd.sg St) ⟨fun _ => rfl, fun z => absurd rfl z⟩, (F.mono (fun _ _ h => Or.inr h)).tr Fd, c⟩
      | inr r0 =>
        obtain ⟨D1, q1⟩ := r0
        rw [hL] at eT
        have eT : pText B n (m + 1) D p l = pText B n m D1 q1 (l + 1) := eT
        obtain ⟨W1, l1, l2⟩ := pLine_ok hW hp g hL
        obtain ⟨σ4, d, Fd, M4, R4⟩ := I.2 D1 q1 hL
        have FF : Fr Wm1 σ σ4 := F.tr Fd
        have J := ih q1 D1 (l + 1) σ4 (by omega) l2 (by omega) W1 FF M4 R4
        rw [eT]
        refine ⟨fun e he => ?_, fun D' l' he => ?_⟩
        · obtain ⟨σ', d', r⟩ := J.1 e he
          exact ⟨σ', to 1 σ4 _ d (FF.sg hS) ⟨fun z => absurd z (by decide), fun _ => by rw [nI_1]; exact d'⟩, r⟩
        · obtain ⟨σ', j1, j2, j3, j5⟩ := J.2 D' l' he
          exact ⟨σ', j1, j2, j3, fun σ2 hc hs => to 1 σ4 _ d (FF.sg hS) ⟨fun z => absurd z (by decide), fun _ => by rw [nI_1]; exact j5 σ2 hc hs⟩⟩
def Wtm (x i : Nat) : Prop := Wm0 x i ∨ (x = 59 ∧ (i = 1 ∨ i = 2 ∨ i = 6))
/-- text, second side -/
theorem t_mod {n0 : Nat} (hS : Sg t σ) (hn : n ≤ n0) (hn0 : n0 ≤ 700) (hf : mI σ 59 1 = nI n0) (hB : ∀ i, i < n → B i < 256 ∧ mI σ 60 i = nI (B i)) (hw : ∀ i, i < 101 → mI σ 61 i = nI (wdl.getD i 0)) : (∀ e, pText B n (n + 1) D0 0 0 = .inl e → ∃ σ2, Cl 178 [.ref 59, .int (nI n)] σ (some (.int (-1)), σ2) ∧ Fr Wtm σ σ2 ∧ MF e σ2 ∧ mI σ2 59 1 = 0) ∧ (∀ D' l, pText B n (n + 1) D0 0 0 = .inr (D', l) → ∃ σ2, Cl 178 [.ref 59, .int (nI n)] σ (some (.int (nI l)), σ2) ∧ Sg t σ2 ∧ WDr D' ∧ MT σ2 D' ∧ MH σ2 0 (D' 1 0) (hbg D') ∧ mL σ2 59 58 = lN (hbg D' 6 0) ∧ (mI σ2 59 68 = 0 ∧ mI σ2 59 69 = -1 ∧ mI σ2 59 72 = 0 ∧ mI σ2 59 74 = 0) ∧ (mI σ2 59 1 = 0 ∧ mI σ2 59 4 = 0 ∧ mI σ2 59 5 = -1) ∧ ∀ x i, (x ≤ 58 ∨ x = 60 ∨ x = 61) → mI σ2 x i = mI σ x i) := by
  generalize eβ : uI (uI (uI (uI (uI (uI σ 59 2 0) 59 6 (nI n)) 59 1 0) 59 4 0) 59 5 (-1)) 59 7 0 = β
  have Fb : Fr (fun x i => x = 59 ∧ (i = 1 ∨ i = 2 ∨ i = 4 ∨ i = 5 ∨ i = 6 ∨ i = 7)) σ β := by
    rw [← eβ]
    exact ((((((Fr.rf σ).uI ⟨rfl, by omega⟩).uI ⟨rfl, by omega⟩).uI ⟨rfl, by omega⟩).uI ⟨rfl, by omega⟩).uI ⟨rfl, by omega⟩).uI ⟨rfl, by omega⟩
  have Sb := Fb.sg hS
  have zb : mI β 59 6 = nI n ∧ mI β 59 1 = 0 ∧ mI β 59 4 = 0 ∧ mI β 59 5 = -1 ∧ mI β 59 7 = 0 := by
    rw [← eβ]
    simp [mI_uI]
  have Rb : RM β B n := by
    refine ⟨by omega, zb.1, fun i hi => ?_, fun i hi => ?_⟩
    · rw [(Fb.1 60 i (fun z => by omega)).1]; exact hB i hi
    · rw [(Fb.1 61 i (fun z => by omega)).1]; exact hw i hi
  obtain ⟨σ4, d4, F4, R4, e7⟩ := c_164 Sb
  obtain ⟨σ7, d7, F7, M7⟩ := c_158 (p := 0) (F4.sg Sb) (Rb.fm F4) (Nat.zero_le _) (e7.trans zb.2.2.2.2)
  have FF7 : Fr Wm1 β σ7 := F4.tr (F7.mono (fun _ _ h => wm_z h))
  have S7 := FF7.sg Sb
  have L := lp_178 Sb Rb (n + 1) 0 D0 0 σ7 (by omega) (Nat.zero_le _) (Nat.zero_le _) wd0 FF7 M7 (R4.fz F7)
  have to : ∀ w, Ev 178 55 [.ref 59, .int (nI n), .int (nI 0)] [] σ7 w → Cl 178 [.ref 59, .int (nI n)] σ w := by
    intro w hw
    refine ck_178 hS (b_178_0 hS ⟨fun z => absurd z (nI_pos (by omega)), fun _ => ?_⟩)
    rw [mI_n (by omega), hf]
    refine ⟨fun z => absurd z (nI_nlt hn (by omega)), fun _ σ1 q1 => ?_⟩
    rw [q1, eβ]
    exact ⟨σ4, d4, F4.sg Sb, σ7, d7, S7, hw⟩
  refine ⟨fun e he => ?_, fun D' l he => ?_⟩
  · obtain ⟨σ2, d2, F2, c⟩ := L.1 e he
    refine ⟨σ2, to _ d2, (Fb.mono (fun x i h => ?_)).tr (F2.mono (fun x i h => Or.inl h)), c, ?_⟩
    · unfold Wtm Wm0 Wm1; omega
    · rw [(F2.1 59 1 (fun z => by unfold Wm0 Wm1 at z; omega)).1]; exact zb.2.1
  · obtain ⟨σ5, F5, R5, W5, go⟩ := L.2 D' l he
    obtain ⟨σ2, d2, S2, T2, H2, L2, n2, r2, -⟩ := c_166 (F5.sg Sb) R5 W5
    have r5 : ∀ i, i ≤ 6 → mI σ5 59 i = mI β 59 i := fun i hi => (F5.1 59 i (fun z => by unfold Wm1 at z; omega)).1
    refine ⟨σ2, to _ (go σ2 d2 S2), S2, W5, T2, H2, L2, n2, ⟨?_, ?_, ?_⟩, fun x i hx => ?_⟩
    · rw [r2 59 1 (by omega), r5 1 (by omega)]; exact zb.2.1
    · rw [r2 59 4 (by omega), r5 4 (by omega)]; exact zb.2.2.1
    · rw [r2 59 5 (by omega), r5 5 (by omega)]; exact zb.2.2.2.1
    · rw [r2 x i (by omega), (F5.1 x i (fun z => by unfold Wm1 at z; omega)).1, (Fb.1 x i (fun z => by omega)).1]
end TxJ
/-! ===== text, both sides ===== -/
section TxB
variable {t : Nat} {σ : Mm} {D H : Nat → Nat → Nat}
theorem i_text {x : Int32} (h : Inv t σ D H) : PrS 102 178 [.int x] t σ := by
  have hq := h.1
  have hS := hq.sg
  have ht := hS.tt
  obtain ⟨n0, h0, h1, h2, h3, h4, h5, h6⟩ := h.2.1
  have hb : x < 0 ∨ nI n0 < x ∨ ∃ j, j ≤ n0 ∧ x = nI j := by
    rcases pk_ix x (n := n0 + 1) (by omega) with g | g | ⟨j, hj, e⟩
    · exact Or.inl g
    · refine Or.inr (Or.inl ?_)
      rw [fa_le, nI_toInt (by omega)] at g
      rw [fa_lt, nI_toInt (by omega)]
      omega
    · exact Or.inr (Or.inr ⟨j, by omega, e⟩)
  have m1 : mI (uI σ 59 2 0) 59 1 = nI n0 := by rw [mI_n (by omega)]; exact h2
  rcases hb with g | g | ⟨n, hn, rfl⟩
  · exact (PrI.mk0 hq (v := -2) (ck_102 hS (b_102_0 hS ⟨fun _ => rfl, fun z => absurd g z⟩)) ⟨_, ck_178 hS (b_178_0 hS ⟨fun _ => rfl, fun z => absurd g z⟩), wq_th⟩).st h
  · refine (PrI.mk0 hq (v := -2) (ck_102 hS (b_102_0 hS ⟨fun _ => rfl, fun _ => ?_⟩)) ⟨_, ck_178 hS (b_178_0 hS ⟨fun _ => rfl, fun _ => ?_⟩), wq_th⟩).st h
    · rw [h1]; exact ⟨fun _ => rfl, fun z => absurd g z⟩
    · rw [m1]; exact ⟨fun _ => rfl, fun z => absurd g z⟩
  · have hB : ∀ i, i < n → (mI σ 60 i).toNatClampNeg < 256 ∧ mI σ 2 i &&& 255 = nI (mI σ 60 i).toNatClampNeg ∧ mI σ 60 i = nI (mI σ 60 i).toNatClampNeg := by
      intro i hi
      obtain ⟨b, b1, b2, b3⟩ := h5 i (by omega)
      have e : (mI σ 60 i).toNatClampNeg = b := by rw [b3, nI_clamp (by omega)]
      rw [e]
      exact ⟨b1, b2, b3⟩
    obtain ⟨C1, C2⟩ := t_cls (B := fun i => (mI σ 60 i).toNatClampNeg) h hn h0 h1 (fun i hi => ⟨(hB i hi).1, (hB i hi).2.1⟩)
    cases hT : pText (fun i => (mI σ 60 i).toNatClampNeg) n (n + 1) D0 0 0 with
    | inl e =>
      obtain ⟨σ1, d1, F1, c1, z1⟩ := C1 e hT
      have S1 := F1.sg hS
      have r1 : ∀ x i, 59 ≤ x → mI σ1 x i = mI σ x i := fun x i hx => (F1.1 x i (fun z => by omega)).1
      obtain ⟨M1, _⟩ := t_mod (B := fun i => (mI σ 60 i).toNatClampNeg) S1 hn h0 (by rw [r1 59 1 (by omega)]; exact h2) (fun i hi => ⟨(hB i hi).1, by rw [r1 60 i (by omega)]; exact (hB i hi).2.2⟩) (fun i hi => by rw [r1 61 i (by omega)]; exact h6 i hi)
      obtain ⟨σ2, d2, F2, c2, z2⟩ := M1 e hT
      have FF : Fr (fun x i => x = 1 ∨ (18 - t ≤ x ∧ x ≤ 18 - t + 10) ∨ x = 14 ∨ Wtm x i) σ σ2 := (F1.mono (fun x i h => by omega)).tr (F2.mono (fun x i h => Or.inr (Or.inr (Or.inr h))))
      have rc : ∀ i, mI σ2 1 i = mI σ1 1 i := fun i => (F2.1 1 i (fun z => by unfold Wtm Wm0 Wm1 at z; omega)).1
      have I2 : Inv t σ2 D H := by
        obtain ⟨q, j1, j2, j3, j4⟩ := h
        refine ⟨⟨FF.sg hS, q.tt, q.2.2.1, ⟨q.ct.fr FF (fun x i a b z => ?_), q.ch.fr FF (fun x i a b z => ?_)⟩, q.mt.frm q.wd (fun x i a => ?_), q.mh.fr (by decide) q.hP FF (fun x i a z => ?_), ((FF.1 59 58 (fun z => ?_)).2).trans q.nu⟩, ⟨0, by omega, ?_, ?_, ?_, ?_, fun i hi => absurd hi (Nat.not_lt_zero i), fun i hi => ?_⟩, j2.fr q.hP FF (fun x i a z => ?_), j3.fr q.hP FF (fun x i a z => ?_), j4.fr FF (fun x i a z => ?_)⟩
        · unfold Wtm Wm0 Wm1 at z; omega
        · unfold Wtm Wm0 Wm1 at z; omega
        · refine (FF.1 x i (fun z => ?_)).1
          unfold Wtm Wm0 Wm1 at z; omega
        · unfold Wtm Wm0 Wm1 at z; omega
        · unfold Wtm Wm0 Wm1 at z; omega
        · rw [rc]; exact z1
        · exact z2
        · rw [rc, c2.1, c1.1]
        · rw [rc, c2.2, c1.2]
        · rw [(FF.1 61 i (fun z => by unfold Wtm Wm0 Wm1 at z; omega)).1]; exact h6 i hi
        · unfold Wtm Wm0 Wm1 at z; omega
        · unfold Wtm Wm0 Wm1 at z; omega
        · unfold Wtm Wm0 Wm1 at z; omega
      exact ⟨-1, σ1, σ2, t, D, H, d1, S1, d2, I2⟩
    | inr r0 =>
      obtain ⟨D', l⟩ := r0
      obtain ⟨σ1, d1, S1, W1, T1, H1, ⟨z1, z2, z3, z4, z5, z6, z7, z8⟩, r1⟩ := C2 D' l hT
      obtain ⟨_, M2⟩ := t_mod (B := fun i => (mI σ 60 i).toNatClampNeg) S1 hn h0 (by rw [(r1 59 1 (by omega)).1]; exact h2) (fun i hi => ⟨(hB i hi).1, by rw [(r1 60 i (by omega)).1]; exact (hB i hi).2.2⟩) (fun i hi => by rw [(r1 61 i (by omega)).1]; exact h6 i hi)
      obtain ⟨σ2, d2, S2, W2, T2, H2, L2, ⟨n1, n2, n3, n4⟩, ⟨m1', m2, m3⟩, r2⟩ := M2 D' l hT
      have rc : ∀ x i, x ≤ 58 → mI σ2 x i = mI σ1 x i := fun x i hx => r2 x i (by omega)
      have ht' : 18 - t = 3 ∨ 18 - t = 15 := by omega
      obtain ⟨w1, w2⟩ := wh_bg W1
      refine ⟨nI l, σ1, σ2, 18 - t, D', hbg D', d1, S1, d2, ⟨⟨S2, ht', ⟨W1.1, w1, w2⟩, ⟨?_, ?_⟩, T2, H2, L2⟩, ⟨0, by omega, ?_, ?_, ?_, ?_, fun i hi => absurd hi (Nat.not_lt_zero i), fun i hi => ?_⟩, ⟨false, ?_, ?_, fun z => (by cases z)⟩, un_none ?_ ?_ n3, ⟨0, -1, fun _ => 0, fun _ => 0, fun _ => false, by omega, ?_, n1, ?_, n2, Or.inl rfl, fun k hk => absurd hk (Nat.not_lt_zero k)⟩⟩⟩
      · exact T1.frm (fun x i a b => rc x i (by omega))
      · exact ⟨fun f hf => (rc 26 f (by omega)).trans (H1.1 f hf), fun i hi => (rc 27 i (by omega)).trans (H1.2.1 i hi), fun i hi => (rc 28 i (by omega)).trans (H1.2.2.1 i hi), fun i hi => (rc 29 i (by omega)).trans (H1.2.2.2 i hi)⟩
      · rw [rc 1 2 (by omega)]; exact z1
      · exact m1'
      · rw [rc 1 0 (by omega), z2, m2]
      · rw [rc 1 1 (by omega), z3, m3]
      · rw [r2 61 i (by omega), (r1 61 i (by omega)).1]; exact h6 i hi
      · rw [rc 0 5 (by omega)]; exact z8
      · exact n4
      · rw [rc 41 0 (by omega)]; exact z6
      · rw [rc 41 1 (by omega)]; exact z7
      · rw [rc 49 0 (by omega)]; exact z4
      · rw [rc 49 1 (by omega)]; exact z5
end TxB
