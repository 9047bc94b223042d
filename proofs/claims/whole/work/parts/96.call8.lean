/-! ===== calls: back ===== -/
section Call8
variable {t : Nat} {σ : Mm} {D H : Nat → Nat → Nat}
theorem i_back (h : Inv t σ D H) : PrS 140 271 [] t σ := by
  have hq := h.1
  have hP := hq.hP
  obtain ⟨im, b1, b2, b3⟩ := h.2.2.1
  cases him : im with
  | false =>
    rw [him] at b1 b2
    refine (PrI.mk0 hq (v := -1) (ck_140 hq.sg (b_140_0 hq.sg ?_)) ⟨_, ck_271 hq.sg (b_271_0 hq.sg ?_), wq_th⟩).st h
    · rw [b1]; exact ⟨fun _ => rfl, fun z => absurd rfl z⟩
    · rw [mI_n (by omega), b2]; exact ⟨fun _ => rfl, fun z => absurd rfl z⟩
  | true =>
    rw [him] at b1 b2
    obtain ⟨I, cI, mI', wI, lI⟩ := b3 him
    obtain ⟨pI, m7, m5, m0, m6⟩ := mI'
    obtain ⟨σ1, g1, f1, c1⟩ := c_19 (a := 26) (a1 := 34) hq.sg (Or.inl rfl) (Or.inr (Or.inr rfl)) (by decide) cI
    have S1 := f1.sg hq.sg
    have F2 : Fr (fun x i => (26 ≤ x ∧ x ≤ 29) ∨ x = 41) σ (uI (uI σ1 41 0 0) 41 1 0) := ((f1.mono (fun x i hh => by unfold Wh at hh; exact Or.inl (by omega))).uI (Or.inr rfl)).uI (Or.inr rfl)
    have c2 : CH (uI (uI σ1 41 0 0) 41 1 0) 26 I := c1.fr (W := fun x i => x = 41) (((Fr.rf (P := fun x i => x = 41) σ1).uI rfl).uI rfl) (fun x i a b hh => by have hh : x = 41 := hh; omega)
    have k41 : mI (uI (uI σ1 41 0 0) 41 1 0) 41 0 = 0 ∧ mI (uI (uI σ1 41 0 0) 41 1 0) 41 1 = 0 := ⟨by rw [mI_n (by omega), mI_s], mI_s⟩
    have S2 := F2.sg hq.sg
    have g2 : Cl 97 [.ref 41] σ1 (none, uI (uI σ1 41 0 0) 41 1 0) := ck_97 S1 (b_97_0 S1 rfl)
    generalize uI (uI σ1 41 0 0) 41 1 0 = σ2 at F2 c2 k41 S2 g2
    have F3 : Fr (fun x i => (26 ≤ x ∧ x ≤ 29) ∨ x = 41 ∨ (x = 59 ∧ i = 2)) σ (uI σ2 59 2 0) := (F2.mono (fun x i hh => by rcases hh with hh | hh; exact Or.inl hh; exact Or.inr (Or.inl hh))).uI (Or.inr (Or.inr ⟨rfl, rfl⟩))
    have S3 : Sg t (uI σ2 59 2 0) := S2
    have Fn : ∀ x i, 59 ≤ x → ¬ (x = 59 ∧ i = 2) → mI (uI σ2 59 2 0) x i = mI σ x i ∧ mL (uI σ2 59 2 0) x i = mL σ x i := fun x i a b => F3.1 x i (fun hh => by have hh : (26 ≤ x ∧ x ≤ 29) ∨ x = 41 ∨ (x = 59 ∧ i = 2) := hh; omega)
    have mh3 : MH (uI σ2 59 2 0) 0 (D 1 0) H := hq.mh.fr (by decide) hP F3 (fun x i a hh => by have hh : (26 ≤ x ∧ x ≤ 29) ∨ x = 41 ∨ (x = 59 ∧ i = 2) := hh; omega)
    have p3 : PU (uI σ2 59 2 0) 97 0 (D 1 0) I := pI.fr hP F3 (fun i a b hh => by have hh : (26 ≤ 97 ∧ 97 ≤ 29) ∨ 97 = 41 ∨ (97 = 59 ∧ i = 2) := hh; omega)
    obtain ⟨σ4, g4, f4, m4⟩ := c_267 (a := 97) (n := 24) (b := 0) S3 rfl (Or.inr rfl) (by omega) (by decide) hP mh3 p3
    have S4 := f4.sg S3
    have r4 : ∀ x i, (x = 98 ∨ x = 59 ∨ x ≤ 58) → mI σ4 x i = mI (uI σ2 59 2 0) x i ∧ mL σ4 x i = mL (uI σ2 59 2 0) x i := fun x i a => f4.1 x i (fun hh => by have hh : (82 ≤ x ∧ x ≤ 85 ∧ i = 0) ∨ ((x = 89 ∨ x = 90) ∧ i < 10) := hh; omega)
    have e98 : ∀ i, mI σ4 98 i = mI σ 98 i := fun i => ((r4 98 i (by omega)).1).trans ((Fn 98 i (by omega) (by omega)).1)
    have e77 : mL σ4 59 77 = lN (I 6 0) := (((r4 59 77 (by omega)).2).trans ((Fn 59 77 (by omega) (by omega)).2)).trans m6
    -- the rest of the image
    have loop : ∃ σ5, Ev 271 25 [.ref 59, .int (nI 0)] [] σ4 (some (.int (nI (I 0 0))), σ5) ∧ Fr (fun x i => (x = 88 ∧ i < 14) ∨ ((x = 86 ∨ x = 87) ∧ i = 0) ∨ (x = 59 ∧ (i = 58 ∨ i = 72))) σ4 σ5 ∧ (∀ i, i < 14 → mI σ5 88 i = nI (I 7 i)) ∧ mI σ5 86 0 = nI (I 5 0) ∧ mI σ5 87 0 = nI (I 0 0) ∧ mL σ5 59 58 = lN (I 6 0) ∧ mI σ5 59 72 = 0 := by
      refine lp (fun k τ => Fr (fun x i => (x = 88 ∧ i < 14) ∨ ((x = 86 ∨ x = 87) ∧ i = 0) ∨ (x = 59 ∧ (i = 58 ∨ i = 72))) σ4 τ ∧ ∀ i, i < k → mI τ 88 i = nI (I 7 i)) (fun k τ => ∃ σ5, Ev 271 25 [.ref 59, .int (nI k)] [] τ (some (.int (nI (I 0 0))), σ5) ∧ Fr (fun x i => (x = 88 ∧ i < 14) ∨ ((x = 86 ∨ x = 87) ∧ i = 0) ∨ (x = 59 ∧ (i = 58 ∨ i = 72))) σ4 σ5 ∧ (∀ i, i < 14 → mI σ5 88 i = nI (I 7 i)) ∧ mI σ5 86 0 = nI (I 5 0) ∧ mI σ5 87 0 = nI (I 0 0) ∧ mL σ5 59 58 = lN (I 6 0) ∧ mI σ5 59 72 = 0) 14 ?_ ?_ (Nat.zero_le _) ⟨Fr.rf σ4, fun i hi => absurd hi (Nat.not_lt_zero i)⟩
      · intro k τ hk ⟨ft, hi⟩ ih
        have e98t : mI τ 98 k = nI (I 7 k) := ((ft.1 98 k (fun hh => by have hh : (98 = 88 ∧ k < 14) ∨ ((98 = 86 ∨ 98 = 87) ∧ k = 0) ∨ (98 = 59 ∧ (k = 58 ∨ k = 72)) := hh; omega)).1).trans ((e98 k).trans (m7 k hk))
        obtain ⟨σ5, h5, r5⟩ := ih (uI τ 88 k (nI (I 7 k))) ⟨ft.uI (Or.inl ⟨rfl, hk⟩), fun i hik => by
          by_cases e : i = k
          · rw [e, mI_s]
          · rw [mI_n (by omega)]; exact hi i (by omega)⟩
        refine ⟨σ5, b_271_25 (ft.sg S4) ?_, r5⟩
        rw [nI_clamp (by omega), nI_1, e98t]
        exact pk_lt k 14 (fun _ => ⟨inb_nI (by omega) (by decide), inb_nI (by omega) (by decide), fun τ1 q1 => by rw [q1]; exact h5⟩) (fun z => absurd z (by omega))
      · intro τ ⟨ft, hi⟩
        have t98 : ∀ i, mI τ 98 i = mI σ 98 i := fun i => ((ft.1 98 i (fun hh => by have hh : (98 = 88 ∧ i < 14) ∨ ((98 = 86 ∨ 98 = 87) ∧ i = 0) ∨ (98 = 59 ∧ (i = 58 ∨ i = 72)) := hh; omega)).1).trans (e98 i)
        have t77 : mL τ 59 77 = lN (I 6 0) := ((ft.1 59 77 (fun hh => by have hh : (59 = 88 ∧ 77 < 14) ∨ ((59 = 86 ∨ 59 = 87) ∧ 77 = 0) ∨ (59 = 59 ∧ (77 = 58 ∨ 77 = 72)) := hh; omega)).2).trans e77
        refine ⟨uI (uL (uI (uI τ 86 0 (nI (I 5 0))) 87 0 (nI (I 0 0))) 59 58 (lN (I 6 0))) 59 72 0, b_271_25 (ft.sg S4) (pk_lt 14 14 (fun z => absurd z (by omega)) (fun _ τ1 q1 => ?_)), (((ft.uI (Or.inr (Or.inl (by omega)))).uI (Or.inr (Or.inl (by omega)))).uL (Or.inr (Or.inr (by omega)))).uI (Or.inr (Or.inr (by omega))), fun i hi14 => ?_, ?_, ?_, ?_, mI_s⟩
        · rw [t98 14, m5, mI_n (by omega), t98 15, m0] at q1
          have e1 : mL τ1 59 77 = lN (I 6 0) := by rw [q1]; exact t77
          have e2 : mI (uI (uL τ1 59 58 (lN (I 6 0))) 59 72 0) 87 0 = nI (I 0 0) := by
            rw [mI_n (by omega), q1]
            show mI (uI (uI τ 86 0 (nI (I 5 0))) 87 0 (nI (I 0 0))) 87 0 = nI (I 0 0)
            exact mI_s
          rw [e1, e2, q1]
        · rw [mI_n (by omega)]
          show mI (uI (uI τ 86 0 (nI (I 5 0))) 87 0 (nI (I 0 0))) 88 i = nI (I 7 i)
          rw [mI_n (by omega), mI_n (by omega)]; exact hi i hi14
        · rw [mI_n (by omega)]
          show mI (uI (uI τ 86 0 (nI (I 5 0))) 87 0 (nI (I 0 0))) 86 0 = nI (I 5 0)
          rw [mI_n (by omega), mI_s]
        · rw [mI_n (by omega)]
          show mI (uI (uI τ 86 0 (nI (I 5 0))) 87 0 (nI (I 0 0))) 87 0 = nI (I 0 0)
          exact mI_s
        · show mL (uL (uI (uI τ 86 0 (nI (I 5 0))) 87 0 (nI (I 0 0))) 59 58 (lN (I 6 0))) 59 58 = _
          rw [mL_uL, if_pos ⟨rfl, rfl⟩]
    obtain ⟨σ5, g5, f5, a7, a5, a0, a6, a72⟩ := loop
    have S5 := f5.sg S4
    have F5 : Fr Wch σ σ5 := (F3.mono (fun x i hh => by have hh : (26 ≤ x ∧ x ≤ 29) ∨ x = 41 ∨ (x = 59 ∧ i = 2) := hh; unfold Wch; omega)).tr ((f4.mono (fun x i hh => by have hh : (82 ≤ x ∧ x ≤ 85 ∧ i = 0) ∨ ((x = 89 ∨ x = 90) ∧ i < 10) := hh; unfold Wch; omega)).tr (f5.mono (fun x i hh => by have hh : (x = 88 ∧ i < 14) ∨ ((x = 86 ∨ x = 87) ∧ i = 0) ∨ (x = 59 ∧ (i = 58 ∨ i = 72)) := hh; unfold Wch; omega)))
    have r5 : ∀ x i, ¬ (x = 88 ∨ x = 86 ∨ x = 87 ∨ x = 59) → mI σ5 x i = mI σ4 x i := fun x i a => (f5.1 x i (fun hh => by have hh : (x = 88 ∧ i < 14) ∨ ((x = 86 ∨ x = 87) ∧ i = 0) ∨ (x = 59 ∧ (i = 58 ∨ i = 72)) := hh; omega)).1
    have rc : ∀ x i, x ≤ 58 → mI σ5 x i = mI σ2 x i := fun x i a => ((r5 x i (by omega)).trans ((r4 x i (by omega)).1)).trans (mI_n (by omega))
    have C5 : CH σ5 26 I := ⟨fun f hf => (rc 26 f (by omega)).trans (c2.1 f hf), fun i hi => (rc 27 i (by omega)).trans (c2.2.1 i hi), fun i hi => (rc 28 i (by omega)).trans (c2.2.2.1 i hi), fun i hi => (rc 29 i (by omega)).trans (c2.2.2.2 i hi)⟩
    have M5 : MH σ5 0 (D 1 0) I := by
      obtain ⟨⟨y1, y2, y3, y4, _, _⟩, _, yt, yw⟩ := m4
      exact ⟨⟨(r5 82 0 (by omega)).trans y1, (r5 83 0 (by omega)).trans y2, (r5 84 0 (by omega)).trans y3, (r5 85 0 (by omega)).trans y4, a5, a0⟩, fun i hi => by rw [Nat.mul_zero, Nat.zero_add]; exact a7 i hi, fun i hi => (r5 89 _ (by omega)).trans (yt i hi), fun i hi => (r5 90 _ (by omega)).trans (yw i hi)⟩
    have inv := inv_ch h F5 C5 M5 a6 wI lI (un_none ((rc 41 0 (by omega)).trans k41.1) ((rc 41 1 (by omega)).trans k41.2) a72)
    refine ⟨nI (I 0 0), σ2, σ5, t, D, I, ck_140 hq.sg (b_140_0 hq.sg ?_), S2, ck_271 S2 (b_271_0 S2 ?_), inv⟩
    · rw [b1]
      refine ⟨fun z => absurd z (by decide), fun _ => ⟨σ1, g1, S1, σ2, g2, S2, ?_⟩⟩
      rw [c2.1 0 (by decide)]
    · rw [(Fn 59 74 (by omega) (by omega)).1, b2]
      exact ⟨fun z => absurd z (by decide), fun _ => ⟨σ4, g4, S4, g5⟩⟩
end Call8
