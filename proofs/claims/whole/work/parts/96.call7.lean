/-! ===== calls: keep, back ===== -/
section Call7
variable {t : Nat} {σ : Mm} {D H : Nat → Nat → Nat}
def Wim (x i : Nat) : Prop := (x = 0 ∧ i = 5) ∨ (34 ≤ x ∧ x ≤ 37) ∨ x = 97 ∨ x = 98 ∨ (x = 59 ∧ (i = 2 ∨ i = 74 ∨ i = 77))
theorem inv_im {σ' : Mm} (h : Inv t σ D H) (hf : Fr Wim σ σ') (hI : ImI σ' (D 1 0)) : Inv t σ' D H := by
  obtain ⟨q, h1, h2, h3, h4⟩ := h
  have ht := q.tt
  refine ⟨⟨hf.sg q.sg, q.tt, q.2.2.1, ⟨q.ct.fr hf (fun x i a b z => ?_), q.ch.fr hf (fun x i a b z => ?_)⟩, q.mt.fr hf (fun x i a z => ?_), q.mh.fr (by decide) q.hP hf (fun x i a z => ?_), ((hf.1 59 58 (fun z => ?_)).2).trans q.nu⟩, h1.fr hf (fun x i a z => ?_), hI, h3.fr q.hP hf (fun x i a z => ?_), h4.fr hf (fun x i a z => ?_)⟩
  all_goals
    unfold Wim at z
    omega
theorem i_keep (h : Inv t σ D H) : PrS 139 270 [] t σ := by
  have hq := h.1
  have hP := hq.hP
  obtain ⟨σ1, g1, f1, c1⟩ := c_19 (a := 34) (a1 := 26) hq.sg (Or.inr (Or.inr rfl)) (Or.inl rfl) (by decide) hq.ch
  have S1 := f1.sg hq.sg
  have F1 : Fr Wim σ σ1 := f1.mono (fun x i hh => by unfold Wh at hh; unfold Wim; omega)
  have F2 : Fr Wim σ (uI (uI (uI σ1 0 5 1) 59 2 0) 59 74 1) := ((F1.uI (by unfold Wim; omega)).uI (by unfold Wim; omega)).uI (by unfold Wim; omega)
  have S2 := F2.sg hq.sg
  have m2 : MH (uI (uI (uI σ1 0 5 1) 59 2 0) 59 74 1) 0 (D 1 0) H := hq.mh.fr (by decide) hP F2 (fun x i a z => by unfold Wim at z; omega)
  have k2 : mI (uI (uI (uI σ1 0 5 1) 59 2 0) 59 74 1) 59 74 = 1 ∧ mI (uI (uI (uI σ1 0 5 1) 59 2 0) 59 74 1) 0 5 = 1 := ⟨mI_s, by rw [mI_n (by omega), mI_n (by omega), mI_s]⟩
  have c2 : CH (uI (uI (uI σ1 0 5 1) 59 2 0) 59 74 1) 34 H := c1.fr (W := fun x i => x = 0 ∨ x = 59) ((((Fr.rf (P := fun x i => x = 0 ∨ x = 59) σ1).uI (Or.inl rfl)).uI (Or.inr rfl)).uI (Or.inr rfl)) (fun x i a b hh => by have hh : x = 0 ∨ x = 59 := hh; omega)
  have e26 : mI (uI σ1 0 5 1) 26 0 = nI (H 0 0) := by
    rw [mI_n (by omega), (f1.1 26 0 (by unfold Wh; omega)).1]; exact hq.ch.1 0 (by decide)
  generalize hσ2 : uI (uI (uI σ1 0 5 1) 59 2 0) 59 74 1 = σ2 at F2 S2 m2 k2 c2
  obtain ⟨σ3, g3, f3, p3⟩ := c_266 (a := 97) (n := 24) (b := 0) S2 rfl (Or.inr rfl) (by omega) (by decide) hP m2
  have F3 : Fr Wim σ σ3 := F2.tr (f3.mono (fun x i hh => by have hh : x = 97 ∧ 0 ≤ i ∧ i < 0 + 24 := hh; unfold Wim; omega))
  have rd : ∀ {τ}, Fr Wim σ τ → ∀ i, mI τ 88 i = mI σ 88 i ∧ mI τ 86 i = mI σ 86 i ∧ mI τ 87 i = mI σ 87 i ∧ mL τ 59 58 = mL σ 59 58 := fun f i => ⟨(f.1 88 i (by unfold Wim; omega)).1, (f.1 86 i (by unfold Wim; omega)).1, (f.1 87 i (by unfold Wim; omega)).1, (f.1 59 58 (by unfold Wim; omega)).2⟩
  have loop : ∃ σ4, Ev 270 21 [.ref 59, .int (nI 0)] [] σ3 (some (.int (nI (H 0 0))), σ4) ∧ Fr Wim σ σ4 ∧ Fr (fun x i => x = 98 ∨ (x = 59 ∧ i = 77)) σ3 σ4 ∧ (∀ i, i < 14 → mI σ4 98 i = mI σ 88 i) ∧ mI σ4 98 14 = mI σ 86 0 ∧ mI σ4 98 15 = mI σ 87 0 ∧ mL σ4 59 77 = mL σ 59 58 := by
    refine lp (fun k τ => Fr Wim σ τ ∧ Fr (fun x i => x = 98 ∨ (x = 59 ∧ i = 77)) σ3 τ ∧ ∀ i, i < k → mI τ 98 i = mI σ 88 i) (fun k τ => ∃ σ4, Ev 270 21 [.ref 59, .int (nI k)] [] τ (some (.int (nI (H 0 0))), σ4) ∧ Fr Wim σ σ4 ∧ Fr (fun x i => x = 98 ∨ (x = 59 ∧ i = 77)) σ3 σ4 ∧ (∀ i, i < 14 → mI σ4 98 i = mI σ 88 i) ∧ mI σ4 98 14 = mI σ 86 0 ∧ mI σ4 98 15 = mI σ 87 0 ∧ mL σ4 59 77 = mL σ 59 58) 14 ?_ ?_ (Nat.zero_le _) ⟨F3, Fr.rf σ3, fun i hi => absurd hi (Nat.not_lt_zero i)⟩
    · intro k τ hk ⟨fa, fb, hi⟩ ih
      obtain ⟨σ4, h4, r4⟩ := ih (uI τ 98 k (mI σ 88 k)) ⟨fa.uI (by unfold Wim; omega), fb.uI (Or.inl rfl), fun i hik => by
        by_cases e : i = k
        · rw [e, mI_s]
        · rw [mI_n (by omega)]; exact hi i (by omega)⟩
      refine ⟨σ4, b_270_21 (fa.sg hq.sg) ?_, r4⟩
      rw [nI_clamp (by omega), nI_1, (rd fa k).1]
      exact pk_lt k 14 (fun _ => ⟨inb_nI (by omega) (by decide), inb_nI (by omega) (by decide), fun τ1 q1 => by rw [q1]; exact h4⟩) (fun z => absurd z (by omega))
    · intro τ ⟨fa, fb, hi⟩
      refine ⟨uL (uI (uI τ 98 14 (mI σ 86 0)) 98 15 (mI σ 87 0)) 59 77 (mL σ 59 58), b_270_21 (fa.sg hq.sg) (pk_lt 14 14 (fun z => absurd z (by omega)) (fun _ τ1 q1 => ?_)), ((fa.uI (by unfold Wim; omega)).uI (by unfold Wim; omega)).uL (by unfold Wim; omega), ((fb.uI (Or.inl rfl)).uI (Or.inl rfl)).uL (Or.inr ⟨rfl, rfl⟩), fun i hi14 => ?_, ?_, ?_, ?_⟩
      · rw [(rd fa 0).2.1, mI_n (by omega), (rd fa 0).2.2.1] at q1
        have e1 : mL τ1 59 58 = mL σ 59 58 := by rw [q1]; exact (rd fa 0).2.2.2
        have e2 : ∀ v, mI (uL τ1 59 77 v) 87 0 = nI (H 0 0) := fun v => by
          show mI τ1 87 0 = _
          rw [q1, mI_n (by omega), mI_n (by omega), (rd fa 0).2.2.1]
          exact hq.mh.1.2.2.2.2.2
        rw [e1, e2, q1]
      · show mI (uI (uI τ 98 14 (mI σ 86 0)) 98 15 (mI σ 87 0)) 98 i = mI σ 88 i
        rw [mI_n (by omega), mI_n (by omega)]; exact hi i hi14
      · show mI (uI (uI τ 98 14 (mI σ 86 0)) 98 15 (mI σ 87 0)) 98 14 = mI σ 86 0
        rw [mI_n (by omega), mI_s]
      · show mI (uI (uI τ 98 14 (mI σ 86 0)) 98 15 (mI σ 87 0)) 98 15 = mI σ 87 0
        exact mI_s
      · rw [mL_uL, if_pos ⟨rfl, rfl⟩]
  obtain ⟨σ4, g4, F4, f4, a1, a2, a3, a4⟩ := loop
  have I : ImI σ4 (D 1 0) := by
    refine ⟨true, ?_, ?_, fun _ => ⟨H, ?_, ⟨?_, fun i hi => ?_, ?_, ?_, ?_⟩, hq.wh, hq.mi⟩⟩
    · exact ((f4.1 0 5 (fun hh => by have hh : 0 = 98 ∨ (0 = 59 ∧ 5 = 77) := hh; omega)).1).trans (((f3.1 0 5 (fun hh => by have hh : 0 = 97 ∧ 0 ≤ 5 ∧ 5 < 0 + 24 := hh; omega)).1).trans k2.2)
    · exact ((f4.1 59 74 (fun hh => by have hh : 59 = 98 ∨ (59 = 59 ∧ 74 = 77) := hh; omega)).1).trans (((f3.1 59 74 (fun hh => by have hh : 59 = 97 ∧ 0 ≤ 74 ∧ 74 < 0 + 24 := hh; omega)).1).trans k2.1)
    · exact (c2.fr f3 (fun x i a b hh => by have hh : x = 97 ∧ 0 ≤ i ∧ i < 0 + 24 := hh; omega)).fr f4 (fun x i a b hh => by have hh : x = 98 ∨ (x = 59 ∧ i = 77) := hh; omega)
    · exact p3.fr hP f4 (fun i a b hh => by have hh : 97 = 98 ∨ (97 = 59 ∧ i = 77) := hh; omega)
    · rw [a1 i hi]
      have := hq.mh.2.1 i hi
      rw [Nat.mul_zero, Nat.zero_add] at this
      exact this
    · rw [a2]; exact hq.mh.1.2.2.2.2.1
    · rw [a3]; exact hq.mh.1.2.2.2.2.2
    · rw [a4]; exact hq.nu
  have S1' : Sg t (uI σ1 0 5 1) := S1
  refine ⟨nI (H 0 0), uI σ1 0 5 1, σ4, t, D, H, ck_139 hq.sg (b_139_0 hq.sg ⟨σ1, g1, S1, by rw [e26]⟩), S1', ck_270 S1' (b_270_0 S1' ?_), inv_im h F4 I⟩
  rw [hσ2]
  exact ⟨σ3, g3, F3.sg hq.sg, g4⟩
end Call7
