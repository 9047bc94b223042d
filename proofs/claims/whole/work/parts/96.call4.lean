/-! ===== calls that change the house: go, keep, back ===== -/
section Call4
variable {t : Nat} {σ : Mm} {D H : Nat → Nat → Nat}
theorem un_none {P : Nat} {H' : Nat → Nat → Nat} (h1 : mI σ 41 0 = 0) (h2 : mI σ 41 1 = 0) (h3 : mI σ 59 72 = 0) : UnI σ P H' := ⟨0, 0, fun _ => H', by omega, by omega, h1, h2, h3, rfl, fun k hk => absurd hk (Nat.not_lt_zero k)⟩
theorem i_go {x : Int32} (h : Inv t σ D H) : PrS 111 223 [.int x] t σ := by
  have hq := h.1
  have hP := hq.hP
  have hmi := hq.mi
  by_cases hx : x < 0 ∨ 200 < x
  · exact (PrI.mk0 hq (v := -1) (ck_111 hq.sg (b_111_0 hq.sg (w_rb hx rfl))) ⟨_, ck_223 hq.sg (b_223_0 hq.sg ⟨_, _, c_152n hq.th.sg hx, hq.th.sg, fun _ => rfl, fun z => absurd rfl z⟩), wq_th⟩).st h
  obtain ⟨n, hn, rfl⟩ := nI_of (fun z => hx (Or.inl z))
  have hn2 : n ≤ 200 := by
    rcases Nat.lt_or_ge 200 n with g | g
    · exact absurd (Or.inr (nI_lt (a := 200) g hn)) hx
    · exact g
  have e87 : mI (uI σ 59 2 0) 87 0 = nI (H 0 0) := hq.th.mh.1.2.2.2.2.2
  by_cases hl : 9000 < H 0 0 + n
  · refine (PrI.mk0 hq (v := -1) (ck_111 hq.sg (b_111_0 hq.sg (w_rg hx ?_))) ⟨_, ck_223 hq.sg (b_223_0 hq.sg ⟨_, _, c_152y hq.th.sg hx, hq.th.sg, fun z => absurd z n10, fun _ => ?_⟩), wq_th⟩).st h
    · rw [hq.ch.1 0 (by decide), nI_add]
      exact pk_lt 9000 (H 0 0 + n) (fun _ => rfl) (fun z => absurd z (by omega)) rfl rfl (by omega) (by omega)
    · rw [e87, nI_add]
      exact pk_lt 9000 (H 0 0 + n) (fun _ => rfl) (fun z => absurd z (by omega)) rfl rfl (by omega) (by omega)
  have hm20 : H 0 0 + n < 2 ^ 20 := by omega
  have hW' : WH (D 1 0) (mns D true true true true (-1) n H) := mns_WH hq.wd hq.wh n hm20
  have h0' : mns D true true true true (-1) n H 0 0 = H 0 0 + n := mns_0 n
  have ht := hq.tt
  -- the first side, from some memory
  have cls : ∀ σa, Fr (fun x i => x = 41) σ σa → ∃ σb, Ev 111 39 [.ref 0, .int (nI n)] [] σa (some (.int (nI (H 0 0 + n))), σb) ∧ Fr (fun x i => (26 ≤ x ∧ x ≤ 29) ∨ (38 ≤ x ∧ x ≤ 40)) σa σb ∧ CH σb 26 (mns D true true true true (-1) n H) := by
    intro σa fa
    have Sa := fa.sg hq.sg
    obtain ⟨σ1, g1, f1, c1⟩ := c_5 Sa
    have S1 := f1.sg Sa
    have m1 : CM σ1 true true true true (-1) := cc_cm (dr := true) c1 rfl
    have C1 : CH σ1 26 H := (hq.ch.fr fa (fun x i a b hh => by have hh : x = 41 := hh; omega)).fr f1 (fun x i a b hh => by unfold Wc at hh; omega)
    have T1 : CT σ1 t D := (hq.ct.fr fa (fun x i a b hh => by have hh : x = 41 := hh; omega)).fr f1 (fun x i a b hh => by unfold Wc at hh; omega)
    obtain ⟨σ2, g2, f2, c2⟩ := c_8 (a2 := 26) (n := n) S1 hq.tt (Or.inl rfl) T1 hq.wd C1 hq.wh m1 hm20
    refine ⟨σ2, b_111_39 Sa ⟨σ1, g1, S1, σ2, g2, f2.sg S1, ?_⟩, (f1.mono (fun x i hh => by unfold Wc at hh; exact Or.inr (by omega))).tr (f2.mono (fun x i hh => by
      unfold Wru at hh
      rcases hh with hh | hh | hh
      · exact Or.inl hh
      · exact Or.inr (by omega)
      · exact Or.inr (by omega))), c2⟩
    rw [c2.1 0 (by decide), h0']
  -- the second side
  have mdl : ∀ σb, Fr Wcs σ σb → Sg t σb → ∃ σ4, Cl 223 [.ref 59, .int (nI n)] σb (some (.int (nI (H 0 0 + n))), σ4) ∧ Fr (fun x i => (x = 59 ∧ (i = 2 ∨ i = 48 ∨ i = 58 ∨ (59 ≤ i ∧ i ≤ 63) ∨ i = 72)) ∨ (80 ≤ x ∧ x ≤ 90)) σb σ4 ∧ MH σ4 0 (D 1 0) (mns D true true true true (-1) n H) ∧ mL σ4 59 58 = lN (mns D true true true true (-1) n H 6 0) ∧ mI σ4 59 72 = (if 0 < n then 0 else mI σb 59 72) := by
    intro σb fb Sb
    have fb2 : Fr Wcs σ (uI σb 59 2 0) := fb.uI (by unfold Wcs; omega)
    obtain ⟨mt1, mh1, nu1⟩ := mside hq fb2
    have S1 : Sg t (uI σb 59 2 0) := Sb
    obtain ⟨σ2, g2, f2, pl⟩ := c_197 S1
    have f3 : Fr Wcs σ (uI σ2 59 59 1) := (fb2.tr (f2.mono (fun x i hh => by unfold Wp at hh; unfold Wcs; omega))).uI (by unfold Wcs; omega)
    obtain ⟨mt3, mh3, nu3⟩ := mside hq f3
    have S3 : Sg t (uI σ2 59 59 1) := f2.sg S1
    have mm3 : MM (uI σ2 59 59 1) true true true true (-1) := by
      refine ⟨?_, ?_, ?_, ?_, ?_⟩
      · simp [mI_uI]
      · simp [mI_uI]; exact pl.2.1
      · simp [mI_uI]; exact pl.2.2.1
      · simp [mI_uI]; exact pl.2.2.2.1
      · simp [mI_uI]; exact pl.2.2.2.2
    have n3 : DN (uI σ2 59 59 1) true H := fun _ => nu3
    have k72 : mI (uI σ2 59 59 1) 59 72 = mI σb 59 72 := by
      rw [mI_uI, if_neg (by omega), (f2.1 59 72 (by unfold Wp; omega)).1, mI_uI, if_neg (by omega)]
    have loop : ∃ σ5, Ev 223 43 [.ref 59, .int (nI n), .int (nI 0)] [] (uI σ2 59 59 1) (some (.int (nI (H 0 0 + n))), σ5) ∧ Fr (fun x i => (x = 59 ∧ (i = 2 ∨ i = 48 ∨ i = 58 ∨ (59 ≤ i ∧ i ≤ 63) ∨ i = 72)) ∨ (80 ≤ x ∧ x ≤ 90)) (uI σ2 59 59 1) σ5 ∧ MH σ5 0 (D 1 0) (mns D true true true true (-1) n H) ∧ mL σ5 59 58 = lN (mns D true true true true (-1) n H 6 0) ∧ mI σ5 59 72 = (if 0 < n then 0 else mI σb 59 72) := by
      refine lp (fun k τ => Fr (Wm 0 true) (uI σ2 59 59 1) τ ∧ MH τ 0 (D 1 0) (mns D true true true true (-1) k H) ∧ DN τ true (mns D true true true true (-1) k H)) (fun k τ => ∃ σ5, Ev 223 43 [.ref 59, .int (nI n), .int (nI k)] [] τ (some (.int (nI (H 0 0 + n))), σ5) ∧ Fr (fun x i => (x = 59 ∧ (i = 2 ∨ i = 48 ∨ i = 58 ∨ (59 ≤ i ∧ i ≤ 63) ∨ i = 72)) ∨ (80 ≤ x ∧ x ≤ 90)) (uI σ2 59 59 1) σ5 ∧ MH σ5 0 (D 1 0) (mns D true true true true (-1) n H) ∧ mL σ5 59 58 = lN (mns D true true true true (-1) n H 6 0) ∧ mI σ5 59 72 = (if 0 < n then 0 else mI σb 59 72)) n ?_ ?_ (Nat.zero_le _) ⟨Fr.rf _, mh3, n3⟩
      · intro k τ hk ⟨ft, mt, nt⟩ ih
        obtain ⟨τ2, gt, f2t, mh2, nu2⟩ := c_213 (b := 0) (ft.sg S3) (by decide) (mt3.fr ft (fun x i h => wm_t h)) hq.wd mt (mns_WH hq.wd hq.wh k (by omega)) (mm3.fr ft) (fun _ => rfl) nt
        obtain ⟨σ5, g5, r5⟩ := ih τ2 ⟨ft.tr f2t, mh2, nu2⟩
        refine ⟨σ5, b_223_43 (ft.sg S3) ?_, r5⟩
        rw [nI_1]
        exact pk_lt k n (fun _ => ⟨τ2, gt, f2t.sg (ft.sg S3), g5⟩) (fun z => absurd z (by omega)) rfl rfl (by omega) (by omega)
      · intro τ ⟨ft, mt, nt⟩
        have ft' : Fr (fun x i => (x = 59 ∧ (i = 2 ∨ i = 48 ∨ i = 58 ∨ (59 ≤ i ∧ i ≤ 63) ∨ i = 72)) ∨ (80 ≤ x ∧ x ≤ 90)) (uI σ2 59 59 1) τ := ft.mono (fun x i hh => by
          rcases hh with hh | hh | hh | hh | hh
          · exact Or.inr (by omega)
          · exact Or.inr (by omega)
          · exact Or.inr (by omega)
          · exact Or.inl (by omega)
          · exact Or.inl (by omega))
        have t72 : mI τ 59 72 = mI σb 59 72 := ((ft.1 59 72 (fun hh => by rcases hh with hh | hh | hh | hh | hh <;> omega)).1).trans k72
        have m59 : ∀ v w, MH (uI (uI τ 59 59 v) 59 72 w) 0 (D 1 0) (mns D true true true true (-1) n H) := fun v w => mt.fr (W := fun x i => x = 59) (by decide) hP (((Fr.rf (P := fun x i => x = 59) _).uI rfl).uI rfl) (fun x i a hh => by have hh : x = 59 := hh; omega)
        by_cases c : 0 < n
        · refine ⟨uI (uI τ 59 59 0) 59 72 0, b_223_43 (ft.sg S3) (pk_lt n n (fun z => absurd z (Nat.lt_irrefl _)) (fun _ => ⟨fun _ => ?_, fun z => absurd (nI_lt (a := 0) c (by omega)) z⟩) rfl rfl (by omega) (by omega)), (ft'.uI (Or.inl (by omega))).uI (Or.inl (by omega)), m59 0 0, nt rfl, ?_⟩
          · rw [show mI (uI (uI τ 59 59 0) 59 72 0) 87 0 = nI (mns D true true true true (-1) n H 0 0) from (m59 0 0).1.2.2.2.2.2, h0']
          · rw [mI_uI, if_pos ⟨rfl, rfl⟩, if_pos c]
        · refine ⟨uI (uI τ 59 59 0) 59 72 (mI (uI τ 59 59 0) 59 72), b_223_43 (ft.sg S3) (pk_lt n n (fun z => absurd z (Nat.lt_irrefl _)) (fun _ => ⟨fun z => absurd z (nI_nlt (b := n) (a := 0) (by omega) (by omega)), fun _ τ1 e1 => ?_⟩) rfl rfl (by omega) (by omega)), (ft'.uI (Or.inl (by omega))).uI (Or.inl (by omega)), m59 _ _, nt rfl, ?_⟩
          · rw [e1, show mI (uI (uI τ 59 59 0) 59 72 (mI (uI τ 59 59 0) 59 72)) 87 0 = nI (mns D true true true true (-1) n H 0 0) from (m59 _ _).1.2.2.2.2.2, h0']
          · rw [mI_uI, if_pos ⟨rfl, rfl⟩, mI_uI, if_neg (by omega), if_neg c]; exact t72
    obtain ⟨σ5, g5, f5, m5, n5, u5⟩ := loop
    refine ⟨σ5, ck_223 Sb (b_223_0 Sb ⟨_, _, c_152y S1 hx, S1, fun z => absurd z n10, fun _ => ?_⟩), ?_, m5, n5, u5⟩
    · rw [show mI (uI σb 59 2 0) 87 0 = nI (H 0 0) from mh1.1.2.2.2.2.2, nI_add]
      exact pk_lt 9000 (H 0 0 + n) (fun z => absurd z hl) (fun _ => ⟨σ2, g2, f2.sg S1, g5⟩) rfl rfl (by omega) (by omega)
    · have a : Fr (fun x i => (x = 59 ∧ (i = 2 ∨ i = 48 ∨ i = 58 ∨ (59 ≤ i ∧ i ≤ 63) ∨ i = 72)) ∨ (80 ≤ x ∧ x ≤ 90)) σb (uI σb 59 2 0) := (Fr.rf _).uI (Or.inl (by omega))
      have b : Fr (fun x i => (x = 59 ∧ (i = 2 ∨ i = 48 ∨ i = 58 ∨ (59 ≤ i ∧ i ≤ 63) ∨ i = 72)) ∨ (80 ≤ x ∧ x ≤ 90)) (uI σb 59 2 0) σ2 := f2.mono (fun x i hh => by unfold Wp at hh; exact Or.inl (by omega))
      exact ((a.tr b).uI (a := 59) (j := 59) (v := 1) (Or.inl (by omega))).tr f5
  -- together
  have fin : ∀ σa σb σ4, Fr (fun x i => x = 41) σ σa → Fr (fun x i => (26 ≤ x ∧ x ≤ 29) ∨ (38 ≤ x ∧ x ≤ 40)) σa σb → CH σb 26 (mns D true true true true (-1) n H) → Fr (fun x i => (x = 59 ∧ (i = 2 ∨ i = 48 ∨ i = 58 ∨ (59 ≤ i ∧ i ≤ 63) ∨ i = 72)) ∨ (80 ≤ x ∧ x ≤ 90)) σb σ4 → MH σ4 0 (D 1 0) (mns D true true true true (-1) n H) → mL σ4 59 58 = lN (mns D true true true true (-1) n H 6 0) → UnI σ4 (D 1 0) (mns D true true true true (-1) n H) → Inv t σ4 D (mns D true true true true (-1) n H) := by
    intro σa σb σ4 fa fb cb f4 m4 n4 u4
    refine inv_ch h ((fa.mono (fun x i hh => by have hh : x = 41 := hh; unfold Wch; omega)).tr ((fb.mono (fun x i hh => by have hh : (26 ≤ x ∧ x ≤ 29) ∨ (38 ≤ x ∧ x ≤ 40) := hh; unfold Wch; omega)).tr (f4.mono (fun x i hh => by have hh : (x = 59 ∧ (i = 2 ∨ i = 48 ∨ i = 58 ∨ (59 ≤ i ∧ i ≤ 63) ∨ i = 72)) ∨ (80 ≤ x ∧ x ≤ 90) := hh; unfold Wch; omega)))) (cb.fr f4 (fun x i a b hh => by have hh : (x = 59 ∧ (i = 2 ∨ i = 48 ∨ i = 58 ∨ (59 ≤ i ∧ i ≤ 63) ∨ i = 72)) ∨ (80 ≤ x ∧ x ≤ 90) := hh; omega)) m4 n4 hW' (by rw [h0']; omega) u4
  have fcs : ∀ σa σb, Fr (fun x i => x = 41) σ σa → Fr (fun x i => (26 ≤ x ∧ x ≤ 29) ∨ (38 ≤ x ∧ x ≤ 40)) σa σb → Fr Wcs σ σb := fun σa σb fa fb => (fa.mono (fun x i hh => by have hh : x = 41 := hh; unfold Wcs; omega)).tr (fb.mono (fun x i hh => by have hh : (26 ≤ x ∧ x ≤ 29) ∨ (38 ≤ x ∧ x ≤ 40) := hh; unfold Wcs; omega))
  by_cases c : 0 < n
  · have fa : Fr (fun x i => x = 41) σ (uI (uI σ 41 0 0) 41 1 0) := ((Fr.rf (P := fun x i => x = 41) σ).uI rfl).uI rfl
    obtain ⟨σb, gb, fb, cb⟩ := cls _ fa
    have Sb := fb.sg (fa.sg hq.sg)
    obtain ⟨σ4, g4, f4, m4, n4, u4⟩ := mdl σb (fcs _ _ fa fb) Sb
    have r41 : ∀ i, mI σ4 41 i = mI (uI (uI σ 41 0 0) 41 1 0) 41 i := fun i => ((f4.1 41 i (fun hh => by have hh : (41 = 59 ∧ (i = 2 ∨ i = 48 ∨ i = 58 ∨ (59 ≤ i ∧ i ≤ 63) ∨ i = 72)) ∨ (80 ≤ 41 ∧ 41 ≤ 90) := hh; omega)).1).trans ((fb.1 41 i (fun hh => by have hh : (26 ≤ 41 ∧ 41 ≤ 29) ∨ (38 ≤ 41 ∧ 41 ≤ 40) := hh; omega)).1)
    have U : UnI σ4 (D 1 0) (mns D true true true true (-1) n H) := un_none (by rw [r41, mI_uI, if_neg (by omega), mI_uI, if_pos ⟨rfl, rfl⟩]) (by rw [r41, mI_uI, if_pos ⟨rfl, rfl⟩]) (by rw [u4, if_pos c])
    refine ⟨nI (H 0 0 + n), σb, σ4, t, D, _, ck_111 hq.sg (b_111_0 hq.sg (w_rg hx ?_)), Sb, g4, fin _ _ _ fa fb cb f4 m4 n4 U⟩
    rw [hq.ch.1 0 (by decide), nI_add]
    exact pk_lt 9000 (H 0 0 + n) (fun z => absurd z hl) (fun _ => ⟨fun _ => ⟨_, ck_97 hq.sg (b_97_0 hq.sg rfl), fa.sg hq.sg, gb⟩, fun z => absurd (nI_lt (a := 0) c (by omega)) z⟩) rfl rfl (by omega) (by omega)
  · have n0 : n = 0 := by omega
    subst n0
    obtain ⟨σb, gb, fb, cb⟩ := cls σ (Fr.rf σ)
    have Sb := fb.sg hq.sg
    obtain ⟨σ4, g4, f4, m4, n4, u4⟩ := mdl σb (fcs _ _ (Fr.rf σ) fb) Sb
    have F : Fr (fun x i => ¬ ((41 ≤ x ∧ x ≤ 48) ∨ x = 96)) σ σ4 := (fb.mono (fun x i hh => by have hh : (26 ≤ x ∧ x ≤ 29) ∨ (38 ≤ x ∧ x ≤ 40) := hh; show ¬ _; omega)).tr (f4.mono (fun x i hh => by have hh : (x = 59 ∧ (i = 2 ∨ i = 48 ∨ i = 58 ∨ (59 ≤ i ∧ i ≤ 63) ∨ i = 72)) ∨ (80 ≤ x ∧ x ≤ 90) := hh; show ¬ _; omega))
    have r : ∀ x i, ((41 ≤ x ∧ x ≤ 48) ∨ x = 96) → mI σ4 x i = mI σ x i := fun x i hx => (F.1 x i (fun hh => hh hx)).1
    have U : UnI σ4 (D 1 0) (mns D true true true true (-1) 0 H) := by
      obtain ⟨u, nx, G, a1, a2, a3, a4, a5, a6, a7⟩ := h.2.2.2.1
      refine ⟨u, nx, G, a1, a2, (r 41 0 (by omega)).trans a3, (r 41 1 (by omega)).trans a4, ?_, a6, fun k hk => ?_⟩
      · rw [u4, if_neg (by omega)]
        exact ((fb.1 59 72 (fun hh => by have hh : (26 ≤ 59 ∧ 59 ≤ 29) ∨ (38 ≤ 59 ∧ 59 ≤ 40) := hh; omega)).1).trans a5
      · obtain ⟨⟨q', e', ad'⟩, p', w'⟩ := a7 k hk
        refine ⟨⟨q', e'.fr F (fun x a b hh => hh (Or.inl ⟨by omega, b⟩)), ad'⟩, p'.fr hP F (fun i a b hh => hh (Or.inr rfl)), w'⟩
    refine ⟨nI (H 0 0 + 0), σb, σ4, t, D, _, ck_111 hq.sg (b_111_0 hq.sg (w_rg hx ?_)), Sb, g4, fin _ _ _ (Fr.rf σ) fb cb f4 m4 n4 U⟩
    rw [hq.ch.1 0 (by decide), nI_add]
    exact pk_lt 9000 (H 0 0 + 0) (fun z => absurd z hl) (fun _ => ⟨fun z => absurd z (by decide), fun _ => gb⟩) rfl rfl (by omega) (by omega)
end Call4
