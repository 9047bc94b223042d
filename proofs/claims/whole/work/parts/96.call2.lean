/-! ===== calls that change the house: ring, mend, undo, go ===== -/
section Call2
variable {t : Nat} {σ : Mm} {D H : Nat → Nat → Nat}
def Wcs (x i : Nat) : Prop := x ≤ 58 ∨ (x = 59 ∧ (i = 2 ∨ (59 ≤ i ∧ i ≤ 63)))
theorem mside {σ' : Mm} (hq : Q t σ D H) (f : Fr Wcs σ σ') : MT σ' D ∧ MH σ' 0 (D 1 0) H ∧ mL σ' 59 58 = lN (H 6 0) :=
  ⟨hq.mt.fr f (fun x i a b => by unfold Wcs at b; omega), hq.mh.fr (by decide) hq.hP f (fun x i a b => by unfold Wcs at b; omega), ((f.1 59 58 (by unfold Wcs; omega)).2).trans hq.nu⟩
theorem rg_adj {p : Nat} {st : Bool} : Adj p H (rg D st H p) := by
  have h3 : ∀ f i, (f = 0 ∨ f = 5 ∨ f = 6 ∨ f = 7 ∨ ((f = 8 ∨ f = 9) ∧ i ≠ p)) → rg D st H p f i = H f i := by
    intro f i hf
    have a3 : rg3 D H p f i = H f i := by
      unfold rg3
      rw [hu_n (by omega), hu_n (by omega), hu_n (by omega)]
    unfold rg
    cases lw D 1 (nmP D (rg3 D H p) p) with
    | none => exact a3
    | some v =>
      show (if st = true ∧ v ≠ 0 then hu (rg3 D H p) 3 0 (H 3 0 ||| 2 ^ p) else rg3 D H p) f i = _
      split
      · rw [hu_n (by omega)]; exact a3
      · exact a3
  exact ⟨⟨(h3 0 0 (by omega)).symm, (h3 5 0 (by omega)).symm, (h3 6 0 (by omega)).symm⟩, fun i => (h3 7 i (by omega)).symm, fun i hi => ⟨(h3 8 i (by omega)).symm, (h3 9 i (by omega)).symm⟩⟩
theorem i_ring {x : Int32} (h : Inv t σ D H) : PrS 108 220 [.int x] t σ := by
  have hq := h.1
  have hP := hq.hP
  have w3 := hq.wh.2.2.2.1
  rcases bad_or x (show D 1 0 < 2 ^ 31 by omega) with b | ⟨p, hp, rfl⟩
  · exact (PrI.mk0 hq (v := -1) (ck_108 hq.sg (b_108_0 hq.sg ⟨_, _, c_143n hq.sg hq.ct.1.2.1 b, hq.sg, fun _ => rfl, fun z => absurd rfl z⟩)) ⟨_, ck_220 hq.sg (b_220_0 hq.sg ⟨_, _, c_200n hq.th.sg hq.th.mt.1.2.1 b, hq.th.sg, fun _ => rfl, fun z => absurd rfl z⟩), wq_th⟩).st h
  have y143 := c_143y hq.sg hq.ct.1.2.1 (by omega) hp
  cases hs : (H 3 0).testBit p with
  | true =>
    refine (PrI.mk0 hq (v := -2) (ck_108 hq.sg (b_108_0 hq.sg ⟨_, _, y143, hq.sg, fun z => absurd z n10, fun _ => ?_⟩)) ⟨_, ck_220 hq.sg (b_220_0 hq.sg ⟨_, _, c_200y hq.th.sg hq.th.mt.1.2.1 (by omega) hp, hq.th.sg, fun z => absurd z n10, fun _ => ?_⟩), wq_th⟩).st h
    · rw [hq.ch.1 3 (by decide)]
      exact bitc (by omega) (by omega) (fun z => absurd hs (by rw [z]; decide)) (fun _ => rfl)
    · rw [show mI (uI σ 59 2 0) 84 0 = nI (H 3 0) from hq.th.mh.1.2.2.1]
      exact ⟨_, _, c_153 hq.th.sg (by omega) (by omega), hq.th.sg, w_b (fun z => absurd hs (by rw [z]; decide)) (fun _ => rfl)⟩
  | false =>
    obtain ⟨σ1, g1, f1, nxt⟩ := remember (x := nI p) (q := p) h (Or.inr ⟨by omega, rfl⟩)
    have S1 := f1.sg hq.sg
    have ht := hq.tt
    obtain ⟨σ2, g2, f2, c2⟩ := c_5 S1
    have S2 := f2.sg S1
    have m2 := cc_cm (dr := true) c2 rfl
    have C2 : CH σ2 26 H := (hq.ch.fr f1 (fun x i a b hh => by have hh : 41 ≤ x ∧ x ≤ 48 := hh; omega)).fr f2 (fun x i a b hh => by unfold Wc at hh; omega)
    have T2 : CT σ2 t D := (hq.ct.fr f1 (fun x i a b hh => by have hh : 41 ≤ x ∧ x ≤ 48 := hh; omega)).fr f2 (fun x i a b hh => by unfold Wc at hh; omega)
    obtain ⟨σ3, g3, f3, c3⟩ := c_9 (a2 := 26) (p := p) S2 hq.tt (Or.inl rfl) T2 hq.wd C2 hq.wh m2.2.2.1 hp
    have S3 := f3.sg S2
    have er : rvn D true H p = rg D true H p := if_neg (by rw [hs]; decide)
    have c3 : CH σ3 26 (rg D true H p) := by rw [← er]; exact c3
    have hW' : WH (D 1 0) (rg D true H p) := rg_WH hq.wd hq.wh hp
    have hsh := sh_lt hW'
    -- the second side
    obtain ⟨σ5, g5, f5, pl5⟩ := c_197 (t := t) (σ := uI σ3 59 2 0) S3
    have F25 : Fr (fun x i => (26 ≤ x ∧ x ≤ 29) ∨ (38 ≤ x ∧ x ≤ 40) ∨ (x = 59 ∧ (i = 2 ∨ (59 ≤ i ∧ i ≤ 63)))) σ1 σ5 := by
      have a : Fr (fun x i => (26 ≤ x ∧ x ≤ 29) ∨ (38 ≤ x ∧ x ≤ 40) ∨ (x = 59 ∧ (i = 2 ∨ (59 ≤ i ∧ i ≤ 63)))) σ1 σ3 := (f2.mono (fun x i hh => by unfold Wc at hh; exact Or.inr (Or.inl (by omega)))).tr (f3.mono (fun x i hh => by
        unfold Wru at hh
        rcases hh with hh | hh | hh
        · exact Or.inl (by omega)
        · exact Or.inr (Or.inl (by omega))
        · exact Or.inr (Or.inl (by omega))))
      exact (a.uI (a := 59) (j := 2) (v := 0) (Or.inr (Or.inr (by omega)))).tr (f5.mono (fun x i hh => by unfold Wp at hh; exact Or.inr (Or.inr (by omega))))
    obtain ⟨σ6, g6, f6, fin⟩ := nxt σ5 F25
    have Fcs3 : Fr Wcs σ (uI σ3 59 2 0) := ((f1.mono (fun x i hh => by have hh : 41 ≤ x ∧ x ≤ 48 := hh; unfold Wcs; omega)).tr ((f2.mono (fun x i hh => by unfold Wc at hh; unfold Wcs; omega)).tr (f3.mono (fun x i hh => by unfold Wru at hh; unfold Wcs; omega)))).uI (by unfold Wcs; omega)
    have Fcs5 : Fr Wcs σ σ5 := Fcs3.tr (f5.mono (fun x i hh => by unfold Wp at hh; unfold Wcs; omega))
    obtain ⟨mt3, mh3, _⟩ := mside hq Fcs3
    obtain ⟨mt5, mh5, nu5⟩ := mside hq Fcs5
    have S5 := Fcs5.sg hq.sg
    have S6 := f6.sg S5
    have mt6 := mt5.fr f6 (fun x i a hh => by have hh : x = 96 ∨ (x = 59 ∧ i = 72) := hh; omega)
    have mh6 := mh5.fr (by decide) hP f6 (fun x i a hh => by have hh : x = 96 ∨ (x = 59 ∧ i = 72) := hh; omega)
    have e61 : mI σ6 59 61 = if true = true then 0 else 1 := ((f6.1 59 61 (fun hh => by have hh : 59 = 96 ∨ (59 = 59 ∧ 61 = 72) := hh; omega)).1).trans pl5.2.2.1
    obtain ⟨σ7, g7, f7, mh7⟩ := c_210 (b := 0) (dr := false) (st := true) S6 (by decide) mt6 hq.wd mh6 hq.wh e61 hp
    have f7' : Fr (fun x i => (x = 59 ∧ (i = 2 ∨ i = 48 ∨ (59 ≤ i ∧ i ≤ 63))) ∨ (80 ≤ x ∧ x ≤ 90)) σ6 σ7 := f7.mono (fun x i hh => by
      rcases hh with hh | hh | hh | hh | hh
      · exact Or.inr (by omega)
      · exact Or.inr (by omega)
      · exact Or.inr (by omega)
      · exact Or.inl (by omega)
      · exact absurd hh.1 (by decide))
    have S7 := f7.sg S6
    have C7 : CH σ7 26 (rg D true H p) := by
      have a : CH (uI σ3 59 2 0) 26 (rg D true H p) := c3.fr (W := fun x i => x = 59) ((Fr.rf (P := fun x i => x = 59) _).uI rfl) (fun x i a b hh => by have hh : x = 59 := hh; omega)
      have b := a.fr f5 (fun x i a b hh => by unfold Wp at hh; omega)
      have c := b.fr f6 (fun x i a b hh => by have hh : x = 96 ∨ (x = 59 ∧ i = 72) := hh; omega)
      exact c.fr f7' (fun x i a b hh => by have hh : (x = 59 ∧ (i = 2 ∨ i = 48 ∨ (59 ≤ i ∧ i ≤ 63))) ∨ (80 ≤ x ∧ x ≤ 90) := hh; omega)
    have n7 : mL σ7 59 58 = lN (rg D true H p 6 0) := by
      rw [← (rg_adj (D := D) (st := true) (H := H) (p := p)).1.2.2]
      exact ((f7.1 59 58 wm_58).2).trans (((f6.1 59 58 (fun hh => by have hh : 59 = 96 ∨ (59 = 59 ∧ 58 = 72) := hh; omega)).2).trans nu5)
    have inv := fin σ7 _ f7' C7 mh7 n7 hW' rg_adj
    have hsh1 : rg D true H p 1 0 ^^^ (rg D true H p 1 0 &&& rg D true H p 2 0) < 2 ^ 14 := hsh
    have hsh2 : rg D true H p 1 0 ^^^ (rg D true H p 1 0 &&& rg D true H p 2 0) < 2 ^ 31 := Nat.lt_trans hsh (by decide)
    refine ⟨nI (pcn (sh (rg D true H p))), σ3, σ7, t, D, _, ?_, S3, ?_, inv⟩
    · refine ck_108 hq.sg (b_108_0 hq.sg ⟨_, _, y143, hq.sg, fun z => absurd z n10, fun _ => ?_⟩)
      rw [hq.ch.1 3 (by decide)]
      exact bitc (by omega) (by omega) (fun _ => ⟨σ1, g1, S1, σ2, g2, S2, σ3, g3, S3, _, _, c_20 S3 (Or.inl rfl) (c3.1 1 (by decide)) (c3.1 2 (by decide)), S3, _, _, c_276 S3 hsh1, S3, rfl⟩) (fun z => absurd z (by rw [hs]; decide))
    · have S3' : Sg t (uI σ3 59 2 0) := S3
      refine ck_220 S3 (b_220_0 S3 ⟨_, _, c_200y S3' mt3.1.2.1 (by omega) hp, S3', fun z => absurd z n10, fun _ => ?_⟩)
      rw [show mI (uI σ3 59 2 0) 84 0 = nI (H 3 0) from mh3.1.2.2.1]
      exact ⟨_, _, c_153 S3' (by omega) (by omega), S3', w_b (fun _ => ⟨σ5, g5, S5, σ6, g6, S6, σ7, g7, S7, _, _, c_203 (b := 0) S7 (by decide) mh7.1.1 mh7.1.2.1, S7, _, _, c_202 S7 hsh2, S7, rfl⟩) (fun z => absurd z (by rw [hs]; decide))⟩
theorem i_mend (h : Inv t σ D H) : PrS 110 222 [] t σ := by
  have hq := h.1
  have hP := hq.hP
  have w2 := hq.wh.2.2.1
  have w3 := hq.wh.2.2.2.1
  have z3 : nI (H 3 0) = 0 ↔ H 3 0 = 0 := nI_i0 (by omega)
  have z2 : nI (H 2 0) = 0 ↔ H 2 0 = 0 := nI_i0 (by omega)
  have m83 : mI (uI σ 59 2 0) 83 0 = nI (H 2 0) := hq.th.mh.1.2.1
  have m84 : mI (uI σ 59 2 0) 84 0 = nI (H 3 0) := hq.th.mh.1.2.2.1
  by_cases c : H 3 0 = 0 ∧ H 2 0 = 0
  · refine (PrI.mk0 hq (v := 0) (ck_110 hq.sg (b_110_0 hq.sg ?_)) ⟨_, ck_222 hq.sg (b_222_0 hq.sg ?_), wq_th⟩).st h
    · rw [hq.ch.1 3 (by decide), hq.ch.1 2 (by decide)]
      exact w_p z3 (fun _ => w_p z2 (fun _ => rfl) (fun z => absurd c.2 z)) (fun z => absurd c.1 z)
    · rw [m83, m84]
      exact w_p z3 (fun _ => w_p z2 (fun _ => rfl) (fun z => absurd c.2 z)) (fun z => absurd c.1 z)
  · obtain ⟨σ1, g1, f1, nxt⟩ := remember (x := -1) (q := 10) h (Or.inl ⟨rfl, rfl⟩)
    have S1 := f1.sg hq.sg
    have C1 : CH σ1 26 H := hq.ch.fr f1 (fun x i a b hh => by have hh : 41 ≤ x ∧ x ≤ 48 := hh; omega)
    have C2 : CH (uI (uI σ1 26 3 0) 26 2 0) 26 (whl H) := (C1.f (f := 3) (v := 0) (by decide)).f (f := 2) (v := 0) (by decide)
    have S2 : Sg t (uI (uI σ1 26 3 0) 26 2 0) := S1
    have F2 : Fr (fun x i => (26 ≤ x ∧ x ≤ 29) ∨ (38 ≤ x ∧ x ≤ 40) ∨ (x = 59 ∧ (i = 2 ∨ (59 ≤ i ∧ i ≤ 63)))) σ1 (uI (uI (uI σ1 26 3 0) 26 2 0) 59 2 0) := (((Fr.rf (P := fun x i => (26 ≤ x ∧ x ≤ 29) ∨ (38 ≤ x ∧ x ≤ 40) ∨ (x = 59 ∧ (i = 2 ∨ (59 ≤ i ∧ i ≤ 63)))) σ1).uI (Or.inl (by omega))).uI (Or.inl (by omega))).uI (Or.inr (Or.inr (by omega)))
    obtain ⟨σ6, g6, f6, fin⟩ := nxt _ F2
    have Fcs : Fr Wcs σ (uI (uI (uI σ1 26 3 0) 26 2 0) 59 2 0) := (((f1.mono (fun x i hh => by have hh : 41 ≤ x ∧ x ≤ 48 := hh; unfold Wcs; omega)).uI (by unfold Wcs; omega)).uI (by unfold Wcs; omega)).uI (by unfold Wcs; omega)
    obtain ⟨mt3, mh3, nu3⟩ := mside hq Fcs
    have S3 := Fcs.sg hq.sg
    have S6 := f6.sg S3
    have mh6 := mh3.fr (by decide) hP f6 (fun x i a hh => by have hh : x = 96 ∨ (x = 59 ∧ i = 72) := hh; omega)
    have mh7 : MH (uI (uI σ6 84 0 0) 83 0 0) 0 (D 1 0) (whl H) := (mh6.f (f := 3) (x := 84) (v := 0) (by omega)).f (f := 2) (x := 83) (v := 0) (by omega)
    have F7 : Fr (fun x i => (x = 59 ∧ (i = 2 ∨ i = 48 ∨ (59 ≤ i ∧ i ≤ 63))) ∨ (80 ≤ x ∧ x ≤ 90)) σ6 (uI (uI σ6 84 0 0) 83 0 0) := ((Fr.rf _).uI (Or.inr (by omega))).uI (Or.inr (by omega))
    have C7 : CH (uI (uI σ6 84 0 0) 83 0 0) 26 (whl H) := by
      have a : CH (uI (uI (uI σ1 26 3 0) 26 2 0) 59 2 0) 26 (whl H) := C2.fr (W := fun x i => x = 59) ((Fr.rf (P := fun x i => x = 59) _).uI rfl) (fun x i a b hh => by have hh : x = 59 := hh; omega)
      have c := a.fr f6 (fun x i a b hh => by have hh : x = 96 ∨ (x = 59 ∧ i = 72) := hh; omega)
      exact c.fr F7 (fun x i a b hh => by have hh : (x = 59 ∧ (i = 2 ∨ i = 48 ∨ (59 ≤ i ∧ i ≤ 63))) ∨ (80 ≤ x ∧ x ≤ 90) := hh; omega)
    have hw : ∀ f i, f ≠ 2 → f ≠ 3 → whl H f i = H f i := fun f i a b => by
      unfold whl
      rw [hu_n (by omega), hu_n (by omega)]
    have A : Adj 10 H (whl H) := ⟨⟨(hw 0 0 (by decide) (by decide)).symm, (hw 5 0 (by decide) (by decide)).symm, (hw 6 0 (by decide) (by decide)).symm⟩, fun i => (hw 7 i (by decide) (by decide)).symm, fun i _ => ⟨(hw 8 i (by decide) (by decide)).symm, (hw 9 i (by decide) (by decide)).symm⟩⟩
    have inv := fin _ (whl H) F7 C7 mh7 (by
      rw [hw 6 0 (by decide) (by decide)]
      exact ((f6.1 59 58 (fun hh => by have hh : 59 = 96 ∨ (59 = 59 ∧ 58 = 72) := hh; omega)).2).trans nu3) (whl_WH hq.wh) A
    have n83 : mI (uI (uI (uI σ1 26 3 0) 26 2 0) 59 2 0) 83 0 = nI (H 2 0) := mh3.1.2.1
    have n84 : mI (uI (uI (uI σ1 26 3 0) 26 2 0) 59 2 0) 84 0 = nI (H 3 0) := mh3.1.2.2.1
    refine ⟨1, uI (uI σ1 26 3 0) 26 2 0, _, t, D, _, ck_110 hq.sg (b_110_0 hq.sg ?_), S2, ck_222 S2 (b_222_0 S2 ?_), inv⟩
    · rw [hq.ch.1 3 (by decide), hq.ch.1 2 (by decide)]
      exact w_p z3 (fun y => w_p z2 (fun w => absurd ⟨y, w⟩ c) (fun _ => ⟨σ1, g1, S1, _, c_24 S1 (Or.inl rfl), S2, rfl⟩)) (fun _ => ⟨σ1, g1, S1, _, c_24 S1 (Or.inl rfl), S2, rfl⟩)
    · rw [n83, n84]
      exact w_p z3 (fun y => w_p z2 (fun w => absurd ⟨y, w⟩ c) (fun _ => ⟨σ6, g6, S6, rfl⟩)) (fun _ => ⟨σ6, g6, S6, rfl⟩)
end Call2
