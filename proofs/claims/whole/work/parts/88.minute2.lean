/-! ===== a minute goes by, second side ===== -/
section Minute2
variable {t : Nat} {σ : Mm} {D H : Nat → Nat → Nat} {dr bu st me : Bool} {un : Int32}
theorem w_nb {b : Bool} {A B : Prop} (ht : b = true → A) (hf : b = false → B) : ((if b = true then (0 : Int32) else 1) = 0 → A) ∧ (¬ (if b = true then (0 : Int32) else 1) = 0 → B) := by
  cases b with
  | true => exact ⟨fun _ => ht rfl, fun h => absurd rfl h⟩
  | false => exact ⟨fun h => absurd h (by decide), fun _ => hf rfl⟩
theorem rvn_6 {p : Nat} : rvn D st H p 6 0 = H 6 0 := by
  have h3 : rg3 D H p 6 0 = H 6 0 := by
    unfold rg3
    rw [hu_n (by omega), hu_n (by omega), hu_n (by omega)]
  unfold rvn
  split
  · exact hu_n (by omega)
  · unfold rg
    cases lw D 1 (nmP D (rg3 D H p) p) with
    | none => exact h3
    | some v =>
      show (if st = true ∧ v ≠ 0 then hu (rg3 D H p) 3 0 (H 3 0 ||| 2 ^ p) else rg3 D H p) 6 0 = _
      split
      · rw [hu_n (by omega)]; exact h3
      · exact h3
theorem mnA_6 : mnA D me H 6 0 = H 6 0 := by
  unfold mnA
  split
  · unfold whl
    rw [hu_n (by omega), hu_n (by omega)]
  · rfl
theorem rgl_6 : ∀ n, rgl D st un n H 6 0 = H 6 0 := by
  intro n
  induction n with
  | zero => rfl
  | succ n ih =>
    unfold rgl
    split
    · rw [rvn_6]; exact ih
    · exact ih
theorem ag_6 {l : Nat} : ag D dr bu H l 6 0 = ag4 D dr H l 6 0 := by
  unfold ag
  split
  · exact hu_n (by omega)
  · rfl
theorem whl_whl : whl (whl H) = whl H := by
  funext g j
  unfold whl hu
  by_cases h1 : g = 2 ∧ j = 0
  · rw [if_pos h1, if_pos h1]
  · rw [if_neg h1, if_neg h1]
    by_cases h2 : g = 3 ∧ j = 0
    · rw [if_pos h2, if_pos h2]
    · rw [if_neg h2]
theorem wm_up {b x i : Nat} (h : Wm b false x i) : Wm b dr x i := by
  rcases h with h | h | h | h | h
  · exact Or.inl h
  · exact Or.inr (Or.inl h)
  · exact Or.inr (Or.inr (Or.inl h))
  · exact Or.inr (Or.inr (Or.inr (Or.inl h)))
  · exact absurd h.1 (by decide)
theorem wm_58 {b : Nat} : ¬ Wm b false 59 58 := by
  intro h
  rcases h with h | h | h | h | h
  · omega
  · omega
  · omega
  · omega
  · exact absurd h.1 (by decide)
theorem MH.six {b P v : Nat} (h : MH σ b P H) : MH σ b P (hu H 6 0 v) := by
  obtain ⟨⟨m1, m2, m3, m4, m5, m6⟩, ma, mt, mw⟩ := h
  refine ⟨⟨?_, ?_, ?_, ?_, ?_, ?_⟩, fun i hi => ?_, fun i hi => ?_, fun i hi => ?_⟩
  · rw [hu_n (by omega)]; exact m1
  · rw [hu_n (by omega)]; exact m2
  · rw [hu_n (by omega)]; exact m3
  · rw [hu_n (by omega)]; exact m4
  · rw [hu_n (by omega)]; exact m5
  · rw [hu_n (by omega)]; exact m6
  · rw [hu_n (by omega)]; exact ma i hi
  · rw [hu_n (by omega)]; exact mt i hi
  · rw [hu_n (by omega)]; exact mw i hi
/-- how it is tried, second side -/
def MM (σ : Mm) (dr bu st me : Bool) (un : Int32) : Prop := mI σ 59 59 = (if dr = true then 1 else 0) ∧ mI σ 59 60 = (if bu = true then 0 else 1) ∧ mI σ 59 61 = (if st = true then 0 else 1) ∧ mI σ 59 62 = (if me = true then 0 else 1) ∧ mI σ 59 63 = un
theorem MM.fr {b : Nat} {σ' : Mm} (h : MM σ dr bu st me un) (hf : Fr (Wm b dr) σ σ') : MM σ' dr bu st me un := by
  have r : ∀ i, 59 ≤ i → mI σ' 59 i = mI σ 59 i := fun i hi => (hf.1 59 i (by unfold Wm; omega)).1
  unfold MM at h ⊢
  rw [r 59 (by omega), r 60 (by omega), r 61 (by omega), r 62 (by omega), r 63 (by omega)]
  exact h
/-- the number at hand, where numbers are drawn -/
def DN (σ : Mm) (dr : Bool) (H : Nat → Nat → Nat) : Prop := dr = true → mL σ 59 58 = lN (H 6 0)
theorem v_213l {b : Nat} (hS : Sg t σ) (hb : b < 2) (hT : MT σ D) (hD : WD D) (hH : MH σ b (D 1 0) H) (hW : WH (D 1 0) H) (hM : MM σ dr bu st me un) (hdb : dr = true → bu = true) (hN : DN σ dr H) : ∀ σ2, Fr (Wm b dr) σ σ2 → MH σ2 b (D 1 0) (rgl D st un (D 3 0) (mnA D me H)) → mL σ2 59 58 = mL σ 59 58 → ∀ z3, ∃ σ', Ev 213 146 [.ref 59, .int (nI b), .int (nI 0), z3] [] σ2 (none, σ') ∧ Fr (Wm b dr) σ σ' ∧ MH σ' b (D 1 0) (mn D dr bu st me un H) ∧ DN σ' dr (mn D dr bu st me un H) := by
  have hL := hD.1.1
  have hP := hD.1.2.1
  have hR := hD.1.2.2.2.1
  have hMe := hD.1.2.2.2.2.1
  have eb : (nI b).toNatClampNeg = b := nI_clamp (by omega)
  have ib : inb (nI b) 2 = true := inb_nI hb (by decide)
  have w0 := hW.1
  intro σ2 hF2 hC2 e58
  have hWR : WH (D 1 0) (rgl D st un (D 3 0) (mnA D me H)) := rgl_WH hD (mnA_WH hW) _ (Nat.le_refl _)
  have hR0 : rgl D st un (D 3 0) (mnA D me H) 0 0 = H 0 0 := by rw [rgl_0, mnA_0]
  have hR6 : rgl D st un (D 3 0) (mnA D me H) 6 0 = H 6 0 := by rw [rgl_6, mnA_6]
  have hmn : mn D dr bu st me un H = hu (agl D dr bu (D 0 0) (rgl D st un (D 3 0) (mnA D me H))) 0 0 (H 0 0 + 1) := rfl
  generalize rgl D st un (D 3 0) (mnA D me H) = R at hC2 hWR hR0 hR6 hmn
  rw [hmn]
  refine lp (fun l σ3 => Fr (Wm b dr) σ σ3 ∧ MH σ3 b (D 1 0) (agl D dr bu l R) ∧ DN σ3 dr (agl D dr bu l R)) (fun l σ3 => ∀ z3, ∃ σ', Ev 213 146 [.ref 59, .int (nI b), .int (nI l), z3] [] σ3 (none, σ') ∧ Fr (Wm b dr) σ σ' ∧ MH σ' b (D 1 0) (hu (agl D dr bu (D 0 0) R) 0 0 (H 0 0 + 1)) ∧ DN σ' dr (hu (agl D dr bu (D 0 0) R) 0 0 (H 0 0 + 1))) (D 0 0) ?_ ?_ (Nat.zero_le _) ⟨hF2, hC2, fun z => by rw [e58, hN z]; show lN (H 6 0) = lN (R 6 0); rw [hR6]⟩
  · intro l σ3 hl ⟨hF3, hC3, hN3⟩ ih3 z3
    have hS3 := hF3.sg hS
    have hT3 := hT.fr hF3 (fun x i h => wm_t h)
    have hW3 : WH (D 1 0) (agl D dr bu l R) := agl_WH hWR l (by omega)
    have M3 := hM.fr hF3
    have hsh : (agl D dr bu l R 1 0) ^^^ ((agl D dr bu l R 1 0) &&& (agl D dr bu l R 2 0)) < 2 ^ 31 := Nat.lt_trans (sh_lt hW3) (by decide)
    have q203 := c_203 hS3 hb hC3.1.1 hC3.1.2.1
    have q153 := c_153 (k := l) hS3 hsh (by omega)
    have ei : (14 : Int32) * nI b + nI l = nI (14 * b + l) := by
      rw [show (14 : Int32) = nI 14 from rfl, pk_mul, nI_add]
    have ex : (nI (14 * b + l)).toNatClampNeg = 14 * b + l := nI_clamp (by omega)
    have ix : inb (nI (14 * b + l)) 28 = true := inb_nI (by omega) (by decide)
    by_cases c : (sh (agl D dr bu l R)).testBit l = true
    · -- it ages
      have w7 := hW3.2.2.2.2.2.2.1 l
      have m7 : mI σ3 88 (14 * b + l) = nI (agl D dr bu l R 7 l) := hC3.2.1 l (by omega)
      have Ha : MH (uI σ3 88 (14 * b + l) (nI (min 999 (agl D dr bu l R 7 l + 1)))) b (D 1 0) (ag3 (agl D dr bu l R) l) := hC3.r (k := 7) (x := 14 * b + l) (by omega)
      have Fa : Fr (Wm b dr) σ (uI σ3 88 (14 * b + l) (nI (min 999 (agl D dr bu l R 7 l + 1)))) := hF3.uI (by unfold Wm; omega)
      have Na : mL (uI σ3 88 (14 * b + l) (nI (min 999 (agl D dr bu l R 7 l + 1)))) 59 58 = mL σ3 59 58 := rfl
      generalize ea : uI σ3 88 (14 * b + l) (nI (min 999 (agl D dr bu l R 7 l + 1))) = σa at Ha Fa Na
      have hSa := Fa.sg hS
      have hTa := hT.fr Fa (fun x i h => wm_t h)
      have Ma := hM.fr Fa
      obtain ⟨σ4, q4, f4, n4⟩ := c_212 hSa hb hTa hD Ha hW3 Ma.1 Ma.2.1 hdb (fun z => Na.trans (hN3 z)) (show l < 14 by omega)
      have F4 : Fr (Wm b dr) σ σ4 := Fa.tr (f4.mono (fun x i h => Or.inr h))
      have H4a : MH σ4 b (D 1 0) (ag3 (agl D dr bu l R) l) := Ha.fr hb hP f4 (fun x i h => (by omega : ¬ (x = 80 ∨ x = 81 ∨ (x = 59 ∧ i = 48) ∨ (dr = true ∧ x = 59 ∧ i = 58))))
      have H4 : MH σ4 b (D 1 0) (ag4 D dr (agl D dr bu l R) l) := by
        unfold ag4
        split
        · exact H4a.six
        · exact H4a
      -- what comes behind it
      have nxt : ∃ σ5, ((bu && agf D dr (agl D dr bu l R) l) = false → σ5 = σ4) ∧ ((bu && agf D dr (agl D dr bu l R) l) = true → σ5 = uI σ4 83 b (nI (agl D dr bu l R 2 0 ||| 2 ^ l))) ∧ Fr (Wm b dr) σ σ5 ∧ MH σ5 b (D 1 0) (agl D dr bu (l + 1) R) ∧ DN σ5 dr (agl D dr bu (l + 1) R) := by
        have e1 : agl D dr bu (l + 1) R = ag D dr bu (agl D dr bu l R) l := if_pos c
        rw [e1]
        cases cf : (bu && agf D dr (agl D dr bu l R) l) with
        | false =>
          have ea : ag D dr bu (agl D dr bu l R) l = ag4 D dr (agl D dr bu l R) l := if_neg (by rw [← Bool.and_eq_true, cf]; decide)
          rw [ea]
          exact ⟨σ4, fun _ => rfl, (fun z => by cases z), F4, H4, n4⟩
        | true =>
          have ea : ag D dr bu (agl D dr bu l R) l = hu (ag4 D dr (agl D dr bu l R) l) 2 0 (agl D dr bu l R 2 0 ||| 2 ^ l) := if_pos (by rw [← Bool.and_eq_true, cf])
          rw [ea]
          refine ⟨_, (fun z => by cases z), fun _ => rfl, F4.uI (by unfold Wm; omega), H4.f (by omega), fun z => ?_⟩
          rw [hu_n (by omega)]
          exact n4 z
      obtain ⟨σ5, s1, s2, F5, H5, N5⟩ := nxt
      obtain ⟨σ', h, g⟩ := ih3 σ5 ⟨F5, H5, N5⟩ (.int (nI (14 * b + l)))
      have tail : ∀ s0, s0 = nI (min 999 (agl D dr bu l R 7 l + 1)) → Ev 213 207 [.ref 59, .int (nI b), .int (nI l), .int (nI (14 * b + l))] [.int s0, .int (nI (14 * b + l)), .ref 88] σ3 (none, σ') := by
        intro s0 e0
        refine b_213_207 hS3 ⟨ix, ?_⟩
        rw [ex, e0, ea, nI_1, eb]
        refine ⟨_, _, q4, F4.sg hS, w_b (fun z => ?_) (fun z => ⟨ib, ib, ?_⟩)⟩
        · rw [← s1 z]; exact h
        · intro τ et
          rw [show mI σ4 83 b = nI (ag4 D dr (agl D dr bu l R) l 2 0) from H4.1.2.1, ag4_2, nI_one (by omega), fa_or, ← s2 z] at et
          rw [et]; exact h
      refine ⟨σ', b_213_146 hS3 ?_, g⟩
      rw [hT3.1.1, ei, ex]
      refine pk_lt l (D 0 0) (fun _ => ⟨_, _, q203, hS3, _, _, q153, hS3, w_b (fun z => absurd c (by rw [sh, z]; decide)) (fun _ => ⟨ix, ?_⟩)⟩) (fun z => absurd z (by omega)) rfl rfl (by omega) (by omega)
      rw [m7, nI_1]
      refine pk_lt (agl D dr bu l R 7 l) 999 (fun z => ⟨ix, tail _ ?_⟩) (fun z => tail _ ?_) rfl rfl (by omega) (by omega)
      · rw [Nat.min_eq_right (by omega)]
      · rw [Nat.min_eq_left (by omega)]; rfl
    · have e1 : agl D dr bu (l + 1) R = agl D dr bu l R := if_neg c
      obtain ⟨σ', h, g⟩ := ih3 σ3 (by rw [e1]; exact ⟨hF3, hC3, hN3⟩) (.int (nI (14 * b + l)))
      refine ⟨σ', b_213_146 hS3 ?_, g⟩
      rw [hT3.1.1, ei, nI_1]
      exact pk_lt l (D 0 0) (fun _ => ⟨_, _, q203, hS3, _, _, q153, hS3, w_b (fun _ => h) (fun z => absurd z c)⟩) (fun z => absurd z (by omega)) rfl rfl (by omega) (by omega)
  · intro σ3 ⟨hF3, hC3, hN3⟩ z3
    have hS3 := hF3.sg hS
    have hT3 := hT.fr hF3 (fun x i h => wm_t h)
    have m87 : mI σ3 87 b = nI (H 0 0) := hC3.1.2.2.2.2.2.trans (by rw [agl_0, hR0])
    refine ⟨uI σ3 87 b (nI (H 0 0 + 1)), b_213_146 hS3 ?_, hF3.uI (by unfold Wm; omega), hC3.f (by omega), fun z => ?_⟩
    · rw [hT3.1.1, eb, m87]
      refine pk_lt (D 0 0) (D 0 0) (fun z => absurd z (Nat.lt_irrefl _)) (fun _ => ⟨ib, ib, fun τ et => ?_⟩) rfl rfl (by omega) (by omega)
      rw [et, nI_1]
    · rw [hu_n (by omega)]
      exact hN3 z
theorem v_213r {b : Nat} (hS : Sg t σ) (hb : b < 2) (hT : MT σ D) (hD : WD D) (hH : MH σ b (D 1 0) H) (hW : WH (D 1 0) H) (hM : MM σ dr bu st me un) (hdb : dr = true → bu = true) (hN : DN σ dr H) : ∀ σ2, Fr (Wm b dr) σ σ2 → MH σ2 b (D 1 0) (mnA D me H) → mL σ2 59 58 = mL σ 59 58 → ∀ z3, ∃ σ', Ev 213 57 [.ref 59, .int (nI b), .int (nI 0), z3] [] σ2 (none, σ') ∧ Fr (Wm b dr) σ σ' ∧ MH σ' b (D 1 0) (mn D dr bu st me un H) ∧ DN σ' dr (mn D dr bu st me un H) := by
  have hL := hD.1.1
  have hP := hD.1.2.1
  have hR := hD.1.2.2.2.1
  have hMe := hD.1.2.2.2.2.1
  have eb : (nI b).toNatClampNeg = b := nI_clamp (by omega)
  have ib : inb (nI b) 2 = true := inb_nI hb (by decide)
  have w0 := hW.1
  have lampsL := v_213l hS hb hT hD hH hW hM hdb hN
  intro σ2 hF2 hC2 e58 z3
  have hWA : WH (D 1 0) (mnA D me H) := mnA_WH hW
  have hA0 : mnA D me H 0 0 = H 0 0 := mnA_0
  refine lp (fun i σ3 => Fr (Wm b dr) σ σ3 ∧ MH σ3 b (D 1 0) (rgl D st un i (mnA D me H)) ∧ mL σ3 59 58 = mL σ 59 58) (fun i σ3 => ∃ σ', Ev 213 57 [.ref 59, .int (nI b), .int (nI i), z3] [] σ3 (none, σ') ∧ Fr (Wm b dr) σ σ' ∧ MH σ' b (D 1 0) (mn D dr bu st me un H) ∧ DN σ' dr (mn D dr bu st me un H)) (D 3 0) ?_ ?_ (Nat.zero_le _) ⟨hF2, hC2, e58⟩
  · intro i σ3 hi ⟨hF3, hC3, e583⟩ ih3
    have hS3 := hF3.sg hS
    have hT3 := hT.fr hF3 (fun x i h => wm_t h)
    have hW3 : WH (D 1 0) (rgl D st un i (mnA D me H)) := rgl_WH hD hWA i (by omega)
    have M3 := hM.fr hF3
    have h12 := hD.2.2.2.1 i hi
    have h13 := hD.2.2.2.2.1 i hi
    have e0 : mI σ3 87 b = nI (H 0 0) := hC3.1.2.2.2.2.2.trans (by rw [rgl_0, hA0])
    have w3 := hW3.2.2.2.1
    have i28 : inb (nI i) 28 = true := inb_nI (by omega) (by decide)
    have q153 := c_153 (n := rgl D st un i (mnA D me H) 3 0) (k := D 12 i) hS3 (by omega) (by omega)
    have key : ∀ w, ((D 13 i = H 0 0 ∧ nI (D 12 i) ≠ un → (((rgl D st un i (mnA D me H) 3 0).testBit (D 12 i) = false → ∃ σ4, Cl 210 [.ref 59, .int (nI b), .int (nI (D 12 i))] σ3 (none, σ4) ∧ Sg t σ4 ∧ Ev 213 57 [.ref 59, .int (nI b), .int (nI (i + 1)), z3] [] σ4 w) ∧ ((rgl D st un i (mnA D me H) 3 0).testBit (D 12 i) = true → Ev 213 57 [.ref 59, .int (nI b), .int (nI (i + 1)), z3] [] (uI σ3 86 b (nI (rgl D st un i (mnA D me H) 5 0 + 1))) w))) ∧ (¬ (D 13 i = H 0 0 ∧ nI (D 12 i) ≠ un) → Ev 213 57 [.ref 59, .int (nI b), .int (nI (i + 1)), z3] [] σ3 w)) → Ev 213 57 [.ref 59, .int (nI b), .int (nI i), z3] [] σ3 w := by
      intro w ⟨ky, kn⟩
      refine b_213_57 hS3 ?_
      have t12 : mI σ3 69 i = nI (D 12 i) := hT3.2.2.2.2.2.2.2.2.1 i hi
      have t13 : mI σ3 70 i = nI (D 13 i) := hT3.2.2.2.2.2.2.2.2.2.1 i hi
      have m84 : mI σ3 84 b = nI (rgl D st un i (mnA D me H) 3 0) := hC3.1.2.2.1
      have m86 : mI σ3 86 b = nI (rgl D st un i (mnA D me H) 5 0) := hC3.1.2.2.2.2.1
      rw [hT3.1.2.2.2.1, nI_clamp (n := i) (by omega), t13, t12, eb, e0, M3.2.2.2.2, nI_1, m84]
      refine pk_lt i (D 3 0) (fun _ => ⟨i28, ib, w_p (nI_eq (by omega) (by omega)) (fun z => ⟨i28, fun y => kn (fun x => x.2 y), fun y => ⟨ib, i28, _, _, q153, hS3, w_b (fun x => ⟨i28, ?_⟩) (fun x => ⟨ib, ib, fun τ et => ?_⟩)⟩⟩) (fun z => kn (fun x => z x.1))⟩) (fun z => absurd z (by omega)) rfl rfl (by omega) (by omega)
      · rw [t12]
        exact (ky ⟨z, y⟩).1 x
      · rw [et, m86, nI_1]
        exact (ky ⟨z, y⟩).2 x
    by_cases c : D 13 i = mnA D me H 0 0 ∧ nI (D 12 i) ≠ un
    · have e1 : rgl D st un (i + 1) (mnA D me H) = rvn D st (rgl D st un i (mnA D me H)) (D 12 i) := if_pos c
      by_cases cs : (rgl D st un i (mnA D me H) 3 0).testBit (D 12 i) = true
      · obtain ⟨σ', h, g⟩ := ih3 (uI σ3 86 b (nI (rgl D st un i (mnA D me H) 5 0 + 1))) (by
          rw [e1, rvn, if_pos cs]
          exact ⟨hF3.uI (by unfold Wm; omega), hC3.f (by omega), e583⟩)
        exact ⟨σ', key _ ⟨fun _ => ⟨fun z => absurd cs (by rw [z]; decide), fun _ => h⟩, fun z => absurd (by rw [hA0] at c; exact c) z⟩, g⟩
      · obtain ⟨σ4, q4, f4, c4⟩ := c_210 (dr := false) hS3 hb hT3 hD hC3 hW3 M3.2.2.1 h12
        have f4' : Fr (Wm b dr) σ3 σ4 := f4.mono (fun x i h => wm_up h)
        have e584 : mL σ4 59 58 = mL σ3 59 58 := (f4.1 59 58 wm_58).2
        obtain ⟨σ', h, g⟩ := ih3 σ4 (by
          rw [e1, rvn, if_neg cs]
          exact ⟨hF3.tr f4', c4, e584.trans e583⟩)
        exact ⟨σ', key _ ⟨fun _ => ⟨fun _ => ⟨σ4, q4, (hF3.tr f4').sg hS, h⟩, fun z => absurd z cs⟩, fun z => absurd (by rw [hA0] at c; exact c) z⟩, g⟩
    · have e1 : rgl D st un (i + 1) (mnA D me H) = rgl D st un i (mnA D me H) := if_neg c
      obtain ⟨σ', h, g⟩ := ih3 σ3 (by rw [e1]; exact ⟨hF3, hC3, e583⟩)
      exact ⟨σ', key _ ⟨fun z => absurd (by rw [hA0]; exact z) c, fun _ => h⟩, g⟩
  · intro σ3 ⟨hF3, hC3, e583⟩
    obtain ⟨σ', h, g⟩ := lampsL σ3 hF3 hC3 e583 z3
    refine ⟨σ', b_213_57 (hF3.sg hS) ?_, g⟩
    rw [(hT.fr hF3 (fun x i h => wm_t h)).1.2.2.2.1]
    exact pk_lt (D 3 0) (D 3 0) (fun z => absurd z (Nat.lt_irrefl _)) (fun _ => h) rfl rfl (by omega) (by omega)
theorem c_213 {b : Nat} (hS : Sg t σ) (hb : b < 2) (hT : MT σ D) (hD : WD D) (hH : MH σ b (D 1 0) H) (hW : WH (D 1 0) H) (hM : MM σ dr bu st me un) (hdb : dr = true → bu = true) (hN : DN σ dr H) : ∃ σ', Cl 213 [.ref 59, .int (nI b)] σ (none, σ') ∧ Fr (Wm b dr) σ σ' ∧ MH σ' b (D 1 0) (mn D dr bu st me un H) ∧ DN σ' dr (mn D dr bu st me un H) := by
  have hL := hD.1.1
  have hP := hD.1.2.1
  have hR := hD.1.2.2.2.1
  have hMe := hD.1.2.2.2.2.1
  have eb : (nI b).toNatClampNeg = b := nI_clamp (by omega)
  have ib : inb (nI b) 2 = true := inb_nI hb (by decide)
  have w0 := hW.1
  have ringsL := v_213r hS hb hT hD hH hW hM hdb hN
  -- the mendings
  suffices h : ∃ σ', Ev 213 2 [.ref 59, .int (nI b), .int (nI 0), .retAddr 0] [] σ (none, σ') ∧ Fr (Wm b dr) σ σ' ∧ MH σ' b (D 1 0) (mn D dr bu st me un H) ∧ DN σ' dr (mn D dr bu st me un H) by
    obtain ⟨σ', h, g⟩ := h
    exact ⟨σ', ck_213 hS (b_213_0 hS h), g⟩
  cases hme : me with
  | false =>
    rw [hme] at ringsL hM
    obtain ⟨σ', h, g⟩ := ringsL σ (Fr.rf σ) (by rw [mnA, if_neg (fun z => absurd z.1 (by decide))]; exact hH) rfl (.retAddr 0)
    refine ⟨σ', b_213_2 hS ?_, g⟩
    rw [hT.1.2.2.2.2, hM.2.2.2.1]
    exact ⟨fun _ => ⟨fun z => absurd z (by decide), fun _ => h⟩, fun _ => h⟩
  | true =>
    rw [hme] at ringsL hM
    refine lp (fun k σ1 => Fr (Wm b dr) σ σ1 ∧ MH σ1 b (D 1 0) (if mds D (H 0 0) k = true then whl H else H) ∧ mL σ1 59 58 = mL σ 59 58) (fun k σ1 => ∃ σ', Ev 213 2 [.ref 59, .int (nI b), .int (nI k), .retAddr 0] [] σ1 (none, σ') ∧ Fr (Wm b dr) σ σ' ∧ MH σ' b (D 1 0) (mn D dr bu st true un H) ∧ DN σ' dr (mn D dr bu st true un H)) (D 4 0) ?_ ?_ (Nat.zero_le _) ⟨Fr.rf σ, hH, rfl⟩
    · intro k σ1 hk ⟨hF1, hC1, e581⟩ ih
      have hS1 := hF1.sg hS
      have hT1 := hT.fr hF1 (fun x i h => wm_t h)
      have M1 := hM.fr hF1
      have h14 := hD.2.2.2.2.2.1 k hk
      have t14 : mI σ1 71 k = nI (D 14 k) := hT1.2.2.2.2.2.2.2.2.2.2.1 k hk
      have e0 : mI σ1 87 b = nI (H 0 0) := hC1.1.2.2.2.2.2.trans (by
        split
        · unfold whl
          rw [hu_n (by omega), hu_n (by omega)]
        · rfl)
      have key : ∀ w, ((D 14 k = H 0 0 → Ev 213 2 [.ref 59, .int (nI b), .int (nI (k + 1)), .retAddr 0] [] (uI (uI σ1 84 b 0) 83 b 0) w) ∧ (¬ D 14 k = H 0 0 → Ev 213 2 [.ref 59, .int (nI b), .int (nI (k + 1)), .retAddr 0] [] σ1 w)) → Ev 213 2 [.ref 59, .int (nI b), .int (nI k), .retAddr 0] [] σ1 w := by
        intro w ⟨ky, kn⟩
        refine b_213_2 hS1 ?_
        rw [hT1.1.2.2.2.2, M1.2.2.2.1, nI_clamp (n := k) (by omega), t14, eb, e0, nI_1]
        exact pk_lt k (D 4 0) (fun _ => ⟨fun _ => ⟨inb_nI (by omega) (by decide), ib, w_p (nI_eq (by omega) (by omega)) (fun z => ⟨ib, ib, fun τ et => by rw [et]; exact ky z⟩) (fun z => kn z)⟩, fun z => absurd rfl z⟩) (fun z => absurd z (by omega)) rfl rfl (by omega) (by omega)
      by_cases c : D 14 k = H 0 0
      · have e1 : mds D (H 0 0) (k + 1) = true := by
          show (mds D (H 0 0) k || decide (D 14 k = H 0 0)) = true
          rw [decide_eq_true c, Bool.or_true]
        have hw : hu (hu (if mds D (H 0 0) k = true then whl H else H) 3 0 0) 2 0 0 = whl H := by
          split
          · exact whl_whl
          · rfl
        have h2 : MH (uI (uI σ1 84 b 0) 83 b 0) b (D 1 0) (hu (hu (if mds D (H 0 0) k = true then whl H else H) 3 0 0) 2 0 0) := (hC1.f (f := 3) (x := 84) (v := 0) (by omega)).f (f := 2) (x := 83) (v := 0) (by omega)
        rw [hw] at h2
        obtain ⟨σ', h, g⟩ := ih (uI (uI σ1 84 b 0) 83 b 0) ⟨(hF1.uI (by unfold Wm; omega)).uI (by unfold Wm; omega), by rw [e1, if_pos rfl]; exact h2, e581⟩
        exact ⟨σ', key _ ⟨fun _ => h, fun z => absurd c z⟩, g⟩
      · have e1 : mds D (H 0 0) (k + 1) = mds D (H 0 0) k := by
          show (mds D (H 0 0) k || decide (D 14 k = H 0 0)) = _
          rw [decide_eq_false c, Bool.or_false]
        obtain ⟨σ', h, g⟩ := ih σ1 ⟨hF1, by rw [e1]; exact hC1, e581⟩
        exact ⟨σ', key _ ⟨fun z => absurd z c, fun _ => h⟩, g⟩
    · intro σ1 ⟨hF1, hC1, e581⟩
      have hA : mnA D true H = if mds D (H 0 0) (D 4 0) = true then whl H else H := by
        unfold mnA
        by_cases c : mds D (H 0 0) (D 4 0) = true
        · rw [if_pos ⟨rfl, c⟩, if_pos c]
        · rw [if_neg (fun z => c z.2), if_neg c]
      obtain ⟨σ', h, g⟩ := ringsL σ1 hF1 (by rw [hA]; exact hC1) e581 (.retAddr 0)
      refine ⟨σ', b_213_2 (hF1.sg hS) ?_, g⟩
      rw [(hT.fr hF1 (fun x i h => wm_t h)).1.2.2.2.2]
      exact pk_lt (D 4 0) (D 4 0) (fun z => absurd z (Nat.lt_irrefl _)) (fun _ => h) rfl rfl (by omega) (by omega)
theorem c_214 {n : Nat} (hS : Sg t σ) (hT : MT σ D) (hD : WD D) (hH : MH σ 1 (D 1 0) H) (hW : WH (D 1 0) H) (hM : MM σ dr bu st me un) (hdb : dr = true → bu = true) (hN : DN σ dr H) (hn : H 0 0 + n < 2 ^ 20) : ∃ σ', Cl 214 [.ref 59, .int (nI n)] σ (none, σ') ∧ Fr (Wm 1 dr) σ σ' ∧ MH σ' 1 (D 1 0) (mns D dr bu st me un n H) ∧ DN σ' dr (mns D dr bu st me un n H) := by
  suffices h : ∃ σ', Ev 214 2 [.ref 59, .int (nI n), .int (nI 0)] [] σ (none, σ') ∧ Fr (Wm 1 dr) σ σ' ∧ MH σ' 1 (D 1 0) (mns D dr bu st me un n H) ∧ DN σ' dr (mns D dr bu st me un n H) by
    obtain ⟨σ', h, g⟩ := h
    exact ⟨σ', ck_214 hS (b_214_0 hS h), g⟩
  refine lp (fun k σ1 => Fr (Wm 1 dr) σ σ1 ∧ MH σ1 1 (D 1 0) (mns D dr bu st me un k H) ∧ DN σ1 dr (mns D dr bu st me un k H)) (fun k σ1 => ∃ σ', Ev 214 2 [.ref 59, .int (nI n), .int (nI k)] [] σ1 (none, σ') ∧ Fr (Wm 1 dr) σ σ' ∧ MH σ' 1 (D 1 0) (mns D dr bu st me un n H) ∧ DN σ' dr (mns D dr bu st me un n H)) n ?_ ?_ (Nat.zero_le _) ⟨Fr.rf σ, hH, hN⟩
  · intro k σ1 hk ⟨hF, hC, hN1⟩ ih
    have hS1 := hF.sg hS
    obtain ⟨σ2, q2, f2, c2, n2⟩ := c_213 (b := 1) hS1 (by decide) (hT.fr hF (fun x i h => wm_t h)) hD hC (mns_WH hD hW k (by omega)) (hM.fr hF) hdb hN1
    obtain ⟨σ', h, g⟩ := ih σ2 ⟨hF.tr f2, c2, n2⟩
    refine ⟨σ', b_214_2 hS1 ?_, g⟩
    rw [nI_1]
    exact pk_lt k n (fun _ => ⟨σ2, q2, (hF.tr f2).sg hS, h⟩) (fun z => absurd z (by omega)) rfl rfl (by omega) (by omega)
  · intro σ1 ⟨hF, hC, hN1⟩
    exact ⟨σ1, b_214_2 (hF.sg hS) (pk_lt n n (fun z => absurd z (Nat.lt_irrefl _)) (fun _ => rfl) rfl rfl (by omega) (by omega)), hF, hC, hN1⟩
end Minute2
