/-! ===== a minute goes by ===== -/
/-- whether it is mended in minute m, of the first n mendings -/
def mds (D : Nat → Nat → Nat) (m : Nat) : Nat → Bool
  | 0 => false
  | n + 1 => mds D m n || decide (D 14 n = m)
def whl (H : Nat → Nat → Nat) : Nat → Nat → Nat := hu (hu H 3 0 0) 2 0 0
def mnA (D : Nat → Nat → Nat) (me : Bool) (H : Nat → Nat → Nat) : Nat → Nat → Nat := if me = true ∧ mds D (H 0 0) (D 4 0) = true then whl H else H
def rgl (D : Nat → Nat → Nat) (st : Bool) (un : Int32) : Nat → (Nat → Nat → Nat) → Nat → Nat → Nat
  | 0, H => H
  | n + 1, H => if D 13 n = H 0 0 ∧ nI (D 12 n) ≠ un then rvn D st (rgl D st un n H) (D 12 n) else rgl D st un n H
def agl (D : Nat → Nat → Nat) (dr bu : Bool) : Nat → (Nat → Nat → Nat) → Nat → Nat → Nat
  | 0, H => H
  | n + 1, H => if (sh (agl D dr bu n H)).testBit n = true then ag D dr bu (agl D dr bu n H) n else agl D dr bu n H
def mn (D : Nat → Nat → Nat) (dr bu st me : Bool) (un : Int32) (H : Nat → Nat → Nat) : Nat → Nat → Nat := hu (agl D dr bu (D 0 0) (rgl D st un (D 3 0) (mnA D me H))) 0 0 (H 0 0 + 1)
def mns (D : Nat → Nat → Nat) (dr bu st me : Bool) (un : Int32) : Nat → (Nat → Nat → Nat) → Nat → Nat → Nat
  | 0, H => H
  | n + 1, H => mn D dr bu st me un (mns D dr bu st me un n H)
section Minute
variable {t : Nat} {σ : Mm} {D H : Nat → Nat → Nat} {dr bu st me : Bool} {un : Int32}
theorem rvn_0 {p : Nat} : rvn D st H p 0 0 = H 0 0 := by
  have h3 : rg3 D H p 0 0 = H 0 0 := by
    unfold rg3
    rw [hu_n (by omega), hu_n (by omega), hu_n (by omega)]
  unfold rvn
  split
  · exact hu_n (by omega)
  · unfold rg
    cases lw D 1 (nmP D (rg3 D H p) p) with
    | none => exact h3
    | some v =>
      show (if st = true ∧ v ≠ 0 then hu (rg3 D H p) 3 0 (H 3 0 ||| 2 ^ p) else rg3 D H p) 0 0 = _
      split
      · rw [hu_n (by omega)]; exact h3
      · exact h3
theorem ag_0 {l : Nat} : ag D dr bu H l 0 0 = H 0 0 := by
  have h3 : ag3 H l 0 0 = H 0 0 := hu_n (by omega)
  have h4 : ag4 D dr H l 0 0 = H 0 0 := by
    unfold ag4
    split
    · rw [hu_n (by omega)]; exact h3
    · exact h3
  unfold ag
  split
  · rw [hu_n (by omega)]; exact h4
  · exact h4
theorem whl_WH {P : Nat} (hW : WH P H) : WH P (whl H) := (hW.up (by omega)).up (by omega)
theorem mnA_WH {P : Nat} (hW : WH P H) : WH P (mnA D me H) := by
  unfold mnA
  split
  · exact whl_WH hW
  · exact hW
theorem mnA_0 : mnA D me H 0 0 = H 0 0 := by
  unfold mnA
  split
  · unfold whl
    rw [hu_n (by omega), hu_n (by omega)]
  · rfl
theorem rgl_0 : ∀ n, rgl D st un n H 0 0 = H 0 0 := by
  intro n
  induction n with
  | zero => rfl
  | succ n ih =>
    unfold rgl
    split
    · rw [rvn_0]; exact ih
    · exact ih
theorem rgl_WH (hD : WD D) (hW : WH (D 1 0) H) : ∀ n, n ≤ D 3 0 → WH (D 1 0) (rgl D st un n H) := by
  intro n
  induction n with
  | zero => intro _; exact hW
  | succ n ih =>
    intro hn
    unfold rgl
    split
    · exact rvn_WH hD (ih (by omega)) (hD.2.2.2.1 n (by omega))
    · exact ih (by omega)
theorem agl_0 : ∀ n, agl D dr bu n H 0 0 = H 0 0 := by
  intro n
  induction n with
  | zero => rfl
  | succ n ih =>
    unfold agl
    split
    · rw [ag_0]; exact ih
    · exact ih
theorem agl_WH {P : Nat} (hW : WH P H) : ∀ n, n ≤ 14 → WH P (agl D dr bu n H) := by
  intro n
  induction n with
  | zero => intro _; exact hW
  | succ n ih =>
    intro hn
    unfold agl
    split
    · exact ag_WH (ih (by omega)) (by omega)
    · exact ih (by omega)
theorem mn_0 : mn D dr bu st me un H 0 0 = H 0 0 + 1 := hu_s
theorem mn_WH (hD : WD D) (hW : WH (D 1 0) H) (h0 : H 0 0 + 1 < 2 ^ 20) : WH (D 1 0) (mn D dr bu st me un H) :=
  (agl_WH (rgl_WH hD (mnA_WH hW) _ (Nat.le_refl _)) _ hD.1.1).up (Or.inl ⟨rfl, h0⟩)
theorem mns_0 : ∀ n, mns D dr bu st me un n H 0 0 = H 0 0 + n := by
  intro n
  induction n with
  | zero => rfl
  | succ n ih =>
    show mn D dr bu st me un (mns D dr bu st me un n H) 0 0 = _
    rw [mn_0, ih]
    omega
theorem mns_WH (hD : WD D) (hW : WH (D 1 0) H) : ∀ n, H 0 0 + n < 2 ^ 20 → WH (D 1 0) (mns D dr bu st me un n H) := by
  intro n
  induction n with
  | zero => intro _; exact hW
  | succ n ih =>
    intro hn
    exact mn_WH hD (ih (by omega)) (by rw [mns_0]; omega)
theorem c_94 {a m : Nat} (hS : Sg t σ) (ha : a = 3 ∨ a = 15) (hT : CT σ a D) (hD : WD D) (hm : m < 2 ^ 31) : Cl 94 [.ref a, .int (nI m)] σ (some (.int (if mds D m (D 4 0) = true then 1 else 0)), σ) := by
  have h4 := hD.1.2.2.2.2.1
  have hy : ∀ n k, mds D m n = true → mds D m (n + k) = true := by
    intro n k h
    induction k with
    | zero => exact h
    | succ k ih => show (mds D m (n + k) || _) = true; rw [ih]; rfl
  suffices h : ∀ k, k ≤ D 4 0 → mds D m k = false → Ev 94 2 [.ref a, .int (nI m), .int (nI k)] [] σ (some (.int (if mds D m (D 4 0) = true then 1 else 0)), σ) from ck_94 hS ha (b_94_0 hS ha (h 0 (Nat.zero_le _) rfl))
  intro k hk
  refine up_to (fun k => mds D m k = false → Ev 94 2 [.ref a, .int (nI m), .int (nI k)] [] σ (some (.int (if mds D m (D 4 0) = true then 1 else 0)), σ)) (D 4 0) ?_ ?_ k hk
  · intro k hk ih hf
    have h14 := hD.2.2.2.2.2.1 k hk
    refine b_94_2 hS ha ?_
    rw [hT.1.2.2.2.2, nI_clamp (by omega), hT.2.2.2.2.2.2.2.2.2.2.1 k hk, nI_1]
    refine pk_lt k (D 4 0) (fun _ => ⟨inb_nI (by omega) (by decide), w_p (nI_eq (by omega) hm) (fun z => ?_) (fun z => ih ?_)⟩) (fun z => absurd z (by omega)) rfl rfl (by omega) (by omega)
    · have h1 : mds D m (k + 1) = true := by show (mds D m k || decide (D 14 k = m)) = true; rw [decide_eq_true z, Bool.or_true]
      have h2 := hy (k + 1) (D 4 0 - (k + 1)) h1
      rw [show k + 1 + (D 4 0 - (k + 1)) = D 4 0 by omega] at h2
      rw [h2]; rfl
    · show (mds D m k || decide (D 14 k = m)) = false
      rw [hf, decide_eq_false z]; rfl
  · intro hf
    refine b_94_2 hS ha ?_
    rw [hT.1.2.2.2.2]
    refine pk_lt (D 4 0) (D 4 0) (fun z => absurd z (Nat.lt_irrefl _)) (fun _ => ?_) rfl rfl (by omega) (by omega)
    rw [hf]; rfl
/-- how it is tried, first side -/
def CM (σ : Mm) (dr bu st me : Bool) (un : Int32) : Prop := mI σ 38 0 = (if dr = true then 1 else 0) ∧ mI σ 38 1 = (if bu = true then 1 else 0) ∧ mI σ 38 2 = (if st = true then 1 else 0) ∧ mI σ 38 3 = (if me = true then 1 else 0) ∧ mI σ 38 4 = un
theorem CM.fr {a2 : Nat} {σ' : Mm} (h2 : a2 = 26 ∨ a2 = 30 ∨ a2 = 34) (h : CM σ dr bu st me un) (hf : Fr (Wru a2) σ σ') : CM σ' dr bu st me un := by
  have r : ∀ i, mI σ' 38 i = mI σ 38 i := fun i => (hf.1 38 i (by unfold Wru; omega)).1
  unfold CM at h ⊢
  rw [r 0, r 1, r 2, r 3, r 4]
  exact h
theorem c_8 {a1 a2 n : Nat} (hS : Sg t σ) (h1 : a1 = 3 ∨ a1 = 15) (h2 : a2 = 26 ∨ a2 = 30 ∨ a2 = 34) (hT : CT σ a1 D) (hD : WD D) (hH : CH σ a2 H) (hW : WH (D 1 0) H) (hM : CM σ dr bu st me un) (hn : H 0 0 + n < 2 ^ 20) : ∃ σ', Cl 8 [.ref 38, .ref a1, .ref a2, .int (nI n)] σ (none, σ') ∧ Fr (Wru a2) σ σ' ∧ CH σ' a2 (mns D dr bu st me un n H) := by
  have tt : ∀ x i, a1 ≤ x → x ≤ a1 + 10 → ¬ Wru a2 x i := fun x i h3 h4 => by unfold Wru; omega
  have hL := hD.1.1
  have hR := hD.1.2.2.2.1
  suffices h : ∀ z5, ∃ σ', Ev 8 3 [.ref 38, .ref a1, .ref a2, .int (nI n), .int (nI 0), z5] [] σ (none, σ') ∧ Fr (Wru a2) σ σ' ∧ CH σ' a2 (mns D dr bu st me un n H) by
    obtain ⟨σ', h, g⟩ := h (.retAddr 0)
    exact ⟨σ', ck_8 hS h1 h2 (b_8_0 hS h1 h2 h), g⟩
  refine lp (fun k σ1 => Fr (Wru a2) σ σ1 ∧ CH σ1 a2 (mns D dr bu st me un k H)) (fun k σ1 => ∀ z5, ∃ σ', Ev 8 3 [.ref 38, .ref a1, .ref a2, .int (nI n), .int (nI k), z5] [] σ1 (none, σ') ∧ Fr (Wru a2) σ σ' ∧ CH σ' a2 (mns D dr bu st me un n H)) n ?_ ?_ (Nat.zero_le _) ⟨Fr.rf σ, hH⟩
  · intro k σ1 hk ⟨hF, hC⟩ ih z5
    generalize hG : mns D dr bu st me un k H = G at hC
    have hWG : WH (D 1 0) G := by rw [← hG]; exact mns_WH hD hW k (by omega)
    have hG0 : G 0 0 = H 0 0 + k := by rw [← hG]; exact mns_0 k
    -- the lamps
    have lampsL : ∀ σ2, Fr (Wru a2) σ σ2 → CH σ2 a2 (rgl D st un (D 3 0) (mnA D me G)) → ∃ σ', Ev 8 93 [.ref 38, .ref a1, .ref a2, .int (nI n), .int (nI k), .int (nI 0)] [] σ2 (none, σ') ∧ Fr (Wru a2) σ σ' ∧ CH σ' a2 (mns D dr bu st me un n H) := by
      intro σ2 hF2 hC2
      have hWR : WH (D 1 0) (rgl D st un (D 3 0) (mnA D me G)) := rgl_WH hD (mnA_WH hWG) _ (Nat.le_refl _)
      have hR0 : rgl D st un (D 3 0) (mnA D me G) 0 0 = G 0 0 := by rw [rgl_0, mnA_0]
      generalize hR : rgl D st un (D 3 0) (mnA D me G) = R at hC2 hWR hR0
      refine lp (fun l σ3 => Fr (Wru a2) σ σ3 ∧ CH σ3 a2 (agl D dr bu l R)) (fun l σ3 => ∃ σ', Ev 8 93 [.ref 38, .ref a1, .ref a2, .int (nI n), .int (nI k), .int (nI l)] [] σ3 (none, σ') ∧ Fr (Wru a2) σ σ' ∧ CH σ' a2 (mns D dr bu st me un n H)) (D 0 0) ?_ ?_ (Nat.zero_le _) ⟨hF2, hC2⟩
      · intro l σ3 hl ⟨hF3, hC3⟩ ih3
        have hS3 := hF3.sg hS
        have hT3 := hT.fr hF3 tt
        have hW3 : WH (D 1 0) (agl D dr bu l R) := agl_WH hWR l (by omega)
        have hsh := sh_lt hW3
        have q20 := c_20 hS3 h2 (hC3.1 1 (by decide)) (hC3.1 2 (by decide))
        have M3 := hM.fr h2 hF3
        have hsh : (agl D dr bu l R 1 0) ^^^ ((agl D dr bu l R 1 0) &&& (agl D dr bu l R 2 0)) < 2 ^ 14 := hsh
        by_cases c : (sh (agl D dr bu l R)).testBit l = true
        · obtain ⟨σ4, q4, f4, c4⟩ := c_10 hS3 h1 h2 hT3 hD hC3 hW3 M3.1 M3.2.1 (show l < 14 by omega)
          obtain ⟨σ', h, g⟩ := ih3 σ4 ⟨hF3.tr f4, by unfold agl; rw [if_pos c]; exact c4⟩
          refine ⟨σ', b_8_93 hS3 h1 h2 ?_, g⟩
          rw [hT3.1.1, nI_1]
          exact pk_lt l (D 0 0) (fun _ => ⟨_, _, q20, hS3, bitc (by omega) (by omega) (fun z => absurd c (by rw [sh, z]; decide)) (fun _ => ⟨σ4, q4, (hF3.tr f4).sg hS, h⟩)⟩) (fun z => absurd z (by omega)) rfl rfl (by omega) (by omega)
        · obtain ⟨σ', h, g⟩ := ih3 σ3 ⟨hF3, by unfold agl; rw [if_neg c]; exact hC3⟩
          refine ⟨σ', b_8_93 hS3 h1 h2 ?_, g⟩
          rw [hT3.1.1, nI_1]
          exact pk_lt l (D 0 0) (fun _ => ⟨_, _, q20, hS3, bitc (by omega) (by omega) (fun _ => h) (fun z => absurd z c)⟩) (fun z => absurd z (by omega)) rfl rfl (by omega) (by omega)
      · intro σ3 ⟨hF3, hC3⟩
        have hS3 := hF3.sg hS
        have hT3 := hT.fr hF3 tt
        have h00 : agl D dr bu (D 0 0) R 0 0 = G 0 0 := by rw [agl_0, hR0]
        have C4 : CH (uI σ3 a2 0 (nI (G 0 0 + 1))) a2 (mns D dr bu st me un (k + 1) H) := by
          show CH _ a2 (mn D dr bu st me un (mns D dr bu st me un k H))
          rw [hG, mn, hR]
          exact hC3.f (by decide)
        obtain ⟨σ', h, g⟩ := ih (uI σ3 a2 0 (nI (G 0 0 + 1))) ⟨hF3.uI (by unfold Wru; omega), C4⟩ (.int (nI (D 0 0)))
        refine ⟨σ', b_8_93 hS3 h1 h2 ?_, g⟩
        rw [hT3.1.1, hC3.1 0 (by decide), h00, nI_1, nI_1, nI_1]
        exact pk_lt (D 0 0) (D 0 0) (fun z => absurd z (Nat.lt_irrefl _)) (fun _ => h) rfl rfl (by omega) (by omega)
    -- the rings
    have ringsL : ∀ σ2, Fr (Wru a2) σ σ2 → CH σ2 a2 (mnA D me G) → ∃ σ', Ev 8 34 [.ref 38, .ref a1, .ref a2, .int (nI n), .int (nI k), .int (nI 0)] [] σ2 (none, σ') ∧ Fr (Wru a2) σ σ' ∧ CH σ' a2 (mns D dr bu st me un n H) := by
      intro σ2 hF2 hC2
      have hWA : WH (D 1 0) (mnA D me G) := mnA_WH hWG
      have hA0 : mnA D me G 0 0 = G 0 0 := mnA_0
      refine lp (fun i σ3 => Fr (Wru a2) σ σ3 ∧ CH σ3 a2 (rgl D st un i (mnA D me G))) (fun i σ3 => ∃ σ', Ev 8 34 [.ref 38, .ref a1, .ref a2, .int (nI n), .int (nI k), .int (nI i)] [] σ3 (none, σ') ∧ Fr (Wru a2) σ σ' ∧ CH σ' a2 (mns D dr bu st me un n H)) (D 3 0) ?_ ?_ (Nat.zero_le _) ⟨hF2, hC2⟩
      · intro i σ3 hi ⟨hF3, hC3⟩ ih3
        have hS3 := hF3.sg hS
        have hT3 := hT.fr hF3 tt
        have hW3 : WH (D 1 0) (rgl D st un i (mnA D me G)) := rgl_WH hD hWA i (by omega)
        have M3 := hM.fr h2 hF3
        have h12 := hD.2.2.2.1 i hi
        have h13 := hD.2.2.2.2.1 i hi
        have hP := hD.1.2.1
        have e0 : mI σ3 a2 0 = nI (G 0 0) := (hC3.1 0 (by decide)).trans (by rw [rgl_0, hA0])
        have key : ∀ w, ((D 13 i = G 0 0 ∧ nI (D 12 i) ≠ un → ∃ σ4, Cl 9 [.ref 38, .ref a1, .ref a2, .int (nI (D 12 i))] σ3 (none, σ4) ∧ Sg t σ4 ∧ Ev 8 34 [.ref 38, .ref a1, .ref a2, .int (nI n), .int (nI k), .int (nI (i + 1))] [] σ4 w) ∧ (¬ (D 13 i = G 0 0 ∧ nI (D 12 i) ≠ un) → Ev 8 34 [.ref 38, .ref a1, .ref a2, .int (nI n), .int (nI k), .int (nI (i + 1))] [] σ3 w)) → Ev 8 34 [.ref 38, .ref a1, .ref a2, .int (nI n), .int (nI k), .int (nI i)] [] σ3 w := by
          intro w ⟨ky, kn⟩
          refine b_8_34 hS3 h1 h2 ?_
          rw [hT3.1.2.2.2.1, nI_clamp (by omega), hT3.2.2.2.2.2.2.2.2.2.1 i hi, hT3.2.2.2.2.2.2.2.2.1 i hi, e0, M3.2.2.2.2, nI_1]
          have i14 : inb (nI i) 14 = true := inb_nI (by omega) (by decide)
          have w0 := hWG.1
          refine pk_lt i (D 3 0) (fun _ => ⟨i14, w_p (nI_eq (by omega) (by omega)) (fun z => ⟨i14, fun y => kn (fun x => x.2 y), fun y => ⟨i14, ky ⟨z, y⟩⟩⟩) (fun z => kn (fun x => z x.1))⟩) (fun z => absurd z (by omega)) rfl rfl (by omega) (by omega)
        by_cases c : D 13 i = mnA D me G 0 0 ∧ nI (D 12 i) ≠ un
        · obtain ⟨σ4, q4, f4, c4⟩ := c_9 hS3 h1 h2 hT3 hD hC3 hW3 M3.2.2.1 h12
          obtain ⟨σ', h, g⟩ := ih3 σ4 ⟨hF3.tr f4, by unfold rgl; rw [if_pos c]; exact c4⟩
          exact ⟨σ', key _ ⟨fun _ => ⟨σ4, q4, (hF3.tr f4).sg hS, h⟩, fun z => absurd (by rw [hA0] at c; exact c) z⟩, g⟩
        · obtain ⟨σ', h, g⟩ := ih3 σ3 ⟨hF3, by unfold rgl; rw [if_neg c]; exact hC3⟩
          exact ⟨σ', key _ ⟨fun z => absurd (by rw [hA0]; exact z) c, fun _ => h⟩, g⟩
      · intro σ3 ⟨hF3, hC3⟩
        obtain ⟨σ', h, g⟩ := lampsL σ3 hF3 hC3
        refine ⟨σ', b_8_34 (hF3.sg hS) h1 h2 ?_, g⟩
        rw [(hT.fr hF3 tt).1.2.2.2.1]
        exact pk_lt (D 3 0) (D 3 0) (fun z => absurd z (Nat.lt_irrefl _)) (fun _ => h) rfl rfl (by omega) (by omega)
    have hS1 := hF.sg hS
    have hT1 := hT.fr hF tt
    have M1 := hM.fr h2 hF
    have q94 : Cl 94 [.ref a1, .int (mI σ1 a2 0)] σ1 (some (.int (if mds D (G 0 0) (D 4 0) = true then 1 else 0)), σ1) := by
      rw [hC.1 0 (by decide)]
      have := hWG.1
      exact c_94 hS1 h1 hT1 hD (by omega)
    have h := fun w => b_8_3 (w := w) (x3 := nI n) (x4 := nI k) (z5 := z5) hS1 h1 h2
    rw [M1.2.2.2.1] at h
    by_cases c : me = true ∧ mds D (G 0 0) (D 4 0) = true
    · have C2 : CH (uI (uI σ1 a2 3 0) a2 2 0) a2 (mnA D me G) := by
        rw [mnA, if_pos c]
        exact (hC.f (f := 3) (v := 0) (by decide)).f (f := 2) (v := 0) (by decide)
      have F2 : Fr (Wru a2) σ (uI (uI σ1 a2 3 0) a2 2 0) := (hF.uI (by unfold Wru; omega)).uI (by unfold Wru; omega)
      obtain ⟨σ', h3, g⟩ := ringsL _ F2 C2
      exact ⟨σ', h _ (pk_lt k n (fun _ => w_b (fun z => absurd c.1 (by rw [z]; decide)) (fun _ => ⟨_, _, q94, hS1, w_b (fun z => absurd c.2 (by rw [z]; decide)) (fun _ => ⟨_, c_24 hS1 h2, F2.sg hS, h3⟩)⟩)) (fun z => absurd z (by omega)) rfl rfl (by omega) (by omega)), g⟩
    · have C2 : CH σ1 a2 (mnA D me G) := by
        rw [mnA, if_neg c]
        exact hC
      obtain ⟨σ', h3, g⟩ := ringsL _ hF C2
      exact ⟨σ', h _ (pk_lt k n (fun _ => w_b (fun _ => h3) (fun z => ⟨_, _, q94, hS1, w_b (fun _ => h3) (fun y => absurd ⟨z, y⟩ c)⟩)) (fun z => absurd z (by omega)) rfl rfl (by omega) (by omega)), g⟩
  · intro σ1 ⟨hF, hC⟩ z5
    exact ⟨σ1, b_8_3 (hF.sg hS) h1 h2 (pk_lt n n (fun z => absurd z (Nat.lt_irrefl _)) (fun _ => rfl) rfl rfl (by omega) (by omega)), hF, hC⟩
end Minute
