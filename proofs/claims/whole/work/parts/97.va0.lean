/-! ===== lines of a text: pure ===== -/
abbrev Rz : Type := (Nat × Nat) ⊕ ((Nat → Nat → Nat) × Nat)
/-- the lamp, the pull of a name; as many as there are: none -/
def fdl (D : Nat → Nat → Nat) (v : Nat) : Nat := fa_first (fun i => decide (D 8 i = v)) (D 0 0)
def fdp (D : Nat → Nat → Nat) (v : Nat) : Nat := fa_first (fun i => decide (D 9 i = v)) (D 1 0)
section Lines
variable (B : Nat → Nat) (n : Nat) (D : Nat → Nat → Nat)
def pLamp (s0 p : Nat) : Rz := if D 0 0 = 14 then .inl (2, s0) else if ¬ tK B n p = 3 then .inl (1, tS B n p) else if fdl D (tV B n p) < D 0 0 then .inl (3, tS B n p) else .inr (hu (hu D 8 (D 0 0) (tV B n p)) 0 0 (D 0 0 + 1), tE B n p)
def pTies : Nat → Nat → Nat → (Nat × Nat) ⊕ (Nat × Nat)
  | 0, _, _ => .inl (0, 0)
  | m + 1, s, p => if ¬ tK B n p = 3 then .inr (s, p) else if ¬ fdl D (tV B n p) < D 0 0 then .inl (4, tS B n p) else if s.testBit (fdl D (tV B n p)) = true then .inl (3, tS B n p) else pTies m (s ||| 2 ^ fdl D (tV B n p)) (tE B n p)
/-- a pull with its ties -/
def wPull (nm co s : Nat) : Nat → Nat → Nat := hu (hu (hu (hu D 9 (D 1 0) nm) 10 (D 1 0) co) 11 (D 1 0) s) 1 0 (D 1 0 + 1)
def pPull (s0 p : Nat) : Rz := if D 1 0 = 10 then .inl (2, s0) else if ¬ tK B n p = 3 then .inl (1, tS B n p) else if fdp D (tV B n p) < D 1 0 then .inl (3, tS B n p) else if ¬ tK B n (tE B n p) = 2 then .inl (1, tS B n (tE B n p)) else if 99 < tV B n (tE B n p) then .inl (2, tS B n (tE B n p)) else match pTies B n D (n + 1) 0 (tE B n (tE B n p)) with
  | .inl e => .inl e
  | .inr (s, q) => .inr (wPull D (tV B n p) (tV B n (tE B n p)) s, q)
def pLit (p : Nat) : Rz := if ¬ tK B n p = 3 then .inl (1, tS B n p) else if ¬ fdl D (tV B n p) < D 0 0 then .inl (4, tS B n p) else if (D 2 0).testBit (fdl D (tV B n p)) = true then .inl (3, tS B n p) else .inr (hu D 2 0 (D 2 0 ||| 2 ^ fdl D (tV B n p)), tE B n p)
def wRing (q m : Nat) : Nat → Nat → Nat := hu (hu (hu D 12 (D 3 0) q) 13 (D 3 0) m) 3 0 (D 3 0 + 1)
def pRing (s0 p : Nat) : Rz := if D 3 0 = 14 then .inl (2, s0) else if ¬ tK B n p = 3 then .inl (1, tS B n p) else if ¬ fdp D (tV B n p) < D 1 0 then .inl (4, tS B n p) else if ¬ tK B n (tE B n p) = 2 then .inl (1, tS B n (tE B n p)) else if 99 < tV B n (tE B n p) then .inl (2, tS B n (tE B n p)) else .inr (wRing D (fdp D (tV B n p)) (tV B n (tE B n p)), tE B n (tE B n p))
def pMend (s0 p : Nat) : Rz := if D 4 0 = 4 then .inl (2, s0) else if ¬ tK B n p = 2 then .inl (1, tS B n p) else if 99 < tV B n p then .inl (2, tS B n p) else .inr (hu (hu D 14 (D 4 0) (tV B n p)) 4 0 (D 4 0 + 1), tE B n p)
/-- g: 5 burn, 6 seed -/
def pOnce (g most s0 p : Nat) : Rz := if ¬ D (g + 16) 0 = 0 then .inl (3, s0) else if ¬ tK B n p = 2 then .inl (1, tS B n p) else if most < tV B n p then .inl (2, tS B n p) else .inr (hu (hu D g 0 (tV B n p)) (g + 16) 0 1, tE B n p)
def pLaw (p : Nat) : Rz := if tK B n p < 18 ∨ 20 < tK B n p then .inl (1, tS B n p) else if D 16 (tK B n p - 18) < D 17 (tK B n p - 18) then .inl (3, tS B n p) else match pS B n D (tE B n p) with
  | .inl e => .inl e
  | .inr (D', q) => .inr (hu (hu D' 16 (tK B n p - 18) (D 7 0)) 17 (tK B n p - 18) (D' 7 0), q)
/-- what stands behind the first word -/
def pBody (k s0 p : Nat) : Rz := if k = 10 then pLamp B n D s0 p else if k = 11 then pPull B n D s0 p else if k = 12 then pLit B n D p else if k = 13 then pRing B n D s0 p else if k = 14 then pMend B n D s0 p else if k = 15 then pOnce B n D 5 100 s0 p else if k = 16 then pOnce B n D 6 99999 s0 p else if k = 17 then pLaw B n D p else .inl (1, s0)
def pLine (p : Nat) : Rz := match pBody B n D (tK B n p) (tS B n p) (tE B n p) with
  | .inl e => .inl e
  | .inr (D', q) => if tK B n q = 40 then .inr (D', tE B n q) else .inl (1, tS B n q)
end Lines
def pText (B : Nat → Nat) (n : Nat) : Nat → (Nat → Nat → Nat) → Nat → Nat → Rz
  | 0, _, _, _ => .inl (0, 0)
  | m + 1, D, p, l => if tK B n p = 0 then .inr (D, l) else match pLine B n D p with
    | .inl e => .inl e
    | .inr (D', q) => pText B n m D' q (l + 1)
def WDr (D : Nat → Nat → Nat) : Prop := WD D ∧ (D 21 0 = 0 → D 5 0 = 0) ∧ (D 22 0 = 0 → D 6 0 = 0)
section LinesOk
variable {B : Nat → Nat} {n : Nat} {D D' : Nat → Nat → Nat} {p q s0 : Nat}
theorem tE_adv (hp : p ≤ n) (h : tK B n p ≠ 0) : p < tE B n p ∧ tE B n p ≤ n := ⟨by have := tE_gt h; have := tS_ge B n p; omega, tE_le hp⟩
theorem pLamp_ok (hW : WDr D) (hp : p ≤ n) (h : pLamp B n D s0 p = .inr (D', q)) : WDr D' ∧ p < q ∧ q ≤ n := by
  unfold pLamp at h
  split at h
  · cases h
  rename_i g0
  split at h
  · cases h
  rename_i g1
  split at h
  · cases h
  injection h with h
  injection h with ha hb
  subst ha hb
  obtain ⟨⟨⟨a0, a1, a2, a3, a4, a5, a6, a7⟩, b1, b2, b3, b4, b5, b6, b7, b8⟩, c1, c2⟩ := hW
  have hV := tV_lt (B := B) (n := n) (p := p)
  generalize hE : hu (hu D 8 (D 0 0) (tV B n p)) 0 0 (D 0 0 + 1) = E
  have s : ∀ f i, f ≠ 0 → f ≠ 8 → E f i = D f i := fun f i h1 h2 => by rw [← hE, hu_n (by omega), hu_n (by omega)]
  have s' : ∀ f, f ≠ 0 → f ≠ 8 → E f = D f := fun f h1 h2 => funext (fun i => s f i h1 h2)
  have e0 : E 0 0 = D 0 0 + 1 := by rw [← hE, hu_s]
  have e8 : ∀ i, E 8 i = if i = D 0 0 then tV B n p else D 8 i := fun i => by
    rw [← hE, hu_n (by omega)]
    by_cases e : i = D 0 0
    · rw [if_pos e, e, hu_s]
    · rw [if_neg e, hu_n (by omega)]
  have pw : 2 ^ D 0 0 ≤ 2 ^ (D 0 0 + 1) := Nat.pow_le_pow_right (by decide) (by omega)
  obtain ⟨d1, d2⟩ := tE_adv (B := B) hp (by omega)
  refine ⟨⟨⟨⟨by omega, by rw [s 1 0 (by decide) (by decide)]; exact a1, by rw [s 2 0 (by decide) (by decide), e0]; omega, by rw [s 3 0 (by decide) (by decide)]; exact a3, by rw [s 4 0 (by decide) (by decide)]; exact a4, by rw [s 5 0 (by decide) (by decide)]; exact a5, by rw [s 6 0 (by decide) (by decide)]; exact a6, by rw [s 7 0 (by decide) (by decide)]; exact a7⟩, fun i hi => ?_, fun i hi => ?_, fun i hi => ?_, fun i hi => ?_, fun i hi => ?_, fun i hi => ?_, fun i hi => ?_, fun i hi => ?_⟩, fun z => ?_, fun z => ?_⟩, d1, d2⟩
  · rw [s 1 0 (by decide) (by decide)] at hi; rw [s 10 i (by decide) (by decide)]; exact b1 i hi
  · rw [s 1 0 (by decide) (by decide)] at hi; rw [s 11 i (by decide) (by decide), e0]; have := b2 i hi; omega
  · rw [s 3 0 (by decide) (by decide)] at hi; rw [s 12 i (by decide) (by decide), s 1 0 (by decide) (by decide)]; exact b3 i hi
  · rw [s 3 0 (by decide) (by decide)] at hi; rw [s 13 i (by decide) (by decide)]; exact b4 i hi
  · rw [s 4 0 (by decide) (by decide)] at hi; rw [s 14 i (by decide) (by decide)]; exact b5 i hi
  · rw [s 16 i (by decide) (by decide), s 17 i (by decide) (by decide), s 7 0 (by decide) (by decide), s' 15 (by decide) (by decide), s' 18 (by decide) (by decide), s' 19 (by decide) (by decide), s' 20 (by decide) (by decide)]; exact b6 i hi
  · rw [e8]
    split
    · exact hV
    · exact b7 i (by omega)
  · rw [s 1 0 (by decide) (by decide)] at hi; rw [s 9 i (by decide) (by decide)]; exact b8 i hi
  · rw [s 21 0 (by decide) (by decide)] at z; rw [s 5 0 (by decide) (by decide)]; exact c1 z
  · rw [s 22 0 (by decide) (by decide)] at z; rw [s 6 0 (by decide) (by decide)]; exact c2 z
theorem pTies_ok : ∀ {m s p : Nat} {r : Nat × Nat}, s < 2 ^ D 0 0 → p ≤ n → pTies B n D m s p = .inr r → r.1 < 2 ^ D 0 0 ∧ p ≤ r.2 ∧ r.2 ≤ n := by
  intro m
  induction m with
  | zero => intro s p r _ _ h; cases h
  | succ m ih =>
    intro s p r hs hp h
    have h : (if ¬ tK B n p = 3 then .inr (s, p) else if ¬ fdl D (tV B n p) < D 0 0 then .inl (4, tS B n p) else if s.testBit (fdl D (tV B n p)) = true then .inl (3, tS B n p) else pTies B n D m (s ||| 2 ^ fdl D (tV B n p)) (tE B n p)) = (.inr r : (Nat × Nat) ⊕ (Nat × Nat)) := h
    split at h
    · injection h with h
      subst h
      exact ⟨hs, Nat.le_refl _, hp⟩
    rename_i g1
    split at h
    · cases h
    rename_i g2
    split at h
    · cases h
    obtain ⟨d1, d2⟩ := tE_adv (B := B) hp (by omega)
    obtain ⟨i1, i2, i3⟩ := ih (Nat.or_lt_two_pow hs (Nat.pow_lt_pow_right (by decide) (by omega))) d2 h
    exact ⟨i1, by omega, i3⟩
theorem pPull_ok (hW : WDr D) (hp : p ≤ n) (h : pPull B n D s0 p = .inr (D', q)) : WDr D' ∧ p < q ∧ q ≤ n := by
  unfold pPull at h
  split at h
  · cases h
  rename_i g0
  split at h
  · cases h
  rename_i g1
  split at h
  · cases h
  split at h
  · cases h
  rename_i g3
  split at h
  · cases h
  rename_i g4
  obtain ⟨d1, d2⟩ := tE_adv (B := B) hp (by omega)
  obtain ⟨d3, d4⟩ := tE_adv (B := B) d2 (by omega)
  split at h
  · cases h
  rename_i ss qq hT
  injection h with h
  injection h with ha hb
  subst ha hb
  obtain ⟨t1, t2, t3⟩ := pTies_ok (Nat.two_pow_pos _) d4 hT
  dsimp only at t1 t2 t3
  obtain ⟨⟨⟨a0, a1, a2, a3, a4, a5, a6, a7⟩, b1, b2, b3, b4, b5, b6, b7, b8⟩, c1, c2⟩ := hW
  have hV := tV_lt (B := B) (n := n) (p := p)
  generalize hE : wPull D (tV B n p) (tV B n (tE B n p)) ss = E
  unfold wPull at hE
  have s : ∀ f i, f ≠ 1 → f ≠ 9 → f ≠ 10 → f ≠ 11 → E f i = D f i := fun f i h1 h2 h3 h4 => by rw [← hE, hu_n (by omega), hu_n (by omega), hu_n (by omega), hu_n (by omega)]
  have s' : ∀ f, f ≠ 1 → f ≠ 9 → f ≠ 10 → f ≠ 11 → E f = D f := fun f h1 h2 h3 h4 => funext (fun i => s f i h1 h2 h3 h4)
  have e1 : E 1 0 = D 1 0 + 1 := by rw [← hE, hu_s]
  have e9 : ∀ i, E 9 i = if i = D 1 0 then tV B n p else D 9 i := fun i => by
    rw [← hE, hu_n (by omega), hu_n (by omega), hu_n (by omega)]
    by_cases e : i = D 1 0
    · rw [if_pos e, e, hu_s]
    · rw [if_neg e, hu_n (by omega)]
  have e10 : ∀ i, E 10 i = if i = D 1 0 then tV B n (tE B n p) else D 10 i := fun i => by
    rw [← hE, hu_n (by omega), hu_n (by omega)]
    by_cases e : i = D 1 0
    · rw [if_pos e, e, hu_s]
    · rw [if_neg e, hu_n (by omega), hu_n (by omega)]
  have e11 : ∀ i, E 11 i = if i = D 1 0 then ss else D 11 i := fun i => by
    rw [← hE, hu_n (by omega)]
    by_cases e : i = D 1 0
    · rw [if_pos e, e, hu_s]
    · rw [if_neg e, hu_n (by omega), hu_n (by omega), hu_n (by omega)]
  refine ⟨⟨⟨⟨by rw [s 0 0 (by decide) (by decide) (by decide) (by decide)]; exact a0, by omega, by rw [s 2 0 (by decide) (by decide) (by decide) (by decide), s 0 0 (by decide) (by decide) (by decide) (by decide)]; exact a2, by rw [s 3 0 (by decide) (by decide) (by decide) (by decide)]; exact a3, by rw [s 4 0 (by decide) (by decide) (by decide) (by decide)]; exact a4, by rw [s 5 0 (by decide) (by decide) (by decide) (by decide)]; exact a5, by rw [s 6 0 (by decide) (by decide) (by decide) (by decide)]; exact a6, by rw [s 7 0 (by decide) (by decide) (by decide) (by decide)]; exact a7⟩, fun i hi => ?_, fun i hi => ?_, fun i hi => ?_, fun i hi => ?_, fun i hi => ?_, fun i hi => ?_, fun i hi => ?_, fun i hi => ?_⟩, fun z => ?_, fun z => ?_⟩, by omega, t3⟩
  · rw [e10]
    split
    · omega
    · exact b1 i (by omega)
  · rw [e11, s 0 0 (by decide) (by decide) (by decide) (by decide)]
    split
    · exact t1
    · exact b2 i (by omega)
  · rw [s 3 0 (by decide) (by decide) (by decide) (by decide)] at hi; rw [s 12 i (by decide) (by decide) (by decide) (by decide), e1]; have := b3 i hi; omega
  · rw [s 3 0 (by decide) (by decide) (by decide) (by decide)] at hi; rw [s 13 i (by decide) (by decide) (by decide) (by decide)]; exact b4 i hi
  · rw [s 4 0 (by decide) (by decide) (by decide) (by decide)] at hi; rw [s 14 i (by decide) (by decide) (by decide) (by decide)]; exact b5 i hi
  · rw [s 16 i (by decide) (by decide) (by decide) (by decide), s 17 i (by decide) (by decide) (by decide) (by decide), s 7 0 (by decide) (by decide) (by decide) (by decide), s' 15 (by decide) (by decide) (by decide) (by decide), s' 18 (by decide) (by decide) (by decide) (by decide), s' 19 (by decide) (by decide) (by decide) (by decide), s' 20 (by decide) (by decide) (by decide) (by decide)]; exact b6 i hi
  · rw [s 0 0 (by decide) (by decide) (by decide) (by decide)] at hi; rw [s 8 i (by decide) (by decide) (by decide) (by decide)]; exact b7 i hi
  · rw [e9]
    split
    · exact hV
    · exact b8 i (by omega)
  · rw [s 21 0 (by decide) (by decide) (by decide) (by decide)] at z; rw [s 5 0 (by decide) (by decide) (by decide) (by decide)]; exact c1 z
  · rw [s 22 0 (by decide) (by decide) (by decide) (by decide)] at z; rw [s 6 0 (by decide) (by decide) (by decide) (by decide)]; exact c2 z
theorem pLit_ok (hW : WDr D) (hp : p ≤ n) (h : pLit B n D p = .inr (D', q)) : WDr D' ∧ p < q ∧ q ≤ n := by
  unfold pLit at h
  split at h
  · cases h
  rename_i g1
  split at h
  · cases h
  rename_i g2
  split at h
  · cases h
  injection h with h
  injection h with ha hb
  subst ha hb
  obtain ⟨d1, d2⟩ := tE_adv (B := B) hp (by omega)
  obtain ⟨⟨⟨a0, a1, a2, a3, a4, a5, a6, a7⟩, b1, b2, b3, b4, b5, b6, b7, b8⟩, c1, c2⟩ := hW
  have s : ∀ f i, f ≠ 2 → hu D 2 0 (D 2 0 ||| 2 ^ fdl D (tV B n p)) f i = D f i := fun f i h1 => hu_n (by omega)
  have s' : ∀ f, f ≠ 2 → hu D 2 0 (D 2 0 ||| 2 ^ fdl D (tV B n p)) f = D f := fun f h1 => funext (fun i => s f i h1)
  have e2 : hu D 2 0 (D 2 0 ||| 2 ^ fdl D (tV B n p)) 2 0 = D 2 0 ||| 2 ^ fdl D (tV B n p) := hu_s
  have l2 : D 2 0 ||| 2 ^ fdl D (tV B n p) < 2 ^ D 0 0 := Nat.or_lt_two_pow a2 (Nat.pow_lt_pow_right (by decide) (by omega))
  generalize hu D 2 0 (D 2 0 ||| 2 ^ fdl D (tV B n p)) = E at s s' e2
  refine ⟨⟨⟨⟨by rw [s 0 0 (by decide)]; exact a0, by rw [s 1 0 (by decide)]; exact a1, by rw [e2, s 0 0 (by decide)]; exact l2, by rw [s 3 0 (by decide)]; exact a3, by rw [s 4 0 (by decide)]; exact a4, by rw [s 5 0 (by decide)]; exact a5, by rw [s 6 0 (by decide)]; exact a6, by rw [s 7 0 (by decide)]; exact a7⟩, ?_, ?_, ?_, ?_, ?_, ?_, ?_, ?_⟩, ?_, ?_⟩, d1, d2⟩
  · rw [s 1 0 (by decide), s' 10 (by decide)]; exact b1
  · rw [s 1 0 (by decide), s' 11 (by decide), s 0 0 (by decide)]; exact b2
  · rw [s 3 0 (by decide), s' 12 (by decide), s 1 0 (by decide)]; exact b3
  · rw [s 3 0 (by decide), s' 13 (by decide)]; exact b4
  · rw [s 4 0 (by decide), s' 14 (by decide)]; exact b5
  · rw [s' 16 (by decide), s' 17 (by decide), s 7 0 (by decide), s' 15 (by decide), s' 18 (by decide), s' 19 (by decide), s' 20 (by decide)]; exact b6
  · rw [s 0 0 (by decide), s' 8 (by decide)]; exact b7
  · rw [s 1 0 (by decide), s' 9 (by decide)]; exact b8
  · rw [s 21 0 (by decide), s 5 0 (by decide)]; exact c1
  · rw [s 22 0 (by decide), s 6 0 (by decide)]; exact c2
theorem pRing_ok (hW : WDr D) (hp : p ≤ n) (h : pRing B n D s0 p = .inr (D', q)) : WDr D' ∧ p < q ∧ q ≤ n := by
  unfold pRing at h
  split at h
  · cases h
  rename_i g0
  split at h
  · cases h
  rename_i g1
  split at h
  · cases h
  rename_i g2
  split at h
  · cases h
  rename_i g3
  split at h
  · cases h
  rename_i g4
  obtain ⟨d1, d2⟩ := tE_adv (B := B) hp (by omega)
  obtain ⟨d3, d4⟩ := tE_adv (B := B) d2 (by omega)
  injection h with h
  injection h with ha hb
  subst ha hb
  obtain ⟨⟨⟨a0, a1, a2, a3, a4, a5, a6, a7⟩, b1, b2, b3, b4, b5, b6, b7, b8⟩, c1, c2⟩ := hW
  generalize hE : wRing D (fdp D (tV B n p)) (tV B n (tE B n p)) = E
  unfold wRing at hE
  have s : ∀ f i, f ≠ 3 → f ≠ 12 → f ≠ 13 → E f i = D f i := fun f i h1 h2 h3 => by rw [← hE, hu_n (by omega), hu_n (by omega), hu_n (by omega)]
  have s' : ∀ f, f ≠ 3 → f ≠ 12 → f ≠ 13 → E f = D f := fun f h1 h2 h3 => funext (fun i => s f i h1 h2 h3)
  have e3 : E 3 0 = D 3 0 + 1 := by rw [← hE, hu_s]
  have e12 : ∀ i, E 12 i = if i = D 3 0 then fdp D (tV B n p) else D 12 i := fun i => by
    rw [← hE, hu_n (by omega), hu_n (by omega)]
    by_cases e : i = D 3 0
    · rw [if_pos e, e, hu_s]
    · rw [if_neg e, hu_n (by omega)]
  have e13 : ∀ i, E 13 i = if i = D 3 0 then tV B n (tE B n p) else D 13 i := fun i => by
    rw [← hE, hu_n (by omega)]
    by_cases e : i = D 3 0
    · rw [if_pos e, e, hu_s]
    · rw [if_neg e, hu_n (by omega), hu_n (by omega)]
  refine ⟨⟨⟨⟨by rw [s 0 0 (by decide) (by decide) (by decide)]; exact a0, by rw [s 1 0 (by decide) (by decide) (by decide)]; exact a1, by rw [s 2 0 (by decide) (by decide) (by decide), s 0 0 (by decide) (by decide) (by decide)]; exact a2, by omega, by rw [s 4 0 (by decide) (by decide) (by decide)]; exact a4, by rw [s 5 0 (by decide) (by decide) (by decide)]; exact a5, by rw [s 6 0 (by decide) (by decide) (by decide)]; exact a6, by rw [s 7 0 (by decide) (by decide) (by decide)]; exact a7⟩, ?_, ?_, fun i hi => ?_, fun i hi => ?_, ?_, ?_, ?_, ?_⟩, ?_, ?_⟩, by omega, d4⟩
  · rw [s 1 0 (by decide) (by decide) (by decide), s' 10 (by decide) (by decide) (by decide)]; exact b1
  · rw [s 1 0 (by decide) (by decide) (by decide), s' 11 (by decide) (by decide) (by decide), s 0 0 (by decide) (by decide) (by decide)]; exact b2
  · rw [e12, s 1 0 (by decide) (by decide) (by decide)]
    split
    · omega
    · exact b3 i (by omega)
  · rw [e13]
    split
    · omega
    · exact b4 i (by omega)
  · rw [s 4 0 (by decide) (by decide) (by decide), s' 14 (by decide) (by decide) (by decide)]; exact b5
  · rw [s' 16 (by decide) (by decide) (by decide), s' 17 (by decide) (by decide) (by decide), s 7 0 (by decide) (by decide) (by decide), s' 15 (by decide) (by decide) (by decide), s' 18 (by decide) (by decide) (by decide), s' 19 (by decide) (by decide) (by decide), s' 20 (by decide) (by decide) (by decide)]; exact b6
  · rw [s 0 0 (by decide) (by decide) (by decide), s' 8 (by decide) (by decide) (by decide)]; exact b7
  · rw [s 1 0 (by decide) (by decide) (by decide), s' 9 (by decide) (by decide) (by decide)]; exact b8
  · rw [s 21 0 (by decide) (by decide) (by decide), s 5 0 (by decide) (by decide) (by decide)]; exact c1
  · rw [s 22 0 (by decide) (by decide) (by decide), s 6 0 (by decide) (by decide) (by decide)]; exact c2
theorem pMend_ok (hW : WDr D) (hp : p ≤ n) (h : pMend B n D s0 p = .inr (D', q)) : WDr D' ∧ p < q ∧ q ≤ n := by
  unfold pMend at h
  split at h
  · cases h
  rename_i g0
  split at h
  · cases h
  rename_i g3
  split at h
  · cases h
  rename_i g4
  obtain ⟨d1, d2⟩ := tE_adv (B := B) hp (by omega)
  injection h with h
  injection h with ha hb
  subst ha hb
  obtain ⟨⟨⟨a0, a1, a2, a3, a4, a5, a6, a7⟩, b1, b2, b3, b4, b5, b6, b7, b8⟩, c1, c2⟩ := hW
  generalize hE : hu (hu D 14 (D 4 0) (tV B n p)) 4 0 (D 4 0 + 1) = E
  have s : ∀ f i, f ≠ 4 → f ≠ 14 → E f i = D f i := fun f i h1 h2 => by rw [← hE, hu_n (by omega), hu_n (by omega)]
  have s' : ∀ f, f ≠ 4 → f ≠ 14 → E f = D f := fun f h1 h2 => funext (fun i => s f i h1 h2)
  have e4 : E 4 0 = D 4 0 + 1 := by rw [← hE, hu_s]
  have e14 : ∀ i, E 14 i = if i = D 4 0 then tV B n p else D 14 i := fun i => by
    rw [← hE, hu_n (by omega)]
    by_cases e : i = D 4 0
    · rw [if_pos e, e, hu_s]
    · rw [if_neg e, hu_n (by omega)]
  refine ⟨⟨⟨⟨by rw [s 0 0 (by decide) (by decide)]; exact a0, by rw [s 1 0 (by decide) (by decide)]; exact a1, by rw [s 2 0 (by decide) (by decide), s 0 0 (by decide) (by decide)]; exact a2, by rw [s 3 0 (by decide) (by decide)]; exact a3, by omega, by rw [s 5 0 (by decide) (by decide)]; exact a5, by rw [s 6 0 (by decide) (by decide)]; exact a6, by rw [s 7 0 (by decide) (by decide)]; exact a7⟩, ?_, ?_, ?_, ?_, fun i hi => ?_, ?_, ?_, ?_⟩, ?_, ?_⟩, d1, d2⟩
  · rw [s 1 0 (by decide) (by decide), s' 10 (by decide) (by decide)]; exact b1
  · rw [s 1 0 (by decide) (by decide), s' 11 (by decide) (by decide), s 0 0 (by decide) (by decide)]; exact b2
  · rw [s 3 0 (by decide) (by decide), s' 12 (by decide) (by decide), s 1 0 (by decide) (by decide)]; exact b3
  · rw [s 3 0 (by decide) (by decide), s' 13 (by decide) (by decide)]; exact b4
  · rw [e14]
    split
    · omega
    · exact b5 i (by omega)
  · rw [s' 16 (by decide) (by decide), s' 17 (by decide) (by decide), s 7 0 (by decide) (by decide), s' 15 (by decide) (by decide), s' 18 (by decide) (by decide), s' 19 (by decide) (by decide), s' 20 (by decide) (by decide)]; exact b6
  · rw [s 0 0 (by decide) (by decide), s' 8 (by decide) (by decide)]; exact b7
  · rw [s 1 0 (by decide) (by decide), s' 9 (by decide) (by decide)]; exact b8
  · rw [s 21 0 (by decide) (by decide), s 5 0 (by decide) (by decide)]; exact c1
  · rw [s 22 0 (by decide) (by decide), s 6 0 (by decide) (by decide)]; exact c2
theorem pOnce_ok {g most : Nat} (hg : (g = 5 ∧ most = 100) ∨ (g = 6 ∧ most = 99999)) (hW : WDr D) (hp : p ≤ n) (h : pOnce B n D g most s0 p = .inr (D', q)) : WDr D' ∧ p < q ∧ q ≤ n := by
  unfold pOnce at h
  split at h
  · cases h
  rename_i g0
  split at h
  · cases h
  rename_i g3
  split at h
  · cases h
  rename_i g4
  obtain ⟨d1, d2⟩ := tE_adv (B := B) hp (by omega)
  injection h with h
  injection h with ha hb
  subst ha hb
  obtain ⟨⟨⟨a0, a1, a2, a3, a4, a5, a6, a7⟩, b1, b2, b3, b4, b5, b6, b7, b8⟩, c1, c2⟩ := hW
  generalize hE : hu (hu D g 0 (tV B n p)) (g + 16) 0 1 = E
  have s : ∀ f i, f ≠ g → f ≠ g + 16 → E f i = D f i := fun f i h1 h2 => by rw [← hE, hu_n (by omega), hu_n (by omega)]
  have s' : ∀ f, f ≠ g → f ≠ g + 16 → E f = D f := fun f h1 h2 => funext (fun i => s f i h1 h2)
  have eg : E g 0 = tV B n p := by rw [← hE, hu_n (by omega), hu_s]
  have ef : E (g + 16) 0 = 1 := by rw [← hE, hu_s]
  have k5 : E 5 0 ≤ 100 ∧ E 6 0 ≤ 99999 ∧ (E 21 0 = 0 → E 5 0 = 0) ∧ (E 22 0 = 0 → E 6 0 = 0) := by
    rcases hg with ⟨e1, e2⟩ | ⟨e1, e2⟩
    · subst e1 e2
      have ef : E 21 0 = 1 := ef
      refine ⟨by omega, by rw [s 6 0 (by decide) (by decide)]; exact a6, fun z => absurd z (by omega), fun z => ?_⟩
      rw [s 22 0 (by decide) (by decide)] at z; rw [s 6 0 (by decide) (by decide)]; exact c2 z
    · subst e1 e2
      have ef : E 22 0 = 1 := ef
      refine ⟨by rw [s 5 0 (by decide) (by decide)]; exact a5, by omega, fun z => ?_, fun z => absurd z (by omega)⟩
      rw [s 21 0 (by decide) (by decide)] at z; rw [s 5 0 (by decide) (by decide)]; exact c1 z
  refine ⟨⟨⟨⟨by rw [s 0 0 (by omega) (by omega)]; exact a0, by rw [s 1 0 (by omega) (by omega)]; exact a1, by rw [s 2 0 (by omega) (by omega), s 0 0 (by omega) (by omega)]; exact a2, by rw [s 3 0 (by omega) (by omega)]; exact a3, by rw [s 4 0 (by omega) (by omega)]; exact a4, k5.1, k5.2.1, by rw [s 7 0 (by omega) (by omega)]; exact a7⟩, ?_, ?_, ?_, ?_, ?_, ?_, ?_, ?_⟩, k5.2.2.1, k5.2.2.2⟩, d1, d2⟩
  · rw [s 1 0 (by omega) (by omega), s' 10 (by omega) (by omega)]; exact b1
  · rw [s 1 0 (by omega) (by omega), s' 11 (by omega) (by omega), s 0 0 (by omega) (by omega)]; exact b2
  · rw [s 3 0 (by omega) (by omega), s' 12 (by omega) (by omega), s 1 0 (by omega) (by omega)]; exact b3
  · rw [s 3 0 (by omega) (by omega), s' 13 (by omega) (by omega)]; exact b4
  · rw [s 4 0 (by omega) (by omega), s' 14 (by omega) (by omega)]; exact b5
  · rw [s' 16 (by omega) (by omega), s' 17 (by omega) (by omega), s 7 0 (by omega) (by omega), s' 15 (by omega) (by omega), s' 18 (by omega) (by omega), s' 19 (by omega) (by omega), s' 20 (by omega) (by omega)]; exact b6
  · rw [s 0 0 (by omega) (by omega), s' 8 (by omega) (by omega)]; exact b7
  · rw [s 1 0 (by omega) (by omega), s' 9 (by omega) (by omega)]; exact b8
/-- what a law leaves -/
theorem pLaw_sp (hW : WDr D) (hp : p ≤ n) (h : pLaw B n D p = .inr (D', q)) : ∃ D1, 18 ≤ tK B n p ∧ tK B n p ≤ 20 ∧ ¬ D 16 (tK B n p - 18) < D 17 (tK B n p - 18) ∧ pS B n D (tE B n p) = .inr (D1, q) ∧ D' = hu (hu D1 16 (tK B n p - 18) (D 7 0)) 17 (tK B n p - 18) (D1 7 0) ∧ Kep D D1 ∧ D 7 0 < D1 7 0 ∧ D1 7 0 ≤ 64 ∧ sk (D1 15) (D1 18) (D1 19) (D1 20) (D 7 0) (D1 7 0 - D 7 0) = some [D1 7 0 - 1] ∧ p < q ∧ q ≤ n := by
  unfold pLaw at h
  split at h
  · cases h
  rename_i g0
  split at h
  · cases h
  rename_i g1
  obtain ⟨d1, d2⟩ := tE_adv (B := B) hp (by omega)
  split at h
  · cases h
  rename_i D1 qq hS
  injection h with h
  injection h with ha hb
  subst ha hb
  obtain ⟨k1, k2, k3, k4, k5, k6, k7⟩ := pX_ok (XI.s0 d2 hW.1.1.2.2.2.2.2.2.2) hS
  dsimp only at k1 k5
  exact ⟨D1, by omega, by omega, g1, hS, rfl, k1, k2, k3, k4, by omega, k6⟩
theorem pLaw_ok (hW : WDr D) (hp : p ≤ n) (h : pLaw B n D p = .inr (D', q)) : WDr D' ∧ p < q ∧ q ≤ n := by
  obtain ⟨D1, t1, t2, g1, hS, eD, ⟨k1, k2, k3⟩, k4, k5, k6, k7, k8⟩ := pLaw_sp hW hp h
  obtain ⟨⟨⟨a0, a1, a2, a3, a4, a5, a6, a7⟩, b1, b2, b3, b4, b5, b6, b7, b8⟩, c1, c2⟩ := hW
  refine ⟨?_, k7, k8⟩
  generalize tK B n p - 18 = q0 at eD g1
  have s : ∀ f i, ¬ (f = 7 ∧ i = 0) → f ≠ 15 → f ≠ 16 → f ≠ 17 → f ≠ 18 → f ≠ 19 → f ≠ 20 → D' f i = D f i := fun f i h1 h2 h3 h4 h5 h6 h7 => by rw [eD, hu_n (by omega), hu_n (by omega), k2 f i (by omega)]
  have s1 : ∀ f, f = 15 ∨ f = 18 ∨ f = 19 ∨ f = 20 → D' f = D1 f := fun f hf => funext (fun i => by rw [eD, hu_n (by omega), hu_n (by omega)])
  have e7 : D' 7 0 = D1 7 0 := by rw [eD, hu_n (by omega), hu_n (by omega)]
  have e16 : ∀ i, D' 16 i = if i = q0 then D 7 0 else D 16 i := fun i => by
    rw [eD, hu_n (by omega)]
    by_cases e : i = q0
    · rw [if_pos e, e, hu_s]
    · rw [if_neg e, hu_n (by omega), k2 16 i (by omega)]
  have e17 : ∀ i, D' 17 i = if i = q0 then D1 7 0 else D 17 i := fun i => by
    rw [eD]
    by_cases e : i = q0
    · rw [if_pos e, e, hu_s]
    · rw [if_neg e, hu_n (by omega), hu_n (by omega), k2 17 i (by omega)]
  have S0 : ∀ f i, f ≤ 6 → D' f i = D f i := fun f i h => s f i (by omega) (by omega) (by omega) (by omega) (by omega) (by omega) (by omega)
  have S1 : ∀ f i, 8 ≤ f → f ≤ 14 → D' f i = D f i := fun f i h1 h2 => s f i (by omega) (by omega) (by omega) (by omega) (by omega) (by omega) (by omega)
  refine ⟨⟨⟨by rw [S0 0 0 (by omega)]; exact a0, by rw [S0 1 0 (by omega)]; exact a1, by rw [S0 2 0 (by omega), S0 0 0 (by omega)]; exact a2, by rw [S0 3 0 (by omega)]; exact a3, by rw [S0 4 0 (by omega)]; exact a4, by rw [S0 5 0 (by omega)]; exact a5, by rw [S0 6 0 (by omega)]; exact a6, by omega⟩, fun i hi => ?_, fun i hi => ?_, fun i hi => ?_, fun i hi => ?_, fun i hi => ?_, fun i hi => ?_, fun i hi => ?_, fun i hi => ?_⟩, fun z => ?_, fun z => ?_⟩
  · rw [S0 1 0 (by omega)] at hi; rw [S1 10 i (by omega) (by omega)]; exact b1 i hi
  · rw [S0 1 0 (by omega)] at hi; rw [S1 11 i (by omega) (by omega), S0 0 0 (by omega)]; exact b2 i hi
  · rw [S0 3 0 (by omega)] at hi; rw [S1 12 i (by omega) (by omega), S0 1 0 (by omega)]; exact b3 i hi
  · rw [S0 3 0 (by omega)] at hi; rw [S1 13 i (by omega) (by omega)]; exact b4 i hi
  · rw [S0 4 0 (by omega)] at hi; rw [S1 14 i (by omega) (by omega)]; exact b5 i hi
  · rw [e16, e17, e7, s1 15 (by omega), s1 18 (by omega), s1 19 (by omega), s1 20 (by omega)]
    by_cases e : i = q0
    · rw [if_pos e, if_pos e]
      exact ⟨a7, k5, fun _ => ⟨Nat.le_refl _, k6⟩⟩
    · rw [if_neg e, if_neg e]
      obtain ⟨u1, u2, u3⟩ := b6 i hi
      refine ⟨u1, u2, fun z => ⟨by have := (u3 z).1; omega, ?_⟩⟩
      obtain ⟨v1, v2⟩ := u3 z
      rw [← v2]
      refine (sk_cg _ (fun j hj => ⟨?_, ?_, ?_, ?_⟩))
      · exact k3 15 j (by omega) (by omega)
      · exact k3 18 j (by omega) (by omega)
      · exact k3 19 j (by omega) (by omega)
      · exact k3 20 j (by omega) (by omega)
  · rw [S0 0 0 (by omega)] at hi; rw [S1 8 i (by omega) (by omega)]; exact b7 i hi
  · rw [S0 1 0 (by omega)] at hi; rw [S1 9 i (by omega) (by omega)]; exact b8 i hi
  · rw [s 21 0 (by omega) (by omega) (by omega) (by omega) (by omega) (by omega) (by omega)] at z; rw [S0 5 0 (by omega)]; exact c1 z
  · rw [s 22 0 (by omega) (by omega) (by omega) (by omega) (by omega) (by omega) (by omega)] at z; rw [S0 6 0 (by omega)]; exact c2 z
theorem pBody_ok {k : Nat} (hW : WDr D) (hp : p ≤ n) (h : pBody B n D k s0 p = .inr (D', q)) : WDr D' ∧ p < q ∧ q ≤ n := by
  unfold pBody at h
  split at h
  · exact pLamp_ok hW hp h
  split at h
  · exact pPull_ok hW hp h
  split at h
  · exact pLit_ok hW hp h
  split at h
  · exact pRing_ok hW hp h
  split at h
  · exact pMend_ok hW hp h
  split at h
  · exact pOnce_ok (Or.inl ⟨rfl, rfl⟩) hW hp h
  split at h
  · exact pOnce_ok (Or.inr ⟨rfl, rfl⟩) hW hp h
  split at h
  · exact pLaw_ok hW hp h
  cases h
theorem pLine_ok (hW : WDr D) (hp : p ≤ n) (hk : tK B n p ≠ 0) (h : pLine B n D p = .inr (D', q)) : WDr D' ∧ p < q ∧ q ≤ n := by
  unfold pLine at h
  obtain ⟨d1, d2⟩ := tE_adv (B := B) hp hk
  split at h
  · cases h
  rename_i D1 q1 hb
  obtain ⟨e1, e2, e3⟩ := pBody_ok hW d2 hb
  split at h
  · rename_i g
    injection h with h
    injection h with ha hb
    subst ha hb
    obtain ⟨d3, d4⟩ := tE_adv (B := B) e3 (by omega)
    exact ⟨e1, by omega, d4⟩
  · cases h
end LinesOk
