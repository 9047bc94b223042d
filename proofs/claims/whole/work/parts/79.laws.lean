/-! ===== laws: what signs join ===== -/
def eV : Int64 := -9223372036854775808
def Bnd (y : Int64) : Prop := -1000000000000 ≤ y.toInt ∧ y.toInt ≤ 1000000000000
def ab6 (y : Int64) : Int64 := if y < 0 then -y else y
/-- a sign's number on the second side, as the first side has it -/
def kz : Nat → Nat
  | 2 => 23
  | 3 => 22
  | 4 => 21
  | 5 => 35
  | 6 => 41
  | 7 => 36
  | 8 => 42
  | 9 => 43
  | 10 => 37
  | 11 => 31
  | 12 => 32
  | 13 => 33
  | _ => 34
def bo6 (v : Int64) : Option Int64 := if 1000000000000 < v ∨ v < -1000000000000 then none else some v
def t1 (c : Bool) : Int64 := if c = true then 1 else 0
def jo (k : Nat) (a b : Int64) : Option Int64 := match k with
  | 3 => some (t1 (decide (¬ a = 0) && decide (¬ b = 0)))
  | 4 => some (t1 (decide (¬ a = 0) || decide (¬ b = 0)))
  | 5 => some (t1 (decide (a < b)))
  | 6 => some (t1 (decide (¬ b < a)))
  | 7 => some (t1 (decide (a = b)))
  | 8 => some (t1 (decide (¬ a = b)))
  | 9 => some (t1 (decide (¬ a < b)))
  | 10 => some (t1 (decide (b < a)))
  | 11 => bo6 (a + b)
  | 12 => bo6 (a - b)
  | 13 => if a ≠ 0 ∧ b ≠ 0 ∧ 1000000000000 / ab6 a < ab6 b then none else some (a * b)
  | _ => if b = 0 then none else some (a / b)
def oE (o : Option Int64) : Int64 := match o with
  | some v => v
  | none => eV
theorem bnd_lit : (1000000000000 : Int64).toInt = 1000000000000 := by decide
theorem bnd_lit2 : (-1000000000000 : Int64).toInt = -1000000000000 := by decide
theorem bnd_iff (v : Int64) : Bnd v ↔ ¬ (1000000000000 < v ∨ v < -1000000000000) := by
  unfold Bnd
  rw [fa_lt64, fa_lt64, bnd_lit, bnd_lit2]
  omega
theorem bnd_ne {v : Int64} (h : Bnd v) : v ≠ eV := by
  intro e
  subst e
  exact absurd h.1 (by decide)
theorem bnd_t1 (c : Bool) : Bnd (t1 c) := by
  cases c <;> exact ⟨by decide, by decide⟩
theorem ab6_i {a : Int64} (h : Bnd a) : (ab6 a).toInt = if a.toInt < 0 then -a.toInt else a.toInt := by
  unfold ab6
  have h1 := h.1
  have h2 := h.2
  by_cases c : a < 0
  · rw [if_pos c]
    rw [fa_lt64] at c
    have c : a.toInt < 0 := c
    rw [if_pos c, Int64.toInt_neg]
    exact Int.bmod_eq_of_le (by omega) (by omega)
  · rw [if_neg c]
    rw [fa_lt64] at c
    have c : ¬ a.toInt < 0 := c
    rw [if_neg c]
theorem dv_i {d : Int64} (h : 0 < d.toInt) : (1000000000000 / d : Int64).toInt = 1000000000000 / d.toInt := by
  have h2 : d ≠ -1 := by
    intro e
    subst e
    exact absurd h (by decide)
  rw [Int64.toInt_div_of_ne_right _ _ h2, bnd_lit, Int.tdiv_eq_ediv_of_nonneg (by decide)]
theorem bnd_mul {a b : Int64} (ha : Bnd a) (hb : Bnd b) (h : ¬ (a ≠ 0 ∧ b ≠ 0 ∧ 1000000000000 / ab6 a < ab6 b)) : Bnd (a * b) := by
  by_cases a0 : a = 0
  · subst a0
    rw [Int64.zero_mul]
    exact ⟨by decide, by decide⟩
  by_cases b0 : b = 0
  · subst b0
    rw [Int64.mul_zero]
    exact ⟨by decide, by decide⟩
  have h3 : ¬ 1000000000000 / ab6 a < ab6 b := fun z => h ⟨a0, b0, z⟩
  have an : a.toInt ≠ 0 := fun e => a0 ((fa_eq64 a 0).mpr e)
  have ea := ab6_i ha
  have eb := ab6_i hb
  have hp : 0 < (ab6 a).toInt := by
    rw [ea]
    split <;> omega
  rw [fa_lt64, dv_i hp, Int.not_lt, Int.le_ediv_iff_mul_le hp] at h3
  have e1 : (ab6 a).toInt = ((a.toInt.natAbs : Nat) : Int) := by
    rw [ea]
    split <;> omega
  have e2 : (ab6 b).toInt = ((b.toInt.natAbs : Nat) : Int) := by
    rw [eb]
    split <;> omega
  have e3 : ((a.toInt * b.toInt).natAbs : Int) ≤ 1000000000000 := by
    rw [Int.natAbs_mul, Int.natCast_mul, ← e1, ← e2, Int.mul_comm]
    exact h3
  have e4 : (a * b).toInt = a.toInt * b.toInt := by
    rw [Int64.toInt_mul]
    exact Int.bmod_eq_of_le (by omega) (by omega)
  unfold Bnd
  rw [e4]
  omega
theorem bnd_div {a b : Int64} (ha : Bnd a) (hb : b ≠ 0) : Bnd (a / b) := by
  have h1 := ha.1
  have h2 := ha.2
  have h3 : a ≠ Int64.minValue := by
    intro e
    subst e
    exact absurd h1 (by decide)
  have bn : b.toInt ≠ 0 := fun e => hb ((fa_eq64 b 0).mpr e)
  have e := Int64.toInt_div_of_ne_left a b h3
  have e2 : ((a.toInt.tdiv b.toInt).natAbs) ≤ a.toInt.natAbs := by
    rw [Int.natAbs_tdiv]
    exact Nat.div_le_self _ _
  unfold Bnd
  rw [e]
  omega
theorem bnd_bo {v r : Int64} (h : bo6 v = some r) : Bnd r := by
  unfold bo6 at h
  split at h
  · cases h
  · injection h with h
    subst h
    rename_i hn
    exact (bnd_iff v).mpr hn
theorem jo_bnd {k : Nat} {a b r : Int64} (ha : Bnd a) (hb : Bnd b) (h : jo k a b = some r) : Bnd r := by
  unfold jo at h
  split at h
  case h_9 => exact bnd_bo h
  case h_10 => exact bnd_bo h
  case h_11 =>
    split at h
    · cases h
    · injection h with h
      subst h
      rename_i hn
      exact bnd_mul ha hb hn
  case h_12 =>
    split at h
    · cases h
    · injection h with h
      subst h
      rename_i hn
      exact bnd_div ha hn
  all_goals
    injection h with h
    subst h
    exact bnd_t1 _
section Laws
variable {t : Nat} {σ : Mm}
theorem c_14 {c : Bool} {x : Int32} (hS : Sg t σ) (hx : x = if c = true then 1 else 0) : Cl 14 [.int x] σ (some (.long (t1 c)), σ) := by
  subst hx
  refine ck_14 hS (b_14_0 hS (w_b (fun h => ?_) (fun h => ?_)))
  · rw [h]; rfl
  · rw [h]; rfl
theorem c_15 {y : Int64} (hS : Sg t σ) : Cl 15 [.long y] σ (some (.long (oE (bo6 y))), σ) := by
  refine ck_15 hS (b_15_0 hS ⟨fun h => ?_, fun h => ⟨fun g => ?_, fun g => ?_⟩⟩)
  · rw [bo6, if_pos (Or.inl h)]; rfl
  · rw [bo6, if_pos (Or.inr g)]; rfl
  · rw [bo6, if_neg (fun z => z.elim h g)]; rfl
theorem c_16 {a b : Int64} (hS : Sg t σ) (ha : Bnd a) : Cl 16 [.long a, .long b] σ (some (.long (oE (jo 13 a b))), σ) := by
  have e : jo 13 a b = if a ≠ 0 ∧ b ≠ 0 ∧ 1000000000000 / ab6 a < ab6 b then none else some (a * b) := rfl
  refine ck_16 hS (b_16_0 hS ⟨fun h => ?_, fun h => ⟨_, _, c_277 hS, hS, _, _, c_277 hS, hS, ?_, fun g => ?_, fun g => ?_⟩⟩)
  · rw [e, if_neg (fun z => z.1 h)]; rfl
  · have an : a.toInt ≠ 0 := fun e => h ((fa_eq64 a 0).mpr e)
    intro z
    have ea := ab6_i ha
    have z : ab6 a = 0 := z
    rw [z] at ea
    have ea : (0 : Int) = _ := ea
    split at ea <;> omega
  · have g : 1000000000000 / ab6 a < ab6 b := g
    have hb : b ≠ 0 := by
      intro z
      subst z
      have an : a.toInt ≠ 0 := fun e => h ((fa_eq64 a 0).mpr e)
      have ea := ab6_i ha
      have hp : 0 < (ab6 a).toInt := by
        rw [ea]
        split <;> omega
      rw [fa_lt64, dv_i hp] at g
      have g : 1000000000000 / (ab6 a).toInt < 0 := g
      have := Int.ediv_nonneg (a := 1000000000000) (by decide) (Int.le_of_lt hp)
      omega
    rw [e, if_pos ⟨h, hb, g⟩]; rfl
  · have g : ¬ 1000000000000 / ab6 a < ab6 b := g
    rw [e, if_neg (fun z => g z.2.2)]; rfl
theorem sw12 {x : Int32} {A21 A22 A31 A32 A33 A34 A35 A36 A37 A41 A42 A43 D : Prop} (h : (x = 21 ∧ A21) ∨ (x = 22 ∧ A22) ∨ (x = 31 ∧ A31) ∨ (x = 32 ∧ A32) ∨ (x = 33 ∧ A33) ∨ (x = 34 ∧ A34) ∨ (x = 35 ∧ A35) ∨ (x = 36 ∧ A36) ∨ (x = 37 ∧ A37) ∨ (x = 41 ∧ A41) ∨ (x = 42 ∧ A42) ∨ (x = 43 ∧ A43)) : (x = 21 → A21) ∧ (x = 22 → A22) ∧ (x = 31 → A31) ∧ (x = 32 → A32) ∧ (x = 33 → A33) ∧ (x = 34 → A34) ∧ (x = 35 → A35) ∧ (x = 36 → A36) ∧ (x = 37 → A37) ∧ (x = 41 → A41) ∧ (x = 42 → A42) ∧ (x = 43 → A43) ∧ ((¬ x = 21 ∧ ¬ x = 22 ∧ ¬ x = 31 ∧ ¬ x = 32 ∧ ¬ x = 33 ∧ ¬ x = 34 ∧ ¬ x = 35 ∧ ¬ x = 36 ∧ ¬ x = 37 ∧ ¬ x = 41 ∧ ¬ x = 42 ∧ ¬ x = 43) → D) := by
  rcases h with h | h | h | h | h | h | h | h | h | h | h | h
  all_goals
    obtain ⟨rfl, h⟩ := h
    refine ⟨?_, ?_, ?_, ?_, ?_, ?_, ?_, ?_, ?_, ?_, ?_, ?_, ?_⟩
    all_goals first | exact fun _ => h | exact fun z => absurd z (by decide) | (intro z; exact absurd z (by decide))
theorem c_13 {k : Nat} {a b : Int64} (hS : Sg t σ) (h3 : 3 ≤ k) (h4 : k ≤ 14) (ha : Bnd a) : Cl 13 [.int (nI (kz k)), .long a, .long b] σ (some (.long (oE (jo k a b))), σ) := by
  refine ck_13 hS (b_13_0 hS ?_)
  have y1 : ∀ {c : Bool}, c = true → ∃ (v : Int64) (σ1 : Mm), Cl 14 [.int 1] σ (some (.long v), σ1) ∧ Sg t σ1 ∧ ((some (Value.long (t1 c)), σ) = (some (Value.long v), σ1)) := fun {c} hc => ⟨_, _, c_14 (c := c) hS (by rw [hc]; rfl), hS, rfl⟩
  have y0 : ∀ {c : Bool}, c = false → ∃ (v : Int64) (σ1 : Mm), Cl 14 [.int 0] σ (some (.long v), σ1) ∧ Sg t σ1 ∧ ((some (Value.long (t1 c)), σ) = (some (Value.long v), σ1)) := fun {c} hc => ⟨_, _, c_14 (c := c) hS (by rw [hc]; rfl), hS, rfl⟩
  have hk : k = 3 ∨ k = 4 ∨ k = 5 ∨ k = 6 ∨ k = 7 ∨ k = 8 ∨ k = 9 ∨ k = 10 ∨ k = 11 ∨ k = 12 ∨ k = 13 ∨ k = 14 := by omega
  refine sw12 ?_
  rcases hk with rfl | rfl | rfl | rfl | rfl | rfl | rfl | rfl | rfl | rfl | rfl | rfl
  · exact Or.inr (Or.inl ⟨rfl, fun h => y0 (by simp [h]), fun h => ⟨fun g => y0 (by simp [g]), fun g => y1 (by simp [h, g])⟩⟩)
  · exact Or.inl ⟨rfl, fun h => ⟨fun g => y0 (by simp [h, g]), fun g => y1 (by simp [g])⟩, fun h => y1 (by simp [h])⟩
  · exact Or.inr (Or.inr (Or.inr (Or.inr (Or.inr (Or.inr (Or.inl ⟨rfl, fun h => y1 (decide_eq_true h), fun h => y0 (decide_eq_false h)⟩))))))
  · exact Or.inr (Or.inr (Or.inr (Or.inr (Or.inr (Or.inr (Or.inr (Or.inr (Or.inr (Or.inl ⟨rfl, fun h => y0 (decide_eq_false (fun z => z h)), fun h => y1 (decide_eq_true h)⟩)))))))))
  · exact Or.inr (Or.inr (Or.inr (Or.inr (Or.inr (Or.inr (Or.inr (Or.inl ⟨rfl, fun h => y1 (decide_eq_true h), fun h => y0 (decide_eq_false h)⟩)))))))
  · exact Or.inr (Or.inr (Or.inr (Or.inr (Or.inr (Or.inr (Or.inr (Or.inr (Or.inr (Or.inr (Or.inl ⟨rfl, fun h => y0 (decide_eq_false (fun z => z h)), fun h => y1 (decide_eq_true h)⟩))))))))))
  · exact Or.inr (Or.inr (Or.inr (Or.inr (Or.inr (Or.inr (Or.inr (Or.inr (Or.inr (Or.inr (Or.inr ⟨rfl, fun h => y0 (decide_eq_false (fun z => z h)), fun h => y1 (decide_eq_true h)⟩))))))))))
  · exact Or.inr (Or.inr (Or.inr (Or.inr (Or.inr (Or.inr (Or.inr (Or.inr (Or.inl ⟨rfl, fun h => y1 (decide_eq_true h), fun h => y0 (decide_eq_false h)⟩))))))))
  · exact Or.inr (Or.inr (Or.inl ⟨rfl, _, _, c_15 hS, hS, rfl⟩))
  · exact Or.inr (Or.inr (Or.inr (Or.inl ⟨rfl, _, _, c_15 hS, hS, rfl⟩)))
  · exact Or.inr (Or.inr (Or.inr (Or.inr (Or.inl ⟨rfl, _, _, c_16 hS ha, hS, rfl⟩))))
  · have e : jo 14 a b = if b = 0 then none else some (a / b) := rfl
    refine Or.inr (Or.inr (Or.inr (Or.inr (Or.inr (Or.inl ⟨rfl, fun h => ?_, fun h => ⟨h, ?_⟩⟩)))))
    · rw [e, if_pos h]; rfl
    · rw [e, if_neg h]; rfl
end Laws
