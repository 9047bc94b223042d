/-! ===== laws, second side ===== -/
section LawOf
variable {t : Nat} {σ : Mm} {sp kn pt ot nm : Nat → Nat}
def We (a i : Nat) : Prop := a = 59 ∧ i = 48
/-- whether an error stands -/
def Er (σ : Mm) (e : Bool) : Prop := mI σ 59 48 = if e = true then 1 else 0
theorem er_up {e : Bool} : Er (uI σ 59 48 (if e = true then 1 else 0)) e := by
  unfold Er
  rw [mI_uI, if_pos ⟨rfl, rfl⟩]
theorem c_191 {y : Int64} {e : Bool} (hS : Sg t σ) (he : Er σ e) : ∃ σ', Cl 191 [.ref 59, .long y] σ (some (.long (match bo6 y with
    | some v => if e = true then 0 else v
    | none => 0)), σ') ∧ Fr We σ σ' ∧ Er σ' (match bo6 y with
    | some _ => e
    | none => true) := by
  have one : ∀ v, mI (uI σ 59 48 v) 59 48 = v := fun v => by rw [mI_uI, if_pos ⟨rfl, rfl⟩]
  have fr : ∀ v, Fr We σ (uI σ 59 48 v) := fun v => (Fr.rf σ).uI ⟨rfl, rfl⟩
  unfold Er at he
  have h := fun w => b_191_0 (w := w) (y1 := y) hS
  rw [he] at h
  by_cases c : 1000000000000 < y ∨ y < -1000000000000
  · rw [bo6, if_pos c]
    refine ⟨uI σ 59 48 1, ck_191 hS (h _ (w_b (fun _ => ⟨fun _ => ?_, fun c1 => ⟨fun _ => ?_, fun c2 => absurd c (fun z => z.elim c1 c2)⟩⟩) (fun _ => ?_))), fr 1, one 1⟩
    all_goals exact ⟨fun z => absurd z (by rw [one]; decide), fun _ => rfl⟩
  · rw [bo6, if_neg c]
    cases e with
    | true => exact ⟨uI σ 59 48 1, ck_191 hS (h _ (w_b (fun z => absurd z (by decide)) (fun _ => ⟨fun z => absurd z (by rw [one]; decide), fun _ => rfl⟩))), fr 1, one 1⟩
    | false => exact ⟨uI σ 59 48 0, ck_191 hS (h _ (w_b (fun _ => ⟨fun z => absurd (Or.inl z) c, fun _ => ⟨fun z => absurd (Or.inr z) c, fun _ => ⟨fun _ => rfl, fun z => absurd (one 0) z⟩⟩⟩) (fun z => absurd z (by decide)))), fr 0, one 0⟩
theorem c_193 {a b : Int64} {e : Bool} (hS : Sg t σ) (he : Er σ e) (ha : Bnd a) : ∃ σ', Cl 193 [.ref 59, .long a, .long b] σ (some (.long (match jo 13 a b with
    | some v => if e = true then 0 else v
    | none => 0)), σ') ∧ Fr We σ σ' ∧ Er σ' (match jo 13 a b with
    | some _ => e
    | none => true) := by
  have one : ∀ v, mI (uI σ 59 48 v) 59 48 = v := fun v => by rw [mI_uI, if_pos ⟨rfl, rfl⟩]
  have fr : ∀ v, Fr We σ (uI σ 59 48 v) := fun v => (Fr.rf σ).uI ⟨rfl, rfl⟩
  unfold Er at he
  have ej : jo 13 a b = if a ≠ 0 ∧ b ≠ 0 ∧ 1000000000000 / ab6 a < ab6 b then none else some (a * b) := rfl
  -- the tail
  have tail : ∀ c : Bool, ((c = true) ↔ (a ≠ 0 ∧ b ≠ 0 ∧ 1000000000000 / ab6 a < ab6 b)) → ∀ z5, ∃ σ', Ev 193 49 [.ref 59, .long a, .float 0, .long b, .float 0, z5] [.int (if c = true then 1 else 0)] σ (some (.long (match jo 13 a b with
    | some v => if e = true then 0 else v
    | none => 0)), σ') ∧ Fr We σ σ' ∧ Er σ' (match jo 13 a b with
    | some _ => e
    | none => true) := by
    intro c hc z5
    have h := fun w => b_193_49 (w := w) (y1 := a) (y3 := b) (z5 := z5) (s0 := if c = true then 1 else 0) hS
    rw [he] at h
    rw [ej]
    cases c with
    | true =>
      rw [if_pos (hc.mp rfl)]
      refine ⟨uI σ 59 48 1, h _ (w_b (fun _ => ⟨fun z => absurd z (by decide), fun _ => ?_⟩) (fun _ => ?_)), fr 1, one 1⟩
      all_goals exact ⟨fun z => absurd z (by rw [one]; decide), fun _ => rfl⟩
    | false =>
      rw [if_neg (fun z => absurd (hc.mpr z) (by decide))]
      cases e with
      | true => exact ⟨uI σ 59 48 1, h _ (w_b (fun z => absurd z (by decide)) (fun _ => ⟨fun z => absurd z (by rw [one]; decide), fun _ => rfl⟩)), fr 1, one 1⟩
      | false => exact ⟨uI σ 59 48 0, h _ (w_b (fun _ => ⟨fun _ => ⟨fun _ => rfl, fun z => absurd (one 0) z⟩, fun z => absurd rfl z⟩) (fun z => absurd z (by decide))), fr 0, one 0⟩
  by_cases a0 : a = 0
  · obtain ⟨σ', h, g⟩ := tail false ⟨fun z => absurd z (by decide), fun z => absurd a0 z.1⟩ (.retAddr 0)
    exact ⟨σ', ck_193 hS (b_193_0 hS ⟨fun _ => h, fun z => absurd a0 z⟩), g⟩
  by_cases b0 : b = 0
  · obtain ⟨σ', h, g⟩ := tail false ⟨fun z => absurd z (by decide), fun z => absurd b0 z.2.1⟩ (.retAddr 0)
    exact ⟨σ', ck_193 hS (b_193_0 hS ⟨fun z => absurd z a0, fun _ => ⟨fun _ => h, fun z => absurd b0 z⟩⟩), g⟩
  obtain ⟨σ', h, g⟩ := tail (decide (1000000000000 / ab6 a < ab6 b)) ⟨fun z => ⟨a0, b0, of_decide_eq_true z⟩, fun z => decide_eq_true z.2.2⟩ (.retAddr 0)
  have h24 : Ev 193 24 [.ref 59, .long a, .float 0, .long b, .float 0, .retAddr 0] [.long (ab6 b)] σ (some (.long (match jo 13 a b with
    | some v => if e = true then 0 else v
    | none => 0)), σ') := by
    have an : a.toInt ≠ 0 := fun e => a0 ((fa_eq64 a 0).mpr e)
    have ea := ab6_i ha
    have nz : ab6 a ≠ 0 := by
      intro z
      rw [z] at ea
      have ea : (0 : Int) = _ := ea
      split at ea <;> omega
    have two : (1000000000000 / ab6 a < ab6 b → Ev 193 49 [.ref 59, .long a, .float 0, .long b, .float 0, .retAddr 0] [.int 1] σ (some (.long (match jo 13 a b with
      | some v => if e = true then 0 else v
      | none => 0)), σ')) ∧ (¬ 1000000000000 / ab6 a < ab6 b → Ev 193 49 [.ref 59, .long a, .float 0, .long b, .float 0, .retAddr 0] [.int 0] σ (some (.long (match jo 13 a b with
      | some v => if e = true then 0 else v
      | none => 0)), σ')) := by
      refine ⟨fun z => ?_, fun z => ?_⟩
      · rw [if_pos (decide_eq_true z)] at h; exact h
      · rw [if_neg (by rw [decide_eq_false z]; decide)] at h; exact h
    refine b_193_24 hS ⟨fun c => ?_, fun c => ?_⟩
    · have ec : ab6 a = -a := if_pos c
      rw [ec] at nz two
      exact ⟨nz, two⟩
    · have ec : ab6 a = a := if_neg c
      rw [ec] at nz two
      exact ⟨nz, two⟩
  refine ⟨σ', ck_193 hS (b_193_0 hS ⟨fun z => absurd z a0, fun _ => ⟨fun z => absurd z b0, fun _ => ⟨fun c => ?_, fun c => ?_⟩⟩⟩), g⟩
  · have ec : ab6 b = -b := if_pos c
    rw [ec] at h24; exact h24
  · have ec : ab6 b = b := if_neg c
    rw [ec] at h24; exact h24
theorem c_192 {k : Nat} {a b : Int64} (hS : Sg t σ) (h5 : 5 ≤ k) (h10 : k ≤ 10) : ∃ c : Bool, jo k a b = some (t1 c) ∧ Cl 192 [.int (nI k), .long a, .long b] σ (some (.int (if c = true then 1 else 0)), σ) := by
  have two : ∀ (p : Prop) [Decidable p], ((p → (some (Value.int (if (decide p) = true then (1 : Int32) else 0)), σ) = (some (.int 1), σ)) ∧ (¬ p → (some (Value.int (if (decide p) = true then (1 : Int32) else 0)), σ) = (some (.int 0), σ))) := by
    intro p _
    refine ⟨fun z => ?_, fun z => ?_⟩
    · rw [decide_eq_true z]; rfl
    · rw [decide_eq_false z]; rfl
  have two' : ∀ (p : Prop) [Decidable p], ((p → (some (Value.int (if (decide (¬ p)) = true then (1 : Int32) else 0)), σ) = (some (.int 0), σ)) ∧ (¬ p → (some (Value.int (if (decide (¬ p)) = true then (1 : Int32) else 0)), σ) = (some (.int 1), σ))) := by
    intro p _
    refine ⟨fun z => ?_, fun z => ?_⟩
    · rw [decide_eq_false (fun y => y z)]; rfl
    · rw [decide_eq_true z]; rfl
  have hk : k = 5 ∨ k = 6 ∨ k = 7 ∨ k = 8 ∨ k = 9 ∨ k = 10 := by omega
  rcases hk with rfl | rfl | rfl | rfl | rfl | rfl
  · refine ⟨_, rfl, ck_192 hS (b_192_0 hS ⟨fun _ => two (a < b), ?_⟩)⟩
    exact ⟨fun z => absurd z (by decide), fun z => absurd z (by decide), fun z => absurd z (by decide), fun z => absurd z (by decide), fun z => absurd rfl z.1⟩
  · refine ⟨_, rfl, ck_192 hS (b_192_0 hS ⟨fun z => absurd z (by decide), fun _ => two' (b < a), ?_⟩)⟩
    exact ⟨fun z => absurd z (by decide), fun z => absurd z (by decide), fun z => absurd z (by decide), fun z => absurd rfl z.2.1⟩
  · refine ⟨_, rfl, ck_192 hS (b_192_0 hS ⟨fun z => absurd z (by decide), fun z => absurd z (by decide), fun _ => two (a = b), ?_⟩)⟩
    exact ⟨fun z => absurd z (by decide), fun z => absurd z (by decide), fun z => absurd rfl z.2.2.1⟩
  · refine ⟨_, rfl, ck_192 hS (b_192_0 hS ⟨fun z => absurd z (by decide), fun z => absurd z (by decide), fun z => absurd z (by decide), fun _ => two' (a = b), ?_⟩)⟩
    exact ⟨fun z => absurd z (by decide), fun z => absurd rfl z.2.2.2.1⟩
  · refine ⟨_, rfl, ck_192 hS (b_192_0 hS ⟨fun z => absurd z (by decide), fun z => absurd z (by decide), fun z => absurd z (by decide), fun z => absurd z (by decide), fun _ => two' (a < b), fun z => absurd rfl z.2.2.2.2⟩)⟩
  · exact ⟨_, rfl, ck_192 hS (b_192_0 hS ⟨fun z => absurd z (by decide), fun z => absurd z (by decide), fun z => absurd z (by decide), fun z => absurd z (by decide), fun z => absurd z (by decide), fun _ => two (b < a)⟩)⟩
end LawOf
