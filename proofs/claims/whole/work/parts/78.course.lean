/-! ===== specs: how minutes go by, what is tried otherwise ===== -/
section Course
variable {t : Nat} {σ : Mm}
def Wc (a i : Nat) : Prop := a = 38
/-- the course as told: drawn or not, and what is tried -/
def CC (σ : Mm) (d : Int32) (w p : Int32) : Prop := mI σ 38 0 = d ∧ mI σ 38 1 = (if w = 0 then 0 else 1) ∧ mI σ 38 2 = (if w = 1 then 0 else 1) ∧ mI σ 38 3 = (if w = 3 then 0 else 1) ∧ mI σ 38 4 = (if w = 2 then p else -1)
theorem c_7 {x p : Int32} (hS : Sg t σ) : ∃ σ', Cl 7 [.ref 38, .int x, .int p] σ (none, σ') ∧ Fr Wc σ σ' ∧ CC σ' (mI σ 38 0) x p := by
  have hS1 : ∀ v, Sg t (uI σ 38 1 v) := fun v => hS
  refine ⟨uI (uI (uI (uI σ 38 1 (if x = 0 then 0 else 1)) 38 2 (if x = 1 then 0 else 1)) 38 4 (if x = 2 then p else -1)) 38 3 (if x = 3 then 0 else 1), ck_7 hS (b_7_0 hS ?_), (((((Fr.rf (P := Wc) σ).uI rfl).uI rfl).uI rfl).uI rfl), ?_⟩
  · have tail : ∀ v s0, (s0 = 0 ∨ s0 = 1) → Ev 7 24 [.ref 38, .int x, .int p] [.int s0, .ref 38] (uI σ 38 1 v) (none, uI (uI (uI (uI σ 38 1 v) 38 2 s0) 38 4 (if x = 2 then p else -1)) 38 3 (if x = 3 then 0 else 1)) := by
      intro v s0 h0
      refine b_7_24 (hS1 v) ⟨h0, ⟨fun h2 => ⟨fun h3 => ?_, fun h3 => ?_⟩, fun h2 => ⟨fun h3 => ?_, fun h3 => ?_⟩⟩⟩
      · rw [if_pos h2, if_pos h3]
      · rw [if_pos h2, if_neg h3]
      · rw [if_neg h2, if_pos h3]
      · rw [if_neg h2, if_neg h3]
    refine ⟨fun h0 => ⟨fun h1 => ?_, fun h1 => ?_⟩, fun h0 => ⟨fun h1 => ?_, fun h1 => ?_⟩⟩
    · rw [if_pos h0, if_pos h1]; exact tail 0 0 (Or.inl rfl)
    · rw [if_pos h0, if_neg h1]; exact tail 0 1 (Or.inr rfl)
    · rw [if_neg h0, if_pos h1]; exact tail 1 0 (Or.inl rfl)
    · rw [if_neg h0, if_neg h1]; exact tail 1 1 (Or.inr rfl)
  · refine ⟨?_, ?_, ?_, ?_, ?_⟩ <;> simp [mI_uI]
theorem c_5 (hS : Sg t σ) : ∃ σ', Cl 5 [.ref 38] σ (none, σ') ∧ Fr Wc σ σ' ∧ CC σ' 1 (-1) (-1) := by
  have hS1 : Sg t (uI σ 38 0 1) := hS
  obtain ⟨σ', h, hf, hc⟩ := c_7 (x := -1) (p := -1) hS1
  refine ⟨σ', ck_5 hS (b_5_0 hS ⟨σ', h, hf.sg hS1, rfl⟩), ((Fr.rf (P := Wc) σ).uI rfl).tr hf, ?_⟩
  rw [mI_uI, if_pos ⟨rfl, rfl⟩] at hc
  exact hc
theorem c_6 (hS : Sg t σ) : ∃ σ', Cl 6 [.ref 38] σ (none, σ') ∧ Fr Wc σ σ' ∧ CC σ' 0 (-1) (-1) := by
  have hS1 : Sg t (uI σ 38 0 0) := hS
  obtain ⟨σ', h, hf, hc⟩ := c_7 (x := -1) (p := -1) hS1
  refine ⟨σ', ck_6 hS (b_6_0 hS ⟨σ', h, hf.sg hS1, rfl⟩), ((Fr.rf (P := Wc) σ).uI rfl).tr hf, ?_⟩
  rw [mI_uI, if_pos ⟨rfl, rfl⟩] at hc
  exact hc
theorem c_24 {a : Nat} (hS : Sg t σ) (ha : a = 26 ∨ a = 30 ∨ a = 34) : Cl 24 [.ref a] σ (none, uI (uI σ a 3 0) a 2 0) := ck_24 hS ha (b_24_0 hS ha rfl)
end Course
