/-! ===== houses: the first side's relation; become ===== -/
theorem mI_uW {σ : Mm} {a b i : Nat} {f : Nat → Int32} : mI (uW σ a f) b i = if b = a then f i else mI σ b i := by
  unfold mI uW u1
  by_cases h : b = a
  · rw [if_pos h]; simp [h]
  · rw [if_neg h]; simp [h]
theorem Fr.uW {P : Nat → Nat → Prop} {σ σ' : Mm} {a : Nat} {f : Nat → Int32} (h : Fr P σ σ') (hp : ∀ j, P a j) : Fr P σ (uW σ' a f) := by
  refine ⟨fun x i hx => ⟨?_, (h.1 x i hx).2⟩, h.2⟩
  rw [mI_uW, if_neg (fun z : x = a => hx (by rw [z]; exact hp i))]
  exact (h.1 x i hx).1
section House
variable {t : Nat} {σ : Mm}
/-- a house's cells -/
def CH (σ : Mm) (a : Nat) (H : Nat → Nat → Nat) : Prop := (∀ f, f < 7 → mI σ a f = nI (H f 0)) ∧ (∀ i, i < 14 → mI σ (a + 1) i = nI (H 7 i)) ∧ (∀ i, i < 10 → mI σ (a + 2) i = nI (H 8 i)) ∧ (∀ i, i < 10 → mI σ (a + 3) i = nI (H 9 i))
def Wh (a x i : Nat) : Prop := a ≤ x ∧ x ≤ a + 3
theorem CH.fr {a : Nat} {H : Nat → Nat → Nat} {σ' : Mm} {W : Nat → Nat → Prop} (h : CH σ a H) (hf : Fr W σ σ') (hW : ∀ x i, a ≤ x → x ≤ a + 3 → ¬ W x i) : CH σ' a H :=
  ⟨fun f hf1 => ((hf.1 a f (hW a f (by omega) (by omega))).1).trans (h.1 f hf1), fun i hi => ((hf.1 _ i (hW _ i (by omega) (by omega))).1).trans (h.2.1 i hi), fun i hi => ((hf.1 _ i (hW _ i (by omega) (by omega))).1).trans (h.2.2.1 i hi), fun i hi => ((hf.1 _ i (hW _ i (by omega) (by omega))).1).trans (h.2.2.2 i hi)⟩
theorem c_19 {a a1 : Nat} {H : Nat → Nat → Nat} (hS : Sg t σ) (ha : a = 26 ∨ a = 30 ∨ a = 34) (h1 : a1 = 26 ∨ a1 = 30 ∨ a1 = 34) (hne : a ≠ a1) (hH : CH σ a1 H) : ∃ σ', Cl 19 [.ref a, .ref a1] σ (none, σ') ∧ Fr (Wh a) σ σ' ∧ CH σ' a H := by
  have hd : a + 3 < a1 ∨ a1 + 3 < a := by omega
  have hW : ∀ x i, a1 ≤ x → x ≤ a1 + 3 → ¬ Wh a x i := fun x i h1 h2 => by unfold Wh; omega
  -- one field more
  have fld : ∀ σ1, Fr (Wh a) σ σ1 → ∀ k, k < 7 → (∀ f, f < k → mI σ1 a f = nI (H f 0)) → Fr (Wh a) σ (uI σ1 a k (mI σ1 a1 k)) ∧ ∀ f, f < k + 1 → mI (uI σ1 a k (mI σ1 a1 k)) a f = nI (H f 0) := by
    intro σ1 hf k hk hl
    have hHk := (hH.fr hf hW).1 k hk
    refine ⟨hf.uI (by unfold Wh; omega), fun f hfk => ?_⟩
    rw [mI_uI]
    by_cases e : f = k
    · rw [if_pos ⟨rfl, e⟩, hHk, e]
    · rw [if_neg (fun z => e z.2)]; exact hl f (by omega)
  obtain ⟨f0, g0⟩ := fld σ (Fr.rf σ) 0 (by decide) (fun f hf => absurd hf (Nat.not_lt_zero f))
  obtain ⟨f1, g1⟩ := fld _ f0 1 (by decide) g0
  obtain ⟨f2, g2⟩ := fld _ f1 2 (by decide) g1
  obtain ⟨f3, g3⟩ := fld _ f2 3 (by decide) g2
  obtain ⟨f4, g4⟩ := fld _ f3 4 (by decide) g3
  obtain ⟨f5, g5⟩ := fld _ f4 5 (by decide) g4
  obtain ⟨f6, g6⟩ := fld _ f5 6 (by decide) g5
  generalize e0 : uI σ a 0 (mI σ a1 0) = τ0 at f0 g0 f1 g1 f2 g2 f3 g3 f4 g4 f5 g5 f6 g6
  generalize e1 : uI τ0 a 1 (mI τ0 a1 1) = τ1 at f1 g1 f2 g2 f3 g3 f4 g4 f5 g5 f6 g6
  generalize e2 : uI τ1 a 2 (mI τ1 a1 2) = τ2 at f2 g2 f3 g3 f4 g4 f5 g5 f6 g6
  generalize e3 : uI τ2 a 3 (mI τ2 a1 3) = τ3 at f3 g3 f4 g4 f5 g5 f6 g6
  generalize e4 : uI τ3 a 4 (mI τ3 a1 4) = τ4 at f4 g4 f5 g5 f6 g6
  generalize e5 : uI τ4 a 5 (mI τ4 a1 5) = τ5 at f5 g5 f6 g6
  generalize e6 : uI τ5 a 6 (mI τ5 a1 6) = τ6 at f6 g6
  have f7 : Fr (Wh a) σ (uW τ6 (a + 1) (va_cpy (mI τ6 (a1 + 1)) (mI τ6 (a + 1)) 0 0 14)) := f6.uW (fun j => by unfold Wh; omega)
  have h7 := hH.fr f6 hW
  generalize e7 : uW τ6 (a + 1) (va_cpy (mI τ6 (a1 + 1)) (mI τ6 (a + 1)) 0 0 14) = τ7 at f7
  have f8 : Fr (Wh a) σ (uW τ7 (a + 2) (va_cpy (mI τ7 (a1 + 2)) (mI τ7 (a + 2)) 0 0 10)) := f7.uW (fun j => by unfold Wh; omega)
  have h8 := hH.fr f7 hW
  generalize e8 : uW τ7 (a + 2) (va_cpy (mI τ7 (a1 + 2)) (mI τ7 (a + 2)) 0 0 10) = τ8 at f8
  have f9 : Fr (Wh a) σ (uW τ8 (a + 3) (va_cpy (mI τ8 (a1 + 3)) (mI τ8 (a + 3)) 0 0 10)) := f8.uW (fun j => by unfold Wh; omega)
  have h9 := hH.fr f8 hW
  refine ⟨uW τ8 (a + 3) (va_cpy (mI τ8 (a1 + 3)) (mI τ8 (a + 3)) 0 0 10), ck_19 hS ha h1 (b_19_0 hS ha h1 ?_), f9, ?_, ?_, ?_, ?_⟩
  · intro σ1 q1
    rw [e0, e1] at q1
    subst q1
    intro σ4 q4
    rw [e2, e3] at q4
    subst q4
    intro σ7 q7
    rw [e4, e5] at q7
    subst q7
    intro σ10 q10
    rw [e6, e7] at q10
    subst q10
    intro σ13 q13
    rw [e8] at q13
    subst q13
    refine b_19_86 (f8.sg hS) ha h1 ?_
    intro σ14 q14
    rw [q14]
  · intro f hf
    rw [mI_uW, if_neg (by omega), ← e8, mI_uW, if_neg (by omega), ← e7, mI_uW, if_neg (by omega)]
    exact g6 f hf
  · intro i hi
    rw [mI_uW, if_neg (by omega), ← e8, mI_uW, if_neg (by omega), ← e7, mI_uW, if_pos rfl, pk_cpy_in (by omega) (by omega), Nat.sub_zero, Nat.zero_add]
    exact h7.2.1 i hi
  · intro i hi
    rw [mI_uW, if_neg (by omega), ← e8, mI_uW, if_pos rfl, pk_cpy_in (by omega) (by omega), Nat.sub_zero, Nat.zero_add]
    exact h8.2.2.1 i hi
  · intro i hi
    rw [mI_uW, if_pos rfl, pk_cpy_in (by omega) (by omega), Nat.sub_zero, Nat.zero_add]
    exact h9.2.2.2 i hi
end House
