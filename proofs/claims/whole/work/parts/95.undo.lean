/-! ===== remembering, taking back ===== -/
section Undo
variable {t : Nat} {σ : Mm} {D H : Nat → Nat → Nat}
def Wu (x i : Nat) : Prop := 41 ≤ x ∧ x ≤ 48
/-- the first side remembers -/
theorem c_98 {q u nx : Nat} {x : Int32} (hS : Sg t σ) (hH : CH σ 26 H) (hu : mI σ 41 0 = nI u) (hn : mI σ 41 1 = nI nx) (hu2 : u ≤ 20) (hn2 : nx < 20) (hq : (q = 10 ∧ x = -1) ∨ (q < 10 ∧ x = nI q)) : ∃ σ', Cl 98 [.ref 41, .ref 26, .int x] σ (none, σ') ∧ Fr (fun a i => (a = 41 ∧ i ≤ 1) ∨ (42 ≤ a ∧ a ≤ 48 ∧ i = nx)) σ σ' ∧ EnD σ' nx q H ∧ mI σ' 41 0 = nI (min 20 (u + 1)) ∧ mI σ' 41 1 = nI ((nx + 1) % 20) := by
  have h26 : (26 : Nat) = 26 ∨ 26 = 30 ∨ 26 = 34 := Or.inl rfl
  have cn : (nI nx).toNatClampNeg = nx := nI_clamp (by omega)
  have i20 : inb (nI nx) 20 = true := inb_nI hn2 (by decide)
  -- the values laid down
  let v46 : Int32 := if q = 10 then -1 else nI q
  let v47 : Int32 := if q = 10 then 0 else nI (H 8 q)
  let v48 : Int32 := if q = 10 then 0 else nI (H 9 q)
  generalize e1 : uI σ 42 nx (nI (H 1 0)) = σ1
  generalize e2 : uI σ1 43 nx (nI (H 2 0)) = σ2
  generalize e3 : uI σ2 44 nx (nI (H 3 0)) = σ3
  generalize e4 : uI σ3 45 nx (nI (H 4 0)) = σ4
  generalize e5 : uI σ4 46 nx v46 = σ5
  generalize e6 : uI σ5 47 nx v47 = σ6
  generalize e7 : uI σ6 48 nx v48 = σ7
  generalize e8 : uI σ7 41 1 (nI ((nx + 1) % 20)) = σ8
  have W : ∀ {a i : Nat}, ((a = 41 ∧ i ≤ 1) ∨ (42 ≤ a ∧ a ≤ 48 ∧ i = nx)) → (fun a i => (a = 41 ∧ i ≤ 1) ∨ (42 ≤ a ∧ a ≤ 48 ∧ i = nx)) a i := fun h => h
  have f1 : Fr (fun a i => (a = 41 ∧ i ≤ 1) ∨ (42 ≤ a ∧ a ≤ 48 ∧ i = nx)) σ σ1 := by rw [← e1]; exact (Fr.rf σ).uI (W (by omega))
  have f2 : Fr (fun a i => (a = 41 ∧ i ≤ 1) ∨ (42 ≤ a ∧ a ≤ 48 ∧ i = nx)) σ σ2 := by rw [← e2]; exact f1.uI (W (by omega))
  have f3 : Fr (fun a i => (a = 41 ∧ i ≤ 1) ∨ (42 ≤ a ∧ a ≤ 48 ∧ i = nx)) σ σ3 := by rw [← e3]; exact f2.uI (W (by omega))
  have f4 : Fr (fun a i => (a = 41 ∧ i ≤ 1) ∨ (42 ≤ a ∧ a ≤ 48 ∧ i = nx)) σ σ4 := by rw [← e4]; exact f3.uI (W (by omega))
  have f5 : Fr (fun a i => (a = 41 ∧ i ≤ 1) ∨ (42 ≤ a ∧ a ≤ 48 ∧ i = nx)) σ σ5 := by rw [← e5]; exact f4.uI (W (by omega))
  have f6 : Fr (fun a i => (a = 41 ∧ i ≤ 1) ∨ (42 ≤ a ∧ a ≤ 48 ∧ i = nx)) σ σ6 := by rw [← e6]; exact f5.uI (W (by omega))
  have f7 : Fr (fun a i => (a = 41 ∧ i ≤ 1) ∨ (42 ≤ a ∧ a ≤ 48 ∧ i = nx)) σ σ7 := by rw [← e7]; exact f6.uI (W (by omega))
  have f8 : Fr (fun a i => (a = 41 ∧ i ≤ 1) ∨ (42 ≤ a ∧ a ≤ 48 ∧ i = nx)) σ σ8 := by rw [← e8]; exact f7.uI (W (by omega))
  have hc : ∀ {τ}, Fr (fun a i => (a = 41 ∧ i ≤ 1) ∨ (42 ≤ a ∧ a ≤ 48 ∧ i = nx)) σ τ → CH τ 26 H := fun f => hH.fr f (fun x i h1 h2 h3 => by have h3 : (x = 41 ∧ i ≤ 1) ∨ (42 ≤ x ∧ x ≤ 48 ∧ i = nx) := h3; omega)
  have k1 : ∀ {τ}, (∀ j, mI τ 41 j = mI σ 41 j) → mI τ 41 1 = nI nx := fun h => (h 1).trans hn
  have n1 : ∀ j, mI σ1 41 j = mI σ 41 j := fun j => by rw [← e1, mI_uI, if_neg (by omega)]
  have n2 : ∀ j, mI σ2 41 j = mI σ 41 j := fun j => by rw [← e2, mI_uI, if_neg (by omega)]; exact n1 j
  have n3 : ∀ j, mI σ3 41 j = mI σ 41 j := fun j => by rw [← e3, mI_uI, if_neg (by omega)]; exact n2 j
  have n4 : ∀ j, mI σ4 41 j = mI σ 41 j := fun j => by rw [← e4, mI_uI, if_neg (by omega)]; exact n3 j
  have n5 : ∀ j, mI σ5 41 j = mI σ 41 j := fun j => by rw [← e5, mI_uI, if_neg (by omega)]; exact n4 j
  have n6 : ∀ j, mI σ6 41 j = mI σ 41 j := fun j => by rw [← e6, mI_uI, if_neg (by omega)]; exact n5 j
  have n7 : ∀ j, mI σ7 41 j = mI σ 41 j := fun j => by rw [← e7, mI_uI, if_neg (by omega)]; exact n6 j
  have e80 : mI σ8 41 0 = nI u := by rw [← e8, mI_uI, if_neg (by omega), n7 0, hu]
  have q280 := c_280n (t := t) (σ := σ8) (a := 20) (b := u + 1) (f8.sg hS) (by decide) (by omega)
  -- the last block
  have st148 : ∀ x2 x3, Ev 98 148 [.ref 41, .ref 26, .int x2, .int x3] [.int v48, .int (nI nx), .ref 48] σ6 (none, uI σ8 41 0 (nI (min 20 (u + 1)))) := by
    intro x2 x3
    refine b_98_148 (f6.sg hS) h26 ⟨i20, ?_⟩
    rw [cn, e7, k1 n7, nI_1]
    by_cases c : nx + 1 < 20
    · have em : (nx + 1) % 20 = nx + 1 := Nat.mod_eq_of_lt c
      rw [em] at e8
      refine ⟨fun _ σ4' e4' => ?_, fun z => absurd (nI_lt (b := 20) c (by decide)) z⟩
      rw [e8] at e4'
      rw [e4', e80, nI_1]
      exact ⟨_, _, q280, f8.sg hS, rfl⟩
    · have em : (nx + 1) % 20 = 0 := by omega
      rw [em] at e8
      refine ⟨fun z => absurd z (nI_nlt (b := 20) (by omega) (by omega)), fun _ => ?_⟩
      have e8' : uI σ7 41 1 0 = σ8 := e8
      rw [e8', e80, nI_1]
      exact ⟨_, _, q280, f8.sg hS, rfl⟩
  have st102 : ∀ x3, ((x3 = 0 ∧ q = 10) ∨ (x3 = 1 ∧ q < 10)) → Ev 98 102 [.ref 41, .ref 26, .int x, .int x3] [.int v46, .int (nI nx), .ref 46] σ4 (none, uI σ8 41 0 (nI (min 20 (u + 1)))) := by
    intro x3 hx3
    refine b_98_102 (f4.sg hS) h26 ⟨i20, ?_⟩
    rw [cn, e5, k1 n5, cn]
    rcases hx3 with ⟨r3, r10⟩ | ⟨r3, r10⟩
    · have e47 : v47 = 0 := if_pos r10
      have e48 : v48 = 0 := if_pos r10
      rw [e47] at e6
      rw [e48] at st148
      refine ⟨fun _ => ⟨i20, fun σ1' e1' => ?_⟩, fun z => absurd r3 z⟩
      rw [e6] at e1'
      rw [e1', k1 n6]
      exact ⟨fun _ => st148 _ _, fun z => absurd r3 z⟩
    · have e47 : v47 = nI (H 8 q) := if_neg (by omega)
      have e48 : v48 = nI (H 9 q) := if_neg (by omega)
      have xq : x = nI q := by
        rcases hq with h | h
        · omega
        · exact h.2
      have n3' : ¬ x3 = 0 := by rw [r3]; decide
      rw [e47] at e6
      rw [e48] at st148
      rw [xq, nI_clamp (n := q) (by omega), (hc f5).2.2.1 q (by omega)]
      refine ⟨fun z => absurd z n3', fun _ => ⟨inb_nI (by omega) (by decide), i20, fun σ4' e4' => ?_⟩⟩
      rw [e6] at e4'
      rw [e4', k1 n6, (hc f6).2.2.2 q (by omega)]
      exact ⟨fun z => absurd z n3', fun _ => ⟨inb_nI (by omega) (by decide), by rw [← xq]; exact st148 _ _⟩⟩
  have st32 : ∀ z3 s0, ((s0 = 0 ∧ q = 10) ∨ (s0 = 1 ∧ q < 10)) → Ev 98 32 [.ref 41, .ref 26, .int x, z3] [.int s0] σ (none, uI σ8 41 0 (nI (min 20 (u + 1)))) := by
    intro z3 s0 hs0
    refine b_98_32 hS h26 ?_
    rw [hn, cn, hH.1 1 (by decide), e1]
    refine ⟨i20, fun τ1 q1 => ?_⟩
    rw [q1, k1 n1, cn, (hc f1).1 2 (by decide), e2]
    refine ⟨i20, fun τ2 q2 => ?_⟩
    rw [q2, k1 n2, cn, (hc f2).1 3 (by decide), e3]
    refine ⟨i20, fun τ3 q3 => ?_⟩
    rw [q3, k1 n3, cn, (hc f3).1 4 (by decide), e4]
    refine ⟨i20, fun τ4 q4 => ?_⟩
    rw [q4, k1 n4]
    rcases hs0 with ⟨r0, r10⟩ | ⟨r0, r10⟩
    · have e46 : v46 = -1 := if_pos r10
      have := st102 s0 (Or.inl ⟨r0, r10⟩)
      rw [e46] at this
      exact ⟨fun _ => this, fun z => absurd r0 z⟩
    · have e46 : v46 = nI q := if_neg (by omega)
      have xq : x = nI q := by
        rcases hq with h | h
        · omega
        · exact h.2
      have := st102 s0 (Or.inr ⟨r0, r10⟩)
      rw [e46, ← xq] at this
      exact ⟨fun z => absurd (r0.symm.trans z) (by decide), fun _ => this⟩
  have E7 : ∀ a, 42 ≤ a → a ≤ 48 → mI (uI σ8 41 0 (nI (min 20 (u + 1)))) a nx = mI σ7 a nx := fun a h1 h2 => by
    rw [mI_uI, if_neg (by omega), ← e8, mI_uI, if_neg (by omega)]
  refine ⟨uI σ8 41 0 (nI (min 20 (u + 1))), ck_98 hS h26 (b_98_0 hS h26 ?_), f8.uI (W (by omega)), ⟨⟨?_, ?_, ?_, ?_⟩, ?_⟩, ?_, ?_⟩
  · rw [hn]
    refine ⟨fun z => absurd z (nI_pos (by omega)), fun _ => ⟨fun _ => ?_, fun z => absurd (nI_lt (b := 20) hn2 (by decide)) z⟩⟩
    rcases hq with ⟨r10, rx⟩ | ⟨r10, rx⟩
    · have x0 : x < 0 := by rw [rx]; decide
      exact ⟨fun _ => st32 _ _ (Or.inl ⟨rfl, r10⟩), fun z => absurd x0 z⟩
    · rw [rx] at st32 ⊢
      exact ⟨fun z => absurd z (nI_pos (by omega)), fun _ => ⟨fun _ => st32 _ _ (Or.inr ⟨rfl, r10⟩), fun z => absurd (nI_lt (b := 10) r10 (by decide)) z⟩⟩
  · rw [E7 42 (by omega) (by omega), ← e7, mI_uI, if_neg (by omega), ← e6, mI_uI, if_neg (by omega), ← e5, mI_uI, if_neg (by omega), ← e4, mI_uI, if_neg (by omega), ← e3, mI_uI, if_neg (by omega), ← e2, mI_uI, if_neg (by omega), ← e1, mI_uI, if_pos ⟨rfl, rfl⟩]
  · rw [E7 43 (by omega) (by omega), ← e7, mI_uI, if_neg (by omega), ← e6, mI_uI, if_neg (by omega), ← e5, mI_uI, if_neg (by omega), ← e4, mI_uI, if_neg (by omega), ← e3, mI_uI, if_neg (by omega), ← e2, mI_uI, if_pos ⟨rfl, rfl⟩]
  · rw [E7 44 (by omega) (by omega), ← e7, mI_uI, if_neg (by omega), ← e6, mI_uI, if_neg (by omega), ← e5, mI_uI, if_neg (by omega), ← e4, mI_uI, if_neg (by omega), ← e3, mI_uI, if_pos ⟨rfl, rfl⟩]
  · rw [E7 45 (by omega) (by omega), ← e7, mI_uI, if_neg (by omega), ← e6, mI_uI, if_neg (by omega), ← e5, mI_uI, if_neg (by omega), ← e4, mI_uI, if_pos ⟨rfl, rfl⟩]
  · have g46 : mI (uI σ8 41 0 (nI (min 20 (u + 1)))) 46 nx = v46 := by
      rw [E7 46 (by omega) (by omega), ← e7, mI_uI, if_neg (by omega), ← e6, mI_uI, if_neg (by omega), ← e5, mI_uI, if_pos ⟨rfl, rfl⟩]
    have g47 : mI (uI σ8 41 0 (nI (min 20 (u + 1)))) 47 nx = v47 := by
      rw [E7 47 (by omega) (by omega), ← e7, mI_uI, if_neg (by omega), ← e6, mI_uI, if_pos ⟨rfl, rfl⟩]
    have g48 : mI (uI σ8 41 0 (nI (min 20 (u + 1)))) 48 nx = v48 := by
      rw [E7 48 (by omega) (by omega), ← e7, mI_uI, if_pos ⟨rfl, rfl⟩]
    rw [g46, g47, g48]
    rcases hq with ⟨r10, rx⟩ | ⟨r10, rx⟩
    · exact Or.inl ⟨r10, if_pos r10⟩
    · exact Or.inr ⟨r10, if_neg (by omega), if_neg (by omega), if_neg (by omega)⟩
  · rw [mI_uI, if_pos ⟨rfl, rfl⟩]
  · rw [mI_uI, if_neg (by omega), ← e8, mI_uI, if_pos ⟨rfl, rfl⟩]
end Undo
