/-! ===== what a text tells; how it is in some minute ===== -/
/-- told, first side -/
def CT (σ : Mm) (a : Nat) (D : Nat → Nat → Nat) : Prop := (mI σ a 0 = nI (D 0 0) ∧ mI σ a 1 = nI (D 1 0) ∧ mI σ a 2 = nI (D 2 0) ∧ mI σ a 3 = nI (D 3 0) ∧ mI σ a 4 = nI (D 4 0)) ∧ ((mI σ a 5 = -1 ∧ D 5 0 = 0) ∨ mI σ a 5 = nI (D 5 0)) ∧ ((mI σ a 6 = -1 ∧ D 6 0 = 0) ∨ mI σ a 6 = nI (D 6 0)) ∧ mI σ a 7 = nI (D 7 0) ∧ (∀ i, i < D 0 0 → mI σ (a + 1) i = nI (D 8 i)) ∧ (∀ i, i < D 1 0 → mI σ (a + 2) i = nI (D 9 i)) ∧ (∀ i, i < D 1 0 → mI σ (a + 3) i = nI (D 10 i)) ∧ (∀ i, i < D 1 0 → mI σ (a + 4) i = nI (D 11 i)) ∧ (∀ i, i < D 3 0 → mI σ (a + 5) i = nI (D 12 i)) ∧ (∀ i, i < D 3 0 → mI σ (a + 6) i = nI (D 13 i)) ∧ (∀ i, i < D 4 0 → mI σ (a + 7) i = nI (D 14 i)) ∧ (∀ i, i < D 7 0 → mI σ (a + 8) i = nI (D 15 i)) ∧ (∀ i, i < 3 → mI σ (a + 9) i = nI (D 16 i)) ∧ (∀ i, i < 3 → mI σ (a + 10) i = nI (D 17 i))
/-- told, second side -/
def MT (σ : Mm) (D : Nat → Nat → Nat) : Prop := (mI σ 59 12 = nI (D 0 0) ∧ mI σ 59 13 = nI (D 1 0) ∧ mI σ 62 0 = nI (D 2 0) ∧ mI σ 59 14 = nI (D 3 0) ∧ mI σ 59 15 = nI (D 4 0)) ∧ mI σ 64 0 = nI (D 5 0) ∧ mI σ 64 1 = nI (D 6 0) ∧ mI σ 59 16 = nI (D 7 0) ∧ (∀ i, i < D 0 0 → mI σ 65 i = nI (D 8 i)) ∧ (∀ i, i < D 1 0 → mI σ 66 i = nI (D 9 i)) ∧ (∀ i, i < D 1 0 → mI σ 67 i = nI (D 10 i)) ∧ (∀ i, i < D 1 0 → mI σ 68 i = nI (D 11 i)) ∧ (∀ i, i < D 3 0 → mI σ 69 i = nI (D 12 i)) ∧ (∀ i, i < D 3 0 → mI σ 70 i = nI (D 13 i)) ∧ (∀ i, i < D 4 0 → mI σ 71 i = nI (D 14 i)) ∧ MK σ (D 18) (D 19) (D 20) (D 7 0) ∧ (∀ i, i < 3 → mI σ 72 i = if decide (D 16 i < D 17 i) = true then 1 else 0) ∧ (∀ i, i < 3 → D 16 i < D 17 i → mI σ 73 i = nI (D 16 i) ∧ mI σ 74 i = nI (D 17 i))
/-- what is told keeps its bounds -/
def WD (D : Nat → Nat → Nat) : Prop := (D 0 0 ≤ 14 ∧ D 1 0 ≤ 10 ∧ D 2 0 < 2 ^ D 0 0 ∧ D 3 0 ≤ 14 ∧ D 4 0 ≤ 4 ∧ D 5 0 ≤ 100 ∧ D 6 0 ≤ 99999 ∧ D 7 0 ≤ 64) ∧ (∀ i, i < D 1 0 → D 10 i ≤ 99) ∧ (∀ i, i < D 1 0 → D 11 i < 2 ^ D 0 0) ∧ (∀ i, i < D 3 0 → D 12 i < D 1 0) ∧ (∀ i, i < D 3 0 → D 13 i ≤ 99) ∧ (∀ i, i < D 4 0 → D 14 i ≤ 99) ∧ (∀ q, q < 3 → D 16 q ≤ 64 ∧ D 17 q ≤ 64 ∧ (D 16 q < D 17 q → D 17 q ≤ D 7 0 ∧ sk (D 15) (D 18) (D 19) (D 20) (D 16 q) (D 17 q - D 16 q) = some [D 17 q - 1])) ∧ (∀ i, i < D 0 0 → D 8 i < 2 ^ 31) ∧ (∀ i, i < D 1 0 → D 9 i < 2 ^ 31)
/-- a house keeps its bounds -/
def WH (P : Nat) (H : Nat → Nat → Nat) : Prop := H 0 0 < 2 ^ 20 ∧ H 1 0 < 2 ^ 14 ∧ H 2 0 < 2 ^ 14 ∧ H 3 0 < 2 ^ 10 ∧ H 4 0 ≤ 99999 ∧ H 6 0 < 2 ^ 31 ∧ (∀ i, H 7 i ≤ 999) ∧ (∀ i, H 8 i < 2 ^ 14) ∧ (∀ i, H 9 i ≤ 999) ∧ (∀ i, P ≤ i → H 8 i = 0)
def hu (H : Nat → Nat → Nat) (f i v : Nat) : Nat → Nat → Nat := fun g j => if g = f ∧ j = i then v else H g j
theorem hu_s {H : Nat → Nat → Nat} {f i v : Nat} : hu H f i v f i = v := if_pos ⟨rfl, rfl⟩
theorem hu_n {H : Nat → Nat → Nat} {f i v g j : Nat} (h : ¬ (g = f ∧ j = i)) : hu H f i v g j = H g j := if_neg h
/-- the lamps that are shown -/
def sh (H : Nat → Nat → Nat) : Nat := H 1 0 ^^^ (H 1 0 &&& H 2 0)
theorem sh_lt {P : Nat} {H : Nat → Nat → Nat} (h : WH P H) : sh H < 2 ^ 14 := Nat.xor_lt_two_pow h.2.1 (Nat.lt_of_le_of_lt Nat.and_le_left h.2.1)
def nmP (D H : Nat → Nat → Nat) (p j : Nat) : Nat := match j with
  | 0 => D 10 p
  | 1 => H 9 p
  | 2 => pcn (sh H)
  | 3 => pcn (H 8 p)
  | 4 => pcn (H 2 0)
  | 5 => 0
  | _ => H 0 0
def nmL (H : Nat → Nat → Nat) (l j : Nat) : Nat := match j with
  | 0 => 0
  | 1 => 0
  | 2 => pcn (sh H)
  | 3 => pcn (tdl (H 8) l 10)
  | 4 => pcn (H 2 0)
  | 5 => H 7 l
  | _ => H 0 0
/-- a law's worth; none: no such law, or an error -/
def lw (D : Nat → Nat → Nat) (q : Nat) (nm : Nat → Nat) : Option Int64 := if D 16 q < D 17 q then lwo (D 18) (D 19) (D 20) nm (D 16 q) (D 17 q) else none
theorem lw_bnd {D : Nat → Nat → Nat} {q : Nat} {nm : Nat → Nat} {v : Int64} (hD : WD D) (hq : q < 3) (hn : ∀ j, j ≤ 6 → nm j < 2 ^ 31) (h : lw D q nm = some v) : Bnd v := by
  unfold lw at h
  split at h
  · rename_i c
    unfold lwo at h
    split at h
    · cases h
    · injection h with h
      subst h
      have hk := ((hD.2.2.2.2.2.2.1 q hq).2.2 c).2
      exact ks_bnd hk hn _ (Nat.le_refl _) _ (by omega) (by omega)
  · cases h
theorem nmP_lt {P p : Nat} {D H : Nat → Nat → Nat} (hW : WH P H) (hD : WD D) (hp : p < D 1 0) : ∀ j, j ≤ 6 → nmP D H p j < 2 ^ 31 := by
  intro j hj
  have h0 := hW.1
  have h10 := hD.2.1 p hp
  have h9 := hW.2.2.2.2.2.2.2.2.1 p
  have a1 := pcn_le (sh H)
  have a2 := pcn_le (H 8 p)
  have a3 := pcn_le (H 2 0)
  rcases (show j = 0 ∨ j = 1 ∨ j = 2 ∨ j = 3 ∨ j = 4 ∨ j = 5 ∨ j = 6 by omega) with rfl | rfl | rfl | rfl | rfl | rfl | rfl
  · show D 10 p < _; omega
  · show H 9 p < _; omega
  · show pcn _ < _; omega
  · show pcn _ < _; omega
  · show pcn _ < _; omega
  · show 0 < _; omega
  · show H 0 0 < _; omega
theorem nmL_lt {P l : Nat} {H : Nat → Nat → Nat} (hW : WH P H) : ∀ j, j ≤ 6 → nmL H l j < 2 ^ 31 := by
  intro j hj
  have h0 := hW.1
  have h9 := hW.2.2.2.2.2.2.1 l
  have a1 := pcn_le (sh H)
  have a2 := pcn_le (tdl (H 8) l 10)
  have a3 := pcn_le (H 2 0)
  rcases (show j = 0 ∨ j = 1 ∨ j = 2 ∨ j = 3 ∨ j = 4 ∨ j = 5 ∨ j = 6 by omega) with rfl | rfl | rfl | rfl | rfl | rfl | rfl
  · show 0 < _; omega
  · show 0 < _; omega
  · show pcn _ < _; omega
  · show pcn _ < _; omega
  · show pcn _ < _; omega
  · show H 7 l < _; omega
  · show H 0 0 < _; omega
theorem CT.fr {σ σ' : Mm} {a : Nat} {D : Nat → Nat → Nat} {W : Nat → Nat → Prop} (h : CT σ a D) (hf : Fr W σ σ') (hW : ∀ x i, a ≤ x → x ≤ a + 10 → ¬ W x i) : CT σ' a D := by
  have r : ∀ x i, a ≤ x → x ≤ a + 10 → mI σ' x i = mI σ x i := fun x i h1 h2 => (hf.1 x i (hW x i h1 h2)).1
  unfold CT at h ⊢
  rw [r a 0 (by omega) (by omega), r a 1 (by omega) (by omega), r a 2 (by omega) (by omega), r a 3 (by omega) (by omega), r a 4 (by omega) (by omega), r a 5 (by omega) (by omega), r a 6 (by omega) (by omega), r a 7 (by omega) (by omega)]
  obtain ⟨b1, b2, b3, b4, c1, c2, c3, c4, c5, c6, c7, c8, c9, c10⟩ := h
  exact ⟨b1, b2, b3, b4, fun i hi => (r _ i (by omega) (by omega)).trans (c1 i hi), fun i hi => (r _ i (by omega) (by omega)).trans (c2 i hi), fun i hi => (r _ i (by omega) (by omega)).trans (c3 i hi), fun i hi => (r _ i (by omega) (by omega)).trans (c4 i hi), fun i hi => (r _ i (by omega) (by omega)).trans (c5 i hi), fun i hi => (r _ i (by omega) (by omega)).trans (c6 i hi), fun i hi => (r _ i (by omega) (by omega)).trans (c7 i hi), fun i hi => (r _ i (by omega) (by omega)).trans (c8 i hi), fun i hi => (r _ i (by omega) (by omega)).trans (c9 i hi), fun i hi => (r _ i (by omega) (by omega)).trans (c10 i hi)⟩
theorem MT.fr {σ σ' : Mm} {D : Nat → Nat → Nat} {W : Nat → Nat → Prop} (h : MT σ D) (hf : Fr W σ σ') (hW : ∀ x i, ((x = 59 ∧ 12 ≤ i ∧ i ≤ 16) ∨ (62 ≤ x ∧ x ≤ 77)) → ¬ W x i) : MT σ' D := by
  have r : ∀ x i, ((x = 59 ∧ 12 ≤ i ∧ i ≤ 16) ∨ (62 ≤ x ∧ x ≤ 77)) → mI σ' x i = mI σ x i := fun x i h1 => (hf.1 x i (hW x i h1)).1
  unfold MT at h ⊢
  rw [r 59 12 (by omega), r 59 13 (by omega), r 62 0 (by omega), r 59 14 (by omega), r 59 15 (by omega), r 64 0 (by omega), r 64 1 (by omega), r 59 16 (by omega)]
  obtain ⟨b1, b2, b3, b4, c1, c2, c3, c4, c5, c6, c7, c8, c9, c10⟩ := h
  refine ⟨b1, b2, b3, b4, fun i hi => (r _ i (by omega)).trans (c1 i hi), fun i hi => (r _ i (by omega)).trans (c2 i hi), fun i hi => (r _ i (by omega)).trans (c3 i hi), fun i hi => (r _ i (by omega)).trans (c4 i hi), fun i hi => (r _ i (by omega)).trans (c5 i hi), fun i hi => (r _ i (by omega)).trans (c6 i hi), fun i hi => (r _ i (by omega)).trans (c7 i hi), fun i hi => ?_, fun i hi => (r _ i (by omega)).trans (c9 i hi), fun i hi h2 => ⟨(r _ i (by omega)).trans (c10 i hi h2).1, (r _ i (by omega)).trans (c10 i hi h2).2⟩⟩
  rw [r 75 i (by omega), r 76 i (by omega), r 77 i (by omega)]
  exact c8 i hi
theorem MH.fr {σ σ' : Mm} {b P : Nat} {H : Nat → Nat → Nat} {W : Nat → Nat → Prop} (hb : b < 2) (hP : P ≤ 10) (h : MH σ b P H) (hf : Fr W σ σ') (hW : ∀ x i, ((82 ≤ x ∧ x ≤ 87 ∧ i = b) ∨ (x = 88 ∧ 14 * b ≤ i ∧ i < 14 * b + 14) ∨ ((x = 89 ∨ x = 90) ∧ 10 * b ≤ i ∧ i < 10 * b + 10)) → ¬ W x i) : MH σ' b P H := by
  have r : ∀ x i, ((82 ≤ x ∧ x ≤ 87 ∧ i = b) ∨ (x = 88 ∧ 14 * b ≤ i ∧ i < 14 * b + 14) ∨ ((x = 89 ∨ x = 90) ∧ 10 * b ≤ i ∧ i < 10 * b + 10)) → mI σ' x i = mI σ x i := fun x i h1 => (hf.1 x i (hW x i h1)).1
  unfold MH at h ⊢
  rw [r 82 b (by omega), r 83 b (by omega), r 84 b (by omega), r 85 b (by omega), r 86 b (by omega), r 87 b (by omega)]
  exact ⟨h.1, fun i hi => (r _ _ (by omega)).trans (h.2.1 i hi), fun i hi => (r _ _ (by omega)).trans (h.2.2.1 i hi), fun i hi => (r _ _ (by omega)).trans (h.2.2.2 i hi)⟩
section Told
variable {t : Nat} {σ : Mm} {D H : Nat → Nat → Nat}
theorem c_91 {a q : Nat} (hS : Sg t σ) (ha : a = 3 ∨ a = 15) (hT : CT σ a D) (hD : WD D) (hq : q < 3) : Cl 91 [.ref a, .int (nI q)] σ (some (.int (if decide (D 16 q < D 17 q) = true then 1 else 0)), σ) := by
  have h1 := hT.2.2.2.2.2.2.2.2.2.2.2.2.1 q hq
  have h2 := hT.2.2.2.2.2.2.2.2.2.2.2.2.2 q hq
  have h3 := hD.2.2.2.2.2.2.1 q hq
  refine ck_91 hS ha (b_91_0 hS ha ?_)
  rw [nI_clamp (by omega), h1, h2]
  refine ⟨inb_nI hq (by decide), inb_nI hq (by decide), pk_lt (D 16 q) (D 17 q) (fun z => ?_) (fun z => ?_) rfl rfl (by omega) (by omega)⟩
  · rw [decide_eq_true z]; rfl
  · rw [decide_eq_false (Nat.not_lt.mpr z)]; rfl
theorem c_92 {a : Nat} (hS : Sg t σ) (ha : a = 3 ∨ a = 15) (hT : CT σ a D) (hD : WD D) : Cl 92 [.ref a] σ (some (.int (nI (D 5 0))), σ) := by
  refine ck_92 hS ha (b_92_0 hS ha ?_)
  have h5 := hD.1.2.2.2.2.2.1
  rcases hT.2.1 with ⟨h, g⟩ | h
  · rw [h, g]; exact ⟨fun _ => rfl, fun z => absurd rfl z⟩
  · rw [h]
    refine ⟨fun z => ?_, fun _ => rfl⟩
    rw [fa_eq, nI_toInt (by omega)] at z
    have z : (D 5 0 : Int) = -1 := z
    omega
theorem c_93 {a : Nat} (hS : Sg t σ) (ha : a = 3 ∨ a = 15) (hT : CT σ a D) (hD : WD D) : Cl 93 [.ref a] σ (some (.int (nI (D 6 0))), σ) := by
  refine ck_93 hS ha (b_93_0 hS ha ?_)
  have h5 := hD.1.2.2.2.2.2.2.1
  rcases hT.2.2.1 with ⟨h, g⟩ | h
  · rw [h, g]; exact ⟨fun _ => rfl, fun z => absurd rfl z⟩
  · rw [h]
    refine ⟨fun z => ?_, fun _ => rfl⟩
    rw [fa_eq, nI_toInt (by omega)] at z
    have z : (D 6 0 : Int) = -1 := z
    omega
def Wn (a i : Nat) : Prop := a = 39 ∨ a = 40
theorem rd39 {a i k : Nat} {v : Int32} (h : a ≠ 39) : mI (uI σ 39 k v) a i = mI σ a i := by
  rw [mI_uI, if_neg (fun z => h z.1)]
def N7 (σ : Mm) (n : Nat → Nat) : Mm := uI (uI (uI (uI (uI (uI (uI σ 39 0 (nI (n 0))) 39 1 (nI (n 1))) 39 2 (nI (n 2))) 39 3 (nI (n 3))) 39 4 (nI (n 4))) 39 5 (nI (n 5))) 39 6 (nI (n 6))
theorem N7_in {n : Nat → Nat} : ∀ j, j < 7 → mI (N7 σ n) 39 j = nI (n j) := by
  intro j hj
  unfold N7
  rcases (show j = 0 ∨ j = 1 ∨ j = 2 ∨ j = 3 ∨ j = 4 ∨ j = 5 ∨ j = 6 by omega) with rfl | rfl | rfl | rfl | rfl | rfl | rfl <;> simp [mI_uI]
theorem N7_fr {n : Nat → Nat} : Fr Wn σ (N7 σ n) := by
  unfold N7
  exact (((((((Fr.rf σ).uI (Or.inl rfl)).uI (Or.inl rfl)).uI (Or.inl rfl)).uI (Or.inl rfl)).uI (Or.inl rfl)).uI (Or.inl rfl)).uI (Or.inl rfl)
/-- with names laid, the law's worth -/
theorem c_12t {a1 q : Nat} {n : Nat → Nat} (hS : Sg t σ) (h1 : a1 = 3 ∨ a1 = 15) (hT : CT σ a1 D) (hD : WD D) (hq : q < 3) (hl : D 16 q < D 17 q) (hn : ∀ j, j ≤ 6 → n j < 2 ^ 31) : ∃ σ', Cl 12 [.ref 38, .ref a1, .int (nI q)] (N7 σ n) (some (.long (oE (lw D q n))), σ') ∧ Fr Wn σ σ' := by
  have hT1 := hT.fr (N7_fr (n := n)) (fun x i h2 h3 => by unfold Wn; omega)
  obtain ⟨w1, w2, w3⟩ := hD.2.2.2.2.2.2.1 q hq
  obtain ⟨w4, w5⟩ := w3 hl
  obtain ⟨σ', h, g⟩ := c_12 (nm := n) (N7_fr.sg hS) h1 hq (hT1.2.2.2.2.2.2.2.2.2.2.2.2.1 q hq) (hT1.2.2.2.2.2.2.2.2.2.2.2.2.2 q hq) hl w2 (fun i hi => hT1.2.2.2.2.2.2.2.2.2.2.2.1 i (by omega)) (N7_in) hn w5
  refine ⟨σ', ?_, N7_fr.tr (g.mono (fun x i h => Or.inr h))⟩
  rw [lw, if_pos hl]
  exact h
theorem c_11p {a1 a2 q p : Nat} (hS : Sg t σ) (h1 : a1 = 3 ∨ a1 = 15) (h2 : a2 = 26 ∨ a2 = 30 ∨ a2 = 34) (hT : CT σ a1 D) (hD : WD D) (hH : CH σ a2 H) (hW : WH (D 1 0) H) (hq : q < 2) (hp : p < D 1 0) : ∃ σ', Cl 11 [.ref 38, .ref a1, .ref a2, .int (nI q), .int (nI p)] σ (some (.long (oE (lw D q (nmP D H p)))), σ') ∧ Fr Wn σ σ' := by
  have hP : D 1 0 ≤ 10 := hD.1.2.1
  by_cases c : D 16 q < D 17 q
  · obtain ⟨σ', h, g⟩ := c_12t (n := nmP D H p) hS h1 hT hD (by omega) c (nmP_lt hW hD hp)
    refine ⟨σ', ck_11 hS h1 h2 (b_11_0 hS h1 h2 ⟨_, _, c_91 hS h1 hT hD (by omega), hS, w_b (fun z => absurd c (of_decide_eq_false z)) (fun _ => ⟨fun z => ?_, fun _ => ?_⟩)⟩), g⟩
    · have := (nI_eq (b := 2) (by omega) (by omega)).mp z
      omega
    refine b_11_22 hS h1 h2 ⟨fun z => absurd z (by decide), fun _ => ⟨inb_nI (by omega) (by decide), ?_⟩⟩
    intro σ1 e1
    rw [nI_clamp (by omega), hT.2.2.2.2.2.2.1 p hp] at e1
    refine ⟨fun z => absurd z (by decide), fun _ => ⟨inb_nI (by omega) (by decide), ?_⟩⟩
    rw [nI_clamp (by omega), e1, rd39 (by omega), hH.2.2.2 p (by omega)]
    generalize ea : uI σ 39 0 (nI (D 10 p)) = σa
    have fa : Fr Wn σ σa := by rw [← ea]; exact (Fr.rf σ).uI (Or.inl rfl)
    refine b_11_67 (fa.sg hS) h1 h2 ⟨inb_nI (k := 1) (by omega) (by decide), ?_⟩
    rw [show (1 : Int32).toNatClampNeg = 1 from rfl]
    generalize eb : uI σa 39 1 (nI (H 9 p)) = σb
    have fb : Fr Wn σ σb := by rw [← eb]; exact fa.uI (Or.inl rfl)
    have hb := hH.fr fb (fun x i h3 h4 => by unfold Wn; omega)
    have ws := sh_lt hW
    refine ⟨_, _, c_20 (fb.sg hS) h2 (hb.1 1 (by decide)) (hb.1 2 (by decide)), fb.sg hS, _, _, c_276 (fb.sg hS) ws, fb.sg hS, fun z => absurd z (by decide), fun _ => ⟨inb_nI (by omega) (by decide), ?_⟩⟩
    rw [nI_clamp (by omega), rd39 (by omega), hb.2.2.1 p (by omega)]
    generalize ec : uI σb 39 2 (nI (pcn (H 1 0 ^^^ (H 1 0 &&& H 2 0)))) = σc
    have fc : Fr Wn σ σc := by rw [← ec]; exact fb.uI (Or.inl rfl)
    refine b_11_107 (fc.sg hS) h1 h2 ⟨_, _, c_276 (fc.sg hS) (hW.2.2.2.2.2.2.2.1 p), fc.sg hS, inb_nI (k := 3) (by omega) (by decide), ?_⟩
    rw [show (3 : Int32).toNatClampNeg = 3 from rfl]
    generalize ed : uI σc 39 3 (nI (pcn (H 8 p))) = σd
    have fd : Fr Wn σ σd := by rw [← ed]; exact fc.uI (Or.inl rfl)
    have hd := hH.fr fd (fun x i h3 h4 => by unfold Wn; omega)
    rw [hd.1 2 (by decide)]
    refine ⟨_, _, c_276 (fd.sg hS) hW.2.2.1, fd.sg hS, fun z => absurd z (by decide), fun _ => ?_⟩
    intro σ13 e13
    rw [rd39 (by omega), rd39 (by omega), hd.1 0 (by decide)] at e13
    have e7 : σ13 = N7 σ (nmP D H p) := by
      rw [e13, ← ed, ← ec, ← eb, ← ea]
      rfl
    rw [e7]
    exact ⟨_, _, h, g.sg hS, rfl⟩
  · refine ⟨σ, ck_11 hS h1 h2 (b_11_0 hS h1 h2 ⟨_, _, c_91 hS h1 hT hD (by omega), hS, w_b (fun _ => ?_) (fun z => absurd (of_decide_eq_true z) c)⟩), Fr.rf σ⟩
    rw [lw, if_neg c]
    rfl
theorem c_11l {a1 a2 l : Nat} (hS : Sg t σ) (h1 : a1 = 3 ∨ a1 = 15) (h2 : a2 = 26 ∨ a2 = 30 ∨ a2 = 34) (hT : CT σ a1 D) (hD : WD D) (hH : CH σ a2 H) (hW : WH (D 1 0) H) (hl : l < 14) : ∃ σ', Cl 11 [.ref 38, .ref a1, .ref a2, .int 2, .int (nI l)] σ (some (.long (oE (lw D 2 (nmL H l)))), σ') ∧ Fr Wn σ σ' := by
  by_cases c : D 16 2 < D 17 2
  · obtain ⟨σ', h, g⟩ := c_12t (n := nmL H l) hS h1 hT hD (by omega) c (nmL_lt hW)
    refine ⟨σ', ck_11 hS h1 h2 (b_11_0 hS h1 h2 ⟨_, _, c_91 (q := 2) hS h1 hT hD (by omega), hS, w_b (fun z => absurd c (of_decide_eq_false z)) (fun _ => ⟨fun _ => ?_, fun z => absurd rfl z⟩)⟩), g⟩
    refine b_11_22 hS h1 h2 ⟨fun _ => ⟨fun _ => ?_, fun z => absurd rfl z⟩, fun z => absurd rfl z⟩
    generalize ea : uI σ 39 0 0 = σa
    have fa : Fr Wn σ σa := by rw [← ea]; exact (Fr.rf σ).uI (Or.inl rfl)
    refine b_11_67 (fa.sg hS) h1 h2 ⟨inb_nI (k := 1) (by omega) (by decide), ?_⟩
    rw [show (1 : Int32).toNatClampNeg = 1 from rfl]
    generalize eb : uI σa 39 1 0 = σb
    have fb : Fr Wn σ σb := by rw [← eb]; exact fa.uI (Or.inl rfl)
    have hb := hH.fr fb (fun x i h3 h4 => by unfold Wn; omega)
    have ws := sh_lt hW
    refine ⟨_, _, c_20 (fb.sg hS) h2 (hb.1 1 (by decide)) (hb.1 2 (by decide)), fb.sg hS, _, _, c_276 (fb.sg hS) ws, fb.sg hS, fun _ => ?_, fun z => absurd rfl z⟩
    generalize ec : uI σb 39 2 (nI (pcn (H 1 0 ^^^ (H 1 0 &&& H 2 0)))) = σc
    have fc : Fr Wn σ σc := by rw [← ec]; exact fb.uI (Or.inl rfl)
    have hc := hH.fr fc (fun x i h3 h4 => by unfold Wn; omega)
    have hlt : tdl (H 8) l 10 < 2 ^ 14 := Nat.lt_of_lt_of_le (bitsOf_lt _ 10) (by decide)
    refine ⟨_, _, c_22 (fc.sg hS) h2 (by omega) hc.2.2.1 (fun i _ => hW.2.2.2.2.2.2.2.1 i), fc.sg hS, ?_⟩
    refine b_11_107 (fc.sg hS) h1 h2 ⟨_, _, c_276 (fc.sg hS) hlt, fc.sg hS, inb_nI (k := 3) (by omega) (by decide), ?_⟩
    rw [show (3 : Int32).toNatClampNeg = 3 from rfl]
    generalize ed : uI σc 39 3 (nI (pcn (tdl (H 8) l 10))) = σd
    have fd : Fr Wn σ σd := by rw [← ed]; exact fc.uI (Or.inl rfl)
    have hd := hH.fr fd (fun x i h3 h4 => by unfold Wn; omega)
    rw [hd.1 2 (by decide)]
    refine ⟨_, _, c_276 (fd.sg hS) hW.2.2.1, fd.sg hS, fun _ => ⟨inb_nI hl (by decide), ?_⟩, fun z => absurd rfl z⟩
    intro σ7 e7
    rw [nI_clamp (by omega), rd39 (by omega), hd.2.1 l hl] at e7
    have e8 : uI σ7 39 6 (mI σ7 a2 0) = N7 σ (nmL H l) := by
      rw [e7, rd39 (by omega), rd39 (by omega), hd.1 0 (by decide), ← ed, ← ec, ← eb, ← ea]
      rfl
    rw [e8]
    exact ⟨_, _, h, g.sg hS, rfl⟩
  · refine ⟨σ, ck_11 hS h1 h2 (b_11_0 hS h1 h2 ⟨_, _, c_91 (q := 2) hS h1 hT hD (by omega), hS, w_b (fun _ => ?_) (fun z => absurd (of_decide_eq_true z) c)⟩), Fr.rf σ⟩
    rw [lw, if_neg c]
    rfl
end Told
