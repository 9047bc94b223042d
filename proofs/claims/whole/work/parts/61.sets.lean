/-! ===== specs: sets of pulls ===== -/
theorem lp {α : Type} (I S : Nat → α → Prop) (n : Nat) (hs : ∀ k a, k < n → I k a → (∀ b, I (k + 1) b → S (k + 1) b) → S k a) (hn : ∀ a, I n a → S n a) {k : Nat} {a : α} (hk : k ≤ n) (hI : I k a) : S k a := by
  have h : ∀ m k a, k + m = n → I k a → S k a := by
    intro m
    induction m with
    | zero => intro k a e hI; have e : k = n := e; subst e; exact hn a hI
    | succ m ih => intro k a e hI; exact hs k a (by omega) hI (fun b hb => ih (k + 1) b (by omega) hb)
  exact h (n - k) k a (by omega) hI
/-- what a set turns over -/
def tn (ties : Nat → Nat) : Nat → Nat → Nat
  | 0, _ => 0
  | p + 1, s => tn ties p s ^^^ (if s.testBit p = true then ties p else 0)
theorem tn_hi {ties : Nat → Nat} {p s : Nat} (h : s < 2 ^ p) : ∀ q, p ≤ q → tn ties q s = tn ties p s := by
  intro q hq
  induction q with
  | zero => have : p = 0 := by omega
            subst this; rfl
  | succ q ih =>
    rcases Nat.lt_or_ge p (q + 1) with g | g
    · have hb : s.testBit q = false := Nat.testBit_lt_two_pow (Nat.lt_of_lt_of_le h (Nat.pow_le_pow_right (by decide) (by omega)))
      show tn ties q s ^^^ (if s.testBit q = true then ties q else 0) = _
      rw [hb, ih (by omega)]
      exact Nat.xor_zero _
    · have : p = q + 1 := by omega
      subst this; rfl
theorem tn_cg {ties : Nat → Nat} {s s' : Nat} : ∀ p, (∀ i, i < p → s.testBit i = s'.testBit i) → tn ties p s = tn ties p s' := by
  intro p h
  induction p with
  | zero => rfl
  | succ p ih =>
    show tn ties p s ^^^ _ = tn ties p s' ^^^ _
    rw [ih (fun i hi => h i (by omega)), h p (by omega)]
theorem tb_or {s p i : Nat} (h : i ≠ p) : (s ||| 2 ^ p).testBit i = s.testBit i := by
  rw [Nat.testBit_or, Nat.testBit_two_pow]
  simp [Ne.symm h]
theorem or_lt {s p : Nat} (h : s < 2 ^ p) : s ||| 2 ^ p = s + 2 ^ p := by
  have h1 := Nat.two_pow_add_eq_or_of_lt h 1
  rw [Nat.mul_one] at h1
  rw [Nat.or_comm, ← h1, Nat.add_comm]
theorem tn_new {ties : Nat → Nat} {p s : Nat} (h : s < 2 ^ p) : tn ties (p + 1) (s ||| 2 ^ p) = tn ties p s ^^^ ties p := by
  have hb : (s ||| 2 ^ p).testBit p = true := by
    rw [Nat.testBit_or, Nat.testBit_two_pow_self, Bool.or_true]
  show tn ties p (s ||| 2 ^ p) ^^^ (if (s ||| 2 ^ p).testBit p = true then ties p else 0) = _
  rw [hb, if_pos rfl, tn_cg p (fun i hi => tb_or (by omega))]
theorem tn_lt {ties : Nat → Nat} {L : Nat} {s : Nat} : ∀ p, (∀ i, i < p → ties i < 2 ^ L) → tn ties p s < 2 ^ L := by
  intro p h
  induction p with
  | zero => exact Nat.two_pow_pos L
  | succ p ih =>
    refine Nat.xor_lt_two_pow (ih (fun i hi => h i (by omega))) ?_
    split
    · exact h p (by omega)
    · exact Nat.two_pow_pos L
section Sets
variable {t : Nat} {σ : Mm}
def Wg (a i : Nat) : Prop := a = 53 ∨ a = 54
def Gat (P : Nat) (fr : Int32) (ties : Nat → Nat) (σ : Mm) : Prop := mI σ 53 0 = nI (2 ^ P) ∧ mI σ 53 2 = fr ∧ ∀ s, s < 2 ^ P → mI σ 54 s = nI (tn ties P s)
theorem Gat.many {P : Nat} {fr : Int32} {ties : Nat → Nat} (h : Gat P fr ties σ) : mI σ 53 0 = nI (2 ^ P) := h.1
theorem Gat.free {P : Nat} {fr : Int32} {ties : Nat → Nat} (h : Gat P fr ties σ) : mI σ 53 2 = fr := h.2.1
theorem Gat.tn {P : Nat} {fr : Int32} {ties : Nat → Nat} (h : Gat P fr ties σ) : ∀ s, s < 2 ^ P → mI σ 54 s = nI (tn ties P s) := h.2.2
theorem c_71 {a1 P : Nat} {fr : Int32} {ties : Nat → Nat} (hS : Sg t σ) (h1 : KS[a1]? = some (11, 10)) (hP : P ≤ 10) (ht : ∀ i, i < P → mI σ a1 i = nI (ties i)) (ha : a1 ≠ 53 ∧ a1 ≠ 54) :
    ∃ σ', Cl 71 [.ref 53, .ref a1, .int (nI P), .int fr] σ (none, σ') ∧ Fr Wg σ σ' ∧ Gat P fr ties σ' := by
  have hT : ∀ σ', Fr Wg σ σ' → ∀ i, i < P → mI σ' a1 i = nI (ties i) := fun σ' hf i hi => ((hf.1 a1 i (fun z => z.elim ha.1 ha.2)).1).trans (ht i hi)
  suffices h : ∀ z5, ∃ σ', Ev 71 20 [.ref 53, .ref a1, .int (nI P), .int fr, .int (nI 0), z5] [] (uI (uI (uI σ 53 2 fr) 53 0 1) 54 0 0) (none, σ') ∧ Fr Wg σ σ' ∧ Gat P fr ties σ' by
    obtain ⟨σ', h, g⟩ := h (.retAddr 0)
    exact ⟨σ', ck_71 hS h1 (b_71_0 hS h1 h), g⟩
  have h0 : Fr Wg σ (uI (uI (uI σ 53 2 fr) 53 0 1) 54 0 0) ∧ Gat 0 fr ties (uI (uI (uI σ 53 2 fr) 53 0 1) 54 0 0) := by
    refine ⟨(((Fr.rf σ).uI (Or.inl rfl)).uI (Or.inl rfl)).uI (Or.inr rfl), ?_, ?_, ?_⟩
    · rfl
    · rfl
    · intro s hs
      have : s = 0 := by omega
      subst this; rfl
  intro z5
  revert z5
  refine lp (fun p σ' => Fr Wg σ σ' ∧ Gat p fr ties σ') (fun p σ1 => ∀ z5, ∃ σ', Ev 71 20 [.ref 53, .ref a1, .int (nI P), .int fr, .int (nI p), z5] [] σ1 (none, σ') ∧ Fr Wg σ σ' ∧ Gat P fr ties σ') P ?_ ?_ (Nat.zero_le P) h0
  · intro p σ1 hp ⟨hf, hg⟩ ih z5
    have hS1 := hf.sg hS
    -- the inner loop
    have hin : ∃ σ', Ev 71 36 [.ref 53, .ref a1, .int (nI P), .int fr, .int (nI p), .int (nI 0)] [] σ1 (none, σ') ∧ Fr Wg σ σ' ∧ Gat P fr ties σ' := by
      have hp2 : 2 ^ p ≤ 2 ^ 9 := Nat.pow_le_pow_right (by decide) (by omega)
      refine lp (fun j σ' => Fr Wg σ σ' ∧ mI σ' 53 2 = fr ∧ (∀ s, s < 2 ^ p → mI σ' 54 s = nI (tn ties p s)) ∧ (∀ s, s < j → mI σ' 54 (s + 2 ^ p) = nI (tn ties (p + 1) (s + 2 ^ p)))) (fun j σ1 => ∃ σ', Ev 71 36 [.ref 53, .ref a1, .int (nI P), .int fr, .int (nI p), .int (nI j)] [] σ1 (none, σ') ∧ Fr Wg σ σ' ∧ Gat P fr ties σ') (2 ^ p) ?_ ?_ (Nat.zero_le _) ⟨hf, hg.free, hg.tn, fun s hs => absurd hs (Nat.not_lt_zero s)⟩
      · intro j σ2 hj ⟨hf2, hfr, hlo, hhi⟩ ih2
        have e1 : nI j ||| ((1 : Int32) <<< (nI p &&& 31)) = nI (j + 2 ^ p) := by
          rw [nI_one (by omega), fa_or, or_lt hj]
        have hf3 : Fr Wg σ (uI σ2 54 (j + 2 ^ p) (nI (tn ties p j) ^^^ nI (ties p))) := hf2.uI (Or.inr rfl)
        have hlo3 : ∀ s, s < 2 ^ p → mI (uI σ2 54 (j + 2 ^ p) (nI (tn ties p j) ^^^ nI (ties p))) 54 s = nI (tn ties p s) := by
          intro s hs
          rw [mI_uI, if_neg (by omega)]
          exact hlo s hs
        have hhi3 : ∀ s, s < j + 1 → mI (uI σ2 54 (j + 2 ^ p) (nI (tn ties p j) ^^^ nI (ties p))) 54 (s + 2 ^ p) = nI (tn ties (p + 1) (s + 2 ^ p)) := by
          intro s hs
          rw [mI_uI]
          by_cases e : s = j
          · subst e
            rw [if_pos ⟨rfl, rfl⟩, nI_xor, ← or_lt hj, tn_new hj]
          · rw [if_neg (by omega)]
            exact hhi s (by omega)
        obtain ⟨σ', h, g⟩ := ih2 _ ⟨hf3, hfr, hlo3, hhi3⟩
        refine ⟨σ', b_71_36 (hf2.sg hS) h1 ?_, g⟩
        rw [nI_one (by omega)]
        refine pk_lt j (2 ^ p) (fun _ => ⟨inb_nI (by omega) (by decide), inb_nI (by omega) (by decide), ?_⟩) (fun z => absurd hj (by omega)) rfl rfl (by omega) (by omega)
        rw [← nI_one (k := p) (by omega), e1]
        refine ⟨inb_nI (by omega) (by decide), ?_⟩
        intro σ4 e4
        rw [nI_clamp (by omega), nI_clamp (by omega), nI_clamp (by omega), hlo j hj, hT σ2 hf2 p hp] at e4
        subst e4
        rw [nI_1]
        exact h
      · intro σ2 ⟨hf2, hfr, hlo, hhi⟩
        have e2 : (2 : Int32) <<< (nI p &&& 31) = nI (2 ^ (p + 1)) := by
          have := nI_shl (n := 2) (k := p) (by omega) (by omega)
          rw [Nat.pow_succ, Nat.mul_comm]
          exact this
        have hg3 : Gat (p + 1) fr ties (uI σ2 53 0 (nI (2 ^ (p + 1)))) := by
          refine ⟨?_, ?_, ?_⟩
          · rw [mI_uI, if_pos ⟨rfl, rfl⟩]
          · rw [mI_uI, if_neg (by omega)]
            exact hfr
          · intro s hs
            rw [mI_uI, if_neg (by omega)]
            rcases Nat.lt_or_ge s (2 ^ p) with g | g
            · rw [hlo s g, tn_hi g (p + 1) (by omega)]
            · have h2 := hhi (s - 2 ^ p) (by rw [Nat.pow_succ] at hs; omega)
              rw [Nat.sub_add_cancel g] at h2
              exact h2
        obtain ⟨σ', h, g⟩ := ih _ ⟨hf2.uI (Or.inl rfl), hg3⟩ (.int (nI (2 ^ p)))
        refine ⟨σ', b_71_36 (hf2.sg hS) h1 ?_, g⟩
        rw [nI_one (by omega), e2, nI_1 p]
        exact pk_lt (2 ^ p) (2 ^ p) (fun z => absurd z (Nat.lt_irrefl _)) (fun _ => h) rfl rfl (by omega) (by omega)
    obtain ⟨σ', h, g⟩ := hin
    exact ⟨σ', b_71_20 hS1 h1 (pk_lt p P (fun _ => pk_lt p 10 (fun _ => h) (fun z => absurd hp (by omega))) (fun z => absurd hp (by omega))), g⟩
  · intro σ1 ⟨hf, hg⟩ z5
    exact ⟨σ1, b_71_20 (hf.sg hS) h1 (pk_lt P P (fun z => absurd z (Nat.lt_irrefl _)) (fun _ => rfl)), hf, hg⟩
end Sets
