/-! ===== text, second side ===== -/
def hal (a : Nat) : Nat := if a = 64 then 2 else if a = 65 then 14 else if a ≤ 68 then 10 else if a ≤ 70 then 14 else if a = 71 then 4 else if a ≤ 74 then 3 else 64
section TxM
variable {t n : Nat} {σ σ' : Mm} {D : Nat → Nat → Nat} {B : Nat → Nat}
/-- nothing is read yet -/
theorem c_164 (hS : Sg t σ) : ∃ σ', Cl 164 [.ref 59] σ (none, σ') ∧ Fr Wm1 σ σ' ∧ MRd σ' D0 ∧ mI σ' 59 7 = mI σ 59 7 := by
  generalize eτ : uI (uI (uI (uI (uI (uI (uI σ 59 17 0) 59 18 0) 59 19 0) 59 20 0) 59 21 0) 59 43 0) 62 1 0 = τ
  have F : Fr Wm1 σ τ := by
    rw [← eτ]
    exact (((((((Fr.rf σ).uI (Or.inl ⟨rfl, by omega⟩)).uI (Or.inl ⟨rfl, by omega⟩)).uI (Or.inl ⟨rfl, by omega⟩)).uI (Or.inl ⟨rfl, by omega⟩)).uI (Or.inl ⟨rfl, by omega⟩)).uI (Or.inl ⟨rfl, by omega⟩)).uI (Or.inr (Or.inl ⟨rfl, rfl⟩))
  have St := F.sg hS
  have z : mI τ 59 17 = 0 ∧ mI τ 59 18 = 0 ∧ mI τ 59 19 = 0 ∧ mI τ 59 20 = 0 ∧ mI τ 59 21 = 0 ∧ mI τ 59 43 = 0 ∧ mI τ 62 1 = 0 := by
    rw [← eτ]
    simp [mI_uI]
  -- laws
  have lp2 : ∀ υ, Fr (fun x i => x = 63 ∨ (x = 64 ∧ 2 ≤ i)) τ υ → (∀ i, i < 2 → mI υ 63 i = 0 ∧ mI υ 64 (2 + i) = 0) → ∃ σ', Ev 164 68 [.ref 59, .int (nI 3)] [] υ (none, σ') ∧ Fr Wm1 σ σ' ∧ MRd σ' D0 ∧ mI σ' 59 7 = mI σ 59 7 := by
    intro υ Fu hu'
    have FFu : Fr Wm1 σ υ := F.tr (Fu.mono (fun x i h => by unfold Wm1; omega))
    refine lp (fun k ξ => 3 ≤ k → Fr (fun x i => x = 72 ∧ 3 ≤ i) υ ξ ∧ ∀ i, 3 ≤ i → i < k → mI ξ 72 i = 0) (fun k ξ => 3 ≤ k → ∃ σ', Ev 164 68 [.ref 59, .int (nI k)] [] ξ (none, σ') ∧ Fr Wm1 σ σ' ∧ MRd σ' D0 ∧ mI σ' 59 7 = mI σ 59 7) 6 ?_ ?_ (k := 3) (by decide) (fun _ => ⟨Fr.rf υ, fun i h1 h2 => by omega⟩) (by decide)
    · intro k ξ hk hx ih h3
      obtain ⟨Fx, hx⟩ := hx h3
      have Sx := Fx.sg (FFu.sg hS)
      obtain ⟨σ', d, r⟩ := ih (uI ξ 72 k 0) (fun _ => ⟨Fx.uI ⟨rfl, h3⟩, fun i h1 h2 => by
        by_cases e : i = k
        · rw [e, mI_s]
        · rw [mI_n (by omega)]; exact hx i h1 (by omega)⟩) (by omega)
      refine ⟨σ', b_164_68 Sx ?_, r⟩
      rw [nI_clamp (by omega), nI_1]
      exact pk_lt k 6 (fun _ => ⟨inb_nI hk (by decide), d⟩) (fun z => absurd z (by omega))
    · intro ξ hx h3
      obtain ⟨Fx, hx⟩ := hx h3
      have Sx := Fx.sg (FFu.sg hS)
      have r1 : ∀ x i, ¬ (x = 63 ∨ (x = 64 ∧ 2 ≤ i)) → ¬ (x = 72 ∧ 3 ≤ i) → mI ξ x i = mI τ x i := fun x i h1 h2 => ((Fx.1 x i h2).1).trans ((Fu.1 x i h1).1)
      have r2 : ∀ x i, ¬ (x = 72 ∧ 3 ≤ i) → mI ξ x i = mI υ x i := fun x i h2 => (Fx.1 x i h2).1
      refine ⟨ξ, b_164_68 Sx (pk_lt 6 6 (fun z => absurd z (by decide)) (fun _ => rfl)), FFu.tr (Fx.mono (fun x i h => by unfold Wm1; omega)), ⟨⟨?_, ?_, ?_, ?_, ?_⟩, ⟨?_, ?_, ?_, ?_⟩, ⟨?_, ?_⟩, fun f i _ _ hi => absurd hi (Nat.not_lt_zero i), fun i hi => absurd hi (Nat.not_lt_zero i), fun q hq => ⟨?_, fun z => absurd z (Nat.lt_irrefl _)⟩⟩, by rw [r1 59 7 (by omega) (by omega), ← eτ]; simp [mI_uI]⟩
      · rw [r1 _ _ (by omega) (by omega)]; exact z.1
      · rw [r1 _ _ (by omega) (by omega)]; exact z.2.1
      · rw [r1 _ _ (by omega) (by omega)]; exact z.2.2.2.2.2.2
      · rw [r1 _ _ (by omega) (by omega)]; exact z.2.2.1
      · rw [r1 _ _ (by omega) (by omega)]; exact z.2.2.2.1
      · rw [r2 _ _ (by omega)]; exact (hu' 0 (by decide)).2
      · rw [r2 _ _ (by omega)]; exact (hu' 1 (by decide)).2
      · rw [r2 _ _ (by omega)]; exact (hu' 0 (by decide)).1
      · rw [r2 _ _ (by omega)]; exact (hu' 1 (by decide)).1
      · rw [r1 _ _ (by omega) (by omega)]; exact z.2.2.2.2.1
      · rw [r1 _ _ (by omega) (by omega)]; exact z.2.2.2.2.2.1
      · exact hx (3 + q) (by omega) (by omega)
  have lp1 : ∃ σ', Ev 164 39 [.ref 59, .int (nI 0)] [] τ (none, σ') ∧ Fr Wm1 σ σ' ∧ MRd σ' D0 ∧ mI σ' 59 7 = mI σ 59 7 := by
    refine lp (fun k ξ => Fr (fun x i => x = 63 ∨ (x = 64 ∧ 2 ≤ i)) τ ξ ∧ ∀ i, i < k → mI ξ 63 i = 0 ∧ mI ξ 64 (2 + i) = 0) (fun k ξ => ∃ σ', Ev 164 39 [.ref 59, .int (nI k)] [] ξ (none, σ') ∧ Fr Wm1 σ σ' ∧ MRd σ' D0 ∧ mI σ' 59 7 = mI σ 59 7) 2 ?_ ?_ (Nat.zero_le _) ⟨Fr.rf τ, fun i hi => absurd hi (Nat.not_lt_zero i)⟩
    · intro k ξ hk ⟨Fx, hx⟩ ih
      obtain ⟨σ', d, r⟩ := ih (uI (uI ξ 63 k 0) 64 (2 + k) 0) ⟨(Fx.uI (Or.inl rfl)).uI (Or.inr ⟨rfl, by omega⟩), fun i hi => by
        by_cases e : i = k
        · rw [e]; exact ⟨by rw [mI_n (by omega), mI_s], mI_s⟩
        · rw [mI_n (by omega), mI_n (by omega), mI_n (by omega), mI_n (by omega)]; exact hx i (by omega)⟩
      refine ⟨σ', b_164_39 (Fx.sg St) ?_, r⟩
      have e2 : (2 : Int32) + nI k = nI (2 + k) := nI_add 2 k
      rw [e2, nI_clamp (by omega), nI_clamp (by omega), nI_1]
      exact pk_lt k 2 (fun _ => ⟨inb_nI hk (by decide), inb_nI (by omega) (by decide), fun σ1 q1 => by rw [q1]; exact d⟩) (fun z => absurd z (by omega))
    · intro ξ ⟨Fx, hx⟩
      obtain ⟨σ', d, r⟩ := lp2 ξ Fx hx
      exact ⟨σ', b_164_39 (Fx.sg St) (pk_lt 2 2 (fun z => absurd z (by decide)) (fun _ => d)), r⟩
  obtain ⟨σ', d, r⟩ := lp1
  refine ⟨σ', ck_164 hS (b_164_0 hS (fun σ1 q1 => ?_)), r⟩
  rw [q1, eτ]
  exact d
/-- rows copied up to a cell -/
def Cpy (σ : Mm) (r : Nat) (τ : Mm) : Prop := (∀ x i, ¬ (64 ≤ x ∧ x < r) → mI τ x i = mI σ x i) ∧ τ.2.2 = σ.2.2 ∧ (∀ x i, 64 ≤ x → x < r → ¬ i < hal x → mI τ x i = mI σ x i) ∧ ∀ x i, 64 ≤ x → x < r → i < hal x → mI τ x i = mI σ x (hal x + i)
theorem Cpy.sg {τ : Mm} {r : Nat} (h : Cpy σ r τ) (hS : Sg t σ) : Sg t τ := by
  have e := h.2.1
  unfold Sg mKs mR at hS ⊢
  rw [e]
  exact hS
theorem c_165 {a n0 m : Nat} (hS : Sg t σ) (h0 : KS[a]? = some (11, n0)) (hm : 2 * m ≤ n0) (hn : n0 < 2 ^ 31) : ∃ σ', Cl 165 [.ref a, .int (nI m)] σ (none, σ') ∧ Fr (fun x i => x = a ∧ i < m) σ σ' ∧ ∀ i, i < m → mI σ' a i = mI σ a (m + i) := by
  have L : ∃ σ', Ev 165 2 [.ref a, .int (nI m), .int (nI 0)] [] σ (none, σ') ∧ Fr (fun x i => x = a ∧ i < m) σ σ' ∧ ∀ i, i < m → mI σ' a i = mI σ a (m + i) := by
    refine lp (fun k ξ => Fr (fun x i => x = a ∧ i < m) σ ξ ∧ ∀ i, i < k → mI ξ a i = mI σ a (m + i)) (fun k ξ => ∃ σ', Ev 165 2 [.ref a, .int (nI m), .int (nI k)] [] ξ (none, σ') ∧ Fr (fun x i => x = a ∧ i < m) σ σ' ∧ ∀ i, i < m → mI σ' a i = mI σ a (m + i)) m ?_ ?_ (Nat.zero_le _) ⟨Fr.rf σ, fun i hi => absurd hi (Nat.not_lt_zero i)⟩
    · intro k ξ hk ⟨Fx, hx⟩ ih
      have e : mI ξ a (m + k) = mI σ a (m + k) := (Fx.1 a (m + k) (fun z => by omega)).1
      obtain ⟨σ', d, r⟩ := ih (uI ξ a k (mI σ a (m + k))) ⟨Fx.uI ⟨rfl, hk⟩, fun i hi => by
        by_cases e : i = k
        · rw [e, mI_s]
        · rw [mI_n (by omega)]; exact hx i (by omega)⟩
      refine ⟨σ', b_165_2 (Fx.sg hS) h0 ?_, r⟩
      rw [nI_add, nI_clamp (by omega), nI_clamp (by omega), nI_1, e]
      exact pk_lt k m (fun _ => ⟨inb_nI (by omega) hn, inb_nI (by omega) hn, fun σ1 q1 => by rw [q1]; exact d⟩) (fun z => absurd z (by omega)) rfl rfl (by omega) (by omega)
    · intro ξ ⟨Fx, hx⟩
      exact ⟨ξ, b_165_2 (Fx.sg hS) h0 (pk_lt m m (fun z => absurd z (Nat.lt_irrefl _)) (fun _ => rfl) rfl rfl (by omega) (by omega)), Fx, hx⟩
  obtain ⟨σ', d, r⟩ := L
  exact ⟨σ', ck_165 hS h0 (b_165_0 hS h0 d), r⟩
theorem Cpy.st {τ : Mm} {a n0 : Nat} (h : Cpy σ a τ) (hS : Sg t σ) (ha : 64 ≤ a) (h0 : KS[a]? = some (11, n0)) (hm : 2 * hal a ≤ n0) (hn : n0 < 2 ^ 31) : ∃ τ', Cl 165 [.ref a, .int (nI (hal a))] τ (none, τ') ∧ Sg t τ' ∧ Cpy σ (a + 1) τ' := by
  obtain ⟨τ', d, F, v⟩ := c_165 (m := hal a) (h.sg hS) h0 hm hn
  obtain ⟨h1, h3, h4, h5⟩ := h
  refine ⟨τ', d, F.sg (Cpy.sg ⟨h1, h3, h4, h5⟩ hS), fun x i hx => ?_, F.2.trans h3, fun x i g1 g2 g3 => ?_, fun x i g1 g2 g3 => ?_⟩
  · rw [(F.1 x i (fun z => by omega)).1]; exact h1 x i (by omega)
  · by_cases e : x = a
    · subst e
      rw [(F.1 x i (fun z => g3 z.2)).1]; exact h1 x i (by omega)
    · rw [(F.1 x i (fun z => e z.1)).1]; exact h4 x i g1 (by omega) g3
  · by_cases e : x = a
    · subst e
      rw [v i g3]; exact h1 x _ (by omega)
    · rw [(F.1 x i (fun z => e z.1)).1]; exact h5 x i g1 (by omega) g3
/-- how it is at first -/
theorem c_196 (hS : Sg t σ) (hW : WDr D) (h62 : mI σ 62 0 = nI (D 2 0)) (h68 : ∀ i, i < D 1 0 → mI σ 68 i = nI (D 11 i)) : ∃ σ', Cl 196 [.ref 59, .int 0] σ (none, σ') ∧ Fr (fun x i => 82 ≤ x ∧ x ≤ 90) σ σ' ∧ MH σ' 0 (D 1 0) (hbg D) := by
  have hP := hW.1.1.2.1
  have i2 : inb (0 : Int32) 2 = true := by decide
  generalize eτ : uI (uI (uI (uI (uI (uI σ 82 0 (nI (D 2 0))) 83 0 0) 84 0 0) 85 0 0) 86 0 0) 87 0 0 = τ
  have F : Fr (fun x i => 82 ≤ x ∧ x ≤ 90) σ τ := by
    rw [← eτ]
    exact ((((((Fr.rf σ).uI ⟨by decide, by decide⟩).uI ⟨by decide, by decide⟩).uI ⟨by decide, by decide⟩).uI ⟨by decide, by decide⟩).uI ⟨by decide, by decide⟩).uI ⟨by decide, by decide⟩
  have St := F.sg hS
  have z : mI τ 82 0 = nI (D 2 0) ∧ mI τ 83 0 = 0 ∧ mI τ 84 0 = 0 ∧ mI τ 85 0 = 0 ∧ mI τ 86 0 = 0 ∧ mI τ 87 0 = 0 := by
    rw [← eτ]
    simp [mI_uI]
  have z0 : ∀ f i, f ≠ 1 → f ≠ 6 → f ≠ 8 → nI (hbg D f i) = 0 := fun f i h1 h2 h3 => by
    unfold hbg
    rw [if_neg (by omega), if_neg (by omega), if_neg (by omega)]
    rfl
  have lp2 : ∀ υ, Fr (fun x i => x = 88) τ υ → (∀ i, i < 14 → mI υ 88 i = 0) → ∃ σ', Ev 196 75 [.ref 59, .int 0, .int (nI 0)] [] υ (none, σ') ∧ Fr (fun x i => 82 ≤ x ∧ x ≤ 90) σ σ' ∧ MH σ' 0 (D 1 0) (hbg D) := by
    intro υ Fu hu'
    refine lp (fun k ξ => Fr (fun x i => x = 89 ∨ x = 90) υ ξ ∧ ∀ i, i < k → mI ξ 89 i = mI σ 68 i ∧ mI ξ 90 i = 0) (fun k ξ => ∃ σ', Ev 196 75 [.ref 59, .int 0, .int (nI k)] [] ξ (none, σ') ∧ Fr (fun x i => 82 ≤ x ∧ x ≤ 90) σ σ' ∧ MH σ' 0 (D 1 0) (hbg D)) 10 ?_ ?_ (Nat.zero_le _) ⟨Fr.rf υ, fun i hi => absurd hi (Nat.not_lt_zero i)⟩
    · intro k ξ hk ⟨Fx, hx⟩ ih
      have FF : Fr (fun x i => 82 ≤ x ∧ x ≤ 90) σ ξ := F.tr ((Fu.mono (fun x i h => by omega)).tr (Fx.mono (fun x i h => by omega)))
      have e68 : mI ξ 68 k = mI σ 68 k := (FF.1 68 k (fun z => by omega)).1
      have e10 : (10 : Int32) * 0 + nI k = nI k := by
        rw [show (10 : Int32) * 0 = nI 0 from rfl, nI_add, Nat.zero_add]
      obtain ⟨σ', d, r⟩ := ih (uI (uI ξ 89 k (mI σ 68 k)) 90 k 0) ⟨(Fx.uI (Or.inl rfl)).uI (Or.inr rfl), fun i hi => by
        by_cases e : i = k
        · rw [e]; exact ⟨by rw [mI_n (by omega), mI_s], mI_s⟩
        · rw [mI_n (by omega), mI_n (by omega), mI_n (by omega), mI_n (by omega)]; exact hx i (by omega)⟩
      refine ⟨σ', b_196_75 (FF.sg hS) ?_, r⟩
      have i20 : inb (nI k) 20 = true := inb_nI (by omega) (by decide)
      rw [e10, nI_clamp (by omega), nI_1, e68]
      exact pk_lt k 10 (fun _ => ⟨i20, i20, fun σ1 q1 => ⟨i20, fun σ4 q4 => by rw [q4, q1]; exact d⟩⟩) (fun z => absurd z (by omega))
    · intro ξ ⟨Fx, hx⟩
      have FF : Fr (fun x i => 82 ≤ x ∧ x ≤ 90) σ ξ := F.tr ((Fu.mono (fun x i h => by omega)).tr (Fx.mono (fun x i h => by omega)))
      have r1 : ∀ x i, x ≠ 88 → x ≠ 89 → x ≠ 90 → mI ξ x i = mI τ x i := fun x i h1 h2 h3 => ((Fx.1 x i (fun z => by omega)).1).trans ((Fu.1 x i h1).1)
      refine ⟨ξ, b_196_75 (FF.sg hS) (pk_lt 10 10 (fun z => absurd z (by decide)) (fun _ => rfl)), FF, ⟨?_, ?_, ?_, ?_, ?_, ?_⟩, fun i hi => ?_, fun i hi => ?_, fun i hi => ?_⟩
      · rw [r1 82 0 (by decide) (by decide) (by decide), z.1]; rfl
      · rw [r1 83 0 (by decide) (by decide) (by decide), z.2.1, z0 2 0 (by decide) (by decide) (by decide)]
      · rw [r1 84 0 (by decide) (by decide) (by decide), z.2.2.1, z0 3 0 (by decide) (by decide) (by decide)]
      · rw [r1 85 0 (by decide) (by decide) (by decide), z.2.2.2.1, z0 4 0 (by decide) (by decide) (by decide)]
      · rw [r1 86 0 (by decide) (by decide) (by decide), z.2.2.2.2.1, z0 5 0 (by decide) (by decide) (by decide)]
      · rw [r1 87 0 (by decide) (by decide) (by decide), z.2.2.2.2.2, z0 0 0 (by decide) (by decide) (by decide)]
      · rw [Nat.mul_zero, Nat.zero_add, (Fx.1 88 i (fun z => by omega)).1, hu' i hi, z0 7 i (by decide) (by decide) (by decide)]
      · rw [Nat.mul_zero, Nat.zero_add, (hx i (by omega)).1, h68 i hi]
        unfold hbg
        rw [if_neg (by omega), if_neg (by omega), if_pos ⟨rfl, hi⟩]
      · rw [Nat.mul_zero, Nat.zero_add, (hx i (by omega)).2, z0 9 i (by decide) (by decide) (by decide)]
  have lp1 : ∃ σ', Ev 196 49 [.ref 59, .int 0, .int (nI 0)] [] τ (none, σ') ∧ Fr (fun x i => 82 ≤ x ∧ x ≤ 90) σ σ' ∧ MH σ' 0 (D 1 0) (hbg D) := by
    refine lp (fun k ξ => Fr (fun x i => x = 88) τ ξ ∧ ∀ i, i < k → mI ξ 88 i = 0) (fun k ξ => ∃ σ', Ev 196 49 [.ref 59, .int 0, .int (nI k)] [] ξ (none, σ') ∧ Fr (fun x i => 82 ≤ x ∧ x ≤ 90) σ σ' ∧ MH σ' 0 (D 1 0) (hbg D)) 14 ?_ ?_ (Nat.zero_le _) ⟨Fr.rf τ, fun i hi => absurd hi (Nat.not_lt_zero i)⟩
    · intro k ξ hk ⟨Fx, hx⟩ ih
      have e14 : (14 : Int32) * 0 + nI k = nI k := by
        rw [show (14 : Int32) * 0 = nI 0 from rfl, nI_add, Nat.zero_add]
      obtain ⟨σ', d, r⟩ := ih (uI ξ 88 k 0) ⟨Fx.uI rfl, fun i hi => by
        by_cases e : i = k
        · rw [e, mI_s]
        · rw [mI_n (by omega)]; exact hx i (by omega)⟩
      refine ⟨σ', b_196_49 (Fx.sg St) ?_, r⟩
      rw [e14, nI_clamp (by omega), nI_1]
      exact pk_lt k 14 (fun _ => ⟨inb_nI (by omega) (by decide), d⟩) (fun z => absurd z (by omega))
    · intro ξ ⟨Fx, hx⟩
      obtain ⟨σ', d, r⟩ := lp2 ξ Fx hx
      exact ⟨σ', b_196_49 (Fx.sg St) (pk_lt 14 14 (fun z => absurd z (by decide)) (fun _ => d)), r⟩
  obtain ⟨σ', d, r⟩ := lp1
  refine ⟨σ', ck_196 hS (b_196_0 hS ⟨i2, i2, fun σ1 q1 => ⟨i2, i2, fun σ4 q4 => ⟨i2, i2, fun σ7 q7 => ?_⟩⟩⟩), r⟩
  have c0 : (0 : Int32).toNatClampNeg = 0 := rfl
  rw [c0, h62] at q1
  rw [c0] at q4 q7
  rw [q7, q4, q1, eτ]
  exact d
end TxM
