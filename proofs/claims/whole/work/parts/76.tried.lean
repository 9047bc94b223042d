/-! ===== houses: the other side's relation; layTried ===== -/
section Tried
variable {t P : Nat} {σ : Mm}
def MH (σ : Mm) (b P : Nat) (H : Nat → Nat → Nat) : Prop := (mI σ 82 b = nI (H 1 0) ∧ mI σ 83 b = nI (H 2 0) ∧ mI σ 84 b = nI (H 3 0) ∧ mI σ 85 b = nI (H 4 0) ∧ mI σ 86 b = nI (H 5 0) ∧ mI σ 87 b = nI (H 0 0)) ∧ (∀ i, i < 14 → mI σ 88 (14 * b + i) = nI (H 7 i)) ∧ (∀ i, i < P → mI σ 89 (10 * b + i) = nI (H 8 i)) ∧ (∀ i, i < P → mI σ 90 (10 * b + i) = nI (H 9 i))
def Wl (x i : Nat) : Prop := (82 ≤ x ∧ x ≤ 87 ∧ i = 1) ∨ (x = 88 ∧ 14 ≤ i) ∨ ((x = 89 ∨ x = 90) ∧ 10 ≤ i) ∨ (x = 59 ∧ 59 ≤ i ∧ i ≤ 63)
/-- nothing is tried otherwise -/
def Pl (σ : Mm) : Prop := mI σ 59 59 = 0 ∧ mI σ 59 60 = 0 ∧ mI σ 59 61 = 0 ∧ mI σ 59 62 = 0 ∧ mI σ 59 63 = -1
def Wp (x i : Nat) : Prop := x = 59 ∧ 59 ≤ i ∧ i ≤ 63
theorem c_197 (hS : Sg t σ) : ∃ σ', Cl 197 [.ref 59] σ (none, σ') ∧ Fr Wp σ σ' ∧ Pl σ' := by
  refine ⟨uI (uI (uI (uI (uI σ 59 59 0) 59 60 0) 59 61 0) 59 62 0) 59 63 (-1), ck_197 hS (b_197_0 hS (fun σ1 e => ?_)), ?_, ?_⟩
  · rw [e]
  · exact ((((((Fr.rf (P := Wp) σ).uI (by unfold Wp; omega)).uI (by unfold Wp; omega)).uI (by unfold Wp; omega)).uI (by unfold Wp; omega)).uI (by unfold Wp; omega))
  · refine ⟨?_, ?_, ?_, ?_, ?_⟩ <;> simp [mI_uI]
theorem c_198 {H : Nat → Nat → Nat} (hS : Sg t σ) (hP : P ≤ 10) (hM : MH σ 0 P H) : ∃ σ', Cl 198 [.ref 59] σ (none, σ') ∧ Fr Wl σ σ' ∧ MH σ' 1 P H ∧ Pl σ' := by
  have three : ∀ σ1, (Fr Wl σ σ1 ∧ (∀ x, 82 ≤ x → x ≤ 87 → mI σ1 x 1 = mI σ x 0) ∧ (∀ i, i < 14 → mI σ1 88 (14 + i) = mI σ 88 i)) → ∃ σ', Ev 198 103 [.ref 59, .int (nI 0)] [] σ1 (none, σ') ∧ Fr Wl σ σ' ∧ MH σ' 1 P H ∧ Pl σ' := by
    intro σ1 h1
    refine lp (fun k σ1 => (Fr Wl σ σ1 ∧ (∀ x, 82 ≤ x → x ≤ 87 → mI σ1 x 1 = mI σ x 0) ∧ (∀ i, i < 14 → mI σ1 88 (14 + i) = mI σ 88 i)) ∧ ∀ i, i < k → mI σ1 89 (10 + i) = mI σ 89 i ∧ mI σ1 90 (10 + i) = mI σ 90 i) (fun k σ1 => ∃ σ', Ev 198 103 [.ref 59, .int (nI k)] [] σ1 (none, σ') ∧ Fr Wl σ σ' ∧ MH σ' 1 P H ∧ Pl σ') 10 ?_ ?_ (Nat.zero_le _) ⟨h1, fun i hi => absurd hi (Nat.not_lt_zero i)⟩
    · intro k σ2 hk ⟨⟨hf, hc, ha⟩, hl⟩ ih
      have k9 : mI σ2 89 k = mI σ 89 k := (hf.1 89 k (by unfold Wl; omega)).1
      have k0 : mI σ2 90 k = mI σ 90 k := (hf.1 90 k (by unfold Wl; omega)).1
      obtain ⟨σ', h, g⟩ := ih (uI (uI σ2 89 (10 + k) (mI σ 89 k)) 90 (10 + k) (mI σ 90 k)) ⟨⟨(hf.uI (by unfold Wl; omega)).uI (by unfold Wl; omega), fun x h1 h2 => by
        rw [mI_uI, if_neg (by omega), mI_uI, if_neg (by omega)]; exact hc x h1 h2, fun i hi => by
        rw [mI_uI, if_neg (by omega), mI_uI, if_neg (by omega)]; exact ha i hi⟩, fun i hi => by
        rw [mI_uI, if_neg (by omega), mI_uI, mI_uI]
        by_cases e : i = k
        · rw [if_pos ⟨rfl, by omega⟩, if_pos ⟨rfl, by omega⟩, e]; exact ⟨rfl, rfl⟩
        · rw [if_neg (by omega), if_neg (by omega), mI_uI, if_neg (by omega)]; exact hl i (by omega)⟩
      have ei : (10 : Int32) + nI k = nI (10 + k) := nI_add 10 k
      refine ⟨σ', b_198_103 (hf.sg hS) ?_, g⟩
      rw [ei, nI_clamp (n := k) (by omega), nI_clamp (n := 10 + k) (by omega), nI_1]
      refine pk_lt k 10 (fun _ => ⟨inb_nI (by omega) (by decide), inb_nI (by omega) (by decide), ?_⟩) (fun z => absurd hk (by omega))
      intro σ4 e4
      refine ⟨inb_nI (by omega) (by decide), inb_nI (by omega) (by decide), ?_⟩
      intro σ7 e7
      rw [e4, mI_uI, if_neg (by omega), k9, k0] at e7
      rw [e7]; exact h
    · intro σ2 ⟨⟨hf, hc, ha⟩, hl⟩
      have hS2 := hf.sg hS
      obtain ⟨σ3, h3, hf3, hp3⟩ := c_197 hS2
      refine ⟨σ3, b_198_103 hS2 (pk_lt 10 10 (fun z => absurd z (by decide)) (fun _ => ⟨σ3, h3, hf3.sg hS2, rfl⟩)), hf.tr (hf3.mono (fun x i h => by unfold Wp at h; unfold Wl; omega)), ?_, hp3⟩
      have r : ∀ x i, x ≠ 59 → mI σ3 x i = mI σ2 x i := fun x i hx => (hf3.1 x i (by unfold Wp; omega)).1
      obtain ⟨⟨m1, m2, m3, m4, m5, m6⟩, ma, mt, mw⟩ := hM
      refine ⟨⟨?_, ?_, ?_, ?_, ?_, ?_⟩, fun i hi => ?_, fun i hi => ?_, fun i hi => ?_⟩
      · rw [r _ _ (by decide), hc 82 (by decide) (by decide)]; exact m1
      · rw [r _ _ (by decide), hc 83 (by decide) (by decide)]; exact m2
      · rw [r _ _ (by decide), hc 84 (by decide) (by decide)]; exact m3
      · rw [r _ _ (by decide), hc 85 (by decide) (by decide)]; exact m4
      · rw [r _ _ (by decide), hc 86 (by decide) (by decide)]; exact m5
      · rw [r _ _ (by decide), hc 87 (by decide) (by decide)]; exact m6
      · rw [r _ _ (by decide)]
        have h2 := ma i hi
        rw [Nat.mul_zero, Nat.zero_add] at h2
        exact (ha i hi).trans h2
      · rw [r _ _ (by decide)]
        have h2 := mt i hi
        rw [Nat.mul_zero, Nat.zero_add] at h2
        exact ((hl i (by omega)).1).trans h2
      · rw [r _ _ (by decide)]
        have h2 := mw i hi
        rw [Nat.mul_zero, Nat.zero_add] at h2
        exact ((hl i (by omega)).2).trans h2
  have two : ∀ σ1, (Fr Wl σ σ1 ∧ (∀ x, 82 ≤ x → x ≤ 87 → mI σ1 x 1 = mI σ x 0)) → ∃ σ', Ev 198 74 [.ref 59, .int (nI 0)] [] σ1 (none, σ') ∧ Fr Wl σ σ' ∧ MH σ' 1 P H ∧ Pl σ' := by
    intro σ1 h1
    refine lp (fun k σ1 => (Fr Wl σ σ1 ∧ (∀ x, 82 ≤ x → x ≤ 87 → mI σ1 x 1 = mI σ x 0)) ∧ ∀ i, i < k → mI σ1 88 (14 + i) = mI σ 88 i) (fun k σ1 => ∃ σ', Ev 198 74 [.ref 59, .int (nI k)] [] σ1 (none, σ') ∧ Fr Wl σ σ' ∧ MH σ' 1 P H ∧ Pl σ') 14 ?_ ?_ (Nat.zero_le _) ⟨h1, fun i hi => absurd hi (Nat.not_lt_zero i)⟩
    · intro k σ2 hk ⟨⟨hf, hc⟩, hl⟩ ih
      have k8 : mI σ2 88 k = mI σ 88 k := (hf.1 88 k (by unfold Wl; omega)).1
      obtain ⟨σ', h, g⟩ := ih (uI σ2 88 (14 + k) (mI σ 88 k)) ⟨⟨hf.uI (by unfold Wl; omega), fun x h1 h2 => by
        rw [mI_uI, if_neg (by omega)]; exact hc x h1 h2⟩, fun i hi => by
        rw [mI_uI]
        by_cases e : i = k
        · rw [if_pos ⟨rfl, by omega⟩, e]
        · rw [if_neg (by omega)]; exact hl i (by omega)⟩
      have ei : (14 : Int32) + nI k = nI (14 + k) := nI_add 14 k
      refine ⟨σ', b_198_74 (hf.sg hS) ?_, g⟩
      rw [ei, nI_clamp (n := k) (by omega), nI_clamp (n := 14 + k) (by omega), nI_1]
      refine pk_lt k 14 (fun _ => ⟨inb_nI (by omega) (by decide), inb_nI (by omega) (by decide), ?_⟩) (fun z => absurd hk (by omega))
      intro σ4 e4
      rw [k8] at e4
      rw [e4]; exact h
    · intro σ2 ⟨⟨hf, hc⟩, hl⟩
      obtain ⟨σ', h, g⟩ := three σ2 ⟨hf, hc, hl⟩
      exact ⟨σ', b_198_74 (hf.sg hS) (pk_lt 14 14 (fun z => absurd z (by decide)) (fun _ => h)), g⟩
  have cpy : ∀ σ1 k, 82 ≤ k → k ≤ 87 → (Fr Wl σ σ1 ∧ (∀ x, 82 ≤ x → x < k → mI σ1 x 1 = mI σ x 0)) → Fr Wl σ (uI σ1 k 1 (mI σ1 k 0)) ∧ (∀ x, 82 ≤ x → x < k + 1 → mI (uI σ1 k 1 (mI σ1 k 0)) x 1 = mI σ x 0) := by
    intro σ1 k h1 h2 ⟨hf, hc⟩
    refine ⟨hf.uI (by unfold Wl; omega), fun x h3 h4 => ?_⟩
    rw [mI_uI]
    by_cases e : x = k
    · rw [if_pos ⟨e, rfl⟩, e]; exact (hf.1 k 0 (by unfold Wl; omega)).1
    · rw [if_neg (fun z => e z.1)]; exact hc x h3 (by omega)
  have s2 := cpy σ 82 (by decide) (by decide) ⟨Fr.rf σ, fun x h1 h2 => by omega⟩
  have s3 := cpy _ 83 (by decide) (by decide) s2
  have s4 := cpy _ 84 (by decide) (by decide) s3
  have s5 := cpy _ 85 (by decide) (by decide) s4
  have s6 := cpy _ 86 (by decide) (by decide) s5
  have s7 := cpy _ 87 (by decide) (by decide) s6
  obtain ⟨σ', h, g⟩ := two _ ⟨s7.1, fun x h1 h2 => s7.2 x h1 (by omega)⟩
  refine ⟨σ', ck_198 hS (b_198_0 hS ?_), g⟩
  intro σ1 e1
  subst e1
  intro σ4 e4
  subst e4
  exact b_198_60 (s6.1.sg hS) h
end Tried
