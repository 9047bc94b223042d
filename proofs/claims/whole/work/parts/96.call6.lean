/-! ===== calls: note, known ===== -/
section Call6
variable {t : Nat} {σ : Mm} {D H : Nat → Nat → Nat}
theorem i_note {x y : Int32} {b : Bool} (h : Inv t σ D H) : PrS 130 254 [.int x, .int y, .int (if b = true then 1 else 0)] t σ := by
  have hq := h.1
  have hL := hq.hL
  have hP := hq.hP
  have e254 : ∀ {σ1 w}, Sg t σ1 → ¬ x = 1 → w = (some (.int (-1)), σ1) → Ev 254 17 [.ref 59, .int x, .int y, .int (if b = true then 1 else 0)] [] σ1 w := fun s z hw => b_254_17 s ⟨fun q => absurd q z, fun _ => hw⟩
  by_cases c0 : x = 0
  · subst c0
    rcases bad_or y (show D 0 0 < 2 ^ 31 by omega) with bb | ⟨l, hl, rfl⟩
    · exact (PrI.mk0 hq (v := -1) (ck_130 hq.sg (b_130_0 hq.sg ⟨fun _ => ⟨_, _, c_142n hq.sg hq.ct.1.1 bb, hq.sg, fun _ => rfl, fun z => absurd rfl z⟩, fun z => absurd rfl z⟩)) ⟨_, ck_254 hq.sg (b_254_0 hq.sg ⟨fun _ => ⟨_, _, c_199n hq.th.sg hq.th.mt.1.1 bb, hq.th.sg, fun _ => e254 hq.th.sg (by decide) rfl, fun z => absurd rfl z⟩, fun z => absurd rfl z⟩), wq_th⟩).st h
    · obtain ⟨v, σ1, σ2, c1, s1, c2, i2, r⟩ := notes (w := 0) (x := l) (b1 := b) (b2 := b) h (fun m e hm => Or.inl ⟨rfl, hl⟩) (fun _ => rfl)
      have s1' : Sg t (uI σ1 59 2 0) := s1
      refine ⟨v, σ1, σ2, t, D, H, ck_130 hq.sg (b_130_0 hq.sg ⟨fun _ => ⟨_, _, c_142y hq.sg hq.ct.1.1 (by omega) hl, hq.sg, fun z => absurd z n10, fun _ => ⟨_, σ1, c1, s1, rfl⟩⟩, fun z => absurd rfl z⟩), s1, ck_254 s1 (b_254_0 s1 ⟨fun _ => ⟨_, _, c_199y s1' (by rw [r 12 (by omega)]; exact hq.mt.1.1) (by omega) hl, s1', fun z => absurd z n10, fun _ => w_b (fun z => ?_) (fun z => ?_)⟩, fun z => absurd rfl z⟩), i2⟩
      · rw [z] at c2; exact ⟨_, σ2, c2, i2.1.sg, rfl⟩
      · rw [z] at c2; exact ⟨_, σ2, c2, i2.1.sg, rfl⟩
  · by_cases c1 : x = 1
    · subst c1
      rcases bad_or y (show D 1 0 < 2 ^ 31 by omega) with bb | ⟨p, hp, rfl⟩
      · exact (PrI.mk0 hq (v := -1) (ck_130 hq.sg (b_130_0 hq.sg ⟨fun z => absurd z c0, fun _ => ⟨fun _ => ⟨_, _, c_143n hq.sg hq.ct.1.2.1 bb, hq.sg, fun _ => rfl, fun z => absurd rfl z⟩, fun z => absurd rfl z⟩⟩)) ⟨_, ck_254 hq.sg (b_254_0 hq.sg ⟨fun z => absurd z c0, fun _ => b_254_17 hq.th.sg ⟨fun _ => ⟨_, _, c_200n hq.th.sg hq.th.mt.1.2.1 bb, hq.th.sg, fun _ => rfl, fun z => absurd rfl z⟩, fun z => absurd rfl z⟩⟩), wq_th⟩).st h
      · obtain ⟨v, σ1, σ2, c1, s1, c2, i2, r⟩ := notes (w := 1) (x := p) (b1 := b) (b2 := b) h (fun m e hm => Or.inr (Or.inl ⟨rfl, hp⟩)) (fun _ => rfl)
        have s1' : Sg t (uI σ1 59 2 0) := s1
        refine ⟨v, σ1, σ2, t, D, H, ck_130 hq.sg (b_130_0 hq.sg ⟨fun z => absurd z c0, fun _ => ⟨fun _ => ⟨_, _, c_143y hq.sg hq.ct.1.2.1 (by omega) hp, hq.sg, fun z => absurd z n10, fun _ => ⟨_, σ1, c1, s1, rfl⟩⟩, fun z => absurd rfl z⟩⟩), s1, ck_254 s1 (b_254_0 s1 ⟨fun z => absurd z c0, fun _ => b_254_17 s1' ⟨fun _ => ⟨_, _, c_200y s1' (by rw [r 13 (by omega)]; exact hq.mt.1.2.1) (by omega) hp, s1', fun z => absurd z n10, fun _ => w_b (fun z => ?_) (fun z => ?_)⟩, fun z => absurd rfl z⟩⟩), i2⟩
        · rw [z] at c2; exact ⟨_, σ2, c2, i2.1.sg, rfl⟩
        · rw [z] at c2; exact ⟨_, σ2, c2, i2.1.sg, rfl⟩
    · exact (PrI.mk0 hq (v := -1) (ck_130 hq.sg (b_130_0 hq.sg ⟨fun z => absurd z c0, fun _ => ⟨fun z => absurd z c1, fun _ => rfl⟩⟩)) ⟨_, ck_254 hq.sg (b_254_0 hq.sg ⟨fun z => absurd z c0, fun _ => e254 hq.th.sg c1 rfl⟩), wq_th⟩).st h
theorem i_known {x : Int32} (h : Inv t σ D H) : PrS 132 256 [.int x] t σ := by
  obtain ⟨n, kx, W, T, S, h0, h1, h2, h3, h4, h5, h6⟩ := h.2.2.2.2
  have hq := h.1
  have hS := hq.sg
  by_cases c : x < -1 ∨ nI n < x
  · refine (PrI.mk0 hq (v := 0) (ck_132 hS (b_132_0 hS ?_)) ⟨_, ck_256 hS (b_256_0 hS ?_), wq_th⟩).st h
    · rw [h1]
      exact ⟨fun _ => rfl, fun z => ⟨fun _ => rfl, fun w => absurd c (fun q => q.elim z w)⟩⟩
    · rw [mI_n (by omega), h2]
      exact ⟨_, _, c_152n hq.th.sg c, hq.th.sg, fun _ => rfl, fun z => absurd rfl z⟩
  · have hx : x = -1 ∨ ∃ m, m ≤ n ∧ x = nI m := by
      by_cases z : x < 0
      · left
        have a : ¬ x < -1 := fun w => c (Or.inl w)
        rw [fa_lt] at z a
        rw [fa_eq]
        have z : x.toInt < 0 := z
        have a : ¬ x.toInt < -1 := a
        show x.toInt = -1
        omega
      · right
        obtain ⟨m, hm, rfl⟩ := nI_of z
        refine ⟨m, ?_, rfl⟩
        rcases Nat.lt_or_ge n m with g | g
        · exact absurd (Or.inr (nI_lt g hm)) c
        · exact g
    have F : Fr Wno σ (uI (uI (uI σ 49 1 x) 59 2 0) 59 69 x) := (((Fr.rf σ).uI (by unfold Wno; omega)).uI (by unfold Wno; omega)).uI (by unfold Wno; omega)
    have r : ∀ y i, ¬ (y = 49 ∧ i = 1) → ¬ (y = 59 ∧ (i = 2 ∨ i = 69)) → mI (uI (uI (uI σ 49 1 x) 59 2 0) 59 69 x) y i = mI σ y i := fun y i a b => by rw [mI_n (by omega), mI_n (by omega), mI_n (by omega)]
    have N : NtI (uI (uI (uI σ 49 1 x) 59 2 0) 59 69 x) (D 0 0) (D 1 0) := by
      refine ⟨n, x, W, T, S, h0, (r 49 0 (by omega) (by omega)).trans h1, (r 59 68 (by omega) (by omega)).trans h2, ?_, mI_s, hx, fun k hk => ?_⟩
      · rw [mI_n (by omega), mI_n (by omega), mI_s]
      · rw [r 50 k (by omega) (by omega), r 51 k (by omega) (by omega), r 94 (3 * k) (by omega) (by omega), r 94 (3 * k + 1) (by omega) (by omega), r 52 k (by omega) (by omega), r 94 (3 * k + 2) (by omega) (by omega)]
        exact h6 k hk
    have S1 : Sg t (uI σ 49 1 x) := hS
    have S2 : Sg t (uI (uI σ 49 1 x) 59 2 0) := hS
    refine ⟨1, uI σ 49 1 x, _, t, D, H, ck_132 hS (b_132_0 hS ?_), S1, ck_256 S1 (b_256_0 S1 ?_), inv_no h F N⟩
    · rw [h1]
      exact ⟨fun z => absurd (Or.inl z) c, fun _ => ⟨fun z => absurd (Or.inr z) c, fun _ => rfl⟩⟩
    · rw [mI_n (by omega), mI_n (by omega), h2]
      exact ⟨_, _, c_152y S2 c, S2, fun z => absurd z n10, fun _ => rfl⟩
end Call6
