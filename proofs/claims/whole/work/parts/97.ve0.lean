/-! ===== feed ===== -/
theorem lowb (x : Int32) : x.toInt8.toInt32 &&& 255 = x &&& 255 := b_ext (fun i hi => by
  rw [b_and, b_and, b_255]
  by_cases h : i < 8
  · rw [decide_eq_true h, Bool.and_true, Bool.and_true]
    show (x.toInt8.toInt32).toBitVec.getLsbD i = x.toBitVec.getLsbD i
    rw [Int8.toBitVec_toInt32, Int32.toBitVec_toInt8, BitVec.getLsbD_signExtend, BitVec.getLsbD_signExtend]
    simp [h, hi]
  · rw [decide_eq_false h, Bool.and_false, Bool.and_false])
theorem byte_n (y : Int32) : ∃ b, b < 256 ∧ y &&& 255 = nI b := by
  refine ⟨(y &&& 255).toBitVec.toNat, ?_, ?_⟩
  · rw [Int32.toBitVec_and, BitVec.toNat_and]
    exact Nat.lt_of_le_of_lt Nat.and_le_right (by decide)
  · apply Int32.toBitVec_inj.1
    show (y &&& 255).toBitVec = BitVec.ofNat 32 ((y &&& 255).toBitVec.toNat)
    rw [BitVec.ofNat_toNat, BitVec.setWidth_eq]
def xj (j : Nat) : Int32 := ([24, 16, 8, 0, -8] : List Int32).getD j 0
theorem xj_t : ∀ j, j < 4 → xj j + (-8) = xj (j + 1) ∧ ¬ xj j < 0 ∧ xj j = nI (24 - 8 * j) := by decide +kernel
section Feed
variable {t : Nat} {σ : Mm} {D H : Nat → Nat → Nat}
theorem c_36 {x : Int32} {m : Nat} (hS : Sg t σ) (h : mI σ 1 2 = nI m) (hm : m + 4 ≤ 700) : ∃ σ', Cl 36 [.ref 1, .int x] σ (none, σ') ∧ Fr (fun x i => (x = 1 ∧ i = 2) ∨ x = 2) σ σ' ∧ mI σ' 1 2 = nI (m + 4) ∧ (∀ j, j < 4 → mI σ' 2 (m + j) &&& 255 = (x >>> (nI (24 - 8 * j) &&& 31)) &&& 255) ∧ (∀ i, i < m → mI σ' 2 i = mI σ 2 i) := by
  have L : ∃ σ', Ev 36 3 [.ref 1, .int x, .int (xj 0)] [] σ (none, σ') ∧ Fr (fun x i => (x = 1 ∧ i = 2) ∨ x = 2) σ σ' ∧ mI σ' 1 2 = nI (m + 4) ∧ (∀ j, j < 4 → mI σ' 2 (m + j) &&& 255 = (x >>> (nI (24 - 8 * j) &&& 31)) &&& 255) ∧ (∀ i, i < m → mI σ' 2 i = mI σ 2 i) := by
    refine lp (fun k ξ => Fr (fun x i => (x = 1 ∧ i = 2) ∨ x = 2) σ ξ ∧ mI ξ 1 2 = nI (m + k) ∧ (∀ j, j < k → mI ξ 2 (m + j) &&& 255 = (x >>> (nI (24 - 8 * j) &&& 31)) &&& 255) ∧ (∀ i, i < m → mI ξ 2 i = mI σ 2 i)) (fun k ξ => ∃ σ', Ev 36 3 [.ref 1, .int x, .int (xj k)] [] ξ (none, σ') ∧ Fr (fun x i => (x = 1 ∧ i = 2) ∨ x = 2) σ σ' ∧ mI σ' 1 2 = nI (m + 4) ∧ (∀ j, j < 4 → mI σ' 2 (m + j) &&& 255 = (x >>> (nI (24 - 8 * j) &&& 31)) &&& 255) ∧ (∀ i, i < m → mI σ' 2 i = mI σ 2 i)) 4 ?_ ?_ (Nat.zero_le _) ⟨Fr.rf σ, h, fun j hj => absurd hj (Nat.not_lt_zero j), fun _ _ => rfl⟩
    · intro k ξ hk ⟨Fx, x2, xb, xl⟩ ih
      obtain ⟨e1, e2, e3⟩ := xj_t k hk
      obtain ⟨σ', d, r⟩ := ih (uI (uI ξ 2 (m + k) (Int32.toInt8 ((Int32.toInt8 (x >>> (xj k &&& 31))).toInt32)).toInt32) 1 2 (nI (m + (k + 1)))) ⟨(Fx.uI (Or.inr rfl)).uI (Or.inl ⟨rfl, rfl⟩), mI_s, fun j hj => by
        rw [mI_n (by omega)]
        by_cases e : j = k
        · rw [e, mI_s, lowb, lowb, e3]
        · rw [mI_n (by omega)]; exact xb j (by omega), fun i hi => by rw [mI_n (by omega), mI_n (by omega)]; exact xl i hi⟩
      refine ⟨σ', b_36_3 (Fx.sg hS) ?_, r⟩
      rw [x2, nI_clamp (by omega), e1]
      refine ⟨fun z => absurd z e2, fun _ => ⟨fun z => absurd z (nI_pos (by omega)), fun _ => pk_lt (m + k) 700 (fun _ => ⟨inb_nI (by omega) (by decide), fun σ1 q1 => ?_⟩) (fun z => absurd z (by omega)) rfl rfl (by omega) (by decide)⟩⟩
      rw [q1, mI_n (by omega), x2, nI_1]
      exact d
    · intro ξ ⟨Fx, x2, xb, xl⟩
      exact ⟨ξ, b_36_3 (Fx.sg hS) ⟨fun _ => rfl, fun z => absurd (by decide) z⟩, Fx, x2, xb, xl⟩
  obtain ⟨σ', d, r⟩ := L
  exact ⟨σ', ck_36 hS (b_36_0 hS d), r⟩
/-- which of five words -/
def wrd (a b c d e : Int32) (k : Nat) : Int32 := if k < 4 then a else if k < 8 then b else if k < 12 then c else if k < 16 then d else e
theorem m_feed {a b c d e : Int32} {m : Nat} (hS : Sg t σ) (h : mI σ 59 1 = nI m) (hm : m + 20 ≤ 700) : ∃ σ', Cl 151 [.ref 59, .int a, .int b, .int c, .int d, .int e] σ (some (.int (nI (m + 20))), σ') ∧ Fr (fun x i => (x = 59 ∧ (i = 1 ∨ i = 2)) ∨ x = 60) σ σ' ∧ mI σ' 59 1 = nI (m + 20) ∧ (∀ j, j < 20 → mI σ' 60 (m + j) = (wrd a b c d e j >>> (nI (24 - 8 * (j % 4)) &&& 31)) &&& 255) ∧ (∀ i, i < m → mI σ' 60 i = mI σ 60 i) := by
  have F0 : Fr (fun x i => (x = 59 ∧ (i = 1 ∨ i = 2)) ∨ x = 60) σ (uI σ 59 2 0) := (Fr.rf σ).uI (Or.inl ⟨rfl, Or.inr rfl⟩)
  have L : ∀ z7, ∃ σ', Ev 151 23 [.ref 59, .int a, .int b, .int c, .int d, .int e, .int (nI 0), z7] [] (uI σ 59 2 0) (some (.int (nI (m + 20))), σ') ∧ Fr (fun x i => (x = 59 ∧ (i = 1 ∨ i = 2)) ∨ x = 60) σ σ' ∧ mI σ' 59 1 = nI (m + 20) ∧ (∀ j, j < 20 → mI σ' 60 (m + j) = (wrd a b c d e j >>> (nI (24 - 8 * (j % 4)) &&& 31)) &&& 255) ∧ (∀ i, i < m → mI σ' 60 i = mI σ 60 i) := by
    refine lp (fun k ξ => Fr (fun x i => (x = 59 ∧ (i = 1 ∨ i = 2)) ∨ x = 60) σ ξ ∧ mI ξ 59 1 = nI m ∧ (∀ j, j < k → mI ξ 60 (m + j) = (wrd a b c d e j >>> (nI (24 - 8 * (j % 4)) &&& 31)) &&& 255) ∧ (∀ i, i < m → mI ξ 60 i = mI σ 60 i)) (fun k ξ => ∀ z7, ∃ σ', Ev 151 23 [.ref 59, .int a, .int b, .int c, .int d, .int e, .int (nI k), z7] [] ξ (some (.int (nI (m + 20))), σ') ∧ Fr (fun x i => (x = 59 ∧ (i = 1 ∨ i = 2)) ∨ x = 60) σ σ' ∧ mI σ' 59 1 = nI (m + 20) ∧ (∀ j, j < 20 → mI σ' 60 (m + j) = (wrd a b c d e j >>> (nI (24 - 8 * (j % 4)) &&& 31)) &&& 255) ∧ (∀ i, i < m → mI σ' 60 i = mI σ 60 i)) 20 ?_ ?_ (Nat.zero_le _) ⟨F0, by rw [mI_n (by omega)]; exact h, fun j hj => absurd hj (Nat.not_lt_zero j), fun i hi => mI_n (by omega)⟩
    · intro k ξ hk ⟨Fx, x1, xb, xl⟩ ih z7
      have Sx := Fx.sg hS
      have e8 : (24 : Int32) - 8 * (nI k - nI k / 4 * 4) = nI (24 - 8 * (k % 4)) := by
        rw [show (4 : Int32) = nI 4 from rfl, pk_rem (by omega) (by decide) (by decide), show (8 : Int32) = nI 8 from rfl, pk_mul, show (24 : Int32) = nI 24 from rfl, pk_sub (by omega)]
      obtain ⟨σ', dd, r⟩ := ih (uI ξ 60 (m + k) ((wrd a b c d e k >>> (nI (24 - 8 * (k % 4)) &&& 31)) &&& 255)) ⟨Fx.uI (Or.inr rfl), by rw [mI_n (by omega)]; exact x1, fun j hj => by
        by_cases e : j = k
        · rw [e, mI_s]
        · rw [mI_n (by omega)]; exact xb j (by omega), fun i hi => by rw [mI_n (by omega)]; exact xl i hi⟩ (.int (wrd a b c d e k))
      have go : Ev 151 76 [.ref 59, .int a, .int b, .int c, .int d, .int e, .int (nI k), z7] [.int (wrd a b c d e k)] ξ (some (.int (nI (m + 20))), σ') := by
        refine b_151_76 Sx ?_
        rw [x1, nI_add, nI_clamp (by omega), e8, nI_1]
        exact ⟨inb_nI (by omega) (by decide), fun σ1 q1 => by rw [q1]; exact dd⟩
      refine ⟨σ', b_151_23 Sx (pk_lt k 20 (fun _ => pk_lt k 4 (fun g1 => ?_) (fun g1 => pk_lt k 8 (fun g2 => ?_) (fun g2 => pk_lt k 12 (fun g3 => ?_) (fun g3 => pk_lt k 16 (fun g4 => ?_) (fun g4 => ?_))))) (fun z => absurd z (by omega))), r⟩
      · unfold wrd at go; rw [if_pos g1] at go; exact go
      · unfold wrd at go; rw [if_neg (by omega), if_pos g2] at go; exact go
      · unfold wrd at go; rw [if_neg (by omega), if_neg (by omega), if_pos g3] at go; exact go
      · unfold wrd at go; rw [if_neg (by omega), if_neg (by omega), if_neg (by omega), if_pos g4] at go; exact go
      · unfold wrd at go; rw [if_neg (by omega), if_neg (by omega), if_neg (by omega), if_neg (by omega)] at go; exact go
    · intro ξ ⟨Fx, x1, xb, xl⟩ z7
      refine ⟨uI ξ 59 1 (nI (m + 20)), b_151_23 (Fx.sg hS) (pk_lt 20 20 (fun z => absurd z (by decide)) (fun _ => ?_)), Fx.uI (Or.inl ⟨rfl, Or.inl rfl⟩), mI_s, fun j hj => by rw [mI_n (by omega)]; exact xb j hj, fun i hi => by rw [mI_n (by omega)]; exact xl i hi⟩
      rw [x1, show (20 : Int32) = nI 20 from rfl, nI_add, mI_s]
  obtain ⟨σ', dd, r⟩ := L (.retAddr 0)
  refine ⟨σ', ck_151 hS (b_151_0 hS ?_), r⟩
  rw [mI_n (by omega), h, show (20 : Int32) = nI 20 from rfl, nI_add]
  exact ⟨fun z => absurd z (nI_nlt (a := 700) (by omega) (by decide)), fun _ => dd⟩
theorem i_feed {a b c d e : Int32} (h : Inv t σ D H) : PrS 101 151 [.int a, .int b, .int c, .int d, .int e] t σ := by
  have hq := h.1
  have hS := hq.sg
  have ht := hS.tt
  obtain ⟨n, h0, h1, h2, h3, h4, h5, h6⟩ := h.2.1
  by_cases g : n + 20 ≤ 700
  · obtain ⟨s1, d1, F1, u1, v1, w1⟩ := c_36 (x := a) hS h1 (by omega)
    obtain ⟨s2, d2, F2, u2, v2, w2⟩ := c_36 (x := b) (F1.sg hS) u1 (by omega)
    have G2 := F1.tr F2
    obtain ⟨s3, d3, F3, u3, v3, w3⟩ := c_36 (x := c) (G2.sg hS) u2 (by omega)
    have G3 := G2.tr F3
    obtain ⟨s4, d4, F4, u4, v4, w4⟩ := c_36 (x := d) (G3.sg hS) u3 (by omega)
    have G4 := G3.tr F4
    obtain ⟨s5, d5, F5, u5, v5, w5⟩ := c_36 (x := e) (G4.sg hS) u4 (by omega)
    have G5 := G4.tr F5
    have S5 := G5.sg hS
    have r5 : ∀ x i, 59 ≤ x → mI s5 x i = mI σ x i := fun x i hx => (G5.1 x i (fun z => by omega)).1
    obtain ⟨s6, d6, F6, u6, v6, w6⟩ := m_feed (a := a) (b := b) (c := c) (d := d) (e := e) S5 (by rw [r5 59 1 (by omega)]; exact h2) g
    have FF : Fr (fun x i => (x = 1 ∧ i = 2) ∨ x = 2 ∨ (x = 59 ∧ (i = 1 ∨ i = 2)) ∨ x = 60) σ s6 := (G5.mono (fun x i h => by omega)).tr (F6.mono (fun x i h => by omega))
    have byt : ∀ j, j < 20 → mI s5 2 (n + j) &&& 255 = (wrd a b c d e j >>> (nI (24 - 8 * (j % 4)) &&& 31)) &&& 255 := by
      intro j hj
      rcases (show j < 4 ∨ (4 ≤ j ∧ j < 8) ∨ (8 ≤ j ∧ j < 12) ∨ (12 ≤ j ∧ j < 16) ∨ (16 ≤ j ∧ j < 20) by omega) with g1 | g1 | g1 | g1 | g1
      · rw [w5 _ (by omega), w4 _ (by omega), w3 _ (by omega), w2 _ (by omega), v1 j g1]
        unfold wrd
        rw [if_pos g1, show j % 4 = j by omega]
      · rw [w5 _ (by omega), w4 _ (by omega), w3 _ (by omega), show n + j = n + 4 + (j - 4) by omega, v2 (j - 4) (by omega)]
        unfold wrd
        rw [if_neg (by omega), if_pos (by omega), show j % 4 = j - 4 by omega]
      · rw [w5 _ (by omega), w4 _ (by omega), show n + j = n + 4 + 4 + (j - 8) by omega, v3 (j - 8) (by omega)]
        unfold wrd
        rw [if_neg (by omega), if_neg (by omega), if_pos (by omega), show j % 4 = j - 8 by omega]
      · rw [w5 _ (by omega), show n + j = n + 4 + 4 + 4 + (j - 12) by omega, v4 (j - 12) (by omega)]
        unfold wrd
        rw [if_neg (by omega), if_neg (by omega), if_neg (by omega), if_pos (by omega), show j % 4 = j - 12 by omega]
      · rw [show n + j = n + 4 + 4 + 4 + 4 + (j - 16) by omega, v5 (j - 16) (by omega)]
        unfold wrd
        rw [if_neg (by omega), if_neg (by omega), if_neg (by omega), if_neg (by omega), show j % 4 = j - 16 by omega]
    have low : ∀ i, i < n → mI s5 2 i = mI σ 2 i := fun i hi => by
      rw [w5 i (by omega), w4 i (by omega), w3 i (by omega), w2 i (by omega), w1 i hi]
    have c6 : ∀ x i, x ≤ 58 → mI s6 x i = mI s5 x i := fun x i hx => (F6.1 x i (fun z => by omega)).1
    have I2 : Inv t s6 D H := by
      obtain ⟨q, j1, j2, j3, j4⟩ := h
      refine ⟨⟨FF.sg hS, q.tt, q.2.2.1, ⟨q.ct.fr FF (fun x i a b z => by omega), q.ch.fr FF (fun x i a b z => by omega)⟩, q.mt.fr FF (fun x i a z => by omega), q.mh.fr (by decide) q.hP FF (fun x i a z => by omega), ((FF.1 59 58 (fun z => by omega)).2).trans q.nu⟩, ⟨n + 20, g, ?_, u6, ?_, ?_, fun i hi => ?_, fun i hi => ?_⟩, j2.fr q.hP FF (fun x i a z => by omega), j3.fr q.hP FF (fun x i a z => by omega), j4.fr FF (fun x i a z => by omega)⟩
      · rw [c6 1 2 (by omega)]; exact u5
      · rw [(FF.1 59 4 (fun z => by omega)).1, (FF.1 1 0 (fun z => by omega)).1]; exact h3
      · rw [(FF.1 59 5 (fun z => by omega)).1, (FF.1 1 1 (fun z => by omega)).1]; exact h4
      · rcases Nat.lt_or_ge i n with g1 | g1
        · rw [c6 2 i (by omega), low i g1, w6 i g1, r5 60 i (by omega)]
          exact h5 i g1
        · obtain ⟨bb, b1, b2⟩ := byte_n (wrd a b c d e (i - n) >>> (nI (24 - 8 * ((i - n) % 4)) &&& 31))
          have e1 := byt (i - n) (by omega)
          have e2 := v6 (i - n) (by omega)
          rw [show n + (i - n) = i by omega] at e1 e2
          exact ⟨bb, b1, by rw [c6 2 i (by omega), e1, b2], by rw [e2, b2]⟩
      · rw [(FF.1 61 i (fun z => by omega)).1]; exact h6 i hi
    refine ⟨nI (n + 20), s5, s6, t, D, H, ck_101 hS (b_101_0 hS ?_), S5, d6, I2⟩
    rw [h1, show (20 : Int32) = nI 20 from rfl, nI_add]
    refine ⟨fun z => absurd z (nI_nlt (a := 700) (by omega) (by decide)), fun _ => ⟨s1, d1, F1.sg hS, s2, d2, G2.sg hS, s3, d3, G3.sg hS, s4, d4, G4.sg hS, s5, d5, S5, ?_⟩⟩
    rw [u5]
  · have lt : (700 : Int32) < nI (n + 20) := nI_lt (a := 700) (by omega) (by omega)
    refine (PrI.mk0 hq (v := -1) (ck_101 hS (b_101_0 hS ?_)) ⟨_, ck_151 hS (b_151_0 hS ?_), wq_th⟩).st h
    · rw [h1, show (20 : Int32) = nI 20 from rfl, nI_add]
      exact ⟨fun _ => rfl, fun z => absurd lt z⟩
    · rw [mI_n (by omega), h2, show (20 : Int32) = nI 20 from rfl, nI_add]
      exact ⟨fun _ => rfl, fun z => absurd lt z⟩
end Feed
