/-! ===== questions: what stands before one, what it may change ===== -/
def Wq (x i : Nat) : Prop := (30 ≤ x ∧ x ≤ 33) ∨ (38 ≤ x ∧ x ≤ 40) ∨ (53 ≤ x ∧ x ≤ 58) ∨ (x = 49 ∧ 2 ≤ i) ∨ (x = 59 ∧ (i = 2 ∨ i = 48 ∨ (59 ≤ i ∧ i ≤ 63) ∨ i = 65)) ∨ x = 80 ∨ x = 81 ∨ (82 ≤ x ∧ x ≤ 87 ∧ i = 1) ∨ (x = 88 ∧ 14 ≤ i) ∨ ((x = 89 ∨ x = 90) ∧ 10 ≤ i) ∨ (91 ≤ x ∧ x ≤ 93) ∨ x = 95 ∨ x = 99
def Q (t : Nat) (σ : Mm) (D H : Nat → Nat → Nat) : Prop := Sg t σ ∧ (t = 3 ∨ t = 15) ∧ (WD D ∧ WH (D 1 0) H ∧ H 0 0 ≤ 9000) ∧ (CT σ t D ∧ CH σ 26 H) ∧ (MT σ D ∧ MH σ 0 (D 1 0) H ∧ mL σ 59 58 = lN (H 6 0))
section Qu
variable {t : Nat} {σ : Mm} {D H : Nat → Nat → Nat}
theorem Q.sg (h : Q t σ D H) : Sg t σ := h.1
theorem Q.tt (h : Q t σ D H) : t = 3 ∨ t = 15 := h.2.1
theorem Q.wd (h : Q t σ D H) : WD D := h.2.2.1.1
theorem Q.wh (h : Q t σ D H) : WH (D 1 0) H := h.2.2.1.2.1
theorem Q.mi (h : Q t σ D H) : H 0 0 ≤ 9000 := h.2.2.1.2.2
theorem Q.ct (h : Q t σ D H) : CT σ t D := h.2.2.2.1.1
theorem Q.ch (h : Q t σ D H) : CH σ 26 H := h.2.2.2.1.2
theorem Q.mt (h : Q t σ D H) : MT σ D := h.2.2.2.2.1
theorem Q.mh (h : Q t σ D H) : MH σ 0 (D 1 0) H := h.2.2.2.2.2.1
theorem Q.nu (h : Q t σ D H) : mL σ 59 58 = lN (H 6 0) := h.2.2.2.2.2.2
theorem Q.hL (h : Q t σ D H) : D 0 0 ≤ 14 := h.wd.1.1
theorem Q.hP (h : Q t σ D H) : D 1 0 ≤ 10 := h.wd.1.2.1
theorem Q.hb (h : Q t σ D H) : ∀ i, H 8 i < 2 ^ 14 := h.wh.2.2.2.2.2.2.2.1
theorem Q.on (h : Q t σ D H) : H 1 0 < 2 ^ 14 := h.wh.2.1
theorem Q.mties (h : Q t σ D H) : ∀ i, i < D 1 0 → mI σ 89 i = nI (H 8 i) := fun i hi => by
  have := h.mh.2.2.1 i hi
  rw [Nat.mul_zero, Nat.zero_add] at this
  exact this
theorem Q.fr {σ' : Mm} {W : Nat → Nat → Prop} (h : Q t σ D H) (hf : Fr W σ σ') (hW : ∀ x i, W x i → Wq x i) : Q t σ' D H := by
  have ht := h.tt
  refine ⟨hf.sg h.sg, h.tt, h.2.2.1, ⟨h.ct.fr hf (fun x i h1 h2 h3 => ?_), h.ch.fr hf (fun x i h1 h2 h3 => ?_)⟩, h.mt.fr hf (fun x i h1 h3 => ?_), h.mh.fr (by decide) h.hP hf (fun x i h1 h3 => ?_), ?_⟩
  · have := hW x i h3; unfold Wq at this; omega
  · have := hW x i h3; unfold Wq at this; omega
  · have := hW x i h3; unfold Wq at this; omega
  · have := hW x i h3; unfold Wq at this; omega
  · refine ((hf.1 59 58 (fun h3 => ?_)).2).trans h.nu
    have := hW 59 58 h3; unfold Wq at this; omega
theorem Q.th (h : Q t σ D H) : Q t (uI σ 59 2 0) D H := h.fr (W := Wq) ((Fr.rf σ).uI (by unfold Wq; omega)) (fun _ _ h => h)
theorem wq_th : Fr Wq σ (uI σ 59 2 0) := (Fr.rf σ).uI (by unfold Wq; omega)
theorem wq_g {x i : Nat} (h : Wg x i) : Wq x i := by unfold Wg at h; unfold Wq; omega
theorem wq_t {x i : Nat} (h : Wt x i) : Wq x i := by unfold Wt at h; unfold Wq; omega
theorem wq_1 {x i : Nat} (h : W1 x i) : Wq x i := by unfold W1 at h; unfold Wq; omega
theorem wq_r {x i : Nat} (h : Wr x i) : Wq x i := by unfold Wr at h; unfold Wq; omega
/-- both sides give the same number -/
def PrI (j k : Nat) (as : List Value) (σ : Mm) : Prop := ∃ v σ1 σ2, Cl j (.ref 0 :: as) σ (some (.int v), σ1) ∧ Fr Wq σ σ1 ∧ Cl k (.ref 59 :: as) σ1 (some (.int v), σ2) ∧ Fr Wq σ1 σ2
def PrL (j k : Nat) (as : List Value) (σ : Mm) : Prop := ∃ v σ1 σ2, Cl j (.ref 0 :: as) σ (some (.long v), σ1) ∧ Fr Wq σ σ1 ∧ Cl k (.ref 59 :: as) σ1 (some (.long v), σ2) ∧ Fr Wq σ1 σ2
theorem PrI.mk {j k : Nat} {as : List Value} {v : Int32} {σ1 : Mm} {W : Nat → Nat → Prop} (hq : Q t σ D H) (h : Cl j (.ref 0 :: as) σ (some (.int v), σ1)) (hf : Fr W σ σ1) (hW : ∀ x i, W x i → Wq x i) (hm : Q t σ1 D H → ∃ σ2, Cl k (.ref 59 :: as) σ1 (some (.int v), σ2) ∧ Fr Wq σ1 σ2) : PrI j k as σ := by
  obtain ⟨σ2, h2, f2⟩ := hm (hq.fr hf hW)
  exact ⟨v, σ1, σ2, h, hf.mono hW, h2, f2⟩
theorem PrI.mk0 {j k : Nat} {as : List Value} {v : Int32} (hq : Q t σ D H) (h : Cl j (.ref 0 :: as) σ (some (.int v), σ)) (hm : ∃ σ2, Cl k (.ref 59 :: as) σ (some (.int v), σ2) ∧ Fr Wq σ σ2) : PrI j k as σ := PrI.mk (W := Wq) hq h (Fr.rf σ) (fun _ _ h => h) (fun _ => hm)
theorem c_145 (hq : Q t σ D H) : ∃ σ', Cl 145 [.ref 0] σ (none, σ') ∧ Fr Wg σ σ' ∧ Gc (D 1 0) (fre (D 1 0) (H 3 0)) (tn (H 8) (D 1 0)) σ' := by
  obtain ⟨σ', h, f, g⟩ := c_71 (a1 := 28) (fr := nI (fre (D 1 0) (H 3 0))) (ties := H 8) hq.sg rfl hq.hP (fun i hi => hq.ch.2.2.1 i (by have := hq.hP; omega)) ⟨by decide, by decide⟩
  refine ⟨σ', ck_145 hq.sg (b_145_0 hq.sg ⟨_, _, c_21 hq.sg (Or.inl rfl) hq.tt hq.ct.1.2.1 hq.hP (hq.ch.1 3 (by decide)), hq.sg, σ', ?_, f.sg hq.sg, rfl⟩), f, ⟨hq.hP, fre_lt hq.hP, fun s => tn_lt _ (fun i _ => hq.hb i)⟩, g.many, g.free, g.tn⟩
  rw [hq.ct.1.2.1]
  exact h
theorem q_226 (hq : Q t σ D H) : ∃ σ', Cl 226 [.ref 59] σ (none, σ') ∧ Fr Wt σ σ' ∧ Gm (D 1 0) (fre (D 1 0) (H 3 0)) (tn (H 8) (D 1 0)) σ' :=
  c_226 hq.sg hq.mt.1.2.1 hq.hP hq.mh.1.2.2.1 hq.mties (fun i _ => hq.hb i)
theorem q_146 (hq : Q t σ D H) : ∃ σ', Cl 146 [.ref 0] σ (some (.int (nI (bas (fre (D 1 0) (H 3 0)) (H 8) (tn (H 8) (D 1 0)) (D 1 0)))), σ') ∧ Fr W1 σ σ' := by
  obtain ⟨σ', r, p, h, f, _⟩ := c_1 (a1 := 28) (Q := D 1 0) (P := D 1 0) (F := fre (D 1 0) (H 3 0)) (ties := H 8) hq.sg rfl ⟨by decide, by decide, by decide⟩ (Nat.le_refl _) hq.hP (fun i hi => hq.ch.2.2.1 i (by have := hq.hP; omega)) (fun i _ => hq.hb i) (Nat.lt_trans (fre_lt hq.hP) (by decide))
  refine ⟨σ', ck_146 hq.sg (b_146_0 hq.sg ⟨_, _, c_21 hq.sg (Or.inl rfl) hq.tt hq.ct.1.2.1 hq.hP (hq.ch.1 3 (by decide)), hq.sg, _, σ', ?_, f.sg hq.sg, rfl⟩), f⟩
  rw [hq.ct.1.2.1]
  exact h
theorem q_238 (hq : Q t σ D H) : ∃ σ', Cl 238 [.ref 59] σ (some (.int (nI (bas (fre (D 1 0) (H 3 0)) (H 8) (tn (H 8) (D 1 0)) (D 1 0)))), σ') ∧ Fr Wt σ σ' ∧ Gm (D 1 0) (fre (D 1 0) (H 3 0)) (tn (H 8) (D 1 0)) σ' := by
  obtain ⟨σ1, h1, f1, g1⟩ := q_226 hq
  have hq1 := hq.fr f1 (fun _ _ h => wq_t h)
  exact ⟨σ1, ck_238 hq.sg (b_238_0 hq.sg ⟨σ1, h1, hq1.sg, v_238 hq1.sg g1 hq1.mties (fun i _ => hq.hb i)⟩), f1, g1⟩
theorem lp31 {L : Nat} (h : L ≤ 14) : 2 ^ L < 2 ^ 31 := Nat.pow_lt_pow_right (by decide) (by omega)
theorem xlt {L j n : Nat} (hL : L ≤ 14) (hj : j < 2 ^ L) (hn : n < 2 ^ 14) : n ^^^ j < 2 ^ 14 := Nat.xor_lt_two_pow hn (Nat.lt_of_lt_of_le hj (Nat.pow_le_pow_right (by decide) hL))
theorem q_ways {x : Int32} (hq : Q t σ D H) : PrI 114 229 [.int x] σ := by
  rcases bad_or x (lp31 hq.hL) with h | ⟨j, hj, rfl⟩
  · refine PrI.mk0 hq (v := -1) (ck_114 hq.sg (b_114_0 hq.sg ⟨_, _, c_144n hq.sg hq.ct.1.1 (by have := hq.hL; omega) h, hq.sg, fun _ => rfl, fun z => absurd rfl z⟩)) ⟨_, ck_229 hq.sg (b_229_0 hq.sg ⟨_, _, c_201n hq.th.sg hq.th.mt.1.1 (by have := hq.hL; omega) h, hq.th.sg, fun _ => rfl, fun z => absurd rfl z⟩), wq_th⟩
  · obtain ⟨σ1, h1, f1, g1⟩ := c_145 hq
    have q1 := hq.fr f1 (fun _ _ h => wq_g h)
    have hx := xlt hq.hL hj hq.on
    refine PrI.mk hq (v := nI (fa_cnt (isW (fre (D 1 0) (H 3 0)) (tn (H 8) (D 1 0)) (H 1 0 ^^^ j)) (2 ^ D 1 0))) (ck_114 hq.sg (b_114_0 hq.sg ⟨_, _, c_144y hq.sg hq.ct.1.1 (by have := hq.hL; omega) hj, hq.sg, fun z => absurd z (by decide), fun _ => ⟨σ1, h1, q1.sg, ?_⟩⟩)) f1 (fun _ _ h => wq_g h) (fun q => ?_)
    · rw [q1.ch.1 1 (by decide), nI_xor]
      exact ⟨_, _, c_74 q1.sg g1 (by omega), q1.sg, rfl⟩
    · obtain ⟨σ2, h2, f2, g2⟩ := q_226 q.th
      have q2 := q.th.fr f2 (fun _ _ h => wq_t h)
      have hv := v_229 (x := j) (on := H 1 0) q2.sg g2 q2.mh.1.1 (by rw [Nat.xor_comm]; omega)
      rw [Nat.xor_comm j] at hv
      exact ⟨σ2, ck_229 q.sg (b_229_0 q.sg ⟨_, _, c_201y q.th.sg q.th.mt.1.1 (by have := hq.hL; omega) hj, q.th.sg, fun z => absurd z (by decide), fun _ => ⟨σ2, h2, q2.sg, hv⟩⟩), wq_th.tr (f2.mono (fun _ _ h => wq_t h))⟩
theorem q_fewest {x : Int32} (hq : Q t σ D H) : PrI 115 231 [.int x] σ := by
  rcases bad_or x (lp31 hq.hL) with h | ⟨j, hj, rfl⟩
  · refine PrI.mk0 hq (v := -1) (ck_115 hq.sg (b_115_0 hq.sg ⟨_, _, c_144n hq.sg hq.ct.1.1 (by have := hq.hL; omega) h, hq.sg, fun _ => rfl, fun z => absurd rfl z⟩)) ⟨_, ck_231 hq.sg (b_231_0 hq.sg ⟨_, _, c_201n hq.th.sg hq.th.mt.1.1 (by have := hq.hL; omega) h, hq.th.sg, fun _ => rfl, fun z => absurd rfl z⟩), wq_th⟩
  · obtain ⟨σ1, h1, f1, g1⟩ := c_145 hq
    have q1 := hq.fr f1 (fun _ _ h => wq_g h)
    have hx := xlt hq.hL hj hq.on
    refine PrI.mk hq (v := oI (-2) (bst (isW (fre (D 1 0) (H 3 0)) (tn (H 8) (D 1 0)) (H 1 0 ^^^ j)) pcn (2 ^ D 1 0))) (ck_115 hq.sg (b_115_0 hq.sg ⟨_, _, c_144y hq.sg hq.ct.1.1 (by have := hq.hL; omega) hj, hq.sg, fun z => absurd z (by decide), fun _ => ⟨σ1, h1, q1.sg, ?_⟩⟩)) f1 (fun _ _ h => wq_g h) (fun q => ?_)
    · rw [q1.ch.1 1 (by decide), nI_xor]
      exact ⟨_, _, c_75 q1.sg g1 (by omega), q1.sg, rfl⟩
    · obtain ⟨σ2, h2, f2, g2⟩ := q_226 q.th
      have q2 := q.th.fr f2 (fun _ _ h => wq_t h)
      refine ⟨σ2, ck_231 q.sg (b_231_0 q.sg ⟨_, _, c_201y q.th.sg q.th.mt.1.1 (by have := hq.hL; omega) hj, q.th.sg, fun z => absurd z (by decide), fun _ => ⟨σ2, h2, q2.sg, ?_⟩⟩), wq_th.tr (f2.mono (fun _ _ h => wq_t h))⟩
      have e82 : mI σ2 82 0 = nI (H 1 0) := q2.mh.1.1
      rw [e82, nI_xor, Nat.xor_comm]
      exact ⟨_, _, c_230 q2.sg g2 (by omega), q2.sg, rfl⟩
end Qu
