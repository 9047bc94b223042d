/-! ===== questions: sums, the game, twins, what stays, one more knot ===== -/
section Q2
variable {t : Nat} {σ : Mm} {D H : Nat → Nat → Nat}
theorem sub_bas_le {F a k : Nat} {ties tz : Nat → Nat} (ha : a &&& bas F ties tz k = a) : ∀ n, k ≤ n → a &&& bas F ties tz n = a := by
  intro n hn
  induction n with
  | zero => have : k = 0 := by omega
            subst this; exact ha
  | succ n ih =>
    rcases Nat.lt_or_ge n k with g | g
    · have : k = n + 1 := by omega
      subst this; exact ha
    · exact sub_bas (ih g)
theorem q_sumOf {x : Int32} (hq : Q t σ D H) : PrI 120 240 [.int x] σ := by
  have hP := hq.hP
  have hP2 := p2_le hq.hP
  rcases bad_or x (show D 1 0 < 2 ^ 31 by omega) with h | ⟨p, hp, rfl⟩
  · exact PrI.mk0 hq (v := -1) (ck_120 hq.sg (b_120_0 hq.sg ⟨_, _, c_143n hq.sg hq.ct.1.2.1 h, hq.sg, fun _ => rfl, fun z => absurd rfl z⟩)) ⟨_, ck_240 hq.sg (b_240_0 hq.sg ⟨_, _, c_200n hq.th.sg hq.th.mt.1.2.1 h, hq.th.sg, fun _ => rfl, fun z => absurd rfl z⟩), wq_th⟩
  have c21 := c_21 hq.sg (Or.inl rfl) hq.tt hq.ct.1.2.1 hq.hP (hq.ch.1 3 (by decide))
  have hF := fre_lt (K := H 3 0) hq.hP
  have hB := bas_le (F := fre (D 1 0) (H 3 0)) (ties := H 8) (tz := tn (H 8) (D 1 0)) (k := D 1 0)
  have hbit : (bas (fre (D 1 0) (H 3 0)) (H 8) (tn (H 8) (D 1 0)) (D 1 0)).testBit p = ((fre (D 1 0) (H 3 0)).testBit p && !(spb (fre (D 1 0) (H 3 0)) (tn (H 8) (D 1 0)) p (H 8 p))) := by
    rw [bas_bit, decide_eq_true hp, Bool.true_and]
  -- the second side's end
  have mo : ∀ v, (∀ σ2, Q t σ2 D H → Gm (D 1 0) (fre (D 1 0) (H 3 0)) (tn (H 8) (D 1 0)) σ2 → ((bas (fre (D 1 0) (H 3 0)) (H 8) (tn (H 8) (D 1 0)) (D 1 0)).testBit p = true → v = -2) ∧ ((bas (fre (D 1 0) (H 3 0)) (H 8) (tn (H 8) (D 1 0)) (D 1 0)).testBit p = false → ((fre (D 1 0) (H 3 0)).testBit p = false → v = -2) ∧ ((fre (D 1 0) (H 3 0)).testBit p = true → Ev 240 44 [.ref 59, .int (nI p), .int (nI (bas (fre (D 1 0) (H 3 0)) (H 8) (tn (H 8) (D 1 0)) (D 1 0))), .int 0] [] σ2 (some (.int v), σ2)))) → ∀ σ1, Q t σ1 D H → ∃ σ2, Cl 240 [.ref 59, .int (nI p)] σ1 (some (.int v), σ2) ∧ Fr Wq σ1 σ2 := by
    intro v hv σ1 q
    obtain ⟨σ2, h2, f2, g2⟩ := q_238 q.th
    have q2 := q.th.fr f2 (fun _ _ h => wq_t h)
    obtain ⟨v1, v2⟩ := hv σ2 q2 g2
    refine ⟨σ2, ck_240 q.sg (b_240_0 q.sg ⟨_, _, c_200y q.th.sg q.th.mt.1.2.1 (by omega) hp, q.th.sg, fun z => absurd z n10, fun _ => ⟨_, _, h2, q2.sg, _, _, c_153 q2.sg (by omega) (by omega), q2.sg, w_b (fun z => ?_) (fun z => ?_)⟩⟩), wq_th.tr (f2.mono (fun _ _ h => wq_t h))⟩
    · rw [g2.free]
      refine ⟨_, _, c_153 q2.sg (by omega) (by omega), q2.sg, w_b (fun y => ?_) (fun y => (v2 z).2 y)⟩
      rw [(v2 z).1 y]
    · rw [v1 z]
  cases hf : (fre (D 1 0) (H 3 0)).testBit p with
  | false =>
    refine PrI.mk0 hq (v := -2) (ck_120 hq.sg (b_120_0 hq.sg ⟨_, _, c_143y hq.sg hq.ct.1.2.1 (by omega) hp, hq.sg, fun z => absurd z n10, fun _ => ⟨_, _, c21, hq.sg, bitc (by omega) (by omega) (fun _ => rfl) (fun z => absurd z (by rw [hf]; decide))⟩⟩)) (mo _ (fun σ2 q2 g2 => ⟨fun _ => rfl, fun _ => ⟨fun _ => rfl, fun z => absurd z (by rw [hf]; decide)⟩⟩) σ hq)
  | true =>
    obtain ⟨σ1, r, pp, h1, f1, hR⟩ := c_1 (a1 := 28) (Q := p) (P := D 1 0) (F := fre (D 1 0) (H 3 0)) (ties := H 8) hq.sg rfl ⟨by decide, by decide, by decide⟩ (by omega) hq.hP (fun i hi => hq.ch.2.2.1 i (by omega)) (fun i _ => hq.hb i) (by omega)
    have q1 := hq.fr f1 (fun _ _ h => wq_1 h)
    obtain ⟨σ3, h3, f3⟩ := c_2 (v := H 8 p) q1.sg hR (hq.hb p)
    have F : Fr Wq σ σ3 := (f1.mono (fun _ _ h => wq_1 h)).tr (f3.mono (fun _ _ h => wq_r h))
    obtain ⟨R1, R2, R3, R4, R5, R6⟩ := hR
    have hred : red r 14 (H 8 p) = 0 ↔ spb (fre (D 1 0) (H 3 0)) (tn (H 8) (D 1 0)) p (H 8 p) = true := by
      rw [red_z R1, R6, spb_iff]
    refine PrI.mk hq (v := if red r 14 (H 8 p) = 0 then nI (rdu r pp 14 (H 8 p) 0) else -2) (ck_120 hq.sg (b_120_0 hq.sg ⟨_, _, c_143y hq.sg hq.ct.1.2.1 (by omega) hp, hq.sg, fun z => absurd z n10, fun _ => ⟨_, _, c21, hq.sg, bitc (by omega) (by omega) (fun z => absurd z (by rw [hf]; decide)) (fun _ => ⟨_, σ1, h1, q1.sg, inb_nI (by omega) (by decide), ?_⟩)⟩⟩)) F (fun _ _ h => h) (fun q => mo _ (fun σ2 q2 g2 => ⟨fun z => ?_, fun z => ⟨fun y => absurd hf (by rw [y]; decide), fun _ => ?_⟩⟩) σ3 q)
    · rw [nI_clamp (by omega), q1.ch.2.2.1 p (by omega)]
      exact ⟨_, σ3, h3, (F.sg hq.sg), rfl⟩
    · rw [hbit, hf, Bool.true_and, Bool.not_eq_true'] at z
      rw [if_neg (fun y => by rw [hred.mp y] at z; cases z)]
    · rw [hbit, hf, Bool.true_and, Bool.not_eq_false'] at z
      have hr0 := hred.mpr z
      rw [if_pos hr0]
      have e1 := rdu_inv (r := r) (p := pp) (tz := tn (H 8) (D 1 0)) (u := 0) rfl R4 14 (H 8 p)
      rw [hr0, tn_z, Nat.xor_zero, Nat.zero_xor] at e1
      obtain ⟨e2, e3⟩ := rdu_sub (r := r) R5 14 (H 8 p) 0 ⟨Nat.zero_and _, Nat.two_pow_pos _⟩
      exact v_240 q2.sg g2 (q2.mties p hp) hp (hq.hb p) (Nat.lt_trans e3 (Nat.pow_lt_pow_right (by decide) hp)) (sub_bas_le e2 _ (by omega)) e1
theorem wq_go {x i : Nat} (h : Wgo x i) : Wq x i := by unfold Wgo at h; unfold Wq; omega
theorem wq_w {x i : Nat} (h : Ww x i) : Wq x i := by unfold Ww at h; unfold Wq; omega
theorem q_game {x : Int32} (hq : Q t σ D H) : PrI 128 251 [.int x] σ := by
  by_cases hy : x < 0 ∨ 1 < x
  · exact PrI.mk0 hq (v := -1) (ck_128 hq.sg (b_128_0 hq.sg (w_rb hy rfl))) ⟨_, ck_251 hq.sg (b_251_0 hq.sg ⟨_, _, c_152n hq.th.sg hy, hq.th.sg, fun _ => rfl, fun z => absurd rfl z⟩), wq_th⟩
  have hP := hq.hP
  have hP2 := p2_le hq.hP
  have hon := hq.on
  have hF := fre_lt (K := H 3 0) hq.hP
  have hFP := fre_P (P := D 1 0) (K := H 3 0)
  have c21 := c_21 hq.sg (Or.inl rfl) hq.tt hq.ct.1.2.1 hq.hP (hq.ch.1 3 (by decide))
  -- the second side's worths
  have mo : ∀ σ1, Q t σ1 D H → ∃ σ2, Cl 250 [.ref 59] (uI σ1 59 2 0) (none, σ2) ∧ Fr Wq σ1 σ2 ∧ Q t σ2 D H ∧ Gm (D 1 0) (fre (D 1 0) (H 3 0)) (tn (H 8) (D 1 0)) σ2 ∧ ∀ s, s < 2 ^ D 1 0 → mI σ2 93 s = mv (ar (fre (D 1 0) (H 3 0)) (H 1 0) (tn (H 8) (D 1 0)) (2 ^ D 1 0) (2 ^ D 1 0) s) := by
    intro σ1 q
    obtain ⟨σ2, h2, f2, g2⟩ := q_226 q.th
    have q2 := q.th.fr f2 (fun _ _ h => wq_t h)
    obtain ⟨σ3, h3, f3, e3⟩ := v_250 (on := H 1 0) q2.sg g2 hFP q2.mh.1.1 (by omega)
    have q3 := q2.fr f3 (fun _ _ h => wq_w h)
    refine ⟨σ3, ck_250 q.th.sg (b_250_0 q.th.sg ⟨σ2, h2, q2.sg, ?_⟩), (wq_th.tr (f2.mono (fun _ _ h => wq_t h))).tr (f3.mono (fun _ _ h => wq_w h)), q3, ?_, e3⟩
    · rw [g2.many]; exact h3 _ _ _
    · have r : ∀ x i, (x = 59 ∨ x = 91) → mI σ3 x i = mI σ2 x i := fun x i h => (f3.1 x i (by unfold Ww; omega)).1
      refine ⟨g2.1, ?_, ?_, fun s hs => ?_⟩
      · rw [r 59 13 (Or.inl rfl)]; exact g2.2.1
      · rw [r 59 65 (Or.inl rfl)]; exact g2.2.2.1
      · rw [r 91 s (Or.inr rfl)]; exact g2.2.2.2 s hs
  have z0 : ∀ {n : Nat}, n < 2 ^ 31 → (nI n = 0 ↔ n = 0) := fun h => nI_i0 h
  by_cases hz : H 1 0 = 0 ∨ fre (D 1 0) (H 3 0) = 0
  · refine PrI.mk0 hq (v := if x = 0 then 2 else -2) (ck_128 hq.sg (b_128_0 hq.sg (w_rg hy ⟨_, _, c21, hq.sg, ?_⟩))) ?_
    · rw [hq.ch.1 1 (by decide)]
      refine w_p (z0 (by omega)) (fun _ => ⟨fun z => by rw [if_pos z], fun z => by rw [if_neg z]⟩) (fun y => w_p (z0 (by omega)) (fun _ => ⟨fun z => by rw [if_pos z], fun z => by rw [if_neg z]⟩) (fun w => absurd hz (fun q => q.elim y w)))
    · obtain ⟨σ2, h2, f2, q2, g2, e2⟩ := mo σ hq
      refine ⟨σ2, ck_251 hq.sg (b_251_0 hq.sg ⟨_, _, c_152y hq.th.sg hy, hq.th.sg, fun z => absurd z n10, fun _ => ⟨σ2, h2, q2.sg, ?_⟩⟩), f2⟩
      rw [show mI σ2 82 0 = nI (H 1 0) from q2.mh.1.1, g2.free]
      exact w_p (z0 (by omega)) (fun _ => ⟨fun z => by rw [if_pos z], fun z => by rw [if_neg z]⟩) (fun y => w_p (z0 (by omega)) (fun _ => ⟨fun z => by rw [if_pos z], fun z => by rw [if_neg z]⟩) (fun w => absurd hz (fun q => q.elim y w)))
  · have hn1 : H 1 0 ≠ 0 := fun z => hz (Or.inl z)
    have hn2 : fre (D 1 0) (H 3 0) ≠ 0 := fun z => hz (Or.inr z)
    obtain ⟨σ1, h1, f1, g1⟩ := c_145 hq
    have q1 := hq.fr f1 (fun _ _ h => wq_g h)
    obtain ⟨σ3, h3, f3, e3⟩ := c_83 (on := H 1 0) q1.sg g1 hFP (by omega)
    have q3 := q1.fr f3 (fun _ _ h => wq_go h)
    have F : Fr Wq σ σ3 := (f1.mono (fun _ _ h => wq_g h)).tr (f3.mono (fun _ _ h => wq_go h))
    have g3 : Gc (D 1 0) (fre (D 1 0) (H 3 0)) (tn (H 8) (D 1 0)) σ3 := by
      have r : ∀ x i, (x = 53 ∨ x = 54) → mI σ3 x i = mI σ1 x i := fun x i h => (f3.1 x i (by unfold Wgo; omega)).1
      refine ⟨g1.1, ?_, ?_, fun s hs => ?_⟩
      · rw [r 53 0 (Or.inl rfl)]; exact g1.2.1
      · rw [r 53 2 (Or.inl rfl)]; exact g1.2.2.1
      · rw [r 54 s (Or.inr rfl)]; exact g1.2.2.2 s hs
    have hex := fpl_ex (tz := tn (H 8) (D 1 0)) (on := H 1 0) hq.hP hFP hn2
    have hal := ar_le (F := fre (D 1 0) (H 3 0)) (on := H 1 0) (N := 2 ^ D 1 0) (tz := tn (H 8) (D 1 0)) (2 ^ D 1 0)
    generalize hA : ar (fre (D 1 0) (H 3 0)) (H 1 0) (tn (H 8) (D 1 0)) (2 ^ D 1 0) (2 ^ D 1 0) = A at h3 e3 hex mo hal
    have a0 := hal 0
    refine PrI.mk hq (v := if x = 0 then (if A 0 = 2 then 0 else if A 0 = 1 then 2 else 1) else nI (fa_first (fpl (fre (D 1 0) (H 3 0)) (H 1 0) (tn (H 8) (D 1 0)) A (A 0)) (D 1 0))) (ck_128 hq.sg (b_128_0 hq.sg (w_rg hy ⟨_, _, c21, hq.sg, ?_⟩))) F (fun _ _ h => h) (fun q => ?_)
    · rw [hq.ch.1 1 (by decide)]
      refine w_p (z0 (by omega)) (fun z => absurd z hn1) (fun _ => w_p (z0 (by omega)) (fun z => absurd z hn2) (fun _ => ⟨σ1, h1, q1.sg, ?_⟩))
      rw [q1.ch.1 1 (by decide)]
      refine ⟨_, σ3, h3, q3.sg, fun z => ?_, fun z => ?_⟩
      · rw [q3.ch.1 1 (by decide)]
        refine ⟨_, σ3, c_86 q3.sg g3 hFP (by omega) a0 e3 hal hex, q3.sg, ?_⟩
        rw [z]; rfl
      · have x0 : x = 0 := by
          obtain ⟨m, hm, rfl⟩ := nI_of (fun z => hy (Or.inl z))
          have : ¬ 1 < m := fun w => hy (Or.inr (nI_lt (a := 1) w hm))
          have : m ≠ 1 := fun w => z (by rw [w]; rfl)
          have : m = 0 := by omega
          rw [this]; rfl
        rw [if_pos x0]
        rcases (show A 0 = 0 ∨ A 0 = 1 ∨ A 0 = 2 by omega) with e | e | e <;> rw [e]
        · exact ⟨fun _ => rfl, fun z => absurd z (by decide), fun z => absurd rfl z.1⟩
        · exact ⟨fun z => absurd z (by decide), fun z => absurd z (by decide), fun _ => rfl⟩
        · exact ⟨fun z => absurd z (by decide), fun _ => rfl, fun z => absurd rfl z.2⟩
    · obtain ⟨σ2, h2, f2, q2, g2, e2⟩ := mo σ3 q
      refine ⟨σ2, ck_251 q.sg (b_251_0 q.sg ⟨_, _, c_152y q.th.sg hy, q.th.sg, fun z => absurd z n10, fun _ => ⟨σ2, h2, q2.sg, ?_⟩⟩), f2⟩
      rw [show mI σ2 82 0 = nI (H 1 0) from q2.mh.1.1, g2.free]
      refine w_p (z0 (by omega)) (fun z => absurd z hn1) (fun _ => w_p (z0 (by omega)) (fun z => absurd z hn2) (fun _ => ⟨fun z => ?_, fun z => ?_⟩))
      · rw [if_pos z, e2 0 (Nat.two_pow_pos _)]
        rcases (show A 0 = 0 ∨ A 0 = 1 ∨ A 0 = 2 by omega) with e | e | e <;> rw [e]
        · exact ⟨fun z => absurd z (by decide), fun _ => ⟨fun z => absurd z (by decide), fun _ => rfl⟩⟩
        · exact ⟨fun z => absurd z (by decide), fun _ => ⟨fun _ => rfl, fun z => absurd (by decide) z⟩⟩
        · exact ⟨fun _ => rfl, fun z => absurd (by decide) z⟩
      · rw [if_neg z]
        exact v_251 q2.sg g2 q2.mh.1.1 (by omega) e2 hal hex
theorem td_lt {ties : Nat → Nat} {l : Nat} : tdl ties l 10 < 2 ^ 10 := bitsOf_lt _ 10
theorem q_204 {l : Nat} (hq : Q t σ D H) (hl : l < 14) (hf : mI σ 59 65 = nI (fre (D 1 0) (H 3 0))) : Cl 204 [.ref 59, .int 0, .int (nI l), .int (mI σ 59 65)] σ (some (.int (nI (tdl (H 8) l 10 &&& fre (D 1 0) (H 3 0)))), σ) := by
  have hF := fre_lt (K := H 3 0) hq.hP
  have h := c_204 (t := t) (b := 0) (l := l) (o := fre (D 1 0) (H 3 0)) (P := D 1 0) (ties := H 8) hq.sg (by decide) (by omega) (by omega) hq.mt.1.2.1 hq.hP hq.mh.2.2.1 (fun i _ => hq.hb i)
  rw [tdo_eq hq.hP hq.wh.2.2.2.2.2.2.2.2.2] at h
  rw [hf]
  exact h
theorem q_twins {x : Int32} (hq : Q t σ D H) : PrI 123 243 [.int x] σ := by
  have hL := hq.hL
  rcases bad_or x (show D 0 0 < 2 ^ 31 by omega) with h | ⟨l, hl, rfl⟩
  · exact PrI.mk0 hq (v := -1) (ck_123 hq.sg (b_123_0 hq.sg ⟨_, _, c_142n hq.sg hq.ct.1.1 h, hq.sg, fun _ => rfl, fun z => absurd rfl z⟩)) ⟨_, ck_243 hq.sg (b_243_0 hq.sg ⟨_, _, c_199n hq.th.sg hq.th.mt.1.1 h, hq.th.sg, fun _ => rfl, fun z => absurd rfl z⟩), wq_th⟩
  have c21 := c_21 hq.sg (Or.inl rfl) hq.tt hq.ct.1.2.1 hq.hP (hq.ch.1 3 (by decide))
  have hF := fre_lt (K := H 3 0) hq.hP
  have c22 : ∀ k, k < 14 → Cl 22 [.ref 26, .int (nI k)] σ (some (.int (nI (tdl (H 8) k 10))), σ) := fun k hk => c_22 hq.sg (Or.inl rfl) (by omega) hq.ch.2.2.1 (fun i _ => hq.hb i)
  have hlt : ∀ k, tdl (H 8) k 10 &&& fre (D 1 0) (H 3 0) < 2 ^ 31 := fun k => Nat.lt_of_le_of_lt Nat.and_le_right (by omega)
  let c : Nat → Bool := fun k => decide (k ≠ l) && decide (tdl (H 8) k 10 &&& fre (D 1 0) (H 3 0) = tdl (H 8) l 10 &&& fre (D 1 0) (H 3 0))
  have cy : ∀ k, k ≠ l → (tdl (H 8) k 10 &&& fre (D 1 0) (H 3 0) = tdl (H 8) l 10 &&& fre (D 1 0) (H 3 0)) → c k = true := fun k h1 h2 => by
    show (decide _ && decide _) = true
    rw [decide_eq_true h1, decide_eq_true h2]; rfl
  have cn : ∀ k, (k = l ∨ ¬ (tdl (H 8) k 10 &&& fre (D 1 0) (H 3 0) = tdl (H 8) l 10 &&& fre (D 1 0) (H 3 0))) → c k = false := fun k h => by
    show (decide _ && decide _) = false
    rcases h with h | h
    · rw [decide_eq_false (fun z => z h)]; rfl
    · rw [decide_eq_false h, Bool.and_false]
  refine PrI.mk0 hq (v := nI (bitsOf c (D 0 0))) (ck_123 hq.sg (b_123_0 hq.sg ⟨_, _, c_142y hq.sg hq.ct.1.1 (by omega) hl, hq.sg, fun z => absurd z n10, fun _ => ⟨_, _, c21, hq.sg, _, _, c22 l (by omega), hq.sg, ?_⟩⟩)) ?_
  · rw [fa_and]
    refine up_to (fun k => Ev 123 39 [.ref 0, .int (nI l), .int (nI (fre (D 1 0) (H 3 0))), .int (nI (tdl (H 8) l 10 &&& fre (D 1 0) (H 3 0))), .int (nI (bitsOf c k)), .int (nI k)] [] σ (some (.int (nI (bitsOf c (D 0 0)))), σ)) (D 0 0) ?_ ?_ 0 (Nat.zero_le _)
    · intro k hk ih
      refine b_123_39 hq.sg ?_
      rw [hq.ct.1.1, nI_1]
      refine pk_lt k (D 0 0) (fun _ => w_p (nI_eq (by omega) (by omega)) (fun z => ?_) (fun z => ⟨_, _, c22 k (by omega), hq.sg, ?_⟩)) (fun z => absurd z (by omega)) rfl rfl (by omega) (by omega)
      · rw [← bitsOf_no (cn k (Or.inl z))] at ih; exact ih
      · rw [fa_and]
        refine w_p (nI_eq (hlt k) (hlt l)) (fun w => ?_) (fun w => ?_)
        · rw [nI_one (by omega), fa_or, bitsOf_or (cy k z w)]; exact ih
        · rw [← bitsOf_no (cn k (Or.inr w))] at ih; exact ih
    · refine b_123_39 hq.sg ?_
      rw [hq.ct.1.1]
      exact pk_lt (D 0 0) (D 0 0) (fun z => absurd z (Nat.lt_irrefl _)) (fun _ => rfl) rfl rfl (by omega) (by omega)
  · obtain ⟨σ2, h2, f2, g2⟩ := q_226 hq.th
    have q2 := hq.th.fr f2 (fun _ _ h => wq_t h)
    refine ⟨σ2, ck_243 hq.sg (b_243_0 hq.sg ⟨_, _, c_199y hq.th.sg hq.th.mt.1.1 (by omega) hl, hq.th.sg, fun z => absurd z n10, fun _ => ⟨σ2, h2, q2.sg, ?_⟩⟩), wq_th.tr (f2.mono (fun _ _ h => wq_t h))⟩
    refine up_to (fun k => Ev 243 23 [.ref 59, .int (nI l), .int (nI (bitsOf c k)), .int (nI k)] [] σ2 (some (.int (nI (bitsOf c (D 0 0)))), σ2)) (D 0 0) ?_ ?_ 0 (Nat.zero_le _)
    · intro k hk ih
      refine b_243_23 q2.sg ?_
      rw [q2.mt.1.1, nI_1, or0]
      refine pk_lt k (D 0 0) (fun _ => w_p (nI_eq (by omega) (by omega)) (fun z => ?_) (fun z => ⟨_, _, q_204 q2 (by omega) g2.free, q2.sg, _, _, q_204 q2 (by omega) g2.free, q2.sg, w_p (nI_eq (hlt k) (hlt l)) (fun w => ?_) (fun w => ?_)⟩)) (fun z => absurd z (by omega)) rfl rfl (by omega) (by omega)
      · rw [← bitsOf_no (cn k (Or.inl z))] at ih; exact ih
      · rw [nI_one (by omega), fa_or, bitsOf_or (cy k z w)]; exact ih
      · rw [← bitsOf_no (cn k (Or.inr w))] at ih; exact ih
    · refine b_243_23 q2.sg ?_
      rw [q2.mt.1.1]
      exact pk_lt (D 0 0) (D 0 0) (fun z => absurd z (Nat.lt_irrefl _)) (fun _ => rfl) rfl rfl (by omega) (by omega)
theorem q_fixed (hq : Q t σ D H) : PrI 124 244 [] σ := by
  have hL := hq.hL
  have c21 := c_21 hq.sg (Or.inl rfl) hq.tt hq.ct.1.2.1 hq.hP (hq.ch.1 3 (by decide))
  have hF := fre_lt (K := H 3 0) hq.hP
  have c22 : ∀ k, k < 14 → Cl 22 [.ref 26, .int (nI k)] σ (some (.int (nI (tdl (H 8) k 10))), σ) := fun k hk => c_22 hq.sg (Or.inl rfl) (by omega) hq.ch.2.2.1 (fun i _ => hq.hb i)
  have hlt : ∀ k, tdl (H 8) k 10 &&& fre (D 1 0) (H 3 0) < 2 ^ 31 := fun k => Nat.lt_of_le_of_lt Nat.and_le_right (by omega)
  let c : Nat → Bool := fun k => decide (tdl (H 8) k 10 &&& fre (D 1 0) (H 3 0) = 0)
  refine PrI.mk0 hq (v := nI (bitsOf c (D 0 0))) (ck_124 hq.sg (b_124_0 hq.sg ⟨_, _, c21, hq.sg, ?_⟩)) ?_
  · refine up_to (fun k => Ev 124 16 [.ref 0, .int (nI (fre (D 1 0) (H 3 0))), .int (nI (bitsOf c k)), .int (nI k)] [] σ (some (.int (nI (bitsOf c (D 0 0)))), σ)) (D 0 0) ?_ ?_ 0 (Nat.zero_le _)
    · intro k hk ih
      refine b_124_16 hq.sg ?_
      rw [hq.ct.1.1, nI_1]
      refine pk_lt k (D 0 0) (fun _ => ⟨_, _, c22 k (by omega), hq.sg, ?_⟩) (fun z => absurd z (by omega)) rfl rfl (by omega) (by omega)
      rw [fa_and]
      refine w_p (nI_i0 (hlt k)) (fun w => ?_) (fun w => ?_)
      · rw [nI_one (by omega), fa_or, bitsOf_or (c := c) (decide_eq_true w)]; exact ih
      · rw [← bitsOf_no (c := c) (decide_eq_false w)] at ih; exact ih
    · refine b_124_16 hq.sg ?_
      rw [hq.ct.1.1]
      exact pk_lt (D 0 0) (D 0 0) (fun z => absurd z (Nat.lt_irrefl _)) (fun _ => rfl) rfl rfl (by omega) (by omega)
  · obtain ⟨σ2, h2, f2, g2⟩ := q_226 hq.th
    have q2 := hq.th.fr f2 (fun _ _ h => wq_t h)
    refine ⟨σ2, ck_244 hq.sg (b_244_0 hq.sg ⟨σ2, h2, q2.sg, ?_⟩), wq_th.tr (f2.mono (fun _ _ h => wq_t h))⟩
    refine up_to (fun k => Ev 244 13 [.ref 59, .int (nI (bitsOf c k)), .int (nI k)] [] σ2 (some (.int (nI (bitsOf c (D 0 0)))), σ2)) (D 0 0) ?_ ?_ 0 (Nat.zero_le _)
    · intro k hk ih
      refine b_244_13 q2.sg ?_
      rw [q2.mt.1.1, nI_1, or0]
      refine pk_lt k (D 0 0) (fun _ => ⟨_, _, q_204 q2 (by omega) g2.free, q2.sg, w_p (nI_i0 (hlt k)) (fun w => ?_) (fun w => ?_)⟩) (fun z => absurd z (by omega)) rfl rfl (by omega) (by omega)
      · rw [nI_one (by omega), fa_or, bitsOf_or (c := c) (decide_eq_true w)]; exact ih
      · rw [← bitsOf_no (c := c) (decide_eq_false w)] at ih; exact ih
    · refine b_244_13 q2.sg ?_
      rw [q2.mt.1.1]
      exact pk_lt (D 0 0) (D 0 0) (fun z => absurd z (Nat.lt_irrefl _)) (fun _ => rfl) rfl rfl (by omega) (by omega)
end Q2
