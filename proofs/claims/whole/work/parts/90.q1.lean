/-! ===== questions about sets of pulls ===== -/
section Q1
variable {t : Nat} {σ : Mm} {D H : Nat → Nat → Nat}
theorem w_rb {x b : Int32} {A B : Prop} (h : x < 0 ∨ b < x) (hA : A) : (x < 0 → A) ∧ (¬ x < 0 → (b < x → A) ∧ (¬ b < x → B)) :=
  ⟨fun _ => hA, fun z => ⟨fun _ => hA, fun y => absurd h (fun q => q.elim z y)⟩⟩
theorem w_rg {x b : Int32} {A B : Prop} (h : ¬ (x < 0 ∨ b < x)) (hB : B) : (x < 0 → A) ∧ (¬ x < 0 → (b < x → A) ∧ (¬ b < x → B)) :=
  ⟨fun z => absurd (Or.inl z) h, fun _ => ⟨fun z => absurd (Or.inr z) h, fun _ => hB⟩⟩
theorem c_152n {x a b : Int32} (hS : Sg t σ) (h : x < a ∨ b < x) : Cl 152 [.int x, .int a, .int b] σ (some (.int 0), σ) := by
  have := c_152 (x := x) (a := a) (b := b) hS
  rw [if_pos h] at this
  exact this
theorem c_152y {x a b : Int32} (hS : Sg t σ) (h : ¬ (x < a ∨ b < x)) : Cl 152 [.int x, .int a, .int b] σ (some (.int 1), σ) := by
  have := c_152 (x := x) (a := a) (b := b) hS
  rw [if_neg h] at this
  exact this
theorem h31 (hq : Q t σ D H) : D 0 0 < 31 := by have := hq.hL; omega
theorem n10 : ¬ (1 : Int32) = 0 := by decide
theorem q_cheapest {x y : Int32} (hq : Q t σ D H) : PrI 116 232 [.int x, .int y] σ := by
  rcases bad_or x (lp31 hq.hL) with h | ⟨j, hj, rfl⟩
  · exact PrI.mk0 hq (v := -1) (ck_116 hq.sg (b_116_0 hq.sg ⟨_, _, c_144n hq.sg hq.ct.1.1 (h31 hq) h, hq.sg, fun _ => rfl, fun z => absurd rfl z⟩)) ⟨_, ck_232 hq.sg (b_232_0 hq.sg ⟨_, _, c_201n hq.th.sg hq.th.mt.1.1 (h31 hq) h, hq.th.sg, fun _ => rfl, fun z => absurd rfl z⟩), wq_th⟩
  by_cases hy : y < 0 ∨ 1 < y
  · exact PrI.mk0 hq (v := -1) (ck_116 hq.sg (b_116_0 hq.sg ⟨_, _, c_144y hq.sg hq.ct.1.1 (h31 hq) hj, hq.sg, fun z => absurd z n10, fun _ => w_rb hy rfl⟩)) ⟨_, ck_232 hq.sg (b_232_0 hq.sg ⟨_, _, c_201y hq.th.sg hq.th.mt.1.1 (h31 hq) hj, hq.th.sg, fun z => absurd z n10, fun _ => ⟨_, _, c_152n hq.th.sg hy, hq.th.sg, fun _ => rfl, fun z => absurd rfl z⟩⟩), wq_th⟩
  obtain ⟨σ1, h1, f1, g1⟩ := c_145 hq
  have q1 := hq.fr f1 (fun _ _ h => wq_g h)
  have hx := xlt hq.hL hj hq.on
  have hP2 := p2_le hq.hP
  refine PrI.mk hq (v := chp (fun s => cst (D 10) s (D 1 0)) (decide (y = 0)) (bst (isW (fre (D 1 0) (H 3 0)) (tn (H 8) (D 1 0)) (H 1 0 ^^^ j)) (fun s => cst (D 10) s (D 1 0)) (2 ^ D 1 0))) (ck_116 hq.sg (b_116_0 hq.sg ⟨_, _, c_144y hq.sg hq.ct.1.1 (h31 hq) hj, hq.sg, fun z => absurd z n10, fun _ => w_rg hy ⟨σ1, h1, q1.sg, ?_⟩⟩)) f1 (fun _ _ h => wq_g h) (fun q => ?_)
  · rw [q1.ch.1 1 (by decide), nI_xor]
    refine ⟨_, _, c_77 q1.sg g1 q1.tt q1.ct.1.2.1 q1.ct.2.2.2.2.2.2.1 hq.wd.2.1 (by omega), q1.sg, ?_⟩
    cases eb : bst (isW (fre (D 1 0) (H 3 0)) (tn (H 8) (D 1 0)) (H 1 0 ^^^ j)) (fun s => cst (D 10) s (D 1 0)) (2 ^ D 1 0) with
    | none => exact ⟨fun _ => rfl, fun z => absurd (by decide) z⟩
    | some s =>
      have hs := (bst_ok eb).1
      refine ⟨fun z => absurd z (nI_pos (by omega)), fun _ => ⟨fun z => ?_, fun z => ⟨_, _, c_95 q1.sg q1.tt q1.ct.1.2.1 hq.hP q1.ct.2.2.2.2.2.2.1 (by omega), q1.sg, ?_⟩⟩⟩
      · show (some (Value.int (if decide (y = 0) = true then nI s else nI _)), σ1) = _
        rw [if_pos (decide_eq_true z)]; rfl
      · show (some (Value.int (if decide (y = 0) = true then nI s else nI _)), σ1) = _
        rw [if_neg (by rw [decide_eq_false z]; decide)]
  · obtain ⟨σ2, h2, f2, g2⟩ := q_226 q.th
    have q2 := q.th.fr f2 (fun _ _ h => wq_t h)
    have hv := v_232 (x := j) (on := H 1 0) (x2 := y) (cost := D 10) q2.sg g2 q2.mh.1.1 (by rw [Nat.xor_comm]; omega) q2.mt.2.2.2.2.2.2.1 hq.wd.2.1
    rw [Nat.xor_comm j] at hv
    exact ⟨σ2, ck_232 q.sg (b_232_0 q.sg ⟨_, _, c_201y q.th.sg q.th.mt.1.1 (h31 hq) hj, q.th.sg, fun z => absurd z n10, fun _ => ⟨_, _, c_152y q.th.sg hy, q.th.sg, fun z => absurd z n10, fun _ => ⟨σ2, h2, q2.sg, hv⟩⟩⟩), wq_th.tr (f2.mono (fun _ _ h => wq_t h))⟩
theorem q_must {x y : Int32} (hq : Q t σ D H) : PrI 117 233 [.int x, .int y] σ := by
  rcases bad_or x (lp31 hq.hL) with h | ⟨j, hj, rfl⟩
  · exact PrI.mk0 hq (v := -1) (ck_117 hq.sg (b_117_0 hq.sg ⟨_, _, c_144n hq.sg hq.ct.1.1 (h31 hq) h, hq.sg, fun _ => rfl, fun z => absurd rfl z⟩)) ⟨_, ck_233 hq.sg (b_233_0 hq.sg ⟨_, _, c_201n hq.th.sg hq.th.mt.1.1 (h31 hq) h, hq.th.sg, fun _ => rfl, fun z => absurd rfl z⟩), wq_th⟩
  by_cases hy : y < 0 ∨ 1 < y
  · exact PrI.mk0 hq (v := -1) (ck_117 hq.sg (b_117_0 hq.sg ⟨_, _, c_144y hq.sg hq.ct.1.1 (h31 hq) hj, hq.sg, fun z => absurd z n10, fun _ => w_rb hy rfl⟩)) ⟨_, ck_233 hq.sg (b_233_0 hq.sg ⟨_, _, c_201y hq.th.sg hq.th.mt.1.1 (h31 hq) hj, hq.th.sg, fun z => absurd z n10, fun _ => ⟨_, _, c_152n hq.th.sg hy, hq.th.sg, fun _ => rfl, fun z => absurd rfl z⟩⟩), wq_th⟩
  obtain ⟨σ1, h1, f1, g1⟩ := c_145 hq
  have q1 := hq.fr f1 (fun _ _ h => wq_g h)
  have hx := xlt hq.hL hj hq.on
  have hP2 := p2_le hq.hP
  have hc := fa_cnt_le (isW (fre (D 1 0) (H 3 0)) (tn (H 8) (D 1 0)) (H 1 0 ^^^ j)) (2 ^ D 1 0)
  refine PrI.mk hq (v := if fa_cnt (isW (fre (D 1 0) (H 3 0)) (tn (H 8) (D 1 0)) (H 1 0 ^^^ j)) (2 ^ D 1 0) = 0 then -2 else if y = 0 then nI (alA (isW (fre (D 1 0) (H 3 0)) (tn (H 8) (D 1 0)) (H 1 0 ^^^ j)) (fre (D 1 0) (H 3 0)) (2 ^ D 1 0)) else nI (alN (isW (fre (D 1 0) (H 3 0)) (tn (H 8) (D 1 0)) (H 1 0 ^^^ j)) (fre (D 1 0) (H 3 0)) (2 ^ D 1 0))) (ck_117 hq.sg (b_117_0 hq.sg ⟨_, _, c_144y hq.sg hq.ct.1.1 (h31 hq) hj, hq.sg, fun z => absurd z n10, fun _ => w_rg hy ⟨σ1, h1, q1.sg, ?_⟩⟩)) f1 (fun _ _ h => wq_g h) (fun q => ?_)
  · rw [q1.ch.1 1 (by decide), nI_xor]
    refine ⟨_, _, c_74 q1.sg g1 (by omega), q1.sg, w_p (nI_i0 (by omega)) (fun z => ?_) (fun z => ⟨fun w => ⟨_, _, c_78 q1.sg g1 (by omega), q1.sg, ?_⟩, fun w => ⟨_, _, c_79 q1.sg g1 (by omega), q1.sg, ?_⟩⟩)⟩
    · rw [if_pos z]
    · rw [if_neg z, if_pos w]
    · rw [if_neg z, if_neg w]
  · obtain ⟨σ2, h2, f2, g2⟩ := q_226 q.th
    have q2 := q.th.fr f2 (fun _ _ h => wq_t h)
    have hv := v_233 (x := j) (on := H 1 0) (x2 := y) q2.sg g2 q2.mh.1.1 (by rw [Nat.xor_comm]; omega)
    rw [Nat.xor_comm j] at hv
    exact ⟨σ2, ck_233 q.sg (b_233_0 q.sg ⟨_, _, c_201y q.th.sg q.th.mt.1.1 (h31 hq) hj, q.th.sg, fun z => absurd z n10, fun _ => ⟨_, _, c_152y q.th.sg hy, q.th.sg, fun z => absurd z n10, fun _ => ⟨σ2, h2, q2.sg, hv⟩⟩⟩), wq_th.tr (f2.mono (fun _ _ h => wq_t h))⟩
theorem q_rank (hq : Q t σ D H) : PrI 118 236 [] σ := by
  obtain ⟨σ1, h1, f1⟩ := q_146 hq
  have hb := bas_le (F := fre (D 1 0) (H 3 0)) (ties := H 8) (tz := tn (H 8) (D 1 0)) (k := D 1 0)
  have hP2 := p2_le hq.hP
  refine PrI.mk hq (ck_118 hq.sg (b_118_0 hq.sg ⟨_, _, h1, f1.sg hq.sg, _, _, c_276 (f1.sg hq.sg) (by omega), f1.sg hq.sg, rfl⟩)) f1 (fun _ _ h => wq_1 h) (fun q => ?_)
  obtain ⟨σ2, h2, f2, g2⟩ := q_226 q.th
  have q2 := q.th.fr f2 (fun _ _ h => wq_t h)
  have hf := fre_lt (K := H 3 0) hq.hP
  obtain ⟨k1, k2⟩ := nK_eq (P := D 1 0) (F := fre (D 1 0) (H 3 0)) (ties := H 8) (Nat.le_refl _)
  have e1 := pcn_P hq.hP (fre_P (P := D 1 0) (K := H 3 0))
  have e2 := pcn_P hq.hP hb
  rw [← e1, ← e2] at k1 k2
  have hv := v_235 (t := t) (σ := σ2) (pcn (fre (D 1 0) (H 3 0)) - pcn (bas (fre (D 1 0) (H 3 0)) (H 8) (tn (H 8) (D 1 0)) (D 1 0))) (pcn (fre (D 1 0) (H 3 0))) (Nat.sub_le _ _) (by have := pcn_le (fre (D 1 0) (H 3 0)); omega) q2.sg
  have c235 : Cl 235 [.ref 59] (uI σ1 59 2 0) (some (.int (nI (pcn (bas (fre (D 1 0) (H 3 0)) (H 8) (tn (H 8) (D 1 0)) (D 1 0))))), σ2) := by
    refine ck_235 q.th.sg (b_235_0 q.th.sg ⟨σ2, h2, q2.sg, ?_⟩)
    rw [g2.free]
    refine ⟨_, _, c_202 q2.sg (by omega), q2.sg, _, _, c_234 q2.sg g2, q2.sg, ?_⟩
    rw [nI_1, ← nK_sil, k2]
    rw [show pcn (fre (D 1 0) (H 3 0)) - (pcn (fre (D 1 0) (H 3 0)) - pcn (bas (fre (D 1 0) (H 3 0)) (H 8) (tn (H 8) (D 1 0)) (D 1 0))) = pcn (bas (fre (D 1 0) (H 3 0)) (H 8) (tn (H 8) (D 1 0)) (D 1 0)) by omega] at hv
    exact hv
  exact ⟨σ2, ck_236 q.sg (b_236_0 q.sg ⟨_, _, c235, q2.sg, rfl⟩), wq_th.tr (f2.mono (fun _ _ h => wq_t h))⟩
theorem q_basis (hq : Q t σ D H) : PrI 119 239 [] σ := by
  obtain ⟨σ1, h1, f1⟩ := q_146 hq
  refine PrI.mk hq (ck_119 hq.sg (b_119_0 hq.sg ⟨_, _, h1, f1.sg hq.sg, rfl⟩)) f1 (fun _ _ h => wq_1 h) (fun q => ?_)
  obtain ⟨σ2, h2, f2, g2⟩ := q_238 q.th
  exact ⟨σ2, ck_239 q.sg (b_239_0 q.sg ⟨_, _, h2, f2.sg q.th.sg, rfl⟩), wq_th.tr (f2.mono (fun _ _ h => wq_t h))⟩
theorem q_silent {x : Int32} (hq : Q t σ D H) : PrI 121 241 [.int x] σ := by
  by_cases hy : x < 0 ∨ 1 < x
  · exact PrI.mk0 hq (v := -1) (ck_121 hq.sg (b_121_0 hq.sg (w_rb hy rfl))) ⟨_, ck_241 hq.sg (b_241_0 hq.sg ⟨_, _, c_152n hq.th.sg hy, hq.th.sg, fun _ => rfl, fun z => absurd rfl z⟩), wq_th⟩
  obtain ⟨σ1, h1, f1, g1⟩ := c_145 hq
  have q1 := hq.fr f1 (fun _ _ h => wq_g h)
  have e := nK_sil (P := D 1 0) (F := fre (D 1 0) (H 3 0)) (ties := H 8)
  have e2 : fa_cnt (isW (fre (D 1 0) (H 3 0)) (tn (H 8) (D 1 0)) 0) (2 ^ D 1 0) = fa_cnt (fr1 (isW (fre (D 1 0) (H 3 0)) (tn (H 8) (D 1 0)) 0)) (2 ^ D 1 0) + 1 := e
  refine PrI.mk hq (v := if x = 0 then nI (fa_cnt (fr1 (isW (fre (D 1 0) (H 3 0)) (tn (H 8) (D 1 0)) 0)) (2 ^ D 1 0)) else oI 0 (bst (fr1 (isW (fre (D 1 0) (H 3 0)) (tn (H 8) (D 1 0)) 0)) pcn (2 ^ D 1 0))) (ck_121 hq.sg (b_121_0 hq.sg (w_rg hy ⟨σ1, h1, q1.sg, fun z => ⟨_, _, c_74 (x := 0) q1.sg g1 (by decide), q1.sg, ?_⟩, fun z => ⟨_, _, c_76 q1.sg g1, q1.sg, ?_⟩⟩))) f1 (fun _ _ h => wq_g h) (fun q => ?_)
  · rw [if_pos z, e2, nI_sub1 (by omega)]; rfl
  · rw [if_neg z]
  · obtain ⟨σ2, h2, f2, g2⟩ := q_226 q.th
    have q2 := q.th.fr f2 (fun _ _ h => wq_t h)
    refine ⟨σ2, ck_241 q.sg (b_241_0 q.sg ⟨_, _, c_152y q.th.sg hy, q.th.sg, fun z => absurd z n10, fun _ => ⟨σ2, h2, q2.sg, fun z => ⟨_, _, c_234 q2.sg g2, q2.sg, ?_⟩, fun z => ?_⟩⟩), wq_th.tr (f2.mono (fun _ _ h => wq_t h))⟩
    · rw [if_pos z]
    · rw [if_neg z]; exact v_241 q2.sg g2
theorem q_darkest {x : Int32} (hq : Q t σ D H) : PrI 122 242 [.int x] σ := by
  by_cases hy : x < 0 ∨ 2 < x
  · exact PrI.mk0 hq (v := -1) (ck_122 hq.sg (b_122_0 hq.sg (w_rb hy rfl))) ⟨_, ck_242 hq.sg (b_242_0 hq.sg ⟨_, _, c_152n hq.th.sg hy, hq.th.sg, fun _ => rfl, fun z => absurd rfl z⟩), wq_th⟩
  obtain ⟨σ1, h1, f1, g1⟩ := c_145 hq
  have q1 := hq.fr f1 (fun _ _ h => wq_g h)
  have hl := lst_lt (w := fun s => decide (s &&& fre (D 1 0) (H 3 0) = s)) (key := dk (H 1 0) (tn (H 8) (D 1 0))) (Nat.two_pow_pos (D 1 0))
  generalize eL : lst (fun s => decide (s &&& fre (D 1 0) (H 3 0) = s)) (dk (H 1 0) (tn (H 8) (D 1 0))) (2 ^ D 1 0) = L at hl
  have c80 := c_80 q1.sg g1 hq.on
  rw [eL] at c80
  have hz := g1.1.2.2 L
  have hxl : H 1 0 ^^^ tn (H 8) (D 1 0) L < 2 ^ 14 := Nat.xor_lt_two_pow hq.on hz
  refine PrI.mk hq (v := if x = 0 then nI (pcn (H 1 0 ^^^ tn (H 8) (D 1 0) L)) else if x = 1 then nI L else nI (H 1 0 ^^^ tn (H 8) (D 1 0) L)) (ck_122 hq.sg (b_122_0 hq.sg (w_rg hy ⟨σ1, h1, q1.sg, ?_⟩))) f1 (fun _ _ h => wq_g h) (fun q => ?_)
  · rw [q1.ch.1 1 (by decide)]
    refine ⟨_, _, c80, q1.sg, _, _, c_72 q1.sg g1 hl, q1.sg, ?_⟩
    rw [q1.ch.1 1 (by decide), nI_xor]
    refine ⟨fun z => ⟨_, _, c_276 q1.sg hxl, q1.sg, ?_⟩, fun z => ?_, fun z => ?_⟩
    · rw [if_pos z]
    · rw [z]; rfl
    · rw [if_neg z.1, if_neg z.2]
  · obtain ⟨σ2, h2, f2, g2⟩ := q_226 q.th
    have q2 := q.th.fr f2 (fun _ _ h => wq_t h)
    have hv := v_242 (x1 := x) (on := H 1 0) (z4 := .retAddr 0) q2.sg g2 q2.mh.1.1 hq.on
    rw [eL] at hv
    exact ⟨σ2, ck_242 q.sg (b_242_0 q.sg ⟨_, _, c_152y q.th.sg hy, q.th.sg, fun z => absurd z n10, fun _ => ⟨σ2, h2, q2.sg, hv⟩⟩), wq_th.tr (f2.mono (fun _ _ h => wq_t h))⟩
theorem q_apart {x y : Int32} (hq : Q t σ D H) : PrI 126 247 [.int x, .int y] σ := by
  rcases bad_or x (lp31 hq.hL) with h | ⟨j, hj, rfl⟩
  · exact PrI.mk0 hq (v := -1) (ck_126 hq.sg (b_126_0 hq.sg ⟨_, _, c_144n hq.sg hq.ct.1.1 (h31 hq) h, hq.sg, fun _ => rfl, fun z => absurd rfl z⟩)) ⟨_, ck_247 hq.sg (b_247_0 hq.sg ⟨_, _, c_201n hq.th.sg hq.th.mt.1.1 (h31 hq) h, hq.th.sg, fun _ => rfl, fun z => absurd rfl z⟩), wq_th⟩
  rcases bad_or y (lp31 hq.hL) with h | ⟨k, hk, rfl⟩
  · exact PrI.mk0 hq (v := -1) (ck_126 hq.sg (b_126_0 hq.sg ⟨_, _, c_144y hq.sg hq.ct.1.1 (h31 hq) hj, hq.sg, fun z => absurd z n10, fun _ => ⟨_, _, c_144n hq.sg hq.ct.1.1 (h31 hq) h, hq.sg, fun _ => rfl, fun z => absurd rfl z⟩⟩)) ⟨_, ck_247 hq.sg (b_247_0 hq.sg ⟨_, _, c_201y hq.th.sg hq.th.mt.1.1 (h31 hq) hj, hq.th.sg, fun z => absurd z n10, fun _ => ⟨_, _, c_201n hq.th.sg hq.th.mt.1.1 (h31 hq) h, hq.th.sg, fun _ => rfl, fun z => absurd rfl z⟩⟩), wq_th⟩
  obtain ⟨σ1, h1, f1, g1⟩ := c_145 hq
  have q1 := hq.fr f1 (fun _ _ h => wq_g h)
  have hx := xlt hq.hL hk (Nat.lt_of_lt_of_le hj (Nat.pow_le_pow_right (by decide) hq.hL))
  have hP2 := p2_le hq.hP
  cases eb : bst (isW (fre (D 1 0) (H 3 0)) (tn (H 8) (D 1 0)) (j ^^^ k)) pcn (2 ^ D 1 0) with
  | none =>
    refine PrI.mk hq (v := -2) (ck_126 hq.sg (b_126_0 hq.sg ⟨_, _, c_144y hq.sg hq.ct.1.1 (h31 hq) hj, hq.sg, fun z => absurd z n10, fun _ => ⟨_, _, c_144y hq.sg hq.ct.1.1 (h31 hq) hk, hq.sg, fun z => absurd z n10, fun _ => ⟨σ1, h1, q1.sg, ?_⟩⟩⟩)) f1 (fun _ _ h => wq_g h) (fun q => ?_)
    · have c75 := c_75 (x := j ^^^ k) q1.sg g1 (by omega)
      rw [eb] at c75
      rw [nI_xor]
      exact ⟨_, _, c75, q1.sg, fun _ => rfl, fun z => absurd (by decide) z⟩
    · obtain ⟨σ2, h2, f2, g2⟩ := q_226 q.th
      have q2 := q.th.fr f2 (fun _ _ h => wq_t h)
      have c230 := c_230 (x := j ^^^ k) q2.sg g2 (by omega)
      rw [eb] at c230
      refine ⟨σ2, ck_247 q.sg (b_247_0 q.sg ⟨_, _, c_201y q.th.sg q.th.mt.1.1 (h31 hq) hj, q.th.sg, fun z => absurd z n10, fun _ => ⟨_, _, c_201y q.th.sg q.th.mt.1.1 (h31 hq) hk, q.th.sg, fun z => absurd z n10, fun _ => ⟨σ2, h2, q2.sg, ?_⟩⟩⟩), wq_th.tr (f2.mono (fun _ _ h => wq_t h))⟩
      rw [nI_xor]
      exact ⟨_, _, c230, q2.sg, fun _ => rfl, fun z => absurd (by decide) z⟩
  | some s =>
    have hs := (bst_ok eb).1
    refine PrI.mk hq (v := nI (pcn s)) (ck_126 hq.sg (b_126_0 hq.sg ⟨_, _, c_144y hq.sg hq.ct.1.1 (h31 hq) hj, hq.sg, fun z => absurd z n10, fun _ => ⟨_, _, c_144y hq.sg hq.ct.1.1 (h31 hq) hk, hq.sg, fun z => absurd z n10, fun _ => ⟨σ1, h1, q1.sg, ?_⟩⟩⟩)) f1 (fun _ _ h => wq_g h) (fun q => ?_)
    · have c75 := c_75 (x := j ^^^ k) q1.sg g1 (by omega)
      rw [eb] at c75
      rw [nI_xor]
      exact ⟨_, _, c75, q1.sg, fun z => absurd z (nI_pos (by omega)), fun _ => ⟨_, _, c_276 q1.sg (by omega), q1.sg, rfl⟩⟩
    · obtain ⟨σ2, h2, f2, g2⟩ := q_226 q.th
      have q2 := q.th.fr f2 (fun _ _ h => wq_t h)
      have c230 := c_230 (x := j ^^^ k) q2.sg g2 (by omega)
      rw [eb] at c230
      refine ⟨σ2, ck_247 q.sg (b_247_0 q.sg ⟨_, _, c_201y q.th.sg q.th.mt.1.1 (h31 hq) hj, q.th.sg, fun z => absurd z n10, fun _ => ⟨_, _, c_201y q.th.sg q.th.mt.1.1 (h31 hq) hk, q.th.sg, fun z => absurd z n10, fun _ => ⟨σ2, h2, q2.sg, ?_⟩⟩⟩), wq_th.tr (f2.mono (fun _ _ h => wq_t h))⟩
      rw [nI_xor]
      exact ⟨_, _, c230, q2.sg, fun z => absurd z (nI_pos (by omega)), fun _ => ⟨_, _, c_202 q2.sg (by omega), q2.sg, rfl⟩⟩
theorem q_evenings {x : Int32} (hq : Q t σ D H) : PrI 127 248 [.int x] σ := by
  by_cases hy : x < 0 ∨ 14 < x
  · exact PrI.mk0 hq (v := -1) (ck_127 hq.sg (b_127_0 hq.sg (w_rb hy rfl))) ⟨_, ck_248 hq.sg (b_248_0 hq.sg ⟨_, _, c_152n hq.th.sg hy, hq.th.sg, fun _ => rfl, fun z => absurd rfl z⟩), wq_th⟩
  obtain ⟨m, hm, rfl⟩ := nI_of (fun z => hy (Or.inl z))
  obtain ⟨σ1, h1, f1, g1⟩ := c_145 hq
  have q1 := hq.fr f1 (fun _ _ h => wq_g h)
  obtain ⟨σ3, h3, f3⟩ := q_146 q1
  have q3 := q1.fr f3 (fun _ _ h => wq_1 h)
  have F : Fr Wq σ σ3 := (f1.mono (fun _ _ h => wq_g h)).tr (f3.mono (fun _ _ h => wq_1 h))
  have g3 : Gc (D 1 0) (fre (D 1 0) (H 3 0)) (tn (H 8) (D 1 0)) σ3 := by
    have r : ∀ x i, (x = 53 ∨ x = 54) → mI σ3 x i = mI σ1 x i := fun x i h => (f3.1 x i (by unfold W1; omega)).1
    refine ⟨g1.1, ?_, ?_, fun s hs => ?_⟩
    · rw [r 53 0 (Or.inl rfl)]; exact g1.2.1
    · rw [r 53 2 (Or.inl rfl)]; exact g1.2.2.1
    · rw [r 54 s (Or.inr rfl)]; exact g1.2.2.2 s hs
  refine PrI.mk hq (v := nI (fa_cnt (isE (bas (fre (D 1 0) (H 3 0)) (H 8) (tn (H 8) (D 1 0)) (D 1 0)) (tn (H 8) (D 1 0)) (H 1 0) m) (2 ^ D 1 0))) (ck_127 hq.sg (b_127_0 hq.sg (w_rg hy ⟨σ1, h1, q1.sg, _, σ3, h3, q3.sg, ?_⟩))) F (fun _ _ h => h) (fun q => ?_)
  · rw [q1.ch.1 1 (by decide)]
    exact ⟨_, _, c_82 q3.sg g3 hq.on hm, q3.sg, rfl⟩
  · obtain ⟨σ2, h2, f2, g2⟩ := q_226 q.th
    have q2 := q.th.fr f2 (fun _ _ h => wq_t h)
    exact ⟨σ2, ck_248 q.sg (b_248_0 q.sg ⟨_, _, c_152y q.th.sg hy, q.th.sg, fun z => absurd z n10, fun _ => ⟨σ2, h2, q2.sg, v_248 q2.sg g2 q2.mh.1.1 hq.on hm⟩⟩), wq_th.tr (f2.mono (fun _ _ h => wq_t h))⟩
end Q1
