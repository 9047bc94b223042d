/-! ===== notes: second side ===== -/
section Wa3
variable {t : Nat} {σ : Mm} {L P K : Nat} {W T : Nat → Nat} {S : Nat → Bool}
theorem c_257 (hS : Sg t σ) (h : NK σ L P K W T S) : Cl 257 [.ref 59] σ (some (.int (nI K)), σ) := by
  refine ck_257 hS (b_257_0 hS ?_)
  rcases h.2.2.1 with ⟨e, g⟩ | e
  · rw [e, g]; exact ⟨fun _ => rfl, fun z => absurd (by decide) z⟩
  · rw [e]; exact ⟨fun z => absurd z (nI_pos (by have := h.1; omega)), fun _ => rfl⟩
def W95 (x _i : Nat) : Prop := x = 95
/-- which notes count -/
def Cn (σ : Mm) (m K : Nat) : Prop := ∀ i, i < K → mI σ 95 i = if m.testBit i = true then 0 else 1
theorem c_258 (hS : Sg t σ) (h : NK σ L P K W T S) : ∃ σ', Cl 258 [.ref 59] σ (none, σ') ∧ Fr W95 σ σ' ∧ Cn σ' (sx W T K K) K := by
  have hK := h.1
  have nw : ∀ x i, ((x = 49 ∧ i ≤ 1) ∨ (50 ≤ x ∧ x ≤ 52) ∨ x = 94 ∨ (x = 59 ∧ (i = 68 ∨ i = 69))) → ¬ W95 x i := fun x i h1 h2 => by unfold W95 at h2; omega
  have lo : ∀ (σ1 : Mm), Fr W95 σ σ1 ∧ Cn σ1 0 K → ∃ σ', Ev 258 30 [.ref 59, .int (nI K - 1)] [] σ1 (none, σ') ∧ Fr W95 σ σ' ∧ Cn σ' (sx W T K K) K := by
    intro σ1 hI
    refine lp (k := 0) (fun d σ1 => Fr W95 σ σ1 ∧ Cn σ1 (sx W T K d) K) (fun d σ1 => ∃ σ', Ev 258 30 [.ref 59, .int (nI (K - d) - 1)] [] σ1 (none, σ') ∧ Fr W95 σ σ' ∧ Cn σ' (sx W T K K) K) K ?_ ?_ (Nat.zero_le _) hI
    · intro d σ1 hd ⟨hf, hm⟩ ih
      have hS1 := hf.sg hS
      have n1 := h.fr hf nw
      obtain ⟨i, hi⟩ : ∃ i, i = K - (d + 1) := ⟨_, rfl⟩
      have e1 : K - d = i + 1 := by omega
      have e2 : nI (K - d) - 1 = nI i := by
        rw [e1]; exact pk_sub (a := i + 1) (b := 1) (by omega)
      have e3 : nI i + (-1) = nI (K - (d + 1)) - 1 := by
        rw [← hi, Int32.sub_eq_add_neg]
      have hik : i < K := by omega
      obtain ⟨⟨x0, x1, x2, x3⟩, y, z⟩ := n1.2.2.2 i hik
      have em : (3 : Int32) * nI i = nI (3 * i) := pk_mul 3 i
      have em1 : nI (3 * i) + 1 = nI (3 * i + 1) := nI_1 _
      have sE : sx W T K (d + 1) = if (sx W T K d).testBit i = false ∧ W i = 2 then sx W T K d ||| 2 ^ T i else sx W T K d := by rw [hi]; rfl
      have b95 := hm i hik
      cases hc : (sx W T K d).testBit i with
      | true =>
        rw [sE, hc, if_neg (fun q => absurd q.1 (by decide))] at ih
        obtain ⟨σ', g, g2⟩ := ih σ1 ⟨hf, hm⟩
        refine ⟨σ', b_258_30 hS1 ?_, g2⟩
        rw [hc, if_pos rfl] at b95
        rw [e2, nI_clamp (by omega), b95]
        refine ⟨fun q => absurd q (nI_pos (by omega)), fun _ => ⟨inb_nI (by omega) (by decide), fun _ => ?_, fun q => absurd rfl q⟩⟩
        rw [e3]; exact g
      | false =>
        rw [hc, if_neg (by decide)] at b95
        by_cases c2 : W i = 2
        · have tl := n1.str i hik c2
          rw [sE, hc, if_pos ⟨rfl, c2⟩] at ih
          obtain ⟨σ', g, g2⟩ := ih (uI σ1 95 (T i) 0) ⟨hf.uI rfl, fun j hj => by
            rw [mI_uI]
            by_cases ej : j = T i
            · rw [if_pos ⟨rfl, ej⟩, ej, if_pos]
              rw [Nat.testBit_or, Nat.testBit_two_pow_self, Bool.or_true]
            · rw [if_neg (fun q => ej q.2), tb_or ej]
              exact hm j hj⟩
          refine ⟨σ', b_258_30 hS1 ?_, g2⟩
          rw [e2, nI_clamp (by omega), b95, em, em1, nI_clamp (by omega), x2, nI_clamp (by omega), x3, nI_clamp (by omega)]
          refine ⟨fun q => absurd q (nI_pos (by omega)), fun _ => ⟨inb_nI (by omega) (by decide), fun q => absurd q (by decide), fun _ => ⟨inb_nI (by omega) (by decide), fun _ => ⟨inb_nI (by omega) (by decide), inb_nI (by omega) (by decide), fun σ4 e4 => ?_⟩, fun q => absurd (by rw [c2]; rfl) q⟩⟩⟩
          rw [e4, e3]; exact g
        · rw [sE, if_neg (fun q => c2 q.2)] at ih
          obtain ⟨σ', g, g2⟩ := ih σ1 ⟨hf, hm⟩
          refine ⟨σ', b_258_30 hS1 ?_, g2⟩
          rw [e2, nI_clamp (by omega), b95, em, nI_clamp (by omega), x2]
          refine ⟨fun q => absurd q (nI_pos (by omega)), fun _ => ⟨inb_nI (by omega) (by decide), fun q => absurd q (by decide), fun _ => ⟨inb_nI (by omega) (by decide), fun q => absurd ((nI_eq (b := 2) (by omega) (by decide)).mp q) c2, fun _ => ?_⟩⟩⟩
          rw [e3]; exact g
    · intro σ1 ⟨hf, hm⟩
      rw [Nat.sub_self]
      exact ⟨σ1, b_258_30 (hf.sg hS) ⟨fun _ => rfl, fun q => absurd (by decide) q⟩, hf, hm⟩
  have up : ∃ σ', Ev 258 2 [.ref 59, .int (nI 0)] [] σ (none, σ') ∧ Fr W95 σ σ' ∧ Cn σ' (sx W T K K) K := by
    refine lp (k := 0) (fun k σ1 => Fr W95 σ σ1 ∧ ∀ i, i < k → mI σ1 95 i = 1) (fun k σ1 => ∃ σ', Ev 258 2 [.ref 59, .int (nI k)] [] σ1 (none, σ') ∧ Fr W95 σ σ' ∧ Cn σ' (sx W T K K) K) K ?_ ?_ (Nat.zero_le _) ⟨Fr.rf σ, fun i hi => absurd hi (Nat.not_lt_zero _)⟩
    · intro k σ1 hk ⟨hf, hm⟩ ih
      have hS1 := hf.sg hS
      obtain ⟨σ', g, g2⟩ := ih (uI σ1 95 k 1) ⟨hf.uI rfl, fun i hi => by
        rw [mI_uI]
        by_cases e : i = k
        · rw [if_pos ⟨rfl, e⟩]
        · rw [if_neg (fun q => e q.2)]; exact hm i (by omega)⟩
      refine ⟨σ', b_258_2 hS1 ⟨_, _, c_257 hS1 (h.fr hf nw), hS1, ?_⟩, g2⟩
      refine pk_lt k K (fun _ => ⟨inb_nI (by omega) (by decide), ?_⟩) (fun z => absurd z (by omega)) rfl rfl (by omega) (by omega)
      rw [nI_clamp (by omega), nI_1]
      exact g
    · intro σ1 ⟨hf, hm⟩
      have hS1 := hf.sg hS
      obtain ⟨σ', g, g2⟩ := lo σ1 ⟨hf, fun i hi => by rw [hm i hi, Nat.zero_testBit]; rfl⟩
      refine ⟨σ', b_258_2 hS1 ⟨_, _, c_257 hS1 (h.fr hf nw), hS1, ?_⟩, g2⟩
      exact pk_lt K K (fun z => absurd z (Nat.lt_irrefl _)) (fun _ => ⟨_, _, c_257 hS1 (h.fr hf nw), hS1, g⟩) rfl rfl (by omega) (by omega)
  obtain ⟨σ', g, g2⟩ := up
  exact ⟨σ', ck_258 hS (b_258_0 hS g), g2⟩
theorem c_259 {lit s : Nat} {ties : Nat → Nat} (hS : Sg t σ) (hP : P ≤ 10) (h13 : mI σ 59 13 = nI P) (h62 : mI σ 62 0 = nI lit) (h68 : ∀ i, i < P → mI σ 68 i = nI (ties i)) (hs : s < 2 ^ 31) : Cl 259 [.ref 59, .int (nI s)] σ (some (.int (nI (lit ^^^ tn ties P s))), σ) := by
  refine ck_259 hS (b_259_0 hS ?_)
  rw [h62]
  have h0 : nI lit = nI (lit ^^^ tn ties 0 s) := by rw [show tn ties 0 s = 0 from rfl, Nat.xor_zero]
  rw [h0]
  refine up_to (fun k => Ev 259 9 [.ref 59, .int (nI s), .int (nI (lit ^^^ tn ties k s)), .int (nI k)] [] σ (some (.int (nI (lit ^^^ tn ties P s))), σ)) P ?_ ?_ 0 (Nat.zero_le _)
  · intro k hk ih
    refine b_259_9 hS ?_
    rw [h13]
    refine pk_lt k P (fun _ => ⟨_, _, c_153 hS hs (by omega), hS, ?_⟩) (fun z => absurd z (by omega)) rfl rfl (by omega) (by omega)
    have et : tn ties (k + 1) s = tn ties k s ^^^ (if s.testBit k = true then ties k else 0) := rfl
    rw [et] at ih
    rw [nI_1]
    refine w_b (fun e => ?_) (fun e => ?_)
    · rw [e, if_neg (by decide), Nat.xor_zero] at ih
      rw [Int32.xor_zero]; exact ih
    · rw [e, if_pos rfl, ← Nat.xor_assoc, ← nI_xor] at ih
      refine ⟨inb_nI (by omega) (by decide), ?_⟩
      rw [nI_clamp (by omega), h68 k hk]
      exact ih
  · refine b_259_9 hS ?_
    rw [h13]
    exact pk_lt P P (fun z => absurd z (Nat.lt_irrefl _)) (fun _ => rfl) rfl rfl (by omega) (by omega)
theorem fb_no {m o s : Nat} {k : Nat} (h : fb W T S m o s k = false) : ∀ j, k ≤ j → fb W T S m o s j = false := by
  intro j
  induction j with
  | zero => intro e; have : k = 0 := by omega
            rw [← this]; exact h
  | succ j ih =>
    intro e
    by_cases c : k = j + 1
    · rw [← c]; exact h
    · show (fb W T S m o s j && _) = false
      rw [ih (by omega)]; rfl
theorem c_260 {lit s : Nat} {ties : Nat → Nat} (hS : Sg t σ) (hL : L ≤ 14) (hP : P ≤ 10) (h13 : mI σ 59 13 = nI P) (h62 : mI σ 62 0 = nI lit) (h68 : ∀ i, i < P → mI σ 68 i = nI (ties i)) (hs : s < 2 ^ 31) (ho : lit ^^^ tn ties P s < 2 ^ 31) (h : NK σ L P K W T S) (hc : Cn σ (sx W T K K) K) : Cl 260 [.ref 59, .int (nI s)] σ (some (.int (if fx W T S K (fun s => lit ^^^ tn ties P s) s = true then 1 else 0)), σ) := by
  have hK := h.1
  obtain ⟨o, eo⟩ : ∃ o, o = lit ^^^ tn ties P s := ⟨_, rfl⟩
  obtain ⟨m, em⟩ : ∃ m, m = sx W T K K := ⟨_, rfl⟩
  have ef : fx W T S K (fun s => lit ^^^ tn ties P s) s = fb W T S m o s K := by rw [eo, em]; rfl
  rw [ef]
  refine ck_260 hS (b_260_0 hS ⟨_, _, c_259 hS hP h13 h62 h68 hs, hS, ?_⟩)
  rw [← em] at hc
  rw [← eo] at ho ⊢
  have c257 := c_257 hS h
  have lo := up_to (fun k => fb W T S m o s k = true → ∀ z4, Ev 260 8 [.ref 59, .int (nI s), .int (nI o), .int (nI k), z4] [] σ (some (.int (if fb W T S m o s K = true then 1 else 0)), σ)) K ?_ ?_ 0 (Nat.zero_le _)
  · exact lo rfl _
  · intro k hk ih hf z4
    obtain ⟨⟨x0, x1, x2, x3⟩, y, z⟩ := h.2.2.2 k hk
    have bk := hc k hk
    have e3 : (3 : Int32) * nI k = nI (3 * k) := pk_mul 3 k
    have e31 : nI (3 * k) + 1 = nI (3 * k + 1) := nI_1 _
    have e32 : nI (3 * k) + 2 = nI (3 * k + 2) := nI_add _ _
    have fS : fb W T S m o s (k + 1) = (fb W T S m o s k && (m.testBit k || (decide (W k = 2) || ((if W k = 0 then o else s).testBit (T k) == S k)))) := rfl
    rw [hf, Bool.true_and] at fS
    refine b_260_8 hS ⟨_, _, c257, hS, pk_lt k K (fun _ => ⟨inb_nI (by omega) (by decide), ?_⟩) (fun z => absurd z (by omega)) rfl rfl (by omega) (by omega)⟩
    rw [nI_clamp (by omega), bk, e3, nI_clamp (by omega), x2, nI_1]
    cases mk : m.testBit k with
    | true =>
      rw [mk, Bool.true_or] at fS
      exact ⟨fun _ => ih fS _, fun q => absurd rfl q⟩
    | false =>
      rw [mk, Bool.false_or] at fS
      refine ⟨fun q => absurd q (by decide), fun _ => ⟨inb_nI (by omega) (by decide), w_p (nI_eq (b := 2) (by omega) (by decide)) (fun c2 => ?_) (fun c2 => ⟨inb_nI (by omega) (by decide), ?_⟩)⟩⟩
      · rw [decide_eq_true c2, Bool.true_or] at fS
        exact ih fS _
      · rw [decide_eq_false c2, Bool.false_or] at fS
        have tail : ∀ b, b < 2 ^ 31 → fb W T S m o s (k + 1) = (b.testBit (T k) == S k) → Ev 260 59 [.ref 59, .int (nI s), .int (nI o), .int (nI k), .int (nI (3 * k))] [.int (nI b)] σ (some (.int (if fb W T S m o s K = true then 1 else 0)), σ) := by
          intro b hb fS
          have no : fb W T S m o s (k + 1) = false → (if fb W T S m o s K = true then (1 : Int32) else 0) = 0 := fun q => by
            rw [fb_no q K (by omega)]; rfl
          refine b_260_59 hS ?_
          rw [e31, e32, nI_clamp (by omega), nI_clamp (by omega), x3, nI_1]
          refine ⟨inb_nI (by omega) (by decide), _, _, c_153 hS hb (by omega), hS, inb_nI (by omega) (by decide), ?_⟩
          rw [(z c2).2]
          revert fS
          cases hx : b.testBit (T k) <;> cases hy : S k
          · intro fS
            exact ⟨fun q => absurd q (by decide), fun _ => ⟨fun _ => ih fS _, fun q => absurd rfl q⟩⟩
          · intro fS
            exact ⟨fun _ => ⟨fun q => absurd q (by decide), fun _ => by rw [no fS]⟩, fun q => absurd rfl q⟩
          · intro fS
            exact ⟨fun q => absurd q (by decide), fun _ => ⟨fun q => absurd q (by decide), fun _ => by rw [no fS]⟩⟩
          · intro fS
            exact ⟨fun _ => ⟨fun _ => ih fS _, fun q => absurd rfl q⟩, fun q => absurd rfl q⟩
        refine w_p (nI_i0 (by omega)) (fun c0 => ?_) (fun c0 => ?_)
        · rw [if_pos c0] at fS; exact tail o ho fS
        · rw [if_neg c0] at fS; exact tail s hs fS
  · intro hf z4
    refine b_260_8 hS ⟨_, _, c257, hS, pk_lt K K (fun z => absurd z (Nat.lt_irrefl _)) (fun _ => by rw [hf]; rfl) rfl rfl (by omega) (by omega)⟩
end Wa3
