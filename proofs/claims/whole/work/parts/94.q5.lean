/-! ===== questions: names, pulls, evenings, laws; how likely lamps hold ===== -/
/-- the first of a name -/
def fnd (f : Nat → Nat) (x : Int32) (n : Nat) : Int32 := if fa_first (fun i => decide (nI (f i) = x)) n < n then nI (fa_first (fun i => decide (nI (f i) = x)) n) else -1
section Q5
variable {t : Nat} {σ : Mm} {D H : Nat → Nat → Nat}
theorem c_89 {a n : Nat} {x : Int32} {f : Nat → Nat} (hS : Sg t σ) (ha : a = 3 ∨ a = 15) (hn : mI σ a 0 = nI n) (hn2 : n ≤ 14) (hf : ∀ i, i < n → mI σ (a + 1) i = nI (f i)) : Cl 89 [.ref a, .int x] σ (some (.int (fnd f x n)), σ) := by
  suffices h : (∀ j, j < 0 → decide (nI (f j) = x) = false) → Ev 89 2 [.ref a, .int x, .int (nI 0)] [] σ (some (.int (fnd f x n)), σ) from ck_89 hS ha (b_89_0 hS ha (h (fun j hj => absurd hj (Nat.not_lt_zero j))))
  refine up_to (fun k => (∀ j, j < k → decide (nI (f j) = x) = false) → Ev 89 2 [.ref a, .int x, .int (nI k)] [] σ (some (.int (fnd f x n)), σ)) n ?_ ?_ 0 (Nat.zero_le _)
  · intro k hk ih hno
    refine b_89_2 hS ha ?_
    rw [hn, nI_clamp (by omega), hf k hk, nI_1]
    refine pk_lt k n (fun _ => ⟨inb_nI (by omega) (by decide), fun z => ?_, fun z => ih (fun j hj => ?_)⟩) (fun z => absurd z (by omega)) rfl rfl (by omega) (by omega)
    · rw [fnd, first_eq (p := fun i => decide (nI (f i) = x)) hk hno (decide_eq_true z), if_pos hk]
    · rcases Nat.lt_or_ge j k with c | c
      · exact hno j c
      · have : j = k := by omega
        subst this; exact decide_eq_false z
  · intro hno
    refine b_89_2 hS ha ?_
    rw [hn]
    refine pk_lt n n (fun z => absurd z (Nat.lt_irrefl _)) (fun _ => ?_) rfl rfl (by omega) (by omega)
    rw [fnd, if_neg (first_none hno)]
theorem c_90 {a n : Nat} {x : Int32} {f : Nat → Nat} (hS : Sg t σ) (ha : a = 3 ∨ a = 15) (hn : mI σ a 1 = nI n) (hn2 : n ≤ 10) (hf : ∀ i, i < n → mI σ (a + 2) i = nI (f i)) : Cl 90 [.ref a, .int x] σ (some (.int (fnd f x n)), σ) := by
  suffices h : (∀ j, j < 0 → decide (nI (f j) = x) = false) → Ev 90 2 [.ref a, .int x, .int (nI 0)] [] σ (some (.int (fnd f x n)), σ) from ck_90 hS ha (b_90_0 hS ha (h (fun j hj => absurd hj (Nat.not_lt_zero j))))
  refine up_to (fun k => (∀ j, j < k → decide (nI (f j) = x) = false) → Ev 90 2 [.ref a, .int x, .int (nI k)] [] σ (some (.int (fnd f x n)), σ)) n ?_ ?_ 0 (Nat.zero_le _)
  · intro k hk ih hno
    refine b_90_2 hS ha ?_
    rw [hn, nI_clamp (by omega), hf k hk, nI_1]
    refine pk_lt k n (fun _ => ⟨inb_nI (by omega) (by decide), fun z => ?_, fun z => ih (fun j hj => ?_)⟩) (fun z => absurd z (by omega)) rfl rfl (by omega) (by omega)
    · rw [fnd, first_eq (p := fun i => decide (nI (f i) = x)) hk hno (decide_eq_true z), if_pos hk]
    · rcases Nat.lt_or_ge j k with c | c
      · exact hno j c
      · have : j = k := by omega
        subst this; exact decide_eq_false z
  · intro hno
    refine b_90_2 hS ha ?_
    rw [hn]
    refine pk_lt n n (fun z => absurd z (Nat.lt_irrefl _)) (fun _ => ?_) rfl rfl (by omega) (by omega)
    rw [fnd, if_neg (first_none hno)]
theorem c_167 {a0 n0 b n : Nat} {x : Int32} {f : Nat → Nat} (hS : Sg t σ) (h0 : KS[a0]? = some (11, n0)) (hb : b + n ≤ n0) (h00 : n0 < 2 ^ 31) (hf : ∀ i, i < n → mI σ a0 (b + i) = nI (f i)) : Cl 167 [.ref a0, .int (nI b), .int (nI n), .int x] σ (some (.int (fnd f x n)), σ) := by
  suffices h : (∀ j, j < 0 → decide (nI (f j) = x) = false) → Ev 167 3 [.ref a0, .int (nI b), .int (nI n), .int x, .int (nI 0)] [] σ (some (.int (fnd f x n)), σ) from ck_167 hS h0 (b_167_0 hS h0 (h (fun j hj => absurd hj (Nat.not_lt_zero j))))
  refine up_to (fun k => (∀ j, j < k → decide (nI (f j) = x) = false) → Ev 167 3 [.ref a0, .int (nI b), .int (nI n), .int x, .int (nI k)] [] σ (some (.int (fnd f x n)), σ)) n ?_ ?_ 0 (Nat.zero_le _)
  · intro k hk ih hno
    refine b_167_3 hS h0 ?_
    rw [nI_add, nI_clamp (by omega), hf k hk, nI_1]
    refine pk_lt k n (fun _ => ⟨inb_nI (by omega) h00, fun z => ?_, fun z => ih (fun j hj => ?_)⟩) (fun z => absurd z (by omega)) rfl rfl (by omega) (by omega)
    · rw [fnd, first_eq (p := fun i => decide (nI (f i) = x)) hk hno (decide_eq_true z), if_pos hk]
    · rcases Nat.lt_or_ge j k with c | c
      · exact hno j c
      · have : j = k := by omega
        subst this; exact decide_eq_false z
  · intro hno
    refine b_167_3 hS h0 ?_
    refine pk_lt n n (fun z => absurd z (Nat.lt_irrefl _)) (fun _ => ?_) rfl rfl (by omega) (by omega)
    rw [fnd, if_neg (first_none hno)]
theorem q_named {x y : Int32} (hq : Q t σ D H) : PrI 104 180 [.int x, .int y] σ := by
  have hL := hq.hL
  have hP := hq.hP
  have l1 := c_89 (x := y) hq.sg hq.tt hq.ct.1.1 hL hq.ct.2.2.2.2.1
  have p1 := c_90 (x := y) hq.sg hq.tt hq.ct.1.2.1 hP hq.ct.2.2.2.2.2.1
  have l2 := c_167 (a0 := 65) (n0 := 28) (b := 0) (n := D 0 0) (x := y) (f := D 8) hq.th.sg rfl (by omega) (by decide) (fun i hi => by rw [Nat.zero_add]; exact hq.th.mt.2.2.2.2.1 i hi)
  have p2 := c_167 (a0 := 66) (n0 := 20) (b := 0) (n := D 1 0) (x := y) (f := D 9) hq.th.sg rfl (by omega) (by decide) (fun i hi => by rw [Nat.zero_add]; exact hq.th.mt.2.2.2.2.2.1 i hi)
  refine PrI.mk0 hq (v := if x = 0 then fnd (D 8) y (D 0 0) else if x = 1 then fnd (D 9) y (D 1 0) else -1) (ck_104 hq.sg (b_104_0 hq.sg ⟨fun z => ⟨_, _, l1, hq.sg, ?_⟩, fun z => ⟨_, _, p1, hq.sg, ?_⟩, fun z => ?_⟩)) ⟨_, ck_180 hq.sg (b_180_0 hq.sg ?_), wq_th⟩
  · rw [if_pos z]
  · rw [z]; rfl
  · rw [if_neg z.1, if_neg z.2]
  · rw [hq.th.mt.1.1, hq.th.mt.1.2.1]
    refine ⟨fun z => ⟨_, _, l2, hq.th.sg, ?_⟩, fun z => ⟨fun w => ⟨_, _, p2, hq.th.sg, ?_⟩, fun w => ?_⟩⟩
    · rw [if_pos z]
    · rw [if_neg z, if_pos w]
    · rw [if_neg z, if_neg w]
theorem q_pull {x y : Int32} (hq : Q t σ D H) : PrI 105 217 [.int x, .int y] σ := by
  have hP := hq.hP
  rcases bad_or x (show D 1 0 < 2 ^ 31 by omega) with h | ⟨p, hp, rfl⟩
  · exact PrI.mk0 hq (v := -1) (ck_105 hq.sg (b_105_0 hq.sg ⟨_, _, c_143n hq.sg hq.ct.1.2.1 h, hq.sg, fun _ => rfl, fun z => absurd rfl z⟩)) ⟨_, ck_217 hq.sg (b_217_0 hq.sg ⟨_, _, c_200n hq.th.sg hq.th.mt.1.2.1 h, hq.th.sg, fun _ => rfl, fun z => absurd rfl z⟩), wq_th⟩
  have cp : (nI p).toNatClampNeg = p := nI_clamp (by omega)
  have i10 : inb (nI p) 10 = true := inb_nI (by omega) (by decide)
  have i20 : inb (nI p) 20 = true := inb_nI (by omega) (by decide)
  refine PrI.mk0 hq (v := if y = 0 then nI (D 10 p) else if y = 1 then (nI (H 3 0) >>> (nI p &&& 31)) &&& 1 else if y = 2 then nI (H 9 p) else if y = 3 then nI (H 8 p) else -1) (ck_105 hq.sg (b_105_0 hq.sg ⟨_, _, c_143y hq.sg hq.ct.1.2.1 (by omega) hp, hq.sg, fun z => absurd z n10, fun _ => ?_⟩)) ⟨_, ck_217 hq.sg (b_217_0 hq.sg ⟨_, _, c_200y hq.th.sg hq.th.mt.1.2.1 (by omega) hp, hq.th.sg, fun z => absurd z n10, fun _ => ?_⟩), wq_th⟩
  · have e3 := hq.ct.2.2.2.2.2.2.1 p hp
    have e29 : mI σ 29 p = nI (H 9 p) := hq.ch.2.2.2 p (by omega)
    have e28 : mI σ 28 p = nI (H 8 p) := hq.ch.2.2.1 p (by omega)
    rw [cp, e3, hq.ch.1 3 (by decide), e29, e28]
    refine ⟨fun z => ⟨i10, ?_⟩, fun z => ?_, fun z => ⟨i10, ?_⟩, fun z => ⟨i10, ?_⟩, fun z => ?_⟩
    · rw [if_pos z]
    · rw [z]; rfl
    · rw [z]; rfl
    · rw [z]; rfl
    · rw [if_neg z.1, if_neg z.2.1, if_neg z.2.2.1, if_neg z.2.2.2]
  · have e67 : mI (uI σ 59 2 0) 67 p = nI (D 10 p) := hq.th.mt.2.2.2.2.2.2.1 p hp
    have e84 : mI (uI σ 59 2 0) 84 0 = nI (H 3 0) := hq.th.mh.1.2.2.1
    have e89 : mI (uI σ 59 2 0) 89 p = nI (H 8 p) := hq.th.mties p hp
    have e90 : mI (uI σ 59 2 0) 90 p = nI (H 9 p) := by
      have := hq.th.mh.2.2.2 p hp
      rw [Nat.mul_zero, Nat.zero_add] at this
      exact this
    rw [cp, e67, e84, e90, e89]
    refine ⟨fun z => ⟨i20, ?_⟩, fun z => ?_, fun z => ⟨i20, ?_⟩, fun z => ⟨i20, ?_⟩, fun z => ?_⟩
    · rw [if_pos z]
    · rw [z]; rfl
    · rw [z]; rfl
    · rw [z]; rfl
    · rw [if_neg z.1, if_neg z.2.1, if_neg z.2.2.1, if_neg z.2.2.2]
theorem q_evening {x : Int32} (hq : Q t σ D H) : PrI 106 218 [.int x] σ := by
  refine PrI.mk0 hq (v := if x = 0 then nI (sh H) else if x = 1 then nI (H 1 0) else if x = 2 then nI (H 2 0) else -1) (ck_106 hq.sg (b_106_0 hq.sg ⟨fun z => ⟨_, _, c_20 hq.sg (Or.inl rfl) (hq.ch.1 1 (by decide)) (hq.ch.1 2 (by decide)), hq.sg, ?_⟩, fun z => ?_, fun z => ?_, fun z => ?_⟩)) ⟨_, ck_218 hq.sg (b_218_0 hq.sg ⟨fun z => ⟨_, _, c_203 (b := 0) hq.th.sg (by decide) hq.th.mh.1.1 hq.th.mh.1.2.1, hq.th.sg, ?_⟩, fun z => ⟨fun w => ?_, fun w => ⟨fun v => ?_, fun v => ?_⟩⟩⟩), wq_th⟩
  · rw [if_pos z]; rfl
  · rw [hq.ch.1 1 (by decide), z]; rfl
  · rw [hq.ch.1 2 (by decide), z]; rfl
  · rw [if_neg z.1, if_neg z.2.1, if_neg z.2.2]
  · rw [if_pos z]; rfl
  · rw [show mI (uI σ 59 2 0) 82 0 = _ from hq.th.mh.1.1, if_neg z, if_pos w]
  · rw [show mI (uI σ 59 2 0) 83 0 = _ from hq.th.mh.1.2.1, if_neg z, if_neg w, if_pos v]
  · rw [if_neg z, if_neg w, if_neg v]
theorem wq_n {x i : Nat} (h : Wn x i) : Wq x i := by unfold Wn at h; unfold Wq; omega
theorem wq_80 {x i : Nat} (h : W80 x i) : Wq x i := by unfold W80 at h; unfold Wq; omega
theorem wq_lo {x i : Nat} (h : Wlo x i) : Wq x i := by unfold Wlo at h; unfold Wq; omega
theorem oe_m {o : Option Int64} {τ : Mm} : Er τ (match o with
    | some _ => false
    | none => true) → ((mI τ 59 48) = 0 → (some (Value.long (oE o)), τ) = (some (Value.long (match o with
    | some v => v
    | none => 0)), τ)) ∧ (¬ ((mI τ 59 48) = 0) → (some (Value.long (oE o)), τ) = (some (Value.long (-9223372036854775808)), τ)) := by
  intro he
  unfold Er at he
  rw [he]
  cases o with
  | none => exact ⟨fun z => absurd z (by decide), fun _ => rfl⟩
  | some v => exact ⟨fun _ => rfl, fun z => absurd rfl z⟩
theorem q_law {x y : Int32} (hq : Q t σ D H) : PrL 107 219 [.int x, .int y] σ := by
  have hL := hq.hL
  have hP := hq.hP
  have mkr : ∀ {σ1} {W : Nat → Nat → Prop} {v : Int64}, Cl 107 [.ref 0, .int x, .int y] σ (some (.long v), σ1) → Fr W σ σ1 → (∀ x i, W x i → Wq x i) → (Q t σ1 D H → ∃ σ2, Cl 219 [.ref 59, .int x, .int y] σ1 (some (.long v), σ2) ∧ Fr Wq σ1 σ2) → PrL 107 219 [.int x, .int y] σ := by
    intro σ1 W v h hf hW hm
    obtain ⟨σ2, h2, f2⟩ := hm (hq.fr hf hW)
    exact ⟨v, σ1, σ2, h, hf.mono hW, h2, f2⟩
  by_cases hx : x < 0 ∨ 2 < x
  · have hx3 : x < 0 ∨ ¬ x < 3 := by
      rcases hx with h | h
      · exact Or.inl h
      · right
        intro z
        rw [fa_lt] at h z
        have h : (2 : Int) < x.toInt := h
        have z : x.toInt < 3 := z
        omega
    have e18 : ∀ s0, Ev 107 18 [.ref 0, .int x, .int y, .retAddr 0] [.int s0] σ (some (.long eV), σ) := fun s0 => b_107_18 hq.sg ⟨fun _ => rfl, fun z => ⟨fun w => absurd hx3 (fun q => q.elim z (fun u => u w)), fun _ => rfl⟩⟩
    refine mkr (W := Wq) (v := eV) (ck_107 hq.sg (b_107_0 hq.sg ⟨fun _ => ?_, fun _ => ?_⟩)) (Fr.rf σ) (fun _ _ h => h) (fun q => ⟨_, ck_219 q.sg (b_219_0 q.sg ⟨_, _, c_152n q.th.sg hx, q.th.sg, fun _ => rfl, fun z => absurd rfl z⟩), wq_th⟩)
    · rcases bad_or y (show D 0 0 < 2 ^ 31 by omega) with h | ⟨l, hl, rfl⟩
      · exact ⟨_, _, c_142n hq.sg hq.ct.1.1 h, hq.sg, e18 _⟩
      · exact ⟨_, _, c_142y hq.sg hq.ct.1.1 (by omega) hl, hq.sg, e18 _⟩
    · rcases bad_or y (show D 1 0 < 2 ^ 31 by omega) with h | ⟨l, hl, rfl⟩
      · exact ⟨_, _, c_143n hq.sg hq.ct.1.2.1 h, hq.sg, e18 _⟩
      · exact ⟨_, _, c_143y hq.sg hq.ct.1.2.1 (by omega) hl, hq.sg, e18 _⟩
  obtain ⟨q0, hq0, rfl⟩ := nI_of (fun z => hx (Or.inl z))
  have hq2 : q0 ≤ 2 := by
    rcases Nat.lt_or_ge 2 q0 with g | g
    · exact absurd (Or.inr (nI_lt (a := 2) g hq0)) hx
    · exact g
  have e72 : ∀ σ1, Q t σ1 D H → mI (uI σ1 59 2 0) 72 q0 = if decide (D 16 q0 < D 17 q0) = true then 1 else 0 := fun σ1 q => by
    obtain ⟨_, _, _, _, _, _, _, _, _, _, _, _, c9, _⟩ := q.th.mt
    exact c9 q0 (by omega)
  have bad18 : Ev 107 18 [.ref 0, .int (nI q0), .int y, .retAddr 0] [.int 0] σ (some (.long eV), σ) := b_107_18 hq.sg ⟨fun z => absurd z (nI_pos hq0), fun _ => ⟨fun _ => ⟨fun _ => rfl, fun z => absurd rfl z⟩, fun z => absurd (nI_lt (b := 3) (show q0 < 3 by omega) (by decide)) z⟩⟩
  -- the second side up to its first choice
  have m0 : ∀ {σ1 w}, Q t σ1 D H → (¬ D 16 q0 < D 17 q0 → w = (some (.long eV), uI σ1 59 2 0)) → (D 16 q0 < D 17 q0 → ((nI q0 = 2 → (∃ (v9 : Int32) (σ7 : Mm), Cl 199 [.ref 59, .int y] (uI σ1 59 2 0) (some (.int v9), σ7) ∧ Sg t σ7 ∧ ((v9 = 0 → (w = (some (.long (-9223372036854775808)), σ7))) ∧ (¬ (v9 = 0) → Ev 219 51 [.ref 59, .int (nI q0), .int y, .retAddr 0, .retAddr 0] [] σ7 w)))) ∧ (¬ (nI q0 = 2) → (∃ (v6 : Int32) (σ4 : Mm), Cl 200 [.ref 59, .int y] (uI σ1 59 2 0) (some (.int v6), σ4) ∧ Sg t σ4 ∧ ((v6 = 0 → (w = (some (.long (-9223372036854775808)), σ4))) ∧ (¬ (v6 = 0) → Ev 219 51 [.ref 59, .int (nI q0), .int y, .retAddr 0, .retAddr 0] [] σ4 w)))))) → Cl 219 [.ref 59, .int (nI q0), .int y] σ1 w := by
    intro σ1 w q ha hb
    refine ck_219 q.sg (b_219_0 q.sg ⟨_, _, c_152y q.th.sg hx, q.th.sg, fun z => absurd z n10, fun _ => ⟨inb_nI (by omega) (by decide), ?_⟩⟩)
    rw [nI_clamp (by omega), e72 σ1 q]
    exact w_b (fun z => ha (of_decide_eq_false z)) (fun z => hb (of_decide_eq_true z))
  by_cases c2 : q0 = 2
  · subst c2
    rcases bad_or y (show D 0 0 < 2 ^ 31 by omega) with h | ⟨l, hl, rfl⟩
    · exact mkr (W := Wq) (v := eV) (ck_107 hq.sg (b_107_0 hq.sg ⟨fun _ => ⟨_, _, c_142n hq.sg hq.ct.1.1 h, hq.sg, bad18⟩, fun z => absurd rfl z⟩)) (Fr.rf σ) (fun _ _ h => h) (fun q => ⟨_, m0 q (fun _ => rfl) (fun _ => ⟨fun _ => ⟨_, _, c_199n q.th.sg q.th.mt.1.1 h, q.th.sg, fun _ => rfl, fun z => absurd rfl z⟩, fun z => absurd rfl z⟩), wq_th⟩)
    · obtain ⟨σ1, h1, f1⟩ := c_11l (a2 := 26) (l := l) hq.sg hq.tt (Or.inl rfl) hq.ct hq.wd hq.ch hq.wh (by omega)
      refine mkr (ck_107 hq.sg (b_107_0 hq.sg ⟨fun _ => ⟨_, _, c_142y hq.sg hq.ct.1.1 (by omega) hl, hq.sg, b_107_18 hq.sg ⟨fun z => absurd z (by decide), fun _ => ⟨fun _ => ⟨fun z => absurd z n10, fun _ => ⟨_, σ1, h1, f1.sg hq.sg, rfl⟩⟩, fun z => absurd (by decide) z⟩⟩⟩, fun z => absurd rfl z⟩)) f1 (fun _ _ h => wq_n h) (fun q => ?_)
      by_cases ct : D 16 2 < D 17 2
      · obtain ⟨τ1, g1, e1, l1⟩ := c_207 (b := 0) (l := l) q.th.sg (by decide) q.th.mt hq.wd q.th.mh hq.wh (by omega)
        have p1 := q.th.fr e1 (fun _ _ h => wq_80 h)
        obtain ⟨τ2, g2, e2, r2⟩ := c_208t (q := 2) p1.sg p1.mt hq.wd (by omega) ct l1 (nmL_lt hq.wh)
        exact ⟨τ2, m0 q (fun z => absurd ct z) (fun _ => ⟨fun _ => ⟨_, _, c_199y q.th.sg q.th.mt.1.1 (by omega) hl, q.th.sg, fun z => absurd z n10, fun _ => b_219_51 q.th.sg ⟨fun _ => ⟨τ1, g1, p1.sg, _, τ2, g2, e2.sg p1.sg, oe_m r2⟩, fun z => absurd rfl z⟩⟩, fun z => absurd rfl z⟩), wq_th.tr ((e1.mono (fun _ _ h => wq_80 h)).tr (e2.mono (fun _ _ h => wq_lo h)))⟩
      · refine ⟨_, m0 q (fun _ => ?_) (fun z => absurd z ct), wq_th⟩
        rw [lw, if_neg ct]; rfl
  · have nq : ¬ nI q0 = 2 := fun z => c2 ((nI_eq (b := 2) hq0 (by decide)).mp z)
    rcases bad_or y (show D 1 0 < 2 ^ 31 by omega) with h | ⟨p, hp, rfl⟩
    · exact mkr (W := Wq) (v := eV) (ck_107 hq.sg (b_107_0 hq.sg ⟨fun z => absurd z nq, fun _ => ⟨_, _, c_143n hq.sg hq.ct.1.2.1 h, hq.sg, bad18⟩⟩)) (Fr.rf σ) (fun _ _ h => h) (fun q => ⟨_, m0 q (fun _ => rfl) (fun _ => ⟨fun z => absurd z nq, fun _ => ⟨_, _, c_200n q.th.sg q.th.mt.1.2.1 h, q.th.sg, fun _ => rfl, fun z => absurd rfl z⟩⟩), wq_th⟩)
    · obtain ⟨σ1, h1, f1⟩ := c_11p (a2 := 26) (q := q0) (p := p) hq.sg hq.tt (Or.inl rfl) hq.ct hq.wd hq.ch hq.wh (by omega) hp
      refine mkr (ck_107 hq.sg (b_107_0 hq.sg ⟨fun z => absurd z nq, fun _ => ⟨_, _, c_143y hq.sg hq.ct.1.2.1 (by omega) hp, hq.sg, b_107_18 hq.sg ⟨fun z => absurd z (nI_pos hq0), fun _ => ⟨fun _ => ⟨fun z => absurd z n10, fun _ => ⟨_, σ1, h1, f1.sg hq.sg, rfl⟩⟩, fun z => absurd (nI_lt (b := 3) (show q0 < 3 by omega) (by decide)) z⟩⟩⟩⟩)) f1 (fun _ _ h => wq_n h) (fun q => ?_)
      by_cases ct : D 16 q0 < D 17 q0
      · obtain ⟨τ1, g1, e1, l1⟩ := c_206 (b := 0) (p := p) q.th.sg (by decide) q.th.mt hq.wd q.th.mh hq.wh hp
        have p1 := q.th.fr e1 (fun _ _ h => wq_80 h)
        obtain ⟨τ2, g2, e2, r2⟩ := c_208t (q := q0) p1.sg p1.mt hq.wd (by omega) ct l1 (nmP_lt hq.wh hq.wd hp)
        exact ⟨τ2, m0 q (fun z => absurd ct z) (fun _ => ⟨fun z => absurd z nq, fun _ => ⟨_, _, c_200y q.th.sg q.th.mt.1.2.1 (by omega) hp, q.th.sg, fun z => absurd z n10, fun _ => b_219_51 q.th.sg ⟨fun z => absurd z nq, fun _ => ⟨τ1, g1, p1.sg, _, τ2, g2, e2.sg p1.sg, oe_m r2⟩⟩⟩⟩), wq_th.tr ((e1.mono (fun _ _ h => wq_80 h)).tr (e2.mono (fun _ _ h => wq_lo h)))⟩
      · refine ⟨_, m0 q (fun _ => ?_) (fun z => absurd z ct), wq_th⟩
        rw [lw, if_neg ct]; rfl
/-! how likely lamps hold -/
/-- the greatest common part of a and 100, from c down -/
def cmn (a : Nat) : Nat → Nat
  | 0 => 1
  | c + 1 => if 1 < c + 1 ∧ ¬ (a % (c + 1) = 0 ∧ 100 % (c + 1) = 0) then cmn a c else c + 1
theorem hold_all : ∀ b, b < 101 → ∀ n, n < 7 → 0 < cmn (100 - b) 100 ∧ (100 - b) ^ n / Nat.gcd (100 ^ n) ((100 - b) ^ n) = ((100 - b) / cmn (100 - b) 100) ^ n ∧ 100 ^ n / Nat.gcd (100 ^ n) ((100 - b) ^ n) = (100 / cmn (100 - b) 100) ^ n := by decide +kernel
theorem lN_eq0 {n : Nat} (h : n < 2 ^ 63) : lN n = 0 ↔ n = 0 := by
  rw [fa_eq64]
  have e : (lN n).toInt = (n : Int) := lg_ofNat_toInt (by omega)
  rw [e]
  show (n : Int) = 0 ↔ _
  omega
theorem q_holds {x y : Int32} (hq : Q t σ D H) : PrL 129 252 [.int x, .int y] σ := by
  have hb := hq.wd.1.2.2.2.2.2.1
  by_cases hx : x < 0 ∨ 6 < x
  · exact ⟨-1, σ, _, ck_129 hq.sg (b_129_0 hq.sg (w_rb hx rfl)), Fr.rf σ, ck_252 hq.sg (b_252_0 hq.sg ⟨_, _, c_152n hq.th.sg hx, hq.th.sg, fun _ => rfl, fun z => absurd rfl z⟩), wq_th⟩
  by_cases hy : y < 0 ∨ 1 < y
  · exact ⟨-1, σ, _, ck_129 hq.sg (b_129_0 hq.sg (w_rg hx (w_rb hy rfl))), Fr.rf σ, ck_252 hq.sg (b_252_0 hq.sg ⟨_, _, c_152y hq.th.sg hx, hq.th.sg, fun z => absurd z n10, fun _ => ⟨_, _, c_152n hq.th.sg hy, hq.th.sg, fun _ => rfl, fun z => absurd rfl z⟩⟩), wq_th⟩
  obtain ⟨n, hn, rfl⟩ := nI_of (fun z => hx (Or.inl z))
  have hn6 : n ≤ 6 := by
    rcases Nat.lt_or_ge 6 n with g | g
    · exact absurd (Or.inr (nI_lt (a := 6) g hn)) hx
    · exact g
  generalize hB : D 5 0 = B at hb
  obtain ⟨a1, a2, a3⟩ := hold_all B (by omega) n (by omega)
  have ei : (100 : Int32) - nI B = nI (100 - B) := pk_sub (a := 100) hb
  have cle : ∀ c, c ≤ 100 → cmn (100 - B) c ≤ 100 := by
    intro c
    induction c with
    | zero => intro _; show 1 ≤ 100; omega
    | succ c ih =>
      intro hc
      show (if _ then _ else _) ≤ 100
      split
      · exact ih (by omega)
      · omega
  have c1 := cle 100 (by omega)
  have pw : ∀ o, o ≤ 100 → ∀ k, k ≤ 6 → o ^ k < 2 ^ 63 := by
    intro o ho k hk
    have h1 : o ^ k ≤ 100 ^ k := Nat.pow_le_pow_left ho k
    have h2 : (100 : Nat) ^ k ≤ 100 ^ 6 := Nat.pow_le_pow_right (by decide) hk
    have h3 : (100 : Nat) ^ 6 < 2 ^ 63 := by decide
    omega
  refine ⟨lN (if y = 0 then ((100 - B) / cmn (100 - B) 100) ^ n else (100 / cmn (100 - B) 100) ^ n), σ, uI σ 59 2 0, ?_, Fr.rf σ, ?_, wq_th⟩
  · refine ck_129 hq.sg (b_129_0 hq.sg (w_rg hx (w_rg hy ⟨_, _, c_92 hq.sg hq.tt hq.ct hq.wd, hq.sg, ?_⟩)))
    rw [hB, ei]
    -- the powers
    have lpw : ∀ o x3 x4, ∀ k, k ≤ n → Ev 129 87 [.ref 0, .int (nI n), .int y, .int x3, .int x4, .long (lN o), .float 0, .long (lN (o ^ k)), .float 0, .int (nI k)] [] σ (some (.long (lN (o ^ n))), σ) := by
      intro o x3 x4
      refine up_to _ n ?_ ?_
      · intro k hk ih
        refine b_129_87 hq.sg ?_
        rw [lN_mul, nI_1, ← Nat.pow_succ]
        exact pk_lt k n (fun _ => ih) (fun z => absurd z (by omega)) rfl rfl (by omega) (by omega)
      · exact b_129_87 hq.sg (pk_lt n n (fun z => absurd z (Nat.lt_irrefl _)) (fun _ => rfl) rfl rfl (by omega) (by omega))
    have end65 : ∀ z5 z6 z7 z8 z9, Ev 129 65 [.ref 0, .int (nI n), .int y, .int (nI (100 - B)), .int (nI (cmn (100 - B) 100)), z5, z6, z7, z8, z9] [] σ (some (.long (lN (if y = 0 then ((100 - B) / cmn (100 - B) 100) ^ n else (100 / cmn (100 - B) 100) ^ n))), σ) := by
      intro z5 z6 z7 z8 z9
      have nz : ¬ nI (cmn (100 - B) 100) = 0 := fun z => by rw [nI_i0 (by omega)] at z; omega
      have d1 : nI (100 - B) / nI (cmn (100 - B) 100) = nI ((100 - B) / cmn (100 - B) 100) := pk_div (by omega) a1 (by omega)
      have d2 : (100 : Int32) / nI (cmn (100 - B) 100) = nI (100 / cmn (100 - B) 100) := pk_div (a := 100) (by omega) a1 (by omega)
      have le1 : (100 - B) / cmn (100 - B) 100 ≤ 100 - B := Nat.div_le_self _ _
      have le2 : 100 / cmn (100 - B) 100 ≤ 100 := Nat.div_le_self _ _
      refine b_129_65 hq.sg ⟨fun z => ⟨nz, ?_⟩, fun z => ⟨nz, ?_⟩⟩
      · rw [d1, nI_l (by omega), if_pos z]
        exact lpw _ _ _ 0 (Nat.zero_le _)
      · rw [d2, nI_l (by omega), if_neg z]
        exact lpw _ _ _ 0 (Nat.zero_le _)
    have down : ∀ c, c ≤ 100 → 1 ≤ c → cmn (100 - B) c = cmn (100 - B) 100 → ∀ z5 z6 z7 z8 z9, Ev 129 38 [.ref 0, .int (nI n), .int y, .int (nI (100 - B)), .int (nI c), z5, z6, z7, z8, z9] [] σ (some (.long (lN (if y = 0 then ((100 - B) / cmn (100 - B) 100) ^ n else (100 / cmn (100 - B) 100) ^ n))), σ) := by
      intro c
      induction c with
      | zero => intro _ h; omega
      | succ c ih =>
        intro hc _ he z5 z6 z7 z8 z9
        have he' : (if 1 < c + 1 ∧ ¬ ((100 - B) % (c + 1) = 0 ∧ 100 % (c + 1) = 0) then cmn (100 - B) c else c + 1) = cmn (100 - B) 100 := he
        refine b_129_38 hq.sg ?_
        have r1 : nI (100 - B) - nI (100 - B) / nI (c + 1) * nI (c + 1) = nI ((100 - B) % (c + 1)) := pk_rem (by omega) (by omega) (by omega)
        have r2 : (100 : Int32) - 100 / nI (c + 1) * nI (c + 1) = nI (100 % (c + 1)) := pk_rem (a := 100) (by omega) (by omega) (by omega)
        have m1 : (100 - B) % (c + 1) < c + 1 := Nat.mod_lt _ (by omega)
        have m2 : 100 % (c + 1) < c + 1 := Nat.mod_lt _ (by omega)
        have nz : ¬ nI (c + 1) = 0 := fun z => by rw [nI_i0 (by omega)] at z; omega
        rw [r1, r2, nI_m1 (n := c + 1) (by omega), Nat.add_sub_cancel]
        refine pk_lt 1 (c + 1) (fun h1 => ⟨nz, w_p (nI_i0 (by omega)) (fun h2 => ⟨nz, w_p (nI_i0 (by omega)) (fun h3 => ?_) (fun h3 => ?_)⟩) (fun h2 => ?_)⟩) (fun h1 => ?_) rfl rfl (by omega) (by omega)
        · rw [if_neg (fun z => z.2 ⟨h2, h3⟩)] at he'
          rw [he']; exact end65 _ _ _ _ _
        · rw [if_pos ⟨h1, fun z => h3 z.2⟩] at he'
          exact ih (by omega) (by omega) he' _ _ _ _ _
        · rw [if_pos ⟨h1, fun z => h2 z.1⟩] at he'
          exact ih (by omega) (by omega) he' _ _ _ _ _
        · rw [if_neg (fun z => absurd z.1 (by omega))] at he'
          rw [he']; exact end65 _ _ _ _ _
    exact down 100 (by omega) (by omega) rfl _ _ _ _ _
  · have S := hq.th.sg
    refine ck_252 hq.sg (b_252_0 hq.sg ⟨_, _, c_152y S hx, S, fun z => absurd z n10, fun _ => ⟨_, _, c_152y S hy, S, fun z => absurd z n10, fun _ => ?_⟩⟩)
    have e64 : mI (uI σ 59 2 0) 64 0 = nI B := hB ▸ hq.th.mt.2.1
    have u63 : (100 - B) ^ n < 2 ^ 63 := pw _ (by omega) n hn6
    have l63 : 100 ^ n < 2 ^ 63 := pw _ (by omega) n hn6
    have gpos : 0 < Nat.gcd (100 ^ n) ((100 - B) ^ n) := Nat.gcd_pos_of_pos_left _ (Nat.pow_pos (by decide))
    have gle : Nat.gcd (100 ^ n) ((100 - B) ^ n) ≤ 100 ^ n := Nat.gcd_le_left _ (Nat.pow_pos (by decide))
    -- the greatest common part
    have eu : ∀ b a, a < 2 ^ 63 → b < 2 ^ 63 → Nat.gcd a b = Nat.gcd (100 ^ n) ((100 - B) ^ n) → ∀ z11 z12, Ev 252 76 [.ref 59, .int (nI n), .int y, .long (lN ((100 - B) ^ n)), .float 0, .long (lN (100 ^ n)), .float 0, .long (lN a), .float 0, .long (lN b), .float 0, z11, z12] [] (uI σ 59 2 0) (some (.long (lN (if y = 0 then ((100 - B) / cmn (100 - B) 100) ^ n else (100 / cmn (100 - B) 100) ^ n))), uI σ 59 2 0) := by
      intro b
      induction b using Nat.strongRecOn with
      | _ b ih =>
        intro a ha hb2 hg z11 z12
        refine b_252_76 S (w_p (lN_eq0 hb2) (fun b0 => ?_) (fun b0 => ⟨fun z => b0 ((lN_eq0 hb2).mp z), ?_⟩))
        · subst b0
          rw [Nat.gcd_zero_right] at hg
          have na : ¬ lN a = 0 := fun z => by
            have := (lN_eq0 ha).mp z
            omega
          refine ⟨fun z => ⟨na, ?_⟩, fun z => ⟨na, ?_⟩⟩
          · rw [if_pos z, pk_lDiv u63 (by omega) ha, hg, a2]
          · rw [if_neg z, pk_lDiv l63 (by omega) ha, hg, a3]
        · have hbp : 0 < b := by omega
          rw [pk_lRem ha hbp hb2]
          have hm := Nat.mod_lt a hbp
          refine ih (a % b) hm b hb2 (by omega) ?_ _ _
          rw [Nat.gcd_comm b, ← Nat.gcd_rec, Nat.gcd_comm]
          exact hg
    have lpw : ∀ z8 z9 z10 z11 z12, ∀ k, k ≤ n → Ev 252 36 [.ref 59, .int (nI n), .int y, .long (lN ((100 - B) ^ k)), .float 0, .long (lN (100 ^ k)), .float 0, .int (nI k), z8, z9, z10, z11, z12] [] (uI σ 59 2 0) (some (.long (lN (if y = 0 then ((100 - B) / cmn (100 - B) 100) ^ n else (100 / cmn (100 - B) 100) ^ n))), uI σ 59 2 0) := by
      intro z8 z9 z10 z11 z12
      refine up_to _ n ?_ ?_
      · intro k hk ih
        refine b_252_36 S ?_
        rw [e64, ei, nI_l (by omega), lN_mul, show (100 : Int64) = lN 100 from rfl, lN_mul, nI_1, ← Nat.pow_succ, ← Nat.pow_succ]
        exact pk_lt k n (fun _ => ih) (fun z => absurd z (by omega)) rfl rfl (by omega) (by omega)
      · exact b_252_36 S (pk_lt n n (fun z => absurd z (Nat.lt_irrefl _)) (fun _ => eu _ _ l63 u63 rfl _ _) rfl rfl (by omega) (by omega))
    exact lpw _ _ _ _ _ 0 (Nat.zero_le _)
end Q5
