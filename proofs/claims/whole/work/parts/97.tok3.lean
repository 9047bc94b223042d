/-! ===== tokens, second side ===== -/
def RM (σ : Mm) (B : Nat → Nat) (n : Nat) : Prop := n ≤ 700 ∧ mI σ 59 6 = nI n ∧ (∀ i, i < n → B i < 256 ∧ mI σ 60 i = nI (B i)) ∧ ∀ i, i < 101 → mI σ 61 i = nI (wdl.getD i 0)
def Wz (x i : Nat) : Prop := x = 59 ∧ (i = 7 ∨ i = 8 ∨ i = 9 ∨ i = 10)
def Wy (x i : Nat) : Prop := x = 59 ∧ (i = 7 ∨ i = 8 ∨ i = 9)
theorem wy_z {x i : Nat} (h : Wy x i) : Wz x i := by unfold Wy at h; unfold Wz; omega
def smC (k : Nat) : Bool := decide (k = 35) || decide (k = 36) || decide (k = 37) || decide (k = 41) || decide (k = 42) || decide (k = 43)
def smW (k : Nat) : Nat := [43, 45, 42, 47, 0, 2, 5, 40, 41, 59, 1, 3, 4].getD (k - 31) 0
/-- the same token on both sides -/
def TR (k v : Nat) (km wm : Int32) : Prop := (k = 0 ∧ km = 0) ∨ (k = 1 ∧ (km = 6 ∨ (km = 4 ∧ wm = 37))) ∨ (k = 2 ∧ km = 3 ∧ ∃ u, u ≤ 999999 ∧ wm = nI u ∧ (u = v ∨ (99999 < v ∧ 99999 < u))) ∨ (k = 3 ∧ km = 2 ∧ wm = nI v) ∨ (10 ≤ k ∧ k ≤ 30 ∧ km = 1 ∧ wm = nI (wx (k - 10))) ∨ (31 ≤ k ∧ k ≤ 43 ∧ km = (if smC k = true then 5 else 4) ∧ wm = nI (smW k))
section TokM
variable {t n : Nat} {σ σ' : Mm} {B : Nat → Nat} {W : Nat → Nat → Prop}
theorem RM.fr (h : RM σ B n) (hf : Fr W σ σ') (hW : ∀ x i, ((x = 59 ∧ i = 6) ∨ x = 60 ∨ x = 61) → ¬ W x i) : RM σ' B n := by
  have r : ∀ x i, ((x = 59 ∧ i = 6) ∨ x = 60 ∨ x = 61) → mI σ' x i = mI σ x i := fun x i h => (hf.1 x i (hW x i h)).1
  refine ⟨h.1, (r 59 6 (by omega)).trans h.2.1, fun i hi => ?_, fun i hi => ?_⟩
  · rw [r 60 i (by omega)]; exact h.2.2.1 i hi
  · rw [r 61 i (by omega)]; exact h.2.2.2 i hi
theorem RM.fz (h : RM σ B n) (hf : Fr Wz σ σ') : RM σ' B n := h.fr hf (fun x i h z => by unfold Wz at z; omega)
theorem RM.lt (h : RM σ B n) (i : Nat) : b0 B n i < 256 := by
  unfold b0
  split
  · rename_i g; exact (h.2.2.1 i g).1
  · decide
theorem c_156 {p : Nat} (hS : Sg t σ) (h : RM σ B n) (hp : p < 2 ^ 31) : Cl 156 [.ref 59, .int (nI p)] σ (some (.int (if kLe (b0 B n p) = true then 1 else 0)), σ) := by
  have h1 := h.1
  refine ck_156 hS (b_156_0 hS ?_)
  rw [h.2.1]
  refine pk_lt p n (fun g => ⟨inb_nI (by omega) (by decide), ?_⟩) (fun g => ?_) rfl rfl hp (by omega)
  · rw [nI_clamp hp, (h.2.2.1 p g).2, show b0 B n p = B p from if_pos g]
    have hb := (h.2.2.1 p g).1
    refine pk_lt (B p) 97 (fun g1 => ?_) (fun g1 => ⟨inb_nI (by omega) (by decide), pk_lt 122 (B p) (fun g2 => ?_) (fun g2 => ?_) rfl rfl (by decide) (by omega)⟩) rfl rfl (by omega) (by decide)
    · rw [if_neg (fun z => by have := kLe_i.mp z; omega)]
    · rw [if_neg (fun z => by have := kLe_i.mp z; omega)]
    · rw [if_pos (kLe_i.mpr ⟨by omega, by omega⟩)]
  · rw [show b0 B n p = 0 from if_neg (by omega)]
    rfl
theorem c_157 {p : Nat} (hS : Sg t σ) (h : RM σ B n) (hp : p < 2 ^ 31) : Cl 157 [.ref 59, .int (nI p)] σ (some (.int (if kDg (b0 B n p) = true then 1 else 0)), σ) := by
  have h1 := h.1
  refine ck_157 hS (b_157_0 hS ?_)
  rw [h.2.1]
  refine pk_lt p n (fun g => ⟨inb_nI (by omega) (by decide), ?_⟩) (fun g => ?_) rfl rfl hp (by omega)
  · rw [nI_clamp hp, (h.2.2.1 p g).2, show b0 B n p = B p from if_pos g]
    have hb := (h.2.2.1 p g).1
    refine pk_lt (B p) 48 (fun g1 => ?_) (fun g1 => ⟨inb_nI (by omega) (by decide), pk_lt 57 (B p) (fun g2 => ?_) (fun g2 => ?_) rfl rfl (by decide) (by omega)⟩) rfl rfl (by omega) (by decide)
    · rw [if_neg (fun z => by have := kDg_i.mp z; omega)]
    · rw [if_neg (fun z => by have := kDg_i.mp z; omega)]
    · rw [if_pos (kDg_i.mpr ⟨by omega, by omega⟩)]
  · rw [show b0 B n p = 0 from if_neg (by omega)]
    rfl
/-- which word stands from a on -/
theorem c_155 {a len : Nat} (hS : Sg t σ) (h : RM σ B n) (hb : a + len ≤ n) : Cl 155 [.ref 59, .int (nI a), .int (nI (a + len))] σ (some (.int (if fa_first (mtc B a len) 21 < 21 then nI (fa_first (mtc B a len) 21) else -1)), σ) := by
  have hn := h.1
  have ex : nI (a + len) - nI a = nI len := by rw [pk_sub (by omega)]; congr 1; omega
  generalize er : (if fa_first (mtc B a len) 21 < 21 then nI (fa_first (mtc B a len) 21) else -1) = r
  refine ck_155 hS (b_155_0 hS ?_)
  have main : ∀ k, k ≤ 21 → (∀ j, j < k → mtc B a len j = false) → ∀ z5 z6 z7 : Value, Ev 155 5 [.ref 59, .int (nI a), .int (nI (a + len)), .int (nI k), .int (nI (wst k)), z5, z6, z7] [] σ (some (.int r), σ) := by
    refine up_to (fun k => (∀ j, j < k → mtc B a len j = false) → ∀ z5 z6 z7 : Value, Ev 155 5 [.ref 59, .int (nI a), .int (nI (a + len)), .int (nI k), .int (nI (wst k)), z5, z6, z7] [] σ (some (.int r), σ)) 21 ?_ ?_
    · intro k hk ih hnk z5 z6 z7
      obtain ⟨w0, w1, w2, w3, _, _, w4, _, _⟩ := wl_tab k hk
      have w32 := wl_32 k hk
      have rd : ∀ i, i ≤ wln k → mI σ 61 (nI (wst k) + nI i).toNatClampNeg = nI (wdl.getD (wst k + i) 0) := by
        intro i hi
        rw [nI_add, nI_clamp (by omega)]
        exact h.2.2.2 _ (by omega)
      have hw : ∀ i, wdl.getD i 0 < 256 := by
        intro i
        rcases Nat.lt_or_ge i 101 with g | g
        · exact (by decide +kernel : ∀ i, i < 101 → wdl.getD i 0 < 256) i g
        · rw [List.getD_eq_getElem?_getD, List.getElem?_eq_none g]; decide
      -- not this one
      have fail : mtc B a len k = false → ∀ i, i ≤ wln k → Ev 155 57 [.ref 59, .int (nI a), .int (nI (a + len)), .int (nI k), .int (nI (wst k)), .int (nI (wln k)), .int 0, .int (nI i)] [] σ (some (.int r), σ) := by
        intro hf i hi
        have e : ∀ y5 y6 y7 : Value, Ev 155 5 [.ref 59, .int (nI a), .int (nI (a + len)), .int (nI k + 1), .int (nI (wst k) + (nI (wln k) + 1)), y5, y6, y7] [] σ (some (.int r), σ) := by
          intro y5 y6 y7
          rw [nI_1, nI_1, nI_add, ← w4]
          refine ih (fun j hj => ?_) y5 y6 y7
          rcases Nat.lt_or_ge j k with g | g
          · exact hnk j g
          · rw [show j = k by omega]; exact hf
        refine b_155_57 hS ⟨fun _ => ⟨fun _ => ⟨fun _ => e _ _ _, fun z => absurd rfl z⟩, fun z => absurd rfl z⟩, fun _ => ⟨fun _ => e _ _ _, fun z => absurd rfl z⟩⟩
      have good : wln k = len → ∀ i, i ≤ wln k → (∀ j, j < i → wdl.getD (wst k + j) 0 = B (a + j)) → Ev 155 57 [.ref 59, .int (nI a), .int (nI (a + len)), .int (nI k), .int (nI (wst k)), .int (nI (wln k)), .int 1, .int (nI i)] [] σ (some (.int r), σ) := by
        intro hlen
        refine up_to (fun i => (∀ j, j < i → wdl.getD (wst k + j) 0 = B (a + j)) → Ev 155 57 [.ref 59, .int (nI a), .int (nI (a + len)), .int (nI k), .int (nI (wst k)), .int (nI (wln k)), .int 1, .int (nI i)] [] σ (some (.int r), σ)) (wln k) ?_ ?_
        · intro i hi ih2 hj
          have hB := h.2.2.1 (a + i) (by omega)
          refine b_155_57 hS (pk_lt i (wln k) (fun _ => ⟨fun z => absurd z (by decide), fun _ => ⟨?_, ?_, ?_⟩⟩) (fun z => absurd z (by omega)))
          · rw [nI_add]; exact inb_nI (by omega) (by decide)
          · rw [nI_add]; exact inb_nI (by omega) (by decide)
          · rw [rd i (by omega), nI_add, nI_clamp (by omega), hB.2]
            refine w_p (nI_eq (by have := hw (wst k + i); omega) (by omega)) (fun z => ?_) (fun z => ?_)
            · rw [nI_1]
              refine ih2 (fun j hj2 => ?_)
              rcases Nat.lt_or_ge j i with g | g
              · exact hj j g
              · rw [show j = i by omega]; exact z
            · rw [nI_1]
              refine fail ?_ (i + 1) (by omega)
              apply bf
              intro hm
              unfold mtc at hm
              simp only [Bool.and_eq_true, decide_eq_true_eq, List.all_eq_true, List.mem_range] at hm
              exact z (hm.2 i hi)
        · intro hj
          have hm : mtc B a len k = true := by
            unfold mtc
            simp only [Bool.and_eq_true, decide_eq_true_eq, List.all_eq_true, List.mem_range]
            exact ⟨hlen, hj⟩
          have e1 : r = nI k := by
            rw [← er, first_is hk hm hnk, if_pos hk]
          rw [e1]
          exact b_155_57 hS (pk_lt (wln k) (wln k) (fun z => absurd z (Nat.lt_irrefl _)) (fun _ => ⟨fun z => absurd z (by decide), fun _ => rfl⟩) rfl rfl (by omega) (by omega))
      have len18 : ∀ i, i ≤ wln k → ∀ y6 y7 : Value, Ev 155 18 [.ref 59, .int (nI a), .int (nI (a + len)), .int (nI k), .int (nI (wst k)), .int (nI i), y6, y7] [] σ (some (.int r), σ) := by
        refine up_to (fun i => ∀ y6 y7 : Value, Ev 155 18 [.ref 59, .int (nI a), .int (nI (a + len)), .int (nI k), .int (nI (wst k)), .int (nI i), y6, y7] [] σ (some (.int r), σ)) (wln k) ?_ ?_
        · intro i hi ih2 y6 y7
          refine b_155_18 hS ⟨by rw [nI_add]; exact inb_nI (by omega) (by decide), ?_⟩
          rw [rd i (by omega)]
          refine ⟨fun z => absurd ((nI_eq (b := 32) (by have := hw (wst k + i); omega) (by decide)).mp z) (w32 i hi), fun _ => ?_⟩
          rw [nI_1]
          exact ih2 y6 y7
        · intro y6 y7
          refine b_155_18 hS ⟨by rw [nI_add]; exact inb_nI (by omega) (by decide), ?_⟩
          rw [rd (wln k) (Nat.le_refl _), w3, ex]
          refine ⟨fun _ => w_p (nI_eq (by omega) (by omega)) (fun z => ?_) (fun z => ?_), fun z => absurd rfl z⟩
          · exact good z 0 (Nat.zero_le _) (fun j hj => absurd hj (Nat.not_lt_zero j))
          · refine fail ?_ 0 (Nat.zero_le _)
            unfold mtc
            rw [decide_eq_false z]
            rfl
      exact b_155_5 hS (pk_lt (wst k) 101 (fun _ => len18 0 (Nat.zero_le _) z6 z7) (fun z => absurd z (by omega)) rfl rfl (by omega) (by decide))
    · intro hnk z5 z6 z7
      have e1 : r = -1 := by
        rw [← er, first_end hnk]; rfl
      rw [e1]
      exact b_155_5 hS ⟨fun z => absurd z (by decide), fun _ => rfl⟩
  exact main 0 (by decide) (fun j hj => absurd hj (Nat.not_lt_zero j)) _ _ _
theorem c_160 {a len : Nat} (hS : Sg t σ) (h : RM σ B n) (hb : a + len ≤ n) (hl : ∀ i, i < len → kLe (B (a + i)) = true) : Cl 160 [.ref 59, .int (nI a), .int (nI (a + len))] σ (some (.int (nI (pv B a len))), σ) := by
  have hn := h.1
  have e6 : nI a + 6 = nI (a + 6) := nI_add a 6
  refine ck_160 hS (b_160_0 hS ?_)
  have hq : ∀ i, i ≤ 6 → pq B a len i < 2 ^ (5 * i) := by
    intro i
    induction i with
    | zero => intro _; exact Nat.one_pos
    | succ i ih =>
      intro hi
      have h1 := ih (by omega)
      have h2 := dg_lt (B := B) (a := a) (len := len) (i := i) hl
      show 32 * pq B a len i + dg B a len i < _
      rw [show 5 * (i + 1) = 5 * i + 5 by omega, Nat.pow_add]
      omega
  have main : ∀ i, i ≤ 6 → Ev 160 5 [.ref 59, .int (nI a), .int (nI (a + len)), .int (nI (pq B a len i)), .int (nI (a + i))] [] σ (some (.int (nI (pv B a len))), σ) := by
    refine up_to (fun i => Ev 160 5 [.ref 59, .int (nI a), .int (nI (a + len)), .int (nI (pq B a len i)), .int (nI (a + i))] [] σ (some (.int (nI (pv B a len))), σ)) 6 ?_ ?_
    · intro i hi ih
      have h2 := dg_lt (B := B) (a := a) (len := len) (i := i) hl
      have h3 := hq i (by omega)
      have h4 : 2 ^ (5 * i) ≤ 2 ^ 25 := Nat.pow_le_pow_right (by decide) (by omega)
      have es : nI (pq B a len i) <<< ((5 : Int32) &&& 31) = nI (2 ^ 5 * pq B a len i) := by
        rw [Nat.mul_comm]
        exact nI_shl (n := pq B a len i) (k := 5) (by decide) (by omega)
      have eq : pq B a len (i + 1) = 2 ^ 5 * pq B a len i + dg B a len i := rfl
      rw [eq, ← fa_or_sum (k := 5) (pq B a len i) (show dg B a len i < 2 ^ 5 by omega)] at ih
      refine b_160_5 hS ?_
      rw [e6, es, nI_1]
      refine pk_lt (a + i) (a + 6) (fun _ => pk_lt (a + i) (a + len) (fun g => ⟨inb_nI (by omega) (by decide), ?_⟩) (fun g => ?_) rfl rfl (by omega) (by omega)) (fun z => absurd z (by omega)) rfl rfl (by omega) (by omega)
      · have hB := kLe_i.mp (hl i (by omega))
        rw [nI_clamp (by omega), (h.2.2.1 (a + i) (by omega)).2, show (96 : Int32) = nI 96 from rfl, pk_sub (by omega)]
        unfold dg at ih
        rw [if_pos (by omega)] at ih
        exact ih
      · unfold dg at ih
        rw [if_neg (by omega)] at ih
        exact ih
    · refine b_160_5 hS ?_
      rw [e6]
      exact pk_lt (a + 6) (a + 6) (fun z => absurd z (Nat.lt_irrefl _)) (fun _ => rfl) rfl rfl (by omega) (by omega)
  exact main 0 (by decide)
theorem TR_sg {b : Nat} (h : b = 59 ∨ b = 40 ∨ b = 41 ∨ b = 43 ∨ b = 45 ∨ b = 42 ∨ b = 47 ∨ b = 37) {v : Nat} : TR (kSg b) v 4 (nI b) := by
  rcases h with rfl | rfl | rfl | rfl | rfl | rfl | rfl | rfl
  · exact Or.inr (Or.inr (Or.inr (Or.inr (Or.inr ⟨by decide, by decide, by decide, by decide⟩))))
  · exact Or.inr (Or.inr (Or.inr (Or.inr (Or.inr ⟨by decide, by decide, by decide, by decide⟩))))
  · exact Or.inr (Or.inr (Or.inr (Or.inr (Or.inr ⟨by decide, by decide, by decide, by decide⟩))))
  · exact Or.inr (Or.inr (Or.inr (Or.inr (Or.inr ⟨by decide, by decide, by decide, by decide⟩))))
  · exact Or.inr (Or.inr (Or.inr (Or.inr (Or.inr ⟨by decide, by decide, by decide, by decide⟩))))
  · exact Or.inr (Or.inr (Or.inr (Or.inr (Or.inr ⟨by decide, by decide, by decide, by decide⟩))))
  · exact Or.inr (Or.inr (Or.inr (Or.inr (Or.inr ⟨by decide, by decide, by decide, by decide⟩))))
  · exact Or.inr (Or.inl ⟨by decide, Or.inr ⟨rfl, by decide⟩⟩)
theorem kSg_no {b : Nat} (h : ¬ (b = 60 ∨ b = 61 ∨ b = 62)) (h2 : ¬ (b = 59 ∨ b = 40 ∨ b = 41 ∨ b = 43 ∨ b = 45 ∨ b = 42 ∨ b = 47 ∨ b = 37)) : kSg b = 1 := by
  unfold kSg
  repeat' split
  all_goals omega
/-- a sign -/
theorem c_159 {s : Nat} (hS : Sg t σ) (h : RM σ B n) (hs : s < n) (h7 : mI σ 59 7 = nI s) : ∃ σ', Cl 159 [.ref 59] σ (none, σ') ∧ Fr Wy σ σ' ∧ mI σ' 59 7 = nI (if 40 < kS2 (B s) (b0 B n (s + 1)) then s + 2 else s + 1) ∧ TR (kS2 (B s) (b0 B n (s + 1))) 0 (mI σ' 59 8) (mI σ' 59 9) := by
  have hn := h.1
  have hB := h.2.2.1 s hs
  have hb := hB.1
  have hc := h.lt (s + 1)
  suffices hh : ∃ σ', Ev 159 0 [.ref 59, .retAddr 0, .retAddr 0, .retAddr 0] [] σ (none, σ') ∧ Fr Wy σ σ' ∧ mI σ' 59 7 = nI (if 40 < kS2 (B s) (b0 B n (s + 1)) then s + 2 else s + 1) ∧ TR (kS2 (B s) (b0 B n (s + 1))) 0 (mI σ' 59 8) (mI σ' 59 9) by
    obtain ⟨σ', h1, r⟩ := hh
    exact ⟨σ', ck_159 hS h1, r⟩
  generalize eτ : uI (uI σ 59 9 (nI (B s))) 59 7 (nI (s + 1)) = τ
  have F : Fr Wy σ τ := by rw [← eτ]; exact ((Fr.rf σ).uI ⟨rfl, by omega⟩).uI ⟨rfl, by omega⟩
  have St := F.sg hS
  have Rt := h.fz (F.mono (fun _ _ h => wy_z h))
  have t7 : mI τ 59 7 = nI (s + 1) := by rw [← eτ, mI_s]
  have t9 : mI τ 59 9 = nI (B s) := by rw [← eτ, mI_n (by decide), mI_s]
  have e0 : ∀ σ1, σ1 = uI σ 59 9 (mI σ 60 (mI σ 59 7).toNatClampNeg) → uI σ1 59 7 (mI σ1 59 7 + 1) = τ := by
    intro σ1 q1
    rw [h7, nI_clamp (by omega), hB.2] at q1
    rw [q1, mI_n (by decide), h7, nI_1, eτ]
  have hin : inb (mI σ 59 7) 700 = true := by rw [h7]; exact inb_nI (by omega) (by decide)
  have hc2 : s + 1 < n → mI τ 60 (nI (s + 1)).toNatClampNeg = nI (b0 B n (s + 1)) := by
    intro g
    rw [nI_clamp (by omega), (Rt.2.2.1 (s + 1) g).2, show b0 B n (s + 1) = B (s + 1) from if_pos g]
  have hc3 : n ≤ s + 1 → b0 B n (s + 1) = 0 := fun g => if_neg (by omega)
  generalize b0 B n (s + 1) = c at hc hc2 hc3
  generalize hbs : B s = b at hb t9 hB eτ
  have ib : ∀ k, k < 256 → (nI b = nI k ↔ b = k) := fun k hk => nI_eq (by omega) (by omega)
  have ic : ∀ k, k < 256 → (nI c = nI k ↔ c = k) := fun k hk => nI_eq (by omega) (by omega)
  by_cases hcmp : b = 60 ∨ b = 61 ∨ b = 62
  · -- a comparison
    have go : ∀ w, (∀ z1 z2 z3 : Value, Ev 159 74 [.ref 59, z1, z2, z3] [.int (nI c)] τ w) → Ev 159 0 [.ref 59, .retAddr 0, .retAddr 0, .retAddr 0] [] σ w := by
      intro w hw
      refine b_159_0 hS ⟨hin, fun σ1 q1 => ?_⟩
      rw [e0 σ1 q1, t9, t7, Rt.2.1]
      have one : ((nI (s + 1) < nI n → inb (nI (s + 1)) 700 = true ∧ Ev 159 74 [.ref 59, .retAddr 0, .retAddr 0, .retAddr 0] [.int (mI τ 60 (nI (s + 1)).toNatClampNeg)] τ w) ∧ (¬ nI (s + 1) < nI n → Ev 159 74 [.ref 59, .retAddr 0, .retAddr 0, .retAddr 0] [.int 0] τ w)) := by
        refine pk_lt (s + 1) n (fun g => ⟨inb_nI (by omega) (by decide), ?_⟩) (fun g => ?_) rfl rfl (by omega) (by omega)
        · rw [hc2 g]; exact hw _ _ _
        · have := hw (.retAddr 0) (.retAddr 0) (.retAddr 0)
          rw [hc3 g] at this
          exact this
      refine ⟨fun _ => one, fun z1 => ⟨fun _ => one, fun z2 => ⟨fun _ => one, fun z3 => ?_⟩⟩⟩
      rcases hcmp with e | e | e
      · exact absurd ((ib 60 (by decide)).mpr e) z1
      · exact absurd ((ib 61 (by decide)).mpr e) z3
      · exact absurd ((ib 62 (by decide)).mpr e) z2
    have end1 : ∀ (X : Nat), TR (kS2 b c) 0 5 (nI X) → ¬ 40 < kS2 b c → Fr Wy σ (uI (uI τ 59 8 5) 59 9 (nI X)) ∧ mI (uI (uI τ 59 8 5) 59 9 (nI X)) 59 7 = nI (if 40 < kS2 b c then s + 2 else s + 1) ∧ TR (kS2 b c) 0 (mI (uI (uI τ 59 8 5) 59 9 (nI X)) 59 8) (mI (uI (uI τ 59 8 5) 59 9 (nI X)) 59 9) := by
      intro X hT hK
      refine ⟨(F.uI ⟨rfl, by omega⟩).uI ⟨rfl, by omega⟩, ?_, ?_⟩
      · rw [mI_n (by decide), mI_n (by decide), t7, if_neg hK]
      · rw [mI_s, mI_n (by decide), mI_s]; exact hT
    have end2 : ∀ (X : Nat), TR (kS2 b c) 0 5 (nI X) → 40 < kS2 b c → Fr Wy σ (uI (uI (uI τ 59 7 (nI (s + 2))) 59 8 5) 59 9 (nI X)) ∧ mI (uI (uI (uI τ 59 7 (nI (s + 2))) 59 8 5) 59 9 (nI X)) 59 7 = nI (if 40 < kS2 b c then s + 2 else s + 1) ∧ TR (kS2 b c) 0 (mI (uI (uI (uI τ 59 7 (nI (s + 2))) 59 8 5) 59 9 (nI X)) 59 8) (mI (uI (uI (uI τ 59 7 (nI (s + 2))) 59 8 5) 59 9 (nI X)) 59 9) := by
      intro X hT hK
      refine ⟨((F.uI ⟨rfl, by omega⟩).uI ⟨rfl, by omega⟩).uI ⟨rfl, by omega⟩, ?_, ?_⟩
      · rw [mI_n (by decide), mI_n (by decide), mI_s, if_pos hK]
      · rw [mI_s, mI_n (by decide), mI_s]; exact hT
    have up7 : uI τ 59 7 (mI τ 59 7 + 1) = uI τ 59 7 (nI (s + 2)) := by rw [t7, nI_1]
    have u9 : mI (uI τ 59 8 5) 59 9 = nI b := by rw [mI_n (by decide), t9]
    have u9' : mI (uI (uI τ 59 7 (nI (s + 2))) 59 8 5) 59 9 = nI b := by rw [mI_n (by decide), mI_n (by decide), t9]
    have n60 : ∀ k, k < 256 → b ≠ k → ¬ nI b = nI k := fun k hk e z => e ((ib k hk).mp z)
    have m60 : ∀ k, k < 256 → c ≠ k → ¬ nI c = nI k := fun k hk e z => e ((ic k hk).mp z)
    have Tm : ∀ K X, 31 ≤ K → K ≤ 43 → smC K = true → smW K = X → TR K 0 5 (nI X) := by
      intro K X a1 a2 a3 a4
      refine Or.inr (Or.inr (Or.inr (Or.inr (Or.inr ⟨a1, a2, ?_, ?_⟩))))
      · rw [if_pos a3]
      · rw [a4]
    by_cases e61 : b = 61
    · have ek : kS2 b c = 36 := by rw [e61]; unfold kS2; rw [if_neg (by omega), if_neg (by omega), if_neg (by omega)]; rfl
      refine ⟨_, go _ (fun z1 z2 z3 => b_159_74 St ?_), end1 2 (by rw [ek]; exact Tm 36 2 (by decide) (by decide) (by decide) (by decide)) (by rw [ek]; decide)⟩
      rw [t9]
      refine ⟨fun _ => ⟨fun z => absurd z (n60 60 (by decide) (by omega)), fun _ => b_159_116 St ⟨fun _ => ⟨fun _ => b_159_135 St ?_, fun z => absurd rfl z⟩, fun z => absurd rfl z⟩⟩, fun z => absurd ((ib 61 (by decide)).mpr e61) z⟩
      rw [u9]
      exact ⟨fun _ => rfl, fun z => absurd ((ib 61 (by decide)).mpr e61) z⟩
    · have x61 := n60 61 (by decide) e61
      by_cases e60 : b = 60
      · have y60 := (ib 60 (by decide)).mpr e60
        by_cases c61 : c = 61
        · have ek : kS2 b c = 41 := by unfold kS2; rw [if_pos ⟨e60, c61⟩]
          refine ⟨_, go _ (fun z1 z2 z3 => b_159_74 St ?_), end2 1 (by rw [ek]; exact Tm 41 1 (by decide) (by decide) (by decide) (by decide)) (by rw [ek]; decide)⟩
          rw [t9]
          refine ⟨fun z => absurd z x61, fun _ => ⟨fun _ => ⟨fun _ => ⟨fun z => absurd z (m60 62 (by decide) (by omega)), fun _ => b_159_116 St ⟨fun z => absurd z (by decide), fun _ => ?_⟩⟩, fun z => absurd y60 z⟩, fun z => absurd ((ic 61 (by decide)).mpr c61) z⟩⟩
          rw [up7]
          refine b_159_135 (St.uI) ?_
          rw [u9']
          exact ⟨fun z => absurd z x61, fun _ => ⟨fun _ => ⟨fun z => absurd z (by decide), fun _ => rfl⟩, fun z => absurd y60 z⟩⟩
        · have xc := m60 61 (by decide) c61
          by_cases c62 : c = 62
          · have ek : kS2 b c = 42 := by unfold kS2; rw [if_neg (by omega), if_pos ⟨e60, c62⟩]
            refine ⟨_, go _ (fun z1 z2 z3 => b_159_74 St ?_), end2 3 (by rw [ek]; exact Tm 42 3 (by decide) (by decide) (by decide) (by decide)) (by rw [ek]; decide)⟩
            rw [t9]
            refine ⟨fun z => absurd z x61, fun _ => ⟨fun z => absurd z xc, fun _ => ⟨fun _ => ⟨fun _ => b_159_116 St ⟨fun _ => ⟨fun z => absurd z (by decide), fun _ => ?_⟩, fun z => absurd rfl z⟩, fun z => absurd ((ic 62 (by decide)).mpr c62) z⟩, fun z => absurd y60 z⟩⟩⟩
            rw [up7]
            refine b_159_135 (St.uI) ?_
            rw [u9']
            exact ⟨fun z => absurd z x61, fun _ => ⟨fun _ => ⟨fun _ => ⟨fun z => absurd z (by decide), fun _ => rfl⟩, fun z => absurd rfl z⟩, fun z => absurd y60 z⟩⟩
          · have ek : kS2 b c = 35 := by unfold kS2; rw [if_neg (by omega), if_neg (by omega), if_neg (by omega), e60]; rfl
            refine ⟨_, go _ (fun z1 z2 z3 => b_159_74 St ?_), end1 0 (by rw [ek]; exact Tm 35 0 (by decide) (by decide) (by decide) (by decide)) (by rw [ek]; decide)⟩
            rw [t9]
            refine ⟨fun z => absurd z x61, fun _ => ⟨fun z => absurd z xc, fun _ => ⟨fun _ => ⟨fun z => absurd z (m60 62 (by decide) c62), fun _ => b_159_116 St ⟨fun _ => ⟨fun _ => b_159_135 St ?_, fun z => absurd rfl z⟩, fun z => absurd rfl z⟩⟩, fun z => absurd y60 z⟩⟩⟩
            rw [u9]
            exact ⟨fun z => absurd z x61, fun _ => ⟨fun _ => ⟨fun _ => ⟨fun _ => rfl, fun z => absurd rfl z⟩, fun z => absurd rfl z⟩, fun z => absurd y60 z⟩⟩
      · have x60 := n60 60 (by decide) e60
        by_cases c61 : c = 61
        · have ek : kS2 b c = 43 := by unfold kS2; rw [if_neg (by omega), if_neg (by omega), if_pos ⟨by omega, c61⟩]
          refine ⟨_, go _ (fun z1 z2 z3 => b_159_74 St ?_), end2 4 (by rw [ek]; exact Tm 43 4 (by decide) (by decide) (by decide) (by decide)) (by rw [ek]; decide)⟩
          rw [t9]
          refine ⟨fun z => absurd z x61, fun _ => ⟨fun _ => ⟨fun z => absurd z x60, fun _ => b_159_116 St ⟨fun z => absurd z (by decide), fun _ => ?_⟩⟩, fun z => absurd ((ic 61 (by decide)).mpr c61) z⟩⟩
          rw [up7]
          refine b_159_135 (St.uI) ?_
          rw [u9']
          exact ⟨fun z => absurd z x61, fun _ => ⟨fun z => absurd z x60, fun _ => ⟨fun z => absurd z (by decide), fun _ => rfl⟩⟩⟩
        · have xc := m60 61 (by decide) c61
          have ek : kS2 b c = 37 := by unfold kS2; rw [if_neg (by omega), if_neg (by omega), if_neg (by omega), show b = 62 by omega]; rfl
          refine ⟨_, go _ (fun z1 z2 z3 => b_159_74 St ?_), end1 5 (by rw [ek]; exact Tm 37 5 (by decide) (by decide) (by decide) (by decide)) (by rw [ek]; decide)⟩
          rw [t9]
          refine ⟨fun z => absurd z x61, fun _ => ⟨fun z => absurd z xc, fun _ => ⟨fun z => absurd z x60, fun _ => b_159_116 St ⟨fun _ => ⟨fun _ => b_159_135 St ?_, fun z => absurd rfl z⟩, fun z => absurd rfl z⟩⟩⟩⟩
          rw [u9]
          exact ⟨fun z => absurd z x61, fun _ => ⟨fun z => absurd z x60, fun _ => ⟨fun _ => rfl, fun z => absurd rfl z⟩⟩⟩
  · -- another sign
    have ek : kS2 b c = kSg b := by unfold kS2; rw [if_neg (by omega), if_neg (by omega), if_neg (by omega)]
    have hk40 : ¬ 40 < kS2 b c := by have := kSg_lt b; omega
    have nn : ∀ k, k < 256 → b ≠ k → ¬ nI b = nI k := fun k hk e z => e ((ib k hk).mp z)
    have fin : ∀ K : Int32, TR (kS2 b c) 0 K (nI b) → Fr Wy σ (uI τ 59 8 K) ∧ mI (uI τ 59 8 K) 59 7 = nI (if 40 < kS2 b c then s + 2 else s + 1) ∧ TR (kS2 b c) 0 (mI (uI τ 59 8 K) 59 8) (mI (uI τ 59 8 K) 59 9) := by
      intro K hT
      refine ⟨F.uI ⟨rfl, by omega⟩, ?_, ?_⟩
      · rw [mI_n (by decide), t7, if_neg hk40]
      · rw [mI_s, mI_n (by decide), t9]; exact hT
    by_cases hsg : b = 59 ∨ b = 40 ∨ b = 41 ∨ b = 43 ∨ b = 45 ∨ b = 42 ∨ b = 47 ∨ b = 37
    · have e270 : Ev 159 270 [.ref 59, .retAddr 0, .retAddr 0, .retAddr 0] [] τ (none, uI τ 59 8 4) := b_159_270 St rfl
      refine ⟨_, b_159_0 hS ⟨hin, fun σ1 q1 => ?_⟩, fin 4 (by rw [ek]; exact TR_sg hsg)⟩
      rw [e0 σ1 q1, t9]
      refine ⟨fun z => absurd z (nn 60 (by decide) (by omega)), fun _ => ⟨fun z => absurd z (nn 62 (by decide) (by omega)), fun _ => ⟨fun z => absurd z (nn 61 (by decide) (by omega)), fun _ => ⟨fun _ => e270, fun z1 => ⟨fun _ => e270, fun z2 => ⟨fun _ => e270, fun z3 => ⟨fun _ => e270, fun z4 => ⟨fun _ => e270, fun z5 => b_159_243 St ?_⟩⟩⟩⟩⟩⟩⟩⟩
      rw [t9]
      refine ⟨fun _ => e270, fun z6 => ⟨fun _ => e270, fun z7 => ⟨fun _ => e270, fun z8 => ?_⟩⟩⟩
      rcases hsg with e | e | e | e | e | e | e | e
      · exact absurd ((ib 59 (by decide)).mpr e) z1
      · exact absurd ((ib 40 (by decide)).mpr e) z2
      · exact absurd ((ib 41 (by decide)).mpr e) z3
      · exact absurd ((ib 43 (by decide)).mpr e) z4
      · exact absurd ((ib 45 (by decide)).mpr e) z5
      · exact absurd ((ib 42 (by decide)).mpr e) z6
      · exact absurd ((ib 47 (by decide)).mpr e) z7
      · exact absurd ((ib 37 (by decide)).mpr e) z8
    · refine ⟨_, b_159_0 hS ⟨hin, fun σ1 q1 => ?_⟩, fin 6 (by rw [ek, kSg_no hcmp hsg]; exact Or.inr (Or.inl ⟨rfl, Or.inl rfl⟩))⟩
      rw [e0 σ1 q1, t9]
      refine ⟨fun z => absurd z (nn 60 (by decide) (by omega)), fun _ => ⟨fun z => absurd z (nn 62 (by decide) (by omega)), fun _ => ⟨fun z => absurd z (nn 61 (by decide) (by omega)), fun _ => ⟨fun z => absurd z (nn 59 (by decide) (by omega)), fun _ => ⟨fun z => absurd z (nn 40 (by decide) (by omega)), fun _ => ⟨fun z => absurd z (nn 41 (by decide) (by omega)), fun _ => ⟨fun z => absurd z (nn 43 (by decide) (by omega)), fun _ => ⟨fun z => absurd z (nn 45 (by decide) (by omega)), fun _ => b_159_243 St ?_⟩⟩⟩⟩⟩⟩⟩⟩
      rw [t9]
      exact ⟨fun z => absurd z (nn 42 (by decide) (by omega)), fun _ => ⟨fun z => absurd z (nn 47 (by decide) (by omega)), fun _ => ⟨fun z => absurd z (nn 37 (by decide) (by omega)), fun _ => rfl⟩⟩⟩
end TokM
