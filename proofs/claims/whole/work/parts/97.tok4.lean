/-! ===== a token, second side ===== -/
/-- the second side stands at the token from p on -/
def MC (σ : Mm) (B : Nat → Nat) (n p : Nat) : Prop := mI σ 59 7 = nI (tE B n p) ∧ mI σ 59 10 = nI (tS B n p) ∧ TR (tK B n p) (tV B n p) (mI σ 59 8) (mI σ 59 9)
theorem kK_w {B : Nat → Nat} {n s : Nat} (h : s < n) (hl : kLe (B s) = true) : kK B n s = (if 6 < tW B n s - s then 1 else kow (pv B s (tW B n s - s))) ∧ kV B n s = pv B s (min 6 (tW B n s - s)) := by
  unfold kK kV
  exact ⟨(if_neg (by omega)).trans (if_pos hl), (if_neg (by omega)).trans (if_pos hl)⟩
theorem kK_d {B : Nat → Nat} {n s : Nat} (h : s < n) (hl : ¬ kLe (B s) = true) (hd : kDg (B s) = true) : kK B n s = 2 ∧ kV B n s = nvc B s (tD B n s - s) := by
  unfold kK kV
  exact ⟨(if_neg (by omega)).trans ((if_neg hl).trans (if_pos hd)), (if_neg (by omega)).trans ((if_neg hl).trans (if_pos hd))⟩
theorem kK_s {B : Nat → Nat} {n s : Nat} (h : s < n) (hl : ¬ kLe (B s) = true) (hd : ¬ kDg (B s) = true) : kK B n s = kS2 (B s) (b0 B n (s + 1)) ∧ kV B n s = 0 := by
  unfold kK kV
  exact ⟨(if_neg (by omega)).trans ((if_neg hl).trans (if_neg hd)), (if_neg (by omega)).trans ((if_neg hl).trans (if_neg hd))⟩
section TokM2
variable {t n : Nat} {σ σ' : Mm} {B : Nat → Nat} {W : Nat → Nat → Prop}
theorem v_word {s : Nat} (hS : Sg t σ) (h : RM σ B n) (hs : s < n) (hl : kLe (B s) = true) (h7 : mI σ 59 7 = nI s) (h10 : mI σ 59 10 = nI s) : ∃ σ', Ev 158 90 [.ref 59] [] σ (none, σ') ∧ Fr Wz σ σ' ∧ mI σ' 59 7 = nI (tW B n s) ∧ mI σ' 59 10 = nI s ∧ TR (if 6 < tW B n s - s then 1 else kow (pv B s (tW B n s - s))) (pv B s (min 6 (tW B n s - s))) (mI σ' 59 8) (mI σ' 59 9) := by
  have hn := h.1
  have hge : s ≤ tW B n s := ft_ge _ _ _
  have hle : tW B n s ≤ n := ft_le (by omega)
  have hin : ∀ j, j < tW B n s - s → kLe (B (s + j)) = true := fun j hj => ft_in (c := fun i => kLe (B i)) (p := s) (n := n) (by omega) (by unfold tW at hj; omega)
  have hout : tW B n s < n → kLe (B (tW B n s)) = false := fun g => ft_out (c := fun i => kLe (B i)) g
  generalize tW B n s = e at hge hle hin hout
  obtain ⟨len, rfl⟩ : ∃ len, e = s + len := ⟨e - s, by omega⟩
  rw [show s + len - s = len by omega] at hin ⊢
  refine lp (fun j τ => Fr Wz σ τ ∧ mI τ 59 7 = nI (s + j) ∧ mI τ 59 10 = nI s) (fun j τ => ∃ σ', Ev 158 90 [.ref 59] [] τ (none, σ') ∧ Fr Wz σ σ' ∧ mI σ' 59 7 = nI (s + len) ∧ mI σ' 59 10 = nI s ∧ TR (if 6 < len then 1 else kow (pv B s len)) (pv B s (min 6 len)) (mI σ' 59 8) (mI σ' 59 9)) len ?_ ?_ (Nat.zero_le _) ⟨Fr.rf σ, h7, h10⟩
  · intro j τ hj ⟨F, t7, t10⟩ ih
    have St := F.sg hS
    have c1 := c_156 (p := s + j) St (h.fz F) (by omega)
    rw [show b0 B n (s + j) = B (s + j) from if_pos (by omega), if_pos (hin j hj)] at c1
    obtain ⟨σ', d1, r⟩ := ih (uI τ 59 7 (nI (s + (j + 1)))) ⟨F.uI ⟨rfl, by omega⟩, mI_s, by rw [mI_n (by decide), t10]⟩
    refine ⟨σ', b_158_90 St ?_, r⟩
    rw [t7]
    refine ⟨_, _, c1, St, fun z => absurd z (by decide), fun _ => ?_⟩
    rw [t7, nI_1]
    exact d1
  · intro τ ⟨F, t7, t10⟩
    have St := F.sg hS
    have c1 := c_156 (p := s + len) St (h.fz F) (by omega)
    have e0 : kLe (b0 B n (s + len)) = false := by
      rcases Nat.lt_or_ge (s + len) n with g | g
      · rw [show b0 B n (s + len) = B (s + len) from if_pos g]; exact hout g
      · rw [show b0 B n (s + len) = 0 from if_neg (by omega)]; rfl
    rw [e0] at c1
    have c2 := c_155 (a := s) (len := len) St (h.fz F) hle
    have go : ∀ (x : Int32) (w : Option Value × Mm), Cl 155 [.ref 59, .int (nI s), .int (nI (s + len))] τ (some (.int x), τ) → ((x < 0 → ((6 < nI len → Ev 158 162 [.ref 59] [.int 6, .ref 59] (uI τ 59 9 x) w) ∧ (¬ (6 < nI len) → Ev 158 162 [.ref 59] [.int 2, .ref 59] (uI τ 59 9 x) w))) ∧ (¬ x < 0 → Ev 158 162 [.ref 59] [.int 1, .ref 59] (uI τ 59 9 x) w)) → Ev 158 90 [.ref 59] [] τ w := by
      intro x w hx hw
      refine b_158_90 St ?_
      rw [t7]
      refine ⟨_, _, c1, St, fun _ => ?_, fun z => absurd rfl z⟩
      rw [t7, t10]
      refine ⟨_, _, hx, St, ?_⟩
      have e1 : mI (uI τ 59 9 x) 59 7 - mI (uI τ 59 9 x) 59 10 = nI len := by
        rw [mI_n (by decide), mI_n (by decide), t7, t10, pk_sub (by omega)]
        congr 1
        omega
      rw [mI_s, e1]
      exact hw
    have r9 : ∀ x : Int32, Fr Wz σ (uI τ 59 9 x) := fun x => F.uI ⟨rfl, by omega⟩
    have end1 : ∀ x k : Int32, TR (if 6 < len then 1 else kow (pv B s len)) (pv B s (min 6 len)) k x → k ≠ 2 → Ev 158 162 [.ref 59] [.int k, .ref 59] (uI τ 59 9 x) (none, uI (uI τ 59 9 x) 59 8 k) ∧ Fr Wz σ (uI (uI τ 59 9 x) 59 8 k) ∧ mI (uI (uI τ 59 9 x) 59 8 k) 59 7 = nI (s + len) ∧ mI (uI (uI τ 59 9 x) 59 8 k) 59 10 = nI s ∧ TR (if 6 < len then 1 else kow (pv B s len)) (pv B s (min 6 len)) (mI (uI (uI τ 59 9 x) 59 8 k) 59 8) (mI (uI (uI τ 59 9 x) 59 8 k) 59 9) := by
      intro x k hT hk
      refine ⟨b_158_162 St.uI ?_, (r9 x).uI ⟨rfl, by omega⟩, ?_, ?_, ?_⟩
      · rw [mI_s]; exact ⟨fun z => absurd z hk, fun _ => rfl⟩
      · rw [mI_n (by decide), mI_n (by decide), t7]
      · rw [mI_n (by decide), mI_n (by decide), t10]
      · rw [mI_s, mI_n (by decide), mI_s]; exact hT
    by_cases g6 : 6 < len
    · rw [mtc_long g6, if_neg (by decide)] at c2
      obtain ⟨d1, r⟩ := end1 (-1) 6 (by rw [if_pos g6]; exact Or.inr (Or.inl ⟨rfl, Or.inl rfl⟩)) (by decide)
      refine ⟨_, go (-1) _ c2 ⟨fun _ => ⟨fun _ => d1, fun z => absurd (nI_lt g6 (by omega)) z⟩, fun z => absurd (by decide) z⟩, r⟩
    · rw [if_neg g6, show min 6 len = len by omega] at end1 ⊢
      rcases kow_cases (B := B) (a := s) (len := len) hin (by omega) with ⟨k, hk, k1, k2⟩ | ⟨k1, k2⟩
      · rw [k1, if_pos hk] at c2
        obtain ⟨_, _, _, _, _, _, _, w1, w2⟩ := wl_tab k hk
        obtain ⟨d1, r⟩ := end1 (nI k) 1 (by rw [k2]; exact Or.inr (Or.inr (Or.inr (Or.inr (Or.inl ⟨by omega, by omega, rfl, by rw [show 10 + wx k - 10 = wx k by omega, w2]⟩))))) (by decide)
        exact ⟨_, go (nI k) _ c2 ⟨fun z => absurd z (nI_pos (by omega)), fun _ => d1⟩, r⟩
      · rw [k1, if_neg (by decide)] at c2
        generalize eυ : uI (uI τ 59 9 (-1)) 59 8 2 = υ
        have Fu : Fr Wz σ υ := by rw [← eυ]; exact (r9 (-1)).uI ⟨rfl, by omega⟩
        have Su := Fu.sg hS
        have u7 : mI υ 59 7 = nI (s + len) := by rw [← eυ, mI_n (by decide), mI_n (by decide), t7]
        have u10 : mI υ 59 10 = nI s := by rw [← eυ, mI_n (by decide), mI_n (by decide), t10]
        have u8 : mI υ 59 8 = 2 := by rw [← eυ, mI_s]
        have c3 := c_160 (a := s) (len := len) Su (h.fz Fu) hle hin
        have d1 : Ev 158 162 [.ref 59] [.int 2, .ref 59] (uI τ 59 9 (-1)) (none, uI υ 59 9 (nI (pv B s len))) := by
          refine b_158_162 St.uI ?_
          rw [eυ, u8, u10, u7]
          exact ⟨fun _ => ⟨_, _, c3, Su, rfl⟩, fun z => absurd rfl z⟩
        refine ⟨_, go (-1) _ c2 ⟨fun _ => ⟨fun z => absurd z (nI_nlt (a := 6) (b := len) (by omega) (by decide)), fun _ => d1⟩, fun z => absurd (by decide) z⟩, Fu.uI ⟨rfl, by omega⟩, ?_, ?_, ?_⟩
        · rw [mI_n (by decide), u7]
        · rw [mI_n (by decide), u10]
        · rw [mI_n (by decide), mI_s, u8, k2]
          exact Or.inr (Or.inr (Or.inr (Or.inl ⟨rfl, rfl, rfl⟩)))
theorem v_num {s : Nat} (hS : Sg t σ) (h : RM σ B n) (hs : s < n) (h7 : mI σ 59 7 = nI s) (h8 : mI σ 59 8 = 3) (h9 : mI σ 59 9 = 0) : ∃ σ', Ev 158 213 [.ref 59] [] σ (none, σ') ∧ Fr Wy σ σ' ∧ mI σ' 59 7 = nI (tD B n s) ∧ TR 2 (nvc B s (tD B n s - s)) (mI σ' 59 8) (mI σ' 59 9) := by
  have hn := h.1
  have hge : s ≤ tD B n s := ft_ge _ _ _
  have hle : tD B n s ≤ n := ft_le (by omega)
  have hin : ∀ j, j < tD B n s - s → kDg (B (s + j)) = true := fun j hj => ft_in (c := fun i => kDg (B i)) (p := s) (n := n) (by omega) (by unfold tD at hj; omega)
  have hout : tD B n s < n → kDg (B (tD B n s)) = false := fun g => ft_out (c := fun i => kDg (B i)) g
  generalize tD B n s = e at hge hle hin hout
  obtain ⟨len, rfl⟩ : ∃ len, e = s + len := ⟨e - s, by omega⟩
  rw [show s + len - s = len by omega] at hin ⊢
  refine lp (fun j τ => Fr Wy σ τ ∧ mI τ 59 7 = nI (s + j) ∧ mI τ 59 8 = 3 ∧ mI τ 59 9 = nI (nvm B s j)) (fun j τ => ∃ σ', Ev 158 213 [.ref 59] [] τ (none, σ') ∧ Fr Wy σ σ' ∧ mI σ' 59 7 = nI (s + len) ∧ TR 2 (nvc B s len) (mI σ' 59 8) (mI σ' 59 9)) len ?_ ?_ (Nat.zero_le _) ⟨Fr.rf σ, h7, h8, h9⟩
  · intro j τ hj ⟨F, t7, t8, t9⟩ ih
    have St := F.sg hS
    have Rt := h.fz (F.mono (fun _ _ h => wy_z h))
    have hb := kDg_i.mp (hin j hj)
    have c1 := c_157 (p := s + j) St Rt (by omega)
    rw [show b0 B n (s + j) = B (s + j) from if_pos (by omega), if_pos (hin j hj)] at c1
    have hv := (nv_rel (B := B) (s := s) (m := j) (fun i hi => hin i (by omega))).2.1
    obtain ⟨σ', d1, r⟩ := ih (uI (uI τ 59 9 (nI (nvm B s (j + 1)))) 59 7 (nI (s + (j + 1)))) ⟨(F.uI ⟨rfl, by omega⟩).uI ⟨rfl, by omega⟩, mI_s, by rw [mI_n (by decide), mI_n (by decide), t8], by rw [mI_n (by decide), mI_s]⟩
    refine ⟨σ', b_158_213 St ?_, r⟩
    rw [t7]
    refine ⟨_, _, c1, St, fun z => absurd z (by decide), fun _ => ?_⟩
    have e2 : nvm B s (j + 1) = if 99999 < nvm B s j then nvm B s j else 10 * nvm B s j + (B (s + j) - 48) := rfl
    rw [t9]
    refine pk_lt 99999 (nvm B s j) (fun g τ1 q1 => ?_) (fun g => ⟨?_, fun τ1 q1 => ?_⟩) rfl rfl (by decide) (by omega)
    · rw [mI_n (by decide), t7, nI_1] at q1
      rw [e2, if_pos g] at d1
      rw [q1]
      exact d1
    · rw [t7]; exact inb_nI (by omega) (by decide)
    · rw [t7, nI_clamp (by omega), (Rt.2.2.1 (s + j) (by omega)).2, show (10 : Int32) = nI 10 from rfl, pk_mul, nI_add, show (48 : Int32) = nI 48 from rfl, pk_sub (by omega)] at q1
      rw [e2, if_neg (by omega)] at d1
      rw [q1, mI_n (by decide), t7, nI_1, show 10 * nvm B s j + B (s + j) - 48 = 10 * nvm B s j + (B (s + j) - 48) by omega]
      exact d1
  · intro τ ⟨F, t7, t8, t9⟩
    have St := F.sg hS
    have Rt := h.fz (F.mono (fun _ _ h => wy_z h))
    have c1 := c_157 (p := s + len) St Rt (by omega)
    have e0 : kDg (b0 B n (s + len)) = false := by
      rcases Nat.lt_or_ge (s + len) n with g | g
      · rw [show b0 B n (s + len) = B (s + len) from if_pos g]; exact hout g
      · rw [show b0 B n (s + len) = 0 from if_neg (by omega)]; rfl
    rw [e0] at c1
    obtain ⟨_, v2, v3⟩ := nv_rel (B := B) (s := s) (m := len) hin
    refine ⟨τ, b_158_213 St ?_, F, t7, ?_⟩
    · rw [t7]
      exact ⟨_, _, c1, St, fun _ => rfl, fun z => absurd rfl z⟩
    · rw [t8, t9]
      exact Or.inr (Or.inr (Or.inl ⟨rfl, rfl, _, v2, rfl, v3⟩))
theorem c_158 {p : Nat} (hS : Sg t σ) (h : RM σ B n) (hp : p ≤ n) (h7 : mI σ 59 7 = nI p) : ∃ σ', Cl 158 [.ref 59] σ (none, σ') ∧ Fr Wz σ σ' ∧ MC σ' B n p := by
  have hn := h.1
  have tail : ∀ s τ, s ≤ n → Fr Wz σ τ → mI τ 59 7 = nI s → ∃ σ', Ev 158 52 [.ref 59] [] τ (none, σ') ∧ Fr Wz σ σ' ∧ mI σ' 59 7 = nI (kE B n s) ∧ mI σ' 59 10 = nI s ∧ TR (kK B n s) (kV B n s) (mI σ' 59 8) (mI σ' 59 9) := by
    intro s τ0 hs F0 t70
    have S0 := F0.sg hS
    generalize eτ : uI τ0 59 10 (mI τ0 59 7) = τ
    have F : Fr Wz σ τ := by rw [← eτ]; exact F0.uI ⟨rfl, by omega⟩
    have St := F.sg hS
    have Rt := h.fz F
    have t7 : mI τ 59 7 = nI s := by rw [← eτ, mI_n (by decide), t70]
    have t10 : mI τ 59 10 = nI s := by rw [← eτ, mI_s, t70]
    rcases Nat.lt_or_ge s n with g | g
    · have ne : ¬ nI s = nI n := fun z => by have := (nI_eq (by omega) (by omega)).mp z; omega
      have c1 := c_156 (p := s) St Rt (by omega)
      have c2 := c_157 (p := s) St Rt (by omega)
      rw [show b0 B n s = B s from if_pos g] at c1 c2
      cases hl : kLe (B s) with
      | true =>
        rw [hl] at c1
        obtain ⟨σ', d1, f, a7, a10, aT⟩ := v_word St Rt g hl t7 t10
        refine ⟨σ', b_158_52 S0 ?_, F.tr f, ?_, a10, ?_⟩
        · rw [eτ, t7, Rt.2.1]
          exact ⟨fun z => absurd z ne, fun _ => ⟨_, _, c1, St, fun z => absurd z (by decide), fun _ => d1⟩⟩
        · unfold kE; rw [if_neg (by omega), if_pos hl]; exact a7
        · rw [(kK_w g hl).1, (kK_w g hl).2]; exact aT
      | false =>
        have hl' : ¬ kLe (B s) = true := by rw [hl]; decide
        rw [hl] at c1
        cases hd : kDg (B s) with
        | true =>
          rw [hd] at c2
          have Fu : Fr Wz σ (uI (uI τ 59 8 3) 59 9 0) := (F.uI ⟨rfl, by omega⟩).uI ⟨rfl, by omega⟩
          obtain ⟨σ', d1, f, a7, aT⟩ := v_num (Fu.sg hS) (h.fz Fu) g (by rw [mI_n (by decide), mI_n (by decide), t7]) (by rw [mI_n (by decide), mI_s]) mI_s
          refine ⟨σ', b_158_52 S0 ?_, Fu.tr (f.mono (fun _ _ h => wy_z h)), ?_, ?_, ?_⟩
          · rw [eτ, t7, Rt.2.1]
            refine ⟨fun z => absurd z ne, fun _ => ⟨_, _, c1, St, fun _ => ?_, fun z => absurd rfl z⟩⟩
            rw [t7]
            exact ⟨_, _, c2, St, fun z => absurd z (by decide), fun _ => d1⟩
          · unfold kE; rw [if_neg (by omega), if_neg hl', if_pos hd]; exact a7
          · rw [(f.1 59 10 (fun z => by unfold Wy at z; omega)).1, mI_n (by decide), mI_n (by decide), t10]
          · rw [(kK_d g hl' hd).1, (kK_d g hl' hd).2]; exact aT
        | false =>
          have hd' : ¬ kDg (B s) = true := by rw [hd]; decide
          rw [hd] at c2
          obtain ⟨σ', d1, f, a7, aT⟩ := c_159 St Rt g t7
          refine ⟨σ', b_158_52 S0 ?_, F.tr (f.mono (fun _ _ h => wy_z h)), ?_, ?_, ?_⟩
          · rw [eτ, t7, Rt.2.1]
            refine ⟨fun z => absurd z ne, fun _ => ⟨_, _, c1, St, fun _ => ?_, fun z => absurd rfl z⟩⟩
            rw [t7]
            exact ⟨_, _, c2, St, fun _ => ⟨σ', d1, f.sg St, rfl⟩, fun z => absurd rfl z⟩
          · unfold kE; rw [if_neg (by omega), if_neg hl', if_neg hd']; exact a7
          · rw [(f.1 59 10 (fun z => by unfold Wy at z; omega)).1, t10]
          · rw [(kK_s g hl' hd').1, (kK_s g hl' hd').2]; exact aT
    · have e : s = n := by omega
      refine ⟨uI τ 59 8 0, b_158_52 S0 ?_, F.uI ⟨rfl, by omega⟩, ?_, ?_, ?_⟩
      · rw [eτ, t7, Rt.2.1, e]
        exact ⟨fun _ => rfl, fun z => absurd rfl z⟩
      · unfold kE; rw [if_pos g, mI_n (by decide), t7]
      · rw [mI_n (by decide), t10]
      · unfold kK; rw [if_pos g, mI_s]; exact Or.inl ⟨rfl, rfl⟩
  have ws : ∀ m p τ, p + m = n → Fr Wz σ τ → mI τ 59 7 = nI p → ∃ σ', Ev 158 0 [.ref 59] [] τ (none, σ') ∧ Fr Wz σ σ' ∧ MC σ' B n p := by
    intro m
    induction m with
    | zero =>
      intro p τ hpm F t7
      obtain ⟨σ', d1, f, r⟩ := tail p τ (by omega) F t7
      have e : tS B n p = p := ft_end (by omega)
      refine ⟨σ', b_158_0 (F.sg hS) ?_, f, by unfold MC tE tK tV; rw [e]; exact r⟩
      rw [t7, (h.fz F).2.1]
      exact pk_lt p n (fun z => absurd z (by omega)) (fun _ => d1) rfl rfl (by omega) (by omega)
    | succ m ih =>
      intro p τ hpm F t7
      have St := F.sg hS
      have hB := (h.fz F).2.2.1 p (by omega)
      have hb := hB.1
      have hi : inb (nI p) 700 = true := inb_nI (by omega) (by decide)
      have i10 : (nI (B p) = 10) ↔ B p = 10 := nI_eq (b := 10) (by omega) (by decide)
      have i32 : (nI (B p) = 32) ↔ B p = 32 := nI_eq (b := 32) (by omega) (by decide)
      cases hw : kWs (B p) with
      | true =>
        have e : tS B n p = tS B n (p + 1) := ft_yes (c := fun i => kWs (B i)) (by omega) hw
        obtain ⟨σ', d1, f, r⟩ := ih (p + 1) (uI τ 59 7 (nI (p + 1))) (by omega) (F.uI ⟨rfl, by omega⟩) mI_s
        refine ⟨σ', b_158_0 St ?_, f, by unfold MC tE tK tV at r ⊢; rw [e]; exact r⟩
        rw [t7, (h.fz F).2.1, nI_clamp (by omega), hB.2, nI_1]
        exact pk_lt p n (fun _ => ⟨hi, fun _ => d1, fun z => ⟨hi, fun _ => d1, fun y => absurd (kWs_i.mp hw) (fun u => u.elim (fun v => z (i10.mpr v)) (fun v => y (i32.mpr v)))⟩⟩) (fun z => absurd z (by omega)) rfl rfl (by omega) (by omega)
      | false =>
        have hw' : ¬ (B p = 10 ∨ B p = 32) := fun z => by rw [kWs_i.mpr z] at hw; cases hw
        have e : tS B n p = p := ft_no (c := fun i => kWs (B i)) hw
        obtain ⟨σ', d1, f, r⟩ := tail p τ (by omega) F t7
        refine ⟨σ', b_158_0 St ?_, f, by unfold MC tE tK tV; rw [e]; exact r⟩
        rw [t7, (h.fz F).2.1, nI_clamp (by omega), hB.2]
        exact pk_lt p n (fun _ => ⟨hi, fun z => absurd (Or.inl (i10.mp z)) hw', fun _ => ⟨hi, fun y => absurd (Or.inr (i32.mp y)) hw', fun _ => d1⟩⟩) (fun z => absurd z (by omega)) rfl rfl (by omega) (by omega)
  obtain ⟨σ', d1, r⟩ := ws (n - p) p σ (by omega) (Fr.rf σ) h7
  exact ⟨σ', ck_158 hS d1, r⟩
end TokM2
