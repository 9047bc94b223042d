/-! ===== tokens, first side ===== -/
def RC (σ : Mm) (B : Nat → Nat) (n : Nat) : Prop := n ≤ 700 ∧ mI σ 1 4 = nI n ∧ ∀ i, i < n → B i < 256 ∧ mI σ 2 i &&& 255 = nI (B i)
def Wkk (x i : Nat) : Prop := x = 1 ∧ (i = 5 ∨ i = 6 ∨ i = 7 ∨ i = 8)
def Wj (x i : Nat) : Prop := x = 1 ∧ (i = 5 ∨ i = 6 ∨ i = 8)
theorem wj_k {x i : Nat} (h : Wj x i) : Wkk x i := by unfold Wj at h; unfold Wkk; omega
theorem kLe_i {b : Nat} : kLe b = true ↔ 97 ≤ b ∧ b ≤ 122 := by unfold kLe; simp only [Bool.and_eq_true, decide_eq_true_eq]
theorem kDg_i {b : Nat} : kDg b = true ↔ 48 ≤ b ∧ b ≤ 57 := by unfold kDg; simp only [Bool.and_eq_true, decide_eq_true_eq]
theorem kWs_i {b : Nat} : kWs b = true ↔ b = 10 ∨ b = 32 := by unfold kWs; simp only [Bool.or_eq_true, decide_eq_true_eq]
theorem bf {b : Bool} (h : ¬ b = true) : b = false := by cases b with
  | true => exact absurd rfl h
  | false => rfl
section TokC
variable {t n : Nat} {σ σ' : Mm} {B : Nat → Nat} {W : Nat → Nat → Prop}
theorem RC.fr (h : RC σ B n) (hf : Fr W σ σ') (hW : ∀ x i, ((x = 1 ∧ i = 4) ∨ x = 2) → ¬ W x i) : RC σ' B n := by
  have r : ∀ x i, ((x = 1 ∧ i = 4) ∨ x = 2) → mI σ' x i = mI σ x i := fun x i h => (hf.1 x i (hW x i h)).1
  refine ⟨h.1, (r 1 4 (by omega)).trans h.2.1, fun i hi => ?_⟩
  rw [r 2 i (by omega)]
  exact h.2.2 i hi
theorem RC.fk (h : RC σ B n) (hf : Fr Wkk σ σ') : RC σ' B n := h.fr hf (fun x i h z => by unfold Wkk at z; omega)
theorem RC.lt (h : RC σ B n) (i : Nat) : b0 B n i < 256 := by
  unfold b0
  split
  · rename_i g; exact (h.2.2 i g).1
  · decide
theorem c_41 {p : Nat} (hS : Sg t σ) (h : RC σ B n) (hp : p < 2 ^ 31) : Cl 41 [.ref 1, .int (nI p)] σ (some (.int (nI (b0 B n p))), σ) := by
  have h1 := h.1
  refine ck_41 hS (b_41_0 hS ⟨fun z => absurd z (nI_pos hp), fun _ => ?_⟩)
  rw [h.2.1]
  refine pk_lt p n (fun g => pk_lt p 700 (fun _ => ⟨inb_nI (by omega) (by decide), ?_⟩) (fun z => absurd z (by omega))) (fun g => ?_) rfl rfl hp (by omega)
  · rw [nI_clamp hp, (h.2.2 p g).2, b0, if_pos g]
  · rw [b0, if_neg (Nat.not_lt.mpr g)]; rfl
theorem c_42 {b : Nat} (hS : Sg t σ) (h : b < 2 ^ 31) : Cl 42 [.int (nI b)] σ (some (.int (if kLe b = true then 1 else 0)), σ) := by
  refine ck_42 hS (b_42_0 hS (pk_lt b 97 (fun g => ?_) (fun g => pk_lt 122 b (fun g2 => ?_) (fun g2 => ?_))))
  · rw [if_neg (fun z => by have := kLe_i.mp z; omega)]
  · rw [if_neg (fun z => by have := kLe_i.mp z; omega)]
  · rw [if_pos (kLe_i.mpr ⟨by omega, by omega⟩)]
theorem c_43 {b : Nat} (hS : Sg t σ) (h : b < 2 ^ 31) : Cl 43 [.int (nI b)] σ (some (.int (if kDg b = true then 1 else 0)), σ) := by
  refine ck_43 hS (b_43_0 hS (pk_lt b 48 (fun g => ?_) (fun g => pk_lt 57 b (fun g2 => ?_) (fun g2 => ?_))))
  · rw [if_neg (fun z => by have := kDg_i.mp z; omega)]
  · rw [if_neg (fun z => by have := kDg_i.mp z; omega)]
  · rw [if_pos (kDg_i.mpr ⟨by omega, by omega⟩)]
/-- the kind of a word -/
theorem c_46 {v : Nat} (hS : Sg t σ) (h8 : mI σ 1 8 = nI v) (hv : v < 2 ^ 31) : Cl 46 [.ref 1] σ (some (.int (nI (kow v))), σ) := by
  refine ck_46 hS (b_46_0 hS ?_)
  have main : ∀ k, k ≤ 21 → (∀ j, j < k → wv j ≠ v) → ∀ z2 z3 z4 : Value, Ev 46 2 [.ref 1, .int (nI (6 * k)), z2, z3, z4] [] σ (some (.int (nI (kow v))), σ) := by
    refine up_to (fun k => (∀ j, j < k → wv j ≠ v) → ∀ z2 z3 z4 : Value, Ev 46 2 [.ref 1, .int (nI (6 * k)), z2, z3, z4] [] σ (some (.int (nI (kow v))), σ)) 21 ?_ ?_
    · intro k hk ih hn z2 z3 z4
      have e6 : nI (6 * k) + 6 = nI (6 * k + 6) := nI_add (6 * k) 6
      have inner : ∀ j, j ≤ 6 → ∀ z4 : Value, Ev 46 18 [.ref 1, .int (nI (6 * k)), .int (nI (wq k j)), .int (nI (6 * k + j)), z4] [] σ (some (.int (nI (kow v))), σ) := by
        refine up_to (fun j => ∀ z4 : Value, Ev 46 18 [.ref 1, .int (nI (6 * k)), .int (nI (wq k j)), .int (nI (6 * k + j)), z4] [] σ (some (.int (nI (kow v))), σ)) 6 ?_ ?_
        · intro j hj ih2 z4
          have h25 := wq_lt k hk j hj
          have hd := wdd_lt k hk j hj
          have es : nI (wq k j) <<< ((5 : Int32) &&& 31) = nI (2 ^ 5 * wq k j) := by
            rw [Nat.mul_comm]
            exact nI_shl (n := wq k j) (k := 5) (by decide) (by omega)
          have eq : wq k (j + 1) = 2 ^ 5 * wq k j + wdd k j := rfl
          refine b_46_18 hS ?_
          rw [e6]
          refine pk_lt (6 * k + j) (6 * k + 6) (fun _ => ⟨_, _, c_283 hS (by omega), hS, ?_⟩) (fun z => absurd z (by omega)) rfl rfl (by omega) (by omega)
          rw [es, nI_1]
          rcases chr_w k hk j hj with ⟨g1, g2⟩ | ⟨g1, g2, g3, g4⟩
          · rw [g1]
            refine ⟨fun _ => ?_, fun z => absurd rfl z⟩
            have := ih2 (.int (nI 32))
            rw [eq, g2, ← fa_or_sum (k := 5) (wq k j) (show 0 < 2 ^ 5 by decide)] at this
            exact this
          · refine ⟨fun z => absurd ((nI_eq (b := 32) (by omega) (by decide)).mp z) g1, fun _ => ?_⟩
            have := ih2 (.int (nI (chr0 (6 * k + j))))
            rw [eq, ← fa_or_sum (k := 5) (wq k j) (show wdd k j < 2 ^ 5 by omega), ← g4] at this
            have e97 : nI (chr0 (6 * k + j)) - 97 + 1 = nI (chr0 (6 * k + j) - 96) := by
              rw [show (97 : Int32) = nI 97 from rfl, pk_sub g2, nI_1]
              congr 1
              omega
            rw [e97]
            exact this
        · intro z4
          refine b_46_18 hS ?_
          rw [e6]
          refine pk_lt (6 * k + 6) (6 * k + 6) (fun z => absurd z (Nat.lt_irrefl _)) (fun _ => ?_) rfl rfl (by omega) (by omega)
          rw [h8]
          have hw : wq k 6 < 2 ^ 30 := by
            have h25 := wq_lt k hk 5 (by decide)
            have hd := wdd_lt k hk 5 (by decide)
            show 32 * wq k 5 + wdd k 5 < _
            omega
          refine w_p (nI_eq (by omega) hv) (fun z => ?_) (fun z => ?_)
          · have e1 : fa_first (fun k => decide (wv k = v)) 21 = k := first_is hk (decide_eq_true z) (fun j hj => decide_eq_false (hn j hj))
            have e2 : kow v = 10 + k := by
              unfold kow
              rw [e1, if_pos hk]
            rw [e2, show (6 : Int32) = nI 6 from rfl, pk_div (by omega) (by decide) (by decide), show (10 : Int32) = nI 10 from rfl, nI_add, Nat.mul_div_cancel_left _ (by decide)]
          · have h3 := ih (fun j hj => by
              rcases Nat.lt_or_ge j k with g | g
              · exact hn j g
              · have : j = k := by omega
                rw [this]; exact z) (.int (nI (wq k 6))) (.int (nI (6 * k + 6))) z4
            exact h3
      refine b_46_2 hS ⟨126, σ, c_282w hS, hS, ?_⟩
      rw [e6]
      exact pk_lt 126 (6 * k + 6) (fun z => absurd z (by omega)) (fun _ => inner 0 (by decide) z4) rfl rfl (by decide) (by omega)
    · intro hn z2 z3 z4
      refine b_46_2 hS ⟨126, σ, c_282w hS, hS, ?_⟩
      have e : kow v = 3 := by
        unfold kow
        rw [first_end (fun j hj => decide_eq_false (hn j hj))]
        rfl
      rw [e]
      exact ⟨fun _ => rfl, fun z => absurd (by decide) z⟩
  exact main 0 (by decide) (fun j hj => absurd hj (Nat.not_lt_zero j)) _ _ _
/-- a word -/
theorem c_45 {s : Nat} (hS : Sg t σ) (h : RC σ B n) (hs : s < n) (hl : kLe (B s) = true) (h5 : mI σ 1 5 = nI s) (h8 : mI σ 1 8 = 0) : ∃ σ', Cl 45 [.ref 1] σ (none, σ') ∧ Fr Wj σ σ' ∧ mI σ' 1 5 = nI (tW B n s) ∧ mI σ' 1 6 = nI (if 6 < tW B n s - s then 1 else kow (pv B s (tW B n s - s))) ∧ mI σ' 1 8 = nI (pv B s (min 6 (tW B n s - s))) := by
  have hn := h.1
  have hge : s ≤ tW B n s := ft_ge _ _ _
  have hle : tW B n s ≤ n := ft_le (by omega)
  have hin : ∀ j, j < tW B n s - s → kLe (B (s + j)) = true := fun j hj => ft_in (c := fun i => kLe (B i)) (p := s) (n := n) (by omega) (by unfold tW at hj; omega)
  have hout : tW B n s < n → kLe (B (tW B n s)) = false := fun g => ft_out (c := fun i => kLe (B i)) g
  generalize tW B n s = e at hge hle hin hout
  suffices hh : ∃ σ', Ev 45 2 [.ref 1, .int (nI 0)] [] σ (none, σ') ∧ Fr Wj σ σ' ∧ mI σ' 1 5 = nI e ∧ mI σ' 1 6 = nI (if 6 < e - s then 1 else kow (pv B s (e - s))) ∧ mI σ' 1 8 = nI (pv B s (min 6 (e - s))) by
    obtain ⟨σ', h1, r⟩ := hh
    exact ⟨σ', ck_45 hS (b_45_0 hS h1), r⟩
  refine lp (fun j τ => Fr Wj σ τ ∧ mI τ 1 5 = nI (s + j) ∧ mI τ 1 8 = nI (pv B s (min 6 j))) (fun j τ => ∃ σ', Ev 45 2 [.ref 1, .int (nI j)] [] τ (none, σ') ∧ Fr Wj σ σ' ∧ mI σ' 1 5 = nI e ∧ mI σ' 1 6 = nI (if 6 < e - s then 1 else kow (pv B s (e - s))) ∧ mI σ' 1 8 = nI (pv B s (min 6 (e - s)))) (e - s) ?_ ?_ (Nat.zero_le _) ⟨Fr.rf σ, h5, h8⟩
  · intro j τ hj ⟨ft, t5, t8⟩ ih
    have St := ft.sg hS
    have Rt := h.fk (ft.mono (fun _ _ h => wj_k h))
    have hb := kLe_i.mp (hin j hj)
    have eb : b0 B n (s + j) = B (s + j) := if_pos (by omega)
    have c1 := c_41 (p := s + j) St Rt (by omega)
    rw [eb] at c1
    have c2 := c_42 (σ := τ) (b := B (s + j)) St (by omega)
    rw [if_pos (hin j hj)] at c2
    by_cases g6 : j < 6
    · obtain ⟨u1, b', u2⟩ := pv_up (B := B) (a := s) g6
      have ev : mI τ 1 8 ||| ((nI (B (s + j)) - 97 + 1) <<< ((5 * (5 - nI j)) &&& 31)) = nI (pv B s (min 6 (j + 1))) := by
        have hm : (B (s + j) - 96) * 2 ^ (5 * (5 - j)) < 2 ^ (5 * (6 - j)) := by
          rw [show 5 * (6 - j) = 5 + 5 * (5 - j) by omega, Nat.pow_add]
          exact Nat.mul_lt_mul_of_pos_right (by omega) (Nat.two_pow_pos _)
        have hm2 : 2 ^ (5 * (6 - j)) ≤ 2 ^ 30 := Nat.pow_le_pow_right (by decide) (by omega)
        rw [t8, show (97 : Int32) = nI 97 from rfl, pk_sub hb.1, nI_1, show (5 : Int32) = nI 5 from rfl, pk_sub (show j ≤ 5 by omega), pk_mul, show B (s + j) - 97 + 1 = B (s + j) - 96 by omega, nI_shl (by omega) (by omega), show min 6 j = j by omega, show min 6 (j + 1) = j + 1 by omega, u1, u2, fa_or_sum b' hm]
      obtain ⟨σ', h1, r⟩ := ih (uI (uI τ 1 8 (nI (pv B s (min 6 (j + 1))))) 1 5 (nI (s + (j + 1)))) ⟨(ft.uI ⟨rfl, by omega⟩).uI ⟨rfl, by omega⟩, mI_s, by rw [mI_n (by decide), mI_s]⟩
      refine ⟨σ', b_45_2 St ?_, r⟩
      rw [t5, Rt.2.1]
      refine pk_lt (s + j) n (fun _ => ⟨_, _, c1, St, _, _, c2, St, fun z => absurd z (by decide), fun _ => pk_lt j 6 (fun _ => ?_) (fun z => absurd z (by omega))⟩) (fun z => absurd z (by omega)) rfl rfl (by omega) (by omega)
      rw [t5]
      refine ⟨_, _, c1, St, fun τ1 q1 => ?_⟩
      rw [ev] at q1
      rw [q1, mI_n (by decide), t5, nI_1, nI_1]
      exact h1
    · obtain ⟨σ', h1, r⟩ := ih (uI τ 1 5 (nI (s + (j + 1)))) ⟨ft.uI ⟨rfl, by omega⟩, mI_s, by rw [mI_n (by decide), t8]; congr 2; omega⟩
      refine ⟨σ', b_45_2 St ?_, r⟩
      rw [t5, Rt.2.1]
      refine pk_lt (s + j) n (fun _ => ⟨_, _, c1, St, _, _, c2, St, fun z => absurd z (by decide), fun _ => pk_lt j 6 (fun z => absurd z g6) (fun z => ?_)⟩) (fun z => absurd z (by omega)) rfl rfl (by omega) (by omega)
      rw [t5, nI_1, nI_1]
      exact h1
  · intro τ ⟨ft, t5, t8⟩
    have St := ft.sg hS
    have Rt := h.fk (ft.mono (fun _ _ h => wj_k h))
    have es : s + (e - s) = e := by omega
    rw [es] at t5
    have hpv := pv_lt (B := B) (a := s) (len := e - s) hin
    have fin : ∃ x : Int32, x = nI (if 6 < e - s then 1 else kow (pv B s (e - s))) ∧ ((6 < nI (e - s) → ((none, uI τ 1 6 x) : Option Value × Mm) = (none, uI τ 1 6 1)) ∧ (¬ 6 < nI (e - s) → ∃ (v3 : Int32) (σ1 : Mm), Cl 46 [.ref 1] τ (some (.int v3), σ1) ∧ Sg t σ1 ∧ ((none, uI τ 1 6 x) : Option Value × Mm) = (none, uI σ1 1 6 v3))) := by
      refine ⟨_, rfl, pk_lt 6 (e - s) (fun g => ?_) (fun g => ?_) rfl rfl (by decide) (by omega)⟩
      · rw [if_pos g]; rfl
      · rw [if_neg (by omega)]
        have t8' : mI τ 1 8 = nI (pv B s (e - s)) := by rw [t8, show min 6 (e - s) = e - s by omega]
        exact ⟨_, _, c_46 St t8' (by omega), St, rfl⟩
    obtain ⟨x, ex, g1, g2⟩ := fin
    refine ⟨uI τ 1 6 x, b_45_2 St ?_, ft.uI ⟨rfl, by omega⟩, by rw [mI_n (by decide), t5], by rw [mI_s, ex], by rw [mI_n (by decide), t8]⟩
    rw [t5, Rt.2.1]
    refine pk_lt e n (fun g => ?_) (fun g => ⟨g1, g2⟩) rfl rfl (by omega) (by omega)
    have c1 := c_41 (p := e) St Rt (by omega)
    rw [show b0 B n e = B e from if_pos g] at c1
    have c2 := c_42 (σ := τ) (b := B e) St (by have := (h.2.2 e g).1; omega)
    rw [hout g] at c2
    exact ⟨_, _, c1, St, _, _, c2, St, fun _ => ⟨g1, g2⟩, fun z => absurd rfl z⟩
/-- a number -/
theorem c_47 {s : Nat} (hS : Sg t σ) (h : RC σ B n) (hs : s < n) (h5 : mI σ 1 5 = nI s) (h8 : mI σ 1 8 = 0) : ∃ σ', Cl 47 [.ref 1] σ (none, σ') ∧ Fr Wj σ σ' ∧ mI σ' 1 5 = nI (tD B n s) ∧ mI σ' 1 6 = 2 ∧ mI σ' 1 8 = nI (nvc B s (tD B n s - s)) := by
  have hn := h.1
  have hge : s ≤ tD B n s := ft_ge _ _ _
  have hle : tD B n s ≤ n := ft_le (by omega)
  have hin : ∀ j, j < tD B n s - s → kDg (B (s + j)) = true := fun j hj => ft_in (c := fun i => kDg (B i)) (p := s) (n := n) (by omega) (by unfold tD at hj; omega)
  have hout : tD B n s < n → kDg (B (tD B n s)) = false := fun g => ft_out (c := fun i => kDg (B i)) g
  generalize tD B n s = e at hge hle hin hout
  suffices hh : ∃ σ', Ev 47 0 [.ref 1] [] σ (none, σ') ∧ Fr Wj σ σ' ∧ mI σ' 1 5 = nI e ∧ mI σ' 1 6 = 2 ∧ mI σ' 1 8 = nI (nvc B s (e - s)) by
    obtain ⟨σ', h1, r⟩ := hh
    exact ⟨σ', ck_47 hS h1, r⟩
  refine lp (fun j τ => Fr Wj σ τ ∧ mI τ 1 5 = nI (s + j) ∧ mI τ 1 8 = nI (nvc B s j)) (fun j τ => ∃ σ', Ev 47 0 [.ref 1] [] τ (none, σ') ∧ Fr Wj σ σ' ∧ mI σ' 1 5 = nI e ∧ mI σ' 1 6 = 2 ∧ mI σ' 1 8 = nI (nvc B s (e - s))) (e - s) ?_ ?_ (Nat.zero_le _) ⟨Fr.rf σ, h5, h8⟩
  · intro j τ hj ⟨ft, t5, t8⟩ ih
    have St := ft.sg hS
    have Rt := h.fk (ft.mono (fun _ _ h => wj_k h))
    have hb := kDg_i.mp (hin j hj)
    have c1 := c_41 (p := s + j) St Rt (by omega)
    rw [show b0 B n (s + j) = B (s + j) from if_pos (by omega)] at c1
    have c2 := c_43 (σ := τ) (b := B (s + j)) St (by omega)
    rw [if_pos (hin j hj)] at c2
    have hv := (nv_rel (B := B) (s := s) (m := j) (fun i hi => hin i (by omega))).1
    have c3 := c_280n (σ := τ) (a := 1000000) (b := 10 * nvc B s j + (B (s + j) - 48)) St (by decide) (by omega)
    have e3 : mI τ 1 8 * 10 + nI (B (s + j)) - 48 = nI (10 * nvc B s j + (B (s + j) - 48)) := by
      rw [t8, show (10 : Int32) = nI 10 from rfl, pk_mul, nI_add, show (48 : Int32) = nI 48 from rfl, pk_sub (by omega)]
      congr 1
      omega
    obtain ⟨σ', h1, r⟩ := ih (uI (uI τ 1 8 (nI (nvc B s (j + 1)))) 1 5 (nI (s + (j + 1)))) ⟨(ft.uI ⟨rfl, by omega⟩).uI ⟨rfl, by omega⟩, mI_s, by rw [mI_n (by decide), mI_s]⟩
    refine ⟨σ', b_47_0 St ?_, r⟩
    rw [t5, Rt.2.1]
    refine pk_lt (s + j) n (fun _ => ⟨_, _, c1, St, _, _, c2, St, fun z => absurd z (by decide), fun _ => ?_⟩) (fun z => absurd z (by omega)) rfl rfl (by omega) (by omega)
    rw [t5]
    refine ⟨_, _, c1, St, ?_⟩
    rw [e3]
    refine ⟨_, _, c3, St, fun τ1 q1 => ?_⟩
    rw [mI_n (by decide), t5, nI_1] at q1
    rw [q1]
    exact h1
  · intro τ ⟨ft, t5, t8⟩
    have St := ft.sg hS
    have Rt := h.fk (ft.mono (fun _ _ h => wj_k h))
    rw [show s + (e - s) = e by omega] at t5
    refine ⟨uI τ 1 6 2, b_47_0 St ?_, ft.uI ⟨rfl, by omega⟩, by rw [mI_n (by decide), t5], mI_s, by rw [mI_n (by decide), t8]⟩
    rw [t5, Rt.2.1]
    refine pk_lt e n (fun g => ?_) (fun g => rfl) rfl rfl (by omega) (by omega)
    have c1 := c_41 (p := e) St Rt (by omega)
    rw [show b0 B n e = B e from if_pos g] at c1
    have c2 := c_43 (σ := τ) (b := B e) St (by have := (h.2.2 e g).1; omega)
    rw [hout g] at c2
    exact ⟨_, _, c1, St, _, _, c2, St, fun _ => rfl, fun z => absurd rfl z⟩
theorem kSg_35 {b : Nat} : kSg b = 35 ↔ b = 60 := by
  unfold kSg
  repeat' split
  all_goals omega
theorem kSg_37 {b : Nat} : kSg b = 37 ↔ b = 62 := by
  unfold kSg
  repeat' split
  all_goals omega
theorem kSg_lt (b : Nat) : kSg b ≤ 40 := by
  unfold kSg
  repeat' split
  all_goals omega
/-- a sign -/
theorem c_48 {s : Nat} (hS : Sg t σ) (h : RC σ B n) (hs : s < n) (h5 : mI σ 1 5 = nI s) : ∃ σ', Cl 48 [.ref 1] σ (none, σ') ∧ Fr Wj σ σ' ∧ mI σ' 1 5 = nI (if 40 < kS2 (B s) (b0 B n (s + 1)) then s + 2 else s + 1) ∧ mI σ' 1 6 = nI (kS2 (B s) (b0 B n (s + 1))) ∧ mI σ' 1 8 = mI σ 1 8 := by
  have hn := h.1
  have hb := (h.2.2 s hs).1
  have hc := h.lt (s + 1)
  have c1 := c_41 (p := s) hS h (by omega)
  rw [show b0 B n s = B s from if_pos hs] at c1
  have c2 := c_41 (p := s + 1) hS h (by omega)
  generalize b0 B n (s + 1) = c at c2 hc
  generalize B s = b at c1 hb
  have k1 := kSg_lt b
  have t48 : ∀ x1 x3, ∃ σ', Ev 48 51 [.ref 1, .int x1, .int (nI c), .int x3] [.int (nI (kSg b)), .ref 1] (uI σ 1 5 (nI (s + 1))) (none, σ') ∧ Fr Wj σ σ' ∧ mI σ' 1 5 = nI (if 40 < kS2 b c then s + 2 else s + 1) ∧ mI σ' 1 6 = nI (kS2 b c) ∧ mI σ' 1 8 = mI σ 1 8 := by
    intro x1 x3
    generalize eτ : uI (uI σ 1 5 (nI (s + 1))) 1 6 (nI (kSg b)) = τ
    have F : Fr Wj σ τ := by rw [← eτ]; exact ((Fr.rf σ).uI ⟨rfl, by omega⟩).uI ⟨rfl, by omega⟩
    have St := F.sg hS
    have t5 : mI τ 1 5 = nI (s + 1) := by rw [← eτ, mI_n (by decide), mI_s]
    have t6 : mI τ 1 6 = nI (kSg b) := by rw [← eτ, mI_s]
    have t8 : mI τ 1 8 = mI σ 1 8 := by rw [← eτ, mI_n (by decide), mI_n (by decide)]
    have two : ∀ K : Nat, 40 < K → kS2 b c = K → Fr Wj σ (uI (uI τ 1 6 (nI K)) 1 5 (nI (s + 2))) ∧ mI (uI (uI τ 1 6 (nI K)) 1 5 (nI (s + 2))) 1 5 = nI (if 40 < kS2 b c then s + 2 else s + 1) ∧ mI (uI (uI τ 1 6 (nI K)) 1 5 (nI (s + 2))) 1 6 = nI (kS2 b c) ∧ mI (uI (uI τ 1 6 (nI K)) 1 5 (nI (s + 2))) 1 8 = mI σ 1 8 := by
      intro K hK e
      refine ⟨(F.uI ⟨rfl, by omega⟩).uI ⟨rfl, by omega⟩, ?_, ?_, ?_⟩
      · rw [mI_s, if_pos (by omega)]
      · rw [mI_n (by decide), mI_s, e]
      · rw [mI_n (by decide), mI_n (by decide), t8]
    have one : kS2 b c = kSg b → Fr Wj σ τ ∧ mI τ 1 5 = nI (if 40 < kS2 b c then s + 2 else s + 1) ∧ mI τ 1 6 = nI (kS2 b c) ∧ mI τ 1 8 = mI σ 1 8 := by
      intro e
      refine ⟨F, ?_, ?_, t8⟩
      · rw [if_neg (by omega), t5]
      · rw [e, t6]
    have stp : ∀ K : Int32, uI (uI τ 1 6 K) 1 5 (mI (uI τ 1 6 K) 1 5 + 1) = uI (uI τ 1 6 K) 1 5 (nI (s + 2)) := by
      intro K
      rw [mI_n (by decide), t5, nI_1]
    have i35 : (nI (kSg b) = 35) ↔ b = 60 := (nI_eq (b := 35) (by omega) (by decide)).trans kSg_35
    have i37 : (nI (kSg b) = 37) ↔ b = 62 := (nI_eq (b := 37) (by omega) (by decide)).trans kSg_37
    have i61 : (nI c = 61) ↔ c = 61 := nI_eq (b := 61) (by omega) (by decide)
    have i62 : (nI c = 62) ↔ c = 62 := nI_eq (b := 62) (by omega) (by decide)
    by_cases p1 : b = 60 ∧ c = 61
    · refine ⟨_, b_48_51 hS.uI ?_, two 41 (by decide) (by unfold kS2; rw [if_pos p1])⟩
      rw [eτ, t6]
      refine ⟨fun _ => ⟨fun _ σ1 q1 => ?_, fun z => absurd (i61.mpr p1.2) z⟩, fun z => absurd (i35.mpr p1.1) z⟩
      rw [q1, stp]; rfl
    · by_cases p2 : b = 60 ∧ c = 62
      · have go : ∃ w, w = uI (uI τ 1 6 (nI 42)) 1 5 (nI (s + 2)) ∧ Ev 48 78 [.ref 1, .int x1, .int (nI c), .int x3] [] τ (none, w) := by
          refine ⟨_, rfl, b_48_78 St ?_⟩
          rw [t6]
          refine ⟨fun _ => ⟨fun _ σ1 q1 => ?_, fun z => absurd (i62.mpr p2.2) z⟩, fun z => absurd (i35.mpr p2.1) z⟩
          rw [q1, stp]; rfl
        obtain ⟨w, ew, go⟩ := go
        refine ⟨w, b_48_51 hS.uI ?_, by rw [ew]; exact two 42 (by decide) (by unfold kS2; rw [if_neg p1, if_pos p2])⟩
        rw [eτ, t6]
        exact ⟨fun _ => ⟨fun z => absurd (i61.mp z) (by omega), fun _ => go⟩, fun z => absurd (i35.mpr p2.1) z⟩
      · have e0 : ¬ (b = 60 ∧ c = 61) ∧ ¬ (b = 60 ∧ c = 62) := ⟨p1, p2⟩
        have go : ∀ w, Ev 48 102 [.ref 1, .int x1, .int (nI c), .int x3] [] τ (none, w) → Ev 48 51 [.ref 1, .int x1, .int (nI c), .int x3] [.int (nI (kSg b)), .ref 1] (uI σ 1 5 (nI (s + 1))) (none, w) := by
          intro w hw
          have hw2 : Ev 48 78 [.ref 1, .int x1, .int (nI c), .int x3] [] τ (none, w) := by
            refine b_48_78 St ?_
            rw [t6]
            exact ⟨fun z => ⟨fun y => absurd ⟨i35.mp z, i62.mp y⟩ p2, fun _ => hw⟩, fun _ => hw⟩
          refine b_48_51 hS.uI ?_
          rw [eτ, t6]
          exact ⟨fun z => ⟨fun y => absurd ⟨i35.mp z, i61.mp y⟩ p1, fun _ => hw2⟩, fun _ => hw2⟩
        by_cases p3 : b = 62 ∧ c = 61
        · refine ⟨_, go _ (b_48_102 St ?_), two 43 (by decide) (by unfold kS2; rw [if_neg p1, if_neg p2, if_pos p3])⟩
          rw [t6]
          refine ⟨fun _ => ⟨fun _ σ1 q1 => ?_, fun z => absurd (i61.mpr p3.2) z⟩, fun z => absurd (i37.mpr p3.1) z⟩
          rw [q1, stp]; rfl
        · refine ⟨_, go _ (b_48_102 St ?_), one (by unfold kS2; rw [if_neg p1, if_neg p2, if_neg p3])⟩
          rw [t6]
          exact ⟨fun z => ⟨fun y => absurd ⟨i37.mp z, i61.mp y⟩ p3, fun _ => rfl⟩, fun _ => rfl⟩
  obtain ⟨σ', t1, r⟩ := t48 (nI b) (sIx b)
  refine ⟨σ', ck_48 hS (b_48_0 hS ?_), r⟩
  rw [h5]
  refine ⟨_, _, c1, hS, ?_⟩
  rw [h5, nI_1]
  refine ⟨_, _, c2, hS, ?_⟩
  rw [byte_c b hb]
  refine ⟨_, _, c_284 hS hb, hS, ?_⟩
  rw [h5, nI_1]
  rcases sIx_k b hb with ⟨g1, g2⟩ | ⟨g1, g2⟩
  · refine ⟨fun _ => ?_, fun z => absurd g1 z⟩
    rw [g2] at t1; exact t1
  · refine ⟨fun z => absurd z g1, fun _ => ?_⟩
    rw [g2]; exact t1
/-- a token -/
theorem c_44 {p : Nat} (hS : Sg t σ) (h : RC σ B n) (hp : p ≤ n) (h5 : mI σ 1 5 = nI p) : ∃ σ', Cl 44 [.ref 1] σ (none, σ') ∧ Fr Wkk σ σ' ∧ mI σ' 1 5 = nI (tE B n p) ∧ mI σ' 1 6 = nI (tK B n p) ∧ mI σ' 1 7 = nI (tS B n p) ∧ mI σ' 1 8 = nI (tV B n p) := by
  have hn := h.1
  -- behind the white
  have tail : ∀ s τ, s ≤ n → Fr Wkk σ τ → mI τ 1 5 = nI s → ∃ σ', Ev 44 50 [.ref 1] [] τ (none, σ') ∧ Fr Wkk σ σ' ∧ mI σ' 1 5 = nI (kE B n s) ∧ mI σ' 1 6 = nI (kK B n s) ∧ mI σ' 1 7 = nI s ∧ mI σ' 1 8 = nI (kV B n s) := by
    intro s τ0 hs F0 t50
    have S0 := F0.sg hS
    generalize eτ : uI (uI τ0 1 7 (mI τ0 1 5)) 1 8 0 = τ
    have F : Fr Wkk σ τ := by rw [← eτ]; exact (F0.uI ⟨rfl, by omega⟩).uI ⟨rfl, by omega⟩
    have St := F.sg hS
    have Rt := h.fk F
    have t5 : mI τ 1 5 = nI s := by rw [← eτ, mI_n (by decide), mI_n (by decide), t50]
    have t7 : mI τ 1 7 = nI s := by rw [← eτ, mI_n (by decide), mI_s, t50]
    have t8 : mI τ 1 8 = 0 := by rw [← eτ, mI_s]
    rcases Nat.lt_or_ge s n with g | g
    · have hb := (h.2.2 s g).1
      have c1 := c_41 (p := s) St Rt (by omega)
      rw [show b0 B n s = B s from if_pos g] at c1
      have c2 := c_42 (σ := τ) (b := B s) St (by omega)
      have c3 := c_43 (σ := τ) (b := B s) St (by omega)
      have r7 : ∀ σ', Fr Wj τ σ' → mI σ' 1 7 = nI s := fun σ' f => ((f.1 1 7 (fun z => by unfold Wj at z; omega)).1).trans t7
      have fj : ∀ σ', Fr Wj τ σ' → Fr Wkk σ σ' := fun σ' f => F.tr (f.mono (fun _ _ h => wj_k h))
      cases hl : kLe (B s) with
      | true =>
        rw [hl] at c2
        obtain ⟨σ', d1, f, a5, a6, a8⟩ := c_45 St Rt g hl t5 t8
        refine ⟨σ', b_44_50 S0 ?_, fj σ' f, ?_, ?_, r7 σ' f, ?_⟩
        · rw [eτ, t5, Rt.2.1]
          exact pk_lt s n (fun _ => ⟨_, _, c1, St, _, _, c2, St, fun z => absurd z (by decide), fun _ => ⟨σ', d1, f.sg St, rfl⟩⟩) (fun z => absurd z (by omega)) rfl rfl (by omega) (by omega)
        · unfold kE; rw [if_neg (by omega), if_pos hl]; exact a5
        · unfold kK; rw [if_neg (by omega), if_pos hl]; exact a6
        · unfold kV; rw [if_neg (by omega), if_pos hl]; exact a8
      | false =>
        have hl' : ¬ kLe (B s) = true := by rw [hl]; decide
        rw [hl] at c2
        cases hd : kDg (B s) with
        | true =>
          rw [hd] at c3
          obtain ⟨σ', d1, f, a5, a6, a8⟩ := c_47 St Rt g t5 t8
          refine ⟨σ', b_44_50 S0 ?_, fj σ' f, ?_, ?_, r7 σ' f, ?_⟩
          · rw [eτ, t5, Rt.2.1]
            refine pk_lt s n (fun _ => ⟨_, _, c1, St, _, _, c2, St, fun _ => ?_, fun z => absurd rfl z⟩) (fun z => absurd z (by omega)) rfl rfl (by omega) (by omega)
            rw [t5]
            exact ⟨_, _, c1, St, _, _, c3, St, fun z => absurd z (by decide), fun _ => ⟨σ', d1, f.sg St, rfl⟩⟩
          · unfold kE; rw [if_neg (by omega), if_neg hl', if_pos hd]; exact a5
          · unfold kK; rw [if_neg (by omega), if_neg hl', if_pos hd]; exact a6
          · unfold kV; rw [if_neg (by omega), if_neg hl', if_pos hd]; exact a8
        | false =>
          have hd' : ¬ kDg (B s) = true := by rw [hd]; decide
          rw [hd] at c3
          obtain ⟨σ', d1, f, a5, a6, a8⟩ := c_48 St Rt g t5
          refine ⟨σ', b_44_50 S0 ?_, fj σ' f, ?_, ?_, r7 σ' f, ?_⟩
          · rw [eτ, t5, Rt.2.1]
            refine pk_lt s n (fun _ => ⟨_, _, c1, St, _, _, c2, St, fun _ => ?_, fun z => absurd rfl z⟩) (fun z => absurd z (by omega)) rfl rfl (by omega) (by omega)
            rw [t5]
            exact ⟨_, _, c1, St, _, _, c3, St, fun _ => ⟨σ', d1, f.sg St, rfl⟩, fun z => absurd rfl z⟩
          · unfold kE; rw [if_neg (by omega), if_neg hl', if_neg hd']; exact a5
          · unfold kK; rw [if_neg (by omega), if_neg hl', if_neg hd']; exact a6
          · unfold kV; rw [if_neg (by omega), if_neg hl', if_neg hd', a8, t8]; rfl
    · refine ⟨uI τ 1 6 0, b_44_50 S0 ?_, F.uI ⟨rfl, by omega⟩, ?_, ?_, ?_, ?_⟩
      · rw [eτ, t5, Rt.2.1]
        exact pk_lt s n (fun z => absurd z (by omega)) (fun _ τ1 q1 => by rw [q1]) rfl rfl (by omega) (by omega)
      · unfold kE; rw [if_pos g, mI_n (by decide), t5]
      · unfold kK; rw [if_pos g, mI_s]; rfl
      · rw [mI_n (by decide), t7]
      · unfold kV; rw [if_pos g, mI_n (by decide), t8]; rfl
  -- the white
  have ws : ∀ m p τ, p + m = n → Fr Wkk σ τ → mI τ 1 5 = nI p → ∃ σ', Ev 44 0 [.ref 1] [] τ (none, σ') ∧ Fr Wkk σ σ' ∧ mI σ' 1 5 = nI (tE B n p) ∧ mI σ' 1 6 = nI (tK B n p) ∧ mI σ' 1 7 = nI (tS B n p) ∧ mI σ' 1 8 = nI (tV B n p) := by
    intro m
    induction m with
    | zero =>
      intro p τ hpm F t5
      obtain ⟨σ', d1, r⟩ := tail p τ (by omega) F t5
      have e : tS B n p = p := ft_end (by omega)
      refine ⟨σ', b_44_0 (F.sg hS) ?_, by unfold tE tK tV; rw [e]; exact r⟩
      rw [t5, (h.fk F).2.1]
      exact pk_lt p n (fun z => absurd z (by omega)) (fun _ => d1) rfl rfl (by omega) (by omega)
    | succ m ih =>
      intro p τ hpm F t5
      have St := F.sg hS
      have hb := (h.2.2 p (by omega)).1
      have c1 := c_41 (p := p) St (h.fk F) (by omega)
      rw [show b0 B n p = B p from if_pos (by omega)] at c1
      have i10 : (nI (B p) = 10) ↔ B p = 10 := nI_eq (b := 10) (by omega) (by decide)
      have i32 : (nI (B p) = 32) ↔ B p = 32 := nI_eq (b := 32) (by omega) (by decide)
      cases hw : kWs (B p) with
      | true =>
        have e : tS B n p = tS B n (p + 1) := ft_yes (c := fun i => kWs (B i)) (by omega) hw
        obtain ⟨σ', d1, r⟩ := ih (p + 1) (uI τ 1 5 (nI (p + 1))) (by omega) (F.uI ⟨rfl, by omega⟩) mI_s
        refine ⟨σ', b_44_0 St ?_, by unfold tE tK tV at r ⊢; rw [e]; exact r⟩
        rw [t5, (h.fk F).2.1]
        refine pk_lt p n (fun _ => ⟨_, _, c1, St, fun _ => ?_, fun z => ?_⟩) (fun z => absurd z (by omega)) rfl rfl (by omega) (by omega)
        · rw [t5, nI_1]; exact d1
        · rw [t5]
          refine ⟨_, _, c1, St, fun _ => ?_, fun y => ?_⟩
          · rw [t5, nI_1]; exact d1
          · exact absurd (kWs_i.mp hw) (fun u => u.elim (fun v => z (i10.mpr v)) (fun v => y (i32.mpr v)))
      | false =>
        have hw' : ¬ (B p = 10 ∨ B p = 32) := fun z => by rw [kWs_i.mpr z] at hw; cases hw
        have e : tS B n p = p := ft_no (c := fun i => kWs (B i)) hw
        obtain ⟨σ', d1, r⟩ := tail p τ (by omega) F t5
        refine ⟨σ', b_44_0 St ?_, by unfold tE tK tV; rw [e]; exact r⟩
        rw [t5, (h.fk F).2.1]
        refine pk_lt p n (fun _ => ⟨_, _, c1, St, fun z => absurd (Or.inl (i10.mp z)) hw', fun z => ?_⟩) (fun z => absurd z (by omega)) rfl rfl (by omega) (by omega)
        rw [t5]
        exact ⟨_, _, c1, St, fun y => absurd (Or.inr (i32.mp y)) hw', fun _ => d1⟩
  obtain ⟨σ', d1, r⟩ := ws (n - p) p σ (by omega) (Fr.rf σ) h5
  exact ⟨σ', ck_44 hS d1, r⟩
end TokC
