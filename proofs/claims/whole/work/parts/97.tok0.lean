/-! ===== tokens of a text ===== -/
def kWs (b : Nat) : Bool := decide (b = 10) || decide (b = 32)
def kLe (b : Nat) : Bool := decide (97 ≤ b) && decide (b ≤ 122)
def kDg (b : Nat) : Bool := decide (48 ≤ b) && decide (b ≤ 57)
/-- how far c goes from p, at most m -/
def far (c : Nat → Bool) : Nat → Nat → Nat
  | 0, p => p
  | m + 1, p => if c p = true then far c m (p + 1) else p
def ft (c : Nat → Bool) (n p : Nat) : Nat := far c (n - p) p
theorem far_ge (c : Nat → Bool) : ∀ m p, p ≤ far c m p := by
  intro m
  induction m with
  | zero => intro p; exact Nat.le_refl _
  | succ m ih =>
    intro p
    show p ≤ (if c p = true then far c m (p + 1) else p)
    split
    · have := ih (p + 1); omega
    · exact Nat.le_refl _
theorem far_le (c : Nat → Bool) : ∀ m p, far c m p ≤ p + m := by
  intro m
  induction m with
  | zero => intro p; exact Nat.le_refl _
  | succ m ih =>
    intro p
    show (if c p = true then far c m (p + 1) else p) ≤ _
    split
    · have := ih (p + 1); omega
    · omega
theorem far_in {c : Nat → Bool} : ∀ {m p i}, p ≤ i → i < far c m p → c i = true := by
  intro m
  induction m with
  | zero => intro p i h1 h2; have h2 : i < p := h2; omega
  | succ m ih =>
    intro p i h1 h2
    have h2 : i < (if c p = true then far c m (p + 1) else p) := h2
    split at h2
    · rename_i hc
      rcases Nat.eq_or_lt_of_le h1 with e | e
      · rw [← e]; exact hc
      · exact ih e h2
    · omega
theorem ft_ge (c : Nat → Bool) (n p : Nat) : p ≤ ft c n p := far_ge c _ p
theorem ft_le {c : Nat → Bool} {n p : Nat} (h : p ≤ n) : ft c n p ≤ n := by
  have := far_le c (n - p) p
  show far c (n - p) p ≤ n
  omega
theorem ft_end {c : Nat → Bool} {n p : Nat} (h : n ≤ p) : ft c n p = p := by
  show far c (n - p) p = p
  rw [Nat.sub_eq_zero_of_le h]
  rfl
theorem ft_yes {c : Nat → Bool} {n p : Nat} (h : p < n) (hc : c p = true) : ft c n p = ft c n (p + 1) := by
  show far c (n - p) p = far c (n - (p + 1)) (p + 1)
  rw [show n - p = (n - (p + 1)) + 1 by omega]
  exact if_pos hc
theorem ft_no {c : Nat → Bool} {n p : Nat} (hc : c p = false) : ft c n p = p := by
  rcases Nat.lt_or_ge p n with h | h
  · show far c (n - p) p = p
    rw [show n - p = (n - (p + 1)) + 1 by omega]
    exact if_neg (by rw [hc]; decide)
  · exact ft_end h
theorem ft_in {c : Nat → Bool} {n p i : Nat} (h1 : p ≤ i) (h2 : i < ft c n p) : c i = true := far_in h1 h2
theorem ft_gt {c : Nat → Bool} {n p : Nat} (h : p < n) (hc : c p = true) : p < ft c n p := by
  rw [ft_yes h hc]
  exact Nat.lt_of_lt_of_le (Nat.lt_succ_self p) (ft_ge c n (p + 1))
theorem far_out {c : Nat → Bool} : ∀ {m p}, far c m p < p + m → c (far c m p) = false := by
  intro m
  induction m with
  | zero => intro p h; have h : p < p + 0 := h; omega
  | succ m ih =>
    intro p h
    have h : (if c p = true then far c m (p + 1) else p) < p + (m + 1) := h
    show c (if c p = true then far c m (p + 1) else p) = false
    split
    · rename_i hc
      rw [if_pos hc] at h
      exact ih (by omega)
    · rename_i hc
      cases e : c p with
      | true => exact absurd e hc
      | false => rfl
theorem ft_out {c : Nat → Bool} {n p : Nat} (h : ft c n p < n) : c (ft c n p) = false := by
  have h1 := ft_ge c n p
  exact far_out (m := n - p) (p := p) (by show ft c n p < p + (n - p); omega)
/-! letters, put together -/
def dg (B : Nat → Nat) (a len i : Nat) : Nat := if i < len then B (a + i) - 96 else 0
def pq (B : Nat → Nat) (a len : Nat) : Nat → Nat
  | 0 => 0
  | i + 1 => 32 * pq B a len i + dg B a len i
def pv (B : Nat → Nat) (a len : Nat) : Nat := pq B a len 6
theorem pv_eq (B : Nat → Nat) (a len : Nat) : pv B a len = 32 * (32 * (32 * (32 * (32 * (32 * 0 + dg B a len 0) + dg B a len 1) + dg B a len 2) + dg B a len 3) + dg B a len 4) + dg B a len 5 := rfl
theorem dg_lt {B : Nat → Nat} {a len i : Nat} (h : ∀ k, k < len → kLe (B (a + k)) = true) : dg B a len i < 32 := by
  unfold dg
  split
  · rename_i hi
    have := h i hi
    unfold kLe at this
    simp only [Bool.and_eq_true, decide_eq_true_eq] at this
    omega
  · decide
theorem pv_lt {B : Nat → Nat} {a len : Nat} (h : ∀ k, k < len → kLe (B (a + k)) = true) : pv B a len < 2 ^ 30 := by
  have h0 := dg_lt (i := 0) h
  have h1 := dg_lt (i := 1) h
  have h2 := dg_lt (i := 2) h
  have h3 := dg_lt (i := 3) h
  have h4 := dg_lt (i := 4) h
  have h5 := dg_lt (i := 5) h
  rw [pv_eq]
  omega
/-- one letter more -/
theorem pv_up {B : Nat → Nat} {a j : Nat} (hj : j < 6) : pv B a (j + 1) = pv B a j + (B (a + j) - 96) * 2 ^ (5 * (5 - j)) ∧ ∃ b, pv B a j = 2 ^ (5 * (6 - j)) * b := by
  rw [pv_eq, pv_eq]
  rcases (show j = 0 ∨ j = 1 ∨ j = 2 ∨ j = 3 ∨ j = 4 ∨ j = 5 by omega) with rfl | rfl | rfl | rfl | rfl | rfl
  · simp only [dg]
    refine ⟨by simp; try omega, 0, by simp⟩
  · simp only [dg]
    refine ⟨by simp; try omega, B a - 96, by simp; try omega⟩
  · simp only [dg]
    refine ⟨by simp; try omega, 32 * (B a - 96) + (B (a + 1) - 96), by simp; try omega⟩
  · simp only [dg]
    refine ⟨by simp; try omega, 32 * (32 * (B a - 96) + (B (a + 1) - 96)) + (B (a + 2) - 96), by simp; try omega⟩
  · simp only [dg]
    refine ⟨by simp; try omega, 32 * (32 * (32 * (B a - 96) + (B (a + 1) - 96)) + (B (a + 2) - 96)) + (B (a + 3) - 96), by simp; try omega⟩
  · simp only [dg]
    refine ⟨by simp; try omega, 32 * (32 * (32 * (32 * (B a - 96) + (B (a + 1) - 96)) + (B (a + 2) - 96)) + (B (a + 3) - 96)) + (B (a + 4) - 96), by simp; try omega⟩
/-! the words: the first side's list by its digits, the second side's by its letters -/
def wld : List (List Nat) := [[12, 1, 13, 16, 0, 0], [16, 21, 12, 12, 0, 0], [12, 9, 20, 0, 0, 0], [18, 9, 14, 7, 0, 0], [13, 5, 14, 4, 0, 0], [2, 21, 18, 14, 0, 0], [19, 5, 5, 4, 0, 0], [12, 1, 23, 0, 0, 0], [20, 15, 12, 12, 0, 0], [19, 20, 9, 3, 11, 0], [6, 1, 20, 5, 0, 0], [15, 18, 0, 0, 0, 0], [1, 14, 4, 0, 0, 0], [14, 15, 20, 0, 0, 0], [3, 15, 19, 20, 0, 0], [23, 15, 18, 14, 0, 0], [19, 8, 15, 23, 14, 0], [20, 9, 5, 19, 0, 0], [15, 21, 20, 0, 0, 0], [1, 7, 5, 0, 0, 0], [13, 9, 14, 21, 20, 5]]
def wdd (k i : Nat) : Nat := (wld.getD k []).getD i 0
def wq (k : Nat) : Nat → Nat
  | 0 => 0
  | i + 1 => 32 * wq k i + wdd k i
def wv (k : Nat) : Nat := wq k 6
/-- the second side's place of a word of the first's, and back -/
def wx (k : Nat) : Nat := if k = 11 then 12 else if k = 12 then 11 else k
def wst (k : Nat) : Nat := [0, 5, 10, 14, 19, 24, 29, 34, 38, 43, 49, 54, 58, 61, 65, 70, 75, 81, 86, 90, 94].getD k 101
def wln (k : Nat) : Nat := [4, 4, 3, 4, 4, 4, 4, 3, 4, 5, 4, 3, 2, 3, 4, 4, 5, 4, 3, 3, 6].getD k 0
def mtc (B : Nat → Nat) (a len k : Nat) : Bool := decide (wln k = len) && (List.range (wln k)).all (fun i => decide (wdl.getD (wst k + i) 0 = B (a + i)))
theorem wv_inj : ∀ i, i < 21 → ∀ j, j < 21 → wv i = wv j → i = j := by decide +kernel
theorem wl_tab : ∀ k, k < 21 → wst k + wln k < 101 ∧ 1 ≤ wln k ∧ wln k ≤ 6 ∧ wdl.getD (wst k + wln k) 0 = 32 ∧ (∀ i, i < 6 → (i < wln k → wdl.getD (wst k + i) 0 = wdd (wx k) i + 96 ∧ 1 ≤ wdd (wx k) i) ∧ (wln k ≤ i → wdd (wx k) i = 0)) ∧ (∀ i, i < 6 → wdd (wx k) i < 32) ∧ wst (k + 1) = wst k + (wln k + 1) ∧ wx k < 21 ∧ wx (wx k) = k := by decide +kernel
theorem wl_32 : ∀ k, k < 21 → ∀ i, i < wln k → wdl.getD (wst k + i) 0 ≠ 32 := by decide +kernel
theorem mtc_iff {B : Nat → Nat} {a len k : Nat} (hk : k < 21) (hl : ∀ i, i < len → kLe (B (a + i)) = true) : mtc B a len k = true ↔ len ≤ 6 ∧ pv B a len = wv (wx k) := by
  obtain ⟨_, t1, t2, _, t3, t4, _, _, _⟩ := wl_tab k hk
  have hb : ∀ i, i < len → 97 ≤ B (a + i) ∧ B (a + i) ≤ 122 := by
    intro i hi
    have := hl i hi
    unfold kLe at this
    simpa only [Bool.and_eq_true, decide_eq_true_eq] using this
  have hd : ∀ i, i < 6 → dg B a len i < 32 := fun i _ => dg_lt hl
  have e1 : wv (wx k) = 32 * (32 * (32 * (32 * (32 * (32 * 0 + wdd (wx k) 0) + wdd (wx k) 1) + wdd (wx k) 2) + wdd (wx k) 3) + wdd (wx k) 4) + wdd (wx k) 5 := rfl
  have ed : pv B a len = wv (wx k) ↔ ∀ i, i < 6 → dg B a len i = wdd (wx k) i := by
    rw [pv_eq, e1]
    have a0 := hd 0 (by omega)
    have a1 := hd 1 (by omega)
    have a2 := hd 2 (by omega)
    have a3 := hd 3 (by omega)
    have a4 := hd 4 (by omega)
    have a5 := hd 5 (by omega)
    have b0 := t4 0 (by omega)
    have b1 := t4 1 (by omega)
    have b2 := t4 2 (by omega)
    have b3 := t4 3 (by omega)
    have b4 := t4 4 (by omega)
    have b5 := t4 5 (by omega)
    constructor
    · intro h i hi
      rcases (show i = 0 ∨ i = 1 ∨ i = 2 ∨ i = 3 ∨ i = 4 ∨ i = 5 by omega) with rfl | rfl | rfl | rfl | rfl | rfl <;> omega
    · intro h
      rw [h 0 (by omega), h 1 (by omega), h 2 (by omega), h 3 (by omega), h 4 (by omega), h 5 (by omega)]
  rw [ed]
  unfold mtc
  simp only [Bool.and_eq_true, decide_eq_true_eq, List.all_eq_true, List.mem_range]
  constructor
  · rintro ⟨h1, h2⟩
    subst h1
    refine ⟨t2, fun i hi => ?_⟩
    unfold dg
    split
    · rename_i g
      have := h2 i g
      have := (t3 i hi).1 g
      omega
    · rename_i g
      exact ((t3 i hi).2 (by omega)).symm
  · rintro ⟨h1, h2⟩
    have hlen : wln k = len := by
      rcases Nat.lt_trichotomy (wln k) len with g | g | g
      · have x1 := h2 (wln k) (by omega)
        have x2 := (t3 (wln k) (by omega)).2 (Nat.le_refl _)
        have x3 := hb (wln k) g
        unfold dg at x1
        rw [if_pos g, x2] at x1
        omega
      · exact g
      · have x1 := h2 len (by omega)
        have x2 := (t3 len (by omega)).1 g
        unfold dg at x1
        rw [if_neg (Nat.lt_irrefl _)] at x1
        omega
    refine ⟨hlen, fun i hi => ?_⟩
    have x1 := h2 i (by omega)
    have x2 := (t3 i (by omega)).1 hi
    have x3 := hb i (by omega)
    unfold dg at x1
    rw [if_pos (by omega)] at x1
    omega
theorem first_is {p : Nat → Bool} : ∀ {n k : Nat}, k < n → p k = true → (∀ j, j < k → p j = false) → fa_first p n = k := by
  intro n k hk hp hn
  have h1 := fa_first_le p n
  rcases Nat.lt_trichotomy (fa_first p n) k with g | g | g
  · have := fa_first_yes p n (by omega)
    rw [hn _ g] at this
    cases this
  · exact g
  · have := fa_first_no p n k g
    rw [hp] at this
    cases this
theorem first_end {p : Nat → Bool} {n : Nat} (hn : ∀ j, j < n → p j = false) : fa_first p n = n := by
  have h1 := fa_first_le p n
  rcases Nat.lt_or_ge (fa_first p n) n with g | g
  · have := fa_first_yes p n g
    rw [hn _ g] at this
    cases this
  · omega
/-- the kind of a word, by its letters -/
def kow (v : Nat) : Nat := if fa_first (fun k => decide (wv k = v)) 21 < 21 then 10 + fa_first (fun k => decide (wv k = v)) 21 else 3
theorem kow_cases {B : Nat → Nat} {a len : Nat} (hl : ∀ i, i < len → kLe (B (a + i)) = true) (h6 : len ≤ 6) : (∃ k, k < 21 ∧ fa_first (mtc B a len) 21 = k ∧ kow (pv B a len) = 10 + wx k) ∨ (fa_first (mtc B a len) 21 = 21 ∧ kow (pv B a len) = 3) := by
  have hl1 := fa_first_le (mtc B a len) 21
  rcases Nat.lt_or_ge (fa_first (mtc B a len) 21) 21 with g | g
  · refine Or.inl ⟨_, g, rfl, ?_⟩
    have h1 := fa_first_yes (mtc B a len) 21 g
    generalize fa_first (mtc B a len) 21 = k at g h1
    have h2 := ((mtc_iff g hl).mp h1).2
    obtain ⟨_, _, _, _, _, _, _, w1, _⟩ := wl_tab k g
    have h3 : fa_first (fun k => decide (wv k = pv B a len)) 21 = wx k := by
      refine first_is w1 (decide_eq_true h2.symm) (fun j hj => decide_eq_false (fun z => ?_))
      have := wv_inj j (by omega) (wx k) w1 (z.trans h2)
      omega
    unfold kow
    rw [h3, if_pos w1]
  · refine Or.inr ⟨by omega, ?_⟩
    have h3 : fa_first (fun k => decide (wv k = pv B a len)) 21 = 21 := by
      refine first_end (fun j hj => decide_eq_false (fun z => ?_))
      obtain ⟨_, _, _, _, _, _, _, w1, w2⟩ := wl_tab j hj
      have h4 : mtc B a len (wx j) = true := (mtc_iff w1 hl).mpr ⟨h6, by rw [w2]; exact z.symm⟩
      have h5 := fa_first_no (mtc B a len) 21 (wx j) (by omega)
      rw [h4] at h5
      cases h5
    unfold kow
    rw [h3]
    rfl
theorem mtc_long {B : Nat → Nat} {a len : Nat} (h6 : 6 < len) : fa_first (mtc B a len) 21 = 21 := by
  refine first_end (fun j hj => ?_)
  obtain ⟨_, _, t2, _⟩ := wl_tab j hj
  unfold mtc
  rw [decide_eq_false (by omega)]
  rfl
/-! numbers -/
def nvc (B : Nat → Nat) (s : Nat) : Nat → Nat
  | 0 => 0
  | m + 1 => min 1000000 (10 * nvc B s m + (B (s + m) - 48))
def nvm (B : Nat → Nat) (s : Nat) : Nat → Nat
  | 0 => 0
  | m + 1 => if 99999 < nvm B s m then nvm B s m else 10 * nvm B s m + (B (s + m) - 48)
theorem nv_rel {B : Nat → Nat} {s : Nat} : ∀ {m : Nat}, (∀ i, i < m → kDg (B (s + i)) = true) → nvc B s m ≤ 1000000 ∧ nvm B s m ≤ 999999 ∧ (nvm B s m = nvc B s m ∨ (99999 < nvc B s m ∧ 99999 < nvm B s m)) := by
  intro m
  induction m with
  | zero => intro _; exact ⟨Nat.zero_le _, Nat.zero_le _, Or.inl rfl⟩
  | succ m ih =>
    intro h
    obtain ⟨h1, h2, h3⟩ := ih (fun i hi => h i (by omega))
    have h4 := h m (by omega)
    unfold kDg at h4
    simp only [Bool.and_eq_true, decide_eq_true_eq] at h4
    show min 1000000 (10 * nvc B s m + (B (s + m) - 48)) ≤ 1000000 ∧ (if 99999 < nvm B s m then nvm B s m else 10 * nvm B s m + (B (s + m) - 48)) ≤ 999999 ∧ ((if 99999 < nvm B s m then nvm B s m else 10 * nvm B s m + (B (s + m) - 48)) = min 1000000 (10 * nvc B s m + (B (s + m) - 48)) ∨ (99999 < min 1000000 (10 * nvc B s m + (B (s + m) - 48)) ∧ 99999 < (if 99999 < nvm B s m then nvm B s m else 10 * nvm B s m + (B (s + m) - 48))))
    split <;> omega
/-! signs -/
def kSg (b : Nat) : Nat := if b = 43 then 31 else if b = 45 then 32 else if b = 42 then 33 else if b = 47 then 34 else if b = 60 then 35 else if b = 61 then 36 else if b = 62 then 37 else if b = 40 then 38 else if b = 41 then 39 else if b = 59 then 40 else 1
def kS2 (b c : Nat) : Nat := if b = 60 ∧ c = 61 then 41 else if b = 60 ∧ c = 62 then 42 else if b = 62 ∧ c = 61 then 43 else kSg b
/-- a token from p on: where it begins, its kind, its value, where it ends -/
def tS (B : Nat → Nat) (n p : Nat) : Nat := ft (fun i => kWs (B i)) n p
def tW (B : Nat → Nat) (n p : Nat) : Nat := ft (fun i => kLe (B i)) n p
def tD (B : Nat → Nat) (n p : Nat) : Nat := ft (fun i => kDg (B i)) n p
def b0 (B : Nat → Nat) (n i : Nat) : Nat := if i < n then B i else 0
def kK (B : Nat → Nat) (n s : Nat) : Nat := if n ≤ s then 0 else if kLe (B s) = true then (if 6 < tW B n s - s then 1 else kow (pv B s (tW B n s - s))) else if kDg (B s) = true then 2 else kS2 (B s) (b0 B n (s + 1))
def kV (B : Nat → Nat) (n s : Nat) : Nat := if n ≤ s then 0 else if kLe (B s) = true then pv B s (min 6 (tW B n s - s)) else if kDg (B s) = true then nvc B s (tD B n s - s) else 0
def kE (B : Nat → Nat) (n s : Nat) : Nat := if n ≤ s then s else if kLe (B s) = true then tW B n s else if kDg (B s) = true then tD B n s else if 40 < kS2 (B s) (b0 B n (s + 1)) then s + 2 else s + 1
def tK (B : Nat → Nat) (n p : Nat) : Nat := kK B n (tS B n p)
def tV (B : Nat → Nat) (n p : Nat) : Nat := kV B n (tS B n p)
def tE (B : Nat → Nat) (n p : Nat) : Nat := kE B n (tS B n p)
theorem kow_lt (v : Nat) : kow v = 3 ∨ (10 ≤ kow v ∧ kow v ≤ 30) := by
  unfold kow
  split
  · exact Or.inr (by omega)
  · exact Or.inl rfl
theorem kS2_lt (b c : Nat) : kS2 b c = 1 ∨ (31 ≤ kS2 b c ∧ kS2 b c ≤ 43) := by
  unfold kS2 kSg
  repeat' split
  all_goals omega
theorem tK_lt (B : Nat → Nat) (n p : Nat) : tK B n p ≤ 3 ∨ (10 ≤ tK B n p ∧ tK B n p ≤ 43) := by
  unfold tK kK
  split
  · omega
  · split
    · split
      · omega
      · rcases kow_lt (pv B (tS B n p) (tW B n (tS B n p) - tS B n p)) with h | h <;> omega
    · split
      · omega
      · rcases kS2_lt (B (tS B n p)) (b0 B n (tS B n p + 1)) with h | h <;> omega
theorem tS_ge (B : Nat → Nat) (n p : Nat) : p ≤ tS B n p := ft_ge _ _ _
theorem tS_le {B : Nat → Nat} {n p : Nat} (h : p ≤ n) : tS B n p ≤ n := ft_le h
/-- two signs only where both are there -/
theorem kS2_two {B : Nat → Nat} {n s : Nat} (h : 40 < kS2 (B s) (b0 B n (s + 1))) : s + 1 < n := by
  rcases Nat.lt_or_ge (s + 1) n with g | g
  · exact g
  · exfalso
    unfold b0 at h
    rw [if_neg (Nat.not_lt.mpr g)] at h
    unfold kS2 kSg at h
    simp only [show ¬ (0 : Nat) = 61 by decide, show ¬ (0 : Nat) = 62 by decide, and_false, if_false] at h
    repeat' split at h
    all_goals omega
theorem tE_le {B : Nat → Nat} {n p : Nat} (h : p ≤ n) : tE B n p ≤ n := by
  have h1 := tS_le (B := B) h
  unfold tE kE
  split
  · exact h1
  · split
    · exact ft_le h1
    · split
      · exact ft_le h1
      · split
        · rename_i g
          have := kS2_two g
          omega
        · omega
theorem tE_gt {B : Nat → Nat} {n p : Nat} (h : tK B n p ≠ 0) : tS B n p < tE B n p ∧ tS B n p < n := by
  have hk : ¬ n ≤ tS B n p := by
    intro g
    apply h
    unfold tK kK
    rw [if_pos g]
  refine ⟨?_, by omega⟩
  unfold tE kE
  rw [if_neg hk]
  split
  · rename_i g
    exact ft_gt (c := fun i => kLe (B i)) (by omega) g
  · split
    · rename_i g
      exact ft_gt (c := fun i => kDg (B i)) (by omega) g
    · split <;> omega
theorem tV_lt {B : Nat → Nat} {n p : Nat} : tV B n p < 2 ^ 31 := by
  unfold tV kV
  split
  · decide
  · split
    · have := pv_lt (B := B) (a := tS B n p) (len := min 6 (tW B n (tS B n p) - tS B n p)) (fun k hk => ft_in (c := fun i => kLe (B i)) (p := tS B n p) (n := n) (by omega) (by unfold tW at hk; omega))
      omega
    · split
      · have := (nv_rel (B := B) (s := tS B n p) (m := tD B n (tS B n p) - tS B n p) (fun k hk => ft_in (c := fun i => kDg (B i)) (p := tS B n p) (n := n) (by omega) (by unfold tD at hk; omega))).1
        omega
      · decide
