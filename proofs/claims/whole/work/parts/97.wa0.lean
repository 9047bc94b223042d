/-! ===== notes: what is known, pure ===== -/
/-- which notes are struck, the last d of K looked at -/
def sx (W T : Nat → Nat) (K : Nat) : Nat → Nat
  | 0 => 0
  | d + 1 => if (sx W T K d).testBit (K - (d + 1)) = false ∧ W (K - (d + 1)) = 2 then sx W T K d ||| 2 ^ T (K - (d + 1)) else sx W T K d
theorem sx_keep {W T : Nat → Nat} {K : Nat} (h : ∀ k, k < K → W k = 2 → T k < k) {d i : Nat} (hi : K - (d + 1) ≤ i) : ∀ e, d ≤ e → e ≤ K → (sx W T K e).testBit i = (sx W T K d).testBit i := by
  intro e
  induction e with
  | zero => intro h1 _; have : d = 0 := by omega
            subst this; rfl
  | succ e ih =>
    intro h1 h2
    rcases Nat.lt_or_ge e d with g | g
    · have : d = e + 1 := by omega
      subst this; rfl
    · rw [← ih g (by omega)]
      show (if (sx W T K e).testBit (K - (e + 1)) = false ∧ W (K - (e + 1)) = 2 then sx W T K e ||| 2 ^ T (K - (e + 1)) else sx W T K e).testBit i = _
      by_cases c : (sx W T K e).testBit (K - (e + 1)) = false ∧ W (K - (e + 1)) = 2
      · rw [if_pos c]
        have := h (K - (e + 1)) (by omega) c.2
        exact tb_or (by omega)
      · rw [if_neg c]
theorem sx_lt {W T : Nat → Nat} {K : Nat} (hK : K ≤ 24) (h : ∀ k, k < K → W k = 2 → T k < k) : ∀ d, d ≤ K → sx W T K d < 2 ^ 24 := by
  intro d
  induction d with
  | zero => intro _; exact Nat.two_pow_pos _
  | succ d ih =>
    intro hd
    show (if (sx W T K d).testBit (K - (d + 1)) = false ∧ W (K - (d + 1)) = 2 then sx W T K d ||| 2 ^ T (K - (d + 1)) else sx W T K d) < _
    by_cases c : (sx W T K d).testBit (K - (d + 1)) = false ∧ W (K - (d + 1)) = 2
    · rw [if_pos c]
      have := h (K - (d + 1)) (by omega) c.2
      exact Nat.or_lt_two_pow (ih (by omega)) (Nat.pow_lt_pow_right (by decide) (by omega))
    · rw [if_neg c]; exact ih (by omega)
theorem and_or {o a k : Nat} : o &&& (a ||| 2 ^ k) = a ||| 2 ^ k ↔ o &&& a = a ∧ o.testBit k = true := by
  have e : ∀ i, (o &&& (a ||| 2 ^ k)).testBit i = (o.testBit i && (a.testBit i || decide (k = i))) := fun i => by rw [Nat.testBit_and, Nat.testBit_or, Nat.testBit_two_pow]
  have e2 : ∀ i, (a ||| 2 ^ k).testBit i = (a.testBit i || decide (k = i)) := fun i => by rw [Nat.testBit_or, Nat.testBit_two_pow]
  constructor
  · intro h
    have h2 : ∀ i, (o.testBit i && (a.testBit i || decide (k = i))) = (a.testBit i || decide (k = i)) := fun i => by rw [← e, h, e2]
    refine ⟨Nat.eq_of_testBit_eq (fun i => ?_), ?_⟩
    · have := h2 i
      rw [Nat.testBit_and]
      revert this
      cases o.testBit i <;> cases a.testBit i <;> cases decide (k = i) <;> decide
    · have := h2 k
      rw [decide_eq_true (rfl : k = k)] at this
      revert this
      cases o.testBit k <;> cases a.testBit k <;> decide
  · intro ⟨h1, h2⟩
    refine Nat.eq_of_testBit_eq (fun i => ?_)
    have h3 : (o &&& a).testBit i = a.testBit i := by rw [h1]
    rw [Nat.testBit_and] at h3
    rw [e, e2]
    by_cases c : k = i
    · rw [← c, h2]; exact Bool.true_and _
    · rw [decide_eq_false c]
      revert h3
      cases o.testBit i <;> cases a.testBit i <;> decide
theorem and_o0 {o a k : Nat} : o &&& (a ||| 2 ^ k) = 0 ↔ o &&& a = 0 ∧ o.testBit k = false := by
  have e : ∀ i, (o &&& (a ||| 2 ^ k)).testBit i = (o.testBit i && (a.testBit i || decide (k = i))) := fun i => by rw [Nat.testBit_and, Nat.testBit_or, Nat.testBit_two_pow]
  constructor
  · intro h
    have h2 : ∀ i, (o.testBit i && (a.testBit i || decide (k = i))) = false := fun i => by rw [← e, h, Nat.zero_testBit]
    refine ⟨Nat.eq_of_testBit_eq (fun i => ?_), ?_⟩
    · have := h2 i
      rw [Nat.testBit_and, Nat.zero_testBit]
      revert this
      cases o.testBit i <;> cases a.testBit i <;> cases decide (k = i) <;> decide
    · have := h2 k
      rw [decide_eq_true (rfl : k = k)] at this
      revert this
      cases o.testBit k <;> cases a.testBit k <;> decide
  · intro ⟨h1, h2⟩
    refine Nat.eq_of_testBit_eq (fun i => ?_)
    have h3 : (o &&& a).testBit i = false := by rw [h1, Nat.zero_testBit]
    rw [Nat.testBit_and] at h3
    rw [e, Nat.zero_testBit]
    by_cases c : k = i
    · rw [← c, h2]; exact Bool.false_and _
    · rw [decide_eq_false c]
      revert h3
      cases o.testBit i <;> cases a.testBit i <;> decide
/-- one note says so of a set s and its evening o -/
def fq (W T : Nat → Nat) (S : Nat → Bool) (o s i : Nat) : Prop := (if W i = 0 then o else s).testBit (T i) = S i
/-- every unstruck note from lo on says so -/
def Ft (W T : Nat → Nat) (S : Nat → Bool) (m K lo o s : Nat) : Prop := ∀ i, lo ≤ i → i < K → m.testBit i = false → W i ≠ 2 → fq W T S o s i
theorem Ft_step {W T : Nat → Nat} {S : Nat → Bool} {m K lo o s : Nat} (h : lo < K) : Ft W T S m K lo o s ↔ (m.testBit lo = false → W lo ≠ 2 → fq W T S o s lo) ∧ Ft W T S m K (lo + 1) o s := by
  constructor
  · intro f
    exact ⟨fun a b => f lo (Nat.le_refl _) h a b, fun i h1 h2 => f i (by omega) h2⟩
  · intro ⟨f, g⟩ i h1 h2 a b
    by_cases c : i = lo
    · rw [c] at a b ⊢; exact f a b
    · exact g i (by omega) h2 a b
/-- the same as a yes or no -/
def fb (W T : Nat → Nat) (S : Nat → Bool) (m o s : Nat) : Nat → Bool
  | 0 => true
  | k + 1 => fb W T S m o s k && (m.testBit k || (decide (W k = 2) || ((if W k = 0 then o else s).testBit (T k) == S k)))
theorem fb_iff {W T : Nat → Nat} {S : Nat → Bool} {m o s : Nat} : ∀ K, fb W T S m o s K = true ↔ Ft W T S m K 0 o s := by
  intro K
  induction K with
  | zero => exact ⟨fun _ i _ h => absurd h (Nat.not_lt_zero _), fun _ => rfl⟩
  | succ K ih =>
    show (fb W T S m o s K && (m.testBit K || (decide (W K = 2) || ((if W K = 0 then o else s).testBit (T K) == S K)))) = true ↔ _
    rw [Bool.and_eq_true, ih, Bool.or_eq_true, Bool.or_eq_true, decide_eq_true_iff, beq_iff_eq]
    constructor
    · intro ⟨h1, h2⟩ i h3 h4 h5 h6
      by_cases c : i = K
      · rw [c] at h5 h6 ⊢
        rcases h2 with h2 | h2 | h2
        · rw [h5] at h2; exact absurd h2 (by decide)
        · exact absurd h2 h6
        · exact h2
      · exact h1 i h3 (by omega) h5 h6
    · intro h
      refine ⟨fun i h3 h4 => h i h3 (by omega), ?_⟩
      cases hm : m.testBit K with
      | true => exact Or.inl rfl
      | false =>
        by_cases c : W K = 2
        · exact Or.inr (Or.inl c)
        · exact Or.inr (Or.inr (h K (Nat.zero_le _) (Nat.lt_succ_self _) hm c))
/-- what all, what some of the fitting ones hold -/
def aA (f : Nat → Bool) (g : Nat → Nat) : Nat → Nat
  | 0 => 4294967295
  | k + 1 => if f k = true then aA f g k &&& g k else aA f g k
def oO (f : Nat → Bool) (g : Nat → Nat) : Nat → Nat
  | 0 => 0
  | k + 1 => if f k = true then oO f g k ||| g k else oO f g k
theorem aA_b {f : Nat → Bool} {g : Nat → Nat} {p : Nat} (hp : p < 32) : ∀ k, (aA f g k).testBit p = true ↔ ∀ s, s < k → f s = true → (g s).testBit p = true := by
  intro k
  induction k with
  | zero =>
    refine ⟨fun _ s hs => absurd hs (Nat.not_lt_zero _), fun _ => ?_⟩
    have : ∀ p, p < 32 → (4294967295 : Nat).testBit p = true := by decide
    exact this p hp
  | succ k ih =>
    show (if f k = true then aA f g k &&& g k else aA f g k).testBit p = true ↔ _
    by_cases c : f k = true
    · rw [if_pos c, Nat.testBit_and, Bool.and_eq_true, ih]
      constructor
      · intro ⟨h1, h2⟩ s hs hf
        by_cases e : s = k
        · rw [e]; exact h2
        · exact h1 s (by omega) hf
      · intro h
        exact ⟨fun s hs => h s (by omega), h k (Nat.lt_succ_self _) c⟩
    · rw [if_neg c, ih]
      constructor
      · intro h1 s hs hf
        by_cases e : s = k
        · rw [e] at hf; exact absurd hf c
        · exact h1 s (by omega) hf
      · intro h s hs
        exact h s (by omega)
theorem oO_b {f : Nat → Bool} {g : Nat → Nat} {p : Nat} : ∀ k, (oO f g k).testBit p = true ↔ ∃ s, s < k ∧ f s = true ∧ (g s).testBit p = true := by
  intro k
  induction k with
  | zero =>
    refine ⟨fun h => ?_, fun ⟨s, hs, _⟩ => absurd hs (Nat.not_lt_zero _)⟩
    have h : (0 : Nat).testBit p = true := h
    rw [Nat.zero_testBit] at h
    exact absurd h (by decide)
  | succ k ih =>
    show (if f k = true then oO f g k ||| g k else oO f g k).testBit p = true ↔ _
    by_cases c : f k = true
    · rw [if_pos c, Nat.testBit_or, Bool.or_eq_true, ih]
      constructor
      · intro h
        rcases h with ⟨s, h1, h2⟩ | h
        · exact ⟨s, by omega, h2⟩
        · exact ⟨k, Nat.lt_succ_self _, c, h⟩
      · intro ⟨s, h1, h2, h3⟩
        by_cases e : s = k
        · rw [e] at h3; exact Or.inr h3
        · exact Or.inl ⟨s, by omega, h2, h3⟩
    · rw [if_neg c, ih]
      constructor
      · intro ⟨s, h1, h2⟩; exact ⟨s, by omega, h2⟩
      · intro ⟨s, h1, h2, h3⟩
        by_cases e : s = k
        · rw [e] at h2; exact absurd h2 c
        · exact ⟨s, by omega, h2, h3⟩
theorem oO_lt {f : Nat → Bool} {g : Nat → Nat} {L : Nat} (hg : ∀ s, g s < 2 ^ L) : ∀ k, oO f g k < 2 ^ L := by
  intro k
  induction k with
  | zero => exact Nat.two_pow_pos _
  | succ k ih =>
    show (if f k = true then oO f g k ||| g k else oO f g k) < _
    by_cases c : f k = true
    · rw [if_pos c]; exact Nat.or_lt_two_pow ih (hg k)
    · rw [if_neg c]; exact ih
theorem aA_le {f : Nat → Bool} {g : Nat → Nat} {L : Nat} : ∀ k s, s < k → f s = true → g s < 2 ^ L → aA f g k < 2 ^ L := by
  intro k
  induction k with
  | zero => intro s hs; exact absurd hs (Nat.not_lt_zero _)
  | succ k ih =>
    intro s hs hf hg
    show (if f k = true then aA f g k &&& g k else aA f g k) < _
    by_cases e : s = k
    · subst e
      rw [if_pos hf]
      exact Nat.and_lt_two_pow _ hg
    · have := ih s (by omega) hf hg
      by_cases c : f k = true
      · rw [if_pos c]; exact Nat.lt_of_le_of_lt Nat.and_le_left this
      · rw [if_neg c]; exact this
theorem cnt_0 {f : Nat → Bool} : ∀ n, fa_cnt f n = 0 ↔ ∀ s, s < n → f s = false := by
  intro n
  induction n with
  | zero => exact ⟨fun _ s h => absurd h (Nat.not_lt_zero _), fun _ => rfl⟩
  | succ n ih =>
    cases c : f n with
    | true =>
      rw [fa_cnt_yes c]
      exact ⟨fun h => absurd h (Nat.succ_ne_zero _), fun h => absurd (h n (Nat.lt_succ_self _)) (by rw [c]; decide)⟩
    | false =>
      rw [fa_cnt_no c, ih]
      constructor
      · intro h s hs
        by_cases e : s = n
        · rw [e]; exact c
        · exact h s (by omega)
      · intro h s hs; exact h s (by omega)
theorem cnt_e {f b : Nat → Bool} : ∀ n, fa_cnt (fun s => f s && b s) n ≤ fa_cnt f n ∧ (fa_cnt (fun s => f s && b s) n = fa_cnt f n ↔ ∀ s, s < n → f s = true → b s = true) := by
  intro n
  induction n with
  | zero => exact ⟨Nat.le_refl _, fun _ s h => absurd h (Nat.not_lt_zero _), fun _ => rfl⟩
  | succ n ih =>
    obtain ⟨i1, i2⟩ := ih
    cases c : f n with
    | false =>
      have c2 : (fun s => f s && b s) n = false := by show (f n && b n) = false; rw [c]; rfl
      rw [fa_cnt_no c, fa_cnt_no c2]
      refine ⟨i1, i2.trans ⟨fun h s hs hf => ?_, fun h s hs => h s (by omega)⟩⟩
      by_cases e : s = n
      · rw [e, c] at hf; exact absurd hf (by decide)
      · exact h s (by omega) hf
    | true =>
      rw [fa_cnt_yes c]
      cases d : b n with
      | true =>
        have c2 : (fun s => f s && b s) n = true := by show (f n && b n) = true; rw [c, d]; rfl
        rw [fa_cnt_yes c2]
        refine ⟨by omega, (show _ ↔ fa_cnt (fun s => f s && b s) n = fa_cnt f n by omega).trans (i2.trans ⟨fun h s hs hf => ?_, fun h s hs => h s (by omega)⟩)⟩
        by_cases e : s = n
        · rw [e]; exact d
        · exact h s (by omega) hf
      | false =>
        have c2 : (fun s => f s && b s) n = false := by show (f n && b n) = false; rw [c, d]; rfl
        rw [fa_cnt_no c2]
        refine ⟨by omega, fun h => by omega, fun h => ?_⟩
        have := h n (Nat.lt_succ_self _) c
        rw [d] at this
        exact absurd this (by decide)
/-- the lowest bit -/
def tz (n : Nat) : Nat :=
  let q := (n - 1) ^^^ ((n - 1) &&& n)
  let r := if 256 < q then (if 16 < q / 256 then (q / 256 / 16, 13) else (q / 256, 9)) else (if 16 < q then (q / 16, 5) else (q, 1))
  if q = 0 then 0 else if 4 < r.1 then r.2 + 2 + r.1 / 4 / 2 else r.2 + r.1 / 2
theorem tz_all : ∀ a, a < 128 → ∀ b, b < 128 → 0 < 128 * a + b → (128 * a + b) % 2 ^ tz (128 * a + b) = 0 ∧ (128 * a + b) / 2 ^ tz (128 * a + b) % 2 = 1 ∧ tz (128 * a + b) ≤ 13 := by decide +kernel
theorem tz_n {n : Nat} (h : n < 2 ^ 14) (h0 : 0 < n) : n.testBit (tz n) = true ∧ (∀ l, l < tz n → n.testBit l = false) ∧ tz n ≤ 13 := by
  have e : 128 * (n / 128) + n % 128 = n := Nat.div_add_mod n 128
  have h1 := tz_all (n / 128) (by omega) (n % 128) (by omega) (by omega)
  rw [e] at h1
  obtain ⟨a, b, c⟩ := h1
  refine ⟨?_, fun l hl => ?_, c⟩
  · rw [Nat.testBit_eq_decide_div_mod_eq, b]; rfl
  · have h2 : (n % 2 ^ tz n).testBit l = (decide (l < tz n) && n.testBit l) := Nat.testBit_mod_two_pow ..
    rw [a, Nat.zero_testBit, decide_eq_true hl, Bool.true_and] at h2
    exact h2.symm
