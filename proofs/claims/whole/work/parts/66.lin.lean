/-! ===== sums of pulls ===== -/
theorem cnt_add (p : Nat → Bool) (a : Nat) : ∀ b, fa_cnt p (a + b) = fa_cnt p a + fa_cnt (fun i => p (a + i)) b := by
  intro b
  induction b with
  | zero => rfl
  | succ b ih =>
    cases h : p (a + b) with
    | true =>
      rw [show a + (b + 1) = (a + b) + 1 from rfl, fa_cnt_yes h, ih, fa_cnt_yes (p := fun i => p (a + i)) h, Nat.add_assoc]
    | false =>
      rw [show a + (b + 1) = (a + b) + 1 from rfl, fa_cnt_no h, ih, fa_cnt_no (p := fun i => p (a + i)) h]
theorem bit_hi {c k : Nat} (h : c < 2 ^ k) : c.testBit k = false := Nat.testBit_lt_two_pow h
theorem x_or1 {i c k : Nat} (hi : i < 2 ^ k) (hc : c < 2 ^ k) : (i ||| 2 ^ k) ^^^ c = (i ^^^ c) ||| 2 ^ k := by
  refine Nat.eq_of_testBit_eq (fun j => ?_)
  simp only [Nat.testBit_xor, Nat.testBit_or, Nat.testBit_two_pow]
  by_cases e : k = j
  · subst e
    rw [bit_hi hi, bit_hi hc, decide_eq_true rfl]; rfl
  · rw [decide_eq_false e, Bool.or_false, Bool.or_false]
theorem x_or2 {i c k : Nat} (hi : i < 2 ^ k) (hc : c < 2 ^ k) : (i ||| 2 ^ k) ^^^ (c ||| 2 ^ k) = i ^^^ c := by
  refine Nat.eq_of_testBit_eq (fun j => ?_)
  simp only [Nat.testBit_xor, Nat.testBit_or, Nat.testBit_two_pow]
  by_cases e : k = j
  · subst e
    rw [bit_hi hi, bit_hi hc, decide_eq_true rfl]; rfl
  · rw [decide_eq_false e, Bool.or_false, Bool.or_false]
theorem x_or3 {i c k : Nat} (hi : i < 2 ^ k) (hc : c < 2 ^ k) : i ^^^ (c ||| 2 ^ k) = (i ^^^ c) ||| 2 ^ k := by
  rw [Nat.xor_comm i, x_or1 hc hi, Nat.xor_comm c]
theorem half {c k : Nat} (h : c < 2 ^ (k + 1)) : c < 2 ^ k ∨ ∃ d, d < 2 ^ k ∧ c = d ||| 2 ^ k := by
  rcases Nat.lt_or_ge c (2 ^ k) with g | g
  · exact Or.inl g
  · rw [Nat.pow_succ] at h
    have hd : c - 2 ^ k < 2 ^ k := by omega
    exact Or.inr ⟨c - 2 ^ k, hd, by rw [or_lt hd]; omega⟩
theorem cnt_half (p : Nat → Bool) (k : Nat) : fa_cnt p (2 ^ (k + 1)) = fa_cnt p (2 ^ k) + fa_cnt (fun i => p (i ||| 2 ^ k)) (2 ^ k) := by
  rw [show 2 ^ (k + 1) = 2 ^ k + 2 ^ k by rw [Nat.pow_succ]; omega, cnt_add]
  refine congrArg _ (fa_cnt_cong (fun i hi => ?_))
  show p (2 ^ k + i) = p (i ||| 2 ^ k)
  rw [or_lt hi, Nat.add_comm]
theorem cnt_swap : ∀ (k c : Nat) (p : Nat → Bool), c < 2 ^ k → fa_cnt (fun s => p (s ^^^ c)) (2 ^ k) = fa_cnt p (2 ^ k) := by
  intro k
  induction k with
  | zero =>
    intro c p hc
    have : c = 0 := by omega
    subst this
    exact fa_cnt_cong (fun i _ => by show p (i ^^^ 0) = p i; rw [Nat.xor_zero])
  | succ k ih =>
    intro c p hc
    rw [cnt_half, cnt_half p]
    rcases half hc with g | ⟨d, hd, rfl⟩
    · rw [ih c p g]
      refine congrArg _ ?_
      rw [← ih c (fun i => p (i ||| 2 ^ k)) g]
      refine fa_cnt_cong (fun i hi => ?_)
      show p ((i ||| 2 ^ k) ^^^ c) = p ((i ^^^ c) ||| 2 ^ k)
      rw [x_or1 hi g]
    · have e1 : fa_cnt (fun s => p (s ^^^ (d ||| 2 ^ k))) (2 ^ k) = fa_cnt (fun i => p (i ||| 2 ^ k)) (2 ^ k) := by
        rw [← ih d (fun i => p (i ||| 2 ^ k)) hd]
        refine fa_cnt_cong (fun i hi => ?_)
        show p (i ^^^ (d ||| 2 ^ k)) = p ((i ^^^ d) ||| 2 ^ k)
        rw [x_or3 hi hd]
      have e2 : fa_cnt (fun i => p ((i ||| 2 ^ k) ^^^ (d ||| 2 ^ k))) (2 ^ k) = fa_cnt p (2 ^ k) := by
        rw [← ih d p hd]
        refine fa_cnt_cong (fun i hi => ?_)
        show p ((i ||| 2 ^ k) ^^^ (d ||| 2 ^ k)) = p (i ^^^ d)
        rw [x_or2 hi hd]
      rw [e1, e2, Nat.add_comm]
theorem xor4 (a b c d : Nat) : (a ^^^ b) ^^^ (c ^^^ d) = (a ^^^ c) ^^^ (b ^^^ d) := by
  rw [Nat.xor_assoc, Nat.xor_assoc, ← Nat.xor_assoc b c d, Nat.xor_comm b c, Nat.xor_assoc c b d]
theorem xor_cancel (a b : Nat) : (a ^^^ b) ^^^ b = a := by rw [Nat.xor_assoc, Nat.xor_self, Nat.xor_zero]
theorem tn_xor {ties : Nat → Nat} (a b : Nat) : ∀ p, tn ties p (a ^^^ b) = tn ties p a ^^^ tn ties p b := by
  intro p
  induction p with
  | zero => show (0 : Nat) = 0 ^^^ 0; decide
  | succ p ih =>
    show tn ties p (a ^^^ b) ^^^ (if (a ^^^ b).testBit p = true then ties p else 0) = (tn ties p a ^^^ (if a.testBit p = true then ties p else 0)) ^^^ (tn ties p b ^^^ (if b.testBit p = true then ties p else 0))
    rw [ih, xor4]
    refine congrArg _ ?_
    rw [Nat.testBit_xor]
    cases a.testBit p <;> cases b.testBit p <;> simp
section Lin
variable {P F : Nat} {ties : Nat → Nat}
theorem tn_or {k s : Nat} (hk : k < P) (hs : s < 2 ^ k) : tn ties P (s ||| 2 ^ k) = tn ties P s ^^^ ties k := by
  have h1 : s ||| 2 ^ k < 2 ^ (k + 1) := by rw [or_lt hs, Nat.pow_succ]; omega
  rw [tn_hi h1 P hk, tn_new hs, tn_hi hs P (by omega)]
/-- some free ones of the first k turn over v -/
def Spn (F : Nat) (tz : Nat → Nat) (k v : Nat) : Prop := ∃ s, s < 2 ^ k ∧ s &&& F = s ∧ tz s = v
def spb (F : Nat) (tz : Nat → Nat) (k v : Nat) : Bool := decide (fa_first (isW F tz v) (2 ^ k) < 2 ^ k)
theorem spb_iff {tz : Nat → Nat} {k v : Nat} : spb F tz k v = true ↔ Spn F tz k v := by
  constructor
  · intro h
    have h := of_decide_eq_true h
    have h2 := fa_first_yes _ _ h
    unfold isW at h2
    rw [Bool.and_eq_true] at h2
    exact ⟨_, h, of_decide_eq_true h2.1, of_decide_eq_true h2.2⟩
  · intro ⟨s, hs, h1, h2⟩
    refine decide_eq_true ?_
    rcases Nat.lt_or_ge (fa_first (isW F tz v) (2 ^ k)) (2 ^ k) with g | g
    · exact g
    · have h3 := fa_first_no (isW F tz v) (2 ^ k) s (by omega)
      unfold isW at h3
      rw [decide_eq_true h1, decide_eq_true h2] at h3
      cases h3
theorem sub_xor {a b F : Nat} (ha : a &&& F = a) (hb : b &&& F = b) : (a ^^^ b) &&& F = a ^^^ b := by
  rw [Nat.and_xor_distrib_right, ha, hb]
theorem sub_or {a k F : Nat} (hk : a < 2 ^ k) : (a ||| 2 ^ k) &&& F = a ||| 2 ^ k ↔ a &&& F = a ∧ F.testBit k = true := by
  constructor
  · intro h
    have hb : ∀ j, ((a ||| 2 ^ k) &&& F).testBit j = (a ||| 2 ^ k).testBit j := fun j => by rw [h]
    simp only [Nat.testBit_and, Nat.testBit_or, Nat.testBit_two_pow] at hb
    refine ⟨Nat.eq_of_testBit_eq (fun j => ?_), ?_⟩
    · have := hb j
      rw [Nat.testBit_and]
      by_cases e : k = j
      · subst e; rw [bit_hi hk]; rfl
      · rw [decide_eq_false e, Bool.or_false] at this; exact this
    · have := hb k
      rw [decide_eq_true rfl, Bool.or_true, Bool.true_and] at this
      exact this
  · intro ⟨h, g⟩
    refine Nat.eq_of_testBit_eq (fun j => ?_)
    simp only [Nat.testBit_and, Nat.testBit_or, Nat.testBit_two_pow]
    have h1 : (a &&& F).testBit j = a.testBit j := by rw [h]
    rw [Nat.testBit_and] at h1
    by_cases e : k = j
    · subst e; rw [g, decide_eq_true rfl]; cases a.testBit k <;> rfl
    · rw [decide_eq_false e, Bool.or_false]; exact h1
/-- the basis of the first k -/
def bas (F : Nat) (ties tz : Nat → Nat) (k : Nat) : Nat := bitsOf (fun p => F.testBit p && !(spb F tz p (ties p))) k
/-- how many sets of B's ones among the first k lead where q is so -/
def nQ (B : Nat) (tz : Nat → Nat) (q : Nat → Bool) (k : Nat) : Nat := fa_cnt (fun s => decide (s &&& B = s) && q (tz s)) (2 ^ k)
theorem nQ_0 {B : Nat} {q : Nat → Bool} : nQ B (tn ties P) q 0 = if q 0 = true then 1 else 0 := by
  have e : tn ties P 0 = 0 := tn_hi (p := 0) Nat.one_pos P (Nat.zero_le P)
  show fa_cnt _ 1 = _
  have e2 : (decide (0 &&& B = 0) && q (tn ties P 0)) = q 0 := by
    rw [e, Nat.zero_and, decide_eq_true rfl, Bool.true_and]
  cases h : q 0 with
  | true => exact (fa_cnt_yes (p := fun s => decide (s &&& B = s) && q (tn ties P s)) (n := 0) (e2.trans h)).trans rfl
  | false => exact (fa_cnt_no (p := fun s => decide (s &&& B = s) && q (tn ties P s)) (n := 0) (e2.trans h)).trans rfl
theorem nQ_no {B k : Nat} {q : Nat → Bool} (h : B.testBit k = false) (hk : k < P) : nQ B (tn ties P) q (k + 1) = nQ B (tn ties P) q k := by
  unfold nQ
  rw [cnt_half]
  have e : fa_cnt (fun i => decide ((i ||| 2 ^ k) &&& B = i ||| 2 ^ k) && q (tn ties P (i ||| 2 ^ k))) (2 ^ k) = fa_cnt (fun _ => false) (2 ^ k) := by
    refine fa_cnt_cong (fun i hi => ?_)
    rw [decide_eq_false (fun z => by have := ((sub_or hi).mp z).2; rw [h] at this; cases this), Bool.false_and]
  have e0 : ∀ n, fa_cnt (fun _ => false) n = 0 := by
    intro n
    induction n with
    | zero => rfl
    | succ n ih => rw [fa_cnt_no rfl, ih]
  rw [e, e0, Nat.add_zero]
theorem nQ_yes {B k : Nat} {q : Nat → Bool} (h : B.testBit k = true) (hk : k < P) : nQ B (tn ties P) q (k + 1) = nQ B (tn ties P) q k + nQ B (tn ties P) (fun v => q (v ^^^ ties k)) k := by
  unfold nQ
  rw [cnt_half]
  refine congrArg _ (fa_cnt_cong (fun i hi => ?_))
  show (decide ((i ||| 2 ^ k) &&& B = i ||| 2 ^ k) && q (tn ties P (i ||| 2 ^ k))) = (decide (i &&& B = i) && q (tn ties P i ^^^ ties k))
  rw [tn_or hk hi]
  refine congrArg (· && _) (decide_eq_decide.mpr ?_)
  rw [sub_or hi]
  exact ⟨fun z => z.1, fun z => ⟨z, h⟩⟩
/-- what is turned over already changes nothing -/
theorem nQ_sh {k v : Nat} {q : Nat → Bool} (hk : k ≤ P) (h : Spn F (tn ties P) k v) : nQ F (tn ties P) (fun u => q (u ^^^ v)) k = nQ F (tn ties P) q k := by
  obtain ⟨c, hc, hF, rfl⟩ := h
  unfold nQ
  rw [← cnt_swap k c (fun s => decide (s &&& F = s) && q (tn ties P s)) hc]
  refine fa_cnt_cong (fun i hi => ?_)
  show (decide (i &&& F = i) && q (tn ties P i ^^^ tn ties P c)) = (decide ((i ^^^ c) &&& F = i ^^^ c) && q (tn ties P (i ^^^ c)))
  rw [tn_xor]
  refine congrArg (· && _) (decide_eq_decide.mpr ⟨fun z => sub_xor z hF, fun z => ?_⟩)
  have := sub_xor z hF
  rw [xor_cancel] at this
  exact this
theorem nQ_zero {k v : Nat} (h : ¬ Spn F (tn ties P) k v) : nQ F (tn ties P) (fun u => decide (u ^^^ v = 0)) k = 0 := by
  unfold nQ
  have e0 : ∀ n, fa_cnt (fun _ => false) n = 0 := by
    intro n
    induction n with
    | zero => rfl
    | succ n ih => rw [fa_cnt_no rfl, ih]
  refine (fa_cnt_cong (q := fun _ => false) (fun i hi => ?_)).trans (e0 _)
  show (decide (i &&& F = i) && decide (tn ties P i ^^^ v = 0)) = false
  rw [← Bool.decide_and]
  exact decide_eq_false (fun z => h ⟨i, hi, z.1, xor0.mp z.2⟩)
theorem bas_bit {tz : Nat → Nat} {k n : Nat} : (bas F ties tz n).testBit k = (decide (k < n) && (F.testBit k && !(spb F tz k (ties k)))) := bitsOf_test _ n k
/-- how many sets turn over nothing -/
def nK (F : Nat) (tz : Nat → Nat) (k : Nat) : Nat := nQ F tz (fun v => decide (v = 0)) k
theorem nK_step {k : Nat} (hk : k < P) : (F.testBit k = false ∧ (bas F ties (tn ties P) P).testBit k = false ∧ nK F (tn ties P) (k + 1) = nK F (tn ties P) k) ∨ (F.testBit k = true ∧ (bas F ties (tn ties P) P).testBit k = false ∧ Spn F (tn ties P) k (ties k) ∧ nK F (tn ties P) (k + 1) = 2 * nK F (tn ties P) k) ∨ (F.testBit k = true ∧ (bas F ties (tn ties P) P).testBit k = true ∧ ¬ Spn F (tn ties P) k (ties k) ∧ nK F (tn ties P) (k + 1) = nK F (tn ties P) k) := by
  have hb := bas_bit (F := F) (ties := ties) (tz := tn ties P) (k := k) (n := P)
  rw [decide_eq_true hk, Bool.true_and] at hb
  cases hF : F.testBit k with
  | false =>
    rw [hF] at hb
    exact Or.inl ⟨rfl, hb, nQ_no hF hk⟩
  | true =>
    rw [hF, Bool.true_and] at hb
    cases hs : spb F (tn ties P) k (ties k) with
    | true =>
      rw [hs] at hb
      have h1 := spb_iff.mp hs
      refine Or.inr (Or.inl ⟨rfl, hb, h1, ?_⟩)
      show nQ _ _ _ _ = _
      rw [nQ_yes hF hk]
      have h2 := nQ_sh (q := fun v => decide (v = 0)) (Nat.le_of_lt hk) h1
      rw [h2, Nat.two_mul]
      rfl
    | false =>
      rw [hs] at hb
      have h1 : ¬ Spn F (tn ties P) k (ties k) := fun z => by rw [spb_iff.mpr z] at hs; cases hs
      refine Or.inr (Or.inr ⟨rfl, hb, h1, ?_⟩)
      show nQ _ _ _ _ = _
      rw [nQ_yes hF hk]
      have h2 := nQ_zero h1
      rw [h2]
      rfl
theorem nQ_mul : ∀ k, k ≤ P → ∀ q, nQ F (tn ties P) q k = nK F (tn ties P) k * nQ (bas F ties (tn ties P) P) (tn ties P) q k := by
  intro k
  induction k with
  | zero =>
    intro _ q
    unfold nK
    rw [nQ_0, nQ_0, nQ_0]
    exact (Nat.one_mul _).symm
  | succ k ih =>
    intro hk q
    rcases nK_step (F := F) (ties := ties) hk with ⟨h1, h2, h3⟩ | ⟨h1, h2, h4, h3⟩ | ⟨h1, h2, h4, h3⟩
    · rw [nQ_no h1 hk, nQ_no h2 hk, h3, ih (by omega)]
    · rw [nQ_yes h1 hk, nQ_no h2 hk, h3, nQ_sh (by omega) h4, ih (by omega) q, Nat.mul_assoc, Nat.two_mul]
    · rw [nQ_yes h1 hk, nQ_yes h2 hk, h3, ih (by omega) q, ih (by omega) (fun v => q (v ^^^ ties k)), Nat.mul_add]
theorem nK_pow : ∀ k, k ≤ P → nK F (tn ties P) k * 2 ^ fa_cnt (fun i => (bas F ties (tn ties P) P).testBit i) k = 2 ^ fa_cnt (fun i => F.testBit i) k := by
  intro k
  induction k with
  | zero =>
    intro _
    unfold nK
    rw [nQ_0]
    rfl
  | succ k ih =>
    intro hk
    have ih := ih (by omega)
    rcases nK_step (F := F) (ties := ties) hk with ⟨h1, h2, h3⟩ | ⟨h1, h2, h4, h3⟩ | ⟨h1, h2, h4, h3⟩
    · rw [h3, fa_cnt_no (p := fun i => F.testBit i) h1, fa_cnt_no (p := fun i => (bas F ties (tn ties P) P).testBit i) h2, ih]
    · rw [h3, fa_cnt_yes (p := fun i => F.testBit i) h1, fa_cnt_no (p := fun i => (bas F ties (tn ties P) P).testBit i) h2, Nat.pow_succ, ← ih, Nat.mul_assoc, Nat.mul_comm]
    · rw [h3, fa_cnt_yes (p := fun i => F.testBit i) h1, fa_cnt_yes (p := fun i => (bas F ties (tn ties P) P).testBit i) h2, Nat.pow_succ, Nat.pow_succ, ← ih, Nat.mul_assoc]
theorem cnt_mono {p q : Nat → Bool} (h : ∀ i, p i = true → q i = true) : ∀ n, fa_cnt p n ≤ fa_cnt q n := by
  intro n
  induction n with
  | zero => exact Nat.le_refl 0
  | succ n ih =>
    cases hp : p n with
    | true => rw [fa_cnt_yes hp, fa_cnt_yes (h n hp)]; omega
    | false =>
      rw [fa_cnt_no hp]
      cases hq : q n with
      | true => rw [fa_cnt_yes hq]; omega
      | false => rw [fa_cnt_no hq]; exact ih
theorem nK_eq {k : Nat} (hk : k ≤ P) : fa_cnt (fun i => (bas F ties (tn ties P) P).testBit i) k ≤ fa_cnt (fun i => F.testBit i) k ∧ nK F (tn ties P) k = 2 ^ (fa_cnt (fun i => F.testBit i) k - fa_cnt (fun i => (bas F ties (tn ties P) P).testBit i) k) := by
  have h1 := cnt_mono (p := fun i => (bas F ties (tn ties P) P).testBit i) (q := fun i => F.testBit i) (fun i hi => by
    have hi : (bas F ties (tn ties P) P).testBit i = true := hi
    rw [bas_bit, Bool.and_eq_true, Bool.and_eq_true] at hi
    exact hi.2.1) k
  refine ⟨h1, ?_⟩
  have h := nK_pow (F := F) (ties := ties) k hk
  have h2 : 2 ^ fa_cnt (fun i => F.testBit i) k = 2 ^ (fa_cnt (fun i => F.testBit i) k - fa_cnt (fun i => (bas F ties (tn ties P) P).testBit i) k) * 2 ^ fa_cnt (fun i => (bas F ties (tn ties P) P).testBit i) k := by
    rw [← Nat.pow_add, Nat.sub_add_cancel h1]
  rw [h2] at h
  exact Nat.eq_of_mul_eq_mul_right (Nat.two_pow_pos _) h
/-- sets of the basis lead each to a place of its own -/
theorem bas_one {s : Nat} : ∀ k, k ≤ P → s < 2 ^ k → s &&& bas F ties (tn ties P) P = s → tn ties P s = 0 → s = 0 := by
  intro k
  induction k with
  | zero => intro _ h _ _; omega
  | succ k ih =>
    intro hk hs hB h0
    rcases half hs with g | ⟨d, hd, rfl⟩
    · exact ih (by omega) g hB h0
    · exfalso
      obtain ⟨h1, h2⟩ := (sub_or hd).mp hB
      rw [tn_or (by omega) hd, xor0] at h0
      rw [bas_bit, Bool.and_eq_true, Bool.and_eq_true] at h2
      have h3 : Spn F (tn ties P) k (ties k) := by
        refine ⟨d, hd, ?_, h0⟩
        refine Nat.eq_of_testBit_eq (fun j => ?_)
        have h4 : (d &&& bas F ties (tn ties P) P).testBit j = d.testBit j := by rw [h1]
        rw [Nat.testBit_and, bas_bit] at h4
        rw [Nat.testBit_and]
        revert h4
        cases d.testBit j <;> cases F.testBit j <;> simp
      rw [spb_iff.mpr h3] at h2
      exact absurd h2.2.2 (by decide)
theorem bas_uni {a b : Nat} (ha : a < 2 ^ P) (hb : b < 2 ^ P) (hA : a &&& bas F ties (tn ties P) P = a) (hB : b &&& bas F ties (tn ties P) P = b) (h : tn ties P a = tn ties P b) : a = b := by
  refine xor0.mp (bas_one P (Nat.le_refl P) (Nat.xor_lt_two_pow ha hb) (sub_xor hA hB) ?_)
  rw [tn_xor, h, Nat.xor_self]
end Lin
