/-! ===== rows by their highest lamp ===== -/
/-- sums of the first n rows -/
def RS (r : Nat → Nat) : Nat → Nat → Prop
  | 0, v => v = 0
  | n + 1, v => RS r n v ∨ RS r n (v ^^^ r n)
/-- what is left of v by the first n rows -/
def red (r : Nat → Nat) : Nat → Nat → Nat
  | 0, v => v
  | n + 1, v => red r n (if v.testBit n = true then v ^^^ r n else v)
def Rw (r : Nat → Nat) : Prop := ∀ l, r l < 2 ^ (l + 1) ∧ (r l = 0 ∨ (r l).testBit l = true)
section Row
variable {r : Nat → Nat}
theorem RS_lt (h : Rw r) : ∀ n v, RS r n v → v < 2 ^ n := by
  intro n
  induction n with
  | zero => intro v h; have h : v = 0 := h; subst h; exact Nat.one_pos
  | succ n ih =>
    intro v hv
    have hp : 2 ^ n < 2 ^ (n + 1) := by rw [Nat.pow_succ]; have := Nat.two_pow_pos n; omega
    rcases hv with hv | hv
    · exact Nat.lt_trans (ih v hv) hp
    · have h1 := Nat.xor_lt_two_pow (Nat.lt_trans (ih _ hv) hp) (h n).1
      rw [xor_cancel] at h1
      exact h1
theorem RS_z : ∀ n, RS r n 0 := by
  intro n
  induction n with
  | zero => rfl
  | succ n ih => exact Or.inl ih
theorem RS_x (n : Nat) : ∀ a b, RS r n a → RS r n b → RS r n (a ^^^ b) := by
  induction n with
  | zero => intro a b ha hb; have ha : a = 0 := ha; have hb : b = 0 := hb; subst ha; subst hb; show (0 : Nat) ^^^ 0 = 0; decide
  | succ n ih =>
    intro a b ha hb
    rcases ha with ha | ha <;> rcases hb with hb | hb
    · exact Or.inl (ih _ _ ha hb)
    · refine Or.inr ?_
      have := ih _ _ ha hb
      rw [← Nat.xor_assoc] at this
      exact this
    · refine Or.inr ?_
      have := ih _ _ ha hb
      rw [Nat.xor_assoc, Nat.xor_comm (r n), ← Nat.xor_assoc] at this
      exact this
    · refine Or.inl ?_
      have := ih _ _ ha hb
      rw [xor4, Nat.xor_self, Nat.xor_zero] at this
      exact this
theorem RS_row {n l : Nat} (h : l < n) : RS r n (r l) := by
  induction n with
  | zero => omega
  | succ n ih =>
    by_cases e : l = n
    · subst e
      refine Or.inr ?_
      rw [Nat.xor_self]
      exact RS_z l
    · exact Or.inl (ih (by omega))
theorem red_in : ∀ n v, RS r n (v ^^^ red r n v) := by
  intro n
  induction n with
  | zero => intro v; show v ^^^ v = 0; exact Nat.xor_self v
  | succ n ih =>
    intro v
    show RS r (n + 1) (v ^^^ red r n (if v.testBit n = true then v ^^^ r n else v))
    split
    · have := ih (v ^^^ r n)
      refine Or.inr ?_
      rw [Nat.xor_assoc, Nat.xor_comm _ (r n), ← Nat.xor_assoc]
      exact this
    · exact Or.inl (ih v)
theorem red_z (h : Rw r) : ∀ n v, red r n v = 0 ↔ RS r n v := by
  intro n v
  constructor
  · intro h0
    have := red_in (r := r) n v
    rw [h0, Nat.xor_zero] at this
    exact this
  · induction n generalizing v with
    | zero => intro h0; exact h0
    | succ n ih =>
      intro hv
      show red r n (if v.testBit n = true then v ^^^ r n else v) = 0
      rcases hv with hv | hv
      · rw [bit_hi (RS_lt h n v hv)]
        exact ih v hv
      · rcases (h n).2 with g | g
        · rw [g, Nat.xor_zero] at hv
          rw [bit_hi (RS_lt h n v hv)]
          exact ih v hv
        · have h1 := bit_hi (RS_lt h n _ hv)
          rw [Nat.testBit_xor, g] at h1
          have h2 : v.testBit n = true := by
            revert h1
            cases v.testBit n <;> decide
          rw [if_pos h2]
          exact ih _ hv
/-- what is left has no bit where a row is -/
theorem red_bit (h : Rw r) : ∀ n v, v < 2 ^ n → red r n v < 2 ^ n ∧ ∀ l, l < n → r l ≠ 0 → (red r n v).testBit l = false := by
  intro n
  induction n with
  | zero => intro v hv; exact ⟨hv, fun l hl => absurd hl (Nat.not_lt_zero l)⟩
  | succ n ih =>
    intro v hv
    have hp : 2 ^ n < 2 ^ (n + 1) := by rw [Nat.pow_succ]; have := Nat.two_pow_pos n; omega
    -- the bits above n stay
    have top : ∀ m u j, m ≤ j → (red r m u).testBit j = u.testBit j := by
      intro m
      induction m with
      | zero => intro u j _; rfl
      | succ m im =>
        intro u j hj
        show (red r m (if u.testBit m = true then u ^^^ r m else u)).testBit j = _
        rw [im _ j (by omega)]
        split
        · rw [Nat.testBit_xor, Nat.testBit_lt_two_pow (Nat.lt_of_lt_of_le (h m).1 (Nat.pow_le_pow_right (by decide) hj)), Bool.xor_false]
        · rfl
    have low : ∀ m u l, l < m → r l ≠ 0 → (red r m u).testBit l = false := by
      intro m
      induction m with
      | zero => intro u l hl; omega
      | succ m im =>
        intro u l hl hr
        show (red r m (if u.testBit m = true then u ^^^ r m else u)).testBit l = false
        by_cases e : l = m
        · subst e
          rw [top l _ l (Nat.le_refl l)]
          split
          next hu =>
            rw [Nat.testBit_xor, hu, ((h l).2).resolve_left hr]
            rfl
          next hu => exact Bool.eq_false_iff.mpr hu
        · exact im _ l (by omega) hr
    refine ⟨?_, low (n + 1) v⟩
    refine Nat.lt_pow_two_of_testBit _ (fun j hj => ?_)
    rw [top (n + 1) v j hj]
    exact Nat.testBit_lt_two_pow (Nat.lt_of_lt_of_le hv (Nat.pow_le_pow_right (by decide) hj))
/-- a new row -/
theorem RS_new {h l : Nat} (h0 : r h = 0) (n : Nat) : ∀ v, RS (fun i => if i = h then l else r i) n v ↔ RS r n v ∨ (h < n ∧ RS r n (v ^^^ l)) := by
  induction n with
  | zero =>
    intro v
    exact ⟨fun z => Or.inl z, fun z => z.elim id (fun y => absurd y.1 (Nat.not_lt_zero h))⟩
  | succ n ih =>
    intro v
    show RS _ n v ∨ RS _ n (v ^^^ (if n = h then l else r n)) ↔ _
    rw [ih, ih]
    by_cases e : n = h
    · subst e
      rw [if_pos rfl]
      constructor
      · intro z
        rcases z with (z | z) | (z | z)
        · exact Or.inl (Or.inl z)
        · exact absurd z.1 (Nat.lt_irrefl n)
        · exact Or.inr ⟨Nat.lt_succ_self n, Or.inl z⟩
        · exact absurd z.1 (Nat.lt_irrefl n)
      · intro z
        rcases z with (z | z) | ⟨_, z | z⟩
        · exact Or.inl (Or.inl z)
        · rw [h0, Nat.xor_zero] at z; exact Or.inl (Or.inl z)
        · exact Or.inr (Or.inl z)
        · rw [h0, Nat.xor_zero] at z; exact Or.inr (Or.inl z)
    · rw [if_neg e]
      constructor
      · intro z
        rcases z with (z | z) | (z | z)
        · exact Or.inl (Or.inl z)
        · exact Or.inr ⟨by omega, Or.inl z.2⟩
        · exact Or.inl (Or.inr z)
        · refine Or.inr ⟨by omega, Or.inr ?_⟩
          have := z.2
          rw [Nat.xor_assoc, Nat.xor_comm (r n), ← Nat.xor_assoc] at this
          exact this
      · intro z
        rcases z with (z | z) | ⟨hn, z | z⟩
        · exact Or.inl (Or.inl z)
        · exact Or.inr (Or.inl z)
        · exact Or.inl (Or.inr ⟨by omega, z⟩)
        · refine Or.inr (Or.inr ⟨by omega, ?_⟩)
          rw [Nat.xor_assoc, Nat.xor_comm (r n), ← Nat.xor_assoc]
          exact z
/-- more pulls, more sums -/
theorem Spn_s {P F k v : Nat} {ties : Nat → Nat} (hk : k < P) : Spn F (tn ties P) (k + 1) v ↔ Spn F (tn ties P) k v ∨ (F.testBit k = true ∧ Spn F (tn ties P) k (v ^^^ ties k)) := by
  have hp : 2 ^ k < 2 ^ (k + 1) := by rw [Nat.pow_succ]; have := Nat.two_pow_pos k; omega
  constructor
  · intro ⟨s, hs, hF, hv⟩
    rcases half hs with g | ⟨d, hd, rfl⟩
    · exact Or.inl ⟨s, g, hF, hv⟩
    · obtain ⟨h1, h2⟩ := (sub_or hd).mp hF
      rw [tn_or hk hd] at hv
      refine Or.inr ⟨h2, d, hd, h1, ?_⟩
      rw [← hv, xor_cancel]
  · intro z
    rcases z with ⟨s, hs, hF, hv⟩ | ⟨h2, d, hd, h1, hv⟩
    · exact ⟨s, Nat.lt_trans hs hp, hF, hv⟩
    · refine ⟨d ||| 2 ^ k, by rw [or_lt hd, Nat.pow_succ]; omega, (sub_or hd).mpr ⟨h1, h2⟩, ?_⟩
      rw [tn_or hk hd, hv, xor_cancel]
theorem xor3 (a b c : Nat) : (a ^^^ b) ^^^ (b ^^^ c) = a ^^^ c := by
  rw [← Nat.xor_assoc, xor_cancel]
/-- rows of the first k pulls, and one pull more: its rest is some sum and itself -/
theorem RS_pull {P F k l : Nat} {ties : Nat → Nat} {h : Nat} (hk : k < P) (hh : h < 14) (h0 : r h = 0) (hF : F.testBit k = true) (hr : ∀ v, RS r 14 v ↔ Spn F (tn ties P) k v) (hu : RS r 14 (ties k ^^^ l)) : ∀ v, RS (fun i => if i = h then l else r i) 14 v ↔ Spn F (tn ties P) (k + 1) v := by
  intro v
  rw [RS_new h0, Spn_s hk, hr v]
  have e : ∀ v, RS r 14 (v ^^^ l) ↔ RS r 14 (v ^^^ ties k) := by
    intro v
    constructor
    · intro z
      rw [Nat.xor_comm (ties k)] at hu
      rw [← xor3 v l (ties k)]
      exact RS_x 14 _ _ z hu
    · intro z
      rw [← xor3 v (ties k) l]
      exact RS_x 14 _ _ z hu
  rw [e v, hr]
  exact ⟨fun z => z.elim Or.inl (fun y => Or.inr ⟨hF, y.2⟩), fun z => z.elim Or.inl (fun y => Or.inr ⟨hh, y.2⟩)⟩
end Row
