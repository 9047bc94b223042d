/-! ===== specs: leaves ===== -/
def bcf (x0 : Int32) : Int32 :=
  let x1 := x0 - ((Int32.toUInt32 x0 >>> (Int32.toUInt32 1 &&& Int32.toUInt32 31)).toInt32 &&& 1431655765)
  let x2 := (x1 &&& 858993459) + ((Int32.toUInt32 x1 >>> (Int32.toUInt32 2 &&& Int32.toUInt32 31)).toInt32 &&& 858993459)
  let x3 := (x2 + (Int32.toUInt32 x2 >>> (Int32.toUInt32 4 &&& Int32.toUInt32 31)).toInt32) &&& 252645135
  let x4 := x3 + (Int32.toUInt32 x3 >>> (Int32.toUInt32 8 &&& Int32.toUInt32 31)).toInt32
  let x5 := x4 + (Int32.toUInt32 x4 >>> (Int32.toUInt32 16 &&& Int32.toUInt32 31)).toInt32
  x5 &&& 63
theorem bc_all : ∀ a, a < 128 → ∀ b, b < 128 → bcf (nI (128 * a + b)) = nI (pcn (128 * a + b)) := by decide +kernel
theorem bc_n {n : Nat} (h : n < 2 ^ 14) : bcf (nI n) = nI (pcn n) := by
  have e : 128 * (n / 128) + n % 128 = n := Nat.div_add_mod n 128
  have h1 := bc_all (n / 128) (by omega) (n % 128) (by omega)
  rw [e] at h1
  exact h1
theorem pcn_le (n : Nat) : pcn n ≤ 14 := fa_cnt_le _ 14
theorem cnt_st (p : Nat → Bool) (k : Nat) : nI (fa_cnt p k) + (if p k = true then 1 else 0) = nI (fa_cnt p (k + 1)) := by
  cases h : p k with
  | true => rw [fa_cnt_yes h, ← nI_1]; rfl
  | false => rw [fa_cnt_no h]; exact Int32.add_zero _
section Leaf
variable {t : Nat} {σ : Mm}
theorem c_276 {n : Nat} (hS : Sg t σ) (h : n < 2 ^ 14) : Cl 276 [.int (nI n)] σ (some (.int (nI (pcn n))), σ) := by
  rw [← bc_n h]
  exact ck_276 hS (b_276_0 hS rfl)
theorem c_202 {n : Nat} (hS : Sg t σ) (h : n < 2 ^ 31) : Cl 202 [.int (nI n)] σ (some (.int (nI (pcn n))), σ) := by
  refine ck_202 hS (b_202_0 hS ?_)
  refine up_to (fun k => Ev 202 4 [.int (nI n), .int (nI (fa_cnt (fun k => n.testBit k) k)), .int (nI k)] [] σ (some (.int (nI (pcn n))), σ)) 14 ?_ ?_ 0 (Nat.zero_le _)
  · intro k hk ih
    refine b_202_4 hS (pk_lt k 14 (fun _ => ?_) (fun h => absurd hk (by omega)))
    rw [nI_bit h (by omega), nI_1, cnt_st (fun k => n.testBit k) k]
    exact ih
  · exact b_202_4 hS (pk_lt 14 14 (fun h => absurd h (by omega)) (fun _ => rfl))
theorem c_153 {n k : Nat} (hS : Sg t σ) (h : n < 2 ^ 31) (hk : k < 32) : Cl 153 [.int (nI n), .int (nI k)] σ (some (.int (if n.testBit k = true then 1 else 0)), σ) := by
  refine ck_153 hS (b_153_0 hS ?_)
  rw [nI_bit h hk]
  cases n.testBit k with
  | true => exact ⟨fun _ => rfl, fun h => absurd rfl h⟩
  | false => exact ⟨fun h => absurd h (by decide), fun _ => rfl⟩
theorem c_152 {x a b : Int32} (hS : Sg t σ) : Cl 152 [.int x, .int a, .int b] σ (some (.int (if x < a ∨ b < x then 0 else 1)), σ) := by
  refine ck_152 hS (b_152_0 hS ⟨fun h => ?_, fun h => ⟨fun g => ?_, fun g => ?_⟩⟩)
  · rw [if_pos (Or.inl h)]
  · rw [if_pos (Or.inr g)]
  · rw [if_neg (fun z => z.elim h g)]
theorem c_277 {y : Int64} (hS : Sg t σ) : Cl 277 [.long y] σ (some (.long (if y < 0 then -y else y)), σ) :=
  ck_277 hS (b_277_0 hS ⟨fun h => by rw [if_pos h], fun h => by rw [if_neg h]⟩)
theorem c_278 {x y : Int32} (hS : Sg t σ) : Cl 278 [.int x, .int y] σ (some (.int (if x < y then y else x)), σ) :=
  ck_278 hS (b_278_0 hS ⟨fun h => by rw [if_pos h], fun h => by rw [if_neg h]⟩)
theorem c_279 {x y : Int64} (hS : Sg t σ) : Cl 279 [.long x, .long y] σ (some (.long (if x < y then y else x)), σ) :=
  ck_279 hS (b_279_0 hS ⟨fun h => by rw [if_pos h], fun h => by rw [if_neg h]⟩)
theorem c_280 {x y : Int32} (hS : Sg t σ) : Cl 280 [.int x, .int y] σ (some (.int (if y < x then y else x)), σ) :=
  ck_280 hS (b_280_0 hS ⟨fun h => by rw [if_pos h], fun h => by rw [if_neg h]⟩)
theorem c_281 {x y : Int64} (hS : Sg t σ) : Cl 281 [.long x, .long y] σ (some (.long (if y < x then y else x)), σ) :=
  ck_281 hS (b_281_0 hS ⟨fun h => by rw [if_pos h], fun h => by rw [if_neg h]⟩)
theorem c_280n {a b : Nat} (hS : Sg t σ) (ha : a < 2 ^ 31) (hb : b < 2 ^ 31) : Cl 280 [.int (nI a), .int (nI b)] σ (some (.int (nI (min a b))), σ) := by
  have h := c_280 (x := nI a) (y := nI b) hS
  have e : (if nI b < nI a then nI b else nI a) = nI (min a b) := by
    by_cases hc : b < a
    · rw [if_pos (nI_lt hc ha), Nat.min_eq_right (Nat.le_of_lt hc)]
    · rw [if_neg (nI_nlt (Nat.le_of_not_lt hc) hb), Nat.min_eq_left (Nat.le_of_not_lt hc)]
  rwa [e] at h
theorem c_278n {a b : Nat} (hS : Sg t σ) (ha : a < 2 ^ 31) (hb : b < 2 ^ 31) : Cl 278 [.int (nI a), .int (nI b)] σ (some (.int (nI (max a b))), σ) := by
  have h := c_278 (x := nI a) (y := nI b) hS
  have e : (if nI a < nI b then nI b else nI a) = nI (max a b) := by
    by_cases hc : a < b
    · rw [if_pos (nI_lt hc hb), Nat.max_eq_right (Nat.le_of_lt hc)]
    · rw [if_neg (nI_nlt (Nat.le_of_not_lt hc) ha), Nat.max_eq_left (Nat.le_of_not_lt hc)]
  rwa [e] at h
/-- no index of n -/
def Bad (x : Int32) (n : Nat) : Prop := x < 0 ∨ nI n ≤ x
theorem bad_or (x : Int32) {n : Nat} (hn : n < 2 ^ 31) : Bad x n ∨ ∃ j : Nat, j < n ∧ x = nI j := by
  rcases pk_ix x hn with h | h | h
  · exact Or.inl (Or.inl h)
  · exact Or.inl (Or.inr h)
  · exact Or.inr h
theorem nlt_of_le {x y : Int32} (h : y ≤ x) : ¬ x < y := fun z => by
  rw [fa_lt] at z
  rw [fa_le] at h
  omega
theorem w_bad {A B : Prop} {x y : Int32} {n : Nat} (hy : y = nI n) (h : Bad x n) (hA : A) : (x < 0 → A) ∧ (¬ x < 0 → (x < y → B) ∧ (¬ x < y → A)) := by
  subst hy
  exact ⟨fun _ => hA, fun h0 => ⟨fun h1 => absurd h1 (h.elim (fun z => absurd z h0) nlt_of_le), fun _ => hA⟩⟩
theorem w_ok {A B : Prop} {y : Int32} {n j : Nat} (hy : y = nI n) (hn : n < 2 ^ 31) (h : j < n) (hB : B) : (nI j < 0 → A) ∧ (¬ nI j < 0 → (nI j < y → B) ∧ (¬ nI j < y → A)) := by
  subst hy
  exact ⟨fun z => absurd z (nI_pos (by omega)), fun _ => ⟨fun _ => hB, fun z => absurd (nI_lt h hn) z⟩⟩
theorem c_142n {x : Int32} {n : Nat} (hS : Sg t σ) (hn : mI σ t 0 = nI n) (h : Bad x n) : Cl 142 [.ref 0, .int x] σ (some (.int 0), σ) := ck_142 hS (b_142_0 hS (w_bad hn h rfl))
theorem c_142y {n j : Nat} (hS : Sg t σ) (hn : mI σ t 0 = nI n) (hb : n < 2 ^ 31) (h : j < n) : Cl 142 [.ref 0, .int (nI j)] σ (some (.int 1), σ) := ck_142 hS (b_142_0 hS (w_ok hn hb h rfl))
theorem c_143n {x : Int32} {n : Nat} (hS : Sg t σ) (hn : mI σ t 1 = nI n) (h : Bad x n) : Cl 143 [.ref 0, .int x] σ (some (.int 0), σ) := ck_143 hS (b_143_0 hS (w_bad hn h rfl))
theorem c_143y {n j : Nat} (hS : Sg t σ) (hn : mI σ t 1 = nI n) (hb : n < 2 ^ 31) (h : j < n) : Cl 143 [.ref 0, .int (nI j)] σ (some (.int 1), σ) := ck_143 hS (b_143_0 hS (w_ok hn hb h rfl))
theorem c_144n {x : Int32} {n : Nat} (hS : Sg t σ) (hn : mI σ t 0 = nI n) (hb : n < 31) (h : Bad x (2 ^ n)) : Cl 144 [.ref 0, .int x] σ (some (.int 0), σ) := ck_144 hS (b_144_0 hS (w_bad (by rw [hn]; exact nI_one (by omega)) h rfl))
theorem c_144y {n j : Nat} (hS : Sg t σ) (hn : mI σ t 0 = nI n) (hb : n < 31) (h : j < 2 ^ n) : Cl 144 [.ref 0, .int (nI j)] σ (some (.int 1), σ) := ck_144 hS (b_144_0 hS (w_ok (by rw [hn]; exact nI_one (by omega)) (Nat.pow_lt_pow_right (by decide) hb) h rfl))
theorem c_199n {x : Int32} {n : Nat} (hS : Sg t σ) (hn : mI σ 59 12 = nI n) (h : Bad x n) : Cl 199 [.ref 59, .int x] σ (some (.int 0), σ) := ck_199 hS (b_199_0 hS (w_bad hn h rfl))
theorem c_199y {n j : Nat} (hS : Sg t σ) (hn : mI σ 59 12 = nI n) (hb : n < 2 ^ 31) (h : j < n) : Cl 199 [.ref 59, .int (nI j)] σ (some (.int 1), σ) := ck_199 hS (b_199_0 hS (w_ok hn hb h rfl))
theorem c_200n {x : Int32} {n : Nat} (hS : Sg t σ) (hn : mI σ 59 13 = nI n) (h : Bad x n) : Cl 200 [.ref 59, .int x] σ (some (.int 0), σ) := ck_200 hS (b_200_0 hS (w_bad hn h rfl))
theorem c_200y {n j : Nat} (hS : Sg t σ) (hn : mI σ 59 13 = nI n) (hb : n < 2 ^ 31) (h : j < n) : Cl 200 [.ref 59, .int (nI j)] σ (some (.int 1), σ) := ck_200 hS (b_200_0 hS (w_ok hn hb h rfl))
theorem c_201y {n j : Nat} (hS : Sg t σ) (hn : mI σ 59 12 = nI n) (hb : n < 31) (h : j < 2 ^ n) : Cl 201 [.ref 59, .int (nI j)] σ (some (.int 1), σ) := by
  have hj : j < 2 ^ 31 := Nat.lt_trans h (Nat.pow_lt_pow_right (by decide) hb)
  have e : nI j >>> (mI σ 59 12 &&& 31) = 0 := by
    rw [hn, nI_shr hj (by omega), Nat.shiftRight_eq_div_pow, Nat.div_eq_of_lt h]
    rfl
  exact ck_201 hS (b_201_0 hS ⟨fun z => absurd z (nI_pos hj), fun _ => ⟨fun _ => rfl, fun z => absurd e z⟩⟩)
theorem c_201n {x : Int32} {n : Nat} (hS : Sg t σ) (hn : mI σ 59 12 = nI n) (hb : n < 31) (h : Bad x (2 ^ n)) : Cl 201 [.ref 59, .int x] σ (some (.int 0), σ) := by
  refine ck_201 hS (b_201_0 hS ⟨fun _ => rfl, fun h0 => ⟨fun z => ?_, fun _ => rfl⟩⟩)
  obtain ⟨j, hj, rfl⟩ := nI_of h0
  have hp : 2 ^ n < 2 ^ 31 := Nat.pow_lt_pow_right (by decide) hb
  rw [hn, nI_shr hj (by omega), nI_i0 (Nat.lt_of_le_of_lt (Nat.shiftRight_le _ _) hj), Nat.shiftRight_eq_div_pow] at z
  have h1 : j < 2 ^ n := by
    rcases Nat.lt_or_ge j (2 ^ n) with g | g
    · exact g
    · exact absurd z (Nat.pos_iff_ne_zero.mp (Nat.div_pos g (Nat.two_pow_pos n)))
  exact absurd (h.resolve_left h0) (nI_ge h1 hp)
end Leaf
