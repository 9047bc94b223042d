/-! ===== specs: which pulls are tied to a lamp, how many ties ===== -/
section Tied
variable {t P : Nat} {ties : Nat → Nat} {σ : Mm}
theorem or0 (x : Int32) : x ||| 0 = x := Int32.or_zero
/-- pulls tied to l, of some -/
def tdo (ties : Nat → Nat) (l o n : Nat) : Nat := bitsOf (fun p => o.testBit p && (ties p).testBit l) n
def tdl (ties : Nat → Nat) (l n : Nat) : Nat := bitsOf (fun p => (ties p).testBit l) n
theorem c_22 {a l : Nat} (hS : Sg t σ) (ha : a = 26 ∨ a = 30 ∨ a = 34) (hl : l < 32) (ht : ∀ i, i < 10 → mI σ (a + 2) i = nI (ties i)) (hb : ∀ i, i < 10 → ties i < 2 ^ 14) : Cl 22 [.ref a, .int (nI l)] σ (some (.int (nI (tdl ties l 10))), σ) := by
  refine ck_22 hS ha (b_22_0 hS ha ?_)
  refine up_to (fun k => Ev 22 4 [.ref a, .int (nI l), .int (nI (tdl ties l k)), .int (nI k)] [] σ (some (.int (nI (tdl ties l 10))), σ)) 10 ?_ ?_ 0 (Nat.zero_le _)
  · intro k hk ih
    have hbk := hb k hk
    refine b_22_4 hS ha (pk_lt k 10 (fun _ => ⟨inb_nI hk (by decide), ?_⟩) (fun z => absurd hk (by omega)))
    rw [nI_clamp (by omega), ht k hk, nI_bit (by omega) hl, nI_1]
    cases h : (ties k).testBit l with
    | true =>
      have e : tdl ties l k ||| 2 ^ k = tdl ties l (k + 1) := bitsOf_or h
      rw [if_pos rfl, nI_one (by omega), fa_or, e]; exact ih
    | false =>
      have e : tdl ties l k = tdl ties l (k + 1) := bitsOf_no h
      have e0 : (if false = true then (1 : Int32) else 0) <<< (nI k &&& 31) = 0 := by
        have := nI_shl (n := 0) (k := k) (by omega) (by omega)
        rw [Nat.zero_mul] at this
        exact this
      rw [e0, or0, e]; exact ih
  · exact b_22_4 hS ha (pk_lt 10 10 (fun z => absurd z (by decide)) (fun _ => rfl))
theorem c_204 {b l o : Nat} (hS : Sg t σ) (hb2 : b < 2) (hl : l < 32) (ho : o < 2 ^ 31) (hP : mI σ 59 13 = nI P) (hp : P ≤ 10) (ht : ∀ i, i < P → mI σ 89 (10 * b + i) = nI (ties i)) (hb : ∀ i, i < P → ties i < 2 ^ 14) : Cl 204 [.ref 59, .int (nI b), .int (nI l), .int (nI o)] σ (some (.int (nI (tdo ties l o P))), σ) := by
  refine ck_204 hS (b_204_0 hS ?_)
  refine up_to (fun k => Ev 204 6 [.ref 59, .int (nI b), .int (nI l), .int (nI o), .int (nI (tdo ties l o k)), .int (nI k)] [] σ (some (.int (nI (tdo ties l o P))), σ)) P ?_ ?_ 0 (Nat.zero_le _)
  · intro k hk ih
    have hbk := hb k hk
    have ei : (10 : Int32) * nI b + nI k = nI (10 * b + k) := by
      rw [show (10 : Int32) = nI 10 from rfl, pk_mul, nI_add]
    refine b_204_6 hS ?_
    rw [hP, nI_1, ei]
    have h2 : Cl 153 [.int (mI σ 89 (nI (10 * b + k)).toNatClampNeg), .int (nI l)] σ (some (.int (if (ties k).testBit l = true then 1 else 0)), σ) := by
      rw [nI_clamp (by omega), ht k hk]
      exact c_153 hS (by omega) hl
    refine pk_lt k P (fun _ => ⟨_, _, c_153 hS ho (by omega), hS, w_b (fun h => ?_) (fun h => ⟨inb_nI (by omega) (by decide), _, _, h2, hS, w_b (fun g => ?_) (fun g => ?_)⟩)⟩) (fun z => absurd hk (by omega))
    · have e : tdo ties l o k = tdo ties l o (k + 1) := bitsOf_no (by rw [h, Bool.false_and])
      rw [or0, e]; exact ih
    · have e : tdo ties l o k = tdo ties l o (k + 1) := bitsOf_no (by rw [g, Bool.and_false])
      rw [or0, e]; exact ih
    · have e : tdo ties l o k ||| 2 ^ k = tdo ties l o (k + 1) := bitsOf_or (by rw [h, g]; rfl)
      rw [nI_one (by omega), fa_or, e]; exact ih
  · refine b_204_6 hS ?_
    rw [hP]
    exact pk_lt P P (fun z => absurd z (Nat.lt_irrefl _)) (fun _ => rfl)
theorem tdo_eq {l o : Nat} (hp : P ≤ 10) (h0 : ∀ i, P ≤ i → ties i = 0) : tdo ties l o P = tdl ties l 10 &&& o := by
  refine Nat.eq_of_testBit_eq (fun j => ?_)
  unfold tdo tdl
  rw [Nat.testBit_and, bitsOf_test, bitsOf_test]
  by_cases h : j < P
  · rw [decide_eq_true h, decide_eq_true (show j < 10 by omega), Bool.true_and, Bool.true_and, Bool.and_comm]
  · rw [decide_eq_false h, h0 j (by omega), Nat.zero_testBit]
    simp
theorem tdl_1023 {l : Nat} : tdl ties l 10 &&& 1023 = tdl ties l 10 := by
  have h : tdl ties l 10 < 2 ^ 10 := bitsOf_lt _ 10
  have := Nat.and_two_pow_sub_one_eq_mod (tdl ties l 10) 10
  rw [Nat.mod_eq_of_lt h] at this
  exact this
/-- how many ties -/
def nti (ties : Nat → Nat) : Nat → Nat
  | 0 => 0
  | n + 1 => nti ties n + pcn (ties n)
theorem c_23 {a : Nat} (hS : Sg t σ) (ha : a = 26 ∨ a = 30 ∨ a = 34) (ht : ∀ i, i < 10 → mI σ (a + 2) i = nI (ties i)) (hb : ∀ i, i < 10 → ties i < 2 ^ 14) : Cl 23 [.ref a] σ (some (.int (nI (nti ties 10))), σ) := by
  refine ck_23 hS ha (b_23_0 hS ha ?_)
  refine up_to (fun k => Ev 23 4 [.ref a, .int (nI (nti ties k)), .int (nI k)] [] σ (some (.int (nI (nti ties 10))), σ)) 10 ?_ ?_ 0 (Nat.zero_le _)
  · intro k hk ih
    refine b_23_4 hS ha (pk_lt k 10 (fun _ => ⟨inb_nI hk (by decide), ?_⟩) (fun z => absurd hk (by omega)))
    rw [nI_clamp (by omega), ht k hk]
    refine ⟨_, _, c_276 hS (hb k hk), hS, ?_⟩
    rw [nI_add, nI_1]; exact ih
  · exact b_23_4 hS ha (pk_lt 10 10 (fun z => absurd z (by decide)) (fun _ => rfl))
theorem nti_hi (h0 : ∀ i, P ≤ i → ties i = 0) : ∀ n, P ≤ n → nti ties n = nti ties P := by
  intro n hn
  induction n with
  | zero => have : P = 0 := by omega
            subst this; rfl
  | succ n ih =>
    rcases Nat.lt_or_ge P (n + 1) with g | g
    · show nti ties n + pcn (ties n) = _
      rw [h0 n (by omega), ih (by omega)]
      rfl
    · have : P = n + 1 := by omega
      subst this; rfl
theorem c_20 {a on bu : Nat} (hS : Sg t σ) (ha : a = 26 ∨ a = 30 ∨ a = 34) (h1 : mI σ a 1 = nI on) (h2 : mI σ a 2 = nI bu) : Cl 20 [.ref a] σ (some (.int (nI (on ^^^ (on &&& bu)))), σ) := by
  refine ck_20 hS ha (b_20_0 hS ha ?_)
  rw [h1, h2, nI_andn]
theorem c_203 {b on bu : Nat} (hS : Sg t σ) (hb : b < 2) (h1 : mI σ 82 b = nI on) (h2 : mI σ 83 b = nI bu) : Cl 203 [.ref 59, .int (nI b)] σ (some (.int (nI (on ^^^ (on &&& bu)))), σ) := by
  refine ck_203 hS (b_203_0 hS ⟨inb_nI hb (by decide), inb_nI hb (by decide), ?_⟩)
  rw [nI_clamp (by omega), h1, h2, nI_andn]
theorem c_21 {a a1 K : Nat} (hS : Sg t σ) (ha : a = 26 ∨ a = 30 ∨ a = 34) (h1 : a1 = 3 ∨ a1 = 15) (hP : mI σ a1 1 = nI P) (hp : P ≤ 10) (hK : mI σ a 3 = nI K) : Cl 21 [.ref a, .ref a1] σ (some (.int (nI (fre P K))), σ) := by
  refine ck_21 hS ha h1 (b_21_0 hS ha h1 ?_)
  rw [hP, hK, fre_i hp]
end Tied
