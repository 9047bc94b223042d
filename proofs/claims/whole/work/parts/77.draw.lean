/-! ===== specs: numbers drawn ===== -/
def nx (n : Nat) : Nat := (n * 1103515245 + 12345) % 2 ^ 31
theorem nx_lt (n : Nat) : nx n < 2 ^ 31 := Nat.mod_lt _ (by decide)
theorem nx_i (n : Nat) : ((nI n * 1103515245) + 12345) &&& 2147483647 = nI (nx n) := by
  rw [show (1103515245 : Int32) = nI 1103515245 from rfl, show (12345 : Int32) = nI 12345 from rfl, show (2147483647 : Int32) = nI (2 ^ 31 - 1) from rfl, pk_mul, nI_add, fa_mask]
  rfl
theorem lN_and (a b : Nat) : lN a &&& lN b = lN (a &&& b) := by
  apply Int64.toBitVec_inj.1
  show BitVec.ofNat 64 a &&& BitVec.ofNat 64 b = BitVec.ofNat 64 (a &&& b)
  apply BitVec.eq_of_getLsbD_eq
  intro i hi
  simp [hi]
theorem nx_l (n : Nat) : ((lN n * 1103515245) + 12345) &&& 2147483647 = lN (nx n) := by
  rw [show (1103515245 : Int64) = lN 1103515245 from rfl, show (12345 : Int64) = lN 12345 from rfl, show (2147483647 : Int64) = lN (2 ^ 31 - 1) from rfl, lN_mul, lN_add, lN_and, Nat.and_two_pow_sub_one_eq_mod]
  rfl
section Draw
variable {t : Nat} {σ : Mm}
theorem c_25 {a n : Nat} (hS : Sg t σ) (ha : a = 26 ∨ a = 30 ∨ a = 34) (hn : mI σ a 6 = nI n) : Cl 25 [.ref a] σ (some (.int (nI (nx n / 65536))), uI σ a 6 (nI (nx n))) := by
  refine ck_25 hS ha (b_25_0 hS ha ?_)
  intro σ1 e1
  rw [hn, nx_i] at e1
  have e2 : mI σ1 a 6 = nI (nx n) := by rw [e1, mI_uI, if_pos ⟨rfl, rfl⟩]
  rw [e2, show (65536 : Int32) = nI 65536 from rfl, pk_div (nx_lt n) (by decide) (by decide), e1]
theorem c_211 {n m : Nat} (hS : Sg t σ) (hm : 0 < m) (hm2 : m < 2 ^ 31) (hn : mL σ 59 58 = lN n) : Cl 211 [.ref 59, .int (nI m)] σ (some (.int (nI (nx n / 65536 % m))), uL σ 59 58 (lN (nx n))) := by
  refine ck_211 hS (b_211_0 hS ?_)
  intro σ1 e1
  rw [hn, nx_l] at e1
  have hl := nx_lt n
  have e2 : mL σ1 59 58 = lN (nx n) := by rw [e1, mL_uL, if_pos ⟨rfl, rfl⟩]
  rw [e2, nI_l hm2, show (65536 : Int64) = lN 65536 from rfl, pk_lDiv (by omega) (by decide) (by decide)]
  refine ⟨?_, ?_⟩
  · rw [show (0 : Int64) = lN 0 from rfl, lN_eq hm2 (by decide)]
    omega
  · rw [pk_lRem (by omega) hm (by omega), lN_i, e1]
end Draw
