/-! ===== names laid, bounded laws: the second side ===== -/
section Names
variable {t : Nat} {σ : Mm} {D H : Nat → Nat → Nat}
def W80 (a i : Nat) : Prop := a = 80
def L7 (σ : Mm) (n : Nat → Nat) : Prop := ∀ j, j < 7 → mL σ 80 j = lN (n j)
theorem c_205 {b P : Nat} (hS : Sg t σ) (hb : b < 2) (hH : MH σ b P H) (hW : WH P H) : ∃ σ', Cl 205 [.ref 59, .int (nI b)] σ (none, σ') ∧ Fr W80 σ σ' ∧ mL σ' 80 2 = lN (pcn (sh H)) ∧ mL σ' 80 4 = lN (pcn (H 2 0)) ∧ mL σ' 80 6 = lN (H 0 0) := by
  obtain ⟨⟨m1, m2, m3, m4, m5, m6⟩, _⟩ := hH
  have ws := sh_lt hW
  have w2 := hW.2.2.1
  have w0 := hW.1
  have p1 := pcn_le (sh H)
  have p2 := pcn_le (H 2 0)
  have eb : (nI b).toNatClampNeg = b := nI_clamp (by omega)
  refine ⟨uL (uL (uL σ 80 2 (lN (pcn (sh H)))) 80 4 (lN (pcn (H 2 0)))) 80 6 (lN (H 0 0)), ck_205 hS (b_205_0 hS ?_), ?_, ?_, ?_, ?_⟩
  · have ws2 : H 1 0 ^^^ (H 1 0 &&& H 2 0) < 2 ^ 31 := Nat.lt_trans ws (by decide)
    refine ⟨_, _, c_203 hS hb m1 m2, hS, _, _, c_202 hS ws2, hS, inb_nI hb (by decide), ?_⟩
    rw [eb]
    have hS2 : Sg t (uL σ 80 2 (Int32.toInt64 (nI (pcn (H 1 0 ^^^ (H 1 0 &&& H 2 0)))))) := hS
    rw [show mI (uL σ 80 2 (Int32.toInt64 (nI (pcn (H 1 0 ^^^ (H 1 0 &&& H 2 0)))))) 83 b = nI (H 2 0) from m2]
    refine ⟨_, _, c_202 hS2 (by omega), hS2, inb_nI hb (by decide), ?_⟩
    intro σ10 e10
    rw [e10]
    have e1 : (nI (pcn (H 1 0 ^^^ (H 1 0 &&& H 2 0)))).toInt64 = lN (pcn (sh H)) := nI_l (n := pcn (sh H)) (by omega)
    have e2 : (nI (pcn (H 2 0))).toInt64 = lN (pcn (H 2 0)) := nI_l (by omega)
    have e3 : ∀ v w, (mI (uL (uL σ 80 2 v) 80 4 w) 87 b).toInt64 = lN (H 0 0) := fun v w => by
      rw [show mI (uL (uL σ 80 2 v) 80 4 w) 87 b = nI (H 0 0) from m6]
      exact nI_l (by omega)
    rw [e1, e2, e3]
  · exact (((Fr.rf (P := W80) σ).uL rfl).uL rfl).uL rfl
  all_goals simp [mL_uL]
theorem c_206 {b p : Nat} (hS : Sg t σ) (hb : b < 2) (hT : MT σ D) (hD : WD D) (hH : MH σ b (D 1 0) H) (hW : WH (D 1 0) H) (hp : p < D 1 0) : ∃ σ', Cl 206 [.ref 59, .int (nI b), .int (nI p)] σ (none, σ') ∧ Fr W80 σ σ' ∧ L7 σ' (nmP D H p) := by
  have hP : D 1 0 ≤ 10 := hD.1.2.1
  obtain ⟨σ1, h1, f1, k2, k4, k6⟩ := c_205 hS hb hH hW
  have w8 := hW.2.2.2.2.2.2.2.1 p
  have w9 := hW.2.2.2.2.2.2.2.2.1 p
  have w10 := hD.2.1 p hp
  have p8 := pcn_le (H 8 p)
  have r : ∀ x i, x ≠ 80 → mI σ1 x i = mI σ x i := fun x i hx => (f1.1 x i hx).1
  have ei : (10 : Int32) * nI b + nI p = nI (10 * b + p) := by
    rw [show (10 : Int32) = nI 10 from rfl, pk_mul, nI_add]
  have hS1 := f1.sg hS
  refine ⟨uL (uL (uL (uL σ1 80 0 (lN (D 10 p))) 80 1 (lN (H 9 p))) 80 3 (lN (pcn (H 8 p)))) 80 5 0, ck_206 hS (b_206_0 hS ⟨σ1, h1, hS1, inb_nI (by omega) (by decide), ?_⟩), ?_, ?_⟩
  · intro σ4 e4
    rw [nI_clamp (by omega), r _ _ (by decide), hT.2.2.2.2.2.2.1 p hp, nI_l (by omega)] at e4
    rw [ei, nI_clamp (by omega)]
    refine ⟨inb_nI (by omega) (by decide), ?_⟩
    intro σ7 e7
    have r4 : mI σ4 90 (10 * b + p) = nI (H 9 p) := by
      rw [e4]
      exact (r 90 _ (by decide)).trans (hH.2.2.2 p hp)
    rw [r4, nI_l (by omega), e4] at e7
    have r7 : mI σ7 89 (10 * b + p) = nI (H 8 p) := by
      rw [e7]
      exact (r 89 _ (by decide)).trans (hH.2.2.1 p hp)
    have hS7 : Sg t σ7 := by rw [e7]; exact hS1
    rw [r7]
    refine ⟨inb_nI (by omega) (by decide), _, _, c_202 hS7 (by omega), hS7, ?_⟩
    intro σ13 e13
    rw [e13, nI_l (by omega), e7]
  · exact ((((f1.uL rfl).uL rfl).uL rfl).uL rfl)
  · intro j hj
    rcases (show j = 0 ∨ j = 1 ∨ j = 2 ∨ j = 3 ∨ j = 4 ∨ j = 5 ∨ j = 6 by omega) with rfl | rfl | rfl | rfl | rfl | rfl | rfl <;> simp [mL_uL, nmP, k2, k4, k6]
    rfl
theorem c_207 {b l : Nat} (hS : Sg t σ) (hb : b < 2) (hT : MT σ D) (hD : WD D) (hH : MH σ b (D 1 0) H) (hW : WH (D 1 0) H) (hl : l < 14) : ∃ σ', Cl 207 [.ref 59, .int (nI b), .int (nI l)] σ (none, σ') ∧ Fr W80 σ σ' ∧ L7 σ' (nmL H l) := by
  have hP : D 1 0 ≤ 10 := hD.1.2.1
  obtain ⟨σ1, h1, f1, k2, k4, k6⟩ := c_205 hS hb hH hW
  have w7 := hW.2.2.2.2.2.2.1 l
  have p8 := pcn_le (tdl (H 8) l 10)
  have r : ∀ x i, x ≠ 80 → mI σ1 x i = mI σ x i := fun x i hx => (f1.1 x i hx).1
  have ei : (14 : Int32) * nI b + nI l = nI (14 * b + l) := by
    rw [show (14 : Int32) = nI 14 from rfl, pk_mul, nI_add]
  have hS1 := f1.sg hS
  have et : tdo (H 8) l 1023 (D 1 0) = tdl (H 8) l 10 := by
    rw [tdo_eq hP hW.2.2.2.2.2.2.2.2.2, tdl_1023]
  have hS2 : Sg t (uL (uL σ1 80 0 0) 80 1 0) := hS1
  have h4 := c_204 (t := t) (b := b) (l := l) (o := 1023) (P := D 1 0) (ties := H 8) (σ := uL (uL σ1 80 0 0) 80 1 0) hS2 hb (by omega) (by decide) ((r 59 13 (by decide)).trans hT.1.2.1) hP (fun i hi => (r 89 _ (by decide)).trans (hH.2.2.1 i hi)) (fun i _ => hW.2.2.2.2.2.2.2.1 i)
  rw [et] at h4
  have hlt : tdl (H 8) l 10 < 2 ^ 31 := Nat.lt_of_lt_of_le (bitsOf_lt _ 10) (by decide)
  refine ⟨uL (uL (uL (uL σ1 80 0 0) 80 1 0) 80 3 (lN (pcn (tdl (H 8) l 10)))) 80 5 (lN (H 7 l)), ck_207 hS (b_207_0 hS ⟨σ1, h1, hS1, _, _, h4, hS2, _, _, c_202 hS2 hlt, hS2, ?_⟩), ?_, ?_⟩
  · rw [ei, nI_clamp (by omega)]
    refine ⟨inb_nI (by omega) (by decide), ?_⟩
    intro σ10 e10
    have e3 : ∀ v, (mI (uL (uL (uL σ1 80 0 0) 80 1 0) 80 3 v) 88 (14 * b + l)).toInt64 = lN (H 7 l) := fun v => by
      rw [show mI (uL (uL (uL σ1 80 0 0) 80 1 0) 80 3 v) 88 (14 * b + l) = nI (H 7 l) from (r 88 _ (by decide)).trans (hH.2.1 l hl)]
      exact nI_l (by omega)
    rw [e10, e3, nI_l (by omega)]
  · exact ((((f1.uL rfl).uL rfl).uL rfl).uL rfl)
  · intro j hj
    rcases (show j = 0 ∨ j = 1 ∨ j = 2 ∨ j = 3 ∨ j = 4 ∨ j = 5 ∨ j = 6 by omega) with rfl | rfl | rfl | rfl | rfl | rfl | rfl <;> simp [mL_uL, nmL, k2, k4, k6]
    all_goals rfl
/-- within 0 and most -/
def cl (v : Int64) (m : Nat) : Nat := if v < 0 then 0 else if lN m < v then m else v.toInt.toNat
theorem cl_le {v : Int64} {m : Nat} (hm : m < 2 ^ 31) : cl v m ≤ m := by
  unfold cl
  split
  · omega
  · rename_i h0
    split
    · omega
    · rename_i h1
      rw [fa_lt64, lN_toInt hm] at h1
      omega
theorem lN_of {v : Int64} (h0 : ¬ v < 0) : v = lN v.toInt.toNat := by
  rw [fa_lt64] at h0
  have h0 : ¬ v.toInt < 0 := h0
  apply Int64.toInt_inj.1
  have hb := Int64.toInt_lt v
  have e : (lN v.toInt.toNat).toInt = (v.toInt.toNat : Int) := lg_ofNat_toInt (by omega)
  rw [e]
  omega
theorem cl_m {v : Int64} {m : Nat} : (if v < 0 then (0 : Int32) else if lN m < v then nI m else v.toInt32) = nI (cl v m) := by
  unfold cl
  by_cases h : v < 0
  · rw [if_pos h, if_pos h]; rfl
  · rw [if_neg h, if_neg h]
    by_cases g : lN m < v
    · rw [if_pos g, if_pos g]
    · rw [if_neg g, if_neg g]
      have e := lN_of h
      have e2 : v.toInt32 = (lN v.toInt.toNat).toInt32 := by rw [← e]
      rw [e2, lN_i]
/-- what the first side makes of it -/
theorem cl_c {v : Int64} {m : Nat} (hm : m < 2 ^ 31) : (if (0 : Int64) < (if v < lN m then v else lN m) then (if v < lN m then v else lN m) else 0) = lN (cl v m) := by
  have em := lN_toInt hm
  unfold cl
  by_cases h : v < 0
  · rw [if_pos h]
    rw [fa_lt64] at h
    have h : v.toInt < 0 := h
    have g : v < lN m := by rw [fa_lt64, em]; omega
    rw [if_pos g, if_neg (by rw [fa_lt64]; show ¬ (0 : Int) < v.toInt; omega)]
    rfl
  · rw [if_neg h]
    have ev := lN_of h
    rw [fa_lt64] at h
    have h : ¬ v.toInt < 0 := h
    by_cases g : lN m < v
    · rw [if_pos g]
      rw [fa_lt64, em] at g
      rw [if_neg (show ¬ v < lN m by rw [fa_lt64, em]; omega)]
      by_cases z : (0 : Int64) < lN m
      · rw [if_pos z]
      · rw [if_neg z]
        rw [fa_lt64, em] at z
        have z : ¬ (0 : Int) < m := z
        have : m = 0 := by omega
        rw [this]
        rfl
    · rw [if_neg g]
      rw [fa_lt64, em] at g
      have e2 : (if v < lN m then v else lN m) = v := by
        by_cases y : v < lN m
        · rw [if_pos y]
        · rw [if_neg y]
          rw [fa_lt64, em] at y
          apply Int64.toInt_inj.1
          rw [em]
          omega
      rw [e2]
      by_cases z : (0 : Int64) < v
      · rw [if_pos z]; exact ev
      · rw [if_neg z]
        rw [fa_lt64] at z
        have z : ¬ (0 : Int) < v.toInt := z
        have : v.toInt.toNat = 0 := by omega
        rw [this]
        rfl
/-- a law's worth within bounds, or what stands for it -/
def bl (o : Option Int64) (w m : Nat) : Nat := match o with
  | some v => cl v m
  | none => w
theorem c_208t {q : Nat} {n : Nat → Nat} (hS : Sg t σ) (hT : MT σ D) (hD : WD D) (hq : q < 3) (hl : D 16 q < D 17 q) (hm : L7 σ n) (hn : ∀ j, j ≤ 6 → n j < 2 ^ 31) : ∃ σ', Cl 208 [.ref 59, .int (nI q)] σ (some (.long (match lw D q n with
      | some v => v
      | none => 0)), σ') ∧ Fr Wlo σ σ' ∧ Er σ' (match lw D q n with
      | some _ => false
      | none => true) := by
  obtain ⟨w1, w2, w3⟩ := hD.2.2.2.2.2.2.1 q hq
  obtain ⟨w4, w5⟩ := w3 hl
  obtain ⟨_, _, _, _, _, _, _, _, _, _, _, c8, _, c10⟩ := hT
  obtain ⟨e1, e2⟩ := c10 q hq hl
  rw [lw, if_pos hl]
  exact c_208 hS hq e1 e2 hl w2 (fun i hi => c8 i (by omega)) hm hn w5
theorem c_209 {q w m : Nat} {n : Nat → Nat} (hS : Sg t σ) (hT : MT σ D) (hD : WD D) (hq : q < 3) (hm : L7 σ n) (hn : ∀ j, j ≤ 6 → n j < 2 ^ 31) (hmm : m < 2 ^ 31) : ∃ σ', Cl 209 [.ref 59, .int (nI q), .int (nI w), .int (nI m)] σ (some (.int (nI (bl (lw D q n) w m))), σ') ∧ Fr Wlo σ σ' := by
  obtain ⟨_, _, _, _, _, _, _, _, _, _, _, _, c9, _⟩ := id hT
  have e72 := c9 q hq
  by_cases c : D 16 q < D 17 q
  · obtain ⟨σ', h, f, e⟩ := c_208t hS hT hD hq c hm hn
    refine ⟨σ', ck_209 hS (b_209_0 hS ⟨inb_nI (by omega) (by decide), ?_⟩), f⟩
    rw [nI_clamp (by omega), e72]
    refine w_b (fun z => absurd c (of_decide_eq_false z)) (fun _ => ⟨_, _, h, f.sg hS, ?_⟩)
    unfold Er at e
    rw [e]
    cases ev : lw D q n with
    | none => exact ⟨fun z => absurd z (by decide), fun _ => rfl⟩
    | some v =>
      refine ⟨fun _ => ?_, fun z => absurd rfl z⟩
      have hc := cl_m (v := v) (m := m)
      show _ ∧ _
      rw [nI_l hmm]
      refine ⟨fun z => ?_, fun z => ⟨fun y => ?_, fun y => ?_⟩⟩
      · rw [if_pos z] at hc
        rw [show bl (some v) w m = cl v m from rfl, ← hc]
      · rw [if_neg z, if_pos y] at hc
        rw [show bl (some v) w m = cl v m from rfl, ← hc]
      · rw [if_neg z, if_neg y] at hc
        rw [show bl (some v) w m = cl v m from rfl, ← hc]
  · refine ⟨σ, ck_209 hS (b_209_0 hS ⟨inb_nI (by omega) (by decide), ?_⟩), Fr.rf σ⟩
    rw [nI_clamp (by omega), e72]
    refine w_b (fun _ => ?_) (fun z => absurd (of_decide_eq_true z) c)
    rw [lw, if_neg c]
    rfl
end Names
