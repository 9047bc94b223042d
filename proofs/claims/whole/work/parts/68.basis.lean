/-! ===== specs: the basis, the first side ===== -/
/-- one less -/
def dI : Nat → Int32
  | 0 => -1
  | n + 1 => nI n
theorem dI_m (n : Nat) : nI n + (-1) = dI n := by
  cases n with
  | zero => decide
  | succ n => exact pk_m1 n
def nz (n : Nat) : Nat :=
  let q := if n < 256 then (n, 31) else (n / 256, 23)
  let q2 := if q.1 < 16 then q else (q.1 / 16, q.2 - 4)
  if q2.1 < 4 then q2.2 - q2.1 / 2 else q2.2 - 2 - q2.1 / 4 / 2
theorem nz_all : ∀ a, a < 128 → ∀ b, b < 128 → 0 < 128 * a + b → nz (128 * a + b) ≤ 31 ∧ 2 ^ (31 - nz (128 * a + b)) ≤ 128 * a + b ∧ 128 * a + b < 2 ^ (31 - nz (128 * a + b) + 1) := by decide +kernel
theorem nz_n {n : Nat} (h : n < 2 ^ 14) (h0 : 0 < n) : nz n ≤ 31 ∧ 2 ^ (31 - nz n) ≤ n ∧ n < 2 ^ (31 - nz n + 1) := by
  have e : 128 * (n / 128) + n % 128 = n := Nat.div_add_mod n 128
  have h1 := nz_all (n / 128) (by omega) (n % 128) (by omega) (by omega)
  rw [e] at h1
  exact h1
theorem us_k : ∀ k, k < 32 → (((nI k).toUInt32 &&& Int32.toUInt32 31).toBitVec % 32).toNat = k := bs_u
theorem nI_ushr {n k : Nat} (hn : n < 2 ^ 31) (hk : k < 32) : (Int32.toUInt32 (nI n) >>> (Int32.toUInt32 (nI k) &&& Int32.toUInt32 31)).toInt32 = nI (n / 2 ^ k) := pk_ushrN (by omega) (nI k) k (bs_u k hk)
section Basis
variable {t : Nat} {σ : Mm}
theorem c_274 {n : Nat} (hS : Sg t σ) (h : n < 2 ^ 14) (h0 : 0 < n) : Cl 274 [.int (nI n)] σ (some (.int (nI (nz n))), σ) := by
  refine ck_274 hS (b_274_0 hS (pk_lt 0 n (fun _ => pk_lt n 65536 (fun _ => ?_) (fun z => absurd h (by omega))) (fun z => absurd h0 (by omega)) rfl rfl (by omega) (by omega)))
  -- the last block
  have l3 : ∀ m c : Nat, m < 16 → c ≤ 31 → 3 ≤ c → (if m < 4 then c - m / 2 else c - 2 - m / 4 / 2) = nz n → Ev 274 61 [.int (nI m), .int (nI c)] [] σ (some (.int (nI (nz n))), σ) := by
    intro m c hm hc hc3 e
    refine b_274_61 hS (pk_lt m 4 (fun z => ?_) (fun z => ?_) rfl rfl (by omega) (by omega))
    · rw [if_pos z] at e
      have e1 := nI_ushr (n := m) (k := 1) (by omega) (by decide)
      rw [show (1 : Int32) = nI 1 from rfl, e1, pk_sub (by omega), ← e]
    · rw [if_neg (by omega)] at e
      have e1 := nI_ushr (n := m) (k := 2) (by omega) (by decide)
      have e2 := nI_ushr (n := m / 2 ^ 2) (k := 1) (by omega) (by decide)
      have e3 : nI c + (-2) = nI (c - 2) := by
        have := pk_sub (a := c) (b := 2) (by omega)
        rw [← this, Int32.sub_eq_add_neg]
        rfl
      rw [e3, show (1 : Int32) = nI 1 from rfl, show (2 : Int32) = nI 2 from rfl, e1, e2, pk_sub (by omega), ← e]
  have l2 : ∀ m c : Nat, m < 256 → c ≤ 31 → 7 ≤ c → (if (if m < 16 then (m, c) else (m / 16, c - 4)).1 < 4 then (if m < 16 then (m, c) else (m / 16, c - 4)).2 - (if m < 16 then (m, c) else (m / 16, c - 4)).1 / 2 else (if m < 16 then (m, c) else (m / 16, c - 4)).2 - 2 - (if m < 16 then (m, c) else (m / 16, c - 4)).1 / 4 / 2) = nz n → (nI m < 16 → Ev 274 61 [.int (nI m), .int (nI c)] [] σ (some (.int (nI (nz n))), σ)) ∧ (¬ nI m < 16 → Ev 274 61 [.int (Int32.toUInt32 (nI m) >>> (Int32.toUInt32 4 &&& Int32.toUInt32 31)).toInt32, .int (nI c + (-4))] [] σ (some (.int (nI (nz n))), σ)) := by
    intro m c hm hc hc7 e
    refine pk_lt m 16 (fun z => ?_) (fun z => ?_) rfl rfl (by omega) (by omega)
    · rw [if_pos z] at e
      exact l3 m c z hc (by omega) e
    · rw [if_neg (show ¬ m < 16 by omega)] at e
      have e1 := nI_ushr (n := m) (k := 4) (by omega) (by decide)
      have e3 : nI c + (-4) = nI (c - 4) := by
        have := pk_sub (a := c) (b := 4) (by omega)
        rw [← this, Int32.sub_eq_add_neg]
        rfl
      rw [e3, show (4 : Int32) = nI 4 from rfl, e1]
      exact l3 (m / 2 ^ 4) (c - 4) (by omega) (by omega) (by omega) e
  refine b_274_33 hS (pk_lt n 256 (fun z => ?_) (fun z => ?_) rfl rfl (by omega) (by omega))
  · refine l2 n 31 z (by decide) (by decide) ?_
    show _ = nz n
    unfold nz
    rw [if_pos z]
  · have e1 := nI_ushr (n := n) (k := 8) (by omega) (by decide)
    rw [show (8 : Int32) = nI 8 from rfl, e1]
    refine l2 (n / 2 ^ 8) 23 (by omega) (by decide) (by decide) ?_
    show _ = nz n
    unfold nz
    rw [if_neg (show ¬ n < 256 by omega)]
theorem c_274z (hS : Sg t σ) : Cl 274 [.int 0] σ (some (.int 32), σ) :=
  ck_274 hS (b_274_0 hS ⟨fun h => absurd h (by decide), fun _ => ⟨fun _ => rfl, fun h => absurd rfl h⟩⟩)
/-- the rest of v, and the parts used -/
def rdu (r p : Nat → Nat) : Nat → Nat → Nat → Nat
  | 0, _, u => u
  | n + 1, v, u => if v.testBit n = true then rdu r p n (v ^^^ r n) (u ^^^ p n) else rdu r p n v u
theorem rdu_inv {r p tz : Nat → Nat} {P : Nat} {ties : Nat → Nat} (hz : tz = tn ties P) (h : ∀ l, tz (p l) = r l) : ∀ n v u, red r n v ^^^ tz (rdu r p n v u) = v ^^^ tz u := by
  intro n
  induction n with
  | zero => intro v u; rfl
  | succ n ih =>
    intro v u
    show red r n (if v.testBit n = true then v ^^^ r n else v) ^^^ tz (if v.testBit n = true then rdu r p n (v ^^^ r n) (u ^^^ p n) else rdu r p n v u) = _
    cases v.testBit n with
    | true =>
      rw [if_pos rfl, if_pos rfl, ih]
      subst hz
      rw [tn_xor, h, xor4, Nat.xor_self, Nat.xor_zero]
    | false => rw [if_neg (by decide), if_neg (by decide), ih]
theorem rdu_sub {r p : Nat → Nat} {B k : Nat} (h : ∀ l, p l &&& B = p l ∧ p l < 2 ^ k) : ∀ n v u, u &&& B = u ∧ u < 2 ^ k → rdu r p n v u &&& B = rdu r p n v u ∧ rdu r p n v u < 2 ^ k := by
  intro n
  induction n with
  | zero => intro v u hu; exact hu
  | succ n ih =>
    intro v u hu
    show (if v.testBit n = true then rdu r p n (v ^^^ r n) (u ^^^ p n) else rdu r p n v u) &&& B = (if v.testBit n = true then rdu r p n (v ^^^ r n) (u ^^^ p n) else rdu r p n v u) ∧ (if v.testBit n = true then rdu r p n (v ^^^ r n) (u ^^^ p n) else rdu r p n v u) < 2 ^ k
    split
    · exact ih _ _ ⟨sub_xor hu.1 (h n).1, Nat.xor_lt_two_pow hu.2 (h n).2⟩
    · exact ih _ _ hu
def Wr (a i : Nat) : Prop := a = 56
theorem c_3 {v : Nat} {r p : Nat → Nat} (hS : Sg t σ) (hr : ∀ l, l < 14 → mI σ 57 l = nI (r l) ∧ mI σ 58 l = nI (p l)) (hb : ∀ l, r l < 2 ^ 14) (hv : v < 2 ^ 14) : ∃ σ', Cl 3 [.ref 56, .int (nI v)] σ (none, σ') ∧ Fr Wr σ σ' ∧ mI σ' 56 2 = nI (red r 14 v) ∧ mI σ' 56 3 = nI (rdu r p 14 v 0) := by
  have hR : ∀ σ', Fr Wr σ σ' → ∀ l, l < 14 → mI σ' 57 l = nI (r l) ∧ mI σ' 58 l = nI (p l) := fun σ' hf l hl => ⟨((hf.1 57 l (by unfold Wr; omega)).1).trans (hr l hl).1, ((hf.1 58 l (by unfold Wr; omega)).1).trans (hr l hl).2⟩
  have main : ∀ n, n ≤ 14 → ∀ σ1 x u, Fr Wr σ σ1 → mI σ1 56 2 = nI x → mI σ1 56 3 = nI u → x < 2 ^ 14 → ∃ σ', Ev 3 13 [.ref 56, .int (nI v), .int (dI n)] [] σ1 (none, σ') ∧ Fr Wr σ σ' ∧ mI σ' 56 2 = nI (red r n x) ∧ mI σ' 56 3 = nI (rdu r p n x u) := by
    intro n
    induction n with
    | zero => intro _ σ1 x u hf h2 h3 _; exact ⟨σ1, b_3_13 (hf.sg hS) ⟨fun _ => rfl, fun z => absurd (by decide) z⟩, hf, h2, h3⟩
    | succ n ih =>
      intro hn σ1 x u hf h2 h3 hx
      have hS1 := hf.sg hS
      have hrn := hR σ1 hf n (by omega)
      cases hb1 : x.testBit n with
      | false =>
        obtain ⟨σ', h, g⟩ := ih (by omega) σ1 x u hf h2 h3 hx
        refine ⟨σ', b_3_13 hS1 ⟨fun z => absurd z (nI_pos (by omega)), fun _ => ?_⟩, g.1, ?_, ?_⟩
        · rw [h2]
          refine bitc (by omega) (by omega) (fun _ => ?_) (fun z => by rw [hb1] at z; cases z)
          show Ev 3 13 [.ref 56, .int (nI v), .int (nI n + (-1))] [] σ1 _
          rw [dI_m]; exact h
        · show _ = nI (red r n (if x.testBit n = true then _ else x))
          rw [hb1]; exact g.2.1
        · show _ = nI (if x.testBit n = true then _ else _)
          rw [hb1]; exact g.2.2
      | true =>
        obtain ⟨σ', h, g⟩ := ih (by omega) (uI (uI σ1 56 2 (nI (x ^^^ r n))) 56 3 (nI (u ^^^ p n))) (x ^^^ r n) (u ^^^ p n) ((hf.uI rfl).uI rfl) (by rw [mI_uI, if_neg (by omega), mI_uI, if_pos ⟨rfl, rfl⟩]) (by rw [mI_uI, if_pos ⟨rfl, rfl⟩]) (Nat.xor_lt_two_pow hx (hb n))
        refine ⟨σ', b_3_13 hS1 ⟨fun z => absurd z (nI_pos (by omega)), fun _ => ?_⟩, g.1, ?_, ?_⟩
        · show (((mI σ1 56 2 >>> (nI n &&& 31)) &&& 1) = 0 → _) ∧ (¬ ((mI σ1 56 2 >>> (nI n &&& 31)) &&& 1) = 0 → _)
          rw [h2]
          refine bitc (by omega) (by omega) (fun z => by rw [hb1] at z; cases z) (fun _ => ⟨inb_nI (by omega) (by decide), ?_⟩)
          intro σ2 e2
          have e2 : σ2 = uI σ1 56 2 (nI x ^^^ mI σ1 57 (nI n).toNatClampNeg) := e2
          rw [nI_clamp (by omega), hrn.1, nI_xor] at e2
          refine ⟨inb_nI (by omega) (by decide), ?_⟩
          intro σ3 e3
          have e3 : σ3 = uI σ2 56 3 (mI σ2 56 3 ^^^ mI σ2 58 (nI n).toNatClampNeg) := e3
          rw [nI_clamp (by omega), e2, mI_uI, if_neg (by omega), mI_uI, if_neg (by omega), h3, hrn.2, nI_xor] at e3
          rw [e3]
          show Ev 3 13 [.ref 56, .int (nI v), .int (nI n + (-1))] [] _ _
          rw [dI_m]; exact h
        · show _ = nI (red r n (if x.testBit n = true then _ else x))
          rw [if_pos hb1]; exact g.2.1
        · show _ = nI (if x.testBit n = true then _ else _)
          rw [if_pos hb1]; exact g.2.2
  obtain ⟨σ', h, g⟩ := main 14 (Nat.le_refl _) (uI (uI σ 56 2 (nI v)) 56 3 0) v 0 (((Fr.rf (P := Wr) σ).uI rfl).uI rfl) (by rw [mI_uI, if_neg (by omega), mI_uI, if_pos ⟨rfl, rfl⟩]) (by rw [mI_uI, if_pos ⟨rfl, rfl⟩]; rfl) hv
  exact ⟨σ', ck_3 hS (b_3_0 hS h), g⟩
end Basis
