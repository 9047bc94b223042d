/-! ===== specs: questions about sets, the other side, behind the laying of turns ===== -/
section Sets5
variable {t P F : Nat} {tz : Nat → Nat} {σ : Mm}
/-- all that are in some -/
def alO (w : Nat → Bool) : Nat → Nat
  | 0 => 0
  | k + 1 => if w k = true then alO w k ||| k else alO w k
theorem alN_eq {w : Nat → Bool} {a : Nat} : ∀ k, alN w a k = a ^^^ (a &&& alO w k) := by
  intro k
  induction k with
  | zero =>
    show a = a ^^^ (a &&& 0)
    rw [Nat.and_zero, Nat.xor_zero]
  | succ k ih =>
    cases h : w k with
    | false =>
      have e1 : alN w a (k + 1) = alN w a k := if_neg (by rw [h]; decide)
      have e2 : alO w (k + 1) = alO w k := if_neg (by rw [h]; decide)
      rw [e1, e2, ih]
    | true =>
      have e1 : alN w a (k + 1) = alN w a k ^^^ (alN w a k &&& k) := if_pos h
      have e2 : alO w (k + 1) = alO w k ||| k := if_pos h
      rw [e1, e2, ih]
      refine Nat.eq_of_testBit_eq (fun i => ?_)
      simp only [Nat.testBit_xor, Nat.testBit_and, Nat.testBit_or]
      cases a.testBit i <;> cases (alO w k).testBit i <;> cases k.testBit i <;> rfl
/-- cheapest -/
def chp (c : Nat → Nat) (w0 : Bool) : Option Nat → Int32
  | none => -2
  | some b => if w0 = true then nI b else nI (c b)
theorem v_232 {x on : Nat} {x2 : Int32} {cost : Nat → Nat} (hS : Sg t σ) (hG : Gm P F tz σ) (hO : mI σ 82 0 = nI on) (hx : x ^^^ on < 2 ^ 31) (hc : ∀ i, i < P → mI σ 67 i = nI (cost i)) (hc9 : ∀ i, i < P → cost i ≤ 99) : Ev 232 34 [.ref 59, .int (nI x), .int x2, .int (-2), .int 0] [] σ (some (.int (chp (fun s => cst cost s P) (decide (x2 = 0)) (bst (isW F tz (x ^^^ on)) (fun s => cst cost s P) (2 ^ P)))), σ) := by
  have hp := p2_le hG.hp
  have hp10 := hG.hp
  refine up_to (fun k => Ev 232 34 [.ref 59, .int (nI x), .int x2, .int (oI (-2) (bst (isW F tz (x ^^^ on)) (fun s => cst cost s P) k)), .int (nI k)] [] σ (some (.int (chp (fun s => cst cost s P) (decide (x2 = 0)) (bst (isW F tz (x ^^^ on)) (fun s => cst cost s P) (2 ^ P)))), σ)) (2 ^ P) ?_ ?_ 0 (Nat.zero_le _)
  · intro k hk ih
    refine b_232_34 hS ?_
    rw [hG.many, hO, nI_xor]
    refine pk_lt k (2 ^ P) (fun _ => ⟨_, _, c_227 hS hG hk hx, hS, w_b (fun h => ?_) (fun h => ?_)⟩) (fun h => absurd hk (by omega)) rfl rfl (by omega) (by omega)
    · rw [bst_no h] at ih
      rw [nI_1]; exact ih
    · rw [nI_1]
      cases hb : bst (isW F tz (x ^^^ on)) (fun s => cst cost s P) k with
      | none =>
        rw [bst_none h hb] at ih
        exact ⟨fun _ => ih, fun z => absurd (by decide) z⟩
      | some b =>
        rw [bst_some h hb] at ih
        have hb1 := (bst_ok hb).1
        have h1 := cst_le (s := k) P hc9
        have h2 := cst_le (s := b) P hc9
        refine ⟨fun z => absurd z (nI_pos (by omega)), fun _ => ⟨_, _, c_228 hS hG.pu hp10 hc (by omega), hS, _, _, c_228 hS hG.pu hp10 hc (by omega), hS, ?_⟩⟩
        refine pk_lt (cst cost k P) (cst cost b P) (fun z => ?_) (fun z => ?_) rfl rfl (by omega) (by omega)
        · rw [if_pos z] at ih; exact ih
        · rw [if_neg (by omega)] at ih; exact ih
  · refine b_232_34 hS ?_
    rw [hG.many]
    refine pk_lt (2 ^ P) (2 ^ P) (fun h => absurd h (by omega)) (fun _ => ?_) rfl rfl (by omega) (by omega)
    cases hb : bst (isW F tz (x ^^^ on)) (fun s => cst cost s P) (2 ^ P) with
    | none => exact ⟨fun _ => rfl, fun z => absurd (by decide) z⟩
    | some b =>
      have hb1 := (bst_ok hb).1
      refine ⟨fun z => absurd z (nI_pos (by omega)), fun _ => ⟨fun g => ?_, fun g => ⟨_, _, c_228 hS hG.pu hp10 hc (by omega), hS, ?_⟩⟩⟩
      · show (some (Value.int (if decide (x2 = 0) = true then nI b else _)), σ) = _
        rw [if_pos (decide_eq_true g)]; rfl
      · show (some (Value.int (if decide (x2 = 0) = true then _ else nI (cst cost b P))), σ) = _
        rw [if_neg (by rw [decide_eq_false g]; decide)]
theorem v_233 {x on : Nat} {x2 : Int32} (hS : Sg t σ) (hG : Gm P F tz σ) (hO : mI σ 82 0 = nI on) (hx : x ^^^ on < 2 ^ 31) : Ev 233 42 [.ref 59, .int (nI x), .int x2, .int (mI σ 59 65), .int 0, .int 0, .int 0] [] σ (some (.int (if fa_cnt (isW F tz (x ^^^ on)) (2 ^ P) = 0 then -2 else if x2 = 0 then nI (alA (isW F tz (x ^^^ on)) F (2 ^ P)) else nI (alN (isW F tz (x ^^^ on)) F (2 ^ P)))), σ) := by
  have hp := p2_le hG.hp
  rw [hG.free]
  refine up_to (fun k => Ev 233 42 [.ref 59, .int (nI x), .int x2, .int (nI (alA (isW F tz (x ^^^ on)) F k)), .int (nI (alO (isW F tz (x ^^^ on)) k)), .int (nI (fa_cnt (isW F tz (x ^^^ on)) k)), .int (nI k)] [] σ (some (.int (if fa_cnt (isW F tz (x ^^^ on)) (2 ^ P) = 0 then -2 else if x2 = 0 then nI (alA (isW F tz (x ^^^ on)) F (2 ^ P)) else nI (alN (isW F tz (x ^^^ on)) F (2 ^ P)))), σ)) (2 ^ P) ?_ ?_ 0 (Nat.zero_le _)
  · intro k hk ih
    refine b_233_42 hS ?_
    rw [hG.many, hO, nI_xor]
    refine pk_lt k (2 ^ P) (fun _ => ⟨_, _, c_227 hS hG hk hx, hS, w_b (fun h => ?_) (fun h => ?_)⟩) (fun h => absurd hk (by omega)) rfl rfl (by omega) (by omega)
    · have e1 : alA (isW F tz (x ^^^ on)) F (k + 1) = alA (isW F tz (x ^^^ on)) F k := if_neg (by rw [h]; decide)
      have e2 : alO (isW F tz (x ^^^ on)) (k + 1) = alO (isW F tz (x ^^^ on)) k := if_neg (by rw [h]; decide)
      rw [e1, e2, fa_cnt_no h] at ih
      rw [nI_1 k]; exact ih
    · have e1 : alA (isW F tz (x ^^^ on)) F (k + 1) = alA (isW F tz (x ^^^ on)) F k &&& k := if_pos h
      have e2 : alO (isW F tz (x ^^^ on)) (k + 1) = alO (isW F tz (x ^^^ on)) k ||| k := if_pos h
      rw [e1, e2, fa_cnt_yes h] at ih
      rw [nI_1 k, nI_1, fa_and, fa_or]; exact ih
  · refine b_233_42 hS ?_
    rw [hG.many, hG.free, nI_andn, ← alN_eq]
    have hcl := fa_cnt_le (isW F tz (x ^^^ on)) (2 ^ P)
    refine pk_lt (2 ^ P) (2 ^ P) (fun h => absurd h (by omega)) (fun _ => w_p (nI_i0 (by omega)) (fun g => ?_) (fun g => ⟨fun y => ?_, fun y => ?_⟩)) rfl rfl (by omega) (by omega)
    · rw [if_pos g]
    · rw [if_neg g, if_pos y]
    · rw [if_neg g, if_neg y]
theorem v_241 {x1 : Int32} (hS : Sg t σ) (hG : Gm P F tz σ) : Ev 241 33 [.ref 59, .int x1, .int 0, .int 1] [] σ (some (.int (oI 0 (bst (fr1 (isW F tz 0)) pcn (2 ^ P)))), σ) := by
  have hp := p2_le hG.hp
  have hp1 : 1 ≤ 2 ^ P := Nat.one_le_two_pow
  have h0 := up_to (fun k => 1 ≤ k → Ev 241 33 [.ref 59, .int x1, .int (oI 0 (bst (fr1 (isW F tz 0)) pcn k)), .int (nI k)] [] σ (some (.int (oI 0 (bst (fr1 (isW F tz 0)) pcn (2 ^ P)))), σ)) (2 ^ P) ?_ ?_ 1 hp1 (Nat.le_refl 1)
  · rw [fr1_1] at h0
    exact h0
  · intro k hk ih h1k
    have ih := ih (by omega)
    refine b_241_33 hS ?_
    rw [hG.many]
    refine pk_lt k (2 ^ P) (fun _ => ⟨_, _, c_227 (x := 0) hS hG hk (by decide), hS, w_b (fun h => ?_) (fun h => ?_)⟩) (fun h => absurd hk (by omega)) rfl rfl (by omega) (by omega)
    · rw [bst_no ((fr1_p h1k).trans h)] at ih
      rw [nI_1]; exact ih
    · rw [nI_1]
      cases hb : bst (fr1 (isW F tz 0)) pcn k with
      | none =>
        rw [bst_none ((fr1_p h1k).trans h) hb] at ih
        exact ⟨fun _ => ih, fun z => absurd rfl z⟩
      | some b =>
        rw [bst_some ((fr1_p h1k).trans h) hb] at ih
        have hb1 := (bst_ok hb).1
        have hb2 : 0 < b := by
          have := (bst_ok hb).2
          unfold fr1 at this
          rw [Bool.and_eq_true] at this
          exact of_decide_eq_true this.1
        refine ⟨fun z => absurd z (nI_ne0 hb2 (by omega)), fun _ => ⟨_, _, c_202 hS (by omega), hS, _, _, c_202 hS (by omega), hS, ?_⟩⟩
        have h1 := pcn_le k
        have h2 := pcn_le b
        refine pk_lt (pcn k) (pcn b) (fun z => ?_) (fun z => ?_) rfl rfl (by omega) (by omega)
        · rw [if_pos z] at ih; exact ih
        · rw [if_neg (by omega)] at ih; exact ih
  · intro _
    refine b_241_33 hS ?_
    rw [hG.many]
    exact pk_lt (2 ^ P) (2 ^ P) (fun h => absurd h (by omega)) (fun _ => rfl) rfl rfl (by omega) (by omega)
theorem dif_neg' {a b : Nat} (ha : a < 2 ^ 30) (hb : b < 2 ^ 30) : (nI a - nI b < 0 ↔ a < b) ∧ (nI a - nI b = 0 ↔ a = b) := by
  have h := pk_sub_toInt ha hb
  constructor
  · rw [fa_lt, h]
    show (a : Int) - b < 0 ↔ _
    omega
  · rw [fa_eq, h]
    show (a : Int) - b = 0 ↔ _
    omega
theorem v_242 {x1 : Int32} {on : Nat} (hS : Sg t σ) (hG : Gm P F tz σ) (hO : mI σ 82 0 = nI on) (ho : on < 2 ^ 14) {z4 : Value} : Ev 242 24 [.ref 59, .int x1, .int 0, .int 1, z4] [] σ (some (.int (if x1 = 0 then nI (pcn (on ^^^ tz (lst (fun s => decide (s &&& F = s)) (dk on tz) (2 ^ P)))) else if x1 = 1 then nI (lst (fun s => decide (s &&& F = s)) (dk on tz) (2 ^ P)) else nI (on ^^^ tz (lst (fun s => decide (s &&& F = s)) (dk on tz) (2 ^ P))))), σ) := by
  have hp := p2_le hG.hp
  have hp1 : 1 ≤ 2 ^ P := Nat.one_le_two_pow
  have hx : ∀ s, on ^^^ tz s < 2 ^ 14 := fun s => Nat.xor_lt_two_pow ho (hG.z s)
  have e1 : lst (fun s => decide (s &&& F = s)) (dk on tz) 1 = 0 := by
    have := lst_lt (w := fun s => decide (s &&& F = s)) (key := dk on tz) (k := 1) Nat.one_pos
    omega
  have h0 := up_to (fun k => 1 ≤ k → ∀ z4, Ev 242 24 [.ref 59, .int x1, .int (nI (lst (fun s => decide (s &&& F = s)) (dk on tz) k)), .int (nI k), z4] [] σ (some (.int (if x1 = 0 then nI (pcn (on ^^^ tz (lst (fun s => decide (s &&& F = s)) (dk on tz) (2 ^ P)))) else if x1 = 1 then nI (lst (fun s => decide (s &&& F = s)) (dk on tz) (2 ^ P)) else nI (on ^^^ tz (lst (fun s => decide (s &&& F = s)) (dk on tz) (2 ^ P))))), σ)) (2 ^ P) ?_ ?_ 1 hp1 (Nat.le_refl 1) z4
  · rw [e1] at h0
    exact h0
  · intro k hk ih h1k z4
    have ih := ih (by omega)
    have hl := lst_lt (w := fun s => decide (s &&& F = s)) (key := dk on tz) (k := k) h1k
    have ihy : ∀ z, k &&& F = k → dk on tz k < dk on tz (lst (fun s => decide (s &&& F = s)) (dk on tz) k) → _ := fun z h g => by
      have e : lst (fun s => decide (s &&& F = s)) (dk on tz) (k + 1) = k := if_pos ⟨decide_eq_true h, g⟩
      have i := ih z
      rw [e, ← nI_1] at i
      exact b_242_106 hS i
    have ihn : ∀ z, ¬ (k &&& F = k ∧ dk on tz k < dk on tz (lst (fun s => decide (s &&& F = s)) (dk on tz) k)) → _ := fun z h => by
      have e : lst (fun s => decide (s &&& F = s)) (dk on tz) (k + 1) = lst (fun s => decide (s &&& F = s)) (dk on tz) k := if_neg (fun y => h ⟨of_decide_eq_true y.1, y.2⟩)
      have i := ih z
      rw [e, ← nI_1] at i
      exact b_242_106 hS i
    generalize lst (fun s => decide (s &&& F = s)) (dk on tz) k = b at hl ihy ihn ⊢
    refine b_242_24 hS ?_
    rw [hG.many, hG.free, hO, nI_clamp (by omega), nI_clamp (by omega), hG.tn k hk, nI_xor]
    have q1 := pcn_le (on ^^^ tz k)
    have q2 := pcn_le (on ^^^ tz b)
    have q3 := pcn_le k
    have q4 := pcn_le b
    have hcb : Cl 202 [.int (mI σ 82 0 ^^^ mI σ 91 b)] σ (some (.int (nI (pcn (on ^^^ tz b)))), σ) := by
      rw [hO, hG.tn b (by omega), nI_xor]
      exact c_202 hS (Nat.lt_trans (hx b) (by decide))
    have hd := dif_neg' (a := pcn (on ^^^ tz k)) (b := pcn (on ^^^ tz b)) (by omega) (by omega)
    refine pk_lt k (2 ^ P) (fun _ => w_p (andn0 (by omega)) (fun h => ⟨inb_nI (by omega) (by decide), _, _, c_202 hS (Nat.lt_trans (hx k) (by decide)), hS, inb_nI (by omega) (by decide), _, _, hcb, hS, w_p hd.1 (fun g => ihy _ h ?_) (fun g => w_p hd.2 (fun g2 => ⟨_, _, c_202 hS (by omega), hS, _, _, c_202 hS (by omega), hS, pk_lt (pcn k) (pcn b) (fun g3 => ihy _ h ?_) (fun g3 => ihn _ ?_) rfl rfl (by omega) (by omega)⟩) (fun g2 => ihn _ ?_))⟩) (fun h => ihn _ (fun y => h y.1))) (fun h => absurd hk (by omega)) rfl rfl (by omega) (by omega)
    · unfold dk; omega
    · unfold dk; omega
    · unfold dk; omega
    · unfold dk; omega
  · intro _ z4
    refine b_242_24 hS ?_
    have hl := lst_lt (w := fun s => decide (s &&& F = s)) (key := dk on tz) (k := 2 ^ P) hp1
    generalize lst (fun s => decide (s &&& F = s)) (dk on tz) (2 ^ P) = b at hl ⊢
    rw [hG.many, hO, nI_clamp (n := b) (by omega), hG.tn b hl, nI_xor]
    refine pk_lt (2 ^ P) (2 ^ P) (fun h => absurd h (by omega)) (fun _ => ⟨inb_nI (by omega) (by decide), fun h => ⟨_, _, c_202 hS (Nat.lt_trans (hx b) (by decide)), hS, ?_⟩, fun h => ⟨fun g => ?_, fun g => ?_⟩⟩) rfl rfl (by omega) (by omega)
    · rw [if_pos h]
    · rw [if_neg h, if_pos g]
    · rw [if_neg h, if_neg g]
end Sets5
