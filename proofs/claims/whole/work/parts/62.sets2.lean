/-! ===== specs: questions about sets, the first side ===== -/
theorem xor0 {a b : Nat} : a ^^^ b = 0 ↔ a = b := by
  constructor
  · intro h
    refine Nat.eq_of_testBit_eq (fun i => ?_)
    have h1 : (a ^^^ b).testBit i = false := by rw [h]; exact Nat.zero_testBit i
    rw [Nat.testBit_xor] at h1
    revert h1
    cases a.testBit i <;> cases b.testBit i <;> decide
  · intro h
    rw [h]
    exact Nat.xor_self b
theorem andn0 {a b : Nat} (ha : a < 2 ^ 31) : nI a &&& (nI b ^^^ (-1)) = 0 ↔ a &&& b = a := by
  have hl : a ^^^ (a &&& b) < 2 ^ 31 := Nat.xor_lt_two_pow ha (Nat.lt_of_le_of_lt Nat.and_le_left ha)
  rw [nI_andn, nI_i0 hl, xor0]
  exact ⟨fun h => h.symm, fun h => h.symm⟩
theorem w_b {b : Bool} {A B : Prop} (hf : b = false → A) (ht : b = true → B) : ((if b = true then (1 : Int32) else 0) = 0 → A) ∧ (¬ (if b = true then (1 : Int32) else 0) = 0 → B) := by
  cases b with
  | true => exact ⟨fun h => absurd h (by decide), fun _ => ht rfl⟩
  | false => exact ⟨fun _ => hf rfl, fun h => absurd rfl h⟩
theorem w_p {c d : Prop} {A B : Prop} (hcd : c ↔ d) (ht : d → A) (hf : ¬ d → B) : (c → A) ∧ (¬ c → B) := ⟨fun h => ht (hcd.mp h), fun h => hf (fun z => h (hcd.mpr z))⟩
def isW (F : Nat) (tz : Nat → Nat) (x s : Nat) : Bool := decide (s &&& F = s) && decide (tz s = x)
def bst (w : Nat → Bool) (key : Nat → Nat) : Nat → Option Nat
  | 0 => none
  | k + 1 => if w k = true then (match bst w key k with
    | none => some k
    | some b => if key k < key b then some k else some b) else bst w key k
theorem bst_no {w : Nat → Bool} {key : Nat → Nat} {k : Nat} (h : w k = false) : bst w key (k + 1) = bst w key k := by
  show (if w k = true then _ else _) = _
  rw [if_neg (by rw [h]; decide)]
theorem bst_none {w : Nat → Bool} {key : Nat → Nat} {k : Nat} (h : w k = true) (hb : bst w key k = none) : bst w key (k + 1) = some k := by
  show (if w k = true then _ else _) = _
  rw [if_pos h, hb]
theorem bst_some {w : Nat → Bool} {key : Nat → Nat} {k b : Nat} (h : w k = true) (hb : bst w key k = some b) : bst w key (k + 1) = if key k < key b then some k else some b := by
  show (if w k = true then _ else _) = _
  rw [if_pos h, hb]
theorem bst_ok {w : Nat → Bool} {key : Nat → Nat} : ∀ {k b : Nat}, bst w key k = some b → b < k ∧ w b = true := by
  intro k
  induction k with
  | zero => intro b h; cases h
  | succ k ih =>
    intro b h
    cases hw : w k with
    | false => rw [bst_no hw] at h; exact ⟨by have := (ih h).1; omega, (ih h).2⟩
    | true =>
      cases hb : bst w key k with
      | none => rw [bst_none hw hb] at h; cases h; exact ⟨Nat.lt_succ_self k, hw⟩
      | some c =>
        rw [bst_some hw hb] at h
        split at h
        · cases h; exact ⟨Nat.lt_succ_self k, hw⟩
        · cases h; exact ⟨by have := (ih hb).1; omega, (ih hb).2⟩
def oI (z : Int32) : Option Nat → Int32
  | none => z
  | some k => nI k
/-- all that are common to those that are so -/
def alA (w : Nat → Bool) (a : Nat) : Nat → Nat
  | 0 => a
  | k + 1 => if w k = true then alA w a k &&& k else alA w a k
/-- what is left of a without those that are so -/
def alN (w : Nat → Bool) (a : Nat) : Nat → Nat
  | 0 => a
  | k + 1 => if w k = true then alN w a k ^^^ (alN w a k &&& k) else alN w a k
/-- the least by a key, from 0 on -/
def lst (w : Nat → Bool) (key : Nat → Nat) : Nat → Nat
  | 0 => 0
  | k + 1 => if w k = true ∧ key k < key (lst w key k) then k else lst w key k
theorem lst_le (w : Nat → Bool) (key : Nat → Nat) : ∀ k, lst w key k ≤ k := by
  intro k
  induction k with
  | zero => exact Nat.le_refl 0
  | succ k ih =>
    show (if _ then _ else _) ≤ _
    split <;> omega
theorem lst_lt {w : Nat → Bool} {key : Nat → Nat} : ∀ {k : Nat}, 0 < k → lst w key k < k := by
  intro k hk
  induction k with
  | zero => omega
  | succ k ih =>
    show (if _ then _ else _) < _
    split
    · omega
    · rcases Nat.eq_zero_or_pos k with e | e
      · subst e; exact Nat.one_pos
      · have := ih e; omega
section Sets2
variable {t P F : Nat} {tz : Nat → Nat} {σ : Mm}
def Gc (P F : Nat) (tz : Nat → Nat) (σ : Mm) : Prop := (P ≤ 10 ∧ F < 2 ^ 10 ∧ ∀ s, tz s < 2 ^ 14) ∧ mI σ 53 0 = nI (2 ^ P) ∧ mI σ 53 2 = nI F ∧ ∀ s, s < 2 ^ P → mI σ 54 s = nI (tz s)
theorem Gc.hp {P F : Nat} {tz : Nat → Nat} {σ : Mm} (h : Gc P F tz σ) : P ≤ 10 := h.1.1
theorem Gc.hf {P F : Nat} {tz : Nat → Nat} {σ : Mm} (h : Gc P F tz σ) : F < 2 ^ 10 := h.1.2.1
theorem Gc.z {P F : Nat} {tz : Nat → Nat} {σ : Mm} (h : Gc P F tz σ) : ∀ s, tz s < 2 ^ 14 := h.1.2.2
theorem Gc.many {P F : Nat} {tz : Nat → Nat} {σ : Mm} (h : Gc P F tz σ) : mI σ 53 0 = nI (2 ^ P) := h.2.1
theorem Gc.free {P F : Nat} {tz : Nat → Nat} {σ : Mm} (h : Gc P F tz σ) : mI σ 53 2 = nI F := h.2.2.1
theorem Gc.tn {P F : Nat} {tz : Nat → Nat} {σ : Mm} (h : Gc P F tz σ) : ∀ s, s < 2 ^ P → mI σ 54 s = nI (tz s) := h.2.2.2
theorem p2_le {P : Nat} (h : P ≤ 10) : 2 ^ P ≤ 1024 := Nat.pow_le_pow_right (n := 2) (by decide) h
theorem c_73 {s x : Nat} (hS : Sg t σ) (hG : Gc P F tz σ) (hs : s < 2 ^ P) (hx : x < 2 ^ 31) : Cl 73 [.ref 53, .int (nI s), .int (nI x)] σ (some (.int (if isW F tz x s = true then 1 else 0)), σ) := by
  have hp := p2_le hG.hp
  have hz := hG.z s
  refine ck_73 hS (b_73_0 hS ?_)
  rw [hG.free, nI_clamp (by omega), hG.tn s hs]
  refine w_p (andn0 (by omega)) (fun h => ⟨inb_nI (by omega) (by decide), w_p (nI_eq (by omega) hx) (fun g => ?_) (fun g => ?_)⟩) (fun h => ?_)
  · rw [if_pos]
    unfold isW
    rw [decide_eq_true h, decide_eq_true g]
    rfl
  · rw [if_neg]
    unfold isW
    rw [decide_eq_false g, Bool.and_false]
    decide
  · rw [if_neg]
    unfold isW
    rw [decide_eq_false h, Bool.false_and]
    decide
theorem c_74 {x : Nat} (hS : Sg t σ) (hG : Gc P F tz σ) (hx : x < 2 ^ 31) : Cl 74 [.ref 53, .int (nI x)] σ (some (.int (nI (fa_cnt (isW F tz x) (2 ^ P)))), σ) := by
  have hp := p2_le hG.hp
  refine ck_74 hS (b_74_0 hS ?_)
  refine up_to (fun k => Ev 74 4 [.ref 53, .int (nI x), .int (nI (fa_cnt (isW F tz x) k)), .int (nI k)] [] σ (some (.int (nI (fa_cnt (isW F tz x) (2 ^ P)))), σ)) (2 ^ P) ?_ ?_ 0 (Nat.zero_le _)
  · intro k hk ih
    refine b_74_4 hS ?_
    rw [hG.many]
    refine pk_lt k (2 ^ P) (fun _ => ⟨_, _, c_73 hS hG hk hx, hS, w_b (fun h => ?_) (fun h => ?_)⟩) (fun h => absurd hk (by omega)) rfl rfl (by omega) (by omega)
    · rw [fa_cnt_no h] at ih
      rw [nI_1]; exact ih
    · rw [fa_cnt_yes h] at ih
      rw [nI_1, nI_1]; exact ih
  · refine b_74_4 hS ?_
    rw [hG.many]
    exact pk_lt (2 ^ P) (2 ^ P) (fun h => absurd h (by omega)) (fun _ => rfl) rfl rfl (by omega) (by omega)
theorem c_75 {x : Nat} (hS : Sg t σ) (hG : Gc P F tz σ) (hx : x < 2 ^ 31) : Cl 75 [.ref 53, .int (nI x)] σ (some (.int (oI (-2) (bst (isW F tz x) pcn (2 ^ P)))), σ) := by
  have hp := p2_le hG.hp
  refine ck_75 hS (b_75_0 hS ?_)
  refine up_to (fun k => Ev 75 5 [.ref 53, .int (nI x), .int (oI (-2) (bst (isW F tz x) pcn k)), .int (nI k)] [] σ (some (.int (oI (-2) (bst (isW F tz x) pcn (2 ^ P)))), σ)) (2 ^ P) ?_ ?_ 0 (Nat.zero_le _)
  · intro k hk ih
    refine b_75_5 hS ?_
    rw [hG.many]
    refine pk_lt k (2 ^ P) (fun _ => ⟨_, _, c_73 hS hG hk hx, hS, w_b (fun h => ?_) (fun h => ?_)⟩) (fun h => absurd hk (by omega)) rfl rfl (by omega) (by omega)
    · rw [bst_no h] at ih
      rw [nI_1]; exact ih
    · rw [nI_1]
      cases hb : bst (isW F tz x) pcn k with
      | none =>
        rw [bst_none h hb] at ih
        exact ⟨fun _ => ih, fun z => absurd (by decide) z⟩
      | some b =>
        rw [bst_some h hb] at ih
        have hb1 := (bst_ok hb).1
        refine ⟨fun z => absurd z (nI_pos (by omega)), fun _ => ⟨_, _, c_276 hS (by omega), hS, _, _, c_276 hS (by omega), hS, ?_⟩⟩
        have h1 := pcn_le k
        have h2 := pcn_le b
        refine pk_lt (pcn k) (pcn b) (fun z => ?_) (fun z => ?_) rfl rfl (by omega) (by omega)
        · rw [if_pos z] at ih; exact ih
        · rw [if_neg (by omega)] at ih; exact ih
  · refine b_75_5 hS ?_
    rw [hG.many]
    exact pk_lt (2 ^ P) (2 ^ P) (fun h => absurd h (by omega)) (fun _ => rfl) rfl rfl (by omega) (by omega)
theorem c_78 {x : Nat} (hS : Sg t σ) (hG : Gc P F tz σ) (hx : x < 2 ^ 31) : Cl 78 [.ref 53, .int (nI x)] σ (some (.int (nI (alA (isW F tz x) F (2 ^ P)))), σ) := by
  have hp := p2_le hG.hp
  refine ck_78 hS (b_78_0 hS ?_)
  rw [hG.free]
  refine up_to (fun k => Ev 78 7 [.ref 53, .int (nI x), .int (nI (alA (isW F tz x) F k)), .int (nI k)] [] σ (some (.int (nI (alA (isW F tz x) F (2 ^ P)))), σ)) (2 ^ P) ?_ ?_ 0 (Nat.zero_le _)
  · intro k hk ih
    refine b_78_7 hS ?_
    rw [hG.many]
    refine pk_lt k (2 ^ P) (fun _ => ⟨_, _, c_73 hS hG hk hx, hS, w_b (fun h => ?_) (fun h => ?_)⟩) (fun h => absurd hk (by omega)) rfl rfl (by omega) (by omega)
    · have e : alA (isW F tz x) F (k + 1) = alA (isW F tz x) F k := if_neg (by rw [h]; decide)
      rw [e] at ih
      rw [nI_1]; exact ih
    · have e : alA (isW F tz x) F (k + 1) = alA (isW F tz x) F k &&& k := if_pos h
      rw [e] at ih
      rw [nI_1, fa_and]; exact ih
  · refine b_78_7 hS ?_
    rw [hG.many]
    exact pk_lt (2 ^ P) (2 ^ P) (fun h => absurd h (by omega)) (fun _ => rfl) rfl rfl (by omega) (by omega)
theorem c_79 {x : Nat} (hS : Sg t σ) (hG : Gc P F tz σ) (hx : x < 2 ^ 31) : Cl 79 [.ref 53, .int (nI x)] σ (some (.int (nI (alN (isW F tz x) F (2 ^ P)))), σ) := by
  have hp := p2_le hG.hp
  refine ck_79 hS (b_79_0 hS ?_)
  rw [hG.free]
  refine up_to (fun k => Ev 79 7 [.ref 53, .int (nI x), .int (nI (alN (isW F tz x) F k)), .int (nI k)] [] σ (some (.int (nI (alN (isW F tz x) F (2 ^ P)))), σ)) (2 ^ P) ?_ ?_ 0 (Nat.zero_le _)
  · intro k hk ih
    refine b_79_7 hS ?_
    rw [hG.many]
    refine pk_lt k (2 ^ P) (fun _ => ⟨_, _, c_73 hS hG hk hx, hS, w_b (fun h => ?_) (fun h => ?_)⟩) (fun h => absurd hk (by omega)) rfl rfl (by omega) (by omega)
    · have e : alN (isW F tz x) F (k + 1) = alN (isW F tz x) F k := if_neg (by rw [h]; decide)
      rw [e] at ih
      rw [nI_1]; exact ih
    · have e : alN (isW F tz x) F (k + 1) = alN (isW F tz x) F k ^^^ (alN (isW F tz x) F k &&& k) := if_pos h
      rw [e] at ih
      rw [nI_1, nI_andn]; exact ih
  · refine b_79_7 hS ?_
    rw [hG.many]
    exact pk_lt (2 ^ P) (2 ^ P) (fun h => absurd h (by omega)) (fun _ => rfl) rfl rfl (by omega) (by omega)
def dk (on : Nat) (tz : Nat → Nat) (s : Nat) : Nat := pcn (on ^^^ tz s) * 16 + pcn s
theorem dk_lt {on s : Nat} : dk on tz s < 2 ^ 10 := by
  have h1 := pcn_le (on ^^^ tz s)
  have h2 := pcn_le s
  unfold dk
  omega
theorem c_81 {s on : Nat} (hS : Sg t σ) (hG : Gc P F tz σ) (hs : s < 2 ^ P) (ho : on < 2 ^ 14) : Cl 81 [.ref 53, .int (nI s), .int (nI on)] σ (some (.int (nI (dk on tz s))), σ) := by
  have hp := p2_le hG.hp
  refine ck_81 hS (b_81_0 hS ⟨inb_nI (by omega) (by decide), ?_⟩)
  rw [nI_clamp (by omega), hG.tn s hs, nI_xor]
  refine ⟨_, _, c_276 hS (Nat.xor_lt_two_pow ho (hG.z s)), hS, _, _, c_276 hS (by omega), hS, ?_⟩
  show _ = (some (Value.int (nI (pcn (on ^^^ tz s)) * nI 16 + nI (pcn s))), σ)
  rw [pk_mul, nI_add]
  rfl
theorem c_80 {on : Nat} (hS : Sg t σ) (hG : Gc P F tz σ) (ho : on < 2 ^ 14) : Cl 80 [.ref 53, .int (nI on)] σ (some (.int (nI (lst (fun s => decide (s &&& F = s)) (dk on tz) (2 ^ P)))), σ) := by
  have hp := p2_le hG.hp
  have hp1 : 1 ≤ 2 ^ P := Nat.one_le_two_pow
  refine ck_80 hS (b_80_0 hS ?_)
  have e1 : lst (fun s => decide (s &&& F = s)) (dk on tz) 1 = 0 := by
    have := lst_lt (w := fun s => decide (s &&& F = s)) (key := dk on tz) (k := 1) Nat.one_pos
    omega
  have h0 := up_to (fun k => 1 ≤ k → Ev 80 4 [.ref 53, .int (nI on), .int (nI (lst (fun s => decide (s &&& F = s)) (dk on tz) k)), .int (nI k)] [] σ (some (.int (nI (lst (fun s => decide (s &&& F = s)) (dk on tz) (2 ^ P)))), σ)) (2 ^ P) ?_ ?_ 1 hp1 (Nat.le_refl 1)
  · rw [e1] at h0
    exact h0
  · intro k hk ih h1k
    have ih := ih (by omega)
    refine b_80_4 hS ?_
    rw [hG.many, hG.free]
    have hl := lst_lt (w := fun s => decide (s &&& F = s)) (key := dk on tz) (k := k) h1k
    refine pk_lt k (2 ^ P) (fun _ => w_p (andn0 (by omega)) (fun h => ⟨_, _, c_81 hS hG hk ho, hS, _, _, c_81 hS hG (by omega) ho, hS, ?_⟩) (fun h => ?_)) (fun h => absurd hk (by omega)) rfl rfl (by omega) (by omega)
    · rw [nI_1]
      refine pk_lt (dk on tz k) (dk on tz (lst (fun s => decide (s &&& F = s)) (dk on tz) k)) (fun z => ?_) (fun z => ?_) rfl rfl (Nat.lt_trans dk_lt (by decide)) (Nat.lt_trans dk_lt (by decide))
      · have e : lst (fun s => decide (s &&& F = s)) (dk on tz) (k + 1) = k := if_pos ⟨decide_eq_true h, z⟩
        rw [e] at ih; exact ih
      · have e : lst (fun s => decide (s &&& F = s)) (dk on tz) (k + 1) = lst (fun s => decide (s &&& F = s)) (dk on tz) k := if_neg (fun y => absurd y.2 (by omega))
        rw [e] at ih; exact ih
    · have e : lst (fun s => decide (s &&& F = s)) (dk on tz) (k + 1) = lst (fun s => decide (s &&& F = s)) (dk on tz) k := if_neg (fun y => h (of_decide_eq_true y.1))
      rw [e] at ih
      rw [nI_1]; exact ih
  · intro _
    refine b_80_4 hS ?_
    rw [hG.many]
    exact pk_lt (2 ^ P) (2 ^ P) (fun h => absurd h (by omega)) (fun _ => rfl) rfl rfl (by omega) (by omega)
end Sets2
