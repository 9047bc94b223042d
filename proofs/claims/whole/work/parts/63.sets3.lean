/-! ===== specs: more questions about sets, the first side ===== -/
section Sets3
variable {t P F : Nat} {tz : Nat → Nat} {σ : Mm}
/-- what a set costs, by the first p pulls -/
def cst (cost : Nat → Nat) (s : Nat) : Nat → Nat
  | 0 => 0
  | p + 1 => cst cost s p + (if s.testBit p = true then cost p else 0)
theorem cst_le {cost : Nat → Nat} {s : Nat} : ∀ p, (∀ i, i < p → cost i ≤ 99) → cst cost s p ≤ 99 * p := by
  intro p h
  induction p with
  | zero => exact Nat.le_refl 0
  | succ p ih =>
    have h1 := ih (fun i hi => h i (by omega))
    have h2 := h p (by omega)
    show cst cost s p + _ ≤ _
    split <;> omega
theorem bitc {n k : Nat} {A B : Prop} (h : n < 2 ^ 31) (hk : k < 32) (hf : n.testBit k = false → A) (ht : n.testBit k = true → B) : ((nI n >>> (nI k &&& 31)) &&& 1 = 0 → A) ∧ (¬ (nI n >>> (nI k &&& 31)) &&& 1 = 0 → B) := by
  rw [nI_bit h hk]
  exact w_b hf ht
theorem c_95 {a s : Nat} {cost : Nat → Nat} (hS : Sg t σ) (ha : a = 3 ∨ a = 15) (hP : mI σ a 1 = nI P) (hp : P ≤ 10) (hc : ∀ i, i < P → mI σ (a + 3) i = nI (cost i)) (hs : s < 2 ^ 31) : Cl 95 [.ref a, .int (nI s)] σ (some (.int (nI (cst cost s P))), σ) := by
  refine ck_95 hS ha (b_95_0 hS ha ?_)
  refine up_to (fun k => Ev 95 4 [.ref a, .int (nI s), .int (nI (cst cost s k)), .int (nI k)] [] σ (some (.int (nI (cst cost s P))), σ)) P ?_ ?_ 0 (Nat.zero_le _)
  · intro k hk ih
    refine b_95_4 hS ha ?_
    rw [hP]
    refine pk_lt k P (fun _ => bitc hs (by omega) (fun h => ?_) (fun h => ⟨inb_nI (by omega) (by decide), ?_⟩)) (fun h => absurd hk (by omega))
    · have e : cst cost s (k + 1) = cst cost s k := by
        show cst cost s k + (if s.testBit k = true then cost k else 0) = _
        rw [h]; rfl
      rw [e] at ih
      rw [nI_1]; exact ih
    · have e : cst cost s (k + 1) = cst cost s k + cost k := by
        show cst cost s k + (if s.testBit k = true then cost k else 0) = _
        rw [if_pos h]
      rw [e] at ih
      rw [nI_1, nI_clamp (by omega), hc k hk, nI_add]; exact ih
  · refine b_95_4 hS ha ?_
    rw [hP]
    exact pk_lt P P (fun h => absurd h (by omega)) (fun _ => rfl)
theorem c_77 {a x : Nat} {cost : Nat → Nat} (hS : Sg t σ) (hG : Gc P F tz σ) (ha : a = 3 ∨ a = 15) (hP : mI σ a 1 = nI P) (hc : ∀ i, i < P → mI σ (a + 3) i = nI (cost i)) (hc9 : ∀ i, i < P → cost i ≤ 99) (hx : x < 2 ^ 31) : Cl 77 [.ref 53, .int (nI x), .ref a] σ (some (.int (oI (-2) (bst (isW F tz x) (fun s => cst cost s P) (2 ^ P)))), σ) := by
  have hp := p2_le hG.hp
  have hp10 := hG.hp
  refine ck_77 hS ha (b_77_0 hS ha ?_)
  refine up_to (fun k => ∀ z6, Ev 77 9 [.ref 53, .int (nI x), .ref a, .int (oI (-2) (bst (isW F tz x) (fun s => cst cost s P) k)), .int (match bst (isW F tz x) (fun s => cst cost s P) k with | none => 0 | some b => nI (cst cost b P)), .int (nI k), z6] [] σ (some (.int (oI (-2) (bst (isW F tz x) (fun s => cst cost s P) (2 ^ P)))), σ)) (2 ^ P) ?_ ?_ 0 (Nat.zero_le _) _
  · intro k hk ih z6
    refine b_77_9 hS ha ?_
    rw [hG.many]
    refine pk_lt k (2 ^ P) (fun _ => ⟨_, _, c_73 hS hG hk hx, hS, w_b (fun h => ?_) (fun h => ⟨_, _, c_95 hS ha hP hp10 hc (by omega), hS, ?_⟩)⟩) (fun h => absurd hk (by omega)) rfl rfl (by omega) (by omega)
    · rw [bst_no h] at ih
      rw [nI_1]; exact ih z6
    · rw [nI_1]
      cases hb : bst (isW F tz x) (fun s => cst cost s P) k with
      | none =>
        rw [bst_none h hb] at ih
        exact ⟨fun _ => ih _, fun z => absurd (by decide) z⟩
      | some b =>
        rw [bst_some h hb] at ih
        have hb1 := (bst_ok hb).1
        have h1 := cst_le (s := k) P hc9
        have h2 := cst_le (s := b) P hc9
        refine ⟨fun z => absurd z (nI_pos (by omega)), fun _ => pk_lt (cst cost k P) (cst cost b P) (fun z => ?_) (fun z => ?_) rfl rfl (by omega) (by omega)⟩
        · rw [if_pos z] at ih; exact ih _
        · rw [if_neg (by omega)] at ih; exact ih _
  · intro z6
    refine b_77_9 hS ha ?_
    rw [hG.many]
    exact pk_lt (2 ^ P) (2 ^ P) (fun h => absurd h (by omega)) (fun _ => rfl) rfl rfl (by omega) (by omega)
/-- those from 1 on -/
def fr1 (w : Nat → Bool) (s : Nat) : Bool := decide (0 < s) && w s
theorem fr1_1 {w : Nat → Bool} {key : Nat → Nat} : bst (fr1 w) key 1 = none := bst_no rfl
theorem fr1_p {w : Nat → Bool} {k : Nat} (h : 1 ≤ k) : fr1 w k = w k := by
  unfold fr1
  rw [decide_eq_true (show 0 < k from h), Bool.true_and]
theorem c_76 (hS : Sg t σ) (hG : Gc P F tz σ) : Cl 76 [.ref 53] σ (some (.int (oI 0 (bst (fr1 (isW F tz 0)) pcn (2 ^ P)))), σ) := by
  have hp := p2_le hG.hp
  have hp1 : 1 ≤ 2 ^ P := Nat.one_le_two_pow
  refine ck_76 hS (b_76_0 hS ?_)
  have h0 := up_to (fun k => 1 ≤ k → Ev 76 4 [.ref 53, .int (oI 0 (bst (fr1 (isW F tz 0)) pcn k)), .int (nI k)] [] σ (some (.int (oI 0 (bst (fr1 (isW F tz 0)) pcn (2 ^ P)))), σ)) (2 ^ P) ?_ ?_ 1 hp1 (Nat.le_refl 1)
  · rw [fr1_1] at h0
    exact h0
  · intro k hk ih h1k
    have ih := ih (by omega)
    refine b_76_4 hS ?_
    rw [hG.many]
    refine pk_lt k (2 ^ P) (fun _ => ⟨_, _, c_73 (x := 0) hS hG hk (by decide), hS, w_b (fun h => ?_) (fun h => ?_)⟩) (fun h => absurd hk (by omega)) rfl rfl (by omega) (by omega)
    · rw [bst_no ((fr1_p h1k).trans h)] at ih
      rw [nI_1]; exact ih
    · rw [nI_1]
      cases hb : bst (fr1 (isW F tz 0)) pcn k with
      | none =>
        rw [bst_none ((fr1_p h1k).trans h) hb] at ih
        exact ⟨fun _ => ih, fun z => absurd rfl z⟩
      | some b =>
        rw [bst_some ((fr1_p h1k).trans h) hb] at ih
        have hb1 := (bst_ok hb).1
        have hb2 : 0 < b := by
          have := (bst_ok hb).2
          unfold fr1 at this
          rw [Bool.and_eq_true] at this
          exact of_decide_eq_true this.1
        refine ⟨fun z => absurd z (nI_ne0 hb2 (by omega)), fun _ => ⟨_, _, c_276 hS (by omega), hS, _, _, c_276 hS (by omega), hS, ?_⟩⟩
        have h1 := pcn_le k
        have h2 := pcn_le b
        refine pk_lt (pcn k) (pcn b) (fun z => ?_) (fun z => ?_) rfl rfl (by omega) (by omega)
        · rw [if_pos z] at ih; exact ih
        · rw [if_neg (by omega)] at ih; exact ih
  · intro _
    refine b_76_4 hS ?_
    rw [hG.many]
    exact pk_lt (2 ^ P) (2 ^ P) (fun h => absurd h (by omega)) (fun _ => rfl) rfl rfl (by omega) (by omega)
/-- sets of B that leave just so many ON -/
def isE (B : Nat) (tz : Nat → Nat) (on m s : Nat) : Bool := decide (s &&& B = s) && decide (pcn (on ^^^ tz s) = m)
theorem isE_t {B on m s : Nat} (h : s &&& B = s) (g : pcn (on ^^^ tz s) = m) : isE B tz on m s = true := by
  unfold isE
  rw [decide_eq_true h, decide_eq_true g]; rfl
theorem isE_f {B on m s : Nat} (h : ¬ (s &&& B = s ∧ pcn (on ^^^ tz s) = m)) : isE B tz on m s = false := by
  unfold isE
  rw [← Bool.decide_and]
  exact decide_eq_false h
theorem c_82 {on m B : Nat} (hS : Sg t σ) (hG : Gc P F tz σ) (ho : on < 2 ^ 14) (hm : m < 2 ^ 31) : Cl 82 [.ref 53, .int (nI on), .int (nI m), .int (nI B)] σ (some (.int (nI (fa_cnt (isE B tz on m) (2 ^ P)))), σ) := by
  have hp := p2_le hG.hp
  refine ck_82 hS (b_82_0 hS ?_)
  refine up_to (fun k => Ev 82 6 [.ref 53, .int (nI on), .int (nI m), .int (nI B), .int (nI (fa_cnt (isE B tz on m) k)), .int (nI k)] [] σ (some (.int (nI (fa_cnt (isE B tz on m) (2 ^ P)))), σ)) (2 ^ P) ?_ ?_ 0 (Nat.zero_le _)
  · intro k hk ih
    refine b_82_6 hS ?_
    rw [hG.many]
    refine pk_lt k (2 ^ P) (fun _ => ?_) (fun h => absurd hk (by omega)) rfl rfl (by omega) (by omega)
    rw [nI_clamp (by omega), hG.tn k hk, nI_xor, nI_1 k]
    have h1 := pcn_le (on ^^^ tz k)
    refine w_p (andn0 (by omega)) (fun h => ⟨inb_nI (by omega) (by decide), _, _, c_276 hS (Nat.xor_lt_two_pow ho (hG.z k)), hS, w_p (nI_eq (by omega) hm) (fun g => ?_) (fun g => ?_)⟩) (fun h => ?_)
    · rw [fa_cnt_yes (isE_t h g)] at ih
      rw [nI_1]; exact ih
    · rw [fa_cnt_no (isE_f (fun z => g z.2))] at ih; exact ih
    · rw [fa_cnt_no (isE_f (fun z => h z.1))] at ih; exact ih
  · refine b_82_6 hS ?_
    rw [hG.many]
    exact pk_lt (2 ^ P) (2 ^ P) (fun h => absurd h (by omega)) (fun _ => rfl) rfl rfl (by omega) (by omega)
theorem c_72 {s : Nat} (hS : Sg t σ) (hG : Gc P F tz σ) (hs : s < 2 ^ P) : Cl 72 [.ref 53, .int (nI s)] σ (some (.int (nI (tz s))), σ) := by
  have hp := p2_le hG.hp
  refine ck_72 hS (b_72_0 hS ?_)
  rw [nI_clamp (by omega), hG.tn s hs]
  exact w_ok hG.many (by omega) hs ⟨inb_nI (by omega) (by decide), rfl⟩
end Sets3
