/-! ===== specs: the game, the other side ===== -/
theorem bo_att {F on s : Nat} {tz a : Nat → Nat} : ∀ n b, bo F on tz a s n = some b → ∃ p, p < n ∧ F.testBit p = true ∧ s.testBit p = false ∧ gm on tz a (s ||| 2 ^ p) = b := by
  intro n
  induction n with
  | zero => intro b h; cases h
  | succ n ih =>
    intro b h
    cases hc : (F.testBit n && !(s.testBit n)) with
    | false =>
      rw [bo_no hc] at h
      obtain ⟨p, h1, h2⟩ := ih b h
      exact ⟨p, by omega, h2⟩
    | true =>
      rw [bo_yes hc] at h
      have h := Option.some.inj h
      have hc2 := hc
      rw [Bool.and_eq_true] at hc2
      have hsn : s.testBit n = false := by
        revert hc2
        cases s.testBit n <;> simp
      rcases Nat.lt_or_ge (gm on tz a (s ||| 2 ^ n)) ((bo F on tz a s n).getD 0) with g | g
      · rw [Nat.max_eq_left (Nat.le_of_lt g)] at h
        cases hb : bo F on tz a s n with
        | none => rw [hb] at g; exact absurd g (Nat.not_lt_zero _)
        | some c =>
          rw [hb] at h
          have h : c = b := h
          obtain ⟨p, h1, h2⟩ := ih c hb
          exact ⟨p, by omega, h ▸ h2⟩
      · rw [Nat.max_eq_right g] at h
        exact ⟨n, Nat.lt_succ_self n, hc2.1, hsn, h⟩
theorem bo_ex {F on s p : Nat} {tz a : Nat → Nat} (hF : F.testBit p = true) (hs : s.testBit p = false) : ∀ n, p < n → bo F on tz a s n ≠ none := by
  intro n
  induction n with
  | zero => intro h; omega
  | succ n ih =>
    intro h
    cases hc : (F.testBit n && !(s.testBit n)) with
    | true => rw [bo_yes hc]; exact fun z => by cases z
    | false =>
      rw [bo_no hc]
      by_cases e : p = n
      · subst e; rw [hF, hs] at hc; cases hc
      · exact ih (by omega)
theorem some_bit {F : Nat} (h : F ≠ 0) : ∃ p, F.testBit p = true := Nat.exists_testBit_of_ne_zero h
section Game2
variable {t P F : Nat} {tz : Nat → Nat} {σ : Mm}
/-- the first pull that leads to the end q -/
def fpl (F on : Nat) (tz a : Nat → Nat) (q p : Nat) : Bool := F.testBit p && decide (gm on tz a (2 ^ p) = q)
theorem gm_cg {on s : Nat} {a b : Nat → Nat} (h : a s = b s) : gm on tz a s = gm on tz b s := by
  unfold gm
  rw [h]
theorem ar_0 {on : Nat} {P : Nat} : ar F on tz (2 ^ P) (2 ^ P) 0 = bv F on tz (ar F on tz (2 ^ P) (2 ^ P - 1)) 0 10 ∧ ∀ s, s ≠ 0 → ar F on tz (2 ^ P) (2 ^ P) s = ar F on tz (2 ^ P) (2 ^ P - 1) s := by
  have h1 : 1 ≤ 2 ^ P := Nat.one_le_two_pow
  have e : ∀ s, ar F on tz (2 ^ P) (2 ^ P - 1 + 1) s = if s = 2 ^ P - 1 - (2 ^ P - 1) then bv F on tz (ar F on tz (2 ^ P) (2 ^ P - 1)) s 10 else ar F on tz (2 ^ P) (2 ^ P - 1) s := fun s => rfl
  rw [Nat.sub_add_cancel h1, Nat.sub_self] at e
  refine ⟨?_, fun s hs => ?_⟩
  · rw [e 0, if_pos rfl]
  · rw [e s, if_neg hs]
theorem fpl_ex {on : Nat} (hP : P ≤ 10) (hFP : F < 2 ^ P) (h0 : F ≠ 0) : ∃ p, p < P ∧ fpl F on tz (ar F on tz (2 ^ P) (2 ^ P)) (ar F on tz (2 ^ P) (2 ^ P) 0) p = true := by
  have bitP : ∀ p, F.testBit p = true → p < P := by
    intro p hp
    rcases Nat.lt_or_ge p P with g | g
    · exact g
    · rw [Nat.testBit_lt_two_pow (Nat.lt_of_lt_of_le hFP (Nat.pow_le_pow_right (by decide) g))] at hp
      cases hp
  obtain ⟨h1, h2⟩ := ar_0 (F := F) (tz := tz) (on := on) (P := P)
  obtain ⟨p0, hp0⟩ := some_bit h0
  cases hb : bo F on tz (ar F on tz (2 ^ P) (2 ^ P - 1)) 0 P with
  | none => exact absurd hb (bo_ex hp0 (Nat.zero_testBit _) P (bitP p0 hp0))
  | some b =>
    obtain ⟨p, hp, hF, _, hg⟩ := bo_att P b hb
    refine ⟨p, hp, ?_⟩
    unfold fpl
    rw [hF, Bool.true_and]
    refine decide_eq_true ?_
    rw [Nat.zero_or] at hg
    rw [gm_cg (h2 (2 ^ p) (Nat.pos_iff_ne_zero.mp (Nat.two_pow_pos p))), hg, h1]
    unfold bv
    rw [bo_hi hFP 10 hP, hb]; rfl
theorem c_86 {on q : Nat} {a : Nat → Nat} (hS : Sg t σ) (hG : Gc P F tz σ) (hFP : F < 2 ^ P) (ho : on < 2 ^ 31) (hq : q ≤ 2) (ha : ∀ s, s < 2 ^ P → s &&& F = s → mI σ 55 s = nI (a s)) (ha2 : ∀ s, a s ≤ 2) (hx : ∃ p, p < P ∧ fpl F on tz a q p = true) : Cl 86 [.ref 53, .int (nI q), .int (nI on)] σ (some (.int (nI (fa_first (fpl F on tz a q) P))), σ) := by
  have hp := p2_le hG.hp
  have hP := hG.hp
  have hlt : fa_first (fpl F on tz a q) P < P := by
    obtain ⟨p, h1, h2⟩ := hx
    rcases Nat.lt_or_ge (fa_first (fpl F on tz a q) P) P with g | g
    · exact g
    · have h3 := fa_first_no (fpl F on tz a q) P p (by omega)
      rw [h2] at h3; cases h3
  have hyes := fa_first_yes _ _ hlt
  have hno := fa_first_no (fpl F on tz a q) P
  generalize fa_first (fpl F on tz a q) P = f at hlt hyes hno
  have sg : ∀ p, F.testBit p = true → p < P → Cl 85 [.ref 53, .int ((1 : Int32) <<< (nI p &&& 31)), .int (nI on)] σ (some (.int (nI (gm on tz a (2 ^ p)))), σ) := by
    intro p hpF hpP
    rw [nI_one (by omega)]
    refine c_85 hS hG (Nat.pow_lt_pow_right (by decide) hpP) ho (ha _ (Nat.pow_lt_pow_right (by decide) hpP) ?_) (ha2 _)
    have h1 := or_sub (s := 0) (p := p) (F := F) (Nat.zero_and _) hpF
    rw [Nat.zero_or] at h1
    exact h1
  have bit : ∀ p, p < 31 → (nI F &&& ((1 : Int32) <<< (nI p &&& 31)) = 0 ↔ F.testBit p = false) := by
    intro p hp
    rw [nI_one (by omega), fa_bit hp]
  refine ck_86 hS (b_86_0 hS ?_)
  refine up_to (fun k => ∀ z4, Ev 86 2 [.ref 53, .int (nI q), .int (nI on), .int (nI k), z4] [] σ (some (.int (nI f)), σ)) f ?_ ?_ 0 (Nat.zero_le _) _
  · intro k hk ih z4
    refine b_86_2 hS ?_
    rw [hG.free, nI_1]
    refine pk_lt k 10 (fun _ => w_p (bit k (by omega)) (fun _ => ih _) (fun h => ⟨_, _, sg k (by cases hc : F.testBit k with | true => rfl | false => exact absurd hc h) (by omega), hS, ?_⟩)) (fun z => absurd hk (by omega))
    have hg := gm_le (on := on) (tz := tz) (a := a) (s := 2 ^ k)
    refine w_p (nI_eq (by omega) (by omega)) (fun z => ?_) (fun _ => ih _)
    have h1 := hno k hk
    unfold fpl at h1
    rw [decide_eq_true z, Bool.and_true] at h1
    exact absurd h1 h
  · intro z4
    unfold fpl at hyes
    rw [Bool.and_eq_true] at hyes
    refine b_86_2 hS ?_
    rw [hG.free]
    have hg := gm_le (on := on) (tz := tz) (a := a) (s := 2 ^ f)
    exact pk_lt f 10 (fun _ => w_p (bit f (by omega)) (fun h => by rw [hyes.1] at h; cases h) (fun h => ⟨_, _, sg f hyes.1 hlt, hS, w_p (nI_eq (by omega) (by omega)) (fun _ => rfl) (fun z => absurd (of_decide_eq_true hyes.2) z)⟩)) (fun z => absurd hlt (by omega))
/-- as the other side writes it -/
def mv (b : Nat) : Int32 := nI b - 1
theorem mv_neg : ∀ a, a ≤ 2 → -(mv a) = mv (2 - a) := by
  intro a h
  have : ∀ a, a < 3 → -(mv a) = mv (2 - a) := by decide
  exact this a (by omega)
theorem mv_lt {a b : Nat} (ha : a ≤ 2) (hb : b ≤ 2) : mv a < mv b ↔ a < b := by
  have : ∀ a, a < 3 → ∀ b, b < 3 → (mv a < mv b ↔ a < b) := by decide
  exact this a (by omega) b (by omega)
theorem mv_eq {a b : Nat} (ha : a ≤ 2) (hb : b ≤ 2) : mv a = mv b ↔ a = b := by
  have : ∀ a, a < 3 → ∀ b, b < 3 → (mv a = mv b ↔ a = b) := by decide
  exact this a (by omega) b (by omega)
theorem mv_m2 {b : Nat} (hb : b ≤ 2) : -2 < mv b ∧ ¬ mv b < -1 := by
  have : ∀ b, b < 3 → (-2 < mv b ∧ ¬ mv b < -1) := by decide
  exact this b (by omega)
def omv : Option Nat → Int32
  | none => -2
  | some b => mv b
theorem c_249 {s p on : Nat} {a : Nat → Nat} (hS : Sg t σ) (hG : Gm P F tz σ) (hO : mI σ 82 0 = nI on) (hs : s < 2 ^ P) (hp : p < P) (ho : on < 2 ^ 31) (ha : mI σ 93 (s ||| 2 ^ p) = mv (a (s ||| 2 ^ p))) (ha2 : a (s ||| 2 ^ p) ≤ 2) : Cl 249 [.ref 59, .int (nI s), .int (nI p)] σ (some (.int (mv (gm on tz a (s ||| 2 ^ p)))), σ) := by
  have hp2 := p2_le hG.hp
  have hP := hG.hp
  have hl := or_pow hs hp
  have hz := hG.z (s ||| 2 ^ p)
  refine ck_249 hS (b_249_0 hS ?_)
  rw [nI_one (by omega), fa_or, nI_clamp (by omega), hG.tn _ hl, ha, hO]
  refine ⟨inb_nI (by omega) (by decide), w_p (nI_eq (by omega) ho) (fun g => ?_) (fun g => ⟨inb_nI (by omega) (by decide), ?_⟩)⟩
  · unfold gm
    rw [if_pos g]
    rfl
  · unfold gm
    rw [if_neg g, mv_neg _ ha2]
def Ww (a i : Nat) : Prop := a = 93
theorem v_250 {on : Nat} (hS : Sg t σ) (hG : Gm P F tz σ) (hFP : F < 2 ^ P) (hO : mI σ 82 0 = nI on) (ho : on < 2 ^ 31) : ∃ σ', (∀ z2 z3 z4, Ev 250 13 [.ref 59, .int (nI (2 ^ P) - 1), z2, z3, z4] [] σ (none, σ')) ∧ Fr Ww σ σ' ∧ ∀ s, s < 2 ^ P → mI σ' 93 s = mv (ar F on tz (2 ^ P) (2 ^ P) s) := by
  have hp := p2_le hG.hp
  have hP := hG.hp
  have hF := hG.hf
  have hGf : ∀ σ', Fr Ww σ σ' → Gm P F tz σ' := fun σ' hf => ⟨hG.1, ((hf.1 59 13 (by unfold Ww; omega)).1).trans hG.pu, ((hf.1 59 65 (by unfold Ww; omega)).1).trans hG.free, fun s hs => ((hf.1 91 s (by unfold Ww; omega)).1).trans (hG.tn s hs)⟩
  have hOf : ∀ σ', Fr Ww σ σ' → mI σ' 82 0 = nI on := fun σ' hf => ((hf.1 82 0 (by unfold Ww; omega)).1).trans hO
  have e : nI (2 ^ P) - 1 = dI (2 ^ P - 0) := by
    rw [Nat.sub_zero, ← dI_m, Int32.sub_eq_add_neg]
  rw [e]
  refine lp (fun m σ1 => Fr Ww σ σ1 ∧ ∀ s, 2 ^ P - m ≤ s → s < 2 ^ P → mI σ1 93 s = mv (ar F on tz (2 ^ P) m s)) (fun m σ1 => ∃ σ', (∀ z2 z3 z4, Ev 250 13 [.ref 59, .int (dI (2 ^ P - m)), z2, z3, z4] [] σ1 (none, σ')) ∧ Fr Ww σ σ' ∧ ∀ s, s < 2 ^ P → mI σ' 93 s = mv (ar F on tz (2 ^ P) (2 ^ P) s)) (2 ^ P) ?_ ?_ (Nat.zero_le _) ⟨Fr.rf σ, fun s h1 h2 => by omega⟩
  · intro m σ1 hm ⟨hf, hv⟩ ih
    have hS1 := hf.sg hS
    have hG1 := hGf σ1 hf
    obtain ⟨k, hk⟩ : ∃ k, 2 ^ P - m = k + 1 := ⟨2 ^ P - m - 1, by omega⟩
    have hkm : k = 2 ^ P - 1 - m := by omega
    have hk1 : 2 ^ P - (m + 1) = k := by omega
    rw [hk1] at ih
    have stay : ∀ s, s ≠ k → ar F on tz (2 ^ P) (m + 1) s = ar F on tz (2 ^ P) m s := fun s hs => if_neg (by omega)
    have here : ar F on tz (2 ^ P) (m + 1) k = bv F on tz (ar F on tz (2 ^ P) m) k 10 := if_pos hkm
    obtain ⟨σ', h, g⟩ := ih (uI σ1 93 k (mv (ar F on tz (2 ^ P) (m + 1) k))) ⟨hf.uI rfl, fun s h1 h2 => by
      rw [mI_uI]
      by_cases e : s = k
      · rw [if_pos ⟨rfl, e⟩, e]
      · rw [if_neg (fun z => e z.2), stay s e]; exact hv s (by omega) h2⟩
    refine ⟨σ', fun z2 z3 z4 => ?_, g⟩
    rw [hk]
    refine b_250_13 hS1 ⟨fun z => absurd z (nI_pos (by omega)), fun _ => ?_⟩
    refine up_to (fun p => ∀ z4, Ev 250 22 [.ref 59, .int (nI k), .int (omv (bo F on tz (ar F on tz (2 ^ P) m) k p)), .int (nI p), z4] [] σ1 (none, σ')) P ?_ ?_ 0 (Nat.zero_le _) z4
    · intro p hpP ihp z4
      refine b_250_22 hS1 ?_
      rw [hG1.pu, nI_1]
      have hfr : Cl 153 [.int (mI σ1 59 65), .int (nI p)] σ1 (some (.int (if F.testBit p = true then 1 else 0)), σ1) := by
        rw [hG1.free]
        exact c_153 hS1 (by omega) (by omega)
      refine pk_lt p P (fun _ => ⟨_, _, c_153 (n := k) hS1 (by omega) (by omega), hS1, w_b (fun hkp => ⟨_, _, hfr, hS1, w_b (fun hFp => ?_) (fun hFp => ?_)⟩) (fun hkp => ?_)⟩) (fun z => absurd hpP (by omega))
      · rw [bo_no (by rw [hFp, Bool.false_and])] at ihp
        exact ihp _
      · have hc : (F.testBit p && !(k.testBit p)) = true := by rw [hFp, hkp]; rfl
        rw [bo_yes hc] at ihp
        have hgl := gm_le (on := on) (tz := tz) (a := ar F on tz (2 ^ P) m) (s := k ||| 2 ^ p)
        refine ⟨_, _, c_249 (on := on) hS1 hG1 (hOf σ1 hf) (by omega) hpP ho (hv _ (by have := or_gt hkp; omega) (or_pow (by omega) hpP)) (ar_le m _), hS1, ?_⟩
        cases hb : bo F on tz (ar F on tz (2 ^ P) m) k p with
        | none =>
          rw [hb] at ihp
          refine ⟨fun _ => ?_, fun z => absurd (mv_m2 hgl).1 z⟩
          have e2 : max ((none : Option Nat).getD 0) (gm on tz (ar F on tz (2 ^ P) m) (k ||| 2 ^ p)) = gm on tz (ar F on tz (2 ^ P) m) (k ||| 2 ^ p) := Nat.max_eq_right (Nat.zero_le _)
          rw [e2] at ihp
          exact ihp _
        | some b =>
          rw [hb] at ihp
          have hb2 := (bo_le (F := F) (on := on) (tz := tz) (a := ar F on tz (2 ^ P) m) (s := k) p).1
          rw [hb] at hb2
          have hb2 : b ≤ 2 := hb2
          refine w_p (mv_lt hb2 hgl) (fun z => ?_) (fun z => ?_)
          · have e2 : max ((some b).getD 0) (gm on tz (ar F on tz (2 ^ P) m) (k ||| 2 ^ p)) = gm on tz (ar F on tz (2 ^ P) m) (k ||| 2 ^ p) := Nat.max_eq_right (Nat.le_of_lt z)
            rw [e2] at ihp; exact ihp _
          · have e2 : max ((some b).getD 0) (gm on tz (ar F on tz (2 ^ P) m) (k ||| 2 ^ p)) = b := Nat.max_eq_left (Nat.le_of_not_lt z)
            rw [e2] at ihp; exact ihp _
      · rw [bo_no (by rw [hkp]; exact Bool.and_false _)] at ihp
        exact ihp _
    · intro z4
      refine b_250_22 hS1 ?_
      rw [hG1.pu, nI_clamp (by omega), dI_m]
      refine pk_lt P P (fun z => absurd z (Nat.lt_irrefl _)) (fun _ => ?_)
      rw [here] at h
      unfold bv at h
      rw [bo_hi hFP 10 hP] at h
      have hb2 := (bo_le (F := F) (on := on) (tz := tz) (a := ar F on tz (2 ^ P) m) (s := k) P).1
      cases hb : bo F on tz (ar F on tz (2 ^ P) m) k P with
      | none =>
        rw [hb] at h
        exact ⟨fun _ => ⟨inb_nI (by omega) (by decide), h _ _ _⟩, fun z => absurd (by decide) z⟩
      | some b =>
        rw [hb] at h hb2
        have hb2 : b ≤ 2 := hb2
        exact ⟨fun z => absurd z (mv_m2 hb2).2, fun _ => ⟨inb_nI (by omega) (by decide), h _ _ _⟩⟩
  · intro σ1 ⟨hf, hv⟩
    refine ⟨σ1, fun z2 z3 z4 => ?_, hf, fun s hs => hv s (by omega) hs⟩
    rw [Nat.sub_self]
    exact b_250_13 (hf.sg hS) ⟨fun _ => rfl, fun z => absurd (by decide) z⟩
/-- the pull that game(1) tells -/
theorem v_251 {on : Nat} {x1 : Int32} {a : Nat → Nat} (hS : Sg t σ) (hG : Gm P F tz σ) (hO : mI σ 82 0 = nI on) (ho : on < 2 ^ 31) (ha : ∀ s, s < 2 ^ P → mI σ 93 s = mv (a s)) (ha2 : ∀ s, a s ≤ 2) (hx : ∃ p, p < P ∧ fpl F on tz a (a 0) p = true) : Ev 251 82 [.ref 59, .int x1, .int 0] [] σ (some (.int (nI (fa_first (fpl F on tz a (a 0)) P))), σ) := by
  have hp := p2_le hG.hp
  have hP := hG.hp
  have hF := hG.hf
  have hp1 : 1 ≤ 2 ^ P := Nat.one_le_two_pow
  have hlt : fa_first (fpl F on tz a (a 0)) P < P := by
    obtain ⟨p, h1, h2⟩ := hx
    rcases Nat.lt_or_ge (fa_first (fpl F on tz a (a 0)) P) P with g | g
    · exact g
    · have h3 := fa_first_no (fpl F on tz a (a 0)) P p (by omega)
      rw [h2] at h3; cases h3
  have hyes := fa_first_yes _ _ hlt
  have hno := fa_first_no (fpl F on tz a (a 0)) P
  generalize fa_first (fpl F on tz a (a 0)) P = f at hlt hyes hno
  have sg : ∀ p, p < P → Cl 249 [.ref 59, .int 0, .int (nI p)] σ (some (.int (mv (gm on tz a (2 ^ p)))), σ) := by
    intro p hpP
    have h := c_249 (s := 0) (p := p) (a := a) hS hG hO (by omega) hpP ho (ha _ (or_pow (by omega) hpP)) (ha2 _)
    rw [Nat.zero_or] at h
    exact h
  have hfr : ∀ p, p < P → Cl 153 [.int (mI σ 59 65), .int (nI p)] σ (some (.int (if F.testBit p = true then 1 else 0)), σ) := by
    intro p hpP
    rw [hG.free]
    exact c_153 hS (by omega) (by omega)
  refine up_to (fun k => Ev 251 82 [.ref 59, .int x1, .int (nI k)] [] σ (some (.int (nI f)), σ)) f ?_ ?_ 0 (Nat.zero_le _)
  · intro k hk ih
    refine b_251_82 hS ⟨_, _, hfr k (by omega), hS, ?_⟩
    rw [nI_1]
    refine w_b (fun _ => ih) (fun h => ⟨_, _, sg k (by omega), hS, ?_⟩)
    rw [ha 0 (by omega)]
    refine w_p (mv_eq gm_le (ha2 _)) (fun z => ?_) (fun _ => ih)
    have h1 := hno k hk
    unfold fpl at h1
    rw [decide_eq_true z, h] at h1
    cases h1
  · unfold fpl at hyes
    rw [Bool.and_eq_true] at hyes
    refine b_251_82 hS ⟨_, _, hfr f hlt, hS, w_b (fun z => by rw [hyes.1] at z; cases z) (fun h => ⟨_, _, sg f hlt, hS, ?_⟩)⟩
    rw [ha 0 (by omega)]
    exact w_p (mv_eq gm_le (ha2 _)) (fun _ => rfl) (fun z => absurd (of_decide_eq_true hyes.2) z)
end Game2
