/-! ===== specs: the game, the first side ===== -/
def gm (on : Nat) (tz a : Nat → Nat) (s : Nat) : Nat := if tz s = on then 2 else 2 - a s
def bo (F on : Nat) (tz a : Nat → Nat) (s : Nat) : Nat → Option Nat
  | 0 => none
  | p + 1 => if (F.testBit p && !(s.testBit p)) = true then some (max ((bo F on tz a s p).getD 0) (gm on tz a (s ||| 2 ^ p))) else bo F on tz a s p
def bv (F on : Nat) (tz a : Nat → Nat) (s n : Nat) : Nat := (bo F on tz a s n).getD 1
/-- how the game ends, by sets, the last m of N laid -/
def ar (F on : Nat) (tz : Nat → Nat) (N : Nat) : Nat → Nat → Nat
  | 0, _ => 0
  | m + 1, s => if s = N - 1 - m then bv F on tz (ar F on tz N m) s 10 else ar F on tz N m s
theorem gm_le {on s : Nat} {tz a : Nat → Nat} : gm on tz a s ≤ 2 := by
  unfold gm
  split <;> omega
theorem bo_le {F on s : Nat} {tz a : Nat → Nat} : ∀ n, (bo F on tz a s n).getD 0 ≤ 2 ∧ (bo F on tz a s n).getD 1 ≤ 2 := by
  intro n
  induction n with
  | zero => exact ⟨Nat.zero_le 2, Nat.le_succ 1⟩
  | succ n ih =>
    show (if (F.testBit n && !(s.testBit n)) = true then some _ else bo F on tz a s n).getD 0 ≤ 2 ∧ (if (F.testBit n && !(s.testBit n)) = true then some _ else bo F on tz a s n).getD 1 ≤ 2
    have h := gm_le (on := on) (tz := tz) (a := a) (s := s ||| 2 ^ n)
    split
    · have h1 := ih.1
      exact ⟨Nat.max_le.mpr ⟨h1, h⟩, Nat.max_le.mpr ⟨h1, h⟩⟩
    · exact ih
theorem bo_yes {F on s p : Nat} {tz a : Nat → Nat} (h : (F.testBit p && !(s.testBit p)) = true) : bo F on tz a s (p + 1) = some (max ((bo F on tz a s p).getD 0) (gm on tz a (s ||| 2 ^ p))) := if_pos h
theorem bo_no {F on s p : Nat} {tz a : Nat → Nat} (h : (F.testBit p && !(s.testBit p)) = false) : bo F on tz a s (p + 1) = bo F on tz a s p := if_neg (by rw [h]; decide)
theorem bo_hi {F on s P : Nat} {tz a : Nat → Nat} (hF : F < 2 ^ P) : ∀ n, P ≤ n → bo F on tz a s n = bo F on tz a s P := by
  intro n hn
  induction n with
  | zero => have : P = 0 := by omega
            subst this; rfl
  | succ n ih =>
    rcases Nat.lt_or_ge P (n + 1) with g | g
    · rw [bo_no (by rw [Nat.testBit_lt_two_pow (Nat.lt_of_lt_of_le hF (Nat.pow_le_pow_right (by decide) (by omega))), Bool.false_and]), ih (by omega)]
    · have : P = n + 1 := by omega
      subst this; rfl
theorem ar_le {F on N : Nat} {tz : Nat → Nat} : ∀ m s, ar F on tz N m s ≤ 2 := by
  intro m
  induction m with
  | zero => intro s; exact Nat.zero_le _
  | succ m ih =>
    intro s
    show (if s = N - 1 - m then bv F on tz (ar F on tz N m) s 10 else ar F on tz N m s) ≤ 2
    split
    · exact (bo_le 10).2
    · exact ih s
theorem or_gt {s p : Nat} (h : s.testBit p = false) : s < s ||| 2 ^ p := by
  have h1 : s ≤ s ||| 2 ^ p := Nat.left_le_or
  rcases Nat.lt_or_eq_of_le h1 with g | g
  · exact g
  · have h2 : (s ||| 2 ^ p).testBit p = true := by rw [Nat.testBit_or, Nat.testBit_two_pow_self, Bool.or_true]
    rw [← g, h] at h2
    cases h2
theorem or_pow {s p P : Nat} (hs : s < 2 ^ P) (hp : p < P) : s ||| 2 ^ p < 2 ^ P := Nat.or_lt_two_pow hs (Nat.pow_lt_pow_right (by decide) hp)
theorem or_sub {s p F : Nat} (hs : s &&& F = s) (hp : F.testBit p = true) : (s ||| 2 ^ p) &&& F = s ||| 2 ^ p := by
  refine Nat.eq_of_testBit_eq (fun j => ?_)
  simp only [Nat.testBit_and, Nat.testBit_or, Nat.testBit_two_pow]
  have h1 : (s &&& F).testBit j = s.testBit j := by rw [hs]
  rw [Nat.testBit_and] at h1
  by_cases e : p = j
  · subst e; rw [hp, decide_eq_true rfl]; cases s.testBit p <;> rfl
  · rw [decide_eq_false e, Bool.or_false]; exact h1
theorem fs_bit {F s p : Nat} (hp : p < 31) : ((nI F &&& (nI s ^^^ (-1))) &&& ((1 : Int32) <<< (nI p &&& 31))) = 0 ↔ (F.testBit p && !(s.testBit p)) = false := by
  rw [nI_andn, nI_one (by omega), fa_bit hp, Nat.testBit_xor, Nat.testBit_and]
  cases F.testBit p <;> cases s.testBit p <;> decide
section Game
variable {t P F : Nat} {tz : Nat → Nat} {σ : Mm}
theorem c_85 {s on : Nat} {a : Nat → Nat} (hS : Sg t σ) (hG : Gc P F tz σ) (hs : s < 2 ^ P) (ho : on < 2 ^ 31) (ha : mI σ 55 s = nI (a s)) (ha2 : a s ≤ 2) : Cl 85 [.ref 53, .int (nI s), .int (nI on)] σ (some (.int (nI (gm on tz a s))), σ) := by
  have hp := p2_le hG.hp
  have hz := hG.z s
  refine ck_85 hS (b_85_0 hS ?_)
  rw [hG.many, nI_clamp (by omega), hG.tn s hs, ha]
  refine pk_lt s (2 ^ P) (fun _ => ⟨inb_nI (by omega) (by decide), w_p (nI_eq (by omega) ho) (fun g => ?_) (fun g => ⟨inb_nI (by omega) (by decide), ?_⟩)⟩) (fun z => absurd hs (by omega)) rfl rfl (by omega) (by omega)
  · unfold gm
    rw [if_pos g]
    rfl
  · unfold gm
    rw [if_neg g, show (2 : Int32) = nI 2 from rfl, pk_sub ha2]
theorem c_84 {s on : Nat} {a : Nat → Nat} (hS : Sg t σ) (hG : Gc P F tz σ) (hFP : F < 2 ^ P) (hs : s < 2 ^ P) (ho : on < 2 ^ 31) (ha : ∀ p, F.testBit p = true → s.testBit p = false → mI σ 55 (s ||| 2 ^ p) = nI (a (s ||| 2 ^ p))) (ha2 : ∀ s, a s ≤ 2) : Cl 84 [.ref 53, .int (nI s), .int (nI on)] σ (some (.int (nI (bv F on tz a s 10))), σ) := by
  have hp := p2_le hG.hp
  refine ck_84 hS (b_84_0 hS ?_)
  refine up_to (fun k => ∀ z5, Ev 84 5 [.ref 53, .int (nI s), .int (nI on), .int (oI (-1) (bo F on tz a s k)), .int (nI k), z5] [] σ (some (.int (nI (bv F on tz a s 10))), σ)) 10 ?_ ?_ 0 (Nat.zero_le _) _
  · intro k hk ih z5
    refine b_84_5 hS ?_
    rw [hG.free]
    refine pk_lt k 10 (fun _ => w_p (fs_bit (by omega)) (fun h => ?_) (fun h => ?_)) (fun z => absurd hk (by omega))
    · rw [bo_no h] at ih
      rw [nI_1]; exact ih _
    · have h : (F.testBit k && !(s.testBit k)) = true := by
        cases hc : (F.testBit k && !(s.testBit k)) with
        | true => rfl
        | false => exact absurd hc h
      have h2 := h
      rw [Bool.and_eq_true] at h2
      have hsk : s.testBit k = false := by
        revert h2
        cases s.testBit k <;> simp
      have hkP : k < P := by
        rcases Nat.lt_or_ge k P with g | g
        · exact g
        · rw [Nat.testBit_lt_two_pow (Nat.lt_of_lt_of_le hFP (Nat.pow_le_pow_right (by decide) g))] at h2
          exact absurd h2.1 (by decide)
      rw [bo_yes h] at ih
      have hg := gm_le (on := on) (tz := tz) (a := a) (s := s ||| 2 ^ k)
      have h85 := c_85 hS hG (or_pow hs hkP) ho (ha k h2.1 hsk) (ha2 _)
      rw [nI_1]
      have e : nI s ||| ((1 : Int32) <<< (nI k &&& 31)) = nI (s ||| 2 ^ k) := by rw [nI_one (by omega), fa_or]
      rw [e]
      refine ⟨_, _, h85, hS, ?_⟩
      cases hb : bo F on tz a s k with
      | none =>
        rw [hb] at ih
        refine ⟨_, _, c_278 hS, hS, ?_⟩
        have e2 : (if oI (-1) none < nI (gm on tz a (s ||| 2 ^ k)) then nI (gm on tz a (s ||| 2 ^ k)) else oI (-1) none) = nI (max ((none : Option Nat).getD 0) (gm on tz a (s ||| 2 ^ k))) := by
          have hlt : (-1 : Int32) < nI (gm on tz a (s ||| 2 ^ k)) := by
            rw [fa_lt, nI_toInt (by omega)]
            show (-1 : Int) < _
            omega
          show (if (-1 : Int32) < _ then _ else _) = nI (max 0 _)
          rw [if_pos hlt, Nat.max_eq_right (Nat.zero_le _)]
        rw [e2]; exact ih _
      | some b =>
        rw [hb] at ih
        have hb2 := (bo_le (F := F) (on := on) (tz := tz) (a := a) (s := s) k).1
        rw [hb] at hb2
        have hb2 : b ≤ 2 := hb2
        exact ⟨_, _, c_278n hS (by omega) (by omega), hS, ih _⟩
  · intro z5
    refine b_84_5 hS (pk_lt 10 10 (fun z => absurd z (by decide)) (fun _ => ?_))
    unfold bv
    have hb2 := (bo_le (F := F) (on := on) (tz := tz) (a := a) (s := s) 10).1
    cases hb : bo F on tz a s 10 with
    | none => exact ⟨fun _ => rfl, fun z => absurd rfl z⟩
    | some b =>
      rw [hb] at hb2
      have hb2 : b ≤ 2 := hb2
      refine ⟨fun z => ?_, fun _ => rfl⟩
      have z : nI b = -1 := z
      have := nI_pos (n := b) (by omega)
      rw [z] at this
      exact absurd (by decide) this
def Wgo (a i : Nat) : Prop := a = 55
theorem c_83 {on : Nat} (hS : Sg t σ) (hG : Gc P F tz σ) (hFP : F < 2 ^ P) (ho : on < 2 ^ 31) : ∃ σ', Cl 83 [.ref 53, .int (nI on)] σ (some (.int (nI (ar F on tz (2 ^ P) (2 ^ P) 0))), σ') ∧ Fr Wgo σ σ' ∧ ∀ s, s < 2 ^ P → s &&& F = s → mI σ' 55 s = nI (ar F on tz (2 ^ P) (2 ^ P) s) := by
  have hp := p2_le hG.hp
  have hp1 : 1 ≤ 2 ^ P := Nat.one_le_two_pow
  have hGf : ∀ σ', Fr Wgo σ σ' → Gc P F tz σ' := fun σ' hf => ⟨hG.1, ((hf.1 53 0 (by unfold Wgo; omega)).1).trans hG.many, ((hf.1 53 2 (by unfold Wgo; omega)).1).trans hG.free, fun s hs => ((hf.1 54 s (by unfold Wgo; omega)).1).trans (hG.tn s hs)⟩
  have main : ∃ σ', Ev 83 7 [.ref 53, .int (nI on), .int (dI (2 ^ P - 0))] [] σ (some (.int (nI (ar F on tz (2 ^ P) (2 ^ P) 0))), σ') ∧ Fr Wgo σ σ' ∧ ∀ s, s < 2 ^ P → s &&& F = s → mI σ' 55 s = nI (ar F on tz (2 ^ P) (2 ^ P) s) := by
    refine lp (fun m σ1 => Fr Wgo σ σ1 ∧ ∀ s, 2 ^ P - m ≤ s → s < 2 ^ P → s &&& F = s → mI σ1 55 s = nI (ar F on tz (2 ^ P) m s)) (fun m σ1 => ∃ σ', Ev 83 7 [.ref 53, .int (nI on), .int (dI (2 ^ P - m))] [] σ1 (some (.int (nI (ar F on tz (2 ^ P) (2 ^ P) 0))), σ') ∧ Fr Wgo σ σ' ∧ ∀ s, s < 2 ^ P → s &&& F = s → mI σ' 55 s = nI (ar F on tz (2 ^ P) (2 ^ P) s)) (2 ^ P) ?_ ?_ (Nat.zero_le _) ⟨Fr.rf σ, fun s h1 h2 => by omega⟩
    · intro m σ1 hm ⟨hf, hv⟩ ih
      have hS1 := hf.sg hS
      have hG1 := hGf σ1 hf
      obtain ⟨k, hk⟩ : ∃ k, 2 ^ P - m = k + 1 := ⟨2 ^ P - m - 1, by omega⟩
      have hkm : k = 2 ^ P - 1 - m := by omega
      have hk1 : 2 ^ P - (m + 1) = k := by omega
      rw [hk1] at ih
      have stay : ∀ s, s ≠ k → ar F on tz (2 ^ P) (m + 1) s = ar F on tz (2 ^ P) m s := fun s hs => if_neg (by omega)
      rw [hk]
      by_cases hsub : k &&& F = k
      · have here : ar F on tz (2 ^ P) (m + 1) k = bv F on tz (ar F on tz (2 ^ P) m) k 10 := if_pos hkm
        have h84 := c_84 (s := k) (on := on) (a := ar F on tz (2 ^ P) m) hS1 hG1 hFP (by omega) ho (fun p hpF hps => hv _ (by have := or_gt hps; omega) (or_pow (by omega) (by
          rcases Nat.lt_or_ge p P with g | g
          · exact g
          · rw [Nat.testBit_lt_two_pow (Nat.lt_of_lt_of_le hFP (Nat.pow_le_pow_right (by decide) g))] at hpF
            cases hpF)) (or_sub hsub hpF)) (ar_le m)
        rw [← here] at h84
        obtain ⟨σ', h, g⟩ := ih (uI σ1 55 k (nI (ar F on tz (2 ^ P) (m + 1) k))) ⟨hf.uI rfl, fun s h1 h2 h3 => by
          rw [mI_uI]
          by_cases e : s = k
          · rw [if_pos ⟨rfl, e⟩, e]
          · rw [if_neg (fun z => e z.2), stay s e]; exact hv s (by omega) h2 h3⟩
        refine ⟨σ', b_83_7 hS1 ⟨fun z => absurd z (nI_pos (by omega)), fun _ => ?_⟩, g⟩
        show ((nI k &&& (mI σ1 53 2 ^^^ (-1))) = 0 → _) ∧ (¬ (nI k &&& (mI σ1 53 2 ^^^ (-1))) = 0 → _)
        rw [hG1.free]
        refine w_p (andn0 (by omega)) (fun _ => ⟨_, _, h84, hS1, inb_nI (by omega) (by decide), ?_⟩) (fun z => absurd hsub z)
        show Ev 83 7 [.ref 53, .int (nI on), .int (nI k + (-1))] [] (uI σ1 55 (nI k).toNatClampNeg _) _
        rw [nI_clamp (by omega), dI_m]; exact h
      · obtain ⟨σ', h, g⟩ := ih σ1 ⟨hf, fun s h1 h2 h3 => by
          have e : s ≠ k := fun z => hsub (by rw [← z]; exact h3)
          rw [stay s e]; exact hv s (by omega) h2 h3⟩
        refine ⟨σ', b_83_7 hS1 ⟨fun z => absurd z (nI_pos (by omega)), fun _ => ?_⟩, g⟩
        show ((nI k &&& (mI σ1 53 2 ^^^ (-1))) = 0 → _) ∧ (¬ (nI k &&& (mI σ1 53 2 ^^^ (-1))) = 0 → _)
        rw [hG1.free]
        refine w_p (andn0 (by omega)) (fun z => absurd z hsub) (fun _ => ?_)
        show Ev 83 7 [.ref 53, .int (nI on), .int (nI k + (-1))] [] σ1 _
        rw [dI_m]; exact h
    · intro σ1 ⟨hf, hv⟩
      have hv : ∀ s, s < 2 ^ P → s &&& F = s → mI σ1 55 s = nI (ar F on tz (2 ^ P) (2 ^ P) s) := fun s hs h => hv s (by omega) hs h
      refine ⟨σ1, ?_, hf, hv⟩
      rw [Nat.sub_self]
      refine b_83_7 (hf.sg hS) ⟨fun _ => ?_, fun z => absurd (by decide) z⟩
      rw [hv 0 (by omega) (Nat.zero_and _)]
  obtain ⟨σ', h, g⟩ := main
  refine ⟨σ', ck_83 hS (b_83_0 hS ?_), g⟩
  rw [hG.many]
  have e : nI (2 ^ P) - 1 = dI (2 ^ P - 0) := by
    rw [Nat.sub_zero, ← dI_m, Int32.sub_eq_add_neg]
  rw [e]; exact h
end Game
