/-! ===== specs: sums, basis, rank, the other side ===== -/
theorem red_hi {r : Nat → Nat} (h : Rw r) : ∀ m u j, m ≤ j → (red r m u).testBit j = u.testBit j := by
  intro m
  induction m with
  | zero => intro u j _; rfl
  | succ m im =>
    intro u j hj
    show (red r m (if u.testBit m = true then u ^^^ r m else u)).testBit j = _
    rw [im _ j (by omega)]
    split
    · rw [Nat.testBit_xor, Nat.testBit_lt_two_pow (Nat.lt_of_lt_of_le (h m).1 (Nat.pow_le_pow_right (by decide) hj)), Bool.xor_false]
    · rfl
theorem red_top {r : Nat → Nat} (h : Rw r) {x l : Nat} (hx : x < 2 ^ (l + 1)) (hb : x.testBit l = true) (h0 : r l = 0) : ∀ n, l < n → (red r n x).testBit l = true := by
  intro n
  induction n with
  | zero => intro hl; omega
  | succ n ih =>
    intro hl
    show (red r n (if x.testBit n = true then x ^^^ r n else x)).testBit l = true
    by_cases e : l = n
    · subst e
      rw [if_pos hb, h0, Nat.xor_zero, red_hi h l x l (Nat.le_refl l)]
      exact hb
    · rw [if_neg (by rw [Nat.testBit_lt_two_pow (Nat.lt_of_lt_of_le hx (Nat.pow_le_pow_right (by decide) (by omega)))]; decide)]
      exact ih (by omega)
theorem not_RS {r : Nat → Nat} (h : Rw r) {x l : Nat} (hx : x < 2 ^ (l + 1)) (hb : x.testBit l = true) (h0 : r l = 0) (hl : l < 14) : ¬ RS r 14 x := by
  intro z
  have h1 := red_top h hx hb h0 14 hl
  rw [(red_z h 14 x).mpr z, Nat.zero_testBit] at h1
  cases h1
theorem cnt_hi {p : Nat → Bool} {k : Nat} (h : ∀ i, k ≤ i → p i = false) : ∀ n, k ≤ n → fa_cnt p n = fa_cnt p k := by
  intro n hn
  induction n with
  | zero => have : k = 0 := by omega
            subst this; rfl
  | succ n ih =>
    rcases Nat.lt_or_ge k (n + 1) with g | g
    · rw [fa_cnt_no (h n (by omega)), ih (by omega)]
    · have : k = n + 1 := by omega
      subst this; rfl
theorem pcn_P {n P : Nat} (hP : P ≤ 10) (hn : n < 2 ^ P) : pcn n = fa_cnt (fun i => n.testBit i) P :=
  cnt_hi (fun i hi => Nat.testBit_lt_two_pow (Nat.lt_of_lt_of_le hn (Nat.pow_le_pow_right (by decide) hi))) 14 (by omega)
theorem fre_bit {P K i : Nat} : (fre P K).testBit i = (decide (i < P) && !(K.testBit i)) := by
  unfold fre
  rw [Nat.testBit_xor, Nat.testBit_and, Nat.testBit_two_pow_sub_one]
  cases decide (i < P) <;> cases K.testBit i <;> rfl
theorem fre_P {P K : Nat} : fre P K < 2 ^ P := by
  refine Nat.lt_pow_two_of_testBit _ (fun i hi => ?_)
  rw [fre_bit, decide_eq_false (by omega), Bool.false_and]
theorem isW_f {F x s : Nat} {tz : Nat → Nat} (h : ¬ s &&& F = s) : isW F tz x s = false := by
  unfold isW
  rw [decide_eq_false h, Bool.false_and]
theorem isW_i {F x s : Nat} {tz : Nat → Nat} : isW F tz x s = true ↔ s &&& F = s ∧ tz s = x := by
  unfold isW
  rw [Bool.and_eq_true]
  exact ⟨fun h => ⟨of_decide_eq_true h.1, of_decide_eq_true h.2⟩, fun h => ⟨decide_eq_true h.1, decide_eq_true h.2⟩⟩
theorem cnt_fr1 {w : Nat → Bool} (h : w 0 = true) : ∀ n, fa_cnt w (n + 1) = fa_cnt (fr1 w) (n + 1) + 1 := by
  intro n
  induction n with
  | zero => rw [fa_cnt_yes h, fa_cnt_no (p := fr1 w) (n := 0) rfl]; rfl
  | succ n ih =>
    have e : fr1 w (n + 1) = w (n + 1) := fr1_p (by omega)
    cases hw : w (n + 1) with
    | true => rw [fa_cnt_yes hw, fa_cnt_yes (e.trans hw), ih]
    | false => rw [fa_cnt_no hw, fa_cnt_no (e.trans hw), ih]
section Rank
variable {t P F : Nat} {ties : Nat → Nat} {σ : Mm}
theorem tn_z : tn ties P 0 = 0 := tn_hi (p := 0) Nat.one_pos P (Nat.zero_le P)
theorem nK_sil : nK F (tn ties P) P = fa_cnt (fr1 (isW F (tn ties P) 0)) (2 ^ P) + 1 := by
  have h := cnt_fr1 (w := isW F (tn ties P) 0) (isW_i.mpr ⟨Nat.zero_and _, tn_z⟩) (2 ^ P - 1)
  rw [Nat.sub_add_cancel Nat.one_le_two_pow] at h
  exact h
theorem c_237 {p : Nat} (hS : Sg t σ) (hG : Gm P F (tn ties P) σ) (ht : mI σ 89 p = nI (ties p)) (hp : p < P) (hb : ties p < 2 ^ 14) : Cl 237 [.ref 59, .int (nI p), .int (nI F)] σ (some (.int (if spb F (tn ties P) p (ties p) = true then 1 else 0)), σ) := by
  have hp10 := hG.hp
  have hp2 : 2 ^ p ≤ 2 ^ P := Nat.pow_le_pow_right (by decide) (by omega)
  have hp3 := p2_le hp10
  refine ck_237 hS (b_237_0 hS ?_)
  refine up_to (fun k => (∀ j, j < k → isW F (tn ties P) (ties p) j = false) → Ev 237 2 [.ref 59, .int (nI p), .int (nI F), .int (nI k)] [] σ (some (.int (if spb F (tn ties P) p (ties p) = true then 1 else 0)), σ)) (2 ^ p) ?_ ?_ 0 (Nat.zero_le _) (fun j hj => absurd hj (Nat.not_lt_zero j))
  · intro k hk ih hno
    refine b_237_2 hS ?_
    rw [nI_one (by omega), nI_clamp (by omega), ht, nI_1]
    have cont : isW F (tn ties P) (ties p) k = false → Ev 237 2 [.ref 59, .int (nI p), .int (nI F), .int (nI (k + 1))] [] σ (some (.int (if spb F (tn ties P) p (ties p) = true then 1 else 0)), σ) := fun z => ih (fun j hj => by
      rcases Nat.lt_or_ge j k with g | g
      · exact hno j g
      · have : j = k := by omega
        subst this; exact z)
    refine pk_lt k (2 ^ p) (fun _ => w_p (andn0 (by omega)) (fun h => ⟨inb_nI (by omega) (by decide), _, _, c_227 hS hG (by omega) (by omega), hS, w_b (fun z => cont z) (fun z => ?_)⟩) (fun h => cont (isW_f h))) (fun z => absurd hk (by omega)) rfl rfl (by omega) (by omega)
    have h1 := isW_i.mp z
    rw [if_pos (spb_iff.mpr ⟨k, hk, h1.1, h1.2⟩)]
  · intro hno
    refine b_237_2 hS ?_
    rw [nI_one (by omega)]
    refine pk_lt (2 ^ p) (2 ^ p) (fun z => absurd z (Nat.lt_irrefl _)) (fun _ => ?_) rfl rfl (by omega) (by omega)
    rw [if_neg (fun z => ?_)]
    obtain ⟨s, hs, h1, h2⟩ := spb_iff.mp z
    have := hno s hs
    rw [isW_i.mpr ⟨h1, h2⟩] at this
    cases this
theorem v_238 (hS : Sg t σ) (hG : Gm P F (tn ties P) σ) (ht : ∀ i, i < P → mI σ 89 i = nI (ties i)) (hb : ∀ i, i < P → ties i < 2 ^ 14) : Ev 238 8 [.ref 59, .int 0, .int 0] [] σ (some (.int (nI (bas F ties (tn ties P) P))), σ) := by
  have hp10 := hG.hp
  have hF := hG.hf
  refine up_to (fun k => Ev 238 8 [.ref 59, .int (nI (bas F ties (tn ties P) k)), .int (nI k)] [] σ (some (.int (nI (bas F ties (tn ties P) P))), σ)) P ?_ ?_ 0 (Nat.zero_le _)
  · intro k hk ih
    refine b_238_8 hS ?_
    rw [hG.pu, hG.free, nI_1]
    have or0 : ∀ x : Int32, x ||| 0 = x := fun x => Int32.or_zero
    have h237 := c_237 hS hG (ht k hk) hk (hb k hk)
    rw [← hG.free] at h237
    refine pk_lt k P (fun _ => ⟨_, _, c_153 hS (by omega) (by omega), hS, w_b (fun h => ?_) (fun h => ⟨_, _, h237, hS, w_b (fun g => ?_) (fun g => ?_)⟩)⟩) (fun z => absurd hk (by omega))
    · rw [or0]
      have e : bas F ties (tn ties P) k = bas F ties (tn ties P) (k + 1) := bitsOf_no (by rw [h, Bool.false_and])
      rw [e]; exact ih
    · have e : bas F ties (tn ties P) k ||| 2 ^ k = bas F ties (tn ties P) (k + 1) := bitsOf_or (by rw [h, g]; rfl)
      rw [nI_one (by omega), fa_or, e]; exact ih
    · rw [or0]
      have e : bas F ties (tn ties P) k = bas F ties (tn ties P) (k + 1) := bitsOf_no (by rw [g]; exact Bool.and_false _)
      rw [e]; exact ih
  · refine b_238_8 hS ?_
    rw [hG.pu]
    exact pk_lt P P (fun z => absurd z (Nat.lt_irrefl _)) (fun _ => rfl)
/-- sumOf, behind the basis -/
theorem v_240 {p u : Nat} (hS : Sg t σ) (hG : Gm P F (tn ties P) σ) (ht : mI σ 89 p = nI (ties p)) (hp : p < P) (hb : ties p < 2 ^ 14) (hu : u < 2 ^ P) (huB : u &&& bas F ties (tn ties P) P = u) (huT : tn ties P u = ties p) : Ev 240 44 [.ref 59, .int (nI p), .int (nI (bas F ties (tn ties P) P)), .int 0] [] σ (some (.int (nI u)), σ) := by
  have hp10 := hG.hp
  have hp3 := p2_le hp10
  have subF : ∀ s, s &&& bas F ties (tn ties P) P = s → s &&& F = s := by
    intro s hs
    refine Nat.eq_of_testBit_eq (fun j => ?_)
    have h4 : (s &&& bas F ties (tn ties P) P).testBit j = s.testBit j := by rw [hs]
    rw [Nat.testBit_and, bas_bit] at h4
    rw [Nat.testBit_and]
    revert h4
    cases s.testBit j <;> cases F.testBit j <;> simp
  refine up_to (fun k => Ev 240 44 [.ref 59, .int (nI p), .int (nI (bas F ties (tn ties P) P)), .int (nI k)] [] σ (some (.int (nI u)), σ)) u ?_ ?_ 0 (Nat.zero_le _)
  · intro k hk ih
    refine b_240_44 hS ?_
    rw [nI_clamp (by omega), ht, nI_1]
    refine w_p (andn0 (by omega)) (fun h => ⟨inb_nI (by omega) (by decide), _, _, c_227 hS hG (by omega) (by omega), hS, w_b (fun _ => ih) (fun z => ?_)⟩) (fun _ => ih)
    have := bas_uni (by omega) hu h huB ((isW_i.mp z).2.trans huT.symm)
    omega
  · refine b_240_44 hS ?_
    rw [nI_clamp (by omega), ht]
    refine w_p (andn0 (by omega)) (fun h => ⟨inb_nI (by omega) (by decide), _, _, c_227 hS hG hu (by omega), hS, w_b (fun z => ?_) (fun z => rfl)⟩) (fun h => absurd huB h)
    rw [isW_i.mpr ⟨subF u huB, huT⟩] at z
    cases z
theorem v_235 : ∀ e n, e ≤ n → e < 31 → Sg t σ → Ev 235 19 [.ref 59, .int (nI n), .int (nI (2 ^ e))] [] σ (some (.int (nI (n - e))), σ) := by
  intro e
  induction e with
  | zero => intro n _ _ hS; exact b_235_19 hS ⟨fun h => absurd h (by decide), fun _ => rfl⟩
  | succ e ih =>
    intro n hn he hS
    have h2 : 2 ^ (e + 1) < 2 ^ 31 := Nat.pow_lt_pow_right (by decide) he
    have h1 := Nat.two_pow_pos e
    refine b_235_19 hS (pk_lt 1 (2 ^ (e + 1)) (fun _ => ?_) (fun z => by rw [Nat.pow_succ] at z; omega) rfl rfl (by decide) h2)
    have e1 : nI (2 ^ (e + 1)) / 2 = nI (2 ^ e) := by
      have := pk_div (a := 2 ^ (e + 1)) (d := 2) h2 (by decide) (by decide)
      rw [Nat.pow_succ, Nat.mul_div_cancel _ (by decide)] at this
      exact this
    have e2 : nI n + (-1) = nI (n - 1) := by
      obtain ⟨m, rfl⟩ : ∃ m, n = m + 1 := ⟨n - 1, by omega⟩
      exact pk_m1 m
    have h := ih (n - 1) (by omega) (by omega) hS
    rw [e1, e2, show n - (e + 1) = n - 1 - e by omega]
    exact h
theorem v_248 {m on : Nat} (hS : Sg t σ) (hG : Gm P F (tn ties P) σ) (hO : mI σ 82 0 = nI on) (ho : on < 2 ^ 14) (hm : m < 2 ^ 31) : Ev 248 25 [.ref 59, .int (nI m), .int 0, .int 0] [] σ (some (.int (nI (fa_cnt (isE (bas F ties (tn ties P) P) (tn ties P) on m) (2 ^ P)))), σ) := by
  have hp := p2_le hG.hp
  refine up_to (fun k => Ev 248 25 [.ref 59, .int (nI m), .int (nI (fa_cnt (isE F (tn ties P) on m) k)), .int (nI k)] [] σ (some (.int (nI (fa_cnt (isE (bas F ties (tn ties P) P) (tn ties P) on m) (2 ^ P)))), σ)) (2 ^ P) ?_ ?_ 0 (Nat.zero_le _)
  · intro k hk ih
    refine b_248_25 hS ?_
    rw [hG.many, hG.free, hO, nI_clamp (by omega), hG.tn k hk, nI_xor, nI_1 k]
    have h1 := pcn_le (on ^^^ tn ties P k)
    refine pk_lt k (2 ^ P) (fun _ => w_p (andn0 (by omega)) (fun h => ⟨inb_nI (by omega) (by decide), _, _, c_202 hS (Nat.lt_trans (Nat.xor_lt_two_pow ho (hG.z k)) (by decide)), hS, w_p (nI_eq (by omega) hm) (fun g => ?_) (fun g => ?_)⟩) (fun h => ?_)) (fun h => absurd hk (by omega)) rfl rfl (by omega) (by omega)
    · rw [fa_cnt_yes (isE_t h g)] at ih
      rw [nI_1]; exact ih
    · rw [fa_cnt_no (isE_f (fun z => g z.2))] at ih
      rw [add0]; exact ih
    · rw [fa_cnt_no (isE_f (fun z => h z.1))] at ih
      rw [add0]; exact ih
  · refine b_248_25 hS ?_
    rw [hG.many]
    have hc1 := fa_cnt_le (fr1 (isW F (tn ties P) 0)) (2 ^ P)
    have hc2 := fa_cnt_le (isE F (tn ties P) on m) (2 ^ P)
    have hK := nK_sil (P := P) (F := F) (ties := ties)
    have hM : fa_cnt (isE F (tn ties P) on m) (2 ^ P) = nK F (tn ties P) P * fa_cnt (isE (bas F ties (tn ties P) P) (tn ties P) on m) (2 ^ P) := nQ_mul (F := F) (ties := ties) P (Nat.le_refl P) (fun v => decide (pcn (on ^^^ v) = m))
    refine pk_lt (2 ^ P) (2 ^ P) (fun h => absurd h (by omega)) (fun _ => ⟨_, _, c_234 hS hG, hS, ?_, ?_⟩) rfl rfl (by omega) (by omega)
    · rw [nI_1, ← hK]
      exact nI_ne0 (by omega) (by omega)
    · rw [nI_1, ← hK, pk_div (by omega) (by omega) (by omega), hM, Nat.mul_div_cancel_left _ (by omega)]
end Rank
