/-! ===== specs: questions about sets, the other side ===== -/
section Sets4
variable {t P F : Nat} {tz : Nat → Nat} {σ : Mm}
def Gm (P F : Nat) (tz : Nat → Nat) (σ : Mm) : Prop := (P ≤ 10 ∧ F < 2 ^ 10 ∧ ∀ s, tz s < 2 ^ 14) ∧ mI σ 59 13 = nI P ∧ mI σ 59 65 = nI F ∧ ∀ s, s < 2 ^ P → mI σ 91 s = nI (tz s)
theorem Gm.hp {P F : Nat} {tz : Nat → Nat} {σ : Mm} (h : Gm P F tz σ) : P ≤ 10 := h.1.1
theorem Gm.hf {P F : Nat} {tz : Nat → Nat} {σ : Mm} (h : Gm P F tz σ) : F < 2 ^ 10 := h.1.2.1
theorem Gm.z {P F : Nat} {tz : Nat → Nat} {σ : Mm} (h : Gm P F tz σ) : ∀ s, tz s < 2 ^ 14 := h.1.2.2
theorem Gm.pu {P F : Nat} {tz : Nat → Nat} {σ : Mm} (h : Gm P F tz σ) : mI σ 59 13 = nI P := h.2.1
theorem Gm.many {P F : Nat} {tz : Nat → Nat} {σ : Mm} (h : Gm P F tz σ) : (1 : Int32) <<< (mI σ 59 13 &&& 31) = nI (2 ^ P) := by
  have := h.hp
  rw [h.pu]; exact nI_one (by omega)
theorem Gm.free {P F : Nat} {tz : Nat → Nat} {σ : Mm} (h : Gm P F tz σ) : mI σ 59 65 = nI F := h.2.2.1
theorem Gm.tn {P F : Nat} {tz : Nat → Nat} {σ : Mm} (h : Gm P F tz σ) : ∀ s, s < 2 ^ P → mI σ 91 s = nI (tz s) := h.2.2.2
/-- the pulls that are not stuck -/
def fre (P K : Nat) : Nat := (2 ^ P - 1) ^^^ ((2 ^ P - 1) &&& K)
theorem fre_lt {P K : Nat} (h : P ≤ 10) : fre P K < 2 ^ 10 := by
  have hp := p2_le h
  have h1 : 2 ^ P - 1 < 2 ^ 10 := by omega
  exact Nat.xor_lt_two_pow h1 (Nat.lt_of_le_of_lt Nat.and_le_left h1)
theorem fre_i {P K : Nat} (h : P ≤ 10) : (((1 : Int32) <<< (nI P &&& 31)) - 1) &&& (nI K ^^^ (-1)) = nI (fre P K) := by
  have h1 : 1 ≤ 2 ^ P := Nat.one_le_two_pow
  have e : nI (2 ^ P) - 1 = nI (2 ^ P - 1) := pk_sub (a := 2 ^ P) (b := 1) h1
  rw [nI_one (by omega), e, nI_andn]
  rfl
def Wt (a i : Nat) : Prop := (a = 59 ∧ i = 65) ∨ a = 91
theorem c_226 {K : Nat} {ties : Nat → Nat} (hS : Sg t σ) (hP : mI σ 59 13 = nI P) (hp : P ≤ 10) (hK : mI σ 84 0 = nI K) (ht : ∀ i, i < P → mI σ 89 i = nI (ties i)) (hb : ∀ i, i < P → ties i < 2 ^ 14) :
    ∃ σ', Cl 226 [.ref 59] σ (none, σ') ∧ Fr Wt σ σ' ∧ Gm P (fre P K) (tn ties P) σ' := by
  have hp2 := p2_le hp
  have kP : ∀ σ', Fr Wt σ σ' → mI σ' 59 13 = nI P := fun σ' hf => ((hf.1 59 13 (by unfold Wt; omega)).1).trans hP
  have kT : ∀ σ', Fr Wt σ σ' → ∀ i, i < P → mI σ' 89 i = nI (ties i) := fun σ' hf i hi => ((hf.1 89 i (by unfold Wt; omega)).1).trans (ht i hi)
  suffices h : ∀ σ1, (Fr Wt σ σ1 ∧ mI σ1 59 65 = nI (fre P K)) → ∀ z, ∃ σ', Ev 226 23 [.ref 59, .int (nI 0), z] [] σ1 (none, σ') ∧ Fr Wt σ σ' ∧ Gm P (fre P K) (tn ties P) σ' by
    obtain ⟨σ', h, g⟩ := h (uI σ 59 65 (nI (fre P K))) ⟨(Fr.rf σ).uI (Or.inl ⟨rfl, rfl⟩), by rw [mI_uI, if_pos ⟨rfl, rfl⟩]⟩ (.retAddr 0)
    refine ⟨σ', ck_226 hS (b_226_0 hS ?_), g⟩
    intro σ1 e1
    rw [hP, hK, fre_i hp] at e1
    subst e1
    exact h
  intro σ1 h1
  refine lp (fun k σ' => (Fr Wt σ σ' ∧ mI σ' 59 65 = nI (fre P K)) ∧ ∀ s, s < k → mI σ' 91 s = nI (tn ties P s)) (fun k σ1 => ∀ z, ∃ σ', Ev 226 23 [.ref 59, .int (nI k), z] [] σ1 (none, σ') ∧ Fr Wt σ σ' ∧ Gm P (fre P K) (tn ties P) σ') (2 ^ P) ?_ ?_ (Nat.zero_le _) ⟨h1, fun s hs => absurd hs (Nat.not_lt_zero s)⟩
  · intro k σ2 hk ⟨⟨hf2, hF2⟩, hlo⟩ ih z
    have hin : ∃ σ', Ev 226 42 [.ref 59, .int (nI k), .int (nI 0)] [] (uI σ2 91 k 0) (none, σ') ∧ Fr Wt σ σ' ∧ Gm P (fre P K) (tn ties P) σ' := by
      refine lp (fun p σ' => ((Fr Wt σ σ' ∧ mI σ' 59 65 = nI (fre P K)) ∧ ∀ s, s < k → mI σ' 91 s = nI (tn ties P s)) ∧ mI σ' 91 k = nI (tn ties p k)) (fun p σ1 => ∃ σ', Ev 226 42 [.ref 59, .int (nI k), .int (nI p)] [] σ1 (none, σ') ∧ Fr Wt σ σ' ∧ Gm P (fre P K) (tn ties P) σ') P ?_ ?_ (Nat.zero_le _) ⟨⟨⟨hf2.uI (Or.inr rfl), hF2⟩, fun s hs => by rw [mI_uI, if_neg (by omega)]; exact hlo s hs⟩, by rw [mI_uI, if_pos ⟨rfl, rfl⟩]; rfl⟩
      · intro p σ3 hpp ⟨⟨⟨hf3, hF3⟩, hlo3⟩, hk3⟩ ih3
        have hS3 := hf3.sg hS
        have e : tn ties (p + 1) k = tn ties p k ^^^ (if k.testBit p = true then ties p else 0) := rfl
        obtain ⟨σ', h, g⟩ := ih3 (uI σ3 91 k (nI (tn ties (p + 1) k))) ⟨⟨⟨hf3.uI (Or.inr rfl), hF3⟩, fun s hs => by rw [mI_uI, if_neg (by omega)]; exact hlo3 s hs⟩, by rw [mI_uI, if_pos ⟨rfl, rfl⟩]⟩
        refine ⟨σ', b_226_42 hS3 ?_, g⟩
        rw [kP σ3 hf3]
        refine pk_lt p P (fun _ => ⟨inb_nI (by omega) (by decide), _, _, c_153 hS3 (by omega) (by omega), hS3, w_b (fun hb0 => ⟨inb_nI (by omega) (by decide), ?_⟩) (fun hb1 => ⟨inb_nI (by omega) (by decide), inb_nI (by omega) (by decide), ?_⟩)⟩) (fun z => absurd hpp (by omega))
        · intro σ4 e4
          rw [hb0] at e
          have e' : tn ties (p + 1) k = tn ties p k := e.trans (Nat.xor_zero _)
          rw [nI_clamp (by omega), hk3] at e4
          have e5 : nI (tn ties p k) ^^^ (0 : Int32) = nI (tn ties (p + 1) k) := by rw [e']; exact Int32.xor_zero
          rw [e5] at e4
          rw [e4, nI_1]
          exact h
        · intro σ4 e4
          rw [if_pos hb1] at e
          rw [nI_clamp (by omega), nI_clamp (by omega), hk3, kT σ3 hf3 p hpp, nI_xor, ← e] at e4
          rw [e4, nI_1]
          exact h
      · intro σ3 ⟨⟨⟨hf3, hF3⟩, hlo3⟩, hk3⟩
        have hS3 := hf3.sg hS
        obtain ⟨σ', h, g⟩ := ih σ3 ⟨⟨hf3, hF3⟩, fun s hs => by
          rcases Nat.lt_or_ge s k with g | g
          · exact hlo3 s g
          · have : s = k := by omega
            subst this; exact hk3⟩ (.int (nI P))
        refine ⟨σ', b_226_42 hS3 ?_, g⟩
        rw [kP σ3 hf3, nI_1 k]
        exact pk_lt P P (fun z => absurd z (Nat.lt_irrefl _)) (fun _ => h)
    obtain ⟨σ', h, g⟩ := hin
    refine ⟨σ', b_226_23 (hf2.sg hS) ?_, g⟩
    rw [kP σ2 hf2, nI_one (by omega), nI_clamp (by omega)]
    exact pk_lt k (2 ^ P) (fun _ => ⟨inb_nI (by omega) (by decide), h⟩) (fun z => absurd hk (by omega)) rfl rfl (by omega) (by omega)
  · intro σ2 ⟨⟨hf2, hF2⟩, hlo⟩ z
    refine ⟨σ2, b_226_23 (hf2.sg hS) ?_, hf2, ⟨hp, fre_lt hp, fun s => tn_lt P hb⟩, kP σ2 hf2, hF2, hlo⟩
    rw [kP σ2 hf2, nI_one (by omega)]
    exact pk_lt (2 ^ P) (2 ^ P) (fun z => absurd z (Nat.lt_irrefl _)) (fun _ => rfl) rfl rfl (by omega) (by omega)
theorem c_227 {s x : Nat} (hS : Sg t σ) (hG : Gm P F tz σ) (hs : s < 2 ^ P) (hx : x < 2 ^ 31) : Cl 227 [.ref 59, .int (nI s), .int (nI x)] σ (some (.int (if isW F tz x s = true then 1 else 0)), σ) := by
  have hp := p2_le hG.hp
  have hz := hG.z s
  refine ck_227 hS (b_227_0 hS ?_)
  rw [hG.free, nI_clamp (by omega), hG.tn s hs]
  refine w_p (andn0 (by omega)) (fun h => ⟨inb_nI (by omega) (by decide), w_p (nI_eq (by omega) hx) (fun g => ?_) (fun g => ?_)⟩) (fun h => ?_)
  · rw [if_pos]
    unfold isW
    rw [decide_eq_true h, decide_eq_true g]
    rfl
  · rw [if_neg]
    unfold isW
    rw [decide_eq_false g, Bool.and_false]
    decide
  · rw [if_neg]
    unfold isW
    rw [decide_eq_false h, Bool.false_and]
    decide
theorem add0 (x : Int32) : x + 0 = x := Int32.add_zero x
/-- ways, behind the laying of turns -/
theorem v_229 {x : Nat} {on : Nat} (hS : Sg t σ) (hG : Gm P F tz σ) (hO : mI σ 82 0 = nI on) (hx : x ^^^ on < 2 ^ 31) : Ev 229 23 [.ref 59, .int (nI x), .int 0, .int 0] [] σ (some (.int (nI (fa_cnt (isW F tz (x ^^^ on)) (2 ^ P)))), σ) := by
  have hp := p2_le hG.hp
  refine up_to (fun k => Ev 229 23 [.ref 59, .int (nI x), .int (nI (fa_cnt (isW F tz (x ^^^ on)) k)), .int (nI k)] [] σ (some (.int (nI (fa_cnt (isW F tz (x ^^^ on)) (2 ^ P)))), σ)) (2 ^ P) ?_ ?_ 0 (Nat.zero_le _)
  · intro k hk ih
    refine b_229_23 hS ?_
    rw [hG.many, hO, nI_xor]
    refine pk_lt k (2 ^ P) (fun _ => ⟨_, _, c_227 hS hG hk hx, hS, w_b (fun h => ?_) (fun h => ?_)⟩) (fun h => absurd hk (by omega)) rfl rfl (by omega) (by omega)
    · rw [fa_cnt_no h] at ih
      rw [nI_1, add0]; exact ih
    · rw [fa_cnt_yes h] at ih
      rw [nI_1, nI_1]; exact ih
  · refine b_229_23 hS ?_
    rw [hG.many]
    exact pk_lt (2 ^ P) (2 ^ P) (fun h => absurd h (by omega)) (fun _ => rfl) rfl rfl (by omega) (by omega)
theorem c_230 {x : Nat} (hS : Sg t σ) (hG : Gm P F tz σ) (hx : x < 2 ^ 31) : Cl 230 [.ref 59, .int (nI x)] σ (some (.int (oI (-2) (bst (isW F tz x) pcn (2 ^ P)))), σ) := by
  have hp := p2_le hG.hp
  refine ck_230 hS (b_230_0 hS ?_)
  refine up_to (fun k => Ev 230 5 [.ref 59, .int (nI x), .int (oI (-2) (bst (isW F tz x) pcn k)), .int (nI k)] [] σ (some (.int (oI (-2) (bst (isW F tz x) pcn (2 ^ P)))), σ)) (2 ^ P) ?_ ?_ 0 (Nat.zero_le _)
  · intro k hk ih
    refine b_230_5 hS ?_
    rw [hG.many]
    refine pk_lt k (2 ^ P) (fun _ => ⟨_, _, c_227 hS hG hk hx, hS, w_b (fun h => ?_) (fun h => ?_)⟩) (fun h => absurd hk (by omega)) rfl rfl (by omega) (by omega)
    · rw [bst_no h] at ih
      rw [nI_1]; exact ih
    · rw [nI_1]
      cases hb : bst (isW F tz x) pcn k with
      | none =>
        rw [bst_none h hb] at ih
        exact ⟨fun _ => ih, fun z => absurd (by decide) z⟩
      | some b =>
        rw [bst_some h hb] at ih
        have hb1 := (bst_ok hb).1
        refine ⟨fun z => absurd z (nI_pos (by omega)), fun _ => ⟨_, _, c_202 hS (by omega), hS, _, _, c_202 hS (by omega), hS, ?_⟩⟩
        have h1 := pcn_le k
        have h2 := pcn_le b
        refine pk_lt (pcn k) (pcn b) (fun z => ?_) (fun z => ?_) rfl rfl (by omega) (by omega)
        · rw [if_pos z] at ih; exact ih
        · rw [if_neg (by omega)] at ih; exact ih
  · refine b_230_5 hS ?_
    rw [hG.many]
    exact pk_lt (2 ^ P) (2 ^ P) (fun h => absurd h (by omega)) (fun _ => rfl) rfl rfl (by omega) (by omega)
theorem c_228 {s : Nat} {cost : Nat → Nat} (hS : Sg t σ) (hP : mI σ 59 13 = nI P) (hp : P ≤ 10) (hc : ∀ i, i < P → mI σ 67 i = nI (cost i)) (hs : s < 2 ^ 31) : Cl 228 [.ref 59, .int (nI s)] σ (some (.int (nI (cst cost s P))), σ) := by
  refine ck_228 hS (b_228_0 hS ?_)
  refine up_to (fun k => Ev 228 4 [.ref 59, .int (nI s), .int (nI (cst cost s k)), .int (nI k)] [] σ (some (.int (nI (cst cost s P))), σ)) P ?_ ?_ 0 (Nat.zero_le _)
  · intro k hk ih
    refine b_228_4 hS ?_
    rw [hP]
    refine pk_lt k P (fun _ => ⟨_, _, c_153 hS hs (by omega), hS, w_b (fun h => ?_) (fun h => ⟨inb_nI (by omega) (by decide), ?_⟩)⟩) (fun h => absurd hk (by omega))
    · have e : cst cost s (k + 1) = cst cost s k := by
        show cst cost s k + (if s.testBit k = true then cost k else 0) = _
        rw [h]; rfl
      rw [e] at ih
      rw [nI_1, add0]; exact ih
    · have e : cst cost s (k + 1) = cst cost s k + cost k := by
        show cst cost s k + (if s.testBit k = true then cost k else 0) = _
        rw [if_pos h]
      rw [e] at ih
      rw [nI_1, nI_clamp (by omega), hc k hk, nI_add]; exact ih
  · refine b_228_4 hS ?_
    rw [hP]
    exact pk_lt P P (fun h => absurd h (by omega)) (fun _ => rfl)
theorem c_234 (hS : Sg t σ) (hG : Gm P F tz σ) : Cl 234 [.ref 59] σ (some (.int (nI (fa_cnt (fr1 (isW F tz 0)) (2 ^ P)))), σ) := by
  have hp := p2_le hG.hp
  have hp1 : 1 ≤ 2 ^ P := Nat.one_le_two_pow
  refine ck_234 hS (b_234_0 hS ?_)
  have h0 := up_to (fun k => 1 ≤ k → Ev 234 4 [.ref 59, .int (nI (fa_cnt (fr1 (isW F tz 0)) k)), .int (nI k)] [] σ (some (.int (nI (fa_cnt (fr1 (isW F tz 0)) (2 ^ P)))), σ)) (2 ^ P) ?_ ?_ 1 hp1 (Nat.le_refl 1)
  · exact h0
  · intro k hk ih h1k
    have ih := ih (by omega)
    refine b_234_4 hS ?_
    rw [hG.many]
    refine pk_lt k (2 ^ P) (fun _ => ⟨_, _, c_227 (x := 0) hS hG hk (by decide), hS, w_b (fun h => ?_) (fun h => ?_)⟩) (fun h => absurd hk (by omega)) rfl rfl (by omega) (by omega)
    · rw [fa_cnt_no ((fr1_p h1k).trans h)] at ih
      rw [nI_1, add0]; exact ih
    · rw [fa_cnt_yes ((fr1_p h1k).trans h)] at ih
      rw [nI_1, nI_1]; exact ih
  · intro _
    refine b_234_4 hS ?_
    rw [hG.many]
    exact pk_lt (2 ^ P) (2 ^ P) (fun h => absurd h (by omega)) (fun _ => rfl) rfl rfl (by omega) (by omega)
end Sets4
