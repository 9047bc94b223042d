/-! ===== laws, second side: knot by knot ===== -/
section LawOf2
variable {t : Nat} {σ : Mm} {sp kn pt ot nm : Nat → Nat}
def jv (k : Nat) (a b : Int64) (e : Bool) : Int64 × Bool := match jo k a b with
  | some v => (if e = true ∧ 11 ≤ k then 0 else v, e)
  | none => (0, true)
theorem jv_hi {k : Nat} {a b : Int64} {e : Bool} (h : 11 ≤ k) : jv k a b e = ((match jo k a b with
    | some v => if e = true then 0 else v
    | none => 0), (match jo k a b with
    | some _ => e
    | none => true)) := by
  unfold jv
  cases jo k a b with
  | none => rfl
  | some v =>
    show (if e = true ∧ 11 ≤ k then 0 else v, e) = (if e = true then 0 else v, e)
    by_cases c : e = true
    · rw [if_pos ⟨c, h⟩, if_pos c]
    · rw [if_neg (fun z => c z.1), if_neg c]
theorem jv_lo {k : Nat} {a b v : Int64} {e : Bool} (h : k < 11) (hj : jo k a b = some v) : jv k a b e = (v, e) := by
  unfold jv
  rw [hj]
  show (if e = true ∧ 11 ≤ k then 0 else v, e) = _
  rw [if_neg (by omega)]
theorem c_194j {i : Nat} {a b : Int64} {e : Bool} (hS : Sg t σ) (hi : i < 64) (k3 : 3 ≤ kn i) (k4 : kn i ≤ 14) (hp : pt i < 64) (ho : ot i < 64) (hK : mI σ 75 i = nI (kn i)) (hPt : mI σ 76 i = nI (pt i)) (hOt : mI σ 77 i = nI (ot i)) (ha : mL σ 81 (pt i) = a) (hb : mL σ 81 (ot i) = b) (ba : Bnd a) (he : Er σ e) : ∃ σ', Cl 194 [.ref 59, .int (nI i)] σ (some (.long (jv (kn i) a b e).1), σ') ∧ Fr We σ σ' ∧ Er σ' (jv (kn i) a b e).2 := by
  have key : ∀ w, ((nI (kn i) = 3 → ((a = 0 → w = (some (.long 0), σ)) ∧ (¬ a = 0 → ((b = 0 → w = (some (.long 0), σ)) ∧ (¬ b = 0 → w = (some (.long 1), σ)))))) ∧ (nI (kn i) = 4 → ((a = 0 → ((b = 0 → w = (some (.long 0), σ)) ∧ (¬ b = 0 → w = (some (.long 1), σ)))) ∧ (¬ a = 0 → w = (some (.long 1), σ)))) ∧ (nI (kn i) = 11 → (∃ (v6 : Int64) (σ4 : Mm), Cl 191 [.ref 59, .long (a + b)] σ (some (.long v6), σ4) ∧ Sg t σ4 ∧ (w = (some (.long v6), σ4)))) ∧ (nI (kn i) = 12 → (∃ (v9 : Int64) (σ7 : Mm), Cl 191 [.ref 59, .long (a - b)] σ (some (.long v9), σ7) ∧ Sg t σ7 ∧ (w = (some (.long v9), σ7)))) ∧ (nI (kn i) = 13 → (∃ (v12 : Int64) (σ10 : Mm), Cl 193 [.ref 59, .long a, .long b] σ (some (.long v12), σ10) ∧ Sg t σ10 ∧ (w = (some (.long v12), σ10)))) ∧ (nI (kn i) = 14 → Ev 194 220 [.ref 59, .int (nI i), .long a, .float 0, .long b, .float 0] [] σ w) ∧ ((¬ nI (kn i) = 3 ∧ ¬ nI (kn i) = 4 ∧ ¬ nI (kn i) = 11 ∧ ¬ nI (kn i) = 12 ∧ ¬ nI (kn i) = 13 ∧ ¬ nI (kn i) = 14) → (∃ (v3 : Int32) (σ1 : Mm), Cl 192 [.int (nI (kn i)), .long a, .long b] σ (some (.int v3), σ1) ∧ Sg t σ1 ∧ ((v3 = 0 → w = (some (.long 0), σ1)) ∧ (¬ (v3 = 0) → w = (some (.long 1), σ1)))))) → Cl 194 [.ref 59, .int (nI i)] σ w := by
    intro w ⟨g3, g4, g11, g12, g13, g14, gd⟩
    have i128 : inb (nI i) 128 = true := inb_nI (by omega) (by decide)
    refine ck_194 hS (b_194_0 hS ?_)
    rw [nI_clamp (n := i) (by omega), hK, hPt, hOt, nI_clamp (n := pt i) (by omega), nI_clamp (n := ot i) (by omega), ha, hb]
    have n0 : ¬ nI (kn i) = 0 := fun z => by rw [nI_i0 (by omega)] at z; omega
    have n1 : ¬ nI (kn i) = 1 := fun z => by have := (nI_eq (b := 1) (by omega) (by omega)).mp z; omega
    have n2 : ¬ nI (kn i) = 2 := fun z => by have := (nI_eq (b := 2) (by omega) (by omega)).mp z; omega
    refine ⟨i128, fun z => absurd z n0, fun _ => ⟨i128, fun z => absurd z n1, fun _ => ⟨i128, inb_nI hp (by decide), i128, fun z => absurd z n2, fun _ => ⟨i128, inb_nI ho (by decide), i128, ?_⟩⟩⟩⟩
    refine ⟨fun z => ⟨fun y => b_194_173 hS ((g3 z).1 y), fun y => ⟨fun x => b_194_173 hS (((g3 z).2 y).1 x), fun x => b_194_169 hS (((g3 z).2 y).2 x)⟩⟩, fun z => ⟨fun y => ⟨fun x => b_194_192 hS (((g4 z).1 y).1 x), fun x => b_194_188 hS (((g4 z).1 y).2 x)⟩, fun y => b_194_188 hS ((g4 z).2 y)⟩, g11, g12, g13, g14, fun z => ⟨i128, ?_⟩⟩
    obtain ⟨v, σ1, q1, q2, q3, q4⟩ := gd z
    exact ⟨v, σ1, q1, q2, fun y => b_194_278 q2 (q3 y), fun y => b_194_274 q2 (q4 y)⟩
  have lo : ∀ c : Bool, kn i < 11 → jo (kn i) a b = some (t1 c) → (∀ w, w = (some (.long (t1 c)), σ) → Cl 194 [.ref 59, .int (nI i)] σ w) → ∃ σ', Cl 194 [.ref 59, .int (nI i)] σ (some (.long (jv (kn i) a b e).1), σ') ∧ Fr We σ σ' ∧ Er σ' (jv (kn i) a b e).2 := by
    intro c hk hj h
    rw [jv_lo hk hj]
    exact ⟨σ, h _ rfl, Fr.rf σ, he⟩
  have hk : kn i = 3 ∨ kn i = 4 ∨ (5 ≤ kn i ∧ kn i ≤ 10) ∨ kn i = 11 ∨ kn i = 12 ∨ kn i = 13 ∨ kn i = 14 := by omega
  have dd : ∀ {A : Prop} {k j : Nat}, kn i = k → k ≠ j → k < 100 → j < 100 → (nI (kn i) = nI j → A) := fun {A k j} e h1 h2 h3 z => absurd ((nI_eq (by omega) (by omega)).mp z) (by omega)
  have one : ∀ v, mI (uI σ 59 48 v) 59 48 = v := fun v => by rw [mI_uI, if_pos ⟨rfl, rfl⟩]
  have fr : ∀ v, Fr We σ (uI σ 59 48 v) := fun v => (Fr.rf σ).uI ⟨rfl, rfl⟩
  rcases hk with hk | hk | hk | hk | hk | hk | hk
  · refine lo (decide (¬ a = 0) && decide (¬ b = 0)) (by omega) (by rw [hk]; rfl) (fun w ew => key w ⟨fun _ => ?_, dd (j := 4) hk (by decide) (by decide) (by decide), dd (j := 11) hk (by decide) (by decide) (by decide), dd (j := 12) hk (by decide) (by decide) (by decide), dd (j := 13) hk (by decide) (by decide) (by decide), dd (j := 14) hk (by decide) (by decide) (by decide), fun z => absurd (by rw [hk]; rfl) z.1⟩)
    rw [ew]
    exact ⟨fun z => by simp [z, t1], fun z => ⟨fun y => by simp [y, t1], fun y => by simp [z, y, t1]⟩⟩
  · refine lo (decide (¬ a = 0) || decide (¬ b = 0)) (by omega) (by rw [hk]; rfl) (fun w ew => key w ⟨dd (j := 3) hk (by decide) (by decide) (by decide), fun _ => ?_, dd (j := 11) hk (by decide) (by decide) (by decide), dd (j := 12) hk (by decide) (by decide) (by decide), dd (j := 13) hk (by decide) (by decide) (by decide), dd (j := 14) hk (by decide) (by decide) (by decide), fun z => absurd (by rw [hk]; rfl) z.2.1⟩)
    rw [ew]
    exact ⟨fun z => ⟨fun y => by simp [z, y, t1], fun y => by simp [y, t1]⟩, fun z => by simp [z, t1]⟩
  · obtain ⟨c, hj, hc⟩ := c_192 (a := a) (b := b) hS hk.1 hk.2
    have d2 : ∀ {A : Prop} {j : Nat}, (kn i < j ∨ j < kn i) → j < 100 → (nI (kn i) = nI j → A) := fun {A j} h1 h3 z => absurd ((nI_eq (by omega) (by omega)).mp z) (by omega)
    refine lo c (by omega) hj (fun w ew => key w ⟨d2 (j := 3) (by omega) (by decide), d2 (j := 4) (by omega) (by decide), d2 (j := 11) (by omega) (by decide), d2 (j := 12) (by omega) (by decide), d2 (j := 13) (by omega) (by decide), d2 (j := 14) (by omega) (by decide), fun _ => ⟨_, _, hc, hS, w_b (fun z => ?_) (fun z => ?_)⟩⟩)
    · rw [ew, z]; rfl
    · rw [ew, z]; rfl
  · obtain ⟨σ', h, g1, g2⟩ := c_191 (y := a + b) hS he
    rw [jv_hi (by omega), hk]
    refine ⟨σ', key _ ⟨dd (j := 3) hk (by decide) (by decide) (by decide), dd (j := 4) hk (by decide) (by decide) (by decide), fun _ => ⟨_, _, h, g1.sg hS, rfl⟩, dd (j := 12) hk (by decide) (by decide) (by decide), dd (j := 13) hk (by decide) (by decide) (by decide), dd (j := 14) hk (by decide) (by decide) (by decide), fun z => absurd (by rw [hk]; rfl) z.2.2.1⟩, g1, g2⟩
  · obtain ⟨σ', h, g1, g2⟩ := c_191 (y := a - b) hS he
    rw [jv_hi (by omega), hk]
    refine ⟨σ', key _ ⟨dd (j := 3) hk (by decide) (by decide) (by decide), dd (j := 4) hk (by decide) (by decide) (by decide), dd (j := 11) hk (by decide) (by decide) (by decide), fun _ => ⟨_, _, h, g1.sg hS, rfl⟩, dd (j := 13) hk (by decide) (by decide) (by decide), dd (j := 14) hk (by decide) (by decide) (by decide), fun z => absurd (by rw [hk]; rfl) z.2.2.2.1⟩, g1, g2⟩
  · obtain ⟨σ', h, g1, g2⟩ := c_193 (a := a) (b := b) hS he ba
    rw [jv_hi (by omega), hk]
    refine ⟨σ', key _ ⟨dd (j := 3) hk (by decide) (by decide) (by decide), dd (j := 4) hk (by decide) (by decide) (by decide), dd (j := 11) hk (by decide) (by decide) (by decide), dd (j := 12) hk (by decide) (by decide) (by decide), fun _ => ⟨_, _, h, g1.sg hS, rfl⟩, dd (j := 14) hk (by decide) (by decide) (by decide), fun z => absurd (by rw [hk]; rfl) z.2.2.2.2.1⟩, g1, g2⟩
  · have ej : jo 14 a b = if b = 0 then none else some (a / b) := rfl
    unfold Er at he
    have h := fun w => b_194_220 (w := w) (x1 := nI i) (y2 := a) (y4 := b) hS
    rw [he] at h
    have fin : ∀ σ', Ev 194 220 [.ref 59, .int (nI i), .long a, .float 0, .long b, .float 0] [] σ (some (.long (jv 14 a b e).1), σ') → Cl 194 [.ref 59, .int (nI i)] σ (some (.long (jv (kn i) a b e).1), σ') := by
      intro σ' h2
      rw [hk]
      exact key _ ⟨dd (j := 3) hk (by decide) (by decide) (by decide), dd (j := 4) hk (by decide) (by decide) (by decide), dd (j := 11) hk (by decide) (by decide) (by decide), dd (j := 12) hk (by decide) (by decide) (by decide), dd (j := 13) hk (by decide) (by decide) (by decide), fun _ => h2, fun z => absurd (by rw [hk]; rfl) z.2.2.2.2.2⟩
    have e14 : (jv (kn i) a b e) = jv 14 a b e := by rw [hk]
    by_cases b0 : b = 0
    · have e2 : jv 14 a b e = (0, true) := by rw [jv_hi (by decide), ej, if_pos b0]
      refine ⟨uI σ 59 48 1, fin _ (h _ ?_), fr 1, ?_⟩
      · rw [e2]
        refine w_b (fun _ => ⟨fun _ => ?_, fun z => absurd b0 z⟩) (fun _ => ?_)
        all_goals exact ⟨fun z => absurd z (by rw [one]; decide), fun _ => rfl⟩
      · rw [e14, e2]; exact one 1
    · have e2 : jv 14 a b e = (if e = true then 0 else a / b, e) := by rw [jv_hi (by decide), ej, if_neg b0]
      cases e with
      | true =>
        refine ⟨uI σ 59 48 1, fin _ (h _ ?_), fr 1, ?_⟩
        · rw [e2]
          exact w_b (fun z => absurd z (by decide)) (fun _ => ⟨fun z => absurd z (by rw [one]; decide), fun _ => rfl⟩)
        · rw [e14, e2]; exact one 1
      | false =>
        refine ⟨uI σ 59 48 0, fin _ (h _ ?_), fr 0, ?_⟩
        · rw [e2]
          exact w_b (fun _ => ⟨fun z => absurd z b0, fun _ => ⟨fun _ => ⟨b0, rfl⟩, fun z => absurd (one 0) z⟩⟩) (fun z => absurd z (by decide))
        · rw [e14, e2]; exact one 0
/-- the second side's knots from f to l -/
def MK (σ : Mm) (kn pt ot : Nat → Nat) (l : Nat) : Prop := ∀ i, i < l → mI σ 75 i = nI (kn i) ∧ mI σ 76 i = nI (pt i) ∧ (3 ≤ kn i → mI σ 77 i = nI (ot i))
theorem c_194 {i f m : Nat} {r s : List Nat} (hS : Sg t σ) (hi : i < 64) (hK : MK σ kn pt ot (i + 1)) (hm : ∀ j, j < 7 → mL σ 80 j = lN (nm j)) (hr : ∀ x, x ∈ r → x < 64 ∧ mL σ 81 x = (ks kn pt ot nm f m).1 x ∧ Bnd ((ks kn pt ot nm f m).1 x)) (he : Er σ (ks kn pt ot nm f m).2) (hst : sk1 sp kn pt ot i r = some s) : ∃ σ', Cl 194 [.ref 59, .int (nI i)] σ (some (.long (kv kn pt ot nm i (ks kn pt ot nm f m)).1), σ') ∧ Fr We σ σ' ∧ Er σ' (kv kn pt ot nm i (ks kn pt ot nm f m)).2 := by
  obtain ⟨q1, q2, q3⟩ := hK i (by omega)
  have i128 : inb (nI i) 128 = true := inb_nI (by omega) (by decide)
  rcases sk1_spec hst with ⟨k0, s0, p0, es⟩ | ⟨k0, s0, p0, es⟩ | ⟨k0, s0, r1, er, es⟩ | ⟨k3, k4, s0, r1, er, es⟩
  · have ekv : kv kn pt ot nm i (ks kn pt ot nm f m) = (lN (pt i), (ks kn pt ot nm f m).2) := if_pos k0
    rw [ekv]
    refine ⟨σ, ck_194 hS (b_194_0 hS ?_), Fr.rf σ, he⟩
    rw [nI_clamp (n := i) (by omega), q1, q2, k0, nI_l (by omega)]
    exact ⟨i128, fun _ => ⟨i128, rfl⟩, fun z => absurd rfl z⟩
  · have ekv : kv kn pt ot nm i (ks kn pt ot nm f m) = (lN (nm (pt i)), (ks kn pt ot nm f m).2) := by
      unfold kv
      rw [if_neg (by omega), if_pos k0]
    rw [ekv]
    refine ⟨σ, ck_194 hS (b_194_0 hS ?_), Fr.rf σ, he⟩
    rw [nI_clamp (n := i) (by omega), q1, q2, k0, nI_clamp (n := pt i) (by omega), hm _ (by omega)]
    exact ⟨i128, fun z => absurd z (by decide), fun _ => ⟨i128, fun _ => ⟨i128, inb_nI (by omega) (by decide), rfl⟩, fun z => absurd rfl z⟩⟩
  · subst er
    obtain ⟨b1, b2, b3⟩ := hr (pt i) (by simp)
    have ekv : kv kn pt ot nm i (ks kn pt ot nm f m) = (t1 (decide ((ks kn pt ot nm f m).1 (pt i) = 0)), (ks kn pt ot nm f m).2) := by
      unfold kv
      rw [if_neg (by omega), if_neg (by omega), if_pos k0]
    rw [ekv]
    refine ⟨σ, ck_194 hS (b_194_0 hS ?_), Fr.rf σ, he⟩
    rw [nI_clamp (n := i) (by omega), q1, q2, k0, nI_clamp (n := pt i) (by omega), b2]
    refine ⟨i128, fun z => absurd z (by decide), fun _ => ⟨i128, fun z => absurd z (by decide), fun _ => ⟨i128, inb_nI b1 (by decide), i128, fun _ => ⟨fun z => ?_, fun z => ?_⟩, fun z => absurd rfl z⟩⟩⟩
    · rw [decide_eq_true z]; rfl
    · rw [decide_eq_false z]; rfl
  · subst er
    obtain ⟨a1, a2, a3⟩ := hr (pt i) (by simp)
    obtain ⟨b1, b2, b3⟩ := hr (ot i) (by simp)
    have ekv : kv kn pt ot nm i (ks kn pt ot nm f m) = jv (kn i) ((ks kn pt ot nm f m).1 (pt i)) ((ks kn pt ot nm f m).1 (ot i)) (ks kn pt ot nm f m).2 := by
      unfold kv jv
      rw [if_neg (by omega), if_neg (by omega), if_neg (by omega)]
      cases jo (kn i) ((ks kn pt ot nm f m).1 (pt i)) ((ks kn pt ot nm f m).1 (ot i)) <;> rfl
    rw [ekv]
    exact c_194j hS hi k3 k4 a1 b1 q1 q2 (q3 k3) a2 b2 a3 he
def Wlo (a i : Nat) : Prop := (a = 59 ∧ i = 48) ∨ a = 81
theorem c_208 {q f l : Nat} (hS : Sg t σ) (hq : q < 3) (hf : mI σ 73 q = nI f) (hl : mI σ 74 q = nI l) (hfl : f < l) (hl64 : l ≤ 64) (hK : MK σ kn pt ot l) (hm : ∀ j, j < 7 → mL σ 80 j = lN (nm j)) (hn : ∀ j, j ≤ 6 → nm j < 2 ^ 31) (hk : sk sp kn pt ot f (l - f) = some [l - 1]) :
    ∃ σ', Cl 208 [.ref 59, .int (nI q)] σ (some (.long (match lwo kn pt ot nm f l with
      | some v => v
      | none => 0)), σ') ∧ Fr Wlo σ σ' ∧ Er σ' (match lwo kn pt ot nm f l with
      | some _ => false
      | none => true) := by
  suffices h : ∃ σ', Ev 208 12 [.ref 59, .int (nI q), .int (nI (f + 0))] [] (uI σ 59 48 0) (some (.long (match lwo kn pt ot nm f l with
      | some v => v
      | none => 0)), σ') ∧ Fr Wlo σ σ' ∧ Er σ' (match lwo kn pt ot nm f l with
      | some _ => false
      | none => true) by
    obtain ⟨σ', h, g⟩ := h
    refine ⟨σ', ck_208 hS (b_208_0 hS ⟨inb_nI (by omega) (by decide), ?_⟩), g⟩
    rw [nI_clamp (by omega), mI_uI, if_neg (by omega), hf]
    exact h
  refine lp (fun m σ1 => Fr Wlo σ σ1 ∧ Er σ1 (ks kn pt ot nm f m).2 ∧ ∀ x, f ≤ x → x < f + m → mL σ1 81 x = (ks kn pt ot nm f m).1 x) (fun m σ1 => ∃ σ', Ev 208 12 [.ref 59, .int (nI q), .int (nI (f + m))] [] σ1 (some (.long (match lwo kn pt ot nm f l with
      | some v => v
      | none => 0)), σ') ∧ Fr Wlo σ σ' ∧ Er σ' (match lwo kn pt ot nm f l with
      | some _ => false
      | none => true)) (l - f) ?_ ?_ (Nat.zero_le _) ⟨(Fr.rf σ).uI (Or.inl ⟨rfl, rfl⟩), by unfold Er; rw [mI_uI, if_pos ⟨rfl, rfl⟩]; rfl, fun x h1 h2 => by omega⟩
  · intro m σ1 hm1 ⟨hF, he, hv⟩ ih
    have hS1 := hF.sg hS
    have rd : ∀ a i, a ≠ 59 → a ≠ 81 → mI σ1 a i = mI σ a i ∧ mL σ1 a i = mL σ a i := fun a i h1 h2 => hF.1 a i (by unfold Wlo; omega)
    obtain ⟨s, hs1⟩ := sk_le hk (m + 1) (by omega)
    obtain ⟨r, hr, hst⟩ := sk_pre hs1
    obtain ⟨rin, _⟩ := sk_in hr
    have hK1 : MK σ1 kn pt ot (f + m + 1) := fun i hi => by
      rw [(rd 75 i (by decide) (by decide)).1, (rd 76 i (by decide) (by decide)).1, (rd 77 i (by decide) (by decide)).1]
      exact hK i (by omega)
    obtain ⟨σ2, h2, f2, e2⟩ := c_194 (m := m) hS1 (by omega) hK1 (fun j hj => ((rd 80 j (by decide) (by decide)).2).trans (hm j hj)) (fun x hx => ⟨by have := rin x hx; omega, hv x (rin x hx).1 (rin x hx).2, ks_bnd hk hn m (by omega) x (rin x hx).1 (rin x hx).2⟩) he hst
    have f2' : Fr Wlo σ1 σ2 := f2.mono (fun a i h => Or.inl h)
    obtain ⟨σ', h, g⟩ := ih (uL σ2 81 (f + m) (kv kn pt ot nm (f + m) (ks kn pt ot nm f m)).1) ⟨(hF.tr f2').uL (Or.inr rfl), e2, fun x h1 h3 => by
      rw [mL_uL]
      by_cases e : x = f + m
      · subst e
        rw [if_pos ⟨rfl, rfl⟩]
        exact fu_s.symm
      · rw [if_neg (by omega), (f2.1 81 x (by unfold We; omega)).2, hv x h1 (by omega)]
        exact (fu_n e).symm⟩
    refine ⟨σ', b_208_12 hS1 ⟨inb_nI (by omega) (by decide), ?_⟩, g⟩
    rw [nI_clamp (n := q) (by omega), nI_clamp (n := f + m) (by omega), (rd 74 q (by decide) (by decide)).1, hl]
    refine pk_lt (f + m) l (fun _ => ⟨_, _, h2, f2'.sg hS1, inb_nI (by omega) (by decide), ?_⟩) (fun z => absurd z (by omega)) rfl rfl (by omega) (by omega)
    have nf : nI (f + m) + 1 = nI (f + (m + 1)) := nI_add (f + m) 1
    rw [nf]
    exact h
  · intro σ1 ⟨hF, he, hv⟩
    have hS1 := hF.sg hS
    have e74 : mI σ1 74 q = nI l := ((hF.1 74 q (by unfold Wlo; omega)).1).trans hl
    refine ⟨σ1, b_208_12 hS1 ⟨inb_nI (by omega) (by decide), ?_⟩, hF, ?_⟩
    · have el : mL σ1 81 (l - 1) = (ks kn pt ot nm f (l - f)).1 (l - 1) := hv (l - 1) (by omega) (by omega)
      unfold Er at he
      rw [nI_clamp (n := q) (by omega), e74, show f + (l - f) = l by omega, nI_sub1 (by omega), nI_clamp (n := l - 1) (by omega), he, el]
      refine pk_lt l l (fun z => absurd z (Nat.lt_irrefl _)) (fun _ => w_b (fun z => ⟨inb_nI (by omega) (by decide), inb_nI (by omega) (by decide), ?_⟩) (fun z => ?_)) rfl rfl (by omega) (by omega)
      · rw [lwo, if_neg (by rw [z]; decide)]
      · rw [lwo, if_pos z]
    · cases ee : (ks kn pt ot nm f (l - f)).2 with
      | true => rw [lwo, if_pos ee]; rw [ee] at he; exact he
      | false => rw [lwo, if_neg (by rw [ee]; decide)]; rw [ee] at he; exact he
end LawOf2
