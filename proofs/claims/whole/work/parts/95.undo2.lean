/-! ===== remembering, taking back: second side ===== -/
section Undo2
variable {t : Nat} {σ : Mm} {D H : Nat → Nat → Nat}
theorem c_266 {a n b P : Nat} (hS : Sg t σ) (h1 : KS[a]? = some (11, n)) (ha : a = 96 ∨ a = 97) (hb : b + 24 ≤ n) (hn : n < 2 ^ 31) (hP : P ≤ 10) (hM : MH σ 0 P H) : ∃ σ', Cl 266 [.ref 59, .ref a, .int (nI b)] σ (none, σ') ∧ Fr (fun x i => x = a ∧ b ≤ i ∧ i < b + 24) σ σ' ∧ PU σ' a b P H := by
  have W : ∀ {x i : Nat}, (x = a ∧ b ≤ i ∧ i < b + 24) → (fun x i => x = a ∧ b ≤ i ∧ i < b + 24) x i := fun h => h
  have cb : (nI b).toNatClampNeg = b := nI_clamp (by omega)
  have ck : ∀ k, k < 24 → (nI (b + k)).toNatClampNeg = b + k := fun k hk => nI_clamp (by omega)
  have ib : ∀ k, k < 24 → inb (nI (b + k)) n = true := fun k hk => inb_nI (by omega) hn
  have ea : ∀ k : Nat, nI b + nI k = nI (b + k) := fun k => nI_add b k
  obtain ⟨⟨m1, m2, m3, m4, m5, m6⟩, ma, mt, mw⟩ := hM
  have mt' : ∀ i, i < P → mI σ 89 i = nI (H 8 i) := fun i hi => by have := mt i hi; rw [Nat.mul_zero, Nat.zero_add] at this; exact this
  have mw' : ∀ i, i < P → mI σ 90 i = nI (H 9 i) := fun i hi => by have := mw i hi; rw [Nat.mul_zero, Nat.zero_add] at this; exact this
  generalize e1 : uI σ a b (nI (H 1 0)) = σ1
  generalize e2 : uI σ1 a (b + 1) (nI (H 2 0)) = σ2
  generalize e3 : uI σ2 a (b + 2) (nI (H 3 0)) = σ3
  generalize e4 : uI σ3 a (b + 3) (nI (H 4 0)) = σ4
  have f1 : Fr (fun x i => x = a ∧ b ≤ i ∧ i < b + 24) σ σ1 := by rw [← e1]; exact (Fr.rf σ).uI (W (by omega))
  have f2 : Fr (fun x i => x = a ∧ b ≤ i ∧ i < b + 24) σ σ2 := by rw [← e2]; exact f1.uI (W (by omega))
  have f3 : Fr (fun x i => x = a ∧ b ≤ i ∧ i < b + 24) σ σ3 := by rw [← e3]; exact f2.uI (W (by omega))
  have f4 : Fr (fun x i => x = a ∧ b ≤ i ∧ i < b + 24) σ σ4 := by rw [← e4]; exact f3.uI (W (by omega))
  have rd : ∀ {τ}, Fr (fun x i => x = a ∧ b ≤ i ∧ i < b + 24) σ τ → ∀ x i, x < 96 → mI τ x i = mI σ x i := fun f x i hx => (f.1 x i (fun h => by have h : x = a ∧ _ := h; omega)).1
  have four : mI σ4 a b = nI (H 1 0) ∧ mI σ4 a (b + 1) = nI (H 2 0) ∧ mI σ4 a (b + 2) = nI (H 3 0) ∧ mI σ4 a (b + 3) = nI (H 4 0) := by
    refine ⟨?_, ?_, ?_, ?_⟩
    · rw [← e4, mI_uI, if_neg (by omega), ← e3, mI_uI, if_neg (by omega), ← e2, mI_uI, if_neg (by omega), ← e1, mI_uI, if_pos ⟨rfl, rfl⟩]
    · rw [← e4, mI_uI, if_neg (by omega), ← e3, mI_uI, if_neg (by omega), ← e2, mI_uI, if_pos ⟨rfl, rfl⟩]
    · rw [← e4, mI_uI, if_neg (by omega), ← e3, mI_uI, if_pos ⟨rfl, rfl⟩]
    · rw [← e4, mI_uI, if_pos ⟨rfl, rfl⟩]
  have loop : ∃ σ', Ev 266 44 [.ref 59, .ref a, .int (nI b), .int (nI 0)] [] σ4 (none, σ') ∧ Fr (fun x i => x = a ∧ b ≤ i ∧ i < b + 24) σ σ' ∧ PU σ' a b P H := by
    refine lp (fun k τ => Fr (fun x i => x = a ∧ b ≤ i ∧ i < b + 24) σ τ ∧ (∀ j, j < 4 → mI τ a (b + j) = mI σ4 a (b + j)) ∧ (∀ i, i < k → mI τ a (b + 4 + i) = mI σ 89 i ∧ mI τ a (b + 14 + i) = mI σ 90 i)) (fun k τ => ∃ σ', Ev 266 44 [.ref 59, .ref a, .int (nI b), .int (nI k)] [] τ (none, σ') ∧ Fr (fun x i => x = a ∧ b ≤ i ∧ i < b + 24) σ σ' ∧ PU σ' a b P H) 10 ?_ ?_ (Nat.zero_le _) ⟨f4, fun j _ => rfl, fun i hi => absurd hi (Nat.not_lt_zero i)⟩
    · intro k τ hk ⟨ft, hj, hi⟩ ih
      obtain ⟨σ', h, g⟩ := ih (uI (uI τ a (b + 4 + k) (mI σ 89 k)) a (b + 14 + k) (mI σ 90 k)) ⟨(ft.uI (W (by omega))).uI (W (by omega)), fun j hj4 => by
        rw [mI_uI, if_neg (by omega), mI_uI, if_neg (by omega)]; exact hj j hj4, fun i hik => by
        rw [mI_uI, if_neg (by omega), mI_uI, mI_uI, mI_uI]
        by_cases e : i = k
        · rw [if_pos ⟨rfl, by omega⟩, if_pos ⟨rfl, by omega⟩, e]; exact ⟨rfl, rfl⟩
        · rw [if_neg (by omega), if_neg (by omega), if_neg (by omega)]; exact hi i (by omega)⟩
      refine ⟨σ', b_266_44 (ft.sg hS) h1 ?_, g⟩
      have x4 : nI b + 4 + nI k = nI (b + 4 + k) := by
        rw [show (4 : Int32) = nI 4 from rfl, nI_add, nI_add]
      have x14 : nI b + 14 + nI k = nI (b + 14 + k) := by
        rw [show (14 : Int32) = nI 14 from rfl, nI_add, nI_add]
      rw [x4, x14, nI_clamp (n := k) (by omega), nI_clamp (n := b + 4 + k) (by omega), nI_clamp (n := b + 14 + k) (by omega), nI_1, rd ft 89 k (by omega)]
      refine pk_lt k 10 (fun _ => ⟨inb_nI (by omega) (by decide), inb_nI (by omega) hn, fun τ1 q1 => ⟨inb_nI (by omega) (by decide), inb_nI (by omega) hn, fun τ4 q4 => ?_⟩⟩) (fun z => absurd z (by omega))
      rw [q1, mI_uI, if_neg (by omega), rd ft 90 k (by omega)] at q4
      rw [q4]; exact h
    · intro τ ⟨ft, hj, hi⟩
      refine ⟨τ, b_266_44 (ft.sg hS) h1 (pk_lt 10 10 (fun z => absurd z (by omega)) (fun _ => rfl)), ft, ⟨?_, ?_, ?_, ?_⟩, fun i hip => ?_, fun i hip => ?_⟩
      · exact (hj 0 (by omega)).trans four.1
      · exact (hj 1 (by omega)).trans four.2.1
      · exact (hj 2 (by omega)).trans four.2.2.1
      · exact (hj 3 (by omega)).trans four.2.2.2
      · exact ((hi i (by omega)).1).trans (mt' i hip)
      · exact ((hi i (by omega)).2).trans (mw' i hip)
  obtain ⟨σ', h, g⟩ := loop
  refine ⟨σ', ck_266 hS h1 (b_266_0 hS h1 ?_), g⟩
  have y1 : nI b + 1 = nI (b + 1) := nI_add b 1
  have y2 : nI b + 2 = nI (b + 2) := nI_add b 2
  have y3 : nI b + 3 = nI (b + 3) := nI_add b 3
  rw [y1, y2, y3, cb, ck 1 (by omega), ck 2 (by omega), ck 3 (by omega), show mI σ 82 0 = _ from m1, e1]
  refine ⟨ib 0 (by omega), ib 1 (by omega), fun τ1 q1 => ?_⟩
  rw [rd f1 83 0 (by omega), show mI σ 83 0 = _ from m2, e2] at q1
  rw [q1]
  refine ⟨ib 2 (by omega), fun τ2 q2 => ?_⟩
  rw [rd f2 84 0 (by omega), show mI σ 84 0 = _ from m3, e3] at q2
  rw [q2]
  refine ⟨ib 3 (by omega), fun τ3 q3 => ?_⟩
  rw [rd f3 85 0 (by omega), show mI σ 85 0 = _ from m4, e4] at q3
  rw [q3]
  exact h
/-- the house as it was put down; ages, vain rings and the minute as they are -/
def tk (X Y : Nat → Nat → Nat) : Nat → Nat → Nat := fun f i => if f = 1 ∨ f = 2 ∨ f = 3 ∨ f = 4 ∨ f = 8 ∨ f = 9 then X f i else Y f i
theorem c_267 {a n b P : Nat} {X : Nat → Nat → Nat} (hS : Sg t σ) (h1 : KS[a]? = some (11, n)) (ha : a = 96 ∨ a = 97) (hb : b + 24 ≤ n) (hn : n < 2 ^ 31) (hP : P ≤ 10) (hM : MH σ 0 P H) (hX : PU σ a b P X) : ∃ σ', Cl 267 [.ref 59, .ref a, .int (nI b)] σ (none, σ') ∧ Fr (fun x i => (82 ≤ x ∧ x ≤ 85 ∧ i = 0) ∨ ((x = 89 ∨ x = 90) ∧ i < 10)) σ σ' ∧ MH σ' 0 P (tk X H) := by
  have W : ∀ {x i : Nat}, ((82 ≤ x ∧ x ≤ 85 ∧ i = 0) ∨ ((x = 89 ∨ x = 90) ∧ i < 10)) → (fun x i => (82 ≤ x ∧ x ≤ 85 ∧ i = 0) ∨ ((x = 89 ∨ x = 90) ∧ i < 10)) x i := fun h => h
  have cb : (nI b).toNatClampNeg = b := nI_clamp (by omega)
  have ck : ∀ k, k < 24 → (nI (b + k)).toNatClampNeg = b + k := fun k hk => nI_clamp (by omega)
  have ib : ∀ k, k < 24 → inb (nI (b + k)) n = true := fun k hk => inb_nI (by omega) hn
  obtain ⟨⟨x1, x2, x3, x4⟩, xt, xw⟩ := hX
  obtain ⟨⟨m1, m2, m3, m4, m5, m6⟩, ma, mt, mw⟩ := hM
  generalize e1 : uI σ 82 0 (nI (X 1 0)) = σ1
  generalize e2 : uI σ1 83 0 (nI (X 2 0)) = σ2
  generalize e3 : uI σ2 84 0 (nI (X 3 0)) = σ3
  generalize e4 : uI σ3 85 0 (nI (X 4 0)) = σ4
  have f1 : Fr (fun x i => (82 ≤ x ∧ x ≤ 85 ∧ i = 0) ∨ ((x = 89 ∨ x = 90) ∧ i < 10)) σ σ1 := by rw [← e1]; exact (Fr.rf σ).uI (W (by omega))
  have f2 : Fr (fun x i => (82 ≤ x ∧ x ≤ 85 ∧ i = 0) ∨ ((x = 89 ∨ x = 90) ∧ i < 10)) σ σ2 := by rw [← e2]; exact f1.uI (W (by omega))
  have f3 : Fr (fun x i => (82 ≤ x ∧ x ≤ 85 ∧ i = 0) ∨ ((x = 89 ∨ x = 90) ∧ i < 10)) σ σ3 := by rw [← e3]; exact f2.uI (W (by omega))
  have f4 : Fr (fun x i => (82 ≤ x ∧ x ≤ 85 ∧ i = 0) ∨ ((x = 89 ∨ x = 90) ∧ i < 10)) σ σ4 := by rw [← e4]; exact f3.uI (W (by omega))
  have rd : ∀ {τ}, Fr (fun x i => (82 ≤ x ∧ x ≤ 85 ∧ i = 0) ∨ ((x = 89 ∨ x = 90) ∧ i < 10)) σ τ → ∀ x i, (x = a ∨ (86 ≤ x ∧ x ≤ 88)) → mI τ x i = mI σ x i := fun f x i hx => (f.1 x i (fun h => by have h : (82 ≤ x ∧ x ≤ 85 ∧ i = 0) ∨ ((x = 89 ∨ x = 90) ∧ i < 10) := h; omega)).1
  have loop : ∃ σ', Ev 267 44 [.ref 59, .ref a, .int (nI b), .int (nI 0)] [] σ4 (none, σ') ∧ Fr (fun x i => (82 ≤ x ∧ x ≤ 85 ∧ i = 0) ∨ ((x = 89 ∨ x = 90) ∧ i < 10)) σ σ' ∧ MH σ' 0 P (tk X H) := by
    refine lp (fun k τ => Fr (fun x i => (82 ≤ x ∧ x ≤ 85 ∧ i = 0) ∨ ((x = 89 ∨ x = 90) ∧ i < 10)) σ τ ∧ (∀ x, x < 86 → mI τ x 0 = mI σ4 x 0) ∧ (∀ i, i < k → mI τ 89 i = mI σ a (b + 4 + i) ∧ mI τ 90 i = mI σ a (b + 14 + i))) (fun k τ => ∃ σ', Ev 267 44 [.ref 59, .ref a, .int (nI b), .int (nI k)] [] τ (none, σ') ∧ Fr (fun x i => (82 ≤ x ∧ x ≤ 85 ∧ i = 0) ∨ ((x = 89 ∨ x = 90) ∧ i < 10)) σ σ' ∧ MH σ' 0 P (tk X H)) 10 ?_ ?_ (Nat.zero_le _) ⟨f4, fun j _ => rfl, fun i hi => absurd hi (Nat.not_lt_zero i)⟩
    · intro k τ hk ⟨ft, hj, hi⟩ ih
      obtain ⟨σ', h, g⟩ := ih (uI (uI τ 89 k (mI σ a (b + 4 + k))) 90 k (mI σ a (b + 14 + k))) ⟨(ft.uI (W (by omega))).uI (W (by omega)), fun x hx => by
        rw [mI_uI, if_neg (by omega), mI_uI, if_neg (by omega)]; exact hj x hx, fun i hik => by
        rw [mI_uI, if_neg (by omega), mI_uI, mI_uI, mI_uI]
        by_cases e : i = k
        · rw [if_pos ⟨rfl, by omega⟩, if_pos ⟨rfl, by omega⟩, e]; exact ⟨rfl, rfl⟩
        · rw [if_neg (by omega), if_neg (by omega), if_neg (by omega)]; exact hi i (by omega)⟩
      refine ⟨σ', b_267_44 (ft.sg hS) h1 ?_, g⟩
      have y4 : nI b + 4 + nI k = nI (b + 4 + k) := by
        rw [show (4 : Int32) = nI 4 from rfl, nI_add, nI_add]
      have y14 : nI b + 14 + nI k = nI (b + 14 + k) := by
        rw [show (14 : Int32) = nI 14 from rfl, nI_add, nI_add]
      rw [y4, y14, nI_clamp (n := k) (by omega), nI_clamp (n := b + 4 + k) (by omega), nI_clamp (n := b + 14 + k) (by omega), nI_1, rd ft a (b + 4 + k) (by omega)]
      refine pk_lt k 10 (fun _ => ⟨inb_nI (by omega) hn, inb_nI (by omega) (by decide), fun τ1 q1 => ⟨inb_nI (by omega) hn, inb_nI (by omega) (by decide), fun τ4 q4 => ?_⟩⟩) (fun z => absurd z (by omega))
      rw [q1, mI_uI, if_neg (by omega), rd ft a (b + 14 + k) (by omega)] at q4
      rw [q4]; exact h
    · intro τ ⟨ft, hj, hi⟩
      refine ⟨τ, b_267_44 (ft.sg hS) h1 (pk_lt 10 10 (fun z => absurd z (by omega)) (fun _ => rfl)), ft, ⟨?_, ?_, ?_, ?_, ?_, ?_⟩, fun i hip => ?_, fun i hip => ?_, fun i hip => ?_⟩
      · rw [hj 82 (by omega), ← e4, mI_uI, if_neg (by omega), ← e3, mI_uI, if_neg (by omega), ← e2, mI_uI, if_neg (by omega), ← e1, mI_uI, if_pos ⟨rfl, rfl⟩]; rfl
      · rw [hj 83 (by omega), ← e4, mI_uI, if_neg (by omega), ← e3, mI_uI, if_neg (by omega), ← e2, mI_uI, if_pos ⟨rfl, rfl⟩]; rfl
      · rw [hj 84 (by omega), ← e4, mI_uI, if_neg (by omega), ← e3, mI_uI, if_pos ⟨rfl, rfl⟩]; rfl
      · rw [hj 85 (by omega), ← e4, mI_uI, if_pos ⟨rfl, rfl⟩]; rfl
      · rw [rd ft 86 0 (by omega)]; exact m5
      · rw [rd ft 87 0 (by omega)]; exact m6
      · rw [rd ft 88 _ (by omega)]; exact ma i hip
      · rw [Nat.mul_zero, Nat.zero_add, (hi i (by omega)).1]; exact xt i hip
      · rw [Nat.mul_zero, Nat.zero_add, (hi i (by omega)).2]; exact xw i hip
  obtain ⟨σ', h, g⟩ := loop
  refine ⟨σ', ck_267 hS h1 (b_267_0 hS h1 ?_), g⟩
  have y1 : nI b + 1 = nI (b + 1) := nI_add b 1
  have y2 : nI b + 2 = nI (b + 2) := nI_add b 2
  have y3 : nI b + 3 = nI (b + 3) := nI_add b 3
  rw [y1, y2, y3, cb, ck 1 (by omega), ck 2 (by omega), ck 3 (by omega), x1, e1]
  refine ⟨ib 0 (by omega), ib 1 (by omega), fun τ1 q1 => ?_⟩
  rw [rd f1 a _ (by omega), x2, e2] at q1
  rw [q1]
  refine ⟨ib 2 (by omega), fun τ2 q2 => ?_⟩
  rw [rd f2 a _ (by omega), x3, e3] at q2
  rw [q2]
  refine ⟨ib 3 (by omega), fun τ3 q3 => ?_⟩
  rw [rd f3 a _ (by omega), x4, e4] at q3
  rw [q3]
  exact h
/-- the second side remembers -/
theorem c_268 {u P : Nat} {G : Nat → Nat → Nat → Nat} (hS : Sg t σ) (hP : P ≤ 10) (hM : MH σ 0 P H) (hu : mI σ 59 72 = nI u) (hu2 : u ≤ 20) (hG : ∀ k, k < u → PU σ 96 (24 * k) P (G k)) : ∃ σ', Cl 268 [.ref 59] σ (none, σ') ∧ Fr (fun x i => x = 96 ∨ (x = 59 ∧ i = 72)) σ σ' ∧ mI σ' 59 72 = nI (min 20 (u + 1)) ∧ (∀ k, k < min 20 (u + 1) - 1 → PU σ' 96 (24 * k) P (G (k + (u - (min 20 (u + 1) - 1))))) ∧ PU σ' 96 (24 * (min 20 (u + 1) - 1)) P H := by
  have W : ∀ {x i : Nat}, (x = 96 ∨ (x = 59 ∧ i = 72)) → (fun x i => x = 96 ∨ (x = 59 ∧ i = 72)) x i := fun h => h
  -- behind the shift
  have tail : ∀ τ m, Fr (fun x i => x = 96 ∨ (x = 59 ∧ i = 72)) σ τ → mI τ 59 72 = nI m → m < 20 → min 20 (u + 1) = m + 1 → (∀ k, k < m → PU τ 96 (24 * k) P (G (k + (u - m)))) → ∀ z1, ∃ σ', Ev 268 49 [.ref 59, z1] [] τ (none, σ') ∧ Fr (fun x i => x = 96 ∨ (x = 59 ∧ i = 72)) σ σ' ∧ mI σ' 59 72 = nI (min 20 (u + 1)) ∧ (∀ k, k < min 20 (u + 1) - 1 → PU σ' 96 (24 * k) P (G (k + (u - (min 20 (u + 1) - 1))))) ∧ PU σ' 96 (24 * (min 20 (u + 1) - 1)) P H := by
    intro τ m ft hm hm2 hmin hk z1
    have hMt : MH τ 0 P H := hM.fr (by decide) hP ft (fun x i h h2 => by have h2 : x = 96 ∨ (x = 59 ∧ i = 72) := h2; omega)
    obtain ⟨τ2, h2, f2, p2⟩ := c_266 (a := 96) (n := 480) (b := 24 * m) (ft.sg hS) rfl (Or.inl rfl) (by omega) (by decide) hP hMt
    have hS2 := f2.sg (ft.sg hS)
    have e72 : mI τ2 59 72 = nI m := ((f2.1 59 72 (fun h => by have h : 59 = 96 ∧ _ := h; omega)).1).trans hm
    have F2 : Fr (fun x i => x = 96 ∨ (x = 59 ∧ i = 72)) σ τ2 := ft.tr (f2.mono (fun x i h => Or.inl h.1))
    have fu : Fr (fun x i => x = 59 ∧ i = 72) τ2 (uI τ2 59 72 (nI (m + 1))) := (Fr.rf (P := fun x i => x = 59 ∧ i = 72) τ2).uI ⟨rfl, rfl⟩
    refine ⟨uI τ2 59 72 (nI (m + 1)), b_268_49 (ft.sg hS) ?_, F2.uI (W (by omega)), ?_, ?_, ?_⟩
    · rw [hm, show (24 : Int32) = nI 24 from rfl, pk_mul]
      refine ⟨τ2, h2, hS2, ?_⟩
      rw [e72, nI_1]
    · rw [mI_uI, if_pos ⟨rfl, rfl⟩, hmin]
    · intro k hkk
      rw [hmin, Nat.add_sub_cancel] at hkk ⊢
      have a := (hk k hkk).fr hP f2 (fun i h1 h2 h3 => by have h3 : 96 = 96 ∧ 24 * m ≤ i ∧ i < 24 * m + 24 := h3; omega)
      exact a.fr hP fu (fun i h1 h2 h3 => by have h3 : 96 = 59 ∧ i = 72 := h3; omega)
    · rw [hmin, Nat.add_sub_cancel]
      exact p2.fr hP fu (fun i h1 h2 h3 => by have h3 : 96 = 59 ∧ i = 72 := h3; omega)
  by_cases c : u = 20
  · -- the shift
    have sh1 : ∃ σ', Ev 268 11 [.ref 59, .int (nI 0)] [] σ (none, σ') ∧ Fr (fun x i => x = 96 ∨ (x = 59 ∧ i = 72)) σ σ' ∧ mI σ' 59 72 = nI (min 20 (u + 1)) ∧ (∀ k, k < min 20 (u + 1) - 1 → PU σ' 96 (24 * k) P (G (k + (u - (min 20 (u + 1) - 1))))) ∧ PU σ' 96 (24 * (min 20 (u + 1) - 1)) P H := by
      refine lp (fun k τ => Fr (fun x i => x = 96 ∨ (x = 59 ∧ i = 72)) σ τ ∧ mI τ 59 72 = nI 20 ∧ (∀ i, i < k → mI τ 96 i = mI σ 96 (i + 24)) ∧ (∀ i, k ≤ i → mI τ 96 i = mI σ 96 i)) (fun k τ => ∃ σ', Ev 268 11 [.ref 59, .int (nI k)] [] τ (none, σ') ∧ Fr (fun x i => x = 96 ∨ (x = 59 ∧ i = 72)) σ σ' ∧ mI σ' 59 72 = nI (min 20 (u + 1)) ∧ (∀ k, k < min 20 (u + 1) - 1 → PU σ' 96 (24 * k) P (G (k + (u - (min 20 (u + 1) - 1))))) ∧ PU σ' 96 (24 * (min 20 (u + 1) - 1)) P H) 456 ?_ ?_ (Nat.zero_le _) ⟨Fr.rf σ, by rw [hu, c], fun i hi => absurd hi (Nat.not_lt_zero i), fun i _ => rfl⟩
      · intro k τ hk ⟨ft, h72, hlo, hhi⟩ ih
        obtain ⟨σ', h, g⟩ := ih (uI τ 96 k (mI σ 96 (k + 24))) ⟨ft.uI (W (by omega)), by rw [mI_uI, if_neg (by omega)]; exact h72, fun i hik => by
          rw [mI_uI]
          by_cases e : i = k
          · rw [if_pos ⟨rfl, e⟩, e]
          · rw [if_neg (by omega)]; exact hlo i (by omega), fun i hik => by
          rw [mI_uI, if_neg (by omega)]; exact hhi i (by omega)⟩
        refine ⟨σ', b_268_11 (ft.sg hS) ?_, g⟩
        have y : nI k + 24 = nI (k + 24) := nI_add k 24
        rw [y, nI_clamp (n := k) (by omega), nI_clamp (n := k + 24) (by omega), nI_1, hhi (k + 24) (by omega)]
        exact pk_lt k 456 (fun _ => ⟨inb_nI (by omega) (by decide), inb_nI (by omega) (by decide), fun τ1 q1 => by rw [q1]; exact h⟩) (fun z => absurd z (by omega))
      · intro τ ⟨ft, h72, hlo, hhi⟩
        have e19 : nI 20 - 1 = nI 19 := nI_sub1 (n := 20) (by omega)
        obtain ⟨σ', h, g⟩ := tail (uI τ 59 72 (nI 19)) 19 (ft.uI (W (by omega))) (by rw [mI_uI, if_pos ⟨rfl, rfl⟩]) (by omega) (by omega) (fun k hk => by
          rw [show k + (u - 19) = k + 1 by omega]
          obtain ⟨⟨p1, p2, p3, p4⟩, p5, p6⟩ := hG (k + 1) (by omega)
          have r : ∀ j, j < 456 → mI (uI τ 59 72 (nI 19)) 96 j = mI σ 96 (j + 24) := fun j hj => by rw [mI_uI, if_neg (by omega)]; exact hlo j hj
          refine ⟨⟨?_, ?_, ?_, ?_⟩, fun i hi => ?_, fun i hi => ?_⟩
          · rw [r _ (by omega), show 24 * k + 24 = 24 * (k + 1) by omega]; exact p1
          · rw [r _ (by omega), show 24 * k + 1 + 24 = 24 * (k + 1) + 1 by omega]; exact p2
          · rw [r _ (by omega), show 24 * k + 2 + 24 = 24 * (k + 1) + 2 by omega]; exact p3
          · rw [r _ (by omega), show 24 * k + 3 + 24 = 24 * (k + 1) + 3 by omega]; exact p4
          · rw [r _ (by omega), show 24 * k + 4 + i + 24 = 24 * (k + 1) + 4 + i by omega]; exact p5 i hi
          · rw [r _ (by omega), show 24 * k + 14 + i + 24 = 24 * (k + 1) + 14 + i by omega]; exact p6 i hi) (.int (nI 456))
        refine ⟨σ', b_268_11 (ft.sg hS) ?_, g⟩
        rw [h72, e19]
        exact pk_lt 456 456 (fun z => absurd z (by omega)) (fun _ => h)
    obtain ⟨σ', h, g⟩ := sh1
    refine ⟨σ', ck_268 hS (b_268_0 hS ?_), g⟩
    rw [hu, c]
    exact ⟨fun _ => h, fun z => absurd rfl z⟩
  · obtain ⟨σ', h, g⟩ := tail σ u (Fr.rf σ) hu (by omega) (by omega) (fun k hk => by rw [Nat.sub_self, Nat.add_zero]; exact hG k hk) (.retAddr 0)
    refine ⟨σ', ck_268 hS (b_268_0 hS ?_), g⟩
    rw [hu]
    exact w_p (nI_eq (b := 20) (by omega) (by decide)) (fun z => absurd z c) (fun _ => h)
end Undo2
