/-! ===== lines, second side ===== -/
def mof (f : Nat) : Nat := if f = 8 then 14 else if f ≤ 11 then 10 else if f ≤ 13 then 14 else 4
/-- what is being read, second side -/
def MRd (σ : Mm) (D : Nat → Nat → Nat) : Prop := (mI σ 59 17 = nI (D 0 0) ∧ mI σ 59 18 = nI (D 1 0) ∧ mI σ 62 1 = nI (D 2 0) ∧ mI σ 59 19 = nI (D 3 0) ∧ mI σ 59 20 = nI (D 4 0)) ∧ (mI σ 64 2 = nI (D 5 0) ∧ mI σ 64 3 = nI (D 6 0) ∧ mI σ 63 0 = (if D 21 0 = 0 then 0 else 1) ∧ mI σ 63 1 = (if D 22 0 = 0 then 0 else 1)) ∧ (mI σ 59 21 = nI (D 7 0) ∧ mI σ 59 43 = nI (D 7 0)) ∧ (∀ f i, 8 ≤ f → f ≤ 14 → i < D (cf f) 0 → mI σ (57 + f) (mof f + i) = nI (D f i)) ∧ (∀ i, i < D 7 0 → mI σ 75 (64 + i) = nI (D 18 i) ∧ mI σ 76 (64 + i) = nI (D 19 i) ∧ (3 ≤ D 18 i → mI σ 77 (64 + i) = nI (D 20 i))) ∧ (∀ q, q < 3 → mI σ 72 (3 + q) = (if decide (D 16 q < D 17 q) = true then 1 else 0) ∧ (D 16 q < D 17 q → mI σ 73 (3 + q) = nI (D 16 q) ∧ mI σ 74 (3 + q) = nI (D 17 q)))
def Wm1 (x i : Nat) : Prop := (x = 59 ∧ ((7 ≤ i ∧ i ≤ 11) ∨ (17 ≤ i ∧ i ≤ 21) ∨ (40 ≤ i ∧ i ≤ 45))) ∨ (x = 62 ∧ i = 1) ∨ x = 63 ∨ (x = 64 ∧ 2 ≤ i) ∨ (x = 65 ∧ 14 ≤ i) ∨ (66 ≤ x ∧ x ≤ 68 ∧ 10 ≤ i) ∨ (69 ≤ x ∧ x ≤ 70 ∧ 14 ≤ i) ∨ (x = 71 ∧ 4 ≤ i) ∨ (72 ≤ x ∧ x ≤ 74 ∧ 3 ≤ i) ∨ (75 ≤ x ∧ x ≤ 77 ∧ 64 ≤ i) ∨ x = 78 ∨ x = 79
def Wm0 (x i : Nat) : Prop := (x = 59 ∧ (i = 4 ∨ i = 5)) ∨ Wm1 x i
theorem wm_z {x i : Nat} (h : Wz x i) : Wm1 x i := by unfold Wz at h; unfold Wm1; omega
theorem wm_s {x i : Nat} (h : Ws1 x i) : Wm1 x i := by unfold Ws1 at h; unfold Wm1; omega
theorem mof_w {f i : Nat} (h1 : 8 ≤ f) (h2 : f ≤ 14) : Wm1 (57 + f) (mof f + i) := by
  unfold Wm1 mof
  repeat' split
  all_goals omega
section LinM
variable {t n : Nat} {σ σ' : Mm} {D : Nat → Nat → Nat} {B : Nat → Nat} {W : Nat → Nat → Prop}
theorem RM.fm (h : RM σ B n) (hf : Fr Wm1 σ σ') : RM σ' B n := h.fr hf (fun x i h z => by unfold Wm1 at z; omega)
theorem MRd.fr (h : MRd σ D) (r : ∀ x i, ((x = 59 ∧ ((17 ≤ i ∧ i ≤ 21) ∨ i = 43)) ∨ (62 ≤ x ∧ x ≤ 77)) → mI σ' x i = mI σ x i) : MRd σ' D := by
  obtain ⟨⟨a0, a1, a2, a3, a4⟩, ⟨b1, b2, b3, b4⟩, ⟨c1, c2⟩, d, e, g⟩ := h
  refine ⟨⟨(r 59 17 (by omega)).trans a0, (r 59 18 (by omega)).trans a1, (r 62 1 (by omega)).trans a2, (r 59 19 (by omega)).trans a3, (r 59 20 (by omega)).trans a4⟩, ⟨(r 64 2 (by omega)).trans b1, (r 64 3 (by omega)).trans b2, (r 63 0 (by omega)).trans b3, (r 63 1 (by omega)).trans b4⟩, ⟨(r 59 21 (by omega)).trans c1, (r 59 43 (by omega)).trans c2⟩, fun f i h1 h2 hi => (r _ _ (by omega)).trans (d f i h1 h2 hi), fun i hi => ?_, fun q hq => ?_⟩
  · rw [r 75 _ (by omega), r 76 _ (by omega), r 77 _ (by omega)]; exact e i hi
  · rw [r 72 _ (by omega), r 73 _ (by omega), r 74 _ (by omega)]; exact g q hq
theorem MRd.fz (h : MRd σ D) (hf : Fr Wz σ σ') : MRd σ' D := h.fr (fun x i h => (hf.1 x i (fun z => by unfold Wz at z; omega)).1)
theorem MRd.put {f j v : Nat} (h : MRd σ D) (h1 : 8 ≤ f) (h2 : f ≤ 14) : MRd (uI σ (57 + f) (mof f + j) (nI v)) (hu D f j v) := by
  obtain ⟨⟨a0, a1, a2, a3, a4⟩, ⟨b1, b2, b3, b4⟩, ⟨c1, c2⟩, d, e, g⟩ := h
  have c0 : ∀ g i, g ≤ 7 ∨ 15 ≤ g → hu D f j v g i = D g i := fun g i hg => hu_n (by omega)
  refine ⟨⟨?_, ?_, ?_, ?_, ?_⟩, ⟨?_, ?_, ?_, ?_⟩, ⟨?_, ?_⟩, fun f' i h1' h2' hi => ?_, fun i hi => ?_, fun q hq => ?_⟩
  · rw [mI_n (by omega), c0 0 0 (by omega)]; exact a0
  · rw [mI_n (by omega), c0 1 0 (by omega)]; exact a1
  · rw [mI_n (by omega), c0 2 0 (by omega)]; exact a2
  · rw [mI_n (by omega), c0 3 0 (by omega)]; exact a3
  · rw [mI_n (by omega), c0 4 0 (by omega)]; exact a4
  · rw [mI_n (by omega), c0 5 0 (by omega)]; exact b1
  · rw [mI_n (by omega), c0 6 0 (by omega)]; exact b2
  · rw [mI_n (by omega), c0 21 0 (by omega)]; exact b3
  · rw [mI_n (by omega), c0 22 0 (by omega)]; exact b4
  · rw [mI_n (by omega), c0 7 0 (by omega)]; exact c1
  · rw [mI_n (by omega), c0 7 0 (by omega)]; exact c2
  · rw [c0 _ 0 (Or.inl cf_lt)] at hi
    by_cases e : f' = f ∧ i = j
    · rw [e.1, e.2, mI_s, hu_s]
    · rw [hu_n e, mI_n (fun z => e (by
        have : f' = f := by omega
        subst this
        exact ⟨rfl, by omega⟩))]
      exact d f' i h1' h2' hi
  · rw [c0 7 0 (by omega)] at hi
    rw [mI_n (by omega), mI_n (by omega), mI_n (by omega), c0 18 i (by omega), c0 19 i (by omega), c0 20 i (by omega)]; exact e i hi
  · rw [mI_n (by omega), mI_n (by omega), mI_n (by omega), c0 16 q (by omega), c0 17 q (by omega)]; exact g q hq
theorem MRd.cnt {c k : Nat} (h : MRd σ D) (hc : (c = 0 ∧ k = 17) ∨ (c = 1 ∧ k = 18) ∨ (c = 3 ∧ k = 19) ∨ (c = 4 ∧ k = 20)) (hn : ∀ f, 8 ≤ f → f ≤ 14 → cf f = c → mI σ (57 + f) (mof f + D c 0) = nI (D f (D c 0))) : MRd (uI σ 59 k (nI (D c 0 + 1))) (hu D c 0 (D c 0 + 1)) := by
  obtain ⟨⟨a0, a1, a2, a3, a4⟩, ⟨b1, b2, b3, b4⟩, ⟨c1, c2⟩, d, e, g⟩ := h
  have sc : ∀ c' k' : Nat, (c' = 0 ∧ k' = 17) ∨ (c' = 1 ∧ k' = 18) ∨ (c' = 3 ∧ k' = 19) ∨ (c' = 4 ∧ k' = 20) → mI σ 59 k' = nI (D c' 0) → mI (uI σ 59 k (nI (D c 0 + 1))) 59 k' = nI (hu D c 0 (D c 0 + 1) c' 0) := by
    intro c' k' h1 h2
    by_cases e : c' = c
    · have : k' = k := by omega
      rw [this, e, mI_s, hu_s]
    · rw [mI_n (by omega), hu_n (by omega)]; exact h2
  refine ⟨⟨sc 0 17 (by omega) a0, sc 1 18 (by omega) a1, ?_, sc 3 19 (by omega) a3, sc 4 20 (by omega) a4⟩, ⟨?_, ?_, ?_, ?_⟩, ⟨?_, ?_⟩, fun f' i h1' h2' hi => ?_, fun i hi => ?_, fun q hq => ?_⟩
  · rw [mI_n (by omega), hu_n (by omega)]; exact a2
  · rw [mI_n (by omega), hu_n (by omega)]; exact b1
  · rw [mI_n (by omega), hu_n (by omega)]; exact b2
  · rw [mI_n (by omega), hu_n (by omega)]; exact b3
  · rw [mI_n (by omega), hu_n (by omega)]; exact b4
  · rw [mI_n (by omega), hu_n (by omega)]; exact c1
  · rw [mI_n (by omega), hu_n (by omega)]; exact c2
  · rw [mI_n (by omega), hu_n (by omega)]
    by_cases e : cf f' = c
    · rw [e, hu_s] at hi
      by_cases e2 : i = D c 0
      · rw [e2]; exact hn f' h1' h2' e
      · exact d f' i h1' h2' (by rw [e]; omega)
    · rw [hu_n (by omega)] at hi; exact d f' i h1' h2' hi
  · rw [hu_n (by omega)] at hi
    rw [mI_n (by omega), mI_n (by omega), mI_n (by omega), hu_n (by omega), hu_n (by omega), hu_n (by omega)]; exact e i hi
  · rw [mI_n (by omega), mI_n (by omega), mI_n (by omega), hu_n (by omega), hu_n (by omega)]; exact g q hq
theorem MRd.lit {v : Nat} (h : MRd σ D) : MRd (uI σ 62 1 (nI v)) (hu D 2 0 v) := by
  obtain ⟨⟨a0, a1, a2, a3, a4⟩, ⟨b1, b2, b3, b4⟩, ⟨c1, c2⟩, d, e, g⟩ := h
  have c0 : ∀ g i, g ≠ 2 → hu D 2 0 v g i = D g i := fun g i hg => hu_n (by omega)
  refine ⟨⟨?_, ?_, ?_, ?_, ?_⟩, ⟨?_, ?_, ?_, ?_⟩, ⟨?_, ?_⟩, fun f' i h1' h2' hi => ?_, fun i hi => ?_, fun q hq => ?_⟩
  · rw [mI_n (by omega), c0 0 0 (by omega)]; exact a0
  · rw [mI_n (by omega), c0 1 0 (by omega)]; exact a1
  · rw [mI_s, hu_s]
  · rw [mI_n (by omega), c0 3 0 (by omega)]; exact a3
  · rw [mI_n (by omega), c0 4 0 (by omega)]; exact a4
  · rw [mI_n (by omega), c0 5 0 (by omega)]; exact b1
  · rw [mI_n (by omega), c0 6 0 (by omega)]; exact b2
  · rw [mI_n (by omega), c0 21 0 (by omega)]; exact b3
  · rw [mI_n (by omega), c0 22 0 (by omega)]; exact b4
  · rw [mI_n (by omega), c0 7 0 (by omega)]; exact c1
  · rw [mI_n (by omega), c0 7 0 (by omega)]; exact c2
  · have := cf_sc h1'
    rw [c0 _ 0 (by omega)] at hi
    rw [mI_n (by omega), c0 f' i (by omega)]; exact d f' i h1' h2' hi
  · rw [c0 7 0 (by omega)] at hi
    rw [mI_n (by omega), mI_n (by omega), mI_n (by omega), c0 18 i (by omega), c0 19 i (by omega), c0 20 i (by omega)]; exact e i hi
  · rw [mI_n (by omega), mI_n (by omega), mI_n (by omega), c0 16 q (by omega), c0 17 q (by omega)]; exact g q hq
/-- g: 5 burn, 6 seed; told, then the number -/
theorem MRd.once {g v : Nat} (h : MRd σ D) (hg : g = 5 ∨ g = 6) (h63 : mI σ' 63 (g - 5) = 1) (h64 : mI σ' 64 (2 + (g - 5)) = nI v) (r : ∀ x i, ¬ ((x = 63 ∧ i = g - 5) ∨ (x = 64 ∧ i = 2 + (g - 5))) → ((x = 59 ∧ ((17 ≤ i ∧ i ≤ 21) ∨ i = 43)) ∨ (62 ≤ x ∧ x ≤ 77)) → mI σ' x i = mI σ x i) : MRd σ' (hu (hu D g 0 v) (g + 16) 0 1) := by
  obtain ⟨⟨a0, a1, a2, a3, a4⟩, ⟨b1, b2, b3, b4⟩, ⟨c1, c2⟩, d, e, gg⟩ := h
  have c0 : ∀ k i, k ≠ g → k ≠ g + 16 → hu (hu D g 0 v) (g + 16) 0 1 k i = D k i := fun k i h1 h2 => by rw [hu_n (by omega), hu_n (by omega)]
  have cg : hu (hu D g 0 v) (g + 16) 0 1 g 0 = v := by rw [hu_n (by omega), hu_s]
  have cg' : hu (hu D g 0 v) (g + 16) 0 1 (g + 16) 0 = 1 := hu_s
  generalize hu (hu D g 0 v) (g + 16) 0 1 = E at c0 cg cg'
  refine ⟨⟨?_, ?_, ?_, ?_, ?_⟩, ?_, ⟨?_, ?_⟩, fun f' i h1' h2' hi => ?_, fun i hi => ?_, fun q hq => ?_⟩
  · rw [r _ _ (by omega) (by omega), c0 0 0 (by omega) (by omega)]; exact a0
  · rw [r _ _ (by omega) (by omega), c0 1 0 (by omega) (by omega)]; exact a1
  · rw [r _ _ (by omega) (by omega), c0 2 0 (by omega) (by omega)]; exact a2
  · rw [r _ _ (by omega) (by omega), c0 3 0 (by omega) (by omega)]; exact a3
  · rw [r _ _ (by omega) (by omega), c0 4 0 (by omega) (by omega)]; exact a4
  · rcases hg with rfl | rfl
    · refine ⟨by rw [cg]; exact h64, by rw [r _ _ (by omega) (by omega), c0 6 0 (by omega) (by omega)]; exact b2, ?_, by rw [r _ _ (by omega) (by omega), c0 22 0 (by omega) (by omega)]; exact b4⟩
      have cg' : E 21 0 = 1 := cg'
      rw [cg']; exact h63
    · refine ⟨by rw [r _ _ (by omega) (by omega), c0 5 0 (by omega) (by omega)]; exact b1, by rw [cg]; exact h64, by rw [r _ _ (by omega) (by omega), c0 21 0 (by omega) (by omega)]; exact b3, ?_⟩
      have cg' : E 22 0 = 1 := cg'
      rw [cg']; exact h63
  · rw [r _ _ (by omega) (by omega), c0 7 0 (by omega) (by omega)]; exact c1
  · rw [r _ _ (by omega) (by omega), c0 7 0 (by omega) (by omega)]; exact c2
  · have := cf_sc h1'
    rw [c0 _ 0 (by omega) (by omega)] at hi
    rw [r _ _ (by omega) (by omega), c0 f' i (by omega) (by omega)]; exact d f' i h1' h2' hi
  · rw [c0 7 0 (by omega) (by omega)] at hi
    rw [r _ _ (by omega) (by omega), r _ _ (by omega) (by omega), r _ _ (by omega) (by omega), c0 18 i (by omega) (by omega), c0 19 i (by omega) (by omega), c0 20 i (by omega) (by omega)]; exact e i hi
  · rw [r _ _ (by omega) (by omega), r _ _ (by omega) (by omega), r _ _ (by omega) (by omega), c0 16 q (by omega) (by omega), c0 17 q (by omega) (by omega)]; exact gg q hq
/-- what a line's body leaves on the second side -/
def OkN (σ : Mm) (B : Nat → Nat) (n : Nat) (r : Rz) (K : Option Value → Mm → Prop) : Prop := (∀ e, r = .inl e → ∃ σ', K (some (.int 0)) σ' ∧ Fr Wm0 σ σ' ∧ MF e σ') ∧ (∀ D q, r = .inr (D, q) → ∃ σ', K (some (.int 1)) σ' ∧ Fr Wm1 σ σ' ∧ MC σ' B n q ∧ MRd σ' D)
theorem OkN.no {r : Rz} {K : Option Value → Mm → Prop} {e : Nat × Nat} (h : r = .inl e) (g : ∃ σ', K (some (.int 0)) σ' ∧ Fr Wm0 σ σ' ∧ MF e σ') : OkN σ B n r K := by
  subst h
  refine ⟨fun e' h => ?_, fun D q h => (by cases h)⟩
  injection h with h
  subst h
  exact g
theorem OkN.yes {r : Rz} {K : Option Value → Mm → Prop} {q : Nat} (h : r = .inr (D, q)) (g : ∃ σ', K (some (.int 1)) σ' ∧ Fr Wm1 σ σ' ∧ MC σ' B n q ∧ MRd σ' D) : OkN σ B n r K := by
  subst h
  refine ⟨fun e' h => (by cases h), fun D' q' h => ?_⟩
  injection h with h
  injection h with h1 h2
  subst h1 h2
  exact g
theorem wm_f {x i : Nat} (h : x = 59 ∧ (i = 4 ∨ i = 5)) : Wm0 x i := Or.inl h
theorem nxr {p : Nat} (hS : Sg t σ) (h : RM σ B n) (hM : MC σ B n p) (hp : p ≤ n) (hR : MRd σ D) : ∃ σ', Cl 158 [.ref 59] σ (none, σ') ∧ Fr Wz σ σ' ∧ MRd σ' D ∧ MC σ' B n (tE B n p) := by
  obtain ⟨σ', d, F, r⟩ := c_158 (p := tE B n p) hS h (tE_le hp) hM.1
  exact ⟨σ', d, F, hR.fz F, r⟩
/-- a number up to m -/
theorem c_163 {p m : Nat} (hS : Sg t σ) (h : RM σ B n) (hM : MC σ B n p) (hp : p ≤ n) (hm : m ≤ 99999) : (tK B n p = 2 → tV B n p ≤ m → ∃ σ', Cl 163 [.ref 59, .int 0, .int (nI m)] σ (some (.int 1), σ') ∧ Fr (fun x i => Wz x i ∨ (x = 59 ∧ i = 11)) σ σ' ∧ MC σ' B n (tE B n p) ∧ mI σ' 59 11 = nI (tV B n p)) ∧ (∀ e, (tK B n p ≠ 2 ∧ e = 1) ∨ (tK B n p = 2 ∧ m < tV B n p ∧ e = 2) → ∃ σ', Cl 163 [.ref 59, .int 0, .int (nI m)] σ (some (.int 0), σ') ∧ Fr (fun x i => x = 59 ∧ (i = 4 ∨ i = 5)) σ σ' ∧ MF (e, tS B n p) σ') := by
  have hT := hM.2.2
  refine ⟨fun e1 e2 => ?_, fun e he => ?_⟩
  · obtain ⟨u, u1, u2, u3⟩ := hT.w3 e1
    have uv : u = tV B n p := by omega
    have c152 := c_152 (σ := σ) (x := nI u) (a := 0) (b := nI m) hS
    rw [if_neg (fun z => z.elim (nI_pos (by omega)) (nI_nlt (by omega) (by omega)))] at c152
    have F0 : Fr (fun x i => Wz x i ∨ (x = 59 ∧ i = 11)) σ (uI σ 59 11 (nI u)) := (Fr.rf σ).uI (Or.inr ⟨rfl, rfl⟩)
    have M0 : MC (uI σ 59 11 (nI u)) B n p := hM.cg (fun i h1 h2 => mI_n (by omega))
    obtain ⟨σ', d, F, r⟩ := c_158 (p := tE B n p) (F0.sg hS) (h.fr F0 (fun x i h z => by unfold Wz at z; omega)) (tE_le hp) M0.1
    refine ⟨σ', ck_163 hS (b_163_0 hS ⟨fun _ => ?_, fun z => absurd (hT.n3.mpr e1) z⟩), F0.tr (F.mono (fun _ _ h => Or.inl h)), r, ?_⟩
    · rw [u2]
      exact ⟨_, _, c152, hS, fun z => absurd z (by decide), fun _ => ⟨σ', by rw [u2]; exact d, F.sg (F0.sg hS), rfl⟩⟩
    · rw [(F.1 59 11 (fun z => by unfold Wz at z; omega)).1, mI_s, uv]
  · obtain ⟨σ', d, F, r⟩ := c_154 (e := e) hS hM.2.1
    refine ⟨σ', ck_163 hS (b_163_0 hS ?_), F, r⟩
    rcases he with ⟨e1, e2⟩ | ⟨e1, e2, e3⟩
    · subst e2
      exact ⟨fun z => absurd (hT.n3.mp z) e1, fun _ => ⟨_, _, d, F.sg hS, Or.inl rfl, rfl⟩⟩
    · subst e3
      obtain ⟨u, u1, u2, u3⟩ := hT.w3 e1
      have c152 := c_152 (σ := σ) (x := nI u) (a := 0) (b := nI m) hS
      rw [if_pos (Or.inr (nI_lt (by omega) (by omega)))] at c152
      refine ⟨fun _ => ?_, fun z => absurd (hT.n3.mpr e1) z⟩
      rw [u2]
      exact ⟨_, _, c152, hS, fun _ => ⟨_, _, d, F.sg hS, Or.inl rfl, rfl⟩, fun z => absurd rfl z⟩
def fdx (D : Nat → Nat → Nat) (f v : Nat) : Nat := fa_first (fun i => decide (D f i = v)) (D (cf f) 0)
theorem fdx_le {f v : Nat} : fdx D f v ≤ D (cf f) 0 := fa_first_le _ _
theorem r_167 {f v n0 : Nat} (hS : Sg t σ) (hR : MRd σ D) (hW : WDr D) (hf : (f = 8 ∧ n0 = 28) ∨ (f = 9 ∧ n0 = 20)) (hv : v < 2 ^ 31) : Cl 167 [.ref (57 + f), .int (nI (mof f)), .int (nI (D (cf f) 0)), .int (nI v)] σ (some (.int (if fdx D f v < D (cf f) 0 then nI (fdx D f v) else -1)), σ) := by
  have hL := hW.1.1.1
  have hP := hW.1.1.2.1
  have hh : KS[57 + f]? = some (11, n0) ∧ mof f + D (cf f) 0 ≤ n0 ∧ n0 < 2 ^ 31 ∧ ∀ i, i < D (cf f) 0 → D f i < 2 ^ 31 := by
    rcases hf with ⟨rfl, rfl⟩ | ⟨rfl, rfl⟩
    · exact ⟨rfl, by show 14 + D 0 0 ≤ 28; omega, by decide, hW.1.2.2.2.2.2.2.2.1⟩
    · exact ⟨rfl, by show 10 + D 1 0 ≤ 20; omega, by decide, hW.1.2.2.2.2.2.2.2.2⟩
  have := c_167 (x := nI v) (f := D f) hS hh.1 hh.2.1 hh.2.2.1 (fun i hi => hR.2.2.2.1 f i (by omega) (by omega) hi)
  rw [fnd_eq hh.2.2.2 hv] at this
  exact this
/-- a new name -/
theorem r_168 {f p n0 : Nat} (hS : Sg t σ) (h : RM σ B n) (hM : MC σ B n p) (hp : p ≤ n) (hR : MRd σ D) (hW : WDr D) (hf : (f = 8 ∧ n0 = 28 ∧ D 0 0 < 14) ∨ (f = 9 ∧ n0 = 20 ∧ D 1 0 < 10)) : (tK B n p = 3 → ¬ fdx D f (tV B n p) < D (cf f) 0 → ∃ σ', Cl 168 [.ref 59, .ref (57 + f), .int (nI (mof f)), .int (nI (D (cf f) 0))] σ (some (.int 1), σ') ∧ Fr (fun x i => Wz x i ∨ (x = 57 + f ∧ i = mof f + D (cf f) 0)) σ σ' ∧ MC σ' B n (tE B n p) ∧ MRd σ' (hu D f (D (cf f) 0) (tV B n p)) ∧ mI σ' (57 + f) (mof f + D (cf f) 0) = nI (tV B n p)) ∧ (∀ e, (tK B n p ≠ 3 ∧ e = 1) ∨ (tK B n p = 3 ∧ fdx D f (tV B n p) < D (cf f) 0 ∧ e = 3) → ∃ σ', Cl 168 [.ref 59, .ref (57 + f), .int (nI (mof f)), .int (nI (D (cf f) 0))] σ (some (.int 0), σ') ∧ Fr (fun x i => x = 59 ∧ (i = 4 ∨ i = 5)) σ σ' ∧ MF (e, tS B n p) σ') := by
  have hT := hM.2.2
  have hV := tV_lt (B := B) (n := n) (p := p)
  have hk : KS[57 + f]? = some (11, n0) := by rcases hf with ⟨rfl, rfl, _⟩ | ⟨rfl, rfl, _⟩ <;> rfl
  have hb : mof f + D (cf f) 0 < n0 ∧ n0 < 2 ^ 31 := by
    rcases hf with ⟨rfl, rfl, g⟩ | ⟨rfl, rfl, g⟩
    · exact ⟨by show 14 + D 0 0 < 28; omega, by decide⟩
    · exact ⟨by show 10 + D 1 0 < 20; omega, by decide⟩
  have c167 := r_167 (v := tV B n p) hS hR hW (by rcases hf with ⟨a, b, _⟩ | ⟨a, b, _⟩; exact Or.inl ⟨a, b⟩; exact Or.inr ⟨a, b⟩) hV
  have fle := fdx_le (D := D) (f := f) (v := tV B n p)
  refine ⟨fun e1 e2 => ?_, fun e he => ?_⟩
  · rw [if_neg e2] at c167
    have F0 : Fr (fun x i => Wz x i ∨ (x = 57 + f ∧ i = mof f + D (cf f) 0)) σ (uI σ (57 + f) (mof f + D (cf f) 0) (nI (tV B n p))) := (Fr.rf σ).uI (Or.inr ⟨rfl, rfl⟩)
    have M0 : MC (uI σ (57 + f) (mof f + D (cf f) 0) (nI (tV B n p))) B n p := hM.cg (fun i h1 h2 => mI_n (by omega))
    have R0 := hR.put (f := f) (j := D (cf f) 0) (v := tV B n p) (by omega) (by omega)
    obtain ⟨σ', d, F, r1, r2⟩ := nxr (F0.sg hS) (h.fr F0 (fun x i h z => by unfold Wz at z; omega)) M0 hp R0
    refine ⟨σ', ck_168 hS hk (b_168_0 hS hk ⟨fun _ => ?_, fun z => absurd (hT.n2.mpr e1) z⟩), F0.tr (F.mono (fun _ _ h => Or.inl h)), r2, r1, ?_⟩
    · rw [hT.w2 e1]
      refine ⟨_, _, c167, hS, fun _ => ⟨?_, fun σ4 q4 => ?_⟩, fun z => absurd (by decide) z⟩
      · rw [nI_add]; exact inb_nI hb.1 hb.2
      · rw [nI_add, nI_clamp (by omega), hT.w2 e1] at q4
        rw [q4]
        exact ⟨σ', d, F.sg (F0.sg hS), rfl⟩
    · rw [(F.1 (57 + f) _ (fun z => by unfold Wz at z; omega)).1, mI_s]
  · obtain ⟨σ', d, F, r⟩ := c_154 (e := e) hS hM.2.1
    refine ⟨σ', ck_168 hS hk (b_168_0 hS hk ?_), F, r⟩
    rcases he with ⟨e1, e2⟩ | ⟨e1, e2, e3⟩
    · subst e2
      exact ⟨fun z => absurd (hT.n2.mp z) e1, fun _ => ⟨_, _, d, F.sg hS, Or.inl rfl, rfl⟩⟩
    · subst e3
      rw [if_pos e2] at c167
      refine ⟨fun _ => ?_, fun z => absurd (hT.n2.mpr e1) z⟩
      rw [hT.w2 e1]
      exact ⟨_, _, c167, hS, fun z => absurd z (nI_pos (by omega)), fun _ => ⟨_, _, d, F.sg hS, Or.inl rfl, rfl⟩⟩
/-- a name that is there -/
theorem r_169 {f p n0 : Nat} (hS : Sg t σ) (h : RM σ B n) (hM : MC σ B n p) (hp : p ≤ n) (hR : MRd σ D) (hW : WDr D) (hf : (f = 8 ∧ n0 = 28) ∨ (f = 9 ∧ n0 = 20)) : (tK B n p = 3 → fdx D f (tV B n p) < D (cf f) 0 → ∃ σ', Cl 169 [.ref 59, .ref (57 + f), .int (nI (mof f)), .int (nI (D (cf f) 0))] σ (some (.int 1), σ') ∧ Fr (fun x i => Wz x i ∨ (x = 59 ∧ i = 11)) σ σ' ∧ MC σ' B n (tE B n p) ∧ mI σ' 59 11 = nI (fdx D f (tV B n p))) ∧ (∀ e, (tK B n p ≠ 3 ∧ e = 1) ∨ (tK B n p = 3 ∧ ¬ fdx D f (tV B n p) < D (cf f) 0 ∧ e = 4) → ∃ σ', Cl 169 [.ref 59, .ref (57 + f), .int (nI (mof f)), .int (nI (D (cf f) 0))] σ (some (.int 0), σ') ∧ Fr (fun x i => x = 59 ∧ (i = 4 ∨ i = 5)) σ σ' ∧ MF (e, tS B n p) σ') := by
  have hT := hM.2.2
  have hV := tV_lt (B := B) (n := n) (p := p)
  have hL := hW.1.1.1
  have hP := hW.1.1.2.1
  have hk : KS[57 + f]? = some (11, n0) := by rcases hf with ⟨rfl, rfl⟩ | ⟨rfl, rfl⟩ <;> rfl
  have hc : D (cf f) 0 ≤ 14 := by
    rcases hf with ⟨rfl, _⟩ | ⟨rfl, _⟩
    · show D 0 0 ≤ 14; omega
    · show D 1 0 ≤ 14; omega
  have c167 := r_167 (v := tV B n p) hS hR hW hf hV
  have fle := fdx_le (D := D) (f := f) (v := tV B n p)
  refine ⟨fun e1 e2 => ?_, fun e he => ?_⟩
  · rw [if_pos e2] at c167
    obtain ⟨σ', d, F, r1, r2⟩ := nxr hS h hM hp hR
    refine ⟨uI σ' 59 11 (nI (fdx D f (tV B n p))), ck_169 hS hk (b_169_0 hS hk ⟨fun _ => ?_, fun z => absurd (hT.n2.mpr e1) z⟩), (F.mono (fun _ _ h => Or.inl h)).uI (Or.inr ⟨rfl, rfl⟩), r2.cg (fun i h1 h2 => mI_n (by omega)), mI_s⟩
    rw [hT.w2 e1]
    exact ⟨_, _, c167, hS, fun z => absurd z (nI_pos (by omega)), fun _ => ⟨σ', d, F.sg hS, rfl⟩⟩
  · obtain ⟨σ', d, F, r⟩ := c_154 (e := e) hS hM.2.1
    refine ⟨σ', ck_169 hS hk (b_169_0 hS hk ?_), F, r⟩
    rcases he with ⟨e1, e2⟩ | ⟨e1, e2, e3⟩
    · subst e2
      exact ⟨fun z => absurd (hT.n2.mp z) e1, fun _ => ⟨_, _, d, F.sg hS, Or.inl rfl, rfl⟩⟩
    · subst e3
      rw [if_neg e2] at c167
      refine ⟨fun _ => ?_, fun z => absurd (hT.n2.mpr e1) z⟩
      rw [hT.w2 e1]
      exact ⟨_, _, c167, hS, fun _ => ⟨_, _, d, F.sg hS, Or.inl rfl, rfl⟩, fun z => absurd (by decide) z⟩
end LinM
