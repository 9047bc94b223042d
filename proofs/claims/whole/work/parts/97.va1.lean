/-! ===== lines, first side ===== -/
def cf (f : Nat) : Nat := if f = 8 then 0 else if f ≤ 11 then 1 else if f ≤ 13 then 3 else if f = 14 then 4 else 7
/-- what is being read, first side -/
def CR (σ : Mm) (a : Nat) (D : Nat → Nat → Nat) : Prop := (∀ g, (g ≤ 4 ∨ g = 7) → mI σ a g = nI (D g 0)) ∧ (∀ g, (g = 5 ∨ g = 6) → mI σ a g = (if D (g + 16) 0 = 0 then -1 else nI (D g 0))) ∧ (∀ f i, 8 ≤ f → f ≤ 15 → i < D (cf f) 0 → mI σ (a + (f - 7)) i = nI (D f i)) ∧ (∀ f i, (f = 16 ∨ f = 17) → i < 3 → mI σ (a + (f - 7)) i = nI (D f i))
theorem cf_lt {f : Nat} : cf f ≤ 7 := by
  unfold cf
  repeat' split
  all_goals omega
theorem cf_sc {f : Nat} (h : 8 ≤ f) : cf f = 0 ∨ cf f = 1 ∨ cf f = 3 ∨ cf f = 4 ∨ cf f = 7 := by
  unfold cf
  repeat' split
  all_goals omega
theorem first_cg {p q : Nat → Bool} : ∀ {n : Nat}, (∀ i, i < n → p i = q i) → fa_first p n = fa_first q n := by
  intro n
  induction n with
  | zero => intro _; rfl
  | succ n ih =>
    intro h
    show (if fa_first p n < n then fa_first p n else if p n then n else n + 1) = (if fa_first q n < n then fa_first q n else if q n then n else n + 1)
    rw [ih (fun i hi => h i (by omega)), h n (by omega)]
theorem fnd_eq {f : Nat → Nat} {v n : Nat} (hf : ∀ i, i < n → f i < 2 ^ 31) (hv : v < 2 ^ 31) : fnd f (nI v) n = if fa_first (fun i => decide (f i = v)) n < n then nI (fa_first (fun i => decide (f i = v)) n) else -1 := by
  have e : fa_first (fun i => decide (nI (f i) = nI v)) n = fa_first (fun i => decide (f i = v)) n := first_cg (fun i hi => by
    by_cases g : f i = v
    · rw [decide_eq_true g, decide_eq_true (by rw [g])]
    · rw [decide_eq_false g, decide_eq_false (fun z => g ((nI_eq (hf i hi) hv).mp z))])
  unfold fnd
  rw [e]
theorem nIm1 {l : Nat} (h : l < 2 ^ 31) : ¬ nI l = -1 := fun z => by
  rw [fa_eq, nI_toInt h] at z
  have z : (l : Int) = -1 := z
  omega
section LinC
variable {t n a : Nat} {σ σ' : Mm} {D : Nat → Nat → Nat} {B : Nat → Nat} {W : Nat → Nat → Prop}
theorem CR.fr (h : CR σ a D) (hf : Fr W σ σ') (hW : ∀ x i, a ≤ x → x ≤ a + 10 → ¬ W x i) : CR σ' a D := by
  have r : ∀ x i, a ≤ x → x ≤ a + 10 → mI σ' x i = mI σ x i := fun x i h1 h2 => (hf.1 x i (hW x i h1 h2)).1
  obtain ⟨h1, h2, h3, h4⟩ := h
  exact ⟨fun g hg => (r a g (by omega) (by omega)).trans (h1 g hg), fun g hg => (r a g (by omega) (by omega)).trans (h2 g hg), fun f i g1 g2 hi => (r _ i (by omega) (by omega)).trans (h3 f i g1 g2 hi), fun f i hf hi => (r _ i (by omega) (by omega)).trans (h4 f i hf hi)⟩
theorem CR.put {f j v : Nat} (h : CR σ a D) (g1 : 8 ≤ f) (g2 : f ≤ 15) : CR (uI σ (a + (f - 7)) j (nI v)) a (hu D f j v) := by
  obtain ⟨h1, h2, h3, h4⟩ := h
  have c0 : ∀ g i, g ≤ 7 ∨ (21 ≤ g) → hu D f j v g i = D g i := fun g i hg => hu_n (by omega)
  refine ⟨fun g hg => ?_, fun g hg => ?_, fun f' i g1' g2' hi => ?_, fun f' i hf hi => ?_⟩
  · rw [mI_n (by omega), c0 g 0 (by omega)]; exact h1 g hg
  · rw [mI_n (by omega), c0 g 0 (by omega), c0 (g + 16) 0 (by omega)]; exact h2 g hg
  · rw [c0 _ 0 (Or.inl cf_lt)] at hi
    by_cases e : f' = f ∧ i = j
    · rw [e.1, e.2, mI_s, hu_s]
    · rw [mI_n (by omega), hu_n e]; exact h3 f' i g1' g2' hi
  · rw [mI_n (by omega), hu_n (by omega)]; exact h4 f' i hf hi
theorem CR.law {f j v : Nat} (h : CR σ a D) (g : f = 16 ∨ f = 17) : CR (uI σ (a + (f - 7)) j (nI v)) a (hu D f j v) := by
  obtain ⟨h1, h2, h3, h4⟩ := h
  have c0 : ∀ g i, g ≤ 15 ∨ (21 ≤ g) → hu D f j v g i = D g i := fun g i hg => hu_n (by omega)
  refine ⟨fun g hg => ?_, fun g hg => ?_, fun f' i g1' g2' hi => ?_, fun f' i hf hi => ?_⟩
  · rw [mI_n (by omega), c0 g 0 (by omega)]; exact h1 g hg
  · rw [mI_n (by omega), c0 g 0 (by omega), c0 (g + 16) 0 (by omega)]; exact h2 g hg
  · rw [c0 _ 0 (Or.inl (by have := cf_lt (f := f'); omega))] at hi
    rw [mI_n (by omega), c0 f' i (by omega)]; exact h3 f' i g1' g2' hi
  · by_cases e : f' = f ∧ i = j
    · rw [e.1, e.2, mI_s, hu_s]
    · rw [mI_n (by omega), hu_n e]; exact h4 f' i hf hi
theorem CR.cnt {c : Nat} (h : CR σ a D) (hc : c = 0 ∨ c = 1 ∨ c = 3 ∨ c = 4) (hn : ∀ f, 8 ≤ f → f ≤ 14 → cf f = c → mI σ (a + (f - 7)) (D c 0) = nI (D f (D c 0))) : CR (uI σ a c (nI (D c 0 + 1))) a (hu D c 0 (D c 0 + 1)) := by
  obtain ⟨h1, h2, h3, h4⟩ := h
  refine ⟨fun g hg => ?_, fun g hg => ?_, fun f' i g1' g2' hi => ?_, fun f' i hf hi => ?_⟩
  · by_cases e : g = c
    · rw [e, mI_s, hu_s]
    · rw [mI_n (by omega), hu_n (by omega)]; exact h1 g hg
  · rw [mI_n (by omega), hu_n (by omega), hu_n (by omega)]; exact h2 g hg
  · rw [mI_n (by omega), hu_n (by omega)]
    by_cases e : cf f' = c
    · rw [e, hu_s] at hi
      by_cases e2 : i = D c 0
      · have e15 : f' ≠ 15 := fun z => by rw [z] at e; have : cf 15 = 7 := rfl; omega
        rw [e2]; exact hn f' g1' (by omega) e
      · exact h3 f' i g1' g2' (by rw [e]; omega)
    · rw [hu_n (by omega)] at hi; exact h3 f' i g1' g2' hi
  · rw [mI_n (by omega), hu_n (by omega)]; exact h4 f' i hf hi
theorem CR.lit {v : Nat} (h : CR σ a D) : CR (uI σ a 2 (nI v)) a (hu D 2 0 v) := by
  obtain ⟨h1, h2, h3, h4⟩ := h
  refine ⟨fun g hg => ?_, fun g hg => ?_, fun f' i g1' g2' hi => ?_, fun f' i hf hi => ?_⟩
  · by_cases e : g = 2
    · rw [e, mI_s, hu_s]
    · rw [mI_n (by omega), hu_n (by omega)]; exact h1 g hg
  · rw [mI_n (by omega), hu_n (by omega), hu_n (by omega)]; exact h2 g hg
  · have := cf_sc g1'
    rw [hu_n (by omega)] at hi
    rw [mI_n (by omega), hu_n (by omega)]; exact h3 f' i g1' g2' hi
  · rw [mI_n (by omega), hu_n (by omega)]; exact h4 f' i hf hi
theorem CR.once {g v : Nat} (h : CR σ a D) (hg : g = 5 ∨ g = 6) : CR (uI σ a g (nI v)) a (hu (hu D g 0 v) (g + 16) 0 1) := by
  obtain ⟨h1, h2, h3, h4⟩ := h
  refine ⟨fun g' hg' => ?_, fun g' hg' => ?_, fun f' i g1' g2' hi => ?_, fun f' i hf hi => ?_⟩
  · rw [mI_n (by omega), hu_n (by omega), hu_n (by omega)]; exact h1 g' hg'
  · by_cases e : g' = g
    · rw [e, mI_s, hu_s, if_neg (by decide), hu_n (by omega), hu_s]
    · rw [mI_n (by omega), hu_n (by omega), hu_n (by omega), hu_n (by omega), hu_n (by omega)]; exact h2 g' hg'
  · have := cf_sc g1'
    rw [hu_n (by omega), hu_n (by omega)] at hi
    rw [mI_n (by omega), hu_n (by omega), hu_n (by omega)]; exact h3 f' i g1' g2' hi
  · rw [mI_n (by omega), hu_n (by omega), hu_n (by omega)]; exact h4 f' i hf hi
def Wl1 (a x i : Nat) : Prop := (x = 1 ∧ 5 ≤ i) ∨ (a ≤ x ∧ x ≤ a + 10) ∨ x = 14
def Wl0 (a x i : Nat) : Prop := (x = 1 ∧ i ≤ 1) ∨ Wl1 a x i
theorem wl_k {a x i : Nat} (h : Wkk x i) : Wl1 a x i := by unfold Wkk at h; unfold Wl1; omega
theorem wl_f {a x i : Nat} (h : Wrf x i) : Wl0 a x i := Or.inl h
theorem RC.fl (h : RC σ B n) (ha : a = 3 ∨ a = 15) (hf : Fr (Wl1 a) σ σ') : RC σ' B n := h.fr hf (fun x i h z => by unfold Wl1 at z; omega)
/-- a token of a kind is wanted -/
theorem c_49 {k p : Nat} (hS : Sg t σ) (h : RC σ B n) (hp : p ≤ n) (h5 : mI σ 1 5 = nI p) (hk : k ≤ 43) : (tK B n p = k → ∃ σ', Cl 49 [.ref 1, .int (nI k)] σ (some (.int 1), σ') ∧ Fr Wkk σ σ' ∧ mI σ' 1 5 = nI (tE B n p) ∧ mI σ' 1 7 = nI (tS B n p) ∧ mI σ' 1 8 = nI (tV B n p)) ∧ (tK B n p ≠ k → ∃ σ', Cl 49 [.ref 1, .int (nI k)] σ (some (.int 0), σ') ∧ Fr (fun x i => Wkk x i ∨ Wrf x i) σ σ' ∧ CF (1, tS B n p) σ') := by
  obtain ⟨σ1, d1, F1, a5, a6, a7, a8⟩ := c_44 hS h hp h5
  have S1 := F1.sg hS
  have hlt := tK_lt B n p
  have ik : (nI (tK B n p) = nI k) ↔ tK B n p = k := nI_eq (by omega) (by omega)
  refine ⟨fun e => ⟨σ1, ck_49 hS (b_49_0 hS ⟨σ1, d1, S1, ?_⟩), F1, a5, a7, a8⟩, fun e => ?_⟩
  · rw [a6]; exact ⟨fun _ => rfl, fun z => absurd (ik.mpr e) z⟩
  · obtain ⟨σ', d, F, r⟩ := c_40 (e := 1) S1 a7
    refine ⟨σ', ck_49 hS (b_49_0 hS ⟨σ1, d1, S1, ?_⟩), (F1.mono (fun _ _ h => Or.inl h)).tr (F.mono (fun _ _ h => Or.inr h)), r⟩
    rw [a6]
    exact ⟨fun z => absurd (ik.mp z) e, fun _ => ⟨_, _, d, F.sg S1, fun _ => rfl, fun z => absurd rfl z⟩⟩
theorem c_50 {m p : Nat} (hS : Sg t σ) (h : RC σ B n) (hp : p ≤ n) (h5 : mI σ 1 5 = nI p) (hm : m < 2 ^ 31) : (tK B n p = 2 → tV B n p ≤ m → ∃ σ', Cl 50 [.ref 1, .int (nI m)] σ (some (.int 1), σ') ∧ Fr Wkk σ σ' ∧ mI σ' 1 5 = nI (tE B n p) ∧ mI σ' 1 8 = nI (tV B n p)) ∧ (∀ e, (tK B n p ≠ 2 ∧ e = 1) ∨ (tK B n p = 2 ∧ m < tV B n p ∧ e = 2) → ∃ σ', Cl 50 [.ref 1, .int (nI m)] σ (some (.int 0), σ') ∧ Fr (fun x i => Wkk x i ∨ Wrf x i) σ σ' ∧ CF (e, tS B n p) σ') := by
  obtain ⟨σ1, d1, F1, a5, a6, a7, a8⟩ := c_44 hS h hp h5
  have S1 := F1.sg hS
  have hlt := tK_lt B n p
  have hV := tV_lt (B := B) (n := n) (p := p)
  have ik : (nI (tK B n p) = 2) ↔ tK B n p = 2 := nI_eq (b := 2) (by omega) (by decide)
  refine ⟨fun e1 e2 => ⟨σ1, ck_50 hS (b_50_0 hS ⟨σ1, d1, S1, ?_⟩), F1, a5, a8⟩, fun e he => ?_⟩
  · rw [a6, a8]; exact ⟨fun _ => ⟨fun z => absurd z (nI_nlt e2 hm), fun _ => rfl⟩, fun z => absurd (ik.mpr e1) z⟩
  · obtain ⟨σ', d, F, r⟩ := c_40 (e := e) S1 a7
    refine ⟨σ', ck_50 hS (b_50_0 hS ⟨σ1, d1, S1, ?_⟩), (F1.mono (fun _ _ h => Or.inl h)).tr (F.mono (fun _ _ h => Or.inr h)), r⟩
    rw [a6, a8]
    rcases he with ⟨e1, e2⟩ | ⟨e1, e2, e3⟩
    · subst e2
      exact ⟨fun z => absurd (ik.mp z) e1, fun _ => ⟨_, _, d, F.sg S1, Or.inl rfl, rfl⟩⟩
    · subst e3
      exact ⟨fun _ => ⟨fun _ => ⟨_, _, d, F.sg S1, fun _ => rfl, fun z => absurd rfl z⟩, fun z => absurd (nI_lt e2 hV) z⟩, fun z => absurd (ik.mpr e1) z⟩
theorem r_89 {v : Nat} (hS : Sg t σ) (ha : a = 3 ∨ a = 15) (h : CR σ a D) (hW : WDr D) (hv : v < 2 ^ 31) : Cl 89 [.ref a, .int (nI v)] σ (some (.int (if fdl D v < D 0 0 then nI (fdl D v) else -1)), σ) := by
  have h0 := hW.1.1.1
  have := c_89 (x := nI v) (f := D 8) hS ha (h.1 0 (by omega)) h0 (fun i hi => h.2.2.1 8 i (by omega) (by omega) hi)
  rw [fnd_eq (fun i hi => hW.1.2.2.2.2.2.2.2.1 i hi) hv] at this
  exact this
theorem r_90 {v : Nat} (hS : Sg t σ) (ha : a = 3 ∨ a = 15) (h : CR σ a D) (hW : WDr D) (hv : v < 2 ^ 31) : Cl 90 [.ref a, .int (nI v)] σ (some (.int (if fdp D v < D 1 0 then nI (fdp D v) else -1)), σ) := by
  have h0 := hW.1.1.2.1
  have := c_90 (x := nI v) (f := D 9) hS ha (h.1 1 (by omega)) h0 (fun i hi => h.2.2.1 9 i (by omega) (by omega) hi)
  rw [fnd_eq (fun i hi => hW.1.2.2.2.2.2.2.2.2 i hi) hv] at this
  exact this
/-- what a line's body leaves on the first side -/
def OkL (t : Nat) (σ : Mm) (r : Rz) (K : Option Value → Mm → Prop) : Prop := (∀ e, r = .inl e → ∃ σ', K (some (.int 0)) σ' ∧ Fr (Wl0 (18 - t)) σ σ' ∧ CF e σ') ∧ (∀ D q, r = .inr (D, q) → ∃ σ', K (some (.int 1)) σ' ∧ Fr (Wl1 (18 - t)) σ σ' ∧ mI σ' 1 5 = nI q ∧ mI σ' 1 10 = nI (D 7 0) ∧ CR σ' (18 - t) D)
theorem OkL.no {r : Rz} {K : Option Value → Mm → Prop} {e : Nat × Nat} (h : r = .inl e) (g : ∃ σ', K (some (.int 0)) σ' ∧ Fr (Wl0 (18 - t)) σ σ' ∧ CF e σ') : OkL t σ r K := by
  subst h
  refine ⟨fun e' h => ?_, fun D q h => (by cases h)⟩
  injection h with h
  subst h
  exact g
theorem OkL.yes {r : Rz} {K : Option Value → Mm → Prop} {q : Nat} (h : r = .inr (D, q)) (g : ∃ σ', K (some (.int 1)) σ' ∧ Fr (Wl1 (18 - t)) σ σ' ∧ mI σ' 1 5 = nI q ∧ mI σ' 1 10 = nI (D 7 0) ∧ CR σ' (18 - t) D) : OkL t σ r K := by
  subst h
  refine ⟨fun e' h => (by cases h), fun D' q' h => ?_⟩
  injection h with h
  injection h with h1 h2
  subst h1 h2
  exact g
theorem CR.fkk (ha : a = 3 ∨ a = 15) (h : CR σ a D) (hf : Fr Wkk σ σ') : CR σ' a D := h.fr hf (fun x i h1 h2 z => by unfold Wkk at z; omega)
theorem wkf {a x i : Nat} (h : Wkk x i ∨ Wrf x i) : Wl0 a x i := h.elim (fun h => Or.inr (wl_k h)) (fun h => Or.inl h)
theorem c_52 {p s0 : Nat} (hS : Sg t σ) (h : RC σ B n) (hC : CR σ (18 - t) D) (hW : WDr D) (hp : p ≤ n) (h5 : mI σ 1 5 = nI p) (h7 : mI σ 1 7 = nI s0) (h10 : mI σ 1 10 = nI (D 7 0)) : OkL t σ (pLamp B n D s0 p) (fun v σ' => Cl 52 [.ref 1] σ (v, σ')) := by
  have ha := hS.ti
  have hL := hW.1.1.1
  have hV := tV_lt (B := B) (n := n) (p := p)
  have l0 : mI σ (18 - t) 0 = nI (D 0 0) := hC.1 0 (by omega)
  by_cases g0 : D 0 0 = 14
  · obtain ⟨σ', d, F, r⟩ := c_40 (e := 2) hS h7
    refine OkL.no (if_pos g0) ⟨σ', ck_52 hS (b_52_0 hS ?_), F.mono (fun _ _ h => wl_f h), r⟩
    rw [l0, g0]
    exact ⟨fun z => absurd z (by decide), fun _ => ⟨_, _, d, F.sg hS, Or.inl rfl, rfl⟩⟩
  · have lt14 : nI (D 0 0) < 14 := nI_lt (b := 14) (by omega) (by decide)
    obtain ⟨y, no⟩ := c_49 (k := 3) hS h hp h5 (by decide)
    by_cases g1 : tK B n p = 3
    · obtain ⟨σ1, d1, F1, a5, a7, a8⟩ := y g1
      have S1 := F1.sg hS
      have C1 := hC.fkk ha F1
      have c89 := r_89 (v := tV B n p) S1 ha C1 hW hV
      have e1 : pLamp B n D s0 p = if fdl D (tV B n p) < D 0 0 then .inl (3, tS B n p) else .inr (hu (hu D 8 (D 0 0) (tV B n p)) 0 0 (D 0 0 + 1), tE B n p) := (if_neg g0).trans (if_neg (fun z => z g1))
      have fdle : fdl D (tV B n p) ≤ D 0 0 := fa_first_le _ _
      by_cases g2 : fdl D (tV B n p) < D 0 0
      · rw [if_pos g2] at c89
        obtain ⟨σ', d, F, r⟩ := c_40 (e := 3) S1 a7
        refine OkL.no (e1.trans (if_pos g2)) ⟨σ', ck_52 hS (b_52_0 hS ?_), (F1.mono (fun _ _ h => Or.inr (wl_k h))).tr (F.mono (fun _ _ h => wl_f h)), r⟩
        rw [l0]
        refine ⟨fun _ => ⟨_, _, d1, S1, fun z => absurd z (by decide), fun _ => ?_⟩, fun z => absurd lt14 z⟩
        rw [a8]
        exact ⟨_, _, c89, S1, fun z => absurd z (nIm1 (by omega)), fun _ => ⟨_, _, d, F.sg S1, Or.inl rfl, rfl⟩⟩
      · rw [if_neg g2] at c89
        have C2 := C1.put (f := 8) (j := D 0 0) (v := tV B n p) (by decide) (by decide)
        have F2 : Fr (Wl1 (18 - t)) σ (uI σ1 (18 - t + 1) (D 0 0) (nI (tV B n p))) := (F1.mono (fun _ _ h => wl_k h)).uI (Or.inr (Or.inl ⟨by omega, by omega⟩))
        have C2' : CR (uI σ1 (18 - t + 1) (D 0 0) (nI (tV B n p))) (18 - t) (hu D 8 (D 0 0) (tV B n p)) := C2
        have e00 : hu D 8 (D 0 0) (tV B n p) 0 0 = D 0 0 := hu_n (by omega)
        have C3 := C2'.cnt (c := 0) (Or.inl rfl) (fun f f1 f2 fc => by
          have : f = 8 := by
            unfold cf at fc
            repeat' split at fc
            all_goals omega
          subst this
          rw [e00, hu_s]
          show mI (uI σ1 (18 - t + 1) (D 0 0) (nI (tV B n p))) (18 - t + 1) (D 0 0) = _
          exact mI_s)
        rw [e00] at C3
        refine OkL.yes (e1.trans (if_neg g2)) ⟨_, ck_52 hS (b_52_0 hS ?_), F2.uI (Or.inr (Or.inl ⟨Nat.le_refl _, by omega⟩)), ?_, ?_, C3⟩
        · rw [l0]
          refine ⟨fun _ => ⟨_, _, d1, S1, fun z => absurd z (by decide), fun _ => ?_⟩, fun z => absurd lt14 z⟩
          rw [a8, nI_clamp (by omega)]
          refine ⟨_, _, c89, S1, fun _ => ⟨inb_nI (by omega) (by decide), fun σ7 q7 σ10 q10 => ?_⟩, fun z => absurd rfl z⟩
          rw [a8] at q7
          have e7 : mI σ7 (18 - t) 0 = nI (D 0 0) := by rw [q7, mI_n (by omega)]; exact C1.1 0 (by omega)
          rw [e7, nI_1, q7] at q10
          rw [q10]
        · rw [mI_n (by omega), mI_n (by omega)]; exact a5
        · rw [mI_n (by omega), mI_n (by omega), (F1.1 1 10 (fun z => by unfold Wkk at z; omega)).1, hu_n (by omega), hu_n (by omega)]; exact h10
    · obtain ⟨σ', d, F, r⟩ := no g1
      refine OkL.no ((if_neg g0).trans (if_pos g1)) ⟨σ', ck_52 hS (b_52_0 hS ?_), F.mono (fun _ _ h => wkf h), r⟩
      rw [l0]
      exact ⟨fun _ => ⟨_, _, d, F.sg hS, fun _ => rfl, fun z => absurd rfl z⟩, fun z => absurd lt14 z⟩
theorem c_55 {p : Nat} (hS : Sg t σ) (h : RC σ B n) (hC : CR σ (18 - t) D) (hW : WDr D) (hp : p ≤ n) (h5 : mI σ 1 5 = nI p) (h10 : mI σ 1 10 = nI (D 7 0)) : OkL t σ (pLit B n D p) (fun v σ' => Cl 55 [.ref 1] σ (v, σ')) := by
  have ha := hS.ti
  have hL := hW.1.1.1
  have hV := tV_lt (B := B) (n := n) (p := p)
  have h2 := hW.1.1.2.2.1
  have h2' : D 2 0 < 2 ^ 31 := Nat.lt_trans h2 (Nat.pow_lt_pow_right (by decide) (by omega))
  obtain ⟨y, no⟩ := c_49 (k := 3) hS h hp h5 (by decide)
  by_cases g1 : tK B n p = 3
  · obtain ⟨σ1, d1, F1, a5, a7, a8⟩ := y g1
    have S1 := F1.sg hS
    have C1 := hC.fkk ha F1
    have c89 := r_89 (v := tV B n p) S1 ha C1 hW hV
    have l2 : mI σ1 (18 - t) 2 = nI (D 2 0) := C1.1 2 (by omega)
    have e1 : pLit B n D p = if ¬ fdl D (tV B n p) < D 0 0 then .inl (4, tS B n p) else if (D 2 0).testBit (fdl D (tV B n p)) = true then .inl (3, tS B n p) else .inr (hu D 2 0 (D 2 0 ||| 2 ^ fdl D (tV B n p)), tE B n p) := if_neg (fun z => z g1)
    have fdle : fdl D (tV B n p) ≤ D 0 0 := fa_first_le _ _
    by_cases g2 : fdl D (tV B n p) < D 0 0
    · rw [if_pos g2] at c89
      have nm := nIm1 (l := fdl D (tV B n p)) (by omega)
      have e2 := e1.trans (if_neg (fun z => z g2))
      by_cases g3 : (D 2 0).testBit (fdl D (tV B n p)) = true
      · obtain ⟨σ', d, F, r⟩ := c_40 (e := 3) S1 a7
        refine OkL.no (e2.trans (if_pos g3)) ⟨σ', ck_55 hS (b_55_0 hS ⟨_, _, d1, S1, fun z => absurd z (by decide), fun _ => ?_⟩), (F1.mono (fun _ _ h => Or.inr (wl_k h))).tr (F.mono (fun _ _ h => wl_f h)), r⟩
        rw [a8]
        refine ⟨_, _, c89, S1, fun z => absurd z nm, fun _ => ?_⟩
        rw [l2, nI_bit h2' (by omega), if_pos g3]
        exact ⟨fun z => absurd z (by decide), fun _ => ⟨_, _, d, F.sg S1, Or.inl rfl, rfl⟩⟩
      · refine OkL.yes (e2.trans (if_neg g3)) ⟨uI σ1 (18 - t) 2 (nI (D 2 0 ||| 2 ^ fdl D (tV B n p))), ck_55 hS (b_55_0 hS ⟨_, _, d1, S1, fun z => absurd z (by decide), fun _ => ?_⟩), (F1.mono (fun _ _ h => wl_k h)).uI (Or.inr (Or.inl ⟨Nat.le_refl _, by omega⟩)), ?_, ?_, C1.lit⟩
        · rw [a8]
          refine ⟨_, _, c89, S1, fun z => absurd z nm, fun _ => ?_⟩
          rw [l2, nI_bit h2' (by omega), if_neg g3, nI_one (by omega), fa_or]
          exact ⟨fun _ σ7 q7 => by rw [q7], fun z => absurd rfl z⟩
        · rw [mI_n (by omega)]; exact a5
        · rw [mI_n (by omega), (F1.1 1 10 (fun z => by unfold Wkk at z; omega)).1, hu_n (by omega)]; exact h10
    · rw [if_neg g2] at c89
      obtain ⟨σ', d, F, r⟩ := c_40 (e := 4) S1 a7
      refine OkL.no (e1.trans (if_pos g2)) ⟨σ', ck_55 hS (b_55_0 hS ⟨_, _, d1, S1, fun z => absurd z (by decide), fun _ => ?_⟩), (F1.mono (fun _ _ h => Or.inr (wl_k h))).tr (F.mono (fun _ _ h => wl_f h)), r⟩
      rw [a8]
      exact ⟨_, _, c89, S1, fun _ => ⟨_, _, d, F.sg S1, Or.inl rfl, rfl⟩, fun z => absurd rfl z⟩
  · obtain ⟨σ', d, F, r⟩ := no g1
    exact OkL.no (if_pos g1) ⟨σ', ck_55 hS (b_55_0 hS ⟨_, _, d, F.sg hS, fun _ => rfl, fun z => absurd rfl z⟩), F.mono (fun _ _ h => wkf h), r⟩
end LinC
