/-! ===== laws: steps and knots; what a law comes to ===== -/
/-- the knots that stand open behind knot i -/
def sk1 (sp kn pt ot : Nat → Nat) (i : Nat) (r : List Nat) : Option (List Nat) :=
  if kn i = 0 then (if sp i = pt i ∧ pt i ≤ 9999 then some (i :: r) else none)
  else if kn i = 1 then (if sp i = 10024 + pt i ∧ pt i ≤ 6 then some (i :: r) else none)
  else if kn i = 2 then (match r with
    | x :: r1 => if x = pt i ∧ sp i = 10023 then some (i :: r1) else none
    | [] => none)
  else (match r with
    | y :: x :: r1 => if x = pt i ∧ y = ot i ∧ kn i ≤ 14 ∧ sp i = 10000 + kz (kn i) then some (i :: r1) else none
    | _ => none)
def sk (sp kn pt ot : Nat → Nat) (f : Nat) : Nat → Option (List Nat)
  | 0 => some []
  | m + 1 => match sk sp kn pt ot f m with
    | none => none
    | some r => sk1 sp kn pt ot (f + m) r
section Sk
variable {sp kn pt ot : Nat → Nat} {f : Nat}
theorem sk1_spec {i : Nat} {r s : List Nat} (h : sk1 sp kn pt ot i r = some s) : (kn i = 0 ∧ sp i = pt i ∧ pt i ≤ 9999 ∧ s = i :: r) ∨ (kn i = 1 ∧ sp i = 10024 + pt i ∧ pt i ≤ 6 ∧ s = i :: r) ∨ (kn i = 2 ∧ sp i = 10023 ∧ ∃ r1, r = pt i :: r1 ∧ s = i :: r1) ∨ (3 ≤ kn i ∧ kn i ≤ 14 ∧ sp i = 10000 + kz (kn i) ∧ ∃ r1, r = ot i :: pt i :: r1 ∧ s = i :: r1) := by
  unfold sk1 at h
  by_cases h0 : kn i = 0
  · rw [if_pos h0] at h
    split at h
    · rename_i g
      injection h with h
      exact Or.inl ⟨h0, g.1, g.2, h.symm⟩
    · cases h
  · rw [if_neg h0] at h
    by_cases h1 : kn i = 1
    · rw [if_pos h1] at h
      split at h
      · rename_i g
        injection h with h
        exact Or.inr (Or.inl ⟨h1, g.1, g.2, h.symm⟩)
      · cases h
    · rw [if_neg h1] at h
      by_cases h2 : kn i = 2
      · rw [if_pos h2] at h
        match r, h with
        | [], h => cases h
        | x :: r1, h =>
          have h : (if x = pt i ∧ sp i = 10023 then some (i :: r1) else none) = some s := h
          split at h
          · rename_i g
            injection h with h
            exact Or.inr (Or.inr (Or.inl ⟨h2, g.2, r1, by rw [g.1], h.symm⟩))
          · cases h
      · rw [if_neg h2] at h
        match r, h with
        | [], h => cases h
        | [_], h => cases h
        | y :: x :: r1, h =>
          have h : (if x = pt i ∧ y = ot i ∧ kn i ≤ 14 ∧ sp i = 10000 + kz (kn i) then some (i :: r1) else none) = some s := h
          split at h
          · rename_i g
            injection h with h
            exact Or.inr (Or.inr (Or.inr ⟨by omega, g.2.2.1, g.2.2.2, r1, by rw [g.1, g.2.1], h.symm⟩))
          · cases h
theorem sk_pre {m : Nat} {s : List Nat} (h : sk sp kn pt ot f (m + 1) = some s) : ∃ r, sk sp kn pt ot f m = some r ∧ sk1 sp kn pt ot (f + m) r = some s := by
  have h : (match sk sp kn pt ot f m with
    | none => none
    | some r => sk1 sp kn pt ot (f + m) r) = some s := h
  cases e : sk sp kn pt ot f m with
  | none => rw [e] at h; cases h
  | some r => rw [e] at h; exact ⟨r, rfl, h⟩
theorem sk_le {n : Nat} {s : List Nat} (h : sk sp kn pt ot f n = some s) : ∀ m, m ≤ n → ∃ r, sk sp kn pt ot f m = some r := by
  induction n generalizing s with
  | zero => intro m hm; have : m = 0 := by omega
            subst this; exact ⟨s, h⟩
  | succ n ih =>
    intro m hm
    obtain ⟨r, hr, _⟩ := sk_pre h
    rcases Nat.lt_or_ge n m with g | g
    · have : m = n + 1 := by omega
      subst this; exact ⟨s, h⟩
    · exact ih hr m g
theorem sk_in {m : Nat} {s : List Nat} (h : sk sp kn pt ot f m = some s) : (∀ x, x ∈ s → f ≤ x ∧ x < f + m) ∧ s.length ≤ m := by
  induction m generalizing s with
  | zero =>
    injection h with h
    subst h
    exact ⟨fun x hx => absurd hx List.not_mem_nil, Nat.le_refl _⟩
  | succ m ih =>
    obtain ⟨r, hr, h1⟩ := sk_pre h
    obtain ⟨i1, i2⟩ := ih hr
    rcases sk1_spec h1 with ⟨_, _, _, rfl⟩ | ⟨_, _, _, rfl⟩ | ⟨_, _, r1, rfl, rfl⟩ | ⟨_, _, _, r1, rfl, rfl⟩
    · refine ⟨fun x hx => ?_, by simp only [List.length_cons]; omega⟩
      rcases List.mem_cons.mp hx with e | e
      · omega
      · have := i1 x e; omega
    · refine ⟨fun x hx => ?_, by simp only [List.length_cons]; omega⟩
      rcases List.mem_cons.mp hx with e | e
      · omega
      · have := i1 x e; omega
    · simp only [List.length_cons] at i2 ⊢
      refine ⟨fun x hx => ?_, by omega⟩
      rcases List.mem_cons.mp hx with e | e
      · omega
      · have := i1 x (List.mem_cons_of_mem _ e); omega
    · simp only [List.length_cons] at i2 ⊢
      refine ⟨fun x hx => ?_, by omega⟩
      rcases List.mem_cons.mp hx with e | e
      · omega
      · have := i1 x (List.mem_cons_of_mem _ (List.mem_cons_of_mem _ e)); omega
theorem sk_cg {sp' kn' pt' ot' : Nat → Nat} : ∀ m, (∀ i, i < f + m → sp i = sp' i ∧ kn i = kn' i ∧ pt i = pt' i ∧ ot i = ot' i) → sk sp kn pt ot f m = sk sp' kn' pt' ot' f m := by
  intro m
  induction m with
  | zero => intro _; rfl
  | succ m ih =>
    intro h
    have e1 := ih (fun i hi => h i (by omega))
    obtain ⟨a1, a2, a3, a4⟩ := h (f + m) (by omega)
    have e2 : ∀ r, sk1 sp kn pt ot (f + m) r = sk1 sp' kn' pt' ot' (f + m) r := by
      intro r
      unfold sk1
      rw [a1, a2, a3, a4]
    show (match sk sp kn pt ot f m with
      | none => none
      | some r => sk1 sp kn pt ot (f + m) r) = (match sk sp' kn' pt' ot' f m with
      | none => none
      | some r => sk1 sp' kn' pt' ot' (f + m) r)
    rw [e1]
    cases sk sp' kn' pt' ot' f m with
    | none => rfl
    | some r => exact e2 r
end Sk
def fu (g : Nat → Int64) (i : Nat) (v : Int64) : Nat → Int64 := fun k => if k = i then v else g k
theorem fu_s {g : Nat → Int64} {i : Nat} {v : Int64} : fu g i v i = v := if_pos rfl
theorem fu_n {g : Nat → Int64} {i k : Nat} {v : Int64} (h : k ≠ i) : fu g i v k = g k := if_neg h
/-- one knot's value, and whether an error stands -/
def kv (kn pt ot nm : Nat → Nat) (i : Nat) (s : (Nat → Int64) × Bool) : Int64 × Bool :=
  if kn i = 0 then (lN (pt i), s.2)
  else if kn i = 1 then (lN (nm (pt i)), s.2)
  else if kn i = 2 then (t1 (decide (s.1 (pt i) = 0)), s.2)
  else match jo (kn i) (s.1 (pt i)) (s.1 (ot i)) with
    | some v => (if s.2 = true ∧ 11 ≤ kn i then 0 else v, s.2)
    | none => (0, true)
def ks1 (kn pt ot nm : Nat → Nat) (i : Nat) (s : (Nat → Int64) × Bool) : (Nat → Int64) × Bool := (fu s.1 i (kv kn pt ot nm i s).1, (kv kn pt ot nm i s).2)
def ks (kn pt ot nm : Nat → Nat) (f : Nat) : Nat → (Nat → Int64) × Bool
  | 0 => (fun _ => 0, false)
  | m + 1 => ks1 kn pt ot nm (f + m) (ks kn pt ot nm f m)
/-- a law from f to l; none: an error -/
def lwo (kn pt ot nm : Nat → Nat) (f l : Nat) : Option Int64 := if (ks kn pt ot nm f (l - f)).2 = true then none else some ((ks kn pt ot nm f (l - f)).1 (l - 1))
section Ks
variable {sp kn pt ot nm : Nat → Nat} {f : Nat}
theorem kv_st {i : Nat} {s : (Nat → Int64) × Bool} (h : s.2 = true) : (kv kn pt ot nm i s).2 = true := by
  unfold kv
  split
  · exact h
  · split
    · exact h
    · split
      · exact h
      · split
        · exact h
        · rfl
theorem ks_st {m : Nat} (h : (ks kn pt ot nm f m).2 = true) : ∀ n, m ≤ n → (ks kn pt ot nm f n).2 = true := by
  intro n hn
  induction n with
  | zero => have : m = 0 := by omega
            subst this; exact h
  | succ n ih =>
    rcases Nat.lt_or_ge n m with g | g
    · have : m = n + 1 := by omega
      subst this; exact h
    · exact kv_st (ih g)
theorem bnd_n {n : Nat} (h : n < 2 ^ 31) : Bnd (lN n) := by
  have e : (lN n).toInt = n := lN_toInt (by omega)
  unfold Bnd
  rw [e]
  omega
theorem kv_bnd {i m : Nat} {r s : List Nat} {v : (Nat → Int64) × Bool} (hr : ∀ x, x ∈ r → Bnd (v.1 x)) (h1 : sk1 sp kn pt ot i r = some s) (hn : ∀ j, j ≤ 6 → nm j < 2 ^ 31) : Bnd (kv kn pt ot nm i v).1 := by
  unfold kv
  rcases sk1_spec h1 with ⟨h, _, g, _⟩ | ⟨h, _, g, _⟩ | ⟨h, _, _⟩ | ⟨h, _, _, r1, rfl, _⟩
  · rw [if_pos h]; exact bnd_n (by omega)
  · rw [if_neg (by omega), if_pos h]; exact bnd_n (hn _ g)
  · rw [if_neg (by omega), if_neg (by omega), if_pos h]; exact bnd_t1 _
  · rw [if_neg (by omega), if_neg (by omega), if_neg (by omega)]
    have ha := hr (pt i) (by simp)
    have hb := hr (ot i) (by simp)
    cases e : jo (kn i) (v.1 (pt i)) (v.1 (ot i)) with
    | none => show Bnd 0; exact ⟨by decide, by decide⟩
    | some w =>
      have hw := jo_bnd ha hb e
      show Bnd (if v.2 = true ∧ 11 ≤ kn i then 0 else w)
      split
      · exact ⟨by decide, by decide⟩
      · exact hw
theorem ks_bnd {n : Nat} {s : List Nat} (h : sk sp kn pt ot f n = some s) (hn : ∀ j, j ≤ 6 → nm j < 2 ^ 31) : ∀ m, m ≤ n → ∀ x, f ≤ x → x < f + m → Bnd ((ks kn pt ot nm f m).1 x) := by
  intro m
  induction m with
  | zero => intro _ x h1 h2; omega
  | succ m ih =>
    intro hm x h1 h2
    obtain ⟨s1, h3⟩ := sk_le h (m + 1) hm
    obtain ⟨r, hr, h4⟩ := sk_pre h3
    show Bnd (fu (ks kn pt ot nm f m).1 (f + m) (kv kn pt ot nm (f + m) (ks kn pt ot nm f m)).1 x)
    by_cases e : x = f + m
    · rw [e, fu_s]
      exact kv_bnd (m := m) (fun y hy => ih (by omega) y ((sk_in hr).1 y hy).1 ((sk_in hr).1 y hy).2) h4 hn
    · rw [fu_n e]; exact ih (by omega) x h1 (by omega)
end Ks
/-- the first side's values, the latest on top -/
def VS (σ : Mm) (g : Nat → Int64) : List Nat → Prop
  | [] => True
  | x :: r => mL σ 40 r.length = g x ∧ VS σ g r
theorem VS.up {σ : Mm} {g : Nat → Int64} {n : Nat} {v : Int64} : ∀ {r : List Nat}, VS σ g r → r.length ≤ n → VS (uL σ 40 n v) g r
  | [], _, _ => trivial
  | x :: r, h, hn => by
    simp only [List.length_cons] at hn
    refine ⟨?_, VS.up h.2 (by omega)⟩
    rw [mL_uL, if_neg (by omega)]
    exact h.1
theorem VS.fu {σ : Mm} {g : Nat → Int64} {i : Nat} {v : Int64} : ∀ {r : List Nat}, VS σ g r → (∀ x, x ∈ r → x < i) → VS σ (fu g i v) r
  | [], _, _ => trivial
  | x :: r, h, hn => by
    refine ⟨?_, VS.fu h.2 (fun y hy => hn y (List.mem_cons_of_mem _ hy))⟩
    have := hn x (by simp)
    rw [fu_n (by omega)]
    exact h.1
section Reckon
variable {t : Nat} {σ : Mm} {sp kn pt ot nm : Nat → Nat}
def Wv (a i : Nat) : Prop := a = 40
theorem nI_sub1 {n : Nat} (h : 0 < n) : nI n - 1 = nI (n - 1) := pk_sub (b := 1) h
theorem nI_m1 {n : Nat} (h : 0 < n) : nI n + (-1) = nI (n - 1) := by
  rw [← nI_sub1 h, Int32.sub_eq_add_neg]
theorem kz_lo {k : Nat} (h3 : 3 ≤ k) (h4 : k ≤ 14) : 21 ≤ kz k ∧ kz k ≤ 43 ∧ ¬ kz k = 23 ∧ (kz k < 24 ∨ 30 < kz k) := by
  have hk : k = 3 ∨ k = 4 ∨ k = 5 ∨ k = 6 ∨ k = 7 ∨ k = 8 ∨ k = 9 ∨ k = 10 ∨ k = 11 ∨ k = 12 ∨ k = 13 ∨ k = 14 := by omega
  rcases hk with rfl | rfl | rfl | rfl | rfl | rfl | rfl | rfl | rfl | rfl | rfl | rfl <;> decide
theorem c_12 {a1 q f l : Nat} (hS : Sg t σ) (h1 : a1 = 3 ∨ a1 = 15) (hq : q < 3) (hf : mI σ (a1 + 9) q = nI f) (hl : mI σ (a1 + 10) q = nI l) (hfl : f < l) (hl64 : l ≤ 64) (hs : ∀ i, i < l → mI σ (a1 + 8) i = nI (sp i)) (hm : ∀ j, j < 7 → mI σ 39 j = nI (nm j)) (hn : ∀ j, j ≤ 6 → nm j < 2 ^ 31) (hk : sk sp kn pt ot f (l - f) = some [l - 1]) :
    ∃ σ', Cl 12 [.ref 38, .ref a1, .int (nI q)] σ (some (.long (oE (lwo kn pt ot nm f l))), σ') ∧ Fr Wv σ σ' := by
  suffices h : ∀ z5 z6, ∃ σ', Ev 12 10 [.ref 38, .ref a1, .int (nI q), .int (nI 0), .int (nI f), z5, z6] [] σ (some (.long (oE (lwo kn pt ot nm f l))), σ') ∧ Fr Wv σ σ' by
    obtain ⟨σ', h, g⟩ := h (.retAddr 0) (.retAddr 0)
    refine ⟨σ', ck_12 hS h1 (b_12_0 hS h1 ⟨inb_nI hq (by decide), ?_⟩), g⟩
    rw [nI_clamp (by omega), hf]
    exact h
  refine lp (α := Mm × List Nat) (fun m p => Fr Wv σ p.1 ∧ sk sp kn pt ot f m = some p.2 ∧ VS p.1 (ks kn pt ot nm f m).1 p.2 ∧ (ks kn pt ot nm f m).2 = false) (fun m p => ∀ z5 z6, ∃ σ', Ev 12 10 [.ref 38, .ref a1, .int (nI q), .int (nI p.2.length), .int (nI (f + m)), z5, z6] [] p.1 (some (.long (oE (lwo kn pt ot nm f l))), σ') ∧ Fr Wv σ σ') (l - f) ?_ ?_ (k := 0) (a := (σ, [])) (Nat.zero_le _) ⟨Fr.rf σ, rfl, trivial, rfl⟩
  · intro m p hm1 ⟨hF, hr, hv, he⟩ ih z5 z6
    obtain ⟨σ1, r⟩ := p
    have hS1 := hF.sg hS
    have rd : ∀ a i, a ≠ 40 → mI σ1 a i = mI σ a i := fun a i ha => (hF.1 a i ha).1
    obtain ⟨s, hs1⟩ := sk_le hk (m + 1) (by omega)
    obtain ⟨r', hr', hst⟩ := sk_pre hs1
    have er : r' = r := by
      have := hr'.symm.trans hr
      injection this
    subst er
    obtain ⟨rin, rlen⟩ := sk_in hr
    have rb : ∀ x, x ∈ r' → Bnd ((ks kn pt ot nm f m).1 x) := fun x hx => ks_bnd hk hn m (by omega) x (rin x hx).1 (rin x hx).2
    have hlt : ∀ x, x ∈ r' → x < f + m := fun x hx => (rin x hx).2
    have rlen : r'.length ≤ m := rlen
    -- the step at hand
    have e8 : mI σ1 (a1 + 8) (f + m) = nI (sp (f + m)) := (rd _ _ (by omega)).trans (hs _ (by omega))
    have e10 : mI σ1 (a1 + 10) q = nI l := (rd _ _ (by omega)).trans hl
    have d10 : (10000 : Int32) = nI 10000 := rfl
    have nf : nI (f + m) + 1 = nI (f + (m + 1)) := nI_add (f + m) 1
    have open1 : ∀ w, (((nI (sp (f + m)) - 10000) < 0 → Ev 12 64 [.ref 38, .ref a1, .int (nI q), .int (nI r'.length), .int (nI (f + m)), .int (nI (sp (f + m))), .int (nI (sp (f + m)) - 10000)] [] σ1 w) ∧ (¬ ((nI (sp (f + m)) - 10000) < 0) → (((nI (sp (f + m)) - 10000) < 24 → Ev 12 108 [.ref 38, .ref a1, .int (nI q), .int (nI r'.length), .int (nI (f + m)), .int (nI (sp (f + m))), .int (nI (sp (f + m)) - 10000)] [] σ1 w) ∧ (¬ ((nI (sp (f + m)) - 10000) < 24) → ((30 < (nI (sp (f + m)) - 10000) → Ev 12 108 [.ref 38, .ref a1, .int (nI q), .int (nI r'.length), .int (nI (f + m)), .int (nI (sp (f + m))), .int (nI (sp (f + m)) - 10000)] [] σ1 w) ∧ (¬ (30 < (nI (sp (f + m)) - 10000)) → Ev 12 64 [.ref 38, .ref a1, .int (nI q), .int (nI r'.length), .int (nI (f + m)), .int (nI (sp (f + m))), .int (nI (sp (f + m)) - 10000)] [] σ1 w)))))) → Ev 12 10 [.ref 38, .ref a1, .int (nI q), .int (nI r'.length), .int (nI (f + m)), z5, z6] [] σ1 w := by
      intro w hw
      refine b_12_10 hS1 h1 ⟨inb_nI hq (by decide), ?_⟩
      rw [nI_clamp (n := q) (by omega), nI_clamp (n := f + m) (by omega), e8, e10]
      exact pk_lt (f + m) l (fun _ => pk_lt (f + m) 64 (fun _ => ⟨inb_nI (by omega) (by decide), hw⟩) (fun z => absurd z (by omega))) (fun z => absurd z (by omega)) rfl rfl (by omega) (by omega)
    -- a value more
    have more : ∀ v x5 x6, (kv kn pt ot nm (f + m) (ks kn pt ot nm f m)).1 = v → (kv kn pt ot nm (f + m) (ks kn pt ot nm f m)).2 = (ks kn pt ot nm f m).2 → s = (f + m) :: r' → ∃ σ', Ev 12 10 [.ref 38, .ref a1, .int (nI q), .int (nI r'.length + 1), .int (nI (f + m) + 1), x5, x6] [] (uL σ1 40 r'.length v) (some (.long (oE (lwo kn pt ot nm f l))), σ') ∧ Fr Wv σ σ' := by
      intro v x5 x6 ev ee es
      have h := ih (uL σ1 40 r'.length v, s) ⟨hF.uL rfl, hs1, ?_, ?_⟩ x5 x6
      · rw [es] at h
        have el : nI r'.length + 1 = nI (r'.length + 1) := nI_add r'.length 1
        rw [nf, el]
        exact h
      · rw [es]
        refine ⟨?_, ?_⟩
        · show mL (uL σ1 40 r'.length v) 40 r'.length = fu _ (f + m) _ (f + m)
          rw [mL_uL, if_pos ⟨rfl, rfl⟩, fu_s, ev]
        · exact VS.fu (VS.up hv (Nat.le_refl _)) hlt
      · show (kv kn pt ot nm (f + m) (ks kn pt ot nm f m)).2 = false
        rw [ee]; exact he
    rcases sk1_spec hst with ⟨k0, s0, p0, es⟩ | ⟨k0, s0, p0, es⟩ | ⟨k0, s0, r1, er, es⟩ | ⟨k3, k4, s0, r1, er, es⟩
    · -- a number
      have ekv : kv kn pt ot nm (f + m) (ks kn pt ot nm f m) = (lN (pt (f + m)), (ks kn pt ot nm f m).2) := if_pos k0
      obtain ⟨σ', h, g⟩ := more (lN (pt (f + m))) (.int (nI (sp (f + m)))) (.int (nI (sp (f + m)) - 10000)) (by rw [ekv]) (by rw [ekv]) es
      have neg : nI (sp (f + m)) - 10000 < 0 := by
        rw [s0, fa_lt, Int32.toInt_sub, nI_toInt (by omega)]
        show (((pt (f + m) : Nat) : Int) - 10000).bmod (2 ^ 32) < 0
        rw [Int.bmod_eq_of_le (by omega) (by omega)]
        omega
      refine ⟨σ', open1 _ ⟨fun _ => ?_, fun z => absurd neg z⟩, g⟩
      refine b_12_64 hS1 h1 (pk_lt r'.length 64 (fun _ => ⟨fun _ => ⟨inb_nI (by omega) (by decide), ?_⟩, fun z => absurd neg z⟩) (fun z => absurd z (by omega)) rfl rfl (by omega) (by omega))
      intro σ4 e4
      rw [nI_clamp (by omega), s0, nI_l (by omega)] at e4
      rw [e4]
      rw [s0] at h ⊢
      exact h
    · -- a name
      have ekv : kv kn pt ot nm (f + m) (ks kn pt ot nm f m) = (lN (nm (pt (f + m))), (ks kn pt ot nm f m).2) := by
        unfold kv
        rw [if_neg (by omega), if_pos k0]
      have es2 : nI (sp (f + m)) - 10000 = nI (24 + pt (f + m)) := by
        rw [d10, s0, pk_sub (by omega), show 10024 + pt (f + m) - 10000 = 24 + pt (f + m) by omega]
      obtain ⟨σ', h, g⟩ := more (lN (nm (pt (f + m)))) (.int (nI (sp (f + m)))) (.int (nI (sp (f + m)) - 10000)) (by rw [ekv]) (by rw [ekv]) es
      have a64 : Ev 12 64 [.ref 38, .ref a1, .int (nI q), .int (nI r'.length), .int (nI (f + m)), .int (nI (sp (f + m))), .int (nI (sp (f + m)) - 10000)] [] σ1 (some (.long (oE (lwo kn pt ot nm f l))), σ') := by
        have i7 : (nI (24 + pt (f + m)) - 24 : Int32) = nI (pt (f + m)) := by
          rw [show (24 : Int32) = nI 24 from rfl, pk_sub (by omega), show 24 + pt (f + m) - 24 = pt (f + m) by omega]
        rw [es2] at h ⊢
        refine b_12_64 hS1 h1 (pk_lt r'.length 64 (fun _ => ⟨fun z => absurd z (nI_pos (by omega)), fun _ => ?_⟩) (fun z => absurd z (by omega)) rfl rfl (by omega) (by omega))
        rw [i7, nI_clamp (n := pt (f + m)) (by omega), nI_clamp (n := r'.length) (by omega)]
        refine ⟨inb_nI (by omega) (by decide), inb_nI (by omega) (by decide), ?_⟩
        intro σ4 e4
        rw [rd _ _ (by decide), hm _ (by omega), nI_l (hn _ p0)] at e4
        rw [e4]
        exact h
      refine ⟨σ', open1 _ ?_, g⟩
      rw [es2] at a64 ⊢
      exact ⟨fun _ => a64, fun _ => ⟨fun z => absurd z (nI_nlt (b := 24) (by omega) (by omega)), fun _ => ⟨fun z => absurd z (nI_nlt (a := 30) (by omega) (by omega)), fun _ => a64⟩⟩⟩
    · -- not
      have ekv : kv kn pt ot nm (f + m) (ks kn pt ot nm f m) = (t1 (decide ((ks kn pt ot nm f m).1 (pt (f + m)) = 0)), (ks kn pt ot nm f m).2) := by
        unfold kv
        rw [if_neg (by omega), if_neg (by omega), if_pos k0]
      have es2 : nI (sp (f + m)) - 10000 = nI 23 := by rw [d10, s0, pk_sub (by omega)]
      subst er
      have rl : (pt (f + m) :: r1).length = r1.length + 1 := rfl
      rw [rl] at rlen
      have hv1 : mL σ1 40 r1.length = (ks kn pt ot nm f m).1 (pt (f + m)) := hv.1
      have hx := ih (uL σ1 40 r1.length (t1 (decide ((ks kn pt ot nm f m).1 (pt (f + m)) = 0))), s) ⟨hF.uL rfl, hs1, ?_, ?_⟩ (.int (nI (sp (f + m)))) (.int (nI (sp (f + m)) - 10000))
      · obtain ⟨σ', h, g⟩ := hx
        refine ⟨σ', open1 _ ?_, g⟩
        have a108 : Ev 12 108 [.ref 38, .ref a1, .int (nI q), .int (nI (pt (f + m) :: r1).length), .int (nI (f + m)), .int (nI (sp (f + m))), .int (nI (sp (f + m)) - 10000)] [] σ1 (some (.long (oE (lwo kn pt ot nm f l))), σ') := by
          rw [es2] at h ⊢
          rw [es] at h
          have e1 : nI (r1.length + 1) - 1 = nI r1.length := nI_sub1 (n := r1.length + 1) (by omega)
          refine b_12_108 hS1 h1 ⟨fun _ => ?_, fun z => absurd rfl z⟩
          rw [rl, e1, nI_clamp (by omega), hv1]
          have h2 : Ev 12 10 [.ref 38, .ref a1, .int (nI q), .int (nI (r1.length + 1)), .int (nI (f + m) + 1), .int (nI (sp (f + m))), .int (nI 23)] [] (uL σ1 40 r1.length (t1 (decide ((ks kn pt ot nm f m).1 (pt (f + m)) = 0)))) (some (.long (oE (lwo kn pt ot nm f l))), σ') := by
            rw [nf]; exact h
          refine ⟨fun z => absurd z (nI_nlt (b := 1) (by omega) (by omega)), fun _ => ⟨inb_nI (by omega) (by decide), fun z => ⟨_, _, c_14 (c := true) hS1 rfl, hS1, inb_nI (by omega) (by decide), ?_⟩, fun z => ⟨_, _, c_14 (c := false) hS1 rfl, hS1, inb_nI (by omega) (by decide), ?_⟩⟩⟩
          · rw [decide_eq_true z] at h2; exact h2
          · rw [decide_eq_false z] at h2; exact h2
        rw [es2] at a108 ⊢
        exact ⟨fun z => absurd z (nI_pos (by omega)), fun _ => ⟨fun _ => a108, fun z => absurd (nI_lt (a := 23) (b := 24) (by omega) (by omega)) z⟩⟩
      · rw [es]
        refine ⟨?_, ?_⟩
        · show mL (uL σ1 40 r1.length _) 40 r1.length = fu _ (f + m) _ (f + m)
          rw [mL_uL, if_pos ⟨rfl, rfl⟩, fu_s, ekv]
        · exact VS.fu (VS.up hv.2 (Nat.le_refl _)) (fun x hx => hlt x (List.mem_cons_of_mem _ hx))
      · show (kv kn pt ot nm (f + m) (ks kn pt ot nm f m)).2 = false
        rw [ekv]; exact he
    · -- two values
      have ekv : kv kn pt ot nm (f + m) (ks kn pt ot nm f m) = (match jo (kn (f + m)) ((ks kn pt ot nm f m).1 (pt (f + m))) ((ks kn pt ot nm f m).1 (ot (f + m))) with
        | some v => (if (ks kn pt ot nm f m).2 = true ∧ 11 ≤ kn (f + m) then 0 else v, (ks kn pt ot nm f m).2)
        | none => (0, true)) := by
        unfold kv
        rw [if_neg (by omega), if_neg (by omega), if_neg (by omega)]
      obtain ⟨z1, z2, z3, z4⟩ := kz_lo k3 k4
      have es2 : nI (sp (f + m)) - 10000 = nI (kz (kn (f + m))) := by
        rw [d10, s0, pk_sub (by omega), show 10000 + kz (kn (f + m)) - 10000 = kz (kn (f + m)) by omega]
      subst er
      have rl : (ot (f + m) :: pt (f + m) :: r1).length = r1.length + 1 + 1 := rfl
      rw [rl] at rlen
      have hv1 : mL σ1 40 (r1.length + 1) = (ks kn pt ot nm f m).1 (ot (f + m)) := hv.1
      have hv2 : mL σ1 40 r1.length = (ks kn pt ot nm f m).1 (pt (f + m)) := hv.2.1
      have ba : Bnd ((ks kn pt ot nm f m).1 (pt (f + m))) := rb _ (by simp)
      have bb : Bnd ((ks kn pt ot nm f m).1 (ot (f + m))) := rb _ (by simp)
      -- into 108
      have into : ∀ w, Ev 12 108 [.ref 38, .ref a1, .int (nI q), .int (nI (ot (f + m) :: pt (f + m) :: r1).length), .int (nI (f + m)), .int (nI (sp (f + m))), .int (nI (sp (f + m)) - 10000)] [] σ1 w → Ev 12 10 [.ref 38, .ref a1, .int (nI q), .int (nI (ot (f + m) :: pt (f + m) :: r1).length), .int (nI (f + m)), z5, z6] [] σ1 w := by
        intro w a108
        refine open1 _ ?_
        rw [es2] at a108 ⊢
        refine ⟨fun z => absurd z (nI_pos (by omega)), fun _ => ⟨fun _ => a108, fun y => ⟨fun _ => a108, fun z => ?_⟩⟩⟩
        rcases z4 with g | g
        · exact absurd (nI_lt (b := 24) g (by omega)) y
        · exact absurd (nI_lt (a := 30) g (by omega)) z
      have e1 : nI (r1.length + 1 + 1) + (-1) = nI (r1.length + 1) := nI_m1 (n := r1.length + 1 + 1) (by omega)
      have e2 : nI (r1.length + 1) - 1 = nI r1.length := nI_sub1 (n := r1.length + 1) (by omega)
      have n23 : ¬ nI (kz (kn (f + m))) = 23 := fun z => z3 ((nI_eq (b := 23) (by omega) (by omega)).mp z)
      have a108 : ∀ w, (∀ σ4, σ4 = uL σ1 40 r1.length (oE (jo (kn (f + m)) ((ks kn pt ot nm f m).1 (pt (f + m))) ((ks kn pt ot nm f m).1 (ot (f + m))))) → ((mL σ4 40 r1.length = eV → w = (some (.long eV), σ4)) ∧ (¬ mL σ4 40 r1.length = eV → Ev 12 10 [.ref 38, .ref a1, .int (nI q), .int (nI (r1.length + 1)), .int (nI (f + m) + 1), .int (nI (sp (f + m))), .int (nI (kz (kn (f + m))))] [] σ4 w))) → Ev 12 108 [.ref 38, .ref a1, .int (nI q), .int (nI (ot (f + m) :: pt (f + m) :: r1).length), .int (nI (f + m)), .int (nI (sp (f + m))), .int (nI (sp (f + m)) - 10000)] [] σ1 w := by
        intro w hw
        rw [es2]
        refine b_12_108 hS1 h1 ⟨fun z => absurd z n23, fun _ => ?_⟩
        rw [rl, e1, e2, nI_clamp (n := r1.length) (by omega), nI_clamp (n := r1.length + 1) (by omega), hv1, hv2]
        refine ⟨fun z => absurd z (nI_nlt (b := 2) (by omega) (by omega)), fun _ => ⟨inb_nI (by omega) (by decide), inb_nI (by omega) (by decide), _, _, c_13 hS1 k3 k4 ba, hS1, inb_nI (by omega) (by decide), fun σ4 e4 => ⟨inb_nI (by omega) (by decide), hw σ4 e4⟩⟩⟩
      cases ej : jo (kn (f + m)) ((ks kn pt ot nm f m).1 (pt (f + m))) ((ks kn pt ot nm f m).1 (ot (f + m))) with
      | none =>
        rw [ej] at ekv a108
        refine ⟨_, into _ (a108 _ (fun σ4 e4 => ⟨fun _ => ?_, fun z => absurd ?_ z⟩)), hF.uL (a := 40) (j := r1.length) (v := oE none) rfl⟩
        · have he2 : (ks kn pt ot nm f (m + 1)).2 = true := by
            show (kv kn pt ot nm (f + m) (ks kn pt ot nm f m)).2 = true
            rw [ekv]
          rw [e4, lwo, if_pos (ks_st he2 (l - f) (by omega))]
          rfl
        · rw [e4, mL_uL, if_pos ⟨rfl, rfl⟩]; rfl
      | some v =>
        rw [ej] at ekv a108
        have ekv : kv kn pt ot nm (f + m) (ks kn pt ot nm f m) = (v, false) := by
          rw [ekv]
          show (if (ks kn pt ot nm f m).2 = true ∧ 11 ≤ kn (f + m) then 0 else v, (ks kn pt ot nm f m).2) = _
          rw [he, if_neg (fun z => absurd z.1 (by decide))]
        have hx := ih (uL σ1 40 r1.length v, s) ⟨hF.uL rfl, hs1, ?_, ?_⟩ (.int (nI (sp (f + m)))) (.int (nI (kz (kn (f + m)))))
        · obtain ⟨σ', h, g⟩ := hx
          refine ⟨σ', into _ (a108 _ (fun σ4 e4 => ⟨fun z => absurd z ?_, fun _ => ?_⟩)), g⟩
          · rw [e4, mL_uL, if_pos ⟨rfl, rfl⟩]
            exact bnd_ne (jo_bnd ba bb ej)
          · rw [e4, nf]
            rw [es] at h
            exact h
        · rw [es]
          refine ⟨?_, ?_⟩
          · show mL (uL σ1 40 r1.length _) 40 r1.length = fu _ (f + m) _ (f + m)
            rw [mL_uL, if_pos ⟨rfl, rfl⟩, fu_s, ekv]
          · exact VS.fu (VS.up hv.2.2 (Nat.le_refl _)) (fun x hx => hlt x (List.mem_cons_of_mem _ (List.mem_cons_of_mem _ hx)))
        · show (kv kn pt ot nm (f + m) (ks kn pt ot nm f m)).2 = false
          rw [ekv]
  · intro p ⟨hF, hr, hv, he⟩ z5 z6
    obtain ⟨σ1, r⟩ := p
    have hS1 := hF.sg hS
    have er : r = [l - 1] := by
      have := hr.symm.trans hk
      injection this
    subst er
    have e10 : mI σ1 (a1 + 10) q = nI l := ((hF.1 _ _ (by unfold Wv; omega)).1).trans hl
    refine ⟨σ1, b_12_10 hS1 h1 ⟨inb_nI hq (by decide), ?_⟩, hF⟩
    rw [nI_clamp (n := q) (by omega), e10, show f + (l - f) = l by omega]
    refine pk_lt l l (fun z => absurd z (Nat.lt_irrefl _)) (fun _ => ⟨fun _ => ?_, fun z => absurd rfl z⟩) rfl rfl (by omega) (by omega)
    have e0 : mL σ1 40 0 = (ks kn pt ot nm f (l - f)).1 (l - 1) := hv.1
    rw [e0, lwo, if_neg (by rw [he]; decide)]
    rfl
end Reckon
