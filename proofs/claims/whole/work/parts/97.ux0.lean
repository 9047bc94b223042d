/-! ===== a sum is read: pure ===== -/
/-- how close a sign binds (the second side's numbers; 0 an open bracket) -/
def sdg (k : Nat) : Nat := if 13 ≤ k then 6 else if 11 ≤ k then 5 else if 5 ≤ k then 4 else if k = 2 then 3 else if k = 3 then 2 else if k = 4 then 1 else 0
/-- a knot grows -/
def grw (D : Nat → Nat → Nat) (k a b s : Nat) : Nat → Nat → Nat := hu (hu (hu (hu (hu D 15 (D 7 0) s) 18 (D 7 0) k) 19 (D 7 0) a) 20 (D 7 0) b) 7 0 (D 7 0 + 1)
/-- what waits and binds no looser than l gets its right side -/
def bnd (l : Nat) : (Nat → Nat → Nat) → List Nat → List Nat → (Nat → Nat → Nat) × List Nat × List Nat
  | D, [], R => (D, [], R)
  | D, k :: W, R => if l ≤ sdg k then (if k = 2 then bnd l (grw D 2 (R.getD 0 0) 0 10023) W (D 7 0 :: R.drop 1) else bnd l (grw D k (R.getD 1 0) (R.getD 0 0) (10000 + kz k)) W (D 7 0 :: R.drop 2)) else (D, k :: W, R)
def nbi : List Nat → Nat
  | [] => 0
  | k :: r => nbi r + (if 3 ≤ k then 1 else 0)
def nno : List Nat → Nat
  | [] => 0
  | k :: r => nno r + (if k = 0 then 0 else 1)
def nze : List Nat → Nat
  | [] => 0
  | k :: r => nze r + (if k = 0 then 1 else 0)
/-- what waits stands in order, from bracket to bracket -/
def okW : List Nat → Prop
  | [] => True
  | k :: r => (k = 0 ∨ (2 ≤ k ∧ k ≤ 14)) ∧ (k = 0 ∨ r.headD 0 = 0 ∨ sdg (r.headD 0) < sdg k ∨ (r.headD 0 = 2 ∧ k = 2)) ∧ okW r
/-- a comparison waits since the last bracket -/
def hCm : List Nat → Bool
  | [] => false
  | k :: r => if k = 0 then false else decide (sdg k = 4) || hCm r
section Grw
variable {D : Nat → Nat → Nat} {k a b s : Nat}
theorem grw_7 : grw D k a b s 7 0 = D 7 0 + 1 := hu_s
theorem grw_15 (i : Nat) : grw D k a b s 15 i = if i = D 7 0 then s else D 15 i := by
  unfold grw
  rw [hu_n (by omega), hu_n (by omega), hu_n (by omega), hu_n (by omega)]
  show (if 15 = 15 ∧ i = D 7 0 then s else D 15 i) = _
  by_cases h : i = D 7 0
  · rw [if_pos ⟨rfl, h⟩, if_pos h]
  · rw [if_neg (fun z => h z.2), if_neg h]
theorem grw_18 (i : Nat) : grw D k a b s 18 i = if i = D 7 0 then k else D 18 i := by
  unfold grw
  rw [hu_n (by omega), hu_n (by omega), hu_n (by omega)]
  by_cases h : i = D 7 0
  · rw [if_pos h, h, hu_s]
  · rw [if_neg h, hu_n (by omega), hu_n (by omega)]
theorem grw_19 (i : Nat) : grw D k a b s 19 i = if i = D 7 0 then a else D 19 i := by
  unfold grw
  rw [hu_n (by omega), hu_n (by omega)]
  by_cases h : i = D 7 0
  · rw [if_pos h, h, hu_s]
  · rw [if_neg h, hu_n (by omega), hu_n (by omega), hu_n (by omega)]
theorem grw_20 (i : Nat) : grw D k a b s 20 i = if i = D 7 0 then b else D 20 i := by
  unfold grw
  rw [hu_n (by omega)]
  by_cases h : i = D 7 0
  · rw [if_pos h, h, hu_s]
  · rw [if_neg h, hu_n (by omega), hu_n (by omega), hu_n (by omega), hu_n (by omega)]
theorem grw_o {f i : Nat} (h : ¬ ((f = 7 ∧ i = 0) ∨ f = 15 ∨ f = 18 ∨ f = 19 ∨ f = 20)) : grw D k a b s f i = D f i := by
  unfold grw
  rw [hu_n (by omega), hu_n (by omega), hu_n (by omega), hu_n (by omega), hu_n (by omega)]
/-- the knots that stood stay -/
def Kep (D D' : Nat → Nat → Nat) : Prop := D 7 0 ≤ D' 7 0 ∧ (∀ f i, ¬ ((f = 7 ∧ i = 0) ∨ f = 15 ∨ f = 18 ∨ f = 19 ∨ f = 20) → D' f i = D f i) ∧ ∀ f i, (f = 15 ∨ f = 18 ∨ f = 19 ∨ f = 20) → i < D 7 0 → D' f i = D f i
theorem Kep.rf : Kep D D := ⟨Nat.le_refl _, fun _ _ _ => rfl, fun _ _ _ _ => rfl⟩
theorem Kep.tr {D' D'' : Nat → Nat → Nat} (h : Kep D D') (g : Kep D' D'') : Kep D D'' := by
  obtain ⟨h1, h2, h3⟩ := h
  obtain ⟨g1, g2, g3⟩ := g
  exact ⟨by omega, fun f i hf => (g2 f i hf).trans (h2 f i hf), fun f i hf hi => (g3 f i hf (by omega)).trans (h3 f i hf hi)⟩
theorem Kep.gr : Kep D (grw D k a b s) := by
  refine ⟨by rw [grw_7]; omega, fun f i hf => grw_o hf, fun f i hf hi => ?_⟩
  rcases hf with rfl | rfl | rfl | rfl
  · rw [grw_15, if_neg (by omega)]
  · rw [grw_18, if_neg (by omega)]
  · rw [grw_19, if_neg (by omega)]
  · rw [grw_20, if_neg (by omega)]
theorem sk_grw {f : Nat} {R S : List Nat} (hf : f ≤ D 7 0) (h : sk (D 15) (D 18) (D 19) (D 20) f (D 7 0 - f) = some R) (h1 : sk1 (fun _ => s) (fun _ => k) (fun _ => a) (fun _ => b) (D 7 0) R = some S) : sk (grw D k a b s 15) (grw D k a b s 18) (grw D k a b s 19) (grw D k a b s 20) f (grw D k a b s 7 0 - f) = some S := by
  rw [grw_7, show D 7 0 + 1 - f = (D 7 0 - f) + 1 by omega]
  have e : sk (grw D k a b s 15) (grw D k a b s 18) (grw D k a b s 19) (grw D k a b s 20) f (D 7 0 - f) = some R := by
    rw [← h]
    refine sk_cg _ (fun i hi => ⟨?_, ?_, ?_, ?_⟩)
    · rw [grw_15, if_neg (by omega)]
    · rw [grw_18, if_neg (by omega)]
    · rw [grw_19, if_neg (by omega)]
    · rw [grw_20, if_neg (by omega)]
  show (match sk (grw D k a b s 15) (grw D k a b s 18) (grw D k a b s 19) (grw D k a b s 20) f (D 7 0 - f) with
    | none => none
    | some r => sk1 (grw D k a b s 15) (grw D k a b s 18) (grw D k a b s 19) (grw D k a b s 20) (f + (D 7 0 - f)) r) = some S
  rw [e, show f + (D 7 0 - f) = D 7 0 by omega, ← h1]
  show sk1 _ _ _ _ (D 7 0) R = _
  unfold sk1
  rw [grw_15, grw_18, grw_19, grw_20, if_pos rfl, if_pos rfl, if_pos rfl, if_pos rfl]
end Grw
theorem sdg_le (k : Nat) : sdg k ≤ 6 := by
  unfold sdg
  repeat' split
  all_goals omega
theorem sdg_pos {k : Nat} (h : 2 ≤ k) : 1 ≤ sdg k := by
  unfold sdg
  repeat' split
  all_goals omega
theorem hC_lo : ∀ {W : List Nat}, okW W → sdg (W.headD 0) < 4 → hCm W = false := by
  intro W
  induction W with
  | nil => intro _ _; rfl
  | cons k r ih =>
    intro h hl
    obtain ⟨h1, h2, h3⟩ := h
    have hl : sdg k < 4 := hl
    show (if k = 0 then false else decide (sdg k = 4) || hCm r) = false
    split
    · rfl
    · rename_i k0
      rw [decide_eq_false (by omega)]
      have : sdg (r.headD 0) < 4 := by
        rcases h2 with e | e | e | e
        · exact absurd e k0
        · rw [e]; decide
        · omega
        · rw [e.1]; decide
      rw [ih h3 this]
      rfl
theorem hC_4 {W : List Nat} (h : sdg (W.headD 0) = 4) : hCm W = true := by
  cases W with
  | nil => exact absurd h (by decide)
  | cons k r =>
    have h : sdg k = 4 := h
    show (if k = 0 then false else decide (sdg k = 4) || hCm r) = true
    rw [if_neg (fun z => by rw [z] at h; exact absurd h (by decide)), decide_eq_true h]
    rfl
theorem bnd45 : ∀ {W : List Nat} {D : Nat → Nat → Nat} {R : List Nat}, hCm W = false → bnd 4 D W R = bnd 5 D W R := by
  intro W
  induction W with
  | nil => intro D R _; rfl
  | cons k r ih =>
    intro D R h
    have h : (if k = 0 then false else decide (sdg k = 4) || hCm r) = false := h
    show (if 4 ≤ sdg k then _ else _) = (if 5 ≤ sdg k then _ else _)
    by_cases k0 : k = 0
    · rw [k0, if_neg (by decide), if_neg (by decide)]
    · rw [if_neg k0, Bool.or_eq_false_iff] at h
      have h4 : sdg k ≠ 4 := of_decide_eq_false h.1
      by_cases g : 5 ≤ sdg k
      · rw [if_pos (by omega), if_pos g]
        by_cases k2 : k = 2
        · rw [if_pos k2, if_pos k2, ih h.2]
        · rw [if_neg k2, if_neg k2, ih h.2]
      · rw [if_neg (by omega), if_neg g]
/-- what stands while signs wait: f where the law begins -/
def XB (f : Nat) (D : Nat → Nat → Nat) (W R : List Nat) : Prop := (f ≤ D 7 0 ∧ sk (D 15) (D 18) (D 19) (D 20) f (D 7 0 - f) = some R) ∧ R.length = nbi W + 1 ∧ okW W ∧ D 7 0 + nno W ≤ 64 ∧ R.headD 0 + 1 = D 7 0
theorem sk1_not {i : Nat} {x : Nat} {r : List Nat} : sk1 (fun _ => 10023) (fun _ => 2) (fun _ => x) (fun _ => 0) i (x :: r) = some (i :: r) := by
  unfold sk1
  dsimp only
  rw [if_neg (by decide), if_neg (by decide), if_pos rfl]
  exact if_pos ⟨rfl, rfl⟩
theorem sk1_bin {i x y k : Nat} {r : List Nat} (h3 : 3 ≤ k) (h14 : k ≤ 14) : sk1 (fun _ => 10000 + kz k) (fun _ => k) (fun _ => x) (fun _ => y) i (y :: x :: r) = some (i :: r) := by
  unfold sk1
  dsimp only
  rw [if_neg (by omega), if_neg (by omega), if_neg (by omega)]
  exact if_pos ⟨rfl, rfl, h14, rfl⟩
/-- one sign gets its right side -/
theorem XB.one {f k : Nat} {D : Nat → Nat → Nat} {W R : List Nat} (h : XB f D (k :: W) R) (hk : k ≠ 0) : ((k = 2 ∧ ∃ x r, R = x :: r ∧ XB f (grw D 2 x 0 10023) W (D 7 0 :: r)) ∨ (3 ≤ k ∧ k ≤ 14 ∧ ∃ y x r, R = y :: x :: r ∧ XB f (grw D k x y (10000 + kz k)) W (D 7 0 :: r))) ∧ D 7 0 < 64 := by
  obtain ⟨⟨h1, h2⟩, h3, ⟨h4, h5, h6⟩, h7, h8⟩ := h
  have e1 : nno (k :: W) = nno W + 1 := by show nno W + (if k = 0 then 0 else 1) = _; rw [if_neg hk]
  rw [e1] at h7
  refine ⟨?_, by omega⟩
  by_cases k2 : k = 2
  · subst k2
    have h3 : R.length = nbi W + 0 + 1 := h3
    match R, h3, h2, h8 with
    | x :: r, h3, h2, h8 =>
      refine Or.inl ⟨rfl, x, r, rfl, ⟨by rw [grw_7]; omega, sk_grw h1 h2 sk1_not⟩, ?_, h6, by rw [grw_7]; omega, by rw [grw_7]; rfl⟩
      simp only [List.length_cons] at h3 ⊢
      omega
  · have k3 : 3 ≤ k := by omega
    have h3 : R.length = nbi W + (if 3 ≤ k then 1 else 0) + 1 := h3
    rw [if_pos k3] at h3
    match R, h3, h2, h8 with
    | y :: x :: r, h3, h2, h8 =>
      refine Or.inr ⟨k3, by omega, y, x, r, rfl, ⟨by rw [grw_7]; omega, sk_grw h1 h2 (sk1_bin k3 (by omega))⟩, ?_, h6, by rw [grw_7]; omega, by rw [grw_7]; rfl⟩
      simp only [List.length_cons] at h3 ⊢
      omega
/-- bind: all that it keeps -/
theorem bnd_ok {f l : Nat} (hl : 1 ≤ l) : ∀ {W : List Nat} {D : Nat → Nat → Nat} {R : List Nat}, XB f D W R → XB f (bnd l D W R).1 (bnd l D W R).2.1 (bnd l D W R).2.2 ∧ Kep D (bnd l D W R).1 ∧ (bnd l D W R).1 7 0 + nno (bnd l D W R).2.1 = D 7 0 + nno W ∧ nze (bnd l D W R).2.1 = nze W ∧ sdg ((bnd l D W R).2.1.headD 0) < l ∧ (5 ≤ l → hCm (bnd l D W R).2.1 = hCm W) ∧ (∃ V, W = V ++ (bnd l D W R).2.1 ∧ ∀ k ∈ V, k ≠ 0) := by
  intro W
  induction W with
  | nil => intro D R h; exact ⟨h, Kep.rf, rfl, rfl, by show sdg 0 < l; have : sdg 0 = 0 := rfl; omega, fun _ => rfl, [], rfl, fun k hk => absurd hk List.not_mem_nil⟩
  | cons k W ih =>
    intro D R h
    by_cases g : l ≤ sdg k
    · have k0 : k ≠ 0 := fun z => by rw [z] at g; have : sdg 0 = 0 := rfl; omega
      have e1 : nno (k :: W) = nno W + 1 := by show nno W + (if k = 0 then 0 else 1) = _; rw [if_neg k0]
      have e2 : nze (k :: W) = nze W := by show nze W + (if k = 0 then 1 else 0) = _; rw [if_neg k0]; rfl
      have e3 : 5 ≤ l → hCm (k :: W) = hCm W := by
        intro h5
        show (if k = 0 then false else decide (sdg k = 4) || hCm W) = _
        rw [if_neg k0, decide_eq_false (by omega)]
        rfl
      rw [e1, e2]
      have fin : ∀ (D' : Nat → Nat → Nat) (R' : List Nat), bnd l D (k :: W) R = bnd l D' W R' → D' 7 0 = D 7 0 + 1 → Kep D D' → XB f D' W R' → XB f (bnd l D (k :: W) R).1 (bnd l D (k :: W) R).2.1 (bnd l D (k :: W) R).2.2 ∧ Kep D (bnd l D (k :: W) R).1 ∧ (bnd l D (k :: W) R).1 7 0 + nno (bnd l D (k :: W) R).2.1 = D 7 0 + (nno W + 1) ∧ nze (bnd l D (k :: W) R).2.1 = nze W ∧ sdg ((bnd l D (k :: W) R).2.1.headD 0) < l ∧ (5 ≤ l → hCm (bnd l D (k :: W) R).2.1 = hCm (k :: W)) ∧ (∃ V, k :: W = V ++ (bnd l D (k :: W) R).2.1 ∧ ∀ k ∈ V, k ≠ 0) := by
        intro D' R' eq e7 hK hX
        obtain ⟨i1, i2, i3, i4, i5, i6, V, i7, i8⟩ := ih hX
        rw [eq]
        refine ⟨i1, hK.tr i2, by omega, i4, i5, fun h5 => by rw [e3 h5]; exact i6 h5, k :: V, by rw [List.cons_append, ← i7], fun j hj => ?_⟩
        rcases List.mem_cons.mp hj with e | e
        · rw [e]; exact k0
        · exact i8 j e
      rcases (h.one k0).1 with ⟨k2, x, r, eR, hX⟩ | ⟨k3, k14, y, x, r, eR, hX⟩
      · refine fin _ _ ?_ grw_7 Kep.gr hX
        show (if l ≤ sdg k then (if k = 2 then bnd l (grw D 2 (R.getD 0 0) 0 10023) W (D 7 0 :: R.drop 1) else _) else _) = _
        rw [if_pos g, if_pos k2, eR]
        rfl
      · refine fin _ _ ?_ grw_7 Kep.gr hX
        show (if l ≤ sdg k then (if k = 2 then _ else bnd l (grw D k (R.getD 1 0) (R.getD 0 0) (10000 + kz k)) W (D 7 0 :: R.drop 2)) else _) = _
        rw [if_pos g, if_neg (by omega), eR]
        rfl
    · have eq : bnd l D (k :: W) R = (D, k :: W, R) := if_neg g
      rw [eq]
      exact ⟨h, Kep.rf, rfl, rfl, by show sdg k < l; omega, fun _ => rfl, [], rfl, fun k hk => absurd hk List.not_mem_nil⟩
/-- which sign of a sum a token is -/
def kop (k : Nat) : Nat := if k = 22 then 3 else if k = 21 then 4 else if k = 35 then 5 else if k = 41 then 6 else if k = 36 then 7 else if k = 42 then 8 else if k = 43 then 9 else if k = 37 then 10 else if k = 31 then 11 else if k = 32 then 12 else if k = 33 then 13 else if k = 34 then 14 else 0
abbrev Xs : Type := Nat × (Nat → Nat → Nat) × List Nat × List Nat × Nat × Nat × Bool × Bool
/-- where a value is due -/
def leaf (B : Nat → Nat) (n p : Nat) (D : Nat → Nat → Nat) (W R : List Nat) (c o : Nat) (mn : Bool) : (Nat × Nat) ⊕ Xs :=
  if tK B n p = 38 then (if o = 8 then .inl (2, tS B n p) else .inr (tE B n p, D, 0 :: W, R, c, o + 1, true, true))
  else if tK B n p = 23 ∧ mn = true then (if c = 64 then .inl (2, tS B n p) else .inr (tE B n p, D, 2 :: W, R, c + 1, o, true, mn))
  else if tK B n p = 2 then (if 9999 < tV B n p then .inl (2, tS B n p) else if c = 64 then .inl (2, tS B n p) else .inr (tE B n p, grw D 0 (tV B n p) 0 (tV B n p), W, D 7 0 :: R, c + 1, o, false, mn))
  else if 24 ≤ tK B n p ∧ tK B n p ≤ 30 then (if c = 64 then .inl (2, tS B n p) else .inr (tE B n p, grw D 1 (tK B n p - 24) 0 (10000 + tK B n p), W, D 7 0 :: R, c + 1, o, false, mn))
  else .inl (1, tS B n p)
/-- behind a value -/
def sgn (B : Nat → Nat) (n p : Nat) (D : Nat → Nat → Nat) (W R : List Nat) (c o : Nat) (mn : Bool) : (Nat × Nat) ⊕ Xs :=
  if tK B n p = 39 ∧ 0 < o then .inr (tE B n p, (bnd 1 D W R).1, (bnd 1 D W R).2.1.tail, (bnd 1 D W R).2.2, c, o - 1, false, mn)
  else if kop (tK B n p) = 0 then .inl (1, tS B n p)
  else if sdg (kop (tK B n p)) = 4 ∧ hCm W = true then .inl (1, tS B n p)
  else if c = 64 then .inl (2, tS B n p)
  else .inr (tE B n p, (bnd (sdg (kop (tK B n p))) D W R).1, kop (tK B n p) :: (bnd (sdg (kop (tK B n p))) D W R).2.1, (bnd (sdg (kop (tK B n p))) D W R).2.2, c + 1, o, true, decide (sdg (kop (tK B n p)) < 3))
def xst (B : Nat → Nat) (n : Nat) (x : Xs) : (Nat × Nat) ⊕ Xs := if x.2.2.2.2.2.2.1 = true then leaf B n x.1 x.2.1 x.2.2.1 x.2.2.2.1 x.2.2.2.2.1 x.2.2.2.2.2.1 x.2.2.2.2.2.2.2 else sgn B n x.1 x.2.1 x.2.2.1 x.2.2.2.1 x.2.2.2.2.1 x.2.2.2.2.2.1 x.2.2.2.2.2.2.2
/-- at its end -/
def xen (B : Nat → Nat) (n : Nat) (x : Xs) : Prop := x.2.2.2.2.2.2.1 = false ∧ x.2.2.2.2.2.1 = 0 ∧ tK B n x.1 = 40
def xfi (x : Xs) : Nat → Nat → Nat := (bnd 1 x.2.1 x.2.2.1 x.2.2.2.1).1
def XI (f n : Nat) (x : Xs) : Prop := (f ≤ x.2.1 7 0 ∧ sk (x.2.1 15) (x.2.1 18) (x.2.1 19) (x.2.1 20) f (x.2.1 7 0 - f) = some x.2.2.2.1) ∧ x.2.2.2.1.length = nbi x.2.2.1 + (if x.2.2.2.2.2.2.1 = true then 0 else 1) ∧ okW x.2.2.1 ∧ (x.2.2.2.2.1 = x.2.1 7 0 + nno x.2.2.1 ∧ x.2.2.2.2.1 ≤ 64) ∧ (x.2.2.2.2.2.1 = nze x.2.2.1 ∧ x.2.2.2.2.2.1 ≤ 8) ∧ (x.2.2.2.2.2.2.1 = false → x.2.2.2.1.headD 0 + 1 = x.2.1 7 0) ∧ (x.2.2.2.2.2.2.1 = true → x.2.2.2.2.2.2.2 = true → sdg (x.2.2.1.headD 0) ≤ 3) ∧ x.1 ≤ n
theorem XI.xb {f n : Nat} {x : Xs} (h : XI f n x) (hw : x.2.2.2.2.2.2.1 = false) : XB f x.2.1 x.2.2.1 x.2.2.2.1 := by
  obtain ⟨h1, h2, h3, h4, h5, h6, h7, h8⟩ := h
  rw [hw] at h2
  exact ⟨h1, h2, h3, by omega, h6 hw⟩
theorem kop_ok {k : Nat} (h : kop k ≠ 0) : 3 ≤ kop k ∧ kop k ≤ 14 := by
  unfold kop at h ⊢
  repeat' split
  all_goals (repeat' split at h) <;> omega
theorem app_nze : ∀ {V W : List Nat}, (∀ k ∈ V, k ≠ 0) → nze (V ++ W) = nze W := by
  intro V
  induction V with
  | nil => intro W _; rfl
  | cons k V ih =>
    intro W h
    show nze (V ++ W) + (if k = 0 then 1 else 0) = _
    rw [if_neg (h k (by simp)), ih (fun j hj => h j (List.mem_cons_of_mem _ hj))]
    rfl
/-- a step keeps what stands; it takes a token -/
theorem XI.st {f n : Nat} {B : Nat → Nat} {x y : Xs} (h : XI f n x) (hs : xst B n x = .inr y) : XI f n y ∧ x.1 < y.1 ∧ Kep x.2.1 y.2.1 := by
  obtain ⟨p, D, W, R, c, o, w, mn⟩ := x
  have hxb := h.xb
  obtain ⟨h1, h2, h3, ⟨h4, h4'⟩, ⟨h5, h5'⟩, h6, h7, h8⟩ := h
  dsimp only at *
  have adv : tK B n p ≠ 0 → p < tE B n p ∧ tE B n p ≤ n := fun z => ⟨by have := tE_gt z; have := tS_ge B n p; omega, tE_le h8⟩
  cases w with
  | true =>
    have hs : leaf B n p D W R c o mn = .inr y := hs
    unfold leaf at hs
    split at hs
    · rename_i g
      split at hs
      · cases hs
      · injection hs with hs
        subst hs
        obtain ⟨a1, a2⟩ := adv (by omega)
        refine ⟨⟨h1, h2, ⟨Or.inl rfl, Or.inl rfl, h3⟩, ⟨h4, h4'⟩, ⟨?_, by show o + 1 ≤ 8; omega⟩, fun z => (by cases z), fun _ _ => by show sdg 0 ≤ 3; decide, a2⟩, a1, Kep.rf⟩
        show o + 1 = nze W + 1
        omega
    · split at hs
      · rename_i g1 g
        split at hs
        · cases hs
        · injection hs with hs
          subst hs
          obtain ⟨a1, a2⟩ := adv (by omega)
          refine ⟨⟨h1, h2, ⟨Or.inr ⟨by decide, by decide⟩, ?_, h3⟩, ⟨?_, by show c + 1 ≤ 64; omega⟩, ⟨h5, h5'⟩, fun z => (by cases z), fun _ _ => by show sdg 2 ≤ 3; decide, a2⟩, a1, Kep.rf⟩
          · have h7 := h7 rfl g.2
            have : ∀ j, sdg j ≤ 3 → j = 0 ∨ sdg j < sdg 2 ∨ (j = 2) ∨ j = 1 := by
              intro j hj
              unfold sdg at hj ⊢
              repeat' split at hj
              all_goals (repeat' split) <;> omega
            rcases this _ h7 with e | e | e | e
            · exact Or.inr (Or.inl e)
            · exact Or.inr (Or.inr (Or.inl e))
            · exact Or.inr (Or.inr (Or.inr ⟨e, rfl⟩))
            · cases W with
              | nil => exact Or.inr (Or.inl rfl)
              | cons k r =>
                have e : k = 1 := e
                have := h3.1
                omega
          · show c + 1 = D 7 0 + (nno W + 1)
            omega
      · split at hs
        · rename_i g1 g2 g
          split at hs
          · cases hs
          · rename_i g9
            split at hs
            · cases hs
            · injection hs with hs
              subst hs
              obtain ⟨a1, a2⟩ := adv (by omega)
              refine ⟨⟨⟨by show f ≤ grw D 0 (tV B n p) 0 (tV B n p) 7 0; rw [grw_7]; omega, ?_⟩, ?_, h3, ⟨?_, by show c + 1 ≤ 64; omega⟩, ⟨h5, h5'⟩, fun _ => by show D 7 0 + 1 = grw D 0 (tV B n p) 0 (tV B n p) 7 0; rw [grw_7], fun z => (by cases z), a2⟩, a1, Kep.gr⟩
              · refine sk_grw h1.1 h1.2 ?_
                unfold sk1
                dsimp only
                rw [if_pos rfl]
                exact if_pos ⟨rfl, by omega⟩
              · show (D 7 0 :: R).length = nbi W + 1
                rw [List.length_cons, h2]; rfl
              · show c + 1 = grw D 0 (tV B n p) 0 (tV B n p) 7 0 + nno W
                rw [grw_7]; omega
        · split at hs
          · rename_i g1 g2 g3 g
            split at hs
            · cases hs
            · injection hs with hs
              subst hs
              obtain ⟨a1, a2⟩ := adv (by omega)
              refine ⟨⟨⟨by show f ≤ grw D 1 (tK B n p - 24) 0 (10000 + tK B n p) 7 0; rw [grw_7]; omega, ?_⟩, ?_, h3, ⟨?_, by show c + 1 ≤ 64; omega⟩, ⟨h5, h5'⟩, fun _ => by show D 7 0 + 1 = grw D 1 (tK B n p - 24) 0 (10000 + tK B n p) 7 0; rw [grw_7], fun z => (by cases z), a2⟩, a1, Kep.gr⟩
              · refine sk_grw h1.1 h1.2 ?_
                unfold sk1
                dsimp only
                rw [if_neg (by decide), if_pos rfl]
                exact if_pos ⟨by omega, by omega⟩
              · show (D 7 0 :: R).length = nbi W + 1
                rw [List.length_cons, h2]; rfl
              · show c + 1 = grw D 1 (tK B n p - 24) 0 (10000 + tK B n p) 7 0 + nno W
                rw [grw_7]; omega
          · cases hs
  | false =>
    have hX := hxb rfl
    have hs : sgn B n p D W R c o mn = .inr y := hs
    unfold sgn at hs
    split at hs
    · rename_i g
      injection hs with hs
      subst hs
      obtain ⟨a1, a2⟩ := adv (by omega)
      obtain ⟨i1, i2, i3, i4, i5, i6, V, i7, i8⟩ := bnd_ok (f := f) (l := 1) (Nat.le_refl _) hX
      -- the bracket is on top now
      generalize bnd 1 D W R = q at i1 i2 i3 i4 i5 i6 i7
      obtain ⟨D', W', R'⟩ := q
      dsimp only at *
      obtain ⟨j1, j2, j3, j4, j5⟩ := i1
      cases W' with
      | nil =>
        have : nze ([] : List Nat) = 0 := rfl
        omega
      | cons k r =>
        have hk : k = 0 := by
          have i5 : sdg k < 1 := i5
          rcases j3.1 with e | e
          · exact e
          · have := sdg_pos e.1; omega
        subst hk
        have e2 : nze (0 :: r) = nze r + 1 := rfl
        have e3 : nno (0 :: r) = nno r := rfl
        have e4 : nbi (0 :: r) = nbi r := rfl
        refine ⟨⟨j1, ?_, j3.2.2, ⟨?_, h4'⟩, ⟨?_, by show o - 1 ≤ 8; omega⟩, fun _ => j5, fun z => (by cases z), a2⟩, a1, i2⟩
        · show R'.length = nbi r + 1
          omega
        · show c = D' 7 0 + nno r
          omega
        · show o - 1 = nze r
          omega
    · split at hs
      · cases hs
      · rename_i g1 g2
        split at hs
        · cases hs
        · rename_i g3
          split at hs
          · cases hs
          · injection hs with hs
            subst hs
            obtain ⟨k3, k14⟩ := kop_ok g2
            have hl : 1 ≤ sdg (kop (tK B n p)) := sdg_pos (by omega)
            obtain ⟨a1, a2⟩ := adv (fun z => g2 (by rw [z]; rfl))
            obtain ⟨i1, i2, i3, i4, i5, i6, V, i7, i8⟩ := bnd_ok (f := f) hl hX
            generalize kop (tK B n p) = kk at *
            generalize bnd (sdg kk) D W R = q at i1 i2 i3 i4 i5 i6 i7
            obtain ⟨D', W', R'⟩ := q
            dsimp only at *
            obtain ⟨j1, j2, j3, j4, j5⟩ := i1
            refine ⟨⟨j1, ?_, ⟨Or.inr ⟨by omega, k14⟩, Or.inr (Or.inr (Or.inl i5)), j3⟩, ⟨?_, by show c + 1 ≤ 64; omega⟩, ⟨?_, h5'⟩, fun z => (by cases z), fun _ hm => ?_, a2⟩, a1, i2⟩
            · show R'.length = nbi W' + (if 3 ≤ kk then 1 else 0) + 0
              rw [if_pos k3]; omega
            · show c + 1 = D' 7 0 + (nno W' + (if kk = 0 then 0 else 1))
              rw [if_neg (by omega)]; omega
            · show o = nze W' + (if kk = 0 then 1 else 0)
              rw [if_neg (by omega)]; omega
            · have hm : decide (sdg kk < 3) = true := hm
              have := of_decide_eq_true hm
              show sdg kk ≤ 3
              omega
/-- at the end one knot stands -/
theorem XI.en {f n : Nat} {B : Nat → Nat} {x : Xs} (h : XI f n x) (he : xen B n x) : Kep x.2.1 (xfi x) ∧ f < xfi x 7 0 ∧ xfi x 7 0 = x.2.2.2.2.1 ∧ sk (xfi x 15) (xfi x 18) (xfi x 19) (xfi x 20) f (xfi x 7 0 - f) = some [xfi x 7 0 - 1] := by
  obtain ⟨p, D, W, R, c, o, w, mn⟩ := x
  obtain ⟨e1, e2, e3⟩ := he
  have hX := h.xb e1
  obtain ⟨h1, h2, h3, ⟨h4, h4'⟩, ⟨h5, h5'⟩, h6, h7, h8⟩ := h
  dsimp only at *
  obtain ⟨i1, i2, i3, i4, i5, i6, V, i7, i8⟩ := bnd_ok (f := f) (l := 1) (Nat.le_refl _) hX
  unfold xfi
  dsimp only
  generalize bnd 1 D W R = q at i1 i2 i3 i4 i5 i6 i7
  obtain ⟨D', W', R'⟩ := q
  dsimp only at *
  obtain ⟨j1, j2, j3, j4, j5⟩ := i1
  have hW : W' = [] := by
    cases W' with
    | nil => rfl
    | cons k r =>
      have i5 : sdg k < 1 := i5
      rcases j3.1 with e | e
      · subst e
        have : nze (0 :: r) = nze r + 1 := rfl
        omega
      · have := sdg_pos e.1; omega
  subst hW
  have j2 : R'.length = 1 := j2
  have i3 : D' 7 0 + 0 = D 7 0 + nno W := i3
  match R', j1, j2, j5 with
  | [a], j1, j2, j5 =>
    have j5 : a + 1 = D' 7 0 := j5
    have hin := (sk_in j1.2).1 a (by simp)
    refine ⟨i2, by omega, by omega, ?_⟩
    rw [j1.2, ← j5]
    rfl
/-- the whole sum -/
def pX (B : Nat → Nat) (n : Nat) : Nat → Xs → (Nat × Nat) ⊕ ((Nat → Nat → Nat) × Nat)
  | 0, _ => .inl (0, 0)
  | m + 1, x => if x.2.2.2.2.2.2.1 = false ∧ x.2.2.2.2.2.1 = 0 ∧ tK B n x.1 = 40 then .inr (xfi x, x.1) else match xst B n x with
    | .inl e => .inl e
    | .inr y => pX B n m y
theorem pX_ok {f n : Nat} {B : Nat → Nat} : ∀ {m : Nat} {x : Xs} {D : Nat → Nat → Nat} {q : Nat}, XI f n x → pX B n m x = .inr (D, q) → Kep x.2.1 D ∧ f < D 7 0 ∧ D 7 0 ≤ 64 ∧ sk (D 15) (D 18) (D 19) (D 20) f (D 7 0 - f) = some [D 7 0 - 1] ∧ x.1 ≤ q ∧ q ≤ n ∧ tK B n q = 40 := by
  intro m
  induction m with
  | zero => intro x D q _ h; cases h
  | succ m ih =>
    intro x D q hx h
    have h : (if x.2.2.2.2.2.2.1 = false ∧ x.2.2.2.2.2.1 = 0 ∧ tK B n x.1 = 40 then .inr (xfi x, x.1) else match xst B n x with
      | .inl e => .inl e
      | .inr y => pX B n m y) = (.inr (D, q) : (Nat × Nat) ⊕ ((Nat → Nat → Nat) × Nat)) := h
    split at h
    · rename_i g
      injection h with h
      injection h with ha hb
      subst ha hb
      obtain ⟨a1, a2, a3, a4⟩ := hx.en g
      have h4 := hx.2.2.2.1.2
      exact ⟨a1, a2, by omega, a4, Nat.le_refl _, hx.2.2.2.2.2.2.2, g.2.2⟩
    · cases e : xst B n x with
      | inl z => rw [e] at h; cases h
      | inr y =>
        rw [e] at h
        obtain ⟨b1, b2, b3⟩ := hx.st e
        obtain ⟨c1, c2, c3, c4, c5, c6, c7⟩ := ih b1 h
        exact ⟨b3.tr c1, c2, c3, c4, by omega, c6, c7⟩
