/-! ===== facts of the tables, in the words that the rows of the machine ask for ===== -/
theorem all_at {α : Type} {f : α → Bool} {l : List α} (h : l.all f = true) {x : α} (hx : x ∈ l) : f x = true := List.all_eq_true.mp h x hx
theorem getD_mem {α : Type} {L : List (List α)} {o : Nat} {l : List α} (h : L[o]? = some l) : L.getD o [] = l := by rw [List.getD_eq_getElem?_getD, h]; rfl
theorem find_of {β : Type} {L : List (List (Nat × β))} {o ix : Nat} {v : β} (h : lk2 L o ix = some v) : (ix, v) ∈ L.getD o [] ∧ o < L.length := by
  unfold lk2 at h
  split at h
  next l hl =>
    rw [getD_mem hl]
    refine ⟨?_, (List.getElem?_eq_some_iff.mp hl).1⟩
    cases hf : l.find? (fun e => e.1 == ix) with
    | none => rw [hf] at h; cases h
    | some q =>
      rw [hf] at h
      cases h
      have h1 := List.find?_some hf
      have h2 := List.mem_of_find?_eq_some hf
      have h3 : q.1 = ix := by simpa using h1
      rw [← h3]
      exact h2
  next => cases h
theorem ckC_all : ∀ o, o < 15 → (hC.getD o []).all (ckC o) = true ∧ (callUT.getD o []).all (inC o) = true := by
  intro o ho
  match o, ho with
  | 0, _ => exact ⟨ckC_0, inC_0⟩
  | 1, _ => exact ⟨ckC_1, inC_1⟩
  | 2, _ => exact ⟨ckC_2, inC_2⟩
  | 3, _ => exact ⟨ckC_3, inC_3⟩
  | 4, _ => exact ⟨ckC_4, inC_4⟩
  | 5, _ => exact ⟨ckC_5, inC_5⟩
  | 6, _ => exact ⟨ckC_6, inC_6⟩
  | 7, _ => exact ⟨ckC_7, inC_7⟩
  | 8, _ => exact ⟨ckC_8, inC_8⟩
  | 9, _ => exact ⟨ckC_9, inC_9⟩
  | 10, _ => exact ⟨ckC_10, inC_10⟩
  | 11, _ => exact ⟨ckC_11, inC_11⟩
  | 12, _ => exact ⟨ckC_12, inC_12⟩
  | 13, _ => exact ⟨ckC_13, inC_13⟩
  | 14, _ => exact ⟨ckC_14, inC_14⟩
theorem ckA_all : ∀ o, o < 15 → ckA o = true := by
  intro o ho
  match o, ho with
  | 0, _ => exact ckA_0
  | 1, _ => exact ckA_1
  | 2, _ => exact ckA_2
  | 3, _ => exact ckA_3
  | 4, _ => exact ckA_4
  | 5, _ => exact ckA_5
  | 6, _ => exact ckA_6
  | 7, _ => exact ckA_7
  | 8, _ => exact ckA_8
  | 9, _ => exact ckA_9
  | 10, _ => exact ckA_10
  | 11, _ => exact ckA_11
  | 12, _ => exact ckA_12
  | 13, _ => exact ckA_13
  | 14, _ => exact ckA_14
theorem ckM_all : ∀ k, k < 6 → ckMs k = true := by
  intro k hk
  match k, hk with
  | 0, _ => exact ckM_0
  | 1, _ => exact ckM_1
  | 2, _ => exact ckM_2
  | 3, _ => exact ckM_3
  | 4, _ => exact ckM_4
  | 5, _ => exact ckM_5
theorem ckK_all : ∀ c, c < 10 → ckK c = true ∧ (∀ w ∈ u_ws (clC c).1 (clC c).2.1 (clC c).2.2, w ∈ lw_tbl) ∧ (∀ a, a < (clC c).2.2 → ∀ b, b < (clC c).2.2 → a ≠ b → ((clC c).2.1 a).2.1 ≠ ((clC c).2.1 b).2.1) := by
  intro c hc
  match c, hc with
  | 0, _ => exact ⟨ckK_0, iX0, nnX0⟩
  | 1, _ => exact ⟨ckK_1, iX1, nnX1⟩
  | 2, _ => exact ⟨ckK_2, iX2, nnX2⟩
  | 3, _ => exact ⟨ckK_3, iX3, nnX3⟩
  | 4, _ => exact ⟨ckK_4, iX4, nnX4⟩
  | 5, _ => exact ⟨ckK_5, iX5, nnX5⟩
  | 6, _ => exact ⟨ckK_6, iX6, nnX6⟩
  | 7, _ => exact ⟨ckK_7, iX7, nnX7⟩
  | 8, _ => exact ⟨ckK_8, iX8, nnX8⟩
  | 9, _ => exact ⟨ckK_9, iX9, nnX9⟩
/-- a call's row -/
theorem f_call {o ix kd j n : Nat} (h : callT o ix = some (kd, j, n)) (hk : kd ≤ 3) : (if kd = 3 then Cond.methodLinkNest (Rn o) ix (yM j) "BellPulls" else .methodLink (Rn o) ix (yM j)) ∈ lw_tbl ∧ (if kd = 1 then Cond.static (yM j) else .instanceMethod (yM j)) ∈ lw_tbl ∧ (kd = 0 → Cond.selects (yM j).cls (yM j) (yM j) ∈ lw_tbl) ∧ (parseMethodDescriptor (yM j).desc).map (fun d => d.parameters.length) = some n ∧ (kd = 2 ∨ kd = 3 → (yM j).name = "<init>" ∧ rM j = none) ∧ j < 294 := by
  obtain ⟨hm, ho⟩ := find_of (L := callUT) (o := o) (ix := ix) h
  obtain ⟨h1, h2⟩ := ckC_all o (show o < 15 from ho)
  have h3 := all_at h2 hm
  simp only [inC, Bool.or_eq_true, decide_eq_true_eq, List.any_eq_true, Bool.and_eq_true] at h3
  rcases h3 with h3 | ⟨⟨ix', kd', j', n', ml, im, se⟩, he, ⟨⟨⟨e1, e2⟩, e3⟩, e4⟩⟩
  · omega
  · dsimp only at e1 e2 e3 e4
    subst e1; subst e2; subst e3; subst e4
    have h4 := all_at h1 he
    simp only [ckC, Bool.and_eq_true, decide_eq_true_eq, Bool.or_eq_true, bne_iff_ne, ne_eq] at h4
    obtain ⟨⟨⟨⟨⟨⟨⟨-, a2⟩, a3⟩, a4⟩, a5⟩, a6⟩, a7⟩, -⟩ := h4
    refine ⟨hasW_in a2, hasW_in a3, fun h0 => ?_, a5, fun h0 => ?_, a7⟩
    · rcases a4 with a4 | a4
      · exact absurd h0 a4
      · split at a4
        · exact hasP_in a4
        · exact hasW_in a4
    · rcases a6 with a6 | a6
      · omega
      · exact a6
/-- a method's row -/
theorem f_meth {j : Nat} (h : j < 294) : Cond.initialized (yM j).cls ∈ lw_tbl ∧ (yM j).cls ≠ "java/lang/invoke/MethodHandle" ∧ (yM j).cls ≠ "java/lang/invoke/VarHandle" ∧ (yM j).cls = Rn (oM j) ∧ plainFor (yM j) = true := by
  have hk : j / 50 < 6 := by omega
  have h1 := ckM_all (j / 50) hk
  have hlen : ∀ k, k < 6 → (hM.getD k []).length = if k = 5 then 44 else 50 := by decide
  have hl := hlen (j / 50) hk
  have hj : j % 50 < (hM.getD (j / 50) []).length := by rw [hl]; split <;> omega
  have h2 : ((hM.getD (j / 50) [])[j % 50], j % 50) ∈ (hM.getD (j / 50) []).zipIdx := by
    rw [List.mem_zipIdx_iff_getElem?]
    exact List.getElem?_eq_getElem hj
  have h3 := all_at h1 h2
  simp only [ckM, Bool.and_eq_true, decide_eq_true_eq] at h3
  rw [show 50 * (j / 50) + j % 50 = j by omega] at h3
  obtain ⟨⟨⟨⟨b1, b2⟩, b3⟩, b4⟩, b5⟩ := h3
  exact ⟨hasW_in b1, b2, b3, b4, b5⟩
theorem f_code {j : Nat} (h : j < 294) (h2 : j ≠ 273) : Cond.code (yM j) (cM j) (xM j) (rM j) ∈ lw_tbl := by
  have hs : ∃ e, mrow j = some e := by
    have hk : j / 50 < 6 := by omega
    have hlen : ∀ k, k < 6 → (mtab.getD k []).length = if k = 5 then 44 else 50 := by decide
    have hl := hlen (j / 50) hk
    have hm : mtab[j / 50]? = some (mtab.getD (j / 50) []) := by
      have : j / 50 < mtab.length := Nat.lt_of_lt_of_le hk (by decide)
      rw [List.getD_eq_getElem?_getD, List.getElem?_eq_getElem this]; rfl
    have hj : j % 50 < (mtab.getD (j / 50) []).length := by rw [hl]; split <;> omega
    refine ⟨(mtab.getD (j / 50) [])[j % 50], ?_⟩
    unfold mrow
    rw [hm]
    exact List.getElem?_eq_getElem hj
  obtain ⟨e, he⟩ := hs
  have h3 := cw_all he
  have g1 : yM j = e.2.1 := by unfold yM; rw [he]
  have g2 : cM j = e.2.2.1 := by unfold cM; rw [he]
  have g3 : xM j = e.2.2.2.1 := by unfold xM; rw [he]
  have g4 : rM j = e.2.2.2.2.1 := by unfold rM; rw [he]
  rw [g1, g2, g3, g4]
  rcases h3 with h3 | h3
  · exfalso
    apply h2
    have h5 : (List.range 294).all (fun i => decide (yM i ≠ yL_law) || decide (i = 273)) = true := by decide +kernel
    have h6 := all_at h5 (List.mem_range.mpr h)
    simp only [Bool.or_eq_true, decide_eq_true_eq] at h6
    rcases h6 with h6 | h6
    · exact absurd (g1.trans h3) h6
    · exact h6
  · exact h3
theorem f_ckA {o : Nat} (ho : o < 15) : (hF.getD o []).all (ckF o) = true ∧ (fldT.getD o []).all (inF o) = true ∧ (hI.getD o []).all (ckI o) = true ∧ (cstIT.getD o []).all (inI o) = true ∧ (hL.getD o []).all (ckL o) = true ∧ (cstLT.getD o []).all (inL o) = true ∧ (hN.getD o []).all (ckN o) = true ∧ (newTT.getD o []).all (inN o) = true := by
  have h := ckA_all o ho
  simp only [ckA, Bool.and_eq_true] at h
  obtain ⟨⟨⟨⟨⟨⟨⟨a, b⟩, c⟩, d⟩, e⟩, f⟩, g⟩, i⟩ := h
  exact ⟨a, b, c, d, e, f, g, i⟩
/-- a field's row -/
theorem f_fld {o ix ci k ty : Nat} (h : fld o ix = some (ci, k, ty)) : (ci = 20 ∧ o = 13 ∧ (if k = 0 then Cond.fieldLink (Rn o) ix "java/lang/String" "value" "[B" else .fieldLink (Rn o) ix "java/lang/String" "coder" "B") ∈ lw_tbl) ∨ (ci ≠ 20 ∧ ci < 10 ∧ k < nF ci ∧ fTy ci k = ty ∧ Cond.fieldLink (Rn o) ix (Rn ci) ((clC ci).2.1 k).2.1 ((clC ci).2.1 k).2.2.1 ∈ lw_tbl) := by
  obtain ⟨hm, ho⟩ := find_of (L := fldT) (o := o) (ix := ix) h
  obtain ⟨h1, h2, -⟩ := f_ckA (show o < 15 from ho)
  have h3 := all_at h2 hm
  simp only [inF, List.any_eq_true, Bool.and_eq_true, decide_eq_true_eq] at h3
  obtain ⟨⟨ix', ci', k', ty', fl⟩, he, ⟨⟨⟨e1, e2⟩, e3⟩, e4⟩⟩ := h3
  dsimp only at e1 e2 e3 e4
  subst e1; subst e2; subst e3; subst e4
  have h4 := all_at h1 he
  simp only [ckF, Bool.and_eq_true, decide_eq_true_eq] at h4
  obtain ⟨-, h4⟩ := h4
  split at h4
  next hc =>
    left
    simp only [Bool.and_eq_true, decide_eq_true_eq] at h4
    refine ⟨hc, h4.1, ?_⟩
    have h5 := h4.2
    split at h5
    next hk => rw [if_pos hk]; exact hasW_in h5
    next hk => rw [if_neg hk]; exact hasW_in h5
  next hc =>
    right
    simp only [Bool.and_eq_true, decide_eq_true_eq] at h4
    obtain ⟨⟨⟨a, b⟩, c⟩, d⟩ := h4
    exact ⟨hc, a, b, c, hasW_in d⟩
theorem f_cI {o ix : Nat} {v : Int32} (h : cstI o ix = some v) : Cond.constant (Rn o) ix v ∈ lw_tbl := by
  obtain ⟨hm, ho⟩ := find_of (L := cstIT) (o := o) (ix := ix) h
  obtain ⟨-, -, h1, h2, -⟩ := f_ckA (show o < 15 from ho)
  have h3 := all_at h2 hm
  simp only [inI, List.any_eq_true, Bool.and_eq_true, decide_eq_true_eq] at h3
  obtain ⟨⟨ix', v', i⟩, he, e1, e2⟩ := h3
  dsimp only at e1 e2
  subst e1; subst e2
  exact hasW_in (all_at h1 he)
theorem f_cL {o ix : Nat} {v : Int64} (h : cstL o ix = some v) : Cond.constantLong (Rn o) ix v ∈ lw_tbl := by
  obtain ⟨hm, ho⟩ := find_of (L := cstLT) (o := o) (ix := ix) h
  obtain ⟨-, -, -, -, h1, h2, -⟩ := f_ckA (show o < 15 from ho)
  have h3 := all_at h2 hm
  simp only [inL, List.any_eq_true, Bool.and_eq_true, decide_eq_true_eq] at h3
  obtain ⟨⟨ix', v', i⟩, he, e1, e2⟩ := h3
  dsimp only at e1 e2
  subst e1; subst e2
  exact hasW_in (all_at h1 he)
theorem f_new {o ix ci n : Nat} (h : newT o ix = some (ci, n)) : ci < 10 ∧ n = nF ci ∧ Cond.classLink (Rn o) ix (Rn ci) ∈ lw_tbl ∧ Cond.instantiable (Rn ci) n ∈ lw_tbl ∧ Cond.initialized (Rn ci) ∈ lw_tbl := by
  obtain ⟨hm, ho⟩ := find_of (L := newTT) (o := o) (ix := ix) h
  obtain ⟨-, -, -, -, -, -, h1, h2⟩ := f_ckA (show o < 15 from ho)
  have h3 := all_at h2 hm
  simp only [inN, List.any_eq_true, Bool.and_eq_true, decide_eq_true_eq] at h3
  obtain ⟨⟨ix', ci', n', a, b, c⟩, he, ⟨e1, e2⟩, e3⟩ := h3
  dsimp only at e1 e2 e3
  subst e1; subst e2; subst e3
  have h4 := all_at h1 he
  simp only [ckN, Bool.and_eq_true, decide_eq_true_eq] at h4
  obtain ⟨⟨⟨⟨c1, c2⟩, c3⟩, c4⟩, c5⟩ := h4
  exact ⟨c1, c2, hasW_in c3, hasW_in c4, hasW_in c5⟩
/-- a class' fields -/
theorem f_cls {c : Nat} (hc : c < 10) : vwCl[c]? = some (Rn c, (clC c).2.1, nF c) ∧ (∀ w ∈ u_ws (Rn c) (clC c).2.1 (nF c), w ∈ lw_tbl) ∧ (∀ a, a < nF c → ∀ b, b < nF c → a ≠ b → ((clC c).2.1 a).2.1 ≠ ((clC c).2.1 b).2.1) ∧ (∀ k, k < nF c → parseFieldDescriptor ((clC c).2.1 k).2.2.1 = some (tyC c k)) ∧ (∀ k, k < nF c → ((clC c).2.1 k).1 = Rn c ∧ tcod (tyC c k) = fTy c k ∧ ((clC c).2.1 k).2.2.2 = fFin c k) := by
  obtain ⟨h1, h2, h3⟩ := ckK_all c hc
  simp only [ckK, Bool.and_eq_true, decide_eq_true_eq] at h1
  obtain ⟨⟨e1, e2⟩, h4⟩ := h1
  have h5 : ∀ k, k < nF c → ((((clC c).2.1 k).1 = Rn c ∧ tcod (tyC c k) = fTy c k) ∧ ((clC c).2.1 k).2.2.2 = fFin c k) ∧ parseFieldDescriptor ((clC c).2.1 k).2.2.1 = some (tyC c k) := by
    intro k hk
    have h6 := all_at h4 (List.mem_range.mpr hk)
    simpa only [Bool.and_eq_true, decide_eq_true_eq] using h6
  rw [e1, e2] at h2
  rw [e2] at h3
  refine ⟨?_, h2, h3, fun k hk => (h5 k hk).2, fun k hk => ⟨(h5 k hk).1.1.1, (h5 k hk).1.1.2, (h5 k hk).1.2⟩⟩
  have hl : c < vwCl.length := hc
  have e3 : vwCl[c]? = some (clC c) := by
    unfold clC
    rw [List.getD_eq_getElem?_getD, List.getElem?_eq_getElem hl]
    rfl
  rw [e3, ← e1, ← e2]
