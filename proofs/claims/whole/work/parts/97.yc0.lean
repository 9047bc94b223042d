/-! ===== the start: memory as made so far ===== -/
def gI : List (Nat × Nat × Int32) → Nat → Nat → Int32
  | [], _, _ => 0
  | q :: l, a, j => if a = q.1 ∧ j = q.2.1 then q.2.2 else gI l a j
def gR : List (Nat × Nat × Nat) → Nat → Nat → Option Nat
  | [], _, _ => none
  | q :: l, a, j => if a = q.1 ∧ j = q.2.1 then some q.2.2 else gR l a j
theorem gI_hi {n j : Nat} : ∀ {l : List (Nat × Nat × Int32)}, (∀ q ∈ l, q.1 < n) → gI l n j = 0 := by
  intro l
  induction l with
  | nil => intro _; rfl
  | cons q l ih =>
    intro h
    have h1 := h q (List.mem_cons_self ..)
    exact (if_neg (fun z => by omega)).trans (ih (fun q hq => h q (List.mem_cons_of_mem _ hq)))
theorem gR_hi {n j : Nat} : ∀ {l : List (Nat × Nat × Nat)}, (∀ q ∈ l, q.1 < n) → gR l n j = none := by
  intro l
  induction l with
  | nil => intro _; rfl
  | cons q l ih =>
    intro h
    have h1 := h q (List.mem_cons_self ..)
    exact (if_neg (fun z => by omega)).trans (ih (fun q hq => h q (List.mem_cons_of_mem _ hq)))
/-- n cells made, what they hold by two lists, all else empty -/
def Mz (X : Nat × (Nat → Int32)) (n : Nat) (lI : List (Nat × Nat × Int32)) (lR : List (Nat × Nat × Nat)) (σ : Mm) : Prop := mKs σ = KS.take n ∧ mU σ = (n, szs (KS.take n), 0) ∧ mX σ = X ∧ (∀ a j, mI σ a j = gI lI a j) ∧ (∀ a j, mL σ a j = 0) ∧ (∀ a j, mR σ a j = gR lR a j) ∧ (∀ q ∈ lI, q.1 < n) ∧ (∀ q ∈ lR, q.1 < n)
section Mz
variable {X : Nat × (Nat → Int32)} {n a j : Nat} {lI : List (Nat × Nat × Int32)} {lR : List (Nat × Nat × Nat)} {σ : Mm}
theorem Mz.uI {v : Int32} (h : Mz X n lI lR σ) (ha : a < n) : Mz X n ((a, j, v) :: lI) lR (uI σ a j v) := by
  obtain ⟨h1, h2, h3, h4, h5, h6, h7, h8⟩ := h
  refine ⟨h1, h2, h3, fun b i => ?_, h5, h6, fun q hq => ?_, h8⟩
  · rw [mI_uI, h4]; rfl
  · rcases List.mem_cons.mp hq with e | e
    · rw [e]; exact ha
    · exact h7 q e
theorem Mz.uR {v : Nat} (h : Mz X n lI lR σ) (ha : a < n) : Mz X n lI ((a, j, v) :: lR) (uR σ a j (some v)) := by
  obtain ⟨h1, h2, h3, h4, h5, h6, h7, h8⟩ := h
  refine ⟨h1, h2, h3, h4, h5, fun b i => ?_, h7, fun q hq => ?_⟩
  · show (if b = a then (if i = j then some v else mR σ b i) else mR σ b i) = if b = a ∧ i = j then some v else gR lR b i
    rw [h6]
    by_cases e : b = a
    · by_cases e2 : i = j
      · rw [if_pos e, if_pos e2, if_pos ⟨e, e2⟩]
      · rw [if_pos e, if_neg e2, if_neg (fun z => e2 z.2)]
    · rw [if_neg e, if_neg (fun z => e z.1)]
  · rcases List.mem_cons.mp hq with e | e
    · rw [e]; exact ha
    · exact h8 q e
theorem Mz.len (h : Mz X n lI lR σ) (hn : n ≤ 99) : (mKs σ).length = n := by
  rw [h.1, List.length_take]
  exact Nat.min_eq_left hn
theorem Mz.nw {kd sz : Nat} (h : Mz X n lI lR σ) (hk : KS[n]? = some (kd, sz)) : Mz X (n + 1) lI lR (nw σ kd sz) := by
  have hn : n < KS.length := (List.getElem?_eq_some_iff.mp hk).1
  have hl := h.len (Nat.le_of_lt hn)
  obtain ⟨h1, h2, h3, h4, h5, h6, h7, h8⟩ := h
  have hks : KS.take (n + 1) = KS.take n ++ [(kd, sz)] := by rw [List.take_succ, hk]; rfl
  refine ⟨?_, ?_, h3, fun b i => ?_, fun b i => ?_, fun b i => ?_, fun q hq => Nat.lt_succ_of_lt (h7 q hq), fun q hq => Nat.lt_succ_of_lt (h8 q hq)⟩
  · show mKs σ ++ [(kd, sz)] = _
    rw [h1, hks]
  · show ((mU σ).1 + 1, (mU σ).2.1 + sz, (mU σ).2.2) = _
    rw [h2, hks, szs_ap]
  · show (if b = (mKs σ).length then (fun _ => (0 : Int32)) else mI σ b) i = gI lI b i
    rw [hl]
    by_cases e : b = n
    · rw [if_pos e, e, gI_hi h7]
    · rw [if_neg e]; exact h4 b i
  · show (if b = (mKs σ).length then (fun _ => (0 : Int64)) else mL σ b) i = 0
    rw [hl]
    by_cases e : b = n
    · rw [if_pos e]
    · rw [if_neg e]; exact h5 b i
  · show (if b = (mKs σ).length then (fun _ => (none : Option Nat)) else mR σ b) i = gR lR b i
    rw [hl]
    by_cases e : b = n
    · rw [if_pos e, e, gR_hi h8]
    · rw [if_neg e]; exact h6 b i
theorem Mz.k {k : Nat × Nat} (h : Mz X n lI lR σ) (ha : a < n) (hk : KS[a]? = some k) : mK σ a = some k := by
  unfold mK
  rw [h.1, List.getElem?_take_of_lt ha]
  exact hk
/-- runs to some end -/
def Ez (r : Option Value) (M pc : Nat) (ls st : List Value) (σ : Mm) (P : Mm → Prop) : Prop := ∃ σ', Ev M pc ls st σ (r, σ') ∧ P σ'
variable {r : Option Value} {M pc p2 : Nat} {ls st : List Value} {P : Mm → Prop}
theorem z_up {ls2 st2 : List Value} {σ2 : Mm} (hs : ∀ w, Ev M p2 ls2 st2 σ2 w → Ev M pc ls st σ w) (h : Ez r M p2 ls2 st2 σ2 P) : Ez r M pc ls st σ P := by
  obtain ⟨σ', h, p⟩ := h
  exact ⟨σ', hs _ h, p⟩
theorem z_new {ix o c s : Nat} (h : Mz X n lI lR σ) (hd : decode (cM M) pc = .ok (.new ix, 3)) (ho : oM M = o) (hc : newT o ix = some (c, s)) (hk : KS[n]? = some (c, s)) (hp : pc + 3 = p2) (k : ∀ σ', Mz X (n + 1) lI lR σ' → Ez r M p2 ls (.ref n :: st) σ' P) : Ez r M pc ls st σ P := by
  have hn : n < KS.length := (List.getElem?_eq_some_iff.mp hk).1
  have hn2 : n < 99 := hn
  have hl := h.len (Nat.le_of_lt hn)
  refine z_up (fun w => e_new hd ho hc ⟨?_, ?_⟩ hp) ?_
  · rw [hl, h.2.1]
  · rw [h.2.1]; show n < 1000000; omega
  · rw [hl]; exact k _ (h.nw hk)
theorem z_arr {ty : ArrayType} {c s : Nat} {x : Int32} (h : Mz X n lI lR σ) (hd : decode (cM M) pc = .ok (.newarray ty, 2)) (hc : arT ty = some c) (hx : 0 ≤ x ∧ x.toNatClampNeg ≤ 5000) (hs : x.toNatClampNeg = s) (hk : KS[n]? = some (c, s)) (hp : pc + 2 = p2) (k : ∀ σ', Mz X (n + 1) lI lR σ' → Ez r M p2 ls (.ref n :: st) σ' P) : Ez r M pc ls (.int x :: st) σ P := by
  have hn : n < KS.length := (List.getElem?_eq_some_iff.mp hk).1
  have hn2 : n < 99 := hn
  have hl := h.len (Nat.le_of_lt hn)
  refine z_up (fun w => e_newarray hd hc ⟨hx.1, hx.2, ?_, ?_⟩ hp) ?_
  · rw [hl, h.2.1]
  · rw [h.2.1]; show n < 1000000; omega
  · rw [hl, hs]; exact k _ (h.nw hk)
theorem z_call {ix kd j' m b : Nat} {as : List Value} {st' : List Value} {Q : Mm → Prop} (hd : decode (cM M) pc = .ok (.invokespecial ix, 3)) (hc : callT (oM M) ix = some (kd, j', m) ∧ fok M j' = true ∧ stM j' = false) (hkd : kd = 2 ∨ kd = 3) (hpop : popN m st [] = some (as, .ref b :: st')) (hr : st'.length ≤ 4 ∧ ls.length = xM M) (hp : pc + 3 = p2) (hcl : ∃ σ', Cl j' (.ref b :: as) σ (none, σ') ∧ Q σ') (k : ∀ σ', Q σ' → Ez r M p2 ls st' σ' P) : Ez r M pc ls st σ P := by
  obtain ⟨σ', h, q⟩ := hcl
  exact z_up (fun w => e_icall hd hc hkd hpop hr hp h) (k σ' q)
end Mz
theorem n_87_3 {X : Nat × (Nat → Int32)} {lI : List (Nat × Nat × Int32)} {lR : List (Nat × Nat × Nat)} {σ0 : Mm} (h0 : Mz X 4 lI lR σ0) : ∃ σ', Cl 87 [.ref 3] σ0 (none, σ') ∧ Mz X 14 ((3, 6, (-1)) :: (3, 5, (-1)) :: lI) ((3, 17, 13) :: (3, 16, 12) :: (3, 15, 11) :: (3, 14, 10) :: (3, 13, 9) :: (3, 12, 8) :: (3, 11, 7) :: (3, 10, 6) :: (3, 9, 5) :: (3, 8, 4) :: lR) σ' := by
  suffices hz : Ez none 87 0 [.ref 3] [] σ0 (Mz X 14 ((3, 6, (-1)) :: (3, 5, (-1)) :: lI) ((3, 17, 13) :: (3, 16, 12) :: (3, 15, 11) :: (3, 14, 10) :: (3, 13, 9) :: (3, 12, 8) :: (3, 11, 7) :: (3, 10, 6) :: (3, 9, 5) :: (3, 8, 4) :: lR)) by
    obtain ⟨σ', e, p⟩ := hz
    exact ⟨σ', ⟨okr_v (by decide +kernel) oo_87 (by decide) (by rw [xx_87]; exact Nat.le_of_ble_eq_true rfl) rfl (h0.k (by decide) rfl), by rw [xx_87]; exact e⟩, p⟩
  refine z_up (fun w => e_aload_n d_87_0 rfl rfl) ?_
  refine z_up (fun w => e_obj d_87_1 (show callT (oM 87) 3 = some (4, 0, 0) by decide +kernel) (show 1 ≤ frM 87 ∧ 20 ≤ loM 87 by decide +kernel) ⟨Nat.le_of_ble_eq_true rfl, xx_87.symm⟩ rfl) ?_
  refine z_up (fun w => e_aload_n d_87_4 rfl rfl) ?_
  refine z_up (fun w => e_bipush d_87_5 cb_14 rfl) ?_
  refine z_arr (s := 14) h0 d_87_7 rfl (by decide) rfl rfl rfl (fun σ1 h1 => ?_)
  refine z_up (fun w => e_putR d_87_9 oo_87 pF_6_9 (by decide +kernel) (h1.k (by decide) rfl) rfl) ?_
  replace h1 := h1.uR (a := 3) (j := 8) (v := 4) (by decide)
  generalize uR (σ1) 3 8 (some 4) = σ1002 at h1 ⊢
  refine z_up (fun w => e_aload_n d_87_12 rfl rfl) ?_
  refine z_up (fun w => e_bipush d_87_13 cb_10 rfl) ?_
  refine z_arr (s := 10) h1 d_87_15 rfl (by decide) rfl rfl rfl (fun σ2 h2 => ?_)
  refine z_up (fun w => e_putR d_87_17 oo_87 pF_6_15 (by decide +kernel) (h2.k (by decide) rfl) rfl) ?_
  replace h2 := h2.uR (a := 3) (j := 9) (v := 5) (by decide)
  generalize uR (σ2) 3 9 (some 5) = σ1004 at h2 ⊢
  refine z_up (fun w => e_aload_n d_87_20 rfl rfl) ?_
  refine z_up (fun w => e_bipush d_87_21 cb_10 rfl) ?_
  refine z_arr (s := 10) h2 d_87_23 rfl (by decide) rfl rfl rfl (fun σ3 h3 => ?_)
  refine z_up (fun w => e_putR d_87_25 oo_87 pF_6_18 (by decide +kernel) (h3.k (by decide) rfl) rfl) ?_
  replace h3 := h3.uR (a := 3) (j := 10) (v := 6) (by decide)
  generalize uR (σ3) 3 10 (some 6) = σ1006 at h3 ⊢
  refine z_up (fun w => e_aload_n d_87_28 rfl rfl) ?_
  refine z_up (fun w => e_bipush d_87_29 cb_10 rfl) ?_
  refine z_arr (s := 10) h3 d_87_31 rfl (by decide) rfl rfl rfl (fun σ4 h4 => ?_)
  refine z_up (fun w => e_putR d_87_33 oo_87 pF_6_21 (by decide +kernel) (h4.k (by decide) rfl) rfl) ?_
  replace h4 := h4.uR (a := 3) (j := 11) (v := 7) (by decide)
  generalize uR (σ4) 3 11 (some 7) = σ1008 at h4 ⊢
  refine z_up (fun w => e_aload_n d_87_36 rfl rfl) ?_
  refine z_up (fun w => e_bipush d_87_37 cb_14 rfl) ?_
  refine z_arr (s := 14) h4 d_87_39 rfl (by decide) rfl rfl rfl (fun σ5 h5 => ?_)
  refine z_up (fun w => e_putR d_87_41 oo_87 pF_6_24 (by decide +kernel) (h5.k (by decide) rfl) rfl) ?_
  replace h5 := h5.uR (a := 3) (j := 12) (v := 8) (by decide)
  generalize uR (σ5) 3 12 (some 8) = σ1010 at h5 ⊢
  refine z_up (fun w => e_aload_n d_87_44 rfl rfl) ?_
  refine z_up (fun w => e_bipush d_87_45 cb_14 rfl) ?_
  refine z_arr (s := 14) h5 d_87_47 rfl (by decide) rfl rfl rfl (fun σ6 h6 => ?_)
  refine z_up (fun w => e_putR d_87_49 oo_87 pF_6_27 (by decide +kernel) (h6.k (by decide) rfl) rfl) ?_
  replace h6 := h6.uR (a := 3) (j := 13) (v := 9) (by decide)
  generalize uR (σ6) 3 13 (some 9) = σ1012 at h6 ⊢
  refine z_up (fun w => e_aload_n d_87_52 rfl rfl) ?_
  refine z_up (fun w => e_iconst d_87_53 ci_4 rfl) ?_
  refine z_arr (s := 4) h6 d_87_54 rfl (by decide) rfl rfl rfl (fun σ7 h7 => ?_)
  refine z_up (fun w => e_putR d_87_56 oo_87 pF_6_30 (by decide +kernel) (h7.k (by decide) rfl) rfl) ?_
  replace h7 := h7.uR (a := 3) (j := 14) (v := 10) (by decide)
  generalize uR (σ7) 3 14 (some 10) = σ1014 at h7 ⊢
  refine z_up (fun w => e_aload_n d_87_59 rfl rfl) ?_
  refine z_up (fun w => e_bipush d_87_60 cb_64 rfl) ?_
  refine z_arr (s := 64) h7 d_87_62 rfl (by decide) rfl rfl rfl (fun σ8 h8 => ?_)
  refine z_up (fun w => e_putR d_87_64 oo_87 pF_6_33 (by decide +kernel) (h8.k (by decide) rfl) rfl) ?_
  replace h8 := h8.uR (a := 3) (j := 15) (v := 11) (by decide)
  generalize uR (σ8) 3 15 (some 11) = σ1016 at h8 ⊢
  refine z_up (fun w => e_aload_n d_87_67 rfl rfl) ?_
  refine z_up (fun w => e_iconst d_87_68 ci_3 rfl) ?_
  refine z_arr (s := 3) h8 d_87_69 rfl (by decide) rfl rfl rfl (fun σ9 h9 => ?_)
  refine z_up (fun w => e_putR d_87_71 oo_87 pF_6_36 (by decide +kernel) (h9.k (by decide) rfl) rfl) ?_
  replace h9 := h9.uR (a := 3) (j := 16) (v := 12) (by decide)
  generalize uR (σ9) 3 16 (some 12) = σ1018 at h9 ⊢
  refine z_up (fun w => e_aload_n d_87_74 rfl rfl) ?_
  refine z_up (fun w => e_iconst d_87_75 ci_3 rfl) ?_
  refine z_arr (s := 3) h9 d_87_76 rfl (by decide) rfl rfl rfl (fun σ10 h10 => ?_)
  refine z_up (fun w => e_putR d_87_78 oo_87 pF_6_39 (by decide +kernel) (h10.k (by decide) rfl) rfl) ?_
  replace h10 := h10.uR (a := 3) (j := 17) (v := 13) (by decide)
  generalize uR (σ10) 3 17 (some 13) = σ1020 at h10 ⊢
  refine z_up (fun w => e_aload_n d_87_81 rfl rfl) ?_
  refine z_up (fun w => e_iconst d_87_82 ci_m1 rfl) ?_
  refine z_up (fun w => e_putI d_87_83 oo_87 pF_6_42 (Or.inl rfl) (h10.k (by decide) rfl) rfl) ?_
  replace h10 := h10.uI (a := 3) (j := 5) (v := (-1)) (by decide)
  generalize uI (σ1020) 3 5 (-1) = σ1021 at h10 ⊢
  refine z_up (fun w => e_aload_n d_87_86 rfl rfl) ?_
  refine z_up (fun w => e_iconst d_87_87 ci_m1 rfl) ?_
  refine z_up (fun w => e_putI d_87_88 oo_87 pF_6_46 (Or.inl rfl) (h10.k (by decide) rfl) rfl) ?_
  replace h10 := h10.uI (a := 3) (j := 6) (v := (-1)) (by decide)
  generalize uI (σ1021) 3 6 (-1) = σ1022 at h10 ⊢
  exact ⟨_, e_vret d_87_91 rr_87, h10⟩
theorem n_35_1 {X : Nat × (Nat → Int32)} {lI : List (Nat × Nat × Int32)} {lR : List (Nat × Nat × Nat)} {σ0 : Mm} (h0 : Mz X 2 lI lR σ0) : ∃ σ', Cl 35 [.ref 1] σ0 (none, σ') ∧ Mz X 15 ((1, 1, (-1)) :: (3, 6, (-1)) :: (3, 5, (-1)) :: lI) ((1, 11, 14) :: (1, 9, 3) :: (3, 17, 13) :: (3, 16, 12) :: (3, 15, 11) :: (3, 14, 10) :: (3, 13, 9) :: (3, 12, 8) :: (3, 11, 7) :: (3, 10, 6) :: (3, 9, 5) :: (3, 8, 4) :: (1, 3, 2) :: lR) σ' := by
  suffices hz : Ez none 35 0 [.ref 1] [] σ0 (Mz X 15 ((1, 1, (-1)) :: (3, 6, (-1)) :: (3, 5, (-1)) :: lI) ((1, 11, 14) :: (1, 9, 3) :: (3, 17, 13) :: (3, 16, 12) :: (3, 15, 11) :: (3, 14, 10) :: (3, 13, 9) :: (3, 12, 8) :: (3, 11, 7) :: (3, 10, 6) :: (3, 9, 5) :: (3, 8, 4) :: (1, 3, 2) :: lR)) by
    obtain ⟨σ', e, p⟩ := hz
    exact ⟨σ', ⟨okr_v (by decide +kernel) oo_35 (by decide) (by rw [xx_35]; exact Nat.le_of_ble_eq_true rfl) rfl (h0.k (by decide) rfl), by rw [xx_35]; exact e⟩, p⟩
  refine z_up (fun w => e_aload_n d_35_0 rfl rfl) ?_
  refine z_up (fun w => e_obj d_35_1 (show callT (oM 35) 3 = some (4, 0, 0) by decide +kernel) (show 1 ≤ frM 35 ∧ 20 ≤ loM 35 by decide +kernel) ⟨Nat.le_of_ble_eq_true rfl, xx_35.symm⟩ rfl) ?_
  refine z_up (fun w => e_aload_n d_35_4 rfl rfl) ?_
  refine z_up (fun w => e_sipush d_35_5 cs_700 rfl) ?_
  refine z_arr (s := 700) h0 d_35_8 rfl (by decide) rfl rfl rfl (fun σ1 h1 => ?_)
  refine z_up (fun w => e_putR d_35_10 oo_35 pF_4_9 (by decide +kernel) (h1.k (by decide) rfl) rfl) ?_
  replace h1 := h1.uR (a := 1) (j := 3) (v := 2) (by decide)
  generalize uR (σ1) 1 3 (some 2) = σ1001 at h1 ⊢
  refine z_up (fun w => e_aload_n d_35_13 rfl rfl) ?_
  refine z_new h1 d_35_14 oo_35 pN_4_15 rfl rfl (fun σ2 h2 => ?_)
  refine z_up (fun w => e_dup d_35_17 rfl rfl) ?_
  refine z_call d_35_18 kc_35_18 (by decide) rfl ⟨Nat.le_of_ble_eq_true rfl, xx_35.symm⟩ rfl (n_87_3 h2) (fun σ3 h3 => ?_)
  refine z_up (fun w => e_putR d_35_21 oo_35 pF_4_18 (Or.inl rfl) (h3.k (by decide) rfl) rfl) ?_
  replace h3 := h3.uR (a := 1) (j := 9) (v := 3) (by decide)
  generalize uR (σ3) 1 9 (some 3) = σ1016 at h3 ⊢
  refine z_up (fun w => e_aload_n d_35_24 rfl rfl) ?_
  refine z_up (fun w => e_bipush d_35_25 cb_72 rfl) ?_
  refine z_arr (s := 72) h3 d_35_27 rfl (by decide) rfl rfl rfl (fun σ4 h4 => ?_)
  refine z_up (fun w => e_putR d_35_29 oo_35 pF_4_22 (by decide +kernel) (h4.k (by decide) rfl) rfl) ?_
  replace h4 := h4.uR (a := 1) (j := 11) (v := 14) (by decide)
  generalize uR (σ4) 1 11 (some 14) = σ1018 at h4 ⊢
  refine z_up (fun w => e_aload_n d_35_32 rfl rfl) ?_
  refine z_up (fun w => e_iconst d_35_33 ci_m1 rfl) ?_
  refine z_up (fun w => e_putI d_35_34 oo_35 pF_4_26 (Or.inl rfl) (h4.k (by decide) rfl) rfl) ?_
  replace h4 := h4.uI (a := 1) (j := 1) (v := (-1)) (by decide)
  generalize uI (σ1018) 1 1 (-1) = σ1019 at h4 ⊢
  exact ⟨_, e_vret d_35_37 rr_35, h4⟩
theorem n_87_15 {X : Nat × (Nat → Int32)} {lI : List (Nat × Nat × Int32)} {lR : List (Nat × Nat × Nat)} {σ0 : Mm} (h0 : Mz X 16 lI lR σ0) : ∃ σ', Cl 87 [.ref 15] σ0 (none, σ') ∧ Mz X 26 ((15, 6, (-1)) :: (15, 5, (-1)) :: lI) ((15, 17, 25) :: (15, 16, 24) :: (15, 15, 23) :: (15, 14, 22) :: (15, 13, 21) :: (15, 12, 20) :: (15, 11, 19) :: (15, 10, 18) :: (15, 9, 17) :: (15, 8, 16) :: lR) σ' := by
  suffices hz : Ez none 87 0 [.ref 15] [] σ0 (Mz X 26 ((15, 6, (-1)) :: (15, 5, (-1)) :: lI) ((15, 17, 25) :: (15, 16, 24) :: (15, 15, 23) :: (15, 14, 22) :: (15, 13, 21) :: (15, 12, 20) :: (15, 11, 19) :: (15, 10, 18) :: (15, 9, 17) :: (15, 8, 16) :: lR)) by
    obtain ⟨σ', e, p⟩ := hz
    exact ⟨σ', ⟨okr_v (by decide +kernel) oo_87 (by decide) (by rw [xx_87]; exact Nat.le_of_ble_eq_true rfl) rfl (h0.k (by decide) rfl), by rw [xx_87]; exact e⟩, p⟩
  refine z_up (fun w => e_aload_n d_87_0 rfl rfl) ?_
  refine z_up (fun w => e_obj d_87_1 (show callT (oM 87) 3 = some (4, 0, 0) by decide +kernel) (show 1 ≤ frM 87 ∧ 20 ≤ loM 87 by decide +kernel) ⟨Nat.le_of_ble_eq_true rfl, xx_87.symm⟩ rfl) ?_
  refine z_up (fun w => e_aload_n d_87_4 rfl rfl) ?_
  refine z_up (fun w => e_bipush d_87_5 cb_14 rfl) ?_
  refine z_arr (s := 14) h0 d_87_7 rfl (by decide) rfl rfl rfl (fun σ1 h1 => ?_)
  refine z_up (fun w => e_putR d_87_9 oo_87 pF_6_9 (by decide +kernel) (h1.k (by decide) rfl) rfl) ?_
  replace h1 := h1.uR (a := 15) (j := 8) (v := 16) (by decide)
  generalize uR (σ1) 15 8 (some 16) = σ1018 at h1 ⊢
  refine z_up (fun w => e_aload_n d_87_12 rfl rfl) ?_
  refine z_up (fun w => e_bipush d_87_13 cb_10 rfl) ?_
  refine z_arr (s := 10) h1 d_87_15 rfl (by decide) rfl rfl rfl (fun σ2 h2 => ?_)
  refine z_up (fun w => e_putR d_87_17 oo_87 pF_6_15 (by decide +kernel) (h2.k (by decide) rfl) rfl) ?_
  replace h2 := h2.uR (a := 15) (j := 9) (v := 17) (by decide)
  generalize uR (σ2) 15 9 (some 17) = σ1020 at h2 ⊢
  refine z_up (fun w => e_aload_n d_87_20 rfl rfl) ?_
  refine z_up (fun w => e_bipush d_87_21 cb_10 rfl) ?_
  refine z_arr (s := 10) h2 d_87_23 rfl (by decide) rfl rfl rfl (fun σ3 h3 => ?_)
  refine z_up (fun w => e_putR d_87_25 oo_87 pF_6_18 (by decide +kernel) (h3.k (by decide) rfl) rfl) ?_
  replace h3 := h3.uR (a := 15) (j := 10) (v := 18) (by decide)
  generalize uR (σ3) 15 10 (some 18) = σ1022 at h3 ⊢
  refine z_up (fun w => e_aload_n d_87_28 rfl rfl) ?_
  refine z_up (fun w => e_bipush d_87_29 cb_10 rfl) ?_
  refine z_arr (s := 10) h3 d_87_31 rfl (by decide) rfl rfl rfl (fun σ4 h4 => ?_)
  refine z_up (fun w => e_putR d_87_33 oo_87 pF_6_21 (by decide +kernel) (h4.k (by decide) rfl) rfl) ?_
  replace h4 := h4.uR (a := 15) (j := 11) (v := 19) (by decide)
  generalize uR (σ4) 15 11 (some 19) = σ1024 at h4 ⊢
  refine z_up (fun w => e_aload_n d_87_36 rfl rfl) ?_
  refine z_up (fun w => e_bipush d_87_37 cb_14 rfl) ?_
  refine z_arr (s := 14) h4 d_87_39 rfl (by decide) rfl rfl rfl (fun σ5 h5 => ?_)
  refine z_up (fun w => e_putR d_87_41 oo_87 pF_6_24 (by decide +kernel) (h5.k (by decide) rfl) rfl) ?_
  replace h5 := h5.uR (a := 15) (j := 12) (v := 20) (by decide)
  generalize uR (σ5) 15 12 (some 20) = σ1026 at h5 ⊢
  refine z_up (fun w => e_aload_n d_87_44 rfl rfl) ?_
  refine z_up (fun w => e_bipush d_87_45 cb_14 rfl) ?_
  refine z_arr (s := 14) h5 d_87_47 rfl (by decide) rfl rfl rfl (fun σ6 h6 => ?_)
  refine z_up (fun w => e_putR d_87_49 oo_87 pF_6_27 (by decide +kernel) (h6.k (by decide) rfl) rfl) ?_
  replace h6 := h6.uR (a := 15) (j := 13) (v := 21) (by decide)
  generalize uR (σ6) 15 13 (some 21) = σ1028 at h6 ⊢
  refine z_up (fun w => e_aload_n d_87_52 rfl rfl) ?_
  refine z_up (fun w => e_iconst d_87_53 ci_4 rfl) ?_
  refine z_arr (s := 4) h6 d_87_54 rfl (by decide) rfl rfl rfl (fun σ7 h7 => ?_)
  refine z_up (fun w => e_putR d_87_56 oo_87 pF_6_30 (by decide +kernel) (h7.k (by decide) rfl) rfl) ?_
  replace h7 := h7.uR (a := 15) (j := 14) (v := 22) (by decide)
  generalize uR (σ7) 15 14 (some 22) = σ1030 at h7 ⊢
  refine z_up (fun w => e_aload_n d_87_59 rfl rfl) ?_
  refine z_up (fun w => e_bipush d_87_60 cb_64 rfl) ?_
  refine z_arr (s := 64) h7 d_87_62 rfl (by decide) rfl rfl rfl (fun σ8 h8 => ?_)
  refine z_up (fun w => e_putR d_87_64 oo_87 pF_6_33 (by decide +kernel) (h8.k (by decide) rfl) rfl) ?_
  replace h8 := h8.uR (a := 15) (j := 15) (v := 23) (by decide)
  generalize uR (σ8) 15 15 (some 23) = σ1032 at h8 ⊢
  refine z_up (fun w => e_aload_n d_87_67 rfl rfl) ?_
  refine z_up (fun w => e_iconst d_87_68 ci_3 rfl) ?_
  refine z_arr (s := 3) h8 d_87_69 rfl (by decide) rfl rfl rfl (fun σ9 h9 => ?_)
  refine z_up (fun w => e_putR d_87_71 oo_87 pF_6_36 (by decide +kernel) (h9.k (by decide) rfl) rfl) ?_
  replace h9 := h9.uR (a := 15) (j := 16) (v := 24) (by decide)
  generalize uR (σ9) 15 16 (some 24) = σ1034 at h9 ⊢
  refine z_up (fun w => e_aload_n d_87_74 rfl rfl) ?_
  refine z_up (fun w => e_iconst d_87_75 ci_3 rfl) ?_
  refine z_arr (s := 3) h9 d_87_76 rfl (by decide) rfl rfl rfl (fun σ10 h10 => ?_)
  refine z_up (fun w => e_putR d_87_78 oo_87 pF_6_39 (by decide +kernel) (h10.k (by decide) rfl) rfl) ?_
  replace h10 := h10.uR (a := 15) (j := 17) (v := 25) (by decide)
  generalize uR (σ10) 15 17 (some 25) = σ1036 at h10 ⊢
  refine z_up (fun w => e_aload_n d_87_81 rfl rfl) ?_
  refine z_up (fun w => e_iconst d_87_82 ci_m1 rfl) ?_
  refine z_up (fun w => e_putI d_87_83 oo_87 pF_6_42 (Or.inl rfl) (h10.k (by decide) rfl) rfl) ?_
  replace h10 := h10.uI (a := 15) (j := 5) (v := (-1)) (by decide)
  generalize uI (σ1036) 15 5 (-1) = σ1037 at h10 ⊢
  refine z_up (fun w => e_aload_n d_87_86 rfl rfl) ?_
  refine z_up (fun w => e_iconst d_87_87 ci_m1 rfl) ?_
  refine z_up (fun w => e_putI d_87_88 oo_87 pF_6_46 (Or.inl rfl) (h10.k (by decide) rfl) rfl) ?_
  replace h10 := h10.uI (a := 15) (j := 6) (v := (-1)) (by decide)
  generalize uI (σ1037) 15 6 (-1) = σ1038 at h10 ⊢
  exact ⟨_, e_vret d_87_91 rr_87, h10⟩
theorem n_17_26 {X : Nat × (Nat → Int32)} {lI : List (Nat × Nat × Int32)} {lR : List (Nat × Nat × Nat)} {σ0 : Mm} (h0 : Mz X 27 lI lR σ0) : ∃ σ', Cl 17 [.ref 26] σ0 (none, σ') ∧ Mz X 30 (lI) ((26, 9, 29) :: (26, 8, 28) :: (26, 7, 27) :: lR) σ' := by
  suffices hz : Ez none 17 0 [.ref 26] [] σ0 (Mz X 30 (lI) ((26, 9, 29) :: (26, 8, 28) :: (26, 7, 27) :: lR)) by
    obtain ⟨σ', e, p⟩ := hz
    exact ⟨σ', ⟨okr_v (by decide +kernel) oo_17 (by decide) (by rw [xx_17]; exact Nat.le_of_ble_eq_true rfl) rfl (h0.k (by decide) rfl), by rw [xx_17]; exact e⟩, p⟩
  refine z_up (fun w => e_aload_n d_17_0 rfl rfl) ?_
  refine z_up (fun w => e_obj d_17_1 (show callT (oM 17) 3 = some (4, 0, 0) by decide +kernel) (show 1 ≤ frM 17 ∧ 20 ≤ loM 17 by decide +kernel) ⟨Nat.le_of_ble_eq_true rfl, xx_17.symm⟩ rfl) ?_
  refine z_up (fun w => e_aload_n d_17_4 rfl rfl) ?_
  refine z_up (fun w => e_bipush d_17_5 cb_14 rfl) ?_
  refine z_arr (s := 14) h0 d_17_7 rfl (by decide) rfl rfl rfl (fun σ1 h1 => ?_)
  refine z_up (fun w => e_putR d_17_9 oo_17 pF_2_9 (by decide +kernel) (h1.k (by decide) rfl) rfl) ?_
  replace h1 := h1.uR (a := 26) (j := 7) (v := 27) (by decide)
  generalize uR (σ1) 26 7 (some 27) = σ1031 at h1 ⊢
  refine z_up (fun w => e_aload_n d_17_12 rfl rfl) ?_
  refine z_up (fun w => e_bipush d_17_13 cb_10 rfl) ?_
  refine z_arr (s := 10) h1 d_17_15 rfl (by decide) rfl rfl rfl (fun σ2 h2 => ?_)
  refine z_up (fun w => e_putR d_17_17 oo_17 pF_2_15 (by decide +kernel) (h2.k (by decide) rfl) rfl) ?_
  replace h2 := h2.uR (a := 26) (j := 8) (v := 28) (by decide)
  generalize uR (σ2) 26 8 (some 28) = σ1033 at h2 ⊢
  refine z_up (fun w => e_aload_n d_17_20 rfl rfl) ?_
  refine z_up (fun w => e_bipush d_17_21 cb_10 rfl) ?_
  refine z_arr (s := 10) h2 d_17_23 rfl (by decide) rfl rfl rfl (fun σ3 h3 => ?_)
  refine z_up (fun w => e_putR d_17_25 oo_17 pF_2_18 (by decide +kernel) (h3.k (by decide) rfl) rfl) ?_
  replace h3 := h3.uR (a := 26) (j := 9) (v := 29) (by decide)
  generalize uR (σ3) 26 9 (some 29) = σ1035 at h3 ⊢
  exact ⟨_, e_vret d_17_28 rr_17, h3⟩
theorem n_17_30 {X : Nat × (Nat → Int32)} {lI : List (Nat × Nat × Int32)} {lR : List (Nat × Nat × Nat)} {σ0 : Mm} (h0 : Mz X 31 lI lR σ0) : ∃ σ', Cl 17 [.ref 30] σ0 (none, σ') ∧ Mz X 34 (lI) ((30, 9, 33) :: (30, 8, 32) :: (30, 7, 31) :: lR) σ' := by
  suffices hz : Ez none 17 0 [.ref 30] [] σ0 (Mz X 34 (lI) ((30, 9, 33) :: (30, 8, 32) :: (30, 7, 31) :: lR)) by
    obtain ⟨σ', e, p⟩ := hz
    exact ⟨σ', ⟨okr_v (by decide +kernel) oo_17 (by decide) (by rw [xx_17]; exact Nat.le_of_ble_eq_true rfl) rfl (h0.k (by decide) rfl), by rw [xx_17]; exact e⟩, p⟩
  refine z_up (fun w => e_aload_n d_17_0 rfl rfl) ?_
  refine z_up (fun w => e_obj d_17_1 (show callT (oM 17) 3 = some (4, 0, 0) by decide +kernel) (show 1 ≤ frM 17 ∧ 20 ≤ loM 17 by decide +kernel) ⟨Nat.le_of_ble_eq_true rfl, xx_17.symm⟩ rfl) ?_
  refine z_up (fun w => e_aload_n d_17_4 rfl rfl) ?_
  refine z_up (fun w => e_bipush d_17_5 cb_14 rfl) ?_
  refine z_arr (s := 14) h0 d_17_7 rfl (by decide) rfl rfl rfl (fun σ1 h1 => ?_)
  refine z_up (fun w => e_putR d_17_9 oo_17 pF_2_9 (by decide +kernel) (h1.k (by decide) rfl) rfl) ?_
  replace h1 := h1.uR (a := 30) (j := 7) (v := 31) (by decide)
  generalize uR (σ1) 30 7 (some 31) = σ1035 at h1 ⊢
  refine z_up (fun w => e_aload_n d_17_12 rfl rfl) ?_
  refine z_up (fun w => e_bipush d_17_13 cb_10 rfl) ?_
  refine z_arr (s := 10) h1 d_17_15 rfl (by decide) rfl rfl rfl (fun σ2 h2 => ?_)
  refine z_up (fun w => e_putR d_17_17 oo_17 pF_2_15 (by decide +kernel) (h2.k (by decide) rfl) rfl) ?_
  replace h2 := h2.uR (a := 30) (j := 8) (v := 32) (by decide)
  generalize uR (σ2) 30 8 (some 32) = σ1037 at h2 ⊢
  refine z_up (fun w => e_aload_n d_17_20 rfl rfl) ?_
  refine z_up (fun w => e_bipush d_17_21 cb_10 rfl) ?_
  refine z_arr (s := 10) h2 d_17_23 rfl (by decide) rfl rfl rfl (fun σ3 h3 => ?_)
  refine z_up (fun w => e_putR d_17_25 oo_17 pF_2_18 (by decide +kernel) (h3.k (by decide) rfl) rfl) ?_
  replace h3 := h3.uR (a := 30) (j := 9) (v := 33) (by decide)
  generalize uR (σ3) 30 9 (some 33) = σ1039 at h3 ⊢
  exact ⟨_, e_vret d_17_28 rr_17, h3⟩
theorem n_17_34 {X : Nat × (Nat → Int32)} {lI : List (Nat × Nat × Int32)} {lR : List (Nat × Nat × Nat)} {σ0 : Mm} (h0 : Mz X 35 lI lR σ0) : ∃ σ', Cl 17 [.ref 34] σ0 (none, σ') ∧ Mz X 38 (lI) ((34, 9, 37) :: (34, 8, 36) :: (34, 7, 35) :: lR) σ' := by
  suffices hz : Ez none 17 0 [.ref 34] [] σ0 (Mz X 38 (lI) ((34, 9, 37) :: (34, 8, 36) :: (34, 7, 35) :: lR)) by
    obtain ⟨σ', e, p⟩ := hz
    exact ⟨σ', ⟨okr_v (by decide +kernel) oo_17 (by decide) (by rw [xx_17]; exact Nat.le_of_ble_eq_true rfl) rfl (h0.k (by decide) rfl), by rw [xx_17]; exact e⟩, p⟩
  refine z_up (fun w => e_aload_n d_17_0 rfl rfl) ?_
  refine z_up (fun w => e_obj d_17_1 (show callT (oM 17) 3 = some (4, 0, 0) by decide +kernel) (show 1 ≤ frM 17 ∧ 20 ≤ loM 17 by decide +kernel) ⟨Nat.le_of_ble_eq_true rfl, xx_17.symm⟩ rfl) ?_
  refine z_up (fun w => e_aload_n d_17_4 rfl rfl) ?_
  refine z_up (fun w => e_bipush d_17_5 cb_14 rfl) ?_
  refine z_arr (s := 14) h0 d_17_7 rfl (by decide) rfl rfl rfl (fun σ1 h1 => ?_)
  refine z_up (fun w => e_putR d_17_9 oo_17 pF_2_9 (by decide +kernel) (h1.k (by decide) rfl) rfl) ?_
  replace h1 := h1.uR (a := 34) (j := 7) (v := 35) (by decide)
  generalize uR (σ1) 34 7 (some 35) = σ1039 at h1 ⊢
  refine z_up (fun w => e_aload_n d_17_12 rfl rfl) ?_
  refine z_up (fun w => e_bipush d_17_13 cb_10 rfl) ?_
  refine z_arr (s := 10) h1 d_17_15 rfl (by decide) rfl rfl rfl (fun σ2 h2 => ?_)
  refine z_up (fun w => e_putR d_17_17 oo_17 pF_2_15 (by decide +kernel) (h2.k (by decide) rfl) rfl) ?_
  replace h2 := h2.uR (a := 34) (j := 8) (v := 36) (by decide)
  generalize uR (σ2) 34 8 (some 36) = σ1041 at h2 ⊢
  refine z_up (fun w => e_aload_n d_17_20 rfl rfl) ?_
  refine z_up (fun w => e_bipush d_17_21 cb_10 rfl) ?_
  refine z_arr (s := 10) h2 d_17_23 rfl (by decide) rfl rfl rfl (fun σ3 h3 => ?_)
  refine z_up (fun w => e_putR d_17_25 oo_17 pF_2_18 (by decide +kernel) (h3.k (by decide) rfl) rfl) ?_
  replace h3 := h3.uR (a := 34) (j := 9) (v := 37) (by decide)
  generalize uR (σ3) 34 9 (some 37) = σ1043 at h3 ⊢
  exact ⟨_, e_vret d_17_28 rr_17, h3⟩
theorem n_4_38 {X : Nat × (Nat → Int32)} {lI : List (Nat × Nat × Int32)} {lR : List (Nat × Nat × Nat)} {σ0 : Mm} (h0 : Mz X 39 lI lR σ0) : ∃ σ', Cl 4 [.ref 38] σ0 (none, σ') ∧ Mz X 41 (lI) ((38, 6, 40) :: (38, 5, 39) :: lR) σ' := by
  suffices hz : Ez none 4 0 [.ref 38] [] σ0 (Mz X 41 (lI) ((38, 6, 40) :: (38, 5, 39) :: lR)) by
    obtain ⟨σ', e, p⟩ := hz
    exact ⟨σ', ⟨okr_v (by decide +kernel) oo_4 (by decide) (by rw [xx_4]; exact Nat.le_of_ble_eq_true rfl) rfl (h0.k (by decide) rfl), by rw [xx_4]; exact e⟩, p⟩
  refine z_up (fun w => e_aload_n d_4_0 rfl rfl) ?_
  refine z_up (fun w => e_obj d_4_1 (show callT (oM 4) 3 = some (4, 0, 0) by decide +kernel) (show 1 ≤ frM 4 ∧ 20 ≤ loM 4 by decide +kernel) ⟨Nat.le_of_ble_eq_true rfl, xx_4.symm⟩ rfl) ?_
  refine z_up (fun w => e_aload_n d_4_4 rfl rfl) ?_
  refine z_up (fun w => e_bipush d_4_5 cb_7 rfl) ?_
  refine z_arr (s := 7) h0 d_4_7 rfl (by decide) rfl rfl rfl (fun σ1 h1 => ?_)
  refine z_up (fun w => e_putR d_4_9 oo_4 pF_1_9 (by decide +kernel) (h1.k (by decide) rfl) rfl) ?_
  replace h1 := h1.uR (a := 38) (j := 5) (v := 39) (by decide)
  generalize uR (σ1) 38 5 (some 39) = σ1043 at h1 ⊢
  refine z_up (fun w => e_aload_n d_4_12 rfl rfl) ?_
  refine z_up (fun w => e_bipush d_4_13 cb_64 rfl) ?_
  refine z_arr (s := 64) h1 d_4_15 rfl (by decide) rfl rfl rfl (fun σ2 h2 => ?_)
  refine z_up (fun w => e_putR d_4_17 oo_4 pF_1_15 (by decide +kernel) (h2.k (by decide) rfl) rfl) ?_
  replace h2 := h2.uR (a := 38) (j := 6) (v := 40) (by decide)
  generalize uR (σ2) 38 6 (some 40) = σ1045 at h2 ⊢
  exact ⟨_, e_vret d_4_20 rr_4, h2⟩
theorem n_96_41 {X : Nat × (Nat → Int32)} {lI : List (Nat × Nat × Int32)} {lR : List (Nat × Nat × Nat)} {σ0 : Mm} (h0 : Mz X 42 lI lR σ0) : ∃ σ', Cl 96 [.ref 41] σ0 (none, σ') ∧ Mz X 49 (lI) ((41, 8, 48) :: (41, 7, 47) :: (41, 6, 46) :: (41, 5, 45) :: (41, 4, 44) :: (41, 3, 43) :: (41, 2, 42) :: lR) σ' := by
  suffices hz : Ez none 96 0 [.ref 41] [] σ0 (Mz X 49 (lI) ((41, 8, 48) :: (41, 7, 47) :: (41, 6, 46) :: (41, 5, 45) :: (41, 4, 44) :: (41, 3, 43) :: (41, 2, 42) :: lR)) by
    obtain ⟨σ', e, p⟩ := hz
    exact ⟨σ', ⟨okr_v (by decide +kernel) oo_96 (by decide) (by rw [xx_96]; exact Nat.le_of_ble_eq_true rfl) rfl (h0.k (by decide) rfl), by rw [xx_96]; exact e⟩, p⟩
  refine z_up (fun w => e_aload_n d_96_0 rfl rfl) ?_
  refine z_up (fun w => e_obj d_96_1 (show callT (oM 96) 3 = some (4, 0, 0) by decide +kernel) (show 1 ≤ frM 96 ∧ 20 ≤ loM 96 by decide +kernel) ⟨Nat.le_of_ble_eq_true rfl, xx_96.symm⟩ rfl) ?_
  refine z_up (fun w => e_aload_n d_96_4 rfl rfl) ?_
  refine z_up (fun w => e_bipush d_96_5 cb_20 rfl) ?_
  refine z_arr (s := 20) h0 d_96_7 rfl (by decide) rfl rfl rfl (fun σ1 h1 => ?_)
  refine z_up (fun w => e_putR d_96_9 oo_96 pF_7_9 (by decide +kernel) (h1.k (by decide) rfl) rfl) ?_
  replace h1 := h1.uR (a := 41) (j := 2) (v := 42) (by decide)
  generalize uR (σ1) 41 2 (some 42) = σ1046 at h1 ⊢
  refine z_up (fun w => e_aload_n d_96_12 rfl rfl) ?_
  refine z_up (fun w => e_bipush d_96_13 cb_20 rfl) ?_
  refine z_arr (s := 20) h1 d_96_15 rfl (by decide) rfl rfl rfl (fun σ2 h2 => ?_)
  refine z_up (fun w => e_putR d_96_17 oo_96 pF_7_15 (by decide +kernel) (h2.k (by decide) rfl) rfl) ?_
  replace h2 := h2.uR (a := 41) (j := 3) (v := 43) (by decide)
  generalize uR (σ2) 41 3 (some 43) = σ1048 at h2 ⊢
  refine z_up (fun w => e_aload_n d_96_20 rfl rfl) ?_
  refine z_up (fun w => e_bipush d_96_21 cb_20 rfl) ?_
  refine z_arr (s := 20) h2 d_96_23 rfl (by decide) rfl rfl rfl (fun σ3 h3 => ?_)
  refine z_up (fun w => e_putR d_96_25 oo_96 pF_7_18 (by decide +kernel) (h3.k (by decide) rfl) rfl) ?_
  replace h3 := h3.uR (a := 41) (j := 4) (v := 44) (by decide)
  generalize uR (σ3) 41 4 (some 44) = σ1050 at h3 ⊢
  refine z_up (fun w => e_aload_n d_96_28 rfl rfl) ?_
  refine z_up (fun w => e_bipush d_96_29 cb_20 rfl) ?_
  refine z_arr (s := 20) h3 d_96_31 rfl (by decide) rfl rfl rfl (fun σ4 h4 => ?_)
  refine z_up (fun w => e_putR d_96_33 oo_96 pF_7_21 (by decide +kernel) (h4.k (by decide) rfl) rfl) ?_
  replace h4 := h4.uR (a := 41) (j := 5) (v := 45) (by decide)
  generalize uR (σ4) 41 5 (some 45) = σ1052 at h4 ⊢
  refine z_up (fun w => e_aload_n d_96_36 rfl rfl) ?_
  refine z_up (fun w => e_bipush d_96_37 cb_20 rfl) ?_
  refine z_arr (s := 20) h4 d_96_39 rfl (by decide) rfl rfl rfl (fun σ5 h5 => ?_)
  refine z_up (fun w => e_putR d_96_41 oo_96 pF_7_24 (by decide +kernel) (h5.k (by decide) rfl) rfl) ?_
  replace h5 := h5.uR (a := 41) (j := 6) (v := 46) (by decide)
  generalize uR (σ5) 41 6 (some 46) = σ1054 at h5 ⊢
  refine z_up (fun w => e_aload_n d_96_44 rfl rfl) ?_
  refine z_up (fun w => e_bipush d_96_45 cb_20 rfl) ?_
  refine z_arr (s := 20) h5 d_96_47 rfl (by decide) rfl rfl rfl (fun σ6 h6 => ?_)
  refine z_up (fun w => e_putR d_96_49 oo_96 pF_7_27 (by decide +kernel) (h6.k (by decide) rfl) rfl) ?_
  replace h6 := h6.uR (a := 41) (j := 7) (v := 47) (by decide)
  generalize uR (σ6) 41 7 (some 47) = σ1056 at h6 ⊢
  refine z_up (fun w => e_aload_n d_96_52 rfl rfl) ?_
  refine z_up (fun w => e_bipush d_96_53 cb_20 rfl) ?_
  refine z_arr (s := 20) h6 d_96_55 rfl (by decide) rfl rfl rfl (fun σ7 h7 => ?_)
  refine z_up (fun w => e_putR d_96_57 oo_96 pF_7_30 (by decide +kernel) (h7.k (by decide) rfl) rfl) ?_
  replace h7 := h7.uR (a := 41) (j := 8) (v := 48) (by decide)
  generalize uR (σ7) 41 8 (some 48) = σ1058 at h7 ⊢
  exact ⟨_, e_vret d_96_60 rr_96, h7⟩
theorem n_26_49 {X : Nat × (Nat → Int32)} {lI : List (Nat × Nat × Int32)} {lR : List (Nat × Nat × Nat)} {σ0 : Mm} (h0 : Mz X 50 lI lR σ0) : ∃ σ', Cl 26 [.ref 49] σ0 (none, σ') ∧ Mz X 53 ((49, 1, (-1)) :: lI) ((49, 12, 52) :: (49, 11, 51) :: (49, 10, 50) :: lR) σ' := by
  suffices hz : Ez none 26 0 [.ref 49] [] σ0 (Mz X 53 ((49, 1, (-1)) :: lI) ((49, 12, 52) :: (49, 11, 51) :: (49, 10, 50) :: lR)) by
    obtain ⟨σ', e, p⟩ := hz
    exact ⟨σ', ⟨okr_v (by decide +kernel) oo_26 (by decide) (by rw [xx_26]; exact Nat.le_of_ble_eq_true rfl) rfl (h0.k (by decide) rfl), by rw [xx_26]; exact e⟩, p⟩
  refine z_up (fun w => e_aload_n d_26_0 rfl rfl) ?_
  refine z_up (fun w => e_obj d_26_1 (show callT (oM 26) 3 = some (4, 0, 0) by decide +kernel) (show 1 ≤ frM 26 ∧ 20 ≤ loM 26 by decide +kernel) ⟨Nat.le_of_ble_eq_true rfl, xx_26.symm⟩ rfl) ?_
  refine z_up (fun w => e_aload_n d_26_4 rfl rfl) ?_
  refine z_up (fun w => e_bipush d_26_5 cb_24 rfl) ?_
  refine z_arr (s := 24) h0 d_26_7 rfl (by decide) rfl rfl rfl (fun σ1 h1 => ?_)
  refine z_up (fun w => e_putR d_26_9 oo_26 pF_3_9 (by decide +kernel) (h1.k (by decide) rfl) rfl) ?_
  replace h1 := h1.uR (a := 49) (j := 10) (v := 50) (by decide)
  generalize uR (σ1) 49 10 (some 50) = σ1054 at h1 ⊢
  refine z_up (fun w => e_aload_n d_26_12 rfl rfl) ?_
  refine z_up (fun w => e_bipush d_26_13 cb_24 rfl) ?_
  refine z_arr (s := 24) h1 d_26_15 rfl (by decide) rfl rfl rfl (fun σ2 h2 => ?_)
  refine z_up (fun w => e_putR d_26_17 oo_26 pF_3_15 (by decide +kernel) (h2.k (by decide) rfl) rfl) ?_
  replace h2 := h2.uR (a := 49) (j := 11) (v := 51) (by decide)
  generalize uR (σ2) 49 11 (some 51) = σ1056 at h2 ⊢
  refine z_up (fun w => e_aload_n d_26_20 rfl rfl) ?_
  refine z_up (fun w => e_bipush d_26_21 cb_24 rfl) ?_
  refine z_arr (s := 24) h2 d_26_23 rfl (by decide) rfl rfl rfl (fun σ3 h3 => ?_)
  refine z_up (fun w => e_putR d_26_25 oo_26 pF_3_18 (by decide +kernel) (h3.k (by decide) rfl) rfl) ?_
  replace h3 := h3.uR (a := 49) (j := 12) (v := 52) (by decide)
  generalize uR (σ3) 49 12 (some 52) = σ1058 at h3 ⊢
  refine z_up (fun w => e_aload_n d_26_28 rfl rfl) ?_
  refine z_up (fun w => e_iconst d_26_29 ci_m1 rfl) ?_
  refine z_up (fun w => e_putI d_26_30 oo_26 pF_3_22 (Or.inl rfl) (h3.k (by decide) rfl) rfl) ?_
  replace h3 := h3.uI (a := 49) (j := 1) (v := (-1)) (by decide)
  generalize uI (σ1058) 49 1 (-1) = σ1059 at h3 ⊢
  exact ⟨_, e_vret d_26_33 rr_26, h3⟩
theorem n_70_53 {X : Nat × (Nat → Int32)} {lI : List (Nat × Nat × Int32)} {lR : List (Nat × Nat × Nat)} {σ0 : Mm} (h0 : Mz X 54 lI lR σ0) : ∃ σ', Cl 70 [.ref 53] σ0 (none, σ') ∧ Mz X 56 ((53, 0, 1) :: lI) ((53, 3, 55) :: (53, 1, 54) :: lR) σ' := by
  suffices hz : Ez none 70 0 [.ref 53] [] σ0 (Mz X 56 ((53, 0, 1) :: lI) ((53, 3, 55) :: (53, 1, 54) :: lR)) by
    obtain ⟨σ', e, p⟩ := hz
    exact ⟨σ', ⟨okr_v (by decide +kernel) oo_70 (by decide) (by rw [xx_70]; exact Nat.le_of_ble_eq_true rfl) rfl (h0.k (by decide) rfl), by rw [xx_70]; exact e⟩, p⟩
  refine z_up (fun w => e_aload_n d_70_0 rfl rfl) ?_
  refine z_up (fun w => e_obj d_70_1 (show callT (oM 70) 3 = some (4, 0, 0) by decide +kernel) (show 1 ≤ frM 70 ∧ 20 ≤ loM 70 by decide +kernel) ⟨Nat.le_of_ble_eq_true rfl, xx_70.symm⟩ rfl) ?_
  refine z_up (fun w => e_aload_n d_70_4 rfl rfl) ?_
  refine z_up (fun w => e_sipush d_70_5 cs_1024 rfl) ?_
  refine z_arr (s := 1024) h0 d_70_8 rfl (by decide) rfl rfl rfl (fun σ1 h1 => ?_)
  refine z_up (fun w => e_putR d_70_10 oo_70 pF_5_9 (by decide +kernel) (h1.k (by decide) rfl) rfl) ?_
  replace h1 := h1.uR (a := 53) (j := 1) (v := 54) (by decide)
  generalize uR (σ1) 53 1 (some 54) = σ1059 at h1 ⊢
  refine z_up (fun w => e_aload_n d_70_13 rfl rfl) ?_
  refine z_up (fun w => e_sipush d_70_14 cs_1024 rfl) ?_
  refine z_arr (s := 1024) h1 d_70_17 rfl (by decide) rfl rfl rfl (fun σ2 h2 => ?_)
  refine z_up (fun w => e_putR d_70_19 oo_70 pF_5_15 (by decide +kernel) (h2.k (by decide) rfl) rfl) ?_
  replace h2 := h2.uR (a := 53) (j := 3) (v := 55) (by decide)
  generalize uR (σ2) 53 3 (some 55) = σ1061 at h2 ⊢
  refine z_up (fun w => e_aload_n d_70_22 rfl rfl) ?_
  refine z_up (fun w => e_iconst d_70_23 ci_1 rfl) ?_
  refine z_up (fun w => e_putI d_70_24 oo_70 pF_5_18 (Or.inl rfl) (h2.k (by decide) rfl) rfl) ?_
  replace h2 := h2.uI (a := 53) (j := 0) (v := 1) (by decide)
  generalize uI (σ1061) 53 0 1 = σ1062 at h2 ⊢
  exact ⟨_, e_vret d_70_27 rr_70, h2⟩
theorem n_0_56 {X : Nat × (Nat → Int32)} {lI : List (Nat × Nat × Int32)} {lR : List (Nat × Nat × Nat)} {σ0 : Mm} (h0 : Mz X 57 lI lR σ0) : ∃ σ', Cl 0 [.ref 56] σ0 (none, σ') ∧ Mz X 59 (lI) ((56, 1, 58) :: (56, 0, 57) :: lR) σ' := by
  suffices hz : Ez none 0 0 [.ref 56] [] σ0 (Mz X 59 (lI) ((56, 1, 58) :: (56, 0, 57) :: lR)) by
    obtain ⟨σ', e, p⟩ := hz
    exact ⟨σ', ⟨okr_v (by decide +kernel) oo_0 (by decide) (by rw [xx_0]; exact Nat.le_of_ble_eq_true rfl) rfl (h0.k (by decide) rfl), by rw [xx_0]; exact e⟩, p⟩
  refine z_up (fun w => e_aload_n d_0_0 rfl rfl) ?_
  refine z_up (fun w => e_obj d_0_1 (show callT (oM 0) 3 = some (4, 0, 0) by decide +kernel) (show 1 ≤ frM 0 ∧ 20 ≤ loM 0 by decide +kernel) ⟨Nat.le_of_ble_eq_true rfl, xx_0.symm⟩ rfl) ?_
  refine z_up (fun w => e_aload_n d_0_4 rfl rfl) ?_
  refine z_up (fun w => e_bipush d_0_5 cb_14 rfl) ?_
  refine z_arr (s := 14) h0 d_0_7 rfl (by decide) rfl rfl rfl (fun σ1 h1 => ?_)
  refine z_up (fun w => e_putR d_0_9 oo_0 pF_0_9 (by decide +kernel) (h1.k (by decide) rfl) rfl) ?_
  replace h1 := h1.uR (a := 56) (j := 0) (v := 57) (by decide)
  generalize uR (σ1) 56 0 (some 57) = σ1063 at h1 ⊢
  refine z_up (fun w => e_aload_n d_0_12 rfl rfl) ?_
  refine z_up (fun w => e_bipush d_0_13 cb_14 rfl) ?_
  refine z_arr (s := 14) h1 d_0_15 rfl (by decide) rfl rfl rfl (fun σ2 h2 => ?_)
  refine z_up (fun w => e_putR d_0_17 oo_0 pF_0_15 (by decide +kernel) (h2.k (by decide) rfl) rfl) ?_
  replace h2 := h2.uR (a := 56) (j := 1) (v := 58) (by decide)
  generalize uR (σ2) 56 1 (some 58) = σ1065 at h2 ⊢
  exact ⟨_, e_vret d_0_20 rr_0, h2⟩
theorem n_100_0 {X : Nat × (Nat → Int32)} {lI : List (Nat × Nat × Int32)} {lR : List (Nat × Nat × Nat)} {σ0 : Mm} (h0 : Mz X 1 lI lR σ0) : ∃ σ', Cl 100 [.ref 0] σ0 (none, σ') ∧ Mz X 59 ((0, 5, 0) :: (53, 0, 1) :: (49, 1, (-1)) :: (15, 6, (-1)) :: (15, 5, (-1)) :: (1, 1, (-1)) :: (3, 6, (-1)) :: (3, 5, (-1)) :: lI) ((0, 10, 56) :: (56, 1, 58) :: (56, 0, 57) :: (0, 9, 53) :: (53, 3, 55) :: (53, 1, 54) :: (0, 8, 49) :: (49, 12, 52) :: (49, 11, 51) :: (49, 10, 50) :: (0, 7, 41) :: (41, 8, 48) :: (41, 7, 47) :: (41, 6, 46) :: (41, 5, 45) :: (41, 4, 44) :: (41, 3, 43) :: (41, 2, 42) :: (0, 6, 38) :: (38, 6, 40) :: (38, 5, 39) :: (0, 4, 34) :: (34, 9, 37) :: (34, 8, 36) :: (34, 7, 35) :: (0, 3, 30) :: (30, 9, 33) :: (30, 8, 32) :: (30, 7, 31) :: (0, 2, 26) :: (26, 9, 29) :: (26, 8, 28) :: (26, 7, 27) :: (0, 1, 15) :: (15, 17, 25) :: (15, 16, 24) :: (15, 15, 23) :: (15, 14, 22) :: (15, 13, 21) :: (15, 12, 20) :: (15, 11, 19) :: (15, 10, 18) :: (15, 9, 17) :: (15, 8, 16) :: (0, 0, 1) :: (1, 11, 14) :: (1, 9, 3) :: (3, 17, 13) :: (3, 16, 12) :: (3, 15, 11) :: (3, 14, 10) :: (3, 13, 9) :: (3, 12, 8) :: (3, 11, 7) :: (3, 10, 6) :: (3, 9, 5) :: (3, 8, 4) :: (1, 3, 2) :: lR) σ' := by
  suffices hz : Ez none 100 0 [.ref 0] [] σ0 (Mz X 59 ((0, 5, 0) :: (53, 0, 1) :: (49, 1, (-1)) :: (15, 6, (-1)) :: (15, 5, (-1)) :: (1, 1, (-1)) :: (3, 6, (-1)) :: (3, 5, (-1)) :: lI) ((0, 10, 56) :: (56, 1, 58) :: (56, 0, 57) :: (0, 9, 53) :: (53, 3, 55) :: (53, 1, 54) :: (0, 8, 49) :: (49, 12, 52) :: (49, 11, 51) :: (49, 10, 50) :: (0, 7, 41) :: (41, 8, 48) :: (41, 7, 47) :: (41, 6, 46) :: (41, 5, 45) :: (41, 4, 44) :: (41, 3, 43) :: (41, 2, 42) :: (0, 6, 38) :: (38, 6, 40) :: (38, 5, 39) :: (0, 4, 34) :: (34, 9, 37) :: (34, 8, 36) :: (34, 7, 35) :: (0, 3, 30) :: (30, 9, 33) :: (30, 8, 32) :: (30, 7, 31) :: (0, 2, 26) :: (26, 9, 29) :: (26, 8, 28) :: (26, 7, 27) :: (0, 1, 15) :: (15, 17, 25) :: (15, 16, 24) :: (15, 15, 23) :: (15, 14, 22) :: (15, 13, 21) :: (15, 12, 20) :: (15, 11, 19) :: (15, 10, 18) :: (15, 9, 17) :: (15, 8, 16) :: (0, 0, 1) :: (1, 11, 14) :: (1, 9, 3) :: (3, 17, 13) :: (3, 16, 12) :: (3, 15, 11) :: (3, 14, 10) :: (3, 13, 9) :: (3, 12, 8) :: (3, 11, 7) :: (3, 10, 6) :: (3, 9, 5) :: (3, 8, 4) :: (1, 3, 2) :: lR)) by
    obtain ⟨σ', e, p⟩ := hz
    exact ⟨σ', ⟨okr_v (by decide +kernel) oo_100 (by decide) (by rw [xx_100]; exact Nat.le_of_ble_eq_true rfl) rfl (h0.k (by decide) rfl), by rw [xx_100]; exact e⟩, p⟩
  refine z_up (fun w => e_aload_n d_100_0 rfl rfl) ?_
  refine z_up (fun w => e_obj d_100_1 (show callT (oM 100) 5 = some (4, 0, 0) by decide +kernel) (show 1 ≤ frM 100 ∧ 20 ≤ loM 100 by decide +kernel) ⟨Nat.le_of_ble_eq_true rfl, xx_100.symm⟩ rfl) ?_
  refine z_up (fun w => e_aload_n d_100_4 rfl rfl) ?_
  refine z_new h0 d_100_5 oo_100 pN_8_11 rfl rfl (fun σ1 h1 => ?_)
  refine z_up (fun w => e_dup d_100_8 rfl rfl) ?_
  refine z_call d_100_9 kc_100_9 (by decide) rfl ⟨Nat.le_of_ble_eq_true rfl, xx_100.symm⟩ rfl (n_35_1 h1) (fun σ2 h2 => ?_)
  refine z_up (fun w => e_putR d_100_12 oo_100 pF_8_14 (by decide +kernel) (h2.k (by decide) rfl) rfl) ?_
  replace h2 := h2.uR (a := 0) (j := 0) (v := 1) (by decide)
  generalize uR (σ2) 0 0 (some 1) = σ1018 at h2 ⊢
  refine z_up (fun w => e_aload_n d_100_15 rfl rfl) ?_
  refine z_new h2 d_100_16 oo_100 pN_8_18 rfl rfl (fun σ3 h3 => ?_)
  refine z_up (fun w => e_dup d_100_19 rfl rfl) ?_
  refine z_call d_100_20 kc_100_20 (by decide) rfl ⟨Nat.le_of_ble_eq_true rfl, xx_100.symm⟩ rfl (n_87_15 h3) (fun σ4 h4 => ?_)
  refine z_up (fun w => e_putR d_100_23 oo_100 pF_8_21 (Or.inl rfl) (h4.k (by decide) rfl) rfl) ?_
  replace h4 := h4.uR (a := 0) (j := 1) (v := 15) (by decide)
  generalize uR (σ4) 0 1 (some 15) = σ1033 at h4 ⊢
  refine z_up (fun w => e_aload_n d_100_26 rfl rfl) ?_
  refine z_new h4 d_100_27 oo_100 pN_8_25 rfl rfl (fun σ5 h5 => ?_)
  refine z_up (fun w => e_dup d_100_30 rfl rfl) ?_
  refine z_call d_100_31 kc_100_31 (by decide) rfl ⟨Nat.le_of_ble_eq_true rfl, xx_100.symm⟩ rfl (n_17_26 h5) (fun σ6 h6 => ?_)
  refine z_up (fun w => e_putR d_100_34 oo_100 pF_8_28 (by decide +kernel) (h6.k (by decide) rfl) rfl) ?_
  replace h6 := h6.uR (a := 0) (j := 2) (v := 26) (by decide)
  generalize uR (σ6) 0 2 (some 26) = σ1039 at h6 ⊢
  refine z_up (fun w => e_aload_n d_100_37 rfl rfl) ?_
  refine z_new h6 d_100_38 oo_100 pN_8_25 rfl rfl (fun σ7 h7 => ?_)
  refine z_up (fun w => e_dup d_100_41 rfl rfl) ?_
  refine z_call d_100_42 kc_100_42 (by decide) rfl ⟨Nat.le_of_ble_eq_true rfl, xx_100.symm⟩ rfl (n_17_30 h7) (fun σ8 h8 => ?_)
  refine z_up (fun w => e_putR d_100_45 oo_100 pF_8_32 (by decide +kernel) (h8.k (by decide) rfl) rfl) ?_
  replace h8 := h8.uR (a := 0) (j := 3) (v := 30) (by decide)
  generalize uR (σ8) 0 3 (some 30) = σ1045 at h8 ⊢
  refine z_up (fun w => e_aload_n d_100_48 rfl rfl) ?_
  refine z_new h8 d_100_49 oo_100 pN_8_25 rfl rfl (fun σ9 h9 => ?_)
  refine z_up (fun w => e_dup d_100_52 rfl rfl) ?_
  refine z_call d_100_53 kc_100_53 (by decide) rfl ⟨Nat.le_of_ble_eq_true rfl, xx_100.symm⟩ rfl (n_17_34 h9) (fun σ10 h10 => ?_)
  refine z_up (fun w => e_putR d_100_56 oo_100 pF_8_35 (by decide +kernel) (h10.k (by decide) rfl) rfl) ?_
  replace h10 := h10.uR (a := 0) (j := 4) (v := 34) (by decide)
  generalize uR (σ10) 0 4 (some 34) = σ1051 at h10 ⊢
  refine z_up (fun w => e_aload_n d_100_59 rfl rfl) ?_
  refine z_new h10 d_100_60 oo_100 pN_8_38 rfl rfl (fun σ11 h11 => ?_)
  refine z_up (fun w => e_dup d_100_63 rfl rfl) ?_
  refine z_call d_100_64 kc_100_64 (by decide) rfl ⟨Nat.le_of_ble_eq_true rfl, xx_100.symm⟩ rfl (n_4_38 h11) (fun σ12 h12 => ?_)
  refine z_up (fun w => e_putR d_100_67 oo_100 pF_8_41 (by decide +kernel) (h12.k (by decide) rfl) rfl) ?_
  replace h12 := h12.uR (a := 0) (j := 6) (v := 38) (by decide)
  generalize uR (σ12) 0 6 (some 38) = σ1056 at h12 ⊢
  refine z_up (fun w => e_aload_n d_100_70 rfl rfl) ?_
  refine z_new h12 d_100_71 oo_100 pN_8_45 rfl rfl (fun σ13 h13 => ?_)
  refine z_up (fun w => e_dup d_100_74 rfl rfl) ?_
  refine z_call d_100_75 kc_100_75 (by decide) rfl ⟨Nat.le_of_ble_eq_true rfl, xx_100.symm⟩ rfl (n_96_41 h13) (fun σ14 h14 => ?_)
  refine z_up (fun w => e_putR d_100_78 oo_100 pF_8_48 (by decide +kernel) (h14.k (by decide) rfl) rfl) ?_
  replace h14 := h14.uR (a := 0) (j := 7) (v := 41) (by decide)
  generalize uR (σ14) 0 7 (some 41) = σ1066 at h14 ⊢
  refine z_up (fun w => e_aload_n d_100_81 rfl rfl) ?_
  refine z_new h14 d_100_82 oo_100 pN_8_52 rfl rfl (fun σ15 h15 => ?_)
  refine z_up (fun w => e_dup d_100_85 rfl rfl) ?_
  refine z_call d_100_86 kc_100_86 (by decide) rfl ⟨Nat.le_of_ble_eq_true rfl, xx_100.symm⟩ rfl (n_26_49 h15) (fun σ16 h16 => ?_)
  refine z_up (fun w => e_putR d_100_89 oo_100 pF_8_55 (by decide +kernel) (h16.k (by decide) rfl) rfl) ?_
  replace h16 := h16.uR (a := 0) (j := 8) (v := 49) (by decide)
  generalize uR (σ16) 0 8 (some 49) = σ1073 at h16 ⊢
  refine z_up (fun w => e_aload_n d_100_92 rfl rfl) ?_
  refine z_new h16 d_100_93 oo_100 pN_8_59 rfl rfl (fun σ17 h17 => ?_)
  refine z_up (fun w => e_dup d_100_96 rfl rfl) ?_
  refine z_call d_100_97 kc_100_97 (by decide) rfl ⟨Nat.le_of_ble_eq_true rfl, xx_100.symm⟩ rfl (n_70_53 h17) (fun σ18 h18 => ?_)
  refine z_up (fun w => e_putR d_100_100 oo_100 pF_8_62 (by decide +kernel) (h18.k (by decide) rfl) rfl) ?_
  replace h18 := h18.uR (a := 0) (j := 9) (v := 53) (by decide)
  generalize uR (σ18) 0 9 (some 53) = σ1079 at h18 ⊢
  refine z_up (fun w => e_aload_n d_100_103 rfl rfl) ?_
  refine z_new h18 d_100_104 oo_100 pN_8_66 rfl rfl (fun σ19 h19 => ?_)
  refine z_up (fun w => e_dup d_100_107 rfl rfl) ?_
  refine z_call d_100_108 kc_100_108 (by decide) rfl ⟨Nat.le_of_ble_eq_true rfl, xx_100.symm⟩ rfl (n_0_56 h19) (fun σ20 h20 => ?_)
  refine z_up (fun w => e_putR d_100_111 oo_100 pF_8_69 (by decide +kernel) (h20.k (by decide) rfl) rfl) ?_
  replace h20 := h20.uR (a := 0) (j := 10) (v := 56) (by decide)
  generalize uR (σ20) 0 10 (some 56) = σ1084 at h20 ⊢
  refine z_up (fun w => e_aload_n d_100_114 rfl rfl) ?_
  refine z_up (fun w => e_iconst d_100_115 ci_0 rfl) ?_
  refine z_up (fun w => e_putZ d_100_116 oo_100 pF_8_73 (Or.inl rfl) (h20.k (by decide) rfl) (by decide) rfl) ?_
  replace h20 := h20.uI (a := 0) (j := 5) (v := 0) (by decide)
  generalize uI (σ1084) 0 5 0 = σ1085 at h20 ⊢
  exact ⟨_, e_vret d_100_119 rr_100, h20⟩
