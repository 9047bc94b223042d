/-! ===== a sum is read, second side: values, signs ===== -/
def EM (σ : Mm) (D : Nat → Nat → Nat) (W R : List Nat) (c o : Nat) (w mn : Bool) : Prop := (mI σ 59 43 = nI c ∧ mI σ 59 40 = nI W.length ∧ mI σ 59 42 = nI o) ∧ WMt σ W ∧ EB σ D R ∧ mI σ 59 44 = (if w = true then 1 else 0) ∧ mI σ 59 45 = (if mn = true then 1 else 0)
def Ws1 (x i : Nat) : Prop := (x = 59 ∧ ((7 ≤ i ∧ i ≤ 10) ∨ i = 21 ∨ (40 ≤ i ∧ i ≤ 45))) ∨ (75 ≤ x ∧ x ≤ 77 ∧ 64 ≤ i) ∨ x = 78 ∨ x = 79
def Ws0 (x i : Nat) : Prop := (x = 59 ∧ (i = 4 ∨ i = 5)) ∨ Ws1 x i
theorem ws_b {x i : Nat} (h : Wb1 x i) : Ws1 x i := by unfold Wb1 at h; unfold Ws1; omega
theorem ws_z {x i : Nat} (h : Wz x i) : Ws1 x i := by unfold Wz at h; unfold Ws1; omega
def OutM (r : (Nat × Nat) ⊕ Xs) (B : Nat → Nat) (n j : Nat) (σ : Mm) : Prop := (∀ e, r = .inl e → ∃ σ', Cl j [.ref 59] σ (some (.int 0), σ') ∧ Fr Ws0 σ σ' ∧ MF e σ') ∧ (∀ y : Xs, r = .inr y → ∃ σ', Cl j [.ref 59] σ (some (.int 1), σ') ∧ Fr Ws1 σ σ' ∧ EM σ' y.2.1 y.2.2.1 y.2.2.2.1 y.2.2.2.2.1 y.2.2.2.2.2.1 y.2.2.2.2.2.2.1 y.2.2.2.2.2.2.2 ∧ MC σ' B n y.1)
theorem OutM.no {r : (Nat × Nat) ⊕ Xs} {B : Nat → Nat} {n j : Nat} {σ : Mm} {e : Nat × Nat} (h : r = .inl e) (g : ∃ σ', Cl j [.ref 59] σ (some (.int 0), σ') ∧ Fr Ws0 σ σ' ∧ MF e σ') : OutM r B n j σ := by
  subst h
  refine ⟨fun e' h => ?_, fun y h => (by cases h)⟩
  injection h with h
  subst h
  exact g
theorem OutM.yes {r : (Nat × Nat) ⊕ Xs} {B : Nat → Nat} {n j : Nat} {σ : Mm} {p : Nat} {D : Nat → Nat → Nat} {W R : List Nat} {c o : Nat} {w mn : Bool} (h : r = .inr (p, D, W, R, c, o, w, mn)) (g : ∃ σ', Cl j [.ref 59] σ (some (.int 1), σ') ∧ Fr Ws1 σ σ' ∧ EM σ' D W R c o w mn ∧ MC σ' B n p) : OutM r B n j σ := by
  subst h
  refine ⟨fun e' h => (by cases h), fun y h => ?_⟩
  injection h with h
  subst h
  exact g
section ExM2
variable {t n : Nat} {σ : Mm} {D : Nat → Nat → Nat} {W R : List Nat} {c o : Nat} {w mn : Bool} {B : Nat → Nat}
theorem EB.cg {σ' : Mm} (h : EB σ D R) (r : ∀ x i, ((x = 59 ∧ (i = 41 ∨ i = 21)) ∨ (75 ≤ x ∧ x ≤ 77) ∨ x = 79) → mI σ' x i = mI σ x i) : EB σ' D R := by
  obtain ⟨⟨h1, h2⟩, h3, h4⟩ := h
  refine ⟨⟨(r 59 41 (by omega)).trans h1, (r 59 21 (by omega)).trans h2⟩, HSt.fr (fun i => r 79 i (by omega)) h3, fun i hi => ?_⟩
  rw [r 75 (64 + i) (by omega), r 76 (64 + i) (by omega), r 77 (64 + i) (by omega)]
  exact h4 i hi
theorem EM.fz {σ' : Mm} (h : EM σ D W R c o w mn) (hf : Fr Wz σ σ') : EM σ' D W R c o w mn := by
  have r : ∀ x i, ¬ Wz x i → mI σ' x i = mI σ x i := fun x i h => (hf.1 x i h).1
  obtain ⟨⟨h1, h2, h3⟩, h4, h5, h6, h7⟩ := h
  exact ⟨⟨(r 59 43 (by unfold Wz; omega)).trans h1, (r 59 40 (by unfold Wz; omega)).trans h2, (r 59 42 (by unfold Wz; omega)).trans h3⟩, WMt.fr (fun i => r 78 i (by unfold Wz; omega)) h4, h5.cg (fun x i h => r x i (by unfold Wz; omega)), (r 59 44 (by unfold Wz; omega)).trans h6, (r 59 45 (by unfold Wz; omega)).trans h7⟩
theorem EM.setc {c' : Nat} (h : EM σ D W R c o w mn) : EM (uI σ 59 43 (nI c')) D W R c' o w mn := by
  obtain ⟨⟨h1, h2, h3⟩, h4, h5, h6, h7⟩ := h
  exact ⟨⟨mI_s, by rw [mI_n (by omega)]; exact h2, by rw [mI_n (by omega)]; exact h3⟩, WMt.fr (fun i => mI_n (by omega)) h4, h5.cg (fun x i h => mI_n (by omega)), by rw [mI_n (by omega)]; exact h6, by rw [mI_n (by omega)]; exact h7⟩
theorem EM.seto {o' : Nat} (h : EM σ D W R c o w mn) : EM (uI σ 59 42 (nI o')) D W R c o' w mn := by
  obtain ⟨⟨h1, h2, h3⟩, h4, h5, h6, h7⟩ := h
  exact ⟨⟨by rw [mI_n (by omega)]; exact h1, by rw [mI_n (by omega)]; exact h2, mI_s⟩, WMt.fr (fun i => mI_n (by omega)) h4, h5.cg (fun x i h => mI_n (by omega)), by rw [mI_n (by omega)]; exact h6, by rw [mI_n (by omega)]; exact h7⟩
theorem EM.setw {w' : Bool} {v : Int32} (h : EM σ D W R c o w mn) (hv : v = (if w' = true then 1 else 0)) : EM (uI σ 59 44 v) D W R c o w' mn := by
  obtain ⟨⟨h1, h2, h3⟩, h4, h5, h6, h7⟩ := h
  exact ⟨⟨by rw [mI_n (by omega)]; exact h1, by rw [mI_n (by omega)]; exact h2, by rw [mI_n (by omega)]; exact h3⟩, WMt.fr (fun i => mI_n (by omega)) h4, h5.cg (fun x i h => mI_n (by omega)), by rw [mI_s, hv], by rw [mI_n (by omega)]; exact h7⟩
theorem EM.setm {m' : Bool} {v : Int32} (h : EM σ D W R c o w mn) (hv : v = (if m' = true then 1 else 0)) : EM (uI σ 59 45 v) D W R c o w m' := by
  obtain ⟨⟨h1, h2, h3⟩, h4, h5, h6, h7⟩ := h
  exact ⟨⟨by rw [mI_n (by omega)]; exact h1, by rw [mI_n (by omega)]; exact h2, by rw [mI_n (by omega)]; exact h3⟩, WMt.fr (fun i => mI_n (by omega)) h4, h5.cg (fun x i h => mI_n (by omega)), by rw [mI_n (by omega)]; exact h6, by rw [mI_s, hv]⟩
theorem EM.push {k : Nat} {v : Int32} (h : EM σ D W R c o w mn) (hk : nI k = v) : EM (uI (uI σ 78 W.length v) 59 40 (nI (W.length + 1))) D (k :: W) R c o w mn := by
  obtain ⟨⟨h1, h2, h3⟩, h4, h5, h6, h7⟩ := h
  exact ⟨⟨by rw [mI_n (by omega), mI_n (by omega)]; exact h1, mI_s, by rw [mI_n (by omega), mI_n (by omega)]; exact h3⟩, ⟨by rw [mI_n (by omega), mI_s, hk], WMt.fr (fun i => mI_n (by omega)) (h4.push (Nat.le_refl _))⟩, h5.cg (fun x i h => by rw [mI_n (by omega), mI_n (by omega)]), by rw [mI_n (by omega), mI_n (by omega)]; exact h6, by rw [mI_n (by omega), mI_n (by omega)]; exact h7⟩
/-- knots grew, what waits is less -/
theorem EM.bnd {σ' : Mm} {D' : Nat → Nat → Nat} {W' R' : List Nat} (h : EM σ D W R c o w mn) (hf : Fr Wb1 σ σ') (h40 : mI σ' 59 40 = nI W'.length) (hW : ∃ V, W = V ++ W') (hE : EB σ' D' R') : EM σ' D' W' R' c o w mn := by
  have r : ∀ x i, ¬ Wb1 x i → mI σ' x i = mI σ x i := fun x i h => (hf.1 x i h).1
  obtain ⟨⟨h1, h2, h3⟩, h4, h5, h6, h7⟩ := h
  obtain ⟨V, eV⟩ := hW
  rw [eV] at h4
  exact ⟨⟨(r 59 43 (by unfold Wb1; omega)).trans h1, h40, (r 59 42 (by unfold Wb1; omega)).trans h3⟩, WMt.fr (fun i => r 78 i (by unfold Wb1; omega)) h4.suf, hE, (r 59 44 (by unfold Wb1; omega)).trans h6, (r 59 45 (by unfold Wb1; omega)).trans h7⟩
theorem MC.cg {σ' : Mm} {p : Nat} (h : MC σ B n p) (r : ∀ i, 7 ≤ i → i ≤ 10 → mI σ' 59 i = mI σ 59 i) : MC σ' B n p := by
  obtain ⟨h1, h2, h3⟩ := h
  refine ⟨(r 7 (by omega) (by omega)).trans h1, (r 10 (by omega) (by omega)).trans h2, ?_⟩
  rw [r 8 (by omega) (by omega), r 9 (by omega) (by omega)]
  exact h3
theorem RM.fs {σ' : Mm} (h : RM σ B n) (hf : Fr Ws1 σ σ') : RM σ' B n := h.fr hf (fun x i h z => by unfold Ws1 at z; omega)
theorem c_162 {p ch k0 : Nat} (hS : Sg t σ) (hM : MC σ B n p) (h31 : 31 ≤ k0) (h43 : k0 ≤ 43) (hC : smC k0 = false) (hW : smW k0 = ch) : Cl 162 [.ref 59, .int (nI ch)] σ (some (.int (if decide (tK B n p = k0) = true then 1 else 0)), σ) := by
  have hT := hM.2.2.s4 h31 h43 hC hW
  refine ck_162 hS (b_162_0 hS ⟨fun a => ⟨fun b => ?_, fun b => ?_⟩, fun a => ?_⟩)
  · rw [decide_eq_true (hT.mp ⟨a, b⟩), if_pos rfl]
  · rw [decide_eq_false (fun z => b (hT.mpr z).2)]; rfl
  · rw [decide_eq_false (fun z => a (hT.mpr z).1)]; rfl
theorem c_161 {p m k0 : Nat} (hS : Sg t σ) (hM : MC σ B n p) (hm : m ≤ 20) (hk : 10 + wx m = k0) : Cl 161 [.ref 59, .int (nI m)] σ (some (.int (if decide (tK B n p = k0) = true then 1 else 0)), σ) := by
  have hT := hM.2.2.k1 hm
  rw [hk] at hT
  refine ck_161 hS (b_161_0 hS ⟨fun a => ⟨fun b => ?_, fun b => ?_⟩, fun a => ?_⟩)
  · rw [decide_eq_true (hT.mp ⟨a, b⟩), if_pos rfl]
  · rw [decide_eq_false (fun z => b (hT.mpr z).2)]; rfl
  · rw [decide_eq_false (fun z => a (hT.mpr z).1)]; rfl
theorem c_187 {p : Nat} (hS : Sg t σ) (hM : MC σ B n p) : Cl 187 [.ref 59] σ (some (.int (if 24 ≤ tK B n p ∧ tK B n p ≤ 30 then nI (tK B n p - 24) else -1)), σ) := by
  have hT := hM.2.2
  refine ck_187 hS (b_187_0 hS (w_p hT.n1 (fun a => ?_) (fun a => ?_)))
  · have e := hT.w1 a.1 a.2
    obtain ⟨w1, w2, w3, _, _, w6⟩ := wx_tab (tK B n p - 10) (by omega)
    rw [e]
    by_cases g : 24 ≤ tK B n p
    · have e2 := w3 (by omega)
      rw [if_pos ⟨g, a.2⟩, e2]
      refine ⟨fun z => absurd z (nI_nlt (b := 14) (by omega) (by omega)), fun _ => ?_⟩
      rw [show (14 : Int32) = nI 14 from rfl, pk_sub (by omega)]
      congr 3
    · have e2 := w6 (by omega)
      rw [if_neg (fun z => g z.1)]
      exact ⟨fun _ => rfl, fun z => absurd (nI_lt (b := 14) e2 (by decide)) z⟩
  · rw [if_neg (fun z => a ⟨by omega, z.2⟩)]
theorem c_185y (hS : Sg t σ) (h : mI σ 59 43 = nI c) (hc : c < 64) : Cl 185 [.ref 59] σ (some (.int 1), uI σ 59 43 (nI (c + 1))) := by
  refine ck_185 hS (b_185_0 hS ?_)
  rw [h]
  exact ⟨fun z => absurd ((nI_eq (b := 64) (by omega) (by decide)).mp z) (by omega), fun _ => by rw [nI_1]⟩
theorem c_185n {q : Nat} (hS : Sg t σ) (h : mI σ 59 43 = nI 64) (h10 : mI σ 59 10 = nI q) : ∃ σ', Cl 185 [.ref 59] σ (some (.int 0), σ') ∧ Fr (fun x i => x = 59 ∧ (i = 4 ∨ i = 5)) σ σ' ∧ MF (2, q) σ' := by
  obtain ⟨σ', d, f, r⟩ := c_154 (e := 2) hS h10
  refine ⟨σ', ck_185 hS (b_185_0 hS ?_), f, r⟩
  rw [h]
  exact ⟨fun _ => ⟨_, _, d, f.sg hS, Or.inl rfl, rfl⟩, fun z => absurd rfl z⟩
theorem c_186 {m : Nat} {x : Int32} (hS : Sg t σ) (h : mI σ 59 40 = nI m) (hm : m < 96) : Cl 186 [.ref 59, .int x] σ (none, uI (uI σ 78 m x) 59 40 (nI (m + 1))) := by
  refine ck_186 hS (b_186_0 hS ?_)
  rw [h]
  refine ⟨inb_nI hm (by decide), fun σ1 q1 => ?_⟩
  rw [nI_clamp (by omega), mI_n (by omega), h, nI_1] at q1
  rw [q1]
theorem ws0_f {x i : Nat} (h : x = 59 ∧ (i = 4 ∨ i = 5)) : Ws0 x i := Or.inl h
/-- a token more -/
theorem nxt {p : Nat} (hS : Sg t σ) (h : RM σ B n) (hM : MC σ B n p) (hp : p ≤ n) (hE : EM σ D W R c o w mn) : ∃ σ', Cl 158 [.ref 59] σ (none, σ') ∧ Fr Wz σ σ' ∧ EM σ' D W R c o w mn ∧ MC σ' B n (tE B n p) := by
  obtain ⟨σ', d, F, r⟩ := c_158 (p := tE B n p) hS h (tE_le hp) hM.1
  exact ⟨σ', d, F, hE.fz F, r⟩
theorem c_188 {f p : Nat} (hS : Sg t σ) (h : RM σ B n) (hM : MC σ B n p) (hE : EM σ D W R c o true mn) (hX : XI f n (p, D, W, R, c, o, true, mn)) : OutM (leaf B n p D W R c o mn) B n 188 σ := by
  obtain ⟨x1, x2, x3, ⟨x4, x4'⟩, ⟨x5, x5'⟩, x6, x7, x8⟩ := hX
  dsimp only at x1 x2 x3 x4 x4' x5 x5' x6 x7 x8
  have hln := len_no W
  have hlt := tK_lt B n p
  have hT := hM.2.2
  have hRl : R.length ≤ 64 := by
    have := (sk_in x1.2).2
    omega
  have c40 := c_162 (ch := 40) (k0 := 38) hS hM (by decide) (by decide) (by decide) (by decide)
  have c13 := c_161 (m := 13) (k0 := 23) hS hM (by decide) (by decide)
  have c187 := c_187 hS hM
  by_cases g1 : tK B n p = 38
  · have el : leaf B n p D W R c o mn = if o = 8 then .inl (2, tS B n p) else .inr (tE B n p, D, 0 :: W, R, c, o + 1, true, true) := if_pos g1
    rw [decide_eq_true g1, if_pos rfl] at c40
    by_cases g2 : o = 8
    · obtain ⟨σ', d, F, r⟩ := c_154 (e := 2) hS hM.2.1
      refine OutM.no (el.trans (if_pos g2)) ⟨σ', ck_188 hS (b_188_0 hS ⟨_, _, c40, hS, fun z => absurd z (by decide), fun _ => ?_⟩), F.mono (fun _ _ h => ws0_f h), r⟩
      rw [hE.1.2.2, g2]
      exact ⟨fun _ => ⟨_, _, d, F.sg hS, Or.inl rfl, rfl⟩, fun z => absurd rfl z⟩
    · have E1 := hE.seto (o' := o + 1)
      have S1 : Sg t (uI σ 59 42 (nI (o + 1))) := hS.uI
      have d1 := c_186 (x := 0) S1 E1.1.2.1 (by omega)
      have E2 := (E1.push (k := 0) (v := 0) rfl).setm (m' := true) (v := 1) rfl
      have F2 : Fr Ws1 σ (uI (uI (uI (uI σ 59 42 (nI (o + 1))) 78 W.length 0) 59 40 (nI (W.length + 1))) 59 45 1) := ((((Fr.rf σ).uI (Or.inl ⟨rfl, by omega⟩)).uI (Or.inr (Or.inr (Or.inl rfl)))).uI (Or.inl ⟨rfl, by omega⟩)).uI (Or.inl ⟨rfl, by omega⟩)
      have M2 : MC (uI (uI (uI (uI σ 59 42 (nI (o + 1))) 78 W.length 0) 59 40 (nI (W.length + 1))) 59 45 1) B n p := hM.cg (fun i h1 h2 => by rw [mI_n (by omega), mI_n (by omega), mI_n (by omega), mI_n (by omega)])
      obtain ⟨σ', d2, F3, E3, M3⟩ := nxt (F2.sg hS) (h.fs F2) M2 x8 E2
      refine OutM.yes (el.trans (if_neg g2)) ⟨σ', ck_188 hS (b_188_0 hS ⟨_, _, c40, hS, fun z => absurd z (by decide), fun _ => ?_⟩), F2.tr (F3.mono (fun _ _ h => ws_z h)), E3, M3⟩
      rw [hE.1.2.2, nI_1]
      exact ⟨fun z => absurd ((nI_eq (b := 8) (by omega) (by decide)).mp z) g2, fun _ => ⟨_, d1, S1.uI.uI, _, d2, (F2.tr (F3.mono (fun _ _ h => ws_z h))).sg hS, rfl⟩⟩
  · rw [decide_eq_false g1] at c40
    by_cases g2 : tK B n p = 23 ∧ mn = true
    · have el : leaf B n p D W R c o mn = if c = 64 then .inl (2, tS B n p) else .inr (tE B n p, D, 2 :: W, R, c + 1, o, true, mn) := (if_neg g1).trans (if_pos g2)
      rw [decide_eq_true g2.1, if_pos rfl] at c13
      have m1 : mI σ 59 45 = 1 := by rw [hE.2.2.2.2, g2.2]; rfl
      by_cases g3 : c = 64
      · obtain ⟨σ', d, F, r⟩ := c_185n hS (by rw [hE.1.1, g3]) hM.2.1
        refine OutM.no (el.trans (if_pos g3)) ⟨σ', ck_188 hS (b_188_0 hS ⟨_, _, c40, hS, fun _ => ⟨_, _, c13, hS, fun z => absurd z (by decide), fun _ => ?_⟩, fun z => absurd rfl z⟩), F.mono (fun _ _ h => ws0_f h), r⟩
        rw [m1]
        exact ⟨fun z => absurd z (by decide), fun _ => ⟨_, _, d, F.sg hS, fun _ => rfl, fun z => absurd rfl z⟩⟩
      · have E1 := hE.setc (c' := c + 1)
        have S1 : Sg t (uI σ 59 43 (nI (c + 1))) := hS.uI
        have d1 := c_185y hS hE.1.1 (by omega)
        have d2 := c_186 (x := 2) S1 E1.1.2.1 (by omega)
        have E2 := E1.push (k := 2) (v := 2) rfl
        have F2 : Fr Ws1 σ (uI (uI (uI σ 59 43 (nI (c + 1))) 78 W.length 2) 59 40 (nI (W.length + 1))) := (((Fr.rf σ).uI (Or.inl ⟨rfl, by omega⟩)).uI (Or.inr (Or.inr (Or.inl rfl)))).uI (Or.inl ⟨rfl, by omega⟩)
        have M2 : MC (uI (uI (uI σ 59 43 (nI (c + 1))) 78 W.length 2) 59 40 (nI (W.length + 1))) B n p := hM.cg (fun i h1 h2 => by rw [mI_n (by omega), mI_n (by omega), mI_n (by omega)])
        obtain ⟨σ', d3, F3, E3, M3⟩ := nxt (F2.sg hS) (h.fs F2) M2 x8 E2
        refine OutM.yes (el.trans (if_neg g3)) ⟨σ', ck_188 hS (b_188_0 hS ⟨_, _, c40, hS, fun _ => ⟨_, _, c13, hS, fun z => absurd z (by decide), fun _ => ?_⟩, fun z => absurd rfl z⟩), F2.tr (F3.mono (fun _ _ h => ws_z h)), E3, M3⟩
        rw [m1]
        exact ⟨fun z => absurd z (by decide), fun _ => ⟨_, _, d1, S1, fun z => absurd z (by decide), fun _ => ⟨_, d2, S1.uI.uI, _, d3, (F2.tr (F3.mono (fun _ _ h => ws_z h))).sg hS, rfl⟩⟩⟩
    · -- no bracket, no 'not'
      have to187 : ∀ w', (∃ (v9 : Int32) (σ7 : Mm), Cl 187 [.ref 59] σ (some (.int v9), σ7) ∧ Sg t σ7 ∧ ((v9 < 0 → (((mI σ7 59 8) = 3 → Ev 188 109 [.ref 59, .int v9] [] σ7 w') ∧ (¬ ((mI σ7 59 8) = 3) → (∃ (v12 : Int32) (σ10 : Mm), Cl 154 [.ref 59, .int 1] σ7 (some (.int v12), σ10) ∧ Sg t σ10 ∧ ((v12 = 0 ∨ v12 = 1) ∧ w' = (some (.int v12), σ10)))))) ∧ (¬ (v9 < 0) → Ev 188 109 [.ref 59, .int v9] [] σ7 w'))) → Cl 188 [.ref 59] σ w' := by
        intro w' hw
        refine ck_188 hS (b_188_0 hS ⟨_, _, c40, hS, fun _ => ⟨_, _, c13, hS, fun _ => hw, fun z => ?_⟩, fun z => absurd rfl z⟩)
        have z23 : tK B n p = 23 := by
          by_cases e : tK B n p = 23
          · exact e
          · rw [decide_eq_false e] at z; exact absurd rfl z
        have mf : mn = false := bf (fun u => g2 ⟨z23, u⟩)
        rw [hE.2.2.2.2, mf]
        exact ⟨fun _ => hw, fun z => absurd rfl z⟩
      have E1 := hE.setc (c' := c + 1)
      have S1 : Sg t (uI σ 59 43 (nI (c + 1))) := hS.uI
      have F1 : Fr Ws1 σ (uI σ 59 43 (nI (c + 1))) := (Fr.rf σ).uI (Or.inl ⟨rfl, by omega⟩)
      have M1 : MC (uI σ 59 43 (nI (c + 1))) B n p := hM.cg (fun i h1 h2 => mI_n (by omega))
      by_cases g3 : tK B n p = 2
      · have el : leaf B n p D W R c o mn = if 9999 < tV B n p then .inl (2, tS B n p) else if c = 64 then .inl (2, tS B n p) else .inr (tE B n p, grw D 0 (tV B n p) 0 (tV B n p), W, D 7 0 :: R, c + 1, o, false, mn) := (if_neg g1).trans ((if_neg g2).trans (if_pos g3))
        rw [if_neg (by omega)] at c187
        obtain ⟨u, u1, u2, u3⟩ := hT.w3 g3
        have k3 := hT.n3.mpr g3
        by_cases g4 : 9999 < tV B n p
        · obtain ⟨σ', d, F, r⟩ := c_154 (e := 2) hS hM.2.1
          refine OutM.no (el.trans (if_pos g4)) ⟨σ', to187 _ ⟨_, _, c187, hS, fun _ => ⟨fun _ => b_188_109 hS ⟨fun _ => ?_, fun z => absurd (by decide) z⟩, fun z => absurd k3 z⟩, fun z => absurd (by decide) z⟩, F.mono (fun _ _ h => ws0_f h), r⟩
          rw [u2]
          exact pk_lt 9999 u (fun _ => ⟨_, _, d, F.sg hS, Or.inl rfl, rfl⟩) (fun z => absurd z (by omega)) rfl rfl (by decide) (by omega)
        · have n9 : ¬ (9999 : Int32) < nI u := nI_nlt (a := 9999) (b := u) (by omega) (by decide)
          have uv : u = tV B n p := by omega
          by_cases g5 : c = 64
          · obtain ⟨σ', d, F, r⟩ := c_185n hS (by rw [hE.1.1, g5]) hM.2.1
            refine OutM.no (el.trans ((if_neg g4).trans (if_pos g5))) ⟨σ', to187 _ ⟨_, _, c187, hS, fun _ => ⟨fun _ => b_188_109 hS ⟨fun _ => ?_, fun z => absurd (by decide) z⟩, fun z => absurd k3 z⟩, fun z => absurd (by decide) z⟩, F.mono (fun _ _ h => ws0_f h), r⟩
            rw [u2]
            exact ⟨fun z => absurd z n9, fun _ => ⟨_, _, d, F.sg hS, fun _ => rfl, fun z => absurd rfl z⟩⟩
          · have d1 := c_185y hS hE.1.1 (by omega)
            obtain ⟨σ2, d2, F2, B2, q2⟩ := c_182 (k := 0) (x := tV B n p) (y := 0) (s := tV B n p) (v := 0) S1 E1.2.2.1 (by omega) (by omega) (fun z => by omega)
            have E2 : EM (uI σ2 59 44 0) (grw D 0 (tV B n p) 0 (tV B n p)) W (D 7 0 :: R) (c + 1) o false mn := (E1.bnd F2 (by rw [q2]; exact E1.1.2.1) ⟨[], rfl⟩ B2).setw rfl
            have FF2 : Fr Ws1 σ (uI σ2 59 44 0) := (F1.tr (F2.mono (fun _ _ h => ws_b h))).uI (Or.inl ⟨rfl, by omega⟩)
            have M2 : MC (uI σ2 59 44 0) B n p := M1.cg (fun i h1 h2 => by rw [mI_n (by omega), (F2.1 59 i (fun z => by unfold Wb1 at z; omega)).1])
            obtain ⟨σ', d3, F3, E3, M3⟩ := nxt (FF2.sg hS) (h.fs FF2) M2 x8 E2
            have FF3 := FF2.tr (F3.mono (fun _ _ h => ws_z h))
            refine OutM.yes (el.trans ((if_neg g4).trans (if_neg g5))) ⟨σ', to187 _ ⟨_, _, c187, hS, fun _ => ⟨fun _ => b_188_109 hS ⟨fun _ => ?_, fun z => absurd (by decide) z⟩, fun z => absurd k3 z⟩, fun z => absurd (by decide) z⟩, FF3, E3, M3⟩
            rw [u2]
            refine ⟨fun z => absurd z n9, fun _ => ⟨_, _, d1, S1, fun z => absurd z (by decide), fun _ => ⟨fun _ => b_188_148 S1 ⟨fun _ => ?_, fun z => absurd (by decide) z⟩, fun z => absurd (by decide) z⟩⟩⟩
            rw [mI_n (by decide), u2, uv]
            exact ⟨σ2, d2, (F2.sg S1), σ', d3, FF3.sg hS, rfl⟩
      · have n3 : ¬ mI σ 59 8 = 3 := fun z => g3 (hT.n3.mp z)
        by_cases g4 : 24 ≤ tK B n p ∧ tK B n p ≤ 30
        · have el : leaf B n p D W R c o mn = if c = 64 then .inl (2, tS B n p) else .inr (tE B n p, grw D 1 (tK B n p - 24) 0 (10000 + tK B n p), W, D 7 0 :: R, c + 1, o, false, mn) := (if_neg g1).trans ((if_neg g2).trans ((if_neg g3).trans (if_pos g4)))
          rw [if_pos g4] at c187
          have np : ¬ nI (tK B n p - 24) < 0 := nI_pos (by omega)
          by_cases g5 : c = 64
          · obtain ⟨σ', d, F, r⟩ := c_185n hS (by rw [hE.1.1, g5]) hM.2.1
            exact OutM.no (el.trans (if_pos g5)) ⟨σ', to187 _ ⟨_, _, c187, hS, fun z => absurd z np, fun _ => b_188_109 hS ⟨fun z => absurd z np, fun _ => ⟨_, _, d, F.sg hS, fun _ => rfl, fun z => absurd rfl z⟩⟩⟩, F.mono (fun _ _ h => ws0_f h), r⟩
          · have d1 := c_185y hS hE.1.1 (by omega)
            obtain ⟨σ2, d2, F2, B2, q2⟩ := c_182 (k := 1) (x := tK B n p - 24) (y := 0) (s := 10000 + tK B n p) (v := 0) S1 E1.2.2.1 (by omega) (by omega) (fun z => by omega)
            have E2 : EM (uI σ2 59 44 0) (grw D 1 (tK B n p - 24) 0 (10000 + tK B n p)) W (D 7 0 :: R) (c + 1) o false mn := (E1.bnd F2 (by rw [q2]; exact E1.1.2.1) ⟨[], rfl⟩ B2).setw rfl
            have FF2 : Fr Ws1 σ (uI σ2 59 44 0) := (F1.tr (F2.mono (fun _ _ h => ws_b h))).uI (Or.inl ⟨rfl, by omega⟩)
            have M2 : MC (uI σ2 59 44 0) B n p := M1.cg (fun i h1 h2 => by rw [mI_n (by omega), (F2.1 59 i (fun z => by unfold Wb1 at z; omega)).1])
            obtain ⟨σ', d3, F3, E3, M3⟩ := nxt (FF2.sg hS) (h.fs FF2) M2 x8 E2
            have FF3 := FF2.tr (F3.mono (fun _ _ h => ws_z h))
            exact OutM.yes (el.trans (if_neg g5)) ⟨σ', to187 _ ⟨_, _, c187, hS, fun z => absurd z np, fun _ => b_188_109 hS ⟨fun z => absurd z np, fun _ => ⟨_, _, d1, S1, fun z => absurd z (by decide), fun _ => ⟨fun z => absurd z np, fun _ => b_188_148 S1 ⟨fun z => absurd z np, fun _ => ⟨σ2, d2, (F2.sg S1), σ', d3, FF3.sg hS, rfl⟩⟩⟩⟩⟩⟩, FF3, E3, M3⟩
        · have el : leaf B n p D W R c o mn = .inl (1, tS B n p) := (if_neg g1).trans ((if_neg g2).trans ((if_neg g3).trans (if_neg g4)))
          rw [if_neg g4] at c187
          obtain ⟨σ', d, F, r⟩ := c_154 (e := 1) hS hM.2.1
          exact OutM.no el ⟨σ', to187 _ ⟨_, _, c187, hS, fun _ => ⟨fun z => absurd z n3, fun _ => ⟨_, _, d, F.sg hS, Or.inl rfl, rfl⟩⟩, fun z => absurd (by decide) z⟩, F.mono (fun _ _ h => ws0_f h), r⟩
end ExM2
