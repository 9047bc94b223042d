/-! ===== calls that change the house ===== -/
/-- both sides answer alike, and all stands again -/
def PrS (j k : Nat) (as : List Value) (t : Nat) (σ : Mm) : Prop := ∃ (v : Int32) (σ1 σ2 : Mm) (t' : Nat) (D' H' : Nat → Nat → Nat), Cl j (.ref 0 :: as) σ (some (.int v), σ1) ∧ Sg t' σ1 ∧ Cl k (.ref 59 :: as) σ1 (some (.int v), σ2) ∧ Inv t' σ2 D' H'
/-- what such a call may change -/
def Wch (x i : Nat) : Prop := (26 ≤ x ∧ x ≤ 29) ∨ (38 ≤ x ∧ x ≤ 48) ∨ (x = 59 ∧ (i = 2 ∨ i = 48 ∨ i = 58 ∨ (59 ≤ i ∧ i ≤ 63) ∨ i = 72)) ∨ (80 ≤ x ∧ x ≤ 90) ∨ x = 96
section Call1
variable {t : Nat} {σ : Mm} {D H : Nat → Nat → Nat}
theorem PrI.st {j k : Nat} {as : List Value} (h : Inv t σ D H) (hp : PrI j k as σ) : PrS j k as t σ := by
  obtain ⟨v, σ1, σ2, h1, f1, h2, f2⟩ := hp
  exact ⟨v, σ1, σ2, t, D, H, h1, f1.sg h.1.sg, h2, h.fr (f1.tr f2)⟩
/-- all stands again behind a change of the house -/
theorem inv_ch {σ' : Mm} {H' : Nat → Nat → Nat} (h : Inv t σ D H) (hf : Fr Wch σ σ') (hC : CH σ' 26 H') (hM : MH σ' 0 (D 1 0) H') (hN : mL σ' 59 58 = lN (H' 6 0)) (hW : WH (D 1 0) H') (hm : H' 0 0 ≤ 9000) (hU : UnI σ' (D 1 0) H') : Inv t σ' D H' := by
  obtain ⟨q, h1, h2, h3, h4⟩ := h
  have ht := q.tt
  refine ⟨⟨hf.sg q.sg, q.tt, ⟨q.wd, hW, hm⟩, ⟨q.ct.fr hf (fun x i a b z => ?_), hC⟩, q.mt.fr hf (fun x i a z => ?_), hM, hN⟩, h1.fr hf (fun x i a z => ?_), h2.fr q.hP hf (fun x i a z => ?_), hU, h4.fr hf (fun x i a z => ?_)⟩
  all_goals
    unfold Wch at z
    omega
theorem un_push {σ' : Mm} {P u nx q : Nat} {H' : Nat → Nat → Nat} {G : Nat → Nat → Nat → Nat} (hu : u ≤ 20) (hn : nx < 20) (hG : G u = H) (hk : ∀ k, k < u → (∃ q, EnD σ ((nx + 20 - u + k) % 20) q (G k) ∧ Adj q (G k) (G (k + 1))) ∧ PU σ 96 (24 * k) P (G k) ∧ WH P (G k)) (a1 : mI σ' 41 0 = nI (min 20 (u + 1))) (a2 : mI σ' 41 1 = nI ((nx + 1) % 20)) (a3 : mI σ' 59 72 = nI (min 20 (u + 1))) (a4 : ∀ p q X, p ≠ nx → EnD σ p q X → EnD σ' p q X) (a5 : EnD σ' nx q H) (a6 : ∀ k, k < min 20 (u + 1) - 1 → PU σ' 96 (24 * k) P (G (k + (u - (min 20 (u + 1) - 1))))) (a7 : PU σ' 96 (24 * (min 20 (u + 1) - 1)) P H) (hW : WH P H) (hA : Adj q H H') : UnI σ' P H' := by
  have hm : (u < 20 ∧ min 20 (u + 1) = u + 1) ∨ (u = 20 ∧ min 20 (u + 1) = 20) := by omega
  generalize min 20 (u + 1) = m at a1 a3 a6 a7 hm
  refine ⟨m, (nx + 1) % 20, fun k => if k < m then G (k + (u - (m - 1))) else H', by omega, Nat.mod_lt _ (by decide), a1, a2, a3, if_neg (Nat.lt_irrefl _), fun k hkm => ?_⟩
  have ek : (if k < m then G (k + (u - (m - 1))) else H') = G (k + (u - (m - 1))) := if_pos hkm
  show (∃ q, EnD σ' _ q (if k < m then G (k + (u - (m - 1))) else H') ∧ Adj q (if k < m then G (k + (u - (m - 1))) else H') (if k + 1 < m then G (k + 1 + (u - (m - 1))) else H')) ∧ PU σ' 96 (24 * k) P (if k < m then G (k + (u - (m - 1))) else H') ∧ WH P (if k < m then G (k + (u - (m - 1))) else H')
  rw [ek]
  by_cases c : k + 1 < m
  · rw [if_pos c]
    obtain ⟨⟨q', e', ad'⟩, p', w'⟩ := hk (k + (u - (m - 1))) (by omega)
    have ep : ((nx + 1) % 20 + 20 - m + k) % 20 = (nx + 20 - u + (k + (u - (m - 1)))) % 20 := by omega
    refine ⟨⟨q', ?_, ?_⟩, a6 k (by omega), w'⟩
    · rw [ep]
      exact a4 _ _ _ (by omega) e'
    · rw [show k + 1 + (u - (m - 1)) = k + (u - (m - 1)) + 1 by omega]
      exact ad'
  · rw [if_neg c]
    have e1 : k + (u - (m - 1)) = u := by omega
    have e2 : k = m - 1 := by omega
    rw [e1, hG]
    have ep : ((nx + 1) % 20 + 20 - m + k) % 20 = nx := by omega
    rw [ep, e2]
    exact ⟨⟨q, a5, hA⟩, a7, hW⟩
/-- a call that remembers: its two halves -/
theorem remember {x : Int32} {q : Nat} (h : Inv t σ D H) (hq : (q = 10 ∧ x = -1) ∨ (q < 10 ∧ x = nI q)) : ∃ σ1, Cl 98 [.ref 41, .ref 26, .int x] σ (none, σ1) ∧ Fr (fun a i => 41 ≤ a ∧ a ≤ 48) σ σ1 ∧ ∀ σ2, Fr (fun x i => (26 ≤ x ∧ x ≤ 29) ∨ (38 ≤ x ∧ x ≤ 40) ∨ (x = 59 ∧ (i = 2 ∨ (59 ≤ i ∧ i ≤ 63)))) σ1 σ2 → ∃ σ3, Cl 268 [.ref 59] σ2 (none, σ3) ∧ Fr (fun x i => x = 96 ∨ (x = 59 ∧ i = 72)) σ2 σ3 ∧ ∀ σ4 H', Fr (fun x i => (x = 59 ∧ (i = 2 ∨ i = 48 ∨ (59 ≤ i ∧ i ≤ 63))) ∨ (80 ≤ x ∧ x ≤ 90)) σ3 σ4 → CH σ4 26 H' → MH σ4 0 (D 1 0) H' → mL σ4 59 58 = lN (H' 6 0) → WH (D 1 0) H' → Adj q H H' → Inv t σ4 D H' := by
  obtain ⟨qq, h1, h2, ⟨u, nx, G, u1, u2, u3, u4, u5, u6, u7⟩, h4⟩ := id h
  have hP := qq.hP
  obtain ⟨σ1, g1, f1, en1, c1, d1⟩ := c_98 (q := q) qq.sg qq.ch u3 u4 u1 u2 hq
  refine ⟨σ1, g1, f1.mono (fun a i hh => by have hh : (a = 41 ∧ i ≤ 1) ∨ (42 ≤ a ∧ a ≤ 48 ∧ i = nx) := hh; omega), fun σ2 f2 => ?_⟩
  have F2 : Fr Wch σ σ2 := (f1.mono (fun a i hh => by have hh : (a = 41 ∧ i ≤ 1) ∨ (42 ≤ a ∧ a ≤ 48 ∧ i = nx) := hh; unfold Wch; omega)).tr (f2.mono (fun x i hh => by have hh : (26 ≤ x ∧ x ≤ 29) ∨ (38 ≤ x ∧ x ≤ 40) ∨ (x = 59 ∧ (i = 2 ∨ (59 ≤ i ∧ i ≤ 63))) := hh; unfold Wch; omega))
  have m2 : MH σ2 0 (D 1 0) H := (qq.mh.fr (by decide) hP f1 (fun x i a b => by have b : (x = 41 ∧ i ≤ 1) ∨ (42 ≤ x ∧ x ≤ 48 ∧ i = nx) := b; omega)).fr (by decide) hP f2 (fun x i a b => by have b : (26 ≤ x ∧ x ≤ 29) ∨ (38 ≤ x ∧ x ≤ 40) ∨ (x = 59 ∧ (i = 2 ∨ (59 ≤ i ∧ i ≤ 63))) := b; omega)
  have r96 : ∀ i, mI σ2 96 i = mI σ 96 i := fun i => ((f2.1 96 i (fun b => by have b : (26 ≤ 96 ∧ 96 ≤ 29) ∨ (38 ≤ 96 ∧ 96 ≤ 40) ∨ (96 = 59 ∧ (i = 2 ∨ (59 ≤ i ∧ i ≤ 63))) := b; omega)).1).trans ((f1.1 96 i (fun b => by have b : (96 = 41 ∧ i ≤ 1) ∨ (42 ≤ 96 ∧ 96 ≤ 48 ∧ i = nx) := b; omega)).1)
  have r72 : mI σ2 59 72 = nI u := (((f2.1 59 72 (fun b => by have b : (26 ≤ 59 ∧ 59 ≤ 29) ∨ (38 ≤ 59 ∧ 59 ≤ 40) ∨ (59 = 59 ∧ (72 = 2 ∨ (59 ≤ 72 ∧ 72 ≤ 63))) := b; omega)).1).trans ((f1.1 59 72 (fun b => by have b : (59 = 41 ∧ 72 ≤ 1) ∨ (42 ≤ 59 ∧ 59 ≤ 48 ∧ 72 = nx) := b; omega)).1)).trans u5
  obtain ⟨σ3, g3, f3, c3, p3, p4⟩ := c_268 (u := u) (G := G) (F2.sg qq.sg) hP m2 r72 u1 (fun k hk => by
    obtain ⟨_, p, _⟩ := u7 k hk
    unfold PU at p ⊢
    simp only [r96]
    exact p)
  refine ⟨σ3, g3, f3, fun σ4 H' f4 hC hM hN hW hA => ?_⟩
  have F4 : Fr Wch σ σ4 := F2.tr ((f3.mono (fun x i hh => by have hh : x = 96 ∨ (x = 59 ∧ i = 72) := hh; unfold Wch; omega)).tr (f4.mono (fun x i hh => by have hh : (x = 59 ∧ (i = 2 ∨ i = 48 ∨ (59 ≤ i ∧ i ≤ 63))) ∨ (80 ≤ x ∧ x ≤ 90) := hh; unfold Wch; omega)))
  -- 41 .. 48 stay behind the first side's part
  have r41 : ∀ x i, 41 ≤ x → x ≤ 48 → mI σ4 x i = mI σ1 x i := fun x i a b => ((f4.1 x i (fun hh => by have hh : (x = 59 ∧ (i = 2 ∨ i = 48 ∨ (59 ≤ i ∧ i ≤ 63))) ∨ (80 ≤ x ∧ x ≤ 90) := hh; omega)).1).trans (((f3.1 x i (fun hh => by have hh : x = 96 ∨ (x = 59 ∧ i = 72) := hh; omega)).1).trans ((f2.1 x i (fun hh => by have hh : (26 ≤ x ∧ x ≤ 29) ∨ (38 ≤ x ∧ x ≤ 40) ∨ (x = 59 ∧ (i = 2 ∨ (59 ≤ i ∧ i ≤ 63))) := hh; omega)).1))
  have enr : ∀ {p q X}, EnD σ1 p q X → EnD σ4 p q X := fun {p q X} e => by
    unfold EnD at e ⊢
    rw [r41 42 p (by omega) (by omega), r41 43 p (by omega) (by omega), r41 44 p (by omega) (by omega), r41 45 p (by omega) (by omega), r41 46 p (by omega) (by omega), r41 47 p (by omega) (by omega), r41 48 p (by omega) (by omega)]
    exact e
  refine inv_ch h F4 hC hM hN hW ?_ (un_push (σ := σ) (q := q) u1 u2 u6 u7 ?_ ?_ ?_ ?_ (enr en1) ?_ ?_ qq.wh hA)
  · rw [← hA.1.1]; exact qq.mi
  · rw [r41 41 0 (by omega) (by omega)]; exact c1
  · rw [r41 41 1 (by omega) (by omega)]; exact d1
  · exact ((f4.1 59 72 (fun hh => by have hh : (59 = 59 ∧ (72 = 2 ∨ 72 = 48 ∨ (59 ≤ 72 ∧ 72 ≤ 63))) ∨ (80 ≤ 59 ∧ 59 ≤ 90) := hh; omega)).1).trans c3
  · intro p q' X hp e
    exact enr (e.fr f1 (fun x a b hh => by have hh : (x = 41 ∧ p ≤ 1) ∨ (42 ≤ x ∧ x ≤ 48 ∧ p = nx) := hh; omega))
  · intro k hk
    exact (p3 k hk).fr hP f4 (fun i a b hh => by have hh : (96 = 59 ∧ (i = 2 ∨ i = 48 ∨ (59 ≤ i ∧ i ≤ 63))) ∨ (80 ≤ 96 ∧ 96 ≤ 90) := hh; omega)
  · exact p4.fr hP f4 (fun i a b hh => by have hh : (96 = 59 ∧ (i = 2 ∨ i = 48 ∨ (59 ≤ i ∧ i ≤ 63))) ∨ (80 ≤ 96 ∧ 96 ≤ 90) := hh; omega)
theorem i_tie {x y : Int32} (h : Inv t σ D H) : PrS 109 221 [.int x, .int y] t σ := by
  have hq := h.1
  have hL := hq.hL
  have hP := hq.hP
  rcases bad_or x (show D 1 0 < 2 ^ 31 by omega) with b | ⟨p, hp, rfl⟩
  · exact (PrI.mk0 hq (v := -1) (ck_109 hq.sg (b_109_0 hq.sg ⟨_, _, c_143n hq.sg hq.ct.1.2.1 b, hq.sg, fun _ => rfl, fun z => absurd rfl z⟩)) ⟨_, ck_221 hq.sg (b_221_0 hq.sg ⟨_, _, c_200n hq.th.sg hq.th.mt.1.2.1 b, hq.th.sg, fun _ => rfl, fun z => absurd rfl z⟩), wq_th⟩).st h
  rcases bad_or y (show D 0 0 < 2 ^ 31 by omega) with b | ⟨l, hl, rfl⟩
  · exact (PrI.mk0 hq (v := -1) (ck_109 hq.sg (b_109_0 hq.sg ⟨_, _, c_143y hq.sg hq.ct.1.2.1 (by omega) hp, hq.sg, fun z => absurd z n10, fun _ => ⟨_, _, c_142n hq.sg hq.ct.1.1 b, hq.sg, fun _ => rfl, fun z => absurd rfl z⟩⟩)) ⟨_, ck_221 hq.sg (b_221_0 hq.sg ⟨_, _, c_200y hq.th.sg hq.th.mt.1.2.1 (by omega) hp, hq.th.sg, fun z => absurd z n10, fun _ => ⟨_, _, c_199n hq.th.sg hq.th.mt.1.1 b, hq.th.sg, fun _ => rfl, fun z => absurd rfl z⟩⟩), wq_th⟩).st h
  obtain ⟨σ1, g1, f1, nxt⟩ := remember (x := nI p) (q := p) h (Or.inr ⟨by omega, rfl⟩)
  have cp : (nI p).toNatClampNeg = p := nI_clamp (by omega)
  have i10 : inb (nI p) 10 = true := inb_nI (by omega) (by decide)
  have i20 : inb (nI p) 20 = true := inb_nI (by omega) (by decide)
  have S1 := f1.sg hq.sg
  have C1 : CH σ1 26 H := hq.ch.fr f1 (fun x i a b hh => by have hh : 41 ≤ x ∧ x ≤ 48 := hh; omega)
  have C2 : CH (uI σ1 28 p (nI (H 8 p ^^^ 2 ^ l))) 26 (hk H p l) := C1.r (k := 8) (j := p) (Or.inr (Or.inl rfl))
  have F2 : Fr (fun x i => (26 ≤ x ∧ x ≤ 29) ∨ (38 ≤ x ∧ x ≤ 40) ∨ (x = 59 ∧ (i = 2 ∨ (59 ≤ i ∧ i ≤ 63)))) σ1 (uI (uI σ1 28 p (nI (H 8 p ^^^ 2 ^ l))) 59 2 0) := ((Fr.rf (P := fun x i => (26 ≤ x ∧ x ≤ 29) ∨ (38 ≤ x ∧ x ≤ 40) ∨ (x = 59 ∧ (i = 2 ∨ (59 ≤ i ∧ i ≤ 63)))) σ1).uI (Or.inl (by omega))).uI (Or.inr (Or.inr (by omega)))
  obtain ⟨σ3, g3, f3, fin⟩ := nxt _ F2
  have S2 : Sg t (uI σ1 28 p (nI (H 8 p ^^^ 2 ^ l))) := S1
  have S2' : Sg t (uI (uI σ1 28 p (nI (H 8 p ^^^ 2 ^ l))) 59 2 0) := S1
  have S3 := f3.sg S2'
  have rM : ∀ x i, 59 ≤ x → ¬ (x = 59 ∧ (i = 2 ∨ i = 72)) → x ≠ 96 → mI σ3 x i = mI σ x i ∧ mL σ3 x i = mL σ x i := fun x i a b c => by
    have e1 := f3.1 x i (fun hh => by have hh : x = 96 ∨ (x = 59 ∧ i = 72) := hh; omega)
    have e2 := f1.1 x i (fun hh => by have hh : 41 ≤ x ∧ x ≤ 48 := hh; omega)
    have e3 : mI (uI (uI σ1 28 p (nI (H 8 p ^^^ 2 ^ l))) 59 2 0) x i = mI σ1 x i := by rw [mI_uI, if_neg (by omega), mI_uI, if_neg (by omega)]
    exact ⟨e1.1.trans (e3.trans e2.1), e1.2.trans e2.2⟩
  have M3 : MH σ3 0 (D 1 0) H := by
    unfold MH
    obtain ⟨⟨m1, m2, m3, m4, m5, m6⟩, ma, mt, mw⟩ := hq.mh
    exact ⟨⟨((rM 82 0 (by omega) (by omega) (by omega)).1).trans m1, ((rM 83 0 (by omega) (by omega) (by omega)).1).trans m2, ((rM 84 0 (by omega) (by omega) (by omega)).1).trans m3, ((rM 85 0 (by omega) (by omega) (by omega)).1).trans m4, ((rM 86 0 (by omega) (by omega) (by omega)).1).trans m5, ((rM 87 0 (by omega) (by omega) (by omega)).1).trans m6⟩, fun i hi => ((rM 88 _ (by omega) (by omega) (by omega)).1).trans (ma i hi), fun i hi => ((rM 89 _ (by omega) (by omega) (by omega)).1).trans (mt i hi), fun i hi => ((rM 90 _ (by omega) (by omega) (by omega)).1).trans (mw i hi)⟩
  have M4 : MH (uI σ3 89 p (nI (H 8 p ^^^ 2 ^ l))) 0 (D 1 0) (hk H p l) := M3.r (k := 8) (x := p) (by omega)
  have e89 : mI σ3 89 p = nI (H 8 p) := ((rM 89 p (by omega) (by omega) (by omega)).1).trans (hq.mties p hp)
  have hW' : WH (D 1 0) (hk H p l) := hk_WH hq.wh hp (by omega)
  have C4 : CH (uI σ3 89 p (nI (H 8 p ^^^ 2 ^ l))) 26 (hk H p l) := by
    have a : CH (uI (uI σ1 28 p (nI (H 8 p ^^^ 2 ^ l))) 59 2 0) 26 (hk H p l) := C2.fr (W := fun x i => x = 59) ((Fr.rf (P := fun x i => x = 59) _).uI rfl) (fun x i a b hh => by have hh : x = 59 := hh; omega)
    have b := a.fr f3 (fun x i a b hh => by have hh : x = 96 ∨ (x = 59 ∧ i = 72) := hh; omega)
    exact b.fr (W := fun x i => x = 89) ((Fr.rf (P := fun x i => x = 89) _).uI rfl) (fun x i a b hh => by have hh : x = 89 := hh; omega)
  have A : Adj p H (hk H p l) := ⟨⟨(hu_n (by omega)).symm, (hu_n (by omega)).symm, (hu_n (by omega)).symm⟩, fun i => (hu_n (by omega)).symm, fun i hi => ⟨(hu_n (fun z => hi z.2)).symm, (hu_n (by omega)).symm⟩⟩
  have inv := fin (uI σ3 89 p (nI (H 8 p ^^^ 2 ^ l))) (hk H p l) ((Fr.rf _).uI (Or.inr (by omega))) C4 M4 (by rw [hk, hu_n (by omega)]; exact ((rM 59 58 (by omega) (by omega) (by omega)).2).trans hq.nu) hW' A
  -- the marks of the first side as the second sees them
  have Qt : mI (uI (uI σ1 28 p (nI (H 8 p ^^^ 2 ^ l))) 59 2 0) 59 13 = nI (D 1 0) ∧ mI (uI (uI σ1 28 p (nI (H 8 p ^^^ 2 ^ l))) 59 2 0) 59 12 = nI (D 0 0) := by
    refine ⟨?_, ?_⟩
    · rw [mI_uI, if_neg (by omega), mI_uI, if_neg (by omega), (f1.1 59 13 (fun hh => by have hh : 41 ≤ 59 ∧ 59 ≤ 48 := hh; omega)).1]; exact hq.mt.1.2.1
    · rw [mI_uI, if_neg (by omega), mI_uI, if_neg (by omega), (f1.1 59 12 (fun hh => by have hh : 41 ≤ 59 ∧ 59 ≤ 48 := hh; omega)).1]; exact hq.mt.1.1
  refine ⟨(nI (H 8 p ^^^ 2 ^ l) >>> (nI l &&& 31)) &&& 1, uI σ1 28 p (nI (H 8 p ^^^ 2 ^ l)), uI σ3 89 p (nI (H 8 p ^^^ 2 ^ l)), t, D, hk H p l, ?_, S2, ?_, inv⟩
  · refine ck_109 hq.sg (b_109_0 hq.sg ⟨_, _, c_143y hq.sg hq.ct.1.2.1 (by omega) hp, hq.sg, fun z => absurd z n10, fun _ => ⟨_, _, c_142y hq.sg hq.ct.1.1 (by omega) hl, hq.sg, fun z => absurd z n10, fun _ => ⟨σ1, g1, S1, i10, i10, ?_⟩⟩⟩)
    intro σ10 e10
    have e28 : mI σ1 28 p = nI (H 8 p) := C1.2.2.1 p (by omega)
    rw [cp, e28, nI_one (by omega), nI_xor] at e10
    refine ⟨i10, ?_⟩
    rw [e10, cp, mI_uI, if_pos ⟨rfl, rfl⟩]
  · refine ck_221 S2 (b_221_0 S2 ⟨_, _, c_200y S2' Qt.1 (by omega) hp, S2', fun z => absurd z n10, fun _ => ⟨_, _, c_199y S2' Qt.2 (by omega) hl, S2', fun z => absurd z n10, fun _ => ⟨σ3, g3, S3, i20, i20, ?_⟩⟩⟩)
    intro σ10 e10
    rw [cp, e89, nI_one (by omega), nI_xor] at e10
    refine ⟨i20, ?_⟩
    rw [e10, cp, mI_uI, if_pos ⟨rfl, rfl⟩]
end Call1
