/-! ===== a sum is read, second side: signs, the whole ===== -/
theorem kop_cmp : ∀ k, k < 44 → ((31 ≤ k ∧ smC k = true) → 5 + smW k = kop k) ∧ ((¬ (31 ≤ k ∧ smC k = true) ∧ k ≠ 22 ∧ k ≠ 21 ∧ k ≠ 31 ∧ k ≠ 32 ∧ k ≠ 33 ∧ k ≠ 34) → kop k = 0) := by decide +kernel
section ExM3
variable {t n : Nat} {σ : Mm} {D : Nat → Nat → Nat} {W R : List Nat} {c o : Nat} {w mn : Bool} {B : Nat → Nat}
/-- which sign it is -/
theorem v_189 {p : Nat} {w' : Option Value × Mm} (hS : Sg t σ) (hM : MC σ B n p) (hw : ∀ z1, Ev 189 147 [.ref 59, z1] [.int (nI (kop (tK B n p)))] σ w') : ∀ z1, Ev 189 47 [.ref 59, z1] [] σ w' := by
  intro z1
  have hlt := tK_lt B n p
  have hT := hM.2.2
  have c11 := c_161 (m := 11) (k0 := 22) hS hM (by decide) (by decide)
  have c12 := c_161 (m := 12) (k0 := 21) hS hM (by decide) (by decide)
  have s43 := c_162 (ch := 43) (k0 := 31) hS hM (by decide) (by decide) (by decide) (by decide)
  have s45 := c_162 (ch := 45) (k0 := 32) hS hM (by decide) (by decide) (by decide) (by decide)
  have s42 := c_162 (ch := 42) (k0 := 33) hS hM (by decide) (by decide) (by decide) (by decide)
  have s47 := c_162 (ch := 47) (k0 := 34) hS hM (by decide) (by decide) (by decide) (by decide)
  obtain ⟨k1, k2⟩ := kop_cmp (tK B n p) (by omega)
  refine b_189_47 hS ⟨_, _, c11, hS, w_b (fun a1 => ⟨_, _, c12, hS, w_b (fun a2 => w_p hT.n5 (fun a3 => ?_) (fun a3 => ⟨_, _, s43, hS, w_b (fun a4 => ⟨_, _, s45, hS, w_b (fun a5 => ⟨_, _, s42, hS, w_b (fun a6 => ⟨_, _, s47, hS, w_b (fun a7 => ?_) (fun a7 => ?_)⟩) (fun a6 => ?_)⟩) (fun a5 => ?_)⟩) (fun a4 => ?_)⟩)) (fun a2 => ?_)⟩) (fun a1 => ?_)⟩
  · have e := k1 ⟨a3.1, a3.2.2⟩
    rw [hT.w5 a3.1 a3.2.1, show (5 : Int32) = nI 5 from rfl, nI_add, e]
    exact hw z1
  · have e := k2 ⟨fun z => a3 ⟨z.1, by omega, z.2⟩, of_decide_eq_false a1, of_decide_eq_false a2, of_decide_eq_false a4, of_decide_eq_false a5, of_decide_eq_false a6, of_decide_eq_false a7⟩
    have := hw z1
    rw [e] at this
    exact this
  · have := hw z1
    rw [of_decide_eq_true a7] at this
    exact this
  · have := hw z1
    rw [of_decide_eq_true a6] at this
    exact this
  · have := hw z1
    rw [of_decide_eq_true a5] at this
    exact this
  · have := hw z1
    rw [of_decide_eq_true a4] at this
    exact this
  · have := hw z1
    rw [of_decide_eq_true a2] at this
    exact this
  · have := hw z1
    rw [of_decide_eq_true a1] at this
    exact this
theorem c_189 {f p : Nat} (hS : Sg t σ) (h : RM σ B n) (hM : MC σ B n p) (hE : EM σ D W R c o false mn) (hX : XI f n (p, D, W, R, c, o, false, mn)) : OutM (sgn B n p D W R c o mn) B n 189 σ := by
  have hB := hX.xb rfl
  obtain ⟨x1, x2, x3, ⟨x4, x4'⟩, ⟨x5, x5'⟩, x6, x7, x8⟩ := hX
  dsimp only at x1 x2 x3 x4 x4' x5 x5' x6 x7 x8 hB
  have hln := len_no W
  have hlt := tK_lt B n p
  have k43 : tK B n p ≤ 43 := by omega
  have hT := hM.2.2
  have c41 := c_162 (ch := 41) (k0 := 39) hS hM (by decide) (by decide) (by decide) (by decide)
  by_cases g1 : tK B n p = 39 ∧ 0 < o
  · have el : sgn B n p D W R c o mn = .inr (tE B n p, (bnd 1 D W R).1, (bnd 1 D W R).2.1.tail, (bnd 1 D W R).2.2, c, o - 1, false, mn) := if_pos g1
    rw [decide_eq_true g1.1, if_pos rfl] at c41
    obtain ⟨σ4, d1, F4, s40, sE⟩ := c_184 (f := f) (l := 1) hS ⟨by decide, by decide⟩ hB (by omega) hE.1.2.1 hE.2.1 hE.2.2.1
    obtain ⟨i1, i2, i3, i4, i5, i6, V, i7, i8⟩ := bnd_ok (f := f) (l := 1) (Nat.le_refl _) hB
    generalize bnd 1 D W R = qq at el s40 sE i1 i2 i3 i4 i5 i6 i7
    obtain ⟨D', W', R'⟩ := qq
    dsimp only at *
    have E4 := hE.bnd F4 s40 ⟨V, i7⟩ sE
    cases W' with
    | nil =>
      have : nze ([] : List Nat) = 0 := rfl
      omega
    | cons k rr =>
      have hk : k = 0 := by
        have i5 : sdg k < 1 := i5
        rcases i1.2.2.1.1 with e | e
        · exact e
        · have := sdg_pos e.1; omega
      subst hk
      have s40 : mI σ4 59 40 = nI (rr.length + 1) := s40
      have hrl : rr.length + 1 ≤ W.length := by rw [i7]; simp
      have e1 : nI (rr.length + 1) - 1 = nI rr.length := by rw [show (1 : Int32) = nI 1 from rfl, pk_sub (by omega)]; rfl
      have eo : nI o - 1 = nI (o - 1) := by rw [show (1 : Int32) = nI 1 from rfl, pk_sub (by omega)]
      have E7 : EM (uI (uI σ4 59 40 (nI rr.length)) 59 42 (nI (o - 1))) D' rr R' c (o - 1) false mn := by
        obtain ⟨⟨h1, h2, h3⟩, h4, h5, h6, h7⟩ := E4
        exact ⟨⟨by rw [mI_n (by omega), mI_n (by omega)]; exact h1, by rw [mI_n (by omega), mI_s], mI_s⟩, WMt.fr (fun i => by rw [mI_n (by omega), mI_n (by omega)]) h4.2, h5.cg (fun x i h => by rw [mI_n (by omega), mI_n (by omega)]), by rw [mI_n (by omega), mI_n (by omega)]; exact h6, by rw [mI_n (by omega), mI_n (by omega)]; exact h7⟩
      have FF4 : Fr Ws1 σ σ4 := F4.mono (fun _ _ h => ws_b h)
      have F7 : Fr Ws1 σ (uI (uI σ4 59 40 (nI rr.length)) 59 42 (nI (o - 1))) := (FF4.uI (Or.inl ⟨rfl, by omega⟩)).uI (Or.inl ⟨rfl, by omega⟩)
      have M7 : MC (uI (uI σ4 59 40 (nI rr.length)) 59 42 (nI (o - 1))) B n p := hM.cg (fun i h1 h2 => by rw [mI_n (by omega), mI_n (by omega), (F4.1 59 i (fun z => by unfold Wb1 at z; omega)).1])
      obtain ⟨σ', d3, F3, E3, M3⟩ := nxt (F7.sg hS) (h.fs F7) M7 x8 E7
      have FF3 := F7.tr (F3.mono (fun _ _ h => ws_z h))
      refine OutM.yes el ⟨σ', ck_189 hS (b_189_0 hS ⟨_, _, c41, hS, fun z => absurd z (by decide), fun _ => ?_⟩), FF3, E3, M3⟩
      rw [hE.1.2.2]
      refine ⟨fun _ => ⟨σ4, d1, F4.sg hS, fun σ7 q7 => ?_⟩, fun z => absurd (nI_lt (a := 0) g1.2 (by omega)) z⟩
      rw [s40, e1, mI_n (by decide), E4.1.2.2, eo] at q7
      rw [q7]
      exact ⟨σ', d3, FF3.sg hS, rfl⟩
  · obtain ⟨kb3, kb4⟩ := kop_b (tK B n p) k43
    have to147 : ∀ w', (∀ z1, Ev 189 147 [.ref 59, z1] [.int (nI (kop (tK B n p)))] σ w') → Cl 189 [.ref 59] σ w' := by
      intro w' hw
      have h47 := v_189 hS hM hw
      refine ck_189 hS (b_189_0 hS ⟨_, _, c41, hS, fun _ => h47 _, fun z => ?_⟩)
      rw [hE.1.2.2]
      refine ⟨fun y => ?_, fun _ => h47 _⟩
      refine absurd ⟨?_, ?_⟩ g1
      · by_cases e : tK B n p = 39
        · exact e
        · rw [decide_eq_false e] at z; exact absurd rfl z
      · rcases Nat.eq_zero_or_pos o with e | e
        · rw [e] at y; exact absurd y (by decide)
        · exact e
    by_cases g2 : kop (tK B n p) = 0
    · have el : sgn B n p D W R c o mn = .inl (1, tS B n p) := (if_neg g1).trans (if_pos g2)
      obtain ⟨σ', d, F, r⟩ := c_154 (e := 1) hS hM.2.1
      refine OutM.no el ⟨σ', to147 _ (fun z1 => b_189_147 hS ?_), F.mono (fun _ _ h => ws0_f h), r⟩
      rw [g2]
      exact ⟨fun _ => ⟨_, _, d, F.sg hS, Or.inl rfl, rfl⟩, fun z => absurd rfl z⟩
    · obtain ⟨kk3, kk14⟩ := kop_ok g2
      have s6 := sdg_le (kop (tK B n p))
      have hpos : 1 ≤ sdg (kop (tK B n p)) := sdg_pos (by omega)
      have n0 : ¬ nI (kop (tK B n p)) = 0 := fun z => by have := (nI_eq (b := 0) (by omega) (by decide)).mp z; omega
      have el3 : sgn B n p D W R c o mn = if sdg (kop (tK B n p)) = 4 ∧ hCm W = true then .inl (1, tS B n p) else if c = 64 then .inl (2, tS B n p) else .inr (tE B n p, (bnd (sdg (kop (tK B n p))) D W R).1, kop (tK B n p) :: (bnd (sdg (kop (tK B n p))) D W R).2.1, (bnd (sdg (kop (tK B n p))) D W R).2.2, c + 1, o, true, decide (sdg (kop (tK B n p)) < 3)) := (if_neg g1).trans (if_neg g2)
      -- what is bound
      have hl : ∃ l, (1 ≤ l ∧ l ≤ 6) ∧ (sdg (kop (tK B n p)) = 4 → l = 5) ∧ (sdg (kop (tK B n p)) ≠ 4 → l = sdg (kop (tK B n p))) := by
        by_cases e : sdg (kop (tK B n p)) = 4
        · exact ⟨5, ⟨by decide, by decide⟩, fun _ => rfl, fun z => absurd e z⟩
        · exact ⟨sdg (kop (tK B n p)), ⟨hpos, s6⟩, fun z => absurd z e, fun _ => rfl⟩
      obtain ⟨l, hl1, hl4, hl5⟩ := hl
      have eqb : ¬ (sdg (kop (tK B n p)) = 4 ∧ hCm W = true) → bnd (sdg (kop (tK B n p))) D W R = bnd l D W R := by
        intro g3
        by_cases e : sdg (kop (tK B n p)) = 4
        · rw [e, hl4 e]; exact bnd45 (bf (fun z => g3 ⟨e, z⟩))
        · rw [hl5 e]
      obtain ⟨σ1, d1, F1, s40, sE⟩ := c_184 (f := f) hS hl1 hB (by omega) hE.1.2.1 hE.2.1 hE.2.2.1
      obtain ⟨i1, i2, i3, i4, i5, i6, V, i7, i8⟩ := bnd_ok (f := f) hl1.1 hB
      have S1 := F1.sg hS
      have ck := fun τ (hs : Sg t τ) => c_181 (σ := τ) (k := kop (tK B n p)) hs (by omega)
      have i44 : (nI (sdg (kop (tK B n p))) = 4) ↔ sdg (kop (tK B n p)) = 4 := nI_eq (b := 4) (by omega) (by decide)
      have to175 : ∀ w', Ev 189 175 [.ref 59, .int (nI (kop (tK B n p)))] [.int (nI l), .ref 59] σ w' → Cl 189 [.ref 59] σ w' := by
        intro w' hw
        refine to147 w' (fun z1 => b_189_147 hS ⟨fun z => absurd z n0, fun _ => ⟨_, _, ck σ hS, hS, w_p i44 (fun e => ?_) (fun e => ⟨_, _, ck σ hS, hS, ?_⟩)⟩⟩)
        · rw [hl4 e] at hw; exact hw
        · rw [hl5 e] at hw; exact hw
      have E1 := hE.bnd F1 s40 ⟨V, i7⟩ sE
      have M1 : MC σ1 B n p := hM.cg (fun i h1 h2 => (F1.1 59 i (fun z => by unfold Wb1 at z; omega)).1)
      have FF1 : Fr Ws1 σ σ1 := F1.mono (fun _ _ h => ws_b h)
      have hlo := @hC_lo (bnd l D W R).2.1 i1.2.2.1
      have h4c := @hC_4 (bnd l D W R).2.1
      generalize hqq : bnd l D W R = qq at eqb s40 sE i1 i2 i3 i4 i5 i6 i7 E1 hlo h4c
      obtain ⟨D', W', R'⟩ := qq
      dsimp only at *
      have hln' := len_no W'
      have hle' : W'.length ≤ W.length := by rw [i7]; simp
      -- the top of what waits
      have top : ∀ w', (sdg (kop (tK B n p)) = 4 → sdg (W'.headD 0) = 4 → (∃ (v12 : Int32) (σ10 : Mm), Cl 154 [.ref 59, .int 1] σ1 (some (.int v12), σ10) ∧ Sg t σ10 ∧ ((v12 = 0 ∨ v12 = 1) ∧ w' = (some (.int v12), σ10)))) → (¬ (sdg (kop (tK B n p)) = 4 ∧ sdg (W'.headD 0) = 4) → Ev 189 217 [.ref 59, .int (nI (kop (tK B n p)))] [] σ1 w') → Cl 189 [.ref 59] σ w' := by
        intro w' hw1 hw2
        refine to175 w' (b_189_175 hS ⟨σ1, d1, S1, _, _, ck σ1 S1, S1, w_p i44 (fun e => ?_) (fun e => hw2 (fun z => e z.1))⟩)
        rw [s40]
        cases W' with
        | nil =>
          refine ⟨fun z => absurd z (by decide), fun _ => hw2 (fun z => absurd z.2 (by decide))⟩
        | cons k rr =>
          have k14 : k ≤ 14 := by rcases i1.2.2.1.1 with e | e <;> omega
          have hle' : rr.length + 1 ≤ W.length := hle'
          have e1 : nI (rr.length + 1) - 1 = nI rr.length := by rw [show (1 : Int32) = nI 1 from rfl, pk_sub (by omega)]; rfl
          have sk6 := sdg_le k
          refine ⟨fun _ => ?_, fun z => absurd (nI_lt (a := 0) (Nat.succ_pos rr.length) (by omega)) z⟩
          rw [List.length_cons, e1, nI_clamp (by omega), E1.2.1.1]
          exact ⟨inb_nI (by omega) (by decide), _, _, c_181 S1 (by omega), S1, w_p (nI_eq (b := 4) (by omega) (by decide)) (fun e2 => hw1 e e2) (fun e2 => hw2 (fun z => e2 z.2))⟩
      by_cases g3 : sdg (kop (tK B n p)) = 4 ∧ hCm W = true
      · have el : sgn B n p D W R c o mn = .inl (1, tS B n p) := el3.trans (if_pos g3)
        have el5 := hl4 g3.1
        have h4 : sdg (W'.headD 0) = 4 := by
          have hc := i6 (by omega)
          rcases Nat.lt_or_ge (sdg (W'.headD 0)) 4 with u | u
          · rw [hlo u, g3.2] at hc; cases hc
          · omega
        obtain ⟨σ', d, F, r⟩ := c_154 (e := 1) S1 M1.2.1
        exact OutM.no el ⟨σ', top _ (fun _ _ => ⟨_, _, d, F.sg S1, Or.inl rfl, rfl⟩) (fun z => absurd ⟨g3.1, h4⟩ z), (FF1.mono (fun _ _ h => Or.inr h)).tr (F.mono (fun _ _ h => ws0_f h)), r⟩
      · have no4 : ¬ (sdg (kop (tK B n p)) = 4 ∧ sdg (W'.headD 0) = 4) := by
          rintro ⟨e1, e2⟩
          have el5 := hl4 e1
          have hc := i6 (by omega)
          rw [h4c e2] at hc
          exact g3 ⟨e1, hc.symm⟩
        have to217 : ∀ w', Ev 189 217 [.ref 59, .int (nI (kop (tK B n p)))] [] σ1 w' → Cl 189 [.ref 59] σ w' := fun w' hw => top w' (fun a b => absurd ⟨a, b⟩ no4) (fun _ => hw)
        by_cases g4 : c = 64
        · have el : sgn B n p D W R c o mn = .inl (2, tS B n p) := el3.trans ((if_neg g3).trans (if_pos g4))
          obtain ⟨σ', d, F, r⟩ := c_185n S1 (by rw [E1.1.1, g4]) M1.2.1
          exact OutM.no el ⟨σ', to217 _ (b_189_217 S1 ⟨_, _, d, F.sg S1, fun _ => rfl, fun z => absurd rfl z⟩), (FF1.mono (fun _ _ h => Or.inr h)).tr (F.mono (fun _ _ h => ws0_f h)), r⟩
        · have el := el3.trans ((if_neg g3).trans (if_neg g4))
          rw [eqb g3] at el
          dsimp only at el
          have E2 := E1.setc (c' := c + 1)
          have d2 := c_185y S1 E1.1.1 (by omega)
          have S2 : Sg t (uI σ1 59 43 (nI (c + 1))) := S1.uI
          have d3 := c_186 (x := nI (kop (tK B n p))) S2 E2.1.2.1 (by omega)
          have E3 := (E2.push (k := kop (tK B n p)) rfl).setw (w' := true) (v := 1) rfl
          have F3 : Fr Ws1 σ (uI (uI (uI (uI σ1 59 43 (nI (c + 1))) 78 W'.length (nI (kop (tK B n p)))) 59 40 (nI (W'.length + 1))) 59 44 1) := (((FF1.uI (Or.inl ⟨rfl, by omega⟩)).uI (Or.inr (Or.inr (Or.inl rfl)))).uI (Or.inl ⟨rfl, by omega⟩)).uI (Or.inl ⟨rfl, by omega⟩)
          have M3 : MC (uI (uI (uI (uI σ1 59 43 (nI (c + 1))) 78 W'.length (nI (kop (tK B n p)))) 59 40 (nI (W'.length + 1))) 59 44 1) B n p := M1.cg (fun i h1 h2 => by rw [mI_n (by omega), mI_n (by omega), mI_n (by omega), mI_n (by omega)])
          have c9 := ck _ (F3.sg hS)
          have run : ∀ w', ((nI (sdg (kop (tK B n p))) < 3 → ∃ (σ13 : Mm), Cl 158 [.ref 59] (uI (uI (uI (uI (uI σ1 59 43 (nI (c + 1))) 78 W'.length (nI (kop (tK B n p)))) 59 40 (nI (W'.length + 1))) 59 44 1) 59 45 1) (none, σ13) ∧ Sg t σ13 ∧ (w' = (some (.int 1), σ13))) ∧ (¬ nI (sdg (kop (tK B n p))) < 3 → ∃ (σ10 : Mm), Cl 158 [.ref 59] (uI (uI (uI (uI (uI σ1 59 43 (nI (c + 1))) 78 W'.length (nI (kop (tK B n p)))) 59 40 (nI (W'.length + 1))) 59 44 1) 59 45 0) (none, σ10) ∧ Sg t σ10 ∧ (w' = (some (.int 1), σ10)))) → Cl 189 [.ref 59] σ w' := by
            intro w' hw
            exact to217 w' (b_189_217 S1 ⟨_, _, d2, S2, fun z => absurd z (by decide), fun _ => ⟨_, d3, S2.uI.uI, _, _, c9, F3.sg hS, hw⟩⟩)
          by_cases g5 : sdg (kop (tK B n p)) < 3
          · rw [decide_eq_true g5] at el
            have E4 := E3.setm (m' := true) (v := 1) rfl
            have F4 := F3.uI (a := 59) (j := 45) (v := 1) (Or.inl ⟨rfl, by omega⟩)
            obtain ⟨σ', d5, F5, E5, M5⟩ := nxt (F4.sg hS) (h.fs F4) (M3.cg (fun i h1 h2 => mI_n (by omega))) x8 E4
            have FF5 := F4.tr (F5.mono (fun _ _ h => ws_z h))
            exact OutM.yes el ⟨σ', run _ ⟨fun _ => ⟨σ', d5, FF5.sg hS, rfl⟩, fun z => absurd (nI_lt (b := 3) g5 (by decide)) z⟩, FF5, E5, M5⟩
          · rw [decide_eq_false g5] at el
            have E4 := E3.setm (m' := false) (v := 0) rfl
            have F4 := F3.uI (a := 59) (j := 45) (v := 0) (Or.inl ⟨rfl, by omega⟩)
            obtain ⟨σ', d5, F5, E5, M5⟩ := nxt (F4.sg hS) (h.fs F4) (M3.cg (fun i h1 h2 => mI_n (by omega))) x8 E4
            have FF5 := F4.tr (F5.mono (fun _ _ h => ws_z h))
            exact OutM.yes el ⟨σ', run _ ⟨fun z => absurd z (nI_nlt (b := 3) (by omega) (by omega)), fun _ => ⟨σ', d5, FF5.sg hS, rfl⟩⟩, FF5, E5, M5⟩
/-- what reading a sum leaves on the second side -/
def OkM (σ : Mm) (B : Nat → Nat) (n : Nat) (r : (Nat × Nat) ⊕ ((Nat → Nat → Nat) × Nat)) (K : Option Value → Mm → Prop) : Prop := (∀ e, r = .inl e → ∃ σ', K (some (.int 0)) σ' ∧ Fr Ws0 σ σ' ∧ MF e σ') ∧ (∀ D q, r = .inr (D, q) → ∃ σ', K (some (.int 1)) σ' ∧ Fr Ws1 σ σ' ∧ MC σ' B n q ∧ mI σ' 59 43 = nI (D 7 0) ∧ mI σ' 59 21 = nI (D 7 0) ∧ ∀ i, i < D 7 0 → mI σ' 75 (64 + i) = nI (D 18 i) ∧ mI σ' 76 (64 + i) = nI (D 19 i) ∧ (3 ≤ D 18 i → mI σ' 77 (64 + i) = nI (D 20 i)))
theorem lp_190 {f : Nat} (hS : Sg t σ) (h : RM σ B n) : ∀ m p D W R c o w mn τ, n < p + m → XI f n (p, D, W, R, c, o, w, mn) → Fr Ws1 σ τ → EM τ D W R c o w mn → MC τ B n p → OkM σ B n (pX B n m (p, D, W, R, c, o, w, mn)) (fun v σ' => Ev 190 25 [.ref 59] [] τ (v, σ')) := by
  have hn := h.1
  intro m
  induction m with
  | zero => intro p D W R c o w mn τ hm hX; exact absurd hX.2.2.2.2.2.2.2 (by dsimp only; omega)
  | succ m ih =>
    intro p D W R c o w mn τ hm hX F hE hM
    have hp : p ≤ n := hX.2.2.2.2.2.2.2
    have ho : o ≤ 8 := hX.2.2.2.2.1.2
    have St := F.sg hS
    have Rt := h.fs F
    have c59 := c_162 (ch := 59) (k0 := 40) St hM (by decide) (by decide) (by decide) (by decide)
    by_cases g : w = false ∧ o = 0 ∧ tK B n p = 40
    · have ep : pX B n (m + 1) (p, D, W, R, c, o, w, mn) = .inr (xfi (p, D, W, R, c, o, w, mn), p) := if_pos g
      have hB := hX.xb g.1
      obtain ⟨b1, b2, b3, b4⟩ := hX.en (B := B) g
      obtain ⟨_, _, _, ⟨x4, x4'⟩, ⟨hz, _⟩, _⟩ := hX
      dsimp only at hB x4 x4' b3 hz
      have hln := len_no W
      rw [decide_eq_true g.2.2, if_pos rfl] at c59
      obtain ⟨σ1, d1, F1, s40, sE⟩ := c_184 (f := f) (l := 1) St ⟨by decide, by decide⟩ hB (by omega) hE.1.2.1 hE.2.1 hE.2.2.1
      have FF := F.tr (F1.mono (fun _ _ h => ws_b h))
      refine ⟨fun e he => (by rw [ep] at he; cases he), fun D' q he => ?_⟩
      rw [ep] at he
      injection he with he
      injection he with e1 e2
      subst e1 e2
      refine ⟨σ1, b_190_25 St ⟨_, _, c59, St, fun z => absurd z (by decide), fun _ => ?_⟩, FF, ?_, ?_, sE.1.2, sE.2.2⟩
      · rw [hE.2.2.2.1, hE.1.2.2, g.1, g.2.1]
        exact ⟨fun _ => ⟨fun z => absurd z (by decide), fun _ => ⟨σ1, d1, F1.sg St, rfl⟩⟩, fun z => absurd rfl z⟩
      · exact hM.cg (fun i h1 h2 => (F1.1 59 i (fun z => by unfold Wb1 at z; omega)).1)
      · rw [(F1.1 59 43 (fun z => by unfold Wb1 at z; omega)).1, hE.1.1, b3]
    · have ep : pX B n (m + 1) (p, D, W, R, c, o, w, mn) = match xst B n (p, D, W, R, c, o, w, mn) with
          | .inl e => .inl e
          | .inr y => pX B n m y := if_neg g
      have out : ∃ j, OutM (xst B n (p, D, W, R, c, o, w, mn)) B n j τ ∧ ∀ (v : Int32) (σ' : Mm) w', Cl j [.ref 59] τ (some (.int v), σ') → Sg t σ' → ((v = 0 → (w' = (some (.int 0), σ'))) ∧ (¬ (v = 0) → Ev 190 25 [.ref 59] [] σ' w')) → Ev 190 25 [.ref 59] [] τ w' := by
        cases w with
        | true =>
          refine ⟨188, c_188 St Rt hM hE hX, fun v σ' w' hc hs hw => b_190_25 St ⟨_, _, c59, St, fun _ => ?_, fun _ => ?_⟩⟩
          · rw [hE.2.2.2.1]
            exact ⟨fun z => absurd z (by decide), fun _ => ⟨_, _, hc, hs, hw⟩⟩
          · rw [hE.2.2.2.1]
            exact ⟨fun z => absurd z (by decide), fun _ => ⟨fun z => absurd z (by decide), fun _ => ⟨_, _, hc, hs, hw⟩⟩⟩
        | false =>
          refine ⟨189, c_189 St Rt hM hE hX, fun v σ' w' hc hs hw => b_190_25 St ⟨_, _, c59, St, fun _ => ?_, fun y => ?_⟩⟩
          · rw [hE.2.2.2.1]
            exact ⟨fun _ => ⟨_, _, hc, hs, hw⟩, fun z => absurd rfl z⟩
          · rw [hE.2.2.2.1, hE.1.2.2]
            refine ⟨fun _ => ⟨fun _ => ⟨fun _ => ⟨_, _, hc, hs, hw⟩, fun z => absurd rfl z⟩, fun z => ?_⟩, fun z => absurd rfl z⟩
            refine absurd ⟨rfl, ?_, ?_⟩ g
            · rcases Nat.eq_zero_or_pos o with e | e
              · exact e
              · exact absurd (nI_lt (a := 0) e (by omega)) z
            · by_cases e : tK B n p = 40
              · exact e
              · rw [decide_eq_false e] at y; exact absurd rfl y
      obtain ⟨j, ⟨oc1, oc2⟩, st⟩ := out
      cases ex : xst B n (p, D, W, R, c, o, w, mn) with
      | inl e =>
        rw [ex] at ep
        have ep : pX B n (m + 1) (p, D, W, R, c, o, w, mn) = .inl e := ep
        obtain ⟨σ', d, Fd, r⟩ := oc1 e ex
        rw [ep]
        refine ⟨fun e' he => ?_, fun D' q he => (by cases he)⟩
        injection he with he
        subst he
        exact ⟨σ', st 0 σ' _ d (Fd.sg St) ⟨fun _ => rfl, fun z => absurd rfl z⟩, (F.mono (fun _ _ h => Or.inr h)).tr Fd, r⟩
      | inr y =>
        rw [ex] at ep
        have ep : pX B n (m + 1) (p, D, W, R, c, o, w, mn) = pX B n m y := ep
        obtain ⟨σ', d, Fd, r, rM⟩ := oc2 y ex
        obtain ⟨hY, hlt, hK⟩ := hX.st ex
        have hlt : p < y.1 := hlt
        obtain ⟨yp, yD, yW, yR, yc, yo, yw, ym⟩ := y
        dsimp only at hlt r rM
        have I := ih yp yD yW yR yc yo yw ym σ' (by omega) hY (F.tr Fd) r rM
        rw [ep]
        refine ⟨fun e he => ?_, fun D' q he => ?_⟩
        · obtain ⟨σ2, d2, r2⟩ := I.1 e he
          exact ⟨σ2, st 1 σ' _ d (Fd.sg St) ⟨fun z => absurd z (by decide), fun _ => d2⟩, r2⟩
        · obtain ⟨σ2, d2, r2⟩ := I.2 D' q he
          exact ⟨σ2, st 1 σ' _ d (Fd.sg St) ⟨fun z => absurd z (by decide), fun _ => d2⟩, r2⟩
theorem c_190 {p : Nat} (hS : Sg t σ) (h : RM σ B n) (hp : p ≤ n) (hD : D 7 0 ≤ 64) (hM : MC σ B n p) (h43 : mI σ 59 43 = nI (D 7 0)) (h21 : mI σ 59 21 = nI (D 7 0)) (h9 : ∀ i, i < D 7 0 → mI σ 75 (64 + i) = nI (D 18 i) ∧ mI σ 76 (64 + i) = nI (D 19 i) ∧ (3 ≤ D 18 i → mI σ 77 (64 + i) = nI (D 20 i))) : OkM σ B n (pS B n D p) (fun v σ' => Cl 190 [.ref 59] σ (v, σ')) := by
  generalize eτ : uI (uI (uI (uI (uI σ 59 40 0) 59 41 0) 59 42 0) 59 44 1) 59 45 1 = τ
  have F : Fr Ws1 σ τ := by
    rw [← eτ]
    exact (((((Fr.rf σ).uI (Or.inl ⟨rfl, by omega⟩)).uI (Or.inl ⟨rfl, by omega⟩)).uI (Or.inl ⟨rfl, by omega⟩)).uI (Or.inl ⟨rfl, by omega⟩)).uI (Or.inl ⟨rfl, by omega⟩)
  have r : ∀ x i, ¬ (x = 59 ∧ (i = 40 ∨ i = 41 ∨ i = 42 ∨ i = 44 ∨ i = 45)) → mI τ x i = mI σ x i := fun x i h => by
    rw [← eτ, mI_n (by omega), mI_n (by omega), mI_n (by omega), mI_n (by omega), mI_n (by omega)]
  have E0 : EM τ D [] [] (D 7 0) 0 true true := by
    refine ⟨⟨(r 59 43 (by omega)).trans h43, ?_, ?_⟩, trivial, ⟨⟨?_, (r 59 21 (by omega)).trans h21⟩, trivial, fun i hi => ?_⟩, ?_, ?_⟩
    · rw [← eτ, mI_n (by decide), mI_n (by decide), mI_n (by decide), mI_n (by decide), mI_s]; rfl
    · rw [← eτ, mI_n (by decide), mI_n (by decide), mI_s]; rfl
    · rw [← eτ, mI_n (by decide), mI_n (by decide), mI_n (by decide), mI_s]; rfl
    · rw [r 75 _ (by omega), r 76 _ (by omega), r 77 _ (by omega)]; exact h9 i hi
    · rw [← eτ, mI_n (by decide), mI_s]; rfl
    · rw [← eτ, mI_s]; rfl
  have I := lp_190 (f := D 7 0) hS h (n + 1) p D [] [] (D 7 0) 0 true true τ (by omega) (XI.s0 hp hD) F E0 (hM.cg (fun i h1 h2 => r 59 i (by omega)))
  have to : ∀ w, Ev 190 25 [.ref 59] [] τ w → Cl 190 [.ref 59] σ w := by
    intro w hw
    refine ck_190 hS (b_190_0 hS (fun σ1 q => ?_))
    rw [q, eτ]
    exact hw
  refine ⟨fun e he => ?_, fun D' q he => ?_⟩
  · obtain ⟨σ', d, rr⟩ := I.1 e he
    exact ⟨σ', to _ d, rr⟩
  · obtain ⟨σ', d, rr⟩ := I.2 D' q he
    exact ⟨σ', to _ d, rr⟩
end ExM3
