/-! ===== a sum is read, first side: signs, the whole ===== -/
def E9 (σ : Mm) (a : Nat) (D : Nat → Nat → Nat) (W : List Nat) (c : Nat) (w mn : Bool) : Prop := (mI σ 1 10 = nI c ∧ mI σ 1 12 = nI W.length) ∧ WS σ W ∧ mI σ 1 15 = (if w = true then 1 else 0) ∧ mI σ 1 16 = (if mn = true then 1 else 0) ∧ mI σ a 7 = nI (D 7 0) ∧ ∀ i, i < D 7 0 → mI σ (a + 8) i = nI (D 15 i)
theorem lg_kop : ∀ k, k ≤ 43 → kop k ≠ 0 → ((k = 22 ∨ k = 21) ↔ sdg (kop k) < 3) := by decide +kernel
theorem kop_b : ∀ k, k ≤ 43 → kop k ≤ 14 ∧ bnf k ≤ 6 := by decide +kernel
section ExC3
variable {t n a : Nat} {σ : Mm} {D : Nat → Nat → Nat} {W R : List Nat} {c o : Nat} {w mn : Bool} {B : Nat → Nat}
theorem E9.put {k cm : Nat} {v : Int32} (ha : a = 3 ∨ a = 15) (h : E9 σ a D W c w mn) (hk : nI (kcl k) = v) (h13 : mI σ 1 13 = nI o) (h14 : mI σ 1 14 = nI cm) (hc : cm < 2 ^ 9) (hb : cm.testBit (nze (k :: W)) = hCm (k :: W)) (hB : CBs cm (k :: W)) : EC (uI (uI σ 14 W.length v) 1 12 (nI (W.length + 1))) a D (k :: W) c o w mn := by
  obtain ⟨⟨h1, h2⟩, h4, h6, h7, h8, h9⟩ := h
  exact ⟨⟨by rw [mI_n (by omega), mI_n (by omega)]; exact h1, mI_s, by rw [mI_n (by omega), mI_n (by omega)]; exact h13⟩, ⟨by rw [mI_n (by omega), mI_s, hk], WS.fr (fun i => mI_n (by omega)) (h4.push (Nat.le_refl _))⟩, ⟨cm, by rw [mI_n (by omega), mI_n (by omega)]; exact h14, hc, hb, hB⟩, by rw [mI_n (by omega), mI_n (by omega)]; exact h6, by rw [mI_n (by omega), mI_n (by omega)]; exact h7, by rw [mI_n (by omega), mI_n (by omega)]; exact h8, fun i hi => by rw [mI_n (by omega), mI_n (by omega)]; exact h9 i hi⟩
theorem c_63 {f p : Nat} (hS : Sg t σ) (hE : EC σ (18 - t) D W c o false mn) (hX : XI f n (p, D, W, R, c, o, false, mn)) (k6 : mI σ 1 6 = nI (tK B n p)) (k7 : mI σ 1 7 = nI (tS B n p)) : OutC (sgn B n p D W R c o mn) 63 (18 - t) σ := by
  have ha := hS.ti
  have hB := hX.xb rfl
  obtain ⟨x1, x2, x3, ⟨x4, x4'⟩, ⟨x5, x5'⟩, x6, x7, x8⟩ := hX
  dsimp only at x1 x2 x3 x4 x4' x5 x5' x6 x7 x8 hB
  obtain ⟨⟨h10, h12, h13⟩, hWS, ⟨cm, q1, q2, q3, q4⟩, h15, h16, h7, h9⟩ := hE
  have hln := len_no W
  have hlt := tK_lt B n p
  have k43 : tK B n p ≤ 43 := by omega
  have ik : ∀ m, m < 256 → (nI (tK B n p) = nI m ↔ tK B n p = m) := fun m hm => nI_eq (by omega) (by omega)
  by_cases g1 : tK B n p = 39 ∧ 0 < o
  · have el : sgn B n p D W R c o mn = .inr (tE B n p, (bnd 1 D W R).1, (bnd 1 D W R).2.1.tail, (bnd 1 D W R).2.2, c, o - 1, false, mn) := if_pos g1
    obtain ⟨σ7, d1, F7, s12, s7, s9⟩ := c_68 (f := f) (l := 1) (x1 := 0) hS (Or.inr ⟨rfl, rfl⟩) hB (by omega) h12 hWS h7 h9
    obtain ⟨i1, i2, i3, i4, i5, i6, V, i7, i8⟩ := bnd_ok (f := f) (l := 1) (Nat.le_refl _) hB
    generalize bnd 1 D W R = qq at el s12 s7 s9 i1 i2 i3 i4 i5 i6 i7
    obtain ⟨D', W', R'⟩ := qq
    dsimp only at *
    have r : ∀ x i, ¬ ((x = 1 ∧ i = 12) ∨ (x = 18 - t ∧ i = 7) ∨ x = 18 - t + 8) → mI σ7 x i = mI σ x i := fun x i h => (F7.1 x i h).1
    cases W' with
    | nil =>
      have : nze ([] : List Nat) = 0 := rfl
      omega
    | cons k rr =>
      have hk : k = 0 := by
        have i5 : sdg k < 1 := i5
        rcases i1.2.2.1.1 with e | e
        · exact e
        · have := sdg_pos e.1; omega
      subst hk
      have e2 : nze (0 :: rr) = nze rr + 1 := rfl
      have s12 : mI σ7 1 12 = nI (rr.length + 1) := s12
      have hW7 : WS σ7 (0 :: rr) := by
        rw [i7] at hWS
        exact WS.fr (fun i => r 14 i (by omega)) hWS.suf
      have hC7 : CBs cm (0 :: rr) := by
        rw [i7] at q4
        exact q4.suf
      have e1 : nI (rr.length + 1) - 1 = nI rr.length := by rw [show (1 : Int32) = nI 1 from rfl, pk_sub (by omega)]; rfl
      have eo : nI o - 1 = nI (o - 1) := by rw [show (1 : Int32) = nI 1 from rfl, pk_sub (by omega)]
      refine OutC.yes el ⟨uI (uI σ7 1 12 (nI rr.length)) 1 13 (nI (o - 1)), ck_63 hS (b_63_0 hS ?_), ((F7.mono (fun _ _ h => wpp_v h)).uI (Or.inl ⟨rfl, by decide⟩)).uI (Or.inl ⟨rfl, by decide⟩), ?_⟩
      · rw [k6, h13]
        refine ⟨fun _ => ⟨fun _ => ⟨σ7, d1, F7.sg hS, fun σ10 qe => ?_⟩, fun z => absurd (nI_lt (a := 0) g1.2 (by omega)) z⟩, fun z => absurd ((ik 39 (by decide)).mpr g1.1) z⟩
        rw [s12, e1, mI_n (by decide), r 1 13 (by omega), h13, eo] at qe
        rw [qe]
      · exact ⟨⟨by rw [mI_n (by omega), mI_n (by omega), r 1 10 (by omega)]; exact h10, by rw [mI_n (by omega), mI_s]; rfl, mI_s⟩, WS.fr (fun i => by rw [mI_n (by omega), mI_n (by omega)]) hW7.2, ⟨cm, by rw [mI_n (by omega), mI_n (by omega), r 1 14 (by omega)]; exact q1, q2, hC7.1 rfl, hC7.2⟩, by rw [mI_n (by omega), mI_n (by omega), r 1 15 (by omega)]; exact h15, by rw [mI_n (by omega), mI_n (by omega), r 1 16 (by omega)]; exact h16, by rw [mI_n (by omega), mI_n (by omega)]; exact s7, fun i hi => by rw [mI_n (by omega), mI_n (by omega)]; exact s9 i hi⟩
  · obtain ⟨kb1, kb2⟩ := bnf_kop (tK B n p) k43
    obtain ⟨kb3, kb4⟩ := kop_b (tK B n p) k43
    have c69 := c_69 (σ := σ) (k := tK B n p) hS (by omega)
    -- into the tail
    have to61 : ∀ w, (∀ s0 : Int32, s0 = (if bnf (tK B n p) = 4 then 1 else 0) → Ev 63 61 [.ref 1, .int (nI (bnf (tK B n p))), .retAddr 0] [.int s0] σ w) → Cl 63 [.ref 1] σ w := by
      intro w hw
      have one : ∃ (v : Int32) (σ1 : Mm), Cl 69 [.int (nI (tK B n p))] σ (some (.int v), σ1) ∧ Sg t σ1 ∧ ((v = 4 → Ev 63 61 [.ref 1, .int v, .retAddr 0] [.int 1] σ1 w) ∧ (¬ (v = 4) → Ev 63 61 [.ref 1, .int v, .retAddr 0] [.int 0] σ1 w)) := by
        refine ⟨_, _, c69, hS, w_p (nI_eq (b := 4) (by omega) (by decide)) (fun z => ?_) (fun z => ?_)⟩
        · exact hw 1 (by rw [if_pos z])
        · exact hw 0 (by rw [if_neg z])
      refine ck_63 hS (b_63_0 hS ?_)
      rw [k6, h13]
      refine ⟨fun z => ⟨fun y => ?_, fun _ => one⟩, fun _ => one⟩
      refine absurd ⟨(ik 39 (by decide)).mp z, ?_⟩ g1
      rcases Nat.eq_zero_or_pos o with e | e
      · rw [e] at y; exact absurd y (by decide)
      · exact e
    obtain ⟨σf, df, Ff, rf⟩ := c_40 (e := 1) hS k7
    have gd : ∃ (v : Int32) (σ1 : Mm), Cl 40 [.ref 1, .int 1] σ (some (.int v), σ1) ∧ Sg t σ1 ∧ ((v = 0 ∨ v = 1) ∧ ((some (.int 0), σf) : Option Value × Mm) = (some (.int v), σ1)) := ⟨_, _, df, Ff.sg hS, Or.inl rfl, rfl⟩
    by_cases g2 : kop (tK B n p) = 0
    · have el : sgn B n p D W R c o mn = .inl (1, tS B n p) := (if_neg g1).trans (if_pos g2)
      refine OutC.no el ⟨σf, to61 _ (fun s0 hs0 => b_63_61 hS ?_), Ff.mono (fun _ _ h => wrf_x h), rf⟩
      rw [k6]
      refine ⟨fun _ => gd, fun z => ⟨fun _ => gd, fun y => ?_⟩⟩
      rcases kb2 g2 with e | e
      · exact absurd (by rw [e]; rfl) z
      · exact absurd ((ik 23 (by decide)).mpr e) y
    · obtain ⟨kb5, kb6, kb7⟩ := kb1 g2
      obtain ⟨kk3, kk14⟩ := kop_ok g2
      have lg := lg_kop (tK B n p) k43 g2
      have hpos : 1 ≤ sdg (kop (tK B n p)) := sdg_pos (by omega)
      have n0 : ¬ nI (bnf (tK B n p)) = 0 := fun z => by have := (nI_eq (b := 0) (by omega) (by decide)).mp z; omega
      have n23 : ¬ nI (tK B n p) = 23 := fun z => kb6 ((ik 23 (by decide)).mp z)
      have ebit : (nI cm >>> (nI o &&& 31)) &&& 1 = if hCm W = true then 1 else 0 := by
        rw [nI_bit (by omega) (by omega), x5, q3]
      by_cases g3 : sdg (kop (tK B n p)) = 4 ∧ hCm W = true
      · have el : sgn B n p D W R c o mn = .inl (1, tS B n p) := (if_neg g1).trans ((if_neg g2).trans (if_pos g3))
        refine OutC.no el ⟨σf, to61 _ (fun s0 hs0 => b_63_61 hS ?_), Ff.mono (fun _ _ h => wrf_x h), rf⟩
        rw [k6, q1, h13, ebit, if_pos g3.2, hs0, if_pos (by omega)]
        exact ⟨fun _ => gd, fun _ => ⟨fun _ => gd, fun _ => ⟨fun z => absurd z (by decide), fun _ => ⟨fun z => absurd z (by decide), fun _ => gd⟩⟩⟩⟩
      · -- into the taking of the knot
        have to99 : ∀ w, (∀ s0 : Int32, s0 = (if bnf (tK B n p) = 4 then 1 else 0) → Ev 63 99 [.ref 1, .int (nI (bnf (tK B n p))), .int s0] [] σ w) → Cl 63 [.ref 1] σ w := by
          intro w hw
          refine to61 w (fun s0 hs0 => b_63_61 hS ?_)
          rw [k6, q1, h13, ebit]
          refine ⟨fun z => absurd z n0, fun _ => ⟨fun z => absurd z n23, fun _ => ⟨fun _ => hw s0 hs0, fun y => ⟨fun _ => hw s0 hs0, fun y2 => ?_⟩⟩⟩⟩
          refine absurd ⟨?_, ?_⟩ g3
          · by_cases e : bnf (tK B n p) = 4
            · omega
            · rw [hs0, if_neg e] at y; exact absurd rfl y
          · cases e : hCm W with
            | true => rfl
            | false => rw [e] at y2; exact absurd rfl y2
        by_cases g4 : c = 64
        · have el : sgn B n p D W R c o mn = .inl (2, tS B n p) := (if_neg g1).trans ((if_neg g2).trans ((if_neg g3).trans (if_pos g4)))
          obtain ⟨σ', d, F, r⟩ := c_65n (q := tS B n p) hS (by rw [h10, g4]) k7
          exact OutC.no el ⟨σ', to99 _ (fun s0 hs0 => b_63_99 hS ⟨_, _, d, F.sg hS, fun _ => rfl, fun z => absurd rfl z⟩), F.mono (fun _ _ h => wrf_x h), r⟩
        · have el : sgn B n p D W R c o mn = .inr (tE B n p, (bnd (sdg (kop (tK B n p))) D W R).1, kop (tK B n p) :: (bnd (sdg (kop (tK B n p))) D W R).2.1, (bnd (sdg (kop (tK B n p))) D W R).2.2, c + 1, o, true, decide (sdg (kop (tK B n p)) < 3)) := (if_neg g1).trans ((if_neg g2).trans ((if_neg g3).trans (if_neg g4)))
          have S1 : Sg t (uI σ 1 10 (nI (c + 1))) := hS.uI
          have F1 : Fr (Wvv (18 - t)) σ (uI σ 1 10 (nI (c + 1))) := (Fr.rf σ).uI (Or.inl ⟨rfl, by decide⟩)
          have d1 := c_65y hS h10 (by omega)
          have s6 := sdg_le (kop (tK B n p))
          obtain ⟨σ4, d2, F4, s12, s7, s9⟩ := c_68 (f := f) (l := sdg (kop (tK B n p))) (x1 := nI (bnf (tK B n p))) S1 (Or.inl ⟨by rw [kb5], hpos, s6⟩) hB (by omega) (by rw [mI_n (by omega)]; exact h12) (WS.fr (fun i => mI_n (by omega)) hWS) (by rw [mI_n (by omega)]; exact h7) (fun i hi => by rw [mI_n (by omega)]; exact h9 i hi)
          obtain ⟨i1, i2, i3, i4, i5, i6, V, i7, i8⟩ := bnd_ok (f := f) hpos hB
          have h45 : sdg (kop (tK B n p)) = 4 → hCm (bnd (sdg (kop (tK B n p))) D W R).2.1 = hCm W := by
            intro e
            have hf : hCm W = false := bf (fun z => g3 ⟨e, z⟩)
            rw [e, bnd45 hf]
            exact (bnd_ok (f := f) (l := 5) (by decide) hB).2.2.2.2.2.1 (by decide)
          have hlo : sdg (kop (tK B n p)) ≤ 4 → hCm W = false ∨ sdg (kop (tK B n p)) < 4 → True := fun _ _ => trivial
          generalize hkk : kop (tK B n p) = kk at *
          generalize bnd (sdg kk) D W R = qq at el s12 s7 s9 i1 i2 i3 i4 i5 i6 i7 h45
          obtain ⟨D', W', R'⟩ := qq
          dsimp only at *
          have r : ∀ x i, ¬ ((x = 1 ∧ (i = 12 ∨ i = 10)) ∨ (x = 18 - t ∧ i = 7) ∨ x = 18 - t + 8) → mI σ4 x i = mI σ x i := fun x i h => ((F4.1 x i (fun z => by unfold Wpp at z; omega)).1).trans (mI_n (by omega))
          have t10 : mI σ4 1 10 = nI (c + 1) := ((F4.1 1 10 (fun z => by unfold Wpp at z; omega)).1).trans mI_s
          have hW4 : WS σ4 W' := by
            rw [i7] at hWS
            exact WS.fr (fun i => r 14 i (by omega)) hWS.suf
          have hC4 : CBs cm W' := by
            rw [i7] at q4
            exact q4.suf
          have hln' := len_no W'
          have hlen' : W'.length < 72 := by omega
          have F4' : Fr (Wvv (18 - t)) σ σ4 := F1.tr (F4.mono (fun _ _ h => wpp_v h))
          have S4 := F4'.sg hS
          have t6 : mI σ4 1 6 = nI (tK B n p) := by rw [r 1 6 (by omega)]; exact k6
          have t13 : mI σ4 1 13 = nI o := by rw [r 1 13 (by omega)]; exact h13
          have t14 : mI σ4 1 14 = nI cm := by rw [r 1 14 (by omega)]; exact q1
          have ekk : nI (kcl kk) = nI (tK B n p) := by
            unfold kcl
            rw [if_neg (by omega), kb7]
          have zkk : nze (kk :: W') = o := by
            show nze W' + (if kk = 0 then 1 else 0) = o
            rw [if_neg (by omega)]; omega
          have hkkC : hCm (kk :: W') = (decide (sdg kk = 4) || hCm W') := if_neg (by omega)
          -- what stands once put off
          have endp : ∀ (τ : Mm) (m' : Bool) (cm' : Nat), Fr (Wvv (18 - t)) σ τ → E9 τ (18 - t) D' W' (c + 1) true m' → mI τ 1 13 = nI o → mI τ 1 14 = nI cm' → cm' < 2 ^ 9 → cm'.testBit o = (decide (sdg kk = 4) || hCm W') → (∀ i, i < o → cm'.testBit i = cm.testBit i) → mI τ 1 6 = nI (tK B n p) → ∃ σ', (∃ (v3 : Int32) (σ1 : Mm), Cl 66 [.ref 1, .int (mI τ 1 6)] τ (some (.int v3), σ1) ∧ Sg t σ1 ∧ ((v3 = 0 ∨ v3 = 1) ∧ ((some (.int 1), σ') : Option Value × Mm) = (some (.int v3), σ1))) ∧ Fr (Wvv (18 - t)) σ σ' ∧ EC σ' (18 - t) D' (kk :: W') (c + 1) o true m' := by
            intro τ m' cm' Ft Et u13 u14 hc9 hbit hlow u6
            have d3 := c_66 (x := nI (tK B n p)) (Ft.sg hS) Et.1.2 hlen'
            refine ⟨_, ⟨_, _, by rw [u6]; exact d3, (Ft.sg hS).uI.uI, Or.inr rfl, rfl⟩, (Ft.uI (Or.inr (Or.inr (Or.inr rfl)))).uI (Or.inl ⟨rfl, by decide⟩), Et.put ha ekk u13 u14 hc9 (by rw [zkk, hkkC]; exact hbit) ⟨fun z => absurd z (by omega), CBs.cg (fun i hi => hlow i (by omega)) hC4⟩⟩
          have mk9 : ∀ (τ : Mm) (m' : Bool), (∀ x i, ¬ (x = 1 ∧ (i = 14 ∨ i = 15 ∨ i = 16)) → mI τ x i = mI σ4 x i) → mI τ 1 15 = 1 → mI τ 1 16 = (if m' = true then 1 else 0) → E9 τ (18 - t) D' W' (c + 1) true m' := by
            intro τ m' rr u15 u16
            exact ⟨⟨(rr 1 10 (by omega)).trans t10, (rr 1 12 (by omega)).trans s12⟩, WS.fr (fun i => rr 14 i (by omega)) hW4, u15, u16, (rr _ 7 (by omega)).trans s7, fun i hi => (rr _ i (by omega)).trans (s9 i hi)⟩
          have go : ∀ w, (∀ s0 : Int32, s0 = (if sdg kk = 4 then 1 else 0) → ∀ m : Int32, m = (if decide (sdg kk < 3) = true then 1 else 0) → Ev 63 137 [.ref 1, .int (nI (bnf (tK B n p))), .int s0] [.int m, .ref 1] σ4 w) → Cl 63 [.ref 1] σ w := by
            intro w hw
            refine to99 w (fun s0 hs0 => b_63_99 hS ⟨_, _, d1, S1, fun z => absurd z (by decide), fun _ => ⟨σ4, d2, S4, ?_⟩⟩)
            rw [t6]
            have hs0' : s0 = (if sdg kk = 4 then 1 else 0) := by rw [hs0, kb5]
            refine ⟨fun z => hw s0 hs0' 1 ?_, fun z => ⟨fun y => hw s0 hs0' 1 ?_, fun y => hw s0 hs0' 0 ?_⟩⟩
            · rw [decide_eq_true (lg.mp (Or.inl ((ik 22 (by decide)).mp z))), if_pos rfl]
            · rw [decide_eq_true (lg.mp (Or.inr ((ik 21 (by decide)).mp y))), if_pos rfl]
            · rw [decide_eq_false (fun u => (lg.mpr u).elim (fun v => z ((ik 22 (by decide)).mpr v)) (fun v => y ((ik 21 (by decide)).mpr v)))]; rfl
          by_cases g5 : sdg kk < 3
          · -- and, or
            have hf : hCm W' = false := hC_lo i1.2.2.1 (by omega)
            have em : decide (sdg kk < 3) = true := decide_eq_true g5
            have e1 : nI cm &&& (((1 : Int32) <<< (nI o &&& 31)) ^^^ (-1)) = nI (clr cm o) := by
              rw [nI_one (by omega), nI_andn]; rfl
            obtain ⟨σ', dd, Fd, Ed⟩ := endp (uI (uI (uI σ4 1 16 1) 1 14 (nI (clr cm o))) 1 15 1) true (clr cm o) (((F4'.uI (Or.inl ⟨rfl, by decide⟩)).uI (Or.inl ⟨rfl, by decide⟩)).uI (Or.inl ⟨rfl, by decide⟩)) (mk9 _ true (fun x i h => by rw [mI_n (by omega), mI_n (by omega), mI_n (by omega)]) mI_s (by rw [mI_n (by decide), mI_n (by decide), mI_s]; rfl)) (by rw [mI_n (by decide), mI_n (by decide), mI_n (by decide)]; exact t13) (by rw [mI_n (by decide), mI_s]) (clr_lt q2) (by rw [clr_t, decide_eq_false (fun z => z rfl), Bool.and_false, hf, decide_eq_false (by omega)]; rfl) (fun i hi => by rw [clr_t, decide_eq_true (by omega), Bool.and_true]) (by rw [mI_n (by decide), mI_n (by decide), mI_n (by decide)]; exact t6)
            rw [em] at el
            refine OutC.yes el ⟨σ', go _ (fun s0 hs0 m hm => b_63_137 S4 ?_), Fd, Ed⟩
            rw [em, if_pos rfl] at hm
            subst hm
            refine ⟨Or.inr rfl, ?_⟩
            rw [mI_s]
            refine ⟨fun z => absurd z (by decide), fun _ σ10 qe => ?_⟩
            rw [mI_n (by decide), t14, mI_n (by decide), t13, e1] at qe
            rw [qe]
            exact dd
          · have em : decide (sdg kk < 3) = false := decide_eq_false g5
            rw [em] at el
            by_cases g6 : sdg kk = 4
            · -- a comparison
              have e1 : nI cm ||| ((1 : Int32) <<< (nI o &&& 31)) = nI (cm ||| 2 ^ o) := by
                rw [nI_one (by omega), fa_or]
              obtain ⟨σ', dd, Fd, Ed⟩ := endp (uI (uI (uI σ4 1 16 0) 1 14 (nI (cm ||| 2 ^ o))) 1 15 1) false (cm ||| 2 ^ o) (((F4'.uI (Or.inl ⟨rfl, by decide⟩)).uI (Or.inl ⟨rfl, by decide⟩)).uI (Or.inl ⟨rfl, by decide⟩)) (mk9 _ false (fun x i h => by rw [mI_n (by omega), mI_n (by omega), mI_n (by omega)]) mI_s (by rw [mI_n (by decide), mI_n (by decide), mI_s]; rfl)) (by rw [mI_n (by decide), mI_n (by decide), mI_n (by decide)]; exact t13) (by rw [mI_n (by decide), mI_s]) (set_lt q2 x5') (by rw [set_t, decide_eq_true rfl, Bool.or_true, decide_eq_true g6]; rfl) (fun i hi => by rw [set_t, decide_eq_false (by omega), Bool.or_false]) (by rw [mI_n (by decide), mI_n (by decide), mI_n (by decide)]; exact t6)
              refine OutC.yes el ⟨σ', go _ (fun s0 hs0 m hm => b_63_137 S4 ?_), Fd, Ed⟩
              rw [em] at hm
              have hm : m = 0 := hm
              subst hm
              rw [if_pos g6] at hs0
              refine ⟨Or.inl rfl, ?_⟩
              rw [mI_s]
              refine ⟨fun _ => ⟨fun z => absurd (hs0.symm.trans z) (by decide), fun _ σ10 qe => ?_⟩, fun z => absurd rfl z⟩
              rw [mI_n (by decide), t14, mI_n (by decide), t13, e1] at qe
              rw [qe]
              exact dd
            · -- reckoning signs
              have g7 : 5 ≤ sdg kk := by
                have hd : ∀ k, k ≤ 14 → 3 ≤ k → ¬ sdg k < 3 → sdg k ≠ 4 → 5 ≤ sdg k := by decide +kernel
                exact hd kk kk14 kk3 g5 g6
              obtain ⟨σ', dd, Fd, Ed⟩ := endp (uI (uI σ4 1 16 0) 1 15 1) false cm ((F4'.uI (Or.inl ⟨rfl, by decide⟩)).uI (Or.inl ⟨rfl, by decide⟩)) (mk9 _ false (fun x i h => by rw [mI_n (by omega), mI_n (by omega)]) mI_s (by rw [mI_n (by decide), mI_s]; rfl)) (by rw [mI_n (by decide), mI_n (by decide)]; exact t13) (by rw [mI_n (by decide), mI_n (by decide)]; exact t14) q2 (by rw [decide_eq_false g6, i6 g7, x5, q3]; rfl) (fun i hi => rfl) (by rw [mI_n (by decide), mI_n (by decide)]; exact t6)
              refine OutC.yes el ⟨σ', go _ (fun s0 hs0 m hm => b_63_137 S4 ?_), Fd, Ed⟩
              rw [em] at hm
              have hm : m = 0 := hm
              subst hm
              rw [if_neg g6] at hs0
              refine ⟨Or.inl rfl, ?_⟩
              rw [mI_s]
              exact ⟨fun _ => ⟨fun _ => dd, fun z => absurd hs0 z⟩, fun z => absurd rfl z⟩
end ExC3
