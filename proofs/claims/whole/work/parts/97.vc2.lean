/-! ===== lines, second side: pulls, rings, laws ===== -/
section LinM2
variable {t n : Nat} {σ σ' : Mm} {D : Nat → Nat → Nat} {B : Nat → Nat}
/-- behind the last one anything may stand -/
theorem MRd.beyond {f j v : Nat} (h1 : 8 ≤ f) (h2 : f ≤ 14) (hj : D (cf f) 0 ≤ j) : MRd σ (hu D f j v) ↔ MRd σ D := by
  have c0 : ∀ g i, g ≤ 7 ∨ 15 ≤ g → hu D f j v g i = D g i := fun g i hg => hu_n (by omega)
  have ca : ∀ f' i, 8 ≤ f' → i < D (cf f') 0 → hu D f j v f' i = D f' i := fun f' i h hi => hu_n (fun z => by rw [z.1] at hi; omega)
  unfold MRd
  rw [c0 0 0 (by omega), c0 1 0 (by omega), c0 2 0 (by omega), c0 3 0 (by omega), c0 4 0 (by omega), c0 5 0 (by omega), c0 6 0 (by omega), c0 7 0 (by omega), c0 21 0 (by omega), c0 22 0 (by omega)]
  constructor
  · rintro ⟨a, b, c, d, e, g⟩
    refine ⟨a, b, c, fun f' i h1' h2' hi => ?_, fun i hi => ?_, fun q hq => ?_⟩
    · rw [← ca f' i h1' hi]; exact d f' i h1' h2' (by rw [c0 _ 0 (Or.inl cf_lt)]; exact hi)
    · have := e i hi; rw [c0 18 i (by omega), c0 19 i (by omega), c0 20 i (by omega)] at this; exact this
    · have := g q hq; rw [c0 16 q (by omega), c0 17 q (by omega)] at this; exact this
  · rintro ⟨a, b, c, d, e, g⟩
    refine ⟨a, b, c, fun f' i h1' h2' hi => ?_, fun i hi => ?_, fun q hq => ?_⟩
    · rw [c0 _ 0 (Or.inl cf_lt)] at hi; rw [ca f' i h1' hi]; exact d f' i h1' h2' hi
    · rw [c0 18 i (by omega), c0 19 i (by omega), c0 20 i (by omega)]; exact e i hi
    · rw [c0 16 q (by omega), c0 17 q (by omega)]; exact g q hq
/-- a cell behind the last one is written -/
theorem MRd.wr {f v : Nat} (h : MRd σ D) (h1 : 8 ≤ f) (h2 : f ≤ 14) : MRd (uI σ (57 + f) (mof f + D (cf f) 0) (nI v)) D := (MRd.beyond h1 h2 (Nat.le_refl _)).mp (h.put (f := f) (j := D (cf f) 0) (v := v) h1 h2)
theorem lp_172 {nm co : Nat} (hS : Sg t σ) (h : RM σ B n) (hW : WDr D) (hP : D 1 0 < 10) : ∀ m p s τ, n < p + m → p ≤ n → s < 2 ^ D 0 0 → Fr Wm1 σ τ → MC τ B n p → MRd τ D → mI τ 66 (10 + D 1 0) = nI nm → mI τ 67 (10 + D 1 0) = nI co → mI τ 68 (10 + D 1 0) = nI s → (∀ e, pTies B n D m s p = .inl e → ∃ σ', Ev 172 75 [.ref 59, .int (nI (10 + D 1 0))] [] τ (some (.int 0), σ') ∧ Fr Wm0 σ σ' ∧ MF e σ') ∧ (∀ s' q, pTies B n D m s p = .inr (s', q) → ∃ σ', Ev 172 75 [.ref 59, .int (nI (10 + D 1 0))] [] τ (some (.int 1), σ') ∧ Fr Wm1 σ σ' ∧ MC σ' B n q ∧ MRd σ' (wPull D nm co s')) := by
  have hL := hW.1.1.1
  have inP : inb (nI (10 + D 1 0)) 20 = true := inb_nI (by omega) (by decide)
  intro m
  induction m with
  | zero => intro p s τ h1 h2; omega
  | succ m ih =>
    intro p s τ hm hp hs F hM hR v66 v67 v68
    have St := F.sg hS
    have Rt := h.fm F
    have hT := hM.2.2
    have hs31 : s < 2 ^ 31 := Nat.lt_trans hs (Nat.pow_lt_pow_right (by decide) (by omega))
    obtain ⟨y, no⟩ := r_171 (s := s) St Rt hM hp hR hW hs31
    have fle : fdl D (tV B n p) ≤ D 0 0 := fa_first_le _ _
    have eT : pTies B n D (m + 1) s p = if ¬ tK B n p = 3 then .inr (s, p) else if ¬ fdl D (tV B n p) < D 0 0 then .inl (4, tS B n p) else if s.testBit (fdl D (tV B n p)) = true then .inl (3, tS B n p) else pTies B n D m (s ||| 2 ^ fdl D (tV B n p)) (tE B n p) := rfl
    rw [eT]
    by_cases g1 : tK B n p = 3
    · rw [if_neg (fun z => z g1)]
      have bad : ∀ e, ((tK B n p ≠ 3 ∧ e = 1) ∨ (tK B n p = 3 ∧ ¬ fdl D (tV B n p) < D 0 0 ∧ e = 4) ∨ (tK B n p = 3 ∧ fdl D (tV B n p) < D 0 0 ∧ s.testBit (fdl D (tV B n p)) = true ∧ e = 3)) → ∃ σ', Ev 172 75 [.ref 59, .int (nI (10 + D 1 0))] [] τ (some (.int 0), σ') ∧ Fr Wm0 σ σ' ∧ MF (e, tS B n p) σ' := by
        intro e he
        obtain ⟨σ', d, Ff, r⟩ := no e he
        refine ⟨σ', b_172_75 St ⟨fun _ => ⟨inP, ?_⟩, fun z => absurd (hT.n2.mpr g1) z⟩, (F.mono (fun _ _ h => Or.inr h)).tr Ff, r⟩
        rw [nI_clamp (by omega), v68]
        exact ⟨_, _, d, Ff.sg St, fun _ => rfl, fun z => absurd rfl z⟩
      by_cases g2 : fdl D (tV B n p) < D 0 0
      · rw [if_neg (fun z => z g2)]
        by_cases g3 : s.testBit (fdl D (tV B n p)) = true
        · rw [if_pos g3]
          refine ⟨fun e he => ?_, fun s' q he => (by cases he)⟩
          injection he with he
          subst he
          exact bad 3 (Or.inr (Or.inr ⟨g1, g2, g3, rfl⟩))
        · rw [if_neg g3]
          obtain ⟨σ1, d, F1, M1, v1⟩ := y g1 g2 (bf g3)
          have R1 := hR.f11 F1
          have r1 : ∀ x i, 62 ≤ x → mI σ1 x i = mI τ x i := fun x i hx => (F1.1 x i (fun z => by unfold Wz at z; omega)).1
          have FF1 : Fr Wm1 σ σ1 := F.tr (F1.mono (fun _ _ h => wz11 h))
          have R2 : MRd (uI σ1 68 (10 + D 1 0) (nI (s ||| 2 ^ fdl D (tV B n p)))) D := R1.wr (f := 11) (by decide) (by decide)
          have F2 : Fr Wm1 σ (uI σ1 68 (10 + D 1 0) (nI (s ||| 2 ^ fdl D (tV B n p)))) := FF1.uI (mof_w (f := 11) (by decide) (by decide))
          obtain ⟨d3, d4⟩ := tE_adv (B := B) hp (by omega)
          have I := ih (tE B n p) (s ||| 2 ^ fdl D (tV B n p)) _ (by omega) d4 (Nat.or_lt_two_pow hs (Nat.pow_lt_pow_right (by decide) g2)) F2 (M1.cg (fun i h1 h2 => mI_n (by omega))) R2 (by rw [mI_n (by omega), r1 66 _ (by decide)]; exact v66) (by rw [mI_n (by omega), r1 67 _ (by decide)]; exact v67) mI_s
          have to : ∀ w', Ev 172 75 [.ref 59, .int (nI (10 + D 1 0))] [] (uI σ1 68 (10 + D 1 0) (nI (s ||| 2 ^ fdl D (tV B n p)))) w' → Ev 172 75 [.ref 59, .int (nI (10 + D 1 0))] [] τ w' := by
            intro w' hw
            refine b_172_75 St ⟨fun _ => ⟨inP, ?_⟩, fun z => absurd (hT.n2.mpr g1) z⟩
            rw [nI_clamp (by omega), v68]
            refine ⟨_, _, d, F1.sg St, fun z => absurd z (by decide), fun _ => ⟨inP, inP, fun σ4 q4 => ?_⟩⟩
            rw [r1 68 _ (by decide), v68, v1, nI_one (by omega), fa_or] at q4
            rw [q4]
            exact hw
          refine ⟨fun e he => ?_, fun s' q he => ?_⟩
          · obtain ⟨σ', d, r⟩ := I.1 e he
            exact ⟨σ', to _ d, r⟩
          · obtain ⟨σ', d, r⟩ := I.2 s' q he
            exact ⟨σ', to _ d, r⟩
      · rw [if_pos g2]
        refine ⟨fun e he => ?_, fun s' q he => (by cases he)⟩
        injection he with he
        subst he
        exact bad 4 (Or.inr (Or.inl ⟨g1, g2, rfl⟩))
    · rw [if_pos g1]
      refine ⟨fun e he => (by cases he), fun s' q he => ?_⟩
      injection he with he
      injection he with e1 e2
      subst e1 e2
      have Ra : MRd τ (hu D 9 (D 1 0) nm) := (MRd.beyond (by decide) (by decide) (by show D 1 0 ≤ D 1 0; omega)).mpr hR
      have Rb : MRd τ (hu (hu D 9 (D 1 0) nm) 10 (D 1 0) co) := (MRd.beyond (by decide) (by decide) (by show hu D 9 (D 1 0) nm 1 0 ≤ D 1 0; rw [hu_n (by omega)]; omega)).mpr Ra
      have Rc : MRd τ (hu (hu (hu D 9 (D 1 0) nm) 10 (D 1 0) co) 11 (D 1 0) s) := (MRd.beyond (by decide) (by decide) (by show hu (hu D 9 (D 1 0) nm) 10 (D 1 0) co 1 0 ≤ D 1 0; rw [hu_n (by omega), hu_n (by omega)]; omega)).mpr Rb
      have eD : hu (hu (hu D 9 (D 1 0) nm) 10 (D 1 0) co) 11 (D 1 0) s 1 0 = D 1 0 := by rw [hu_n (by omega), hu_n (by omega), hu_n (by omega)]
      have Rd := Rc.cnt (c := 1) (k := 18) (Or.inr (Or.inl ⟨rfl, rfl⟩)) (fun f f1 f2 fc => by
        have hf : f = 9 ∨ f = 10 ∨ f = 11 := by
          unfold cf at fc
          repeat' split at fc
          all_goals omega
        rw [eD]
        rcases hf with rfl | rfl | rfl
        · rw [hu_n (by omega), hu_n (by omega), hu_s]; exact v66
        · rw [hu_n (by omega), hu_s]; exact v67
        · rw [hu_s]; exact v68)
      rw [eD] at Rd
      refine ⟨uI τ 59 18 (nI (D 1 0 + 1)), b_172_75 St ⟨fun z => absurd (hT.n2.mp z) g1, fun _ => ?_⟩, F.uI (Or.inl ⟨rfl, by omega⟩), hM.cg (fun i h1 h2 => mI_n (by omega)), Rd⟩
      rw [hR.1.2.1, nI_1]
theorem c_172 {p0 : Nat} (hS : Sg t σ) (h : RM σ B n) (hM : MC σ B n p0) (hp0 : p0 ≤ n) (hk0 : tK B n p0 ≠ 0) (hR : MRd σ D) (hW : WDr D) : OkN σ B n (pPull B n D (tS B n p0) (tE B n p0)) (fun v σ' => Cl 172 [.ref 59] σ (v, σ')) := by
  have hP := hW.1.1.2.1
  have hp := tE_le (B := B) hp0
  have l1 := hR.1.2.1
  have i10 : (nI (D 1 0) = 10) ↔ D 1 0 = 10 := nI_eq (b := 10) (by omega) (by decide)
  by_cases g0 : D 1 0 = 10
  · obtain ⟨σ', d, F, r⟩ := c_154 (e := 2) hS hM.2.1
    refine OkN.no (if_pos g0) ⟨σ', ck_172 hS (b_172_0 hS ?_), F.mono (fun _ _ h => wm_f h), r⟩
    rw [l1]
    exact ⟨fun _ => ⟨_, _, d, F.sg hS, Or.inl rfl, rfl⟩, fun z => absurd (i10.mpr g0) z⟩
  · obtain ⟨σ1, d1, F1, R1, M1⟩ := nxr hS h hM hp0 hR
    have S1 := F1.sg hS
    generalize hpp : tE B n p0 = p at *
    have FF1 : Fr Wm1 σ σ1 := F1.mono (fun _ _ h => wm_z h)
    obtain ⟨y, no⟩ := r_168 (f := 9) (n0 := 20) S1 (h.fz F1) M1 hp R1 hW (Or.inr ⟨rfl, rfl, by omega⟩)
    have e10 : (10 : Int32) + nI (D 1 0) = nI (10 + D 1 0) := nI_add 10 (D 1 0)
    have inP : inb (nI (10 + D 1 0)) 20 = true := inb_nI (by omega) (by decide)
    have to : ∀ w', (∃ (v6 : Int32) (σ4 : Mm), Cl 168 [.ref 59, .ref 66, .int 10, .int (nI (D 1 0))] σ1 (some (.int v6), σ4) ∧ Sg t σ4 ∧ ((v6 = 0 → (w' = (some (.int 0), σ4))) ∧ (¬ (v6 = 0) → (∃ (v9 : Int32) (σ7 : Mm), Cl 163 [.ref 59, .int 0, .int 99] σ4 (some (.int v9), σ7) ∧ Sg t σ7 ∧ ((v9 = 0 → (w' = (some (.int 0), σ7))) ∧ (¬ (v9 = 0) → (inb (10 + (mI σ4 59 18)) 20 = true ∧ (∀ (σ10 : Mm), σ10 = uI σ7 67 (10 + (mI σ4 59 18)).toNatClampNeg (mI σ7 59 11) → (inb (10 + (mI σ4 59 18)) 20 = true ∧ (∀ (σ13 : Mm), σ13 = uI σ10 68 (10 + (mI σ4 59 18)).toNatClampNeg 0 → Ev 172 75 [.ref 59, .int (10 + (mI σ4 59 18))] [] σ13 w')))))))))) → Cl 172 [.ref 59] σ w' := by
      intro w' hw
      refine ck_172 hS (b_172_0 hS ?_)
      rw [l1]
      refine ⟨fun z => absurd (i10.mp z) g0, fun _ => ⟨σ1, d1, S1, ?_⟩⟩
      rw [R1.1.2.1]
      exact hw
    by_cases g1 : tK B n p = 3
    · have e1 : pPull B n D (tS B n p0) p = if fdp D (tV B n p) < D 1 0 then .inl (3, tS B n p) else if ¬ tK B n (tE B n p) = 2 then .inl (1, tS B n (tE B n p)) else if 99 < tV B n (tE B n p) then .inl (2, tS B n (tE B n p)) else match pTies B n D (n + 1) 0 (tE B n (tE B n p)) with
          | .inl e => .inl e
          | .inr (s, q) => .inr (wPull D (tV B n p) (tV B n (tE B n p)) s, q) := (if_neg g0).trans (if_neg (fun z => z g1))
      by_cases g2 : fdp D (tV B n p) < D 1 0
      · obtain ⟨σ', d, F, r⟩ := no 3 (Or.inr ⟨g1, g2, rfl⟩)
        exact OkN.no (e1.trans (if_pos g2)) ⟨σ', to _ ⟨_, _, d, F.sg S1, fun _ => rfl, fun z => absurd rfl z⟩, (FF1.mono (fun _ _ h => Or.inr h)).tr (F.mono (fun _ _ h => wm_f h)), r⟩
      · have e2 := e1.trans (if_neg g2)
        obtain ⟨σ4, d, F, M4, R4, v4⟩ := y g1 g2
        have v4 : mI σ4 66 (10 + D 1 0) = nI (tV B n p) := v4
        have R4' : MRd σ4 D := (MRd.beyond (by decide) (by decide) (by show D 1 0 ≤ D 1 0; omega)).mp R4
        have F4 : Fr Wm1 σ σ4 := FF1.tr (F.mono (fun x i h => by
          rcases h with h | ⟨rfl, h⟩
          · exact wm_z h
          · rw [h]; exact mof_w (f := 9) (by decide) (by decide)))
        have S4 := F4.sg hS
        obtain ⟨d3, d4⟩ := tE_adv (B := B) hp (by omega)
        obtain ⟨ny, nno'⟩ := c_163 (m := 99) S4 (h.fm F4) M4 d4 (by decide)
        have l4 := R4'.1.2.1
        have to2 : ∀ w', (∃ (v9 : Int32) (σ7 : Mm), Cl 163 [.ref 59, .int 0, .int 99] σ4 (some (.int v9), σ7) ∧ Sg t σ7 ∧ ((v9 = 0 → (w' = (some (.int 0), σ7))) ∧ (¬ (v9 = 0) → Ev 172 75 [.ref 59, .int (nI (10 + D 1 0))] [] (uI (uI σ7 67 (10 + D 1 0) (mI σ7 59 11)) 68 (10 + D 1 0) 0) w'))) → Cl 172 [.ref 59] σ w' := by
          intro w' hw
          refine to w' ⟨_, _, d, S4, fun z => absurd z (by decide), fun _ => ?_⟩
          rw [l4, e10, nI_clamp (by omega)]
          obtain ⟨v9, σ7, q1, q2, q3, q4⟩ := hw
          exact ⟨v9, σ7, q1, q2, q3, fun z => ⟨inP, fun σ10 q10 => ⟨inP, fun σ13 q13 => by rw [q13, q10]; exact q4 z⟩⟩⟩
        by_cases g3 : tK B n (tE B n p) = 2
        · have e3 := e2.trans (if_neg (fun z => z g3))
          by_cases g4 : 99 < tV B n (tE B n p)
          · obtain ⟨σ', d5, F5, r⟩ := nno' 2 (Or.inr ⟨g3, g4, rfl⟩)
            exact OkN.no (e3.trans (if_pos g4)) ⟨σ', to2 _ ⟨_, _, d5, F5.sg S4, fun _ => rfl, fun z => absurd rfl z⟩, (F4.mono (fun _ _ h => Or.inr h)).tr (F5.mono (fun _ _ h => wm_f h)), r⟩
          · have e4 := e3.trans (if_neg g4)
            obtain ⟨σ7, d5, F5, M7, v7⟩ := ny g3 (by omega)
            have R7 := R4'.f11 F5
            have F7 : Fr Wm1 σ σ7 := F4.tr (F5.mono (fun _ _ h => wz11 h))
            obtain ⟨d6, d7⟩ := tE_adv (B := B) d4 (by omega)
            have R8 : MRd (uI σ7 67 (10 + D 1 0) (nI (tV B n (tE B n p)))) D := R7.wr (f := 10) (by decide) (by decide)
            have R9 : MRd (uI (uI σ7 67 (10 + D 1 0) (nI (tV B n (tE B n p)))) 68 (10 + D 1 0) 0) D := R8.wr (f := 11) (v := 0) (by decide) (by decide)
            have F9 : Fr Wm1 σ (uI (uI σ7 67 (10 + D 1 0) (nI (tV B n (tE B n p)))) 68 (10 + D 1 0) 0) := (F7.uI (mof_w (f := 10) (by decide) (by decide))).uI (mof_w (f := 11) (by decide) (by decide))
            have L := lp_172 (nm := tV B n p) (co := tV B n (tE B n p)) hS h hW (by omega) (n + 1) (tE B n (tE B n p)) 0 _ (by omega) d7 (Nat.two_pow_pos _) F9 (M7.cg (fun i h1 h2 => by rw [mI_n (by omega), mI_n (by omega)])) R9 (by rw [mI_n (by omega), mI_n (by omega), (F5.1 66 _ (fun z => by unfold Wz at z; omega)).1]; exact v4) (by rw [mI_n (by omega), mI_s]) mI_s
            have to3 : ∀ w', Ev 172 75 [.ref 59, .int (nI (10 + D 1 0))] [] (uI (uI σ7 67 (10 + D 1 0) (nI (tV B n (tE B n p)))) 68 (10 + D 1 0) 0) w' → Cl 172 [.ref 59] σ w' := by
              intro w' hw
              refine to2 w' ⟨_, _, d5, F7.sg hS, fun z => absurd z (by decide), fun _ => ?_⟩
              rw [v7]
              exact hw
            cases hT : pTies B n D (n + 1) 0 (tE B n (tE B n p)) with
            | inl e =>
              rw [hT] at e4
              have e4 : pPull B n D (tS B n p0) p = .inl e := e4
              obtain ⟨σ', d', r⟩ := L.1 e hT
              exact OkN.no e4 ⟨σ', to3 _ d', r⟩
            | inr r1 =>
              obtain ⟨s, q⟩ := r1
              rw [hT] at e4
              have e4 : pPull B n D (tS B n p0) p = .inr (wPull D (tV B n p) (tV B n (tE B n p)) s, q) := e4
              obtain ⟨σ', d', r⟩ := L.2 s q hT
              exact OkN.yes e4 ⟨σ', to3 _ d', r⟩
        · obtain ⟨σ', d5, F5, r⟩ := nno' 1 (Or.inl ⟨g3, rfl⟩)
          exact OkN.no (e2.trans (if_pos g3)) ⟨σ', to2 _ ⟨_, _, d5, F5.sg S4, fun _ => rfl, fun z => absurd rfl z⟩, (F4.mono (fun _ _ h => Or.inr h)).tr (F5.mono (fun _ _ h => wm_f h)), r⟩
    · obtain ⟨σ', d, F, r⟩ := no 1 (Or.inl ⟨g1, rfl⟩)
      exact OkN.no ((if_neg g0).trans (if_pos g1)) ⟨σ', to _ ⟨_, _, d, F.sg S1, fun _ => rfl, fun z => absurd rfl z⟩, (FF1.mono (fun _ _ h => Or.inr h)).tr (F.mono (fun _ _ h => wm_f h)), r⟩
theorem c_174 {p0 : Nat} (hS : Sg t σ) (h : RM σ B n) (hM : MC σ B n p0) (hp0 : p0 ≤ n) (hR : MRd σ D) (hW : WDr D) : OkN σ B n (pRing B n D (tS B n p0) (tE B n p0)) (fun v σ' => Cl 174 [.ref 59] σ (v, σ')) := by
  have hP := hW.1.1.2.1
  have hR3 := hW.1.1.2.2.2.1
  have hp := tE_le (B := B) hp0
  have l3 := hR.1.2.2.2.1
  have i14 : (nI (D 3 0) = 14) ↔ D 3 0 = 14 := nI_eq (b := 14) (by omega) (by decide)
  by_cases g0 : D 3 0 = 14
  · obtain ⟨σ', d, F, r⟩ := c_154 (e := 2) hS hM.2.1
    refine OkN.no (if_pos g0) ⟨σ', ck_174 hS (b_174_0 hS ?_), F.mono (fun _ _ h => wm_f h), r⟩
    rw [l3]
    exact ⟨fun _ => ⟨_, _, d, F.sg hS, Or.inl rfl, rfl⟩, fun z => absurd (i14.mpr g0) z⟩
  · obtain ⟨σ1, d1, F1, R1, M1⟩ := nxr hS h hM hp0 hR
    have S1 := F1.sg hS
    generalize hpp : tE B n p0 = p at *
    have FF1 : Fr Wm1 σ σ1 := F1.mono (fun _ _ h => wm_z h)
    obtain ⟨y, no⟩ := r_169 (f := 9) (n0 := 20) S1 (h.fz F1) M1 hp R1 hW (Or.inr ⟨rfl, rfl⟩)
    have e14 : (14 : Int32) + nI (D 3 0) = nI (14 + D 3 0) := nI_add 14 (D 3 0)
    have in28 : inb (nI (14 + D 3 0)) 28 = true := inb_nI (by omega) (by decide)
    have to : ∀ w', (∃ (v6 : Int32) (σ4 : Mm), Cl 169 [.ref 59, .ref 66, .int 10, .int (nI (D 1 0))] σ1 (some (.int v6), σ4) ∧ Sg t σ4 ∧ ((v6 = 0 → (w' = (some (.int 0), σ4))) ∧ (¬ (v6 = 0) → (∃ (v12 : Int32) (σ10 : Mm), Cl 163 [.ref 59, .int 0, .int 99] (uI σ4 69 (14 + D 3 0) (mI σ4 59 11)) (some (.int v12), σ10) ∧ Sg t σ10 ∧ ((v12 = 0 → (w' = (some (.int 0), σ10))) ∧ (¬ (v12 = 0) → (∀ (σ13 : Mm), σ13 = uI σ10 70 (14 + D 3 0) (mI σ10 59 11) → (w' = (some (.int 1), uI σ13 59 19 ((mI σ13 59 19) + 1))))))))) ) → Cl 174 [.ref 59] σ w' := by
      intro w' hw
      refine ck_174 hS (b_174_0 hS ?_)
      rw [l3]
      refine ⟨fun z => absurd (i14.mp z) g0, fun _ => ⟨σ1, d1, S1, ?_⟩⟩
      rw [R1.1.2.1, R1.1.2.2.2.1, e14, nI_clamp (by omega)]
      obtain ⟨v6, σ4, q1, q2, q3, q4⟩ := hw
      refine ⟨v6, σ4, q1, q2, q3, fun z => ⟨in28, fun σ7 q7 => ?_⟩⟩
      obtain ⟨v12, σ10, r1, r2, r3, r4⟩ := q4 z
      rw [q7]
      exact ⟨v12, σ10, r1, r2, r3, fun z => ⟨in28, r4 z⟩⟩
    by_cases g1 : tK B n p = 3
    · have e1 : pRing B n D (tS B n p0) p = if ¬ fdp D (tV B n p) < D 1 0 then .inl (4, tS B n p) else if ¬ tK B n (tE B n p) = 2 then .inl (1, tS B n (tE B n p)) else if 99 < tV B n (tE B n p) then .inl (2, tS B n (tE B n p)) else .inr (wRing D (fdp D (tV B n p)) (tV B n (tE B n p)), tE B n (tE B n p)) := (if_neg g0).trans (if_neg (fun z => z g1))
      by_cases g2 : fdp D (tV B n p) < D 1 0
      · have e2 := e1.trans (if_neg (fun z => z g2))
        obtain ⟨σ4, d, F, M4, v4⟩ := y g1 g2
        have v4 : mI σ4 59 11 = nI (fdp D (tV B n p)) := v4
        have R4 := R1.f11 F
        have F4 : Fr Wm1 σ σ4 := FF1.tr (F.mono (fun _ _ h => wz11 h))
        have R5 : MRd (uI σ4 69 (14 + D 3 0) (nI (fdp D (tV B n p)))) D := R4.wr (f := 12) (by decide) (by decide)
        have F5 : Fr Wm1 σ (uI σ4 69 (14 + D 3 0) (nI (fdp D (tV B n p)))) := F4.uI (mof_w (f := 12) (by decide) (by decide))
        have S5 := F5.sg hS
        have M5 : MC (uI σ4 69 (14 + D 3 0) (nI (fdp D (tV B n p)))) B n (tE B n p) := M4.cg (fun i h1 h2 => mI_n (by omega))
        obtain ⟨d3, d4⟩ := tE_adv (B := B) hp (by omega)
        obtain ⟨ny, nno'⟩ := c_163 (m := 99) S5 (h.fm F5) M5 d4 (by decide)
        have to2 : ∀ w', (∃ (v12 : Int32) (σ10 : Mm), Cl 163 [.ref 59, .int 0, .int 99] (uI σ4 69 (14 + D 3 0) (nI (fdp D (tV B n p)))) (some (.int v12), σ10) ∧ Sg t σ10 ∧ ((v12 = 0 → (w' = (some (.int 0), σ10))) ∧ (¬ (v12 = 0) → (∀ (σ13 : Mm), σ13 = uI σ10 70 (14 + D 3 0) (mI σ10 59 11) → (w' = (some (.int 1), uI σ13 59 19 ((mI σ13 59 19) + 1))))))) → Cl 174 [.ref 59] σ w' := by
          intro w' hw
          refine to w' ⟨_, _, d, F4.sg hS, fun z => absurd z (by decide), fun _ => ?_⟩
          rw [v4]
          exact hw
        by_cases g3 : tK B n (tE B n p) = 2
        · have e3 := e2.trans (if_neg (fun z => z g3))
          by_cases g4 : 99 < tV B n (tE B n p)
          · obtain ⟨σ', d6, F6, r⟩ := nno' 2 (Or.inr ⟨g3, g4, rfl⟩)
            exact OkN.no (e3.trans (if_pos g4)) ⟨σ', to2 _ ⟨_, _, d6, F6.sg S5, fun _ => rfl, fun z => absurd rfl z⟩, (F5.mono (fun _ _ h => Or.inr h)).tr (F6.mono (fun _ _ h => wm_f h)), r⟩
          · obtain ⟨σ10, d6, F6, M10, v10⟩ := ny g3 (by omega)
            have R10 := R5.f11 F6
            have F10 : Fr Wm1 σ σ10 := F5.tr (F6.mono (fun _ _ h => wz11 h))
            have v69 : mI σ10 69 (14 + D 3 0) = nI (fdp D (tV B n p)) := by rw [(F6.1 69 _ (fun z => by unfold Wz at z; omega)).1, mI_s]
            have R13 : MRd (uI σ10 70 (14 + D 3 0) (nI (tV B n (tE B n p)))) D := R10.wr (f := 13) (by decide) (by decide)
            have Ra : MRd (uI σ10 70 (14 + D 3 0) (nI (tV B n (tE B n p)))) (hu D 12 (D 3 0) (fdp D (tV B n p))) := (MRd.beyond (by decide) (by decide) (by show D 3 0 ≤ D 3 0; omega)).mpr R13
            have Rb : MRd (uI σ10 70 (14 + D 3 0) (nI (tV B n (tE B n p)))) (hu (hu D 12 (D 3 0) (fdp D (tV B n p))) 13 (D 3 0) (tV B n (tE B n p))) := (MRd.beyond (by decide) (by decide) (by show hu D 12 (D 3 0) (fdp D (tV B n p)) 3 0 ≤ D 3 0; rw [hu_n (by omega)]; omega)).mpr Ra
            have eD : hu (hu D 12 (D 3 0) (fdp D (tV B n p))) 13 (D 3 0) (tV B n (tE B n p)) 3 0 = D 3 0 := by rw [hu_n (by omega), hu_n (by omega)]
            have Rc := Rb.cnt (c := 3) (k := 19) (Or.inr (Or.inr (Or.inl ⟨rfl, rfl⟩))) (fun f f1 f2 fc => by
              have hf : f = 12 ∨ f = 13 := by
                unfold cf at fc
                repeat' split at fc
                all_goals omega
              rw [eD]
              rcases hf with rfl | rfl
              · rw [hu_n (by omega), hu_s]
                show mI _ 69 (14 + D 3 0) = _
                rw [mI_n (by omega)]; exact v69
              · rw [hu_s]
                show mI _ 70 (14 + D 3 0) = _
                exact mI_s)
            rw [eD] at Rc
            refine OkN.yes (e3.trans (if_neg g4)) ⟨uI (uI σ10 70 (14 + D 3 0) (nI (tV B n (tE B n p)))) 59 19 (nI (D 3 0 + 1)), to2 _ ⟨_, _, d6, F10.sg hS, fun z => absurd z (by decide), fun _ σ13 q13 => ?_⟩, (F10.uI (mof_w (f := 13) (by decide) (by decide))).uI (Or.inl ⟨rfl, by omega⟩), M10.cg (fun i h1 h2 => by rw [mI_n (by omega), mI_n (by omega)]), Rc⟩
            rw [v10] at q13
            have l : mI σ13 59 19 = nI (D 3 0) := by rw [q13, mI_n (by omega)]; exact R10.1.2.2.2.1
            rw [l, nI_1, q13]
        · obtain ⟨σ', d6, F6, r⟩ := nno' 1 (Or.inl ⟨g3, rfl⟩)
          exact OkN.no (e2.trans (if_pos g3)) ⟨σ', to2 _ ⟨_, _, d6, F6.sg S5, fun _ => rfl, fun z => absurd rfl z⟩, (F5.mono (fun _ _ h => Or.inr h)).tr (F6.mono (fun _ _ h => wm_f h)), r⟩
      · obtain ⟨σ', d, F, r⟩ := no 4 (Or.inr ⟨g1, g2, rfl⟩)
        exact OkN.no (e1.trans (if_pos g2)) ⟨σ', to _ ⟨_, _, d, F.sg S1, fun _ => rfl, fun z => absurd rfl z⟩, (FF1.mono (fun _ _ h => Or.inr h)).tr (F.mono (fun _ _ h => wm_f h)), r⟩
    · obtain ⟨σ', d, F, r⟩ := no 1 (Or.inl ⟨g1, rfl⟩)
      exact OkN.no ((if_neg g0).trans (if_pos g1)) ⟨σ', to _ ⟨_, _, d, F.sg S1, fun _ => rfl, fun z => absurd rfl z⟩, (FF1.mono (fun _ _ h => Or.inr h)).tr (F.mono (fun _ _ h => wm_f h)), r⟩
end LinM2
