/-! ===== lines, first side: pulls, rings, mendings, odds, seed ===== -/
def pPull1 (B : Nat → Nat) (n : Nat) (D : Nat → Nat → Nat) (s0 p : Nat) : Rz := if D 1 0 = 10 then .inl (2, s0) else if ¬ tK B n p = 3 then .inl (1, tS B n p) else if fdp D (tV B n p) < D 1 0 then .inl (3, tS B n p) else if ¬ tK B n (tE B n p) = 2 then .inl (1, tS B n (tE B n p)) else if 99 < tV B n (tE B n p) then .inl (2, tS B n (tE B n p)) else .inr (wPull D (tV B n p) (tV B n (tE B n p)) 0, tE B n (tE B n p))
theorem wPull_t {D : Nat → Nat → Nat} {a b s s' : Nat} : hu (wPull D a b s) 11 (D 1 0) s' = wPull D a b s' := by
  funext f i
  unfold wPull
  by_cases e : f = 11 ∧ i = D 1 0
  · rw [e.1, e.2, hu_s, hu_n (by omega), hu_s]
  · rw [hu_n e]
    by_cases e1 : f = 1 ∧ i = 0
    · rw [e1.1, e1.2, hu_s, hu_s]
    · rw [hu_n e1, hu_n e, hu_n e1, hu_n e]
theorem cnt_or {p p' : Nat → Bool} {l : Nat} (hp : ∀ k, k ≠ l → p' k = p k) (hl : p l = false) (hl' : p' l = true) : ∀ n, fa_cnt p' n = fa_cnt p n + (if l < n then 1 else 0) := by
  intro n
  induction n with
  | zero => rfl
  | succ n ih =>
    by_cases e : n = l
    · rw [e] at ih ⊢
      rw [fa_cnt_yes hl', fa_cnt_no hl, ih, if_neg (Nat.lt_irrefl _), if_pos (Nat.lt_succ_self _)]
    · have e2 : (if l < n + 1 then 1 else 0) = (if l < n then 1 else 0) := by
        by_cases g : l < n
        · rw [if_pos g, if_pos (by omega)]
        · rw [if_neg g, if_neg (by omega)]
      rw [e2]
      cases hpn : p n with
      | true => rw [fa_cnt_yes ((hp n e).trans hpn), fa_cnt_yes hpn, ih]; omega
      | false => rw [fa_cnt_no ((hp n e).trans hpn), fa_cnt_no hpn, ih]
theorem pcn_set {s l : Nat} (hl : l < 14) (h : s.testBit l = false) : pcn (s ||| 2 ^ l) = pcn s + 1 := by
  have := cnt_or (p := fun k => s.testBit k) (p' := fun k => (s ||| 2 ^ l).testBit k) (l := l) (fun k hk => tb_or hk) h (by show (s ||| 2 ^ l).testBit l = true; rw [set_t, decide_eq_true rfl, Bool.or_true]) 14
  rw [if_pos hl] at this
  exact this
def Wti (a x i : Nat) : Prop := Wkk x i ∨ x = a + 4
section LinC2
variable {t n a : Nat} {σ σ' : Mm} {D : Nat → Nat → Nat} {B : Nat → Nat}
theorem fdl_cg {D' : Nat → Nat → Nat} {v : Nat} (h0 : D' 0 0 = D 0 0) (h8 : D' 8 = D 8) : fdl D' v = fdl D v := by
  unfold fdl
  rw [h0, h8]
theorem c_53 {p s0 : Nat} (hS : Sg t σ) (h : RC σ B n) (hC : CR σ (18 - t) D) (hW : WDr D) (hp : p ≤ n) (h5 : mI σ 1 5 = nI p) (h7 : mI σ 1 7 = nI s0) (h10 : mI σ 1 10 = nI (D 7 0)) : OkL t σ (pPull1 B n D s0 p) (fun v σ' => Cl 53 [.ref 1] σ (v, σ')) := by
  have ha := hS.ti
  have hP := hW.1.1.2.1
  have hV := tV_lt (B := B) (n := n) (p := p)
  have hV2 := tV_lt (B := B) (n := n) (p := tE B n p)
  have l1 : mI σ (18 - t) 1 = nI (D 1 0) := hC.1 1 (by omega)
  by_cases g0 : D 1 0 = 10
  · obtain ⟨σ', d, F, r⟩ := c_40 (e := 2) hS h7
    refine OkL.no (if_pos g0) ⟨σ', ck_53 hS (b_53_0 hS ?_), F.mono (fun _ _ h => wl_f h), r⟩
    rw [l1, g0]
    exact ⟨fun z => absurd z (by decide), fun _ => ⟨_, _, d, F.sg hS, Or.inl rfl, rfl⟩⟩
  · have lt10 : nI (D 1 0) < 10 := nI_lt (b := 10) (by omega) (by decide)
    have in10' : inb (nI (D 1 0)) 10 = true := inb_nI (by omega) (by decide)
    obtain ⟨y, no⟩ := c_49 (k := 3) hS h hp h5 (by decide)
    by_cases g1 : tK B n p = 3
    · obtain ⟨σ1, d1, F1, a5, a7, a8⟩ := y g1
      have S1 := F1.sg hS
      have C1 := hC.fkk ha F1
      have c90 := r_90 (v := tV B n p) S1 ha C1 hW hV
      have e1 : pPull1 B n D s0 p = if fdp D (tV B n p) < D 1 0 then .inl (3, tS B n p) else if ¬ tK B n (tE B n p) = 2 then .inl (1, tS B n (tE B n p)) else if 99 < tV B n (tE B n p) then .inl (2, tS B n (tE B n p)) else .inr (wPull D (tV B n p) (tV B n (tE B n p)) 0, tE B n (tE B n p)) := (if_neg g0).trans (if_neg (fun z => z g1))
      have fdle : fdp D (tV B n p) ≤ D 1 0 := fa_first_le _ _
      by_cases g2 : fdp D (tV B n p) < D 1 0
      · rw [if_pos g2] at c90
        obtain ⟨σ', d, F, r⟩ := c_40 (e := 3) S1 a7
        refine OkL.no (e1.trans (if_pos g2)) ⟨σ', ck_53 hS (b_53_0 hS ?_), (F1.mono (fun _ _ h => Or.inr (wl_k h))).tr (F.mono (fun _ _ h => wl_f h)), r⟩
        rw [l1]
        refine ⟨fun _ => ⟨_, _, d1, S1, fun z => absurd z (by decide), fun _ => ?_⟩, fun z => absurd lt10 z⟩
        rw [a8]
        exact ⟨_, _, c90, S1, fun z => absurd z (nIm1 (by omega)), fun _ => ⟨_, _, d, F.sg S1, Or.inl rfl, rfl⟩⟩
      · rw [if_neg g2] at c90
        have e2 := e1.trans (if_neg g2)
        have C2 : CR (uI σ1 (18 - t + 2) (D 1 0) (nI (tV B n p))) (18 - t) (hu D 9 (D 1 0) (tV B n p)) := C1.put (f := 9) (by decide) (by decide)
        have F2 : Fr (Wl1 (18 - t)) σ (uI σ1 (18 - t + 2) (D 1 0) (nI (tV B n p))) := (F1.mono (fun _ _ h => wl_k h)).uI (Or.inr (Or.inl ⟨by omega, by omega⟩))
        generalize eυ : uI σ1 (18 - t + 2) (D 1 0) (nI (tV B n p)) = υ at C2 F2
        have Su := F2.sg hS
        have u5 : mI υ 1 5 = nI (tE B n p) := by rw [← eυ, mI_n (by omega)]; exact a5
        obtain ⟨ny, nno'⟩ := c_50 (m := 99) Su (h.fl ha F2) (tE_le hp) u5 (by decide)
        -- up to the number
        have to : ∀ w', (∃ (v12 : Int32) (σ10 : Mm), Cl 50 [.ref 1, .int 99] υ (some (.int v12), σ10) ∧ Sg t σ10 ∧ ((v12 = 0 → (w' = (some (.int 0), σ10))) ∧ (¬ (v12 = 0) → (inb (nI (D 1 0)) 10 = true ∧ (∀ (σ13 : Mm), σ13 = uI σ10 ((18 - t) + 3) (D 1 0) (mI σ10 1 8) → (inb (nI (D 1 0)) 10 = true ∧ (∀ (σ16 : Mm), σ16 = uI σ13 ((18 - t) + 4) (D 1 0) 0 → Ev 53 98 [.ref 1, .int (nI (D 1 0))] [] σ16 w'))))))) → Cl 53 [.ref 1] σ w' := by
          intro w' hw
          refine ck_53 hS (b_53_0 hS ?_)
          rw [l1]
          refine ⟨fun _ => ⟨_, _, d1, S1, fun z => absurd z (by decide), fun _ => ?_⟩, fun z => absurd lt10 z⟩
          rw [a8, nI_clamp (by omega)]
          refine ⟨_, _, c90, S1, fun _ => ⟨in10', fun σ7 q7 => ?_⟩, fun z => absurd rfl z⟩
          rw [a8, eυ] at q7
          rw [q7]
          exact hw
        by_cases g3 : tK B n (tE B n p) = 2
        · have e3 := e2.trans (if_neg (fun z => z g3))
          by_cases g4 : 99 < tV B n (tE B n p)
          · obtain ⟨σ', d, F, r⟩ := nno' 2 (Or.inr ⟨g3, g4, rfl⟩)
            exact OkL.no (e3.trans (if_pos g4)) ⟨σ', to _ ⟨_, _, d, F.sg Su, fun _ => rfl, fun z => absurd rfl z⟩, (F2.mono (fun _ _ h => Or.inr h)).tr (F.mono (fun _ _ h => wkf h)), r⟩
          · obtain ⟨σ2, d2, F3, b5, b8⟩ := ny g3 (by omega)
            have C3 := C2.fkk ha F3
            have FF3 := F2.tr (F3.mono (fun _ _ h => wl_k h))
            have S3 := FF3.sg hS
            have eD9 : hu D 9 (D 1 0) (tV B n p) 1 0 = D 1 0 := hu_n (by omega)
            have C4 : CR (uI σ2 (18 - t + 3) (D 1 0) (nI (tV B n (tE B n p)))) (18 - t) (hu (hu D 9 (D 1 0) (tV B n p)) 10 (D 1 0) (tV B n (tE B n p))) := C3.put (f := 10) (by decide) (by decide)
            have C5 : CR (uI (uI σ2 (18 - t + 3) (D 1 0) (nI (tV B n (tE B n p)))) (18 - t + 4) (D 1 0) 0) (18 - t) (hu (hu (hu D 9 (D 1 0) (tV B n p)) 10 (D 1 0) (tV B n (tE B n p))) 11 (D 1 0) 0) := C4.put (f := 11) (v := 0) (by decide) (by decide)
            have eD : hu (hu (hu D 9 (D 1 0) (tV B n p)) 10 (D 1 0) (tV B n (tE B n p))) 11 (D 1 0) 0 1 0 = D 1 0 := by rw [hu_n (by omega), hu_n (by omega), hu_n (by omega)]
            have u2 : mI σ2 (18 - t + 2) (D 1 0) = nI (tV B n p) := by rw [(F3.1 _ _ (fun z => by unfold Wkk at z; omega)).1, ← eυ, mI_s]
            have C6 := C5.cnt (c := 1) (Or.inr (Or.inl rfl)) (fun f f1 f2 fc => by
              have hf : f = 9 ∨ f = 10 ∨ f = 11 := by
                unfold cf at fc
                repeat' split at fc
                all_goals omega
              rw [eD]
              rcases hf with rfl | rfl | rfl
              · rw [hu_n (by omega), hu_n (by omega), hu_s]
                show mI _ (18 - t + 2) (D 1 0) = _
                rw [mI_n (by omega), mI_n (by omega)]
                exact u2
              · rw [hu_n (by omega), hu_s]
                show mI _ (18 - t + 3) (D 1 0) = _
                rw [mI_n (by omega), mI_s]
              · rw [hu_s]
                show mI _ (18 - t + 4) (D 1 0) = _
                exact mI_s)
            rw [eD] at C6
            have F6 : Fr (Wl1 (18 - t)) σ (uI (uI (uI σ2 (18 - t + 3) (D 1 0) (nI (tV B n (tE B n p)))) (18 - t + 4) (D 1 0) 0) (18 - t) 1 (nI (D 1 0 + 1))) := ((FF3.uI (Or.inr (Or.inl ⟨by omega, by omega⟩))).uI (Or.inr (Or.inl ⟨by omega, by omega⟩))).uI (Or.inr (Or.inl ⟨by omega, by omega⟩))
            refine OkL.yes (e3.trans (if_neg g4)) ⟨_, to _ ⟨_, _, d2, S3, fun z => absurd z (by decide), fun _ => ⟨in10', fun σ13 q13 => ⟨in10', fun σ16 q16 => b_53_98 (t := t) ?_ ?_⟩⟩⟩, F6, ?_, ?_, C6⟩
            · rw [q16, q13]; exact S3.uI.uI
            · rw [b8] at q13
              have l16 : mI σ16 (18 - t) 1 = nI (D 1 0) := by rw [q16, mI_n (by omega), q13, mI_n (by omega)]; exact (C3.1 1 (by omega)).trans (by rw [eD9])
              rw [l16, nI_1, q16, q13]
            · rw [mI_n (by omega), mI_n (by omega), mI_n (by omega)]; exact b5
            · rw [mI_n (by omega), mI_n (by omega), mI_n (by omega), (F3.1 1 10 (fun z => by unfold Wkk at z; omega)).1, ← eυ, mI_n (by omega), (F1.1 1 10 (fun z => by unfold Wkk at z; omega)).1]
              unfold wPull
              rw [hu_n (by omega), hu_n (by omega), hu_n (by omega), hu_n (by omega)]; exact h10
        · obtain ⟨σ', d, F, r⟩ := nno' 1 (Or.inl ⟨g3, rfl⟩)
          exact OkL.no (e2.trans (if_pos g3)) ⟨σ', to _ ⟨_, _, d, F.sg Su, fun _ => rfl, fun z => absurd rfl z⟩, (F2.mono (fun _ _ h => Or.inr h)).tr (F.mono (fun _ _ h => wkf h)), r⟩
    · obtain ⟨σ', d, F, r⟩ := no g1
      refine OkL.no ((if_neg g0).trans (if_pos g1)) ⟨σ', ck_53 hS (b_53_0 hS ?_), F.mono (fun _ _ h => wkf h), r⟩
      rw [l1]
      exact ⟨fun _ => ⟨_, _, d, F.sg hS, fun _ => rfl, fun z => absurd rfl z⟩, fun z => absurd lt10 z⟩
/-- the ties of a pull -/
theorem lp_54 {P : Nat} (hS : Sg t σ) (h : RC σ B n) (hW : WDr D) (hP : P < D 1 0) : ∀ m p s i τ, n < p + m → p ≤ n → s < 2 ^ D 0 0 → i ≤ pcn s → Fr (Wti (18 - t)) σ τ → CR τ (18 - t) (hu D 11 P s) → mI τ 1 5 = nI p → ∀ z3 z4, (∀ e, pTies B n D m s p = .inl e → ∃ σ', Ev 54 18 [.ref 1, .int (nI P), .int (nI i), z3, z4] [] τ (some (.int 0), σ') ∧ Fr (fun x i => Wti (18 - t) x i ∨ Wrf x i) σ σ' ∧ CF e σ') ∧ (∀ s' q, pTies B n D m s p = .inr (s', q) → ∃ σ', Ev 54 18 [.ref 1, .int (nI P), .int (nI i), z3, z4] [] τ (some (.int 1), σ') ∧ Fr (Wti (18 - t)) σ σ' ∧ mI σ' 1 5 = nI q ∧ CR σ' (18 - t) (hu D 11 P s')) := by
  have ha := hS.ti
  have hL := hW.1.1.1
  have hP10 := hW.1.1.2.1
  have inP : inb (nI P) 10 = true := inb_nI (by omega) (by decide)
  intro m
  induction m with
  | zero => intro p s i τ h1 h2; omega
  | succ m ih =>
    intro p s i τ hm hp hs hi F hC t5 z3 z4
    have St := F.sg hS
    have Rt : RC τ B n := h.fr F (fun x i h z => by unfold Wti Wkk at z; omega)
    have hV := tV_lt (B := B) (n := n) (p := p)
    have p14 := pcn_le s
    obtain ⟨σ1, d1, F1, a5, a6, a7, a8⟩ := c_44 St Rt hp t5
    have FF1 : Fr (Wti (18 - t)) σ σ1 := F.tr (F1.mono (fun _ _ h => Or.inl h))
    have S1 := FF1.sg hS
    have C1 := hC.fkk ha F1
    have k43 := tK_lt B n p
    have i3 : (nI (tK B n p) = 3) ↔ tK B n p = 3 := nI_eq (b := 3) (by omega) (by decide)
    have n14 : ¬ (14 : Int32) < nI i := nI_nlt (a := 14) (b := i) (by omega) (by decide)
    have eT : pTies B n D (m + 1) s p = if ¬ tK B n p = 3 then .inr (s, p) else if ¬ fdl D (tV B n p) < D 0 0 then .inl (4, tS B n p) else if s.testBit (fdl D (tV B n p)) = true then .inl (3, tS B n p) else pTies B n D m (s ||| 2 ^ fdl D (tV B n p)) (tE B n p) := rfl
    rw [eT]
    by_cases g1 : tK B n p = 3
    · rw [if_neg (fun z => z g1)]
      have W1 : WDr (hu D 11 P s) := by
        obtain ⟨⟨b0, b1, b2, b3, b4, b5, b6, b7, b8⟩, c1, c2⟩ := hW
        refine ⟨⟨b0, b1, fun i hi => ?_, b3, b4, b5, b6, b7, b8⟩, c1, c2⟩
        show hu D 11 P s 11 i < 2 ^ D 0 0
        by_cases e : i = P
        · rw [e, hu_s]; exact hs
        · rw [hu_n (by omega)]; exact b2 i hi
      have c89 := r_89 (v := tV B n p) S1 ha C1 W1 hV
      rw [show fdl (hu D 11 P s) (tV B n p) = fdl D (tV B n p) from rfl, show hu D 11 P s 0 0 = D 0 0 from rfl] at c89
      have fdle : fdl D (tV B n p) ≤ D 0 0 := fa_first_le _ _
      have tP : mI σ1 (18 - t + 4) P = nI s := by
        have := C1.2.2.1 11 P (by decide) (by decide) (by show P < hu D 11 P s 1 0; rw [hu_n (by omega)]; exact hP)
        rw [hu_s] at this
        exact this
      by_cases g2 : fdl D (tV B n p) < D 0 0
      · rw [if_pos g2] at c89
        rw [if_neg (fun z => z g2)]
        have nm := nIm1 (l := fdl D (tV B n p)) (by omega)
        have hs31 : s < 2 ^ 31 := Nat.lt_trans hs (Nat.pow_lt_pow_right (by decide) (by omega))
        by_cases g3 : s.testBit (fdl D (tV B n p)) = true
        · rw [if_pos g3]
          obtain ⟨σ', d, Ff, r⟩ := c_40 (e := 3) S1 a7
          refine ⟨fun e he => ?_, fun s' q he => (by cases he)⟩
          injection he with he
          subst he
          refine ⟨σ', b_54_18 St ⟨fun z => absurd z n14, fun _ => ⟨σ1, d1, S1, ?_⟩⟩, (FF1.mono (fun _ _ h => Or.inl h)).tr (Ff.mono (fun _ _ h => Or.inr h)), r⟩
          rw [a6, a8]
          refine ⟨fun _ => ⟨_, _, c89, S1, fun z => absurd z nm, fun _ => ⟨inP, ?_⟩⟩, fun z => absurd (i3.mpr g1) z⟩
          rw [nI_clamp (by omega), tP, nI_bit hs31 (by omega), if_pos g3]
          exact ⟨fun z => absurd z (by decide), fun _ => ⟨_, _, d, Ff.sg S1, Or.inl rfl, rfl⟩⟩
        · rw [if_neg g3]
          have g3' := bf g3
          have hs2 : s ||| 2 ^ fdl D (tV B n p) < 2 ^ D 0 0 := Nat.or_lt_two_pow hs (Nat.pow_lt_pow_right (by decide) g2)
          have C2 : CR (uI σ1 (18 - t + 4) P (nI (s ||| 2 ^ fdl D (tV B n p)))) (18 - t) (hu D 11 P (s ||| 2 ^ fdl D (tV B n p))) := by
            have := C1.put (f := 11) (j := P) (v := s ||| 2 ^ fdl D (tV B n p)) (by decide) (by decide)
            have e : hu (hu D 11 P s) 11 P (s ||| 2 ^ fdl D (tV B n p)) = hu D 11 P (s ||| 2 ^ fdl D (tV B n p)) := by
              funext f i
              by_cases e : f = 11 ∧ i = P
              · rw [e.1, e.2, hu_s, hu_s]
              · rw [hu_n e, hu_n e, hu_n e]
            rw [e] at this
            exact this
          have F2 : Fr (Wti (18 - t)) σ (uI σ1 (18 - t + 4) P (nI (s ||| 2 ^ fdl D (tV B n p)))) := FF1.uI (Or.inr rfl)
          obtain ⟨d3, d4⟩ := tE_adv (B := B) hp (by omega)
          have I := ih (tE B n p) (s ||| 2 ^ fdl D (tV B n p)) (i + 1) _ (by omega) d4 hs2 (by rw [pcn_set (by omega) g3']; omega) F2 C2 (by rw [mI_n (by omega)]; exact a5) (.int (nI p)) (.int (nI (fdl D (tV B n p))))
          have to : ∀ w', Ev 54 18 [.ref 1, .int (nI P), .int (nI (i + 1)), .int (nI p), .int (nI (fdl D (tV B n p)))] [] (uI σ1 (18 - t + 4) P (nI (s ||| 2 ^ fdl D (tV B n p)))) w' → Ev 54 18 [.ref 1, .int (nI P), .int (nI i), z3, z4] [] τ w' := by
            intro w' hw
            refine b_54_18 St ⟨fun z => absurd z n14, fun _ => ⟨σ1, d1, S1, ?_⟩⟩
            rw [a6, a8, t5]
            refine ⟨fun _ => ⟨_, _, c89, S1, fun z => absurd z nm, fun _ => ⟨inP, ?_⟩⟩, fun z => absurd (i3.mpr g1) z⟩
            rw [nI_clamp (by omega), tP, nI_bit hs31 (by omega), if_neg g3, nI_one (by omega), fa_or, nI_1]
            exact ⟨fun _ => ⟨inP, inP, fun σ7 q7 => by rw [q7]; exact hw⟩, fun z => absurd rfl z⟩
          refine ⟨fun e he => ?_, fun s' q he => ?_⟩
          · obtain ⟨σ', d, r⟩ := I.1 e he
            exact ⟨σ', to _ d, r⟩
          · obtain ⟨σ', d, r⟩ := I.2 s' q he
            exact ⟨σ', to _ d, r⟩
      · rw [if_neg g2] at c89
        rw [if_pos g2]
        obtain ⟨σ', d, Ff, r⟩ := c_40 (e := 4) S1 a7
        refine ⟨fun e he => ?_, fun s' q he => (by cases he)⟩
        injection he with he
        subst he
        refine ⟨σ', b_54_18 St ⟨fun z => absurd z n14, fun _ => ⟨σ1, d1, S1, ?_⟩⟩, (FF1.mono (fun _ _ h => Or.inl h)).tr (Ff.mono (fun _ _ h => Or.inr h)), r⟩
        rw [a6, a8]
        exact ⟨fun _ => ⟨_, _, c89, S1, fun _ => ⟨_, _, d, Ff.sg S1, Or.inl rfl, rfl⟩, fun z => absurd rfl z⟩, fun z => absurd (i3.mpr g1) z⟩
    · rw [if_pos g1]
      refine ⟨fun e he => (by cases he), fun s' q he => ?_⟩
      injection he with he
      injection he with e1 e2
      subst e1 e2
      refine ⟨uI σ1 1 5 (nI p), b_54_18 St ⟨fun z => absurd z n14, fun _ => ⟨σ1, d1, S1, ?_⟩⟩, FF1.uI (Or.inl ⟨rfl, by omega⟩), mI_s, C1.fr (W := Wkk) ((Fr.rf σ1).uI ⟨rfl, by omega⟩) (fun x i h1 h2 z => by unfold Wkk at z; omega)⟩
      rw [a6, t5]
      exact ⟨fun z => absurd (i3.mp z) g1, fun _ => rfl⟩
end LinC2
