/-! ===== a sum is read, first side: the whole ===== -/
def Woo (a x i : Nat) : Prop := (x = 1 ∧ 5 ≤ i) ∨ (x = a ∧ i = 7) ∨ x = a + 8 ∨ x = 14
def Wn2 (a x i : Nat) : Prop := (x = 1 ∧ (i ≤ 1 ∨ 5 ≤ i)) ∨ (x = a ∧ i = 7) ∨ x = a + 8 ∨ x = 14
theorem wo_v {a x i : Nat} (h : Wvv a x i) : Woo a x i := by unfold Wvv at h; unfold Woo; omega
theorem wo_k {a x i : Nat} (h : Wkk x i) : Woo a x i := by unfold Wkk at h; unfold Woo; omega
theorem wn_o {a x i : Nat} (h : Woo a x i) : Wn2 a x i := by unfold Woo at h; unfold Wn2; omega
theorem wn_x {a x i : Nat} (h : Wx a x i) : Wn2 a x i := by unfold Wx at h; unfold Wn2; omega
section ExC4
variable {t n a : Nat} {σ : Mm} {D : Nat → Nat → Nat} {W R : List Nat} {c o : Nat} {w mn : Bool} {B : Nat → Nat}
theorem EC.fk {σ' : Mm} (ha : a = 3 ∨ a = 15) (h : EC σ a D W c o w mn) (hf : Fr Wkk σ σ') : EC σ' a D W c o w mn := by
  have r : ∀ x i, ¬ Wkk x i → mI σ' x i = mI σ x i := fun x i h => (hf.1 x i h).1
  obtain ⟨⟨h1, h2, h3⟩, h4, ⟨cm, h5, h5'⟩, h6, h7, h8, h9⟩ := h
  exact ⟨⟨(r 1 10 (by unfold Wkk; omega)).trans h1, (r 1 12 (by unfold Wkk; omega)).trans h2, (r 1 13 (by unfold Wkk; omega)).trans h3⟩, WS.fr (fun i => r 14 i (by unfold Wkk; omega)) h4, ⟨cm, (r 1 14 (by unfold Wkk; omega)).trans h5, h5'⟩, (r 1 15 (by unfold Wkk; omega)).trans h6, (r 1 16 (by unfold Wkk; omega)).trans h7, (r a 7 (by unfold Wkk; omega)).trans h8, fun i hi => (r _ i (by unfold Wkk; omega)).trans (h9 i hi)⟩
/-- what reading a sum leaves on the first side -/
def OkC (t : Nat) (σ : Mm) (j : Nat) (r : (Nat × Nat) ⊕ ((Nat → Nat → Nat) × Nat)) (K : Option Value → Mm → Prop) : Prop := (∀ e, r = .inl e → ∃ σ', K (some (.int 0)) σ' ∧ Fr (Wn2 (18 - t)) σ σ' ∧ CF e σ') ∧ (∀ D q, r = .inr (D, q) → ∃ σ', K (some (.int 1)) σ' ∧ Fr (Woo (18 - t)) σ σ' ∧ mI σ' 1 5 = nI q ∧ mI σ' 1 10 = nI (D 7 0) ∧ mI σ' (18 - t) 7 = nI (D 7 0) ∧ ∀ i, i < D 7 0 → mI σ' (18 - t + 8) i = nI (D 15 i))
theorem lp_61 {f : Nat} (hS : Sg t σ) (h : RC σ B n) : ∀ m p D W R c o w mn i τ, n < p + m → XI f n (p, D, W, R, c, o, w, mn) → i ≤ p → Fr (Woo (18 - t)) σ τ → EC τ (18 - t) D W c o w mn → mI τ 1 5 = nI p → ∀ z2, OkC t σ 61 (pX B n m (p, D, W, R, c, o, w, mn)) (fun v σ' => Ev 61 27 [.ref 1, .int (nI i), z2] [] τ (v, σ')) := by
  have ha := hS.ti
  have hn := h.1
  have rc : ∀ τ, Fr (Woo (18 - t)) σ τ → RC τ B n := fun τ F => h.fr F (fun x i h z => by unfold Woo at z; omega)
  intro m
  induction m with
  | zero => intro p D W R c o w mn i τ hm hX; exact absurd hX.2.2.2.2.2.2.2 (by dsimp only; omega)
  | succ m ih =>
    intro p D W R c o w mn i τ hm hX hi F hE t5 z2
    have hp : p ≤ n := hX.2.2.2.2.2.2.2
    have St := F.sg hS
    have Rt := rc τ F
    obtain ⟨σ1, d1, F1, a5, a6, a7, a8⟩ := c_44 (p := p) St Rt hp t5
    have FF1 : Fr (Woo (18 - t)) σ σ1 := F.tr (F1.mono (fun _ _ h => wo_k h))
    have S1 := FF1.sg hS
    have E1 := hE.fk ha F1
    have k43 : tK B n p ≤ 43 := by have := tK_lt B n p; omega
    have i40 : (nI (tK B n p) = 40) ↔ tK B n p = 40 := nI_eq (b := 40) (by omega) (by decide)
    have ho : o ≤ 8 := hX.2.2.2.2.1.2
    have io : (nI o = 0) ↔ o = 0 := nI_eq (b := 0) (by omega) (by decide)
    have head : ∀ w', (∃ (σ1' : Mm), Cl 44 [.ref 1] τ (none, σ1') ∧ Sg t σ1' ∧ (((mI σ1' 1 15) = 0 → (((mI σ1' 1 13) = 0 → (((mI σ1' 1 6) = 40 → (∃ (σ4 : Mm), Cl 68 [.ref 1, .int 0] (uI σ1' 1 5 (mI τ 1 5)) (none, σ4) ∧ Sg t σ4 ∧ (w' = (some (.int 1), σ4)))) ∧ (¬ ((mI σ1' 1 6) = 40) → Ev 61 79 [.ref 1, .int (nI i), .int (mI τ 1 5)] [] σ1' w'))) ∧ (¬ ((mI σ1' 1 13) = 0) → Ev 61 79 [.ref 1, .int (nI i), .int (mI τ 1 5)] [] σ1' w'))) ∧ (¬ ((mI σ1' 1 15) = 0) → Ev 61 79 [.ref 1, .int (nI i), .int (mI τ 1 5)] [] σ1' w'))) → Ev 61 27 [.ref 1, .int (nI i), z2] [] τ w' := by
      intro w' hw
      refine b_61_27 St ?_
      rw [Rt.2.1]
      exact pk_lt n i (fun z => absurd z (by omega)) (fun _ => hw) rfl rfl (by omega) (by omega)
    by_cases g : w = false ∧ o = 0 ∧ tK B n p = 40
    · -- the end
      have ep : pX B n (m + 1) (p, D, W, R, c, o, w, mn) = .inr (xfi (p, D, W, R, c, o, w, mn), p) := if_pos g
      have hB := hX.xb g.1
      obtain ⟨b1, b2, b3, b4⟩ := hX.en (B := B) g
      obtain ⟨_, _, _, ⟨x4, x4'⟩, ⟨hz, _⟩, _⟩ := hX
      dsimp only at hB x4 x4' b3 hz
      have F2 : Fr (Woo (18 - t)) σ (uI σ1 1 5 (nI p)) := FF1.uI (Or.inl ⟨rfl, by decide⟩)
      have hln := len_no W
      obtain ⟨σ4, d4, F4, s12, s7, s9⟩ := c_68 (f := f) (l := 1) (x1 := 0) (F2.sg hS) (Or.inr ⟨rfl, rfl⟩) hB (by omega) (by rw [mI_n (by omega)]; exact E1.1.2.1) (WS.fr (fun i => mI_n (by omega)) E1.2.1) (by rw [mI_n (by omega)]; exact E1.2.2.2.2.2.1) (fun i hi => by rw [mI_n (by omega)]; exact E1.2.2.2.2.2.2 i hi)
      have FF4 : Fr (Woo (18 - t)) σ σ4 := F2.tr (F4.mono (fun _ _ h => wo_v (wpp_v h)))
      refine ⟨fun e he => (by rw [ep] at he; cases he), fun D' q he => ?_⟩
      rw [ep] at he
      injection he with he
      injection he with e1 e2
      subst e1 e2
      refine ⟨σ4, head _ ⟨σ1, d1, S1, ?_⟩, FF4, ?_, ?_, s7, s9⟩
      · rw [E1.2.2.2.1, E1.1.2.2, a6, t5, g.1]
        exact ⟨fun _ => ⟨fun _ => ⟨fun _ => ⟨σ4, d4, FF4.sg hS, rfl⟩, fun z => absurd (i40.mpr g.2.2) z⟩, fun z => absurd (io.mpr g.2.1) z⟩, fun z => absurd rfl z⟩
      · rw [(F4.1 1 5 (fun z => by unfold Wpp at z; omega)).1, mI_s]
      · rw [(F4.1 1 10 (fun z => by unfold Wpp at z; omega)).1, mI_n (by decide), E1.1.1, b3]
    · have ep : pX B n (m + 1) (p, D, W, R, c, o, w, mn) = match xst B n (p, D, W, R, c, o, w, mn) with
          | .inl e => .inl e
          | .inr y => pX B n m y := if_neg g
      -- one token more
      have to79 : ∀ w', Ev 61 79 [.ref 1, .int (nI i), .int (nI p)] [] σ1 w' → Ev 61 27 [.ref 1, .int (nI i), z2] [] τ w' := by
        intro w' hw
        refine head w' ⟨σ1, d1, S1, ?_⟩
        rw [E1.2.2.2.1, E1.1.2.2, a6, t5]
        refine ⟨fun z => ⟨fun y => ⟨fun u => ?_, fun _ => hw⟩, fun _ => hw⟩, fun _ => hw⟩
        refine absurd ⟨?_, io.mp y, i40.mp u⟩ g
        cases w with
        | true => exact absurd z (by decide)
        | false => rfl
      have out : ∃ j, (j = 62 ∨ j = 63) ∧ OutC (xst B n (p, D, W, R, c, o, w, mn)) j (18 - t) σ1 ∧ ∀ (v : Int32) (σ' : Mm) w', Cl j [.ref 1] σ1 (some (.int v), σ') → Sg t σ' → ((v = 0 → (w' = (some (.int 0), σ'))) ∧ (¬ (v = 0) → Ev 61 27 [.ref 1, .int (nI i + 1), .int (nI p)] [] σ' w')) → Ev 61 79 [.ref 1, .int (nI i), .int (nI p)] [] σ1 w' := by
        cases w with
        | true =>
          refine ⟨62, Or.inl rfl, c_62 S1 E1 hX a6 a7 a8, fun v σ' w' hc hs hw => b_61_79 S1 ?_⟩
          rw [E1.2.2.2.1]
          exact ⟨fun z => absurd z (by decide), fun _ => ⟨_, _, hc, hs, hw⟩⟩
        | false =>
          refine ⟨63, Or.inr rfl, c_63 S1 E1 hX a6 a7, fun v σ' w' hc hs hw => b_61_79 S1 ?_⟩
          rw [E1.2.2.2.1]
          exact ⟨fun _ => ⟨_, _, hc, hs, hw⟩, fun z => absurd rfl z⟩
      obtain ⟨j, hj, ⟨oc1, oc2⟩, st⟩ := out
      cases ex : xst B n (p, D, W, R, c, o, w, mn) with
      | inl e =>
        rw [ex] at ep
        have ep : pX B n (m + 1) (p, D, W, R, c, o, w, mn) = .inl e := ep
        obtain ⟨σ', d, Fd, r⟩ := oc1 e ex
        rw [ep]
        refine ⟨fun e' he => ?_, fun D' q he => (by cases he)⟩
        injection he with he
        subst he
        have FF : Fr (Wn2 (18 - t)) σ σ' := (FF1.mono (fun _ _ h => wn_o h)).tr (Fd.mono (fun _ _ h => wn_x h))
        exact ⟨σ', to79 _ (st 0 σ' _ d (FF.sg hS) ⟨fun _ => rfl, fun z => absurd rfl z⟩), FF, r⟩
      | inr y =>
        rw [ex] at ep
        have ep : pX B n (m + 1) (p, D, W, R, c, o, w, mn) = pX B n m y := ep
        obtain ⟨σ', d, Fd, r⟩ := oc2 y ex
        obtain ⟨hY, hlt, hK⟩ := hX.st ex
        have ey1 : y.1 = tE B n p := by
          cases w with
          | true =>
            have ex : leaf B n p D W R c o mn = .inr y := ex
            unfold leaf at ex
            repeat' split at ex
            all_goals first | (cases ex; done) | (injection ex with ex; rw [← ex])
          | false =>
            have ex : sgn B n p D W R c o mn = .inr y := ex
            unfold sgn at ex
            repeat' split at ex
            all_goals first | (cases ex; done) | (injection ex with ex; rw [← ex])
        have FF : Fr (Woo (18 - t)) σ σ' := FF1.tr (Fd.mono (fun _ _ h => wo_v h))
        have s5 : mI σ' 1 5 = nI y.1 := by
          rw [(Fd.1 1 5 (fun z => by unfold Wvv at z; omega)).1, a5, ey1]
        have hlt : p < y.1 := hlt
        obtain ⟨yp, yD, yW, yR, yc, yo, yw, ym⟩ := y
        dsimp only at hlt s5 r
        have I := ih yp yD yW yR yc yo yw ym (i + 1) σ' (by omega) hY (by omega) FF r s5 (.int (nI p))
        rw [ep]
        refine ⟨fun e he => ?_, fun D' q he => ?_⟩
        · obtain ⟨σ2, d2, r2⟩ := I.1 e he
          exact ⟨σ2, to79 _ (st 1 σ' _ d (FF.sg hS) ⟨fun z => absurd z (by decide), fun _ => by rw [nI_1]; exact d2⟩), r2⟩
        · obtain ⟨σ2, d2, r2⟩ := I.2 D' q he
          exact ⟨σ2, to79 _ (st 1 σ' _ d (FF.sg hS) ⟨fun z => absurd z (by decide), fun _ => by rw [nI_1]; exact d2⟩), r2⟩
/-- a sum -/
def pS (B : Nat → Nat) (n : Nat) (D : Nat → Nat → Nat) (p : Nat) : (Nat × Nat) ⊕ ((Nat → Nat → Nat) × Nat) := pX B n (n + 1) (p, D, [], [], D 7 0, 0, true, true)
theorem XI.s0 {p : Nat} (hp : p ≤ n) (hD : D 7 0 ≤ 64) : XI (D 7 0) n (p, D, [], [], D 7 0, 0, true, true) := by
  refine ⟨⟨Nat.le_refl _, ?_⟩, rfl, trivial, ⟨rfl, hD⟩, ⟨rfl, Nat.zero_le _⟩, fun z => (by cases z), fun _ _ => by show sdg 0 ≤ 3; decide, hp⟩
  show sk (D 15) (D 18) (D 19) (D 20) (D 7 0) (D 7 0 - D 7 0) = some []
  rw [Nat.sub_self]
  rfl
theorem c_61 {p : Nat} (hS : Sg t σ) (h : RC σ B n) (hp : p ≤ n) (hD : D 7 0 ≤ 64) (h5 : mI σ 1 5 = nI p) (h10 : mI σ 1 10 = nI (D 7 0)) (h7 : mI σ (18 - t) 7 = nI (D 7 0)) (h9 : ∀ i, i < D 7 0 → mI σ (18 - t + 8) i = nI (D 15 i)) : OkC t σ 61 (pS B n D p) (fun v σ' => Cl 61 [.ref 1] σ (v, σ')) := by
  have ha := hS.ti
  generalize eτ : uI (uI (uI (uI (uI σ 1 12 0) 1 13 0) 1 14 0) 1 15 1) 1 16 1 = τ
  have F : Fr (Woo (18 - t)) σ τ := by
    rw [← eτ]
    exact (((((Fr.rf σ).uI (Or.inl ⟨rfl, by decide⟩)).uI (Or.inl ⟨rfl, by decide⟩)).uI (Or.inl ⟨rfl, by decide⟩)).uI (Or.inl ⟨rfl, by decide⟩)).uI (Or.inl ⟨rfl, by decide⟩)
  have r : ∀ x i, ¬ (x = 1 ∧ 12 ≤ i) → mI τ x i = mI σ x i := fun x i h => by
    rw [← eτ, mI_n (by omega), mI_n (by omega), mI_n (by omega), mI_n (by omega), mI_n (by omega)]
  have E0 : EC τ (18 - t) D [] (D 7 0) 0 true true := by
    refine ⟨⟨(r 1 10 (by omega)).trans h10, ?_, ?_⟩, trivial, ⟨0, ?_, by decide, by simp [hCm, nze], trivial⟩, ?_, ?_, (r _ 7 (by omega)).trans h7, fun i hi => (r _ i (by omega)).trans (h9 i hi)⟩
    · rw [← eτ, mI_n (by decide), mI_n (by decide), mI_n (by decide), mI_n (by decide), mI_s]; rfl
    · rw [← eτ, mI_n (by decide), mI_n (by decide), mI_n (by decide), mI_s]; rfl
    · rw [← eτ, mI_n (by decide), mI_n (by decide), mI_s]; rfl
    · rw [← eτ, mI_n (by decide), mI_s]; rfl
    · rw [← eτ, mI_s]; rfl
  have I := lp_61 (f := D 7 0) hS h (n + 1) p D [] [] (D 7 0) 0 true true 0 τ (by omega) (XI.s0 hp hD) (Nat.zero_le _) F E0 ((r 1 5 (by omega)).trans h5) (.retAddr 0)
  have to : ∀ w, Ev 61 27 [.ref 1, .int (nI 0), .retAddr 0] [] τ w → Cl 61 [.ref 1] σ w := by
    intro w hw
    refine ck_61 hS (b_61_0 hS (fun σ1 q => ?_))
    rw [q, eτ]
    exact hw
  refine ⟨fun e he => ?_, fun D' q he => ?_⟩
  · obtain ⟨σ', d, rr⟩ := I.1 e he
    exact ⟨σ', to _ d, rr⟩
  · obtain ⟨σ', d, rr⟩ := I.2 D' q he
    exact ⟨σ', to _ d, rr⟩
end ExC4
