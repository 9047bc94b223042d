/-! ===== fits, rang, ask ===== -/
section Wa4
variable {t : Nat} {σ : Mm} {D H : Nat → Nat → Nat} {K : Nat} {W T : Nat → Nat} {S : Nat → Bool}
/-- the evening of a set, as told -/
def evn (D : Nat → Nat → Nat) (s : Nat) : Nat := D 2 0 ^^^ tn (D 11) (D 1 0) s
theorem evn_lt (hq : Q t σ D H) (s : Nat) : evn D s < 2 ^ D 0 0 := Nat.xor_lt_two_pow hq.wd.1.2.2.1 (tn_lt _ hq.wd.2.2.1)
theorem evn_14 (hq : Q t σ D H) (s : Nat) : evn D s < 2 ^ 14 := Nat.lt_of_lt_of_le (evn_lt hq s) (Nat.pow_le_pow_right (by decide) hq.hL)
def W148 (x i : Nat) : Prop := Wg x i ∨ Wnn x i
theorem wq_148 {x i : Nat} (h : W148 x i) : Wq x i := by
  unfold W148 Wg Wnn at h; unfold Wq; omega
theorem p_1024 (hq : Q t σ D H) : 2 ^ D 1 0 ≤ 1024 := Nat.pow_le_pow_right (n := 2) (j := 10) (by decide) hq.hP
theorem c_148 (hq : Q t σ D H) (hn : NK σ (D 0 0) (D 1 0) K W T S) : ∃ σ', Cl 148 [.ref 0] σ (some (.int (nI (fa_cnt (fx W T S K (evn D)) (2 ^ D 1 0)))), σ') ∧ Fr W148 σ σ' ∧ Lk σ' (fx W T S K (evn D)) (evn D) (2 ^ D 1 0) := by
  have hP := hq.hP
  have ht := hq.tt
  obtain ⟨σ1, h1, f1, g1⟩ := c_71 (a1 := t + 4) (fr := ((1 : Int32) <<< (nI (D 1 0) &&& 31)) - 1) (ties := D 11) hq.sg (by rcases ht with e | e <;> subst e <;> rfl) hP hq.ct.2.2.2.2.2.2.2.1 ⟨by omega, by omega⟩
  have q1 := hq.fr f1 (fun _ _ h => wq_g h)
  have n1 : NK σ1 (D 0 0) (D 1 0) K W T S := hn.fr f1 (fun x i h z => by unfold Wg at z; omega)
  obtain ⟨σ2, h2, f2, g2⟩ := c_31 (lit := D 2 0) (tz := tn (D 11) (D 1 0)) q1.sg hq.hL hP n1 (p_1024 hq) g1.many g1.tn (fun s => evn_14 hq s)
  refine ⟨σ2, ck_148 hq.sg (b_148_0 hq.sg ⟨σ1, ?_, q1.sg, _, σ2, ?_, f2.sg q1.sg, rfl⟩), (f1.mono (fun _ _ h => Or.inl h)).tr (f2.mono (fun _ _ h => Or.inr h)), g2⟩
  · rw [hq.ct.1.2.1]; exact h1
  · rw [q1.ct.1.2.2.1]; exact h2
theorem nk_q (hn : NK σ (D 0 0) (D 1 0) K W T S) {σ' : Mm} (hf : Fr Wq σ σ') : NK σ' (D 0 0) (D 1 0) K W T S := hn.fr hf (fun x i h z => by unfold Wq at z; omega)
theorem wq_95 {x i : Nat} (h : W95 x i) : Wq x i := by unfold W95 at h; unfold Wq; omega
theorem q_258 (hq : Q t σ D H) (hn : NK σ (D 0 0) (D 1 0) K W T S) : ∃ σ', Cl 258 [.ref 59] σ (none, σ') ∧ Fr Wq σ σ' ∧ Cn σ' (sx W T K K) K := by
  obtain ⟨σ', h, f, g⟩ := c_258 hq.sg hn
  exact ⟨σ', h, f.mono (fun _ _ h => wq_95 h), g⟩
theorem q_260 {s : Nat} (hq : Q t σ D H) (hn : NK σ (D 0 0) (D 1 0) K W T S) (hc : Cn σ (sx W T K K) K) (hs : s < 2 ^ 31) : Cl 260 [.ref 59, .int (nI s)] σ (some (.int (if fx W T S K (evn D) s = true then 1 else 0)), σ) :=
  c_260 hq.sg hq.hL hq.hP hq.mt.1.2.1 hq.mt.1.2.2.1 hq.mt.2.2.2.2.2.2.2.1 hs (by have : D 2 0 ^^^ tn (D 11) (D 1 0) s < 2 ^ 14 := evn_14 hq s; omega) hn hc
theorem q_259 {s : Nat} (hq : Q t σ D H) (hs : s < 2 ^ 31) : Cl 259 [.ref 59, .int (nI s)] σ (some (.int (nI (evn D s))), σ) :=
  c_259 hq.sg hq.hP hq.mt.1.2.1 hq.mt.1.2.2.1 hq.mt.2.2.2.2.2.2.2.1 hs
theorem i_fits (h : Inv t σ D H) : PrI 133 261 [] σ := by
  obtain ⟨hq, _, _, _, hn⟩ := h
  obtain ⟨K, W, T, S, hn⟩ := hn.nk
  obtain ⟨σ1, h1, f1, g1⟩ := c_148 hq hn
  have hN := p_1024 hq
  have fq1 := f1.mono (fun _ _ h => wq_148 h)
  refine PrI.mk hq (ck_133 hq.sg (b_133_0 hq.sg ⟨_, σ1, h1, f1.sg hq.sg, rfl⟩)) fq1 (fun _ _ h => h) (fun q => ?_)
  obtain ⟨σ2, h2, f2, c2⟩ := q_258 q.th (nk_q (nk_q hn fq1) wq_th)
  have q2 := q.th.fr f2 (fun _ _ h => h)
  have n2 := nk_q (nk_q (nk_q hn fq1) wq_th) f2
  refine ⟨σ2, ck_261 q.sg (b_261_0 q.sg ⟨σ2, h2, q2.sg, ?_⟩), wq_th.tr f2⟩
  refine up_to (fun k => Ev 261 13 [.ref 59, .int (nI (fa_cnt (fx W T S K (evn D)) k)), .int (nI k)] [] σ2 (some (.int (nI (fa_cnt (fx W T S K (evn D)) (2 ^ D 1 0)))), σ2)) (2 ^ D 1 0) ?_ ?_ 0 (Nat.zero_le _)
  · intro k hk ih
    refine b_261_13 q2.sg ?_
    rw [q2.mt.1.2.1, nI_one (by have := hq.hP; omega), nI_1, nI_1, Int32.add_zero]
    refine pk_lt k (2 ^ D 1 0) (fun _ => ⟨_, _, q_260 q2 n2 c2 (by omega), q2.sg, w_b (fun e => ?_) (fun e => ?_)⟩) (fun z => absurd z (by omega)) rfl rfl (by omega) (by omega)
    · rw [fa_cnt_no e] at ih; exact ih
    · rw [fa_cnt_yes e] at ih; exact ih
  · refine b_261_13 q2.sg ?_
    rw [q2.mt.1.2.1, nI_one (by have := hq.hP; omega)]
    exact pk_lt (2 ^ D 1 0) (2 ^ D 1 0) (fun z => absurd z (Nat.lt_irrefl _)) (fun _ => rfl) rfl rfl (by omega) (by omega)
theorem cnt_ex {f : Nat → Bool} {n : Nat} (h : fa_cnt f n ≠ 0) : ∃ s, s < n ∧ f s = true := by
  refine Classical.byContradiction (fun z => h ((cnt_0 n).mpr (fun s hs => ?_)))
  cases e : f s with
  | false => rfl
  | true => exact absurd ⟨s, hs, e⟩ z
theorem i_rang {x : Int32} (h : Inv t σ D H) : PrI 134 262 [.int x] σ := by
  obtain ⟨hq, _, _, _, hn⟩ := h
  obtain ⟨K, W, T, S, hn⟩ := hn.nk
  have hP := hq.hP
  have hN := p_1024 hq
  rcases bad_or x (show D 1 0 < 2 ^ 31 by omega) with h | ⟨p, hp, rfl⟩
  · exact PrI.mk0 hq (v := -1) (ck_134 hq.sg (b_134_0 hq.sg ⟨_, _, c_143n hq.sg hq.ct.1.2.1 h, hq.sg, fun _ => rfl, fun z => absurd rfl z⟩)) ⟨_, ck_262 hq.sg (b_262_0 hq.sg ⟨_, _, c_200n hq.th.sg hq.th.mt.1.2.1 h, hq.th.sg, fun _ => rfl, fun z => absurd rfl z⟩), wq_th⟩
  · obtain ⟨σ1, h1, f1, g1⟩ := c_148 hq hn
    have fq1 := f1.mono (fun _ _ h => wq_148 h)
    have q1 := hq.fr fq1 (fun _ _ h => h)
    obtain ⟨f, ef⟩ : ∃ f, f = fx W T S K (evn D) := ⟨_, rfl⟩
    rw [← ef] at h1 g1
    have cl := fa_cnt_le f (2 ^ D 1 0)
    have oI := oO_lt (f := f) (g := fun s => s &&& 1023) (L := 10) (fun s => Nat.lt_of_le_of_lt Nat.and_le_right (by decide)) (2 ^ D 1 0)
    have aB := aA_b (f := f) (g := fun s => s) (p := p) (by omega) (2 ^ D 1 0)
    have oB := oO_b (f := f) (g := fun s => s) (p := p) (2 ^ D 1 0)
    have oL : oO f (fun s => s) (2 ^ D 1 0) < 2 ^ 10 := by
      have : ∀ k, k ≤ 1024 → oO f (fun s => s) k < 2 ^ 10 := by
        intro k
        induction k with
        | zero => intro _; exact Nat.two_pow_pos _
        | succ k ih =>
          intro hk
          show (if f k = true then oO f (fun s => s) k ||| k else oO f (fun s => s) k) < _
          by_cases c : f k = true
          · rw [if_pos c]; exact Nat.or_lt_two_pow (ih (by omega)) (by omega)
          · rw [if_neg c]; exact ih (by omega)
      exact this _ hN
    refine PrI.mk hq (v := if fa_cnt f (2 ^ D 1 0) = 0 then -2 else if (aA f (fun s => s) (2 ^ D 1 0)).testBit p = true then 1 else if (oO f (fun s => s) (2 ^ D 1 0)).testBit p = true then 2 else 0) (ck_134 hq.sg (b_134_0 hq.sg ⟨_, _, c_143y hq.sg hq.ct.1.2.1 (by omega) hp, hq.sg, fun z => absurd z (by decide), fun _ => ⟨_, σ1, h1, q1.sg, ?_⟩⟩)) fq1 (fun _ _ h => h) (fun q => ?_)
    · refine w_p (nI_i0 (by omega)) (fun z => ?_) (fun z => ?_)
      · rw [if_pos z]
      · obtain ⟨s, hs, fs⟩ := cnt_ex z
        have al := aA_le (f := f) (g := fun s => s) (L := 10) (2 ^ D 1 0) s hs fs (show s < 2 ^ 10 by omega)
        rw [if_neg z, g1.1, g1.2.1]
        refine bitc (by omega) (by omega) (fun b1 => bitc (by omega) (by omega) (fun b2 => ?_) (fun b2 => ?_)) (fun b1 => ?_)
        · rw [b1, b2]; rfl
        · rw [b1, b2]; rfl
        · rw [b1]; rfl
    · obtain ⟨σ2, h2, f2, c2⟩ := q_258 q.th (nk_q (nk_q hn fq1) wq_th)
      have q2 := q.th.fr f2 (fun _ _ h => h)
      have n2 := nk_q (nk_q (nk_q hn fq1) wq_th) f2
      refine ⟨σ2, ck_262 q.sg (b_262_0 q.sg ⟨_, _, c_200y q.th.sg q.th.mt.1.2.1 (by omega) hp, q.th.sg, fun z => absurd z (by decide), fun _ => ⟨σ2, h2, q2.sg, ?_⟩⟩), wq_th.tr f2⟩
      obtain ⟨ee, e3⟩ := cnt_e (f := f) (b := fun s => s.testBit p) (2 ^ D 1 0)
      have e0 := cnt_0 (f := fun s => f s && s.testBit p) (2 ^ D 1 0)
      refine up_to (fun k => Ev 262 26 [.ref 59, .int (nI p), .int (nI (fa_cnt f k)), .int (nI (fa_cnt (fun s => f s && s.testBit p) k)), .int (nI k)] [] σ2 _) (2 ^ D 1 0) ?_ ?_ 0 (Nat.zero_le _)
      · intro k hk ih
        refine b_262_26 q2.sg ?_
        have c60 := q_260 (s := k) q2 n2 c2 (by omega)
        rw [← ef] at c60
        rw [q2.mt.1.2.1, nI_one (by omega), nI_1, nI_1, nI_bit (by omega) (by omega)]
        refine pk_lt k (2 ^ D 1 0) (fun _ => ⟨_, _, c60, q2.sg, w_b (fun e => ?_) (fun e => ?_)⟩) (fun z => absurd z (by omega)) rfl rfl (by omega) (by omega)
        · have e' : (fun s => f s && s.testBit p) k = false := by show (f k && k.testBit p) = false; rw [e]; rfl
          rw [fa_cnt_no e, fa_cnt_no e'] at ih; exact ih
        · cases hb : k.testBit p with
          | false =>
            have e' : (fun s => f s && s.testBit p) k = false := by show (f k && k.testBit p) = false; rw [e, hb]; rfl
            rw [fa_cnt_yes e, fa_cnt_no e'] at ih
            rw [if_neg (by decide), Int32.add_zero]; exact ih
          | true =>
            have e' : (fun s => f s && s.testBit p) k = true := by show (f k && k.testBit p) = true; rw [e, hb]; rfl
            rw [fa_cnt_yes e, fa_cnt_yes e'] at ih
            rw [if_pos rfl, nI_1]; exact ih
      · refine b_262_26 q2.sg ?_
        rw [q2.mt.1.2.1, nI_one (by omega)]
        refine pk_lt (2 ^ D 1 0) (2 ^ D 1 0) (fun z => absurd z (Nat.lt_irrefl _)) (fun _ => w_p (nI_i0 (by omega)) (fun z => ?_) (fun z => w_p (nI_eq (by omega) (by omega)) (fun y => ?_) (fun y => w_p (nI_i0 (by omega)) (fun u => ?_) (fun u => ?_)))) rfl rfl (by omega) (by omega)
        · rw [if_pos z]
        · rw [if_neg z, if_pos (aB.mpr (e3.mp y))]
        · rw [if_neg z, if_neg (fun r => y (e3.mpr (aB.mp r))), if_neg (fun r => ?_)]
          obtain ⟨s, s1, s2, s3⟩ := oB.mp r
          have := e0.mp u s s1
          have this : (f s && s.testBit p) = false := this
          have s3 : s.testBit p = true := s3
          rw [s2, s3] at this
          exact absurd this (by decide)
        · obtain ⟨s, s1, s2⟩ := cnt_ex u
          have s2 : (f s && s.testBit p) = true := s2
          rw [Bool.and_eq_true] at s2
          rw [if_neg z, if_neg (fun r => y (e3.mpr (aB.mp r))), if_pos (oB.mpr ⟨s, s1, s2.1, s2.2⟩)]
theorem i_ask (h : Inv t σ D H) : PrI 135 263 [] σ := by
  obtain ⟨hq, _, _, _, hn⟩ := h
  obtain ⟨K, W, T, S, hn⟩ := hn.nk
  have hP := hq.hP
  have hL := hq.hL
  have hN := p_1024 hq
  obtain ⟨σ1, h1, f1, g1⟩ := c_148 hq hn
  have fq1 := f1.mono (fun _ _ h => wq_148 h)
  have q1 := hq.fr fq1 (fun _ _ h => h)
  obtain ⟨f, ef⟩ : ∃ f, f = fx W T S K (evn D) := ⟨_, rfl⟩
  rw [← ef] at h1 g1
  have cl := fa_cnt_le f (2 ^ D 1 0)
  obtain ⟨A, eA⟩ : ∃ A, A = aA f (evn D) (2 ^ D 1 0) := ⟨_, rfl⟩
  obtain ⟨O, eO⟩ : ∃ O, O = oO f (evn D) (2 ^ D 1 0) := ⟨_, rfl⟩
  have oL : O < 2 ^ D 0 0 := by rw [eO]; exact oO_lt (fun s => evn_lt hq s) _
  have o14 : O < 2 ^ 14 := Nat.lt_of_lt_of_le oL (Nat.pow_le_pow_right (by decide) hL)
  have oB : ∀ l, O.testBit l = true → ∃ s, s < 2 ^ D 1 0 ∧ f s = true := fun l hl => by
    rw [eO] at hl
    obtain ⟨s, a, b, _⟩ := (oO_b _).mp hl
    exact ⟨s, a, b⟩
  have aL : ∀ l, O.testBit l = true → A < 2 ^ 14 := fun l hl => by
    obtain ⟨s, a, b⟩ := oB l hl
    rw [eA]; exact aA_le _ s a b (evn_14 hq s)
  obtain ⟨r, er⟩ : ∃ r, r = O ^^^ (O &&& A) := ⟨_, rfl⟩
  have r14 : r < 2 ^ 14 := by rw [er]; exact Nat.xor_lt_two_pow o14 (Nat.lt_of_le_of_lt Nat.and_le_left o14)
  have rL : r < 2 ^ D 0 0 := by rw [er]; exact Nat.xor_lt_two_pow oL (Nat.lt_of_le_of_lt Nat.and_le_left oL)
  have rb : ∀ l, r.testBit l = (O.testBit l && !(A.testBit l)) := fun l => by
    rw [er, Nat.testBit_xor, Nat.testBit_and]
    cases O.testBit l <;> cases A.testBit l <;> rfl
  have r0 : fa_cnt f (2 ^ D 1 0) = 0 → r = 0 := fun z => by
    refine Nat.eq_of_testBit_eq (fun l => ?_)
    rw [rb, Nat.zero_testBit]
    cases e : O.testBit l with
    | false => rfl
    | true =>
      obtain ⟨s, a, b⟩ := oB l e
      rw [(cnt_0 _).mp z s a] at b
      exact absurd b (by decide)
  refine PrI.mk hq (v := if r = 0 then -2 else nI (tz r)) (ck_135 hq.sg (b_135_0 hq.sg ⟨_, σ1, h1, q1.sg, ?_⟩)) fq1 (fun _ _ h => h) (fun q => ?_)
  · refine w_p (nI_i0 (by omega)) (fun z => ?_) (fun z => ?_)
    · rw [if_pos (r0 z)]
    · rw [g1.2.2.1, g1.2.2.2, ← eA, ← eO, nI_andn, ← er]
      refine w_p (nI_i0 (by omega)) (fun y => ?_) (fun y => ?_)
      · rw [if_pos y]
      · exact ⟨_, _, c_275 q1.sg r14 (by omega), q1.sg, by rw [if_neg y]⟩
  · obtain ⟨σ2, h2, f2, c2⟩ := q_258 q.th (nk_q (nk_q hn fq1) wq_th)
    have q2 := q.th.fr f2 (fun _ _ h => h)
    have n2 := nk_q (nk_q (nk_q hn fq1) wq_th) f2
    refine ⟨σ2, ck_263 q.sg (b_263_0 q.sg ⟨σ2, h2, q2.sg, ?_⟩), wq_th.tr f2⟩
    have last : Ev 263 60 [.ref 59, .int (nI A), .int (nI O), .int (nI 0)] [] σ2 (some (.int (if r = 0 then -2 else nI (tz r))), σ2) := by
      have lo := up_to (fun l => (∀ j, j < l → r.testBit j = false) → Ev 263 60 [.ref 59, .int (nI A), .int (nI O), .int (nI l)] [] σ2 (some (.int (if r = 0 then -2 else nI (tz r))), σ2)) (D 0 0) ?_ ?_ 0 (Nat.zero_le _)
      · exact lo (fun j hj => absurd hj (Nat.not_lt_zero _))
      · intro l hl ih hz
        refine b_263_60 q2.sg ?_
        have rl := rb l
        rw [q2.mt.1.1, nI_1]
        have nx : r.testBit l = false → ∀ j, j < l + 1 → r.testBit j = false := fun e j hj => by
          by_cases c : j = l
          · rw [c]; exact e
          · exact hz j (by omega)
        refine pk_lt l (D 0 0) (fun _ => ⟨_, _, c_153 q2.sg (by omega) (by omega), q2.sg, w_b (fun e => ?_) (fun e => ?_)⟩) (fun z => absurd z (by omega)) rfl rfl (by omega) (by omega)
        · exact ih (nx (by rw [rl, e]; rfl))
        · have al := aL l e
          refine ⟨_, _, c_153 q2.sg (by omega) (by omega), q2.sg, w_b (fun e2 => ?_) (fun e2 => ?_)⟩
          · rw [e, e2] at rl
            have rl : r.testBit l = true := rl
            have rn : r ≠ 0 := fun z => by rw [z, Nat.zero_testBit] at rl; exact absurd rl (by decide)
            obtain ⟨t1, t2, t3⟩ := tz_n r14 (by omega)
            have el : tz r = l := by
              rcases Nat.lt_trichotomy (tz r) l with g | g | g
              · have := hz _ g
                rw [t1] at this; exact absurd this (by decide)
              · exact g
              · have := t2 _ g
                rw [rl] at this; exact absurd this (by decide)
            rw [if_neg rn, el]
          · exact ih (nx (by rw [rl, e, e2]; rfl))
      · intro hz
        have rz : r = 0 := by
          refine Nat.eq_of_testBit_eq (fun l => ?_)
          rw [Nat.zero_testBit]
          rcases Nat.lt_or_ge l (D 0 0) with g | g
          · exact hz l g
          · exact Nat.testBit_lt_two_pow (Nat.lt_of_lt_of_le rL (Nat.pow_le_pow_right (by decide) g))
        refine b_263_60 q2.sg ?_
        rw [q2.mt.1.1, if_pos rz]
        exact pk_lt (D 0 0) (D 0 0) (fun z => absurd z (Nat.lt_irrefl _)) (fun _ => rfl) rfl rfl (by omega) (by omega)
    have m1 : (-1 : Int32) = nI (aA f (evn D) 0) := by show (-1 : Int32) = nI 4294967295; decide
    rw [m1]
    refine up_to (fun k => Ev 263 15 [.ref 59, .int (nI (aA f (evn D) k)), .int (nI (oO f (evn D) k)), .int (nI k)] [] σ2 (some (.int (if r = 0 then -2 else nI (tz r))), σ2)) (2 ^ D 1 0) ?_ ?_ 0 (Nat.zero_le _)
    · intro k hk ih
      refine b_263_15 q2.sg ?_
      have c60 := q_260 (s := k) q2 n2 c2 (by omega)
      rw [← ef] at c60
      rw [q2.mt.1.2.1, nI_one (by omega), nI_1]
      have ea : aA f (evn D) (k + 1) = if f k = true then aA f (evn D) k &&& evn D k else aA f (evn D) k := rfl
      have eo : oO f (evn D) (k + 1) = if f k = true then oO f (evn D) k ||| evn D k else oO f (evn D) k := rfl
      rw [ea, eo] at ih
      refine pk_lt k (2 ^ D 1 0) (fun _ => ⟨_, _, c60, q2.sg, w_b (fun e => ?_) (fun e => ?_)⟩) (fun z => absurd z (by omega)) rfl rfl (by omega) (by omega)
      · rw [e, if_neg (by decide), if_neg (by decide)] at ih; exact ih
      · rw [e, if_pos rfl, if_pos rfl, ← fa_and, ← fa_or] at ih
        exact ⟨_, _, q_259 q2 (by omega), q2.sg, _, _, q_259 q2 (by omega), q2.sg, ih⟩
    · refine b_263_15 q2.sg ?_
      rw [q2.mt.1.2.1, nI_one (by omega), ← eA, ← eO]
      exact pk_lt (2 ^ D 1 0) (2 ^ D 1 0) (fun z => absurd z (Nat.lt_irrefl _)) (fun _ => last) rfl rfl (by omega) (by omega)
end Wa4
