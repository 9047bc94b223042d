/-! ===== questions: what comes, by chance, tried otherwise ===== -/
section Q3
variable {t : Nat} {σ : Mm} {D H : Nat → Nat → Nat}
theorem wq_h {x i : Nat} (h : Wh 30 x i) : Wq x i := by unfold Wh at h; unfold Wq; omega
theorem wq_c {x i : Nat} (h : Wc x i) : Wq x i := by unfold Wc at h; unfold Wq; omega
theorem wq_ru {x i : Nat} (h : Wru 30 x i) : Wq x i := by unfold Wru at h; unfold Wq; omega
theorem wq_l {x i : Nat} (h : Wl x i) : Wq x i := by unfold Wl at h; unfold Wq; omega
theorem wq_p {x i : Nat} (h : Wp x i) : Wq x i := by unfold Wp at h; unfold Wq; omega
theorem wq_m {x i : Nat} (h : Wm 1 false x i) : Wq x i := by
  rcases h with h | h | h | h | h
  · unfold Wq; omega
  · unfold Wq; omega
  · unfold Wq; omega
  · unfold Wq; omega
  · exact absurd h.1 (by decide)
theorem cc_cm {d w p : Int32} {dr : Bool} (h : CC σ d w p) (hd : d = if dr = true then 1 else 0) : CM σ dr (decide (w ≠ 0)) (decide (w ≠ 1)) (decide (w ≠ 3)) (if w = 2 then p else -1) := by
  obtain ⟨h0, h1, h2, h3, h4⟩ := h
  have key : ∀ k : Int32, (if w = k then (0 : Int32) else 1) = if decide (w ≠ k) = true then 1 else 0 := by
    intro k
    by_cases c : w = k
    · rw [if_pos c, decide_eq_false (fun z => z c)]; rfl
    · rw [if_neg c, decide_eq_true c]; rfl
  exact ⟨h0.trans hd, h1.trans (key 0), h2.trans (key 1), h3.trans (key 3), h4⟩
theorem pl_mm (h : Pl σ) : MM σ false true true true (-1) := ⟨h.1, h.2.1, h.2.2.1, h.2.2.2.1, h.2.2.2.2⟩
/-- the house as it is, laid for a trial, as it goes -/
theorem tr_c (hq : Q t σ D H) : ∃ σ1 σ2, Cl 19 [.ref 30, .ref 26] σ (none, σ1) ∧ Sg t σ1 ∧ Cl 6 [.ref 38] σ1 (none, σ2) ∧ Fr Wq σ σ2 ∧ Q t σ2 D H ∧ CH σ2 30 H ∧ CM σ2 false true true true (-1) := by
  obtain ⟨σ1, h1, f1, c1⟩ := c_19 (a := 30) (a1 := 26) hq.sg (Or.inr (Or.inl rfl)) (Or.inl rfl) (by decide) hq.ch
  have q1 := hq.fr f1 (fun _ _ h => wq_h h)
  obtain ⟨σ2, h2, f2, c2⟩ := c_6 q1.sg
  have q2 := q1.fr f2 (fun _ _ h => wq_c h)
  exact ⟨σ1, σ2, h1, q1.sg, h2, (f1.mono (fun _ _ h => wq_h h)).tr (f2.mono (fun _ _ h => wq_c h)), q2, c1.fr f2 (fun x i h3 h4 => by unfold Wc; omega), cc_cm c2 rfl⟩
theorem tr_m (hq : Q t σ D H) : ∃ σ1, Cl 198 [.ref 59] σ (none, σ1) ∧ Fr Wq σ σ1 ∧ Q t σ1 D H ∧ MH σ1 1 (D 1 0) H ∧ MM σ1 false true true true (-1) := by
  obtain ⟨σ1, h1, f1, m1, p1⟩ := c_198 hq.sg hq.hP hq.mh
  exact ⟨σ1, h1, f1.mono (fun _ _ h => wq_l h), hq.fr f1 (fun _ _ h => wq_l h), m1, pl_mm p1⟩
theorem q_ahead {x y : Int32} (hq : Q t σ D H) : PrI 112 224 [.int x, .int y] σ := by
  have hmi := hq.mi
  by_cases hx : x < 0 ∨ 200 < x
  · exact PrI.mk0 hq (v := -1) (ck_112 hq.sg (b_112_0 hq.sg (w_rb hx rfl))) ⟨_, ck_224 hq.sg (b_224_0 hq.sg ⟨_, _, c_152n hq.th.sg hx, hq.th.sg, fun _ => rfl, fun z => absurd rfl z⟩), wq_th⟩
  by_cases hy : y < 0 ∨ 4 < y
  · exact PrI.mk0 hq (v := -1) (ck_112 hq.sg (b_112_0 hq.sg (w_rg hx (w_rb hy rfl)))) ⟨_, ck_224 hq.sg (b_224_0 hq.sg ⟨_, _, c_152y hq.th.sg hx, hq.th.sg, fun z => absurd z n10, fun _ => ⟨_, _, c_152n hq.th.sg hy, hq.th.sg, fun _ => rfl, fun z => absurd rfl z⟩⟩), wq_th⟩
  obtain ⟨n, hn, rfl⟩ := nI_of (fun z => hx (Or.inl z))
  have hn2 : n ≤ 200 := by
    rcases Nat.lt_or_ge 200 n with g | g
    · exact absurd (Or.inr (nI_lt (a := 200) g hn)) hx
    · exact g
  have hm : H 0 0 + n < 2 ^ 20 := by omega
  obtain ⟨σ1, σ2, h1, s1, h2, f2, q2, t2, m2⟩ := tr_c hq
  obtain ⟨σ3, h3, f3, c3⟩ := c_8 (a2 := 30) q2.sg q2.tt (Or.inr (Or.inl rfl)) q2.ct hq.wd t2 hq.wh m2 hm
  have q3 := q2.fr f3 (fun _ _ h => wq_ru h)
  have F : Fr Wq σ σ3 := f2.tr (f3.mono (fun _ _ h => wq_ru h))
  have hW : WH (D 1 0) (mns D false true true true (-1) n H) := mns_WH hq.wd hq.wh n hm
  have hsh := sh_lt hW
  generalize hG : mns D false true true true (-1) n H = G at c3 hW hsh
  refine PrI.mk hq (v := if y = 0 then nI (pcn (sh G)) else if y = 1 then nI (G 4 0) - nI (H 4 0) else if y = 2 then nI (G 5 0) - nI (H 5 0) else if y = 3 then nI (pcn (G 2 0)) else nI (pcn (G 3 0))) (ck_112 hq.sg (b_112_0 hq.sg (w_rg hx (w_rg hy ⟨σ1, h1, s1, σ2, h2, q2.sg, σ3, h3, q3.sg, fun z => ?_, fun z => ?_, fun z => ?_, fun z => ?_, fun z => ?_⟩)))) F (fun _ _ h => h) (fun q => ?_)
  · rw [if_pos z]
    exact ⟨_, _, c_20 q3.sg (Or.inr (Or.inl rfl)) (c3.1 1 (by decide)) (c3.1 2 (by decide)), q3.sg, _, _, c_276 q3.sg hsh, q3.sg, rfl⟩
  · rw [c3.1 4 (by decide), q3.ch.1 4 (by decide), z]; rfl
  · rw [c3.1 5 (by decide), q3.ch.1 5 (by decide), z]; rfl
  · rw [c3.1 2 (by decide), z]
    exact ⟨_, _, c_276 q3.sg hW.2.2.1, q3.sg, rfl⟩
  · rw [c3.1 3 (by decide), if_neg z.1, if_neg z.2.1, if_neg z.2.2.1, if_neg z.2.2.2]
    exact ⟨_, _, c_276 q3.sg (Nat.lt_trans hW.2.2.2.1 (by decide)), q3.sg, rfl⟩
  · obtain ⟨τ1, g1, e1, p1, mh1, mm1⟩ := tr_m q.th
    obtain ⟨τ2, g2, e2, mh2, _⟩ := c_214 (n := n) p1.sg p1.mt hq.wd mh1 hq.wh mm1 (fun _ => rfl) (fun z => absurd z (by decide)) hm
    have p2 := p1.fr e2 (fun _ _ h => wq_m h)
    rw [hG] at mh2
    have w2 := hW.2.2.1
    have w3 := hW.2.2.2.1
    have hsh2 : G 1 0 ^^^ (G 1 0 &&& G 2 0) < 2 ^ 31 := Nat.lt_trans hsh (by decide)
    refine ⟨τ2, ck_224 q.sg (b_224_0 q.sg ⟨_, _, c_152y q.th.sg hx, q.th.sg, fun z => absurd z n10, fun _ => ⟨_, _, c_152y q.th.sg hy, q.th.sg, fun z => absurd z n10, fun _ => ⟨τ1, g1, p1.sg, τ2, g2, p2.sg, fun z => ?_, fun z => ?_, fun z => ?_, fun z => ?_, fun z => ?_⟩⟩⟩), wq_th.tr (e1.tr (e2.mono (fun _ _ h => wq_m h)))⟩
    · rw [if_pos z]
      exact ⟨_, _, c_203 (b := 1) p2.sg (by decide) mh2.1.1 mh2.1.2.1, p2.sg, _, _, c_202 p2.sg hsh2, p2.sg, rfl⟩
    · rw [show mI τ2 85 1 = nI (G 4 0) from mh2.1.2.2.2.1, show mI τ2 85 0 = nI (H 4 0) from p2.mh.1.2.2.2.1, z]; rfl
    · rw [show mI τ2 86 1 = nI (G 5 0) from mh2.1.2.2.2.2.1, show mI τ2 86 0 = nI (H 5 0) from p2.mh.1.2.2.2.2.1, z]; rfl
    · rw [show mI τ2 83 1 = nI (G 2 0) from mh2.1.2.1, z]
      exact ⟨_, _, c_202 p2.sg (by omega), p2.sg, rfl⟩
    · rw [show mI τ2 84 1 = nI (G 3 0) from mh2.1.2.2.1, if_neg z.1, if_neg z.2.1, if_neg z.2.2.1, if_neg z.2.2.2]
      exact ⟨_, _, c_202 p2.sg (by omega), p2.sg, rfl⟩
theorem first_eq {p : Nat → Bool} {k n : Nat} (hk : k < n) (hl : ∀ j, j < k → p j = false) (hp : p k = true) : fa_first p n = k := by
  have h1 := fa_first_no p n
  have h2 := fa_first_yes p n
  rcases Nat.lt_trichotomy (fa_first p n) k with g | g | g
  · have := h2 (by omega)
    rw [hl _ g] at this
    cases this
  · exact g
  · have := h1 k g
    rw [hp] at this
    cases this
theorem first_none {p : Nat → Bool} {n : Nat} (hl : ∀ j, j < n → p j = false) : ¬ fa_first p n < n := by
  intro h
  have := fa_first_yes p n h
  rw [hl _ h] at this
  cases this
theorem q_dark {x : Int32} (hq : Q t σ D H) : PrI 113 225 [.int x] σ := by
  have hL := hq.hL
  have hmi := hq.mi
  rcases bad_or x (show D 0 0 < 2 ^ 31 by omega) with h | ⟨l, hl, rfl⟩
  · exact PrI.mk0 hq (v := -1) (ck_113 hq.sg (b_113_0 hq.sg ⟨_, _, c_142n hq.sg hq.ct.1.1 h, hq.sg, fun _ => rfl, fun z => absurd rfl z⟩)) ⟨_, ck_225 hq.sg (b_225_0 hq.sg ⟨_, _, c_199n hq.th.sg hq.th.mt.1.1 h, hq.th.sg, fun _ => rfl, fun z => absurd rfl z⟩), wq_th⟩
  obtain ⟨σ1, σ2, h1, s1, h2, f2, q2, t2, m2⟩ := tr_c hq
  have hWk : ∀ k, k ≤ 200 → WH (D 1 0) (mns D false true true true (-1) k H) := fun k hk => mns_WH hq.wd hq.wh k (by omega)
  have h0k : ∀ k, mns D false true true true (-1) k H 0 0 = H 0 0 + k := fun k => mns_0 k
  -- the first side's loop
  have cls : ∃ σ3, Ev 113 30 [.ref 0, .int (nI l), .int (nI 0)] [] σ2 (some (.int (if fa_first (fun k => !((sh (mns D false true true true (-1) k H)).testBit l)) 200 < 200 then nI (fa_first (fun k => !((sh (mns D false true true true (-1) k H)).testBit l)) 200) else -2)), σ3) ∧ Fr Wq σ2 σ3 := by
    refine lp (fun k σ3 => Fr Wq σ2 σ3 ∧ CH σ3 30 (mns D false true true true (-1) k H) ∧ CM σ3 false true true true (-1) ∧ ∀ j, j < k → (!((sh (mns D false true true true (-1) j H)).testBit l)) = false) (fun k σ3 => ∃ σ4, Ev 113 30 [.ref 0, .int (nI l), .int (nI k)] [] σ3 (some (.int (if fa_first (fun k => !((sh (mns D false true true true (-1) k H)).testBit l)) 200 < 200 then nI (fa_first (fun k => !((sh (mns D false true true true (-1) k H)).testBit l)) 200) else -2)), σ4) ∧ Fr Wq σ2 σ4) 200 ?_ ?_ (Nat.zero_le _) ⟨Fr.rf σ2, t2, m2, fun j hj => absurd hj (Nat.not_lt_zero j)⟩
    · intro k σ3 hk ⟨f3, c3, m3, hno⟩ ih
      have q3 := q2.fr f3 (fun _ _ h => h)
      have hsh := sh_lt (hWk k (by omega))
      have q20 := c_20 q3.sg (Or.inr (Or.inl rfl)) (c3.1 1 (by decide)) (c3.1 2 (by decide))
      have hsh2 : (mns D false true true true (-1) k H 1 0) ^^^ ((mns D false true true true (-1) k H 1 0) &&& (mns D false true true true (-1) k H 2 0)) < 2 ^ 31 := Nat.lt_trans hsh (by decide)
      cases hb : (sh (mns D false true true true (-1) k H)).testBit l with
      | false =>
        have e := first_eq (p := fun k => !((sh (mns D false true true true (-1) k H)).testBit l)) hk hno (by show (!_) = true; rw [hb]; rfl)
        refine ⟨σ3, b_113_30 q3.sg (pk_lt 199 k (fun z => absurd z (by omega)) (fun _ => ⟨_, _, q20, q3.sg, bitc hsh2 (by omega) (fun _ => ?_) (fun z => absurd hb (by rw [sh, z]; decide))⟩)), f3⟩
        rw [e, if_pos hk]
      | true =>
        obtain ⟨σ5, h5, f5, c5⟩ := c_8 (a2 := 30) (n := 1) q3.sg q3.tt (Or.inr (Or.inl rfl)) q3.ct hq.wd c3 (hWk k (by omega)) m3 (by rw [h0k]; omega)
        obtain ⟨σ4, h4, f4⟩ := ih σ5 ⟨f3.tr (f5.mono (fun _ _ h => wq_ru h)), c5, m3.fr (Or.inr (Or.inl rfl)) f5, fun j hj => by
          rcases Nat.lt_or_ge j k with g | g
          · exact hno j g
          · have : j = k := by omega
            subst this
            rw [hb]; rfl⟩
        refine ⟨σ4, b_113_30 q3.sg ?_, f4⟩
        rw [nI_1]
        exact pk_lt 199 k (fun z => absurd z (by omega)) (fun _ => ⟨_, _, q20, q3.sg, bitc hsh2 (by omega) (fun z => absurd hb (by rw [sh, z]; decide)) (fun _ => ⟨σ5, h5, f5.sg q3.sg, h4⟩)⟩)
    · intro σ3 ⟨f3, c3, m3, hno⟩
      refine ⟨σ3, b_113_30 (f3.sg q2.sg) (pk_lt 199 200 (fun _ => ?_) (fun z => absurd z (by omega))), f3⟩
      rw [if_neg (first_none hno)]
  obtain ⟨σ3, h3, f3⟩ := cls
  refine PrI.mk hq (ck_113 hq.sg (b_113_0 hq.sg ⟨_, _, c_142y hq.sg hq.ct.1.1 (by omega) hl, hq.sg, fun z => absurd z n10, fun _ => ⟨σ1, h1, s1, σ2, h2, q2.sg, h3⟩⟩)) (f2.tr f3) (fun _ _ h => h) (fun q => ?_)
  obtain ⟨τ1, g1, e1, p1, mh1, mm1⟩ := tr_m q.th
  have mdl : ∃ σ3, Ev 225 21 [.ref 59, .int (nI l), .int (nI 0)] [] τ1 (some (.int (if fa_first (fun k => !((sh (mns D false true true true (-1) k H)).testBit l)) 200 < 200 then nI (fa_first (fun k => !((sh (mns D false true true true (-1) k H)).testBit l)) 200) else -2)), σ3) ∧ Fr Wq τ1 σ3 := by
    refine lp (fun k σ3 => Fr (Wm 1 false) τ1 σ3 ∧ MH σ3 1 (D 1 0) (mns D false true true true (-1) k H) ∧ ∀ j, j < k → (!((sh (mns D false true true true (-1) j H)).testBit l)) = false) (fun k σ3 => ∃ σ4, Ev 225 21 [.ref 59, .int (nI l), .int (nI k)] [] σ3 (some (.int (if fa_first (fun k => !((sh (mns D false true true true (-1) k H)).testBit l)) 200 < 200 then nI (fa_first (fun k => !((sh (mns D false true true true (-1) k H)).testBit l)) 200) else -2)), σ4) ∧ Fr Wq τ1 σ4) 200 ?_ ?_ (Nat.zero_le _) ⟨Fr.rf τ1, mh1, fun j hj => absurd hj (Nat.not_lt_zero j)⟩
    · intro k σ3 hk ⟨f3, c3, hno⟩ ih
      have q3 := p1.fr f3 (fun _ _ h => wq_m h)
      have hsh := sh_lt (hWk k (by omega))
      have q20 := c_203 (b := 1) q3.sg (by decide) c3.1.1 c3.1.2.1
      have hsh2 : (mns D false true true true (-1) k H 1 0) ^^^ ((mns D false true true true (-1) k H 1 0) &&& (mns D false true true true (-1) k H 2 0)) < 2 ^ 31 := Nat.lt_trans hsh (by decide)
      have q153 := c_153 (k := l) q3.sg hsh2 (by omega)
      cases hb : (sh (mns D false true true true (-1) k H)).testBit l with
      | false =>
        have e := first_eq (p := fun k => !((sh (mns D false true true true (-1) k H)).testBit l)) hk hno (by show (!_) = true; rw [hb]; rfl)
        refine ⟨σ3, b_225_21 q3.sg (pk_lt k 200 (fun _ => ⟨_, _, q20, q3.sg, _, _, q153, q3.sg, w_b (fun _ => ?_) (fun z => absurd hb (by rw [sh, z]; decide))⟩) (fun z => absurd z (by omega))), f3.mono (fun _ _ h => wq_m h)⟩
        rw [e, if_pos hk]
      | true =>
        obtain ⟨σ5, h5, f5, c5, _⟩ := c_213 (b := 1) q3.sg (by decide) q3.mt hq.wd c3 (hWk k (by omega)) (mm1.fr f3) (fun _ => rfl) (fun z => absurd z (by decide))
        obtain ⟨σ4, h4, f4⟩ := ih σ5 ⟨f3.tr f5, c5, fun j hj => by
          rcases Nat.lt_or_ge j k with g | g
          · exact hno j g
          · have : j = k := by omega
            subst this
            rw [hb]; rfl⟩
        refine ⟨σ4, b_225_21 q3.sg ?_, f4⟩
        rw [nI_1]
        exact pk_lt k 200 (fun _ => ⟨_, _, q20, q3.sg, _, _, q153, q3.sg, w_b (fun z => absurd hb (by rw [sh, z]; decide)) (fun _ => ⟨σ5, h5, f5.sg q3.sg, h4⟩)⟩) (fun z => absurd z (by omega))
    · intro σ3 ⟨f3, c3, hno⟩
      refine ⟨σ3, b_225_21 (f3.sg p1.sg) (pk_lt 200 200 (fun z => absurd z (by omega)) (fun _ => ?_)), f3.mono (fun _ _ h => wq_m h)⟩
      rw [if_neg (first_none hno)]
  obtain ⟨τ3, g3, e3⟩ := mdl
  exact ⟨τ3, ck_225 q.sg (b_225_0 q.sg ⟨_, _, c_199y q.th.sg q.th.mt.1.1 (by omega) hl, q.th.sg, fun z => absurd z n10, fun _ => ⟨τ1, g1, p1.sg, g3⟩⟩), wq_th.tr (e1.tr e3)⟩
theorem q_tried {x y z : Int32} (hq : Q t σ D H) : PrI 137 265 [.int x, .int y, .int z] σ := by
  have hP := hq.hP
  have hmi := hq.mi
  -- whether there is such a thing
  have there : ∃ b : Bool, (∀ w, Ev 137 22 [.ref 0, .int x, .int y, .int z, .retAddr 0] [.int (if b = true then 1 else 0)] σ w → Cl 137 [.ref 0, .int x, .int y, .int z] σ w) ∧ (∀ σ1, Q t σ1 D H → ∀ w, (¬ (x < 0 ∨ 4 < x)) → (¬ (z < 0 ∨ 200 < z)) → ((b = true → Ev 265 47 [.ref 59, .int x, .int y, .int z] [] (uI σ1 59 2 0) w) ∧ (b = false → w = (some (.int (-1)), uI σ1 59 2 0))) → Cl 265 [.ref 59, .int x, .int y, .int z] σ1 w) := by
    by_cases c2 : x = 2
    · rcases bad_or y (show D 1 0 < 2 ^ 31 by omega) with h | ⟨p, hp, rfl⟩
      · exact ⟨false, fun w hw => ck_137 hq.sg (b_137_0 hq.sg ⟨fun _ => ⟨_, _, c_143n hq.sg hq.ct.1.2.1 h, hq.sg, hw⟩, fun z => absurd c2 z⟩), fun σ1 q w g1 g2 hw => ck_265 q.sg (b_265_0 q.sg ⟨_, _, c_152y q.th.sg g1, q.th.sg, fun z => absurd z n10, fun _ => ⟨_, _, c_152y q.th.sg g2, q.th.sg, fun z => absurd z n10, fun _ => ⟨fun _ => ⟨_, _, c_200n q.th.sg q.th.mt.1.2.1 h, q.th.sg, fun _ => hw.2 rfl, fun z => absurd rfl z⟩, fun z => absurd c2 z⟩⟩⟩)⟩
      · exact ⟨true, fun w hw => ck_137 hq.sg (b_137_0 hq.sg ⟨fun _ => ⟨_, _, c_143y hq.sg hq.ct.1.2.1 (by omega) hp, hq.sg, hw⟩, fun z => absurd c2 z⟩), fun σ1 q w g1 g2 hw => ck_265 q.sg (b_265_0 q.sg ⟨_, _, c_152y q.th.sg g1, q.th.sg, fun z => absurd z n10, fun _ => ⟨_, _, c_152y q.th.sg g2, q.th.sg, fun z => absurd z n10, fun _ => ⟨fun _ => ⟨_, _, c_200y q.th.sg q.th.mt.1.2.1 (by omega) hp, q.th.sg, fun z => absurd z n10, fun _ => hw.1 rfl⟩, fun z => absurd c2 z⟩⟩⟩)⟩
    · by_cases cy : y = 0
      · exact ⟨true, fun w hw => ck_137 hq.sg (b_137_0 hq.sg ⟨fun z => absurd z c2, fun _ => ⟨fun _ => hw, fun z => absurd cy z⟩⟩), fun σ1 q w g1 g2 hw => ck_265 q.sg (b_265_0 q.sg ⟨_, _, c_152y q.th.sg g1, q.th.sg, fun z => absurd z n10, fun _ => ⟨_, _, c_152y q.th.sg g2, q.th.sg, fun z => absurd z n10, fun _ => ⟨fun z => absurd z c2, fun _ => ⟨fun _ => hw.1 rfl, fun z => absurd cy z⟩⟩⟩⟩)⟩
      · exact ⟨false, fun w hw => ck_137 hq.sg (b_137_0 hq.sg ⟨fun z => absurd z c2, fun _ => ⟨fun z => absurd z cy, fun _ => hw⟩⟩), fun σ1 q w g1 g2 hw => ck_265 q.sg (b_265_0 q.sg ⟨_, _, c_152y q.th.sg g1, q.th.sg, fun z => absurd z n10, fun _ => ⟨_, _, c_152y q.th.sg g2, q.th.sg, fun z => absurd z n10, fun _ => ⟨fun z => absurd z c2, fun _ => ⟨fun z => absurd z cy, fun _ => hw.2 rfl⟩⟩⟩⟩)⟩
  obtain ⟨b, hc, hm⟩ := there
  by_cases hx : x < 0 ∨ 4 < x
  · exact PrI.mk0 hq (v := -1) (hc _ (b_137_22 hq.sg (w_rb hx rfl))) ⟨_, ck_265 hq.sg (b_265_0 hq.sg ⟨_, _, c_152n hq.th.sg hx, hq.th.sg, fun _ => rfl, fun z => absurd rfl z⟩), wq_th⟩
  by_cases hz : z < 0 ∨ 200 < z
  · exact PrI.mk0 hq (v := -1) (hc _ (b_137_22 hq.sg (w_rg hx (w_b (fun _ => rfl) (fun _ => w_rb hz rfl))))) ⟨_, ck_265 hq.sg (b_265_0 hq.sg ⟨_, _, c_152y hq.th.sg hx, hq.th.sg, fun z => absurd z n10, fun _ => ⟨_, _, c_152n hq.th.sg hz, hq.th.sg, fun _ => rfl, fun z => absurd rfl z⟩⟩), wq_th⟩
  cases hb : b with
  | false =>
    rw [hb] at hc hm
    exact PrI.mk0 hq (v := -1) (hc _ (b_137_22 hq.sg (w_rg hx ⟨fun _ => rfl, fun z => absurd rfl z⟩))) ⟨_, hm σ hq _ hx hz ⟨fun z => absurd z (by decide), fun _ => rfl⟩, wq_th⟩
  | true =>
    rw [hb] at hc hm
    obtain ⟨n, hn, rfl⟩ := nI_of (fun z => hz (Or.inl z))
    have hn2 : n ≤ 200 := by
      rcases Nat.lt_or_ge 200 n with g | g
      · exact absurd (Or.inr (nI_lt (a := 200) g hn)) hz
      · exact g
    obtain ⟨σ1, σ2, h1, s1, h2, f2, q2, t2, m2⟩ := tr_c hq
    obtain ⟨σ3, h3, f3, c3⟩ := c_7 (x := x) (p := y) q2.sg
    have q3 := q2.fr f3 (fun _ _ h => wq_c h)
    rw [m2.1] at c3
    have m3 := cc_cm (dr := false) c3 rfl
    have t3 := t2.fr f3 (fun x i h3 h4 => by unfold Wc; omega)
    -- mended first, or not
    have hG : ∃ G, G = (if x = 4 then whl H else H) := ⟨_, rfl⟩
    obtain ⟨G, eG⟩ := hG
    have hWG : WH (D 1 0) G := by
      rw [eG]
      split
      · exact whl_WH hq.wh
      · exact hq.wh
    have hG0 : G 0 0 = H 0 0 := by
      rw [eG]
      split
      · unfold whl
        rw [hu_n (by omega), hu_n (by omega)]
      · rfl
    have hm20 : G 0 0 + n < 2 ^ 20 := by omega
    have hWn := mns_WH (dr := false) (bu := decide (x ≠ 0)) (st := decide (x ≠ 1)) (me := decide (x ≠ 3)) (un := if x = 2 then y else -1) hq.wd hWG n hm20
    have hsh := sh_lt hWn
    generalize hR : mns D false (decide (x ≠ 0)) (decide (x ≠ 1)) (decide (x ≠ 3)) (if x = 2 then y else -1) n G = R at hWn hsh
    have hsh2 : R 1 0 ^^^ (R 1 0 &&& R 2 0) < 2 ^ 14 := hsh
    have cls : ∃ σ5, Cl 137 [.ref 0, .int x, .int y, .int (nI n)] σ (some (.int (nI (pcn (sh R)))), σ5) ∧ Fr Wq σ σ5 := by
      have f23 : Fr Wq σ σ3 := f2.tr (f3.mono (fun _ _ h => wq_c h))
      by_cases c4 : x = 4
      · have t4 : CH (uI (uI σ3 30 3 0) 30 2 0) 30 G := by
          rw [eG, if_pos c4]
          exact (t3.f (f := 3) (v := 0) (by decide)).f (f := 2) (v := 0) (by decide)
        have f4 : Fr Wq σ3 (uI (uI σ3 30 3 0) 30 2 0) := ((Fr.rf σ3).uI (by unfold Wq; omega)).uI (by unfold Wq; omega)
        have q4 := q3.fr f4 (fun _ _ h => h)
        have m4 : CM (uI (uI σ3 30 3 0) 30 2 0) false (decide (x ≠ 0)) (decide (x ≠ 1)) (decide (x ≠ 3)) (if x = 2 then y else -1) := m3
        obtain ⟨σ5, h5, f5, c5⟩ := c_8 (a2 := 30) q4.sg q4.tt (Or.inr (Or.inl rfl)) q4.ct hq.wd t4 hWG m4 hm20
        have q5 := q4.fr f5 (fun _ _ h => wq_ru h)
        rw [hR] at c5
        exact ⟨σ5, hc _ (b_137_22 hq.sg (w_rg hx ⟨fun z => absurd z (by decide), fun _ => w_rg hz ⟨σ1, h1, s1, σ2, h2, q2.sg, σ3, h3, q3.sg, fun _ => ⟨_, c_24 q3.sg (Or.inr (Or.inl rfl)), q4.sg, σ5, h5, q5.sg, _, _, c_20 q5.sg (Or.inr (Or.inl rfl)) (c5.1 1 (by decide)) (c5.1 2 (by decide)), q5.sg, _, _, c_276 q5.sg hsh2, q5.sg, rfl⟩, fun z => absurd c4 z⟩⟩)), f23.tr (f4.tr (f5.mono (fun _ _ h => wq_ru h)))⟩
      · have t4 : CH σ3 30 G := by
          rw [eG, if_neg c4]
          exact t3
        obtain ⟨σ5, h5, f5, c5⟩ := c_8 (a2 := 30) q3.sg q3.tt (Or.inr (Or.inl rfl)) q3.ct hq.wd t4 hWG m3 hm20
        have q5 := q3.fr f5 (fun _ _ h => wq_ru h)
        rw [hR] at c5
        exact ⟨σ5, hc _ (b_137_22 hq.sg (w_rg hx ⟨fun z => absurd z (by decide), fun _ => w_rg hz ⟨σ1, h1, s1, σ2, h2, q2.sg, σ3, h3, q3.sg, fun z => absurd z c4, fun _ => ⟨σ5, h5, q5.sg, _, _, c_20 q5.sg (Or.inr (Or.inl rfl)) (c5.1 1 (by decide)) (c5.1 2 (by decide)), q5.sg, _, _, c_276 q5.sg hsh2, q5.sg, rfl⟩⟩⟩)), f23.tr (f5.mono (fun _ _ h => wq_ru h))⟩
    obtain ⟨σ5, h5, f5⟩ := cls
    refine PrI.mk hq h5 f5 (fun _ _ h => h) (fun q => ?_)
    obtain ⟨τ1, g1, e1, p1, mh1, mm1⟩ := tr_m q.th
    -- the marks
    let s60 : Int32 := if x = 0 then 1 else 0
    let s61 : Int32 := if x = 1 then 1 else 0
    let s62 : Int32 := if x = 3 then 1 else 0
    let s63 : Int32 := if x = 2 then y else -1
    have mk : ∀ (k : Int32), (if x = k then (1 : Int32) else 0) = if decide (x ≠ k) = true then 0 else 1 := by
      intro k
      by_cases c : x = k
      · rw [if_pos c, decide_eq_false (fun z => z c)]; rfl
      · rw [if_neg c, decide_eq_true c]; rfl
    have Fm : Fr Wq τ1 (uI (uI (uI (uI τ1 59 60 s60) 59 61 s61) 59 63 s63) 59 62 s62) := ((((Fr.rf τ1).uI (by unfold Wq; omega)).uI (by unfold Wq; omega)).uI (by unfold Wq; omega)).uI (by unfold Wq; omega)
    have MMm : MM (uI (uI (uI (uI τ1 59 60 s60) 59 61 s61) 59 63 s63) 59 62 s62) false (decide (x ≠ 0)) (decide (x ≠ 1)) (decide (x ≠ 3)) (if x = 2 then y else -1) := by
      have a0 := mk 0
      have a1 := mk 1
      have a3 := mk 3
      refine ⟨?_, ?_, ?_, ?_, ?_⟩
      · simp [mI_uI]; exact mm1.1
      · rw [← a0]; simp [mI_uI, s60]
      · rw [← a1]; simp [mI_uI, s61]
      · rw [← a3]; simp [mI_uI, s62]
      · simp [mI_uI, s63]
    have MHm : MH (uI (uI (uI (uI τ1 59 60 s60) 59 61 s61) 59 63 s63) 59 62 s62) 1 (D 1 0) H := mh1.fr (W := fun x i => x = 59) (by decide) hP (((((Fr.rf (P := fun x i => x = 59) τ1).uI rfl).uI rfl).uI rfl).uI rfl) (fun x i h h2 => by have h2 : x = 59 := h2; omega)
    have pm := p1.fr Fm (fun _ _ h => h)
    generalize eτ : uI (uI (uI (uI τ1 59 60 s60) 59 61 s61) 59 63 s63) 59 62 s62 = τm at Fm MMm MHm pm
    -- up to pc 103
    have to103 : ∀ w, (∀ s0 σm, (s0 = 0 ∨ s0 = 1) → uI σm 59 62 s0 = τm → Ev 265 103 [.ref 59, .int x, .int y, .int (nI n)] [.int s0, .ref 59] σm w) → Cl 265 [.ref 59, .int x, .int y, .int (nI n)] σ5 w := by
      intro w hw
      refine hm σ5 q w hx hz ⟨fun _ => ?_, fun z => absurd z (by decide)⟩
      have s62or : s62 = 0 ∨ s62 = 1 := by
        show (if x = 3 then (1 : Int32) else 0) = 0 ∨ _
        by_cases c : x = 3
        · right; exact if_pos c
        · left; exact if_neg c
      have st3 : Ev 265 103 [.ref 59, .int x, .int y, .int (nI n)] [.int s62, .ref 59] (uI (uI (uI τ1 59 60 s60) 59 61 s61) 59 63 s63) w := hw s62 _ s62or eτ
      have st2 : Ev 265 75 [.ref 59, .int x, .int y, .int (nI n)] [.int s61, .ref 59] (uI τ1 59 60 s60) w := by
        have s61or : s61 = 0 ∨ s61 = 1 := by
          show (if x = 1 then (1 : Int32) else 0) = 0 ∨ _
          by_cases c : x = 1
          · right; exact if_pos c
          · left; exact if_neg c
        refine b_265_75 p1.sg ⟨s61or, fun c => ⟨fun d => absurd (c.symm.trans d) (by decide), fun d => ?_⟩, fun c => ⟨fun d => ?_, fun d => ?_⟩⟩
        · have e3 : s63 = y := if_pos c
          have e2 : s62 = 0 := if_neg d
          rw [e3, e2] at st3; exact st3
        · have e3 : s63 = -1 := if_neg c
          have e2 : s62 = 1 := if_pos d
          rw [e3, e2] at st3; exact st3
        · have e3 : s63 = -1 := if_neg c
          have e2 : s62 = 0 := if_neg d
          rw [e3, e2] at st3; exact st3
      refine b_265_47 q.th.sg ⟨τ1, g1, p1.sg, fun c => ⟨fun d => absurd (c.symm.trans d) (by decide), fun d => ?_⟩, fun c => ⟨fun d => ?_, fun d => ?_⟩⟩
      · have e3 : s60 = 1 := if_pos c
        have e2 : s61 = 0 := if_neg d
        rw [e3, e2] at st2; exact st2
      · have e3 : s60 = 0 := if_neg c
        have e2 : s61 = 1 := if_pos d
        rw [e3, e2] at st2; exact st2
      · have e3 : s60 = 0 := if_neg c
        have e2 : s61 = 0 := if_neg d
        rw [e3, e2] at st2; exact st2
    have hsh3 : R 1 0 ^^^ (R 1 0 &&& R 2 0) < 2 ^ 31 := Nat.lt_trans hsh (by decide)
    by_cases c4 : x = 4
    · have Mh : MH (uI (uI τm 84 1 0) 83 1 0) 1 (D 1 0) G := by
        rw [eG, if_pos c4]
        exact (MHm.f (f := 3) (x := 84) (v := 0) (by omega)).f (f := 2) (x := 83) (v := 0) (by omega)
      have Ff : Fr Wq τm (uI (uI τm 84 1 0) 83 1 0) := ((Fr.rf τm).uI (by unfold Wq; omega)).uI (by unfold Wq; omega)
      have pf := pm.fr Ff (fun _ _ h => h)
      have Mf : MM (uI (uI τm 84 1 0) 83 1 0) false (decide (x ≠ 0)) (decide (x ≠ 1)) (decide (x ≠ 3)) (if x = 2 then y else -1) := MMm
      obtain ⟨τ2, k2, e2, mh2, _⟩ := c_214 (n := n) pf.sg pf.mt hq.wd Mh hWG Mf (fun z => absurd z (by decide)) (fun z => absurd z (by decide)) hm20
      have p2 := pf.fr e2 (fun _ _ h => wq_m h)
      obtain ⟨τ3, k3, e3, _⟩ := c_197 p2.sg
      have p3 := p2.fr e3 (fun _ _ h => wq_p h)
      rw [hR] at mh2
      have mh3 := mh2.fr (by decide) hP e3 (fun x i h h2 => by unfold Wp at h2; omega)
      refine ⟨τ3, to103 _ (fun s0 σm hs es => ?_), wq_th.tr (e1.tr (Fm.tr (Ff.tr ((e2.mono (fun _ _ h => wq_m h)).tr (e3.mono (fun _ _ h => wq_p h))))))⟩
      have hSm : Sg t σm := by
        have := pm.sg
        rw [← es] at this
        exact this
      refine b_265_103 hSm ⟨hs, fun _ => ?_, fun z => absurd c4 z⟩
      rw [es]
      exact ⟨τ2, k2, p2.sg, τ3, k3, p3.sg, _, _, c_203 (b := 1) p3.sg (by decide) mh3.1.1 mh3.1.2.1, p3.sg, _, _, c_202 p3.sg hsh3, p3.sg, rfl⟩
    · have Mh : MH τm 1 (D 1 0) G := by
        rw [eG, if_neg c4]
        exact MHm
      obtain ⟨τ2, k2, e2, mh2, _⟩ := c_214 (n := n) pm.sg pm.mt hq.wd Mh hWG MMm (fun z => absurd z (by decide)) (fun z => absurd z (by decide)) hm20
      have p2 := pm.fr e2 (fun _ _ h => wq_m h)
      obtain ⟨τ3, k3, e3, _⟩ := c_197 p2.sg
      have p3 := p2.fr e3 (fun _ _ h => wq_p h)
      rw [hR] at mh2
      have mh3 := mh2.fr (by decide) hP e3 (fun x i h h2 => by unfold Wp at h2; omega)
      refine ⟨τ3, to103 _ (fun s0 σm hs es => ?_), wq_th.tr (e1.tr (Fm.tr ((e2.mono (fun _ _ h => wq_m h)).tr (e3.mono (fun _ _ h => wq_p h)))))⟩
      have hSm : Sg t σm := by
        have := pm.sg
        rw [← es] at this
        exact this
      refine b_265_103 hSm ⟨hs, fun z => absurd z c4, fun _ => ?_⟩
      rw [es]
      exact ⟨τ2, k2, p2.sg, τ3, k3, p3.sg, _, _, c_203 (b := 1) p3.sg (by decide) mh3.1.1 mh3.1.2.1, p3.sg, _, _, c_202 p3.sg hsh3, p3.sg, rfl⟩
end Q3
