/-! ===== the law: lamp ===== -/
theorem e_lamp {M pc p2 : Nat} {ls r : List Value} {σ : Mm} {w : Option Value × Mm} {ix j n0 a o : Nat} {x y : Int32} {w1 : Int32 × Mm} (hd : decode (cM M) pc = .ok (.invokestatic ix, 3)) (hc : callT (oM M) ix = some (7, j, n0)) (hf : 8 ≤ frM M ∧ 200 ≤ loM M) (hr : r.length ≤ 4 ∧ ls.length = xM M) (hl : ∃ n, ∀ m, n ≤ m → lampP a x y o σ (cln m) = some w1) (hp : pc + 3 = p2) (h : Ev M p2 ls (.int w1.1 :: r) w1.2 w) : Ev M pc ls (.ref o :: .int y :: .int x :: .ref a :: r) σ w := by
  subst hp
  obtain ⟨n1, h1⟩ := hl
  obtain ⟨n2, h2⟩ := h
  refine Ev.step hd rfl ⟨max n1 n2, ?_⟩
  show p_invokestatic ix M pc ls (.ref o :: .int y :: .int x :: .ref a :: r) σ (run (max n1 n2) M) (cln (max n1 n2)) = some w
  unfold p_invokestatic
  rw [hc]
  refine (if_neg (by rintro ⟨z, -⟩; cases z)).trans ?_
  refine (if_neg (by rintro ⟨z, -⟩; cases z)).trans ?_
  refine (if_neg (by rintro ⟨z, -⟩; cases z)).trans ?_
  refine (if_pos ⟨rfl, hf⟩).trans ?_
  refine (if_pos hr).trans ?_
  rw [h1 _ (Nat.le_max_left _ _)]
  exact run_mono h2 (Nat.le_max_right n1 n2)
section XB1
variable {t : Nat} {σ : Mm} {D H : Nat → Nat → Nat}
theorem Inv.lost {n : Nat} (h : Inv t σ D H) : Inv t (lost σ n) D H := h
theorem lam_0 (hS : Sg t σ) (h9 : S9 σ) : isK σ 0 8 = true ∧ okI σ 99 0 12 = true := ⟨by unfold isK; rw [hS.k (a := 0) (k := (8, 11)) rfl]; rfl, okI_at (s9_k h9) rfl⟩
theorem lam_h (hS : Sg t σ) : isK σ 26 2 = true := by unfold isK; rw [hS.k (a := 26) (k := (2, 10)) rfl]; rfl
theorem lam_n {x y : Int32} (hq : Q t σ D H) (h9 : S9 σ) (hb : Bad x (D 0 0)) : ∃ n, ∀ m, n ≤ m → lampP 0 x y 99 σ (cln m) = some (1, lost σ 6) := by
  obtain ⟨n, h⟩ := cl_at (c_142n hq.sg hq.ct.1.1 hb)
  refine ⟨n, fun m hm => ?_⟩
  unfold lampP
  rw [if_pos (lam_0 hq.sg h9), show cln m mX8_isLamp [.ref 0, .int x] σ = _ from h m hm]
  rfl
theorem lam_w {l : Nat} {y : Int32} (hq : Q t σ D H) (h9 : S9 σ) (hl : l < D 0 0) (hy : ¬ (y = 0 ∨ y = 1 ∨ y = 2 ∨ y = 3)) : ∃ n, ∀ m, n ≤ m → lampP 0 (nI l) y 99 σ (cln m) = some (2, lost σ 6) := by
  obtain ⟨n, h⟩ := cl_at (c_142y hq.sg hq.ct.1.1 (by have := hq.hL; omega) hl)
  refine ⟨n, fun m hm => ?_⟩
  unfold lampP
  rw [if_pos (lam_0 hq.sg h9), show cln m mX8_isLamp [.ref 0, .int (nI l)] σ = _ from h m hm]
  show (if (1 : Int32) = 0 then _ else _) = _
  rw [if_neg (by decide), hq.sg.r rt_0_2]
  show (if (isK σ 0 8 = true ∧ okI σ 99 0 12 = true) ∧ isK σ 26 2 = true then _ else _) = _
  rw [if_pos ⟨lam_0 hq.sg h9, lam_h hq.sg⟩, if_neg (fun z => hy (Or.inl z)), if_neg (fun z => hy (Or.inr (Or.inl z))), if_neg (fun z => hy (Or.inr (Or.inr (Or.inl z)))), if_neg (fun z => hy (Or.inr (Or.inr (Or.inr z))))]
theorem lam_y {l : Nat} {y : Int32} (hq : Q t σ D H) (h9 : S9 σ) (hl : l < D 0 0) (hy : y = 0 ∨ y = 1 ∨ y = 2 ∨ y = 3) : ∃ n, ∀ m, n ≤ m → lampP 0 (nI l) y 99 σ (cln m) = some (0, uL σ 99 0 (lmv H l y).toInt64) := by
  have hL := hq.hL
  obtain ⟨n, h⟩ := cl_at (c_142y hq.sg hq.ct.1.1 (by omega) hl)
  obtain ⟨n2, h2⟩ := cl_at (c_22 (a := 26) (l := l) (ties := H 8) hq.sg (Or.inl rfl) (by omega) hq.ch.2.2.1 (fun i _ => hq.hb i))
  refine ⟨max n n2, fun m hm => ?_⟩
  have e1 := h m (by omega)
  have e2 := h2 m (by omega)
  unfold lampP
  rw [if_pos (lam_0 hq.sg h9), show cln m mX8_isLamp [.ref 0, .int (nI l)] σ = _ from e1]
  show (if (1 : Int32) = 0 then _ else _) = _
  rw [if_neg (by decide), hq.sg.r rt_0_2]
  show (if (isK σ 0 8 = true ∧ okI σ 99 0 12 = true) ∧ isK σ 26 2 = true then _ else _) = _
  rw [if_pos ⟨lam_0 hq.sg h9, lam_h hq.sg⟩]
  rcases hy with e | e | e | e
  · subst e
    rw [if_pos rfl, hq.ch.1 1 (by decide)]
    rfl
  · subst e
    rw [if_neg (by decide), if_pos rfl, hq.ch.1 2 (by decide)]
    rfl
  · subst e
    rw [if_neg (by decide), if_neg (by decide), if_pos rfl, hq.sg.r rt_26_7]
    show (match rdI σ 27 (nI l) with | some v => _ | none => _) = _
    rw [rdI_at (hq.sg.k (a := 27) rfl) (inb_nI (by omega) (by decide)), nI_clamp (by omega), hq.ch.2.1 l (by omega)]
    rfl
  · subst e
    rw [if_neg (by decide), if_neg (by decide), if_neg (by decide), if_pos rfl, show cln m mX2_pullsTiedTo [.ref 26, .int (nI l)] σ = _ from e2]
    show (if okI σ 99 0 12 = true then _ else _) = _
    rw [if_pos (lam_0 hq.sg h9).2]
    rfl
theorem c_150 (hS : Sg t σ) : Cl 150 [.ref 59] σ (some (.int (mI σ 59 2)), σ) := ck_150 hS (b_150_0 hS rfl)
end XB1
