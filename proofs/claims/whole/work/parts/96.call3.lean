/-! ===== calls that change the house: undo, go, keep, back ===== -/
section Call3
variable {t : Nat} {σ : Mm} {D H : Nat → Nat → Nat}
theorem CH.cg {a : Nat} {H' : Nat → Nat → Nat} (h : CH σ a H) (e0 : ∀ f, f < 7 → H f 0 = H' f 0) (e7 : ∀ i, H 7 i = H' 7 i) (e8 : ∀ i, i < 10 → H 8 i = H' 8 i) (e9 : ∀ i, i < 10 → H 9 i = H' 9 i) : CH σ a H' :=
  ⟨fun f hf => by rw [← e0 f hf]; exact h.1 f hf, fun i hi => by rw [← e7]; exact h.2.1 i hi, fun i hi => by rw [← e8 i hi]; exact h.2.2.1 i hi, fun i hi => by rw [← e9 i hi]; exact h.2.2.2 i hi⟩
theorem MH.cg {b P : Nat} {H' : Nat → Nat → Nat} (h : MH σ b P H) (hP : P ≤ 10) (e0 : ∀ f, f < 6 → H f 0 = H' f 0) (e7 : ∀ i, H 7 i = H' 7 i) (e8 : ∀ i, i < 10 → H 8 i = H' 8 i) (e9 : ∀ i, i < 10 → H 9 i = H' 9 i) : MH σ b P H' := by
  obtain ⟨⟨m1, m2, m3, m4, m5, m6⟩, ma, mt, mw⟩ := h
  refine ⟨⟨?_, ?_, ?_, ?_, ?_, ?_⟩, fun i hi => ?_, fun i hi => ?_, fun i hi => ?_⟩
  · rw [← e0 1 (by omega)]; exact m1
  · rw [← e0 2 (by omega)]; exact m2
  · rw [← e0 3 (by omega)]; exact m3
  · rw [← e0 4 (by omega)]; exact m4
  · rw [← e0 5 (by omega)]; exact m5
  · rw [← e0 0 (by omega)]; exact m6
  · rw [← e7]; exact ma i hi
  · rw [← e8 i (by omega)]; exact mt i hi
  · rw [← e9 i (by omega)]; exact mw i hi
theorem c_99 {u nx q : Nat} {X : Nat → Nat → Nat} (hS : Sg t σ) (hH : CH σ 26 H) (hu1 : mI σ 41 0 = nI u) (hn : mI σ 41 1 = nI nx) (hu0 : 0 < u) (hu2 : u ≤ 20) (hn2 : nx < 20) (hE : EnD σ ((nx + 19) % 20) q X) (hA : Adj q X H) : ∃ σ', Cl 99 [.ref 41, .ref 26] σ (some (.int (nI (u - 1))), σ') ∧ Fr (fun a i => (a = 41 ∧ i ≤ 1) ∨ (26 ≤ a ∧ a ≤ 29)) σ σ' ∧ CH σ' 26 X ∧ mI σ' 41 0 = nI (u - 1) ∧ mI σ' 41 1 = nI ((nx + 19) % 20) := by
  have h26 : (26 : Nat) = 26 ∨ 26 = 30 ∨ 26 = 34 := Or.inl rfl
  have hmm : (nx + 19) % 20 < 20 := Nat.mod_lt _ (by decide)
  have hmd : (nx = 0 ∧ (nx + 19) % 20 = 19) ∨ (0 < nx ∧ (nx + 19) % 20 = nx - 1) := by omega
  generalize (nx + 19) % 20 = m at hE hmm hmd
  have cm : (nI m).toNatClampNeg = m := nI_clamp (by omega)
  have im : inb (nI m) 20 = true := inb_nI hmm (by decide)
  obtain ⟨⟨x1, x2, x3, x4⟩, x5⟩ := hE
  have W : ∀ {a i : Nat}, ((a = 41 ∧ i ≤ 1) ∨ (26 ≤ a ∧ a ≤ 29)) → (fun a i => (a = 41 ∧ i ≤ 1) ∨ (26 ≤ a ∧ a ≤ 29)) a i := fun h => h
  have fa : Fr (fun a i => (a = 41 ∧ i ≤ 1) ∨ (26 ≤ a ∧ a ≤ 29)) σ (uI σ 41 0 (nI (u - 1))) := (Fr.rf σ).uI (W (by omega))
  have a41 : mI (uI σ 41 0 (nI (u - 1))) 41 0 = nI (u - 1) ∧ mI (uI σ 41 0 (nI (u - 1))) 41 1 = nI nx := by
    refine ⟨?_, ?_⟩
    · rw [mI_uI, if_pos ⟨rfl, rfl⟩]
    · rw [mI_uI, if_neg (by omega)]; exact hn
  generalize ea : uI σ 41 0 (nI (u - 1)) = σa at fa a41
  have fb : Fr (fun a i => (a = 41 ∧ i ≤ 1) ∨ (26 ≤ a ∧ a ≤ 29)) σ (uI σa 41 1 (nI m)) := fa.uI (W (by omega))
  have Fb : Fr (fun a i => a = 41) σ (uI σa 41 1 (nI m)) := by rw [← ea]; exact ((Fr.rf (P := fun a i => a = 41) σ).uI rfl).uI rfl
  have Cb : CH (uI σa 41 1 (nI m)) 26 H := hH.fr Fb (fun x i a b hh => by have hh : x = 41 := hh; omega)
  have b41 : mI (uI σa 41 1 (nI m)) 41 0 = nI (u - 1) ∧ mI (uI σa 41 1 (nI m)) 41 1 = nI m := by
    refine ⟨?_, ?_⟩
    · rw [mI_uI, if_neg (by omega)]; exact a41.1
    · rw [mI_uI, if_pos ⟨rfl, rfl⟩]
  have bE : ∀ x, 42 ≤ x → x ≤ 48 → mI (uI σa 41 1 (nI m)) x m = mI σ x m := fun x h1 h2 => (Fb.1 x m (fun hh => by have hh : x = 41 := hh; omega)).1
  generalize eb : uI σa 41 1 (nI m) = σb at fb Cb b41 bE
  -- the four fields
  have C1 := Cb.f (f := 1) (v := X 1 0) (by decide)
  have C2 := C1.f (f := 2) (v := X 2 0) (by decide)
  have C3 := C2.f (f := 3) (v := X 3 0) (by decide)
  have C4 := C3.f (f := 4) (v := X 4 0) (by decide)
  generalize e1 : uI σb 26 1 (nI (X 1 0)) = σ1 at C1 C2 C3 C4
  generalize e2 : uI σ1 26 2 (nI (X 2 0)) = σ2 at C2 C3 C4
  generalize e3 : uI σ2 26 3 (nI (X 3 0)) = σ3 at C3 C4
  generalize e4 : uI σ3 26 4 (nI (X 4 0)) = σ4 at C4
  have f4 : Fr (fun a i => (a = 41 ∧ i ≤ 1) ∨ (26 ≤ a ∧ a ≤ 29)) σ σ4 := by
    rw [← e4, ← e3, ← e2, ← e1]
    exact (((fb.uI (W (by omega))).uI (W (by omega))).uI (W (by omega))).uI (W (by omega))
  have r1 : ∀ x i, x ≠ 26 → mI σ1 x i = mI σb x i := fun x i h => by rw [← e1, mI_uI, if_neg (fun z => h z.1)]
  have r2 : ∀ x i, x ≠ 26 → mI σ2 x i = mI σb x i := fun x i h => by rw [← e2, mI_uI, if_neg (fun z => h z.1)]; exact r1 x i h
  have r3 : ∀ x i, x ≠ 26 → mI σ3 x i = mI σb x i := fun x i h => by rw [← e3, mI_uI, if_neg (fun z => h z.1)]; exact r2 x i h
  have r4 : ∀ x i, x ≠ 26 → mI σ4 x i = mI σb x i := fun x i h => by rw [← e4, mI_uI, if_neg (fun z => h z.1)]; exact r3 x i h
  have sb := fb.sg hS
  have start : ∀ {w}, (((mI σ4 46 m) < 0 → (w = (some (.int (mI σ4 41 0)), σ4))) ∧ (¬ ((mI σ4 46 m) < 0) → (((mI σ4 46 m) < 10 → Ev 99 113 [.ref 41, .ref 26, .int (mI σ4 46 m)] [] σ4 w) ∧ (¬ ((mI σ4 46 m) < 10) → (w = (some (.int (mI σ4 41 0)), σ4)))))) → Cl 99 [.ref 41, .ref 26] σ w := by
    intro w hw
    have st38 : ∀ z2 s0, s0 = nI m → Ev 99 38 [.ref 41, .ref 26, z2] [.int s0, .ref 41] σa w := by
      intro z2 s0 es
      refine b_99_38 (fa.sg hS) h26 ?_
      rw [es, eb, b41.2, cm, bE 42 (by omega) (by omega), x1, e1]
      refine ⟨im, fun τ1 q1 => ?_⟩
      rw [q1, r1 41 1 (by decide), b41.2, cm, r1 43 m (by decide), bE 43 (by omega) (by omega), x2, e2]
      refine ⟨im, fun τ2 q2 => ?_⟩
      rw [q2, r2 41 1 (by decide), b41.2, cm, r2 44 m (by decide), bE 44 (by omega) (by omega), x3, e3]
      refine ⟨im, fun τ3 q3 => ?_⟩
      rw [q3, r3 41 1 (by decide), b41.2, cm, r3 45 m (by decide), bE 45 (by omega) (by omega), x4, e4]
      refine ⟨im, fun τ4 q4 => ?_⟩
      rw [q4, r4 41 1 (by decide), b41.2, cm]
      exact ⟨im, hw⟩
    refine ck_99 hS h26 (b_99_0 hS h26 ?_)
    rw [hu1, nI_sub1 hu0, ea, a41.2]
    refine pk_lt 0 u (fun _ => pk_lt 0 nx (fun z => st38 _ _ ?_) (fun z => st38 _ _ ?_) rfl rfl (by omega) (by omega)) (fun z => absurd z (by omega)) rfl rfl (by omega) (by omega)
    · rw [nI_sub1 z]
      congr 1
      omega
    · rw [show m = 19 by omega]; rfl
  have k46 : mI σ4 46 m = mI σ 46 m := (r4 46 m (by decide)).trans (bE 46 (by omega) (by omega))
  have k41 : mI σ4 41 0 = nI (u - 1) ∧ mI σ4 41 1 = nI m := ⟨(r4 41 0 (by decide)).trans b41.1, (r4 41 1 (by decide)).trans b41.2⟩
  obtain ⟨⟨a0, a5, a6⟩, a7, a8⟩ := hA
  have e07 : ∀ f, f < 7 → hu (hu (hu (hu H 1 0 (X 1 0)) 2 0 (X 2 0)) 3 0 (X 3 0)) 4 0 (X 4 0) f 0 = X f 0 := by
    intro f hf
    rcases (show f = 0 ∨ f = 1 ∨ f = 2 ∨ f = 3 ∨ f = 4 ∨ f = 5 ∨ f = 6 by omega) with rfl | rfl | rfl | rfl | rfl | rfl | rfl
    · rw [hu_n (by omega), hu_n (by omega), hu_n (by omega), hu_n (by omega), a0]
    · rw [hu_n (by omega), hu_n (by omega), hu_n (by omega), hu_s]
    · rw [hu_n (by omega), hu_n (by omega), hu_s]
    · rw [hu_n (by omega), hu_s]
    · rw [hu_s]
    · rw [hu_n (by omega), hu_n (by omega), hu_n (by omega), hu_n (by omega), a5]
    · rw [hu_n (by omega), hu_n (by omega), hu_n (by omega), hu_n (by omega), a6]
  have e7i : ∀ k i, 7 ≤ k → hu (hu (hu (hu H 1 0 (X 1 0)) 2 0 (X 2 0)) 3 0 (X 3 0)) 4 0 (X 4 0) k i = H k i := fun k i hk => by
    rw [hu_n (by omega), hu_n (by omega), hu_n (by omega), hu_n (by omega)]
  rcases x5 with ⟨q10, q46⟩ | ⟨q10, q46, q47, q48⟩
  · refine ⟨σ4, start ⟨fun _ => by rw [k41.1], fun z => absurd (by rw [k46, q46]; decide) z⟩, f4, C4.cg e07 (fun i => ?_) (fun i hi => ?_) (fun i hi => ?_), k41.1, k41.2⟩
    · rw [e7i 7 i (by omega), a7]
    · rw [e7i 8 i (by omega), (a8 i (by omega)).1]
    · rw [e7i 9 i (by omega), (a8 i (by omega)).2]
  · have cq : (nI q).toNatClampNeg = q := nI_clamp (by omega)
    have iq : inb (nI q) 10 = true := inb_nI q10 (by decide)
    have C5 := C4.r (k := 8) (j := q) (v := X 8 q) (Or.inr (Or.inl rfl))
    have C6 := C5.r (k := 9) (j := q) (v := X 9 q) (Or.inr (Or.inr rfl))
    have C6 : CH (uI (uI σ4 28 q (nI (X 8 q))) 29 q (nI (X 9 q))) 26 (hu (hu (hu (hu (hu (hu H 1 0 (X 1 0)) 2 0 (X 2 0)) 3 0 (X 3 0)) 4 0 (X 4 0)) 8 q (X 8 q)) 9 q (X 9 q)) := C6
    have n41 : ∀ i, mI (uI (uI σ4 28 q (nI (X 8 q))) 29 q (nI (X 9 q))) 41 i = mI σ4 41 i := fun i => by rw [mI_uI, if_neg (by omega), mI_uI, if_neg (by omega)]
    refine ⟨uI (uI σ4 28 q (nI (X 8 q))) 29 q (nI (X 9 q)), start ?_, (f4.uI (W (by omega))).uI (W (by omega)), C6.cg (fun f hf => ?_) (fun i => ?_) (fun i hi => ?_) (fun i hi => ?_), (n41 0).trans k41.1, (n41 1).trans k41.2⟩
    · rw [k46, q46]
      refine ⟨fun z => absurd z (nI_pos (by omega)), fun _ => ⟨fun _ => b_99_113 (f4.sg hS) h26 ?_, fun z => absurd (nI_lt (b := 10) q10 (by decide)) z⟩⟩
      rw [k41.2, cm, cq, r4 47 m (by decide), bE 47 (by omega) (by omega), q47]
      refine ⟨im, iq, fun τ1 z1 => ?_⟩
      have s1 : mI τ1 41 1 = nI m := by rw [z1, mI_uI, if_neg (by omega)]; exact k41.2
      have s2 : mI τ1 48 m = nI (X 9 q) := by rw [z1, mI_uI, if_neg (by omega), r4 48 m (by decide), bE 48 (by omega) (by omega)]; exact q48
      rw [s1, cm, s2]
      refine ⟨im, iq, fun τ4 z4 => ?_⟩
      rw [z1] at z4
      rw [z4]
      have := (n41 0).trans k41.1
      rw [show mI (uI (uI σ4 (26 + 2) q (nI (X 8 q))) (26 + 3) q (nI (X 9 q))) 41 0 = nI (u - 1) from this]
    · rw [hu_n (by omega), hu_n (by omega)]; exact e07 f hf
    · rw [hu_n (by omega), hu_n (by omega), e7i 7 i (by omega), a7]
    · by_cases c : i = q
      · rw [hu_n (by omega), c, hu_s]
      · rw [hu_n (by omega), hu_n (fun z => c z.2), e7i 8 i (by omega), (a8 i c).1]
    · by_cases c : i = q
      · rw [c, hu_s]
      · rw [hu_n (fun z => c z.2), hu_n (by omega), e7i 9 i (by omega), (a8 i c).2]
theorem i_undo (h : Inv t σ D H) : PrS 138 269 [] t σ := by
  obtain ⟨qq, h1, h2, ⟨u, nx, G, u1, u2, u3, u4, u5, u6, u7⟩, h4⟩ := id h
  have hP := qq.hP
  rcases Nat.eq_zero_or_pos u with z0 | z0
  · subst z0
    refine (PrI.mk0 qq (v := -1) (ck_138 qq.sg (b_138_0 qq.sg ⟨_, _, ck_99 qq.sg (Or.inl rfl) (b_99_0 qq.sg (Or.inl rfl) ?_), qq.sg, rfl⟩)) ⟨_, ck_269 qq.sg (b_269_0 qq.sg ?_), wq_th⟩).st h
    · rw [u3]
      exact ⟨fun z => absurd z (by decide), fun _ => rfl⟩
    · rw [mI_uI, if_neg (by omega), u5]
      exact ⟨fun _ => rfl, fun z => absurd rfl z⟩
  · obtain ⟨⟨q, en, ad⟩, pu, wh⟩ := u7 (u - 1) (by omega)
    have ep : (nx + 20 - u + (u - 1)) % 20 = (nx + 19) % 20 := by omega
    rw [ep] at en
    rw [show u - 1 + 1 = u by omega, u6] at ad
    obtain ⟨σ1, g1, f1, c1, d1, d2⟩ := c_99 qq.sg qq.ch u3 u4 z0 u1 u2 en ad
    have Fcs : Fr Wcs σ (uI σ1 59 2 0) := (f1.mono (fun x i hh => by have hh : (x = 41 ∧ i ≤ 1) ∨ (26 ≤ x ∧ x ≤ 29) := hh; unfold Wcs; omega)).uI (by unfold Wcs; omega)
    obtain ⟨mt1, mh1, nu1⟩ := mside qq Fcs
    have S1 := f1.sg qq.sg
    have e72 : mI (uI σ1 59 2 0) 59 72 = nI u := ((Fcs.1 59 72 (by unfold Wcs; omega)).1).trans u5
    have e96 : ∀ i, mI (uI (uI σ1 59 2 0) 59 72 (nI (u - 1))) 96 i = mI σ 96 i := fun i => by
      rw [mI_uI, if_neg (by omega)]
      exact (Fcs.1 96 i (by unfold Wcs; omega)).1
    have f72 : Fr (fun x i => x = 59 ∧ i = 72) (uI σ1 59 2 0) (uI (uI σ1 59 2 0) 59 72 (nI (u - 1))) := (Fr.rf (P := fun x i => x = 59 ∧ i = 72) _).uI ⟨rfl, rfl⟩
    have mh2 : MH (uI (uI σ1 59 2 0) 59 72 (nI (u - 1))) 0 (D 1 0) H := mh1.fr (by decide) hP f72 (fun x i a hh => by have hh : x = 59 ∧ i = 72 := hh; omega)
    have pu2 : PU (uI (uI σ1 59 2 0) 59 72 (nI (u - 1))) 96 (24 * (u - 1)) (D 1 0) (G (u - 1)) := by
      unfold PU at pu ⊢
      simp only [e96]
      exact pu
    have S2 : Sg t (uI (uI σ1 59 2 0) 59 72 (nI (u - 1))) := S1
    obtain ⟨σ3, g3, f3, m3⟩ := c_267 (a := 96) (n := 480) (b := 24 * (u - 1)) S2 rfl (Or.inl rfl) (by omega) (by decide) hP mh2 pu2
    have F3 : Fr Wch σ σ3 := by
      have a : Fr Wch σ (uI (uI σ1 59 2 0) 59 72 (nI (u - 1))) := ((f1.mono (fun x i hh => by have hh : (x = 41 ∧ i ≤ 1) ∨ (26 ≤ x ∧ x ≤ 29) := hh; unfold Wch; omega)).uI (by unfold Wch; omega)).uI (by unfold Wch; omega)
      exact a.tr (f3.mono (fun x i hh => by have hh : (82 ≤ x ∧ x ≤ 85 ∧ i = 0) ∨ ((x = 89 ∨ x = 90) ∧ i < 10) := hh; unfold Wch; omega))
    have r3 : ∀ x i, ¬ (80 ≤ x ∧ x ≤ 90) → mI σ3 x i = mI (uI (uI σ1 59 2 0) 59 72 (nI (u - 1))) x i ∧ mL σ3 x i = mL (uI (uI σ1 59 2 0) 59 72 (nI (u - 1))) x i := fun x i hx => f3.1 x i (fun hh => by have hh : (82 ≤ x ∧ x ≤ 85 ∧ i = 0) ∨ ((x = 89 ∨ x = 90) ∧ i < 10) := hh; omega)
    have rc : ∀ x i, x ≤ 58 → mI σ3 x i = mI σ1 x i := fun x i hx => by
      rw [(r3 x i (by omega)).1, mI_uI, if_neg (by omega), mI_uI, if_neg (by omega)]
    have C3 : CH σ3 26 (G (u - 1)) := ⟨fun f hf => (rc 26 f (by omega)).trans (c1.1 f hf), fun i hi => (rc 27 i (by omega)).trans (c1.2.1 i hi), fun i hi => (rc 28 i (by omega)).trans (c1.2.2.1 i hi), fun i hi => (rc 29 i (by omega)).trans (c1.2.2.2 i hi)⟩
    obtain ⟨⟨a0, a5, a6⟩, a7, a8⟩ := ad
    have M3 : MH σ3 0 (D 1 0) (G (u - 1)) := by
      refine m3.cg hP (fun f hf => ?_) (fun i => ?_) (fun i _ => rfl) (fun i _ => rfl)
      · rcases (show f = 0 ∨ f = 1 ∨ f = 2 ∨ f = 3 ∨ f = 4 ∨ f = 5 by omega) with rfl | rfl | rfl | rfl | rfl | rfl
        · exact a0.symm
        · rfl
        · rfl
        · rfl
        · rfl
        · exact a5.symm
      · exact (a7 i).symm
    have N3 : mL σ3 59 58 = lN (G (u - 1) 6 0) := by
      rw [(r3 59 58 (by omega)).2, a6]
      exact nu1
    have U3 : UnI σ3 (D 1 0) (G (u - 1)) := by
      refine ⟨u - 1, (nx + 19) % 20, G, by omega, Nat.mod_lt _ (by decide), (rc 41 0 (by omega)).trans d1, (rc 41 1 (by omega)).trans d2, ?_, rfl, fun k hk => ?_⟩
      · rw [(r3 59 72 (by omega)).1, mI_uI, if_pos ⟨rfl, rfl⟩]
      · obtain ⟨⟨q', e', ad'⟩, p', w'⟩ := u7 k (by omega)
        have ep2 : ((nx + 19) % 20 + 20 - (u - 1) + k) % 20 = (nx + 20 - u + k) % 20 := by omega
        refine ⟨⟨q', ?_, ad'⟩, ?_, w'⟩
        · rw [ep2]
          have rE : ∀ x p, 42 ≤ x → x ≤ 48 → mI σ3 x p = mI σ x p := fun x p a b => (rc x p (by omega)).trans ((f1.1 x p (fun hh => by have hh : (x = 41 ∧ p ≤ 1) ∨ (26 ≤ x ∧ x ≤ 29) := hh; omega)).1)
          unfold EnD at e' ⊢
          rw [rE 42 _ (by omega) (by omega), rE 43 _ (by omega) (by omega), rE 44 _ (by omega) (by omega), rE 45 _ (by omega) (by omega), rE 46 _ (by omega) (by omega), rE 47 _ (by omega) (by omega), rE 48 _ (by omega) (by omega)]
          exact e'
        · have r96 : ∀ i, mI σ3 96 i = mI σ 96 i := fun i => ((r3 96 i (by omega)).1).trans (e96 i)
          unfold PU at p' ⊢
          simp only [r96]
          exact p'
    have inv := inv_ch h F3 C3 M3 N3 wh (by rw [a0]; exact qq.mi) U3
    refine ⟨nI (u - 1), σ1, σ3, t, D, _, ck_138 qq.sg (b_138_0 qq.sg ⟨_, σ1, g1, S1, rfl⟩), S1, ck_269 S1 (b_269_0 S1 ?_), inv⟩
    rw [e72, nI_sub1 z0]
    refine w_p (nI_i0 (by omega)) (fun z => absurd z (by omega)) (fun _ => fun τ e => ?_)
    rw [e]
    have y72 : mI (uI (uI σ1 59 2 0) 59 72 (nI (u - 1))) 59 72 = nI (u - 1) := by rw [mI_uI, if_pos ⟨rfl, rfl⟩]
    rw [y72, show (24 : Int32) = nI 24 from rfl, pk_mul]
    refine ⟨σ3, g3, f3.sg S2, ?_⟩
    rw [(r3 59 72 (by omega)).1, y72]
end Call3
