/-! ===== the law's call of its own lamp ===== -/
theorem f_lamp {o ix j n : Nat} (h : callT o ix = some (7, j, n)) : o = 10 ∧ ix = 39 := by
  obtain ⟨hm, ho⟩ := find_of (L := callUT) (o := o) (ix := ix) h
  have h1 : (List.range 15).all (fun o => (callUT.getD o []).all (fun q => q.2.1 != 7 || (decide (o = 10) && decide (q.1 = 39)))) = true := by decide +kernel
  have h2 := all_at (all_at h1 (List.mem_range.mpr ho)) hm
  simp only [bne_self_eq_false, Bool.false_or, Bool.and_eq_true, decide_eq_true_eq] at h2
  exact h2
section LampOpen
variable {p : Program} {l : Launch} {e : Env} {R : Room} {s : State} {m : MethodId} {args : Array Value} {below : List Frame} {meth : Method} {c : Code} {D : va_G} {kA : Nat → ClassId} {ad : Nat → Nat} {A : Nat → Prop} {M : Nat} {w : Option Value × Mm} {u0 : Nat × Nat} {Q : State → Prop} {pc : Nat} {ls st : List Value} {σ : Mm} {k : Nat → List Value → List Value → Mm → Rs}
/-- what lampP says is what the law's own lamp does -/
theorem lampP_met {call : Nat → List Value → Mm → Rs} {a o : Nat} {x y : Int32} {w1 : Int32 × Mm} (hst : l.stackTraces = false) (hcl : ∀ j as σ w1, call j as σ = some w1 → CaOk l D kA ad j as σ w1) (h : lampP a x y o σ call = some w1) : le2 σ w1.2 ∧ ∀ base, (∀ a : Nat, a < 1000000 → ad a = base + a) → MetY l D kA ad base yL_lamp wsL 7 104 [.ref a, .int x, .int y, .ref o] σ (some (.int w1.1), w1.2) := by
  have tr : ∀ {a b c : Mm}, le2 a b → le2 b c → le2 a c := fun h g => ⟨Nat.le_trans h.1 g.1, Nat.le_trans h.2.1 g.2.1, g.2.2.trans h.2.2⟩
  unfold lampP at h
  split at h
  next h0 =>
    obtain ⟨hk, hok⟩ := h0
    split at h
    next b σ1 hca =>
      have l1 : le2 σ σ1 := (hcl _ _ _ _ hca).2.1
      have lo : le2 σ (lost σ1 6) := tr l1 ⟨Nat.le_succ _, Nat.le_add_right _ _, rfl⟩
      split at h
      next hb =>
        cases h
        exact ⟨lo, fun base hb0 => l_metT (Or.inl ⟨rfl, rfl⟩) l1 hk (x_metT hst l1 hb0 (t_io hcl hca hb))⟩
      next hb =>
        split at h
        next hh hr =>
          split at h
          next hc =>
            obtain ⟨⟨hk8, hok1⟩, hk2⟩ := hc
            split at h
            next hy =>
              cases h
              subst hy
              exact ⟨l1, fun base hb0 => l_metR l1 hk hok1 (x_metR hst l1 hk hb0 (r_0 hcl hca hb hk8 hr hk2))⟩
            next hy0 =>
              split at h
              next hy =>
                cases h
                subst hy
                exact ⟨l1, fun base hb0 => l_metR l1 hk hok1 (x_metR hst l1 hk hb0 (r_1 hcl hca hb hk8 hr hk2))⟩
              next hy1 =>
                split at h
                next hy =>
                  subst hy
                  split at h
                  next g hg =>
                    split at h
                    next v hv =>
                      cases h
                      exact ⟨l1, fun base hb0 => l_metR l1 hk hok1 (x_metR hst l1 hk hb0 (r_2 hcl hca hb hk8 hr hk2 hg hv))⟩
                    next => cases h
                  next => cases h
                next hy2 =>
                  split at h
                  next hy =>
                    subst hy
                    split at h
                    next v σ2 hcb =>
                      have l2 : le2 σ σ2 := tr l1 (hcl _ _ _ _ hcb).2.1
                      split at h
                      next hok2 =>
                        cases h
                        exact ⟨l2, fun base hb0 => l_metR l2 hk hok2 (x_metR hst l2 hk hb0 (r_3 hcl hca hb hk8 hr hcb))⟩
                      next => cases h
                    next => cases h
                  next hy3 =>
                    cases h
                    exact ⟨lo, fun base hb0 => l_metT (Or.inr ⟨rfl, rfl⟩) l1 hk (x_metT hst l1 hb0 (t_ns hcl hca hb ⟨hy0, hy1, hy2, hy3⟩))⟩
          next => cases h
        next => cases h
    next => cases h
  next => cases h
theorem o_lamp (cx : Cx p l e R s m args below meth c M) (hk : ∀ pc2 ls2 st2 σ2, k pc2 ls2 st2 σ2 = some w → Gd p l e R s m args below meth c D kA ad A w u0 Q pc2 ls2 st2 σ2) {call : Nat → List Value → Mm → Rs} {idx j n : Nat} (hcl : ∀ j as σ w1, call j as σ = some w1 → CaOk l D kA ad j as σ w1) (hB : Bs s ad u0) (hR1 : (mU w.2).1 ≤ u0.1 + R.cells) (hR2 : (mU w.2).2.1 ≤ u0.2 + R.slots) (hd : decode (cM M) pc = .ok (.invokestatic idx, 3)) (hc : callT (oM M) idx = some (7, j, n)) (hfr : 8 ≤ frM M) (hlo : 200 ≤ loM M) (h : p_lamp M pc ls st σ k call = some w) : Gd p l e R s m args below meth c D kA ad A w u0 Q pc ls st σ := by
  unfold p_lamp at h
  split at h
  next o y x a r =>
    obtain ⟨⟨hr4, hlen⟩, h⟩ := if_spec h
    split at h
    next w1 hlp =>
      obtain ⟨hm, hg⟩ := hk _ _ _ _ h
      obtain ⟨hle, hMet⟩ := lampP_met cx.2.2.2.2.1.2 hcl hlp
      obtain ⟨ho, rfl⟩ := f_lamp hc
      have hown : s.vm.findClass "BellPullsLaw" = some m.cls := by
        have := cx.2.2.2.1
        rw [ho] at this
        exact this
      have g1 := cx.2.2.2.2.2.2.1
      have g2 := cx.2.2.2.2.2.2.2
      refine ⟨⟨Nat.le_trans hle.1 hm.1, Nat.le_trans hle.2.1 hm.2.1, hm.2.2.trans hle.2.2⟩, fun H locs la hw hl a0 b0 => ?_⟩
      intro T hT X
      have hz : H.size ≤ s.heap.size + ((mU σ).1 - u0.1) := hT ▸ X.heapSize
      have hMt := Mfree (l := l) (w1 := (some (.int w1.1), w1.2)) hB a0 hw hz hMet
      have m1 := hm.1
      have m2 := hm.2.1
      have l1 := hle.1
      have l2 := hle.2.1
      have hrun := vx_runSW (p := p) (l := l) (e := e) (R := R) (s := s) (m := m) (args := args) (below := below) (meth := meth) (c := c) (H := H) (locs := locs) (cells := (mU σ).1 - u0.1) (slots := (mU σ).2.1 - u0.2) (Ts := []) (own := "BellPullsLaw") (As := [.ref (ad a), .int x, .int y, .ref (ad o)]) (rest := r.map (vmv ad)) (n := 4) (bytes := cL_lamp) (maxL := 5) (ret := some .int) (hh := hhL) (index := 39) (g := F0 m pc la ((Value.ref o :: .int y :: .int x :: .ref a :: r).map (vmv ad))) ⟨cx.1, cx.2.1, cx.2.2.1, hown, fun _ h => absurd h List.not_mem_nil⟩ hMt ⟨⟨rfl, rfl, by show 7 + 1 ≤ R.frames; omega, by show 8 + (5 + 11) + 104 ≤ R.locals; omega, fun w hw a' U hW => by
          rcases List.mem_cons.mp hw with rfl | hw
          · exact word_at hW (good_of_word rfl) (cx_hts cx lm_m.2.2.1 rfl)
          · obtain ⟨z1, z2⟩ := List.mem_filter.mp hw
            exact word_at hW (good_of_word z2) (cx_hts cx z1 z2), List.mem_cons_self⟩, cx_hts cx lm_m.2.2.1 rfl, cx_hts cx lm_m.2.2.2 rfl, ⟨by decide, by decide⟩, fun sig h => by
          have h2 := lm_sigL
          rw [h] at h2
          exact (Option.some.inj h2).symm, cx_hts cx lm_m.1 rfl, cx_hts cx lm_m.2.1 rfl⟩ ⟨pc_blind, fun U hU hW => pc_pre hw [.ref a, .int x, .int y, .ref o] U hU hW⟩ rfl rfl (hl.1.trans hlen) rfl (lv_room4 hr4) hd (by constructor <;> (dsimp only; omega))
      refine W_call (w1 := (some (.int w1.1), w1.2)) hw hle.2.2 hrun (fun H1 locs1 hw1 => ?_) T hT X
      have hgo := hg H1 locs1 la hw1 hl (by omega) (by omega)
      have q1 : (mU w1.2).1 - u0.1 = (mU σ).1 - u0.1 + ((mU w1.2).1 - (mU σ).1) := by omega
      have q2 : (mU w1.2).2.1 - u0.2 = (mU σ).2.1 - u0.2 + ((mU w1.2).2.1 - (mU σ).2.1) := by omega
      rw [q1, q2] at hgo
      exact hgo
    next => cases h
  next => cases h
end LampOpen
