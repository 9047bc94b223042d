/-! ===== a contract out of a run ===== -/
/-- what is shown of a run: from every frame of the great machine that stands for its beginning -/
def SN (l : Launch) (D : va_G) (kA : Nat → ClassId) (ad : Nat → Nat) (M pc : Nat) (ls st : List Value) (σ : Mm) (w : Option Value × Mm) : Prop :=
  ∀ (p : Program) (e : Env) (R : Room) (s : State) (m : MethodId) (args : Array Value) (below : List Frame) (meth : Method) (c : Code) (A : Nat → Prop) (u0 : Nat × Nat) (Q : State → Prop), Cx p l e R s m args below meth c M → Bs s ad u0 → (mU w.2).1 ≤ u0.1 + R.cells → (mU w.2).2.1 ≤ u0.2 + R.slots → (∀ (H : Heap) (locs : List Loc) (la : Array Slot) (pc : Nat), Wo D kA ad A s H locs w.2 → RetAt M pc w.1 → W p l e R s m args below meth c H locs ((mU w.2).1 - u0.1) ((mU w.2).2.1 - u0.2) Q (F0 m pc la (w.1.toList.map (vmv ad)))) → Gd p l e R s m args below meth c D kA ad A w u0 Q pc ls st σ
/-- a method's contract out of its run -/
theorem metJ_gen {l : Launch} (hst : l.stackTraces = false) {D : va_G} {kA : Nat → ClassId} {ad : Nat → Nat} {j : Nat} {as : List Value} {σ : Mm} {w : Option Value × Mm} (hle : le2 σ w.2) (hok : okr j as σ = true) (m4 : (yM j).cls = Rn (oM j)) (m5 : plainFor (yM j) = true) {base : Nat} (hb : ∀ a : Nat, a < 1000000 → ad a = base + a) (hs : SN l D kA ad j 0 (padL (xM j) (lsO as)) [] σ w) : MetJ l D kA ad base j as σ w := by
  intro sz hb1 hb2
  simp only [okr, Bool.and_eq_true, decide_eq_true_eq] at hok
  obtain ⟨⟨ok1, ok2⟩, -⟩ := hok
  refine va_MetF (cc := cM j) (maxL := xM j) (ret := rM j) m5 rfl ?_
  intro p e s m args below meth c s₁ B hml hv
  obtain ⟨rfl, hsz, hK, hP, hD, hSp⟩ := hv
  subst hsz
  have hts := atoms_spec (ws := Cond.code (yM j) (cM j) (xM j) (rM j) :: lw_g) B.pre
  have hown : s.vm.findClass (Rn (oM j)) = some m.cls := m4 ▸ findClass_of_methodNamed B.named
  have hlocks := B.notSynchronized
  have cx : Cx p l e (headSpec (Cond.code (yM j) (cM j) (xM j) (rM j) :: lw_g) { frames := frM j, cells := (mU w.2).1 - (mU σ).1, slots := (mU w.2).2.1 - (mU σ).2.1, locals := loM j }).room s m (as.map (vmv ad)).toArray below meth c j := ⟨B.exec, B.bytes, hml, hown, ⟨fun hin => (name_of_methodNamed B.named B.method).1.trans (by unfold inM at hin; simpa using hin), hst⟩, fun w h g => hts w (List.mem_cons_of_mem _ (List.mem_filter.mpr ⟨h, g⟩)), Nat.le_refl _, Nat.le_refl _⟩
  have hx := B.exec
  have hbb := B.bytes
  have hr := B.returns
  have l1 := hle.1
  have l2 := hle.2.1
  have hwo : Wo D kA ad (va_A (wsO kA ad σ) s.heap.size) s s.heap [] σ := ⟨hK, hP, hD.self, va_S.rf, hSp, fun q h => Or.inr h⟩
  have hg := (hs p e _ s m _ below meth c (va_A (wsO kA ad σ) s.heap.size) ((mU σ).1, (mU σ).2.1) (MQ below (QcJ D kA ad σ w s.heap.size) (as.map (vmv ad)).toArray s ((mU w.2).1 - (mU σ).1) ((mU w.2).2.1 - (mU σ).2.1) (va_A (wsO kA ad σ) s.heap.size)) cx ⟨base, hb1, hb2, hb⟩ (by show _ ≤ _ + ((mU w.2).1 - (mU σ).1); omega) (by show _ ≤ _ + ((mU w.2).2.1 - (mU σ).2.1); omega) (fun H locs la pc hw hra => ?_)).2 s.heap [] _ hwo (lR_entry ad ok2 ok1) (Nat.le_refl _) (Nat.le_refl _)
  · rw [lg_entry_eq]
    dsimp only at hg
    rw [Nat.sub_self, Nat.sub_self] at hg
    exact hg
  · obtain ⟨v, σ'⟩ := w
    have hq : ∀ (v2 : Option Value), v.map (vmv ad) = v2 → ∀ t : State, t.heap = H → s.WarmedH t.vm → QcJ D kA ad σ (v, σ') s.heap.size (as.map (vmv ad)).toArray s (.returned v2) t := by
      intro v2 hv2 t ht _
      exact ⟨by rw [← hv2], by rw [ht]; exact hw.2.1, hw.2.2.1, hw.2.2.2.1.F ht⟩
    match v, hra with
    | none, hra => exact W.vret hx hbb (hr.trans hra.2) (hq none rfl) hw.2.2.2.1.2.2 hra.1
    | some (.int x), hra =>
      obtain ⟨h1, ty, h2, h3⟩ := hra
      exact W.zret hx hbb (hr.trans h2) h3 (hq _ rfl) hw.2.2.2.1.2.2 h1
    | some (.long x), hra => exact W.lret hx hbb (hr.trans hra.2) (hq _ rfl) hw.2.2.2.1.2.2 hra.1
    | some (.ref x), hra =>
      obtain ⟨h1, n, h2⟩ := hra
      exact W.aret hx hbb (hr.trans h2) (Or.inl ⟨n, rfl⟩) (Or.inr ⟨_, rfl⟩) (hq _ rfl) hw.2.2.2.1.2.2 h1
