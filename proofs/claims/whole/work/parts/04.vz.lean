/-! ===== a thrown object taken by a row of the method's own table ===== -/
section VZ
variable {e : Env} {s : State} {f : JFrame} {a : Addr}
/-- a row that covers the place and names a class that is found: it takes the object, or the search goes on -/
theorem vz_row {x : ExceptionTableEntry} {t : List ExceptionTableEntry} {c : ClassId} {cell : Cell} {Q : Handler → Pre} {E : CtlPost} {d : Bool} {acts : List Action} (hx : covers x f.pc = true) (h0 : x.catchType ≠ 0)
    (hl : s.vm.ClassLinks e.platform f.method.cls x.catchType c) (hcell : s.heap[a]? = some cell) (hobj : ∀ k, cell.vm ≠ .statics k) (hk : ∃ k, s.vm.classes[cell.cls]? = some k) (hc : ∃ k, s.vm.classes[c]? = some k) :
    wp (findHandler.go f a (x :: t)) Q E e d acts s ↔ (if s.vm.assignable cell.cls c = true then Q (.found x.handlerPc) d acts (s.setVm (s.vm.noted f.method.cls x.catchType (.cls c))) else wp (findHandler.go f a t) Q E e d acts (s.setVm (s.vm.noted f.method.cls x.catchType (.cls c)))) := by
  simp only [covers] at hx
  obtain ⟨ha, ht⟩ := (resolveClass_links e.toSetting hl).op (op := VmOp.resolveClass f.method.cls x.catchType) rfl
  have hal : s.vm.Alike (s.vm.noted f.method.cls x.catchType (.cls c)) := (Vm.Alike.refl s.vm).noted _ _ _
  obtain ⟨k1, hk1⟩ := hk
  obtain ⟨k2, hk2⟩ := hc
  obtain ⟨k1', hk1', -⟩ := hal.2.2 _ _ hk1
  obtain ⟨k2', hk2', -⟩ := hal.2.2 _ _ hk2
  have hfit : (s.vm.noted f.method.cls x.catchType (.cls c)).assignable cell.cls c = s.vm.assignable cell.cls c := by rw [hal.assignable]
  cases hb : s.vm.assignable cell.cls c <;> rw [hb] at hfit <;> simp [findHandler.go, hx, h0, ha, ht, hcell, hobj, hk1', hk2', hfit, VmOp.dirties, VmOp.acts]
theorem vz_sets (u : State) (vm' : Vm) (F G : List Frame) : ((u.setFrames F).setVm vm').setFrames G = (u.setVm vm').setFrames G := by
  have h1 : (u.setFrames F).setVm vm' = (u.setVm vm').setFrames F := rfl
  rw [h1, State.setFrames_setFrames]
/-- the search ends at a row: the frame goes on there -/
theorem vz_to {tb : Tables} {target : State} {g : JFrame} {c : Code} {below : List Frame} (h : At s g.method c below) {pc : Nat} {vm' : Vm}
    (hfind : ∀ (Q : Handler → Pre) (E : CtlPost) (d : Bool) (acts : List Action), wp (findHandler g a) Q E e d acts ((s.setTop g).pushFrame (.throwing a)) ↔ Q (.found pc) d acts (((s.setTop g).pushFrame (.throwing a)).setVm vm'))
    (hrest : Steps tb e below ((s.setVm vm').setTop { g with pc := pc, stack := [.ref a] }) target) : Steps tb e below ((s.setTop g).pushFrame (.throwing a)) target := by
  obtain ⟨hgo, hw⟩ := h.throwing a
  have hst : ∀ r : List Frame, (stepThrowing e ((s.setTop g).pushFrame (.throwing a)) a (.java g :: r)).Is ((((s.setTop g).pushFrame (.throwing a)).setVm vm').setFrames (.java { g with pc := pc, stack := [.ref a] } :: r)) [] := by
    intro r
    simp only [stepThrowing, searchFrame, vmDo]
    generalize hr : Sem.go _ e false [] ((s.setTop g).pushFrame (.throwing a)) = res
    obtain ⟨as, rfl, ha⟩ := Sem.eq_ok_of hr (a := Handler.found pc) (s' := ((s.setTop g).pushFrame (.throwing a)).setVm vm') (acts' := []) (by simp [hfind _ _ _ _])
    exact ⟨rfl, ha⟩
  refine Steps.head hgo hw ?_
  rw [stepThread_throwing (frames_entered h.top _), (hst _).1]
  obtain ⟨g₀, hg⟩ := Option.isSome_iff_exists.mp h.top
  obtain ⟨r, hr⟩ := State.topJava?_eq_some.mp hg
  have hr' : (s.setVm vm').frames = .java g₀ :: r := hr
  rw [State.setTop_of_frames _ hr'] at hrest
  rw [hr, List.tail_cons, State.pushFrame, vz_sets, State.setTop_of_frames _ hr, vz_sets]
  exact hrest
end VZ
section VZC
variable {p : Program} {l : Launch} {e : Env} {R : Room} {s : State} {m : MethodId} {args : Array Value} {below : List Frame} {meth : Method} {c : Code} {H : Heap} {locs : List Loc} {cells slots : Nat} {Q : State → Prop} {pc : Nat} {ls : Array Slot} {rest : List Value}
/-- taken by the first row -/
theorem vz_c1 {own name : String} {E : String} {ce : Cell} {q : Addr} (hown : s.vm.findClass own = some m.cls) (x : ExceptionTableEntry) (suf : List ExceptionTableEntry) (hsplit : c.exceptionTable.toList = x :: suf)
    (hx : covers x pc = true) (h0 : x.catchType ≠ 0) (hlink : (Cond.classLink own x.catchType name).before args s = true) (hcast : (Cond.castable E name).before args s = true) (hcell : H[q]? = some ce) (hv : ce.vm = .none) (hcl : s.vm.findClass E = some ce.cls)
    (kk : W p l e R s m args below meth c H locs cells slots Q (F0 m x.handlerPc ls [.ref q])) : vx_W p l e R s m args below meth c H locs cells slots Q (F0 m pc ls rest) q := by
  intro T hT X
  have hpl : e.platform.magicAccessors = ({} : Platform).magicAccessors := by rw [X.admits.platform]
  obtain ⟨c3, c4, hc3, hc4, hasg⟩ := Cond.castable_spec hcast
  cases Option.some.inj (hc3.symm.trans hcl)
  obtain ⟨c5, hc5, hl5⟩ := Cond.classLink_spec hown hlink e.platform hpl
  cases Option.some.inj (hc4.symm.trans hc5)
  obtain ⟨dk, _, _, kt, hd, _, _, _, _, hkt, _, hopen⟩ := hl5.here
  obtain ⟨k9, h9, -⟩ := Vm.findClass_spec hcl
  obtain ⟨kt', hkt', -⟩ := X.warmed.alike.2.2 _ _ hkt
  obtain ⟨k9', h9', -⟩ := X.warmed.alike.2.2 _ _ h9
  have hW' : s.WarmedH (T.vm.noted m.cls x.catchType (.cls c4)) := X.warmed.noted hd hopen (State.rightAt_cls hl5)
  obtain ⟨t, a1, b1⟩ := kk (T.setVm (T.vm.noted m.cls x.catchType (.cls c4))) hT (X.noted hW')
  refine ⟨t, vz_to (g := F0 m pc ls rest) X.here (vm' := T.vm.noted m.cls x.catchType (.cls c4)) (fun Q E d acts => ?_) a1, b1⟩
  rw [W.findHandler_eq (meth := meth) (code := c) X.method' X.code, hsplit]
  have hq : T.heap[q]? = some ce := by rw [hT]; exact hcell
  have hob : ∀ k, ce.vm ≠ .statics k := by rw [hv]; intro k z; cases z
  have g1 : T.vm.assignable ce.cls c4 = true := by rw [X.warmed.alike.assignable]; exact hasg
  refine (vz_row (s := (T.setTop (F0 m pc ls rest)).pushFrame (.throwing q)) (c := c4) (cell := ce) hx h0 (X.warmed.classLinks hl5) hq hob ⟨k9', h9'⟩ ⟨kt', hkt'⟩).trans ?_
  rw [if_pos (show ((T.setTop (F0 m pc ls rest)).pushFrame (.throwing q)).vm.assignable ce.cls c4 = true from g1)]
  exact Iff.rfl
/-- not of the first row's class, taken by the second -/
theorem vz_c2 {own name nm : String} {E : String} {ce : Cell} {q : Addr} (hown : s.vm.findClass own = some m.cls) (y x : ExceptionTableEntry) (suf : List ExceptionTableEntry) (hsplit : c.exceptionTable.toList = y :: x :: suf)
    (hy : covers y pc = true) (hy0 : y.catchType ≠ 0) (hly : (Cond.classLink own y.catchType nm).before args s = true) (hn : va_Nc E nm s)
    (hx : covers x pc = true) (h0 : x.catchType ≠ 0) (hlink : (Cond.classLink own x.catchType name).before args s = true) (hcast : (Cond.castable E name).before args s = true) (hcell : H[q]? = some ce) (hv : ce.vm = .none) (hcl : s.vm.findClass E = some ce.cls)
    (kk : W p l e R s m args below meth c H locs cells slots Q (F0 m x.handlerPc ls [.ref q])) : vx_W p l e R s m args below meth c H locs cells slots Q (F0 m pc ls rest) q := by
  intro T hT X
  have hpl : e.platform.magicAccessors = ({} : Platform).magicAccessors := by rw [X.admits.platform]
  obtain ⟨c3, c4, hc3, hc4, hasg⟩ := Cond.castable_spec hcast
  cases Option.some.inj (hc3.symm.trans hcl)
  obtain ⟨c5, hc5, hl5⟩ := Cond.classLink_spec hown hlink e.platform hpl
  cases Option.some.inj (hc4.symm.trans hc5)
  obtain ⟨c6, hc6, hl6⟩ := Cond.classLink_spec hown hly e.platform hpl
  obtain ⟨c7, c8, hc7, hc8, hno⟩ := hn
  cases Option.some.inj (hc7.symm.trans hcl)
  cases Option.some.inj (hc8.symm.trans hc6)
  obtain ⟨dk, _, _, kt, hd, _, _, _, _, hkt, _, hopen⟩ := hl5.here
  obtain ⟨dk6, _, _, kt6, hd6, _, _, _, _, hkt6, _, hopen6⟩ := hl6.here
  obtain ⟨k9, h9, -⟩ := Vm.findClass_spec hcl
  have hW1 : s.WarmedH (T.vm.noted m.cls y.catchType (.cls c6)) := X.warmed.noted hd6 hopen6 (State.rightAt_cls hl6)
  have hW2 : s.WarmedH ((T.vm.noted m.cls y.catchType (.cls c6)).noted m.cls x.catchType (.cls c4)) := hW1.noted hd hopen (State.rightAt_cls hl5)
  obtain ⟨kt1, hkt1, -⟩ := X.warmed.alike.2.2 _ _ hkt6
  obtain ⟨k91, h91, -⟩ := X.warmed.alike.2.2 _ _ h9
  obtain ⟨kt2, hkt2, -⟩ := hW1.alike.2.2 _ _ hkt
  obtain ⟨k92, h92, -⟩ := hW1.alike.2.2 _ _ h9
  obtain ⟨t, a1, b1⟩ := kk (T.setVm ((T.vm.noted m.cls y.catchType (.cls c6)).noted m.cls x.catchType (.cls c4))) hT (X.noted hW2)
  refine ⟨t, vz_to (g := F0 m pc ls rest) X.here (vm' := (T.vm.noted m.cls y.catchType (.cls c6)).noted m.cls x.catchType (.cls c4)) (fun Q E d acts => ?_) a1, b1⟩
  have hq : T.heap[q]? = some ce := by rw [hT]; exact hcell
  have hob : ∀ k, ce.vm ≠ .statics k := by rw [hv]; intro k z; cases z
  rw [W.findHandler_eq (meth := meth) (code := c) X.method' X.code, hsplit]
  have g1 : ¬ T.vm.assignable ce.cls c6 = true := by rw [X.warmed.alike.assignable, hno]; decide
  have g2 : (T.vm.noted m.cls y.catchType (.cls c6)).assignable ce.cls c4 = true := by rw [hW1.alike.assignable]; exact hasg
  refine (vz_row (s := (T.setTop (F0 m pc ls rest)).pushFrame (.throwing q)) (c := c6) (cell := ce) hy hy0 (X.warmed.classLinks hl6) hq hob ⟨k91, h91⟩ ⟨kt1, hkt1⟩).trans ?_
  rw [if_neg (show ¬ ((T.setTop (F0 m pc ls rest)).pushFrame (.throwing q)).vm.assignable ce.cls c6 = true from g1)]
  refine (vz_row (s := ((T.setTop (F0 m pc ls rest)).pushFrame (.throwing q)).setVm (T.vm.noted m.cls y.catchType (.cls c6))) (c := c4) (cell := ce) hx h0 (hW1.classLinks hl5) hq hob ⟨k92, h92⟩ ⟨kt2, hkt2⟩).trans ?_
  rw [if_pos (show (((T.setTop (F0 m pc ls rest)).pushFrame (.throwing q)).setVm (T.vm.noted m.cls y.catchType (.cls c6))).vm.assignable ce.cls c4 = true from g2)]
  exact Iff.rfl
end VZC
