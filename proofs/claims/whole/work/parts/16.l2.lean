/-! ===== the class's lamp: its contracts, answering and throwing ===== -/
/-- what is left where it throws -/
def XcJ (D : va_G) (kA : Nat → ClassId) (ad : Nat → Nat) (σ σ1 : Mm) (E0 : String) (sz : Nat) : String → State → State → Prop := fun E st t => E = E0 ∧ va_P D vwCl (wsO kA ad σ1) t.heap ∧ va_D (va_A (wsO kA ad σ) sz) (wsO kA ad σ1) ∧ va_F (va_A (wsO kA ad σ) sz) st t
section LmT
variable {p : Program} {l : Launch} {e : Env} {R : Room} {s : State} {m : MethodId} {args : Array Value} {below : List Frame} {meth : Method} {c : Code} {D : va_G} {kA : Nat → ClassId} {ad : Nat → Nat} {A : Nat → Prop} {u0 : Nat × Nat} {σ σ1 : Mm} {call : Nat → List Value → Mm → Rs}
variable {Qc : Array Value → State → Outcome → State → Prop} {XC : String → State → State → Prop} {mc ms : Nat} {free : Addr → Prop}
/-- the throw at 8 -/
theorem x_t1 {ls : List Value} (hls : ls.length = 3) (cx : Cx p l e R s m args below meth c 300) (hR1 : (mU σ1).1 + 1 ≤ u0.1 + R.cells) (hR2 : (mU σ1).2.1 + 6 ≤ u0.2 + R.slots) (htab : ∀ x ∈ c.exceptionTable.toList, False) (hlocks : meth.locks = false)
    (hx : ∀ (H : Heap) (locs : List Loc) (t : State), Wo D kA ad A s H locs σ1 → H.size ≤ t.heap.size → (∀ q : Nat, q < H.size → t.heap[q]? = H[q]?) → XC nIO s t) (hf : ∀ q, A q → free q) (hc : (mU σ1).1 + 1 ≤ mc + u0.1) (hs : (mU σ1).2.1 + 6 ≤ ms + u0.2) :
    Gd p l e R s m args below meth c D kA ad A (none, lost σ1 6) u0 (vx_MQ below Qc XC args s mc ms free) 8 ls [] σ1 := by
  refine ⟨⟨Nat.le_succ _, Nat.le_add_right _ _, rfl⟩, fun H locs la hw hl a b => ?_⟩
  have hS : SpE ad A s := hw.2.2.2.2.1.2.2.2.2.2.2.2
  have f1 : 6 ≤ R.frames := cx.2.2.2.2.2.2.1
  have f2 : 82 ≤ R.locals := cx.2.2.2.2.2.2.2
  exact vy_throw (A := A) (cc := cX8_lamp) (pc := 8) cx.1 cx.2.1 cx.2.2.2.2.1.2 (own := "BellPulls") (cls := nIO) (text := "no such lamp") (Y := nRT) (r := [nEX]) (ik := 123) (is := 125) (ic := 127) (ix := 7) (rx := Bundle.six) (sa := ad 1000002) (rest := [])
    lm_six.1 lm_six.2.1 lm_six.2.2.1 lm_six.2.2.2 cx.2.2.2.1 lm_fit.1 lm_fit.2.2.1 lm_fit.2.2.2 (cx.2.2.2.2.2.1 _ lm_k1 rfl) (cx.2.2.2.2.2.1 _ lm_i1 rfl) hS.2.2.2.1 (fun w h => lm_bef cx.2.2.2.2.2.1 hS (lmT_in w (lm_a1 w h)) (lm_g1 w h)) lm_o1
    hS.2.2.2.2.2.2.1 hS.2.2.2.2.2.2.2.1 hw.2.2.2.1 (hl.1.trans (hls.trans cx.2.2.1.symm)) wx_8 wx_11 wx_12 wx_14 wx_17 (fun x h => absurd (htab x h) id) (by show 1 + 4 < R.frames; omega) (by show 0 + (13 * (1 + 2) + 43) ≤ R.locals; omega) (by omega) (by omega) hlocks
    (fun t _ h1 h2 => hx H locs t hw h1 h2) (fun z hz => hf _ (hw.2.2.2.1.2.2 z hz)) (by omega) (by omega)
/-- the throw at 91 -/
theorem x_t2 {ls : List Value} (hls : ls.length = 3) (cx : Cx p l e R s m args below meth c 300) (hR1 : (mU σ1).1 + 1 ≤ u0.1 + R.cells) (hR2 : (mU σ1).2.1 + 6 ≤ u0.2 + R.slots) (htab : ∀ x ∈ c.exceptionTable.toList, False) (hlocks : meth.locks = false)
    (hx : ∀ (H : Heap) (locs : List Loc) (t : State), Wo D kA ad A s H locs σ1 → H.size ≤ t.heap.size → (∀ q : Nat, q < H.size → t.heap[q]? = H[q]?) → XC nNS s t) (hf : ∀ q, A q → free q) (hc : (mU σ1).1 + 1 ≤ mc + u0.1) (hs : (mU σ1).2.1 + 6 ≤ ms + u0.2) :
    Gd p l e R s m args below meth c D kA ad A (none, lost σ1 6) u0 (vx_MQ below Qc XC args s mc ms free) 91 ls [] σ1 := by
  refine ⟨⟨Nat.le_succ _, Nat.le_add_right _ _, rfl⟩, fun H locs la hw hl a b => ?_⟩
  have hS : SpE ad A s := hw.2.2.2.2.1.2.2.2.2.2.2.2
  have f1 : 6 ≤ R.frames := cx.2.2.2.2.2.2.1
  have f2 : 82 ≤ R.locals := cx.2.2.2.2.2.2.2
  exact vy_throw (A := A) (cc := cX8_lamp) (pc := 91) cx.1 cx.2.1 cx.2.2.2.2.1.2 (own := "BellPulls") (cls := nNS) (text := "no such what") (Y := nRT) (r := [nEX]) (ik := 143) (is := 145) (ic := 147) (ix := 13) (rx := rxN) (sa := ad 1000003) (rest := [])
    lm_rxN.1 lm_rxN.2.1 lm_rxN.2.2.1 lm_rxN.2.2.2 cx.2.2.2.1 lm_fit.2.1 lm_fit.2.2.1 lm_fit.2.2.2 (cx.2.2.2.2.2.1 _ lm_k2 rfl) (cx.2.2.2.2.2.1 _ lm_i2 rfl) hS.2.2.2.2.1 (fun w h => lm_bef cx.2.2.2.2.2.1 hS (lmT_in w (lm_a2 w h)) (lm_g2 w h)) lm_o2
    hS.2.2.2.2.2.2.1 hS.2.2.2.2.2.2.2.1 hw.2.2.2.1 (hl.1.trans (hls.trans cx.2.2.1.symm)) wx_91 wx_94 wx_95 wx_97 wx_100 (fun x h => absurd (htab x h) id) (by show 1 + 4 < R.frames; omega) (by show 0 + (13 * (1 + 2) + 43) ≤ R.locals; omega) (by omega) (by omega) hlocks
    (fun t _ h1 h2 => hx H locs t hw h1 h2) (fun z hz => hf _ (hw.2.2.2.1.2.2 z hz)) (by omega) (by omega)
end LmT
/-- it throws E: from every frame that stands for its beginning -/
def TN (l : Launch) (D : va_G) (kA : Nat → ClassId) (ad : Nat → Nat) (E : String) (ls : List Value) (σ σ1 : Mm) : Prop :=
  ∀ (p : Program) (e : Env) (R : Room) (s : State) (m : MethodId) (args : Array Value) (below : List Frame) (meth : Method) (c : Code) (A : Nat → Prop) (u0 : Nat × Nat) (Qc : Array Value → State → Outcome → State → Prop) (XC : String → State → State → Prop) (mc ms : Nat) (free : Addr → Prop), Cx p l e R s m args below meth c 300 → Bs s ad u0 → (mU σ1).1 + 1 ≤ u0.1 + R.cells → (mU σ1).2.1 + 6 ≤ u0.2 + R.slots → (∀ x ∈ c.exceptionTable.toList, False) → meth.locks = false → (∀ (H : Heap) (locs : List Loc) (t : State), Wo D kA ad A s H locs σ1 → H.size ≤ t.heap.size → (∀ q : Nat, q < H.size → t.heap[q]? = H[q]?) → XC E s t) → (∀ q, A q → free q) → (mU σ1).1 + 1 ≤ mc + u0.1 → (mU σ1).2.1 + 6 ≤ ms + u0.2 → Gd p l e R s m args below meth c D kA ad A (none, lost σ1 6) u0 (vx_MQ below Qc XC args s mc ms free) 0 ls [] σ
section LmC
variable {l : Launch} {D : va_G} {kA : Nat → ClassId} {ad : Nat → Nat} {σ σ1 : Mm} {call : Nat → List Value → Mm → Rs} {a : Nat} {x y b : Int32}
theorem t_io (hcl : ∀ j as σ w1, call j as σ = some w1 → CaOk l D kA ad j as σ w1) (hca : call mX8_isLamp [.ref a, .int x] σ = some (some (.int b), σ1)) (hb : b = 0) : TN l D kA ad nIO [.ref a, .int x, .int y] σ σ1 := by
  intro p e R s m args below meth c A u0 Qc XC mc ms free cx hB hR1 hR2 htab hlocks hx hf hc hs
  exact x_pre cx hcl hB hR1 hR2 hca (fun _ => x_t1 rfl cx hR1 hR2 htab hlocks hx hf hc hs) (fun h => absurd hb h)
theorem t_ns (hcl : ∀ j as σ w1, call j as σ = some w1 → CaOk l D kA ad j as σ w1) (hca : call mX8_isLamp [.ref a, .int x] σ = some (some (.int b), σ1)) (hb : b ≠ 0) (hy : y ≠ 0 ∧ y ≠ 1 ∧ y ≠ 2 ∧ y ≠ 3) : TN l D kA ad nNS [.ref a, .int x, .int y] σ σ1 := by
  intro p e R s m args below meth c A u0 Qc XC mc ms free cx hB hR1 hR2 htab hlocks hx hf hc hs
  exact x_pre cx hcl hB hR1 hR2 hca (fun h => absurd h hb) (fun _ => x_sw cx (sw_out hy.1 hy.2.1 hy.2.2.1 hy.2.2.2) (t := 91) rfl (x_t2 rfl cx hR1 hR2 htab hlocks hx hf hc hs))
theorem r_0 {h : Nat} (hcl : ∀ j as σ w1, call j as σ = some w1 → CaOk l D kA ad j as σ w1) (hca : call mX8_isLamp [.ref a, .int x] σ = some (some (.int b), σ1)) (hb : b ≠ 0) (hk8 : isK σ1 a 8 = true) (hr : mR σ1 a 2 = some h) (hk2 : isK σ1 h 2 = true) : SN l D kA ad 300 0 [.ref a, .int x, .int 0] [] σ (some (.int ((mI σ1 h 1 >>> (x &&& 31)) &&& 1)), σ1) := by
  intro p e R s m args below meth c A u0 Q cx hB hR1 hR2 hq
  exact x_pre cx hcl hB hR1 hR2 hca (fun h => absurd h hb) (fun _ => x_sw cx (off := 29) (t := 48) (by decide) rfl (x_bit cx hk8 hr hk2 (q := 48) (i3 := 130) rfl wx_48 wx_49 wx_52 wx_55 wx_56 wx_57 wx_58 wx_59 hq))
theorem r_1 {h : Nat} (hcl : ∀ j as σ w1, call j as σ = some w1 → CaOk l D kA ad j as σ w1) (hca : call mX8_isLamp [.ref a, .int x] σ = some (some (.int b), σ1)) (hb : b ≠ 0) (hk8 : isK σ1 a 8 = true) (hr : mR σ1 a 2 = some h) (hk2 : isK σ1 h 2 = true) : SN l D kA ad 300 0 [.ref a, .int x, .int 1] [] σ (some (.int ((mI σ1 h 2 >>> (x &&& 31)) &&& 1)), σ1) := by
  intro p e R s m args below meth c A u0 Q cx hB hR1 hR2 hq
  exact x_pre cx hcl hB hR1 hR2 hca (fun h => absurd h hb) (fun _ => x_sw cx (off := 41) (t := 60) (by decide) rfl (x_bit cx hk8 hr hk2 (q := 60) (i3 := 133) rfl wx_60 wx_61 wx_64 wx_67 wx_68 wx_69 wx_70 wx_71 hq))
theorem r_2 {h g : Nat} {v : Int32} (hcl : ∀ j as σ w1, call j as σ = some w1 → CaOk l D kA ad j as σ w1) (hca : call mX8_isLamp [.ref a, .int x] σ = some (some (.int b), σ1)) (hb : b ≠ 0) (hk8 : isK σ1 a 8 = true) (hr : mR σ1 a 2 = some h) (hk2 : isK σ1 h 2 = true) (hg : mR σ1 h 7 = some g) (hv : rdI σ1 g x = some v) : SN l D kA ad 300 0 [.ref a, .int x, .int 2] [] σ (some (.int v), σ1) := by
  intro p e R s m args below meth c A u0 Q cx hB hR1 hR2 hq
  exact x_pre cx hcl hB hR1 hR2 hca (fun h => absurd h hb) (fun _ => x_sw cx (off := 53) (t := 72) (by decide) rfl (x_age cx hk8 hr hk2 hg hv hq))
theorem r_3 {h : Nat} {v : Int32} {σ2 : Mm} (hcl : ∀ j as σ w1, call j as σ = some w1 → CaOk l D kA ad j as σ w1) (hca : call mX8_isLamp [.ref a, .int x] σ = some (some (.int b), σ1)) (hb : b ≠ 0) (hk8 : isK σ1 a 8 = true) (hr : mR σ1 a 2 = some h) (hcb : call mX2_pullsTiedTo [.ref h, .int x] σ1 = some (some (.int v), σ2)) : SN l D kA ad 300 0 [.ref a, .int x, .int 3] [] σ (some (.int v), σ2) := by
  intro p e R s m args below meth c A u0 Q cx hB hR1 hR2 hq
  exact x_pre cx hcl hB hR1 hR2 hca (fun h => absurd h hb) (fun _ => x_sw cx (off := 63) (t := 82) (by decide) rfl (x_tied cx hcl hB hR1 hR2 hk8 hr hcb hq))
end LmC
section LmM
variable {l : Launch} {D : va_G} {kA : Nat → ClassId} {ad : Nat → Nat} {σ σ1 : Mm} {a : Nat} {x y : Int32}
theorem x_ok (hk : isK σ a 8 = true) : okr 300 [.ref a, .int x, .int y] σ = true := by
  unfold okr
  rw [Bool.and_eq_true, Bool.and_eq_true]
  refine ⟨⟨rfl, rfl⟩, ?_⟩
  rw [if_neg (show ¬ stM 300 = true by decide)]
  show (if oM 300 = 13 then a == 1000000 || a == 1000001 else isK σ a (oM 300)) = true
  rw [if_neg (show ¬ oM 300 = 13 by decide)]
  exact hk
/-- it answers -/
theorem x_metR {v : Int32} (hst : l.stackTraces = false) (hle : le2 σ σ1) (hk : isK σ a 8 = true) {base : Nat} (hb : ∀ a : Nat, a < 1000000 → ad a = base + a) (hs : SN l D kA ad 300 0 [.ref a, .int x, .int y] [] σ (some (.int v), σ1)) : MetY l D kA ad base yX8_lamp (Cond.code yX8_lamp cX8_lamp 3 (some .int) :: lw_g) 6 82 [.ref a, .int x, .int y] σ (some (.int v), σ1) :=
  metJ_gen (j := 300) hst hle (x_ok hk) (by decide +kernel) (by decide +kernel) hb hs
/-- it throws -/
theorem x_metT {E : String} (hst : l.stackTraces = false) (hle : le2 σ σ1) {base : Nat} (hb : ∀ a : Nat, a < 1000000 → ad a = base + a) (hs : TN l D kA ad E [.ref a, .int x, .int y] σ σ1) (sz : Nat) (hb1 : base ≤ sz) (hb2 : sz ≤ base + (mU σ).1) :
    vx_Met l yX8_lamp (Cond.code yX8_lamp cX8_lamp 3 (some .int) :: lw_g) { frames := 6, cells := (mU σ1).1 + 1 - (mU σ).1, slots := (mU σ1).2.1 + 6 - (mU σ).2.1, locals := 82 } (PcJ D kA ad [.ref a, .int x, .int y] σ sz) (fun _ _ _ _ => False) (XcJ D kA ad σ σ1 E sz) ((mU σ1).1 + 1 - (mU σ).1) ((mU σ1).2.1 + 6 - (mU σ).2.1) (va_A (wsO kA ad σ) sz) := by
  refine vx_ofW (cc := cX8_lamp) (maxL := 3) (ret := some .int) (by decide +kernel) rfl ?_
  intro p e s m args below meth c s₁ B hml htab hv
  obtain ⟨rfl, hsz, hK, hP, hD, hSp⟩ := hv
  subst hsz
  have hts := atoms_spec (ws := Cond.code yX8_lamp cX8_lamp 3 (some .int) :: lw_g) B.pre
  have hown : s.vm.findClass (Rn (oM 300)) = some m.cls := findClass_of_methodNamed B.named
  have hlocks : meth.locks = false := B.notSynchronized
  have cx : Cx p l e (headSpec (Cond.code yX8_lamp cX8_lamp 3 (some .int) :: lw_g) { frames := 6, cells := (mU σ1).1 + 1 - (mU σ).1, slots := (mU σ1).2.1 + 6 - (mU σ).2.1, locals := 82 }).room s m (([.ref a, .int x, .int y] : List Value).map (vmv ad)).toArray below meth c 300 := ⟨B.exec, B.bytes, hml, hown, ⟨fun hin => absurd hin (by decide +kernel), hst⟩, fun w h g => hts w (List.mem_cons_of_mem _ (List.mem_filter.mpr ⟨h, g⟩)), Nat.le_refl _, Nat.le_refl _⟩
  have l1 := hle.1
  have l2 := hle.2.1
  have hwo : Wo D kA ad (va_A (wsO kA ad σ) s.heap.size) s s.heap [] σ := ⟨hK, hP, hD.self, va_S.rf, hSp, fun q h => Or.inr h⟩
  have hg := (hs p e _ s m _ below meth c (va_A (wsO kA ad σ) s.heap.size) ((mU σ).1, (mU σ).2.1) (fun _ _ _ _ => False) (XcJ D kA ad σ σ1 E s.heap.size) ((mU σ1).1 + 1 - (mU σ).1) ((mU σ1).2.1 + 6 - (mU σ).2.1) (va_A (wsO kA ad σ) s.heap.size) cx ⟨base, hb1, hb2, hb⟩ (by show _ ≤ _ + ((mU σ1).1 + 1 - (mU σ).1); omega) (by show _ ≤ _ + ((mU σ1).2.1 + 6 - (mU σ).2.1); omega) htab hlocks (fun H locs t hw h1 h2 => ?_) (fun _ h => h) (by show _ ≤ _ + (mU σ).1; omega) (by show _ ≤ _ + (mU σ).2.1; omega)).2 s.heap [] _ hwo (lR_entry ad (as := [.ref a, .int x, .int y]) (n := 3) rfl (Nat.le_refl _)) (Nat.le_refl _) (Nat.le_refl _)
  · rw [lg_entry_eq]
    dsimp only at hg
    rw [Nat.sub_self, Nat.sub_self] at hg
    exact hg
  · refine ⟨rfl, hw.2.1.kept (fun k q hk => h2 q.1 (hw.2.1 k q hk).lt), hw.2.2.1, Nat.le_trans hw.2.2.2.1.1 h1, fun q hq hn => ?_⟩
    rw [h2 q (Nat.lt_of_lt_of_le hq hw.2.2.2.1.1)]
    exact hw.2.2.2.1.2.1 q hq hn
end LmM
