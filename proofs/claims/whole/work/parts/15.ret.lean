/-! ===== returns; Object's constructor; arraycopy; String.checkIndex ===== -/
def RetAt (M pc : Nat) (v : Option Value) : Prop := match v with
  | none => decode (cM M) pc = .ok (.return_, 1) ∧ rM M = none
  | some (.int x) => decode (cM M) pc = .ok (.ireturn, 1) ∧ ∃ ty, rM M = some ty ∧ narrow ty (.int x) = .int x
  | some (.long _) => decode (cM M) pc = .ok (.lreturn, 1) ∧ rM M = some .long
  | some (.ref _) => decode (cM M) pc = .ok (.areturn, 1) ∧ ∃ n, rM M = some (.object n)
  | _ => False
theorem f_obj {o ix j n : Nat} (h : callT o ix = some (4, j, n)) : Cond.methodLink (Rn o) ix objectInit ∈ lw_tbl := by
  obtain ⟨hm, ho⟩ := find_of (L := callUT) (o := o) (ix := ix) h
  have h1 : (List.range 15).all (fun o => (callUT.getD o []).all (fun q => q.2.1 != 4 || hasW (([400, 262, 200, 326, 37, 379, 43, 291, 29, 1265] : List Nat).getD o 0) (.methodLink (Rn o) q.1 objectInit))) = true := by decide +kernel
  have h2 := all_at (all_at h1 (List.mem_range.mpr ho)) hm
  simp only [bne_self_eq_false, Bool.false_or] at h2
  exact hasW_in h2
theorem f_copy {o ix j n : Nat} (h : callT o ix = some (5, j, n)) : o = 2 ∧ ix = 56 := by
  obtain ⟨hm, ho⟩ := find_of (L := callUT) (o := o) (ix := ix) h
  have h1 : (List.range 15).all (fun o => (callUT.getD o []).all (fun q => q.2.1 != 5 || (decide (o = 2) && decide (q.1 = 56)))) = true := by decide +kernel
  have h2 := all_at (all_at h1 (List.mem_range.mpr ho)) hm
  simp only [bne_self_eq_false, Bool.false_or, Bool.and_eq_true, decide_eq_true_eq] at h2
  exact h2
theorem f_chk {o ix j n : Nat} (h : callT o ix = some (6, j, n)) : o = 14 ∧ ix = 9 := by
  obtain ⟨hm, ho⟩ := find_of (L := callUT) (o := o) (ix := ix) h
  have h1 : (List.range 15).all (fun o => (callUT.getD o []).all (fun q => q.2.1 != 6 || (decide (o = 14) && decide (q.1 = 9)))) = true := by decide +kernel
  have h2 := all_at (all_at h1 (List.mem_range.mpr ho)) hm
  simp only [bne_self_eq_false, Bool.false_or, Bool.and_eq_true, decide_eq_true_eq] at h2
  exact h2
section Rets
variable {p : Program} {l : Launch} {e : Env} {R : Room} {s : State} {m : MethodId} {args : Array Value} {below : List Frame} {meth : Method} {c : Code} {D : va_G} {kA : Nat → ClassId} {ad : Nat → Nat} {A : Nat → Prop} {M : Nat} {w : Option Value × Mm} {u0 : Nat × Nat} {Q : State → Prop} {pc : Nat} {ls st : List Value} {σ : Mm} {k : Nat → List Value → List Value → Mm → Rs}
theorem o_ireturn (hq : ∀ (H : Heap) (locs : List Loc) (la : Array Slot) (pc : Nat), Wo D kA ad A s H locs w.2 → RetAt M pc w.1 → W p l e R s m args below meth c H locs ((mU w.2).1 - u0.1) ((mU w.2).2.1 - u0.2) Q (F0 m pc la (w.1.toList.map (vmv ad)))) {call : Nat → List Value → Mm → Rs} (hd : decode (cM M) pc = .ok (.ireturn, 1)) (h : p_ireturn M pc ls st σ k call = some w) : Gd p l e R s m args below meth c D kA ad A w u0 Q pc ls st σ := by
  unfold p_ireturn at h
  split at h
  next x =>
    have key : w = (some (.int x), σ) ∧ ∃ ty, rM M = some ty ∧ narrow ty (.int x) = .int x := by
      split at h
      next hr => cases h; exact ⟨rfl, _, hr, rfl⟩
      next hr =>
        obtain ⟨hx, h⟩ := if_spec h
        cases h
        exact ⟨rfl, _, hr, by rcases hx with rfl | rfl <;> rfl⟩
      next hr =>
        obtain ⟨hx, h⟩ := if_spec h
        cases h
        refine ⟨rfl, _, hr, ?_⟩
        rw [← hx]
        exact pk_nc x
      next hr =>
        obtain ⟨hx, h⟩ := if_spec h
        cases h
        refine ⟨rfl, _, hr, ?_⟩
        rw [← hx]
        exact pk_nb x
      next => cases h
    obtain ⟨rfl, hty⟩ := key
    exact ⟨⟨Nat.le_refl _, Nat.le_refl _, rfl⟩, fun H locs la hw hl a b => hq H locs la pc hw ⟨hd, hty⟩⟩
  next => cases h
theorem o_lreturn (hq : ∀ (H : Heap) (locs : List Loc) (la : Array Slot) (pc : Nat), Wo D kA ad A s H locs w.2 → RetAt M pc w.1 → W p l e R s m args below meth c H locs ((mU w.2).1 - u0.1) ((mU w.2).2.1 - u0.2) Q (F0 m pc la (w.1.toList.map (vmv ad)))) {call : Nat → List Value → Mm → Rs} (hd : decode (cM M) pc = .ok (.lreturn, 1)) (h : p_lreturn M pc ls st σ k call = some w) : Gd p l e R s m args below meth c D kA ad A w u0 Q pc ls st σ := by
  unfold p_lreturn at h
  split at h
  next x =>
    obtain ⟨hr, h⟩ := if_spec h
    cases h
    exact ⟨⟨Nat.le_refl _, Nat.le_refl _, rfl⟩, fun H locs la hw hl a b => hq H locs la pc hw ⟨hd, hr⟩⟩
  next => cases h
theorem o_areturn (hq : ∀ (H : Heap) (locs : List Loc) (la : Array Slot) (pc : Nat), Wo D kA ad A s H locs w.2 → RetAt M pc w.1 → W p l e R s m args below meth c H locs ((mU w.2).1 - u0.1) ((mU w.2).2.1 - u0.2) Q (F0 m pc la (w.1.toList.map (vmv ad)))) {call : Nat → List Value → Mm → Rs} (hd : decode (cM M) pc = .ok (.areturn, 1)) (h : p_areturn M pc ls st σ k call = some w) : Gd p l e R s m args below meth c D kA ad A w u0 Q pc ls st σ := by
  unfold p_areturn at h
  split at h
  next x =>
    split at h
    next hr =>
      cases h
      exact ⟨⟨Nat.le_refl _, Nat.le_refl _, rfl⟩, fun H locs la hw hl a b => hq H locs la pc hw ⟨hd, _, hr⟩⟩
    next => cases h
  next => cases h
theorem o_return_ (hq : ∀ (H : Heap) (locs : List Loc) (la : Array Slot) (pc : Nat), Wo D kA ad A s H locs w.2 → RetAt M pc w.1 → W p l e R s m args below meth c H locs ((mU w.2).1 - u0.1) ((mU w.2).2.1 - u0.2) Q (F0 m pc la (w.1.toList.map (vmv ad)))) {call : Nat → List Value → Mm → Rs} (hd : decode (cM M) pc = .ok (.return_, 1)) (h : p_return_ M pc ls st σ k call = some w) : Gd p l e R s m args below meth c D kA ad A w u0 Q pc ls st σ := by
  unfold p_return_ at h
  split at h
  next =>
    obtain ⟨hr, h⟩ := if_spec h
    cases h
    exact ⟨⟨Nat.le_refl _, Nat.le_refl _, rfl⟩, fun H locs la hw hl a b => hq H locs la pc hw ⟨hd, hr⟩⟩
  next => cases h
theorem o_objinit (cx : Cx p l e R s m args below meth c M) (hk : ∀ pc2 ls2 st2 σ2, k pc2 ls2 st2 σ2 = some w → Gd p l e R s m args below meth c D kA ad A w u0 Q pc2 ls2 st2 σ2) {call : Nat → List Value → Mm → Rs} {idx j n : Nat} (hd : decode (cM M) pc = .ok (.invokespecial idx, 3)) (hc : callT (oM M) idx = some (4, j, n)) (hfr : 1 ≤ frM M) (hlo : 20 ≤ loM M) (h : (s_r st fun _ r => if r.length ≤ 4 ∧ ls.length = xM M then k (pc + 3) ls r σ else none) = some w) : Gd p l e R s m args below meth c D kA ad A w u0 Q pc ls st σ := by
  obtain ⟨x, r, rfl, h3⟩ := s_r_spec h
  obtain ⟨⟨hr4, hlen⟩, h3⟩ := if_spec h3
  obtain ⟨hm, hg⟩ := hk _ _ _ _ h3
  have w1 : Cond.instanceMethod objectInit ∈ lw_tbl := tb_at 0 30 rfl
  have w2 : Cond.code objectInit ⟨#[0xb1]⟩ 1 none ∈ lw_tbl := tb_at 0 31 rfl
  refine ⟨hm, fun H locs la hw hl a b => ?_⟩
  refine W.objInit cx.1 cx.2.1 cx.2.2.2.1 (cx_hts cx (f_obj hc) rfl) (cx_hts cx w1 rfl) (cx_hts cx w2 rfl) (g := F0 m pc la ((Value.ref x :: r).map (vmv ad))) rfl ((hl.1.trans hlen).trans cx.2.2.1.symm) (a := ad x) (rest := r.map (vmv ad)) rfl hd (Nat.le_trans hfr cx.2.2.2.2.2.2.1) ?_ (hg H locs la hw hl a b)
  have h8 : 2 * (F0 m pc la ((Value.ref x :: r).map (vmv ad))).monitorRoom + ((r.map (vmv ad)).map fun v => v.category).sum ≤ 8 := lv_room4 hr4
  have := cx.2.2.2.2.2.2.2
  omega
theorem o_copy (cx : Cx p l e R s m args below meth c M) (hk : ∀ pc2 ls2 st2 σ2, k pc2 ls2 st2 σ2 = some w → Gd p l e R s m args below meth c D kA ad A w u0 Q pc2 ls2 st2 σ2) {call : Nat → List Value → Mm → Rs} {idx j n : Nat} (hd : decode (cM M) pc = .ok (.invokestatic idx, 3)) (hc : callT (oM M) idx = some (5, j, n)) (hfr : 1 ≤ frM M) (hlo : 60 ≤ loM M) (h : p_copy M pc ls st σ k call = some w) : Gd p l e R s m args below meth c D kA ad A w u0 Q pc ls st σ := by
  unfold p_copy at h
  split at h
  next n dp x sp y r =>
    obtain ⟨⟨hr4, hlen⟩, h3⟩ := if_spec h
    split at h3
    next qa qb ha hb =>
      obtain ⟨⟨c1, c2, c3, c4, c5, c6, c7⟩, h4⟩ := if_spec h3
      obtain ⟨qa1, na⟩ := qa
      obtain ⟨qb1, nb⟩ := qb
      dsimp only at c1 c2 c6 c7
      subst c1; subst c2
      obtain ⟨hm, hg⟩ := hk _ _ _ _ h4
      obtain ⟨ho, rfl⟩ := f_copy hc
      have w1 : Cond.methodLink "BellPulls$House" 56 arraycopyName ∈ lw_tbl := tb_at 3 168 rfl
      have w2 : Cond.native arraycopyName ∈ lw_tbl := tb_at 3 170 rfl
      have w3 : Cond.static arraycopyName ∈ lw_tbl := tb_at 3 169 rfl
      have w4 : Cond.initialized "java/lang/System" ∈ lw_tbl := tb_at 0 23 rfl
      have hown : s.vm.findClass "BellPulls$House" = some m.cls := by
        have := cx.2.2.2.1
        rw [ho] at this
        exact this
      refine ⟨hm, fun H locs la hw hl a b => ?_⟩
      have hata := wsO_at (kA := kA) (ad := ad) ha
      rw [ent_int (by omega) (by omega)] at hata
      have hatb := wsO_at (kA := kA) (ad := ad) hb
      rw [ent_int (by omega) (by omega)] at hatb
      have nl : ∀ z : Int32, 0 ≤ z → ¬ z < 0 := fun z hz q => absurd hz (by rw [Int32.not_le]; exact q)
      refine va_copyi cx.1 cx.2.1 (cx.2.2.1.trans (hl.1.trans hlen).symm) hown (cx_hts cx w1 rfl) (cx_hts cx w2 rfl) (cx_hts cx w3 rfl) (cx_hts cx w4 rfl) hw.1 hw.2.1 hw.2.2.1 hw.2.2.2.1 y x 1 1 hatb hata rfl rfl rfl (nl _ c3) (nl _ c4) (nl _ c5) c6 c7 (fun _ _ => rfl) (Nat.le_trans hfr cx.2.2.2.2.2.2.1) ?_ hd (fun H1 locs1 hP1 hD1 hS1 => hg H1 locs1 la (wo_put hw rfl (ws_uWa ha) hP1 hD1 hS1) hl a b)
      have h8 := cats4 ad r
      have h9 := cx.2.2.2.2.2.2.2
      have h10 : nativeFrameWords "java/lang/System" "arraycopy" 5 + 11 ≤ 52 := by decide +kernel
      omega
    next => cases h3
  next => cases h
end Rets
/-! String.checkIndex: nothing happens, where the index is inside -/
abbrev yJ3ci : MethodName := ⟨"jdk/internal/util/Preconditions", "checkIndex", "(IILjava/util/function/BiFunction;)I"⟩
abbrev yJ0ci : MethodName := ⟨"java/lang/String", "checkIndex", "(II)V"⟩
set_option maxRecDepth 20000 in
theorem mt_J3 (l : Launch) (x y : Int32) (f : Value) (hf : f.category = 1) (h0 : 0 ≤ x) (h1 : x < y) : Met l yJ3ci [Cond.code yJ3ci prog_29_method_11_code 3 (some .int)] { frames := 0, cells := 0, slots := 0, locals := 0 } (fun v _ => v = ([.int x, .int y, f] : List Value).toArray) (vp_Si (fun r => r = x)) 0 0 (fun _ => False) := by
  refine va_MetF (cc := prog_29_method_11_code) (maxL := 3) (ret := some .int) (by decide +kernel) rfl ?_
  intro p e s m args below meth c s₁ B hml hv
  subst hv
  have hx := B.exec
  have hb := B.bytes
  have hr := B.returns
  have hlocks := B.notSynchronized
  have hlen : (lg_sl ([.int x, .int y, f] : List Value)).length ≤ 3 := (show ∀ f : Value, f.category = 1 → (lg_sl ([.int x, .int y, f] : List Value)).length ≤ 3 from fun f hf => by cases f <;> first | exact Nat.le_refl _ | cases hf) f hf
  have hl := lv_entry ([.int x, .int y, f] : List Value) (n := 3) hlen
  rw [lg_entry_eq]
  generalize (lg_sl ([.int x, .int y, f] : List Value) ++ List.replicate (3 - (lg_sl ([.int x, .int y, f] : List Value)).length) Slot.unset).toArray = la at hl ⊢
  have hl : lv_has la 3 [(0, .int x), (1, .int y), (2, f)] := hl
  have d0 : decode prog_29_method_11_code 0 = .ok (.iload_n 0, 1) := by decide +kernel
  have d1 : decode prog_29_method_11_code 1 = .ok (.ifCond .lt 8, 3) := by decide +kernel
  have d4 : decode prog_29_method_11_code 4 = .ok (.iload_n 0, 1) := by decide +kernel
  have d5 : decode prog_29_method_11_code 5 = .ok (.iload_n 1, 1) := by decide +kernel
  have d6 : decode prog_29_method_11_code 6 = .ok (.if_icmp .lt 10, 3) := by decide +kernel
  have d16 : decode prog_29_method_11_code 16 = .ok (.iload_n 0, 1) := by decide +kernel
  have d17 : decode prog_29_method_11_code 17 = .ok (.ireturn, 1) := by decide +kernel
  refine lv_iload_n hx hb d0 rfl (lv_at hl 0 rfl) ?_
  refine lv_if_lt (tgt := 9) hx hb d1 (by decide) (fun z => absurd h0 (by rw [Int32.not_le]; exact z)) (fun _ => ?_)
  refine lv_iload_n hx hb d4 rfl (lv_at hl 0 rfl) ?_
  refine lv_iload_n hx hb d5 rfl (lv_at hl 1 rfl) ?_
  refine lv_icmp_lt (tgt := 16) hx hb d6 (by decide) (fun _ => ?_) (fun z => absurd h1 z)
  refine lv_iload_n hx hb d16 rfl (lv_at hl 0 rfl) ?_
  exact W.iret hx hb hr (fun t ht _ => ⟨x, rfl, rfl, ht⟩) (fun q h => absurd h List.not_mem_nil) d17
set_option maxRecDepth 20000 in
theorem mt_J0 {l : Launch} {D : va_G} {kA : Nat → ClassId} {ad : Nat → Nat} {base : Nat} {x y : Int32} {σ : Mm} (h0 : 0 ≤ x) (h1 : x < y) : MetY l D kA ad base yJ0ci (Cond.code yJ0ci prog_21_method_155_code 2 none :: lw_g) 1 22 [.int x, .int y] σ (none, σ) := by
  intro sz hb1 hb2
  dsimp only
  rw [Nat.sub_self, Nat.sub_self]
  refine va_MetF (cc := prog_21_method_155_code) (maxL := 2) (ret := none) (by decide +kernel) rfl ?_
  intro p e s m args below meth c s₁ B hml hv
  obtain ⟨rfl, hsz, hK, hP, hD, hSp⟩ := hv
  have hx := B.exec
  have hb := B.bytes
  have hr := B.returns
  have hlocks := B.notSynchronized
  have hown : s.vm.findClass "java/lang/String" = some m.cls := findClass_of_methodNamed B.named
  have hts := atoms_spec (ws := Cond.code yJ0ci prog_21_method_155_code 2 none :: lw_g) B.pre
  have hgd : ∀ w : Cond, w ∈ lw_tbl → goodWord w = true → w.before (([.int x, .int y] : List Value).map (vmv ad)).toArray s = true := fun w h g => hts w (List.mem_cons_of_mem _ (List.mem_filter.mpr ⟨h, g⟩))
  have hl := lv_entry ([.int x, .int y] : List Value) (n := 2) (Nat.le_refl _)
  show W p l e _ s m _ below meth c s.heap [] 0 0 _ (entryFrame m ([.int x, .int y] : List Value).toArray 2)
  rw [lg_entry_eq]
  generalize (lg_sl ([.int x, .int y] : List Value) ++ List.replicate (2 - (lg_sl ([.int x, .int y] : List Value)).length) Slot.unset).toArray = la at hl ⊢
  have hl : lv_has la 2 [(0, .int x), (1, .int y)] := hl
  have d0 : decode prog_21_method_155_code 0 = .ok (.iload_n 0, 1) := by decide +kernel
  have d1 : decode prog_21_method_155_code 1 = .ok (.iload_n 1, 1) := by decide +kernel
  have d2 : decode prog_21_method_155_code 2 = .ok (.getstatic 1053, 3) := by decide +kernel
  have d5 : decode prog_21_method_155_code 5 = .ok (.invokestatic 1059, 3) := by decide +kernel
  have d8 : decode prog_21_method_155_code 8 = .ok (.pop, 1) := by decide +kernel
  have d9 : decode prog_21_method_155_code 9 = .ok (.return_, 1) := by decide +kernel
  have w1 : Cond.fieldLink "java/lang/String" 1053 "jdk/internal/util/Preconditions" "SIOOBE_FORMATTER" "Ljava/util/function/BiFunction;" ∈ lw_tbl := tb_at 2 39 rfl
  have w2 : Cond.methodLink "java/lang/String" 1059 yJ3ci ∈ lw_tbl := tb_at 2 41 rfl
  have w3 : Cond.static yJ3ci ∈ lw_tbl := tb_at 2 42 rfl
  have w4 : Cond.code yJ3ci prog_29_method_11_code 3 (some .int) ∈ lw_tbl := tb_at 2 43 rfl
  have w5 : Cond.initialized "jdk/internal/util/Preconditions" ∈ lw_tbl := tb_at 0 14 rfl
  refine lv_iload_n hx hb d0 rfl (lv_at hl 0 rfl) ?_
  refine lv_iload_n hx hb d1 rfl (lv_at hl 1 rfl) ?_
  have go : ∀ f : Value, f.category = 1 → W p l e (headSpec (Cond.code yJ0ci prog_21_method_155_code 2 none :: lw_g) { frames := 1, cells := 0, slots := 0, locals := 22 }).room s m (([.int x, .int y] : List Value).map (vmv ad)).toArray below meth c s.heap [] 0 0 (MQ below (QcJ D kA ad σ (none, σ) sz) (([.int x, .int y] : List Value).map (vmv ad)).toArray s 0 0 (va_A (wsO kA ad σ) sz)) (F0 m 5 la [f, .int y, .int x]) := by
    intro f hf
    have hrun := va_runS (p := p) (l := l) (e := e) (R := (headSpec (Cond.code yJ0ci prog_21_method_155_code 2 none :: lw_g) { frames := 1, cells := 0, slots := 0, locals := 22 }).room) (s := s) (m := m) (args := (([.int x, .int y] : List Value).map (vmv ad)).toArray) (below := below) (meth := meth) (c := c) (H := s.heap) (locs := []) (cells := 0) (slots := 0) (Ts := []) (own := "java/lang/String") (As := [.int x, .int y, f]) (rest := []) (n := 3) (bytes := prog_29_method_11_code) (maxL := 3) (ret := some .int) (index := 1059) (g := F0 m 5 la [f, .int y, .int x]) ⟨hx, hb, hml, hown, fun _ h => absurd h List.not_mem_nil⟩ (mt_J3 l x y f hf h0 h1) ⟨⟨rfl, rfl, Nat.le_refl _, Nat.le_refl _, fun w hw a' U hW => by
        rw [List.mem_singleton.mp hw]
        exact word_at hW (good_of_word rfl) (hgd _ w4 rfl), List.mem_singleton.mpr rfl, hgd _ w4 rfl, hgd _ w5 rfl, ⟨by decide, by decide⟩, fun sig h => by
        have h2 : (parseMethodDescriptor yJ3ci.desc).map (fun d => d.parameters.length) = some 3 := by decide +kernel
        rw [h] at h2
        exact (Option.some.inj h2).symm, hgd _ w2 rfl⟩, hgd _ w3 rfl⟩ ⟨fun _ _ _ _ q => q, fun _ _ _ => rfl⟩ rfl rfl hl.1 rfl (lv_room (Nat.zero_le _)) d5 ⟨Nat.le_refl _, Nat.le_refl _⟩
    intro T hT X
    obtain ⟨v, st₀, t, T', L, q0, X', hL, e1, e2, ⟨r, q1, q2, q3⟩, st⟩ := hrun T hT X
    have hv : v = some (.int r) := by injection q1
    subst hv
    have hh : T'.heap = s.heap := by rw [e1, q3, q0]
    have k1 : W p l e (headSpec (Cond.code yJ0ci prog_21_method_155_code 2 none :: lw_g) { frames := 1, cells := 0, slots := 0, locals := 22 }).room s m (([.int x, .int y] : List Value).map (vmv ad)).toArray below meth c s.heap ([] ++ L) 0 0 (MQ below (QcJ D kA ad σ (none, σ) sz) (([.int x, .int y] : List Value).map (vmv ad)).toArray s 0 0 (va_A (wsO kA ad σ) sz)) (F0 m 8 la [.int r]) := by
      refine lv_pop hx hb d8 rfl ?_
      refine W.vret hx hb hr (fun u hu _ => ⟨rfl, by rw [hu]; exact hP, hD.self, by rw [hu]; exact Nat.le_refl _, fun q _ _ => by rw [hu]⟩) (fun q hq => ?_) d9
      rcases List.mem_append.mp hq with z | z
      · exact absurd z List.not_mem_nil
      · exact absurd (hL q z) id
    obtain ⟨t2, a1, b1⟩ := k1 T' hh X'
    exact ⟨t2, st t2 a1, b1⟩
  rcases hSp.2.2.2.2.2.2.2.2.2.2.2.2.1 with hZ | ⟨t, hZ⟩
  · exact va_gets hx hb hZ va_S.rf hown (hgd _ w1 rfl) (fun _ h => h) d2 (go .null rfl)
  · exact va_gets hx hb hZ va_S.rf hown (hgd _ w1 rfl) (fun _ h => h) d2 (go (.ref t) rfl)
section Chk
variable {p : Program} {l : Launch} {e : Env} {R : Room} {s : State} {m : MethodId} {args : Array Value} {below : List Frame} {meth : Method} {c : Code} {D : va_G} {kA : Nat → ClassId} {ad : Nat → Nat} {A : Nat → Prop} {M : Nat} {w : Option Value × Mm} {u0 : Nat × Nat} {Q : State → Prop} {pc : Nat} {ls st : List Value} {σ : Mm} {k : Nat → List Value → List Value → Mm → Rs}
theorem o_chk (cx : Cx p l e R s m args below meth c M) (hk : ∀ pc2 ls2 st2 σ2, k pc2 ls2 st2 σ2 = some w → Gd p l e R s m args below meth c D kA ad A w u0 Q pc2 ls2 st2 σ2) {call : Nat → List Value → Mm → Rs} {idx j n : Nat} (hB : Bs s ad u0) (hR1 : (mU w.2).1 ≤ u0.1 + R.cells) (hR2 : (mU w.2).2.1 ≤ u0.2 + R.slots) (hd : decode (cM M) pc = .ok (.invokestatic idx, 3)) (hc : callT (oM M) idx = some (6, j, n)) (hfr : 4 ≤ frM M) (hlo : 120 ≤ loM M) (h : p_chk M pc ls st σ k call = some w) : Gd p l e R s m args below meth c D kA ad A w u0 Q pc ls st σ := by
  obtain ⟨x, y, r, rfl, h3⟩ := s_ii_spec h
  obtain ⟨⟨⟨hr4, hlen⟩, h0, h1⟩, h3⟩ := if_spec h3
  obtain ⟨hm, hg⟩ := hk _ _ _ _ h3
  obtain ⟨ho, rfl⟩ := f_chk hc
  have w1 : Cond.methodLink "java/lang/StringLatin1" 9 yJ0ci ∈ lw_tbl := tb_at 2 36 rfl
  have w2 : Cond.static yJ0ci ∈ lw_tbl := tb_at 2 37 rfl
  have w3 : Cond.code yJ0ci prog_21_method_155_code 2 none ∈ lw_tbl := tb_at 2 38 rfl
  have w4 : Cond.initialized "java/lang/String" ∈ lw_tbl := tb_at 0 12 rfl
  have hown : s.vm.findClass "java/lang/StringLatin1" = some m.cls := by
    have := cx.2.2.2.1
    rw [ho] at this
    exact this
  have g1 := cx.2.2.2.2.2.2.1
  have g2 := cx.2.2.2.2.2.2.2
  refine ⟨hm, fun H locs la hw hl a b => ?_⟩
  intro T hT X
  have hz : H.size ≤ s.heap.size + ((mU σ).1 - u0.1) := hT ▸ X.heapSize
  have hMt := Mfree (l := l) hB a hw hz (fun base _ => mt_J0 (base := base) h0 h1)
  have m1 := hm.1
  have m2 := hm.2.1
  dsimp only at hMt
  rw [Nat.sub_self, Nat.sub_self] at hMt
  have hrun := va_runS (p := p) (l := l) (e := e) (R := R) (s := s) (m := m) (args := args) (below := below) (meth := meth) (c := c) (H := H) (locs := locs) (cells := (mU σ).1 - u0.1) (slots := (mU σ).2.1 - u0.2) (Ts := []) (own := "java/lang/StringLatin1") (As := [.int x, .int y]) (rest := r.map (vmv ad)) (n := 2) (bytes := prog_21_method_155_code) (maxL := 2) (ret := none) (index := 9) (g := F0 m pc la ((Value.int y :: .int x :: r).map (vmv ad))) ⟨cx.1, cx.2.1, cx.2.2.1, hown, fun _ h => absurd h List.not_mem_nil⟩ hMt ⟨⟨rfl, rfl, by show 1 + 1 ≤ R.frames; omega, by show 8 + (2 + 11) + 22 ≤ R.locals; omega, fun w hw a' U hW => by
      rcases List.mem_cons.mp hw with rfl | hw
      · exact word_at hW (good_of_word rfl) (cx_hts cx w3 rfl)
      · obtain ⟨z1, z2⟩ := List.mem_filter.mp hw
        exact word_at hW (good_of_word z2) (cx_hts cx z1 z2), List.mem_cons_self, cx_hts cx w3 rfl, cx_hts cx w4 rfl, ⟨by decide, by decide⟩, fun sig h => by
      have h2 : (parseMethodDescriptor yJ0ci.desc).map (fun d => d.parameters.length) = some 2 := by decide +kernel
      rw [h] at h2
      exact (Option.some.inj h2).symm, cx_hts cx w1 rfl⟩, cx_hts cx w2 rfl⟩ ⟨pc_blind, fun U hU hW => pc_pre hw [.int x, .int y] U hU hW⟩ rfl rfl (hl.1.trans hlen) rfl (lv_room4 hr4) hd ⟨by omega, by omega⟩
  exact W_call (w1 := (none, σ)) hw rfl hrun (fun H1 locs1 hw1 => hg H1 locs1 la hw1 hl a b) T hT X
end Chk
