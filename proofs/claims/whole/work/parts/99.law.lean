/-! THE CLAIM OUT OF ONE WALK OF THE LAW'S BODY. Your part is whole_start (and what it stands on); all else here is the same for every law, but numbers. -/
def R_law : String := "BellPullsLaw"
def lw_P (b : Addr) (xs : List Int32) (args : Array Value) (s : State) : Prop := args = #[.ref b] ∧ s.IntsAt b xs ∧ xs.length ≤ 3072 ∧ (Jvm.Cond.and given_1 narrow_1).before args s = true
def lw_Q (_ : Array Value) (s : State) (o : Outcome) (t : State) : Prop := o = .returned (some (.int 1)) ∧ Framed s o t [] 1126 16323
def lw_Z (below : List Frame) (a : Array Value) (s : State) : State → Prop := fun t => ∃ o, t.status = .running ∧ Ended t below o ∧ lw_Q a s o t
/-- the law's own end, with 1 on the stack, nothing written that was there before, its room as the claim has it -/
theorem lw_ret {p : Program} {l : Launch} {e : Env} {s : State} {m : MethodId} {below : List Frame} {meth : Method} {c : Code} {b : Nat} (hx : p.tables.exec = Jvm.exec) (hb : c.code = code) (hr : meth.sig.returnType = ret) (hlocks : meth.locks = false) {pc : Nat} {H : Heap} {ls : Array Slot} (hdg : decode code pc = .ok (.ireturn, 1)) : W p l e room_1 s m #[Value.ref b] below meth c H [] 1126 16323 (lw_Z below #[Value.ref b] s) (F0 m pc ls [.int 1]) := by
  intro T hT X
  obtain ⟨fs, hret, hrun, hended, hW, hframe⟩ := X.leave (v := some (.int 1)) (hlocks := hlocks) (fun h => by rw [hr] at h; cases h)
  have hmeth' : T.vm.method? m = some meth := X.method'
  refine ⟨T.setFrames fs, ?_, .returned (some (.int 1)), hrun, hended, rfl, ⟨_, rfl⟩, hW, hframe⟩
  jvm_step X.here [X.here.top, hx, hb, hdg, hmeth', hr, ret, narrow_b1]
  (try refine ⟨rfl, ?_⟩); (try refine ⟨rfl, ?_⟩)
  first | (intro acts; rw [hret _ acts rfl rfl rfl]) | rw [hret _ _ rfl rfl rfl]
  exact Steps.refl _
/-- what holds at the law's entry: the machine, the code, the tables' words (any of lw_tbl by 'hts w (by decide +kernel)'), the script of L ints xs at the cell b, what the Statement gives of the start (any of its parts by flat_of_before) -/
def lw_At (p : Program) (s : State) (m : MethodId) (meth : Method) (c : Code) (b L : Nat) (xs : Nat → Int32) : Prop :=
  p.tables.exec = Jvm.exec ∧ c.code = code ∧ meth.sig.returnType = ret ∧ c.maxLocals = 7 ∧ s.vm.findClass R_law = some m.cls ∧ (∀ w ∈ lw_tbl, w.before #[Value.ref b] s = true) ∧ va_X b L xs s s.heap ∧ b < s.heap.size ∧ meth.locks = false ∧ (Jvm.Cond.and given_1 narrow_1).before #[Value.ref b] s = true
/-! the start: an empty memory, the script beside it -/
def σ0 (L : Nat) (xs : Nat → Int32) : Mm := (fun _ _ => 0, fun _ _ => 0, fun _ _ => none, [], (0, 0, 0), (L, xs))
/-- THE LAW over the small machine -/
theorem law_run (L : Nat) (xs : Nat → Int32) (hL : L ≤ 3072) : ∃ (n : Nat) (σ : Mm), run n mL_law 0 (padL 7 [.ref 2000000]) [] (σ0 L xs) = some (some (.int 1), σ) ∧ (mU σ).1 ≤ 1126 ∧ (mU σ).2.1 ≤ 16323 := by
  obtain ⟨σ, ⟨n, h⟩, q⟩ := law_go (L := L) (xs := xs) (σ0 := σ0 L xs) hL ⟨rfl, rfl, rfl, fun _ _ => rfl, fun _ _ => rfl, fun _ _ => rfl, fun q hq => absurd hq List.not_mem_nil, fun q hq => absurd hq List.not_mem_nil⟩
  exact ⟨n, σ, h, q⟩
theorem hgv_el : ∀ i, i < 2 → ∀ j, j < ([126, 10] : List Nat).getD i 0 → Cond.eq (.elem (.field (.string "BellPulls$Reader" (([90, 101] : List Nat).getD i 0)) "java/lang/String" "value" "[B") (.int (Int32.ofNat j))) (.int ((([sb_0, sb_1] : List (List Int32)).getD i []).getD j 0)) ∈ flatC (Jvm.Cond.and given_1 narrow_1) := by decide +kernel
theorem hgv_st : ∀ i, i < 2 → Cond.exactly (.string "BellPulls$Reader" (([90, 101] : List Nat).getD i 0)) "java/lang/String" ∈ flatC (Jvm.Cond.and given_1 narrow_1) ∧ Cond.eq (.field (.string "BellPulls$Reader" (([90, 101] : List Nat).getD i 0)) "java/lang/String" "coder" "B") (.int 0) ∈ flatC (Jvm.Cond.and given_1 narrow_1) ∧ Cond.arrayOf (.field (.string "BellPulls$Reader" (([90, 101] : List Nat).getD i 0)) "java/lang/String" "value" "[B") .byte ∈ flatC (Jvm.Cond.and given_1 narrow_1) ∧ Cond.eq (.length (.field (.string "BellPulls$Reader" (([90, 101] : List Nat).getD i 0)) "java/lang/String" "value" "[B")) (.int (Int32.ofNat (([126, 10] : List Nat).getD i 0))) ∈ flatC (Jvm.Cond.and given_1 narrow_1) := by decide +kernel
theorem hgv_m : Cond.exactly (.string "BellPulls" 125) "java/lang/String" ∈ flatC (Jvm.Cond.and given_1 narrow_1) ∧ Cond.exactly (.string "BellPulls" 145) "java/lang/String" ∈ flatC (Jvm.Cond.and given_1 narrow_1) ∧ Cond.not (.eq (.string "BellPulls$Reader" 90) (.string "BellPulls$Reader" 101)) ∈ flatC (Jvm.Cond.and given_1 narrow_1) ∧ Cond.eq (.static "java/lang/String" "COMPACT_STRINGS" "Z") (.int 1) ∈ flatC (Jvm.Cond.and given_1 narrow_1) ∧ Cond.isRef (.static "jdk/internal/util/Preconditions" "SIOOBE_FORMATTER" "Ljava/util/function/BiFunction;") ∈ flatC (Jvm.Cond.and given_1 narrow_1) ∧ Cond.isRef (.static "java/lang/Throwable" "UNASSIGNED_STACK" "[Ljava/lang/StackTraceElement;") ∈ flatC (Jvm.Cond.and given_1 narrow_1) ∧ Cond.isRef (.static "java/lang/Throwable" "SUPPRESSED_SENTINEL" "Ljava/util/List;") ∈ flatC (Jvm.Cond.and given_1 narrow_1) ∧ Cond.not (.castable "java/util/NoSuchElementException" "java/lang/IndexOutOfBoundsException") ∈ flatC (Jvm.Cond.and given_1 narrow_1) := by decide +kernel
theorem w_st : Cond.stringRef "BellPulls$Reader" 90 tx_0 ∈ lw_tbl ∧ Cond.stringRef "BellPulls$Reader" 101 tx_1 ∈ lw_tbl ∧ Cond.stringRef "BellPulls" 125 "no such lamp" ∈ lw_tbl ∧ Cond.stringRef "BellPulls" 145 "no such what" ∈ lw_tbl := ⟨tb_at 2 14 rfl, tb_at 2 75 rfl, tb_at 5 18 rfl, tb_at 5 53 rfl⟩
theorem w_in : ∀ c, c < 10 → Cond.instantiable (Rn c) (nF c) ∈ lw_tbl := by decide +kernel
theorem w_lay : Cond.laysStatic "java/lang/String" "COMPACT_STRINGS" "Z" ∈ lw_tbl ∧ Cond.laysStatic "jdk/internal/util/Preconditions" "SIOOBE_FORMATTER" "Ljava/util/function/BiFunction;" ∈ lw_tbl ∧ Cond.laysStatic "java/lang/Throwable" "UNASSIGNED_STACK" "[Ljava/lang/StackTraceElement;" ∈ lw_tbl ∧ Cond.laysStatic "java/lang/Throwable" "SUPPRESSED_SENTINEL" "Ljava/util/List;" ∈ lw_tbl := ⟨tb_at 2 24 rfl, tb_at 2 40 rfl, tb_at 5 5 rfl, tb_at 5 7 rfl⟩
theorem w_ini : Cond.initialized "java/lang/String" ∈ lw_tbl ∧ Cond.initialized "jdk/internal/util/Preconditions" ∈ lw_tbl ∧ Cond.initialized "java/lang/Throwable" ∈ lw_tbl := by decide +kernel
theorem arr_known {args : Array Value} {s : State} {ty : FieldType} (hp : ∀ C, ty ≠ .object C) (h : (Cond.arrayClass ty).before args s = true) : ∃ cA : ClassId, ArrOfT s cA ty ∧ va_RA s cA ty := by
  obtain ⟨c, k, comp, h1, h2, h3⟩ := Cond.arrayClass_spec h
  refine ⟨c, fun n z => ⟨(fun k h => by cases h), k, h2, comp, h3⟩, ?_⟩
  cases ty with
  | object C => exact absurd rfl (hp C)
  | _ => exact h1
set_option maxHeartbeats 4000000 in
theorem whole_start {p : Program} {e : Env} {s : State} {m : MethodId} {below : List Frame} {meth : Method} {c : Code} (l : Launch) (hst : l.stackTraces = false) {b L : Nat} {xs : Nat → Int32} (hL : L ≤ 3072) (C0 : lw_At p s m meth c b L xs) : W p l e room_1 s m #[Value.ref b] below meth c s.heap [] 0 0 (lw_Z below #[Value.ref b] s) (entryFrame m ([Value.ref b] : List Value).toArray 7) := by
  obtain ⟨hx, hb, hr, hml, hown, hts, hX, hbl, hlocks, hgv⟩ := id C0
  have hfl := flat_of_before _ hgv
  have hA : ∀ a : Nat, a < s.heap.size → ¬ (fun q : Nat => s.heap.size ≤ q) a := fun a h z => absurd h (Nat.not_lt.mpr z)
  -- the strings
  obtain ⟨adK, adV, hS0, hev⟩ := vk_Sof (args := #[Value.ref b]) (s := s) (N := 2) (tm := fun i => .string "BellPulls$Reader" (([90, 101] : List Nat).getD i 0)) (len := [126, 10]) (byt := [sb_0, sb_1]) (A := fun q : Nat => s.heap.size ≤ q) (by decide) (fun i hi => hfl _ (hgv_st i hi).1) (fun i hi => hfl _ (hgv_st i hi).2.1) (fun i hi => hfl _ (hgv_st i hi).2.2.1) (fun i hi => hfl _ (hgv_st i hi).2.2.2) (fun i hi j hj => hfl _ (hgv_el i hi j hj)) (fun i j hi hj hij => by
      rcases (show (i = 0 ∧ j = 1) ∨ (i = 1 ∧ j = 0) by omega) with ⟨rfl, rfl⟩ | ⟨rfl, rfl⟩
      · exact Or.inl (hfl _ hgv_m.2.2.1)
      · exact Or.inr (hfl _ hgv_m.2.2.1)) hA
  obtain ⟨a1, -, -, -, q1, -⟩ := Cond.exactly_spec (args := #[Value.ref b]) (first := s) (o := none) (s := s) (idx := []) (hfl _ hgv_m.1)
  obtain ⟨a2, -, -, -, q2, -⟩ := Cond.exactly_spec (args := #[Value.ref b]) (first := s) (o := none) (s := s) (idx := []) (hfl _ hgv_m.2.1)
  -- the addresses
  obtain ⟨ad, had⟩ : ∃ ad : Nat → Nat, ad = fun a => if a < 1000000 then s.heap.size + a else if a = 2000000 then b else if a = 1000000 then adK 0 else if a = 1000001 then adK 1 else if a = 1000010 then adV 0 else if a = 1000011 then adV 1 else if a = 1000002 then a1 else a2 := ⟨_, rfl⟩
  have e0 : ad 2000000 = b := by rw [had]; rfl
  have e1 : ad 1000000 = adK 0 := by rw [had]; rfl
  have e2 : ad 1000001 = adK 1 := by rw [had]; rfl
  have e3 : ad 1000010 = adV 0 := by rw [had]; rfl
  have e4 : ad 1000011 = adV 1 := by rw [had]; rfl
  have e5 : ad 1000002 = a1 := by rw [had]; rfl
  have e6 : ad 1000003 = a2 := by rw [had]; rfl
  have hlow : ∀ a : Nat, a < 1000000 → ad a = s.heap.size + a := fun a h => by rw [had]; exact if_pos h
  -- the classes
  have hkn : ∀ i : Nat, ∃ q : ClassId × (Nat → Nat), i < 10 → u_Kn s (Rn i) (clC i).2.1 (nF i) q.1 q.2 := by
    intro i
    by_cases hi : i < 10
    · obtain ⟨cC, iS, h⟩ := u_known (ws := lw_tbl) (C := Rn i) (T := (clC i).2.1) (N := nF i) (n := nF i) hts (f_cls hi).2.1 (hts _ (w_in i hi))
      exact ⟨(cC, iS), fun _ => h⟩
    · exact ⟨(0, fun _ => 0), fun h => absurd h hi⟩
  obtain ⟨dd, hdd⟩ := Classical.axiomOfChoice hkn
  obtain ⟨k0, r0⟩ := arr_known (fun C z => by cases z) (hts (Cond.arrayClass .byte) (tb_at 0 136 rfl))
  obtain ⟨k1, r1⟩ := arr_known (fun C z => by cases z) (hts (Cond.arrayClass .int) (tb_at 0 137 rfl))
  obtain ⟨k2, r2⟩ := arr_known (fun C z => by cases z) (hts (Cond.arrayClass .long) (tb_at 1 45 rfl))
  obtain ⟨k3, r3⟩ := arr_known (fun C z => by cases z) (hts (Cond.arrayClass .boolean) (tb_at 1 133 rfl))
  have hK : va_K (fun i => (dd i).1, fun i => (dd i).2) vwCl (tysO (fun k => if k = 10 then k0 else if k = 11 then k1 else if k = 12 then k2 else k3)) s := by
    refine ⟨fun i q hq => ?_, fun i q hq => ?_⟩
    · have hi : i < 10 := (List.getElem?_eq_some_iff.mp hq).1
      rw [(f_cls hi).1] at hq
      cases hq
      exact hdd i hi
    · match i, hq with
      | 0, hq => cases hq; exact r0
      | 1, hq => cases hq; exact r1
      | 2, hq => cases hq; exact r2
      | 3, hq => cases hq; exact r3
      | i + 4, hq => cases hq
  have hSp : Sp ad (L, xs) (fun q : Nat => s.heap.size ≤ q) s := by
    refine ⟨by rw [e0]; exact hX, by rw [e0]; exact hbl, by rw [e0]; exact hA _ hbl, ?_, va_Zof (hts _ w_lay.1) (hts _ w_ini.1) (va_eqt (hfl _ hgv_m.2.2.2.1)) hA, ?_, ?_, ?_⟩
    · refine ⟨fun i hi => ?_, fun i j hi hj hij => ?_⟩
      · rcases (show i = 0 ∨ i = 1 by omega) with rfl | rfl
        · have := hS0.1 0 (by decide)
          rw [← e1, ← e3] at this
          exact this
        · have := hS0.1 1 (by decide)
          rw [← e2, ← e4] at this
          exact this
      · refine hS0.2 i j hi hj ?_
        rcases (show i = 0 ∨ i = 1 by omega) with rfl | rfl <;> rcases (show j = 0 ∨ j = 1 by omega) with rfl | rfl
        · rfl
        · rw [← e1, ← e2]; exact hij
        · rw [← e1, ← e2]; exact hij
        · rfl
    · rw [e1]; exact vk_R.of (hts _ w_st.1) (hev 0 (by decide))
    · rw [e2]; exact vk_R.of (hts _ w_st.2.1) (hev 1 (by decide))
    · refine ⟨fun a i x h hz => va_Nw.of rfl (hts _ hz), fun x hz => va_Nw.of rfl (hts _ hz), fun C T hz => va_Nw.of rfl (hts _ hz), ?_, ?_, va_Zqof (hts _ w_lay.2.1) (hts _ w_ini.2.1) (hfl _ hgv_m.2.2.2.2.1) hA, vx_Zqof (hts _ w_lay.2.2.1) (hts _ w_ini.2.2) (hfl _ hgv_m.2.2.2.2.2.1) hA, vx_Zqof (hts _ w_lay.2.2.2) (hts _ w_ini.2.2) (hfl _ hgv_m.2.2.2.2.2.2.1) hA, va_Nc.of (hfl _ hgv_m.2.2.2.2.2.2.2)⟩
      · rw [e5]; exact vk_R.of (hts _ w_st.2.2.1) q1
      · rw [e6]; exact vk_R.of (hts _ w_st.2.2.2) q2
  obtain ⟨n, σ, hrun, hc1, hc2⟩ := law_run L xs hL
  have hsn := run_snd l hst (fun i => (dd i).1, fun i => (dd i).2) (fun k => if k = 10 then k0 else if k = 11 then k1 else if k = 12 then k2 else k3) ad n _ _ _ _ _ _ hrun
  have hwo : Wo (fun i => (dd i).1, fun i => (dd i).2) (fun k => if k = 10 then k0 else if k = 11 then k1 else if k = 12 then k2 else k3) ad (fun q : Nat => s.heap.size ≤ q) s s.heap [] (σ0 L xs) := ⟨hK, (fun k q h => absurd h (by simp [wsO, σ0, mKs])), ⟨(fun i j p q h => absurd h (by simp [wsO, σ0, mKs])), (fun k q h => absurd h (by simp [wsO, σ0, mKs]))⟩, va_S.rf, hSp, fun q h => h⟩
  have cx : Cx p l e room_1 s m #[Value.ref b] below meth c mL_law := ⟨hx, hb, hml, hown, ⟨fun h => absurd h (by decide +kernel), hst⟩, fun w h _ => hts w h, by decide +kernel, by decide +kernel⟩
  have hl0 := lR_entry ad (as := [.ref 2000000]) (n := 7) rfl (by decide)
  have hg := (hsn p e room_1 s m #[Value.ref b] below meth c (fun q : Nat => s.heap.size ≤ q) (0, 0) (lw_Z below #[Value.ref b] s) cx ⟨s.heap.size, Nat.le_refl _, Nat.le_refl _, hlow⟩ (by show (mU σ).1 ≤ 0 + 1126; omega) (by show (mU σ).2.1 ≤ 0 + 16323; omega) (fun H locs la pc hw hra => ?_)).2 s.heap [] _ hwo hl0 (Nat.le_refl _) (Nat.le_refl _)
  · have e7 : ([.ref 2000000] : List Value).map (vmv ad) = [.ref b] := by
      show [Value.ref (ad 2000000)] = _
      rw [e0]
    rw [e7] at hg
    rw [lg_entry_eq]
    exact hg
  · refine va_forget hw.2.2.2.1.2.2 ?_
    refine W.widen (k := 1126) (n := 16323) (by dsimp only; omega) (by dsimp only; omega) ?_
    exact lw_ret hx hb hr hlocks hra.1
set_option maxHeartbeats 4000000 in
theorem lw_walk (l : Launch) (hst : l.stackTraces = false) (b : Addr) (xs : List Int32) : MetFree l x (headSpec (Jvm.Cond.code x code maxLocals ret :: tables_1) room_1) (lw_P b xs) (fun _ _ _ _ _ => True) lw_Q := by
  refine MetFree.of_bodyS (code := code) (maxLocals := maxLocals) (ret := ret) (by decide) ?_ ?_
  · intro args s m h hn
    obtain ⟨meth, c, h1, h2, h3, h4, h5, h6, -, -⟩ := Cond.code_spec hn (atoms_spec (ws := Jvm.Cond.code x code maxLocals ret :: tables_1) h _ List.mem_cons_self)
    exact ⟨meth, c, h1, h2, h3, h4, h5, h6⟩
  · intro p e s m args below meth c s₁ B hml0 hP _
    obtain ⟨rfl, hx, hbd, hgv⟩ := hP
    obtain ⟨scr, harrAt, hlist, hof, hsmall⟩ := hx
    obtain ⟨hcb, hkn, -, -⟩ := State.arrayAt?_spec harrAt
    have hown : s.vm.findClass R_law = some m.cls := findClass_of_methodNamed B.named
    have hts0 : ∀ c ∈ (Jvm.Cond.code x code maxLocals ret :: tables_1), c.before #[Value.ref b] s = true := atoms_spec (ws := Jvm.Cond.code x code maxLocals ret :: tables_1) B.pre
    have hts : ∀ w ∈ lw_tbl, w.before #[Value.ref b] s = true := k2_hts_sels lw_privs (fun w hw => hts0 w (List.mem_cons_of_mem _ hw)) lw_privs_ok
    have hml : c.maxLocals = 7 := B.maxLocals_eq (hts0 _ List.mem_cons_self)
    have X₀ : Stand p l e room_1 s m #[Value.ref b] below meth c s₁ [] 0 0 := Stand.of_body B
    have hh0 : s₁.heap = s.heap := by rw [B.state]; rfl
    have hsz : scr.slots.size = xs.length := by rw [← Array.length_toList, hlist, List.length_map]
    have hval : ∀ j : Nat, j < xs.length → scr.slots[j]? = some (.int (xs.getD j 0)) := fun j hj => by
      rw [← Array.getElem?_toList, hlist]
      simp [hj]
    have hbl : b < s.heap.size := (Array.getElem?_eq_some_iff.mp hcb).1
    have hX : va_X b xs.length (fun j => xs.getD j 0) s s.heap := ⟨scr, hcb, hof, hkn, hsz, hval⟩
    have K : W p l e room_1 s m #[Value.ref b] below meth c s₁.heap [] 0 0 (lw_Z below #[Value.ref b] s) (entryFrame m ([Value.ref b] : List Value).toArray 7) := by
      rw [hh0]
      exact whole_start l hst hbd ⟨B.exec, B.bytes, B.returns, hml, hown, hts, hX, hbl, B.notSynchronized, hgv⟩
    obtain ⟨t, a1, o, b1, b2, b3⟩ := K s₁ rfl X₀
    exact ⟨t, o, a1, b1, b2, b3⟩
theorem lw_pre_spec {args : Array Value} {s : State} (h : (Jvm.Cond.and given_1 narrow_1).before args s = true) (hr : rest_1_c.before args s = true) : ∃ (b : Addr) (xs : List Int32), lw_P b xs args s := by
  have hs := flat_of_before _ h
  have hq := flat_of_before _ hr
  have hc : (Cond.count 1).before args s = true := hs _ (by decide +kernel)
  have harr : (Cond.arrayOf (.arg 0) .int).before args s = true := hs _ (by decide +kernel)
  have hle : (Cond.le (.length (.arg 0)) (.int 3072)).before args s = true := hs _ (by decide +kernel)
  have hlen : (Cond.isInt (.length (.arg 0))).before args s = true := hq _ (by decide +kernel)
  have hall : (Cond.all (.arg 0) (.isInt (.elem (.arg 0) (.index 0)))).before args s = true := hq _ (by decide +kernel)
  obtain ⟨b, xs, hb, hx⟩ := State.ints_of_pre rfl harr hlen hall
  have hsm : xs.length < 2 ^ 31 := hx.choose_spec.2.2.2
  have hev : (Term.length (.arg 0)).eval args s none [] s = some (.int xs.length.toInt32) := hx.length_eval hb
  have hv := Cond.le_ints hev (show (Term.int 3072).eval args s none [] s = some (.int 3072) from rfl)
  have hd : xs.length.toInt32 ≤ 3072 := by
    simpa [Cond.before, Cond.holds, hv] using hle
  have hN : xs.length ≤ 3072 := (Int32.ofNat_le_ofNat hsm (by decide)).mp (show Int32.ofNat xs.length ≤ Int32.ofNat 3072 from hd)
  exact ⟨b, xs, Cond.one_arg hc (show args[0]? = some (.ref b) from hb), hx, hN, h⟩
theorem lw_comes (l : Launch) (hst : l.stackTraces = false) : Comes l x (Jvm.Cond.code x code maxLocals ret :: tables_1) room_1 (fun tb e args s => Calls_1 tb e args s ∧ rest_1 tb e args s ∧ Pre_1 tb e args s)
    (fun _ _ args s o t => lw_Q args s o t) := by
  intro p e ha hc hk s m args below hf hfit hheap happ hpre
  obtain ⟨b, xs, hP⟩ := lw_pre_spec hpre.2.2 hpre.2.1
  obtain ⟨k, o, h1, h2, h3, hQ⟩ := lw_walk l hst b xs p e ha hc hk s m args below hf ((Spec.applies_iff_loose hf).mp happ).1 hP trivial
  exact ⟨k, o, h1, h2, h3, hQ⟩
theorem lw_frame {s t : State} {o : Outcome} {args : Array Value} (h : Framed s o t [] 1126 16323) :
    Framed s o t (fieldLocs frame_1_writes args s ++ arrayLocs frame_1_arrays args s ++ staticLocs frame_1_statics s) 1126 16323 := h
theorem lw_limb (L : Cond) (hL : ∀ (args : Array Value) (s t : State), L.after args s (.returned (some (.int 1))) t = true) :
    ArmFor flags0 classFile x code maxLocals ret World_1 tables_1 room_1 Calls_1 rest_1 Pre_1
      (fun tb e a s o t => postC L tb e a s o t ∧ Framed s o t (fieldLocs frame_1_writes a s ++ arrayLocs frame_1_arrays a s ++ staticLocs frame_1_statics s) 1126 16323) := by
  intro l hfl _ _ p e ha hc hk s m args below hf hfit hheap happ hpre
  have hst : l.stackTraces = false := by unfold Launch.stackTraces; rw [hfl]; decide +kernel
  obtain ⟨k, o, h1, h2, h3, rfl, hF⟩ := lw_comes l hst p e ha hc hk s m args below hf hfit hheap happ hpre
  exact ⟨k, _, h1, h2, h3, hL args s _, lw_frame hF⟩
theorem i_vc : Claimed_1_1 ∧ Claimed_1_2 := ⟨lw_limb limb_1_1 (fun args s t => by simp [limb_1_1, Cond.after, Cond.holds, Cond.value]), lw_limb limb_1_2 (fun args s t => Cond.after_iff.mpr (by
  first | (rw [show limb_1_2 = Cond.eq .result (.int 1) from rfl, Cond.eq_ints (x := 1) (y := 1) rfl rfl]; simp; done) | (simp [limb_1_2, Cond.value, Term.eval]; done)))⟩

