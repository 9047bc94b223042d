/-! ===== calls and returns ===== -/
def lw_g : List Cond := lw_tbl.filter goodWord
def rmJ (j mc ms : Nat) : Room := { frames := frM j, cells := mc, slots := ms, locals := loM j }
def PcJ (D : va_G) (kA : Nat → ClassId) (ad : Nat → Nat) (as : List Value) (σ : Mm) (sz : Nat) : Array Value → State → Prop := fun v U => v = (as.map (vmv ad)).toArray ∧ U.heap.size = sz ∧ va_K D vwCl (tysO kA) U ∧ va_P D vwCl (wsO kA ad σ) U.heap ∧ va_D (fun _ => True) (wsO kA ad σ) ∧ Sp ad (mX σ) (va_A (wsO kA ad σ) sz) U
def QcJ (D : va_G) (kA : Nat → ClassId) (ad : Nat → Nat) (σ : Mm) (w : Option Value × Mm) (sz : Nat) : Array Value → State → Outcome → State → Prop := fun _ st o t => o = .returned (w.1.map (vmv ad)) ∧ va_P D vwCl (wsO kA ad w.2) t.heap ∧ va_D (va_A (wsO kA ad σ) sz) (wsO kA ad w.2) ∧ va_F (va_A (wsO kA ad σ) sz) st t
def MetY (l : Launch) (D : va_G) (kA : Nat → ClassId) (ad : Nat → Nat) (base : Nat) (y : MethodName) (ws : List Cond) (fr lo : Nat) (as : List Value) (σ : Mm) (w : Option Value × Mm) : Prop := ∀ sz, base ≤ sz → sz ≤ base + (mU σ).1 → Met l y ws { frames := fr, cells := (mU w.2).1 - (mU σ).1, slots := (mU w.2).2.1 - (mU σ).2.1, locals := lo } (PcJ D kA ad as σ sz) (QcJ D kA ad σ w sz) ((mU w.2).1 - (mU σ).1) ((mU w.2).2.1 - (mU σ).2.1) (va_A (wsO kA ad σ) sz)
abbrev MetJ (l : Launch) (D : va_G) (kA : Nat → ClassId) (ad : Nat → Nat) (base j : Nat) (as : List Value) (σ : Mm) (w : Option Value × Mm) : Prop := MetY l D kA ad base (yM j) (Cond.code (yM j) (cM j) (xM j) (rM j) :: lw_g) (frM j) (loM j) as σ w
/-- what is known of a callee -/
def CaOk (l : Launch) (D : va_G) (kA : Nat → ClassId) (ad : Nat → Nat) (j : Nat) (as : List Value) (σ : Mm) (w : Option Value × Mm) : Prop := okr j as σ = true ∧ le2 σ w.2 ∧ (j < 294 → j ≠ 273 → ∀ base, (∀ a : Nat, a < 1000000 → ad a = base + a) → MetJ l D kA ad base j as σ w)
theorem popN_spec : ∀ (n : Nat) (st acc as r : List Value), popN n st acc = some (as, r) → ∃ bs, as = bs ++ acc ∧ bs.length = n ∧ st = bs.reverse ++ r := by
  intro n
  induction n with
  | zero =>
    intro st acc as r h
    cases h
    exact ⟨[], rfl, rfl, rfl⟩
  | succ n ih =>
    intro st acc as r h
    cases st with
    | nil => cases h
    | cons v st =>
      obtain ⟨bs, h1, h2, h3⟩ := ih st (v :: acc) as r h
      refine ⟨bs ++ [v], ?_, ?_, ?_⟩
      · rw [h1]; simp
      · simp [h2]
      · rw [h3]; simp
theorem popN_of {n : Nat} {st as r : List Value} (h : popN n st [] = some (as, r)) : as.length = n ∧ st = as.reverse ++ r := by
  obtain ⟨bs, h1, h2, h3⟩ := popN_spec n st [] as r h
  rw [List.append_nil] at h1
  subst h1
  exact ⟨h2, h3⟩
theorem cats4 (ad : Nat → Nat) : ∀ r : List Value, ((r.map (vmv ad)).map fun v => v.category).sum ≤ 2 * r.length := by
  intro r
  induction r with
  | nil => exact Nat.le_refl 0
  | cons v r ih =>
    have : (vmv ad v).category ≤ 2 := by cases v <;> simp [vmv, Value.category]
    simp only [List.map_cons, List.sum_cons, List.length_cons]
    omega
theorem ns_ok : ∀ j, j < 294 → stM j = false → oM j < 10 ∨ oM j = 13 := by
  intro j hj hs
  have h : (List.range 294).all (fun j => stM j || decide (oM j < 10) || decide (oM j = 13)) = true := by decide +kernel
  have h2 := all_at h (List.mem_range.mpr hj)
  simp only [hs, Bool.false_or, Bool.or_eq_true, decide_eq_true_eq] at h2
  exact h2
section Calls
variable {p : Program} {l : Launch} {e : Env} {R : Room} {s : State} {m : MethodId} {args : Array Value} {below : List Frame} {meth : Method} {c : Code} {D : va_G} {kA : Nat → ClassId} {ad : Nat → Nat} {A : Nat → Prop} {M : Nat} {w : Option Value × Mm} {u0 : Nat × Nat} {Q : State → Prop} {pc : Nat} {ls st : List Value} {σ : Mm} {k : Nat → List Value → List Value → Mm → Rs}
variable {H : Heap} {locs : List Loc}
theorem pc_blind {as : List Value} {sz : Nat} : FrameBlind (PcJ D kA ad as σ sz) := by
  intro a U g mk ⟨h1, h2, h3, h4, h5, h6⟩
  exact ⟨h1, h2, va_K.moved (u := U) (U := U.calling g mk a) (Vm.Alike.refl U.vm) h3, h4, h5, h6.same rfl rfl⟩
theorem wo_sub (hw : Wo D kA ad A s H locs σ) : ∀ q, va_A (wsO kA ad σ) H.size q → A q := by
  intro q h
  rcases h with ⟨i, e, h⟩ | h
  · exact hw.2.2.1.2 i _ h
  · exact hw.2.2.2.2.2 q (Nat.le_trans hw.2.2.2.1.1 h)
theorem pc_pre (hw : Wo D kA ad A s H locs σ) (as : List Value) : ∀ U : State, U.heap = H → s.WarmedH U.vm → PcJ D kA ad as σ H.size (as.map (vmv ad)).toArray U := by
  intro U hU hW
  refine ⟨rfl, by rw [hU], va_K.moved hW.alike hw.1, by rw [hU]; exact hw.2.1, hw.2.2.1.weaken (fun _ _ _ _ => trivial), ?_⟩
  exact hw.2.2.2.2.1.call hW (by rw [hU]; exact hw.2.2.2.1.1) (fun q h1 h2 => by rw [hU]; exact hw.2.2.2.1.2.1 q h1 h2) (wo_sub hw)
/-- behind a call -/
theorem W_call {cells slots mc ms : Nat} {la : Array Slot} {st0 rest : List Value} {w1 : Option Value × Mm} {args2 : Array Value} (hw : Wo D kA ad A s H locs σ) (hX : mX w1.2 = mX σ)
    (hr : va_Run p l e R s m args below meth c H locs cells slots mc ms (F0 m pc la st0) rest (QcJ D kA ad σ w1 H.size args2) (va_A (wsO kA ad σ) H.size))
    (kk : ∀ (H1 : Heap) (locs1 : List Loc), Wo D kA ad A s H1 locs1 w1.2 → W p l e R s m args below meth c H1 locs1 (cells + mc) (slots + ms) Q (F0 m (pc + 3) la ((w1.1.map (vmv ad)).toList ++ rest))) : W p l e R s m args below meth c H locs cells slots Q (F0 m pc la st0) := by
  intro T hT X
  obtain ⟨v, st₀, t, T', L, h0, X', hL, e1, e2, ⟨ho, hP1, hD1, hF⟩, st⟩ := hr T hT X
  have hv : v = w1.1.map (vmv ad) := by injection ho
  subst hv
  obtain ⟨f1, f2⟩ := hF
  rw [h0] at f1 f2
  have hsub := wo_sub hw
  have hwo : Wo D kA ad A s T'.heap (locs ++ L) w1.2 := by
    refine ⟨hw.1, by rw [e1]; exact hP1, hD1.weaken (fun _ q _ h => hsub q.1 h), ⟨?_, fun q h1 h2 => ?_, fun q hq => ?_⟩, by rw [hX]; exact hw.2.2.2.2.1, hw.2.2.2.2.2⟩
    · rw [e1]; exact Nat.le_trans hw.2.2.2.1.1 f1
    · rw [e1, f2 q (Nat.lt_of_lt_of_le h1 hw.2.2.2.1.1) (fun z => h2 (hsub q z))]
      exact hw.2.2.2.1.2.1 q h1 h2
    · rcases List.mem_append.mp hq with h | h
      · exact hw.2.2.2.1.2.2 q h
      · exact hsub _ (hL q h)
  obtain ⟨t2, a1, b1⟩ := kk T'.heap (locs ++ L) hwo T' rfl X'
  exact ⟨t2, st t2 a1, b1⟩
theorem Mfree {y : MethodName} {ws : List Cond} {fr lo : Nat} {as : List Value} {w1 : Option Value × Mm} (hB : Bs s ad u0) (hu : u0.1 ≤ (mU σ).1) (hw : Wo D kA ad A s H locs σ) (hz : H.size ≤ s.heap.size + ((mU σ).1 - u0.1)) (hM : ∀ base, (∀ a : Nat, a < 1000000 → ad a = base + a) → MetY l D kA ad base y ws fr lo as σ w1) :
    Met l y ws { frames := fr, cells := (mU w1.2).1 - (mU σ).1, slots := (mU w1.2).2.1 - (mU σ).2.1, locals := lo } (PcJ D kA ad as σ H.size) (QcJ D kA ad σ w1 H.size) ((mU w1.2).1 - (mU σ).1) ((mU w1.2).2.1 - (mU σ).2.1) (va_A (wsO kA ad σ) H.size) := by
  obtain ⟨base, b1, b2, b3⟩ := hB
  exact hM base b3 H.size (Nat.le_trans b1 hw.2.2.2.1.1) (by omega)
theorem cx_good (cx : Cx p l e R s m args below meth c M) {j : Nat} (hj : j < 294) (hj2 : j ≠ 273) : ∀ w ∈ Cond.code (yM j) (cM j) (xM j) (rM j) :: lw_g, ∀ (a' : Array Value) (U : State), s.WarmedH U.vm → w.before a' U = true := by
  intro w hw a' U hW
  rcases List.mem_cons.mp hw with rfl | hw
  · exact word_at hW (good_of_word rfl) (cx_hts cx (f_code hj hj2) rfl)
  · obtain ⟨h1, h2⟩ := List.mem_filter.mp hw
    exact word_at hW (good_of_word h2) (cx_hts cx h1 h2)
theorem fok_of {j : Nat} (h : fok M j = true) : frM j + 1 ≤ frM M ∧ 19 + xM j + loM j ≤ loM M ∧ j ≠ 273 := by
  simp only [fok, Bool.and_eq_true, decide_eq_true_eq] at h
  exact ⟨h.1.1, h.1.2, h.2⟩
theorem callB (cx : Cx p l e R s m args below meth c M) {idx kd j n mc ms : Nat} (hc : callT (oM M) idx = some (kd, j, n)) (hk3 : kd ≤ 2) (hf : fok M j = true) : CallB R s args (Rn (oM M)) idx (yM j) (cM j) (xM j) (rM j) (Cond.code (yM j) (cM j) (xM j) (rM j) :: lw_g) { frames := frM j, cells := mc, slots := ms, locals := loM j } mc ms n := by
  obtain ⟨c1, c2, c3, c4, c5, hj⟩ := f_call hc (by omega)
  obtain ⟨f1, f2, f3⟩ := fok_of hf
  obtain ⟨m1, m2, m3, m4, m5⟩ := f_meth hj
  rw [if_neg (by omega)] at c1
  refine ⟨rfl, rfl, ?_, ?_, cx_good cx hj f3, List.mem_cons_self, cx_hts cx (f_code hj f3) rfl, cx_hts cx m1 rfl, ⟨m2, m3⟩, fun sig h => ?_, cx_hts cx c1 rfl⟩
  · exact Nat.le_trans f1 cx.2.2.2.2.2.2.1
  · have := cx.2.2.2.2.2.2.2
    show 8 + (xM j + 11) + loM j ≤ R.locals
    omega
  · rw [h] at c4
    exact (Option.some.inj c4).symm
theorem map_st {as r : List Value} {x : Nat} : ((as.reverse ++ .ref x :: r).map (vmv ad)) = (as.map (vmv ad)).reverse ++ .ref (ad x) :: r.map (vmv ad) := by
  rw [List.map_append, List.map_reverse]; rfl
theorem out_st {w1 : Option Value × Mm} {r : List Value} : (w1.1.map (vmv ad)).toList ++ r.map (vmv ad) = (w1.1.toList ++ r).map (vmv ad) := by
  rw [List.map_append]
  cases w1.1 <;> rfl
theorem lv_room4 {la : Array Slot} {st0 r : List Value} (h : r.length ≤ 4) : 2 * (F0 m pc la st0).monitorRoom + ((r.map (vmv ad)).map fun v => v.category).sum ≤ 8 :=
  lv_room (by have := cats4 ad r; omega)
theorem o_invokevirtual (cx : Cx p l e R s m args below meth c M) (hk : ∀ pc2 ls2 st2 σ2, k pc2 ls2 st2 σ2 = some w → Gd p l e R s m args below meth c D kA ad A w u0 Q pc2 ls2 st2 σ2) {call : Nat → List Value → Mm → Rs} {idx : Nat} (hcl : ∀ j as σ w1, call j as σ = some w1 → CaOk l D kA ad j as σ w1) (hB : Bs s ad u0) (hR1 : (mU w.2).1 ≤ u0.1 + R.cells) (hR2 : (mU w.2).2.1 ≤ u0.2 + R.slots) (hd : decode (cM M) pc = .ok (.invokevirtual idx, 3)) (h : p_invokevirtual idx M pc ls st σ k call = some w) : Gd p l e R s m args below meth c D kA ad A w u0 Q pc ls st σ := by
  unfold p_invokevirtual at h
  cases hc : callT (oM M) idx with
  | none => rw [hc] at h; cases h
  | some q =>
    obtain ⟨kd, j, n⟩ := q
    rw [hc] at h
    obtain ⟨⟨hkd, hf, hst⟩, h3⟩ := if_spec h
    have hkd : kd = 0 := hkd
    subst hkd
    replace h3 : p_vcall j n M pc ls st σ k call = some w := h3
    clear h
    have hf : fok M j = true := hf
    have hst : stM j = false := hst
    unfold p_vcall at h3
    cases hp : popN n st [] with
    | none => rw [hp] at h3; cases h3
    | some q =>
      obtain ⟨as, r0⟩ := q
      rw [hp] at h3
      obtain ⟨hn, rfl⟩ := popN_of hp
      match r0, h3 with
      | [], h3 => cases h3
      | .int _ :: r, h3 => cases h3
      | .long _ :: r, h3 => cases h3
      | .float _ :: r, h3 => cases h3
      | .double _ :: r, h3 => cases h3
      | .null :: r, h3 => cases h3
      | .retAddr _ :: r, h3 => cases h3
      | .ref x :: r, h3 =>
        obtain ⟨⟨hr4, hlen⟩, h3⟩ := if_spec h3
        cases hca : call j (.ref x :: as) σ with
        | none => rw [hca] at h3; cases h3
        | some w1 =>
          rw [hca] at h3
          obtain ⟨hm, hg⟩ := hk _ _ _ _ h3
          obtain ⟨ok, hle, hMet⟩ := hcl _ _ _ _ hca
          obtain ⟨f1, f2, f3⟩ := fok_of hf
          obtain ⟨c1, c2, c3, c4, c5, hj⟩ := f_call hc (by omega)
          refine ⟨⟨Nat.le_trans hle.1 hm.1, Nat.le_trans hle.2.1 hm.2.1, hm.2.2.trans hle.2.2⟩, fun H locs la hw hl a b => ?_⟩
          intro T hT X
          have hz : H.size ≤ s.heap.size + ((mU σ).1 - u0.1) := hT ▸ X.heapSize
          have hMt := Mfree hB a hw hz (hMet hj f3)
          have m1 := hm.1
          have m2 := hm.2.1
          have l1 := hle.1
          have l2 := hle.2.1
          have hrecv : ∃ cellB : Cell, H[ad x]? = some cellB ∧ cellB.vm.isStatics = false ∧ s.vm.findClass (yM j).cls = some cellB.cls := by
            rw [(f_meth hj).2.2.2.1]
            simp only [okr, Bool.and_eq_true, hst] at ok
            have ok2 := ok.2
            rw [if_neg (by simp)] at ok2
            rcases ns_ok j hj hst with ho | ho
            · rw [if_neg (by omega)] at ok2
              obtain ⟨nn, hnn⟩ := isK_of ok2
              have hat := wsO_at (kA := kA) (ad := ad) hnn
              rw [ent_obj (by omega)] at hat
              exact va_recv hw.1 hw.2.1 (f_cls ho).1 hat
            · rw [if_pos ho] at ok2
              rw [ho]
              have hi : ∃ i : Nat, i < 2 ∧ x = 1000000 + i := by
                simp only [Bool.or_eq_true, beq_iff_eq] at ok2
                rcases ok2 with rfl | rfl
                · exact ⟨0, by decide, rfl⟩
                · exact ⟨1, by decide, rfl⟩
              obtain ⟨i, hi, rfl⟩ := hi
              exact vk_recv (adK := fun i => ad (1000000 + i)) (i := i) hw.2.2.2.2.1.2.2.2.1 hi hw.2.2.2.1
          have hrun := va_runV (p := p) (l := l) (e := e) (R := R) (s := s) (m := m) (args := args) (below := below) (meth := meth) (c := c) (H := H) (locs := locs) (cells := (mU σ).1 - u0.1) (slots := (mU σ).2.1 - u0.2) (Ts := []) (own := Rn (oM M)) (C := (yM j).cls) (b := ad x) (As := as.map (vmv ad)) (rest := r.map (vmv ad)) (g := F0 m pc la ((as.reverse ++ .ref x :: r).map (vmv ad))) ⟨cx.1, cx.2.1, cx.2.2.1, cx.2.2.2.1, fun _ h => absurd h List.not_mem_nil⟩ hMt ⟨callB cx hc (by omega) hf, cx_hts cx c2 rfl, cx_hts cx (c3 rfl) rfl⟩ ⟨pc_blind, hrecv, fun U hU hW => pc_pre hw (.ref x :: as) U hU hW⟩ rfl (by rw [List.length_map]; exact hn) (hl.1.trans hlen) map_st (lv_room4 hr4) hd (by constructor <;> omega)
          refine W_call hw hle.2.2 hrun (fun H1 locs1 hw1 => ?_) T hT X
          have hgo := hg H1 locs1 la hw1 hl (by omega) (by omega)
          rw [out_st]
          have q1 : (mU w1.2).1 - u0.1 = (mU σ).1 - u0.1 + ((mU w1.2).1 - (mU σ).1) := by omega
          have q2 : (mU w1.2).2.1 - u0.2 = (mU σ).2.1 - u0.2 + ((mU w1.2).2.1 - (mU σ).2.1) := by omega
          rw [q1, q2] at hgo
          exact hgo
theorem o_scall (cx : Cx p l e R s m args below meth c M) (hk : ∀ pc2 ls2 st2 σ2, k pc2 ls2 st2 σ2 = some w → Gd p l e R s m args below meth c D kA ad A w u0 Q pc2 ls2 st2 σ2) {call : Nat → List Value → Mm → Rs} {idx j n : Nat} (hcl : ∀ j as σ w1, call j as σ = some w1 → CaOk l D kA ad j as σ w1) (hB : Bs s ad u0) (hR1 : (mU w.2).1 ≤ u0.1 + R.cells) (hR2 : (mU w.2).2.1 ≤ u0.2 + R.slots) (hd : decode (cM M) pc = .ok (.invokestatic idx, 3)) (hc : callT (oM M) idx = some (1, j, n)) (hf : fok M j = true) (h3 : p_scall j n M pc ls st σ k call = some w) : Gd p l e R s m args below meth c D kA ad A w u0 Q pc ls st σ := by
  unfold p_scall at h3
  cases hp : popN n st [] with
  | none => rw [hp] at h3; cases h3
  | some q =>
    obtain ⟨as, r⟩ := q
    rw [hp] at h3
    obtain ⟨hn, rfl⟩ := popN_of hp
    obtain ⟨⟨hr4, hlen⟩, h3⟩ := if_spec h3
    cases hca : call j as σ with
    | none => rw [hca] at h3; cases h3
    | some w1 =>
      rw [hca] at h3
      obtain ⟨hm, hg⟩ := hk _ _ _ _ h3
      obtain ⟨ok, hle, hMet⟩ := hcl _ _ _ _ hca
      obtain ⟨f1, f2, f3⟩ := fok_of hf
      obtain ⟨c1, c2, c3, c4, c5, hj⟩ := f_call hc (by omega)
      refine ⟨⟨Nat.le_trans hle.1 hm.1, Nat.le_trans hle.2.1 hm.2.1, hm.2.2.trans hle.2.2⟩, fun H locs la hw hl a b => ?_⟩
      intro T hT X
      have hz : H.size ≤ s.heap.size + ((mU σ).1 - u0.1) := hT ▸ X.heapSize
      have hMt := Mfree hB a hw hz (hMet hj f3)
      have m1 := hm.1
      have m2 := hm.2.1
      have l1 := hle.1
      have l2 := hle.2.1
      have hrun := va_runS (p := p) (l := l) (e := e) (R := R) (s := s) (m := m) (args := args) (below := below) (meth := meth) (c := c) (H := H) (locs := locs) (cells := (mU σ).1 - u0.1) (slots := (mU σ).2.1 - u0.2) (Ts := []) (own := Rn (oM M)) (As := as.map (vmv ad)) (rest := r.map (vmv ad)) (g := F0 m pc la ((as.reverse ++ r).map (vmv ad))) ⟨cx.1, cx.2.1, cx.2.2.1, cx.2.2.2.1, fun _ h => absurd h List.not_mem_nil⟩ hMt ⟨callB cx hc (by omega) hf, cx_hts cx c2 rfl⟩ ⟨pc_blind, fun U hU hW => pc_pre hw as U hU hW⟩ rfl (by rw [List.length_map]; exact hn) (hl.1.trans hlen) (by rw [List.map_append, List.map_reverse]) (lv_room4 hr4) hd (by constructor <;> omega)
      refine W_call hw hle.2.2 hrun (fun H1 locs1 hw1 => ?_) T hT X
      have hgo := hg H1 locs1 la hw1 hl (by omega) (by omega)
      rw [out_st]
      have q1 : (mU w1.2).1 - u0.1 = (mU σ).1 - u0.1 + ((mU w1.2).1 - (mU σ).1) := by omega
      have q2 : (mU w1.2).2.1 - u0.2 = (mU σ).2.1 - u0.2 + ((mU w1.2).2.1 - (mU σ).2.1) := by omega
      rw [q1, q2] at hgo
      exact hgo
theorem o_icall (cx : Cx p l e R s m args below meth c M) (hk : ∀ pc2 ls2 st2 σ2, k pc2 ls2 st2 σ2 = some w → Gd p l e R s m args below meth c D kA ad A w u0 Q pc2 ls2 st2 σ2) {call : Nat → List Value → Mm → Rs} {idx kd j n : Nat} (hcl : ∀ j as σ w1, call j as σ = some w1 → CaOk l D kA ad j as σ w1) (hB : Bs s ad u0) (hR1 : (mU w.2).1 ≤ u0.1 + R.cells) (hR2 : (mU w.2).2.1 ≤ u0.2 + R.slots) (hd : decode (cM M) pc = .ok (.invokespecial idx, 3)) (hc : callT (oM M) idx = some (kd, j, n)) (hkd : kd = 2 ∨ kd = 3) (hf : fok M j = true) (h3 : p_icall j n M pc ls st σ k call = some w) : Gd p l e R s m args below meth c D kA ad A w u0 Q pc ls st σ := by
  unfold p_icall at h3
  cases hp : popN n st [] with
  | none => rw [hp] at h3; cases h3
  | some q =>
    obtain ⟨as, r0⟩ := q
    rw [hp] at h3
    obtain ⟨hn, rfl⟩ := popN_of hp
    match r0, h3 with
    | [], h3 => cases h3
    | .int _ :: r, h3 => cases h3
    | .long _ :: r, h3 => cases h3
    | .float _ :: r, h3 => cases h3
    | .double _ :: r, h3 => cases h3
    | .null :: r, h3 => cases h3
    | .retAddr _ :: r, h3 => cases h3
    | .ref x :: r, h3 =>
      obtain ⟨⟨hr4, hlen⟩, h3⟩ := if_spec h3
      cases hca : call j (.ref x :: as) σ with
      | none => rw [hca] at h3; cases h3
      | some w1 =>
        rw [hca] at h3
        obtain ⟨v1, σ1⟩ := w1
        cases v1 with
        | some v => cases h3
        | none =>
          obtain ⟨hm, hg⟩ := hk _ _ _ _ h3
          obtain ⟨ok, hle, hMet⟩ := hcl _ _ _ _ hca
          obtain ⟨f1, f2, f3⟩ := fok_of hf
          obtain ⟨c1, c2, c3, c4, c5, hj⟩ := f_call hc (by omega)
          obtain ⟨hy, hret⟩ := c5 hkd
          rw [if_neg (by omega)] at c2
          refine ⟨⟨Nat.le_trans hle.1 hm.1, Nat.le_trans hle.2.1 hm.2.1, hm.2.2.trans hle.2.2⟩, fun H locs la hw hl a b => ?_⟩
          intro T hT X
          have hz : H.size ≤ s.heap.size + ((mU σ).1 - u0.1) := hT ▸ X.heapSize
          have hMt := Mfree hB a hw hz (hMet hj f3)
          have m1 : (mU σ1).1 ≤ (mU w.2).1 := hm.1
          have m2 : (mU σ1).2.1 ≤ (mU w.2).2.1 := hm.2.1
          have l1 : (mU σ).1 ≤ (mU σ1).1 := hle.1
          have l2 : (mU σ).2.1 ≤ (mU σ1).2.1 := hle.2.1
          have hrun : va_Run p l e R s m args below meth c H locs ((mU σ).1 - u0.1) ((mU σ).2.1 - u0.2) ((mU σ1).1 - (mU σ).1) ((mU σ1).2.1 - (mU σ).2.1) (F0 m pc la ((as.reverse ++ .ref x :: r).map (vmv ad))) (r.map (vmv ad)) (QcJ D kA ad σ (none, σ1) H.size (Value.ref (ad x) :: as.map (vmv ad)).toArray) (va_A (wsO kA ad σ) H.size) := by
            rcases hkd with rfl | rfl
            · have cb := callB (mc := (mU σ1).1 - (mU σ).1) (ms := (mU σ1).2.1 - (mU σ).2.1) cx hc (by omega) hf
              rw [hret] at cb hMt
              exact va_runI (Ts := []) (own := Rn (oM M)) (b := ad x) (As := as.map (vmv ad)) ⟨cx.1, cx.2.1, cx.2.2.1, cx.2.2.2.1, fun _ h => absurd h List.not_mem_nil⟩ hMt ⟨cb, hy, cx_hts cx c2 rfl⟩ ⟨pc_blind, fun U hU hW => pc_pre hw (.ref x :: as) U hU hW⟩ rfl (by rw [List.length_map]; exact hn) (hl.1.trans hlen) map_st (lv_room4 hr4) hd ⟨show (mU σ).1 - u0.1 + ((mU σ1).1 - (mU σ).1) ≤ R.cells by omega, show (mU σ).2.1 - u0.2 + ((mU σ1).2.1 - (mU σ).2.1) ≤ R.slots by omega⟩
            · rw [if_pos rfl] at c1
              have g1 := cx_good cx hj f3
              have g2 := cx_hts cx (f_code hj f3) rfl
              obtain ⟨n1, n2, n3, n4, n5⟩ := f_meth hj
              rw [hret] at g1 g2 hMt
              refine va_runIN (Ts := []) (own := Rn (oM M)) (host := "BellPulls") (b := ad x) (As := as.map (vmv ad)) (n := n) (bytes := cM j) (maxL := xM j) (index := idx) ⟨cx.1, cx.2.1, cx.2.2.1, cx.2.2.2.1, fun _ h => absurd h List.not_mem_nil⟩ hMt ⟨⟨⟨rfl, rfl, Nat.le_trans f1 cx.2.2.2.2.2.2.1, ?_, g1, List.mem_cons_self⟩, g2, cx_hts cx n1 rfl, ⟨n2, n3⟩, fun sig h => ?_, (hw.2.2.2.2.1.2.2.2.2.2.2.2.1 _ _ _ _ c1).use rfl⟩, hy, cx_hts cx c2 rfl⟩ ⟨pc_blind, fun U hU hW => pc_pre hw (.ref x :: as) U hU hW⟩ rfl (by rw [List.length_map]; exact hn) (hl.1.trans hlen) map_st (lv_room4 hr4) hd ⟨show (mU σ).1 - u0.1 + ((mU σ1).1 - (mU σ).1) ≤ R.cells by omega, show (mU σ).2.1 - u0.2 + ((mU σ1).2.1 - (mU σ).2.1) ≤ R.slots by omega⟩
              · have := cx.2.2.2.2.2.2.2
                show 8 + (xM j + 11) + loM j ≤ R.locals
                omega
              · rw [h] at c4
                exact (Option.some.inj c4).symm
          refine W_call (w1 := (none, σ1)) hw hle.2.2 hrun (fun H1 locs1 hw1 => ?_) T hT X
          have hgo := hg H1 locs1 la hw1 hl (show u0.1 ≤ (mU σ1).1 by omega) (show u0.2 ≤ (mU σ1).2.1 by omega)
          have q1 : (mU σ1).1 - u0.1 = (mU σ).1 - u0.1 + ((mU σ1).1 - (mU σ).1) := by omega
          have q2 : (mU σ1).2.1 - u0.2 = (mU σ).2.1 - u0.2 + ((mU σ1).2.1 - (mU σ).2.1) := by omega
          dsimp only at hgo
          rw [q1, q2] at hgo
          exact hgo
end Calls
