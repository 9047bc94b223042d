/-! ===== the world that a memory stands for ===== -/
def vmv (ad : Nat → Nat) (v : Value) : Value := match v with
  | .ref a => .ref (ad a)
  | .int x => .int x
  | .long x => .long x
  | .float x => .float x
  | .double x => .double x
  | .null => .null
  | .retAddr x => .retAddr x
def fv (ad : Nat → Nat) (σ : Mm) (a c j : Nat) : Value := if fTy c j = 1 then .long (mL σ a j) else if fTy c j = 2 then vmv ad (rv (mR σ a j)) else .int (mI σ a j)
def ent (kA : Nat → ClassId) (ad : Nat → Nat) (σ : Mm) (a : Nat) (k : Nat × Nat) : va_E :=
  if k.1 ≤ 9 then .inr (k.1, (List.range (nF k.1)).map (fv ad σ a k.1))
  else if k.1 = 12 then .inl (kA k.1, k.2, .inr (.inl (mL σ a)))
  else .inl (kA k.1, k.2, .inl (mI σ a))
def wsO (kA : Nat → ClassId) (ad : Nat → Nat) (σ : Mm) : va_W := (List.range (mKs σ).length).map (fun a => (ad a, ent kA ad σ a ((mKs σ).getD a (0, 0))))
section World
variable {kA : Nat → ClassId} {ad : Nat → Nat} {σ σ' : Mm} {a b : Nat} {k : Nat × Nat}
theorem mK_getD (h : mK σ a = some k) : (mKs σ).getD a (0, 0) = k := by
  rw [List.getD_eq_getElem?_getD]
  rw [show (mKs σ)[a]? = some k from h]
  rfl
theorem wsO_get : (wsO kA ad σ)[a]? = if a < (mKs σ).length then some (ad a, ent kA ad σ a ((mKs σ).getD a (0, 0))) else none := by
  unfold wsO
  rw [List.getElem?_map]
  by_cases h : a < (mKs σ).length
  · rw [List.getElem?_range h, if_pos h]; rfl
  · rw [if_neg h, List.getElem?_eq_none (by rw [List.length_range]; omega)]; rfl
theorem mK_lt (h : mK σ a = some k) : a < (mKs σ).length := (List.getElem?_eq_some_iff.mp h).1
theorem wsO_at (h : mK σ a = some k) : (wsO kA ad σ)[a]? = some (ad a, ent kA ad σ a k) := by
  rw [wsO_get, if_pos (mK_lt h), mK_getD h]
theorem wsO_of {q : Nat × va_E} (h : (wsO kA ad σ)[a]? = some q) : a < (mKs σ).length ∧ q = (ad a, ent kA ad σ a ((mKs σ).getD a (0, 0))) := by
  rw [wsO_get] at h
  split at h
  next hl => exact ⟨hl, (Option.some.inj h).symm⟩
  next => cases h
theorem wsO_set {e : va_E} (hK : mKs σ' = mKs σ) (hk : mK σ a = some k) (he : ent kA ad σ' a k = e) (ho : ∀ b q, b ≠ a → ent kA ad σ' b q = ent kA ad σ b q) : wsO kA ad σ' = (wsO kA ad σ).set a (ad a, e) := by
  refine List.ext_getElem? fun i => ?_
  rw [List.getElem?_set, wsO_get, hK]
  have hl := mK_lt hk
  by_cases hi : a = i
  · subst hi
    rw [if_pos hl, if_pos rfl, mK_getD hk, he, if_pos (by simpa [wsO] using hl)]
  · rw [if_neg hi, wsO_get]
    by_cases h : i < (mKs σ).length
    · rw [if_pos h, if_pos h, ho _ _ (fun z => hi z.symm)]
    · rw [if_neg h, if_neg h]
theorem ent_congr (h1 : mI σ' b = mI σ b) (h2 : mL σ' b = mL σ b) (h3 : mR σ' b = mR σ b) (q : Nat × Nat) : ent kA ad σ' b q = ent kA ad σ b q := by
  have hf : ∀ c, fv ad σ' b c = fv ad σ b c := fun c => by
    funext j
    unfold fv
    rw [h1, h2, h3]
  unfold ent
  rw [hf, h1, h2]
theorem u2_ne {α : Type} {f : Nat → Nat → α} {j : Nat} {v : α} (h : b ≠ a) : u2 f a j v b = f b := by
  funext k
  simp [u2, h]
theorem u1_ne {α : Type} {f : Nat → Nat → α} {v : Nat → α} (h : b ≠ a) : u1 f a v b = f b := by simp [u1, h]
theorem u2_row {α : Type} {f : Nat → Nat → α} {j : Nat} {v : α} : u2 f a j v a = fun k => if k = j then v else f a k := by
  funext k
  simp [u2]
theorem map_set {n j : Nat} {f g : Nat → Value} {v : Value} (hj : g j = v) (ho : ∀ i, i ≠ j → g i = f i) : (List.range n).map g = ((List.range n).map f).set j v := by
  refine List.ext_getElem? fun i => ?_
  rw [List.getElem?_set, List.getElem?_map, List.getElem?_map, List.length_map, List.length_range]
  by_cases hi : i < n
  · rw [List.getElem?_range hi]
    by_cases h : j = i
    · subst h
      rw [if_pos rfl, if_pos hi]
      show some (g j) = _
      rw [hj]
    · rw [if_neg h]
      show some (g i) = some (f i)
      rw [ho i (fun z => h z.symm)]
  · rw [List.getElem?_eq_none (by rw [List.length_range]; omega)]
    by_cases h : j = i
    · rw [if_pos h, if_neg (by omega)]; rfl
    · rw [if_neg h]; rfl
theorem mI_uI_ne {j : Nat} {v : Int32} (h : b ≠ a) : mI (uI σ a j v) b = mI σ b := u2_ne h
theorem mL_uL_ne {j : Nat} {v : Int64} (h : b ≠ a) : mL (uL σ a j v) b = mL σ b := u2_ne h
theorem mR_uR_ne {j : Nat} {v : Option Nat} (h : b ≠ a) : mR (uR σ a j v) b = mR σ b := u2_ne h
theorem mI_uW_ne {f : Nat → Int32} (h : b ≠ a) : mI (uW σ a f) b = mI σ b := u1_ne h
theorem mI_nw_ne {kd sz : Nat} (h : b ≠ (mKs σ).length) : mI (nw σ kd sz) b = mI σ b := u1_ne h
theorem mL_nw_ne {kd sz : Nat} (h : b ≠ (mKs σ).length) : mL (nw σ kd sz) b = mL σ b := u1_ne h
theorem mR_nw_ne {kd sz : Nat} (h : b ≠ (mKs σ).length) : mR (nw σ kd sz) b = mR σ b := u1_ne h
theorem ent_obj {c n : Nat} (hc : c ≤ 9) : ent kA ad σ a (c, n) = .inr (c, (List.range (nF c)).map (fv ad σ a c)) := by
  unfold ent
  rw [if_pos hc]
theorem ent_int {c n : Nat} (hc : 10 ≤ c) (h2 : c ≠ 12) : ent kA ad σ a (c, n) = .inl (kA c, n, .inl (mI σ a)) := by
  unfold ent
  rw [if_neg (by show ¬ c ≤ 9; omega), if_neg h2]
theorem ent_long {n : Nat} : ent kA ad σ a (12, n) = .inl (kA 12, n, .inr (.inl (mL σ a))) := rfl
/-- an object's field is written -/
theorem ws_field {c n j : Nat} {v : Value} (hc : c ≤ 9) (hk : mK σ a = some (c, n)) (hK : mKs σ' = mKs σ) (h1 : ∀ b, b ≠ a → mI σ' b = mI σ b) (h2 : ∀ b, b ≠ a → mL σ' b = mL σ b) (h3 : ∀ b, b ≠ a → mR σ' b = mR σ b) (hv : fv ad σ' a c j = v) (ho : ∀ i, i ≠ j → fv ad σ' a c i = fv ad σ a c i) : wsO kA ad σ' = (wsO kA ad σ).set a (ad a, .inr (c, ((List.range (nF c)).map (fv ad σ a c)).set j v)) :=
  wsO_set hK hk (by rw [ent_obj hc, map_set hv ho]) (fun b q hb => ent_congr (h1 b hb) (h2 b hb) (h3 b hb) q)
theorem ws_uIa {c n j : Nat} {v : Int32} (hc : 10 ≤ c) (h2 : c ≠ 12) (hk : mK σ a = some (c, n)) : wsO kA ad (uI σ a j v) = (wsO kA ad σ).set a (ad a, .inl (kA c, n, .inl (upd (mI σ a) j v))) :=
  wsO_set rfl hk (by rw [ent_int hc h2]; exact congrArg (fun z => Sum.inl (kA c, n, Sum.inl z)) u2_row) (fun b q hb => ent_congr (mI_uI_ne hb) rfl rfl q)
theorem ws_uLa {n j : Nat} {v : Int64} (hk : mK σ a = some (12, n)) : wsO kA ad (uL σ a j v) = (wsO kA ad σ).set a (ad a, .inl (kA 12, n, .inr (.inl (vp_updL (mL σ a) j v)))) :=
  wsO_set rfl hk (by rw [ent_long]; exact congrArg (fun z => Sum.inl (kA 12, n, Sum.inr (Sum.inl z))) u2_row) (fun b q hb => ent_congr (σ' := uL σ a j v) (σ := σ) rfl (mL_uL_ne hb) rfl q)
theorem ws_uWa {n : Nat} {f : Nat → Int32} (hk : mK σ a = some (11, n)) : wsO kA ad (uW σ a f) = (wsO kA ad σ).set a (ad a, .inl (kA 11, n, .inl f)) :=
  wsO_set rfl hk (by rw [ent_int (by omega) (by omega)]; exact congrArg (fun z => Sum.inl (kA 11, n, Sum.inl z)) (by show u1 _ _ _ _ = _; simp [u1])) (fun b q hb => ent_congr (mI_uW_ne hb) rfl rfl q)
/-- a new cell -/
theorem ws_nw {kd sz : Nat} : wsO kA ad (nw σ kd sz) = wsO kA ad σ ++ [(ad (mKs σ).length, ent kA ad (nw σ kd sz) (mKs σ).length (kd, sz))] := by
  have hK : mKs (nw σ kd sz) = mKs σ ++ [(kd, sz)] := rfl
  refine List.ext_getElem? fun i => ?_
  have hlen : (wsO kA ad σ).length = (mKs σ).length := by simp [wsO]
  rw [wsO_get, hK, List.length_append, List.length_singleton]
  by_cases h : i < (mKs σ).length
  · rw [if_pos (by omega), List.getElem?_append_left (by omega), wsO_get, if_pos h]
    have e : (mKs σ ++ [(kd, sz)]).getD i (0, 0) = (mKs σ).getD i (0, 0) := by
      rw [List.getD_eq_getElem?_getD, List.getD_eq_getElem?_getD, List.getElem?_append_left h]
    rw [e, ent_congr (mI_nw_ne (by omega)) (mL_nw_ne (by omega)) (mR_nw_ne (by omega))]
  · rw [List.getElem?_append_right (by omega), hlen]
    by_cases h2 : i = (mKs σ).length
    · subst h2
      rw [if_pos (by omega), Nat.sub_self]
      have e : (mKs σ ++ [(kd, sz)]).getD (mKs σ).length (0, 0) = (kd, sz) := by
        rw [List.getD_eq_getElem?_getD, List.getElem?_append_right (by omega), Nat.sub_self]
        rfl
      rw [e]
      rfl
    · rw [if_neg (by omega), List.getElem?_eq_none (by simp; omega)]
end World
/-- what stands beside the world: the script, the strings, String's own static -/
def SpE (ad : Nat → Nat) (A : Nat → Prop) (s : State) : Prop := (∀ (a : String) (i : Nat) (x : MethodName) (h : String), Cond.methodLinkNest a i x h ∈ lw_tbl → va_Nw (.methodLinkNest a i x h) s) ∧ (∀ x : MethodName, Cond.declares x ∈ lw_tbl → va_Nw (.declares x) s) ∧ (∀ C T : String, Cond.castable C T ∈ lw_tbl → va_Nw (.castable C T) s) ∧ vk_R "BellPulls" 125 "no such lamp" (ad 1000002) s ∧ vk_R "BellPulls" 145 "no such what" (ad 1000003) s ∧ va_Zq "jdk/internal/util/Preconditions" "SIOOBE_FORMATTER" "Ljava/util/function/BiFunction;" A s s.heap ∧ vx_Zq "java/lang/Throwable" "UNASSIGNED_STACK" "[Ljava/lang/StackTraceElement;" A s s.heap ∧ vx_Zq "java/lang/Throwable" "SUPPRESSED_SENTINEL" "Ljava/util/List;" A s s.heap ∧ va_Nc "java/util/NoSuchElementException" "java/lang/IndexOutOfBoundsException" s
def Sp (ad : Nat → Nat) (X : Nat × (Nat → Int32)) (A : Nat → Prop) (s : State) : Prop :=
  va_X (ad 2000000) X.1 X.2 s s.heap ∧ ad 2000000 < s.heap.size ∧ ¬ A (ad 2000000) ∧ vk_S 2 [126, 10] [sb_0, sb_1] (fun i => ad (1000000 + i)) (fun i => ad (1000010 + i)) A s s.heap ∧ va_Z "java/lang/String" "COMPACT_STRINGS" "Z" (.int 1) A s s.heap ∧ vk_R "BellPulls$Reader" 90 tx_0 (ad 1000000) s ∧ vk_R "BellPulls$Reader" 101 tx_1 (ad 1000001) s ∧ SpE ad A s
/-- the same, of another state whose tables are as warm, over a later heap, for fewer cells -/
theorem SpE.call {ad : Nat → Nat} {A B : Nat → Prop} {s U : State} (h : SpE ad A s) (hW : s.WarmedH U.vm) (hk : ∀ q : Nat, q < s.heap.size → ¬ A q → U.heap[q]? = s.heap[q]?) (hB : ∀ q, B q → A q) : SpE ad B U := by
  obtain ⟨h1, h2, h3, h4, h5, h6, h7, h8, h9⟩ := h
  exact ⟨fun a i x z hz => (h1 a i x z hz).warmM hW, fun x hz => (h2 x hz).warmD hW, fun C T hz => (h3 C T hz).warmC hW, h4.warm hW, h5.warm hW, ((h6.kept hk).moved hW.alike).narrow hB, ((h7.kept hk).moved hW.alike).narrow hB, ((h8.kept hk).moved hW.alike).narrow hB, h9.moved hW.alike⟩
theorem SpE.same {ad : Nat → Nat} {A : Nat → Prop} {s U : State} (h : SpE ad A s) (hv : U.vm = s.vm) (hh : U.heap = s.heap) : SpE ad A U := by
  have hal : s.vm.Alike U.vm := by rw [hv]; exact Vm.Alike.refl s.vm
  obtain ⟨h1, h2, h3, h4, h5, h6, h7, h8, h9⟩ := h
  refine ⟨fun a i x z hz => (h1 a i x z hz).same rfl hv.symm, fun x hz => (h2 x hz).same rfl hv.symm, fun C T hz => (h3 C T hz).same rfl hv.symm, h4.same hv, h5.same hv, ?_, ?_, ?_, h9.moved hal⟩
  · rw [hh]; exact h6.moved hal
  · rw [hh]; exact h7.moved hal
  · rw [hh]; exact h8.moved hal
theorem Sp.call {ad : Nat → Nat} {X : Nat × (Nat → Int32)} {A B : Nat → Prop} {s U : State} (h : Sp ad X A s) (hW : s.WarmedH U.vm) (hz : s.heap.size ≤ U.heap.size) (hk : ∀ q : Nat, q < s.heap.size → ¬ A q → U.heap[q]? = s.heap[q]?) (hB : ∀ q, B q → A q) : Sp ad X B U := by
  obtain ⟨h1, h2, h3, h4, h5, h6, h7, h8⟩ := h
  exact ⟨(h1.kept (hk _ h2 h3)).moved hW.alike, Nat.lt_of_lt_of_le h2 hz, fun z => h3 (hB _ z), ((h4.kept hk).moved hW.alike).narrow hB, ((h5.kept hk).moved hW.alike).narrow hB, h6.warm hW, h7.warm hW, h8.call hW hk hB⟩
theorem Sp.same {ad : Nat → Nat} {X : Nat × (Nat → Int32)} {A : Nat → Prop} {s U : State} (h : Sp ad X A s) (hv : U.vm = s.vm) (hh : U.heap = s.heap) : Sp ad X A U := by
  have hal : s.vm.Alike U.vm := by rw [hv]; exact Vm.Alike.refl s.vm
  obtain ⟨h1, h2, h3, h4, h5, h6, h7, h8⟩ := h
  refine ⟨?_, by rw [hh]; exact h2, h3, ?_, ?_, h6.same hv, h7.same hv, h8.same hv hh⟩
  · rw [hh]; exact h1.moved hal
  · rw [hh]; exact h4.moved hal
  · rw [hh]; exact h5.moved hal
def tysO (kA : Nat → ClassId) : List (ClassId × FieldType) := [(kA 10, .byte), (kA 11, .int), (kA 12, .long), (kA 13, .boolean)]
def arTy (k : Nat) : FieldType := if k = 10 then .byte else if k = 11 then .int else if k = 12 then .long else .boolean
theorem tys_at {kA : Nat → ClassId} {k : Nat} (h1 : 10 ≤ k) (h2 : k ≤ 13) : (tysO kA)[k - 10]? = some (kA k, arTy k) := by
  rcases (show k = 10 ∨ k = 11 ∨ k = 12 ∨ k = 13 by omega) with rfl | rfl | rfl | rfl <;> rfl
/-- the world at a point of a walk that began in s -/
def Wo (D : va_G) (kA : Nat → ClassId) (ad : Nat → Nat) (A : Nat → Prop) (s : State) (H : Heap) (locs : List Loc) (σ : Mm) : Prop :=
  va_K D vwCl (tysO kA) s ∧ va_P D vwCl (wsO kA ad σ) H ∧ va_D A (wsO kA ad σ) ∧ va_S A s.heap H locs ∧ Sp ad (mX σ) A s ∧ (∀ q, s.heap.size ≤ q → A q)
/-- the locals -/
def lR (ad : Nat → Nat) (ls : List Value) (la : Array Slot) : Prop := la.size = ls.length ∧ lv_wf la ∧ ∀ i v, loc ls i = some v → la[i]? = some (.val (vmv ad v))
def lvL (ad : Nat → Nat) (ls : List Value) : List (Nat × Value) := (List.range ls.length).filterMap (fun i => (loc ls i).map (fun v => (i, vmv ad v)))
theorem lR.has {ad : Nat → Nat} {ls : List Value} {la : Array Slot} (h : lR ad ls la) : lv_has la ls.length (lvL ad ls) := by
  refine ⟨h.1, h.2.1, fun q hq => ?_⟩
  obtain ⟨i, -, hi⟩ := List.mem_filterMap.mp hq
  cases hl : loc ls i with
  | none => rw [hl] at hi; cases hi
  | some v =>
    rw [hl] at hi
    cases hi
    exact h.2.2 i v hl
theorem loc_lt {ls : List Value} {i : Nat} {v : Value} (h : loc ls i = some v) : i < ls.length := by
  by_cases hi : i < ls.length
  · exact hi
  · have e : ls[i]? = none := List.getElem?_eq_none (by omega)
    unfold loc at h
    rw [e] at h
    cases h
theorem lvL_mem {ad : Nat → Nat} {ls : List Value} {i : Nat} {v : Value} (h : loc ls i = some v) : (i, vmv ad v) ∈ lvL ad ls :=
  List.mem_filterMap.mpr ⟨i, List.mem_range.mpr (loc_lt h), by rw [h]; rfl⟩
theorem loc_cat {ls : List Value} {i : Nat} {v : Value} (h : loc ls i = some v) (hc : v.category = 2) : ∃ f, ls[i + 1]? = some (.float f) := by
  unfold loc at h
  split at h
  · cases h; cases hc
  · cases h; cases hc
  · cases h; cases hc
  · split at h
    next f hf => exact ⟨f, hf⟩
    next => cases h
  · cases h
theorem vmv_cat (ad : Nat → Nat) (v : Value) : (vmv ad v).category = v.category := by cases v <;> rfl
theorem loc_of {ls ls' : List Value} {j : Nat} {v : Value} (h : loc ls' j = some v) (h1 : ls'[j]? = ls[j]?) (h2 : ∀ f, ls'[j + 1]? = some (.float f) → ∃ f, ls[j + 1]? = some (.float f)) : loc ls j = some v := by
  unfold loc at h ⊢
  rw [h1] at h
  split at h
  next hx => exact h
  next hx => exact h
  next hx => exact h
  next hx =>
    split at h
    next f hf =>
      obtain ⟨g, hg⟩ := h2 f hf
      rw [hg]
      exact h
    next => cases h
  next => cases h
/-- a value of one slot is stored -/
theorem lR.set1 {ad : Nat → Nat} {ls : List Value} {la : Array Slot} {i : Nat} {x : Value} (hx : x.category = 1) (hf : ∀ f, x ≠ .float f) (hl : lv_has la ls.length ((i, vmv ad x) :: (lvL ad ls).filter (fun q => !(q.1 == i) && !(q.1 + 1 == i && q.2.category == 2)))) (hi : i < ls.length) : lR ad (ls.set i x) la := by
  refine ⟨by rw [List.length_set]; exact hl.1, hl.2.1, fun j v hv => ?_⟩
  by_cases hj : j = i
  · subst hj
    have e : (ls.set j x)[j]? = some x := by rw [List.getElem?_set, if_pos rfl, if_pos hi]
    have hv2 : v = x := by
      unfold loc at hv
      rw [e] at hv
      cases x with
      | int y => cases hv; rfl
      | ref y => cases hv; rfl
      | null => cases hv; rfl
      | long y => cases hx
      | double y => cases hx
      | float y => cases hv
      | retAddr y => cases hv
    subst hv2
    exact hl.2.2 (j, vmv ad v) List.mem_cons_self
  · have e1 : (ls.set i x)[j]? = ls[j]? := by rw [List.getElem?_set, if_neg (fun z => hj z.symm)]
    have hne : v.category = 2 → j + 1 ≠ i := by
      intro hc z
      obtain ⟨f, g⟩ := loc_cat hv hc
      rw [z, List.getElem?_set, if_pos rfl, if_pos hi] at g
      exact hf f (Option.some.inj g)
    have hv0 : loc ls j = some v := by
      refine loc_of hv e1 fun f h => ?_
      rw [List.getElem?_set] at h
      split at h
      · exact absurd (Option.some.inj (by simpa [hi] using h)) (hf f)
      · exact ⟨f, h⟩
    refine hl.2.2 (j, vmv ad v) (List.mem_cons_of_mem _ (List.mem_filter.mpr ⟨lvL_mem hv0, ?_⟩))
    have q1 : (j == i) = false := by simpa using hj
    show (!(j == i) && !(j + 1 == i && (vmv ad v).category == 2)) = true
    rw [q1, vmv_cat]
    by_cases hc : v.category = 2
    · have : (j + 1 == i) = false := by simpa using hne hc
      rw [this]; rfl
    · have : (v.category == 2) = false := by simpa using hc
      rw [this, Bool.and_false]; rfl
/-- a long is stored -/
theorem lR.set2 {ad : Nat → Nat} {ls : List Value} {la : Array Slot} {i : Nat} {x : Int64} (hl : lv_has la ls.length ((i, .long x) :: (lvL ad ls).filter (fun q => !(q.1 == i) && (!(q.1 == i + 1) && !(q.1 + 1 == i && q.2.category == 2))))) (hi : i + 1 < ls.length) : lR ad ((ls.set i (.long x)).set (i + 1) (.float 0)) la := by
  refine ⟨by rw [List.length_set, List.length_set]; exact hl.1, hl.2.1, fun j v hv => ?_⟩
  have g : ∀ j : Nat, ((ls.set i (.long x)).set (i + 1) (.float 0))[j]? = if j = i + 1 then some (.float 0) else if j = i then some (.long x) else ls[j]? := by
    intro j
    rw [List.getElem?_set, List.length_set]
    by_cases h1 : j = i + 1
    · rw [if_pos h1.symm, if_pos h1, if_pos (by omega)]
    · rw [if_neg (fun z => h1 z.symm), if_neg h1, List.getElem?_set]
      by_cases h2 : j = i
      · rw [if_pos h2.symm, if_pos h2, if_pos (by omega)]
      · rw [if_neg (fun z => h2 z.symm), if_neg h2]
  by_cases hj1 : j = i + 1
  · unfold loc at hv
    rw [g, if_pos hj1] at hv
    cases hv
  · by_cases hj : j = i
    · subst hj
      unfold loc at hv
      rw [g, if_neg hj1, if_pos rfl, g, if_pos rfl] at hv
      cases hv
      exact hl.2.2 (j, .long x) List.mem_cons_self
    · have hne : v.category = 2 → j + 1 ≠ i := by
        intro hc z
        obtain ⟨f, hg⟩ := loc_cat hv hc
        rw [z, g, if_neg (by omega), if_pos rfl] at hg
        cases hg
      have hv0 : loc ls j = some v := by
        refine loc_of hv (by rw [g, if_neg hj1, if_neg hj]) fun f h => ?_
        rw [g] at h
        split at h
        · exfalso; omega
        · split at h
          · cases h
          · exact ⟨f, h⟩
      refine hl.2.2 (j, vmv ad v) (List.mem_cons_of_mem _ (List.mem_filter.mpr ⟨lvL_mem hv0, ?_⟩))
      have q1 : (j == i) = false := by simpa using hj
      have q2 : (j == i + 1) = false := by simpa using hj1
      show (!(j == i) && (!(j == i + 1) && !(j + 1 == i && (vmv ad v).category == 2))) = true
      rw [q1, q2, vmv_cat]
      by_cases hc : v.category = 2
      · have : (j + 1 == i) = false := by simpa using hne hc
        rw [this]; rfl
      · have : (v.category == 2) = false := by simpa using hc
        rw [this, Bool.and_false]; rfl
/-- the locals with which a method begins -/
theorem lsO_loc (ad : Nat → Nat) : ∀ (as : List Value) (n p i : Nat) (v : Value), as.all okv = true → loc (lsO as ++ List.replicate n (.retAddr 0)) i = some v → (p + i, vmv ad v) ∈ lv_args p (as.map (vmv ad)) := by
  intro as
  induction as with
  | nil =>
    intro n p i v _ h
    exfalso
    unfold loc at h
    simp only [lsO, List.nil_append] at h
    by_cases hi : i < n
    · rw [List.getElem?_replicate, if_pos hi] at h; cases h
    · rw [List.getElem?_replicate, if_neg hi] at h; cases h
  | cons x as ih =>
    intro n p i v hok h
    simp only [List.all_cons, Bool.and_eq_true] at hok
    have one : x.category = 1 → lsO (x :: as) = x :: lsO as → (∀ f, x ≠ .float f) → (p + i, vmv ad v) ∈ lv_args p ((x :: as).map (vmv ad)) := by
      intro hc he hf
      rw [he] at h
      have hl : lv_args p ((x :: as).map (vmv ad)) = (p, vmv ad x) :: lv_args (p + 1) (as.map (vmv ad)) := by
        show (p, vmv ad x) :: lv_args (if (vmv ad x).category = 2 then p + 2 else p + 1) (as.map (vmv ad)) = _
        rw [vmv_cat, if_neg (by omega)]
      rw [hl]
      cases i with
      | zero =>
        have : v = x := by
          unfold loc at h
          cases x with
          | int y => cases h; rfl
          | ref y => cases h; rfl
          | null => cases h; rfl
          | long y => cases hc
          | double y => cases hc
          | float y => cases h
          | retAddr y => cases h
        rw [this]
        exact List.mem_cons_self
      | succ i =>
        refine List.mem_cons_of_mem _ ?_
        rw [show p + (i + 1) = (p + 1) + i by omega]
        exact ih n (p + 1) i v hok.2 h
    cases x with
    | int y => exact one rfl rfl (fun f z => by cases z)
    | ref y => exact one rfl rfl (fun f z => by cases z)
    | null => exact one rfl rfl (fun f z => by cases z)
    | float y => cases hok.1
    | double y => cases hok.1
    | retAddr y => cases hok.1
    | long y =>
      have hl : lv_args p ((Value.long y :: as).map (vmv ad)) = (p, .long y) :: lv_args (p + 2) (as.map (vmv ad)) := rfl
      rw [hl]
      match i, h with
      | 0, h =>
        have : v = .long y := by
          unfold loc at h
          cases h
          rfl
        rw [this]
        exact List.mem_cons_self
      | 1, h =>
        unfold loc at h
        cases h
      | i + 2, h =>
        refine List.mem_cons_of_mem _ ?_
        rw [show p + (i + 2) = (p + 2) + i by omega]
        exact ih n (p + 2) i v hok.2 h
theorem padL_eq : ∀ (n : Nat) (l : List Value), l.length ≤ n → padL n l = l ++ List.replicate (n - l.length) (.retAddr 0) := by
  intro n
  induction n with
  | zero =>
    intro l h
    cases l with
    | nil => rfl
    | cons a l => simp at h
  | succ n ih =>
    intro l h
    cases l with
    | nil =>
      show Value.retAddr 0 :: padL n [] = _
      rw [ih [] (Nat.zero_le _)]
      rfl
    | cons a l =>
      show a :: padL n l = _
      rw [ih l (by simpa using h)]
      simp
theorem lg_len (ad : Nat → Nat) : ∀ as : List Value, as.all okv = true → (lg_sl (as.map (vmv ad))).length = (lsO as).length := by
  intro as
  induction as with
  | nil => intro _; rfl
  | cons x as ih =>
    intro hok
    simp only [List.all_cons, Bool.and_eq_true] at hok
    have h := ih hok.2
    have e : lg_sl ((x :: as).map (vmv ad)) = (if (vmv ad x).category = 2 then [Slot.val (vmv ad x), .second] else [.val (vmv ad x)]) ++ lg_sl (as.map (vmv ad)) := rfl
    rw [e, List.length_append, h, vmv_cat]
    cases x with
    | int y => show 1 + _ = (lsO as).length + 1; omega
    | ref y => show 1 + _ = (lsO as).length + 1; omega
    | null => show 1 + _ = (lsO as).length + 1; omega
    | float y => cases hok.1
    | double y => cases hok.1
    | retAddr y => cases hok.1
    | long y => show 2 + _ = (lsO as).length + 1 + 1; omega
theorem lR_entry (ad : Nat → Nat) {as : List Value} {n : Nat} (hok : as.all okv = true) (hn : (lsO as).length ≤ n) : lR ad (padL n (lsO as)) ((lg_sl (as.map (vmv ad)) ++ List.replicate (n - (lg_sl (as.map (vmv ad))).length) Slot.unset).toArray) := by
  have h := lv_entry (as.map (vmv ad)) (n := n) (by rw [lg_len ad as hok]; exact hn)
  refine ⟨?_, h.2.1, fun i v hv => ?_⟩
  · rw [h.1, padL_eq n _ hn, List.length_append, List.length_replicate]
    omega
  · rw [padL_eq n _ hn] at hv
    have h1 := lsO_loc ad as (n - (lsO as).length) 0 i v hok hv
    rw [Nat.zero_add] at h1
    exact h.2.2 _ h1
