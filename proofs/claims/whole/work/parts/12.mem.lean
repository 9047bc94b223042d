/-! ===== memory ===== -/
theorem isK_of {σ : Mm} {a c : Nat} (h : isK σ a c = true) : ∃ n, mK σ a = some (c, n) := by
  unfold isK at h
  split at h
  next q hq =>
    obtain ⟨q1, q2⟩ := q
    have : q1 = c := by simpa using h
    subst this
    exact ⟨q2, hq⟩
  next => cases h
theorem okI_of {σ : Mm} {a c : Nat} {i : Int32} (h : okI σ a i c = true) : ∃ n, mK σ a = some (c, n) ∧ inb i n = true := by
  unfold okI at h
  split at h
  next q hq =>
    obtain ⟨q1, q2⟩ := q
    simp only [Bool.and_eq_true, beq_iff_eq] at h
    obtain ⟨h1, h2⟩ := h
    subst h1
    exact ⟨q2, hq, h2⟩
  next => cases h
theorem getF_str {σ : Mm} {a j ty : Nat} {K : Value → Rs} {w : Option Value × Mm} (h : getF σ a (20, j, ty) K = some w) : (a = 1000000 ∨ a = 1000001) ∧ ((j = 0 ∧ K (.ref (a + 10)) = some w) ∨ (j ≠ 0 ∧ K (.int 0) = some w)) := by
  have h1 : (if a = 1000000 ∨ a = 1000001 then (if j = 0 then K (.ref (a + 10)) else K (.int 0)) else none) = some w := h
  obtain ⟨ha, h2⟩ := if_spec h1
  refine ⟨ha, ?_⟩
  by_cases hj : j = 0
  · rw [if_pos hj] at h2
    exact Or.inl ⟨hj, h2⟩
  · rw [if_neg hj] at h2
    exact Or.inr ⟨hj, h2⟩
theorem getF_obj (ad : Nat → Nat) {σ : Mm} {a ci j ty : Nat} {K : Value → Rs} {w : Option Value × Mm} (hci : ci ≠ 20) (ht : fTy ci j = ty) (h : getF σ a (ci, j, ty) K = some w) : (∃ n, mK σ a = some (ci, n)) ∧ ∃ v, vmv ad v = fv ad σ a ci j ∧ K v = some w := by
  have h1 : (if ci = 20 then (if a = 1000000 ∨ a = 1000001 then (if j = 0 then K (.ref (a + 10)) else K (.int 0)) else none) else if isK σ a ci = true then (if ty = 1 then K (.long (mL σ a j)) else if ty = 2 then K (rv (mR σ a j)) else K (.int (mI σ a j))) else none) = some w := h
  rw [if_neg hci] at h1
  obtain ⟨h2, h3⟩ := if_spec h1
  refine ⟨isK_of h2, ?_⟩
  unfold fv
  rw [ht]
  by_cases t1 : ty = 1
  · rw [if_pos t1] at h3 ⊢
    exact ⟨_, rfl, h3⟩
  · rw [if_neg t1] at h3 ⊢
    by_cases t2 : ty = 2
    · rw [if_pos t2] at h3 ⊢
      exact ⟨_, rfl, h3⟩
    · rw [if_neg t2] at h3 ⊢
      exact ⟨_, rfl, h3⟩
theorem putF_spec {σ : Mm} {a ci j ty : Nat} {v : Value} {K : Mm → Rs} {w : Option Value × Mm} (h : putF σ a (ci, j, ty) v K = some w) : (∃ n, mK σ a = some (ci, n)) ∧ ((∃ x, v = .int x ∧ (ty = 0 ∨ (ty = 3 ∧ (x = 0 ∨ x = 1))) ∧ K (uI σ a j x) = some w) ∨ (∃ x, v = .long x ∧ ty = 1 ∧ K (uL σ a j x) = some w) ∨ (∃ b, v = .ref b ∧ ty = 2 ∧ K (uR σ a j (some b)) = some w)) := by
  have h1 : ∃ X, (if isK σ a ci = true then X else none) = some w ∧ X = (match v with
    | .int x => if ty = 0 then K (uI σ a j x) else if ty = 3 ∧ (x = 0 ∨ x = 1) then K (uI σ a j x) else none
    | .long x => if ty = 1 then K (uL σ a j x) else none
    | .ref b => if ty = 2 then K (uR σ a j (some b)) else none
    | _ => none) := by
    cases v <;> exact ⟨_, h, rfl⟩
  obtain ⟨X, h1, hX⟩ := h1
  obtain ⟨h2, h3⟩ := if_spec h1
  refine ⟨isK_of h2, ?_⟩
  rw [hX] at h3
  cases v with
  | int x =>
    left
    dsimp only at h3
    by_cases t : ty = 0
    · rw [if_pos t] at h3
      exact ⟨x, rfl, Or.inl t, h3⟩
    · rw [if_neg t] at h3
      obtain ⟨h4, h5⟩ := if_spec h3
      exact ⟨x, rfl, Or.inr h4, h5⟩
  | long x =>
    obtain ⟨h4, h5⟩ := if_spec h3
    exact Or.inr (Or.inl ⟨x, rfl, h4, h5⟩)
  | ref b =>
    obtain ⟨h4, h5⟩ := if_spec h3
    exact Or.inr (Or.inr ⟨b, rfl, h4, h5⟩)
  | null => cases h3
  | float x => cases h3
  | double x => cases h3
  | retAddr x => cases h3
theorem u2_at {α : Type} {f : Nat → Nat → α} {a j : Nat} {v : α} : u2 f a j v a j = v := by simp [u2]
theorem u2_off {α : Type} {f : Nat → Nat → α} {a j i : Nat} {v : α} (h : i ≠ j) : u2 f a j v a i = f a i := by simp [u2, h]
theorem fv_uI_eq {ad : Nat → Nat} {σ : Mm} {a c j : Nat} {x : Int32} (h1 : fTy c j ≠ 1) (h2 : fTy c j ≠ 2) : fv ad (uI σ a j x) a c j = .int x := by
  unfold fv
  rw [if_neg h1, if_neg h2]
  exact congrArg Value.int u2_at
theorem fv_uI_ne {ad : Nat → Nat} {σ : Mm} {a c j i : Nat} {x : Int32} (h : i ≠ j) : fv ad (uI σ a j x) a c i = fv ad σ a c i := by
  unfold fv
  rw [show mI (uI σ a j x) a i = mI σ a i from u2_off h]
  rfl
theorem fv_uL_eq {ad : Nat → Nat} {σ : Mm} {a c j : Nat} {x : Int64} (h1 : fTy c j = 1) : fv ad (uL σ a j x) a c j = .long x := by
  unfold fv
  rw [if_pos h1]
  exact congrArg Value.long u2_at
theorem fv_uL_ne {ad : Nat → Nat} {σ : Mm} {a c j i : Nat} {x : Int64} (h : i ≠ j) : fv ad (uL σ a j x) a c i = fv ad σ a c i := by
  unfold fv
  rw [show mL (uL σ a j x) a i = mL σ a i from u2_off h]
  rfl
theorem fv_uR_eq {ad : Nat → Nat} {σ : Mm} {a c j b : Nat} (h1 : fTy c j = 2) : fv ad (uR σ a j (some b)) a c j = .ref (ad b) := by
  unfold fv
  rw [if_neg (by omega), if_pos h1, show mR (uR σ a j (some b)) a j = some b from u2_at]
  rfl
theorem fv_uR_ne {ad : Nat → Nat} {σ : Mm} {a c j i : Nat} {x : Option Nat} (h : i ≠ j) : fv ad (uR σ a j x) a c i = fv ad σ a c i := by
  unfold fv
  rw [show mR (uR σ a j x) a i = mR σ a i from u2_off h]
  rfl
theorem tc_0 {ty : FieldType} (h : tcod ty = 0) (x : Int32) : narrow ty (.int x) = .int x ∧ fits ty (.int x) = true := by
  cases ty <;> first | exact ⟨rfl, rfl⟩ | cases h
theorem tc_3 {ty : FieldType} (h : tcod ty = 3) {x : Int32} (hx : x = 0 ∨ x = 1) : narrow ty (.int x) = .int x ∧ fits ty (.int x) = true := by
  cases ty <;> first | (rcases hx with rfl | rfl <;> decide) | cases h
theorem tc_1 {ty : FieldType} (h : tcod ty = 1) (x : Int64) : narrow ty (.long x) = .long x ∧ fits ty (.long x) = true := by
  cases ty <;> first | exact ⟨rfl, rfl⟩ | cases h
theorem tc_2 {ty : FieldType} (h : tcod ty = 2) (x : Nat) : narrow ty (.ref x) = .ref x ∧ fits ty (.ref x) = true := by
  cases ty <;> first | exact ⟨rfl, rfl⟩ | cases h
theorem good_lay (C : String) (T : u_T) (N : Nat) : ∀ w ∈ u_ws C T N, goodWord w = true := by
  intro w hw
  obtain ⟨k, -, rfl⟩ := List.mem_map.mp hw
  unfold u_lay
  split <;> rfl
theorem cstS_spec {o ix a : Nat} (h : cstS o ix = some a) : o = 4 ∧ ((ix = 90 ∧ a = 1000000) ∨ (ix = 101 ∧ a = 1000001)) := by
  obtain ⟨hm, ho⟩ := find_of (L := cstST) (o := o) (ix := ix) h
  have key : ∀ o, o < 15 → ∀ q ∈ cstST.getD o [], o = 4 ∧ ((q.1 = 90 ∧ q.2 = 1000000) ∨ (q.1 = 101 ∧ q.2 = 1000001)) := by decide
  exact key o ho _ hm
section Mem
variable {p : Program} {l : Launch} {e : Env} {R : Room} {s : State} {m : MethodId} {args : Array Value} {below : List Frame} {meth : Method} {c : Code} {D : va_G} {kA : Nat → ClassId} {ad : Nat → Nat} {A : Nat → Prop} {M : Nat} {w : Option Value × Mm} {u0 : Nat × Nat} {Q : State → Prop} {pc : Nat} {ls st : List Value} {σ : Mm} {k : Nat → List Value → List Value → Mm → Rs}
theorem cx_hts (cx : Cx p l e R s m args below meth c M) {w : Cond} (h : w ∈ lw_tbl) (hg : goodWord w = true) : w.before args s = true := cx.2.2.2.2.2.1 w h hg
theorem cx_lay (cx : Cx p l e R s m args below meth c M) {ci : Nat} (hc : ci < 10) : ∀ w ∈ u_ws (Rn ci) (clC ci).2.1 (nF ci), w.before args s = true := fun w h => cx_hts cx ((f_cls hc).2.1 w h) (good_lay _ _ _ w h)
theorem o_getfield (cx : Cx p l e R s m args below meth c M) (hk : ∀ pc2 ls2 st2 σ2, k pc2 ls2 st2 σ2 = some w → Gd p l e R s m args below meth c D kA ad A w u0 Q pc2 ls2 st2 σ2) {call : Nat → List Value → Mm → Rs} {idx : Nat} (hd : decode (cM M) pc = .ok (.getfield idx, 3)) (h : p_getfield idx M pc ls st σ k call = some w) : Gd p l e R s m args below meth c D kA ad A w u0 Q pc ls st σ := by
  unfold p_getfield at h
  cases hf : fld (oM M) idx with
  | none => rw [hf] at h; cases h
  | some f =>
    obtain ⟨ci, j, ty⟩ := f
    rw [hf] at h
    obtain ⟨x, r, rfl, h3⟩ := s_r_spec h
    rcases f_fld hf with ⟨rfl, ho, hlk⟩ | ⟨h20, hci, hj, hty, hlk⟩
    · obtain ⟨ha, h3⟩ := getF_str h3
      obtain ⟨i, hi, rfl⟩ : ∃ i : Nat, i < 2 ∧ x = 1000000 + i := by
        rcases ha with rfl | rfl
        · exact ⟨0, by omega, rfl⟩
        · exact ⟨1, by omega, rfl⟩
      rcases h3 with ⟨hj, h3⟩ | ⟨hj, h3⟩
      · rw [if_pos hj] at hlk
        obtain ⟨hm, hg⟩ := hk _ _ _ _ h3
        refine ⟨hm, fun H locs la hw hl a b => ?_⟩
        have hE := hw.2.2.2.2.1.2.2.2.1.1 i hi
        have hgo := hg H locs la hw hl a b
        rw [show 1000000 + i + 10 = 1000010 + i by omega] at hgo
        exact vk_getf cx.1 cx.2.1 hE.2.2.1 hw.2.2.2.1 cx.2.2.2.1 (cx_hts cx hlk rfl) (fun _ h => h) hd hgo
      · rw [if_neg hj] at hlk
        obtain ⟨hm, hg⟩ := hk _ _ _ _ h3
        refine ⟨hm, fun H locs la hw hl a b => ?_⟩
        have hE := hw.2.2.2.2.1.2.2.2.1.1 i hi
        exact vk_getf cx.1 cx.2.1 hE.2.1 hw.2.2.2.1 cx.2.2.2.1 (cx_hts cx hlk rfl) (fun _ h => h) hd (hg H locs la hw hl a b)
    · obtain ⟨⟨n, hn⟩, v, hv, h3⟩ := getF_obj ad h20 hty h3
      obtain ⟨hm, hg⟩ := hk _ _ _ _ h3
      refine ⟨hm, fun H locs la hw hl a b => ?_⟩
      have hat := wsO_at (kA := kA) (ad := ad) hn
      rw [ent_obj (by omega)] at hat
      have hgo := hg H locs la hw hl a b
      rw [List.map_cons, hv] at hgo
      have hfc := f_cls hci
      refine va_get (Ts := u_ws (Rn ci) (clC ci).2.1 (nF ci)) cx.1 cx.2.1 (cx_lay cx hci) (fun _ h => h) cx.2.2.2.1 hw.1 hw.2.1 x hat hfc.1 j hj (cx_hts cx hlk rfl) (fun z hz => ?_) (v := fv ad σ x ci j) ?_ hd hgo
      · rw [(hfc.2.2.2.2 j hj).1] at hz
        exact hz
      · rw [List.getElem?_map, List.getElem?_range hj]
        rfl
theorem wo_put {H1 : Heap} {locs1 : List Loc} {H : Heap} {locs : List Loc} {σ2 : Mm} {i : Nat} {q : Nat × va_E} (hw : Wo D kA ad A s H locs σ) (hX : mX σ2 = mX σ) (he : wsO kA ad σ2 = (wsO kA ad σ).set i q) (hP : va_P D vwCl ((wsO kA ad σ).set i q) H1) (hD : va_D A ((wsO kA ad σ).set i q)) (hS : va_S A s.heap H1 locs1) : Wo D kA ad A s H1 locs1 σ2 :=
  ⟨hw.1, by rw [he]; exact hP, by rw [he]; exact hD, hS, by rw [hX]; exact hw.2.2.2.2.1, hw.2.2.2.2.2⟩
theorem o_putfield (cx : Cx p l e R s m args below meth c M) (hk : ∀ pc2 ls2 st2 σ2, k pc2 ls2 st2 σ2 = some w → Gd p l e R s m args below meth c D kA ad A w u0 Q pc2 ls2 st2 σ2) {call : Nat → List Value → Mm → Rs} {idx : Nat} (hd : decode (cM M) pc = .ok (.putfield idx, 3)) (h : p_putfield idx M pc ls st σ k call = some w) : Gd p l e R s m args below meth c D kA ad A w u0 Q pc ls st σ := by
  unfold p_putfield at h
  cases hf : fld (oM M) idx with
  | none => rw [hf] at h; cases h
  | some f =>
    obtain ⟨ci, j, ty⟩ := f
    rw [hf] at h
    match st, h with
    | [], h => cases h
    | [_], h => cases h
    | v :: .int _ :: r, h => cases h
    | v :: .long _ :: r, h => cases h
    | v :: .float _ :: r, h => cases h
    | v :: .double _ :: r, h => cases h
    | v :: .null :: r, h => cases h
    | v :: .retAddr _ :: r, h => cases h
    | v :: .ref x :: r, h =>
      obtain ⟨hfin, h3⟩ := if_spec h
      rcases f_fld hf with ⟨rfl, ho, hlk⟩ | ⟨h20, hci, hj, hty, hlk⟩
      · obtain ⟨⟨n, hn⟩, -⟩ := putF_spec h3
        exact absurd hfin (by
          have : fFin 20 j = true := by unfold fFin; rfl
          rintro (z | ⟨-, z⟩)
          · rw [this] at z; cases z
          · have : (20 : Nat) = oM M := z
            omega)
      · obtain ⟨⟨n, hn⟩, hcase⟩ := putF_spec h3
        have hfc := f_cls hci
        have hft := hfc.2.2.2.2 j hj
        have hat := wsO_at (kA := kA) (ad := ad) hn
        rw [ent_obj (by omega)] at hat
        have hlen : j < ((List.range (nF ci)).map (fv ad σ x ci)).length := by rw [List.length_map, List.length_range]; exact hj
        have hsame : ∀ z, s.fieldFound? ((clC ci).2.1 j).1 ((clC ci).2.1 j).2.1 ((clC ci).2.1 j).2.2.1 = some z → s.fieldFound? (Rn ci) ((clC ci).2.1 j).2.1 ((clC ci).2.1 j).2.2.1 = some z := fun z hz => by rw [hft.1] at hz; exact hz
        have go : ∀ (v2 : Value) (σ2 : Mm), vmv ad v = v2 → narrow (tyC ci j) v2 = v2 → fits (tyC ci j) v2 = true → mX σ2 = mX σ → mU σ2 = mU σ → wsO kA ad σ2 = (wsO kA ad σ).set x (ad x, .inr (ci, ((List.range (nF ci)).map (fv ad σ x ci)).set j v2)) → k (pc + 3) ls r σ2 = some w → Gd p l e R s m args below meth c D kA ad A w u0 Q pc ls (v :: .ref x :: r) σ := by
          intro v2 σ2 hv hnar hfit hX hU hws hkk
          obtain ⟨hm, hg⟩ := hk _ _ _ _ hkk
          refine ⟨by unfold le2 at hm ⊢; rw [hU, hX] at hm; exact hm, fun H locs la hw hl a b => ?_⟩
          rw [List.map_cons, hv]
          have fin : ∀ (H1 : Heap) (locs1 : List Loc), va_P D vwCl ((wsO kA ad σ).set x (ad x, .inr (ci, ((List.range (nF ci)).map (fv ad σ x ci)).set j v2))) H1 → va_D A ((wsO kA ad σ).set x (ad x, .inr (ci, ((List.range (nF ci)).map (fv ad σ x ci)).set j v2))) → va_S A s.heap H1 locs1 → W p l e R s m args below meth c H1 locs1 ((mU σ).1 - u0.1) ((mU σ).2.1 - u0.2) Q (F0 m (pc + 3) la (r.map (vmv ad))) := by
            intro H1 locs1 hP1 hD1 hS1
            have hgo := hg H1 locs1 la (wo_put hw hX hws hP1 hD1 hS1) hl (by rw [hU]; exact a) (by rw [hU]; exact b)
            rw [hU] at hgo
            exact hgo
          by_cases hfi : fFin ci j = false
          · exact va_put (Ts := u_ws (Rn ci) (clC ci).2.1 (nF ci)) cx.1 cx.2.1 (cx_lay cx hci) (fun _ h => h) (tyC ci) hfc.2.2.2.1 hfc.2.2.1 cx.2.2.2.1 hw.1 hw.2.1 hw.2.2.1 hw.2.2.2.1 x hat hfc.1 j hj (cx_hts cx hlk rfl) hsame (hft.2.2.trans hfi) (hfc.2.2.2.1 j hj) hnar hfit hlen hd fin
          · have hin : inM M = true ∧ ci = oM M := by
              rcases hfin with z | z
              · exact absurd z hfi
              · exact z
            have hnm : meth.name = "<init>" := cx.2.2.2.2.1.1 hin.1
            exact va_putF (Ts := u_ws (Rn ci) (clC ci).2.1 (nF ci)) cx.1 cx.2.1 (cx_lay cx hci) (fun _ h => h) (tyC ci) hfc.2.2.2.1 hfc.2.2.1 cx.2.2.2.1 hw.1 hw.2.1 hw.2.2.1 hw.2.2.2.1 x hat hfc.1 j hj (cx_hts cx hlk rfl) hsame (by rw [hft.2.2]; simpa using hfi) hnm (by rw [hft.1, hin.2]) (hfc.2.2.2.1 j hj) hnar hfit hlen hd fin
        have e1 : tcod (tyC ci j) = ty := hft.2.1.trans hty
        rcases hcase with ⟨y, rfl, ht, hkk⟩ | ⟨y, rfl, ht, hkk⟩ | ⟨y, rfl, ht, hkk⟩
        · have hnf : narrow (tyC ci j) (.int y) = .int y ∧ fits (tyC ci j) (.int y) = true := by
            rcases ht with ht | ⟨ht, hy⟩
            · exact tc_0 (e1.trans ht) y
            · exact tc_3 (e1.trans ht) hy
          exact go (.int y) (uI σ x j y) rfl hnf.1 hnf.2 rfl rfl (ws_field (by omega) hn rfl (fun b hb => mI_uI_ne hb) (fun b hb => rfl) (fun b hb => rfl) (fv_uI_eq (by rw [hty]; omega) (by rw [hty]; omega)) (fun i hi => fv_uI_ne hi)) hkk
        · have hnf := tc_1 (e1.trans ht) y
          exact go (.long y) (uL σ x j y) rfl hnf.1 hnf.2 rfl rfl (ws_field (by omega) hn rfl (fun b hb => rfl) (fun b hb => mL_uL_ne hb) (fun b hb => rfl) (fv_uL_eq (by rw [hty]; omega)) (fun i hi => fv_uL_ne hi)) hkk
        · have hnf := tc_2 (e1.trans ht) (ad y)
          exact go (.ref (ad y)) (uR σ x j (some y)) rfl hnf.1 hnf.2 rfl rfl (ws_field (by omega) hn rfl (fun b hb => rfl) (fun b hb => rfl) (fun b hb => mR_uR_ne hb) (fv_uR_eq (by rw [hty]; omega)) (fun i hi => fv_uR_ne hi)) hkk
end Mem
