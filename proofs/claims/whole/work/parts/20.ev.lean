/-! ===== more fuel, the same end; runs without fuel ===== -/
theorem ite_up {α : Type} {b : Prop} {_ : Decidable b} {x x' y y' : Option α} {w : α} (h : (if b then x else y) = some w) (hx : x = some w → x' = some w) (hy : y = some w → y' = some w) : (if b then x' else y') = some w := by
  split at h
  next hb => rw [if_pos hb]; exact hx h
  next hb => rw [if_neg hb]; exact hy h
theorem if_up {α : Type} {b : Prop} {_ : Decidable b} {x x' : Option α} {w : α} (h : (if b then x else none) = some w) (hx : x = some w → x' = some w) : (if b then x' else none) = some w := ite_up h hx id
theorem s_i_up {st : List Value} {f f' : Int32 → List Value → Rs} {w : Option Value × Mm} (h : s_i st f = some w) (hf : ∀ x r, f x r = some w → f' x r = some w) : s_i st f' = some w := by
  obtain ⟨x, r, rfl, h⟩ := s_i_spec h
  exact hf _ _ h
theorem s_l_up {st : List Value} {f f' : Int64 → List Value → Rs} {w : Option Value × Mm} (h : s_l st f = some w) (hf : ∀ x r, f x r = some w → f' x r = some w) : s_l st f' = some w := by
  obtain ⟨x, r, rfl, h⟩ := s_l_spec h
  exact hf _ _ h
theorem s_r_up {st : List Value} {f f' : Nat → List Value → Rs} {w : Option Value × Mm} (h : s_r st f = some w) (hf : ∀ x r, f x r = some w → f' x r = some w) : s_r st f' = some w := by
  obtain ⟨x, r, rfl, h⟩ := s_r_spec h
  exact hf _ _ h
theorem s_ii_up {st : List Value} {f f' : Int32 → Int32 → List Value → Rs} {w : Option Value × Mm} (h : s_ii st f = some w) (hf : ∀ x y r, f x y r = some w → f' x y r = some w) : s_ii st f' = some w := by
  obtain ⟨x, y, r, rfl, h⟩ := s_ii_spec h
  exact hf _ _ _ h
theorem s_ll_up {st : List Value} {f f' : Int64 → Int64 → List Value → Rs} {w : Option Value × Mm} (h : s_ll st f = some w) (hf : ∀ x y r, f x y r = some w → f' x y r = some w) : s_ll st f' = some w := by
  obtain ⟨x, y, r, rfl, h⟩ := s_ll_spec h
  exact hf _ _ _ h
theorem s_ri_up {st : List Value} {f f' : Nat → Int32 → List Value → Rs} {w : Option Value × Mm} (h : s_ri st f = some w) (hf : ∀ x y r, f x y r = some w → f' x y r = some w) : s_ri st f' = some w := by
  obtain ⟨x, y, r, rfl, h⟩ := s_ri_spec h
  exact hf _ _ _ h
theorem s_rii_up {st : List Value} {f f' : Nat → Int32 → Int32 → List Value → Rs} {w : Option Value × Mm} (h : s_rii st f = some w) (hf : ∀ x y z r, f x y z r = some w → f' x y z r = some w) : s_rii st f' = some w := by
  obtain ⟨x, y, z, r, rfl, h⟩ := s_rii_spec h
  exact hf _ _ _ _ h
theorem s_ril_up {st : List Value} {f f' : Nat → Int32 → Int64 → List Value → Rs} {w : Option Value × Mm} (h : s_ril st f = some w) (hf : ∀ x y z r, f x y z r = some w → f' x y z r = some w) : s_ril st f' = some w := by
  obtain ⟨x, y, z, r, rfl, h⟩ := s_ril_spec h
  exact hf _ _ _ _ h
theorem jmp_up {pc : Nat} {off : Int} {f f' : Nat → Rs} {w : Option Value × Mm} (h : jmp pc off f = some w) (hf : ∀ t, f t = some w → f' t = some w) : jmp pc off f' = some w := by
  unfold jmp at h ⊢
  exact if_up h (hf _)
theorem getF_up {σ : Mm} {a : Nat} {f : Nat × Nat × Nat} {K K' : Value → Rs} {w : Option Value × Mm} (h : getF σ a f K = some w) (hK : ∀ v, K v = some w → K' v = some w) : getF σ a f K' = some w := by
  unfold getF at h ⊢
  exact ite_up h (fun h => if_up h (fun h => ite_up h (hK _) (hK _))) (fun h => if_up h (fun h => ite_up h (hK _) (fun h => ite_up h (hK _) (hK _))))
theorem putF_up {σ : Mm} {a : Nat} {f : Nat × Nat × Nat} {v : Value} {K K' : Mm → Rs} {w : Option Value × Mm} (h : putF σ a f v K = some w) (hK : ∀ v, K v = some w → K' v = some w) : putF σ a f v K' = some w := by
  unfold putF at h ⊢
  refine if_up h (fun h => ?_)
  cases v with
  | int x => exact ite_up h (hK _) (fun h => if_up h (hK _))
  | long x => exact if_up h (hK _)
  | ref x => exact if_up h (hK _)
  | _ => cases h
section Up
variable {M pc : Nat} {ls st : List Value} {σ : Mm} {w : Option Value × Mm} {k k' : Nat → List Value → List Value → Mm → Rs} {call call' : Nat → List Value → Mm → Rs}
theorem lampP_up {a o : Nat} {x y : Int32} {w : Int32 × Mm} (hc : ∀ j as σ w1, call j as σ = some w1 → call' j as σ = some w1) (h : lampP a x y o σ call = some w) : lampP a x y o σ call' = some w := by
  unfold lampP at h ⊢
  refine if_up h (fun h => ?_)
  cases hca : call mX8_isLamp [.ref a, .int x] σ with
  | none => rw [hca] at h; cases h
  | some q =>
    rw [hca] at h
    rw [hc _ _ _ _ hca]
    obtain ⟨v, σ1⟩ := q
    match v, h with
    | none, h => cases h
    | some (.long _), h => cases h
    | some (.ref _), h => cases h
    | some (.null), h => cases h
    | some (.float _), h => cases h
    | some (.double _), h => cases h
    | some (.retAddr _), h => cases h
    | some (.int b), h =>
      refine ite_up h id (fun h => ?_)
      cases hr : mR σ1 a 2 with
      | none => rw [hr] at h; cases h
      | some hh =>
        rw [hr] at h
        refine if_up h (fun h => ite_up h id (fun h => ite_up h id (fun h => ite_up h id (fun h => ite_up h (fun h => ?_) id))))
        cases hcb : call mX2_pullsTiedTo [.ref hh, .int x] σ1 with
        | none => rw [hcb] at h; cases h
        | some q =>
          rw [hcb] at h
          rw [hc _ _ _ _ hcb]
          exact h
theorem u_getfield (hk : ∀ pc2 ls2 st2 σ2, k pc2 ls2 st2 σ2 = some w → k' pc2 ls2 st2 σ2 = some w) (hc : ∀ j as σ w1, call j as σ = some w1 → call' j as σ = some w1) {idx : Nat} (h : p_getfield idx M pc ls st σ k call = some w) : p_getfield idx M pc ls st σ k' call' = some w := by
  unfold p_getfield at h ⊢
  cases hf : fld (oM M) idx with
  | none => rw [hf] at h; cases h
  | some f =>
    rw [hf] at h
    exact s_r_up h (fun x r h => getF_up h (fun v h => hk _ _ _ _ h))
theorem u_putfield (hk : ∀ pc2 ls2 st2 σ2, k pc2 ls2 st2 σ2 = some w → k' pc2 ls2 st2 σ2 = some w) (hc : ∀ j as σ w1, call j as σ = some w1 → call' j as σ = some w1) {idx : Nat} (h : p_putfield idx M pc ls st σ k call = some w) : p_putfield idx M pc ls st σ k' call' = some w := by
  unfold p_putfield at h ⊢
  cases hf : fld (oM M) idx with
  | none => rw [hf] at h; cases h
  | some f =>
    rw [hf] at h
    match st, h with
    | [], h => cases h
    | [_], h => cases h
    | v :: .int _ :: r, h => cases h
    | v :: .long _ :: r, h => cases h
    | v :: .float _ :: r, h => cases h
    | v :: .double _ :: r, h => cases h
    | v :: .null :: r, h => cases h
    | v :: .retAddr _ :: r, h => cases h
    | v :: .ref x :: r, h => exact if_up h (fun h => putF_up h (fun σ2 h => hk _ _ _ _ h))
theorem u_iaload (hk : ∀ pc2 ls2 st2 σ2, k pc2 ls2 st2 σ2 = some w → k' pc2 ls2 st2 σ2 = some w) (hc : ∀ j as σ w1, call j as σ = some w1 → call' j as σ = some w1)  (h : p_iaload M pc ls st σ k call = some w) : p_iaload M pc ls st σ k' call' = some w := by
  refine s_ri_up h (fun x y r h => ?_)
  cases hf : rdI σ x y with
  | none => rw [hf] at h; cases h
  | some f =>
    rw [hf] at h
    exact hk _ _ _ _ h
theorem u_baload (hk : ∀ pc2 ls2 st2 σ2, k pc2 ls2 st2 σ2 = some w → k' pc2 ls2 st2 σ2 = some w) (hc : ∀ j as σ w1, call j as σ = some w1 → call' j as σ = some w1)  (h : p_baload M pc ls st σ k call = some w) : p_baload M pc ls st σ k' call' = some w := by
  refine s_ri_up h (fun x y r h => ?_)
  cases hf : rdB σ x y with
  | none => rw [hf] at h; cases h
  | some f =>
    rw [hf] at h
    exact hk _ _ _ _ h
theorem u_laload (hk : ∀ pc2 ls2 st2 σ2, k pc2 ls2 st2 σ2 = some w → k' pc2 ls2 st2 σ2 = some w) (hc : ∀ j as σ w1, call j as σ = some w1 → call' j as σ = some w1)  (h : p_laload M pc ls st σ k call = some w) : p_laload M pc ls st σ k' call' = some w := by
  refine s_ri_up h (fun x y r h => ?_)
  cases hf : rdL σ x y with
  | none => rw [hf] at h; cases h
  | some f =>
    rw [hf] at h
    exact hk _ _ _ _ h
theorem u_arraylength (hk : ∀ pc2 ls2 st2 σ2, k pc2 ls2 st2 σ2 = some w → k' pc2 ls2 st2 σ2 = some w) (hc : ∀ j as σ w1, call j as σ = some w1 → call' j as σ = some w1)  (h : p_arraylength M pc ls st σ k call = some w) : p_arraylength M pc ls st σ k' call' = some w := by
  refine s_r_up h (fun x r h => ?_)
  cases hf : alen σ x with
  | none => rw [hf] at h; cases h
  | some f =>
    rw [hf] at h
    exact hk _ _ _ _ h
theorem u_iastore (hk : ∀ pc2 ls2 st2 σ2, k pc2 ls2 st2 σ2 = some w → k' pc2 ls2 st2 σ2 = some w) (hc : ∀ j as σ w1, call j as σ = some w1 → call' j as σ = some w1)  (h : p_iastore M pc ls st σ k call = some w) : p_iastore M pc ls st σ k' call' = some w := by
  exact s_rii_up h (fun x y z r h => if_up h (fun h => hk _ _ _ _ h))
theorem u_lastore (hk : ∀ pc2 ls2 st2 σ2, k pc2 ls2 st2 σ2 = some w → k' pc2 ls2 st2 σ2 = some w) (hc : ∀ j as σ w1, call j as σ = some w1 → call' j as σ = some w1)  (h : p_lastore M pc ls st σ k call = some w) : p_lastore M pc ls st σ k' call' = some w := by
  exact s_ril_up h (fun x y z r h => if_up h (fun h => hk _ _ _ _ h))
theorem u_bastore (hk : ∀ pc2 ls2 st2 σ2, k pc2 ls2 st2 σ2 = some w → k' pc2 ls2 st2 σ2 = some w) (hc : ∀ j as σ w1, call j as σ = some w1 → call' j as σ = some w1)  (h : p_bastore M pc ls st σ k call = some w) : p_bastore M pc ls st σ k' call' = some w := by
  exact s_rii_up h (fun x y z r h => ite_up h (fun h => hk _ _ _ _ h) (fun h => if_up h (fun h => hk _ _ _ _ h)))
theorem u_ldc (hk : ∀ pc2 ls2 st2 σ2, k pc2 ls2 st2 σ2 = some w → k' pc2 ls2 st2 σ2 = some w) (hc : ∀ j as σ w1, call j as σ = some w1 → call' j as σ = some w1) {idx : Nat} (h : p_ldc idx M pc ls st σ k call = some w) : p_ldc idx M pc ls st σ k' call' = some w := by
  unfold p_ldc at h ⊢
  cases hf : cstI (oM M) idx with
  | none =>
    rw [hf] at h
    cases hg : cstS (oM M) idx with
    | none => rw [hg] at h; cases h
    | some f =>
      rw [hg] at h
      exact hk _ _ _ _ h
  | some f =>
    rw [hf] at h
    exact hk _ _ _ _ h
theorem u_ldc_w (hk : ∀ pc2 ls2 st2 σ2, k pc2 ls2 st2 σ2 = some w → k' pc2 ls2 st2 σ2 = some w) (hc : ∀ j as σ w1, call j as σ = some w1 → call' j as σ = some w1) {idx : Nat} (h : p_ldc_w idx M pc ls st σ k call = some w) : p_ldc_w idx M pc ls st σ k' call' = some w := by
  unfold p_ldc_w at h ⊢
  cases hf : cstI (oM M) idx with
  | none => rw [hf] at h; cases h
  | some f =>
    rw [hf] at h
    exact hk _ _ _ _ h
theorem u_ldc2_w (hk : ∀ pc2 ls2 st2 σ2, k pc2 ls2 st2 σ2 = some w → k' pc2 ls2 st2 σ2 = some w) (hc : ∀ j as σ w1, call j as σ = some w1 → call' j as σ = some w1) {idx : Nat} (h : p_ldc2_w idx M pc ls st σ k call = some w) : p_ldc2_w idx M pc ls st σ k' call' = some w := by
  unfold p_ldc2_w at h ⊢
  cases hf : cstL (oM M) idx with
  | none => rw [hf] at h; cases h
  | some f =>
    rw [hf] at h
    exact hk _ _ _ _ h
theorem u_getstatic (hk : ∀ pc2 ls2 st2 σ2, k pc2 ls2 st2 σ2 = some w → k' pc2 ls2 st2 σ2 = some w) (hc : ∀ j as σ w1, call j as σ = some w1 → call' j as σ = some w1) {idx : Nat} (h : p_getstatic idx M pc ls st σ k call = some w) : p_getstatic idx M pc ls st σ k' call' = some w := by
  exact if_up h (fun h => hk _ _ _ _ h)
theorem u_tableswitch (hk : ∀ pc2 ls2 st2 σ2, k pc2 ls2 st2 σ2 = some w → k' pc2 ls2 st2 σ2 = some w) (hc : ∀ j as σ w1, call j as σ = some w1 → call' j as σ = some w1) {d lo hi : Int} {offs : Array Int} (h : p_tableswitch d lo hi offs M pc ls st σ k call = some w) : p_tableswitch d lo hi offs M pc ls st σ k' call' = some w := by
  refine s_i_up h (fun x r h => ?_)
  cases hf : swT lo hi d offs x with
  | none => rw [hf] at h; cases h
  | some f =>
    rw [hf] at h
    exact jmp_up h (fun t h => hk _ _ _ _ h)
theorem u_lookupswitch (hk : ∀ pc2 ls2 st2 σ2, k pc2 ls2 st2 σ2 = some w → k' pc2 ls2 st2 σ2 = some w) (hc : ∀ j as σ w1, call j as σ = some w1 → call' j as σ = some w1) {d : Int} {ps : Array (Int × Int)} (h : p_lookupswitch d ps M pc ls st σ k call = some w) : p_lookupswitch d ps M pc ls st σ k' call' = some w := by
  exact s_i_up h (fun x r h => if_up h (fun h => jmp_up h (fun t h => hk _ _ _ _ h)))
theorem u_new (hk : ∀ pc2 ls2 st2 σ2, k pc2 ls2 st2 σ2 = some w → k' pc2 ls2 st2 σ2 = some w) (hc : ∀ j as σ w1, call j as σ = some w1 → call' j as σ = some w1) {idx : Nat} (h : p_new idx M pc ls st σ k call = some w) : p_new idx M pc ls st σ k' call' = some w := by
  unfold p_new at h ⊢
  cases hf : newT (oM M) idx with
  | none => rw [hf] at h; cases h
  | some f =>
    rw [hf] at h
    exact if_up h (fun h => hk _ _ _ _ h)
theorem u_newarray (hk : ∀ pc2 ls2 st2 σ2, k pc2 ls2 st2 σ2 = some w → k' pc2 ls2 st2 σ2 = some w) (hc : ∀ j as σ w1, call j as σ = some w1 → call' j as σ = some w1) {t : ArrayType} (h : p_newarray t M pc ls st σ k call = some w) : p_newarray t M pc ls st σ k' call' = some w := by
  refine s_i_up h (fun x r h => ?_)
  cases hf : arT t with
  | none => rw [hf] at h; cases h
  | some f =>
    rw [hf] at h
    exact if_up h (fun h => hk _ _ _ _ h)
theorem u_dup (hk : ∀ pc2 ls2 st2 σ2, k pc2 ls2 st2 σ2 = some w → k' pc2 ls2 st2 σ2 = some w) (hc : ∀ j as σ w1, call j as σ = some w1 → call' j as σ = some w1)  (h : p_dup M pc ls st σ k call = some w) : p_dup M pc ls st σ k' call' = some w := by
  cases st with
  | nil => cases h
  | cons v r => exact if_up h (fun h => hk _ _ _ _ h)
theorem u_pop (hk : ∀ pc2 ls2 st2 σ2, k pc2 ls2 st2 σ2 = some w → k' pc2 ls2 st2 σ2 = some w) (hc : ∀ j as σ w1, call j as σ = some w1 → call' j as σ = some w1)  (h : p_pop M pc ls st σ k call = some w) : p_pop M pc ls st σ k' call' = some w := by
  cases st with
  | nil => cases h
  | cons v r => exact if_up h (fun h => hk _ _ _ _ h)
theorem u_dup2 (hk : ∀ pc2 ls2 st2 σ2, k pc2 ls2 st2 σ2 = some w → k' pc2 ls2 st2 σ2 = some w) (hc : ∀ j as σ w1, call j as σ = some w1 → call' j as σ = some w1)  (h : p_dup2 M pc ls st σ k call = some w) : p_dup2 M pc ls st σ k' call' = some w := by
  match st, h with
  | [], h => cases h
  | [_], h => cases h
  | v :: v2 :: r, h => exact if_up h (fun h => hk _ _ _ _ h)
theorem u_scall (hk : ∀ pc2 ls2 st2 σ2, k pc2 ls2 st2 σ2 = some w → k' pc2 ls2 st2 σ2 = some w) (hc : ∀ j as σ w1, call j as σ = some w1 → call' j as σ = some w1) {j n : Nat} (h : p_scall j n M pc ls st σ k call = some w) : p_scall j n M pc ls st σ k' call' = some w := by
  unfold p_scall at h ⊢
  cases hp : popN n st [] with
  | none => rw [hp] at h; cases h
  | some q =>
    obtain ⟨as, r⟩ := q
    rw [hp] at h
    refine if_up h (fun h => ?_)
    cases hca : call j as σ with
    | none => rw [hca] at h; cases h
    | some w1 =>
      rw [hca] at h
      rw [hc _ _ _ _ hca]
      exact hk _ _ _ _ h
theorem u_vcall (hk : ∀ pc2 ls2 st2 σ2, k pc2 ls2 st2 σ2 = some w → k' pc2 ls2 st2 σ2 = some w) (hc : ∀ j as σ w1, call j as σ = some w1 → call' j as σ = some w1) {j n : Nat} (h : p_vcall j n M pc ls st σ k call = some w) : p_vcall j n M pc ls st σ k' call' = some w := by
  unfold p_vcall at h ⊢
  cases hp : popN n st [] with
  | none => rw [hp] at h; cases h
  | some q =>
    obtain ⟨as, r0⟩ := q
    rw [hp] at h
    match r0, h with
    | [], h => cases h
    | .int _ :: r, h => cases h
    | .long _ :: r, h => cases h
    | .float _ :: r, h => cases h
    | .double _ :: r, h => cases h
    | .null :: r, h => cases h
    | .retAddr _ :: r, h => cases h
    | .ref x :: r, h =>
      refine if_up h (fun h => ?_)
      cases hca : call j (.ref x :: as) σ with
      | none => rw [hca] at h; cases h
      | some w1 =>
        rw [hca] at h
        rw [hc _ _ _ _ hca]
        exact hk _ _ _ _ h
theorem u_icall (hk : ∀ pc2 ls2 st2 σ2, k pc2 ls2 st2 σ2 = some w → k' pc2 ls2 st2 σ2 = some w) (hc : ∀ j as σ w1, call j as σ = some w1 → call' j as σ = some w1) {j n : Nat} (h : p_icall j n M pc ls st σ k call = some w) : p_icall j n M pc ls st σ k' call' = some w := by
  unfold p_icall at h ⊢
  cases hp : popN n st [] with
  | none => rw [hp] at h; cases h
  | some q =>
    obtain ⟨as, r0⟩ := q
    rw [hp] at h
    match r0, h with
    | [], h => cases h
    | .int _ :: r, h => cases h
    | .long _ :: r, h => cases h
    | .float _ :: r, h => cases h
    | .double _ :: r, h => cases h
    | .null :: r, h => cases h
    | .retAddr _ :: r, h => cases h
    | .ref x :: r, h =>
      refine if_up h (fun h => ?_)
      cases hca : call j (.ref x :: as) σ with
      | none => rw [hca] at h; cases h
      | some w1 =>
        rw [hca] at h
        rw [hc _ _ _ _ hca]
        obtain ⟨v1, σ1⟩ := w1
        cases v1 with
        | none => exact hk _ _ _ _ h
        | some v => cases h
theorem u_invokevirtual (hk : ∀ pc2 ls2 st2 σ2, k pc2 ls2 st2 σ2 = some w → k' pc2 ls2 st2 σ2 = some w) (hc : ∀ j as σ w1, call j as σ = some w1 → call' j as σ = some w1) {idx : Nat} (h : p_invokevirtual idx M pc ls st σ k call = some w) : p_invokevirtual idx M pc ls st σ k' call' = some w := by
  unfold p_invokevirtual at h ⊢
  cases hf : callT (oM M) idx with
  | none => rw [hf] at h; cases h
  | some f =>
    rw [hf] at h
    exact if_up h (fun h => u_vcall hk hc h)
theorem u_copy (hk : ∀ pc2 ls2 st2 σ2, k pc2 ls2 st2 σ2 = some w → k' pc2 ls2 st2 σ2 = some w) (hc : ∀ j as σ w1, call j as σ = some w1 → call' j as σ = some w1)  (h : p_copy M pc ls st σ k call = some w) : p_copy M pc ls st σ k' call' = some w := by
  unfold p_copy at h ⊢
  split at h
  next n dp x sp y r =>
    refine if_up h (fun h => ?_)
    cases ha : mK σ x with
    | none => rw [ha] at h; cases h
    | some qa =>
      cases hb : mK σ y with
      | none => rw [ha, hb] at h; cases h
      | some qb =>
        rw [ha, hb] at h
        exact if_up h (fun h => hk _ _ _ _ h)
  next => cases h
theorem u_chk (hk : ∀ pc2 ls2 st2 σ2, k pc2 ls2 st2 σ2 = some w → k' pc2 ls2 st2 σ2 = some w) (hc : ∀ j as σ w1, call j as σ = some w1 → call' j as σ = some w1)  (h : p_chk M pc ls st σ k call = some w) : p_chk M pc ls st σ k' call' = some w := by
  exact s_ii_up h (fun x y r h => if_up h (fun h => hk _ _ _ _ h))
theorem u_lamp (hk : ∀ pc2 ls2 st2 σ2, k pc2 ls2 st2 σ2 = some w → k' pc2 ls2 st2 σ2 = some w) (hc : ∀ j as σ w1, call j as σ = some w1 → call' j as σ = some w1)  (h : p_lamp M pc ls st σ k call = some w) : p_lamp M pc ls st σ k' call' = some w := by
  unfold p_lamp at h ⊢
  split at h
  next o y x a r =>
    refine if_up h (fun h => ?_)
    cases hl : lampP a x y o σ call with
    | none => rw [hl] at h; cases h
    | some w1 =>
      rw [hl] at h
      rw [lampP_up hc hl]
      exact hk _ _ _ _ h
  next => cases h
theorem u_invokestatic (hk : ∀ pc2 ls2 st2 σ2, k pc2 ls2 st2 σ2 = some w → k' pc2 ls2 st2 σ2 = some w) (hc : ∀ j as σ w1, call j as σ = some w1 → call' j as σ = some w1) {idx : Nat} (h : p_invokestatic idx M pc ls st σ k call = some w) : p_invokestatic idx M pc ls st σ k' call' = some w := by
  unfold p_invokestatic at h ⊢
  cases hf : callT (oM M) idx with
  | none => rw [hf] at h; cases h
  | some f =>
    rw [hf] at h
    exact ite_up h (fun h => u_scall hk hc h) (fun h => ite_up h (fun h => u_copy hk hc h) (fun h => ite_up h (fun h => u_chk hk hc h) (fun h => if_up h (fun h => u_lamp hk hc h))))
theorem u_invokespecial (hk : ∀ pc2 ls2 st2 σ2, k pc2 ls2 st2 σ2 = some w → k' pc2 ls2 st2 σ2 = some w) (hc : ∀ j as σ w1, call j as σ = some w1 → call' j as σ = some w1) {idx : Nat} (h : p_invokespecial idx M pc ls st σ k call = some w) : p_invokespecial idx M pc ls st σ k' call' = some w := by
  unfold p_invokespecial at h ⊢
  cases hf : callT (oM M) idx with
  | none => rw [hf] at h; cases h
  | some f =>
    rw [hf] at h
    exact ite_up h (fun h => u_icall hk hc h) (fun h => if_up h (fun h => s_r_up h (fun x r h => if_up h (fun h => hk _ _ _ _ h))))
theorem u_all (hk : ∀ pc2 ls2 st2 σ2, k pc2 ls2 st2 σ2 = some w → k' pc2 ls2 st2 σ2 = some w) (hc : ∀ j as σ w1, call j as σ = some w1 → call' j as σ = some w1) {i : Instr} (h : opk i M pc ls st σ k call = some w) : opk i M pc ls st σ k' call' = some w := by
  cases i with
  | iconst a =>
    exact hk _ _ _ _ h
  | bipush a =>
    exact hk _ _ _ _ h
  | sipush a =>
    exact hk _ _ _ _ h
  | lconst a =>
    exact hk _ _ _ _ h
  | iload_n a =>
    exact s_i_up h (fun x r h => hk _ _ _ _ h)
  | iload a =>
    exact s_i_up h (fun x r h => hk _ _ _ _ h)
  | lload_n a =>
    exact s_l_up h (fun x r h => hk _ _ _ _ h)
  | lload a =>
    exact s_l_up h (fun x r h => hk _ _ _ _ h)
  | aload_n a =>
    exact s_r_up h (fun x r h => hk _ _ _ _ h)
  | aload a =>
    exact s_r_up h (fun x r h => hk _ _ _ _ h)
  | istore_n a =>
    exact s_i_up h (fun x r h => if_up h (fun h => hk _ _ _ _ h))
  | istore a =>
    exact s_i_up h (fun x r h => if_up h (fun h => hk _ _ _ _ h))
  | lstore_n a =>
    exact s_l_up h (fun x r h => if_up h (fun h => hk _ _ _ _ h))
  | lstore a =>
    exact s_l_up h (fun x r h => if_up h (fun h => hk _ _ _ _ h))
  | astore_n a =>
    exact s_r_up h (fun x r h => if_up h (fun h => hk _ _ _ _ h))
  | astore a =>
    exact s_r_up h (fun x r h => if_up h (fun h => hk _ _ _ _ h))
  | iinc a b =>
    exact s_i_up h (fun x r h => if_up h (fun h => hk _ _ _ _ h))
  | iadd  =>
    exact s_ii_up h (fun x y r h => hk _ _ _ _ h)
  | isub  =>
    exact s_ii_up h (fun x y r h => hk _ _ _ _ h)
  | imul  =>
    exact s_ii_up h (fun x y r h => hk _ _ _ _ h)
  | iand  =>
    exact s_ii_up h (fun x y r h => hk _ _ _ _ h)
  | ior  =>
    exact s_ii_up h (fun x y r h => hk _ _ _ _ h)
  | ixor  =>
    exact s_ii_up h (fun x y r h => hk _ _ _ _ h)
  | ishl  =>
    exact s_ii_up h (fun x y r h => hk _ _ _ _ h)
  | ishr  =>
    exact s_ii_up h (fun x y r h => hk _ _ _ _ h)
  | iushr  =>
    exact s_ii_up h (fun x y r h => hk _ _ _ _ h)
  | idiv  =>
    exact s_ii_up h (fun x y r h => ite_up h id (fun h => hk _ _ _ _ h))
  | irem  =>
    exact s_ii_up h (fun x y r h => ite_up h id (fun h => hk _ _ _ _ h))
  | ineg  =>
    exact s_i_up h (fun x r h => hk _ _ _ _ h)
  | i2b  =>
    exact s_i_up h (fun x r h => hk _ _ _ _ h)
  | i2c  =>
    exact s_i_up h (fun x r h => hk _ _ _ _ h)
  | i2l  =>
    exact s_i_up h (fun x r h => hk _ _ _ _ h)
  | l2i  =>
    exact s_l_up h (fun x r h => hk _ _ _ _ h)
  | lneg  =>
    exact s_l_up h (fun x r h => hk _ _ _ _ h)
  | ladd  =>
    exact s_ll_up h (fun x y r h => hk _ _ _ _ h)
  | lsub  =>
    exact s_ll_up h (fun x y r h => hk _ _ _ _ h)
  | lmul  =>
    exact s_ll_up h (fun x y r h => hk _ _ _ _ h)
  | land  =>
    exact s_ll_up h (fun x y r h => hk _ _ _ _ h)
  | lcmp  =>
    exact s_ll_up h (fun x y r h => hk _ _ _ _ h)
  | ldiv  =>
    exact s_ll_up h (fun x y r h => ite_up h id (fun h => hk _ _ _ _ h))
  | lrem  =>
    exact s_ll_up h (fun x y r h => ite_up h id (fun h => hk _ _ _ _ h))
  | ifCond a b => exact s_i_up h (fun x r h => jmp_up h (fun t h => ite_up h (fun h => hk _ _ _ _ h) (fun h => hk _ _ _ _ h)))
  | if_icmp a b => exact s_ii_up h (fun x y r h => jmp_up h (fun t h => ite_up h (fun h => hk _ _ _ _ h) (fun h => hk _ _ _ _ h)))
  | goto a =>
    have h : jmp pc a (fun t => k t ls st σ) = some w := h
    exact jmp_up (f' := fun t => k' t ls st σ) h (fun t h => hk _ _ _ _ h)
  | dup  => exact u_dup (M := M) hk hc h
  | dup2  => exact u_dup2 (M := M) hk hc h
  | pop  => exact u_pop (M := M) hk hc h
  | tableswitch a b c d => exact u_tableswitch (M := M) hk hc h
  | lookupswitch a b => exact u_lookupswitch (M := M) hk hc h
  | ldc a => exact u_ldc (M := M) hk hc h
  | ldc_w a => exact u_ldc_w (M := M) hk hc h
  | ldc2_w a => exact u_ldc2_w (M := M) hk hc h
  | getstatic a => exact u_getstatic (M := M) hk hc h
  | getfield a => exact u_getfield (M := M) hk hc h
  | putfield a => exact u_putfield (M := M) hk hc h
  | arraylength  => exact u_arraylength (M := M) hk hc h
  | iaload  => exact u_iaload (M := M) hk hc h
  | baload  => exact u_baload (M := M) hk hc h
  | laload  => exact u_laload (M := M) hk hc h
  | iastore  => exact u_iastore (M := M) hk hc h
  | bastore  => exact u_bastore (M := M) hk hc h
  | lastore  => exact u_lastore (M := M) hk hc h
  | new a => exact u_new (M := M) hk hc h
  | newarray a => exact u_newarray (M := M) hk hc h
  | invokevirtual a => exact u_invokevirtual (M := M) hk hc h
  | invokestatic a => exact u_invokestatic (M := M) hk hc h
  | invokespecial a => exact u_invokespecial (M := M) hk hc h
  | ireturn => exact h
  | lreturn => exact h
  | areturn => exact h
  | return_ => exact h
  | _ => cases h
end Up
theorem run_up : ∀ (n M pc : Nat) (ls st : List Value) (σ : Mm) (w : Option Value × Mm), run n M pc ls st σ = some w → run (n + 1) M pc ls st σ = some w := by
  intro n
  induction n with
  | zero => intro M pc ls st σ w h; cases h
  | succ n ih =>
    intro M pc ls st σ w h
    rw [run] at h ⊢
    cases hd : decode (cM M) pc with
    | error z => rw [hd] at h; cases h
    | ok q =>
      obtain ⟨i, len⟩ := q
      rw [hd] at h
      exact if_up h (fun h => u_all (fun pc2 ls2 st2 σ2 h2 => ih _ _ _ _ _ _ h2) (fun j as σ2 w1 h2 => if_up h2 (fun h2 => ih _ _ _ _ _ _ h2)) h)
theorem run_mono {n m M pc : Nat} {ls st : List Value} {σ : Mm} {w : Option Value × Mm} (h : run n M pc ls st σ = some w) (hnm : n ≤ m) : run m M pc ls st σ = some w := by
  induction hnm with
  | refl => exact h
  | step _ ih => exact run_up _ _ _ _ _ _ _ ih
/-- it comes to w -/
def Ev (M pc : Nat) (ls st : List Value) (σ : Mm) (w : Option Value × Mm) : Prop := ∃ n, run n M pc ls st σ = some w
/-- the method j, called with as, comes to w -/
def Cl (j : Nat) (as : List Value) (σ : Mm) (w : Option Value × Mm) : Prop := okr j as σ = true ∧ Ev j 0 (padL (xM j) (lsO as)) [] σ w
/-- another method's run, with fuel -/
def cln (n : Nat) : Nat → List Value → Mm → Rs := fun j as σ => if okr j as σ then run n j 0 (padL (xM j) (lsO as)) [] σ else none
theorem Ev.step {M pc : Nat} {ls st : List Value} {σ : Mm} {w : Option Value × Mm} {i : Instr} {len : Nat} (hd : decode (cM M) pc = .ok (i, len)) (hl : lnk i len = true) (h : ∃ n, opk i M pc ls st σ (run n M) (cln n) = some w) : Ev M pc ls st σ w := by
  obtain ⟨n, h⟩ := h
  refine ⟨n + 1, ?_⟩
  rw [run, hd]
  exact (if_pos hl).trans h
theorem cl_at {j : Nat} {as : List Value} {σ : Mm} {w : Option Value × Mm} (h : Cl j as σ w) : ∃ n, ∀ m, n ≤ m → cln m j as σ = some w := by
  obtain ⟨h1, n, h2⟩ := h
  exact ⟨n, fun m hm => (if_pos h1).trans (run_mono h2 hm)⟩
