/-! ===== arrays, constants, switches, makings ===== -/
theorem rdI_spec {σ : Mm} {a : Nat} {i v : Int32} (h : rdI σ a i = some v) : (∃ n, mK σ a = some (11, n) ∧ inb i n = true ∧ v = mI σ a i.toNatClampNeg) ∨ (a = 2000000 ∧ inb i (mX σ).1 = true ∧ v = (mX σ).2 i.toNatClampNeg) := by
  unfold rdI at h
  split at h
  next q hq =>
    obtain ⟨q1, q2⟩ := q
    split at h
    next hc =>
      obtain ⟨h1, h2⟩ := hc
      dsimp only at h1 h2
      subst h1
      exact Or.inl ⟨q2, hq, h2, (Option.some.inj h).symm⟩
    next => cases h
  next hq =>
    split at h
    next hc => exact Or.inr ⟨hc.1, hc.2, (Option.some.inj h).symm⟩
    next => cases h
theorem rdL_spec {σ : Mm} {a : Nat} {i : Int32} {v : Int64} (h : rdL σ a i = some v) : ∃ n, mK σ a = some (12, n) ∧ inb i n = true ∧ v = mL σ a i.toNatClampNeg := by
  unfold rdL at h
  split at h
  next q hq =>
    obtain ⟨q1, q2⟩ := q
    split at h
    next hc =>
      obtain ⟨h1, h2⟩ := hc
      dsimp only at h1 h2
      subst h1
      exact ⟨q2, hq, h2, (Option.some.inj h).symm⟩
    next => cases h
  next hq => cases h
theorem rdB_spec {σ : Mm} {a : Nat} {i v : Int32} (h : rdB σ a i = some v) : (∃ c n, mK σ a = some (c, n) ∧ (c = 10 ∨ c = 13) ∧ inb i n = true ∧ v = mI σ a i.toNatClampNeg) ∨ (a = 1000010 ∧ inb i 126 = true ∧ v = sbyt 0 i.toNatClampNeg) ∨ (a = 1000011 ∧ inb i 10 = true ∧ v = sbyt 1 i.toNatClampNeg) := by
  unfold rdB at h
  split at h
  next q hq =>
    obtain ⟨q1, q2⟩ := q
    split at h
    next hc => exact Or.inl ⟨q1, q2, hq, hc.1, hc.2, (Option.some.inj h).symm⟩
    next => cases h
  next hq =>
    split at h
    next hc => exact Or.inr (Or.inl ⟨hc.1, hc.2, (Option.some.inj h).symm⟩)
    next =>
      split at h
      next hc => exact Or.inr (Or.inr ⟨hc.1, hc.2, (Option.some.inj h).symm⟩)
      next => cases h
theorem alen_spec {σ : Mm} {a v : Nat} (h : alen σ a = some v) : (∃ c, mK σ a = some (c, v) ∧ 10 ≤ c ∧ c ≤ 13) ∨ (a = 2000000 ∧ v = (mX σ).1) ∨ (a = 1000010 ∧ v = 126) ∨ (a = 1000011 ∧ v = 10) := by
  unfold alen at h
  split at h
  next q hq =>
    obtain ⟨q1, q2⟩ := q
    split at h
    next hc =>
      cases h
      exact Or.inl ⟨q1, hq, hc.1, hc.2⟩
    next => cases h
  next hq =>
    split at h
    next hc => exact Or.inr (Or.inl ⟨hc, (Option.some.inj h).symm⟩)
    next =>
      split at h
      next hc => exact Or.inr (Or.inr (Or.inl ⟨hc, (Option.some.inj h).symm⟩))
      next =>
        split at h
        next hc => exact Or.inr (Or.inr (Or.inr ⟨hc, (Option.some.inj h).symm⟩))
        next => cases h
section Arr
variable {p : Program} {l : Launch} {e : Env} {R : Room} {s : State} {m : MethodId} {args : Array Value} {below : List Frame} {meth : Method} {c : Code} {D : va_G} {kA : Nat → ClassId} {ad : Nat → Nat} {A : Nat → Prop} {M : Nat} {w : Option Value × Mm} {u0 : Nat × Nat} {Q : State → Prop} {pc : Nat} {ls st : List Value} {σ : Mm} {k : Nat → List Value → List Value → Mm → Rs}
theorem o_iaload (cx : Cx p l e R s m args below meth c M) (hk : ∀ pc2 ls2 st2 σ2, k pc2 ls2 st2 σ2 = some w → Gd p l e R s m args below meth c D kA ad A w u0 Q pc2 ls2 st2 σ2) {call : Nat → List Value → Mm → Rs} (hd : decode (cM M) pc = .ok (.iaload, 1)) (h : p_iaload M pc ls st σ k call = some w) : Gd p l e R s m args below meth c D kA ad A w u0 Q pc ls st σ := by
  obtain ⟨x, i, r, rfl, h3⟩ := s_ri_spec h
  cases hr : rdI σ x i with
  | none => rw [hr] at h3; cases h3
  | some v =>
    rw [hr] at h3
    obtain ⟨hm, hg⟩ := hk _ _ _ _ h3
    refine ⟨hm, fun H locs la hw hl a b => ?_⟩
    have hgo := hg H locs la hw hl a b
    rcases rdI_spec hr with ⟨n, hn, hi, rfl⟩ | ⟨rfl, hi, rfl⟩
    · have hat := wsO_at (kA := kA) (ad := ad) hn
      rw [ent_int (by omega) (by omega)] at hat
      exact va_iald cx.1 cx.2.1 hw.1 hw.2.1 x 1 hat rfl (inb_in hi) hd hgo
    · have hX := hw.2.2.2.2.1
      exact va_sld cx.1 cx.2.1 hX.1 hX.2.1 hX.2.2.1 hw.2.2.2.1 (inb_in hi) hd hgo
theorem o_laload (cx : Cx p l e R s m args below meth c M) (hk : ∀ pc2 ls2 st2 σ2, k pc2 ls2 st2 σ2 = some w → Gd p l e R s m args below meth c D kA ad A w u0 Q pc2 ls2 st2 σ2) {call : Nat → List Value → Mm → Rs} (hd : decode (cM M) pc = .ok (.laload, 1)) (h : p_laload M pc ls st σ k call = some w) : Gd p l e R s m args below meth c D kA ad A w u0 Q pc ls st σ := by
  obtain ⟨x, i, r, rfl, h3⟩ := s_ri_spec h
  cases hr : rdL σ x i with
  | none => rw [hr] at h3; cases h3
  | some v =>
    rw [hr] at h3
    obtain ⟨hm, hg⟩ := hk _ _ _ _ h3
    refine ⟨hm, fun H locs la hw hl a b => ?_⟩
    have hgo := hg H locs la hw hl a b
    obtain ⟨n, hn, hi, rfl⟩ := rdL_spec hr
    have hat := wsO_at (kA := kA) (ad := ad) hn
    exact va_lald cx.1 cx.2.1 hw.1 hw.2.1 x 2 hat rfl (inb_in hi) hd hgo
theorem o_baload (cx : Cx p l e R s m args below meth c M) (hk : ∀ pc2 ls2 st2 σ2, k pc2 ls2 st2 σ2 = some w → Gd p l e R s m args below meth c D kA ad A w u0 Q pc2 ls2 st2 σ2) {call : Nat → List Value → Mm → Rs} (hd : decode (cM M) pc = .ok (.baload, 1)) (h : p_baload M pc ls st σ k call = some w) : Gd p l e R s m args below meth c D kA ad A w u0 Q pc ls st σ := by
  obtain ⟨x, i, r, rfl, h3⟩ := s_ri_spec h
  cases hr : rdB σ x i with
  | none => rw [hr] at h3; cases h3
  | some v =>
    rw [hr] at h3
    obtain ⟨hm, hg⟩ := hk _ _ _ _ h3
    refine ⟨hm, fun H locs la hw hl a b => ?_⟩
    have hgo := hg H locs la hw hl a b
    rcases rdB_spec hr with ⟨cc, n, hn, hc, hi, rfl⟩ | ⟨rfl, hi, rfl⟩ | ⟨rfl, hi, rfl⟩
    · have hat := wsO_at (kA := kA) (ad := ad) hn
      rw [ent_int (by omega) (by omega)] at hat
      rcases hc with rfl | rfl
      · exact va_bald cx.1 cx.2.1 hw.1 hw.2.1 x 0 hat rfl (inb_in hi) hd hgo
      · exact va_zald cx.1 cx.2.1 hw.1 hw.2.1 x 3 hat rfl (inb_in hi) hd hgo
    · have hE := hw.2.2.2.2.1.2.2.2.1.1 0 (by decide)
      exact va_tb cx.1 cx.2.1 hE.2.2.2 hw.2.2.2.1 (inb_in hi) rfl hd hgo
    · have hE := hw.2.2.2.2.1.2.2.2.1.1 1 (by decide)
      exact va_tb cx.1 cx.2.1 hE.2.2.2 hw.2.2.2.1 (inb_in hi) rfl hd hgo
theorem o_arraylength (cx : Cx p l e R s m args below meth c M) (hk : ∀ pc2 ls2 st2 σ2, k pc2 ls2 st2 σ2 = some w → Gd p l e R s m args below meth c D kA ad A w u0 Q pc2 ls2 st2 σ2) {call : Nat → List Value → Mm → Rs} (hd : decode (cM M) pc = .ok (.arraylength, 1)) (h : p_arraylength M pc ls st σ k call = some w) : Gd p l e R s m args below meth c D kA ad A w u0 Q pc ls st σ := by
  obtain ⟨x, r, rfl, h3⟩ := s_r_spec h
  cases hr : alen σ x with
  | none => rw [hr] at h3; cases h3
  | some v =>
    rw [hr] at h3
    obtain ⟨hm, hg⟩ := hk _ _ _ _ h3
    refine ⟨hm, fun H locs la hw hl a b => ?_⟩
    have hgo := hg H locs la hw hl a b
    rcases alen_spec hr with ⟨cc, hn, h1, h2⟩ | ⟨rfl, rfl⟩ | ⟨rfl, rfl⟩ | ⟨rfl, rfl⟩
    · have hat := wsO_at (kA := kA) (ad := ad) hn
      by_cases h12 : cc = 12
      · subst h12
        exact va_alen cx.1 cx.2.1 hw.1 hw.2.1 x 2 hat (tys_at h1 h2) rfl hd hgo
      · rw [ent_int h1 h12] at hat
        exact va_alen cx.1 cx.2.1 hw.1 hw.2.1 x (cc - 10) hat (tys_at h1 h2) rfl hd hgo
    · have hX := hw.2.2.2.2.1
      exact va_slen cx.1 cx.2.1 hX.1 hX.2.1 hX.2.2.1 hw.2.2.2.1 hd hgo
    · have hE := hw.2.2.2.2.1.2.2.2.1.1 0 (by decide)
      exact va_tlen cx.1 cx.2.1 hE.2.2.2 hw.2.2.2.1 rfl hd hgo
    · have hE := hw.2.2.2.2.1.2.2.2.1.1 1 (by decide)
      exact va_tlen cx.1 cx.2.1 hE.2.2.2 hw.2.2.2.1 rfl hd hgo
theorem o_iastore (cx : Cx p l e R s m args below meth c M) (hk : ∀ pc2 ls2 st2 σ2, k pc2 ls2 st2 σ2 = some w → Gd p l e R s m args below meth c D kA ad A w u0 Q pc2 ls2 st2 σ2) {call : Nat → List Value → Mm → Rs} (hd : decode (cM M) pc = .ok (.iastore, 1)) (h : p_iastore M pc ls st σ k call = some w) : Gd p l e R s m args below meth c D kA ad A w u0 Q pc ls st σ := by
  obtain ⟨x, i, v, r, rfl, h3⟩ := s_rii_spec h
  obtain ⟨ho, h3⟩ := if_spec h3
  obtain ⟨n, hn, hi⟩ := okI_of ho
  obtain ⟨hm, hg⟩ := hk _ _ _ _ h3
  refine ⟨hm, fun H locs la hw hl a b => ?_⟩
  have hat := wsO_at (kA := kA) (ad := ad) hn
  rw [ent_int (by omega) (by omega)] at hat
  exact va_iast cx.1 cx.2.1 hw.1 hw.2.1 hw.2.2.1 hw.2.2.2.1 x 1 hat rfl (inb_in hi) hd (fun H1 locs1 hP1 hD1 hS1 => hg H1 locs1 la (wo_put hw rfl (ws_uIa (by omega) (by omega) hn) hP1 hD1 hS1) hl a b)
theorem o_lastore (cx : Cx p l e R s m args below meth c M) (hk : ∀ pc2 ls2 st2 σ2, k pc2 ls2 st2 σ2 = some w → Gd p l e R s m args below meth c D kA ad A w u0 Q pc2 ls2 st2 σ2) {call : Nat → List Value → Mm → Rs} (hd : decode (cM M) pc = .ok (.lastore, 1)) (h : p_lastore M pc ls st σ k call = some w) : Gd p l e R s m args below meth c D kA ad A w u0 Q pc ls st σ := by
  obtain ⟨x, i, v, r, rfl, h3⟩ := s_ril_spec h
  obtain ⟨ho, h3⟩ := if_spec h3
  obtain ⟨n, hn, hi⟩ := okI_of ho
  obtain ⟨hm, hg⟩ := hk _ _ _ _ h3
  refine ⟨hm, fun H locs la hw hl a b => ?_⟩
  have hat := wsO_at (kA := kA) (ad := ad) hn
  exact va_last cx.1 cx.2.1 hw.1 hw.2.1 hw.2.2.1 hw.2.2.2.1 x 2 hat rfl (inb_in hi) hd (fun H1 locs1 hP1 hD1 hS1 => hg H1 locs1 la (wo_put hw rfl (ws_uLa hn) hP1 hD1 hS1) hl a b)
theorem o_bastore (cx : Cx p l e R s m args below meth c M) (hk : ∀ pc2 ls2 st2 σ2, k pc2 ls2 st2 σ2 = some w → Gd p l e R s m args below meth c D kA ad A w u0 Q pc2 ls2 st2 σ2) {call : Nat → List Value → Mm → Rs} (hd : decode (cM M) pc = .ok (.bastore, 1)) (h : p_bastore M pc ls st σ k call = some w) : Gd p l e R s m args below meth c D kA ad A w u0 Q pc ls st σ := by
  obtain ⟨x, i, v, r, rfl, h3⟩ := s_rii_spec h
  by_cases ho : okI σ x i 10 = true
  · rw [if_pos ho] at h3
    obtain ⟨n, hn, hi⟩ := okI_of ho
    obtain ⟨hm, hg⟩ := hk _ _ _ _ h3
    refine ⟨hm, fun H locs la hw hl a b => ?_⟩
    have hat := wsO_at (kA := kA) (ad := ad) hn
    rw [ent_int (by omega) (by omega)] at hat
    refine va_bast cx.1 cx.2.1 hw.1 hw.2.1 hw.2.2.1 hw.2.2.2.1 x 0 hat rfl (inb_in hi) hd (fun H1 locs1 hP1 hD1 hS1 => ?_)
    rw [vp_nar_byte] at hP1 hD1
    exact hg H1 locs1 la (wo_put hw rfl (ws_uIa (by omega) (by omega) hn) hP1 hD1 hS1) hl a b
  · rw [if_neg ho] at h3
    obtain ⟨ho, h3⟩ := if_spec h3
    obtain ⟨n, hn, hi⟩ := okI_of ho
    obtain ⟨hm, hg⟩ := hk _ _ _ _ h3
    refine ⟨hm, fun H locs la hw hl a b => ?_⟩
    have hat := wsO_at (kA := kA) (ad := ad) hn
    rw [ent_int (by omega) (by omega)] at hat
    exact va_zast cx.1 cx.2.1 hw.1 hw.2.1 hw.2.2.1 hw.2.2.2.1 x 3 hat rfl (inb_in hi) hd (fun H1 locs1 hP1 hD1 hS1 => hg H1 locs1 la (wo_put hw rfl (ws_uIa (by omega) (by omega) hn) hP1 hD1 hS1) hl a b)
theorem o_ldc (cx : Cx p l e R s m args below meth c M) (hk : ∀ pc2 ls2 st2 σ2, k pc2 ls2 st2 σ2 = some w → Gd p l e R s m args below meth c D kA ad A w u0 Q pc2 ls2 st2 σ2) {call : Nat → List Value → Mm → Rs} {idx : Nat} (hd : decode (cM M) pc = .ok (.ldc idx, 2)) (h : p_ldc idx M pc ls st σ k call = some w) : Gd p l e R s m args below meth c D kA ad A w u0 Q pc ls st σ := by
  unfold p_ldc at h
  cases hc : cstI (oM M) idx with
  | some v =>
    rw [hc] at h
    obtain ⟨hm, hg⟩ := hk _ _ _ _ h
    exact ⟨hm, fun H locs la hw hl a b => lv_ldc cx.1 cx.2.1 cx.2.2.2.1 (cx_hts cx (f_cI hc) rfl) hd (hg H locs la hw hl a b)⟩
  | none =>
    rw [hc] at h
    cases hs : cstS (oM M) idx with
    | none => rw [hs] at h; cases h
    | some x =>
      rw [hs] at h
      obtain ⟨hm, hg⟩ := hk _ _ _ _ h
      refine ⟨hm, fun H locs la hw hl a b => ?_⟩
      have hgo := hg H locs la hw hl a b
      obtain ⟨ho, hx⟩ := cstS_spec hs
      have hown : s.vm.findClass "BellPulls$Reader" = some m.cls := by
        have := cx.2.2.2.1
        rw [ho] at this
        exact this
      rcases hx with ⟨rfl, rfl⟩ | ⟨rfl, rfl⟩
      · exact va_ldcS cx.1 cx.2.1 hown hw.2.2.2.2.1.2.2.2.2.2.1 hd hgo
      · exact va_ldcS cx.1 cx.2.1 hown hw.2.2.2.2.1.2.2.2.2.2.2.1 hd hgo
theorem o_ldc_w (cx : Cx p l e R s m args below meth c M) (hk : ∀ pc2 ls2 st2 σ2, k pc2 ls2 st2 σ2 = some w → Gd p l e R s m args below meth c D kA ad A w u0 Q pc2 ls2 st2 σ2) {call : Nat → List Value → Mm → Rs} {idx : Nat} (hd : decode (cM M) pc = .ok (.ldc_w idx, 3)) (h : p_ldc_w idx M pc ls st σ k call = some w) : Gd p l e R s m args below meth c D kA ad A w u0 Q pc ls st σ := by
  unfold p_ldc_w at h
  cases hc : cstI (oM M) idx with
  | some v =>
    rw [hc] at h
    obtain ⟨hm, hg⟩ := hk _ _ _ _ h
    exact ⟨hm, fun H locs la hw hl a b => lv_ldcw cx.1 cx.2.1 cx.2.2.2.1 (cx_hts cx (f_cI hc) rfl) hd (hg H locs la hw hl a b)⟩
  | none => rw [hc] at h; cases h
theorem o_ldc2_w (cx : Cx p l e R s m args below meth c M) (hk : ∀ pc2 ls2 st2 σ2, k pc2 ls2 st2 σ2 = some w → Gd p l e R s m args below meth c D kA ad A w u0 Q pc2 ls2 st2 σ2) {call : Nat → List Value → Mm → Rs} {idx : Nat} (hd : decode (cM M) pc = .ok (.ldc2_w idx, 3)) (h : p_ldc2_w idx M pc ls st σ k call = some w) : Gd p l e R s m args below meth c D kA ad A w u0 Q pc ls st σ := by
  unfold p_ldc2_w at h
  cases hc : cstL (oM M) idx with
  | some v =>
    rw [hc] at h
    obtain ⟨hm, hg⟩ := hk _ _ _ _ h
    exact ⟨hm, fun H locs la hw hl a b => lv_ldc2 cx.1 cx.2.1 cx.2.2.2.1 (cx_hts cx (f_cL hc) rfl) hd (hg H locs la hw hl a b)⟩
  | none => rw [hc] at h; cases h
theorem o_getstatic (cx : Cx p l e R s m args below meth c M) (hk : ∀ pc2 ls2 st2 σ2, k pc2 ls2 st2 σ2 = some w → Gd p l e R s m args below meth c D kA ad A w u0 Q pc2 ls2 st2 σ2) {call : Nat → List Value → Mm → Rs} {idx : Nat} (hd : decode (cM M) pc = .ok (.getstatic idx, 3)) (h : p_getstatic idx M pc ls st σ k call = some w) : Gd p l e R s m args below meth c D kA ad A w u0 Q pc ls st σ := by
  obtain ⟨⟨ho, rfl⟩, h3⟩ := if_spec h
  obtain ⟨hm, hg⟩ := hk _ _ _ _ h3
  have hw1 : Cond.fieldLink "java/lang/String" stIdx "java/lang/String" "COMPACT_STRINGS" "Z" ∈ lw_tbl := tb_at 2 23 rfl
  have hown : s.vm.findClass "java/lang/String" = some m.cls := by
    have := cx.2.2.2.1
    rw [ho] at this
    exact this
  exact ⟨hm, fun H locs la hw hl a b => va_gets cx.1 cx.2.1 hw.2.2.2.2.1.2.2.2.2.1 hw.2.2.2.1 hown (cx_hts cx hw1 rfl) (fun _ h => h) hd (hg H locs la hw hl a b)⟩
theorem o_tableswitch (cx : Cx p l e R s m args below meth c M) (hk : ∀ pc2 ls2 st2 σ2, k pc2 ls2 st2 σ2 = some w → Gd p l e R s m args below meth c D kA ad A w u0 Q pc2 ls2 st2 σ2) {call : Nat → List Value → Mm → Rs} {d lo hi : Int} {offs : Array Int} {len : Nat} (hd : decode (cM M) pc = .ok (.tableswitch d lo hi offs, len)) (h : p_tableswitch d lo hi offs M pc ls st σ k call = some w) : Gd p l e R s m args below meth c D kA ad A w u0 Q pc ls st σ := by
  obtain ⟨x, r, rfl, h3⟩ := s_i_spec h
  cases hs : swT lo hi d offs x with
  | none => rw [hs] at h3; cases h3
  | some off =>
    rw [hs] at h3
    obtain ⟨t, ht, h3⟩ := jmp_spec h3
    obtain ⟨hm, hg⟩ := hk _ _ _ _ h3
    unfold swT at hs
    split at hs
    next hc =>
      cases hs
      exact ⟨hm, fun H locs la hw hl a b => lv_tableOut cx.1 cx.2.1 hd hc ht (hg H locs la hw hl a b)⟩
    next hc => exact ⟨hm, fun H locs la hw hl a b => lv_tableIn cx.1 cx.2.1 hd (fun z => hc (Or.inl z)) (fun z => hc (Or.inr z)) hs ht (hg H locs la hw hl a b)⟩
theorem o_lookupswitch (cx : Cx p l e R s m args below meth c M) (hk : ∀ pc2 ls2 st2 σ2, k pc2 ls2 st2 σ2 = some w → Gd p l e R s m args below meth c D kA ad A w u0 Q pc2 ls2 st2 σ2) {call : Nat → List Value → Mm → Rs} {d : Int} {ps : Array (Int × Int)} {len : Nat} (hd : decode (cM M) pc = .ok (.lookupswitch d ps, len)) (h : p_lookupswitch d ps M pc ls st σ k call = some w) : Gd p l e R s m args below meth c D kA ad A w u0 Q pc ls st σ := by
  obtain ⟨x, r, rfl, h3⟩ := s_i_spec h
  obtain ⟨hp, h3⟩ := if_spec h3
  obtain ⟨t, ht, h3⟩ := jmp_spec h3
  obtain ⟨hm, hg⟩ := hk _ _ _ _ h3
  exact ⟨hm, fun H locs la hw hl a b => lv_lookup cx.1 cx.2.1 hd hp rfl ht (hg H locs la hw hl a b)⟩
/-- where the cells lie: from base on -/
def Bs (s : State) (ad : Nat → Nat) (u0 : Nat × Nat) : Prop := ∃ base : Nat, base ≤ s.heap.size ∧ s.heap.size ≤ base + u0.1 ∧ ∀ a : Nat, a < 1000000 → ad a = base + a
theorem next_ad {H : Heap} {locs : List Loc} (hw : Wo D kA ad A s H locs σ) (hB : Bs s ad u0) (hu : u0.1 ≤ (mU σ).1) (hlen : (mU σ).1 = (mKs σ).length) (hlt : (mU σ).1 < 1000000) (hz : H.size ≤ s.heap.size + ((mU σ).1 - u0.1)) : H.size = ad (mKs σ).length := by
  obtain ⟨base, h1, h2, h3⟩ := hB
  rw [h3 _ (by omega)]
  have hS := hw.2.2.2.1.1
  have hlow : base + (mKs σ).length ≤ H.size := by
    rcases Nat.eq_zero_or_pos (mKs σ).length with h0 | h0
    · omega
    · have hk : mK σ ((mKs σ).length - 1) = some ((mKs σ)[(mKs σ).length - 1]'(by omega)) := List.getElem?_eq_getElem (by omega)
      have hl := (hw.2.1 _ _ (wsO_at (kA := kA) (ad := ad) hk)).lt
      dsimp only at hl
      rw [h3 _ (by omega)] at hl
      omega
  omega
theorem o_new (cx : Cx p l e R s m args below meth c M) (hk : ∀ pc2 ls2 st2 σ2, k pc2 ls2 st2 σ2 = some w → Gd p l e R s m args below meth c D kA ad A w u0 Q pc2 ls2 st2 σ2) {call : Nat → List Value → Mm → Rs} {idx : Nat} (hB : Bs s ad u0) (hR1 : (mU w.2).1 ≤ u0.1 + R.cells) (hR2 : (mU w.2).2.1 ≤ u0.2 + R.slots) (hd : decode (cM M) pc = .ok (.new idx, 3)) (h : p_new idx M pc ls st σ k call = some w) : Gd p l e R s m args below meth c D kA ad A w u0 Q pc ls st σ := by
  unfold p_new at h
  cases hn : newT (oM M) idx with
  | none => rw [hn] at h; cases h
  | some q =>
    obtain ⟨ci, n⟩ := q
    rw [hn] at h
    obtain ⟨⟨hlen, hlt⟩, h3⟩ := if_spec h
    obtain ⟨hm, hg⟩ := hk _ _ _ _ h3
    obtain ⟨hci, rfl, hcl, hins, hini⟩ := f_new hn
    have hm1 : (mU σ).1 + 1 ≤ (mU w.2).1 := hm.1
    have hm2 : (mU σ).2.1 + nF ci ≤ (mU w.2).2.1 := hm.2.1
    have hfc := f_cls hci
    refine ⟨⟨by omega, by omega, hm.2.2⟩, fun H locs la hw hl a b => ?_⟩
    intro T hT X
    have hz : H.size ≤ s.heap.size + ((mU σ).1 - u0.1) := hT ▸ X.heapSize
    have hsz := next_ad hw hB a hlen hlt hz
    have hKn := hw.1.1 ci _ hfc.1
    refine W.newcK cx.1 cx.2.1 cx.2.2.2.1 (cx_hts cx hcl rfl) (cx_hts cx hins rfl) (cx_hts cx hini rfl) (g := F0 m pc la (st.map (vmv ad))) rfl hd (by omega) (by omega) hKn.2.1 hsz (fun H1 kC hkC e1 z1 o1 => ?_) T hT X
    have hkp : ∀ (k : Nat) (x : Nat × va_E), (wsO kA ad σ)[k]? = some x → H1[x.1]? = H[x.1]? := fun k x hx => o1 x.1 (by rw [← hsz]; exact (hw.2.1 k x hx).lt)
    have hent : ent kA ad (nw σ ci (nF ci)) (mKs σ).length (ci, nF ci) = .inr (ci, (List.range (nF ci)).map (fv ad (nw σ ci (nF ci)) (mKs σ).length ci)) := ent_obj (by omega)
    have hwo : Wo D kA ad A s H1 locs (nw σ ci (nF ci)) := by
      refine ⟨hw.1, ?_, ?_, ⟨Nat.le_trans hw.2.2.2.1.1 (by omega), fun x h1 h2 => (o1 x (by rw [← hsz]; exact Nat.lt_of_lt_of_le h1 hw.2.2.2.1.1)).trans (hw.2.2.2.1.2.1 x h1 h2), hw.2.2.2.1.2.2⟩, hw.2.2.2.2.1, hw.2.2.2.2.2⟩
      · rw [ws_nw, hent]
        refine (hw.2.1.kept hkp).app (fun k x hx => ?_)
        have hzz : k < 1 := (List.getElem?_eq_some_iff.mp hx).1
        rw [show k = 0 by omega] at hx
        cases hx
        refine ⟨_, hfc.1, (u_born (ws := u_ws (Rn ci) (clC ci).2.1 (nF ci)) (tyC ci) (cx_lay cx hci) (fun _ h => h) hKn hkC e1 hfc.2.2.2.1).to (fun j hj => ?_)⟩
        have e2 : vp_V ((List.range (nF ci)).map (fv ad (nw σ ci (nF ci)) (mKs σ).length ci)) j = fv ad (nw σ ci (nF ci)) (mKs σ).length ci j := by
          unfold vp_V
          rw [List.getD_eq_getElem?_getD, List.getElem?_map, List.getElem?_range hj]
          rfl
        rw [e2]
        have e3 := (hfc.2.2.2.2 j hj).2.1
        have i0 : mI (nw σ ci (nF ci)) (mKs σ).length j = 0 := by show u1 _ _ _ _ _ = _; simp [u1]
        have l0 : mL (nw σ ci (nF ci)) (mKs σ).length j = 0 := by show u1 _ _ _ _ _ = _; simp [u1]
        have r0 : mR (nw σ ci (nF ci)) (mKs σ).length j = none := by show u1 _ _ _ _ _ = _; simp [u1]
        unfold fv
        rw [← e3, i0, l0, r0]
        have e4 : tcod (tyC ci j) ≠ 9 := by
          rw [e3]
          have : ∀ c, c < 10 → ∀ j, j < nF c → fTy c j ≠ 9 := by decide
          exact this ci hci j hj
        revert e4
        cases tyC ci j <;> intro e4 <;> first | rfl | exact absurd rfl e4
      · rw [ws_nw]
        exact hw.2.2.1.push hw.2.1 hsz.symm (by rw [← hsz]; exact hw.2.2.2.2.2 _ hw.2.2.2.1.1)
    have hgo := hg H1 locs la hwo hl (Nat.le_trans a (Nat.le_succ _)) (Nat.le_trans b (Nat.le_add_right _ _))
    have q1 : (mU (nw σ ci (nF ci))).1 - u0.1 = (mU σ).1 - u0.1 + 1 := by show (mU σ).1 + 1 - u0.1 = _; omega
    have q2 : (mU (nw σ ci (nF ci))).2.1 - u0.2 = (mU σ).2.1 - u0.2 + nF ci := by show (mU σ).2.1 + nF ci - u0.2 = _; omega
    rw [q1, q2] at hgo
    exact hgo
theorem o_newarray (cx : Cx p l e R s m args below meth c M) (hk : ∀ pc2 ls2 st2 σ2, k pc2 ls2 st2 σ2 = some w → Gd p l e R s m args below meth c D kA ad A w u0 Q pc2 ls2 st2 σ2) {call : Nat → List Value → Mm → Rs} {t : ArrayType} (hB : Bs s ad u0) (hR1 : (mU w.2).1 ≤ u0.1 + R.cells) (hR2 : (mU w.2).2.1 ≤ u0.2 + R.slots) (hd : decode (cM M) pc = .ok (.newarray t, 2)) (h : p_newarray t M pc ls st σ k call = some w) : Gd p l e R s m args below meth c D kA ad A w u0 Q pc ls st σ := by
  obtain ⟨x, r, rfl, h3⟩ := s_i_spec h
  cases hn : arT t with
  | none => rw [hn] at h3; cases h3
  | some cc =>
    rw [hn] at h3
    obtain ⟨⟨hx0, hx1, hlen, hlt⟩, h3⟩ := if_spec h3
    obtain ⟨hm, hg⟩ := hk _ _ _ _ h3
    have hm1 : (mU σ).1 + 1 ≤ (mU w.2).1 := hm.1
    have hm2 : (mU σ).2.1 + x.toNatClampNeg ≤ (mU w.2).2.1 := hm.2.1
    have hcc : 10 ≤ cc ∧ cc ≤ 13 ∧ newarray.typeOf t = arTy cc ∧ Cond.arrayClass (newarray.typeOf t) ∈ lw_tbl ∧ componentBytes (newarray.typeOf t) ≤ 8 ∧ (∀ cA N, (if cc = 12 then vp_cell cA (N, .inr (.inl (fun _ => 0))) else vp_cell cA (N, .inl (fun _ => 0))) = arrV cA N (fun _ => defaultValue (newarray.typeOf t))) := by
      cases t <;> first | (cases hn; done) | (cases hn; exact ⟨by omega, by omega, rfl, tb_at 0 136 rfl, by decide, fun _ _ => rfl⟩) | (cases hn; exact ⟨by omega, by omega, rfl, tb_at 0 137 rfl, by decide, fun _ _ => rfl⟩) | (cases hn; exact ⟨by omega, by omega, rfl, tb_at 1 45 rfl, by decide, fun _ _ => rfl⟩) | (cases hn; exact ⟨by omega, by omega, rfl, tb_at 1 133 rfl, by decide, fun _ _ => rfl⟩)
    obtain ⟨c1, c2, c3, c4, c5, c6⟩ := hcc
    refine ⟨⟨by omega, by omega, hm.2.2⟩, fun H locs la hw hl a b => ?_⟩
    intro T hT X
    have hz : H.size ≤ s.heap.size + ((mU σ).1 - u0.1) := hT ▸ X.heapSize
    have hsz := next_ad hw hB a hlen hlt hz
    refine va_newaK cx.1 cx.2.1 (cx_hts cx c4 rfl) (g := F0 m pc la ((Value.int x :: r).map (vmv ad))) rfl hd (n := x) rfl (fun z => absurd hx0 (by rw [Int32.not_le]; exact z)) rfl (Nat.le_trans (Nat.mul_le_mul hx1 c5) (by decide)) (by omega) (by omega) hsz (fun H1 cA e1 z1 o1 hAr hNm => ?_) T hT X
    have hkp : ∀ (k : Nat) (x : Nat × va_E), (wsO kA ad σ)[k]? = some x → H1[x.1]? = H[x.1]? := fun k x hx => o1 x.1 (by rw [← hsz]; exact (hw.2.1 k x hx).lt)
    have hcA : cA = kA cc := by
      have h1 := (hw.1.2 _ _ (tys_at (kA := kA) c1 c2)).2
      have h2 : s.vm.findClass ("[" ++ (arTy cc).toString) = some (kA cc) := by
        rcases (show cc = 10 ∨ cc = 11 ∨ cc = 12 ∨ cc = 13 by omega) with rfl | rfl | rfl | rfl <;> exact h1
      rw [c3] at hNm
      exact Option.some.inj (hNm.symm.trans h2)
    subst hcA
    have i0 : mI (nw σ cc x.toNatClampNeg) (mKs σ).length = fun _ => 0 := by show u1 _ _ _ _ = _; simp [u1]
    have l0 : mL (nw σ cc x.toNatClampNeg) (mKs σ).length = fun _ => 0 := by show u1 _ _ _ _ = _; simp [u1]
    have hwo : Wo D kA ad A s H1 locs (nw σ cc x.toNatClampNeg) := by
      refine ⟨hw.1, ?_, ?_, ⟨Nat.le_trans hw.2.2.2.1.1 (by omega), fun x h1 h2 => (o1 x (by rw [← hsz]; exact Nat.lt_of_lt_of_le h1 hw.2.2.2.1.1)).trans (hw.2.2.2.1.2.1 x h1 h2), hw.2.2.2.1.2.2⟩, hw.2.2.2.2.1, hw.2.2.2.2.2⟩
      · rw [ws_nw]
        refine (hw.2.1.kept hkp).app (fun k x hx => ?_)
        have hzz : k < 1 := (List.getElem?_eq_some_iff.mp hx).1
        rw [show k = 0 by omega] at hx
        cases hx
        have c6' := c6 (kA cc) x.toNatClampNeg
        rw [← c6'] at e1
        by_cases h12 : cc = 12
        · subst h12
          rw [ent_long, l0]
          exact e1
        · rw [ent_int c1 h12, i0]
          rw [if_neg h12] at e1
          exact e1
      · rw [ws_nw]
        exact hw.2.2.1.push hw.2.1 hsz.symm (by rw [← hsz]; exact hw.2.2.2.2.2 _ hw.2.2.2.1.1)
    have hgo := hg H1 locs la hwo hl (Nat.le_trans a (Nat.le_succ _)) (Nat.le_trans b (Nat.le_add_right _ _))
    have q1 : (mU (nw σ cc x.toNatClampNeg)).1 - u0.1 = (mU σ).1 - u0.1 + 1 := by show (mU σ).1 + 1 - u0.1 = _; omega
    have q2 : (mU (nw σ cc x.toNatClampNeg)).2.1 - u0.2 = (mU σ).2.1 - u0.2 + x.toNatClampNeg := by show (mU σ).2.1 + x.toNatClampNeg - u0.2 = _; omega
    rw [q1, q2] at hgo
    exact hgo
end Arr
