/-! ===== the law's own lamp ===== -/
abbrev hhL : List (Nat × Nat × Nat × Nat) := [(0, 10, 13, 13), (0, 10, 17, 15)]
abbrev wsL : List Cond := Cond.codeWith yL_lamp cL_lamp 5 (some .int) hhL :: lw_g
theorem lm_sig : (parseMethodDescriptor yX8_lamp.desc).map (fun d => d.parameters.length) = some 2 := by decide +kernel
theorem lm_sigL : (parseMethodDescriptor yL_lamp.desc).map (fun d => d.parameters.length) = some 4 := by decide +kernel
section LmL
variable {l : Launch} {D : va_G} {kA : Nat → ClassId} {ad : Nat → Nat} {σ σ1 : Mm} {a o : Nat} {x y : Int32}
/-- lamp answers: the answer is laid down, 0 -/
theorem l_metR {v : Int32} {base : Nat} (hle : le2 σ σ1) (hk : isK σ a 8 = true) (hok : okI σ1 o 0 12 = true) (hM : MetY l D kA ad base yX8_lamp (Cond.code yX8_lamp cX8_lamp 3 (some .int) :: lw_g) 6 82 [.ref a, .int x, .int y] σ (some (.int v), σ1)) :
    MetY l D kA ad base yL_lamp wsL 7 104 [.ref a, .int x, .int y, .ref o] σ (some (.int 0), uL σ1 o 0 v.toInt64) := by
  intro sz hb1 hb2
  refine va_MetW (cc := cL_lamp) (maxL := 5) (ret := some .int) (hh := hhL) (by decide +kernel) rfl ?_
  intro p e s m args below meth c s₁ B hml hv
  obtain ⟨rfl, hsz, hK, hP, hD, hSp⟩ := hv
  subst hsz
  have hx := B.exec
  have hb := B.bytes
  have hr := B.returns
  have hlocks := B.notSynchronized
  have hown : s.vm.findClass "BellPullsLaw" = some m.cls := findClass_of_methodNamed B.named
  have hts := atoms_spec (ws := wsL) B.pre
  have hgd : ∀ w : Cond, w ∈ lw_tbl → goodWord w = true → w.before (([.ref a, .int x, .int y, .ref o] : List Value).map (vmv ad)).toArray s = true := fun w h g => hts w (List.mem_cons_of_mem _ (List.mem_filter.mpr ⟨h, g⟩))
  have hl := lv_entry ([.ref (ad a), .int x, .int y, .ref (ad o)] : List Value) (n := 5) (show 4 ≤ 5 by omega)
  show W p l e _ s m _ below meth c s.heap [] 0 0 _ (entryFrame m ([.ref (ad a), .int x, .int y, .ref (ad o)] : List Value).toArray 5)
  rw [lg_entry_eq]
  generalize (lg_sl ([.ref (ad a), .int x, .int y, .ref (ad o)] : List Value) ++ List.replicate (5 - (lg_sl ([.ref (ad a), .int x, .int y, .ref (ad o)] : List Value)).length) Slot.unset).toArray = la at hl ⊢
  have hl : lv_has la 5 [(0, .ref (ad a)), (1, .int x), (2, .int y), (3, .ref (ad o))] := hl
  have hwo : Wo D kA ad (va_A (wsO kA ad σ) s.heap.size) s s.heap [] σ := ⟨hK, hP, hD.self, va_S.rf, hSp, fun q h => Or.inr h⟩
  have hrecv : ∃ cellB : Cell, s.heap[ad a]? = some cellB ∧ cellB.vm.isStatics = false ∧ s.vm.findClass "BellPulls" = some cellB.cls := by
    obtain ⟨nn, hnn⟩ := isK_of hk
    have hat := wsO_at (kA := kA) (ad := ad) hnn
    rw [ent_obj (by omega)] at hat
    exact va_recv hwo.1 hwo.2.1 (f_cls (c := 8) (by omega)).1 hat
  refine lv_aload_n hx hb wl_0 rfl (lv_at hl 3 rfl) ?_
  refine lv_iconst hx hb wl_1 (v := 0) rfl ?_
  refine lv_aload_n hx hb wl_2 rfl (lv_at hl 0 rfl) ?_
  refine lv_iload_n hx hb wl_3 rfl (lv_at hl 1 rfl) ?_
  refine lv_iload_n hx hb wl_4 rfl (lv_at hl 2 rfl) ?_
  have hrun := va_runV (p := p) (l := l) (e := e) (R := (headSpec wsL { frames := 7, cells := (mU σ1).1 - (mU σ).1, slots := (mU σ1).2.1 - (mU σ).2.1, locals := 104 }).room) (s := s) (m := m) (args := (([.ref a, .int x, .int y, .ref o] : List Value).map (vmv ad)).toArray) (below := below) (meth := meth) (c := c) (H := s.heap) (locs := []) (cells := 0) (slots := 0) (Ts := []) (own := "BellPullsLaw") (C := "BellPulls") (b := ad a) (As := [.int x, .int y]) (rest := [.int 0, .ref (ad o)]) (n := 2) (bytes := cX8_lamp) (maxL := 3) (ret := some .int) (index := 7) (g := F0 m 5 la [.int y, .int x, .ref (ad a), .int 0, .ref (ad o)]) ⟨hx, hb, hml, hown, fun _ h => absurd h List.not_mem_nil⟩ (hM s.heap.size hb1 hb2) ⟨⟨rfl, rfl, Nat.le_refl _, by show 8 + (3 + 11) + 82 ≤ 104; omega, fun w hw a' U hW => by
      rcases List.mem_cons.mp hw with rfl | hw
      · exact word_at hW (good_of_word rfl) (hgd _ cw_X8_lamp rfl)
      · obtain ⟨z1, z2⟩ := List.mem_filter.mp hw
        exact word_at hW (good_of_word z2) (hgd _ z1 z2), List.mem_cons_self, hgd _ cw_X8_lamp rfl, hgd _ lm_x.2.2.2 rfl, ⟨by decide, by decide⟩, fun sig h => by
      have h2 := lm_sig
      rw [h] at h2
      exact (Option.some.inj h2).symm, hgd _ lm_x.1 rfl⟩, hgd _ lm_x.2.1 rfl, hgd _ lm_x.2.2.1 rfl⟩ ⟨pc_blind, hrecv, fun U hU hW => pc_pre hwo [.ref a, .int x, .int y] U hU hW⟩ rfl rfl hl.1 rfl (lv_room (by show 1 + (1 + 0) ≤ 8; omega)) wl_5 ⟨by show 0 + ((mU σ1).1 - (mU σ).1) ≤ (mU σ1).1 - (mU σ).1; omega, by show 0 + ((mU σ1).2.1 - (mU σ).2.1) ≤ (mU σ1).2.1 - (mU σ).2.1; omega⟩
  refine W_call (w1 := (some (.int v), σ1)) hwo hle.2.2 hrun (fun H1 locs1 hw1 => ?_)
  rw [Nat.zero_add, Nat.zero_add]
  obtain ⟨n, hn, hi⟩ := okI_of hok
  have hat := wsO_at (kA := kA) (ad := ad) hn
  refine lv_i2l hx hb wl_8 rfl ?_
  refine va_last hx hb hw1.1 hw1.2.1 hw1.2.2.1 hw1.2.2.2.1 o 2 hat rfl (inb_in hi) wl_9 (fun H2 locs2 hP2 hD2 hS2 => ?_)
  have hw2 : Wo D kA ad (va_A (wsO kA ad σ) s.heap.size) s H2 locs2 (uL σ1 o 0 v.toInt64) := wo_put hw1 rfl (ws_uLa hn) hP2 hD2 hS2
  refine lv_goto (tgt := 21) hx hb wl_10 rfl ?_
  refine lv_iconst hx hb wl_21 (v := 0) rfl ?_
  exact W.iret hx hb hr (fun t ht _ => ⟨rfl, by rw [ht]; exact hw2.2.1, hw2.2.2.1, hw2.2.2.2.1.F ht⟩) hw2.2.2.2.1.2.2 wl_22
/-- lamp throws: 1 or 2, by the class of what is thrown -/
theorem l_metT {E : String} {k : Int32} {base : Nat} (hE : (E = nIO ∧ k = 1) ∨ (E = nNS ∧ k = 2)) (hle : le2 σ σ1) (hk : isK σ a 8 = true)
    (hM : ∀ sz, base ≤ sz → sz ≤ base + (mU σ).1 → vx_Met l yX8_lamp (Cond.code yX8_lamp cX8_lamp 3 (some .int) :: lw_g) { frames := 6, cells := (mU σ1).1 + 1 - (mU σ).1, slots := (mU σ1).2.1 + 6 - (mU σ).2.1, locals := 82 } (PcJ D kA ad [.ref a, .int x, .int y] σ sz) (fun _ _ _ _ => False) (XcJ D kA ad σ σ1 E sz) ((mU σ1).1 + 1 - (mU σ).1) ((mU σ1).2.1 + 6 - (mU σ).2.1) (va_A (wsO kA ad σ) sz)) :
    MetY l D kA ad base yL_lamp wsL 7 104 [.ref a, .int x, .int y, .ref o] σ (some (.int k), lost σ1 6) := by
  intro sz hb1 hb2
  refine va_MetW (cc := cL_lamp) (maxL := 5) (ret := some .int) (hh := hhL) (by decide +kernel) rfl ?_
  intro p e s m args below meth c s₁ B hml hv
  obtain ⟨rfl, hsz, hK, hP, hD, hSp⟩ := hv
  subst hsz
  have hx := B.exec
  have hb := B.bytes
  have hr := B.returns
  have hlocks := B.notSynchronized
  have hown : s.vm.findClass "BellPullsLaw" = some m.cls := findClass_of_methodNamed B.named
  have hts := atoms_spec (ws := wsL) B.pre
  have hgd : ∀ w : Cond, w ∈ lw_tbl → goodWord w = true → w.before (([.ref a, .int x, .int y, .ref o] : List Value).map (vmv ad)).toArray s = true := fun w h g => hts w (List.mem_cons_of_mem _ (List.mem_filter.mpr ⟨h, g⟩))
  have htb : c.exceptionTable.toList = tableOf hhL := vx_table (x := yL_lamp) B (hgd _ lm_m.2.2.1 rfl)
  have hl := lv_entry ([.ref (ad a), .int x, .int y, .ref (ad o)] : List Value) (n := 5) (show 4 ≤ 5 by omega)
  show W p l e _ s m _ below meth c s.heap [] 0 0 _ (entryFrame m ([.ref (ad a), .int x, .int y, .ref (ad o)] : List Value).toArray 5)
  rw [lg_entry_eq]
  generalize (lg_sl ([.ref (ad a), .int x, .int y, .ref (ad o)] : List Value) ++ List.replicate (5 - (lg_sl ([.ref (ad a), .int x, .int y, .ref (ad o)] : List Value)).length) Slot.unset).toArray = la at hl ⊢
  have hl : lv_has la 5 [(0, .ref (ad a)), (1, .int x), (2, .int y), (3, .ref (ad o))] := hl
  have hwo : Wo D kA ad (va_A (wsO kA ad σ) s.heap.size) s s.heap [] σ := ⟨hK, hP, hD.self, va_S.rf, hSp, fun q h => Or.inr h⟩
  have hS : SpE ad (va_A (wsO kA ad σ) s.heap.size) s := hSp.2.2.2.2.2.2.2
  have hrecv : ∃ cellB : Cell, s.heap[ad a]? = some cellB ∧ cellB.vm.isStatics = false ∧ s.vm.findClass "BellPulls" = some cellB.cls := by
    obtain ⟨nn, hnn⟩ := isK_of hk
    have hat := wsO_at (kA := kA) (ad := ad) hnn
    rw [ent_obj (by omega)] at hat
    exact va_recv hwo.1 hwo.2.1 (f_cls (c := 8) (by omega)).1 hat
  refine lv_aload_n hx hb wl_0 rfl (lv_at hl 3 rfl) ?_
  refine lv_iconst hx hb wl_1 (v := 0) rfl ?_
  refine lv_aload_n hx hb wl_2 rfl (lv_at hl 0 rfl) ?_
  refine lv_iload_n hx hb wl_3 rfl (lv_at hl 1 rfl) ?_
  refine lv_iload_n hx hb wl_4 rfl (lv_at hl 2 rfl) ?_
  have hrun := vx_runV (p := p) (l := l) (e := e) (R := (headSpec wsL { frames := 7, cells := (mU σ1).1 + 1 - (mU σ).1, slots := (mU σ1).2.1 + 6 - (mU σ).2.1, locals := 104 }).room) (s := s) (m := m) (args := (([.ref a, .int x, .int y, .ref o] : List Value).map (vmv ad)).toArray) (below := below) (meth := meth) (c := c) (H := s.heap) (locs := []) (cells := 0) (slots := 0) (Ts := []) (own := "BellPullsLaw") (C := "BellPulls") (b := ad a) (As := [.int x, .int y]) (rest := [.int 0, .ref (ad o)]) (n := 2) (bytes := cX8_lamp) (maxL := 3) (ret := some .int) (index := 7) (g := F0 m 5 la [.int y, .int x, .ref (ad a), .int 0, .ref (ad o)]) ⟨hx, hb, hml, hown, fun _ h => absurd h List.not_mem_nil⟩ (hM s.heap.size hb1 hb2) ⟨⟨rfl, rfl, Nat.le_refl _, by show 8 + (3 + 11) + 82 ≤ 104; omega, fun w hw a' U hW => by
      rcases List.mem_cons.mp hw with rfl | hw
      · exact word_at hW (good_of_word rfl) (hgd _ cw_X8_lamp rfl)
      · obtain ⟨z1, z2⟩ := List.mem_filter.mp hw
        exact word_at hW (good_of_word z2) (hgd _ z1 z2), List.mem_cons_self, hgd _ cw_X8_lamp rfl, hgd _ lm_x.2.2.2 rfl, ⟨by decide, by decide⟩, fun sig h => by
      have h2 := lm_sig
      rw [h] at h2
      exact (Option.some.inj h2).symm, hgd _ lm_x.1 rfl⟩, hgd _ lm_x.2.1 rfl, hgd _ lm_x.2.2.1 rfl⟩ ⟨pc_blind, hrecv, fun U hU hW => pc_pre hwo [.ref a, .int x, .int y] U hU hW⟩ rfl rfl hl.1 rfl (lv_room (by show 1 + (1 + 0) ≤ 8; omega)) wl_5 ⟨by show 0 + ((mU σ1).1 + 1 - (mU σ).1) ≤ (mU σ1).1 + 1 - (mU σ).1; omega, by show 0 + ((mU σ1).2.1 + 6 - (mU σ).2.1) ≤ (mU σ1).2.1 + 6 - (mU σ).2.1; omega⟩
  intro T hT X
  rcases hrun T hT X with ⟨v, st₀, t, T', L, h0, X', hL, e1, e2, hq, st⟩ | ⟨q, st₀, t, T', L, E', ce, h0, X', hL, e1, e2, ⟨rfl, hP1, hD1, hF⟩, hce, hcv, hcl, st⟩
  · exact absurd hq id
  · rw [Nat.zero_add, Nat.zero_add] at X'
    obtain ⟨f1, f2⟩ := hF
    rw [h0] at f1 f2
    have hLA : ∀ z ∈ ([] : List Loc) ++ L, va_A (wsO kA ad σ) s.heap.size z.base := fun z hz => by
      rcases List.mem_append.mp hz with h | h
      · exact absurd h List.not_mem_nil
      · exact hL z h
    have hend : ∀ (la2 : Array Slot) (pc : Nat), decode cL_lamp pc = .ok (.ireturn, 1) → W p l e (headSpec wsL { frames := 7, cells := (mU σ1).1 + 1 - (mU σ).1, slots := (mU σ1).2.1 + 6 - (mU σ).2.1, locals := 104 }).room s m (([.ref a, .int x, .int y, .ref o] : List Value).map (vmv ad)).toArray below meth c T'.heap ([] ++ L) ((mU σ1).1 + 1 - (mU σ).1) ((mU σ1).2.1 + 6 - (mU σ).2.1) (MQ below (QcJ D kA ad σ (some (.int k), lost σ1 6) s.heap.size) (([.ref a, .int x, .int y, .ref o] : List Value).map (vmv ad)).toArray s ((mU σ1).1 + 1 - (mU σ).1) ((mU σ1).2.1 + 6 - (mU σ).2.1) (va_A (wsO kA ad σ) s.heap.size)) (F0 m pc la2 [.int k]) := by
      intro la2 pc hd
      exact W.iret hx hb hr (fun u hu _ => ⟨rfl, by rw [hu, e1]; exact hP1, hD1, by rw [hu, e1]; exact f1, fun q h1 h2 => by rw [hu, e1]; exact f2 q h1 h2⟩) hLA hd
    rcases hE with ⟨rfl, rfl⟩ | ⟨rfl, rfl⟩
    · obtain ⟨t2, a1, b1⟩ := vz_c1 (Q := MQ below (QcJ D kA ad σ (some (.int 1), lost σ1 6) s.heap.size) (([.ref a, .int x, .int y, .ref o] : List Value).map (vmv ad)).toArray s ((mU σ1).1 + 1 - (mU σ).1) ((mU σ1).2.1 + 6 - (mU σ).2.1) (va_A (wsO kA ad σ) s.heap.size)) (pc := 5) (ls := la) (rest := [.int 0, .ref (ad o)]) (own := "BellPullsLaw") (name := nIO) hown _ _ htb (by decide) (by decide) (hgd _ lm_l1 rfl) ((hS.2.2.1 _ _ lm_c1).use rfl) (by rw [e1]; exact hce) hcv hcl (lv_astore hx hb wl_13 hl (by decide) rfl (fun la2 _ => lv_iconst hx hb wl_15 rfl (hend la2 16 wl_16))) T' rfl X'
      exact ⟨t2, st.trans a1, b1⟩
    · obtain ⟨t2, a1, b1⟩ := vz_c2 (Q := MQ below (QcJ D kA ad σ (some (.int 2), lost σ1 6) s.heap.size) (([.ref a, .int x, .int y, .ref o] : List Value).map (vmv ad)).toArray s ((mU σ1).1 + 1 - (mU σ).1) ((mU σ1).2.1 + 6 - (mU σ).2.1) (va_A (wsO kA ad σ) s.heap.size)) (pc := 5) (ls := la) (rest := [.int 0, .ref (ad o)]) (own := "BellPullsLaw") (nm := nIO) (name := nNS) hown _ _ _ htb (by decide) (by decide) (hgd _ lm_l1 rfl) hS.2.2.2.2.2.2.2.2 (by decide) (by decide) (hgd _ lm_l2 rfl) ((hS.2.2.1 _ _ lm_c2).use rfl) (by rw [e1]; exact hce) hcv hcl (lv_astore hx hb wl_17 hl (by decide) rfl (fun la2 _ => lv_iconst hx hb wl_19 rfl (hend la2 20 wl_20))) T' rfl X'
      exact ⟨t2, st.trans a1, b1⟩
end LmL
