section Main
variable {p : Program} {l : Launch} {e : Env} {R : Room} {s : State} {m : MethodId} {args : Array Value} {below : List Frame} {meth : Method} {c : Code} {D : va_G} {kA : Nat → ClassId} {ad : Nat → Nat} {A : Nat → Prop} {M : Nat} {w : Option Value × Mm} {u0 : Nat × Nat} {Q : State → Prop} {pc : Nat} {ls st : List Value} {σ : Mm} {k : Nat → List Value → List Value → Mm → Rs}
theorem o_all (cx : Cx p l e R s m args below meth c M) (hk : ∀ pc2 ls2 st2 σ2, k pc2 ls2 st2 σ2 = some w → Gd p l e R s m args below meth c D kA ad A w u0 Q pc2 ls2 st2 σ2) {call : Nat → List Value → Mm → Rs} (hcl : ∀ j as σ w1, call j as σ = some w1 → CaOk l D kA ad j as σ w1) (hB : Bs s ad u0) (hR1 : (mU w.2).1 ≤ u0.1 + R.cells) (hR2 : (mU w.2).2.1 ≤ u0.2 + R.slots) (hq : ∀ (H : Heap) (locs : List Loc) (la : Array Slot) (pc : Nat), Wo D kA ad A s H locs w.2 → RetAt M pc w.1 → W p l e R s m args below meth c H locs ((mU w.2).1 - u0.1) ((mU w.2).2.1 - u0.2) Q (F0 m pc la (w.1.toList.map (vmv ad)))) {i : Instr} {len : Nat} (hd : decode (cM M) pc = .ok (i, len)) (hlen : lnk i len = true) (h : opk i M pc ls st σ k call = some w) : Gd p l e R s m args below meth c D kA ad A w u0 Q pc ls st σ := by
  cases i with
  | iconst a =>
    obtain rfl : len = 1 := by simpa [lnk] using hlen
    exact o_iconst cx hk hd h
  | bipush a =>
    obtain rfl : len = 2 := by simpa [lnk] using hlen
    exact o_bipush cx hk hd h
  | sipush a =>
    obtain rfl : len = 3 := by simpa [lnk] using hlen
    exact o_sipush cx hk hd h
  | lconst a =>
    obtain rfl : len = 1 := by simpa [lnk] using hlen
    exact o_lconst cx hk hd h
  | iload_n a =>
    obtain rfl : len = 1 := by simpa [lnk] using hlen
    exact o_iload_n cx hk hd h
  | iload a =>
    obtain rfl : len = 2 := by simpa [lnk] using hlen
    exact o_iload cx hk hd h
  | lload_n a =>
    obtain rfl : len = 1 := by simpa [lnk] using hlen
    exact o_lload_n cx hk hd h
  | lload a =>
    obtain rfl : len = 2 := by simpa [lnk] using hlen
    exact o_lload cx hk hd h
  | aload_n a =>
    obtain rfl : len = 1 := by simpa [lnk] using hlen
    exact o_aload_n cx hk hd h
  | aload a =>
    obtain rfl : len = 2 := by simpa [lnk] using hlen
    exact o_aload cx hk hd h
  | istore_n a =>
    obtain rfl : len = 1 := by simpa [lnk] using hlen
    exact o_istore_n cx hk hd h
  | istore a =>
    obtain rfl : len = 2 := by simpa [lnk] using hlen
    exact o_istore cx hk hd h
  | lstore_n a =>
    obtain rfl : len = 1 := by simpa [lnk] using hlen
    exact o_lstore_n cx hk hd h
  | lstore a =>
    obtain rfl : len = 2 := by simpa [lnk] using hlen
    exact o_lstore cx hk hd h
  | astore_n a =>
    obtain rfl : len = 1 := by simpa [lnk] using hlen
    exact o_astore_n cx hk hd h
  | astore a =>
    obtain rfl : len = 2 := by simpa [lnk] using hlen
    exact o_astore cx hk hd h
  | iinc a b =>
    obtain rfl : len = 3 := by simpa [lnk] using hlen
    exact o_iinc cx hk hd h
  | iadd  =>
    obtain rfl : len = 1 := by simpa [lnk] using hlen
    exact o_iadd cx hk hd h
  | isub  =>
    obtain rfl : len = 1 := by simpa [lnk] using hlen
    exact o_isub cx hk hd h
  | imul  =>
    obtain rfl : len = 1 := by simpa [lnk] using hlen
    exact o_imul cx hk hd h
  | iand  =>
    obtain rfl : len = 1 := by simpa [lnk] using hlen
    exact o_iand cx hk hd h
  | ior  =>
    obtain rfl : len = 1 := by simpa [lnk] using hlen
    exact o_ior cx hk hd h
  | ixor  =>
    obtain rfl : len = 1 := by simpa [lnk] using hlen
    exact o_ixor cx hk hd h
  | ishl  =>
    obtain rfl : len = 1 := by simpa [lnk] using hlen
    exact o_ishl cx hk hd h
  | ishr  =>
    obtain rfl : len = 1 := by simpa [lnk] using hlen
    exact o_ishr cx hk hd h
  | iushr  =>
    obtain rfl : len = 1 := by simpa [lnk] using hlen
    exact o_iushr cx hk hd h
  | idiv  =>
    obtain rfl : len = 1 := by simpa [lnk] using hlen
    exact o_idiv cx hk hd h
  | irem  =>
    obtain rfl : len = 1 := by simpa [lnk] using hlen
    exact o_irem cx hk hd h
  | ineg  =>
    obtain rfl : len = 1 := by simpa [lnk] using hlen
    exact o_ineg cx hk hd h
  | i2b  =>
    obtain rfl : len = 1 := by simpa [lnk] using hlen
    exact o_i2b cx hk hd h
  | i2c  =>
    obtain rfl : len = 1 := by simpa [lnk] using hlen
    exact o_i2c cx hk hd h
  | i2l  =>
    obtain rfl : len = 1 := by simpa [lnk] using hlen
    exact o_i2l cx hk hd h
  | l2i  =>
    obtain rfl : len = 1 := by simpa [lnk] using hlen
    exact o_l2i cx hk hd h
  | lneg  =>
    obtain rfl : len = 1 := by simpa [lnk] using hlen
    exact o_lneg cx hk hd h
  | ladd  =>
    obtain rfl : len = 1 := by simpa [lnk] using hlen
    exact o_ladd cx hk hd h
  | lsub  =>
    obtain rfl : len = 1 := by simpa [lnk] using hlen
    exact o_lsub cx hk hd h
  | lmul  =>
    obtain rfl : len = 1 := by simpa [lnk] using hlen
    exact o_lmul cx hk hd h
  | land  =>
    obtain rfl : len = 1 := by simpa [lnk] using hlen
    exact o_land cx hk hd h
  | lcmp  =>
    obtain rfl : len = 1 := by simpa [lnk] using hlen
    exact o_lcmp cx hk hd h
  | ldiv  =>
    obtain rfl : len = 1 := by simpa [lnk] using hlen
    exact o_ldiv cx hk hd h
  | lrem  =>
    obtain rfl : len = 1 := by simpa [lnk] using hlen
    exact o_lrem cx hk hd h
  | dup  =>
    obtain rfl : len = 1 := by simpa [lnk] using hlen
    exact o_dup (call := call) cx hk hd h
  | dup2  =>
    obtain rfl : len = 1 := by simpa [lnk] using hlen
    exact o_dup2 (call := call) cx hk hd h
  | pop  =>
    obtain rfl : len = 1 := by simpa [lnk] using hlen
    exact o_pop (call := call) cx hk hd h
  | tableswitch a b c d => exact o_tableswitch (call := call) cx hk hd h
  | lookupswitch a b => exact o_lookupswitch (call := call) cx hk hd h
  | ldc a =>
    obtain rfl : len = 2 := by simpa [lnk] using hlen
    exact o_ldc (call := call) cx hk hd h
  | ldc_w a =>
    obtain rfl : len = 3 := by simpa [lnk] using hlen
    exact o_ldc_w (call := call) cx hk hd h
  | ldc2_w a =>
    obtain rfl : len = 3 := by simpa [lnk] using hlen
    exact o_ldc2_w (call := call) cx hk hd h
  | getstatic a =>
    obtain rfl : len = 3 := by simpa [lnk] using hlen
    exact o_getstatic (call := call) cx hk hd h
  | getfield a =>
    obtain rfl : len = 3 := by simpa [lnk] using hlen
    exact o_getfield (call := call) cx hk hd h
  | putfield a =>
    obtain rfl : len = 3 := by simpa [lnk] using hlen
    exact o_putfield (call := call) cx hk hd h
  | arraylength  =>
    obtain rfl : len = 1 := by simpa [lnk] using hlen
    exact o_arraylength (call := call) cx hk hd h
  | iaload  =>
    obtain rfl : len = 1 := by simpa [lnk] using hlen
    exact o_iaload (call := call) cx hk hd h
  | baload  =>
    obtain rfl : len = 1 := by simpa [lnk] using hlen
    exact o_baload (call := call) cx hk hd h
  | laload  =>
    obtain rfl : len = 1 := by simpa [lnk] using hlen
    exact o_laload (call := call) cx hk hd h
  | iastore  =>
    obtain rfl : len = 1 := by simpa [lnk] using hlen
    exact o_iastore (call := call) cx hk hd h
  | bastore  =>
    obtain rfl : len = 1 := by simpa [lnk] using hlen
    exact o_bastore (call := call) cx hk hd h
  | lastore  =>
    obtain rfl : len = 1 := by simpa [lnk] using hlen
    exact o_lastore (call := call) cx hk hd h
  | new a =>
    obtain rfl : len = 3 := by simpa [lnk] using hlen
    exact o_new (call := call) cx hk hB hR1 hR2 hd h
  | newarray a =>
    obtain rfl : len = 2 := by simpa [lnk] using hlen
    exact o_newarray (call := call) cx hk hB hR1 hR2 hd h
  | invokevirtual a =>
    obtain rfl : len = 3 := by simpa [lnk] using hlen
    exact o_invokevirtual cx hk hcl hB hR1 hR2 hd h
  | ireturn  =>
    obtain rfl : len = 1 := by simpa [lnk] using hlen
    exact o_ireturn (ls := ls) (k := k) (call := call) hq hd h
  | lreturn  =>
    obtain rfl : len = 1 := by simpa [lnk] using hlen
    exact o_lreturn (ls := ls) (k := k) (call := call) hq hd h
  | areturn  =>
    obtain rfl : len = 1 := by simpa [lnk] using hlen
    exact o_areturn (ls := ls) (k := k) (call := call) hq hd h
  | return_  =>
    obtain rfl : len = 1 := by simpa [lnk] using hlen
    exact o_return_ (ls := ls) (k := k) (call := call) hq hd h
  | goto a =>
    obtain rfl : len = 3 := by simpa [lnk] using hlen
    exact o_goto cx hk hd h
  | ifCond a b =>
    obtain rfl : len = 3 := by simpa [lnk] using hlen
    cases a with
    | eq => exact o_if_eq cx hk hd h
    | ne => exact o_if_ne cx hk hd h
    | lt => exact o_if_lt cx hk hd h
    | ge => exact o_if_ge cx hk hd h
    | gt => exact o_if_gt cx hk hd h
    | le => exact o_if_le cx hk hd h
  | if_icmp a b =>
    obtain rfl : len = 3 := by simpa [lnk] using hlen
    cases a with
    | eq => exact o_icmp_eq cx hk hd h
    | ne => exact o_icmp_ne cx hk hd h
    | lt => exact o_icmp_lt cx hk hd h
    | ge => exact o_icmp_ge cx hk hd h
    | gt => exact o_icmp_gt cx hk hd h
    | le => exact o_icmp_le cx hk hd h
  | invokestatic a =>
    obtain rfl : len = 3 := by simpa [lnk] using hlen
    have h : p_invokestatic a M pc ls st σ k call = some w := h
    unfold p_invokestatic at h
    cases hc : callT (oM M) a with
    | none => rw [hc] at h; cases h
    | some q =>
      obtain ⟨kd, j, n⟩ := q
      rw [hc] at h
      dsimp only at h
      split at h
      next hh =>
        obtain ⟨rfl, hf, -⟩ := hh
        exact o_scall cx hk hcl hB hR1 hR2 hd hc hf h
      next =>
        split at h
        next hh =>
          obtain ⟨rfl, h1, h2⟩ := hh
          exact o_copy cx hk hd hc h1 h2 h
        next =>
          split at h
          next hh =>
            obtain ⟨rfl, h1, h2⟩ := hh
            exact o_chk cx hk hB hR1 hR2 hd hc h1 h2 h
          next =>
            obtain ⟨⟨rfl, h1, h2⟩, h5⟩ := if_spec h
            exact o_lamp cx hk hcl hB hR1 hR2 hd hc h1 h2 h5
  | invokespecial a =>
    obtain rfl : len = 3 := by simpa [lnk] using hlen
    have h : p_invokespecial a M pc ls st σ k call = some w := h
    unfold p_invokespecial at h
    cases hc : callT (oM M) a with
    | none => rw [hc] at h; cases h
    | some q =>
      obtain ⟨kd, j, n⟩ := q
      rw [hc] at h
      dsimp only at h
      split at h
      next hh =>
        obtain ⟨hkd, hf, -⟩ := hh
        exact o_icall cx hk hcl hB hR1 hR2 hd hc hkd hf h
      next =>
        obtain ⟨⟨rfl, h1, h2⟩, h5⟩ := if_spec h
        exact o_objinit (call := call) cx hk hd hc h1 h2 h5
  | _ => cases h
end Main
/-- a method's contract out of its run -/
theorem metJ_of {l : Launch} (hst : l.stackTraces = false) {D : va_G} {kA : Nat → ClassId} {ad : Nat → Nat} {j : Nat} {as : List Value} {σ : Mm} {w : Option Value × Mm} (hle : le2 σ w.2) (hok : okr j as σ = true) (hj : j < 294) (hj2 : j ≠ 273) {base : Nat} (hb : ∀ a : Nat, a < 1000000 → ad a = base + a) (hs : SN l D kA ad j 0 (padL (xM j) (lsO as)) [] σ w) : MetJ l D kA ad base j as σ w := metJ_gen hst hle hok (f_meth hj).2.2.2.1 (f_meth hj).2.2.2.2 hb hs
theorem run_snd (l : Launch) (hst : l.stackTraces = false) (D : va_G) (kA : Nat → ClassId) (ad : Nat → Nat) : ∀ (n M pc : Nat) (ls st : List Value) (σ : Mm) (w : Option Value × Mm), run n M pc ls st σ = some w → SN l D kA ad M pc ls st σ w := by
  intro n
  induction n with
  | zero => intro M pc ls st σ w h; cases h
  | succ n ih =>
    intro M pc ls st σ w h p e R s m args below meth c A u0 Q cx hB hR1 hR2 hq
    unfold run at h
    split at h
    next i len hd =>
      obtain ⟨hlen, h3⟩ := if_spec h
      refine o_all cx (fun pc2 ls2 st2 σ2 h2 => ih _ _ _ _ _ _ h2 p e R s m args below meth c A u0 Q cx hB hR1 hR2 hq) (fun j as σ2 w1 h2 => ?_) hB hR1 hR2 hq hd hlen h3
      obtain ⟨hok, h2⟩ := if_spec h2
      exact ⟨hok, run_le _ _ _ _ _ _ _ h2, fun hj hj2 base hb => metJ_of hst (run_le _ _ _ _ _ _ _ h2) hok hj hj2 hb (ih _ _ _ _ _ _ h2)⟩
    next => cases h
