/-! ===== the class's lamp: its walk ===== -/
noncomputable def kG (P : Nat → List Value → List Value → Mm → Prop) (w : Option Value × Mm) : Nat → List Value → List Value → Mm → Rs := fun pc ls st σ => @ite _ (P pc ls st σ) (Classical.propDecidable _) (some w) none
theorem kG_hk {P : Nat → List Value → List Value → Mm → Prop} {w : Option Value × Mm} : ∀ pc ls st σ, kG P w pc ls st σ = some w → P pc ls st σ := by
  intro pc ls st σ h
  unfold kG at h
  split at h
  next hp => exact hp
  next => cases h
theorem kG_of {P : Nat → List Value → List Value → Mm → Prop} {w : Option Value × Mm} {pc : Nat} {ls st : List Value} {σ : Mm} (h : P pc ls st σ) : kG P w pc ls st σ = some w := by
  unfold kG
  exact if_pos h
section LmX
variable {p : Program} {l : Launch} {e : Env} {R : Room} {s : State} {m : MethodId} {args : Array Value} {below : List Frame} {meth : Method} {c : Code} {D : va_G} {kA : Nat → ClassId} {ad : Nat → Nat} {A : Nat → Prop} {w : Option Value × Mm} {u0 : Nat × Nat} {Q : State → Prop} {pc : Nat} {ls st : List Value} {σ : Mm} {call : Nat → List Value → Mm → Rs}
theorem g_aload {n : Fin 4} {i : Nat} {b : Nat} (cx : Cx p l e R s m args below meth c 300) (hd : decode cX8_lamp pc = .ok (.aload_n n, 1)) (hi : n.val = i) (hl : loc ls i = some (.ref b)) (h : Gd p l e R s m args below meth c D kA ad A w u0 Q (pc + 1) ls (.ref b :: st) σ) : Gd p l e R s m args below meth c D kA ad A w u0 Q pc ls st σ :=
  o_aload_n (k := kG (Gd p l e R s m args below meth c D kA ad A w u0 Q) w) cx kG_hk hd (by rw [hi, hl]; exact kG_of h)
theorem g_iload {n : Fin 4} {i : Nat} {b : Int32} (cx : Cx p l e R s m args below meth c 300) (hd : decode cX8_lamp pc = .ok (.iload_n n, 1)) (hi : n.val = i) (hl : loc ls i = some (.int b)) (h : Gd p l e R s m args below meth c D kA ad A w u0 Q (pc + 1) ls (.int b :: st) σ) : Gd p l e R s m args below meth c D kA ad A w u0 Q pc ls st σ :=
  o_iload_n (k := kG (Gd p l e R s m args below meth c D kA ad A w u0 Q) w) cx kG_hk hd (by rw [hi, hl]; exact kG_of h)
theorem g_getr {idx ci j a h : Nat} (cx : Cx p l e R s m args below meth c 300) (hd : decode cX8_lamp pc = .ok (.getfield idx, 3)) (hf : fld 8 idx = some (ci, j, 2)) (hc : ci ≠ 20) (hk : isK σ a ci = true) (hm : mR σ a j = some h) (hn : Gd p l e R s m args below meth c D kA ad A w u0 Q (pc + 3) ls (.ref h :: st) σ) : Gd p l e R s m args below meth c D kA ad A w u0 Q pc ls (.ref a :: st) σ := by
  refine o_getfield (k := kG (Gd p l e R s m args below meth c D kA ad A w u0 Q) w) (call := fun _ _ _ => none) cx kG_hk hd ?_
  unfold p_getfield
  rw [show fld (oM 300) idx = some (ci, j, 2) from hf]
  show getF σ a (ci, j, 2) (fun v => kG (Gd p l e R s m args below meth c D kA ad A w u0 Q) w (pc + 3) ls (v :: st) σ) = some w
  unfold getF
  dsimp only
  rw [if_neg hc, if_pos hk, if_neg (by decide), if_pos rfl]
  show kG _ w (pc + 3) ls (rv (mR σ a j) :: st) σ = _
  rw [hm]
  exact kG_of hn
theorem g_geti {idx ci j a : Nat} (cx : Cx p l e R s m args below meth c 300) (hd : decode cX8_lamp pc = .ok (.getfield idx, 3)) (hf : fld 8 idx = some (ci, j, 0)) (hc : ci ≠ 20) (hk : isK σ a ci = true) (hn : Gd p l e R s m args below meth c D kA ad A w u0 Q (pc + 3) ls (.int (mI σ a j) :: st) σ) : Gd p l e R s m args below meth c D kA ad A w u0 Q pc ls (.ref a :: st) σ := by
  refine o_getfield (k := kG (Gd p l e R s m args below meth c D kA ad A w u0 Q) w) (call := fun _ _ _ => none) cx kG_hk hd ?_
  unfold p_getfield
  rw [show fld (oM 300) idx = some (ci, j, 0) from hf]
  show getF σ a (ci, j, 0) (fun v => kG (Gd p l e R s m args below meth c D kA ad A w u0 Q) w (pc + 3) ls (v :: st) σ) = some w
  unfold getF
  dsimp only
  rw [if_neg hc, if_pos hk, if_neg (by decide), if_neg (by decide)]
  exact kG_of hn
theorem g_call {idx j a : Nat} {x : Int32} {v : Option Value} {σ1 : Mm} (cx : Cx p l e R s m args below meth c 300) (hcl : ∀ j as σ w1, call j as σ = some w1 → CaOk l D kA ad j as σ w1) (hB : Bs s ad u0) (hR1 : (mU w.2).1 ≤ u0.1 + R.cells) (hR2 : (mU w.2).2.1 ≤ u0.2 + R.slots) (hd : decode cX8_lamp pc = .ok (.invokevirtual idx, 3)) (hc : callT 8 idx = some (0, j, 1)) (hf : fok 300 j = true ∧ stM j = false) (hls : ls.length = 3) (hca : call j [.ref a, .int x] σ = some (v, σ1)) (hn : Gd p l e R s m args below meth c D kA ad A w u0 Q (pc + 3) ls v.toList σ1) : Gd p l e R s m args below meth c D kA ad A w u0 Q pc ls [.int x, .ref a] σ := by
  refine o_invokevirtual (k := kG (Gd p l e R s m args below meth c D kA ad A w u0 Q) w) (call := call) cx kG_hk hcl hB hR1 hR2 hd ?_
  unfold p_invokevirtual
  rw [show callT (oM 300) idx = some (0, j, 1) from hc]
  refine (if_pos ⟨rfl, hf.1, hf.2⟩).trans ?_
  unfold p_vcall
  show (if ([] : List Value).length ≤ 4 ∧ ls.length = xM 300 then (match call j [.ref a, .int x] σ with
      | some w => kG _ _ (pc + 3) ls (w.1.toList ++ []) w.2
      | none => none) else none) = _
  rw [if_pos ⟨Nat.zero_le _, hls⟩, hca]
  show kG _ w (pc + 3) ls (v.toList ++ []) σ1 = _
  rw [List.append_nil]
  exact kG_of hn
theorem g_ret {v : Int32} (hq : ∀ (H : Heap) (locs : List Loc) (la : Array Slot) (pc : Nat), Wo D kA ad A s H locs σ → RetAt 300 pc (some (.int v)) → W p l e R s m args below meth c H locs ((mU σ).1 - u0.1) ((mU σ).2.1 - u0.2) Q (F0 m pc la [.int v])) (hd : decode cX8_lamp pc = .ok (.ireturn, 1)) : Gd p l e R s m args below meth c D kA ad A (some (.int v), σ) u0 Q pc ls [.int v] σ :=
  o_ireturn (M := 300) (k := fun _ _ _ _ => none) (call := fun _ _ _ => none) (w := (some (.int v), σ)) hq hd rfl
/-- down to isLamp's answer -/
theorem x_pre {a : Nat} {x y b : Int32} {σ1 : Mm} (cx : Cx p l e R s m args below meth c 300) (hcl : ∀ j as σ w1, call j as σ = some w1 → CaOk l D kA ad j as σ w1) (hB : Bs s ad u0) (hR1 : (mU w.2).1 ≤ u0.1 + R.cells) (hR2 : (mU w.2).2.1 ≤ u0.2 + R.slots) (hca : call mX8_isLamp [.ref a, .int x] σ = some (some (.int b), σ1))
    (h0 : b = 0 → Gd p l e R s m args below meth c D kA ad A w u0 Q 8 [.ref a, .int x, .int y] [] σ1) (h1 : b ≠ 0 → Gd p l e R s m args below meth c D kA ad A w u0 Q 18 [.ref a, .int x, .int y] [] σ1) : Gd p l e R s m args below meth c D kA ad A w u0 Q 0 [.ref a, .int x, .int y] [] σ := by
  refine g_aload cx wx_0 rfl rfl (g_iload cx wx_1 rfl rfl ?_)
  refine g_call cx hcl hB hR1 hR2 wx_2 rfl ⟨by decide, by decide⟩ rfl hca ?_
  refine o_if_ne (k := kG (Gd p l e R s m args below meth c D kA ad A w u0 Q) w) cx kG_hk wx_5 ?_
  show (if cmp2 .ne b 0 = true then kG _ w 18 [.ref a, .int x, .int y] [] σ1 else kG _ w 8 [.ref a, .int x, .int y] [] σ1) = some w
  by_cases hb : b = 0
  · rw [if_neg (by subst hb; decide)]
    exact kG_of (h0 hb)
  · rw [if_pos (show cmp2 .ne b 0 = true from decide_eq_true hb)]
    exact kG_of (h1 hb)
theorem sw_out {y : Int32} (h0 : y ≠ 0) (h1 : y ≠ 1) (h2 : y ≠ 2) (h3 : y ≠ 3) : swT 0 3 72 #[29, 41, 53, 63] y = some 72 := by
  unfold swT
  rw [if_pos]
  have e0 : y.toInt ≠ 0 := fun z => h0 (Int32.toInt_inj.mp (z.trans (by decide)))
  have e1 : y.toInt ≠ 1 := fun z => h1 (Int32.toInt_inj.mp (z.trans (by decide)))
  have e2 : y.toInt ≠ 2 := fun z => h2 (Int32.toInt_inj.mp (z.trans (by decide)))
  have e3 : y.toInt ≠ 3 := fun z => h3 (Int32.toInt_inj.mp (z.trans (by decide)))
  omega
/-- the switch: to its place -/
theorem x_sw {a : Nat} {x y : Int32} {t : Nat} {off : Int} (cx : Cx p l e R s m args below meth c 300) (hs : swT 0 3 72 #[29, 41, 53, 63] y = some off) (ht : (19 : Int) + off = t) (hn : Gd p l e R s m args below meth c D kA ad A w u0 Q t [.ref a, .int x, .int y] [] σ) : Gd p l e R s m args below meth c D kA ad A w u0 Q 18 [.ref a, .int x, .int y] [] σ := by
  refine g_iload (i := 2) cx wx_18 rfl rfl ?_
  refine o_tableswitch (k := kG (Gd p l e R s m args below meth c D kA ad A w u0 Q) w) (call := fun _ _ _ => none) cx kG_hk wx_19 ?_
  show (match swT 0 3 72 #[29, 41, 53, 63] y with
    | some off => jmp 19 off (fun t => kG _ w t [.ref a, .int x, .int y] [] σ)
    | none => none) = some w
  rw [hs]
  show jmp 19 off _ = some w
  unfold jmp
  have e : ((19 : Nat) : Int) + off = t := ht
  rw [e, if_pos (Int.natCast_nonneg t), Int.toNat_natCast]
  exact kG_of hn
/-- a bit of the house's lamps on, or burnt -/
theorem x_bit {a h j : Nat} {x y : Int32} (cx : Cx p l e R s m args below meth c 300) (hk8 : isK σ a 8 = true) (hr : mR σ a 2 = some h) (hk2 : isK σ h 2 = true) {q i3 : Nat} (hj : fld 8 i3 = some (2, j, 0)) (w0 : decode cX8_lamp q = .ok (.aload_n 0, 1)) (w1 : decode cX8_lamp (q + 1) = .ok (.getfield 28, 3)) (w4 : decode cX8_lamp (q + 1 + 3) = .ok (.getfield i3, 3)) (w7 : decode cX8_lamp (q + 1 + 3 + 3) = .ok (.iload_n 1, 1)) (w8 : decode cX8_lamp (q + 1 + 3 + 3 + 1) = .ok (.ishr, 1)) (w9 : decode cX8_lamp (q + 1 + 3 + 3 + 1 + 1) = .ok (.iconst 1, 1)) (w10 : decode cX8_lamp (q + 1 + 3 + 3 + 1 + 1 + 1) = .ok (.iand, 1)) (w11 : decode cX8_lamp (q + 1 + 3 + 3 + 1 + 1 + 1 + 1) = .ok (.ireturn, 1))
    (hq : ∀ (H : Heap) (locs : List Loc) (la : Array Slot) (pc : Nat), Wo D kA ad A s H locs σ → RetAt 300 pc (some (.int ((mI σ h j >>> (x &&& 31)) &&& 1))) → W p l e R s m args below meth c H locs ((mU σ).1 - u0.1) ((mU σ).2.1 - u0.2) Q (F0 m pc la [.int ((mI σ h j >>> (x &&& 31)) &&& 1)])) :
    Gd p l e R s m args below meth c D kA ad A (some (.int ((mI σ h j >>> (x &&& 31)) &&& 1)), σ) u0 Q q [.ref a, .int x, .int y] [] σ := by
  refine g_aload (i := 0) cx w0 rfl rfl ?_
  refine g_getr cx w1 rfl (by decide) hk8 hr ?_
  refine g_geti cx w4 hj (by decide) hk2 ?_
  refine g_iload (i := 1) cx w7 rfl rfl ?_
  refine o_ishr (k := kG (Gd p l e R s m args below meth c D kA ad A (some (.int ((mI σ h j >>> (x &&& 31)) &&& 1)), σ) u0 Q) _) cx kG_hk w8 (kG_of ?_)
  refine o_iconst (k := kG (Gd p l e R s m args below meth c D kA ad A (some (.int ((mI σ h j >>> (x &&& 31)) &&& 1)), σ) u0 Q) _) cx kG_hk w9 (kG_of ?_)
  refine o_iand (k := kG (Gd p l e R s m args below meth c D kA ad A (some (.int ((mI σ h j >>> (x &&& 31)) &&& 1)), σ) u0 Q) _) cx kG_hk w10 (kG_of ?_)
  exact g_ret hq w11
/-- a lamp's age -/
theorem x_age {a h g : Nat} {x y v : Int32} (cx : Cx p l e R s m args below meth c 300) (hk8 : isK σ a 8 = true) (hr : mR σ a 2 = some h) (hk2 : isK σ h 2 = true) (hg : mR σ h 7 = some g) (hv : rdI σ g x = some v)
    (hq : ∀ (H : Heap) (locs : List Loc) (la : Array Slot) (pc : Nat), Wo D kA ad A s H locs σ → RetAt 300 pc (some (.int v)) → W p l e R s m args below meth c H locs ((mU σ).1 - u0.1) ((mU σ).2.1 - u0.2) Q (F0 m pc la [.int v])) :
    Gd p l e R s m args below meth c D kA ad A (some (.int v), σ) u0 Q 72 [.ref a, .int x, .int y] [] σ := by
  refine g_aload (i := 0) cx wx_72 rfl rfl ?_
  refine g_getr cx wx_73 rfl (by decide) hk8 hr ?_
  refine g_getr cx wx_76 rfl (by decide) hk2 hg ?_
  refine g_iload (i := 1) cx wx_79 rfl rfl ?_
  refine o_iaload (k := kG (Gd p l e R s m args below meth c D kA ad A (some (.int v), σ) u0 Q) _) (call := fun _ _ _ => none) cx kG_hk wx_80 ?_
  show (match rdI σ g x with
    | some v => kG _ _ 81 [.ref a, .int x, .int y] [.int v] σ
    | none => none) = _
  rw [hv]
  exact kG_of (g_ret hq wx_81)
/-- the pulls tied to a lamp -/
theorem x_tied {a h : Nat} {x y v : Int32} {σ2 : Mm} (cx : Cx p l e R s m args below meth c 300) (hcl : ∀ j as σ w1, call j as σ = some w1 → CaOk l D kA ad j as σ w1) (hB : Bs s ad u0) (hR1 : (mU σ2).1 ≤ u0.1 + R.cells) (hR2 : (mU σ2).2.1 ≤ u0.2 + R.slots) (hk8 : isK σ a 8 = true) (hr : mR σ a 2 = some h) (hca : call mX2_pullsTiedTo [.ref h, .int x] σ = some (some (.int v), σ2))
    (hq : ∀ (H : Heap) (locs : List Loc) (la : Array Slot) (pc : Nat), Wo D kA ad A s H locs σ2 → RetAt 300 pc (some (.int v)) → W p l e R s m args below meth c H locs ((mU σ2).1 - u0.1) ((mU σ2).2.1 - u0.2) Q (F0 m pc la [.int v])) :
    Gd p l e R s m args below meth c D kA ad A (some (.int v), σ2) u0 Q 82 [.ref a, .int x, .int y] [] σ := by
  refine g_aload (i := 0) cx wx_82 rfl rfl ?_
  refine g_getr cx wx_83 rfl (by decide) hk8 hr ?_
  refine g_iload (i := 1) cx wx_86 rfl rfl ?_
  refine g_call cx hcl hB hR1 hR2 wx_87 rfl ⟨by decide, by decide⟩ rfl hca ?_
  exact g_ret hq wx_90
end LmX
