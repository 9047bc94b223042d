/-! ===== one instruction of the small machine is one of the great one ===== -/
def Cx (p : Program) (l : Launch) (e : Env) (R : Room) (s : State) (m : MethodId) (args : Array Value) (below : List Frame) (meth : Method) (c : Code) (M : Nat) : Prop :=
  p.tables.exec = Jvm.exec ∧ c.code = cM M ∧ c.maxLocals = xM M ∧ s.vm.findClass (Rn (oM M)) = some m.cls ∧ ((inM M = true → meth.name = "<init>") ∧ l.stackTraces = false) ∧ (∀ w ∈ lw_tbl, goodWord w = true → w.before args s = true) ∧ frM M ≤ R.frames ∧ loM M ≤ R.locals
def le2 (σ σ' : Mm) : Prop := (mU σ).1 ≤ (mU σ').1 ∧ (mU σ).2.1 ≤ (mU σ').2.1 ∧ mX σ' = mX σ
def Gd (p : Program) (l : Launch) (e : Env) (R : Room) (s : State) (m : MethodId) (args : Array Value) (below : List Frame) (meth : Method) (c : Code) (D : va_G) (kA : Nat → ClassId) (ad : Nat → Nat) (A : Nat → Prop) (w : Option Value × Mm) (u0 : Nat × Nat) (Q : State → Prop) (pc : Nat) (ls st : List Value) (σ : Mm) : Prop :=
  le2 σ w.2 ∧ ∀ H locs la, Wo D kA ad A s H locs σ → lR ad ls la → u0.1 ≤ (mU σ).1 → u0.2 ≤ (mU σ).2.1 → W p l e R s m args below meth c H locs ((mU σ).1 - u0.1) ((mU σ).2.1 - u0.2) Q (F0 m pc la (st.map (vmv ad)))
theorem s_i_spec {st : List Value} {f : Int32 → List Value → Rs} {w : Option Value × Mm} (h : s_i st f = some w) : ∃ x r, st = .int x :: r ∧ f x r = some w := by
  unfold s_i at h; split at h
  · exact ⟨_, _, rfl, h⟩
  · cases h
theorem s_ii_spec {st : List Value} {f : Int32 → Int32 → List Value → Rs} {w : Option Value × Mm} (h : s_ii st f = some w) : ∃ x y r, st = .int y :: .int x :: r ∧ f x y r = some w := by
  unfold s_ii at h; split at h
  · exact ⟨_, _, _, rfl, h⟩
  · cases h
theorem s_l_spec {st : List Value} {f : Int64 → List Value → Rs} {w : Option Value × Mm} (h : s_l st f = some w) : ∃ x r, st = .long x :: r ∧ f x r = some w := by
  unfold s_l at h; split at h
  · exact ⟨_, _, rfl, h⟩
  · cases h
theorem s_ll_spec {st : List Value} {f : Int64 → Int64 → List Value → Rs} {w : Option Value × Mm} (h : s_ll st f = some w) : ∃ x y r, st = .long y :: .long x :: r ∧ f x y r = some w := by
  unfold s_ll at h; split at h
  · exact ⟨_, _, _, rfl, h⟩
  · cases h
theorem s_r_spec {st : List Value} {f : Nat → List Value → Rs} {w : Option Value × Mm} (h : s_r st f = some w) : ∃ x r, st = .ref x :: r ∧ f x r = some w := by
  unfold s_r at h; split at h
  · exact ⟨_, _, rfl, h⟩
  · cases h
theorem s_ri_spec {st : List Value} {f : Nat → Int32 → List Value → Rs} {w : Option Value × Mm} (h : s_ri st f = some w) : ∃ a x r, st = .int x :: .ref a :: r ∧ f a x r = some w := by
  unfold s_ri at h; split at h
  · exact ⟨_, _, _, rfl, h⟩
  · cases h
theorem s_rii_spec {st : List Value} {f : Nat → Int32 → Int32 → List Value → Rs} {w : Option Value × Mm} (h : s_rii st f = some w) : ∃ a i x r, st = .int x :: .int i :: .ref a :: r ∧ f a i x r = some w := by
  unfold s_rii at h; split at h
  · exact ⟨_, _, _, _, rfl, h⟩
  · cases h
theorem s_ril_spec {st : List Value} {f : Nat → Int32 → Int64 → List Value → Rs} {w : Option Value × Mm} (h : s_ril st f = some w) : ∃ a i x r, st = .long x :: .int i :: .ref a :: r ∧ f a i x r = some w := by
  unfold s_ril at h; split at h
  · exact ⟨_, _, _, _, rfl, h⟩
  · cases h
theorem jmp_spec {pc : Nat} {off : Int} {f : Nat → Rs} {w : Option Value × Mm} (h : jmp pc off f = some w) : ∃ t : Nat, (pc : Int) + off = (t : Int) ∧ f t = some w := by
  unfold jmp at h; split at h
  next h0 => exact ⟨_, (Int.toNat_of_nonneg h0).symm, h⟩
  next => cases h
theorem if_spec {b : Prop} {_ : Decidable b} {x : Rs} {w : Option Value × Mm} (h : (if b then x else none) = some w) : b ∧ x = some w := by
  split at h
  next hb => exact ⟨hb, h⟩
  next => cases h
theorem toL {α : Type} {o : Option α} {a : α} {r : List α} (h : o.toList = a :: r) : o = some a := by
  cases o with
  | none => cases h
  | some b => cases h; rfl
theorem inb_in {x : Int32} {n : Nat} (h : inb x n = true) : vp_in x n := by
  simp only [inb, Bool.and_eq_true, Bool.not_eq_true', decide_eq_false_iff_not, decide_eq_true_eq] at h
  rintro (h1 | h1)
  · exact h.1 h1
  · omega
section Ops
variable {p : Program} {l : Launch} {e : Env} {R : Room} {s : State} {m : MethodId} {args : Array Value} {below : List Frame} {meth : Method} {c : Code} {D : va_G} {kA : Nat → ClassId} {ad : Nat → Nat} {A : Nat → Prop} {M : Nat} {w : Option Value × Mm} {u0 : Nat × Nat} {Q : State → Prop} {pc : Nat} {ls st : List Value} {σ : Mm} {k : Nat → List Value → List Value → Mm → Rs}
theorem o_iconst (cx : Cx p l e R s m args below meth c M) (hk : ∀ pc2 ls2 st2 σ2, k pc2 ls2 st2 σ2 = some w → Gd p l e R s m args below meth c D kA ad A w u0 Q pc2 ls2 st2 σ2) {n : Int} (hd : decode (cM M) pc = .ok (.iconst n, 1)) (h : k (pc + 1) ls (.int (Int32.ofInt n) :: st) σ = some w) : Gd p l e R s m args below meth c D kA ad A w u0 Q pc ls st σ := by
  obtain ⟨hm, hg⟩ := hk _ _ _ _ h
  exact ⟨hm, fun H locs la hw hl a b => lv_iconst cx.1 cx.2.1 hd rfl (hg H locs la hw hl a b)⟩
theorem o_bipush (cx : Cx p l e R s m args below meth c M) (hk : ∀ pc2 ls2 st2 σ2, k pc2 ls2 st2 σ2 = some w → Gd p l e R s m args below meth c D kA ad A w u0 Q pc2 ls2 st2 σ2) {n : Int} (hd : decode (cM M) pc = .ok (.bipush n, 2)) (h : k (pc + 2) ls (.int (Int8.ofInt n).toInt32 :: st) σ = some w) : Gd p l e R s m args below meth c D kA ad A w u0 Q pc ls st σ := by
  obtain ⟨hm, hg⟩ := hk _ _ _ _ h
  exact ⟨hm, fun H locs la hw hl a b => lv_bipush cx.1 cx.2.1 hd rfl (hg H locs la hw hl a b)⟩
theorem o_sipush (cx : Cx p l e R s m args below meth c M) (hk : ∀ pc2 ls2 st2 σ2, k pc2 ls2 st2 σ2 = some w → Gd p l e R s m args below meth c D kA ad A w u0 Q pc2 ls2 st2 σ2) {n : Int} (hd : decode (cM M) pc = .ok (.sipush n, 3)) (h : k (pc + 3) ls (.int (Int16.ofInt n).toInt32 :: st) σ = some w) : Gd p l e R s m args below meth c D kA ad A w u0 Q pc ls st σ := by
  obtain ⟨hm, hg⟩ := hk _ _ _ _ h
  exact ⟨hm, fun H locs la hw hl a b => lv_sipush cx.1 cx.2.1 hd rfl (hg H locs la hw hl a b)⟩
theorem o_lconst (cx : Cx p l e R s m args below meth c M) (hk : ∀ pc2 ls2 st2 σ2, k pc2 ls2 st2 σ2 = some w → Gd p l e R s m args below meth c D kA ad A w u0 Q pc2 ls2 st2 σ2) {n : Fin 2} (hd : decode (cM M) pc = .ok (.lconst n, 1)) (h : k (pc + 1) ls (.long (Int64.ofNat n.val) :: st) σ = some w) : Gd p l e R s m args below meth c D kA ad A w u0 Q pc ls st σ := by
  obtain ⟨hm, hg⟩ := hk _ _ _ _ h
  exact ⟨hm, fun H locs la hw hl a b => lv_lconst cx.1 cx.2.1 hd rfl (hg H locs la hw hl a b)⟩
theorem o_iload_n (cx : Cx p l e R s m args below meth c M) (hk : ∀ pc2 ls2 st2 σ2, k pc2 ls2 st2 σ2 = some w → Gd p l e R s m args below meth c D kA ad A w u0 Q pc2 ls2 st2 σ2) {n : Fin 4} (hd : decode (cM M) pc = .ok (.iload_n n, 1)) (h : s_i ((loc ls n.val).toList) (fun x _ => k (pc + 1) ls (.int x :: st) σ) = some w) : Gd p l e R s m args below meth c D kA ad A w u0 Q pc ls st σ := by
  obtain ⟨x, r, he, h⟩ := s_i_spec h
  obtain ⟨hm, hg⟩ := hk _ _ _ _ h
  exact ⟨hm, fun H locs la hw hl a b => lv_iload_n cx.1 cx.2.1 hd rfl (hl.2.2 _ _ (toL he)) (hg H locs la hw hl a b)⟩
theorem o_iload (cx : Cx p l e R s m args below meth c M) (hk : ∀ pc2 ls2 st2 σ2, k pc2 ls2 st2 σ2 = some w → Gd p l e R s m args below meth c D kA ad A w u0 Q pc2 ls2 st2 σ2) {n : Nat} (hd : decode (cM M) pc = .ok (.iload n, 2)) (h : s_i ((loc ls n).toList) (fun x _ => k (pc + 2) ls (.int x :: st) σ) = some w) : Gd p l e R s m args below meth c D kA ad A w u0 Q pc ls st σ := by
  obtain ⟨x, r, he, h⟩ := s_i_spec h
  obtain ⟨hm, hg⟩ := hk _ _ _ _ h
  exact ⟨hm, fun H locs la hw hl a b => lv_iload cx.1 cx.2.1 hd (hl.2.2 _ _ (toL he)) (hg H locs la hw hl a b)⟩
theorem o_lload_n (cx : Cx p l e R s m args below meth c M) (hk : ∀ pc2 ls2 st2 σ2, k pc2 ls2 st2 σ2 = some w → Gd p l e R s m args below meth c D kA ad A w u0 Q pc2 ls2 st2 σ2) {n : Fin 4} (hd : decode (cM M) pc = .ok (.lload_n n, 1)) (h : s_l ((loc ls n.val).toList) (fun x _ => k (pc + 1) ls (.long x :: st) σ) = some w) : Gd p l e R s m args below meth c D kA ad A w u0 Q pc ls st σ := by
  obtain ⟨x, r, he, h⟩ := s_l_spec h
  obtain ⟨hm, hg⟩ := hk _ _ _ _ h
  exact ⟨hm, fun H locs la hw hl a b => lv_lload_n cx.1 cx.2.1 hd rfl (hl.2.2 _ _ (toL he)) (hg H locs la hw hl a b)⟩
theorem o_lload (cx : Cx p l e R s m args below meth c M) (hk : ∀ pc2 ls2 st2 σ2, k pc2 ls2 st2 σ2 = some w → Gd p l e R s m args below meth c D kA ad A w u0 Q pc2 ls2 st2 σ2) {n : Nat} (hd : decode (cM M) pc = .ok (.lload n, 2)) (h : s_l ((loc ls n).toList) (fun x _ => k (pc + 2) ls (.long x :: st) σ) = some w) : Gd p l e R s m args below meth c D kA ad A w u0 Q pc ls st σ := by
  obtain ⟨x, r, he, h⟩ := s_l_spec h
  obtain ⟨hm, hg⟩ := hk _ _ _ _ h
  exact ⟨hm, fun H locs la hw hl a b => lv_lload cx.1 cx.2.1 hd (hl.2.2 _ _ (toL he)) (hg H locs la hw hl a b)⟩
theorem o_aload_n (cx : Cx p l e R s m args below meth c M) (hk : ∀ pc2 ls2 st2 σ2, k pc2 ls2 st2 σ2 = some w → Gd p l e R s m args below meth c D kA ad A w u0 Q pc2 ls2 st2 σ2) {n : Fin 4} (hd : decode (cM M) pc = .ok (.aload_n n, 1)) (h : s_r ((loc ls n.val).toList) (fun x _ => k (pc + 1) ls (.ref x :: st) σ) = some w) : Gd p l e R s m args below meth c D kA ad A w u0 Q pc ls st σ := by
  obtain ⟨x, r, he, h⟩ := s_r_spec h
  obtain ⟨hm, hg⟩ := hk _ _ _ _ h
  exact ⟨hm, fun H locs la hw hl a b => lv_aload_n cx.1 cx.2.1 hd rfl (hl.2.2 _ _ (toL he)) (hg H locs la hw hl a b)⟩
theorem o_aload (cx : Cx p l e R s m args below meth c M) (hk : ∀ pc2 ls2 st2 σ2, k pc2 ls2 st2 σ2 = some w → Gd p l e R s m args below meth c D kA ad A w u0 Q pc2 ls2 st2 σ2) {n : Nat} (hd : decode (cM M) pc = .ok (.aload n, 2)) (h : s_r ((loc ls n).toList) (fun x _ => k (pc + 2) ls (.ref x :: st) σ) = some w) : Gd p l e R s m args below meth c D kA ad A w u0 Q pc ls st σ := by
  obtain ⟨x, r, he, h⟩ := s_r_spec h
  obtain ⟨hm, hg⟩ := hk _ _ _ _ h
  exact ⟨hm, fun H locs la hw hl a b => lv_aload cx.1 cx.2.1 hd (hl.2.2 _ _ (toL he)) (hg H locs la hw hl a b)⟩
theorem o_istore_n (cx : Cx p l e R s m args below meth c M) (hk : ∀ pc2 ls2 st2 σ2, k pc2 ls2 st2 σ2 = some w → Gd p l e R s m args below meth c D kA ad A w u0 Q pc2 ls2 st2 σ2) {n : Fin 4} (hd : decode (cM M) pc = .ok (.istore_n n, 1)) (h : s_i st (fun x r => if n.val < ls.length then k (pc + 1) (ls.set n.val (.int x)) r σ else none) = some w) : Gd p l e R s m args below meth c D kA ad A w u0 Q pc ls st σ := by
  obtain ⟨x, r, rfl, h⟩ := s_i_spec h
  obtain ⟨hn, h⟩ := if_spec h
  obtain ⟨hm, hg⟩ := hk _ _ _ _ h
  exact ⟨hm, fun H locs la hw hl a b => lv_istore_n cx.1 cx.2.1 hd rfl hl.has hn rfl (fun la2 hl2 => hg H locs la2 hw (lR.set1 (x := .int x) rfl (fun f z => by cases z) hl2 hn) a b)⟩
theorem o_istore (cx : Cx p l e R s m args below meth c M) (hk : ∀ pc2 ls2 st2 σ2, k pc2 ls2 st2 σ2 = some w → Gd p l e R s m args below meth c D kA ad A w u0 Q pc2 ls2 st2 σ2) {n : Nat} (hd : decode (cM M) pc = .ok (.istore n, 2)) (h : s_i st (fun x r => if n < ls.length then k (pc + 2) (ls.set n (.int x)) r σ else none) = some w) : Gd p l e R s m args below meth c D kA ad A w u0 Q pc ls st σ := by
  obtain ⟨x, r, rfl, h⟩ := s_i_spec h
  obtain ⟨hn, h⟩ := if_spec h
  obtain ⟨hm, hg⟩ := hk _ _ _ _ h
  exact ⟨hm, fun H locs la hw hl a b => lv_istore cx.1 cx.2.1 hd hl.has hn rfl (fun la2 hl2 => hg H locs la2 hw (lR.set1 (x := .int x) rfl (fun f z => by cases z) hl2 hn) a b)⟩
theorem o_astore_n (cx : Cx p l e R s m args below meth c M) (hk : ∀ pc2 ls2 st2 σ2, k pc2 ls2 st2 σ2 = some w → Gd p l e R s m args below meth c D kA ad A w u0 Q pc2 ls2 st2 σ2) {n : Fin 4} (hd : decode (cM M) pc = .ok (.astore_n n, 1)) (h : s_r st (fun x r => if n.val < ls.length then k (pc + 1) (ls.set n.val (.ref x)) r σ else none) = some w) : Gd p l e R s m args below meth c D kA ad A w u0 Q pc ls st σ := by
  obtain ⟨x, r, rfl, h⟩ := s_r_spec h
  obtain ⟨hn, h⟩ := if_spec h
  obtain ⟨hm, hg⟩ := hk _ _ _ _ h
  exact ⟨hm, fun H locs la hw hl a b => lv_astore_n cx.1 cx.2.1 hd rfl hl.has hn rfl (fun la2 hl2 => hg H locs la2 hw (lR.set1 (x := .ref x) rfl (fun f z => by cases z) hl2 hn) a b)⟩
theorem o_astore (cx : Cx p l e R s m args below meth c M) (hk : ∀ pc2 ls2 st2 σ2, k pc2 ls2 st2 σ2 = some w → Gd p l e R s m args below meth c D kA ad A w u0 Q pc2 ls2 st2 σ2) {n : Nat} (hd : decode (cM M) pc = .ok (.astore n, 2)) (h : s_r st (fun x r => if n < ls.length then k (pc + 2) (ls.set n (.ref x)) r σ else none) = some w) : Gd p l e R s m args below meth c D kA ad A w u0 Q pc ls st σ := by
  obtain ⟨x, r, rfl, h⟩ := s_r_spec h
  obtain ⟨hn, h⟩ := if_spec h
  obtain ⟨hm, hg⟩ := hk _ _ _ _ h
  exact ⟨hm, fun H locs la hw hl a b => lv_astore cx.1 cx.2.1 hd hl.has hn rfl (fun la2 hl2 => hg H locs la2 hw (lR.set1 (x := .ref x) rfl (fun f z => by cases z) hl2 hn) a b)⟩
theorem o_lstore_n (cx : Cx p l e R s m args below meth c M) (hk : ∀ pc2 ls2 st2 σ2, k pc2 ls2 st2 σ2 = some w → Gd p l e R s m args below meth c D kA ad A w u0 Q pc2 ls2 st2 σ2) {n : Fin 4} (hd : decode (cM M) pc = .ok (.lstore_n n, 1)) (h : s_l st (fun x r => if n.val + 1 < ls.length then k (pc + 1) ((ls.set n.val (.long x)).set (n.val + 1) (.float 0)) r σ else none) = some w) : Gd p l e R s m args below meth c D kA ad A w u0 Q pc ls st σ := by
  obtain ⟨x, r, rfl, h⟩ := s_l_spec h
  obtain ⟨hn, h⟩ := if_spec h
  obtain ⟨hm, hg⟩ := hk _ _ _ _ h
  exact ⟨hm, fun H locs la hw hl a b => lv_lstore_n cx.1 cx.2.1 hd rfl hl.has hn rfl (fun la2 hl2 => hg H locs la2 hw (lR.set2 hl2 hn) a b)⟩
theorem o_lstore (cx : Cx p l e R s m args below meth c M) (hk : ∀ pc2 ls2 st2 σ2, k pc2 ls2 st2 σ2 = some w → Gd p l e R s m args below meth c D kA ad A w u0 Q pc2 ls2 st2 σ2) {n : Nat} (hd : decode (cM M) pc = .ok (.lstore n, 2)) (h : s_l st (fun x r => if n + 1 < ls.length then k (pc + 2) ((ls.set n (.long x)).set (n + 1) (.float 0)) r σ else none) = some w) : Gd p l e R s m args below meth c D kA ad A w u0 Q pc ls st σ := by
  obtain ⟨x, r, rfl, h⟩ := s_l_spec h
  obtain ⟨hn, h⟩ := if_spec h
  obtain ⟨hm, hg⟩ := hk _ _ _ _ h
  exact ⟨hm, fun H locs la hw hl a b => lv_lstore cx.1 cx.2.1 hd hl.has hn rfl (fun la2 hl2 => hg H locs la2 hw (lR.set2 hl2 hn) a b)⟩
theorem o_iinc (cx : Cx p l e R s m args below meth c M) (hk : ∀ pc2 ls2 st2 σ2, k pc2 ls2 st2 σ2 = some w → Gd p l e R s m args below meth c D kA ad A w u0 Q pc2 ls2 st2 σ2) {n : Nat} {d : Int} (hd : decode (cM M) pc = .ok (.iinc n d, 3)) (h : s_i ((loc ls n).toList) (fun x _ => if n < ls.length then k (pc + 3) (ls.set n (.int (x + Int32.ofInt d))) st σ else none) = some w) : Gd p l e R s m args below meth c D kA ad A w u0 Q pc ls st σ := by
  obtain ⟨x, r, he, h⟩ := s_i_spec h
  obtain ⟨hn, h⟩ := if_spec h
  obtain ⟨hm, hg⟩ := hk _ _ _ _ h
  obtain ⟨i, hi⟩ := List.getElem?_of_mem (lvL_mem (ad := ad) (toL he))
  exact ⟨hm, fun H locs la hw hl a b => lv_iinc cx.1 cx.2.1 hd hl.has (k := i) hi rfl hn rfl (fun la2 hl2 => hg H locs la2 hw (lR.set1 (x := .int (x + Int32.ofInt d)) rfl (fun f z => by cases z) hl2 hn) a b)⟩
theorem o_iadd (cx : Cx p l e R s m args below meth c M) (hk : ∀ pc2 ls2 st2 σ2, k pc2 ls2 st2 σ2 = some w → Gd p l e R s m args below meth c D kA ad A w u0 Q pc2 ls2 st2 σ2) (hd : decode (cM M) pc = .ok (.iadd, 1)) (h : s_ii st (fun x y r => k (pc + 1) ls (.int (x + y) :: r) σ) = some w) : Gd p l e R s m args below meth c D kA ad A w u0 Q pc ls st σ := by
  obtain ⟨x, y, r, rfl, h⟩ := s_ii_spec h
  obtain ⟨hm, hg⟩ := hk _ _ _ _ h
  exact ⟨hm, fun H locs la hw hl a b => lv_iadd cx.1 cx.2.1 hd (hg H locs la hw hl a b)⟩
theorem o_isub (cx : Cx p l e R s m args below meth c M) (hk : ∀ pc2 ls2 st2 σ2, k pc2 ls2 st2 σ2 = some w → Gd p l e R s m args below meth c D kA ad A w u0 Q pc2 ls2 st2 σ2) (hd : decode (cM M) pc = .ok (.isub, 1)) (h : s_ii st (fun x y r => k (pc + 1) ls (.int (x - y) :: r) σ) = some w) : Gd p l e R s m args below meth c D kA ad A w u0 Q pc ls st σ := by
  obtain ⟨x, y, r, rfl, h⟩ := s_ii_spec h
  obtain ⟨hm, hg⟩ := hk _ _ _ _ h
  exact ⟨hm, fun H locs la hw hl a b => lv_isub cx.1 cx.2.1 hd (hg H locs la hw hl a b)⟩
theorem o_imul (cx : Cx p l e R s m args below meth c M) (hk : ∀ pc2 ls2 st2 σ2, k pc2 ls2 st2 σ2 = some w → Gd p l e R s m args below meth c D kA ad A w u0 Q pc2 ls2 st2 σ2) (hd : decode (cM M) pc = .ok (.imul, 1)) (h : s_ii st (fun x y r => k (pc + 1) ls (.int (x * y) :: r) σ) = some w) : Gd p l e R s m args below meth c D kA ad A w u0 Q pc ls st σ := by
  obtain ⟨x, y, r, rfl, h⟩ := s_ii_spec h
  obtain ⟨hm, hg⟩ := hk _ _ _ _ h
  exact ⟨hm, fun H locs la hw hl a b => lv_imul cx.1 cx.2.1 hd (hg H locs la hw hl a b)⟩
theorem o_iand (cx : Cx p l e R s m args below meth c M) (hk : ∀ pc2 ls2 st2 σ2, k pc2 ls2 st2 σ2 = some w → Gd p l e R s m args below meth c D kA ad A w u0 Q pc2 ls2 st2 σ2) (hd : decode (cM M) pc = .ok (.iand, 1)) (h : s_ii st (fun x y r => k (pc + 1) ls (.int (x &&& y) :: r) σ) = some w) : Gd p l e R s m args below meth c D kA ad A w u0 Q pc ls st σ := by
  obtain ⟨x, y, r, rfl, h⟩ := s_ii_spec h
  obtain ⟨hm, hg⟩ := hk _ _ _ _ h
  exact ⟨hm, fun H locs la hw hl a b => lv_iand cx.1 cx.2.1 hd (hg H locs la hw hl a b)⟩
theorem o_ior (cx : Cx p l e R s m args below meth c M) (hk : ∀ pc2 ls2 st2 σ2, k pc2 ls2 st2 σ2 = some w → Gd p l e R s m args below meth c D kA ad A w u0 Q pc2 ls2 st2 σ2) (hd : decode (cM M) pc = .ok (.ior, 1)) (h : s_ii st (fun x y r => k (pc + 1) ls (.int (x ||| y) :: r) σ) = some w) : Gd p l e R s m args below meth c D kA ad A w u0 Q pc ls st σ := by
  obtain ⟨x, y, r, rfl, h⟩ := s_ii_spec h
  obtain ⟨hm, hg⟩ := hk _ _ _ _ h
  exact ⟨hm, fun H locs la hw hl a b => lv_ior cx.1 cx.2.1 hd (hg H locs la hw hl a b)⟩
theorem o_ixor (cx : Cx p l e R s m args below meth c M) (hk : ∀ pc2 ls2 st2 σ2, k pc2 ls2 st2 σ2 = some w → Gd p l e R s m args below meth c D kA ad A w u0 Q pc2 ls2 st2 σ2) (hd : decode (cM M) pc = .ok (.ixor, 1)) (h : s_ii st (fun x y r => k (pc + 1) ls (.int (x ^^^ y) :: r) σ) = some w) : Gd p l e R s m args below meth c D kA ad A w u0 Q pc ls st σ := by
  obtain ⟨x, y, r, rfl, h⟩ := s_ii_spec h
  obtain ⟨hm, hg⟩ := hk _ _ _ _ h
  exact ⟨hm, fun H locs la hw hl a b => lv_ixor cx.1 cx.2.1 hd (hg H locs la hw hl a b)⟩
theorem o_ishl (cx : Cx p l e R s m args below meth c M) (hk : ∀ pc2 ls2 st2 σ2, k pc2 ls2 st2 σ2 = some w → Gd p l e R s m args below meth c D kA ad A w u0 Q pc2 ls2 st2 σ2) (hd : decode (cM M) pc = .ok (.ishl, 1)) (h : s_ii st (fun x y r => k (pc + 1) ls (.int (x <<< (y &&& 31)) :: r) σ) = some w) : Gd p l e R s m args below meth c D kA ad A w u0 Q pc ls st σ := by
  obtain ⟨x, y, r, rfl, h⟩ := s_ii_spec h
  obtain ⟨hm, hg⟩ := hk _ _ _ _ h
  exact ⟨hm, fun H locs la hw hl a b => lv_ishl cx.1 cx.2.1 hd (hg H locs la hw hl a b)⟩
theorem o_ishr (cx : Cx p l e R s m args below meth c M) (hk : ∀ pc2 ls2 st2 σ2, k pc2 ls2 st2 σ2 = some w → Gd p l e R s m args below meth c D kA ad A w u0 Q pc2 ls2 st2 σ2) (hd : decode (cM M) pc = .ok (.ishr, 1)) (h : s_ii st (fun x y r => k (pc + 1) ls (.int (x >>> (y &&& 31)) :: r) σ) = some w) : Gd p l e R s m args below meth c D kA ad A w u0 Q pc ls st σ := by
  obtain ⟨x, y, r, rfl, h⟩ := s_ii_spec h
  obtain ⟨hm, hg⟩ := hk _ _ _ _ h
  exact ⟨hm, fun H locs la hw hl a b => lv_ishr cx.1 cx.2.1 hd (hg H locs la hw hl a b)⟩
theorem o_iushr (cx : Cx p l e R s m args below meth c M) (hk : ∀ pc2 ls2 st2 σ2, k pc2 ls2 st2 σ2 = some w → Gd p l e R s m args below meth c D kA ad A w u0 Q pc2 ls2 st2 σ2) (hd : decode (cM M) pc = .ok (.iushr, 1)) (h : s_ii st (fun x y r => k (pc + 1) ls (.int (x.toUInt32 >>> (y.toUInt32 &&& Int32.toUInt32 31)).toInt32 :: r) σ) = some w) : Gd p l e R s m args below meth c D kA ad A w u0 Q pc ls st σ := by
  obtain ⟨x, y, r, rfl, h⟩ := s_ii_spec h
  obtain ⟨hm, hg⟩ := hk _ _ _ _ h
  exact ⟨hm, fun H locs la hw hl a b => lv_iushr cx.1 cx.2.1 hd rfl (hg H locs la hw hl a b)⟩
theorem o_ladd (cx : Cx p l e R s m args below meth c M) (hk : ∀ pc2 ls2 st2 σ2, k pc2 ls2 st2 σ2 = some w → Gd p l e R s m args below meth c D kA ad A w u0 Q pc2 ls2 st2 σ2) (hd : decode (cM M) pc = .ok (.ladd, 1)) (h : s_ll st (fun x y r => k (pc + 1) ls (.long (x + y) :: r) σ) = some w) : Gd p l e R s m args below meth c D kA ad A w u0 Q pc ls st σ := by
  obtain ⟨x, y, r, rfl, h⟩ := s_ll_spec h
  obtain ⟨hm, hg⟩ := hk _ _ _ _ h
  exact ⟨hm, fun H locs la hw hl a b => lv_ladd cx.1 cx.2.1 hd (hg H locs la hw hl a b)⟩
theorem o_lsub (cx : Cx p l e R s m args below meth c M) (hk : ∀ pc2 ls2 st2 σ2, k pc2 ls2 st2 σ2 = some w → Gd p l e R s m args below meth c D kA ad A w u0 Q pc2 ls2 st2 σ2) (hd : decode (cM M) pc = .ok (.lsub, 1)) (h : s_ll st (fun x y r => k (pc + 1) ls (.long (x - y) :: r) σ) = some w) : Gd p l e R s m args below meth c D kA ad A w u0 Q pc ls st σ := by
  obtain ⟨x, y, r, rfl, h⟩ := s_ll_spec h
  obtain ⟨hm, hg⟩ := hk _ _ _ _ h
  exact ⟨hm, fun H locs la hw hl a b => lv_lsub cx.1 cx.2.1 hd (hg H locs la hw hl a b)⟩
theorem o_lmul (cx : Cx p l e R s m args below meth c M) (hk : ∀ pc2 ls2 st2 σ2, k pc2 ls2 st2 σ2 = some w → Gd p l e R s m args below meth c D kA ad A w u0 Q pc2 ls2 st2 σ2) (hd : decode (cM M) pc = .ok (.lmul, 1)) (h : s_ll st (fun x y r => k (pc + 1) ls (.long (x * y) :: r) σ) = some w) : Gd p l e R s m args below meth c D kA ad A w u0 Q pc ls st σ := by
  obtain ⟨x, y, r, rfl, h⟩ := s_ll_spec h
  obtain ⟨hm, hg⟩ := hk _ _ _ _ h
  exact ⟨hm, fun H locs la hw hl a b => lv_lmul cx.1 cx.2.1 hd (hg H locs la hw hl a b)⟩
theorem o_land (cx : Cx p l e R s m args below meth c M) (hk : ∀ pc2 ls2 st2 σ2, k pc2 ls2 st2 σ2 = some w → Gd p l e R s m args below meth c D kA ad A w u0 Q pc2 ls2 st2 σ2) (hd : decode (cM M) pc = .ok (.land, 1)) (h : s_ll st (fun x y r => k (pc + 1) ls (.long (x &&& y) :: r) σ) = some w) : Gd p l e R s m args below meth c D kA ad A w u0 Q pc ls st σ := by
  obtain ⟨x, y, r, rfl, h⟩ := s_ll_spec h
  obtain ⟨hm, hg⟩ := hk _ _ _ _ h
  exact ⟨hm, fun H locs la hw hl a b => lv_land cx.1 cx.2.1 hd (hg H locs la hw hl a b)⟩
theorem o_lcmp (cx : Cx p l e R s m args below meth c M) (hk : ∀ pc2 ls2 st2 σ2, k pc2 ls2 st2 σ2 = some w → Gd p l e R s m args below meth c D kA ad A w u0 Q pc2 ls2 st2 σ2) (hd : decode (cM M) pc = .ok (.lcmp, 1)) (h : s_ll st (fun x y r => k (pc + 1) ls (.int (lg_cmp x y) :: r) σ) = some w) : Gd p l e R s m args below meth c D kA ad A w u0 Q pc ls st σ := by
  obtain ⟨x, y, r, rfl, h⟩ := s_ll_spec h
  obtain ⟨hm, hg⟩ := hk _ _ _ _ h
  exact ⟨hm, fun H locs la hw hl a b => W.lcmp cx.1 cx.2.1 hd (hg H locs la hw hl a b)⟩
theorem o_idiv (cx : Cx p l e R s m args below meth c M) (hk : ∀ pc2 ls2 st2 σ2, k pc2 ls2 st2 σ2 = some w → Gd p l e R s m args below meth c D kA ad A w u0 Q pc2 ls2 st2 σ2) (hd : decode (cM M) pc = .ok (.idiv, 1)) (h : s_ii st (fun x y r => if y = 0 then none else k (pc + 1) ls (.int (x / y) :: r) σ) = some w) : Gd p l e R s m args below meth c D kA ad A w u0 Q pc ls st σ := by
  obtain ⟨x, y, r, rfl, h3⟩ := s_ii_spec h
  split at h3
  · cases h3
  next hy =>
    obtain ⟨hm, hg⟩ := hk _ _ _ _ h3
    exact ⟨hm, fun H locs la hw hl a b => lv_idiv cx.1 cx.2.1 hd hy (hg H locs la hw hl a b)⟩
theorem o_irem (cx : Cx p l e R s m args below meth c M) (hk : ∀ pc2 ls2 st2 σ2, k pc2 ls2 st2 σ2 = some w → Gd p l e R s m args below meth c D kA ad A w u0 Q pc2 ls2 st2 σ2) (hd : decode (cM M) pc = .ok (.irem, 1)) (h : s_ii st (fun x y r => if y = 0 then none else k (pc + 1) ls (.int (x - x / y * y) :: r) σ) = some w) : Gd p l e R s m args below meth c D kA ad A w u0 Q pc ls st σ := by
  obtain ⟨x, y, r, rfl, h3⟩ := s_ii_spec h
  split at h3
  · cases h3
  next hy =>
    obtain ⟨hm, hg⟩ := hk _ _ _ _ h3
    exact ⟨hm, fun H locs la hw hl a b => lv_irem cx.1 cx.2.1 hd hy (hg H locs la hw hl a b)⟩
theorem o_ldiv (cx : Cx p l e R s m args below meth c M) (hk : ∀ pc2 ls2 st2 σ2, k pc2 ls2 st2 σ2 = some w → Gd p l e R s m args below meth c D kA ad A w u0 Q pc2 ls2 st2 σ2) (hd : decode (cM M) pc = .ok (.ldiv, 1)) (h : s_ll st (fun x y r => if y = 0 then none else k (pc + 1) ls (.long (x / y) :: r) σ) = some w) : Gd p l e R s m args below meth c D kA ad A w u0 Q pc ls st σ := by
  obtain ⟨x, y, r, rfl, h3⟩ := s_ll_spec h
  split at h3
  · cases h3
  next hy =>
    obtain ⟨hm, hg⟩ := hk _ _ _ _ h3
    exact ⟨hm, fun H locs la hw hl a b => lv_ldiv cx.1 cx.2.1 hd hy (hg H locs la hw hl a b)⟩
theorem o_lrem (cx : Cx p l e R s m args below meth c M) (hk : ∀ pc2 ls2 st2 σ2, k pc2 ls2 st2 σ2 = some w → Gd p l e R s m args below meth c D kA ad A w u0 Q pc2 ls2 st2 σ2) (hd : decode (cM M) pc = .ok (.lrem, 1)) (h : s_ll st (fun x y r => if y = 0 then none else k (pc + 1) ls (.long (x - x / y * y) :: r) σ) = some w) : Gd p l e R s m args below meth c D kA ad A w u0 Q pc ls st σ := by
  obtain ⟨x, y, r, rfl, h3⟩ := s_ll_spec h
  split at h3
  · cases h3
  next hy =>
    obtain ⟨hm, hg⟩ := hk _ _ _ _ h3
    exact ⟨hm, fun H locs la hw hl a b => lv_lrem cx.1 cx.2.1 hd hy (hg H locs la hw hl a b)⟩
theorem o_ineg (cx : Cx p l e R s m args below meth c M) (hk : ∀ pc2 ls2 st2 σ2, k pc2 ls2 st2 σ2 = some w → Gd p l e R s m args below meth c D kA ad A w u0 Q pc2 ls2 st2 σ2) (hd : decode (cM M) pc = .ok (.ineg, 1)) (h : s_i st (fun x r => k (pc + 1) ls (.int (-x) :: r) σ) = some w) : Gd p l e R s m args below meth c D kA ad A w u0 Q pc ls st σ := by
  obtain ⟨x, r, rfl, h⟩ := s_i_spec h
  obtain ⟨hm, hg⟩ := hk _ _ _ _ h
  exact ⟨hm, fun H locs la hw hl a b => lv_ineg cx.1 cx.2.1 hd (hg H locs la hw hl a b)⟩
theorem o_i2b (cx : Cx p l e R s m args below meth c M) (hk : ∀ pc2 ls2 st2 σ2, k pc2 ls2 st2 σ2 = some w → Gd p l e R s m args below meth c D kA ad A w u0 Q pc2 ls2 st2 σ2) (hd : decode (cM M) pc = .ok (.i2b, 1)) (h : s_i st (fun x r => k (pc + 1) ls (.int x.toInt8.toInt32 :: r) σ) = some w) : Gd p l e R s m args below meth c D kA ad A w u0 Q pc ls st σ := by
  obtain ⟨x, r, rfl, h⟩ := s_i_spec h
  obtain ⟨hm, hg⟩ := hk _ _ _ _ h
  exact ⟨hm, fun H locs la hw hl a b => lv_i2b cx.1 cx.2.1 hd rfl (hg H locs la hw hl a b)⟩
theorem o_i2c (cx : Cx p l e R s m args below meth c M) (hk : ∀ pc2 ls2 st2 σ2, k pc2 ls2 st2 σ2 = some w → Gd p l e R s m args below meth c D kA ad A w u0 Q pc2 ls2 st2 σ2) (hd : decode (cM M) pc = .ok (.i2c, 1)) (h : s_i st (fun x r => k (pc + 1) ls (.int (x.toUInt32 % 65536).toInt32 :: r) σ) = some w) : Gd p l e R s m args below meth c D kA ad A w u0 Q pc ls st σ := by
  obtain ⟨x, r, rfl, h⟩ := s_i_spec h
  obtain ⟨hm, hg⟩ := hk _ _ _ _ h
  exact ⟨hm, fun H locs la hw hl a b => lv_i2c cx.1 cx.2.1 hd rfl (hg H locs la hw hl a b)⟩
theorem o_i2l (cx : Cx p l e R s m args below meth c M) (hk : ∀ pc2 ls2 st2 σ2, k pc2 ls2 st2 σ2 = some w → Gd p l e R s m args below meth c D kA ad A w u0 Q pc2 ls2 st2 σ2) (hd : decode (cM M) pc = .ok (.i2l, 1)) (h : s_i st (fun x r => k (pc + 1) ls (.long x.toInt64 :: r) σ) = some w) : Gd p l e R s m args below meth c D kA ad A w u0 Q pc ls st σ := by
  obtain ⟨x, r, rfl, h⟩ := s_i_spec h
  obtain ⟨hm, hg⟩ := hk _ _ _ _ h
  exact ⟨hm, fun H locs la hw hl a b => lv_i2l cx.1 cx.2.1 hd rfl (hg H locs la hw hl a b)⟩
theorem o_l2i (cx : Cx p l e R s m args below meth c M) (hk : ∀ pc2 ls2 st2 σ2, k pc2 ls2 st2 σ2 = some w → Gd p l e R s m args below meth c D kA ad A w u0 Q pc2 ls2 st2 σ2) (hd : decode (cM M) pc = .ok (.l2i, 1)) (h : s_l st (fun x r => k (pc + 1) ls (.int x.toInt32 :: r) σ) = some w) : Gd p l e R s m args below meth c D kA ad A w u0 Q pc ls st σ := by
  obtain ⟨x, r, rfl, h⟩ := s_l_spec h
  obtain ⟨hm, hg⟩ := hk _ _ _ _ h
  exact ⟨hm, fun H locs la hw hl a b => lv_l2i cx.1 cx.2.1 hd rfl (hg H locs la hw hl a b)⟩
theorem o_lneg (cx : Cx p l e R s m args below meth c M) (hk : ∀ pc2 ls2 st2 σ2, k pc2 ls2 st2 σ2 = some w → Gd p l e R s m args below meth c D kA ad A w u0 Q pc2 ls2 st2 σ2) (hd : decode (cM M) pc = .ok (.lneg, 1)) (h : s_l st (fun x r => k (pc + 1) ls (.long (-x) :: r) σ) = some w) : Gd p l e R s m args below meth c D kA ad A w u0 Q pc ls st σ := by
  obtain ⟨x, r, rfl, h⟩ := s_l_spec h
  obtain ⟨hm, hg⟩ := hk _ _ _ _ h
  exact ⟨hm, fun H locs la hw hl a b => lv_lneg cx.1 cx.2.1 hd (hg H locs la hw hl a b)⟩
theorem cat1_c {v : Value} (h : cat1 v = true) : (vmv ad v).category = 1 := by cases v <;> first | rfl | cases h
theorem m_spec {st : List Value} {f : Value → List Value → Rs} {w : Option Value × Mm} (h : (match st with | v :: r => f v r | _ => none) = some w) : ∃ v r, st = v :: r ∧ f v r = some w := by
  split at h
  · exact ⟨_, _, rfl, h⟩
  · cases h
theorem o_dup (cx : Cx p l e R s m args below meth c M) (hk : ∀ pc2 ls2 st2 σ2, k pc2 ls2 st2 σ2 = some w → Gd p l e R s m args below meth c D kA ad A w u0 Q pc2 ls2 st2 σ2) {call : Nat → List Value → Mm → Rs} (hd : decode (cM M) pc = .ok (.dup, 1)) (h : p_dup M pc ls st σ k call = some w) : Gd p l e R s m args below meth c D kA ad A w u0 Q pc ls st σ := by
  cases st with
  | nil => cases h
  | cons v r =>
    obtain ⟨hc, h3⟩ := if_spec h
    obtain ⟨hm, hg⟩ := hk _ _ _ _ h3
    exact ⟨hm, fun H locs la hw hl a b => lv_dup cx.1 cx.2.1 hd (cat1_c hc) (hg H locs la hw hl a b)⟩
theorem o_pop (cx : Cx p l e R s m args below meth c M) (hk : ∀ pc2 ls2 st2 σ2, k pc2 ls2 st2 σ2 = some w → Gd p l e R s m args below meth c D kA ad A w u0 Q pc2 ls2 st2 σ2) {call : Nat → List Value → Mm → Rs} (hd : decode (cM M) pc = .ok (.pop, 1)) (h : p_pop M pc ls st σ k call = some w) : Gd p l e R s m args below meth c D kA ad A w u0 Q pc ls st σ := by
  cases st with
  | nil => cases h
  | cons v r =>
    obtain ⟨hc, h3⟩ := if_spec h
    obtain ⟨hm, hg⟩ := hk _ _ _ _ h3
    exact ⟨hm, fun H locs la hw hl a b => lv_pop cx.1 cx.2.1 hd (cat1_c hc) (hg H locs la hw hl a b)⟩
theorem o_dup2 (cx : Cx p l e R s m args below meth c M) (hk : ∀ pc2 ls2 st2 σ2, k pc2 ls2 st2 σ2 = some w → Gd p l e R s m args below meth c D kA ad A w u0 Q pc2 ls2 st2 σ2) {call : Nat → List Value → Mm → Rs} (hd : decode (cM M) pc = .ok (.dup2, 1)) (h : p_dup2 M pc ls st σ k call = some w) : Gd p l e R s m args below meth c D kA ad A w u0 Q pc ls st σ := by
  match st, h with
  | [], h => cases h
  | [_], h => cases h
  | v :: v2 :: r, h =>
    obtain ⟨hc, h3⟩ := if_spec h
    rw [Bool.and_eq_true] at hc
    obtain ⟨hm, hg⟩ := hk _ _ _ _ h3
    exact ⟨hm, fun H locs la hw hl a b => lv_dup2_11 cx.1 cx.2.1 hd (cat1_c hc.1) (cat1_c hc.2) (hg H locs la hw hl a b)⟩
theorem o_goto (cx : Cx p l e R s m args below meth c M) (hk : ∀ pc2 ls2 st2 σ2, k pc2 ls2 st2 σ2 = some w → Gd p l e R s m args below meth c D kA ad A w u0 Q pc2 ls2 st2 σ2) {off : Int} (hd : decode (cM M) pc = .ok (.goto off, 3)) (h : jmp pc off (fun t => k t ls st σ) = some w) : Gd p l e R s m args below meth c D kA ad A w u0 Q pc ls st σ := by
  obtain ⟨t, ht, h⟩ := jmp_spec h
  obtain ⟨hm, hg⟩ := hk _ _ _ _ h
  exact ⟨hm, fun H locs la hw hl a b => lv_goto cx.1 cx.2.1 hd ht (hg H locs la hw hl a b)⟩
theorem o_if_eq (cx : Cx p l e R s m args below meth c M) (hk : ∀ pc2 ls2 st2 σ2, k pc2 ls2 st2 σ2 = some w → Gd p l e R s m args below meth c D kA ad A w u0 Q pc2 ls2 st2 σ2) {off : Int} (hd : decode (cM M) pc = .ok (.ifCond .eq off, 3)) (h : s_i st (fun x r => jmp pc off (fun t => if cmp2 .eq x 0 = true then k t ls r σ else k (pc + 3) ls r σ)) = some w) : Gd p l e R s m args below meth c D kA ad A w u0 Q pc ls st σ := by
  obtain ⟨x, r, rfl, h3⟩ := s_i_spec h
  obtain ⟨t, ht, h3⟩ := jmp_spec h3
  by_cases hc : cmp2 .eq x 0 = true
  · rw [if_pos hc] at h3
    obtain ⟨hm, hg⟩ := hk _ _ _ _ h3
    exact ⟨hm, fun H locs la hw hl a b => lv_if_eq cx.1 cx.2.1 hd ht (fun _ => hg H locs la hw hl a b) (fun z => absurd hc (by simpa [cmp2] using z))⟩
  · rw [if_neg hc] at h3
    obtain ⟨hm, hg⟩ := hk _ _ _ _ h3
    exact ⟨hm, fun H locs la hw hl a b => lv_if_eq cx.1 cx.2.1 hd ht (fun z => absurd (by simpa [cmp2] using z) hc) (fun _ => hg H locs la hw hl a b)⟩
theorem o_icmp_eq (cx : Cx p l e R s m args below meth c M) (hk : ∀ pc2 ls2 st2 σ2, k pc2 ls2 st2 σ2 = some w → Gd p l e R s m args below meth c D kA ad A w u0 Q pc2 ls2 st2 σ2) {off : Int} (hd : decode (cM M) pc = .ok (.if_icmp .eq off, 3)) (h : s_ii st (fun x y r => jmp pc off (fun t => if cmp2 .eq x y = true then k t ls r σ else k (pc + 3) ls r σ)) = some w) : Gd p l e R s m args below meth c D kA ad A w u0 Q pc ls st σ := by
  obtain ⟨x, y, r, rfl, h3⟩ := s_ii_spec h
  obtain ⟨t, ht, h3⟩ := jmp_spec h3
  by_cases hc : cmp2 .eq x y = true
  · rw [if_pos hc] at h3
    obtain ⟨hm, hg⟩ := hk _ _ _ _ h3
    exact ⟨hm, fun H locs la hw hl a b => lv_icmp_eq cx.1 cx.2.1 hd ht (fun _ => hg H locs la hw hl a b) (fun z => absurd hc (by simpa [cmp2] using z))⟩
  · rw [if_neg hc] at h3
    obtain ⟨hm, hg⟩ := hk _ _ _ _ h3
    exact ⟨hm, fun H locs la hw hl a b => lv_icmp_eq cx.1 cx.2.1 hd ht (fun z => absurd (by simpa [cmp2] using z) hc) (fun _ => hg H locs la hw hl a b)⟩
theorem o_if_ne (cx : Cx p l e R s m args below meth c M) (hk : ∀ pc2 ls2 st2 σ2, k pc2 ls2 st2 σ2 = some w → Gd p l e R s m args below meth c D kA ad A w u0 Q pc2 ls2 st2 σ2) {off : Int} (hd : decode (cM M) pc = .ok (.ifCond .ne off, 3)) (h : s_i st (fun x r => jmp pc off (fun t => if cmp2 .ne x 0 = true then k t ls r σ else k (pc + 3) ls r σ)) = some w) : Gd p l e R s m args below meth c D kA ad A w u0 Q pc ls st σ := by
  obtain ⟨x, r, rfl, h3⟩ := s_i_spec h
  obtain ⟨t, ht, h3⟩ := jmp_spec h3
  by_cases hc : cmp2 .ne x 0 = true
  · rw [if_pos hc] at h3
    obtain ⟨hm, hg⟩ := hk _ _ _ _ h3
    exact ⟨hm, fun H locs la hw hl a b => lv_if_ne cx.1 cx.2.1 hd ht (fun _ => hg H locs la hw hl a b) (fun z => absurd hc (by simpa [cmp2] using z))⟩
  · rw [if_neg hc] at h3
    obtain ⟨hm, hg⟩ := hk _ _ _ _ h3
    exact ⟨hm, fun H locs la hw hl a b => lv_if_ne cx.1 cx.2.1 hd ht (fun z => absurd (by simpa [cmp2] using z) hc) (fun _ => hg H locs la hw hl a b)⟩
theorem o_icmp_ne (cx : Cx p l e R s m args below meth c M) (hk : ∀ pc2 ls2 st2 σ2, k pc2 ls2 st2 σ2 = some w → Gd p l e R s m args below meth c D kA ad A w u0 Q pc2 ls2 st2 σ2) {off : Int} (hd : decode (cM M) pc = .ok (.if_icmp .ne off, 3)) (h : s_ii st (fun x y r => jmp pc off (fun t => if cmp2 .ne x y = true then k t ls r σ else k (pc + 3) ls r σ)) = some w) : Gd p l e R s m args below meth c D kA ad A w u0 Q pc ls st σ := by
  obtain ⟨x, y, r, rfl, h3⟩ := s_ii_spec h
  obtain ⟨t, ht, h3⟩ := jmp_spec h3
  by_cases hc : cmp2 .ne x y = true
  · rw [if_pos hc] at h3
    obtain ⟨hm, hg⟩ := hk _ _ _ _ h3
    exact ⟨hm, fun H locs la hw hl a b => lv_icmp_ne cx.1 cx.2.1 hd ht (fun _ => hg H locs la hw hl a b) (fun z => absurd hc (by simpa [cmp2] using z))⟩
  · rw [if_neg hc] at h3
    obtain ⟨hm, hg⟩ := hk _ _ _ _ h3
    exact ⟨hm, fun H locs la hw hl a b => lv_icmp_ne cx.1 cx.2.1 hd ht (fun z => absurd (by simpa [cmp2] using z) hc) (fun _ => hg H locs la hw hl a b)⟩
theorem o_if_lt (cx : Cx p l e R s m args below meth c M) (hk : ∀ pc2 ls2 st2 σ2, k pc2 ls2 st2 σ2 = some w → Gd p l e R s m args below meth c D kA ad A w u0 Q pc2 ls2 st2 σ2) {off : Int} (hd : decode (cM M) pc = .ok (.ifCond .lt off, 3)) (h : s_i st (fun x r => jmp pc off (fun t => if cmp2 .lt x 0 = true then k t ls r σ else k (pc + 3) ls r σ)) = some w) : Gd p l e R s m args below meth c D kA ad A w u0 Q pc ls st σ := by
  obtain ⟨x, r, rfl, h3⟩ := s_i_spec h
  obtain ⟨t, ht, h3⟩ := jmp_spec h3
  by_cases hc : cmp2 .lt x 0 = true
  · rw [if_pos hc] at h3
    obtain ⟨hm, hg⟩ := hk _ _ _ _ h3
    exact ⟨hm, fun H locs la hw hl a b => lv_if_lt cx.1 cx.2.1 hd ht (fun _ => hg H locs la hw hl a b) (fun z => absurd hc (by simpa [cmp2] using z))⟩
  · rw [if_neg hc] at h3
    obtain ⟨hm, hg⟩ := hk _ _ _ _ h3
    exact ⟨hm, fun H locs la hw hl a b => lv_if_lt cx.1 cx.2.1 hd ht (fun z => absurd (by simpa [cmp2] using z) hc) (fun _ => hg H locs la hw hl a b)⟩
theorem o_icmp_lt (cx : Cx p l e R s m args below meth c M) (hk : ∀ pc2 ls2 st2 σ2, k pc2 ls2 st2 σ2 = some w → Gd p l e R s m args below meth c D kA ad A w u0 Q pc2 ls2 st2 σ2) {off : Int} (hd : decode (cM M) pc = .ok (.if_icmp .lt off, 3)) (h : s_ii st (fun x y r => jmp pc off (fun t => if cmp2 .lt x y = true then k t ls r σ else k (pc + 3) ls r σ)) = some w) : Gd p l e R s m args below meth c D kA ad A w u0 Q pc ls st σ := by
  obtain ⟨x, y, r, rfl, h3⟩ := s_ii_spec h
  obtain ⟨t, ht, h3⟩ := jmp_spec h3
  by_cases hc : cmp2 .lt x y = true
  · rw [if_pos hc] at h3
    obtain ⟨hm, hg⟩ := hk _ _ _ _ h3
    exact ⟨hm, fun H locs la hw hl a b => lv_icmp_lt cx.1 cx.2.1 hd ht (fun _ => hg H locs la hw hl a b) (fun z => absurd hc (by simpa [cmp2] using z))⟩
  · rw [if_neg hc] at h3
    obtain ⟨hm, hg⟩ := hk _ _ _ _ h3
    exact ⟨hm, fun H locs la hw hl a b => lv_icmp_lt cx.1 cx.2.1 hd ht (fun z => absurd (by simpa [cmp2] using z) hc) (fun _ => hg H locs la hw hl a b)⟩
theorem o_if_ge (cx : Cx p l e R s m args below meth c M) (hk : ∀ pc2 ls2 st2 σ2, k pc2 ls2 st2 σ2 = some w → Gd p l e R s m args below meth c D kA ad A w u0 Q pc2 ls2 st2 σ2) {off : Int} (hd : decode (cM M) pc = .ok (.ifCond .ge off, 3)) (h : s_i st (fun x r => jmp pc off (fun t => if cmp2 .ge x 0 = true then k t ls r σ else k (pc + 3) ls r σ)) = some w) : Gd p l e R s m args below meth c D kA ad A w u0 Q pc ls st σ := by
  obtain ⟨x, r, rfl, h3⟩ := s_i_spec h
  obtain ⟨t, ht, h3⟩ := jmp_spec h3
  by_cases hc : cmp2 .ge x 0 = true
  · rw [if_pos hc] at h3
    obtain ⟨hm, hg⟩ := hk _ _ _ _ h3
    exact ⟨hm, fun H locs la hw hl a b => lv_if_ge cx.1 cx.2.1 hd ht (fun _ => hg H locs la hw hl a b) (fun z => absurd hc (by simpa [cmp2] using z))⟩
  · rw [if_neg hc] at h3
    obtain ⟨hm, hg⟩ := hk _ _ _ _ h3
    exact ⟨hm, fun H locs la hw hl a b => lv_if_ge cx.1 cx.2.1 hd ht (fun z => absurd (by simpa [cmp2] using z) hc) (fun _ => hg H locs la hw hl a b)⟩
theorem o_icmp_ge (cx : Cx p l e R s m args below meth c M) (hk : ∀ pc2 ls2 st2 σ2, k pc2 ls2 st2 σ2 = some w → Gd p l e R s m args below meth c D kA ad A w u0 Q pc2 ls2 st2 σ2) {off : Int} (hd : decode (cM M) pc = .ok (.if_icmp .ge off, 3)) (h : s_ii st (fun x y r => jmp pc off (fun t => if cmp2 .ge x y = true then k t ls r σ else k (pc + 3) ls r σ)) = some w) : Gd p l e R s m args below meth c D kA ad A w u0 Q pc ls st σ := by
  obtain ⟨x, y, r, rfl, h3⟩ := s_ii_spec h
  obtain ⟨t, ht, h3⟩ := jmp_spec h3
  by_cases hc : cmp2 .ge x y = true
  · rw [if_pos hc] at h3
    obtain ⟨hm, hg⟩ := hk _ _ _ _ h3
    exact ⟨hm, fun H locs la hw hl a b => lv_icmp_ge cx.1 cx.2.1 hd ht (fun _ => hg H locs la hw hl a b) (fun z => absurd hc (by simpa [cmp2] using z))⟩
  · rw [if_neg hc] at h3
    obtain ⟨hm, hg⟩ := hk _ _ _ _ h3
    exact ⟨hm, fun H locs la hw hl a b => lv_icmp_ge cx.1 cx.2.1 hd ht (fun z => absurd (by simpa [cmp2] using z) hc) (fun _ => hg H locs la hw hl a b)⟩
theorem o_if_gt (cx : Cx p l e R s m args below meth c M) (hk : ∀ pc2 ls2 st2 σ2, k pc2 ls2 st2 σ2 = some w → Gd p l e R s m args below meth c D kA ad A w u0 Q pc2 ls2 st2 σ2) {off : Int} (hd : decode (cM M) pc = .ok (.ifCond .gt off, 3)) (h : s_i st (fun x r => jmp pc off (fun t => if cmp2 .gt x 0 = true then k t ls r σ else k (pc + 3) ls r σ)) = some w) : Gd p l e R s m args below meth c D kA ad A w u0 Q pc ls st σ := by
  obtain ⟨x, r, rfl, h3⟩ := s_i_spec h
  obtain ⟨t, ht, h3⟩ := jmp_spec h3
  by_cases hc : cmp2 .gt x 0 = true
  · rw [if_pos hc] at h3
    obtain ⟨hm, hg⟩ := hk _ _ _ _ h3
    exact ⟨hm, fun H locs la hw hl a b => lv_if_gt cx.1 cx.2.1 hd ht (fun _ => hg H locs la hw hl a b) (fun z => absurd hc (by simpa [cmp2] using z))⟩
  · rw [if_neg hc] at h3
    obtain ⟨hm, hg⟩ := hk _ _ _ _ h3
    exact ⟨hm, fun H locs la hw hl a b => lv_if_gt cx.1 cx.2.1 hd ht (fun z => absurd (by simpa [cmp2] using z) hc) (fun _ => hg H locs la hw hl a b)⟩
theorem o_icmp_gt (cx : Cx p l e R s m args below meth c M) (hk : ∀ pc2 ls2 st2 σ2, k pc2 ls2 st2 σ2 = some w → Gd p l e R s m args below meth c D kA ad A w u0 Q pc2 ls2 st2 σ2) {off : Int} (hd : decode (cM M) pc = .ok (.if_icmp .gt off, 3)) (h : s_ii st (fun x y r => jmp pc off (fun t => if cmp2 .gt x y = true then k t ls r σ else k (pc + 3) ls r σ)) = some w) : Gd p l e R s m args below meth c D kA ad A w u0 Q pc ls st σ := by
  obtain ⟨x, y, r, rfl, h3⟩ := s_ii_spec h
  obtain ⟨t, ht, h3⟩ := jmp_spec h3
  by_cases hc : cmp2 .gt x y = true
  · rw [if_pos hc] at h3
    obtain ⟨hm, hg⟩ := hk _ _ _ _ h3
    exact ⟨hm, fun H locs la hw hl a b => lv_icmp_gt cx.1 cx.2.1 hd ht (fun _ => hg H locs la hw hl a b) (fun z => absurd hc (by simpa [cmp2] using z))⟩
  · rw [if_neg hc] at h3
    obtain ⟨hm, hg⟩ := hk _ _ _ _ h3
    exact ⟨hm, fun H locs la hw hl a b => lv_icmp_gt cx.1 cx.2.1 hd ht (fun z => absurd (by simpa [cmp2] using z) hc) (fun _ => hg H locs la hw hl a b)⟩
theorem o_if_le (cx : Cx p l e R s m args below meth c M) (hk : ∀ pc2 ls2 st2 σ2, k pc2 ls2 st2 σ2 = some w → Gd p l e R s m args below meth c D kA ad A w u0 Q pc2 ls2 st2 σ2) {off : Int} (hd : decode (cM M) pc = .ok (.ifCond .le off, 3)) (h : s_i st (fun x r => jmp pc off (fun t => if cmp2 .le x 0 = true then k t ls r σ else k (pc + 3) ls r σ)) = some w) : Gd p l e R s m args below meth c D kA ad A w u0 Q pc ls st σ := by
  obtain ⟨x, r, rfl, h3⟩ := s_i_spec h
  obtain ⟨t, ht, h3⟩ := jmp_spec h3
  by_cases hc : cmp2 .le x 0 = true
  · rw [if_pos hc] at h3
    obtain ⟨hm, hg⟩ := hk _ _ _ _ h3
    exact ⟨hm, fun H locs la hw hl a b => lv_if_le cx.1 cx.2.1 hd ht (fun _ => hg H locs la hw hl a b) (fun z => absurd hc (by simpa [cmp2] using z))⟩
  · rw [if_neg hc] at h3
    obtain ⟨hm, hg⟩ := hk _ _ _ _ h3
    exact ⟨hm, fun H locs la hw hl a b => lv_if_le cx.1 cx.2.1 hd ht (fun z => absurd (by simpa [cmp2] using z) hc) (fun _ => hg H locs la hw hl a b)⟩
theorem o_icmp_le (cx : Cx p l e R s m args below meth c M) (hk : ∀ pc2 ls2 st2 σ2, k pc2 ls2 st2 σ2 = some w → Gd p l e R s m args below meth c D kA ad A w u0 Q pc2 ls2 st2 σ2) {off : Int} (hd : decode (cM M) pc = .ok (.if_icmp .le off, 3)) (h : s_ii st (fun x y r => jmp pc off (fun t => if cmp2 .le x y = true then k t ls r σ else k (pc + 3) ls r σ)) = some w) : Gd p l e R s m args below meth c D kA ad A w u0 Q pc ls st σ := by
  obtain ⟨x, y, r, rfl, h3⟩ := s_ii_spec h
  obtain ⟨t, ht, h3⟩ := jmp_spec h3
  by_cases hc : cmp2 .le x y = true
  · rw [if_pos hc] at h3
    obtain ⟨hm, hg⟩ := hk _ _ _ _ h3
    exact ⟨hm, fun H locs la hw hl a b => lv_icmp_le cx.1 cx.2.1 hd ht (fun _ => hg H locs la hw hl a b) (fun z => absurd hc (by simpa [cmp2] using z))⟩
  · rw [if_neg hc] at h3
    obtain ⟨hm, hg⟩ := hk _ _ _ _ h3
    exact ⟨hm, fun H locs la hw hl a b => lv_icmp_le cx.1 cx.2.1 hd ht (fun z => absurd (by simpa [cmp2] using z) hc) (fun _ => hg H locs la hw hl a b)⟩
end Ops
