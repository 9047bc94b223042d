/-! ===== a step of a run without fuel ===== -/
section Steps
variable {M pc p2 : Nat} {ls ls2 st r : List Value} {σ : Mm} {w : Option Value × Mm}
theorem e_iconst {c : Int} {v : Int32} (hd : decode (cM M) pc = .ok (.iconst c, 1)) (hv : Int32.ofInt c = v) (hp : pc + 1 = p2) (h : Ev M p2 ls (.int v :: st) σ w) : Ev M pc ls (st) σ w := by
  subst hp
  subst hv
  obtain ⟨n, h⟩ := h
  exact Ev.step hd rfl ⟨n, h⟩
theorem e_bipush {c : Int} {v : Int32} (hd : decode (cM M) pc = .ok (.bipush c, 2)) (hv : (Int8.ofInt c).toInt32 = v) (hp : pc + 2 = p2) (h : Ev M p2 ls (.int v :: st) σ w) : Ev M pc ls (st) σ w := by
  subst hp
  subst hv
  obtain ⟨n, h⟩ := h
  exact Ev.step hd rfl ⟨n, h⟩
theorem e_sipush {c : Int} {v : Int32} (hd : decode (cM M) pc = .ok (.sipush c, 3)) (hv : (Int16.ofInt c).toInt32 = v) (hp : pc + 3 = p2) (h : Ev M p2 ls (.int v :: st) σ w) : Ev M pc ls (st) σ w := by
  subst hp
  subst hv
  obtain ⟨n, h⟩ := h
  exact Ev.step hd rfl ⟨n, h⟩
theorem e_lconst {c : Fin 2} {v : Int64} (hd : decode (cM M) pc = .ok (.lconst c, 1)) (hv : Int64.ofNat c.val = v) (hp : pc + 1 = p2) (h : Ev M p2 ls (.long v :: st) σ w) : Ev M pc ls (st) σ w := by
  subst hp
  subst hv
  obtain ⟨n, h⟩ := h
  exact Ev.step hd rfl ⟨n, h⟩
theorem e_iload_n {k : Fin 4} {x : Int32} (hd : decode (cM M) pc = .ok (.iload_n k, 1)) (hl : loc ls k.val = some (.int x)) (hp : pc + 1 = p2) (h : Ev M p2 ls (.int x :: st) σ w) : Ev M pc ls (st) σ w := by
  subst hp
  obtain ⟨n, h⟩ := h
  refine Ev.step hd rfl ⟨n, ?_⟩
  show s_i ((loc ls k.val).toList) _ = _
  rw [hl]
  exact h
theorem e_iload {k : Nat} {x : Int32} (hd : decode (cM M) pc = .ok (.iload k, 2)) (hl : loc ls k = some (.int x)) (hp : pc + 2 = p2) (h : Ev M p2 ls (.int x :: st) σ w) : Ev M pc ls (st) σ w := by
  subst hp
  obtain ⟨n, h⟩ := h
  refine Ev.step hd rfl ⟨n, ?_⟩
  show s_i ((loc ls k).toList) _ = _
  rw [hl]
  exact h
theorem e_istore_n {k : Fin 4} {x : Int32} (hd : decode (cM M) pc = .ok (.istore_n k, 1)) (hn : Nat.blt k.val ls.length = true) (he : ls.set k.val (.int x) = ls2) (hp : pc + 1 = p2) (h : Ev M p2 ls2 st σ w) : Ev M pc ls (.int x :: st) σ w := by
  subst hp
  subst he
  obtain ⟨n, h⟩ := h
  exact Ev.step hd rfl ⟨n, (if_pos (Nat.le_of_ble_eq_true hn)).trans h⟩
theorem e_istore {k : Nat} {x : Int32} (hd : decode (cM M) pc = .ok (.istore k, 2)) (hn : Nat.blt k ls.length = true) (he : ls.set k (.int x) = ls2) (hp : pc + 2 = p2) (h : Ev M p2 ls2 st σ w) : Ev M pc ls (.int x :: st) σ w := by
  subst hp
  subst he
  obtain ⟨n, h⟩ := h
  exact Ev.step hd rfl ⟨n, (if_pos (Nat.le_of_ble_eq_true hn)).trans h⟩
theorem e_lload_n {k : Fin 4} {x : Int64} (hd : decode (cM M) pc = .ok (.lload_n k, 1)) (hl : loc ls k.val = some (.long x)) (hp : pc + 1 = p2) (h : Ev M p2 ls (.long x :: st) σ w) : Ev M pc ls (st) σ w := by
  subst hp
  obtain ⟨n, h⟩ := h
  refine Ev.step hd rfl ⟨n, ?_⟩
  show s_l ((loc ls k.val).toList) _ = _
  rw [hl]
  exact h
theorem e_lload {k : Nat} {x : Int64} (hd : decode (cM M) pc = .ok (.lload k, 2)) (hl : loc ls k = some (.long x)) (hp : pc + 2 = p2) (h : Ev M p2 ls (.long x :: st) σ w) : Ev M pc ls (st) σ w := by
  subst hp
  obtain ⟨n, h⟩ := h
  refine Ev.step hd rfl ⟨n, ?_⟩
  show s_l ((loc ls k).toList) _ = _
  rw [hl]
  exact h
theorem e_lstore_n {k : Fin 4} {x : Int64} (hd : decode (cM M) pc = .ok (.lstore_n k, 1)) (hn : Nat.blt (k.val + 1) ls.length = true) (he : (ls.set k.val (.long x)).set (k.val + 1) (.float 0) = ls2) (hp : pc + 1 = p2) (h : Ev M p2 ls2 st σ w) : Ev M pc ls (.long x :: st) σ w := by
  subst hp
  subst he
  obtain ⟨n, h⟩ := h
  exact Ev.step hd rfl ⟨n, (if_pos (Nat.le_of_ble_eq_true hn)).trans h⟩
theorem e_lstore {k : Nat} {x : Int64} (hd : decode (cM M) pc = .ok (.lstore k, 2)) (hn : Nat.blt (k + 1) ls.length = true) (he : (ls.set k (.long x)).set (k + 1) (.float 0) = ls2) (hp : pc + 2 = p2) (h : Ev M p2 ls2 st σ w) : Ev M pc ls (.long x :: st) σ w := by
  subst hp
  subst he
  obtain ⟨n, h⟩ := h
  exact Ev.step hd rfl ⟨n, (if_pos (Nat.le_of_ble_eq_true hn)).trans h⟩
theorem e_aload_n {k : Fin 4} {x : Nat} (hd : decode (cM M) pc = .ok (.aload_n k, 1)) (hl : loc ls k.val = some (.ref x)) (hp : pc + 1 = p2) (h : Ev M p2 ls (.ref x :: st) σ w) : Ev M pc ls (st) σ w := by
  subst hp
  obtain ⟨n, h⟩ := h
  refine Ev.step hd rfl ⟨n, ?_⟩
  show s_r ((loc ls k.val).toList) _ = _
  rw [hl]
  exact h
theorem e_aload {k : Nat} {x : Nat} (hd : decode (cM M) pc = .ok (.aload k, 2)) (hl : loc ls k = some (.ref x)) (hp : pc + 2 = p2) (h : Ev M p2 ls (.ref x :: st) σ w) : Ev M pc ls (st) σ w := by
  subst hp
  obtain ⟨n, h⟩ := h
  refine Ev.step hd rfl ⟨n, ?_⟩
  show s_r ((loc ls k).toList) _ = _
  rw [hl]
  exact h
theorem e_astore_n {k : Fin 4} {x : Nat} (hd : decode (cM M) pc = .ok (.astore_n k, 1)) (hn : Nat.blt k.val ls.length = true) (he : ls.set k.val (.ref x) = ls2) (hp : pc + 1 = p2) (h : Ev M p2 ls2 st σ w) : Ev M pc ls (.ref x :: st) σ w := by
  subst hp
  subst he
  obtain ⟨n, h⟩ := h
  exact Ev.step hd rfl ⟨n, (if_pos (Nat.le_of_ble_eq_true hn)).trans h⟩
theorem e_astore {k : Nat} {x : Nat} (hd : decode (cM M) pc = .ok (.astore k, 2)) (hn : Nat.blt k ls.length = true) (he : ls.set k (.ref x) = ls2) (hp : pc + 2 = p2) (h : Ev M p2 ls2 st σ w) : Ev M pc ls (.ref x :: st) σ w := by
  subst hp
  subst he
  obtain ⟨n, h⟩ := h
  exact Ev.step hd rfl ⟨n, (if_pos (Nat.le_of_ble_eq_true hn)).trans h⟩
theorem e_iinc {k : Nat} {d : Int} {x v : Int32} (hd : decode (cM M) pc = .ok (.iinc k d, 3)) (hl : loc ls k = some (.int x)) (hv : Int32.ofInt d = v) (hn : Nat.blt k ls.length = true) (he : ls.set k (.int (x + v)) = ls2) (hp : pc + 3 = p2) (h : Ev M p2 ls2 st σ w) : Ev M pc ls (st) σ w := by
  subst hp
  subst he
  subst hv
  obtain ⟨n, h⟩ := h
  refine Ev.step hd rfl ⟨n, ?_⟩
  show s_i ((loc ls k).toList) _ = _
  rw [hl]
  exact (if_pos (Nat.le_of_ble_eq_true hn)).trans h
theorem e_iadd {x y : Int32} (hd : decode (cM M) pc = .ok (.iadd, 1)) (hp : pc + 1 = p2) (h : Ev M p2 ls (.int (x + y) :: st) σ w) : Ev M pc ls (.int y :: .int x :: st) σ w := by
  subst hp
  obtain ⟨n, h⟩ := h
  exact Ev.step hd rfl ⟨n, h⟩
theorem e_isub {x y : Int32} (hd : decode (cM M) pc = .ok (.isub, 1)) (hp : pc + 1 = p2) (h : Ev M p2 ls (.int (x - y) :: st) σ w) : Ev M pc ls (.int y :: .int x :: st) σ w := by
  subst hp
  obtain ⟨n, h⟩ := h
  exact Ev.step hd rfl ⟨n, h⟩
theorem e_imul {x y : Int32} (hd : decode (cM M) pc = .ok (.imul, 1)) (hp : pc + 1 = p2) (h : Ev M p2 ls (.int (x * y) :: st) σ w) : Ev M pc ls (.int y :: .int x :: st) σ w := by
  subst hp
  obtain ⟨n, h⟩ := h
  exact Ev.step hd rfl ⟨n, h⟩
theorem e_iand {x y : Int32} (hd : decode (cM M) pc = .ok (.iand, 1)) (hp : pc + 1 = p2) (h : Ev M p2 ls (.int (x &&& y) :: st) σ w) : Ev M pc ls (.int y :: .int x :: st) σ w := by
  subst hp
  obtain ⟨n, h⟩ := h
  exact Ev.step hd rfl ⟨n, h⟩
theorem e_ior {x y : Int32} (hd : decode (cM M) pc = .ok (.ior, 1)) (hp : pc + 1 = p2) (h : Ev M p2 ls (.int (x ||| y) :: st) σ w) : Ev M pc ls (.int y :: .int x :: st) σ w := by
  subst hp
  obtain ⟨n, h⟩ := h
  exact Ev.step hd rfl ⟨n, h⟩
theorem e_ixor {x y : Int32} (hd : decode (cM M) pc = .ok (.ixor, 1)) (hp : pc + 1 = p2) (h : Ev M p2 ls (.int (x ^^^ y) :: st) σ w) : Ev M pc ls (.int y :: .int x :: st) σ w := by
  subst hp
  obtain ⟨n, h⟩ := h
  exact Ev.step hd rfl ⟨n, h⟩
theorem e_ishl {x y : Int32} (hd : decode (cM M) pc = .ok (.ishl, 1)) (hp : pc + 1 = p2) (h : Ev M p2 ls (.int (x <<< (y &&& 31)) :: st) σ w) : Ev M pc ls (.int y :: .int x :: st) σ w := by
  subst hp
  obtain ⟨n, h⟩ := h
  exact Ev.step hd rfl ⟨n, h⟩
theorem e_ishr {x y : Int32} (hd : decode (cM M) pc = .ok (.ishr, 1)) (hp : pc + 1 = p2) (h : Ev M p2 ls (.int (x >>> (y &&& 31)) :: st) σ w) : Ev M pc ls (.int y :: .int x :: st) σ w := by
  subst hp
  obtain ⟨n, h⟩ := h
  exact Ev.step hd rfl ⟨n, h⟩
theorem e_iushr {x y : Int32} (hd : decode (cM M) pc = .ok (.iushr, 1)) (hp : pc + 1 = p2) (h : Ev M p2 ls (.int ((x.toUInt32 >>> (y.toUInt32 &&& Int32.toUInt32 31)).toInt32) :: st) σ w) : Ev M pc ls (.int y :: .int x :: st) σ w := by
  subst hp
  obtain ⟨n, h⟩ := h
  exact Ev.step hd rfl ⟨n, h⟩
theorem e_ladd {x y : Int64} (hd : decode (cM M) pc = .ok (.ladd, 1)) (hp : pc + 1 = p2) (h : Ev M p2 ls (.long (x + y) :: st) σ w) : Ev M pc ls (.long y :: .long x :: st) σ w := by
  subst hp
  obtain ⟨n, h⟩ := h
  exact Ev.step hd rfl ⟨n, h⟩
theorem e_lsub {x y : Int64} (hd : decode (cM M) pc = .ok (.lsub, 1)) (hp : pc + 1 = p2) (h : Ev M p2 ls (.long (x - y) :: st) σ w) : Ev M pc ls (.long y :: .long x :: st) σ w := by
  subst hp
  obtain ⟨n, h⟩ := h
  exact Ev.step hd rfl ⟨n, h⟩
theorem e_lmul {x y : Int64} (hd : decode (cM M) pc = .ok (.lmul, 1)) (hp : pc + 1 = p2) (h : Ev M p2 ls (.long (x * y) :: st) σ w) : Ev M pc ls (.long y :: .long x :: st) σ w := by
  subst hp
  obtain ⟨n, h⟩ := h
  exact Ev.step hd rfl ⟨n, h⟩
theorem e_land {x y : Int64} (hd : decode (cM M) pc = .ok (.land, 1)) (hp : pc + 1 = p2) (h : Ev M p2 ls (.long (x &&& y) :: st) σ w) : Ev M pc ls (.long y :: .long x :: st) σ w := by
  subst hp
  obtain ⟨n, h⟩ := h
  exact Ev.step hd rfl ⟨n, h⟩
theorem e_idiv {x y : Int32} (hd : decode (cM M) pc = .ok (.idiv, 1)) (hy : ¬ y = 0) (hp : pc + 1 = p2) (h : Ev M p2 ls (.int (x / y) :: st) σ w) : Ev M pc ls (.int y :: .int x :: st) σ w := by
  subst hp
  obtain ⟨n, h⟩ := h
  exact Ev.step hd rfl ⟨n, (if_neg hy).trans h⟩
theorem e_irem {x y : Int32} (hd : decode (cM M) pc = .ok (.irem, 1)) (hy : ¬ y = 0) (hp : pc + 1 = p2) (h : Ev M p2 ls (.int (x - x / y * y) :: st) σ w) : Ev M pc ls (.int y :: .int x :: st) σ w := by
  subst hp
  obtain ⟨n, h⟩ := h
  exact Ev.step hd rfl ⟨n, (if_neg hy).trans h⟩
theorem e_ldiv {x y : Int64} (hd : decode (cM M) pc = .ok (.ldiv, 1)) (hy : ¬ y = 0) (hp : pc + 1 = p2) (h : Ev M p2 ls (.long (x / y) :: st) σ w) : Ev M pc ls (.long y :: .long x :: st) σ w := by
  subst hp
  obtain ⟨n, h⟩ := h
  exact Ev.step hd rfl ⟨n, (if_neg hy).trans h⟩
theorem e_lrem {x y : Int64} (hd : decode (cM M) pc = .ok (.lrem, 1)) (hy : ¬ y = 0) (hp : pc + 1 = p2) (h : Ev M p2 ls (.long (x - x / y * y) :: st) σ w) : Ev M pc ls (.long y :: .long x :: st) σ w := by
  subst hp
  obtain ⟨n, h⟩ := h
  exact Ev.step hd rfl ⟨n, (if_neg hy).trans h⟩
theorem e_ineg {x : Int32} (hd : decode (cM M) pc = .ok (.ineg, 1)) (hp : pc + 1 = p2) (h : Ev M p2 ls (.int (-x) :: st) σ w) : Ev M pc ls (.int x :: st) σ w := by
  subst hp
  obtain ⟨n, h⟩ := h
  exact Ev.step hd rfl ⟨n, h⟩
theorem e_i2b {x : Int32} (hd : decode (cM M) pc = .ok (.i2b, 1)) (hp : pc + 1 = p2) (h : Ev M p2 ls (.int (x.toInt8.toInt32) :: st) σ w) : Ev M pc ls (.int x :: st) σ w := by
  subst hp
  obtain ⟨n, h⟩ := h
  exact Ev.step hd rfl ⟨n, h⟩
theorem e_i2c {x : Int32} (hd : decode (cM M) pc = .ok (.i2c, 1)) (hp : pc + 1 = p2) (h : Ev M p2 ls (.int ((x.toUInt32 % 65536).toInt32) :: st) σ w) : Ev M pc ls (.int x :: st) σ w := by
  subst hp
  obtain ⟨n, h⟩ := h
  exact Ev.step hd rfl ⟨n, h⟩
theorem e_i2l {x : Int32} (hd : decode (cM M) pc = .ok (.i2l, 1)) (hp : pc + 1 = p2) (h : Ev M p2 ls (.long (x.toInt64) :: st) σ w) : Ev M pc ls (.int x :: st) σ w := by
  subst hp
  obtain ⟨n, h⟩ := h
  exact Ev.step hd rfl ⟨n, h⟩
theorem e_l2i {x : Int64} (hd : decode (cM M) pc = .ok (.l2i, 1)) (hp : pc + 1 = p2) (h : Ev M p2 ls (.int (x.toInt32) :: st) σ w) : Ev M pc ls (.long x :: st) σ w := by
  subst hp
  obtain ⟨n, h⟩ := h
  exact Ev.step hd rfl ⟨n, h⟩
theorem e_lneg {x : Int64} (hd : decode (cM M) pc = .ok (.lneg, 1)) (hp : pc + 1 = p2) (h : Ev M p2 ls (.long (-x) :: st) σ w) : Ev M pc ls (.long x :: st) σ w := by
  subst hp
  obtain ⟨n, h⟩ := h
  exact Ev.step hd rfl ⟨n, h⟩
theorem e_dup {v : Value} (hd : decode (cM M) pc = .ok (.dup, 1)) (hv : cat1 v = true) (hp : pc + 1 = p2) (h : Ev M p2 ls (v :: v :: st) σ w) : Ev M pc ls (v :: st) σ w := by
  subst hp
  obtain ⟨n, h⟩ := h
  exact Ev.step hd rfl ⟨n, (if_pos hv).trans h⟩
theorem e_pop {v : Value} (hd : decode (cM M) pc = .ok (.pop, 1)) (hv : cat1 v = true) (hp : pc + 1 = p2) (h : Ev M p2 ls st σ w) : Ev M pc ls (v :: st) σ w := by
  subst hp
  obtain ⟨n, h⟩ := h
  exact Ev.step hd rfl ⟨n, (if_pos hv).trans h⟩
theorem e_dup2 {v u : Value} (hd : decode (cM M) pc = .ok (.dup2, 1)) (hv : (cat1 v && cat1 u) = true) (hp : pc + 1 = p2) (h : Ev M p2 ls (v :: u :: v :: u :: st) σ w) : Ev M pc ls (v :: u :: st) σ w := by
  subst hp
  obtain ⟨n, h⟩ := h
  exact Ev.step hd rfl ⟨n, (if_pos hv).trans h⟩
theorem e_goto {off : Int} {t : Nat} (hd : decode (cM M) pc = .ok (.goto off, 3)) (ht : (pc : Int) + off = (t : Int)) (h : Ev M t ls st σ w) : Ev M pc ls (st) σ w := by
  obtain ⟨n, h⟩ := h
  refine Ev.step hd rfl ⟨n, ?_⟩
  show jmp pc off (fun t => run n M t ls st σ) = some w
  unfold jmp
  rw [ht, if_pos (Int.natCast_nonneg t)]
  exact h
theorem jmp_at {off : Int} {t : Nat} {f : Nat → Rs} (ht : (pc : Int) + off = (t : Int)) : jmp pc off f = f t := by
  unfold jmp
  rw [ht, if_pos (Int.natCast_nonneg t)]
  rfl
theorem e_if_eq {x : Int32} {off : Int} {t : Nat} (hd : decode (cM M) pc = .ok (.ifCond .eq off, 3)) (ht : (pc : Int) + off = (t : Int)) (hp : pc + 3 = p2) (h1 : x = 0 → Ev M t ls st σ w) (h2 : ¬ (x = 0) → Ev M p2 ls st σ w) : Ev M pc ls (.int x :: st) σ w := by
  subst hp
  by_cases hc : x = 0
  · obtain ⟨n, h⟩ := h1 hc
    refine Ev.step hd rfl ⟨n, ?_⟩
    show jmp pc off (fun t => if cmp2 .eq x 0 = true then run n M t ls st σ else run n M (pc + 3) ls st σ) = some w
    rw [jmp_at ht, if_pos (by simpa [cmp2] using hc)]
    exact h
  · obtain ⟨n, h⟩ := h2 hc
    refine Ev.step hd rfl ⟨n, ?_⟩
    show jmp pc off (fun t => if cmp2 .eq x 0 = true then run n M t ls st σ else run n M (pc + 3) ls st σ) = some w
    rw [jmp_at ht, if_neg (by simpa [cmp2] using hc)]
    exact h
theorem e_icmp_eq {x y : Int32} {off : Int} {t : Nat} (hd : decode (cM M) pc = .ok (.if_icmp .eq off, 3)) (ht : (pc : Int) + off = (t : Int)) (hp : pc + 3 = p2) (h1 : x = y → Ev M t ls st σ w) (h2 : ¬ (x = y) → Ev M p2 ls st σ w) : Ev M pc ls (.int y :: .int x :: st) σ w := by
  subst hp
  by_cases hc : x = y
  · obtain ⟨n, h⟩ := h1 hc
    refine Ev.step hd rfl ⟨n, ?_⟩
    show jmp pc off (fun t => if cmp2 .eq x y = true then run n M t ls st σ else run n M (pc + 3) ls st σ) = some w
    rw [jmp_at ht, if_pos (by simpa [cmp2] using hc)]
    exact h
  · obtain ⟨n, h⟩ := h2 hc
    refine Ev.step hd rfl ⟨n, ?_⟩
    show jmp pc off (fun t => if cmp2 .eq x y = true then run n M t ls st σ else run n M (pc + 3) ls st σ) = some w
    rw [jmp_at ht, if_neg (by simpa [cmp2] using hc)]
    exact h
theorem e_if_ne {x : Int32} {off : Int} {t : Nat} (hd : decode (cM M) pc = .ok (.ifCond .ne off, 3)) (ht : (pc : Int) + off = (t : Int)) (hp : pc + 3 = p2) (h1 : ¬ (x = 0) → Ev M t ls st σ w) (h2 : x = 0 → Ev M p2 ls st σ w) : Ev M pc ls (.int x :: st) σ w := by
  subst hp
  by_cases hc : x = 0
  · obtain ⟨n, h⟩ := h2 hc
    refine Ev.step hd rfl ⟨n, ?_⟩
    show jmp pc off (fun t => if cmp2 .ne x 0 = true then run n M t ls st σ else run n M (pc + 3) ls st σ) = some w
    rw [jmp_at ht, if_neg (by simpa [cmp2] using hc)]
    exact h
  · obtain ⟨n, h⟩ := h1 hc
    refine Ev.step hd rfl ⟨n, ?_⟩
    show jmp pc off (fun t => if cmp2 .ne x 0 = true then run n M t ls st σ else run n M (pc + 3) ls st σ) = some w
    rw [jmp_at ht, if_pos (by simpa [cmp2] using hc)]
    exact h
theorem e_icmp_ne {x y : Int32} {off : Int} {t : Nat} (hd : decode (cM M) pc = .ok (.if_icmp .ne off, 3)) (ht : (pc : Int) + off = (t : Int)) (hp : pc + 3 = p2) (h1 : ¬ (x = y) → Ev M t ls st σ w) (h2 : x = y → Ev M p2 ls st σ w) : Ev M pc ls (.int y :: .int x :: st) σ w := by
  subst hp
  by_cases hc : x = y
  · obtain ⟨n, h⟩ := h2 hc
    refine Ev.step hd rfl ⟨n, ?_⟩
    show jmp pc off (fun t => if cmp2 .ne x y = true then run n M t ls st σ else run n M (pc + 3) ls st σ) = some w
    rw [jmp_at ht, if_neg (by simpa [cmp2] using hc)]
    exact h
  · obtain ⟨n, h⟩ := h1 hc
    refine Ev.step hd rfl ⟨n, ?_⟩
    show jmp pc off (fun t => if cmp2 .ne x y = true then run n M t ls st σ else run n M (pc + 3) ls st σ) = some w
    rw [jmp_at ht, if_pos (by simpa [cmp2] using hc)]
    exact h
theorem e_if_lt {x : Int32} {off : Int} {t : Nat} (hd : decode (cM M) pc = .ok (.ifCond .lt off, 3)) (ht : (pc : Int) + off = (t : Int)) (hp : pc + 3 = p2) (h1 : x < 0 → Ev M t ls st σ w) (h2 : ¬ (x < 0) → Ev M p2 ls st σ w) : Ev M pc ls (.int x :: st) σ w := by
  subst hp
  by_cases hc : x < 0
  · obtain ⟨n, h⟩ := h1 hc
    refine Ev.step hd rfl ⟨n, ?_⟩
    show jmp pc off (fun t => if cmp2 .lt x 0 = true then run n M t ls st σ else run n M (pc + 3) ls st σ) = some w
    rw [jmp_at ht, if_pos (by simpa [cmp2] using hc)]
    exact h
  · obtain ⟨n, h⟩ := h2 hc
    refine Ev.step hd rfl ⟨n, ?_⟩
    show jmp pc off (fun t => if cmp2 .lt x 0 = true then run n M t ls st σ else run n M (pc + 3) ls st σ) = some w
    rw [jmp_at ht, if_neg (by simpa [cmp2] using hc)]
    exact h
theorem e_icmp_lt {x y : Int32} {off : Int} {t : Nat} (hd : decode (cM M) pc = .ok (.if_icmp .lt off, 3)) (ht : (pc : Int) + off = (t : Int)) (hp : pc + 3 = p2) (h1 : x < y → Ev M t ls st σ w) (h2 : ¬ (x < y) → Ev M p2 ls st σ w) : Ev M pc ls (.int y :: .int x :: st) σ w := by
  subst hp
  by_cases hc : x < y
  · obtain ⟨n, h⟩ := h1 hc
    refine Ev.step hd rfl ⟨n, ?_⟩
    show jmp pc off (fun t => if cmp2 .lt x y = true then run n M t ls st σ else run n M (pc + 3) ls st σ) = some w
    rw [jmp_at ht, if_pos (by simpa [cmp2] using hc)]
    exact h
  · obtain ⟨n, h⟩ := h2 hc
    refine Ev.step hd rfl ⟨n, ?_⟩
    show jmp pc off (fun t => if cmp2 .lt x y = true then run n M t ls st σ else run n M (pc + 3) ls st σ) = some w
    rw [jmp_at ht, if_neg (by simpa [cmp2] using hc)]
    exact h
theorem e_if_ge {x : Int32} {off : Int} {t : Nat} (hd : decode (cM M) pc = .ok (.ifCond .ge off, 3)) (ht : (pc : Int) + off = (t : Int)) (hp : pc + 3 = p2) (h1 : ¬ (x < 0) → Ev M t ls st σ w) (h2 : x < 0 → Ev M p2 ls st σ w) : Ev M pc ls (.int x :: st) σ w := by
  subst hp
  by_cases hc : x < 0
  · obtain ⟨n, h⟩ := h2 hc
    refine Ev.step hd rfl ⟨n, ?_⟩
    show jmp pc off (fun t => if cmp2 .ge x 0 = true then run n M t ls st σ else run n M (pc + 3) ls st σ) = some w
    rw [jmp_at ht, if_neg (by simpa [cmp2] using hc)]
    exact h
  · obtain ⟨n, h⟩ := h1 hc
    refine Ev.step hd rfl ⟨n, ?_⟩
    show jmp pc off (fun t => if cmp2 .ge x 0 = true then run n M t ls st σ else run n M (pc + 3) ls st σ) = some w
    rw [jmp_at ht, if_pos (by simpa [cmp2] using hc)]
    exact h
theorem e_icmp_ge {x y : Int32} {off : Int} {t : Nat} (hd : decode (cM M) pc = .ok (.if_icmp .ge off, 3)) (ht : (pc : Int) + off = (t : Int)) (hp : pc + 3 = p2) (h1 : ¬ (x < y) → Ev M t ls st σ w) (h2 : x < y → Ev M p2 ls st σ w) : Ev M pc ls (.int y :: .int x :: st) σ w := by
  subst hp
  by_cases hc : x < y
  · obtain ⟨n, h⟩ := h2 hc
    refine Ev.step hd rfl ⟨n, ?_⟩
    show jmp pc off (fun t => if cmp2 .ge x y = true then run n M t ls st σ else run n M (pc + 3) ls st σ) = some w
    rw [jmp_at ht, if_neg (by simpa [cmp2] using hc)]
    exact h
  · obtain ⟨n, h⟩ := h1 hc
    refine Ev.step hd rfl ⟨n, ?_⟩
    show jmp pc off (fun t => if cmp2 .ge x y = true then run n M t ls st σ else run n M (pc + 3) ls st σ) = some w
    rw [jmp_at ht, if_pos (by simpa [cmp2] using hc)]
    exact h
theorem e_if_gt {x : Int32} {off : Int} {t : Nat} (hd : decode (cM M) pc = .ok (.ifCond .gt off, 3)) (ht : (pc : Int) + off = (t : Int)) (hp : pc + 3 = p2) (h1 : 0 < x → Ev M t ls st σ w) (h2 : ¬ (0 < x) → Ev M p2 ls st σ w) : Ev M pc ls (.int x :: st) σ w := by
  subst hp
  by_cases hc : 0 < x
  · obtain ⟨n, h⟩ := h1 hc
    refine Ev.step hd rfl ⟨n, ?_⟩
    show jmp pc off (fun t => if cmp2 .gt x 0 = true then run n M t ls st σ else run n M (pc + 3) ls st σ) = some w
    rw [jmp_at ht, if_pos (by simpa [cmp2] using hc)]
    exact h
  · obtain ⟨n, h⟩ := h2 hc
    refine Ev.step hd rfl ⟨n, ?_⟩
    show jmp pc off (fun t => if cmp2 .gt x 0 = true then run n M t ls st σ else run n M (pc + 3) ls st σ) = some w
    rw [jmp_at ht, if_neg (by simpa [cmp2] using hc)]
    exact h
theorem e_icmp_gt {x y : Int32} {off : Int} {t : Nat} (hd : decode (cM M) pc = .ok (.if_icmp .gt off, 3)) (ht : (pc : Int) + off = (t : Int)) (hp : pc + 3 = p2) (h1 : y < x → Ev M t ls st σ w) (h2 : ¬ (y < x) → Ev M p2 ls st σ w) : Ev M pc ls (.int y :: .int x :: st) σ w := by
  subst hp
  by_cases hc : y < x
  · obtain ⟨n, h⟩ := h1 hc
    refine Ev.step hd rfl ⟨n, ?_⟩
    show jmp pc off (fun t => if cmp2 .gt x y = true then run n M t ls st σ else run n M (pc + 3) ls st σ) = some w
    rw [jmp_at ht, if_pos (by simpa [cmp2] using hc)]
    exact h
  · obtain ⟨n, h⟩ := h2 hc
    refine Ev.step hd rfl ⟨n, ?_⟩
    show jmp pc off (fun t => if cmp2 .gt x y = true then run n M t ls st σ else run n M (pc + 3) ls st σ) = some w
    rw [jmp_at ht, if_neg (by simpa [cmp2] using hc)]
    exact h
theorem e_if_le {x : Int32} {off : Int} {t : Nat} (hd : decode (cM M) pc = .ok (.ifCond .le off, 3)) (ht : (pc : Int) + off = (t : Int)) (hp : pc + 3 = p2) (h1 : ¬ (0 < x) → Ev M t ls st σ w) (h2 : 0 < x → Ev M p2 ls st σ w) : Ev M pc ls (.int x :: st) σ w := by
  subst hp
  by_cases hc : 0 < x
  · obtain ⟨n, h⟩ := h2 hc
    refine Ev.step hd rfl ⟨n, ?_⟩
    show jmp pc off (fun t => if cmp2 .le x 0 = true then run n M t ls st σ else run n M (pc + 3) ls st σ) = some w
    rw [jmp_at ht, if_neg (by simpa [cmp2] using hc)]
    exact h
  · obtain ⟨n, h⟩ := h1 hc
    refine Ev.step hd rfl ⟨n, ?_⟩
    show jmp pc off (fun t => if cmp2 .le x 0 = true then run n M t ls st σ else run n M (pc + 3) ls st σ) = some w
    rw [jmp_at ht, if_pos (by simpa [cmp2] using hc)]
    exact h
theorem e_icmp_le {x y : Int32} {off : Int} {t : Nat} (hd : decode (cM M) pc = .ok (.if_icmp .le off, 3)) (ht : (pc : Int) + off = (t : Int)) (hp : pc + 3 = p2) (h1 : ¬ (y < x) → Ev M t ls st σ w) (h2 : y < x → Ev M p2 ls st σ w) : Ev M pc ls (.int y :: .int x :: st) σ w := by
  subst hp
  by_cases hc : y < x
  · obtain ⟨n, h⟩ := h2 hc
    refine Ev.step hd rfl ⟨n, ?_⟩
    show jmp pc off (fun t => if cmp2 .le x y = true then run n M t ls st σ else run n M (pc + 3) ls st σ) = some w
    rw [jmp_at ht, if_neg (by simpa [cmp2] using hc)]
    exact h
  · obtain ⟨n, h⟩ := h1 hc
    refine Ev.step hd rfl ⟨n, ?_⟩
    show jmp pc off (fun t => if cmp2 .le x y = true then run n M t ls st σ else run n M (pc + 3) ls st σ) = some w
    rw [jmp_at ht, if_pos (by simpa [cmp2] using hc)]
    exact h
theorem lc_lt {x y : Int64} (h : x < y) : lg_cmp x y = -1 := by
  have h1 : ¬ y < x := fun z => by rw [Int64.lt_iff_toInt_lt] at h z; omega
  have h2 : ¬ x = y := fun z => by rw [z, Int64.lt_iff_toInt_lt] at h; omega
  simp [lg_cmp, h1, h2]
theorem lc_gt {x y : Int64} (h : y < x) : lg_cmp x y = 1 := by simp [lg_cmp, h]
theorem lc_eq {x y : Int64} (h : x = y) : lg_cmp x y = 0 := by
  subst h
  simp [lg_cmp]
theorem lc_tri (x y : Int64) : x < y ∨ x = y ∨ y < x := by
  rcases Int.lt_trichotomy x.toInt y.toInt with h | h | h
  · exact Or.inl (Int64.lt_iff_toInt_lt.mpr h)
  · exact Or.inr (Or.inl (Int64.toInt_inj.mp h))
  · exact Or.inr (Or.inr (Int64.lt_iff_toInt_lt.mpr h))
theorem lc_i_eq {x y : Int64} : lg_cmp x y = 0 ↔ x = y := by
  rcases lc_tri x y with h | h | h
  · rw [lc_lt h]
    have h1 : ¬ y < x := fun z => by rw [Int64.lt_iff_toInt_lt] at h z; omega
    have h2 : ¬ x = y := fun z => by rw [z, Int64.lt_iff_toInt_lt] at h; omega
    simp [h, h1, h2]
  · rw [lc_eq h]
    subst h
    have h1 : ¬ x < x := fun z => by rw [Int64.lt_iff_toInt_lt] at z; omega
    simp [h1]
  · rw [lc_gt h]
    have h1 : ¬ x < y := fun z => by rw [Int64.lt_iff_toInt_lt] at h z; omega
    have h2 : ¬ x = y := fun z => by rw [z, Int64.lt_iff_toInt_lt] at h; omega
    simp [h, h1, h2]
theorem e_lc_eq {x y : Int64} {off : Int} {t p3 : Nat} (hd0 : decode (cM M) pc = .ok (.lcmp, 1)) (hd : decode (cM M) p2 = .ok (.ifCond .eq off, 3)) (hp : pc + 1 = p2) (ht : (p2 : Int) + off = (t : Int)) (hp3 : p2 + 3 = p3) (h1 : x = y → Ev M t ls st σ w) (h2 : ¬ (x = y) → Ev M p3 ls st σ w) : Ev M pc ls (.long y :: .long x :: st) σ w := by
  subst hp
  have h := e_if_eq (x := lg_cmp x y) (ls := ls) (st := st) (σ := σ) (w := w) hd ht hp3 (fun z => h1 (by rw [lc_i_eq] at z; exact z)) (fun z => h2 (by rw [lc_i_eq] at z; exact z))
  obtain ⟨n, h⟩ := h
  exact Ev.step hd0 rfl ⟨n, h⟩
theorem lc_i_ne {x y : Int64} : lg_cmp x y = 0 ↔ x = y := by
  rcases lc_tri x y with h | h | h
  · rw [lc_lt h]
    have h1 : ¬ y < x := fun z => by rw [Int64.lt_iff_toInt_lt] at h z; omega
    have h2 : ¬ x = y := fun z => by rw [z, Int64.lt_iff_toInt_lt] at h; omega
    simp [h, h1, h2]
  · rw [lc_eq h]
    subst h
    have h1 : ¬ x < x := fun z => by rw [Int64.lt_iff_toInt_lt] at z; omega
    simp [h1]
  · rw [lc_gt h]
    have h1 : ¬ x < y := fun z => by rw [Int64.lt_iff_toInt_lt] at h z; omega
    have h2 : ¬ x = y := fun z => by rw [z, Int64.lt_iff_toInt_lt] at h; omega
    simp [h, h1, h2]
theorem e_lc_ne {x y : Int64} {off : Int} {t p3 : Nat} (hd0 : decode (cM M) pc = .ok (.lcmp, 1)) (hd : decode (cM M) p2 = .ok (.ifCond .ne off, 3)) (hp : pc + 1 = p2) (ht : (p2 : Int) + off = (t : Int)) (hp3 : p2 + 3 = p3) (h1 : ¬ (x = y) → Ev M t ls st σ w) (h2 : x = y → Ev M p3 ls st σ w) : Ev M pc ls (.long y :: .long x :: st) σ w := by
  subst hp
  have h := e_if_ne (x := lg_cmp x y) (ls := ls) (st := st) (σ := σ) (w := w) hd ht hp3 (fun z => h1 (by rw [lc_i_ne] at z; exact z)) (fun z => h2 (by rw [lc_i_ne] at z; exact z))
  obtain ⟨n, h⟩ := h
  exact Ev.step hd0 rfl ⟨n, h⟩
theorem lc_i_lt {x y : Int64} : lg_cmp x y < 0 ↔ x < y := by
  rcases lc_tri x y with h | h | h
  · rw [lc_lt h]
    have h1 : ¬ y < x := fun z => by rw [Int64.lt_iff_toInt_lt] at h z; omega
    have h2 : ¬ x = y := fun z => by rw [z, Int64.lt_iff_toInt_lt] at h; omega
    simp [h, h1, h2]
  · rw [lc_eq h]
    subst h
    have h1 : ¬ x < x := fun z => by rw [Int64.lt_iff_toInt_lt] at z; omega
    simp [h1]
  · rw [lc_gt h]
    have h1 : ¬ x < y := fun z => by rw [Int64.lt_iff_toInt_lt] at h z; omega
    have h2 : ¬ x = y := fun z => by rw [z, Int64.lt_iff_toInt_lt] at h; omega
    simp [h, h1, h2]
theorem e_lc_lt {x y : Int64} {off : Int} {t p3 : Nat} (hd0 : decode (cM M) pc = .ok (.lcmp, 1)) (hd : decode (cM M) p2 = .ok (.ifCond .lt off, 3)) (hp : pc + 1 = p2) (ht : (p2 : Int) + off = (t : Int)) (hp3 : p2 + 3 = p3) (h1 : x < y → Ev M t ls st σ w) (h2 : ¬ (x < y) → Ev M p3 ls st σ w) : Ev M pc ls (.long y :: .long x :: st) σ w := by
  subst hp
  have h := e_if_lt (x := lg_cmp x y) (ls := ls) (st := st) (σ := σ) (w := w) hd ht hp3 (fun z => h1 (by rw [lc_i_lt] at z; exact z)) (fun z => h2 (by rw [lc_i_lt] at z; exact z))
  obtain ⟨n, h⟩ := h
  exact Ev.step hd0 rfl ⟨n, h⟩
theorem lc_i_ge {x y : Int64} : lg_cmp x y < 0 ↔ x < y := by
  rcases lc_tri x y with h | h | h
  · rw [lc_lt h]
    have h1 : ¬ y < x := fun z => by rw [Int64.lt_iff_toInt_lt] at h z; omega
    have h2 : ¬ x = y := fun z => by rw [z, Int64.lt_iff_toInt_lt] at h; omega
    simp [h, h1, h2]
  · rw [lc_eq h]
    subst h
    have h1 : ¬ x < x := fun z => by rw [Int64.lt_iff_toInt_lt] at z; omega
    simp [h1]
  · rw [lc_gt h]
    have h1 : ¬ x < y := fun z => by rw [Int64.lt_iff_toInt_lt] at h z; omega
    have h2 : ¬ x = y := fun z => by rw [z, Int64.lt_iff_toInt_lt] at h; omega
    simp [h, h1, h2]
theorem e_lc_ge {x y : Int64} {off : Int} {t p3 : Nat} (hd0 : decode (cM M) pc = .ok (.lcmp, 1)) (hd : decode (cM M) p2 = .ok (.ifCond .ge off, 3)) (hp : pc + 1 = p2) (ht : (p2 : Int) + off = (t : Int)) (hp3 : p2 + 3 = p3) (h1 : ¬ (x < y) → Ev M t ls st σ w) (h2 : x < y → Ev M p3 ls st σ w) : Ev M pc ls (.long y :: .long x :: st) σ w := by
  subst hp
  have h := e_if_ge (x := lg_cmp x y) (ls := ls) (st := st) (σ := σ) (w := w) hd ht hp3 (fun z => h1 (by rw [lc_i_ge] at z; exact z)) (fun z => h2 (by rw [lc_i_ge] at z; exact z))
  obtain ⟨n, h⟩ := h
  exact Ev.step hd0 rfl ⟨n, h⟩
theorem lc_i_gt {x y : Int64} : 0 < lg_cmp x y ↔ y < x := by
  rcases lc_tri x y with h | h | h
  · rw [lc_lt h]
    have h1 : ¬ y < x := fun z => by rw [Int64.lt_iff_toInt_lt] at h z; omega
    have h2 : ¬ x = y := fun z => by rw [z, Int64.lt_iff_toInt_lt] at h; omega
    simp [h, h1, h2]
  · rw [lc_eq h]
    subst h
    have h1 : ¬ x < x := fun z => by rw [Int64.lt_iff_toInt_lt] at z; omega
    simp [h1]
  · rw [lc_gt h]
    have h1 : ¬ x < y := fun z => by rw [Int64.lt_iff_toInt_lt] at h z; omega
    have h2 : ¬ x = y := fun z => by rw [z, Int64.lt_iff_toInt_lt] at h; omega
    simp [h, h1, h2]
theorem e_lc_gt {x y : Int64} {off : Int} {t p3 : Nat} (hd0 : decode (cM M) pc = .ok (.lcmp, 1)) (hd : decode (cM M) p2 = .ok (.ifCond .gt off, 3)) (hp : pc + 1 = p2) (ht : (p2 : Int) + off = (t : Int)) (hp3 : p2 + 3 = p3) (h1 : y < x → Ev M t ls st σ w) (h2 : ¬ (y < x) → Ev M p3 ls st σ w) : Ev M pc ls (.long y :: .long x :: st) σ w := by
  subst hp
  have h := e_if_gt (x := lg_cmp x y) (ls := ls) (st := st) (σ := σ) (w := w) hd ht hp3 (fun z => h1 (by rw [lc_i_gt] at z; exact z)) (fun z => h2 (by rw [lc_i_gt] at z; exact z))
  obtain ⟨n, h⟩ := h
  exact Ev.step hd0 rfl ⟨n, h⟩
theorem lc_i_le {x y : Int64} : 0 < lg_cmp x y ↔ y < x := by
  rcases lc_tri x y with h | h | h
  · rw [lc_lt h]
    have h1 : ¬ y < x := fun z => by rw [Int64.lt_iff_toInt_lt] at h z; omega
    have h2 : ¬ x = y := fun z => by rw [z, Int64.lt_iff_toInt_lt] at h; omega
    simp [h, h1, h2]
  · rw [lc_eq h]
    subst h
    have h1 : ¬ x < x := fun z => by rw [Int64.lt_iff_toInt_lt] at z; omega
    simp [h1]
  · rw [lc_gt h]
    have h1 : ¬ x < y := fun z => by rw [Int64.lt_iff_toInt_lt] at h z; omega
    have h2 : ¬ x = y := fun z => by rw [z, Int64.lt_iff_toInt_lt] at h; omega
    simp [h, h1, h2]
theorem e_lc_le {x y : Int64} {off : Int} {t p3 : Nat} (hd0 : decode (cM M) pc = .ok (.lcmp, 1)) (hd : decode (cM M) p2 = .ok (.ifCond .le off, 3)) (hp : pc + 1 = p2) (ht : (p2 : Int) + off = (t : Int)) (hp3 : p2 + 3 = p3) (h1 : ¬ (y < x) → Ev M t ls st σ w) (h2 : y < x → Ev M p3 ls st σ w) : Ev M pc ls (.long y :: .long x :: st) σ w := by
  subst hp
  have h := e_if_le (x := lg_cmp x y) (ls := ls) (st := st) (σ := σ) (w := w) hd ht hp3 (fun z => h1 (by rw [lc_i_le] at z; exact z)) (fun z => h2 (by rw [lc_i_le] at z; exact z))
  obtain ⟨n, h⟩ := h
  exact Ev.step hd0 rfl ⟨n, h⟩
theorem e_table {d lo hi : Int} {offs : Array Int} {len : Nat} {x : Int32} {off : Int} {t : Nat} (hd : decode (cM M) pc = .ok (.tableswitch d lo hi offs, len)) (hs : swT lo hi d offs x = some off) (ht : (pc : Int) + off = (t : Int)) (h : Ev M t ls st σ w) : Ev M pc ls (.int x :: st) σ w := by
  obtain ⟨n, h⟩ := h
  refine Ev.step hd rfl ⟨n, ?_⟩
  show p_tableswitch d lo hi offs M pc ls (.int x :: st) σ (run n M) (cln n) = some w
  unfold p_tableswitch
  show (match swT lo hi d offs x with | some off => jmp pc off (fun t => run n M t ls st σ) | none => none) = some w
  rw [hs]
  exact (jmp_at ht).trans h
theorem e_lookup {d : Int} {ps : Array (Int × Int)} {len : Nat} {x : Int32} {off : Int} {t : Nat} (hd : decode (cM M) pc = .ok (.lookupswitch d ps, len)) (hs : (ps.toList.zip (ps.toList.drop 1)).all (fun (a, next) => a.1 < next.1) = true) (ho : Op.lookupswitch.offset ps.toList d x.toInt = off) (ht : (pc : Int) + off = (t : Int)) (h : Ev M t ls st σ w) : Ev M pc ls (.int x :: st) σ w := by
  subst ho
  obtain ⟨n, h⟩ := h
  exact Ev.step hd rfl ⟨n, (if_pos hs).trans ((jmp_at ht).trans h)⟩
theorem e_ldc {ix : Nat} {o : Nat} {v : Int32} (hd : decode (cM M) pc = .ok (.ldc ix, 2)) (ho : oM M = o) (hc : cstI o ix = some v) (hp : pc + 2 = p2) (h : Ev M p2 ls (.int v :: st) σ w) : Ev M pc ls (st) σ w := by
  subst hp
  subst ho
  obtain ⟨n, h⟩ := h
  refine Ev.step hd rfl ⟨n, ?_⟩
  show p_ldc ix M pc ls st σ (run n M) (cln n) = some w
  unfold p_ldc
  rw [hc]
  exact h
theorem e_ldc_w {ix : Nat} {o : Nat} {v : Int32} (hd : decode (cM M) pc = .ok (.ldc_w ix, 3)) (ho : oM M = o) (hc : cstI o ix = some v) (hp : pc + 3 = p2) (h : Ev M p2 ls (.int v :: st) σ w) : Ev M pc ls (st) σ w := by
  subst hp
  subst ho
  obtain ⟨n, h⟩ := h
  refine Ev.step hd rfl ⟨n, ?_⟩
  show p_ldc_w ix M pc ls st σ (run n M) (cln n) = some w
  unfold p_ldc_w
  rw [hc]
  exact h
theorem e_ldcS {ix : Nat} {o a : Nat} (hd : decode (cM M) pc = .ok (.ldc ix, 2)) (ho : oM M = o) (hc : cstI o ix = none) (hs : cstS o ix = some a) (hp : pc + 2 = p2) (h : Ev M p2 ls (.ref a :: st) σ w) : Ev M pc ls (st) σ w := by
  subst hp
  subst ho
  obtain ⟨n, h⟩ := h
  refine Ev.step hd rfl ⟨n, ?_⟩
  show p_ldc ix M pc ls st σ (run n M) (cln n) = some w
  unfold p_ldc
  rw [hc, hs]
  exact h
theorem e_ldc2 {ix : Nat} {o : Nat} {v : Int64} (hd : decode (cM M) pc = .ok (.ldc2_w ix, 3)) (ho : oM M = o) (hc : cstL o ix = some v) (hp : pc + 3 = p2) (h : Ev M p2 ls (.long v :: st) σ w) : Ev M pc ls (st) σ w := by
  subst hp
  subst ho
  obtain ⟨n, h⟩ := h
  refine Ev.step hd rfl ⟨n, ?_⟩
  show p_ldc2_w ix M pc ls st σ (run n M) (cln n) = some w
  unfold p_ldc2_w
  rw [hc]
  exact h
theorem e_getstatic  (hd : decode (cM M) pc = .ok (.getstatic stIdx, 3)) (ho : oM M = 13) (hp : pc + 3 = p2) (h : Ev M p2 ls (.int 1 :: st) σ w) : Ev M pc ls (st) σ w := by
  subst hp
  obtain ⟨n, h⟩ := h
  exact Ev.step hd rfl ⟨n, (if_pos ⟨ho, rfl⟩).trans h⟩
theorem isK_at {a c n : Nat} (h : mK σ a = some (c, n)) : isK σ a c = true := by
  unfold isK
  rw [h]
  simp
theorem e_getI {ix o c j n0 a : Nat} (hd : decode (cM M) pc = .ok (.getfield ix, 3)) (ho : oM M = o) (hf : fld o ix = some (c, j, 0)) (hc : c ≠ 20) (hk : mK σ a = some (c, n0)) (hp : pc + 3 = p2) (h : Ev M p2 ls (.int (mI σ a j) :: st) σ w) : Ev M pc ls (.ref a :: st) σ w := by
  subst hp
  subst ho
  obtain ⟨n, h⟩ := h
  refine Ev.step hd rfl ⟨n, ?_⟩
  show p_getfield ix M pc ls (.ref a :: st) σ (run n M) (cln n) = some w
  unfold p_getfield
  rw [hf]
  show getF σ a (c, j, 0) (fun v => run n M (pc + 3) ls (v :: st) σ) = some w
  unfold getF
  dsimp only
  rw [if_neg hc, if_pos (isK_at hk)]
  rw [if_neg (by decide), if_neg (by decide)]
  exact h
theorem e_getZ {ix o c j n0 a : Nat} (hd : decode (cM M) pc = .ok (.getfield ix, 3)) (ho : oM M = o) (hf : fld o ix = some (c, j, 3)) (hc : c ≠ 20) (hk : mK σ a = some (c, n0)) (hp : pc + 3 = p2) (h : Ev M p2 ls (.int (mI σ a j) :: st) σ w) : Ev M pc ls (.ref a :: st) σ w := by
  subst hp
  subst ho
  obtain ⟨n, h⟩ := h
  refine Ev.step hd rfl ⟨n, ?_⟩
  show p_getfield ix M pc ls (.ref a :: st) σ (run n M) (cln n) = some w
  unfold p_getfield
  rw [hf]
  show getF σ a (c, j, 3) (fun v => run n M (pc + 3) ls (v :: st) σ) = some w
  unfold getF
  dsimp only
  rw [if_neg hc, if_pos (isK_at hk)]
  rw [if_neg (by decide), if_neg (by decide)]
  exact h
theorem e_getL {ix o c j n0 a : Nat} (hd : decode (cM M) pc = .ok (.getfield ix, 3)) (ho : oM M = o) (hf : fld o ix = some (c, j, 1)) (hc : c ≠ 20) (hk : mK σ a = some (c, n0)) (hp : pc + 3 = p2) (h : Ev M p2 ls (.long (mL σ a j) :: st) σ w) : Ev M pc ls (.ref a :: st) σ w := by
  subst hp
  subst ho
  obtain ⟨n, h⟩ := h
  refine Ev.step hd rfl ⟨n, ?_⟩
  show p_getfield ix M pc ls (.ref a :: st) σ (run n M) (cln n) = some w
  unfold p_getfield
  rw [hf]
  show getF σ a (c, j, 1) (fun v => run n M (pc + 3) ls (v :: st) σ) = some w
  unfold getF
  dsimp only
  rw [if_neg hc, if_pos (isK_at hk)]
  rw [if_pos rfl]
  exact h
theorem e_getR {ix o c j n0 a : Nat} {b : Nat} (hd : decode (cM M) pc = .ok (.getfield ix, 3)) (ho : oM M = o) (hf : fld o ix = some (c, j, 2)) (hc : c ≠ 20) (hk : mK σ a = some (c, n0)) (hr : mR σ a j = some b) (hp : pc + 3 = p2) (h : Ev M p2 ls (.ref b :: st) σ w) : Ev M pc ls (.ref a :: st) σ w := by
  subst hp
  subst ho
  obtain ⟨n, h⟩ := h
  refine Ev.step hd rfl ⟨n, ?_⟩
  show p_getfield ix M pc ls (.ref a :: st) σ (run n M) (cln n) = some w
  unfold p_getfield
  rw [hf]
  show getF σ a (c, j, 2) (fun v => run n M (pc + 3) ls (v :: st) σ) = some w
  unfold getF
  dsimp only
  rw [if_neg hc, if_pos (isK_at hk)]
  rw [if_neg (by decide), if_pos rfl, hr]
  exact h
theorem e_getS0 {ix a : Nat} (hd : decode (cM M) pc = .ok (.getfield ix, 3)) (ho : oM M = 13) (hf : fld 13 ix = some (20, 0, 2)) (ha : a = 1000000 ∨ a = 1000001) (hp : pc + 3 = p2) (h : Ev M p2 ls (.ref (a + 10) :: st) σ w) : Ev M pc ls (.ref a :: st) σ w := by
  subst hp
  rw [← ho] at hf
  obtain ⟨n, h⟩ := h
  refine Ev.step hd rfl ⟨n, ?_⟩
  show p_getfield ix M pc ls (.ref a :: st) σ (run n M) (cln n) = some w
  unfold p_getfield
  rw [hf]
  exact (if_pos ha).trans h
theorem e_getS1 {ix a : Nat} (hd : decode (cM M) pc = .ok (.getfield ix, 3)) (ho : oM M = 13) (hf : fld 13 ix = some (20, 1, 0)) (ha : a = 1000000 ∨ a = 1000001) (hp : pc + 3 = p2) (h : Ev M p2 ls (.int 0 :: st) σ w) : Ev M pc ls (.ref a :: st) σ w := by
  subst hp
  rw [← ho] at hf
  obtain ⟨n, h⟩ := h
  refine Ev.step hd rfl ⟨n, ?_⟩
  show p_getfield ix M pc ls (.ref a :: st) σ (run n M) (cln n) = some w
  unfold p_getfield
  rw [hf]
  exact (if_pos ha).trans h
theorem e_putI {ix o c j n0 a : Nat} {v : Int32} (hd : decode (cM M) pc = .ok (.putfield ix, 3)) (ho : oM M = o) (hf : fld o ix = some (c, j, 0)) (hn : fFin c j = false ∨ (inM M = true ∧ c = oM M)) (hk : mK σ a = some (c, n0)) (hp : pc + 3 = p2) (h : Ev M p2 ls st (uI σ a j v) w) : Ev M pc ls (.int v :: .ref a :: st) σ w := by
  subst hp
  subst ho
  obtain ⟨n, h⟩ := h
  refine Ev.step hd rfl ⟨n, ?_⟩
  show p_putfield ix M pc ls (.int v :: .ref a :: st) σ (run n M) (cln n) = some w
  unfold p_putfield
  rw [hf]
  refine (if_pos hn).trans ?_
  show putF σ a (c, j, 0) (.int v) (fun σ2 => run n M (pc + 3) ls st σ2) = some w
  unfold putF
  rw [if_pos (isK_at hk)]
  exact (if_pos rfl).trans h
theorem e_putZ {ix o c j n0 a : Nat} {v : Int32} (hd : decode (cM M) pc = .ok (.putfield ix, 3)) (ho : oM M = o) (hf : fld o ix = some (c, j, 3)) (hn : fFin c j = false ∨ (inM M = true ∧ c = oM M)) (hk : mK σ a = some (c, n0)) (hz : v = 0 ∨ v = 1) (hp : pc + 3 = p2) (h : Ev M p2 ls st (uI σ a j v) w) : Ev M pc ls (.int v :: .ref a :: st) σ w := by
  subst hp
  subst ho
  obtain ⟨n, h⟩ := h
  refine Ev.step hd rfl ⟨n, ?_⟩
  show p_putfield ix M pc ls (.int v :: .ref a :: st) σ (run n M) (cln n) = some w
  unfold p_putfield
  rw [hf]
  refine (if_pos hn).trans ?_
  show putF σ a (c, j, 3) (.int v) (fun σ2 => run n M (pc + 3) ls st σ2) = some w
  unfold putF
  rw [if_pos (isK_at hk)]
  exact (if_neg (by decide : ¬ (3 : Nat) = 0)).trans ((if_pos ⟨rfl, hz⟩).trans h)
theorem e_putL {ix o c j n0 a : Nat} {v : Int64} (hd : decode (cM M) pc = .ok (.putfield ix, 3)) (ho : oM M = o) (hf : fld o ix = some (c, j, 1)) (hn : fFin c j = false ∨ (inM M = true ∧ c = oM M)) (hk : mK σ a = some (c, n0)) (hp : pc + 3 = p2) (h : Ev M p2 ls st (uL σ a j v) w) : Ev M pc ls (.long v :: .ref a :: st) σ w := by
  subst hp
  subst ho
  obtain ⟨n, h⟩ := h
  refine Ev.step hd rfl ⟨n, ?_⟩
  show p_putfield ix M pc ls (.long v :: .ref a :: st) σ (run n M) (cln n) = some w
  unfold p_putfield
  rw [hf]
  refine (if_pos hn).trans ?_
  show putF σ a (c, j, 1) (.long v) (fun σ2 => run n M (pc + 3) ls st σ2) = some w
  unfold putF
  rw [if_pos (isK_at hk)]
  exact (if_pos rfl).trans h
theorem e_putR {ix o c j n0 a : Nat} {v : Nat} (hd : decode (cM M) pc = .ok (.putfield ix, 3)) (ho : oM M = o) (hf : fld o ix = some (c, j, 2)) (hn : fFin c j = false ∨ (inM M = true ∧ c = oM M)) (hk : mK σ a = some (c, n0)) (hp : pc + 3 = p2) (h : Ev M p2 ls st (uR σ a j (some v)) w) : Ev M pc ls (.ref v :: .ref a :: st) σ w := by
  subst hp
  subst ho
  obtain ⟨n, h⟩ := h
  refine Ev.step hd rfl ⟨n, ?_⟩
  show p_putfield ix M pc ls (.ref v :: .ref a :: st) σ (run n M) (cln n) = some w
  unfold p_putfield
  rw [hf]
  refine (if_pos hn).trans ?_
  show putF σ a (c, j, 2) (.ref v) (fun σ2 => run n M (pc + 3) ls st σ2) = some w
  unfold putF
  rw [if_pos (isK_at hk)]
  exact (if_pos rfl).trans h
theorem rdI_at {a n : Nat} {i : Int32} (hk : mK σ a = some (11, n)) (hi : inb i n = true) : rdI σ a i = some (mI σ a i.toNatClampNeg) := by
  unfold rdI
  rw [hk]
  exact if_pos ⟨rfl, hi⟩
theorem rdI_s {i : Int32} (hk : mK σ 2000000 = none) (hi : inb i (mX σ).1 = true) : rdI σ 2000000 i = some ((mX σ).2 i.toNatClampNeg) := by
  unfold rdI
  rw [hk]
  exact if_pos ⟨rfl, hi⟩
theorem rdL_at {a n : Nat} {i : Int32} (hk : mK σ a = some (12, n)) (hi : inb i n = true) : rdL σ a i = some (mL σ a i.toNatClampNeg) := by
  unfold rdL
  rw [hk]
  exact if_pos ⟨rfl, hi⟩
theorem rdB_at {a n c : Nat} {i : Int32} (hk : mK σ a = some (c, n)) (hc : c = 10 ∨ c = 13) (hi : inb i n = true) : rdB σ a i = some (mI σ a i.toNatClampNeg) := by
  unfold rdB
  rw [hk]
  exact if_pos ⟨hc, hi⟩
theorem okI_at {a n c : Nat} {i : Int32} (hk : mK σ a = some (c, n)) (hi : inb i n = true) : okI σ a i c = true := by
  unfold okI
  rw [hk]
  simp [hi]
theorem alen_at {a n c : Nat} (hk : mK σ a = some (c, n)) (hc : 10 ≤ c ∧ c ≤ 13) : alen σ a = some n := by
  unfold alen
  rw [hk]
  exact if_pos hc
theorem e_iaload {a : Nat} {i : Int32} {v : Int32} (hd : decode (cM M) pc = .ok (.iaload, 1)) (hr : rdI σ a i = some v) (hp : pc + 1 = p2) (h : Ev M p2 ls (.int v :: st) σ w) : Ev M pc ls (.int i :: .ref a :: st) σ w := by
  subst hp
  obtain ⟨n, h⟩ := h
  refine Ev.step hd rfl ⟨n, ?_⟩
  show (match rdI σ a i with | some v => run n M (pc + 1) ls (.int v :: st) σ | none => none) = some w
  rw [hr]
  exact h
theorem e_baload {a : Nat} {i : Int32} {v : Int32} (hd : decode (cM M) pc = .ok (.baload, 1)) (hr : rdB σ a i = some v) (hp : pc + 1 = p2) (h : Ev M p2 ls (.int v :: st) σ w) : Ev M pc ls (.int i :: .ref a :: st) σ w := by
  subst hp
  obtain ⟨n, h⟩ := h
  refine Ev.step hd rfl ⟨n, ?_⟩
  show (match rdB σ a i with | some v => run n M (pc + 1) ls (.int v :: st) σ | none => none) = some w
  rw [hr]
  exact h
theorem e_laload {a : Nat} {i : Int32} {v : Int64} (hd : decode (cM M) pc = .ok (.laload, 1)) (hr : rdL σ a i = some v) (hp : pc + 1 = p2) (h : Ev M p2 ls (.long v :: st) σ w) : Ev M pc ls (.int i :: .ref a :: st) σ w := by
  subst hp
  obtain ⟨n, h⟩ := h
  refine Ev.step hd rfl ⟨n, ?_⟩
  show (match rdL σ a i with | some v => run n M (pc + 1) ls (.long v :: st) σ | none => none) = some w
  rw [hr]
  exact h
theorem e_alen {a m : Nat} {v : Int32} (hd : decode (cM M) pc = .ok (.arraylength, 1)) (hr : alen σ a = some m) (hv : Int32.ofNat m = v) (hp : pc + 1 = p2) (h : Ev M p2 ls (.int v :: st) σ w) : Ev M pc ls (.ref a :: st) σ w := by
  subst hp
  subst hv
  obtain ⟨n, h⟩ := h
  refine Ev.step hd rfl ⟨n, ?_⟩
  show (match alen σ a with | some m => run n M (pc + 1) ls (.int (Int32.ofNat m) :: st) σ | none => none) = some w
  rw [hr]
  exact h
theorem e_iastore {a : Nat} {i v : Int32} (hd : decode (cM M) pc = .ok (.iastore, 1)) (hk : okI σ a i 11 = true) (hp : pc + 1 = p2) (h : Ev M p2 ls st (uI σ a i.toNatClampNeg v) w) : Ev M pc ls (.int v :: .int i :: .ref a :: st) σ w := by
  subst hp
  obtain ⟨n, h⟩ := h
  exact Ev.step hd rfl ⟨n, (if_pos hk).trans h⟩
theorem e_lastore {a : Nat} {i : Int32} {v : Int64} (hd : decode (cM M) pc = .ok (.lastore, 1)) (hk : okI σ a i 12 = true) (hp : pc + 1 = p2) (h : Ev M p2 ls st (uL σ a i.toNatClampNeg v) w) : Ev M pc ls (.long v :: .int i :: .ref a :: st) σ w := by
  subst hp
  obtain ⟨n, h⟩ := h
  exact Ev.step hd rfl ⟨n, (if_pos hk).trans h⟩
theorem e_bastoreB {a : Nat} {i v : Int32} (hd : decode (cM M) pc = .ok (.bastore, 1)) (hk : okI σ a i 10 = true) (hp : pc + 1 = p2) (h : Ev M p2 ls st (uI σ a i.toNatClampNeg v.toInt8.toInt32) w) : Ev M pc ls (.int v :: .int i :: .ref a :: st) σ w := by
  subst hp
  obtain ⟨n, h⟩ := h
  exact Ev.step hd rfl ⟨n, (if_pos hk).trans h⟩
theorem e_bastoreZ {a : Nat} {i v : Int32} (hd : decode (cM M) pc = .ok (.bastore, 1)) (hn : okI σ a i 10 = false) (hk : okI σ a i 13 = true) (hp : pc + 1 = p2) (h : Ev M p2 ls st (uI σ a i.toNatClampNeg (v &&& 1)) w) : Ev M pc ls (.int v :: .int i :: .ref a :: st) σ w := by
  subst hp
  obtain ⟨n, h⟩ := h
  exact Ev.step hd rfl ⟨n, (if_neg (by rw [hn]; decide)).trans ((if_pos hk).trans h)⟩
theorem e_new {ix o c s : Nat} (hd : decode (cM M) pc = .ok (.new ix, 3)) (ho : oM M = o) (hc : newT o ix = some (c, s)) (hu : (mU σ).1 = (mKs σ).length ∧ (mU σ).1 < 1000000) (hp : pc + 3 = p2) (h : Ev M p2 ls (.ref (mKs σ).length :: st) (nw σ c s) w) : Ev M pc ls (st) σ w := by
  subst hp
  subst ho
  obtain ⟨n, h⟩ := h
  refine Ev.step hd rfl ⟨n, ?_⟩
  show p_new ix M pc ls st σ (run n M) (cln n) = some w
  unfold p_new
  rw [hc]
  exact (if_pos hu).trans h
theorem e_newarray {t : ArrayType} {c : Nat} {x : Int32} (hd : decode (cM M) pc = .ok (.newarray t, 2)) (hc : arT t = some c) (hu : 0 ≤ x ∧ x.toNatClampNeg ≤ 5000 ∧ (mU σ).1 = (mKs σ).length ∧ (mU σ).1 < 1000000) (hp : pc + 2 = p2) (h : Ev M p2 ls (.ref (mKs σ).length :: st) (nw σ c x.toNatClampNeg) w) : Ev M pc ls (.int x :: st) σ w := by
  subst hp
  obtain ⟨n, h⟩ := h
  refine Ev.step hd rfl ⟨n, ?_⟩
  show (match arT t with | some c => if 0 ≤ x ∧ x.toNatClampNeg ≤ 5000 ∧ (mU σ).1 = (mKs σ).length ∧ (mU σ).1 < 1000000 then run n M (pc + 2) ls (.ref (mKs σ).length :: st) (nw σ c x.toNatClampNeg) else none | none => none) = some w
  rw [hc]
  exact (if_pos hu).trans h
theorem e_vcall {ix j n a : Nat} {as : List Value} {w1 : Option Value × Mm} (hd : decode (cM M) pc = .ok (.invokevirtual ix, 3)) (hc : callT (oM M) ix = some (0, j, n) ∧ fok M j = true ∧ stM j = false) (hpop : popN n st [] = some (as, .ref a :: r)) (hr : r.length ≤ 4 ∧ ls.length = xM M) (hp : pc + 3 = p2) (hcl : Cl j (.ref a :: as) σ w1) (h : Ev M p2 ls (w1.1.toList ++ r) w1.2 w) : Ev M pc ls st σ w := by
  subst hp
  obtain ⟨n1, h1⟩ := cl_at hcl
  obtain ⟨n2, h2⟩ := h
  refine Ev.step hd rfl ⟨max n1 n2, ?_⟩
  show p_invokevirtual ix M pc ls st σ (run (max n1 n2) M) (cln (max n1 n2)) = some w
  unfold p_invokevirtual
  rw [hc.1]
  refine (if_pos ⟨rfl, hc.2⟩).trans ?_
  show p_vcall j n M pc ls st σ (run (max n1 n2) M) (cln (max n1 n2)) = some w
  unfold p_vcall
  rw [hpop]
  refine (if_pos hr).trans ?_
  rw [h1 _ (Nat.le_max_left n1 n2)]
  exact run_mono h2 (Nat.le_max_right n1 n2)
theorem e_scall {ix j n : Nat} {as : List Value} {w1 : Option Value × Mm} (hd : decode (cM M) pc = .ok (.invokestatic ix, 3)) (hc : callT (oM M) ix = some (1, j, n) ∧ fok M j = true ∧ stM j = true) (hpop : popN n st [] = some (as, r)) (hr : r.length ≤ 4 ∧ ls.length = xM M) (hp : pc + 3 = p2) (hcl : Cl j as σ w1) (h : Ev M p2 ls (w1.1.toList ++ r) w1.2 w) : Ev M pc ls st σ w := by
  subst hp
  obtain ⟨n1, h1⟩ := cl_at hcl
  obtain ⟨n2, h2⟩ := h
  refine Ev.step hd rfl ⟨max n1 n2, ?_⟩
  show p_invokestatic ix M pc ls st σ (run (max n1 n2) M) (cln (max n1 n2)) = some w
  unfold p_invokestatic
  rw [hc.1]
  refine (if_pos ⟨rfl, hc.2⟩).trans ?_
  show p_scall j n M pc ls st σ (run (max n1 n2) M) (cln (max n1 n2)) = some w
  unfold p_scall
  rw [hpop]
  refine (if_pos hr).trans ?_
  rw [h1 _ (Nat.le_max_left n1 n2)]
  exact run_mono h2 (Nat.le_max_right n1 n2)
theorem e_icall {ix kd j n a : Nat} {as : List Value} {σ1 : Mm} (hd : decode (cM M) pc = .ok (.invokespecial ix, 3)) (hc : callT (oM M) ix = some (kd, j, n) ∧ fok M j = true ∧ stM j = false) (hkd : kd = 2 ∨ kd = 3) (hpop : popN n st [] = some (as, .ref a :: r)) (hr : r.length ≤ 4 ∧ ls.length = xM M) (hp : pc + 3 = p2) (hcl : Cl j (.ref a :: as) σ (none, σ1)) (h : Ev M p2 ls r σ1 w) : Ev M pc ls st σ w := by
  subst hp
  obtain ⟨n1, h1⟩ := cl_at hcl
  obtain ⟨n2, h2⟩ := h
  refine Ev.step hd rfl ⟨max n1 n2, ?_⟩
  show p_invokespecial ix M pc ls st σ (run (max n1 n2) M) (cln (max n1 n2)) = some w
  unfold p_invokespecial
  rw [hc.1]
  refine (if_pos ⟨hkd, hc.2⟩).trans ?_
  show p_icall j n M pc ls st σ (run (max n1 n2) M) (cln (max n1 n2)) = some w
  unfold p_icall
  rw [hpop]
  refine (if_pos hr).trans ?_
  rw [h1 _ (Nat.le_max_left n1 n2)]
  exact run_mono h2 (Nat.le_max_right n1 n2)
theorem e_obj {ix j n a : Nat} (hd : decode (cM M) pc = .ok (.invokespecial ix, 3)) (hc : callT (oM M) ix = some (4, j, n)) (hf : 1 ≤ frM M ∧ 20 ≤ loM M) (hr : r.length ≤ 4 ∧ ls.length = xM M) (hp : pc + 3 = p2) (h : Ev M p2 ls r σ w) : Ev M pc ls (.ref a :: r) σ w := by
  subst hp
  obtain ⟨n2, h2⟩ := h
  refine Ev.step hd rfl ⟨n2, ?_⟩
  show p_invokespecial ix M pc ls (.ref a :: r) σ (run n2 M) (cln n2) = some w
  unfold p_invokespecial
  rw [hc]
  refine (if_neg (by rintro ⟨z | z, -⟩ <;> cases z)).trans ?_
  refine (if_pos ⟨rfl, hf⟩).trans ?_
  exact (if_pos hr).trans h2
theorem e_copy {ix j n0 a b na nb : Nat} {n dp sp : Int32} (hd : decode (cM M) pc = .ok (.invokestatic ix, 3)) (hc : callT (oM M) ix = some (5, j, n0)) (hf : 1 ≤ frM M ∧ 60 ≤ loM M) (hr : r.length ≤ 4 ∧ ls.length = xM M) (ha : mK σ a = some (11, na)) (hb : mK σ b = some (11, nb)) (hi : 0 ≤ sp ∧ 0 ≤ dp ∧ 0 ≤ n ∧ sp.toNatClampNeg + n.toNatClampNeg ≤ nb ∧ dp.toNatClampNeg + n.toNatClampNeg ≤ na) (hp : pc + 3 = p2) (h : Ev M p2 ls r (uW σ a (va_cpy (mI σ b) (mI σ a) sp.toNatClampNeg dp.toNatClampNeg n.toNatClampNeg)) w) : Ev M pc ls (.int n :: .int dp :: .ref a :: .int sp :: .ref b :: r) σ w := by
  subst hp
  obtain ⟨n2, h2⟩ := h
  refine Ev.step hd rfl ⟨n2, ?_⟩
  show p_invokestatic ix M pc ls (.int n :: .int dp :: .ref a :: .int sp :: .ref b :: r) σ (run n2 M) (cln n2) = some w
  unfold p_invokestatic
  rw [hc]
  refine (if_neg (by rintro ⟨z, -⟩; cases z)).trans ?_
  refine (if_pos ⟨rfl, hf⟩).trans ?_
  refine (if_pos hr).trans ?_
  rw [ha, hb]
  exact (if_pos ⟨rfl, rfl, hi⟩).trans h2
theorem e_chk {ix j n0 : Nat} {x y : Int32} (hd : decode (cM M) pc = .ok (.invokestatic ix, 3)) (hc : callT (oM M) ix = some (6, j, n0)) (hf : 4 ≤ frM M ∧ 120 ≤ loM M) (hr : r.length ≤ 4 ∧ ls.length = xM M) (hi : 0 ≤ x ∧ x < y) (hp : pc + 3 = p2) (h : Ev M p2 ls r σ w) : Ev M pc ls (.int y :: .int x :: r) σ w := by
  subst hp
  obtain ⟨n2, h2⟩ := h
  refine Ev.step hd rfl ⟨n2, ?_⟩
  show p_invokestatic ix M pc ls (.int y :: .int x :: r) σ (run n2 M) (cln n2) = some w
  unfold p_invokestatic
  rw [hc]
  refine (if_neg (by rintro ⟨z, -⟩; cases z)).trans ?_
  refine (if_neg (by rintro ⟨z, -⟩; cases z)).trans ?_
  refine (if_pos ⟨rfl, hf⟩).trans ?_
  exact (if_pos ⟨hr, hi⟩).trans h2
theorem e_iret {x : Int32} (hd : decode (cM M) pc = .ok (.ireturn, 1)) (hr : rM M = some .int) : Ev M pc ls [.int x] σ (some (.int x), σ) := by
  refine Ev.step hd rfl ⟨0, ?_⟩
  show p_ireturn M pc ls [.int x] σ (run 0 M) (cln 0) = _
  unfold p_ireturn
  rw [hr]
theorem e_zret {x : Int32} (hd : decode (cM M) pc = .ok (.ireturn, 1)) (hr : rM M = some .boolean) (hx : x = 0 ∨ x = 1) : Ev M pc ls [.int x] σ (some (.int x), σ) := by
  refine Ev.step hd rfl ⟨0, ?_⟩
  show p_ireturn M pc ls [.int x] σ (run 0 M) (cln 0) = _
  unfold p_ireturn
  rw [hr]
  exact if_pos hx
theorem e_cret {x : Int32} (hd : decode (cM M) pc = .ok (.ireturn, 1)) (hr : rM M = some .char) (hx : (x.toUInt32 % 65536).toInt32 = x) : Ev M pc ls [.int x] σ (some (.int x), σ) := by
  refine Ev.step hd rfl ⟨0, ?_⟩
  show p_ireturn M pc ls [.int x] σ (run 0 M) (cln 0) = _
  unfold p_ireturn
  rw [hr]
  exact if_pos hx
theorem e_bret {x : Int32} (hd : decode (cM M) pc = .ok (.ireturn, 1)) (hr : rM M = some .byte) (hx : x.toInt8.toInt32 = x) : Ev M pc ls [.int x] σ (some (.int x), σ) := by
  refine Ev.step hd rfl ⟨0, ?_⟩
  show p_ireturn M pc ls [.int x] σ (run 0 M) (cln 0) = _
  unfold p_ireturn
  rw [hr]
  exact if_pos hx
theorem e_lret {x : Int64} (hd : decode (cM M) pc = .ok (.lreturn, 1)) (hr : rM M = some .long) : Ev M pc ls [.long x] σ (some (.long x), σ) := Ev.step hd rfl ⟨0, if_pos hr⟩
theorem e_aret {x : Nat} {c : String} (hd : decode (cM M) pc = .ok (.areturn, 1)) (hr : rM M = some (.object c)) : Ev M pc ls [.ref x] σ (some (.ref x), σ) := by
  refine Ev.step hd rfl ⟨0, ?_⟩
  show p_areturn M pc ls [.ref x] σ (run 0 M) (cln 0) = _
  unfold p_areturn
  rw [hr]
theorem e_vret (hd : decode (cM M) pc = .ok (.return_, 1)) (hr : rM M = none) : Ev M pc ls [] σ (none, σ) := Ev.step hd rfl ⟨0, if_pos hr⟩
end Steps
