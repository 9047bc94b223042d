/-! fields, constants, makings -/
def tcod (ty : FieldType) : Nat := match ty with
  | .int => 0
  | .long => 1
  | .object _ => 2
  | .array _ => 2
  | .boolean => 3
  | _ => 9
def tyC (c : Nat) : Nat → FieldType := match c with
  | 0 => tyX0
  | 1 => tyX1
  | 2 => tyX2
  | 3 => tyX3
  | 4 => tyX4
  | 5 => tyX5
  | 6 => tyX6
  | 7 => tyX7
  | 8 => tyX8
  | _ => tyX9
def clC (c : Nat) : vw_C := vwCl.getD c ("", TX0, 0)
def ckF (o : Nat) (e : Nat × Nat × Nat × Nat × Nat) : Bool := match e with
  | (ix, ci, k, ty, fl) => decide (fld o ix = some (ci, k, ty)) && (if ci = 20 then decide (o = 13) && (if k = 0 then hasW fl (.fieldLink (Rn o) ix "java/lang/String" "value" "[B") else hasW fl (.fieldLink (Rn o) ix "java/lang/String" "coder" "B")) else decide (ci < 10) && decide (k < nF ci) && decide (fTy ci k = ty) && hasW fl (.fieldLink (Rn o) ix (Rn ci) ((clC ci).2.1 k).2.1 ((clC ci).2.1 k).2.2.1))
def inF (o : Nat) (q : Nat × Nat × Nat × Nat) : Bool := (hF.getD o []).any fun e => decide (e.1 = q.1) && decide (e.2.1 = q.2.1) && decide (e.2.2.1 = q.2.2.1) && decide (e.2.2.2.1 = q.2.2.2)
def ckI (o : Nat) (e : Nat × Int32 × Nat) : Bool := hasW e.2.2 (.constant (Rn o) e.1 e.2.1)
def inI (o : Nat) (q : Nat × Int32) : Bool := (hI.getD o []).any fun e => decide (e.1 = q.1) && decide (e.2.1 = q.2)
def ckL (o : Nat) (e : Nat × Int64 × Nat) : Bool := hasW e.2.2 (.constantLong (Rn o) e.1 e.2.1)
def inL (o : Nat) (q : Nat × Int64) : Bool := (hL.getD o []).any fun e => decide (e.1 = q.1) && decide (e.2.1 = q.2)
def ckN (o : Nat) (e : Nat × Nat × Nat × Nat × Nat × Nat) : Bool := match e with
  | (ix, ci, n, cl, ins, ini) => decide (ci < 10) && decide (n = nF ci) && hasW cl (.classLink (Rn o) ix (Rn ci)) && hasW ins (.instantiable (Rn ci) n) && hasW ini (.initialized (Rn ci))
def inN (o : Nat) (q : Nat × Nat × Nat) : Bool := (hN.getD o []).any fun e => decide (e.1 = q.1) && decide (e.2.1 = q.2.1) && decide (e.2.2.1 = q.2.2)
def ckA (o : Nat) : Bool := (hF.getD o []).all (ckF o) && (fldT.getD o []).all (inF o) && (hI.getD o []).all (ckI o) && (cstIT.getD o []).all (inI o) && (hL.getD o []).all (ckL o) && (cstLT.getD o []).all (inL o) && (hN.getD o []).all (ckN o) && (newTT.getD o []).all (inN o)
theorem ckA_0 : ckA 0 = true := by decide +kernel
theorem ckA_1 : ckA 1 = true := by decide +kernel
theorem ckA_2 : ckA 2 = true := by decide +kernel
theorem ckA_3 : ckA 3 = true := by decide +kernel
theorem ckA_4 : ckA 4 = true := by decide +kernel
theorem ckA_5 : ckA 5 = true := by decide +kernel
theorem ckA_6 : ckA 6 = true := by decide +kernel
theorem ckA_7 : ckA 7 = true := by decide +kernel
theorem ckA_8 : ckA 8 = true := by decide +kernel
theorem ckA_9 : ckA 9 = true := by decide +kernel
theorem ckA_10 : ckA 10 = true := by decide +kernel
theorem ckA_11 : ckA 11 = true := by decide +kernel
theorem ckA_12 : ckA 12 = true := by decide +kernel
theorem ckA_13 : ckA 13 = true := by decide +kernel
theorem ckA_14 : ckA 14 = true := by decide +kernel
def ckK (c : Nat) : Bool := decide ((clC c).1 = Rn c) && decide ((clC c).2.2 = nF c) && (List.range (nF c)).all (fun k => decide (((clC c).2.1 k).1 = Rn c) && decide (tcod (tyC c k) = fTy c k) && decide (((clC c).2.1 k).2.2.2 = fFin c k) && decide (parseFieldDescriptor ((clC c).2.1 k).2.2.1 = some (tyC c k)))
theorem ckK_0 : ckK 0 = true := by decide +kernel
theorem iX0 : ∀ w ∈ u_ws (clC 0).1 (clC 0).2.1 (clC 0).2.2, w ∈ lw_tbl := by decide +kernel
theorem nnX0 : ∀ a, a < (clC 0).2.2 → ∀ b, b < (clC 0).2.2 → a ≠ b → ((clC 0).2.1 a).2.1 ≠ ((clC 0).2.1 b).2.1 := nmX0
theorem ckK_1 : ckK 1 = true := by decide +kernel
theorem iX1 : ∀ w ∈ u_ws (clC 1).1 (clC 1).2.1 (clC 1).2.2, w ∈ lw_tbl := by decide +kernel
theorem nnX1 : ∀ a, a < (clC 1).2.2 → ∀ b, b < (clC 1).2.2 → a ≠ b → ((clC 1).2.1 a).2.1 ≠ ((clC 1).2.1 b).2.1 := nmX1
theorem ckK_2 : ckK 2 = true := by decide +kernel
theorem iX2 : ∀ w ∈ u_ws (clC 2).1 (clC 2).2.1 (clC 2).2.2, w ∈ lw_tbl := by decide +kernel
theorem nnX2 : ∀ a, a < (clC 2).2.2 → ∀ b, b < (clC 2).2.2 → a ≠ b → ((clC 2).2.1 a).2.1 ≠ ((clC 2).2.1 b).2.1 := nmX2
theorem ckK_3 : ckK 3 = true := by decide +kernel
theorem iX3 : ∀ w ∈ u_ws (clC 3).1 (clC 3).2.1 (clC 3).2.2, w ∈ lw_tbl := by decide +kernel
theorem nnX3 : ∀ a, a < (clC 3).2.2 → ∀ b, b < (clC 3).2.2 → a ≠ b → ((clC 3).2.1 a).2.1 ≠ ((clC 3).2.1 b).2.1 := nmX3
theorem ckK_4 : ckK 4 = true := by decide +kernel
theorem iX4 : ∀ w ∈ u_ws (clC 4).1 (clC 4).2.1 (clC 4).2.2, w ∈ lw_tbl := by decide +kernel
theorem nnX4 : ∀ a, a < (clC 4).2.2 → ∀ b, b < (clC 4).2.2 → a ≠ b → ((clC 4).2.1 a).2.1 ≠ ((clC 4).2.1 b).2.1 := nmX4
theorem ckK_5 : ckK 5 = true := by decide +kernel
theorem iX5 : ∀ w ∈ u_ws (clC 5).1 (clC 5).2.1 (clC 5).2.2, w ∈ lw_tbl := by decide +kernel
theorem nnX5 : ∀ a, a < (clC 5).2.2 → ∀ b, b < (clC 5).2.2 → a ≠ b → ((clC 5).2.1 a).2.1 ≠ ((clC 5).2.1 b).2.1 := nmX5
theorem ckK_6 : ckK 6 = true := by decide +kernel
theorem iX6 : ∀ w ∈ u_ws (clC 6).1 (clC 6).2.1 (clC 6).2.2, w ∈ lw_tbl := by decide +kernel
theorem nnX6 : ∀ a, a < (clC 6).2.2 → ∀ b, b < (clC 6).2.2 → a ≠ b → ((clC 6).2.1 a).2.1 ≠ ((clC 6).2.1 b).2.1 := nmX6
theorem ckK_7 : ckK 7 = true := by decide +kernel
theorem iX7 : ∀ w ∈ u_ws (clC 7).1 (clC 7).2.1 (clC 7).2.2, w ∈ lw_tbl := by decide +kernel
theorem nnX7 : ∀ a, a < (clC 7).2.2 → ∀ b, b < (clC 7).2.2 → a ≠ b → ((clC 7).2.1 a).2.1 ≠ ((clC 7).2.1 b).2.1 := nmX7
theorem ckK_8 : ckK 8 = true := by decide +kernel
theorem iX8 : ∀ w ∈ u_ws (clC 8).1 (clC 8).2.1 (clC 8).2.2, w ∈ lw_tbl := by decide +kernel
theorem nnX8 : ∀ a, a < (clC 8).2.2 → ∀ b, b < (clC 8).2.2 → a ≠ b → ((clC 8).2.1 a).2.1 ≠ ((clC 8).2.1 b).2.1 := nmX8
theorem ckK_9 : ckK 9 = true := by decide +kernel
theorem iX9 : ∀ w ∈ u_ws (clC 9).1 (clC 9).2.1 (clC 9).2.2, w ∈ lw_tbl := by decide +kernel
theorem nnX9 : ∀ a, a < (clC 9).2.2 → ∀ b, b < (clC 9).2.2 → a ≠ b → ((clC 9).2.1 a).2.1 ≠ ((clC 9).2.1 b).2.1 := nmX9
