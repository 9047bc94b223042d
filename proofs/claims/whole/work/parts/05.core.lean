/-! ===== a small machine over a flat memory: values, memory ===== -/
/-- memory: whole numbers, longs, references by cell and slot; the cells' kinds and sizes; cells and slots made; the script -/
abbrev Mm : Type := (Nat → Nat → Int32) × (Nat → Nat → Int64) × (Nat → Nat → Option Nat) × List (Nat × Nat) × (Nat × Nat × Nat) × Nat × (Nat → Int32)
abbrev Rs : Type := Option (Option Value × Mm)
def mI (σ : Mm) (a j : Nat) : Int32 := σ.1 a j
def mL (σ : Mm) (a j : Nat) : Int64 := σ.2.1 a j
def mR (σ : Mm) (a j : Nat) : Option Nat := σ.2.2.1 a j
def mKs (σ : Mm) : List (Nat × Nat) := σ.2.2.2.1
def mK (σ : Mm) (a : Nat) : Option (Nat × Nat) := (mKs σ)[a]?
/-- cells, slots, lost cells -/
def mU (σ : Mm) : Nat × Nat × Nat := σ.2.2.2.2.1
def mX (σ : Mm) : Nat × (Nat → Int32) := σ.2.2.2.2.2
def u2 {α : Type} (f : Nat → Nat → α) (a j : Nat) (v : α) : Nat → Nat → α := fun b k => if b = a then (if k = j then v else f b k) else f b k
def u1 {α : Type} (f : Nat → Nat → α) (a : Nat) (v : Nat → α) : Nat → Nat → α := fun b => if b = a then v else f b
def uI (σ : Mm) (a j : Nat) (v : Int32) : Mm := (u2 σ.1 a j v, σ.2)
def uL (σ : Mm) (a j : Nat) (v : Int64) : Mm := (σ.1, u2 σ.2.1 a j v, σ.2.2)
def uR (σ : Mm) (a j : Nat) (v : Option Nat) : Mm := (σ.1, σ.2.1, u2 σ.2.2.1 a j v, σ.2.2.2)
/-- a whole row of whole numbers -/
def uW (σ : Mm) (a : Nat) (f : Nat → Int32) : Mm := (u1 σ.1 a f, σ.2)
/-- a new cell -/
def nw (σ : Mm) (kd sz : Nat) : Mm := (u1 σ.1 (mKs σ).length (fun _ => 0), u1 σ.2.1 (mKs σ).length (fun _ => 0), u1 σ.2.2.1 (mKs σ).length (fun _ => none), mKs σ ++ [(kd, sz)], ((mU σ).1 + 1, (mU σ).2.1 + sz, (mU σ).2.2), mX σ)
def rv (r : Option Nat) : Value := match r with
  | none => .null
  | some a => .ref a
def b2 (b : Bool) : Int32 := if b then 1 else 0
/-- a local: of a long only where its second half still stands -/
def loc (ls : List Value) (k : Nat) : Option Value := match ls[k]? with
  | some (.int x) => some (.int x)
  | some (.ref a) => some (.ref a)
  | some .null => some .null
  | some (.long x) => (match ls[k + 1]? with
    | some (.float _) => some (.long x)
    | _ => none)
  | _ => none
def lsO : List Value → List Value
  | [] => []
  | .long x :: r => .long x :: .float 0 :: lsO r
  | v :: r => v :: lsO r
def padL : Nat → List Value → List Value
  | 0, l => l
  | n + 1, [] => .retAddr 0 :: padL n []
  | n + 1, v :: l => v :: padL n l
def popN : Nat → List Value → List Value → Option (List Value × List Value)
  | 0, st, acc => some (acc, st)
  | n + 1, v :: st, acc => popN n st (v :: acc)
  | _ + 1, [], _ => none
def inb (x : Int32) (n : Nat) : Bool := !(decide (x < 0)) && decide (x.toNatClampNeg < n)
/-! stack shapes -/
def s_i (st : List Value) (f : Int32 → List Value → Rs) : Rs := match st with
  | .int x :: r => f x r
  | _ => none
def s_ii (st : List Value) (f : Int32 → Int32 → List Value → Rs) : Rs := match st with
  | .int y :: .int x :: r => f x y r
  | _ => none
def s_l (st : List Value) (f : Int64 → List Value → Rs) : Rs := match st with
  | .long x :: r => f x r
  | _ => none
def s_ll (st : List Value) (f : Int64 → Int64 → List Value → Rs) : Rs := match st with
  | .long y :: .long x :: r => f x y r
  | _ => none
def s_r (st : List Value) (f : Nat → List Value → Rs) : Rs := match st with
  | .ref a :: r => f a r
  | _ => none
def s_ri (st : List Value) (f : Nat → Int32 → List Value → Rs) : Rs := match st with
  | .int x :: .ref a :: r => f a x r
  | _ => none
def s_rl (st : List Value) (f : Nat → Int64 → List Value → Rs) : Rs := match st with
  | .long x :: .ref a :: r => f a x r
  | _ => none
def s_rii (st : List Value) (f : Nat → Int32 → Int32 → List Value → Rs) : Rs := match st with
  | .int x :: .int i :: .ref a :: r => f a i x r
  | _ => none
def s_ril (st : List Value) (f : Nat → Int32 → Int64 → List Value → Rs) : Rs := match st with
  | .long x :: .int i :: .ref a :: r => f a i x r
  | _ => none
def s_rr (st : List Value) (f : Nat → Nat → List Value → Rs) : Rs := match st with
  | .ref b :: .ref a :: r => f a b r
  | _ => none
def brT (pc : Nat) (off : Int) : Nat := ((pc : Int) + off).toNat
def brO (pc : Nat) (off : Int) : Bool := decide (0 ≤ (pc : Int) + off)
def cmp2 (c : ClassFile.Cond) (x y : Int32) : Bool := match c with
  | .eq => decide (x = y)
  | .ne => decide (x ≠ y)
  | .lt => decide (x < y)
  | .ge => decide (y ≤ x)
  | .gt => decide (y < x)
  | .le => decide (x ≤ y)
def jmp (pc : Nat) (off : Int) (k : Nat → Rs) : Rs := if 0 ≤ (pc : Int) + off then k ((pc : Int) + off).toNat else none
def swT (lo hi dflt : Int) (offs : Array Int) (x : Int32) : Option Int := if x.toInt < lo ∨ hi < x.toInt then some dflt else offs[(x.toInt - lo).toNat]?
/-- the kind of a cell, where it is one of kind c -/
def isK (σ : Mm) (a c : Nat) : Bool := match mK σ a with
  | some q => q.1 == c
  | none => false
def alen (σ : Mm) (a : Nat) : Option Nat := match mK σ a with
  | some q => if 10 ≤ q.1 ∧ q.1 ≤ 13 then some q.2 else none
  | none => if a = 2000000 then some (mX σ).1 else if a = 1000010 then some 126 else if a = 1000011 then some 10 else none
def rdI (σ : Mm) (a : Nat) (i : Int32) : Option Int32 := match mK σ a with
  | some q => if q.1 = 11 ∧ inb i q.2 = true then some (mI σ a i.toNatClampNeg) else none
  | none => if a = 2000000 ∧ inb i (mX σ).1 = true then some ((mX σ).2 i.toNatClampNeg) else none
def rdB (σ : Mm) (a : Nat) (i : Int32) : Option Int32 := match mK σ a with
  | some q => if (q.1 = 10 ∨ q.1 = 13) ∧ inb i q.2 = true then some (mI σ a i.toNatClampNeg) else none
  | none => if a = 1000010 ∧ inb i 126 = true then some (sbyt 0 i.toNatClampNeg) else if a = 1000011 ∧ inb i 10 = true then some (sbyt 1 i.toNatClampNeg) else none
def rdL (σ : Mm) (a : Nat) (i : Int32) : Option Int64 := match mK σ a with
  | some q => if q.1 = 12 ∧ inb i q.2 = true then some (mL σ a i.toNatClampNeg) else none
  | none => none
def okI (σ : Mm) (a : Nat) (i : Int32) (kd : Nat) : Bool := match mK σ a with
  | some q => q.1 == kd && inb i q.2
  | none => false
def okv (v : Value) : Bool := match v with
  | .int _ => true
  | .long _ => true
  | .ref _ => true
  | .null => true
  | _ => false
def okr (j : Nat) (as : List Value) (σ : Mm) : Bool := decide ((lsO as).length ≤ xM j) && as.all okv && (if stM j then true else match as with
  | .ref a :: _ => if oM j = 13 then a == 1000000 || a == 1000001 else isK σ a (oM j)
  | _ => false)
def fok (M j : Nat) : Bool := decide (frM j + 1 ≤ frM M) && decide (19 + xM j + loM j ≤ loM M) && decide (j ≠ 273)
def cat1 (v : Value) : Bool := match v with
  | .int _ => true
  | .ref _ => true
  | .null => true
  | _ => false
def getF (σ : Mm) (a : Nat) (f : Nat × Nat × Nat) (k : Value → Rs) : Rs :=
  if f.1 = 20 then (if a = 1000000 ∨ a = 1000001 then (if f.2.1 = 0 then k (.ref (a + 10)) else k (.int 0)) else none)
  else if isK σ a f.1 then (if f.2.2 = 1 then k (.long (mL σ a f.2.1)) else if f.2.2 = 2 then k (rv (mR σ a f.2.1)) else k (.int (mI σ a f.2.1))) else none
def putF (σ : Mm) (a : Nat) (f : Nat × Nat × Nat) (v : Value) (k : Mm → Rs) : Rs :=
  if isK σ a f.1 then (match v with
    | .int x => if f.2.2 = 0 then k (uI σ a f.2.1 x) else if f.2.2 = 3 ∧ (x = 0 ∨ x = 1) then k (uI σ a f.2.1 x) else none
    | .long x => if f.2.2 = 1 then k (uL σ a f.2.1 x) else none
    | .ref b => if f.2.2 = 2 then k (uR σ a f.2.1 (some b)) else none
    | _ => none) else none
/-- cells that nobody reaches any more: what a thrown exception leaves -/
def lost (σ : Mm) (n : Nat) : Mm := (σ.1, σ.2.1, σ.2.2.1, mKs σ, ((mU σ).1 + 1, (mU σ).2.1 + n, (mU σ).2.2 + 1), mX σ)
/-- the law's own lamp(x, p0, p1, out): what it answers, what out holds then -/
def lampP (a : Nat) (x y : Int32) (o : Nat) (σ : Mm) (call : Nat → List Value → Mm → Rs) : Option (Int32 × Mm) := if isK σ a 8 = true ∧ okI σ o 0 12 = true then (match call mX8_isLamp [.ref a, .int x] σ with
  | some (some (.int b), σ1) => if b = 0 then some (1, lost σ1 6) else (match mR σ1 a 2 with
    | some h => if (isK σ1 a 8 = true ∧ okI σ1 o 0 12 = true) ∧ isK σ1 h 2 = true then (
      if y = 0 then some (0, uL σ1 o 0 ((mI σ1 h 1 >>> (x &&& 31)) &&& 1).toInt64)
      else if y = 1 then some (0, uL σ1 o 0 ((mI σ1 h 2 >>> (x &&& 31)) &&& 1).toInt64)
      else if y = 2 then (match mR σ1 h 7 with
        | some g => (match rdI σ1 g x with
          | some v => some (0, uL σ1 o 0 v.toInt64)
          | none => none)
        | none => none)
      else if y = 3 then (match call mX2_pullsTiedTo [.ref h, .int x] σ1 with
        | some (some (.int v), σ2) => if okI σ2 o 0 12 = true then some (0, uL σ2 o 0 v.toInt64) else none
        | _ => none)
      else some (2, lost σ1 6)) else none
    | none => none)
  | _ => none) else none
def p_dup  (M pc : Nat) (ls st : List Value) (σ : Mm) (k : Nat → List Value → List Value → Mm → Rs) (call : Nat → List Value → Mm → Rs) : Rs := match st with
    | v :: r => if cat1 v then k (pc + 1) ls (v :: v :: r) σ else none
    | _ => none
def p_dup2  (M pc : Nat) (ls st : List Value) (σ : Mm) (k : Nat → List Value → List Value → Mm → Rs) (call : Nat → List Value → Mm → Rs) : Rs := match st with
    | v :: w :: r => if cat1 v && cat1 w then k (pc + 1) ls (v :: w :: v :: w :: r) σ else none
    | _ => none
def p_pop  (M pc : Nat) (ls st : List Value) (σ : Mm) (k : Nat → List Value → List Value → Mm → Rs) (call : Nat → List Value → Mm → Rs) : Rs := match st with
    | v :: r => if cat1 v then k (pc + 1) ls r σ else none
    | _ => none
def p_tableswitch (d lo hi : Int) (offs : Array Int) (M pc : Nat) (ls st : List Value) (σ : Mm) (k : Nat → List Value → List Value → Mm → Rs) (call : Nat → List Value → Mm → Rs) : Rs := s_i st fun x r => match swT lo hi d offs x with
    | some off => jmp pc off (fun t => k t ls r σ)
    | none => none
def p_lookupswitch (d : Int) (ps : Array (Int × Int)) (M pc : Nat) (ls st : List Value) (σ : Mm) (k : Nat → List Value → List Value → Mm → Rs) (call : Nat → List Value → Mm → Rs) : Rs := s_i st fun x r => if (ps.toList.zip (ps.toList.drop 1)).all (fun (a, next) => a.1 < next.1) = true then jmp pc (Op.lookupswitch.offset ps.toList d x.toInt) (fun t => k t ls r σ) else none
def p_ldc (idx : Nat) (M pc : Nat) (ls st : List Value) (σ : Mm) (k : Nat → List Value → List Value → Mm → Rs) (call : Nat → List Value → Mm → Rs) : Rs := match cstI (oM M) idx with
    | some v => k (pc + 2) ls (.int v :: st) σ
    | none => match cstS (oM M) idx with
      | some a => k (pc + 2) ls (.ref a :: st) σ
      | none => none
def p_ldc_w (idx : Nat) (M pc : Nat) (ls st : List Value) (σ : Mm) (k : Nat → List Value → List Value → Mm → Rs) (call : Nat → List Value → Mm → Rs) : Rs := match cstI (oM M) idx with
    | some v => k (pc + 3) ls (.int v :: st) σ
    | none => none
def p_ldc2_w (idx : Nat) (M pc : Nat) (ls st : List Value) (σ : Mm) (k : Nat → List Value → List Value → Mm → Rs) (call : Nat → List Value → Mm → Rs) : Rs := match cstL (oM M) idx with
    | some v => k (pc + 3) ls (.long v :: st) σ
    | none => none
def p_getstatic (idx : Nat) (M pc : Nat) (ls st : List Value) (σ : Mm) (k : Nat → List Value → List Value → Mm → Rs) (call : Nat → List Value → Mm → Rs) : Rs := if oM M = 13 ∧ idx = stIdx then k (pc + 3) ls (.int 1 :: st) σ else none
def p_getfield (idx : Nat) (M pc : Nat) (ls st : List Value) (σ : Mm) (k : Nat → List Value → List Value → Mm → Rs) (call : Nat → List Value → Mm → Rs) : Rs := match fld (oM M) idx with
    | some f => s_r st fun a r => getF σ a f (fun v => k (pc + 3) ls (v :: r) σ)
    | none => none
def p_putfield (idx : Nat) (M pc : Nat) (ls st : List Value) (σ : Mm) (k : Nat → List Value → List Value → Mm → Rs) (call : Nat → List Value → Mm → Rs) : Rs := match fld (oM M) idx with
    | some f => (match st with
      | v :: .ref a :: r => if fFin f.1 f.2.1 = false ∨ (inM M = true ∧ f.1 = oM M) then putF σ a f v (fun σ' => k (pc + 3) ls r σ') else none
      | _ => none)
    | none => none
def p_arraylength  (M pc : Nat) (ls st : List Value) (σ : Mm) (k : Nat → List Value → List Value → Mm → Rs) (call : Nat → List Value → Mm → Rs) : Rs := s_r st fun a r => match alen σ a with
    | some n => k (pc + 1) ls (.int (Int32.ofNat n) :: r) σ
    | none => none
def p_iaload  (M pc : Nat) (ls st : List Value) (σ : Mm) (k : Nat → List Value → List Value → Mm → Rs) (call : Nat → List Value → Mm → Rs) : Rs := s_ri st fun a x r => match rdI σ a x with
    | some v => k (pc + 1) ls (.int v :: r) σ
    | none => none
def p_baload  (M pc : Nat) (ls st : List Value) (σ : Mm) (k : Nat → List Value → List Value → Mm → Rs) (call : Nat → List Value → Mm → Rs) : Rs := s_ri st fun a x r => match rdB σ a x with
    | some v => k (pc + 1) ls (.int v :: r) σ
    | none => none
def p_laload  (M pc : Nat) (ls st : List Value) (σ : Mm) (k : Nat → List Value → List Value → Mm → Rs) (call : Nat → List Value → Mm → Rs) : Rs := s_ri st fun a x r => match rdL σ a x with
    | some v => k (pc + 1) ls (.long v :: r) σ
    | none => none
def p_iastore  (M pc : Nat) (ls st : List Value) (σ : Mm) (k : Nat → List Value → List Value → Mm → Rs) (call : Nat → List Value → Mm → Rs) : Rs := s_rii st fun a x v r => if okI σ a x 11 then k (pc + 1) ls r (uI σ a x.toNatClampNeg v) else none
def p_bastore  (M pc : Nat) (ls st : List Value) (σ : Mm) (k : Nat → List Value → List Value → Mm → Rs) (call : Nat → List Value → Mm → Rs) : Rs := s_rii st fun a x v r => if okI σ a x 10 then k (pc + 1) ls r (uI σ a x.toNatClampNeg v.toInt8.toInt32) else if okI σ a x 13 then k (pc + 1) ls r (uI σ a x.toNatClampNeg (v &&& 1)) else none
def p_lastore  (M pc : Nat) (ls st : List Value) (σ : Mm) (k : Nat → List Value → List Value → Mm → Rs) (call : Nat → List Value → Mm → Rs) : Rs := s_ril st fun a x v r => if okI σ a x 12 then k (pc + 1) ls r (uL σ a x.toNatClampNeg v) else none
def p_new (idx : Nat) (M pc : Nat) (ls st : List Value) (σ : Mm) (k : Nat → List Value → List Value → Mm → Rs) (call : Nat → List Value → Mm → Rs) : Rs := match newT (oM M) idx with
    | some q => if (mU σ).1 = (mKs σ).length ∧ (mU σ).1 < 1000000 then k (pc + 3) ls (.ref (mKs σ).length :: st) (nw σ q.1 q.2) else none
    | none => none
def p_newarray (t : ArrayType) (M pc : Nat) (ls st : List Value) (σ : Mm) (k : Nat → List Value → List Value → Mm → Rs) (call : Nat → List Value → Mm → Rs) : Rs := s_i st fun x r => match arT t with
    | some c => if 0 ≤ x ∧ x.toNatClampNeg ≤ 5000 ∧ (mU σ).1 = (mKs σ).length ∧ (mU σ).1 < 1000000 then k (pc + 2) ls (.ref (mKs σ).length :: r) (nw σ c x.toNatClampNeg) else none
    | none => none
def p_scall (j n : Nat) (M pc : Nat) (ls st : List Value) (σ : Mm) (k : Nat → List Value → List Value → Mm → Rs) (call : Nat → List Value → Mm → Rs) : Rs := match popN n st [] with
    | some (as, r) => if r.length ≤ 4 ∧ ls.length = xM M then (match call j as σ with
      | some w => k (pc + 3) ls (w.1.toList ++ r) w.2
      | none => none) else none
    | none => none
def p_vcall (j n : Nat) (M pc : Nat) (ls st : List Value) (σ : Mm) (k : Nat → List Value → List Value → Mm → Rs) (call : Nat → List Value → Mm → Rs) : Rs := match popN n st [] with
    | some (as, .ref a :: r) => if r.length ≤ 4 ∧ ls.length = xM M then (match call j (.ref a :: as) σ with
      | some w => k (pc + 3) ls (w.1.toList ++ r) w.2
      | none => none) else none
    | _ => none
def p_icall (j n : Nat) (M pc : Nat) (ls st : List Value) (σ : Mm) (k : Nat → List Value → List Value → Mm → Rs) (call : Nat → List Value → Mm → Rs) : Rs := match popN n st [] with
    | some (as, .ref a :: r) => if r.length ≤ 4 ∧ ls.length = xM M then (match call j (.ref a :: as) σ with
      | some w => (match w.1 with
        | none => k (pc + 3) ls r w.2
        | some _ => none)
      | none => none) else none
    | _ => none
def p_copy (M pc : Nat) (ls st : List Value) (σ : Mm) (k : Nat → List Value → List Value → Mm → Rs) (call : Nat → List Value → Mm → Rs) : Rs := match st with
    | .int n :: .int dp :: .ref a :: .int sp :: .ref b :: r => if r.length ≤ 4 ∧ ls.length = xM M then (match mK σ a, mK σ b with
      | some qa, some qb => if qa.1 = 11 ∧ qb.1 = 11 ∧ 0 ≤ sp ∧ 0 ≤ dp ∧ 0 ≤ n ∧ sp.toNatClampNeg + n.toNatClampNeg ≤ qb.2 ∧ dp.toNatClampNeg + n.toNatClampNeg ≤ qa.2 then k (pc + 3) ls r (uW σ a (va_cpy (mI σ b) (mI σ a) sp.toNatClampNeg dp.toNatClampNeg n.toNatClampNeg)) else none
      | _, _ => none) else none
    | _ => none
def p_chk (M pc : Nat) (ls st : List Value) (σ : Mm) (k : Nat → List Value → List Value → Mm → Rs) (call : Nat → List Value → Mm → Rs) : Rs := s_ii st fun x y r => if (r.length ≤ 4 ∧ ls.length = xM M) ∧ 0 ≤ x ∧ x < y then k (pc + 3) ls r σ else none
def p_lamp (M pc : Nat) (ls st : List Value) (σ : Mm) (k : Nat → List Value → List Value → Mm → Rs) (call : Nat → List Value → Mm → Rs) : Rs := match st with
    | .ref o :: .int y :: .int x :: .ref a :: r => if r.length ≤ 4 ∧ ls.length = xM M then (match lampP a x y o σ call with
      | some w => k (pc + 3) ls (.int w.1 :: r) w.2
      | none => none) else none
    | _ => none
def p_invokestatic (idx : Nat) (M pc : Nat) (ls st : List Value) (σ : Mm) (k : Nat → List Value → List Value → Mm → Rs) (call : Nat → List Value → Mm → Rs) : Rs := match callT (oM M) idx with
    | some q => if q.1 = 1 ∧ fok M q.2.1 = true ∧ stM q.2.1 = true then p_scall q.2.1 q.2.2 M pc ls st σ k call else if q.1 = 5 ∧ 1 ≤ frM M ∧ 60 ≤ loM M then p_copy M pc ls st σ k call else if q.1 = 6 ∧ 4 ≤ frM M ∧ 120 ≤ loM M then p_chk M pc ls st σ k call else if q.1 = 7 ∧ 8 ≤ frM M ∧ 200 ≤ loM M then p_lamp M pc ls st σ k call else none
    | none => none
def p_invokespecial (idx : Nat) (M pc : Nat) (ls st : List Value) (σ : Mm) (k : Nat → List Value → List Value → Mm → Rs) (call : Nat → List Value → Mm → Rs) : Rs := match callT (oM M) idx with
    | some q => if (q.1 = 2 ∨ q.1 = 3) ∧ fok M q.2.1 = true ∧ stM q.2.1 = false then p_icall q.2.1 q.2.2 M pc ls st σ k call else if q.1 = 4 ∧ 1 ≤ frM M ∧ 20 ≤ loM M then (s_r st fun _ r => if r.length ≤ 4 ∧ ls.length = xM M then k (pc + 3) ls r σ else none) else none
    | none => none
def p_invokevirtual (idx : Nat) (M pc : Nat) (ls st : List Value) (σ : Mm) (k : Nat → List Value → List Value → Mm → Rs) (call : Nat → List Value → Mm → Rs) : Rs := match callT (oM M) idx with
    | some q => if q.1 = 0 ∧ fok M q.2.1 = true ∧ stM q.2.1 = false then p_vcall q.2.1 q.2.2 M pc ls st σ k call else none
    | none => none
def p_ireturn  (M pc : Nat) (ls st : List Value) (σ : Mm) (k : Nat → List Value → List Value → Mm → Rs) (call : Nat → List Value → Mm → Rs) : Rs := match st with
    | [.int x] => (match rM M with
      | some .int => some (some (.int x), σ)
      | some .boolean => if x = 0 ∨ x = 1 then some (some (.int x), σ) else none
      | some .char => if (x.toUInt32 % 65536).toInt32 = x then some (some (.int x), σ) else none
      | some .byte => if x.toInt8.toInt32 = x then some (some (.int x), σ) else none
      | _ => none)
    | _ => none
def p_lreturn  (M pc : Nat) (ls st : List Value) (σ : Mm) (k : Nat → List Value → List Value → Mm → Rs) (call : Nat → List Value → Mm → Rs) : Rs := match st with
    | [.long x] => if rM M = some .long then some (some (.long x), σ) else none
    | _ => none
def p_areturn  (M pc : Nat) (ls st : List Value) (σ : Mm) (k : Nat → List Value → List Value → Mm → Rs) (call : Nat → List Value → Mm → Rs) : Rs := match st with
    | [.ref x] => (match rM M with
      | some (.object _) => some (some (.ref x), σ)
      | _ => none)
    | _ => none
def p_return_  (M pc : Nat) (ls st : List Value) (σ : Mm) (k : Nat → List Value → List Value → Mm → Rs) (call : Nat → List Value → Mm → Rs) : Rs := match st with
    | [] => if rM M = none then some (none, σ) else none
    | _ => none
/-- one instruction: k goes on in this method, call is another method's whole run -/
def opk (i : Instr) (M pc : Nat) (ls st : List Value) (σ : Mm) (k : Nat → List Value → List Value → Mm → Rs) (call : Nat → List Value → Mm → Rs) : Rs := match i with
  | .iconst n => k (pc + 1) ls (.int (Int32.ofInt n) :: st) σ
  | .bipush n => k (pc + 2) ls (.int (Int8.ofInt n).toInt32 :: st) σ
  | .sipush n => k (pc + 3) ls (.int (Int16.ofInt n).toInt32 :: st) σ
  | .lconst n => k (pc + 1) ls (.long (Int64.ofNat n.val) :: st) σ
  | .iload_n n => s_i ((loc ls n.val).toList) fun x _ => k (pc + 1) ls (.int x :: st) σ
  | .iload n => s_i ((loc ls n).toList) fun x _ => k (pc + 2) ls (.int x :: st) σ
  | .lload_n n => s_l ((loc ls n.val).toList) fun x _ => k (pc + 1) ls (.long x :: st) σ
  | .lload n => s_l ((loc ls n).toList) fun x _ => k (pc + 2) ls (.long x :: st) σ
  | .aload_n n => s_r ((loc ls n.val).toList) fun x _ => k (pc + 1) ls (.ref x :: st) σ
  | .aload n => s_r ((loc ls n).toList) fun x _ => k (pc + 2) ls (.ref x :: st) σ
  | .istore_n n => s_i st fun x r => if n.val < ls.length then k (pc + 1) (ls.set n.val (.int x)) r σ else none
  | .istore n => s_i st fun x r => if n < ls.length then k (pc + 2) (ls.set n (.int x)) r σ else none
  | .lstore_n n => s_l st fun x r => if n.val + 1 < ls.length then k (pc + 1) ((ls.set n.val (.long x)).set (n.val + 1) (.float 0)) r σ else none
  | .lstore n => s_l st fun x r => if n + 1 < ls.length then k (pc + 2) ((ls.set n (.long x)).set (n + 1) (.float 0)) r σ else none
  | .astore_n n => s_r st fun x r => if n.val < ls.length then k (pc + 1) (ls.set n.val (.ref x)) r σ else none
  | .astore n => s_r st fun x r => if n < ls.length then k (pc + 2) (ls.set n (.ref x)) r σ else none
  | .iinc n d => s_i ((loc ls n).toList) fun x _ => if n < ls.length then k (pc + 3) (ls.set n (.int (x + Int32.ofInt d))) st σ else none
  | .iadd => s_ii st fun x y r => k (pc + 1) ls (.int (x + y) :: r) σ
  | .isub => s_ii st fun x y r => k (pc + 1) ls (.int (x - y) :: r) σ
  | .imul => s_ii st fun x y r => k (pc + 1) ls (.int (x * y) :: r) σ
  | .iand => s_ii st fun x y r => k (pc + 1) ls (.int (x &&& y) :: r) σ
  | .ior => s_ii st fun x y r => k (pc + 1) ls (.int (x ||| y) :: r) σ
  | .ixor => s_ii st fun x y r => k (pc + 1) ls (.int (x ^^^ y) :: r) σ
  | .ishl => s_ii st fun x y r => k (pc + 1) ls (.int (x <<< (y &&& 31)) :: r) σ
  | .ishr => s_ii st fun x y r => k (pc + 1) ls (.int (x >>> (y &&& 31)) :: r) σ
  | .iushr => s_ii st fun x y r => k (pc + 1) ls (.int (x.toUInt32 >>> (y.toUInt32 &&& Int32.toUInt32 31)).toInt32 :: r) σ
  | .idiv => s_ii st fun x y r => if y = 0 then none else k (pc + 1) ls (.int (x / y) :: r) σ
  | .irem => s_ii st fun x y r => if y = 0 then none else k (pc + 1) ls (.int (x - x / y * y) :: r) σ
  | .ineg => s_i st fun x r => k (pc + 1) ls (.int (-x) :: r) σ
  | .i2b => s_i st fun x r => k (pc + 1) ls (.int x.toInt8.toInt32 :: r) σ
  | .i2c => s_i st fun x r => k (pc + 1) ls (.int (x.toUInt32 % 65536).toInt32 :: r) σ
  | .i2l => s_i st fun x r => k (pc + 1) ls (.long x.toInt64 :: r) σ
  | .l2i => s_l st fun x r => k (pc + 1) ls (.int x.toInt32 :: r) σ
  | .ladd => s_ll st fun x y r => k (pc + 1) ls (.long (x + y) :: r) σ
  | .lsub => s_ll st fun x y r => k (pc + 1) ls (.long (x - y) :: r) σ
  | .lmul => s_ll st fun x y r => k (pc + 1) ls (.long (x * y) :: r) σ
  | .land => s_ll st fun x y r => k (pc + 1) ls (.long (x &&& y) :: r) σ
  | .ldiv => s_ll st fun x y r => if y = 0 then none else k (pc + 1) ls (.long (x / y) :: r) σ
  | .lrem => s_ll st fun x y r => if y = 0 then none else k (pc + 1) ls (.long (x - x / y * y) :: r) σ
  | .lneg => s_l st fun x r => k (pc + 1) ls (.long (-x) :: r) σ
  | .lcmp => s_ll st fun x y r => k (pc + 1) ls (.int (lg_cmp x y) :: r) σ
  | .dup => p_dup M pc ls st σ k call
  | .dup2 => p_dup2 M pc ls st σ k call
  | .pop => p_pop M pc ls st σ k call
  | .ifCond c off => s_i st fun x r => jmp pc off fun t => if cmp2 c x 0 = true then k t ls r σ else k (pc + 3) ls r σ
  | .if_icmp c off => s_ii st fun x y r => jmp pc off fun t => if cmp2 c x y = true then k t ls r σ else k (pc + 3) ls r σ
  | .goto off => jmp pc off (fun t => k t ls st σ)
  | .tableswitch d lo hi offs => p_tableswitch d lo hi offs M pc ls st σ k call
  | .lookupswitch d ps => p_lookupswitch d ps M pc ls st σ k call
  | .ldc idx => p_ldc idx M pc ls st σ k call
  | .ldc_w idx => p_ldc_w idx M pc ls st σ k call
  | .ldc2_w idx => p_ldc2_w idx M pc ls st σ k call
  | .getstatic idx => p_getstatic idx M pc ls st σ k call
  | .getfield idx => p_getfield idx M pc ls st σ k call
  | .putfield idx => p_putfield idx M pc ls st σ k call
  | .arraylength => p_arraylength M pc ls st σ k call
  | .iaload => p_iaload M pc ls st σ k call
  | .baload => p_baload M pc ls st σ k call
  | .laload => p_laload M pc ls st σ k call
  | .iastore => p_iastore M pc ls st σ k call
  | .bastore => p_bastore M pc ls st σ k call
  | .lastore => p_lastore M pc ls st σ k call
  | .new idx => p_new idx M pc ls st σ k call
  | .newarray t => p_newarray t M pc ls st σ k call
  | .invokevirtual idx => p_invokevirtual idx M pc ls st σ k call
  | .invokestatic idx => p_invokestatic idx M pc ls st σ k call
  | .invokespecial idx => p_invokespecial idx M pc ls st σ k call
  | .ireturn => p_ireturn M pc ls st σ k call
  | .lreturn => p_lreturn M pc ls st σ k call
  | .areturn => p_areturn M pc ls st σ k call
  | .return_ => p_return_ M pc ls st σ k call
  | _ => none
/-- how long an instruction is, where that is fixed -/
def lnk (i : Instr) (n : Nat) : Bool := match i with
  | .bipush _ => n == 2
  | .iload _ => n == 2
  | .lload _ => n == 2
  | .aload _ => n == 2
  | .istore _ => n == 2
  | .lstore _ => n == 2
  | .astore _ => n == 2
  | .ldc _ => n == 2
  | .newarray _ => n == 2
  | .sipush _ => n == 3
  | .iinc _ _ => n == 3
  | .ifCond _ _ => n == 3
  | .if_icmp _ _ => n == 3
  | .goto _ => n == 3
  | .ldc_w _ => n == 3
  | .ldc2_w _ => n == 3
  | .getstatic _ => n == 3
  | .getfield _ => n == 3
  | .putfield _ => n == 3
  | .new _ => n == 3
  | .invokevirtual _ => n == 3
  | .invokestatic _ => n == 3
  | .invokespecial _ => n == 3
  | .tableswitch _ _ _ _ => true
  | .lookupswitch _ _ => true
  | _ => n == 1
def run : Nat → Nat → Nat → List Value → List Value → Mm → Rs
  | 0, _, _, _, _, _ => none
  | n + 1, M, pc, ls, st, σ => match decode (cM M) pc with
    | .ok (i, len) => if lnk i len then opk i M pc ls st σ (run n M) (fun j as σ => if okr j as σ then run n j 0 (padL (xM j) (lsO as)) [] σ else none) else none
    | .error _ => none
