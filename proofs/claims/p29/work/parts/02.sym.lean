/-! A SYMBOLIC RUN: a small interpreter over closed data (ints are numbers or named unknowns, references are places in a list of cells), to be computed by the kernel; part 03 shows that what it says holds of the machine. -/
abbrev yI : Type := Nat ⊕ Nat
/-- a value: an int, a long (a number or the name of an unknown), a reference: none is null, some 0 the script, some (i + 1) the i-th cell -/
abbrev yV : Type := yI ⊕ (yI ⊕ Option Nat)
/-- a cell: an object (its class's place in vwCl, its fields), an array of ints, booleans, chars (kind, length, what was written, the last first), an array of objects -/
abbrev yC : Type := (Nat × List yV) ⊕ ((Nat × Nat × List (Nat × yI)) ⊕ (Nat × Nat × List (Nat × Option Nat)))
abbrev yL : Type := List (Nat × yV)
/-- facts of comparisons: which, of what, whether it holds -/
abbrev yF : Type := List (Nat × yI × yI × Bool)
/-- facts of results: the operation, of what, what comes -/
abbrev yT : Type := List (Nat × yI × yI × yI)
/-- an instruction as resolved: what it is, the place of the next one, three numbers -/
abbrev yO : Type := Instr × Nat × Nat × Nat × Nat
abbrev yE : Type := MethodName × ByteArray × Nat × Option FieldType × List (Nat × yO)
abbrev yS : Type := Nat × yL × List yV × List yC × Nat × Nat
/-- what the unknowns are: ints, longs, the script's address, its length -/
abbrev yK : Type := (Nat → Int32) × (Nat → Int64) × Nat × Nat
def y_i (κ : yK) : yI → Int32
  | .inl n => nI n
  | .inr k => κ.1 k
def y_l (κ : yK) : yI → Int64
  | .inl n => lN n
  | .inr k => κ.2.1 k
def y_r (κ : yK) (α : List Nat) : Nat → Option Nat
  | 0 => some κ.2.2.1
  | i + 1 => α[i]?
def y_d (κ : yK) (α : List Nat) : yV → Option Value
  | .inl a => some (.int (y_i κ a))
  | .inr (.inl a) => some (.long (y_l κ a))
  | .inr (.inr none) => some .null
  | .inr (.inr (some i)) => (y_r κ α i).map Value.ref
def y_ds (κ : yK) (α : List Nat) (l : List yV) (xs : List Value) : Prop := l.map (y_d κ α) = xs.map some
def y_dl (κ : yK) (α : List Nat) (l : yL) (xs : List (Nat × Value)) : Prop := l.map (fun q => (q.1, y_d κ α q.2)) = xs.map (fun q => (q.1, some q.2))
def y_cat : yV → Nat
  | .inr (.inl _) => 2
  | _ => 1
def y_get : List (Nat × yI) → Nat → yI
  | [], _ => .inl 0
  | q :: r, i => bif Nat.beq q.1 i then q.2 else y_get r i
def y_getr : List (Nat × Option Nat) → Nat → Option Nat
  | [], _ => none
  | q :: r, i => bif Nat.beq q.1 i then q.2 else y_getr r i
def y_ty : Nat → FieldType
  | 0 => .int
  | 1 => .boolean
  | 2 => .char
  | _ => .long
/-- what a cell of the run is in the world -/
def y_c (κ : yK) (α : List Nat) (tys : List (ClassId × FieldType)) : yC → va_E → Prop
  | .inl (ci, fs), e => ∃ vs : List Value, y_ds κ α fs vs ∧ e = .inr (ci, vs)
  | .inr (.inl (3, n, m)), e => ∃ (cA : ClassId) (t0 : Nat) (f : Nat → Int64), tys[t0]? = some (cA, .long) ∧ (∀ i, i < n → f i = y_l κ (y_get m i)) ∧ e = .inl (cA, n, .inr (.inl f))
  | .inr (.inl (k, n, m)), e => ∃ (cA : ClassId) (t0 : Nat) (f : Nat → Int32), tys[t0]? = some (cA, y_ty k) ∧ (∀ i, i < n → f i = y_i κ (y_get m i)) ∧ e = .inl (cA, n, .inl f)
  | .inr (.inr (ci, n, m)), e => ∃ (cA : ClassId) (t0 : Nat) (r : vw_C) (f : Nat → Option Nat), vwCl[ci]? = some r ∧ tys[t0]? = some (cA, .object r.1) ∧ (∀ i, i < n → match y_getr m i with | none => f i = none | some j => ∃ a, y_r κ α j = some a ∧ f i = some a) ∧ e = .inl (cA, n, .inr (.inr (.inr (.inr f))))
def y_h (κ : yK) (α : List Nat) (tys : List (ClassId × FieldType)) (sh : List yC) (ws : va_W) : Prop :=
  α.length = sh.length ∧ ws.length = sh.length ∧ ∀ (i : Nat) (c : yC), sh[i]? = some c → ∃ (a : Nat) (e : va_E), α[i]? = some a ∧ ws[i]? = some (a, e) ∧ y_c κ α tys c e
-- comparisons
def y_sg (n : Nat) : Nat := (n + 2147483648) % 4294967296
def y_cmp (op a b : Nat) : Bool := match op with
  | 0 => Nat.beq (y_sg a) (y_sg b)
  | 1 => !(Nat.beq (y_sg a) (y_sg b))
  | 2 => Nat.blt (y_sg a) (y_sg b)
  | 3 => Nat.ble (y_sg b) (y_sg a)
  | 4 => Nat.blt (y_sg b) (y_sg a)
  | _ => Nat.ble (y_sg a) (y_sg b)
def y_P (op : Nat) (x y : Int32) : Prop := match op with
  | 0 => x = y
  | 1 => ¬ x = y
  | 2 => x < y
  | 3 => y ≤ x
  | 4 => y < x
  | _ => x ≤ y
def y_eqI : yI → yI → Bool
  | .inl a, .inl b => Nat.beq a b
  | .inr a, .inr b => Nat.beq a b
  | _, _ => false
def y_look : yF → Nat → yI → yI → Option Bool
  | [], _, _, _ => none
  | q :: r, op, a, b => bif Nat.beq q.1 op && (y_eqI q.2.1 a && y_eqI q.2.2.1 b) then some q.2.2.2 else y_look r op a b
def y_cond (hy : yF) (op : Nat) : yI → yI → Option Bool
  | .inl a, .inl b => some (y_cmp op a b)
  | a, b => y_look hy op a b
def y_H (κ : yK) (hy : yF) : Prop := ∀ q ∈ hy, (y_P q.1 (y_i κ q.2.1) (y_i κ q.2.2.1) ↔ q.2.2.2 = true)
def y_op : ClassFile.Cond → Nat
  | .eq => 0
  | .ne => 1
  | .lt => 2
  | .ge => 3
  | .gt => 4
  | .le => 5
-- results that are told
def y_lookT : yT → Nat → yI → yI → Option yI
  | [], _, _, _ => none
  | q :: r, op, a, b => bif Nat.beq q.1 op && (y_eqI q.2.1 a && y_eqI q.2.2.1 b) then some q.2.2.2 else y_lookT r op a b
/-- what an operation answers: 0 iand, 1 ishr, 2 i2c (of ints); 10 land, 11 lor, 12 lshl, 13 lushr, 14 lcmp, 15 l2i, 16 i2l; 20 the same int by another name -/
def y_opv (κ : yK) (op : Nat) (a b r : yI) : Prop := match op with
  | 0 => y_i κ a &&& y_i κ b = y_i κ r
  | 1 => y_i κ a >>> (y_i κ b &&& 31) = y_i κ r
  | 2 => ((y_i κ a).toUInt32 % 65536).toInt32 = y_i κ r
  | 10 => y_l κ a &&& y_l κ b = y_l κ r
  | 11 => y_l κ a ||| y_l κ b = y_l κ r
  | 12 => y_l κ a <<< ((y_i κ b).toInt64 &&& 63) = y_l κ r
  | 13 => ((y_l κ a).toUInt64 >>> ((y_i κ b).toInt64.toUInt64 &&& Int64.toUInt64 63)).toInt64 = y_l κ r
  | 14 => lg_cmp (y_l κ a) (y_l κ b) = y_i κ r
  | 15 => (y_l κ a).toInt32 = y_i κ r
  | 16 => (y_i κ a).toInt64 = y_l κ r
  | 20 => y_i κ a = y_i κ r
  | _ => False
def y_T (κ : yK) (tb : yT) : Prop := ∀ q ∈ tb, y_opv κ q.1 q.2.1 q.2.2.1 q.2.2.2
-- the run
def y_find : List (Nat × yO) → Nat → Option yO
  | [], _ => none
  | q :: r, pc => bif Nat.beq q.1 pc then some q.2 else y_find r pc
def y_lget : yL → Nat → Option yV
  | [], _ => none
  | q :: r, i => bif Nat.beq q.1 i then some q.2 else y_lget r i
def y_lset (l : yL) (i : Nat) (v : yV) : yL := (i, v) :: l.filter (fun q => !(q.1 == i) && !(q.1 + 1 == i && y_cat q.2 == 2))
def y_lset2 (l : yL) (i : Nat) (v : yV) : yL := (i, v) :: l.filter (fun q => !(q.1 == i) && (!(q.1 == i + 1) && !(q.1 + 1 == i && y_cat q.2 == 2)))
def y_args : Nat → List yV → yL
  | _, [] => []
  | i, v :: vs => (i, v) :: y_args (if y_cat v = 2 then i + 2 else i + 1) vs
def y_cats : List yV → Nat
  | [] => 0
  | v :: vs => y_cat v + y_cats vs
/-- an operation on two ints: numbers are computed, else it is looked up -/
def y_bin (tb : yT) (op : Nat) (f : Nat → Nat → Option Nat) : List yV → Option (List yV)
  | .inl b :: .inl a :: r => match a, b with
    | .inl x, .inl y => (f x y).map (fun v => .inl (.inl v) :: r)
    | _, _ => (y_lookT tb op a b).map (fun v => .inl v :: r)
  | _ => none
def y_add (a b : Nat) : Option Nat := some ((a + b) % 4294967296)
def y_sub (a b : Nat) : Option Nat := some ((a + (4294967296 - b % 4294967296)) % 4294967296)
def y_mul (a b : Nat) : Option Nat := some (a * b % 4294967296)
def y_and (a b : Nat) : Option Nat := some (Nat.land a b)
def y_or (a b : Nat) : Option Nat := some (Nat.lor a b)
def y_shl (a b : Nat) : Option Nat := bif Nat.blt b 32 then some (a * 2 ^ b % 4294967296) else none
def y_shr (a b : Nat) : Option Nat := bif Nat.blt b 32 && Nat.blt a 2147483648 then some (a / 2 ^ b) else none
def y_ushr (a b : Nat) : Option Nat := bif Nat.blt b 32 && Nat.blt a 4294967296 then some (a / 2 ^ b) else none
def y_rem (a b : Nat) : Option Nat := bif Nat.blt 0 b && (Nat.blt b 2147483648 && Nat.blt a 2147483648) then some (a % b) else none
/-- an operation of longs that is looked up -/
def y_tabL (tb : yT) (op : Nat) (toInt : Bool) : List yV → Option (List yV)
  | .inr (.inl b) :: .inr (.inl a) :: r => (y_lookT tb op a b).map (fun v => (bif toInt then .inl v else .inr (.inl v)) :: r)
  | _ => none
def y_tabS (tb : yT) (op : Nat) : List yV → Option (List yV)
  | .inl b :: .inr (.inl a) :: r => (y_lookT tb op a b).map (fun v => .inr (.inl v) :: r)
  | _ => none
def y_off (pc : Nat) (off : Int) : Option Nat := if 0 ≤ (pc : Int) + off then some ((pc : Int) + off).toNat else none
def y_swT (pc : Nat) (lo hi : Int) (d : Int) (offs : Array Int) (hy : yF) : yI → Option Nat
  | .inl n => if (y_sg n : Int) - 2147483648 < lo ∨ hi < (y_sg n : Int) - 2147483648 then y_off pc d else match offs[((y_sg n : Int) - 2147483648 - lo).toNat]? with
    | some o => y_off pc o
    | none => none
  | .inr k => if (y_look hy 2 (.inr k) (.inl ((lo % 4294967296).toNat)) = some true ∧ -2147483648 ≤ lo ∧ lo ≤ 2147483647) ∨ (y_look hy 4 (.inr k) (.inl ((hi % 4294967296).toNat)) = some true ∧ -2147483648 ≤ hi ∧ hi ≤ 2147483647) then y_off pc d else none
/-- an int of the script, by the name that is told for it -/
def y_sub1 (tb : yT) (j : Nat) : yI := match y_lookT tb 20 (.inr j) (.inr j) with
  | some r => r
  | none => .inr j
/-- what may be written into a field: an int, a boolean, a reference -/
def y_pv : Nat → yV → Bool
  | 0, .inl _ => true
  | 1, .inl (.inl b) => Nat.ble b 1
  | 2, .inr (.inr _) => true
  | _, _ => false
/-- Math.max (96) and Math.min (97) of two numbers -/
def y_mm (r3 : Nat) : List yV → Option (List yV)
  | .inl (.inl y) :: .inl (.inl x) :: r => bif Nat.ble (y_cats r) 8 then (bif Nat.beq r3 96 then some (.inl (.inl (bif y_cmp 2 x y then y else x)) :: r) else bif Nat.beq r3 97 then some (.inl (.inl (bif y_cmp 2 y x then y else x)) :: r) else none) else none
  | _ => none
/-- static methods that are no calls here: arraycopy, max, min -/
def y_nat (r3 : Nat) : Bool := Nat.beq r3 98 || (Nat.beq r3 96 || Nat.beq r3 97)
/-- an instruction that is no call and no return -/
def y_step (sc : Bool) (L : Nat) (hy : yF) (tb : yT) (pc : Nat) (o : yO) (l : yL) (st : List yV) (h : List yC) (c n : Nat) : Option yS :=
  let nx := o.2.1
  let stk : Option (List yV) → Option yS := fun st' => st'.map (fun st' => (nx, l, st', h, c, n))
  match o.1 with
  | .iconst _ | .bipush _ | .sipush _ | .ldc _ | .ldc_w _ => some (nx, l, .inl (.inl o.2.2.1) :: st, h, c, n)
  | .lconst _ | .ldc2_w _ => some (nx, l, .inr (.inl (.inl o.2.2.1)) :: st, h, c, n)
  | .iload_n k => match y_lget l k with
    | some (.inl a) => some (nx, l, .inl a :: st, h, c, n)
    | _ => none
  | .iload k => match y_lget l k with
    | some (.inl a) => some (nx, l, .inl a :: st, h, c, n)
    | _ => none
  | .lload_n k => match y_lget l k with
    | some (.inr (.inl a)) => some (nx, l, .inr (.inl a) :: st, h, c, n)
    | _ => none
  | .lload k => match y_lget l k with
    | some (.inr (.inl a)) => some (nx, l, .inr (.inl a) :: st, h, c, n)
    | _ => none
  | .aload_n k => match y_lget l k with
    | some (.inr (.inr (some i))) => some (nx, l, .inr (.inr (some i)) :: st, h, c, n)
    | _ => none
  | .aload k => match y_lget l k with
    | some (.inr (.inr (some i))) => some (nx, l, .inr (.inr (some i)) :: st, h, c, n)
    | _ => none
  | .istore_n k => match st with
    | .inl a :: r => some (nx, y_lset l k (.inl a), r, h, c, n)
    | _ => none
  | .istore k => match st with
    | .inl a :: r => some (nx, y_lset l k (.inl a), r, h, c, n)
    | _ => none
  | .lstore_n k => match st with
    | .inr (.inl a) :: r => some (nx, y_lset2 l k (.inr (.inl a)), r, h, c, n)
    | _ => none
  | .lstore k => match st with
    | .inr (.inl a) :: r => some (nx, y_lset2 l k (.inr (.inl a)), r, h, c, n)
    | _ => none
  | .astore_n k => match st with
    | .inr (.inr (some i)) :: r => some (nx, y_lset l k (.inr (.inr (some i))), r, h, c, n)
    | _ => none
  | .astore k => match st with
    | .inr (.inr (some i)) :: r => some (nx, y_lset l k (.inr (.inr (some i))), r, h, c, n)
    | _ => none
  | .iinc k _ => match y_lget l k with
    | some (.inl (.inl a)) => some (nx, y_lset l k (.inl (.inl ((a + o.2.2.1) % 4294967296))), st, h, c, n)
    | _ => none
  | .iadd => stk (y_bin tb 99 y_add st)
  | .isub => stk (y_bin tb 99 y_sub st)
  | .imul => stk (y_bin tb 99 y_mul st)
  | .iand => stk (y_bin tb 0 y_and st)
  | .ior => stk (y_bin tb 99 y_or st)
  | .ishl => stk (y_bin tb 99 y_shl st)
  | .ishr => stk (y_bin tb 1 y_shr st)
  | .iushr => stk (y_bin tb 99 y_ushr st)
  | .irem => stk (y_bin tb 99 y_rem st)
  | .i2c => match st with
    | .inl a :: r => stk ((y_lookT tb 2 a a).map (fun v => .inl v :: r))
    | _ => none
  | .l2i => match st with
    | .inr (.inl a) :: r => stk ((y_lookT tb 15 a a).map (fun v => .inl v :: r))
    | _ => none
  | .i2l => match st with
    | .inl a :: r => stk ((y_lookT tb 16 a a).map (fun v => .inr (.inl v) :: r))
    | _ => none
  | .land => stk (y_tabL tb 10 false st)
  | .lor => stk (y_tabL tb 11 false st)
  | .lshl => stk (y_tabS tb 12 st)
  | .lushr => stk (y_tabS tb 13 st)
  | .lcmp => stk (y_tabL tb 14 true st)
  | .dup => match st with
    | v :: r => bif Nat.beq (y_cat v) 1 then some (nx, l, v :: v :: r, h, c, n) else none
    | _ => none
  | .dup2 => match st with
    | v :: w :: r => bif Nat.beq (y_cat v) 1 && Nat.beq (y_cat w) 1 then some (nx, l, v :: w :: v :: w :: r, h, c, n) else none
    | _ => none
  | .pop => match st with
    | v :: r => bif Nat.beq (y_cat v) 1 then some (nx, l, r, h, c, n) else none
    | _ => none
  | .goto _ => some (o.2.2.1, l, st, h, c, n)
  | .ifCond k _ => match st with
    | .inl a :: r => (y_cond hy (y_op k) a (.inl 0)).map (fun t => (bif t then o.2.2.1 else nx, l, r, h, c, n))
    | _ => none
  | .if_icmp k _ => match st with
    | .inl b :: .inl a :: r => (y_cond hy (y_op k) a b).map (fun t => (bif t then o.2.2.1 else nx, l, r, h, c, n))
    | _ => none
  | .tableswitch d lo hi offs => match st with
    | .inl a :: r => (y_swT pc lo hi d offs hy a).map (fun t => (t, l, r, h, c, n))
    | _ => none
  | .lookupswitch d ps => match st with
    | .inl (.inl a) :: r => (y_off pc (Op.lookupswitch.offset ps.toList d ((y_sg a : Int) - 2147483648))).map (fun t => (t, l, r, h, c, n))
    | _ => none
  | .getfield _ => match st with
    | .inr (.inr (some (i + 1))) :: r => match h[i]? with
      | some (.inl (ci, fs)) => bif Nat.beq ci o.2.2.1 then (match fs[o.2.2.2.1]? with
        | some v => some (nx, l, v :: r, h, c, n)
        | none => none) else none
      | _ => none
    | _ => none
  | .putfield _ => match st with
    | v :: .inr (.inr (some (i + 1))) :: r => match h[i]? with
      | some (.inl (ci, fs)) => bif Nat.beq ci o.2.2.1 && (Nat.blt o.2.2.2.1 fs.length && y_pv o.2.2.2.2 v) then some (nx, l, r, h.set i (.inl (ci, fs.set o.2.2.2.1 v)), c, n) else none
      | _ => none
    | _ => none
  | .iaload => match st with
    | .inl (.inl j) :: .inr (.inr (some (i + 1))) :: r => match h[i]? with
      | some (.inr (.inl (0, len, m))) => bif Nat.blt j len && Nat.blt j 2147483648 then some (nx, l, .inl (y_get m j) :: r, h, c, n) else none
      | _ => none
    | .inl (.inl j) :: .inr (.inr (some 0)) :: r => bif sc && (Nat.blt j L && Nat.blt j 2147483648) then some (nx, l, .inl (y_sub1 tb j) :: r, h, c, n) else none
    | _ => none
  | .baload => match st with
    | .inl (.inl j) :: .inr (.inr (some (i + 1))) :: r => match h[i]? with
      | some (.inr (.inl (1, len, m))) => bif Nat.blt j len && Nat.blt j 2147483648 then some (nx, l, .inl (y_get m j) :: r, h, c, n) else none
      | _ => none
    | _ => none
  | .aaload => match st with
    | .inl (.inl j) :: .inr (.inr (some (i + 1))) :: r => match h[i]? with
      | some (.inr (.inr (_, len, m))) => bif Nat.blt j len && Nat.blt j 2147483648 then some (nx, l, .inr (.inr (y_getr m j)) :: r, h, c, n) else none
      | _ => none
    | _ => none
  | .iastore => match st with
    | .inl v :: .inl (.inl j) :: .inr (.inr (some (i + 1))) :: r => match h[i]? with
      | some (.inr (.inl (0, len, m))) => bif Nat.blt j len && Nat.blt j 2147483648 then some (nx, l, r, h.set i (.inr (.inl (0, len, (j, v) :: m))), c, n) else none
      | _ => none
    | _ => none
  | .bastore => match st with
    | .inl (.inl v) :: .inl (.inl j) :: .inr (.inr (some (i + 1))) :: r => match h[i]? with
      | some (.inr (.inl (1, len, m))) => bif Nat.ble v 1 && (Nat.blt j len && Nat.blt j 2147483648) then some (nx, l, r, h.set i (.inr (.inl (1, len, (j, .inl v) :: m))), c, n) else none
      | _ => none
    | _ => none
  | .castore => match st with
    | .inl v :: .inl (.inl j) :: .inr (.inr (some (i + 1))) :: r => match h[i]? with
      | some (.inr (.inl (2, len, m))) => match y_lookT tb 2 v v with
        | some w => bif Nat.blt j len && Nat.blt j 2147483648 then some (nx, l, r, h.set i (.inr (.inl (2, len, (j, w) :: m))), c, n) else none
        | none => none
      | _ => none
    | _ => none
  | .aastore => match st with
    | .inr (.inr (some (v + 1))) :: .inl (.inl j) :: .inr (.inr (some (i + 1))) :: r => match h[i]? with
      | some (.inr (.inr (ci, len, m))) => match h[v]? with
        | some (.inl (cv, _)) => bif Nat.beq cv ci && (Nat.blt j len && Nat.blt j 2147483648) then some (nx, l, r, h.set i (.inr (.inr (ci, len, (j, some (v + 1)) :: m))), c, n) else none
        | _ => none
      | _ => none
    | _ => none
  | .arraylength => match st with
    | .inr (.inr (some 0)) :: r => bif sc && Nat.blt L 2147483648 then some (nx, l, .inl (.inl L) :: r, h, c, n) else none
    | .inr (.inr (some (i + 1))) :: r => match h[i]? with
      | some (.inr (.inl (0, len, _))) => some (nx, l, .inl (.inl len) :: r, h, c, n)
      | _ => none
    | _ => none
  | .new _ => some (nx, l, .inr (.inr (some (h.length + 1))) :: st, h ++ [.inl (o.2.2.1, (List.range o.2.2.2.1).map (fun k => bif Nat.testBit o.2.2.2.2 k then .inr (.inr none) else .inl (.inl 0)))], c + 1, n + o.2.2.2.1)
  | .newarray _ => match st with
    | .inl (.inl k) :: r => bif Nat.ble k 100000 then some (nx, l, .inr (.inr (some (h.length + 1))) :: r, h ++ [.inr (.inl (o.2.2.1, k, []))], c + 1, n + k) else none
    | _ => none
  | .anewarray _ => match st with
    | .inl (.inl k) :: r => bif Nat.ble k 100000 then some (nx, l, .inr (.inr (some (h.length + 1))) :: r, h ++ [.inr (.inr (o.2.2.1, k, []))], c + 1, n + k) else none
    | _ => none
  | .invokespecial _ => match st with
    | .inr (.inr (some (_ + 1))) :: r => bif Nat.beq o.2.2.2.2 99 && Nat.ble (y_cats r) 8 then some (nx, l, r, h, c, n) else none
    | _ => none
  | .invokestatic _ => bif Nat.beq o.2.2.2.2 98 then (match st with
    | .inl (.inl k) :: .inl (.inl dp) :: .inr (.inr (some (j + 1))) :: .inl (.inl sp) :: .inr (.inr (some (i + 1))) :: r => match h[i]?, h[j]? with
      | some (.inr (.inl (0, n0, m0))), some (.inr (.inl (0, n1, m1))) =>
        bif Nat.beq o.2.2.2.2 98 && (Nat.ble (y_cats r) 8 && (Nat.ble (sp + k) n0 && (Nat.ble (dp + k) n1 && (Nat.blt sp 2147483648 && (Nat.blt dp 2147483648 && Nat.blt k 2147483648))))) then
          some (nx, l, r, h.set j (.inr (.inl (0, n1, (List.range k).map (fun x => (dp + x, y_get m0 (sp + x))) ++ m1))), c, n) else none
      | _, _ => none
    | _ => none) else stk (y_mm o.2.2.2.2 st)
  | _ => none
/-- a call: its kind (1 virtual, 2 static, 3 a constructor) -/
def y_kind (o : yO) : Nat := match o.1 with
  | .invokevirtual _ => 1
  | .invokestatic _ => bif y_nat o.2.2.2.2 then 0 else 2
  | .invokespecial _ => bif Nat.beq o.2.2.2.2 99 then 0 else 3
  | _ => 0
def y_isRet (o : yO) : Bool := match o.1 with
  | .ireturn | .lreturn | .return_ => true
  | _ => false
/-- what the callee is given, and what stays on the stack -/
def y_split (kd na ci : Nat) (h : List yC) (st : List yV) : Option (List yV × List yV) :=
  bif Nat.beq kd 2 then (bif Nat.ble na st.length then some ((st.take na).reverse, st.drop na) else none) else match st.drop na with
    | .inr (.inr (some (i + 1))) :: r => match h[i]? with
      | some (.inl (cj, _)) => bif Nat.beq cj ci then some (.inr (.inr (some (i + 1))) :: (st.take na).reverse, r) else none
      | _ => none
    | _ => none
/-- what a method answers from where it stands at a return -/
def y_end (e : yE) (S : yS) : Option (Option yV) := match y_find e.2.2.2.2 S.1 with
  | none => none
  | some o => match o.1, S.2.2.1 with
    | .ireturn, [.inl a] => match e.2.2.2.1 with
      | some .int => some (some (.inl a))
      | some .boolean => match a with
        | .inl b => bif Nat.ble b 1 then some (some (.inl a)) else none
        | _ => none
      | some .char => match a with
        | .inl b => bif Nat.ble b 65535 then some (some (.inl a)) else none
        | _ => none
      | _ => none
    | .lreturn, [.inr (.inl a)] => if e.2.2.2.1 = some .long then some (some (.inr (.inl a))) else none
    | .return_, [] => if e.2.2.2.1 = none then some none else none
    | _, _ => none
def y_psh : Option yV → List yV → List yV
  | none, r => r
  | some v, r => v :: r
def y_go (mt : List yE) (L : Nat) (hy : yF) (tb : yT) : Nat → Bool → Nat → yE → yS → Option yS
  | 0, _, _, _, _ => none
  | f + 1, sc, d, e, S =>
    match y_find e.2.2.2.2 S.1 with
    | none => some S
    | some o =>
      bif y_isRet o then some S else
      bif Nat.beq (y_kind o) 0 then (y_step sc L hy tb S.1 o S.2.1 S.2.2.1 S.2.2.2.1 S.2.2.2.2.1 S.2.2.2.2.2).bind (fun S' => y_go mt L hy tb f sc d e S') else
      bif Nat.beq d 0 then none else
      (mt[o.2.2.1]?).bind fun e' => (y_split (y_kind o) o.2.2.2.1 o.2.2.2.2 S.2.2.2.1 S.2.2.1).bind fun ar =>
        bif Nat.ble (y_cats ar.2) 8 && Nat.ble (y_cats ar.1) e'.2.2.1 then
          (y_go mt L hy tb f false (d - 1) e' (0, y_args 0 ar.1, [], S.2.2.2.1, 0, 0)).bind fun S1 => (y_end e' S1).bind fun rv =>
            y_go mt L hy tb f sc d e (o.2.1, S.2.1, y_psh rv ar.2, S1.2.2.2.1, S.2.2.2.2.1 + S1.2.2.2.2.1, S.2.2.2.2.2 + S1.2.2.2.2.2)
        else none
