/-! A RUN OVER WHOLE NUMBERS: ints and longs are whole numbers (any that stands for them), references are places of a fixed list of cells (0: the script, i + 1: the i-th cell), what the cells hold is a function; no cell is made. -/
abbrev gx_V : Type := Int ⊕ (Int ⊕ Option Nat)
abbrev gI (a : Int) : gx_V := .inl a
abbrev gJ (a : Int) : gx_V := .inr (.inl a)
abbrev gR (i : Nat) : gx_V := .inr (.inr (some i))
/-- nothing is known -/
abbrev gU : gx_V := .inr (.inr none)
abbrev gx_M : Type := Nat → Int → Int
/-- a cell: an object (its class's place in vwCl; its fields: none a number, some a reference), a row of numbers (kind, length), a row of references -/
abbrev gx_C : Type := (Nat × List (Option Nat)) ⊕ ((Nat × Nat) ⊕ (Nat × List Nat))
abbrev gx_S : Type := Nat × List gx_V × List gx_V × gx_M
def gx_i (a : Int) : Int32 := Int32.ofInt a
def gx_l (a : Int) : Int64 := Int64.ofInt a
def gx_d (κ : yK) (α : List Nat) : gx_V → Option Value
  | .inl a => some (.int (gx_i a))
  | .inr (.inl a) => some (.long (gx_l a))
  | .inr (.inr none) => none
  | .inr (.inr (some i)) => (y_r κ α i).map Value.ref
def gx_ds (κ : yK) (α : List Nat) (l : List gx_V) (xs : List Value) : Prop := l.map (gx_d κ α) = xs.map some
def gx_dl (κ : yK) (α : List Nat) (lo : List gx_V) (lv : List (Nat × Value)) : Prop := ∀ (i : Nat) (v : gx_V), lo[i]? = some v → v ≠ gU → ∃ x, (i, x) ∈ lv ∧ gx_d κ α v = some x
def gx_cat : gx_V → Nat
  | .inr (.inl _) => 2
  | _ => 1
def gx_cats : List gx_V → Nat
  | [] => 0
  | v :: vs => gx_cat v + gx_cats vs
def gx_fs (κ : yK) (α : List Nat) (m : Int → Int) : Nat → List (Option Nat) → List (Option Value)
  | _, [] => []
  | k, none :: r => some (.int (gx_i (m (k : Int)))) :: gx_fs κ α m (k + 1) r
  | k, some j :: r => (y_r κ α j).map Value.ref :: gx_fs κ α m (k + 1) r
/-- what a cell of the run is in the world -/
def gx_c (κ : yK) (α : List Nat) (tys : List (ClassId × FieldType)) : gx_C → (Int → Int) → va_E → Prop
  | .inl (ci, fs), m, e => ∃ vs : List Value, gx_fs κ α m 0 fs = vs.map some ∧ e = .inr (ci, vs)
  | .inr (.inl (3, n)), m, e => ∃ (cA : ClassId) (t0 : Nat) (f : Nat → Int64), tys[t0]? = some (cA, .long) ∧ (∀ i : Nat, i < n → f i = gx_l (m (i : Int))) ∧ e = .inl (cA, n, .inr (.inl f))
  | .inr (.inl (k, n)), m, e => ∃ (cA : ClassId) (t0 : Nat) (f : Nat → Int32), tys[t0]? = some (cA, y_ty k) ∧ (∀ i : Nat, i < n → f i = gx_i (m (i : Int))) ∧ e = .inl (cA, n, .inl f)
  | .inr (.inr (ci, rs)), _, e => ∃ (cA : ClassId) (t0 : Nat) (r : vw_C) (f : Nat → Option Nat), vwCl[ci]? = some r ∧ tys[t0]? = some (cA, .object r.1) ∧ (∀ (i j : Nat), rs[i]? = some j → ∃ a, y_r κ α j = some a ∧ f i = some a) ∧ e = .inl (cA, rs.length, .inr (.inr (.inr (.inr f))))
def gx_h (κ : yK) (α : List Nat) (tys : List (ClassId × FieldType)) (sh : List gx_C) (M : gx_M) (ws : va_W) : Prop :=
  α.length = sh.length ∧ ws.length = sh.length ∧ ∀ (i : Nat) (c : gx_C), sh[i]? = some c → ∃ (a : Nat) (e : va_E), α[i]? = some a ∧ ws[i]? = some (a, e) ∧ gx_c κ α tys c (M i) e
-- numbers
def gx_lit (n : Nat) : Int := bif Nat.blt n 2147483648 then Int.ofNat n else Int.subNatNat n 4294967296
def gx_litL (n : Nat) : Int := bif Nat.blt n 9223372036854775808 then Int.ofNat n else Int.subNatNat n 18446744073709551616
abbrev gx_R (a : Int) : Prop := -2147483648 ≤ a ∧ a < 2147483648
abbrev gx_RL (a : Int) : Prop := -9223372036854775808 ≤ a ∧ a < 9223372036854775808
def gx_br (t : Bool) (op : ClassFile.Cond) (a b : Int) : Prop := match op with
  | .eq => match t with | true => a = b | false => ¬ a = b
  | .ne => match t with | true => ¬ a = b | false => a = b
  | .lt => match t with | true => a < b | false => b ≤ a
  | .ge => match t with | true => b ≤ a | false => a < b
  | .gt => match t with | true => b < a | false => a ≤ b
  | .le => match t with | true => a ≤ b | false => b < a
def gx_and (a b : Int) : Int := (gx_i a &&& gx_i b).toInt
def gx_or (a b : Int) : Int := (gx_i a ||| gx_i b).toInt
def gx_xor (a b : Int) : Int := (gx_i a ^^^ gx_i b).toInt
def gx_shl (a b : Int) : Int := (gx_i a <<< (gx_i b &&& 31)).toInt
def gx_shr (a b : Int) : Int := (gx_i a >>> (gx_i b &&& 31)).toInt
def gx_ushr (a b : Int) : Int := ((gx_i a).toUInt32 >>> ((gx_i b).toUInt32 &&& Int32.toUInt32 31)).toInt32.toInt
def gx_andL (a b : Int) : Int := (gx_l a &&& gx_l b).toInt
def gx_orL (a b : Int) : Int := (gx_l a ||| gx_l b).toInt
def gx_xorL (a b : Int) : Int := (gx_l a ^^^ gx_l b).toInt
def gx_shlL (a b : Int) : Int := (gx_l a <<< ((gx_i b).toInt64 &&& 63)).toInt
def gx_ushrL (a b : Int) : Int := ((gx_l a).toUInt64 >>> ((gx_i b).toInt64.toUInt64 &&& Int64.toUInt64 63)).toInt64.toInt
def gx_c3 (a b : Int) : Int := if b < a then 1 else if a = b then 0 else -1
-- locals
def gx_lg : List gx_V → Nat → gx_V
  | [], _ => gU
  | x :: _, 0 => x
  | _ :: r, k + 1 => gx_lg r k
def gx_clr : gx_V → gx_V
  | .inr (.inl _) => gU
  | v => v
def gx_ls : List gx_V → Nat → gx_V → List gx_V
  | [], _, _ => []
  | _ :: r, 0, v => v :: r
  | x :: r, 1, v => gx_clr x :: gx_ls r 0 v
  | x :: r, k + 2, v => x :: gx_ls r (k + 1) v
def gx_ls2 (lo : List gx_V) (k : Nat) (v : gx_V) : List gx_V := gx_ls (gx_ls lo (k + 1) gU) k v
-- the heap
def gx_at : List gx_C → Nat → Option gx_C
  | [], _ => none
  | c :: _, 0 => some c
  | _ :: r, k + 1 => gx_at r k
def gx_fld : List (Option Nat) → Nat → Option (Option Nat)
  | [], _ => none
  | c :: _, 0 => some c
  | _ :: r, k + 1 => gx_fld r k
def gx_rf : List Nat → Nat → Option Nat
  | [], _ => none
  | c :: _, 0 => some c
  | _ :: r, k + 1 => gx_rf r k
def gx_up (M : gx_M) (c : Nat) (i v : Int) : gx_M := fun c' j => if c' = c ∧ j = i then v else M c' j
def gx_cp (M : gx_M) (s d : Nat) (sp dp k : Int) : gx_M := fun c' j => if c' = d ∧ (dp ≤ j ∧ j < dp + k) then M s (sp + (j - dp)) else M c' j
def gx_sw (pc : Nat) (lo hi d : Int) (offs : Array Int) (a : Int) : Option Nat := if a < lo ∨ hi < a then y_off pc d else match offs[(a - lo).toNat]? with
  | some o => y_off pc o
  | none => none
/-- an instruction that is no call and no return: what it asks, and where it leads ('t': 1 where a branch is taken; which place of a row of references is read) -/
def gx_st1 (κ : yK) (sh : List gx_C) (t : Nat) (pc : Nat) (o : yO) (lo st : List gx_V) (M : gx_M) : Option (Option Prop × gx_S) :=
  match o.1 with
  | .iconst _ | .bipush _ | .sipush _ | .ldc _ | .ldc_w _ => some (none, o.2.1, lo, gI (gx_lit o.2.2.1) :: st, M)
  | .lconst _ | .ldc2_w _ => some (none, o.2.1, lo, gJ (gx_litL o.2.2.1) :: st, M)
  | .iload_n k => match gx_lg lo k with
    | .inl a => some (none, o.2.1, lo, gI a :: st, M)
    | _ => none
  | .iload k => match gx_lg lo k with
    | .inl a => some (none, o.2.1, lo, gI a :: st, M)
    | _ => none
  | .lload_n k => match gx_lg lo k with
    | .inr (.inl a) => some (none, o.2.1, lo, gJ a :: st, M)
    | _ => none
  | .lload k => match gx_lg lo k with
    | .inr (.inl a) => some (none, o.2.1, lo, gJ a :: st, M)
    | _ => none
  | .aload_n k => match gx_lg lo k with
    | .inr (.inr (some i)) => some (none, o.2.1, lo, gR i :: st, M)
    | _ => none
  | .aload k => match gx_lg lo k with
    | .inr (.inr (some i)) => some (none, o.2.1, lo, gR i :: st, M)
    | _ => none
  | .istore_n k => match st with
    | .inl a :: r => some (none, o.2.1, gx_ls lo k (gI a), r, M)
    | _ => none
  | .istore k => match st with
    | .inl a :: r => some (none, o.2.1, gx_ls lo k (gI a), r, M)
    | _ => none
  | .lstore_n k => match st with
    | .inr (.inl a) :: r => some (none, o.2.1, gx_ls2 lo k (gJ a), r, M)
    | _ => none
  | .lstore k => match st with
    | .inr (.inl a) :: r => some (none, o.2.1, gx_ls2 lo k (gJ a), r, M)
    | _ => none
  | .astore_n k => match st with
    | .inr (.inr (some i)) :: r => some (none, o.2.1, gx_ls lo k (gR i), r, M)
    | _ => none
  | .astore k => match st with
    | .inr (.inr (some i)) :: r => some (none, o.2.1, gx_ls lo k (gR i), r, M)
    | _ => none
  | .iinc k _ => match gx_lg lo k with
    | .inl a => some (none, o.2.1, gx_ls lo k (gI (a + gx_lit o.2.2.1)), st, M)
    | _ => none
  | .iadd => match st with
    | .inl b :: .inl a :: r => some (none, o.2.1, lo, gI (a + b) :: r, M)
    | _ => none
  | .isub => match st with
    | .inl b :: .inl a :: r => some (none, o.2.1, lo, gI (a - b) :: r, M)
    | _ => none
  | .imul => match st with
    | .inl b :: .inl a :: r => some (none, o.2.1, lo, gI (a * b) :: r, M)
    | _ => none
  | .iand => match st with
    | .inl b :: .inl a :: r => some (none, o.2.1, lo, gI (gx_and a b) :: r, M)
    | _ => none
  | .ior => match st with
    | .inl b :: .inl a :: r => some (none, o.2.1, lo, gI (gx_or a b) :: r, M)
    | _ => none
  | .ixor => match st with
    | .inl b :: .inl a :: r => some (none, o.2.1, lo, gI (gx_xor a b) :: r, M)
    | _ => none
  | .ishl => match st with
    | .inl b :: .inl a :: r => some (none, o.2.1, lo, gI (gx_shl a b) :: r, M)
    | _ => none
  | .ishr => match st with
    | .inl b :: .inl a :: r => some (none, o.2.1, lo, gI (gx_shr a b) :: r, M)
    | _ => none
  | .iushr => match st with
    | .inl b :: .inl a :: r => some (none, o.2.1, lo, gI (gx_ushr a b) :: r, M)
    | _ => none
  | .idiv => match st with
    | .inl b :: .inl a :: r => some (some ((0 ≤ a ∧ a < 2147483648) ∧ 0 < b ∧ b < 2147483648), o.2.1, lo, gI (a / b) :: r, M)
    | _ => none
  | .irem => match st with
    | .inl b :: .inl a :: r => some (some ((0 ≤ a ∧ a < 2147483648) ∧ 0 < b ∧ b < 2147483648), o.2.1, lo, gI (a % b) :: r, M)
    | _ => none
  | .ladd => match st with
    | .inr (.inl b) :: .inr (.inl a) :: r => some (none, o.2.1, lo, gJ (a + b) :: r, M)
    | _ => none
  | .lmul => match st with
    | .inr (.inl b) :: .inr (.inl a) :: r => some (none, o.2.1, lo, gJ (a * b) :: r, M)
    | _ => none
  | .land => match st with
    | .inr (.inl b) :: .inr (.inl a) :: r => some (none, o.2.1, lo, gJ (gx_andL a b) :: r, M)
    | _ => none
  | .lor => match st with
    | .inr (.inl b) :: .inr (.inl a) :: r => some (none, o.2.1, lo, gJ (gx_orL a b) :: r, M)
    | _ => none
  | .lxor => match st with
    | .inr (.inl b) :: .inr (.inl a) :: r => some (none, o.2.1, lo, gJ (gx_xorL a b) :: r, M)
    | _ => none
  | .ldiv => match st with
    | .inr (.inl b) :: .inr (.inl a) :: r => some (some ((0 ≤ a ∧ a < 9223372036854775808) ∧ 0 < b ∧ b < 9223372036854775808), o.2.1, lo, gJ (a / b) :: r, M)
    | _ => none
  | .lrem => match st with
    | .inr (.inl b) :: .inr (.inl a) :: r => some (some ((0 ≤ a ∧ a < 9223372036854775808) ∧ 0 < b ∧ b < 9223372036854775808), o.2.1, lo, gJ (a % b) :: r, M)
    | _ => none
  | .lshl => match st with
    | .inl b :: .inr (.inl a) :: r => some (none, o.2.1, lo, gJ (gx_shlL a b) :: r, M)
    | _ => none
  | .lushr => match st with
    | .inl b :: .inr (.inl a) :: r => some (none, o.2.1, lo, gJ (gx_ushrL a b) :: r, M)
    | _ => none
  | .lcmp => match st with
    | .inr (.inl b) :: .inr (.inl a) :: r => some (some (gx_RL a ∧ gx_RL b), o.2.1, lo, gI (gx_c3 a b) :: r, M)
    | _ => none
  | .i2l => match st with
    | .inl a :: r => some (some (gx_R a), o.2.1, lo, gJ a :: r, M)
    | _ => none
  | .l2i => match st with
    | .inr (.inl a) :: r => some (none, o.2.1, lo, gI a :: r, M)
    | _ => none
  | .dup => match st with
    | v :: r => bif Nat.beq (gx_cat v) 1 then some (none, o.2.1, lo, v :: v :: r, M) else none
    | _ => none
  | .dup2 => match st with
    | v :: w :: r => bif Nat.beq (gx_cat v) 1 && Nat.beq (gx_cat w) 1 then some (none, o.2.1, lo, v :: w :: v :: w :: r, M) else none
    | _ => none
  | .dup_x2 => match st with
    | v :: w :: x :: r => bif Nat.beq (gx_cat v) 1 && (Nat.beq (gx_cat w) 1 && Nat.beq (gx_cat x) 1) then some (none, o.2.1, lo, v :: w :: x :: v :: r, M) else none
    | _ => none
  | .pop => match st with
    | v :: r => bif Nat.beq (gx_cat v) 1 then some (none, o.2.1, lo, r, M) else none
    | _ => none
  | .goto _ => some (none, o.2.2.1, lo, st, M)
  | .ifCond k _ => match st with
    | .inl a :: r => some (some (gx_R a ∧ gx_br (Nat.beq t 1) k a 0), bif Nat.beq t 1 then o.2.2.1 else o.2.1, lo, r, M)
    | _ => none
  | .if_icmp k _ => match st with
    | .inl b :: .inl a :: r => some (some (gx_R a ∧ gx_R b ∧ gx_br (Nat.beq t 1) k a b), bif Nat.beq t 1 then o.2.2.1 else o.2.1, lo, r, M)
    | _ => none
  | .tableswitch d l hi offs => match st with
    | .inl a :: r => (gx_sw pc l hi d offs a).map (fun q => (some (gx_R a), q, lo, r, M))
    | _ => none
  | .lookupswitch d ps => match st with
    | .inl a :: r => (y_off pc (Op.lookupswitch.offset ps.toList d a)).map (fun q => (some (gx_R a), q, lo, r, M))
    | _ => none
  | .getfield _ => match st with
    | .inr (.inr (some (i + 1))) :: r => match gx_at sh i with
      | some (.inl (ci, fs)) => bif Nat.beq ci o.2.2.1 then (match gx_fld fs o.2.2.2.1 with
        | some none => some (none, o.2.1, lo, gI (M i (o.2.2.2.1 : Int)) :: r, M)
        | some (some j) => some (none, o.2.1, lo, gR j :: r, M)
        | none => none) else none
      | _ => none
    | _ => none
  | .putfield _ => match st with
    | .inl v :: .inr (.inr (some (i + 1))) :: r => match gx_at sh i with
      | some (.inl (ci, fs)) => bif Nat.beq ci o.2.2.1 then (match gx_fld fs o.2.2.2.1 with
        | some none => some (bif Nat.beq o.2.2.2.2 0 then none else some (o.2.2.2.2 = 1 ∧ (v = 0 ∨ v = 1)), o.2.1, lo, r, gx_up M i (o.2.2.2.1 : Int) v)
        | _ => none) else none
      | _ => none
    | _ => none
  | .iaload => match st with
    | .inl j :: .inr (.inr (some (i + 1))) :: r => match gx_at sh i with
      | some (.inr (.inl (0, len))) => bif Nat.ble len 1000000 then some (some (0 ≤ j ∧ j < (len : Int)), o.2.1, lo, gI (M i j) :: r, M) else none
      | _ => none
    | .inl j :: .inr (.inr (some 0)) :: r => some (some (0 ≤ j ∧ j < (κ.2.2.2 : Int) ∧ j < 2147483648), o.2.1, lo, gI ((κ.1 j.toNat).toInt) :: r, M)
    | _ => none
  | .baload => match st with
    | .inl j :: .inr (.inr (some (i + 1))) :: r => match gx_at sh i with
      | some (.inr (.inl (1, len))) => bif Nat.ble len 1000000 then some (some (0 ≤ j ∧ j < (len : Int)), o.2.1, lo, gI (M i j) :: r, M) else none
      | _ => none
    | _ => none
  | .laload => match st with
    | .inl j :: .inr (.inr (some (i + 1))) :: r => match gx_at sh i with
      | some (.inr (.inl (3, len))) => bif Nat.ble len 1000000 then some (some (0 ≤ j ∧ j < (len : Int)), o.2.1, lo, gJ (M i j) :: r, M) else none
      | _ => none
    | _ => none
  | .aaload => match st with
    | .inl j :: .inr (.inr (some (i + 1))) :: r => match gx_at sh i with
      | some (.inr (.inr (_, rs))) => bif Nat.ble rs.length 1000000 then (match gx_rf rs t with
        | some q => some (some (j = (t : Int)), o.2.1, lo, gR q :: r, M)
        | none => none) else none
      | _ => none
    | _ => none
  | .iastore => match st with
    | .inl v :: .inl j :: .inr (.inr (some (i + 1))) :: r => match gx_at sh i with
      | some (.inr (.inl (0, len))) => bif Nat.ble len 1000000 then some (some (0 ≤ j ∧ j < (len : Int)), o.2.1, lo, r, gx_up M i j v) else none
      | _ => none
    | _ => none
  | .bastore => match st with
    | .inl v :: .inl j :: .inr (.inr (some (i + 1))) :: r => match gx_at sh i with
      | some (.inr (.inl (1, len))) => bif Nat.ble len 1000000 then some (some ((0 ≤ j ∧ j < (len : Int)) ∧ (v = 0 ∨ v = 1)), o.2.1, lo, r, gx_up M i j v) else none
      | _ => none
    | _ => none
  | .lastore => match st with
    | .inr (.inl v) :: .inl j :: .inr (.inr (some (i + 1))) :: r => match gx_at sh i with
      | some (.inr (.inl (3, len))) => bif Nat.ble len 1000000 then some (some (0 ≤ j ∧ j < (len : Int)), o.2.1, lo, r, gx_up M i j v) else none
      | _ => none
    | _ => none
  | .arraylength => match st with
    | .inr (.inr (some (i + 1))) :: r => match gx_at sh i with
      | some (.inr (.inl (0, len))) => some (none, o.2.1, lo, gI (len : Int) :: r, M)
      | _ => none
    | .inr (.inr (some 0)) :: r => some (none, o.2.1, lo, gI (κ.2.2.2 : Int) :: r, M)
    | _ => none
  | .invokestatic _ => bif Nat.beq o.2.2.2.2 98 then (match st with
    | .inl k :: .inl dp :: .inr (.inr (some (j + 1))) :: .inl sp :: .inr (.inr (some (i + 1))) :: r => match gx_at sh i, gx_at sh j with
      | some (.inr (.inl (0, n0))), some (.inr (.inl (0, n1))) =>
        bif Nat.ble (gx_cats r) 8 && (Nat.ble n0 1000000 && Nat.ble n1 1000000) then
          some (some ((0 ≤ sp ∧ 0 ≤ dp ∧ 0 ≤ k) ∧ sp + k ≤ (n0 : Int) ∧ dp + k ≤ (n1 : Int)), o.2.1, lo, r, gx_cp M i j sp dp k) else none
      | _, _ => none
    | _ => none) else bif Nat.beq o.2.2.2.2 96 then (match st with
    | .inl b :: .inl a :: r => bif Nat.ble (gx_cats r) 8 then some (some (gx_R a ∧ gx_R b), o.2.1, lo, gI (max a b) :: r, M) else none
    | _ => none) else bif Nat.beq o.2.2.2.2 97 then (match st with
    | .inl b :: .inl a :: r => bif Nat.ble (gx_cats r) 8 then some (some (gx_R a ∧ gx_R b), o.2.1, lo, gI (min a b) :: r, M) else none
    | _ => none) else none
  | _ => none
