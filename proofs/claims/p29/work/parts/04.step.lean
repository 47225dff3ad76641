
/-- the constructors that only their nest may call -/
def zN : List (String × Nat × MethodName × String) := [("TokenNets", 11, ⟨"TokenNets$Net", "<init>", "()V"⟩, "TokenNets"), ("TokenNets$History", 17, ⟨"TokenNets$Net", "<init>", "()V"⟩, "TokenNets"), ("TokenNets", 33, ⟨"TokenNets$Pad", "<init>", "()V"⟩, "TokenNets"), ("TokenNets", 40, ⟨"TokenNets$Sums", "<init>", "()V"⟩, "TokenNets"), ("TokenNets$Sums", 11, ⟨"TokenNets$Net", "<init>", "()V"⟩, "TokenNets"), ("TokenNets", 47, ⟨"TokenNets$Reach", "<init>", "()V"⟩, "TokenNets"), ("TokenNets$Reach", 11, ⟨"TokenNets$Marks", "<init>", "()V"⟩, "TokenNets"), ("TokenNets$Marks", 11, ⟨"TokenNets$Net", "<init>", "()V"⟩, "TokenNets"), ("TokenNets", 54, ⟨"TokenNets$Tree", "<init>", "()V"⟩, "TokenNets"), ("TokenNets$Tree", 11, ⟨"TokenNets$Marks", "<init>", "()V"⟩, "TokenNets")]
def y_aux (U : State) : Prop := va_AO RX3 U ∧ ∀ q ∈ zN, va_Nw (.methodLinkNest q.1 q.2.1 q.2.2.1 q.2.2.2) U
theorem y_aux_call {U : State} {g : JFrame} {mk : MethodId} {a : Array Value} (h : y_aux U) : y_aux (U.calling g mk a) := ⟨va_AO.moved (u := U) (U := U.calling g mk a) (Vm.Alike.refl U.vm) h.1, fun q hq => va_Nw.same (u := U) (U := U.calling g mk a) rfl rfl (h.2 q hq)⟩
theorem y_aux_warm {s U : State} (hW : s.WarmedH U.vm) (h : y_aux s) : y_aux U := ⟨va_AO.moved hW.alike h.1, fun q hq => va_Nw.warmM hW (h.2 q hq)⟩
def y_fl (own : String) (idx r1 r2 : Nat) : Bool := match vwCl[r1]? with
  | none => false
  | some r => decide (r2 < r.2.2) && yM (Cond.fieldLink own idx (r.2.1 r2).1 (r.2.1 r2).2.1 (r.2.1 r2).2.2.1)
def y_pk (r3 : Nat) (ty : Option FieldType) : Bool := match ty with
  | some .int => Nat.beq r3 0
  | some .boolean => Nat.beq r3 1
  | some (.object _) => Nat.beq r3 2
  | some (.array _) => Nat.beq r3 2
  | _ => false
def y_pf (own yn : String) (r1 r2 r3 : Nat) : Bool := match vwCl[r1]? with
  | none => false
  | some r => y_pk r3 (parseFieldDescriptor (r.2.1 r2).2.2.1) && (!(r.2.1 r2).2.2.2 || (decide (yn = "<init>") && decide ((r.2.1 r2).1 = own)))
def y_dk (b : Bool) (ty : Option FieldType) : Bool := match ty with
  | some .int => !b
  | some .boolean => !b
  | some (.object _) => b
  | some (.array _) => b
  | _ => false
def y_nw (own : String) (idx r1 r2 r3 : Nat) : Bool := match vwCl[r1]? with
  | none => false
  | some r => decide (r.2.2 = r2) && (yM (Cond.classLink own idx r.1) && (yM (Cond.instantiable r.1 r2) && (yM (Cond.initialized r.1) && (List.range r2).all (fun k => y_dk (Nat.testBit r3 k) (parseFieldDescriptor (r.2.1 k).2.2.1)))))
def y_an (own : String) (idx r1 : Nat) : Bool := match vwCl[r1]? with
  | none => false
  | some r => decide (r.1 = RX3) && yM (Cond.classLink own idx r.1)
/-- an instruction as it is resolved is the method's own -/
def y_okin (nL : Nat) (own yn : String) (pc : Nat) (o : yO) : Bool := match o.1 with
  | .iconst k => decide (o.2.1 = pc + 1) && decide (Int32.ofInt k = nI o.2.2.1)
  | .bipush k => decide (o.2.1 = pc + 2) && decide ((Int8.ofInt k).toInt32 = nI o.2.2.1)
  | .sipush k => decide (o.2.1 = pc + 3) && decide ((Int16.ofInt k).toInt32 = nI o.2.2.1)
  | .ldc k => decide (o.2.1 = pc + 2) && yM (Cond.constant own k (nI o.2.2.1))
  | .ldc_w k => decide (o.2.1 = pc + 3) && yM (Cond.constant own k (nI o.2.2.1))
  | .lconst k => decide (o.2.1 = pc + 1) && decide (Int64.ofNat (k : Nat) = lN o.2.2.1)
  | .ldc2_w k => decide (o.2.1 = pc + 3) && yM (Cond.constantLong own k (lN o.2.2.1))
  | .iload_n _ | .lload_n _ | .aload_n _ | .iadd | .isub | .imul | .iand | .ior | .ishl | .ishr | .iushr | .irem | .i2c | .l2i | .i2l | .land | .lor | .lshl | .lushr | .lcmp | .dup | .dup2 | .pop => decide (o.2.1 = pc + 1)
  | .idiv | .ixor | .ladd | .lmul | .ldiv | .lrem | .lxor | .dup_x2 | .laload | .lastore => decide (o.2.1 = pc + 1)
  | .iaload | .baload | .aaload | .iastore | .bastore | .castore | .aastore | .arraylength => decide (o.2.1 = pc + 1)
  | .iload _ | .lload _ | .aload _ => decide (o.2.1 = pc + 2)
  | .istore_n k => decide (o.2.1 = pc + 1) && decide ((k : Nat) < nL)
  | .astore_n k => decide (o.2.1 = pc + 1) && decide ((k : Nat) < nL)
  | .lstore_n k => decide (o.2.1 = pc + 1) && decide ((k : Nat) + 1 < nL)
  | .istore k => decide (o.2.1 = pc + 2) && decide (k < nL)
  | .astore k => decide (o.2.1 = pc + 2) && decide (k < nL)
  | .lstore k => decide (o.2.1 = pc + 2) && decide (k + 1 < nL)
  | .iinc k d => decide (o.2.1 = pc + 3) && (decide (k < nL) && decide (Int32.ofInt d = nI o.2.2.1))
  | .goto off => decide (o.2.1 = pc + 3) && decide ((pc : Int) + off = (o.2.2.1 : Int))
  | .ifCond _ off => decide (o.2.1 = pc + 3) && decide ((pc : Int) + off = (o.2.2.1 : Int))
  | .if_icmp _ off => decide (o.2.1 = pc + 3) && decide ((pc : Int) + off = (o.2.2.1 : Int))
  | .tableswitch _ _ _ _ => true
  | .lookupswitch _ ps => (ps.toList.zip (ps.toList.drop 1)).all (fun (a, next) => a.1 < next.1)
  | .getfield k => decide (o.2.1 = pc + 3) && y_fl own k o.2.2.1 o.2.2.2.1
  | .putfield k => decide (o.2.1 = pc + 3) && (y_fl own k o.2.2.1 o.2.2.2.1 && y_pf own yn o.2.2.1 o.2.2.2.1 o.2.2.2.2)
  | .new k => decide (o.2.1 = pc + 3) && y_nw own k o.2.2.1 o.2.2.2.1 o.2.2.2.2
  | .newarray .int => decide (o.2.1 = pc + 2) && (decide (o.2.2.1 = 0) && yM (Cond.arrayClass .int))
  | .newarray .boolean => decide (o.2.1 = pc + 2) && (decide (o.2.2.1 = 1) && yM (Cond.arrayClass .boolean))
  | .newarray .char => decide (o.2.1 = pc + 2) && (decide (o.2.2.1 = 2) && yM (Cond.arrayClass .char))
  | .newarray .long => decide (o.2.1 = pc + 2) && (decide (o.2.2.1 = 3) && yM (Cond.arrayClass .long))
  | .anewarray k => decide (o.2.1 = pc + 3) && y_an own k o.2.2.1
  | .ireturn => decide (o.2.1 = pc + 1)
  | .lreturn => decide (o.2.1 = pc + 1)
  | .return_ => decide (o.2.1 = pc + 1)
  | .invokevirtual _ => decide (o.2.1 = pc + 3)
  | .invokespecial k => decide (o.2.1 = pc + 3) && (!(Nat.beq o.2.2.2.2 99) || (yM (Cond.methodLink own k objectInit) && (yM (Cond.instanceMethod objectInit) && yM (Cond.code objectInit ⟨#[0xb1]⟩ 1 none))))
  | .invokestatic k => decide (o.2.1 = pc + 3) && ((!(Nat.beq o.2.2.2.2 98) || (yM (Cond.methodLink own k arraycopyName) && (yM (Cond.native arraycopyName) && (yM (Cond.static arraycopyName) && yM (Cond.initialized "java/lang/System"))))) && ((!(Nat.beq o.2.2.2.2 96) || (yM (Cond.methodLink own k Lib.Math.max.name) && (yM (Cond.static Lib.Math.max.name) && (yM (Cond.initialized "java/lang/Math") && yM (Cond.code Lib.Math.max.name Lib.Math.max.code 2 (some .int)))))) && (!(Nat.beq o.2.2.2.2 97) || (yM (Cond.methodLink own k Lib.Math.min.name) && (yM (Cond.static Lib.Math.min.name) && (yM (Cond.initialized "java/lang/Math") && yM (Cond.code Lib.Math.min.name Lib.Math.min.code 2 (some .int))))))))
  | _ => false
def y_okop (nL : Nat) (own yn : String) (cc : ByteArray) (q : Nat × yO) : Bool := decide (decode cc q.1 = .ok (q.2.1, q.2.2.1 - q.1)) && y_okin nL own yn q.1 q.2
def y_cls (r : vw_C) : Bool := (u_ws r.1 r.2.1 r.2.2).all yM && ((List.range r.2.2).all (fun k => (parseFieldDescriptor (r.2.1 k).2.2.1).isSome) && (List.range r.2.2).all (fun a => (List.range r.2.2).all (fun b => decide (a = b) || decide ((r.2.1 a).2.1 ≠ (r.2.1 b).2.1))))
set_option maxRecDepth 100000 in
theorem y_cls_all : vwCl.all y_cls = true := by decide +kernel
theorem y_cls_ok {ci : Nat} {r : vw_C} (h : vwCl[ci]? = some r) : (∀ w ∈ u_ws r.1 r.2.1 r.2.2, w ∈ yCT) ∧ (∀ k, k < r.2.2 → parseFieldDescriptor (r.2.1 k).2.2.1 = some ((parseFieldDescriptor (r.2.1 k).2.2.1).getD .int)) ∧ ∀ a, a < r.2.2 → ∀ b, b < r.2.2 → a ≠ b → (r.2.1 a).2.1 ≠ (r.2.1 b).2.1 := by
  have h1 := List.all_eq_true.mp y_cls_all r (List.mem_of_getElem? h)
  unfold y_cls at h1
  simp only [Bool.and_eq_true, List.all_eq_true, List.mem_range, decide_eq_true_eq, Bool.or_eq_true] at h1
  obtain ⟨g1, g2, g3⟩ := h1
  refine ⟨fun w hw => yM_ok (g1 w hw), fun k hk => ?_, fun a ha b hb hab => ?_⟩
  · obtain ⟨ty, hty⟩ := Option.isSome_iff_exists.mp (g2 k hk)
    rw [hty]
    rfl
  · rcases g3 a ha b hb with h | h
    · exact absurd h hab
    · exact h
def y_Z (κ : yK) (D : va_G) (A : Nat → Prop) (s : State) (nL : Nat) (α : List Nat) (tys : List (ClassId × FieldType)) (ws : va_W) (H : Heap) (locs : List Loc) (ls : Array Slot) (lv : List (Nat × Value)) (sv : List Value) (l : yL) (st : List yV) (h : List yC) : Prop :=
  y_h κ α tys h ws ∧ y_dl κ α l lv ∧ y_ds κ α st sv ∧ lv_has ls nL lv ∧ va_P D vwCl ws H ∧ va_K D vwCl tys s ∧ va_D A ws ∧ va_S A s.heap H locs
def y_ctx (κ : yK) (sc : Bool) (p : Program) (R : Room) (s : State) (m : MethodId) (args : Array Value) (meth : Method) (c : Code) (cc : ByteArray) (own yn : String) (nL : Nat) (A : Nat → Prop) : Prop :=
  p.tables.exec = Jvm.exec ∧ c.code = cc ∧ c.maxLocals = nL ∧ s.vm.findClass own = some m.cls ∧ (∀ w ∈ yCT, w.before args s = true) ∧ (yn = "<init>" → meth.name = "<init>") ∧ y_aux s ∧ (∀ q, s.heap.size ≤ q → A q) ∧ 1 ≤ R.frames ∧ 60 ≤ R.locals ∧ (sc = true → va_X κ.2.2.1 κ.2.2.2 κ.1 s s.heap ∧ κ.2.2.1 < s.heap.size ∧ ¬ A κ.2.2.1)
theorem y_bin_ok {κ : yK} {α : List Nat} {tb : yT} {op : Nat} {f : Nat → Nat → Option Nat} {st st' : List yV} {sv : List Value} (g : Int32 → Int32 → Int32) (h1 : ∀ x y z, f x y = some z → g (nI x) (nI y) = nI z) (h2 : ∀ a b v, y_lookT tb op a b = some v → g (y_i κ a) (y_i κ b) = y_i κ v) (hb : y_bin tb op f st = some st') (hd : y_ds κ α st sv) :
    ∃ x y xs, sv = .int y :: .int x :: xs ∧ y_ds κ α st' (.int (g x y) :: xs) := by
  rcases st with _ | ⟨b | b, _ | ⟨a | a, r⟩⟩
  · cases hb
  · cases hb
  · obtain ⟨ys, rfl, hd1⟩ := y_ds_ci hd
    obtain ⟨xs, rfl, hd2⟩ := y_ds_ci hd1
    refine ⟨_, _, _, rfl, ?_⟩
    rcases a with x | x <;> rcases b with y | y
    · obtain ⟨z, hz, rfl⟩ := Option.map_eq_some_iff.mp hb
      exact y_ds_i (h1 x y z hz).symm hd2
    · obtain ⟨z, hz, rfl⟩ := Option.map_eq_some_iff.mp hb
      exact y_ds_i (h2 _ _ _ hz).symm hd2
    · obtain ⟨z, hz, rfl⟩ := Option.map_eq_some_iff.mp hb
      exact y_ds_i (h2 _ _ _ hz).symm hd2
    · obtain ⟨z, hz, rfl⟩ := Option.map_eq_some_iff.mp hb
      exact y_ds_i (h2 _ _ _ hz).symm hd2
  · cases hb
  · cases hb
  · cases hb
  · cases hb
theorem y_no {κ : yK} {tb : yT} {a b v : yI} {P : Prop} (hT : y_T κ tb) (h : y_lookT tb 99 a b = some v) : P := (y_lookT_ok hT h : False).elim

section YSTEP
variable {p : Program} {l : Launch} {e : Env} {R : Room} {s : State} {m : MethodId} {args : Array Value} {below : List Frame} {meth : Method} {c : Code} {H : Heap} {locs : List Loc} {Q : State → Prop} {ls : Array Slot}
variable {κ : yK} {D : va_G} {A : Nat → Prop} {α : List Nat} {tys : List (ClassId × FieldType)} {ws : va_W} {lv : List (Nat × Value)} {sv : List Value} {lo : yL} {st : List yV} {h : List yC} {cc : ByteArray} {own yn : String} {nL : Nat} {hy : yF} {tb : yT} {sc : Bool} {pc k n : Nat} {S' : yS}

set_option maxHeartbeats 4000000 in
set_option maxRecDepth 100000 in
theorem y_st_iconst {i : Int} {nx r1 r2 r3 : Nat} (C : y_ctx κ sc p R s m args meth c cc own yn nL A) (hH : y_H κ hy) (hT : y_T κ tb) (hok : y_okop nL own yn cc (pc, (.iconst i, nx, r1, r2, r3)) = true) (hs : y_step sc κ.2.2.2 hy tb pc (.iconst i, nx, r1, r2, r3) lo st h k n = some S') (hk : S'.2.2.2.2.1 ≤ R.cells) (hn : S'.2.2.2.2.2 ≤ R.slots) (Z : y_Z κ D A s nL α tys ws H locs ls lv sv lo st h)
    (kk : ∀ α' tys' ws' H' locs' ls' lv' sv', α <+: α' → y_Z κ D A s nL α' tys' ws' H' locs' ls' lv' sv' S'.2.1 S'.2.2.1 S'.2.2.2.1 → W p l e R s m args below meth c H' locs' S'.2.2.2.2.1 S'.2.2.2.2.2 Q (F0 m S'.1 ls' sv')) : W p l e R s m args below meth c H locs k n Q (F0 m pc ls sv) := by
  obtain ⟨hx, hb, hml, hown, hts, hyn, hAO, hA, hRf, hRl, hsc⟩ := C
  obtain ⟨hh, hl, hst, hls, hP, hK, hD, hS⟩ := Z
  unfold y_okop y_okin at hok
  simp only [Bool.and_eq_true, decide_eq_true_eq] at hok
  obtain ⟨hdg, hok⟩ := hok
  unfold y_step at hs
  dsimp only at hs
  obtain ⟨rfl, hv⟩ := hok
  rw [Nat.add_sub_cancel_left] at hdg
  cases hs
  exact lv_iconst hx hb hdg hv (kk α tys ws H locs ls lv _ (List.prefix_refl _) ⟨hh, hl, y_ds_i rfl hst, hls, hP, hK, hD, hS⟩)

set_option maxHeartbeats 4000000 in
set_option maxRecDepth 100000 in
theorem y_st_bipush {i : Int} {nx r1 r2 r3 : Nat} (C : y_ctx κ sc p R s m args meth c cc own yn nL A) (hH : y_H κ hy) (hT : y_T κ tb) (hok : y_okop nL own yn cc (pc, (.bipush i, nx, r1, r2, r3)) = true) (hs : y_step sc κ.2.2.2 hy tb pc (.bipush i, nx, r1, r2, r3) lo st h k n = some S') (hk : S'.2.2.2.2.1 ≤ R.cells) (hn : S'.2.2.2.2.2 ≤ R.slots) (Z : y_Z κ D A s nL α tys ws H locs ls lv sv lo st h)
    (kk : ∀ α' tys' ws' H' locs' ls' lv' sv', α <+: α' → y_Z κ D A s nL α' tys' ws' H' locs' ls' lv' sv' S'.2.1 S'.2.2.1 S'.2.2.2.1 → W p l e R s m args below meth c H' locs' S'.2.2.2.2.1 S'.2.2.2.2.2 Q (F0 m S'.1 ls' sv')) : W p l e R s m args below meth c H locs k n Q (F0 m pc ls sv) := by
  obtain ⟨hx, hb, hml, hown, hts, hyn, hAO, hA, hRf, hRl, hsc⟩ := C
  obtain ⟨hh, hl, hst, hls, hP, hK, hD, hS⟩ := Z
  unfold y_okop y_okin at hok
  simp only [Bool.and_eq_true, decide_eq_true_eq] at hok
  obtain ⟨hdg, hok⟩ := hok
  unfold y_step at hs
  dsimp only at hs
  obtain ⟨rfl, hv⟩ := hok
  rw [Nat.add_sub_cancel_left] at hdg
  cases hs
  exact lv_bipush hx hb hdg hv (kk α tys ws H locs ls lv _ (List.prefix_refl _) ⟨hh, hl, y_ds_i rfl hst, hls, hP, hK, hD, hS⟩)

set_option maxHeartbeats 4000000 in
set_option maxRecDepth 100000 in
theorem y_st_sipush {i : Int} {nx r1 r2 r3 : Nat} (C : y_ctx κ sc p R s m args meth c cc own yn nL A) (hH : y_H κ hy) (hT : y_T κ tb) (hok : y_okop nL own yn cc (pc, (.sipush i, nx, r1, r2, r3)) = true) (hs : y_step sc κ.2.2.2 hy tb pc (.sipush i, nx, r1, r2, r3) lo st h k n = some S') (hk : S'.2.2.2.2.1 ≤ R.cells) (hn : S'.2.2.2.2.2 ≤ R.slots) (Z : y_Z κ D A s nL α tys ws H locs ls lv sv lo st h)
    (kk : ∀ α' tys' ws' H' locs' ls' lv' sv', α <+: α' → y_Z κ D A s nL α' tys' ws' H' locs' ls' lv' sv' S'.2.1 S'.2.2.1 S'.2.2.2.1 → W p l e R s m args below meth c H' locs' S'.2.2.2.2.1 S'.2.2.2.2.2 Q (F0 m S'.1 ls' sv')) : W p l e R s m args below meth c H locs k n Q (F0 m pc ls sv) := by
  obtain ⟨hx, hb, hml, hown, hts, hyn, hAO, hA, hRf, hRl, hsc⟩ := C
  obtain ⟨hh, hl, hst, hls, hP, hK, hD, hS⟩ := Z
  unfold y_okop y_okin at hok
  simp only [Bool.and_eq_true, decide_eq_true_eq] at hok
  obtain ⟨hdg, hok⟩ := hok
  unfold y_step at hs
  dsimp only at hs
  obtain ⟨rfl, hv⟩ := hok
  rw [Nat.add_sub_cancel_left] at hdg
  cases hs
  exact lv_sipush hx hb hdg hv (kk α tys ws H locs ls lv _ (List.prefix_refl _) ⟨hh, hl, y_ds_i rfl hst, hls, hP, hK, hD, hS⟩)

set_option maxHeartbeats 4000000 in
set_option maxRecDepth 100000 in
theorem y_st_ldc {i : Nat} {nx r1 r2 r3 : Nat} (C : y_ctx κ sc p R s m args meth c cc own yn nL A) (hH : y_H κ hy) (hT : y_T κ tb) (hok : y_okop nL own yn cc (pc, (.ldc i, nx, r1, r2, r3)) = true) (hs : y_step sc κ.2.2.2 hy tb pc (.ldc i, nx, r1, r2, r3) lo st h k n = some S') (hk : S'.2.2.2.2.1 ≤ R.cells) (hn : S'.2.2.2.2.2 ≤ R.slots) (Z : y_Z κ D A s nL α tys ws H locs ls lv sv lo st h)
    (kk : ∀ α' tys' ws' H' locs' ls' lv' sv', α <+: α' → y_Z κ D A s nL α' tys' ws' H' locs' ls' lv' sv' S'.2.1 S'.2.2.1 S'.2.2.2.1 → W p l e R s m args below meth c H' locs' S'.2.2.2.2.1 S'.2.2.2.2.2 Q (F0 m S'.1 ls' sv')) : W p l e R s m args below meth c H locs k n Q (F0 m pc ls sv) := by
  obtain ⟨hx, hb, hml, hown, hts, hyn, hAO, hA, hRf, hRl, hsc⟩ := C
  obtain ⟨hh, hl, hst, hls, hP, hK, hD, hS⟩ := Z
  unfold y_okop y_okin at hok
  simp only [Bool.and_eq_true, decide_eq_true_eq] at hok
  obtain ⟨hdg, hok⟩ := hok
  unfold y_step at hs
  dsimp only at hs
  obtain ⟨rfl, hv⟩ := hok
  rw [Nat.add_sub_cancel_left] at hdg
  cases hs
  exact lv_ldc hx hb hown (hts _ (yM_ok hv)) hdg (kk α tys ws H locs ls lv _ (List.prefix_refl _) ⟨hh, hl, y_ds_i rfl hst, hls, hP, hK, hD, hS⟩)

set_option maxHeartbeats 4000000 in
set_option maxRecDepth 100000 in
theorem y_st_ldcw {i : Nat} {nx r1 r2 r3 : Nat} (C : y_ctx κ sc p R s m args meth c cc own yn nL A) (hH : y_H κ hy) (hT : y_T κ tb) (hok : y_okop nL own yn cc (pc, (.ldc_w i, nx, r1, r2, r3)) = true) (hs : y_step sc κ.2.2.2 hy tb pc (.ldc_w i, nx, r1, r2, r3) lo st h k n = some S') (hk : S'.2.2.2.2.1 ≤ R.cells) (hn : S'.2.2.2.2.2 ≤ R.slots) (Z : y_Z κ D A s nL α tys ws H locs ls lv sv lo st h)
    (kk : ∀ α' tys' ws' H' locs' ls' lv' sv', α <+: α' → y_Z κ D A s nL α' tys' ws' H' locs' ls' lv' sv' S'.2.1 S'.2.2.1 S'.2.2.2.1 → W p l e R s m args below meth c H' locs' S'.2.2.2.2.1 S'.2.2.2.2.2 Q (F0 m S'.1 ls' sv')) : W p l e R s m args below meth c H locs k n Q (F0 m pc ls sv) := by
  obtain ⟨hx, hb, hml, hown, hts, hyn, hAO, hA, hRf, hRl, hsc⟩ := C
  obtain ⟨hh, hl, hst, hls, hP, hK, hD, hS⟩ := Z
  unfold y_okop y_okin at hok
  simp only [Bool.and_eq_true, decide_eq_true_eq] at hok
  obtain ⟨hdg, hok⟩ := hok
  unfold y_step at hs
  dsimp only at hs
  obtain ⟨rfl, hv⟩ := hok
  rw [Nat.add_sub_cancel_left] at hdg
  cases hs
  exact lv_ldcw hx hb hown (hts _ (yM_ok hv)) hdg (kk α tys ws H locs ls lv _ (List.prefix_refl _) ⟨hh, hl, y_ds_i rfl hst, hls, hP, hK, hD, hS⟩)

set_option maxHeartbeats 4000000 in
set_option maxRecDepth 100000 in
theorem y_st_lconst {i : Fin 2} {nx r1 r2 r3 : Nat} (C : y_ctx κ sc p R s m args meth c cc own yn nL A) (hH : y_H κ hy) (hT : y_T κ tb) (hok : y_okop nL own yn cc (pc, (.lconst i, nx, r1, r2, r3)) = true) (hs : y_step sc κ.2.2.2 hy tb pc (.lconst i, nx, r1, r2, r3) lo st h k n = some S') (hk : S'.2.2.2.2.1 ≤ R.cells) (hn : S'.2.2.2.2.2 ≤ R.slots) (Z : y_Z κ D A s nL α tys ws H locs ls lv sv lo st h)
    (kk : ∀ α' tys' ws' H' locs' ls' lv' sv', α <+: α' → y_Z κ D A s nL α' tys' ws' H' locs' ls' lv' sv' S'.2.1 S'.2.2.1 S'.2.2.2.1 → W p l e R s m args below meth c H' locs' S'.2.2.2.2.1 S'.2.2.2.2.2 Q (F0 m S'.1 ls' sv')) : W p l e R s m args below meth c H locs k n Q (F0 m pc ls sv) := by
  obtain ⟨hx, hb, hml, hown, hts, hyn, hAO, hA, hRf, hRl, hsc⟩ := C
  obtain ⟨hh, hl, hst, hls, hP, hK, hD, hS⟩ := Z
  unfold y_okop y_okin at hok
  simp only [Bool.and_eq_true, decide_eq_true_eq] at hok
  obtain ⟨hdg, hok⟩ := hok
  unfold y_step at hs
  dsimp only at hs
  obtain ⟨rfl, hv⟩ := hok
  rw [Nat.add_sub_cancel_left] at hdg
  cases hs
  exact lv_lconst hx hb hdg hv (kk α tys ws H locs ls lv _ (List.prefix_refl _) ⟨hh, hl, y_ds_l rfl hst, hls, hP, hK, hD, hS⟩)

set_option maxHeartbeats 4000000 in
set_option maxRecDepth 100000 in
theorem y_st_ldc2 {i : Nat} {nx r1 r2 r3 : Nat} (C : y_ctx κ sc p R s m args meth c cc own yn nL A) (hH : y_H κ hy) (hT : y_T κ tb) (hok : y_okop nL own yn cc (pc, (.ldc2_w i, nx, r1, r2, r3)) = true) (hs : y_step sc κ.2.2.2 hy tb pc (.ldc2_w i, nx, r1, r2, r3) lo st h k n = some S') (hk : S'.2.2.2.2.1 ≤ R.cells) (hn : S'.2.2.2.2.2 ≤ R.slots) (Z : y_Z κ D A s nL α tys ws H locs ls lv sv lo st h)
    (kk : ∀ α' tys' ws' H' locs' ls' lv' sv', α <+: α' → y_Z κ D A s nL α' tys' ws' H' locs' ls' lv' sv' S'.2.1 S'.2.2.1 S'.2.2.2.1 → W p l e R s m args below meth c H' locs' S'.2.2.2.2.1 S'.2.2.2.2.2 Q (F0 m S'.1 ls' sv')) : W p l e R s m args below meth c H locs k n Q (F0 m pc ls sv) := by
  obtain ⟨hx, hb, hml, hown, hts, hyn, hAO, hA, hRf, hRl, hsc⟩ := C
  obtain ⟨hh, hl, hst, hls, hP, hK, hD, hS⟩ := Z
  unfold y_okop y_okin at hok
  simp only [Bool.and_eq_true, decide_eq_true_eq] at hok
  obtain ⟨hdg, hok⟩ := hok
  unfold y_step at hs
  dsimp only at hs
  obtain ⟨rfl, hv⟩ := hok
  rw [Nat.add_sub_cancel_left] at hdg
  cases hs
  exact lv_ldc2 hx hb hown (hts _ (yM_ok hv)) hdg (kk α tys ws H locs ls lv _ (List.prefix_refl _) ⟨hh, hl, y_ds_l rfl hst, hls, hP, hK, hD, hS⟩)

set_option maxHeartbeats 4000000 in
set_option maxRecDepth 100000 in
theorem y_st_iloadn {i : Fin 4} {nx r1 r2 r3 : Nat} (C : y_ctx κ sc p R s m args meth c cc own yn nL A) (hH : y_H κ hy) (hT : y_T κ tb) (hok : y_okop nL own yn cc (pc, (.iload_n i, nx, r1, r2, r3)) = true) (hs : y_step sc κ.2.2.2 hy tb pc (.iload_n i, nx, r1, r2, r3) lo st h k n = some S') (hk : S'.2.2.2.2.1 ≤ R.cells) (hn : S'.2.2.2.2.2 ≤ R.slots) (Z : y_Z κ D A s nL α tys ws H locs ls lv sv lo st h)
    (kk : ∀ α' tys' ws' H' locs' ls' lv' sv', α <+: α' → y_Z κ D A s nL α' tys' ws' H' locs' ls' lv' sv' S'.2.1 S'.2.2.1 S'.2.2.2.1 → W p l e R s m args below meth c H' locs' S'.2.2.2.2.1 S'.2.2.2.2.2 Q (F0 m S'.1 ls' sv')) : W p l e R s m args below meth c H locs k n Q (F0 m pc ls sv) := by
  obtain ⟨hx, hb, hml, hown, hts, hyn, hAO, hA, hRf, hRl, hsc⟩ := C
  obtain ⟨hh, hl, hst, hls, hP, hK, hD, hS⟩ := Z
  unfold y_okop y_okin at hok
  simp only [Bool.and_eq_true, decide_eq_true_eq] at hok
  obtain ⟨hdg, hok⟩ := hok
  unfold y_step at hs
  dsimp only at hs
  obtain rfl := hok
  rw [Nat.add_sub_cancel_left] at hdg
  cases hg : y_lget lo i with
  | none => rw [hg] at hs; cases hs
  | some v =>
    rw [hg] at hs
    obtain ⟨x, hx1, hx2⟩ := y_dl_get hl hg
    rcases v with a | a | _ | a
    · cases hs
      cases hx2
      exact lv_iload_n hx hb hdg rfl (hls.2.2 _ hx1) (kk α tys ws H locs ls lv _ (List.prefix_refl _) ⟨hh, hl, y_ds_i rfl hst, hls, hP, hK, hD, hS⟩)
    · cases hs
    · cases hs
    · cases hs

set_option maxHeartbeats 4000000 in
set_option maxRecDepth 100000 in
theorem y_st_iload {i : Nat} {nx r1 r2 r3 : Nat} (C : y_ctx κ sc p R s m args meth c cc own yn nL A) (hH : y_H κ hy) (hT : y_T κ tb) (hok : y_okop nL own yn cc (pc, (.iload i, nx, r1, r2, r3)) = true) (hs : y_step sc κ.2.2.2 hy tb pc (.iload i, nx, r1, r2, r3) lo st h k n = some S') (hk : S'.2.2.2.2.1 ≤ R.cells) (hn : S'.2.2.2.2.2 ≤ R.slots) (Z : y_Z κ D A s nL α tys ws H locs ls lv sv lo st h)
    (kk : ∀ α' tys' ws' H' locs' ls' lv' sv', α <+: α' → y_Z κ D A s nL α' tys' ws' H' locs' ls' lv' sv' S'.2.1 S'.2.2.1 S'.2.2.2.1 → W p l e R s m args below meth c H' locs' S'.2.2.2.2.1 S'.2.2.2.2.2 Q (F0 m S'.1 ls' sv')) : W p l e R s m args below meth c H locs k n Q (F0 m pc ls sv) := by
  obtain ⟨hx, hb, hml, hown, hts, hyn, hAO, hA, hRf, hRl, hsc⟩ := C
  obtain ⟨hh, hl, hst, hls, hP, hK, hD, hS⟩ := Z
  unfold y_okop y_okin at hok
  simp only [Bool.and_eq_true, decide_eq_true_eq] at hok
  obtain ⟨hdg, hok⟩ := hok
  unfold y_step at hs
  dsimp only at hs
  obtain rfl := hok
  rw [Nat.add_sub_cancel_left] at hdg
  cases hg : y_lget lo i with
  | none => rw [hg] at hs; cases hs
  | some v =>
    rw [hg] at hs
    obtain ⟨x, hx1, hx2⟩ := y_dl_get hl hg
    rcases v with a | a | _ | a
    · cases hs
      cases hx2
      exact lv_iload hx hb hdg (hls.2.2 _ hx1) (kk α tys ws H locs ls lv _ (List.prefix_refl _) ⟨hh, hl, y_ds_i rfl hst, hls, hP, hK, hD, hS⟩)
    · cases hs
    · cases hs
    · cases hs

set_option maxHeartbeats 4000000 in
set_option maxRecDepth 100000 in
theorem y_st_lloadn {i : Fin 4} {nx r1 r2 r3 : Nat} (C : y_ctx κ sc p R s m args meth c cc own yn nL A) (hH : y_H κ hy) (hT : y_T κ tb) (hok : y_okop nL own yn cc (pc, (.lload_n i, nx, r1, r2, r3)) = true) (hs : y_step sc κ.2.2.2 hy tb pc (.lload_n i, nx, r1, r2, r3) lo st h k n = some S') (hk : S'.2.2.2.2.1 ≤ R.cells) (hn : S'.2.2.2.2.2 ≤ R.slots) (Z : y_Z κ D A s nL α tys ws H locs ls lv sv lo st h)
    (kk : ∀ α' tys' ws' H' locs' ls' lv' sv', α <+: α' → y_Z κ D A s nL α' tys' ws' H' locs' ls' lv' sv' S'.2.1 S'.2.2.1 S'.2.2.2.1 → W p l e R s m args below meth c H' locs' S'.2.2.2.2.1 S'.2.2.2.2.2 Q (F0 m S'.1 ls' sv')) : W p l e R s m args below meth c H locs k n Q (F0 m pc ls sv) := by
  obtain ⟨hx, hb, hml, hown, hts, hyn, hAO, hA, hRf, hRl, hsc⟩ := C
  obtain ⟨hh, hl, hst, hls, hP, hK, hD, hS⟩ := Z
  unfold y_okop y_okin at hok
  simp only [Bool.and_eq_true, decide_eq_true_eq] at hok
  obtain ⟨hdg, hok⟩ := hok
  unfold y_step at hs
  dsimp only at hs
  obtain rfl := hok
  rw [Nat.add_sub_cancel_left] at hdg
  cases hg : y_lget lo i with
  | none => rw [hg] at hs; cases hs
  | some v =>
    rw [hg] at hs
    obtain ⟨x, hx1, hx2⟩ := y_dl_get hl hg
    rcases v with a | a | _ | a
    · cases hs
    · cases hs
      cases hx2
      exact lv_lload_n hx hb hdg rfl (hls.2.2 _ hx1) (kk α tys ws H locs ls lv _ (List.prefix_refl _) ⟨hh, hl, y_ds_l rfl hst, hls, hP, hK, hD, hS⟩)
    · cases hs
    · cases hs

set_option maxHeartbeats 4000000 in
set_option maxRecDepth 100000 in
theorem y_st_lload {i : Nat} {nx r1 r2 r3 : Nat} (C : y_ctx κ sc p R s m args meth c cc own yn nL A) (hH : y_H κ hy) (hT : y_T κ tb) (hok : y_okop nL own yn cc (pc, (.lload i, nx, r1, r2, r3)) = true) (hs : y_step sc κ.2.2.2 hy tb pc (.lload i, nx, r1, r2, r3) lo st h k n = some S') (hk : S'.2.2.2.2.1 ≤ R.cells) (hn : S'.2.2.2.2.2 ≤ R.slots) (Z : y_Z κ D A s nL α tys ws H locs ls lv sv lo st h)
    (kk : ∀ α' tys' ws' H' locs' ls' lv' sv', α <+: α' → y_Z κ D A s nL α' tys' ws' H' locs' ls' lv' sv' S'.2.1 S'.2.2.1 S'.2.2.2.1 → W p l e R s m args below meth c H' locs' S'.2.2.2.2.1 S'.2.2.2.2.2 Q (F0 m S'.1 ls' sv')) : W p l e R s m args below meth c H locs k n Q (F0 m pc ls sv) := by
  obtain ⟨hx, hb, hml, hown, hts, hyn, hAO, hA, hRf, hRl, hsc⟩ := C
  obtain ⟨hh, hl, hst, hls, hP, hK, hD, hS⟩ := Z
  unfold y_okop y_okin at hok
  simp only [Bool.and_eq_true, decide_eq_true_eq] at hok
  obtain ⟨hdg, hok⟩ := hok
  unfold y_step at hs
  dsimp only at hs
  obtain rfl := hok
  rw [Nat.add_sub_cancel_left] at hdg
  cases hg : y_lget lo i with
  | none => rw [hg] at hs; cases hs
  | some v =>
    rw [hg] at hs
    obtain ⟨x, hx1, hx2⟩ := y_dl_get hl hg
    rcases v with a | a | _ | a
    · cases hs
    · cases hs
      cases hx2
      exact lv_lload hx hb hdg (hls.2.2 _ hx1) (kk α tys ws H locs ls lv _ (List.prefix_refl _) ⟨hh, hl, y_ds_l rfl hst, hls, hP, hK, hD, hS⟩)
    · cases hs
    · cases hs

set_option maxHeartbeats 4000000 in
set_option maxRecDepth 100000 in
theorem y_st_aloadn {i : Fin 4} {nx r1 r2 r3 : Nat} (C : y_ctx κ sc p R s m args meth c cc own yn nL A) (hH : y_H κ hy) (hT : y_T κ tb) (hok : y_okop nL own yn cc (pc, (.aload_n i, nx, r1, r2, r3)) = true) (hs : y_step sc κ.2.2.2 hy tb pc (.aload_n i, nx, r1, r2, r3) lo st h k n = some S') (hk : S'.2.2.2.2.1 ≤ R.cells) (hn : S'.2.2.2.2.2 ≤ R.slots) (Z : y_Z κ D A s nL α tys ws H locs ls lv sv lo st h)
    (kk : ∀ α' tys' ws' H' locs' ls' lv' sv', α <+: α' → y_Z κ D A s nL α' tys' ws' H' locs' ls' lv' sv' S'.2.1 S'.2.2.1 S'.2.2.2.1 → W p l e R s m args below meth c H' locs' S'.2.2.2.2.1 S'.2.2.2.2.2 Q (F0 m S'.1 ls' sv')) : W p l e R s m args below meth c H locs k n Q (F0 m pc ls sv) := by
  obtain ⟨hx, hb, hml, hown, hts, hyn, hAO, hA, hRf, hRl, hsc⟩ := C
  obtain ⟨hh, hl, hst, hls, hP, hK, hD, hS⟩ := Z
  unfold y_okop y_okin at hok
  simp only [Bool.and_eq_true, decide_eq_true_eq] at hok
  obtain ⟨hdg, hok⟩ := hok
  unfold y_step at hs
  dsimp only at hs
  obtain rfl := hok
  rw [Nat.add_sub_cancel_left] at hdg
  cases hg : y_lget lo i with
  | none => rw [hg] at hs; cases hs
  | some v =>
    rw [hg] at hs
    obtain ⟨x, hx1, hx2⟩ := y_dl_get hl hg
    rcases v with a | a | _ | a
    · cases hs
    · cases hs
    · cases hs
    · cases hs
      obtain ⟨b, hb1, rfl⟩ := Option.map_eq_some_iff.mp hx2
      exact lv_aload_n hx hb hdg rfl (hls.2.2 _ hx1) (kk α tys ws H locs ls lv _ (List.prefix_refl _) ⟨hh, hl, y_ds_mk hx2 hst, hls, hP, hK, hD, hS⟩)

set_option maxHeartbeats 4000000 in
set_option maxRecDepth 100000 in
theorem y_st_aload {i : Nat} {nx r1 r2 r3 : Nat} (C : y_ctx κ sc p R s m args meth c cc own yn nL A) (hH : y_H κ hy) (hT : y_T κ tb) (hok : y_okop nL own yn cc (pc, (.aload i, nx, r1, r2, r3)) = true) (hs : y_step sc κ.2.2.2 hy tb pc (.aload i, nx, r1, r2, r3) lo st h k n = some S') (hk : S'.2.2.2.2.1 ≤ R.cells) (hn : S'.2.2.2.2.2 ≤ R.slots) (Z : y_Z κ D A s nL α tys ws H locs ls lv sv lo st h)
    (kk : ∀ α' tys' ws' H' locs' ls' lv' sv', α <+: α' → y_Z κ D A s nL α' tys' ws' H' locs' ls' lv' sv' S'.2.1 S'.2.2.1 S'.2.2.2.1 → W p l e R s m args below meth c H' locs' S'.2.2.2.2.1 S'.2.2.2.2.2 Q (F0 m S'.1 ls' sv')) : W p l e R s m args below meth c H locs k n Q (F0 m pc ls sv) := by
  obtain ⟨hx, hb, hml, hown, hts, hyn, hAO, hA, hRf, hRl, hsc⟩ := C
  obtain ⟨hh, hl, hst, hls, hP, hK, hD, hS⟩ := Z
  unfold y_okop y_okin at hok
  simp only [Bool.and_eq_true, decide_eq_true_eq] at hok
  obtain ⟨hdg, hok⟩ := hok
  unfold y_step at hs
  dsimp only at hs
  obtain rfl := hok
  rw [Nat.add_sub_cancel_left] at hdg
  cases hg : y_lget lo i with
  | none => rw [hg] at hs; cases hs
  | some v =>
    rw [hg] at hs
    obtain ⟨x, hx1, hx2⟩ := y_dl_get hl hg
    rcases v with a | a | _ | a
    · cases hs
    · cases hs
    · cases hs
    · cases hs
      obtain ⟨b, hb1, rfl⟩ := Option.map_eq_some_iff.mp hx2
      exact lv_aload hx hb hdg (hls.2.2 _ hx1) (kk α tys ws H locs ls lv _ (List.prefix_refl _) ⟨hh, hl, y_ds_mk hx2 hst, hls, hP, hK, hD, hS⟩)

set_option maxHeartbeats 4000000 in
set_option maxRecDepth 100000 in
theorem y_st_istoren {i : Fin 4} {nx r1 r2 r3 : Nat} (C : y_ctx κ sc p R s m args meth c cc own yn nL A) (hH : y_H κ hy) (hT : y_T κ tb) (hok : y_okop nL own yn cc (pc, (.istore_n i, nx, r1, r2, r3)) = true) (hs : y_step sc κ.2.2.2 hy tb pc (.istore_n i, nx, r1, r2, r3) lo st h k n = some S') (hk : S'.2.2.2.2.1 ≤ R.cells) (hn : S'.2.2.2.2.2 ≤ R.slots) (Z : y_Z κ D A s nL α tys ws H locs ls lv sv lo st h)
    (kk : ∀ α' tys' ws' H' locs' ls' lv' sv', α <+: α' → y_Z κ D A s nL α' tys' ws' H' locs' ls' lv' sv' S'.2.1 S'.2.2.1 S'.2.2.2.1 → W p l e R s m args below meth c H' locs' S'.2.2.2.2.1 S'.2.2.2.2.2 Q (F0 m S'.1 ls' sv')) : W p l e R s m args below meth c H locs k n Q (F0 m pc ls sv) := by
  obtain ⟨hx, hb, hml, hown, hts, hyn, hAO, hA, hRf, hRl, hsc⟩ := C
  obtain ⟨hh, hl, hst, hls, hP, hK, hD, hS⟩ := Z
  unfold y_okop y_okin at hok
  simp only [Bool.and_eq_true, decide_eq_true_eq] at hok
  obtain ⟨hdg, hok⟩ := hok
  unfold y_step at hs
  dsimp only at hs
  obtain ⟨rfl, hi⟩ := hok
  rw [Nat.add_sub_cancel_left] at hdg
  rcases st with _ | ⟨a | a | _ | a, r⟩
  · cases hs
  · cases hs
    obtain ⟨ys, rfl, h2⟩ := y_ds_ci hst
    exact lv_istore_n hx hb hdg rfl hls hi rfl (fun ls' hls' => kk α tys ws H locs ls' _ _ (List.prefix_refl _) ⟨hh, y_dl_set _ hl rfl, h2, hls', hP, hK, hD, hS⟩)
  · cases hs
  · cases hs
  · cases hs

set_option maxHeartbeats 4000000 in
set_option maxRecDepth 100000 in
theorem y_st_istore {i : Nat} {nx r1 r2 r3 : Nat} (C : y_ctx κ sc p R s m args meth c cc own yn nL A) (hH : y_H κ hy) (hT : y_T κ tb) (hok : y_okop nL own yn cc (pc, (.istore i, nx, r1, r2, r3)) = true) (hs : y_step sc κ.2.2.2 hy tb pc (.istore i, nx, r1, r2, r3) lo st h k n = some S') (hk : S'.2.2.2.2.1 ≤ R.cells) (hn : S'.2.2.2.2.2 ≤ R.slots) (Z : y_Z κ D A s nL α tys ws H locs ls lv sv lo st h)
    (kk : ∀ α' tys' ws' H' locs' ls' lv' sv', α <+: α' → y_Z κ D A s nL α' tys' ws' H' locs' ls' lv' sv' S'.2.1 S'.2.2.1 S'.2.2.2.1 → W p l e R s m args below meth c H' locs' S'.2.2.2.2.1 S'.2.2.2.2.2 Q (F0 m S'.1 ls' sv')) : W p l e R s m args below meth c H locs k n Q (F0 m pc ls sv) := by
  obtain ⟨hx, hb, hml, hown, hts, hyn, hAO, hA, hRf, hRl, hsc⟩ := C
  obtain ⟨hh, hl, hst, hls, hP, hK, hD, hS⟩ := Z
  unfold y_okop y_okin at hok
  simp only [Bool.and_eq_true, decide_eq_true_eq] at hok
  obtain ⟨hdg, hok⟩ := hok
  unfold y_step at hs
  dsimp only at hs
  obtain ⟨rfl, hi⟩ := hok
  rw [Nat.add_sub_cancel_left] at hdg
  rcases st with _ | ⟨a | a | _ | a, r⟩
  · cases hs
  · cases hs
    obtain ⟨ys, rfl, h2⟩ := y_ds_ci hst
    exact lv_istore hx hb hdg hls hi rfl (fun ls' hls' => kk α tys ws H locs ls' _ _ (List.prefix_refl _) ⟨hh, y_dl_set _ hl rfl, h2, hls', hP, hK, hD, hS⟩)
  · cases hs
  · cases hs
  · cases hs

set_option maxHeartbeats 4000000 in
set_option maxRecDepth 100000 in
theorem y_st_lstoren {i : Fin 4} {nx r1 r2 r3 : Nat} (C : y_ctx κ sc p R s m args meth c cc own yn nL A) (hH : y_H κ hy) (hT : y_T κ tb) (hok : y_okop nL own yn cc (pc, (.lstore_n i, nx, r1, r2, r3)) = true) (hs : y_step sc κ.2.2.2 hy tb pc (.lstore_n i, nx, r1, r2, r3) lo st h k n = some S') (hk : S'.2.2.2.2.1 ≤ R.cells) (hn : S'.2.2.2.2.2 ≤ R.slots) (Z : y_Z κ D A s nL α tys ws H locs ls lv sv lo st h)
    (kk : ∀ α' tys' ws' H' locs' ls' lv' sv', α <+: α' → y_Z κ D A s nL α' tys' ws' H' locs' ls' lv' sv' S'.2.1 S'.2.2.1 S'.2.2.2.1 → W p l e R s m args below meth c H' locs' S'.2.2.2.2.1 S'.2.2.2.2.2 Q (F0 m S'.1 ls' sv')) : W p l e R s m args below meth c H locs k n Q (F0 m pc ls sv) := by
  obtain ⟨hx, hb, hml, hown, hts, hyn, hAO, hA, hRf, hRl, hsc⟩ := C
  obtain ⟨hh, hl, hst, hls, hP, hK, hD, hS⟩ := Z
  unfold y_okop y_okin at hok
  simp only [Bool.and_eq_true, decide_eq_true_eq] at hok
  obtain ⟨hdg, hok⟩ := hok
  unfold y_step at hs
  dsimp only at hs
  obtain ⟨rfl, hi⟩ := hok
  rw [Nat.add_sub_cancel_left] at hdg
  rcases st with _ | ⟨a | a | _ | a, r⟩
  · cases hs
  · cases hs
  · cases hs
    obtain ⟨ys, rfl, h2⟩ := y_ds_cl hst
    exact lv_lstore_n hx hb hdg rfl hls hi rfl (fun ls' hls' => kk α tys ws H locs ls' _ _ (List.prefix_refl _) ⟨hh, y_dl_set2 _ hl rfl, h2, hls', hP, hK, hD, hS⟩)
  · cases hs
  · cases hs

set_option maxHeartbeats 4000000 in
set_option maxRecDepth 100000 in
theorem y_st_lstore {i : Nat} {nx r1 r2 r3 : Nat} (C : y_ctx κ sc p R s m args meth c cc own yn nL A) (hH : y_H κ hy) (hT : y_T κ tb) (hok : y_okop nL own yn cc (pc, (.lstore i, nx, r1, r2, r3)) = true) (hs : y_step sc κ.2.2.2 hy tb pc (.lstore i, nx, r1, r2, r3) lo st h k n = some S') (hk : S'.2.2.2.2.1 ≤ R.cells) (hn : S'.2.2.2.2.2 ≤ R.slots) (Z : y_Z κ D A s nL α tys ws H locs ls lv sv lo st h)
    (kk : ∀ α' tys' ws' H' locs' ls' lv' sv', α <+: α' → y_Z κ D A s nL α' tys' ws' H' locs' ls' lv' sv' S'.2.1 S'.2.2.1 S'.2.2.2.1 → W p l e R s m args below meth c H' locs' S'.2.2.2.2.1 S'.2.2.2.2.2 Q (F0 m S'.1 ls' sv')) : W p l e R s m args below meth c H locs k n Q (F0 m pc ls sv) := by
  obtain ⟨hx, hb, hml, hown, hts, hyn, hAO, hA, hRf, hRl, hsc⟩ := C
  obtain ⟨hh, hl, hst, hls, hP, hK, hD, hS⟩ := Z
  unfold y_okop y_okin at hok
  simp only [Bool.and_eq_true, decide_eq_true_eq] at hok
  obtain ⟨hdg, hok⟩ := hok
  unfold y_step at hs
  dsimp only at hs
  obtain ⟨rfl, hi⟩ := hok
  rw [Nat.add_sub_cancel_left] at hdg
  rcases st with _ | ⟨a | a | _ | a, r⟩
  · cases hs
  · cases hs
  · cases hs
    obtain ⟨ys, rfl, h2⟩ := y_ds_cl hst
    exact lv_lstore hx hb hdg hls hi rfl (fun ls' hls' => kk α tys ws H locs ls' _ _ (List.prefix_refl _) ⟨hh, y_dl_set2 _ hl rfl, h2, hls', hP, hK, hD, hS⟩)
  · cases hs
  · cases hs

set_option maxHeartbeats 4000000 in
set_option maxRecDepth 100000 in
theorem y_st_astoren {i : Fin 4} {nx r1 r2 r3 : Nat} (C : y_ctx κ sc p R s m args meth c cc own yn nL A) (hH : y_H κ hy) (hT : y_T κ tb) (hok : y_okop nL own yn cc (pc, (.astore_n i, nx, r1, r2, r3)) = true) (hs : y_step sc κ.2.2.2 hy tb pc (.astore_n i, nx, r1, r2, r3) lo st h k n = some S') (hk : S'.2.2.2.2.1 ≤ R.cells) (hn : S'.2.2.2.2.2 ≤ R.slots) (Z : y_Z κ D A s nL α tys ws H locs ls lv sv lo st h)
    (kk : ∀ α' tys' ws' H' locs' ls' lv' sv', α <+: α' → y_Z κ D A s nL α' tys' ws' H' locs' ls' lv' sv' S'.2.1 S'.2.2.1 S'.2.2.2.1 → W p l e R s m args below meth c H' locs' S'.2.2.2.2.1 S'.2.2.2.2.2 Q (F0 m S'.1 ls' sv')) : W p l e R s m args below meth c H locs k n Q (F0 m pc ls sv) := by
  obtain ⟨hx, hb, hml, hown, hts, hyn, hAO, hA, hRf, hRl, hsc⟩ := C
  obtain ⟨hh, hl, hst, hls, hP, hK, hD, hS⟩ := Z
  unfold y_okop y_okin at hok
  simp only [Bool.and_eq_true, decide_eq_true_eq] at hok
  obtain ⟨hdg, hok⟩ := hok
  unfold y_step at hs
  dsimp only at hs
  obtain ⟨rfl, hi⟩ := hok
  rw [Nat.add_sub_cancel_left] at hdg
  rcases st with _ | ⟨a | a | _ | a, r⟩
  · cases hs
  · cases hs
  · cases hs
  · cases hs
  · cases hs
    obtain ⟨b, ys, rfl, h1, h2⟩ := y_ds_cr hst
    exact lv_astore_n hx hb hdg rfl hls hi rfl (fun ls' hls' => kk α tys ws H locs ls' _ _ (List.prefix_refl _) ⟨hh, y_dl_set _ hl (Option.map_eq_some_iff.mpr ⟨b, h1, rfl⟩), h2, hls', hP, hK, hD, hS⟩)

set_option maxHeartbeats 4000000 in
set_option maxRecDepth 100000 in
theorem y_st_astore {i : Nat} {nx r1 r2 r3 : Nat} (C : y_ctx κ sc p R s m args meth c cc own yn nL A) (hH : y_H κ hy) (hT : y_T κ tb) (hok : y_okop nL own yn cc (pc, (.astore i, nx, r1, r2, r3)) = true) (hs : y_step sc κ.2.2.2 hy tb pc (.astore i, nx, r1, r2, r3) lo st h k n = some S') (hk : S'.2.2.2.2.1 ≤ R.cells) (hn : S'.2.2.2.2.2 ≤ R.slots) (Z : y_Z κ D A s nL α tys ws H locs ls lv sv lo st h)
    (kk : ∀ α' tys' ws' H' locs' ls' lv' sv', α <+: α' → y_Z κ D A s nL α' tys' ws' H' locs' ls' lv' sv' S'.2.1 S'.2.2.1 S'.2.2.2.1 → W p l e R s m args below meth c H' locs' S'.2.2.2.2.1 S'.2.2.2.2.2 Q (F0 m S'.1 ls' sv')) : W p l e R s m args below meth c H locs k n Q (F0 m pc ls sv) := by
  obtain ⟨hx, hb, hml, hown, hts, hyn, hAO, hA, hRf, hRl, hsc⟩ := C
  obtain ⟨hh, hl, hst, hls, hP, hK, hD, hS⟩ := Z
  unfold y_okop y_okin at hok
  simp only [Bool.and_eq_true, decide_eq_true_eq] at hok
  obtain ⟨hdg, hok⟩ := hok
  unfold y_step at hs
  dsimp only at hs
  obtain ⟨rfl, hi⟩ := hok
  rw [Nat.add_sub_cancel_left] at hdg
  rcases st with _ | ⟨a | a | _ | a, r⟩
  · cases hs
  · cases hs
  · cases hs
  · cases hs
  · cases hs
    obtain ⟨b, ys, rfl, h1, h2⟩ := y_ds_cr hst
    exact lv_astore hx hb hdg hls hi rfl (fun ls' hls' => kk α tys ws H locs ls' _ _ (List.prefix_refl _) ⟨hh, y_dl_set _ hl (Option.map_eq_some_iff.mpr ⟨b, h1, rfl⟩), h2, hls', hP, hK, hD, hS⟩)

set_option maxHeartbeats 4000000 in
set_option maxRecDepth 100000 in
theorem y_st_iinc {i : Nat} {d : Int} {nx r1 r2 r3 : Nat} (C : y_ctx κ sc p R s m args meth c cc own yn nL A) (hH : y_H κ hy) (hT : y_T κ tb) (hok : y_okop nL own yn cc (pc, (.iinc i d, nx, r1, r2, r3)) = true) (hs : y_step sc κ.2.2.2 hy tb pc (.iinc i d, nx, r1, r2, r3) lo st h k n = some S') (hk : S'.2.2.2.2.1 ≤ R.cells) (hn : S'.2.2.2.2.2 ≤ R.slots) (Z : y_Z κ D A s nL α tys ws H locs ls lv sv lo st h)
    (kk : ∀ α' tys' ws' H' locs' ls' lv' sv', α <+: α' → y_Z κ D A s nL α' tys' ws' H' locs' ls' lv' sv' S'.2.1 S'.2.2.1 S'.2.2.2.1 → W p l e R s m args below meth c H' locs' S'.2.2.2.2.1 S'.2.2.2.2.2 Q (F0 m S'.1 ls' sv')) : W p l e R s m args below meth c H locs k n Q (F0 m pc ls sv) := by
  obtain ⟨hx, hb, hml, hown, hts, hyn, hAO, hA, hRf, hRl, hsc⟩ := C
  obtain ⟨hh, hl, hst, hls, hP, hK, hD, hS⟩ := Z
  unfold y_okop y_okin at hok
  simp only [Bool.and_eq_true, decide_eq_true_eq] at hok
  obtain ⟨hdg, hok⟩ := hok
  unfold y_step at hs
  dsimp only at hs
  obtain ⟨rfl, hi, hv⟩ := hok
  rw [Nat.add_sub_cancel_left] at hdg
  cases hg : y_lget lo i with
  | none => rw [hg] at hs; cases hs
  | some v =>
    rw [hg] at hs
    obtain ⟨x, hx1, hx2⟩ := y_dl_get hl hg
    rcases v with (a | a) | a | _ | a
    · cases hs
      cases hx2
      obtain ⟨j, hj⟩ := List.getElem?_of_mem hx1
      refine lv_iinc (v := nI ((a + r1) % 4294967296)) hx hb hdg hls hj ?_ hi rfl (fun ls' hls' => kk α tys ws H locs ls' _ _ (List.prefix_refl _) ⟨hh, y_dl_set _ hl rfl, hst, hls', hP, hK, hD, hS⟩)
      rw [hv, y_nmod]
      exact nI_add a r1
    · cases hs
    · cases hs
    · cases hs
    · cases hs

set_option maxHeartbeats 4000000 in
set_option maxRecDepth 100000 in
theorem y_st_iadd {nx r1 r2 r3 : Nat} (C : y_ctx κ sc p R s m args meth c cc own yn nL A) (hH : y_H κ hy) (hT : y_T κ tb) (hok : y_okop nL own yn cc (pc, (.iadd, nx, r1, r2, r3)) = true) (hs : y_step sc κ.2.2.2 hy tb pc (.iadd, nx, r1, r2, r3) lo st h k n = some S') (hk : S'.2.2.2.2.1 ≤ R.cells) (hn : S'.2.2.2.2.2 ≤ R.slots) (Z : y_Z κ D A s nL α tys ws H locs ls lv sv lo st h)
    (kk : ∀ α' tys' ws' H' locs' ls' lv' sv', α <+: α' → y_Z κ D A s nL α' tys' ws' H' locs' ls' lv' sv' S'.2.1 S'.2.2.1 S'.2.2.2.1 → W p l e R s m args below meth c H' locs' S'.2.2.2.2.1 S'.2.2.2.2.2 Q (F0 m S'.1 ls' sv')) : W p l e R s m args below meth c H locs k n Q (F0 m pc ls sv) := by
  obtain ⟨hx, hb, hml, hown, hts, hyn, hAO, hA, hRf, hRl, hsc⟩ := C
  obtain ⟨hh, hl, hst, hls, hP, hK, hD, hS⟩ := Z
  unfold y_okop y_okin at hok
  simp only [Bool.and_eq_true, decide_eq_true_eq] at hok
  obtain ⟨hdg, hok⟩ := hok
  unfold y_step at hs
  dsimp only at hs
  obtain rfl := hok
  rw [Nat.add_sub_cancel_left] at hdg
  obtain ⟨st', hb2, rfl⟩ := Option.map_eq_some_iff.mp hs
  obtain ⟨x, y, xs, rfl, h9⟩ := y_bin_ok (κ := κ) (op := 99) (fun x y => x + y) (fun x y z hz => by cases hz; rw [y_nmod]; exact nI_add x y) (fun a b v hv => y_no hT hv) hb2 hst
  exact lv_iadd hx hb hdg (kk α tys ws H locs ls lv _ (List.prefix_refl _) ⟨hh, hl, h9, hls, hP, hK, hD, hS⟩)

set_option maxHeartbeats 4000000 in
set_option maxRecDepth 100000 in
theorem y_st_isub {nx r1 r2 r3 : Nat} (C : y_ctx κ sc p R s m args meth c cc own yn nL A) (hH : y_H κ hy) (hT : y_T κ tb) (hok : y_okop nL own yn cc (pc, (.isub, nx, r1, r2, r3)) = true) (hs : y_step sc κ.2.2.2 hy tb pc (.isub, nx, r1, r2, r3) lo st h k n = some S') (hk : S'.2.2.2.2.1 ≤ R.cells) (hn : S'.2.2.2.2.2 ≤ R.slots) (Z : y_Z κ D A s nL α tys ws H locs ls lv sv lo st h)
    (kk : ∀ α' tys' ws' H' locs' ls' lv' sv', α <+: α' → y_Z κ D A s nL α' tys' ws' H' locs' ls' lv' sv' S'.2.1 S'.2.2.1 S'.2.2.2.1 → W p l e R s m args below meth c H' locs' S'.2.2.2.2.1 S'.2.2.2.2.2 Q (F0 m S'.1 ls' sv')) : W p l e R s m args below meth c H locs k n Q (F0 m pc ls sv) := by
  obtain ⟨hx, hb, hml, hown, hts, hyn, hAO, hA, hRf, hRl, hsc⟩ := C
  obtain ⟨hh, hl, hst, hls, hP, hK, hD, hS⟩ := Z
  unfold y_okop y_okin at hok
  simp only [Bool.and_eq_true, decide_eq_true_eq] at hok
  obtain ⟨hdg, hok⟩ := hok
  unfold y_step at hs
  dsimp only at hs
  obtain rfl := hok
  rw [Nat.add_sub_cancel_left] at hdg
  obtain ⟨st', hb2, rfl⟩ := Option.map_eq_some_iff.mp hs
  obtain ⟨x, y, xs, rfl, h9⟩ := y_bin_ok (κ := κ) (op := 99) (fun x y => x - y) (fun x y z hz => by cases hz; exact y_sub_ok x y) (fun a b v hv => y_no hT hv) hb2 hst
  exact lv_isub hx hb hdg (kk α tys ws H locs ls lv _ (List.prefix_refl _) ⟨hh, hl, h9, hls, hP, hK, hD, hS⟩)

set_option maxHeartbeats 4000000 in
set_option maxRecDepth 100000 in
theorem y_st_imul {nx r1 r2 r3 : Nat} (C : y_ctx κ sc p R s m args meth c cc own yn nL A) (hH : y_H κ hy) (hT : y_T κ tb) (hok : y_okop nL own yn cc (pc, (.imul, nx, r1, r2, r3)) = true) (hs : y_step sc κ.2.2.2 hy tb pc (.imul, nx, r1, r2, r3) lo st h k n = some S') (hk : S'.2.2.2.2.1 ≤ R.cells) (hn : S'.2.2.2.2.2 ≤ R.slots) (Z : y_Z κ D A s nL α tys ws H locs ls lv sv lo st h)
    (kk : ∀ α' tys' ws' H' locs' ls' lv' sv', α <+: α' → y_Z κ D A s nL α' tys' ws' H' locs' ls' lv' sv' S'.2.1 S'.2.2.1 S'.2.2.2.1 → W p l e R s m args below meth c H' locs' S'.2.2.2.2.1 S'.2.2.2.2.2 Q (F0 m S'.1 ls' sv')) : W p l e R s m args below meth c H locs k n Q (F0 m pc ls sv) := by
  obtain ⟨hx, hb, hml, hown, hts, hyn, hAO, hA, hRf, hRl, hsc⟩ := C
  obtain ⟨hh, hl, hst, hls, hP, hK, hD, hS⟩ := Z
  unfold y_okop y_okin at hok
  simp only [Bool.and_eq_true, decide_eq_true_eq] at hok
  obtain ⟨hdg, hok⟩ := hok
  unfold y_step at hs
  dsimp only at hs
  obtain rfl := hok
  rw [Nat.add_sub_cancel_left] at hdg
  obtain ⟨st', hb2, rfl⟩ := Option.map_eq_some_iff.mp hs
  obtain ⟨x, y, xs, rfl, h9⟩ := y_bin_ok (κ := κ) (op := 99) (fun x y => x * y) (fun x y z hz => by cases hz; rw [y_nmod]; exact pk_mul x y) (fun a b v hv => y_no hT hv) hb2 hst
  exact lv_imul hx hb hdg (kk α tys ws H locs ls lv _ (List.prefix_refl _) ⟨hh, hl, h9, hls, hP, hK, hD, hS⟩)

set_option maxHeartbeats 4000000 in
set_option maxRecDepth 100000 in
theorem y_st_iand {nx r1 r2 r3 : Nat} (C : y_ctx κ sc p R s m args meth c cc own yn nL A) (hH : y_H κ hy) (hT : y_T κ tb) (hok : y_okop nL own yn cc (pc, (.iand, nx, r1, r2, r3)) = true) (hs : y_step sc κ.2.2.2 hy tb pc (.iand, nx, r1, r2, r3) lo st h k n = some S') (hk : S'.2.2.2.2.1 ≤ R.cells) (hn : S'.2.2.2.2.2 ≤ R.slots) (Z : y_Z κ D A s nL α tys ws H locs ls lv sv lo st h)
    (kk : ∀ α' tys' ws' H' locs' ls' lv' sv', α <+: α' → y_Z κ D A s nL α' tys' ws' H' locs' ls' lv' sv' S'.2.1 S'.2.2.1 S'.2.2.2.1 → W p l e R s m args below meth c H' locs' S'.2.2.2.2.1 S'.2.2.2.2.2 Q (F0 m S'.1 ls' sv')) : W p l e R s m args below meth c H locs k n Q (F0 m pc ls sv) := by
  obtain ⟨hx, hb, hml, hown, hts, hyn, hAO, hA, hRf, hRl, hsc⟩ := C
  obtain ⟨hh, hl, hst, hls, hP, hK, hD, hS⟩ := Z
  unfold y_okop y_okin at hok
  simp only [Bool.and_eq_true, decide_eq_true_eq] at hok
  obtain ⟨hdg, hok⟩ := hok
  unfold y_step at hs
  dsimp only at hs
  obtain rfl := hok
  rw [Nat.add_sub_cancel_left] at hdg
  obtain ⟨st', hb2, rfl⟩ := Option.map_eq_some_iff.mp hs
  obtain ⟨x, y, xs, rfl, h9⟩ := y_bin_ok (κ := κ) (op := 0) (fun x y => x &&& y) (fun x y z hz => by cases hz; exact y_and_ok x y) (fun a b v hv => y_lookT_ok hT hv) hb2 hst
  exact lv_iand hx hb hdg (kk α tys ws H locs ls lv _ (List.prefix_refl _) ⟨hh, hl, h9, hls, hP, hK, hD, hS⟩)

set_option maxHeartbeats 4000000 in
set_option maxRecDepth 100000 in
theorem y_st_ior {nx r1 r2 r3 : Nat} (C : y_ctx κ sc p R s m args meth c cc own yn nL A) (hH : y_H κ hy) (hT : y_T κ tb) (hok : y_okop nL own yn cc (pc, (.ior, nx, r1, r2, r3)) = true) (hs : y_step sc κ.2.2.2 hy tb pc (.ior, nx, r1, r2, r3) lo st h k n = some S') (hk : S'.2.2.2.2.1 ≤ R.cells) (hn : S'.2.2.2.2.2 ≤ R.slots) (Z : y_Z κ D A s nL α tys ws H locs ls lv sv lo st h)
    (kk : ∀ α' tys' ws' H' locs' ls' lv' sv', α <+: α' → y_Z κ D A s nL α' tys' ws' H' locs' ls' lv' sv' S'.2.1 S'.2.2.1 S'.2.2.2.1 → W p l e R s m args below meth c H' locs' S'.2.2.2.2.1 S'.2.2.2.2.2 Q (F0 m S'.1 ls' sv')) : W p l e R s m args below meth c H locs k n Q (F0 m pc ls sv) := by
  obtain ⟨hx, hb, hml, hown, hts, hyn, hAO, hA, hRf, hRl, hsc⟩ := C
  obtain ⟨hh, hl, hst, hls, hP, hK, hD, hS⟩ := Z
  unfold y_okop y_okin at hok
  simp only [Bool.and_eq_true, decide_eq_true_eq] at hok
  obtain ⟨hdg, hok⟩ := hok
  unfold y_step at hs
  dsimp only at hs
  obtain rfl := hok
  rw [Nat.add_sub_cancel_left] at hdg
  obtain ⟨st', hb2, rfl⟩ := Option.map_eq_some_iff.mp hs
  obtain ⟨x, y, xs, rfl, h9⟩ := y_bin_ok (κ := κ) (op := 99) (fun x y => x ||| y) (fun x y z hz => by cases hz; exact y_or_ok x y) (fun a b v hv => y_no hT hv) hb2 hst
  exact lv_ior hx hb hdg (kk α tys ws H locs ls lv _ (List.prefix_refl _) ⟨hh, hl, h9, hls, hP, hK, hD, hS⟩)

set_option maxHeartbeats 4000000 in
set_option maxRecDepth 100000 in
theorem y_st_ishl {nx r1 r2 r3 : Nat} (C : y_ctx κ sc p R s m args meth c cc own yn nL A) (hH : y_H κ hy) (hT : y_T κ tb) (hok : y_okop nL own yn cc (pc, (.ishl, nx, r1, r2, r3)) = true) (hs : y_step sc κ.2.2.2 hy tb pc (.ishl, nx, r1, r2, r3) lo st h k n = some S') (hk : S'.2.2.2.2.1 ≤ R.cells) (hn : S'.2.2.2.2.2 ≤ R.slots) (Z : y_Z κ D A s nL α tys ws H locs ls lv sv lo st h)
    (kk : ∀ α' tys' ws' H' locs' ls' lv' sv', α <+: α' → y_Z κ D A s nL α' tys' ws' H' locs' ls' lv' sv' S'.2.1 S'.2.2.1 S'.2.2.2.1 → W p l e R s m args below meth c H' locs' S'.2.2.2.2.1 S'.2.2.2.2.2 Q (F0 m S'.1 ls' sv')) : W p l e R s m args below meth c H locs k n Q (F0 m pc ls sv) := by
  obtain ⟨hx, hb, hml, hown, hts, hyn, hAO, hA, hRf, hRl, hsc⟩ := C
  obtain ⟨hh, hl, hst, hls, hP, hK, hD, hS⟩ := Z
  unfold y_okop y_okin at hok
  simp only [Bool.and_eq_true, decide_eq_true_eq] at hok
  obtain ⟨hdg, hok⟩ := hok
  unfold y_step at hs
  dsimp only at hs
  obtain rfl := hok
  rw [Nat.add_sub_cancel_left] at hdg
  obtain ⟨st', hb2, rfl⟩ := Option.map_eq_some_iff.mp hs
  obtain ⟨x, y, xs, rfl, h9⟩ := y_bin_ok (κ := κ) (op := 99) (fun x y => x <<< (y &&& 31)) (fun x y z hz => by
    unfold y_shl at hz
    cases hc : Nat.blt y 32 with
    | true => rw [hc] at hz; cases hz; exact y_shl_ok (y_blt.mp hc)
    | false => rw [hc] at hz; cases hz) (fun a b v hv => y_no hT hv) hb2 hst
  exact lv_ishl hx hb hdg (kk α tys ws H locs ls lv _ (List.prefix_refl _) ⟨hh, hl, h9, hls, hP, hK, hD, hS⟩)

set_option maxHeartbeats 4000000 in
set_option maxRecDepth 100000 in
theorem y_st_ishr {nx r1 r2 r3 : Nat} (C : y_ctx κ sc p R s m args meth c cc own yn nL A) (hH : y_H κ hy) (hT : y_T κ tb) (hok : y_okop nL own yn cc (pc, (.ishr, nx, r1, r2, r3)) = true) (hs : y_step sc κ.2.2.2 hy tb pc (.ishr, nx, r1, r2, r3) lo st h k n = some S') (hk : S'.2.2.2.2.1 ≤ R.cells) (hn : S'.2.2.2.2.2 ≤ R.slots) (Z : y_Z κ D A s nL α tys ws H locs ls lv sv lo st h)
    (kk : ∀ α' tys' ws' H' locs' ls' lv' sv', α <+: α' → y_Z κ D A s nL α' tys' ws' H' locs' ls' lv' sv' S'.2.1 S'.2.2.1 S'.2.2.2.1 → W p l e R s m args below meth c H' locs' S'.2.2.2.2.1 S'.2.2.2.2.2 Q (F0 m S'.1 ls' sv')) : W p l e R s m args below meth c H locs k n Q (F0 m pc ls sv) := by
  obtain ⟨hx, hb, hml, hown, hts, hyn, hAO, hA, hRf, hRl, hsc⟩ := C
  obtain ⟨hh, hl, hst, hls, hP, hK, hD, hS⟩ := Z
  unfold y_okop y_okin at hok
  simp only [Bool.and_eq_true, decide_eq_true_eq] at hok
  obtain ⟨hdg, hok⟩ := hok
  unfold y_step at hs
  dsimp only at hs
  obtain rfl := hok
  rw [Nat.add_sub_cancel_left] at hdg
  obtain ⟨st', hb2, rfl⟩ := Option.map_eq_some_iff.mp hs
  obtain ⟨x, y, xs, rfl, h9⟩ := y_bin_ok (κ := κ) (op := 1) (fun x y => x >>> (y &&& 31)) (fun x y z hz => by
    unfold y_shr at hz
    cases hc : (Nat.blt y 32 && Nat.blt x 2147483648) with
    | true =>
      rw [hc] at hz; cases hz
      simp only [Bool.and_eq_true] at hc
      exact pk_shrN (y_blt.mp hc.2) (nI y &&& 31) y (y_sm y (y_blt.mp hc.1))
    | false => rw [hc] at hz; cases hz) (fun a b v hv => y_lookT_ok hT hv) hb2 hst
  exact lv_ishr hx hb hdg (kk α tys ws H locs ls lv _ (List.prefix_refl _) ⟨hh, hl, h9, hls, hP, hK, hD, hS⟩)

set_option maxHeartbeats 4000000 in
set_option maxRecDepth 100000 in
theorem y_st_iushr {nx r1 r2 r3 : Nat} (C : y_ctx κ sc p R s m args meth c cc own yn nL A) (hH : y_H κ hy) (hT : y_T κ tb) (hok : y_okop nL own yn cc (pc, (.iushr, nx, r1, r2, r3)) = true) (hs : y_step sc κ.2.2.2 hy tb pc (.iushr, nx, r1, r2, r3) lo st h k n = some S') (hk : S'.2.2.2.2.1 ≤ R.cells) (hn : S'.2.2.2.2.2 ≤ R.slots) (Z : y_Z κ D A s nL α tys ws H locs ls lv sv lo st h)
    (kk : ∀ α' tys' ws' H' locs' ls' lv' sv', α <+: α' → y_Z κ D A s nL α' tys' ws' H' locs' ls' lv' sv' S'.2.1 S'.2.2.1 S'.2.2.2.1 → W p l e R s m args below meth c H' locs' S'.2.2.2.2.1 S'.2.2.2.2.2 Q (F0 m S'.1 ls' sv')) : W p l e R s m args below meth c H locs k n Q (F0 m pc ls sv) := by
  obtain ⟨hx, hb, hml, hown, hts, hyn, hAO, hA, hRf, hRl, hsc⟩ := C
  obtain ⟨hh, hl, hst, hls, hP, hK, hD, hS⟩ := Z
  unfold y_okop y_okin at hok
  simp only [Bool.and_eq_true, decide_eq_true_eq] at hok
  obtain ⟨hdg, hok⟩ := hok
  unfold y_step at hs
  dsimp only at hs
  obtain rfl := hok
  rw [Nat.add_sub_cancel_left] at hdg
  obtain ⟨st', hb2, rfl⟩ := Option.map_eq_some_iff.mp hs
  obtain ⟨x, y, xs, rfl, h9⟩ := y_bin_ok (κ := κ) (op := 99) (fun x y => (x.toUInt32 >>> (y.toUInt32 &&& Int32.toUInt32 31)).toInt32) (fun x y z hz => by
    unfold y_ushr at hz
    cases hc : (Nat.blt y 32 && Nat.blt x 4294967296) with
    | true =>
      rw [hc] at hz; cases hz
      simp only [Bool.and_eq_true] at hc
      exact pk_ushrN (y_blt.mp hc.2) (nI y) y (y_um y (y_blt.mp hc.1))
    | false => rw [hc] at hz; cases hz) (fun a b v hv => y_no hT hv) hb2 hst
  exact (fun k9 => lv_iushr hx hb hdg rfl k9) (kk α tys ws H locs ls lv _ (List.prefix_refl _) ⟨hh, hl, h9, hls, hP, hK, hD, hS⟩)

set_option maxHeartbeats 4000000 in
set_option maxRecDepth 100000 in
theorem y_st_irem {nx r1 r2 r3 : Nat} (C : y_ctx κ sc p R s m args meth c cc own yn nL A) (hH : y_H κ hy) (hT : y_T κ tb) (hok : y_okop nL own yn cc (pc, (.irem, nx, r1, r2, r3)) = true) (hs : y_step sc κ.2.2.2 hy tb pc (.irem, nx, r1, r2, r3) lo st h k n = some S') (hk : S'.2.2.2.2.1 ≤ R.cells) (hn : S'.2.2.2.2.2 ≤ R.slots) (Z : y_Z κ D A s nL α tys ws H locs ls lv sv lo st h)
    (kk : ∀ α' tys' ws' H' locs' ls' lv' sv', α <+: α' → y_Z κ D A s nL α' tys' ws' H' locs' ls' lv' sv' S'.2.1 S'.2.2.1 S'.2.2.2.1 → W p l e R s m args below meth c H' locs' S'.2.2.2.2.1 S'.2.2.2.2.2 Q (F0 m S'.1 ls' sv')) : W p l e R s m args below meth c H locs k n Q (F0 m pc ls sv) := by
  obtain ⟨hx, hb, hml, hown, hts, hyn, hAO, hA, hRf, hRl, hsc⟩ := C
  obtain ⟨hh, hl, hst, hls, hP, hK, hD, hS⟩ := Z
  unfold y_okop y_okin at hok
  simp only [Bool.and_eq_true, decide_eq_true_eq] at hok
  obtain ⟨hdg, hok⟩ := hok
  unfold y_step at hs
  dsimp only at hs
  obtain rfl := hok
  rw [Nat.add_sub_cancel_left] at hdg
  obtain ⟨st', hb2, rfl⟩ := Option.map_eq_some_iff.mp hs
  rcases st with _ | ⟨(b | b) | b, _ | ⟨(a | a) | a, r⟩⟩
  · cases hb2
  · cases hb2
  · obtain ⟨z, hz, rfl⟩ := Option.map_eq_some_iff.mp hb2
    obtain ⟨ys, rfl, h1⟩ := y_ds_ci hst
    obtain ⟨xs, rfl, h2⟩ := y_ds_ci h1
    unfold y_rem at hz
    cases hc : (Nat.blt 0 b && (Nat.blt b 2147483648 && Nat.blt a 2147483648)) with
    | true =>
      rw [hc] at hz; cases hz
      simp only [Bool.and_eq_true] at hc
      have h3 := y_blt.mp hc.1
      have h4 := y_blt.mp hc.2.1
      have h5 := y_blt.mp hc.2.2
      refine lv_irem hx hb hdg (y_nz h3 h4) (kk α tys ws H locs ls lv _ (List.prefix_refl _) ⟨hh, hl, y_ds_i ?_ h2, hls, hP, hK, hD, hS⟩)
      exact (pk_rem h5 h3 h4).symm
    | false => rw [hc] at hz; cases hz
  · obtain ⟨z, hz, rfl⟩ := Option.map_eq_some_iff.mp hb2
    exact y_no hT hz
  · cases hb2
  · cases hb2
  · obtain ⟨z, hz, rfl⟩ := Option.map_eq_some_iff.mp hb2
    exact y_no hT hz
  · obtain ⟨z, hz, rfl⟩ := Option.map_eq_some_iff.mp hb2
    exact y_no hT hz
  · cases hb2
  · cases hb2
  · cases hb2
  · cases hb2
  · cases hb2

set_option maxHeartbeats 4000000 in
set_option maxRecDepth 100000 in
theorem y_st_i2c {nx r1 r2 r3 : Nat} (C : y_ctx κ sc p R s m args meth c cc own yn nL A) (hH : y_H κ hy) (hT : y_T κ tb) (hok : y_okop nL own yn cc (pc, (.i2c, nx, r1, r2, r3)) = true) (hs : y_step sc κ.2.2.2 hy tb pc (.i2c, nx, r1, r2, r3) lo st h k n = some S') (hk : S'.2.2.2.2.1 ≤ R.cells) (hn : S'.2.2.2.2.2 ≤ R.slots) (Z : y_Z κ D A s nL α tys ws H locs ls lv sv lo st h)
    (kk : ∀ α' tys' ws' H' locs' ls' lv' sv', α <+: α' → y_Z κ D A s nL α' tys' ws' H' locs' ls' lv' sv' S'.2.1 S'.2.2.1 S'.2.2.2.1 → W p l e R s m args below meth c H' locs' S'.2.2.2.2.1 S'.2.2.2.2.2 Q (F0 m S'.1 ls' sv')) : W p l e R s m args below meth c H locs k n Q (F0 m pc ls sv) := by
  obtain ⟨hx, hb, hml, hown, hts, hyn, hAO, hA, hRf, hRl, hsc⟩ := C
  obtain ⟨hh, hl, hst, hls, hP, hK, hD, hS⟩ := Z
  unfold y_okop y_okin at hok
  simp only [Bool.and_eq_true, decide_eq_true_eq] at hok
  obtain ⟨hdg, hok⟩ := hok
  unfold y_step at hs
  dsimp only at hs
  obtain rfl := hok
  rw [Nat.add_sub_cancel_left] at hdg
  rcases st with _ | ⟨a | a | a, r⟩
  · cases hs
  · skip
    obtain ⟨z, hz, h9⟩ := Option.map_eq_some_iff.mp hs
    obtain ⟨v, hv, rfl⟩ := Option.map_eq_some_iff.mp hz
    cases h9
    obtain ⟨ys, rfl, h2⟩ := y_ds_ci hst
    exact lv_i2c hx hb hdg (y_lookT_ok hT hv) (kk α tys ws H locs ls lv _ (List.prefix_refl _) ⟨hh, hl, y_ds_i rfl h2, hls, hP, hK, hD, hS⟩)
  · cases hs
  · cases hs

set_option maxHeartbeats 4000000 in
set_option maxRecDepth 100000 in
theorem y_st_l2i {nx r1 r2 r3 : Nat} (C : y_ctx κ sc p R s m args meth c cc own yn nL A) (hH : y_H κ hy) (hT : y_T κ tb) (hok : y_okop nL own yn cc (pc, (.l2i, nx, r1, r2, r3)) = true) (hs : y_step sc κ.2.2.2 hy tb pc (.l2i, nx, r1, r2, r3) lo st h k n = some S') (hk : S'.2.2.2.2.1 ≤ R.cells) (hn : S'.2.2.2.2.2 ≤ R.slots) (Z : y_Z κ D A s nL α tys ws H locs ls lv sv lo st h)
    (kk : ∀ α' tys' ws' H' locs' ls' lv' sv', α <+: α' → y_Z κ D A s nL α' tys' ws' H' locs' ls' lv' sv' S'.2.1 S'.2.2.1 S'.2.2.2.1 → W p l e R s m args below meth c H' locs' S'.2.2.2.2.1 S'.2.2.2.2.2 Q (F0 m S'.1 ls' sv')) : W p l e R s m args below meth c H locs k n Q (F0 m pc ls sv) := by
  obtain ⟨hx, hb, hml, hown, hts, hyn, hAO, hA, hRf, hRl, hsc⟩ := C
  obtain ⟨hh, hl, hst, hls, hP, hK, hD, hS⟩ := Z
  unfold y_okop y_okin at hok
  simp only [Bool.and_eq_true, decide_eq_true_eq] at hok
  obtain ⟨hdg, hok⟩ := hok
  unfold y_step at hs
  dsimp only at hs
  obtain rfl := hok
  rw [Nat.add_sub_cancel_left] at hdg
  rcases st with _ | ⟨a | a | a, r⟩
  · cases hs
  · cases hs
  · skip
    obtain ⟨z, hz, h9⟩ := Option.map_eq_some_iff.mp hs
    obtain ⟨v, hv, rfl⟩ := Option.map_eq_some_iff.mp hz
    cases h9
    obtain ⟨ys, rfl, h2⟩ := y_ds_cl hst
    exact lv_l2i hx hb hdg (y_lookT_ok hT hv) (kk α tys ws H locs ls lv _ (List.prefix_refl _) ⟨hh, hl, y_ds_i rfl h2, hls, hP, hK, hD, hS⟩)
  · cases hs

set_option maxHeartbeats 4000000 in
set_option maxRecDepth 100000 in
theorem y_st_i2l {nx r1 r2 r3 : Nat} (C : y_ctx κ sc p R s m args meth c cc own yn nL A) (hH : y_H κ hy) (hT : y_T κ tb) (hok : y_okop nL own yn cc (pc, (.i2l, nx, r1, r2, r3)) = true) (hs : y_step sc κ.2.2.2 hy tb pc (.i2l, nx, r1, r2, r3) lo st h k n = some S') (hk : S'.2.2.2.2.1 ≤ R.cells) (hn : S'.2.2.2.2.2 ≤ R.slots) (Z : y_Z κ D A s nL α tys ws H locs ls lv sv lo st h)
    (kk : ∀ α' tys' ws' H' locs' ls' lv' sv', α <+: α' → y_Z κ D A s nL α' tys' ws' H' locs' ls' lv' sv' S'.2.1 S'.2.2.1 S'.2.2.2.1 → W p l e R s m args below meth c H' locs' S'.2.2.2.2.1 S'.2.2.2.2.2 Q (F0 m S'.1 ls' sv')) : W p l e R s m args below meth c H locs k n Q (F0 m pc ls sv) := by
  obtain ⟨hx, hb, hml, hown, hts, hyn, hAO, hA, hRf, hRl, hsc⟩ := C
  obtain ⟨hh, hl, hst, hls, hP, hK, hD, hS⟩ := Z
  unfold y_okop y_okin at hok
  simp only [Bool.and_eq_true, decide_eq_true_eq] at hok
  obtain ⟨hdg, hok⟩ := hok
  unfold y_step at hs
  dsimp only at hs
  obtain rfl := hok
  rw [Nat.add_sub_cancel_left] at hdg
  rcases st with _ | ⟨a | a | a, r⟩
  · cases hs
  · skip
    obtain ⟨z, hz, h9⟩ := Option.map_eq_some_iff.mp hs
    obtain ⟨v, hv, rfl⟩ := Option.map_eq_some_iff.mp hz
    cases h9
    obtain ⟨ys, rfl, h2⟩ := y_ds_ci hst
    exact lv_i2l hx hb hdg (y_lookT_ok hT hv) (kk α tys ws H locs ls lv _ (List.prefix_refl _) ⟨hh, hl, y_ds_l rfl h2, hls, hP, hK, hD, hS⟩)
  · cases hs
  · cases hs

set_option maxHeartbeats 4000000 in
set_option maxRecDepth 100000 in
theorem y_st_land {nx r1 r2 r3 : Nat} (C : y_ctx κ sc p R s m args meth c cc own yn nL A) (hH : y_H κ hy) (hT : y_T κ tb) (hok : y_okop nL own yn cc (pc, (.land, nx, r1, r2, r3)) = true) (hs : y_step sc κ.2.2.2 hy tb pc (.land, nx, r1, r2, r3) lo st h k n = some S') (hk : S'.2.2.2.2.1 ≤ R.cells) (hn : S'.2.2.2.2.2 ≤ R.slots) (Z : y_Z κ D A s nL α tys ws H locs ls lv sv lo st h)
    (kk : ∀ α' tys' ws' H' locs' ls' lv' sv', α <+: α' → y_Z κ D A s nL α' tys' ws' H' locs' ls' lv' sv' S'.2.1 S'.2.2.1 S'.2.2.2.1 → W p l e R s m args below meth c H' locs' S'.2.2.2.2.1 S'.2.2.2.2.2 Q (F0 m S'.1 ls' sv')) : W p l e R s m args below meth c H locs k n Q (F0 m pc ls sv) := by
  obtain ⟨hx, hb, hml, hown, hts, hyn, hAO, hA, hRf, hRl, hsc⟩ := C
  obtain ⟨hh, hl, hst, hls, hP, hK, hD, hS⟩ := Z
  unfold y_okop y_okin at hok
  simp only [Bool.and_eq_true, decide_eq_true_eq] at hok
  obtain ⟨hdg, hok⟩ := hok
  unfold y_step at hs
  dsimp only at hs
  obtain rfl := hok
  rw [Nat.add_sub_cancel_left] at hdg
  obtain ⟨st', hb2, rfl⟩ := Option.map_eq_some_iff.mp hs
  rcases st with _ | ⟨b | b | b, _ | ⟨a | a | a, r⟩⟩ <;> try (cases hb2; done)
  · obtain ⟨v, hv, rfl⟩ := Option.map_eq_some_iff.mp hb2
    obtain ⟨ys, rfl, h1⟩ := y_ds_cl hst
    obtain ⟨zs, rfl, h2⟩ := y_ds_cl h1
    exact lv_land hx hb hdg (kk α tys ws H locs ls lv _ (List.prefix_refl _) ⟨hh, hl, y_ds_l (y_lookT_ok hT hv).symm h2, hls, hP, hK, hD, hS⟩)

set_option maxHeartbeats 4000000 in
set_option maxRecDepth 100000 in
theorem y_st_lor {nx r1 r2 r3 : Nat} (C : y_ctx κ sc p R s m args meth c cc own yn nL A) (hH : y_H κ hy) (hT : y_T κ tb) (hok : y_okop nL own yn cc (pc, (.lor, nx, r1, r2, r3)) = true) (hs : y_step sc κ.2.2.2 hy tb pc (.lor, nx, r1, r2, r3) lo st h k n = some S') (hk : S'.2.2.2.2.1 ≤ R.cells) (hn : S'.2.2.2.2.2 ≤ R.slots) (Z : y_Z κ D A s nL α tys ws H locs ls lv sv lo st h)
    (kk : ∀ α' tys' ws' H' locs' ls' lv' sv', α <+: α' → y_Z κ D A s nL α' tys' ws' H' locs' ls' lv' sv' S'.2.1 S'.2.2.1 S'.2.2.2.1 → W p l e R s m args below meth c H' locs' S'.2.2.2.2.1 S'.2.2.2.2.2 Q (F0 m S'.1 ls' sv')) : W p l e R s m args below meth c H locs k n Q (F0 m pc ls sv) := by
  obtain ⟨hx, hb, hml, hown, hts, hyn, hAO, hA, hRf, hRl, hsc⟩ := C
  obtain ⟨hh, hl, hst, hls, hP, hK, hD, hS⟩ := Z
  unfold y_okop y_okin at hok
  simp only [Bool.and_eq_true, decide_eq_true_eq] at hok
  obtain ⟨hdg, hok⟩ := hok
  unfold y_step at hs
  dsimp only at hs
  obtain rfl := hok
  rw [Nat.add_sub_cancel_left] at hdg
  obtain ⟨st', hb2, rfl⟩ := Option.map_eq_some_iff.mp hs
  rcases st with _ | ⟨b | b | b, _ | ⟨a | a | a, r⟩⟩ <;> try (cases hb2; done)
  · obtain ⟨v, hv, rfl⟩ := Option.map_eq_some_iff.mp hb2
    obtain ⟨ys, rfl, h1⟩ := y_ds_cl hst
    obtain ⟨zs, rfl, h2⟩ := y_ds_cl h1
    exact lv_lor hx hb hdg (kk α tys ws H locs ls lv _ (List.prefix_refl _) ⟨hh, hl, y_ds_l (y_lookT_ok hT hv).symm h2, hls, hP, hK, hD, hS⟩)

set_option maxHeartbeats 4000000 in
set_option maxRecDepth 100000 in
theorem y_st_lcmp {nx r1 r2 r3 : Nat} (C : y_ctx κ sc p R s m args meth c cc own yn nL A) (hH : y_H κ hy) (hT : y_T κ tb) (hok : y_okop nL own yn cc (pc, (.lcmp, nx, r1, r2, r3)) = true) (hs : y_step sc κ.2.2.2 hy tb pc (.lcmp, nx, r1, r2, r3) lo st h k n = some S') (hk : S'.2.2.2.2.1 ≤ R.cells) (hn : S'.2.2.2.2.2 ≤ R.slots) (Z : y_Z κ D A s nL α tys ws H locs ls lv sv lo st h)
    (kk : ∀ α' tys' ws' H' locs' ls' lv' sv', α <+: α' → y_Z κ D A s nL α' tys' ws' H' locs' ls' lv' sv' S'.2.1 S'.2.2.1 S'.2.2.2.1 → W p l e R s m args below meth c H' locs' S'.2.2.2.2.1 S'.2.2.2.2.2 Q (F0 m S'.1 ls' sv')) : W p l e R s m args below meth c H locs k n Q (F0 m pc ls sv) := by
  obtain ⟨hx, hb, hml, hown, hts, hyn, hAO, hA, hRf, hRl, hsc⟩ := C
  obtain ⟨hh, hl, hst, hls, hP, hK, hD, hS⟩ := Z
  unfold y_okop y_okin at hok
  simp only [Bool.and_eq_true, decide_eq_true_eq] at hok
  obtain ⟨hdg, hok⟩ := hok
  unfold y_step at hs
  dsimp only at hs
  obtain rfl := hok
  rw [Nat.add_sub_cancel_left] at hdg
  obtain ⟨st', hb2, rfl⟩ := Option.map_eq_some_iff.mp hs
  rcases st with _ | ⟨b | b | b, _ | ⟨a | a | a, r⟩⟩ <;> try (cases hb2; done)
  · obtain ⟨v, hv, rfl⟩ := Option.map_eq_some_iff.mp hb2
    obtain ⟨ys, rfl, h1⟩ := y_ds_cl hst
    obtain ⟨zs, rfl, h2⟩ := y_ds_cl h1
    exact W.lcmp hx hb hdg (kk α tys ws H locs ls lv _ (List.prefix_refl _) ⟨hh, hl, y_ds_i (y_lookT_ok hT hv).symm h2, hls, hP, hK, hD, hS⟩)

set_option maxHeartbeats 4000000 in
set_option maxRecDepth 100000 in
theorem y_st_lshl {nx r1 r2 r3 : Nat} (C : y_ctx κ sc p R s m args meth c cc own yn nL A) (hH : y_H κ hy) (hT : y_T κ tb) (hok : y_okop nL own yn cc (pc, (.lshl, nx, r1, r2, r3)) = true) (hs : y_step sc κ.2.2.2 hy tb pc (.lshl, nx, r1, r2, r3) lo st h k n = some S') (hk : S'.2.2.2.2.1 ≤ R.cells) (hn : S'.2.2.2.2.2 ≤ R.slots) (Z : y_Z κ D A s nL α tys ws H locs ls lv sv lo st h)
    (kk : ∀ α' tys' ws' H' locs' ls' lv' sv', α <+: α' → y_Z κ D A s nL α' tys' ws' H' locs' ls' lv' sv' S'.2.1 S'.2.2.1 S'.2.2.2.1 → W p l e R s m args below meth c H' locs' S'.2.2.2.2.1 S'.2.2.2.2.2 Q (F0 m S'.1 ls' sv')) : W p l e R s m args below meth c H locs k n Q (F0 m pc ls sv) := by
  obtain ⟨hx, hb, hml, hown, hts, hyn, hAO, hA, hRf, hRl, hsc⟩ := C
  obtain ⟨hh, hl, hst, hls, hP, hK, hD, hS⟩ := Z
  unfold y_okop y_okin at hok
  simp only [Bool.and_eq_true, decide_eq_true_eq] at hok
  obtain ⟨hdg, hok⟩ := hok
  unfold y_step at hs
  dsimp only at hs
  obtain rfl := hok
  rw [Nat.add_sub_cancel_left] at hdg
  obtain ⟨st', hb2, rfl⟩ := Option.map_eq_some_iff.mp hs
  rcases st with _ | ⟨b | b | b, _ | ⟨a | a | a, r⟩⟩ <;> try (cases hb2; done)
  · obtain ⟨v, hv, rfl⟩ := Option.map_eq_some_iff.mp hb2
    obtain ⟨ys, rfl, h1⟩ := y_ds_ci hst
    obtain ⟨zs, rfl, h2⟩ := y_ds_cl h1
    exact lv_lshl hx hb hdg (y_lookT_ok hT hv) (kk α tys ws H locs ls lv _ (List.prefix_refl _) ⟨hh, hl, y_ds_l rfl h2, hls, hP, hK, hD, hS⟩)

set_option maxHeartbeats 4000000 in
set_option maxRecDepth 100000 in
theorem y_st_lushr {nx r1 r2 r3 : Nat} (C : y_ctx κ sc p R s m args meth c cc own yn nL A) (hH : y_H κ hy) (hT : y_T κ tb) (hok : y_okop nL own yn cc (pc, (.lushr, nx, r1, r2, r3)) = true) (hs : y_step sc κ.2.2.2 hy tb pc (.lushr, nx, r1, r2, r3) lo st h k n = some S') (hk : S'.2.2.2.2.1 ≤ R.cells) (hn : S'.2.2.2.2.2 ≤ R.slots) (Z : y_Z κ D A s nL α tys ws H locs ls lv sv lo st h)
    (kk : ∀ α' tys' ws' H' locs' ls' lv' sv', α <+: α' → y_Z κ D A s nL α' tys' ws' H' locs' ls' lv' sv' S'.2.1 S'.2.2.1 S'.2.2.2.1 → W p l e R s m args below meth c H' locs' S'.2.2.2.2.1 S'.2.2.2.2.2 Q (F0 m S'.1 ls' sv')) : W p l e R s m args below meth c H locs k n Q (F0 m pc ls sv) := by
  obtain ⟨hx, hb, hml, hown, hts, hyn, hAO, hA, hRf, hRl, hsc⟩ := C
  obtain ⟨hh, hl, hst, hls, hP, hK, hD, hS⟩ := Z
  unfold y_okop y_okin at hok
  simp only [Bool.and_eq_true, decide_eq_true_eq] at hok
  obtain ⟨hdg, hok⟩ := hok
  unfold y_step at hs
  dsimp only at hs
  obtain rfl := hok
  rw [Nat.add_sub_cancel_left] at hdg
  obtain ⟨st', hb2, rfl⟩ := Option.map_eq_some_iff.mp hs
  rcases st with _ | ⟨b | b | b, _ | ⟨a | a | a, r⟩⟩ <;> try (cases hb2; done)
  · obtain ⟨v, hv, rfl⟩ := Option.map_eq_some_iff.mp hb2
    obtain ⟨ys, rfl, h1⟩ := y_ds_ci hst
    obtain ⟨zs, rfl, h2⟩ := y_ds_cl h1
    exact lv_lushr hx hb hdg (y_lookT_ok hT hv) (kk α tys ws H locs ls lv _ (List.prefix_refl _) ⟨hh, hl, y_ds_l rfl h2, hls, hP, hK, hD, hS⟩)

set_option maxHeartbeats 4000000 in
set_option maxRecDepth 100000 in
theorem y_st_dup {nx r1 r2 r3 : Nat} (C : y_ctx κ sc p R s m args meth c cc own yn nL A) (hH : y_H κ hy) (hT : y_T κ tb) (hok : y_okop nL own yn cc (pc, (.dup, nx, r1, r2, r3)) = true) (hs : y_step sc κ.2.2.2 hy tb pc (.dup, nx, r1, r2, r3) lo st h k n = some S') (hk : S'.2.2.2.2.1 ≤ R.cells) (hn : S'.2.2.2.2.2 ≤ R.slots) (Z : y_Z κ D A s nL α tys ws H locs ls lv sv lo st h)
    (kk : ∀ α' tys' ws' H' locs' ls' lv' sv', α <+: α' → y_Z κ D A s nL α' tys' ws' H' locs' ls' lv' sv' S'.2.1 S'.2.2.1 S'.2.2.2.1 → W p l e R s m args below meth c H' locs' S'.2.2.2.2.1 S'.2.2.2.2.2 Q (F0 m S'.1 ls' sv')) : W p l e R s m args below meth c H locs k n Q (F0 m pc ls sv) := by
  obtain ⟨hx, hb, hml, hown, hts, hyn, hAO, hA, hRf, hRl, hsc⟩ := C
  obtain ⟨hh, hl, hst, hls, hP, hK, hD, hS⟩ := Z
  unfold y_okop y_okin at hok
  simp only [Bool.and_eq_true, decide_eq_true_eq] at hok
  obtain ⟨hdg, hok⟩ := hok
  unfold y_step at hs
  dsimp only at hs
  obtain rfl := hok
  rw [Nat.add_sub_cancel_left] at hdg
  rcases st with _ | ⟨v, r⟩
  · cases hs
  · cases hc : Nat.beq (y_cat v) 1 with
    | true =>
      dsimp only at hs
      rw [hc] at hs; cases hs
      obtain ⟨x, ys, rfl, h1, h2⟩ := y_ds_cons hst
      exact lv_dup hx hb hdg ((y_cat_ok h1).trans (y_beq.mp hc)) (kk α tys ws H locs ls lv _ (List.prefix_refl _) ⟨hh, hl, y_ds_mk h1 (y_ds_mk h1 h2), hls, hP, hK, hD, hS⟩)
    | false => dsimp only at hs; rw [hc] at hs; cases hs

set_option maxHeartbeats 4000000 in
set_option maxRecDepth 100000 in
theorem y_st_pop {nx r1 r2 r3 : Nat} (C : y_ctx κ sc p R s m args meth c cc own yn nL A) (hH : y_H κ hy) (hT : y_T κ tb) (hok : y_okop nL own yn cc (pc, (.pop, nx, r1, r2, r3)) = true) (hs : y_step sc κ.2.2.2 hy tb pc (.pop, nx, r1, r2, r3) lo st h k n = some S') (hk : S'.2.2.2.2.1 ≤ R.cells) (hn : S'.2.2.2.2.2 ≤ R.slots) (Z : y_Z κ D A s nL α tys ws H locs ls lv sv lo st h)
    (kk : ∀ α' tys' ws' H' locs' ls' lv' sv', α <+: α' → y_Z κ D A s nL α' tys' ws' H' locs' ls' lv' sv' S'.2.1 S'.2.2.1 S'.2.2.2.1 → W p l e R s m args below meth c H' locs' S'.2.2.2.2.1 S'.2.2.2.2.2 Q (F0 m S'.1 ls' sv')) : W p l e R s m args below meth c H locs k n Q (F0 m pc ls sv) := by
  obtain ⟨hx, hb, hml, hown, hts, hyn, hAO, hA, hRf, hRl, hsc⟩ := C
  obtain ⟨hh, hl, hst, hls, hP, hK, hD, hS⟩ := Z
  unfold y_okop y_okin at hok
  simp only [Bool.and_eq_true, decide_eq_true_eq] at hok
  obtain ⟨hdg, hok⟩ := hok
  unfold y_step at hs
  dsimp only at hs
  obtain rfl := hok
  rw [Nat.add_sub_cancel_left] at hdg
  rcases st with _ | ⟨v, r⟩
  · cases hs
  · cases hc : Nat.beq (y_cat v) 1 with
    | true =>
      dsimp only at hs
      rw [hc] at hs; cases hs
      obtain ⟨x, ys, rfl, h1, h2⟩ := y_ds_cons hst
      exact lv_pop hx hb hdg ((y_cat_ok h1).trans (y_beq.mp hc)) (kk α tys ws H locs ls lv _ (List.prefix_refl _) ⟨hh, hl, h2, hls, hP, hK, hD, hS⟩)
    | false => dsimp only at hs; rw [hc] at hs; cases hs

set_option maxHeartbeats 4000000 in
set_option maxRecDepth 100000 in
theorem y_st_dup2 {nx r1 r2 r3 : Nat} (C : y_ctx κ sc p R s m args meth c cc own yn nL A) (hH : y_H κ hy) (hT : y_T κ tb) (hok : y_okop nL own yn cc (pc, (.dup2, nx, r1, r2, r3)) = true) (hs : y_step sc κ.2.2.2 hy tb pc (.dup2, nx, r1, r2, r3) lo st h k n = some S') (hk : S'.2.2.2.2.1 ≤ R.cells) (hn : S'.2.2.2.2.2 ≤ R.slots) (Z : y_Z κ D A s nL α tys ws H locs ls lv sv lo st h)
    (kk : ∀ α' tys' ws' H' locs' ls' lv' sv', α <+: α' → y_Z κ D A s nL α' tys' ws' H' locs' ls' lv' sv' S'.2.1 S'.2.2.1 S'.2.2.2.1 → W p l e R s m args below meth c H' locs' S'.2.2.2.2.1 S'.2.2.2.2.2 Q (F0 m S'.1 ls' sv')) : W p l e R s m args below meth c H locs k n Q (F0 m pc ls sv) := by
  obtain ⟨hx, hb, hml, hown, hts, hyn, hAO, hA, hRf, hRl, hsc⟩ := C
  obtain ⟨hh, hl, hst, hls, hP, hK, hD, hS⟩ := Z
  unfold y_okop y_okin at hok
  simp only [Bool.and_eq_true, decide_eq_true_eq] at hok
  obtain ⟨hdg, hok⟩ := hok
  unfold y_step at hs
  dsimp only at hs
  obtain rfl := hok
  rw [Nat.add_sub_cancel_left] at hdg
  rcases st with _ | ⟨v, _ | ⟨u, r⟩⟩
  · cases hs
  · cases hs
  · cases hc : (Nat.beq (y_cat v) 1 && Nat.beq (y_cat u) 1) with
    | true =>
      dsimp only at hs
      rw [hc] at hs; cases hs
      simp only [Bool.and_eq_true] at hc
      obtain ⟨x, ys, rfl, h1, h2⟩ := y_ds_cons hst
      obtain ⟨y, ys, rfl, h3, h4⟩ := y_ds_cons h2
      exact lv_dup2_11 hx hb hdg ((y_cat_ok h1).trans (y_beq.mp hc.1)) ((y_cat_ok h3).trans (y_beq.mp hc.2)) (kk α tys ws H locs ls lv _ (List.prefix_refl _) ⟨hh, hl, y_ds_mk h1 (y_ds_mk h3 (y_ds_mk h1 (y_ds_mk h3 h4))), hls, hP, hK, hD, hS⟩)
    | false => dsimp only at hs; rw [hc] at hs; cases hs

set_option maxHeartbeats 4000000 in
set_option maxRecDepth 100000 in
theorem y_st_goto {off : Int} {nx r1 r2 r3 : Nat} (C : y_ctx κ sc p R s m args meth c cc own yn nL A) (hH : y_H κ hy) (hT : y_T κ tb) (hok : y_okop nL own yn cc (pc, (.goto off, nx, r1, r2, r3)) = true) (hs : y_step sc κ.2.2.2 hy tb pc (.goto off, nx, r1, r2, r3) lo st h k n = some S') (hk : S'.2.2.2.2.1 ≤ R.cells) (hn : S'.2.2.2.2.2 ≤ R.slots) (Z : y_Z κ D A s nL α tys ws H locs ls lv sv lo st h)
    (kk : ∀ α' tys' ws' H' locs' ls' lv' sv', α <+: α' → y_Z κ D A s nL α' tys' ws' H' locs' ls' lv' sv' S'.2.1 S'.2.2.1 S'.2.2.2.1 → W p l e R s m args below meth c H' locs' S'.2.2.2.2.1 S'.2.2.2.2.2 Q (F0 m S'.1 ls' sv')) : W p l e R s m args below meth c H locs k n Q (F0 m pc ls sv) := by
  obtain ⟨hx, hb, hml, hown, hts, hyn, hAO, hA, hRf, hRl, hsc⟩ := C
  obtain ⟨hh, hl, hst, hls, hP, hK, hD, hS⟩ := Z
  unfold y_okop y_okin at hok
  simp only [Bool.and_eq_true, decide_eq_true_eq] at hok
  obtain ⟨hdg, hok⟩ := hok
  unfold y_step at hs
  dsimp only at hs
  obtain ⟨rfl, ht⟩ := hok
  rw [Nat.add_sub_cancel_left] at hdg
  cases hs
  exact lv_goto hx hb hdg ht (kk α tys ws H locs ls lv _ (List.prefix_refl _) ⟨hh, hl, hst, hls, hP, hK, hD, hS⟩)

set_option maxHeartbeats 4000000 in
set_option maxRecDepth 100000 in
theorem y_st_if {q : ClassFile.Cond} {off : Int} {nx r1 r2 r3 : Nat} (C : y_ctx κ sc p R s m args meth c cc own yn nL A) (hH : y_H κ hy) (hT : y_T κ tb) (hok : y_okop nL own yn cc (pc, (.ifCond q off, nx, r1, r2, r3)) = true) (hs : y_step sc κ.2.2.2 hy tb pc (.ifCond q off, nx, r1, r2, r3) lo st h k n = some S') (hk : S'.2.2.2.2.1 ≤ R.cells) (hn : S'.2.2.2.2.2 ≤ R.slots) (Z : y_Z κ D A s nL α tys ws H locs ls lv sv lo st h)
    (kk : ∀ α' tys' ws' H' locs' ls' lv' sv', α <+: α' → y_Z κ D A s nL α' tys' ws' H' locs' ls' lv' sv' S'.2.1 S'.2.2.1 S'.2.2.2.1 → W p l e R s m args below meth c H' locs' S'.2.2.2.2.1 S'.2.2.2.2.2 Q (F0 m S'.1 ls' sv')) : W p l e R s m args below meth c H locs k n Q (F0 m pc ls sv) := by
  obtain ⟨hx, hb, hml, hown, hts, hyn, hAO, hA, hRf, hRl, hsc⟩ := C
  obtain ⟨hh, hl, hst, hls, hP, hK, hD, hS⟩ := Z
  unfold y_okop y_okin at hok
  simp only [Bool.and_eq_true, decide_eq_true_eq] at hok
  obtain ⟨hdg, hok⟩ := hok
  unfold y_step at hs
  dsimp only at hs
  obtain ⟨rfl, ht⟩ := hok
  rw [Nat.add_sub_cancel_left] at hdg
  rcases st with _ | ⟨a | a, r⟩
  · cases hs
  · obtain ⟨t, ht2, rfl⟩ := Option.map_eq_some_iff.mp hs
    have hq := y_cond_ok hH ht2
    obtain ⟨ys, rfl, h2⟩ := y_ds_ci hst
    cases q with
    | eq =>
      refine lv_if_eq hx hb hdg ht (fun hc => ?_) (fun hc => ?_)
      · have e1 : t = true := hq.mp hc
        subst e1
        exact kk α tys ws H locs ls lv _ (List.prefix_refl _) ⟨hh, hl, h2, hls, hP, hK, hD, hS⟩
      · have e1 : t = false := by
          cases t with
          | false => rfl
          | true => exact absurd rfl (fun z => hc (hq.mpr z))
        subst e1
        exact kk α tys ws H locs ls lv _ (List.prefix_refl _) ⟨hh, hl, h2, hls, hP, hK, hD, hS⟩
    | ne =>
      refine lv_if_ne hx hb hdg ht (fun hc => ?_) (fun hc => ?_)
      · have e1 : t = true := hq.mp hc
        subst e1
        exact kk α tys ws H locs ls lv _ (List.prefix_refl _) ⟨hh, hl, h2, hls, hP, hK, hD, hS⟩
      · have e1 : t = false := by
          cases t with
          | false => rfl
          | true => exact absurd rfl (fun z => (hq.mpr z) hc)
        subst e1
        exact kk α tys ws H locs ls lv _ (List.prefix_refl _) ⟨hh, hl, h2, hls, hP, hK, hD, hS⟩
    | lt =>
      refine lv_if_lt hx hb hdg ht (fun hc => ?_) (fun hc => ?_)
      · have e1 : t = true := hq.mp hc
        subst e1
        exact kk α tys ws H locs ls lv _ (List.prefix_refl _) ⟨hh, hl, h2, hls, hP, hK, hD, hS⟩
      · have e1 : t = false := by
          cases t with
          | false => rfl
          | true => exact absurd rfl (fun z => hc (hq.mpr z))
        subst e1
        exact kk α tys ws H locs ls lv _ (List.prefix_refl _) ⟨hh, hl, h2, hls, hP, hK, hD, hS⟩
    | ge =>
      refine lv_if_ge hx hb hdg ht (fun hc => ?_) (fun hc => ?_)
      · have e1 : t = true := hq.mp hc
        subst e1
        exact kk α tys ws H locs ls lv _ (List.prefix_refl _) ⟨hh, hl, h2, hls, hP, hK, hD, hS⟩
      · have e1 : t = false := by
          cases t with
          | false => rfl
          | true => exact absurd rfl (fun z => hc (hq.mpr z))
        subst e1
        exact kk α tys ws H locs ls lv _ (List.prefix_refl _) ⟨hh, hl, h2, hls, hP, hK, hD, hS⟩
    | gt =>
      refine lv_if_gt hx hb hdg ht (fun hc => ?_) (fun hc => ?_)
      · have e1 : t = true := hq.mp hc
        subst e1
        exact kk α tys ws H locs ls lv _ (List.prefix_refl _) ⟨hh, hl, h2, hls, hP, hK, hD, hS⟩
      · have e1 : t = false := by
          cases t with
          | false => rfl
          | true => exact absurd rfl (fun z => hc (hq.mpr z))
        subst e1
        exact kk α tys ws H locs ls lv _ (List.prefix_refl _) ⟨hh, hl, h2, hls, hP, hK, hD, hS⟩
    | le =>
      refine lv_if_le hx hb hdg ht (fun hc => ?_) (fun hc => ?_)
      · have e1 : t = true := hq.mp hc
        subst e1
        exact kk α tys ws H locs ls lv _ (List.prefix_refl _) ⟨hh, hl, h2, hls, hP, hK, hD, hS⟩
      · have e1 : t = false := by
          cases t with
          | false => rfl
          | true => exact absurd rfl (fun z => hc (hq.mpr z))
        subst e1
        exact kk α tys ws H locs ls lv _ (List.prefix_refl _) ⟨hh, hl, h2, hls, hP, hK, hD, hS⟩
  · cases hs

set_option maxHeartbeats 4000000 in
set_option maxRecDepth 100000 in
theorem y_st_icmp {q : ClassFile.Cond} {off : Int} {nx r1 r2 r3 : Nat} (C : y_ctx κ sc p R s m args meth c cc own yn nL A) (hH : y_H κ hy) (hT : y_T κ tb) (hok : y_okop nL own yn cc (pc, (.if_icmp q off, nx, r1, r2, r3)) = true) (hs : y_step sc κ.2.2.2 hy tb pc (.if_icmp q off, nx, r1, r2, r3) lo st h k n = some S') (hk : S'.2.2.2.2.1 ≤ R.cells) (hn : S'.2.2.2.2.2 ≤ R.slots) (Z : y_Z κ D A s nL α tys ws H locs ls lv sv lo st h)
    (kk : ∀ α' tys' ws' H' locs' ls' lv' sv', α <+: α' → y_Z κ D A s nL α' tys' ws' H' locs' ls' lv' sv' S'.2.1 S'.2.2.1 S'.2.2.2.1 → W p l e R s m args below meth c H' locs' S'.2.2.2.2.1 S'.2.2.2.2.2 Q (F0 m S'.1 ls' sv')) : W p l e R s m args below meth c H locs k n Q (F0 m pc ls sv) := by
  obtain ⟨hx, hb, hml, hown, hts, hyn, hAO, hA, hRf, hRl, hsc⟩ := C
  obtain ⟨hh, hl, hst, hls, hP, hK, hD, hS⟩ := Z
  unfold y_okop y_okin at hok
  simp only [Bool.and_eq_true, decide_eq_true_eq] at hok
  obtain ⟨hdg, hok⟩ := hok
  unfold y_step at hs
  dsimp only at hs
  obtain ⟨rfl, ht⟩ := hok
  rw [Nat.add_sub_cancel_left] at hdg
  rcases st with _ | ⟨b | b, _ | ⟨a | a, r⟩⟩
  · cases hs
  · cases hs
  · obtain ⟨t, ht2, rfl⟩ := Option.map_eq_some_iff.mp hs
    have hq := y_cond_ok hH ht2
    obtain ⟨ys, rfl, h1⟩ := y_ds_ci hst
    obtain ⟨zs, rfl, h2⟩ := y_ds_ci h1
    cases q with
    | eq =>
      refine lv_icmp_eq hx hb hdg ht (fun hc => ?_) (fun hc => ?_)
      · have e1 : t = true := hq.mp hc
        subst e1
        exact kk α tys ws H locs ls lv _ (List.prefix_refl _) ⟨hh, hl, h2, hls, hP, hK, hD, hS⟩
      · have e1 : t = false := by
          cases t with
          | false => rfl
          | true => exact absurd rfl (fun z => hc (hq.mpr z))
        subst e1
        exact kk α tys ws H locs ls lv _ (List.prefix_refl _) ⟨hh, hl, h2, hls, hP, hK, hD, hS⟩
    | ne =>
      refine lv_icmp_ne hx hb hdg ht (fun hc => ?_) (fun hc => ?_)
      · have e1 : t = true := hq.mp hc
        subst e1
        exact kk α tys ws H locs ls lv _ (List.prefix_refl _) ⟨hh, hl, h2, hls, hP, hK, hD, hS⟩
      · have e1 : t = false := by
          cases t with
          | false => rfl
          | true => exact absurd rfl (fun z => (hq.mpr z) hc)
        subst e1
        exact kk α tys ws H locs ls lv _ (List.prefix_refl _) ⟨hh, hl, h2, hls, hP, hK, hD, hS⟩
    | lt =>
      refine lv_icmp_lt hx hb hdg ht (fun hc => ?_) (fun hc => ?_)
      · have e1 : t = true := hq.mp hc
        subst e1
        exact kk α tys ws H locs ls lv _ (List.prefix_refl _) ⟨hh, hl, h2, hls, hP, hK, hD, hS⟩
      · have e1 : t = false := by
          cases t with
          | false => rfl
          | true => exact absurd rfl (fun z => hc (hq.mpr z))
        subst e1
        exact kk α tys ws H locs ls lv _ (List.prefix_refl _) ⟨hh, hl, h2, hls, hP, hK, hD, hS⟩
    | ge =>
      refine lv_icmp_ge hx hb hdg ht (fun hc => ?_) (fun hc => ?_)
      · have e1 : t = true := hq.mp hc
        subst e1
        exact kk α tys ws H locs ls lv _ (List.prefix_refl _) ⟨hh, hl, h2, hls, hP, hK, hD, hS⟩
      · have e1 : t = false := by
          cases t with
          | false => rfl
          | true => exact absurd rfl (fun z => hc (hq.mpr z))
        subst e1
        exact kk α tys ws H locs ls lv _ (List.prefix_refl _) ⟨hh, hl, h2, hls, hP, hK, hD, hS⟩
    | gt =>
      refine lv_icmp_gt hx hb hdg ht (fun hc => ?_) (fun hc => ?_)
      · have e1 : t = true := hq.mp hc
        subst e1
        exact kk α tys ws H locs ls lv _ (List.prefix_refl _) ⟨hh, hl, h2, hls, hP, hK, hD, hS⟩
      · have e1 : t = false := by
          cases t with
          | false => rfl
          | true => exact absurd rfl (fun z => hc (hq.mpr z))
        subst e1
        exact kk α tys ws H locs ls lv _ (List.prefix_refl _) ⟨hh, hl, h2, hls, hP, hK, hD, hS⟩
    | le =>
      refine lv_icmp_le hx hb hdg ht (fun hc => ?_) (fun hc => ?_)
      · have e1 : t = true := hq.mp hc
        subst e1
        exact kk α tys ws H locs ls lv _ (List.prefix_refl _) ⟨hh, hl, h2, hls, hP, hK, hD, hS⟩
      · have e1 : t = false := by
          cases t with
          | false => rfl
          | true => exact absurd rfl (fun z => hc (hq.mpr z))
        subst e1
        exact kk α tys ws H locs ls lv _ (List.prefix_refl _) ⟨hh, hl, h2, hls, hP, hK, hD, hS⟩
  · cases hs
  · cases hs
  · cases hs
  · cases hs

theorem y_off_ok {pc t : Nat} {off : Int} (h : y_off pc off = some t) : (pc : Int) + off = (t : Int) := by
  unfold y_off at h
  split at h
  · cases h; omega
  · cases h

set_option maxHeartbeats 4000000 in
set_option maxRecDepth 100000 in
theorem y_st_tsw {d lo1 hi : Int} {offs : Array Int} {nx r1 r2 r3 : Nat} (C : y_ctx κ sc p R s m args meth c cc own yn nL A) (hH : y_H κ hy) (hT : y_T κ tb) (hok : y_okop nL own yn cc (pc, (.tableswitch d lo1 hi offs, nx, r1, r2, r3)) = true) (hs : y_step sc κ.2.2.2 hy tb pc (.tableswitch d lo1 hi offs, nx, r1, r2, r3) lo st h k n = some S') (hk : S'.2.2.2.2.1 ≤ R.cells) (hn : S'.2.2.2.2.2 ≤ R.slots) (Z : y_Z κ D A s nL α tys ws H locs ls lv sv lo st h)
    (kk : ∀ α' tys' ws' H' locs' ls' lv' sv', α <+: α' → y_Z κ D A s nL α' tys' ws' H' locs' ls' lv' sv' S'.2.1 S'.2.2.1 S'.2.2.2.1 → W p l e R s m args below meth c H' locs' S'.2.2.2.2.1 S'.2.2.2.2.2 Q (F0 m S'.1 ls' sv')) : W p l e R s m args below meth c H locs k n Q (F0 m pc ls sv) := by
  obtain ⟨hx, hb, hml, hown, hts, hyn, hAO, hA, hRf, hRl, hsc⟩ := C
  obtain ⟨hh, hl, hst, hls, hP, hK, hD, hS⟩ := Z
  unfold y_okop y_okin at hok
  simp only [Bool.and_eq_true, decide_eq_true_eq] at hok
  obtain ⟨hdg, hok⟩ := hok
  unfold y_step at hs
  dsimp only at hs
  rcases st with _ | ⟨(a | a) | a, r⟩
  · cases hs
  · obtain ⟨t, ht2, rfl⟩ := Option.map_eq_some_iff.mp hs
    obtain ⟨ys, rfl, h2⟩ := y_ds_ci hst
    unfold y_swT at ht2
    dsimp only at ht2
    split at ht2
    · next hc =>
      exact lv_tableOut hx hb hdg (by rw [← y_int] at hc; exact hc) (y_off_ok ht2) (kk α tys ws H locs ls lv _ (List.prefix_refl _) ⟨hh, hl, h2, hls, hP, hK, hD, hS⟩)
    · next hc =>
      split at ht2
      · next o ho =>
        rw [← y_int] at hc ho
        exact lv_tableIn hx hb hdg (fun z => hc (Or.inl z)) (fun z => hc (Or.inr z)) ho (y_off_ok ht2) (kk α tys ws H locs ls lv _ (List.prefix_refl _) ⟨hh, hl, h2, hls, hP, hK, hD, hS⟩)
      · cases ht2
  · obtain ⟨t, ht2, rfl⟩ := Option.map_eq_some_iff.mp hs
    obtain ⟨ys, rfl, h2⟩ := y_ds_ci hst
    unfold y_swT at ht2
    dsimp only at ht2
    split at ht2
    · next hc =>
      refine lv_tableOut hx hb hdg ?_ (y_off_ok ht2) (kk α tys ws H locs ls lv _ (List.prefix_refl _) ⟨hh, hl, h2, hls, hP, hK, hD, hS⟩)
      rcases hc with ⟨h5, h6, h7⟩ | ⟨h5, h6, h7⟩
      · left
        have h8 : y_i κ (.inr a) < nI (lo1 % 4294967296).toNat := (y_look_ok hH h5).mpr rfl
        rw [Int32.lt_iff_toInt_lt, y_int] at h8
        unfold y_sg at h8
        omega
      · right
        have h8 : nI (hi % 4294967296).toNat < y_i κ (.inr a) := (y_look_ok hH h5).mpr rfl
        rw [Int32.lt_iff_toInt_lt, y_int] at h8
        unfold y_sg at h8
        omega
    · cases ht2
  · cases hs

set_option maxHeartbeats 4000000 in
set_option maxRecDepth 100000 in
theorem y_st_lsw {d : Int} {ps : Array (Int × Int)} {nx r1 r2 r3 : Nat} (C : y_ctx κ sc p R s m args meth c cc own yn nL A) (hH : y_H κ hy) (hT : y_T κ tb) (hok : y_okop nL own yn cc (pc, (.lookupswitch d ps, nx, r1, r2, r3)) = true) (hs : y_step sc κ.2.2.2 hy tb pc (.lookupswitch d ps, nx, r1, r2, r3) lo st h k n = some S') (hk : S'.2.2.2.2.1 ≤ R.cells) (hn : S'.2.2.2.2.2 ≤ R.slots) (Z : y_Z κ D A s nL α tys ws H locs ls lv sv lo st h)
    (kk : ∀ α' tys' ws' H' locs' ls' lv' sv', α <+: α' → y_Z κ D A s nL α' tys' ws' H' locs' ls' lv' sv' S'.2.1 S'.2.2.1 S'.2.2.2.1 → W p l e R s m args below meth c H' locs' S'.2.2.2.2.1 S'.2.2.2.2.2 Q (F0 m S'.1 ls' sv')) : W p l e R s m args below meth c H locs k n Q (F0 m pc ls sv) := by
  obtain ⟨hx, hb, hml, hown, hts, hyn, hAO, hA, hRf, hRl, hsc⟩ := C
  obtain ⟨hh, hl, hst, hls, hP, hK, hD, hS⟩ := Z
  unfold y_okop y_okin at hok
  simp only [Bool.and_eq_true, decide_eq_true_eq] at hok
  obtain ⟨hdg, hok⟩ := hok
  unfold y_step at hs
  dsimp only at hs
  rcases st with _ | ⟨(a | a) | a, r⟩
  · cases hs
  · obtain ⟨t, ht2, rfl⟩ := Option.map_eq_some_iff.mp hs
    obtain ⟨ys, rfl, h2⟩ := y_ds_ci hst
    rw [← y_int] at ht2
    exact lv_lookup hx hb hdg hok rfl (y_off_ok ht2) (kk α tys ws H locs ls lv _ (List.prefix_refl _) ⟨hh, hl, h2, hls, hP, hK, hD, hS⟩)
  · cases hs
  · cases hs

end YSTEP
