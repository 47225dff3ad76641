set_option maxHeartbeats 8000000 in
set_option maxRecDepth 100000 in
theorem y_step_mono {sc : Bool} {L : Nat} {hy : yF} {tb : yT} {pc k n : Nat} {o : yO} {lo : yL} {st : List yV} {h : List yC} {S' : yS} (hs : y_step sc L hy tb pc o lo st h k n = some S') : k ≤ S'.2.2.2.2.1 ∧ n ≤ S'.2.2.2.2.2 := by
  unfold y_step at hs
  dsimp only at hs
  simp only [Bool.cond_eq_ite] at hs
  split at hs <;> (repeat' split at hs) <;> first
    | (cases hs; done)
    | (cases hs; exact ⟨Nat.le_refl _, Nat.le_refl _⟩)
    | (cases hs; exact ⟨Nat.le_add_right _ _, Nat.le_add_right _ _⟩)
    | (obtain ⟨_, _, rfl⟩ := Option.map_eq_some_iff.mp hs; exact ⟨Nat.le_refl _, Nat.le_refl _⟩)

section YDISP
variable {p : Program} {l : Launch} {e : Env} {R : Room} {s : State} {m : MethodId} {args : Array Value} {below : List Frame} {meth : Method} {c : Code} {H : Heap} {locs : List Loc} {Q : State → Prop} {ls : Array Slot}
variable {κ : yK} {D : va_G} {A : Nat → Prop} {α : List Nat} {tys : List (ClassId × FieldType)} {ws : va_W} {lv : List (Nat × Value)} {sv : List Value} {lo : yL} {st : List yV} {h : List yC} {cc : ByteArray} {own yn : String} {nL : Nat} {hy : yF} {tb : yT} {sc : Bool} {pc k n : Nat} {S' : yS}

set_option maxHeartbeats 8000000 in
set_option maxRecDepth 100000 in
theorem y_step_ok {o : yO} (C : y_ctx κ sc p R s m args meth c cc own yn nL A) (hH : y_H κ hy) (hT : y_T κ tb) (hok : y_okop nL own yn cc (pc, o) = true) (hs : y_step sc κ.2.2.2 hy tb pc o lo st h k n = some S') (hk : S'.2.2.2.2.1 ≤ R.cells) (hn : S'.2.2.2.2.2 ≤ R.slots) (Z : y_Z κ D A s nL α tys ws H locs ls lv sv lo st h)
    (kk : ∀ α' tys' ws' H' locs' ls' lv' sv', α <+: α' → y_Z κ D A s nL α' tys' ws' H' locs' ls' lv' sv' S'.2.1 S'.2.2.1 S'.2.2.2.1 → W p l e R s m args below meth c H' locs' S'.2.2.2.2.1 S'.2.2.2.2.2 Q (F0 m S'.1 ls' sv')) : W p l e R s m args below meth c H locs k n Q (F0 m pc ls sv) := by
  obtain ⟨ins, nx, r1, r2, r3⟩ := o
  cases ins with
  | iconst _ => exact y_st_iconst C hH hT hok hs hk hn Z kk
  | bipush _ => exact y_st_bipush C hH hT hok hs hk hn Z kk
  | sipush _ => exact y_st_sipush C hH hT hok hs hk hn Z kk
  | ldc _ => exact y_st_ldc C hH hT hok hs hk hn Z kk
  | ldc_w _ => exact y_st_ldcw C hH hT hok hs hk hn Z kk
  | lconst _ => exact y_st_lconst C hH hT hok hs hk hn Z kk
  | ldc2_w _ => exact y_st_ldc2 C hH hT hok hs hk hn Z kk
  | iload_n _ => exact y_st_iloadn C hH hT hok hs hk hn Z kk
  | iload _ => exact y_st_iload C hH hT hok hs hk hn Z kk
  | lload_n _ => exact y_st_lloadn C hH hT hok hs hk hn Z kk
  | lload _ => exact y_st_lload C hH hT hok hs hk hn Z kk
  | aload_n _ => exact y_st_aloadn C hH hT hok hs hk hn Z kk
  | aload _ => exact y_st_aload C hH hT hok hs hk hn Z kk
  | istore_n _ => exact y_st_istoren C hH hT hok hs hk hn Z kk
  | istore _ => exact y_st_istore C hH hT hok hs hk hn Z kk
  | lstore_n _ => exact y_st_lstoren C hH hT hok hs hk hn Z kk
  | lstore _ => exact y_st_lstore C hH hT hok hs hk hn Z kk
  | astore_n _ => exact y_st_astoren C hH hT hok hs hk hn Z kk
  | astore _ => exact y_st_astore C hH hT hok hs hk hn Z kk
  | iinc _ _ => exact y_st_iinc C hH hT hok hs hk hn Z kk
  | iadd => exact y_st_iadd C hH hT hok hs hk hn Z kk
  | isub => exact y_st_isub C hH hT hok hs hk hn Z kk
  | imul => exact y_st_imul C hH hT hok hs hk hn Z kk
  | iand => exact y_st_iand C hH hT hok hs hk hn Z kk
  | ior => exact y_st_ior C hH hT hok hs hk hn Z kk
  | ishl => exact y_st_ishl C hH hT hok hs hk hn Z kk
  | ishr => exact y_st_ishr C hH hT hok hs hk hn Z kk
  | iushr => exact y_st_iushr C hH hT hok hs hk hn Z kk
  | irem => exact y_st_irem C hH hT hok hs hk hn Z kk
  | i2c => exact y_st_i2c C hH hT hok hs hk hn Z kk
  | l2i => exact y_st_l2i C hH hT hok hs hk hn Z kk
  | i2l => exact y_st_i2l C hH hT hok hs hk hn Z kk
  | land => exact y_st_land C hH hT hok hs hk hn Z kk
  | lor => exact y_st_lor C hH hT hok hs hk hn Z kk
  | lcmp => exact y_st_lcmp C hH hT hok hs hk hn Z kk
  | lshl => exact y_st_lshl C hH hT hok hs hk hn Z kk
  | lushr => exact y_st_lushr C hH hT hok hs hk hn Z kk
  | dup => exact y_st_dup C hH hT hok hs hk hn Z kk
  | pop => exact y_st_pop C hH hT hok hs hk hn Z kk
  | dup2 => exact y_st_dup2 C hH hT hok hs hk hn Z kk
  | goto _ => exact y_st_goto C hH hT hok hs hk hn Z kk
  | ifCond _ _ => exact y_st_if C hH hT hok hs hk hn Z kk
  | if_icmp _ _ => exact y_st_icmp C hH hT hok hs hk hn Z kk
  | tableswitch _ _ _ _ => exact y_st_tsw C hH hT hok hs hk hn Z kk
  | lookupswitch _ _ => exact y_st_lsw C hH hT hok hs hk hn Z kk
  | getfield _ => exact y_st_getf C hH hT hok hs hk hn Z kk
  | putfield _ => exact y_st_putf C hH hT hok hs hk hn Z kk
  | iaload => exact y_st_iald C hH hT hok hs hk hn Z kk
  | baload => exact y_st_bald C hH hT hok hs hk hn Z kk
  | aaload => exact y_st_aald C hH hT hok hs hk hn Z kk
  | iastore => exact y_st_iast C hH hT hok hs hk hn Z kk
  | bastore => exact y_st_bast C hH hT hok hs hk hn Z kk
  | castore => exact y_st_cast C hH hT hok hs hk hn Z kk
  | aastore => exact y_st_aast C hH hT hok hs hk hn Z kk
  | arraylength => exact y_st_alen C hH hT hok hs hk hn Z kk
  | new _ => exact y_st_new C hH hT hok hs hk hn Z kk
  | anewarray _ => exact y_st_anewa C hH hT hok hs hk hn Z kk
  | invokespecial _ => exact y_st_spec C hH hT hok hs hk hn Z kk
  | invokestatic _ => exact y_st_stat C hH hT hok hs hk hn Z kk
  | newarray ty =>
    cases ty with
    | int => exact y_st_newa_int C hH hT hok hs hk hn Z kk
    | boolean => exact y_st_newa_boolean C hH hT hok hs hk hn Z kk
    | char => exact y_st_newa_char C hH hT hok hs hk hn Z kk
    | long => exact y_st_newa_long C hH hT hok hs hk hn Z kk
    | _ =>
      unfold y_okop at hok
      simp only [Bool.and_eq_true] at hok
      exact absurd hok.2 (by simp [y_okin])
  | _ => cases hs

end YDISP

/-- a method's answer -/
def y_dr (κ : yK) (α : List Nat) : Option yV → Option Value → Prop
  | none, v => v = none
  | some u, v => ∃ x, v = some x ∧ y_d κ α u = some x
def y_Q (κ : yK) (D : va_G) (α : List Nat) (A : Nat → Prop) (rv : Option yV) (h : List yC) : Array Value → State → Outcome → State → Prop := fun _ st oc t =>
  (∃ (v : Option Value) (α' : List Nat) (tys' : List (ClassId × FieldType)) (ws' : va_W), oc = .returned v ∧ y_dr κ α' rv v ∧ α <+: α' ∧ y_h κ α' tys' h ws' ∧ va_P D vwCl ws' t.heap ∧ va_K D vwCl tys' t ∧ va_D A ws') ∧ va_F A st t
def y_Pc (D : va_G) (tys : List (ClassId × FieldType)) (ws : va_W) (sz : Nat) : State → Prop := fun U =>
  U.heap.size = sz ∧ va_P D vwCl ws U.heap ∧ va_K D vwCl tys U ∧ va_D (fun _ => True) ws ∧ y_aux U
def y_rm (d c n : Nat) : Room := { frames := d + 1, cells := c, slots := n, locals := 60 * (d + 1) }
/-- an entry: what it says of the method is so -/
def y_okc (mt : List yE) (own : String) (o : yO) : Bool := match o.1 with
  | .invokevirtual i => match mt[o.2.2.1]? with
    | none => false
    | some e' => yM (.methodLink own i e'.1) && (yM (.instanceMethod e'.1) && (yM (.selects e'.1.cls e'.1 e'.1) && (yM (.initialized e'.1.cls) && (decide ((parseMethodDescriptor e'.1.desc).map (fun d => d.parameters.length) = some o.2.2.2.1) && (match vwCl[o.2.2.2.2]? with
      | none => false
      | some r => decide (r.1 = e'.1.cls))))))
  | .invokestatic i => bif y_nat o.2.2.2.2 then true else match mt[o.2.2.1]? with
    | none => false
    | some e' => yM (.methodLink own i e'.1) && (yM (.static e'.1) && (yM (.initialized e'.1.cls) && decide ((parseMethodDescriptor e'.1.desc).map (fun d => d.parameters.length) = some o.2.2.2.1)))
  | .invokespecial i => bif Nat.beq o.2.2.2.2 99 then true else match mt[o.2.2.1]? with
    | none => false
    | some e' => (yM (.methodLink own i e'.1) || zN.any (fun q => decide (q.1 = own ∧ q.2.1 = i ∧ q.2.2.1 = e'.1))) && (yM (.instanceMethod e'.1) && (decide (e'.1.name = "<init>") && (decide (e'.2.2.2.1 = none) && (yM (.initialized e'.1.cls) && decide ((parseMethodDescriptor e'.1.desc).map (fun d => d.parameters.length) = some o.2.2.2.1)))))
  | _ => true
def y_okb (mt : List yE) (e : yE) : Bool := e.2.2.2.2.all (fun q => y_okop e.2.2.1 e.1.cls e.1.name e.2.1 q && y_okc mt e.1.cls q.2)
def y_ok (mt : List yE) (e : yE) : Bool := yM (.code e.1 e.2.1 e.2.2.1 e.2.2.2.1) && (plainName e.1.cls && (decide (e.1.cls ≠ "java/lang/invoke/MethodHandle" ∧ e.1.cls ≠ "java/lang/invoke/VarHandle") && (Nat.ble e.2.2.1 40 && y_okb mt e)))
theorem y_find_mem {ps : List (Nat × yO)} {pc : Nat} {o : yO} (h : y_find ps pc = some o) : (pc, o) ∈ ps := by
  induction ps with
  | nil => cases h
  | cons q r ih =>
    unfold y_find at h
    cases hc : Nat.beq q.1 pc with
    | true =>
      rw [hc] at h
      have e1 := y_beq.mp hc
      have e2 : q.2 = o := Option.some.inj h
      rw [← e1, ← e2]
      exact List.mem_cons_self
    | false =>
      rw [hc] at h
      exact List.mem_cons_of_mem _ (ih h)

/-- the words of a method -/
def y_ws (e : yE) : List Cond := Cond.code e.1 e.2.1 e.2.2.1 e.2.2.2.1 :: yCT
/-- what a run of f steps at most says of the machine -/
def y_OK (l : Launch) (mt : List yE) (κ : yK) (D : va_G) (hy : yF) (tb : yT) (f : Nat) : Prop :=
  ∀ (sc : Bool) (d : Nat) (e : yE) (S S' : yS), y_okb mt e = true → y_go mt κ.2.2.2 hy tb f sc d e S = some S' → (S.2.2.2.2.1 ≤ S'.2.2.2.2.1 ∧ S.2.2.2.2.2 ≤ S'.2.2.2.2.2) ∧
    ∀ {p : Program} {en : Env} {R : Room} {s : State} {m : MethodId} {args : Array Value} {below : List Frame} {meth : Method} {c : Code} {H : Heap} {locs : List Loc} {Q : State → Prop} {ls : Array Slot} {A : Nat → Prop} {α : List Nat} {tys : List (ClassId × FieldType)} {ws : va_W} {lv : List (Nat × Value)} {sv : List Value},
      y_ctx κ sc p R s m args meth c e.2.1 e.1.cls e.1.name e.2.2.1 A → d + 1 ≤ R.frames → 60 * (d + 1) ≤ R.locals → S'.2.2.2.2.1 ≤ R.cells → S'.2.2.2.2.2 ≤ R.slots →
      y_Z κ D A s e.2.2.1 α tys ws H locs ls lv sv S.2.1 S.2.2.1 S.2.2.2.1 →
      (∀ α' tys' ws' H' locs' ls' lv' sv', α <+: α' → y_Z κ D A s e.2.2.1 α' tys' ws' H' locs' ls' lv' sv' S'.2.1 S'.2.2.1 S'.2.2.2.1 → W p l en R s m args below meth c H' locs' S'.2.2.2.2.1 S'.2.2.2.2.2 Q (F0 m S'.1 ls' sv')) →
      W p l en R s m args below meth c H locs S.2.2.2.2.1 S.2.2.2.2.2 Q (F0 m S.1 ls sv)
set_option maxHeartbeats 4000000 in
set_option maxRecDepth 100000 in
/-- a method's contract out of its run -/
theorem y_met {l : Launch} {mt : List yE} {κ : yK} {D : va_G} {hy : yF} {tb : yT} {f d : Nat} {e : yE} {av : List yV} {h : List yC} {S' : yS} {rv : Option yV} (hOK : y_OK l mt κ D hy tb f) (he : y_ok mt e = true) (hgo : y_go mt κ.2.2.2 hy tb f false d e (0, y_args 0 av, [], h, 0, 0) = some S') (hend : y_end e S' = some rv) (hav : y_cats av ≤ e.2.2.1)
    {α : List Nat} {tys : List (ClassId × FieldType)} {ws : va_W} {vals : List Value} (sz : Nat) (hh : y_h κ α tys h ws) (hvals : y_ds κ α av vals) :
    Met l e.1 (y_ws e) (y_rm d S'.2.2.2.2.1 S'.2.2.2.2.2) (va_Pc vals (y_Pc D tys ws sz)) (y_Q κ D α (va_A ws sz) rv S'.2.2.2.1) S'.2.2.2.2.1 S'.2.2.2.2.2 (va_A ws sz) := by
  have he0 := he
  unfold y_ok at he
  simp only [Bool.and_eq_true, decide_eq_true_eq] at he
  obtain ⟨e1, e2, e3, e4, e5⟩ := he
  refine Met.ofW (cc := e.2.1) (maxL := e.2.2.1) (ret := e.2.2.2.1) e2 rfl ?_
  intro p en s m args below meth c s₁ B hml hv
  obtain ⟨rfl, hsz, hP, hK, hD0, hAO⟩ := hv
  have hx := B.exec
  have hb := B.bytes
  have hr := B.returns
  have hts := atoms_spec (ws := y_ws e) B.pre
  have hts : ∀ w ∈ yCT, w.before _ s = true := fun w h => hts w (List.mem_cons_of_mem _ h)
  have hown : s.vm.findClass e.1.cls = some m.cls := findClass_of_methodNamed B.named
  have hlocks := B.notSynchronized
  have hin : meth.name = e.1.name := (name_of_methodNamed B.named B.method).1
  subst hsz
  have hD := hD0.self (sz := s.heap.size)
  have hA : ∀ q : Nat, s.heap.size ≤ q → va_A ws s.heap.size q := fun q h => Or.inr h
  have hS : va_S (va_A ws s.heap.size) s.heap s.heap [] := va_S.rf
  have hl := lv_entry vals (n := e.2.2.1) (by rw [y_sl_len hvals]; exact hav)
  rw [lg_entry_eq]
  generalize (lg_sl vals ++ List.replicate (e.2.2.1 - (lg_sl vals).length) Slot.unset).toArray = ls at hl ⊢
  have C : y_ctx κ false p (y_rm d S'.2.2.2.2.1 S'.2.2.2.2.2) s m vals.toArray meth c e.2.1 e.1.cls e.1.name e.2.2.1 (va_A ws s.heap.size) :=
    ⟨hx, hb, hml, hown, hts, fun h => hin.trans h, hAO, hA, by show 1 ≤ d + 1; omega, by show 60 ≤ 60 * (d + 1); omega, fun h => by cases h⟩
  refine (hOK false d e _ _ e5 hgo).2 C (Nat.le_refl _) (Nat.le_refl _) (Nat.le_refl _) (Nat.le_refl _) ⟨hh, y_dl_args 0 hvals, y_ds_0, hl, hP, hK, hD, hS⟩ ?_
  intro α' tys' ws' H' locs' ls' lv' sv' hα ⟨hh', hl', hst', hls', hP', hK', hD', hS'⟩
  obtain ⟨pc', lo', st', h', k', n'⟩ := S'
  dsimp only at *
  unfold y_end at hend
  dsimp only at hend
  cases hf : y_find e.2.2.2.2 pc' with
  | none => rw [hf] at hend; cases hend
  | some o =>
    rw [hf] at hend
    have hmem := List.all_eq_true.mp e5 _ (y_find_mem hf)
    simp only [Bool.and_eq_true] at hmem
    have hop := hmem.1
    obtain ⟨ins, nx, r1, r2, r3⟩ := o
    unfold y_okop y_okin at hop
    simp only [Bool.and_eq_true, decide_eq_true_eq] at hop
    obtain ⟨hdg, hin2⟩ := hop
    have fin : ∀ (v : Option Value), y_dr κ α' rv v → ∀ t : State, t.heap = H' → s.WarmedH t.vm → y_Q κ D α (va_A ws s.heap.size) rv h' vals.toArray s (.returned v) t := fun v hv t ht hW =>
      ⟨⟨v, α', tys', ws', rfl, hv, hα, hh', by rw [ht]; exact hP', va_K.moved hW.alike hK', hD'⟩, hS'.F ht⟩
    dsimp only at hend hdg hin2
    split at hend
    · next a =>
      have hin3 := of_decide_eq_true hin2
      subst hin3
      rw [Nat.add_sub_cancel_left] at hdg
      obtain ⟨ys, rfl, h2⟩ := y_ds_ci hst'
      rw [y_ds_nil h2]
      split at hend
      · next hret =>
        cases hend
        exact W.iret hx hb (hr.trans hret) (fun t ht hW => fin _ ⟨_, rfl, rfl⟩ t ht hW) hS'.2.2 hdg
      · next hret =>
        split at hend
        · next b =>
          cases hc : Nat.ble b 1 with
          | false => rw [hc] at hend; cases hend
          | true =>
            rw [hc] at hend
            cases hend
            have h3 := y_ble.mp hc
            have h4 : b = 0 ∨ b = 1 := by omega
            refine W.zret hx hb (hr.trans hret) ?_ (fun t ht hW => fin _ ⟨_, rfl, rfl⟩ t ht hW) hS'.2.2 hdg
            rcases h4 with rfl | rfl
            · exact (by decide : narrow .boolean (.int (nI 0)) = .int (nI 0))
            · exact (by decide : narrow .boolean (.int (nI 1)) = .int (nI 1))
        · cases hend
      · next hret =>
        split at hend
        · next b =>
          cases hc : Nat.ble b 65535 with
          | false => rw [hc] at hend; cases hend
          | true =>
            rw [hc] at hend
            cases hend
            have h3 := y_ble.mp hc
            exact W.zret hx hb (hr.trans hret) (pk_charN (by omega)).1 (fun t ht hW => fin _ ⟨_, rfl, rfl⟩ t ht hW) hS'.2.2 hdg
        · cases hend
      · cases hend
    · next a =>
      have hin3 := of_decide_eq_true hin2
      subst hin3
      rw [Nat.add_sub_cancel_left] at hdg
      obtain ⟨ys, rfl, h2⟩ := y_ds_cl hst'
      rw [y_ds_nil h2]
      split at hend
      · next hret =>
        cases hend
        exact W.lret hx hb (hr.trans hret) (fun t ht hW => fin _ ⟨_, rfl, rfl⟩ t ht hW) hS'.2.2 hdg
      · cases hend
    · next =>
      have hin3 := of_decide_eq_true hin2
      subst hin3
      rw [Nat.add_sub_cancel_left] at hdg
      rw [y_ds_nil hst']
      split at hend
      · next hret =>
        cases hend
        exact W.vret hx hb (hr.trans hret) (fun t ht hW => fin _ rfl t ht hW) hS'.2.2 hdg
      · cases hend
    · cases hend

