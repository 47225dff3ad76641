/-- what a method answers from where it stands at a return, and what is asked -/
def gx_end (e : yE) (S : gx_S) : Option (Option Prop × Option gx_V) := match y_find e.2.2.2.2 S.1 with
  | none => none
  | some o => match o.1, S.2.2.1 with
    | .ireturn, [.inl a] => match e.2.2.2.1 with
      | some .int => some (none, some (gI a))
      | some .boolean => some (some (a = 0 ∨ a = 1), some (gI a))
      | _ => none
    | .lreturn, [.inr (.inl a)] => if e.2.2.2.1 = some .long then some (none, some (gJ a)) else none
    | .return_, [] => if e.2.2.2.1 = none then some (none, none) else none
    | _, _ => none
/-- from where method e stands it comes to a return, with an answer and cells that Q allows; d calls deep at most -/
def gx_G (l : Launch) (κ : yK) (sh : List gx_C) (mt : List yE) (e : yE) (d : Nat) (S : gx_S) (Q : Option gx_V → gx_M → Prop) : Prop :=
  y_okb mt e = true → ∀ {p : Program} {en : Env} {R : Room} {s : State} {m : MethodId} {args : Array Value} {below : List Frame} {meth : Method} {c : Code} {H : Heap} {locs : List Loc} {Qs : State → Prop} {ls : Array Slot} {D : va_G} {A : Nat → Prop} {α : List Nat} {tys : List (ClassId × FieldType)} {ws : va_W} {lv : List (Nat × Value)} {sv : List Value} {k n : Nat},
    y_ctx κ true p R s m args meth c e.2.1 e.1.cls e.1.name e.2.2.1 A → d + 1 ≤ R.frames → 60 * (d + 1) ≤ R.locals → k ≤ R.cells → n ≤ R.slots →
    gx_Z κ D A s e.2.2.1 α tys ws H locs ls lv sv sh S.2.1 S.2.2.1 S.2.2.2 →
    (∀ (S' : gx_S) (P : Option Prop) (rv : Option gx_V), gx_end e S' = some (P, rv) → (∀ q, P = some q → q) → Q rv S'.2.2.2 → ∀ ws' H' locs' ls' lv' sv', gx_Z κ D A s e.2.2.1 α tys ws' H' locs' ls' lv' sv' sh S'.2.1 S'.2.2.1 S'.2.2.2 → W p l en R s m args below meth c H' locs' k n Qs (F0 m S'.1 ls' sv')) →
    W p l en R s m args below meth c H locs k n Qs (F0 m S.1 ls sv)
def gx_hd : List Nat → Nat
  | [] => 0
  | b :: _ => b
def gx_isB (o : yO) : Bool := match o.1 with
  | .ifCond _ _ => true
  | .if_icmp _ _ => true
  | .aaload => true
  | _ => false
def gx_cs (P : Option Prop) (Ps : List Prop) : List Prop := match P with
  | none => Ps
  | some q => q :: Ps
def gx_all : List Prop → Prop
  | [] => True
  | p :: r => p ∧ gx_all r
/-- f instructions, with the branches told: what they ask, and where they lead -/
def gx_run (κ : yK) (sh : List gx_C) (ps : List (Nat × yO)) : Nat → List Nat → Nat → List gx_V → List gx_V → gx_M → Option (List Prop × gx_S)
  | 0, _, pc, lo, st, M => some ([], pc, lo, st, M)
  | f + 1, ts, pc, lo, st, M => match y_find ps pc with
    | none => none
    | some o => bif !(y_isRet o) && Nat.beq (y_kind o) 0 then (match gx_st1 κ sh (gx_hd ts) pc o lo st M with
      | none => none
      | some (P, S') => match gx_run κ sh ps f (bif gx_isB o then ts.tail else ts) S'.1 S'.2.1 S'.2.2.1 S'.2.2.2 with
        | none => none
        | some (Ps, S'') => some (gx_cs P Ps, S'')) else none
section GXG
variable {l : Launch} {κ : yK} {sh : List gx_C} {mt : List yE} {e : yE} {d pc : Nat} {lo st : List gx_V} {M : gx_M} {S : gx_S} {Q : Option gx_V → gx_M → Prop}
theorem gx_mono {Q' : Option gx_V → gx_M → Prop} {d' : Nat} (h : gx_G l κ sh mt e d S Q) (hd : d ≤ d') (hq : ∀ rv M', Q rv M' → Q' rv M') : gx_G l κ sh mt e d' S Q' :=
  fun he _ _ _ _ _ _ _ _ _ _ _ _ _ _ _ _ _ _ _ _ _ _ C h1 h2 h3 h4 Z kk => h he C (by omega) (by omega) h3 h4 Z (fun S' P rv a b c => kk S' P rv a b (hq rv _ c))
theorem gx_fgt {lo' : List gx_V} (hl : gx_le lo' lo) (h : gx_G l κ sh mt e d (pc, lo', st, M) Q) : gx_G l κ sh mt e d (pc, lo, st, M) Q :=
  fun he _ _ _ _ _ _ _ _ _ _ _ _ _ _ _ _ _ _ _ _ _ _ C h1 h2 h3 h4 Z kk => h he C h1 h2 h3 h4 ⟨Z.1, gx_dl_le Z.2.1 hl, Z.2.2⟩ kk
theorem gx_ret {P : Option Prop} {rv : Option gx_V} (h : gx_end e S = some (P, rv)) (hp : ∀ q, P = some q → q) (hq : Q rv S.2.2.2) : gx_G l κ sh mt e d S Q :=
  fun he _ _ _ _ _ _ _ _ _ _ _ _ _ _ _ _ _ _ _ _ _ _ C h1 h2 h3 h4 Z kk => kk S P rv h hp hq _ _ _ _ _ _ Z
theorem gx_one {t : Nat} {o : yO} {P : Option Prop} {S' : gx_S} (hf : y_find e.2.2.2.2 pc = some o) (hs : gx_st1 κ sh t pc o lo st M = some (P, S')) (hp : ∀ q, P = some q → q) (h : gx_G l κ sh mt e d S' Q) : gx_G l κ sh mt e d (pc, lo, st, M) Q := by
  intro he p en R s m args below meth c H locs Qs ls D A α tys ws lv sv k n C h1 h2 h3 h4 Z kk
  have he5 := he
  unfold y_okb at he5
  have hmem := List.all_eq_true.mp he5 _ (y_find_mem hf)
  simp only [Bool.and_eq_true] at hmem
  exact gx_step_ok C hmem.1 hs hp h3 h4 Z (fun ws' H' locs' ls' lv' sv' Z' => h he C h1 h2 h3 h4 Z' kk)
theorem gx_run_ok : ∀ (f : Nat) (ts : List Nat) (pc : Nat) (lo st : List gx_V) (M : gx_M) (Ps : List Prop) (S' : gx_S), gx_run κ sh e.2.2.2.2 f ts pc lo st M = some (Ps, S') → gx_all Ps → gx_G l κ sh mt e d S' Q → gx_G l κ sh mt e d (pc, lo, st, M) Q := by
  intro f
  induction f with
  | zero =>
    intro ts pc lo st M Ps S' hr hp h
    cases hr
    exact h
  | succ f ih =>
    intro ts pc lo st M Ps S' hr hp h
    unfold gx_run at hr
    cases hf : y_find e.2.2.2.2 pc with
    | none => rw [hf] at hr; cases hr
    | some o =>
      rw [hf] at hr
      dsimp only at hr
      cases hc : (!(y_isRet o) && Nat.beq (y_kind o) 0) with
      | false => rw [hc] at hr; cases hr
      | true =>
        rw [hc] at hr
        simp only [cond_true] at hr
        cases hs : gx_st1 κ sh (gx_hd ts) pc o lo st M with
        | none => rw [hs] at hr; cases hr
        | some q =>
          obtain ⟨P, S1⟩ := q
          rw [hs] at hr
          dsimp only at hr
          cases hr2 : gx_run κ sh e.2.2.2.2 f (bif gx_isB o then ts.tail else ts) S1.1 S1.2.1 S1.2.2.1 S1.2.2.2 with
          | none => rw [hr2] at hr; cases hr
          | some q2 =>
            obtain ⟨Ps2, S2⟩ := q2
            rw [hr2] at hr
            cases hr
            refine gx_one hf hs ?_ (ih _ _ _ _ _ Ps2 _ hr2 ?_ h)
            · intro q hq
              subst hq
              exact hp.1
            · cases P with
              | none => exact hp
              | some q => exact hp.2
theorem gx_seg (f : Nat) (ts : List Nat) {Ps : List Prop} {S' : gx_S} (hr : gx_run κ sh e.2.2.2.2 f ts pc lo st M = some (Ps, S')) (hp : gx_all Ps) (h : gx_G l κ sh mt e d S' Q) : gx_G l κ sh mt e d (pc, lo, st, M) Q := gx_run_ok f ts pc lo st M Ps S' hr hp h
end GXG
/-- a method, called -/
def gx_X (l : Launch) (κ : yK) (sh : List gx_C) (mt : List yE) (e : yE) (d : Nat) (av : List gx_V) (M : gx_M) (Q : Option gx_V → gx_M → Prop) : Prop :=
  gx_G l κ sh mt e d (0, gx_ar av ++ List.replicate (e.2.2.1 - gx_cats av) gU, [], M) Q
-- calls
def gx_dr (κ : yK) (α : List Nat) : Option gx_V → Option Value → Prop
  | none, v => v = none
  | some u, v => ∃ x, v = some x ∧ gx_d κ α u = some x
def gx_Q (κ : yK) (D : va_G) (sh : List gx_C) (α : List Nat) (tys : List (ClassId × FieldType)) (A : Nat → Prop) (Q : Option gx_V → gx_M → Prop) : Array Value → State → Outcome → State → Prop := fun _ st oc t =>
  (∃ (v : Option Value) (rv : Option gx_V) (M' : gx_M) (ws' : va_W), oc = .returned v ∧ gx_dr κ α rv v ∧ Q rv M' ∧ gx_h κ α tys sh M' ws' ∧ va_P D vwCl ws' t.heap ∧ va_K D vwCl tys t ∧ va_D A ws') ∧ va_F A st t
def gx_Pc (κ : yK) (D : va_G) (tys : List (ClassId × FieldType)) (ws : va_W) (sz : Nat) : State → Prop := fun U =>
  U.heap.size = sz ∧ va_P D vwCl ws U.heap ∧ va_K D vwCl tys U ∧ va_D (fun _ => True) ws ∧ y_aux U ∧ va_X κ.2.2.1 κ.2.2.2 κ.1 U U.heap ∧ κ.2.2.1 < sz ∧ ¬ va_A ws sz κ.2.2.1
theorem gx_blind (κ : yK) (D : va_G) (tys : List (ClassId × FieldType)) (ws : va_W) (sz : Nat) (vals : List Value) : FrameBlind (va_Pc vals (gx_Pc κ D tys ws sz)) := fun a U g mk q => by
  obtain ⟨q0, q1, qP, qK, qD, qA, qX, qB⟩ := q
  exact ⟨q0, q1, qP, va_K.moved (u := U) (U := U.calling g mk a) (Vm.Alike.refl U.vm) qK, qD, y_aux_call qA, va_X.moved (u := U) (U := U.calling g mk a) (Vm.Alike.refl U.vm) qX, qB⟩
set_option maxHeartbeats 4000000 in
set_option maxRecDepth 100000 in
/-- a method's contract -/
theorem gx_met {l : Launch} {κ : yK} {sh : List gx_C} {mt : List yE} {D : va_G} {e : yE} {d : Nat} {av : List gx_V} {M : gx_M} {Q : Option gx_V → gx_M → Prop} (he : y_ok mt e = true) (hX : gx_X l κ sh mt e d av M Q) (hav : gx_cats av ≤ e.2.2.1)
    {α : List Nat} {tys : List (ClassId × FieldType)} {ws : va_W} {vals : List Value} (sz : Nat) (hh : gx_h κ α tys sh M ws) (hvals : gx_ds κ α av vals) :
    Met l e.1 (y_ws e) (y_rm d 0 0) (va_Pc vals (gx_Pc κ D tys ws sz)) (gx_Q κ D sh α tys (va_A ws sz) Q) 0 0 (va_A ws sz) := by
  unfold y_ok at he
  simp only [Bool.and_eq_true, decide_eq_true_eq] at he
  obtain ⟨e1, e2, e3, e4, e5⟩ := he
  refine Met.ofW (cc := e.2.1) (maxL := e.2.2.1) (ret := e.2.2.2.1) e2 rfl ?_
  intro p en s m args below meth c s₁ B hml hv
  obtain ⟨rfl, hsz, hP, hK, hD0, hAO, hXs, hbl, hbA⟩ := hv
  have hx := B.exec
  have hb := B.bytes
  have hr := B.returns
  have hts := atoms_spec (ws := y_ws e) B.pre
  have hts : ∀ w ∈ yCT, w.before _ s = true := fun w h => hts w (List.mem_cons_of_mem _ h)
  have hown : s.vm.findClass e.1.cls = some m.cls := findClass_of_methodNamed B.named
  have hlocks := B.notSynchronized
  have hin : meth.name = e.1.name := (name_of_methodNamed B.named B.method).1
  subst hsz
  have hD := hD0.self (sz := s.heap.size)
  have hA : ∀ q : Nat, s.heap.size ≤ q → va_A ws s.heap.size q := fun q h => Or.inr h
  have hS : va_S (va_A ws s.heap.size) s.heap s.heap [] := va_S.rf
  have hl := lv_entry vals (n := e.2.2.1) (by rw [gx_sl_len hvals]; exact hav)
  rw [lg_entry_eq]
  generalize (lg_sl vals ++ List.replicate (e.2.2.1 - (lg_sl vals).length) Slot.unset).toArray = ls at hl ⊢
  have C : y_ctx κ true p (y_rm d 0 0) s m vals.toArray meth c e.2.1 e.1.cls e.1.name e.2.2.1 (va_A ws s.heap.size) :=
    ⟨hx, hb, hml, hown, hts, fun h => hin.trans h, hAO, hA, by show 1 ≤ d + 1; omega, by show 60 ≤ 60 * (d + 1); omega, fun _ => ⟨hXs, hbl, hbA⟩⟩
  refine hX e5 C (Nat.le_refl _) (Nat.le_refl _) (Nat.le_refl _) (Nat.le_refl _) ⟨hh, ?_, gx_ds_0, hl, hP, hK, hD, hS⟩ ?_
  · intro j v hj hv
    obtain ⟨x, hx1, hx2⟩ := gx_dl_args (e.2.2.1 - gx_cats av) 0 hvals j v hj hv
    rw [Nat.zero_add] at hx1
    exact ⟨x, hx1, hx2⟩
  intro S' P rv hend hPq hQ ws' H' locs' ls' lv' sv' ⟨hh', hl', hst', hls', hP', hK', hD', hS'⟩
  obtain ⟨pc', lo', st', M'⟩ := S'
  dsimp only at *
  unfold gx_end at hend
  dsimp only at hend
  cases hf : y_find e.2.2.2.2 pc' with
  | none => rw [hf] at hend; cases hend
  | some o =>
    rw [hf] at hend
    have hmem := List.all_eq_true.mp e5 _ (y_find_mem hf)
    simp only [Bool.and_eq_true] at hmem
    have hop := hmem.1
    obtain ⟨ins, nx, r1, r2, r3⟩ := o
    unfold y_okop y_okin at hop
    simp only [Bool.and_eq_true, decide_eq_true_eq] at hop
    obtain ⟨hdg, hin2⟩ := hop
    have fin : ∀ (v : Option Value), gx_dr κ α rv v → ∀ t : State, t.heap = H' → s.WarmedH t.vm → gx_Q κ D sh α tys (va_A ws s.heap.size) Q vals.toArray s (.returned v) t := fun v hv t ht hW =>
      ⟨⟨v, rv, M', ws', rfl, hv, hQ, hh', by rw [ht]; exact hP', va_K.moved hW.alike hK', hD'⟩, hS'.F ht⟩
    dsimp only at hend hdg hin2
    split at hend
    · next a =>
      have hin3 := of_decide_eq_true hin2
      subst hin3
      rw [Nat.add_sub_cancel_left] at hdg
      obtain ⟨ys, rfl, h2⟩ := gx_ds_ci hst'
      rw [gx_ds_nil h2]
      split at hend
      · next hret =>
        cases hend
        exact W.iret hx hb (hr.trans hret) (fun t ht hW => fin _ ⟨_, rfl, rfl⟩ t ht hW) hS'.2.2 hdg
      · next hret =>
        cases hend
        exact W.zret hx hb (hr.trans hret) (gx_bool_fit (hPq _ rfl)).1 (fun t ht hW => fin _ ⟨_, rfl, rfl⟩ t ht hW) hS'.2.2 hdg
      · cases hend
    · next a =>
      have hin3 := of_decide_eq_true hin2
      subst hin3
      rw [Nat.add_sub_cancel_left] at hdg
      obtain ⟨ys, rfl, h2⟩ := gx_ds_cl hst'
      rw [gx_ds_nil h2]
      split at hend
      · next hret =>
        cases hend
        exact W.lret hx hb (hr.trans hret) (fun t ht hW => fin _ ⟨_, rfl, rfl⟩ t ht hW) hS'.2.2 hdg
      · cases hend
    · next =>
      have hin3 := of_decide_eq_true hin2
      subst hin3
      rw [Nat.add_sub_cancel_left] at hdg
      rw [gx_ds_nil hst']
      split at hend
      · next hret =>
        cases hend
        exact W.vret hx hb (hr.trans hret) (fun t ht hW => fin _ rfl t ht hW) hS'.2.2 hdg
      · cases hend
    · cases hend
/-- one answer, and one state of the cells -/
def gx_eq (rv : Option gx_V) (M : gx_M) : Option gx_V → gx_M → Prop := fun rv' M' => rv' = rv ∧ M' = M
theorem gx_ac {p : Prop} {r : List Prop} (h : p) (h2 : gx_all r) : gx_all (p :: r) := ⟨h, h2⟩
theorem gx_an : gx_all [] := trivial
section GXC
variable {p : Program} {l : Launch} {en : Env} {R : Room} {s : State} {m : MethodId} {args : Array Value} {below : List Frame} {meth : Method} {c : Code} {H : Heap} {locs : List Loc} {Q : State → Prop} {ls : Array Slot}
variable {κ : yK} {D : va_G} {A : Nat → Prop} {α : List Nat} {tys : List (ClassId × FieldType)} {ws : va_W} {sh : List gx_C}
theorem gx_callW {cells slots pc : Nat} {st0 rest : List Value} {a : Array Value} {Qc : Option gx_V → gx_M → Prop}
    (hr : va_Run p l en R s m args below meth c H locs cells slots 0 0 (F0 m pc ls st0) rest (gx_Q κ D sh α tys (va_A ws H.size) Qc a) (va_A ws H.size)) (hS : va_S A s.heap H locs) (hA : ∀ q, va_A ws H.size q → A q)
    (kk : ∀ (v : Option Value) (rv : Option gx_V) (M' : gx_M) (ws' : va_W) (H1 : Heap) (locs1 : List Loc), gx_dr κ α rv v → Qc rv M' → gx_h κ α tys sh M' ws' → va_P D vwCl ws' H1 → va_K D vwCl tys s → va_D A ws' → va_S A s.heap H1 locs1 →
      W p l en R s m args below meth c H1 locs1 cells slots Q (F0 m (pc + 3) ls (v.toList ++ rest))) : W p l en R s m args below meth c H locs cells slots Q (F0 m pc ls st0) := by
  intro T hT X
  obtain ⟨v, st₀, t, T', L, h0, X', hL, e1, e2, ⟨⟨v', rv, M', ws', hv, hdr, hq, hh, hP, hK, hD⟩, hz, hk⟩, st⟩ := hr T hT X
  cases hv
  rw [h0] at hz hk
  have hvm : s.vm.Alike t.vm := by rw [← e2]; exact X'.warmed.alike
  obtain ⟨t2, a1, b1⟩ := kk v rv M' ws' T'.heap (locs ++ L) hdr hq hh (by rw [e1]; exact hP) (va_K.moved hvm.symm hK) (hD.weaken fun k q _ hq => hA q.1 (by rw [h0] at *; exact hq))
    ⟨Nat.le_trans hS.1 (by rw [e1]; exact hz), fun q h1 h2 => by rw [e1, hk q (Nat.lt_of_lt_of_le h1 hS.1) (fun z => h2 (hA q z))]; exact hS.2.1 q h1 h2, fun q hq => by
      rcases List.mem_append.mp hq with h | h
      · exact hS.2.2 q h
      · exact hA _ (hL q h)⟩ T' rfl X'
  exact ⟨t2, st t2 a1, b1⟩
end GXC
/-- what the callee is given, and what stays on the stack -/
def gx_split (kd na ci : Nat) (sh : List gx_C) (st : List gx_V) : Option (List gx_V × List gx_V) :=
  bif Nat.beq kd 2 then (bif Nat.ble na st.length then some ((st.take na).reverse, st.drop na) else none) else bif Nat.beq kd 1 then (match st.drop na with
    | .inr (.inr (some (i + 1))) :: r => match gx_at sh i with
      | some (.inl (cj, _)) => bif Nat.beq cj ci then some (.inr (.inr (some (i + 1))) :: (st.take na).reverse, r) else none
      | _ => none
    | _ => none) else none
def gx_psh : Option gx_V → List gx_V → List gx_V
  | none, r => r
  | some v, r => v :: r
set_option maxHeartbeats 8000000 in
set_option maxRecDepth 100000 in
theorem gx_call {l : Launch} {κ : yK} {sh : List gx_C} {mt : List yE} (hmt : ∀ e ∈ mt, y_ok mt e = true) {e e' : yE} {d d' pc : Nat} {lo st av rest : List gx_V} {M : gx_M} {Q Qc : Option gx_V → gx_M → Prop} {o : yO}
    (hf : y_find e.2.2.2.2 pc = some o) (hm : mt[o.2.2.1]? = some e') (hsp : gx_split (y_kind o) o.2.2.2.1 o.2.2.2.2 sh st = some (av, rest)) (hc : (Nat.ble (gx_cats rest) 8 && Nat.ble (gx_cats av) e'.2.2.1) = true)
    (hX : gx_X l κ sh mt e' d' av M Qc) (hd : d' + 1 ≤ d) (h : ∀ rv M', Qc rv M' → gx_G l κ sh mt e d (o.2.1, lo, gx_psh rv rest, M') Q) : gx_G l κ sh mt e d (pc, lo, st, M) Q := by
  intro he p en R s m args below meth c H locs Qs ls D A α tys ws lv sv k n C h1 h2 h3 h4 Z kk
  have he5 := he
  unfold y_okb at he5
  have hmem := List.all_eq_true.mp he5 _ (y_find_mem hf)
  simp only [Bool.and_eq_true] at hmem
  obtain ⟨hop, hoc⟩ := hmem
  simp only [Bool.and_eq_true] at hc
  have hc8 := y_ble.mp hc.1
  have hcav := y_ble.mp hc.2
  have C0 := C
  obtain ⟨hx, hb, hml, hown, hts, hyn, hAO, hA, hRf, hRl, hsc⟩ := C
  obtain ⟨hh, hl, hst, hls, hP, hK, hD, hS⟩ := Z
  have hst : gx_ds κ α st sv := hst
  obtain ⟨hXs, hbl, hbA⟩ := hsc rfl
  have he' := hmt e' (List.mem_of_getElem? hm)
  have he'' := he'
  unfold y_ok at he''
  simp only [Bool.and_eq_true, decide_eq_true_eq] at he''
  obtain ⟨f1, f2, f3, f4, f5⟩ := he''
  have f4 := y_ble.mp f4
  have hAA : ∀ q, va_A ws H.size q → A q := by
    intro q hq
    rcases hq with ⟨k, e0, hk⟩ | hq
    · exact hD.2 k (q, e0) hk
    · exact hA q (Nat.le_trans hS.1 hq)
  have hR : (y_rm d' 0 0).frames + 1 ≤ R.frames ∧ 8 + (e'.2.2.1 + 11) + (y_rm d' 0 0).locals ≤ R.locals := by
    refine ⟨by show d' + 1 + 1 ≤ R.frames; omega, ?_⟩
    show 8 + (e'.2.2.1 + 11) + 60 * (d' + 1) ≤ R.locals
    omega
  have hpre : ∀ vals : List Value, ∀ U : State, U.heap = H → s.WarmedH U.vm → va_Pc vals (gx_Pc κ D tys ws H.size) vals.toArray U := fun vals U hU hW => ⟨rfl, by rw [hU], by rw [hU]; exact hP, va_K.moved hW.alike hK, hD.weaken (fun _ _ _ _ => trivial), y_aux_warm hW hAO, va_X.moved hW.alike (by rw [hU]; exact va_X.kept hXs (hS.2.1 _ hbl hbA)), Nat.lt_of_lt_of_le hbl hS.1, fun z => hbA (hAA _ z)⟩
  have go : ∀ (v : Option Value) (ys : List Value), gx_ds κ α rest ys → ∀ (rv : Option gx_V) (M' : gx_M) (ws' : va_W) (H1 : Heap) (locs1 : List Loc), gx_dr κ α rv v → Qc rv M' → gx_h κ α tys sh M' ws' → va_P D vwCl ws' H1 → va_K D vwCl tys s → va_D A ws' → va_S A s.heap H1 locs1 →
      W p l en R s m args below meth c H1 locs1 k n Qs (F0 m o.2.1 ls (v.toList ++ ys)) := by
    intro v ys hys rv M' ws' H1 locs1 hdr hq hh1 hP1 hK1 hD1 hS1
    refine h rv M' hq he C0 h1 h2 h3 h4 ⟨hh1, hl, ?_, hls, hP1, hK1, hD1, hS1⟩ kk
    cases rv with
    | none =>
      have e9 : v = none := hdr
      subst e9
      exact hys
    | some u =>
      obtain ⟨x, rfl, hx2⟩ := hdr
      exact gx_ds_mk hx2 hys
  obtain ⟨ins, nx, q1, q2, q3⟩ := o
  dsimp only at hm hsp go h
  unfold y_okop y_okin at hop
  simp only [Bool.and_eq_true, decide_eq_true_eq] at hop
  obtain ⟨hdg, hin2⟩ := hop
  try dsimp only at hdg hin2
  cases ins with
  | invokevirtual i =>
    have hin3 := of_decide_eq_true hin2
    subst hin3
    rw [Nat.add_sub_cancel_left] at hdg
    replace hsp : (match st.drop q2 with
      | .inr (.inr (some (i + 1))) :: r => match gx_at sh i with
        | some (.inl (cj, _)) => bif Nat.beq cj q3 then some (.inr (.inr (some (i + 1))) :: (st.take q2).reverse, r) else none
        | _ => none
      | _ => none) = some (av, rest) := hsp
    obtain ⟨j, fs, hd1, hd2, rfl⟩ : ∃ (i : Nat) (fs : List (Option Nat)), st.drop q2 = .inr (.inr (some (i + 1))) :: rest ∧ gx_at sh i = some (.inl (q3, fs)) ∧ av = .inr (.inr (some (i + 1))) :: (st.take q2).reverse := by
      split at hsp
      · next i r hd =>
        split at hsp
        · next cj fs hg =>
          cases hc9 : Nat.beq cj q3 with
          | false => rw [hc9] at hsp; cases hsp
          | true =>
            rw [hc9] at hsp
            cases hsp
            have e := y_beq.mp hc9
            subst e
            exact ⟨i, fs, hd, hg, rfl⟩
        · cases hsp
      · cases hsp
    have hdrop := gx_ds_drop q2 hst
    rw [hd1] at hdrop
    obtain ⟨b, ys, hd3, hb1, hys⟩ := gx_ds_cr hdrop
    obtain ⟨b', e9, g1, g2, vs, g3, rfl⟩ := hh.2.2 j _ (gx_at_ok hd2)
    have e10 : b' = b := Option.some.inj (g1.symm.trans hb1)
    subst e10
    unfold y_okc at hoc
    dsimp only at hoc
    rw [hm] at hoc
    simp only [Bool.and_eq_true, decide_eq_true_eq] at hoc
    obtain ⟨w1, w2, w3, w4, w5, w6⟩ := hoc
    cases hr : vwCl[q3]? with
    | none => rw [hr] at w6; cases w6
    | some rr =>
    rw [hr] at w6
    have w6 := of_decide_eq_true w6
    have hvals : gx_ds κ α (.inr (.inr (some (j + 1))) :: (st.take q2).reverse) (.ref b' :: (sv.take q2).reverse) := gx_ds_r hb1 (gx_ds_rev (gx_ds_take q2 hst))
    have hM := gx_met (D := D) he' hX hcav H.size hh hvals
    have hlen : (sv.take q2).length = q2 := by
      rw [List.length_take]
      have h9 : (sv.drop q2).length = (Value.ref b' :: ys).length := by rw [hd3]
      rw [List.length_drop, List.length_cons] at h9
      omega
    have hstk : sv = (sv.take q2).reverse.reverse ++ .ref b' :: ys := by
      rw [List.reverse_reverse, ← hd3, List.take_append_drop]
    have hrecv := va_recv hK hP hr g2
    rw [w6] at hrecv
    refine gx_callW (va_runV (As := (sv.take q2).reverse) (rest := ys) ⟨hx, hb, hml, hown, hts⟩ hM (cwV q2 hts (y_good4 f1 w1 w2 w3 w4) rfl rfl rfl ⟨rfl, f3.1, f3.2, w5⟩ hR) ⟨gx_blind κ D tys ws H.size _, hrecv, hpre _⟩ rfl (by rw [List.length_reverse]; exact hlen) hls.1 hstk (lv_room (by rw [gx_cats_ok hys]; exact hc8)) hdg ⟨by omega, by omega⟩) hS hAA (fun v rv M' ws' H1 locs1 a1 a2 a3 a4 a5 a6 a7 => go v ys hys rv M' ws' H1 locs1 a1 a2 a3 a4 a5 a6 a7)
  | invokestatic i =>
    have h98 : y_nat q3 = false := by
      cases h98 : y_nat q3 with
      | false => rfl
      | true =>
        have hk2 : y_kind (.invokestatic i, nx, q1, q2, q3) = 0 := by
          show (bif y_nat q3 then 0 else 2) = 0
          rw [h98]
          rfl
        rw [hk2] at hsp
        cases hsp
    have hk2 : y_kind (.invokestatic i, nx, q1, q2, q3) = 2 := by
      show (bif y_nat q3 then 0 else 2) = 2
      rw [h98]
      rfl
    rw [hk2] at hsp
    simp only [Bool.and_eq_true] at hin2
    have hin3 := of_decide_eq_true hin2.1
    subst hin3
    rw [Nat.add_sub_cancel_left] at hdg
    replace hsp : (bif Nat.ble q2 st.length then some ((st.take q2).reverse, st.drop q2) else none) = some (av, rest) := hsp
    cases hlb : Nat.ble q2 st.length with
    | false => rw [hlb] at hsp; cases hsp
    | true =>
    rw [hlb] at hsp
    cases hsp
    have hlen0 := y_ble.mp hlb
    unfold y_okc at hoc
    dsimp only at hoc
    rw [h98, hm] at hoc
    simp only [cond_false, Bool.and_eq_true, decide_eq_true_eq] at hoc
    obtain ⟨w1, w2, w3, w5⟩ := hoc
    have hvals := gx_ds_rev (gx_ds_take q2 hst)
    have hM := gx_met (D := D) he' hX hcav H.size hh hvals
    have hlen : (sv.take q2).length = q2 := by
      rw [List.length_take, ← gx_ds_len hst]
      omega
    have hstk : sv = (sv.take q2).reverse.reverse ++ sv.drop q2 := by
      rw [List.reverse_reverse, List.take_append_drop]
    have hys := gx_ds_drop q2 hst
    refine gx_callW (va_runS (As := (sv.take q2).reverse) (rest := sv.drop q2) ⟨hx, hb, hml, hown, hts⟩ hM (va_cwS q2 hts (y_good3 f1 w1 w2 w3) rfl rfl rfl ⟨f3.1, f3.2, w5⟩ hR) ⟨gx_blind κ D tys ws H.size _, hpre _⟩ rfl (by rw [List.length_reverse]; exact hlen) hls.1 hstk (lv_room (by rw [gx_cats_ok hys]; exact hc8)) hdg ⟨by omega, by omega⟩) hS hAA (fun v rv M' ws' H1 locs1 a1 a2 a3 a4 a5 a6 a7 => go v _ hys rv M' ws' H1 locs1 a1 a2 a3 a4 a5 a6 a7)
  | invokespecial i =>
    have hk : y_kind (.invokespecial i, nx, q1, q2, q3) = 0 ∨ y_kind (.invokespecial i, nx, q1, q2, q3) = 3 := by
      show (bif Nat.beq q3 99 then 0 else 3) = 0 ∨ (bif Nat.beq q3 99 then 0 else 3) = 3
      cases Nat.beq q3 99 with
      | true => exact Or.inl rfl
      | false => exact Or.inr rfl
    rcases hk with hk | hk <;> rw [hk] at hsp <;> cases hsp
  | _ => cases hsp
theorem gx_lk {a : gx_V} {l r : List gx_V} (h : gx_le l r) : gx_le (a :: l) (a :: r) := ⟨Or.inr rfl, h⟩
theorem gx_lu {a : gx_V} {l r : List gx_V} (h : gx_le l r) : gx_le (gU :: l) (a :: r) := ⟨Or.inl rfl, h⟩
theorem gx_ln : gx_le [] [] := trivial
theorem gx_call1 {l : Launch} {κ : yK} {sh : List gx_C} {mt : List yE} (hmt : ∀ e ∈ mt, y_ok mt e = true) {e e' : yE} {d d' pc : Nat} {lo st av rest : List gx_V} {M M1 : gx_M} {Q : Option gx_V → gx_M → Prop} {rv : Option gx_V} {o : yO}
    (hf : y_find e.2.2.2.2 pc = some o) (hm : mt[o.2.2.1]? = some e') (hsp : gx_split (y_kind o) o.2.2.2.1 o.2.2.2.2 sh st = some (av, rest)) (hc : (Nat.ble (gx_cats rest) 8 && Nat.ble (gx_cats av) e'.2.2.1) = true)
    (hX : gx_X l κ sh mt e' d' av M (gx_eq rv M1)) (hd : d' + 1 ≤ d) (h : gx_G l κ sh mt e d (o.2.1, lo, gx_psh rv rest, M1) Q) : gx_G l κ sh mt e d (pc, lo, st, M) Q :=
  gx_call hmt hf hm hsp hc hX hd (fun rv' M' hh => by rw [hh.1, hh.2]; exact h)
