def gx_Z (κ : yK) (D : va_G) (A : Nat → Prop) (s : State) (nL : Nat) (α : List Nat) (tys : List (ClassId × FieldType)) (ws : va_W) (H : Heap) (locs : List Loc) (ls : Array Slot) (lv : List (Nat × Value)) (sv : List Value) (sh : List gx_C) (lo st : List gx_V) (M : gx_M) : Prop :=
  gx_h κ α tys sh M ws ∧ gx_dl κ α lo lv ∧ gx_ds κ α st sv ∧ lv_has ls nL lv ∧ va_P D vwCl ws H ∧ va_K D vwCl tys s ∧ va_D A ws ∧ va_S A s.heap H locs

section GXSTEP
variable {p : Program} {l : Launch} {e : Env} {R : Room} {s : State} {m : MethodId} {args : Array Value} {below : List Frame} {meth : Method} {c : Code} {H : Heap} {locs : List Loc} {Q : State → Prop} {ls : Array Slot}
variable {κ : yK} {D : va_G} {A : Nat → Prop} {α : List Nat} {tys : List (ClassId × FieldType)} {ws : va_W} {lv : List (Nat × Value)} {sv : List Value} {lo st : List gx_V} {sh : List gx_C} {M : gx_M} {cc : ByteArray} {own yn : String} {nL : Nat} {t pc k n : Nat} {P : Option Prop} {S' : gx_S}

set_option maxHeartbeats 4000000 in
set_option maxRecDepth 100000 in
theorem gx_st_iconst {i : Int} {nx r1 r2 r3 : Nat} (C : y_ctx κ true p R s m args meth c cc own yn nL A) (hok : y_okop nL own yn cc (pc, (.iconst i, nx, r1, r2, r3)) = true) (hs : gx_st1 κ sh t pc (.iconst i, nx, r1, r2, r3) lo st M = some (P, S')) (hP0 : ∀ q, P = some q → q) (hk : k ≤ R.cells) (hn : n ≤ R.slots) (Z : gx_Z κ D A s nL α tys ws H locs ls lv sv sh lo st M)
    (kk : ∀ ws' H' locs' ls' lv' sv', gx_Z κ D A s nL α tys ws' H' locs' ls' lv' sv' sh S'.2.1 S'.2.2.1 S'.2.2.2 → W p l e R s m args below meth c H' locs' k n Q (F0 m S'.1 ls' sv')) : W p l e R s m args below meth c H locs k n Q (F0 m pc ls sv) := by
  obtain ⟨hx, hb, hml, hown, hts, hyn, hAO, hA, hRf, hRl, hsc⟩ := C
  obtain ⟨hh, hl, hst, hls, hP, hK, hD, hS⟩ := Z
  unfold y_okop y_okin at hok
  simp only [Bool.and_eq_true, decide_eq_true_eq] at hok
  obtain ⟨hdg, hok⟩ := hok
  unfold gx_st1 at hs
  dsimp only at hs
  obtain ⟨rfl, hv⟩ := hok
  rw [Nat.add_sub_cancel_left] at hdg
  cases hs
  exact lv_iconst hx hb hdg (hv.trans (gx_lit_ok r1)) (kk ws H locs ls _ _ ⟨hh, hl, gx_ds_i rfl hst, hls, hP, hK, hD, hS⟩)

set_option maxHeartbeats 4000000 in
set_option maxRecDepth 100000 in
theorem gx_st_bipush {i : Int} {nx r1 r2 r3 : Nat} (C : y_ctx κ true p R s m args meth c cc own yn nL A) (hok : y_okop nL own yn cc (pc, (.bipush i, nx, r1, r2, r3)) = true) (hs : gx_st1 κ sh t pc (.bipush i, nx, r1, r2, r3) lo st M = some (P, S')) (hP0 : ∀ q, P = some q → q) (hk : k ≤ R.cells) (hn : n ≤ R.slots) (Z : gx_Z κ D A s nL α tys ws H locs ls lv sv sh lo st M)
    (kk : ∀ ws' H' locs' ls' lv' sv', gx_Z κ D A s nL α tys ws' H' locs' ls' lv' sv' sh S'.2.1 S'.2.2.1 S'.2.2.2 → W p l e R s m args below meth c H' locs' k n Q (F0 m S'.1 ls' sv')) : W p l e R s m args below meth c H locs k n Q (F0 m pc ls sv) := by
  obtain ⟨hx, hb, hml, hown, hts, hyn, hAO, hA, hRf, hRl, hsc⟩ := C
  obtain ⟨hh, hl, hst, hls, hP, hK, hD, hS⟩ := Z
  unfold y_okop y_okin at hok
  simp only [Bool.and_eq_true, decide_eq_true_eq] at hok
  obtain ⟨hdg, hok⟩ := hok
  unfold gx_st1 at hs
  dsimp only at hs
  obtain ⟨rfl, hv⟩ := hok
  rw [Nat.add_sub_cancel_left] at hdg
  cases hs
  exact lv_bipush hx hb hdg (hv.trans (gx_lit_ok r1)) (kk ws H locs ls _ _ ⟨hh, hl, gx_ds_i rfl hst, hls, hP, hK, hD, hS⟩)

set_option maxHeartbeats 4000000 in
set_option maxRecDepth 100000 in
theorem gx_st_sipush {i : Int} {nx r1 r2 r3 : Nat} (C : y_ctx κ true p R s m args meth c cc own yn nL A) (hok : y_okop nL own yn cc (pc, (.sipush i, nx, r1, r2, r3)) = true) (hs : gx_st1 κ sh t pc (.sipush i, nx, r1, r2, r3) lo st M = some (P, S')) (hP0 : ∀ q, P = some q → q) (hk : k ≤ R.cells) (hn : n ≤ R.slots) (Z : gx_Z κ D A s nL α tys ws H locs ls lv sv sh lo st M)
    (kk : ∀ ws' H' locs' ls' lv' sv', gx_Z κ D A s nL α tys ws' H' locs' ls' lv' sv' sh S'.2.1 S'.2.2.1 S'.2.2.2 → W p l e R s m args below meth c H' locs' k n Q (F0 m S'.1 ls' sv')) : W p l e R s m args below meth c H locs k n Q (F0 m pc ls sv) := by
  obtain ⟨hx, hb, hml, hown, hts, hyn, hAO, hA, hRf, hRl, hsc⟩ := C
  obtain ⟨hh, hl, hst, hls, hP, hK, hD, hS⟩ := Z
  unfold y_okop y_okin at hok
  simp only [Bool.and_eq_true, decide_eq_true_eq] at hok
  obtain ⟨hdg, hok⟩ := hok
  unfold gx_st1 at hs
  dsimp only at hs
  obtain ⟨rfl, hv⟩ := hok
  rw [Nat.add_sub_cancel_left] at hdg
  cases hs
  exact lv_sipush hx hb hdg (hv.trans (gx_lit_ok r1)) (kk ws H locs ls _ _ ⟨hh, hl, gx_ds_i rfl hst, hls, hP, hK, hD, hS⟩)

set_option maxHeartbeats 4000000 in
set_option maxRecDepth 100000 in
theorem gx_st_ldc {i : Nat} {nx r1 r2 r3 : Nat} (C : y_ctx κ true p R s m args meth c cc own yn nL A) (hok : y_okop nL own yn cc (pc, (.ldc i, nx, r1, r2, r3)) = true) (hs : gx_st1 κ sh t pc (.ldc i, nx, r1, r2, r3) lo st M = some (P, S')) (hP0 : ∀ q, P = some q → q) (hk : k ≤ R.cells) (hn : n ≤ R.slots) (Z : gx_Z κ D A s nL α tys ws H locs ls lv sv sh lo st M)
    (kk : ∀ ws' H' locs' ls' lv' sv', gx_Z κ D A s nL α tys ws' H' locs' ls' lv' sv' sh S'.2.1 S'.2.2.1 S'.2.2.2 → W p l e R s m args below meth c H' locs' k n Q (F0 m S'.1 ls' sv')) : W p l e R s m args below meth c H locs k n Q (F0 m pc ls sv) := by
  obtain ⟨hx, hb, hml, hown, hts, hyn, hAO, hA, hRf, hRl, hsc⟩ := C
  obtain ⟨hh, hl, hst, hls, hP, hK, hD, hS⟩ := Z
  unfold y_okop y_okin at hok
  simp only [Bool.and_eq_true, decide_eq_true_eq] at hok
  obtain ⟨hdg, hok⟩ := hok
  unfold gx_st1 at hs
  dsimp only at hs
  obtain ⟨rfl, hv⟩ := hok
  rw [Nat.add_sub_cancel_left] at hdg
  cases hs
  rw [gx_lit_ok] at hv
  exact lv_ldc hx hb hown (hts _ (yM_ok hv)) hdg (kk ws H locs ls _ _ ⟨hh, hl, gx_ds_i rfl hst, hls, hP, hK, hD, hS⟩)

set_option maxHeartbeats 4000000 in
set_option maxRecDepth 100000 in
theorem gx_st_ldcw {i : Nat} {nx r1 r2 r3 : Nat} (C : y_ctx κ true p R s m args meth c cc own yn nL A) (hok : y_okop nL own yn cc (pc, (.ldc_w i, nx, r1, r2, r3)) = true) (hs : gx_st1 κ sh t pc (.ldc_w i, nx, r1, r2, r3) lo st M = some (P, S')) (hP0 : ∀ q, P = some q → q) (hk : k ≤ R.cells) (hn : n ≤ R.slots) (Z : gx_Z κ D A s nL α tys ws H locs ls lv sv sh lo st M)
    (kk : ∀ ws' H' locs' ls' lv' sv', gx_Z κ D A s nL α tys ws' H' locs' ls' lv' sv' sh S'.2.1 S'.2.2.1 S'.2.2.2 → W p l e R s m args below meth c H' locs' k n Q (F0 m S'.1 ls' sv')) : W p l e R s m args below meth c H locs k n Q (F0 m pc ls sv) := by
  obtain ⟨hx, hb, hml, hown, hts, hyn, hAO, hA, hRf, hRl, hsc⟩ := C
  obtain ⟨hh, hl, hst, hls, hP, hK, hD, hS⟩ := Z
  unfold y_okop y_okin at hok
  simp only [Bool.and_eq_true, decide_eq_true_eq] at hok
  obtain ⟨hdg, hok⟩ := hok
  unfold gx_st1 at hs
  dsimp only at hs
  obtain ⟨rfl, hv⟩ := hok
  rw [Nat.add_sub_cancel_left] at hdg
  cases hs
  rw [gx_lit_ok] at hv
  exact lv_ldcw hx hb hown (hts _ (yM_ok hv)) hdg (kk ws H locs ls _ _ ⟨hh, hl, gx_ds_i rfl hst, hls, hP, hK, hD, hS⟩)

set_option maxHeartbeats 4000000 in
set_option maxRecDepth 100000 in
theorem gx_st_lconst {i : Fin 2} {nx r1 r2 r3 : Nat} (C : y_ctx κ true p R s m args meth c cc own yn nL A) (hok : y_okop nL own yn cc (pc, (.lconst i, nx, r1, r2, r3)) = true) (hs : gx_st1 κ sh t pc (.lconst i, nx, r1, r2, r3) lo st M = some (P, S')) (hP0 : ∀ q, P = some q → q) (hk : k ≤ R.cells) (hn : n ≤ R.slots) (Z : gx_Z κ D A s nL α tys ws H locs ls lv sv sh lo st M)
    (kk : ∀ ws' H' locs' ls' lv' sv', gx_Z κ D A s nL α tys ws' H' locs' ls' lv' sv' sh S'.2.1 S'.2.2.1 S'.2.2.2 → W p l e R s m args below meth c H' locs' k n Q (F0 m S'.1 ls' sv')) : W p l e R s m args below meth c H locs k n Q (F0 m pc ls sv) := by
  obtain ⟨hx, hb, hml, hown, hts, hyn, hAO, hA, hRf, hRl, hsc⟩ := C
  obtain ⟨hh, hl, hst, hls, hP, hK, hD, hS⟩ := Z
  unfold y_okop y_okin at hok
  simp only [Bool.and_eq_true, decide_eq_true_eq] at hok
  obtain ⟨hdg, hok⟩ := hok
  unfold gx_st1 at hs
  dsimp only at hs
  obtain ⟨rfl, hv⟩ := hok
  rw [Nat.add_sub_cancel_left] at hdg
  cases hs
  exact lv_lconst hx hb hdg (hv.trans (gx_litL_ok r1)) (kk ws H locs ls _ _ ⟨hh, hl, gx_ds_l rfl hst, hls, hP, hK, hD, hS⟩)

set_option maxHeartbeats 4000000 in
set_option maxRecDepth 100000 in
theorem gx_st_ldc2 {i : Nat} {nx r1 r2 r3 : Nat} (C : y_ctx κ true p R s m args meth c cc own yn nL A) (hok : y_okop nL own yn cc (pc, (.ldc2_w i, nx, r1, r2, r3)) = true) (hs : gx_st1 κ sh t pc (.ldc2_w i, nx, r1, r2, r3) lo st M = some (P, S')) (hP0 : ∀ q, P = some q → q) (hk : k ≤ R.cells) (hn : n ≤ R.slots) (Z : gx_Z κ D A s nL α tys ws H locs ls lv sv sh lo st M)
    (kk : ∀ ws' H' locs' ls' lv' sv', gx_Z κ D A s nL α tys ws' H' locs' ls' lv' sv' sh S'.2.1 S'.2.2.1 S'.2.2.2 → W p l e R s m args below meth c H' locs' k n Q (F0 m S'.1 ls' sv')) : W p l e R s m args below meth c H locs k n Q (F0 m pc ls sv) := by
  obtain ⟨hx, hb, hml, hown, hts, hyn, hAO, hA, hRf, hRl, hsc⟩ := C
  obtain ⟨hh, hl, hst, hls, hP, hK, hD, hS⟩ := Z
  unfold y_okop y_okin at hok
  simp only [Bool.and_eq_true, decide_eq_true_eq] at hok
  obtain ⟨hdg, hok⟩ := hok
  unfold gx_st1 at hs
  dsimp only at hs
  obtain ⟨rfl, hv⟩ := hok
  rw [Nat.add_sub_cancel_left] at hdg
  cases hs
  rw [gx_litL_ok] at hv
  exact lv_ldc2 hx hb hown (hts _ (yM_ok hv)) hdg (kk ws H locs ls _ _ ⟨hh, hl, gx_ds_l rfl hst, hls, hP, hK, hD, hS⟩)

set_option maxHeartbeats 4000000 in
set_option maxRecDepth 100000 in
theorem gx_st_iloadn {i : Fin 4} {nx r1 r2 r3 : Nat} (C : y_ctx κ true p R s m args meth c cc own yn nL A) (hok : y_okop nL own yn cc (pc, (.iload_n i, nx, r1, r2, r3)) = true) (hs : gx_st1 κ sh t pc (.iload_n i, nx, r1, r2, r3) lo st M = some (P, S')) (hP0 : ∀ q, P = some q → q) (hk : k ≤ R.cells) (hn : n ≤ R.slots) (Z : gx_Z κ D A s nL α tys ws H locs ls lv sv sh lo st M)
    (kk : ∀ ws' H' locs' ls' lv' sv', gx_Z κ D A s nL α tys ws' H' locs' ls' lv' sv' sh S'.2.1 S'.2.2.1 S'.2.2.2 → W p l e R s m args below meth c H' locs' k n Q (F0 m S'.1 ls' sv')) : W p l e R s m args below meth c H locs k n Q (F0 m pc ls sv) := by
  obtain ⟨hx, hb, hml, hown, hts, hyn, hAO, hA, hRf, hRl, hsc⟩ := C
  obtain ⟨hh, hl, hst, hls, hP, hK, hD, hS⟩ := Z
  unfold y_okop y_okin at hok
  simp only [Bool.and_eq_true, decide_eq_true_eq] at hok
  obtain ⟨hdg, hok⟩ := hok
  unfold gx_st1 at hs
  dsimp only at hs
  obtain rfl := hok
  rw [Nat.add_sub_cancel_left] at hdg
  cases hg : gx_lg lo i with
  | inl a =>
    rw [hg] at hs
    cases hs
    obtain ⟨x, hx1, hx2⟩ := gx_dl_get hl hg (fun z => by cases z)
    cases hx2
    exact lv_iload_n hx hb hdg rfl (hls.2.2 _ hx1) (kk ws H locs ls _ _ ⟨hh, hl, gx_ds_i rfl hst, hls, hP, hK, hD, hS⟩)
  | inr b =>
    cases b with
    | inl a =>
      rw [hg] at hs; cases hs
    | inr b =>
      cases b with
      | none => rw [hg] at hs; cases hs
      | some a =>
        rw [hg] at hs; cases hs

set_option maxHeartbeats 4000000 in
set_option maxRecDepth 100000 in
theorem gx_st_iload {i : Nat} {nx r1 r2 r3 : Nat} (C : y_ctx κ true p R s m args meth c cc own yn nL A) (hok : y_okop nL own yn cc (pc, (.iload i, nx, r1, r2, r3)) = true) (hs : gx_st1 κ sh t pc (.iload i, nx, r1, r2, r3) lo st M = some (P, S')) (hP0 : ∀ q, P = some q → q) (hk : k ≤ R.cells) (hn : n ≤ R.slots) (Z : gx_Z κ D A s nL α tys ws H locs ls lv sv sh lo st M)
    (kk : ∀ ws' H' locs' ls' lv' sv', gx_Z κ D A s nL α tys ws' H' locs' ls' lv' sv' sh S'.2.1 S'.2.2.1 S'.2.2.2 → W p l e R s m args below meth c H' locs' k n Q (F0 m S'.1 ls' sv')) : W p l e R s m args below meth c H locs k n Q (F0 m pc ls sv) := by
  obtain ⟨hx, hb, hml, hown, hts, hyn, hAO, hA, hRf, hRl, hsc⟩ := C
  obtain ⟨hh, hl, hst, hls, hP, hK, hD, hS⟩ := Z
  unfold y_okop y_okin at hok
  simp only [Bool.and_eq_true, decide_eq_true_eq] at hok
  obtain ⟨hdg, hok⟩ := hok
  unfold gx_st1 at hs
  dsimp only at hs
  obtain rfl := hok
  rw [Nat.add_sub_cancel_left] at hdg
  cases hg : gx_lg lo i with
  | inl a =>
    rw [hg] at hs
    cases hs
    obtain ⟨x, hx1, hx2⟩ := gx_dl_get hl hg (fun z => by cases z)
    cases hx2
    exact lv_iload hx hb hdg (hls.2.2 _ hx1) (kk ws H locs ls _ _ ⟨hh, hl, gx_ds_i rfl hst, hls, hP, hK, hD, hS⟩)
  | inr b =>
    cases b with
    | inl a =>
      rw [hg] at hs; cases hs
    | inr b =>
      cases b with
      | none => rw [hg] at hs; cases hs
      | some a =>
        rw [hg] at hs; cases hs

set_option maxHeartbeats 4000000 in
set_option maxRecDepth 100000 in
theorem gx_st_lloadn {i : Fin 4} {nx r1 r2 r3 : Nat} (C : y_ctx κ true p R s m args meth c cc own yn nL A) (hok : y_okop nL own yn cc (pc, (.lload_n i, nx, r1, r2, r3)) = true) (hs : gx_st1 κ sh t pc (.lload_n i, nx, r1, r2, r3) lo st M = some (P, S')) (hP0 : ∀ q, P = some q → q) (hk : k ≤ R.cells) (hn : n ≤ R.slots) (Z : gx_Z κ D A s nL α tys ws H locs ls lv sv sh lo st M)
    (kk : ∀ ws' H' locs' ls' lv' sv', gx_Z κ D A s nL α tys ws' H' locs' ls' lv' sv' sh S'.2.1 S'.2.2.1 S'.2.2.2 → W p l e R s m args below meth c H' locs' k n Q (F0 m S'.1 ls' sv')) : W p l e R s m args below meth c H locs k n Q (F0 m pc ls sv) := by
  obtain ⟨hx, hb, hml, hown, hts, hyn, hAO, hA, hRf, hRl, hsc⟩ := C
  obtain ⟨hh, hl, hst, hls, hP, hK, hD, hS⟩ := Z
  unfold y_okop y_okin at hok
  simp only [Bool.and_eq_true, decide_eq_true_eq] at hok
  obtain ⟨hdg, hok⟩ := hok
  unfold gx_st1 at hs
  dsimp only at hs
  obtain rfl := hok
  rw [Nat.add_sub_cancel_left] at hdg
  cases hg : gx_lg lo i with
  | inl a =>
    rw [hg] at hs; cases hs
  | inr b =>
    cases b with
    | inl a =>
      rw [hg] at hs
      cases hs
      obtain ⟨x, hx1, hx2⟩ := gx_dl_get hl hg (fun z => by cases z)
      cases hx2
      exact lv_lload_n hx hb hdg rfl (hls.2.2 _ hx1) (kk ws H locs ls _ _ ⟨hh, hl, gx_ds_l rfl hst, hls, hP, hK, hD, hS⟩)
    | inr b =>
      cases b with
      | none => rw [hg] at hs; cases hs
      | some a =>
        rw [hg] at hs; cases hs

set_option maxHeartbeats 4000000 in
set_option maxRecDepth 100000 in
theorem gx_st_lload {i : Nat} {nx r1 r2 r3 : Nat} (C : y_ctx κ true p R s m args meth c cc own yn nL A) (hok : y_okop nL own yn cc (pc, (.lload i, nx, r1, r2, r3)) = true) (hs : gx_st1 κ sh t pc (.lload i, nx, r1, r2, r3) lo st M = some (P, S')) (hP0 : ∀ q, P = some q → q) (hk : k ≤ R.cells) (hn : n ≤ R.slots) (Z : gx_Z κ D A s nL α tys ws H locs ls lv sv sh lo st M)
    (kk : ∀ ws' H' locs' ls' lv' sv', gx_Z κ D A s nL α tys ws' H' locs' ls' lv' sv' sh S'.2.1 S'.2.2.1 S'.2.2.2 → W p l e R s m args below meth c H' locs' k n Q (F0 m S'.1 ls' sv')) : W p l e R s m args below meth c H locs k n Q (F0 m pc ls sv) := by
  obtain ⟨hx, hb, hml, hown, hts, hyn, hAO, hA, hRf, hRl, hsc⟩ := C
  obtain ⟨hh, hl, hst, hls, hP, hK, hD, hS⟩ := Z
  unfold y_okop y_okin at hok
  simp only [Bool.and_eq_true, decide_eq_true_eq] at hok
  obtain ⟨hdg, hok⟩ := hok
  unfold gx_st1 at hs
  dsimp only at hs
  obtain rfl := hok
  rw [Nat.add_sub_cancel_left] at hdg
  cases hg : gx_lg lo i with
  | inl a =>
    rw [hg] at hs; cases hs
  | inr b =>
    cases b with
    | inl a =>
      rw [hg] at hs
      cases hs
      obtain ⟨x, hx1, hx2⟩ := gx_dl_get hl hg (fun z => by cases z)
      cases hx2
      exact lv_lload hx hb hdg (hls.2.2 _ hx1) (kk ws H locs ls _ _ ⟨hh, hl, gx_ds_l rfl hst, hls, hP, hK, hD, hS⟩)
    | inr b =>
      cases b with
      | none => rw [hg] at hs; cases hs
      | some a =>
        rw [hg] at hs; cases hs

set_option maxHeartbeats 4000000 in
set_option maxRecDepth 100000 in
theorem gx_st_aloadn {i : Fin 4} {nx r1 r2 r3 : Nat} (C : y_ctx κ true p R s m args meth c cc own yn nL A) (hok : y_okop nL own yn cc (pc, (.aload_n i, nx, r1, r2, r3)) = true) (hs : gx_st1 κ sh t pc (.aload_n i, nx, r1, r2, r3) lo st M = some (P, S')) (hP0 : ∀ q, P = some q → q) (hk : k ≤ R.cells) (hn : n ≤ R.slots) (Z : gx_Z κ D A s nL α tys ws H locs ls lv sv sh lo st M)
    (kk : ∀ ws' H' locs' ls' lv' sv', gx_Z κ D A s nL α tys ws' H' locs' ls' lv' sv' sh S'.2.1 S'.2.2.1 S'.2.2.2 → W p l e R s m args below meth c H' locs' k n Q (F0 m S'.1 ls' sv')) : W p l e R s m args below meth c H locs k n Q (F0 m pc ls sv) := by
  obtain ⟨hx, hb, hml, hown, hts, hyn, hAO, hA, hRf, hRl, hsc⟩ := C
  obtain ⟨hh, hl, hst, hls, hP, hK, hD, hS⟩ := Z
  unfold y_okop y_okin at hok
  simp only [Bool.and_eq_true, decide_eq_true_eq] at hok
  obtain ⟨hdg, hok⟩ := hok
  unfold gx_st1 at hs
  dsimp only at hs
  obtain rfl := hok
  rw [Nat.add_sub_cancel_left] at hdg
  cases hg : gx_lg lo i with
  | inl a =>
    rw [hg] at hs; cases hs
  | inr b =>
    cases b with
    | inl a =>
      rw [hg] at hs; cases hs
    | inr b =>
      cases b with
      | none => rw [hg] at hs; cases hs
      | some a =>
        rw [hg] at hs
        cases hs
        obtain ⟨x, hx1, hx2⟩ := gx_dl_get hl hg (fun z => by cases z)
        obtain ⟨b, hb1, rfl⟩ := Option.map_eq_some_iff.mp hx2
        exact lv_aload_n hx hb hdg rfl (hls.2.2 _ hx1) (kk ws H locs ls _ _ ⟨hh, hl, gx_ds_mk hx2 hst, hls, hP, hK, hD, hS⟩)

set_option maxHeartbeats 4000000 in
set_option maxRecDepth 100000 in
theorem gx_st_aload {i : Nat} {nx r1 r2 r3 : Nat} (C : y_ctx κ true p R s m args meth c cc own yn nL A) (hok : y_okop nL own yn cc (pc, (.aload i, nx, r1, r2, r3)) = true) (hs : gx_st1 κ sh t pc (.aload i, nx, r1, r2, r3) lo st M = some (P, S')) (hP0 : ∀ q, P = some q → q) (hk : k ≤ R.cells) (hn : n ≤ R.slots) (Z : gx_Z κ D A s nL α tys ws H locs ls lv sv sh lo st M)
    (kk : ∀ ws' H' locs' ls' lv' sv', gx_Z κ D A s nL α tys ws' H' locs' ls' lv' sv' sh S'.2.1 S'.2.2.1 S'.2.2.2 → W p l e R s m args below meth c H' locs' k n Q (F0 m S'.1 ls' sv')) : W p l e R s m args below meth c H locs k n Q (F0 m pc ls sv) := by
  obtain ⟨hx, hb, hml, hown, hts, hyn, hAO, hA, hRf, hRl, hsc⟩ := C
  obtain ⟨hh, hl, hst, hls, hP, hK, hD, hS⟩ := Z
  unfold y_okop y_okin at hok
  simp only [Bool.and_eq_true, decide_eq_true_eq] at hok
  obtain ⟨hdg, hok⟩ := hok
  unfold gx_st1 at hs
  dsimp only at hs
  obtain rfl := hok
  rw [Nat.add_sub_cancel_left] at hdg
  cases hg : gx_lg lo i with
  | inl a =>
    rw [hg] at hs; cases hs
  | inr b =>
    cases b with
    | inl a =>
      rw [hg] at hs; cases hs
    | inr b =>
      cases b with
      | none => rw [hg] at hs; cases hs
      | some a =>
        rw [hg] at hs
        cases hs
        obtain ⟨x, hx1, hx2⟩ := gx_dl_get hl hg (fun z => by cases z)
        obtain ⟨b, hb1, rfl⟩ := Option.map_eq_some_iff.mp hx2
        exact lv_aload hx hb hdg (hls.2.2 _ hx1) (kk ws H locs ls _ _ ⟨hh, hl, gx_ds_mk hx2 hst, hls, hP, hK, hD, hS⟩)

set_option maxHeartbeats 4000000 in
set_option maxRecDepth 100000 in
theorem gx_st_istoren {i : Fin 4} {nx r1 r2 r3 : Nat} (C : y_ctx κ true p R s m args meth c cc own yn nL A) (hok : y_okop nL own yn cc (pc, (.istore_n i, nx, r1, r2, r3)) = true) (hs : gx_st1 κ sh t pc (.istore_n i, nx, r1, r2, r3) lo st M = some (P, S')) (hP0 : ∀ q, P = some q → q) (hk : k ≤ R.cells) (hn : n ≤ R.slots) (Z : gx_Z κ D A s nL α tys ws H locs ls lv sv sh lo st M)
    (kk : ∀ ws' H' locs' ls' lv' sv', gx_Z κ D A s nL α tys ws' H' locs' ls' lv' sv' sh S'.2.1 S'.2.2.1 S'.2.2.2 → W p l e R s m args below meth c H' locs' k n Q (F0 m S'.1 ls' sv')) : W p l e R s m args below meth c H locs k n Q (F0 m pc ls sv) := by
  obtain ⟨hx, hb, hml, hown, hts, hyn, hAO, hA, hRf, hRl, hsc⟩ := C
  obtain ⟨hh, hl, hst, hls, hP, hK, hD, hS⟩ := Z
  unfold y_okop y_okin at hok
  simp only [Bool.and_eq_true, decide_eq_true_eq] at hok
  obtain ⟨hdg, hok⟩ := hok
  unfold gx_st1 at hs
  dsimp only at hs
  obtain ⟨rfl, hi⟩ := hok
  rw [Nat.add_sub_cancel_left] at hdg
  rcases st with _ | ⟨a | a | _ | a, r⟩
  · cases hs
  · cases hs
    obtain ⟨ys, rfl, h2⟩ := gx_ds_ci hst
    exact lv_istore_n hx hb hdg rfl hls hi rfl (fun ls' hls' => kk ws H locs ls' _ _ ⟨hh, gx_dl_set _ hl rfl, h2, hls', hP, hK, hD, hS⟩)
  · cases hs
  · cases hs
  · cases hs

set_option maxHeartbeats 4000000 in
set_option maxRecDepth 100000 in
theorem gx_st_istore {i : Nat} {nx r1 r2 r3 : Nat} (C : y_ctx κ true p R s m args meth c cc own yn nL A) (hok : y_okop nL own yn cc (pc, (.istore i, nx, r1, r2, r3)) = true) (hs : gx_st1 κ sh t pc (.istore i, nx, r1, r2, r3) lo st M = some (P, S')) (hP0 : ∀ q, P = some q → q) (hk : k ≤ R.cells) (hn : n ≤ R.slots) (Z : gx_Z κ D A s nL α tys ws H locs ls lv sv sh lo st M)
    (kk : ∀ ws' H' locs' ls' lv' sv', gx_Z κ D A s nL α tys ws' H' locs' ls' lv' sv' sh S'.2.1 S'.2.2.1 S'.2.2.2 → W p l e R s m args below meth c H' locs' k n Q (F0 m S'.1 ls' sv')) : W p l e R s m args below meth c H locs k n Q (F0 m pc ls sv) := by
  obtain ⟨hx, hb, hml, hown, hts, hyn, hAO, hA, hRf, hRl, hsc⟩ := C
  obtain ⟨hh, hl, hst, hls, hP, hK, hD, hS⟩ := Z
  unfold y_okop y_okin at hok
  simp only [Bool.and_eq_true, decide_eq_true_eq] at hok
  obtain ⟨hdg, hok⟩ := hok
  unfold gx_st1 at hs
  dsimp only at hs
  obtain ⟨rfl, hi⟩ := hok
  rw [Nat.add_sub_cancel_left] at hdg
  rcases st with _ | ⟨a | a | _ | a, r⟩
  · cases hs
  · cases hs
    obtain ⟨ys, rfl, h2⟩ := gx_ds_ci hst
    exact lv_istore hx hb hdg hls hi rfl (fun ls' hls' => kk ws H locs ls' _ _ ⟨hh, gx_dl_set _ hl rfl, h2, hls', hP, hK, hD, hS⟩)
  · cases hs
  · cases hs
  · cases hs

set_option maxHeartbeats 4000000 in
set_option maxRecDepth 100000 in
theorem gx_st_lstoren {i : Fin 4} {nx r1 r2 r3 : Nat} (C : y_ctx κ true p R s m args meth c cc own yn nL A) (hok : y_okop nL own yn cc (pc, (.lstore_n i, nx, r1, r2, r3)) = true) (hs : gx_st1 κ sh t pc (.lstore_n i, nx, r1, r2, r3) lo st M = some (P, S')) (hP0 : ∀ q, P = some q → q) (hk : k ≤ R.cells) (hn : n ≤ R.slots) (Z : gx_Z κ D A s nL α tys ws H locs ls lv sv sh lo st M)
    (kk : ∀ ws' H' locs' ls' lv' sv', gx_Z κ D A s nL α tys ws' H' locs' ls' lv' sv' sh S'.2.1 S'.2.2.1 S'.2.2.2 → W p l e R s m args below meth c H' locs' k n Q (F0 m S'.1 ls' sv')) : W p l e R s m args below meth c H locs k n Q (F0 m pc ls sv) := by
  obtain ⟨hx, hb, hml, hown, hts, hyn, hAO, hA, hRf, hRl, hsc⟩ := C
  obtain ⟨hh, hl, hst, hls, hP, hK, hD, hS⟩ := Z
  unfold y_okop y_okin at hok
  simp only [Bool.and_eq_true, decide_eq_true_eq] at hok
  obtain ⟨hdg, hok⟩ := hok
  unfold gx_st1 at hs
  dsimp only at hs
  obtain ⟨rfl, hi⟩ := hok
  rw [Nat.add_sub_cancel_left] at hdg
  rcases st with _ | ⟨a | a | _ | a, r⟩
  · cases hs
  · cases hs
  · cases hs
    obtain ⟨ys, rfl, h2⟩ := gx_ds_cl hst
    exact lv_lstore_n hx hb hdg rfl hls hi rfl (fun ls' hls' => kk ws H locs ls' _ _ ⟨hh, gx_dl_set2 _ hl rfl, h2, hls', hP, hK, hD, hS⟩)
  · cases hs
  · cases hs

set_option maxHeartbeats 4000000 in
set_option maxRecDepth 100000 in
theorem gx_st_lstore {i : Nat} {nx r1 r2 r3 : Nat} (C : y_ctx κ true p R s m args meth c cc own yn nL A) (hok : y_okop nL own yn cc (pc, (.lstore i, nx, r1, r2, r3)) = true) (hs : gx_st1 κ sh t pc (.lstore i, nx, r1, r2, r3) lo st M = some (P, S')) (hP0 : ∀ q, P = some q → q) (hk : k ≤ R.cells) (hn : n ≤ R.slots) (Z : gx_Z κ D A s nL α tys ws H locs ls lv sv sh lo st M)
    (kk : ∀ ws' H' locs' ls' lv' sv', gx_Z κ D A s nL α tys ws' H' locs' ls' lv' sv' sh S'.2.1 S'.2.2.1 S'.2.2.2 → W p l e R s m args below meth c H' locs' k n Q (F0 m S'.1 ls' sv')) : W p l e R s m args below meth c H locs k n Q (F0 m pc ls sv) := by
  obtain ⟨hx, hb, hml, hown, hts, hyn, hAO, hA, hRf, hRl, hsc⟩ := C
  obtain ⟨hh, hl, hst, hls, hP, hK, hD, hS⟩ := Z
  unfold y_okop y_okin at hok
  simp only [Bool.and_eq_true, decide_eq_true_eq] at hok
  obtain ⟨hdg, hok⟩ := hok
  unfold gx_st1 at hs
  dsimp only at hs
  obtain ⟨rfl, hi⟩ := hok
  rw [Nat.add_sub_cancel_left] at hdg
  rcases st with _ | ⟨a | a | _ | a, r⟩
  · cases hs
  · cases hs
  · cases hs
    obtain ⟨ys, rfl, h2⟩ := gx_ds_cl hst
    exact lv_lstore hx hb hdg hls hi rfl (fun ls' hls' => kk ws H locs ls' _ _ ⟨hh, gx_dl_set2 _ hl rfl, h2, hls', hP, hK, hD, hS⟩)
  · cases hs
  · cases hs

set_option maxHeartbeats 4000000 in
set_option maxRecDepth 100000 in
theorem gx_st_astoren {i : Fin 4} {nx r1 r2 r3 : Nat} (C : y_ctx κ true p R s m args meth c cc own yn nL A) (hok : y_okop nL own yn cc (pc, (.astore_n i, nx, r1, r2, r3)) = true) (hs : gx_st1 κ sh t pc (.astore_n i, nx, r1, r2, r3) lo st M = some (P, S')) (hP0 : ∀ q, P = some q → q) (hk : k ≤ R.cells) (hn : n ≤ R.slots) (Z : gx_Z κ D A s nL α tys ws H locs ls lv sv sh lo st M)
    (kk : ∀ ws' H' locs' ls' lv' sv', gx_Z κ D A s nL α tys ws' H' locs' ls' lv' sv' sh S'.2.1 S'.2.2.1 S'.2.2.2 → W p l e R s m args below meth c H' locs' k n Q (F0 m S'.1 ls' sv')) : W p l e R s m args below meth c H locs k n Q (F0 m pc ls sv) := by
  obtain ⟨hx, hb, hml, hown, hts, hyn, hAO, hA, hRf, hRl, hsc⟩ := C
  obtain ⟨hh, hl, hst, hls, hP, hK, hD, hS⟩ := Z
  unfold y_okop y_okin at hok
  simp only [Bool.and_eq_true, decide_eq_true_eq] at hok
  obtain ⟨hdg, hok⟩ := hok
  unfold gx_st1 at hs
  dsimp only at hs
  obtain ⟨rfl, hi⟩ := hok
  rw [Nat.add_sub_cancel_left] at hdg
  rcases st with _ | ⟨a | a | _ | a, r⟩
  · cases hs
  · cases hs
  · cases hs
  · cases hs
  · cases hs
    obtain ⟨b, ys, rfl, h1, h2⟩ := gx_ds_cr hst
    exact lv_astore_n hx hb hdg rfl hls hi rfl (fun ls' hls' => kk ws H locs ls' _ _ ⟨hh, gx_dl_set _ hl (Option.map_eq_some_iff.mpr ⟨b, h1, rfl⟩), h2, hls', hP, hK, hD, hS⟩)

set_option maxHeartbeats 4000000 in
set_option maxRecDepth 100000 in
theorem gx_st_astore {i : Nat} {nx r1 r2 r3 : Nat} (C : y_ctx κ true p R s m args meth c cc own yn nL A) (hok : y_okop nL own yn cc (pc, (.astore i, nx, r1, r2, r3)) = true) (hs : gx_st1 κ sh t pc (.astore i, nx, r1, r2, r3) lo st M = some (P, S')) (hP0 : ∀ q, P = some q → q) (hk : k ≤ R.cells) (hn : n ≤ R.slots) (Z : gx_Z κ D A s nL α tys ws H locs ls lv sv sh lo st M)
    (kk : ∀ ws' H' locs' ls' lv' sv', gx_Z κ D A s nL α tys ws' H' locs' ls' lv' sv' sh S'.2.1 S'.2.2.1 S'.2.2.2 → W p l e R s m args below meth c H' locs' k n Q (F0 m S'.1 ls' sv')) : W p l e R s m args below meth c H locs k n Q (F0 m pc ls sv) := by
  obtain ⟨hx, hb, hml, hown, hts, hyn, hAO, hA, hRf, hRl, hsc⟩ := C
  obtain ⟨hh, hl, hst, hls, hP, hK, hD, hS⟩ := Z
  unfold y_okop y_okin at hok
  simp only [Bool.and_eq_true, decide_eq_true_eq] at hok
  obtain ⟨hdg, hok⟩ := hok
  unfold gx_st1 at hs
  dsimp only at hs
  obtain ⟨rfl, hi⟩ := hok
  rw [Nat.add_sub_cancel_left] at hdg
  rcases st with _ | ⟨a | a | _ | a, r⟩
  · cases hs
  · cases hs
  · cases hs
  · cases hs
  · cases hs
    obtain ⟨b, ys, rfl, h1, h2⟩ := gx_ds_cr hst
    exact lv_astore hx hb hdg hls hi rfl (fun ls' hls' => kk ws H locs ls' _ _ ⟨hh, gx_dl_set _ hl (Option.map_eq_some_iff.mpr ⟨b, h1, rfl⟩), h2, hls', hP, hK, hD, hS⟩)

set_option maxHeartbeats 4000000 in
set_option maxRecDepth 100000 in
theorem gx_st_iinc {i : Nat} {d : Int} {nx r1 r2 r3 : Nat} (C : y_ctx κ true p R s m args meth c cc own yn nL A) (hok : y_okop nL own yn cc (pc, (.iinc i d, nx, r1, r2, r3)) = true) (hs : gx_st1 κ sh t pc (.iinc i d, nx, r1, r2, r3) lo st M = some (P, S')) (hP0 : ∀ q, P = some q → q) (hk : k ≤ R.cells) (hn : n ≤ R.slots) (Z : gx_Z κ D A s nL α tys ws H locs ls lv sv sh lo st M)
    (kk : ∀ ws' H' locs' ls' lv' sv', gx_Z κ D A s nL α tys ws' H' locs' ls' lv' sv' sh S'.2.1 S'.2.2.1 S'.2.2.2 → W p l e R s m args below meth c H' locs' k n Q (F0 m S'.1 ls' sv')) : W p l e R s m args below meth c H locs k n Q (F0 m pc ls sv) := by
  obtain ⟨hx, hb, hml, hown, hts, hyn, hAO, hA, hRf, hRl, hsc⟩ := C
  obtain ⟨hh, hl, hst, hls, hP, hK, hD, hS⟩ := Z
  unfold y_okop y_okin at hok
  simp only [Bool.and_eq_true, decide_eq_true_eq] at hok
  obtain ⟨hdg, hok⟩ := hok
  unfold gx_st1 at hs
  dsimp only at hs
  obtain ⟨rfl, hi, hv⟩ := hok
  rw [Nat.add_sub_cancel_left] at hdg
  cases hg : gx_lg lo i with
  | inl a =>
    rw [hg] at hs
    cases hs
    obtain ⟨x, hx1, hx2⟩ := gx_dl_get hl hg (fun z => by cases z)
    cases hx2
    obtain ⟨j, hj⟩ := List.getElem?_of_mem hx1
    refine lv_iinc (v := gx_i (a + gx_lit r1)) hx hb hdg hls hj ?_ hi rfl (fun ls' hls' => kk ws H locs ls' _ _ ⟨hh, gx_dl_set _ hl rfl, hst, hls', hP, hK, hD, hS⟩)
    rw [hv, gx_lit_ok]
    exact gx_add a (gx_lit r1)
  | inr b => rw [hg] at hs; cases hs

set_option maxHeartbeats 4000000 in
set_option maxRecDepth 100000 in
theorem gx_st_iadd {nx r1 r2 r3 : Nat} (C : y_ctx κ true p R s m args meth c cc own yn nL A) (hok : y_okop nL own yn cc (pc, (.iadd, nx, r1, r2, r3)) = true) (hs : gx_st1 κ sh t pc (.iadd, nx, r1, r2, r3) lo st M = some (P, S')) (hP0 : ∀ q, P = some q → q) (hk : k ≤ R.cells) (hn : n ≤ R.slots) (Z : gx_Z κ D A s nL α tys ws H locs ls lv sv sh lo st M)
    (kk : ∀ ws' H' locs' ls' lv' sv', gx_Z κ D A s nL α tys ws' H' locs' ls' lv' sv' sh S'.2.1 S'.2.2.1 S'.2.2.2 → W p l e R s m args below meth c H' locs' k n Q (F0 m S'.1 ls' sv')) : W p l e R s m args below meth c H locs k n Q (F0 m pc ls sv) := by
  obtain ⟨hx, hb, hml, hown, hts, hyn, hAO, hA, hRf, hRl, hsc⟩ := C
  obtain ⟨hh, hl, hst, hls, hP, hK, hD, hS⟩ := Z
  unfold y_okop y_okin at hok
  simp only [Bool.and_eq_true, decide_eq_true_eq] at hok
  obtain ⟨hdg, hok⟩ := hok
  unfold gx_st1 at hs
  dsimp only at hs
  obtain rfl := hok
  rw [Nat.add_sub_cancel_left] at hdg
  rcases st with _ | ⟨b | b, _ | ⟨a | a, r⟩⟩ <;> try (cases hs; done)
  cases hs
  obtain ⟨ys, rfl, h1⟩ := gx_ds_ci hst
  obtain ⟨zs, rfl, h2⟩ := gx_ds_ci h1
  exact lv_iadd hx hb hdg (kk ws H locs ls _ _ ⟨hh, hl, gx_ds_i ((gx_add _ _).symm) h2, hls, hP, hK, hD, hS⟩)

set_option maxHeartbeats 4000000 in
set_option maxRecDepth 100000 in
theorem gx_st_isub {nx r1 r2 r3 : Nat} (C : y_ctx κ true p R s m args meth c cc own yn nL A) (hok : y_okop nL own yn cc (pc, (.isub, nx, r1, r2, r3)) = true) (hs : gx_st1 κ sh t pc (.isub, nx, r1, r2, r3) lo st M = some (P, S')) (hP0 : ∀ q, P = some q → q) (hk : k ≤ R.cells) (hn : n ≤ R.slots) (Z : gx_Z κ D A s nL α tys ws H locs ls lv sv sh lo st M)
    (kk : ∀ ws' H' locs' ls' lv' sv', gx_Z κ D A s nL α tys ws' H' locs' ls' lv' sv' sh S'.2.1 S'.2.2.1 S'.2.2.2 → W p l e R s m args below meth c H' locs' k n Q (F0 m S'.1 ls' sv')) : W p l e R s m args below meth c H locs k n Q (F0 m pc ls sv) := by
  obtain ⟨hx, hb, hml, hown, hts, hyn, hAO, hA, hRf, hRl, hsc⟩ := C
  obtain ⟨hh, hl, hst, hls, hP, hK, hD, hS⟩ := Z
  unfold y_okop y_okin at hok
  simp only [Bool.and_eq_true, decide_eq_true_eq] at hok
  obtain ⟨hdg, hok⟩ := hok
  unfold gx_st1 at hs
  dsimp only at hs
  obtain rfl := hok
  rw [Nat.add_sub_cancel_left] at hdg
  rcases st with _ | ⟨b | b, _ | ⟨a | a, r⟩⟩ <;> try (cases hs; done)
  cases hs
  obtain ⟨ys, rfl, h1⟩ := gx_ds_ci hst
  obtain ⟨zs, rfl, h2⟩ := gx_ds_ci h1
  exact lv_isub hx hb hdg (kk ws H locs ls _ _ ⟨hh, hl, gx_ds_i ((gx_sub _ _).symm) h2, hls, hP, hK, hD, hS⟩)

set_option maxHeartbeats 4000000 in
set_option maxRecDepth 100000 in
theorem gx_st_imul {nx r1 r2 r3 : Nat} (C : y_ctx κ true p R s m args meth c cc own yn nL A) (hok : y_okop nL own yn cc (pc, (.imul, nx, r1, r2, r3)) = true) (hs : gx_st1 κ sh t pc (.imul, nx, r1, r2, r3) lo st M = some (P, S')) (hP0 : ∀ q, P = some q → q) (hk : k ≤ R.cells) (hn : n ≤ R.slots) (Z : gx_Z κ D A s nL α tys ws H locs ls lv sv sh lo st M)
    (kk : ∀ ws' H' locs' ls' lv' sv', gx_Z κ D A s nL α tys ws' H' locs' ls' lv' sv' sh S'.2.1 S'.2.2.1 S'.2.2.2 → W p l e R s m args below meth c H' locs' k n Q (F0 m S'.1 ls' sv')) : W p l e R s m args below meth c H locs k n Q (F0 m pc ls sv) := by
  obtain ⟨hx, hb, hml, hown, hts, hyn, hAO, hA, hRf, hRl, hsc⟩ := C
  obtain ⟨hh, hl, hst, hls, hP, hK, hD, hS⟩ := Z
  unfold y_okop y_okin at hok
  simp only [Bool.and_eq_true, decide_eq_true_eq] at hok
  obtain ⟨hdg, hok⟩ := hok
  unfold gx_st1 at hs
  dsimp only at hs
  obtain rfl := hok
  rw [Nat.add_sub_cancel_left] at hdg
  rcases st with _ | ⟨b | b, _ | ⟨a | a, r⟩⟩ <;> try (cases hs; done)
  cases hs
  obtain ⟨ys, rfl, h1⟩ := gx_ds_ci hst
  obtain ⟨zs, rfl, h2⟩ := gx_ds_ci h1
  exact lv_imul hx hb hdg (kk ws H locs ls _ _ ⟨hh, hl, gx_ds_i ((gx_mul _ _).symm) h2, hls, hP, hK, hD, hS⟩)

set_option maxHeartbeats 4000000 in
set_option maxRecDepth 100000 in
theorem gx_st_iand {nx r1 r2 r3 : Nat} (C : y_ctx κ true p R s m args meth c cc own yn nL A) (hok : y_okop nL own yn cc (pc, (.iand, nx, r1, r2, r3)) = true) (hs : gx_st1 κ sh t pc (.iand, nx, r1, r2, r3) lo st M = some (P, S')) (hP0 : ∀ q, P = some q → q) (hk : k ≤ R.cells) (hn : n ≤ R.slots) (Z : gx_Z κ D A s nL α tys ws H locs ls lv sv sh lo st M)
    (kk : ∀ ws' H' locs' ls' lv' sv', gx_Z κ D A s nL α tys ws' H' locs' ls' lv' sv' sh S'.2.1 S'.2.2.1 S'.2.2.2 → W p l e R s m args below meth c H' locs' k n Q (F0 m S'.1 ls' sv')) : W p l e R s m args below meth c H locs k n Q (F0 m pc ls sv) := by
  obtain ⟨hx, hb, hml, hown, hts, hyn, hAO, hA, hRf, hRl, hsc⟩ := C
  obtain ⟨hh, hl, hst, hls, hP, hK, hD, hS⟩ := Z
  unfold y_okop y_okin at hok
  simp only [Bool.and_eq_true, decide_eq_true_eq] at hok
  obtain ⟨hdg, hok⟩ := hok
  unfold gx_st1 at hs
  dsimp only at hs
  obtain rfl := hok
  rw [Nat.add_sub_cancel_left] at hdg
  rcases st with _ | ⟨b | b, _ | ⟨a | a, r⟩⟩ <;> try (cases hs; done)
  cases hs
  obtain ⟨ys, rfl, h1⟩ := gx_ds_ci hst
  obtain ⟨zs, rfl, h2⟩ := gx_ds_ci h1
  exact lv_iand hx hb hdg (kk ws H locs ls _ _ ⟨hh, hl, gx_ds_i (gx_i_of _) h2, hls, hP, hK, hD, hS⟩)

set_option maxHeartbeats 4000000 in
set_option maxRecDepth 100000 in
theorem gx_st_ior {nx r1 r2 r3 : Nat} (C : y_ctx κ true p R s m args meth c cc own yn nL A) (hok : y_okop nL own yn cc (pc, (.ior, nx, r1, r2, r3)) = true) (hs : gx_st1 κ sh t pc (.ior, nx, r1, r2, r3) lo st M = some (P, S')) (hP0 : ∀ q, P = some q → q) (hk : k ≤ R.cells) (hn : n ≤ R.slots) (Z : gx_Z κ D A s nL α tys ws H locs ls lv sv sh lo st M)
    (kk : ∀ ws' H' locs' ls' lv' sv', gx_Z κ D A s nL α tys ws' H' locs' ls' lv' sv' sh S'.2.1 S'.2.2.1 S'.2.2.2 → W p l e R s m args below meth c H' locs' k n Q (F0 m S'.1 ls' sv')) : W p l e R s m args below meth c H locs k n Q (F0 m pc ls sv) := by
  obtain ⟨hx, hb, hml, hown, hts, hyn, hAO, hA, hRf, hRl, hsc⟩ := C
  obtain ⟨hh, hl, hst, hls, hP, hK, hD, hS⟩ := Z
  unfold y_okop y_okin at hok
  simp only [Bool.and_eq_true, decide_eq_true_eq] at hok
  obtain ⟨hdg, hok⟩ := hok
  unfold gx_st1 at hs
  dsimp only at hs
  obtain rfl := hok
  rw [Nat.add_sub_cancel_left] at hdg
  rcases st with _ | ⟨b | b, _ | ⟨a | a, r⟩⟩ <;> try (cases hs; done)
  cases hs
  obtain ⟨ys, rfl, h1⟩ := gx_ds_ci hst
  obtain ⟨zs, rfl, h2⟩ := gx_ds_ci h1
  exact lv_ior hx hb hdg (kk ws H locs ls _ _ ⟨hh, hl, gx_ds_i (gx_i_of _) h2, hls, hP, hK, hD, hS⟩)

set_option maxHeartbeats 4000000 in
set_option maxRecDepth 100000 in
theorem gx_st_ixor {nx r1 r2 r3 : Nat} (C : y_ctx κ true p R s m args meth c cc own yn nL A) (hok : y_okop nL own yn cc (pc, (.ixor, nx, r1, r2, r3)) = true) (hs : gx_st1 κ sh t pc (.ixor, nx, r1, r2, r3) lo st M = some (P, S')) (hP0 : ∀ q, P = some q → q) (hk : k ≤ R.cells) (hn : n ≤ R.slots) (Z : gx_Z κ D A s nL α tys ws H locs ls lv sv sh lo st M)
    (kk : ∀ ws' H' locs' ls' lv' sv', gx_Z κ D A s nL α tys ws' H' locs' ls' lv' sv' sh S'.2.1 S'.2.2.1 S'.2.2.2 → W p l e R s m args below meth c H' locs' k n Q (F0 m S'.1 ls' sv')) : W p l e R s m args below meth c H locs k n Q (F0 m pc ls sv) := by
  obtain ⟨hx, hb, hml, hown, hts, hyn, hAO, hA, hRf, hRl, hsc⟩ := C
  obtain ⟨hh, hl, hst, hls, hP, hK, hD, hS⟩ := Z
  unfold y_okop y_okin at hok
  simp only [Bool.and_eq_true, decide_eq_true_eq] at hok
  obtain ⟨hdg, hok⟩ := hok
  unfold gx_st1 at hs
  dsimp only at hs
  obtain rfl := hok
  rw [Nat.add_sub_cancel_left] at hdg
  rcases st with _ | ⟨b | b, _ | ⟨a | a, r⟩⟩ <;> try (cases hs; done)
  cases hs
  obtain ⟨ys, rfl, h1⟩ := gx_ds_ci hst
  obtain ⟨zs, rfl, h2⟩ := gx_ds_ci h1
  exact lv_ixor hx hb hdg (kk ws H locs ls _ _ ⟨hh, hl, gx_ds_i (gx_i_of _) h2, hls, hP, hK, hD, hS⟩)

set_option maxHeartbeats 4000000 in
set_option maxRecDepth 100000 in
theorem gx_st_ishl {nx r1 r2 r3 : Nat} (C : y_ctx κ true p R s m args meth c cc own yn nL A) (hok : y_okop nL own yn cc (pc, (.ishl, nx, r1, r2, r3)) = true) (hs : gx_st1 κ sh t pc (.ishl, nx, r1, r2, r3) lo st M = some (P, S')) (hP0 : ∀ q, P = some q → q) (hk : k ≤ R.cells) (hn : n ≤ R.slots) (Z : gx_Z κ D A s nL α tys ws H locs ls lv sv sh lo st M)
    (kk : ∀ ws' H' locs' ls' lv' sv', gx_Z κ D A s nL α tys ws' H' locs' ls' lv' sv' sh S'.2.1 S'.2.2.1 S'.2.2.2 → W p l e R s m args below meth c H' locs' k n Q (F0 m S'.1 ls' sv')) : W p l e R s m args below meth c H locs k n Q (F0 m pc ls sv) := by
  obtain ⟨hx, hb, hml, hown, hts, hyn, hAO, hA, hRf, hRl, hsc⟩ := C
  obtain ⟨hh, hl, hst, hls, hP, hK, hD, hS⟩ := Z
  unfold y_okop y_okin at hok
  simp only [Bool.and_eq_true, decide_eq_true_eq] at hok
  obtain ⟨hdg, hok⟩ := hok
  unfold gx_st1 at hs
  dsimp only at hs
  obtain rfl := hok
  rw [Nat.add_sub_cancel_left] at hdg
  rcases st with _ | ⟨b | b, _ | ⟨a | a, r⟩⟩ <;> try (cases hs; done)
  cases hs
  obtain ⟨ys, rfl, h1⟩ := gx_ds_ci hst
  obtain ⟨zs, rfl, h2⟩ := gx_ds_ci h1
  exact lv_ishl hx hb hdg (kk ws H locs ls _ _ ⟨hh, hl, gx_ds_i (gx_i_of _) h2, hls, hP, hK, hD, hS⟩)

set_option maxHeartbeats 4000000 in
set_option maxRecDepth 100000 in
theorem gx_st_ishr {nx r1 r2 r3 : Nat} (C : y_ctx κ true p R s m args meth c cc own yn nL A) (hok : y_okop nL own yn cc (pc, (.ishr, nx, r1, r2, r3)) = true) (hs : gx_st1 κ sh t pc (.ishr, nx, r1, r2, r3) lo st M = some (P, S')) (hP0 : ∀ q, P = some q → q) (hk : k ≤ R.cells) (hn : n ≤ R.slots) (Z : gx_Z κ D A s nL α tys ws H locs ls lv sv sh lo st M)
    (kk : ∀ ws' H' locs' ls' lv' sv', gx_Z κ D A s nL α tys ws' H' locs' ls' lv' sv' sh S'.2.1 S'.2.2.1 S'.2.2.2 → W p l e R s m args below meth c H' locs' k n Q (F0 m S'.1 ls' sv')) : W p l e R s m args below meth c H locs k n Q (F0 m pc ls sv) := by
  obtain ⟨hx, hb, hml, hown, hts, hyn, hAO, hA, hRf, hRl, hsc⟩ := C
  obtain ⟨hh, hl, hst, hls, hP, hK, hD, hS⟩ := Z
  unfold y_okop y_okin at hok
  simp only [Bool.and_eq_true, decide_eq_true_eq] at hok
  obtain ⟨hdg, hok⟩ := hok
  unfold gx_st1 at hs
  dsimp only at hs
  obtain rfl := hok
  rw [Nat.add_sub_cancel_left] at hdg
  rcases st with _ | ⟨b | b, _ | ⟨a | a, r⟩⟩ <;> try (cases hs; done)
  cases hs
  obtain ⟨ys, rfl, h1⟩ := gx_ds_ci hst
  obtain ⟨zs, rfl, h2⟩ := gx_ds_ci h1
  exact lv_ishr hx hb hdg (kk ws H locs ls _ _ ⟨hh, hl, gx_ds_i (gx_i_of _) h2, hls, hP, hK, hD, hS⟩)

set_option maxHeartbeats 4000000 in
set_option maxRecDepth 100000 in
theorem gx_st_iushr {nx r1 r2 r3 : Nat} (C : y_ctx κ true p R s m args meth c cc own yn nL A) (hok : y_okop nL own yn cc (pc, (.iushr, nx, r1, r2, r3)) = true) (hs : gx_st1 κ sh t pc (.iushr, nx, r1, r2, r3) lo st M = some (P, S')) (hP0 : ∀ q, P = some q → q) (hk : k ≤ R.cells) (hn : n ≤ R.slots) (Z : gx_Z κ D A s nL α tys ws H locs ls lv sv sh lo st M)
    (kk : ∀ ws' H' locs' ls' lv' sv', gx_Z κ D A s nL α tys ws' H' locs' ls' lv' sv' sh S'.2.1 S'.2.2.1 S'.2.2.2 → W p l e R s m args below meth c H' locs' k n Q (F0 m S'.1 ls' sv')) : W p l e R s m args below meth c H locs k n Q (F0 m pc ls sv) := by
  obtain ⟨hx, hb, hml, hown, hts, hyn, hAO, hA, hRf, hRl, hsc⟩ := C
  obtain ⟨hh, hl, hst, hls, hP, hK, hD, hS⟩ := Z
  unfold y_okop y_okin at hok
  simp only [Bool.and_eq_true, decide_eq_true_eq] at hok
  obtain ⟨hdg, hok⟩ := hok
  unfold gx_st1 at hs
  dsimp only at hs
  obtain rfl := hok
  rw [Nat.add_sub_cancel_left] at hdg
  rcases st with _ | ⟨b | b, _ | ⟨a | a, r⟩⟩ <;> try (cases hs; done)
  cases hs
  obtain ⟨ys, rfl, h1⟩ := gx_ds_ci hst
  obtain ⟨zs, rfl, h2⟩ := gx_ds_ci h1
  exact lv_iushr hx hb hdg rfl (kk ws H locs ls _ _ ⟨hh, hl, gx_ds_i (gx_i_of _) h2, hls, hP, hK, hD, hS⟩)

set_option maxHeartbeats 4000000 in
set_option maxRecDepth 100000 in
theorem gx_st_idiv {nx r1 r2 r3 : Nat} (C : y_ctx κ true p R s m args meth c cc own yn nL A) (hok : y_okop nL own yn cc (pc, (.idiv, nx, r1, r2, r3)) = true) (hs : gx_st1 κ sh t pc (.idiv, nx, r1, r2, r3) lo st M = some (P, S')) (hP0 : ∀ q, P = some q → q) (hk : k ≤ R.cells) (hn : n ≤ R.slots) (Z : gx_Z κ D A s nL α tys ws H locs ls lv sv sh lo st M)
    (kk : ∀ ws' H' locs' ls' lv' sv', gx_Z κ D A s nL α tys ws' H' locs' ls' lv' sv' sh S'.2.1 S'.2.2.1 S'.2.2.2 → W p l e R s m args below meth c H' locs' k n Q (F0 m S'.1 ls' sv')) : W p l e R s m args below meth c H locs k n Q (F0 m pc ls sv) := by
  obtain ⟨hx, hb, hml, hown, hts, hyn, hAO, hA, hRf, hRl, hsc⟩ := C
  obtain ⟨hh, hl, hst, hls, hP, hK, hD, hS⟩ := Z
  unfold y_okop y_okin at hok
  simp only [Bool.and_eq_true, decide_eq_true_eq] at hok
  obtain ⟨hdg, hok⟩ := hok
  unfold gx_st1 at hs
  dsimp only at hs
  obtain rfl := hok
  rw [Nat.add_sub_cancel_left] at hdg
  rcases st with _ | ⟨b | b, _ | ⟨a | a, r⟩⟩ <;> try (cases hs; done)
  cases hs
  obtain ⟨ys, rfl, h1⟩ := gx_ds_ci hst
  obtain ⟨zs, rfl, h2⟩ := gx_ds_ci h1
  exact lv_idiv hx hb hdg (gx_ne0 (hP0 _ rfl).2.1 (hP0 _ rfl).2.2) (kk ws H locs ls _ _ ⟨hh, hl, gx_ds_i ((gx_div (hP0 _ rfl)).symm) h2, hls, hP, hK, hD, hS⟩)

set_option maxHeartbeats 4000000 in
set_option maxRecDepth 100000 in
theorem gx_st_irem {nx r1 r2 r3 : Nat} (C : y_ctx κ true p R s m args meth c cc own yn nL A) (hok : y_okop nL own yn cc (pc, (.irem, nx, r1, r2, r3)) = true) (hs : gx_st1 κ sh t pc (.irem, nx, r1, r2, r3) lo st M = some (P, S')) (hP0 : ∀ q, P = some q → q) (hk : k ≤ R.cells) (hn : n ≤ R.slots) (Z : gx_Z κ D A s nL α tys ws H locs ls lv sv sh lo st M)
    (kk : ∀ ws' H' locs' ls' lv' sv', gx_Z κ D A s nL α tys ws' H' locs' ls' lv' sv' sh S'.2.1 S'.2.2.1 S'.2.2.2 → W p l e R s m args below meth c H' locs' k n Q (F0 m S'.1 ls' sv')) : W p l e R s m args below meth c H locs k n Q (F0 m pc ls sv) := by
  obtain ⟨hx, hb, hml, hown, hts, hyn, hAO, hA, hRf, hRl, hsc⟩ := C
  obtain ⟨hh, hl, hst, hls, hP, hK, hD, hS⟩ := Z
  unfold y_okop y_okin at hok
  simp only [Bool.and_eq_true, decide_eq_true_eq] at hok
  obtain ⟨hdg, hok⟩ := hok
  unfold gx_st1 at hs
  dsimp only at hs
  obtain rfl := hok
  rw [Nat.add_sub_cancel_left] at hdg
  rcases st with _ | ⟨b | b, _ | ⟨a | a, r⟩⟩ <;> try (cases hs; done)
  cases hs
  obtain ⟨ys, rfl, h1⟩ := gx_ds_ci hst
  obtain ⟨zs, rfl, h2⟩ := gx_ds_ci h1
  exact lv_irem hx hb hdg (gx_ne0 (hP0 _ rfl).2.1 (hP0 _ rfl).2.2) (kk ws H locs ls _ _ ⟨hh, hl, gx_ds_i ((gx_rem (hP0 _ rfl)).symm) h2, hls, hP, hK, hD, hS⟩)

set_option maxHeartbeats 4000000 in
set_option maxRecDepth 100000 in
theorem gx_st_ladd {nx r1 r2 r3 : Nat} (C : y_ctx κ true p R s m args meth c cc own yn nL A) (hok : y_okop nL own yn cc (pc, (.ladd, nx, r1, r2, r3)) = true) (hs : gx_st1 κ sh t pc (.ladd, nx, r1, r2, r3) lo st M = some (P, S')) (hP0 : ∀ q, P = some q → q) (hk : k ≤ R.cells) (hn : n ≤ R.slots) (Z : gx_Z κ D A s nL α tys ws H locs ls lv sv sh lo st M)
    (kk : ∀ ws' H' locs' ls' lv' sv', gx_Z κ D A s nL α tys ws' H' locs' ls' lv' sv' sh S'.2.1 S'.2.2.1 S'.2.2.2 → W p l e R s m args below meth c H' locs' k n Q (F0 m S'.1 ls' sv')) : W p l e R s m args below meth c H locs k n Q (F0 m pc ls sv) := by
  obtain ⟨hx, hb, hml, hown, hts, hyn, hAO, hA, hRf, hRl, hsc⟩ := C
  obtain ⟨hh, hl, hst, hls, hP, hK, hD, hS⟩ := Z
  unfold y_okop y_okin at hok
  simp only [Bool.and_eq_true, decide_eq_true_eq] at hok
  obtain ⟨hdg, hok⟩ := hok
  unfold gx_st1 at hs
  dsimp only at hs
  obtain rfl := hok
  rw [Nat.add_sub_cancel_left] at hdg
  rcases st with _ | ⟨b | b | b, _ | ⟨a | a | a, r⟩⟩ <;> try (cases hs; done)
  cases hs
  obtain ⟨ys, rfl, h1⟩ := gx_ds_cl hst
  obtain ⟨zs, rfl, h2⟩ := gx_ds_cl h1
  exact lv_ladd hx hb hdg (kk ws H locs ls _ _ ⟨hh, hl, gx_ds_l ((gx_addL _ _).symm) h2, hls, hP, hK, hD, hS⟩)

set_option maxHeartbeats 4000000 in
set_option maxRecDepth 100000 in
theorem gx_st_lmul {nx r1 r2 r3 : Nat} (C : y_ctx κ true p R s m args meth c cc own yn nL A) (hok : y_okop nL own yn cc (pc, (.lmul, nx, r1, r2, r3)) = true) (hs : gx_st1 κ sh t pc (.lmul, nx, r1, r2, r3) lo st M = some (P, S')) (hP0 : ∀ q, P = some q → q) (hk : k ≤ R.cells) (hn : n ≤ R.slots) (Z : gx_Z κ D A s nL α tys ws H locs ls lv sv sh lo st M)
    (kk : ∀ ws' H' locs' ls' lv' sv', gx_Z κ D A s nL α tys ws' H' locs' ls' lv' sv' sh S'.2.1 S'.2.2.1 S'.2.2.2 → W p l e R s m args below meth c H' locs' k n Q (F0 m S'.1 ls' sv')) : W p l e R s m args below meth c H locs k n Q (F0 m pc ls sv) := by
  obtain ⟨hx, hb, hml, hown, hts, hyn, hAO, hA, hRf, hRl, hsc⟩ := C
  obtain ⟨hh, hl, hst, hls, hP, hK, hD, hS⟩ := Z
  unfold y_okop y_okin at hok
  simp only [Bool.and_eq_true, decide_eq_true_eq] at hok
  obtain ⟨hdg, hok⟩ := hok
  unfold gx_st1 at hs
  dsimp only at hs
  obtain rfl := hok
  rw [Nat.add_sub_cancel_left] at hdg
  rcases st with _ | ⟨b | b | b, _ | ⟨a | a | a, r⟩⟩ <;> try (cases hs; done)
  cases hs
  obtain ⟨ys, rfl, h1⟩ := gx_ds_cl hst
  obtain ⟨zs, rfl, h2⟩ := gx_ds_cl h1
  exact lv_lmul hx hb hdg (kk ws H locs ls _ _ ⟨hh, hl, gx_ds_l ((gx_mulL _ _).symm) h2, hls, hP, hK, hD, hS⟩)

set_option maxHeartbeats 4000000 in
set_option maxRecDepth 100000 in
theorem gx_st_land {nx r1 r2 r3 : Nat} (C : y_ctx κ true p R s m args meth c cc own yn nL A) (hok : y_okop nL own yn cc (pc, (.land, nx, r1, r2, r3)) = true) (hs : gx_st1 κ sh t pc (.land, nx, r1, r2, r3) lo st M = some (P, S')) (hP0 : ∀ q, P = some q → q) (hk : k ≤ R.cells) (hn : n ≤ R.slots) (Z : gx_Z κ D A s nL α tys ws H locs ls lv sv sh lo st M)
    (kk : ∀ ws' H' locs' ls' lv' sv', gx_Z κ D A s nL α tys ws' H' locs' ls' lv' sv' sh S'.2.1 S'.2.2.1 S'.2.2.2 → W p l e R s m args below meth c H' locs' k n Q (F0 m S'.1 ls' sv')) : W p l e R s m args below meth c H locs k n Q (F0 m pc ls sv) := by
  obtain ⟨hx, hb, hml, hown, hts, hyn, hAO, hA, hRf, hRl, hsc⟩ := C
  obtain ⟨hh, hl, hst, hls, hP, hK, hD, hS⟩ := Z
  unfold y_okop y_okin at hok
  simp only [Bool.and_eq_true, decide_eq_true_eq] at hok
  obtain ⟨hdg, hok⟩ := hok
  unfold gx_st1 at hs
  dsimp only at hs
  obtain rfl := hok
  rw [Nat.add_sub_cancel_left] at hdg
  rcases st with _ | ⟨b | b | b, _ | ⟨a | a | a, r⟩⟩ <;> try (cases hs; done)
  cases hs
  obtain ⟨ys, rfl, h1⟩ := gx_ds_cl hst
  obtain ⟨zs, rfl, h2⟩ := gx_ds_cl h1
  exact lv_land hx hb hdg (kk ws H locs ls _ _ ⟨hh, hl, gx_ds_l (gx_l_of _) h2, hls, hP, hK, hD, hS⟩)

set_option maxHeartbeats 4000000 in
set_option maxRecDepth 100000 in
theorem gx_st_lor {nx r1 r2 r3 : Nat} (C : y_ctx κ true p R s m args meth c cc own yn nL A) (hok : y_okop nL own yn cc (pc, (.lor, nx, r1, r2, r3)) = true) (hs : gx_st1 κ sh t pc (.lor, nx, r1, r2, r3) lo st M = some (P, S')) (hP0 : ∀ q, P = some q → q) (hk : k ≤ R.cells) (hn : n ≤ R.slots) (Z : gx_Z κ D A s nL α tys ws H locs ls lv sv sh lo st M)
    (kk : ∀ ws' H' locs' ls' lv' sv', gx_Z κ D A s nL α tys ws' H' locs' ls' lv' sv' sh S'.2.1 S'.2.2.1 S'.2.2.2 → W p l e R s m args below meth c H' locs' k n Q (F0 m S'.1 ls' sv')) : W p l e R s m args below meth c H locs k n Q (F0 m pc ls sv) := by
  obtain ⟨hx, hb, hml, hown, hts, hyn, hAO, hA, hRf, hRl, hsc⟩ := C
  obtain ⟨hh, hl, hst, hls, hP, hK, hD, hS⟩ := Z
  unfold y_okop y_okin at hok
  simp only [Bool.and_eq_true, decide_eq_true_eq] at hok
  obtain ⟨hdg, hok⟩ := hok
  unfold gx_st1 at hs
  dsimp only at hs
  obtain rfl := hok
  rw [Nat.add_sub_cancel_left] at hdg
  rcases st with _ | ⟨b | b | b, _ | ⟨a | a | a, r⟩⟩ <;> try (cases hs; done)
  cases hs
  obtain ⟨ys, rfl, h1⟩ := gx_ds_cl hst
  obtain ⟨zs, rfl, h2⟩ := gx_ds_cl h1
  exact lv_lor hx hb hdg (kk ws H locs ls _ _ ⟨hh, hl, gx_ds_l (gx_l_of _) h2, hls, hP, hK, hD, hS⟩)

set_option maxHeartbeats 4000000 in
set_option maxRecDepth 100000 in
theorem gx_st_lxor {nx r1 r2 r3 : Nat} (C : y_ctx κ true p R s m args meth c cc own yn nL A) (hok : y_okop nL own yn cc (pc, (.lxor, nx, r1, r2, r3)) = true) (hs : gx_st1 κ sh t pc (.lxor, nx, r1, r2, r3) lo st M = some (P, S')) (hP0 : ∀ q, P = some q → q) (hk : k ≤ R.cells) (hn : n ≤ R.slots) (Z : gx_Z κ D A s nL α tys ws H locs ls lv sv sh lo st M)
    (kk : ∀ ws' H' locs' ls' lv' sv', gx_Z κ D A s nL α tys ws' H' locs' ls' lv' sv' sh S'.2.1 S'.2.2.1 S'.2.2.2 → W p l e R s m args below meth c H' locs' k n Q (F0 m S'.1 ls' sv')) : W p l e R s m args below meth c H locs k n Q (F0 m pc ls sv) := by
  obtain ⟨hx, hb, hml, hown, hts, hyn, hAO, hA, hRf, hRl, hsc⟩ := C
  obtain ⟨hh, hl, hst, hls, hP, hK, hD, hS⟩ := Z
  unfold y_okop y_okin at hok
  simp only [Bool.and_eq_true, decide_eq_true_eq] at hok
  obtain ⟨hdg, hok⟩ := hok
  unfold gx_st1 at hs
  dsimp only at hs
  obtain rfl := hok
  rw [Nat.add_sub_cancel_left] at hdg
  rcases st with _ | ⟨b | b | b, _ | ⟨a | a | a, r⟩⟩ <;> try (cases hs; done)
  cases hs
  obtain ⟨ys, rfl, h1⟩ := gx_ds_cl hst
  obtain ⟨zs, rfl, h2⟩ := gx_ds_cl h1
  exact lv_lxor hx hb hdg (kk ws H locs ls _ _ ⟨hh, hl, gx_ds_l (gx_l_of _) h2, hls, hP, hK, hD, hS⟩)

set_option maxHeartbeats 4000000 in
set_option maxRecDepth 100000 in
theorem gx_st_ldiv {nx r1 r2 r3 : Nat} (C : y_ctx κ true p R s m args meth c cc own yn nL A) (hok : y_okop nL own yn cc (pc, (.ldiv, nx, r1, r2, r3)) = true) (hs : gx_st1 κ sh t pc (.ldiv, nx, r1, r2, r3) lo st M = some (P, S')) (hP0 : ∀ q, P = some q → q) (hk : k ≤ R.cells) (hn : n ≤ R.slots) (Z : gx_Z κ D A s nL α tys ws H locs ls lv sv sh lo st M)
    (kk : ∀ ws' H' locs' ls' lv' sv', gx_Z κ D A s nL α tys ws' H' locs' ls' lv' sv' sh S'.2.1 S'.2.2.1 S'.2.2.2 → W p l e R s m args below meth c H' locs' k n Q (F0 m S'.1 ls' sv')) : W p l e R s m args below meth c H locs k n Q (F0 m pc ls sv) := by
  obtain ⟨hx, hb, hml, hown, hts, hyn, hAO, hA, hRf, hRl, hsc⟩ := C
  obtain ⟨hh, hl, hst, hls, hP, hK, hD, hS⟩ := Z
  unfold y_okop y_okin at hok
  simp only [Bool.and_eq_true, decide_eq_true_eq] at hok
  obtain ⟨hdg, hok⟩ := hok
  unfold gx_st1 at hs
  dsimp only at hs
  obtain rfl := hok
  rw [Nat.add_sub_cancel_left] at hdg
  rcases st with _ | ⟨b | b | b, _ | ⟨a | a | a, r⟩⟩ <;> try (cases hs; done)
  cases hs
  obtain ⟨ys, rfl, h1⟩ := gx_ds_cl hst
  obtain ⟨zs, rfl, h2⟩ := gx_ds_cl h1
  exact lv_ldiv hx hb hdg (gx_ne0L (hP0 _ rfl).2.1 (hP0 _ rfl).2.2) (kk ws H locs ls _ _ ⟨hh, hl, gx_ds_l ((gx_divL (hP0 _ rfl)).symm) h2, hls, hP, hK, hD, hS⟩)

set_option maxHeartbeats 4000000 in
set_option maxRecDepth 100000 in
theorem gx_st_lrem {nx r1 r2 r3 : Nat} (C : y_ctx κ true p R s m args meth c cc own yn nL A) (hok : y_okop nL own yn cc (pc, (.lrem, nx, r1, r2, r3)) = true) (hs : gx_st1 κ sh t pc (.lrem, nx, r1, r2, r3) lo st M = some (P, S')) (hP0 : ∀ q, P = some q → q) (hk : k ≤ R.cells) (hn : n ≤ R.slots) (Z : gx_Z κ D A s nL α tys ws H locs ls lv sv sh lo st M)
    (kk : ∀ ws' H' locs' ls' lv' sv', gx_Z κ D A s nL α tys ws' H' locs' ls' lv' sv' sh S'.2.1 S'.2.2.1 S'.2.2.2 → W p l e R s m args below meth c H' locs' k n Q (F0 m S'.1 ls' sv')) : W p l e R s m args below meth c H locs k n Q (F0 m pc ls sv) := by
  obtain ⟨hx, hb, hml, hown, hts, hyn, hAO, hA, hRf, hRl, hsc⟩ := C
  obtain ⟨hh, hl, hst, hls, hP, hK, hD, hS⟩ := Z
  unfold y_okop y_okin at hok
  simp only [Bool.and_eq_true, decide_eq_true_eq] at hok
  obtain ⟨hdg, hok⟩ := hok
  unfold gx_st1 at hs
  dsimp only at hs
  obtain rfl := hok
  rw [Nat.add_sub_cancel_left] at hdg
  rcases st with _ | ⟨b | b | b, _ | ⟨a | a | a, r⟩⟩ <;> try (cases hs; done)
  cases hs
  obtain ⟨ys, rfl, h1⟩ := gx_ds_cl hst
  obtain ⟨zs, rfl, h2⟩ := gx_ds_cl h1
  exact lv_lrem hx hb hdg (gx_ne0L (hP0 _ rfl).2.1 (hP0 _ rfl).2.2) (kk ws H locs ls _ _ ⟨hh, hl, gx_ds_l ((gx_remL (hP0 _ rfl)).symm) h2, hls, hP, hK, hD, hS⟩)

set_option maxHeartbeats 4000000 in
set_option maxRecDepth 100000 in
theorem gx_st_lcmp {nx r1 r2 r3 : Nat} (C : y_ctx κ true p R s m args meth c cc own yn nL A) (hok : y_okop nL own yn cc (pc, (.lcmp, nx, r1, r2, r3)) = true) (hs : gx_st1 κ sh t pc (.lcmp, nx, r1, r2, r3) lo st M = some (P, S')) (hP0 : ∀ q, P = some q → q) (hk : k ≤ R.cells) (hn : n ≤ R.slots) (Z : gx_Z κ D A s nL α tys ws H locs ls lv sv sh lo st M)
    (kk : ∀ ws' H' locs' ls' lv' sv', gx_Z κ D A s nL α tys ws' H' locs' ls' lv' sv' sh S'.2.1 S'.2.2.1 S'.2.2.2 → W p l e R s m args below meth c H' locs' k n Q (F0 m S'.1 ls' sv')) : W p l e R s m args below meth c H locs k n Q (F0 m pc ls sv) := by
  obtain ⟨hx, hb, hml, hown, hts, hyn, hAO, hA, hRf, hRl, hsc⟩ := C
  obtain ⟨hh, hl, hst, hls, hP, hK, hD, hS⟩ := Z
  unfold y_okop y_okin at hok
  simp only [Bool.and_eq_true, decide_eq_true_eq] at hok
  obtain ⟨hdg, hok⟩ := hok
  unfold gx_st1 at hs
  dsimp only at hs
  obtain rfl := hok
  rw [Nat.add_sub_cancel_left] at hdg
  rcases st with _ | ⟨b | b | b, _ | ⟨a | a | a, r⟩⟩ <;> try (cases hs; done)
  cases hs
  obtain ⟨ys, rfl, h1⟩ := gx_ds_cl hst
  obtain ⟨zs, rfl, h2⟩ := gx_ds_cl h1
  exact W.lcmp hx hb hdg (kk ws H locs ls _ _ ⟨hh, hl, gx_ds_i (gx_c3_ok (hP0 _ rfl).1 (hP0 _ rfl).2).symm h2, hls, hP, hK, hD, hS⟩)

set_option maxHeartbeats 4000000 in
set_option maxRecDepth 100000 in
theorem gx_st_lshl {nx r1 r2 r3 : Nat} (C : y_ctx κ true p R s m args meth c cc own yn nL A) (hok : y_okop nL own yn cc (pc, (.lshl, nx, r1, r2, r3)) = true) (hs : gx_st1 κ sh t pc (.lshl, nx, r1, r2, r3) lo st M = some (P, S')) (hP0 : ∀ q, P = some q → q) (hk : k ≤ R.cells) (hn : n ≤ R.slots) (Z : gx_Z κ D A s nL α tys ws H locs ls lv sv sh lo st M)
    (kk : ∀ ws' H' locs' ls' lv' sv', gx_Z κ D A s nL α tys ws' H' locs' ls' lv' sv' sh S'.2.1 S'.2.2.1 S'.2.2.2 → W p l e R s m args below meth c H' locs' k n Q (F0 m S'.1 ls' sv')) : W p l e R s m args below meth c H locs k n Q (F0 m pc ls sv) := by
  obtain ⟨hx, hb, hml, hown, hts, hyn, hAO, hA, hRf, hRl, hsc⟩ := C
  obtain ⟨hh, hl, hst, hls, hP, hK, hD, hS⟩ := Z
  unfold y_okop y_okin at hok
  simp only [Bool.and_eq_true, decide_eq_true_eq] at hok
  obtain ⟨hdg, hok⟩ := hok
  unfold gx_st1 at hs
  dsimp only at hs
  obtain rfl := hok
  rw [Nat.add_sub_cancel_left] at hdg
  rcases st with _ | ⟨b | b, _ | ⟨a | a | a, r⟩⟩ <;> try (cases hs; done)
  cases hs
  obtain ⟨ys, rfl, h1⟩ := gx_ds_ci hst
  obtain ⟨zs, rfl, h2⟩ := gx_ds_cl h1
  exact lv_lshl hx hb hdg rfl (kk ws H locs ls _ _ ⟨hh, hl, gx_ds_l (gx_l_of _) h2, hls, hP, hK, hD, hS⟩)

set_option maxHeartbeats 4000000 in
set_option maxRecDepth 100000 in
theorem gx_st_lushr {nx r1 r2 r3 : Nat} (C : y_ctx κ true p R s m args meth c cc own yn nL A) (hok : y_okop nL own yn cc (pc, (.lushr, nx, r1, r2, r3)) = true) (hs : gx_st1 κ sh t pc (.lushr, nx, r1, r2, r3) lo st M = some (P, S')) (hP0 : ∀ q, P = some q → q) (hk : k ≤ R.cells) (hn : n ≤ R.slots) (Z : gx_Z κ D A s nL α tys ws H locs ls lv sv sh lo st M)
    (kk : ∀ ws' H' locs' ls' lv' sv', gx_Z κ D A s nL α tys ws' H' locs' ls' lv' sv' sh S'.2.1 S'.2.2.1 S'.2.2.2 → W p l e R s m args below meth c H' locs' k n Q (F0 m S'.1 ls' sv')) : W p l e R s m args below meth c H locs k n Q (F0 m pc ls sv) := by
  obtain ⟨hx, hb, hml, hown, hts, hyn, hAO, hA, hRf, hRl, hsc⟩ := C
  obtain ⟨hh, hl, hst, hls, hP, hK, hD, hS⟩ := Z
  unfold y_okop y_okin at hok
  simp only [Bool.and_eq_true, decide_eq_true_eq] at hok
  obtain ⟨hdg, hok⟩ := hok
  unfold gx_st1 at hs
  dsimp only at hs
  obtain rfl := hok
  rw [Nat.add_sub_cancel_left] at hdg
  rcases st with _ | ⟨b | b, _ | ⟨a | a | a, r⟩⟩ <;> try (cases hs; done)
  cases hs
  obtain ⟨ys, rfl, h1⟩ := gx_ds_ci hst
  obtain ⟨zs, rfl, h2⟩ := gx_ds_cl h1
  exact lv_lushr hx hb hdg rfl (kk ws H locs ls _ _ ⟨hh, hl, gx_ds_l (gx_l_of _) h2, hls, hP, hK, hD, hS⟩)

set_option maxHeartbeats 4000000 in
set_option maxRecDepth 100000 in
theorem gx_st_i2l {nx r1 r2 r3 : Nat} (C : y_ctx κ true p R s m args meth c cc own yn nL A) (hok : y_okop nL own yn cc (pc, (.i2l, nx, r1, r2, r3)) = true) (hs : gx_st1 κ sh t pc (.i2l, nx, r1, r2, r3) lo st M = some (P, S')) (hP0 : ∀ q, P = some q → q) (hk : k ≤ R.cells) (hn : n ≤ R.slots) (Z : gx_Z κ D A s nL α tys ws H locs ls lv sv sh lo st M)
    (kk : ∀ ws' H' locs' ls' lv' sv', gx_Z κ D A s nL α tys ws' H' locs' ls' lv' sv' sh S'.2.1 S'.2.2.1 S'.2.2.2 → W p l e R s m args below meth c H' locs' k n Q (F0 m S'.1 ls' sv')) : W p l e R s m args below meth c H locs k n Q (F0 m pc ls sv) := by
  obtain ⟨hx, hb, hml, hown, hts, hyn, hAO, hA, hRf, hRl, hsc⟩ := C
  obtain ⟨hh, hl, hst, hls, hP, hK, hD, hS⟩ := Z
  unfold y_okop y_okin at hok
  simp only [Bool.and_eq_true, decide_eq_true_eq] at hok
  obtain ⟨hdg, hok⟩ := hok
  unfold gx_st1 at hs
  dsimp only at hs
  obtain rfl := hok
  rw [Nat.add_sub_cancel_left] at hdg
  rcases st with _ | ⟨a | a, r⟩ <;> try (cases hs; done)
  cases hs
  obtain ⟨ys, rfl, h2⟩ := gx_ds_ci hst
  exact lv_i2l hx hb hdg (gx_i2l (hP0 _ rfl)) (kk ws H locs ls _ _ ⟨hh, hl, gx_ds_l rfl h2, hls, hP, hK, hD, hS⟩)

set_option maxHeartbeats 4000000 in
set_option maxRecDepth 100000 in
theorem gx_st_l2i {nx r1 r2 r3 : Nat} (C : y_ctx κ true p R s m args meth c cc own yn nL A) (hok : y_okop nL own yn cc (pc, (.l2i, nx, r1, r2, r3)) = true) (hs : gx_st1 κ sh t pc (.l2i, nx, r1, r2, r3) lo st M = some (P, S')) (hP0 : ∀ q, P = some q → q) (hk : k ≤ R.cells) (hn : n ≤ R.slots) (Z : gx_Z κ D A s nL α tys ws H locs ls lv sv sh lo st M)
    (kk : ∀ ws' H' locs' ls' lv' sv', gx_Z κ D A s nL α tys ws' H' locs' ls' lv' sv' sh S'.2.1 S'.2.2.1 S'.2.2.2 → W p l e R s m args below meth c H' locs' k n Q (F0 m S'.1 ls' sv')) : W p l e R s m args below meth c H locs k n Q (F0 m pc ls sv) := by
  obtain ⟨hx, hb, hml, hown, hts, hyn, hAO, hA, hRf, hRl, hsc⟩ := C
  obtain ⟨hh, hl, hst, hls, hP, hK, hD, hS⟩ := Z
  unfold y_okop y_okin at hok
  simp only [Bool.and_eq_true, decide_eq_true_eq] at hok
  obtain ⟨hdg, hok⟩ := hok
  unfold gx_st1 at hs
  dsimp only at hs
  obtain rfl := hok
  rw [Nat.add_sub_cancel_left] at hdg
  rcases st with _ | ⟨a | a | a, r⟩ <;> try (cases hs; done)
  cases hs
  obtain ⟨ys, rfl, h2⟩ := gx_ds_cl hst
  exact lv_l2i hx hb hdg (gx_l2i a) (kk ws H locs ls _ _ ⟨hh, hl, gx_ds_i rfl h2, hls, hP, hK, hD, hS⟩)

set_option maxHeartbeats 4000000 in
set_option maxRecDepth 100000 in
theorem gx_st_dup {nx r1 r2 r3 : Nat} (C : y_ctx κ true p R s m args meth c cc own yn nL A) (hok : y_okop nL own yn cc (pc, (.dup, nx, r1, r2, r3)) = true) (hs : gx_st1 κ sh t pc (.dup, nx, r1, r2, r3) lo st M = some (P, S')) (hP0 : ∀ q, P = some q → q) (hk : k ≤ R.cells) (hn : n ≤ R.slots) (Z : gx_Z κ D A s nL α tys ws H locs ls lv sv sh lo st M)
    (kk : ∀ ws' H' locs' ls' lv' sv', gx_Z κ D A s nL α tys ws' H' locs' ls' lv' sv' sh S'.2.1 S'.2.2.1 S'.2.2.2 → W p l e R s m args below meth c H' locs' k n Q (F0 m S'.1 ls' sv')) : W p l e R s m args below meth c H locs k n Q (F0 m pc ls sv) := by
  obtain ⟨hx, hb, hml, hown, hts, hyn, hAO, hA, hRf, hRl, hsc⟩ := C
  obtain ⟨hh, hl, hst, hls, hP, hK, hD, hS⟩ := Z
  unfold y_okop y_okin at hok
  simp only [Bool.and_eq_true, decide_eq_true_eq] at hok
  obtain ⟨hdg, hok⟩ := hok
  unfold gx_st1 at hs
  dsimp only at hs
  obtain rfl := hok
  rw [Nat.add_sub_cancel_left] at hdg
  rcases st with _ | ⟨v, r⟩
  · cases hs
  · cases hc : Nat.beq (gx_cat v) 1 with
    | true =>
      dsimp only at hs
      rw [hc] at hs; cases hs
      obtain ⟨x, ys, rfl, h1, h2⟩ := gx_ds_cons hst
      exact lv_dup hx hb hdg ((gx_cat_ok h1).trans (y_beq.mp hc)) (kk ws H locs ls _ _ ⟨hh, hl, gx_ds_mk h1 (gx_ds_mk h1 h2), hls, hP, hK, hD, hS⟩)
    | false => dsimp only at hs; rw [hc] at hs; cases hs

set_option maxHeartbeats 4000000 in
set_option maxRecDepth 100000 in
theorem gx_st_pop {nx r1 r2 r3 : Nat} (C : y_ctx κ true p R s m args meth c cc own yn nL A) (hok : y_okop nL own yn cc (pc, (.pop, nx, r1, r2, r3)) = true) (hs : gx_st1 κ sh t pc (.pop, nx, r1, r2, r3) lo st M = some (P, S')) (hP0 : ∀ q, P = some q → q) (hk : k ≤ R.cells) (hn : n ≤ R.slots) (Z : gx_Z κ D A s nL α tys ws H locs ls lv sv sh lo st M)
    (kk : ∀ ws' H' locs' ls' lv' sv', gx_Z κ D A s nL α tys ws' H' locs' ls' lv' sv' sh S'.2.1 S'.2.2.1 S'.2.2.2 → W p l e R s m args below meth c H' locs' k n Q (F0 m S'.1 ls' sv')) : W p l e R s m args below meth c H locs k n Q (F0 m pc ls sv) := by
  obtain ⟨hx, hb, hml, hown, hts, hyn, hAO, hA, hRf, hRl, hsc⟩ := C
  obtain ⟨hh, hl, hst, hls, hP, hK, hD, hS⟩ := Z
  unfold y_okop y_okin at hok
  simp only [Bool.and_eq_true, decide_eq_true_eq] at hok
  obtain ⟨hdg, hok⟩ := hok
  unfold gx_st1 at hs
  dsimp only at hs
  obtain rfl := hok
  rw [Nat.add_sub_cancel_left] at hdg
  rcases st with _ | ⟨v, r⟩
  · cases hs
  · cases hc : Nat.beq (gx_cat v) 1 with
    | true =>
      dsimp only at hs
      rw [hc] at hs; cases hs
      obtain ⟨x, ys, rfl, h1, h2⟩ := gx_ds_cons hst
      exact lv_pop hx hb hdg ((gx_cat_ok h1).trans (y_beq.mp hc)) (kk ws H locs ls _ _ ⟨hh, hl, h2, hls, hP, hK, hD, hS⟩)
    | false => dsimp only at hs; rw [hc] at hs; cases hs

set_option maxHeartbeats 4000000 in
set_option maxRecDepth 100000 in
theorem gx_st_dup2 {nx r1 r2 r3 : Nat} (C : y_ctx κ true p R s m args meth c cc own yn nL A) (hok : y_okop nL own yn cc (pc, (.dup2, nx, r1, r2, r3)) = true) (hs : gx_st1 κ sh t pc (.dup2, nx, r1, r2, r3) lo st M = some (P, S')) (hP0 : ∀ q, P = some q → q) (hk : k ≤ R.cells) (hn : n ≤ R.slots) (Z : gx_Z κ D A s nL α tys ws H locs ls lv sv sh lo st M)
    (kk : ∀ ws' H' locs' ls' lv' sv', gx_Z κ D A s nL α tys ws' H' locs' ls' lv' sv' sh S'.2.1 S'.2.2.1 S'.2.2.2 → W p l e R s m args below meth c H' locs' k n Q (F0 m S'.1 ls' sv')) : W p l e R s m args below meth c H locs k n Q (F0 m pc ls sv) := by
  obtain ⟨hx, hb, hml, hown, hts, hyn, hAO, hA, hRf, hRl, hsc⟩ := C
  obtain ⟨hh, hl, hst, hls, hP, hK, hD, hS⟩ := Z
  unfold y_okop y_okin at hok
  simp only [Bool.and_eq_true, decide_eq_true_eq] at hok
  obtain ⟨hdg, hok⟩ := hok
  unfold gx_st1 at hs
  dsimp only at hs
  obtain rfl := hok
  rw [Nat.add_sub_cancel_left] at hdg
  rcases st with _ | ⟨v, _ | ⟨u, r⟩⟩
  · cases hs
  · cases hs
  · cases hc : (Nat.beq (gx_cat v) 1 && Nat.beq (gx_cat u) 1) with
    | true =>
      dsimp only at hs
      rw [hc] at hs; cases hs
      simp only [Bool.and_eq_true] at hc
      obtain ⟨x, ys, rfl, h1, h2⟩ := gx_ds_cons hst
      obtain ⟨y, ys, rfl, h3, h4⟩ := gx_ds_cons h2
      exact lv_dup2_11 hx hb hdg ((gx_cat_ok h1).trans (y_beq.mp hc.1)) ((gx_cat_ok h3).trans (y_beq.mp hc.2)) (kk ws H locs ls _ _ ⟨hh, hl, gx_ds_mk h1 (gx_ds_mk h3 (gx_ds_mk h1 (gx_ds_mk h3 h4))), hls, hP, hK, hD, hS⟩)
    | false => dsimp only at hs; rw [hc] at hs; cases hs

set_option maxHeartbeats 4000000 in
set_option maxRecDepth 100000 in
theorem gx_st_dup_x2 {nx r1 r2 r3 : Nat} (C : y_ctx κ true p R s m args meth c cc own yn nL A) (hok : y_okop nL own yn cc (pc, (.dup_x2, nx, r1, r2, r3)) = true) (hs : gx_st1 κ sh t pc (.dup_x2, nx, r1, r2, r3) lo st M = some (P, S')) (hP0 : ∀ q, P = some q → q) (hk : k ≤ R.cells) (hn : n ≤ R.slots) (Z : gx_Z κ D A s nL α tys ws H locs ls lv sv sh lo st M)
    (kk : ∀ ws' H' locs' ls' lv' sv', gx_Z κ D A s nL α tys ws' H' locs' ls' lv' sv' sh S'.2.1 S'.2.2.1 S'.2.2.2 → W p l e R s m args below meth c H' locs' k n Q (F0 m S'.1 ls' sv')) : W p l e R s m args below meth c H locs k n Q (F0 m pc ls sv) := by
  obtain ⟨hx, hb, hml, hown, hts, hyn, hAO, hA, hRf, hRl, hsc⟩ := C
  obtain ⟨hh, hl, hst, hls, hP, hK, hD, hS⟩ := Z
  unfold y_okop y_okin at hok
  simp only [Bool.and_eq_true, decide_eq_true_eq] at hok
  obtain ⟨hdg, hok⟩ := hok
  unfold gx_st1 at hs
  dsimp only at hs
  obtain rfl := hok
  rw [Nat.add_sub_cancel_left] at hdg
  rcases st with _ | ⟨v, _ | ⟨u, _ | ⟨z, r⟩⟩⟩
  · cases hs
  · cases hs
  · cases hs
  · cases hc : (Nat.beq (gx_cat v) 1 && (Nat.beq (gx_cat u) 1 && Nat.beq (gx_cat z) 1)) with
    | true =>
      dsimp only at hs
      rw [hc] at hs; cases hs
      simp only [Bool.and_eq_true] at hc
      obtain ⟨x, ys, rfl, h1, h2⟩ := gx_ds_cons hst
      obtain ⟨y, ys, rfl, h3, h4⟩ := gx_ds_cons h2
      obtain ⟨y2, ys, rfl, h5, h6⟩ := gx_ds_cons h4
      exact lv_dup_x2 hx hb hdg ((gx_cat_ok h1).trans (y_beq.mp hc.1)) ((gx_cat_ok h3).trans (y_beq.mp hc.2.1)) ((gx_cat_ok h5).trans (y_beq.mp hc.2.2)) (kk ws H locs ls _ _ ⟨hh, hl, gx_ds_mk h1 (gx_ds_mk h3 (gx_ds_mk h5 (gx_ds_mk h1 h6))), hls, hP, hK, hD, hS⟩)
    | false => dsimp only at hs; rw [hc] at hs; cases hs

set_option maxHeartbeats 4000000 in
set_option maxRecDepth 100000 in
theorem gx_st_goto {off : Int} {nx r1 r2 r3 : Nat} (C : y_ctx κ true p R s m args meth c cc own yn nL A) (hok : y_okop nL own yn cc (pc, (.goto off, nx, r1, r2, r3)) = true) (hs : gx_st1 κ sh t pc (.goto off, nx, r1, r2, r3) lo st M = some (P, S')) (hP0 : ∀ q, P = some q → q) (hk : k ≤ R.cells) (hn : n ≤ R.slots) (Z : gx_Z κ D A s nL α tys ws H locs ls lv sv sh lo st M)
    (kk : ∀ ws' H' locs' ls' lv' sv', gx_Z κ D A s nL α tys ws' H' locs' ls' lv' sv' sh S'.2.1 S'.2.2.1 S'.2.2.2 → W p l e R s m args below meth c H' locs' k n Q (F0 m S'.1 ls' sv')) : W p l e R s m args below meth c H locs k n Q (F0 m pc ls sv) := by
  obtain ⟨hx, hb, hml, hown, hts, hyn, hAO, hA, hRf, hRl, hsc⟩ := C
  obtain ⟨hh, hl, hst, hls, hP, hK, hD, hS⟩ := Z
  unfold y_okop y_okin at hok
  simp only [Bool.and_eq_true, decide_eq_true_eq] at hok
  obtain ⟨hdg, hok⟩ := hok
  unfold gx_st1 at hs
  dsimp only at hs
  obtain ⟨rfl, ht⟩ := hok
  rw [Nat.add_sub_cancel_left] at hdg
  cases hs
  exact lv_goto hx hb hdg ht (kk ws H locs ls _ _ ⟨hh, hl, hst, hls, hP, hK, hD, hS⟩)

set_option maxHeartbeats 4000000 in
set_option maxRecDepth 100000 in
theorem gx_st_if {q : ClassFile.Cond} {off : Int} {nx r1 r2 r3 : Nat} (C : y_ctx κ true p R s m args meth c cc own yn nL A) (hok : y_okop nL own yn cc (pc, (.ifCond q off, nx, r1, r2, r3)) = true) (hs : gx_st1 κ sh t pc (.ifCond q off, nx, r1, r2, r3) lo st M = some (P, S')) (hP0 : ∀ q, P = some q → q) (hk : k ≤ R.cells) (hn : n ≤ R.slots) (Z : gx_Z κ D A s nL α tys ws H locs ls lv sv sh lo st M)
    (kk : ∀ ws' H' locs' ls' lv' sv', gx_Z κ D A s nL α tys ws' H' locs' ls' lv' sv' sh S'.2.1 S'.2.2.1 S'.2.2.2 → W p l e R s m args below meth c H' locs' k n Q (F0 m S'.1 ls' sv')) : W p l e R s m args below meth c H locs k n Q (F0 m pc ls sv) := by
  obtain ⟨hx, hb, hml, hown, hts, hyn, hAO, hA, hRf, hRl, hsc⟩ := C
  obtain ⟨hh, hl, hst, hls, hP, hK, hD, hS⟩ := Z
  unfold y_okop y_okin at hok
  simp only [Bool.and_eq_true, decide_eq_true_eq] at hok
  obtain ⟨hdg, hok⟩ := hok
  unfold gx_st1 at hs
  dsimp only at hs
  obtain ⟨rfl, ht⟩ := hok
  rw [Nat.add_sub_cancel_left] at hdg
  rcases st with _ | ⟨a | a, r⟩ <;> try (cases hs; done)
  cases hs
  generalize Nat.beq t 1 = t at hP0 kk
  obtain ⟨hr1, hbr⟩ := hP0 _ rfl
  have hr2 : gx_R 0 := ⟨by omega, by omega⟩
  obtain ⟨ys, rfl, h2⟩ := gx_ds_ci hst
  have e1 : gx_i a = gx_i 0 ↔ a = 0 := by rw [← Int32.toInt_inj, gx_toInt hr1, gx_toInt hr2]
  have e2 : gx_i a < gx_i 0 ↔ a < 0 := by rw [Int32.lt_iff_toInt_lt, gx_toInt hr1, gx_toInt hr2]
  have e3 : gx_i a ≤ gx_i 0 ↔ a ≤ 0 := by rw [Int32.le_iff_toInt_le, gx_toInt hr1, gx_toInt hr2]
  have e4 : gx_i 0 < gx_i a ↔ 0 < a := by rw [Int32.lt_iff_toInt_lt, gx_toInt hr1, gx_toInt hr2]
  have e5 : gx_i 0 ≤ gx_i a ↔ 0 ≤ a := by rw [Int32.le_iff_toInt_le, gx_toInt hr1, gx_toInt hr2]
  rw [show gx_i 0 = (0 : Int32) from rfl] at e1 e2 e3 e4 e5
  cases q with
  | eq =>
    refine lv_if_eq hx hb hdg ht (fun hc => ?_) (fun hc => ?_)
    · cases t with
      | true => exact kk ws H locs ls _ _ ⟨hh, hl, h2, hls, hP, hK, hD, hS⟩
      | false => exact absurd (e1.mp hc) hbr
    · cases t with
      | true => exact absurd (e1.mpr hbr) hc
      | false => exact kk ws H locs ls _ _ ⟨hh, hl, h2, hls, hP, hK, hD, hS⟩
  | ne =>
    refine lv_if_ne hx hb hdg ht (fun hc => ?_) (fun hc => ?_)
    · cases t with
      | true => exact kk ws H locs ls _ _ ⟨hh, hl, h2, hls, hP, hK, hD, hS⟩
      | false => exact absurd (e1.mpr hbr) hc
    · cases t with
      | true => exact absurd (e1.mp hc) hbr
      | false => exact kk ws H locs ls _ _ ⟨hh, hl, h2, hls, hP, hK, hD, hS⟩
  | lt =>
    refine lv_if_lt hx hb hdg ht (fun hc => ?_) (fun hc => ?_)
    · cases t with
      | true => exact kk ws H locs ls _ _ ⟨hh, hl, h2, hls, hP, hK, hD, hS⟩
      | false => exact absurd (e2.mp hc) (Int.not_lt.mpr hbr)
    · cases t with
      | true => exact absurd (e2.mpr hbr) hc
      | false => exact kk ws H locs ls _ _ ⟨hh, hl, h2, hls, hP, hK, hD, hS⟩
  | ge =>
    refine lv_if_ge hx hb hdg ht (fun hc => ?_) (fun hc => ?_)
    · cases t with
      | true => exact kk ws H locs ls _ _ ⟨hh, hl, h2, hls, hP, hK, hD, hS⟩
      | false => exact absurd (e5.mp hc) (Int.not_le.mpr hbr)
    · cases t with
      | true => exact absurd (e5.mpr hbr) hc
      | false => exact kk ws H locs ls _ _ ⟨hh, hl, h2, hls, hP, hK, hD, hS⟩
  | gt =>
    refine lv_if_gt hx hb hdg ht (fun hc => ?_) (fun hc => ?_)
    · cases t with
      | true => exact kk ws H locs ls _ _ ⟨hh, hl, h2, hls, hP, hK, hD, hS⟩
      | false => exact absurd (e4.mp hc) (Int.not_lt.mpr hbr)
    · cases t with
      | true => exact absurd (e4.mpr hbr) hc
      | false => exact kk ws H locs ls _ _ ⟨hh, hl, h2, hls, hP, hK, hD, hS⟩
  | le =>
    refine lv_if_le hx hb hdg ht (fun hc => ?_) (fun hc => ?_)
    · cases t with
      | true => exact kk ws H locs ls _ _ ⟨hh, hl, h2, hls, hP, hK, hD, hS⟩
      | false => exact absurd (e3.mp hc) (Int.not_le.mpr hbr)
    · cases t with
      | true => exact absurd (e3.mpr hbr) hc
      | false => exact kk ws H locs ls _ _ ⟨hh, hl, h2, hls, hP, hK, hD, hS⟩

set_option maxHeartbeats 4000000 in
set_option maxRecDepth 100000 in
theorem gx_st_icmp {q : ClassFile.Cond} {off : Int} {nx r1 r2 r3 : Nat} (C : y_ctx κ true p R s m args meth c cc own yn nL A) (hok : y_okop nL own yn cc (pc, (.if_icmp q off, nx, r1, r2, r3)) = true) (hs : gx_st1 κ sh t pc (.if_icmp q off, nx, r1, r2, r3) lo st M = some (P, S')) (hP0 : ∀ q, P = some q → q) (hk : k ≤ R.cells) (hn : n ≤ R.slots) (Z : gx_Z κ D A s nL α tys ws H locs ls lv sv sh lo st M)
    (kk : ∀ ws' H' locs' ls' lv' sv', gx_Z κ D A s nL α tys ws' H' locs' ls' lv' sv' sh S'.2.1 S'.2.2.1 S'.2.2.2 → W p l e R s m args below meth c H' locs' k n Q (F0 m S'.1 ls' sv')) : W p l e R s m args below meth c H locs k n Q (F0 m pc ls sv) := by
  obtain ⟨hx, hb, hml, hown, hts, hyn, hAO, hA, hRf, hRl, hsc⟩ := C
  obtain ⟨hh, hl, hst, hls, hP, hK, hD, hS⟩ := Z
  unfold y_okop y_okin at hok
  simp only [Bool.and_eq_true, decide_eq_true_eq] at hok
  obtain ⟨hdg, hok⟩ := hok
  unfold gx_st1 at hs
  dsimp only at hs
  obtain ⟨rfl, ht⟩ := hok
  rw [Nat.add_sub_cancel_left] at hdg
  rcases st with _ | ⟨b | b, _ | ⟨a | a, r⟩⟩ <;> try (cases hs; done)
  cases hs
  generalize Nat.beq t 1 = t at hP0 kk
  obtain ⟨hr1, hr2, hbr⟩ := hP0 _ rfl
  obtain ⟨ys, rfl, h1⟩ := gx_ds_ci hst
  obtain ⟨zs, rfl, h2⟩ := gx_ds_ci h1
  have e1 : gx_i a = gx_i b ↔ a = b := by rw [← Int32.toInt_inj, gx_toInt hr1, gx_toInt hr2]
  have e2 : gx_i a < gx_i b ↔ a < b := by rw [Int32.lt_iff_toInt_lt, gx_toInt hr1, gx_toInt hr2]
  have e3 : gx_i a ≤ gx_i b ↔ a ≤ b := by rw [Int32.le_iff_toInt_le, gx_toInt hr1, gx_toInt hr2]
  have e4 : gx_i b < gx_i a ↔ b < a := by rw [Int32.lt_iff_toInt_lt, gx_toInt hr1, gx_toInt hr2]
  have e5 : gx_i b ≤ gx_i a ↔ b ≤ a := by rw [Int32.le_iff_toInt_le, gx_toInt hr1, gx_toInt hr2]
  cases q with
  | eq =>
    refine lv_icmp_eq hx hb hdg ht (fun hc => ?_) (fun hc => ?_)
    · cases t with
      | true => exact kk ws H locs ls _ _ ⟨hh, hl, h2, hls, hP, hK, hD, hS⟩
      | false => exact absurd (e1.mp hc) hbr
    · cases t with
      | true => exact absurd (e1.mpr hbr) hc
      | false => exact kk ws H locs ls _ _ ⟨hh, hl, h2, hls, hP, hK, hD, hS⟩
  | ne =>
    refine lv_icmp_ne hx hb hdg ht (fun hc => ?_) (fun hc => ?_)
    · cases t with
      | true => exact kk ws H locs ls _ _ ⟨hh, hl, h2, hls, hP, hK, hD, hS⟩
      | false => exact absurd (e1.mpr hbr) hc
    · cases t with
      | true => exact absurd (e1.mp hc) hbr
      | false => exact kk ws H locs ls _ _ ⟨hh, hl, h2, hls, hP, hK, hD, hS⟩
  | lt =>
    refine lv_icmp_lt hx hb hdg ht (fun hc => ?_) (fun hc => ?_)
    · cases t with
      | true => exact kk ws H locs ls _ _ ⟨hh, hl, h2, hls, hP, hK, hD, hS⟩
      | false => exact absurd (e2.mp hc) (Int.not_lt.mpr hbr)
    · cases t with
      | true => exact absurd (e2.mpr hbr) hc
      | false => exact kk ws H locs ls _ _ ⟨hh, hl, h2, hls, hP, hK, hD, hS⟩
  | ge =>
    refine lv_icmp_ge hx hb hdg ht (fun hc => ?_) (fun hc => ?_)
    · cases t with
      | true => exact kk ws H locs ls _ _ ⟨hh, hl, h2, hls, hP, hK, hD, hS⟩
      | false => exact absurd (e5.mp hc) (Int.not_le.mpr hbr)
    · cases t with
      | true => exact absurd (e5.mpr hbr) hc
      | false => exact kk ws H locs ls _ _ ⟨hh, hl, h2, hls, hP, hK, hD, hS⟩
  | gt =>
    refine lv_icmp_gt hx hb hdg ht (fun hc => ?_) (fun hc => ?_)
    · cases t with
      | true => exact kk ws H locs ls _ _ ⟨hh, hl, h2, hls, hP, hK, hD, hS⟩
      | false => exact absurd (e4.mp hc) (Int.not_lt.mpr hbr)
    · cases t with
      | true => exact absurd (e4.mpr hbr) hc
      | false => exact kk ws H locs ls _ _ ⟨hh, hl, h2, hls, hP, hK, hD, hS⟩
  | le =>
    refine lv_icmp_le hx hb hdg ht (fun hc => ?_) (fun hc => ?_)
    · cases t with
      | true => exact kk ws H locs ls _ _ ⟨hh, hl, h2, hls, hP, hK, hD, hS⟩
      | false => exact absurd (e3.mp hc) (Int.not_le.mpr hbr)
    · cases t with
      | true => exact absurd (e3.mpr hbr) hc
      | false => exact kk ws H locs ls _ _ ⟨hh, hl, h2, hls, hP, hK, hD, hS⟩

set_option maxHeartbeats 4000000 in
set_option maxRecDepth 100000 in
theorem gx_st_tsw {d lo1 hi : Int} {offs : Array Int} {nx r1 r2 r3 : Nat} (C : y_ctx κ true p R s m args meth c cc own yn nL A) (hok : y_okop nL own yn cc (pc, (.tableswitch d lo1 hi offs, nx, r1, r2, r3)) = true) (hs : gx_st1 κ sh t pc (.tableswitch d lo1 hi offs, nx, r1, r2, r3) lo st M = some (P, S')) (hP0 : ∀ q, P = some q → q) (hk : k ≤ R.cells) (hn : n ≤ R.slots) (Z : gx_Z κ D A s nL α tys ws H locs ls lv sv sh lo st M)
    (kk : ∀ ws' H' locs' ls' lv' sv', gx_Z κ D A s nL α tys ws' H' locs' ls' lv' sv' sh S'.2.1 S'.2.2.1 S'.2.2.2 → W p l e R s m args below meth c H' locs' k n Q (F0 m S'.1 ls' sv')) : W p l e R s m args below meth c H locs k n Q (F0 m pc ls sv) := by
  obtain ⟨hx, hb, hml, hown, hts, hyn, hAO, hA, hRf, hRl, hsc⟩ := C
  obtain ⟨hh, hl, hst, hls, hP, hK, hD, hS⟩ := Z
  unfold y_okop y_okin at hok
  simp only [Bool.and_eq_true, decide_eq_true_eq] at hok
  obtain ⟨hdg, hok⟩ := hok
  unfold gx_st1 at hs
  dsimp only at hs
  rcases st with _ | ⟨a | a, r⟩ <;> try (cases hs; done)
  obtain ⟨q, hq, h9⟩ := Option.map_eq_some_iff.mp hs
  cases h9
  have hr := gx_toInt (hP0 _ rfl)
  obtain ⟨ys, rfl, h2⟩ := gx_ds_ci hst
  unfold gx_sw at hq
  split at hq
  · next hc => exact lv_tableOut hx hb hdg (by rw [hr]; exact hc) (y_off_ok hq) (kk ws H locs ls _ _ ⟨hh, hl, h2, hls, hP, hK, hD, hS⟩)
  · next hc =>
    split at hq
    · next o ho =>
      exact lv_tableIn hx hb hdg (fun z => hc (Or.inl (by rw [hr] at z; exact z))) (fun z => hc (Or.inr (by rw [hr] at z; exact z))) (by rw [hr]; exact ho) (y_off_ok hq) (kk ws H locs ls _ _ ⟨hh, hl, h2, hls, hP, hK, hD, hS⟩)
    · cases hq

set_option maxHeartbeats 4000000 in
set_option maxRecDepth 100000 in
theorem gx_st_lsw {d : Int} {ps : Array (Int × Int)} {nx r1 r2 r3 : Nat} (C : y_ctx κ true p R s m args meth c cc own yn nL A) (hok : y_okop nL own yn cc (pc, (.lookupswitch d ps, nx, r1, r2, r3)) = true) (hs : gx_st1 κ sh t pc (.lookupswitch d ps, nx, r1, r2, r3) lo st M = some (P, S')) (hP0 : ∀ q, P = some q → q) (hk : k ≤ R.cells) (hn : n ≤ R.slots) (Z : gx_Z κ D A s nL α tys ws H locs ls lv sv sh lo st M)
    (kk : ∀ ws' H' locs' ls' lv' sv', gx_Z κ D A s nL α tys ws' H' locs' ls' lv' sv' sh S'.2.1 S'.2.2.1 S'.2.2.2 → W p l e R s m args below meth c H' locs' k n Q (F0 m S'.1 ls' sv')) : W p l e R s m args below meth c H locs k n Q (F0 m pc ls sv) := by
  obtain ⟨hx, hb, hml, hown, hts, hyn, hAO, hA, hRf, hRl, hsc⟩ := C
  obtain ⟨hh, hl, hst, hls, hP, hK, hD, hS⟩ := Z
  unfold y_okop y_okin at hok
  simp only [Bool.and_eq_true, decide_eq_true_eq] at hok
  obtain ⟨hdg, hok⟩ := hok
  unfold gx_st1 at hs
  dsimp only at hs
  rcases st with _ | ⟨a | a, r⟩ <;> try (cases hs; done)
  obtain ⟨q, hq, h9⟩ := Option.map_eq_some_iff.mp hs
  cases h9
  have hr := gx_toInt (hP0 _ rfl)
  obtain ⟨ys, rfl, h2⟩ := gx_ds_ci hst
  exact lv_lookup hx hb hdg hok (by rw [hr]) (y_off_ok hq) (kk ws H locs ls _ _ ⟨hh, hl, h2, hls, hP, hK, hD, hS⟩)

set_option maxHeartbeats 4000000 in
set_option maxRecDepth 100000 in
theorem gx_st_getf {i : Nat} {nx r1 r2 r3 : Nat} (C : y_ctx κ true p R s m args meth c cc own yn nL A) (hok : y_okop nL own yn cc (pc, (.getfield i, nx, r1, r2, r3)) = true) (hs : gx_st1 κ sh t pc (.getfield i, nx, r1, r2, r3) lo st M = some (P, S')) (hP0 : ∀ q, P = some q → q) (hk : k ≤ R.cells) (hn : n ≤ R.slots) (Z : gx_Z κ D A s nL α tys ws H locs ls lv sv sh lo st M)
    (kk : ∀ ws' H' locs' ls' lv' sv', gx_Z κ D A s nL α tys ws' H' locs' ls' lv' sv' sh S'.2.1 S'.2.2.1 S'.2.2.2 → W p l e R s m args below meth c H' locs' k n Q (F0 m S'.1 ls' sv')) : W p l e R s m args below meth c H locs k n Q (F0 m pc ls sv) := by
  obtain ⟨hx, hb, hml, hown, hts, hyn, hAO, hA, hRf, hRl, hsc⟩ := C
  obtain ⟨hh, hl, hst, hls, hP, hK, hD, hS⟩ := Z
  unfold y_okop y_okin at hok
  simp only [Bool.and_eq_true, decide_eq_true_eq] at hok
  obtain ⟨hdg, hok⟩ := hok
  unfold gx_st1 at hs
  dsimp only at hs
  obtain ⟨rfl, hfl⟩ := hok
  rw [Nat.add_sub_cancel_left] at hdg
  rcases st with _ | ⟨a | a | _ | _ | j, r⟩ <;> try (cases hs; done)
  cases hg : gx_at sh j with
  | none => dsimp only at hs; rw [hg] at hs; cases hs
  | some c0 =>
    try dsimp only at hs
    rw [hg] at hs
    have hg0 := gx_at_ok hg
    rcases c0 with ⟨ci, fs⟩ | c0 <;> try (cases hs; done)
    try dsimp only at hs
    cases hc : Nat.beq ci r1 with
    | false => rw [hc] at hs; cases hs
    | true =>
      rw [hc] at hs
      cases hf : gx_fld fs r2 with
      | none => rw [hf] at hs; cases hs
      | some v =>
        rw [hf] at hs
        have e1 := y_beq.mp hc
        subst e1
        obtain ⟨b, ys, rfl, hb1, h2⟩ := gx_ds_cr hst
        obtain ⟨b', e', g1, g2, vs, g3, rfl⟩ := hh.2.2 j _ hg0
        have e2 : b' = b := Option.some.inj (g1.symm.trans hb1)
        subst e2
        obtain ⟨x, hx1, hx2⟩ := gx_fs_get fs 0 r2 vs v g3 hf
        unfold y_fl at hfl
        cases hr : vwCl[ci]? with
        | none => rw [hr] at hfl; cases hfl
        | some rr =>
          rw [hr] at hfl
          simp only [Bool.and_eq_true, decide_eq_true_eq] at hfl
          obtain ⟨C1, T1, N1⟩ := rr
          cases v with
          | none =>
            cases hs
            have e5 : x = .int (gx_i (M j ((0 + r2 : Nat) : Int))) := hx2
            rw [Nat.zero_add] at e5
            subst e5
            exact va_get hx hb hts (y_cls_ok hr).1 hown hK hP j g2 hr r2 hfl.1 (hts _ (yM_ok hfl.2)) (fun _ z => z) hx1 hdg (kk ws H locs ls _ _ ⟨hh, hl, gx_ds_i rfl h2, hls, hP, hK, hD, hS⟩)
          | some q =>
            cases hs
            obtain ⟨a2, ha2, rfl⟩ := hx2
            exact va_get hx hb hts (y_cls_ok hr).1 hown hK hP j g2 hr r2 hfl.1 (hts _ (yM_ok hfl.2)) (fun _ z => z) hx1 hdg (kk ws H locs ls _ _ ⟨hh, hl, gx_ds_r ha2 h2, hls, hP, hK, hD, hS⟩)

set_option maxHeartbeats 4000000 in
set_option maxRecDepth 100000 in
theorem gx_st_putf {i : Nat} {nx r1 r2 r3 : Nat} (C : y_ctx κ true p R s m args meth c cc own yn nL A) (hok : y_okop nL own yn cc (pc, (.putfield i, nx, r1, r2, r3)) = true) (hs : gx_st1 κ sh t pc (.putfield i, nx, r1, r2, r3) lo st M = some (P, S')) (hP0 : ∀ q, P = some q → q) (hk : k ≤ R.cells) (hn : n ≤ R.slots) (Z : gx_Z κ D A s nL α tys ws H locs ls lv sv sh lo st M)
    (kk : ∀ ws' H' locs' ls' lv' sv', gx_Z κ D A s nL α tys ws' H' locs' ls' lv' sv' sh S'.2.1 S'.2.2.1 S'.2.2.2 → W p l e R s m args below meth c H' locs' k n Q (F0 m S'.1 ls' sv')) : W p l e R s m args below meth c H locs k n Q (F0 m pc ls sv) := by
  obtain ⟨hx, hb, hml, hown, hts, hyn, hAO, hA, hRf, hRl, hsc⟩ := C
  obtain ⟨hh, hl, hst, hls, hP, hK, hD, hS⟩ := Z
  unfold y_okop y_okin at hok
  simp only [Bool.and_eq_true, decide_eq_true_eq] at hok
  obtain ⟨hdg, hok⟩ := hok
  unfold gx_st1 at hs
  dsimp only at hs
  obtain ⟨rfl, hfl, hpf⟩ := hok
  rw [Nat.add_sub_cancel_left] at hdg
  rcases st with _ | ⟨v | v, _ | ⟨a | a | _ | _ | j, r⟩⟩ <;> try (cases hs; done)
  cases hg : gx_at sh j with
  | none => dsimp only at hs; rw [hg] at hs; cases hs
  | some c0 =>
    try dsimp only at hs
    rw [hg] at hs
    have hg0 := gx_at_ok hg
    rcases c0 with ⟨ci, fs⟩ | c0 <;> try (cases hs; done)
    try dsimp only at hs
    cases hc : Nat.beq ci r1 with
    | false => rw [hc] at hs; cases hs
    | true =>
      rw [hc] at hs
      cases hf : gx_fld fs r2 with
      | none => rw [hf] at hs; cases hs
      | some v0 =>
      rw [hf] at hs
      cases v0 with
      | some q => cases hs
      | none =>
        cases hs
        have e1 := y_beq.mp hc
        subst e1
        obtain ⟨ys0, rfl, h1⟩ := gx_ds_ci hst
        obtain ⟨b, ys, rfl, hb1, h2⟩ := gx_ds_cr h1
        obtain ⟨b', e', g1, g2, vs, g3, rfl⟩ := hh.2.2 j _ hg0
        have e2 : b' = b := Option.some.inj (g1.symm.trans hb1)
        subst e2
        obtain ⟨x, hx1, hx2⟩ := gx_fs_get fs 0 r2 vs _ g3 hf
        unfold y_fl at hfl
        unfold y_pf at hpf
        cases hr : vwCl[ci]? with
        | none => rw [hr] at hfl; cases hfl
        | some rr =>
          rw [hr] at hfl hpf
          simp only [Bool.and_eq_true, decide_eq_true_eq, Bool.or_eq_true, Bool.not_eq_true'] at hfl hpf
          obtain ⟨C1, T1, N1⟩ := rr
          obtain ⟨k1, k2, k3⟩ := y_cls_ok hr
          have hty := k2 r2 hfl.1
          have hpk := hpf.1
          rw [hty] at hpk
          have hnf : narrow ((parseFieldDescriptor (T1 r2).2.2.1).getD .int) (.int (gx_i v)) = .int (gx_i v) ∧ fits ((parseFieldDescriptor (T1 r2).2.2.1).getD .int) (.int (gx_i v)) = true := by
            generalize (parseFieldDescriptor (T1 r2).2.2.1).getD .int = ty at hpk
            cases ty with
            | int => exact ⟨rfl, rfl⟩
            | boolean =>
              have e3 := y_beq.mp hpk
              subst e3
              exact gx_bool_fit (hP0 _ rfl).2
            | object C =>
              have e3 := y_beq.mp hpk
              subst e3
              exact absurd (hP0 _ rfl).1 (by omega)
            | array C =>
              have e3 := y_beq.mp hpk
              subst e3
              exact absurd (hP0 _ rfl).1 (by omega)
            | byte => cases hpk
            | char => cases hpk
            | double => cases hpk
            | float => cases hpk
            | long => cases hpk
            | short => cases hpk
          have hlen : r2 < vs.length := (List.getElem?_eq_some_iff.mp hx1).1
          have hc0 : gx_c κ α tys (.inl (ci, fs)) (gx_up M j (r2 : Int) v j) (.inr (ci, vs.set r2 (.int (gx_i v)))) := by
            refine ⟨vs.set r2 (.int (gx_i v)), ?_, rfl⟩
            rw [gx_up_eq]
            have h7 := gx_fs_set (v := v) fs 0 r2 vs g3 hf
            rw [Nat.zero_add] at h7
            exact h7
          have hnew := gx_h_set hh hg0 g1 (fun c' hc' => gx_up_ne (M := M) (i := (r2 : Int)) (v := v) hc') hc0
          cases hfin : (T1 r2).2.2.2 with
          | false =>
            exact va_put hx hb hts k1 _ k2 k3 hown hK hP hD hS j g2 hr r2 hfl.1 (hts _ (yM_ok hfl.2)) (fun _ z => z) hfin hty hnf.1 hnf.2 hlen hdg (fun H1 locs1 hP1 hD1 hS1 => kk _ H1 locs1 ls lv _ ⟨hnew, hl, h2, hls, hP1, hK, hD1, hS1⟩)
          | true =>
            rcases hpf.2 with hf2 | hf2
            · rw [hfin] at hf2; cases hf2
            · exact va_putF hx hb hts k1 _ k2 k3 hown hK hP hD hS j g2 hr r2 hfl.1 (hts _ (yM_ok hfl.2)) (fun _ z => z) hfin (hyn hf2.1) hf2.2 hty hnf.1 hnf.2 hlen hdg (fun H1 locs1 hP1 hD1 hS1 => kk _ H1 locs1 ls lv _ ⟨hnew, hl, h2, hls, hP1, hK, hD1, hS1⟩)

set_option maxHeartbeats 4000000 in
set_option maxRecDepth 100000 in
theorem gx_st_iald {nx r1 r2 r3 : Nat} (C : y_ctx κ true p R s m args meth c cc own yn nL A) (hok : y_okop nL own yn cc (pc, (.iaload, nx, r1, r2, r3)) = true) (hs : gx_st1 κ sh t pc (.iaload, nx, r1, r2, r3) lo st M = some (P, S')) (hP0 : ∀ q, P = some q → q) (hk : k ≤ R.cells) (hn : n ≤ R.slots) (Z : gx_Z κ D A s nL α tys ws H locs ls lv sv sh lo st M)
    (kk : ∀ ws' H' locs' ls' lv' sv', gx_Z κ D A s nL α tys ws' H' locs' ls' lv' sv' sh S'.2.1 S'.2.2.1 S'.2.2.2 → W p l e R s m args below meth c H' locs' k n Q (F0 m S'.1 ls' sv')) : W p l e R s m args below meth c H locs k n Q (F0 m pc ls sv) := by
  obtain ⟨hx, hb, hml, hown, hts, hyn, hAO, hA, hRf, hRl, hsc⟩ := C
  obtain ⟨hh, hl, hst, hls, hP, hK, hD, hS⟩ := Z
  unfold y_okop y_okin at hok
  simp only [Bool.and_eq_true, decide_eq_true_eq] at hok
  obtain ⟨hdg, hok⟩ := hok
  unfold gx_st1 at hs
  dsimp only at hs
  obtain rfl := hok
  rw [Nat.add_sub_cancel_left] at hdg
  rcases st with _ | ⟨x0 | x0, _ | ⟨a | a | _ | _ | j, r⟩⟩ <;> try (cases hs; done)
  · cases hs
    obtain ⟨hj0, hjL, hj2⟩ := hP0 _ rfl
    obtain ⟨hX, hbl, hbA⟩ := hsc rfl
    obtain ⟨ys, rfl, h1⟩ := gx_ds_ci hst
    obtain ⟨b, zs, rfl, hb1, h2⟩ := gx_ds_cr h1
    cases hb1
    obtain ⟨q1, q2, q3, q4⟩ := gx_idx ⟨hj0, hjL⟩ hj2
    exact va_sld hx hb hX hbl hbA hS q1 hdg (kk ws H locs ls _ _ ⟨hh, hl, gx_ds_i (by rw [q2]; exact gx_i_of _) h2, hls, hP, hK, hD, hS⟩)
  · cases hg : gx_at sh j with
    | none => dsimp only at hs; rw [hg] at hs; cases hs
    | some c0 =>
      try dsimp only at hs
      rw [hg] at hs
      have hg0 := gx_at_ok hg
      rcases c0 with ⟨ci, fs⟩ | ⟨_ | kd, len⟩ | c0 <;> try (cases hs; done)
      replace hs : (bif Nat.ble len 1000000 then some (some (0 ≤ x0 ∧ x0 < (len : Int)), pc + 1, lo, gI (M j x0) :: r, M) else none) = some (P, S') := hs
      cases hc : Nat.ble len 1000000 with
      | false => rw [hc] at hs; cases hs
      | true =>
      rw [hc] at hs
      cases hs
      have h3 := y_ble.mp hc
      have h4 := hP0 _ rfl
      obtain ⟨q1, q2, q3, q4⟩ := gx_idx h4 (by omega)
      obtain ⟨ys, rfl, h1⟩ := gx_ds_ci hst
      obtain ⟨b, zs, rfl, hb1, h2⟩ := gx_ds_cr h1
      obtain ⟨b', e', g1, g2, cA, t0, f, g3, g4, rfl⟩ := hh.2.2 j _ hg0
      have e2 : b' = b := Option.some.inj (g1.symm.trans hb1)
      subst e2
      exact va_iald hx hb hK hP j t0 g2 g3 q1 hdg (kk ws H locs ls _ _ ⟨hh, hl, gx_ds_i (by rw [q2, g4 _ q3, q4]) h2, hls, hP, hK, hD, hS⟩)

set_option maxHeartbeats 4000000 in
set_option maxRecDepth 100000 in
theorem gx_st_bald {nx r1 r2 r3 : Nat} (C : y_ctx κ true p R s m args meth c cc own yn nL A) (hok : y_okop nL own yn cc (pc, (.baload, nx, r1, r2, r3)) = true) (hs : gx_st1 κ sh t pc (.baload, nx, r1, r2, r3) lo st M = some (P, S')) (hP0 : ∀ q, P = some q → q) (hk : k ≤ R.cells) (hn : n ≤ R.slots) (Z : gx_Z κ D A s nL α tys ws H locs ls lv sv sh lo st M)
    (kk : ∀ ws' H' locs' ls' lv' sv', gx_Z κ D A s nL α tys ws' H' locs' ls' lv' sv' sh S'.2.1 S'.2.2.1 S'.2.2.2 → W p l e R s m args below meth c H' locs' k n Q (F0 m S'.1 ls' sv')) : W p l e R s m args below meth c H locs k n Q (F0 m pc ls sv) := by
  obtain ⟨hx, hb, hml, hown, hts, hyn, hAO, hA, hRf, hRl, hsc⟩ := C
  obtain ⟨hh, hl, hst, hls, hP, hK, hD, hS⟩ := Z
  unfold y_okop y_okin at hok
  simp only [Bool.and_eq_true, decide_eq_true_eq] at hok
  obtain ⟨hdg, hok⟩ := hok
  unfold gx_st1 at hs
  dsimp only at hs
  obtain rfl := hok
  rw [Nat.add_sub_cancel_left] at hdg
  rcases st with _ | ⟨x0 | x0, _ | ⟨a | a | _ | _ | j, r⟩⟩ <;> try (cases hs; done)
  cases hg : gx_at sh j with
  | none => dsimp only at hs; rw [hg] at hs; cases hs
  | some c0 =>
    try dsimp only at hs
    rw [hg] at hs
    have hg0 := gx_at_ok hg
    rcases c0 with ⟨ci, fs⟩ | ⟨_ | _ | kd, len⟩ | c0 <;> try (cases hs; done)
    replace hs : (bif Nat.ble len 1000000 then some (some (0 ≤ x0 ∧ x0 < (len : Int)), pc + 1, lo, gI (M j x0) :: r, M) else none) = some (P, S') := hs
    cases hc : Nat.ble len 1000000 with
    | false => rw [hc] at hs; cases hs
    | true =>
    rw [hc] at hs
    cases hs
    have h3 := y_ble.mp hc
    have h4 := hP0 _ rfl
    obtain ⟨q1, q2, q3, q4⟩ := gx_idx h4 (by omega)
    obtain ⟨ys, rfl, h1⟩ := gx_ds_ci hst
    obtain ⟨b, zs, rfl, hb1, h2⟩ := gx_ds_cr h1
    obtain ⟨b', e', g1, g2, cA, t0, f, g3, g4, rfl⟩ := hh.2.2 j _ hg0
    have e2 : b' = b := Option.some.inj (g1.symm.trans hb1)
    subst e2
    exact va_zald hx hb hK hP j t0 g2 g3 q1 hdg (kk ws H locs ls _ _ ⟨hh, hl, gx_ds_i (by rw [q2, g4 _ q3, q4]) h2, hls, hP, hK, hD, hS⟩)

set_option maxHeartbeats 4000000 in
set_option maxRecDepth 100000 in
theorem gx_st_lald {nx r1 r2 r3 : Nat} (C : y_ctx κ true p R s m args meth c cc own yn nL A) (hok : y_okop nL own yn cc (pc, (.laload, nx, r1, r2, r3)) = true) (hs : gx_st1 κ sh t pc (.laload, nx, r1, r2, r3) lo st M = some (P, S')) (hP0 : ∀ q, P = some q → q) (hk : k ≤ R.cells) (hn : n ≤ R.slots) (Z : gx_Z κ D A s nL α tys ws H locs ls lv sv sh lo st M)
    (kk : ∀ ws' H' locs' ls' lv' sv', gx_Z κ D A s nL α tys ws' H' locs' ls' lv' sv' sh S'.2.1 S'.2.2.1 S'.2.2.2 → W p l e R s m args below meth c H' locs' k n Q (F0 m S'.1 ls' sv')) : W p l e R s m args below meth c H locs k n Q (F0 m pc ls sv) := by
  obtain ⟨hx, hb, hml, hown, hts, hyn, hAO, hA, hRf, hRl, hsc⟩ := C
  obtain ⟨hh, hl, hst, hls, hP, hK, hD, hS⟩ := Z
  unfold y_okop y_okin at hok
  simp only [Bool.and_eq_true, decide_eq_true_eq] at hok
  obtain ⟨hdg, hok⟩ := hok
  unfold gx_st1 at hs
  dsimp only at hs
  obtain rfl := hok
  rw [Nat.add_sub_cancel_left] at hdg
  rcases st with _ | ⟨x0 | x0, _ | ⟨a | a | _ | _ | j, r⟩⟩ <;> try (cases hs; done)
  cases hg : gx_at sh j with
  | none => dsimp only at hs; rw [hg] at hs; cases hs
  | some c0 =>
    try dsimp only at hs
    rw [hg] at hs
    have hg0 := gx_at_ok hg
    rcases c0 with ⟨ci, fs⟩ | ⟨_ | _ | _ | _ | kd, len⟩ | c0 <;> try (cases hs; done)
    replace hs : (bif Nat.ble len 1000000 then some (some (0 ≤ x0 ∧ x0 < (len : Int)), pc + 1, lo, gJ (M j x0) :: r, M) else none) = some (P, S') := hs
    cases hc : Nat.ble len 1000000 with
    | false => rw [hc] at hs; cases hs
    | true =>
    rw [hc] at hs
    cases hs
    have h3 := y_ble.mp hc
    have h4 := hP0 _ rfl
    obtain ⟨q1, q2, q3, q4⟩ := gx_idx h4 (by omega)
    obtain ⟨ys, rfl, h1⟩ := gx_ds_ci hst
    obtain ⟨b, zs, rfl, hb1, h2⟩ := gx_ds_cr h1
    obtain ⟨b', e', g1, g2, cA, t0, f, g3, g4, rfl⟩ := hh.2.2 j _ hg0
    have e2 : b' = b := Option.some.inj (g1.symm.trans hb1)
    subst e2
    exact va_lald hx hb hK hP j t0 g2 g3 q1 hdg (kk ws H locs ls _ _ ⟨hh, hl, gx_ds_l (by rw [q2, g4 _ q3, q4]) h2, hls, hP, hK, hD, hS⟩)

set_option maxHeartbeats 4000000 in
set_option maxRecDepth 100000 in
theorem gx_st_aald {nx r1 r2 r3 : Nat} (C : y_ctx κ true p R s m args meth c cc own yn nL A) (hok : y_okop nL own yn cc (pc, (.aaload, nx, r1, r2, r3)) = true) (hs : gx_st1 κ sh t pc (.aaload, nx, r1, r2, r3) lo st M = some (P, S')) (hP0 : ∀ q, P = some q → q) (hk : k ≤ R.cells) (hn : n ≤ R.slots) (Z : gx_Z κ D A s nL α tys ws H locs ls lv sv sh lo st M)
    (kk : ∀ ws' H' locs' ls' lv' sv', gx_Z κ D A s nL α tys ws' H' locs' ls' lv' sv' sh S'.2.1 S'.2.2.1 S'.2.2.2 → W p l e R s m args below meth c H' locs' k n Q (F0 m S'.1 ls' sv')) : W p l e R s m args below meth c H locs k n Q (F0 m pc ls sv) := by
  obtain ⟨hx, hb, hml, hown, hts, hyn, hAO, hA, hRf, hRl, hsc⟩ := C
  obtain ⟨hh, hl, hst, hls, hP, hK, hD, hS⟩ := Z
  unfold y_okop y_okin at hok
  simp only [Bool.and_eq_true, decide_eq_true_eq] at hok
  obtain ⟨hdg, hok⟩ := hok
  unfold gx_st1 at hs
  dsimp only at hs
  obtain rfl := hok
  rw [Nat.add_sub_cancel_left] at hdg
  rcases st with _ | ⟨x0 | x0, _ | ⟨a | a | _ | _ | j, r⟩⟩ <;> try (cases hs; done)
  cases hg : gx_at sh j with
  | none => dsimp only at hs; rw [hg] at hs; cases hs
  | some c0 =>
    try dsimp only at hs
    rw [hg] at hs
    have hg0 := gx_at_ok hg
    rcases c0 with ⟨ci, fs⟩ | ⟨kd, len⟩ | ⟨ci, rs⟩ <;> try (cases hs; done)
    try dsimp only at hs
    cases hc : Nat.ble rs.length 1000000 with
    | false => rw [hc] at hs; cases hs
    | true =>
    rw [hc] at hs
    cases hr : gx_rf rs t with
    | none => rw [hr] at hs; cases hs
    | some q =>
    rw [hr] at hs
    cases hs
    have h3 := y_ble.mp hc
    have hr0 := gx_rf_ok hr
    have h4 : t < rs.length := (List.getElem?_eq_some_iff.mp hr0).1
    have e8 : x0 = (t : Int) := hP0 _ rfl
    subst e8
    have e9 : gx_i (t : Int) = nI t := gx_nat t
    obtain ⟨ys, rfl, h1⟩ := gx_ds_ci hst
    obtain ⟨b, zs, rfl, hb1, h2⟩ := gx_ds_cr h1
    obtain ⟨b', e', g1, g2, cA, t0, rr, f, g0, g3, g4, rfl⟩ := hh.2.2 j _ hg0
    have e2 : b' = b := Option.some.inj (g1.symm.trans hb1)
    subst e2
    obtain ⟨a2, g5, g6⟩ := g4 t q hr0
    rw [e9]
    refine va_aldq hx hb hK hP j t0 g2 g3 (y_in h4 (by omega)) hdg (kk ws H locs ls lv _ ⟨hh, hl, ?_, hls, hP, hK, hD, hS⟩)
    rw [nI_clamp (by omega), g6]
    exact gx_ds_r g5 h2

set_option maxHeartbeats 4000000 in
set_option maxRecDepth 100000 in
theorem gx_st_iast {nx r1 r2 r3 : Nat} (C : y_ctx κ true p R s m args meth c cc own yn nL A) (hok : y_okop nL own yn cc (pc, (.iastore, nx, r1, r2, r3)) = true) (hs : gx_st1 κ sh t pc (.iastore, nx, r1, r2, r3) lo st M = some (P, S')) (hP0 : ∀ q, P = some q → q) (hk : k ≤ R.cells) (hn : n ≤ R.slots) (Z : gx_Z κ D A s nL α tys ws H locs ls lv sv sh lo st M)
    (kk : ∀ ws' H' locs' ls' lv' sv', gx_Z κ D A s nL α tys ws' H' locs' ls' lv' sv' sh S'.2.1 S'.2.2.1 S'.2.2.2 → W p l e R s m args below meth c H' locs' k n Q (F0 m S'.1 ls' sv')) : W p l e R s m args below meth c H locs k n Q (F0 m pc ls sv) := by
  obtain ⟨hx, hb, hml, hown, hts, hyn, hAO, hA, hRf, hRl, hsc⟩ := C
  obtain ⟨hh, hl, hst, hls, hP, hK, hD, hS⟩ := Z
  unfold y_okop y_okin at hok
  simp only [Bool.and_eq_true, decide_eq_true_eq] at hok
  obtain ⟨hdg, hok⟩ := hok
  unfold gx_st1 at hs
  dsimp only at hs
  obtain rfl := hok
  rw [Nat.add_sub_cancel_left] at hdg
  rcases st with _ | ⟨v | v, _ | ⟨x0 | x0, _ | ⟨a | a | _ | _ | j, r⟩⟩⟩ <;> try (cases hs; done)
  cases hg : gx_at sh j with
  | none => dsimp only at hs; rw [hg] at hs; cases hs
  | some c0 =>
    try dsimp only at hs
    rw [hg] at hs
    have hg0 := gx_at_ok hg
    rcases c0 with ⟨ci, fs⟩ | ⟨_ | kd, len⟩ | c0 <;> try (cases hs; done)
    replace hs : (bif Nat.ble len 1000000 then some (some (0 ≤ x0 ∧ x0 < (len : Int)), pc + 1, lo, r, gx_up M j x0 v) else none) = some (P, S') := hs
    cases hc : Nat.ble len 1000000 with
    | false => rw [hc] at hs; cases hs
    | true =>
    rw [hc] at hs
    cases hs
    have h3 := y_ble.mp hc
    have h4 := hP0 _ rfl
    obtain ⟨q1, q2, q3, q4⟩ := gx_idx h4 (by omega)
    obtain ⟨xs, rfl, h0⟩ := gx_ds_ci hst
    obtain ⟨ys, rfl, h1⟩ := gx_ds_ci h0
    obtain ⟨b, zs, rfl, hb1, h2⟩ := gx_ds_cr h1
    obtain ⟨b', e', g1, g2, cA, t0, f, g3, g4, rfl⟩ := hh.2.2 j _ hg0
    have e2 : b' = b := Option.some.inj (g1.symm.trans hb1)
    subst e2
    refine va_iast hx hb hK hP hD hS j t0 g2 g3 q1 hdg (fun H1 locs1 hP1 hD1 hS1 => ?_)
    rw [q2] at hP1 hD1
    refine kk _ H1 locs1 ls lv _ ⟨gx_h_set hh hg0 g1 (fun c' hc' => gx_up_ne (M := M) (i := x0) (v := v) hc') ⟨cA, t0, _, g3, fun i hi => ?_, rfl⟩, hl, h2, hls, hP1, hK, hD1, hS1⟩
    dsimp only
    rw [gx_up_eq]
    dsimp only
    by_cases hq : i = x0.toNat
    · subst hq
      rw [if_pos q4, pk_us]
    · rw [if_neg (fun z => hq (by omega)), pk_un hq]
      exact g4 i hi

set_option maxHeartbeats 4000000 in
set_option maxRecDepth 100000 in
theorem gx_st_bast {nx r1 r2 r3 : Nat} (C : y_ctx κ true p R s m args meth c cc own yn nL A) (hok : y_okop nL own yn cc (pc, (.bastore, nx, r1, r2, r3)) = true) (hs : gx_st1 κ sh t pc (.bastore, nx, r1, r2, r3) lo st M = some (P, S')) (hP0 : ∀ q, P = some q → q) (hk : k ≤ R.cells) (hn : n ≤ R.slots) (Z : gx_Z κ D A s nL α tys ws H locs ls lv sv sh lo st M)
    (kk : ∀ ws' H' locs' ls' lv' sv', gx_Z κ D A s nL α tys ws' H' locs' ls' lv' sv' sh S'.2.1 S'.2.2.1 S'.2.2.2 → W p l e R s m args below meth c H' locs' k n Q (F0 m S'.1 ls' sv')) : W p l e R s m args below meth c H locs k n Q (F0 m pc ls sv) := by
  obtain ⟨hx, hb, hml, hown, hts, hyn, hAO, hA, hRf, hRl, hsc⟩ := C
  obtain ⟨hh, hl, hst, hls, hP, hK, hD, hS⟩ := Z
  unfold y_okop y_okin at hok
  simp only [Bool.and_eq_true, decide_eq_true_eq] at hok
  obtain ⟨hdg, hok⟩ := hok
  unfold gx_st1 at hs
  dsimp only at hs
  obtain rfl := hok
  rw [Nat.add_sub_cancel_left] at hdg
  rcases st with _ | ⟨v | v, _ | ⟨x0 | x0, _ | ⟨a | a | _ | _ | j, r⟩⟩⟩ <;> try (cases hs; done)
  cases hg : gx_at sh j with
  | none => dsimp only at hs; rw [hg] at hs; cases hs
  | some c0 =>
    try dsimp only at hs
    rw [hg] at hs
    have hg0 := gx_at_ok hg
    rcases c0 with ⟨ci, fs⟩ | ⟨_ | _ | kd, len⟩ | c0 <;> try (cases hs; done)
    replace hs : (bif Nat.ble len 1000000 then some (some ((0 ≤ x0 ∧ x0 < (len : Int)) ∧ (v = 0 ∨ v = 1)), pc + 1, lo, r, gx_up M j x0 v) else none) = some (P, S') := hs
    cases hc : Nat.ble len 1000000 with
    | false => rw [hc] at hs; cases hs
    | true =>
    rw [hc] at hs
    cases hs
    have h3 := y_ble.mp hc
    have h4 := (hP0 _ rfl).1
    obtain ⟨q1, q2, q3, q4⟩ := gx_idx h4 (by omega)
    obtain ⟨xs, rfl, h0⟩ := gx_ds_ci hst
    obtain ⟨ys, rfl, h1⟩ := gx_ds_ci h0
    obtain ⟨b, zs, rfl, hb1, h2⟩ := gx_ds_cr h1
    obtain ⟨b', e', g1, g2, cA, t0, f, g3, g4, rfl⟩ := hh.2.2 j _ hg0
    have e2 : b' = b := Option.some.inj (g1.symm.trans hb1)
    subst e2
    refine va_zast hx hb hK hP hD hS j t0 g2 g3 q1 hdg (fun H1 locs1 hP1 hD1 hS1 => ?_)
    rw [q2, gx_bool_nar (hP0 _ rfl).2] at hP1 hD1
    refine kk _ H1 locs1 ls lv _ ⟨gx_h_set hh hg0 g1 (fun c' hc' => gx_up_ne (M := M) (i := x0) (v := v) hc') ⟨cA, t0, _, g3, fun i hi => ?_, rfl⟩, hl, h2, hls, hP1, hK, hD1, hS1⟩
    dsimp only
    rw [gx_up_eq]
    dsimp only
    by_cases hq : i = x0.toNat
    · subst hq
      rw [if_pos q4, pk_us]
    · rw [if_neg (fun z => hq (by omega)), pk_un hq]
      exact g4 i hi

set_option maxHeartbeats 4000000 in
set_option maxRecDepth 100000 in
theorem gx_st_last {nx r1 r2 r3 : Nat} (C : y_ctx κ true p R s m args meth c cc own yn nL A) (hok : y_okop nL own yn cc (pc, (.lastore, nx, r1, r2, r3)) = true) (hs : gx_st1 κ sh t pc (.lastore, nx, r1, r2, r3) lo st M = some (P, S')) (hP0 : ∀ q, P = some q → q) (hk : k ≤ R.cells) (hn : n ≤ R.slots) (Z : gx_Z κ D A s nL α tys ws H locs ls lv sv sh lo st M)
    (kk : ∀ ws' H' locs' ls' lv' sv', gx_Z κ D A s nL α tys ws' H' locs' ls' lv' sv' sh S'.2.1 S'.2.2.1 S'.2.2.2 → W p l e R s m args below meth c H' locs' k n Q (F0 m S'.1 ls' sv')) : W p l e R s m args below meth c H locs k n Q (F0 m pc ls sv) := by
  obtain ⟨hx, hb, hml, hown, hts, hyn, hAO, hA, hRf, hRl, hsc⟩ := C
  obtain ⟨hh, hl, hst, hls, hP, hK, hD, hS⟩ := Z
  unfold y_okop y_okin at hok
  simp only [Bool.and_eq_true, decide_eq_true_eq] at hok
  obtain ⟨hdg, hok⟩ := hok
  unfold gx_st1 at hs
  dsimp only at hs
  obtain rfl := hok
  rw [Nat.add_sub_cancel_left] at hdg
  rcases st with _ | ⟨v | v | v, _ | ⟨x0 | x0, _ | ⟨a | a | _ | _ | j, r⟩⟩⟩ <;> try (cases hs; done)
  cases hg : gx_at sh j with
  | none => dsimp only at hs; rw [hg] at hs; cases hs
  | some c0 =>
    try dsimp only at hs
    rw [hg] at hs
    have hg0 := gx_at_ok hg
    rcases c0 with ⟨ci, fs⟩ | ⟨_ | _ | _ | _ | kd, len⟩ | c0 <;> try (cases hs; done)
    replace hs : (bif Nat.ble len 1000000 then some (some (0 ≤ x0 ∧ x0 < (len : Int)), pc + 1, lo, r, gx_up M j x0 v) else none) = some (P, S') := hs
    cases hc : Nat.ble len 1000000 with
    | false => rw [hc] at hs; cases hs
    | true =>
    rw [hc] at hs
    cases hs
    have h3 := y_ble.mp hc
    have h4 := hP0 _ rfl
    obtain ⟨q1, q2, q3, q4⟩ := gx_idx h4 (by omega)
    obtain ⟨xs, rfl, h0⟩ := gx_ds_cl hst
    obtain ⟨ys, rfl, h1⟩ := gx_ds_ci h0
    obtain ⟨b, zs, rfl, hb1, h2⟩ := gx_ds_cr h1
    obtain ⟨b', e', g1, g2, cA, t0, f, g3, g4, rfl⟩ := hh.2.2 j _ hg0
    have e2 : b' = b := Option.some.inj (g1.symm.trans hb1)
    subst e2
    refine va_last hx hb hK hP hD hS j t0 g2 g3 q1 hdg (fun H1 locs1 hP1 hD1 hS1 => ?_)
    rw [q2] at hP1 hD1
    refine kk _ H1 locs1 ls lv _ ⟨gx_h_set hh hg0 g1 (fun c' hc' => gx_up_ne (M := M) (i := x0) (v := v) hc') ⟨cA, t0, _, g3, fun i hi => ?_, rfl⟩, hl, h2, hls, hP1, hK, hD1, hS1⟩
    dsimp only
    rw [gx_up_eq]
    dsimp only
    by_cases hq : i = x0.toNat
    · subst hq
      rw [if_pos q4, gx_usL]
    · rw [if_neg (fun z => hq (by omega)), gx_unL hq]
      exact g4 i hi

set_option maxHeartbeats 4000000 in
set_option maxRecDepth 100000 in
theorem gx_st_alen {nx r1 r2 r3 : Nat} (C : y_ctx κ true p R s m args meth c cc own yn nL A) (hok : y_okop nL own yn cc (pc, (.arraylength, nx, r1, r2, r3)) = true) (hs : gx_st1 κ sh t pc (.arraylength, nx, r1, r2, r3) lo st M = some (P, S')) (hP0 : ∀ q, P = some q → q) (hk : k ≤ R.cells) (hn : n ≤ R.slots) (Z : gx_Z κ D A s nL α tys ws H locs ls lv sv sh lo st M)
    (kk : ∀ ws' H' locs' ls' lv' sv', gx_Z κ D A s nL α tys ws' H' locs' ls' lv' sv' sh S'.2.1 S'.2.2.1 S'.2.2.2 → W p l e R s m args below meth c H' locs' k n Q (F0 m S'.1 ls' sv')) : W p l e R s m args below meth c H locs k n Q (F0 m pc ls sv) := by
  obtain ⟨hx, hb, hml, hown, hts, hyn, hAO, hA, hRf, hRl, hsc⟩ := C
  obtain ⟨hh, hl, hst, hls, hP, hK, hD, hS⟩ := Z
  unfold y_okop y_okin at hok
  simp only [Bool.and_eq_true, decide_eq_true_eq] at hok
  obtain ⟨hdg, hok⟩ := hok
  unfold gx_st1 at hs
  dsimp only at hs
  obtain rfl := hok
  rw [Nat.add_sub_cancel_left] at hdg
  rcases st with _ | ⟨a | a | _ | _ | j, r⟩ <;> try (cases hs; done)
  · cases hs
    obtain ⟨hX, hbl, hbA⟩ := hsc rfl
    obtain ⟨b, zs, rfl, hb1, h2⟩ := gx_ds_cr hst
    cases hb1
    exact va_slen hx hb hX hbl hbA hS hdg (kk ws H locs ls _ _ ⟨hh, hl, gx_ds_i (gx_nat _) h2, hls, hP, hK, hD, hS⟩)
  · cases hg : gx_at sh j with
    | none => dsimp only at hs; rw [hg] at hs; cases hs
    | some c0 =>
      try dsimp only at hs
      rw [hg] at hs
      have hg0 := gx_at_ok hg
      rcases c0 with ⟨ci, fs⟩ | ⟨_ | kd, len⟩ | c0 <;> try (cases hs; done)
      cases hs
      obtain ⟨b, zs, rfl, hb1, h2⟩ := gx_ds_cr hst
      obtain ⟨b', e', g1, g2, cA, t0, f, g3, g4, rfl⟩ := hh.2.2 j _ hg0
      have e2 : b' = b := Option.some.inj (g1.symm.trans hb1)
      subst e2
      exact va_alen hx hb hK hP j t0 g2 g3 rfl hdg (kk ws H locs ls _ _ ⟨hh, hl, gx_ds_i (gx_nat _) h2, hls, hP, hK, hD, hS⟩)

set_option maxHeartbeats 4000000 in
set_option maxRecDepth 100000 in
theorem gx_st_stat {i : Nat} {nx r1 r2 r3 : Nat} (C : y_ctx κ true p R s m args meth c cc own yn nL A) (hok : y_okop nL own yn cc (pc, (.invokestatic i, nx, r1, r2, r3)) = true) (hs : gx_st1 κ sh t pc (.invokestatic i, nx, r1, r2, r3) lo st M = some (P, S')) (hP0 : ∀ q, P = some q → q) (hk : k ≤ R.cells) (hn : n ≤ R.slots) (Z : gx_Z κ D A s nL α tys ws H locs ls lv sv sh lo st M)
    (kk : ∀ ws' H' locs' ls' lv' sv', gx_Z κ D A s nL α tys ws' H' locs' ls' lv' sv' sh S'.2.1 S'.2.2.1 S'.2.2.2 → W p l e R s m args below meth c H' locs' k n Q (F0 m S'.1 ls' sv')) : W p l e R s m args below meth c H locs k n Q (F0 m pc ls sv) := by
  obtain ⟨hx, hb, hml, hown, hts, hyn, hAO, hA, hRf, hRl, hsc⟩ := C
  obtain ⟨hh, hl, hst, hls, hP, hK, hD, hS⟩ := Z
  unfold y_okop y_okin at hok
  simp only [Bool.and_eq_true, decide_eq_true_eq] at hok
  obtain ⟨hdg, hok⟩ := hok
  unfold gx_st1 at hs
  dsimp only at hs
  obtain ⟨rfl, hoi, hmx, hmn⟩ := hok
  rw [Nat.add_sub_cancel_left] at hdg
  cases h98 : Nat.beq r3 98 with
  | true =>
    rw [h98] at hs
    simp only [cond_true] at hs
    rcases st with _ | ⟨k0 | k0, _ | ⟨dp | dp, _ | ⟨a | a | _ | _ | j, _ | ⟨sp | sp, _ | ⟨a2 | a2 | _ | _ | j0, r⟩⟩⟩⟩⟩ <;> try (cases hs; done)
    try dsimp only at hs
    cases hg0' : gx_at sh j0 with
    | none => rw [hg0'] at hs; cases hs
    | some c0 =>
    rw [hg0'] at hs
    rcases c0 with ⟨ci, fs⟩ | ⟨_ | kd, n0⟩ | c0 <;> try (cases hs; done)
    try dsimp only at hs
    cases hg' : gx_at sh j with
    | none => rw [hg'] at hs; cases hs
    | some c1 =>
    rw [hg'] at hs
    rcases c1 with ⟨ci, fs⟩ | ⟨_ | kd, n1⟩ | c1 <;> try (cases hs; done)
    replace hs : (bif Nat.ble (gx_cats r) 8 && (Nat.ble n0 1000000 && Nat.ble n1 1000000) then some (some ((0 ≤ sp ∧ 0 ≤ dp ∧ 0 ≤ k0) ∧ sp + k0 ≤ (n0 : Int) ∧ dp + k0 ≤ (n1 : Int)), pc + 3, lo, r, gx_cp M j0 j sp dp k0) else none) = some (P, S') := hs
    cases hc : (Nat.ble (gx_cats r) 8 && (Nat.ble n0 1000000 && Nat.ble n1 1000000)) with
    | false => rw [hc] at hs; cases hs
    | true =>
    rw [hc] at hs
    cases hs
    simp only [Bool.and_eq_true] at hc
    obtain ⟨c2, c3, c4⟩ := hc
    have c3 := y_ble.mp c3
    have c4 := y_ble.mp c4
    obtain ⟨⟨p1, p2, p3⟩, p4, p5⟩ := hP0 _ rfl
    have hg0 := gx_at_ok hg0'
    have hg := gx_at_ok hg'
    simp only [Bool.or_eq_true, Bool.not_eq_true', Bool.and_eq_true] at hoi
    obtain ⟨z1, rfl, h1⟩ := gx_ds_ci hst
    obtain ⟨z2, rfl, h2⟩ := gx_ds_ci h1
    obtain ⟨b, z3, rfl, hb1, h3⟩ := gx_ds_cr h2
    obtain ⟨z4, rfl, h4⟩ := gx_ds_ci h3
    obtain ⟨b0, z5, rfl, hb0, h5⟩ := gx_ds_cr h4
    rcases hoi with hoi | ⟨q1, q2, q3, q4⟩
    · rw [h98] at hoi; cases hoi
    · obtain ⟨b', e', g1, g2, cA, t0, f, g3, g4, rfl⟩ := hh.2.2 j _ hg
      have e2 : b' = b := Option.some.inj (g1.symm.trans hb1)
      subst e2
      obtain ⟨b2, e3, f1, f2, cA0, t1, f0, f3, f4, rfl⟩ := hh.2.2 j0 _ hg0
      have e4 : b2 = b0 := Option.some.inj (f1.symm.trans hb0)
      subst e4
      obtain ⟨sp, rfl⟩ := Int.eq_ofNat_of_zero_le p1
      obtain ⟨dp, rfl⟩ := Int.eq_ofNat_of_zero_le p2
      obtain ⟨k0, rfl⟩ := Int.eq_ofNat_of_zero_le p3
      have d1 : sp + k0 ≤ n0 := by omega
      have d2 : dp + k0 ≤ n1 := by omega
      have h8 : (z5.map fun v => v.category).sum ≤ 8 := by rw [gx_cats_ok h5]; exact y_ble.mp c2
      have h9 : nativeFrameWords "java/lang/System" "arraycopy" 5 = 7 := by decide +kernel
      rw [gx_nat, gx_nat, gx_nat]
      refine va_copyi hx hb (by rw [hml]; exact hls.1.symm) hown (hts _ (yM_ok q1)) (hts _ (yM_ok q2)) (hts _ (yM_ok q3)) (hts _ (yM_ok q4)) hK hP hD hS j0 j t1 t0 f2 g2 f3 g3 rfl (nI_pos (by omega)) (nI_pos (by omega)) (nI_pos (by omega)) ?_ ?_ (fun _ _ => rfl) hRf (by rw [h9]; omega) hdg (fun H1 locs1 hP1 hD1 hS1 => ?_)
      · rw [nI_clamp (by omega), nI_clamp (by omega)]; exact d1
      · rw [nI_clamp (by omega), nI_clamp (by omega)]; exact d2
      · rw [nI_clamp (n := sp) (by omega), nI_clamp (n := dp) (by omega), nI_clamp (n := k0) (by omega)] at hP1 hD1
        refine kk _ H1 locs1 ls lv _ ⟨gx_h_set hh hg g1 (fun c' hc' => gx_cp_ne hc') ⟨cA, t0, _, g3, fun i hi => ?_, rfl⟩, hl, h5, hls, hP1, hK, hD1, hS1⟩
        by_cases hq : dp ≤ i ∧ i < dp + k0
        · rw [pk_cpy_in hq.1 hq.2, f4 _ (by omega)]
          show gx_i (M j0 _) = gx_i (if j = j ∧ ((dp : Int) ≤ (i : Int) ∧ (i : Int) < (dp : Int) + (k0 : Int)) then M j0 ((sp : Int) + ((i : Int) - (dp : Int))) else M j (i : Int))
          rw [if_pos ⟨rfl, by omega, by omega⟩]
          congr 2
          omega
        · rw [pk_cpy_out (by omega), g4 _ hi]
          show gx_i (M j _) = gx_i (if j = j ∧ ((dp : Int) ≤ (i : Int) ∧ (i : Int) < (dp : Int) + (k0 : Int)) then M j0 ((sp : Int) + ((i : Int) - (dp : Int))) else M j (i : Int))
          rw [if_neg (fun z => hq ⟨by omega, by omega⟩)]
  | false =>
    rw [h98] at hs
    simp only [cond_false] at hs
    simp only [Bool.or_eq_true, Bool.not_eq_true', Bool.and_eq_true] at hmx hmn
    cases h96 : Nat.beq r3 96 with
    | true =>
      rw [h96] at hs
      simp only [cond_true] at hs
      rcases st with _ | ⟨y | y, _ | ⟨x | x, r⟩⟩ <;> try (cases hs; done)
      replace hs : (bif Nat.ble (gx_cats r) 8 then some (some (gx_R x ∧ gx_R y), pc + 3, lo, gI (max x y) :: r, M) else none) = some (P, S') := hs
      cases hc : Nat.ble (gx_cats r) 8 with
      | false => rw [hc] at hs; cases hs
      | true =>
      rw [hc] at hs
      cases hs
      obtain ⟨hr1, hr2⟩ := hP0 _ rfl
      obtain ⟨z1, rfl, h1⟩ := gx_ds_ci hst
      obtain ⟨z2, rfl, h2⟩ := gx_ds_ci h1
      have h8 : (z2.map fun v => v.category).sum ≤ 8 := by rw [gx_cats_ok h2]; exact y_ble.mp hc
      rcases hmx with hmx | ⟨q1, q2, q3, q4⟩
      · rw [h96] at hmx; cases hmx
      · refine va_mmax hx hb (by rw [hml]; exact hls.1.symm) hown (hts _ (yM_ok q1)) (hts _ (yM_ok q2)) (hts _ (yM_ok q3)) (hts _ (yM_ok q4)) hRf (by omega) hk hn hdg (kk ws H locs ls lv _ ⟨hh, hl, gx_ds_i ?_ h2, hls, hP, hK, hD, hS⟩)
        have e9 : gx_i x < gx_i y ↔ x < y := by rw [Int32.lt_iff_toInt_lt, gx_toInt hr1, gx_toInt hr2]
        by_cases h : x < y
        · rw [if_pos (e9.mpr h)]
          congr 1
          omega
        · rw [if_neg (fun z => h (e9.mp z))]
          congr 1
          omega
    | false =>
      rw [h96] at hs
      simp only [cond_false] at hs
      cases h97 : Nat.beq r3 97 with
      | false => rw [h97] at hs; cases hs
      | true =>
      rw [h97] at hs
      simp only [cond_true] at hs
      rcases st with _ | ⟨y | y, _ | ⟨x | x, r⟩⟩ <;> try (cases hs; done)
      replace hs : (bif Nat.ble (gx_cats r) 8 then some (some (gx_R x ∧ gx_R y), pc + 3, lo, gI (min x y) :: r, M) else none) = some (P, S') := hs
      cases hc : Nat.ble (gx_cats r) 8 with
      | false => rw [hc] at hs; cases hs
      | true =>
      rw [hc] at hs
      cases hs
      obtain ⟨hr1, hr2⟩ := hP0 _ rfl
      obtain ⟨z1, rfl, h1⟩ := gx_ds_ci hst
      obtain ⟨z2, rfl, h2⟩ := gx_ds_ci h1
      have h8 : (z2.map fun v => v.category).sum ≤ 8 := by rw [gx_cats_ok h2]; exact y_ble.mp hc
      rcases hmn with hmn | ⟨q1, q2, q3, q4⟩
      · rw [h97] at hmn; cases hmn
      · refine va_mmin hx hb (by rw [hml]; exact hls.1.symm) hown (hts _ (yM_ok q1)) (hts _ (yM_ok q2)) (hts _ (yM_ok q3)) (hts _ (yM_ok q4)) hRf (by omega) hk hn hdg (kk ws H locs ls lv _ ⟨hh, hl, gx_ds_i ?_ h2, hls, hP, hK, hD, hS⟩)
        have e9 : gx_i y < gx_i x ↔ y < x := by rw [Int32.lt_iff_toInt_lt, gx_toInt hr1, gx_toInt hr2]
        by_cases h : y < x
        · rw [if_pos (e9.mpr h)]
          congr 1
          omega
        · rw [if_neg (fun z => h (e9.mp z))]
          congr 1
          omega

end GXSTEP

section GXDISP
variable {p : Program} {l : Launch} {e : Env} {R : Room} {s : State} {m : MethodId} {args : Array Value} {below : List Frame} {meth : Method} {c : Code} {H : Heap} {locs : List Loc} {Q : State → Prop} {ls : Array Slot}
variable {κ : yK} {D : va_G} {A : Nat → Prop} {α : List Nat} {tys : List (ClassId × FieldType)} {ws : va_W} {lv : List (Nat × Value)} {sv : List Value} {lo st : List gx_V} {sh : List gx_C} {M : gx_M} {cc : ByteArray} {own yn : String} {nL : Nat} {t pc k n : Nat} {P : Option Prop} {S' : gx_S}

set_option maxHeartbeats 8000000 in
set_option maxRecDepth 100000 in
theorem gx_step_ok {o : yO} (C : y_ctx κ true p R s m args meth c cc own yn nL A) (hok : y_okop nL own yn cc (pc, o) = true) (hs : gx_st1 κ sh t pc o lo st M = some (P, S')) (hP0 : ∀ q, P = some q → q) (hk : k ≤ R.cells) (hn : n ≤ R.slots) (Z : gx_Z κ D A s nL α tys ws H locs ls lv sv sh lo st M)
    (kk : ∀ ws' H' locs' ls' lv' sv', gx_Z κ D A s nL α tys ws' H' locs' ls' lv' sv' sh S'.2.1 S'.2.2.1 S'.2.2.2 → W p l e R s m args below meth c H' locs' k n Q (F0 m S'.1 ls' sv')) : W p l e R s m args below meth c H locs k n Q (F0 m pc ls sv) := by
  obtain ⟨ins, nx, r1, r2, r3⟩ := o
  cases ins with
  | iconst _ => exact gx_st_iconst C hok hs hP0 hk hn Z kk
  | bipush _ => exact gx_st_bipush C hok hs hP0 hk hn Z kk
  | sipush _ => exact gx_st_sipush C hok hs hP0 hk hn Z kk
  | ldc _ => exact gx_st_ldc C hok hs hP0 hk hn Z kk
  | ldc_w _ => exact gx_st_ldcw C hok hs hP0 hk hn Z kk
  | lconst _ => exact gx_st_lconst C hok hs hP0 hk hn Z kk
  | ldc2_w _ => exact gx_st_ldc2 C hok hs hP0 hk hn Z kk
  | iload_n _ => exact gx_st_iloadn C hok hs hP0 hk hn Z kk
  | iload _ => exact gx_st_iload C hok hs hP0 hk hn Z kk
  | lload_n _ => exact gx_st_lloadn C hok hs hP0 hk hn Z kk
  | lload _ => exact gx_st_lload C hok hs hP0 hk hn Z kk
  | aload_n _ => exact gx_st_aloadn C hok hs hP0 hk hn Z kk
  | aload _ => exact gx_st_aload C hok hs hP0 hk hn Z kk
  | istore_n _ => exact gx_st_istoren C hok hs hP0 hk hn Z kk
  | istore _ => exact gx_st_istore C hok hs hP0 hk hn Z kk
  | lstore_n _ => exact gx_st_lstoren C hok hs hP0 hk hn Z kk
  | lstore _ => exact gx_st_lstore C hok hs hP0 hk hn Z kk
  | astore_n _ => exact gx_st_astoren C hok hs hP0 hk hn Z kk
  | astore _ => exact gx_st_astore C hok hs hP0 hk hn Z kk
  | iinc _ _ => exact gx_st_iinc C hok hs hP0 hk hn Z kk
  | iadd => exact gx_st_iadd C hok hs hP0 hk hn Z kk
  | isub => exact gx_st_isub C hok hs hP0 hk hn Z kk
  | imul => exact gx_st_imul C hok hs hP0 hk hn Z kk
  | iand => exact gx_st_iand C hok hs hP0 hk hn Z kk
  | ior => exact gx_st_ior C hok hs hP0 hk hn Z kk
  | ixor => exact gx_st_ixor C hok hs hP0 hk hn Z kk
  | ishl => exact gx_st_ishl C hok hs hP0 hk hn Z kk
  | ishr => exact gx_st_ishr C hok hs hP0 hk hn Z kk
  | iushr => exact gx_st_iushr C hok hs hP0 hk hn Z kk
  | idiv => exact gx_st_idiv C hok hs hP0 hk hn Z kk
  | irem => exact gx_st_irem C hok hs hP0 hk hn Z kk
  | ladd => exact gx_st_ladd C hok hs hP0 hk hn Z kk
  | lmul => exact gx_st_lmul C hok hs hP0 hk hn Z kk
  | land => exact gx_st_land C hok hs hP0 hk hn Z kk
  | lor => exact gx_st_lor C hok hs hP0 hk hn Z kk
  | lxor => exact gx_st_lxor C hok hs hP0 hk hn Z kk
  | ldiv => exact gx_st_ldiv C hok hs hP0 hk hn Z kk
  | lrem => exact gx_st_lrem C hok hs hP0 hk hn Z kk
  | lcmp => exact gx_st_lcmp C hok hs hP0 hk hn Z kk
  | lshl => exact gx_st_lshl C hok hs hP0 hk hn Z kk
  | lushr => exact gx_st_lushr C hok hs hP0 hk hn Z kk
  | i2l => exact gx_st_i2l C hok hs hP0 hk hn Z kk
  | l2i => exact gx_st_l2i C hok hs hP0 hk hn Z kk
  | dup => exact gx_st_dup C hok hs hP0 hk hn Z kk
  | pop => exact gx_st_pop C hok hs hP0 hk hn Z kk
  | dup2 => exact gx_st_dup2 C hok hs hP0 hk hn Z kk
  | dup_x2 => exact gx_st_dup_x2 C hok hs hP0 hk hn Z kk
  | goto _ => exact gx_st_goto C hok hs hP0 hk hn Z kk
  | ifCond _ _ => exact gx_st_if C hok hs hP0 hk hn Z kk
  | if_icmp _ _ => exact gx_st_icmp C hok hs hP0 hk hn Z kk
  | tableswitch _ _ _ _ => exact gx_st_tsw C hok hs hP0 hk hn Z kk
  | lookupswitch _ _ => exact gx_st_lsw C hok hs hP0 hk hn Z kk
  | getfield _ => exact gx_st_getf C hok hs hP0 hk hn Z kk
  | putfield _ => exact gx_st_putf C hok hs hP0 hk hn Z kk
  | iaload => exact gx_st_iald C hok hs hP0 hk hn Z kk
  | baload => exact gx_st_bald C hok hs hP0 hk hn Z kk
  | laload => exact gx_st_lald C hok hs hP0 hk hn Z kk
  | aaload => exact gx_st_aald C hok hs hP0 hk hn Z kk
  | iastore => exact gx_st_iast C hok hs hP0 hk hn Z kk
  | bastore => exact gx_st_bast C hok hs hP0 hk hn Z kk
  | lastore => exact gx_st_last C hok hs hP0 hk hn Z kk
  | arraylength => exact gx_st_alen C hok hs hP0 hk hn Z kk
  | invokestatic _ => exact gx_st_stat C hok hs hP0 hk hn Z kk
  | _ => cases hs

end GXDISP
