/-! the same check with each method's own list of words, told by their places in the tables: cheaper to compute -/
def x_fl (M : Cond → Bool) (own : String) (idx r1 r2 : Nat) : Bool := match vwCl[r1]? with
  | none => false
  | some r => decide (r2 < r.2.2) && M (Cond.fieldLink own idx (r.2.1 r2).1 (r.2.1 r2).2.1 (r.2.1 r2).2.2.1)
def x_nw (M : Cond → Bool) (own : String) (idx r1 r2 r3 : Nat) : Bool := match vwCl[r1]? with
  | none => false
  | some r => decide (r.2.2 = r2) && (M (Cond.classLink own idx r.1) && (M (Cond.instantiable r.1 r2) && (M (Cond.initialized r.1) && (List.range r2).all (fun k => y_dk (Nat.testBit r3 k) (parseFieldDescriptor (r.2.1 k).2.2.1)))))
def x_an (M : Cond → Bool) (own : String) (idx r1 : Nat) : Bool := match vwCl[r1]? with
  | none => false
  | some r => decide (r.1 = RX3) && M (Cond.classLink own idx r.1)
def x_okin (M : Cond → Bool) (nL : Nat) (own yn : String) (pc : Nat) (o : yO) : Bool := match o.1 with
  | .ldc k => decide (o.2.1 = pc + 2) && M (Cond.constant own k (nI o.2.2.1))
  | .ldc_w k => decide (o.2.1 = pc + 3) && M (Cond.constant own k (nI o.2.2.1))
  | .ldc2_w k => decide (o.2.1 = pc + 3) && M (Cond.constantLong own k (lN o.2.2.1))
  | .getfield k => decide (o.2.1 = pc + 3) && x_fl M own k o.2.2.1 o.2.2.2.1
  | .putfield k => decide (o.2.1 = pc + 3) && (x_fl M own k o.2.2.1 o.2.2.2.1 && y_pf own yn o.2.2.1 o.2.2.2.1 o.2.2.2.2)
  | .new k => decide (o.2.1 = pc + 3) && x_nw M own k o.2.2.1 o.2.2.2.1 o.2.2.2.2
  | .newarray .int => decide (o.2.1 = pc + 2) && (decide (o.2.2.1 = 0) && M (Cond.arrayClass .int))
  | .newarray .boolean => decide (o.2.1 = pc + 2) && (decide (o.2.2.1 = 1) && M (Cond.arrayClass .boolean))
  | .newarray .char => decide (o.2.1 = pc + 2) && (decide (o.2.2.1 = 2) && M (Cond.arrayClass .char))
  | .newarray .long => decide (o.2.1 = pc + 2) && (decide (o.2.2.1 = 3) && M (Cond.arrayClass .long))
  | .anewarray k => decide (o.2.1 = pc + 3) && x_an M own k o.2.2.1
  | .invokespecial k => decide (o.2.1 = pc + 3) && (!(Nat.beq o.2.2.2.2 99) || (M (Cond.methodLink own k objectInit) && (M (Cond.instanceMethod objectInit) && M (Cond.code objectInit ⟨#[0xb1]⟩ 1 none))))
  | .invokestatic k => decide (o.2.1 = pc + 3) && ((!(Nat.beq o.2.2.2.2 98) || (M (Cond.methodLink own k arraycopyName) && (M (Cond.native arraycopyName) && (M (Cond.static arraycopyName) && M (Cond.initialized "java/lang/System"))))) && ((!(Nat.beq o.2.2.2.2 96) || (M (Cond.methodLink own k Lib.Math.max.name) && (M (Cond.static Lib.Math.max.name) && (M (Cond.initialized "java/lang/Math") && M (Cond.code Lib.Math.max.name Lib.Math.max.code 2 (some .int)))))) && (!(Nat.beq o.2.2.2.2 97) || (M (Cond.methodLink own k Lib.Math.min.name) && (M (Cond.static Lib.Math.min.name) && (M (Cond.initialized "java/lang/Math") && M (Cond.code Lib.Math.min.name Lib.Math.min.code 2 (some .int))))))))
  | _ => y_okin nL own yn pc o
theorem x_fl_ok {M : Cond → Bool} (hM : ∀ w, M w = true → yM w = true) {own : String} {idx r1 r2 : Nat} (h : x_fl M own idx r1 r2 = true) : y_fl own idx r1 r2 = true := by
  unfold x_fl at h
  unfold y_fl
  cases hr : vwCl[r1]? with
  | none => rw [hr] at h; cases h
  | some r =>
    rw [hr] at h
    simp only [Bool.and_eq_true] at h ⊢
    exact ⟨h.1, hM _ h.2⟩
theorem x_nw_ok {M : Cond → Bool} (hM : ∀ w, M w = true → yM w = true) {own : String} {idx r1 r2 r3 : Nat} (h : x_nw M own idx r1 r2 r3 = true) : y_nw own idx r1 r2 r3 = true := by
  unfold x_nw at h
  unfold y_nw
  cases hr : vwCl[r1]? with
  | none => rw [hr] at h; cases h
  | some r =>
    rw [hr] at h
    simp only [Bool.and_eq_true] at h ⊢
    exact ⟨h.1, hM _ h.2.1, hM _ h.2.2.1, hM _ h.2.2.2.1, h.2.2.2.2⟩
theorem x_an_ok {M : Cond → Bool} (hM : ∀ w, M w = true → yM w = true) {own : String} {idx r1 : Nat} (h : x_an M own idx r1 = true) : y_an own idx r1 = true := by
  unfold x_an at h
  unfold y_an
  cases hr : vwCl[r1]? with
  | none => rw [hr] at h; cases h
  | some r =>
    rw [hr] at h
    simp only [Bool.and_eq_true] at h ⊢
    exact ⟨h.1, hM _ h.2⟩
theorem x_or4 {M : Cond → Bool} (hM : ∀ w, M w = true → yM w = true) {z : Bool} {a b c d : Cond} (h : (z || (M a && (M b && (M c && M d)))) = true) : (z || (yM a && (yM b && (yM c && yM d)))) = true := by
  rcases Bool.or_eq_true_iff.mp h with h3 | h3
  · exact Bool.or_eq_true_iff.mpr (Or.inl h3)
  · have h4 := Bool.and_eq_true_iff.mp h3
    have h5 := Bool.and_eq_true_iff.mp h4.2
    have h6 := Bool.and_eq_true_iff.mp h5.2
    exact Bool.or_eq_true_iff.mpr (Or.inr (Bool.and_eq_true_iff.mpr ⟨hM _ h4.1, Bool.and_eq_true_iff.mpr ⟨hM _ h5.1, Bool.and_eq_true_iff.mpr ⟨hM _ h6.1, hM _ h6.2⟩⟩⟩))
theorem x_okin_ok {M : Cond → Bool} (hM : ∀ w, M w = true → yM w = true) {nL : Nat} {own yn : String} {pc : Nat} {o : yO} (h : x_okin M nL own yn pc o = true) : y_okin nL own yn pc o = true := by
  obtain ⟨ins, nx, r1, r2, r3⟩ := o
  cases ins with
  | ldc k => exact Bool.and_eq_true_iff.mpr ⟨(Bool.and_eq_true_iff.mp h).1, hM _ (Bool.and_eq_true_iff.mp h).2⟩
  | ldc_w k => exact Bool.and_eq_true_iff.mpr ⟨(Bool.and_eq_true_iff.mp h).1, hM _ (Bool.and_eq_true_iff.mp h).2⟩
  | ldc2_w k => exact Bool.and_eq_true_iff.mpr ⟨(Bool.and_eq_true_iff.mp h).1, hM _ (Bool.and_eq_true_iff.mp h).2⟩
  | getfield k => exact Bool.and_eq_true_iff.mpr ⟨(Bool.and_eq_true_iff.mp h).1, x_fl_ok hM (Bool.and_eq_true_iff.mp h).2⟩
  | putfield k =>
    have h2 := Bool.and_eq_true_iff.mp (Bool.and_eq_true_iff.mp h).2
    exact Bool.and_eq_true_iff.mpr ⟨(Bool.and_eq_true_iff.mp h).1, Bool.and_eq_true_iff.mpr ⟨x_fl_ok hM h2.1, h2.2⟩⟩
  | new k => exact Bool.and_eq_true_iff.mpr ⟨(Bool.and_eq_true_iff.mp h).1, x_nw_ok hM (Bool.and_eq_true_iff.mp h).2⟩
  | newarray ty =>
    cases ty with
    | int =>
      have h2 := Bool.and_eq_true_iff.mp (Bool.and_eq_true_iff.mp h).2
      exact Bool.and_eq_true_iff.mpr ⟨(Bool.and_eq_true_iff.mp h).1, Bool.and_eq_true_iff.mpr ⟨h2.1, hM _ h2.2⟩⟩
    | boolean =>
      have h2 := Bool.and_eq_true_iff.mp (Bool.and_eq_true_iff.mp h).2
      exact Bool.and_eq_true_iff.mpr ⟨(Bool.and_eq_true_iff.mp h).1, Bool.and_eq_true_iff.mpr ⟨h2.1, hM _ h2.2⟩⟩
    | char =>
      have h2 := Bool.and_eq_true_iff.mp (Bool.and_eq_true_iff.mp h).2
      exact Bool.and_eq_true_iff.mpr ⟨(Bool.and_eq_true_iff.mp h).1, Bool.and_eq_true_iff.mpr ⟨h2.1, hM _ h2.2⟩⟩
    | long =>
      have h2 := Bool.and_eq_true_iff.mp (Bool.and_eq_true_iff.mp h).2
      exact Bool.and_eq_true_iff.mpr ⟨(Bool.and_eq_true_iff.mp h).1, Bool.and_eq_true_iff.mpr ⟨h2.1, hM _ h2.2⟩⟩
    | _ => exact h
  | anewarray k => exact Bool.and_eq_true_iff.mpr ⟨(Bool.and_eq_true_iff.mp h).1, x_an_ok hM (Bool.and_eq_true_iff.mp h).2⟩
  | invokespecial k =>
    have h2 := Bool.and_eq_true_iff.mp h
    refine Bool.and_eq_true_iff.mpr ⟨h2.1, ?_⟩
    rcases Bool.or_eq_true_iff.mp h2.2 with h3 | h3
    · exact Bool.or_eq_true_iff.mpr (Or.inl h3)
    · have h4 := Bool.and_eq_true_iff.mp h3
      have h5 := Bool.and_eq_true_iff.mp h4.2
      exact Bool.or_eq_true_iff.mpr (Or.inr (Bool.and_eq_true_iff.mpr ⟨hM _ h4.1, Bool.and_eq_true_iff.mpr ⟨hM _ h5.1, hM _ h5.2⟩⟩))
  | invokestatic k =>
    have h2 := Bool.and_eq_true_iff.mp h
    have k2 := Bool.and_eq_true_iff.mp h2.2
    have k3 := Bool.and_eq_true_iff.mp k2.2
    exact Bool.and_eq_true_iff.mpr ⟨h2.1, Bool.and_eq_true_iff.mpr ⟨x_or4 hM k2.1, Bool.and_eq_true_iff.mpr ⟨x_or4 hM k3.1, x_or4 hM k3.2⟩⟩⟩
  | _ => exact h
def x_okc (M : Cond → Bool) (mt : List yE) (own : String) (o : yO) : Bool := match o.1 with
  | .invokevirtual i => match mt[o.2.2.1]? with
    | none => false
    | some e' => M (.methodLink own i e'.1) && (M (.instanceMethod e'.1) && (M (.selects e'.1.cls e'.1 e'.1) && (M (.initialized e'.1.cls) && (decide ((parseMethodDescriptor e'.1.desc).map (fun d => d.parameters.length) = some o.2.2.2.1) && (match vwCl[o.2.2.2.2]? with
      | none => false
      | some r => decide (r.1 = e'.1.cls))))))
  | .invokestatic i => bif y_nat o.2.2.2.2 then true else match mt[o.2.2.1]? with
    | none => false
    | some e' => M (.methodLink own i e'.1) && (M (.static e'.1) && (M (.initialized e'.1.cls) && decide ((parseMethodDescriptor e'.1.desc).map (fun d => d.parameters.length) = some o.2.2.2.1)))
  | .invokespecial i => bif Nat.beq o.2.2.2.2 99 then true else match mt[o.2.2.1]? with
    | none => false
    | some e' => (M (.methodLink own i e'.1) || zN.any (fun q => decide (q.1 = own ∧ q.2.1 = i ∧ q.2.2.1 = e'.1))) && (M (.instanceMethod e'.1) && (decide (e'.1.name = "<init>") && (decide (e'.2.2.2.1 = none) && (M (.initialized e'.1.cls) && decide ((parseMethodDescriptor e'.1.desc).map (fun d => d.parameters.length) = some o.2.2.2.1)))))
  | _ => true
theorem x_okc_ok {M : Cond → Bool} (hM : ∀ w, M w = true → yM w = true) {mt : List yE} {own : String} {o : yO} (h : x_okc M mt own o = true) : y_okc mt own o = true := by
  obtain ⟨ins, nx, r1, r2, r3⟩ := o
  cases ins with
  | invokevirtual i =>
    unfold x_okc at h
    unfold y_okc
    dsimp only at h ⊢
    cases hm : mt[r1]? with
    | none => rw [hm] at h; cases h
    | some e' =>
      rw [hm] at h
      simp only [Bool.and_eq_true] at h ⊢
      obtain ⟨a, b, c, d, e⟩ := h
      exact ⟨hM _ a, hM _ b, hM _ c, hM _ d, e⟩
  | invokestatic i =>
    unfold x_okc at h
    unfold y_okc
    dsimp only at h ⊢
    cases hb : y_nat r3 with
    | true => rfl
    | false =>
      rw [hb] at h
      cases hm : mt[r1]? with
      | none => rw [hm] at h; cases h
      | some e' =>
        rw [hm] at h
        simp only [cond_false, Bool.and_eq_true] at h ⊢
        obtain ⟨a, b, c, d⟩ := h
        exact ⟨hM _ a, hM _ b, hM _ c, d⟩
  | invokespecial i =>
    unfold x_okc at h
    unfold y_okc
    dsimp only at h ⊢
    cases hb : Nat.beq r3 99 with
    | true => rfl
    | false =>
      rw [hb] at h
      cases hm : mt[r1]? with
      | none => rw [hm] at h; cases h
      | some e' =>
        rw [hm] at h
        simp only [cond_false, Bool.and_eq_true] at h ⊢
        obtain ⟨a, b, c, d, e, f⟩ := h
        refine ⟨?_, hM _ b, c, d, hM _ e, f⟩
        rcases Bool.or_eq_true_iff.mp a with a | a
        · exact Bool.or_eq_true_iff.mpr (Or.inl (hM _ a))
        · exact Bool.or_eq_true_iff.mpr (Or.inr a)
  | _ => exact h
def x_okb (M : Cond → Bool) (mt : List yE) (e : yE) : Bool := e.2.2.2.2.all (fun q => (decide (decode e.2.1 q.1 = .ok (q.2.1, q.2.2.1 - q.1)) && x_okin M e.2.2.1 e.1.cls e.1.name q.1 q.2) && x_okc M mt e.1.cls q.2)
def x_ok (M : Cond → Bool) (mt : List yE) (e : yE) : Bool := M (.code e.1 e.2.1 e.2.2.1 e.2.2.2.1) && (plainName e.1.cls && (decide (e.1.cls ≠ "java/lang/invoke/MethodHandle" ∧ e.1.cls ≠ "java/lang/invoke/VarHandle") && (Nat.ble e.2.2.1 40 && x_okb M mt e)))
theorem x_okb_ok {M : Cond → Bool} (hM : ∀ w, M w = true → yM w = true) {mt : List yE} {e : yE} (h : x_okb M mt e = true) : y_okb mt e = true := by
  unfold x_okb at h
  unfold y_okb
  refine List.all_eq_true.mpr (fun q hq => ?_)
  have h1 := List.all_eq_true.mp h q hq
  simp only [Bool.and_eq_true] at h1 ⊢
  refine ⟨?_, x_okc_ok hM h1.2⟩
  unfold y_okop
  exact Bool.and_eq_true_iff.mpr ⟨h1.1.1, x_okin_ok hM h1.1.2⟩
theorem x_ok_ok {M : Cond → Bool} (hM : ∀ w, M w = true → yM w = true) {mt : List yE} {e : yE} (h : x_ok M mt e = true) : y_ok mt e = true := by
  unfold x_ok at h
  unfold y_ok
  simp only [Bool.and_eq_true] at h ⊢
  exact ⟨hM _ h.1, h.2.1, h.2.2.1, h.2.2.2.1, x_okb_ok hM h.2.2.2.2⟩
def x_M (wl : List (Nat × Cond)) (w : Cond) : Bool := wl.any (fun q => decide (q.2 = w))
def x_wl (wl : List (Nat × Cond)) : Bool := wl.all (fun q => decide (lw_tbl[q.1]? = some q.2) && goodWord q.2)
theorem x_M_ok {wl : List (Nat × Cond)} (h : x_wl wl = true) : ∀ w, x_M wl w = true → yM w = true := by
  intro w hw
  obtain ⟨q, hq, he⟩ := List.any_eq_true.mp hw
  have e := of_decide_eq_true he
  have h1 := List.all_eq_true.mp h q hq
  simp only [Bool.and_eq_true, decide_eq_true_eq] at h1
  rw [← e]
  unfold yM
  simp only [Bool.and_eq_true, decide_eq_true_eq]
  exact ⟨List.mem_of_getElem? h1.1, h1.2⟩
theorem x_use {wl : List (Nat × Cond)} {mt : List yE} {e : yE} (h : (x_wl wl && x_ok (x_M wl) mt e) = true) : y_ok mt e = true := x_ok_ok (x_M_ok (Bool.and_eq_true_iff.mp h).1) (Bool.and_eq_true_iff.mp h).2
theorem x_useb {wl : List (Nat × Cond)} {mt : List yE} {e : yE} (h : (x_wl wl && x_okb (x_M wl) mt e) = true) : y_okb mt e = true := x_okb_ok (x_M_ok (Bool.and_eq_true_iff.mp h).1) (Bool.and_eq_true_iff.mp h).2
def x_ch (M : Cond → Bool) (mt : List yE) (e : yE) (ps : List (Nat × yO)) : Bool := ps.all (fun q => (decide (decode e.2.1 q.1 = .ok (q.2.1, q.2.2.1 - q.1)) && x_okin M e.2.2.1 e.1.cls e.1.name q.1 q.2) && x_okc M mt e.1.cls q.2)
def y_ch (mt : List yE) (e : yE) (ps : List (Nat × yO)) : Bool := ps.all (fun q => y_okop e.2.2.1 e.1.cls e.1.name e.2.1 q && y_okc mt e.1.cls q.2)
theorem x_usec {wl : List (Nat × Cond)} {mt : List yE} {e : yE} {ps : List (Nat × yO)} (h : (x_wl wl && x_ch (x_M wl) mt e ps) = true) : y_ch mt e ps = true := by
  have hM := x_M_ok (Bool.and_eq_true_iff.mp h).1
  refine List.all_eq_true.mpr (fun q hq => ?_)
  have h1 := List.all_eq_true.mp (Bool.and_eq_true_iff.mp h).2 q hq
  simp only [Bool.and_eq_true] at h1 ⊢
  refine ⟨?_, x_okc_ok hM h1.2⟩
  unfold y_okop
  exact Bool.and_eq_true_iff.mpr ⟨h1.1.1, x_okin_ok hM h1.1.2⟩
theorem x_use2 {wl : List (Nat × Cond)} {mt : List yE} {e : yE} (h : (x_wl wl && (x_M wl (.code e.1 e.2.1 e.2.2.1 e.2.2.2.1) && (plainName e.1.cls && (decide (e.1.cls ≠ "java/lang/invoke/MethodHandle" ∧ e.1.cls ≠ "java/lang/invoke/VarHandle") && Nat.ble e.2.2.1 40)))) = true) (hb : y_okb mt e = true) : y_ok mt e = true := by
  simp only [Bool.and_eq_true] at h
  unfold y_ok
  simp only [Bool.and_eq_true]
  exact ⟨x_M_ok h.1 _ h.2.1, h.2.2.1, h.2.2.2.1, h.2.2.2.2, hb⟩
