theorem y_px {T : Type} {l l' : List T} {i : Nat} {x : T} (h : l <+: l') (hi : l[i]? = some x) : l'[i]? = some x := by
  obtain ⟨t, rfl⟩ := h
  have hl : i < l.length := (List.getElem?_eq_some_iff.mp hi).1
  rw [List.getElem?_append_left hl]
  exact hi
section YB
variable {κ : yK} {α α' : List Nat} {tys tys' : List (ClassId × FieldType)}
theorem y_r_mono {i a : Nat} (h : α <+: α') (hi : y_r κ α i = some a) : y_r κ α' i = some a := by
  cases i with
  | zero => exact hi
  | succ i => exact y_px h hi
theorem y_d_mono {v : yV} {x : Value} (h : α <+: α') (hv : y_d κ α v = some x) : y_d κ α' v = some x := by
  rcases v with a | a | _ | i
  · exact hv
  · exact hv
  · exact hv
  · obtain ⟨a, ha, rfl⟩ := Option.map_eq_some_iff.mp hv
    exact Option.map_eq_some_iff.mpr ⟨a, y_r_mono h ha, rfl⟩
theorem y_ds_nil {xs : List Value} (h : y_ds κ α [] xs) : xs = [] := by
  cases xs with
  | nil => rfl
  | cons x xs => simp [y_ds] at h
theorem y_ds_cons {v : yV} {l : List yV} {xs : List Value} (h : y_ds κ α (v :: l) xs) : ∃ x ys, xs = x :: ys ∧ y_d κ α v = some x ∧ y_ds κ α l ys := by
  cases xs with
  | nil => simp [y_ds] at h
  | cons x ys =>
    have h' : y_d κ α v :: l.map (y_d κ α) = some x :: ys.map some := h
    obtain ⟨h1, h2⟩ := List.cons.inj h'
    exact ⟨x, ys, rfl, h1, h2⟩
theorem y_ds_mk {v : yV} {l : List yV} {x : Value} {ys : List Value} (h1 : y_d κ α v = some x) (h2 : y_ds κ α l ys) : y_ds κ α (v :: l) (x :: ys) := by
  show y_d κ α v :: l.map (y_d κ α) = some x :: ys.map some
  rw [h1, show l.map (y_d κ α) = ys.map some from h2]
theorem y_ds_0 : y_ds κ α [] [] := rfl
theorem y_ds_i {a : yI} {l : List yV} {x : Int32} {ys : List Value} (h1 : y_i κ a = x) (h2 : y_ds κ α l ys) : y_ds κ α (.inl a :: l) (.int x :: ys) := y_ds_mk (by rw [← h1]; rfl) h2
theorem y_ds_l {a : yI} {l : List yV} {x : Int64} {ys : List Value} (h1 : y_l κ a = x) (h2 : y_ds κ α l ys) : y_ds κ α (.inr (.inl a) :: l) (.long x :: ys) := y_ds_mk (by rw [← h1]; rfl) h2
theorem y_ds_ci {a : yI} {l : List yV} {xs : List Value} (h : y_ds κ α (.inl a :: l) xs) : ∃ ys, xs = .int (y_i κ a) :: ys ∧ y_ds κ α l ys := by
  obtain ⟨x, ys, rfl, h1, h2⟩ := y_ds_cons h
  cases h1
  exact ⟨ys, rfl, h2⟩
theorem y_ds_cl {a : yI} {l : List yV} {xs : List Value} (h : y_ds κ α (.inr (.inl a) :: l) xs) : ∃ ys, xs = .long (y_l κ a) :: ys ∧ y_ds κ α l ys := by
  obtain ⟨x, ys, rfl, h1, h2⟩ := y_ds_cons h
  cases h1
  exact ⟨ys, rfl, h2⟩
theorem y_ds_cr {i : Nat} {l : List yV} {xs : List Value} (h : y_ds κ α (.inr (.inr (some i)) :: l) xs) : ∃ a ys, xs = .ref a :: ys ∧ y_r κ α i = some a ∧ y_ds κ α l ys := by
  obtain ⟨x, ys, rfl, h1, h2⟩ := y_ds_cons h
  obtain ⟨a, ha, rfl⟩ := Option.map_eq_some_iff.mp h1
  exact ⟨a, ys, rfl, ha, h2⟩
theorem y_ds_len {l : List yV} {xs : List Value} (h : y_ds κ α l xs) : l.length = xs.length := by
  have := congrArg List.length h
  simpa using this
theorem y_ds_get {l : List yV} {xs : List Value} {i : Nat} {v : yV} (h : y_ds κ α l xs) (hi : l[i]? = some v) : ∃ x, xs[i]? = some x ∧ y_d κ α v = some x := by
  have h1 : (l.map (y_d κ α))[i]? = (xs.map some)[i]? := congrArg (fun z : List (Option Value) => z[i]?) h
  rw [List.getElem?_map, List.getElem?_map, hi] at h1
  cases hx : xs[i]? with
  | none => rw [hx] at h1; cases h1
  | some x => rw [hx] at h1; exact ⟨x, rfl, Option.some.inj h1⟩
theorem y_ds_set {l : List yV} {xs : List Value} {v : yV} {x : Value} (k : Nat) (h : y_ds κ α l xs) (hv : y_d κ α v = some x) : y_ds κ α (l.set k v) (xs.set k x) := by
  show (l.set k v).map (y_d κ α) = (xs.set k x).map some
  rw [List.map_set, List.map_set, hv, show l.map (y_d κ α) = xs.map some from h]
theorem y_ds_take {l : List yV} {xs : List Value} (k : Nat) (h : y_ds κ α l xs) : y_ds κ α (l.take k) (xs.take k) := by
  show (l.take k).map (y_d κ α) = (xs.take k).map some
  rw [List.map_take, List.map_take, show l.map (y_d κ α) = xs.map some from h]
theorem y_ds_drop {l : List yV} {xs : List Value} (k : Nat) (h : y_ds κ α l xs) : y_ds κ α (l.drop k) (xs.drop k) := by
  show (l.drop k).map (y_d κ α) = (xs.drop k).map some
  rw [List.map_drop, List.map_drop, show l.map (y_d κ α) = xs.map some from h]
theorem y_ds_rev {l : List yV} {xs : List Value} (h : y_ds κ α l xs) : y_ds κ α l.reverse xs.reverse := by
  show l.reverse.map (y_d κ α) = xs.reverse.map some
  rw [List.map_reverse, List.map_reverse, show l.map (y_d κ α) = xs.map some from h]
theorem y_ds_mono {l : List yV} {xs : List Value} (hα : α <+: α') (h : y_ds κ α l xs) : y_ds κ α' l xs := by
  induction l generalizing xs with
  | nil => rw [y_ds_nil h]; exact y_ds_0
  | cons v l ih =>
    obtain ⟨x, ys, rfl, h1, h2⟩ := y_ds_cons h
    exact y_ds_mk (y_d_mono hα h1) (ih h2)
theorem y_cat_ok {v : yV} {x : Value} (h : y_d κ α v = some x) : x.category = y_cat v := by
  rcases v with a | a | _ | i
  · cases h; rfl
  · cases h; rfl
  · cases h; rfl
  · obtain ⟨a, -, rfl⟩ := Option.map_eq_some_iff.mp h
    rfl
theorem y_cats_ok {l : List yV} {xs : List Value} (h : y_ds κ α l xs) : (xs.map fun v => v.category).sum = y_cats l := by
  induction l generalizing xs with
  | nil => rw [y_ds_nil h]; rfl
  | cons v l ih =>
    obtain ⟨x, ys, rfl, h1, h2⟩ := y_ds_cons h
    rw [List.map_cons, List.sum_cons, ih h2, y_cat_ok h1]
    rfl
theorem y_sl_len {l : List yV} {xs : List Value} (h : y_ds κ α l xs) : (lg_sl xs).length = y_cats l := by
  induction l generalizing xs with
  | nil => rw [y_ds_nil h]; rfl
  | cons v l ih =>
    obtain ⟨x, ys, rfl, h1, h2⟩ := y_ds_cons h
    have e : lg_sl (x :: ys) = (if x.category = 2 then [.val x, .second] else [.val x]) ++ lg_sl ys := rfl
    rw [e, List.length_append, ih h2]
    have hc := y_cat_ok h1
    show _ = y_cat v + y_cats l
    rcases lv_cat x with h3 | h3
    · rw [if_neg (by omega)]
      simp only [List.length_cons, List.length_nil]
      omega
    · rw [if_pos h3]
      simp only [List.length_cons, List.length_nil]
      omega
-- locals
theorem y_dl_cons {q : Nat × yV} {l : yL} {xs : List (Nat × Value)} (h : y_dl κ α (q :: l) xs) : ∃ x ys, xs = (q.1, x) :: ys ∧ y_d κ α q.2 = some x ∧ y_dl κ α l ys := by
  cases xs with
  | nil => simp [y_dl] at h
  | cons x ys =>
    have h' : (q.1, y_d κ α q.2) :: l.map (fun q => (q.1, y_d κ α q.2)) = (x.1, some x.2) :: ys.map (fun q => (q.1, some q.2)) := h
    obtain ⟨h1, h2⟩ := List.cons.inj h'
    obtain ⟨h3, h4⟩ := Prod.mk.inj h1
    refine ⟨x.2, ys, ?_, h4, h2⟩
    rw [h3]
theorem y_dl_nil {xs : List (Nat × Value)} (h : y_dl κ α [] xs) : xs = [] := by
  cases xs with
  | nil => rfl
  | cons x xs => simp [y_dl] at h
theorem y_dl_mk {i : Nat} {v : yV} {l : yL} {x : Value} {ys : List (Nat × Value)} (h1 : y_d κ α v = some x) (h2 : y_dl κ α l ys) : y_dl κ α ((i, v) :: l) ((i, x) :: ys) := by
  show (i, y_d κ α v) :: l.map (fun q => (q.1, y_d κ α q.2)) = (i, some x) :: ys.map (fun q => (q.1, some q.2))
  rw [h1, show l.map (fun q => (q.1, y_d κ α q.2)) = ys.map (fun q => (q.1, some q.2)) from h2]
theorem y_dl_get {l : yL} {xs : List (Nat × Value)} {i : Nat} {v : yV} (h : y_dl κ α l xs) (hi : y_lget l i = some v) : ∃ x, (i, x) ∈ xs ∧ y_d κ α v = some x := by
  induction l generalizing xs with
  | nil => cases hi
  | cons q l ih =>
    obtain ⟨x, ys, rfl, h1, h2⟩ := y_dl_cons h
    unfold y_lget at hi
    cases hb : Nat.beq q.1 i with
    | true =>
      rw [hb] at hi
      have hq : q.2 = v := Option.some.inj hi
      have e : q.1 = i := Nat.eq_of_beq_eq_true hb
      rw [← e, ← hq]
      exact ⟨x, List.mem_cons_self, h1⟩
    | false =>
      rw [hb] at hi
      obtain ⟨y, hy, hd⟩ := ih h2 hi
      exact ⟨y, List.mem_cons_of_mem _ hy, hd⟩
theorem y_dl_mono {l : yL} {xs : List (Nat × Value)} (hα : α <+: α') (h : y_dl κ α l xs) : y_dl κ α' l xs := by
  induction l generalizing xs with
  | nil => rw [y_dl_nil h]; rfl
  | cons q l ih =>
    obtain ⟨x, ys, rfl, h1, h2⟩ := y_dl_cons h
    exact y_dl_mk (y_d_mono hα h1) (ih h2)
theorem y_dl_filter (g : Nat → Nat → Bool) {l : yL} {xs : List (Nat × Value)} (h : y_dl κ α l xs) : y_dl κ α (l.filter (fun q => g q.1 (y_cat q.2))) (xs.filter (fun q => g q.1 q.2.category)) := by
  induction l generalizing xs with
  | nil => rw [y_dl_nil h]; rfl
  | cons q l ih =>
    obtain ⟨x, ys, rfl, h1, h2⟩ := y_dl_cons h
    rw [List.filter_cons, List.filter_cons]
    have hc := y_cat_ok h1
    cases hg : g q.1 (y_cat q.2) with
    | true =>
      rw [if_pos rfl, if_pos (by show g q.1 x.category = true; rw [hc]; exact hg)]
      exact y_dl_mk h1 (ih h2)
    | false =>
      rw [if_neg (by simp), if_neg (by show ¬ g q.1 x.category = true; rw [hc, hg]; simp)]
      exact ih h2
theorem y_dl_set {l : yL} {xs : List (Nat × Value)} (i : Nat) {v : yV} {x : Value} (h : y_dl κ α l xs) (hv : y_d κ α v = some x) : y_dl κ α (y_lset l i v) ((i, x) :: xs.filter (fun q => !(q.1 == i) && !(q.1 + 1 == i && q.2.category == 2))) :=
  y_dl_mk hv (y_dl_filter (fun a c => !(a == i) && !(a + 1 == i && c == 2)) h)
theorem y_dl_set2 {l : yL} {xs : List (Nat × Value)} (i : Nat) {v : yV} {x : Value} (h : y_dl κ α l xs) (hv : y_d κ α v = some x) : y_dl κ α (y_lset2 l i v) ((i, x) :: xs.filter (fun q => !(q.1 == i) && (!(q.1 == i + 1) && !(q.1 + 1 == i && q.2.category == 2)))) :=
  y_dl_mk hv (y_dl_filter (fun a c => !(a == i) && (!(a == i + 1) && !(a + 1 == i && c == 2))) h)
theorem y_dl_args {l : List yV} {xs : List Value} (i : Nat) (h : y_ds κ α l xs) : y_dl κ α (y_args i l) (lv_args i xs) := by
  induction l generalizing xs i with
  | nil => rw [y_ds_nil h]; rfl
  | cons v l ih =>
    obtain ⟨x, ys, rfl, h1, h2⟩ := y_ds_cons h
    show y_dl κ α ((i, v) :: y_args (if y_cat v = 2 then i + 2 else i + 1) l) ((i, x) :: lv_args (if x.category = 2 then i + 2 else i + 1) ys)
    rw [y_cat_ok h1]
    exact y_dl_mk h1 (ih _ h2)
-- the heap
theorem y_c_mono {c : yC} {e : va_E} (hα : α <+: α') (ht : tys <+: tys') (h : y_c κ α tys c e) : y_c κ α' tys' c e := by
  rcases c with ⟨ci, fs⟩ | ⟨k, n, m⟩ | ⟨ci, n, m⟩
  · obtain ⟨vs, h1, h2⟩ := h
    exact ⟨vs, y_ds_mono hα h1, h2⟩
  · rcases k with _ | _ | _ | _ | k
    · obtain ⟨cA, t0, f, h1, h2, h3⟩ := h
      exact ⟨cA, t0, f, y_px ht h1, h2, h3⟩
    · obtain ⟨cA, t0, f, h1, h2, h3⟩ := h
      exact ⟨cA, t0, f, y_px ht h1, h2, h3⟩
    · obtain ⟨cA, t0, f, h1, h2, h3⟩ := h
      exact ⟨cA, t0, f, y_px ht h1, h2, h3⟩
    · obtain ⟨cA, t0, f, h1, h2, h3⟩ := h
      exact ⟨cA, t0, f, y_px ht h1, h2, h3⟩
    · obtain ⟨cA, t0, f, h1, h2, h3⟩ := h
      exact ⟨cA, t0, f, y_px ht h1, h2, h3⟩
  · obtain ⟨cA, t0, r, f, h0, h1, h2, h3⟩ := h
    refine ⟨cA, t0, r, f, h0, y_px ht h1, fun i hi => ?_, h3⟩
    have h4 := h2 i hi
    cases hm : y_getr m i with
    | none => rw [hm] at h4; exact h4
    | some j =>
      rw [hm] at h4
      obtain ⟨a, h5, h6⟩ := h4
      exact ⟨a, y_r_mono hα h5, h6⟩
theorem y_h_push {sh : List yC} {ws : va_W} {c : yC} {e : va_E} (q : Nat) (ht : tys <+: tys') (h : y_h κ α tys sh ws) (hc : y_c κ (α ++ [q]) tys' c e) : y_h κ (α ++ [q]) tys' (sh ++ [c]) (ws ++ [(q, e)]) := by
  obtain ⟨h1, h2, h3⟩ := h
  refine ⟨by simp [h1], by simp [h2], fun i c' hi => ?_⟩
  have hα : α <+: α ++ [q] := List.prefix_append _ _
  by_cases hl : i < sh.length
  · rw [List.getElem?_append_left hl] at hi
    obtain ⟨a, e', g1, g2, g3⟩ := h3 i c' hi
    refine ⟨a, e', y_px hα g1, ?_, y_c_mono hα ht g3⟩
    rw [List.getElem?_append_left (by omega)]
    exact g2
  · have hi' := (List.getElem?_eq_some_iff.mp hi).1
    rw [List.length_append] at hi'
    have e0 : i = sh.length := by simp at hi'; omega
    subst e0
    have e1 : c = c' := by simpa using hi
    subst e1
    refine ⟨q, e, ?_, ?_, hc⟩
    · rw [← h1]; simp
    · rw [← h2]; simp
theorem y_h_set {sh : List yC} {ws : va_W} {i a : Nat} {c0 c : yC} {e : va_E} (h : y_h κ α tys sh ws) (hi : sh[i]? = some c0) (ha : α[i]? = some a) (hc : y_c κ α tys c e) : y_h κ α tys (sh.set i c) (ws.set i (a, e)) := by
  obtain ⟨h1, h2, h3⟩ := h
  have hl : i < sh.length := (List.getElem?_eq_some_iff.mp hi).1
  refine ⟨by simp [h1], by simp [h2], fun j c' hj => ?_⟩
  by_cases hji : i = j
  · subst hji
    rw [List.getElem?_set_self hl] at hj
    cases hj
    exact ⟨a, e, ha, List.getElem?_set_self (by omega), hc⟩
  · rw [List.getElem?_set_ne hji] at hj
    obtain ⟨a', e', g1, g2, g3⟩ := h3 j c' hj
    exact ⟨a', e', g1, by rw [List.getElem?_set_ne hji]; exact g2, g3⟩
end YB
-- numbers
theorem y_tn (n : Nat) : (nI n).toBitVec.toNat = n % 4294967296 := by
  show (BitVec.ofNat 32 n).toNat = _
  rw [BitVec.toNat_ofNat]
theorem y_int (n : Nat) : (nI n).toInt = (y_sg n : Int) - 2147483648 := by
  show (nI n).toBitVec.toInt = _
  rw [BitVec.toInt_eq_toNat_cond, y_tn]
  unfold y_sg
  split <;> omega
theorem y_ext {a b : Nat} (h : a % 4294967296 = b % 4294967296) : nI a = nI b := by
  apply Int32.toBitVec_inj.mp
  apply BitVec.eq_of_toNat_eq
  rw [y_tn, y_tn, h]
theorem y_nmod (a : Nat) : nI (a % 4294967296) = nI a := y_ext (by omega)
theorem y_lt {a b : Nat} : nI a < nI b ↔ y_sg a < y_sg b := by
  rw [Int32.lt_iff_toInt_lt, y_int, y_int]; omega
theorem y_le {a b : Nat} : nI a ≤ nI b ↔ y_sg a ≤ y_sg b := by
  rw [Int32.le_iff_toInt_le, y_int, y_int]; omega
theorem y_eq {a b : Nat} : nI a = nI b ↔ y_sg a = y_sg b := by
  rw [← Int32.toInt_inj, y_int, y_int]; omega
theorem y_beq {a b : Nat} : Nat.beq a b = true ↔ a = b := ⟨Nat.eq_of_beq_eq_true, fun h => by rw [h]; exact Nat.beq_refl b⟩
theorem y_blt {a b : Nat} : Nat.blt a b = true ↔ a < b := ⟨fun h => Nat.le_of_ble_eq_true h, fun h => Nat.ble_eq_true_of_le h⟩
theorem y_ble {a b : Nat} : Nat.ble a b = true ↔ a ≤ b := ⟨Nat.le_of_ble_eq_true, Nat.ble_eq_true_of_le⟩
theorem y_cmp_ok (op a b : Nat) : y_P op (nI a) (nI b) ↔ y_cmp op a b = true := by
  unfold y_P y_cmp
  split
  · rw [y_beq]; exact y_eq
  · rw [Bool.not_eq_true', ← Bool.not_eq_true, y_beq]; exact not_congr y_eq
  · rw [y_blt]; exact y_lt
  · rw [y_ble]; exact y_le
  · rw [y_blt]; exact y_lt
  · rw [y_ble]; exact y_le
theorem y_eqI_ok {a b : yI} (h : y_eqI a b = true) : a = b := by
  rcases a with a | a <;> rcases b with b | b <;> first | (rw [y_beq.mp h]) | cases h
theorem y_look_ok {κ : yK} {hy : yF} {op : Nat} {a b : yI} {t : Bool} (hH : y_H κ hy) (h : y_look hy op a b = some t) : y_P op (y_i κ a) (y_i κ b) ↔ t = true := by
  induction hy with
  | nil => cases h
  | cons q r ih =>
    unfold y_look at h
    cases hc : (Nat.beq q.1 op && (y_eqI q.2.1 a && y_eqI q.2.2.1 b)) with
    | true =>
      rw [hc] at h
      simp only [Bool.and_eq_true] at hc
      obtain ⟨h1, h2, h3⟩ := hc
      have e1 := y_beq.mp h1
      have e2 := y_eqI_ok h2
      have e3 := y_eqI_ok h3
      have e4 : q.2.2.2 = t := Option.some.inj h
      rw [← e1, ← e2, ← e3, ← e4]
      exact hH q List.mem_cons_self
    | false =>
      rw [hc] at h
      exact ih (fun q hq => hH q (List.mem_cons_of_mem _ hq)) h
theorem y_lookT_ok {κ : yK} {tb : yT} {op : Nat} {a b v : yI} (hT : y_T κ tb) (h : y_lookT tb op a b = some v) : y_opv κ op a b v := by
  induction tb with
  | nil => cases h
  | cons q r ih =>
    unfold y_lookT at h
    cases hc : (Nat.beq q.1 op && (y_eqI q.2.1 a && y_eqI q.2.2.1 b)) with
    | true =>
      rw [hc] at h
      simp only [Bool.and_eq_true] at hc
      obtain ⟨h1, h2, h3⟩ := hc
      have e1 := y_beq.mp h1
      have e2 := y_eqI_ok h2
      have e3 := y_eqI_ok h3
      have e4 : q.2.2.2 = v := Option.some.inj h
      rw [← e1, ← e2, ← e3, ← e4]
      exact hT q List.mem_cons_self
    | false =>
      rw [hc] at h
      exact ih (fun q hq => hT q (List.mem_cons_of_mem _ hq)) h
theorem y_cond_ok {κ : yK} {hy : yF} {op : Nat} {a b : yI} {t : Bool} (hH : y_H κ hy) (h : y_cond hy op a b = some t) : y_P op (y_i κ a) (y_i κ b) ↔ t = true := by
  rcases a with a | a <;> rcases b with b | b
  · have e : y_cmp op a b = t := Option.some.inj h
    rw [← e]
    exact y_cmp_ok op a b
  · exact y_look_ok hH h
  · exact y_look_ok hH h
  · exact y_look_ok hH h
theorem y_and_ok (a b : Nat) : nI a &&& nI b = nI (Nat.land a b) := by
  apply Int32.toBitVec_inj.mp
  apply BitVec.eq_of_toNat_eq
  rw [Int32.toBitVec_and, BitVec.toNat_and, y_tn, y_tn, y_tn]
  exact (Nat.and_mod_two_pow (n := 32) (a := a) (b := b)).symm
theorem y_or_ok (a b : Nat) : nI a ||| nI b = nI (Nat.lor a b) := by
  apply Int32.toBitVec_inj.mp
  apply BitVec.eq_of_toNat_eq
  rw [Int32.toBitVec_or, BitVec.toNat_or, y_tn, y_tn, y_tn]
  exact (Nat.or_mod_two_pow (n := 32) (a := a) (b := b)).symm
theorem y_sub_ok (a b : Nat) : nI a - nI b = nI ((a + (4294967296 - b % 4294967296)) % 4294967296) := by
  apply Int32.toBitVec_inj.mp
  apply BitVec.eq_of_toNat_eq
  rw [Int32.toBitVec_sub, BitVec.toNat_sub, y_tn, y_tn, y_tn]
  omega
theorem y_sm : ∀ b, b < 32 → ((nI b &&& 31).toBitVec.smod 32).toNat = b := by decide +kernel
theorem y_um : ∀ b, b < 32 → (((nI b).toUInt32 &&& Int32.toUInt32 31).toBitVec % 32).toNat = b := by decide +kernel
theorem y_shl_ok {a b : Nat} (hb : b < 32) : nI a <<< (nI b &&& 31) = nI (a * 2 ^ b % 4294967296) := by
  apply Int32.toBitVec_inj.mp
  apply BitVec.eq_of_toNat_eq
  rw [pk_shl (nI a) (nI b &&& 31) b (y_sm b hb), y_tn, y_tn]
  rw [show (2 : Nat) ^ 32 = 4294967296 from rfl, Nat.mod_mod, Nat.mod_mul_mod]
theorem y_nz {b : Nat} (h0 : 0 < b) (h : b < 2147483648) : ¬ nI b = 0 := nI_ne0 h0 h
