section GXB
variable {κ : yK} {α : List Nat} {tys : List (ClassId × FieldType)}
theorem gx_ds_nil {xs : List Value} (h : gx_ds κ α [] xs) : xs = [] := by
  cases xs with
  | nil => rfl
  | cons x xs => simp [gx_ds] at h
theorem gx_ds_cons {v : gx_V} {l : List gx_V} {xs : List Value} (h : gx_ds κ α (v :: l) xs) : ∃ x ys, xs = x :: ys ∧ gx_d κ α v = some x ∧ gx_ds κ α l ys := by
  cases xs with
  | nil => simp [gx_ds] at h
  | cons x ys =>
    have h' : gx_d κ α v :: l.map (gx_d κ α) = some x :: ys.map some := h
    obtain ⟨h1, h2⟩ := List.cons.inj h'
    exact ⟨x, ys, rfl, h1, h2⟩
theorem gx_ds_mk {v : gx_V} {l : List gx_V} {x : Value} {ys : List Value} (h1 : gx_d κ α v = some x) (h2 : gx_ds κ α l ys) : gx_ds κ α (v :: l) (x :: ys) := by
  show gx_d κ α v :: l.map (gx_d κ α) = some x :: ys.map some
  rw [h1, show l.map (gx_d κ α) = ys.map some from h2]
theorem gx_ds_0 : gx_ds κ α [] [] := rfl
theorem gx_ds_i {a : Int} {l : List gx_V} {x : Int32} {ys : List Value} (h1 : gx_i a = x) (h2 : gx_ds κ α l ys) : gx_ds κ α (.inl a :: l) (.int x :: ys) := gx_ds_mk (by rw [← h1]; rfl) h2
theorem gx_ds_l {a : Int} {l : List gx_V} {x : Int64} {ys : List Value} (h1 : gx_l a = x) (h2 : gx_ds κ α l ys) : gx_ds κ α (.inr (.inl a) :: l) (.long x :: ys) := gx_ds_mk (by rw [← h1]; rfl) h2
theorem gx_ds_r {i a : Nat} {l : List gx_V} {ys : List Value} (h1 : y_r κ α i = some a) (h2 : gx_ds κ α l ys) : gx_ds κ α (.inr (.inr (some i)) :: l) (.ref a :: ys) := gx_ds_mk (Option.map_eq_some_iff.mpr ⟨a, h1, rfl⟩) h2
theorem gx_ds_ci {a : Int} {l : List gx_V} {xs : List Value} (h : gx_ds κ α (.inl a :: l) xs) : ∃ ys, xs = .int (gx_i a) :: ys ∧ gx_ds κ α l ys := by
  obtain ⟨x, ys, rfl, h1, h2⟩ := gx_ds_cons h
  cases h1
  exact ⟨ys, rfl, h2⟩
theorem gx_ds_cl {a : Int} {l : List gx_V} {xs : List Value} (h : gx_ds κ α (.inr (.inl a) :: l) xs) : ∃ ys, xs = .long (gx_l a) :: ys ∧ gx_ds κ α l ys := by
  obtain ⟨x, ys, rfl, h1, h2⟩ := gx_ds_cons h
  cases h1
  exact ⟨ys, rfl, h2⟩
theorem gx_ds_cr {i : Nat} {l : List gx_V} {xs : List Value} (h : gx_ds κ α (.inr (.inr (some i)) :: l) xs) : ∃ a ys, xs = .ref a :: ys ∧ y_r κ α i = some a ∧ gx_ds κ α l ys := by
  obtain ⟨x, ys, rfl, h1, h2⟩ := gx_ds_cons h
  obtain ⟨a, ha, rfl⟩ := Option.map_eq_some_iff.mp h1
  exact ⟨a, ys, rfl, ha, h2⟩
theorem gx_ds_len {l : List gx_V} {xs : List Value} (h : gx_ds κ α l xs) : l.length = xs.length := by
  have := congrArg List.length h
  simpa using this
theorem gx_ds_take {l : List gx_V} {xs : List Value} (k : Nat) (h : gx_ds κ α l xs) : gx_ds κ α (l.take k) (xs.take k) := by
  show (l.take k).map (gx_d κ α) = (xs.take k).map some
  rw [List.map_take, List.map_take, show l.map (gx_d κ α) = xs.map some from h]
theorem gx_ds_drop {l : List gx_V} {xs : List Value} (k : Nat) (h : gx_ds κ α l xs) : gx_ds κ α (l.drop k) (xs.drop k) := by
  show (l.drop k).map (gx_d κ α) = (xs.drop k).map some
  rw [List.map_drop, List.map_drop, show l.map (gx_d κ α) = xs.map some from h]
theorem gx_ds_rev {l : List gx_V} {xs : List Value} (h : gx_ds κ α l xs) : gx_ds κ α l.reverse xs.reverse := by
  show l.reverse.map (gx_d κ α) = xs.reverse.map some
  rw [List.map_reverse, List.map_reverse, show l.map (gx_d κ α) = xs.map some from h]
theorem gx_cat_ok {v : gx_V} {x : Value} (h : gx_d κ α v = some x) : x.category = gx_cat v := by
  rcases v with a | a | _ | i
  · cases h; rfl
  · cases h; rfl
  · cases h
  · obtain ⟨a, -, rfl⟩ := Option.map_eq_some_iff.mp h
    rfl
theorem gx_cats_ok {l : List gx_V} {xs : List Value} (h : gx_ds κ α l xs) : (xs.map fun v => v.category).sum = gx_cats l := by
  induction l generalizing xs with
  | nil => rw [gx_ds_nil h]; rfl
  | cons v l ih =>
    obtain ⟨x, ys, rfl, h1, h2⟩ := gx_ds_cons h
    rw [List.map_cons, List.sum_cons, ih h2, gx_cat_ok h1]
    rfl
theorem gx_sl_len {l : List gx_V} {xs : List Value} (h : gx_ds κ α l xs) : (lg_sl xs).length = gx_cats l := by
  induction l generalizing xs with
  | nil => rw [gx_ds_nil h]; rfl
  | cons v l ih =>
    obtain ⟨x, ys, rfl, h1, h2⟩ := gx_ds_cons h
    have e : lg_sl (x :: ys) = (if x.category = 2 then [.val x, .second] else [.val x]) ++ lg_sl ys := rfl
    rw [e, List.length_append, ih h2]
    have hc := gx_cat_ok h1
    show _ = gx_cat v + gx_cats l
    rcases lv_cat x with h3 | h3
    · rw [if_neg (by omega)]
      simp only [List.length_cons, List.length_nil]
      omega
    · rw [if_pos h3]
      simp only [List.length_cons, List.length_nil]
      omega
-- locals
theorem gx_lg_get (lo : List gx_V) (k : Nat) {v : gx_V} (h : gx_lg lo k = v) (hv : v ≠ gU) : lo[k]? = some v := by
  induction lo generalizing k with
  | nil => exact absurd h.symm hv
  | cons x r ih =>
    cases k with
    | zero => rw [← h]; rfl
    | succ k => exact ih k h
theorem gx_dl_get {lo : List gx_V} {lv : List (Nat × Value)} {k : Nat} {v : gx_V} (h : gx_dl κ α lo lv) (hk : gx_lg lo k = v) (hv : v ≠ gU) : ∃ x, (k, x) ∈ lv ∧ gx_d κ α v = some x := h k v (gx_lg_get lo k hk hv) hv
theorem gx_ls_get (lo : List gx_V) : ∀ (i j : Nat) (v0 v : gx_V), (gx_ls lo i v0)[j]? = some v → (j = i ∧ v = v0) ∨ (j ≠ i ∧ ∃ w, lo[j]? = some w ∧ ((j + 1 = i ∧ v = gx_clr w) ∨ (j + 1 ≠ i ∧ v = w))) := by
  induction lo with
  | nil => intro i j v0 v h; cases h
  | cons x r ih =>
    intro i j v0 v h
    match i, j with
    | 0, 0 => left; exact ⟨rfl, (Option.some.inj h).symm⟩
    | 0, j + 1 => right; exact ⟨by omega, v, h, Or.inr ⟨by omega, rfl⟩⟩
    | 1, 0 => right; exact ⟨by omega, x, rfl, Or.inl ⟨rfl, (Option.some.inj h).symm⟩⟩
    | k + 2, 0 => right; exact ⟨by omega, x, rfl, Or.inr ⟨by omega, (Option.some.inj h).symm⟩⟩
    | 1, j + 1 =>
      rcases ih 0 j v0 v h with ⟨h1, h2⟩ | ⟨h1, w, h2, h3⟩
      · left; exact ⟨by omega, h2⟩
      · right
        refine ⟨by omega, w, h2, ?_⟩
        rcases h3 with ⟨h3, h4⟩ | ⟨h3, h4⟩
        · omega
        · right; exact ⟨by omega, h4⟩
    | k + 2, j + 1 =>
      rcases ih (k + 1) j v0 v h with ⟨h1, h2⟩ | ⟨h1, w, h2, h3⟩
      · left; exact ⟨by omega, h2⟩
      · right
        refine ⟨by omega, w, h2, ?_⟩
        rcases h3 with ⟨h3, h4⟩ | ⟨h3, h4⟩
        · left; exact ⟨by omega, h4⟩
        · right; exact ⟨by omega, h4⟩
theorem gx_clr_ne {w v : gx_V} (h : v = gx_clr w) (hv : v ≠ gU) : v = w ∧ gx_cat v = 1 := by
  rcases w with a | a | _ | i
  · exact ⟨h, by rw [h]; rfl⟩
  · exact absurd h hv
  · exact absurd h hv
  · exact ⟨h, by rw [h]; rfl⟩
theorem gx_dl_set {lo : List gx_V} {lv : List (Nat × Value)} (i : Nat) {v : gx_V} {x : Value} (h : gx_dl κ α lo lv) (hv : gx_d κ α v = some x) : gx_dl κ α (gx_ls lo i v) ((i, x) :: lv.filter (fun q => !(q.1 == i) && !(q.1 + 1 == i && q.2.category == 2))) := by
  intro j u hj hu
  rcases gx_ls_get lo i j v u hj with ⟨rfl, rfl⟩ | ⟨h1, w, h2, h3⟩
  · exact ⟨x, List.mem_cons_self, hv⟩
  · have key : ∀ y, (j, y) ∈ lv → (j + 1 = i → y.category = 1) → (j, y) ∈ (i, x) :: lv.filter (fun q => !(q.1 == i) && !(q.1 + 1 == i && q.2.category == 2)) := by
      intro y hy hc
      refine List.mem_cons_of_mem _ (List.mem_filter.mpr ⟨hy, ?_⟩)
      have e1 : (j == i) = false := by simpa using h1
      have e2 : (j + 1 == i && y.category == 2) = false := by
        cases e3 : (j + 1 == i) with
        | false => rfl
        | true =>
          have := hc (by simpa using e3)
          rw [this]
          rfl
      show (!(j == i) && !(j + 1 == i && y.category == 2)) = true
      rw [e1, e2]
      rfl
    rcases h3 with ⟨h3, h4⟩ | ⟨h3, h4⟩
    · obtain ⟨h5, h6⟩ := gx_clr_ne h4 hu
      subst h5
      obtain ⟨y, hy, hd⟩ := h j u h2 hu
      exact ⟨y, key y hy (fun _ => (gx_cat_ok hd).trans h6), hd⟩
    · subst h4
      obtain ⟨y, hy, hd⟩ := h j u h2 hu
      exact ⟨y, key y hy (fun z => absurd z h3), hd⟩
theorem gx_dl_set2 {lo : List gx_V} {lv : List (Nat × Value)} (i : Nat) {v : gx_V} {x : Value} (h : gx_dl κ α lo lv) (hv : gx_d κ α v = some x) : gx_dl κ α (gx_ls2 lo i v) ((i, x) :: lv.filter (fun q => !(q.1 == i) && (!(q.1 == i + 1) && !(q.1 + 1 == i && q.2.category == 2)))) := by
  intro j u hj hu
  rcases gx_ls_get (gx_ls lo (i + 1) gU) i j v u hj with ⟨rfl, rfl⟩ | ⟨h1, w, h2, h3⟩
  · exact ⟨x, List.mem_cons_self, hv⟩
  · have key : ∀ y, (j, y) ∈ lv → j ≠ i + 1 → (j + 1 = i → y.category = 1) → (j, y) ∈ (i, x) :: lv.filter (fun q => !(q.1 == i) && (!(q.1 == i + 1) && !(q.1 + 1 == i && q.2.category == 2))) := by
      intro y hy hn hc
      refine List.mem_cons_of_mem _ (List.mem_filter.mpr ⟨hy, ?_⟩)
      have e1 : (j == i) = false := by simpa using h1
      have e0 : (j == i + 1) = false := by simpa using hn
      have e2 : (j + 1 == i && y.category == 2) = false := by
        cases e3 : (j + 1 == i) with
        | false => rfl
        | true =>
          have := hc (by simpa using e3)
          rw [this]
          rfl
      show (!(j == i) && (!(j == i + 1) && !(j + 1 == i && y.category == 2))) = true
      rw [e1, e0, e2]
      rfl
    have hw : w ≠ gU := by
      rcases h3 with ⟨h3, h4⟩ | ⟨h3, h4⟩
      · obtain ⟨h5, h6⟩ := gx_clr_ne h4 hu
        rw [← h5]; exact hu
      · rw [← h4]; exact hu
    have hwu : u = w ∧ (j + 1 = i → gx_cat w = 1) := by
      rcases h3 with ⟨h3, h4⟩ | ⟨h3, h4⟩
      · obtain ⟨h5, h6⟩ := gx_clr_ne h4 hu
        exact ⟨h5, fun _ => by rw [← h5]; exact h6⟩
      · exact ⟨h4, fun z => absurd z h3⟩
    obtain ⟨rfl, hc1⟩ := hwu
    rcases gx_ls_get lo (i + 1) j gU u h2 with ⟨k1, k2⟩ | ⟨k1, w, k2, k3⟩
    · exact absurd k2 hw
    · rcases k3 with ⟨k3, k4⟩ | ⟨k3, k4⟩
      · exact absurd (by omega) h1
      · subst k4
        obtain ⟨y, hy, hd⟩ := h j u k2 hu
        exact ⟨y, key y hy k1 (fun z => (gx_cat_ok hd).trans (hc1 z)), hd⟩
/-- fewer known locals -/
def gx_le : List gx_V → List gx_V → Prop
  | [], _ => True
  | _ :: _, [] => False
  | a :: l, b :: r => (a = gU ∨ a = b) ∧ gx_le l r
theorem gx_le_get {l r : List gx_V} (h : gx_le l r) : ∀ (i : Nat) (v : gx_V), l[i]? = some v → v ≠ gU → r[i]? = some v := by
  induction l generalizing r with
  | nil => intro i v hi; cases hi
  | cons a l ih =>
    intro i v hi hv
    cases r with
    | nil => exact h.elim
    | cons b r =>
      cases i with
      | zero =>
        have e : a = v := Option.some.inj hi
        rcases h.1 with h1 | h1
        · exact absurd (e.symm.trans h1) hv
        · show some b = some v
          rw [← h1, e]
      | succ i => exact ih h.2 i v hi hv
theorem gx_dl_le {lo lo' : List gx_V} {lv : List (Nat × Value)} (h : gx_dl κ α lo lv) (hl : gx_le lo' lo) : gx_dl κ α lo' lv := fun i v hi hv => h i v (gx_le_get hl i v hi hv) hv
/-- the locals at a method's entry -/
def gx_ar : List gx_V → List gx_V
  | [] => []
  | .inr (.inl a) :: r => gJ a :: gU :: gx_ar r
  | v :: r => v :: gx_ar r
theorem gx_dl_args {l : List gx_V} {xs : List Value} (n : Nat) : ∀ (i : Nat), gx_ds κ α l xs → ∀ (j : Nat) (v : gx_V), (gx_ar l ++ List.replicate n gU)[j]? = some v → v ≠ gU → ∃ x, (i + j, x) ∈ lv_args i xs ∧ gx_d κ α v = some x := by
  induction l generalizing xs with
  | nil =>
    intro i h j v hj hv
    have : v = gU := by
      have h1 : (List.replicate n gU)[j]? = some v := hj
      rw [List.getElem?_replicate] at h1
      split at h1
      · exact (Option.some.inj h1).symm
      · cases h1
    exact absurd this hv
  | cons w l ih =>
    intro i h j v hj hv
    obtain ⟨x, ys, rfl, h1, h2⟩ := gx_ds_cons h
    have hcat := gx_cat_ok h1
    have e0 : lv_args i (x :: ys) = (i, x) :: lv_args (if x.category = 2 then i + 2 else i + 1) ys := rfl
    rw [e0]
    have one : gx_cat w = 1 → gx_ar (w :: l) = w :: gx_ar l → ∃ x_1, (i + j, x_1) ∈ (i, x) :: lv_args (if x.category = 2 then i + 2 else i + 1) ys ∧ gx_d κ α v = some x_1 := by
      intro hc he
      rw [if_neg (by omega)]
      rw [he] at hj
      cases j with
      | zero =>
        have e : w = v := Option.some.inj hj
        subst e
        exact ⟨x, List.mem_cons_self, h1⟩
      | succ j =>
        obtain ⟨y, hy, hd⟩ := ih (i + 1) h2 j v hj hv
        refine ⟨y, List.mem_cons_of_mem _ ?_, hd⟩
        rw [show i + (j + 1) = i + 1 + j from by omega]
        exact hy
    rcases w with a | a | _ | a
    · exact one rfl rfl
    · have hc : x.category = 2 := hcat
      rw [if_pos hc]
      match j with
      | 0 =>
        have e : gJ a = v := Option.some.inj hj
        subst e
        exact ⟨x, List.mem_cons_self, h1⟩
      | 1 =>
        have e : gU = v := Option.some.inj hj
        exact absurd e.symm hv
      | j + 2 =>
        obtain ⟨y, hy, hd⟩ := ih (i + 2) h2 j v hj hv
        refine ⟨y, List.mem_cons_of_mem _ ?_, hd⟩
        rw [show i + (j + 2) = i + 2 + j from by omega]
        exact hy
    · exact one rfl rfl
    · exact one rfl rfl
-- the heap
theorem gx_at_ok {sh : List gx_C} : ∀ {i : Nat} {c : gx_C}, gx_at sh i = some c → sh[i]? = some c := by
  induction sh with
  | nil => intro i c h; cases h
  | cons x r ih =>
    intro i c h
    cases i with
    | zero => exact h
    | succ i => exact ih (i := i) h
theorem gx_rf_ok {rs : List Nat} : ∀ {i c : Nat}, gx_rf rs i = some c → rs[i]? = some c := by
  induction rs with
  | nil => intro i c h; cases h
  | cons x r ih =>
    intro i c h
    cases i with
    | zero => exact h
    | succ i => exact ih (i := i) h
theorem gx_fs_get {m : Int → Int} : ∀ (fs : List (Option Nat)) (k j : Nat) (vs : List Value) (f : Option Nat), gx_fs κ α m k fs = vs.map some → gx_fld fs j = some f → ∃ x, vs[j]? = some x ∧ (match f with | none => x = .int (gx_i (m ((k + j : Nat) : Int))) | some q => ∃ a, y_r κ α q = some a ∧ x = .ref a) := by
  intro fs
  induction fs with
  | nil => intro k j vs f h hj; cases hj
  | cons g r ih =>
    intro k j vs f h hj
    cases vs with
    | nil => cases g <;> cases h
    | cons x vs =>
      cases g with
      | none =>
        have h' : some (Value.int (gx_i (m (k : Int)))) :: gx_fs κ α m (k + 1) r = some x :: vs.map some := h
        obtain ⟨h1, h2⟩ := List.cons.inj h'
        cases j with
        | zero =>
          have e : none = f := Option.some.inj hj
          subst e
          exact ⟨x, rfl, (Option.some.inj h1).symm⟩
        | succ j =>
          obtain ⟨y, hy, hd⟩ := ih (k + 1) j vs f h2 hj
          refine ⟨y, hy, ?_⟩
          rw [show k + (j + 1) = k + 1 + j from by omega]
          exact hd
      | some q =>
        have h' : (y_r κ α q).map Value.ref :: gx_fs κ α m (k + 1) r = some x :: vs.map some := h
        obtain ⟨h1, h2⟩ := List.cons.inj h'
        cases j with
        | zero =>
          have e : some q = f := Option.some.inj hj
          subst e
          obtain ⟨a, ha, hx⟩ := Option.map_eq_some_iff.mp h1
          exact ⟨x, rfl, a, ha, hx.symm⟩
        | succ j =>
          obtain ⟨y, hy, hd⟩ := ih (k + 1) j vs f h2 hj
          refine ⟨y, hy, ?_⟩
          rw [show k + (j + 1) = k + 1 + j from by omega]
          exact hd
theorem gx_fs_len {m : Int → Int} : ∀ (fs : List (Option Nat)) (k : Nat) (vs : List Value), gx_fs κ α m k fs = vs.map some → vs.length = fs.length := by
  intro fs
  induction fs with
  | nil => intro k vs h; have := congrArg List.length h; simpa [gx_fs] using this.symm
  | cons g r ih =>
    intro k vs h
    cases vs with
    | nil => cases g <;> cases h
    | cons x vs =>
      cases g with
      | none => rw [List.length_cons, List.length_cons, ih (k + 1) vs (List.cons.inj h).2]
      | some q => rw [List.length_cons, List.length_cons, ih (k + 1) vs (List.cons.inj h).2]
theorem gx_fs_congr {m m' : Int → Int} : ∀ (fs : List (Option Nat)) (k : Nat), (∀ j : Nat, k ≤ j → m (j : Int) = m' (j : Int)) → gx_fs κ α m k fs = gx_fs κ α m' k fs := by
  intro fs
  induction fs with
  | nil => intro k h; rfl
  | cons g r ih =>
    intro k h
    cases g with
    | none =>
      show some (Value.int (gx_i (m (k : Int)))) :: gx_fs κ α m (k + 1) r = some (Value.int (gx_i (m' (k : Int)))) :: gx_fs κ α m' (k + 1) r
      rw [h k (Nat.le_refl _), ih (k + 1) (fun j hj => h j (by omega))]
    | some q =>
      show (y_r κ α q).map Value.ref :: gx_fs κ α m (k + 1) r = (y_r κ α q).map Value.ref :: gx_fs κ α m' (k + 1) r
      rw [ih (k + 1) (fun j hj => h j (by omega))]
theorem gx_fs_set {m : Int → Int} {v : Int} : ∀ (fs : List (Option Nat)) (k j : Nat) (vs : List Value), gx_fs κ α m k fs = vs.map some → gx_fld fs j = some none → gx_fs κ α (fun q => if q = ((k + j : Nat) : Int) then v else m q) k fs = (vs.set j (.int (gx_i v))).map some := by
  intro fs
  induction fs with
  | nil => intro k j vs h hj; cases hj
  | cons g r ih =>
    intro k j vs h hj
    cases vs with
    | nil => cases g <;> cases h
    | cons x vs =>
      cases j with
      | zero =>
        have e : g = none := Option.some.inj hj
        subst e
        have h' : some (Value.int (gx_i (m (k : Int)))) :: gx_fs κ α m (k + 1) r = some x :: vs.map some := h
        obtain ⟨h1, h2⟩ := List.cons.inj h'
        show some (Value.int (gx_i (if (k : Int) = ((k + 0 : Nat) : Int) then v else m (k : Int)))) :: gx_fs κ α _ (k + 1) r = some (Value.int (gx_i v)) :: vs.map some
        rw [if_pos (show (k : Int) = ((k + 0 : Nat) : Int) from rfl), ← h2]
        congr 1
        exact gx_fs_congr r (k + 1) (fun j hj => if_neg (by omega))
      | succ j =>
        have e1 : k + (j + 1) = k + 1 + j := by omega
        rw [e1]
        cases g with
        | none =>
          have h' : some (Value.int (gx_i (m (k : Int)))) :: gx_fs κ α m (k + 1) r = some x :: vs.map some := h
          obtain ⟨h1, h2⟩ := List.cons.inj h'
          show some (Value.int (gx_i (if (k : Int) = ((k + 1 + j : Nat) : Int) then v else m (k : Int)))) :: gx_fs κ α _ (k + 1) r = some x :: (vs.set j (.int (gx_i v))).map some
          rw [if_neg (by omega), h1, ih (k + 1) j vs h2 hj]
        | some q =>
          have h' : (y_r κ α q).map Value.ref :: gx_fs κ α m (k + 1) r = some x :: vs.map some := h
          obtain ⟨h1, h2⟩ := List.cons.inj h'
          show (y_r κ α q).map Value.ref :: gx_fs κ α _ (k + 1) r = some x :: (vs.set j (.int (gx_i v))).map some
          rw [h1, ih (k + 1) j vs h2 hj]
theorem gx_h_set {sh : List gx_C} {M M' : gx_M} {ws : va_W} {i a : Nat} {c : gx_C} {e : va_E} (h : gx_h κ α tys sh M ws) (hi : sh[i]? = some c) (ha : α[i]? = some a) (hM : ∀ c', c' ≠ i → M' c' = M c') (hc : gx_c κ α tys c (M' i) e) : gx_h κ α tys sh M' (ws.set i (a, e)) := by
  obtain ⟨h1, h2, h3⟩ := h
  have hl : i < sh.length := (List.getElem?_eq_some_iff.mp hi).1
  refine ⟨h1, by simp [h2], fun j c' hj => ?_⟩
  by_cases hji : i = j
  · subst hji
    rw [hi] at hj
    cases hj
    exact ⟨a, e, ha, List.getElem?_set_self (by omega), hc⟩
  · obtain ⟨a', e', g1, g2, g3⟩ := h3 j c' hj
    exact ⟨a', e', g1, by rw [List.getElem?_set_ne hji]; exact g2, by rw [hM j (fun z => hji z.symm)]; exact g3⟩
theorem gx_up_ne {M : gx_M} {c c' : Nat} {i v : Int} (h : c' ≠ c) : gx_up M c i v c' = M c' := by
  funext j
  exact if_neg (fun z => h z.1)
theorem gx_up_eq (M : gx_M) (c : Nat) (i v : Int) : gx_up M c i v c = fun j => if j = i then v else M c j := by
  funext j
  show (if c = c ∧ j = i then v else M c j) = _
  by_cases h : j = i
  · rw [if_pos ⟨rfl, h⟩, if_pos h]
  · rw [if_neg (fun z => h z.2), if_neg h]
theorem gx_cp_ne {M : gx_M} {s d c' : Nat} {sp dp k : Int} (h : c' ≠ d) : gx_cp M s d sp dp k c' = M c' := by
  funext j
  exact if_neg (fun z => h z.1)
end GXB
-- numbers
theorem gx_ext {a b : Int} (h : a % 4294967296 = b % 4294967296) : gx_i a = gx_i b := by
  apply Int32.toBitVec_inj.mp
  apply BitVec.eq_of_toNat_eq
  show (BitVec.ofInt 32 a).toNat = (BitVec.ofInt 32 b).toNat
  rw [BitVec.toNat_ofInt, BitVec.toNat_ofInt]
  show (a % 4294967296).toNat = (b % 4294967296).toNat
  rw [h]
theorem gx_extL {a b : Int} (h : a % 18446744073709551616 = b % 18446744073709551616) : gx_l a = gx_l b := by
  apply Int64.toBitVec_inj.mp
  apply BitVec.eq_of_toNat_eq
  show (BitVec.ofInt 64 a).toNat = (BitVec.ofInt 64 b).toNat
  rw [BitVec.toNat_ofInt, BitVec.toNat_ofInt]
  show (a % 18446744073709551616).toNat = (b % 18446744073709551616).toNat
  rw [h]
theorem gx_toInt {a : Int} (h : gx_R a) : (gx_i a).toInt = a := by
  show (BitVec.ofInt 32 a).toInt = a
  rw [BitVec.toInt_ofInt]
  show Int.bmod a 4294967296 = a
  unfold Int.bmod
  dsimp only
  split <;> omega
theorem gx_toIntL {a : Int} (h : gx_RL a) : (gx_l a).toInt = a := by
  show (BitVec.ofInt 64 a).toInt = a
  rw [BitVec.toInt_ofInt]
  show Int.bmod a 18446744073709551616 = a
  unfold Int.bmod
  dsimp only
  split <;> omega
theorem gx_i_of (x : Int32) : gx_i x.toInt = x := Int32.toInt_inj.mp (gx_toInt ⟨Int32.le_toInt x, Int32.toInt_lt x⟩)
theorem gx_l_of (x : Int64) : gx_l x.toInt = x := Int64.toInt_inj.mp (gx_toIntL ⟨Int64.le_toInt x, Int64.toInt_lt x⟩)
theorem gx_nat (n : Nat) : gx_i (n : Int) = nI n := by
  apply Int32.toBitVec_inj.mp
  apply BitVec.eq_of_toNat_eq
  show (BitVec.ofInt 32 (n : Int)).toNat = (BitVec.ofNat 32 n).toNat
  rw [BitVec.toNat_ofInt, BitVec.toNat_ofNat]
  show ((n : Int) % 4294967296).toNat = n % 4294967296
  omega
theorem gx_natL (n : Nat) : gx_l (n : Int) = lN n := by
  apply Int64.toBitVec_inj.mp
  apply BitVec.eq_of_toNat_eq
  show (BitVec.ofInt 64 (n : Int)).toNat = (BitVec.ofNat 64 n).toNat
  rw [BitVec.toNat_ofInt, BitVec.toNat_ofNat]
  show ((n : Int) % 18446744073709551616).toNat = n % 18446744073709551616
  omega
theorem gx_lit_ok (n : Nat) : nI n = gx_i (gx_lit n) := by
  rw [← gx_nat]
  apply gx_ext
  unfold gx_lit
  cases h : Nat.blt n 2147483648 with
  | true => rfl
  | false =>
    simp only [cond_false]
    rw [Int.subNatNat_eq_coe]
    omega
theorem gx_litL_ok (n : Nat) : lN n = gx_l (gx_litL n) := by
  rw [← gx_natL]
  apply gx_extL
  unfold gx_litL
  cases h : Nat.blt n 9223372036854775808 with
  | true => rfl
  | false =>
    simp only [cond_false]
    rw [Int.subNatNat_eq_coe]
    omega
theorem gx_add (a b : Int) : gx_i a + gx_i b = gx_i (a + b) := by
  apply Int32.toBitVec_inj.mp
  rw [Int32.toBitVec_add]
  show BitVec.ofInt 32 a + BitVec.ofInt 32 b = BitVec.ofInt 32 (a + b)
  rw [BitVec.ofInt_add]
theorem gx_mul (a b : Int) : gx_i a * gx_i b = gx_i (a * b) := by
  apply Int32.toBitVec_inj.mp
  rw [Int32.toBitVec_mul]
  show BitVec.ofInt 32 a * BitVec.ofInt 32 b = BitVec.ofInt 32 (a * b)
  rw [BitVec.ofInt_mul]
theorem gx_sub (a b : Int) : gx_i a - gx_i b = gx_i (a - b) := by
  have h : gx_i a = gx_i (a - b) + gx_i b := by rw [gx_add]; congr 1; omega
  rw [h]
  exact Int32.add_sub_cancel _ _
theorem gx_addL (a b : Int) : gx_l a + gx_l b = gx_l (a + b) := by
  apply Int64.toBitVec_inj.mp
  rw [Int64.toBitVec_add]
  show BitVec.ofInt 64 a + BitVec.ofInt 64 b = BitVec.ofInt 64 (a + b)
  rw [BitVec.ofInt_add]
theorem gx_mulL (a b : Int) : gx_l a * gx_l b = gx_l (a * b) := by
  apply Int64.toBitVec_inj.mp
  rw [Int64.toBitVec_mul]
  show BitVec.ofInt 64 a * BitVec.ofInt 64 b = BitVec.ofInt 64 (a * b)
  rw [BitVec.ofInt_mul]
theorem gx_subL (a b : Int) : gx_l a - gx_l b = gx_l (a - b) := by
  have h : gx_l a = gx_l (a - b) + gx_l b := by rw [gx_addL]; congr 1; omega
  rw [h]
  exact Int64.add_sub_cancel _ _
theorem gx_ne0 {b : Int} (h : 0 < b) (h2 : b < 2147483648) : ¬ gx_i b = 0 := by
  intro z
  have := gx_toInt (a := b) ⟨by omega, h2⟩
  rw [z, Int32.toInt_zero] at this
  omega
theorem gx_ne0L {b : Int} (h : 0 < b) (h2 : b < 9223372036854775808) : ¬ gx_l b = 0 := by
  intro z
  have := gx_toIntL (a := b) ⟨by omega, h2⟩
  rw [z, Int64.toInt_zero] at this
  omega
theorem gx_div {a b : Int} (h : (0 ≤ a ∧ a < 2147483648) ∧ 0 < b ∧ b < 2147483648) : gx_i a / gx_i b = gx_i (a / b) := by
  obtain ⟨⟨h1, h2⟩, h3, h4⟩ := h
  have hq : 0 ≤ a / b := Int.ediv_nonneg h1 (by omega)
  have hq2 : a / b ≤ a := Int.ediv_le_self b h1
  apply Int32.toInt_inj.mp
  rw [Int32.toInt_div, gx_toInt ⟨by omega, h2⟩, gx_toInt ⟨by omega, h4⟩, gx_toInt ⟨by omega, by omega⟩, Int.tdiv_eq_ediv_of_nonneg h1]
  show Int.bmod (a / b) 4294967296 = a / b
  unfold Int.bmod
  dsimp only
  split <;> omega
theorem gx_divL {a b : Int} (h : (0 ≤ a ∧ a < 9223372036854775808) ∧ 0 < b ∧ b < 9223372036854775808) : gx_l a / gx_l b = gx_l (a / b) := by
  obtain ⟨⟨h1, h2⟩, h3, h4⟩ := h
  have hq : 0 ≤ a / b := Int.ediv_nonneg h1 (by omega)
  have hq2 : a / b ≤ a := Int.ediv_le_self b h1
  apply Int64.toInt_inj.mp
  rw [Int64.toInt_div, gx_toIntL ⟨by omega, h2⟩, gx_toIntL ⟨by omega, h4⟩, gx_toIntL ⟨by omega, by omega⟩, Int.tdiv_eq_ediv_of_nonneg h1]
  show Int.bmod (a / b) 18446744073709551616 = a / b
  unfold Int.bmod
  dsimp only
  split <;> omega
theorem gx_rem {a b : Int} (h : (0 ≤ a ∧ a < 2147483648) ∧ 0 < b ∧ b < 2147483648) : gx_i a - gx_i a / gx_i b * gx_i b = gx_i (a % b) := by
  rw [gx_div h, gx_mul, gx_sub]
  congr 1
  rw [Int.emod_def, Int.mul_comm]
theorem gx_remL {a b : Int} (h : (0 ≤ a ∧ a < 9223372036854775808) ∧ 0 < b ∧ b < 9223372036854775808) : gx_l a - gx_l a / gx_l b * gx_l b = gx_l (a % b) := by
  rw [gx_divL h, gx_mulL, gx_subL]
  congr 1
  rw [Int.emod_def, Int.mul_comm]
theorem gx_i2l {a : Int} (h : gx_R a) : (gx_i a).toInt64 = gx_l a := by
  apply Int64.toInt_inj.mp
  rw [Int32.toInt_toInt64, gx_toInt h, gx_toIntL ⟨by omega, by omega⟩]
theorem gx_l2i (a : Int) : (gx_l a).toInt32 = gx_i a := by
  apply Int32.toBitVec_inj.mp
  apply BitVec.eq_of_toInt_eq
  show (BitVec.signExtend 32 (BitVec.ofInt 64 a)).toInt = (BitVec.ofInt 32 a).toInt
  rw [BitVec.signExtend_eq_setWidth_of_le _ (by omega)]
  congr 1
  apply BitVec.eq_of_toNat_eq
  rw [BitVec.toNat_setWidth, BitVec.toNat_ofInt, BitVec.toNat_ofInt]
  show (a % 18446744073709551616).toNat % 4294967296 = (a % 4294967296).toNat
  omega
theorem gx_c3_ok {a b : Int} (ha : gx_RL a) (hb : gx_RL b) : lg_cmp (gx_l a) (gx_l b) = gx_i (gx_c3 a b) := by
  unfold lg_cmp gx_c3
  have e1 : (gx_l a > gx_l b) ↔ b < a := by
    show gx_l b < gx_l a ↔ _
    rw [Int64.lt_iff_toInt_lt, gx_toIntL ha, gx_toIntL hb]
  have e2 : (gx_l a = gx_l b) ↔ a = b := by
    rw [← Int64.toInt_inj, gx_toIntL ha, gx_toIntL hb]
  by_cases h1 : b < a
  · rw [if_pos (e1.mpr h1), if_pos h1]; rfl
  · rw [if_neg (fun z => h1 (e1.mp z)), if_neg h1]
    by_cases h2 : a = b
    · rw [if_pos (e2.mpr h2), if_pos h2]; rfl
    · rw [if_neg (fun z => h2 (e2.mp z)), if_neg h2]; rfl
theorem gx_idx {j : Int} {len : Nat} (h : 0 ≤ j ∧ j < (len : Int)) (hl : j < 2147483648) : vp_in (gx_i j) len ∧ (gx_i j).toNatClampNeg = j.toNat ∧ j.toNat < len ∧ ((j.toNat : Nat) : Int) = j := by
  have e : ((j.toNat : Nat) : Int) = j := Int.toNat_of_nonneg h.1
  have e2 : gx_i j = nI j.toNat := by rw [← gx_nat, e]
  have e3 : j.toNat < len := by omega
  rw [e2]
  exact ⟨y_in e3 (by omega), nI_clamp (by omega), e3, e⟩
theorem gx_bool_nar {v : Int} (h : v = 0 ∨ v = 1) : vp_nar .boolean (gx_i v) = gx_i v := by
  rcases h with rfl | rfl
  · decide
  · decide
theorem gx_bool_fit {v : Int} (h : v = 0 ∨ v = 1) : narrow .boolean (.int (gx_i v)) = .int (gx_i v) ∧ fits .boolean (.int (gx_i v)) = true := by
  rcases h with rfl | rfl
  · exact ⟨by decide, by decide⟩
  · exact ⟨by decide, by decide⟩
theorem gx_usL {f : Nat → Int64} {k : Nat} {x : Int64} : vp_updL f k x k = x := if_pos rfl
theorem gx_unL {f : Nat → Int64} {k j : Nat} {x : Int64} (h : j ≠ k) : vp_updL f k x j = f j := if_neg h
