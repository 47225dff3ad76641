/-! what is told of the script's ints: bounds; the facts that follow -/
def y_PI (op : Nat) (x v : Int) : Prop := match op with
  | 0 => x = v
  | 1 => ¬ x = v
  | 2 => x < v
  | 3 => v ≤ x
  | 4 => v < x
  | _ => x ≤ v
def y_vI (n : Nat) : Int := (y_sg n : Int) - 2147483648
theorem y_PI_ok (op : Nat) (x : Int32) (n : Nat) : y_P op x (nI n) ↔ y_PI op x.toInt (y_vI n) := by
  have e : y_vI n = (nI n).toInt := (y_int n).symm
  rw [e]
  rcases op with _ | _ | _ | _ | _ | op
  · exact Int32.toInt_inj.symm
  · exact not_congr Int32.toInt_inj.symm
  · exact Int32.lt_iff_toInt_lt
  · exact Int32.le_iff_toInt_le
  · exact Int32.lt_iff_toInt_lt
  · exact Int32.le_iff_toInt_le
def y_bT (op : Nat) (lo hi : Int) (nz : Bool) (v : Int) : Bool := match op with
  | 0 => decide (lo = v) && decide (hi = v)
  | 1 => decide (hi < v) || (decide (v < lo) || (nz && decide (v = 0)))
  | 2 => decide (hi < v)
  | 3 => decide (v ≤ lo)
  | 4 => decide (v < lo)
  | _ => decide (hi ≤ v)
def y_bF (op : Nat) (lo hi : Int) (nz : Bool) (v : Int) : Bool := match op with
  | 0 => decide (hi < v) || (decide (v < lo) || (nz && decide (v = 0)))
  | 1 => decide (lo = v) && decide (hi = v)
  | 2 => decide (v ≤ lo)
  | 3 => decide (hi < v)
  | 4 => decide (hi ≤ v)
  | _ => decide (v < lo)
theorem y_bT_ok {op : Nat} {lo hi v x : Int} {nz : Bool} (h0 : lo ≤ x ∧ x ≤ hi ∧ (nz = true → ¬ x = 0)) (h : y_bT op lo hi nz v = true) : y_PI op x v := by
  obtain ⟨h1, h2, h3⟩ := h0
  rcases op with _ | _ | _ | _ | _ | op <;> simp only [y_bT, Bool.and_eq_true, Bool.or_eq_true, decide_eq_true_eq] at h
  · show x = v
    omega
  · show ¬ x = v
    rcases h with h | h | ⟨h, h4⟩
    · omega
    · omega
    · have h5 := h3 h
      omega
  · show x < v
    omega
  · show v ≤ x
    omega
  · show v < x
    omega
  · show x ≤ v
    omega
theorem y_bF_ok {op : Nat} {lo hi v x : Int} {nz : Bool} (h0 : lo ≤ x ∧ x ≤ hi ∧ (nz = true → ¬ x = 0)) (h : y_bF op lo hi nz v = true) : ¬ y_PI op x v := by
  obtain ⟨h1, h2, h3⟩ := h0
  rcases op with _ | _ | _ | _ | _ | op <;> simp only [y_bF, Bool.and_eq_true, Bool.or_eq_true, decide_eq_true_eq] at h
  · show ¬ (x = v)
    rcases h with h | h | ⟨h, h4⟩
    · omega
    · omega
    · have h5 := h3 h
      omega
  · show ¬ (¬ x = v)
    omega
  · show ¬ (x < v)
    omega
  · show ¬ (v ≤ x)
    omega
  · show ¬ (v < x)
    omega
  · show ¬ (x ≤ v)
    omega
/-- bounds: of which int, the least, the most, whether it is told that it is not 0 -/
abbrev yB : Type := List (Nat × Int × Int × Bool)
def y_bd (xs : Nat → Int32) : yB → Prop
  | [] => True
  | q :: r => (q.2.1 ≤ (xs q.1).toInt ∧ (xs q.1).toInt ≤ q.2.2.1 ∧ (q.2.2.2 = true → ¬ (xs q.1).toInt = 0)) ∧ y_bd xs r
def y_bget : yB → Nat → Option (Int × Int × Bool)
  | [], _ => none
  | q :: r, j => bif Nat.beq q.1 j then some q.2 else y_bget r j
theorem y_bd_get {xs : Nat → Int32} {bd : yB} {j : Nat} {b : Int × Int × Bool} (h : y_bd xs bd) (hi : y_bget bd j = some b) : b.1 ≤ (xs j).toInt ∧ (xs j).toInt ≤ b.2.1 ∧ (b.2.2 = true → ¬ (xs j).toInt = 0) := by
  induction bd with
  | nil => cases hi
  | cons q r ih =>
    unfold y_bget at hi
    cases hc : Nat.beq q.1 j with
    | true =>
      rw [hc] at hi
      have e := y_beq.mp hc
      have e2 : q.2 = b := Option.some.inj hi
      rw [← e, ← e2]
      exact h.1
    | false =>
      rw [hc] at hi
      exact ih h.2 hi
def y_flip (op : Nat) : Nat := match op with
  | 0 => 0
  | 1 => 1
  | 2 => 4
  | 3 => 5
  | 4 => 2
  | _ => 3
theorem y_flip_ok (op : Nat) (x y : Int32) : y_P op x y ↔ y_P (y_flip op) y x := by
  unfold y_flip
  split
  · exact eq_comm
  · exact not_congr eq_comm
  · exact Iff.rfl
  · exact Iff.rfl
  · exact Iff.rfl
  · next h0 h1 h2 h3 h4 =>
    unfold y_P
    split <;> first | exact Iff.rfl | contradiction
/-- each fact follows from the bounds -/
def y_chk1 (bd : yB) (q : Nat × yI × yI × Bool) : Bool := match q.2.1, q.2.2.1 with
  | .inr j, .inl n => match y_bget bd j with
    | some b => bif q.2.2.2 then y_bT q.1 b.1 b.2.1 b.2.2 (y_vI n) else y_bF q.1 b.1 b.2.1 b.2.2 (y_vI n)
    | none => false
  | .inl n, .inr j => match y_bget bd j with
    | some b => bif q.2.2.2 then y_bT (y_flip q.1) b.1 b.2.1 b.2.2 (y_vI n) else y_bF (y_flip q.1) b.1 b.2.1 b.2.2 (y_vI n)
    | none => false
  | _, _ => false
def y_chkT1 (kd : Nat) (bd : yB) (q : Nat × yI × yI × yI) : Bool := match q.1, q.2.1, q.2.2.1, q.2.2.2 with
  | 20, .inr j, .inr _, .inl n => match y_bget bd j with
    | some b => decide (b.1 = y_vI n) && decide (b.2.1 = y_vI n)
    | none => false
  | 0, .inr 0, .inl 31, .inl k => Nat.beq k kd
  | 1, .inr j, .inl 0, .inr i => Nat.beq i j
  | 16, .inr j, .inr _, .inr i => Nat.beq i j
  | 14, .inl a, .inl b, .inl 0 => Nat.beq a b
  | _, _, _, _ => false
theorem y_chk_ok {κ : yK} {bd : yB} {hy : yF} (hb : y_bd κ.1 bd) (h : hy.all (y_chk1 bd) = true) : y_H κ hy := by
  intro q hq
  have h1 := List.all_eq_true.mp h q hq
  obtain ⟨op, a, b, t⟩ := q
  unfold y_chk1 at h1
  dsimp only at h1 ⊢
  rcases a with n | j <;> rcases b with n | b
  · cases h1
  · dsimp only at h1
    cases hj : y_bget bd b with
    | none => rw [hj] at h1; cases h1
    | some c =>
      rw [hj] at h1
      dsimp only at h1
      have hc := y_bd_get hb hj
      have e : y_P op (y_i κ (.inl n)) (y_i κ (.inr b)) ↔ y_PI (y_flip op) (κ.1 b).toInt (y_vI n) := (y_flip_ok op (nI n) (κ.1 b)).trans (y_PI_ok (y_flip op) (κ.1 b) n)
      rw [e]
      cases t with
      | true => exact ⟨fun _ => rfl, fun _ => y_bT_ok hc h1⟩
      | false => exact ⟨fun z => absurd z (y_bF_ok hc h1), fun z => by cases z⟩
  · dsimp only at h1
    cases hj : y_bget bd j with
    | none => rw [hj] at h1; cases h1
    | some c =>
      rw [hj] at h1
      dsimp only at h1
      have hc := y_bd_get hb hj
      have e : y_P op (y_i κ (.inr j)) (y_i κ (.inl n)) ↔ y_PI op (κ.1 j).toInt (y_vI n) := y_PI_ok op (κ.1 j) n
      rw [e]
      cases t with
      | true => exact ⟨fun _ => rfl, fun _ => y_bT_ok hc h1⟩
      | false => exact ⟨fun z => absurd z (y_bF_ok hc h1), fun z => by cases z⟩
  · cases h1
theorem y_chkT_ok {κ : yK} {kd : Nat} {bd : yB} {tb : yT} (hb : y_bd κ.1 bd) (hk : κ.1 0 &&& 31 = nI kd) (hl : ∀ j, κ.2.1 j = (κ.1 j).toInt64) (h : tb.all (y_chkT1 kd bd) = true) : y_T κ tb := by
  intro q hq
  have h1 := List.all_eq_true.mp h q hq
  obtain ⟨op, a, b, r⟩ := q
  unfold y_chkT1 at h1
  dsimp only at h1 ⊢
  split at h1
  · next j _ n =>
    cases hj : y_bget bd j with
    | none => rw [hj] at h1; cases h1
    | some c =>
      rw [hj] at h1
      simp only [Bool.and_eq_true, decide_eq_true_eq] at h1
      have hc := y_bd_get hb hj
      show κ.1 j = nI n
      apply Int32.toInt_inj.mp
      rw [y_int]
      unfold y_vI at h1
      omega
  · next k =>
    have e := y_beq.mp h1
    subst e
    exact hk
  · next j i =>
    have e := y_beq.mp h1
    subst e
    exact sb_shr0 (κ.1 i)
  · next j _ i =>
    have e := y_beq.mp h1
    subst e
    exact (hl i).symm
  · next a b =>
    have e := y_beq.mp h1
    subst e
    show lg_cmp (lN a) (lN a) = nI 0
    unfold lg_cmp
    simp
    rfl
  · cases h1
/-- the law's end, with 1 -/
def y_won (o : Option yS) : Bool := match o with
  | some S => Nat.beq S.1 848 && ((match S.2.2.1 with
    | [.inl (.inl 1)] => true
    | _ => false) && (Nat.ble S.2.2.2.2.1 600000 && Nat.ble S.2.2.2.2.2 7302250))
  | none => false
def z_S0 : yS := (0, [(0, .inr (.inr (some 0)))], [], [], 0, 0)
def z_run (L : Nat) (hy : yF) (tb : yT) : Bool := y_won (y_go z_mt L hy tb 12000 true 20 zL_law z_S0)
def z_case (kd : Nat) (bd : yB) (hy : yF) (tb : yT) : Bool := hy.all (y_chk1 bd) && (tb.all (y_chkT1 kd bd) && z_run 5 hy tb)
/-- the law comes to its end with 1 -/
def z_Won (xs : Nat → Int32) (L : Nat) : Prop := ∀ b : Nat, ∃ (rh : Nat → Int32) (la : Nat → Int64) (hy : yF) (tb : yT), (∀ j, j < L → rh j = xs j) ∧ y_H (rh, la, b, L) hy ∧ y_T (rh, la, b, L) tb ∧ z_run L hy tb = true
theorem z_use {xs : Nat → Int32} {kd : Nat} {bd : yB} {hy : yF} {tb : yT} (h : z_case kd bd hy tb = true) (hk : xs 0 &&& 31 = nI kd) (hb : y_bd xs bd) : z_Won xs 5 := by
  unfold z_case at h
  simp only [Bool.and_eq_true] at h
  exact fun b => ⟨xs, fun j => (xs j).toInt64, hy, tb, fun _ _ => rfl, y_chk_ok (κ := (xs, _, b, 5)) hb h.1, y_chkT_ok (κ := (xs, _, b, 5)) hb hk (fun _ => rfl) h.2.1, h.2.2⟩
theorem y_lo (x : Int32) : -2147483648 ≤ x.toInt ∧ x.toInt ≤ 2147483647 := by
  have h1 := Int32.le_toInt x
  have h2 := Int32.toInt_lt x
  omega
