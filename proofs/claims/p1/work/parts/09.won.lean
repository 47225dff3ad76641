/-! what is told of the script's ints: bounds; the facts that follow -/
def y_PI (op : Nat) (x v : Int) : Prop := match op with
  | 0 => x = v
  | 1 => ¬ x = v
  | 2 => x < v
  | 3 => v ≤ x
  | 4 => v < x
  | _ => x ≤ v
def y_vI (n : Nat) : Int := (y_sg n : Int) - 2147483648
theorem y_PI_ok (op : Nat) (x : Int32) (n : Nat) : y_P op x (nI n) ↔ y_PI op x.toInt (y_vI n) := by
  have e : y_vI n = (nI n).toInt := (y_int n).symm
  rw [e]
  rcases op with _ | _ | _ | _ | _ | op
  · exact Int32.toInt_inj.symm
  · exact not_congr Int32.toInt_inj.symm
  · exact Int32.lt_iff_toInt_lt
  · exact Int32.le_iff_toInt_le
  · exact Int32.lt_iff_toInt_lt
  · exact Int32.le_iff_toInt_le
def y_bT (op : Nat) (lo hi : Int) (nz : Bool) (v : Int) : Bool := match op with
  | 0 => decide (lo = v) && decide (hi = v)
  | 1 => decide (hi < v) || (decide (v < lo) || (nz && decide (v = 0)))
  | 2 => decide (hi < v)
  | 3 => decide (v ≤ lo)
  | 4 => decide (v < lo)
  | _ => decide (hi ≤ v)
def y_bF (op : Nat) (lo hi : Int) (nz : Bool) (v : Int) : Bool := match op with
  | 0 => decide (hi < v) || (decide (v < lo) || (nz && decide (v = 0)))
  | 1 => decide (lo = v) && decide (hi = v)
  | 2 => decide (v ≤ lo)
  | 3 => decide (hi < v)
  | 4 => decide (hi ≤ v)
  | _ => decide (v < lo)
theorem y_bT_ok {op : Nat} {lo hi v x : Int} {nz : Bool} (h0 : lo ≤ x ∧ x ≤ hi ∧ (nz = true → ¬ x = 0)) (h : y_bT op lo hi nz v = true) : y_PI op x v := by
  obtain ⟨h1, h2, h3⟩ := h0
  rcases op with _ | _ | _ | _ | _ | op <;> simp only [y_bT, Bool.and_eq_true, Bool.or_eq_true, decide_eq_true_eq] at h
  · show x = v
    omega
  · show ¬ x = v
    rcases h with h | h | ⟨h, h4⟩
    · omega
    · omega
    · have h5 := h3 h
      omega
  · show x < v
    omega
  · show v ≤ x
    omega
  · show v < x
    omega
  · show x ≤ v
    omega
theorem y_bF_ok {op : Nat} {lo hi v x : Int} {nz : Bool} (h0 : lo ≤ x ∧ x ≤ hi ∧ (nz = true → ¬ x = 0)) (h : y_bF op lo hi nz v = true) : ¬ y_PI op x v := by
  obtain ⟨h1, h2, h3⟩ := h0
  rcases op with _ | _ | _ | _ | _ | op <;> simp only [y_bF, Bool.and_eq_true, Bool.or_eq_true, decide_eq_true_eq] at h
  · show ¬ (x = v)
    rcases h with h | h | ⟨h, h4⟩
    · omega
    · omega
    · have h5 := h3 h
      omega
  · show ¬ (¬ x = v)
    omega
  · show ¬ (x < v)
    omega
  · show ¬ (v ≤ x)
    omega
  · show ¬ (v < x)
    omega
  · show ¬ (x ≤ v)
    omega
/-- bounds: of which int, the least, the most, whether it is told that it is not 0 -/
abbrev yB : Type := List (Nat × Int × Int × Bool)
def y_bd (xs : Nat → Int32) : yB → Prop
  | [] => True
  | q :: r => (q.2.1 ≤ (xs q.1).toInt ∧ (xs q.1).toInt ≤ q.2.2.1 ∧ (q.2.2.2 = true → ¬ (xs q.1).toInt = 0)) ∧ y_bd xs r
def y_bget : yB → Nat → Option (Int × Int × Bool)
  | [], _ => none
  | q :: r, j => bif Nat.beq q.1 j then some q.2 else y_bget r j
theorem y_bd_get {xs : Nat → Int32} {bd : yB} {j : Nat} {b : Int × Int × Bool} (h : y_bd xs bd) (hi : y_bget bd j = some b) : b.1 ≤ (xs j).toInt ∧ (xs j).toInt ≤ b.2.1 ∧ (b.2.2 = true → ¬ (xs j).toInt = 0) := by
  induction bd with
  | nil => cases hi
  | cons q r ih =>
    unfold y_bget at hi
    cases hc : Nat.beq q.1 j with
    | true =>
      rw [hc] at hi
      have e := y_beq.mp hc
      have e2 : q.2 = b := Option.some.inj hi
      rw [← e, ← e2]
      exact h.1
    | false =>
      rw [hc] at hi
      exact ih h.2 hi
def y_flip (op : Nat) : Nat := match op with
  | 0 => 0
  | 1 => 1
  | 2 => 4
  | 3 => 5
  | 4 => 2
  | _ => 3
theorem y_flip_ok (op : Nat) (x y : Int32) : y_P op x y ↔ y_P (y_flip op) y x := by
  unfold y_flip
  split
  · exact eq_comm
  · exact not_congr eq_comm
  · exact Iff.rfl
  · exact Iff.rfl
  · exact Iff.rfl
  · next h0 h1 h2 h3 h4 =>
    unfold y_P
    split <;> first | exact Iff.rfl | contradiction
/-- each fact follows from the bounds -/
def y_chk1 (bd : yB) (q : Nat × yI × yI × Bool) : Bool := match q.2.1, q.2.2.1 with
  | .inr j, .inl n => match y_bget bd j with
    | some b => bif q.2.2.2 then y_bT q.1 b.1 b.2.1 b.2.2 (y_vI n) else y_bF q.1 b.1 b.2.1 b.2.2 (y_vI n)
    | none => false
  | .inl n, .inr j => match y_bget bd j with
    | some b => bif q.2.2.2 then y_bT (y_flip q.1) b.1 b.2.1 b.2.2 (y_vI n) else y_bF (y_flip q.1) b.1 b.2.1 b.2.2 (y_vI n)
    | none => false
  | _, _ => false
def y_chkT1 (kd : Nat) (bd : yB) (q : Nat × yI × yI × yI) : Bool := match q.1, q.2.1, q.2.2.1, q.2.2.2 with
  | 20, .inr j, .inr _, .inl n => match y_bget bd j with
    | some b => decide (b.1 = y_vI n) && decide (b.2.1 = y_vI n)
    | none => false
  | 0, .inr 0, .inl 31, .inl k => Nat.beq k kd
  | 1, .inr j, .inl 0, .inr i => Nat.beq i j
  | 16, .inr j, .inr _, .inr i => Nat.beq i j
  | 14, .inl a, .inl b, .inl 0 => Nat.beq a b
  | _, _, _, _ => false
theorem y_chk_ok {κ : yK} {bd : yB} {hy : yF} (hb : y_bd κ.1 bd) (h : hy.all (y_chk1 bd) = true) : y_H κ hy := by
  intro q hq
  have h1 := List.all_eq_true.mp h q hq
  obtain ⟨op, a, b, t⟩ := q
  unfold y_chk1 at h1
  dsimp only at h1 ⊢
  rcases a with n | j <;> rcases b with n | b
  · cases h1
  · dsimp only at h1
    cases hj : y_bget bd b with
    | none => rw [hj] at h1; cases h1
    | some c =>
      rw [hj] at h1
      dsimp only at h1
      have hc := y_bd_get hb hj
      have e : y_P op (y_i κ (.inl n)) (y_i κ (.inr b)) ↔ y_PI (y_flip op) (κ.1 b).toInt (y_vI n) := (y_flip_ok op (nI n) (κ.1 b)).trans (y_PI_ok (y_flip op) (κ.1 b) n)
      rw [e]
      cases t with
      | true => exact ⟨fun _ => rfl, fun _ => y_bT_ok hc h1⟩
      | false => exact ⟨fun z => absurd z (y_bF_ok hc h1), fun z => by cases z⟩
  · dsimp only at h1
    cases hj : y_bget bd j with
    | none => rw [hj] at h1; cases h1
    | some c =>
      rw [hj] at h1
      dsimp only at h1
      have hc := y_bd_get hb hj
      have e : y_P op (y_i κ (.inr j)) (y_i κ (.inl n)) ↔ y_PI op (κ.1 j).toInt (y_vI n) := y_PI_ok op (κ.1 j) n
      rw [e]
      cases t with
      | true => exact ⟨fun _ => rfl, fun _ => y_bT_ok hc h1⟩
      | false => exact ⟨fun z => absurd z (y_bF_ok hc h1), fun z => by cases z⟩
  · cases h1
theorem y_chkT_ok {κ : yK} {kd : Nat} {bd : yB} {tb : yT} (hb : y_bd κ.1 bd) (hk : κ.1 0 &&& 31 = nI kd) (hl : ∀ j, κ.2.1 j = (κ.1 j).toInt64) (h : tb.all (y_chkT1 kd bd) = true) : y_T κ tb := by
  intro q hq
  have h1 := List.all_eq_true.mp h q hq
  obtain ⟨op, a, b, r⟩ := q
  unfold y_chkT1 at h1
  dsimp only at h1 ⊢
  split at h1
  · next j _ n =>
    cases hj : y_bget bd j with
    | none => rw [hj] at h1; cases h1
    | some c =>
      rw [hj] at h1
      simp only [Bool.and_eq_true, decide_eq_true_eq] at h1
      have hc := y_bd_get hb hj
      show κ.1 j = nI n
      apply Int32.toInt_inj.mp
      rw [y_int]
      unfold y_vI at h1
      omega
  · next k =>
    have e := y_beq.mp h1
    subst e
    exact hk
  · next j i =>
    have e := y_beq.mp h1
    subst e
    exact sb_shr0 (κ.1 i)
  · next j _ i =>
    have e := y_beq.mp h1
    subst e
    exact (hl i).symm
  · next a b =>
    have e := y_beq.mp h1
    subst e
    show lg_cmp (lN a) (lN a) = nI 0
    unfold lg_cmp
    simp
    rfl
  · cases h1
/-- the law's end, with 1 -/
def y_won (o : Option yS) : Bool := match o with
  | some S => Nat.beq S.1 848 && ((match S.2.2.1 with
    | [.inl (.inl 1)] => true
    | _ => false) && (Nat.ble S.2.2.2.2.1 600000 && Nat.ble S.2.2.2.2.2 7302250))
  | none => false
def z_S0 : yS := (0, [(0, .inr (.inr (some 0)))], [], [], 0, 0)
/-- the state at the law's loop, five ints given: both objects made -/
def z_S1 : yS := (26, [(3, .inl (.inl 0)), (2, .inr (.inr (some 105))), (1, .inr (.inr (some 1))), (0, .inr (.inr (some 0)))], [], [.inl (7, [.inr (.inr (some 2)), .inr (.inr (some 8)), .inr (.inr (some 52)), .inr (.inr (some 65)), .inr (.inr (some 66)), .inr (.inr (some 68)), .inr (.inr (some 80)), .inr (.inr (some 92))]), .inl (2, [.inl (.inl 0), .inl (.inl 0), .inr (.inr (some 3)), .inr (.inr (some 4)), .inr (.inr (some 5)), .inr (.inr (some 6)), .inr (.inr (some 7))]), .inr (.inl (0, 8, [])), .inr (.inl (0, 8, [])), .inr (.inl (0, 8, [])), .inr (.inl (0, 64, [])), .inr (.inl (0, 64, [])), .inl (0, [.inr (.inr (some 9)), .inl (.inl 0), .inl (.inl 0)]), .inr (.inr (2, 7, [(6, some 46), (5, some 40), (4, some 34), (3, some 28), (2, some 22), (1, some 16), (0, some 10)])), .inl (2, [.inl (.inl 0), .inl (.inl 0), .inr (.inr (some 11)), .inr (.inr (some 12)), .inr (.inr (some 13)), .inr (.inr (some 14)), .inr (.inr (some 15))]), .inr (.inl (0, 8, [])), .inr (.inl (0, 8, [])), .inr (.inl (0, 8, [])), .inr (.inl (0, 64, [])), .inr (.inl (0, 64, [])), .inl (2, [.inl (.inl 0), .inl (.inl 0), .inr (.inr (some 17)), .inr (.inr (some 18)), .inr (.inr (some 19)), .inr (.inr (some 20)), .inr (.inr (some 21))]), .inr (.inl (0, 8, [])), .inr (.inl (0, 8, [])), .inr (.inl (0, 8, [])), .inr (.inl (0, 64, [])), .inr (.inl (0, 64, [])), .inl (2, [.inl (.inl 0), .inl (.inl 0), .inr (.inr (some 23)), .inr (.inr (some 24)), .inr (.inr (some 25)), .inr (.inr (some 26)), .inr (.inr (some 27))]), .inr (.inl (0, 8, [])), .inr (.inl (0, 8, [])), .inr (.inl (0, 8, [])), .inr (.inl (0, 64, [])), .inr (.inl (0, 64, [])), .inl (2, [.inl (.inl 0), .inl (.inl 0), .inr (.inr (some 29)), .inr (.inr (some 30)), .inr (.inr (some 31)), .inr (.inr (some 32)), .inr (.inr (some 33))]), .inr (.inl (0, 8, [])), .inr (.inl (0, 8, [])), .inr (.inl (0, 8, [])), .inr (.inl (0, 64, [])), .inr (.inl (0, 64, [])), .inl (2, [.inl (.inl 0), .inl (.inl 0), .inr (.inr (some 35)), .inr (.inr (some 36)), .inr (.inr (some 37)), .inr (.inr (some 38)), .inr (.inr (some 39))]), .inr (.inl (0, 8, [])), .inr (.inl (0, 8, [])), .inr (.inl (0, 8, [])), .inr (.inl (0, 64, [])), .inr (.inl (0, 64, [])), .inl (2, [.inl (.inl 0), .inl (.inl 0), .inr (.inr (some 41)), .inr (.inr (some 42)), .inr (.inr (some 43)), .inr (.inr (some 44)), .inr (.inr (some 45))]), .inr (.inl (0, 8, [])), .inr (.inl (0, 8, [])), .inr (.inl (0, 8, [])), .inr (.inl (0, 64, [])), .inr (.inl (0, 64, [])), .inl (2, [.inl (.inl 0), .inl (.inl 0), .inr (.inr (some 47)), .inr (.inr (some 48)), .inr (.inr (some 49)), .inr (.inr (some 50)), .inr (.inr (some 51))]), .inr (.inl (0, 8, [])), .inr (.inl (0, 8, [])), .inr (.inl (0, 8, [])), .inr (.inl (0, 64, [])), .inr (.inl (0, 64, [])), .inr (.inr (2, 2, [(1, some 59), (0, some 53)])), .inl (2, [.inl (.inl 0), .inl (.inl 0), .inr (.inr (some 54)), .inr (.inr (some 55)), .inr (.inr (some 56)), .inr (.inr (some 57)), .inr (.inr (some 58))]), .inr (.inl (0, 8, [])), .inr (.inl (0, 8, [])), .inr (.inl (0, 8, [])), .inr (.inl (0, 64, [])), .inr (.inl (0, 64, [])), .inl (2, [.inl (.inl 0), .inl (.inl 0), .inr (.inr (some 60)), .inr (.inr (some 61)), .inr (.inr (some 62)), .inr (.inr (some 63)), .inr (.inr (some 64))]), .inr (.inl (0, 8, [])), .inr (.inl (0, 8, [])), .inr (.inl (0, 8, [])), .inr (.inl (0, 64, [])), .inr (.inl (0, 64, [])), .inr (.inl (1, 2, [])), .inl (3, [.inr (.inr (some 67)), .inl (.inl 0)]), .inr (.inl (2, 80, [])), .inl (5, [.inr (.inr (some 69)), .inl (.inl 0), .inr (.inr (some 75)), .inr (.inr (some 76)), .inr (.inr (some 77)), .inr (.inr (some 78)), .inr (.inr (some 79)), .inl (.inl 0)]), .inl (2, [.inl (.inl 0), .inl (.inl 0), .inr (.inr (some 70)), .inr (.inr (some 71)), .inr (.inr (some 72)), .inr (.inr (some 73)), .inr (.inr (some 74))]), .inr (.inl (0, 8, [])), .inr (.inl (0, 8, [])), .inr (.inl (0, 8, [])), .inr (.inl (0, 64, [])), .inr (.inl (0, 64, [])), .inr (.inl (0, 64, [])), .inr (.inl (0, 8, [])), .inr (.inl (0, 8, [])), .inr (.inl (1, 256, [])), .inr (.inl (0, 64, [])), .inl (4, [.inr (.inr (some 81)), .inr (.inr (some 90)), .inr (.inr (some 91)), .inl (.inl 0)]), .inl (1, [.inr (.inr (some 82)), .inl (.inl 0), .inr (.inr (some 88)), .inr (.inr (some 89)), .inl (.inl 0), .inl (.inl 0), .inl (.inl 0)]), .inl (2, [.inl (.inl 0), .inl (.inl 0), .inr (.inr (some 83)), .inr (.inr (some 84)), .inr (.inr (some 85)), .inr (.inr (some 86)), .inr (.inr (some 87))]), .inr (.inl (0, 8, [])), .inr (.inl (0, 8, [])), .inr (.inl (0, 8, [])), .inr (.inl (0, 64, [])), .inr (.inl (0, 64, [])), .inr (.inl (0, 2400, [])), .inr (.inl (0, 8, [])), .inr (.inl (0, 300, [])), .inr (.inl (0, 1024, [])), .inl (6, [.inr (.inr (some 93)), .inr (.inr (some 102)), .inr (.inr (some 103)), .inr (.inr (some 104)), .inl (.inl 0)]), .inl (1, [.inr (.inr (some 94)), .inl (.inl 0), .inr (.inr (some 100)), .inr (.inr (some 101)), .inl (.inl 0), .inl (.inl 0), .inl (.inl 0)]), .inl (2, [.inl (.inl 0), .inl (.inl 0), .inr (.inr (some 95)), .inr (.inr (some 96)), .inr (.inr (some 97)), .inr (.inr (some 98)), .inr (.inr (some 99))]), .inr (.inl (0, 8, [])), .inr (.inl (0, 8, [])), .inr (.inl (0, 8, [])), .inr (.inl (0, 64, [])), .inr (.inl (0, 64, [])), .inr (.inl (0, 2400, [])), .inr (.inl (0, 8, [])), .inr (.inl (0, 300, [])), .inr (.inl (0, 300, [])), .inr (.inl (0, 300, [])), .inl (8, [.inr (.inr (some 106)), .inr (.inr (some 107)), .inl (.inl 0), .inr (.inr (some 108)), .inr (.inr (some 109)), .inr (.inr (some 110)), .inl (.inl 0), .inr (.inr (some 111)), .inr (.inr (some 112)), .inr (.inr (some 113)), .inl (.inl 0), .inr (.inr (some 114)), .inr (.inr (some 115)), .inr (.inr (some 116)), .inl (.inl 0), .inl (.inl 0), .inl (.inl 0), .inl (.inl 0), .inr (.inr (some 117)), .inr (.inr (some 118)), .inl (.inl 0)]), .inr (.inl (0, 154, [(0, .inl 0)])), .inr (.inl (0, 924, [])), .inr (.inl (0, 308, [])), .inr (.inl (0, 2, [])), .inr (.inl (0, 80, [])), .inr (.inl (0, 2408, [])), .inr (.inl (0, 301, [])), .inr (.inl (0, 301, [])), .inr (.inl (0, 8, [])), .inr (.inl (0, 8, [])), .inr (.inl (1, 256, [])), .inr (.inl (0, 10, [])), .inr (.inl (0, 10, []))], 118, 14433)
def zL_cut : yE := (zL_law.1, zL_law.2.1, zL_law.2.2.1, zL_law.2.2.2.1, zL_law.2.2.2.2.filter (fun q => !(Nat.beq q.1 26)))
def y_eqO : Option Nat → Option Nat → Bool
  | none, none => true
  | some a, some b => Nat.beq a b
  | _, _ => false
def y_eqV : yV → yV → Bool
  | .inl a, .inl b => y_eqI a b
  | .inr (.inl a), .inr (.inl b) => y_eqI a b
  | .inr (.inr a), .inr (.inr b) => y_eqO a b
  | _, _ => false
def y_eqL {T : Type} (f : T → T → Bool) : List T → List T → Bool
  | [], [] => true
  | a :: r, b :: q => f a b && y_eqL f r q
  | _, _ => false
def y_eqP {T : Type} (f : T → T → Bool) (a b : Nat × T) : Bool := Nat.beq a.1 b.1 && f a.2 b.2
def y_eqC : yC → yC → Bool
  | .inl a, .inl b => y_eqP (y_eqL y_eqV) a b
  | .inr (.inl a), .inr (.inl b) => y_eqP (y_eqP (y_eqL (y_eqP y_eqI))) a b
  | .inr (.inr a), .inr (.inr b) => y_eqP (y_eqP (y_eqL (y_eqP y_eqO))) a b
  | _, _ => false
def y_eqS (a b : yS) : Bool := Nat.beq a.1 b.1 && (y_eqL (y_eqP y_eqV) a.2.1 b.2.1 && (y_eqL y_eqV a.2.2.1 b.2.2.1 && (y_eqL y_eqC a.2.2.2.1 b.2.2.2.1 && (Nat.beq a.2.2.2.2.1 b.2.2.2.2.1 && Nat.beq a.2.2.2.2.2 b.2.2.2.2.2))))
theorem y_eqO_ok {a b : Option Nat} (h : y_eqO a b = true) : a = b := by
  cases a <;> cases b <;> first | rfl | (rw [y_beq.mp h]) | cases h
theorem y_eqV_ok {a b : yV} (h : y_eqV a b = true) : a = b := by
  rcases a with a | a | a <;> rcases b with b | b | b <;> first | (rw [y_eqI_ok h]) | (rw [y_eqO_ok h]) | cases h
theorem y_eqL_ok {T : Type} {f : T → T → Bool} (hf : ∀ {a b}, f a b = true → a = b) {l r : List T} (h : y_eqL f l r = true) : l = r := by
  induction l generalizing r with
  | nil => cases r with
    | nil => rfl
    | cons b q => cases h
  | cons a l ih => cases r with
    | nil => cases h
    | cons b q =>
      have h' : (f a b && y_eqL f l q) = true := h
      simp only [Bool.and_eq_true] at h'
      rw [hf h'.1, ih h'.2]
theorem y_eqP_ok {T : Type} {f : T → T → Bool} (hf : ∀ {a b}, f a b = true → a = b) {a b : Nat × T} (h : y_eqP f a b = true) : a = b := by
  unfold y_eqP at h
  simp only [Bool.and_eq_true] at h
  exact Prod.ext (y_beq.mp h.1) (hf h.2)
theorem y_eqC_ok {a b : yC} (h : y_eqC a b = true) : a = b := by
  rcases a with a | a | a <;> rcases b with b | b | b
  · rw [y_eqP_ok (y_eqL_ok y_eqV_ok) h]
  · cases h
  · cases h
  · cases h
  · rw [y_eqP_ok (y_eqP_ok (y_eqL_ok (y_eqP_ok y_eqI_ok))) h]
  · cases h
  · cases h
  · cases h
  · rw [y_eqP_ok (y_eqP_ok (y_eqL_ok (y_eqP_ok y_eqO_ok))) h]
theorem y_eqS_ok {a b : yS} (h : y_eqS a b = true) : a = b := by
  unfold y_eqS at h
  simp only [Bool.and_eq_true] at h
  obtain ⟨h1, h2, h3, h4, h5, h6⟩ := h
  exact Prod.ext (y_beq.mp h1) (Prod.ext (y_eqL_ok (y_eqP_ok y_eqV_ok) h2) (Prod.ext (y_eqL_ok y_eqV_ok h3) (Prod.ext (y_eqL_ok y_eqC_ok h4) (Prod.ext (y_beq.mp h5) (y_beq.mp h6)))))
def y_is (o : Option yS) (b : yS) : Bool := match o with
  | some a => y_eqS a b
  | none => false
theorem y_is_ok {o : Option yS} {b : yS} (h : y_is o b = true) : o = some b := by
  cases o with
  | none => cases h
  | some a => rw [y_eqS_ok (show y_eqS a b = true from h)]
set_option maxRecDepth 1000000 in
theorem z_preB : y_is (y_go z_mt 5 [] [] 12000 true 20 zL_cut z_S0) z_S1 = true := by decide +kernel
theorem z_pre : y_go z_mt 5 [] [] 12000 true 20 zL_cut z_S0 = some z_S1 := y_is_ok z_preB
def z_st (L : Nat) : yS := bif Nat.beq L 5 then z_S1 else z_S0
def z_run (L : Nat) (hy : yF) (tb : yT) : Bool := y_won (y_go z_mt L hy tb 12000 true 20 zL_law (z_st L))
def z_case (kd : Nat) (bd : yB) (hy : yF) (tb : yT) : Bool := hy.all (y_chk1 bd) && (tb.all (y_chkT1 kd bd) && z_run 5 hy tb)
/-- the law comes to its end with 1 -/
def z_Won (xs : Nat → Int32) (L : Nat) : Prop := ∀ b : Nat, ∃ (rh : Nat → Int32) (la : Nat → Int64) (hy : yF) (tb : yT), (∀ j, j < L → rh j = xs j) ∧ y_H (rh, la, b, L) hy ∧ y_T (rh, la, b, L) tb ∧ z_run L hy tb = true
theorem z_use {xs : Nat → Int32} {kd : Nat} {bd : yB} {hy : yF} {tb : yT} (h : z_case kd bd hy tb = true) (hk : xs 0 &&& 31 = nI kd) (hb : y_bd xs bd) : z_Won xs 5 := by
  unfold z_case at h
  simp only [Bool.and_eq_true] at h
  exact fun b => ⟨xs, fun j => (xs j).toInt64, hy, tb, fun _ _ => rfl, y_chk_ok (κ := (xs, _, b, 5)) hb h.1, y_chkT_ok (κ := (xs, _, b, 5)) hb hk (fun _ => rfl) h.2.1, h.2.2⟩
theorem y_lo (x : Int32) : -2147483648 ≤ x.toInt ∧ x.toInt ≤ 2147483647 := by
  have h1 := Int32.le_toInt x
  have h2 := Int32.toInt_lt x
  omega
