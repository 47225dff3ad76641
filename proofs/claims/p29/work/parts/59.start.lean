/-! the run of the law up to its loop, and what it leaves -/
def y_eqO : Option Nat → Option Nat → Bool
  | none, none => true
  | some a, some b => Nat.beq a b
  | _, _ => false
def y_eqV : yV → yV → Bool
  | .inl a, .inl b => y_eqI a b
  | .inr (.inl a), .inr (.inl b) => y_eqI a b
  | .inr (.inr a), .inr (.inr b) => y_eqO a b
  | _, _ => false
def y_eqL {T : Type} (f : T → T → Bool) : List T → List T → Bool
  | [], [] => true
  | a :: r, b :: q => f a b && y_eqL f r q
  | _, _ => false
def y_eqP {T : Type} (f : T → T → Bool) (a b : Nat × T) : Bool := Nat.beq a.1 b.1 && f a.2 b.2
def y_eqC : yC → yC → Bool
  | .inl a, .inl b => y_eqP (y_eqL y_eqV) a b
  | .inr (.inl a), .inr (.inl b) => y_eqP (y_eqP (y_eqL (y_eqP y_eqI))) a b
  | .inr (.inr a), .inr (.inr b) => y_eqP (y_eqP (y_eqL (y_eqP y_eqO))) a b
  | _, _ => false
def y_eqS (a b : yS) : Bool := Nat.beq a.1 b.1 && (y_eqL (y_eqP y_eqV) a.2.1 b.2.1 && (y_eqL y_eqV a.2.2.1 b.2.2.1 && (y_eqL y_eqC a.2.2.2.1 b.2.2.2.1 && (Nat.beq a.2.2.2.2.1 b.2.2.2.2.1 && Nat.beq a.2.2.2.2.2 b.2.2.2.2.2))))
theorem y_eqO_ok {a b : Option Nat} (h : y_eqO a b = true) : a = b := by
  cases a <;> cases b <;> first | rfl | (rw [y_beq.mp h]) | cases h
theorem y_eqV_ok {a b : yV} (h : y_eqV a b = true) : a = b := by
  rcases a with a | a | a <;> rcases b with b | b | b <;> first | (rw [y_eqI_ok h]) | (rw [y_eqO_ok h]) | cases h
theorem y_eqL_ok {T : Type} {f : T → T → Bool} (hf : ∀ {a b}, f a b = true → a = b) {l r : List T} (h : y_eqL f l r = true) : l = r := by
  induction l generalizing r with
  | nil => cases r with
    | nil => rfl
    | cons b q => cases h
  | cons a l ih => cases r with
    | nil => cases h
    | cons b q =>
      have h' : (f a b && y_eqL f l q) = true := h
      simp only [Bool.and_eq_true] at h'
      rw [hf h'.1, ih h'.2]
theorem y_eqP_ok {T : Type} {f : T → T → Bool} (hf : ∀ {a b}, f a b = true → a = b) {a b : Nat × T} (h : y_eqP f a b = true) : a = b := by
  unfold y_eqP at h
  simp only [Bool.and_eq_true] at h
  exact Prod.ext (y_beq.mp h.1) (hf h.2)
theorem y_eqC_ok {a b : yC} (h : y_eqC a b = true) : a = b := by
  rcases a with a | a | a <;> rcases b with b | b | b
  · rw [y_eqP_ok (y_eqL_ok y_eqV_ok) h]
  · cases h
  · cases h
  · cases h
  · rw [y_eqP_ok (y_eqP_ok (y_eqL_ok (y_eqP_ok y_eqI_ok))) h]
  · cases h
  · cases h
  · cases h
  · rw [y_eqP_ok (y_eqP_ok (y_eqL_ok (y_eqP_ok y_eqO_ok))) h]
theorem y_eqS_ok {a b : yS} (h : y_eqS a b = true) : a = b := by
  unfold y_eqS at h
  simp only [Bool.and_eq_true] at h
  obtain ⟨h1, h2, h3, h4, h5, h6⟩ := h
  exact Prod.ext (y_beq.mp h1) (Prod.ext (y_eqL_ok (y_eqP_ok y_eqV_ok) h2) (Prod.ext (y_eqL_ok y_eqV_ok h3) (Prod.ext (y_eqL_ok y_eqC_ok h4) (Prod.ext (y_beq.mp h5) (y_beq.mp h6)))))
def y_is (o : Option yS) (b : yS) : Bool := match o with
  | some a => y_eqS a b
  | none => false
theorem y_is_ok {o : Option yS} {b : yS} (h : y_is o b = true) : o = some b := by
  cases o with
  | none => cases h
  | some a => rw [y_eqS_ok (show y_eqS a b = true from h)]
def z_S0 : yS := (0, [(0, .inr (.inr (some 0)))], [], [], 0, 0)
/-- the state at the law's loop: the object and the law's seven rows made -/
def z_S51 : yS := (51, [(11, .inl (.inl 0)), (9, .inr (.inl (.inl 0))), (8, .inr (.inr (some 111))), (7, .inr (.inr (some 110))), (6, .inr (.inr (some 109))), (5, .inr (.inr (some 108))), (4, .inr (.inr (some 107))), (3, .inr (.inr (some 106))), (2, .inr (.inr (some 105))), (1, .inr (.inr (some 1))), (0, .inr (.inr (some 0)))], [], [.inl (7, [.inr (.inr (some 2)), .inr (.inr (some 8)), .inr (.inr (some 52)), .inr (.inr (some 65)), .inr (.inr (some 66)), .inr (.inr (some 68)), .inr (.inr (some 80)), .inr (.inr (some 92))]), .inl (2, [.inl (.inl 0), .inl (.inl 0), .inr (.inr (some 3)), .inr (.inr (some 4)), .inr (.inr (some 5)), .inr (.inr (some 6)), .inr (.inr (some 7))]), .inr (.inl (0, 8, [])), .inr (.inl (0, 8, [])), .inr (.inl (0, 8, [])), .inr (.inl (0, 64, [])), .inr (.inl (0, 64, [])), .inl (0, [.inr (.inr (some 9)), .inl (.inl 0), .inl (.inl 0)]), .inr (.inr (2, 7, [(6, some 46), (5, some 40), (4, some 34), (3, some 28), (2, some 22), (1, some 16), (0, some 10)])), .inl (2, [.inl (.inl 0), .inl (.inl 0), .inr (.inr (some 11)), .inr (.inr (some 12)), .inr (.inr (some 13)), .inr (.inr (some 14)), .inr (.inr (some 15))]), .inr (.inl (0, 8, [])), .inr (.inl (0, 8, [])), .inr (.inl (0, 8, [])), .inr (.inl (0, 64, [])), .inr (.inl (0, 64, [])), .inl (2, [.inl (.inl 0), .inl (.inl 0), .inr (.inr (some 17)), .inr (.inr (some 18)), .inr (.inr (some 19)), .inr (.inr (some 20)), .inr (.inr (some 21))]), .inr (.inl (0, 8, [])), .inr (.inl (0, 8, [])), .inr (.inl (0, 8, [])), .inr (.inl (0, 64, [])), .inr (.inl (0, 64, [])), .inl (2, [.inl (.inl 0), .inl (.inl 0), .inr (.inr (some 23)), .inr (.inr (some 24)), .inr (.inr (some 25)), .inr (.inr (some 26)), .inr (.inr (some 27))]), .inr (.inl (0, 8, [])), .inr (.inl (0, 8, [])), .inr (.inl (0, 8, [])), .inr (.inl (0, 64, [])), .inr (.inl (0, 64, [])), .inl (2, [.inl (.inl 0), .inl (.inl 0), .inr (.inr (some 29)), .inr (.inr (some 30)), .inr (.inr (some 31)), .inr (.inr (some 32)), .inr (.inr (some 33))]), .inr (.inl (0, 8, [])), .inr (.inl (0, 8, [])), .inr (.inl (0, 8, [])), .inr (.inl (0, 64, [])), .inr (.inl (0, 64, [])), .inl (2, [.inl (.inl 0), .inl (.inl 0), .inr (.inr (some 35)), .inr (.inr (some 36)), .inr (.inr (some 37)), .inr (.inr (some 38)), .inr (.inr (some 39))]), .inr (.inl (0, 8, [])), .inr (.inl (0, 8, [])), .inr (.inl (0, 8, [])), .inr (.inl (0, 64, [])), .inr (.inl (0, 64, [])), .inl (2, [.inl (.inl 0), .inl (.inl 0), .inr (.inr (some 41)), .inr (.inr (some 42)), .inr (.inr (some 43)), .inr (.inr (some 44)), .inr (.inr (some 45))]), .inr (.inl (0, 8, [])), .inr (.inl (0, 8, [])), .inr (.inl (0, 8, [])), .inr (.inl (0, 64, [])), .inr (.inl (0, 64, [])), .inl (2, [.inl (.inl 0), .inl (.inl 0), .inr (.inr (some 47)), .inr (.inr (some 48)), .inr (.inr (some 49)), .inr (.inr (some 50)), .inr (.inr (some 51))]), .inr (.inl (0, 8, [])), .inr (.inl (0, 8, [])), .inr (.inl (0, 8, [])), .inr (.inl (0, 64, [])), .inr (.inl (0, 64, [])), .inr (.inr (2, 2, [(1, some 59), (0, some 53)])), .inl (2, [.inl (.inl 0), .inl (.inl 0), .inr (.inr (some 54)), .inr (.inr (some 55)), .inr (.inr (some 56)), .inr (.inr (some 57)), .inr (.inr (some 58))]), .inr (.inl (0, 8, [])), .inr (.inl (0, 8, [])), .inr (.inl (0, 8, [])), .inr (.inl (0, 64, [])), .inr (.inl (0, 64, [])), .inl (2, [.inl (.inl 0), .inl (.inl 0), .inr (.inr (some 60)), .inr (.inr (some 61)), .inr (.inr (some 62)), .inr (.inr (some 63)), .inr (.inr (some 64))]), .inr (.inl (0, 8, [])), .inr (.inl (0, 8, [])), .inr (.inl (0, 8, [])), .inr (.inl (0, 64, [])), .inr (.inl (0, 64, [])), .inr (.inl (1, 2, [])), .inl (3, [.inr (.inr (some 67)), .inl (.inl 0)]), .inr (.inl (2, 80, [])), .inl (5, [.inr (.inr (some 69)), .inl (.inl 0), .inr (.inr (some 75)), .inr (.inr (some 76)), .inr (.inr (some 77)), .inr (.inr (some 78)), .inr (.inr (some 79)), .inl (.inl 0)]), .inl (2, [.inl (.inl 0), .inl (.inl 0), .inr (.inr (some 70)), .inr (.inr (some 71)), .inr (.inr (some 72)), .inr (.inr (some 73)), .inr (.inr (some 74))]), .inr (.inl (0, 8, [])), .inr (.inl (0, 8, [])), .inr (.inl (0, 8, [])), .inr (.inl (0, 64, [])), .inr (.inl (0, 64, [])), .inr (.inl (0, 64, [])), .inr (.inl (0, 8, [])), .inr (.inl (0, 8, [])), .inr (.inl (1, 256, [])), .inr (.inl (0, 64, [])), .inl (4, [.inr (.inr (some 81)), .inr (.inr (some 90)), .inr (.inr (some 91)), .inl (.inl 0)]), .inl (1, [.inr (.inr (some 82)), .inl (.inl 0), .inr (.inr (some 88)), .inr (.inr (some 89)), .inl (.inl 0), .inl (.inl 0), .inl (.inl 0)]), .inl (2, [.inl (.inl 0), .inl (.inl 0), .inr (.inr (some 83)), .inr (.inr (some 84)), .inr (.inr (some 85)), .inr (.inr (some 86)), .inr (.inr (some 87))]), .inr (.inl (0, 8, [])), .inr (.inl (0, 8, [])), .inr (.inl (0, 8, [])), .inr (.inl (0, 64, [])), .inr (.inl (0, 64, [])), .inr (.inl (0, 2400, [])), .inr (.inl (0, 8, [])), .inr (.inl (0, 300, [])), .inr (.inl (0, 1024, [])), .inl (6, [.inr (.inr (some 93)), .inr (.inr (some 102)), .inr (.inr (some 103)), .inr (.inr (some 104)), .inl (.inl 0)]), .inl (1, [.inr (.inr (some 94)), .inl (.inl 0), .inr (.inr (some 100)), .inr (.inr (some 101)), .inl (.inl 0), .inl (.inl 0), .inl (.inl 0)]), .inl (2, [.inl (.inl 0), .inl (.inl 0), .inr (.inr (some 95)), .inr (.inr (some 96)), .inr (.inr (some 97)), .inr (.inr (some 98)), .inr (.inr (some 99))]), .inr (.inl (0, 8, [])), .inr (.inl (0, 8, [])), .inr (.inl (0, 8, [])), .inr (.inl (0, 64, [])), .inr (.inl (0, 64, [])), .inr (.inl (0, 2400, [])), .inr (.inl (0, 8, [])), .inr (.inl (0, 300, [])), .inr (.inl (0, 300, [])), .inr (.inl (0, 300, [])), .inr (.inl (0, 2, [])), .inr (.inl (0, 16, [])), .inr (.inl (0, 4, [])), .inr (.inl (0, 4, [])), .inr (.inl (3, 60, [])), .inr (.inl (0, 60, [])), .inr (.inl (0, 60, []))], 111, 9848)
def zL_cut : yE := (zL_law.1, zL_law.2.1, zL_law.2.2.1, zL_law.2.2.2.1, zL_law.2.2.2.2.filter (fun q => !(Nat.beq q.1 51)))
set_option maxRecDepth 1000000 in
theorem z_preB : y_is (y_go z_mt 0 [] [] 12000 false 20 zL_cut z_S0) z_S51 = true := by decide +kernel
set_option maxHeartbeats 4000000 in
set_option maxRecDepth 100000 in
/-- where the script is not read its length is nothing to the run -/
theorem y_step_L (L : Nat) (hy : yF) (tb : yT) (pc : Nat) (o : yO) (l : yL) (st : List yV) (h : List yC) (c n : Nat) : y_step false L hy tb pc o l st h c n = y_step false 0 hy tb pc o l st h c n := by
  unfold y_step
  rfl
theorem y_go_L (mt : List yE) (L : Nat) (hy : yF) (tb : yT) : ∀ (f d : Nat) (e : yE) (S : yS), y_go mt L hy tb f false d e S = y_go mt 0 hy tb f false d e S := by
  intro f
  induction f with
  | zero => intro d e S; rfl
  | succ f ih =>
    intro d e S
    unfold y_go
    cases y_find e.2.2.2.2 S.1 with
    | none => rfl
    | some o =>
      dsimp only
      rw [y_step_L]
      simp only [ih]
theorem z_pre (L : Nat) : y_go z_mt L [] [] 12000 false 20 zL_cut z_S0 = some z_S51 := (y_go_L z_mt L [] [] 12000 20 zL_cut z_S0).trans (y_is_ok z_preB)
-- the two ways to see the cells
def gm_v : yV → gx_V → Bool
  | .inl (.inl a), .inl b => Nat.beq a 0 && decide (b = 0)
  | .inr (.inl (.inl a)), .inr (.inl b) => Nat.beq a 0 && decide (b = 0)
  | .inr (.inr (some i)), .inr (.inr (some j)) => Nat.beq i j
  | _, _ => false
theorem gm_v_ok {κ : yK} {α : List Nat} {v : yV} {w : gx_V} {x : Value} (h : gm_v v w = true) (hx : y_d κ α v = some x) : gx_d κ α w = some x := by
  unfold gm_v at h
  split at h
  · next a b =>
    simp only [Bool.and_eq_true, decide_eq_true_eq] at h
    have e1 := y_beq.mp h.1
    have e2 := h.2
    subst e1
    subst e2
    rw [← hx]
    show some (Value.int (gx_i 0)) = some (Value.int (nI 0))
    rw [show gx_i 0 = nI 0 from gx_nat 0]
  · next a b =>
    simp only [Bool.and_eq_true, decide_eq_true_eq] at h
    have e1 := y_beq.mp h.1
    have e2 := h.2
    subst e1
    subst e2
    rw [← hx]
    show some (Value.long (gx_l 0)) = some (Value.long (lN 0))
    rw [show gx_l 0 = lN 0 from gx_natL 0]
  · next i j =>
    have e1 := y_beq.mp h
    subst e1
    exact hx
  · cases h
def gm_lo (l : yL) : Nat → List gx_V → Bool
  | _, [] => true
  | i, w :: r => (match w with
    | .inr (.inr none) => true
    | _ => match y_lget l i with
      | some v => gm_v v w
      | none => false) && gm_lo l (i + 1) r
theorem gm_lo_ok {κ : yK} {α : List Nat} {l : yL} {lv : List (Nat × Value)} (hl : y_dl κ α l lv) : ∀ (lo : List gx_V) (i : Nat), gm_lo l i lo = true → ∀ (j : Nat) (v : gx_V), lo[j]? = some v → v ≠ gU → ∃ x, (i + j, x) ∈ lv ∧ gx_d κ α v = some x := by
  intro lo
  induction lo with
  | nil => intro i _ j v hj; cases hj
  | cons w r ih =>
    intro i h j v hj hv
    unfold gm_lo at h
    simp only [Bool.and_eq_true] at h
    cases j with
    | zero =>
      cases hj
      obtain ⟨h1, -⟩ := h
      split at h1
      · exact absurd rfl hv
      · split at h1
        · next v0 hv0 =>
          obtain ⟨x, x1, x2⟩ := y_dl_get hl hv0
          exact ⟨x, x1, gm_v_ok h1 x2⟩
        · cases h1
    | succ j =>
      obtain ⟨x, x1, x2⟩ := ih (i + 1) h.2 j v hj hv
      exact ⟨x, by rw [show i + (j + 1) = i + 1 + j from by omega]; exact x1, x2⟩
def gm_fs : List yV → List (Option Nat) → Bool
  | [], [] => true
  | .inl (.inl a) :: r, none :: r' => Nat.beq a 0 && gm_fs r r'
  | .inr (.inr (some i)) :: r, some j :: r' => Nat.beq i j && gm_fs r r'
  | _, _ => false
theorem gm_fs_ok {κ : yK} {α : List Nat} : ∀ (fs : List yV) (fs' : List (Option Nat)) (k : Nat) (vs : List Value), gm_fs fs fs' = true → y_ds κ α fs vs → gx_fs κ α (fun _ => 0) k fs' = vs.map some := by
  intro fs
  induction fs with
  | nil =>
    intro fs' k vs h hd
    cases fs' with
    | nil => rw [y_ds_nil hd]; rfl
    | cons b r => cases h
  | cons a r ih =>
    intro fs' k vs h hd
    unfold gm_fs at h
    split at h
    · next he => cases he
    · next a0 r0 r' he =>
      cases he
      simp only [Bool.and_eq_true] at h
      have e1 := y_beq.mp h.1
      subst e1
      obtain ⟨ys, rfl, h2⟩ := y_ds_ci hd
      show some (Value.int (gx_i 0)) :: gx_fs κ α (fun _ => 0) (k + 1) r' = some (Value.int (nI 0)) :: ys.map some
      rw [ih r' (k + 1) ys h.2 h2, show gx_i 0 = nI 0 from gx_nat 0]
    · next i r0 j r' he =>
      cases he
      simp only [Bool.and_eq_true] at h
      have e1 := y_beq.mp h.1
      subst e1
      obtain ⟨b, ys, rfl, h1, h2⟩ := y_ds_cr hd
      show (y_r κ α i).map Value.ref :: gx_fs κ α (fun _ => 0) (k + 1) r' = some (Value.ref b) :: ys.map some
      rw [ih r' (k + 1) ys h.2 h2, h1]
      rfl
    · cases h
def gm_rs (m : List (Nat × Option Nat)) : Nat → List Nat → Bool
  | _, [] => true
  | i, j :: r => (match y_getr m i with
    | some q => Nat.beq q j
    | none => false) && gm_rs m (i + 1) r
theorem gm_rs_ok {m : List (Nat × Option Nat)} : ∀ (rs : List Nat) (i : Nat), gm_rs m i rs = true → ∀ (k j : Nat), rs[k]? = some j → y_getr m (i + k) = some j := by
  intro rs
  induction rs with
  | nil => intro i _ k j hk; cases hk
  | cons a r ih =>
    intro i h k j hk
    unfold gm_rs at h
    simp only [Bool.and_eq_true] at h
    cases k with
    | zero =>
      cases hk
      obtain ⟨h1, -⟩ := h
      split at h1
      · next q hq =>
        rw [Nat.add_zero, hq, y_beq.mp h1]
      · cases h1
    | succ k =>
      have := ih (i + 1) h.2 k j hk
      rw [show i + (k + 1) = i + 1 + k from by omega]
      exact this
def gm_c : yC → gx_C → Bool
  | .inl (ci, fs), .inl (ci', fs') => Nat.beq ci ci' && gm_fs fs fs'
  | .inr (.inl (k, n, [])), .inr (.inl (k', n')) => Nat.beq k k' && Nat.beq n n'
  | .inr (.inr (ci, n, m)), .inr (.inr (ci', rs)) => Nat.beq ci ci' && (Nat.beq n rs.length && gm_rs m 0 rs)
  | _, _ => false
theorem gm_c_ok {κ : yK} {α : List Nat} {tys : List (ClassId × FieldType)} {c : yC} {c' : gx_C} {e : va_E} (h : gm_c c c' = true) (hc : y_c κ α tys c e) : gx_c κ α tys c' (fun _ => 0) e := by
  unfold gm_c at h
  split at h
  · next ci fs ci' fs' =>
    simp only [Bool.and_eq_true] at h
    have e1 := y_beq.mp h.1
    subst e1
    obtain ⟨vs, h1, h2⟩ := hc
    exact ⟨vs, gm_fs_ok fs fs' 0 vs h.2 h1, h2⟩
  · next k n k' n' =>
    simp only [Bool.and_eq_true] at h
    have e1 := y_beq.mp h.1
    have e2 := y_beq.mp h.2
    subst e1
    subst e2
    by_cases h3 : k = 3
    · subst h3
      obtain ⟨cA, t0, f, f1, f2, f3⟩ := hc
      exact ⟨cA, t0, f, f1, fun i hi => by rw [f2 i hi]; show lN 0 = gx_l 0; rw [show gx_l 0 = lN 0 from gx_natL 0], f3⟩
    · have hc2 : ∃ (cA : ClassId) (t0 : Nat) (f : Nat → Int32), tys[t0]? = some (cA, y_ty k) ∧ (∀ i, i < n → f i = y_i κ (y_get [] i)) ∧ e = .inl (cA, n, .inl f) := by
        unfold y_c at hc
        split at hc
        · next he => cases he
        · next he => cases he; exact absurd rfl h3
        · next he => cases he; exact hc
        · next he => cases he
      obtain ⟨cA, t0, f, f1, f2, f3⟩ := hc2
      unfold gx_c
      split
      · next he => cases he
      · next he => cases he; exact absurd rfl h3
      · next he =>
        cases he
        exact ⟨cA, t0, f, f1, fun i hi => by rw [f2 i hi]; show nI 0 = gx_i 0; rw [show gx_i 0 = nI 0 from gx_nat 0], f3⟩
      · next he => cases he
  · next ci n m ci' rs =>
    simp only [Bool.and_eq_true] at h
    have e1 := y_beq.mp h.1
    have e2 := y_beq.mp h.2.1
    subst e1
    subst e2
    obtain ⟨cA, t0, r, f, f1, f2, f3, f4⟩ := hc
    refine ⟨cA, t0, r, f, f1, f2, fun i j hj => ?_, f4⟩
    have h5 := gm_rs_ok rs 0 h.2.2 i j hj
    rw [Nat.zero_add] at h5
    have h6 := f3 i (List.getElem?_eq_some_iff.mp hj).1
    rw [h5] at h6
    exact h6
  · cases h
def gm_h : List yC → List gx_C → Bool
  | [], [] => true
  | c :: r, c' :: r' => gm_c c c' && gm_h r r'
  | _, _ => false
theorem gm_h_ok : ∀ (sh : List yC) (sh' : List gx_C), gm_h sh sh' = true → sh.length = sh'.length ∧ ∀ (i : Nat) (c' : gx_C), sh'[i]? = some c' → ∃ c, sh[i]? = some c ∧ gm_c c c' = true := by
  intro sh
  induction sh with
  | nil =>
    intro sh' h
    cases sh' with
    | nil => exact ⟨rfl, fun i c' hi => by cases hi⟩
    | cons b r => cases h
  | cons a r ih =>
    intro sh' h
    cases sh' with
    | nil => cases h
    | cons b r' =>
      unfold gm_h at h
      simp only [Bool.and_eq_true] at h
      obtain ⟨h1, h2⟩ := ih r' h.2
      refine ⟨by rw [List.length_cons, List.length_cons, h1], fun i c' hi => ?_⟩
      cases i with
      | zero => cases hi; exact ⟨a, rfl, h.1⟩
      | succ i => exact h2 i c' hi
theorem gm_hB : gm_h z_S51.2.2.2.1 gx_sh = true := by decide +kernel
theorem gm_loB : gm_lo z_S51.2.1 0 [gR 0, gR 1, gR 105, gR 106, gR 107, gR 108, gR 109, gR 110, gR 111, gJ 0, gU, gI 0, gU, gU, gU, gU, gU, gU, gU, gU, gU, gU, gU, gU] = true := by decide +kernel
/-- the cells at the law's loop -/
theorem z_Z {κ : yK} {D : va_G} {A : Nat → Prop} {s : State} {nL : Nat} {α : List Nat} {tys : List (ClassId × FieldType)} {ws : va_W} {H : Heap} {locs : List Loc} {ls : Array Slot} {lv : List (Nat × Value)} {sv : List Value}
    (Z : y_Z κ D A s nL α tys ws H locs ls lv sv z_S51.2.1 z_S51.2.2.1 z_S51.2.2.2.1) : gx_Z κ D A s nL α tys ws H locs ls lv sv gx_sh [gR 0, gR 1, gR 105, gR 106, gR 107, gR 108, gR 109, gR 110, gR 111, gJ 0, gU, gI 0, gU, gU, gU, gU, gU, gU, gU, gU, gU, gU, gU, gU] [] (fun _ _ => 0) := by
  obtain ⟨⟨h1, h2, h3⟩, hl, hst, hr⟩ := Z
  obtain ⟨g1, g2⟩ := gm_h_ok _ _ gm_hB
  refine ⟨⟨h1.trans g1, h2.trans g1, fun i c' hi => ?_⟩, fun j v hj hv => ?_, ?_, hr⟩
  · obtain ⟨c, c1, c2⟩ := g2 i c' hi
    obtain ⟨a, e, e1, e2, e3⟩ := h3 i c c1
    exact ⟨a, e, e1, e2, gm_c_ok c2 e3⟩
  · obtain ⟨x, x1, x2⟩ := gm_lo_ok hl _ 0 gm_loB j v hj hv
    exact ⟨x, by rw [Nat.zero_add] at x1; exact x1, x2⟩
  · rw [y_ds_nil hst]
    exact gx_ds_0
/-- the law's loop begins well -/
theorem z_LI : gLI (fun _ _ => 0) 0 (5 + 54 * ((0 : Nat) : Int)) (6 * ((0 : Nat) : Int)) ∧ gCt (fun _ _ => 0) 0 := by
  have r0 : gx_R 0 := ⟨by decide, by decide⟩
  have z0 : (0 : Int) ≤ 0 := Int.le_refl 0
  have z9 : (0 : Int) ≤ 9 := by decide
  have z5 : (0 : Int) ≤ 5 + 54 * ((0 : Nat) : Int) := by decide
  have z6 : (0 : Int) ≤ 6 * ((0 : Nat) : Int) := by decide
  have z51 : (0 : Int) ≤ 51 := by decide
  have zm : (0 : Int) % 16 ≤ 3 := by decide
  have z3 : (0 : Int) ≤ 3 := by decide
  have za : (0 : Int) = 16 * 0 + 0 := by decide
  exact ⟨⟨⟨⟨⟨⟨⟨by decide, by decide⟩, by decide, by decide⟩, fun i _ _ => ⟨⟨z0, z9⟩, z0, z9⟩, fun p _ _ => ⟨⟨z0, z5⟩, z0, z5⟩⟩, fun m _ _ => ⟨z0, z6⟩, ⟨⟨by decide, by decide⟩, by decide, by decide⟩, fun p _ _ => ⟨rfl, rfl⟩, fun m _ _ => rfl, fun i _ _ _ => ⟨rfl, rfl⟩⟩, ⟨⟨⟨by decide, by decide⟩, by decide, by decide⟩, fun i _ _ => ⟨⟨z0, z51⟩, zm⟩⟩, ⟨by decide, by decide⟩, ⟨rfl, rfl⟩, fun m p _ _ _ _ => ⟨za, z3, z3⟩, fun p _ _ => ga_0 p⟩, ⟨fun _ _ _ => rfl, fun _ _ _ => rfl⟩, ⟨Or.inl rfl, fun h => absurd h (by decide)⟩, ⟨Or.inl rfl, fun h => absurd h (by decide)⟩, Or.inl rfl, fun _ _ _ => ⟨rfl, rfl⟩, fun _ _ _ => Or.inl rfl, rfl, fun h => absurd h (by decide)⟩, fun h => absurd h (by decide), fun _ => ⟨rfl, rfl⟩⟩
