/-! put: the argument's bytes; the unknowns of a run of put -/
def p_c (xs : Nat → Int32) : Int64 := ((xs 1).toInt64 <<< ((nI 32).toInt64 &&& 63)) ||| ((xs 2).toInt64 &&& lN 4294967295)
def p_sh (x : Int64) (n : Nat) : Int64 := (x.toUInt64 >>> ((nI n).toInt64.toUInt64 &&& Int64.toUInt64 63)).toInt64
def p_r (c : Int64) : Nat → Int64
  | 0 => c
  | k + 1 => p_sh (p_r c k) 8
def p_i2c (x : Int32) : Int32 := (x.toUInt32 % 65536).toInt32
def p_la (xs : Nat → Int32) : List Int64 := [0, (xs 1).toInt64, (xs 2).toInt64, (xs 1).toInt64 <<< ((nI 32).toInt64 &&& 63), (xs 2).toInt64 &&& lN 4294967295, p_r (p_c xs) 0, p_r (p_c xs) 1, p_r (p_c xs) 2, p_r (p_c xs) 3, p_r (p_c xs) 4, p_r (p_c xs) 5, p_r (p_c xs) 6, p_r (p_c xs) 7, p_r (p_c xs) 8, p_r (p_c xs) 0 &&& lN 255, p_r (p_c xs) 1 &&& lN 255, p_r (p_c xs) 2 &&& lN 255, p_r (p_c xs) 3 &&& lN 255, p_r (p_c xs) 4 &&& lN 255, p_r (p_c xs) 5 &&& lN 255, p_r (p_c xs) 6 &&& lN 255, p_r (p_c xs) 7 &&& lN 255, p_sh (p_c xs) 0, p_sh (p_c xs) 8, p_sh (p_c xs) 16, p_sh (p_c xs) 24, p_sh (p_c xs) 32, p_sh (p_c xs) 40, p_sh (p_c xs) 48, p_sh (p_c xs) 56, p_sh (p_c xs) 0 &&& lN 255, p_sh (p_c xs) 8 &&& lN 255, p_sh (p_c xs) 16 &&& lN 255, p_sh (p_c xs) 24 &&& lN 255, p_sh (p_c xs) 32 &&& lN 255, p_sh (p_c xs) 40 &&& lN 255, p_sh (p_c xs) 48 &&& lN 255, p_sh (p_c xs) 56 &&& lN 255]
def p_rh (xs : Nat → Int32) : List Int32 := [xs 0, xs 1, xs 2, xs 3, xs 4, lg_cmp (p_r (p_c xs) 0) (lN 0), lg_cmp (p_r (p_c xs) 1) (lN 0), lg_cmp (p_r (p_c xs) 2) (lN 0), lg_cmp (p_r (p_c xs) 3) (lN 0), lg_cmp (p_r (p_c xs) 4) (lN 0), lg_cmp (p_r (p_c xs) 5) (lN 0), lg_cmp (p_r (p_c xs) 6) (lN 0), lg_cmp (p_r (p_c xs) 7) (lN 0), lg_cmp (p_r (p_c xs) 8) (lN 0), lg_cmp (p_r (p_c xs) 0 &&& lN 255) (lN 33), lg_cmp (p_r (p_c xs) 1 &&& lN 255) (lN 33), lg_cmp (p_r (p_c xs) 2 &&& lN 255) (lN 33), lg_cmp (p_r (p_c xs) 3 &&& lN 255) (lN 33), lg_cmp (p_r (p_c xs) 4 &&& lN 255) (lN 33), lg_cmp (p_r (p_c xs) 5 &&& lN 255) (lN 33), lg_cmp (p_r (p_c xs) 6 &&& lN 255) (lN 33), lg_cmp (p_r (p_c xs) 7 &&& lN 255) (lN 33), lg_cmp (p_r (p_c xs) 0 &&& lN 255) (lN 126), lg_cmp (p_r (p_c xs) 1 &&& lN 255) (lN 126), lg_cmp (p_r (p_c xs) 2 &&& lN 255) (lN 126), lg_cmp (p_r (p_c xs) 3 &&& lN 255) (lN 126), lg_cmp (p_r (p_c xs) 4 &&& lN 255) (lN 126), lg_cmp (p_r (p_c xs) 5 &&& lN 255) (lN 126), lg_cmp (p_r (p_c xs) 6 &&& lN 255) (lN 126), lg_cmp (p_r (p_c xs) 7 &&& lN 255) (lN 126), lg_cmp (p_r (p_c xs) 0 &&& lN 255) (lN 0), lg_cmp (p_r (p_c xs) 1 &&& lN 255) (lN 0), lg_cmp (p_r (p_c xs) 2 &&& lN 255) (lN 0), lg_cmp (p_r (p_c xs) 3 &&& lN 255) (lN 0), lg_cmp (p_r (p_c xs) 4 &&& lN 255) (lN 0), lg_cmp (p_r (p_c xs) 5 &&& lN 255) (lN 0), lg_cmp (p_r (p_c xs) 6 &&& lN 255) (lN 0), lg_cmp (p_r (p_c xs) 7 &&& lN 255) (lN 0), (p_r (p_c xs) 0 &&& lN 255).toInt32, (p_r (p_c xs) 1 &&& lN 255).toInt32, (p_r (p_c xs) 2 &&& lN 255).toInt32, (p_r (p_c xs) 3 &&& lN 255).toInt32, (p_r (p_c xs) 4 &&& lN 255).toInt32, (p_r (p_c xs) 5 &&& lN 255).toInt32, (p_r (p_c xs) 6 &&& lN 255).toInt32, (p_r (p_c xs) 7 &&& lN 255).toInt32, (p_sh (p_c xs) 0 &&& lN 255).toInt32, (p_sh (p_c xs) 8 &&& lN 255).toInt32, (p_sh (p_c xs) 16 &&& lN 255).toInt32, (p_sh (p_c xs) 24 &&& lN 255).toInt32, (p_sh (p_c xs) 32 &&& lN 255).toInt32, (p_sh (p_c xs) 40 &&& lN 255).toInt32, (p_sh (p_c xs) 48 &&& lN 255).toInt32, (p_sh (p_c xs) 56 &&& lN 255).toInt32, p_i2c ((p_sh (p_c xs) 0 &&& lN 255).toInt32), p_i2c ((p_r (p_c xs) 1 &&& lN 255).toInt32), p_i2c ((p_sh (p_c xs) 16 &&& lN 255).toInt32), p_i2c ((p_sh (p_c xs) 24 &&& lN 255).toInt32), p_i2c ((p_sh (p_c xs) 32 &&& lN 255).toInt32), p_i2c ((p_sh (p_c xs) 40 &&& lN 255).toInt32), p_i2c ((p_sh (p_c xs) 48 &&& lN 255).toInt32), p_i2c ((p_sh (p_c xs) 56 &&& lN 255).toInt32), p_i2c (p_i2c ((p_sh (p_c xs) 0 &&& lN 255).toInt32)), p_i2c (p_i2c ((p_r (p_c xs) 1 &&& lN 255).toInt32)), p_i2c (p_i2c ((p_sh (p_c xs) 16 &&& lN 255).toInt32)), p_i2c (p_i2c ((p_sh (p_c xs) 24 &&& lN 255).toInt32)), p_i2c (p_i2c ((p_sh (p_c xs) 32 &&& lN 255).toInt32)), p_i2c (p_i2c ((p_sh (p_c xs) 40 &&& lN 255).toInt32)), p_i2c (p_i2c ((p_sh (p_c xs) 48 &&& lN 255).toInt32)), p_i2c (p_i2c ((p_sh (p_c xs) 56 &&& lN 255).toInt32))]
def p_tb : yT := [(0, .inr 0, .inl 31, .inl 19), (16, .inr 1, .inr 1, .inr 1), (16, .inr 2, .inr 2, .inr 2), (12, .inr 1, .inl 32, .inr 3), (10, .inr 2, .inl 4294967295, .inr 4), (11, .inr 3, .inr 4, .inr 5), (13, .inr 5, .inl 8, .inr 6), (10, .inr 5, .inl 255, .inr 14), (14, .inr 14, .inl 33, .inr 14), (14, .inr 14, .inl 126, .inr 22), (14, .inr 14, .inl 0, .inr 30), (15, .inr 14, .inr 14, .inr 38), (13, .inr 6, .inl 8, .inr 7), (10, .inr 6, .inl 255, .inr 15), (14, .inr 15, .inl 33, .inr 15), (14, .inr 15, .inl 126, .inr 23), (14, .inr 15, .inl 0, .inr 31), (15, .inr 15, .inr 15, .inr 39), (13, .inr 7, .inl 8, .inr 8), (10, .inr 7, .inl 255, .inr 16), (14, .inr 16, .inl 33, .inr 16), (14, .inr 16, .inl 126, .inr 24), (14, .inr 16, .inl 0, .inr 32), (15, .inr 16, .inr 16, .inr 40), (13, .inr 8, .inl 8, .inr 9), (10, .inr 8, .inl 255, .inr 17), (14, .inr 17, .inl 33, .inr 17), (14, .inr 17, .inl 126, .inr 25), (14, .inr 17, .inl 0, .inr 33), (15, .inr 17, .inr 17, .inr 41), (13, .inr 9, .inl 8, .inr 10), (10, .inr 9, .inl 255, .inr 18), (14, .inr 18, .inl 33, .inr 18), (14, .inr 18, .inl 126, .inr 26), (14, .inr 18, .inl 0, .inr 34), (15, .inr 18, .inr 18, .inr 42), (13, .inr 10, .inl 8, .inr 11), (10, .inr 10, .inl 255, .inr 19), (14, .inr 19, .inl 33, .inr 19), (14, .inr 19, .inl 126, .inr 27), (14, .inr 19, .inl 0, .inr 35), (15, .inr 19, .inr 19, .inr 43), (13, .inr 11, .inl 8, .inr 12), (10, .inr 11, .inl 255, .inr 20), (14, .inr 20, .inl 33, .inr 20), (14, .inr 20, .inl 126, .inr 28), (14, .inr 20, .inl 0, .inr 36), (15, .inr 20, .inr 20, .inr 44), (13, .inr 12, .inl 8, .inr 13), (10, .inr 12, .inl 255, .inr 21), (14, .inr 21, .inl 33, .inr 21), (14, .inr 21, .inl 126, .inr 29), (14, .inr 21, .inl 0, .inr 37), (15, .inr 21, .inr 21, .inr 45), (14, .inr 5, .inl 0, .inr 5), (14, .inr 6, .inl 0, .inr 6), (14, .inr 7, .inl 0, .inr 7), (14, .inr 8, .inl 0, .inr 8), (14, .inr 9, .inl 0, .inr 9), (14, .inr 10, .inl 0, .inr 10), (14, .inr 11, .inl 0, .inr 11), (14, .inr 12, .inl 0, .inr 12), (14, .inr 13, .inl 0, .inr 13), (13, .inr 5, .inl 0, .inr 22), (10, .inr 22, .inl 255, .inr 30), (15, .inr 30, .inr 30, .inr 46), (2, .inr 46, .inr 46, .inr 54), (2, .inr 54, .inr 54, .inr 62), (2, .inr 39, .inr 39, .inr 55), (2, .inr 55, .inr 55, .inr 63), (13, .inr 5, .inl 16, .inr 24), (10, .inr 24, .inl 255, .inr 32), (15, .inr 32, .inr 32, .inr 48), (2, .inr 48, .inr 48, .inr 56), (2, .inr 56, .inr 56, .inr 64), (13, .inr 5, .inl 24, .inr 25), (10, .inr 25, .inl 255, .inr 33), (15, .inr 33, .inr 33, .inr 49), (2, .inr 49, .inr 49, .inr 57), (2, .inr 57, .inr 57, .inr 65), (13, .inr 5, .inl 32, .inr 26), (10, .inr 26, .inl 255, .inr 34), (15, .inr 34, .inr 34, .inr 50), (2, .inr 50, .inr 50, .inr 58), (2, .inr 58, .inr 58, .inr 66), (13, .inr 5, .inl 40, .inr 27), (10, .inr 27, .inl 255, .inr 35), (15, .inr 35, .inr 35, .inr 51), (2, .inr 51, .inr 51, .inr 59), (2, .inr 59, .inr 59, .inr 67), (13, .inr 5, .inl 48, .inr 28), (10, .inr 28, .inl 255, .inr 36), (15, .inr 36, .inr 36, .inr 52), (2, .inr 52, .inr 52, .inr 60), (2, .inr 60, .inr 60, .inr 68), (13, .inr 5, .inl 56, .inr 29), (10, .inr 29, .inl 255, .inr 37), (15, .inr 37, .inr 37, .inr 53), (2, .inr 53, .inr 53, .inr 61), (2, .inr 61, .inr 61, .inr 69)]
abbrev p_k (xs : Nat → Int32) (b : Nat) : yK := (fun j => (p_rh xs).getD j 0, fun j => (p_la xs).getD j 0, b, 5)
theorem p_T {xs : Nat → Int32} (hk : xs 0 &&& 31 = nI 19) (b : Nat) : y_T (p_k xs b) p_tb := by
  unfold y_T p_tb
  exact List.forall_mem_cons.mpr ⟨hk, List.forall_mem_cons.mpr ⟨rfl, List.forall_mem_cons.mpr ⟨rfl, List.forall_mem_cons.mpr ⟨rfl, List.forall_mem_cons.mpr ⟨rfl, List.forall_mem_cons.mpr ⟨rfl, List.forall_mem_cons.mpr ⟨rfl, List.forall_mem_cons.mpr ⟨rfl, List.forall_mem_cons.mpr ⟨rfl, List.forall_mem_cons.mpr ⟨rfl, List.forall_mem_cons.mpr ⟨rfl, List.forall_mem_cons.mpr ⟨rfl, List.forall_mem_cons.mpr ⟨rfl, List.forall_mem_cons.mpr ⟨rfl, List.forall_mem_cons.mpr ⟨rfl, List.forall_mem_cons.mpr ⟨rfl, List.forall_mem_cons.mpr ⟨rfl, List.forall_mem_cons.mpr ⟨rfl, List.forall_mem_cons.mpr ⟨rfl, List.forall_mem_cons.mpr ⟨rfl, List.forall_mem_cons.mpr ⟨rfl, List.forall_mem_cons.mpr ⟨rfl, List.forall_mem_cons.mpr ⟨rfl, List.forall_mem_cons.mpr ⟨rfl, List.forall_mem_cons.mpr ⟨rfl, List.forall_mem_cons.mpr ⟨rfl, List.forall_mem_cons.mpr ⟨rfl, List.forall_mem_cons.mpr ⟨rfl, List.forall_mem_cons.mpr ⟨rfl, List.forall_mem_cons.mpr ⟨rfl, List.forall_mem_cons.mpr ⟨rfl, List.forall_mem_cons.mpr ⟨rfl, List.forall_mem_cons.mpr ⟨rfl, List.forall_mem_cons.mpr ⟨rfl, List.forall_mem_cons.mpr ⟨rfl, List.forall_mem_cons.mpr ⟨rfl, List.forall_mem_cons.mpr ⟨rfl, List.forall_mem_cons.mpr ⟨rfl, List.forall_mem_cons.mpr ⟨rfl, List.forall_mem_cons.mpr ⟨rfl, List.forall_mem_cons.mpr ⟨rfl, List.forall_mem_cons.mpr ⟨rfl, List.forall_mem_cons.mpr ⟨rfl, List.forall_mem_cons.mpr ⟨rfl, List.forall_mem_cons.mpr ⟨rfl, List.forall_mem_cons.mpr ⟨rfl, List.forall_mem_cons.mpr ⟨rfl, List.forall_mem_cons.mpr ⟨rfl, List.forall_mem_cons.mpr ⟨rfl, List.forall_mem_cons.mpr ⟨rfl, List.forall_mem_cons.mpr ⟨rfl, List.forall_mem_cons.mpr ⟨rfl, List.forall_mem_cons.mpr ⟨rfl, List.forall_mem_cons.mpr ⟨rfl, List.forall_mem_cons.mpr ⟨rfl, List.forall_mem_cons.mpr ⟨rfl, List.forall_mem_cons.mpr ⟨rfl, List.forall_mem_cons.mpr ⟨rfl, List.forall_mem_cons.mpr ⟨rfl, List.forall_mem_cons.mpr ⟨rfl, List.forall_mem_cons.mpr ⟨rfl, List.forall_mem_cons.mpr ⟨rfl, List.forall_mem_cons.mpr ⟨rfl, List.forall_mem_cons.mpr ⟨rfl, List.forall_mem_cons.mpr ⟨rfl, List.forall_mem_cons.mpr ⟨rfl, List.forall_mem_cons.mpr ⟨rfl, List.forall_mem_cons.mpr ⟨rfl, List.forall_mem_cons.mpr ⟨rfl, List.forall_mem_cons.mpr ⟨rfl, List.forall_mem_cons.mpr ⟨rfl, List.forall_mem_cons.mpr ⟨rfl, List.forall_mem_cons.mpr ⟨rfl, List.forall_mem_cons.mpr ⟨rfl, List.forall_mem_cons.mpr ⟨rfl, List.forall_mem_cons.mpr ⟨rfl, List.forall_mem_cons.mpr ⟨rfl, List.forall_mem_cons.mpr ⟨rfl, List.forall_mem_cons.mpr ⟨rfl, List.forall_mem_cons.mpr ⟨rfl, List.forall_mem_cons.mpr ⟨rfl, List.forall_mem_cons.mpr ⟨rfl, List.forall_mem_cons.mpr ⟨rfl, List.forall_mem_cons.mpr ⟨rfl, List.forall_mem_cons.mpr ⟨rfl, List.forall_mem_cons.mpr ⟨rfl, List.forall_mem_cons.mpr ⟨rfl, List.forall_mem_cons.mpr ⟨rfl, List.forall_mem_cons.mpr ⟨rfl, List.forall_mem_cons.mpr ⟨rfl, List.forall_mem_cons.mpr ⟨rfl, List.forall_mem_cons.mpr ⟨rfl, List.forall_mem_cons.mpr ⟨rfl, List.forall_mem_cons.mpr ⟨rfl, List.forall_mem_cons.mpr ⟨rfl, List.forall_mem_cons.mpr ⟨rfl, List.forall_mem_cons.mpr ⟨rfl, List.forall_mem_cons.mpr ⟨rfl, List.forall_mem_cons.mpr ⟨rfl, List.forall_mem_cons.mpr ⟨rfl, fun _ h => absurd h List.not_mem_nil⟩⟩⟩⟩⟩⟩⟩⟩⟩⟩⟩⟩⟩⟩⟩⟩⟩⟩⟩⟩⟩⟩⟩⟩⟩⟩⟩⟩⟩⟩⟩⟩⟩⟩⟩⟩⟩⟩⟩⟩⟩⟩⟩⟩⟩⟩⟩⟩⟩⟩⟩⟩⟩⟩⟩⟩⟩⟩⟩⟩⟩⟩⟩⟩⟩⟩⟩⟩⟩⟩⟩⟩⟩⟩⟩⟩⟩⟩⟩⟩⟩⟩⟩⟩⟩⟩⟩⟩⟩⟩⟩⟩⟩⟩⟩⟩⟩⟩⟩⟩
def z_caseP (bd : yB) (hy : yF) : Bool := hy.all (y_chk1 bd) && z_run 5 hy p_tb
theorem z_useP {xs : Nat → Int32} {bd : yB} {hy : yF} (h : z_caseP bd hy = true) (hk : xs 0 &&& 31 = nI 19) (hb : y_bd (fun j => (p_rh xs).getD j 0) bd) : z_Won xs 5 := by
  unfold z_caseP at h
  simp only [Bool.and_eq_true] at h
  refine fun b => ⟨_, _, hy, p_tb, fun j hj => ?_, y_chk_ok (κ := p_k xs b) hb h.1, p_T hk b, h.2⟩
  rcases (by omega : j = 0 ∨ j = 1 ∨ j = 2 ∨ j = 3 ∨ j = 4) with rfl | rfl | rfl | rfl | rfl <;> rfl
/-- what is left of the argument behind k bytes; the k-th byte -/
def p_R (xs : Nat → Int32) (k : Nat) : Nat := (p_c xs).toUInt64.toNat / 256 ^ k
def p_N (xs : Nat → Int32) (k : Nat) : Nat := p_R xs k % 256
theorem p_N0 {xs : Nat → Int32} {k : Nat} (h : p_R xs k = 0) : p_N xs k = 0 := by
  unfold p_N
  rw [h]
theorem p_split (xs : Nat → Int32) (k : Nat) : p_N xs k = 0 ∨ (1 ≤ p_N xs k ∧ p_N xs k ≤ 32) ∨ (127 ≤ p_N xs k ∧ p_N xs k ≤ 255) ∨ (33 ≤ p_N xs k ∧ p_N xs k ≤ 126) := by
  have h : p_N xs k < 256 := Nat.mod_lt _ (by decide)
  omega
theorem p_R8 (xs : Nat → Int32) : p_R xs 8 = 0 := by
  have h := (p_c xs).toUInt64.toNat_lt
  unfold p_R
  exact Nat.div_eq_of_lt h
theorem p_shN (x : Int64) : (p_sh x 8).toUInt64.toNat = x.toUInt64.toNat / 256 := by
  unfold p_sh
  rw [show (nI 8).toInt64.toUInt64 &&& Int64.toUInt64 63 = 8 from by decide +kernel]
  show (x.toUInt64 >>> 8).toNat = _
  rw [UInt64.toNat_shiftRight]
  rw [show (8 : UInt64).toNat % 64 = 8 from rfl, Nat.shiftRight_eq_div_pow]
theorem p_rN (xs : Nat → Int32) (k : Nat) : (p_r (p_c xs) k).toUInt64.toNat = p_R xs k := by
  induction k with
  | zero => unfold p_R; simp [p_r]
  | succ k ih =>
    show (p_sh (p_r (p_c xs) k) 8).toUInt64.toNat = _
    rw [p_shN, ih]
    unfold p_R
    rw [Nat.div_div_eq_div_mul, Nat.pow_succ]
theorem p_lU (x : Int64) (n : Nat) (h : x.toUInt64.toNat = n) : x = lN n := by
  apply Int64.toBitVec_inj.mp
  apply BitVec.eq_of_toNat_eq
  have e1 : x.toBitVec.toNat = n := h
  rw [e1]
  show n = (BitVec.ofNat 64 n).toNat
  rw [BitVec.toNat_ofNat, Nat.mod_eq_of_lt]
  rw [← e1]
  exact x.toBitVec.isLt
theorem p_cN (xs : Nat → Int32) (k : Nat) : p_r (p_c xs) k &&& lN 255 = lN (p_N xs k) := by
  apply p_lU
  show ((p_r (p_c xs) k).toBitVec &&& (lN 255).toBitVec).toNat = _
  rw [BitVec.toNat_and]
  rw [show (p_r (p_c xs) k).toBitVec.toNat = p_R xs k from p_rN xs k, show (lN 255).toBitVec.toNat = 2 ^ 8 - 1 from by decide +kernel, Nat.and_two_pow_sub_one_eq_mod]
  rfl
theorem p_v0 {xs : Nat → Int32} {k : Nat} (h : p_R xs k = 0) : (0 : Int) ≤ (lg_cmp (p_r (p_c xs) k) (lN 0)).toInt ∧ (lg_cmp (p_r (p_c xs) k) (lN 0)).toInt ≤ 0 ∧ (false = true → ¬ (lg_cmp (p_r (p_c xs) k) (lN 0)).toInt = 0) := by
  have e := p_lU _ _ (p_rN xs k)
  rw [h] at e
  rw [e]
  exact ⟨by decide, by decide, fun z => by cases z⟩
theorem p_v1 {xs : Nat → Int32} {k : Nat} (h : ¬ p_R xs k = 0) : (-1 : Int) ≤ (lg_cmp (p_r (p_c xs) k) (lN 0)).toInt ∧ (lg_cmp (p_r (p_c xs) k) (lN 0)).toInt ≤ 1 ∧ (true = true → ¬ (lg_cmp (p_r (p_c xs) k) (lN 0)).toInt = 0) := by
  have e : ¬ p_r (p_c xs) k = lN 0 := by
    intro z
    have e2 := p_rN xs k
    rw [z] at e2
    exact h e2.symm
  unfold lg_cmp
  split
  · exact ⟨by decide, by decide, fun _ => by decide⟩
  · exact ⟨by decide, by decide, fun _ => by decide⟩
theorem p_cmp {n m : Nat} (hn : n < 256) (hm : m < 256) : lg_cmp (lN n) (lN m) = if m < n then 1 else if n = m then 0 else -1 := by
  unfold lg_cmp
  have e1 : (lN n > lN m) ↔ m < n := lN_lt (by omega) (by omega)
  have e2 : (lN n = lN m) ↔ n = m := lN_eq (by omega) (by omega)
  simp only [e1, e2]
theorem p_lt (xs : Nat → Int32) (k : Nat) : p_N xs k < 256 := Nat.mod_lt _ (by decide)
theorem p_a0 {xs : Nat → Int32} {k : Nat} (h : p_N xs k = 0 ∨ (1 ≤ p_N xs k ∧ p_N xs k ≤ 32)) : (-1 : Int) ≤ (lg_cmp (p_r (p_c xs) k &&& lN 255) (lN 33)).toInt ∧ (lg_cmp (p_r (p_c xs) k &&& lN 255) (lN 33)).toInt ≤ -1 ∧ (false = true → ¬ (lg_cmp (p_r (p_c xs) k &&& lN 255) (lN 33)).toInt = 0) := by
  rw [p_cN, p_cmp (p_lt xs k) (by decide), if_neg (by omega), if_neg (by omega)]
  exact ⟨by decide, by decide, fun z => by cases z⟩
theorem p_a1 {xs : Nat → Int32} {k : Nat} (h : 33 ≤ p_N xs k) : (0 : Int) ≤ (lg_cmp (p_r (p_c xs) k &&& lN 255) (lN 33)).toInt ∧ (lg_cmp (p_r (p_c xs) k &&& lN 255) (lN 33)).toInt ≤ 1 ∧ (false = true → ¬ (lg_cmp (p_r (p_c xs) k &&& lN 255) (lN 33)).toInt = 0) := by
  rw [p_cN, p_cmp (p_lt xs k) (by decide)]
  split
  · exact ⟨by decide, by decide, fun z => by cases z⟩
  · rw [if_pos (by omega)]
    exact ⟨by decide, by decide, fun z => by cases z⟩
theorem p_b0 {xs : Nat → Int32} {k : Nat} (h : p_N xs k ≤ 126) : (-1 : Int) ≤ (lg_cmp (p_r (p_c xs) k &&& lN 255) (lN 126)).toInt ∧ (lg_cmp (p_r (p_c xs) k &&& lN 255) (lN 126)).toInt ≤ 0 ∧ (false = true → ¬ (lg_cmp (p_r (p_c xs) k &&& lN 255) (lN 126)).toInt = 0) := by
  rw [p_cN, p_cmp (p_lt xs k) (by decide), if_neg (by omega)]
  split
  · exact ⟨by decide, by decide, fun z => by cases z⟩
  · exact ⟨by decide, by decide, fun z => by cases z⟩
theorem p_b1 {xs : Nat → Int32} {k : Nat} (h : 127 ≤ p_N xs k) : (1 : Int) ≤ (lg_cmp (p_r (p_c xs) k &&& lN 255) (lN 126)).toInt ∧ (lg_cmp (p_r (p_c xs) k &&& lN 255) (lN 126)).toInt ≤ 1 ∧ (false = true → ¬ (lg_cmp (p_r (p_c xs) k &&& lN 255) (lN 126)).toInt = 0) := by
  rw [p_cN, p_cmp (p_lt xs k) (by decide), if_pos (by omega)]
  exact ⟨by decide, by decide, fun z => by cases z⟩
theorem p_z0 {xs : Nat → Int32} {k : Nat} (h : p_N xs k = 0) : (0 : Int) ≤ (lg_cmp (p_r (p_c xs) k &&& lN 255) (lN 0)).toInt ∧ (lg_cmp (p_r (p_c xs) k &&& lN 255) (lN 0)).toInt ≤ 0 ∧ (false = true → ¬ (lg_cmp (p_r (p_c xs) k &&& lN 255) (lN 0)).toInt = 0) := by
  rw [p_cN, p_cmp (p_lt xs k) (by decide), if_neg (by omega), if_pos h]
  exact ⟨by decide, by decide, fun z => by cases z⟩
theorem p_z1 {xs : Nat → Int32} {k : Nat} (h : ¬ p_N xs k = 0) : (1 : Int) ≤ (lg_cmp (p_r (p_c xs) k &&& lN 255) (lN 0)).toInt ∧ (lg_cmp (p_r (p_c xs) k &&& lN 255) (lN 0)).toInt ≤ 1 ∧ (false = true → ¬ (lg_cmp (p_r (p_c xs) k &&& lN 255) (lN 0)).toInt = 0) := by
  rw [p_cN, p_cmp (p_lt xs k) (by decide), if_pos (by omega)]
  exact ⟨by decide, by decide, fun z => by cases z⟩
theorem p_n {xs : Nat → Int32} {k lo hi : Nat} (h : lo ≤ p_N xs k ∧ p_N xs k ≤ hi) : (lo : Int) ≤ (p_r (p_c xs) k &&& lN 255).toInt32.toInt ∧ (p_r (p_c xs) k &&& lN 255).toInt32.toInt ≤ (hi : Int) ∧ (false = true → ¬ (p_r (p_c xs) k &&& lN 255).toInt32.toInt = 0) := by
  have h9 := p_lt xs k
  rw [p_cN, lN_i, nI_toInt (by omega)]
  exact ⟨by omega, by omega, fun z => by cases z⟩
