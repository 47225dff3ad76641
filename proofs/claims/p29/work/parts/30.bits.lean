/-! ===== lN n to 2^64: shifts, and, or, masks, one bit ===== -/
theorem wb_tb (n : Nat) : (lN n).toBitVec = BitVec.ofNat 64 n := rfl
theorem wb_inj {a b : Int64} (h : a.toBitVec = b.toBitVec) : a = b := Int64.toBitVec_inj.mp h
theorem wb_tn {n : Nat} (h : n < 2 ^ 64) : (lN n).toBitVec.toNat = n := by rw [wb_tb, BitVec.toNat_ofNat, Nat.mod_eq_of_lt h]
theorem wb_of (x : Int64) : ∃ n, n < 2 ^ 64 ∧ x = lN n := ⟨x.toBitVec.toNat, x.toBitVec.isLt, wb_inj (by rw [wb_tb]; simp)⟩
theorem wb_of32 (x : Int32) : ∃ n, n < 2 ^ 32 ∧ x = nI n := ⟨x.toBitVec.toNat, x.toBitVec.isLt, Int32.toBitVec_inj.mp (by show _ = BitVec.ofNat 32 _; simp)⟩
theorem wb_c : ∀ k, k < 64 → ((nI k).toInt64 &&& 63) = lN k := by decide +kernel
theorem wb_cu : ∀ k, k < 64 → ((nI k).toInt64.toUInt64 &&& Int64.toUInt64 63) = UInt64.ofNat k := by decide +kernel
theorem wb_sm : ∀ k, k < 64 → (BitVec.ofNat 64 k).smod 64 = BitVec.ofNat 64 k := by decide +kernel
theorem wb_pw {a b : Nat} (h : a ≤ b) : 2 ^ b = 2 ^ a * 2 ^ (b - a) := by rw [← Nat.pow_add]; congr 1; omega
theorem wb_lt2 {a b : Nat} (h : a < b) : 2 ^ a < 2 ^ b := Nat.pow_lt_pow_right (by decide) h
theorem wb_mod (n : Nat) : lN n = lN (n % 2 ^ 64) := wb_inj (by rw [wb_tb, wb_tb]; apply BitVec.eq_of_toNat_eq; rw [BitVec.toNat_ofNat, BitVec.toNat_ofNat, Nat.mod_mod])
theorem wb_shr {n k : Nat} (hn : n < 2 ^ 64) (hk : k < 64) : ((lN n).toUInt64 >>> ((nI k).toInt64.toUInt64 &&& Int64.toUInt64 63)).toInt64 = lN (n / 2 ^ k) := by
  rw [wb_cu k hk]
  apply wb_inj
  apply BitVec.eq_of_toNat_eq
  show ((lN n).toUInt64 >>> UInt64.ofNat k).toNat = (BitVec.ofNat 64 _).toNat
  have h1 : (UInt64.ofNat k).toNat = k := by
    show (BitVec.ofNat 64 k).toNat = k
    rw [BitVec.toNat_ofNat, Nat.mod_eq_of_lt (by omega)]
  have h2 : (lN n).toUInt64.toNat = n := wb_tn hn
  rw [UInt64.toNat_shiftRight, h1, h2, Nat.mod_eq_of_lt hk, Nat.shiftRight_eq_div_pow, BitVec.toNat_ofNat, Nat.mod_eq_of_lt (Nat.lt_of_le_of_lt (Nat.div_le_self _ _) hn)]
theorem wb_shl (n : Nat) {k : Nat} (hk : k < 64) : lN n <<< ((nI k).toInt64 &&& 63) = lN (n * 2 ^ k) := by
  rw [wb_c k hk]
  apply wb_inj
  rw [Int64.toBitVec_shiftLeft, wb_tb, wb_tb, wb_tb, wb_sm k hk]
  apply BitVec.eq_of_toNat_eq
  rw [BitVec.shiftLeft_eq', BitVec.toNat_shiftLeft, BitVec.toNat_ofNat, BitVec.toNat_ofNat, BitVec.toNat_ofNat, Nat.mod_eq_of_lt (show k < 2 ^ 64 by omega), Nat.shiftLeft_eq, Nat.mul_mod, Nat.mod_mod, ← Nat.mul_mod]
theorem wb_and {a b : Nat} (ha : a < 2 ^ 64) (hb : b < 2 ^ 64) : lN a &&& lN b = lN (a &&& b) := by
  apply wb_inj
  rw [Int64.toBitVec_and, wb_tb, wb_tb, wb_tb]
  apply BitVec.eq_of_toNat_eq
  rw [BitVec.toNat_and, BitVec.toNat_ofNat, BitVec.toNat_ofNat, BitVec.toNat_ofNat, Nat.mod_eq_of_lt ha, Nat.mod_eq_of_lt hb, Nat.mod_eq_of_lt (Nat.and_lt_two_pow _ hb)]
theorem wb_or {a b : Nat} (ha : a < 2 ^ 64) (hb : b < 2 ^ 64) : lN a ||| lN b = lN (a ||| b) := by
  apply wb_inj
  rw [Int64.toBitVec_or, wb_tb, wb_tb, wb_tb]
  apply BitVec.eq_of_toNat_eq
  rw [BitVec.toNat_or, BitVec.toNat_ofNat, BitVec.toNat_ofNat, BitVec.toNat_ofNat, Nat.mod_eq_of_lt ha, Nat.mod_eq_of_lt hb, Nat.mod_eq_of_lt (Nat.or_lt_two_pow ha hb)]
theorem wb_mask {n k : Nat} (hn : n < 2 ^ 64) (hk : k < 64) : lN n &&& lN (2 ^ k - 1) = lN (n % 2 ^ k) := by
  rw [wb_and hn (by have := wb_lt2 hk; omega), Nat.and_two_pow_sub_one_eq_mod]
theorem wb_a1 {n : Nat} (hn : n < 2 ^ 64) : lN n &&& 1 = lN (n % 2) := wb_mask (k := 1) hn (by decide)
-- bits, as whole numbers
theorem gb_nat {a : Int} (h : 0 ≤ a) : ∃ n : Nat, a = (n : Int) := ⟨a.toNat, (Int.toNat_of_nonneg h).symm⟩
theorem gb_and (a b : Nat) (h : a < 2147483648) : gx_and (a : Int) (b : Int) = ((a &&& b : Nat) : Int) := by
  unfold gx_and
  rw [gx_nat, gx_nat, y_and_ok]
  exact nI_toInt (Nat.lt_of_le_of_lt Nat.and_le_left h)
theorem gb_or (a b : Nat) (ha : a < 2147483648) (hb : b < 2147483648) : gx_or (a : Int) (b : Int) = ((a ||| b : Nat) : Int) := by
  unfold gx_or
  rw [gx_nat, gx_nat, y_or_ok]
  exact nI_toInt (Nat.or_lt_two_pow (n := 31) ha hb)
theorem gb_xor (a b : Nat) (ha : a < 2147483648) (hb : b < 2147483648) : gx_xor (a : Int) (b : Int) = ((a ^^^ b : Nat) : Int) := by
  unfold gx_xor
  rw [gx_nat, gx_nat]
  have e : nI a ^^^ nI b = nI (a ^^^ b) := by
    apply Int32.toBitVec_inj.mp
    apply BitVec.eq_of_toNat_eq
    rw [Int32.toBitVec_xor, BitVec.toNat_xor, y_tn, y_tn, y_tn, Nat.mod_eq_of_lt (by omega), Nat.mod_eq_of_lt (by omega), Nat.mod_eq_of_lt (Nat.lt_of_lt_of_le (Nat.xor_lt_two_pow (n := 31) ha hb) (by decide))]
  rw [e]
  exact nI_toInt (Nat.xor_lt_two_pow (n := 31) ha hb)
theorem gb_shl (a k : Nat) (hk : k < 32) (h : a * 2 ^ k < 2147483648) : gx_shl (a : Int) (k : Int) = ((a * 2 ^ k : Nat) : Int) := by
  unfold gx_shl
  rw [gx_nat, gx_nat, y_shl_ok hk, Nat.mod_eq_of_lt (by omega)]
  exact nI_toInt h
theorem gb_shr (a k : Nat) (hk : k < 32) (h : a < 2147483648) : gx_shr (a : Int) (k : Int) = ((a / 2 ^ k : Nat) : Int) := by
  unfold gx_shr
  rw [gx_nat, gx_nat, pk_shrN h (nI k &&& 31) k (y_sm k hk)]
  exact nI_toInt (Nat.lt_of_le_of_lt (Nat.div_le_self _ _) h)
theorem gb_ushr (a k : Nat) (hk : k < 32) (h : a < 2147483648) : gx_ushr (a : Int) (k : Int) = ((a / 2 ^ k : Nat) : Int) := by
  unfold gx_ushr
  rw [gx_nat, gx_nat, pk_ushrN (by omega) (nI k) k (y_um k hk)]
  exact nI_toInt (Nat.lt_of_le_of_lt (Nat.div_le_self _ _) h)
/-- a mask keeps it small, whatever it is laid on -/
theorem gb_and_le (a b : Int) (hb : 0 ≤ b ∧ b < 2147483648) : 0 ≤ gx_and a b ∧ gx_and a b ≤ b := by
  obtain ⟨n, rfl⟩ := gb_nat hb.1
  have hn : n < 2147483648 := by omega
  have e : gx_i a &&& gx_i (n : Int) = nI ((gx_i a).toBitVec.toNat &&& n) := by
    apply Int32.toBitVec_inj.mp
    apply BitVec.eq_of_toNat_eq
    rw [gx_nat, Int32.toBitVec_and, BitVec.toNat_and, y_tn, y_tn, Nat.mod_eq_of_lt (show n < 4294967296 by omega), Nat.mod_eq_of_lt (Nat.lt_of_le_of_lt Nat.and_le_right (by omega))]
  have h2 : ((gx_i a).toBitVec.toNat &&& n) ≤ n := Nat.and_le_right
  unfold gx_and
  rw [e, nI_toInt (show _ < 2147483648 by omega)]
  omega
theorem gb_R {a : Int} (h : 0 ≤ a ∧ a < 2147483648) : gx_R a := ⟨by omega, h.2⟩
theorem gb_rng (x : Int32) : gx_R x.toInt := ⟨Int32.le_toInt x, Int32.toInt_lt x⟩
-- longs
theorem gb_andL (a b : Nat) (ha : a < 9223372036854775808) (hb : b < 18446744073709551616) : gx_andL (a : Int) (lN b).toInt = ((a &&& b : Nat) : Int) := by
  unfold gx_andL
  rw [gx_natL, gx_l_of, wb_and (by omega) hb]
  exact pk_lT (Nat.lt_of_le_of_lt Nat.and_le_left ha)
theorem gb_orL (a b : Nat) (ha : a < 9223372036854775808) (hb : b < 9223372036854775808) : gx_orL (a : Int) (b : Int) = ((a ||| b : Nat) : Int) := by
  unfold gx_orL
  rw [gx_natL, gx_natL, wb_or (by omega) (by omega)]
  exact pk_lT (Nat.or_lt_two_pow (n := 63) ha hb)
theorem gb_shlL (a k : Nat) (hk : k < 64) (h : a * 2 ^ k < 9223372036854775808) : gx_shlL (a : Int) (k : Int) = ((a * 2 ^ k : Nat) : Int) := by
  unfold gx_shlL
  rw [gx_natL, gx_nat, wb_shl a hk]
  exact pk_lT h
theorem gb_ushrL (a k : Nat) (hk : k < 64) (h : a < 9223372036854775808) : gx_ushrL (a : Int) (k : Int) = ((a / 2 ^ k : Nat) : Int) := by
  unfold gx_ushrL
  rw [gx_natL, gx_nat, wb_shr (by omega) hk]
  exact pk_lT (Nat.lt_of_le_of_lt (Nat.div_le_self _ _) h)
-- markings in a long: four numbers below 32768
def ga (mk p : Int) : Int := ((mk.toNat / 2 ^ (15 * p.toNat) % 32768 : Nat) : Int)
abbrev gM (mk : Int) : Prop := 0 ≤ mk ∧ mk < 1152921504606846976
theorem ga_lt (mk p : Int) : 0 ≤ ga mk p ∧ ga mk p < 32768 := by
  unfold ga
  omega
theorem ga_at {mk p : Int} (h : gM mk) (hp : 0 ≤ p ∧ p < 4) : gx_andL (gx_ushrL mk (15 * p)) 32767 = ga mk p := by
  obtain ⟨n, rfl⟩ := gb_nat h.1
  obtain ⟨k, rfl⟩ := gb_nat hp.1
  have hn : n < 1152921504606846976 := by omega
  have hk : k < 4 := by omega
  rw [show (15 * (k : Int)) = ((15 * k : Nat) : Int) from by omega, gb_ushrL n (15 * k) (by omega) (by omega)]
  rw [show (32767 : Int) = (lN (2 ^ 15 - 1)).toInt from (pk_lT (n := 2 ^ 15 - 1) (by decide)).symm]
  have h9 : n / 2 ^ (15 * k) ≤ n := Nat.div_le_self _ _
  rw [gb_andL _ _ (by omega) (by decide), Nat.and_two_pow_sub_one_eq_mod]
  rfl
def ga_m (p : Nat) : Nat := 18446744073709551615 - 32767 * 2 ^ (15 * p)
theorem ga_mt : ∀ p, p < 4 → ∀ j, j < 4 → ∀ i, i < 15 → Nat.testBit (ga_m p) (15 * j + i) = decide (j ≠ p) := by decide +kernel
theorem ga_mx : ∀ p : Nat, p < 4 → gx_xorL (gx_shlL 32767 ((15 * p : Nat) : Int)) (-1) = (lN (ga_m p)).toInt := by decide +kernel
theorem ga_with {mk p v : Int} (h : gM mk) (hp : 0 ≤ p ∧ p < 4) (hv : 0 ≤ v ∧ v < 32768) : ∃ r, gx_orL (gx_andL mk (gx_xorL (gx_shlL 32767 (15 * p)) (-1))) (gx_shlL v (15 * p)) = r ∧ gM r ∧ ∀ j, 0 ≤ j → j < 4 → ga r j = if j = p then v else ga mk j := by
  obtain ⟨n, rfl⟩ := gb_nat h.1
  obtain ⟨k, rfl⟩ := gb_nat hp.1
  obtain ⟨v, rfl⟩ := gb_nat hv.1
  have hn : n < 1152921504606846976 := by omega
  have hk : k < 4 := by omega
  have hv : v < 32768 := by omega
  have e1 : (15 * (k : Int)) = ((15 * k : Nat) : Int) := by omega
  have hm : ga_m k < 18446744073709551616 := by unfold ga_m; omega
  have hs : v * 2 ^ (15 * k) < 1152921504606846976 := by
    rcases (by omega : k = 0 ∨ k = 1 ∨ k = 2 ∨ k = 3) with rfl | rfl | rfl | rfl <;> omega
  have ha : n &&& ga_m k < 1152921504606846976 := Nat.lt_of_le_of_lt Nat.and_le_left hn
  rw [e1, ga_mx k hk, gb_andL _ _ (by omega) hm, gb_shlL v (15 * k) (by omega) (by omega), gb_orL _ _ (by omega) (by omega)]
  refine ⟨_, rfl, ⟨by omega, ?_⟩, ?_⟩
  · have := Nat.or_lt_two_pow (n := 60) ha hs
    omega
  · intro j hj0 hj4
    obtain ⟨j, rfl⟩ := gb_nat hj0
    have hj : j < 4 := by omega
    unfold ga
    have e2 : (((n &&& ga_m k ||| v * 2 ^ (15 * k) : Nat) : Int)).toNat / 2 ^ (15 * ((j : Int)).toNat) % 32768 = if j = k then v else n / 2 ^ (15 * j) % 32768 := by
      rw [Int.toNat_natCast, Int.toNat_natCast]
      apply Nat.eq_of_testBit_eq
      intro i
      rw [show (32768 : Nat) = 2 ^ 15 from rfl, Nat.testBit_mod_two_pow, Nat.testBit_div_two_pow]
      by_cases hi : i < 15
      · rw [Nat.testBit_or, Nat.testBit_and, Nat.add_comm i, ga_mt k hk j hj i hi, Nat.testBit_mul_two_pow]
        by_cases hjk : j = k
        · subst hjk
          simp [hi]
        · rw [if_neg hjk, Nat.testBit_mod_two_pow, Nat.testBit_div_two_pow]
          have e3 : (decide (15 * k ≤ 15 * j + i) && v.testBit (15 * j + i - 15 * k)) = false := by
            by_cases h5 : 15 * k ≤ 15 * j + i
            · have h6 : k < j := by omega
              rw [Nat.testBit_lt_two_pow (Nat.lt_of_lt_of_le hv (Nat.pow_le_pow_right (n := 2) (by decide) (show 15 ≤ 15 * j + i - 15 * k by omega)))]
              simp
            · simp [h5]
          rw [e3]
          simp [hi, hjk, Nat.add_comm]
      · have e4 : (if j = k then v else n / 2 ^ (15 * j) % 2 ^ 15).testBit i = false := by
          apply Nat.testBit_lt_two_pow
          refine Nat.lt_of_lt_of_le ?_ (Nat.pow_le_pow_right (n := 2) (by decide) (show 15 ≤ i by omega))
          split
          · exact hv
          · exact Nat.mod_lt _ (by decide)
        rw [e4]
        simp [hi]
    rw [e2]
    by_cases hjk : j = k
    · rw [if_pos hjk, if_pos (by omega)]
    · rw [if_neg hjk, if_neg (by omega)]
      rw [Int.toNat_natCast, Int.toNat_natCast]
theorem ga_inj {a b : Int} (ha : gM a) (hb : gM b) (h : ∀ j, 0 ≤ j → j < 4 → ga a j = ga b j) : a = b := by
  have h0 := h 0 (by omega) (by omega)
  have h1 := h 1 (by omega) (by omega)
  have h2 := h 2 (by omega) (by omega)
  have h3 := h 3 (by omega) (by omega)
  unfold ga at h0 h1 h2 h3
  obtain ⟨a, rfl⟩ := gb_nat ha.1
  obtain ⟨b, rfl⟩ := gb_nat hb.1
  simp only [Int.toNat_natCast] at h0 h1 h2 h3
  have e0 : (0 : Int).toNat = 0 := rfl
  have e1 : (1 : Int).toNat = 1 := rfl
  have e2 : (2 : Int).toNat = 2 := rfl
  have e3 : (3 : Int).toNat = 3 := rfl
  rw [e0] at h0
  rw [e1] at h1
  rw [e2] at h2
  rw [e3] at h3
  omega
theorem ga_0 (p : Int) : ga 0 p = 0 := by
  unfold ga
  simp
def gx_sh : List gx_C := [.inl (7, [some 2, some 8, some 52, some 65, some 66, some 68, some 80, some 92]), .inl (2, [none, none, some 3, some 4, some 5, some 6, some 7]), .inr (.inl (0, 8)), .inr (.inl (0, 8)), .inr (.inl (0, 8)), .inr (.inl (0, 64)), .inr (.inl (0, 64)), .inl (0, [some 9, none, none]), .inr (.inr (2, [10, 16, 22, 28, 34, 40, 46])), .inl (2, [none, none, some 11, some 12, some 13, some 14, some 15]), .inr (.inl (0, 8)), .inr (.inl (0, 8)), .inr (.inl (0, 8)), .inr (.inl (0, 64)), .inr (.inl (0, 64)), .inl (2, [none, none, some 17, some 18, some 19, some 20, some 21]), .inr (.inl (0, 8)), .inr (.inl (0, 8)), .inr (.inl (0, 8)), .inr (.inl (0, 64)), .inr (.inl (0, 64)), .inl (2, [none, none, some 23, some 24, some 25, some 26, some 27]), .inr (.inl (0, 8)), .inr (.inl (0, 8)), .inr (.inl (0, 8)), .inr (.inl (0, 64)), .inr (.inl (0, 64)), .inl (2, [none, none, some 29, some 30, some 31, some 32, some 33]), .inr (.inl (0, 8)), .inr (.inl (0, 8)), .inr (.inl (0, 8)), .inr (.inl (0, 64)), .inr (.inl (0, 64)), .inl (2, [none, none, some 35, some 36, some 37, some 38, some 39]), .inr (.inl (0, 8)), .inr (.inl (0, 8)), .inr (.inl (0, 8)), .inr (.inl (0, 64)), .inr (.inl (0, 64)), .inl (2, [none, none, some 41, some 42, some 43, some 44, some 45]), .inr (.inl (0, 8)), .inr (.inl (0, 8)), .inr (.inl (0, 8)), .inr (.inl (0, 64)), .inr (.inl (0, 64)), .inl (2, [none, none, some 47, some 48, some 49, some 50, some 51]), .inr (.inl (0, 8)), .inr (.inl (0, 8)), .inr (.inl (0, 8)), .inr (.inl (0, 64)), .inr (.inl (0, 64)), .inr (.inr (2, [53, 59])), .inl (2, [none, none, some 54, some 55, some 56, some 57, some 58]), .inr (.inl (0, 8)), .inr (.inl (0, 8)), .inr (.inl (0, 8)), .inr (.inl (0, 64)), .inr (.inl (0, 64)), .inl (2, [none, none, some 60, some 61, some 62, some 63, some 64]), .inr (.inl (0, 8)), .inr (.inl (0, 8)), .inr (.inl (0, 8)), .inr (.inl (0, 64)), .inr (.inl (0, 64)), .inr (.inl (1, 2)), .inl (3, [some 67, none]), .inr (.inl (2, 80)), .inl (5, [some 69, none, some 75, some 76, some 77, some 78, some 79, none]), .inl (2, [none, none, some 70, some 71, some 72, some 73, some 74]), .inr (.inl (0, 8)), .inr (.inl (0, 8)), .inr (.inl (0, 8)), .inr (.inl (0, 64)), .inr (.inl (0, 64)), .inr (.inl (0, 64)), .inr (.inl (0, 8)), .inr (.inl (0, 8)), .inr (.inl (1, 256)), .inr (.inl (0, 64)), .inl (4, [some 81, some 90, some 91, none]), .inl (1, [some 82, none, some 88, some 89, none, none, none]), .inl (2, [none, none, some 83, some 84, some 85, some 86, some 87]), .inr (.inl (0, 8)), .inr (.inl (0, 8)), .inr (.inl (0, 8)), .inr (.inl (0, 64)), .inr (.inl (0, 64)), .inr (.inl (0, 2400)), .inr (.inl (0, 8)), .inr (.inl (0, 300)), .inr (.inl (0, 1024)), .inl (6, [some 93, some 102, some 103, some 104, none]), .inl (1, [some 94, none, some 100, some 101, none, none, none]), .inl (2, [none, none, some 95, some 96, some 97, some 98, some 99]), .inr (.inl (0, 8)), .inr (.inl (0, 8)), .inr (.inl (0, 8)), .inr (.inl (0, 64)), .inr (.inl (0, 64)), .inr (.inl (0, 2400)), .inr (.inl (0, 8)), .inr (.inl (0, 300)), .inr (.inl (0, 300)), .inr (.inl (0, 300)), .inr (.inl (0, 2)), .inr (.inl (0, 16)), .inr (.inl (0, 4)), .inr (.inl (0, 4)), .inr (.inl (3, 60)), .inr (.inl (0, 60)), .inr (.inl (0, 60))]
