theorem y_bdi {xs : Nat → Int32} {j : Nat} {lo hi : Int} {r : yB} (h1 : lo ≤ (xs j).toInt) (h2 : (xs j).toInt ≤ hi) (hr : y_bd xs r) : y_bd xs ((j, lo, hi, false) :: r) := ⟨⟨h1, h2, fun h => by cases h⟩, hr⟩
theorem y_bdp {xs : Nat → Int32} {j : Nat} {lo hi : Int} {nz : Bool} {r : yB} (h : lo ≤ (xs j).toInt ∧ (xs j).toInt ≤ hi ∧ (nz = true → ¬ (xs j).toInt = 0)) (hr : y_bd xs r) : y_bd xs ((j, lo, hi, nz) :: r) := ⟨h, hr⟩
theorem w_0 {xs : Nat → Int32} (hk : xs 0 &&& 31 = nI 0) : z_Won xs 5 := by
  have b1 := y_lo (xs 1)
  have b2 := y_lo (xs 2)
  have b3 := y_lo (xs 3)
  have b4 := y_lo (xs 4)
  rcases (by omega : (-2147483648 ≤ (xs 1).toInt ∧ (xs 1).toInt ≤ -1) ∨ (0 ≤ (xs 1).toInt ∧ (xs 1).toInt ≤ 999) ∨ (1000 ≤ (xs 1).toInt ∧ (xs 1).toInt ≤ 2147483647)) with g1 | g1 | g1
  · exact z_use q_0_0 hk (y_bdi (by omega) (by omega) trivial)
  · exact z_use q_0_1 hk (y_bdi (by omega) (by omega) trivial)
  · exact z_use q_0_2 hk (y_bdi (by omega) (by omega) trivial)
theorem w_1 {xs : Nat → Int32} (hk : xs 0 &&& 31 = nI 1) : z_Won xs 5 := by
  have b1 := y_lo (xs 1)
  have b2 := y_lo (xs 2)
  have b3 := y_lo (xs 3)
  have b4 := y_lo (xs 4)
  exact z_use q_1_0 hk trivial
theorem w_2 {xs : Nat → Int32} (hk : xs 0 &&& 31 = nI 2) : z_Won xs 5 := by
  have b1 := y_lo (xs 1)
  have b2 := y_lo (xs 2)
  have b3 := y_lo (xs 3)
  have b4 := y_lo (xs 4)
  rcases (by omega : (-2147483648 ≤ (xs 1).toInt ∧ (xs 1).toInt ≤ -1) ∨ (0 ≤ (xs 1).toInt ∧ (xs 1).toInt ≤ 2147483647)) with g1 | g1
  · exact z_use q_2_0 hk (y_bdi (by omega) (by omega) (y_bdi (by omega) (by omega) (y_bdi (by omega) (by omega) (y_bdi (by omega) (by omega) trivial))))
  · exact z_use q_2_1 hk (y_bdi (by omega) (by omega) (y_bdi (by omega) (by omega) (y_bdi (by omega) (by omega) (y_bdi (by omega) (by omega) trivial))))
theorem w_3 {xs : Nat → Int32} (hk : xs 0 &&& 31 = nI 3) : z_Won xs 5 := by
  have b1 := y_lo (xs 1)
  have b2 := y_lo (xs 2)
  have b3 := y_lo (xs 3)
  have b4 := y_lo (xs 4)
  rcases (by omega : (-2147483648 ≤ (xs 1).toInt ∧ (xs 1).toInt ≤ -1) ∨ (0 ≤ (xs 1).toInt ∧ (xs 1).toInt ≤ 2147483647)) with g1 | g1
  · exact z_use q_3_0 hk (y_bdi (by omega) (by omega) (y_bdi (by omega) (by omega) trivial))
  · exact z_use q_3_1 hk (y_bdi (by omega) (by omega) (y_bdi (by omega) (by omega) trivial))
theorem w_4 {xs : Nat → Int32} (hk : xs 0 &&& 31 = nI 4) : z_Won xs 5 := by
  have b1 := y_lo (xs 1)
  have b2 := y_lo (xs 2)
  have b3 := y_lo (xs 3)
  have b4 := y_lo (xs 4)
  rcases (by omega : (-2147483648 ≤ (xs 1).toInt ∧ (xs 1).toInt ≤ -1) ∨ (0 ≤ (xs 1).toInt ∧ (xs 1).toInt ≤ 2147483647)) with g1 | g1
  · exact z_use q_4_0 hk (y_bdi (by omega) (by omega) trivial)
  · exact z_use q_4_1 hk (y_bdi (by omega) (by omega) trivial)
theorem w_5 {xs : Nat → Int32} (hk : xs 0 &&& 31 = nI 5) : z_Won xs 5 := by
  have b1 := y_lo (xs 1)
  have b2 := y_lo (xs 2)
  have b3 := y_lo (xs 3)
  have b4 := y_lo (xs 4)
  rcases (by omega : (-2147483648 ≤ (xs 1).toInt ∧ (xs 1).toInt ≤ -1) ∨ (0 ≤ (xs 1).toInt ∧ (xs 1).toInt ≤ 2147483647)) with g1 | g1
  · rcases (by omega : (-2147483648 ≤ (xs 2).toInt ∧ (xs 2).toInt ≤ 0) ∨ (1 ≤ (xs 2).toInt ∧ (xs 2).toInt ≤ 99) ∨ (100 ≤ (xs 2).toInt ∧ (xs 2).toInt ≤ 2147483647)) with g2 | g2 | g2
    · exact z_use q_5_0 hk (y_bdi (by omega) (by omega) (y_bdi (by omega) (by omega) trivial))
    · exact z_use q_5_1 hk (y_bdi (by omega) (by omega) (y_bdi (by omega) (by omega) trivial))
    · exact z_use q_5_2 hk (y_bdi (by omega) (by omega) (y_bdi (by omega) (by omega) trivial))
  · rcases (by omega : (-2147483648 ≤ (xs 2).toInt ∧ (xs 2).toInt ≤ 0) ∨ (1 ≤ (xs 2).toInt ∧ (xs 2).toInt ≤ 99) ∨ (100 ≤ (xs 2).toInt ∧ (xs 2).toInt ≤ 2147483647)) with g2 | g2 | g2
    · exact z_use q_5_3 hk (y_bdi (by omega) (by omega) (y_bdi (by omega) (by omega) trivial))
    · exact z_use q_5_4 hk (y_bdi (by omega) (by omega) (y_bdi (by omega) (by omega) trivial))
    · exact z_use q_5_5 hk (y_bdi (by omega) (by omega) (y_bdi (by omega) (by omega) trivial))
theorem w_6 {xs : Nat → Int32} (hk : xs 0 &&& 31 = nI 6) : z_Won xs 5 := by
  have b1 := y_lo (xs 1)
  have b2 := y_lo (xs 2)
  have b3 := y_lo (xs 3)
  have b4 := y_lo (xs 4)
  rcases (by omega : (-2147483648 ≤ (xs 1).toInt ∧ (xs 1).toInt ≤ -1) ∨ (0 ≤ (xs 1).toInt ∧ (xs 1).toInt ≤ 2147483647)) with g1 | g1
  · exact z_use q_6_0 hk (y_bdi (by omega) (by omega) (y_bdi (by omega) (by omega) trivial))
  · exact z_use q_6_1 hk (y_bdi (by omega) (by omega) (y_bdi (by omega) (by omega) trivial))
theorem w_7 {xs : Nat → Int32} (hk : xs 0 &&& 31 = nI 7) : z_Won xs 5 := by
  have b1 := y_lo (xs 1)
  have b2 := y_lo (xs 2)
  have b3 := y_lo (xs 3)
  have b4 := y_lo (xs 4)
  rcases (by omega : (-2147483648 ≤ (xs 1).toInt ∧ (xs 1).toInt ≤ -1) ∨ (0 ≤ (xs 1).toInt ∧ (xs 1).toInt ≤ 2147483647)) with g1 | g1
  · exact z_use q_7_0 hk (y_bdi (by omega) (by omega) (y_bdi (by omega) (by omega) trivial))
  · exact z_use q_7_1 hk (y_bdi (by omega) (by omega) (y_bdi (by omega) (by omega) trivial))
theorem w_8 {xs : Nat → Int32} (hk : xs 0 &&& 31 = nI 8) : z_Won xs 5 := by
  have b1 := y_lo (xs 1)
  have b2 := y_lo (xs 2)
  have b3 := y_lo (xs 3)
  have b4 := y_lo (xs 4)
  rcases (by omega : (-2147483648 ≤ (xs 1).toInt ∧ (xs 1).toInt ≤ -1) ∨ (0 ≤ (xs 1).toInt ∧ (xs 1).toInt ≤ 2147483647)) with g1 | g1
  · exact z_use q_8_0 hk (y_bdi (by omega) (by omega) (y_bdi (by omega) (by omega) (y_bdi (by omega) (by omega) trivial)))
  · exact z_use q_8_1 hk (y_bdi (by omega) (by omega) (y_bdi (by omega) (by omega) (y_bdi (by omega) (by omega) trivial)))
theorem w_9 {xs : Nat → Int32} (hk : xs 0 &&& 31 = nI 9) : z_Won xs 5 := by
  have b1 := y_lo (xs 1)
  have b2 := y_lo (xs 2)
  have b3 := y_lo (xs 3)
  have b4 := y_lo (xs 4)
  rcases (by omega : (-2147483648 ≤ (xs 1).toInt ∧ (xs 1).toInt ≤ -1) ∨ (0 ≤ (xs 1).toInt ∧ (xs 1).toInt ≤ 0) ∨ (1 ≤ (xs 1).toInt ∧ (xs 1).toInt ≤ 1) ∨ (2 ≤ (xs 1).toInt ∧ (xs 1).toInt ≤ 2) ∨ (3 ≤ (xs 1).toInt ∧ (xs 1).toInt ≤ 3) ∨ (4 ≤ (xs 1).toInt ∧ (xs 1).toInt ≤ 4) ∨ (5 ≤ (xs 1).toInt ∧ (xs 1).toInt ≤ 5) ∨ (6 ≤ (xs 1).toInt ∧ (xs 1).toInt ≤ 6) ∨ (7 ≤ (xs 1).toInt ∧ (xs 1).toInt ≤ 2147483647)) with g1 | g1 | g1 | g1 | g1 | g1 | g1 | g1 | g1
  · exact z_use q_9_0 hk (y_bdi (by omega) (by omega) trivial)
  · exact z_use q_9_1 hk (y_bdi (by omega) (by omega) trivial)
  · exact z_use q_9_2 hk (y_bdi (by omega) (by omega) trivial)
  · exact z_use q_9_3 hk (y_bdi (by omega) (by omega) trivial)
  · exact z_use q_9_4 hk (y_bdi (by omega) (by omega) trivial)
  · exact z_use q_9_5 hk (y_bdi (by omega) (by omega) trivial)
  · exact z_use q_9_6 hk (y_bdi (by omega) (by omega) trivial)
  · exact z_use q_9_7 hk (y_bdi (by omega) (by omega) trivial)
  · exact z_use q_9_8 hk (y_bdi (by omega) (by omega) trivial)
theorem w_10 {xs : Nat → Int32} (hk : xs 0 &&& 31 = nI 10) : z_Won xs 5 := by
  have b1 := y_lo (xs 1)
  have b2 := y_lo (xs 2)
  have b3 := y_lo (xs 3)
  have b4 := y_lo (xs 4)
  rcases (by omega : (-2147483648 ≤ (xs 1).toInt ∧ (xs 1).toInt ≤ -1) ∨ (0 ≤ (xs 1).toInt ∧ (xs 1).toInt ≤ 2147483647)) with g1 | g1
  · exact z_use q_10_0 hk (y_bdi (by omega) (by omega) trivial)
  · exact z_use q_10_1 hk (y_bdi (by omega) (by omega) trivial)
theorem w_11 {xs : Nat → Int32} (hk : xs 0 &&& 31 = nI 11) : z_Won xs 5 := by
  have b1 := y_lo (xs 1)
  have b2 := y_lo (xs 2)
  have b3 := y_lo (xs 3)
  have b4 := y_lo (xs 4)
  rcases (by omega : (-2147483648 ≤ (xs 1).toInt ∧ (xs 1).toInt ≤ -1) ∨ (0 ≤ (xs 1).toInt ∧ (xs 1).toInt ≤ 0) ∨ (1 ≤ (xs 1).toInt ∧ (xs 1).toInt ≤ 1) ∨ (2 ≤ (xs 1).toInt ∧ (xs 1).toInt ≤ 2147483647)) with g1 | g1 | g1 | g1
  · exact z_use q_11_0 hk (y_bdi (by omega) (by omega) trivial)
  · exact z_use q_11_1 hk (y_bdi (by omega) (by omega) trivial)
  · exact z_use q_11_2 hk (y_bdi (by omega) (by omega) trivial)
  · exact z_use q_11_3 hk (y_bdi (by omega) (by omega) trivial)
theorem w_12 {xs : Nat → Int32} (hk : xs 0 &&& 31 = nI 12) : z_Won xs 5 := by
  have b1 := y_lo (xs 1)
  have b2 := y_lo (xs 2)
  have b3 := y_lo (xs 3)
  have b4 := y_lo (xs 4)
  rcases (by omega : (-2147483648 ≤ (xs 1).toInt ∧ (xs 1).toInt ≤ -1) ∨ (0 ≤ (xs 1).toInt ∧ (xs 1).toInt ≤ 2147483647)) with g1 | g1
  · exact z_use q_12_0 hk (y_bdi (by omega) (by omega) (y_bdi (by omega) (by omega) trivial))
  · exact z_use q_12_1 hk (y_bdi (by omega) (by omega) (y_bdi (by omega) (by omega) trivial))
theorem w_13 {xs : Nat → Int32} (hk : xs 0 &&& 31 = nI 13) : z_Won xs 5 := by
  have b1 := y_lo (xs 1)
  have b2 := y_lo (xs 2)
  have b3 := y_lo (xs 3)
  have b4 := y_lo (xs 4)
  exact z_use q_13_0 hk trivial
theorem w_14 {xs : Nat → Int32} (hk : xs 0 &&& 31 = nI 14) : z_Won xs 5 := by
  have b1 := y_lo (xs 1)
  have b2 := y_lo (xs 2)
  have b3 := y_lo (xs 3)
  have b4 := y_lo (xs 4)
  rcases (by omega : (-2147483648 ≤ (xs 1).toInt ∧ (xs 1).toInt ≤ -1) ∨ (0 ≤ (xs 1).toInt ∧ (xs 1).toInt ≤ 0) ∨ (1 ≤ (xs 1).toInt ∧ (xs 1).toInt ≤ 2147483647)) with g1 | g1 | g1
  · exact z_use q_14_0 hk (y_bdi (by omega) (by omega) (y_bdi (by omega) (by omega) trivial))
  · rcases (by omega : (-2147483648 ≤ (xs 2).toInt ∧ (xs 2).toInt ≤ -1) ∨ (0 ≤ (xs 2).toInt ∧ (xs 2).toInt ≤ 0) ∨ (1 ≤ (xs 2).toInt ∧ (xs 2).toInt ≤ 1) ∨ (2 ≤ (xs 2).toInt ∧ (xs 2).toInt ≤ 2) ∨ (3 ≤ (xs 2).toInt ∧ (xs 2).toInt ≤ 3) ∨ (4 ≤ (xs 2).toInt ∧ (xs 2).toInt ≤ 2147483647)) with g2 | g2 | g2 | g2 | g2 | g2
    · exact z_use q_14_1 hk (y_bdi (by omega) (by omega) (y_bdi (by omega) (by omega) trivial))
    · exact z_use q_14_2 hk (y_bdi (by omega) (by omega) (y_bdi (by omega) (by omega) trivial))
    · exact z_use q_14_3 hk (y_bdi (by omega) (by omega) (y_bdi (by omega) (by omega) trivial))
    · exact z_use q_14_4 hk (y_bdi (by omega) (by omega) (y_bdi (by omega) (by omega) trivial))
    · exact z_use q_14_5 hk (y_bdi (by omega) (by omega) (y_bdi (by omega) (by omega) trivial))
    · exact z_use q_14_6 hk (y_bdi (by omega) (by omega) (y_bdi (by omega) (by omega) trivial))
  · exact z_use q_14_7 hk (y_bdi (by omega) (by omega) (y_bdi (by omega) (by omega) trivial))
theorem w_15 {xs : Nat → Int32} (hk : xs 0 &&& 31 = nI 15) : z_Won xs 5 := by
  have b1 := y_lo (xs 1)
  have b2 := y_lo (xs 2)
  have b3 := y_lo (xs 3)
  have b4 := y_lo (xs 4)
  rcases (by omega : (-2147483648 ≤ (xs 1).toInt ∧ (xs 1).toInt ≤ -1) ∨ (0 ≤ (xs 1).toInt ∧ (xs 1).toInt ≤ 0) ∨ (1 ≤ (xs 1).toInt ∧ (xs 1).toInt ≤ 1) ∨ (2 ≤ (xs 1).toInt ∧ (xs 1).toInt ≤ 2) ∨ (3 ≤ (xs 1).toInt ∧ (xs 1).toInt ≤ 2147483647)) with g1 | g1 | g1 | g1 | g1
  · exact z_use q_15_0 hk (y_bdi (by omega) (by omega) trivial)
  · exact z_use q_15_1 hk (y_bdi (by omega) (by omega) trivial)
  · exact z_use q_15_2 hk (y_bdi (by omega) (by omega) trivial)
  · exact z_use q_15_3 hk (y_bdi (by omega) (by omega) trivial)
  · exact z_use q_15_4 hk (y_bdi (by omega) (by omega) trivial)
theorem w_16 {xs : Nat → Int32} (hk : xs 0 &&& 31 = nI 16) : z_Won xs 5 := by
  have b1 := y_lo (xs 1)
  have b2 := y_lo (xs 2)
  have b3 := y_lo (xs 3)
  have b4 := y_lo (xs 4)
  rcases (by omega : (-2147483648 ≤ (xs 1).toInt ∧ (xs 1).toInt ≤ -1) ∨ (0 ≤ (xs 1).toInt ∧ (xs 1).toInt ≤ 2147483647)) with g1 | g1
  · exact z_use q_16_0 hk (y_bdi (by omega) (by omega) (y_bdi (by omega) (by omega) trivial))
  · exact z_use q_16_1 hk (y_bdi (by omega) (by omega) (y_bdi (by omega) (by omega) trivial))
theorem w_17 {xs : Nat → Int32} (hk : xs 0 &&& 31 = nI 17) : z_Won xs 5 := by
  have b1 := y_lo (xs 1)
  have b2 := y_lo (xs 2)
  have b3 := y_lo (xs 3)
  have b4 := y_lo (xs 4)
  rcases (by omega : (-2147483648 ≤ (xs 1).toInt ∧ (xs 1).toInt ≤ -1) ∨ (0 ≤ (xs 1).toInt ∧ (xs 1).toInt ≤ 0) ∨ (1 ≤ (xs 1).toInt ∧ (xs 1).toInt ≤ 1) ∨ (2 ≤ (xs 1).toInt ∧ (xs 1).toInt ≤ 2) ∨ (3 ≤ (xs 1).toInt ∧ (xs 1).toInt ≤ 3) ∨ (4 ≤ (xs 1).toInt ∧ (xs 1).toInt ≤ 2147483647)) with g1 | g1 | g1 | g1 | g1 | g1
  · exact z_use q_17_0 hk (y_bdi (by omega) (by omega) trivial)
  · exact z_use q_17_1 hk (y_bdi (by omega) (by omega) trivial)
  · exact z_use q_17_2 hk (y_bdi (by omega) (by omega) trivial)
  · exact z_use q_17_3 hk (y_bdi (by omega) (by omega) trivial)
  · exact z_use q_17_4 hk (y_bdi (by omega) (by omega) trivial)
  · exact z_use q_17_5 hk (y_bdi (by omega) (by omega) trivial)
theorem w_18 {xs : Nat → Int32} (hk : xs 0 &&& 31 = nI 18) : z_Won xs 5 := by
  have b1 := y_lo (xs 1)
  have b2 := y_lo (xs 2)
  have b3 := y_lo (xs 3)
  have b4 := y_lo (xs 4)
  rcases (by omega : (-2147483648 ≤ (xs 1).toInt ∧ (xs 1).toInt ≤ -1) ∨ (0 ≤ (xs 1).toInt ∧ (xs 1).toInt ≤ 2147483647)) with g1 | g1
  · exact z_use q_18_0 hk (y_bdi (by omega) (by omega) trivial)
  · exact z_use q_18_1 hk (y_bdi (by omega) (by omega) trivial)
theorem w_20 {xs : Nat → Int32} (hk : xs 0 &&& 31 = nI 20) : z_Won xs 5 := by
  have b1 := y_lo (xs 1)
  have b2 := y_lo (xs 2)
  have b3 := y_lo (xs 3)
  have b4 := y_lo (xs 4)
  exact z_use q_20_0 hk trivial
theorem w_21 {xs : Nat → Int32} (hk : xs 0 &&& 31 = nI 21) : z_Won xs 5 := by
  have b1 := y_lo (xs 1)
  have b2 := y_lo (xs 2)
  have b3 := y_lo (xs 3)
  have b4 := y_lo (xs 4)
  exact z_use q_21_0 hk trivial
theorem w_22 {xs : Nat → Int32} (hk : xs 0 &&& 31 = nI 22) : z_Won xs 5 := by
  have b1 := y_lo (xs 1)
  have b2 := y_lo (xs 2)
  have b3 := y_lo (xs 3)
  have b4 := y_lo (xs 4)
  exact z_use q_22_0 hk trivial
theorem w_23 {xs : Nat → Int32} (hk : xs 0 &&& 31 = nI 23) : z_Won xs 5 := by
  have b1 := y_lo (xs 1)
  have b2 := y_lo (xs 2)
  have b3 := y_lo (xs 3)
  have b4 := y_lo (xs 4)
  exact z_use q_23_0 hk trivial
theorem w_24 {xs : Nat → Int32} (hk : xs 0 &&& 31 = nI 24) : z_Won xs 5 := by
  have b1 := y_lo (xs 1)
  have b2 := y_lo (xs 2)
  have b3 := y_lo (xs 3)
  have b4 := y_lo (xs 4)
  rcases (by omega : (-2147483648 ≤ (xs 1).toInt ∧ (xs 1).toInt ≤ -1) ∨ (0 ≤ (xs 1).toInt ∧ (xs 1).toInt ≤ 0) ∨ (1 ≤ (xs 1).toInt ∧ (xs 1).toInt ≤ 1) ∨ (2 ≤ (xs 1).toInt ∧ (xs 1).toInt ≤ 2147483647)) with g1 | g1 | g1 | g1
  · exact z_use q_24_0 hk (y_bdi (by omega) (by omega) trivial)
  · exact z_use q_24_1 hk (y_bdi (by omega) (by omega) trivial)
  · exact z_use q_24_2 hk (y_bdi (by omega) (by omega) trivial)
  · exact z_use q_24_3 hk (y_bdi (by omega) (by omega) trivial)
theorem w_25 {xs : Nat → Int32} (hk : xs 0 &&& 31 = nI 25) : z_Won xs 5 := by
  have b1 := y_lo (xs 1)
  have b2 := y_lo (xs 2)
  have b3 := y_lo (xs 3)
  have b4 := y_lo (xs 4)
  rcases (by omega : (-2147483648 ≤ (xs 1).toInt ∧ (xs 1).toInt ≤ -1) ∨ (0 ≤ (xs 1).toInt ∧ (xs 1).toInt ≤ 0) ∨ (1 ≤ (xs 1).toInt ∧ (xs 1).toInt ≤ 1) ∨ (2 ≤ (xs 1).toInt ∧ (xs 1).toInt ≤ 2147483647)) with g1 | g1 | g1 | g1
  · exact z_use q_25_0 hk (y_bdi (by omega) (by omega) trivial)
  · exact z_use q_25_1 hk (y_bdi (by omega) (by omega) trivial)
  · exact z_use q_25_2 hk (y_bdi (by omega) (by omega) trivial)
  · exact z_use q_25_3 hk (y_bdi (by omega) (by omega) trivial)
theorem w_26 {xs : Nat → Int32} (hk : xs 0 &&& 31 = nI 26) : z_Won xs 5 := z_use q_26_0 hk trivial
theorem w_27 {xs : Nat → Int32} (hk : xs 0 &&& 31 = nI 27) : z_Won xs 5 := z_use q_27_0 hk trivial
theorem w_28 {xs : Nat → Int32} (hk : xs 0 &&& 31 = nI 28) : z_Won xs 5 := z_use q_28_0 hk trivial
theorem w_29 {xs : Nat → Int32} (hk : xs 0 &&& 31 = nI 29) : z_Won xs 5 := z_use q_29_0 hk trivial
theorem w_30 {xs : Nat → Int32} (hk : xs 0 &&& 31 = nI 30) : z_Won xs 5 := z_use q_30_0 hk trivial
theorem w_31 {xs : Nat → Int32} (hk : xs 0 &&& 31 = nI 31) : z_Won xs 5 := z_use q_31_0 hk trivial
