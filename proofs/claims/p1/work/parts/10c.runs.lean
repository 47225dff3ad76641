set_option maxRecDepth 1000000 in
theorem q_14_5 : z_case 14 [(1, 0, 0, false), (2, 3, 3, false)] [] [(0, .inr 0, .inl 31, .inl 14), (20, .inr 1, .inr 1, .inl 0), (20, .inr 2, .inr 2, .inl 3)] = true := by decide +kernel
set_option maxRecDepth 1000000 in
theorem q_14_6 : z_case 14 [(1, 0, 0, false), (2, 4, 2147483647, false)] [(4, .inr 2, .inl 3, true), (2, .inr 2, .inl 0, false)] [(0, .inr 0, .inl 31, .inl 14), (20, .inr 1, .inr 1, .inl 0)] = true := by decide +kernel
set_option maxRecDepth 1000000 in
theorem q_14_7 : z_case 14 [(1, 1, 2147483647, false), (2, -2147483648, 2147483647, false)] [(0, .inr 1, .inl 0, false), (2, .inr 1, .inl 0, false), (2, .inr 1, .inl 1, false)] [(0, .inr 0, .inl 31, .inl 14), (1, .inr 1, .inl 0, .inr 1)] = true := by decide +kernel
set_option maxRecDepth 1000000 in
theorem q_15_0 : z_case 15 [(1, -2147483648, -1, false)] [(2, .inr 1, .inl 0, true)] [(0, .inr 0, .inl 31, .inl 15)] = true := by decide +kernel
set_option maxRecDepth 1000000 in
theorem q_15_1 : z_case 15 [(1, 0, 0, false)] [] [(0, .inr 0, .inl 31, .inl 15), (20, .inr 1, .inr 1, .inl 0)] = true := by decide +kernel
set_option maxRecDepth 1000000 in
theorem q_15_2 : z_case 15 [(1, 1, 1, false)] [] [(0, .inr 0, .inl 31, .inl 15), (20, .inr 1, .inr 1, .inl 1)] = true := by decide +kernel
set_option maxRecDepth 1000000 in
theorem q_15_3 : z_case 15 [(1, 2, 2, false)] [] [(0, .inr 0, .inl 31, .inl 15), (20, .inr 1, .inr 1, .inl 2)] = true := by decide +kernel
set_option maxRecDepth 1000000 in
theorem q_15_4 : z_case 15 [(1, 3, 2147483647, false)] [(4, .inr 1, .inl 2, true), (5, .inr 1, .inl 2, false), (2, .inr 1, .inl 0, false)] [(0, .inr 0, .inl 31, .inl 15)] = true := by decide +kernel
set_option maxRecDepth 1000000 in
theorem q_16_0 : z_case 16 [(1, -2147483648, -1, false), (2, -2147483648, 2147483647, false)] [(2, .inr 1, .inl 0, true)] [(0, .inr 0, .inl 31, .inl 16)] = true := by decide +kernel
set_option maxRecDepth 1000000 in
theorem q_16_1 : z_case 16 [(1, 0, 2147483647, false), (2, -2147483648, 2147483647, false)] [(3, .inr 1, .inl 0, true), (4, .inr 1, .inl 4294967295, true), (2, .inr 1, .inl 0, false)] [(0, .inr 0, .inl 31, .inl 16)] = true := by decide +kernel
set_option maxRecDepth 1000000 in
theorem q_17_0 : z_case 17 [(1, -2147483648, -1, false)] [(2, .inr 1, .inl 0, true)] [(0, .inr 0, .inl 31, .inl 17)] = true := by decide +kernel
set_option maxRecDepth 1000000 in
theorem q_17_1 : z_case 17 [(1, 0, 0, false)] [] [(0, .inr 0, .inl 31, .inl 17), (20, .inr 1, .inr 1, .inl 0)] = true := by decide +kernel
set_option maxRecDepth 1000000 in
theorem q_17_2 : z_case 17 [(1, 1, 1, false)] [] [(0, .inr 0, .inl 31, .inl 17), (20, .inr 1, .inr 1, .inl 1)] = true := by decide +kernel
set_option maxRecDepth 1000000 in
theorem q_17_3 : z_case 17 [(1, 2, 2, false)] [] [(0, .inr 0, .inl 31, .inl 17), (20, .inr 1, .inr 1, .inl 2)] = true := by decide +kernel
set_option maxRecDepth 1000000 in
theorem q_17_4 : z_case 17 [(1, 3, 3, false)] [] [(0, .inr 0, .inl 31, .inl 17), (20, .inr 1, .inr 1, .inl 3)] = true := by decide +kernel
set_option maxRecDepth 1000000 in
theorem q_17_5 : z_case 17 [(1, 4, 2147483647, false)] [(4, .inr 1, .inl 3, true), (5, .inr 1, .inl 3, false), (2, .inr 1, .inl 0, false)] [(0, .inr 0, .inl 31, .inl 17)] = true := by decide +kernel
set_option maxRecDepth 1000000 in
theorem q_18_0 : z_case 18 [(1, -2147483648, -1, false)] [(2, .inr 1, .inl 0, true)] [(0, .inr 0, .inl 31, .inl 18)] = true := by decide +kernel
set_option maxRecDepth 1000000 in
theorem q_18_1 : z_case 18 [(1, 0, 2147483647, false)] [(3, .inr 1, .inl 0, true), (4, .inr 1, .inl 4294967295, true), (2, .inr 1, .inl 0, false)] [(0, .inr 0, .inl 31, .inl 18)] = true := by decide +kernel
set_option maxRecDepth 1000000 in
theorem q_20_0 : z_case 20 [] [] [(0, .inr 0, .inl 31, .inl 20)] = true := by decide +kernel
set_option maxRecDepth 1000000 in
theorem q_21_0 : z_case 21 [] [] [(0, .inr 0, .inl 31, .inl 21)] = true := by decide +kernel
set_option maxRecDepth 1000000 in
theorem q_22_0 : z_case 22 [] [] [(0, .inr 0, .inl 31, .inl 22)] = true := by decide +kernel
set_option maxRecDepth 1000000 in
theorem q_23_0 : z_case 23 [] [] [(0, .inr 0, .inl 31, .inl 23)] = true := by decide +kernel
set_option maxRecDepth 1000000 in
theorem q_24_0 : z_case 24 [(1, -2147483648, -1, false)] [(0, .inr 1, .inl 0, false), (0, .inr 1, .inl 1, false), (2, .inr 1, .inl 0, true)] [(0, .inr 0, .inl 31, .inl 24)] = true := by decide +kernel
set_option maxRecDepth 1000000 in
theorem q_24_1 : z_case 24 [(1, 0, 0, false)] [] [(0, .inr 0, .inl 31, .inl 24), (20, .inr 1, .inr 1, .inl 0)] = true := by decide +kernel
set_option maxRecDepth 1000000 in
theorem q_24_2 : z_case 24 [(1, 1, 1, false)] [] [(0, .inr 0, .inl 31, .inl 24), (20, .inr 1, .inr 1, .inl 1)] = true := by decide +kernel
