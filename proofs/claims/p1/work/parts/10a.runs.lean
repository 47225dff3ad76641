set_option maxRecDepth 1000000 in
theorem q_L0 : z_run 0 [] [] = true := by decide +kernel
set_option maxRecDepth 1000000 in
theorem q_L1 : z_run 1 [] [] = true := by decide +kernel
set_option maxRecDepth 1000000 in
theorem q_L2 : z_run 2 [] [] = true := by decide +kernel
set_option maxRecDepth 1000000 in
theorem q_L3 : z_run 3 [] [] = true := by decide +kernel
set_option maxRecDepth 1000000 in
theorem q_L4 : z_run 4 [] [] = true := by decide +kernel
set_option maxRecDepth 1000000 in
theorem q_0_0 : z_case 0 [(1, -2147483648, -1, false)] [(2, .inr 1, .inl 0, true)] [(0, .inr 0, .inl 31, .inl 0)] = true := by decide +kernel
set_option maxRecDepth 1000000 in
theorem q_0_1 : z_case 0 [(1, 0, 999, false)] [(4, .inr 1, .inl 999, false), (5, .inr 1, .inl 999, true), (2, .inr 1, .inl 0, false)] [(0, .inr 0, .inl 31, .inl 0)] = true := by decide +kernel
set_option maxRecDepth 1000000 in
theorem q_0_2 : z_case 0 [(1, 1000, 2147483647, false)] [(4, .inr 1, .inl 999, true), (5, .inr 1, .inl 999, false), (2, .inr 1, .inl 0, false)] [(0, .inr 0, .inl 31, .inl 0)] = true := by decide +kernel
set_option maxRecDepth 1000000 in
theorem q_1_0 : z_case 1 [] [] [(0, .inr 0, .inl 31, .inl 1)] = true := by decide +kernel
set_option maxRecDepth 1000000 in
theorem q_2_0 : z_case 2 [(1, -2147483648, -1, false), (2, -2147483648, 2147483647, false), (3, -2147483648, 2147483647, false), (4, -2147483648, 2147483647, false)] [(2, .inr 1, .inl 0, true)] [(0, .inr 0, .inl 31, .inl 2)] = true := by decide +kernel
set_option maxRecDepth 1000000 in
theorem q_2_1 : z_case 2 [(1, 0, 2147483647, false), (2, -2147483648, 2147483647, false), (3, -2147483648, 2147483647, false), (4, -2147483648, 2147483647, false)] [(3, .inr 1, .inl 0, true), (4, .inr 1, .inl 4294967295, true), (2, .inr 1, .inl 0, false)] [(0, .inr 0, .inl 31, .inl 2)] = true := by decide +kernel
set_option maxRecDepth 1000000 in
theorem q_3_0 : z_case 3 [(1, -2147483648, -1, false), (2, -2147483648, 2147483647, false)] [(2, .inr 1, .inl 0, true)] [(0, .inr 0, .inl 31, .inl 3)] = true := by decide +kernel
set_option maxRecDepth 1000000 in
theorem q_3_1 : z_case 3 [(1, 0, 2147483647, false), (2, -2147483648, 2147483647, false)] [(3, .inr 1, .inl 0, true), (4, .inr 1, .inl 4294967295, true), (2, .inr 1, .inl 0, false)] [(0, .inr 0, .inl 31, .inl 3)] = true := by decide +kernel
set_option maxRecDepth 1000000 in
theorem q_4_0 : z_case 4 [(1, -2147483648, -1, false)] [(2, .inr 1, .inl 0, true)] [(0, .inr 0, .inl 31, .inl 4)] = true := by decide +kernel
set_option maxRecDepth 1000000 in
theorem q_4_1 : z_case 4 [(1, 0, 2147483647, false)] [(3, .inr 1, .inl 0, true), (4, .inr 1, .inl 4294967295, true), (2, .inr 1, .inl 0, false)] [(0, .inr 0, .inl 31, .inl 4)] = true := by decide +kernel
set_option maxRecDepth 1000000 in
theorem q_5_0 : z_case 5 [(1, -2147483648, -1, false), (2, -2147483648, 0, false)] [(2, .inr 1, .inl 0, true)] [(0, .inr 0, .inl 31, .inl 5), (16, .inr 1, .inr 1, .inr 1)] = true := by decide +kernel
set_option maxRecDepth 1000000 in
theorem q_5_1 : z_case 5 [(1, -2147483648, -1, false), (2, 1, 99, false)] [(2, .inr 1, .inl 0, true)] [(0, .inr 0, .inl 31, .inl 5), (16, .inr 1, .inr 1, .inr 1)] = true := by decide +kernel
set_option maxRecDepth 1000000 in
theorem q_5_2 : z_case 5 [(1, -2147483648, -1, false), (2, 100, 2147483647, false)] [(2, .inr 1, .inl 0, true)] [(0, .inr 0, .inl 31, .inl 5), (16, .inr 1, .inr 1, .inr 1)] = true := by decide +kernel
set_option maxRecDepth 1000000 in
theorem q_5_3 : z_case 5 [(1, 0, 2147483647, false), (2, -2147483648, 0, false)] [(2, .inr 1, .inl 0, false), (2, .inr 2, .inl 1, true)] [(0, .inr 0, .inl 31, .inl 5), (16, .inr 1, .inr 1, .inr 1)] = true := by decide +kernel
set_option maxRecDepth 1000000 in
theorem q_5_4 : z_case 5 [(1, 0, 2147483647, false), (2, 1, 99, false)] [(3, .inl 0, .inr 2, false), (4, .inr 2, .inl 99, false), (5, .inr 2, .inl 99, true), (2, .inr 1, .inl 0, false), (2, .inr 2, .inl 1, false)] [(0, .inr 0, .inl 31, .inl 5), (16, .inr 1, .inr 1, .inr 1)] = true := by decide +kernel
set_option maxRecDepth 1000000 in
theorem q_5_5 : z_case 5 [(1, 0, 2147483647, false), (2, 100, 2147483647, false)] [(4, .inr 2, .inl 99, true), (5, .inr 2, .inl 99, false), (2, .inr 1, .inl 0, false), (2, .inr 2, .inl 1, false)] [(0, .inr 0, .inl 31, .inl 5), (16, .inr 1, .inr 1, .inr 1)] = true := by decide +kernel
set_option maxRecDepth 1000000 in
theorem q_6_0 : z_case 6 [(1, -2147483648, -1, false), (2, -2147483648, 2147483647, false)] [(2, .inr 1, .inl 0, true)] [(0, .inr 0, .inl 31, .inl 6)] = true := by decide +kernel
set_option maxRecDepth 1000000 in
theorem q_6_1 : z_case 6 [(1, 0, 2147483647, false), (2, -2147483648, 2147483647, false)] [(3, .inr 1, .inl 0, true), (4, .inr 1, .inl 4294967295, true), (2, .inr 1, .inl 0, false)] [(0, .inr 0, .inl 31, .inl 6)] = true := by decide +kernel
set_option maxRecDepth 1000000 in
theorem q_7_0 : z_case 7 [(1, -2147483648, -1, false), (2, -2147483648, 2147483647, false)] [(2, .inr 1, .inl 0, true)] [(0, .inr 0, .inl 31, .inl 7)] = true := by decide +kernel
set_option maxRecDepth 1000000 in
theorem q_7_1 : z_case 7 [(1, 0, 2147483647, false), (2, -2147483648, 2147483647, false)] [(3, .inr 1, .inl 0, true), (4, .inr 1, .inl 4294967295, true), (2, .inr 1, .inl 0, false)] [(0, .inr 0, .inl 31, .inl 7)] = true := by decide +kernel
