set_option maxRecDepth 1000000 in
theorem q_8_0 : z_case 8 [(1, -2147483648, -1, false), (2, -2147483648, 2147483647, false), (3, -2147483648, 2147483647, false)] [(2, .inr 1, .inl 0, true)] [(0, .inr 0, .inl 31, .inl 8)] = true := by decide +kernel
set_option maxRecDepth 1000000 in
theorem q_8_1 : z_case 8 [(1, 0, 2147483647, false), (2, -2147483648, 2147483647, false), (3, -2147483648, 2147483647, false)] [(3, .inr 1, .inl 0, true), (4, .inr 1, .inl 4294967295, true), (2, .inr 1, .inl 0, false)] [(0, .inr 0, .inl 31, .inl 8)] = true := by decide +kernel
set_option maxRecDepth 1000000 in
theorem q_9_0 : z_case 9 [(1, -2147483648, -1, false)] [(2, .inr 1, .inl 0, true)] [(0, .inr 0, .inl 31, .inl 9)] = true := by decide +kernel
set_option maxRecDepth 1000000 in
theorem q_9_1 : z_case 9 [(1, 0, 0, false)] [] [(0, .inr 0, .inl 31, .inl 9), (20, .inr 1, .inr 1, .inl 0)] = true := by decide +kernel
set_option maxRecDepth 1000000 in
theorem q_9_2 : z_case 9 [(1, 1, 1, false)] [] [(0, .inr 0, .inl 31, .inl 9), (20, .inr 1, .inr 1, .inl 1)] = true := by decide +kernel
set_option maxRecDepth 1000000 in
theorem q_9_3 : z_case 9 [(1, 2, 2, false)] [] [(0, .inr 0, .inl 31, .inl 9), (20, .inr 1, .inr 1, .inl 2)] = true := by decide +kernel
set_option maxRecDepth 1000000 in
theorem q_9_4 : z_case 9 [(1, 3, 3, false)] [] [(0, .inr 0, .inl 31, .inl 9), (20, .inr 1, .inr 1, .inl 3)] = true := by decide +kernel
set_option maxRecDepth 1000000 in
theorem q_9_5 : z_case 9 [(1, 4, 4, false)] [] [(0, .inr 0, .inl 31, .inl 9), (20, .inr 1, .inr 1, .inl 4)] = true := by decide +kernel
set_option maxRecDepth 1000000 in
theorem q_9_6 : z_case 9 [(1, 5, 5, false)] [] [(0, .inr 0, .inl 31, .inl 9), (20, .inr 1, .inr 1, .inl 5)] = true := by decide +kernel
set_option maxRecDepth 1000000 in
theorem q_9_7 : z_case 9 [(1, 6, 6, false)] [] [(0, .inr 0, .inl 31, .inl 9), (20, .inr 1, .inr 1, .inl 6)] = true := by decide +kernel
set_option maxRecDepth 1000000 in
theorem q_9_8 : z_case 9 [(1, 7, 2147483647, false)] [(4, .inr 1, .inl 6, true)] [(0, .inr 0, .inl 31, .inl 9)] = true := by decide +kernel
set_option maxRecDepth 1000000 in
theorem q_10_0 : z_case 10 [(1, -2147483648, -1, false)] [(2, .inr 1, .inl 0, true)] [(0, .inr 0, .inl 31, .inl 10)] = true := by decide +kernel
set_option maxRecDepth 1000000 in
theorem q_10_1 : z_case 10 [(1, 0, 2147483647, false)] [(3, .inr 1, .inl 0, true), (4, .inr 1, .inl 4294967295, true), (2, .inr 1, .inl 0, false)] [(0, .inr 0, .inl 31, .inl 10)] = true := by decide +kernel
set_option maxRecDepth 1000000 in
theorem q_11_0 : z_case 11 [(1, -2147483648, -1, false)] [(0, .inr 1, .inl 0, false), (0, .inr 1, .inl 1, false), (2, .inr 1, .inl 0, true)] [(0, .inr 0, .inl 31, .inl 11), (14, .inl 18446744073709551614, .inl 18446744073709551614, .inl 0)] = true := by decide +kernel
set_option maxRecDepth 1000000 in
theorem q_11_1 : z_case 11 [(1, 0, 0, false)] [] [(0, .inr 0, .inl 31, .inl 11), (20, .inr 1, .inr 1, .inl 0), (14, .inl 0, .inl 0, .inl 0)] = true := by decide +kernel
set_option maxRecDepth 1000000 in
theorem q_11_2 : z_case 11 [(1, 1, 1, false)] [] [(0, .inr 0, .inl 31, .inl 11), (20, .inr 1, .inr 1, .inl 1), (14, .inl 0, .inl 0, .inl 0)] = true := by decide +kernel
set_option maxRecDepth 1000000 in
theorem q_11_3 : z_case 11 [(1, 2, 2147483647, false)] [(0, .inr 1, .inl 0, false), (0, .inr 1, .inl 1, false), (4, .inr 1, .inl 1, true), (2, .inr 1, .inl 0, false)] [(0, .inr 0, .inl 31, .inl 11), (14, .inl 18446744073709551614, .inl 18446744073709551614, .inl 0)] = true := by decide +kernel
set_option maxRecDepth 1000000 in
theorem q_12_0 : z_case 12 [(1, -2147483648, -1, false), (2, -2147483648, 2147483647, false)] [(2, .inr 1, .inl 0, true)] [(0, .inr 0, .inl 31, .inl 12)] = true := by decide +kernel
set_option maxRecDepth 1000000 in
theorem q_12_1 : z_case 12 [(1, 0, 2147483647, false), (2, -2147483648, 2147483647, false)] [(2, .inr 1, .inl 0, false)] [(0, .inr 0, .inl 31, .inl 12)] = true := by decide +kernel
set_option maxRecDepth 1000000 in
theorem q_13_0 : z_case 13 [] [] [(0, .inr 0, .inl 31, .inl 13)] = true := by decide +kernel
set_option maxRecDepth 1000000 in
theorem q_14_0 : z_case 14 [(1, -2147483648, -1, false), (2, -2147483648, 2147483647, false)] [(2, .inr 1, .inl 0, true)] [(0, .inr 0, .inl 31, .inl 14)] = true := by decide +kernel
set_option maxRecDepth 1000000 in
theorem q_14_1 : z_case 14 [(1, 0, 0, false), (2, -2147483648, -1, false)] [(2, .inr 2, .inl 0, true)] [(0, .inr 0, .inl 31, .inl 14), (20, .inr 1, .inr 1, .inl 0)] = true := by decide +kernel
set_option maxRecDepth 1000000 in
theorem q_14_2 : z_case 14 [(1, 0, 0, false), (2, 0, 0, false)] [] [(0, .inr 0, .inl 31, .inl 14), (20, .inr 1, .inr 1, .inl 0), (20, .inr 2, .inr 2, .inl 0)] = true := by decide +kernel
set_option maxRecDepth 1000000 in
theorem q_14_3 : z_case 14 [(1, 0, 0, false), (2, 1, 1, false)] [] [(0, .inr 0, .inl 31, .inl 14), (20, .inr 1, .inr 1, .inl 0), (20, .inr 2, .inr 2, .inl 1)] = true := by decide +kernel
set_option maxRecDepth 1000000 in
theorem q_14_4 : z_case 14 [(1, 0, 0, false), (2, 2, 2, false)] [] [(0, .inr 0, .inl 31, .inl 14), (20, .inr 1, .inr 1, .inl 0), (20, .inr 2, .inr 2, .inl 2)] = true := by decide +kernel
