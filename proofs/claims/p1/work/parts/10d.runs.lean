set_option maxRecDepth 1000000 in
theorem q_24_3 : z_case 24 [(1, 2, 2147483647, false)] [(0, .inr 1, .inl 0, false), (0, .inr 1, .inl 1, false), (4, .inr 1, .inl 1, true), (2, .inr 1, .inl 0, false)] [(0, .inr 0, .inl 31, .inl 24)] = true := by decide +kernel
set_option maxRecDepth 1000000 in
theorem q_25_0 : z_case 25 [(1, -2147483648, -1, false)] [(0, .inr 1, .inl 0, false), (0, .inr 1, .inl 1, false), (2, .inr 1, .inl 0, true)] [(0, .inr 0, .inl 31, .inl 25)] = true := by decide +kernel
set_option maxRecDepth 1000000 in
theorem q_25_1 : z_case 25 [(1, 0, 0, false)] [] [(0, .inr 0, .inl 31, .inl 25), (20, .inr 1, .inr 1, .inl 0)] = true := by decide +kernel
set_option maxRecDepth 1000000 in
theorem q_25_2 : z_case 25 [(1, 1, 1, false)] [] [(0, .inr 0, .inl 31, .inl 25), (20, .inr 1, .inr 1, .inl 1)] = true := by decide +kernel
set_option maxRecDepth 1000000 in
theorem q_25_3 : z_case 25 [(1, 2, 2147483647, false)] [(0, .inr 1, .inl 0, false), (0, .inr 1, .inl 1, false), (4, .inr 1, .inl 1, true), (2, .inr 1, .inl 0, false)] [(0, .inr 0, .inl 31, .inl 25)] = true := by decide +kernel
set_option maxRecDepth 1000000 in
theorem q_26_0 : z_case 26 [] [] [(0, .inr 0, .inl 31, .inl 26)] = true := by decide +kernel
set_option maxRecDepth 1000000 in
theorem q_27_0 : z_case 27 [] [] [(0, .inr 0, .inl 31, .inl 27)] = true := by decide +kernel
set_option maxRecDepth 1000000 in
theorem q_28_0 : z_case 28 [] [] [(0, .inr 0, .inl 31, .inl 28)] = true := by decide +kernel
set_option maxRecDepth 1000000 in
theorem q_29_0 : z_case 29 [] [] [(0, .inr 0, .inl 31, .inl 29)] = true := by decide +kernel
set_option maxRecDepth 1000000 in
theorem q_30_0 : z_case 30 [] [] [(0, .inr 0, .inl 31, .inl 30)] = true := by decide +kernel
set_option maxRecDepth 1000000 in
theorem q_31_0 : z_case 31 [] [] [(0, .inr 0, .inl 31, .inl 31)] = true := by decide +kernel
