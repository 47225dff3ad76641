def z_g0 : List yE := [zX8_init, zX8_arc, zX8_bound, zX8_carryOut, zX8_count, zX8_fault, zX8_fewest, zX8_growth, zX8_kept, zX8_keptMany, zX8_make, zX8_mean, zX8_move, zX8_ofArc, zX8_ofMove, zX8_ofPlace, zX8_place, zX8_put]
set_option maxRecDepth 100000 in
theorem k_g0 : z_g0.all (y_ok z_mt) = true := by decide +kernel
def z_g1 : List yE := [zX8_reached, zX8_restore, zX8_run, zX8_save, zX8_share, zX8_tokens, zX8_trap, zX8_undo, zX8_wipe, zX1_init, zX1_note, zX1_settle, zX1_takeBack, zX2_init, zX2_begins, zX2_takeIn, zX3_init, zX3_addMove, zX3_addPlace, zX3_allMade, zX3_allTokens, zX3_copy]
set_option maxRecDepth 100000 in
theorem k_g1 : z_g1.all (y_ok z_mt) = true := by decide +kernel
def z_g2 : List yE := [zX3_greatestClosed, zX3_hasMove, zX3_hasPlace, zX3_makeBySeed, zX3_makeOne, zX3_possibleMoves, zX3_setArc, zX3_setTokens, zX3_tokensIn, zX4_init, zX4_append, zX4_firstFault, zX4_mayEnd, zX5_init, zX5_find, zX5_follow, zX5_hash]
set_option maxRecDepth 100000 in
theorem k_g2 : z_g2.all (y_ok z_mt) = true := by decide +kernel
def z_g3 : List yE := [zX5_meet, zX6_init, zX6_find, zX7_init, zX7_add, zX7_endlessPlaces, zX7_find, zX7_follow, zX7_mostTokens, zX9_init, zX9_allMade, zX9_allTokens, zX9_arc]
set_option maxRecDepth 100000 in
theorem k_g3 : z_g3.all (y_ok z_mt) = true := by decide +kernel
def z_g4 : List yE := [zX9_begins, zX9_bound, zX9_carryOut, zX9_character, zX9_codes, zX9_count, zX9_fault, zX9_fewest, zX9_findFault, zX9_findReached, zX9_findSets, zX9_findTree, zX9_goTo, zX9_greatest, zX9_growth]
set_option maxRecDepth 100000 in
theorem k_g4 : z_g4.all (y_ok z_mt) = true := by decide +kernel
def z_g5 : List yE := [zX9_isMove, zX9_isPlace, zX9_isRepeated, zX9_keepTried, zX9_kept, zX9_keptMany, zX9_make, zX9_mean, zX9_move, zX9_moves, zX9_movesBy, zX9_movesNow, zX9_ofArc, zX9_ofMove, zX9_ofPlace, zX9_place, zX9_placed, zX9_put]
set_option maxRecDepth 100000 in
theorem k_g5 : z_g5.all (y_ok z_mt) = true := by decide +kernel
def z_g6 : List yE := [zX9_reached, zX9_readsOrder, zX9_record, zX9_restore, zX9_run, zX9_save, zX9_share, zX9_tokens, zX9_tokensIn, zX9_trap, zX9_undo, zX9_whyNoPlace, zX9_whyNoTokens, zX9_whyNotMade, zX9_wipe, zX9_within]
set_option maxRecDepth 100000 in
theorem k_g6 : z_g6.all (y_ok z_mt) = true := by decide +kernel
def z_g7 : List yE := [zJ6_bitCount_0f7a4, zJ9_max_7cf53, zJ9_min_7cf53, zJ7_fill_53178]
set_option maxRecDepth 100000 in
theorem k_g7 : z_g7.all (y_ok z_mt) = true := by decide +kernel
set_option maxRecDepth 100000 in
theorem z_mt_eq : z_mt = z_g0 ++ (z_g1 ++ (z_g2 ++ (z_g3 ++ (z_g4 ++ (z_g5 ++ (z_g6 ++ (z_g7))))))) := rfl
theorem z_mt_ok : ∀ e ∈ z_mt, y_ok z_mt e = true := by
  intro e he
  rw [z_mt_eq] at he
  simp only [List.mem_append] at he
  rcases he with he | he | he | he | he | he | he | he
  · exact List.all_eq_true.mp k_g0 e he
  · exact List.all_eq_true.mp k_g1 e he
  · exact List.all_eq_true.mp k_g2 e he
  · exact List.all_eq_true.mp k_g3 e he
  · exact List.all_eq_true.mp k_g4 e he
  · exact List.all_eq_true.mp k_g5 e he
  · exact List.all_eq_true.mp k_g6 e he
  · exact List.all_eq_true.mp k_g7 e he

set_option maxRecDepth 100000 in
theorem kL_law : y_okb z_mt zL_law = true := by decide +kernel
