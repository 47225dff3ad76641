section
-- ===== PART A: goes FIRST, ahead of the names: the tables' words, and 'selects' of the private methods out of them =====
/-- a private method of a class that the tables say can be made, by its rows of tables_1 -/
def lw_okq (q : MethodName × Nat) : Prop := (q.1.cls ≠ "java/lang/invoke/MethodHandle" ∧ q.1.cls ≠ "java/lang/invoke/VarHandle") ∧ Cond.instantiable q.1.cls q.2 ∈ tables_1 ∧ Cond.privateMethod q.1 ∈ tables_1 ∧ Cond.instanceMethod q.1 ∈ tables_1
theorem lw_p0 : lw_okq (⟨"TokenNets$Net", "carry", "(I)V"⟩, 7) := ⟨⟨by decide +kernel, by decide +kernel⟩, List.mem_of_getElem? (i := 22) (by decide +kernel), List.mem_of_getElem? (i := 323) (by decide +kernel), List.mem_of_getElem? (i := 324) (by decide +kernel)⟩
theorem lw_p1 : lw_okq (⟨"TokenNets$Sums", "hasCoveredPart", "(I)Z"⟩, 8) := ⟨⟨by decide +kernel, by decide +kernel⟩, List.mem_of_getElem? (i := 99) (by decide +kernel), List.mem_of_getElem? (i := 451) (by decide +kernel), List.mem_of_getElem? (i := 452) (by decide +kernel)⟩
theorem lw_p2 : lw_okq (⟨"TokenNets$Sums", "canBalance", "(II)Z"⟩, 8) := ⟨⟨by decide +kernel, by decide +kernel⟩, List.mem_of_getElem? (i := 99) (by decide +kernel), List.mem_of_getElem? (i := 458) (by decide +kernel), List.mem_of_getElem? (i := 459) (by decide +kernel)⟩
theorem lw_p3 : lw_okq (⟨"TokenNets$Sums", "keep", "()V"⟩, 8) := ⟨⟨by decide +kernel, by decide +kernel⟩, List.mem_of_getElem? (i := 99) (by decide +kernel), List.mem_of_getElem? (i := 462) (by decide +kernel), List.mem_of_getElem? (i := 463) (by decide +kernel)⟩
theorem lw_p4 : lw_okq (⟨"TokenNets$Sums", "allDividedBy", "(I)Z"⟩, 8) := ⟨⟨by decide +kernel, by decide +kernel⟩, List.mem_of_getElem? (i := 99) (by decide +kernel), List.mem_of_getElem? (i := 466) (by decide +kernel), List.mem_of_getElem? (i := 467) (by decide +kernel)⟩
theorem lw_p5 : lw_okq (⟨"TokenNets$Sums", "balance", "(II)V"⟩, 8) := ⟨⟨by decide +kernel, by decide +kernel⟩, List.mem_of_getElem? (i := 99) (by decide +kernel), List.mem_of_getElem? (i := 482) (by decide +kernel), List.mem_of_getElem? (i := 483) (by decide +kernel)⟩
theorem lw_p6 : lw_okq (⟨"TokenNets$Reach", "meet", "(I)V"⟩, 4) := ⟨⟨by decide +kernel, by decide +kernel⟩, List.mem_of_getElem? (i := 133) (by decide +kernel), List.mem_of_getElem? (i := 540) (by decide +kernel), List.mem_of_getElem? (i := 541) (by decide +kernel)⟩
theorem lw_p7 : lw_okq (⟨"TokenNets$Marks", "isLike", "(I[II)Z"⟩, 7) := ⟨⟨by decide +kernel, by decide +kernel⟩, List.mem_of_getElem? (i := 139) (by decide +kernel), List.mem_of_getElem? (i := 552) (by decide +kernel), List.mem_of_getElem? (i := 553) (by decide +kernel)⟩
theorem lw_p8 : lw_okq (⟨"TokenNets$Reach", "follow", "(I)V"⟩, 4) := ⟨⟨by decide +kernel, by decide +kernel⟩, List.mem_of_getElem? (i := 133) (by decide +kernel), List.mem_of_getElem? (i := 560) (by decide +kernel), List.mem_of_getElem? (i := 561) (by decide +kernel)⟩
theorem lw_p9 : lw_okq (⟨"TokenNets$Tree", "add", "(II)V"⟩, 5) := ⟨⟨by decide +kernel, by decide +kernel⟩, List.mem_of_getElem? (i := 197) (by decide +kernel), List.mem_of_getElem? (i := 591) (by decide +kernel), List.mem_of_getElem? (i := 592) (by decide +kernel)⟩
theorem lw_p10 : lw_okq (⟨"TokenNets$Tree", "follow", "(I)V"⟩, 5) := ⟨⟨by decide +kernel, by decide +kernel⟩, List.mem_of_getElem? (i := 197) (by decide +kernel), List.mem_of_getElem? (i := 597) (by decide +kernel), List.mem_of_getElem? (i := 598) (by decide +kernel)⟩
theorem lw_p11 : lw_okq (⟨"TokenNets$Tree", "outgrow", "(I[I)V"⟩, 5) := ⟨⟨by decide +kernel, by decide +kernel⟩, List.mem_of_getElem? (i := 197) (by decide +kernel), List.mem_of_getElem? (i := 607) (by decide +kernel), List.mem_of_getElem? (i := 608) (by decide +kernel)⟩
def lw_privs_1 : List (MethodName × Nat) := [(⟨"TokenNets$Net", "carry", "(I)V"⟩, 7), (⟨"TokenNets$Sums", "hasCoveredPart", "(I)Z"⟩, 8), (⟨"TokenNets$Sums", "canBalance", "(II)Z"⟩, 8), (⟨"TokenNets$Sums", "keep", "()V"⟩, 8), (⟨"TokenNets$Sums", "allDividedBy", "(I)Z"⟩, 8), (⟨"TokenNets$Sums", "balance", "(II)V"⟩, 8), (⟨"TokenNets$Reach", "meet", "(I)V"⟩, 4), (⟨"TokenNets$Marks", "isLike", "(I[II)Z"⟩, 7), (⟨"TokenNets$Reach", "follow", "(I)V"⟩, 4), (⟨"TokenNets$Tree", "add", "(II)V"⟩, 5), (⟨"TokenNets$Tree", "follow", "(I)V"⟩, 5), (⟨"TokenNets$Tree", "outgrow", "(I[I)V"⟩, 5)]
theorem lw_r1 : ∀ q ∈ lw_privs_1, lw_okq q := List.forall_mem_cons.mpr ⟨lw_p0, List.forall_mem_cons.mpr ⟨lw_p1, List.forall_mem_cons.mpr ⟨lw_p2, List.forall_mem_cons.mpr ⟨lw_p3, List.forall_mem_cons.mpr ⟨lw_p4, List.forall_mem_cons.mpr ⟨lw_p5, List.forall_mem_cons.mpr ⟨lw_p6, List.forall_mem_cons.mpr ⟨lw_p7, List.forall_mem_cons.mpr ⟨lw_p8, List.forall_mem_cons.mpr ⟨lw_p9, List.forall_mem_cons.mpr ⟨lw_p10, List.forall_mem_cons.mpr ⟨lw_p11, fun _ h => absurd h List.not_mem_nil⟩⟩⟩⟩⟩⟩⟩⟩⟩⟩⟩⟩
def lw_privs : List (MethodName × Nat) := lw_privs_1
def lw_tbl : List Cond := k2_sels lw_privs ++ tables_1
theorem lw_privs_ok : ∀ q ∈ lw_privs, lw_okq q := lw_r1
theorem goodIn_r {big : List Cond} (ws : List Cond) (ps : List Nat) (hp : ws = ps.filterMap (fun i => big[i]?)) (h : ws.all goodWord = true) : GoodIn big ws := by
  intro w hw
  have h1 := List.all_eq_true.mp h w hw
  rw [hp] at hw
  obtain ⟨i, -, hi⟩ := List.mem_filterMap.mp hw
  have hm : w ∈ big := by first | exact List.mem_of_getElem? hi | exact List.getElem?_mem hi
  exact ⟨hm, good_of_word h1⟩
theorem goodIn_app {big a b : List Cond} (ha : GoodIn big a) (hb : GoodIn big b) : GoodIn big (a ++ b) := fun w h => (List.mem_append.mp h).elim (ha w) (hb w)
theorem goodIn_ca {big a b : List Cond} {c : Cond} (ha : GoodIn big (c :: a)) (hb : GoodIn big b) : GoodIn big (c :: (a ++ b)) := fun w h => (List.mem_cons.mp h).elim (fun e => ha w (List.mem_cons.mpr (Or.inl e))) (fun h => (List.mem_append.mp h).elim (fun h => ha w (List.mem_cons.mpr (Or.inr h))) (hb w))
theorem goodIn_sub {big ws : List Cond} (hm : ∀ w ∈ ws, w ∈ big) (h : ws.all goodWord = true) : GoodIn big ws := fun w hw => ⟨hm w hw, good_of_word (List.all_eq_true.mp h w hw)⟩
def RX0 : String := "TokenNets$Bits"
def TX0 : u_T := fun k => match k with
  | _ => ("", "", "", false)
def tyX0 : Nat → FieldType := fun k => match k with
  | _ => .int
abbrev wsX00 : List Cond := u_ws RX0 TX0 0
theorem nmX0 : ∀ a, a < 0 → ∀ b, b < 0 → a ≠ b → (TX0 a).2.1 ≠ (TX0 b).2.1 := by decide +kernel
theorem tyX0_ok : ∀ k, k < 0 → parseFieldDescriptor (TX0 k).2.2.1 = some (tyX0 k) := by decide +kernel
def RX1 : String := "TokenNets$History"
def TX1 : u_T := fun k => match k with
  | 0 => ("TokenNets$History", "rows", "[LTokenNets$Net;", true)
  | 1 => ("TokenNets$History", "next", "I", false)
  | _ => ("TokenNets$History", "many", "I", false)
def tyX1 : Nat → FieldType := fun k => match k with
  | 0 => .array (.object "TokenNets$Net")
  | 1 => .int
  | _ => .int
abbrev wsX10 : List Cond := u_ws RX1 TX1 3
theorem nmX1 : ∀ a, a < 3 → ∀ b, b < 3 → a ≠ b → (TX1 a).2.1 ≠ (TX1 b).2.1 := by decide +kernel
theorem tyX1_ok : ∀ k, k < 3 → parseFieldDescriptor (TX1 k).2.2.1 = some (tyX1 k) := by decide +kernel
abbrev cX1_init : ByteArray := prog_3_method_1_code
def yX1_init : MethodName := ⟨RX1, "<init>", "()V"⟩
abbrev cX1_note : ByteArray := prog_3_method_2_code
def yX1_note : MethodName := ⟨RX1, "note", "(LTokenNets$Net;)V"⟩
abbrev cX1_settle : ByteArray := prog_3_method_3_code
def yX1_settle : MethodName := ⟨RX1, "settle", "(I)I"⟩
def RX2 : String := "TokenNets$Marks"
def TX2 : u_T := fun k => match k with
  | 0 => ("TokenNets$Marks", "net", "LTokenNets$Net;", true)
  | 1 => ("TokenNets$Marks", "known", "Z", false)
  | 2 => ("TokenNets$Marks", "rows", "[I", true)
  | 3 => ("TokenNets$Marks", "next", "[I", true)
  | 4 => ("TokenNets$Marks", "many", "I", false)
  | 5 => ("TokenNets$Marks", "tooMany", "Z", false)
  | _ => ("TokenNets$Marks", "possible", "I", false)
def tyX2 : Nat → FieldType := fun k => match k with
  | 0 => .object "TokenNets$Net"
  | 1 => .boolean
  | 2 => .array .int
  | 3 => .array .int
  | 4 => .int
  | 5 => .boolean
  | _ => .int
abbrev wsX20 : List Cond := u_ws RX2 TX2 7
theorem nmX2 : ∀ a, a < 7 → ∀ b, b < 7 → a ≠ b → (TX2 a).2.1 ≠ (TX2 b).2.1 := by decide +kernel
theorem tyX2_ok : ∀ k, k < 7 → parseFieldDescriptor (TX2 k).2.2.1 = some (tyX2 k) := by decide +kernel
abbrev cX2_init : ByteArray := prog_4_method_1_code
def yX2_init : MethodName := ⟨RX2, "<init>", "()V"⟩
abbrev cX2_begins : ByteArray := prog_4_method_2_code
def yX2_begins : MethodName := ⟨RX2, "begins", "(LTokenNets$Net;)Z"⟩
abbrev cX2_leads : ByteArray := prog_4_method_3_code
def yX2_leads : MethodName := ⟨RX2, "leads", "(III)Z"⟩
abbrev cX2_takeIn : ByteArray := prog_4_method_4_code
def yX2_takeIn : MethodName := ⟨RX2, "takeIn", "()Z"⟩
abbrev cX2_isNext : ByteArray := prog_4_method_5_code
def yX2_isNext : MethodName := ⟨RX2, "isNext", "(I)Z"⟩
abbrev cX2_areSame : ByteArray := prog_4_method_6_code
def yX2_areSame : MethodName := ⟨RX2, "areSame", "(II)Z"⟩
abbrev cX2_isLike : ByteArray := prog_4_method_7_code
def yX2_isLike : MethodName := ⟨RX2, "isLike", "(I[II)Z"⟩
def RX3 : String := "TokenNets$Net"
def TX3 : u_T := fun k => match k with
  | 0 => ("TokenNets$Net", "places", "I", false)
  | 1 => ("TokenNets$Net", "moves", "I", false)
  | 2 => ("TokenNets$Net", "tokens", "[I", true)
  | 3 => ("TokenNets$Net", "most", "[I", true)
  | 4 => ("TokenNets$Net", "made", "[I", true)
  | 5 => ("TokenNets$Net", "takes", "[I", true)
  | _ => ("TokenNets$Net", "gives", "[I", true)
def tyX3 : Nat → FieldType := fun k => match k with
  | 0 => .int
  | 1 => .int
  | 2 => .array .int
  | 3 => .array .int
  | 4 => .array .int
  | 5 => .array .int
  | _ => .array .int
abbrev wsX30 : List Cond := u_ws RX3 TX3 7
theorem nmX3 : ∀ a, a < 7 → ∀ b, b < 7 → a ≠ b → (TX3 a).2.1 ≠ (TX3 b).2.1 := by decide +kernel
theorem tyX3_ok : ∀ k, k < 7 → parseFieldDescriptor (TX3 k).2.2.1 = some (tyX3 k) := by decide +kernel
abbrev cX3_init : ByteArray := prog_5_method_1_code
def yX3_init : MethodName := ⟨RX3, "<init>", "()V"⟩
abbrev cX3_copy : ByteArray := prog_5_method_2_code
def yX3_copy : MethodName := ⟨RX3, "copy", "(LTokenNets$Net;)V"⟩
abbrev cX3_sameArcs : ByteArray := prog_5_method_3_code
def yX3_sameArcs : MethodName := ⟨RX3, "sameArcs", "(LTokenNets$Net;)Z"⟩
abbrev cX3_sameMarking : ByteArray := prog_5_method_4_code
def yX3_sameMarking : MethodName := ⟨RX3, "sameMarking", "(LTokenNets$Net;)Z"⟩
abbrev cX3_hasPlace : ByteArray := prog_5_method_5_code
def yX3_hasPlace : MethodName := ⟨RX3, "hasPlace", "(I)Z"⟩
abbrev cX3_hasMove : ByteArray := prog_5_method_6_code
def yX3_hasMove : MethodName := ⟨RX3, "hasMove", "(I)Z"⟩
abbrev cX3_addPlace : ByteArray := prog_5_method_7_code
def yX3_addPlace : MethodName := ⟨RX3, "addPlace", "(I)I"⟩
abbrev cX3_addMove : ByteArray := prog_5_method_8_code
def yX3_addMove : MethodName := ⟨RX3, "addMove", "()I"⟩
abbrev cX3_setArc : ByteArray := prog_5_method_9_code
def yX3_setArc : MethodName := ⟨RX3, "setArc", "(IIII)I"⟩
abbrev cX3_setTokens : ByteArray := prog_5_method_10_code
def yX3_setTokens : MethodName := ⟨RX3, "setTokens", "(II)I"⟩
abbrev cX3_makeOne : ByteArray := prog_5_method_11_code
def yX3_makeOne : MethodName := ⟨RX3, "makeOne", "(I)I"⟩
abbrev cX3_makeBySeed : ByteArray := prog_5_method_12_code
def yX3_makeBySeed : MethodName := ⟨RX3, "makeBySeed", "(II)I"⟩
abbrev cX3_memberAt : ByteArray := prog_5_method_13_code
def yX3_memberAt : MethodName := ⟨RX3, "memberAt", "(II)I"⟩
abbrev cX3_carry : ByteArray := prog_5_method_14_code
def yX3_carry : MethodName := ⟨RX3, "carry", "(I)V"⟩
abbrev cX3_canMake : ByteArray := prog_5_method_15_code
def yX3_canMake : MethodName := ⟨RX3, "canMake", "(I)Z"⟩
abbrev cX3_allows : ByteArray := prog_5_method_16_code
def yX3_allows : MethodName := ⟨RX3, "allows", "([IIII)Z"⟩
abbrev cX3_step : ByteArray := prog_5_method_17_code
def yX3_step : MethodName := ⟨RX3, "step", "([III[I)V"⟩
abbrev cX3_possibleMoves : ByteArray := prog_5_method_18_code
def yX3_possibleMoves : MethodName := ⟨RX3, "possibleMoves", "()I"⟩
abbrev cX3_allTokens : ByteArray := prog_5_method_19_code
def yX3_allTokens : MethodName := ⟨RX3, "allTokens", "()I"⟩
abbrev cX3_tokensIn : ByteArray := prog_5_method_20_code
def yX3_tokensIn : MethodName := ⟨RX3, "tokensIn", "(I)I"⟩
abbrev cX3_allMade : ByteArray := prog_5_method_21_code
def yX3_allMade : MethodName := ⟨RX3, "allMade", "()I"⟩
abbrev cX3_movesAt : ByteArray := prog_5_method_22_code
def yX3_movesAt : MethodName := ⟨RX3, "movesAt", "([II)I"⟩
abbrev cX3_placesOf : ByteArray := prog_5_method_23_code
def yX3_placesOf : MethodName := ⟨RX3, "placesOf", "([II)I"⟩
abbrev cX3_surplus : ByteArray := prog_5_method_24_code
def yX3_surplus : MethodName := ⟨RX3, "surplus", "(I)I"⟩
abbrev cX3_greatestClosed : ByteArray := prog_5_method_25_code
def yX3_greatestClosed : MethodName := ⟨RX3, "greatestClosed", "(I[I[I)I"⟩
def RX4 : String := "TokenNets$Pad"
def TX4 : u_T := fun k => match k with
  | 0 => ("TokenNets$Pad", "signs", "[C", true)
  | _ => ("TokenNets$Pad", "length", "I", false)
def tyX4 : Nat → FieldType := fun k => match k with
  | 0 => .array .char
  | _ => .int
abbrev wsX40 : List Cond := u_ws RX4 TX4 2
theorem nmX4 : ∀ a, a < 2 → ∀ b, b < 2 → a ≠ b → (TX4 a).2.1 ≠ (TX4 b).2.1 := by decide +kernel
theorem tyX4_ok : ∀ k, k < 2 → parseFieldDescriptor (TX4 k).2.2.1 = some (tyX4 k) := by decide +kernel
abbrev cX4_init : ByteArray := prog_6_method_1_code
def yX4_init : MethodName := ⟨RX4, "<init>", "()V"⟩
def RX5 : String := "TokenNets$Reach"
def TX5 : u_T := fun k => match k with
  | 0 => ("TokenNets$Reach", "marks", "LTokenNets$Marks;", true)
  | 1 => ("TokenNets$Reach", "moves", "[I", true)
  | 2 => ("TokenNets$Reach", "table", "[I", true)
  | _ => ("TokenNets$Reach", "dead", "I", false)
def tyX5 : Nat → FieldType := fun k => match k with
  | 0 => .object "TokenNets$Marks"
  | 1 => .array .int
  | 2 => .array .int
  | _ => .int
abbrev wsX50 : List Cond := u_ws RX5 TX5 4
theorem nmX5 : ∀ a, a < 4 → ∀ b, b < 4 → a ≠ b → (TX5 a).2.1 ≠ (TX5 b).2.1 := by decide +kernel
theorem tyX5_ok : ∀ k, k < 4 → parseFieldDescriptor (TX5 k).2.2.1 = some (tyX5 k) := by decide +kernel
abbrev cX5_init : ByteArray := prog_7_method_1_code
def yX5_init : MethodName := ⟨RX5, "<init>", "()V"⟩
abbrev cX5_find : ByteArray := prog_7_method_2_code
def yX5_find : MethodName := ⟨RX5, "find", "(LTokenNets$Net;)V"⟩
abbrev cX5_follow : ByteArray := prog_7_method_3_code
def yX5_follow : MethodName := ⟨RX5, "follow", "(I)V"⟩
abbrev cX5_meet : ByteArray := prog_7_method_4_code
def yX5_meet : MethodName := ⟨RX5, "meet", "(I)V"⟩
abbrev cX5_hash : ByteArray := prog_7_method_5_code
def yX5_hash : MethodName := ⟨RX5, "hash", "([I)I"⟩
abbrev cX5_fewestMoves : ByteArray := prog_7_method_6_code
def yX5_fewestMoves : MethodName := ⟨RX5, "fewestMoves", "(II)I"⟩
def RX6 : String := "TokenNets$Sums"
def TX6 : u_T := fun k => match k with
  | 0 => ("TokenNets$Sums", "seen", "LTokenNets$Net;", true)
  | 1 => ("TokenNets$Sums", "known", "Z", false)
  | 2 => ("TokenNets$Sums", "gains", "[I", true)
  | 3 => ("TokenNets$Sums", "balances", "[I", true)
  | 4 => ("TokenNets$Sums", "weights", "[I", true)
  | 5 => ("TokenNets$Sums", "covered", "[Z", true)
  | 6 => ("TokenNets$Sums", "found", "[I", false)
  | _ => ("TokenNets$Sums", "many", "I", false)
def tyX6 : Nat → FieldType := fun k => match k with
  | 0 => .object "TokenNets$Net"
  | 1 => .boolean
  | 2 => .array .int
  | 3 => .array .int
  | 4 => .array .int
  | 5 => .array .boolean
  | 6 => .array .int
  | _ => .int
abbrev wsX60 : List Cond := u_ws RX6 TX6 8
theorem nmX6 : ∀ a, a < 8 → ∀ b, b < 8 → a ≠ b → (TX6 a).2.1 ≠ (TX6 b).2.1 := by decide +kernel
theorem tyX6_ok : ∀ k, k < 8 → parseFieldDescriptor (TX6 k).2.2.1 = some (tyX6 k) := by decide +kernel
abbrev cX6_init : ByteArray := prog_8_method_1_code
def yX6_init : MethodName := ⟨RX6, "<init>", "()V"⟩
abbrev cX6_weight : ByteArray := prog_8_method_2_code
def yX6_weight : MethodName := ⟨RX6, "weight", "(II)I"⟩
abbrev cX6_worth : ByteArray := prog_8_method_3_code
def yX6_worth : MethodName := ⟨RX6, "worth", "(I[I)I"⟩
abbrev cX6_find : ByteArray := prog_8_method_4_code
def yX6_find : MethodName := ⟨RX6, "find", "(LTokenNets$Net;)V"⟩
abbrev cX6_hasCoveredPart : ByteArray := prog_8_method_5_code
def yX6_hasCoveredPart : MethodName := ⟨RX6, "hasCoveredPart", "(I)Z"⟩
abbrev cX6_weigh : ByteArray := prog_8_method_6_code
def yX6_weigh : MethodName := ⟨RX6, "weigh", "(LTokenNets$Sums;II)V"⟩
abbrev cX6_balance : ByteArray := prog_8_method_7_code
def yX6_balance : MethodName := ⟨RX6, "balance", "(II)V"⟩
abbrev cX6_canBalance : ByteArray := prog_8_method_8_code
def yX6_canBalance : MethodName := ⟨RX6, "canBalance", "(II)Z"⟩
abbrev cX6_keep : ByteArray := prog_8_method_9_code
def yX6_keep : MethodName := ⟨RX6, "keep", "()V"⟩
abbrev cX6_allDividedBy : ByteArray := prog_8_method_10_code
def yX6_allDividedBy : MethodName := ⟨RX6, "allDividedBy", "(I)Z"⟩
def RX7 : String := "TokenNets$Tree"
def TX7 : u_T := fun k => match k with
  | 0 => ("TokenNets$Tree", "marks", "LTokenNets$Marks;", true)
  | 1 => ("TokenNets$Tree", "above", "[I", true)
  | 2 => ("TokenNets$Tree", "depths", "[I", true)
  | 3 => ("TokenNets$Tree", "path", "[I", true)
  | _ => ("TokenNets$Tree", "deepest", "I", false)
def tyX7 : Nat → FieldType := fun k => match k with
  | 0 => .object "TokenNets$Marks"
  | 1 => .array .int
  | 2 => .array .int
  | 3 => .array .int
  | _ => .int
abbrev wsX70 : List Cond := u_ws RX7 TX7 5
theorem nmX7 : ∀ a, a < 5 → ∀ b, b < 5 → a ≠ b → (TX7 a).2.1 ≠ (TX7 b).2.1 := by decide +kernel
theorem tyX7_ok : ∀ k, k < 5 → parseFieldDescriptor (TX7 k).2.2.1 = some (tyX7 k) := by decide +kernel
abbrev cX7_init : ByteArray := prog_9_method_1_code
def yX7_init : MethodName := ⟨RX7, "<init>", "()V"⟩
abbrev cX7_find : ByteArray := prog_9_method_2_code
def yX7_find : MethodName := ⟨RX7, "find", "(LTokenNets$Net;)V"⟩
abbrev cX7_add : ByteArray := prog_9_method_3_code
def yX7_add : MethodName := ⟨RX7, "add", "(II)V"⟩
abbrev cX7_follow : ByteArray := prog_9_method_4_code
def yX7_follow : MethodName := ⟨RX7, "follow", "(I)V"⟩
abbrev cX7_outgrow : ByteArray := prog_9_method_5_code
def yX7_outgrow : MethodName := ⟨RX7, "outgrow", "(I[I)V"⟩
abbrev cX7_mostTokens : ByteArray := prog_9_method_6_code
def yX7_mostTokens : MethodName := ⟨RX7, "mostTokens", "(I)I"⟩
abbrev cX7_endlessPlaces : ByteArray := prog_9_method_7_code
def yX7_endlessPlaces : MethodName := ⟨RX7, "endlessPlaces", "()I"⟩
def RX8 : String := "TokenNets"
def TX8 : u_T := fun k => match k with
  | 0 => ("TokenNets", "net", "LTokenNets$Net;", true)
  | 1 => ("TokenNets", "history", "LTokenNets$History;", true)
  | 2 => ("TokenNets", "slots", "[LTokenNets$Net;", true)
  | 3 => ("TokenNets", "saved", "[Z", true)
  | 4 => ("TokenNets", "pad", "LTokenNets$Pad;", true)
  | 5 => ("TokenNets", "sums", "LTokenNets$Sums;", true)
  | 6 => ("TokenNets", "reach", "LTokenNets$Reach;", true)
  | _ => ("TokenNets", "tree", "LTokenNets$Tree;", true)
def tyX8 : Nat → FieldType := fun k => match k with
  | 0 => .object "TokenNets$Net"
  | 1 => .object "TokenNets$History"
  | 2 => .array (.object "TokenNets$Net")
  | 3 => .array .boolean
  | 4 => .object "TokenNets$Pad"
  | 5 => .object "TokenNets$Sums"
  | 6 => .object "TokenNets$Reach"
  | _ => .object "TokenNets$Tree"
abbrev wsX80 : List Cond := u_ws RX8 TX8 8
theorem nmX8 : ∀ a, a < 8 → ∀ b, b < 8 → a ≠ b → (TX8 a).2.1 ≠ (TX8 b).2.1 := by decide +kernel
theorem tyX8_ok : ∀ k, k < 8 → parseFieldDescriptor (TX8 k).2.2.1 = some (tyX8 k) := by decide +kernel
abbrev cX8_init : ByteArray := prog_1_method_1_code
def yX8_init : MethodName := ⟨RX8, "<init>", "()V"⟩
abbrev cX8_place : ByteArray := prog_1_method_2_code
def yX8_place : MethodName := ⟨RX8, "place", "(I)I"⟩
abbrev cX8_move : ByteArray := prog_1_method_3_code
def yX8_move : MethodName := ⟨RX8, "move", "()I"⟩
abbrev cX8_arc : ByteArray := prog_1_method_4_code
def yX8_arc : MethodName := ⟨RX8, "arc", "(IIII)I"⟩
abbrev cX8_tokens : ByteArray := prog_1_method_5_code
def yX8_tokens : MethodName := ⟨RX8, "tokens", "(II)I"⟩
abbrev cX8_make : ByteArray := prog_1_method_6_code
def yX8_make : MethodName := ⟨RX8, "make", "(I)I"⟩
abbrev cX8_run : ByteArray := prog_1_method_7_code
def yX8_run : MethodName := ⟨RX8, "run", "(II)I"⟩
abbrev cX8_ofPlace : ByteArray := prog_1_method_8_code
def yX8_ofPlace : MethodName := ⟨RX8, "ofPlace", "(II)I"⟩
abbrev cX8_ofMove : ByteArray := prog_1_method_9_code
def yX8_ofMove : MethodName := ⟨RX8, "ofMove", "(II)I"⟩
abbrev cX8_count : ByteArray := prog_1_method_11_code
def yX8_count : MethodName := ⟨RX8, "count", "(I)I"⟩
abbrev cX8_kept : ByteArray := prog_1_method_14_code
def yX8_kept : MethodName := ⟨RX8, "kept", "(II)I"⟩
abbrev cX8_keptMany : ByteArray := prog_1_method_15_code
def yX8_keptMany : MethodName := ⟨RX8, "keptMany", "()I"⟩
abbrev cX8_trap : ByteArray := prog_1_method_16_code
def yX8_trap : MethodName := ⟨RX8, "trap", "(II)I"⟩
abbrev cX8_reached : ByteArray := prog_1_method_17_code
def yX8_reached : MethodName := ⟨RX8, "reached", "(I)I"⟩
abbrev cX8_fewest : ByteArray := prog_1_method_18_code
def yX8_fewest : MethodName := ⟨RX8, "fewest", "(II)I"⟩
abbrev cX8_growth : ByteArray := prog_1_method_19_code
def yX8_growth : MethodName := ⟨RX8, "growth", "(I)I"⟩
abbrev cX8_bound : ByteArray := prog_1_method_20_code
def yX8_bound : MethodName := ⟨RX8, "bound", "(I)I"⟩
def RX9 : String := "TokenNetsModel"
def TX9 : u_T := fun k => match k with
  | _ => ("", "", "", false)
def tyX9 : Nat → FieldType := fun k => match k with
  | _ => .int
abbrev wsX90 : List Cond := u_ws RX9 TX9 0
theorem nmX9 : ∀ a, a < 0 → ∀ b, b < 0 → a ≠ b → (TX9 a).2.1 ≠ (TX9 b).2.1 := by decide +kernel
theorem tyX9_ok : ∀ k, k < 0 → parseFieldDescriptor (TX9 k).2.2.1 = some (tyX9 k) := by decide +kernel
def RJx8e188 : String := "java/lang/Cloneable"
def TJx8e188 : u_T := fun k => match k with
  | _ => ("", "", "", false)
def tyJx8e188 : Nat → FieldType := fun k => match k with
  | _ => .int
abbrev wsJx8e1880 : List Cond := u_ws RJx8e188 TJx8e188 0
theorem nmJx8e188 : ∀ a, a < 0 → ∀ b, b < 0 → a ≠ b → (TJx8e188 a).2.1 ≠ (TJx8e188 b).2.1 := by decide +kernel
theorem tyJx8e188_ok : ∀ k, k < 0 → parseFieldDescriptor (TJx8e188 k).2.2.1 = some (tyJx8e188 k) := by decide +kernel
def RJ6 : String := "java/lang/Integer"
def TJ6 : u_T := fun k => match k with
  | _ => ("", "", "", false)
def tyJ6 : Nat → FieldType := fun k => match k with
  | _ => .int
abbrev wsJ60 : List Cond := u_ws RJ6 TJ6 0
theorem nmJ6 : ∀ a, a < 0 → ∀ b, b < 0 → a ≠ b → (TJ6 a).2.1 ≠ (TJ6 b).2.1 := by decide +kernel
theorem tyJ6_ok : ∀ k, k < 0 → parseFieldDescriptor (TJ6 k).2.2.1 = some (tyJ6 k) := by decide +kernel
abbrev cJ6_bitCount_0f7a4 : ByteArray := prog_13_method_49_code
def yJ6_bitCount_0f7a4 : MethodName := ⟨RJ6, "bitCount", "(I)I"⟩
def RJ9 : String := "java/lang/Math"
def TJ9 : u_T := fun k => match k with
  | _ => ("", "", "", false)
def tyJ9 : Nat → FieldType := fun k => match k with
  | _ => .int
abbrev wsJ90 : List Cond := u_ws RJ9 TJ9 0
theorem nmJ9 : ∀ a, a < 0 → ∀ b, b < 0 → a ≠ b → (TJ9 a).2.1 ≠ (TJ9 b).2.1 := by decide +kernel
theorem tyJ9_ok : ∀ k, k < 0 → parseFieldDescriptor (TJ9 k).2.2.1 = some (tyJ9 k) := by decide +kernel
abbrev cJ9_max_7cf53 : ByteArray := prog_14_method_65_code
def yJ9_max_7cf53 : MethodName := ⟨RJ9, "max", "(II)I"⟩
abbrev cJ9_min_7cf53 : ByteArray := prog_14_method_69_code
def yJ9_min_7cf53 : MethodName := ⟨RJ9, "min", "(II)I"⟩
def RJ10 : String := "java/lang/System"
def TJ10 : u_T := fun k => match k with
  | _ => ("", "", "", false)
def tyJ10 : Nat → FieldType := fun k => match k with
  | _ => .int
abbrev wsJ100 : List Cond := u_ws RJ10 TJ10 0
theorem nmJ10 : ∀ a, a < 0 → ∀ b, b < 0 → a ≠ b → (TJ10 a).2.1 ≠ (TJ10 b).2.1 := by decide +kernel
theorem tyJ10_ok : ∀ k, k < 0 → parseFieldDescriptor (TJ10 k).2.2.1 = some (tyJ10 k) := by decide +kernel
def RJ7 : String := "java/util/Arrays"
def TJ7 : u_T := fun k => match k with
  | _ => ("", "", "", false)
def tyJ7 : Nat → FieldType := fun k => match k with
  | _ => .int
abbrev wsJ70 : List Cond := u_ws RJ7 TJ7 0
theorem nmJ7 : ∀ a, a < 0 → ∀ b, b < 0 → a ≠ b → (TJ7 a).2.1 ≠ (TJ7 b).2.1 := by decide +kernel
theorem tyJ7_ok : ∀ k, k < 0 → parseFieldDescriptor (TJ7 k).2.2.1 = some (tyJ7 k) := by decide +kernel
abbrev cJ7_fill_53178 : ByteArray := prog_16_method_103_code
def yJ7_fill_53178 : MethodName := ⟨RJ7, "fill", "([II)V"⟩
abbrev cJ7_copyOf_59c91 : ByteArray := prog_16_method_123_code
def yJ7_copyOf_59c91 : MethodName := ⟨RJ7, "copyOf", "([II)[I"⟩
def RL : String := "TokenNetsLaw"
abbrev cL_cell : ByteArray := method_2_code
def yL_cell : MethodName := ⟨RL, "cell", "([II)I"⟩
abbrev cL_low : ByteArray := method_3_code
def yL_low : MethodName := ⟨RL, "low", "(II)I"⟩
abbrev cL_at : ByteArray := method_4_code
def yL_at : MethodName := ⟨RL, "at", "(JI)I"⟩
abbrev cL_with : ByteArray := method_5_code
def yL_with : MethodName := ⟨RL, "with", "(JII)J"⟩
abbrev cL_can : ByteArray := method_6_code
def yL_can : MethodName := ⟨RL, "can", "(JI[I[I)Z"⟩
abbrev cL_behind : ByteArray := method_7_code
def yL_behind : MethodName := ⟨RL, "behind", "(JI[I[I)J"⟩
abbrev cL_moves : ByteArray := method_8_code
def yL_moves : MethodName := ⟨RL, "moves", "(J[I[I)I"⟩
abbrev cL_bits : ByteArray := method_9_code
def yL_bits : MethodName := ⟨RL, "bits", "(I)I"⟩
abbrev cL_reach : ByteArray := method_10_code
def yL_reach : MethodName := ⟨RL, "reach", "(J[I[I[J[I)I"⟩
abbrev cL_tree : ByteArray := method_11_code
def yL_tree : MethodName := ⟨RL, "tree", "(J[I[I[J[I[I)I"⟩
abbrev cL_keeps : ByteArray := method_12_code
def yL_keeps : MethodName := ⟨RL, "keeps", "(I[I[I)Z"⟩
abbrev cL_places : ByteArray := method_13_code
def yL_places : MethodName := ⟨RL, "places", "(I)I"⟩
abbrev cL_kept : ByteArray := method_14_code
def yL_kept : MethodName := ⟨RL, "kept", "(LTokenNets;J[I[I)Z"⟩
abbrev cL_traps : ByteArray := method_15_code
def yL_traps : MethodName := ⟨RL, "traps", "(LTokenNets;IJ[I[I)Z"⟩
abbrev cL_would : ByteArray := method_16_code
def yL_would : MethodName := ⟨RL, "would", "(LTokenNets;IJ[I[I[J[I[I)Z"⟩
abbrev cL_law : ByteArray := code
def yL_law : MethodName := ⟨RL, "law", "([I)Z"⟩
/-- the good words of the tables -/
def yCT : List Cond := lw_tbl.filter goodWord
theorem yCT_good : GoodIn lw_tbl yCT := fun w h => ⟨(List.mem_filter.mp h).1, good_of_word (List.mem_filter.mp h).2⟩
theorem yCT_self : GoodIn yCT yCT := fun w h => ⟨h, good_of_word (List.mem_filter.mp h).2⟩
theorem yCT_mem {w : Cond} (h : w ∈ lw_tbl) (g : goodWord w = true) : w ∈ yCT := List.mem_filter.mpr ⟨h, g⟩
def yM (w : Cond) : Bool := decide (w ∈ lw_tbl) && goodWord w
theorem yM_ok {w : Cond} (h : yM w = true) : w ∈ yCT := by
  unfold yM at h
  simp only [Bool.and_eq_true, decide_eq_true_eq] at h
  exact yCT_mem h.1 h.2
abbrev vwCl : List vw_C := [(RX1, TX1, 3), (RX2, TX2, 7), (RX3, TX3, 7), (RX4, TX4, 2), (RX5, TX5, 4), (RX6, TX6, 8), (RX7, TX7, 5), (RX8, TX8, 8)]
end
section
/-! A SYMBOLIC RUN: a small interpreter over closed data (ints are numbers or named unknowns, references are places in a list of cells), to be computed by the kernel; part 03 shows that what it says holds of the machine. -/
abbrev yI : Type := Nat ⊕ Nat
/-- a value: an int, a long (a number or the name of an unknown), a reference: none is null, some 0 the script, some (i + 1) the i-th cell -/
abbrev yV : Type := yI ⊕ (yI ⊕ Option Nat)
/-- a cell: an object (its class's place in vwCl, its fields), an array of ints, booleans, chars (kind, length, what was written, the last first), an array of objects -/
abbrev yC : Type := (Nat × List yV) ⊕ ((Nat × Nat × List (Nat × yI)) ⊕ (Nat × Nat × List (Nat × Option Nat)))
abbrev yL : Type := List (Nat × yV)
/-- facts of comparisons: which, of what, whether it holds -/
abbrev yF : Type := List (Nat × yI × yI × Bool)
/-- facts of results: the operation, of what, what comes -/
abbrev yT : Type := List (Nat × yI × yI × yI)
/-- an instruction as resolved: what it is, the place of the next one, three numbers -/
abbrev yO : Type := Instr × Nat × Nat × Nat × Nat
abbrev yE : Type := MethodName × ByteArray × Nat × Option FieldType × List (Nat × yO)
abbrev yS : Type := Nat × yL × List yV × List yC × Nat × Nat
/-- what the unknowns are: ints, longs, the script's address, its length -/
abbrev yK : Type := (Nat → Int32) × (Nat → Int64) × Nat × Nat
def y_i (κ : yK) : yI → Int32
  | .inl n => nI n
  | .inr k => κ.1 k
def y_l (κ : yK) : yI → Int64
  | .inl n => lN n
  | .inr k => κ.2.1 k
def y_r (κ : yK) (α : List Nat) : Nat → Option Nat
  | 0 => some κ.2.2.1
  | i + 1 => α[i]?
def y_d (κ : yK) (α : List Nat) : yV → Option Value
  | .inl a => some (.int (y_i κ a))
  | .inr (.inl a) => some (.long (y_l κ a))
  | .inr (.inr none) => some .null
  | .inr (.inr (some i)) => (y_r κ α i).map Value.ref
def y_ds (κ : yK) (α : List Nat) (l : List yV) (xs : List Value) : Prop := l.map (y_d κ α) = xs.map some
def y_dl (κ : yK) (α : List Nat) (l : yL) (xs : List (Nat × Value)) : Prop := l.map (fun q => (q.1, y_d κ α q.2)) = xs.map (fun q => (q.1, some q.2))
def y_cat : yV → Nat
  | .inr (.inl _) => 2
  | _ => 1
def y_get : List (Nat × yI) → Nat → yI
  | [], _ => .inl 0
  | q :: r, i => bif Nat.beq q.1 i then q.2 else y_get r i
def y_getr : List (Nat × Option Nat) → Nat → Option Nat
  | [], _ => none
  | q :: r, i => bif Nat.beq q.1 i then q.2 else y_getr r i
def y_ty : Nat → FieldType
  | 0 => .int
  | 1 => .boolean
  | 2 => .char
  | _ => .long
/-- what a cell of the run is in the world -/
def y_c (κ : yK) (α : List Nat) (tys : List (ClassId × FieldType)) : yC → va_E → Prop
  | .inl (ci, fs), e => ∃ vs : List Value, y_ds κ α fs vs ∧ e = .inr (ci, vs)
  | .inr (.inl (3, n, m)), e => ∃ (cA : ClassId) (t0 : Nat) (f : Nat → Int64), tys[t0]? = some (cA, .long) ∧ (∀ i, i < n → f i = y_l κ (y_get m i)) ∧ e = .inl (cA, n, .inr (.inl f))
  | .inr (.inl (k, n, m)), e => ∃ (cA : ClassId) (t0 : Nat) (f : Nat → Int32), tys[t0]? = some (cA, y_ty k) ∧ (∀ i, i < n → f i = y_i κ (y_get m i)) ∧ e = .inl (cA, n, .inl f)
  | .inr (.inr (ci, n, m)), e => ∃ (cA : ClassId) (t0 : Nat) (r : vw_C) (f : Nat → Option Nat), vwCl[ci]? = some r ∧ tys[t0]? = some (cA, .object r.1) ∧ (∀ i, i < n → match y_getr m i with | none => f i = none | some j => ∃ a, y_r κ α j = some a ∧ f i = some a) ∧ e = .inl (cA, n, .inr (.inr (.inr (.inr f))))
def y_h (κ : yK) (α : List Nat) (tys : List (ClassId × FieldType)) (sh : List yC) (ws : va_W) : Prop :=
  α.length = sh.length ∧ ws.length = sh.length ∧ ∀ (i : Nat) (c : yC), sh[i]? = some c → ∃ (a : Nat) (e : va_E), α[i]? = some a ∧ ws[i]? = some (a, e) ∧ y_c κ α tys c e
-- comparisons
def y_sg (n : Nat) : Nat := (n + 2147483648) % 4294967296
def y_cmp (op a b : Nat) : Bool := match op with
  | 0 => Nat.beq (y_sg a) (y_sg b)
  | 1 => !(Nat.beq (y_sg a) (y_sg b))
  | 2 => Nat.blt (y_sg a) (y_sg b)
  | 3 => Nat.ble (y_sg b) (y_sg a)
  | 4 => Nat.blt (y_sg b) (y_sg a)
  | _ => Nat.ble (y_sg a) (y_sg b)
def y_P (op : Nat) (x y : Int32) : Prop := match op with
  | 0 => x = y
  | 1 => ¬ x = y
  | 2 => x < y
  | 3 => y ≤ x
  | 4 => y < x
  | _ => x ≤ y
def y_eqI : yI → yI → Bool
  | .inl a, .inl b => Nat.beq a b
  | .inr a, .inr b => Nat.beq a b
  | _, _ => false
def y_look : yF → Nat → yI → yI → Option Bool
  | [], _, _, _ => none
  | q :: r, op, a, b => bif Nat.beq q.1 op && (y_eqI q.2.1 a && y_eqI q.2.2.1 b) then some q.2.2.2 else y_look r op a b
def y_cond (hy : yF) (op : Nat) : yI → yI → Option Bool
  | .inl a, .inl b => some (y_cmp op a b)
  | a, b => y_look hy op a b
def y_H (κ : yK) (hy : yF) : Prop := ∀ q ∈ hy, (y_P q.1 (y_i κ q.2.1) (y_i κ q.2.2.1) ↔ q.2.2.2 = true)
def y_op : ClassFile.Cond → Nat
  | .eq => 0
  | .ne => 1
  | .lt => 2
  | .ge => 3
  | .gt => 4
  | .le => 5
-- results that are told
def y_lookT : yT → Nat → yI → yI → Option yI
  | [], _, _, _ => none
  | q :: r, op, a, b => bif Nat.beq q.1 op && (y_eqI q.2.1 a && y_eqI q.2.2.1 b) then some q.2.2.2 else y_lookT r op a b
/-- what an operation answers: 0 iand, 1 ishr, 2 i2c (of ints); 10 land, 11 lor, 12 lshl, 13 lushr, 14 lcmp, 15 l2i, 16 i2l; 20 the same int by another name -/
def y_opv (κ : yK) (op : Nat) (a b r : yI) : Prop := match op with
  | 0 => y_i κ a &&& y_i κ b = y_i κ r
  | 1 => y_i κ a >>> (y_i κ b &&& 31) = y_i κ r
  | 2 => ((y_i κ a).toUInt32 % 65536).toInt32 = y_i κ r
  | 10 => y_l κ a &&& y_l κ b = y_l κ r
  | 11 => y_l κ a ||| y_l κ b = y_l κ r
  | 12 => y_l κ a <<< ((y_i κ b).toInt64 &&& 63) = y_l κ r
  | 13 => ((y_l κ a).toUInt64 >>> ((y_i κ b).toInt64.toUInt64 &&& Int64.toUInt64 63)).toInt64 = y_l κ r
  | 14 => lg_cmp (y_l κ a) (y_l κ b) = y_i κ r
  | 15 => (y_l κ a).toInt32 = y_i κ r
  | 16 => (y_i κ a).toInt64 = y_l κ r
  | 20 => y_i κ a = y_i κ r
  | _ => False
def y_T (κ : yK) (tb : yT) : Prop := ∀ q ∈ tb, y_opv κ q.1 q.2.1 q.2.2.1 q.2.2.2
-- the run
def y_find : List (Nat × yO) → Nat → Option yO
  | [], _ => none
  | q :: r, pc => bif Nat.beq q.1 pc then some q.2 else y_find r pc
def y_lget : yL → Nat → Option yV
  | [], _ => none
  | q :: r, i => bif Nat.beq q.1 i then some q.2 else y_lget r i
def y_lset (l : yL) (i : Nat) (v : yV) : yL := (i, v) :: l.filter (fun q => !(q.1 == i) && !(q.1 + 1 == i && y_cat q.2 == 2))
def y_lset2 (l : yL) (i : Nat) (v : yV) : yL := (i, v) :: l.filter (fun q => !(q.1 == i) && (!(q.1 == i + 1) && !(q.1 + 1 == i && y_cat q.2 == 2)))
def y_args : Nat → List yV → yL
  | _, [] => []
  | i, v :: vs => (i, v) :: y_args (if y_cat v = 2 then i + 2 else i + 1) vs
def y_cats : List yV → Nat
  | [] => 0
  | v :: vs => y_cat v + y_cats vs
/-- an operation on two ints: numbers are computed, else it is looked up -/
def y_bin (tb : yT) (op : Nat) (f : Nat → Nat → Option Nat) : List yV → Option (List yV)
  | .inl b :: .inl a :: r => match a, b with
    | .inl x, .inl y => (f x y).map (fun v => .inl (.inl v) :: r)
    | _, _ => (y_lookT tb op a b).map (fun v => .inl v :: r)
  | _ => none
def y_add (a b : Nat) : Option Nat := some ((a + b) % 4294967296)
def y_sub (a b : Nat) : Option Nat := some ((a + (4294967296 - b % 4294967296)) % 4294967296)
def y_mul (a b : Nat) : Option Nat := some (a * b % 4294967296)
def y_and (a b : Nat) : Option Nat := some (Nat.land a b)
def y_or (a b : Nat) : Option Nat := some (Nat.lor a b)
def y_shl (a b : Nat) : Option Nat := bif Nat.blt b 32 then some (a * 2 ^ b % 4294967296) else none
def y_shr (a b : Nat) : Option Nat := bif Nat.blt b 32 && Nat.blt a 2147483648 then some (a / 2 ^ b) else none
def y_ushr (a b : Nat) : Option Nat := bif Nat.blt b 32 && Nat.blt a 4294967296 then some (a / 2 ^ b) else none
def y_rem (a b : Nat) : Option Nat := bif Nat.blt 0 b && (Nat.blt b 2147483648 && Nat.blt a 2147483648) then some (a % b) else none
/-- an operation of longs that is looked up -/
def y_tabL (tb : yT) (op : Nat) (toInt : Bool) : List yV → Option (List yV)
  | .inr (.inl b) :: .inr (.inl a) :: r => (y_lookT tb op a b).map (fun v => (bif toInt then .inl v else .inr (.inl v)) :: r)
  | _ => none
def y_tabS (tb : yT) (op : Nat) : List yV → Option (List yV)
  | .inl b :: .inr (.inl a) :: r => (y_lookT tb op a b).map (fun v => .inr (.inl v) :: r)
  | _ => none
def y_off (pc : Nat) (off : Int) : Option Nat := if 0 ≤ (pc : Int) + off then some ((pc : Int) + off).toNat else none
def y_swT (pc : Nat) (lo hi : Int) (d : Int) (offs : Array Int) (hy : yF) : yI → Option Nat
  | .inl n => if (y_sg n : Int) - 2147483648 < lo ∨ hi < (y_sg n : Int) - 2147483648 then y_off pc d else match offs[((y_sg n : Int) - 2147483648 - lo).toNat]? with
    | some o => y_off pc o
    | none => none
  | .inr k => if (y_look hy 2 (.inr k) (.inl ((lo % 4294967296).toNat)) = some true ∧ -2147483648 ≤ lo ∧ lo ≤ 2147483647) ∨ (y_look hy 4 (.inr k) (.inl ((hi % 4294967296).toNat)) = some true ∧ -2147483648 ≤ hi ∧ hi ≤ 2147483647) then y_off pc d else none
/-- an int of the script, by the name that is told for it -/
def y_sub1 (tb : yT) (j : Nat) : yI := match y_lookT tb 20 (.inr j) (.inr j) with
  | some r => r
  | none => .inr j
/-- what may be written into a field: an int, a boolean, a reference -/
def y_pv : Nat → yV → Bool
  | 0, .inl _ => true
  | 1, .inl (.inl b) => Nat.ble b 1
  | 2, .inr (.inr _) => true
  | _, _ => false
/-- Math.max (96) and Math.min (97) of two numbers -/
def y_mm (r3 : Nat) : List yV → Option (List yV)
  | .inl (.inl y) :: .inl (.inl x) :: r => bif Nat.ble (y_cats r) 8 then (bif Nat.beq r3 96 then some (.inl (.inl (bif y_cmp 2 x y then y else x)) :: r) else bif Nat.beq r3 97 then some (.inl (.inl (bif y_cmp 2 y x then y else x)) :: r) else none) else none
  | _ => none
/-- static methods that are no calls here: arraycopy, max, min -/
def y_nat (r3 : Nat) : Bool := Nat.beq r3 98 || (Nat.beq r3 96 || Nat.beq r3 97)
/-- an instruction that is no call and no return -/
def y_step (sc : Bool) (L : Nat) (hy : yF) (tb : yT) (pc : Nat) (o : yO) (l : yL) (st : List yV) (h : List yC) (c n : Nat) : Option yS :=
  let nx := o.2.1
  let stk : Option (List yV) → Option yS := fun st' => st'.map (fun st' => (nx, l, st', h, c, n))
  match o.1 with
  | .iconst _ | .bipush _ | .sipush _ | .ldc _ | .ldc_w _ => some (nx, l, .inl (.inl o.2.2.1) :: st, h, c, n)
  | .lconst _ | .ldc2_w _ => some (nx, l, .inr (.inl (.inl o.2.2.1)) :: st, h, c, n)
  | .iload_n k => match y_lget l k with
    | some (.inl a) => some (nx, l, .inl a :: st, h, c, n)
    | _ => none
  | .iload k => match y_lget l k with
    | some (.inl a) => some (nx, l, .inl a :: st, h, c, n)
    | _ => none
  | .lload_n k => match y_lget l k with
    | some (.inr (.inl a)) => some (nx, l, .inr (.inl a) :: st, h, c, n)
    | _ => none
  | .lload k => match y_lget l k with
    | some (.inr (.inl a)) => some (nx, l, .inr (.inl a) :: st, h, c, n)
    | _ => none
  | .aload_n k => match y_lget l k with
    | some (.inr (.inr (some i))) => some (nx, l, .inr (.inr (some i)) :: st, h, c, n)
    | _ => none
  | .aload k => match y_lget l k with
    | some (.inr (.inr (some i))) => some (nx, l, .inr (.inr (some i)) :: st, h, c, n)
    | _ => none
  | .istore_n k => match st with
    | .inl a :: r => some (nx, y_lset l k (.inl a), r, h, c, n)
    | _ => none
  | .istore k => match st with
    | .inl a :: r => some (nx, y_lset l k (.inl a), r, h, c, n)
    | _ => none
  | .lstore_n k => match st with
    | .inr (.inl a) :: r => some (nx, y_lset2 l k (.inr (.inl a)), r, h, c, n)
    | _ => none
  | .lstore k => match st with
    | .inr (.inl a) :: r => some (nx, y_lset2 l k (.inr (.inl a)), r, h, c, n)
    | _ => none
  | .astore_n k => match st with
    | .inr (.inr (some i)) :: r => some (nx, y_lset l k (.inr (.inr (some i))), r, h, c, n)
    | _ => none
  | .astore k => match st with
    | .inr (.inr (some i)) :: r => some (nx, y_lset l k (.inr (.inr (some i))), r, h, c, n)
    | _ => none
  | .iinc k _ => match y_lget l k with
    | some (.inl (.inl a)) => some (nx, y_lset l k (.inl (.inl ((a + o.2.2.1) % 4294967296))), st, h, c, n)
    | _ => none
  | .iadd => stk (y_bin tb 99 y_add st)
  | .isub => stk (y_bin tb 99 y_sub st)
  | .imul => stk (y_bin tb 99 y_mul st)
  | .iand => stk (y_bin tb 0 y_and st)
  | .ior => stk (y_bin tb 99 y_or st)
  | .ishl => stk (y_bin tb 99 y_shl st)
  | .ishr => stk (y_bin tb 1 y_shr st)
  | .iushr => stk (y_bin tb 99 y_ushr st)
  | .irem => stk (y_bin tb 99 y_rem st)
  | .i2c => match st with
    | .inl a :: r => stk ((y_lookT tb 2 a a).map (fun v => .inl v :: r))
    | _ => none
  | .l2i => match st with
    | .inr (.inl a) :: r => stk ((y_lookT tb 15 a a).map (fun v => .inl v :: r))
    | _ => none
  | .i2l => match st with
    | .inl a :: r => stk ((y_lookT tb 16 a a).map (fun v => .inr (.inl v) :: r))
    | _ => none
  | .land => stk (y_tabL tb 10 false st)
  | .lor => stk (y_tabL tb 11 false st)
  | .lshl => stk (y_tabS tb 12 st)
  | .lushr => stk (y_tabS tb 13 st)
  | .lcmp => stk (y_tabL tb 14 true st)
  | .dup => match st with
    | v :: r => bif Nat.beq (y_cat v) 1 then some (nx, l, v :: v :: r, h, c, n) else none
    | _ => none
  | .dup2 => match st with
    | v :: w :: r => bif Nat.beq (y_cat v) 1 && Nat.beq (y_cat w) 1 then some (nx, l, v :: w :: v :: w :: r, h, c, n) else none
    | _ => none
  | .pop => match st with
    | v :: r => bif Nat.beq (y_cat v) 1 then some (nx, l, r, h, c, n) else none
    | _ => none
  | .goto _ => some (o.2.2.1, l, st, h, c, n)
  | .ifCond k _ => match st with
    | .inl a :: r => (y_cond hy (y_op k) a (.inl 0)).map (fun t => (bif t then o.2.2.1 else nx, l, r, h, c, n))
    | _ => none
  | .if_icmp k _ => match st with
    | .inl b :: .inl a :: r => (y_cond hy (y_op k) a b).map (fun t => (bif t then o.2.2.1 else nx, l, r, h, c, n))
    | _ => none
  | .tableswitch d lo hi offs => match st with
    | .inl a :: r => (y_swT pc lo hi d offs hy a).map (fun t => (t, l, r, h, c, n))
    | _ => none
  | .lookupswitch d ps => match st with
    | .inl (.inl a) :: r => (y_off pc (Op.lookupswitch.offset ps.toList d ((y_sg a : Int) - 2147483648))).map (fun t => (t, l, r, h, c, n))
    | _ => none
  | .getfield _ => match st with
    | .inr (.inr (some (i + 1))) :: r => match h[i]? with
      | some (.inl (ci, fs)) => bif Nat.beq ci o.2.2.1 then (match fs[o.2.2.2.1]? with
        | some v => some (nx, l, v :: r, h, c, n)
        | none => none) else none
      | _ => none
    | _ => none
  | .putfield _ => match st with
    | v :: .inr (.inr (some (i + 1))) :: r => match h[i]? with
      | some (.inl (ci, fs)) => bif Nat.beq ci o.2.2.1 && (Nat.blt o.2.2.2.1 fs.length && y_pv o.2.2.2.2 v) then some (nx, l, r, h.set i (.inl (ci, fs.set o.2.2.2.1 v)), c, n) else none
      | _ => none
    | _ => none
  | .iaload => match st with
    | .inl (.inl j) :: .inr (.inr (some (i + 1))) :: r => match h[i]? with
      | some (.inr (.inl (0, len, m))) => bif Nat.blt j len && Nat.blt j 2147483648 then some (nx, l, .inl (y_get m j) :: r, h, c, n) else none
      | _ => none
    | .inl (.inl j) :: .inr (.inr (some 0)) :: r => bif sc && (Nat.blt j L && Nat.blt j 2147483648) then some (nx, l, .inl (y_sub1 tb j) :: r, h, c, n) else none
    | _ => none
  | .baload => match st with
    | .inl (.inl j) :: .inr (.inr (some (i + 1))) :: r => match h[i]? with
      | some (.inr (.inl (1, len, m))) => bif Nat.blt j len && Nat.blt j 2147483648 then some (nx, l, .inl (y_get m j) :: r, h, c, n) else none
      | _ => none
    | _ => none
  | .aaload => match st with
    | .inl (.inl j) :: .inr (.inr (some (i + 1))) :: r => match h[i]? with
      | some (.inr (.inr (_, len, m))) => bif Nat.blt j len && Nat.blt j 2147483648 then some (nx, l, .inr (.inr (y_getr m j)) :: r, h, c, n) else none
      | _ => none
    | _ => none
  | .iastore => match st with
    | .inl v :: .inl (.inl j) :: .inr (.inr (some (i + 1))) :: r => match h[i]? with
      | some (.inr (.inl (0, len, m))) => bif Nat.blt j len && Nat.blt j 2147483648 then some (nx, l, r, h.set i (.inr (.inl (0, len, (j, v) :: m))), c, n) else none
      | _ => none
    | _ => none
  | .bastore => match st with
    | .inl (.inl v) :: .inl (.inl j) :: .inr (.inr (some (i + 1))) :: r => match h[i]? with
      | some (.inr (.inl (1, len, m))) => bif Nat.ble v 1 && (Nat.blt j len && Nat.blt j 2147483648) then some (nx, l, r, h.set i (.inr (.inl (1, len, (j, .inl v) :: m))), c, n) else none
      | _ => none
    | _ => none
  | .castore => match st with
    | .inl v :: .inl (.inl j) :: .inr (.inr (some (i + 1))) :: r => match h[i]? with
      | some (.inr (.inl (2, len, m))) => match y_lookT tb 2 v v with
        | some w => bif Nat.blt j len && Nat.blt j 2147483648 then some (nx, l, r, h.set i (.inr (.inl (2, len, (j, w) :: m))), c, n) else none
        | none => none
      | _ => none
    | _ => none
  | .aastore => match st with
    | .inr (.inr (some (v + 1))) :: .inl (.inl j) :: .inr (.inr (some (i + 1))) :: r => match h[i]? with
      | some (.inr (.inr (ci, len, m))) => match h[v]? with
        | some (.inl (cv, _)) => bif Nat.beq cv ci && (Nat.blt j len && Nat.blt j 2147483648) then some (nx, l, r, h.set i (.inr (.inr (ci, len, (j, some (v + 1)) :: m))), c, n) else none
        | _ => none
      | _ => none
    | _ => none
  | .arraylength => match st with
    | .inr (.inr (some 0)) :: r => bif sc && Nat.blt L 2147483648 then some (nx, l, .inl (.inl L) :: r, h, c, n) else none
    | .inr (.inr (some (i + 1))) :: r => match h[i]? with
      | some (.inr (.inl (0, len, _))) => some (nx, l, .inl (.inl len) :: r, h, c, n)
      | _ => none
    | _ => none
  | .new _ => some (nx, l, .inr (.inr (some (h.length + 1))) :: st, h ++ [.inl (o.2.2.1, (List.range o.2.2.2.1).map (fun k => bif Nat.testBit o.2.2.2.2 k then .inr (.inr none) else .inl (.inl 0)))], c + 1, n + o.2.2.2.1)
  | .newarray _ => match st with
    | .inl (.inl k) :: r => bif Nat.ble k 100000 then some (nx, l, .inr (.inr (some (h.length + 1))) :: r, h ++ [.inr (.inl (o.2.2.1, k, []))], c + 1, n + k) else none
    | _ => none
  | .anewarray _ => match st with
    | .inl (.inl k) :: r => bif Nat.ble k 100000 then some (nx, l, .inr (.inr (some (h.length + 1))) :: r, h ++ [.inr (.inr (o.2.2.1, k, []))], c + 1, n + k) else none
    | _ => none
  | .invokespecial _ => match st with
    | .inr (.inr (some (_ + 1))) :: r => bif Nat.beq o.2.2.2.2 99 && Nat.ble (y_cats r) 8 then some (nx, l, r, h, c, n) else none
    | _ => none
  | .invokestatic _ => bif Nat.beq o.2.2.2.2 98 then (match st with
    | .inl (.inl k) :: .inl (.inl dp) :: .inr (.inr (some (j + 1))) :: .inl (.inl sp) :: .inr (.inr (some (i + 1))) :: r => match h[i]?, h[j]? with
      | some (.inr (.inl (0, n0, m0))), some (.inr (.inl (0, n1, m1))) =>
        bif Nat.beq o.2.2.2.2 98 && (Nat.ble (y_cats r) 8 && (Nat.ble (sp + k) n0 && (Nat.ble (dp + k) n1 && (Nat.blt sp 2147483648 && (Nat.blt dp 2147483648 && Nat.blt k 2147483648))))) then
          some (nx, l, r, h.set j (.inr (.inl (0, n1, (List.range k).map (fun x => (dp + x, y_get m0 (sp + x))) ++ m1))), c, n) else none
      | _, _ => none
    | _ => none) else stk (y_mm o.2.2.2.2 st)
  | _ => none
/-- a call: its kind (1 virtual, 2 static, 3 a constructor) -/
def y_kind (o : yO) : Nat := match o.1 with
  | .invokevirtual _ => 1
  | .invokestatic _ => bif y_nat o.2.2.2.2 then 0 else 2
  | .invokespecial _ => bif Nat.beq o.2.2.2.2 99 then 0 else 3
  | _ => 0
def y_isRet (o : yO) : Bool := match o.1 with
  | .ireturn | .lreturn | .return_ => true
  | _ => false
/-- what the callee is given, and what stays on the stack -/
def y_split (kd na ci : Nat) (h : List yC) (st : List yV) : Option (List yV × List yV) :=
  bif Nat.beq kd 2 then (bif Nat.ble na st.length then some ((st.take na).reverse, st.drop na) else none) else match st.drop na with
    | .inr (.inr (some (i + 1))) :: r => match h[i]? with
      | some (.inl (cj, _)) => bif Nat.beq cj ci then some (.inr (.inr (some (i + 1))) :: (st.take na).reverse, r) else none
      | _ => none
    | _ => none
/-- what a method answers from where it stands at a return -/
def y_end (e : yE) (S : yS) : Option (Option yV) := match y_find e.2.2.2.2 S.1 with
  | none => none
  | some o => match o.1, S.2.2.1 with
    | .ireturn, [.inl a] => match e.2.2.2.1 with
      | some .int => some (some (.inl a))
      | some .boolean => match a with
        | .inl b => bif Nat.ble b 1 then some (some (.inl a)) else none
        | _ => none
      | some .char => match a with
        | .inl b => bif Nat.ble b 65535 then some (some (.inl a)) else none
        | _ => none
      | _ => none
    | .lreturn, [.inr (.inl a)] => if e.2.2.2.1 = some .long then some (some (.inr (.inl a))) else none
    | .return_, [] => if e.2.2.2.1 = none then some none else none
    | _, _ => none
def y_psh : Option yV → List yV → List yV
  | none, r => r
  | some v, r => v :: r
def y_go (mt : List yE) (L : Nat) (hy : yF) (tb : yT) : Nat → Bool → Nat → yE → yS → Option yS
  | 0, _, _, _, _ => none
  | f + 1, sc, d, e, S =>
    match y_find e.2.2.2.2 S.1 with
    | none => some S
    | some o =>
      bif y_isRet o then some S else
      bif Nat.beq (y_kind o) 0 then (y_step sc L hy tb S.1 o S.2.1 S.2.2.1 S.2.2.2.1 S.2.2.2.2.1 S.2.2.2.2.2).bind (fun S' => y_go mt L hy tb f sc d e S') else
      bif Nat.beq d 0 then none else
      (mt[o.2.2.1]?).bind fun e' => (y_split (y_kind o) o.2.2.2.1 o.2.2.2.2 S.2.2.2.1 S.2.2.1).bind fun ar =>
        bif Nat.ble (y_cats ar.2) 8 && Nat.ble (y_cats ar.1) e'.2.2.1 then
          (y_go mt L hy tb f false (d - 1) e' (0, y_args 0 ar.1, [], S.2.2.2.1, 0, 0)).bind fun S1 => (y_end e' S1).bind fun rv =>
            y_go mt L hy tb f sc d e (o.2.1, S.2.1, y_psh rv ar.2, S1.2.2.2.1, S.2.2.2.2.1 + S1.2.2.2.2.1, S.2.2.2.2.2 + S1.2.2.2.2.2)
        else none
end
section
theorem y_px {T : Type} {l l' : List T} {i : Nat} {x : T} (h : l <+: l') (hi : l[i]? = some x) : l'[i]? = some x := by
  obtain ⟨t, rfl⟩ := h
  have hl : i < l.length := (List.getElem?_eq_some_iff.mp hi).1
  rw [List.getElem?_append_left hl]
  exact hi
section YB
variable {κ : yK} {α α' : List Nat} {tys tys' : List (ClassId × FieldType)}
theorem y_r_mono {i a : Nat} (h : α <+: α') (hi : y_r κ α i = some a) : y_r κ α' i = some a := by
  cases i with
  | zero => exact hi
  | succ i => exact y_px h hi
theorem y_d_mono {v : yV} {x : Value} (h : α <+: α') (hv : y_d κ α v = some x) : y_d κ α' v = some x := by
  rcases v with a | a | _ | i
  · exact hv
  · exact hv
  · exact hv
  · obtain ⟨a, ha, rfl⟩ := Option.map_eq_some_iff.mp hv
    exact Option.map_eq_some_iff.mpr ⟨a, y_r_mono h ha, rfl⟩
theorem y_ds_nil {xs : List Value} (h : y_ds κ α [] xs) : xs = [] := by
  cases xs with
  | nil => rfl
  | cons x xs => simp [y_ds] at h
theorem y_ds_cons {v : yV} {l : List yV} {xs : List Value} (h : y_ds κ α (v :: l) xs) : ∃ x ys, xs = x :: ys ∧ y_d κ α v = some x ∧ y_ds κ α l ys := by
  cases xs with
  | nil => simp [y_ds] at h
  | cons x ys =>
    have h' : y_d κ α v :: l.map (y_d κ α) = some x :: ys.map some := h
    obtain ⟨h1, h2⟩ := List.cons.inj h'
    exact ⟨x, ys, rfl, h1, h2⟩
theorem y_ds_mk {v : yV} {l : List yV} {x : Value} {ys : List Value} (h1 : y_d κ α v = some x) (h2 : y_ds κ α l ys) : y_ds κ α (v :: l) (x :: ys) := by
  show y_d κ α v :: l.map (y_d κ α) = some x :: ys.map some
  rw [h1, show l.map (y_d κ α) = ys.map some from h2]
theorem y_ds_0 : y_ds κ α [] [] := rfl
theorem y_ds_i {a : yI} {l : List yV} {x : Int32} {ys : List Value} (h1 : y_i κ a = x) (h2 : y_ds κ α l ys) : y_ds κ α (.inl a :: l) (.int x :: ys) := y_ds_mk (by rw [← h1]; rfl) h2
theorem y_ds_l {a : yI} {l : List yV} {x : Int64} {ys : List Value} (h1 : y_l κ a = x) (h2 : y_ds κ α l ys) : y_ds κ α (.inr (.inl a) :: l) (.long x :: ys) := y_ds_mk (by rw [← h1]; rfl) h2
theorem y_ds_ci {a : yI} {l : List yV} {xs : List Value} (h : y_ds κ α (.inl a :: l) xs) : ∃ ys, xs = .int (y_i κ a) :: ys ∧ y_ds κ α l ys := by
  obtain ⟨x, ys, rfl, h1, h2⟩ := y_ds_cons h
  cases h1
  exact ⟨ys, rfl, h2⟩
theorem y_ds_cl {a : yI} {l : List yV} {xs : List Value} (h : y_ds κ α (.inr (.inl a) :: l) xs) : ∃ ys, xs = .long (y_l κ a) :: ys ∧ y_ds κ α l ys := by
  obtain ⟨x, ys, rfl, h1, h2⟩ := y_ds_cons h
  cases h1
  exact ⟨ys, rfl, h2⟩
theorem y_ds_cr {i : Nat} {l : List yV} {xs : List Value} (h : y_ds κ α (.inr (.inr (some i)) :: l) xs) : ∃ a ys, xs = .ref a :: ys ∧ y_r κ α i = some a ∧ y_ds κ α l ys := by
  obtain ⟨x, ys, rfl, h1, h2⟩ := y_ds_cons h
  obtain ⟨a, ha, rfl⟩ := Option.map_eq_some_iff.mp h1
  exact ⟨a, ys, rfl, ha, h2⟩
theorem y_ds_len {l : List yV} {xs : List Value} (h : y_ds κ α l xs) : l.length = xs.length := by
  have := congrArg List.length h
  simpa using this
theorem y_ds_get {l : List yV} {xs : List Value} {i : Nat} {v : yV} (h : y_ds κ α l xs) (hi : l[i]? = some v) : ∃ x, xs[i]? = some x ∧ y_d κ α v = some x := by
  have h1 : (l.map (y_d κ α))[i]? = (xs.map some)[i]? := congrArg (fun z : List (Option Value) => z[i]?) h
  rw [List.getElem?_map, List.getElem?_map, hi] at h1
  cases hx : xs[i]? with
  | none => rw [hx] at h1; cases h1
  | some x => rw [hx] at h1; exact ⟨x, rfl, Option.some.inj h1⟩
theorem y_ds_set {l : List yV} {xs : List Value} {v : yV} {x : Value} (k : Nat) (h : y_ds κ α l xs) (hv : y_d κ α v = some x) : y_ds κ α (l.set k v) (xs.set k x) := by
  show (l.set k v).map (y_d κ α) = (xs.set k x).map some
  rw [List.map_set, List.map_set, hv, show l.map (y_d κ α) = xs.map some from h]
theorem y_ds_take {l : List yV} {xs : List Value} (k : Nat) (h : y_ds κ α l xs) : y_ds κ α (l.take k) (xs.take k) := by
  show (l.take k).map (y_d κ α) = (xs.take k).map some
  rw [List.map_take, List.map_take, show l.map (y_d κ α) = xs.map some from h]
theorem y_ds_drop {l : List yV} {xs : List Value} (k : Nat) (h : y_ds κ α l xs) : y_ds κ α (l.drop k) (xs.drop k) := by
  show (l.drop k).map (y_d κ α) = (xs.drop k).map some
  rw [List.map_drop, List.map_drop, show l.map (y_d κ α) = xs.map some from h]
theorem y_ds_rev {l : List yV} {xs : List Value} (h : y_ds κ α l xs) : y_ds κ α l.reverse xs.reverse := by
  show l.reverse.map (y_d κ α) = xs.reverse.map some
  rw [List.map_reverse, List.map_reverse, show l.map (y_d κ α) = xs.map some from h]
theorem y_ds_mono {l : List yV} {xs : List Value} (hα : α <+: α') (h : y_ds κ α l xs) : y_ds κ α' l xs := by
  induction l generalizing xs with
  | nil => rw [y_ds_nil h]; exact y_ds_0
  | cons v l ih =>
    obtain ⟨x, ys, rfl, h1, h2⟩ := y_ds_cons h
    exact y_ds_mk (y_d_mono hα h1) (ih h2)
theorem y_cat_ok {v : yV} {x : Value} (h : y_d κ α v = some x) : x.category = y_cat v := by
  rcases v with a | a | _ | i
  · cases h; rfl
  · cases h; rfl
  · cases h; rfl
  · obtain ⟨a, -, rfl⟩ := Option.map_eq_some_iff.mp h
    rfl
theorem y_cats_ok {l : List yV} {xs : List Value} (h : y_ds κ α l xs) : (xs.map fun v => v.category).sum = y_cats l := by
  induction l generalizing xs with
  | nil => rw [y_ds_nil h]; rfl
  | cons v l ih =>
    obtain ⟨x, ys, rfl, h1, h2⟩ := y_ds_cons h
    rw [List.map_cons, List.sum_cons, ih h2, y_cat_ok h1]
    rfl
theorem y_sl_len {l : List yV} {xs : List Value} (h : y_ds κ α l xs) : (lg_sl xs).length = y_cats l := by
  induction l generalizing xs with
  | nil => rw [y_ds_nil h]; rfl
  | cons v l ih =>
    obtain ⟨x, ys, rfl, h1, h2⟩ := y_ds_cons h
    have e : lg_sl (x :: ys) = (if x.category = 2 then [.val x, .second] else [.val x]) ++ lg_sl ys := rfl
    rw [e, List.length_append, ih h2]
    have hc := y_cat_ok h1
    show _ = y_cat v + y_cats l
    rcases lv_cat x with h3 | h3
    · rw [if_neg (by omega)]
      simp only [List.length_cons, List.length_nil]
      omega
    · rw [if_pos h3]
      simp only [List.length_cons, List.length_nil]
      omega
-- locals
theorem y_dl_cons {q : Nat × yV} {l : yL} {xs : List (Nat × Value)} (h : y_dl κ α (q :: l) xs) : ∃ x ys, xs = (q.1, x) :: ys ∧ y_d κ α q.2 = some x ∧ y_dl κ α l ys := by
  cases xs with
  | nil => simp [y_dl] at h
  | cons x ys =>
    have h' : (q.1, y_d κ α q.2) :: l.map (fun q => (q.1, y_d κ α q.2)) = (x.1, some x.2) :: ys.map (fun q => (q.1, some q.2)) := h
    obtain ⟨h1, h2⟩ := List.cons.inj h'
    obtain ⟨h3, h4⟩ := Prod.mk.inj h1
    refine ⟨x.2, ys, ?_, h4, h2⟩
    rw [h3]
theorem y_dl_nil {xs : List (Nat × Value)} (h : y_dl κ α [] xs) : xs = [] := by
  cases xs with
  | nil => rfl
  | cons x xs => simp [y_dl] at h
theorem y_dl_mk {i : Nat} {v : yV} {l : yL} {x : Value} {ys : List (Nat × Value)} (h1 : y_d κ α v = some x) (h2 : y_dl κ α l ys) : y_dl κ α ((i, v) :: l) ((i, x) :: ys) := by
  show (i, y_d κ α v) :: l.map (fun q => (q.1, y_d κ α q.2)) = (i, some x) :: ys.map (fun q => (q.1, some q.2))
  rw [h1, show l.map (fun q => (q.1, y_d κ α q.2)) = ys.map (fun q => (q.1, some q.2)) from h2]
theorem y_dl_get {l : yL} {xs : List (Nat × Value)} {i : Nat} {v : yV} (h : y_dl κ α l xs) (hi : y_lget l i = some v) : ∃ x, (i, x) ∈ xs ∧ y_d κ α v = some x := by
  induction l generalizing xs with
  | nil => cases hi
  | cons q l ih =>
    obtain ⟨x, ys, rfl, h1, h2⟩ := y_dl_cons h
    unfold y_lget at hi
    cases hb : Nat.beq q.1 i with
    | true =>
      rw [hb] at hi
      have hq : q.2 = v := Option.some.inj hi
      have e : q.1 = i := Nat.eq_of_beq_eq_true hb
      rw [← e, ← hq]
      exact ⟨x, List.mem_cons_self, h1⟩
    | false =>
      rw [hb] at hi
      obtain ⟨y, hy, hd⟩ := ih h2 hi
      exact ⟨y, List.mem_cons_of_mem _ hy, hd⟩
theorem y_dl_mono {l : yL} {xs : List (Nat × Value)} (hα : α <+: α') (h : y_dl κ α l xs) : y_dl κ α' l xs := by
  induction l generalizing xs with
  | nil => rw [y_dl_nil h]; rfl
  | cons q l ih =>
    obtain ⟨x, ys, rfl, h1, h2⟩ := y_dl_cons h
    exact y_dl_mk (y_d_mono hα h1) (ih h2)
theorem y_dl_filter (g : Nat → Nat → Bool) {l : yL} {xs : List (Nat × Value)} (h : y_dl κ α l xs) : y_dl κ α (l.filter (fun q => g q.1 (y_cat q.2))) (xs.filter (fun q => g q.1 q.2.category)) := by
  induction l generalizing xs with
  | nil => rw [y_dl_nil h]; rfl
  | cons q l ih =>
    obtain ⟨x, ys, rfl, h1, h2⟩ := y_dl_cons h
    rw [List.filter_cons, List.filter_cons]
    have hc := y_cat_ok h1
    cases hg : g q.1 (y_cat q.2) with
    | true =>
      rw [if_pos rfl, if_pos (by show g q.1 x.category = true; rw [hc]; exact hg)]
      exact y_dl_mk h1 (ih h2)
    | false =>
      rw [if_neg (by simp), if_neg (by show ¬ g q.1 x.category = true; rw [hc, hg]; simp)]
      exact ih h2
theorem y_dl_set {l : yL} {xs : List (Nat × Value)} (i : Nat) {v : yV} {x : Value} (h : y_dl κ α l xs) (hv : y_d κ α v = some x) : y_dl κ α (y_lset l i v) ((i, x) :: xs.filter (fun q => !(q.1 == i) && !(q.1 + 1 == i && q.2.category == 2))) :=
  y_dl_mk hv (y_dl_filter (fun a c => !(a == i) && !(a + 1 == i && c == 2)) h)
theorem y_dl_set2 {l : yL} {xs : List (Nat × Value)} (i : Nat) {v : yV} {x : Value} (h : y_dl κ α l xs) (hv : y_d κ α v = some x) : y_dl κ α (y_lset2 l i v) ((i, x) :: xs.filter (fun q => !(q.1 == i) && (!(q.1 == i + 1) && !(q.1 + 1 == i && q.2.category == 2)))) :=
  y_dl_mk hv (y_dl_filter (fun a c => !(a == i) && (!(a == i + 1) && !(a + 1 == i && c == 2))) h)
theorem y_dl_args {l : List yV} {xs : List Value} (i : Nat) (h : y_ds κ α l xs) : y_dl κ α (y_args i l) (lv_args i xs) := by
  induction l generalizing xs i with
  | nil => rw [y_ds_nil h]; rfl
  | cons v l ih =>
    obtain ⟨x, ys, rfl, h1, h2⟩ := y_ds_cons h
    show y_dl κ α ((i, v) :: y_args (if y_cat v = 2 then i + 2 else i + 1) l) ((i, x) :: lv_args (if x.category = 2 then i + 2 else i + 1) ys)
    rw [y_cat_ok h1]
    exact y_dl_mk h1 (ih _ h2)
-- the heap
theorem y_c_mono {c : yC} {e : va_E} (hα : α <+: α') (ht : tys <+: tys') (h : y_c κ α tys c e) : y_c κ α' tys' c e := by
  rcases c with ⟨ci, fs⟩ | ⟨k, n, m⟩ | ⟨ci, n, m⟩
  · obtain ⟨vs, h1, h2⟩ := h
    exact ⟨vs, y_ds_mono hα h1, h2⟩
  · rcases k with _ | _ | _ | _ | k
    · obtain ⟨cA, t0, f, h1, h2, h3⟩ := h
      exact ⟨cA, t0, f, y_px ht h1, h2, h3⟩
    · obtain ⟨cA, t0, f, h1, h2, h3⟩ := h
      exact ⟨cA, t0, f, y_px ht h1, h2, h3⟩
    · obtain ⟨cA, t0, f, h1, h2, h3⟩ := h
      exact ⟨cA, t0, f, y_px ht h1, h2, h3⟩
    · obtain ⟨cA, t0, f, h1, h2, h3⟩ := h
      exact ⟨cA, t0, f, y_px ht h1, h2, h3⟩
    · obtain ⟨cA, t0, f, h1, h2, h3⟩ := h
      exact ⟨cA, t0, f, y_px ht h1, h2, h3⟩
  · obtain ⟨cA, t0, r, f, h0, h1, h2, h3⟩ := h
    refine ⟨cA, t0, r, f, h0, y_px ht h1, fun i hi => ?_, h3⟩
    have h4 := h2 i hi
    cases hm : y_getr m i with
    | none => rw [hm] at h4; exact h4
    | some j =>
      rw [hm] at h4
      obtain ⟨a, h5, h6⟩ := h4
      exact ⟨a, y_r_mono hα h5, h6⟩
theorem y_h_push {sh : List yC} {ws : va_W} {c : yC} {e : va_E} (q : Nat) (ht : tys <+: tys') (h : y_h κ α tys sh ws) (hc : y_c κ (α ++ [q]) tys' c e) : y_h κ (α ++ [q]) tys' (sh ++ [c]) (ws ++ [(q, e)]) := by
  obtain ⟨h1, h2, h3⟩ := h
  refine ⟨by simp [h1], by simp [h2], fun i c' hi => ?_⟩
  have hα : α <+: α ++ [q] := List.prefix_append _ _
  by_cases hl : i < sh.length
  · rw [List.getElem?_append_left hl] at hi
    obtain ⟨a, e', g1, g2, g3⟩ := h3 i c' hi
    refine ⟨a, e', y_px hα g1, ?_, y_c_mono hα ht g3⟩
    rw [List.getElem?_append_left (by omega)]
    exact g2
  · have hi' := (List.getElem?_eq_some_iff.mp hi).1
    rw [List.length_append] at hi'
    have e0 : i = sh.length := by simp at hi'; omega
    subst e0
    have e1 : c = c' := by simpa using hi
    subst e1
    refine ⟨q, e, ?_, ?_, hc⟩
    · rw [← h1]; simp
    · rw [← h2]; simp
theorem y_h_set {sh : List yC} {ws : va_W} {i a : Nat} {c0 c : yC} {e : va_E} (h : y_h κ α tys sh ws) (hi : sh[i]? = some c0) (ha : α[i]? = some a) (hc : y_c κ α tys c e) : y_h κ α tys (sh.set i c) (ws.set i (a, e)) := by
  obtain ⟨h1, h2, h3⟩ := h
  have hl : i < sh.length := (List.getElem?_eq_some_iff.mp hi).1
  refine ⟨by simp [h1], by simp [h2], fun j c' hj => ?_⟩
  by_cases hji : i = j
  · subst hji
    rw [List.getElem?_set_self hl] at hj
    cases hj
    exact ⟨a, e, ha, List.getElem?_set_self (by omega), hc⟩
  · rw [List.getElem?_set_ne hji] at hj
    obtain ⟨a', e', g1, g2, g3⟩ := h3 j c' hj
    exact ⟨a', e', g1, by rw [List.getElem?_set_ne hji]; exact g2, g3⟩
end YB
-- numbers
theorem y_tn (n : Nat) : (nI n).toBitVec.toNat = n % 4294967296 := by
  show (BitVec.ofNat 32 n).toNat = _
  rw [BitVec.toNat_ofNat]
theorem y_int (n : Nat) : (nI n).toInt = (y_sg n : Int) - 2147483648 := by
  show (nI n).toBitVec.toInt = _
  rw [BitVec.toInt_eq_toNat_cond, y_tn]
  unfold y_sg
  split <;> omega
theorem y_ext {a b : Nat} (h : a % 4294967296 = b % 4294967296) : nI a = nI b := by
  apply Int32.toBitVec_inj.mp
  apply BitVec.eq_of_toNat_eq
  rw [y_tn, y_tn, h]
theorem y_nmod (a : Nat) : nI (a % 4294967296) = nI a := y_ext (by omega)
theorem y_lt {a b : Nat} : nI a < nI b ↔ y_sg a < y_sg b := by
  rw [Int32.lt_iff_toInt_lt, y_int, y_int]; omega
theorem y_le {a b : Nat} : nI a ≤ nI b ↔ y_sg a ≤ y_sg b := by
  rw [Int32.le_iff_toInt_le, y_int, y_int]; omega
theorem y_eq {a b : Nat} : nI a = nI b ↔ y_sg a = y_sg b := by
  rw [← Int32.toInt_inj, y_int, y_int]; omega
theorem y_beq {a b : Nat} : Nat.beq a b = true ↔ a = b := ⟨Nat.eq_of_beq_eq_true, fun h => by rw [h]; exact Nat.beq_refl b⟩
theorem y_blt {a b : Nat} : Nat.blt a b = true ↔ a < b := ⟨fun h => Nat.le_of_ble_eq_true h, fun h => Nat.ble_eq_true_of_le h⟩
theorem y_ble {a b : Nat} : Nat.ble a b = true ↔ a ≤ b := ⟨Nat.le_of_ble_eq_true, Nat.ble_eq_true_of_le⟩
theorem y_cmp_ok (op a b : Nat) : y_P op (nI a) (nI b) ↔ y_cmp op a b = true := by
  unfold y_P y_cmp
  split
  · rw [y_beq]; exact y_eq
  · rw [Bool.not_eq_true', ← Bool.not_eq_true, y_beq]; exact not_congr y_eq
  · rw [y_blt]; exact y_lt
  · rw [y_ble]; exact y_le
  · rw [y_blt]; exact y_lt
  · rw [y_ble]; exact y_le
theorem y_eqI_ok {a b : yI} (h : y_eqI a b = true) : a = b := by
  rcases a with a | a <;> rcases b with b | b <;> first | (rw [y_beq.mp h]) | cases h
theorem y_look_ok {κ : yK} {hy : yF} {op : Nat} {a b : yI} {t : Bool} (hH : y_H κ hy) (h : y_look hy op a b = some t) : y_P op (y_i κ a) (y_i κ b) ↔ t = true := by
  induction hy with
  | nil => cases h
  | cons q r ih =>
    unfold y_look at h
    cases hc : (Nat.beq q.1 op && (y_eqI q.2.1 a && y_eqI q.2.2.1 b)) with
    | true =>
      rw [hc] at h
      simp only [Bool.and_eq_true] at hc
      obtain ⟨h1, h2, h3⟩ := hc
      have e1 := y_beq.mp h1
      have e2 := y_eqI_ok h2
      have e3 := y_eqI_ok h3
      have e4 : q.2.2.2 = t := Option.some.inj h
      rw [← e1, ← e2, ← e3, ← e4]
      exact hH q List.mem_cons_self
    | false =>
      rw [hc] at h
      exact ih (fun q hq => hH q (List.mem_cons_of_mem _ hq)) h
theorem y_lookT_ok {κ : yK} {tb : yT} {op : Nat} {a b v : yI} (hT : y_T κ tb) (h : y_lookT tb op a b = some v) : y_opv κ op a b v := by
  induction tb with
  | nil => cases h
  | cons q r ih =>
    unfold y_lookT at h
    cases hc : (Nat.beq q.1 op && (y_eqI q.2.1 a && y_eqI q.2.2.1 b)) with
    | true =>
      rw [hc] at h
      simp only [Bool.and_eq_true] at hc
      obtain ⟨h1, h2, h3⟩ := hc
      have e1 := y_beq.mp h1
      have e2 := y_eqI_ok h2
      have e3 := y_eqI_ok h3
      have e4 : q.2.2.2 = v := Option.some.inj h
      rw [← e1, ← e2, ← e3, ← e4]
      exact hT q List.mem_cons_self
    | false =>
      rw [hc] at h
      exact ih (fun q hq => hT q (List.mem_cons_of_mem _ hq)) h
theorem y_cond_ok {κ : yK} {hy : yF} {op : Nat} {a b : yI} {t : Bool} (hH : y_H κ hy) (h : y_cond hy op a b = some t) : y_P op (y_i κ a) (y_i κ b) ↔ t = true := by
  rcases a with a | a <;> rcases b with b | b
  · have e : y_cmp op a b = t := Option.some.inj h
    rw [← e]
    exact y_cmp_ok op a b
  · exact y_look_ok hH h
  · exact y_look_ok hH h
  · exact y_look_ok hH h
theorem y_and_ok (a b : Nat) : nI a &&& nI b = nI (Nat.land a b) := by
  apply Int32.toBitVec_inj.mp
  apply BitVec.eq_of_toNat_eq
  rw [Int32.toBitVec_and, BitVec.toNat_and, y_tn, y_tn, y_tn]
  exact (Nat.and_mod_two_pow (n := 32) (a := a) (b := b)).symm
theorem y_or_ok (a b : Nat) : nI a ||| nI b = nI (Nat.lor a b) := by
  apply Int32.toBitVec_inj.mp
  apply BitVec.eq_of_toNat_eq
  rw [Int32.toBitVec_or, BitVec.toNat_or, y_tn, y_tn, y_tn]
  exact (Nat.or_mod_two_pow (n := 32) (a := a) (b := b)).symm
theorem y_sub_ok (a b : Nat) : nI a - nI b = nI ((a + (4294967296 - b % 4294967296)) % 4294967296) := by
  apply Int32.toBitVec_inj.mp
  apply BitVec.eq_of_toNat_eq
  rw [Int32.toBitVec_sub, BitVec.toNat_sub, y_tn, y_tn, y_tn]
  omega
theorem y_sm : ∀ b, b < 32 → ((nI b &&& 31).toBitVec.smod 32).toNat = b := by decide +kernel
theorem y_um : ∀ b, b < 32 → (((nI b).toUInt32 &&& Int32.toUInt32 31).toBitVec % 32).toNat = b := by decide +kernel
theorem y_shl_ok {a b : Nat} (hb : b < 32) : nI a <<< (nI b &&& 31) = nI (a * 2 ^ b % 4294967296) := by
  apply Int32.toBitVec_inj.mp
  apply BitVec.eq_of_toNat_eq
  rw [pk_shl (nI a) (nI b &&& 31) b (y_sm b hb), y_tn, y_tn]
  rw [show (2 : Nat) ^ 32 = 4294967296 from rfl, Nat.mod_mod, Nat.mod_mul_mod]
theorem y_nz {b : Nat} (h0 : 0 < b) (h : b < 2147483648) : ¬ nI b = 0 := nI_ne0 h0 h
end
section

/-- the constructors that only their nest may call -/
def zN : List (String × Nat × MethodName × String) := [("TokenNets", 11, ⟨"TokenNets$Net", "<init>", "()V"⟩, "TokenNets"), ("TokenNets$History", 17, ⟨"TokenNets$Net", "<init>", "()V"⟩, "TokenNets"), ("TokenNets", 33, ⟨"TokenNets$Pad", "<init>", "()V"⟩, "TokenNets"), ("TokenNets", 40, ⟨"TokenNets$Sums", "<init>", "()V"⟩, "TokenNets"), ("TokenNets$Sums", 11, ⟨"TokenNets$Net", "<init>", "()V"⟩, "TokenNets"), ("TokenNets", 47, ⟨"TokenNets$Reach", "<init>", "()V"⟩, "TokenNets"), ("TokenNets$Reach", 11, ⟨"TokenNets$Marks", "<init>", "()V"⟩, "TokenNets"), ("TokenNets$Marks", 11, ⟨"TokenNets$Net", "<init>", "()V"⟩, "TokenNets"), ("TokenNets", 54, ⟨"TokenNets$Tree", "<init>", "()V"⟩, "TokenNets"), ("TokenNets$Tree", 11, ⟨"TokenNets$Marks", "<init>", "()V"⟩, "TokenNets")]
def y_aux (U : State) : Prop := va_AO RX3 U ∧ ∀ q ∈ zN, va_Nw (.methodLinkNest q.1 q.2.1 q.2.2.1 q.2.2.2) U
theorem y_aux_call {U : State} {g : JFrame} {mk : MethodId} {a : Array Value} (h : y_aux U) : y_aux (U.calling g mk a) := ⟨va_AO.moved (u := U) (U := U.calling g mk a) (Vm.Alike.refl U.vm) h.1, fun q hq => va_Nw.same (u := U) (U := U.calling g mk a) rfl rfl (h.2 q hq)⟩
theorem y_aux_warm {s U : State} (hW : s.WarmedH U.vm) (h : y_aux s) : y_aux U := ⟨va_AO.moved hW.alike h.1, fun q hq => va_Nw.warmM hW (h.2 q hq)⟩
def y_fl (own : String) (idx r1 r2 : Nat) : Bool := match vwCl[r1]? with
  | none => false
  | some r => decide (r2 < r.2.2) && yM (Cond.fieldLink own idx (r.2.1 r2).1 (r.2.1 r2).2.1 (r.2.1 r2).2.2.1)
def y_pk (r3 : Nat) (ty : Option FieldType) : Bool := match ty with
  | some .int => Nat.beq r3 0
  | some .boolean => Nat.beq r3 1
  | some (.object _) => Nat.beq r3 2
  | some (.array _) => Nat.beq r3 2
  | _ => false
def y_pf (own yn : String) (r1 r2 r3 : Nat) : Bool := match vwCl[r1]? with
  | none => false
  | some r => y_pk r3 (parseFieldDescriptor (r.2.1 r2).2.2.1) && (!(r.2.1 r2).2.2.2 || (decide (yn = "<init>") && decide ((r.2.1 r2).1 = own)))
def y_dk (b : Bool) (ty : Option FieldType) : Bool := match ty with
  | some .int => !b
  | some .boolean => !b
  | some (.object _) => b
  | some (.array _) => b
  | _ => false
def y_nw (own : String) (idx r1 r2 r3 : Nat) : Bool := match vwCl[r1]? with
  | none => false
  | some r => decide (r.2.2 = r2) && (yM (Cond.classLink own idx r.1) && (yM (Cond.instantiable r.1 r2) && (yM (Cond.initialized r.1) && (List.range r2).all (fun k => y_dk (Nat.testBit r3 k) (parseFieldDescriptor (r.2.1 k).2.2.1)))))
def y_an (own : String) (idx r1 : Nat) : Bool := match vwCl[r1]? with
  | none => false
  | some r => decide (r.1 = RX3) && yM (Cond.classLink own idx r.1)
/-- an instruction as it is resolved is the method's own -/
def y_okin (nL : Nat) (own yn : String) (pc : Nat) (o : yO) : Bool := match o.1 with
  | .iconst k => decide (o.2.1 = pc + 1) && decide (Int32.ofInt k = nI o.2.2.1)
  | .bipush k => decide (o.2.1 = pc + 2) && decide ((Int8.ofInt k).toInt32 = nI o.2.2.1)
  | .sipush k => decide (o.2.1 = pc + 3) && decide ((Int16.ofInt k).toInt32 = nI o.2.2.1)
  | .ldc k => decide (o.2.1 = pc + 2) && yM (Cond.constant own k (nI o.2.2.1))
  | .ldc_w k => decide (o.2.1 = pc + 3) && yM (Cond.constant own k (nI o.2.2.1))
  | .lconst k => decide (o.2.1 = pc + 1) && decide (Int64.ofNat (k : Nat) = lN o.2.2.1)
  | .ldc2_w k => decide (o.2.1 = pc + 3) && yM (Cond.constantLong own k (lN o.2.2.1))
  | .iload_n _ | .lload_n _ | .aload_n _ | .iadd | .isub | .imul | .iand | .ior | .ishl | .ishr | .iushr | .irem | .i2c | .l2i | .i2l | .land | .lor | .lshl | .lushr | .lcmp | .dup | .dup2 | .pop => decide (o.2.1 = pc + 1)
  | .idiv | .ixor | .ladd | .lmul | .ldiv | .lrem | .lxor | .dup_x2 | .laload | .lastore => decide (o.2.1 = pc + 1)
  | .iaload | .baload | .aaload | .iastore | .bastore | .castore | .aastore | .arraylength => decide (o.2.1 = pc + 1)
  | .iload _ | .lload _ | .aload _ => decide (o.2.1 = pc + 2)
  | .istore_n k => decide (o.2.1 = pc + 1) && decide ((k : Nat) < nL)
  | .astore_n k => decide (o.2.1 = pc + 1) && decide ((k : Nat) < nL)
  | .lstore_n k => decide (o.2.1 = pc + 1) && decide ((k : Nat) + 1 < nL)
  | .istore k => decide (o.2.1 = pc + 2) && decide (k < nL)
  | .astore k => decide (o.2.1 = pc + 2) && decide (k < nL)
  | .lstore k => decide (o.2.1 = pc + 2) && decide (k + 1 < nL)
  | .iinc k d => decide (o.2.1 = pc + 3) && (decide (k < nL) && decide (Int32.ofInt d = nI o.2.2.1))
  | .goto off => decide (o.2.1 = pc + 3) && decide ((pc : Int) + off = (o.2.2.1 : Int))
  | .ifCond _ off => decide (o.2.1 = pc + 3) && decide ((pc : Int) + off = (o.2.2.1 : Int))
  | .if_icmp _ off => decide (o.2.1 = pc + 3) && decide ((pc : Int) + off = (o.2.2.1 : Int))
  | .tableswitch _ _ _ _ => true
  | .lookupswitch _ ps => (ps.toList.zip (ps.toList.drop 1)).all (fun (a, next) => a.1 < next.1)
  | .getfield k => decide (o.2.1 = pc + 3) && y_fl own k o.2.2.1 o.2.2.2.1
  | .putfield k => decide (o.2.1 = pc + 3) && (y_fl own k o.2.2.1 o.2.2.2.1 && y_pf own yn o.2.2.1 o.2.2.2.1 o.2.2.2.2)
  | .new k => decide (o.2.1 = pc + 3) && y_nw own k o.2.2.1 o.2.2.2.1 o.2.2.2.2
  | .newarray .int => decide (o.2.1 = pc + 2) && (decide (o.2.2.1 = 0) && yM (Cond.arrayClass .int))
  | .newarray .boolean => decide (o.2.1 = pc + 2) && (decide (o.2.2.1 = 1) && yM (Cond.arrayClass .boolean))
  | .newarray .char => decide (o.2.1 = pc + 2) && (decide (o.2.2.1 = 2) && yM (Cond.arrayClass .char))
  | .newarray .long => decide (o.2.1 = pc + 2) && (decide (o.2.2.1 = 3) && yM (Cond.arrayClass .long))
  | .anewarray k => decide (o.2.1 = pc + 3) && y_an own k o.2.2.1
  | .ireturn => decide (o.2.1 = pc + 1)
  | .lreturn => decide (o.2.1 = pc + 1)
  | .return_ => decide (o.2.1 = pc + 1)
  | .invokevirtual _ => decide (o.2.1 = pc + 3)
  | .invokespecial k => decide (o.2.1 = pc + 3) && (!(Nat.beq o.2.2.2.2 99) || (yM (Cond.methodLink own k objectInit) && (yM (Cond.instanceMethod objectInit) && yM (Cond.code objectInit ⟨#[0xb1]⟩ 1 none))))
  | .invokestatic k => decide (o.2.1 = pc + 3) && ((!(Nat.beq o.2.2.2.2 98) || (yM (Cond.methodLink own k arraycopyName) && (yM (Cond.native arraycopyName) && (yM (Cond.static arraycopyName) && yM (Cond.initialized "java/lang/System"))))) && ((!(Nat.beq o.2.2.2.2 96) || (yM (Cond.methodLink own k Lib.Math.max.name) && (yM (Cond.static Lib.Math.max.name) && (yM (Cond.initialized "java/lang/Math") && yM (Cond.code Lib.Math.max.name Lib.Math.max.code 2 (some .int)))))) && (!(Nat.beq o.2.2.2.2 97) || (yM (Cond.methodLink own k Lib.Math.min.name) && (yM (Cond.static Lib.Math.min.name) && (yM (Cond.initialized "java/lang/Math") && yM (Cond.code Lib.Math.min.name Lib.Math.min.code 2 (some .int))))))))
  | _ => false
def y_okop (nL : Nat) (own yn : String) (cc : ByteArray) (q : Nat × yO) : Bool := decide (decode cc q.1 = .ok (q.2.1, q.2.2.1 - q.1)) && y_okin nL own yn q.1 q.2
def y_cls (r : vw_C) : Bool := (u_ws r.1 r.2.1 r.2.2).all yM && ((List.range r.2.2).all (fun k => (parseFieldDescriptor (r.2.1 k).2.2.1).isSome) && (List.range r.2.2).all (fun a => (List.range r.2.2).all (fun b => decide (a = b) || decide ((r.2.1 a).2.1 ≠ (r.2.1 b).2.1))))
set_option maxRecDepth 100000 in
theorem y_cls_all : vwCl.all y_cls = true := by decide +kernel
theorem y_cls_ok {ci : Nat} {r : vw_C} (h : vwCl[ci]? = some r) : (∀ w ∈ u_ws r.1 r.2.1 r.2.2, w ∈ yCT) ∧ (∀ k, k < r.2.2 → parseFieldDescriptor (r.2.1 k).2.2.1 = some ((parseFieldDescriptor (r.2.1 k).2.2.1).getD .int)) ∧ ∀ a, a < r.2.2 → ∀ b, b < r.2.2 → a ≠ b → (r.2.1 a).2.1 ≠ (r.2.1 b).2.1 := by
  have h1 := List.all_eq_true.mp y_cls_all r (List.mem_of_getElem? h)
  unfold y_cls at h1
  simp only [Bool.and_eq_true, List.all_eq_true, List.mem_range, decide_eq_true_eq, Bool.or_eq_true] at h1
  obtain ⟨g1, g2, g3⟩ := h1
  refine ⟨fun w hw => yM_ok (g1 w hw), fun k hk => ?_, fun a ha b hb hab => ?_⟩
  · obtain ⟨ty, hty⟩ := Option.isSome_iff_exists.mp (g2 k hk)
    rw [hty]
    rfl
  · rcases g3 a ha b hb with h | h
    · exact absurd h hab
    · exact h
def y_Z (κ : yK) (D : va_G) (A : Nat → Prop) (s : State) (nL : Nat) (α : List Nat) (tys : List (ClassId × FieldType)) (ws : va_W) (H : Heap) (locs : List Loc) (ls : Array Slot) (lv : List (Nat × Value)) (sv : List Value) (l : yL) (st : List yV) (h : List yC) : Prop :=
  y_h κ α tys h ws ∧ y_dl κ α l lv ∧ y_ds κ α st sv ∧ lv_has ls nL lv ∧ va_P D vwCl ws H ∧ va_K D vwCl tys s ∧ va_D A ws ∧ va_S A s.heap H locs
def y_ctx (κ : yK) (sc : Bool) (p : Program) (R : Room) (s : State) (m : MethodId) (args : Array Value) (meth : Method) (c : Code) (cc : ByteArray) (own yn : String) (nL : Nat) (A : Nat → Prop) : Prop :=
  p.tables.exec = Jvm.exec ∧ c.code = cc ∧ c.maxLocals = nL ∧ s.vm.findClass own = some m.cls ∧ (∀ w ∈ yCT, w.before args s = true) ∧ (yn = "<init>" → meth.name = "<init>") ∧ y_aux s ∧ (∀ q, s.heap.size ≤ q → A q) ∧ 1 ≤ R.frames ∧ 60 ≤ R.locals ∧ (sc = true → va_X κ.2.2.1 κ.2.2.2 κ.1 s s.heap ∧ κ.2.2.1 < s.heap.size ∧ ¬ A κ.2.2.1)
theorem y_bin_ok {κ : yK} {α : List Nat} {tb : yT} {op : Nat} {f : Nat → Nat → Option Nat} {st st' : List yV} {sv : List Value} (g : Int32 → Int32 → Int32) (h1 : ∀ x y z, f x y = some z → g (nI x) (nI y) = nI z) (h2 : ∀ a b v, y_lookT tb op a b = some v → g (y_i κ a) (y_i κ b) = y_i κ v) (hb : y_bin tb op f st = some st') (hd : y_ds κ α st sv) :
    ∃ x y xs, sv = .int y :: .int x :: xs ∧ y_ds κ α st' (.int (g x y) :: xs) := by
  rcases st with _ | ⟨b | b, _ | ⟨a | a, r⟩⟩
  · cases hb
  · cases hb
  · obtain ⟨ys, rfl, hd1⟩ := y_ds_ci hd
    obtain ⟨xs, rfl, hd2⟩ := y_ds_ci hd1
    refine ⟨_, _, _, rfl, ?_⟩
    rcases a with x | x <;> rcases b with y | y
    · obtain ⟨z, hz, rfl⟩ := Option.map_eq_some_iff.mp hb
      exact y_ds_i (h1 x y z hz).symm hd2
    · obtain ⟨z, hz, rfl⟩ := Option.map_eq_some_iff.mp hb
      exact y_ds_i (h2 _ _ _ hz).symm hd2
    · obtain ⟨z, hz, rfl⟩ := Option.map_eq_some_iff.mp hb
      exact y_ds_i (h2 _ _ _ hz).symm hd2
    · obtain ⟨z, hz, rfl⟩ := Option.map_eq_some_iff.mp hb
      exact y_ds_i (h2 _ _ _ hz).symm hd2
  · cases hb
  · cases hb
  · cases hb
  · cases hb
theorem y_no {κ : yK} {tb : yT} {a b v : yI} {P : Prop} (hT : y_T κ tb) (h : y_lookT tb 99 a b = some v) : P := (y_lookT_ok hT h : False).elim

section YSTEP
variable {p : Program} {l : Launch} {e : Env} {R : Room} {s : State} {m : MethodId} {args : Array Value} {below : List Frame} {meth : Method} {c : Code} {H : Heap} {locs : List Loc} {Q : State → Prop} {ls : Array Slot}
variable {κ : yK} {D : va_G} {A : Nat → Prop} {α : List Nat} {tys : List (ClassId × FieldType)} {ws : va_W} {lv : List (Nat × Value)} {sv : List Value} {lo : yL} {st : List yV} {h : List yC} {cc : ByteArray} {own yn : String} {nL : Nat} {hy : yF} {tb : yT} {sc : Bool} {pc k n : Nat} {S' : yS}

set_option maxHeartbeats 4000000 in
set_option maxRecDepth 100000 in
theorem y_st_iconst {i : Int} {nx r1 r2 r3 : Nat} (C : y_ctx κ sc p R s m args meth c cc own yn nL A) (hH : y_H κ hy) (hT : y_T κ tb) (hok : y_okop nL own yn cc (pc, (.iconst i, nx, r1, r2, r3)) = true) (hs : y_step sc κ.2.2.2 hy tb pc (.iconst i, nx, r1, r2, r3) lo st h k n = some S') (hk : S'.2.2.2.2.1 ≤ R.cells) (hn : S'.2.2.2.2.2 ≤ R.slots) (Z : y_Z κ D A s nL α tys ws H locs ls lv sv lo st h)
    (kk : ∀ α' tys' ws' H' locs' ls' lv' sv', α <+: α' → y_Z κ D A s nL α' tys' ws' H' locs' ls' lv' sv' S'.2.1 S'.2.2.1 S'.2.2.2.1 → W p l e R s m args below meth c H' locs' S'.2.2.2.2.1 S'.2.2.2.2.2 Q (F0 m S'.1 ls' sv')) : W p l e R s m args below meth c H locs k n Q (F0 m pc ls sv) := by
  obtain ⟨hx, hb, hml, hown, hts, hyn, hAO, hA, hRf, hRl, hsc⟩ := C
  obtain ⟨hh, hl, hst, hls, hP, hK, hD, hS⟩ := Z
  unfold y_okop y_okin at hok
  simp only [Bool.and_eq_true, decide_eq_true_eq] at hok
  obtain ⟨hdg, hok⟩ := hok
  unfold y_step at hs
  dsimp only at hs
  obtain ⟨rfl, hv⟩ := hok
  rw [Nat.add_sub_cancel_left] at hdg
  cases hs
  exact lv_iconst hx hb hdg hv (kk α tys ws H locs ls lv _ (List.prefix_refl _) ⟨hh, hl, y_ds_i rfl hst, hls, hP, hK, hD, hS⟩)

set_option maxHeartbeats 4000000 in
set_option maxRecDepth 100000 in
theorem y_st_bipush {i : Int} {nx r1 r2 r3 : Nat} (C : y_ctx κ sc p R s m args meth c cc own yn nL A) (hH : y_H κ hy) (hT : y_T κ tb) (hok : y_okop nL own yn cc (pc, (.bipush i, nx, r1, r2, r3)) = true) (hs : y_step sc κ.2.2.2 hy tb pc (.bipush i, nx, r1, r2, r3) lo st h k n = some S') (hk : S'.2.2.2.2.1 ≤ R.cells) (hn : S'.2.2.2.2.2 ≤ R.slots) (Z : y_Z κ D A s nL α tys ws H locs ls lv sv lo st h)
    (kk : ∀ α' tys' ws' H' locs' ls' lv' sv', α <+: α' → y_Z κ D A s nL α' tys' ws' H' locs' ls' lv' sv' S'.2.1 S'.2.2.1 S'.2.2.2.1 → W p l e R s m args below meth c H' locs' S'.2.2.2.2.1 S'.2.2.2.2.2 Q (F0 m S'.1 ls' sv')) : W p l e R s m args below meth c H locs k n Q (F0 m pc ls sv) := by
  obtain ⟨hx, hb, hml, hown, hts, hyn, hAO, hA, hRf, hRl, hsc⟩ := C
  obtain ⟨hh, hl, hst, hls, hP, hK, hD, hS⟩ := Z
  unfold y_okop y_okin at hok
  simp only [Bool.and_eq_true, decide_eq_true_eq] at hok
  obtain ⟨hdg, hok⟩ := hok
  unfold y_step at hs
  dsimp only at hs
  obtain ⟨rfl, hv⟩ := hok
  rw [Nat.add_sub_cancel_left] at hdg
  cases hs
  exact lv_bipush hx hb hdg hv (kk α tys ws H locs ls lv _ (List.prefix_refl _) ⟨hh, hl, y_ds_i rfl hst, hls, hP, hK, hD, hS⟩)

set_option maxHeartbeats 4000000 in
set_option maxRecDepth 100000 in
theorem y_st_sipush {i : Int} {nx r1 r2 r3 : Nat} (C : y_ctx κ sc p R s m args meth c cc own yn nL A) (hH : y_H κ hy) (hT : y_T κ tb) (hok : y_okop nL own yn cc (pc, (.sipush i, nx, r1, r2, r3)) = true) (hs : y_step sc κ.2.2.2 hy tb pc (.sipush i, nx, r1, r2, r3) lo st h k n = some S') (hk : S'.2.2.2.2.1 ≤ R.cells) (hn : S'.2.2.2.2.2 ≤ R.slots) (Z : y_Z κ D A s nL α tys ws H locs ls lv sv lo st h)
    (kk : ∀ α' tys' ws' H' locs' ls' lv' sv', α <+: α' → y_Z κ D A s nL α' tys' ws' H' locs' ls' lv' sv' S'.2.1 S'.2.2.1 S'.2.2.2.1 → W p l e R s m args below meth c H' locs' S'.2.2.2.2.1 S'.2.2.2.2.2 Q (F0 m S'.1 ls' sv')) : W p l e R s m args below meth c H locs k n Q (F0 m pc ls sv) := by
  obtain ⟨hx, hb, hml, hown, hts, hyn, hAO, hA, hRf, hRl, hsc⟩ := C
  obtain ⟨hh, hl, hst, hls, hP, hK, hD, hS⟩ := Z
  unfold y_okop y_okin at hok
  simp only [Bool.and_eq_true, decide_eq_true_eq] at hok
  obtain ⟨hdg, hok⟩ := hok
  unfold y_step at hs
  dsimp only at hs
  obtain ⟨rfl, hv⟩ := hok
  rw [Nat.add_sub_cancel_left] at hdg
  cases hs
  exact lv_sipush hx hb hdg hv (kk α tys ws H locs ls lv _ (List.prefix_refl _) ⟨hh, hl, y_ds_i rfl hst, hls, hP, hK, hD, hS⟩)

set_option maxHeartbeats 4000000 in
set_option maxRecDepth 100000 in
theorem y_st_ldc {i : Nat} {nx r1 r2 r3 : Nat} (C : y_ctx κ sc p R s m args meth c cc own yn nL A) (hH : y_H κ hy) (hT : y_T κ tb) (hok : y_okop nL own yn cc (pc, (.ldc i, nx, r1, r2, r3)) = true) (hs : y_step sc κ.2.2.2 hy tb pc (.ldc i, nx, r1, r2, r3) lo st h k n = some S') (hk : S'.2.2.2.2.1 ≤ R.cells) (hn : S'.2.2.2.2.2 ≤ R.slots) (Z : y_Z κ D A s nL α tys ws H locs ls lv sv lo st h)
    (kk : ∀ α' tys' ws' H' locs' ls' lv' sv', α <+: α' → y_Z κ D A s nL α' tys' ws' H' locs' ls' lv' sv' S'.2.1 S'.2.2.1 S'.2.2.2.1 → W p l e R s m args below meth c H' locs' S'.2.2.2.2.1 S'.2.2.2.2.2 Q (F0 m S'.1 ls' sv')) : W p l e R s m args below meth c H locs k n Q (F0 m pc ls sv) := by
  obtain ⟨hx, hb, hml, hown, hts, hyn, hAO, hA, hRf, hRl, hsc⟩ := C
  obtain ⟨hh, hl, hst, hls, hP, hK, hD, hS⟩ := Z
  unfold y_okop y_okin at hok
  simp only [Bool.and_eq_true, decide_eq_true_eq] at hok
  obtain ⟨hdg, hok⟩ := hok
  unfold y_step at hs
  dsimp only at hs
  obtain ⟨rfl, hv⟩ := hok
  rw [Nat.add_sub_cancel_left] at hdg
  cases hs
  exact lv_ldc hx hb hown (hts _ (yM_ok hv)) hdg (kk α tys ws H locs ls lv _ (List.prefix_refl _) ⟨hh, hl, y_ds_i rfl hst, hls, hP, hK, hD, hS⟩)

set_option maxHeartbeats 4000000 in
set_option maxRecDepth 100000 in
theorem y_st_ldcw {i : Nat} {nx r1 r2 r3 : Nat} (C : y_ctx κ sc p R s m args meth c cc own yn nL A) (hH : y_H κ hy) (hT : y_T κ tb) (hok : y_okop nL own yn cc (pc, (.ldc_w i, nx, r1, r2, r3)) = true) (hs : y_step sc κ.2.2.2 hy tb pc (.ldc_w i, nx, r1, r2, r3) lo st h k n = some S') (hk : S'.2.2.2.2.1 ≤ R.cells) (hn : S'.2.2.2.2.2 ≤ R.slots) (Z : y_Z κ D A s nL α tys ws H locs ls lv sv lo st h)
    (kk : ∀ α' tys' ws' H' locs' ls' lv' sv', α <+: α' → y_Z κ D A s nL α' tys' ws' H' locs' ls' lv' sv' S'.2.1 S'.2.2.1 S'.2.2.2.1 → W p l e R s m args below meth c H' locs' S'.2.2.2.2.1 S'.2.2.2.2.2 Q (F0 m S'.1 ls' sv')) : W p l e R s m args below meth c H locs k n Q (F0 m pc ls sv) := by
  obtain ⟨hx, hb, hml, hown, hts, hyn, hAO, hA, hRf, hRl, hsc⟩ := C
  obtain ⟨hh, hl, hst, hls, hP, hK, hD, hS⟩ := Z
  unfold y_okop y_okin at hok
  simp only [Bool.and_eq_true, decide_eq_true_eq] at hok
  obtain ⟨hdg, hok⟩ := hok
  unfold y_step at hs
  dsimp only at hs
  obtain ⟨rfl, hv⟩ := hok
  rw [Nat.add_sub_cancel_left] at hdg
  cases hs
  exact lv_ldcw hx hb hown (hts _ (yM_ok hv)) hdg (kk α tys ws H locs ls lv _ (List.prefix_refl _) ⟨hh, hl, y_ds_i rfl hst, hls, hP, hK, hD, hS⟩)

set_option maxHeartbeats 4000000 in
set_option maxRecDepth 100000 in
theorem y_st_lconst {i : Fin 2} {nx r1 r2 r3 : Nat} (C : y_ctx κ sc p R s m args meth c cc own yn nL A) (hH : y_H κ hy) (hT : y_T κ tb) (hok : y_okop nL own yn cc (pc, (.lconst i, nx, r1, r2, r3)) = true) (hs : y_step sc κ.2.2.2 hy tb pc (.lconst i, nx, r1, r2, r3) lo st h k n = some S') (hk : S'.2.2.2.2.1 ≤ R.cells) (hn : S'.2.2.2.2.2 ≤ R.slots) (Z : y_Z κ D A s nL α tys ws H locs ls lv sv lo st h)
    (kk : ∀ α' tys' ws' H' locs' ls' lv' sv', α <+: α' → y_Z κ D A s nL α' tys' ws' H' locs' ls' lv' sv' S'.2.1 S'.2.2.1 S'.2.2.2.1 → W p l e R s m args below meth c H' locs' S'.2.2.2.2.1 S'.2.2.2.2.2 Q (F0 m S'.1 ls' sv')) : W p l e R s m args below meth c H locs k n Q (F0 m pc ls sv) := by
  obtain ⟨hx, hb, hml, hown, hts, hyn, hAO, hA, hRf, hRl, hsc⟩ := C
  obtain ⟨hh, hl, hst, hls, hP, hK, hD, hS⟩ := Z
  unfold y_okop y_okin at hok
  simp only [Bool.and_eq_true, decide_eq_true_eq] at hok
  obtain ⟨hdg, hok⟩ := hok
  unfold y_step at hs
  dsimp only at hs
  obtain ⟨rfl, hv⟩ := hok
  rw [Nat.add_sub_cancel_left] at hdg
  cases hs
  exact lv_lconst hx hb hdg hv (kk α tys ws H locs ls lv _ (List.prefix_refl _) ⟨hh, hl, y_ds_l rfl hst, hls, hP, hK, hD, hS⟩)

set_option maxHeartbeats 4000000 in
set_option maxRecDepth 100000 in
theorem y_st_ldc2 {i : Nat} {nx r1 r2 r3 : Nat} (C : y_ctx κ sc p R s m args meth c cc own yn nL A) (hH : y_H κ hy) (hT : y_T κ tb) (hok : y_okop nL own yn cc (pc, (.ldc2_w i, nx, r1, r2, r3)) = true) (hs : y_step sc κ.2.2.2 hy tb pc (.ldc2_w i, nx, r1, r2, r3) lo st h k n = some S') (hk : S'.2.2.2.2.1 ≤ R.cells) (hn : S'.2.2.2.2.2 ≤ R.slots) (Z : y_Z κ D A s nL α tys ws H locs ls lv sv lo st h)
    (kk : ∀ α' tys' ws' H' locs' ls' lv' sv', α <+: α' → y_Z κ D A s nL α' tys' ws' H' locs' ls' lv' sv' S'.2.1 S'.2.2.1 S'.2.2.2.1 → W p l e R s m args below meth c H' locs' S'.2.2.2.2.1 S'.2.2.2.2.2 Q (F0 m S'.1 ls' sv')) : W p l e R s m args below meth c H locs k n Q (F0 m pc ls sv) := by
  obtain ⟨hx, hb, hml, hown, hts, hyn, hAO, hA, hRf, hRl, hsc⟩ := C
  obtain ⟨hh, hl, hst, hls, hP, hK, hD, hS⟩ := Z
  unfold y_okop y_okin at hok
  simp only [Bool.and_eq_true, decide_eq_true_eq] at hok
  obtain ⟨hdg, hok⟩ := hok
  unfold y_step at hs
  dsimp only at hs
  obtain ⟨rfl, hv⟩ := hok
  rw [Nat.add_sub_cancel_left] at hdg
  cases hs
  exact lv_ldc2 hx hb hown (hts _ (yM_ok hv)) hdg (kk α tys ws H locs ls lv _ (List.prefix_refl _) ⟨hh, hl, y_ds_l rfl hst, hls, hP, hK, hD, hS⟩)

set_option maxHeartbeats 4000000 in
set_option maxRecDepth 100000 in
theorem y_st_iloadn {i : Fin 4} {nx r1 r2 r3 : Nat} (C : y_ctx κ sc p R s m args meth c cc own yn nL A) (hH : y_H κ hy) (hT : y_T κ tb) (hok : y_okop nL own yn cc (pc, (.iload_n i, nx, r1, r2, r3)) = true) (hs : y_step sc κ.2.2.2 hy tb pc (.iload_n i, nx, r1, r2, r3) lo st h k n = some S') (hk : S'.2.2.2.2.1 ≤ R.cells) (hn : S'.2.2.2.2.2 ≤ R.slots) (Z : y_Z κ D A s nL α tys ws H locs ls lv sv lo st h)
    (kk : ∀ α' tys' ws' H' locs' ls' lv' sv', α <+: α' → y_Z κ D A s nL α' tys' ws' H' locs' ls' lv' sv' S'.2.1 S'.2.2.1 S'.2.2.2.1 → W p l e R s m args below meth c H' locs' S'.2.2.2.2.1 S'.2.2.2.2.2 Q (F0 m S'.1 ls' sv')) : W p l e R s m args below meth c H locs k n Q (F0 m pc ls sv) := by
  obtain ⟨hx, hb, hml, hown, hts, hyn, hAO, hA, hRf, hRl, hsc⟩ := C
  obtain ⟨hh, hl, hst, hls, hP, hK, hD, hS⟩ := Z
  unfold y_okop y_okin at hok
  simp only [Bool.and_eq_true, decide_eq_true_eq] at hok
  obtain ⟨hdg, hok⟩ := hok
  unfold y_step at hs
  dsimp only at hs
  obtain rfl := hok
  rw [Nat.add_sub_cancel_left] at hdg
  cases hg : y_lget lo i with
  | none => rw [hg] at hs; cases hs
  | some v =>
    rw [hg] at hs
    obtain ⟨x, hx1, hx2⟩ := y_dl_get hl hg
    rcases v with a | a | _ | a
    · cases hs
      cases hx2
      exact lv_iload_n hx hb hdg rfl (hls.2.2 _ hx1) (kk α tys ws H locs ls lv _ (List.prefix_refl _) ⟨hh, hl, y_ds_i rfl hst, hls, hP, hK, hD, hS⟩)
    · cases hs
    · cases hs
    · cases hs

set_option maxHeartbeats 4000000 in
set_option maxRecDepth 100000 in
theorem y_st_iload {i : Nat} {nx r1 r2 r3 : Nat} (C : y_ctx κ sc p R s m args meth c cc own yn nL A) (hH : y_H κ hy) (hT : y_T κ tb) (hok : y_okop nL own yn cc (pc, (.iload i, nx, r1, r2, r3)) = true) (hs : y_step sc κ.2.2.2 hy tb pc (.iload i, nx, r1, r2, r3) lo st h k n = some S') (hk : S'.2.2.2.2.1 ≤ R.cells) (hn : S'.2.2.2.2.2 ≤ R.slots) (Z : y_Z κ D A s nL α tys ws H locs ls lv sv lo st h)
    (kk : ∀ α' tys' ws' H' locs' ls' lv' sv', α <+: α' → y_Z κ D A s nL α' tys' ws' H' locs' ls' lv' sv' S'.2.1 S'.2.2.1 S'.2.2.2.1 → W p l e R s m args below meth c H' locs' S'.2.2.2.2.1 S'.2.2.2.2.2 Q (F0 m S'.1 ls' sv')) : W p l e R s m args below meth c H locs k n Q (F0 m pc ls sv) := by
  obtain ⟨hx, hb, hml, hown, hts, hyn, hAO, hA, hRf, hRl, hsc⟩ := C
  obtain ⟨hh, hl, hst, hls, hP, hK, hD, hS⟩ := Z
  unfold y_okop y_okin at hok
  simp only [Bool.and_eq_true, decide_eq_true_eq] at hok
  obtain ⟨hdg, hok⟩ := hok
  unfold y_step at hs
  dsimp only at hs
  obtain rfl := hok
  rw [Nat.add_sub_cancel_left] at hdg
  cases hg : y_lget lo i with
  | none => rw [hg] at hs; cases hs
  | some v =>
    rw [hg] at hs
    obtain ⟨x, hx1, hx2⟩ := y_dl_get hl hg
    rcases v with a | a | _ | a
    · cases hs
      cases hx2
      exact lv_iload hx hb hdg (hls.2.2 _ hx1) (kk α tys ws H locs ls lv _ (List.prefix_refl _) ⟨hh, hl, y_ds_i rfl hst, hls, hP, hK, hD, hS⟩)
    · cases hs
    · cases hs
    · cases hs

set_option maxHeartbeats 4000000 in
set_option maxRecDepth 100000 in
theorem y_st_lloadn {i : Fin 4} {nx r1 r2 r3 : Nat} (C : y_ctx κ sc p R s m args meth c cc own yn nL A) (hH : y_H κ hy) (hT : y_T κ tb) (hok : y_okop nL own yn cc (pc, (.lload_n i, nx, r1, r2, r3)) = true) (hs : y_step sc κ.2.2.2 hy tb pc (.lload_n i, nx, r1, r2, r3) lo st h k n = some S') (hk : S'.2.2.2.2.1 ≤ R.cells) (hn : S'.2.2.2.2.2 ≤ R.slots) (Z : y_Z κ D A s nL α tys ws H locs ls lv sv lo st h)
    (kk : ∀ α' tys' ws' H' locs' ls' lv' sv', α <+: α' → y_Z κ D A s nL α' tys' ws' H' locs' ls' lv' sv' S'.2.1 S'.2.2.1 S'.2.2.2.1 → W p l e R s m args below meth c H' locs' S'.2.2.2.2.1 S'.2.2.2.2.2 Q (F0 m S'.1 ls' sv')) : W p l e R s m args below meth c H locs k n Q (F0 m pc ls sv) := by
  obtain ⟨hx, hb, hml, hown, hts, hyn, hAO, hA, hRf, hRl, hsc⟩ := C
  obtain ⟨hh, hl, hst, hls, hP, hK, hD, hS⟩ := Z
  unfold y_okop y_okin at hok
  simp only [Bool.and_eq_true, decide_eq_true_eq] at hok
  obtain ⟨hdg, hok⟩ := hok
  unfold y_step at hs
  dsimp only at hs
  obtain rfl := hok
  rw [Nat.add_sub_cancel_left] at hdg
  cases hg : y_lget lo i with
  | none => rw [hg] at hs; cases hs
  | some v =>
    rw [hg] at hs
    obtain ⟨x, hx1, hx2⟩ := y_dl_get hl hg
    rcases v with a | a | _ | a
    · cases hs
    · cases hs
      cases hx2
      exact lv_lload_n hx hb hdg rfl (hls.2.2 _ hx1) (kk α tys ws H locs ls lv _ (List.prefix_refl _) ⟨hh, hl, y_ds_l rfl hst, hls, hP, hK, hD, hS⟩)
    · cases hs
    · cases hs

set_option maxHeartbeats 4000000 in
set_option maxRecDepth 100000 in
theorem y_st_lload {i : Nat} {nx r1 r2 r3 : Nat} (C : y_ctx κ sc p R s m args meth c cc own yn nL A) (hH : y_H κ hy) (hT : y_T κ tb) (hok : y_okop nL own yn cc (pc, (.lload i, nx, r1, r2, r3)) = true) (hs : y_step sc κ.2.2.2 hy tb pc (.lload i, nx, r1, r2, r3) lo st h k n = some S') (hk : S'.2.2.2.2.1 ≤ R.cells) (hn : S'.2.2.2.2.2 ≤ R.slots) (Z : y_Z κ D A s nL α tys ws H locs ls lv sv lo st h)
    (kk : ∀ α' tys' ws' H' locs' ls' lv' sv', α <+: α' → y_Z κ D A s nL α' tys' ws' H' locs' ls' lv' sv' S'.2.1 S'.2.2.1 S'.2.2.2.1 → W p l e R s m args below meth c H' locs' S'.2.2.2.2.1 S'.2.2.2.2.2 Q (F0 m S'.1 ls' sv')) : W p l e R s m args below meth c H locs k n Q (F0 m pc ls sv) := by
  obtain ⟨hx, hb, hml, hown, hts, hyn, hAO, hA, hRf, hRl, hsc⟩ := C
  obtain ⟨hh, hl, hst, hls, hP, hK, hD, hS⟩ := Z
  unfold y_okop y_okin at hok
  simp only [Bool.and_eq_true, decide_eq_true_eq] at hok
  obtain ⟨hdg, hok⟩ := hok
  unfold y_step at hs
  dsimp only at hs
  obtain rfl := hok
  rw [Nat.add_sub_cancel_left] at hdg
  cases hg : y_lget lo i with
  | none => rw [hg] at hs; cases hs
  | some v =>
    rw [hg] at hs
    obtain ⟨x, hx1, hx2⟩ := y_dl_get hl hg
    rcases v with a | a | _ | a
    · cases hs
    · cases hs
      cases hx2
      exact lv_lload hx hb hdg (hls.2.2 _ hx1) (kk α tys ws H locs ls lv _ (List.prefix_refl _) ⟨hh, hl, y_ds_l rfl hst, hls, hP, hK, hD, hS⟩)
    · cases hs
    · cases hs

set_option maxHeartbeats 4000000 in
set_option maxRecDepth 100000 in
theorem y_st_aloadn {i : Fin 4} {nx r1 r2 r3 : Nat} (C : y_ctx κ sc p R s m args meth c cc own yn nL A) (hH : y_H κ hy) (hT : y_T κ tb) (hok : y_okop nL own yn cc (pc, (.aload_n i, nx, r1, r2, r3)) = true) (hs : y_step sc κ.2.2.2 hy tb pc (.aload_n i, nx, r1, r2, r3) lo st h k n = some S') (hk : S'.2.2.2.2.1 ≤ R.cells) (hn : S'.2.2.2.2.2 ≤ R.slots) (Z : y_Z κ D A s nL α tys ws H locs ls lv sv lo st h)
    (kk : ∀ α' tys' ws' H' locs' ls' lv' sv', α <+: α' → y_Z κ D A s nL α' tys' ws' H' locs' ls' lv' sv' S'.2.1 S'.2.2.1 S'.2.2.2.1 → W p l e R s m args below meth c H' locs' S'.2.2.2.2.1 S'.2.2.2.2.2 Q (F0 m S'.1 ls' sv')) : W p l e R s m args below meth c H locs k n Q (F0 m pc ls sv) := by
  obtain ⟨hx, hb, hml, hown, hts, hyn, hAO, hA, hRf, hRl, hsc⟩ := C
  obtain ⟨hh, hl, hst, hls, hP, hK, hD, hS⟩ := Z
  unfold y_okop y_okin at hok
  simp only [Bool.and_eq_true, decide_eq_true_eq] at hok
  obtain ⟨hdg, hok⟩ := hok
  unfold y_step at hs
  dsimp only at hs
  obtain rfl := hok
  rw [Nat.add_sub_cancel_left] at hdg
  cases hg : y_lget lo i with
  | none => rw [hg] at hs; cases hs
  | some v =>
    rw [hg] at hs
    obtain ⟨x, hx1, hx2⟩ := y_dl_get hl hg
    rcases v with a | a | _ | a
    · cases hs
    · cases hs
    · cases hs
    · cases hs
      obtain ⟨b, hb1, rfl⟩ := Option.map_eq_some_iff.mp hx2
      exact lv_aload_n hx hb hdg rfl (hls.2.2 _ hx1) (kk α tys ws H locs ls lv _ (List.prefix_refl _) ⟨hh, hl, y_ds_mk hx2 hst, hls, hP, hK, hD, hS⟩)

set_option maxHeartbeats 4000000 in
set_option maxRecDepth 100000 in
theorem y_st_aload {i : Nat} {nx r1 r2 r3 : Nat} (C : y_ctx κ sc p R s m args meth c cc own yn nL A) (hH : y_H κ hy) (hT : y_T κ tb) (hok : y_okop nL own yn cc (pc, (.aload i, nx, r1, r2, r3)) = true) (hs : y_step sc κ.2.2.2 hy tb pc (.aload i, nx, r1, r2, r3) lo st h k n = some S') (hk : S'.2.2.2.2.1 ≤ R.cells) (hn : S'.2.2.2.2.2 ≤ R.slots) (Z : y_Z κ D A s nL α tys ws H locs ls lv sv lo st h)
    (kk : ∀ α' tys' ws' H' locs' ls' lv' sv', α <+: α' → y_Z κ D A s nL α' tys' ws' H' locs' ls' lv' sv' S'.2.1 S'.2.2.1 S'.2.2.2.1 → W p l e R s m args below meth c H' locs' S'.2.2.2.2.1 S'.2.2.2.2.2 Q (F0 m S'.1 ls' sv')) : W p l e R s m args below meth c H locs k n Q (F0 m pc ls sv) := by
  obtain ⟨hx, hb, hml, hown, hts, hyn, hAO, hA, hRf, hRl, hsc⟩ := C
  obtain ⟨hh, hl, hst, hls, hP, hK, hD, hS⟩ := Z
  unfold y_okop y_okin at hok
  simp only [Bool.and_eq_true, decide_eq_true_eq] at hok
  obtain ⟨hdg, hok⟩ := hok
  unfold y_step at hs
  dsimp only at hs
  obtain rfl := hok
  rw [Nat.add_sub_cancel_left] at hdg
  cases hg : y_lget lo i with
  | none => rw [hg] at hs; cases hs
  | some v =>
    rw [hg] at hs
    obtain ⟨x, hx1, hx2⟩ := y_dl_get hl hg
    rcases v with a | a | _ | a
    · cases hs
    · cases hs
    · cases hs
    · cases hs
      obtain ⟨b, hb1, rfl⟩ := Option.map_eq_some_iff.mp hx2
      exact lv_aload hx hb hdg (hls.2.2 _ hx1) (kk α tys ws H locs ls lv _ (List.prefix_refl _) ⟨hh, hl, y_ds_mk hx2 hst, hls, hP, hK, hD, hS⟩)

set_option maxHeartbeats 4000000 in
set_option maxRecDepth 100000 in
theorem y_st_istoren {i : Fin 4} {nx r1 r2 r3 : Nat} (C : y_ctx κ sc p R s m args meth c cc own yn nL A) (hH : y_H κ hy) (hT : y_T κ tb) (hok : y_okop nL own yn cc (pc, (.istore_n i, nx, r1, r2, r3)) = true) (hs : y_step sc κ.2.2.2 hy tb pc (.istore_n i, nx, r1, r2, r3) lo st h k n = some S') (hk : S'.2.2.2.2.1 ≤ R.cells) (hn : S'.2.2.2.2.2 ≤ R.slots) (Z : y_Z κ D A s nL α tys ws H locs ls lv sv lo st h)
    (kk : ∀ α' tys' ws' H' locs' ls' lv' sv', α <+: α' → y_Z κ D A s nL α' tys' ws' H' locs' ls' lv' sv' S'.2.1 S'.2.2.1 S'.2.2.2.1 → W p l e R s m args below meth c H' locs' S'.2.2.2.2.1 S'.2.2.2.2.2 Q (F0 m S'.1 ls' sv')) : W p l e R s m args below meth c H locs k n Q (F0 m pc ls sv) := by
  obtain ⟨hx, hb, hml, hown, hts, hyn, hAO, hA, hRf, hRl, hsc⟩ := C
  obtain ⟨hh, hl, hst, hls, hP, hK, hD, hS⟩ := Z
  unfold y_okop y_okin at hok
  simp only [Bool.and_eq_true, decide_eq_true_eq] at hok
  obtain ⟨hdg, hok⟩ := hok
  unfold y_step at hs
  dsimp only at hs
  obtain ⟨rfl, hi⟩ := hok
  rw [Nat.add_sub_cancel_left] at hdg
  rcases st with _ | ⟨a | a | _ | a, r⟩
  · cases hs
  · cases hs
    obtain ⟨ys, rfl, h2⟩ := y_ds_ci hst
    exact lv_istore_n hx hb hdg rfl hls hi rfl (fun ls' hls' => kk α tys ws H locs ls' _ _ (List.prefix_refl _) ⟨hh, y_dl_set _ hl rfl, h2, hls', hP, hK, hD, hS⟩)
  · cases hs
  · cases hs
  · cases hs

set_option maxHeartbeats 4000000 in
set_option maxRecDepth 100000 in
theorem y_st_istore {i : Nat} {nx r1 r2 r3 : Nat} (C : y_ctx κ sc p R s m args meth c cc own yn nL A) (hH : y_H κ hy) (hT : y_T κ tb) (hok : y_okop nL own yn cc (pc, (.istore i, nx, r1, r2, r3)) = true) (hs : y_step sc κ.2.2.2 hy tb pc (.istore i, nx, r1, r2, r3) lo st h k n = some S') (hk : S'.2.2.2.2.1 ≤ R.cells) (hn : S'.2.2.2.2.2 ≤ R.slots) (Z : y_Z κ D A s nL α tys ws H locs ls lv sv lo st h)
    (kk : ∀ α' tys' ws' H' locs' ls' lv' sv', α <+: α' → y_Z κ D A s nL α' tys' ws' H' locs' ls' lv' sv' S'.2.1 S'.2.2.1 S'.2.2.2.1 → W p l e R s m args below meth c H' locs' S'.2.2.2.2.1 S'.2.2.2.2.2 Q (F0 m S'.1 ls' sv')) : W p l e R s m args below meth c H locs k n Q (F0 m pc ls sv) := by
  obtain ⟨hx, hb, hml, hown, hts, hyn, hAO, hA, hRf, hRl, hsc⟩ := C
  obtain ⟨hh, hl, hst, hls, hP, hK, hD, hS⟩ := Z
  unfold y_okop y_okin at hok
  simp only [Bool.and_eq_true, decide_eq_true_eq] at hok
  obtain ⟨hdg, hok⟩ := hok
  unfold y_step at hs
  dsimp only at hs
  obtain ⟨rfl, hi⟩ := hok
  rw [Nat.add_sub_cancel_left] at hdg
  rcases st with _ | ⟨a | a | _ | a, r⟩
  · cases hs
  · cases hs
    obtain ⟨ys, rfl, h2⟩ := y_ds_ci hst
    exact lv_istore hx hb hdg hls hi rfl (fun ls' hls' => kk α tys ws H locs ls' _ _ (List.prefix_refl _) ⟨hh, y_dl_set _ hl rfl, h2, hls', hP, hK, hD, hS⟩)
  · cases hs
  · cases hs
  · cases hs

set_option maxHeartbeats 4000000 in
set_option maxRecDepth 100000 in
theorem y_st_lstoren {i : Fin 4} {nx r1 r2 r3 : Nat} (C : y_ctx κ sc p R s m args meth c cc own yn nL A) (hH : y_H κ hy) (hT : y_T κ tb) (hok : y_okop nL own yn cc (pc, (.lstore_n i, nx, r1, r2, r3)) = true) (hs : y_step sc κ.2.2.2 hy tb pc (.lstore_n i, nx, r1, r2, r3) lo st h k n = some S') (hk : S'.2.2.2.2.1 ≤ R.cells) (hn : S'.2.2.2.2.2 ≤ R.slots) (Z : y_Z κ D A s nL α tys ws H locs ls lv sv lo st h)
    (kk : ∀ α' tys' ws' H' locs' ls' lv' sv', α <+: α' → y_Z κ D A s nL α' tys' ws' H' locs' ls' lv' sv' S'.2.1 S'.2.2.1 S'.2.2.2.1 → W p l e R s m args below meth c H' locs' S'.2.2.2.2.1 S'.2.2.2.2.2 Q (F0 m S'.1 ls' sv')) : W p l e R s m args below meth c H locs k n Q (F0 m pc ls sv) := by
  obtain ⟨hx, hb, hml, hown, hts, hyn, hAO, hA, hRf, hRl, hsc⟩ := C
  obtain ⟨hh, hl, hst, hls, hP, hK, hD, hS⟩ := Z
  unfold y_okop y_okin at hok
  simp only [Bool.and_eq_true, decide_eq_true_eq] at hok
  obtain ⟨hdg, hok⟩ := hok
  unfold y_step at hs
  dsimp only at hs
  obtain ⟨rfl, hi⟩ := hok
  rw [Nat.add_sub_cancel_left] at hdg
  rcases st with _ | ⟨a | a | _ | a, r⟩
  · cases hs
  · cases hs
  · cases hs
    obtain ⟨ys, rfl, h2⟩ := y_ds_cl hst
    exact lv_lstore_n hx hb hdg rfl hls hi rfl (fun ls' hls' => kk α tys ws H locs ls' _ _ (List.prefix_refl _) ⟨hh, y_dl_set2 _ hl rfl, h2, hls', hP, hK, hD, hS⟩)
  · cases hs
  · cases hs

set_option maxHeartbeats 4000000 in
set_option maxRecDepth 100000 in
theorem y_st_lstore {i : Nat} {nx r1 r2 r3 : Nat} (C : y_ctx κ sc p R s m args meth c cc own yn nL A) (hH : y_H κ hy) (hT : y_T κ tb) (hok : y_okop nL own yn cc (pc, (.lstore i, nx, r1, r2, r3)) = true) (hs : y_step sc κ.2.2.2 hy tb pc (.lstore i, nx, r1, r2, r3) lo st h k n = some S') (hk : S'.2.2.2.2.1 ≤ R.cells) (hn : S'.2.2.2.2.2 ≤ R.slots) (Z : y_Z κ D A s nL α tys ws H locs ls lv sv lo st h)
    (kk : ∀ α' tys' ws' H' locs' ls' lv' sv', α <+: α' → y_Z κ D A s nL α' tys' ws' H' locs' ls' lv' sv' S'.2.1 S'.2.2.1 S'.2.2.2.1 → W p l e R s m args below meth c H' locs' S'.2.2.2.2.1 S'.2.2.2.2.2 Q (F0 m S'.1 ls' sv')) : W p l e R s m args below meth c H locs k n Q (F0 m pc ls sv) := by
  obtain ⟨hx, hb, hml, hown, hts, hyn, hAO, hA, hRf, hRl, hsc⟩ := C
  obtain ⟨hh, hl, hst, hls, hP, hK, hD, hS⟩ := Z
  unfold y_okop y_okin at hok
  simp only [Bool.and_eq_true, decide_eq_true_eq] at hok
  obtain ⟨hdg, hok⟩ := hok
  unfold y_step at hs
  dsimp only at hs
  obtain ⟨rfl, hi⟩ := hok
  rw [Nat.add_sub_cancel_left] at hdg
  rcases st with _ | ⟨a | a | _ | a, r⟩
  · cases hs
  · cases hs
  · cases hs
    obtain ⟨ys, rfl, h2⟩ := y_ds_cl hst
    exact lv_lstore hx hb hdg hls hi rfl (fun ls' hls' => kk α tys ws H locs ls' _ _ (List.prefix_refl _) ⟨hh, y_dl_set2 _ hl rfl, h2, hls', hP, hK, hD, hS⟩)
  · cases hs
  · cases hs

set_option maxHeartbeats 4000000 in
set_option maxRecDepth 100000 in
theorem y_st_astoren {i : Fin 4} {nx r1 r2 r3 : Nat} (C : y_ctx κ sc p R s m args meth c cc own yn nL A) (hH : y_H κ hy) (hT : y_T κ tb) (hok : y_okop nL own yn cc (pc, (.astore_n i, nx, r1, r2, r3)) = true) (hs : y_step sc κ.2.2.2 hy tb pc (.astore_n i, nx, r1, r2, r3) lo st h k n = some S') (hk : S'.2.2.2.2.1 ≤ R.cells) (hn : S'.2.2.2.2.2 ≤ R.slots) (Z : y_Z κ D A s nL α tys ws H locs ls lv sv lo st h)
    (kk : ∀ α' tys' ws' H' locs' ls' lv' sv', α <+: α' → y_Z κ D A s nL α' tys' ws' H' locs' ls' lv' sv' S'.2.1 S'.2.2.1 S'.2.2.2.1 → W p l e R s m args below meth c H' locs' S'.2.2.2.2.1 S'.2.2.2.2.2 Q (F0 m S'.1 ls' sv')) : W p l e R s m args below meth c H locs k n Q (F0 m pc ls sv) := by
  obtain ⟨hx, hb, hml, hown, hts, hyn, hAO, hA, hRf, hRl, hsc⟩ := C
  obtain ⟨hh, hl, hst, hls, hP, hK, hD, hS⟩ := Z
  unfold y_okop y_okin at hok
  simp only [Bool.and_eq_true, decide_eq_true_eq] at hok
  obtain ⟨hdg, hok⟩ := hok
  unfold y_step at hs
  dsimp only at hs
  obtain ⟨rfl, hi⟩ := hok
  rw [Nat.add_sub_cancel_left] at hdg
  rcases st with _ | ⟨a | a | _ | a, r⟩
  · cases hs
  · cases hs
  · cases hs
  · cases hs
  · cases hs
    obtain ⟨b, ys, rfl, h1, h2⟩ := y_ds_cr hst
    exact lv_astore_n hx hb hdg rfl hls hi rfl (fun ls' hls' => kk α tys ws H locs ls' _ _ (List.prefix_refl _) ⟨hh, y_dl_set _ hl (Option.map_eq_some_iff.mpr ⟨b, h1, rfl⟩), h2, hls', hP, hK, hD, hS⟩)

set_option maxHeartbeats 4000000 in
set_option maxRecDepth 100000 in
theorem y_st_astore {i : Nat} {nx r1 r2 r3 : Nat} (C : y_ctx κ sc p R s m args meth c cc own yn nL A) (hH : y_H κ hy) (hT : y_T κ tb) (hok : y_okop nL own yn cc (pc, (.astore i, nx, r1, r2, r3)) = true) (hs : y_step sc κ.2.2.2 hy tb pc (.astore i, nx, r1, r2, r3) lo st h k n = some S') (hk : S'.2.2.2.2.1 ≤ R.cells) (hn : S'.2.2.2.2.2 ≤ R.slots) (Z : y_Z κ D A s nL α tys ws H locs ls lv sv lo st h)
    (kk : ∀ α' tys' ws' H' locs' ls' lv' sv', α <+: α' → y_Z κ D A s nL α' tys' ws' H' locs' ls' lv' sv' S'.2.1 S'.2.2.1 S'.2.2.2.1 → W p l e R s m args below meth c H' locs' S'.2.2.2.2.1 S'.2.2.2.2.2 Q (F0 m S'.1 ls' sv')) : W p l e R s m args below meth c H locs k n Q (F0 m pc ls sv) := by
  obtain ⟨hx, hb, hml, hown, hts, hyn, hAO, hA, hRf, hRl, hsc⟩ := C
  obtain ⟨hh, hl, hst, hls, hP, hK, hD, hS⟩ := Z
  unfold y_okop y_okin at hok
  simp only [Bool.and_eq_true, decide_eq_true_eq] at hok
  obtain ⟨hdg, hok⟩ := hok
  unfold y_step at hs
  dsimp only at hs
  obtain ⟨rfl, hi⟩ := hok
  rw [Nat.add_sub_cancel_left] at hdg
  rcases st with _ | ⟨a | a | _ | a, r⟩
  · cases hs
  · cases hs
  · cases hs
  · cases hs
  · cases hs
    obtain ⟨b, ys, rfl, h1, h2⟩ := y_ds_cr hst
    exact lv_astore hx hb hdg hls hi rfl (fun ls' hls' => kk α tys ws H locs ls' _ _ (List.prefix_refl _) ⟨hh, y_dl_set _ hl (Option.map_eq_some_iff.mpr ⟨b, h1, rfl⟩), h2, hls', hP, hK, hD, hS⟩)

set_option maxHeartbeats 4000000 in
set_option maxRecDepth 100000 in
theorem y_st_iinc {i : Nat} {d : Int} {nx r1 r2 r3 : Nat} (C : y_ctx κ sc p R s m args meth c cc own yn nL A) (hH : y_H κ hy) (hT : y_T κ tb) (hok : y_okop nL own yn cc (pc, (.iinc i d, nx, r1, r2, r3)) = true) (hs : y_step sc κ.2.2.2 hy tb pc (.iinc i d, nx, r1, r2, r3) lo st h k n = some S') (hk : S'.2.2.2.2.1 ≤ R.cells) (hn : S'.2.2.2.2.2 ≤ R.slots) (Z : y_Z κ D A s nL α tys ws H locs ls lv sv lo st h)
    (kk : ∀ α' tys' ws' H' locs' ls' lv' sv', α <+: α' → y_Z κ D A s nL α' tys' ws' H' locs' ls' lv' sv' S'.2.1 S'.2.2.1 S'.2.2.2.1 → W p l e R s m args below meth c H' locs' S'.2.2.2.2.1 S'.2.2.2.2.2 Q (F0 m S'.1 ls' sv')) : W p l e R s m args below meth c H locs k n Q (F0 m pc ls sv) := by
  obtain ⟨hx, hb, hml, hown, hts, hyn, hAO, hA, hRf, hRl, hsc⟩ := C
  obtain ⟨hh, hl, hst, hls, hP, hK, hD, hS⟩ := Z
  unfold y_okop y_okin at hok
  simp only [Bool.and_eq_true, decide_eq_true_eq] at hok
  obtain ⟨hdg, hok⟩ := hok
  unfold y_step at hs
  dsimp only at hs
  obtain ⟨rfl, hi, hv⟩ := hok
  rw [Nat.add_sub_cancel_left] at hdg
  cases hg : y_lget lo i with
  | none => rw [hg] at hs; cases hs
  | some v =>
    rw [hg] at hs
    obtain ⟨x, hx1, hx2⟩ := y_dl_get hl hg
    rcases v with (a | a) | a | _ | a
    · cases hs
      cases hx2
      obtain ⟨j, hj⟩ := List.getElem?_of_mem hx1
      refine lv_iinc (v := nI ((a + r1) % 4294967296)) hx hb hdg hls hj ?_ hi rfl (fun ls' hls' => kk α tys ws H locs ls' _ _ (List.prefix_refl _) ⟨hh, y_dl_set _ hl rfl, hst, hls', hP, hK, hD, hS⟩)
      rw [hv, y_nmod]
      exact nI_add a r1
    · cases hs
    · cases hs
    · cases hs
    · cases hs

set_option maxHeartbeats 4000000 in
set_option maxRecDepth 100000 in
theorem y_st_iadd {nx r1 r2 r3 : Nat} (C : y_ctx κ sc p R s m args meth c cc own yn nL A) (hH : y_H κ hy) (hT : y_T κ tb) (hok : y_okop nL own yn cc (pc, (.iadd, nx, r1, r2, r3)) = true) (hs : y_step sc κ.2.2.2 hy tb pc (.iadd, nx, r1, r2, r3) lo st h k n = some S') (hk : S'.2.2.2.2.1 ≤ R.cells) (hn : S'.2.2.2.2.2 ≤ R.slots) (Z : y_Z κ D A s nL α tys ws H locs ls lv sv lo st h)
    (kk : ∀ α' tys' ws' H' locs' ls' lv' sv', α <+: α' → y_Z κ D A s nL α' tys' ws' H' locs' ls' lv' sv' S'.2.1 S'.2.2.1 S'.2.2.2.1 → W p l e R s m args below meth c H' locs' S'.2.2.2.2.1 S'.2.2.2.2.2 Q (F0 m S'.1 ls' sv')) : W p l e R s m args below meth c H locs k n Q (F0 m pc ls sv) := by
  obtain ⟨hx, hb, hml, hown, hts, hyn, hAO, hA, hRf, hRl, hsc⟩ := C
  obtain ⟨hh, hl, hst, hls, hP, hK, hD, hS⟩ := Z
  unfold y_okop y_okin at hok
  simp only [Bool.and_eq_true, decide_eq_true_eq] at hok
  obtain ⟨hdg, hok⟩ := hok
  unfold y_step at hs
  dsimp only at hs
  obtain rfl := hok
  rw [Nat.add_sub_cancel_left] at hdg
  obtain ⟨st', hb2, rfl⟩ := Option.map_eq_some_iff.mp hs
  obtain ⟨x, y, xs, rfl, h9⟩ := y_bin_ok (κ := κ) (op := 99) (fun x y => x + y) (fun x y z hz => by cases hz; rw [y_nmod]; exact nI_add x y) (fun a b v hv => y_no hT hv) hb2 hst
  exact lv_iadd hx hb hdg (kk α tys ws H locs ls lv _ (List.prefix_refl _) ⟨hh, hl, h9, hls, hP, hK, hD, hS⟩)

set_option maxHeartbeats 4000000 in
set_option maxRecDepth 100000 in
theorem y_st_isub {nx r1 r2 r3 : Nat} (C : y_ctx κ sc p R s m args meth c cc own yn nL A) (hH : y_H κ hy) (hT : y_T κ tb) (hok : y_okop nL own yn cc (pc, (.isub, nx, r1, r2, r3)) = true) (hs : y_step sc κ.2.2.2 hy tb pc (.isub, nx, r1, r2, r3) lo st h k n = some S') (hk : S'.2.2.2.2.1 ≤ R.cells) (hn : S'.2.2.2.2.2 ≤ R.slots) (Z : y_Z κ D A s nL α tys ws H locs ls lv sv lo st h)
    (kk : ∀ α' tys' ws' H' locs' ls' lv' sv', α <+: α' → y_Z κ D A s nL α' tys' ws' H' locs' ls' lv' sv' S'.2.1 S'.2.2.1 S'.2.2.2.1 → W p l e R s m args below meth c H' locs' S'.2.2.2.2.1 S'.2.2.2.2.2 Q (F0 m S'.1 ls' sv')) : W p l e R s m args below meth c H locs k n Q (F0 m pc ls sv) := by
  obtain ⟨hx, hb, hml, hown, hts, hyn, hAO, hA, hRf, hRl, hsc⟩ := C
  obtain ⟨hh, hl, hst, hls, hP, hK, hD, hS⟩ := Z
  unfold y_okop y_okin at hok
  simp only [Bool.and_eq_true, decide_eq_true_eq] at hok
  obtain ⟨hdg, hok⟩ := hok
  unfold y_step at hs
  dsimp only at hs
  obtain rfl := hok
  rw [Nat.add_sub_cancel_left] at hdg
  obtain ⟨st', hb2, rfl⟩ := Option.map_eq_some_iff.mp hs
  obtain ⟨x, y, xs, rfl, h9⟩ := y_bin_ok (κ := κ) (op := 99) (fun x y => x - y) (fun x y z hz => by cases hz; exact y_sub_ok x y) (fun a b v hv => y_no hT hv) hb2 hst
  exact lv_isub hx hb hdg (kk α tys ws H locs ls lv _ (List.prefix_refl _) ⟨hh, hl, h9, hls, hP, hK, hD, hS⟩)

set_option maxHeartbeats 4000000 in
set_option maxRecDepth 100000 in
theorem y_st_imul {nx r1 r2 r3 : Nat} (C : y_ctx κ sc p R s m args meth c cc own yn nL A) (hH : y_H κ hy) (hT : y_T κ tb) (hok : y_okop nL own yn cc (pc, (.imul, nx, r1, r2, r3)) = true) (hs : y_step sc κ.2.2.2 hy tb pc (.imul, nx, r1, r2, r3) lo st h k n = some S') (hk : S'.2.2.2.2.1 ≤ R.cells) (hn : S'.2.2.2.2.2 ≤ R.slots) (Z : y_Z κ D A s nL α tys ws H locs ls lv sv lo st h)
    (kk : ∀ α' tys' ws' H' locs' ls' lv' sv', α <+: α' → y_Z κ D A s nL α' tys' ws' H' locs' ls' lv' sv' S'.2.1 S'.2.2.1 S'.2.2.2.1 → W p l e R s m args below meth c H' locs' S'.2.2.2.2.1 S'.2.2.2.2.2 Q (F0 m S'.1 ls' sv')) : W p l e R s m args below meth c H locs k n Q (F0 m pc ls sv) := by
  obtain ⟨hx, hb, hml, hown, hts, hyn, hAO, hA, hRf, hRl, hsc⟩ := C
  obtain ⟨hh, hl, hst, hls, hP, hK, hD, hS⟩ := Z
  unfold y_okop y_okin at hok
  simp only [Bool.and_eq_true, decide_eq_true_eq] at hok
  obtain ⟨hdg, hok⟩ := hok
  unfold y_step at hs
  dsimp only at hs
  obtain rfl := hok
  rw [Nat.add_sub_cancel_left] at hdg
  obtain ⟨st', hb2, rfl⟩ := Option.map_eq_some_iff.mp hs
  obtain ⟨x, y, xs, rfl, h9⟩ := y_bin_ok (κ := κ) (op := 99) (fun x y => x * y) (fun x y z hz => by cases hz; rw [y_nmod]; exact pk_mul x y) (fun a b v hv => y_no hT hv) hb2 hst
  exact lv_imul hx hb hdg (kk α tys ws H locs ls lv _ (List.prefix_refl _) ⟨hh, hl, h9, hls, hP, hK, hD, hS⟩)

set_option maxHeartbeats 4000000 in
set_option maxRecDepth 100000 in
theorem y_st_iand {nx r1 r2 r3 : Nat} (C : y_ctx κ sc p R s m args meth c cc own yn nL A) (hH : y_H κ hy) (hT : y_T κ tb) (hok : y_okop nL own yn cc (pc, (.iand, nx, r1, r2, r3)) = true) (hs : y_step sc κ.2.2.2 hy tb pc (.iand, nx, r1, r2, r3) lo st h k n = some S') (hk : S'.2.2.2.2.1 ≤ R.cells) (hn : S'.2.2.2.2.2 ≤ R.slots) (Z : y_Z κ D A s nL α tys ws H locs ls lv sv lo st h)
    (kk : ∀ α' tys' ws' H' locs' ls' lv' sv', α <+: α' → y_Z κ D A s nL α' tys' ws' H' locs' ls' lv' sv' S'.2.1 S'.2.2.1 S'.2.2.2.1 → W p l e R s m args below meth c H' locs' S'.2.2.2.2.1 S'.2.2.2.2.2 Q (F0 m S'.1 ls' sv')) : W p l e R s m args below meth c H locs k n Q (F0 m pc ls sv) := by
  obtain ⟨hx, hb, hml, hown, hts, hyn, hAO, hA, hRf, hRl, hsc⟩ := C
  obtain ⟨hh, hl, hst, hls, hP, hK, hD, hS⟩ := Z
  unfold y_okop y_okin at hok
  simp only [Bool.and_eq_true, decide_eq_true_eq] at hok
  obtain ⟨hdg, hok⟩ := hok
  unfold y_step at hs
  dsimp only at hs
  obtain rfl := hok
  rw [Nat.add_sub_cancel_left] at hdg
  obtain ⟨st', hb2, rfl⟩ := Option.map_eq_some_iff.mp hs
  obtain ⟨x, y, xs, rfl, h9⟩ := y_bin_ok (κ := κ) (op := 0) (fun x y => x &&& y) (fun x y z hz => by cases hz; exact y_and_ok x y) (fun a b v hv => y_lookT_ok hT hv) hb2 hst
  exact lv_iand hx hb hdg (kk α tys ws H locs ls lv _ (List.prefix_refl _) ⟨hh, hl, h9, hls, hP, hK, hD, hS⟩)

set_option maxHeartbeats 4000000 in
set_option maxRecDepth 100000 in
theorem y_st_ior {nx r1 r2 r3 : Nat} (C : y_ctx κ sc p R s m args meth c cc own yn nL A) (hH : y_H κ hy) (hT : y_T κ tb) (hok : y_okop nL own yn cc (pc, (.ior, nx, r1, r2, r3)) = true) (hs : y_step sc κ.2.2.2 hy tb pc (.ior, nx, r1, r2, r3) lo st h k n = some S') (hk : S'.2.2.2.2.1 ≤ R.cells) (hn : S'.2.2.2.2.2 ≤ R.slots) (Z : y_Z κ D A s nL α tys ws H locs ls lv sv lo st h)
    (kk : ∀ α' tys' ws' H' locs' ls' lv' sv', α <+: α' → y_Z κ D A s nL α' tys' ws' H' locs' ls' lv' sv' S'.2.1 S'.2.2.1 S'.2.2.2.1 → W p l e R s m args below meth c H' locs' S'.2.2.2.2.1 S'.2.2.2.2.2 Q (F0 m S'.1 ls' sv')) : W p l e R s m args below meth c H locs k n Q (F0 m pc ls sv) := by
  obtain ⟨hx, hb, hml, hown, hts, hyn, hAO, hA, hRf, hRl, hsc⟩ := C
  obtain ⟨hh, hl, hst, hls, hP, hK, hD, hS⟩ := Z
  unfold y_okop y_okin at hok
  simp only [Bool.and_eq_true, decide_eq_true_eq] at hok
  obtain ⟨hdg, hok⟩ := hok
  unfold y_step at hs
  dsimp only at hs
  obtain rfl := hok
  rw [Nat.add_sub_cancel_left] at hdg
  obtain ⟨st', hb2, rfl⟩ := Option.map_eq_some_iff.mp hs
  obtain ⟨x, y, xs, rfl, h9⟩ := y_bin_ok (κ := κ) (op := 99) (fun x y => x ||| y) (fun x y z hz => by cases hz; exact y_or_ok x y) (fun a b v hv => y_no hT hv) hb2 hst
  exact lv_ior hx hb hdg (kk α tys ws H locs ls lv _ (List.prefix_refl _) ⟨hh, hl, h9, hls, hP, hK, hD, hS⟩)

set_option maxHeartbeats 4000000 in
set_option maxRecDepth 100000 in
theorem y_st_ishl {nx r1 r2 r3 : Nat} (C : y_ctx κ sc p R s m args meth c cc own yn nL A) (hH : y_H κ hy) (hT : y_T κ tb) (hok : y_okop nL own yn cc (pc, (.ishl, nx, r1, r2, r3)) = true) (hs : y_step sc κ.2.2.2 hy tb pc (.ishl, nx, r1, r2, r3) lo st h k n = some S') (hk : S'.2.2.2.2.1 ≤ R.cells) (hn : S'.2.2.2.2.2 ≤ R.slots) (Z : y_Z κ D A s nL α tys ws H locs ls lv sv lo st h)
    (kk : ∀ α' tys' ws' H' locs' ls' lv' sv', α <+: α' → y_Z κ D A s nL α' tys' ws' H' locs' ls' lv' sv' S'.2.1 S'.2.2.1 S'.2.2.2.1 → W p l e R s m args below meth c H' locs' S'.2.2.2.2.1 S'.2.2.2.2.2 Q (F0 m S'.1 ls' sv')) : W p l e R s m args below meth c H locs k n Q (F0 m pc ls sv) := by
  obtain ⟨hx, hb, hml, hown, hts, hyn, hAO, hA, hRf, hRl, hsc⟩ := C
  obtain ⟨hh, hl, hst, hls, hP, hK, hD, hS⟩ := Z
  unfold y_okop y_okin at hok
  simp only [Bool.and_eq_true, decide_eq_true_eq] at hok
  obtain ⟨hdg, hok⟩ := hok
  unfold y_step at hs
  dsimp only at hs
  obtain rfl := hok
  rw [Nat.add_sub_cancel_left] at hdg
  obtain ⟨st', hb2, rfl⟩ := Option.map_eq_some_iff.mp hs
  obtain ⟨x, y, xs, rfl, h9⟩ := y_bin_ok (κ := κ) (op := 99) (fun x y => x <<< (y &&& 31)) (fun x y z hz => by
    unfold y_shl at hz
    cases hc : Nat.blt y 32 with
    | true => rw [hc] at hz; cases hz; exact y_shl_ok (y_blt.mp hc)
    | false => rw [hc] at hz; cases hz) (fun a b v hv => y_no hT hv) hb2 hst
  exact lv_ishl hx hb hdg (kk α tys ws H locs ls lv _ (List.prefix_refl _) ⟨hh, hl, h9, hls, hP, hK, hD, hS⟩)

set_option maxHeartbeats 4000000 in
set_option maxRecDepth 100000 in
theorem y_st_ishr {nx r1 r2 r3 : Nat} (C : y_ctx κ sc p R s m args meth c cc own yn nL A) (hH : y_H κ hy) (hT : y_T κ tb) (hok : y_okop nL own yn cc (pc, (.ishr, nx, r1, r2, r3)) = true) (hs : y_step sc κ.2.2.2 hy tb pc (.ishr, nx, r1, r2, r3) lo st h k n = some S') (hk : S'.2.2.2.2.1 ≤ R.cells) (hn : S'.2.2.2.2.2 ≤ R.slots) (Z : y_Z κ D A s nL α tys ws H locs ls lv sv lo st h)
    (kk : ∀ α' tys' ws' H' locs' ls' lv' sv', α <+: α' → y_Z κ D A s nL α' tys' ws' H' locs' ls' lv' sv' S'.2.1 S'.2.2.1 S'.2.2.2.1 → W p l e R s m args below meth c H' locs' S'.2.2.2.2.1 S'.2.2.2.2.2 Q (F0 m S'.1 ls' sv')) : W p l e R s m args below meth c H locs k n Q (F0 m pc ls sv) := by
  obtain ⟨hx, hb, hml, hown, hts, hyn, hAO, hA, hRf, hRl, hsc⟩ := C
  obtain ⟨hh, hl, hst, hls, hP, hK, hD, hS⟩ := Z
  unfold y_okop y_okin at hok
  simp only [Bool.and_eq_true, decide_eq_true_eq] at hok
  obtain ⟨hdg, hok⟩ := hok
  unfold y_step at hs
  dsimp only at hs
  obtain rfl := hok
  rw [Nat.add_sub_cancel_left] at hdg
  obtain ⟨st', hb2, rfl⟩ := Option.map_eq_some_iff.mp hs
  obtain ⟨x, y, xs, rfl, h9⟩ := y_bin_ok (κ := κ) (op := 1) (fun x y => x >>> (y &&& 31)) (fun x y z hz => by
    unfold y_shr at hz
    cases hc : (Nat.blt y 32 && Nat.blt x 2147483648) with
    | true =>
      rw [hc] at hz; cases hz
      simp only [Bool.and_eq_true] at hc
      exact pk_shrN (y_blt.mp hc.2) (nI y &&& 31) y (y_sm y (y_blt.mp hc.1))
    | false => rw [hc] at hz; cases hz) (fun a b v hv => y_lookT_ok hT hv) hb2 hst
  exact lv_ishr hx hb hdg (kk α tys ws H locs ls lv _ (List.prefix_refl _) ⟨hh, hl, h9, hls, hP, hK, hD, hS⟩)

set_option maxHeartbeats 4000000 in
set_option maxRecDepth 100000 in
theorem y_st_iushr {nx r1 r2 r3 : Nat} (C : y_ctx κ sc p R s m args meth c cc own yn nL A) (hH : y_H κ hy) (hT : y_T κ tb) (hok : y_okop nL own yn cc (pc, (.iushr, nx, r1, r2, r3)) = true) (hs : y_step sc κ.2.2.2 hy tb pc (.iushr, nx, r1, r2, r3) lo st h k n = some S') (hk : S'.2.2.2.2.1 ≤ R.cells) (hn : S'.2.2.2.2.2 ≤ R.slots) (Z : y_Z κ D A s nL α tys ws H locs ls lv sv lo st h)
    (kk : ∀ α' tys' ws' H' locs' ls' lv' sv', α <+: α' → y_Z κ D A s nL α' tys' ws' H' locs' ls' lv' sv' S'.2.1 S'.2.2.1 S'.2.2.2.1 → W p l e R s m args below meth c H' locs' S'.2.2.2.2.1 S'.2.2.2.2.2 Q (F0 m S'.1 ls' sv')) : W p l e R s m args below meth c H locs k n Q (F0 m pc ls sv) := by
  obtain ⟨hx, hb, hml, hown, hts, hyn, hAO, hA, hRf, hRl, hsc⟩ := C
  obtain ⟨hh, hl, hst, hls, hP, hK, hD, hS⟩ := Z
  unfold y_okop y_okin at hok
  simp only [Bool.and_eq_true, decide_eq_true_eq] at hok
  obtain ⟨hdg, hok⟩ := hok
  unfold y_step at hs
  dsimp only at hs
  obtain rfl := hok
  rw [Nat.add_sub_cancel_left] at hdg
  obtain ⟨st', hb2, rfl⟩ := Option.map_eq_some_iff.mp hs
  obtain ⟨x, y, xs, rfl, h9⟩ := y_bin_ok (κ := κ) (op := 99) (fun x y => (x.toUInt32 >>> (y.toUInt32 &&& Int32.toUInt32 31)).toInt32) (fun x y z hz => by
    unfold y_ushr at hz
    cases hc : (Nat.blt y 32 && Nat.blt x 4294967296) with
    | true =>
      rw [hc] at hz; cases hz
      simp only [Bool.and_eq_true] at hc
      exact pk_ushrN (y_blt.mp hc.2) (nI y) y (y_um y (y_blt.mp hc.1))
    | false => rw [hc] at hz; cases hz) (fun a b v hv => y_no hT hv) hb2 hst
  exact (fun k9 => lv_iushr hx hb hdg rfl k9) (kk α tys ws H locs ls lv _ (List.prefix_refl _) ⟨hh, hl, h9, hls, hP, hK, hD, hS⟩)

set_option maxHeartbeats 4000000 in
set_option maxRecDepth 100000 in
theorem y_st_irem {nx r1 r2 r3 : Nat} (C : y_ctx κ sc p R s m args meth c cc own yn nL A) (hH : y_H κ hy) (hT : y_T κ tb) (hok : y_okop nL own yn cc (pc, (.irem, nx, r1, r2, r3)) = true) (hs : y_step sc κ.2.2.2 hy tb pc (.irem, nx, r1, r2, r3) lo st h k n = some S') (hk : S'.2.2.2.2.1 ≤ R.cells) (hn : S'.2.2.2.2.2 ≤ R.slots) (Z : y_Z κ D A s nL α tys ws H locs ls lv sv lo st h)
    (kk : ∀ α' tys' ws' H' locs' ls' lv' sv', α <+: α' → y_Z κ D A s nL α' tys' ws' H' locs' ls' lv' sv' S'.2.1 S'.2.2.1 S'.2.2.2.1 → W p l e R s m args below meth c H' locs' S'.2.2.2.2.1 S'.2.2.2.2.2 Q (F0 m S'.1 ls' sv')) : W p l e R s m args below meth c H locs k n Q (F0 m pc ls sv) := by
  obtain ⟨hx, hb, hml, hown, hts, hyn, hAO, hA, hRf, hRl, hsc⟩ := C
  obtain ⟨hh, hl, hst, hls, hP, hK, hD, hS⟩ := Z
  unfold y_okop y_okin at hok
  simp only [Bool.and_eq_true, decide_eq_true_eq] at hok
  obtain ⟨hdg, hok⟩ := hok
  unfold y_step at hs
  dsimp only at hs
  obtain rfl := hok
  rw [Nat.add_sub_cancel_left] at hdg
  obtain ⟨st', hb2, rfl⟩ := Option.map_eq_some_iff.mp hs
  rcases st with _ | ⟨(b | b) | b, _ | ⟨(a | a) | a, r⟩⟩
  · cases hb2
  · cases hb2
  · obtain ⟨z, hz, rfl⟩ := Option.map_eq_some_iff.mp hb2
    obtain ⟨ys, rfl, h1⟩ := y_ds_ci hst
    obtain ⟨xs, rfl, h2⟩ := y_ds_ci h1
    unfold y_rem at hz
    cases hc : (Nat.blt 0 b && (Nat.blt b 2147483648 && Nat.blt a 2147483648)) with
    | true =>
      rw [hc] at hz; cases hz
      simp only [Bool.and_eq_true] at hc
      have h3 := y_blt.mp hc.1
      have h4 := y_blt.mp hc.2.1
      have h5 := y_blt.mp hc.2.2
      refine lv_irem hx hb hdg (y_nz h3 h4) (kk α tys ws H locs ls lv _ (List.prefix_refl _) ⟨hh, hl, y_ds_i ?_ h2, hls, hP, hK, hD, hS⟩)
      exact (pk_rem h5 h3 h4).symm
    | false => rw [hc] at hz; cases hz
  · obtain ⟨z, hz, rfl⟩ := Option.map_eq_some_iff.mp hb2
    exact y_no hT hz
  · cases hb2
  · cases hb2
  · obtain ⟨z, hz, rfl⟩ := Option.map_eq_some_iff.mp hb2
    exact y_no hT hz
  · obtain ⟨z, hz, rfl⟩ := Option.map_eq_some_iff.mp hb2
    exact y_no hT hz
  · cases hb2
  · cases hb2
  · cases hb2
  · cases hb2
  · cases hb2

set_option maxHeartbeats 4000000 in
set_option maxRecDepth 100000 in
theorem y_st_i2c {nx r1 r2 r3 : Nat} (C : y_ctx κ sc p R s m args meth c cc own yn nL A) (hH : y_H κ hy) (hT : y_T κ tb) (hok : y_okop nL own yn cc (pc, (.i2c, nx, r1, r2, r3)) = true) (hs : y_step sc κ.2.2.2 hy tb pc (.i2c, nx, r1, r2, r3) lo st h k n = some S') (hk : S'.2.2.2.2.1 ≤ R.cells) (hn : S'.2.2.2.2.2 ≤ R.slots) (Z : y_Z κ D A s nL α tys ws H locs ls lv sv lo st h)
    (kk : ∀ α' tys' ws' H' locs' ls' lv' sv', α <+: α' → y_Z κ D A s nL α' tys' ws' H' locs' ls' lv' sv' S'.2.1 S'.2.2.1 S'.2.2.2.1 → W p l e R s m args below meth c H' locs' S'.2.2.2.2.1 S'.2.2.2.2.2 Q (F0 m S'.1 ls' sv')) : W p l e R s m args below meth c H locs k n Q (F0 m pc ls sv) := by
  obtain ⟨hx, hb, hml, hown, hts, hyn, hAO, hA, hRf, hRl, hsc⟩ := C
  obtain ⟨hh, hl, hst, hls, hP, hK, hD, hS⟩ := Z
  unfold y_okop y_okin at hok
  simp only [Bool.and_eq_true, decide_eq_true_eq] at hok
  obtain ⟨hdg, hok⟩ := hok
  unfold y_step at hs
  dsimp only at hs
  obtain rfl := hok
  rw [Nat.add_sub_cancel_left] at hdg
  rcases st with _ | ⟨a | a | a, r⟩
  · cases hs
  · skip
    obtain ⟨z, hz, h9⟩ := Option.map_eq_some_iff.mp hs
    obtain ⟨v, hv, rfl⟩ := Option.map_eq_some_iff.mp hz
    cases h9
    obtain ⟨ys, rfl, h2⟩ := y_ds_ci hst
    exact lv_i2c hx hb hdg (y_lookT_ok hT hv) (kk α tys ws H locs ls lv _ (List.prefix_refl _) ⟨hh, hl, y_ds_i rfl h2, hls, hP, hK, hD, hS⟩)
  · cases hs
  · cases hs

set_option maxHeartbeats 4000000 in
set_option maxRecDepth 100000 in
theorem y_st_l2i {nx r1 r2 r3 : Nat} (C : y_ctx κ sc p R s m args meth c cc own yn nL A) (hH : y_H κ hy) (hT : y_T κ tb) (hok : y_okop nL own yn cc (pc, (.l2i, nx, r1, r2, r3)) = true) (hs : y_step sc κ.2.2.2 hy tb pc (.l2i, nx, r1, r2, r3) lo st h k n = some S') (hk : S'.2.2.2.2.1 ≤ R.cells) (hn : S'.2.2.2.2.2 ≤ R.slots) (Z : y_Z κ D A s nL α tys ws H locs ls lv sv lo st h)
    (kk : ∀ α' tys' ws' H' locs' ls' lv' sv', α <+: α' → y_Z κ D A s nL α' tys' ws' H' locs' ls' lv' sv' S'.2.1 S'.2.2.1 S'.2.2.2.1 → W p l e R s m args below meth c H' locs' S'.2.2.2.2.1 S'.2.2.2.2.2 Q (F0 m S'.1 ls' sv')) : W p l e R s m args below meth c H locs k n Q (F0 m pc ls sv) := by
  obtain ⟨hx, hb, hml, hown, hts, hyn, hAO, hA, hRf, hRl, hsc⟩ := C
  obtain ⟨hh, hl, hst, hls, hP, hK, hD, hS⟩ := Z
  unfold y_okop y_okin at hok
  simp only [Bool.and_eq_true, decide_eq_true_eq] at hok
  obtain ⟨hdg, hok⟩ := hok
  unfold y_step at hs
  dsimp only at hs
  obtain rfl := hok
  rw [Nat.add_sub_cancel_left] at hdg
  rcases st with _ | ⟨a | a | a, r⟩
  · cases hs
  · cases hs
  · skip
    obtain ⟨z, hz, h9⟩ := Option.map_eq_some_iff.mp hs
    obtain ⟨v, hv, rfl⟩ := Option.map_eq_some_iff.mp hz
    cases h9
    obtain ⟨ys, rfl, h2⟩ := y_ds_cl hst
    exact lv_l2i hx hb hdg (y_lookT_ok hT hv) (kk α tys ws H locs ls lv _ (List.prefix_refl _) ⟨hh, hl, y_ds_i rfl h2, hls, hP, hK, hD, hS⟩)
  · cases hs

set_option maxHeartbeats 4000000 in
set_option maxRecDepth 100000 in
theorem y_st_i2l {nx r1 r2 r3 : Nat} (C : y_ctx κ sc p R s m args meth c cc own yn nL A) (hH : y_H κ hy) (hT : y_T κ tb) (hok : y_okop nL own yn cc (pc, (.i2l, nx, r1, r2, r3)) = true) (hs : y_step sc κ.2.2.2 hy tb pc (.i2l, nx, r1, r2, r3) lo st h k n = some S') (hk : S'.2.2.2.2.1 ≤ R.cells) (hn : S'.2.2.2.2.2 ≤ R.slots) (Z : y_Z κ D A s nL α tys ws H locs ls lv sv lo st h)
    (kk : ∀ α' tys' ws' H' locs' ls' lv' sv', α <+: α' → y_Z κ D A s nL α' tys' ws' H' locs' ls' lv' sv' S'.2.1 S'.2.2.1 S'.2.2.2.1 → W p l e R s m args below meth c H' locs' S'.2.2.2.2.1 S'.2.2.2.2.2 Q (F0 m S'.1 ls' sv')) : W p l e R s m args below meth c H locs k n Q (F0 m pc ls sv) := by
  obtain ⟨hx, hb, hml, hown, hts, hyn, hAO, hA, hRf, hRl, hsc⟩ := C
  obtain ⟨hh, hl, hst, hls, hP, hK, hD, hS⟩ := Z
  unfold y_okop y_okin at hok
  simp only [Bool.and_eq_true, decide_eq_true_eq] at hok
  obtain ⟨hdg, hok⟩ := hok
  unfold y_step at hs
  dsimp only at hs
  obtain rfl := hok
  rw [Nat.add_sub_cancel_left] at hdg
  rcases st with _ | ⟨a | a | a, r⟩
  · cases hs
  · skip
    obtain ⟨z, hz, h9⟩ := Option.map_eq_some_iff.mp hs
    obtain ⟨v, hv, rfl⟩ := Option.map_eq_some_iff.mp hz
    cases h9
    obtain ⟨ys, rfl, h2⟩ := y_ds_ci hst
    exact lv_i2l hx hb hdg (y_lookT_ok hT hv) (kk α tys ws H locs ls lv _ (List.prefix_refl _) ⟨hh, hl, y_ds_l rfl h2, hls, hP, hK, hD, hS⟩)
  · cases hs
  · cases hs

set_option maxHeartbeats 4000000 in
set_option maxRecDepth 100000 in
theorem y_st_land {nx r1 r2 r3 : Nat} (C : y_ctx κ sc p R s m args meth c cc own yn nL A) (hH : y_H κ hy) (hT : y_T κ tb) (hok : y_okop nL own yn cc (pc, (.land, nx, r1, r2, r3)) = true) (hs : y_step sc κ.2.2.2 hy tb pc (.land, nx, r1, r2, r3) lo st h k n = some S') (hk : S'.2.2.2.2.1 ≤ R.cells) (hn : S'.2.2.2.2.2 ≤ R.slots) (Z : y_Z κ D A s nL α tys ws H locs ls lv sv lo st h)
    (kk : ∀ α' tys' ws' H' locs' ls' lv' sv', α <+: α' → y_Z κ D A s nL α' tys' ws' H' locs' ls' lv' sv' S'.2.1 S'.2.2.1 S'.2.2.2.1 → W p l e R s m args below meth c H' locs' S'.2.2.2.2.1 S'.2.2.2.2.2 Q (F0 m S'.1 ls' sv')) : W p l e R s m args below meth c H locs k n Q (F0 m pc ls sv) := by
  obtain ⟨hx, hb, hml, hown, hts, hyn, hAO, hA, hRf, hRl, hsc⟩ := C
  obtain ⟨hh, hl, hst, hls, hP, hK, hD, hS⟩ := Z
  unfold y_okop y_okin at hok
  simp only [Bool.and_eq_true, decide_eq_true_eq] at hok
  obtain ⟨hdg, hok⟩ := hok
  unfold y_step at hs
  dsimp only at hs
  obtain rfl := hok
  rw [Nat.add_sub_cancel_left] at hdg
  obtain ⟨st', hb2, rfl⟩ := Option.map_eq_some_iff.mp hs
  rcases st with _ | ⟨b | b | b, _ | ⟨a | a | a, r⟩⟩ <;> try (cases hb2; done)
  · obtain ⟨v, hv, rfl⟩ := Option.map_eq_some_iff.mp hb2
    obtain ⟨ys, rfl, h1⟩ := y_ds_cl hst
    obtain ⟨zs, rfl, h2⟩ := y_ds_cl h1
    exact lv_land hx hb hdg (kk α tys ws H locs ls lv _ (List.prefix_refl _) ⟨hh, hl, y_ds_l (y_lookT_ok hT hv).symm h2, hls, hP, hK, hD, hS⟩)

set_option maxHeartbeats 4000000 in
set_option maxRecDepth 100000 in
theorem y_st_lor {nx r1 r2 r3 : Nat} (C : y_ctx κ sc p R s m args meth c cc own yn nL A) (hH : y_H κ hy) (hT : y_T κ tb) (hok : y_okop nL own yn cc (pc, (.lor, nx, r1, r2, r3)) = true) (hs : y_step sc κ.2.2.2 hy tb pc (.lor, nx, r1, r2, r3) lo st h k n = some S') (hk : S'.2.2.2.2.1 ≤ R.cells) (hn : S'.2.2.2.2.2 ≤ R.slots) (Z : y_Z κ D A s nL α tys ws H locs ls lv sv lo st h)
    (kk : ∀ α' tys' ws' H' locs' ls' lv' sv', α <+: α' → y_Z κ D A s nL α' tys' ws' H' locs' ls' lv' sv' S'.2.1 S'.2.2.1 S'.2.2.2.1 → W p l e R s m args below meth c H' locs' S'.2.2.2.2.1 S'.2.2.2.2.2 Q (F0 m S'.1 ls' sv')) : W p l e R s m args below meth c H locs k n Q (F0 m pc ls sv) := by
  obtain ⟨hx, hb, hml, hown, hts, hyn, hAO, hA, hRf, hRl, hsc⟩ := C
  obtain ⟨hh, hl, hst, hls, hP, hK, hD, hS⟩ := Z
  unfold y_okop y_okin at hok
  simp only [Bool.and_eq_true, decide_eq_true_eq] at hok
  obtain ⟨hdg, hok⟩ := hok
  unfold y_step at hs
  dsimp only at hs
  obtain rfl := hok
  rw [Nat.add_sub_cancel_left] at hdg
  obtain ⟨st', hb2, rfl⟩ := Option.map_eq_some_iff.mp hs
  rcases st with _ | ⟨b | b | b, _ | ⟨a | a | a, r⟩⟩ <;> try (cases hb2; done)
  · obtain ⟨v, hv, rfl⟩ := Option.map_eq_some_iff.mp hb2
    obtain ⟨ys, rfl, h1⟩ := y_ds_cl hst
    obtain ⟨zs, rfl, h2⟩ := y_ds_cl h1
    exact lv_lor hx hb hdg (kk α tys ws H locs ls lv _ (List.prefix_refl _) ⟨hh, hl, y_ds_l (y_lookT_ok hT hv).symm h2, hls, hP, hK, hD, hS⟩)

set_option maxHeartbeats 4000000 in
set_option maxRecDepth 100000 in
theorem y_st_lcmp {nx r1 r2 r3 : Nat} (C : y_ctx κ sc p R s m args meth c cc own yn nL A) (hH : y_H κ hy) (hT : y_T κ tb) (hok : y_okop nL own yn cc (pc, (.lcmp, nx, r1, r2, r3)) = true) (hs : y_step sc κ.2.2.2 hy tb pc (.lcmp, nx, r1, r2, r3) lo st h k n = some S') (hk : S'.2.2.2.2.1 ≤ R.cells) (hn : S'.2.2.2.2.2 ≤ R.slots) (Z : y_Z κ D A s nL α tys ws H locs ls lv sv lo st h)
    (kk : ∀ α' tys' ws' H' locs' ls' lv' sv', α <+: α' → y_Z κ D A s nL α' tys' ws' H' locs' ls' lv' sv' S'.2.1 S'.2.2.1 S'.2.2.2.1 → W p l e R s m args below meth c H' locs' S'.2.2.2.2.1 S'.2.2.2.2.2 Q (F0 m S'.1 ls' sv')) : W p l e R s m args below meth c H locs k n Q (F0 m pc ls sv) := by
  obtain ⟨hx, hb, hml, hown, hts, hyn, hAO, hA, hRf, hRl, hsc⟩ := C
  obtain ⟨hh, hl, hst, hls, hP, hK, hD, hS⟩ := Z
  unfold y_okop y_okin at hok
  simp only [Bool.and_eq_true, decide_eq_true_eq] at hok
  obtain ⟨hdg, hok⟩ := hok
  unfold y_step at hs
  dsimp only at hs
  obtain rfl := hok
  rw [Nat.add_sub_cancel_left] at hdg
  obtain ⟨st', hb2, rfl⟩ := Option.map_eq_some_iff.mp hs
  rcases st with _ | ⟨b | b | b, _ | ⟨a | a | a, r⟩⟩ <;> try (cases hb2; done)
  · obtain ⟨v, hv, rfl⟩ := Option.map_eq_some_iff.mp hb2
    obtain ⟨ys, rfl, h1⟩ := y_ds_cl hst
    obtain ⟨zs, rfl, h2⟩ := y_ds_cl h1
    exact W.lcmp hx hb hdg (kk α tys ws H locs ls lv _ (List.prefix_refl _) ⟨hh, hl, y_ds_i (y_lookT_ok hT hv).symm h2, hls, hP, hK, hD, hS⟩)

set_option maxHeartbeats 4000000 in
set_option maxRecDepth 100000 in
theorem y_st_lshl {nx r1 r2 r3 : Nat} (C : y_ctx κ sc p R s m args meth c cc own yn nL A) (hH : y_H κ hy) (hT : y_T κ tb) (hok : y_okop nL own yn cc (pc, (.lshl, nx, r1, r2, r3)) = true) (hs : y_step sc κ.2.2.2 hy tb pc (.lshl, nx, r1, r2, r3) lo st h k n = some S') (hk : S'.2.2.2.2.1 ≤ R.cells) (hn : S'.2.2.2.2.2 ≤ R.slots) (Z : y_Z κ D A s nL α tys ws H locs ls lv sv lo st h)
    (kk : ∀ α' tys' ws' H' locs' ls' lv' sv', α <+: α' → y_Z κ D A s nL α' tys' ws' H' locs' ls' lv' sv' S'.2.1 S'.2.2.1 S'.2.2.2.1 → W p l e R s m args below meth c H' locs' S'.2.2.2.2.1 S'.2.2.2.2.2 Q (F0 m S'.1 ls' sv')) : W p l e R s m args below meth c H locs k n Q (F0 m pc ls sv) := by
  obtain ⟨hx, hb, hml, hown, hts, hyn, hAO, hA, hRf, hRl, hsc⟩ := C
  obtain ⟨hh, hl, hst, hls, hP, hK, hD, hS⟩ := Z
  unfold y_okop y_okin at hok
  simp only [Bool.and_eq_true, decide_eq_true_eq] at hok
  obtain ⟨hdg, hok⟩ := hok
  unfold y_step at hs
  dsimp only at hs
  obtain rfl := hok
  rw [Nat.add_sub_cancel_left] at hdg
  obtain ⟨st', hb2, rfl⟩ := Option.map_eq_some_iff.mp hs
  rcases st with _ | ⟨b | b | b, _ | ⟨a | a | a, r⟩⟩ <;> try (cases hb2; done)
  · obtain ⟨v, hv, rfl⟩ := Option.map_eq_some_iff.mp hb2
    obtain ⟨ys, rfl, h1⟩ := y_ds_ci hst
    obtain ⟨zs, rfl, h2⟩ := y_ds_cl h1
    exact lv_lshl hx hb hdg (y_lookT_ok hT hv) (kk α tys ws H locs ls lv _ (List.prefix_refl _) ⟨hh, hl, y_ds_l rfl h2, hls, hP, hK, hD, hS⟩)

set_option maxHeartbeats 4000000 in
set_option maxRecDepth 100000 in
theorem y_st_lushr {nx r1 r2 r3 : Nat} (C : y_ctx κ sc p R s m args meth c cc own yn nL A) (hH : y_H κ hy) (hT : y_T κ tb) (hok : y_okop nL own yn cc (pc, (.lushr, nx, r1, r2, r3)) = true) (hs : y_step sc κ.2.2.2 hy tb pc (.lushr, nx, r1, r2, r3) lo st h k n = some S') (hk : S'.2.2.2.2.1 ≤ R.cells) (hn : S'.2.2.2.2.2 ≤ R.slots) (Z : y_Z κ D A s nL α tys ws H locs ls lv sv lo st h)
    (kk : ∀ α' tys' ws' H' locs' ls' lv' sv', α <+: α' → y_Z κ D A s nL α' tys' ws' H' locs' ls' lv' sv' S'.2.1 S'.2.2.1 S'.2.2.2.1 → W p l e R s m args below meth c H' locs' S'.2.2.2.2.1 S'.2.2.2.2.2 Q (F0 m S'.1 ls' sv')) : W p l e R s m args below meth c H locs k n Q (F0 m pc ls sv) := by
  obtain ⟨hx, hb, hml, hown, hts, hyn, hAO, hA, hRf, hRl, hsc⟩ := C
  obtain ⟨hh, hl, hst, hls, hP, hK, hD, hS⟩ := Z
  unfold y_okop y_okin at hok
  simp only [Bool.and_eq_true, decide_eq_true_eq] at hok
  obtain ⟨hdg, hok⟩ := hok
  unfold y_step at hs
  dsimp only at hs
  obtain rfl := hok
  rw [Nat.add_sub_cancel_left] at hdg
  obtain ⟨st', hb2, rfl⟩ := Option.map_eq_some_iff.mp hs
  rcases st with _ | ⟨b | b | b, _ | ⟨a | a | a, r⟩⟩ <;> try (cases hb2; done)
  · obtain ⟨v, hv, rfl⟩ := Option.map_eq_some_iff.mp hb2
    obtain ⟨ys, rfl, h1⟩ := y_ds_ci hst
    obtain ⟨zs, rfl, h2⟩ := y_ds_cl h1
    exact lv_lushr hx hb hdg (y_lookT_ok hT hv) (kk α tys ws H locs ls lv _ (List.prefix_refl _) ⟨hh, hl, y_ds_l rfl h2, hls, hP, hK, hD, hS⟩)

set_option maxHeartbeats 4000000 in
set_option maxRecDepth 100000 in
theorem y_st_dup {nx r1 r2 r3 : Nat} (C : y_ctx κ sc p R s m args meth c cc own yn nL A) (hH : y_H κ hy) (hT : y_T κ tb) (hok : y_okop nL own yn cc (pc, (.dup, nx, r1, r2, r3)) = true) (hs : y_step sc κ.2.2.2 hy tb pc (.dup, nx, r1, r2, r3) lo st h k n = some S') (hk : S'.2.2.2.2.1 ≤ R.cells) (hn : S'.2.2.2.2.2 ≤ R.slots) (Z : y_Z κ D A s nL α tys ws H locs ls lv sv lo st h)
    (kk : ∀ α' tys' ws' H' locs' ls' lv' sv', α <+: α' → y_Z κ D A s nL α' tys' ws' H' locs' ls' lv' sv' S'.2.1 S'.2.2.1 S'.2.2.2.1 → W p l e R s m args below meth c H' locs' S'.2.2.2.2.1 S'.2.2.2.2.2 Q (F0 m S'.1 ls' sv')) : W p l e R s m args below meth c H locs k n Q (F0 m pc ls sv) := by
  obtain ⟨hx, hb, hml, hown, hts, hyn, hAO, hA, hRf, hRl, hsc⟩ := C
  obtain ⟨hh, hl, hst, hls, hP, hK, hD, hS⟩ := Z
  unfold y_okop y_okin at hok
  simp only [Bool.and_eq_true, decide_eq_true_eq] at hok
  obtain ⟨hdg, hok⟩ := hok
  unfold y_step at hs
  dsimp only at hs
  obtain rfl := hok
  rw [Nat.add_sub_cancel_left] at hdg
  rcases st with _ | ⟨v, r⟩
  · cases hs
  · cases hc : Nat.beq (y_cat v) 1 with
    | true =>
      dsimp only at hs
      rw [hc] at hs; cases hs
      obtain ⟨x, ys, rfl, h1, h2⟩ := y_ds_cons hst
      exact lv_dup hx hb hdg ((y_cat_ok h1).trans (y_beq.mp hc)) (kk α tys ws H locs ls lv _ (List.prefix_refl _) ⟨hh, hl, y_ds_mk h1 (y_ds_mk h1 h2), hls, hP, hK, hD, hS⟩)
    | false => dsimp only at hs; rw [hc] at hs; cases hs

set_option maxHeartbeats 4000000 in
set_option maxRecDepth 100000 in
theorem y_st_pop {nx r1 r2 r3 : Nat} (C : y_ctx κ sc p R s m args meth c cc own yn nL A) (hH : y_H κ hy) (hT : y_T κ tb) (hok : y_okop nL own yn cc (pc, (.pop, nx, r1, r2, r3)) = true) (hs : y_step sc κ.2.2.2 hy tb pc (.pop, nx, r1, r2, r3) lo st h k n = some S') (hk : S'.2.2.2.2.1 ≤ R.cells) (hn : S'.2.2.2.2.2 ≤ R.slots) (Z : y_Z κ D A s nL α tys ws H locs ls lv sv lo st h)
    (kk : ∀ α' tys' ws' H' locs' ls' lv' sv', α <+: α' → y_Z κ D A s nL α' tys' ws' H' locs' ls' lv' sv' S'.2.1 S'.2.2.1 S'.2.2.2.1 → W p l e R s m args below meth c H' locs' S'.2.2.2.2.1 S'.2.2.2.2.2 Q (F0 m S'.1 ls' sv')) : W p l e R s m args below meth c H locs k n Q (F0 m pc ls sv) := by
  obtain ⟨hx, hb, hml, hown, hts, hyn, hAO, hA, hRf, hRl, hsc⟩ := C
  obtain ⟨hh, hl, hst, hls, hP, hK, hD, hS⟩ := Z
  unfold y_okop y_okin at hok
  simp only [Bool.and_eq_true, decide_eq_true_eq] at hok
  obtain ⟨hdg, hok⟩ := hok
  unfold y_step at hs
  dsimp only at hs
  obtain rfl := hok
  rw [Nat.add_sub_cancel_left] at hdg
  rcases st with _ | ⟨v, r⟩
  · cases hs
  · cases hc : Nat.beq (y_cat v) 1 with
    | true =>
      dsimp only at hs
      rw [hc] at hs; cases hs
      obtain ⟨x, ys, rfl, h1, h2⟩ := y_ds_cons hst
      exact lv_pop hx hb hdg ((y_cat_ok h1).trans (y_beq.mp hc)) (kk α tys ws H locs ls lv _ (List.prefix_refl _) ⟨hh, hl, h2, hls, hP, hK, hD, hS⟩)
    | false => dsimp only at hs; rw [hc] at hs; cases hs

set_option maxHeartbeats 4000000 in
set_option maxRecDepth 100000 in
theorem y_st_dup2 {nx r1 r2 r3 : Nat} (C : y_ctx κ sc p R s m args meth c cc own yn nL A) (hH : y_H κ hy) (hT : y_T κ tb) (hok : y_okop nL own yn cc (pc, (.dup2, nx, r1, r2, r3)) = true) (hs : y_step sc κ.2.2.2 hy tb pc (.dup2, nx, r1, r2, r3) lo st h k n = some S') (hk : S'.2.2.2.2.1 ≤ R.cells) (hn : S'.2.2.2.2.2 ≤ R.slots) (Z : y_Z κ D A s nL α tys ws H locs ls lv sv lo st h)
    (kk : ∀ α' tys' ws' H' locs' ls' lv' sv', α <+: α' → y_Z κ D A s nL α' tys' ws' H' locs' ls' lv' sv' S'.2.1 S'.2.2.1 S'.2.2.2.1 → W p l e R s m args below meth c H' locs' S'.2.2.2.2.1 S'.2.2.2.2.2 Q (F0 m S'.1 ls' sv')) : W p l e R s m args below meth c H locs k n Q (F0 m pc ls sv) := by
  obtain ⟨hx, hb, hml, hown, hts, hyn, hAO, hA, hRf, hRl, hsc⟩ := C
  obtain ⟨hh, hl, hst, hls, hP, hK, hD, hS⟩ := Z
  unfold y_okop y_okin at hok
  simp only [Bool.and_eq_true, decide_eq_true_eq] at hok
  obtain ⟨hdg, hok⟩ := hok
  unfold y_step at hs
  dsimp only at hs
  obtain rfl := hok
  rw [Nat.add_sub_cancel_left] at hdg
  rcases st with _ | ⟨v, _ | ⟨u, r⟩⟩
  · cases hs
  · cases hs
  · cases hc : (Nat.beq (y_cat v) 1 && Nat.beq (y_cat u) 1) with
    | true =>
      dsimp only at hs
      rw [hc] at hs; cases hs
      simp only [Bool.and_eq_true] at hc
      obtain ⟨x, ys, rfl, h1, h2⟩ := y_ds_cons hst
      obtain ⟨y, ys, rfl, h3, h4⟩ := y_ds_cons h2
      exact lv_dup2_11 hx hb hdg ((y_cat_ok h1).trans (y_beq.mp hc.1)) ((y_cat_ok h3).trans (y_beq.mp hc.2)) (kk α tys ws H locs ls lv _ (List.prefix_refl _) ⟨hh, hl, y_ds_mk h1 (y_ds_mk h3 (y_ds_mk h1 (y_ds_mk h3 h4))), hls, hP, hK, hD, hS⟩)
    | false => dsimp only at hs; rw [hc] at hs; cases hs

set_option maxHeartbeats 4000000 in
set_option maxRecDepth 100000 in
theorem y_st_goto {off : Int} {nx r1 r2 r3 : Nat} (C : y_ctx κ sc p R s m args meth c cc own yn nL A) (hH : y_H κ hy) (hT : y_T κ tb) (hok : y_okop nL own yn cc (pc, (.goto off, nx, r1, r2, r3)) = true) (hs : y_step sc κ.2.2.2 hy tb pc (.goto off, nx, r1, r2, r3) lo st h k n = some S') (hk : S'.2.2.2.2.1 ≤ R.cells) (hn : S'.2.2.2.2.2 ≤ R.slots) (Z : y_Z κ D A s nL α tys ws H locs ls lv sv lo st h)
    (kk : ∀ α' tys' ws' H' locs' ls' lv' sv', α <+: α' → y_Z κ D A s nL α' tys' ws' H' locs' ls' lv' sv' S'.2.1 S'.2.2.1 S'.2.2.2.1 → W p l e R s m args below meth c H' locs' S'.2.2.2.2.1 S'.2.2.2.2.2 Q (F0 m S'.1 ls' sv')) : W p l e R s m args below meth c H locs k n Q (F0 m pc ls sv) := by
  obtain ⟨hx, hb, hml, hown, hts, hyn, hAO, hA, hRf, hRl, hsc⟩ := C
  obtain ⟨hh, hl, hst, hls, hP, hK, hD, hS⟩ := Z
  unfold y_okop y_okin at hok
  simp only [Bool.and_eq_true, decide_eq_true_eq] at hok
  obtain ⟨hdg, hok⟩ := hok
  unfold y_step at hs
  dsimp only at hs
  obtain ⟨rfl, ht⟩ := hok
  rw [Nat.add_sub_cancel_left] at hdg
  cases hs
  exact lv_goto hx hb hdg ht (kk α tys ws H locs ls lv _ (List.prefix_refl _) ⟨hh, hl, hst, hls, hP, hK, hD, hS⟩)

set_option maxHeartbeats 4000000 in
set_option maxRecDepth 100000 in
theorem y_st_if {q : ClassFile.Cond} {off : Int} {nx r1 r2 r3 : Nat} (C : y_ctx κ sc p R s m args meth c cc own yn nL A) (hH : y_H κ hy) (hT : y_T κ tb) (hok : y_okop nL own yn cc (pc, (.ifCond q off, nx, r1, r2, r3)) = true) (hs : y_step sc κ.2.2.2 hy tb pc (.ifCond q off, nx, r1, r2, r3) lo st h k n = some S') (hk : S'.2.2.2.2.1 ≤ R.cells) (hn : S'.2.2.2.2.2 ≤ R.slots) (Z : y_Z κ D A s nL α tys ws H locs ls lv sv lo st h)
    (kk : ∀ α' tys' ws' H' locs' ls' lv' sv', α <+: α' → y_Z κ D A s nL α' tys' ws' H' locs' ls' lv' sv' S'.2.1 S'.2.2.1 S'.2.2.2.1 → W p l e R s m args below meth c H' locs' S'.2.2.2.2.1 S'.2.2.2.2.2 Q (F0 m S'.1 ls' sv')) : W p l e R s m args below meth c H locs k n Q (F0 m pc ls sv) := by
  obtain ⟨hx, hb, hml, hown, hts, hyn, hAO, hA, hRf, hRl, hsc⟩ := C
  obtain ⟨hh, hl, hst, hls, hP, hK, hD, hS⟩ := Z
  unfold y_okop y_okin at hok
  simp only [Bool.and_eq_true, decide_eq_true_eq] at hok
  obtain ⟨hdg, hok⟩ := hok
  unfold y_step at hs
  dsimp only at hs
  obtain ⟨rfl, ht⟩ := hok
  rw [Nat.add_sub_cancel_left] at hdg
  rcases st with _ | ⟨a | a, r⟩
  · cases hs
  · obtain ⟨t, ht2, rfl⟩ := Option.map_eq_some_iff.mp hs
    have hq := y_cond_ok hH ht2
    obtain ⟨ys, rfl, h2⟩ := y_ds_ci hst
    cases q with
    | eq =>
      refine lv_if_eq hx hb hdg ht (fun hc => ?_) (fun hc => ?_)
      · have e1 : t = true := hq.mp hc
        subst e1
        exact kk α tys ws H locs ls lv _ (List.prefix_refl _) ⟨hh, hl, h2, hls, hP, hK, hD, hS⟩
      · have e1 : t = false := by
          cases t with
          | false => rfl
          | true => exact absurd rfl (fun z => hc (hq.mpr z))
        subst e1
        exact kk α tys ws H locs ls lv _ (List.prefix_refl _) ⟨hh, hl, h2, hls, hP, hK, hD, hS⟩
    | ne =>
      refine lv_if_ne hx hb hdg ht (fun hc => ?_) (fun hc => ?_)
      · have e1 : t = true := hq.mp hc
        subst e1
        exact kk α tys ws H locs ls lv _ (List.prefix_refl _) ⟨hh, hl, h2, hls, hP, hK, hD, hS⟩
      · have e1 : t = false := by
          cases t with
          | false => rfl
          | true => exact absurd rfl (fun z => (hq.mpr z) hc)
        subst e1
        exact kk α tys ws H locs ls lv _ (List.prefix_refl _) ⟨hh, hl, h2, hls, hP, hK, hD, hS⟩
    | lt =>
      refine lv_if_lt hx hb hdg ht (fun hc => ?_) (fun hc => ?_)
      · have e1 : t = true := hq.mp hc
        subst e1
        exact kk α tys ws H locs ls lv _ (List.prefix_refl _) ⟨hh, hl, h2, hls, hP, hK, hD, hS⟩
      · have e1 : t = false := by
          cases t with
          | false => rfl
          | true => exact absurd rfl (fun z => hc (hq.mpr z))
        subst e1
        exact kk α tys ws H locs ls lv _ (List.prefix_refl _) ⟨hh, hl, h2, hls, hP, hK, hD, hS⟩
    | ge =>
      refine lv_if_ge hx hb hdg ht (fun hc => ?_) (fun hc => ?_)
      · have e1 : t = true := hq.mp hc
        subst e1
        exact kk α tys ws H locs ls lv _ (List.prefix_refl _) ⟨hh, hl, h2, hls, hP, hK, hD, hS⟩
      · have e1 : t = false := by
          cases t with
          | false => rfl
          | true => exact absurd rfl (fun z => hc (hq.mpr z))
        subst e1
        exact kk α tys ws H locs ls lv _ (List.prefix_refl _) ⟨hh, hl, h2, hls, hP, hK, hD, hS⟩
    | gt =>
      refine lv_if_gt hx hb hdg ht (fun hc => ?_) (fun hc => ?_)
      · have e1 : t = true := hq.mp hc
        subst e1
        exact kk α tys ws H locs ls lv _ (List.prefix_refl _) ⟨hh, hl, h2, hls, hP, hK, hD, hS⟩
      · have e1 : t = false := by
          cases t with
          | false => rfl
          | true => exact absurd rfl (fun z => hc (hq.mpr z))
        subst e1
        exact kk α tys ws H locs ls lv _ (List.prefix_refl _) ⟨hh, hl, h2, hls, hP, hK, hD, hS⟩
    | le =>
      refine lv_if_le hx hb hdg ht (fun hc => ?_) (fun hc => ?_)
      · have e1 : t = true := hq.mp hc
        subst e1
        exact kk α tys ws H locs ls lv _ (List.prefix_refl _) ⟨hh, hl, h2, hls, hP, hK, hD, hS⟩
      · have e1 : t = false := by
          cases t with
          | false => rfl
          | true => exact absurd rfl (fun z => hc (hq.mpr z))
        subst e1
        exact kk α tys ws H locs ls lv _ (List.prefix_refl _) ⟨hh, hl, h2, hls, hP, hK, hD, hS⟩
  · cases hs

set_option maxHeartbeats 4000000 in
set_option maxRecDepth 100000 in
theorem y_st_icmp {q : ClassFile.Cond} {off : Int} {nx r1 r2 r3 : Nat} (C : y_ctx κ sc p R s m args meth c cc own yn nL A) (hH : y_H κ hy) (hT : y_T κ tb) (hok : y_okop nL own yn cc (pc, (.if_icmp q off, nx, r1, r2, r3)) = true) (hs : y_step sc κ.2.2.2 hy tb pc (.if_icmp q off, nx, r1, r2, r3) lo st h k n = some S') (hk : S'.2.2.2.2.1 ≤ R.cells) (hn : S'.2.2.2.2.2 ≤ R.slots) (Z : y_Z κ D A s nL α tys ws H locs ls lv sv lo st h)
    (kk : ∀ α' tys' ws' H' locs' ls' lv' sv', α <+: α' → y_Z κ D A s nL α' tys' ws' H' locs' ls' lv' sv' S'.2.1 S'.2.2.1 S'.2.2.2.1 → W p l e R s m args below meth c H' locs' S'.2.2.2.2.1 S'.2.2.2.2.2 Q (F0 m S'.1 ls' sv')) : W p l e R s m args below meth c H locs k n Q (F0 m pc ls sv) := by
  obtain ⟨hx, hb, hml, hown, hts, hyn, hAO, hA, hRf, hRl, hsc⟩ := C
  obtain ⟨hh, hl, hst, hls, hP, hK, hD, hS⟩ := Z
  unfold y_okop y_okin at hok
  simp only [Bool.and_eq_true, decide_eq_true_eq] at hok
  obtain ⟨hdg, hok⟩ := hok
  unfold y_step at hs
  dsimp only at hs
  obtain ⟨rfl, ht⟩ := hok
  rw [Nat.add_sub_cancel_left] at hdg
  rcases st with _ | ⟨b | b, _ | ⟨a | a, r⟩⟩
  · cases hs
  · cases hs
  · obtain ⟨t, ht2, rfl⟩ := Option.map_eq_some_iff.mp hs
    have hq := y_cond_ok hH ht2
    obtain ⟨ys, rfl, h1⟩ := y_ds_ci hst
    obtain ⟨zs, rfl, h2⟩ := y_ds_ci h1
    cases q with
    | eq =>
      refine lv_icmp_eq hx hb hdg ht (fun hc => ?_) (fun hc => ?_)
      · have e1 : t = true := hq.mp hc
        subst e1
        exact kk α tys ws H locs ls lv _ (List.prefix_refl _) ⟨hh, hl, h2, hls, hP, hK, hD, hS⟩
      · have e1 : t = false := by
          cases t with
          | false => rfl
          | true => exact absurd rfl (fun z => hc (hq.mpr z))
        subst e1
        exact kk α tys ws H locs ls lv _ (List.prefix_refl _) ⟨hh, hl, h2, hls, hP, hK, hD, hS⟩
    | ne =>
      refine lv_icmp_ne hx hb hdg ht (fun hc => ?_) (fun hc => ?_)
      · have e1 : t = true := hq.mp hc
        subst e1
        exact kk α tys ws H locs ls lv _ (List.prefix_refl _) ⟨hh, hl, h2, hls, hP, hK, hD, hS⟩
      · have e1 : t = false := by
          cases t with
          | false => rfl
          | true => exact absurd rfl (fun z => (hq.mpr z) hc)
        subst e1
        exact kk α tys ws H locs ls lv _ (List.prefix_refl _) ⟨hh, hl, h2, hls, hP, hK, hD, hS⟩
    | lt =>
      refine lv_icmp_lt hx hb hdg ht (fun hc => ?_) (fun hc => ?_)
      · have e1 : t = true := hq.mp hc
        subst e1
        exact kk α tys ws H locs ls lv _ (List.prefix_refl _) ⟨hh, hl, h2, hls, hP, hK, hD, hS⟩
      · have e1 : t = false := by
          cases t with
          | false => rfl
          | true => exact absurd rfl (fun z => hc (hq.mpr z))
        subst e1
        exact kk α tys ws H locs ls lv _ (List.prefix_refl _) ⟨hh, hl, h2, hls, hP, hK, hD, hS⟩
    | ge =>
      refine lv_icmp_ge hx hb hdg ht (fun hc => ?_) (fun hc => ?_)
      · have e1 : t = true := hq.mp hc
        subst e1
        exact kk α tys ws H locs ls lv _ (List.prefix_refl _) ⟨hh, hl, h2, hls, hP, hK, hD, hS⟩
      · have e1 : t = false := by
          cases t with
          | false => rfl
          | true => exact absurd rfl (fun z => hc (hq.mpr z))
        subst e1
        exact kk α tys ws H locs ls lv _ (List.prefix_refl _) ⟨hh, hl, h2, hls, hP, hK, hD, hS⟩
    | gt =>
      refine lv_icmp_gt hx hb hdg ht (fun hc => ?_) (fun hc => ?_)
      · have e1 : t = true := hq.mp hc
        subst e1
        exact kk α tys ws H locs ls lv _ (List.prefix_refl _) ⟨hh, hl, h2, hls, hP, hK, hD, hS⟩
      · have e1 : t = false := by
          cases t with
          | false => rfl
          | true => exact absurd rfl (fun z => hc (hq.mpr z))
        subst e1
        exact kk α tys ws H locs ls lv _ (List.prefix_refl _) ⟨hh, hl, h2, hls, hP, hK, hD, hS⟩
    | le =>
      refine lv_icmp_le hx hb hdg ht (fun hc => ?_) (fun hc => ?_)
      · have e1 : t = true := hq.mp hc
        subst e1
        exact kk α tys ws H locs ls lv _ (List.prefix_refl _) ⟨hh, hl, h2, hls, hP, hK, hD, hS⟩
      · have e1 : t = false := by
          cases t with
          | false => rfl
          | true => exact absurd rfl (fun z => hc (hq.mpr z))
        subst e1
        exact kk α tys ws H locs ls lv _ (List.prefix_refl _) ⟨hh, hl, h2, hls, hP, hK, hD, hS⟩
  · cases hs
  · cases hs
  · cases hs
  · cases hs

theorem y_off_ok {pc t : Nat} {off : Int} (h : y_off pc off = some t) : (pc : Int) + off = (t : Int) := by
  unfold y_off at h
  split at h
  · cases h; omega
  · cases h

set_option maxHeartbeats 4000000 in
set_option maxRecDepth 100000 in
theorem y_st_tsw {d lo1 hi : Int} {offs : Array Int} {nx r1 r2 r3 : Nat} (C : y_ctx κ sc p R s m args meth c cc own yn nL A) (hH : y_H κ hy) (hT : y_T κ tb) (hok : y_okop nL own yn cc (pc, (.tableswitch d lo1 hi offs, nx, r1, r2, r3)) = true) (hs : y_step sc κ.2.2.2 hy tb pc (.tableswitch d lo1 hi offs, nx, r1, r2, r3) lo st h k n = some S') (hk : S'.2.2.2.2.1 ≤ R.cells) (hn : S'.2.2.2.2.2 ≤ R.slots) (Z : y_Z κ D A s nL α tys ws H locs ls lv sv lo st h)
    (kk : ∀ α' tys' ws' H' locs' ls' lv' sv', α <+: α' → y_Z κ D A s nL α' tys' ws' H' locs' ls' lv' sv' S'.2.1 S'.2.2.1 S'.2.2.2.1 → W p l e R s m args below meth c H' locs' S'.2.2.2.2.1 S'.2.2.2.2.2 Q (F0 m S'.1 ls' sv')) : W p l e R s m args below meth c H locs k n Q (F0 m pc ls sv) := by
  obtain ⟨hx, hb, hml, hown, hts, hyn, hAO, hA, hRf, hRl, hsc⟩ := C
  obtain ⟨hh, hl, hst, hls, hP, hK, hD, hS⟩ := Z
  unfold y_okop y_okin at hok
  simp only [Bool.and_eq_true, decide_eq_true_eq] at hok
  obtain ⟨hdg, hok⟩ := hok
  unfold y_step at hs
  dsimp only at hs
  rcases st with _ | ⟨(a | a) | a, r⟩
  · cases hs
  · obtain ⟨t, ht2, rfl⟩ := Option.map_eq_some_iff.mp hs
    obtain ⟨ys, rfl, h2⟩ := y_ds_ci hst
    unfold y_swT at ht2
    dsimp only at ht2
    split at ht2
    · next hc =>
      exact lv_tableOut hx hb hdg (by rw [← y_int] at hc; exact hc) (y_off_ok ht2) (kk α tys ws H locs ls lv _ (List.prefix_refl _) ⟨hh, hl, h2, hls, hP, hK, hD, hS⟩)
    · next hc =>
      split at ht2
      · next o ho =>
        rw [← y_int] at hc ho
        exact lv_tableIn hx hb hdg (fun z => hc (Or.inl z)) (fun z => hc (Or.inr z)) ho (y_off_ok ht2) (kk α tys ws H locs ls lv _ (List.prefix_refl _) ⟨hh, hl, h2, hls, hP, hK, hD, hS⟩)
      · cases ht2
  · obtain ⟨t, ht2, rfl⟩ := Option.map_eq_some_iff.mp hs
    obtain ⟨ys, rfl, h2⟩ := y_ds_ci hst
    unfold y_swT at ht2
    dsimp only at ht2
    split at ht2
    · next hc =>
      refine lv_tableOut hx hb hdg ?_ (y_off_ok ht2) (kk α tys ws H locs ls lv _ (List.prefix_refl _) ⟨hh, hl, h2, hls, hP, hK, hD, hS⟩)
      rcases hc with ⟨h5, h6, h7⟩ | ⟨h5, h6, h7⟩
      · left
        have h8 : y_i κ (.inr a) < nI (lo1 % 4294967296).toNat := (y_look_ok hH h5).mpr rfl
        rw [Int32.lt_iff_toInt_lt, y_int] at h8
        unfold y_sg at h8
        omega
      · right
        have h8 : nI (hi % 4294967296).toNat < y_i κ (.inr a) := (y_look_ok hH h5).mpr rfl
        rw [Int32.lt_iff_toInt_lt, y_int] at h8
        unfold y_sg at h8
        omega
    · cases ht2
  · cases hs

set_option maxHeartbeats 4000000 in
set_option maxRecDepth 100000 in
theorem y_st_lsw {d : Int} {ps : Array (Int × Int)} {nx r1 r2 r3 : Nat} (C : y_ctx κ sc p R s m args meth c cc own yn nL A) (hH : y_H κ hy) (hT : y_T κ tb) (hok : y_okop nL own yn cc (pc, (.lookupswitch d ps, nx, r1, r2, r3)) = true) (hs : y_step sc κ.2.2.2 hy tb pc (.lookupswitch d ps, nx, r1, r2, r3) lo st h k n = some S') (hk : S'.2.2.2.2.1 ≤ R.cells) (hn : S'.2.2.2.2.2 ≤ R.slots) (Z : y_Z κ D A s nL α tys ws H locs ls lv sv lo st h)
    (kk : ∀ α' tys' ws' H' locs' ls' lv' sv', α <+: α' → y_Z κ D A s nL α' tys' ws' H' locs' ls' lv' sv' S'.2.1 S'.2.2.1 S'.2.2.2.1 → W p l e R s m args below meth c H' locs' S'.2.2.2.2.1 S'.2.2.2.2.2 Q (F0 m S'.1 ls' sv')) : W p l e R s m args below meth c H locs k n Q (F0 m pc ls sv) := by
  obtain ⟨hx, hb, hml, hown, hts, hyn, hAO, hA, hRf, hRl, hsc⟩ := C
  obtain ⟨hh, hl, hst, hls, hP, hK, hD, hS⟩ := Z
  unfold y_okop y_okin at hok
  simp only [Bool.and_eq_true, decide_eq_true_eq] at hok
  obtain ⟨hdg, hok⟩ := hok
  unfold y_step at hs
  dsimp only at hs
  rcases st with _ | ⟨(a | a) | a, r⟩
  · cases hs
  · obtain ⟨t, ht2, rfl⟩ := Option.map_eq_some_iff.mp hs
    obtain ⟨ys, rfl, h2⟩ := y_ds_ci hst
    rw [← y_int] at ht2
    exact lv_lookup hx hb hdg hok rfl (y_off_ok ht2) (kk α tys ws H locs ls lv _ (List.prefix_refl _) ⟨hh, hl, h2, hls, hP, hK, hD, hS⟩)
  · cases hs
  · cases hs

end YSTEP
end
section

theorem y_in {a n : Nat} (h1 : a < n) (h2 : a < 2147483648) : vp_in (nI a) n := by
  intro h
  rcases h with h | h
  · exact nI_pos h2 h
  · rw [nI_clamp h2] at h
    omega
theorem y_pv_ok {κ : yK} {α : List Nat} {r3 : Nat} {v : yV} {x : Value} {ty : FieldType} (h1 : y_pv r3 v = true) (h2 : y_pk r3 (some ty) = true) (h3 : y_d κ α v = some x) : narrow ty x = x ∧ fits ty x = true := by
  cases ty with
  | int =>
    have e := y_beq.mp h2
    subst e
    rcases v with a | a | a
    · cases h3; exact ⟨rfl, rfl⟩
    · cases h1
    · cases h1
  | boolean =>
    have e := y_beq.mp h2
    subst e
    rcases v with (a | a) | a | a
    · have e2 := y_ble.mp h1
      cases h3
      have e3 : a = 0 ∨ a = 1 := by omega
      rcases e3 with rfl | rfl
      · exact ⟨(by decide : narrow .boolean (.int (nI 0)) = .int (nI 0)), (by decide : fits .boolean (.int (nI 0)) = true)⟩
      · exact ⟨(by decide : narrow .boolean (.int (nI 1)) = .int (nI 1)), (by decide : fits .boolean (.int (nI 1)) = true)⟩
    · cases h1
    · cases h1
    · cases h1
  | object C =>
    have e := y_beq.mp h2
    subst e
    rcases v with a | a | _ | a
    · cases h1
    · cases h1
    · cases h3; exact ⟨rfl, rfl⟩
    · obtain ⟨b, -, rfl⟩ := Option.map_eq_some_iff.mp h3
      exact ⟨rfl, rfl⟩
  | array C =>
    have e := y_beq.mp h2
    subst e
    rcases v with a | a | _ | a
    · cases h1
    · cases h1
    · cases h3; exact ⟨rfl, rfl⟩
    · obtain ⟨b, -, rfl⟩ := Option.map_eq_some_iff.mp h3
      exact ⟨rfl, rfl⟩
  | byte => cases h2
  | char => cases h2
  | double => cases h2
  | float => cases h2
  | long => cases h2
  | short => cases h2
theorem y_get_upd {κ : yK} {n a : Nat} {f : Nat → Int32} {m : List (Nat × yI)} {v : yI} {x : Int32} (hx : y_i κ v = x) (h : ∀ i, i < n → f i = y_i κ (y_get m i)) : ∀ i, i < n → upd f a x i = y_i κ (y_get ((a, v) :: m) i) := by
  intro i hi
  show _ = y_i κ (bif Nat.beq a i then v else y_get m i)
  cases hc : Nat.beq a i with
  | true =>
    have e := y_beq.mp hc
    subst e
    rw [pk_us, ← hx]
    rfl
  | false =>
    have e : i ≠ a := fun z => by rw [z, Nat.beq_refl] at hc; cases hc
    rw [pk_un e]
    exact h i hi
theorem y_get_map (i dp : Nat) (g : Nat → yI) (m : List (Nat × yI)) : ∀ L : List Nat, (∀ x, x ∈ L → dp + x ≠ i) → y_get (L.map (fun x => (dp + x, g x)) ++ m) i = y_get m i := by
  intro L
  induction L with
  | nil => intro _; rfl
  | cons x L ih =>
    intro h
    show (bif Nat.beq (dp + x) i then g x else y_get (L.map (fun x => (dp + x, g x)) ++ m) i) = _
    have e : Nat.beq (dp + x) i = false := by
      cases hc : Nat.beq (dp + x) i with
      | false => rfl
      | true => exact absurd (y_beq.mp hc) (h x List.mem_cons_self)
    rw [e]
    exact ih (fun x hx => h x (List.mem_cons_of_mem _ hx))
theorem y_get_in (i dp : Nat) (g : Nat → yI) (m : List (Nat × yI)) : ∀ L : List Nat, (∃ x, x ∈ L ∧ dp + x = i) → y_get (L.map (fun x => (dp + x, g x)) ++ m) i = g (i - dp) := by
  intro L
  induction L with
  | nil => rintro ⟨x, hx, -⟩; cases hx
  | cons x L ih =>
    intro h
    show (bif Nat.beq (dp + x) i then g x else y_get (L.map (fun x => (dp + x, g x)) ++ m) i) = _
    cases hc : Nat.beq (dp + x) i with
    | true =>
      have e := y_beq.mp hc
      subst e
      show g x = g (dp + x - dp)
      rw [Nat.add_sub_cancel_left]
    | false =>
      obtain ⟨y, hy, hyi⟩ := h
      rcases List.mem_cons.mp hy with rfl | hy
      · rw [hyi, Nat.beq_refl] at hc; cases hc
      · exact ih ⟨y, hy, hyi⟩
theorem y_get_cpy {κ : yK} {n0 n1 sp dp k : Nat} {f g : Nat → Int32} {m0 m1 : List (Nat × yI)} (h0 : ∀ i, i < n0 → f i = y_i κ (y_get m0 i)) (h1 : ∀ i, i < n1 → g i = y_i κ (y_get m1 i)) (hs : sp + k ≤ n0) :
    ∀ i, i < n1 → va_cpy f g sp dp k i = y_i κ (y_get ((List.range k).map (fun x => (dp + x, y_get m0 (sp + x))) ++ m1) i) := by
  intro i hi
  by_cases hc : dp ≤ i ∧ i < dp + k
  · rw [y_get_in i dp (fun x => y_get m0 (sp + x)) m1 _ ⟨i - dp, List.mem_range.mpr (by omega), by omega⟩, pk_cpy_in hc.1 hc.2]
    exact h0 _ (by omega)
  · rw [y_get_map i dp (fun x => y_get m0 (sp + x)) m1 _ (fun x hx => by have := List.mem_range.mp hx; omega), pk_cpy_out (by omega)]
    exact h1 i hi
theorem y_nar (x : Int32) : vp_nar .char x = (x.toUInt32 % 65536).toInt32 := by
  rw [vp_nar_char]
  congr 1
theorem y_nbool {b : Nat} (h : b ≤ 1) : vp_nar .boolean (nI b) = nI b := by
  have e3 : b = 0 ∨ b = 1 := by omega
  rcases e3 with rfl | rfl
  · decide
  · decide
theorem y_cl {κ : yK} {n : Nat} (h : n < 2147483648) : (y_i κ (.inl n)).toNatClampNeg = n := nI_clamp h
theorem y_sub1_ok {κ : yK} {tb : yT} (hT : y_T κ tb) (j : Nat) : y_i κ (y_sub1 tb j) = κ.1 j := by
  unfold y_sub1
  cases hc : y_lookT tb 20 (.inr j) (.inr j) with
  | none => rfl
  | some r => exact (y_lookT_ok hT hc).symm
theorem y_new_ref {κ : yK} {α : List Nat} {h : List yC} (q : Nat) (e : α.length = h.length) : y_d κ (α ++ [q]) (.inr (.inr (some (h.length + 1)))) = some (.ref q) := by
  show ((α ++ [q])[h.length]?).map Value.ref = _
  rw [← e]
  simp
section YHEAP
variable {p : Program} {l : Launch} {e : Env} {R : Room} {s : State} {m : MethodId} {args : Array Value} {below : List Frame} {meth : Method} {c : Code} {H : Heap} {locs : List Loc} {Q : State → Prop} {ls : Array Slot}
variable {κ : yK} {D : va_G} {A : Nat → Prop} {α : List Nat} {tys : List (ClassId × FieldType)} {ws : va_W} {lv : List (Nat × Value)} {sv : List Value} {lo : yL} {st : List yV} {h : List yC} {cc : ByteArray} {own yn : String} {nL : Nat} {hy : yF} {tb : yT} {sc : Bool} {pc k n : Nat} {S' : yS}

set_option maxHeartbeats 4000000 in
set_option maxRecDepth 100000 in
theorem y_st_getf {i : Nat} {nx r1 r2 r3 : Nat} (C : y_ctx κ sc p R s m args meth c cc own yn nL A) (hH : y_H κ hy) (hT : y_T κ tb) (hok : y_okop nL own yn cc (pc, (.getfield i, nx, r1, r2, r3)) = true) (hs : y_step sc κ.2.2.2 hy tb pc (.getfield i, nx, r1, r2, r3) lo st h k n = some S') (hk : S'.2.2.2.2.1 ≤ R.cells) (hn : S'.2.2.2.2.2 ≤ R.slots) (Z : y_Z κ D A s nL α tys ws H locs ls lv sv lo st h)
    (kk : ∀ α' tys' ws' H' locs' ls' lv' sv', α <+: α' → y_Z κ D A s nL α' tys' ws' H' locs' ls' lv' sv' S'.2.1 S'.2.2.1 S'.2.2.2.1 → W p l e R s m args below meth c H' locs' S'.2.2.2.2.1 S'.2.2.2.2.2 Q (F0 m S'.1 ls' sv')) : W p l e R s m args below meth c H locs k n Q (F0 m pc ls sv) := by
  obtain ⟨hx, hb, hml, hown, hts, hyn, hAO, hA, hRf, hRl, hsc⟩ := C
  obtain ⟨hh, hl, hst, hls, hP, hK, hD, hS⟩ := Z
  unfold y_okop y_okin at hok
  simp only [Bool.and_eq_true, decide_eq_true_eq] at hok
  obtain ⟨hdg, hok⟩ := hok
  unfold y_step at hs
  dsimp only at hs
  obtain ⟨rfl, hfl⟩ := hok
  rw [Nat.add_sub_cancel_left] at hdg
  rcases st with _ | ⟨a | a | _ | _ | j, r⟩ <;> try (cases hs; done)
  · cases hg : h[j]? with
    | none => dsimp only at hs; rw [hg] at hs; cases hs
    | some c0 =>
      try dsimp only at hs
      rw [hg] at hs
      rcases c0 with ⟨ci, fs⟩ | c0
      · try dsimp only at hs
        cases hc : Nat.beq ci r1 with
        | false => rw [hc] at hs; cases hs
        | true =>
          rw [hc] at hs
          cases hf : fs[r2]? with
          | none => rw [hf] at hs; cases hs
          | some v =>
            rw [hf] at hs
            cases hs
            have e1 := y_beq.mp hc
            subst e1
            obtain ⟨b, ys, rfl, hb1, h2⟩ := y_ds_cr hst
            obtain ⟨b', e', g1, g2, vs, g3, rfl⟩ := hh.2.2 j _ hg
            have e2 : b' = b := Option.some.inj (g1.symm.trans hb1)
            subst e2
            obtain ⟨x, hx1, hx2⟩ := y_ds_get g3 hf
            unfold y_fl at hfl
            cases hr : vwCl[ci]? with
            | none => rw [hr] at hfl; cases hfl
            | some rr =>
              rw [hr] at hfl
              simp only [Bool.and_eq_true, decide_eq_true_eq] at hfl
              obtain ⟨C1, T1, N1⟩ := rr
              exact va_get hx hb hts (y_cls_ok hr).1 hown hK hP j g2 hr r2 hfl.1 (hts _ (yM_ok hfl.2)) (fun _ z => z) hx1 hdg (kk α tys ws H locs ls lv _ (List.prefix_refl _) ⟨hh, hl, y_ds_mk hx2 h2, hls, hP, hK, hD, hS⟩)
      · cases hs

set_option maxHeartbeats 4000000 in
set_option maxRecDepth 100000 in
theorem y_st_putf {i : Nat} {nx r1 r2 r3 : Nat} (C : y_ctx κ sc p R s m args meth c cc own yn nL A) (hH : y_H κ hy) (hT : y_T κ tb) (hok : y_okop nL own yn cc (pc, (.putfield i, nx, r1, r2, r3)) = true) (hs : y_step sc κ.2.2.2 hy tb pc (.putfield i, nx, r1, r2, r3) lo st h k n = some S') (hk : S'.2.2.2.2.1 ≤ R.cells) (hn : S'.2.2.2.2.2 ≤ R.slots) (Z : y_Z κ D A s nL α tys ws H locs ls lv sv lo st h)
    (kk : ∀ α' tys' ws' H' locs' ls' lv' sv', α <+: α' → y_Z κ D A s nL α' tys' ws' H' locs' ls' lv' sv' S'.2.1 S'.2.2.1 S'.2.2.2.1 → W p l e R s m args below meth c H' locs' S'.2.2.2.2.1 S'.2.2.2.2.2 Q (F0 m S'.1 ls' sv')) : W p l e R s m args below meth c H locs k n Q (F0 m pc ls sv) := by
  obtain ⟨hx, hb, hml, hown, hts, hyn, hAO, hA, hRf, hRl, hsc⟩ := C
  obtain ⟨hh, hl, hst, hls, hP, hK, hD, hS⟩ := Z
  unfold y_okop y_okin at hok
  simp only [Bool.and_eq_true, decide_eq_true_eq] at hok
  obtain ⟨hdg, hok⟩ := hok
  unfold y_step at hs
  dsimp only at hs
  obtain ⟨rfl, hfl, hpf⟩ := hok
  rw [Nat.add_sub_cancel_left] at hdg
  rcases st with _ | ⟨v, _ | ⟨a | a | _ | _ | j, r⟩⟩ <;> try (cases hs; done)
  · cases hg : h[j]? with
    | none => dsimp only at hs; rw [hg] at hs; cases hs
    | some c0 =>
      try dsimp only at hs
      rw [hg] at hs
      rcases c0 with ⟨ci, fs⟩ | c0
      · try dsimp only at hs
        cases hc : (Nat.beq ci r1 && (Nat.blt r2 fs.length && y_pv r3 v)) with
        | false => rw [hc] at hs; cases hs
        | true =>
          rw [hc] at hs
          cases hs
          simp only [Bool.and_eq_true] at hc
          obtain ⟨hc1, hc2, hc3⟩ := hc
          have e1 := y_beq.mp hc1
          subst e1
          obtain ⟨x, ys0, rfl, hx2, h1⟩ := y_ds_cons hst
          obtain ⟨b, ys, rfl, hb1, h2⟩ := y_ds_cr h1
          obtain ⟨b', e', g1, g2, vs, g3, rfl⟩ := hh.2.2 j _ hg
          have e2 : b' = b := Option.some.inj (g1.symm.trans hb1)
          subst e2
          unfold y_fl at hfl
          unfold y_pf at hpf
          cases hr : vwCl[ci]? with
          | none => rw [hr] at hfl; cases hfl
          | some rr =>
            rw [hr] at hfl hpf
            simp only [Bool.and_eq_true, decide_eq_true_eq, Bool.or_eq_true, Bool.not_eq_true'] at hfl hpf
            obtain ⟨C1, T1, N1⟩ := rr
            obtain ⟨k1, k2, k3⟩ := y_cls_ok hr
            have hty := k2 r2 hfl.1
            have hpk := hpf.1
            rw [hty] at hpk
            obtain ⟨n1, n2⟩ := y_pv_ok hc3 hpk hx2
            have hlen : r2 < vs.length := by rw [← y_ds_len g3]; exact y_blt.mp hc2
            have hc0 : y_c κ α tys (.inl (ci, fs.set r2 v)) (.inr (ci, vs.set r2 x)) := ⟨vs.set r2 x, y_ds_set r2 g3 hx2, rfl⟩
            have hnew := y_h_set hh hg g1 hc0
            cases hfin : (T1 r2).2.2.2 with
            | false =>
              exact va_put hx hb hts k1 _ k2 k3 hown hK hP hD hS j g2 hr r2 hfl.1 (hts _ (yM_ok hfl.2)) (fun _ z => z) hfin hty n1 n2 hlen hdg (fun H1 locs1 hP1 hD1 hS1 => kk α tys _ H1 locs1 ls lv _ (List.prefix_refl _) ⟨hnew, hl, h2, hls, hP1, hK, hD1, hS1⟩)
            | true =>
              rcases hpf.2 with hf | hf
              · rw [hfin] at hf; cases hf
              · exact va_putF hx hb hts k1 _ k2 k3 hown hK hP hD hS j g2 hr r2 hfl.1 (hts _ (yM_ok hfl.2)) (fun _ z => z) hfin (hyn hf.1) hf.2 hty n1 n2 hlen hdg (fun H1 locs1 hP1 hD1 hS1 => kk α tys _ H1 locs1 ls lv _ (List.prefix_refl _) ⟨hnew, hl, h2, hls, hP1, hK, hD1, hS1⟩)
      · cases hs

set_option maxHeartbeats 4000000 in
set_option maxRecDepth 100000 in
theorem y_st_iald {nx r1 r2 r3 : Nat} (C : y_ctx κ sc p R s m args meth c cc own yn nL A) (hH : y_H κ hy) (hT : y_T κ tb) (hok : y_okop nL own yn cc (pc, (.iaload, nx, r1, r2, r3)) = true) (hs : y_step sc κ.2.2.2 hy tb pc (.iaload, nx, r1, r2, r3) lo st h k n = some S') (hk : S'.2.2.2.2.1 ≤ R.cells) (hn : S'.2.2.2.2.2 ≤ R.slots) (Z : y_Z κ D A s nL α tys ws H locs ls lv sv lo st h)
    (kk : ∀ α' tys' ws' H' locs' ls' lv' sv', α <+: α' → y_Z κ D A s nL α' tys' ws' H' locs' ls' lv' sv' S'.2.1 S'.2.2.1 S'.2.2.2.1 → W p l e R s m args below meth c H' locs' S'.2.2.2.2.1 S'.2.2.2.2.2 Q (F0 m S'.1 ls' sv')) : W p l e R s m args below meth c H locs k n Q (F0 m pc ls sv) := by
  obtain ⟨hx, hb, hml, hown, hts, hyn, hAO, hA, hRf, hRl, hsc⟩ := C
  obtain ⟨hh, hl, hst, hls, hP, hK, hD, hS⟩ := Z
  unfold y_okop y_okin at hok
  simp only [Bool.and_eq_true, decide_eq_true_eq] at hok
  obtain ⟨hdg, hok⟩ := hok
  unfold y_step at hs
  dsimp only at hs
  obtain rfl := hok
  rw [Nat.add_sub_cancel_left] at hdg
  rcases st with _ | ⟨(x0 | x0) | x0, _ | ⟨a | a | _ | _ | j, r⟩⟩ <;> try (cases hs; done)
  · try dsimp only at hs
    cases hc : (sc && (Nat.blt x0 κ.2.2.2 && Nat.blt x0 2147483648)) with
    | false => rw [hc] at hs; cases hs
    | true =>
      rw [hc] at hs
      cases hs
      simp only [Bool.and_eq_true] at hc
      obtain ⟨hc1, hc2, hc3⟩ := hc
      obtain ⟨hX, hbl, hbA⟩ := hsc hc1
      obtain ⟨ys, rfl, h1⟩ := y_ds_ci hst
      obtain ⟨b, zs, rfl, hb1, h2⟩ := y_ds_cr h1
      cases hb1
      have h3 := y_blt.mp hc3
      exact va_sld hx hb hX hbl hbA hS (y_in (y_blt.mp hc2) h3) hdg (kk α tys ws H locs ls lv _ (List.prefix_refl _) ⟨hh, hl, y_ds_i (by rw [show y_i κ (.inl x0) = nI x0 from rfl, nI_clamp h3]; exact y_sub1_ok hT x0) h2, hls, hP, hK, hD, hS⟩)
  · cases hg : h[j]? with
    | none => dsimp only at hs; rw [hg] at hs; cases hs
    | some c0 =>
      try dsimp only at hs
      rw [hg] at hs
      rcases c0 with ⟨ci, fs⟩ | ⟨_ | kd, len, m0⟩ | c0 <;> try (cases hs; done)
      · replace hs : (bif Nat.blt x0 len && Nat.blt x0 2147483648 then some (pc + 1, lo, .inl (y_get m0 x0) :: r, h, k, n) else none) = some S' := hs
        cases hc : (Nat.blt x0 len && Nat.blt x0 2147483648) with
        | false => rw [hc] at hs; cases hs
        | true =>
          rw [hc] at hs
          cases hs
          simp only [Bool.and_eq_true] at hc
          have h3 := y_blt.mp hc.1
          have h4 := y_blt.mp hc.2
          obtain ⟨ys, rfl, h1⟩ := y_ds_ci hst
          obtain ⟨b, zs, rfl, hb1, h2⟩ := y_ds_cr h1
          obtain ⟨b', e', g1, g2, cA, t0, f, g3, g4, rfl⟩ := hh.2.2 j _ hg
          have e2 : b' = b := Option.some.inj (g1.symm.trans hb1)
          subst e2
          exact va_iald hx hb hK hP j t0 g2 g3 (y_in h3 h4) hdg (kk α tys ws H locs ls lv _ (List.prefix_refl _) ⟨hh, hl, y_ds_i (by rw [show y_i κ (.inl x0) = nI x0 from rfl, nI_clamp h4]; exact (g4 x0 h3).symm) h2, hls, hP, hK, hD, hS⟩)

set_option maxHeartbeats 4000000 in
set_option maxRecDepth 100000 in
theorem y_st_bald {nx r1 r2 r3 : Nat} (C : y_ctx κ sc p R s m args meth c cc own yn nL A) (hH : y_H κ hy) (hT : y_T κ tb) (hok : y_okop nL own yn cc (pc, (.baload, nx, r1, r2, r3)) = true) (hs : y_step sc κ.2.2.2 hy tb pc (.baload, nx, r1, r2, r3) lo st h k n = some S') (hk : S'.2.2.2.2.1 ≤ R.cells) (hn : S'.2.2.2.2.2 ≤ R.slots) (Z : y_Z κ D A s nL α tys ws H locs ls lv sv lo st h)
    (kk : ∀ α' tys' ws' H' locs' ls' lv' sv', α <+: α' → y_Z κ D A s nL α' tys' ws' H' locs' ls' lv' sv' S'.2.1 S'.2.2.1 S'.2.2.2.1 → W p l e R s m args below meth c H' locs' S'.2.2.2.2.1 S'.2.2.2.2.2 Q (F0 m S'.1 ls' sv')) : W p l e R s m args below meth c H locs k n Q (F0 m pc ls sv) := by
  obtain ⟨hx, hb, hml, hown, hts, hyn, hAO, hA, hRf, hRl, hsc⟩ := C
  obtain ⟨hh, hl, hst, hls, hP, hK, hD, hS⟩ := Z
  unfold y_okop y_okin at hok
  simp only [Bool.and_eq_true, decide_eq_true_eq] at hok
  obtain ⟨hdg, hok⟩ := hok
  unfold y_step at hs
  dsimp only at hs
  obtain rfl := hok
  rw [Nat.add_sub_cancel_left] at hdg
  rcases st with _ | ⟨(x0 | x0) | x0, _ | ⟨a | a | _ | _ | j, r⟩⟩ <;> try (cases hs; done)
  · cases hg : h[j]? with
    | none => dsimp only at hs; rw [hg] at hs; cases hs
    | some c0 =>
      try dsimp only at hs
      rw [hg] at hs
      rcases c0 with ⟨ci, fs⟩ | ⟨_ | _ | kd, len, m0⟩ | c0 <;> try (cases hs; done)
      · replace hs : (bif Nat.blt x0 len && Nat.blt x0 2147483648 then some (pc + 1, lo, .inl (y_get m0 x0) :: r, h, k, n) else none) = some S' := hs
        cases hc : (Nat.blt x0 len && Nat.blt x0 2147483648) with
        | false => rw [hc] at hs; cases hs
        | true =>
          rw [hc] at hs
          cases hs
          simp only [Bool.and_eq_true] at hc
          have h3 := y_blt.mp hc.1
          have h4 := y_blt.mp hc.2
          obtain ⟨ys, rfl, h1⟩ := y_ds_ci hst
          obtain ⟨b, zs, rfl, hb1, h2⟩ := y_ds_cr h1
          obtain ⟨b', e', g1, g2, cA, t0, f, g3, g4, rfl⟩ := hh.2.2 j _ hg
          have e2 : b' = b := Option.some.inj (g1.symm.trans hb1)
          subst e2
          exact va_zald hx hb hK hP j t0 g2 g3 (y_in h3 h4) hdg (kk α tys ws H locs ls lv _ (List.prefix_refl _) ⟨hh, hl, y_ds_i (by rw [show y_i κ (.inl x0) = nI x0 from rfl, nI_clamp h4]; exact (g4 x0 h3).symm) h2, hls, hP, hK, hD, hS⟩)

set_option maxHeartbeats 4000000 in
set_option maxRecDepth 100000 in
theorem y_st_aald {nx r1 r2 r3 : Nat} (C : y_ctx κ sc p R s m args meth c cc own yn nL A) (hH : y_H κ hy) (hT : y_T κ tb) (hok : y_okop nL own yn cc (pc, (.aaload, nx, r1, r2, r3)) = true) (hs : y_step sc κ.2.2.2 hy tb pc (.aaload, nx, r1, r2, r3) lo st h k n = some S') (hk : S'.2.2.2.2.1 ≤ R.cells) (hn : S'.2.2.2.2.2 ≤ R.slots) (Z : y_Z κ D A s nL α tys ws H locs ls lv sv lo st h)
    (kk : ∀ α' tys' ws' H' locs' ls' lv' sv', α <+: α' → y_Z κ D A s nL α' tys' ws' H' locs' ls' lv' sv' S'.2.1 S'.2.2.1 S'.2.2.2.1 → W p l e R s m args below meth c H' locs' S'.2.2.2.2.1 S'.2.2.2.2.2 Q (F0 m S'.1 ls' sv')) : W p l e R s m args below meth c H locs k n Q (F0 m pc ls sv) := by
  obtain ⟨hx, hb, hml, hown, hts, hyn, hAO, hA, hRf, hRl, hsc⟩ := C
  obtain ⟨hh, hl, hst, hls, hP, hK, hD, hS⟩ := Z
  unfold y_okop y_okin at hok
  simp only [Bool.and_eq_true, decide_eq_true_eq] at hok
  obtain ⟨hdg, hok⟩ := hok
  unfold y_step at hs
  dsimp only at hs
  obtain rfl := hok
  rw [Nat.add_sub_cancel_left] at hdg
  rcases st with _ | ⟨(x0 | x0) | x0, _ | ⟨a | a | _ | _ | j, r⟩⟩ <;> try (cases hs; done)
  · cases hg : h[j]? with
    | none => dsimp only at hs; rw [hg] at hs; cases hs
    | some c0 =>
      try dsimp only at hs
      rw [hg] at hs
      rcases c0 with ⟨ci, fs⟩ | ⟨kd, len, m0⟩ | ⟨ci, len, m0⟩ <;> try (cases hs; done)
      · try dsimp only at hs
        cases hc : (Nat.blt x0 len && Nat.blt x0 2147483648) with
        | false => rw [hc] at hs; cases hs
        | true =>
          rw [hc] at hs
          cases hs
          simp only [Bool.and_eq_true] at hc
          have h3 := y_blt.mp hc.1
          have h4 := y_blt.mp hc.2
          obtain ⟨ys, rfl, h1⟩ := y_ds_ci hst
          obtain ⟨b, zs, rfl, hb1, h2⟩ := y_ds_cr h1
          obtain ⟨b', e', g1, g2, cA, t0, rr, f, g0, g3, g4, rfl⟩ := hh.2.2 j _ hg
          have e2 : b' = b := Option.some.inj (g1.symm.trans hb1)
          subst e2
          refine va_aldq hx hb hK hP j t0 g2 g3 (y_in h3 h4) hdg (kk α tys ws H locs ls lv _ (List.prefix_refl _) ⟨hh, hl, y_ds_mk ?_ h2, hls, hP, hK, hD, hS⟩)
          rw [show y_i κ (.inl x0) = nI x0 from rfl, nI_clamp h4]
          have g5 := g4 x0 h3
          cases hm : y_getr m0 x0 with
          | none => rw [hm] at g5; rw [show f x0 = none from g5]; rfl
          | some j2 =>
            rw [hm] at g5
            obtain ⟨a2, g6, g7⟩ := g5
            rw [g7]
            exact Option.map_eq_some_iff.mpr ⟨a2, g6, rfl⟩

set_option maxHeartbeats 4000000 in
set_option maxRecDepth 100000 in
theorem y_st_iast {nx r1 r2 r3 : Nat} (C : y_ctx κ sc p R s m args meth c cc own yn nL A) (hH : y_H κ hy) (hT : y_T κ tb) (hok : y_okop nL own yn cc (pc, (.iastore, nx, r1, r2, r3)) = true) (hs : y_step sc κ.2.2.2 hy tb pc (.iastore, nx, r1, r2, r3) lo st h k n = some S') (hk : S'.2.2.2.2.1 ≤ R.cells) (hn : S'.2.2.2.2.2 ≤ R.slots) (Z : y_Z κ D A s nL α tys ws H locs ls lv sv lo st h)
    (kk : ∀ α' tys' ws' H' locs' ls' lv' sv', α <+: α' → y_Z κ D A s nL α' tys' ws' H' locs' ls' lv' sv' S'.2.1 S'.2.2.1 S'.2.2.2.1 → W p l e R s m args below meth c H' locs' S'.2.2.2.2.1 S'.2.2.2.2.2 Q (F0 m S'.1 ls' sv')) : W p l e R s m args below meth c H locs k n Q (F0 m pc ls sv) := by
  obtain ⟨hx, hb, hml, hown, hts, hyn, hAO, hA, hRf, hRl, hsc⟩ := C
  obtain ⟨hh, hl, hst, hls, hP, hK, hD, hS⟩ := Z
  unfold y_okop y_okin at hok
  simp only [Bool.and_eq_true, decide_eq_true_eq] at hok
  obtain ⟨hdg, hok⟩ := hok
  unfold y_step at hs
  dsimp only at hs
  obtain rfl := hok
  rw [Nat.add_sub_cancel_left] at hdg
  rcases st with _ | ⟨v | v, _ | ⟨(x0 | x0) | x0, _ | ⟨a | a | _ | _ | j, r⟩⟩⟩ <;> try (cases hs; done)
  · cases hg : h[j]? with
    | none => dsimp only at hs; rw [hg] at hs; cases hs
    | some c0 =>
      try dsimp only at hs
      rw [hg] at hs
      rcases c0 with ⟨ci, fs⟩ | ⟨_ | kd, len, m0⟩ | c0 <;> try (cases hs; done)
      · replace hs : (bif Nat.blt x0 len && Nat.blt x0 2147483648 then some (pc + 1, lo, r, h.set j (.inr (.inl (0, len, (x0, v) :: m0))), k, n) else none) = some S' := hs
        cases hc : (Nat.blt x0 len && Nat.blt x0 2147483648) with
        | false => rw [hc] at hs; cases hs
        | true =>
          rw [hc] at hs
          cases hs
          simp only [Bool.and_eq_true] at hc
          have h3 := y_blt.mp hc.1
          have h4 := y_blt.mp hc.2
          obtain ⟨xs, rfl, h0⟩ := y_ds_ci hst
          obtain ⟨ys, rfl, h1⟩ := y_ds_ci h0
          obtain ⟨b, zs, rfl, hb1, h2⟩ := y_ds_cr h1
          obtain ⟨b', e', g1, g2, cA, t0, f, g3, g4, rfl⟩ := hh.2.2 j _ hg
          have e2 : b' = b := Option.some.inj (g1.symm.trans hb1)
          subst e2
          refine va_iast hx hb hK hP hD hS j t0 g2 g3 (y_in h3 h4) hdg (fun H1 locs1 hP1 hD1 hS1 => ?_)
          rw [show y_i κ (.inl x0) = nI x0 from rfl, nI_clamp h4] at hP1 hD1
          exact kk α tys _ H1 locs1 ls lv _ (List.prefix_refl _) ⟨y_h_set hh hg g1 ⟨cA, t0, _, g3, y_get_upd rfl g4, rfl⟩, hl, h2, hls, hP1, hK, hD1, hS1⟩

set_option maxHeartbeats 4000000 in
set_option maxRecDepth 100000 in
theorem y_st_bast {nx r1 r2 r3 : Nat} (C : y_ctx κ sc p R s m args meth c cc own yn nL A) (hH : y_H κ hy) (hT : y_T κ tb) (hok : y_okop nL own yn cc (pc, (.bastore, nx, r1, r2, r3)) = true) (hs : y_step sc κ.2.2.2 hy tb pc (.bastore, nx, r1, r2, r3) lo st h k n = some S') (hk : S'.2.2.2.2.1 ≤ R.cells) (hn : S'.2.2.2.2.2 ≤ R.slots) (Z : y_Z κ D A s nL α tys ws H locs ls lv sv lo st h)
    (kk : ∀ α' tys' ws' H' locs' ls' lv' sv', α <+: α' → y_Z κ D A s nL α' tys' ws' H' locs' ls' lv' sv' S'.2.1 S'.2.2.1 S'.2.2.2.1 → W p l e R s m args below meth c H' locs' S'.2.2.2.2.1 S'.2.2.2.2.2 Q (F0 m S'.1 ls' sv')) : W p l e R s m args below meth c H locs k n Q (F0 m pc ls sv) := by
  obtain ⟨hx, hb, hml, hown, hts, hyn, hAO, hA, hRf, hRl, hsc⟩ := C
  obtain ⟨hh, hl, hst, hls, hP, hK, hD, hS⟩ := Z
  unfold y_okop y_okin at hok
  simp only [Bool.and_eq_true, decide_eq_true_eq] at hok
  obtain ⟨hdg, hok⟩ := hok
  unfold y_step at hs
  dsimp only at hs
  obtain rfl := hok
  rw [Nat.add_sub_cancel_left] at hdg
  rcases st with _ | ⟨(v | v) | v, _ | ⟨(x0 | x0) | x0, _ | ⟨a | a | _ | _ | j, r⟩⟩⟩ <;> try (cases hs; done)
  · cases hg : h[j]? with
    | none => dsimp only at hs; rw [hg] at hs; cases hs
    | some c0 =>
      try dsimp only at hs
      rw [hg] at hs
      rcases c0 with ⟨ci, fs⟩ | ⟨_ | _ | kd, len, m0⟩ | c0 <;> try (cases hs; done)
      · replace hs : (bif Nat.ble v 1 && (Nat.blt x0 len && Nat.blt x0 2147483648) then some (pc + 1, lo, r, h.set j (.inr (.inl (1, len, (x0, .inl v) :: m0))), k, n) else none) = some S' := hs
        cases hc : (Nat.ble v 1 && (Nat.blt x0 len && Nat.blt x0 2147483648)) with
        | false => rw [hc] at hs; cases hs
        | true =>
          rw [hc] at hs
          cases hs
          simp only [Bool.and_eq_true] at hc
          have h5 := y_ble.mp hc.1
          have h3 := y_blt.mp hc.2.1
          have h4 := y_blt.mp hc.2.2
          obtain ⟨xs, rfl, h0⟩ := y_ds_ci hst
          obtain ⟨ys, rfl, h1⟩ := y_ds_ci h0
          obtain ⟨b, zs, rfl, hb1, h2⟩ := y_ds_cr h1
          obtain ⟨b', e', g1, g2, cA, t0, f, g3, g4, rfl⟩ := hh.2.2 j _ hg
          have e2 : b' = b := Option.some.inj (g1.symm.trans hb1)
          subst e2
          refine va_zast hx hb hK hP hD hS j t0 g2 g3 (y_in h3 h4) hdg (fun H1 locs1 hP1 hD1 hS1 => ?_)
          rw [show y_i κ (.inl x0) = nI x0 from rfl, nI_clamp h4, show y_i κ (.inl v) = nI v from rfl, y_nbool h5] at hP1 hD1
          exact kk α tys _ H1 locs1 ls lv _ (List.prefix_refl _) ⟨y_h_set hh hg g1 ⟨cA, t0, _, g3, y_get_upd rfl g4, rfl⟩, hl, h2, hls, hP1, hK, hD1, hS1⟩

set_option maxHeartbeats 4000000 in
set_option maxRecDepth 100000 in
theorem y_st_cast {nx r1 r2 r3 : Nat} (C : y_ctx κ sc p R s m args meth c cc own yn nL A) (hH : y_H κ hy) (hT : y_T κ tb) (hok : y_okop nL own yn cc (pc, (.castore, nx, r1, r2, r3)) = true) (hs : y_step sc κ.2.2.2 hy tb pc (.castore, nx, r1, r2, r3) lo st h k n = some S') (hk : S'.2.2.2.2.1 ≤ R.cells) (hn : S'.2.2.2.2.2 ≤ R.slots) (Z : y_Z κ D A s nL α tys ws H locs ls lv sv lo st h)
    (kk : ∀ α' tys' ws' H' locs' ls' lv' sv', α <+: α' → y_Z κ D A s nL α' tys' ws' H' locs' ls' lv' sv' S'.2.1 S'.2.2.1 S'.2.2.2.1 → W p l e R s m args below meth c H' locs' S'.2.2.2.2.1 S'.2.2.2.2.2 Q (F0 m S'.1 ls' sv')) : W p l e R s m args below meth c H locs k n Q (F0 m pc ls sv) := by
  obtain ⟨hx, hb, hml, hown, hts, hyn, hAO, hA, hRf, hRl, hsc⟩ := C
  obtain ⟨hh, hl, hst, hls, hP, hK, hD, hS⟩ := Z
  unfold y_okop y_okin at hok
  simp only [Bool.and_eq_true, decide_eq_true_eq] at hok
  obtain ⟨hdg, hok⟩ := hok
  unfold y_step at hs
  dsimp only at hs
  obtain rfl := hok
  rw [Nat.add_sub_cancel_left] at hdg
  rcases st with _ | ⟨v | v, _ | ⟨(x0 | x0) | x0, _ | ⟨a | a | _ | _ | j, r⟩⟩⟩ <;> try (cases hs; done)
  · cases hg : h[j]? with
    | none => dsimp only at hs; rw [hg] at hs; cases hs
    | some c0 =>
      try dsimp only at hs
      rw [hg] at hs
      rcases c0 with ⟨ci, fs⟩ | ⟨_ | _ | _ | kd, len, m0⟩ | c0 <;> try (cases hs; done)
      · replace hs : (match y_lookT tb 2 v v with | some w => (bif Nat.blt x0 len && Nat.blt x0 2147483648 then some (pc + 1, lo, r, h.set j (.inr (.inl (2, len, (x0, w) :: m0))), k, n) else none) | none => none) = some S' := hs
        cases hw : y_lookT tb 2 v v with
        | none => rw [hw] at hs; cases hs
        | some u =>
        rw [hw] at hs
        dsimp only at hs
        cases hc : (Nat.blt x0 len && Nat.blt x0 2147483648) with
        | false => rw [hc] at hs; cases hs
        | true =>
          rw [hc] at hs
          cases hs
          simp only [Bool.and_eq_true] at hc
          have h3 := y_blt.mp hc.1
          have h4 := y_blt.mp hc.2
          obtain ⟨xs, rfl, h0⟩ := y_ds_ci hst
          obtain ⟨ys, rfl, h1⟩ := y_ds_ci h0
          obtain ⟨b, zs, rfl, hb1, h2⟩ := y_ds_cr h1
          obtain ⟨b', e', g1, g2, cA, t0, f, g3, g4, rfl⟩ := hh.2.2 j _ hg
          have e2 : b' = b := Option.some.inj (g1.symm.trans hb1)
          subst e2
          have hu : ((y_i κ v).toUInt32 % 65536).toInt32 = y_i κ u := y_lookT_ok hT hw
          refine va_cast hx hb hK hP hD hS j t0 g2 g3 (y_in h3 h4) hdg (fun H1 locs1 hP1 hD1 hS1 => ?_)
          rw [show y_i κ (.inl x0) = nI x0 from rfl, nI_clamp h4, y_nar, hu] at hP1 hD1
          exact kk α tys _ H1 locs1 ls lv _ (List.prefix_refl _) ⟨y_h_set hh hg g1 ⟨cA, t0, _, g3, y_get_upd rfl g4, rfl⟩, hl, h2, hls, hP1, hK, hD1, hS1⟩

set_option maxHeartbeats 4000000 in
set_option maxRecDepth 100000 in
theorem y_st_aast {nx r1 r2 r3 : Nat} (C : y_ctx κ sc p R s m args meth c cc own yn nL A) (hH : y_H κ hy) (hT : y_T κ tb) (hok : y_okop nL own yn cc (pc, (.aastore, nx, r1, r2, r3)) = true) (hs : y_step sc κ.2.2.2 hy tb pc (.aastore, nx, r1, r2, r3) lo st h k n = some S') (hk : S'.2.2.2.2.1 ≤ R.cells) (hn : S'.2.2.2.2.2 ≤ R.slots) (Z : y_Z κ D A s nL α tys ws H locs ls lv sv lo st h)
    (kk : ∀ α' tys' ws' H' locs' ls' lv' sv', α <+: α' → y_Z κ D A s nL α' tys' ws' H' locs' ls' lv' sv' S'.2.1 S'.2.2.1 S'.2.2.2.1 → W p l e R s m args below meth c H' locs' S'.2.2.2.2.1 S'.2.2.2.2.2 Q (F0 m S'.1 ls' sv')) : W p l e R s m args below meth c H locs k n Q (F0 m pc ls sv) := by
  obtain ⟨hx, hb, hml, hown, hts, hyn, hAO, hA, hRf, hRl, hsc⟩ := C
  obtain ⟨hh, hl, hst, hls, hP, hK, hD, hS⟩ := Z
  unfold y_okop y_okin at hok
  simp only [Bool.and_eq_true, decide_eq_true_eq] at hok
  obtain ⟨hdg, hok⟩ := hok
  unfold y_step at hs
  dsimp only at hs
  obtain rfl := hok
  rw [Nat.add_sub_cancel_left] at hdg
  rcases st with _ | ⟨v0 | v0 | _ | _ | v, _ | ⟨(x0 | x0) | x0, _ | ⟨a | a | _ | _ | j, r⟩⟩⟩ <;> try (cases hs; done)
  · cases hg : h[j]? with
    | none => dsimp only at hs; rw [hg] at hs; cases hs
    | some c0 =>
      try dsimp only at hs
      rw [hg] at hs
      rcases c0 with ⟨ci, fs⟩ | ⟨kd, len, m0⟩ | ⟨ci, len, m0⟩ <;> try (cases hs; done)
      · try dsimp only at hs
        cases hw : h[v]? with
        | none => rw [hw] at hs; cases hs
        | some c1 =>
        rw [hw] at hs
        rcases c1 with ⟨cv, fv⟩ | c1
        · try dsimp only at hs
          cases hc : (Nat.beq cv ci && (Nat.blt x0 len && Nat.blt x0 2147483648)) with
          | false => rw [hc] at hs; cases hs
          | true =>
            rw [hc] at hs
            cases hs
            simp only [Bool.and_eq_true] at hc
            have h5 := y_beq.mp hc.1
            subst h5
            have h3 := y_blt.mp hc.2.1
            have h4 := y_blt.mp hc.2.2
            obtain ⟨va, xs, rfl, hv1, h0⟩ := y_ds_cr hst
            obtain ⟨ys, rfl, h1⟩ := y_ds_ci h0
            obtain ⟨b, zs, rfl, hb1, h2⟩ := y_ds_cr h1
            obtain ⟨b', e', g1, g2, cA, t0, rr, f, g0, g3, g4, rfl⟩ := hh.2.2 j _ hg
            have e2 : b' = b := Option.some.inj (g1.symm.trans hb1)
            subst e2
            obtain ⟨v', e3, f1, f2, vs, f3, rfl⟩ := hh.2.2 v _ hw
            have e4 : v' = va := Option.some.inj (f1.symm.trans hv1)
            subst e4
            refine va_astq hx hb hK hP hD hS j t0 v cv g2 g3 f2 g0 (y_in h3 h4) hdg (fun H1 locs1 hP1 hD1 hS1 => ?_)
            rw [show y_i κ (.inl x0) = nI x0 from rfl, nI_clamp h4] at hP1 hD1
            refine kk α tys _ H1 locs1 ls lv _ (List.prefix_refl _) ⟨y_h_set hh hg g1 ⟨cA, t0, rr, _, g0, g3, fun i hi => ?_, rfl⟩, hl, h2, hls, hP1, hK, hD1, hS1⟩
            have e5 : y_getr ((x0, some (v + 1)) :: m0) i = (bif Nat.beq x0 i then some (v + 1) else y_getr m0 i) := rfl
            rw [e5]
            cases hq : Nat.beq x0 i with
            | true =>
              have e6 := y_beq.mp hq
              subst e6
              exact ⟨v', hv1, by show (if x0 = x0 then some v' else f x0) = some v'; rw [if_pos rfl]⟩
            | false =>
              have e6 : ¬ i = x0 := fun z => by rw [z, Nat.beq_refl] at hq; cases hq
              have e7 : va_up f x0 (some v') i = f i := if_neg e6
              have g5 := g4 i hi
              show match y_getr m0 i with | none => va_up f x0 (some v') i = none | some j2 => ∃ a, y_r κ α j2 = some a ∧ va_up f x0 (some v') i = some a
              rw [e7]
              exact g5
        · cases hs

set_option maxHeartbeats 4000000 in
set_option maxRecDepth 100000 in
theorem y_st_alen {nx r1 r2 r3 : Nat} (C : y_ctx κ sc p R s m args meth c cc own yn nL A) (hH : y_H κ hy) (hT : y_T κ tb) (hok : y_okop nL own yn cc (pc, (.arraylength, nx, r1, r2, r3)) = true) (hs : y_step sc κ.2.2.2 hy tb pc (.arraylength, nx, r1, r2, r3) lo st h k n = some S') (hk : S'.2.2.2.2.1 ≤ R.cells) (hn : S'.2.2.2.2.2 ≤ R.slots) (Z : y_Z κ D A s nL α tys ws H locs ls lv sv lo st h)
    (kk : ∀ α' tys' ws' H' locs' ls' lv' sv', α <+: α' → y_Z κ D A s nL α' tys' ws' H' locs' ls' lv' sv' S'.2.1 S'.2.2.1 S'.2.2.2.1 → W p l e R s m args below meth c H' locs' S'.2.2.2.2.1 S'.2.2.2.2.2 Q (F0 m S'.1 ls' sv')) : W p l e R s m args below meth c H locs k n Q (F0 m pc ls sv) := by
  obtain ⟨hx, hb, hml, hown, hts, hyn, hAO, hA, hRf, hRl, hsc⟩ := C
  obtain ⟨hh, hl, hst, hls, hP, hK, hD, hS⟩ := Z
  unfold y_okop y_okin at hok
  simp only [Bool.and_eq_true, decide_eq_true_eq] at hok
  obtain ⟨hdg, hok⟩ := hok
  unfold y_step at hs
  dsimp only at hs
  obtain rfl := hok
  rw [Nat.add_sub_cancel_left] at hdg
  rcases st with _ | ⟨a | a | _ | _ | j, r⟩ <;> try (cases hs; done)
  · try dsimp only at hs
    cases hc : (sc && Nat.blt κ.2.2.2 2147483648) with
    | false => rw [hc] at hs; cases hs
    | true =>
      rw [hc] at hs
      cases hs
      simp only [Bool.and_eq_true] at hc
      obtain ⟨hX, hbl, hbA⟩ := hsc hc.1
      obtain ⟨b, zs, rfl, hb1, h2⟩ := y_ds_cr hst
      cases hb1
      exact va_slen hx hb hX hbl hbA hS hdg (kk α tys ws H locs ls lv _ (List.prefix_refl _) ⟨hh, hl, y_ds_i rfl h2, hls, hP, hK, hD, hS⟩)
  · cases hg : h[j]? with
    | none => dsimp only at hs; rw [hg] at hs; cases hs
    | some c0 =>
      try dsimp only at hs
      rw [hg] at hs
      rcases c0 with ⟨ci, fs⟩ | ⟨_ | kd, len, m0⟩ | c0 <;> try (cases hs; done)
      · cases hs
        obtain ⟨b, zs, rfl, hb1, h2⟩ := y_ds_cr hst
        obtain ⟨b', e', g1, g2, cA, t0, f, g3, g4, rfl⟩ := hh.2.2 j _ hg
        have e2 : b' = b := Option.some.inj (g1.symm.trans hb1)
        subst e2
        exact va_alen hx hb hK hP j t0 g2 g3 rfl hdg (kk α tys ws H locs ls lv _ (List.prefix_refl _) ⟨hh, hl, y_ds_i rfl h2, hls, hP, hK, hD, hS⟩)

set_option maxHeartbeats 4000000 in
set_option maxRecDepth 100000 in
theorem y_st_new {i : Nat} {nx r1 r2 r3 : Nat} (C : y_ctx κ sc p R s m args meth c cc own yn nL A) (hH : y_H κ hy) (hT : y_T κ tb) (hok : y_okop nL own yn cc (pc, (.new i, nx, r1, r2, r3)) = true) (hs : y_step sc κ.2.2.2 hy tb pc (.new i, nx, r1, r2, r3) lo st h k n = some S') (hk : S'.2.2.2.2.1 ≤ R.cells) (hn : S'.2.2.2.2.2 ≤ R.slots) (Z : y_Z κ D A s nL α tys ws H locs ls lv sv lo st h)
    (kk : ∀ α' tys' ws' H' locs' ls' lv' sv', α <+: α' → y_Z κ D A s nL α' tys' ws' H' locs' ls' lv' sv' S'.2.1 S'.2.2.1 S'.2.2.2.1 → W p l e R s m args below meth c H' locs' S'.2.2.2.2.1 S'.2.2.2.2.2 Q (F0 m S'.1 ls' sv')) : W p l e R s m args below meth c H locs k n Q (F0 m pc ls sv) := by
  obtain ⟨hx, hb, hml, hown, hts, hyn, hAO, hA, hRf, hRl, hsc⟩ := C
  obtain ⟨hh, hl, hst, hls, hP, hK, hD, hS⟩ := Z
  unfold y_okop y_okin at hok
  simp only [Bool.and_eq_true, decide_eq_true_eq] at hok
  obtain ⟨hdg, hok⟩ := hok
  unfold y_step at hs
  dsimp only at hs
  obtain ⟨rfl, hnw⟩ := hok
  rw [Nat.add_sub_cancel_left] at hdg
  cases hs
  unfold y_nw at hnw
  cases hr : vwCl[r1]? with
  | none => rw [hr] at hnw; cases hnw
  | some rr =>
    rw [hr] at hnw
    obtain ⟨C1, T1, N1⟩ := rr
    simp only [Bool.and_eq_true, decide_eq_true_eq, List.all_eq_true, List.mem_range] at hnw
    obtain ⟨e1, q1, q2, q3, q4⟩ := hnw
    subst e1
    obtain ⟨k1, k2, k3⟩ := y_cls_ok hr
    have hds : ∀ α' : List Nat, y_ds κ α' ((List.range N1).map (fun k => bif Nat.testBit r3 k then .inr (.inr none) else .inl (.inl 0))) ((List.range N1).map (fun k => bif Nat.testBit r3 k then Value.null else Value.int 0)) := by
      intro α'
      show List.map _ (List.map _ _) = List.map _ (List.map _ _)
      rw [List.map_map, List.map_map]
      refine List.map_congr_left (fun z _ => ?_)
      show y_d κ α' (bif Nat.testBit r3 z then .inr (.inr none) else .inl (.inl 0)) = some (bif Nat.testBit r3 z then Value.null else Value.int 0)
      cases Nat.testBit r3 z <;> rfl
    refine va_new (fs := (List.range N1).map (fun k => bif Nat.testBit r3 k then Value.null else Value.int 0)) hx hb hts k1 _ k2 hown (hts _ (yM_ok q1)) (hts _ (yM_ok q2)) (hts _ (yM_ok q3)) hK hP hD hS hA hr (fun z hz => ?_) hk hn hdg (fun q H1 hP1 hD1 hS1 => ?_)
    · have hd := q4 z hz
      have e2 : vp_V ((List.range N1).map (fun k => bif Nat.testBit r3 k then Value.null else Value.int 0)) z = (bif Nat.testBit r3 z then Value.null else Value.int 0) := by
        unfold vp_V
        rw [List.getD_eq_getElem?_getD, List.getElem?_map, List.getElem?_range hz]
        rfl
      rw [e2]
      rw [k2 z hz] at hd
      dsimp only at hd ⊢
      generalize (parseFieldDescriptor (T1 z).2.2.1).getD .int = ty at hd ⊢
      cases ty <;> cases hb3 : Nat.testBit r3 z <;> rw [hb3] at hd <;> first | rfl | cases hd
    · exact kk (α ++ [q]) tys _ H1 locs ls lv _ (List.prefix_append _ _) ⟨y_h_push q (List.prefix_refl _) hh ⟨_, hds _, rfl⟩, y_dl_mono (List.prefix_append _ _) hl, y_ds_mk (y_new_ref q hh.1) (y_ds_mono (List.prefix_append _ _) hst), hls, hP1, hK, hD1, hS1⟩

set_option maxHeartbeats 4000000 in
set_option maxRecDepth 100000 in
theorem y_st_newa_int {nx r1 r2 r3 : Nat} (C : y_ctx κ sc p R s m args meth c cc own yn nL A) (hH : y_H κ hy) (hT : y_T κ tb) (hok : y_okop nL own yn cc (pc, (.newarray .int, nx, r1, r2, r3)) = true) (hs : y_step sc κ.2.2.2 hy tb pc (.newarray .int, nx, r1, r2, r3) lo st h k n = some S') (hk : S'.2.2.2.2.1 ≤ R.cells) (hn : S'.2.2.2.2.2 ≤ R.slots) (Z : y_Z κ D A s nL α tys ws H locs ls lv sv lo st h)
    (kk : ∀ α' tys' ws' H' locs' ls' lv' sv', α <+: α' → y_Z κ D A s nL α' tys' ws' H' locs' ls' lv' sv' S'.2.1 S'.2.2.1 S'.2.2.2.1 → W p l e R s m args below meth c H' locs' S'.2.2.2.2.1 S'.2.2.2.2.2 Q (F0 m S'.1 ls' sv')) : W p l e R s m args below meth c H locs k n Q (F0 m pc ls sv) := by
  obtain ⟨hx, hb, hml, hown, hts, hyn, hAO, hA, hRf, hRl, hsc⟩ := C
  obtain ⟨hh, hl, hst, hls, hP, hK, hD, hS⟩ := Z
  unfold y_okop y_okin at hok
  simp only [Bool.and_eq_true, decide_eq_true_eq] at hok
  obtain ⟨hdg, hok⟩ := hok
  unfold y_step at hs
  dsimp only at hs
  obtain ⟨rfl, rfl, hac⟩ := hok
  rw [Nat.add_sub_cancel_left] at hdg
  rcases st with _ | ⟨(x0 | x0) | x0, r⟩ <;> try (cases hs; done)
  · try dsimp only at hs
    cases hc : Nat.ble x0 100000 with
    | false => rw [hc] at hs; cases hs
    | true =>
      rw [hc] at hs
      cases hs
      have h3 := y_ble.mp hc
      obtain ⟨ys, rfl, h1⟩ := y_ds_ci hst
      refine va_newa (atype := .int) (ty := .int) (N' := x0) (a0 := (x0, .inl (fun _ => 0))) hx hb (hts _ (yM_ok hac)) rfl hK hP hD hS hA (fun _ => rfl) (nI_pos (by omega)) (nI_clamp (by omega)) (by show x0 * 4 ≤ 536870912; omega) hk hn hdg (fun q cA H1 hK1 hP1 hD1 hS1 => ?_)
      refine kk (α ++ [q]) _ _ H1 locs ls lv _ (List.prefix_append _ _) ⟨y_h_push q (List.prefix_append _ _) hh ⟨cA, tys.length, fun _ => 0, ?_, fun i hi => nI_0.symm, rfl⟩, y_dl_mono (List.prefix_append _ _) hl, y_ds_mk (y_new_ref q hh.1) (y_ds_mono (List.prefix_append _ _) h1), hls, hP1, hK1, hD1, hS1⟩
      simp [y_ty]

set_option maxHeartbeats 4000000 in
set_option maxRecDepth 100000 in
theorem y_st_newa_boolean {nx r1 r2 r3 : Nat} (C : y_ctx κ sc p R s m args meth c cc own yn nL A) (hH : y_H κ hy) (hT : y_T κ tb) (hok : y_okop nL own yn cc (pc, (.newarray .boolean, nx, r1, r2, r3)) = true) (hs : y_step sc κ.2.2.2 hy tb pc (.newarray .boolean, nx, r1, r2, r3) lo st h k n = some S') (hk : S'.2.2.2.2.1 ≤ R.cells) (hn : S'.2.2.2.2.2 ≤ R.slots) (Z : y_Z κ D A s nL α tys ws H locs ls lv sv lo st h)
    (kk : ∀ α' tys' ws' H' locs' ls' lv' sv', α <+: α' → y_Z κ D A s nL α' tys' ws' H' locs' ls' lv' sv' S'.2.1 S'.2.2.1 S'.2.2.2.1 → W p l e R s m args below meth c H' locs' S'.2.2.2.2.1 S'.2.2.2.2.2 Q (F0 m S'.1 ls' sv')) : W p l e R s m args below meth c H locs k n Q (F0 m pc ls sv) := by
  obtain ⟨hx, hb, hml, hown, hts, hyn, hAO, hA, hRf, hRl, hsc⟩ := C
  obtain ⟨hh, hl, hst, hls, hP, hK, hD, hS⟩ := Z
  unfold y_okop y_okin at hok
  simp only [Bool.and_eq_true, decide_eq_true_eq] at hok
  obtain ⟨hdg, hok⟩ := hok
  unfold y_step at hs
  dsimp only at hs
  obtain ⟨rfl, rfl, hac⟩ := hok
  rw [Nat.add_sub_cancel_left] at hdg
  rcases st with _ | ⟨(x0 | x0) | x0, r⟩ <;> try (cases hs; done)
  · try dsimp only at hs
    cases hc : Nat.ble x0 100000 with
    | false => rw [hc] at hs; cases hs
    | true =>
      rw [hc] at hs
      cases hs
      have h3 := y_ble.mp hc
      obtain ⟨ys, rfl, h1⟩ := y_ds_ci hst
      refine va_newa (atype := .boolean) (ty := .boolean) (N' := x0) (a0 := (x0, .inl (fun _ => 0))) hx hb (hts _ (yM_ok hac)) rfl hK hP hD hS hA (fun _ => rfl) (nI_pos (by omega)) (nI_clamp (by omega)) (by show x0 * 1 ≤ 536870912; omega) hk hn hdg (fun q cA H1 hK1 hP1 hD1 hS1 => ?_)
      refine kk (α ++ [q]) _ _ H1 locs ls lv _ (List.prefix_append _ _) ⟨y_h_push q (List.prefix_append _ _) hh ⟨cA, tys.length, fun _ => 0, ?_, fun i hi => nI_0.symm, rfl⟩, y_dl_mono (List.prefix_append _ _) hl, y_ds_mk (y_new_ref q hh.1) (y_ds_mono (List.prefix_append _ _) h1), hls, hP1, hK1, hD1, hS1⟩
      simp [y_ty]

set_option maxHeartbeats 4000000 in
set_option maxRecDepth 100000 in
theorem y_st_newa_char {nx r1 r2 r3 : Nat} (C : y_ctx κ sc p R s m args meth c cc own yn nL A) (hH : y_H κ hy) (hT : y_T κ tb) (hok : y_okop nL own yn cc (pc, (.newarray .char, nx, r1, r2, r3)) = true) (hs : y_step sc κ.2.2.2 hy tb pc (.newarray .char, nx, r1, r2, r3) lo st h k n = some S') (hk : S'.2.2.2.2.1 ≤ R.cells) (hn : S'.2.2.2.2.2 ≤ R.slots) (Z : y_Z κ D A s nL α tys ws H locs ls lv sv lo st h)
    (kk : ∀ α' tys' ws' H' locs' ls' lv' sv', α <+: α' → y_Z κ D A s nL α' tys' ws' H' locs' ls' lv' sv' S'.2.1 S'.2.2.1 S'.2.2.2.1 → W p l e R s m args below meth c H' locs' S'.2.2.2.2.1 S'.2.2.2.2.2 Q (F0 m S'.1 ls' sv')) : W p l e R s m args below meth c H locs k n Q (F0 m pc ls sv) := by
  obtain ⟨hx, hb, hml, hown, hts, hyn, hAO, hA, hRf, hRl, hsc⟩ := C
  obtain ⟨hh, hl, hst, hls, hP, hK, hD, hS⟩ := Z
  unfold y_okop y_okin at hok
  simp only [Bool.and_eq_true, decide_eq_true_eq] at hok
  obtain ⟨hdg, hok⟩ := hok
  unfold y_step at hs
  dsimp only at hs
  obtain ⟨rfl, rfl, hac⟩ := hok
  rw [Nat.add_sub_cancel_left] at hdg
  rcases st with _ | ⟨(x0 | x0) | x0, r⟩ <;> try (cases hs; done)
  · try dsimp only at hs
    cases hc : Nat.ble x0 100000 with
    | false => rw [hc] at hs; cases hs
    | true =>
      rw [hc] at hs
      cases hs
      have h3 := y_ble.mp hc
      obtain ⟨ys, rfl, h1⟩ := y_ds_ci hst
      refine va_newa (atype := .char) (ty := .char) (N' := x0) (a0 := (x0, .inl (fun _ => 0))) hx hb (hts _ (yM_ok hac)) rfl hK hP hD hS hA (fun _ => rfl) (nI_pos (by omega)) (nI_clamp (by omega)) (by show x0 * 2 ≤ 536870912; omega) hk hn hdg (fun q cA H1 hK1 hP1 hD1 hS1 => ?_)
      refine kk (α ++ [q]) _ _ H1 locs ls lv _ (List.prefix_append _ _) ⟨y_h_push q (List.prefix_append _ _) hh ⟨cA, tys.length, fun _ => 0, ?_, fun i hi => nI_0.symm, rfl⟩, y_dl_mono (List.prefix_append _ _) hl, y_ds_mk (y_new_ref q hh.1) (y_ds_mono (List.prefix_append _ _) h1), hls, hP1, hK1, hD1, hS1⟩
      simp [y_ty]

set_option maxHeartbeats 4000000 in
set_option maxRecDepth 100000 in
theorem y_st_newa_long {nx r1 r2 r3 : Nat} (C : y_ctx κ sc p R s m args meth c cc own yn nL A) (hH : y_H κ hy) (hT : y_T κ tb) (hok : y_okop nL own yn cc (pc, (.newarray .long, nx, r1, r2, r3)) = true) (hs : y_step sc κ.2.2.2 hy tb pc (.newarray .long, nx, r1, r2, r3) lo st h k n = some S') (hk : S'.2.2.2.2.1 ≤ R.cells) (hn : S'.2.2.2.2.2 ≤ R.slots) (Z : y_Z κ D A s nL α tys ws H locs ls lv sv lo st h)
    (kk : ∀ α' tys' ws' H' locs' ls' lv' sv', α <+: α' → y_Z κ D A s nL α' tys' ws' H' locs' ls' lv' sv' S'.2.1 S'.2.2.1 S'.2.2.2.1 → W p l e R s m args below meth c H' locs' S'.2.2.2.2.1 S'.2.2.2.2.2 Q (F0 m S'.1 ls' sv')) : W p l e R s m args below meth c H locs k n Q (F0 m pc ls sv) := by
  obtain ⟨hx, hb, hml, hown, hts, hyn, hAO, hA, hRf, hRl, hsc⟩ := C
  obtain ⟨hh, hl, hst, hls, hP, hK, hD, hS⟩ := Z
  unfold y_okop y_okin at hok
  simp only [Bool.and_eq_true, decide_eq_true_eq] at hok
  obtain ⟨hdg, hok⟩ := hok
  unfold y_step at hs
  dsimp only at hs
  obtain ⟨rfl, rfl, hac⟩ := hok
  rw [Nat.add_sub_cancel_left] at hdg
  rcases st with _ | ⟨(x0 | x0) | x0, r⟩ <;> try (cases hs; done)
  · try dsimp only at hs
    cases hc : Nat.ble x0 100000 with
    | false => rw [hc] at hs; cases hs
    | true =>
      rw [hc] at hs
      cases hs
      have h3 := y_ble.mp hc
      obtain ⟨ys, rfl, h1⟩ := y_ds_ci hst
      refine va_newa (atype := .long) (ty := .long) (N' := x0) (a0 := (x0, .inr (.inl (fun _ => 0)))) hx hb (hts _ (yM_ok hac)) rfl hK hP hD hS hA (fun _ => rfl) (nI_pos (by omega)) (nI_clamp (by omega)) (by show x0 * 8 ≤ 536870912; omega) hk hn hdg (fun q cA H1 hK1 hP1 hD1 hS1 => ?_)
      refine kk (α ++ [q]) _ _ H1 locs ls lv _ (List.prefix_append _ _) ⟨y_h_push q (List.prefix_append _ _) hh ⟨cA, tys.length, fun _ => 0, ?_, fun i hi => rfl, rfl⟩, y_dl_mono (List.prefix_append _ _) hl, y_ds_mk (y_new_ref q hh.1) (y_ds_mono (List.prefix_append _ _) h1), hls, hP1, hK1, hD1, hS1⟩
      simp

set_option maxHeartbeats 4000000 in
set_option maxRecDepth 100000 in
theorem y_st_anewa {i : Nat} {nx r1 r2 r3 : Nat} (C : y_ctx κ sc p R s m args meth c cc own yn nL A) (hH : y_H κ hy) (hT : y_T κ tb) (hok : y_okop nL own yn cc (pc, (.anewarray i, nx, r1, r2, r3)) = true) (hs : y_step sc κ.2.2.2 hy tb pc (.anewarray i, nx, r1, r2, r3) lo st h k n = some S') (hk : S'.2.2.2.2.1 ≤ R.cells) (hn : S'.2.2.2.2.2 ≤ R.slots) (Z : y_Z κ D A s nL α tys ws H locs ls lv sv lo st h)
    (kk : ∀ α' tys' ws' H' locs' ls' lv' sv', α <+: α' → y_Z κ D A s nL α' tys' ws' H' locs' ls' lv' sv' S'.2.1 S'.2.2.1 S'.2.2.2.1 → W p l e R s m args below meth c H' locs' S'.2.2.2.2.1 S'.2.2.2.2.2 Q (F0 m S'.1 ls' sv')) : W p l e R s m args below meth c H locs k n Q (F0 m pc ls sv) := by
  obtain ⟨hx, hb, hml, hown, hts, hyn, hAO, hA, hRf, hRl, hsc⟩ := C
  obtain ⟨hh, hl, hst, hls, hP, hK, hD, hS⟩ := Z
  unfold y_okop y_okin at hok
  simp only [Bool.and_eq_true, decide_eq_true_eq] at hok
  obtain ⟨hdg, hok⟩ := hok
  unfold y_step at hs
  dsimp only at hs
  obtain ⟨rfl, han⟩ := hok
  rw [Nat.add_sub_cancel_left] at hdg
  rcases st with _ | ⟨(x0 | x0) | x0, r⟩ <;> try (cases hs; done)
  · try dsimp only at hs
    cases hc : Nat.ble x0 100000 with
    | false => rw [hc] at hs; cases hs
    | true =>
      rw [hc] at hs
      cases hs
      have h3 := y_ble.mp hc
      obtain ⟨ys, rfl, h1⟩ := y_ds_ci hst
      unfold y_an at han
      cases hr : vwCl[r1]? with
      | none => rw [hr] at han; cases han
      | some rr =>
        rw [hr] at han
        obtain ⟨C1, T1, N1⟩ := rr
        simp only [Bool.and_eq_true, decide_eq_true_eq] at han
        obtain ⟨e1, q1⟩ := han
        subst e1
        refine va_newq (N' := x0) hx hb hown (hts _ (yM_ok q1)) hAO.1 hK hP hD hS hA (nI_pos (by omega)) (nI_clamp (by omega)) (by omega) hk hn hdg (fun q cA H1 hK1 hP1 hD1 hS1 => ?_)
        refine kk (α ++ [q]) _ _ H1 locs ls lv _ (List.prefix_append _ _) ⟨y_h_push q (List.prefix_append _ _) hh ⟨cA, tys.length, _, fun _ => none, hr, ?_, fun i hi => rfl, rfl⟩, y_dl_mono (List.prefix_append _ _) hl, y_ds_mk (y_new_ref q hh.1) (y_ds_mono (List.prefix_append _ _) h1), hls, hP1, hK1, hD1, hS1⟩
        simp

set_option maxHeartbeats 4000000 in
set_option maxRecDepth 100000 in
theorem y_st_spec {i : Nat} {nx r1 r2 r3 : Nat} (C : y_ctx κ sc p R s m args meth c cc own yn nL A) (hH : y_H κ hy) (hT : y_T κ tb) (hok : y_okop nL own yn cc (pc, (.invokespecial i, nx, r1, r2, r3)) = true) (hs : y_step sc κ.2.2.2 hy tb pc (.invokespecial i, nx, r1, r2, r3) lo st h k n = some S') (hk : S'.2.2.2.2.1 ≤ R.cells) (hn : S'.2.2.2.2.2 ≤ R.slots) (Z : y_Z κ D A s nL α tys ws H locs ls lv sv lo st h)
    (kk : ∀ α' tys' ws' H' locs' ls' lv' sv', α <+: α' → y_Z κ D A s nL α' tys' ws' H' locs' ls' lv' sv' S'.2.1 S'.2.2.1 S'.2.2.2.1 → W p l e R s m args below meth c H' locs' S'.2.2.2.2.1 S'.2.2.2.2.2 Q (F0 m S'.1 ls' sv')) : W p l e R s m args below meth c H locs k n Q (F0 m pc ls sv) := by
  obtain ⟨hx, hb, hml, hown, hts, hyn, hAO, hA, hRf, hRl, hsc⟩ := C
  obtain ⟨hh, hl, hst, hls, hP, hK, hD, hS⟩ := Z
  unfold y_okop y_okin at hok
  simp only [Bool.and_eq_true, decide_eq_true_eq] at hok
  obtain ⟨hdg, hok⟩ := hok
  unfold y_step at hs
  dsimp only at hs
  obtain ⟨rfl, hoi⟩ := hok
  rw [Nat.add_sub_cancel_left] at hdg
  rcases st with _ | ⟨a | a | _ | _ | j, r⟩ <;> try (cases hs; done)
  · try dsimp only at hs
    cases hc : (Nat.beq r3 99 && Nat.ble (y_cats r) 8) with
    | false => rw [hc] at hs; cases hs
    | true =>
      rw [hc] at hs
      cases hs
      simp only [Bool.and_eq_true] at hc
      simp only [Bool.or_eq_true, Bool.not_eq_true', Bool.and_eq_true] at hoi
      obtain ⟨b, zs, rfl, hb1, h2⟩ := y_ds_cr hst
      rcases hoi with hoi | ⟨q1, q2, q3⟩
      · rw [hc.1] at hoi; cases hoi
      · have h8 : (zs.map fun v => v.category).sum ≤ 8 := by rw [y_cats_ok h2]; exact y_ble.mp hc.2
        have h9 := lv_room (m := m) (pc := pc) (ls := ls) (rest := .ref b :: zs) h8
        refine W.objInit hx hb hown (hts _ (yM_ok q1)) (hts _ (yM_ok q2)) (hts _ (yM_ok q3)) rfl (by rw [hml]; exact hls.1) rfl hdg hRf (by omega) ?_
        refine W.eq (g2 := F0 m (pc + 3) ls zs) rfl ?_
        exact kk α tys ws H locs ls lv _ (List.prefix_refl _) ⟨hh, hl, h2, hls, hP, hK, hD, hS⟩

set_option maxHeartbeats 4000000 in
set_option maxRecDepth 100000 in
theorem y_st_stat {i : Nat} {nx r1 r2 r3 : Nat} (C : y_ctx κ sc p R s m args meth c cc own yn nL A) (hH : y_H κ hy) (hT : y_T κ tb) (hok : y_okop nL own yn cc (pc, (.invokestatic i, nx, r1, r2, r3)) = true) (hs : y_step sc κ.2.2.2 hy tb pc (.invokestatic i, nx, r1, r2, r3) lo st h k n = some S') (hk : S'.2.2.2.2.1 ≤ R.cells) (hn : S'.2.2.2.2.2 ≤ R.slots) (Z : y_Z κ D A s nL α tys ws H locs ls lv sv lo st h)
    (kk : ∀ α' tys' ws' H' locs' ls' lv' sv', α <+: α' → y_Z κ D A s nL α' tys' ws' H' locs' ls' lv' sv' S'.2.1 S'.2.2.1 S'.2.2.2.1 → W p l e R s m args below meth c H' locs' S'.2.2.2.2.1 S'.2.2.2.2.2 Q (F0 m S'.1 ls' sv')) : W p l e R s m args below meth c H locs k n Q (F0 m pc ls sv) := by
  obtain ⟨hx, hb, hml, hown, hts, hyn, hAO, hA, hRf, hRl, hsc⟩ := C
  obtain ⟨hh, hl, hst, hls, hP, hK, hD, hS⟩ := Z
  unfold y_okop y_okin at hok
  simp only [Bool.and_eq_true, decide_eq_true_eq] at hok
  obtain ⟨hdg, hok⟩ := hok
  unfold y_step at hs
  dsimp only at hs
  obtain ⟨rfl, hoi, hmx, hmn⟩ := hok
  rw [Nat.add_sub_cancel_left] at hdg
  cases h98 : Nat.beq r3 98 with
  | true =>
    rw [h98] at hs
    simp only [cond_true] at hs
    rcases st with _ | ⟨(k0 | k0) | k0, _ | ⟨(dp | dp) | dp, _ | ⟨a | a | _ | _ | j, _ | ⟨(sp | sp) | sp, _ | ⟨a2 | a2 | _ | _ | j0, r⟩⟩⟩⟩⟩ <;> try (cases hs; done)
    · try dsimp only at hs
      cases hg0 : h[j0]? with
      | none => rw [hg0] at hs; cases hs
      | some c0 =>
      rw [hg0] at hs
      rcases c0 with ⟨ci, fs⟩ | ⟨_ | kd, n0, m0⟩ | c0 <;> try (cases hs; done)
      · try dsimp only at hs
        cases hg : h[j]? with
        | none => rw [hg] at hs; cases hs
        | some c1 =>
        rw [hg] at hs
        rcases c1 with ⟨ci, fs⟩ | ⟨_ | kd, n1, m1⟩ | c1 <;> try (cases hs; done)
        · replace hs : (bif true && (Nat.ble (y_cats r) 8 && (Nat.ble (sp + k0) n0 && (Nat.ble (dp + k0) n1 && (Nat.blt sp 2147483648 && (Nat.blt dp 2147483648 && Nat.blt k0 2147483648))))) then some (pc + 3, lo, r, h.set j (.inr (.inl (0, n1, (List.range k0).map (fun x => (dp + x, y_get m0 (sp + x))) ++ m1))), k, n) else none) = some S' := hs
          cases hc : (true && (Nat.ble (y_cats r) 8 && (Nat.ble (sp + k0) n0 && (Nat.ble (dp + k0) n1 && (Nat.blt sp 2147483648 && (Nat.blt dp 2147483648 && Nat.blt k0 2147483648)))))) with
          | false => rw [hc] at hs; cases hs
          | true =>
            rw [hc] at hs
            cases hs
            simp only [Bool.and_eq_true] at hc
            obtain ⟨c1, c2, c3, c4, c5, c6, c7⟩ := hc
            have c3 := y_ble.mp c3
            have c4 := y_ble.mp c4
            have c5 := y_blt.mp c5
            have c6 := y_blt.mp c6
            have c7 := y_blt.mp c7
            simp only [Bool.or_eq_true, Bool.not_eq_true', Bool.and_eq_true] at hoi
            obtain ⟨z1, rfl, h1⟩ := y_ds_ci hst
            obtain ⟨z2, rfl, h2⟩ := y_ds_ci h1
            obtain ⟨b, z3, rfl, hb1, h3⟩ := y_ds_cr h2
            obtain ⟨z4, rfl, h4⟩ := y_ds_ci h3
            obtain ⟨b0, z5, rfl, hb0, h5⟩ := y_ds_cr h4
            rcases hoi with hoi | ⟨q1, q2, q3, q4⟩
            · rw [h98] at hoi; cases hoi
            · obtain ⟨b', e', g1, g2, cA, t0, f, g3, g4, rfl⟩ := hh.2.2 j _ hg
              have e2 : b' = b := Option.some.inj (g1.symm.trans hb1)
              subst e2
              obtain ⟨b2, e3, f1, f2, cA0, t1, f0, f3, f4, rfl⟩ := hh.2.2 j0 _ hg0
              have e4 : b2 = b0 := Option.some.inj (f1.symm.trans hb0)
              subst e4
              have h8 : (z5.map fun v => v.category).sum ≤ 8 := by rw [y_cats_ok h5]; exact y_ble.mp c2
              have h9 : nativeFrameWords "java/lang/System" "arraycopy" 5 = 7 := by decide +kernel
              refine va_copyi hx hb (by rw [hml]; exact hls.1.symm) hown (hts _ (yM_ok q1)) (hts _ (yM_ok q2)) (hts _ (yM_ok q3)) (hts _ (yM_ok q4)) hK hP hD hS j0 j t1 t0 f2 g2 f3 g3 rfl (nI_pos c5) (nI_pos c6) (nI_pos c7) ?_ ?_ (fun _ _ => rfl) hRf (by rw [h9]; omega) hdg (fun H1 locs1 hP1 hD1 hS1 => ?_)
              · rw [y_cl c5, y_cl c7]; exact c3
              · rw [y_cl c6, y_cl c7]; exact c4
              · rw [y_cl c5, y_cl c6, y_cl c7] at hP1 hD1
                exact kk α tys _ H1 locs1 ls lv _ (List.prefix_refl _) ⟨y_h_set hh hg g1 ⟨cA, t0, _, g3, y_get_cpy f4 g4 c3, rfl⟩, hl, h5, hls, hP1, hK, hD1, hS1⟩
  | false =>
    rw [h98] at hs
    simp only [cond_false] at hs
    obtain ⟨st', hm, rfl⟩ := Option.map_eq_some_iff.mp hs
    rcases st with _ | ⟨(y | y) | y, _ | ⟨(x | x) | x, r⟩⟩ <;> try (cases hm; done)
    · replace hm : (bif Nat.ble (y_cats r) 8 then (bif Nat.beq r3 96 then some (.inl (.inl (bif y_cmp 2 x y then y else x)) :: r) else bif Nat.beq r3 97 then some (.inl (.inl (bif y_cmp 2 y x then y else x)) :: r) else none) else none) = some st' := hm
      cases hc : Nat.ble (y_cats r) 8 with
      | false => rw [hc] at hm; cases hm
      | true =>
      rw [hc] at hm
      obtain ⟨z1, rfl, h1⟩ := y_ds_ci hst
      obtain ⟨z2, rfl, h2⟩ := y_ds_ci h1
      have h8 : (z2.map fun v => v.category).sum ≤ 8 := by rw [y_cats_ok h2]; exact y_ble.mp hc
      simp only [Bool.or_eq_true, Bool.not_eq_true', Bool.and_eq_true] at hmx hmn
      cases h96 : Nat.beq r3 96 with
      | true =>
        rw [h96] at hm
        cases hm
        rcases hmx with hmx | ⟨q1, q2, q3, q4⟩
        · rw [h96] at hmx; cases hmx
        · refine va_mmax hx hb (by rw [hml]; exact hls.1.symm) hown (hts _ (yM_ok q1)) (hts _ (yM_ok q2)) (hts _ (yM_ok q3)) (hts _ (yM_ok q4)) hRf (by omega) hk hn hdg (kk α tys ws H locs ls lv _ (List.prefix_refl _) ⟨hh, hl, y_ds_i ?_ h2, hls, hP, hK, hD, hS⟩)
          have h9 : nI x < nI y ↔ y_cmp 2 x y = true := y_cmp_ok 2 x y
          show nI (bif y_cmp 2 x y then y else x) = if nI x < nI y then nI y else nI x
          cases hq : y_cmp 2 x y with
          | true => rw [if_pos (h9.mpr hq)]; rfl
          | false => rw [if_neg (fun z => by rw [h9.mp z] at hq; cases hq)]; rfl
      | false =>
        rw [h96] at hm
        simp only [cond_false] at hm
        cases h97 : Nat.beq r3 97 with
        | false => rw [h97] at hm; cases hm
        | true =>
          rw [h97] at hm
          cases hm
          rcases hmn with hmn | ⟨q1, q2, q3, q4⟩
          · rw [h97] at hmn; cases hmn
          · refine va_mmin hx hb (by rw [hml]; exact hls.1.symm) hown (hts _ (yM_ok q1)) (hts _ (yM_ok q2)) (hts _ (yM_ok q3)) (hts _ (yM_ok q4)) hRf (by omega) hk hn hdg (kk α tys ws H locs ls lv _ (List.prefix_refl _) ⟨hh, hl, y_ds_i ?_ h2, hls, hP, hK, hD, hS⟩)
            have h9 : nI y < nI x ↔ y_cmp 2 y x = true := y_cmp_ok 2 y x
            show nI (bif y_cmp 2 y x then y else x) = if nI y < nI x then nI y else nI x
            cases hq : y_cmp 2 y x with
            | true => rw [if_pos (h9.mpr hq)]; rfl
            | false => rw [if_neg (fun z => by rw [h9.mp z] at hq; cases hq)]; rfl

end YHEAP
end
section
set_option maxHeartbeats 8000000 in
set_option maxRecDepth 100000 in
theorem y_step_mono {sc : Bool} {L : Nat} {hy : yF} {tb : yT} {pc k n : Nat} {o : yO} {lo : yL} {st : List yV} {h : List yC} {S' : yS} (hs : y_step sc L hy tb pc o lo st h k n = some S') : k ≤ S'.2.2.2.2.1 ∧ n ≤ S'.2.2.2.2.2 := by
  unfold y_step at hs
  dsimp only at hs
  simp only [Bool.cond_eq_ite] at hs
  split at hs <;> (repeat' split at hs) <;> first
    | (cases hs; done)
    | (cases hs; exact ⟨Nat.le_refl _, Nat.le_refl _⟩)
    | (cases hs; exact ⟨Nat.le_add_right _ _, Nat.le_add_right _ _⟩)
    | (obtain ⟨_, _, rfl⟩ := Option.map_eq_some_iff.mp hs; exact ⟨Nat.le_refl _, Nat.le_refl _⟩)

section YDISP
variable {p : Program} {l : Launch} {e : Env} {R : Room} {s : State} {m : MethodId} {args : Array Value} {below : List Frame} {meth : Method} {c : Code} {H : Heap} {locs : List Loc} {Q : State → Prop} {ls : Array Slot}
variable {κ : yK} {D : va_G} {A : Nat → Prop} {α : List Nat} {tys : List (ClassId × FieldType)} {ws : va_W} {lv : List (Nat × Value)} {sv : List Value} {lo : yL} {st : List yV} {h : List yC} {cc : ByteArray} {own yn : String} {nL : Nat} {hy : yF} {tb : yT} {sc : Bool} {pc k n : Nat} {S' : yS}

set_option maxHeartbeats 8000000 in
set_option maxRecDepth 100000 in
theorem y_step_ok {o : yO} (C : y_ctx κ sc p R s m args meth c cc own yn nL A) (hH : y_H κ hy) (hT : y_T κ tb) (hok : y_okop nL own yn cc (pc, o) = true) (hs : y_step sc κ.2.2.2 hy tb pc o lo st h k n = some S') (hk : S'.2.2.2.2.1 ≤ R.cells) (hn : S'.2.2.2.2.2 ≤ R.slots) (Z : y_Z κ D A s nL α tys ws H locs ls lv sv lo st h)
    (kk : ∀ α' tys' ws' H' locs' ls' lv' sv', α <+: α' → y_Z κ D A s nL α' tys' ws' H' locs' ls' lv' sv' S'.2.1 S'.2.2.1 S'.2.2.2.1 → W p l e R s m args below meth c H' locs' S'.2.2.2.2.1 S'.2.2.2.2.2 Q (F0 m S'.1 ls' sv')) : W p l e R s m args below meth c H locs k n Q (F0 m pc ls sv) := by
  obtain ⟨ins, nx, r1, r2, r3⟩ := o
  cases ins with
  | iconst _ => exact y_st_iconst C hH hT hok hs hk hn Z kk
  | bipush _ => exact y_st_bipush C hH hT hok hs hk hn Z kk
  | sipush _ => exact y_st_sipush C hH hT hok hs hk hn Z kk
  | ldc _ => exact y_st_ldc C hH hT hok hs hk hn Z kk
  | ldc_w _ => exact y_st_ldcw C hH hT hok hs hk hn Z kk
  | lconst _ => exact y_st_lconst C hH hT hok hs hk hn Z kk
  | ldc2_w _ => exact y_st_ldc2 C hH hT hok hs hk hn Z kk
  | iload_n _ => exact y_st_iloadn C hH hT hok hs hk hn Z kk
  | iload _ => exact y_st_iload C hH hT hok hs hk hn Z kk
  | lload_n _ => exact y_st_lloadn C hH hT hok hs hk hn Z kk
  | lload _ => exact y_st_lload C hH hT hok hs hk hn Z kk
  | aload_n _ => exact y_st_aloadn C hH hT hok hs hk hn Z kk
  | aload _ => exact y_st_aload C hH hT hok hs hk hn Z kk
  | istore_n _ => exact y_st_istoren C hH hT hok hs hk hn Z kk
  | istore _ => exact y_st_istore C hH hT hok hs hk hn Z kk
  | lstore_n _ => exact y_st_lstoren C hH hT hok hs hk hn Z kk
  | lstore _ => exact y_st_lstore C hH hT hok hs hk hn Z kk
  | astore_n _ => exact y_st_astoren C hH hT hok hs hk hn Z kk
  | astore _ => exact y_st_astore C hH hT hok hs hk hn Z kk
  | iinc _ _ => exact y_st_iinc C hH hT hok hs hk hn Z kk
  | iadd => exact y_st_iadd C hH hT hok hs hk hn Z kk
  | isub => exact y_st_isub C hH hT hok hs hk hn Z kk
  | imul => exact y_st_imul C hH hT hok hs hk hn Z kk
  | iand => exact y_st_iand C hH hT hok hs hk hn Z kk
  | ior => exact y_st_ior C hH hT hok hs hk hn Z kk
  | ishl => exact y_st_ishl C hH hT hok hs hk hn Z kk
  | ishr => exact y_st_ishr C hH hT hok hs hk hn Z kk
  | iushr => exact y_st_iushr C hH hT hok hs hk hn Z kk
  | irem => exact y_st_irem C hH hT hok hs hk hn Z kk
  | i2c => exact y_st_i2c C hH hT hok hs hk hn Z kk
  | l2i => exact y_st_l2i C hH hT hok hs hk hn Z kk
  | i2l => exact y_st_i2l C hH hT hok hs hk hn Z kk
  | land => exact y_st_land C hH hT hok hs hk hn Z kk
  | lor => exact y_st_lor C hH hT hok hs hk hn Z kk
  | lcmp => exact y_st_lcmp C hH hT hok hs hk hn Z kk
  | lshl => exact y_st_lshl C hH hT hok hs hk hn Z kk
  | lushr => exact y_st_lushr C hH hT hok hs hk hn Z kk
  | dup => exact y_st_dup C hH hT hok hs hk hn Z kk
  | pop => exact y_st_pop C hH hT hok hs hk hn Z kk
  | dup2 => exact y_st_dup2 C hH hT hok hs hk hn Z kk
  | goto _ => exact y_st_goto C hH hT hok hs hk hn Z kk
  | ifCond _ _ => exact y_st_if C hH hT hok hs hk hn Z kk
  | if_icmp _ _ => exact y_st_icmp C hH hT hok hs hk hn Z kk
  | tableswitch _ _ _ _ => exact y_st_tsw C hH hT hok hs hk hn Z kk
  | lookupswitch _ _ => exact y_st_lsw C hH hT hok hs hk hn Z kk
  | getfield _ => exact y_st_getf C hH hT hok hs hk hn Z kk
  | putfield _ => exact y_st_putf C hH hT hok hs hk hn Z kk
  | iaload => exact y_st_iald C hH hT hok hs hk hn Z kk
  | baload => exact y_st_bald C hH hT hok hs hk hn Z kk
  | aaload => exact y_st_aald C hH hT hok hs hk hn Z kk
  | iastore => exact y_st_iast C hH hT hok hs hk hn Z kk
  | bastore => exact y_st_bast C hH hT hok hs hk hn Z kk
  | castore => exact y_st_cast C hH hT hok hs hk hn Z kk
  | aastore => exact y_st_aast C hH hT hok hs hk hn Z kk
  | arraylength => exact y_st_alen C hH hT hok hs hk hn Z kk
  | new _ => exact y_st_new C hH hT hok hs hk hn Z kk
  | anewarray _ => exact y_st_anewa C hH hT hok hs hk hn Z kk
  | invokespecial _ => exact y_st_spec C hH hT hok hs hk hn Z kk
  | invokestatic _ => exact y_st_stat C hH hT hok hs hk hn Z kk
  | newarray ty =>
    cases ty with
    | int => exact y_st_newa_int C hH hT hok hs hk hn Z kk
    | boolean => exact y_st_newa_boolean C hH hT hok hs hk hn Z kk
    | char => exact y_st_newa_char C hH hT hok hs hk hn Z kk
    | long => exact y_st_newa_long C hH hT hok hs hk hn Z kk
    | _ =>
      unfold y_okop at hok
      simp only [Bool.and_eq_true] at hok
      exact absurd hok.2 (by simp [y_okin])
  | _ => cases hs

end YDISP

/-- a method's answer -/
def y_dr (κ : yK) (α : List Nat) : Option yV → Option Value → Prop
  | none, v => v = none
  | some u, v => ∃ x, v = some x ∧ y_d κ α u = some x
def y_Q (κ : yK) (D : va_G) (α : List Nat) (A : Nat → Prop) (rv : Option yV) (h : List yC) : Array Value → State → Outcome → State → Prop := fun _ st oc t =>
  (∃ (v : Option Value) (α' : List Nat) (tys' : List (ClassId × FieldType)) (ws' : va_W), oc = .returned v ∧ y_dr κ α' rv v ∧ α <+: α' ∧ y_h κ α' tys' h ws' ∧ va_P D vwCl ws' t.heap ∧ va_K D vwCl tys' t ∧ va_D A ws') ∧ va_F A st t
def y_Pc (D : va_G) (tys : List (ClassId × FieldType)) (ws : va_W) (sz : Nat) : State → Prop := fun U =>
  U.heap.size = sz ∧ va_P D vwCl ws U.heap ∧ va_K D vwCl tys U ∧ va_D (fun _ => True) ws ∧ y_aux U
def y_rm (d c n : Nat) : Room := { frames := d + 1, cells := c, slots := n, locals := 60 * (d + 1) }
/-- an entry: what it says of the method is so -/
def y_okc (mt : List yE) (own : String) (o : yO) : Bool := match o.1 with
  | .invokevirtual i => match mt[o.2.2.1]? with
    | none => false
    | some e' => yM (.methodLink own i e'.1) && (yM (.instanceMethod e'.1) && (yM (.selects e'.1.cls e'.1 e'.1) && (yM (.initialized e'.1.cls) && (decide ((parseMethodDescriptor e'.1.desc).map (fun d => d.parameters.length) = some o.2.2.2.1) && (match vwCl[o.2.2.2.2]? with
      | none => false
      | some r => decide (r.1 = e'.1.cls))))))
  | .invokestatic i => bif y_nat o.2.2.2.2 then true else match mt[o.2.2.1]? with
    | none => false
    | some e' => yM (.methodLink own i e'.1) && (yM (.static e'.1) && (yM (.initialized e'.1.cls) && decide ((parseMethodDescriptor e'.1.desc).map (fun d => d.parameters.length) = some o.2.2.2.1)))
  | .invokespecial i => bif Nat.beq o.2.2.2.2 99 then true else match mt[o.2.2.1]? with
    | none => false
    | some e' => (yM (.methodLink own i e'.1) || zN.any (fun q => decide (q.1 = own ∧ q.2.1 = i ∧ q.2.2.1 = e'.1))) && (yM (.instanceMethod e'.1) && (decide (e'.1.name = "<init>") && (decide (e'.2.2.2.1 = none) && (yM (.initialized e'.1.cls) && decide ((parseMethodDescriptor e'.1.desc).map (fun d => d.parameters.length) = some o.2.2.2.1)))))
  | _ => true
def y_okb (mt : List yE) (e : yE) : Bool := e.2.2.2.2.all (fun q => y_okop e.2.2.1 e.1.cls e.1.name e.2.1 q && y_okc mt e.1.cls q.2)
def y_ok (mt : List yE) (e : yE) : Bool := yM (.code e.1 e.2.1 e.2.2.1 e.2.2.2.1) && (plainName e.1.cls && (decide (e.1.cls ≠ "java/lang/invoke/MethodHandle" ∧ e.1.cls ≠ "java/lang/invoke/VarHandle") && (Nat.ble e.2.2.1 40 && y_okb mt e)))
theorem y_find_mem {ps : List (Nat × yO)} {pc : Nat} {o : yO} (h : y_find ps pc = some o) : (pc, o) ∈ ps := by
  induction ps with
  | nil => cases h
  | cons q r ih =>
    unfold y_find at h
    cases hc : Nat.beq q.1 pc with
    | true =>
      rw [hc] at h
      have e1 := y_beq.mp hc
      have e2 : q.2 = o := Option.some.inj h
      rw [← e1, ← e2]
      exact List.mem_cons_self
    | false =>
      rw [hc] at h
      exact List.mem_cons_of_mem _ (ih h)

/-- the words of a method -/
def y_ws (e : yE) : List Cond := Cond.code e.1 e.2.1 e.2.2.1 e.2.2.2.1 :: yCT
/-- what a run of f steps at most says of the machine -/
def y_OK (l : Launch) (mt : List yE) (κ : yK) (D : va_G) (hy : yF) (tb : yT) (f : Nat) : Prop :=
  ∀ (sc : Bool) (d : Nat) (e : yE) (S S' : yS), y_okb mt e = true → y_go mt κ.2.2.2 hy tb f sc d e S = some S' → (S.2.2.2.2.1 ≤ S'.2.2.2.2.1 ∧ S.2.2.2.2.2 ≤ S'.2.2.2.2.2) ∧
    ∀ {p : Program} {en : Env} {R : Room} {s : State} {m : MethodId} {args : Array Value} {below : List Frame} {meth : Method} {c : Code} {H : Heap} {locs : List Loc} {Q : State → Prop} {ls : Array Slot} {A : Nat → Prop} {α : List Nat} {tys : List (ClassId × FieldType)} {ws : va_W} {lv : List (Nat × Value)} {sv : List Value},
      y_ctx κ sc p R s m args meth c e.2.1 e.1.cls e.1.name e.2.2.1 A → d + 1 ≤ R.frames → 60 * (d + 1) ≤ R.locals → S'.2.2.2.2.1 ≤ R.cells → S'.2.2.2.2.2 ≤ R.slots →
      y_Z κ D A s e.2.2.1 α tys ws H locs ls lv sv S.2.1 S.2.2.1 S.2.2.2.1 →
      (∀ α' tys' ws' H' locs' ls' lv' sv', α <+: α' → y_Z κ D A s e.2.2.1 α' tys' ws' H' locs' ls' lv' sv' S'.2.1 S'.2.2.1 S'.2.2.2.1 → W p l en R s m args below meth c H' locs' S'.2.2.2.2.1 S'.2.2.2.2.2 Q (F0 m S'.1 ls' sv')) →
      W p l en R s m args below meth c H locs S.2.2.2.2.1 S.2.2.2.2.2 Q (F0 m S.1 ls sv)
set_option maxHeartbeats 4000000 in
set_option maxRecDepth 100000 in
/-- a method's contract out of its run -/
theorem y_met {l : Launch} {mt : List yE} {κ : yK} {D : va_G} {hy : yF} {tb : yT} {f d : Nat} {e : yE} {av : List yV} {h : List yC} {S' : yS} {rv : Option yV} (hOK : y_OK l mt κ D hy tb f) (he : y_ok mt e = true) (hgo : y_go mt κ.2.2.2 hy tb f false d e (0, y_args 0 av, [], h, 0, 0) = some S') (hend : y_end e S' = some rv) (hav : y_cats av ≤ e.2.2.1)
    {α : List Nat} {tys : List (ClassId × FieldType)} {ws : va_W} {vals : List Value} (sz : Nat) (hh : y_h κ α tys h ws) (hvals : y_ds κ α av vals) :
    Met l e.1 (y_ws e) (y_rm d S'.2.2.2.2.1 S'.2.2.2.2.2) (va_Pc vals (y_Pc D tys ws sz)) (y_Q κ D α (va_A ws sz) rv S'.2.2.2.1) S'.2.2.2.2.1 S'.2.2.2.2.2 (va_A ws sz) := by
  have he0 := he
  unfold y_ok at he
  simp only [Bool.and_eq_true, decide_eq_true_eq] at he
  obtain ⟨e1, e2, e3, e4, e5⟩ := he
  refine Met.ofW (cc := e.2.1) (maxL := e.2.2.1) (ret := e.2.2.2.1) e2 rfl ?_
  intro p en s m args below meth c s₁ B hml hv
  obtain ⟨rfl, hsz, hP, hK, hD0, hAO⟩ := hv
  have hx := B.exec
  have hb := B.bytes
  have hr := B.returns
  have hts := atoms_spec (ws := y_ws e) B.pre
  have hts : ∀ w ∈ yCT, w.before _ s = true := fun w h => hts w (List.mem_cons_of_mem _ h)
  have hown : s.vm.findClass e.1.cls = some m.cls := findClass_of_methodNamed B.named
  have hlocks := B.notSynchronized
  have hin : meth.name = e.1.name := (name_of_methodNamed B.named B.method).1
  subst hsz
  have hD := hD0.self (sz := s.heap.size)
  have hA : ∀ q : Nat, s.heap.size ≤ q → va_A ws s.heap.size q := fun q h => Or.inr h
  have hS : va_S (va_A ws s.heap.size) s.heap s.heap [] := va_S.rf
  have hl := lv_entry vals (n := e.2.2.1) (by rw [y_sl_len hvals]; exact hav)
  rw [lg_entry_eq]
  generalize (lg_sl vals ++ List.replicate (e.2.2.1 - (lg_sl vals).length) Slot.unset).toArray = ls at hl ⊢
  have C : y_ctx κ false p (y_rm d S'.2.2.2.2.1 S'.2.2.2.2.2) s m vals.toArray meth c e.2.1 e.1.cls e.1.name e.2.2.1 (va_A ws s.heap.size) :=
    ⟨hx, hb, hml, hown, hts, fun h => hin.trans h, hAO, hA, by show 1 ≤ d + 1; omega, by show 60 ≤ 60 * (d + 1); omega, fun h => by cases h⟩
  refine (hOK false d e _ _ e5 hgo).2 C (Nat.le_refl _) (Nat.le_refl _) (Nat.le_refl _) (Nat.le_refl _) ⟨hh, y_dl_args 0 hvals, y_ds_0, hl, hP, hK, hD, hS⟩ ?_
  intro α' tys' ws' H' locs' ls' lv' sv' hα ⟨hh', hl', hst', hls', hP', hK', hD', hS'⟩
  obtain ⟨pc', lo', st', h', k', n'⟩ := S'
  dsimp only at *
  unfold y_end at hend
  dsimp only at hend
  cases hf : y_find e.2.2.2.2 pc' with
  | none => rw [hf] at hend; cases hend
  | some o =>
    rw [hf] at hend
    have hmem := List.all_eq_true.mp e5 _ (y_find_mem hf)
    simp only [Bool.and_eq_true] at hmem
    have hop := hmem.1
    obtain ⟨ins, nx, r1, r2, r3⟩ := o
    unfold y_okop y_okin at hop
    simp only [Bool.and_eq_true, decide_eq_true_eq] at hop
    obtain ⟨hdg, hin2⟩ := hop
    have fin : ∀ (v : Option Value), y_dr κ α' rv v → ∀ t : State, t.heap = H' → s.WarmedH t.vm → y_Q κ D α (va_A ws s.heap.size) rv h' vals.toArray s (.returned v) t := fun v hv t ht hW =>
      ⟨⟨v, α', tys', ws', rfl, hv, hα, hh', by rw [ht]; exact hP', va_K.moved hW.alike hK', hD'⟩, hS'.F ht⟩
    dsimp only at hend hdg hin2
    split at hend
    · next a =>
      have hin3 := of_decide_eq_true hin2
      subst hin3
      rw [Nat.add_sub_cancel_left] at hdg
      obtain ⟨ys, rfl, h2⟩ := y_ds_ci hst'
      rw [y_ds_nil h2]
      split at hend
      · next hret =>
        cases hend
        exact W.iret hx hb (hr.trans hret) (fun t ht hW => fin _ ⟨_, rfl, rfl⟩ t ht hW) hS'.2.2 hdg
      · next hret =>
        split at hend
        · next b =>
          cases hc : Nat.ble b 1 with
          | false => rw [hc] at hend; cases hend
          | true =>
            rw [hc] at hend
            cases hend
            have h3 := y_ble.mp hc
            have h4 : b = 0 ∨ b = 1 := by omega
            refine W.zret hx hb (hr.trans hret) ?_ (fun t ht hW => fin _ ⟨_, rfl, rfl⟩ t ht hW) hS'.2.2 hdg
            rcases h4 with rfl | rfl
            · exact (by decide : narrow .boolean (.int (nI 0)) = .int (nI 0))
            · exact (by decide : narrow .boolean (.int (nI 1)) = .int (nI 1))
        · cases hend
      · next hret =>
        split at hend
        · next b =>
          cases hc : Nat.ble b 65535 with
          | false => rw [hc] at hend; cases hend
          | true =>
            rw [hc] at hend
            cases hend
            have h3 := y_ble.mp hc
            exact W.zret hx hb (hr.trans hret) (pk_charN (by omega)).1 (fun t ht hW => fin _ ⟨_, rfl, rfl⟩ t ht hW) hS'.2.2 hdg
        · cases hend
      · cases hend
    · next a =>
      have hin3 := of_decide_eq_true hin2
      subst hin3
      rw [Nat.add_sub_cancel_left] at hdg
      obtain ⟨ys, rfl, h2⟩ := y_ds_cl hst'
      rw [y_ds_nil h2]
      split at hend
      · next hret =>
        cases hend
        exact W.lret hx hb (hr.trans hret) (fun t ht hW => fin _ ⟨_, rfl, rfl⟩ t ht hW) hS'.2.2 hdg
      · cases hend
    · next =>
      have hin3 := of_decide_eq_true hin2
      subst hin3
      rw [Nat.add_sub_cancel_left] at hdg
      rw [y_ds_nil hst']
      split at hend
      · next hret =>
        cases hend
        exact W.vret hx hb (hr.trans hret) (fun t ht hW => fin _ rfl t ht hW) hS'.2.2 hdg
      · cases hend
    · cases hend
end
section
theorem y_split_s {na ci : Nat} {h : List yC} {st av rest : List yV} (hs : y_split 2 na ci h st = some (av, rest)) : na ≤ st.length ∧ av = (st.take na).reverse ∧ rest = st.drop na := by
  unfold y_split at hs
  replace hs : (bif Nat.ble na st.length then some ((st.take na).reverse, st.drop na) else none) = some (av, rest) := hs
  cases hc : Nat.ble na st.length with
  | false => rw [hc] at hs; cases hs
  | true =>
    rw [hc] at hs
    cases hs
    exact ⟨y_ble.mp hc, rfl, rfl⟩
theorem y_split_v {kd na ci : Nat} {h : List yC} {st av rest : List yV} (hk : Nat.beq kd 2 = false) (hs : y_split kd na ci h st = some (av, rest)) :
    ∃ (i : Nat) (fs : List yV), st.drop na = .inr (.inr (some (i + 1))) :: rest ∧ h[i]? = some (.inl (ci, fs)) ∧ av = .inr (.inr (some (i + 1))) :: (st.take na).reverse := by
  unfold y_split at hs
  rw [hk] at hs
  replace hs : (match st.drop na with
    | .inr (.inr (some (i + 1))) :: r => match h[i]? with
      | some (.inl (cj, _)) => bif Nat.beq cj ci then some (.inr (.inr (some (i + 1))) :: (st.take na).reverse, r) else none
      | _ => none
    | _ => none) = some (av, rest) := hs
  split at hs
  · next i r hd =>
    split at hs
    · next cj fs hg =>
      cases hc : Nat.beq cj ci with
      | false => rw [hc] at hs; cases hs
      | true =>
        rw [hc] at hs
        cases hs
        have e := y_beq.mp hc
        subst e
        exact ⟨i, fs, hd, hg, rfl⟩
    · cases hs
  · cases hs
section YALL
variable {p : Program} {l : Launch} {en : Env} {R : Room} {s : State} {m : MethodId} {args : Array Value} {below : List Frame} {meth : Method} {c : Code} {H : Heap} {locs : List Loc} {Q : State → Prop} {ls : Array Slot}
variable {κ : yK} {D : va_G} {A : Nat → Prop} {α : List Nat} {tys : List (ClassId × FieldType)} {ws : va_W}
theorem y_callW {cells slots mc ms pc : Nat} {st0 rest : List Value} {a : Array Value} {rv : Option yV} {h : List yC}
    (hr : va_Run p l en R s m args below meth c H locs cells slots mc ms (F0 m pc ls st0) rest (y_Q κ D α (va_A ws H.size) rv h a) (va_A ws H.size)) (hS : va_S A s.heap H locs) (hA : ∀ q, va_A ws H.size q → A q)
    (kk : ∀ (v : Option Value) (α' : List Nat) (tys' : List (ClassId × FieldType)) (ws' : va_W) (H1 : Heap) (locs1 : List Loc), y_dr κ α' rv v → α <+: α' → y_h κ α' tys' h ws' → va_P D vwCl ws' H1 → va_K D vwCl tys' s → va_D A ws' → va_S A s.heap H1 locs1 →
      W p l en R s m args below meth c H1 locs1 (cells + mc) (slots + ms) Q (F0 m (pc + 3) ls (v.toList ++ rest))) : W p l en R s m args below meth c H locs cells slots Q (F0 m pc ls st0) := by
  intro T hT X
  obtain ⟨v, st₀, t, T', L, h0, X', hL, e1, e2, ⟨⟨v', α', tys', ws', hv, hdr, hα, hh, hP, hK, hD⟩, hz, hk⟩, st⟩ := hr T hT X
  cases hv
  rw [h0] at hz hk
  have hvm : s.vm.Alike t.vm := by rw [← e2]; exact X'.warmed.alike
  obtain ⟨t2, a1, b1⟩ := kk v α' tys' ws' T'.heap (locs ++ L) hdr hα hh (by rw [e1]; exact hP) (va_K.moved hvm.symm hK) (hD.weaken fun k q _ hq => hA q.1 (by rw [h0] at *; exact hq))
    ⟨Nat.le_trans hS.1 (by rw [e1]; exact hz), fun q h1 h2 => by rw [e1, hk q (Nat.lt_of_lt_of_le h1 hS.1) (fun z => h2 (hA q z))]; exact hS.2.1 q h1 h2, fun q hq => by
      rcases List.mem_append.mp hq with h | h
      · exact hS.2.2 q h
      · exact hA _ (hL q h)⟩ T' rfl X'
  exact ⟨t2, st t2 a1, b1⟩
end YALL
theorem y_blind (D : va_G) (tys : List (ClassId × FieldType)) (ws : va_W) (sz : Nat) (vals : List Value) : FrameBlind (va_Pc vals (y_Pc D tys ws sz)) := fun a U g mk q => by
  obtain ⟨q0, q1, qP, qK, qD, qA⟩ := q
  exact ⟨q0, q1, qP, va_K.moved (u := U) (U := U.calling g mk a) (Vm.Alike.refl U.vm) qK, qD, y_aux_call qA⟩
theorem y_good4 {e' : yE} {a b c d : Cond} (hc : yM (.code e'.1 e'.2.1 e'.2.2.1 e'.2.2.2.1) = true) (h1 : yM a = true) (h2 : yM b = true) (h3 : yM c = true) (h4 : yM d = true) : GoodIn yCT ([a, b, c, d] ++ y_ws e') := by
  intro w hw
  rcases List.mem_append.mp hw with h | h
  · simp only [List.mem_cons, List.not_mem_nil, or_false] at h
    rcases h with rfl | rfl | rfl | rfl
    · exact yCT_self _ (yM_ok h1)
    · exact yCT_self _ (yM_ok h2)
    · exact yCT_self _ (yM_ok h3)
    · exact yCT_self _ (yM_ok h4)
  · rcases List.mem_cons.mp h with rfl | h
    · exact yCT_self _ (yM_ok hc)
    · exact yCT_self _ h
theorem y_good3 {e' : yE} {a b c : Cond} (hc : yM (.code e'.1 e'.2.1 e'.2.2.1 e'.2.2.2.1) = true) (h1 : yM a = true) (h2 : yM b = true) (h3 : yM c = true) : GoodIn yCT ([a, b, c] ++ y_ws e') := by
  intro w hw
  rcases List.mem_append.mp hw with h | h
  · simp only [List.mem_cons, List.not_mem_nil, or_false] at h
    rcases h with rfl | rfl | rfl
    · exact yCT_self _ (yM_ok h1)
    · exact yCT_self _ (yM_ok h2)
    · exact yCT_self _ (yM_ok h3)
  · rcases List.mem_cons.mp h with rfl | h
    · exact yCT_self _ (yM_ok hc)
    · exact yCT_self _ h
theorem y_good0 {e' : yE} (hc : yM (.code e'.1 e'.2.1 e'.2.2.1 e'.2.2.2.1) = true) : GoodIn yCT (y_ws e') := by
  intro w h
  rcases List.mem_cons.mp h with rfl | h
  · exact yCT_self _ (yM_ok hc)
  · exact yCT_self _ h
set_option maxHeartbeats 8000000 in
set_option maxRecDepth 100000 in
theorem y_all {l : Launch} {mt : List yE} {κ : yK} {D : va_G} {hy : yF} {tb : yT} (hH : y_H κ hy) (hT : y_T κ tb) (hmt : ∀ e ∈ mt, y_ok mt e = true) : ∀ f : Nat, y_OK l mt κ D hy tb f := by
  intro f
  induction f with
  | zero =>
    intro sc d e S S' he hgo
    cases hgo
  | succ f ih =>
    intro sc d e S S' he hgo
    have he0 := he
    unfold y_okb at he
    have e5 := he
    unfold y_go at hgo
    cases hf : y_find e.2.2.2.2 S.1 with
    | none =>
      rw [hf] at hgo
      cases hgo
      exact ⟨⟨Nat.le_refl _, Nat.le_refl _⟩, fun C h1 h2 h3 h4 Z kk => kk _ _ _ _ _ _ _ _ (List.prefix_refl _) Z⟩
    | some o =>
      rw [hf] at hgo
      dsimp only at hgo
      have hmem := List.all_eq_true.mp e5 _ (y_find_mem hf)
      simp only [Bool.and_eq_true] at hmem
      obtain ⟨hop, hoc⟩ := hmem
      cases hret : y_isRet o with
      | true =>
        rw [hret] at hgo
        cases hgo
        exact ⟨⟨Nat.le_refl _, Nat.le_refl _⟩, fun C h1 h2 h3 h4 Z kk => kk _ _ _ _ _ _ _ _ (List.prefix_refl _) Z⟩
      | false =>
        rw [hret] at hgo
        replace hgo : (bif Nat.beq (y_kind o) 0 then (y_step sc κ.2.2.2 hy tb S.1 o S.2.1 S.2.2.1 S.2.2.2.1 S.2.2.2.2.1 S.2.2.2.2.2).bind (fun S' => y_go mt κ.2.2.2 hy tb f sc d e S') else
          bif Nat.beq d 0 then none else
          (mt[o.2.2.1]?).bind fun e' => (y_split (y_kind o) o.2.2.2.1 o.2.2.2.2 S.2.2.2.1 S.2.2.1).bind fun ar =>
            bif Nat.ble (y_cats ar.2) 8 && Nat.ble (y_cats ar.1) e'.2.2.1 then
              (y_go mt κ.2.2.2 hy tb f false (d - 1) e' (0, y_args 0 ar.1, [], S.2.2.2.1, 0, 0)).bind fun S1 => (y_end e' S1).bind fun rv =>
                y_go mt κ.2.2.2 hy tb f sc d e (o.2.1, S.2.1, y_psh rv ar.2, S1.2.2.2.1, S.2.2.2.2.1 + S1.2.2.2.2.1, S.2.2.2.2.2 + S1.2.2.2.2.2)
            else none) = some S' := hgo
        cases hkd0 : Nat.beq (y_kind o) 0 with
        | true =>
          rw [hkd0] at hgo
          obtain ⟨S1, hst, hgo⟩ := Option.bind_eq_some_iff.mp hgo
          obtain ⟨⟨m1, m2⟩, r1⟩ := ih sc d e S1 S' he0 hgo
          obtain ⟨g1, g2⟩ := y_step_mono hst
          refine ⟨⟨Nat.le_trans g1 m1, Nat.le_trans g2 m2⟩, fun C h1 h2 h3 h4 Z kk => ?_⟩
          exact y_step_ok C hH hT hop hst (Nat.le_trans m1 h3) (Nat.le_trans m2 h4) Z (fun α' tys' ws' H' locs' ls' lv' sv' hα Z' => r1 C h1 h2 h3 h4 Z' (fun α2 tys2 ws2 H2 locs2 ls2 lv2 sv2 hα2 Z2 => kk α2 tys2 ws2 H2 locs2 ls2 lv2 sv2 (List.IsPrefix.trans hα hα2) Z2))
        | false =>
          rw [hkd0] at hgo
          obtain ⟨kd, hkd⟩ : ∃ kd, y_kind o = kd + 1 := by
            cases hk : y_kind o with
            | zero => rw [hk] at hkd0; cases hkd0
            | succ kd => exact ⟨kd, rfl⟩
          cases hd0 : Nat.beq d 0 with
          | true => rw [hd0] at hgo; cases hgo
          | false =>
          rw [hd0] at hgo
          obtain ⟨d', rfl⟩ : ∃ d', d = d' + 1 := by
            cases d with
            | zero => cases hd0
            | succ d' => exact ⟨d', rfl⟩
          obtain ⟨e', hm, hgo⟩ := Option.bind_eq_some_iff.mp hgo
          obtain ⟨⟨av, rest⟩, hsp, hgo⟩ := Option.bind_eq_some_iff.mp hgo
          rw [hkd] at hsp
          cases hcc : (Nat.ble (y_cats rest) 8 && Nat.ble (y_cats av) e'.2.2.1) with
          | false => dsimp only at hgo; rw [hcc] at hgo; cases hgo
          | true =>
          dsimp only at hgo
          rw [hcc] at hgo
          simp only [Bool.and_eq_true] at hcc
          have hc8 := y_ble.mp hcc.1
          have hcav := y_ble.mp hcc.2
          obtain ⟨S1, hg1, hgo⟩ := Option.bind_eq_some_iff.mp hgo
          obtain ⟨rv, hend, hgo⟩ := Option.bind_eq_some_iff.mp hgo
          rw [Nat.add_sub_cancel] at hg1
          obtain ⟨⟨m1, m2⟩, r1⟩ := ih sc (d' + 1) e _ S' he0 hgo
          dsimp only at m1 m2 r1
          refine ⟨⟨by omega, by omega⟩, fun {p en R s m args below meth c H locs Q ls A α tys ws lv sv} C h1 h2 h3 h4 Z kk => ?_⟩
          have C0 := C
          obtain ⟨hx, hb, hml, hown, hts, hyn, hAO, hA, hRf, hRl, hsc⟩ := C
          obtain ⟨hh, hl, hst, hls, hP, hK, hD, hS⟩ := Z
          have he' := hmt e' (List.mem_of_getElem? hm)
          have he'' := he'
          unfold y_ok at he''
          simp only [Bool.and_eq_true, decide_eq_true_eq] at he''
          obtain ⟨f1, f2, f3, f4, f5⟩ := he''
          have f4 := y_ble.mp f4
          have hAA : ∀ q, va_A ws H.size q → A q := by
            intro q hq
            rcases hq with ⟨k, e0, hk⟩ | hq
            · exact hD.2 k (q, e0) hk
            · exact hA q (Nat.le_trans hS.1 hq)
          have hR : (y_rm d' S1.2.2.2.2.1 S1.2.2.2.2.2).frames + 1 ≤ R.frames ∧ 8 + (e'.2.2.1 + 11) + (y_rm d' S1.2.2.2.2.1 S1.2.2.2.2.2).locals ≤ R.locals := by
            refine ⟨h1, ?_⟩
            show 8 + (e'.2.2.1 + 11) + 60 * (d' + 1) ≤ R.locals
            omega
          have hpre : ∀ vals : List Value, ∀ U : State, U.heap = H → s.WarmedH U.vm → va_Pc vals (y_Pc D tys ws H.size) vals.toArray U := fun vals U hU hW => ⟨rfl, by rw [hU], by rw [hU]; exact hP, va_K.moved hW.alike hK, hD.weaken (fun _ _ _ _ => trivial), y_aux_warm hW hAO⟩
          have go : ∀ (v : Option Value) (ys : List Value), y_ds κ α rest ys → ∀ (α' : List Nat) (tys' : List (ClassId × FieldType)) (ws' : va_W) (H1 : Heap) (locs1 : List Loc), y_dr κ α' rv v → α <+: α' → y_h κ α' tys' S1.2.2.2.1 ws' → va_P D vwCl ws' H1 → va_K D vwCl tys' s → va_D A ws' → va_S A s.heap H1 locs1 →
              W p l en R s m args below meth c H1 locs1 (S.2.2.2.2.1 + S1.2.2.2.2.1) (S.2.2.2.2.2 + S1.2.2.2.2.2) Q (F0 m o.2.1 ls (v.toList ++ ys)) := by
            intro v ys hys α' tys' ws' H1 locs1 hdr hα hh1 hP1 hK1 hD1 hS1
            refine r1 C0 h1 h2 h3 h4 ⟨hh1, y_dl_mono hα hl, ?_, hls, hP1, hK1, hD1, hS1⟩ (fun α2 tys2 ws2 H2 locs2 ls2 lv2 sv2 hα2 Z2 => kk α2 tys2 ws2 H2 locs2 ls2 lv2 sv2 (List.IsPrefix.trans hα hα2) Z2)
            cases rv with
            | none =>
              have e9 : v = none := hdr
              subst e9
              exact y_ds_mono hα hys
            | some u =>
              obtain ⟨x, rfl, hx2⟩ := hdr
              exact y_ds_mk hx2 (y_ds_mono hα hys)
          obtain ⟨ins, nx, q1, q2, q3⟩ := o
          dsimp only at hm hsp go hgo r1
          unfold y_okop y_okin at hop
          simp only [Bool.and_eq_true, decide_eq_true_eq] at hop
          obtain ⟨hdg, hin2⟩ := hop
          try dsimp only at hdg hin2
          cases ins with
          | invokevirtual i =>
            have hkd1 : kd = 0 := (Nat.succ.inj hkd).symm
            subst hkd1
            have hin3 := of_decide_eq_true hin2
            subst hin3
            rw [Nat.add_sub_cancel_left] at hdg
            obtain ⟨j, fs, hd1, hd2, rfl⟩ := y_split_v rfl hsp
            have hdrop := y_ds_drop q2 hst
            rw [hd1] at hdrop
            obtain ⟨b, ys, hd3, hb1, hys⟩ := y_ds_cr hdrop
            obtain ⟨b', e9, g1, g2, vs, g3, rfl⟩ := hh.2.2 j _ hd2
            have e10 : b' = b := Option.some.inj (g1.symm.trans hb1)
            subst e10
            unfold y_okc at hoc
            dsimp only at hoc
            rw [hm] at hoc
            simp only [Bool.and_eq_true, decide_eq_true_eq] at hoc
            obtain ⟨w1, w2, w3, w4, w5, w6⟩ := hoc
            cases hr : vwCl[q3]? with
            | none => rw [hr] at w6; cases w6
            | some rr =>
            rw [hr] at w6
            have w6 := of_decide_eq_true w6
            have hvals : y_ds κ α (.inr (.inr (some (j + 1))) :: (S.2.2.1.take q2).reverse) (.ref b' :: (sv.take q2).reverse) := y_ds_mk (Option.map_eq_some_iff.mpr ⟨b', hb1, rfl⟩) (y_ds_rev (y_ds_take q2 hst))
            have hM := y_met ih he' hg1 hend hcav H.size hh hvals
            have hlen : (sv.take q2).length = q2 := by
              rw [List.length_take]
              have h9 : (sv.drop q2).length = (Value.ref b' :: ys).length := by rw [hd3]
              rw [List.length_drop, List.length_cons] at h9
              omega
            have hstk : sv = (sv.take q2).reverse.reverse ++ .ref b' :: ys := by
              rw [List.reverse_reverse, ← hd3, List.take_append_drop]
            have hrecv := va_recv hK hP hr g2
            rw [w6] at hrecv
            refine y_callW (va_runV (As := (sv.take q2).reverse) (rest := ys) ⟨hx, hb, hml, hown, hts⟩ hM (cwV q2 hts (y_good4 f1 w1 w2 w3 w4) rfl rfl rfl ⟨rfl, f3.1, f3.2, w5⟩ hR) ⟨y_blind D tys ws H.size _, hrecv, hpre _⟩ rfl (by rw [List.length_reverse]; exact hlen) hls.1 hstk (lv_room (by rw [y_cats_ok hys]; exact hc8)) hdg ⟨by omega, by omega⟩) hS hAA (fun v α' tys' ws' H1 locs1 a1 a2 a3 a4 a5 a6 a7 => go v ys hys α' tys' ws' H1 locs1 a1 a2 a3 a4 a5 a6 a7)
          | invokestatic i =>
            have h98 : y_nat q3 = false := by
              cases h98 : y_nat q3 with
              | false => rfl
              | true =>
                have hk2 : (bif y_nat q3 then 0 else 2) = kd + 1 := hkd
                rw [h98] at hk2
                cases hk2
            have hkd1 : kd = 1 := by
              have hk2 : (bif y_nat q3 then 0 else 2) = kd + 1 := hkd
              rw [h98] at hk2
              exact (Nat.succ.inj hk2).symm
            subst hkd1
            simp only [Bool.and_eq_true] at hin2
            have hin3 := of_decide_eq_true hin2.1
            subst hin3
            rw [Nat.add_sub_cancel_left] at hdg
            obtain ⟨hlen0, rfl, rfl⟩ := y_split_s hsp
            unfold y_okc at hoc
            dsimp only at hoc
            rw [h98, hm] at hoc
            simp only [cond_false, Bool.and_eq_true, decide_eq_true_eq] at hoc
            obtain ⟨w1, w2, w3, w5⟩ := hoc
            have hvals := y_ds_rev (y_ds_take q2 hst)
            have hM := y_met ih he' hg1 hend hcav H.size hh hvals
            have hlen : (sv.take q2).length = q2 := by
              rw [List.length_take, ← y_ds_len hst]
              omega
            have hstk : sv = (sv.take q2).reverse.reverse ++ sv.drop q2 := by
              rw [List.reverse_reverse, List.take_append_drop]
            have hys := y_ds_drop q2 hst
            refine y_callW (va_runS (As := (sv.take q2).reverse) (rest := sv.drop q2) ⟨hx, hb, hml, hown, hts⟩ hM (va_cwS q2 hts (y_good3 f1 w1 w2 w3) rfl rfl rfl ⟨f3.1, f3.2, w5⟩ hR) ⟨y_blind D tys ws H.size _, hpre _⟩ rfl (by rw [List.length_reverse]; exact hlen) hls.1 hstk (lv_room (by rw [y_cats_ok hys]; exact hc8)) hdg ⟨by omega, by omega⟩) hS hAA (fun v α' tys' ws' H1 locs1 a1 a2 a3 a4 a5 a6 a7 => go v _ hys α' tys' ws' H1 locs1 a1 a2 a3 a4 a5 a6 a7)
          | invokespecial i =>
            have h99 : Nat.beq q3 99 = false := by
              cases h99 : Nat.beq q3 99 with
              | false => rfl
              | true =>
                have hk2 : (bif Nat.beq q3 99 then 0 else 3) = kd + 1 := hkd
                rw [h99] at hk2
                cases hk2
            have hkd1 : kd = 2 := by
              have hk2 : (bif Nat.beq q3 99 then 0 else 3) = kd + 1 := hkd
              rw [h99] at hk2
              exact (Nat.succ.inj hk2).symm
            subst hkd1
            simp only [Bool.and_eq_true] at hin2
            have hin3 := of_decide_eq_true hin2.1
            subst hin3
            rw [Nat.add_sub_cancel_left] at hdg
            obtain ⟨j, fs, hd1, hd2, rfl⟩ := y_split_v rfl hsp
            have hdrop := y_ds_drop q2 hst
            rw [hd1] at hdrop
            obtain ⟨b, ys, hd3, hb1, hys⟩ := y_ds_cr hdrop
            unfold y_okc at hoc
            dsimp only at hoc
            rw [h99, hm] at hoc
            simp only [cond_false, Bool.and_eq_true, Bool.or_eq_true, decide_eq_true_eq] at hoc
            obtain ⟨w1, w2, w3, w4, w5, w6⟩ := hoc
            have hvals : y_ds κ α (.inr (.inr (some (j + 1))) :: (S.2.2.1.take q2).reverse) (.ref b :: (sv.take q2).reverse) := y_ds_mk (Option.map_eq_some_iff.mpr ⟨b, hb1, rfl⟩) (y_ds_rev (y_ds_take q2 hst))
            have hM := y_met ih he' hg1 hend hcav H.size hh hvals
            have hlen : (sv.take q2).length = q2 := by
              rw [List.length_take]
              have h9 : (sv.drop q2).length = (Value.ref b :: ys).length := by rw [hd3]
              rw [List.length_drop, List.length_cons] at h9
              omega
            have hstk : sv = (sv.take q2).reverse.reverse ++ .ref b :: ys := by
              rw [List.reverse_reverse, ← hd3, List.take_append_drop]
            have hcw := y_good0 f1
            unfold y_ws at hcw hM
            rw [w4] at hcw hM
            rcases w1 with w1 | w1
            · refine y_callW (va_runI (As := (sv.take q2).reverse) (rest := ys) ⟨hx, hb, hml, hown, hts⟩ hM (cwI q2 hts hcw rfl rfl rfl (hts _ (yM_ok w5)) (hts _ (yM_ok w1)) (hts _ (yM_ok w2)) w3 ⟨f3.1, f3.2, w6⟩ hR) ⟨y_blind D tys ws H.size _, hpre _⟩ rfl (by rw [List.length_reverse]; exact hlen) hls.1 hstk (lv_room (by rw [y_cats_ok hys]; exact hc8)) hdg ⟨by omega, by omega⟩) hS hAA (fun v α' tys' ws' H1 locs1 a1 a2 a3 a4 a5 a6 a7 => go v ys hys α' tys' ws' H1 locs1 a1 a2 a3 a4 a5 a6 a7)
            · obtain ⟨q, hq, hqe⟩ := List.any_eq_true.mp w1
              obtain ⟨z1, z2, z3⟩ := of_decide_eq_true hqe
              have hnw := hAO.2 q hq
              rw [z1, z2, z3] at hnw
              refine y_callW (va_runIN (As := (sv.take q2).reverse) (rest := ys) ⟨hx, hb, hml, hown, hts⟩ hM ⟨va_cnB q2 hts hcw rfl rfl rfl hnw (hts _ (yM_ok w5)) ⟨f3.1, f3.2, w6⟩ hR, w3, hts _ (yM_ok w2)⟩ ⟨y_blind D tys ws H.size _, hpre _⟩ rfl (by rw [List.length_reverse]; exact hlen) hls.1 hstk (lv_room (by rw [y_cats_ok hys]; exact hc8)) hdg ⟨by omega, by omega⟩) hS hAA (fun v α' tys' ws' H1 locs1 a1 a2 a3 a4 a5 a6 a7 => go v ys hys α' tys' ws' H1 locs1 a1 a2 a3 a4 a5 a6 a7)
          | _ => cases hkd
end
section
/-! the methods that a call on a fresh object reaches, as the symbolic run has them -/
def zX8_init : yE := (yX8_init, cX8_init, 1, none, [(0, .aload_n 0, 1, 0, 0, 0), (1, .invokespecial 3, 4, 0, 0, 99), (4, .aload_n 0, 5, 0, 0, 0), (5, .new 9, 8, 2, 7, 124), (8, .dup, 9, 0, 0, 0), (9, .invokespecial 11, 12, 27, 0, 2), (12, .putfield 12, 15, 7, 0, 2), (15, .aload_n 0, 16, 0, 0, 0), (16, .new 16, 19, 0, 3, 1), (19, .dup, 20, 0, 0, 0), (20, .invokespecial 18, 23, 17, 0, 0), (23, .putfield 19, 26, 7, 1, 2), (26, .aload_n 0, 27, 0, 0, 0), (27, .iconst 2, 28, 2, 0, 0), (28, .anewarray 9, 31, 2, 0, 0), (31, .dup, 32, 0, 0, 0), (32, .iconst 0, 33, 0, 0, 0), (33, .new 9, 36, 2, 7, 124), (36, .dup, 37, 0, 0, 0), (37, .invokespecial 11, 40, 27, 0, 2), (40, .aastore, 41, 0, 0, 0), (41, .dup, 42, 0, 0, 0), (42, .iconst 1, 43, 1, 0, 0), (43, .new 9, 46, 2, 7, 124), (46, .dup, 47, 0, 0, 0), (47, .invokespecial 11, 50, 27, 0, 2), (50, .aastore, 51, 0, 0, 0), (51, .putfield 23, 54, 7, 2, 2), (54, .aload_n 0, 55, 0, 0, 0), (55, .iconst 2, 56, 2, 0, 0), (56, .newarray .boolean, 58, 1, 0, 0), (58, .putfield 27, 61, 7, 3, 2), (61, .aload_n 0, 62, 0, 0, 0), (62, .new 31, 65, 3, 2, 1), (65, .dup, 66, 0, 0, 0), (66, .invokespecial 33, 69, 52, 0, 3), (69, .putfield 34, 72, 7, 4, 2), (72, .aload_n 0, 73, 0, 0, 0), (73, .new 38, 76, 5, 8, 125), (76, .dup, 77, 0, 0, 0), (77, .invokespecial 40, 80, 59, 0, 5), (80, .putfield 41, 83, 7, 5, 2), (83, .aload_n 0, 84, 0, 0, 0), (84, .new 45, 87, 4, 4, 7), (87, .dup, 88, 0, 0, 0), (88, .invokespecial 47, 91, 53, 0, 4), (91, .putfield 48, 94, 7, 6, 2), (94, .aload_n 0, 95, 0, 0, 0), (95, .new 52, 98, 6, 5, 15), (98, .dup, 99, 0, 0, 0), (99, .invokespecial 54, 102, 69, 0, 6), (102, .putfield 55, 105, 7, 7, 2), (105, .return_, 106, 0, 0, 0)])
def zX8_arc : yE := (yX8_arc, cX8_arc, 5, (some .int), [(0, .aload_n 0, 1, 0, 0, 0), (1, .getfield 19, 4, 7, 1, 0), (4, .aload_n 0, 5, 0, 0, 0), (5, .getfield 12, 8, 7, 0, 0), (8, .invokevirtual 59, 11, 18, 1, 0), (11, .aload_n 0, 12, 0, 0, 0), (12, .getfield 19, 15, 7, 1, 0), (15, .aload_n 0, 16, 0, 0, 0), (16, .getfield 12, 19, 7, 0, 0), (19, .iload_n 1, 20, 0, 0, 0), (20, .iload_n 2, 21, 0, 0, 0), (21, .iload_n 3, 22, 0, 0, 0), (22, .iload 4, 24, 0, 0, 0), (24, .invokevirtual 74, 27, 47, 4, 2), (27, .invokevirtual 67, 30, 19, 1, 0), (30, .ireturn, 31, 0, 0, 0)])
def zX8_bound : yE := (yX8_bound, cX8_bound, 3, (some .int), [(0, .aload_n 0, 1, 0, 0, 0), (1, .getfield 12, 4, 7, 0, 0), (4, .iload_n 1, 5, 0, 0, 0), (5, .invokevirtual 88, 8, 38, 1, 2), (8, .ifCond .ne 5, 11, 13, 0, 0), (11, .iconst (-1), 12, 4294967295, 0, 0), (12, .ireturn, 13, 0, 0, 0), (13, .aload_n 0, 14, 0, 0, 0), (14, .getfield 55, 17, 7, 7, 0), (17, .aload_n 0, 18, 0, 0, 0), (18, .getfield 12, 21, 7, 0, 0), (21, .invokevirtual 197, 24, 72, 1, 6), (24, .aload_n 0, 25, 0, 0, 0), (25, .getfield 55, 28, 7, 7, 0), (28, .getfield 198, 31, 6, 0, 0), (31, .getfield 181, 34, 1, 5, 0), (34, .ifCond .eq 6, 37, 40, 0, 0), (37, .bipush (-4), 39, 4294967292, 0, 0), (39, .ireturn, 40, 0, 0, 0), (40, .aload_n 0, 41, 0, 0, 0), (41, .getfield 55, 44, 7, 7, 0), (44, .iload_n 1, 45, 0, 0, 0), (45, .invokevirtual 205, 48, 74, 1, 6), (48, .istore_n 2, 49, 0, 0, 0), (49, .iload_n 2, 50, 0, 0, 0), (50, .ldc 208, 52, 1073741824, 0, 0), (52, .if_icmp .ne 8, 55, 60, 0, 0), (55, .bipush (-6), 57, 4294967290, 0, 0), (57, .goto 4, 60, 61, 0, 0), (60, .iload_n 2, 61, 0, 0, 0), (61, .ireturn, 62, 0, 0, 0)])
def zX8_count : yE := (yX8_count, cX8_count, 2, (some .int), [(0, .iload_n 1, 1, 0, 0, 0), (1, .tableswitch 99 0 6 #[43, 51, 59, 67, 75, 83, 91], 44, 0, 0, 0), (44, .aload_n 0, 45, 0, 0, 0), (45, .getfield 12, 48, 7, 0, 0), (48, .getfield 124, 51, 2, 0, 0), (51, .ireturn, 52, 0, 0, 0), (52, .aload_n 0, 53, 0, 0, 0), (53, .getfield 12, 56, 7, 0, 0), (56, .getfield 128, 59, 2, 1, 0), (59, .ireturn, 60, 0, 0, 0), (60, .aload_n 0, 61, 0, 0, 0), (61, .getfield 12, 64, 7, 0, 0), (64, .invokevirtual 131, 67, 31, 0, 2), (67, .ireturn, 68, 0, 0, 0), (68, .aload_n 0, 69, 0, 0, 0), (69, .getfield 12, 72, 7, 0, 0), (72, .invokevirtual 134, 75, 44, 0, 2), (75, .ireturn, 76, 0, 0, 0), (76, .aload_n 0, 77, 0, 0, 0), (77, .getfield 12, 80, 7, 0, 0), (80, .invokevirtual 137, 83, 30, 0, 2), (83, .ireturn, 84, 0, 0, 0), (84, .aload_n 0, 85, 0, 0, 0), (85, .getfield 34, 88, 7, 4, 0), (88, .getfield 140, 91, 3, 1, 0), (91, .ireturn, 92, 0, 0, 0), (92, .aload_n 0, 93, 0, 0, 0), (93, .getfield 19, 96, 7, 1, 0), (96, .getfield 143, 99, 0, 2, 0), (99, .ireturn, 100, 0, 0, 0), (100, .bipush (-2), 102, 4294967294, 0, 0), (102, .ireturn, 103, 0, 0, 0)])
def zX8_fewest : yE := (yX8_fewest, cX8_fewest, 3, (some .int), [(0, .aload_n 0, 1, 0, 0, 0), (1, .getfield 12, 4, 7, 0, 0), (4, .iload_n 1, 5, 0, 0, 0), (5, .invokevirtual 88, 8, 38, 1, 2), (8, .ifCond .ne 5, 11, 13, 0, 0), (11, .iconst (-1), 12, 4294967295, 0, 0), (12, .ireturn, 13, 0, 0, 0), (13, .iload_n 2, 14, 0, 0, 0), (14, .ifCond .lt 10, 17, 24, 0, 0), (17, .iload_n 2, 18, 0, 0, 0), (18, .sipush 9999, 21, 9999, 0, 0), (21, .if_icmp .le 6, 24, 27, 0, 0), (24, .bipush (-2), 26, 4294967294, 0, 0), (26, .ireturn, 27, 0, 0, 0), (27, .aload_n 0, 28, 0, 0, 0), (28, .getfield 48, 31, 7, 6, 0), (31, .aload_n 0, 32, 0, 0, 0), (32, .getfield 12, 35, 7, 0, 0), (35, .invokevirtual 176, 38, 55, 1, 4), (38, .aload_n 0, 39, 0, 0, 0), (39, .getfield 48, 42, 7, 6, 0), (42, .getfield 177, 45, 4, 0, 0), (45, .getfield 181, 48, 1, 5, 0), (48, .ifCond .eq 8, 51, 56, 0, 0), (51, .bipush (-4), 53, 4294967292, 0, 0), (53, .goto 12, 56, 65, 0, 0), (56, .aload_n 0, 57, 0, 0, 0), (57, .getfield 48, 60, 7, 6, 0), (60, .iload_n 1, 61, 0, 0, 0), (61, .iload_n 2, 62, 0, 0, 0), (62, .invokevirtual 194, 65, 54, 2, 4), (65, .ireturn, 66, 0, 0, 0)])
def zX8_growth : yE := (yX8_growth, cX8_growth, 2, (some .int), [(0, .iload_n 1, 1, 0, 0, 0), (1, .ifCond .lt 8, 4, 9, 0, 0), (4, .iload_n 1, 5, 0, 0, 0), (5, .iconst 3, 6, 3, 0, 0), (6, .if_icmp .le 6, 9, 12, 0, 0), (9, .bipush (-2), 11, 4294967294, 0, 0), (11, .ireturn, 12, 0, 0, 0), (12, .aload_n 0, 13, 0, 0, 0), (13, .getfield 55, 16, 7, 7, 0), (16, .aload_n 0, 17, 0, 0, 0), (17, .getfield 12, 20, 7, 0, 0), (20, .invokevirtual 197, 23, 72, 1, 6), (23, .aload_n 0, 24, 0, 0, 0), (24, .getfield 55, 27, 7, 7, 0), (27, .getfield 198, 30, 6, 0, 0), (30, .getfield 181, 33, 1, 5, 0), (33, .ifCond .eq 6, 36, 39, 0, 0), (36, .bipush (-4), 38, 4294967292, 0, 0), (38, .ireturn, 39, 0, 0, 0), (39, .iload_n 1, 40, 0, 0, 0), (40, .tableswitch 58 0 2 #[28, 39, 47], 68, 0, 0, 0), (68, .aload_n 0, 69, 0, 0, 0), (69, .getfield 55, 72, 7, 7, 0), (72, .getfield 198, 75, 6, 0, 0), (75, .getfield 187, 78, 1, 4, 0), (78, .ireturn, 79, 0, 0, 0), (79, .aload_n 0, 80, 0, 0, 0), (80, .getfield 55, 83, 7, 7, 0), (83, .invokevirtual 199, 86, 71, 0, 6), (86, .ireturn, 87, 0, 0, 0), (87, .aload_n 0, 88, 0, 0, 0), (88, .getfield 55, 91, 7, 7, 0), (91, .getfield 198, 94, 6, 0, 0), (94, .getfield 191, 97, 1, 6, 0), (97, .ireturn, 98, 0, 0, 0), (98, .aload_n 0, 99, 0, 0, 0), (99, .getfield 55, 102, 7, 7, 0), (102, .getfield 202, 105, 6, 4, 0), (105, .ireturn, 106, 0, 0, 0)])
def zX8_kept : yE := (yX8_kept, cX8_kept, 3, (some .int), [(0, .aload_n 0, 1, 0, 0, 0), (1, .getfield 41, 4, 7, 5, 0), (4, .aload_n 0, 5, 0, 0, 0), (5, .getfield 12, 8, 7, 0, 0), (8, .invokevirtual 158, 11, 63, 1, 5), (11, .iload_n 1, 12, 0, 0, 0), (12, .ifCond .lt 14, 15, 26, 0, 0), (15, .iload_n 1, 16, 0, 0, 0), (16, .aload_n 0, 17, 0, 0, 0), (17, .getfield 41, 20, 7, 5, 0), (20, .getfield 161, 23, 5, 7, 0), (23, .if_icmp .lt 5, 26, 28, 0, 0), (26, .iconst (-1), 27, 4294967295, 0, 0), (27, .ireturn, 28, 0, 0, 0), (28, .iload_n 2, 29, 0, 0, 0), (29, .bipush 8, 31, 8, 0, 0), (31, .if_icmp .ne 19, 34, 50, 0, 0), (34, .aload_n 0, 35, 0, 0, 0), (35, .getfield 41, 38, 7, 5, 0), (38, .iload_n 1, 39, 0, 0, 0), (39, .aload_n 0, 40, 0, 0, 0), (40, .getfield 12, 43, 7, 0, 0), (43, .getfield 92, 46, 2, 2, 0), (46, .invokevirtual 162, 49, 68, 2, 5), (49, .ireturn, 50, 0, 0, 0), (50, .aload_n 0, 51, 0, 0, 0), (51, .getfield 12, 54, 7, 0, 0), (54, .iload_n 2, 55, 0, 0, 0), (55, .invokevirtual 88, 58, 38, 1, 2), (58, .ifCond .eq 15, 61, 73, 0, 0), (61, .aload_n 0, 62, 0, 0, 0), (62, .getfield 41, 65, 7, 5, 0), (65, .iload_n 1, 66, 0, 0, 0), (66, .iload_n 2, 67, 0, 0, 0), (67, .invokevirtual 166, 70, 67, 2, 5), (70, .goto 5, 73, 75, 0, 0), (73, .bipush (-2), 75, 4294967294, 0, 0), (75, .ireturn, 76, 0, 0, 0)])
def zX8_keptMany : yE := (yX8_keptMany, cX8_keptMany, 1, (some .int), [(0, .aload_n 0, 1, 0, 0, 0), (1, .getfield 41, 4, 7, 5, 0), (4, .aload_n 0, 5, 0, 0, 0), (5, .getfield 12, 8, 7, 0, 0), (8, .invokevirtual 158, 11, 63, 1, 5), (11, .aload_n 0, 12, 0, 0, 0), (12, .getfield 41, 15, 7, 5, 0), (15, .getfield 161, 18, 5, 7, 0), (18, .ireturn, 19, 0, 0, 0)])
def zX8_make : yE := (yX8_make, cX8_make, 2, (some .int), [(0, .aload_n 0, 1, 0, 0, 0), (1, .getfield 19, 4, 7, 1, 0), (4, .aload_n 0, 5, 0, 0, 0), (5, .getfield 12, 8, 7, 0, 0), (8, .invokevirtual 59, 11, 18, 1, 0), (11, .aload_n 0, 12, 0, 0, 0), (12, .getfield 19, 15, 7, 1, 0), (15, .aload_n 0, 16, 0, 0, 0), (16, .getfield 12, 19, 7, 0, 0), (19, .iload_n 1, 20, 0, 0, 0), (20, .invokevirtual 82, 23, 40, 1, 2), (23, .invokevirtual 67, 26, 19, 1, 0), (26, .ireturn, 27, 0, 0, 0)])
def zX8_move : yE := (yX8_move, cX8_move, 1, (some .int), [(0, .aload_n 0, 1, 0, 0, 0), (1, .getfield 19, 4, 7, 1, 0), (4, .aload_n 0, 5, 0, 0, 0), (5, .getfield 12, 8, 7, 0, 0), (8, .invokevirtual 59, 11, 18, 1, 0), (11, .aload_n 0, 12, 0, 0, 0), (12, .getfield 19, 15, 7, 1, 0), (15, .aload_n 0, 16, 0, 0, 0), (16, .getfield 12, 19, 7, 0, 0), (19, .invokevirtual 70, 22, 28, 0, 2), (22, .invokevirtual 67, 25, 19, 1, 0), (25, .ireturn, 26, 0, 0, 0)])
def zX8_ofMove : yE := (yX8_ofMove, cX8_ofMove, 3, (some .int), [(0, .aload_n 0, 1, 0, 0, 0), (1, .getfield 12, 4, 7, 0, 0), (4, .iload_n 1, 5, 0, 0, 0), (5, .invokevirtual 109, 8, 37, 1, 2), (8, .ifCond .ne 5, 11, 13, 0, 0), (11, .iconst (-1), 12, 4294967295, 0, 0), (12, .ireturn, 13, 0, 0, 0), (13, .iload_n 2, 14, 0, 0, 0), (14, .tableswitch 105 0 4 #[34, 51, 61, 77, 93], 48, 0, 0, 0), (48, .aload_n 0, 49, 0, 0, 0), (49, .getfield 12, 52, 7, 0, 0), (52, .iload_n 1, 53, 0, 0, 0), (53, .invokevirtual 112, 56, 33, 1, 2), (56, .ifCond .eq 7, 59, 63, 0, 0), (59, .iconst 1, 60, 1, 0, 0), (60, .goto 4, 63, 64, 0, 0), (63, .iconst 0, 64, 0, 0, 0), (64, .ireturn, 65, 0, 0, 0), (65, .aload_n 0, 66, 0, 0, 0), (66, .getfield 12, 69, 7, 0, 0), (69, .getfield 115, 72, 2, 4, 0), (72, .iload_n 1, 73, 0, 0, 0), (73, .iaload, 74, 0, 0, 0), (74, .ireturn, 75, 0, 0, 0), (75, .aload_n 0, 76, 0, 0, 0), (76, .getfield 12, 79, 7, 0, 0), (79, .aload_n 0, 80, 0, 0, 0), (80, .getfield 12, 83, 7, 0, 0), (83, .getfield 96, 86, 2, 5, 0), (86, .iload_n 1, 87, 0, 0, 0), (87, .invokevirtual 118, 90, 43, 2, 2), (90, .ireturn, 91, 0, 0, 0), (91, .aload_n 0, 92, 0, 0, 0), (92, .getfield 12, 95, 7, 0, 0), (95, .aload_n 0, 96, 0, 0, 0), (96, .getfield 12, 99, 7, 0, 0), (99, .getfield 103, 102, 2, 6, 0), (102, .iload_n 1, 103, 0, 0, 0), (103, .invokevirtual 118, 106, 43, 2, 2), (106, .ireturn, 107, 0, 0, 0), (107, .aload_n 0, 108, 0, 0, 0), (108, .getfield 12, 111, 7, 0, 0), (111, .iload_n 1, 112, 0, 0, 0), (112, .invokevirtual 121, 115, 50, 1, 2), (115, .bipush 100, 117, 100, 0, 0), (117, .iadd, 118, 0, 0, 0), (118, .ireturn, 119, 0, 0, 0), (119, .bipush (-2), 121, 4294967294, 0, 0), (121, .ireturn, 122, 0, 0, 0)])
def zX8_ofPlace : yE := (yX8_ofPlace, cX8_ofPlace, 3, (some .int), [(0, .aload_n 0, 1, 0, 0, 0), (1, .getfield 12, 4, 7, 0, 0), (4, .iload_n 1, 5, 0, 0, 0), (5, .invokevirtual 88, 8, 38, 1, 2), (8, .ifCond .ne 5, 11, 13, 0, 0), (11, .iconst (-1), 12, 4294967295, 0, 0), (12, .ireturn, 13, 0, 0, 0), (13, .iload_n 2, 14, 0, 0, 0), (14, .tableswitch 82 0 3 #[30, 40, 56, 72], 44, 0, 0, 0), (44, .aload_n 0, 45, 0, 0, 0), (45, .getfield 12, 48, 7, 0, 0), (48, .getfield 92, 51, 2, 2, 0), (51, .iload_n 1, 52, 0, 0, 0), (52, .iaload, 53, 0, 0, 0), (53, .ireturn, 54, 0, 0, 0), (54, .aload_n 0, 55, 0, 0, 0), (55, .getfield 12, 58, 7, 0, 0), (58, .aload_n 0, 59, 0, 0, 0), (59, .getfield 12, 62, 7, 0, 0), (62, .getfield 96, 65, 2, 5, 0), (65, .iload_n 1, 66, 0, 0, 0), (66, .invokevirtual 99, 69, 42, 2, 2), (69, .ireturn, 70, 0, 0, 0), (70, .aload_n 0, 71, 0, 0, 0), (71, .getfield 12, 74, 7, 0, 0), (74, .aload_n 0, 75, 0, 0, 0), (75, .getfield 12, 78, 7, 0, 0), (78, .getfield 103, 81, 2, 6, 0), (81, .iload_n 1, 82, 0, 0, 0), (82, .invokevirtual 99, 85, 42, 2, 2), (85, .ireturn, 86, 0, 0, 0), (86, .aload_n 0, 87, 0, 0, 0), (87, .getfield 12, 90, 7, 0, 0), (90, .getfield 106, 93, 2, 3, 0), (93, .iload_n 1, 94, 0, 0, 0), (94, .iaload, 95, 0, 0, 0), (95, .ireturn, 96, 0, 0, 0), (96, .bipush (-2), 98, 4294967294, 0, 0), (98, .ireturn, 99, 0, 0, 0)])
def zX8_place : yE := (yX8_place, cX8_place, 2, (some .int), [(0, .aload_n 0, 1, 0, 0, 0), (1, .getfield 19, 4, 7, 1, 0), (4, .aload_n 0, 5, 0, 0, 0), (5, .getfield 12, 8, 7, 0, 0), (8, .invokevirtual 59, 11, 18, 1, 0), (11, .aload_n 0, 12, 0, 0, 0), (12, .getfield 19, 15, 7, 1, 0), (15, .aload_n 0, 16, 0, 0, 0), (16, .getfield 12, 19, 7, 0, 0), (19, .iload_n 1, 20, 0, 0, 0), (20, .invokevirtual 63, 23, 29, 1, 2), (23, .invokevirtual 67, 26, 19, 1, 0), (26, .ireturn, 27, 0, 0, 0)])
def zX8_reached : yE := (yX8_reached, cX8_reached, 2, (some .int), [(0, .iload_n 1, 1, 0, 0, 0), (1, .ifCond .lt 8, 4, 9, 0, 0), (4, .iload_n 1, 5, 0, 0, 0), (5, .iconst 2, 6, 2, 0, 0), (6, .if_icmp .le 6, 9, 12, 0, 0), (9, .bipush (-2), 11, 4294967294, 0, 0), (11, .ireturn, 12, 0, 0, 0), (12, .aload_n 0, 13, 0, 0, 0), (13, .getfield 48, 16, 7, 6, 0), (16, .aload_n 0, 17, 0, 0, 0), (17, .getfield 12, 20, 7, 0, 0), (20, .invokevirtual 176, 23, 55, 1, 4), (23, .aload_n 0, 24, 0, 0, 0), (24, .getfield 48, 27, 7, 6, 0), (27, .getfield 177, 30, 4, 0, 0), (30, .getfield 181, 33, 1, 5, 0), (33, .ifCond .eq 6, 36, 39, 0, 0), (36, .bipush (-4), 38, 4294967292, 0, 0), (38, .ireturn, 39, 0, 0, 0), (39, .iload_n 1, 40, 0, 0, 0), (40, .lookupswitch 47 #[(0, 28), (1, 39)], 68, 0, 0, 0), (68, .aload_n 0, 69, 0, 0, 0), (69, .getfield 48, 72, 7, 6, 0), (72, .getfield 177, 75, 4, 0, 0), (75, .getfield 187, 78, 1, 4, 0), (78, .ireturn, 79, 0, 0, 0), (79, .aload_n 0, 80, 0, 0, 0), (80, .getfield 48, 83, 7, 6, 0), (83, .getfield 188, 86, 4, 3, 0), (86, .ireturn, 87, 0, 0, 0), (87, .aload_n 0, 88, 0, 0, 0), (88, .getfield 48, 91, 7, 6, 0), (91, .getfield 177, 94, 4, 0, 0), (94, .getfield 191, 97, 1, 6, 0), (97, .ireturn, 98, 0, 0, 0)])
def zX8_run : yE := (yX8_run, cX8_run, 3, (some .int), [(0, .aload_n 0, 1, 0, 0, 0), (1, .getfield 19, 4, 7, 1, 0), (4, .aload_n 0, 5, 0, 0, 0), (5, .getfield 12, 8, 7, 0, 0), (8, .invokevirtual 59, 11, 18, 1, 0), (11, .aload_n 0, 12, 0, 0, 0), (12, .getfield 19, 15, 7, 1, 0), (15, .aload_n 0, 16, 0, 0, 0), (16, .getfield 12, 19, 7, 0, 0), (19, .iload_n 1, 20, 0, 0, 0), (20, .iload_n 2, 21, 0, 0, 0), (21, .invokevirtual 85, 24, 39, 2, 2), (24, .invokevirtual 67, 27, 19, 1, 0), (27, .ireturn, 28, 0, 0, 0)])
def zX8_tokens : yE := (yX8_tokens, cX8_tokens, 3, (some .int), [(0, .aload_n 0, 1, 0, 0, 0), (1, .getfield 19, 4, 7, 1, 0), (4, .aload_n 0, 5, 0, 0, 0), (5, .getfield 12, 8, 7, 0, 0), (8, .invokevirtual 59, 11, 18, 1, 0), (11, .aload_n 0, 12, 0, 0, 0), (12, .getfield 19, 15, 7, 1, 0), (15, .aload_n 0, 16, 0, 0, 0), (16, .getfield 12, 19, 7, 0, 0), (19, .iload_n 1, 20, 0, 0, 0), (20, .iload_n 2, 21, 0, 0, 0), (21, .invokevirtual 78, 24, 48, 2, 2), (24, .invokevirtual 67, 27, 19, 1, 0), (27, .ireturn, 28, 0, 0, 0)])
def zX8_trap : yE := (yX8_trap, cX8_trap, 3, (some .int), [(0, .iload_n 1, 1, 0, 0, 0), (1, .ifCond .lt 16, 4, 17, 0, 0), (4, .iload_n 1, 5, 0, 0, 0), (5, .iconst 1, 6, 1, 0, 0), (6, .aload_n 0, 7, 0, 0, 0), (7, .getfield 12, 10, 7, 0, 0), (10, .getfield 124, 13, 2, 0, 0), (13, .ishl, 14, 0, 0, 0), (14, .if_icmp .lt 5, 17, 19, 0, 0), (17, .iconst (-1), 18, 4294967295, 0, 0), (18, .ireturn, 19, 0, 0, 0), (19, .iload_n 2, 20, 0, 0, 0), (20, .tableswitch 138 0 3 #[32, 55, 78, 108], 52, 0, 0, 0), (52, .aload_n 0, 53, 0, 0, 0), (53, .getfield 12, 56, 7, 0, 0), (56, .iload_n 1, 57, 0, 0, 0), (57, .aload_n 0, 58, 0, 0, 0), (58, .getfield 12, 61, 7, 0, 0), (61, .getfield 96, 64, 2, 5, 0), (64, .aload_n 0, 65, 0, 0, 0), (65, .getfield 12, 68, 7, 0, 0), (68, .getfield 103, 71, 2, 6, 0), (71, .invokevirtual 169, 74, 36, 3, 2), (74, .ireturn, 75, 0, 0, 0), (75, .aload_n 0, 76, 0, 0, 0), (76, .getfield 12, 79, 7, 0, 0), (79, .iload_n 1, 80, 0, 0, 0), (80, .aload_n 0, 81, 0, 0, 0), (81, .getfield 12, 84, 7, 0, 0), (84, .getfield 103, 87, 2, 6, 0), (87, .aload_n 0, 88, 0, 0, 0), (88, .getfield 12, 91, 7, 0, 0), (91, .getfield 96, 94, 2, 5, 0), (94, .invokevirtual 169, 97, 36, 3, 2), (97, .ireturn, 98, 0, 0, 0), (98, .aload_n 0, 99, 0, 0, 0), (99, .getfield 12, 102, 7, 0, 0), (102, .aload_n 0, 103, 0, 0, 0), (103, .getfield 12, 106, 7, 0, 0), (106, .iload_n 1, 107, 0, 0, 0), (107, .aload_n 0, 108, 0, 0, 0), (108, .getfield 12, 111, 7, 0, 0), (111, .getfield 96, 114, 2, 5, 0), (114, .aload_n 0, 115, 0, 0, 0), (115, .getfield 12, 118, 7, 0, 0), (118, .getfield 103, 121, 2, 6, 0), (121, .invokevirtual 169, 124, 36, 3, 2), (124, .invokevirtual 173, 127, 51, 1, 2), (127, .ireturn, 128, 0, 0, 0), (128, .aload_n 0, 129, 0, 0, 0), (129, .getfield 12, 132, 7, 0, 0), (132, .aload_n 0, 133, 0, 0, 0), (133, .getfield 12, 136, 7, 0, 0), (136, .iload_n 1, 137, 0, 0, 0), (137, .aload_n 0, 138, 0, 0, 0), (138, .getfield 12, 141, 7, 0, 0), (141, .getfield 103, 144, 2, 6, 0), (144, .aload_n 0, 145, 0, 0, 0), (145, .getfield 12, 148, 7, 0, 0), (148, .getfield 96, 151, 2, 5, 0), (151, .invokevirtual 169, 154, 36, 3, 2), (154, .invokevirtual 173, 157, 51, 1, 2), (157, .ireturn, 158, 0, 0, 0), (158, .bipush (-2), 160, 4294967294, 0, 0), (160, .ireturn, 161, 0, 0, 0)])
def zX1_init : yE := (yX1_init, cX1_init, 2, none, [(0, .aload_n 0, 1, 0, 0, 0), (1, .invokespecial 5, 4, 0, 0, 99), (4, .aload_n 0, 5, 0, 0, 0), (5, .bipush 7, 7, 7, 0, 0), (7, .anewarray 11, 10, 2, 0, 0), (10, .putfield 13, 13, 0, 0, 2), (13, .iconst 0, 14, 0, 0, 0), (14, .istore_n 1, 15, 0, 0, 0), (15, .iload_n 1, 16, 0, 0, 0), (16, .bipush 7, 18, 7, 0, 0), (18, .if_icmp .ge 22, 21, 40, 0, 0), (21, .aload_n 0, 22, 0, 0, 0), (22, .getfield 13, 25, 0, 0, 0), (25, .iload_n 1, 26, 0, 0, 0), (26, .new 11, 29, 2, 7, 124), (29, .dup, 30, 0, 0, 0), (30, .invokespecial 17, 33, 27, 0, 2), (33, .aastore, 34, 0, 0, 0), (34, .iinc 1 1, 37, 1, 0, 0), (37, .goto (-22), 40, 15, 0, 0), (40, .return_, 41, 0, 0, 0)])
def zX1_note : yE := (yX1_note, cX1_note, 2, none, [(0, .aload_n 0, 1, 0, 0, 0), (1, .getfield 13, 4, 0, 0, 0), (4, .aload_n 0, 5, 0, 0, 0), (5, .getfield 18, 8, 0, 1, 0), (8, .aaload, 9, 0, 0, 0), (9, .aload_n 1, 10, 0, 0, 0), (10, .invokevirtual 22, 13, 35, 1, 2), (13, .return_, 14, 0, 0, 0)])
def zX1_settle : yE := (yX1_settle, cX1_settle, 2, (some .int), [(0, .iload_n 1, 1, 0, 0, 0), (1, .ifCond .lt 31, 4, 32, 0, 0), (4, .aload_n 0, 5, 0, 0, 0), (5, .aload_n 0, 6, 0, 0, 0), (6, .getfield 18, 9, 0, 1, 0), (9, .iconst 1, 10, 1, 0, 0), (10, .iadd, 11, 0, 0, 0), (11, .bipush 7, 13, 7, 0, 0), (13, .irem, 14, 0, 0, 0), (14, .putfield 18, 17, 0, 1, 0), (17, .aload_n 0, 18, 0, 0, 0), (18, .aload_n 0, 19, 0, 0, 0), (19, .getfield 26, 22, 0, 2, 0), (22, .iconst 1, 23, 1, 0, 0), (23, .iadd, 24, 0, 0, 0), (24, .bipush 6, 26, 6, 0, 0), (26, .invokestatic 29, 29, 0, 0, 97), (29, .putfield 26, 32, 0, 2, 0), (32, .iload_n 1, 33, 0, 0, 0), (33, .ireturn, 34, 0, 0, 0)])
def zX2_init : yE := (yX2_init, cX2_init, 1, none, [(0, .aload_n 0, 1, 0, 0, 0), (1, .invokespecial 3, 4, 0, 0, 99), (4, .aload_n 0, 5, 0, 0, 0), (5, .new 9, 8, 2, 7, 124), (8, .dup, 9, 0, 0, 0), (9, .invokespecial 11, 12, 27, 0, 2), (12, .putfield 12, 15, 1, 0, 2), (15, .aload_n 0, 16, 0, 0, 0), (16, .sipush 2400, 19, 2400, 0, 0), (19, .newarray .int, 21, 0, 0, 0), (21, .putfield 18, 24, 1, 2, 2), (24, .aload_n 0, 25, 0, 0, 0), (25, .bipush 8, 27, 8, 0, 0), (27, .newarray .int, 29, 0, 0, 0), (29, .putfield 22, 32, 1, 3, 2), (32, .return_, 33, 0, 0, 0)])
def zX2_areSame : yE := (yX2_areSame, cX2_areSame, 3, (some .boolean), [(0, .aload_n 0, 1, 0, 0, 0), (1, .iload_n 1, 2, 0, 0, 0), (2, .aload_n 0, 3, 0, 0, 0), (3, .getfield 18, 6, 1, 2, 0), (6, .iload_n 2, 7, 0, 0, 0), (7, .bipush 8, 9, 8, 0, 0), (9, .imul, 10, 0, 0, 0), (10, .invokevirtual 67, 13, 23, 3, 1), (13, .ireturn, 14, 0, 0, 0)])
def zX2_begins : yE := (yX2_begins, cX2_begins, 2, (some .boolean), [(0, .aload_n 0, 1, 0, 0, 0), (1, .getfield 25, 4, 1, 1, 0), (4, .ifCond .eq 27, 7, 31, 0, 0), (7, .aload_n 0, 8, 0, 0, 0), (8, .getfield 12, 11, 1, 0, 0), (11, .aload_n 1, 12, 0, 0, 0), (12, .invokevirtual 29, 15, 45, 1, 2), (15, .ifCond .eq 16, 18, 31, 0, 0), (18, .aload_n 0, 19, 0, 0, 0), (19, .getfield 12, 22, 1, 0, 0), (22, .aload_n 1, 23, 0, 0, 0), (23, .invokevirtual 33, 26, 46, 1, 2), (26, .ifCond .eq 5, 29, 31, 0, 0), (29, .iconst 0, 30, 0, 0, 0), (30, .ireturn, 31, 0, 0, 0), (31, .aload_n 0, 32, 0, 0, 0), (32, .getfield 12, 35, 1, 0, 0), (35, .aload_n 1, 36, 0, 0, 0), (36, .invokevirtual 36, 39, 35, 1, 2), (39, .aload_n 0, 40, 0, 0, 0), (40, .iconst 1, 41, 1, 0, 0), (41, .putfield 25, 44, 1, 1, 1), (44, .aload_n 0, 45, 0, 0, 0), (45, .iconst 0, 46, 0, 0, 0), (46, .putfield 40, 49, 1, 4, 0), (49, .aload_n 0, 50, 0, 0, 0), (50, .iconst 0, 51, 0, 0, 0), (51, .putfield 44, 54, 1, 5, 1), (54, .aload_n 0, 55, 0, 0, 0), (55, .iconst 0, 56, 0, 0, 0), (56, .putfield 47, 59, 1, 6, 0), (59, .aload_n 1, 60, 0, 0, 0), (60, .getfield 50, 63, 2, 2, 0), (63, .iconst 0, 64, 0, 0, 0), (64, .aload_n 0, 65, 0, 0, 0), (65, .getfield 22, 68, 1, 3, 0), (68, .iconst 0, 69, 0, 0, 0), (69, .bipush 8, 71, 8, 0, 0), (71, .invokestatic 53, 74, 0, 0, 98), (74, .iconst 1, 75, 1, 0, 0), (75, .ireturn, 76, 0, 0, 0)])
def zX2_isLike : yE := (yX2_isLike, cX2_isLike, 5, (some .boolean), [(0, .iconst 0, 1, 0, 0, 0), (1, .istore 4, 3, 0, 0, 0), (3, .iload 4, 5, 0, 0, 0), (5, .bipush 8, 7, 8, 0, 0), (7, .if_icmp .ge 32, 10, 39, 0, 0), (10, .aload_n 0, 11, 0, 0, 0), (11, .getfield 18, 14, 1, 2, 0), (14, .iload_n 1, 15, 0, 0, 0), (15, .bipush 8, 17, 8, 0, 0), (17, .imul, 18, 0, 0, 0), (18, .iload 4, 20, 0, 0, 0), (20, .iadd, 21, 0, 0, 0), (21, .iaload, 22, 0, 0, 0), (22, .aload_n 2, 23, 0, 0, 0), (23, .iload_n 3, 24, 0, 0, 0), (24, .iload 4, 26, 0, 0, 0), (26, .iadd, 27, 0, 0, 0), (27, .iaload, 28, 0, 0, 0), (28, .if_icmp .eq 5, 31, 33, 0, 0), (31, .iconst 0, 32, 0, 0, 0), (32, .ireturn, 33, 0, 0, 0), (33, .iinc 4 1, 36, 1, 0, 0), (36, .goto (-33), 39, 3, 0, 0), (39, .iconst 1, 40, 1, 0, 0), (40, .ireturn, 41, 0, 0, 0)])
def zX2_isNext : yE := (yX2_isNext, cX2_isNext, 2, (some .boolean), [(0, .aload_n 0, 1, 0, 0, 0), (1, .iload_n 1, 2, 0, 0, 0), (2, .aload_n 0, 3, 0, 0, 0), (3, .getfield 22, 6, 1, 3, 0), (6, .iconst 0, 7, 0, 0, 0), (7, .invokevirtual 67, 10, 23, 3, 1), (10, .ireturn, 11, 0, 0, 0)])
def zX2_leads : yE := (yX2_leads, cX2_leads, 4, (some .boolean), [(0, .aload_n 0, 1, 0, 0, 0), (1, .getfield 12, 4, 1, 0, 0), (4, .aload_n 0, 5, 0, 0, 0), (5, .getfield 18, 8, 1, 2, 0), (8, .iload_n 1, 9, 0, 0, 0), (9, .bipush 8, 11, 8, 0, 0), (11, .imul, 12, 0, 0, 0), (12, .iload_n 2, 13, 0, 0, 0), (13, .iload_n 3, 14, 0, 0, 0), (14, .invokevirtual 59, 17, 32, 4, 2), (17, .ifCond .ne 5, 20, 22, 0, 0), (20, .iconst 0, 21, 0, 0, 0), (21, .ireturn, 22, 0, 0, 0), (22, .aload_n 0, 23, 0, 0, 0), (23, .dup, 24, 0, 0, 0), (24, .getfield 47, 27, 1, 6, 0), (27, .iconst 1, 28, 1, 0, 0), (28, .iload_n 2, 29, 0, 0, 0), (29, .ishl, 30, 0, 0, 0), (30, .ior, 31, 0, 0, 0), (31, .putfield 47, 34, 1, 6, 0), (34, .aload_n 0, 35, 0, 0, 0), (35, .getfield 12, 38, 1, 0, 0), (38, .aload_n 0, 39, 0, 0, 0), (39, .getfield 18, 42, 1, 2, 0), (42, .iload_n 1, 43, 0, 0, 0), (43, .bipush 8, 45, 8, 0, 0), (45, .imul, 46, 0, 0, 0), (46, .iload_n 2, 47, 0, 0, 0), (47, .aload_n 0, 48, 0, 0, 0), (48, .getfield 22, 51, 1, 3, 0), (51, .invokevirtual 63, 54, 49, 4, 2), (54, .iconst 1, 55, 1, 0, 0), (55, .ireturn, 56, 0, 0, 0)])
def zX2_takeIn : yE := (yX2_takeIn, cX2_takeIn, 1, (some .boolean), [(0, .aload_n 0, 1, 0, 0, 0), (1, .getfield 40, 4, 1, 4, 0), (4, .sipush 300, 7, 300, 0, 0), (7, .if_icmp .lt 10, 10, 17, 0, 0), (10, .aload_n 0, 11, 0, 0, 0), (11, .iconst 1, 12, 1, 0, 0), (12, .putfield 44, 15, 1, 5, 1), (15, .iconst 0, 16, 0, 0, 0), (16, .ireturn, 17, 0, 0, 0), (17, .aload_n 0, 18, 0, 0, 0), (18, .getfield 22, 21, 1, 3, 0), (21, .iconst 0, 22, 0, 0, 0), (22, .aload_n 0, 23, 0, 0, 0), (23, .getfield 18, 26, 1, 2, 0), (26, .aload_n 0, 27, 0, 0, 0), (27, .getfield 40, 30, 1, 4, 0), (30, .bipush 8, 32, 8, 0, 0), (32, .imul, 33, 0, 0, 0), (33, .bipush 8, 35, 8, 0, 0), (35, .invokestatic 53, 38, 0, 0, 98), (38, .aload_n 0, 39, 0, 0, 0), (39, .dup, 40, 0, 0, 0), (40, .getfield 40, 43, 1, 4, 0), (43, .iconst 1, 44, 1, 0, 0), (44, .iadd, 45, 0, 0, 0), (45, .putfield 40, 48, 1, 4, 0), (48, .iconst 1, 49, 1, 0, 0), (49, .ireturn, 50, 0, 0, 0)])
def zX3_init : yE := (yX3_init, cX3_init, 1, none, [(0, .aload_n 0, 1, 0, 0, 0), (1, .invokespecial 3, 4, 0, 0, 99), (4, .aload_n 0, 5, 0, 0, 0), (5, .bipush 8, 7, 8, 0, 0), (7, .newarray .int, 9, 0, 0, 0), (9, .putfield 9, 12, 2, 2, 2), (12, .aload_n 0, 13, 0, 0, 0), (13, .bipush 8, 15, 8, 0, 0), (15, .newarray .int, 17, 0, 0, 0), (17, .putfield 15, 20, 2, 3, 2), (20, .aload_n 0, 21, 0, 0, 0), (21, .bipush 8, 23, 8, 0, 0), (23, .newarray .int, 25, 0, 0, 0), (25, .putfield 18, 28, 2, 4, 2), (28, .aload_n 0, 29, 0, 0, 0), (29, .bipush 64, 31, 64, 0, 0), (31, .newarray .int, 33, 0, 0, 0), (33, .putfield 21, 36, 2, 5, 2), (36, .aload_n 0, 37, 0, 0, 0), (37, .bipush 64, 39, 64, 0, 0), (39, .newarray .int, 41, 0, 0, 0), (41, .putfield 24, 44, 2, 6, 2), (44, .return_, 45, 0, 0, 0)])
def zX3_addMove : yE := (yX3_addMove, cX3_addMove, 1, (some .int), [(0, .aload_n 0, 1, 0, 0, 0), (1, .getfield 31, 4, 2, 1, 0), (4, .bipush 8, 6, 8, 0, 0), (6, .if_icmp .lt 6, 9, 12, 0, 0), (9, .bipush (-4), 11, 4294967292, 0, 0), (11, .ireturn, 12, 0, 0, 0), (12, .aload_n 0, 13, 0, 0, 0), (13, .dup, 14, 0, 0, 0), (14, .getfield 31, 17, 2, 1, 0), (17, .iconst 1, 18, 1, 0, 0), (18, .iadd, 19, 0, 0, 0), (19, .putfield 31, 22, 2, 1, 0), (22, .aload_n 0, 23, 0, 0, 0), (23, .getfield 31, 26, 2, 1, 0), (26, .iconst 1, 27, 1, 0, 0), (27, .isub, 28, 0, 0, 0), (28, .ireturn, 29, 0, 0, 0)])
def zX3_addPlace : yE := (yX3_addPlace, cX3_addPlace, 2, (some .int), [(0, .iload_n 1, 1, 0, 0, 0), (1, .ifCond .lt 10, 4, 11, 0, 0), (4, .iload_n 1, 5, 0, 0, 0), (5, .sipush 999, 8, 999, 0, 0), (8, .if_icmp .le 6, 11, 14, 0, 0), (11, .bipush (-2), 13, 4294967294, 0, 0), (13, .ireturn, 14, 0, 0, 0), (14, .aload_n 0, 15, 0, 0, 0), (15, .getfield 27, 18, 2, 0, 0), (18, .bipush 8, 20, 8, 0, 0), (20, .if_icmp .lt 6, 23, 26, 0, 0), (23, .bipush (-4), 25, 4294967292, 0, 0), (25, .ireturn, 26, 0, 0, 0), (26, .aload_n 0, 27, 0, 0, 0), (27, .getfield 9, 30, 2, 2, 0), (30, .aload_n 0, 31, 0, 0, 0), (31, .getfield 27, 34, 2, 0, 0), (34, .iload_n 1, 35, 0, 0, 0), (35, .iastore, 36, 0, 0, 0), (36, .aload_n 0, 37, 0, 0, 0), (37, .getfield 15, 40, 2, 3, 0), (40, .aload_n 0, 41, 0, 0, 0), (41, .getfield 27, 44, 2, 0, 0), (44, .iload_n 1, 45, 0, 0, 0), (45, .iastore, 46, 0, 0, 0), (46, .aload_n 0, 47, 0, 0, 0), (47, .dup, 48, 0, 0, 0), (48, .getfield 27, 51, 2, 0, 0), (51, .iconst 1, 52, 1, 0, 0), (52, .iadd, 53, 0, 0, 0), (53, .putfield 27, 56, 2, 0, 0), (56, .aload_n 0, 57, 0, 0, 0), (57, .getfield 27, 60, 2, 0, 0), (60, .iconst 1, 61, 1, 0, 0), (61, .isub, 62, 0, 0, 0), (62, .ireturn, 63, 0, 0, 0)])
def zX3_allMade : yE := (yX3_allMade, cX3_allMade, 3, (some .int), [(0, .iconst 0, 1, 0, 0, 0), (1, .istore_n 1, 2, 0, 0, 0), (2, .iconst 0, 3, 0, 0, 0), (3, .istore_n 2, 4, 0, 0, 0), (4, .iload_n 2, 5, 0, 0, 0), (5, .bipush 8, 7, 8, 0, 0), (7, .if_icmp .ge 18, 10, 25, 0, 0), (10, .iload_n 1, 11, 0, 0, 0), (11, .aload_n 0, 12, 0, 0, 0), (12, .getfield 18, 15, 2, 4, 0), (15, .iload_n 2, 16, 0, 0, 0), (16, .iaload, 17, 0, 0, 0), (17, .iadd, 18, 0, 0, 0), (18, .istore_n 1, 19, 0, 0, 0), (19, .iinc 2 1, 22, 1, 0, 0), (22, .goto (-18), 25, 4, 0, 0), (25, .iload_n 1, 26, 0, 0, 0), (26, .ireturn, 27, 0, 0, 0)])
def zX3_allTokens : yE := (yX3_allTokens, cX3_allTokens, 1, (some .int), [(0, .aload_n 0, 1, 0, 0, 0), (1, .sipush 255, 4, 255, 0, 0), (4, .invokevirtual 91, 7, 51, 1, 2), (7, .ireturn, 8, 0, 0, 0)])
def zX3_allows : yE := (yX3_allows, cX3_allows, 7, (some .boolean), [(0, .iconst 0, 1, 0, 0, 0), (1, .istore 5, 3, 0, 0, 0), (3, .iload 5, 5, 0, 0, 0), (5, .bipush 8, 7, 8, 0, 0), (7, .if_icmp .ge 57, 10, 64, 0, 0), (10, .aload_n 1, 11, 0, 0, 0), (11, .iload_n 2, 12, 0, 0, 0), (12, .iload 5, 14, 0, 0, 0), (14, .iadd, 15, 0, 0, 0), (15, .iaload, 16, 0, 0, 0), (16, .aload_n 0, 17, 0, 0, 0), (17, .getfield 21, 20, 2, 5, 0), (20, .iload_n 3, 21, 0, 0, 0), (21, .bipush 8, 23, 8, 0, 0), (23, .imul, 24, 0, 0, 0), (24, .iload 5, 26, 0, 0, 0), (26, .iadd, 27, 0, 0, 0), (27, .iaload, 28, 0, 0, 0), (28, .isub, 29, 0, 0, 0), (29, .istore 6, 31, 0, 0, 0), (31, .iload 6, 33, 0, 0, 0), (33, .ifCond .lt 23, 36, 56, 0, 0), (36, .iload 6, 38, 0, 0, 0), (38, .aload_n 0, 39, 0, 0, 0), (39, .getfield 24, 42, 2, 6, 0), (42, .iload_n 3, 43, 0, 0, 0), (43, .bipush 8, 45, 8, 0, 0), (45, .imul, 46, 0, 0, 0), (46, .iload 5, 48, 0, 0, 0), (48, .iadd, 49, 0, 0, 0), (49, .iaload, 50, 0, 0, 0), (50, .iadd, 51, 0, 0, 0), (51, .iload 4, 53, 0, 0, 0), (53, .if_icmp .le 5, 56, 58, 0, 0), (56, .iconst 0, 57, 0, 0, 0), (57, .ireturn, 58, 0, 0, 0), (58, .iinc 5 1, 61, 1, 0, 0), (61, .goto (-58), 64, 3, 0, 0), (64, .iconst 1, 65, 1, 0, 0), (65, .ireturn, 66, 0, 0, 0)])
def zX3_canMake : yE := (yX3_canMake, cX3_canMake, 2, (some .boolean), [(0, .aload_n 0, 1, 0, 0, 0), (1, .aload_n 0, 2, 0, 0, 0), (2, .getfield 9, 5, 2, 2, 0), (5, .iconst 0, 6, 0, 0, 0), (6, .iload_n 1, 7, 0, 0, 0), (7, .ldc 85, 9, 99999, 0, 0), (9, .invokevirtual 86, 12, 32, 4, 2), (12, .ireturn, 13, 0, 0, 0)])
def zX3_carry : yE := (yX3_carry, cX3_carry, 3, none, [(0, .aload_n 0, 1, 0, 0, 0), (1, .aload_n 0, 2, 0, 0, 0), (2, .getfield 9, 5, 2, 2, 0), (5, .iconst 0, 6, 0, 0, 0), (6, .iload_n 1, 7, 0, 0, 0), (7, .aload_n 0, 8, 0, 0, 0), (8, .getfield 9, 11, 2, 2, 0), (11, .invokevirtual 76, 14, 49, 4, 2), (14, .aload_n 0, 15, 0, 0, 0), (15, .getfield 18, 18, 2, 4, 0), (18, .iload_n 1, 19, 0, 0, 0), (19, .dup2, 20, 0, 0, 0), (20, .iaload, 21, 0, 0, 0), (21, .iconst 1, 22, 1, 0, 0), (22, .iadd, 23, 0, 0, 0), (23, .iastore, 24, 0, 0, 0), (24, .iconst 0, 25, 0, 0, 0), (25, .istore_n 2, 26, 0, 0, 0), (26, .iload_n 2, 27, 0, 0, 0), (27, .bipush 8, 29, 8, 0, 0), (29, .if_icmp .ge 30, 32, 59, 0, 0), (32, .aload_n 0, 33, 0, 0, 0), (33, .getfield 15, 36, 2, 3, 0), (36, .iload_n 2, 37, 0, 0, 0), (37, .aload_n 0, 38, 0, 0, 0), (38, .getfield 15, 41, 2, 3, 0), (41, .iload_n 2, 42, 0, 0, 0), (42, .iaload, 43, 0, 0, 0), (43, .aload_n 0, 44, 0, 0, 0), (44, .getfield 9, 47, 2, 2, 0), (47, .iload_n 2, 48, 0, 0, 0), (48, .iaload, 49, 0, 0, 0), (49, .invokestatic 80, 52, 0, 0, 96), (52, .iastore, 53, 0, 0, 0), (53, .iinc 2 1, 56, 1, 0, 0), (56, .goto (-30), 59, 26, 0, 0), (59, .return_, 60, 0, 0, 0)])
def zX3_copy : yE := (yX3_copy, cX3_copy, 2, none, [(0, .aload_n 0, 1, 0, 0, 0), (1, .aload_n 1, 2, 0, 0, 0), (2, .getfield 27, 5, 2, 0, 0), (5, .putfield 27, 8, 2, 0, 0), (8, .aload_n 0, 9, 0, 0, 0), (9, .aload_n 1, 10, 0, 0, 0), (10, .getfield 31, 13, 2, 1, 0), (13, .putfield 31, 16, 2, 1, 0), (16, .aload_n 1, 17, 0, 0, 0), (17, .getfield 9, 20, 2, 2, 0), (20, .iconst 0, 21, 0, 0, 0), (21, .aload_n 0, 22, 0, 0, 0), (22, .getfield 9, 25, 2, 2, 0), (25, .iconst 0, 26, 0, 0, 0), (26, .bipush 8, 28, 8, 0, 0), (28, .invokestatic 34, 31, 0, 0, 98), (31, .aload_n 1, 32, 0, 0, 0), (32, .getfield 15, 35, 2, 3, 0), (35, .iconst 0, 36, 0, 0, 0), (36, .aload_n 0, 37, 0, 0, 0), (37, .getfield 15, 40, 2, 3, 0), (40, .iconst 0, 41, 0, 0, 0), (41, .bipush 8, 43, 8, 0, 0), (43, .invokestatic 34, 46, 0, 0, 98), (46, .aload_n 1, 47, 0, 0, 0), (47, .getfield 18, 50, 2, 4, 0), (50, .iconst 0, 51, 0, 0, 0), (51, .aload_n 0, 52, 0, 0, 0), (52, .getfield 18, 55, 2, 4, 0), (55, .iconst 0, 56, 0, 0, 0), (56, .bipush 8, 58, 8, 0, 0), (58, .invokestatic 34, 61, 0, 0, 98), (61, .aload_n 1, 62, 0, 0, 0), (62, .getfield 21, 65, 2, 5, 0), (65, .iconst 0, 66, 0, 0, 0), (66, .aload_n 0, 67, 0, 0, 0), (67, .getfield 21, 70, 2, 5, 0), (70, .iconst 0, 71, 0, 0, 0), (71, .bipush 64, 73, 64, 0, 0), (73, .invokestatic 34, 76, 0, 0, 98), (76, .aload_n 1, 77, 0, 0, 0), (77, .getfield 24, 80, 2, 6, 0), (80, .iconst 0, 81, 0, 0, 0), (81, .aload_n 0, 82, 0, 0, 0), (82, .getfield 24, 85, 2, 6, 0), (85, .iconst 0, 86, 0, 0, 0), (86, .bipush 64, 88, 64, 0, 0), (88, .invokestatic 34, 91, 0, 0, 98), (91, .return_, 92, 0, 0, 0)])
def zX3_greatestClosed : yE := (yX3_greatestClosed, cX3_greatestClosed, 8, (some .int), [(0, .iload_n 1, 1, 0, 0, 0), (1, .istore 4, 3, 0, 0, 0), (3, .iconst 0, 4, 0, 0, 0), (4, .istore 5, 6, 0, 0, 0), (6, .iload 5, 8, 0, 0, 0), (8, .bipush 8, 10, 8, 0, 0), (10, .if_icmp .gt 68, 13, 78, 0, 0), (13, .iload 4, 15, 0, 0, 0), (15, .istore 6, 17, 0, 0, 0), (17, .iconst 0, 18, 0, 0, 0), (18, .istore 7, 20, 0, 0, 0), (20, .iload 7, 22, 0, 0, 0), (22, .aload_n 0, 23, 0, 0, 0), (23, .getfield 31, 26, 2, 1, 0), (26, .if_icmp .ge 36, 29, 62, 0, 0), (29, .aload_n 0, 30, 0, 0, 0), (30, .aload_n 3, 31, 0, 0, 0), (31, .iload 7, 33, 0, 0, 0), (33, .invokevirtual 94, 36, 43, 2, 2), (36, .iload 4, 38, 0, 0, 0), (38, .iand, 39, 0, 0, 0), (39, .ifCond .ne 17, 42, 56, 0, 0), (42, .iload 4, 44, 0, 0, 0), (44, .aload_n 0, 45, 0, 0, 0), (45, .aload_n 2, 46, 0, 0, 0), (46, .iload 7, 48, 0, 0, 0), (48, .invokevirtual 94, 51, 43, 2, 2), (51, .iconst (-1), 52, 4294967295, 0, 0), (52, .ixor, 53, 0, 0, 0), (53, .iand, 54, 0, 0, 0), (54, .istore 4, 56, 0, 0, 0), (56, .iinc 7 1, 59, 1, 0, 0), (59, .goto (-39), 62, 20, 0, 0), (62, .iload 4, 64, 0, 0, 0), (64, .iload 6, 66, 0, 0, 0), (66, .if_icmp .ne 6, 69, 72, 0, 0), (69, .iload 4, 71, 0, 0, 0), (71, .ireturn, 72, 0, 0, 0), (72, .iinc 5 1, 75, 1, 0, 0), (75, .goto (-69), 78, 6, 0, 0), (78, .iload 4, 80, 0, 0, 0), (80, .ireturn, 81, 0, 0, 0)])
def zX3_hasMove : yE := (yX3_hasMove, cX3_hasMove, 2, (some .boolean), [(0, .iload_n 1, 1, 0, 0, 0), (1, .ifCond .lt 21, 4, 22, 0, 0), (4, .iload_n 1, 5, 0, 0, 0), (5, .aload_n 0, 6, 0, 0, 0), (6, .getfield 31, 9, 2, 1, 0), (9, .if_icmp .ge 13, 12, 22, 0, 0), (12, .iload_n 1, 13, 0, 0, 0), (13, .bipush 8, 15, 8, 0, 0), (15, .if_icmp .ge 7, 18, 22, 0, 0), (18, .iconst 1, 19, 1, 0, 0), (19, .goto 4, 22, 23, 0, 0), (22, .iconst 0, 23, 0, 0, 0), (23, .ireturn, 24, 0, 0, 0)])
def zX3_hasPlace : yE := (yX3_hasPlace, cX3_hasPlace, 2, (some .boolean), [(0, .iload_n 1, 1, 0, 0, 0), (1, .ifCond .lt 21, 4, 22, 0, 0), (4, .iload_n 1, 5, 0, 0, 0), (5, .aload_n 0, 6, 0, 0, 0), (6, .getfield 27, 9, 2, 0, 0), (9, .if_icmp .ge 13, 12, 22, 0, 0), (12, .iload_n 1, 13, 0, 0, 0), (13, .bipush 8, 15, 8, 0, 0), (15, .if_icmp .ge 7, 18, 22, 0, 0), (18, .iconst 1, 19, 1, 0, 0), (19, .goto 4, 22, 23, 0, 0), (22, .iconst 0, 23, 0, 0, 0), (23, .ireturn, 24, 0, 0, 0)])
def zX3_makeBySeed : yE := (yX3_makeBySeed, cX3_makeBySeed, 8, (some .int), [(0, .iload_n 1, 1, 0, 0, 0), (1, .ifCond .lt 14, 4, 15, 0, 0), (4, .iload_n 2, 5, 0, 0, 0), (5, .iconst 1, 6, 1, 0, 0), (6, .if_icmp .lt 9, 9, 15, 0, 0), (9, .iload_n 2, 10, 0, 0, 0), (10, .bipush 99, 12, 99, 0, 0), (12, .if_icmp .le 6, 15, 18, 0, 0), (15, .bipush (-2), 17, 4294967294, 0, 0), (17, .ireturn, 18, 0, 0, 0), (18, .iload_n 1, 19, 0, 0, 0), (19, .i2l, 20, 0, 0, 0), (20, .lstore_n 3, 21, 0, 0, 0), (21, .iconst 0, 22, 0, 0, 0), (22, .istore 5, 24, 0, 0, 0), (24, .iload 5, 26, 0, 0, 0), (26, .iload_n 2, 27, 0, 0, 0), (27, .if_icmp .ge 63, 30, 90, 0, 0), (30, .aload_n 0, 31, 0, 0, 0), (31, .invokevirtual 54, 34, 44, 0, 2), (34, .istore 6, 36, 0, 0, 0), (36, .iload 6, 38, 0, 0, 0), (38, .invokestatic 58, 41, 91, 1, 0), (41, .istore 7, 43, 0, 0, 0), (43, .iload 7, 45, 0, 0, 0), (45, .ifCond .ne 6, 48, 51, 0, 0), (48, .iload 5, 50, 0, 0, 0), (50, .ireturn, 51, 0, 0, 0), (51, .lload_n 3, 52, 0, 0, 0), (52, .ldc2_w 64, 55, 1103515245, 0, 0), (55, .lmul, 56, 0, 0, 0), (56, .ldc2_w 66, 59, 12345, 0, 0), (59, .ladd, 60, 0, 0, 0), (60, .ldc2_w 68, 63, 2147483648, 0, 0), (63, .lrem, 64, 0, 0, 0), (64, .lstore_n 3, 65, 0, 0, 0), (65, .aload_n 0, 66, 0, 0, 0), (66, .iload 6, 68, 0, 0, 0), (68, .lload_n 3, 69, 0, 0, 0), (69, .ldc2_w 70, 72, 65536, 0, 0), (72, .ldiv, 73, 0, 0, 0), (73, .iload 7, 75, 0, 0, 0), (75, .i2l, 76, 0, 0, 0), (76, .lrem, 77, 0, 0, 0), (77, .l2i, 78, 0, 0, 0), (78, .invokestatic 72, 81, 41, 2, 0), (81, .invokevirtual 50, 84, 34, 1, 2), (84, .iinc 5 1, 87, 1, 0, 0), (87, .goto (-63), 90, 24, 0, 0), (90, .iload_n 2, 91, 0, 0, 0), (91, .ireturn, 92, 0, 0, 0)])
def zX3_makeOne : yE := (yX3_makeOne, cX3_makeOne, 2, (some .int), [(0, .aload_n 0, 1, 0, 0, 0), (1, .iload_n 1, 2, 0, 0, 0), (2, .invokevirtual 40, 5, 37, 1, 2), (5, .ifCond .ne 5, 8, 10, 0, 0), (8, .iconst (-1), 9, 4294967295, 0, 0), (9, .ireturn, 10, 0, 0, 0), (10, .aload_n 0, 11, 0, 0, 0), (11, .iload_n 1, 12, 0, 0, 0), (12, .invokevirtual 47, 15, 33, 1, 2), (15, .ifCond .ne 6, 18, 21, 0, 0), (18, .bipush (-5), 20, 4294967291, 0, 0), (20, .ireturn, 21, 0, 0, 0), (21, .aload_n 0, 22, 0, 0, 0), (22, .iload_n 1, 23, 0, 0, 0), (23, .invokevirtual 50, 26, 34, 1, 2), (26, .aload_n 0, 27, 0, 0, 0), (27, .invokevirtual 54, 30, 44, 0, 2), (30, .invokestatic 58, 33, 91, 1, 0), (33, .ireturn, 34, 0, 0, 0)])
def zX3_memberAt : yE := (yX3_memberAt, cX3_memberAt, 4, (some .int), [(0, .iload_n 1, 1, 0, 0, 0), (1, .istore_n 2, 2, 0, 0, 0), (2, .iconst 0, 3, 0, 0, 0), (3, .istore_n 3, 4, 0, 0, 0), (4, .iload_n 3, 5, 0, 0, 0), (5, .bipush 8, 7, 8, 0, 0), (7, .if_icmp .ge 26, 10, 33, 0, 0), (10, .iload_n 0, 11, 0, 0, 0), (11, .iload_n 3, 12, 0, 0, 0), (12, .ishr, 13, 0, 0, 0), (13, .iconst 1, 14, 1, 0, 0), (14, .iand, 15, 0, 0, 0), (15, .ifCond .eq 12, 18, 27, 0, 0), (18, .iload_n 2, 19, 0, 0, 0), (19, .ifCond .ne 5, 22, 24, 0, 0), (22, .iload_n 3, 23, 0, 0, 0), (23, .ireturn, 24, 0, 0, 0), (24, .iinc 2 (-1), 27, 4294967295, 0, 0), (27, .iinc 3 1, 30, 1, 0, 0), (30, .goto (-26), 33, 4, 0, 0), (33, .iconst 0, 34, 0, 0, 0), (34, .ireturn, 35, 0, 0, 0)])
def zX3_movesAt : yE := (yX3_movesAt, cX3_movesAt, 5, (some .int), [(0, .iconst 0, 1, 0, 0, 0), (1, .istore_n 3, 2, 0, 0, 0), (2, .iconst 0, 3, 0, 0, 0), (3, .istore 4, 5, 0, 0, 0), (5, .iload 4, 7, 0, 0, 0), (7, .bipush 8, 9, 8, 0, 0), (9, .if_icmp .ge 28, 12, 37, 0, 0), (12, .aload_n 1, 13, 0, 0, 0), (13, .iload 4, 15, 0, 0, 0), (15, .bipush 8, 17, 8, 0, 0), (17, .imul, 18, 0, 0, 0), (18, .iload_n 2, 19, 0, 0, 0), (19, .iadd, 20, 0, 0, 0), (20, .iaload, 21, 0, 0, 0), (21, .ifCond .le 10, 24, 31, 0, 0), (24, .iload_n 3, 25, 0, 0, 0), (25, .iconst 1, 26, 1, 0, 0), (26, .iload 4, 28, 0, 0, 0), (28, .ishl, 29, 0, 0, 0), (29, .ior, 30, 0, 0, 0), (30, .istore_n 3, 31, 0, 0, 0), (31, .iinc 4 1, 34, 1, 0, 0), (34, .goto (-29), 37, 5, 0, 0), (37, .iload_n 3, 38, 0, 0, 0), (38, .ireturn, 39, 0, 0, 0)])
def zX3_placesOf : yE := (yX3_placesOf, cX3_placesOf, 5, (some .int), [(0, .iconst 0, 1, 0, 0, 0), (1, .istore_n 3, 2, 0, 0, 0), (2, .iconst 0, 3, 0, 0, 0), (3, .istore 4, 5, 0, 0, 0), (5, .iload 4, 7, 0, 0, 0), (7, .bipush 8, 9, 8, 0, 0), (9, .if_icmp .ge 28, 12, 37, 0, 0), (12, .aload_n 1, 13, 0, 0, 0), (13, .iload_n 2, 14, 0, 0, 0), (14, .bipush 8, 16, 8, 0, 0), (16, .imul, 17, 0, 0, 0), (17, .iload 4, 19, 0, 0, 0), (19, .iadd, 20, 0, 0, 0), (20, .iaload, 21, 0, 0, 0), (21, .ifCond .le 10, 24, 31, 0, 0), (24, .iload_n 3, 25, 0, 0, 0), (25, .iconst 1, 26, 1, 0, 0), (26, .iload 4, 28, 0, 0, 0), (28, .ishl, 29, 0, 0, 0), (29, .ior, 30, 0, 0, 0), (30, .istore_n 3, 31, 0, 0, 0), (31, .iinc 4 1, 34, 1, 0, 0), (34, .goto (-29), 37, 5, 0, 0), (37, .iload_n 3, 38, 0, 0, 0), (38, .ireturn, 39, 0, 0, 0)])
def zX3_possibleMoves : yE := (yX3_possibleMoves, cX3_possibleMoves, 3, (some .int), [(0, .iconst 0, 1, 0, 0, 0), (1, .istore_n 1, 2, 0, 0, 0), (2, .iconst 0, 3, 0, 0, 0), (3, .istore_n 2, 4, 0, 0, 0), (4, .iload_n 2, 5, 0, 0, 0), (5, .aload_n 0, 6, 0, 0, 0), (6, .getfield 31, 9, 2, 1, 0), (9, .if_icmp .ge 23, 12, 32, 0, 0), (12, .aload_n 0, 13, 0, 0, 0), (13, .iload_n 2, 14, 0, 0, 0), (14, .invokevirtual 47, 17, 33, 1, 2), (17, .ifCond .eq 9, 20, 26, 0, 0), (20, .iload_n 1, 21, 0, 0, 0), (21, .iconst 1, 22, 1, 0, 0), (22, .iload_n 2, 23, 0, 0, 0), (23, .ishl, 24, 0, 0, 0), (24, .ior, 25, 0, 0, 0), (25, .istore_n 1, 26, 0, 0, 0), (26, .iinc 2 1, 29, 1, 0, 0), (29, .goto (-25), 32, 4, 0, 0), (32, .iload_n 1, 33, 0, 0, 0), (33, .ireturn, 34, 0, 0, 0)])
def zX3_sameArcs : yE := (yX3_sameArcs, cX3_sameArcs, 3, (some .boolean), [(0, .aload_n 0, 1, 0, 0, 0), (1, .getfield 27, 4, 2, 0, 0), (4, .aload_n 1, 5, 0, 0, 0), (5, .getfield 27, 8, 2, 0, 0), (8, .if_icmp .ne 14, 11, 22, 0, 0), (11, .aload_n 0, 12, 0, 0, 0), (12, .getfield 31, 15, 2, 1, 0), (15, .aload_n 1, 16, 0, 0, 0), (16, .getfield 31, 19, 2, 1, 0), (19, .if_icmp .eq 5, 22, 24, 0, 0), (22, .iconst 0, 23, 0, 0, 0), (23, .ireturn, 24, 0, 0, 0), (24, .iconst 0, 25, 0, 0, 0), (25, .istore_n 2, 26, 0, 0, 0), (26, .iload_n 2, 27, 0, 0, 0), (27, .bipush 64, 29, 64, 0, 0), (29, .if_icmp .ge 41, 32, 70, 0, 0), (32, .aload_n 0, 33, 0, 0, 0), (33, .getfield 21, 36, 2, 5, 0), (36, .iload_n 2, 37, 0, 0, 0), (37, .iaload, 38, 0, 0, 0), (38, .aload_n 1, 39, 0, 0, 0), (39, .getfield 21, 42, 2, 5, 0), (42, .iload_n 2, 43, 0, 0, 0), (43, .iaload, 44, 0, 0, 0), (44, .if_icmp .ne 18, 47, 62, 0, 0), (47, .aload_n 0, 48, 0, 0, 0), (48, .getfield 24, 51, 2, 6, 0), (51, .iload_n 2, 52, 0, 0, 0), (52, .iaload, 53, 0, 0, 0), (53, .aload_n 1, 54, 0, 0, 0), (54, .getfield 24, 57, 2, 6, 0), (57, .iload_n 2, 58, 0, 0, 0), (58, .iaload, 59, 0, 0, 0), (59, .if_icmp .eq 5, 62, 64, 0, 0), (62, .iconst 0, 63, 0, 0, 0), (63, .ireturn, 64, 0, 0, 0), (64, .iinc 2 1, 67, 1, 0, 0), (67, .goto (-41), 70, 26, 0, 0), (70, .iconst 1, 71, 1, 0, 0), (71, .ireturn, 72, 0, 0, 0)])
def zX3_sameMarking : yE := (yX3_sameMarking, cX3_sameMarking, 3, (some .boolean), [(0, .iconst 0, 1, 0, 0, 0), (1, .istore_n 2, 2, 0, 0, 0), (2, .iload_n 2, 3, 0, 0, 0), (3, .bipush 8, 5, 8, 0, 0), (5, .if_icmp .ge 26, 8, 31, 0, 0), (8, .aload_n 0, 9, 0, 0, 0), (9, .getfield 9, 12, 2, 2, 0), (12, .iload_n 2, 13, 0, 0, 0), (13, .iaload, 14, 0, 0, 0), (14, .aload_n 1, 15, 0, 0, 0), (15, .getfield 9, 18, 2, 2, 0), (18, .iload_n 2, 19, 0, 0, 0), (19, .iaload, 20, 0, 0, 0), (20, .if_icmp .eq 5, 23, 25, 0, 0), (23, .iconst 0, 24, 0, 0, 0), (24, .ireturn, 25, 0, 0, 0), (25, .iinc 2 1, 28, 1, 0, 0), (28, .goto (-26), 31, 2, 0, 0), (31, .iconst 1, 32, 1, 0, 0), (32, .ireturn, 33, 0, 0, 0)])
def zX3_setArc : yE := (yX3_setArc, cX3_setArc, 7, (some .int), [(0, .aload_n 0, 1, 0, 0, 0), (1, .iload_n 1, 2, 0, 0, 0), (2, .invokevirtual 40, 5, 37, 1, 2), (5, .ifCond .eq 11, 8, 16, 0, 0), (8, .aload_n 0, 9, 0, 0, 0), (9, .iload_n 2, 10, 0, 0, 0), (10, .invokevirtual 44, 13, 38, 1, 2), (13, .ifCond .ne 5, 16, 18, 0, 0), (16, .iconst (-1), 17, 4294967295, 0, 0), (17, .ireturn, 18, 0, 0, 0), (18, .iload_n 3, 19, 0, 0, 0), (19, .ifCond .lt 21, 22, 40, 0, 0), (22, .iload_n 3, 23, 0, 0, 0), (23, .bipush 9, 25, 9, 0, 0), (25, .if_icmp .gt 15, 28, 40, 0, 0), (28, .iload 4, 30, 0, 0, 0), (30, .ifCond .lt 10, 33, 40, 0, 0), (33, .iload 4, 35, 0, 0, 0), (35, .bipush 9, 37, 9, 0, 0), (37, .if_icmp .le 6, 40, 43, 0, 0), (40, .bipush (-2), 42, 4294967294, 0, 0), (42, .ireturn, 43, 0, 0, 0), (43, .iload_n 1, 44, 0, 0, 0), (44, .bipush 8, 46, 8, 0, 0), (46, .imul, 47, 0, 0, 0), (47, .iload_n 2, 48, 0, 0, 0), (48, .iadd, 49, 0, 0, 0), (49, .istore 5, 51, 0, 0, 0), (51, .bipush 10, 53, 10, 0, 0), (53, .aload_n 0, 54, 0, 0, 0), (54, .getfield 21, 57, 2, 5, 0), (57, .iload 5, 59, 0, 0, 0), (59, .iaload, 60, 0, 0, 0), (60, .imul, 61, 0, 0, 0), (61, .aload_n 0, 62, 0, 0, 0), (62, .getfield 24, 65, 2, 6, 0), (65, .iload 5, 67, 0, 0, 0), (67, .iaload, 68, 0, 0, 0), (68, .iadd, 69, 0, 0, 0), (69, .istore 6, 71, 0, 0, 0), (71, .aload_n 0, 72, 0, 0, 0), (72, .getfield 21, 75, 2, 5, 0), (75, .iload 5, 77, 0, 0, 0), (77, .iload_n 3, 78, 0, 0, 0), (78, .iastore, 79, 0, 0, 0), (79, .aload_n 0, 80, 0, 0, 0), (80, .getfield 24, 83, 2, 6, 0), (83, .iload 5, 85, 0, 0, 0), (85, .iload 4, 87, 0, 0, 0), (87, .iastore, 88, 0, 0, 0), (88, .iload 6, 90, 0, 0, 0), (90, .ireturn, 91, 0, 0, 0)])
def zX3_setTokens : yE := (yX3_setTokens, cX3_setTokens, 4, (some .int), [(0, .aload_n 0, 1, 0, 0, 0), (1, .iload_n 1, 2, 0, 0, 0), (2, .invokevirtual 44, 5, 38, 1, 2), (5, .ifCond .ne 5, 8, 10, 0, 0), (8, .iconst (-1), 9, 4294967295, 0, 0), (9, .ireturn, 10, 0, 0, 0), (10, .iload_n 2, 11, 0, 0, 0), (11, .ifCond .lt 10, 14, 21, 0, 0), (14, .iload_n 2, 15, 0, 0, 0), (15, .sipush 999, 18, 999, 0, 0), (18, .if_icmp .le 6, 21, 24, 0, 0), (21, .bipush (-2), 23, 4294967294, 0, 0), (23, .ireturn, 24, 0, 0, 0), (24, .aload_n 0, 25, 0, 0, 0), (25, .getfield 9, 28, 2, 2, 0), (28, .iload_n 1, 29, 0, 0, 0), (29, .iaload, 30, 0, 0, 0), (30, .istore_n 3, 31, 0, 0, 0), (31, .aload_n 0, 32, 0, 0, 0), (32, .getfield 9, 35, 2, 2, 0), (35, .iload_n 1, 36, 0, 0, 0), (36, .iload_n 2, 37, 0, 0, 0), (37, .iastore, 38, 0, 0, 0), (38, .aload_n 0, 39, 0, 0, 0), (39, .getfield 15, 42, 2, 3, 0), (42, .iload_n 1, 43, 0, 0, 0), (43, .iload_n 2, 44, 0, 0, 0), (44, .iastore, 45, 0, 0, 0), (45, .iload_n 3, 46, 0, 0, 0), (46, .ireturn, 47, 0, 0, 0)])
def zX3_step : yE := (yX3_step, cX3_step, 8, none, [(0, .iconst 0, 1, 0, 0, 0), (1, .istore 5, 3, 0, 0, 0), (3, .iload 5, 5, 0, 0, 0), (5, .bipush 8, 7, 8, 0, 0), (7, .if_icmp .ge 61, 10, 68, 0, 0), (10, .aload_n 1, 11, 0, 0, 0), (11, .iload_n 2, 12, 0, 0, 0), (12, .iload 5, 14, 0, 0, 0), (14, .iadd, 15, 0, 0, 0), (15, .iaload, 16, 0, 0, 0), (16, .istore 6, 18, 0, 0, 0), (18, .iload_n 3, 19, 0, 0, 0), (19, .bipush 8, 21, 8, 0, 0), (21, .imul, 22, 0, 0, 0), (22, .iload 5, 24, 0, 0, 0), (24, .iadd, 25, 0, 0, 0), (25, .istore 7, 27, 0, 0, 0), (27, .aload 4, 29, 0, 0, 0), (29, .iload 5, 31, 0, 0, 0), (31, .iload 6, 33, 0, 0, 0), (33, .ldc 90, 35, 1073741824, 0, 0), (35, .if_icmp .ne 8, 38, 43, 0, 0), (38, .ldc 90, 40, 1073741824, 0, 0), (40, .goto 21, 43, 61, 0, 0), (43, .iload 6, 45, 0, 0, 0), (45, .aload_n 0, 46, 0, 0, 0), (46, .getfield 21, 49, 2, 5, 0), (49, .iload 7, 51, 0, 0, 0), (51, .iaload, 52, 0, 0, 0), (52, .isub, 53, 0, 0, 0), (53, .aload_n 0, 54, 0, 0, 0), (54, .getfield 24, 57, 2, 6, 0), (57, .iload 7, 59, 0, 0, 0), (59, .iaload, 60, 0, 0, 0), (60, .iadd, 61, 0, 0, 0), (61, .iastore, 62, 0, 0, 0), (62, .iinc 5 1, 65, 1, 0, 0), (65, .goto (-62), 68, 3, 0, 0), (68, .return_, 69, 0, 0, 0)])
def zX3_surplus : yE := (yX3_surplus, cX3_surplus, 4, (some .int), [(0, .iconst 0, 1, 0, 0, 0), (1, .istore_n 2, 2, 0, 0, 0), (2, .iconst 0, 3, 0, 0, 0), (3, .istore_n 3, 4, 0, 0, 0), (4, .iload_n 3, 5, 0, 0, 0), (5, .bipush 8, 7, 8, 0, 0), (7, .if_icmp .ge 35, 10, 42, 0, 0), (10, .iload_n 2, 11, 0, 0, 0), (11, .aload_n 0, 12, 0, 0, 0), (12, .getfield 24, 15, 2, 6, 0), (15, .iload_n 1, 16, 0, 0, 0), (16, .bipush 8, 18, 8, 0, 0), (18, .imul, 19, 0, 0, 0), (19, .iload_n 3, 20, 0, 0, 0), (20, .iadd, 21, 0, 0, 0), (21, .iaload, 22, 0, 0, 0), (22, .aload_n 0, 23, 0, 0, 0), (23, .getfield 21, 26, 2, 5, 0), (26, .iload_n 1, 27, 0, 0, 0), (27, .bipush 8, 29, 8, 0, 0), (29, .imul, 30, 0, 0, 0), (30, .iload_n 3, 31, 0, 0, 0), (31, .iadd, 32, 0, 0, 0), (32, .iaload, 33, 0, 0, 0), (33, .isub, 34, 0, 0, 0), (34, .iadd, 35, 0, 0, 0), (35, .istore_n 2, 36, 0, 0, 0), (36, .iinc 3 1, 39, 1, 0, 0), (39, .goto (-35), 42, 4, 0, 0), (42, .iload_n 2, 43, 0, 0, 0), (43, .ireturn, 44, 0, 0, 0)])
def zX3_tokensIn : yE := (yX3_tokensIn, cX3_tokensIn, 4, (some .int), [(0, .iconst 0, 1, 0, 0, 0), (1, .istore_n 2, 2, 0, 0, 0), (2, .iconst 0, 3, 0, 0, 0), (3, .istore_n 3, 4, 0, 0, 0), (4, .iload_n 3, 5, 0, 0, 0), (5, .bipush 8, 7, 8, 0, 0), (7, .if_icmp .ge 26, 10, 33, 0, 0), (10, .iload_n 1, 11, 0, 0, 0), (11, .iload_n 3, 12, 0, 0, 0), (12, .ishr, 13, 0, 0, 0), (13, .iconst 1, 14, 1, 0, 0), (14, .iand, 15, 0, 0, 0), (15, .ifCond .eq 12, 18, 27, 0, 0), (18, .iload_n 2, 19, 0, 0, 0), (19, .aload_n 0, 20, 0, 0, 0), (20, .getfield 9, 23, 2, 2, 0), (23, .iload_n 3, 24, 0, 0, 0), (24, .iaload, 25, 0, 0, 0), (25, .iadd, 26, 0, 0, 0), (26, .istore_n 2, 27, 0, 0, 0), (27, .iinc 3 1, 30, 1, 0, 0), (30, .goto (-26), 33, 4, 0, 0), (33, .iload_n 2, 34, 0, 0, 0), (34, .ireturn, 35, 0, 0, 0)])
def zX4_init : yE := (yX4_init, cX4_init, 1, none, [(0, .aload_n 0, 1, 0, 0, 0), (1, .invokespecial 3, 4, 0, 0, 99), (4, .aload_n 0, 5, 0, 0, 0), (5, .bipush 80, 7, 80, 0, 0), (7, .newarray .char, 9, 2, 0, 0), (9, .putfield 11, 12, 3, 0, 2), (12, .return_, 13, 0, 0, 0)])
def zX5_init : yE := (yX5_init, cX5_init, 1, none, [(0, .aload_n 0, 1, 0, 0, 0), (1, .invokespecial 3, 4, 0, 0, 99), (4, .aload_n 0, 5, 0, 0, 0), (5, .new 9, 8, 1, 7, 13), (8, .dup, 9, 0, 0, 0), (9, .invokespecial 11, 12, 20, 0, 1), (12, .putfield 12, 15, 4, 0, 2), (15, .aload_n 0, 16, 0, 0, 0), (16, .sipush 300, 19, 300, 0, 0), (19, .newarray .int, 21, 0, 0, 0), (21, .putfield 18, 24, 4, 1, 2), (24, .aload_n 0, 25, 0, 0, 0), (25, .sipush 1024, 28, 1024, 0, 0), (28, .newarray .int, 30, 0, 0, 0), (30, .putfield 22, 33, 4, 2, 2), (33, .return_, 34, 0, 0, 0)])
def zX5_fewestMoves : yE := (yX5_fewestMoves, cX5_fewestMoves, 4, (some .int), [(0, .iconst 0, 1, 0, 0, 0), (1, .istore_n 3, 2, 0, 0, 0), (2, .iload_n 3, 3, 0, 0, 0), (3, .aload_n 0, 4, 0, 0, 0), (4, .getfield 12, 7, 4, 0, 0), (7, .getfield 43, 10, 1, 4, 0), (10, .if_icmp .ge 34, 13, 44, 0, 0), (13, .aload_n 0, 14, 0, 0, 0), (14, .getfield 12, 17, 4, 0, 0), (17, .getfield 82, 20, 1, 2, 0), (20, .iload_n 3, 21, 0, 0, 0), (21, .bipush 8, 23, 8, 0, 0), (23, .imul, 24, 0, 0, 0), (24, .iload_n 1, 25, 0, 0, 0), (25, .iadd, 26, 0, 0, 0), (26, .iaload, 27, 0, 0, 0), (27, .iload_n 2, 28, 0, 0, 0), (28, .if_icmp .lt 10, 31, 38, 0, 0), (31, .aload_n 0, 32, 0, 0, 0), (32, .getfield 18, 35, 4, 1, 0), (35, .iload_n 3, 36, 0, 0, 0), (36, .iaload, 37, 0, 0, 0), (37, .ireturn, 38, 0, 0, 0), (38, .iinc 3 1, 41, 1, 0, 0), (41, .goto (-39), 44, 2, 0, 0), (44, .bipush (-6), 46, 4294967290, 0, 0), (46, .ireturn, 47, 0, 0, 0)])
def zX5_find : yE := (yX5_find, cX5_find, 3, none, [(0, .aload_n 0, 1, 0, 0, 0), (1, .getfield 12, 4, 4, 0, 0), (4, .aload_n 1, 5, 0, 0, 0), (5, .invokevirtual 25, 8, 22, 1, 1), (8, .ifCond .ne 4, 11, 12, 0, 0), (11, .return_, 12, 0, 0, 0), (12, .aload_n 0, 13, 0, 0, 0), (13, .iconst 0, 14, 0, 0, 0), (14, .putfield 29, 17, 4, 3, 0), (17, .aload_n 0, 18, 0, 0, 0), (18, .getfield 22, 21, 4, 2, 0), (21, .iconst 0, 22, 0, 0, 0), (22, .invokestatic 33, 25, 92, 2, 0), (25, .aload_n 0, 26, 0, 0, 0), (26, .iconst 0, 27, 0, 0, 0), (27, .invokevirtual 39, 30, 58, 1, 4), (30, .iconst 0, 31, 0, 0, 0), (31, .istore_n 2, 32, 0, 0, 0), (32, .iload_n 2, 33, 0, 0, 0), (33, .sipush 300, 36, 300, 0, 0), (36, .if_icmp .ge 35, 39, 71, 0, 0), (39, .iload_n 2, 40, 0, 0, 0), (40, .aload_n 0, 41, 0, 0, 0), (41, .getfield 12, 44, 4, 0, 0), (44, .getfield 43, 47, 1, 4, 0), (47, .if_icmp .ge 24, 50, 71, 0, 0), (50, .aload_n 0, 51, 0, 0, 0), (51, .getfield 12, 54, 4, 0, 0), (54, .getfield 46, 57, 1, 5, 0), (57, .ifCond .ne 14, 60, 71, 0, 0), (60, .aload_n 0, 61, 0, 0, 0), (61, .iload_n 2, 62, 0, 0, 0), (62, .invokevirtual 50, 65, 56, 1, 4), (65, .iinc 2 1, 68, 1, 0, 0), (68, .goto (-36), 71, 32, 0, 0), (71, .return_, 72, 0, 0, 0)])
def zX5_follow : yE := (yX5_follow, cX5_follow, 4, none, [(0, .iconst 1, 1, 1, 0, 0), (1, .istore_n 2, 2, 0, 0, 0), (2, .iconst 0, 3, 0, 0, 0), (3, .istore_n 3, 4, 0, 0, 0), (4, .iload_n 3, 5, 0, 0, 0), (5, .aload_n 0, 6, 0, 0, 0), (6, .getfield 12, 9, 4, 0, 0), (9, .getfield 53, 12, 1, 0, 0), (12, .getfield 57, 15, 2, 1, 0), (15, .if_icmp .ge 37, 18, 52, 0, 0), (18, .aload_n 0, 19, 0, 0, 0), (19, .getfield 12, 22, 4, 0, 0), (22, .iload_n 1, 23, 0, 0, 0), (23, .iload_n 3, 24, 0, 0, 0), (24, .ldc 61, 26, 99999, 0, 0), (26, .invokevirtual 62, 29, 25, 3, 1), (29, .ifCond .eq 17, 32, 46, 0, 0), (32, .iconst 0, 33, 0, 0, 0), (33, .istore_n 2, 34, 0, 0, 0), (34, .aload_n 0, 35, 0, 0, 0), (35, .aload_n 0, 36, 0, 0, 0), (36, .getfield 18, 39, 4, 1, 0), (39, .iload_n 1, 40, 0, 0, 0), (40, .iaload, 41, 0, 0, 0), (41, .iconst 1, 42, 1, 0, 0), (42, .iadd, 43, 0, 0, 0), (43, .invokevirtual 39, 46, 58, 1, 4), (46, .iinc 3 1, 49, 1, 0, 0), (49, .goto (-45), 52, 4, 0, 0), (52, .iload_n 2, 53, 0, 0, 0), (53, .ifCond .eq 13, 56, 66, 0, 0), (56, .aload_n 0, 57, 0, 0, 0), (57, .dup, 58, 0, 0, 0), (58, .getfield 29, 61, 4, 3, 0), (61, .iconst 1, 62, 1, 0, 0), (62, .iadd, 63, 0, 0, 0), (63, .putfield 29, 66, 4, 3, 0), (66, .return_, 67, 0, 0, 0)])
def zX5_hash : yE := (yX5_hash, cX5_hash, 3, (some .int), [(0, .iconst 0, 1, 0, 0, 0), (1, .istore_n 1, 2, 0, 0, 0), (2, .iconst 0, 3, 0, 0, 0), (3, .istore_n 2, 4, 0, 0, 0), (4, .iload_n 2, 5, 0, 0, 0), (5, .bipush 8, 7, 8, 0, 0), (7, .if_icmp .ge 18, 10, 25, 0, 0), (10, .iload_n 1, 11, 0, 0, 0), (11, .bipush 31, 13, 31, 0, 0), (13, .imul, 14, 0, 0, 0), (14, .aload_n 0, 15, 0, 0, 0), (15, .iload_n 2, 16, 0, 0, 0), (16, .iaload, 17, 0, 0, 0), (17, .iadd, 18, 0, 0, 0), (18, .istore_n 1, 19, 0, 0, 0), (19, .iinc 2 1, 22, 1, 0, 0), (22, .goto (-18), 25, 4, 0, 0), (25, .iload_n 1, 26, 0, 0, 0), (26, .ldc 81, 28, 2654435769, 0, 0), (28, .imul, 29, 0, 0, 0), (29, .bipush 22, 31, 22, 0, 0), (31, .iushr, 32, 0, 0, 0), (32, .sipush 1023, 35, 1023, 0, 0), (35, .iand, 36, 0, 0, 0), (36, .ireturn, 37, 0, 0, 0)])
def zX5_meet : yE := (yX5_meet, cX5_meet, 4, none, [(0, .aload_n 0, 1, 0, 0, 0), (1, .getfield 12, 4, 4, 0, 0), (4, .getfield 66, 7, 1, 3, 0), (7, .invokestatic 69, 10, 57, 1, 0), (10, .istore_n 2, 11, 0, 0, 0), (11, .iconst 0, 12, 0, 0, 0), (12, .istore_n 3, 13, 0, 0, 0), (13, .iload_n 3, 14, 0, 0, 0), (14, .sipush 1024, 17, 1024, 0, 0), (17, .if_icmp .ge 45, 20, 62, 0, 0), (20, .aload_n 0, 21, 0, 0, 0), (21, .getfield 22, 24, 4, 2, 0), (24, .iload_n 2, 25, 0, 0, 0), (25, .iaload, 26, 0, 0, 0), (26, .ifCond .eq 36, 29, 62, 0, 0), (29, .aload_n 0, 30, 0, 0, 0), (30, .getfield 12, 33, 4, 0, 0), (33, .aload_n 0, 34, 0, 0, 0), (34, .getfield 22, 37, 4, 2, 0), (37, .iload_n 2, 38, 0, 0, 0), (38, .iaload, 39, 0, 0, 0), (39, .iconst 1, 40, 1, 0, 0), (40, .isub, 41, 0, 0, 0), (41, .invokevirtual 73, 44, 24, 1, 1), (44, .ifCond .eq 4, 47, 48, 0, 0), (47, .return_, 48, 0, 0, 0), (48, .iload_n 2, 49, 0, 0, 0), (49, .iconst 1, 50, 1, 0, 0), (50, .iadd, 51, 0, 0, 0), (51, .sipush 1023, 54, 1023, 0, 0), (54, .iand, 55, 0, 0, 0), (55, .istore_n 2, 56, 0, 0, 0), (56, .iinc 3 1, 59, 1, 0, 0), (59, .goto (-46), 62, 13, 0, 0), (62, .aload_n 0, 63, 0, 0, 0), (63, .getfield 12, 66, 4, 0, 0), (66, .invokevirtual 77, 69, 26, 0, 1), (69, .ifCond .eq 31, 72, 100, 0, 0), (72, .aload_n 0, 73, 0, 0, 0), (73, .getfield 18, 76, 4, 1, 0), (76, .aload_n 0, 77, 0, 0, 0), (77, .getfield 12, 80, 4, 0, 0), (80, .getfield 43, 83, 1, 4, 0), (83, .iconst 1, 84, 1, 0, 0), (84, .isub, 85, 0, 0, 0), (85, .iload_n 1, 86, 0, 0, 0), (86, .iastore, 87, 0, 0, 0), (87, .aload_n 0, 88, 0, 0, 0), (88, .getfield 22, 91, 4, 2, 0), (91, .iload_n 2, 92, 0, 0, 0), (92, .aload_n 0, 93, 0, 0, 0), (93, .getfield 12, 96, 4, 0, 0), (96, .getfield 43, 99, 1, 4, 0), (99, .iastore, 100, 0, 0, 0), (100, .return_, 101, 0, 0, 0)])
def zX6_init : yE := (yX6_init, cX6_init, 1, none, [(0, .aload_n 0, 1, 0, 0, 0), (1, .invokespecial 3, 4, 0, 0, 99), (4, .aload_n 0, 5, 0, 0, 0), (5, .new 9, 8, 2, 7, 124), (8, .dup, 9, 0, 0, 0), (9, .invokespecial 11, 12, 27, 0, 2), (12, .putfield 12, 15, 5, 0, 2), (15, .aload_n 0, 16, 0, 0, 0), (16, .bipush 64, 18, 64, 0, 0), (18, .newarray .int, 20, 0, 0, 0), (20, .putfield 18, 23, 5, 2, 2), (23, .aload_n 0, 24, 0, 0, 0), (24, .bipush 8, 26, 8, 0, 0), (26, .newarray .int, 28, 0, 0, 0), (28, .putfield 22, 31, 5, 3, 2), (31, .aload_n 0, 32, 0, 0, 0), (32, .bipush 8, 34, 8, 0, 0), (34, .newarray .int, 36, 0, 0, 0), (36, .putfield 25, 39, 5, 4, 2), (39, .aload_n 0, 40, 0, 0, 0), (40, .sipush 256, 43, 256, 0, 0), (43, .newarray .boolean, 45, 1, 0, 0), (45, .putfield 28, 48, 5, 5, 2), (48, .aload_n 0, 49, 0, 0, 0), (49, .bipush 64, 51, 64, 0, 0), (51, .newarray .int, 53, 0, 0, 0), (53, .putfield 32, 56, 5, 6, 2), (56, .return_, 57, 0, 0, 0)])
def zX6_allDividedBy : yE := (yX6_allDividedBy, cX6_allDividedBy, 3, (some .boolean), [(0, .iconst 0, 1, 0, 0, 0), (1, .istore_n 2, 2, 0, 0, 0), (2, .iload_n 2, 3, 0, 0, 0), (3, .bipush 8, 5, 8, 0, 0), (5, .if_icmp .ge 22, 8, 27, 0, 0), (8, .aload_n 0, 9, 0, 0, 0), (9, .getfield 25, 12, 5, 4, 0), (12, .iload_n 2, 13, 0, 0, 0), (13, .iaload, 14, 0, 0, 0), (14, .iload_n 1, 15, 0, 0, 0), (15, .irem, 16, 0, 0, 0), (16, .ifCond .eq 5, 19, 21, 0, 0), (19, .iconst 0, 20, 0, 0, 0), (20, .ireturn, 21, 0, 0, 0), (21, .iinc 2 1, 24, 1, 0, 0), (24, .goto (-22), 27, 2, 0, 0), (27, .iconst 1, 28, 1, 0, 0), (28, .ireturn, 29, 0, 0, 0)])
def zX6_balance : yE := (yX6_balance, cX6_balance, 5, none, [(0, .iload_n 2, 1, 0, 0, 0), (1, .aload_n 0, 2, 0, 0, 0), (2, .getfield 25, 5, 5, 4, 0), (5, .iload_n 1, 6, 0, 0, 0), (6, .iaload, 7, 0, 0, 0), (7, .isub, 8, 0, 0, 0), (8, .istore_n 3, 9, 0, 0, 0), (9, .aload_n 0, 10, 0, 0, 0), (10, .getfield 25, 13, 5, 4, 0), (13, .iload_n 1, 14, 0, 0, 0), (14, .iload_n 2, 15, 0, 0, 0), (15, .iastore, 16, 0, 0, 0), (16, .iconst 0, 17, 0, 0, 0), (17, .istore 4, 19, 0, 0, 0), (19, .iload 4, 21, 0, 0, 0), (21, .bipush 8, 23, 8, 0, 0), (23, .if_icmp .ge 33, 26, 56, 0, 0), (26, .aload_n 0, 27, 0, 0, 0), (27, .getfield 22, 30, 5, 3, 0), (30, .iload 4, 32, 0, 0, 0), (32, .dup2, 33, 0, 0, 0), (33, .iaload, 34, 0, 0, 0), (34, .iload_n 3, 35, 0, 0, 0), (35, .aload_n 0, 36, 0, 0, 0), (36, .getfield 18, 39, 5, 2, 0), (39, .iload 4, 41, 0, 0, 0), (41, .bipush 8, 43, 8, 0, 0), (43, .imul, 44, 0, 0, 0), (44, .iload_n 1, 45, 0, 0, 0), (45, .iadd, 46, 0, 0, 0), (46, .iaload, 47, 0, 0, 0), (47, .imul, 48, 0, 0, 0), (48, .iadd, 49, 0, 0, 0), (49, .iastore, 50, 0, 0, 0), (50, .iinc 4 1, 53, 1, 0, 0), (53, .goto (-34), 56, 19, 0, 0), (56, .return_, 57, 0, 0, 0)])
def zX6_canBalance : yE := (yX6_canBalance, cX6_canBalance, 8, (some .boolean), [(0, .iconst 0, 1, 0, 0, 0), (1, .istore_n 3, 2, 0, 0, 0), (2, .iload_n 3, 3, 0, 0, 0), (3, .bipush 8, 5, 8, 0, 0), (5, .if_icmp .ge 110, 8, 115, 0, 0), (8, .aload_n 0, 9, 0, 0, 0), (9, .getfield 22, 12, 5, 3, 0), (12, .iload_n 3, 13, 0, 0, 0), (13, .iaload, 14, 0, 0, 0), (14, .istore 4, 16, 0, 0, 0), (16, .iload 4, 18, 0, 0, 0), (18, .istore 5, 20, 0, 0, 0), (20, .iload_n 2, 21, 0, 0, 0), (21, .istore 6, 23, 0, 0, 0), (23, .iload 6, 25, 0, 0, 0), (25, .bipush 8, 27, 8, 0, 0), (27, .if_icmp .ge 70, 30, 97, 0, 0), (30, .iload_n 1, 31, 0, 0, 0), (31, .iload 6, 33, 0, 0, 0), (33, .ishr, 34, 0, 0, 0), (34, .iconst 1, 35, 1, 0, 0), (35, .iand, 36, 0, 0, 0), (36, .ifCond .eq 55, 39, 91, 0, 0), (39, .aload_n 0, 40, 0, 0, 0), (40, .getfield 18, 43, 5, 2, 0), (43, .iload_n 3, 44, 0, 0, 0), (44, .bipush 8, 46, 8, 0, 0), (46, .imul, 47, 0, 0, 0), (47, .iload 6, 49, 0, 0, 0), (49, .iadd, 50, 0, 0, 0), (50, .iaload, 51, 0, 0, 0), (51, .istore 7, 53, 0, 0, 0), (53, .iload 4, 55, 0, 0, 0), (55, .iload 7, 57, 0, 0, 0), (57, .ifCond .ge 10, 60, 67, 0, 0), (60, .iconst 3, 61, 3, 0, 0), (61, .iload 7, 63, 0, 0, 0), (63, .imul, 64, 0, 0, 0), (64, .goto 5, 67, 69, 0, 0), (67, .iload 7, 69, 0, 0, 0), (69, .iadd, 70, 0, 0, 0), (70, .istore 4, 72, 0, 0, 0), (72, .iload 5, 74, 0, 0, 0), (74, .iload 7, 76, 0, 0, 0), (76, .ifCond .ge 8, 79, 84, 0, 0), (79, .iload 7, 81, 0, 0, 0), (81, .goto 7, 84, 88, 0, 0), (84, .iconst 3, 85, 3, 0, 0), (85, .iload 7, 87, 0, 0, 0), (87, .imul, 88, 0, 0, 0), (88, .iadd, 89, 0, 0, 0), (89, .istore 5, 91, 0, 0, 0), (91, .iinc 6 1, 94, 1, 0, 0), (94, .goto (-71), 97, 23, 0, 0), (97, .iload 4, 99, 0, 0, 0), (99, .ifCond .gt 8, 102, 107, 0, 0), (102, .iload 5, 104, 0, 0, 0), (104, .ifCond .ge 5, 107, 109, 0, 0), (107, .iconst 0, 108, 0, 0, 0), (108, .ireturn, 109, 0, 0, 0), (109, .iinc 3 1, 112, 1, 0, 0), (112, .goto (-110), 115, 2, 0, 0), (115, .iconst 1, 116, 1, 0, 0), (116, .ireturn, 117, 0, 0, 0)])
def zX6_find : yE := (yX6_find, cX6_find, 3, none, [(0, .aload_n 0, 1, 0, 0, 0), (1, .getfield 39, 4, 5, 1, 0), (4, .ifCond .eq 15, 7, 19, 0, 0), (7, .aload_n 0, 8, 0, 0, 0), (8, .getfield 12, 11, 5, 0, 0), (11, .aload_n 1, 12, 0, 0, 0), (12, .invokevirtual 43, 15, 45, 1, 2), (15, .ifCond .eq 4, 18, 19, 0, 0), (18, .return_, 19, 0, 0, 0), (19, .aload_n 0, 20, 0, 0, 0), (20, .getfield 12, 23, 5, 0, 0), (23, .aload_n 1, 24, 0, 0, 0), (24, .invokevirtual 47, 27, 35, 1, 2), (27, .aload_n 0, 28, 0, 0, 0), (28, .iconst 1, 29, 1, 0, 0), (29, .putfield 39, 32, 5, 1, 1), (32, .aload_n 0, 33, 0, 0, 0), (33, .iconst 0, 34, 0, 0, 0), (34, .putfield 51, 37, 5, 7, 0), (37, .iconst 0, 38, 0, 0, 0), (38, .istore_n 2, 39, 0, 0, 0), (39, .iload_n 2, 40, 0, 0, 0), (40, .bipush 64, 42, 64, 0, 0), (42, .if_icmp .ge 28, 45, 70, 0, 0), (45, .aload_n 0, 46, 0, 0, 0), (46, .getfield 18, 49, 5, 2, 0), (49, .iload_n 2, 50, 0, 0, 0), (50, .aload_n 1, 51, 0, 0, 0), (51, .getfield 55, 54, 2, 6, 0), (54, .iload_n 2, 55, 0, 0, 0), (55, .iaload, 56, 0, 0, 0), (56, .aload_n 1, 57, 0, 0, 0), (57, .getfield 58, 60, 2, 5, 0), (60, .iload_n 2, 61, 0, 0, 0), (61, .iaload, 62, 0, 0, 0), (62, .isub, 63, 0, 0, 0), (63, .iastore, 64, 0, 0, 0), (64, .iinc 2 1, 67, 1, 0, 0), (67, .goto (-28), 70, 39, 0, 0), (70, .iconst 1, 71, 1, 0, 0), (71, .istore_n 2, 72, 0, 0, 0), (72, .iload_n 2, 73, 0, 0, 0), (73, .iconst 1, 74, 1, 0, 0), (74, .aload_n 1, 75, 0, 0, 0), (75, .getfield 61, 78, 2, 0, 0), (78, .ishl, 79, 0, 0, 0), (79, .if_icmp .ge 35, 82, 114, 0, 0), (82, .aload_n 0, 83, 0, 0, 0), (83, .getfield 28, 86, 5, 5, 0), (86, .iload_n 2, 87, 0, 0, 0), (87, .aload_n 0, 88, 0, 0, 0), (88, .iload_n 2, 89, 0, 0, 0), (89, .invokevirtual 64, 92, 64, 1, 5), (92, .bastore, 93, 0, 0, 0), (93, .aload_n 0, 94, 0, 0, 0), (94, .getfield 28, 97, 5, 5, 0), (97, .iload_n 2, 98, 0, 0, 0), (98, .baload, 99, 0, 0, 0), (99, .ifCond .ne 9, 102, 108, 0, 0), (102, .aload_n 0, 103, 0, 0, 0), (103, .iload_n 2, 104, 0, 0, 0), (104, .iconst 0, 105, 0, 0, 0), (105, .invokestatic 68, 108, 66, 3, 0), (108, .iinc 2 1, 111, 1, 0, 0), (111, .goto (-39), 114, 72, 0, 0), (114, .return_, 115, 0, 0, 0)])
def zX6_hasCoveredPart : yE := (yX6_hasCoveredPart, cX6_hasCoveredPart, 3, (some .boolean), [(0, .iconst 0, 1, 0, 0, 0), (1, .istore_n 2, 2, 0, 0, 0), (2, .iload_n 2, 3, 0, 0, 0), (3, .bipush 8, 5, 8, 0, 0), (5, .if_icmp .ge 32, 8, 37, 0, 0), (8, .iload_n 1, 9, 0, 0, 0), (9, .iload_n 2, 10, 0, 0, 0), (10, .ishr, 11, 0, 0, 0), (11, .iconst 1, 12, 1, 0, 0), (12, .iand, 13, 0, 0, 0), (13, .ifCond .eq 18, 16, 31, 0, 0), (16, .aload_n 0, 17, 0, 0, 0), (17, .getfield 28, 20, 5, 5, 0), (20, .iload_n 1, 21, 0, 0, 0), (21, .iconst 1, 22, 1, 0, 0), (22, .iload_n 2, 23, 0, 0, 0), (23, .ishl, 24, 0, 0, 0), (24, .ixor, 25, 0, 0, 0), (25, .baload, 26, 0, 0, 0), (26, .ifCond .eq 5, 29, 31, 0, 0), (29, .iconst 1, 30, 1, 0, 0), (30, .ireturn, 31, 0, 0, 0), (31, .iinc 2 1, 34, 1, 0, 0), (34, .goto (-32), 37, 2, 0, 0), (37, .iconst 0, 38, 0, 0, 0), (38, .ireturn, 39, 0, 0, 0)])
def zX6_keep : yE := (yX6_keep, cX6_keep, 3, none, [(0, .aload_n 0, 1, 0, 0, 0), (1, .iconst 2, 2, 2, 0, 0), (2, .invokevirtual 83, 5, 60, 1, 5), (5, .ifCond .ne 11, 8, 16, 0, 0), (8, .aload_n 0, 9, 0, 0, 0), (9, .iconst 3, 10, 3, 0, 0), (10, .invokevirtual 83, 13, 60, 1, 5), (13, .ifCond .eq 4, 16, 17, 0, 0), (16, .return_, 17, 0, 0, 0), (17, .aload_n 0, 18, 0, 0, 0), (18, .getfield 51, 21, 5, 7, 0), (21, .aload_n 0, 22, 0, 0, 0), (22, .getfield 32, 25, 5, 6, 0), (25, .arraylength, 26, 0, 0, 0), (26, .if_icmp .lt 21, 29, 47, 0, 0), (29, .aload_n 0, 30, 0, 0, 0), (30, .aload_n 0, 31, 0, 0, 0), (31, .getfield 32, 34, 5, 6, 0), (34, .iconst 2, 35, 2, 0, 0), (35, .aload_n 0, 36, 0, 0, 0), (36, .getfield 32, 39, 5, 6, 0), (39, .arraylength, 40, 0, 0, 0), (40, .imul, 41, 0, 0, 0), (44, .putfield 32, 47, 5, 6, 2), (47, .iconst 0, 48, 0, 0, 0), (48, .istore_n 1, 49, 0, 0, 0), (49, .iconst 0, 50, 0, 0, 0), (50, .istore_n 2, 51, 0, 0, 0), (51, .iload_n 2, 52, 0, 0, 0), (52, .bipush 8, 54, 8, 0, 0), (54, .if_icmp .ge 20, 57, 74, 0, 0), (57, .iload_n 1, 58, 0, 0, 0), (58, .iconst 2, 59, 2, 0, 0), (59, .ishl, 60, 0, 0, 0), (60, .aload_n 0, 61, 0, 0, 0), (61, .getfield 25, 64, 5, 4, 0), (64, .iload_n 2, 65, 0, 0, 0), (65, .iaload, 66, 0, 0, 0), (66, .ior, 67, 0, 0, 0), (67, .istore_n 1, 68, 0, 0, 0), (68, .iinc 2 1, 71, 1, 0, 0), (71, .goto (-20), 74, 51, 0, 0), (74, .aload_n 0, 75, 0, 0, 0), (75, .getfield 51, 78, 5, 7, 0), (78, .istore_n 2, 79, 0, 0, 0), (79, .iload_n 2, 80, 0, 0, 0), (80, .ifCond .le 35, 83, 115, 0, 0), (83, .aload_n 0, 84, 0, 0, 0), (84, .getfield 32, 87, 5, 6, 0), (87, .iload_n 2, 88, 0, 0, 0), (88, .iconst 1, 89, 1, 0, 0), (89, .isub, 90, 0, 0, 0), (90, .iaload, 91, 0, 0, 0), (91, .iload_n 1, 92, 0, 0, 0), (92, .if_icmp .le 23, 95, 115, 0, 0), (95, .aload_n 0, 96, 0, 0, 0), (96, .getfield 32, 99, 5, 6, 0), (99, .iload_n 2, 100, 0, 0, 0), (100, .aload_n 0, 101, 0, 0, 0), (101, .getfield 32, 104, 5, 6, 0), (104, .iload_n 2, 105, 0, 0, 0), (105, .iconst 1, 106, 1, 0, 0), (106, .isub, 107, 0, 0, 0), (107, .iaload, 108, 0, 0, 0), (108, .iastore, 109, 0, 0, 0), (109, .iinc 2 (-1), 112, 4294967295, 0, 0), (112, .goto (-33), 115, 79, 0, 0), (115, .aload_n 0, 116, 0, 0, 0), (116, .getfield 32, 119, 5, 6, 0), (119, .iload_n 2, 120, 0, 0, 0), (120, .iload_n 1, 121, 0, 0, 0), (121, .iastore, 122, 0, 0, 0), (122, .aload_n 0, 123, 0, 0, 0), (123, .dup, 124, 0, 0, 0), (124, .getfield 51, 127, 5, 7, 0), (127, .iconst 1, 128, 1, 0, 0), (128, .iadd, 129, 0, 0, 0), (129, .putfield 51, 132, 5, 7, 0), (132, .return_, 133, 0, 0, 0)])
def zX6_weigh : yE := (yX6_weigh, cX6_weigh, 4, none, [(0, .aload_n 0, 1, 0, 0, 0), (1, .iload_n 1, 2, 0, 0, 0), (2, .iload_n 2, 3, 0, 0, 0), (3, .invokevirtual 72, 6, 62, 2, 5), (6, .ifCond .ne 4, 9, 10, 0, 0), (9, .return_, 10, 0, 0, 0), (10, .iload_n 2, 11, 0, 0, 0), (11, .bipush 8, 13, 8, 0, 0), (13, .if_icmp .lt 15, 16, 28, 0, 0), (16, .aload_n 0, 17, 0, 0, 0), (17, .getfield 28, 20, 5, 5, 0), (20, .iload_n 1, 21, 0, 0, 0), (21, .iconst 1, 22, 1, 0, 0), (22, .bastore, 23, 0, 0, 0), (23, .aload_n 0, 24, 0, 0, 0), (24, .invokevirtual 76, 27, 65, 0, 5), (27, .return_, 28, 0, 0, 0), (28, .iload_n 1, 29, 0, 0, 0), (29, .iload_n 2, 30, 0, 0, 0), (30, .ishr, 31, 0, 0, 0), (31, .iconst 1, 32, 1, 0, 0), (32, .iand, 33, 0, 0, 0), (33, .ifCond .ne 12, 36, 45, 0, 0), (36, .aload_n 0, 37, 0, 0, 0), (37, .iload_n 1, 38, 0, 0, 0), (38, .iload_n 2, 39, 0, 0, 0), (39, .iconst 1, 40, 1, 0, 0), (40, .iadd, 41, 0, 0, 0), (41, .invokestatic 68, 44, 66, 3, 0), (44, .return_, 45, 0, 0, 0), (45, .iconst 1, 46, 1, 0, 0), (46, .istore_n 3, 47, 0, 0, 0), (47, .iload_n 3, 48, 0, 0, 0), (48, .iconst 3, 49, 3, 0, 0), (49, .if_icmp .gt 23, 52, 72, 0, 0), (52, .aload_n 0, 53, 0, 0, 0), (53, .iload_n 2, 54, 0, 0, 0), (54, .iload_n 3, 55, 0, 0, 0), (55, .invokevirtual 79, 58, 61, 2, 5), (58, .aload_n 0, 59, 0, 0, 0), (59, .iload_n 1, 60, 0, 0, 0), (60, .iload_n 2, 61, 0, 0, 0), (61, .iconst 1, 62, 1, 0, 0), (62, .iadd, 63, 0, 0, 0), (63, .invokestatic 68, 66, 66, 3, 0), (66, .iinc 3 1, 69, 1, 0, 0), (69, .goto (-22), 72, 47, 0, 0), (72, .aload_n 0, 73, 0, 0, 0), (73, .iload_n 2, 74, 0, 0, 0), (74, .iconst 0, 75, 0, 0, 0), (75, .invokevirtual 79, 78, 61, 2, 5), (78, .return_, 79, 0, 0, 0)])
def zX6_weight : yE := (yX6_weight, cX6_weight, 3, (some .int), [(0, .aload_n 0, 1, 0, 0, 0), (1, .getfield 32, 4, 5, 6, 0), (4, .iload_n 1, 5, 0, 0, 0), (5, .iaload, 6, 0, 0, 0), (6, .iconst 2, 7, 2, 0, 0), (7, .bipush 7, 9, 7, 0, 0), (9, .iload_n 2, 10, 0, 0, 0), (10, .isub, 11, 0, 0, 0), (11, .imul, 12, 0, 0, 0), (12, .ishr, 13, 0, 0, 0), (13, .iconst 3, 14, 3, 0, 0), (14, .iand, 15, 0, 0, 0), (15, .ireturn, 16, 0, 0, 0)])
def zX6_worth : yE := (yX6_worth, cX6_worth, 5, (some .int), [(0, .iconst 0, 1, 0, 0, 0), (1, .istore_n 3, 2, 0, 0, 0), (2, .iconst 0, 3, 0, 0, 0), (3, .istore 4, 5, 0, 0, 0), (5, .iload 4, 7, 0, 0, 0), (7, .bipush 8, 9, 8, 0, 0), (9, .if_icmp .ge 24, 12, 33, 0, 0), (12, .iload_n 3, 13, 0, 0, 0), (13, .aload_n 0, 14, 0, 0, 0), (14, .iload_n 1, 15, 0, 0, 0), (15, .iload 4, 17, 0, 0, 0), (17, .invokevirtual 35, 20, 67, 2, 5), (20, .aload_n 2, 21, 0, 0, 0), (21, .iload 4, 23, 0, 0, 0), (23, .iaload, 24, 0, 0, 0), (24, .imul, 25, 0, 0, 0), (25, .iadd, 26, 0, 0, 0), (26, .istore_n 3, 27, 0, 0, 0), (27, .iinc 4 1, 30, 1, 0, 0), (30, .goto (-25), 33, 5, 0, 0), (33, .iload_n 3, 34, 0, 0, 0), (34, .ireturn, 35, 0, 0, 0)])
def zX7_init : yE := (yX7_init, cX7_init, 1, none, [(0, .aload_n 0, 1, 0, 0, 0), (1, .invokespecial 3, 4, 0, 0, 99), (4, .aload_n 0, 5, 0, 0, 0), (5, .new 9, 8, 1, 7, 13), (8, .dup, 9, 0, 0, 0), (9, .invokespecial 11, 12, 20, 0, 1), (12, .putfield 12, 15, 6, 0, 2), (15, .aload_n 0, 16, 0, 0, 0), (16, .sipush 300, 19, 300, 0, 0), (19, .newarray .int, 21, 0, 0, 0), (21, .putfield 18, 24, 6, 1, 2), (24, .aload_n 0, 25, 0, 0, 0), (25, .sipush 300, 28, 300, 0, 0), (28, .newarray .int, 30, 0, 0, 0), (30, .putfield 22, 33, 6, 2, 2), (33, .aload_n 0, 34, 0, 0, 0), (34, .sipush 300, 37, 300, 0, 0), (37, .newarray .int, 39, 0, 0, 0), (39, .putfield 25, 42, 6, 3, 2), (42, .return_, 43, 0, 0, 0)])
def zX7_add : yE := (yX7_add, cX7_add, 3, none, [(0, .aload_n 0, 1, 0, 0, 0), (1, .getfield 12, 4, 6, 0, 0), (4, .invokevirtual 51, 7, 26, 0, 1), (7, .ifCond .eq 45, 10, 52, 0, 0), (10, .aload_n 0, 11, 0, 0, 0), (11, .getfield 18, 14, 6, 1, 0), (14, .aload_n 0, 15, 0, 0, 0), (15, .getfield 12, 18, 6, 0, 0), (18, .getfield 40, 21, 1, 4, 0), (21, .iconst 1, 22, 1, 0, 0), (22, .isub, 23, 0, 0, 0), (23, .iload_n 1, 24, 0, 0, 0), (24, .iastore, 25, 0, 0, 0), (25, .aload_n 0, 26, 0, 0, 0), (26, .getfield 22, 29, 6, 2, 0), (29, .aload_n 0, 30, 0, 0, 0), (30, .getfield 12, 33, 6, 0, 0), (33, .getfield 40, 36, 1, 4, 0), (36, .iconst 1, 37, 1, 0, 0), (37, .isub, 38, 0, 0, 0), (38, .iload_n 2, 39, 0, 0, 0), (39, .iastore, 40, 0, 0, 0), (40, .aload_n 0, 41, 0, 0, 0), (41, .aload_n 0, 42, 0, 0, 0), (42, .getfield 32, 45, 6, 4, 0), (45, .iload_n 2, 46, 0, 0, 0), (46, .invokestatic 55, 49, 0, 0, 96), (49, .putfield 32, 52, 6, 4, 0), (52, .return_, 53, 0, 0, 0)])
def zX7_endlessPlaces : yE := (yX7_endlessPlaces, cX7_endlessPlaces, 3, (some .int), [(0, .iconst 0, 1, 0, 0, 0), (1, .istore_n 1, 2, 0, 0, 0), (2, .iconst 0, 3, 0, 0, 0), (3, .istore_n 2, 4, 0, 0, 0), (4, .iload_n 2, 5, 0, 0, 0), (5, .bipush 8, 7, 8, 0, 0), (7, .if_icmp .ge 25, 10, 32, 0, 0), (10, .aload_n 0, 11, 0, 0, 0), (11, .iload_n 2, 12, 0, 0, 0), (12, .invokevirtual 90, 15, 74, 1, 6), (15, .ldc 89, 17, 1073741824, 0, 0), (17, .if_icmp .ne 9, 20, 26, 0, 0), (20, .iload_n 1, 21, 0, 0, 0), (21, .iconst 1, 22, 1, 0, 0), (22, .iload_n 2, 23, 0, 0, 0), (23, .ishl, 24, 0, 0, 0), (24, .ior, 25, 0, 0, 0), (25, .istore_n 1, 26, 0, 0, 0), (26, .iinc 2 1, 29, 1, 0, 0), (29, .goto (-25), 32, 4, 0, 0), (32, .iload_n 1, 33, 0, 0, 0), (33, .ireturn, 34, 0, 0, 0)])
def zX7_find : yE := (yX7_find, cX7_find, 3, none, [(0, .aload_n 0, 1, 0, 0, 0), (1, .getfield 12, 4, 6, 0, 0), (4, .aload_n 1, 5, 0, 0, 0), (5, .invokevirtual 28, 8, 22, 1, 1), (8, .ifCond .ne 4, 11, 12, 0, 0), (11, .return_, 12, 0, 0, 0), (12, .aload_n 0, 13, 0, 0, 0), (13, .iconst 0, 14, 0, 0, 0), (14, .putfield 32, 17, 6, 4, 0), (17, .aload_n 0, 18, 0, 0, 0), (18, .iconst 0, 19, 0, 0, 0), (19, .iconst 0, 20, 0, 0, 0), (20, .invokevirtual 36, 23, 70, 2, 6), (23, .iconst 0, 24, 0, 0, 0), (24, .istore_n 2, 25, 0, 0, 0), (25, .iload_n 2, 26, 0, 0, 0), (26, .sipush 300, 29, 300, 0, 0), (29, .if_icmp .ge 35, 32, 64, 0, 0), (32, .iload_n 2, 33, 0, 0, 0), (33, .aload_n 0, 34, 0, 0, 0), (34, .getfield 12, 37, 6, 0, 0), (37, .getfield 40, 40, 1, 4, 0), (40, .if_icmp .ge 24, 43, 64, 0, 0), (43, .aload_n 0, 44, 0, 0, 0), (44, .getfield 12, 47, 6, 0, 0), (47, .getfield 43, 50, 1, 5, 0), (50, .ifCond .ne 14, 53, 64, 0, 0), (53, .aload_n 0, 54, 0, 0, 0), (54, .iload_n 2, 55, 0, 0, 0), (55, .invokevirtual 47, 58, 73, 1, 6), (58, .iinc 2 1, 61, 1, 0, 0), (61, .goto (-36), 64, 25, 0, 0), (64, .return_, 65, 0, 0, 0)])
def zX7_follow : yE := (yX7_follow, cX7_follow, 6, none, [(0, .aload_n 0, 1, 0, 0, 0), (1, .getfield 22, 4, 6, 2, 0), (4, .iload_n 1, 5, 0, 0, 0), (5, .iaload, 6, 0, 0, 0), (6, .istore_n 2, 7, 0, 0, 0), (7, .iload_n 1, 8, 0, 0, 0), (8, .istore_n 3, 9, 0, 0, 0), (9, .iload_n 2, 10, 0, 0, 0), (10, .istore 4, 12, 0, 0, 0), (12, .iload 4, 14, 0, 0, 0), (14, .ifCond .lt 24, 17, 38, 0, 0), (17, .aload_n 0, 18, 0, 0, 0), (18, .getfield 25, 21, 6, 3, 0), (21, .iload 4, 23, 0, 0, 0), (23, .iload_n 3, 24, 0, 0, 0), (24, .iastore, 25, 0, 0, 0), (25, .aload_n 0, 26, 0, 0, 0), (26, .getfield 18, 29, 6, 1, 0), (29, .iload_n 3, 30, 0, 0, 0), (30, .iaload, 31, 0, 0, 0), (31, .istore_n 3, 32, 0, 0, 0), (32, .iinc 4 (-1), 35, 4294967295, 0, 0), (35, .goto (-23), 38, 12, 0, 0), (38, .iconst 0, 39, 0, 0, 0), (39, .istore 4, 41, 0, 0, 0), (41, .iload 4, 43, 0, 0, 0), (43, .iload_n 2, 44, 0, 0, 0), (44, .if_icmp .ge 28, 47, 72, 0, 0), (47, .aload_n 0, 48, 0, 0, 0), (48, .getfield 12, 51, 6, 0, 0), (51, .aload_n 0, 52, 0, 0, 0), (52, .getfield 25, 55, 6, 3, 0), (55, .iload 4, 57, 0, 0, 0), (57, .iaload, 58, 0, 0, 0), (58, .iload_n 1, 59, 0, 0, 0), (59, .invokevirtual 61, 62, 21, 2, 1), (62, .ifCond .eq 4, 65, 66, 0, 0), (65, .return_, 66, 0, 0, 0), (66, .iinc 4 1, 69, 1, 0, 0), (69, .goto (-28), 72, 41, 0, 0), (72, .iconst 0, 73, 0, 0, 0), (73, .istore 4, 75, 0, 0, 0), (75, .iload 4, 77, 0, 0, 0), (77, .aload_n 0, 78, 0, 0, 0), (78, .getfield 12, 81, 6, 0, 0), (81, .getfield 65, 84, 1, 0, 0), (84, .getfield 69, 87, 2, 1, 0), (87, .if_icmp .ge 75, 90, 162, 0, 0), (90, .aload_n 0, 91, 0, 0, 0), (91, .getfield 12, 94, 6, 0, 0), (94, .getfield 43, 97, 1, 5, 0), (97, .ifCond .ne 65, 100, 162, 0, 0), (100, .aload_n 0, 101, 0, 0, 0), (101, .getfield 12, 104, 6, 0, 0), (104, .iload_n 1, 105, 0, 0, 0), (105, .iload 4, 107, 0, 0, 0), (107, .ldc 74, 109, 1073741833, 0, 0), (109, .invokevirtual 75, 112, 25, 3, 1), (112, .ifCond .eq 44, 115, 156, 0, 0), (115, .iconst 0, 116, 0, 0, 0), (116, .istore 5, 118, 0, 0, 0), (118, .iload 5, 120, 0, 0, 0), (120, .iload_n 2, 121, 0, 0, 0), (121, .if_icmp .gt 27, 124, 148, 0, 0), (124, .aload_n 0, 125, 0, 0, 0), (125, .aload_n 0, 126, 0, 0, 0), (126, .getfield 25, 129, 6, 3, 0), (129, .iload 5, 131, 0, 0, 0), (131, .iaload, 132, 0, 0, 0), (132, .aload_n 0, 133, 0, 0, 0), (133, .getfield 12, 136, 6, 0, 0), (136, .getfield 79, 139, 1, 3, 0), (139, .invokevirtual 82, 142, 75, 2, 6), (142, .iinc 5 1, 145, 1, 0, 0), (145, .goto (-27), 148, 118, 0, 0), (148, .aload_n 0, 149, 0, 0, 0), (149, .iload_n 1, 150, 0, 0, 0), (150, .iload_n 2, 151, 0, 0, 0), (151, .iconst 1, 152, 1, 0, 0), (152, .iadd, 153, 0, 0, 0), (153, .invokevirtual 36, 156, 70, 2, 6), (156, .iinc 4 1, 159, 1, 0, 0), (159, .goto (-84), 162, 75, 0, 0), (162, .return_, 163, 0, 0, 0)])
def zX7_mostTokens : yE := (yX7_mostTokens, cX7_mostTokens, 4, (some .int), [(0, .iconst 0, 1, 0, 0, 0), (1, .istore_n 2, 2, 0, 0, 0), (2, .iconst 0, 3, 0, 0, 0), (3, .istore_n 3, 4, 0, 0, 0), (4, .iload_n 3, 5, 0, 0, 0), (5, .aload_n 0, 6, 0, 0, 0), (6, .getfield 12, 9, 6, 0, 0), (9, .getfield 40, 12, 1, 4, 0), (12, .if_icmp .ge 28, 15, 40, 0, 0), (15, .iload_n 2, 16, 0, 0, 0), (16, .aload_n 0, 17, 0, 0, 0), (17, .getfield 12, 20, 6, 0, 0), (20, .getfield 86, 23, 1, 2, 0), (23, .iload_n 3, 24, 0, 0, 0), (24, .bipush 8, 26, 8, 0, 0), (26, .imul, 27, 0, 0, 0), (27, .iload_n 1, 28, 0, 0, 0), (28, .iadd, 29, 0, 0, 0), (29, .iaload, 30, 0, 0, 0), (30, .invokestatic 55, 33, 0, 0, 96), (33, .istore_n 2, 34, 0, 0, 0), (34, .iinc 3 1, 37, 1, 0, 0), (37, .goto (-33), 40, 4, 0, 0), (40, .iload_n 2, 41, 0, 0, 0), (41, .ireturn, 42, 0, 0, 0)])
def zX7_outgrow : yE := (yX7_outgrow, cX7_outgrow, 4, none, [(0, .iconst 0, 1, 0, 0, 0), (1, .istore_n 3, 2, 0, 0, 0), (2, .iload_n 3, 3, 0, 0, 0), (3, .bipush 8, 5, 8, 0, 0), (5, .if_icmp .ge 30, 8, 35, 0, 0), (8, .aload_n 0, 9, 0, 0, 0), (9, .getfield 12, 12, 6, 0, 0), (12, .getfield 86, 15, 1, 2, 0), (15, .iload_n 1, 16, 0, 0, 0), (16, .bipush 8, 18, 8, 0, 0), (18, .imul, 19, 0, 0, 0), (19, .iload_n 3, 20, 0, 0, 0), (20, .iadd, 21, 0, 0, 0), (21, .iaload, 22, 0, 0, 0), (22, .aload_n 2, 23, 0, 0, 0), (23, .iload_n 3, 24, 0, 0, 0), (24, .iaload, 25, 0, 0, 0), (25, .if_icmp .le 4, 28, 29, 0, 0), (28, .return_, 29, 0, 0, 0), (29, .iinc 3 1, 32, 1, 0, 0), (32, .goto (-30), 35, 2, 0, 0), (35, .iconst 0, 36, 0, 0, 0), (36, .istore_n 3, 37, 0, 0, 0), (37, .iload_n 3, 38, 0, 0, 0), (38, .bipush 8, 40, 8, 0, 0), (40, .if_icmp .ge 34, 43, 74, 0, 0), (43, .aload_n 0, 44, 0, 0, 0), (44, .getfield 12, 47, 6, 0, 0), (47, .getfield 86, 50, 1, 2, 0), (50, .iload_n 1, 51, 0, 0, 0), (51, .bipush 8, 53, 8, 0, 0), (53, .imul, 54, 0, 0, 0), (54, .iload_n 3, 55, 0, 0, 0), (55, .iadd, 56, 0, 0, 0), (56, .iaload, 57, 0, 0, 0), (57, .aload_n 2, 58, 0, 0, 0), (58, .iload_n 3, 59, 0, 0, 0), (59, .iaload, 60, 0, 0, 0), (60, .if_icmp .ge 8, 63, 68, 0, 0), (63, .aload_n 2, 64, 0, 0, 0), (64, .iload_n 3, 65, 0, 0, 0), (65, .ldc 89, 67, 1073741824, 0, 0), (67, .iastore, 68, 0, 0, 0), (68, .iinc 3 1, 71, 1, 0, 0), (71, .goto (-34), 74, 37, 0, 0), (74, .return_, 75, 0, 0, 0)])
def zL_at : yE := (yL_at, cL_at, 3, (some .int), [(0, .lload_n 0, 1, 0, 0, 0), (1, .bipush 15, 3, 15, 0, 0), (3, .iload_n 2, 4, 0, 0, 0), (4, .imul, 5, 0, 0, 0), (5, .lushr, 6, 0, 0, 0), (6, .ldc2_w 10, 9, 32767, 0, 0), (9, .land, 10, 0, 0, 0), (10, .l2i, 11, 0, 0, 0), (11, .ireturn, 12, 0, 0, 0)])
def zL_behind : yE := (yL_behind, cL_behind, 8, (some .long), [(0, .lload_n 0, 1, 0, 0, 0), (1, .lstore 5, 3, 0, 0, 0), (3, .iconst 0, 4, 0, 0, 0), (4, .istore 7, 6, 0, 0, 0), (6, .iload 7, 8, 0, 0, 0), (8, .aload_n 3, 9, 0, 0, 0), (9, .iconst 0, 10, 0, 0, 0), (10, .iaload, 11, 0, 0, 0), (11, .if_icmp .ge 62, 14, 73, 0, 0), (14, .lload_n 0, 15, 0, 0, 0), (15, .iload 7, 17, 0, 0, 0), (17, .invokestatic 14, 20, 76, 2, 0), (20, .sipush 32767, 23, 32767, 0, 0), (23, .if_icmp .ge 44, 26, 67, 0, 0), (26, .lload 5, 28, 0, 0, 0), (28, .iload 7, 30, 0, 0, 0), (30, .lload_n 0, 31, 0, 0, 0), (31, .iload 7, 33, 0, 0, 0), (33, .invokestatic 14, 36, 76, 2, 0), (36, .aload 4, 38, 0, 0, 0), (38, .iconst 4, 39, 4, 0, 0), (39, .iload_n 2, 40, 0, 0, 0), (40, .imul, 41, 0, 0, 0), (41, .iload 7, 43, 0, 0, 0), (43, .iadd, 44, 0, 0, 0), (44, .iaload, 45, 0, 0, 0), (45, .bipush 16, 47, 16, 0, 0), (47, .idiv, 48, 0, 0, 0), (48, .isub, 49, 0, 0, 0), (49, .aload 4, 51, 0, 0, 0), (51, .iconst 4, 52, 4, 0, 0), (52, .iload_n 2, 53, 0, 0, 0), (53, .imul, 54, 0, 0, 0), (54, .iload 7, 56, 0, 0, 0), (56, .iadd, 57, 0, 0, 0), (57, .iaload, 58, 0, 0, 0), (58, .bipush 16, 60, 16, 0, 0), (60, .irem, 61, 0, 0, 0), (61, .iadd, 62, 0, 0, 0), (62, .invokestatic 20, 65, 89, 3, 0), (65, .lstore 5, 67, 0, 0, 0), (67, .iinc 7 1, 70, 1, 0, 0), (70, .goto (-64), 73, 6, 0, 0), (73, .lload 5, 75, 0, 0, 0), (75, .lreturn, 76, 0, 0, 0)])
def zL_bits : yE := (yL_bits, cL_bits, 3, (some .int), [(0, .iconst 0, 1, 0, 0, 0), (1, .istore_n 1, 2, 0, 0, 0), (2, .iload_n 0, 3, 0, 0, 0), (3, .istore_n 2, 4, 0, 0, 0), (4, .iload_n 2, 5, 0, 0, 0), (5, .ifCond .eq 15, 8, 20, 0, 0), (8, .iinc 1 1, 11, 1, 0, 0), (11, .iload_n 2, 12, 0, 0, 0), (12, .iload_n 2, 13, 0, 0, 0), (13, .iconst 1, 14, 1, 0, 0), (14, .isub, 15, 0, 0, 0), (15, .iand, 16, 0, 0, 0), (16, .istore_n 2, 17, 0, 0, 0), (17, .goto (-13), 20, 4, 0, 0), (20, .iload_n 1, 21, 0, 0, 0), (21, .ireturn, 22, 0, 0, 0)])
def zL_can : yE := (yL_can, cL_can, 7, (some .boolean), [(0, .iconst 1, 1, 1, 0, 0), (1, .istore 5, 3, 0, 0, 0), (3, .iconst 0, 4, 0, 0, 0), (4, .istore 6, 6, 0, 0, 0), (6, .iload 6, 8, 0, 0, 0), (8, .aload_n 3, 9, 0, 0, 0), (9, .iconst 0, 10, 0, 0, 0), (10, .iaload, 11, 0, 0, 0), (11, .if_icmp .ge 42, 14, 53, 0, 0), (14, .iload 5, 16, 0, 0, 0), (16, .ifCond .eq 28, 19, 44, 0, 0), (19, .lload_n 0, 20, 0, 0, 0), (20, .iload 6, 22, 0, 0, 0), (22, .invokestatic 14, 25, 76, 2, 0), (25, .aload 4, 27, 0, 0, 0), (27, .iconst 4, 28, 4, 0, 0), (28, .iload_n 2, 29, 0, 0, 0), (29, .imul, 30, 0, 0, 0), (30, .iload 6, 32, 0, 0, 0), (32, .iadd, 33, 0, 0, 0), (33, .iaload, 34, 0, 0, 0), (34, .bipush 16, 36, 16, 0, 0), (36, .idiv, 37, 0, 0, 0), (37, .if_icmp .lt 7, 40, 44, 0, 0), (40, .iconst 1, 41, 1, 0, 0), (41, .goto 4, 44, 45, 0, 0), (44, .iconst 0, 45, 0, 0, 0), (45, .istore 5, 47, 0, 0, 0), (47, .iinc 6 1, 50, 1, 0, 0), (50, .goto (-44), 53, 6, 0, 0), (53, .iload 5, 55, 0, 0, 0), (55, .ireturn, 56, 0, 0, 0)])
def zL_cell : yE := (yL_cell, cL_cell, 2, (some .int), [(0, .iload_n 1, 1, 0, 0, 0), (1, .aload_n 0, 2, 0, 0, 0), (2, .arraylength, 3, 0, 0, 0), (3, .if_icmp .ge 9, 6, 12, 0, 0), (6, .aload_n 0, 7, 0, 0, 0), (7, .iload_n 1, 8, 0, 0, 0), (8, .iaload, 9, 0, 0, 0), (9, .goto 12, 12, 21, 0, 0), (12, .ldc 7, 14, 1016015469, 0, 0), (14, .iload_n 1, 15, 0, 0, 0), (15, .iconst 1, 16, 1, 0, 0), (16, .iadd, 17, 0, 0, 0), (17, .imul, 18, 0, 0, 0), (18, .ldc 8, 20, 727620679, 0, 0), (20, .iadd, 21, 0, 0, 0), (21, .ireturn, 22, 0, 0, 0)])
def zL_keeps : yE := (yL_keeps, cL_keeps, 6, (some .boolean), [(0, .iconst 0, 1, 0, 0, 0), (1, .istore_n 3, 2, 0, 0, 0), (2, .iload_n 3, 3, 0, 0, 0), (3, .aload_n 1, 4, 0, 0, 0), (4, .iconst 1, 5, 1, 0, 0), (5, .iaload, 6, 0, 0, 0), (6, .if_icmp .ge 73, 9, 79, 0, 0), (9, .iconst 0, 10, 0, 0, 0), (10, .istore 4, 12, 0, 0, 0), (12, .iconst 0, 13, 0, 0, 0), (13, .istore 5, 15, 0, 0, 0), (15, .iload 5, 17, 0, 0, 0), (17, .aload_n 1, 18, 0, 0, 0), (18, .iconst 0, 19, 0, 0, 0), (19, .iaload, 20, 0, 0, 0), (20, .if_icmp .ge 46, 23, 66, 0, 0), (23, .iload 4, 25, 0, 0, 0), (25, .iload_n 0, 26, 0, 0, 0), (26, .iconst 2, 27, 2, 0, 0), (27, .iload 5, 29, 0, 0, 0), (29, .imul, 30, 0, 0, 0), (30, .ishr, 31, 0, 0, 0), (31, .iconst 3, 32, 3, 0, 0), (32, .iand, 33, 0, 0, 0), (33, .aload_n 2, 34, 0, 0, 0), (34, .iconst 4, 35, 4, 0, 0), (35, .iload_n 3, 36, 0, 0, 0), (36, .imul, 37, 0, 0, 0), (37, .iload 5, 39, 0, 0, 0), (39, .iadd, 40, 0, 0, 0), (40, .iaload, 41, 0, 0, 0), (41, .bipush 16, 43, 16, 0, 0), (43, .irem, 44, 0, 0, 0), (44, .aload_n 2, 45, 0, 0, 0), (45, .iconst 4, 46, 4, 0, 0), (46, .iload_n 3, 47, 0, 0, 0), (47, .imul, 48, 0, 0, 0), (48, .iload 5, 50, 0, 0, 0), (50, .iadd, 51, 0, 0, 0), (51, .iaload, 52, 0, 0, 0), (52, .bipush 16, 54, 16, 0, 0), (54, .idiv, 55, 0, 0, 0), (55, .isub, 56, 0, 0, 0), (56, .imul, 57, 0, 0, 0), (57, .iadd, 58, 0, 0, 0), (58, .istore 4, 60, 0, 0, 0), (60, .iinc 5 1, 63, 1, 0, 0), (63, .goto (-48), 66, 15, 0, 0), (66, .iload 4, 68, 0, 0, 0), (68, .ifCond .eq 5, 71, 73, 0, 0), (71, .iconst 0, 72, 0, 0, 0), (72, .ireturn, 73, 0, 0, 0), (73, .iinc 3 1, 76, 1, 0, 0), (76, .goto (-74), 79, 2, 0, 0), (79, .iload_n 0, 80, 0, 0, 0), (80, .ifCond .le 7, 83, 87, 0, 0), (83, .iconst 1, 84, 1, 0, 0), (84, .goto 4, 87, 88, 0, 0), (87, .iconst 0, 88, 0, 0, 0), (88, .ireturn, 89, 0, 0, 0)])
def zL_kept : yE := (yL_kept, cL_kept, 14, (some .boolean), [(0, .iconst 0, 1, 0, 0, 0), (1, .istore 5, 3, 0, 0, 0), (3, .iconst 1, 4, 1, 0, 0), (4, .istore 6, 6, 0, 0, 0), (6, .iload 6, 8, 0, 0, 0), (8, .iconst 1, 9, 1, 0, 0), (9, .iconst 2, 10, 2, 0, 0), (10, .aload_n 3, 11, 0, 0, 0), (11, .iconst 0, 12, 0, 0, 0), (12, .iaload, 13, 0, 0, 0), (13, .imul, 14, 0, 0, 0), (14, .ishl, 15, 0, 0, 0), (15, .if_icmp .ge 325, 18, 340, 0, 0), (18, .iconst 0, 19, 0, 0, 0), (19, .istore 7, 21, 0, 0, 0), (21, .iconst 0, 22, 0, 0, 0), (22, .istore 8, 24, 0, 0, 0), (24, .iload 8, 26, 0, 0, 0), (26, .aload_n 3, 27, 0, 0, 0), (27, .iconst 0, 28, 0, 0, 0), (28, .iaload, 29, 0, 0, 0), (29, .if_icmp .ge 34, 32, 63, 0, 0), (32, .iload 7, 34, 0, 0, 0), (34, .iload 6, 36, 0, 0, 0), (36, .iconst 2, 37, 2, 0, 0), (37, .aload_n 3, 38, 0, 0, 0), (38, .iconst 0, 39, 0, 0, 0), (39, .iaload, 40, 0, 0, 0), (40, .iconst 1, 41, 1, 0, 0), (41, .isub, 42, 0, 0, 0), (42, .iload 8, 44, 0, 0, 0), (44, .isub, 45, 0, 0, 0), (45, .imul, 46, 0, 0, 0), (46, .ishr, 47, 0, 0, 0), (47, .iconst 3, 48, 3, 0, 0), (48, .iand, 49, 0, 0, 0), (49, .iconst 2, 50, 2, 0, 0), (50, .iload 8, 52, 0, 0, 0), (52, .imul, 53, 0, 0, 0), (53, .ishl, 54, 0, 0, 0), (54, .ior, 55, 0, 0, 0), (55, .istore 7, 57, 0, 0, 0), (57, .iinc 8 1, 60, 1, 0, 0), (60, .goto (-36), 63, 24, 0, 0), (63, .iload 7, 65, 0, 0, 0), (65, .aload_n 3, 66, 0, 0, 0), (66, .aload 4, 68, 0, 0, 0), (68, .invokestatic 32, 71, 81, 3, 0), (71, .istore 8, 73, 0, 0, 0), (73, .iconst 0, 74, 0, 0, 0), (74, .istore 9, 76, 0, 0, 0), (76, .iconst 0, 77, 0, 0, 0), (77, .istore 10, 79, 0, 0, 0), (79, .iconst 0, 80, 0, 0, 0), (80, .istore 11, 82, 0, 0, 0), (82, .iconst 0, 83, 0, 0, 0), (83, .istore 12, 85, 0, 0, 0), (85, .iload 12, 87, 0, 0, 0), (87, .aload_n 3, 88, 0, 0, 0), (88, .iconst 0, 89, 0, 0, 0), (89, .iaload, 90, 0, 0, 0), (90, .if_icmp .ge 68, 93, 158, 0, 0), (93, .iload 7, 95, 0, 0, 0), (95, .iconst 2, 96, 2, 0, 0), (96, .iload 12, 98, 0, 0, 0), (98, .imul, 99, 0, 0, 0), (99, .ishr, 100, 0, 0, 0), (100, .iconst 3, 101, 3, 0, 0), (101, .iand, 102, 0, 0, 0), (102, .istore 13, 104, 0, 0, 0), (104, .iload 9, 106, 0, 0, 0), (106, .iload 13, 108, 0, 0, 0), (108, .iconst 1, 109, 1, 0, 0), (109, .if_icmp .ne 7, 112, 116, 0, 0), (112, .iconst 1, 113, 1, 0, 0), (113, .goto 4, 116, 117, 0, 0), (116, .iconst 0, 117, 0, 0, 0), (117, .iadd, 118, 0, 0, 0), (118, .istore 9, 120, 0, 0, 0), (120, .iload 10, 122, 0, 0, 0), (122, .iload 13, 124, 0, 0, 0), (124, .iconst 2, 125, 2, 0, 0), (125, .if_icmp .ne 7, 128, 132, 0, 0), (128, .iconst 1, 129, 1, 0, 0), (129, .goto 4, 132, 133, 0, 0), (132, .iconst 0, 133, 0, 0, 0), (133, .iadd, 134, 0, 0, 0), (134, .istore 10, 136, 0, 0, 0), (136, .iload 11, 138, 0, 0, 0), (138, .iload 13, 140, 0, 0, 0), (140, .iconst 3, 141, 3, 0, 0), (141, .if_icmp .ne 7, 144, 148, 0, 0), (144, .iconst 1, 145, 1, 0, 0), (145, .goto 4, 148, 149, 0, 0), (148, .iconst 0, 149, 0, 0, 0), (149, .iadd, 150, 0, 0, 0), (150, .istore 11, 152, 0, 0, 0), (152, .iinc 12 1, 155, 1, 0, 0), (155, .goto (-70), 158, 85, 0, 0), (158, .iload 9, 160, 0, 0, 0), (160, .ifCond .ne 16, 163, 176, 0, 0), (163, .iload 10, 165, 0, 0, 0), (165, .ifCond .eq 169, 168, 334, 0, 0), (168, .iload 11, 170, 0, 0, 0), (170, .ifCond .ne 6, 173, 176, 0, 0), (173, .goto 161, 176, 334, 0, 0), (176, .iconst 1, 177, 1, 0, 0), (177, .istore 12, 179, 0, 0, 0), (179, .iload 12, 181, 0, 0, 0), (181, .iconst 1, 182, 1, 0, 0), (182, .iconst 2, 183, 2, 0, 0), (183, .aload_n 3, 184, 0, 0, 0), (184, .iconst 0, 185, 0, 0, 0), (185, .iaload, 186, 0, 0, 0), (186, .imul, 187, 0, 0, 0), (187, .ishl, 188, 0, 0, 0), (188, .if_icmp .ge 57, 191, 245, 0, 0), (191, .iload 8, 193, 0, 0, 0), (193, .ifCond .eq 52, 196, 245, 0, 0), (196, .iload 12, 198, 0, 0, 0), (198, .aload_n 3, 199, 0, 0, 0), (199, .aload 4, 201, 0, 0, 0), (201, .invokestatic 32, 204, 81, 3, 0), (204, .ifCond .eq 35, 207, 239, 0, 0), (207, .iload 12, 209, 0, 0, 0), (209, .invokestatic 36, 212, 85, 1, 0), (212, .iload 7, 214, 0, 0, 0), (214, .invokestatic 36, 217, 85, 1, 0), (217, .iconst (-1), 218, 4294967295, 0, 0), (218, .ixor, 219, 0, 0, 0), (219, .iand, 220, 0, 0, 0), (220, .ifCond .ne 19, 223, 239, 0, 0), (223, .iload 12, 225, 0, 0, 0), (225, .invokestatic 36, 228, 85, 1, 0), (228, .iload 7, 230, 0, 0, 0), (230, .invokestatic 36, 233, 85, 1, 0), (233, .if_icmp .eq 6, 236, 239, 0, 0), (236, .iconst 0, 237, 0, 0, 0), (237, .istore 8, 239, 0, 0, 0), (239, .iinc 12 1, 242, 1, 0, 0), (242, .goto (-63), 245, 179, 0, 0), (245, .iload 8, 247, 0, 0, 0), (247, .ifCond .ne 6, 250, 253, 0, 0), (250, .goto 84, 253, 334, 0, 0), (253, .iconst 0, 254, 0, 0, 0), (254, .istore 12, 256, 0, 0, 0), (256, .iconst 0, 257, 0, 0, 0), (257, .istore 13, 259, 0, 0, 0), (259, .iload 13, 261, 0, 0, 0), (261, .aload_n 3, 262, 0, 0, 0), (262, .iconst 0, 263, 0, 0, 0), (263, .iaload, 264, 0, 0, 0), (264, .if_icmp .ge 52, 267, 316, 0, 0), (267, .aload_n 0, 268, 0, 0, 0), (268, .iload 5, 270, 0, 0, 0), (270, .iload 13, 272, 0, 0, 0), (272, .invokevirtual 40, 275, 6, 2, 7), (275, .iload 7, 277, 0, 0, 0), (277, .iconst 2, 278, 2, 0, 0), (278, .iload 13, 280, 0, 0, 0), (280, .imul, 281, 0, 0, 0), (281, .ishr, 282, 0, 0, 0), (282, .iconst 3, 283, 3, 0, 0), (283, .iand, 284, 0, 0, 0), (284, .if_icmp .eq 5, 287, 289, 0, 0), (287, .iconst 0, 288, 0, 0, 0), (288, .ireturn, 289, 0, 0, 0), (289, .iload 12, 291, 0, 0, 0), (291, .iload 7, 293, 0, 0, 0), (293, .iconst 2, 294, 2, 0, 0), (294, .iload 13, 296, 0, 0, 0), (296, .imul, 297, 0, 0, 0), (297, .ishr, 298, 0, 0, 0), (298, .iconst 3, 299, 3, 0, 0), (299, .iand, 300, 0, 0, 0), (300, .lload_n 1, 301, 0, 0, 0), (301, .iload 13, 303, 0, 0, 0), (303, .invokestatic 14, 306, 76, 2, 0), (306, .imul, 307, 0, 0, 0), (307, .iadd, 308, 0, 0, 0), (308, .istore 12, 310, 0, 0, 0), (310, .iinc 13 1, 313, 1, 0, 0), (313, .goto (-54), 316, 259, 0, 0), (316, .aload_n 0, 317, 0, 0, 0), (317, .iload 5, 319, 0, 0, 0), (319, .bipush 8, 321, 8, 0, 0), (321, .invokevirtual 40, 324, 6, 2, 7), (324, .iload 12, 326, 0, 0, 0), (326, .if_icmp .eq 5, 329, 331, 0, 0), (329, .iconst 0, 330, 0, 0, 0), (330, .ireturn, 331, 0, 0, 0), (331, .iinc 5 1, 334, 1, 0, 0), (334, .iinc 6 1, 337, 1, 0, 0), (337, .goto (-331), 340, 6, 0, 0), (340, .aload_n 0, 341, 0, 0, 0), (341, .invokevirtual 46, 344, 7, 0, 7), (344, .iload 5, 346, 0, 0, 0), (346, .if_icmp .ne 18, 349, 364, 0, 0), (349, .aload_n 0, 350, 0, 0, 0), (350, .iload 5, 352, 0, 0, 0), (352, .iconst 0, 353, 0, 0, 0), (353, .invokevirtual 40, 356, 6, 2, 7), (356, .iconst (-1), 357, 4294967295, 0, 0), (357, .if_icmp .ne 7, 360, 364, 0, 0), (360, .iconst 1, 361, 1, 0, 0), (361, .goto 4, 364, 365, 0, 0), (364, .iconst 0, 365, 0, 0, 0), (365, .ireturn, 366, 0, 0, 0)])
def zL_low : yE := (yL_low, cL_low, 2, (some .int), [(0, .iload_n 0, 1, 0, 0, 0), (1, .ldc 9, 3, 2147483647, 0, 0), (3, .iand, 4, 0, 0, 0), (4, .iload_n 1, 5, 0, 0, 0), (5, .irem, 6, 0, 0, 0), (6, .ireturn, 7, 0, 0, 0)])
def zL_moves : yE := (yL_moves, cL_moves, 6, (some .int), [(0, .iconst 0, 1, 0, 0, 0), (1, .istore 4, 3, 0, 0, 0), (3, .iconst 0, 4, 0, 0, 0), (4, .istore 5, 6, 0, 0, 0), (6, .iload 5, 8, 0, 0, 0), (8, .aload_n 2, 9, 0, 0, 0), (9, .iconst 1, 10, 1, 0, 0), (10, .iaload, 11, 0, 0, 0), (11, .if_icmp .ge 33, 14, 44, 0, 0), (14, .iload 4, 16, 0, 0, 0), (16, .lload_n 0, 17, 0, 0, 0), (17, .iload 5, 19, 0, 0, 0), (19, .aload_n 2, 20, 0, 0, 0), (20, .aload_n 3, 21, 0, 0, 0), (21, .invokestatic 24, 24, 79, 4, 0), (24, .ifCond .eq 10, 27, 34, 0, 0), (27, .iconst 1, 28, 1, 0, 0), (28, .iload 5, 30, 0, 0, 0), (30, .ishl, 31, 0, 0, 0), (31, .goto 4, 34, 35, 0, 0), (34, .iconst 0, 35, 0, 0, 0), (35, .ior, 36, 0, 0, 0), (36, .istore 4, 38, 0, 0, 0), (38, .iinc 5 1, 41, 1, 0, 0), (41, .goto (-35), 44, 6, 0, 0), (44, .iload 4, 46, 0, 0, 0), (46, .ireturn, 47, 0, 0, 0)])
def zL_places : yE := (yL_places, cL_places, 3, (some .int), [(0, .iconst 0, 1, 0, 0, 0), (1, .istore_n 1, 2, 0, 0, 0), (2, .iconst 0, 3, 0, 0, 0), (3, .istore_n 2, 4, 0, 0, 0), (4, .iload_n 2, 5, 0, 0, 0), (5, .iconst 4, 6, 4, 0, 0), (6, .if_icmp .ge 29, 9, 35, 0, 0), (9, .iload_n 1, 10, 0, 0, 0), (10, .iload_n 0, 11, 0, 0, 0), (11, .iconst 2, 12, 2, 0, 0), (12, .iload_n 2, 13, 0, 0, 0), (13, .imul, 14, 0, 0, 0), (14, .ishr, 15, 0, 0, 0), (15, .iconst 3, 16, 3, 0, 0), (16, .iand, 17, 0, 0, 0), (17, .ifCond .le 9, 20, 26, 0, 0), (20, .iconst 1, 21, 1, 0, 0), (21, .iload_n 2, 22, 0, 0, 0), (22, .ishl, 23, 0, 0, 0), (23, .goto 4, 26, 27, 0, 0), (26, .iconst 0, 27, 0, 0, 0), (27, .ior, 28, 0, 0, 0), (28, .istore_n 1, 29, 0, 0, 0), (29, .iinc 2 1, 32, 1, 0, 0), (32, .goto (-28), 35, 4, 0, 0), (35, .iload_n 1, 36, 0, 0, 0), (36, .ireturn, 37, 0, 0, 0)])
def zL_reach : yE := (yL_reach, cL_reach, 13, (some .int), [(0, .iconst 1, 1, 1, 0, 0), (1, .istore 6, 3, 0, 0, 0), (3, .aload 4, 5, 0, 0, 0), (5, .iconst 0, 6, 0, 0, 0), (6, .lload_n 0, 7, 0, 0, 0), (7, .lastore, 8, 0, 0, 0), (8, .aload 5, 10, 0, 0, 0), (10, .iconst 0, 11, 0, 0, 0), (11, .iconst 0, 12, 0, 0, 0), (12, .iastore, 13, 0, 0, 0), (13, .iconst 0, 14, 0, 0, 0), (14, .istore 7, 16, 0, 0, 0), (16, .iload 7, 18, 0, 0, 0), (18, .iload 6, 20, 0, 0, 0), (20, .if_icmp .ge 140, 23, 160, 0, 0), (23, .iconst 0, 24, 0, 0, 0), (24, .istore 8, 26, 0, 0, 0), (26, .iload 8, 28, 0, 0, 0), (28, .aload_n 2, 29, 0, 0, 0), (29, .iconst 1, 30, 1, 0, 0), (30, .iaload, 31, 0, 0, 0), (31, .if_icmp .ge 123, 34, 154, 0, 0), (34, .aload 4, 36, 0, 0, 0), (36, .iload 7, 38, 0, 0, 0), (38, .laload, 39, 0, 0, 0), (39, .iload 8, 41, 0, 0, 0), (41, .aload_n 2, 42, 0, 0, 0), (42, .aload_n 3, 43, 0, 0, 0), (43, .invokestatic 24, 46, 79, 4, 0), (46, .ifCond .ne 6, 49, 52, 0, 0), (49, .goto 99, 52, 148, 0, 0), (52, .aload 4, 54, 0, 0, 0), (54, .iload 7, 56, 0, 0, 0), (56, .laload, 57, 0, 0, 0), (57, .iload 8, 59, 0, 0, 0), (59, .aload_n 2, 60, 0, 0, 0), (60, .aload_n 3, 61, 0, 0, 0), (61, .invokestatic 28, 64, 77, 4, 0), (64, .lstore 9, 66, 0, 0, 0), (66, .iconst 0, 67, 0, 0, 0), (67, .istore 11, 69, 0, 0, 0), (69, .iconst 0, 70, 0, 0, 0), (70, .istore 12, 72, 0, 0, 0), (72, .iload 12, 74, 0, 0, 0), (74, .iload 6, 76, 0, 0, 0), (76, .if_icmp .ge 32, 79, 108, 0, 0), (79, .iload 11, 81, 0, 0, 0), (81, .ifCond .ne 14, 84, 95, 0, 0), (84, .aload 4, 86, 0, 0, 0), (86, .iload 12, 88, 0, 0, 0), (88, .laload, 89, 0, 0, 0), (89, .lload 9, 91, 0, 0, 0), (91, .lcmp, 92, 0, 0, 0), (92, .ifCond .ne 7, 95, 99, 0, 0), (95, .iconst 1, 96, 1, 0, 0), (96, .goto 4, 99, 100, 0, 0), (99, .iconst 0, 100, 0, 0, 0), (100, .istore 11, 102, 0, 0, 0), (102, .iinc 12 1, 105, 1, 0, 0), (105, .goto (-33), 108, 72, 0, 0), (108, .iload 11, 110, 0, 0, 0), (110, .ifCond .eq 6, 113, 116, 0, 0), (113, .goto 35, 116, 148, 0, 0), (116, .iload 6, 118, 0, 0, 0), (118, .bipush 60, 120, 60, 0, 0), (120, .if_icmp .ne 6, 123, 126, 0, 0), (123, .bipush 61, 125, 61, 0, 0), (125, .ireturn, 126, 0, 0, 0), (126, .aload 5, 128, 0, 0, 0), (128, .iload 6, 130, 0, 0, 0), (130, .aload 5, 132, 0, 0, 0), (132, .iload 7, 134, 0, 0, 0), (134, .iaload, 135, 0, 0, 0), (135, .iconst 1, 136, 1, 0, 0), (136, .iadd, 137, 0, 0, 0), (137, .iastore, 138, 0, 0, 0), (138, .aload 4, 140, 0, 0, 0), (140, .iload 6, 142, 0, 0, 0), (142, .iinc 6 1, 145, 1, 0, 0), (145, .lload 9, 147, 0, 0, 0), (147, .lastore, 148, 0, 0, 0), (148, .iinc 8 1, 151, 1, 0, 0), (151, .goto (-125), 154, 26, 0, 0), (154, .iinc 7 1, 157, 1, 0, 0), (157, .goto (-141), 160, 16, 0, 0), (160, .iload 6, 162, 0, 0, 0), (162, .ireturn, 163, 0, 0, 0)])
def zL_traps : yE := (yL_traps, cL_traps, 14, (some .boolean), [(0, .iconst 0, 1, 0, 0, 0), (1, .istore 6, 3, 0, 0, 0), (3, .iload 6, 5, 0, 0, 0), (5, .iconst 2, 6, 2, 0, 0), (6, .if_icmp .ge 263, 9, 269, 0, 0), (9, .iconst 0, 10, 0, 0, 0), (10, .istore 7, 12, 0, 0, 0), (12, .iload_n 1, 13, 0, 0, 0), (13, .istore 8, 15, 0, 0, 0), (15, .iload 8, 17, 0, 0, 0), (17, .ifCond .le 178, 20, 195, 0, 0), (20, .iconst 1, 21, 1, 0, 0), (21, .istore 9, 23, 0, 0, 0), (23, .iconst 0, 24, 0, 0, 0), (24, .istore 10, 26, 0, 0, 0), (26, .iload 10, 28, 0, 0, 0), (28, .aload 4, 30, 0, 0, 0), (30, .iconst 1, 31, 1, 0, 0), (31, .iaload, 32, 0, 0, 0), (32, .if_icmp .ge 125, 35, 157, 0, 0), (35, .iconst 0, 36, 0, 0, 0), (36, .istore 11, 38, 0, 0, 0), (38, .iconst 0, 39, 0, 0, 0), (39, .istore 12, 41, 0, 0, 0), (41, .iconst 0, 42, 0, 0, 0), (42, .istore 13, 44, 0, 0, 0), (44, .iload 13, 46, 0, 0, 0), (46, .aload 4, 48, 0, 0, 0), (48, .iconst 0, 49, 0, 0, 0), (49, .iaload, 50, 0, 0, 0), (50, .if_icmp .ge 61, 53, 111, 0, 0), (53, .iload 11, 55, 0, 0, 0), (55, .iload 8, 57, 0, 0, 0), (57, .iload 13, 59, 0, 0, 0), (59, .ishr, 60, 0, 0, 0), (60, .iconst 1, 61, 1, 0, 0), (61, .iand, 62, 0, 0, 0), (62, .aload 5, 64, 0, 0, 0), (64, .iconst 4, 65, 4, 0, 0), (65, .iload 10, 67, 0, 0, 0), (67, .imul, 68, 0, 0, 0), (68, .iload 13, 70, 0, 0, 0), (70, .iadd, 71, 0, 0, 0), (71, .iaload, 72, 0, 0, 0), (72, .bipush 16, 74, 16, 0, 0), (74, .idiv, 75, 0, 0, 0), (75, .imul, 76, 0, 0, 0), (76, .iadd, 77, 0, 0, 0), (77, .istore 11, 79, 0, 0, 0), (79, .iload 12, 81, 0, 0, 0), (81, .iload 8, 83, 0, 0, 0), (83, .iload 13, 85, 0, 0, 0), (85, .ishr, 86, 0, 0, 0), (86, .iconst 1, 87, 1, 0, 0), (87, .iand, 88, 0, 0, 0), (88, .aload 5, 90, 0, 0, 0), (90, .iconst 4, 91, 4, 0, 0), (91, .iload 10, 93, 0, 0, 0), (93, .imul, 94, 0, 0, 0), (94, .iload 13, 96, 0, 0, 0), (96, .iadd, 97, 0, 0, 0), (97, .iaload, 98, 0, 0, 0), (98, .bipush 16, 100, 16, 0, 0), (100, .irem, 101, 0, 0, 0), (101, .imul, 102, 0, 0, 0), (102, .iadd, 103, 0, 0, 0), (103, .istore 12, 105, 0, 0, 0), (105, .iinc 13 1, 108, 1, 0, 0), (108, .goto (-64), 111, 44, 0, 0), (111, .iload 9, 113, 0, 0, 0), (113, .ifCond .eq 35, 116, 148, 0, 0), (116, .iload 6, 118, 0, 0, 0), (118, .ifCond .ne 16, 121, 134, 0, 0), (121, .iload 11, 123, 0, 0, 0), (123, .ifCond .eq 21, 126, 144, 0, 0), (126, .iload 12, 128, 0, 0, 0), (128, .ifCond .le 20, 131, 148, 0, 0), (131, .goto 13, 134, 144, 0, 0), (134, .iload 12, 136, 0, 0, 0), (136, .ifCond .eq 8, 139, 144, 0, 0), (139, .iload 11, 141, 0, 0, 0), (141, .ifCond .le 7, 144, 148, 0, 0), (144, .iconst 1, 145, 1, 0, 0), (145, .goto 4, 148, 149, 0, 0), (148, .iconst 0, 149, 0, 0, 0), (149, .istore 9, 151, 0, 0, 0), (151, .iinc 10 1, 154, 1, 0, 0), (154, .goto (-128), 157, 26, 0, 0), (157, .iload 9, 159, 0, 0, 0), (159, .ifCond .eq 21, 162, 180, 0, 0), (162, .iload 8, 164, 0, 0, 0), (164, .invokestatic 50, 167, 78, 1, 0), (167, .iload 7, 169, 0, 0, 0), (169, .invokestatic 50, 172, 78, 1, 0), (172, .if_icmp .le 8, 175, 180, 0, 0), (175, .iload 8, 177, 0, 0, 0), (177, .goto 5, 180, 182, 0, 0), (180, .iload 7, 182, 0, 0, 0), (182, .istore 7, 184, 0, 0, 0), (184, .iload 8, 186, 0, 0, 0), (186, .iconst 1, 187, 1, 0, 0), (187, .isub, 188, 0, 0, 0), (188, .iload_n 1, 189, 0, 0, 0), (189, .iand, 190, 0, 0, 0), (190, .istore 8, 192, 0, 0, 0), (192, .goto (-177), 195, 15, 0, 0), (195, .iconst 0, 196, 0, 0, 0), (196, .istore 8, 198, 0, 0, 0), (198, .iconst 0, 199, 0, 0, 0), (199, .istore 9, 201, 0, 0, 0), (201, .iload 9, 203, 0, 0, 0), (203, .aload 4, 205, 0, 0, 0), (205, .iconst 0, 206, 0, 0, 0), (206, .iaload, 207, 0, 0, 0), (207, .if_icmp .ge 28, 210, 235, 0, 0), (210, .iload 8, 212, 0, 0, 0), (212, .iload 7, 214, 0, 0, 0), (214, .iload 9, 216, 0, 0, 0), (216, .ishr, 217, 0, 0, 0), (217, .iconst 1, 218, 1, 0, 0), (218, .iand, 219, 0, 0, 0), (219, .lload_n 2, 220, 0, 0, 0), (220, .iload 9, 222, 0, 0, 0), (222, .invokestatic 14, 225, 76, 2, 0), (225, .imul, 226, 0, 0, 0), (226, .iadd, 227, 0, 0, 0), (227, .istore 8, 229, 0, 0, 0), (229, .iinc 9 1, 232, 1, 0, 0), (232, .goto (-31), 235, 201, 0, 0), (235, .aload_n 0, 236, 0, 0, 0), (236, .iload_n 1, 237, 0, 0, 0), (237, .iload 6, 239, 0, 0, 0), (239, .invokevirtual 53, 242, 16, 2, 7), (242, .iload 7, 244, 0, 0, 0), (244, .if_icmp .ne 17, 247, 261, 0, 0), (247, .aload_n 0, 248, 0, 0, 0), (248, .iload_n 1, 249, 0, 0, 0), (249, .iconst 2, 250, 2, 0, 0), (250, .iload 6, 252, 0, 0, 0), (252, .iadd, 253, 0, 0, 0), (253, .invokevirtual 53, 256, 16, 2, 7), (256, .iload 8, 258, 0, 0, 0), (258, .if_icmp .eq 5, 261, 263, 0, 0), (261, .iconst 0, 262, 0, 0, 0), (262, .ireturn, 263, 0, 0, 0), (263, .iinc 6 1, 266, 1, 0, 0), (266, .goto (-263), 269, 3, 0, 0), (269, .iconst 1, 270, 1, 0, 0), (270, .ireturn, 271, 0, 0, 0)])
def zL_tree : yE := (yL_tree, cL_tree, 17, (some .int), [(0, .iconst 1, 1, 1, 0, 0), (1, .istore 7, 3, 0, 0, 0), (3, .aload 4, 5, 0, 0, 0), (5, .iconst 0, 6, 0, 0, 0), (6, .lload_n 0, 7, 0, 0, 0), (7, .lastore, 8, 0, 0, 0), (8, .aload 5, 10, 0, 0, 0), (10, .iconst 0, 11, 0, 0, 0), (11, .iconst 0, 12, 0, 0, 0), (12, .iastore, 13, 0, 0, 0), (13, .aload 6, 15, 0, 0, 0), (15, .iconst 0, 16, 0, 0, 0), (16, .iconst (-1), 17, 4294967295, 0, 0), (17, .iastore, 18, 0, 0, 0), (18, .iconst 0, 19, 0, 0, 0), (19, .istore 8, 21, 0, 0, 0), (21, .iload 8, 23, 0, 0, 0), (23, .iload 7, 25, 0, 0, 0), (25, .if_icmp .ge 302, 28, 327, 0, 0), (28, .iconst 0, 29, 0, 0, 0), (29, .istore 9, 31, 0, 0, 0), (31, .aload 6, 33, 0, 0, 0), (33, .iload 8, 35, 0, 0, 0), (35, .iaload, 36, 0, 0, 0), (36, .istore 10, 38, 0, 0, 0), (38, .iload 10, 40, 0, 0, 0), (40, .ifCond .lt 39, 43, 79, 0, 0), (43, .iload 9, 45, 0, 0, 0), (45, .ifCond .ne 17, 48, 62, 0, 0), (48, .aload 4, 50, 0, 0, 0), (50, .iload 10, 52, 0, 0, 0), (52, .laload, 53, 0, 0, 0), (53, .aload 4, 55, 0, 0, 0), (55, .iload 8, 57, 0, 0, 0), (57, .laload, 58, 0, 0, 0), (58, .lcmp, 59, 0, 0, 0), (59, .ifCond .ne 7, 62, 66, 0, 0), (62, .iconst 1, 63, 1, 0, 0), (63, .goto 4, 66, 67, 0, 0), (66, .iconst 0, 67, 0, 0, 0), (67, .istore 9, 69, 0, 0, 0), (69, .aload 6, 71, 0, 0, 0), (71, .iload 10, 73, 0, 0, 0), (73, .iaload, 74, 0, 0, 0), (74, .istore 10, 76, 0, 0, 0), (76, .goto (-38), 79, 38, 0, 0), (79, .iconst 0, 80, 0, 0, 0), (80, .istore 10, 82, 0, 0, 0), (82, .iload 10, 84, 0, 0, 0), (84, .aload_n 2, 85, 0, 0, 0), (85, .iconst 1, 86, 1, 0, 0), (86, .iaload, 87, 0, 0, 0), (87, .if_icmp .ge 234, 90, 321, 0, 0), (90, .iload 9, 92, 0, 0, 0), (92, .ifCond .ne 229, 95, 321, 0, 0), (95, .aload 4, 97, 0, 0, 0), (97, .iload 8, 99, 0, 0, 0), (99, .laload, 100, 0, 0, 0), (100, .iload 10, 102, 0, 0, 0), (102, .aload_n 2, 103, 0, 0, 0), (103, .aload_n 3, 104, 0, 0, 0), (104, .invokestatic 24, 107, 79, 4, 0), (107, .ifCond .ne 6, 110, 113, 0, 0), (110, .goto 205, 113, 315, 0, 0), (113, .aload 4, 115, 0, 0, 0), (115, .iload 8, 117, 0, 0, 0), (117, .laload, 118, 0, 0, 0), (118, .iload 10, 120, 0, 0, 0), (120, .aload_n 2, 121, 0, 0, 0), (121, .aload_n 3, 122, 0, 0, 0), (122, .invokestatic 28, 125, 77, 4, 0), (125, .lstore 11, 127, 0, 0, 0), (127, .iconst 0, 128, 0, 0, 0), (128, .istore 13, 130, 0, 0, 0), (130, .iload 13, 132, 0, 0, 0), (132, .aload 5, 134, 0, 0, 0), (134, .iload 8, 136, 0, 0, 0), (136, .iaload, 137, 0, 0, 0), (137, .if_icmp .gt 139, 140, 276, 0, 0), (140, .iload 8, 142, 0, 0, 0), (142, .istore 14, 144, 0, 0, 0), (144, .aload 5, 146, 0, 0, 0), (146, .iload 14, 148, 0, 0, 0), (148, .iaload, 149, 0, 0, 0), (149, .iload 13, 151, 0, 0, 0), (151, .if_icmp .le 13, 154, 164, 0, 0), (154, .aload 6, 156, 0, 0, 0), (156, .iload 14, 158, 0, 0, 0), (158, .iaload, 159, 0, 0, 0), (159, .istore 14, 161, 0, 0, 0), (161, .goto (-17), 164, 144, 0, 0), (164, .iconst 1, 165, 1, 0, 0), (165, .istore 15, 167, 0, 0, 0), (167, .iconst 0, 168, 0, 0, 0), (168, .istore 16, 170, 0, 0, 0), (170, .iload 16, 172, 0, 0, 0), (172, .aload_n 2, 173, 0, 0, 0), (173, .iconst 0, 174, 0, 0, 0), (174, .iaload, 175, 0, 0, 0), (175, .if_icmp .ge 41, 178, 216, 0, 0), (178, .iload 15, 180, 0, 0, 0), (180, .ifCond .eq 27, 183, 207, 0, 0), (183, .aload 4, 185, 0, 0, 0), (185, .iload 14, 187, 0, 0, 0), (187, .laload, 188, 0, 0, 0), (188, .iload 16, 190, 0, 0, 0), (190, .invokestatic 14, 193, 76, 2, 0), (193, .lload 11, 195, 0, 0, 0), (195, .iload 16, 197, 0, 0, 0), (197, .invokestatic 14, 200, 76, 2, 0), (200, .if_icmp .gt 7, 203, 207, 0, 0), (203, .iconst 1, 204, 1, 0, 0), (204, .goto 4, 207, 208, 0, 0), (207, .iconst 0, 208, 0, 0, 0), (208, .istore 15, 210, 0, 0, 0), (210, .iinc 16 1, 213, 1, 0, 0), (213, .goto (-43), 216, 170, 0, 0), (216, .iconst 0, 217, 0, 0, 0), (217, .istore 16, 219, 0, 0, 0), (219, .iload 16, 221, 0, 0, 0), (221, .aload_n 2, 222, 0, 0, 0), (222, .iconst 0, 223, 0, 0, 0), (223, .iaload, 224, 0, 0, 0), (224, .if_icmp .ge 46, 227, 270, 0, 0), (227, .iload 15, 229, 0, 0, 0), (229, .ifCond .eq 41, 232, 270, 0, 0), (232, .aload 4, 234, 0, 0, 0), (234, .iload 14, 236, 0, 0, 0), (236, .laload, 237, 0, 0, 0), (237, .iload 16, 239, 0, 0, 0), (239, .invokestatic 14, 242, 76, 2, 0), (242, .lload 11, 244, 0, 0, 0), (244, .iload 16, 246, 0, 0, 0), (246, .invokestatic 14, 249, 76, 2, 0), (249, .if_icmp .ge 15, 252, 264, 0, 0), (252, .lload 11, 254, 0, 0, 0), (254, .iload 16, 256, 0, 0, 0), (256, .sipush 32767, 259, 32767, 0, 0), (259, .invokestatic 20, 262, 89, 3, 0), (262, .lstore 11, 264, 0, 0, 0), (264, .iinc 16 1, 267, 1, 0, 0), (267, .goto (-48), 270, 219, 0, 0), (270, .iinc 13 1, 273, 1, 0, 0), (273, .goto (-143), 276, 130, 0, 0), (276, .iload 7, 278, 0, 0, 0), (278, .bipush 60, 280, 60, 0, 0), (280, .if_icmp .ne 6, 283, 286, 0, 0), (283, .bipush 61, 285, 61, 0, 0), (285, .ireturn, 286, 0, 0, 0), (286, .aload 5, 288, 0, 0, 0), (288, .iload 7, 290, 0, 0, 0), (290, .aload 5, 292, 0, 0, 0), (292, .iload 8, 294, 0, 0, 0), (294, .iaload, 295, 0, 0, 0), (295, .iconst 1, 296, 1, 0, 0), (296, .iadd, 297, 0, 0, 0), (297, .iastore, 298, 0, 0, 0), (298, .aload 6, 300, 0, 0, 0), (300, .iload 7, 302, 0, 0, 0), (302, .iload 8, 304, 0, 0, 0), (304, .iastore, 305, 0, 0, 0), (305, .aload 4, 307, 0, 0, 0), (307, .iload 7, 309, 0, 0, 0), (309, .iinc 7 1, 312, 1, 0, 0), (312, .lload 11, 314, 0, 0, 0), (314, .lastore, 315, 0, 0, 0), (315, .iinc 10 1, 318, 1, 0, 0), (318, .goto (-236), 321, 82, 0, 0), (321, .iinc 8 1, 324, 1, 0, 0), (324, .goto (-303), 327, 21, 0, 0), (327, .iload 7, 329, 0, 0, 0), (329, .ireturn, 330, 0, 0, 0)])
def zL_with : yE := (yL_with, cL_with, 4, (some .long), [(0, .lload_n 0, 1, 0, 0, 0), (1, .ldc2_w 10, 4, 32767, 0, 0), (4, .bipush 15, 6, 15, 0, 0), (6, .iload_n 2, 7, 0, 0, 0), (7, .imul, 8, 0, 0, 0), (8, .lshl, 9, 0, 0, 0), (9, .ldc2_w 12, 12, 18446744073709551615, 0, 0), (12, .lxor, 13, 0, 0, 0), (13, .land, 14, 0, 0, 0), (14, .iload_n 3, 15, 0, 0, 0), (15, .i2l, 16, 0, 0, 0), (16, .bipush 15, 18, 15, 0, 0), (18, .iload_n 2, 19, 0, 0, 0), (19, .imul, 20, 0, 0, 0), (20, .lshl, 21, 0, 0, 0), (21, .lor, 22, 0, 0, 0), (22, .lreturn, 23, 0, 0, 0)])
def zL_would : yE := (yL_would, cL_would, 16, (some .boolean), [(0, .lload_n 2, 1, 0, 0, 0), (1, .aload 4, 3, 0, 0, 0), (3, .aload 5, 5, 0, 0, 0), (5, .aload 6, 7, 0, 0, 0), (7, .aload 7, 9, 0, 0, 0), (9, .invokestatic 56, 12, 86, 5, 0), (12, .istore 9, 14, 0, 0, 0), (14, .iload 9, 16, 0, 0, 0), (16, .bipush 61, 18, 61, 0, 0), (18, .if_icmp .ge 207, 21, 225, 0, 0), (21, .iconst 0, 22, 0, 0, 0), (22, .istore 10, 24, 0, 0, 0), (24, .iconst 0, 25, 0, 0, 0), (25, .istore 11, 27, 0, 0, 0), (27, .iconst 0, 28, 0, 0, 0), (28, .istore 12, 30, 0, 0, 0), (30, .iload 12, 32, 0, 0, 0), (32, .iload 9, 34, 0, 0, 0), (34, .if_icmp .ge 51, 37, 85, 0, 0), (37, .iload 10, 39, 0, 0, 0), (39, .aload 6, 41, 0, 0, 0), (41, .iload 12, 43, 0, 0, 0), (43, .laload, 44, 0, 0, 0), (44, .aload 4, 46, 0, 0, 0), (46, .aload 5, 48, 0, 0, 0), (48, .invokestatic 60, 51, 84, 3, 0), (51, .ifCond .ne 7, 54, 58, 0, 0), (54, .iconst 1, 55, 1, 0, 0), (55, .goto 4, 58, 59, 0, 0), (58, .iconst 0, 59, 0, 0, 0), (59, .iadd, 60, 0, 0, 0), (60, .istore 10, 62, 0, 0, 0), (62, .iload 11, 64, 0, 0, 0), (64, .aload 6, 66, 0, 0, 0), (66, .iload 12, 68, 0, 0, 0), (68, .laload, 69, 0, 0, 0), (69, .aload 4, 71, 0, 0, 0), (71, .aload 5, 73, 0, 0, 0), (73, .invokestatic 60, 76, 84, 3, 0), (76, .ior, 77, 0, 0, 0), (77, .istore 11, 79, 0, 0, 0), (79, .iinc 12 1, 82, 1, 0, 0), (82, .goto (-52), 85, 30, 0, 0), (85, .aload_n 0, 86, 0, 0, 0), (86, .iconst 0, 87, 0, 0, 0), (87, .invokevirtual 64, 90, 13, 1, 7), (90, .iload 9, 92, 0, 0, 0), (92, .if_icmp .ne 23, 95, 115, 0, 0), (95, .aload_n 0, 96, 0, 0, 0), (96, .iconst 1, 97, 1, 0, 0), (97, .invokevirtual 64, 100, 13, 1, 7), (100, .iload 10, 102, 0, 0, 0), (102, .if_icmp .ne 13, 105, 115, 0, 0), (105, .aload_n 0, 106, 0, 0, 0), (106, .iconst 2, 107, 2, 0, 0), (107, .invokevirtual 64, 110, 13, 1, 7), (110, .iload 11, 112, 0, 0, 0), (112, .if_icmp .eq 5, 115, 117, 0, 0), (115, .iconst 0, 116, 0, 0, 0), (116, .ireturn, 117, 0, 0, 0), (117, .iconst 0, 118, 0, 0, 0), (118, .istore 12, 120, 0, 0, 0), (120, .iload 12, 122, 0, 0, 0), (122, .aload 4, 124, 0, 0, 0), (124, .iconst 0, 125, 0, 0, 0), (125, .iaload, 126, 0, 0, 0), (126, .if_icmp .ge 99, 129, 225, 0, 0), (129, .iload_n 1, 130, 0, 0, 0), (130, .iconst 2, 131, 2, 0, 0), (131, .iload 12, 133, 0, 0, 0), (133, .imul, 134, 0, 0, 0), (134, .ishr, 135, 0, 0, 0), (135, .bipush 8, 137, 8, 0, 0), (137, .invokestatic 67, 140, 83, 2, 0), (140, .istore 13, 142, 0, 0, 0), (142, .bipush (-6), 144, 4294967290, 0, 0), (144, .istore 14, 146, 0, 0, 0), (146, .iconst 0, 147, 0, 0, 0), (147, .istore 15, 149, 0, 0, 0), (149, .iload 15, 151, 0, 0, 0), (151, .iload 9, 153, 0, 0, 0), (153, .if_icmp .ge 51, 156, 204, 0, 0), (156, .aload 6, 158, 0, 0, 0), (158, .iload 15, 160, 0, 0, 0), (160, .laload, 161, 0, 0, 0), (161, .iload 12, 163, 0, 0, 0), (163, .invokestatic 14, 166, 76, 2, 0), (166, .iload 13, 168, 0, 0, 0), (168, .if_icmp .lt 26, 171, 194, 0, 0), (171, .iload 14, 173, 0, 0, 0), (173, .ifCond .lt 13, 176, 186, 0, 0), (176, .aload 7, 178, 0, 0, 0), (178, .iload 15, 180, 0, 0, 0), (180, .iaload, 181, 0, 0, 0), (181, .iload 14, 183, 0, 0, 0), (183, .if_icmp .ge 11, 186, 194, 0, 0), (186, .aload 7, 188, 0, 0, 0), (188, .iload 15, 190, 0, 0, 0), (190, .iaload, 191, 0, 0, 0), (191, .goto 5, 194, 196, 0, 0), (194, .iload 14, 196, 0, 0, 0), (196, .istore 14, 198, 0, 0, 0), (198, .iinc 15 1, 201, 1, 0, 0), (201, .goto (-52), 204, 149, 0, 0), (204, .aload_n 0, 205, 0, 0, 0), (205, .iload 12, 207, 0, 0, 0), (207, .iload 13, 209, 0, 0, 0), (209, .invokevirtual 70, 212, 4, 2, 7), (212, .iload 14, 214, 0, 0, 0), (214, .if_icmp .eq 5, 217, 219, 0, 0), (217, .iconst 0, 218, 0, 0, 0), (218, .ireturn, 219, 0, 0, 0), (219, .iinc 12 1, 222, 1, 0, 0), (222, .goto (-102), 225, 120, 0, 0), (225, .lload_n 2, 226, 0, 0, 0), (226, .aload 4, 228, 0, 0, 0), (228, .aload 5, 230, 0, 0, 0), (230, .aload 6, 232, 0, 0, 0), (232, .aload 7, 234, 0, 0, 0), (234, .aload 8, 236, 0, 0, 0), (236, .invokestatic 73, 239, 88, 6, 0), (239, .istore 9, 241, 0, 0, 0), (241, .iload 9, 243, 0, 0, 0), (243, .bipush 61, 245, 61, 0, 0), (245, .if_icmp .ne 5, 248, 250, 0, 0), (248, .iconst 1, 249, 1, 0, 0), (249, .ireturn, 250, 0, 0, 0), (250, .iconst 0, 251, 0, 0, 0), (251, .istore 10, 253, 0, 0, 0), (253, .iconst 0, 254, 0, 0, 0), (254, .istore 11, 256, 0, 0, 0), (256, .iconst 0, 257, 0, 0, 0), (257, .istore 12, 259, 0, 0, 0), (259, .iconst 0, 260, 0, 0, 0), (260, .istore 13, 262, 0, 0, 0), (262, .iload 13, 264, 0, 0, 0), (264, .iload 9, 266, 0, 0, 0), (266, .if_icmp .ge 95, 269, 361, 0, 0), (269, .iconst 0, 270, 0, 0, 0), (270, .istore 14, 272, 0, 0, 0), (272, .iload 14, 274, 0, 0, 0), (274, .aload 4, 276, 0, 0, 0), (276, .iconst 0, 277, 0, 0, 0), (277, .iaload, 278, 0, 0, 0), (278, .if_icmp .ge 38, 281, 316, 0, 0), (281, .iload 10, 283, 0, 0, 0), (283, .aload 6, 285, 0, 0, 0), (285, .iload 13, 287, 0, 0, 0), (287, .laload, 288, 0, 0, 0), (288, .iload 14, 290, 0, 0, 0), (290, .invokestatic 14, 293, 76, 2, 0), (293, .sipush 32767, 296, 32767, 0, 0), (296, .if_icmp .ne 10, 299, 306, 0, 0), (299, .iconst 1, 300, 1, 0, 0), (300, .iload 14, 302, 0, 0, 0), (302, .ishl, 303, 0, 0, 0), (303, .goto 4, 306, 307, 0, 0), (306, .iconst 0, 307, 0, 0, 0), (307, .ior, 308, 0, 0, 0), (308, .istore 10, 310, 0, 0, 0), (310, .iinc 14 1, 313, 1, 0, 0), (313, .goto (-41), 316, 272, 0, 0), (316, .iload 11, 318, 0, 0, 0), (318, .aload 6, 320, 0, 0, 0), (320, .iload 13, 322, 0, 0, 0), (322, .laload, 323, 0, 0, 0), (323, .aload 4, 325, 0, 0, 0), (325, .aload 5, 327, 0, 0, 0), (327, .invokestatic 60, 330, 84, 3, 0), (330, .ior, 331, 0, 0, 0), (331, .istore 11, 333, 0, 0, 0), (333, .aload 7, 335, 0, 0, 0), (335, .iload 13, 337, 0, 0, 0), (337, .iaload, 338, 0, 0, 0), (338, .iload 12, 340, 0, 0, 0), (340, .if_icmp .le 11, 343, 351, 0, 0), (343, .aload 7, 345, 0, 0, 0), (345, .iload 13, 347, 0, 0, 0), (347, .iaload, 348, 0, 0, 0), (348, .goto 5, 351, 353, 0, 0), (351, .iload 12, 353, 0, 0, 0), (353, .istore 12, 355, 0, 0, 0), (355, .iinc 13 1, 358, 1, 0, 0), (358, .goto (-96), 361, 262, 0, 0), (361, .iconst 0, 362, 0, 0, 0), (362, .istore 13, 364, 0, 0, 0), (364, .iload 13, 366, 0, 0, 0), (366, .aload 4, 368, 0, 0, 0), (368, .iconst 0, 369, 0, 0, 0), (369, .iaload, 370, 0, 0, 0), (370, .if_icmp .ge 86, 373, 456, 0, 0), (373, .iconst 0, 374, 0, 0, 0), (374, .istore 14, 376, 0, 0, 0), (376, .iconst 0, 377, 0, 0, 0), (377, .istore 15, 379, 0, 0, 0), (379, .iload 15, 381, 0, 0, 0), (381, .iload 9, 383, 0, 0, 0), (383, .if_icmp .ge 41, 386, 424, 0, 0), (386, .aload 6, 388, 0, 0, 0), (388, .iload 15, 390, 0, 0, 0), (390, .laload, 391, 0, 0, 0), (391, .iload 13, 393, 0, 0, 0), (393, .invokestatic 14, 396, 76, 2, 0), (396, .iload 14, 398, 0, 0, 0), (398, .if_icmp .le 16, 401, 414, 0, 0), (401, .aload 6, 403, 0, 0, 0), (403, .iload 15, 405, 0, 0, 0), (405, .laload, 406, 0, 0, 0), (406, .iload 13, 408, 0, 0, 0), (408, .invokestatic 14, 411, 76, 2, 0), (411, .goto 5, 414, 416, 0, 0), (414, .iload 14, 416, 0, 0, 0), (416, .istore 14, 418, 0, 0, 0), (418, .iinc 15 1, 421, 1, 0, 0), (421, .goto (-42), 424, 379, 0, 0), (424, .aload_n 0, 425, 0, 0, 0), (425, .iload 13, 427, 0, 0, 0), (427, .invokevirtual 77, 430, 2, 1, 7), (430, .iload 14, 432, 0, 0, 0), (432, .sipush 32767, 435, 32767, 0, 0), (435, .if_icmp .ne 8, 438, 443, 0, 0), (438, .bipush (-6), 440, 4294967290, 0, 0), (440, .goto 5, 443, 445, 0, 0), (443, .iload 14, 445, 0, 0, 0), (445, .if_icmp .eq 5, 448, 450, 0, 0), (448, .iconst 0, 449, 0, 0, 0), (449, .ireturn, 450, 0, 0, 0), (450, .iinc 13 1, 453, 1, 0, 0), (453, .goto (-89), 456, 364, 0, 0), (456, .aload_n 0, 457, 0, 0, 0), (457, .iconst 0, 458, 0, 0, 0), (458, .invokevirtual 80, 461, 5, 1, 7), (461, .iload 9, 463, 0, 0, 0), (463, .if_icmp .ne 37, 466, 500, 0, 0), (466, .aload_n 0, 467, 0, 0, 0), (467, .iconst 1, 468, 1, 0, 0), (468, .invokevirtual 80, 471, 5, 1, 7), (471, .iload 10, 473, 0, 0, 0), (473, .if_icmp .ne 27, 476, 500, 0, 0), (476, .aload_n 0, 477, 0, 0, 0), (477, .iconst 2, 478, 2, 0, 0), (478, .invokevirtual 80, 481, 5, 1, 7), (481, .iload 11, 483, 0, 0, 0), (483, .if_icmp .ne 17, 486, 500, 0, 0), (486, .aload_n 0, 487, 0, 0, 0), (487, .iconst 3, 488, 3, 0, 0), (488, .invokevirtual 80, 491, 5, 1, 7), (491, .iload 12, 493, 0, 0, 0), (493, .if_icmp .ne 7, 496, 500, 0, 0), (496, .iconst 1, 497, 1, 0, 0), (497, .goto 4, 500, 501, 0, 0), (500, .iconst 0, 501, 0, 0, 0), (501, .ireturn, 502, 0, 0, 0)])
def zJ6_bitCount_0f7a4 : yE := (yJ6_bitCount_0f7a4, cJ6_bitCount_0f7a4, 1, (some .int), [(0, .iload_n 0, 1, 0, 0, 0), (1, .iload_n 0, 2, 0, 0, 0), (2, .iconst 1, 3, 1, 0, 0), (3, .iushr, 4, 0, 0, 0), (4, .ldc_w 265, 7, 1431655765, 0, 0), (7, .iand, 8, 0, 0, 0), (8, .isub, 9, 0, 0, 0), (9, .istore_n 0, 10, 0, 0, 0), (10, .iload_n 0, 11, 0, 0, 0), (11, .ldc_w 266, 14, 858993459, 0, 0), (14, .iand, 15, 0, 0, 0), (15, .iload_n 0, 16, 0, 0, 0), (16, .iconst 2, 17, 2, 0, 0), (17, .iushr, 18, 0, 0, 0), (18, .ldc_w 266, 21, 858993459, 0, 0), (21, .iand, 22, 0, 0, 0), (22, .iadd, 23, 0, 0, 0), (23, .istore_n 0, 24, 0, 0, 0), (24, .iload_n 0, 25, 0, 0, 0), (25, .iload_n 0, 26, 0, 0, 0), (26, .iconst 4, 27, 4, 0, 0), (27, .iushr, 28, 0, 0, 0), (28, .iadd, 29, 0, 0, 0), (29, .ldc_w 267, 32, 252645135, 0, 0), (32, .iand, 33, 0, 0, 0), (33, .istore_n 0, 34, 0, 0, 0), (34, .iload_n 0, 35, 0, 0, 0), (35, .iload_n 0, 36, 0, 0, 0), (36, .bipush 8, 38, 8, 0, 0), (38, .iushr, 39, 0, 0, 0), (39, .iadd, 40, 0, 0, 0), (40, .istore_n 0, 41, 0, 0, 0), (41, .iload_n 0, 42, 0, 0, 0), (42, .iload_n 0, 43, 0, 0, 0), (43, .bipush 16, 45, 16, 0, 0), (45, .iushr, 46, 0, 0, 0), (46, .iadd, 47, 0, 0, 0), (47, .istore_n 0, 48, 0, 0, 0), (48, .iload_n 0, 49, 0, 0, 0), (49, .bipush 63, 51, 63, 0, 0), (51, .iand, 52, 0, 0, 0), (52, .ireturn, 53, 0, 0, 0)])
def zJ7_fill_53178 : yE := (yJ7_fill_53178, cJ7_fill_53178, 4, none, [(0, .iconst 0, 1, 0, 0, 0), (1, .istore_n 2, 2, 0, 0, 0), (2, .aload_n 0, 3, 0, 0, 0), (3, .arraylength, 4, 0, 0, 0), (4, .istore_n 3, 5, 0, 0, 0), (5, .iload_n 2, 6, 0, 0, 0), (6, .iload_n 3, 7, 0, 0, 0), (7, .if_icmp .ge 13, 10, 20, 0, 0), (10, .aload_n 0, 11, 0, 0, 0), (11, .iload_n 2, 12, 0, 0, 0), (12, .iload_n 1, 13, 0, 0, 0), (13, .iastore, 14, 0, 0, 0), (14, .iinc 2 1, 17, 1, 0, 0), (17, .goto (-12), 20, 5, 0, 0), (20, .return_, 21, 0, 0, 0)])
def z_mt : List yE := [zX8_init, zX8_arc, zX8_bound, zX8_count, zX8_fewest, zX8_growth, zX8_kept, zX8_keptMany, zX8_make, zX8_move, zX8_ofMove, zX8_ofPlace, zX8_place, zX8_reached, zX8_run, zX8_tokens, zX8_trap, zX1_init, zX1_note, zX1_settle, zX2_init, zX2_areSame, zX2_begins, zX2_isLike, zX2_isNext, zX2_leads, zX2_takeIn, zX3_init, zX3_addMove, zX3_addPlace, zX3_allMade, zX3_allTokens, zX3_allows, zX3_canMake, zX3_carry, zX3_copy, zX3_greatestClosed, zX3_hasMove, zX3_hasPlace, zX3_makeBySeed, zX3_makeOne, zX3_memberAt, zX3_movesAt, zX3_placesOf, zX3_possibleMoves, zX3_sameArcs, zX3_sameMarking, zX3_setArc, zX3_setTokens, zX3_step, zX3_surplus, zX3_tokensIn, zX4_init, zX5_init, zX5_fewestMoves, zX5_find, zX5_follow, zX5_hash, zX5_meet, zX6_init, zX6_allDividedBy, zX6_balance, zX6_canBalance, zX6_find, zX6_hasCoveredPart, zX6_keep, zX6_weigh, zX6_weight, zX6_worth, zX7_init, zX7_add, zX7_endlessPlaces, zX7_find, zX7_follow, zX7_mostTokens, zX7_outgrow, zL_at, zL_behind, zL_bits, zL_can, zL_cell, zL_keeps, zL_kept, zL_low, zL_moves, zL_places, zL_reach, zL_traps, zL_tree, zL_with, zL_would, zJ6_bitCount_0f7a4, zJ7_fill_53178]
def zL_p0 : List (Nat × yO) := [(0, .new 41, 3, 7, 8, 255), (3, .dup, 4, 0, 0, 0), (4, .invokespecial 83, 7, 0, 0, 7), (7, .astore_n 1, 8, 0, 0, 0), (8, .iconst 2, 9, 2, 0, 0), (9, .newarray .int, 11, 0, 0, 0), (11, .astore_n 2, 12, 0, 0, 0), (12, .bipush 16, 14, 16, 0, 0), (14, .newarray .int, 16, 0, 0, 0), (16, .astore_n 3, 17, 0, 0, 0), (17, .iconst 4, 18, 4, 0, 0), (18, .newarray .int, 20, 0, 0, 0), (20, .astore 4, 22, 0, 0, 0), (22, .iconst 4, 23, 4, 0, 0), (23, .newarray .int, 25, 0, 0, 0), (25, .astore 5, 27, 0, 0, 0), (27, .bipush 60, 29, 60, 0, 0), (29, .newarray .long, 31, 3, 0, 0), (31, .astore 6, 33, 0, 0, 0), (33, .bipush 60, 35, 60, 0, 0), (35, .newarray .int, 37, 0, 0, 0), (37, .astore 7, 39, 0, 0, 0), (39, .bipush 60, 41, 60, 0, 0), (41, .newarray .int, 43, 0, 0, 0), (43, .astore 8, 45, 0, 0, 0), (45, .lconst 0, 46, 0, 0, 0), (46, .lstore 9, 48, 0, 0, 0), (48, .iconst 0, 49, 0, 0, 0), (49, .istore 11, 51, 0, 0, 0), (51, .iload 11, 53, 0, 0, 0), (53, .bipush 26, 55, 26, 0, 0), (55, .if_icmp .ge 915, 58, 970, 0, 0), (58, .aload_n 0, 59, 0, 0, 0), (59, .iload 11, 61, 0, 0, 0), (61, .invokestatic 84, 64, 80, 2, 0), (64, .istore 12, 66, 0, 0, 0), (66, .iload 11, 68, 0, 0, 0), (68, .iconst 4, 69, 4, 0, 0), (69, .if_icmp .ge 10, 72, 79, 0, 0), (72, .iload 11, 74, 0, 0, 0), (74, .iconst 2, 75, 2, 0, 0), (75, .irem, 76, 0, 0, 0), (76, .goto 10, 79, 86, 0, 0), (79, .iload 12, 81, 0, 0, 0), (81, .bipush 9, 83, 9, 0, 0), (83, .invokestatic 67, 86, 83, 2, 0), (86, .istore 13, 88, 0, 0, 0), (88, .aload_n 2, 89, 0, 0, 0), (89, .iconst 1, 90, 1, 0, 0), (90, .iaload, 91, 0, 0, 0), (91, .ifCond .ne 7, 94, 98, 0, 0), (94, .iconst 0, 95, 0, 0, 0), (95, .goto 13, 98, 108, 0, 0), (98, .iload 12, 100, 0, 0, 0), (100, .iconst 4, 101, 4, 0, 0), (101, .ishr, 102, 0, 0, 0)]
def zL_p1 : List (Nat × yO) := [(102, .aload_n 2, 103, 0, 0, 0), (103, .iconst 1, 104, 1, 0, 0), (104, .iaload, 105, 0, 0, 0), (105, .invokestatic 67, 108, 83, 2, 0), (108, .istore 14, 110, 0, 0, 0), (110, .aload_n 2, 111, 0, 0, 0), (111, .iconst 0, 112, 0, 0, 0), (112, .iaload, 113, 0, 0, 0), (113, .ifCond .ne 7, 116, 120, 0, 0), (116, .iconst 0, 117, 0, 0, 0), (117, .goto 14, 120, 131, 0, 0), (120, .iload 12, 122, 0, 0, 0), (122, .bipush 6, 124, 6, 0, 0), (124, .ishr, 125, 0, 0, 0), (125, .aload_n 2, 126, 0, 0, 0), (126, .iconst 0, 127, 0, 0, 0), (127, .iaload, 128, 0, 0, 0), (128, .invokestatic 67, 131, 83, 2, 0), (131, .istore 15, 133, 0, 0, 0), (133, .iload 13, 135, 0, 0, 0), (135, .ifCond .ne 62, 138, 197, 0, 0), (138, .aload_n 2, 139, 0, 0, 0), (139, .iconst 0, 140, 0, 0, 0), (140, .iaload, 141, 0, 0, 0), (141, .iconst 4, 142, 4, 0, 0), (142, .if_icmp .ge 55, 145, 197, 0, 0), (145, .iload 12, 147, 0, 0, 0), (147, .iconst 5, 148, 5, 0, 0), (148, .ishr, 149, 0, 0, 0), (149, .iconst 4, 150, 4, 0, 0), (150, .invokestatic 67, 153, 83, 2, 0), (153, .istore 16, 155, 0, 0, 0), (155, .aload_n 1, 156, 0, 0, 0), (156, .iload 16, 158, 0, 0, 0), (158, .invokevirtual 88, 161, 12, 1, 7), (161, .aload_n 2, 162, 0, 0, 0), (162, .iconst 0, 163, 0, 0, 0), (163, .iaload, 164, 0, 0, 0), (164, .if_icmp .eq 5, 167, 169, 0, 0), (167, .iconst 0, 168, 0, 0, 0), (168, .ireturn, 169, 0, 0, 0), (169, .lload 9, 171, 0, 0, 0), (171, .aload_n 2, 172, 0, 0, 0), (172, .iconst 0, 173, 0, 0, 0), (173, .iaload, 174, 0, 0, 0), (174, .iload 16, 176, 0, 0, 0), (176, .invokestatic 20, 179, 89, 3, 0), (179, .lstore 9, 181, 0, 0, 0), (181, .aload 4, 183, 0, 0, 0), (183, .aload_n 2, 184, 0, 0, 0), (184, .iconst 0, 185, 0, 0, 0), (185, .dup2, 186, 0, 0, 0), (186, .iaload, 187, 0, 0, 0), (187, .dup_x2, 188, 0, 0, 0), (188, .iconst 1, 189, 1, 0, 0), (189, .iadd, 190, 0, 0, 0)]
def zL_p2 : List (Nat × yO) := [(190, .iastore, 191, 0, 0, 0), (191, .iload 16, 193, 0, 0, 0), (193, .iastore, 194, 0, 0, 0), (194, .goto 486, 197, 680, 0, 0), (197, .iload 13, 199, 0, 0, 0), (199, .iconst 1, 200, 1, 0, 0), (200, .if_icmp .ne 27, 203, 227, 0, 0), (203, .aload_n 2, 204, 0, 0, 0), (204, .iconst 1, 205, 1, 0, 0), (205, .iaload, 206, 0, 0, 0), (206, .iconst 4, 207, 4, 0, 0), (207, .if_icmp .ge 20, 210, 227, 0, 0), (210, .aload_n 1, 211, 0, 0, 0), (211, .invokevirtual 91, 214, 9, 0, 7), (214, .aload_n 2, 215, 0, 0, 0), (215, .iconst 1, 216, 1, 0, 0), (216, .dup2, 217, 0, 0, 0), (217, .iaload, 218, 0, 0, 0), (218, .dup_x2, 219, 0, 0, 0), (219, .iconst 1, 220, 1, 0, 0), (220, .iadd, 221, 0, 0, 0), (221, .iastore, 222, 0, 0, 0), (222, .if_icmp .eq 458, 225, 680, 0, 0), (225, .iconst 0, 226, 0, 0, 0), (226, .ireturn, 227, 0, 0, 0), (227, .iload 13, 229, 0, 0, 0), (229, .iconst 5, 230, 5, 0, 0), (230, .if_icmp .ge 90, 233, 320, 0, 0), (233, .iload 12, 235, 0, 0, 0), (235, .bipush 8, 237, 8, 0, 0), (237, .ishr, 238, 0, 0, 0), (238, .iconst 4, 239, 4, 0, 0), (239, .invokestatic 67, 242, 83, 2, 0), (242, .istore 16, 244, 0, 0, 0), (244, .iload 12, 246, 0, 0, 0), (246, .bipush 11, 248, 11, 0, 0), (248, .ishr, 249, 0, 0, 0), (249, .iconst 4, 250, 4, 0, 0), (250, .invokestatic 67, 253, 83, 2, 0), (253, .istore 17, 255, 0, 0, 0), (255, .aload_n 1, 256, 0, 0, 0), (256, .iload 14, 258, 0, 0, 0), (258, .iload 15, 260, 0, 0, 0), (260, .iload 16, 262, 0, 0, 0), (262, .iload 17, 264, 0, 0, 0), (264, .invokevirtual 94, 267, 1, 4, 7), (267, .bipush 10, 269, 10, 0, 0), (269, .aload_n 3, 270, 0, 0, 0), (270, .iconst 4, 271, 4, 0, 0), (271, .iload 14, 273, 0, 0, 0), (273, .imul, 274, 0, 0, 0), (274, .iload 15, 276, 0, 0, 0), (276, .iadd, 277, 0, 0, 0), (277, .iaload, 278, 0, 0, 0), (278, .bipush 16, 280, 16, 0, 0), (280, .idiv, 281, 0, 0, 0)]
def zL_p3 : List (Nat × yO) := [(281, .imul, 282, 0, 0, 0), (282, .aload_n 3, 283, 0, 0, 0), (283, .iconst 4, 284, 4, 0, 0), (284, .iload 14, 286, 0, 0, 0), (286, .imul, 287, 0, 0, 0), (287, .iload 15, 289, 0, 0, 0), (289, .iadd, 290, 0, 0, 0), (290, .iaload, 291, 0, 0, 0), (291, .bipush 16, 293, 16, 0, 0), (293, .irem, 294, 0, 0, 0), (294, .iadd, 295, 0, 0, 0), (295, .if_icmp .eq 5, 298, 300, 0, 0), (298, .iconst 0, 299, 0, 0, 0), (299, .ireturn, 300, 0, 0, 0), (300, .aload_n 3, 301, 0, 0, 0), (301, .iconst 4, 302, 4, 0, 0), (302, .iload 14, 304, 0, 0, 0), (304, .imul, 305, 0, 0, 0), (305, .iload 15, 307, 0, 0, 0), (307, .iadd, 308, 0, 0, 0), (308, .bipush 16, 310, 16, 0, 0), (310, .iload 16, 312, 0, 0, 0), (312, .imul, 313, 0, 0, 0), (313, .iload 17, 315, 0, 0, 0), (315, .iadd, 316, 0, 0, 0), (316, .iastore, 317, 0, 0, 0), (317, .goto 363, 320, 680, 0, 0), (320, .iload 13, 322, 0, 0, 0), (322, .iconst 5, 323, 5, 0, 0), (323, .if_icmp .ne 55, 326, 378, 0, 0), (326, .iload 12, 328, 0, 0, 0), (328, .iconst 5, 329, 5, 0, 0), (329, .ishr, 330, 0, 0, 0), (330, .bipush 6, 332, 6, 0, 0), (332, .invokestatic 67, 335, 83, 2, 0), (335, .istore 16, 337, 0, 0, 0), (337, .aload_n 1, 338, 0, 0, 0), (338, .iload 15, 340, 0, 0, 0), (340, .iload 16, 342, 0, 0, 0), (342, .invokevirtual 98, 345, 15, 2, 7), (345, .lload 9, 347, 0, 0, 0), (347, .iload 15, 349, 0, 0, 0), (349, .invokestatic 14, 352, 76, 2, 0), (352, .if_icmp .eq 5, 355, 357, 0, 0), (355, .iconst 0, 356, 0, 0, 0), (356, .ireturn, 357, 0, 0, 0), (357, .lload 9, 359, 0, 0, 0), (359, .iload 15, 361, 0, 0, 0), (361, .iload 16, 363, 0, 0, 0), (363, .invokestatic 20, 366, 89, 3, 0), (366, .lstore 9, 368, 0, 0, 0), (368, .aload 4, 370, 0, 0, 0), (370, .iload 15, 372, 0, 0, 0), (372, .iload 16, 374, 0, 0, 0), (374, .iastore, 375, 0, 0, 0), (375, .goto 305, 378, 680, 0, 0)]
def zL_p4 : List (Nat × yO) := [(378, .iload 13, 380, 0, 0, 0), (380, .bipush 6, 382, 6, 0, 0), (382, .if_icmp .ne 7, 385, 389, 0, 0), (385, .iconst 1, 386, 1, 0, 0), (386, .goto 15, 389, 401, 0, 0), (389, .iconst 1, 390, 1, 0, 0), (390, .iload 12, 392, 0, 0, 0), (392, .bipush 9, 394, 9, 0, 0), (394, .ishr, 395, 0, 0, 0), (395, .bipush 6, 397, 6, 0, 0), (397, .invokestatic 67, 400, 83, 2, 0), (400, .iadd, 401, 0, 0, 0), (401, .istore 16, 403, 0, 0, 0), (403, .iload 12, 405, 0, 0, 0), (405, .ldc 9, 407, 2147483647, 0, 0), (407, .iand, 408, 0, 0, 0), (408, .i2l, 409, 0, 0, 0), (409, .lstore 17, 411, 0, 0, 0), (411, .iconst 0, 412, 0, 0, 0), (412, .istore 19, 414, 0, 0, 0), (414, .iconst 0, 415, 0, 0, 0), (415, .istore 20, 417, 0, 0, 0), (417, .iload 20, 419, 0, 0, 0), (419, .iload 16, 421, 0, 0, 0), (421, .if_icmp .ge 191, 424, 612, 0, 0), (424, .lload 9, 426, 0, 0, 0), (426, .aload_n 2, 427, 0, 0, 0), (427, .aload_n 3, 428, 0, 0, 0), (428, .invokestatic 60, 431, 84, 3, 0), (431, .istore 21, 433, 0, 0, 0), (433, .iload 13, 435, 0, 0, 0), (435, .bipush 6, 437, 6, 0, 0), (437, .if_icmp .ne 16, 440, 453, 0, 0), (440, .iload 21, 442, 0, 0, 0), (442, .iload 14, 444, 0, 0, 0), (444, .ishr, 445, 0, 0, 0), (445, .iconst 1, 446, 1, 0, 0), (446, .iand, 447, 0, 0, 0), (447, .ifCond .ne 14, 450, 461, 0, 0), (450, .goto 162, 453, 612, 0, 0), (453, .iload 21, 455, 0, 0, 0), (455, .ifCond .ne 6, 458, 461, 0, 0), (458, .goto 154, 461, 612, 0, 0), (461, .iload 14, 463, 0, 0, 0), (463, .istore 22, 465, 0, 0, 0), (465, .iload 13, 467, 0, 0, 0), (467, .bipush 6, 469, 6, 0, 0), (469, .if_icmp .le 62, 472, 531, 0, 0), (472, .lload 17, 474, 0, 0, 0), (474, .ldc2_w 101, 477, 1103515245, 0, 0), (477, .lmul, 478, 0, 0, 0), (478, .ldc2_w 103, 481, 12345, 0, 0), (481, .ladd, 482, 0, 0, 0), (482, .ldc2_w 105, 485, 2147483648, 0, 0), (485, .lrem, 486, 0, 0, 0), (486, .lstore 17, 488, 0, 0, 0)]
def zL_p5 : List (Nat × yO) := [(488, .lload 17, 490, 0, 0, 0), (490, .ldc2_w 107, 493, 65536, 0, 0), (493, .ldiv, 494, 0, 0, 0), (494, .iload 21, 496, 0, 0, 0), (496, .invokestatic 50, 499, 78, 1, 0), (499, .i2l, 500, 0, 0, 0), (500, .lrem, 501, 0, 0, 0), (501, .l2i, 502, 0, 0, 0), (502, .istore 23, 504, 0, 0, 0), (504, .iconst 0, 505, 0, 0, 0), (505, .istore 22, 507, 0, 0, 0), (507, .iload 21, 509, 0, 0, 0), (509, .iload 22, 511, 0, 0, 0), (511, .ishr, 512, 0, 0, 0), (512, .iconst 1, 513, 1, 0, 0), (513, .iand, 514, 0, 0, 0), (514, .ifCond .eq 11, 517, 525, 0, 0), (517, .iload 23, 519, 0, 0, 0), (519, .iinc 23 (-1), 522, 4294967295, 0, 0), (522, .ifCond .le 9, 525, 531, 0, 0), (525, .iinc 22 1, 528, 1, 0, 0), (528, .goto (-21), 531, 507, 0, 0), (531, .lload 9, 533, 0, 0, 0), (533, .iload 22, 535, 0, 0, 0), (535, .aload_n 2, 536, 0, 0, 0), (536, .aload_n 3, 537, 0, 0, 0), (537, .invokestatic 28, 540, 77, 4, 0), (540, .lstore 9, 542, 0, 0, 0), (542, .aload 5, 544, 0, 0, 0), (544, .iload 22, 546, 0, 0, 0), (546, .dup2, 547, 0, 0, 0), (547, .iaload, 548, 0, 0, 0), (548, .iconst 1, 549, 1, 0, 0), (549, .iadd, 550, 0, 0, 0), (550, .iastore, 551, 0, 0, 0), (551, .iinc 19 1, 554, 1, 0, 0), (554, .iconst 0, 555, 0, 0, 0), (555, .istore 23, 557, 0, 0, 0), (557, .iload 23, 559, 0, 0, 0), (559, .aload_n 2, 560, 0, 0, 0), (560, .iconst 0, 561, 0, 0, 0), (561, .iaload, 562, 0, 0, 0), (562, .if_icmp .ge 44, 565, 606, 0, 0), (565, .aload 4, 567, 0, 0, 0), (567, .iload 23, 569, 0, 0, 0), (569, .lload 9, 571, 0, 0, 0), (571, .iload 23, 573, 0, 0, 0), (573, .invokestatic 14, 576, 76, 2, 0), (576, .aload 4, 578, 0, 0, 0), (578, .iload 23, 580, 0, 0, 0), (580, .iaload, 581, 0, 0, 0), (581, .if_icmp .le 13, 584, 594, 0, 0), (584, .lload 9, 586, 0, 0, 0), (586, .iload 23, 588, 0, 0, 0), (588, .invokestatic 14, 591, 76, 2, 0), (591, .goto 8, 594, 599, 0, 0)]
def zL_p6 : List (Nat × yO) := [(594, .aload 4, 596, 0, 0, 0), (596, .iload 23, 598, 0, 0, 0), (598, .iaload, 599, 0, 0, 0), (599, .iastore, 600, 0, 0, 0), (600, .iinc 23 1, 603, 1, 0, 0), (603, .goto (-46), 606, 557, 0, 0), (606, .iinc 20 1, 609, 1, 0, 0), (609, .goto (-192), 612, 417, 0, 0), (612, .iload 13, 614, 0, 0, 0), (614, .bipush 6, 616, 6, 0, 0), (616, .if_icmp .ne 12, 619, 628, 0, 0), (619, .aload_n 1, 620, 0, 0, 0), (620, .iload 14, 622, 0, 0, 0), (622, .invokevirtual 109, 625, 8, 1, 7), (625, .goto 14, 628, 639, 0, 0), (628, .aload_n 1, 629, 0, 0, 0), (629, .iload 12, 631, 0, 0, 0), (631, .ldc 9, 633, 2147483647, 0, 0), (633, .iand, 634, 0, 0, 0), (634, .iload 16, 636, 0, 0, 0), (636, .invokevirtual 112, 639, 14, 2, 7), (639, .istore 20, 641, 0, 0, 0), (641, .iload 20, 643, 0, 0, 0), (643, .iload 13, 645, 0, 0, 0), (645, .bipush 6, 647, 6, 0, 0), (647, .if_icmp .le 8, 650, 655, 0, 0), (650, .iload 19, 652, 0, 0, 0), (652, .goto 23, 655, 675, 0, 0), (655, .iload 19, 657, 0, 0, 0), (657, .ifCond .ne 8, 660, 665, 0, 0), (660, .bipush (-5), 662, 4294967291, 0, 0), (662, .goto 13, 665, 675, 0, 0), (665, .lload 9, 667, 0, 0, 0), (667, .aload_n 2, 668, 0, 0, 0), (668, .aload_n 3, 669, 0, 0, 0), (669, .invokestatic 60, 672, 84, 3, 0), (672, .invokestatic 50, 675, 78, 1, 0), (675, .if_icmp .eq 5, 678, 680, 0, 0), (678, .iconst 0, 679, 0, 0, 0), (679, .ireturn, 680, 0, 0, 0), (680, .iconst 0, 681, 0, 0, 0), (681, .istore 16, 683, 0, 0, 0), (683, .iconst 0, 684, 0, 0, 0), (684, .istore 17, 686, 0, 0, 0), (686, .iconst 0, 687, 0, 0, 0), (687, .istore 18, 689, 0, 0, 0), (689, .iload 18, 691, 0, 0, 0), (691, .aload_n 2, 692, 0, 0, 0), (692, .iconst 0, 693, 0, 0, 0), (693, .iaload, 694, 0, 0, 0), (694, .if_icmp .ge 55, 697, 749, 0, 0), (697, .iload 16, 699, 0, 0, 0), (699, .lload 9, 701, 0, 0, 0), (701, .iload 18, 703, 0, 0, 0), (703, .invokestatic 14, 706, 76, 2, 0), (706, .iadd, 707, 0, 0, 0)]
def zL_p7 : List (Nat × yO) := [(707, .istore 16, 709, 0, 0, 0), (709, .aload_n 1, 710, 0, 0, 0), (710, .iload 18, 712, 0, 0, 0), (712, .iconst 0, 713, 0, 0, 0), (713, .invokevirtual 115, 716, 11, 2, 7), (716, .lload 9, 718, 0, 0, 0), (718, .iload 18, 720, 0, 0, 0), (720, .invokestatic 14, 723, 76, 2, 0), (723, .if_icmp .ne 18, 726, 741, 0, 0), (726, .aload_n 1, 727, 0, 0, 0), (727, .iload 18, 729, 0, 0, 0), (729, .iconst 3, 730, 3, 0, 0), (730, .invokevirtual 115, 733, 11, 2, 7), (733, .aload 4, 735, 0, 0, 0), (735, .iload 18, 737, 0, 0, 0), (737, .iaload, 738, 0, 0, 0), (738, .if_icmp .eq 5, 741, 743, 0, 0), (741, .iconst 0, 742, 0, 0, 0), (742, .ireturn, 743, 0, 0, 0), (743, .iinc 18 1, 746, 1, 0, 0), (746, .goto (-57), 749, 689, 0, 0), (749, .iconst 0, 750, 0, 0, 0), (750, .istore 18, 752, 0, 0, 0), (752, .iload 18, 754, 0, 0, 0), (754, .aload_n 2, 755, 0, 0, 0), (755, .iconst 1, 756, 1, 0, 0), (756, .iaload, 757, 0, 0, 0), (757, .if_icmp .ge 58, 760, 815, 0, 0), (760, .iload 17, 762, 0, 0, 0), (762, .aload 5, 764, 0, 0, 0), (764, .iload 18, 766, 0, 0, 0), (766, .iaload, 767, 0, 0, 0), (767, .iadd, 768, 0, 0, 0), (768, .istore 17, 770, 0, 0, 0), (770, .aload_n 1, 771, 0, 0, 0), (771, .iload 18, 773, 0, 0, 0), (773, .iconst 1, 774, 1, 0, 0), (774, .invokevirtual 118, 777, 10, 2, 7), (777, .aload 5, 779, 0, 0, 0), (779, .iload 18, 781, 0, 0, 0), (781, .iaload, 782, 0, 0, 0), (782, .if_icmp .ne 25, 785, 807, 0, 0), (785, .aload_n 1, 786, 0, 0, 0), (786, .iload 18, 788, 0, 0, 0), (788, .iconst 0, 789, 0, 0, 0), (789, .invokevirtual 118, 792, 10, 2, 7), (792, .lload 9, 794, 0, 0, 0), (794, .aload_n 2, 795, 0, 0, 0), (795, .aload_n 3, 796, 0, 0, 0), (796, .invokestatic 60, 799, 84, 3, 0), (799, .iload 18, 801, 0, 0, 0), (801, .ishr, 802, 0, 0, 0), (802, .iconst 1, 803, 1, 0, 0), (803, .iand, 804, 0, 0, 0), (804, .if_icmp .eq 5, 807, 809, 0, 0), (807, .iconst 0, 808, 0, 0, 0)]
def zL_p8 : List (Nat × yO) := [(808, .ireturn, 809, 0, 0, 0), (809, .iinc 18 1, 812, 1, 0, 0), (812, .goto (-60), 815, 752, 0, 0), (815, .aload_n 1, 816, 0, 0, 0), (816, .iconst 0, 817, 0, 0, 0), (817, .invokevirtual 121, 820, 3, 1, 7), (820, .aload_n 2, 821, 0, 0, 0), (821, .iconst 0, 822, 0, 0, 0), (822, .iaload, 823, 0, 0, 0), (823, .if_icmp .ne 49, 826, 872, 0, 0), (826, .aload_n 1, 827, 0, 0, 0), (827, .iconst 1, 828, 1, 0, 0), (828, .invokevirtual 121, 831, 3, 1, 7), (831, .aload_n 2, 832, 0, 0, 0), (832, .iconst 1, 833, 1, 0, 0), (833, .iaload, 834, 0, 0, 0), (834, .if_icmp .ne 38, 837, 872, 0, 0), (837, .aload_n 1, 838, 0, 0, 0), (838, .iconst 2, 839, 2, 0, 0), (839, .invokevirtual 121, 842, 3, 1, 7), (842, .iload 16, 844, 0, 0, 0), (844, .if_icmp .ne 28, 847, 872, 0, 0), (847, .aload_n 1, 848, 0, 0, 0), (848, .iconst 3, 849, 3, 0, 0), (849, .invokevirtual 121, 852, 3, 1, 7), (852, .lload 9, 854, 0, 0, 0), (854, .aload_n 2, 855, 0, 0, 0), (855, .aload_n 3, 856, 0, 0, 0), (856, .invokestatic 60, 859, 84, 3, 0), (859, .if_icmp .ne 13, 862, 872, 0, 0), (862, .aload_n 1, 863, 0, 0, 0), (863, .iconst 4, 864, 4, 0, 0), (864, .invokevirtual 121, 867, 3, 1, 7), (867, .iload 17, 869, 0, 0, 0), (869, .if_icmp .eq 5, 872, 874, 0, 0), (872, .iconst 0, 873, 0, 0, 0), (873, .ireturn, 874, 0, 0, 0), (874, .aload_n 2, 875, 0, 0, 0), (875, .iconst 0, 876, 0, 0, 0), (876, .iaload, 877, 0, 0, 0), (877, .ifCond .le 52, 880, 929, 0, 0), (880, .iload 12, 882, 0, 0, 0), (882, .bipush 13, 884, 13, 0, 0), (884, .ishr, 885, 0, 0, 0), (885, .iconst 3, 886, 3, 0, 0), (886, .invokestatic 67, 889, 83, 2, 0), (889, .ifCond .ne 40, 892, 929, 0, 0), (892, .aload_n 1, 893, 0, 0, 0), (893, .lload 9, 895, 0, 0, 0), (895, .aload_n 2, 896, 0, 0, 0), (896, .aload_n 3, 897, 0, 0, 0), (897, .invokestatic 124, 900, 82, 4, 0), (900, .ifCond .eq 27, 903, 927, 0, 0), (903, .aload_n 1, 904, 0, 0, 0), (904, .iload 12, 906, 0, 0, 0), (906, .bipush 7, 908, 7, 0, 0)]
def zL_p9 : List (Nat × yO) := [(908, .ishr, 909, 0, 0, 0), (909, .iconst 1, 910, 1, 0, 0), (910, .aload_n 2, 911, 0, 0, 0), (911, .iconst 0, 912, 0, 0, 0), (912, .iaload, 913, 0, 0, 0), (913, .ishl, 914, 0, 0, 0), (914, .invokestatic 67, 917, 83, 2, 0), (917, .lload 9, 919, 0, 0, 0), (919, .aload_n 2, 920, 0, 0, 0), (920, .aload_n 3, 921, 0, 0, 0), (921, .invokestatic 127, 924, 87, 5, 0), (924, .ifCond .ne 5, 927, 929, 0, 0), (927, .iconst 0, 928, 0, 0, 0), (928, .ireturn, 929, 0, 0, 0), (929, .iload 12, 931, 0, 0, 0), (931, .bipush 15, 933, 15, 0, 0), (933, .ishr, 934, 0, 0, 0), (934, .iconst 3, 935, 3, 0, 0), (935, .invokestatic 67, 938, 83, 2, 0), (938, .ifCond .ne 26, 941, 964, 0, 0), (941, .aload_n 1, 942, 0, 0, 0), (942, .iload 12, 944, 0, 0, 0), (944, .iconst 3, 945, 3, 0, 0), (945, .ishr, 946, 0, 0, 0), (946, .lload 9, 948, 0, 0, 0), (948, .aload_n 2, 949, 0, 0, 0), (949, .aload_n 3, 950, 0, 0, 0), (950, .aload 6, 952, 0, 0, 0), (952, .aload 7, 954, 0, 0, 0), (954, .aload 8, 956, 0, 0, 0), (956, .invokestatic 131, 959, 90, 8, 0), (959, .ifCond .ne 5, 962, 964, 0, 0), (962, .iconst 0, 963, 0, 0, 0), (963, .ireturn, 964, 0, 0, 0), (964, .iinc 11 1, 967, 1, 0, 0), (967, .goto (-916), 970, 51, 0, 0), (970, .iconst 1, 971, 1, 0, 0), (971, .ireturn, 972, 0, 0, 0)]
def zL_law : yE := (yL_law, cL_law, 24, some .boolean, zL_p0 ++ (zL_p1 ++ (zL_p2 ++ (zL_p3 ++ (zL_p4 ++ (zL_p5 ++ (zL_p6 ++ (zL_p7 ++ (zL_p8 ++ (zL_p9))))))))))
end
section
/-! the same check with each method's own list of words, told by their places in the tables: cheaper to compute -/
def x_fl (M : Cond → Bool) (own : String) (idx r1 r2 : Nat) : Bool := match vwCl[r1]? with
  | none => false
  | some r => decide (r2 < r.2.2) && M (Cond.fieldLink own idx (r.2.1 r2).1 (r.2.1 r2).2.1 (r.2.1 r2).2.2.1)
def x_nw (M : Cond → Bool) (own : String) (idx r1 r2 r3 : Nat) : Bool := match vwCl[r1]? with
  | none => false
  | some r => decide (r.2.2 = r2) && (M (Cond.classLink own idx r.1) && (M (Cond.instantiable r.1 r2) && (M (Cond.initialized r.1) && (List.range r2).all (fun k => y_dk (Nat.testBit r3 k) (parseFieldDescriptor (r.2.1 k).2.2.1)))))
def x_an (M : Cond → Bool) (own : String) (idx r1 : Nat) : Bool := match vwCl[r1]? with
  | none => false
  | some r => decide (r.1 = RX3) && M (Cond.classLink own idx r.1)
def x_okin (M : Cond → Bool) (nL : Nat) (own yn : String) (pc : Nat) (o : yO) : Bool := match o.1 with
  | .ldc k => decide (o.2.1 = pc + 2) && M (Cond.constant own k (nI o.2.2.1))
  | .ldc_w k => decide (o.2.1 = pc + 3) && M (Cond.constant own k (nI o.2.2.1))
  | .ldc2_w k => decide (o.2.1 = pc + 3) && M (Cond.constantLong own k (lN o.2.2.1))
  | .getfield k => decide (o.2.1 = pc + 3) && x_fl M own k o.2.2.1 o.2.2.2.1
  | .putfield k => decide (o.2.1 = pc + 3) && (x_fl M own k o.2.2.1 o.2.2.2.1 && y_pf own yn o.2.2.1 o.2.2.2.1 o.2.2.2.2)
  | .new k => decide (o.2.1 = pc + 3) && x_nw M own k o.2.2.1 o.2.2.2.1 o.2.2.2.2
  | .newarray .int => decide (o.2.1 = pc + 2) && (decide (o.2.2.1 = 0) && M (Cond.arrayClass .int))
  | .newarray .boolean => decide (o.2.1 = pc + 2) && (decide (o.2.2.1 = 1) && M (Cond.arrayClass .boolean))
  | .newarray .char => decide (o.2.1 = pc + 2) && (decide (o.2.2.1 = 2) && M (Cond.arrayClass .char))
  | .newarray .long => decide (o.2.1 = pc + 2) && (decide (o.2.2.1 = 3) && M (Cond.arrayClass .long))
  | .anewarray k => decide (o.2.1 = pc + 3) && x_an M own k o.2.2.1
  | .invokespecial k => decide (o.2.1 = pc + 3) && (!(Nat.beq o.2.2.2.2 99) || (M (Cond.methodLink own k objectInit) && (M (Cond.instanceMethod objectInit) && M (Cond.code objectInit ⟨#[0xb1]⟩ 1 none))))
  | .invokestatic k => decide (o.2.1 = pc + 3) && ((!(Nat.beq o.2.2.2.2 98) || (M (Cond.methodLink own k arraycopyName) && (M (Cond.native arraycopyName) && (M (Cond.static arraycopyName) && M (Cond.initialized "java/lang/System"))))) && ((!(Nat.beq o.2.2.2.2 96) || (M (Cond.methodLink own k Lib.Math.max.name) && (M (Cond.static Lib.Math.max.name) && (M (Cond.initialized "java/lang/Math") && M (Cond.code Lib.Math.max.name Lib.Math.max.code 2 (some .int)))))) && (!(Nat.beq o.2.2.2.2 97) || (M (Cond.methodLink own k Lib.Math.min.name) && (M (Cond.static Lib.Math.min.name) && (M (Cond.initialized "java/lang/Math") && M (Cond.code Lib.Math.min.name Lib.Math.min.code 2 (some .int))))))))
  | _ => y_okin nL own yn pc o
theorem x_fl_ok {M : Cond → Bool} (hM : ∀ w, M w = true → yM w = true) {own : String} {idx r1 r2 : Nat} (h : x_fl M own idx r1 r2 = true) : y_fl own idx r1 r2 = true := by
  unfold x_fl at h
  unfold y_fl
  cases hr : vwCl[r1]? with
  | none => rw [hr] at h; cases h
  | some r =>
    rw [hr] at h
    simp only [Bool.and_eq_true] at h ⊢
    exact ⟨h.1, hM _ h.2⟩
theorem x_nw_ok {M : Cond → Bool} (hM : ∀ w, M w = true → yM w = true) {own : String} {idx r1 r2 r3 : Nat} (h : x_nw M own idx r1 r2 r3 = true) : y_nw own idx r1 r2 r3 = true := by
  unfold x_nw at h
  unfold y_nw
  cases hr : vwCl[r1]? with
  | none => rw [hr] at h; cases h
  | some r =>
    rw [hr] at h
    simp only [Bool.and_eq_true] at h ⊢
    exact ⟨h.1, hM _ h.2.1, hM _ h.2.2.1, hM _ h.2.2.2.1, h.2.2.2.2⟩
theorem x_an_ok {M : Cond → Bool} (hM : ∀ w, M w = true → yM w = true) {own : String} {idx r1 : Nat} (h : x_an M own idx r1 = true) : y_an own idx r1 = true := by
  unfold x_an at h
  unfold y_an
  cases hr : vwCl[r1]? with
  | none => rw [hr] at h; cases h
  | some r =>
    rw [hr] at h
    simp only [Bool.and_eq_true] at h ⊢
    exact ⟨h.1, hM _ h.2⟩
theorem x_or4 {M : Cond → Bool} (hM : ∀ w, M w = true → yM w = true) {z : Bool} {a b c d : Cond} (h : (z || (M a && (M b && (M c && M d)))) = true) : (z || (yM a && (yM b && (yM c && yM d)))) = true := by
  rcases Bool.or_eq_true_iff.mp h with h3 | h3
  · exact Bool.or_eq_true_iff.mpr (Or.inl h3)
  · have h4 := Bool.and_eq_true_iff.mp h3
    have h5 := Bool.and_eq_true_iff.mp h4.2
    have h6 := Bool.and_eq_true_iff.mp h5.2
    exact Bool.or_eq_true_iff.mpr (Or.inr (Bool.and_eq_true_iff.mpr ⟨hM _ h4.1, Bool.and_eq_true_iff.mpr ⟨hM _ h5.1, Bool.and_eq_true_iff.mpr ⟨hM _ h6.1, hM _ h6.2⟩⟩⟩))
theorem x_okin_ok {M : Cond → Bool} (hM : ∀ w, M w = true → yM w = true) {nL : Nat} {own yn : String} {pc : Nat} {o : yO} (h : x_okin M nL own yn pc o = true) : y_okin nL own yn pc o = true := by
  obtain ⟨ins, nx, r1, r2, r3⟩ := o
  cases ins with
  | ldc k => exact Bool.and_eq_true_iff.mpr ⟨(Bool.and_eq_true_iff.mp h).1, hM _ (Bool.and_eq_true_iff.mp h).2⟩
  | ldc_w k => exact Bool.and_eq_true_iff.mpr ⟨(Bool.and_eq_true_iff.mp h).1, hM _ (Bool.and_eq_true_iff.mp h).2⟩
  | ldc2_w k => exact Bool.and_eq_true_iff.mpr ⟨(Bool.and_eq_true_iff.mp h).1, hM _ (Bool.and_eq_true_iff.mp h).2⟩
  | getfield k => exact Bool.and_eq_true_iff.mpr ⟨(Bool.and_eq_true_iff.mp h).1, x_fl_ok hM (Bool.and_eq_true_iff.mp h).2⟩
  | putfield k =>
    have h2 := Bool.and_eq_true_iff.mp (Bool.and_eq_true_iff.mp h).2
    exact Bool.and_eq_true_iff.mpr ⟨(Bool.and_eq_true_iff.mp h).1, Bool.and_eq_true_iff.mpr ⟨x_fl_ok hM h2.1, h2.2⟩⟩
  | new k => exact Bool.and_eq_true_iff.mpr ⟨(Bool.and_eq_true_iff.mp h).1, x_nw_ok hM (Bool.and_eq_true_iff.mp h).2⟩
  | newarray ty =>
    cases ty with
    | int =>
      have h2 := Bool.and_eq_true_iff.mp (Bool.and_eq_true_iff.mp h).2
      exact Bool.and_eq_true_iff.mpr ⟨(Bool.and_eq_true_iff.mp h).1, Bool.and_eq_true_iff.mpr ⟨h2.1, hM _ h2.2⟩⟩
    | boolean =>
      have h2 := Bool.and_eq_true_iff.mp (Bool.and_eq_true_iff.mp h).2
      exact Bool.and_eq_true_iff.mpr ⟨(Bool.and_eq_true_iff.mp h).1, Bool.and_eq_true_iff.mpr ⟨h2.1, hM _ h2.2⟩⟩
    | char =>
      have h2 := Bool.and_eq_true_iff.mp (Bool.and_eq_true_iff.mp h).2
      exact Bool.and_eq_true_iff.mpr ⟨(Bool.and_eq_true_iff.mp h).1, Bool.and_eq_true_iff.mpr ⟨h2.1, hM _ h2.2⟩⟩
    | long =>
      have h2 := Bool.and_eq_true_iff.mp (Bool.and_eq_true_iff.mp h).2
      exact Bool.and_eq_true_iff.mpr ⟨(Bool.and_eq_true_iff.mp h).1, Bool.and_eq_true_iff.mpr ⟨h2.1, hM _ h2.2⟩⟩
    | _ => exact h
  | anewarray k => exact Bool.and_eq_true_iff.mpr ⟨(Bool.and_eq_true_iff.mp h).1, x_an_ok hM (Bool.and_eq_true_iff.mp h).2⟩
  | invokespecial k =>
    have h2 := Bool.and_eq_true_iff.mp h
    refine Bool.and_eq_true_iff.mpr ⟨h2.1, ?_⟩
    rcases Bool.or_eq_true_iff.mp h2.2 with h3 | h3
    · exact Bool.or_eq_true_iff.mpr (Or.inl h3)
    · have h4 := Bool.and_eq_true_iff.mp h3
      have h5 := Bool.and_eq_true_iff.mp h4.2
      exact Bool.or_eq_true_iff.mpr (Or.inr (Bool.and_eq_true_iff.mpr ⟨hM _ h4.1, Bool.and_eq_true_iff.mpr ⟨hM _ h5.1, hM _ h5.2⟩⟩))
  | invokestatic k =>
    have h2 := Bool.and_eq_true_iff.mp h
    have k2 := Bool.and_eq_true_iff.mp h2.2
    have k3 := Bool.and_eq_true_iff.mp k2.2
    exact Bool.and_eq_true_iff.mpr ⟨h2.1, Bool.and_eq_true_iff.mpr ⟨x_or4 hM k2.1, Bool.and_eq_true_iff.mpr ⟨x_or4 hM k3.1, x_or4 hM k3.2⟩⟩⟩
  | _ => exact h
def x_okc (M : Cond → Bool) (mt : List yE) (own : String) (o : yO) : Bool := match o.1 with
  | .invokevirtual i => match mt[o.2.2.1]? with
    | none => false
    | some e' => M (.methodLink own i e'.1) && (M (.instanceMethod e'.1) && (M (.selects e'.1.cls e'.1 e'.1) && (M (.initialized e'.1.cls) && (decide ((parseMethodDescriptor e'.1.desc).map (fun d => d.parameters.length) = some o.2.2.2.1) && (match vwCl[o.2.2.2.2]? with
      | none => false
      | some r => decide (r.1 = e'.1.cls))))))
  | .invokestatic i => bif y_nat o.2.2.2.2 then true else match mt[o.2.2.1]? with
    | none => false
    | some e' => M (.methodLink own i e'.1) && (M (.static e'.1) && (M (.initialized e'.1.cls) && decide ((parseMethodDescriptor e'.1.desc).map (fun d => d.parameters.length) = some o.2.2.2.1)))
  | .invokespecial i => bif Nat.beq o.2.2.2.2 99 then true else match mt[o.2.2.1]? with
    | none => false
    | some e' => (M (.methodLink own i e'.1) || zN.any (fun q => decide (q.1 = own ∧ q.2.1 = i ∧ q.2.2.1 = e'.1))) && (M (.instanceMethod e'.1) && (decide (e'.1.name = "<init>") && (decide (e'.2.2.2.1 = none) && (M (.initialized e'.1.cls) && decide ((parseMethodDescriptor e'.1.desc).map (fun d => d.parameters.length) = some o.2.2.2.1)))))
  | _ => true
theorem x_okc_ok {M : Cond → Bool} (hM : ∀ w, M w = true → yM w = true) {mt : List yE} {own : String} {o : yO} (h : x_okc M mt own o = true) : y_okc mt own o = true := by
  obtain ⟨ins, nx, r1, r2, r3⟩ := o
  cases ins with
  | invokevirtual i =>
    unfold x_okc at h
    unfold y_okc
    dsimp only at h ⊢
    cases hm : mt[r1]? with
    | none => rw [hm] at h; cases h
    | some e' =>
      rw [hm] at h
      simp only [Bool.and_eq_true] at h ⊢
      obtain ⟨a, b, c, d, e⟩ := h
      exact ⟨hM _ a, hM _ b, hM _ c, hM _ d, e⟩
  | invokestatic i =>
    unfold x_okc at h
    unfold y_okc
    dsimp only at h ⊢
    cases hb : y_nat r3 with
    | true => rfl
    | false =>
      rw [hb] at h
      cases hm : mt[r1]? with
      | none => rw [hm] at h; cases h
      | some e' =>
        rw [hm] at h
        simp only [cond_false, Bool.and_eq_true] at h ⊢
        obtain ⟨a, b, c, d⟩ := h
        exact ⟨hM _ a, hM _ b, hM _ c, d⟩
  | invokespecial i =>
    unfold x_okc at h
    unfold y_okc
    dsimp only at h ⊢
    cases hb : Nat.beq r3 99 with
    | true => rfl
    | false =>
      rw [hb] at h
      cases hm : mt[r1]? with
      | none => rw [hm] at h; cases h
      | some e' =>
        rw [hm] at h
        simp only [cond_false, Bool.and_eq_true] at h ⊢
        obtain ⟨a, b, c, d, e, f⟩ := h
        refine ⟨?_, hM _ b, c, d, hM _ e, f⟩
        rcases Bool.or_eq_true_iff.mp a with a | a
        · exact Bool.or_eq_true_iff.mpr (Or.inl (hM _ a))
        · exact Bool.or_eq_true_iff.mpr (Or.inr a)
  | _ => exact h
def x_okb (M : Cond → Bool) (mt : List yE) (e : yE) : Bool := e.2.2.2.2.all (fun q => (decide (decode e.2.1 q.1 = .ok (q.2.1, q.2.2.1 - q.1)) && x_okin M e.2.2.1 e.1.cls e.1.name q.1 q.2) && x_okc M mt e.1.cls q.2)
def x_ok (M : Cond → Bool) (mt : List yE) (e : yE) : Bool := M (.code e.1 e.2.1 e.2.2.1 e.2.2.2.1) && (plainName e.1.cls && (decide (e.1.cls ≠ "java/lang/invoke/MethodHandle" ∧ e.1.cls ≠ "java/lang/invoke/VarHandle") && (Nat.ble e.2.2.1 40 && x_okb M mt e)))
theorem x_okb_ok {M : Cond → Bool} (hM : ∀ w, M w = true → yM w = true) {mt : List yE} {e : yE} (h : x_okb M mt e = true) : y_okb mt e = true := by
  unfold x_okb at h
  unfold y_okb
  refine List.all_eq_true.mpr (fun q hq => ?_)
  have h1 := List.all_eq_true.mp h q hq
  simp only [Bool.and_eq_true] at h1 ⊢
  refine ⟨?_, x_okc_ok hM h1.2⟩
  unfold y_okop
  exact Bool.and_eq_true_iff.mpr ⟨h1.1.1, x_okin_ok hM h1.1.2⟩
theorem x_ok_ok {M : Cond → Bool} (hM : ∀ w, M w = true → yM w = true) {mt : List yE} {e : yE} (h : x_ok M mt e = true) : y_ok mt e = true := by
  unfold x_ok at h
  unfold y_ok
  simp only [Bool.and_eq_true] at h ⊢
  exact ⟨hM _ h.1, h.2.1, h.2.2.1, h.2.2.2.1, x_okb_ok hM h.2.2.2.2⟩
def x_M (wl : List (Nat × Cond)) (w : Cond) : Bool := wl.any (fun q => decide (q.2 = w))
def x_wl (wl : List (Nat × Cond)) : Bool := wl.all (fun q => decide (lw_tbl[q.1]? = some q.2) && goodWord q.2)
theorem x_M_ok {wl : List (Nat × Cond)} (h : x_wl wl = true) : ∀ w, x_M wl w = true → yM w = true := by
  intro w hw
  obtain ⟨q, hq, he⟩ := List.any_eq_true.mp hw
  have e := of_decide_eq_true he
  have h1 := List.all_eq_true.mp h q hq
  simp only [Bool.and_eq_true, decide_eq_true_eq] at h1
  rw [← e]
  unfold yM
  simp only [Bool.and_eq_true, decide_eq_true_eq]
  exact ⟨List.mem_of_getElem? h1.1, h1.2⟩
theorem x_use {wl : List (Nat × Cond)} {mt : List yE} {e : yE} (h : (x_wl wl && x_ok (x_M wl) mt e) = true) : y_ok mt e = true := x_ok_ok (x_M_ok (Bool.and_eq_true_iff.mp h).1) (Bool.and_eq_true_iff.mp h).2
theorem x_useb {wl : List (Nat × Cond)} {mt : List yE} {e : yE} (h : (x_wl wl && x_okb (x_M wl) mt e) = true) : y_okb mt e = true := x_okb_ok (x_M_ok (Bool.and_eq_true_iff.mp h).1) (Bool.and_eq_true_iff.mp h).2
def x_ch (M : Cond → Bool) (mt : List yE) (e : yE) (ps : List (Nat × yO)) : Bool := ps.all (fun q => (decide (decode e.2.1 q.1 = .ok (q.2.1, q.2.2.1 - q.1)) && x_okin M e.2.2.1 e.1.cls e.1.name q.1 q.2) && x_okc M mt e.1.cls q.2)
def y_ch (mt : List yE) (e : yE) (ps : List (Nat × yO)) : Bool := ps.all (fun q => y_okop e.2.2.1 e.1.cls e.1.name e.2.1 q && y_okc mt e.1.cls q.2)
theorem x_usec {wl : List (Nat × Cond)} {mt : List yE} {e : yE} {ps : List (Nat × yO)} (h : (x_wl wl && x_ch (x_M wl) mt e ps) = true) : y_ch mt e ps = true := by
  have hM := x_M_ok (Bool.and_eq_true_iff.mp h).1
  refine List.all_eq_true.mpr (fun q hq => ?_)
  have h1 := List.all_eq_true.mp (Bool.and_eq_true_iff.mp h).2 q hq
  simp only [Bool.and_eq_true] at h1 ⊢
  refine ⟨?_, x_okc_ok hM h1.2⟩
  unfold y_okop
  exact Bool.and_eq_true_iff.mpr ⟨h1.1.1, x_okin_ok hM h1.1.2⟩
theorem x_use2 {wl : List (Nat × Cond)} {mt : List yE} {e : yE} (h : (x_wl wl && (x_M wl (.code e.1 e.2.1 e.2.2.1 e.2.2.2.1) && (plainName e.1.cls && (decide (e.1.cls ≠ "java/lang/invoke/MethodHandle" ∧ e.1.cls ≠ "java/lang/invoke/VarHandle") && Nat.ble e.2.2.1 40)))) = true) (hb : y_okb mt e = true) : y_ok mt e = true := by
  simp only [Bool.and_eq_true] at h
  unfold y_ok
  simp only [Bool.and_eq_true]
  exact ⟨x_M_ok h.1 _ h.2.1, h.2.2.1, h.2.2.2.1, h.2.2.2.2, hb⟩
end
section
set_option maxRecDepth 100000 in
theorem kX8_init : y_ok z_mt zX8_init = true := x_use (wl := [(14, (Jvm.Cond.initialized "TokenNets$Net")), (15, (Jvm.Cond.initialized "TokenNets$History")), (16, (Jvm.Cond.initialized "TokenNets$Pad")), (17, (Jvm.Cond.initialized "TokenNets$Sums")), (18, (Jvm.Cond.initialized "TokenNets$Reach")), (20, (Jvm.Cond.initialized "TokenNets$Tree")), (29, (Jvm.Cond.code ({ cls := "TokenNets", name := "<init>", desc := "()V" } : Jvm.MethodName) prog_1_method_1_code (1 : Nat) (Option.none : Option Jvm.ClassFile.FieldType))), (30, (Jvm.Cond.methodLink "TokenNets" (3 : Nat) ({ cls := "java/lang/Object", name := "<init>", desc := "()V" } : Jvm.MethodName))), (31, (Jvm.Cond.instanceMethod ({ cls := "java/lang/Object", name := "<init>", desc := "()V" } : Jvm.MethodName))), (32, (Jvm.Cond.code ({ cls := "java/lang/Object", name := "<init>", desc := "()V" } : Jvm.MethodName) object_method_1_code (1 : Nat) (Option.none : Option Jvm.ClassFile.FieldType))), (33, (Jvm.Cond.classLink "TokenNets" (9 : Nat) "TokenNets$Net")), (34, (Jvm.Cond.instantiable "TokenNets$Net" (7 : Nat))), (36, (Jvm.Cond.instanceMethod ({ cls := "TokenNets$Net", name := "<init>", desc := "()V" } : Jvm.MethodName))), (75, (Jvm.Cond.classLink "TokenNets" (16 : Nat) "TokenNets$History")), (76, (Jvm.Cond.instantiable "TokenNets$History" (3 : Nat))), (77, (Jvm.Cond.methodLink "TokenNets" (18 : Nat) ({ cls := "TokenNets$History", name := "<init>", desc := "()V" } : Jvm.MethodName))), (78, (Jvm.Cond.instanceMethod ({ cls := "TokenNets$History", name := "<init>", desc := "()V" } : Jvm.MethodName))), (95, (Jvm.Cond.classLink "TokenNets" (31 : Nat) "TokenNets$Pad")), (96, (Jvm.Cond.instantiable "TokenNets$Pad" (2 : Nat))), (98, (Jvm.Cond.instanceMethod ({ cls := "TokenNets$Pad", name := "<init>", desc := "()V" } : Jvm.MethodName))), (108, (Jvm.Cond.arrayClass Jvm.ClassFile.FieldType.boolean)), (110, (Jvm.Cond.classLink "TokenNets" (38 : Nat) "TokenNets$Sums")), (111, (Jvm.Cond.instantiable "TokenNets$Sums" (8 : Nat))), (113, (Jvm.Cond.instanceMethod ({ cls := "TokenNets$Sums", name := "<init>", desc := "()V" } : Jvm.MethodName))), (144, (Jvm.Cond.classLink "TokenNets" (45 : Nat) "TokenNets$Reach")), (145, (Jvm.Cond.instantiable "TokenNets$Reach" (4 : Nat))), (147, (Jvm.Cond.instanceMethod ({ cls := "TokenNets$Reach", name := "<init>", desc := "()V" } : Jvm.MethodName))), (208, (Jvm.Cond.classLink "TokenNets" (52 : Nat) "TokenNets$Tree")), (209, (Jvm.Cond.instantiable "TokenNets$Tree" (5 : Nat))), (211, (Jvm.Cond.instanceMethod ({ cls := "TokenNets$Tree", name := "<init>", desc := "()V" } : Jvm.MethodName))), (234, (Jvm.Cond.fieldLink "TokenNets" (12 : Nat) "TokenNets" "net" "LTokenNets$Net;")), (235, (Jvm.Cond.fieldLink "TokenNets" (19 : Nat) "TokenNets" "history" "LTokenNets$History;")), (236, (Jvm.Cond.fieldLink "TokenNets" (23 : Nat) "TokenNets" "slots" "[LTokenNets$Net;")), (237, (Jvm.Cond.fieldLink "TokenNets" (27 : Nat) "TokenNets" "saved" "[Z")), (238, (Jvm.Cond.fieldLink "TokenNets" (34 : Nat) "TokenNets" "pad" "LTokenNets$Pad;")), (239, (Jvm.Cond.fieldLink "TokenNets" (41 : Nat) "TokenNets" "sums" "LTokenNets$Sums;")), (240, (Jvm.Cond.fieldLink "TokenNets" (48 : Nat) "TokenNets" "reach" "LTokenNets$Reach;")), (241, (Jvm.Cond.fieldLink "TokenNets" (55 : Nat) "TokenNets" "tree" "LTokenNets$Tree;"))]) (by decide +kernel)
set_option maxRecDepth 100000 in
theorem kX8_arc : y_ok z_mt zX8_arc = true := x_use (wl := [(14, (Jvm.Cond.initialized "TokenNets$Net")), (15, (Jvm.Cond.initialized "TokenNets$History")), (234, (Jvm.Cond.fieldLink "TokenNets" (12 : Nat) "TokenNets" "net" "LTokenNets$Net;")), (235, (Jvm.Cond.fieldLink "TokenNets" (19 : Nat) "TokenNets" "history" "LTokenNets$History;")), (263, (Jvm.Cond.methodLink "TokenNets" (59 : Nat) ({ cls := "TokenNets$History", name := "note", desc := "(LTokenNets$Net;)V" } : Jvm.MethodName))), (264, (Jvm.Cond.instanceMethod ({ cls := "TokenNets$History", name := "note", desc := "(LTokenNets$Net;)V" } : Jvm.MethodName))), (265, (Jvm.Cond.selects "TokenNets$History" ({ cls := "TokenNets$History", name := "note", desc := "(LTokenNets$Net;)V" } : Jvm.MethodName) ({ cls := "TokenNets$History", name := "note", desc := "(LTokenNets$Net;)V" } : Jvm.MethodName))), (278, (Jvm.Cond.methodLink "TokenNets" (67 : Nat) ({ cls := "TokenNets$History", name := "settle", desc := "(I)I" } : Jvm.MethodName))), (279, (Jvm.Cond.instanceMethod ({ cls := "TokenNets$History", name := "settle", desc := "(I)I" } : Jvm.MethodName))), (280, (Jvm.Cond.selects "TokenNets$History" ({ cls := "TokenNets$History", name := "settle", desc := "(I)I" } : Jvm.MethodName) ({ cls := "TokenNets$History", name := "settle", desc := "(I)I" } : Jvm.MethodName))), (296, (Jvm.Cond.code ({ cls := "TokenNets", name := "arc", desc := "(IIII)I" } : Jvm.MethodName) prog_1_method_4_code (5 : Nat) (Option.some Jvm.ClassFile.FieldType.int))), (297, (Jvm.Cond.methodLink "TokenNets" (74 : Nat) ({ cls := "TokenNets$Net", name := "setArc", desc := "(IIII)I" } : Jvm.MethodName))), (298, (Jvm.Cond.instanceMethod ({ cls := "TokenNets$Net", name := "setArc", desc := "(IIII)I" } : Jvm.MethodName))), (299, (Jvm.Cond.selects "TokenNets$Net" ({ cls := "TokenNets$Net", name := "setArc", desc := "(IIII)I" } : Jvm.MethodName) ({ cls := "TokenNets$Net", name := "setArc", desc := "(IIII)I" } : Jvm.MethodName)))]) (by decide +kernel)
set_option maxRecDepth 100000 in
theorem kX8_bound : y_ok z_mt zX8_bound = true := x_use (wl := [(14, (Jvm.Cond.initialized "TokenNets$Net")), (20, (Jvm.Cond.initialized "TokenNets$Tree")), (175, (Jvm.Cond.fieldLink "TokenNets" (181 : Nat) "TokenNets$Marks" "tooMany" "Z")), (217, (Jvm.Cond.fieldLink "TokenNets" (198 : Nat) "TokenNets$Tree" "marks" "LTokenNets$Marks;")), (234, (Jvm.Cond.fieldLink "TokenNets" (12 : Nat) "TokenNets" "net" "LTokenNets$Net;")), (241, (Jvm.Cond.fieldLink "TokenNets" (55 : Nat) "TokenNets" "tree" "LTokenNets$Tree;")), (306, (Jvm.Cond.instanceMethod ({ cls := "TokenNets$Net", name := "hasPlace", desc := "(I)Z" } : Jvm.MethodName))), (307, (Jvm.Cond.selects "TokenNets$Net" ({ cls := "TokenNets$Net", name := "hasPlace", desc := "(I)Z" } : Jvm.MethodName) ({ cls := "TokenNets$Net", name := "hasPlace", desc := "(I)Z" } : Jvm.MethodName))), (375, (Jvm.Cond.methodLink "TokenNets" (88 : Nat) ({ cls := "TokenNets$Net", name := "hasPlace", desc := "(I)Z" } : Jvm.MethodName))), (596, (Jvm.Cond.code ({ cls := "TokenNets", name := "bound", desc := "(I)I" } : Jvm.MethodName) prog_1_method_20_code (3 : Nat) (Option.some Jvm.ClassFile.FieldType.int))), (597, (Jvm.Cond.methodLink "TokenNets" (197 : Nat) ({ cls := "TokenNets$Tree", name := "find", desc := "(LTokenNets$Net;)V" } : Jvm.MethodName))), (598, (Jvm.Cond.instanceMethod ({ cls := "TokenNets$Tree", name := "find", desc := "(LTokenNets$Net;)V" } : Jvm.MethodName))), (599, (Jvm.Cond.selects "TokenNets$Tree" ({ cls := "TokenNets$Tree", name := "find", desc := "(LTokenNets$Net;)V" } : Jvm.MethodName) ({ cls := "TokenNets$Tree", name := "find", desc := "(LTokenNets$Net;)V" } : Jvm.MethodName))), (623, (Jvm.Cond.methodLink "TokenNets" (205 : Nat) ({ cls := "TokenNets$Tree", name := "mostTokens", desc := "(I)I" } : Jvm.MethodName))), (624, (Jvm.Cond.instanceMethod ({ cls := "TokenNets$Tree", name := "mostTokens", desc := "(I)I" } : Jvm.MethodName))), (625, (Jvm.Cond.selects "TokenNets$Tree" ({ cls := "TokenNets$Tree", name := "mostTokens", desc := "(I)I" } : Jvm.MethodName) ({ cls := "TokenNets$Tree", name := "mostTokens", desc := "(I)I" } : Jvm.MethodName))), (627, (Jvm.Cond.constant "TokenNets" (208 : Nat) (1073741824 : Int32)))]) (by decide +kernel)
set_option maxRecDepth 100000 in
theorem kX8_count : y_ok z_mt zX8_count = true := x_use (wl := [(14, (Jvm.Cond.initialized "TokenNets$Net")), (41, (Jvm.Cond.fieldLink "TokenNets" (124 : Nat) "TokenNets$Net" "places" "I")), (45, (Jvm.Cond.fieldLink "TokenNets" (128 : Nat) "TokenNets$Net" "moves" "I")), (87, (Jvm.Cond.fieldLink "TokenNets" (143 : Nat) "TokenNets$History" "many" "I")), (102, (Jvm.Cond.fieldLink "TokenNets" (140 : Nat) "TokenNets$Pad" "length" "I")), (234, (Jvm.Cond.fieldLink "TokenNets" (12 : Nat) "TokenNets" "net" "LTokenNets$Net;")), (235, (Jvm.Cond.fieldLink "TokenNets" (19 : Nat) "TokenNets" "history" "LTokenNets$History;")), (238, (Jvm.Cond.fieldLink "TokenNets" (34 : Nat) "TokenNets" "pad" "LTokenNets$Pad;")), (347, (Jvm.Cond.instanceMethod ({ cls := "TokenNets$Net", name := "possibleMoves", desc := "()I" } : Jvm.MethodName))), (348, (Jvm.Cond.selects "TokenNets$Net" ({ cls := "TokenNets$Net", name := "possibleMoves", desc := "()I" } : Jvm.MethodName) ({ cls := "TokenNets$Net", name := "possibleMoves", desc := "()I" } : Jvm.MethodName))), (397, (Jvm.Cond.code ({ cls := "TokenNets", name := "count", desc := "(I)I" } : Jvm.MethodName) prog_1_method_11_code (2 : Nat) (Option.some Jvm.ClassFile.FieldType.int))), (398, (Jvm.Cond.methodLink "TokenNets" (131 : Nat) ({ cls := "TokenNets$Net", name := "allTokens", desc := "()I" } : Jvm.MethodName))), (399, (Jvm.Cond.instanceMethod ({ cls := "TokenNets$Net", name := "allTokens", desc := "()I" } : Jvm.MethodName))), (400, (Jvm.Cond.selects "TokenNets$Net" ({ cls := "TokenNets$Net", name := "allTokens", desc := "()I" } : Jvm.MethodName) ({ cls := "TokenNets$Net", name := "allTokens", desc := "()I" } : Jvm.MethodName))), (406, (Jvm.Cond.methodLink "TokenNets" (134 : Nat) ({ cls := "TokenNets$Net", name := "possibleMoves", desc := "()I" } : Jvm.MethodName))), (407, (Jvm.Cond.methodLink "TokenNets" (137 : Nat) ({ cls := "TokenNets$Net", name := "allMade", desc := "()I" } : Jvm.MethodName))), (408, (Jvm.Cond.instanceMethod ({ cls := "TokenNets$Net", name := "allMade", desc := "()I" } : Jvm.MethodName))), (409, (Jvm.Cond.selects "TokenNets$Net" ({ cls := "TokenNets$Net", name := "allMade", desc := "()I" } : Jvm.MethodName) ({ cls := "TokenNets$Net", name := "allMade", desc := "()I" } : Jvm.MethodName)))]) (by decide +kernel)
set_option maxRecDepth 100000 in
theorem kX8_fewest : y_ok z_mt zX8_fewest = true := x_use (wl := [(14, (Jvm.Cond.initialized "TokenNets$Net")), (18, (Jvm.Cond.initialized "TokenNets$Reach")), (175, (Jvm.Cond.fieldLink "TokenNets" (181 : Nat) "TokenNets$Marks" "tooMany" "Z")), (194, (Jvm.Cond.fieldLink "TokenNets" (177 : Nat) "TokenNets$Reach" "marks" "LTokenNets$Marks;")), (234, (Jvm.Cond.fieldLink "TokenNets" (12 : Nat) "TokenNets" "net" "LTokenNets$Net;")), (240, (Jvm.Cond.fieldLink "TokenNets" (48 : Nat) "TokenNets" "reach" "LTokenNets$Reach;")), (306, (Jvm.Cond.instanceMethod ({ cls := "TokenNets$Net", name := "hasPlace", desc := "(I)Z" } : Jvm.MethodName))), (307, (Jvm.Cond.selects "TokenNets$Net" ({ cls := "TokenNets$Net", name := "hasPlace", desc := "(I)Z" } : Jvm.MethodName) ({ cls := "TokenNets$Net", name := "hasPlace", desc := "(I)Z" } : Jvm.MethodName))), (375, (Jvm.Cond.methodLink "TokenNets" (88 : Nat) ({ cls := "TokenNets$Net", name := "hasPlace", desc := "(I)Z" } : Jvm.MethodName))), (533, (Jvm.Cond.methodLink "TokenNets" (176 : Nat) ({ cls := "TokenNets$Reach", name := "find", desc := "(LTokenNets$Net;)V" } : Jvm.MethodName))), (534, (Jvm.Cond.instanceMethod ({ cls := "TokenNets$Reach", name := "find", desc := "(LTokenNets$Net;)V" } : Jvm.MethodName))), (535, (Jvm.Cond.selects "TokenNets$Reach" ({ cls := "TokenNets$Reach", name := "find", desc := "(LTokenNets$Net;)V" } : Jvm.MethodName) ({ cls := "TokenNets$Reach", name := "find", desc := "(LTokenNets$Net;)V" } : Jvm.MethodName))), (585, (Jvm.Cond.code ({ cls := "TokenNets", name := "fewest", desc := "(II)I" } : Jvm.MethodName) prog_1_method_18_code (3 : Nat) (Option.some Jvm.ClassFile.FieldType.int))), (586, (Jvm.Cond.methodLink "TokenNets" (194 : Nat) ({ cls := "TokenNets$Reach", name := "fewestMoves", desc := "(II)I" } : Jvm.MethodName))), (587, (Jvm.Cond.instanceMethod ({ cls := "TokenNets$Reach", name := "fewestMoves", desc := "(II)I" } : Jvm.MethodName))), (588, (Jvm.Cond.selects "TokenNets$Reach" ({ cls := "TokenNets$Reach", name := "fewestMoves", desc := "(II)I" } : Jvm.MethodName) ({ cls := "TokenNets$Reach", name := "fewestMoves", desc := "(II)I" } : Jvm.MethodName)))]) (by decide +kernel)
set_option maxRecDepth 100000 in
theorem kX8_growth : y_ok z_mt zX8_growth = true := x_use (wl := [(20, (Jvm.Cond.initialized "TokenNets$Tree")), (171, (Jvm.Cond.fieldLink "TokenNets" (187 : Nat) "TokenNets$Marks" "many" "I")), (175, (Jvm.Cond.fieldLink "TokenNets" (181 : Nat) "TokenNets$Marks" "tooMany" "Z")), (177, (Jvm.Cond.fieldLink "TokenNets" (191 : Nat) "TokenNets$Marks" "possible" "I")), (217, (Jvm.Cond.fieldLink "TokenNets" (198 : Nat) "TokenNets$Tree" "marks" "LTokenNets$Marks;")), (222, (Jvm.Cond.fieldLink "TokenNets" (202 : Nat) "TokenNets$Tree" "deepest" "I")), (234, (Jvm.Cond.fieldLink "TokenNets" (12 : Nat) "TokenNets" "net" "LTokenNets$Net;")), (241, (Jvm.Cond.fieldLink "TokenNets" (55 : Nat) "TokenNets" "tree" "LTokenNets$Tree;")), (597, (Jvm.Cond.methodLink "TokenNets" (197 : Nat) ({ cls := "TokenNets$Tree", name := "find", desc := "(LTokenNets$Net;)V" } : Jvm.MethodName))), (598, (Jvm.Cond.instanceMethod ({ cls := "TokenNets$Tree", name := "find", desc := "(LTokenNets$Net;)V" } : Jvm.MethodName))), (599, (Jvm.Cond.selects "TokenNets$Tree" ({ cls := "TokenNets$Tree", name := "find", desc := "(LTokenNets$Net;)V" } : Jvm.MethodName) ({ cls := "TokenNets$Tree", name := "find", desc := "(LTokenNets$Net;)V" } : Jvm.MethodName))), (631, (Jvm.Cond.code ({ cls := "TokenNets", name := "growth", desc := "(I)I" } : Jvm.MethodName) prog_1_method_19_code (2 : Nat) (Option.some Jvm.ClassFile.FieldType.int))), (632, (Jvm.Cond.methodLink "TokenNets" (199 : Nat) ({ cls := "TokenNets$Tree", name := "endlessPlaces", desc := "()I" } : Jvm.MethodName))), (633, (Jvm.Cond.instanceMethod ({ cls := "TokenNets$Tree", name := "endlessPlaces", desc := "()I" } : Jvm.MethodName))), (634, (Jvm.Cond.selects "TokenNets$Tree" ({ cls := "TokenNets$Tree", name := "endlessPlaces", desc := "()I" } : Jvm.MethodName) ({ cls := "TokenNets$Tree", name := "endlessPlaces", desc := "()I" } : Jvm.MethodName)))]) (by decide +kernel)
set_option maxRecDepth 100000 in
theorem kX8_kept : y_ok z_mt zX8_kept = true := x_use (wl := [(14, (Jvm.Cond.initialized "TokenNets$Net")), (17, (Jvm.Cond.initialized "TokenNets$Sums")), (48, (Jvm.Cond.fieldLink "TokenNets" (92 : Nat) "TokenNets$Net" "tokens" "[I")), (126, (Jvm.Cond.fieldLink "TokenNets" (161 : Nat) "TokenNets$Sums" "many" "I")), (234, (Jvm.Cond.fieldLink "TokenNets" (12 : Nat) "TokenNets" "net" "LTokenNets$Net;")), (239, (Jvm.Cond.fieldLink "TokenNets" (41 : Nat) "TokenNets" "sums" "LTokenNets$Sums;")), (306, (Jvm.Cond.instanceMethod ({ cls := "TokenNets$Net", name := "hasPlace", desc := "(I)Z" } : Jvm.MethodName))), (307, (Jvm.Cond.selects "TokenNets$Net" ({ cls := "TokenNets$Net", name := "hasPlace", desc := "(I)Z" } : Jvm.MethodName) ({ cls := "TokenNets$Net", name := "hasPlace", desc := "(I)Z" } : Jvm.MethodName))), (375, (Jvm.Cond.methodLink "TokenNets" (88 : Nat) ({ cls := "TokenNets$Net", name := "hasPlace", desc := "(I)Z" } : Jvm.MethodName))), (452, (Jvm.Cond.code ({ cls := "TokenNets", name := "kept", desc := "(II)I" } : Jvm.MethodName) prog_1_method_14_code (3 : Nat) (Option.some Jvm.ClassFile.FieldType.int))), (453, (Jvm.Cond.methodLink "TokenNets" (158 : Nat) ({ cls := "TokenNets$Sums", name := "find", desc := "(LTokenNets$Net;)V" } : Jvm.MethodName))), (454, (Jvm.Cond.instanceMethod ({ cls := "TokenNets$Sums", name := "find", desc := "(LTokenNets$Net;)V" } : Jvm.MethodName))), (455, (Jvm.Cond.selects "TokenNets$Sums" ({ cls := "TokenNets$Sums", name := "find", desc := "(LTokenNets$Net;)V" } : Jvm.MethodName) ({ cls := "TokenNets$Sums", name := "find", desc := "(LTokenNets$Net;)V" } : Jvm.MethodName))), (497, (Jvm.Cond.methodLink "TokenNets" (162 : Nat) ({ cls := "TokenNets$Sums", name := "worth", desc := "(I[I)I" } : Jvm.MethodName))), (498, (Jvm.Cond.instanceMethod ({ cls := "TokenNets$Sums", name := "worth", desc := "(I[I)I" } : Jvm.MethodName))), (499, (Jvm.Cond.selects "TokenNets$Sums" ({ cls := "TokenNets$Sums", name := "worth", desc := "(I[I)I" } : Jvm.MethodName) ({ cls := "TokenNets$Sums", name := "worth", desc := "(I[I)I" } : Jvm.MethodName))), (502, (Jvm.Cond.instanceMethod ({ cls := "TokenNets$Sums", name := "weight", desc := "(II)I" } : Jvm.MethodName))), (503, (Jvm.Cond.selects "TokenNets$Sums" ({ cls := "TokenNets$Sums", name := "weight", desc := "(II)I" } : Jvm.MethodName) ({ cls := "TokenNets$Sums", name := "weight", desc := "(II)I" } : Jvm.MethodName))), (505, (Jvm.Cond.methodLink "TokenNets" (166 : Nat) ({ cls := "TokenNets$Sums", name := "weight", desc := "(II)I" } : Jvm.MethodName)))]) (by decide +kernel)
set_option maxRecDepth 100000 in
theorem kX8_keptMany : y_ok z_mt zX8_keptMany = true := x_use (wl := [(17, (Jvm.Cond.initialized "TokenNets$Sums")), (126, (Jvm.Cond.fieldLink "TokenNets" (161 : Nat) "TokenNets$Sums" "many" "I")), (234, (Jvm.Cond.fieldLink "TokenNets" (12 : Nat) "TokenNets" "net" "LTokenNets$Net;")), (239, (Jvm.Cond.fieldLink "TokenNets" (41 : Nat) "TokenNets" "sums" "LTokenNets$Sums;")), (453, (Jvm.Cond.methodLink "TokenNets" (158 : Nat) ({ cls := "TokenNets$Sums", name := "find", desc := "(LTokenNets$Net;)V" } : Jvm.MethodName))), (454, (Jvm.Cond.instanceMethod ({ cls := "TokenNets$Sums", name := "find", desc := "(LTokenNets$Net;)V" } : Jvm.MethodName))), (455, (Jvm.Cond.selects "TokenNets$Sums" ({ cls := "TokenNets$Sums", name := "find", desc := "(LTokenNets$Net;)V" } : Jvm.MethodName) ({ cls := "TokenNets$Sums", name := "find", desc := "(LTokenNets$Net;)V" } : Jvm.MethodName))), (509, (Jvm.Cond.code ({ cls := "TokenNets", name := "keptMany", desc := "()I" } : Jvm.MethodName) prog_1_method_15_code (1 : Nat) (Option.some Jvm.ClassFile.FieldType.int)))]) (by decide +kernel)
set_option maxRecDepth 100000 in
theorem kX8_make : y_ok z_mt zX8_make = true := x_use (wl := [(14, (Jvm.Cond.initialized "TokenNets$Net")), (15, (Jvm.Cond.initialized "TokenNets$History")), (234, (Jvm.Cond.fieldLink "TokenNets" (12 : Nat) "TokenNets" "net" "LTokenNets$Net;")), (235, (Jvm.Cond.fieldLink "TokenNets" (19 : Nat) "TokenNets" "history" "LTokenNets$History;")), (263, (Jvm.Cond.methodLink "TokenNets" (59 : Nat) ({ cls := "TokenNets$History", name := "note", desc := "(LTokenNets$Net;)V" } : Jvm.MethodName))), (264, (Jvm.Cond.instanceMethod ({ cls := "TokenNets$History", name := "note", desc := "(LTokenNets$Net;)V" } : Jvm.MethodName))), (265, (Jvm.Cond.selects "TokenNets$History" ({ cls := "TokenNets$History", name := "note", desc := "(LTokenNets$Net;)V" } : Jvm.MethodName) ({ cls := "TokenNets$History", name := "note", desc := "(LTokenNets$Net;)V" } : Jvm.MethodName))), (278, (Jvm.Cond.methodLink "TokenNets" (67 : Nat) ({ cls := "TokenNets$History", name := "settle", desc := "(I)I" } : Jvm.MethodName))), (279, (Jvm.Cond.instanceMethod ({ cls := "TokenNets$History", name := "settle", desc := "(I)I" } : Jvm.MethodName))), (280, (Jvm.Cond.selects "TokenNets$History" ({ cls := "TokenNets$History", name := "settle", desc := "(I)I" } : Jvm.MethodName) ({ cls := "TokenNets$History", name := "settle", desc := "(I)I" } : Jvm.MethodName))), (320, (Jvm.Cond.code ({ cls := "TokenNets", name := "make", desc := "(I)I" } : Jvm.MethodName) prog_1_method_6_code (2 : Nat) (Option.some Jvm.ClassFile.FieldType.int))), (321, (Jvm.Cond.methodLink "TokenNets" (82 : Nat) ({ cls := "TokenNets$Net", name := "makeOne", desc := "(I)I" } : Jvm.MethodName))), (322, (Jvm.Cond.instanceMethod ({ cls := "TokenNets$Net", name := "makeOne", desc := "(I)I" } : Jvm.MethodName))), (323, (Jvm.Cond.selects "TokenNets$Net" ({ cls := "TokenNets$Net", name := "makeOne", desc := "(I)I" } : Jvm.MethodName) ({ cls := "TokenNets$Net", name := "makeOne", desc := "(I)I" } : Jvm.MethodName)))]) (by decide +kernel)
set_option maxRecDepth 100000 in
theorem kX8_move : y_ok z_mt zX8_move = true := x_use (wl := [(14, (Jvm.Cond.initialized "TokenNets$Net")), (15, (Jvm.Cond.initialized "TokenNets$History")), (234, (Jvm.Cond.fieldLink "TokenNets" (12 : Nat) "TokenNets" "net" "LTokenNets$Net;")), (235, (Jvm.Cond.fieldLink "TokenNets" (19 : Nat) "TokenNets" "history" "LTokenNets$History;")), (263, (Jvm.Cond.methodLink "TokenNets" (59 : Nat) ({ cls := "TokenNets$History", name := "note", desc := "(LTokenNets$Net;)V" } : Jvm.MethodName))), (264, (Jvm.Cond.instanceMethod ({ cls := "TokenNets$History", name := "note", desc := "(LTokenNets$Net;)V" } : Jvm.MethodName))), (265, (Jvm.Cond.selects "TokenNets$History" ({ cls := "TokenNets$History", name := "note", desc := "(LTokenNets$Net;)V" } : Jvm.MethodName) ({ cls := "TokenNets$History", name := "note", desc := "(LTokenNets$Net;)V" } : Jvm.MethodName))), (278, (Jvm.Cond.methodLink "TokenNets" (67 : Nat) ({ cls := "TokenNets$History", name := "settle", desc := "(I)I" } : Jvm.MethodName))), (279, (Jvm.Cond.instanceMethod ({ cls := "TokenNets$History", name := "settle", desc := "(I)I" } : Jvm.MethodName))), (280, (Jvm.Cond.selects "TokenNets$History" ({ cls := "TokenNets$History", name := "settle", desc := "(I)I" } : Jvm.MethodName) ({ cls := "TokenNets$History", name := "settle", desc := "(I)I" } : Jvm.MethodName))), (288, (Jvm.Cond.code ({ cls := "TokenNets", name := "move", desc := "()I" } : Jvm.MethodName) prog_1_method_3_code (1 : Nat) (Option.some Jvm.ClassFile.FieldType.int))), (289, (Jvm.Cond.methodLink "TokenNets" (70 : Nat) ({ cls := "TokenNets$Net", name := "addMove", desc := "()I" } : Jvm.MethodName))), (290, (Jvm.Cond.instanceMethod ({ cls := "TokenNets$Net", name := "addMove", desc := "()I" } : Jvm.MethodName))), (291, (Jvm.Cond.selects "TokenNets$Net" ({ cls := "TokenNets$Net", name := "addMove", desc := "()I" } : Jvm.MethodName) ({ cls := "TokenNets$Net", name := "addMove", desc := "()I" } : Jvm.MethodName)))]) (by decide +kernel)
set_option maxRecDepth 100000 in
theorem kX8_ofMove : y_ok z_mt zX8_ofMove = true := x_use (wl := [(14, (Jvm.Cond.initialized "TokenNets$Net")), (52, (Jvm.Cond.fieldLink "TokenNets" (115 : Nat) "TokenNets$Net" "made" "[I")), (55, (Jvm.Cond.fieldLink "TokenNets" (96 : Nat) "TokenNets$Net" "takes" "[I")), (58, (Jvm.Cond.fieldLink "TokenNets" (103 : Nat) "TokenNets$Net" "gives" "[I")), (234, (Jvm.Cond.fieldLink "TokenNets" (12 : Nat) "TokenNets" "net" "LTokenNets$Net;")), (302, (Jvm.Cond.instanceMethod ({ cls := "TokenNets$Net", name := "hasMove", desc := "(I)Z" } : Jvm.MethodName))), (303, (Jvm.Cond.selects "TokenNets$Net" ({ cls := "TokenNets$Net", name := "hasMove", desc := "(I)Z" } : Jvm.MethodName) ({ cls := "TokenNets$Net", name := "hasMove", desc := "(I)Z" } : Jvm.MethodName))), (326, (Jvm.Cond.instanceMethod ({ cls := "TokenNets$Net", name := "canMake", desc := "(I)Z" } : Jvm.MethodName))), (327, (Jvm.Cond.selects "TokenNets$Net" ({ cls := "TokenNets$Net", name := "canMake", desc := "(I)Z" } : Jvm.MethodName) ({ cls := "TokenNets$Net", name := "canMake", desc := "(I)Z" } : Jvm.MethodName))), (383, (Jvm.Cond.code ({ cls := "TokenNets", name := "ofMove", desc := "(II)I" } : Jvm.MethodName) prog_1_method_9_code (3 : Nat) (Option.some Jvm.ClassFile.FieldType.int))), (384, (Jvm.Cond.methodLink "TokenNets" (109 : Nat) ({ cls := "TokenNets$Net", name := "hasMove", desc := "(I)Z" } : Jvm.MethodName))), (385, (Jvm.Cond.methodLink "TokenNets" (112 : Nat) ({ cls := "TokenNets$Net", name := "canMake", desc := "(I)Z" } : Jvm.MethodName))), (386, (Jvm.Cond.methodLink "TokenNets" (118 : Nat) ({ cls := "TokenNets$Net", name := "placesOf", desc := "([II)I" } : Jvm.MethodName))), (387, (Jvm.Cond.instanceMethod ({ cls := "TokenNets$Net", name := "placesOf", desc := "([II)I" } : Jvm.MethodName))), (388, (Jvm.Cond.selects "TokenNets$Net" ({ cls := "TokenNets$Net", name := "placesOf", desc := "([II)I" } : Jvm.MethodName) ({ cls := "TokenNets$Net", name := "placesOf", desc := "([II)I" } : Jvm.MethodName))), (390, (Jvm.Cond.methodLink "TokenNets" (121 : Nat) ({ cls := "TokenNets$Net", name := "surplus", desc := "(I)I" } : Jvm.MethodName))), (391, (Jvm.Cond.instanceMethod ({ cls := "TokenNets$Net", name := "surplus", desc := "(I)I" } : Jvm.MethodName))), (392, (Jvm.Cond.selects "TokenNets$Net" ({ cls := "TokenNets$Net", name := "surplus", desc := "(I)I" } : Jvm.MethodName) ({ cls := "TokenNets$Net", name := "surplus", desc := "(I)I" } : Jvm.MethodName)))]) (by decide +kernel)
set_option maxRecDepth 100000 in
theorem kX8_ofPlace : y_ok z_mt zX8_ofPlace = true := x_use (wl := [(14, (Jvm.Cond.initialized "TokenNets$Net")), (48, (Jvm.Cond.fieldLink "TokenNets" (92 : Nat) "TokenNets$Net" "tokens" "[I")), (50, (Jvm.Cond.fieldLink "TokenNets" (106 : Nat) "TokenNets$Net" "most" "[I")), (55, (Jvm.Cond.fieldLink "TokenNets" (96 : Nat) "TokenNets$Net" "takes" "[I")), (58, (Jvm.Cond.fieldLink "TokenNets" (103 : Nat) "TokenNets$Net" "gives" "[I")), (234, (Jvm.Cond.fieldLink "TokenNets" (12 : Nat) "TokenNets" "net" "LTokenNets$Net;")), (306, (Jvm.Cond.instanceMethod ({ cls := "TokenNets$Net", name := "hasPlace", desc := "(I)Z" } : Jvm.MethodName))), (307, (Jvm.Cond.selects "TokenNets$Net" ({ cls := "TokenNets$Net", name := "hasPlace", desc := "(I)Z" } : Jvm.MethodName) ({ cls := "TokenNets$Net", name := "hasPlace", desc := "(I)Z" } : Jvm.MethodName))), (374, (Jvm.Cond.code ({ cls := "TokenNets", name := "ofPlace", desc := "(II)I" } : Jvm.MethodName) prog_1_method_8_code (3 : Nat) (Option.some Jvm.ClassFile.FieldType.int))), (375, (Jvm.Cond.methodLink "TokenNets" (88 : Nat) ({ cls := "TokenNets$Net", name := "hasPlace", desc := "(I)Z" } : Jvm.MethodName))), (376, (Jvm.Cond.methodLink "TokenNets" (99 : Nat) ({ cls := "TokenNets$Net", name := "movesAt", desc := "([II)I" } : Jvm.MethodName))), (377, (Jvm.Cond.instanceMethod ({ cls := "TokenNets$Net", name := "movesAt", desc := "([II)I" } : Jvm.MethodName))), (378, (Jvm.Cond.selects "TokenNets$Net" ({ cls := "TokenNets$Net", name := "movesAt", desc := "([II)I" } : Jvm.MethodName) ({ cls := "TokenNets$Net", name := "movesAt", desc := "([II)I" } : Jvm.MethodName)))]) (by decide +kernel)
set_option maxRecDepth 100000 in
theorem kX8_place : y_ok z_mt zX8_place = true := x_use (wl := [(14, (Jvm.Cond.initialized "TokenNets$Net")), (15, (Jvm.Cond.initialized "TokenNets$History")), (234, (Jvm.Cond.fieldLink "TokenNets" (12 : Nat) "TokenNets" "net" "LTokenNets$Net;")), (235, (Jvm.Cond.fieldLink "TokenNets" (19 : Nat) "TokenNets" "history" "LTokenNets$History;")), (262, (Jvm.Cond.code ({ cls := "TokenNets", name := "place", desc := "(I)I" } : Jvm.MethodName) prog_1_method_2_code (2 : Nat) (Option.some Jvm.ClassFile.FieldType.int))), (263, (Jvm.Cond.methodLink "TokenNets" (59 : Nat) ({ cls := "TokenNets$History", name := "note", desc := "(LTokenNets$Net;)V" } : Jvm.MethodName))), (264, (Jvm.Cond.instanceMethod ({ cls := "TokenNets$History", name := "note", desc := "(LTokenNets$Net;)V" } : Jvm.MethodName))), (265, (Jvm.Cond.selects "TokenNets$History" ({ cls := "TokenNets$History", name := "note", desc := "(LTokenNets$Net;)V" } : Jvm.MethodName) ({ cls := "TokenNets$History", name := "note", desc := "(LTokenNets$Net;)V" } : Jvm.MethodName))), (274, (Jvm.Cond.methodLink "TokenNets" (63 : Nat) ({ cls := "TokenNets$Net", name := "addPlace", desc := "(I)I" } : Jvm.MethodName))), (275, (Jvm.Cond.instanceMethod ({ cls := "TokenNets$Net", name := "addPlace", desc := "(I)I" } : Jvm.MethodName))), (276, (Jvm.Cond.selects "TokenNets$Net" ({ cls := "TokenNets$Net", name := "addPlace", desc := "(I)I" } : Jvm.MethodName) ({ cls := "TokenNets$Net", name := "addPlace", desc := "(I)I" } : Jvm.MethodName))), (278, (Jvm.Cond.methodLink "TokenNets" (67 : Nat) ({ cls := "TokenNets$History", name := "settle", desc := "(I)I" } : Jvm.MethodName))), (279, (Jvm.Cond.instanceMethod ({ cls := "TokenNets$History", name := "settle", desc := "(I)I" } : Jvm.MethodName))), (280, (Jvm.Cond.selects "TokenNets$History" ({ cls := "TokenNets$History", name := "settle", desc := "(I)I" } : Jvm.MethodName) ({ cls := "TokenNets$History", name := "settle", desc := "(I)I" } : Jvm.MethodName)))]) (by decide +kernel)
set_option maxRecDepth 100000 in
theorem kX8_reached : y_ok z_mt zX8_reached = true := x_use (wl := [(18, (Jvm.Cond.initialized "TokenNets$Reach")), (171, (Jvm.Cond.fieldLink "TokenNets" (187 : Nat) "TokenNets$Marks" "many" "I")), (175, (Jvm.Cond.fieldLink "TokenNets" (181 : Nat) "TokenNets$Marks" "tooMany" "Z")), (177, (Jvm.Cond.fieldLink "TokenNets" (191 : Nat) "TokenNets$Marks" "possible" "I")), (194, (Jvm.Cond.fieldLink "TokenNets" (177 : Nat) "TokenNets$Reach" "marks" "LTokenNets$Marks;")), (198, (Jvm.Cond.fieldLink "TokenNets" (188 : Nat) "TokenNets$Reach" "dead" "I")), (234, (Jvm.Cond.fieldLink "TokenNets" (12 : Nat) "TokenNets" "net" "LTokenNets$Net;")), (240, (Jvm.Cond.fieldLink "TokenNets" (48 : Nat) "TokenNets" "reach" "LTokenNets$Reach;")), (532, (Jvm.Cond.code ({ cls := "TokenNets", name := "reached", desc := "(I)I" } : Jvm.MethodName) prog_1_method_17_code (2 : Nat) (Option.some Jvm.ClassFile.FieldType.int))), (533, (Jvm.Cond.methodLink "TokenNets" (176 : Nat) ({ cls := "TokenNets$Reach", name := "find", desc := "(LTokenNets$Net;)V" } : Jvm.MethodName))), (534, (Jvm.Cond.instanceMethod ({ cls := "TokenNets$Reach", name := "find", desc := "(LTokenNets$Net;)V" } : Jvm.MethodName))), (535, (Jvm.Cond.selects "TokenNets$Reach" ({ cls := "TokenNets$Reach", name := "find", desc := "(LTokenNets$Net;)V" } : Jvm.MethodName) ({ cls := "TokenNets$Reach", name := "find", desc := "(LTokenNets$Net;)V" } : Jvm.MethodName)))]) (by decide +kernel)
set_option maxRecDepth 100000 in
theorem kX8_run : y_ok z_mt zX8_run = true := x_use (wl := [(14, (Jvm.Cond.initialized "TokenNets$Net")), (15, (Jvm.Cond.initialized "TokenNets$History")), (234, (Jvm.Cond.fieldLink "TokenNets" (12 : Nat) "TokenNets" "net" "LTokenNets$Net;")), (235, (Jvm.Cond.fieldLink "TokenNets" (19 : Nat) "TokenNets" "history" "LTokenNets$History;")), (263, (Jvm.Cond.methodLink "TokenNets" (59 : Nat) ({ cls := "TokenNets$History", name := "note", desc := "(LTokenNets$Net;)V" } : Jvm.MethodName))), (264, (Jvm.Cond.instanceMethod ({ cls := "TokenNets$History", name := "note", desc := "(LTokenNets$Net;)V" } : Jvm.MethodName))), (265, (Jvm.Cond.selects "TokenNets$History" ({ cls := "TokenNets$History", name := "note", desc := "(LTokenNets$Net;)V" } : Jvm.MethodName) ({ cls := "TokenNets$History", name := "note", desc := "(LTokenNets$Net;)V" } : Jvm.MethodName))), (278, (Jvm.Cond.methodLink "TokenNets" (67 : Nat) ({ cls := "TokenNets$History", name := "settle", desc := "(I)I" } : Jvm.MethodName))), (279, (Jvm.Cond.instanceMethod ({ cls := "TokenNets$History", name := "settle", desc := "(I)I" } : Jvm.MethodName))), (280, (Jvm.Cond.selects "TokenNets$History" ({ cls := "TokenNets$History", name := "settle", desc := "(I)I" } : Jvm.MethodName) ({ cls := "TokenNets$History", name := "settle", desc := "(I)I" } : Jvm.MethodName))), (359, (Jvm.Cond.code ({ cls := "TokenNets", name := "run", desc := "(II)I" } : Jvm.MethodName) prog_1_method_7_code (3 : Nat) (Option.some Jvm.ClassFile.FieldType.int))), (360, (Jvm.Cond.methodLink "TokenNets" (85 : Nat) ({ cls := "TokenNets$Net", name := "makeBySeed", desc := "(II)I" } : Jvm.MethodName))), (361, (Jvm.Cond.instanceMethod ({ cls := "TokenNets$Net", name := "makeBySeed", desc := "(II)I" } : Jvm.MethodName))), (362, (Jvm.Cond.selects "TokenNets$Net" ({ cls := "TokenNets$Net", name := "makeBySeed", desc := "(II)I" } : Jvm.MethodName) ({ cls := "TokenNets$Net", name := "makeBySeed", desc := "(II)I" } : Jvm.MethodName)))]) (by decide +kernel)
set_option maxRecDepth 100000 in
theorem kX8_tokens : y_ok z_mt zX8_tokens = true := x_use (wl := [(14, (Jvm.Cond.initialized "TokenNets$Net")), (15, (Jvm.Cond.initialized "TokenNets$History")), (234, (Jvm.Cond.fieldLink "TokenNets" (12 : Nat) "TokenNets" "net" "LTokenNets$Net;")), (235, (Jvm.Cond.fieldLink "TokenNets" (19 : Nat) "TokenNets" "history" "LTokenNets$History;")), (263, (Jvm.Cond.methodLink "TokenNets" (59 : Nat) ({ cls := "TokenNets$History", name := "note", desc := "(LTokenNets$Net;)V" } : Jvm.MethodName))), (264, (Jvm.Cond.instanceMethod ({ cls := "TokenNets$History", name := "note", desc := "(LTokenNets$Net;)V" } : Jvm.MethodName))), (265, (Jvm.Cond.selects "TokenNets$History" ({ cls := "TokenNets$History", name := "note", desc := "(LTokenNets$Net;)V" } : Jvm.MethodName) ({ cls := "TokenNets$History", name := "note", desc := "(LTokenNets$Net;)V" } : Jvm.MethodName))), (278, (Jvm.Cond.methodLink "TokenNets" (67 : Nat) ({ cls := "TokenNets$History", name := "settle", desc := "(I)I" } : Jvm.MethodName))), (279, (Jvm.Cond.instanceMethod ({ cls := "TokenNets$History", name := "settle", desc := "(I)I" } : Jvm.MethodName))), (280, (Jvm.Cond.selects "TokenNets$History" ({ cls := "TokenNets$History", name := "settle", desc := "(I)I" } : Jvm.MethodName) ({ cls := "TokenNets$History", name := "settle", desc := "(I)I" } : Jvm.MethodName))), (312, (Jvm.Cond.code ({ cls := "TokenNets", name := "tokens", desc := "(II)I" } : Jvm.MethodName) prog_1_method_5_code (3 : Nat) (Option.some Jvm.ClassFile.FieldType.int))), (313, (Jvm.Cond.methodLink "TokenNets" (78 : Nat) ({ cls := "TokenNets$Net", name := "setTokens", desc := "(II)I" } : Jvm.MethodName))), (314, (Jvm.Cond.instanceMethod ({ cls := "TokenNets$Net", name := "setTokens", desc := "(II)I" } : Jvm.MethodName))), (315, (Jvm.Cond.selects "TokenNets$Net" ({ cls := "TokenNets$Net", name := "setTokens", desc := "(II)I" } : Jvm.MethodName) ({ cls := "TokenNets$Net", name := "setTokens", desc := "(II)I" } : Jvm.MethodName)))]) (by decide +kernel)
set_option maxRecDepth 100000 in
theorem kX8_trap : y_ok z_mt zX8_trap = true := x_use (wl := [(14, (Jvm.Cond.initialized "TokenNets$Net")), (41, (Jvm.Cond.fieldLink "TokenNets" (124 : Nat) "TokenNets$Net" "places" "I")), (55, (Jvm.Cond.fieldLink "TokenNets" (96 : Nat) "TokenNets$Net" "takes" "[I")), (58, (Jvm.Cond.fieldLink "TokenNets" (103 : Nat) "TokenNets$Net" "gives" "[I")), (234, (Jvm.Cond.fieldLink "TokenNets" (12 : Nat) "TokenNets" "net" "LTokenNets$Net;")), (403, (Jvm.Cond.instanceMethod ({ cls := "TokenNets$Net", name := "tokensIn", desc := "(I)I" } : Jvm.MethodName))), (404, (Jvm.Cond.selects "TokenNets$Net" ({ cls := "TokenNets$Net", name := "tokensIn", desc := "(I)I" } : Jvm.MethodName) ({ cls := "TokenNets$Net", name := "tokensIn", desc := "(I)I" } : Jvm.MethodName))), (516, (Jvm.Cond.code ({ cls := "TokenNets", name := "trap", desc := "(II)I" } : Jvm.MethodName) prog_1_method_16_code (3 : Nat) (Option.some Jvm.ClassFile.FieldType.int))), (517, (Jvm.Cond.methodLink "TokenNets" (169 : Nat) ({ cls := "TokenNets$Net", name := "greatestClosed", desc := "(I[I[I)I" } : Jvm.MethodName))), (518, (Jvm.Cond.instanceMethod ({ cls := "TokenNets$Net", name := "greatestClosed", desc := "(I[I[I)I" } : Jvm.MethodName))), (519, (Jvm.Cond.selects "TokenNets$Net" ({ cls := "TokenNets$Net", name := "greatestClosed", desc := "(I[I[I)I" } : Jvm.MethodName) ({ cls := "TokenNets$Net", name := "greatestClosed", desc := "(I[I[I)I" } : Jvm.MethodName))), (522, (Jvm.Cond.methodLink "TokenNets" (173 : Nat) ({ cls := "TokenNets$Net", name := "tokensIn", desc := "(I)I" } : Jvm.MethodName)))]) (by decide +kernel)
set_option maxRecDepth 100000 in
theorem kX1_init : y_ok z_mt zX1_init = true := x_use (wl := [(14, (Jvm.Cond.initialized "TokenNets$Net")), (31, (Jvm.Cond.instanceMethod ({ cls := "java/lang/Object", name := "<init>", desc := "()V" } : Jvm.MethodName))), (32, (Jvm.Cond.code ({ cls := "java/lang/Object", name := "<init>", desc := "()V" } : Jvm.MethodName) object_method_1_code (1 : Nat) (Option.none : Option Jvm.ClassFile.FieldType))), (34, (Jvm.Cond.instantiable "TokenNets$Net" (7 : Nat))), (36, (Jvm.Cond.instanceMethod ({ cls := "TokenNets$Net", name := "<init>", desc := "()V" } : Jvm.MethodName))), (79, (Jvm.Cond.code ({ cls := "TokenNets$History", name := "<init>", desc := "()V" } : Jvm.MethodName) prog_3_method_1_code (2 : Nat) (Option.none : Option Jvm.ClassFile.FieldType))), (80, (Jvm.Cond.methodLink "TokenNets$History" (5 : Nat) ({ cls := "java/lang/Object", name := "<init>", desc := "()V" } : Jvm.MethodName))), (81, (Jvm.Cond.classLink "TokenNets$History" (11 : Nat) "TokenNets$Net")), (84, (Jvm.Cond.fieldLink "TokenNets$History" (13 : Nat) "TokenNets$History" "rows" "[LTokenNets$Net;"))]) (by decide +kernel)
set_option maxRecDepth 100000 in
theorem kX1_note : y_ok z_mt zX1_note = true := x_use (wl := [(14, (Jvm.Cond.initialized "TokenNets$Net")), (84, (Jvm.Cond.fieldLink "TokenNets$History" (13 : Nat) "TokenNets$History" "rows" "[LTokenNets$Net;")), (85, (Jvm.Cond.fieldLink "TokenNets$History" (18 : Nat) "TokenNets$History" "next" "I")), (266, (Jvm.Cond.code ({ cls := "TokenNets$History", name := "note", desc := "(LTokenNets$Net;)V" } : Jvm.MethodName) prog_3_method_2_code (2 : Nat) (Option.none : Option Jvm.ClassFile.FieldType))), (267, (Jvm.Cond.methodLink "TokenNets$History" (22 : Nat) ({ cls := "TokenNets$Net", name := "copy", desc := "(LTokenNets$Net;)V" } : Jvm.MethodName))), (268, (Jvm.Cond.instanceMethod ({ cls := "TokenNets$Net", name := "copy", desc := "(LTokenNets$Net;)V" } : Jvm.MethodName))), (269, (Jvm.Cond.selects "TokenNets$Net" ({ cls := "TokenNets$Net", name := "copy", desc := "(LTokenNets$Net;)V" } : Jvm.MethodName) ({ cls := "TokenNets$Net", name := "copy", desc := "(LTokenNets$Net;)V" } : Jvm.MethodName)))]) (by decide +kernel)
set_option maxRecDepth 100000 in
theorem kX1_settle : y_ok z_mt zX1_settle = true := x_use (wl := [(22, (Jvm.Cond.initialized "java/lang/Math")), (85, (Jvm.Cond.fieldLink "TokenNets$History" (18 : Nat) "TokenNets$History" "next" "I")), (86, (Jvm.Cond.fieldLink "TokenNets$History" (26 : Nat) "TokenNets$History" "many" "I")), (281, (Jvm.Cond.code ({ cls := "TokenNets$History", name := "settle", desc := "(I)I" } : Jvm.MethodName) prog_3_method_3_code (2 : Nat) (Option.some Jvm.ClassFile.FieldType.int))), (282, (Jvm.Cond.methodLink "TokenNets$History" (29 : Nat) ({ cls := "java/lang/Math", name := "min", desc := "(II)I" } : Jvm.MethodName))), (283, (Jvm.Cond.static ({ cls := "java/lang/Math", name := "min", desc := "(II)I" } : Jvm.MethodName))), (284, (Jvm.Cond.code ({ cls := "java/lang/Math", name := "min", desc := "(II)I" } : Jvm.MethodName) prog_14_method_69_code (2 : Nat) (Option.some Jvm.ClassFile.FieldType.int)))]) (by decide +kernel)
set_option maxRecDepth 100000 in
theorem kX2_init : y_ok z_mt zX2_init = true := x_use (wl := [(14, (Jvm.Cond.initialized "TokenNets$Net")), (31, (Jvm.Cond.instanceMethod ({ cls := "java/lang/Object", name := "<init>", desc := "()V" } : Jvm.MethodName))), (32, (Jvm.Cond.code ({ cls := "java/lang/Object", name := "<init>", desc := "()V" } : Jvm.MethodName) object_method_1_code (1 : Nat) (Option.none : Option Jvm.ClassFile.FieldType))), (34, (Jvm.Cond.instantiable "TokenNets$Net" (7 : Nat))), (36, (Jvm.Cond.instanceMethod ({ cls := "TokenNets$Net", name := "<init>", desc := "()V" } : Jvm.MethodName))), (74, (Jvm.Cond.arrayClass Jvm.ClassFile.FieldType.int)), (154, (Jvm.Cond.code ({ cls := "TokenNets$Marks", name := "<init>", desc := "()V" } : Jvm.MethodName) prog_4_method_1_code (1 : Nat) (Option.none : Option Jvm.ClassFile.FieldType))), (155, (Jvm.Cond.methodLink "TokenNets$Marks" (3 : Nat) ({ cls := "java/lang/Object", name := "<init>", desc := "()V" } : Jvm.MethodName))), (156, (Jvm.Cond.classLink "TokenNets$Marks" (9 : Nat) "TokenNets$Net")), (158, (Jvm.Cond.fieldLink "TokenNets$Marks" (12 : Nat) "TokenNets$Marks" "net" "LTokenNets$Net;")), (162, (Jvm.Cond.fieldLink "TokenNets$Marks" (18 : Nat) "TokenNets$Marks" "rows" "[I")), (165, (Jvm.Cond.fieldLink "TokenNets$Marks" (22 : Nat) "TokenNets$Marks" "next" "[I"))]) (by decide +kernel)
set_option maxRecDepth 100000 in
theorem kX2_areSame : y_ok z_mt zX2_areSame = true := x_use (wl := [(7, (Jvm.Cond.selects "TokenNets$Marks" ({ cls := "TokenNets$Marks", name := "isLike", desc := "(I[II)Z" } : Jvm.MethodName) ({ cls := "TokenNets$Marks", name := "isLike", desc := "(I[II)Z" } : Jvm.MethodName))), (19, (Jvm.Cond.initialized "TokenNets$Marks")), (162, (Jvm.Cond.fieldLink "TokenNets$Marks" (18 : Nat) "TokenNets$Marks" "rows" "[I")), (563, (Jvm.Cond.methodLink "TokenNets$Marks" (67 : Nat) ({ cls := "TokenNets$Marks", name := "isLike", desc := "(I[II)Z" } : Jvm.MethodName))), (565, (Jvm.Cond.instanceMethod ({ cls := "TokenNets$Marks", name := "isLike", desc := "(I[II)Z" } : Jvm.MethodName))), (615, (Jvm.Cond.code ({ cls := "TokenNets$Marks", name := "areSame", desc := "(II)Z" } : Jvm.MethodName) prog_4_method_6_code (3 : Nat) (Option.some Jvm.ClassFile.FieldType.boolean)))]) (by decide +kernel)
set_option maxRecDepth 100000 in
theorem kX2_begins : y_ok z_mt zX2_begins = true := x_use (wl := [(14, (Jvm.Cond.initialized "TokenNets$Net")), (21, (Jvm.Cond.initialized "java/lang/System")), (47, (Jvm.Cond.fieldLink "TokenNets$Marks" (50 : Nat) "TokenNets$Net" "tokens" "[I")), (158, (Jvm.Cond.fieldLink "TokenNets$Marks" (12 : Nat) "TokenNets$Marks" "net" "LTokenNets$Net;")), (161, (Jvm.Cond.fieldLink "TokenNets$Marks" (25 : Nat) "TokenNets$Marks" "known" "Z")), (165, (Jvm.Cond.fieldLink "TokenNets$Marks" (22 : Nat) "TokenNets$Marks" "next" "[I")), (170, (Jvm.Cond.fieldLink "TokenNets$Marks" (40 : Nat) "TokenNets$Marks" "many" "I")), (173, (Jvm.Cond.fieldLink "TokenNets$Marks" (44 : Nat) "TokenNets$Marks" "tooMany" "Z")), (176, (Jvm.Cond.fieldLink "TokenNets$Marks" (47 : Nat) "TokenNets$Marks" "possible" "I")), (268, (Jvm.Cond.instanceMethod ({ cls := "TokenNets$Net", name := "copy", desc := "(LTokenNets$Net;)V" } : Jvm.MethodName))), (269, (Jvm.Cond.selects "TokenNets$Net" ({ cls := "TokenNets$Net", name := "copy", desc := "(LTokenNets$Net;)V" } : Jvm.MethodName) ({ cls := "TokenNets$Net", name := "copy", desc := "(LTokenNets$Net;)V" } : Jvm.MethodName))), (272, (Jvm.Cond.static ({ cls := "java/lang/System", name := "arraycopy", desc := "(Ljava/lang/Object;ILjava/lang/Object;II)V" } : Jvm.MethodName))), (273, (Jvm.Cond.native ({ cls := "java/lang/System", name := "arraycopy", desc := "(Ljava/lang/Object;ILjava/lang/Object;II)V" } : Jvm.MethodName))), (458, (Jvm.Cond.instanceMethod ({ cls := "TokenNets$Net", name := "sameArcs", desc := "(LTokenNets$Net;)Z" } : Jvm.MethodName))), (459, (Jvm.Cond.selects "TokenNets$Net" ({ cls := "TokenNets$Net", name := "sameArcs", desc := "(LTokenNets$Net;)Z" } : Jvm.MethodName) ({ cls := "TokenNets$Net", name := "sameArcs", desc := "(LTokenNets$Net;)Z" } : Jvm.MethodName))), (540, (Jvm.Cond.code ({ cls := "TokenNets$Marks", name := "begins", desc := "(LTokenNets$Net;)Z" } : Jvm.MethodName) prog_4_method_2_code (2 : Nat) (Option.some Jvm.ClassFile.FieldType.boolean))), (541, (Jvm.Cond.methodLink "TokenNets$Marks" (29 : Nat) ({ cls := "TokenNets$Net", name := "sameArcs", desc := "(LTokenNets$Net;)Z" } : Jvm.MethodName))), (542, (Jvm.Cond.methodLink "TokenNets$Marks" (33 : Nat) ({ cls := "TokenNets$Net", name := "sameMarking", desc := "(LTokenNets$Net;)Z" } : Jvm.MethodName))), (543, (Jvm.Cond.instanceMethod ({ cls := "TokenNets$Net", name := "sameMarking", desc := "(LTokenNets$Net;)Z" } : Jvm.MethodName))), (544, (Jvm.Cond.selects "TokenNets$Net" ({ cls := "TokenNets$Net", name := "sameMarking", desc := "(LTokenNets$Net;)Z" } : Jvm.MethodName) ({ cls := "TokenNets$Net", name := "sameMarking", desc := "(LTokenNets$Net;)Z" } : Jvm.MethodName))), (546, (Jvm.Cond.methodLink "TokenNets$Marks" (36 : Nat) ({ cls := "TokenNets$Net", name := "copy", desc := "(LTokenNets$Net;)V" } : Jvm.MethodName))), (547, (Jvm.Cond.methodLink "TokenNets$Marks" (53 : Nat) ({ cls := "java/lang/System", name := "arraycopy", desc := "(Ljava/lang/Object;ILjava/lang/Object;II)V" } : Jvm.MethodName)))]) (by decide +kernel)
set_option maxRecDepth 100000 in
theorem kX2_isLike : y_ok z_mt zX2_isLike = true := x_use (wl := [(162, (Jvm.Cond.fieldLink "TokenNets$Marks" (18 : Nat) "TokenNets$Marks" "rows" "[I")), (566, (Jvm.Cond.code ({ cls := "TokenNets$Marks", name := "isLike", desc := "(I[II)Z" } : Jvm.MethodName) prog_4_method_7_code (5 : Nat) (Option.some Jvm.ClassFile.FieldType.boolean)))]) (by decide +kernel)
set_option maxRecDepth 100000 in
theorem kX2_isNext : y_ok z_mt zX2_isNext = true := x_use (wl := [(7, (Jvm.Cond.selects "TokenNets$Marks" ({ cls := "TokenNets$Marks", name := "isLike", desc := "(I[II)Z" } : Jvm.MethodName) ({ cls := "TokenNets$Marks", name := "isLike", desc := "(I[II)Z" } : Jvm.MethodName))), (19, (Jvm.Cond.initialized "TokenNets$Marks")), (165, (Jvm.Cond.fieldLink "TokenNets$Marks" (22 : Nat) "TokenNets$Marks" "next" "[I")), (562, (Jvm.Cond.code ({ cls := "TokenNets$Marks", name := "isNext", desc := "(I)Z" } : Jvm.MethodName) prog_4_method_5_code (2 : Nat) (Option.some Jvm.ClassFile.FieldType.boolean))), (563, (Jvm.Cond.methodLink "TokenNets$Marks" (67 : Nat) ({ cls := "TokenNets$Marks", name := "isLike", desc := "(I[II)Z" } : Jvm.MethodName))), (565, (Jvm.Cond.instanceMethod ({ cls := "TokenNets$Marks", name := "isLike", desc := "(I[II)Z" } : Jvm.MethodName)))]) (by decide +kernel)
set_option maxRecDepth 100000 in
theorem kX2_leads : y_ok z_mt zX2_leads = true := x_use (wl := [(14, (Jvm.Cond.initialized "TokenNets$Net")), (158, (Jvm.Cond.fieldLink "TokenNets$Marks" (12 : Nat) "TokenNets$Marks" "net" "LTokenNets$Net;")), (162, (Jvm.Cond.fieldLink "TokenNets$Marks" (18 : Nat) "TokenNets$Marks" "rows" "[I")), (165, (Jvm.Cond.fieldLink "TokenNets$Marks" (22 : Nat) "TokenNets$Marks" "next" "[I")), (176, (Jvm.Cond.fieldLink "TokenNets$Marks" (47 : Nat) "TokenNets$Marks" "possible" "I")), (331, (Jvm.Cond.instanceMethod ({ cls := "TokenNets$Net", name := "allows", desc := "([IIII)Z" } : Jvm.MethodName))), (332, (Jvm.Cond.selects "TokenNets$Net" ({ cls := "TokenNets$Net", name := "allows", desc := "([IIII)Z" } : Jvm.MethodName) ({ cls := "TokenNets$Net", name := "allows", desc := "([IIII)Z" } : Jvm.MethodName))), (339, (Jvm.Cond.instanceMethod ({ cls := "TokenNets$Net", name := "step", desc := "([III[I)V" } : Jvm.MethodName))), (340, (Jvm.Cond.selects "TokenNets$Net" ({ cls := "TokenNets$Net", name := "step", desc := "([III[I)V" } : Jvm.MethodName) ({ cls := "TokenNets$Net", name := "step", desc := "([III[I)V" } : Jvm.MethodName))), (579, (Jvm.Cond.code ({ cls := "TokenNets$Marks", name := "leads", desc := "(III)Z" } : Jvm.MethodName) prog_4_method_3_code (4 : Nat) (Option.some Jvm.ClassFile.FieldType.boolean))), (580, (Jvm.Cond.methodLink "TokenNets$Marks" (59 : Nat) ({ cls := "TokenNets$Net", name := "allows", desc := "([IIII)Z" } : Jvm.MethodName))), (581, (Jvm.Cond.methodLink "TokenNets$Marks" (63 : Nat) ({ cls := "TokenNets$Net", name := "step", desc := "([III[I)V" } : Jvm.MethodName)))]) (by decide +kernel)
set_option maxRecDepth 100000 in
theorem kX2_takeIn : y_ok z_mt zX2_takeIn = true := x_use (wl := [(21, (Jvm.Cond.initialized "java/lang/System")), (162, (Jvm.Cond.fieldLink "TokenNets$Marks" (18 : Nat) "TokenNets$Marks" "rows" "[I")), (165, (Jvm.Cond.fieldLink "TokenNets$Marks" (22 : Nat) "TokenNets$Marks" "next" "[I")), (170, (Jvm.Cond.fieldLink "TokenNets$Marks" (40 : Nat) "TokenNets$Marks" "many" "I")), (173, (Jvm.Cond.fieldLink "TokenNets$Marks" (44 : Nat) "TokenNets$Marks" "tooMany" "Z")), (272, (Jvm.Cond.static ({ cls := "java/lang/System", name := "arraycopy", desc := "(Ljava/lang/Object;ILjava/lang/Object;II)V" } : Jvm.MethodName))), (273, (Jvm.Cond.native ({ cls := "java/lang/System", name := "arraycopy", desc := "(Ljava/lang/Object;ILjava/lang/Object;II)V" } : Jvm.MethodName))), (547, (Jvm.Cond.methodLink "TokenNets$Marks" (53 : Nat) ({ cls := "java/lang/System", name := "arraycopy", desc := "(Ljava/lang/Object;ILjava/lang/Object;II)V" } : Jvm.MethodName))), (570, (Jvm.Cond.code ({ cls := "TokenNets$Marks", name := "takeIn", desc := "()Z" } : Jvm.MethodName) prog_4_method_4_code (1 : Nat) (Option.some Jvm.ClassFile.FieldType.boolean)))]) (by decide +kernel)
set_option maxRecDepth 100000 in
theorem kX3_init : y_ok z_mt zX3_init = true := x_use (wl := [(31, (Jvm.Cond.instanceMethod ({ cls := "java/lang/Object", name := "<init>", desc := "()V" } : Jvm.MethodName))), (32, (Jvm.Cond.code ({ cls := "java/lang/Object", name := "<init>", desc := "()V" } : Jvm.MethodName) object_method_1_code (1 : Nat) (Option.none : Option Jvm.ClassFile.FieldType))), (37, (Jvm.Cond.code ({ cls := "TokenNets$Net", name := "<init>", desc := "()V" } : Jvm.MethodName) prog_5_method_1_code (1 : Nat) (Option.none : Option Jvm.ClassFile.FieldType))), (38, (Jvm.Cond.methodLink "TokenNets$Net" (3 : Nat) ({ cls := "java/lang/Object", name := "<init>", desc := "()V" } : Jvm.MethodName))), (46, (Jvm.Cond.fieldLink "TokenNets$Net" (9 : Nat) "TokenNets$Net" "tokens" "[I")), (49, (Jvm.Cond.fieldLink "TokenNets$Net" (15 : Nat) "TokenNets$Net" "most" "[I")), (51, (Jvm.Cond.fieldLink "TokenNets$Net" (18 : Nat) "TokenNets$Net" "made" "[I")), (53, (Jvm.Cond.fieldLink "TokenNets$Net" (21 : Nat) "TokenNets$Net" "takes" "[I")), (56, (Jvm.Cond.fieldLink "TokenNets$Net" (24 : Nat) "TokenNets$Net" "gives" "[I")), (74, (Jvm.Cond.arrayClass Jvm.ClassFile.FieldType.int))]) (by decide +kernel)
end
section
set_option maxRecDepth 100000 in
theorem kX3_addMove : y_ok z_mt zX3_addMove = true := x_use (wl := [(42, (Jvm.Cond.fieldLink "TokenNets$Net" (31 : Nat) "TokenNets$Net" "moves" "I")), (292, (Jvm.Cond.code ({ cls := "TokenNets$Net", name := "addMove", desc := "()I" } : Jvm.MethodName) prog_5_method_8_code (1 : Nat) (Option.some Jvm.ClassFile.FieldType.int)))]) (by decide +kernel)
set_option maxRecDepth 100000 in
theorem kX3_addPlace : y_ok z_mt zX3_addPlace = true := x_use (wl := [(39, (Jvm.Cond.fieldLink "TokenNets$Net" (27 : Nat) "TokenNets$Net" "places" "I")), (46, (Jvm.Cond.fieldLink "TokenNets$Net" (9 : Nat) "TokenNets$Net" "tokens" "[I")), (49, (Jvm.Cond.fieldLink "TokenNets$Net" (15 : Nat) "TokenNets$Net" "most" "[I")), (277, (Jvm.Cond.code ({ cls := "TokenNets$Net", name := "addPlace", desc := "(I)I" } : Jvm.MethodName) prog_5_method_7_code (2 : Nat) (Option.some Jvm.ClassFile.FieldType.int)))]) (by decide +kernel)
set_option maxRecDepth 100000 in
theorem kX3_allMade : y_ok z_mt zX3_allMade = true := x_use (wl := [(51, (Jvm.Cond.fieldLink "TokenNets$Net" (18 : Nat) "TokenNets$Net" "made" "[I")), (410, (Jvm.Cond.code ({ cls := "TokenNets$Net", name := "allMade", desc := "()I" } : Jvm.MethodName) prog_5_method_21_code (3 : Nat) (Option.some Jvm.ClassFile.FieldType.int)))]) (by decide +kernel)
set_option maxRecDepth 100000 in
theorem kX3_allTokens : y_ok z_mt zX3_allTokens = true := x_use (wl := [(14, (Jvm.Cond.initialized "TokenNets$Net")), (401, (Jvm.Cond.code ({ cls := "TokenNets$Net", name := "allTokens", desc := "()I" } : Jvm.MethodName) prog_5_method_19_code (1 : Nat) (Option.some Jvm.ClassFile.FieldType.int))), (402, (Jvm.Cond.methodLink "TokenNets$Net" (91 : Nat) ({ cls := "TokenNets$Net", name := "tokensIn", desc := "(I)I" } : Jvm.MethodName))), (403, (Jvm.Cond.instanceMethod ({ cls := "TokenNets$Net", name := "tokensIn", desc := "(I)I" } : Jvm.MethodName))), (404, (Jvm.Cond.selects "TokenNets$Net" ({ cls := "TokenNets$Net", name := "tokensIn", desc := "(I)I" } : Jvm.MethodName) ({ cls := "TokenNets$Net", name := "tokensIn", desc := "(I)I" } : Jvm.MethodName)))]) (by decide +kernel)
set_option maxRecDepth 100000 in
theorem kX3_allows : y_ok z_mt zX3_allows = true := x_use (wl := [(53, (Jvm.Cond.fieldLink "TokenNets$Net" (21 : Nat) "TokenNets$Net" "takes" "[I")), (56, (Jvm.Cond.fieldLink "TokenNets$Net" (24 : Nat) "TokenNets$Net" "gives" "[I")), (333, (Jvm.Cond.code ({ cls := "TokenNets$Net", name := "allows", desc := "([IIII)Z" } : Jvm.MethodName) prog_5_method_16_code (7 : Nat) (Option.some Jvm.ClassFile.FieldType.boolean)))]) (by decide +kernel)
set_option maxRecDepth 100000 in
theorem kX3_canMake : y_ok z_mt zX3_canMake = true := x_use (wl := [(14, (Jvm.Cond.initialized "TokenNets$Net")), (46, (Jvm.Cond.fieldLink "TokenNets$Net" (9 : Nat) "TokenNets$Net" "tokens" "[I")), (328, (Jvm.Cond.code ({ cls := "TokenNets$Net", name := "canMake", desc := "(I)Z" } : Jvm.MethodName) prog_5_method_15_code (2 : Nat) (Option.some Jvm.ClassFile.FieldType.boolean))), (329, (Jvm.Cond.constant "TokenNets$Net" (85 : Nat) (99999 : Int32))), (330, (Jvm.Cond.methodLink "TokenNets$Net" (86 : Nat) ({ cls := "TokenNets$Net", name := "allows", desc := "([IIII)Z" } : Jvm.MethodName))), (331, (Jvm.Cond.instanceMethod ({ cls := "TokenNets$Net", name := "allows", desc := "([IIII)Z" } : Jvm.MethodName))), (332, (Jvm.Cond.selects "TokenNets$Net" ({ cls := "TokenNets$Net", name := "allows", desc := "([IIII)Z" } : Jvm.MethodName) ({ cls := "TokenNets$Net", name := "allows", desc := "([IIII)Z" } : Jvm.MethodName)))]) (by decide +kernel)
set_option maxRecDepth 100000 in
theorem kX3_carry : y_ok z_mt zX3_carry = true := x_use (wl := [(14, (Jvm.Cond.initialized "TokenNets$Net")), (22, (Jvm.Cond.initialized "java/lang/Math")), (46, (Jvm.Cond.fieldLink "TokenNets$Net" (9 : Nat) "TokenNets$Net" "tokens" "[I")), (49, (Jvm.Cond.fieldLink "TokenNets$Net" (15 : Nat) "TokenNets$Net" "most" "[I")), (51, (Jvm.Cond.fieldLink "TokenNets$Net" (18 : Nat) "TokenNets$Net" "made" "[I")), (337, (Jvm.Cond.code ({ cls := "TokenNets$Net", name := "carry", desc := "(I)V" } : Jvm.MethodName) prog_5_method_14_code (3 : Nat) (Option.none : Option Jvm.ClassFile.FieldType))), (338, (Jvm.Cond.methodLink "TokenNets$Net" (76 : Nat) ({ cls := "TokenNets$Net", name := "step", desc := "([III[I)V" } : Jvm.MethodName))), (339, (Jvm.Cond.instanceMethod ({ cls := "TokenNets$Net", name := "step", desc := "([III[I)V" } : Jvm.MethodName))), (340, (Jvm.Cond.selects "TokenNets$Net" ({ cls := "TokenNets$Net", name := "step", desc := "([III[I)V" } : Jvm.MethodName) ({ cls := "TokenNets$Net", name := "step", desc := "([III[I)V" } : Jvm.MethodName))), (343, (Jvm.Cond.methodLink "TokenNets$Net" (80 : Nat) ({ cls := "java/lang/Math", name := "max", desc := "(II)I" } : Jvm.MethodName))), (344, (Jvm.Cond.static ({ cls := "java/lang/Math", name := "max", desc := "(II)I" } : Jvm.MethodName))), (345, (Jvm.Cond.code ({ cls := "java/lang/Math", name := "max", desc := "(II)I" } : Jvm.MethodName) prog_14_method_65_code (2 : Nat) (Option.some Jvm.ClassFile.FieldType.int)))]) (by decide +kernel)
set_option maxRecDepth 100000 in
theorem kX3_copy : y_ok z_mt zX3_copy = true := x_use (wl := [(21, (Jvm.Cond.initialized "java/lang/System")), (39, (Jvm.Cond.fieldLink "TokenNets$Net" (27 : Nat) "TokenNets$Net" "places" "I")), (42, (Jvm.Cond.fieldLink "TokenNets$Net" (31 : Nat) "TokenNets$Net" "moves" "I")), (46, (Jvm.Cond.fieldLink "TokenNets$Net" (9 : Nat) "TokenNets$Net" "tokens" "[I")), (49, (Jvm.Cond.fieldLink "TokenNets$Net" (15 : Nat) "TokenNets$Net" "most" "[I")), (51, (Jvm.Cond.fieldLink "TokenNets$Net" (18 : Nat) "TokenNets$Net" "made" "[I")), (53, (Jvm.Cond.fieldLink "TokenNets$Net" (21 : Nat) "TokenNets$Net" "takes" "[I")), (56, (Jvm.Cond.fieldLink "TokenNets$Net" (24 : Nat) "TokenNets$Net" "gives" "[I")), (270, (Jvm.Cond.code ({ cls := "TokenNets$Net", name := "copy", desc := "(LTokenNets$Net;)V" } : Jvm.MethodName) prog_5_method_2_code (2 : Nat) (Option.none : Option Jvm.ClassFile.FieldType))), (271, (Jvm.Cond.methodLink "TokenNets$Net" (34 : Nat) ({ cls := "java/lang/System", name := "arraycopy", desc := "(Ljava/lang/Object;ILjava/lang/Object;II)V" } : Jvm.MethodName))), (272, (Jvm.Cond.static ({ cls := "java/lang/System", name := "arraycopy", desc := "(Ljava/lang/Object;ILjava/lang/Object;II)V" } : Jvm.MethodName))), (273, (Jvm.Cond.native ({ cls := "java/lang/System", name := "arraycopy", desc := "(Ljava/lang/Object;ILjava/lang/Object;II)V" } : Jvm.MethodName)))]) (by decide +kernel)
set_option maxRecDepth 100000 in
theorem kX3_greatestClosed : y_ok z_mt zX3_greatestClosed = true := x_use (wl := [(14, (Jvm.Cond.initialized "TokenNets$Net")), (42, (Jvm.Cond.fieldLink "TokenNets$Net" (31 : Nat) "TokenNets$Net" "moves" "I")), (387, (Jvm.Cond.instanceMethod ({ cls := "TokenNets$Net", name := "placesOf", desc := "([II)I" } : Jvm.MethodName))), (388, (Jvm.Cond.selects "TokenNets$Net" ({ cls := "TokenNets$Net", name := "placesOf", desc := "([II)I" } : Jvm.MethodName) ({ cls := "TokenNets$Net", name := "placesOf", desc := "([II)I" } : Jvm.MethodName))), (520, (Jvm.Cond.code ({ cls := "TokenNets$Net", name := "greatestClosed", desc := "(I[I[I)I" } : Jvm.MethodName) prog_5_method_25_code (8 : Nat) (Option.some Jvm.ClassFile.FieldType.int))), (521, (Jvm.Cond.methodLink "TokenNets$Net" (94 : Nat) ({ cls := "TokenNets$Net", name := "placesOf", desc := "([II)I" } : Jvm.MethodName)))]) (by decide +kernel)
set_option maxRecDepth 100000 in
theorem kX3_hasMove : y_ok z_mt zX3_hasMove = true := x_use (wl := [(42, (Jvm.Cond.fieldLink "TokenNets$Net" (31 : Nat) "TokenNets$Net" "moves" "I")), (304, (Jvm.Cond.code ({ cls := "TokenNets$Net", name := "hasMove", desc := "(I)Z" } : Jvm.MethodName) prog_5_method_6_code (2 : Nat) (Option.some Jvm.ClassFile.FieldType.boolean)))]) (by decide +kernel)
set_option maxRecDepth 100000 in
theorem kX3_hasPlace : y_ok z_mt zX3_hasPlace = true := x_use (wl := [(39, (Jvm.Cond.fieldLink "TokenNets$Net" (27 : Nat) "TokenNets$Net" "places" "I")), (308, (Jvm.Cond.code ({ cls := "TokenNets$Net", name := "hasPlace", desc := "(I)Z" } : Jvm.MethodName) prog_5_method_5_code (2 : Nat) (Option.some Jvm.ClassFile.FieldType.boolean)))]) (by decide +kernel)
set_option maxRecDepth 100000 in
theorem kX3_makeBySeed : y_ok z_mt zX3_makeBySeed = true := x_use (wl := [(0, (Jvm.Cond.selects "TokenNets$Net" ({ cls := "TokenNets$Net", name := "carry", desc := "(I)V" } : Jvm.MethodName) ({ cls := "TokenNets$Net", name := "carry", desc := "(I)V" } : Jvm.MethodName))), (14, (Jvm.Cond.initialized "TokenNets$Net")), (23, (Jvm.Cond.initialized "java/lang/Integer")), (334, (Jvm.Cond.methodLink "TokenNets$Net" (50 : Nat) ({ cls := "TokenNets$Net", name := "carry", desc := "(I)V" } : Jvm.MethodName))), (336, (Jvm.Cond.instanceMethod ({ cls := "TokenNets$Net", name := "carry", desc := "(I)V" } : Jvm.MethodName))), (346, (Jvm.Cond.methodLink "TokenNets$Net" (54 : Nat) ({ cls := "TokenNets$Net", name := "possibleMoves", desc := "()I" } : Jvm.MethodName))), (347, (Jvm.Cond.instanceMethod ({ cls := "TokenNets$Net", name := "possibleMoves", desc := "()I" } : Jvm.MethodName))), (348, (Jvm.Cond.selects "TokenNets$Net" ({ cls := "TokenNets$Net", name := "possibleMoves", desc := "()I" } : Jvm.MethodName) ({ cls := "TokenNets$Net", name := "possibleMoves", desc := "()I" } : Jvm.MethodName))), (350, (Jvm.Cond.methodLink "TokenNets$Net" (58 : Nat) ({ cls := "java/lang/Integer", name := "bitCount", desc := "(I)I" } : Jvm.MethodName))), (351, (Jvm.Cond.static ({ cls := "java/lang/Integer", name := "bitCount", desc := "(I)I" } : Jvm.MethodName))), (363, (Jvm.Cond.code ({ cls := "TokenNets$Net", name := "makeBySeed", desc := "(II)I" } : Jvm.MethodName) prog_5_method_12_code (8 : Nat) (Option.some Jvm.ClassFile.FieldType.int))), (364, (Jvm.Cond.constantLong "TokenNets$Net" (64 : Nat) (1103515245 : Int64))), (365, (Jvm.Cond.constantLong "TokenNets$Net" (66 : Nat) (12345 : Int64))), (366, (Jvm.Cond.constantLong "TokenNets$Net" (68 : Nat) (2147483648 : Int64))), (367, (Jvm.Cond.constantLong "TokenNets$Net" (70 : Nat) (65536 : Int64))), (368, (Jvm.Cond.methodLink "TokenNets$Net" (72 : Nat) ({ cls := "TokenNets$Net", name := "memberAt", desc := "(II)I" } : Jvm.MethodName))), (369, (Jvm.Cond.static ({ cls := "TokenNets$Net", name := "memberAt", desc := "(II)I" } : Jvm.MethodName)))]) (by decide +kernel)
set_option maxRecDepth 100000 in
theorem kX3_makeOne : y_ok z_mt zX3_makeOne = true := x_use (wl := [(0, (Jvm.Cond.selects "TokenNets$Net" ({ cls := "TokenNets$Net", name := "carry", desc := "(I)V" } : Jvm.MethodName) ({ cls := "TokenNets$Net", name := "carry", desc := "(I)V" } : Jvm.MethodName))), (14, (Jvm.Cond.initialized "TokenNets$Net")), (23, (Jvm.Cond.initialized "java/lang/Integer")), (301, (Jvm.Cond.methodLink "TokenNets$Net" (40 : Nat) ({ cls := "TokenNets$Net", name := "hasMove", desc := "(I)Z" } : Jvm.MethodName))), (302, (Jvm.Cond.instanceMethod ({ cls := "TokenNets$Net", name := "hasMove", desc := "(I)Z" } : Jvm.MethodName))), (303, (Jvm.Cond.selects "TokenNets$Net" ({ cls := "TokenNets$Net", name := "hasMove", desc := "(I)Z" } : Jvm.MethodName) ({ cls := "TokenNets$Net", name := "hasMove", desc := "(I)Z" } : Jvm.MethodName))), (324, (Jvm.Cond.code ({ cls := "TokenNets$Net", name := "makeOne", desc := "(I)I" } : Jvm.MethodName) prog_5_method_11_code (2 : Nat) (Option.some Jvm.ClassFile.FieldType.int))), (325, (Jvm.Cond.methodLink "TokenNets$Net" (47 : Nat) ({ cls := "TokenNets$Net", name := "canMake", desc := "(I)Z" } : Jvm.MethodName))), (326, (Jvm.Cond.instanceMethod ({ cls := "TokenNets$Net", name := "canMake", desc := "(I)Z" } : Jvm.MethodName))), (327, (Jvm.Cond.selects "TokenNets$Net" ({ cls := "TokenNets$Net", name := "canMake", desc := "(I)Z" } : Jvm.MethodName) ({ cls := "TokenNets$Net", name := "canMake", desc := "(I)Z" } : Jvm.MethodName))), (334, (Jvm.Cond.methodLink "TokenNets$Net" (50 : Nat) ({ cls := "TokenNets$Net", name := "carry", desc := "(I)V" } : Jvm.MethodName))), (336, (Jvm.Cond.instanceMethod ({ cls := "TokenNets$Net", name := "carry", desc := "(I)V" } : Jvm.MethodName))), (346, (Jvm.Cond.methodLink "TokenNets$Net" (54 : Nat) ({ cls := "TokenNets$Net", name := "possibleMoves", desc := "()I" } : Jvm.MethodName))), (347, (Jvm.Cond.instanceMethod ({ cls := "TokenNets$Net", name := "possibleMoves", desc := "()I" } : Jvm.MethodName))), (348, (Jvm.Cond.selects "TokenNets$Net" ({ cls := "TokenNets$Net", name := "possibleMoves", desc := "()I" } : Jvm.MethodName) ({ cls := "TokenNets$Net", name := "possibleMoves", desc := "()I" } : Jvm.MethodName))), (350, (Jvm.Cond.methodLink "TokenNets$Net" (58 : Nat) ({ cls := "java/lang/Integer", name := "bitCount", desc := "(I)I" } : Jvm.MethodName))), (351, (Jvm.Cond.static ({ cls := "java/lang/Integer", name := "bitCount", desc := "(I)I" } : Jvm.MethodName)))]) (by decide +kernel)
set_option maxRecDepth 100000 in
theorem kX3_memberAt : y_ok z_mt zX3_memberAt = true := x_use (wl := [(370, (Jvm.Cond.code ({ cls := "TokenNets$Net", name := "memberAt", desc := "(II)I" } : Jvm.MethodName) prog_5_method_13_code (4 : Nat) (Option.some Jvm.ClassFile.FieldType.int)))]) (by decide +kernel)
set_option maxRecDepth 100000 in
theorem kX3_movesAt : y_ok z_mt zX3_movesAt = true := x_use (wl := [(379, (Jvm.Cond.code ({ cls := "TokenNets$Net", name := "movesAt", desc := "([II)I" } : Jvm.MethodName) prog_5_method_22_code (5 : Nat) (Option.some Jvm.ClassFile.FieldType.int)))]) (by decide +kernel)
set_option maxRecDepth 100000 in
theorem kX3_placesOf : y_ok z_mt zX3_placesOf = true := x_use (wl := [(389, (Jvm.Cond.code ({ cls := "TokenNets$Net", name := "placesOf", desc := "([II)I" } : Jvm.MethodName) prog_5_method_23_code (5 : Nat) (Option.some Jvm.ClassFile.FieldType.int)))]) (by decide +kernel)
set_option maxRecDepth 100000 in
theorem kX3_possibleMoves : y_ok z_mt zX3_possibleMoves = true := x_use (wl := [(14, (Jvm.Cond.initialized "TokenNets$Net")), (42, (Jvm.Cond.fieldLink "TokenNets$Net" (31 : Nat) "TokenNets$Net" "moves" "I")), (325, (Jvm.Cond.methodLink "TokenNets$Net" (47 : Nat) ({ cls := "TokenNets$Net", name := "canMake", desc := "(I)Z" } : Jvm.MethodName))), (326, (Jvm.Cond.instanceMethod ({ cls := "TokenNets$Net", name := "canMake", desc := "(I)Z" } : Jvm.MethodName))), (327, (Jvm.Cond.selects "TokenNets$Net" ({ cls := "TokenNets$Net", name := "canMake", desc := "(I)Z" } : Jvm.MethodName) ({ cls := "TokenNets$Net", name := "canMake", desc := "(I)Z" } : Jvm.MethodName))), (349, (Jvm.Cond.code ({ cls := "TokenNets$Net", name := "possibleMoves", desc := "()I" } : Jvm.MethodName) prog_5_method_18_code (3 : Nat) (Option.some Jvm.ClassFile.FieldType.int)))]) (by decide +kernel)
set_option maxRecDepth 100000 in
theorem kX3_sameArcs : y_ok z_mt zX3_sameArcs = true := x_use (wl := [(39, (Jvm.Cond.fieldLink "TokenNets$Net" (27 : Nat) "TokenNets$Net" "places" "I")), (42, (Jvm.Cond.fieldLink "TokenNets$Net" (31 : Nat) "TokenNets$Net" "moves" "I")), (53, (Jvm.Cond.fieldLink "TokenNets$Net" (21 : Nat) "TokenNets$Net" "takes" "[I")), (56, (Jvm.Cond.fieldLink "TokenNets$Net" (24 : Nat) "TokenNets$Net" "gives" "[I")), (460, (Jvm.Cond.code ({ cls := "TokenNets$Net", name := "sameArcs", desc := "(LTokenNets$Net;)Z" } : Jvm.MethodName) prog_5_method_3_code (3 : Nat) (Option.some Jvm.ClassFile.FieldType.boolean)))]) (by decide +kernel)
set_option maxRecDepth 100000 in
theorem kX3_sameMarking : y_ok z_mt zX3_sameMarking = true := x_use (wl := [(46, (Jvm.Cond.fieldLink "TokenNets$Net" (9 : Nat) "TokenNets$Net" "tokens" "[I")), (545, (Jvm.Cond.code ({ cls := "TokenNets$Net", name := "sameMarking", desc := "(LTokenNets$Net;)Z" } : Jvm.MethodName) prog_5_method_4_code (3 : Nat) (Option.some Jvm.ClassFile.FieldType.boolean)))]) (by decide +kernel)
set_option maxRecDepth 100000 in
theorem kX3_setArc : y_ok z_mt zX3_setArc = true := x_use (wl := [(14, (Jvm.Cond.initialized "TokenNets$Net")), (53, (Jvm.Cond.fieldLink "TokenNets$Net" (21 : Nat) "TokenNets$Net" "takes" "[I")), (56, (Jvm.Cond.fieldLink "TokenNets$Net" (24 : Nat) "TokenNets$Net" "gives" "[I")), (300, (Jvm.Cond.code ({ cls := "TokenNets$Net", name := "setArc", desc := "(IIII)I" } : Jvm.MethodName) prog_5_method_9_code (7 : Nat) (Option.some Jvm.ClassFile.FieldType.int))), (301, (Jvm.Cond.methodLink "TokenNets$Net" (40 : Nat) ({ cls := "TokenNets$Net", name := "hasMove", desc := "(I)Z" } : Jvm.MethodName))), (302, (Jvm.Cond.instanceMethod ({ cls := "TokenNets$Net", name := "hasMove", desc := "(I)Z" } : Jvm.MethodName))), (303, (Jvm.Cond.selects "TokenNets$Net" ({ cls := "TokenNets$Net", name := "hasMove", desc := "(I)Z" } : Jvm.MethodName) ({ cls := "TokenNets$Net", name := "hasMove", desc := "(I)Z" } : Jvm.MethodName))), (305, (Jvm.Cond.methodLink "TokenNets$Net" (44 : Nat) ({ cls := "TokenNets$Net", name := "hasPlace", desc := "(I)Z" } : Jvm.MethodName))), (306, (Jvm.Cond.instanceMethod ({ cls := "TokenNets$Net", name := "hasPlace", desc := "(I)Z" } : Jvm.MethodName))), (307, (Jvm.Cond.selects "TokenNets$Net" ({ cls := "TokenNets$Net", name := "hasPlace", desc := "(I)Z" } : Jvm.MethodName) ({ cls := "TokenNets$Net", name := "hasPlace", desc := "(I)Z" } : Jvm.MethodName)))]) (by decide +kernel)
set_option maxRecDepth 100000 in
theorem kX3_setTokens : y_ok z_mt zX3_setTokens = true := x_use (wl := [(14, (Jvm.Cond.initialized "TokenNets$Net")), (46, (Jvm.Cond.fieldLink "TokenNets$Net" (9 : Nat) "TokenNets$Net" "tokens" "[I")), (49, (Jvm.Cond.fieldLink "TokenNets$Net" (15 : Nat) "TokenNets$Net" "most" "[I")), (305, (Jvm.Cond.methodLink "TokenNets$Net" (44 : Nat) ({ cls := "TokenNets$Net", name := "hasPlace", desc := "(I)Z" } : Jvm.MethodName))), (306, (Jvm.Cond.instanceMethod ({ cls := "TokenNets$Net", name := "hasPlace", desc := "(I)Z" } : Jvm.MethodName))), (307, (Jvm.Cond.selects "TokenNets$Net" ({ cls := "TokenNets$Net", name := "hasPlace", desc := "(I)Z" } : Jvm.MethodName) ({ cls := "TokenNets$Net", name := "hasPlace", desc := "(I)Z" } : Jvm.MethodName))), (316, (Jvm.Cond.code ({ cls := "TokenNets$Net", name := "setTokens", desc := "(II)I" } : Jvm.MethodName) prog_5_method_10_code (4 : Nat) (Option.some Jvm.ClassFile.FieldType.int)))]) (by decide +kernel)
set_option maxRecDepth 100000 in
theorem kX3_step : y_ok z_mt zX3_step = true := x_use (wl := [(53, (Jvm.Cond.fieldLink "TokenNets$Net" (21 : Nat) "TokenNets$Net" "takes" "[I")), (56, (Jvm.Cond.fieldLink "TokenNets$Net" (24 : Nat) "TokenNets$Net" "gives" "[I")), (341, (Jvm.Cond.code ({ cls := "TokenNets$Net", name := "step", desc := "([III[I)V" } : Jvm.MethodName) prog_5_method_17_code (8 : Nat) (Option.none : Option Jvm.ClassFile.FieldType))), (342, (Jvm.Cond.constant "TokenNets$Net" (90 : Nat) (1073741824 : Int32)))]) (by decide +kernel)
set_option maxRecDepth 100000 in
theorem kX3_surplus : y_ok z_mt zX3_surplus = true := x_use (wl := [(53, (Jvm.Cond.fieldLink "TokenNets$Net" (21 : Nat) "TokenNets$Net" "takes" "[I")), (56, (Jvm.Cond.fieldLink "TokenNets$Net" (24 : Nat) "TokenNets$Net" "gives" "[I")), (393, (Jvm.Cond.code ({ cls := "TokenNets$Net", name := "surplus", desc := "(I)I" } : Jvm.MethodName) prog_5_method_24_code (4 : Nat) (Option.some Jvm.ClassFile.FieldType.int)))]) (by decide +kernel)
set_option maxRecDepth 100000 in
theorem kX3_tokensIn : y_ok z_mt zX3_tokensIn = true := x_use (wl := [(46, (Jvm.Cond.fieldLink "TokenNets$Net" (9 : Nat) "TokenNets$Net" "tokens" "[I")), (405, (Jvm.Cond.code ({ cls := "TokenNets$Net", name := "tokensIn", desc := "(I)I" } : Jvm.MethodName) prog_5_method_20_code (4 : Nat) (Option.some Jvm.ClassFile.FieldType.int)))]) (by decide +kernel)
set_option maxRecDepth 100000 in
theorem kX4_init : y_ok z_mt zX4_init = true := x_use (wl := [(31, (Jvm.Cond.instanceMethod ({ cls := "java/lang/Object", name := "<init>", desc := "()V" } : Jvm.MethodName))), (32, (Jvm.Cond.code ({ cls := "java/lang/Object", name := "<init>", desc := "()V" } : Jvm.MethodName) object_method_1_code (1 : Nat) (Option.none : Option Jvm.ClassFile.FieldType))), (99, (Jvm.Cond.code ({ cls := "TokenNets$Pad", name := "<init>", desc := "()V" } : Jvm.MethodName) prog_6_method_1_code (1 : Nat) (Option.none : Option Jvm.ClassFile.FieldType))), (100, (Jvm.Cond.methodLink "TokenNets$Pad" (3 : Nat) ({ cls := "java/lang/Object", name := "<init>", desc := "()V" } : Jvm.MethodName))), (101, (Jvm.Cond.fieldLink "TokenNets$Pad" (11 : Nat) "TokenNets$Pad" "signs" "[C")), (109, (Jvm.Cond.arrayClass Jvm.ClassFile.FieldType.char))]) (by decide +kernel)
set_option maxRecDepth 100000 in
theorem kX5_init : y_ok z_mt zX5_init = true := x_use (wl := [(19, (Jvm.Cond.initialized "TokenNets$Marks")), (31, (Jvm.Cond.instanceMethod ({ cls := "java/lang/Object", name := "<init>", desc := "()V" } : Jvm.MethodName))), (32, (Jvm.Cond.code ({ cls := "java/lang/Object", name := "<init>", desc := "()V" } : Jvm.MethodName) object_method_1_code (1 : Nat) (Option.none : Option Jvm.ClassFile.FieldType))), (74, (Jvm.Cond.arrayClass Jvm.ClassFile.FieldType.int)), (148, (Jvm.Cond.code ({ cls := "TokenNets$Reach", name := "<init>", desc := "()V" } : Jvm.MethodName) prog_7_method_1_code (1 : Nat) (Option.none : Option Jvm.ClassFile.FieldType))), (149, (Jvm.Cond.methodLink "TokenNets$Reach" (3 : Nat) ({ cls := "java/lang/Object", name := "<init>", desc := "()V" } : Jvm.MethodName))), (150, (Jvm.Cond.classLink "TokenNets$Reach" (9 : Nat) "TokenNets$Marks")), (151, (Jvm.Cond.instantiable "TokenNets$Marks" (7 : Nat))), (153, (Jvm.Cond.instanceMethod ({ cls := "TokenNets$Marks", name := "<init>", desc := "()V" } : Jvm.MethodName))), (193, (Jvm.Cond.fieldLink "TokenNets$Reach" (12 : Nat) "TokenNets$Reach" "marks" "LTokenNets$Marks;")), (195, (Jvm.Cond.fieldLink "TokenNets$Reach" (18 : Nat) "TokenNets$Reach" "moves" "[I")), (196, (Jvm.Cond.fieldLink "TokenNets$Reach" (22 : Nat) "TokenNets$Reach" "table" "[I"))]) (by decide +kernel)
set_option maxRecDepth 100000 in
theorem kX5_fewestMoves : y_ok z_mt zX5_fewestMoves = true := x_use (wl := [(164, (Jvm.Cond.fieldLink "TokenNets$Reach" (82 : Nat) "TokenNets$Marks" "rows" "[I")), (169, (Jvm.Cond.fieldLink "TokenNets$Reach" (43 : Nat) "TokenNets$Marks" "many" "I")), (193, (Jvm.Cond.fieldLink "TokenNets$Reach" (12 : Nat) "TokenNets$Reach" "marks" "LTokenNets$Marks;")), (195, (Jvm.Cond.fieldLink "TokenNets$Reach" (18 : Nat) "TokenNets$Reach" "moves" "[I")), (589, (Jvm.Cond.code ({ cls := "TokenNets$Reach", name := "fewestMoves", desc := "(II)I" } : Jvm.MethodName) prog_7_method_6_code (4 : Nat) (Option.some Jvm.ClassFile.FieldType.int)))]) (by decide +kernel)
set_option maxRecDepth 100000 in
theorem kX5_find : y_ok z_mt zX5_find = true := x_use (wl := [(6, (Jvm.Cond.selects "TokenNets$Reach" ({ cls := "TokenNets$Reach", name := "meet", desc := "(I)V" } : Jvm.MethodName) ({ cls := "TokenNets$Reach", name := "meet", desc := "(I)V" } : Jvm.MethodName))), (8, (Jvm.Cond.selects "TokenNets$Reach" ({ cls := "TokenNets$Reach", name := "follow", desc := "(I)V" } : Jvm.MethodName) ({ cls := "TokenNets$Reach", name := "follow", desc := "(I)V" } : Jvm.MethodName))), (18, (Jvm.Cond.initialized "TokenNets$Reach")), (19, (Jvm.Cond.initialized "TokenNets$Marks")), (24, (Jvm.Cond.initialized "java/util/Arrays")), (169, (Jvm.Cond.fieldLink "TokenNets$Reach" (43 : Nat) "TokenNets$Marks" "many" "I")), (174, (Jvm.Cond.fieldLink "TokenNets$Reach" (46 : Nat) "TokenNets$Marks" "tooMany" "Z")), (193, (Jvm.Cond.fieldLink "TokenNets$Reach" (12 : Nat) "TokenNets$Reach" "marks" "LTokenNets$Marks;")), (196, (Jvm.Cond.fieldLink "TokenNets$Reach" (22 : Nat) "TokenNets$Reach" "table" "[I")), (197, (Jvm.Cond.fieldLink "TokenNets$Reach" (29 : Nat) "TokenNets$Reach" "dead" "I")), (536, (Jvm.Cond.code ({ cls := "TokenNets$Reach", name := "find", desc := "(LTokenNets$Net;)V" } : Jvm.MethodName) prog_7_method_2_code (3 : Nat) (Option.none : Option Jvm.ClassFile.FieldType))), (537, (Jvm.Cond.methodLink "TokenNets$Reach" (25 : Nat) ({ cls := "TokenNets$Marks", name := "begins", desc := "(LTokenNets$Net;)Z" } : Jvm.MethodName))), (538, (Jvm.Cond.instanceMethod ({ cls := "TokenNets$Marks", name := "begins", desc := "(LTokenNets$Net;)Z" } : Jvm.MethodName))), (539, (Jvm.Cond.selects "TokenNets$Marks" ({ cls := "TokenNets$Marks", name := "begins", desc := "(LTokenNets$Net;)Z" } : Jvm.MethodName) ({ cls := "TokenNets$Marks", name := "begins", desc := "(LTokenNets$Net;)Z" } : Jvm.MethodName))), (548, (Jvm.Cond.methodLink "TokenNets$Reach" (33 : Nat) ({ cls := "java/util/Arrays", name := "fill", desc := "([II)V" } : Jvm.MethodName))), (549, (Jvm.Cond.static ({ cls := "java/util/Arrays", name := "fill", desc := "([II)V" } : Jvm.MethodName))), (551, (Jvm.Cond.methodLink "TokenNets$Reach" (39 : Nat) ({ cls := "TokenNets$Reach", name := "meet", desc := "(I)V" } : Jvm.MethodName))), (553, (Jvm.Cond.instanceMethod ({ cls := "TokenNets$Reach", name := "meet", desc := "(I)V" } : Jvm.MethodName))), (571, (Jvm.Cond.methodLink "TokenNets$Reach" (50 : Nat) ({ cls := "TokenNets$Reach", name := "follow", desc := "(I)V" } : Jvm.MethodName))), (573, (Jvm.Cond.instanceMethod ({ cls := "TokenNets$Reach", name := "follow", desc := "(I)V" } : Jvm.MethodName)))]) (by decide +kernel)
end
section
set_option maxRecDepth 100000 in
theorem kX5_follow : y_ok z_mt zX5_follow = true := x_use (wl := [(6, (Jvm.Cond.selects "TokenNets$Reach" ({ cls := "TokenNets$Reach", name := "meet", desc := "(I)V" } : Jvm.MethodName) ({ cls := "TokenNets$Reach", name := "meet", desc := "(I)V" } : Jvm.MethodName))), (18, (Jvm.Cond.initialized "TokenNets$Reach")), (19, (Jvm.Cond.initialized "TokenNets$Marks")), (43, (Jvm.Cond.fieldLink "TokenNets$Reach" (57 : Nat) "TokenNets$Net" "moves" "I")), (159, (Jvm.Cond.fieldLink "TokenNets$Reach" (53 : Nat) "TokenNets$Marks" "net" "LTokenNets$Net;")), (193, (Jvm.Cond.fieldLink "TokenNets$Reach" (12 : Nat) "TokenNets$Reach" "marks" "LTokenNets$Marks;")), (195, (Jvm.Cond.fieldLink "TokenNets$Reach" (18 : Nat) "TokenNets$Reach" "moves" "[I")), (197, (Jvm.Cond.fieldLink "TokenNets$Reach" (29 : Nat) "TokenNets$Reach" "dead" "I")), (551, (Jvm.Cond.methodLink "TokenNets$Reach" (39 : Nat) ({ cls := "TokenNets$Reach", name := "meet", desc := "(I)V" } : Jvm.MethodName))), (553, (Jvm.Cond.instanceMethod ({ cls := "TokenNets$Reach", name := "meet", desc := "(I)V" } : Jvm.MethodName))), (574, (Jvm.Cond.code ({ cls := "TokenNets$Reach", name := "follow", desc := "(I)V" } : Jvm.MethodName) prog_7_method_3_code (4 : Nat) (Option.none : Option Jvm.ClassFile.FieldType))), (575, (Jvm.Cond.constant "TokenNets$Reach" (61 : Nat) (99999 : Int32))), (576, (Jvm.Cond.methodLink "TokenNets$Reach" (62 : Nat) ({ cls := "TokenNets$Marks", name := "leads", desc := "(III)Z" } : Jvm.MethodName))), (577, (Jvm.Cond.instanceMethod ({ cls := "TokenNets$Marks", name := "leads", desc := "(III)Z" } : Jvm.MethodName))), (578, (Jvm.Cond.selects "TokenNets$Marks" ({ cls := "TokenNets$Marks", name := "leads", desc := "(III)Z" } : Jvm.MethodName) ({ cls := "TokenNets$Marks", name := "leads", desc := "(III)Z" } : Jvm.MethodName)))]) (by decide +kernel)
set_option maxRecDepth 100000 in
theorem kX5_hash : y_ok z_mt zX5_hash = true := x_use (wl := [(557, (Jvm.Cond.code ({ cls := "TokenNets$Reach", name := "hash", desc := "([I)I" } : Jvm.MethodName) prog_7_method_5_code (3 : Nat) (Option.some Jvm.ClassFile.FieldType.int))), (558, (Jvm.Cond.constant "TokenNets$Reach" (81 : Nat) (-1640531527 : Int32)))]) (by decide +kernel)
set_option maxRecDepth 100000 in
theorem kX5_meet : y_ok z_mt zX5_meet = true := x_use (wl := [(18, (Jvm.Cond.initialized "TokenNets$Reach")), (19, (Jvm.Cond.initialized "TokenNets$Marks")), (166, (Jvm.Cond.fieldLink "TokenNets$Reach" (66 : Nat) "TokenNets$Marks" "next" "[I")), (169, (Jvm.Cond.fieldLink "TokenNets$Reach" (43 : Nat) "TokenNets$Marks" "many" "I")), (193, (Jvm.Cond.fieldLink "TokenNets$Reach" (12 : Nat) "TokenNets$Reach" "marks" "LTokenNets$Marks;")), (195, (Jvm.Cond.fieldLink "TokenNets$Reach" (18 : Nat) "TokenNets$Reach" "moves" "[I")), (196, (Jvm.Cond.fieldLink "TokenNets$Reach" (22 : Nat) "TokenNets$Reach" "table" "[I")), (554, (Jvm.Cond.code ({ cls := "TokenNets$Reach", name := "meet", desc := "(I)V" } : Jvm.MethodName) prog_7_method_4_code (4 : Nat) (Option.none : Option Jvm.ClassFile.FieldType))), (555, (Jvm.Cond.methodLink "TokenNets$Reach" (69 : Nat) ({ cls := "TokenNets$Reach", name := "hash", desc := "([I)I" } : Jvm.MethodName))), (556, (Jvm.Cond.static ({ cls := "TokenNets$Reach", name := "hash", desc := "([I)I" } : Jvm.MethodName))), (559, (Jvm.Cond.methodLink "TokenNets$Reach" (73 : Nat) ({ cls := "TokenNets$Marks", name := "isNext", desc := "(I)Z" } : Jvm.MethodName))), (560, (Jvm.Cond.instanceMethod ({ cls := "TokenNets$Marks", name := "isNext", desc := "(I)Z" } : Jvm.MethodName))), (561, (Jvm.Cond.selects "TokenNets$Marks" ({ cls := "TokenNets$Marks", name := "isNext", desc := "(I)Z" } : Jvm.MethodName) ({ cls := "TokenNets$Marks", name := "isNext", desc := "(I)Z" } : Jvm.MethodName))), (567, (Jvm.Cond.methodLink "TokenNets$Reach" (77 : Nat) ({ cls := "TokenNets$Marks", name := "takeIn", desc := "()Z" } : Jvm.MethodName))), (568, (Jvm.Cond.instanceMethod ({ cls := "TokenNets$Marks", name := "takeIn", desc := "()Z" } : Jvm.MethodName))), (569, (Jvm.Cond.selects "TokenNets$Marks" ({ cls := "TokenNets$Marks", name := "takeIn", desc := "()Z" } : Jvm.MethodName) ({ cls := "TokenNets$Marks", name := "takeIn", desc := "()Z" } : Jvm.MethodName)))]) (by decide +kernel)
set_option maxRecDepth 100000 in
theorem kX6_init : y_ok z_mt zX6_init = true := x_use (wl := [(14, (Jvm.Cond.initialized "TokenNets$Net")), (31, (Jvm.Cond.instanceMethod ({ cls := "java/lang/Object", name := "<init>", desc := "()V" } : Jvm.MethodName))), (32, (Jvm.Cond.code ({ cls := "java/lang/Object", name := "<init>", desc := "()V" } : Jvm.MethodName) object_method_1_code (1 : Nat) (Option.none : Option Jvm.ClassFile.FieldType))), (34, (Jvm.Cond.instantiable "TokenNets$Net" (7 : Nat))), (36, (Jvm.Cond.instanceMethod ({ cls := "TokenNets$Net", name := "<init>", desc := "()V" } : Jvm.MethodName))), (74, (Jvm.Cond.arrayClass Jvm.ClassFile.FieldType.int)), (108, (Jvm.Cond.arrayClass Jvm.ClassFile.FieldType.boolean)), (114, (Jvm.Cond.code ({ cls := "TokenNets$Sums", name := "<init>", desc := "()V" } : Jvm.MethodName) prog_8_method_1_code (1 : Nat) (Option.none : Option Jvm.ClassFile.FieldType))), (115, (Jvm.Cond.methodLink "TokenNets$Sums" (3 : Nat) ({ cls := "java/lang/Object", name := "<init>", desc := "()V" } : Jvm.MethodName))), (116, (Jvm.Cond.classLink "TokenNets$Sums" (9 : Nat) "TokenNets$Net")), (118, (Jvm.Cond.fieldLink "TokenNets$Sums" (12 : Nat) "TokenNets$Sums" "seen" "LTokenNets$Net;")), (120, (Jvm.Cond.fieldLink "TokenNets$Sums" (18 : Nat) "TokenNets$Sums" "gains" "[I")), (121, (Jvm.Cond.fieldLink "TokenNets$Sums" (22 : Nat) "TokenNets$Sums" "balances" "[I")), (122, (Jvm.Cond.fieldLink "TokenNets$Sums" (25 : Nat) "TokenNets$Sums" "weights" "[I")), (123, (Jvm.Cond.fieldLink "TokenNets$Sums" (28 : Nat) "TokenNets$Sums" "covered" "[Z")), (124, (Jvm.Cond.fieldLink "TokenNets$Sums" (32 : Nat) "TokenNets$Sums" "found" "[I"))]) (by decide +kernel)
set_option maxRecDepth 100000 in
theorem kX6_allDividedBy : y_ok z_mt zX6_allDividedBy = true := x_use (wl := [(122, (Jvm.Cond.fieldLink "TokenNets$Sums" (25 : Nat) "TokenNets$Sums" "weights" "[I")), (480, (Jvm.Cond.code ({ cls := "TokenNets$Sums", name := "allDividedBy", desc := "(I)Z" } : Jvm.MethodName) prog_8_method_10_code (3 : Nat) (Option.some Jvm.ClassFile.FieldType.boolean)))]) (by decide +kernel)
set_option maxRecDepth 100000 in
theorem kX6_balance : y_ok z_mt zX6_balance = true := x_use (wl := [(120, (Jvm.Cond.fieldLink "TokenNets$Sums" (18 : Nat) "TokenNets$Sums" "gains" "[I")), (121, (Jvm.Cond.fieldLink "TokenNets$Sums" (22 : Nat) "TokenNets$Sums" "balances" "[I")), (122, (Jvm.Cond.fieldLink "TokenNets$Sums" (25 : Nat) "TokenNets$Sums" "weights" "[I")), (496, (Jvm.Cond.code ({ cls := "TokenNets$Sums", name := "balance", desc := "(II)V" } : Jvm.MethodName) prog_8_method_7_code (5 : Nat) (Option.none : Option Jvm.ClassFile.FieldType)))]) (by decide +kernel)
set_option maxRecDepth 100000 in
theorem kX6_canBalance : y_ok z_mt zX6_canBalance = true := x_use (wl := [(120, (Jvm.Cond.fieldLink "TokenNets$Sums" (18 : Nat) "TokenNets$Sums" "gains" "[I")), (121, (Jvm.Cond.fieldLink "TokenNets$Sums" (22 : Nat) "TokenNets$Sums" "balances" "[I")), (472, (Jvm.Cond.code ({ cls := "TokenNets$Sums", name := "canBalance", desc := "(II)Z" } : Jvm.MethodName) prog_8_method_8_code (8 : Nat) (Option.some Jvm.ClassFile.FieldType.boolean)))]) (by decide +kernel)
set_option maxRecDepth 100000 in
theorem kX6_find : y_ok z_mt zX6_find = true := x_use (wl := [(1, (Jvm.Cond.selects "TokenNets$Sums" ({ cls := "TokenNets$Sums", name := "hasCoveredPart", desc := "(I)Z" } : Jvm.MethodName) ({ cls := "TokenNets$Sums", name := "hasCoveredPart", desc := "(I)Z" } : Jvm.MethodName))), (14, (Jvm.Cond.initialized "TokenNets$Net")), (17, (Jvm.Cond.initialized "TokenNets$Sums")), (40, (Jvm.Cond.fieldLink "TokenNets$Sums" (61 : Nat) "TokenNets$Net" "places" "I")), (54, (Jvm.Cond.fieldLink "TokenNets$Sums" (58 : Nat) "TokenNets$Net" "takes" "[I")), (57, (Jvm.Cond.fieldLink "TokenNets$Sums" (55 : Nat) "TokenNets$Net" "gives" "[I")), (118, (Jvm.Cond.fieldLink "TokenNets$Sums" (12 : Nat) "TokenNets$Sums" "seen" "LTokenNets$Net;")), (119, (Jvm.Cond.fieldLink "TokenNets$Sums" (39 : Nat) "TokenNets$Sums" "known" "Z")), (120, (Jvm.Cond.fieldLink "TokenNets$Sums" (18 : Nat) "TokenNets$Sums" "gains" "[I")), (123, (Jvm.Cond.fieldLink "TokenNets$Sums" (28 : Nat) "TokenNets$Sums" "covered" "[Z")), (125, (Jvm.Cond.fieldLink "TokenNets$Sums" (51 : Nat) "TokenNets$Sums" "many" "I")), (268, (Jvm.Cond.instanceMethod ({ cls := "TokenNets$Net", name := "copy", desc := "(LTokenNets$Net;)V" } : Jvm.MethodName))), (269, (Jvm.Cond.selects "TokenNets$Net" ({ cls := "TokenNets$Net", name := "copy", desc := "(LTokenNets$Net;)V" } : Jvm.MethodName) ({ cls := "TokenNets$Net", name := "copy", desc := "(LTokenNets$Net;)V" } : Jvm.MethodName))), (456, (Jvm.Cond.code ({ cls := "TokenNets$Sums", name := "find", desc := "(LTokenNets$Net;)V" } : Jvm.MethodName) prog_8_method_4_code (3 : Nat) (Option.none : Option Jvm.ClassFile.FieldType))), (457, (Jvm.Cond.methodLink "TokenNets$Sums" (43 : Nat) ({ cls := "TokenNets$Net", name := "sameArcs", desc := "(LTokenNets$Net;)Z" } : Jvm.MethodName))), (458, (Jvm.Cond.instanceMethod ({ cls := "TokenNets$Net", name := "sameArcs", desc := "(LTokenNets$Net;)Z" } : Jvm.MethodName))), (459, (Jvm.Cond.selects "TokenNets$Net" ({ cls := "TokenNets$Net", name := "sameArcs", desc := "(LTokenNets$Net;)Z" } : Jvm.MethodName) ({ cls := "TokenNets$Net", name := "sameArcs", desc := "(LTokenNets$Net;)Z" } : Jvm.MethodName))), (461, (Jvm.Cond.methodLink "TokenNets$Sums" (47 : Nat) ({ cls := "TokenNets$Net", name := "copy", desc := "(LTokenNets$Net;)V" } : Jvm.MethodName))), (462, (Jvm.Cond.methodLink "TokenNets$Sums" (64 : Nat) ({ cls := "TokenNets$Sums", name := "hasCoveredPart", desc := "(I)Z" } : Jvm.MethodName))), (464, (Jvm.Cond.instanceMethod ({ cls := "TokenNets$Sums", name := "hasCoveredPart", desc := "(I)Z" } : Jvm.MethodName))), (466, (Jvm.Cond.methodLink "TokenNets$Sums" (68 : Nat) ({ cls := "TokenNets$Sums", name := "weigh", desc := "(LTokenNets$Sums;II)V" } : Jvm.MethodName))), (467, (Jvm.Cond.static ({ cls := "TokenNets$Sums", name := "weigh", desc := "(LTokenNets$Sums;II)V" } : Jvm.MethodName)))]) (by decide +kernel)
set_option maxRecDepth 100000 in
theorem kX6_hasCoveredPart : y_ok z_mt zX6_hasCoveredPart = true := x_use (wl := [(123, (Jvm.Cond.fieldLink "TokenNets$Sums" (28 : Nat) "TokenNets$Sums" "covered" "[Z")), (465, (Jvm.Cond.code ({ cls := "TokenNets$Sums", name := "hasCoveredPart", desc := "(I)Z" } : Jvm.MethodName) prog_8_method_5_code (3 : Nat) (Option.some Jvm.ClassFile.FieldType.boolean)))]) (by decide +kernel)
set_option maxRecDepth 100000 in
theorem kX6_keep : y_ok z_mt zX6_keep = true := x_use (wl := [(4, (Jvm.Cond.selects "TokenNets$Sums" ({ cls := "TokenNets$Sums", name := "allDividedBy", desc := "(I)Z" } : Jvm.MethodName) ({ cls := "TokenNets$Sums", name := "allDividedBy", desc := "(I)Z" } : Jvm.MethodName))), (17, (Jvm.Cond.initialized "TokenNets$Sums")), (122, (Jvm.Cond.fieldLink "TokenNets$Sums" (25 : Nat) "TokenNets$Sums" "weights" "[I")), (124, (Jvm.Cond.fieldLink "TokenNets$Sums" (32 : Nat) "TokenNets$Sums" "found" "[I")), (125, (Jvm.Cond.fieldLink "TokenNets$Sums" (51 : Nat) "TokenNets$Sums" "many" "I")), (476, (Jvm.Cond.code ({ cls := "TokenNets$Sums", name := "keep", desc := "()V" } : Jvm.MethodName) prog_8_method_9_code (3 : Nat) (Option.none : Option Jvm.ClassFile.FieldType))), (477, (Jvm.Cond.methodLink "TokenNets$Sums" (83 : Nat) ({ cls := "TokenNets$Sums", name := "allDividedBy", desc := "(I)Z" } : Jvm.MethodName))), (479, (Jvm.Cond.instanceMethod ({ cls := "TokenNets$Sums", name := "allDividedBy", desc := "(I)Z" } : Jvm.MethodName)))]) (by decide +kernel)
set_option maxRecDepth 100000 in
theorem kX6_weigh : y_ok z_mt zX6_weigh = true := x_use (wl := [(2, (Jvm.Cond.selects "TokenNets$Sums" ({ cls := "TokenNets$Sums", name := "canBalance", desc := "(II)Z" } : Jvm.MethodName) ({ cls := "TokenNets$Sums", name := "canBalance", desc := "(II)Z" } : Jvm.MethodName))), (3, (Jvm.Cond.selects "TokenNets$Sums" ({ cls := "TokenNets$Sums", name := "keep", desc := "()V" } : Jvm.MethodName) ({ cls := "TokenNets$Sums", name := "keep", desc := "()V" } : Jvm.MethodName))), (5, (Jvm.Cond.selects "TokenNets$Sums" ({ cls := "TokenNets$Sums", name := "balance", desc := "(II)V" } : Jvm.MethodName) ({ cls := "TokenNets$Sums", name := "balance", desc := "(II)V" } : Jvm.MethodName))), (17, (Jvm.Cond.initialized "TokenNets$Sums")), (123, (Jvm.Cond.fieldLink "TokenNets$Sums" (28 : Nat) "TokenNets$Sums" "covered" "[Z")), (466, (Jvm.Cond.methodLink "TokenNets$Sums" (68 : Nat) ({ cls := "TokenNets$Sums", name := "weigh", desc := "(LTokenNets$Sums;II)V" } : Jvm.MethodName))), (467, (Jvm.Cond.static ({ cls := "TokenNets$Sums", name := "weigh", desc := "(LTokenNets$Sums;II)V" } : Jvm.MethodName))), (468, (Jvm.Cond.code ({ cls := "TokenNets$Sums", name := "weigh", desc := "(LTokenNets$Sums;II)V" } : Jvm.MethodName) prog_8_method_6_code (4 : Nat) (Option.none : Option Jvm.ClassFile.FieldType))), (469, (Jvm.Cond.methodLink "TokenNets$Sums" (72 : Nat) ({ cls := "TokenNets$Sums", name := "canBalance", desc := "(II)Z" } : Jvm.MethodName))), (471, (Jvm.Cond.instanceMethod ({ cls := "TokenNets$Sums", name := "canBalance", desc := "(II)Z" } : Jvm.MethodName))), (473, (Jvm.Cond.methodLink "TokenNets$Sums" (76 : Nat) ({ cls := "TokenNets$Sums", name := "keep", desc := "()V" } : Jvm.MethodName))), (475, (Jvm.Cond.instanceMethod ({ cls := "TokenNets$Sums", name := "keep", desc := "()V" } : Jvm.MethodName))), (493, (Jvm.Cond.methodLink "TokenNets$Sums" (79 : Nat) ({ cls := "TokenNets$Sums", name := "balance", desc := "(II)V" } : Jvm.MethodName))), (495, (Jvm.Cond.instanceMethod ({ cls := "TokenNets$Sums", name := "balance", desc := "(II)V" } : Jvm.MethodName)))]) (by decide +kernel)
set_option maxRecDepth 100000 in
theorem kX6_weight : y_ok z_mt zX6_weight = true := x_use (wl := [(124, (Jvm.Cond.fieldLink "TokenNets$Sums" (32 : Nat) "TokenNets$Sums" "found" "[I")), (504, (Jvm.Cond.code ({ cls := "TokenNets$Sums", name := "weight", desc := "(II)I" } : Jvm.MethodName) prog_8_method_2_code (3 : Nat) (Option.some Jvm.ClassFile.FieldType.int)))]) (by decide +kernel)
set_option maxRecDepth 100000 in
theorem kX6_worth : y_ok z_mt zX6_worth = true := x_use (wl := [(17, (Jvm.Cond.initialized "TokenNets$Sums")), (500, (Jvm.Cond.code ({ cls := "TokenNets$Sums", name := "worth", desc := "(I[I)I" } : Jvm.MethodName) prog_8_method_3_code (5 : Nat) (Option.some Jvm.ClassFile.FieldType.int))), (501, (Jvm.Cond.methodLink "TokenNets$Sums" (35 : Nat) ({ cls := "TokenNets$Sums", name := "weight", desc := "(II)I" } : Jvm.MethodName))), (502, (Jvm.Cond.instanceMethod ({ cls := "TokenNets$Sums", name := "weight", desc := "(II)I" } : Jvm.MethodName))), (503, (Jvm.Cond.selects "TokenNets$Sums" ({ cls := "TokenNets$Sums", name := "weight", desc := "(II)I" } : Jvm.MethodName) ({ cls := "TokenNets$Sums", name := "weight", desc := "(II)I" } : Jvm.MethodName)))]) (by decide +kernel)
set_option maxRecDepth 100000 in
theorem kX7_init : y_ok z_mt zX7_init = true := x_use (wl := [(19, (Jvm.Cond.initialized "TokenNets$Marks")), (31, (Jvm.Cond.instanceMethod ({ cls := "java/lang/Object", name := "<init>", desc := "()V" } : Jvm.MethodName))), (32, (Jvm.Cond.code ({ cls := "java/lang/Object", name := "<init>", desc := "()V" } : Jvm.MethodName) object_method_1_code (1 : Nat) (Option.none : Option Jvm.ClassFile.FieldType))), (74, (Jvm.Cond.arrayClass Jvm.ClassFile.FieldType.int)), (151, (Jvm.Cond.instantiable "TokenNets$Marks" (7 : Nat))), (153, (Jvm.Cond.instanceMethod ({ cls := "TokenNets$Marks", name := "<init>", desc := "()V" } : Jvm.MethodName))), (212, (Jvm.Cond.code ({ cls := "TokenNets$Tree", name := "<init>", desc := "()V" } : Jvm.MethodName) prog_9_method_1_code (1 : Nat) (Option.none : Option Jvm.ClassFile.FieldType))), (213, (Jvm.Cond.methodLink "TokenNets$Tree" (3 : Nat) ({ cls := "java/lang/Object", name := "<init>", desc := "()V" } : Jvm.MethodName))), (214, (Jvm.Cond.classLink "TokenNets$Tree" (9 : Nat) "TokenNets$Marks")), (216, (Jvm.Cond.fieldLink "TokenNets$Tree" (12 : Nat) "TokenNets$Tree" "marks" "LTokenNets$Marks;")), (218, (Jvm.Cond.fieldLink "TokenNets$Tree" (18 : Nat) "TokenNets$Tree" "above" "[I")), (219, (Jvm.Cond.fieldLink "TokenNets$Tree" (22 : Nat) "TokenNets$Tree" "depths" "[I")), (220, (Jvm.Cond.fieldLink "TokenNets$Tree" (25 : Nat) "TokenNets$Tree" "path" "[I"))]) (by decide +kernel)
set_option maxRecDepth 100000 in
theorem kX7_add : y_ok z_mt zX7_add = true := x_use (wl := [(19, (Jvm.Cond.initialized "TokenNets$Marks")), (22, (Jvm.Cond.initialized "java/lang/Math")), (168, (Jvm.Cond.fieldLink "TokenNets$Tree" (40 : Nat) "TokenNets$Marks" "many" "I")), (216, (Jvm.Cond.fieldLink "TokenNets$Tree" (12 : Nat) "TokenNets$Tree" "marks" "LTokenNets$Marks;")), (218, (Jvm.Cond.fieldLink "TokenNets$Tree" (18 : Nat) "TokenNets$Tree" "above" "[I")), (219, (Jvm.Cond.fieldLink "TokenNets$Tree" (22 : Nat) "TokenNets$Tree" "depths" "[I")), (221, (Jvm.Cond.fieldLink "TokenNets$Tree" (32 : Nat) "TokenNets$Tree" "deepest" "I")), (344, (Jvm.Cond.static ({ cls := "java/lang/Math", name := "max", desc := "(II)I" } : Jvm.MethodName))), (345, (Jvm.Cond.code ({ cls := "java/lang/Math", name := "max", desc := "(II)I" } : Jvm.MethodName) prog_14_method_65_code (2 : Nat) (Option.some Jvm.ClassFile.FieldType.int))), (568, (Jvm.Cond.instanceMethod ({ cls := "TokenNets$Marks", name := "takeIn", desc := "()Z" } : Jvm.MethodName))), (569, (Jvm.Cond.selects "TokenNets$Marks" ({ cls := "TokenNets$Marks", name := "takeIn", desc := "()Z" } : Jvm.MethodName) ({ cls := "TokenNets$Marks", name := "takeIn", desc := "()Z" } : Jvm.MethodName))), (605, (Jvm.Cond.code ({ cls := "TokenNets$Tree", name := "add", desc := "(II)V" } : Jvm.MethodName) prog_9_method_3_code (3 : Nat) (Option.none : Option Jvm.ClassFile.FieldType))), (606, (Jvm.Cond.methodLink "TokenNets$Tree" (51 : Nat) ({ cls := "TokenNets$Marks", name := "takeIn", desc := "()Z" } : Jvm.MethodName))), (607, (Jvm.Cond.methodLink "TokenNets$Tree" (55 : Nat) ({ cls := "java/lang/Math", name := "max", desc := "(II)I" } : Jvm.MethodName)))]) (by decide +kernel)
set_option maxRecDepth 100000 in
theorem kX7_endlessPlaces : y_ok z_mt zX7_endlessPlaces = true := x_use (wl := [(20, (Jvm.Cond.initialized "TokenNets$Tree")), (622, (Jvm.Cond.constant "TokenNets$Tree" (89 : Nat) (1073741824 : Int32))), (624, (Jvm.Cond.instanceMethod ({ cls := "TokenNets$Tree", name := "mostTokens", desc := "(I)I" } : Jvm.MethodName))), (625, (Jvm.Cond.selects "TokenNets$Tree" ({ cls := "TokenNets$Tree", name := "mostTokens", desc := "(I)I" } : Jvm.MethodName) ({ cls := "TokenNets$Tree", name := "mostTokens", desc := "(I)I" } : Jvm.MethodName))), (635, (Jvm.Cond.code ({ cls := "TokenNets$Tree", name := "endlessPlaces", desc := "()I" } : Jvm.MethodName) prog_9_method_7_code (3 : Nat) (Option.some Jvm.ClassFile.FieldType.int))), (636, (Jvm.Cond.methodLink "TokenNets$Tree" (90 : Nat) ({ cls := "TokenNets$Tree", name := "mostTokens", desc := "(I)I" } : Jvm.MethodName)))]) (by decide +kernel)
set_option maxRecDepth 100000 in
theorem kX7_find : y_ok z_mt zX7_find = true := x_use (wl := [(9, (Jvm.Cond.selects "TokenNets$Tree" ({ cls := "TokenNets$Tree", name := "add", desc := "(II)V" } : Jvm.MethodName) ({ cls := "TokenNets$Tree", name := "add", desc := "(II)V" } : Jvm.MethodName))), (10, (Jvm.Cond.selects "TokenNets$Tree" ({ cls := "TokenNets$Tree", name := "follow", desc := "(I)V" } : Jvm.MethodName) ({ cls := "TokenNets$Tree", name := "follow", desc := "(I)V" } : Jvm.MethodName))), (19, (Jvm.Cond.initialized "TokenNets$Marks")), (20, (Jvm.Cond.initialized "TokenNets$Tree")), (168, (Jvm.Cond.fieldLink "TokenNets$Tree" (40 : Nat) "TokenNets$Marks" "many" "I")), (172, (Jvm.Cond.fieldLink "TokenNets$Tree" (43 : Nat) "TokenNets$Marks" "tooMany" "Z")), (216, (Jvm.Cond.fieldLink "TokenNets$Tree" (12 : Nat) "TokenNets$Tree" "marks" "LTokenNets$Marks;")), (221, (Jvm.Cond.fieldLink "TokenNets$Tree" (32 : Nat) "TokenNets$Tree" "deepest" "I")), (538, (Jvm.Cond.instanceMethod ({ cls := "TokenNets$Marks", name := "begins", desc := "(LTokenNets$Net;)Z" } : Jvm.MethodName))), (539, (Jvm.Cond.selects "TokenNets$Marks" ({ cls := "TokenNets$Marks", name := "begins", desc := "(LTokenNets$Net;)Z" } : Jvm.MethodName) ({ cls := "TokenNets$Marks", name := "begins", desc := "(LTokenNets$Net;)Z" } : Jvm.MethodName))), (600, (Jvm.Cond.code ({ cls := "TokenNets$Tree", name := "find", desc := "(LTokenNets$Net;)V" } : Jvm.MethodName) prog_9_method_2_code (3 : Nat) (Option.none : Option Jvm.ClassFile.FieldType))), (601, (Jvm.Cond.methodLink "TokenNets$Tree" (28 : Nat) ({ cls := "TokenNets$Marks", name := "begins", desc := "(LTokenNets$Net;)Z" } : Jvm.MethodName))), (602, (Jvm.Cond.methodLink "TokenNets$Tree" (36 : Nat) ({ cls := "TokenNets$Tree", name := "add", desc := "(II)V" } : Jvm.MethodName))), (604, (Jvm.Cond.instanceMethod ({ cls := "TokenNets$Tree", name := "add", desc := "(II)V" } : Jvm.MethodName))), (608, (Jvm.Cond.methodLink "TokenNets$Tree" (47 : Nat) ({ cls := "TokenNets$Tree", name := "follow", desc := "(I)V" } : Jvm.MethodName))), (610, (Jvm.Cond.instanceMethod ({ cls := "TokenNets$Tree", name := "follow", desc := "(I)V" } : Jvm.MethodName)))]) (by decide +kernel)
set_option maxRecDepth 100000 in
theorem kX7_follow : y_ok z_mt zX7_follow = true := x_use (wl := [(9, (Jvm.Cond.selects "TokenNets$Tree" ({ cls := "TokenNets$Tree", name := "add", desc := "(II)V" } : Jvm.MethodName) ({ cls := "TokenNets$Tree", name := "add", desc := "(II)V" } : Jvm.MethodName))), (11, (Jvm.Cond.selects "TokenNets$Tree" ({ cls := "TokenNets$Tree", name := "outgrow", desc := "(I[I)V" } : Jvm.MethodName) ({ cls := "TokenNets$Tree", name := "outgrow", desc := "(I[I)V" } : Jvm.MethodName))), (19, (Jvm.Cond.initialized "TokenNets$Marks")), (20, (Jvm.Cond.initialized "TokenNets$Tree")), (44, (Jvm.Cond.fieldLink "TokenNets$Tree" (69 : Nat) "TokenNets$Net" "moves" "I")), (160, (Jvm.Cond.fieldLink "TokenNets$Tree" (65 : Nat) "TokenNets$Marks" "net" "LTokenNets$Net;")), (167, (Jvm.Cond.fieldLink "TokenNets$Tree" (79 : Nat) "TokenNets$Marks" "next" "[I")), (172, (Jvm.Cond.fieldLink "TokenNets$Tree" (43 : Nat) "TokenNets$Marks" "tooMany" "Z")), (216, (Jvm.Cond.fieldLink "TokenNets$Tree" (12 : Nat) "TokenNets$Tree" "marks" "LTokenNets$Marks;")), (218, (Jvm.Cond.fieldLink "TokenNets$Tree" (18 : Nat) "TokenNets$Tree" "above" "[I")), (219, (Jvm.Cond.fieldLink "TokenNets$Tree" (22 : Nat) "TokenNets$Tree" "depths" "[I")), (220, (Jvm.Cond.fieldLink "TokenNets$Tree" (25 : Nat) "TokenNets$Tree" "path" "[I")), (577, (Jvm.Cond.instanceMethod ({ cls := "TokenNets$Marks", name := "leads", desc := "(III)Z" } : Jvm.MethodName))), (578, (Jvm.Cond.selects "TokenNets$Marks" ({ cls := "TokenNets$Marks", name := "leads", desc := "(III)Z" } : Jvm.MethodName) ({ cls := "TokenNets$Marks", name := "leads", desc := "(III)Z" } : Jvm.MethodName))), (602, (Jvm.Cond.methodLink "TokenNets$Tree" (36 : Nat) ({ cls := "TokenNets$Tree", name := "add", desc := "(II)V" } : Jvm.MethodName))), (604, (Jvm.Cond.instanceMethod ({ cls := "TokenNets$Tree", name := "add", desc := "(II)V" } : Jvm.MethodName))), (611, (Jvm.Cond.code ({ cls := "TokenNets$Tree", name := "follow", desc := "(I)V" } : Jvm.MethodName) prog_9_method_4_code (6 : Nat) (Option.none : Option Jvm.ClassFile.FieldType))), (612, (Jvm.Cond.methodLink "TokenNets$Tree" (61 : Nat) ({ cls := "TokenNets$Marks", name := "areSame", desc := "(II)Z" } : Jvm.MethodName))), (613, (Jvm.Cond.instanceMethod ({ cls := "TokenNets$Marks", name := "areSame", desc := "(II)Z" } : Jvm.MethodName))), (614, (Jvm.Cond.selects "TokenNets$Marks" ({ cls := "TokenNets$Marks", name := "areSame", desc := "(II)Z" } : Jvm.MethodName) ({ cls := "TokenNets$Marks", name := "areSame", desc := "(II)Z" } : Jvm.MethodName))), (616, (Jvm.Cond.constant "TokenNets$Tree" (74 : Nat) (1073741833 : Int32))), (617, (Jvm.Cond.methodLink "TokenNets$Tree" (75 : Nat) ({ cls := "TokenNets$Marks", name := "leads", desc := "(III)Z" } : Jvm.MethodName))), (618, (Jvm.Cond.methodLink "TokenNets$Tree" (82 : Nat) ({ cls := "TokenNets$Tree", name := "outgrow", desc := "(I[I)V" } : Jvm.MethodName))), (620, (Jvm.Cond.instanceMethod ({ cls := "TokenNets$Tree", name := "outgrow", desc := "(I[I)V" } : Jvm.MethodName)))]) (by decide +kernel)
set_option maxRecDepth 100000 in
theorem kX7_mostTokens : y_ok z_mt zX7_mostTokens = true := x_use (wl := [(22, (Jvm.Cond.initialized "java/lang/Math")), (163, (Jvm.Cond.fieldLink "TokenNets$Tree" (86 : Nat) "TokenNets$Marks" "rows" "[I")), (168, (Jvm.Cond.fieldLink "TokenNets$Tree" (40 : Nat) "TokenNets$Marks" "many" "I")), (216, (Jvm.Cond.fieldLink "TokenNets$Tree" (12 : Nat) "TokenNets$Tree" "marks" "LTokenNets$Marks;")), (344, (Jvm.Cond.static ({ cls := "java/lang/Math", name := "max", desc := "(II)I" } : Jvm.MethodName))), (345, (Jvm.Cond.code ({ cls := "java/lang/Math", name := "max", desc := "(II)I" } : Jvm.MethodName) prog_14_method_65_code (2 : Nat) (Option.some Jvm.ClassFile.FieldType.int))), (607, (Jvm.Cond.methodLink "TokenNets$Tree" (55 : Nat) ({ cls := "java/lang/Math", name := "max", desc := "(II)I" } : Jvm.MethodName))), (626, (Jvm.Cond.code ({ cls := "TokenNets$Tree", name := "mostTokens", desc := "(I)I" } : Jvm.MethodName) prog_9_method_6_code (4 : Nat) (Option.some Jvm.ClassFile.FieldType.int)))]) (by decide +kernel)
set_option maxRecDepth 100000 in
theorem kX7_outgrow : y_ok z_mt zX7_outgrow = true := x_use (wl := [(163, (Jvm.Cond.fieldLink "TokenNets$Tree" (86 : Nat) "TokenNets$Marks" "rows" "[I")), (216, (Jvm.Cond.fieldLink "TokenNets$Tree" (12 : Nat) "TokenNets$Tree" "marks" "LTokenNets$Marks;")), (621, (Jvm.Cond.code ({ cls := "TokenNets$Tree", name := "outgrow", desc := "(I[I)V" } : Jvm.MethodName) prog_9_method_5_code (4 : Nat) (Option.none : Option Jvm.ClassFile.FieldType))), (622, (Jvm.Cond.constant "TokenNets$Tree" (89 : Nat) (1073741824 : Int32)))]) (by decide +kernel)
set_option maxRecDepth 100000 in
theorem kL_at : y_ok z_mt zL_at = true := x_use (wl := [(422, (Jvm.Cond.code ({ cls := "TokenNetsLaw", name := "at", desc := "(JI)I" } : Jvm.MethodName) method_4_code (3 : Nat) (Option.some Jvm.ClassFile.FieldType.int))), (423, (Jvm.Cond.constantLong "TokenNetsLaw" (10 : Nat) (32767 : Int64)))]) (by decide +kernel)
set_option maxRecDepth 100000 in
theorem kL_behind : y_ok z_mt zL_behind = true := x_use (wl := [(12, (Jvm.Cond.initialized "TokenNetsLaw")), (420, (Jvm.Cond.methodLink "TokenNetsLaw" (14 : Nat) ({ cls := "TokenNetsLaw", name := "at", desc := "(JI)I" } : Jvm.MethodName))), (421, (Jvm.Cond.static ({ cls := "TokenNetsLaw", name := "at", desc := "(JI)I" } : Jvm.MethodName))), (424, (Jvm.Cond.methodLink "TokenNetsLaw" (20 : Nat) ({ cls := "TokenNetsLaw", name := "with", desc := "(JII)J" } : Jvm.MethodName))), (425, (Jvm.Cond.static ({ cls := "TokenNetsLaw", name := "with", desc := "(JII)J" } : Jvm.MethodName))), (430, (Jvm.Cond.code ({ cls := "TokenNetsLaw", name := "behind", desc := "(JI[I[I)J" } : Jvm.MethodName) method_7_code (8 : Nat) (Option.some Jvm.ClassFile.FieldType.long)))]) (by decide +kernel)
set_option maxRecDepth 100000 in
theorem kL_bits : y_ok z_mt zL_bits = true := x_use (wl := [(439, (Jvm.Cond.code ({ cls := "TokenNetsLaw", name := "bits", desc := "(I)I" } : Jvm.MethodName) method_9_code (3 : Nat) (Option.some Jvm.ClassFile.FieldType.int)))]) (by decide +kernel)
set_option maxRecDepth 100000 in
theorem kL_can : y_ok z_mt zL_can = true := x_use (wl := [(12, (Jvm.Cond.initialized "TokenNetsLaw")), (420, (Jvm.Cond.methodLink "TokenNetsLaw" (14 : Nat) ({ cls := "TokenNetsLaw", name := "at", desc := "(JI)I" } : Jvm.MethodName))), (421, (Jvm.Cond.static ({ cls := "TokenNetsLaw", name := "at", desc := "(JI)I" } : Jvm.MethodName))), (436, (Jvm.Cond.code ({ cls := "TokenNetsLaw", name := "can", desc := "(JI[I[I)Z" } : Jvm.MethodName) method_6_code (7 : Nat) (Option.some Jvm.ClassFile.FieldType.boolean)))]) (by decide +kernel)
set_option maxRecDepth 100000 in
theorem kL_cell : y_ok z_mt zL_cell = true := x_use (wl := [(413, (Jvm.Cond.code ({ cls := "TokenNetsLaw", name := "cell", desc := "([II)I" } : Jvm.MethodName) method_2_code (2 : Nat) (Option.some Jvm.ClassFile.FieldType.int))), (414, (Jvm.Cond.constant "TokenNetsLaw" (7 : Nat) (1016015469 : Int32))), (415, (Jvm.Cond.constant "TokenNetsLaw" (8 : Nat) (727620679 : Int32)))]) (by decide +kernel)
set_option maxRecDepth 100000 in
theorem kL_keeps : y_ok z_mt zL_keeps = true := x_use (wl := [(445, (Jvm.Cond.code ({ cls := "TokenNetsLaw", name := "keeps", desc := "(I[I[I)Z" } : Jvm.MethodName) method_12_code (6 : Nat) (Option.some Jvm.ClassFile.FieldType.boolean)))]) (by decide +kernel)
def zL_kept_c0 : List (Nat × yO) := [(0, .iconst 0, 1, 0, 0, 0), (1, .istore 5, 3, 0, 0, 0), (3, .iconst 1, 4, 1, 0, 0), (4, .istore 6, 6, 0, 0, 0), (6, .iload 6, 8, 0, 0, 0), (8, .iconst 1, 9, 1, 0, 0), (9, .iconst 2, 10, 2, 0, 0), (10, .aload_n 3, 11, 0, 0, 0), (11, .iconst 0, 12, 0, 0, 0), (12, .iaload, 13, 0, 0, 0), (13, .imul, 14, 0, 0, 0), (14, .ishl, 15, 0, 0, 0), (15, .if_icmp .ge 325, 18, 340, 0, 0), (18, .iconst 0, 19, 0, 0, 0), (19, .istore 7, 21, 0, 0, 0), (21, .iconst 0, 22, 0, 0, 0), (22, .istore 8, 24, 0, 0, 0), (24, .iload 8, 26, 0, 0, 0), (26, .aload_n 3, 27, 0, 0, 0), (27, .iconst 0, 28, 0, 0, 0), (28, .iaload, 29, 0, 0, 0), (29, .if_icmp .ge 34, 32, 63, 0, 0), (32, .iload 7, 34, 0, 0, 0), (34, .iload 6, 36, 0, 0, 0), (36, .iconst 2, 37, 2, 0, 0), (37, .aload_n 3, 38, 0, 0, 0), (38, .iconst 0, 39, 0, 0, 0), (39, .iaload, 40, 0, 0, 0), (40, .iconst 1, 41, 1, 0, 0), (41, .isub, 42, 0, 0, 0), (42, .iload 8, 44, 0, 0, 0), (44, .isub, 45, 0, 0, 0), (45, .imul, 46, 0, 0, 0), (46, .ishr, 47, 0, 0, 0), (47, .iconst 3, 48, 3, 0, 0), (48, .iand, 49, 0, 0, 0), (49, .iconst 2, 50, 2, 0, 0), (50, .iload 8, 52, 0, 0, 0), (52, .imul, 53, 0, 0, 0), (53, .ishl, 54, 0, 0, 0), (54, .ior, 55, 0, 0, 0), (55, .istore 7, 57, 0, 0, 0), (57, .iinc 8 1, 60, 1, 0, 0), (60, .goto (-36), 63, 24, 0, 0), (63, .iload 7, 65, 0, 0, 0)]
set_option maxRecDepth 100000 in
theorem kL_kept_0 : y_ch z_mt zL_kept zL_kept_c0 = true := x_usec (wl := []) (by decide +kernel)
def zL_kept_c1 : List (Nat × yO) := [(65, .aload_n 3, 66, 0, 0, 0), (66, .aload 4, 68, 0, 0, 0), (68, .invokestatic 32, 71, 81, 3, 0), (71, .istore 8, 73, 0, 0, 0), (73, .iconst 0, 74, 0, 0, 0), (74, .istore 9, 76, 0, 0, 0), (76, .iconst 0, 77, 0, 0, 0), (77, .istore 10, 79, 0, 0, 0), (79, .iconst 0, 80, 0, 0, 0), (80, .istore 11, 82, 0, 0, 0), (82, .iconst 0, 83, 0, 0, 0), (83, .istore 12, 85, 0, 0, 0), (85, .iload 12, 87, 0, 0, 0), (87, .aload_n 3, 88, 0, 0, 0), (88, .iconst 0, 89, 0, 0, 0), (89, .iaload, 90, 0, 0, 0), (90, .if_icmp .ge 68, 93, 158, 0, 0), (93, .iload 7, 95, 0, 0, 0), (95, .iconst 2, 96, 2, 0, 0), (96, .iload 12, 98, 0, 0, 0), (98, .imul, 99, 0, 0, 0), (99, .ishr, 100, 0, 0, 0), (100, .iconst 3, 101, 3, 0, 0), (101, .iand, 102, 0, 0, 0), (102, .istore 13, 104, 0, 0, 0), (104, .iload 9, 106, 0, 0, 0), (106, .iload 13, 108, 0, 0, 0), (108, .iconst 1, 109, 1, 0, 0), (109, .if_icmp .ne 7, 112, 116, 0, 0), (112, .iconst 1, 113, 1, 0, 0), (113, .goto 4, 116, 117, 0, 0), (116, .iconst 0, 117, 0, 0, 0), (117, .iadd, 118, 0, 0, 0), (118, .istore 9, 120, 0, 0, 0), (120, .iload 10, 122, 0, 0, 0), (122, .iload 13, 124, 0, 0, 0), (124, .iconst 2, 125, 2, 0, 0), (125, .if_icmp .ne 7, 128, 132, 0, 0), (128, .iconst 1, 129, 1, 0, 0), (129, .goto 4, 132, 133, 0, 0), (132, .iconst 0, 133, 0, 0, 0), (133, .iadd, 134, 0, 0, 0), (134, .istore 10, 136, 0, 0, 0), (136, .iload 11, 138, 0, 0, 0), (138, .iload 13, 140, 0, 0, 0)]
set_option maxRecDepth 100000 in
theorem kL_kept_1 : y_ch z_mt zL_kept zL_kept_c1 = true := x_usec (wl := [(12, (Jvm.Cond.initialized "TokenNetsLaw")), (443, (Jvm.Cond.methodLink "TokenNetsLaw" (32 : Nat) ({ cls := "TokenNetsLaw", name := "keeps", desc := "(I[I[I)Z" } : Jvm.MethodName))), (444, (Jvm.Cond.static ({ cls := "TokenNetsLaw", name := "keeps", desc := "(I[I[I)Z" } : Jvm.MethodName)))]) (by decide +kernel)
end
section
def zL_kept_c2 : List (Nat × yO) := [(140, .iconst 3, 141, 3, 0, 0), (141, .if_icmp .ne 7, 144, 148, 0, 0), (144, .iconst 1, 145, 1, 0, 0), (145, .goto 4, 148, 149, 0, 0), (148, .iconst 0, 149, 0, 0, 0), (149, .iadd, 150, 0, 0, 0), (150, .istore 11, 152, 0, 0, 0), (152, .iinc 12 1, 155, 1, 0, 0), (155, .goto (-70), 158, 85, 0, 0), (158, .iload 9, 160, 0, 0, 0), (160, .ifCond .ne 16, 163, 176, 0, 0), (163, .iload 10, 165, 0, 0, 0), (165, .ifCond .eq 169, 168, 334, 0, 0), (168, .iload 11, 170, 0, 0, 0), (170, .ifCond .ne 6, 173, 176, 0, 0), (173, .goto 161, 176, 334, 0, 0), (176, .iconst 1, 177, 1, 0, 0), (177, .istore 12, 179, 0, 0, 0), (179, .iload 12, 181, 0, 0, 0), (181, .iconst 1, 182, 1, 0, 0), (182, .iconst 2, 183, 2, 0, 0), (183, .aload_n 3, 184, 0, 0, 0), (184, .iconst 0, 185, 0, 0, 0), (185, .iaload, 186, 0, 0, 0), (186, .imul, 187, 0, 0, 0), (187, .ishl, 188, 0, 0, 0), (188, .if_icmp .ge 57, 191, 245, 0, 0), (191, .iload 8, 193, 0, 0, 0), (193, .ifCond .eq 52, 196, 245, 0, 0), (196, .iload 12, 198, 0, 0, 0), (198, .aload_n 3, 199, 0, 0, 0), (199, .aload 4, 201, 0, 0, 0), (201, .invokestatic 32, 204, 81, 3, 0), (204, .ifCond .eq 35, 207, 239, 0, 0), (207, .iload 12, 209, 0, 0, 0), (209, .invokestatic 36, 212, 85, 1, 0), (212, .iload 7, 214, 0, 0, 0), (214, .invokestatic 36, 217, 85, 1, 0), (217, .iconst (-1), 218, 4294967295, 0, 0), (218, .ixor, 219, 0, 0, 0), (219, .iand, 220, 0, 0, 0), (220, .ifCond .ne 19, 223, 239, 0, 0), (223, .iload 12, 225, 0, 0, 0), (225, .invokestatic 36, 228, 85, 1, 0), (228, .iload 7, 230, 0, 0, 0)]
set_option maxRecDepth 100000 in
theorem kL_kept_2 : y_ch z_mt zL_kept zL_kept_c2 = true := x_usec (wl := [(12, (Jvm.Cond.initialized "TokenNetsLaw")), (443, (Jvm.Cond.methodLink "TokenNetsLaw" (32 : Nat) ({ cls := "TokenNetsLaw", name := "keeps", desc := "(I[I[I)Z" } : Jvm.MethodName))), (444, (Jvm.Cond.static ({ cls := "TokenNetsLaw", name := "keeps", desc := "(I[I[I)Z" } : Jvm.MethodName))), (446, (Jvm.Cond.methodLink "TokenNetsLaw" (36 : Nat) ({ cls := "TokenNetsLaw", name := "places", desc := "(I)I" } : Jvm.MethodName))), (447, (Jvm.Cond.static ({ cls := "TokenNetsLaw", name := "places", desc := "(I)I" } : Jvm.MethodName)))]) (by decide +kernel)
def zL_kept_c3 : List (Nat × yO) := [(230, .invokestatic 36, 233, 85, 1, 0), (233, .if_icmp .eq 6, 236, 239, 0, 0), (236, .iconst 0, 237, 0, 0, 0), (237, .istore 8, 239, 0, 0, 0), (239, .iinc 12 1, 242, 1, 0, 0), (242, .goto (-63), 245, 179, 0, 0), (245, .iload 8, 247, 0, 0, 0), (247, .ifCond .ne 6, 250, 253, 0, 0), (250, .goto 84, 253, 334, 0, 0), (253, .iconst 0, 254, 0, 0, 0), (254, .istore 12, 256, 0, 0, 0), (256, .iconst 0, 257, 0, 0, 0), (257, .istore 13, 259, 0, 0, 0), (259, .iload 13, 261, 0, 0, 0), (261, .aload_n 3, 262, 0, 0, 0), (262, .iconst 0, 263, 0, 0, 0), (263, .iaload, 264, 0, 0, 0), (264, .if_icmp .ge 52, 267, 316, 0, 0), (267, .aload_n 0, 268, 0, 0, 0), (268, .iload 5, 270, 0, 0, 0), (270, .iload 13, 272, 0, 0, 0), (272, .invokevirtual 40, 275, 6, 2, 7), (275, .iload 7, 277, 0, 0, 0), (277, .iconst 2, 278, 2, 0, 0), (278, .iload 13, 280, 0, 0, 0), (280, .imul, 281, 0, 0, 0), (281, .ishr, 282, 0, 0, 0), (282, .iconst 3, 283, 3, 0, 0), (283, .iand, 284, 0, 0, 0), (284, .if_icmp .eq 5, 287, 289, 0, 0), (287, .iconst 0, 288, 0, 0, 0), (288, .ireturn, 289, 0, 0, 0), (289, .iload 12, 291, 0, 0, 0), (291, .iload 7, 293, 0, 0, 0), (293, .iconst 2, 294, 2, 0, 0), (294, .iload 13, 296, 0, 0, 0), (296, .imul, 297, 0, 0, 0), (297, .ishr, 298, 0, 0, 0), (298, .iconst 3, 299, 3, 0, 0), (299, .iand, 300, 0, 0, 0), (300, .lload_n 1, 301, 0, 0, 0), (301, .iload 13, 303, 0, 0, 0), (303, .invokestatic 14, 306, 76, 2, 0), (306, .imul, 307, 0, 0, 0), (307, .iadd, 308, 0, 0, 0)]
set_option maxRecDepth 100000 in
theorem kL_kept_3 : y_ch z_mt zL_kept zL_kept_c3 = true := x_usec (wl := [(12, (Jvm.Cond.initialized "TokenNetsLaw")), (13, (Jvm.Cond.initialized "TokenNets")), (420, (Jvm.Cond.methodLink "TokenNetsLaw" (14 : Nat) ({ cls := "TokenNetsLaw", name := "at", desc := "(JI)I" } : Jvm.MethodName))), (421, (Jvm.Cond.static ({ cls := "TokenNetsLaw", name := "at", desc := "(JI)I" } : Jvm.MethodName))), (446, (Jvm.Cond.methodLink "TokenNetsLaw" (36 : Nat) ({ cls := "TokenNetsLaw", name := "places", desc := "(I)I" } : Jvm.MethodName))), (447, (Jvm.Cond.static ({ cls := "TokenNetsLaw", name := "places", desc := "(I)I" } : Jvm.MethodName))), (449, (Jvm.Cond.methodLink "TokenNetsLaw" (40 : Nat) ({ cls := "TokenNets", name := "kept", desc := "(II)I" } : Jvm.MethodName))), (450, (Jvm.Cond.instanceMethod ({ cls := "TokenNets", name := "kept", desc := "(II)I" } : Jvm.MethodName))), (451, (Jvm.Cond.selects "TokenNets" ({ cls := "TokenNets", name := "kept", desc := "(II)I" } : Jvm.MethodName) ({ cls := "TokenNets", name := "kept", desc := "(II)I" } : Jvm.MethodName)))]) (by decide +kernel)
def zL_kept_c4 : List (Nat × yO) := [(308, .istore 12, 310, 0, 0, 0), (310, .iinc 13 1, 313, 1, 0, 0), (313, .goto (-54), 316, 259, 0, 0), (316, .aload_n 0, 317, 0, 0, 0), (317, .iload 5, 319, 0, 0, 0), (319, .bipush 8, 321, 8, 0, 0), (321, .invokevirtual 40, 324, 6, 2, 7), (324, .iload 12, 326, 0, 0, 0), (326, .if_icmp .eq 5, 329, 331, 0, 0), (329, .iconst 0, 330, 0, 0, 0), (330, .ireturn, 331, 0, 0, 0), (331, .iinc 5 1, 334, 1, 0, 0), (334, .iinc 6 1, 337, 1, 0, 0), (337, .goto (-331), 340, 6, 0, 0), (340, .aload_n 0, 341, 0, 0, 0), (341, .invokevirtual 46, 344, 7, 0, 7), (344, .iload 5, 346, 0, 0, 0), (346, .if_icmp .ne 18, 349, 364, 0, 0), (349, .aload_n 0, 350, 0, 0, 0), (350, .iload 5, 352, 0, 0, 0), (352, .iconst 0, 353, 0, 0, 0), (353, .invokevirtual 40, 356, 6, 2, 7), (356, .iconst (-1), 357, 4294967295, 0, 0), (357, .if_icmp .ne 7, 360, 364, 0, 0), (360, .iconst 1, 361, 1, 0, 0), (361, .goto 4, 364, 365, 0, 0), (364, .iconst 0, 365, 0, 0, 0), (365, .ireturn, 366, 0, 0, 0)]
set_option maxRecDepth 100000 in
theorem kL_kept_4 : y_ch z_mt zL_kept zL_kept_c4 = true := x_usec (wl := [(13, (Jvm.Cond.initialized "TokenNets")), (449, (Jvm.Cond.methodLink "TokenNetsLaw" (40 : Nat) ({ cls := "TokenNets", name := "kept", desc := "(II)I" } : Jvm.MethodName))), (450, (Jvm.Cond.instanceMethod ({ cls := "TokenNets", name := "kept", desc := "(II)I" } : Jvm.MethodName))), (451, (Jvm.Cond.selects "TokenNets" ({ cls := "TokenNets", name := "kept", desc := "(II)I" } : Jvm.MethodName) ({ cls := "TokenNets", name := "kept", desc := "(II)I" } : Jvm.MethodName))), (506, (Jvm.Cond.methodLink "TokenNetsLaw" (46 : Nat) ({ cls := "TokenNets", name := "keptMany", desc := "()I" } : Jvm.MethodName))), (507, (Jvm.Cond.instanceMethod ({ cls := "TokenNets", name := "keptMany", desc := "()I" } : Jvm.MethodName))), (508, (Jvm.Cond.selects "TokenNets" ({ cls := "TokenNets", name := "keptMany", desc := "()I" } : Jvm.MethodName) ({ cls := "TokenNets", name := "keptMany", desc := "()I" } : Jvm.MethodName)))]) (by decide +kernel)
set_option maxRecDepth 100000 in
theorem kL_kept : y_ok z_mt zL_kept = true := x_use2 (wl := [(442, (Jvm.Cond.code ({ cls := "TokenNetsLaw", name := "kept", desc := "(LTokenNets;J[I[I)Z" } : Jvm.MethodName) method_14_code (14 : Nat) (Option.some Jvm.ClassFile.FieldType.boolean)))]) (by decide +kernel) (by
  show y_ch z_mt zL_kept zL_kept.2.2.2.2 = true
  rw [show zL_kept.2.2.2.2 = zL_kept_c0 ++ (zL_kept_c1 ++ (zL_kept_c2 ++ (zL_kept_c3 ++ (zL_kept_c4)))) from rfl]
  unfold y_ch
  simp only [List.all_append, Bool.and_eq_true]
  exact ⟨kL_kept_0, kL_kept_1, kL_kept_2, kL_kept_3, kL_kept_4⟩)
set_option maxRecDepth 100000 in
theorem kL_low : y_ok z_mt zL_low = true := x_use (wl := [(418, (Jvm.Cond.code ({ cls := "TokenNetsLaw", name := "low", desc := "(II)I" } : Jvm.MethodName) method_3_code (2 : Nat) (Option.some Jvm.ClassFile.FieldType.int))), (419, (Jvm.Cond.constant "TokenNetsLaw" (9 : Nat) (2147483647 : Int32)))]) (by decide +kernel)
set_option maxRecDepth 100000 in
theorem kL_moves : y_ok z_mt zL_moves = true := x_use (wl := [(12, (Jvm.Cond.initialized "TokenNetsLaw")), (433, (Jvm.Cond.code ({ cls := "TokenNetsLaw", name := "moves", desc := "(J[I[I)I" } : Jvm.MethodName) method_8_code (6 : Nat) (Option.some Jvm.ClassFile.FieldType.int))), (434, (Jvm.Cond.methodLink "TokenNetsLaw" (24 : Nat) ({ cls := "TokenNetsLaw", name := "can", desc := "(JI[I[I)Z" } : Jvm.MethodName))), (435, (Jvm.Cond.static ({ cls := "TokenNetsLaw", name := "can", desc := "(JI[I[I)Z" } : Jvm.MethodName)))]) (by decide +kernel)
set_option maxRecDepth 100000 in
theorem kL_places : y_ok z_mt zL_places = true := x_use (wl := [(448, (Jvm.Cond.code ({ cls := "TokenNetsLaw", name := "places", desc := "(I)I" } : Jvm.MethodName) method_13_code (3 : Nat) (Option.some Jvm.ClassFile.FieldType.int)))]) (by decide +kernel)
set_option maxRecDepth 100000 in
theorem kL_reach : y_ok z_mt zL_reach = true := x_use (wl := [(12, (Jvm.Cond.initialized "TokenNetsLaw")), (428, (Jvm.Cond.methodLink "TokenNetsLaw" (28 : Nat) ({ cls := "TokenNetsLaw", name := "behind", desc := "(JI[I[I)J" } : Jvm.MethodName))), (429, (Jvm.Cond.static ({ cls := "TokenNetsLaw", name := "behind", desc := "(JI[I[I)J" } : Jvm.MethodName))), (434, (Jvm.Cond.methodLink "TokenNetsLaw" (24 : Nat) ({ cls := "TokenNetsLaw", name := "can", desc := "(JI[I[I)Z" } : Jvm.MethodName))), (435, (Jvm.Cond.static ({ cls := "TokenNetsLaw", name := "can", desc := "(JI[I[I)Z" } : Jvm.MethodName))), (528, (Jvm.Cond.code ({ cls := "TokenNetsLaw", name := "reach", desc := "(J[I[I[J[I)I" } : Jvm.MethodName) method_10_code (13 : Nat) (Option.some Jvm.ClassFile.FieldType.int)))]) (by decide +kernel)
def zL_traps_c0 : List (Nat × yO) := [(0, .iconst 0, 1, 0, 0, 0), (1, .istore 6, 3, 0, 0, 0), (3, .iload 6, 5, 0, 0, 0), (5, .iconst 2, 6, 2, 0, 0), (6, .if_icmp .ge 263, 9, 269, 0, 0), (9, .iconst 0, 10, 0, 0, 0), (10, .istore 7, 12, 0, 0, 0), (12, .iload_n 1, 13, 0, 0, 0), (13, .istore 8, 15, 0, 0, 0), (15, .iload 8, 17, 0, 0, 0), (17, .ifCond .le 178, 20, 195, 0, 0), (20, .iconst 1, 21, 1, 0, 0), (21, .istore 9, 23, 0, 0, 0), (23, .iconst 0, 24, 0, 0, 0), (24, .istore 10, 26, 0, 0, 0), (26, .iload 10, 28, 0, 0, 0), (28, .aload 4, 30, 0, 0, 0), (30, .iconst 1, 31, 1, 0, 0), (31, .iaload, 32, 0, 0, 0), (32, .if_icmp .ge 125, 35, 157, 0, 0), (35, .iconst 0, 36, 0, 0, 0), (36, .istore 11, 38, 0, 0, 0), (38, .iconst 0, 39, 0, 0, 0), (39, .istore 12, 41, 0, 0, 0), (41, .iconst 0, 42, 0, 0, 0), (42, .istore 13, 44, 0, 0, 0), (44, .iload 13, 46, 0, 0, 0), (46, .aload 4, 48, 0, 0, 0), (48, .iconst 0, 49, 0, 0, 0), (49, .iaload, 50, 0, 0, 0), (50, .if_icmp .ge 61, 53, 111, 0, 0), (53, .iload 11, 55, 0, 0, 0), (55, .iload 8, 57, 0, 0, 0), (57, .iload 13, 59, 0, 0, 0), (59, .ishr, 60, 0, 0, 0), (60, .iconst 1, 61, 1, 0, 0), (61, .iand, 62, 0, 0, 0), (62, .aload 5, 64, 0, 0, 0), (64, .iconst 4, 65, 4, 0, 0), (65, .iload 10, 67, 0, 0, 0), (67, .imul, 68, 0, 0, 0), (68, .iload 13, 70, 0, 0, 0), (70, .iadd, 71, 0, 0, 0), (71, .iaload, 72, 0, 0, 0), (72, .bipush 16, 74, 16, 0, 0)]
set_option maxRecDepth 100000 in
theorem kL_traps_0 : y_ch z_mt zL_traps zL_traps_c0 = true := x_usec (wl := []) (by decide +kernel)
def zL_traps_c1 : List (Nat × yO) := [(74, .idiv, 75, 0, 0, 0), (75, .imul, 76, 0, 0, 0), (76, .iadd, 77, 0, 0, 0), (77, .istore 11, 79, 0, 0, 0), (79, .iload 12, 81, 0, 0, 0), (81, .iload 8, 83, 0, 0, 0), (83, .iload 13, 85, 0, 0, 0), (85, .ishr, 86, 0, 0, 0), (86, .iconst 1, 87, 1, 0, 0), (87, .iand, 88, 0, 0, 0), (88, .aload 5, 90, 0, 0, 0), (90, .iconst 4, 91, 4, 0, 0), (91, .iload 10, 93, 0, 0, 0), (93, .imul, 94, 0, 0, 0), (94, .iload 13, 96, 0, 0, 0), (96, .iadd, 97, 0, 0, 0), (97, .iaload, 98, 0, 0, 0), (98, .bipush 16, 100, 16, 0, 0), (100, .irem, 101, 0, 0, 0), (101, .imul, 102, 0, 0, 0), (102, .iadd, 103, 0, 0, 0), (103, .istore 12, 105, 0, 0, 0), (105, .iinc 13 1, 108, 1, 0, 0), (108, .goto (-64), 111, 44, 0, 0), (111, .iload 9, 113, 0, 0, 0), (113, .ifCond .eq 35, 116, 148, 0, 0), (116, .iload 6, 118, 0, 0, 0), (118, .ifCond .ne 16, 121, 134, 0, 0), (121, .iload 11, 123, 0, 0, 0), (123, .ifCond .eq 21, 126, 144, 0, 0), (126, .iload 12, 128, 0, 0, 0), (128, .ifCond .le 20, 131, 148, 0, 0), (131, .goto 13, 134, 144, 0, 0), (134, .iload 12, 136, 0, 0, 0), (136, .ifCond .eq 8, 139, 144, 0, 0), (139, .iload 11, 141, 0, 0, 0), (141, .ifCond .le 7, 144, 148, 0, 0), (144, .iconst 1, 145, 1, 0, 0), (145, .goto 4, 148, 149, 0, 0), (148, .iconst 0, 149, 0, 0, 0), (149, .istore 9, 151, 0, 0, 0), (151, .iinc 10 1, 154, 1, 0, 0), (154, .goto (-128), 157, 26, 0, 0), (157, .iload 9, 159, 0, 0, 0), (159, .ifCond .eq 21, 162, 180, 0, 0)]
set_option maxRecDepth 100000 in
theorem kL_traps_1 : y_ch z_mt zL_traps zL_traps_c1 = true := x_usec (wl := []) (by decide +kernel)
def zL_traps_c2 : List (Nat × yO) := [(162, .iload 8, 164, 0, 0, 0), (164, .invokestatic 50, 167, 78, 1, 0), (167, .iload 7, 169, 0, 0, 0), (169, .invokestatic 50, 172, 78, 1, 0), (172, .if_icmp .le 8, 175, 180, 0, 0), (175, .iload 8, 177, 0, 0, 0), (177, .goto 5, 180, 182, 0, 0), (180, .iload 7, 182, 0, 0, 0), (182, .istore 7, 184, 0, 0, 0), (184, .iload 8, 186, 0, 0, 0), (186, .iconst 1, 187, 1, 0, 0), (187, .isub, 188, 0, 0, 0), (188, .iload_n 1, 189, 0, 0, 0), (189, .iand, 190, 0, 0, 0), (190, .istore 8, 192, 0, 0, 0), (192, .goto (-177), 195, 15, 0, 0), (195, .iconst 0, 196, 0, 0, 0), (196, .istore 8, 198, 0, 0, 0), (198, .iconst 0, 199, 0, 0, 0), (199, .istore 9, 201, 0, 0, 0), (201, .iload 9, 203, 0, 0, 0), (203, .aload 4, 205, 0, 0, 0), (205, .iconst 0, 206, 0, 0, 0), (206, .iaload, 207, 0, 0, 0), (207, .if_icmp .ge 28, 210, 235, 0, 0), (210, .iload 8, 212, 0, 0, 0), (212, .iload 7, 214, 0, 0, 0), (214, .iload 9, 216, 0, 0, 0), (216, .ishr, 217, 0, 0, 0), (217, .iconst 1, 218, 1, 0, 0), (218, .iand, 219, 0, 0, 0), (219, .lload_n 2, 220, 0, 0, 0), (220, .iload 9, 222, 0, 0, 0), (222, .invokestatic 14, 225, 76, 2, 0), (225, .imul, 226, 0, 0, 0), (226, .iadd, 227, 0, 0, 0), (227, .istore 8, 229, 0, 0, 0), (229, .iinc 9 1, 232, 1, 0, 0), (232, .goto (-31), 235, 201, 0, 0), (235, .aload_n 0, 236, 0, 0, 0), (236, .iload_n 1, 237, 0, 0, 0), (237, .iload 6, 239, 0, 0, 0), (239, .invokevirtual 53, 242, 16, 2, 7), (242, .iload 7, 244, 0, 0, 0), (244, .if_icmp .ne 17, 247, 261, 0, 0)]
set_option maxRecDepth 100000 in
theorem kL_traps_2 : y_ch z_mt zL_traps zL_traps_c2 = true := x_usec (wl := [(12, (Jvm.Cond.initialized "TokenNetsLaw")), (13, (Jvm.Cond.initialized "TokenNets")), (420, (Jvm.Cond.methodLink "TokenNetsLaw" (14 : Nat) ({ cls := "TokenNetsLaw", name := "at", desc := "(JI)I" } : Jvm.MethodName))), (421, (Jvm.Cond.static ({ cls := "TokenNetsLaw", name := "at", desc := "(JI)I" } : Jvm.MethodName))), (437, (Jvm.Cond.methodLink "TokenNetsLaw" (50 : Nat) ({ cls := "TokenNetsLaw", name := "bits", desc := "(I)I" } : Jvm.MethodName))), (438, (Jvm.Cond.static ({ cls := "TokenNetsLaw", name := "bits", desc := "(I)I" } : Jvm.MethodName))), (513, (Jvm.Cond.methodLink "TokenNetsLaw" (53 : Nat) ({ cls := "TokenNets", name := "trap", desc := "(II)I" } : Jvm.MethodName))), (514, (Jvm.Cond.instanceMethod ({ cls := "TokenNets", name := "trap", desc := "(II)I" } : Jvm.MethodName))), (515, (Jvm.Cond.selects "TokenNets" ({ cls := "TokenNets", name := "trap", desc := "(II)I" } : Jvm.MethodName) ({ cls := "TokenNets", name := "trap", desc := "(II)I" } : Jvm.MethodName)))]) (by decide +kernel)
def zL_traps_c3 : List (Nat × yO) := [(247, .aload_n 0, 248, 0, 0, 0), (248, .iload_n 1, 249, 0, 0, 0), (249, .iconst 2, 250, 2, 0, 0), (250, .iload 6, 252, 0, 0, 0), (252, .iadd, 253, 0, 0, 0), (253, .invokevirtual 53, 256, 16, 2, 7), (256, .iload 8, 258, 0, 0, 0), (258, .if_icmp .eq 5, 261, 263, 0, 0), (261, .iconst 0, 262, 0, 0, 0), (262, .ireturn, 263, 0, 0, 0), (263, .iinc 6 1, 266, 1, 0, 0), (266, .goto (-263), 269, 3, 0, 0), (269, .iconst 1, 270, 1, 0, 0), (270, .ireturn, 271, 0, 0, 0)]
set_option maxRecDepth 100000 in
theorem kL_traps_3 : y_ch z_mt zL_traps zL_traps_c3 = true := x_usec (wl := [(13, (Jvm.Cond.initialized "TokenNets")), (513, (Jvm.Cond.methodLink "TokenNetsLaw" (53 : Nat) ({ cls := "TokenNets", name := "trap", desc := "(II)I" } : Jvm.MethodName))), (514, (Jvm.Cond.instanceMethod ({ cls := "TokenNets", name := "trap", desc := "(II)I" } : Jvm.MethodName))), (515, (Jvm.Cond.selects "TokenNets" ({ cls := "TokenNets", name := "trap", desc := "(II)I" } : Jvm.MethodName) ({ cls := "TokenNets", name := "trap", desc := "(II)I" } : Jvm.MethodName)))]) (by decide +kernel)
set_option maxRecDepth 100000 in
theorem kL_traps : y_ok z_mt zL_traps = true := x_use2 (wl := [(512, (Jvm.Cond.code ({ cls := "TokenNetsLaw", name := "traps", desc := "(LTokenNets;IJ[I[I)Z" } : Jvm.MethodName) method_15_code (14 : Nat) (Option.some Jvm.ClassFile.FieldType.boolean)))]) (by decide +kernel) (by
  show y_ch z_mt zL_traps zL_traps.2.2.2.2 = true
  rw [show zL_traps.2.2.2.2 = zL_traps_c0 ++ (zL_traps_c1 ++ (zL_traps_c2 ++ (zL_traps_c3))) from rfl]
  unfold y_ch
  simp only [List.all_append, Bool.and_eq_true]
  exact ⟨kL_traps_0, kL_traps_1, kL_traps_2, kL_traps_3⟩)
def zL_tree_c0 : List (Nat × yO) := [(0, .iconst 1, 1, 1, 0, 0), (1, .istore 7, 3, 0, 0, 0), (3, .aload 4, 5, 0, 0, 0), (5, .iconst 0, 6, 0, 0, 0), (6, .lload_n 0, 7, 0, 0, 0), (7, .lastore, 8, 0, 0, 0), (8, .aload 5, 10, 0, 0, 0), (10, .iconst 0, 11, 0, 0, 0), (11, .iconst 0, 12, 0, 0, 0), (12, .iastore, 13, 0, 0, 0), (13, .aload 6, 15, 0, 0, 0), (15, .iconst 0, 16, 0, 0, 0), (16, .iconst (-1), 17, 4294967295, 0, 0), (17, .iastore, 18, 0, 0, 0), (18, .iconst 0, 19, 0, 0, 0), (19, .istore 8, 21, 0, 0, 0), (21, .iload 8, 23, 0, 0, 0), (23, .iload 7, 25, 0, 0, 0), (25, .if_icmp .ge 302, 28, 327, 0, 0), (28, .iconst 0, 29, 0, 0, 0), (29, .istore 9, 31, 0, 0, 0), (31, .aload 6, 33, 0, 0, 0), (33, .iload 8, 35, 0, 0, 0), (35, .iaload, 36, 0, 0, 0), (36, .istore 10, 38, 0, 0, 0), (38, .iload 10, 40, 0, 0, 0), (40, .ifCond .lt 39, 43, 79, 0, 0), (43, .iload 9, 45, 0, 0, 0), (45, .ifCond .ne 17, 48, 62, 0, 0), (48, .aload 4, 50, 0, 0, 0), (50, .iload 10, 52, 0, 0, 0), (52, .laload, 53, 0, 0, 0), (53, .aload 4, 55, 0, 0, 0), (55, .iload 8, 57, 0, 0, 0), (57, .laload, 58, 0, 0, 0), (58, .lcmp, 59, 0, 0, 0), (59, .ifCond .ne 7, 62, 66, 0, 0), (62, .iconst 1, 63, 1, 0, 0), (63, .goto 4, 66, 67, 0, 0), (66, .iconst 0, 67, 0, 0, 0), (67, .istore 9, 69, 0, 0, 0), (69, .aload 6, 71, 0, 0, 0), (71, .iload 10, 73, 0, 0, 0), (73, .iaload, 74, 0, 0, 0), (74, .istore 10, 76, 0, 0, 0)]
set_option maxRecDepth 100000 in
theorem kL_tree_0 : y_ch z_mt zL_tree zL_tree_c0 = true := x_usec (wl := []) (by decide +kernel)
def zL_tree_c1 : List (Nat × yO) := [(76, .goto (-38), 79, 38, 0, 0), (79, .iconst 0, 80, 0, 0, 0), (80, .istore 10, 82, 0, 0, 0), (82, .iload 10, 84, 0, 0, 0), (84, .aload_n 2, 85, 0, 0, 0), (85, .iconst 1, 86, 1, 0, 0), (86, .iaload, 87, 0, 0, 0), (87, .if_icmp .ge 234, 90, 321, 0, 0), (90, .iload 9, 92, 0, 0, 0), (92, .ifCond .ne 229, 95, 321, 0, 0), (95, .aload 4, 97, 0, 0, 0), (97, .iload 8, 99, 0, 0, 0), (99, .laload, 100, 0, 0, 0), (100, .iload 10, 102, 0, 0, 0), (102, .aload_n 2, 103, 0, 0, 0), (103, .aload_n 3, 104, 0, 0, 0), (104, .invokestatic 24, 107, 79, 4, 0), (107, .ifCond .ne 6, 110, 113, 0, 0), (110, .goto 205, 113, 315, 0, 0), (113, .aload 4, 115, 0, 0, 0), (115, .iload 8, 117, 0, 0, 0), (117, .laload, 118, 0, 0, 0), (118, .iload 10, 120, 0, 0, 0), (120, .aload_n 2, 121, 0, 0, 0), (121, .aload_n 3, 122, 0, 0, 0), (122, .invokestatic 28, 125, 77, 4, 0), (125, .lstore 11, 127, 0, 0, 0), (127, .iconst 0, 128, 0, 0, 0), (128, .istore 13, 130, 0, 0, 0), (130, .iload 13, 132, 0, 0, 0), (132, .aload 5, 134, 0, 0, 0), (134, .iload 8, 136, 0, 0, 0), (136, .iaload, 137, 0, 0, 0), (137, .if_icmp .gt 139, 140, 276, 0, 0), (140, .iload 8, 142, 0, 0, 0), (142, .istore 14, 144, 0, 0, 0), (144, .aload 5, 146, 0, 0, 0), (146, .iload 14, 148, 0, 0, 0), (148, .iaload, 149, 0, 0, 0), (149, .iload 13, 151, 0, 0, 0), (151, .if_icmp .le 13, 154, 164, 0, 0), (154, .aload 6, 156, 0, 0, 0), (156, .iload 14, 158, 0, 0, 0), (158, .iaload, 159, 0, 0, 0), (159, .istore 14, 161, 0, 0, 0)]
set_option maxRecDepth 100000 in
theorem kL_tree_1 : y_ch z_mt zL_tree zL_tree_c1 = true := x_usec (wl := [(12, (Jvm.Cond.initialized "TokenNetsLaw")), (428, (Jvm.Cond.methodLink "TokenNetsLaw" (28 : Nat) ({ cls := "TokenNetsLaw", name := "behind", desc := "(JI[I[I)J" } : Jvm.MethodName))), (429, (Jvm.Cond.static ({ cls := "TokenNetsLaw", name := "behind", desc := "(JI[I[I)J" } : Jvm.MethodName))), (434, (Jvm.Cond.methodLink "TokenNetsLaw" (24 : Nat) ({ cls := "TokenNetsLaw", name := "can", desc := "(JI[I[I)Z" } : Jvm.MethodName))), (435, (Jvm.Cond.static ({ cls := "TokenNetsLaw", name := "can", desc := "(JI[I[I)Z" } : Jvm.MethodName)))]) (by decide +kernel)
def zL_tree_c2 : List (Nat × yO) := [(161, .goto (-17), 164, 144, 0, 0), (164, .iconst 1, 165, 1, 0, 0), (165, .istore 15, 167, 0, 0, 0), (167, .iconst 0, 168, 0, 0, 0), (168, .istore 16, 170, 0, 0, 0), (170, .iload 16, 172, 0, 0, 0), (172, .aload_n 2, 173, 0, 0, 0), (173, .iconst 0, 174, 0, 0, 0), (174, .iaload, 175, 0, 0, 0), (175, .if_icmp .ge 41, 178, 216, 0, 0), (178, .iload 15, 180, 0, 0, 0), (180, .ifCond .eq 27, 183, 207, 0, 0), (183, .aload 4, 185, 0, 0, 0), (185, .iload 14, 187, 0, 0, 0), (187, .laload, 188, 0, 0, 0), (188, .iload 16, 190, 0, 0, 0), (190, .invokestatic 14, 193, 76, 2, 0), (193, .lload 11, 195, 0, 0, 0), (195, .iload 16, 197, 0, 0, 0), (197, .invokestatic 14, 200, 76, 2, 0), (200, .if_icmp .gt 7, 203, 207, 0, 0), (203, .iconst 1, 204, 1, 0, 0), (204, .goto 4, 207, 208, 0, 0), (207, .iconst 0, 208, 0, 0, 0), (208, .istore 15, 210, 0, 0, 0), (210, .iinc 16 1, 213, 1, 0, 0), (213, .goto (-43), 216, 170, 0, 0), (216, .iconst 0, 217, 0, 0, 0), (217, .istore 16, 219, 0, 0, 0), (219, .iload 16, 221, 0, 0, 0), (221, .aload_n 2, 222, 0, 0, 0), (222, .iconst 0, 223, 0, 0, 0), (223, .iaload, 224, 0, 0, 0), (224, .if_icmp .ge 46, 227, 270, 0, 0), (227, .iload 15, 229, 0, 0, 0), (229, .ifCond .eq 41, 232, 270, 0, 0), (232, .aload 4, 234, 0, 0, 0), (234, .iload 14, 236, 0, 0, 0), (236, .laload, 237, 0, 0, 0), (237, .iload 16, 239, 0, 0, 0), (239, .invokestatic 14, 242, 76, 2, 0), (242, .lload 11, 244, 0, 0, 0), (244, .iload 16, 246, 0, 0, 0), (246, .invokestatic 14, 249, 76, 2, 0), (249, .if_icmp .ge 15, 252, 264, 0, 0)]
set_option maxRecDepth 100000 in
theorem kL_tree_2 : y_ch z_mt zL_tree zL_tree_c2 = true := x_usec (wl := [(12, (Jvm.Cond.initialized "TokenNetsLaw")), (420, (Jvm.Cond.methodLink "TokenNetsLaw" (14 : Nat) ({ cls := "TokenNetsLaw", name := "at", desc := "(JI)I" } : Jvm.MethodName))), (421, (Jvm.Cond.static ({ cls := "TokenNetsLaw", name := "at", desc := "(JI)I" } : Jvm.MethodName)))]) (by decide +kernel)
def zL_tree_c3 : List (Nat × yO) := [(252, .lload 11, 254, 0, 0, 0), (254, .iload 16, 256, 0, 0, 0), (256, .sipush 32767, 259, 32767, 0, 0), (259, .invokestatic 20, 262, 89, 3, 0), (262, .lstore 11, 264, 0, 0, 0), (264, .iinc 16 1, 267, 1, 0, 0), (267, .goto (-48), 270, 219, 0, 0), (270, .iinc 13 1, 273, 1, 0, 0), (273, .goto (-143), 276, 130, 0, 0), (276, .iload 7, 278, 0, 0, 0), (278, .bipush 60, 280, 60, 0, 0), (280, .if_icmp .ne 6, 283, 286, 0, 0), (283, .bipush 61, 285, 61, 0, 0), (285, .ireturn, 286, 0, 0, 0), (286, .aload 5, 288, 0, 0, 0), (288, .iload 7, 290, 0, 0, 0), (290, .aload 5, 292, 0, 0, 0), (292, .iload 8, 294, 0, 0, 0), (294, .iaload, 295, 0, 0, 0), (295, .iconst 1, 296, 1, 0, 0), (296, .iadd, 297, 0, 0, 0), (297, .iastore, 298, 0, 0, 0), (298, .aload 6, 300, 0, 0, 0), (300, .iload 7, 302, 0, 0, 0), (302, .iload 8, 304, 0, 0, 0), (304, .iastore, 305, 0, 0, 0), (305, .aload 4, 307, 0, 0, 0), (307, .iload 7, 309, 0, 0, 0), (309, .iinc 7 1, 312, 1, 0, 0), (312, .lload 11, 314, 0, 0, 0), (314, .lastore, 315, 0, 0, 0), (315, .iinc 10 1, 318, 1, 0, 0), (318, .goto (-236), 321, 82, 0, 0), (321, .iinc 8 1, 324, 1, 0, 0), (324, .goto (-303), 327, 21, 0, 0), (327, .iload 7, 329, 0, 0, 0), (329, .ireturn, 330, 0, 0, 0)]
set_option maxRecDepth 100000 in
theorem kL_tree_3 : y_ch z_mt zL_tree zL_tree_c3 = true := x_usec (wl := [(12, (Jvm.Cond.initialized "TokenNetsLaw")), (424, (Jvm.Cond.methodLink "TokenNetsLaw" (20 : Nat) ({ cls := "TokenNetsLaw", name := "with", desc := "(JII)J" } : Jvm.MethodName))), (425, (Jvm.Cond.static ({ cls := "TokenNetsLaw", name := "with", desc := "(JII)J" } : Jvm.MethodName)))]) (by decide +kernel)
set_option maxRecDepth 100000 in
theorem kL_tree : y_ok z_mt zL_tree = true := x_use2 (wl := [(592, (Jvm.Cond.code ({ cls := "TokenNetsLaw", name := "tree", desc := "(J[I[I[J[I[I)I" } : Jvm.MethodName) method_11_code (17 : Nat) (Option.some Jvm.ClassFile.FieldType.int)))]) (by decide +kernel) (by
  show y_ch z_mt zL_tree zL_tree.2.2.2.2 = true
  rw [show zL_tree.2.2.2.2 = zL_tree_c0 ++ (zL_tree_c1 ++ (zL_tree_c2 ++ (zL_tree_c3))) from rfl]
  unfold y_ch
  simp only [List.all_append, Bool.and_eq_true]
  exact ⟨kL_tree_0, kL_tree_1, kL_tree_2, kL_tree_3⟩)
set_option maxRecDepth 100000 in
theorem kL_with : y_ok z_mt zL_with = true := x_use (wl := [(423, (Jvm.Cond.constantLong "TokenNetsLaw" (10 : Nat) (32767 : Int64))), (426, (Jvm.Cond.code ({ cls := "TokenNetsLaw", name := "with", desc := "(JII)J" } : Jvm.MethodName) method_5_code (4 : Nat) (Option.some Jvm.ClassFile.FieldType.long))), (427, (Jvm.Cond.constantLong "TokenNetsLaw" (12 : Nat) (-1 : Int64)))]) (by decide +kernel)
def zL_would_c0 : List (Nat × yO) := [(0, .lload_n 2, 1, 0, 0, 0), (1, .aload 4, 3, 0, 0, 0), (3, .aload 5, 5, 0, 0, 0), (5, .aload 6, 7, 0, 0, 0), (7, .aload 7, 9, 0, 0, 0), (9, .invokestatic 56, 12, 86, 5, 0), (12, .istore 9, 14, 0, 0, 0), (14, .iload 9, 16, 0, 0, 0), (16, .bipush 61, 18, 61, 0, 0), (18, .if_icmp .ge 207, 21, 225, 0, 0), (21, .iconst 0, 22, 0, 0, 0), (22, .istore 10, 24, 0, 0, 0), (24, .iconst 0, 25, 0, 0, 0), (25, .istore 11, 27, 0, 0, 0), (27, .iconst 0, 28, 0, 0, 0), (28, .istore 12, 30, 0, 0, 0), (30, .iload 12, 32, 0, 0, 0), (32, .iload 9, 34, 0, 0, 0), (34, .if_icmp .ge 51, 37, 85, 0, 0), (37, .iload 10, 39, 0, 0, 0), (39, .aload 6, 41, 0, 0, 0), (41, .iload 12, 43, 0, 0, 0), (43, .laload, 44, 0, 0, 0), (44, .aload 4, 46, 0, 0, 0), (46, .aload 5, 48, 0, 0, 0), (48, .invokestatic 60, 51, 84, 3, 0), (51, .ifCond .ne 7, 54, 58, 0, 0), (54, .iconst 1, 55, 1, 0, 0), (55, .goto 4, 58, 59, 0, 0), (58, .iconst 0, 59, 0, 0, 0), (59, .iadd, 60, 0, 0, 0), (60, .istore 10, 62, 0, 0, 0), (62, .iload 11, 64, 0, 0, 0), (64, .aload 6, 66, 0, 0, 0), (66, .iload 12, 68, 0, 0, 0), (68, .laload, 69, 0, 0, 0), (69, .aload 4, 71, 0, 0, 0), (71, .aload 5, 73, 0, 0, 0), (73, .invokestatic 60, 76, 84, 3, 0), (76, .ior, 77, 0, 0, 0), (77, .istore 11, 79, 0, 0, 0), (79, .iinc 12 1, 82, 1, 0, 0), (82, .goto (-52), 85, 30, 0, 0), (85, .aload_n 0, 86, 0, 0, 0), (86, .iconst 0, 87, 0, 0, 0)]
set_option maxRecDepth 100000 in
theorem kL_would_0 : y_ch z_mt zL_would zL_would_c0 = true := x_usec (wl := [(12, (Jvm.Cond.initialized "TokenNetsLaw")), (431, (Jvm.Cond.methodLink "TokenNetsLaw" (60 : Nat) ({ cls := "TokenNetsLaw", name := "moves", desc := "(J[I[I)I" } : Jvm.MethodName))), (432, (Jvm.Cond.static ({ cls := "TokenNetsLaw", name := "moves", desc := "(J[I[I)I" } : Jvm.MethodName))), (526, (Jvm.Cond.methodLink "TokenNetsLaw" (56 : Nat) ({ cls := "TokenNetsLaw", name := "reach", desc := "(J[I[I[J[I)I" } : Jvm.MethodName))), (527, (Jvm.Cond.static ({ cls := "TokenNetsLaw", name := "reach", desc := "(J[I[I[J[I)I" } : Jvm.MethodName)))]) (by decide +kernel)
def zL_would_c1 : List (Nat × yO) := [(87, .invokevirtual 64, 90, 13, 1, 7), (90, .iload 9, 92, 0, 0, 0), (92, .if_icmp .ne 23, 95, 115, 0, 0), (95, .aload_n 0, 96, 0, 0, 0), (96, .iconst 1, 97, 1, 0, 0), (97, .invokevirtual 64, 100, 13, 1, 7), (100, .iload 10, 102, 0, 0, 0), (102, .if_icmp .ne 13, 105, 115, 0, 0), (105, .aload_n 0, 106, 0, 0, 0), (106, .iconst 2, 107, 2, 0, 0), (107, .invokevirtual 64, 110, 13, 1, 7), (110, .iload 11, 112, 0, 0, 0), (112, .if_icmp .eq 5, 115, 117, 0, 0), (115, .iconst 0, 116, 0, 0, 0), (116, .ireturn, 117, 0, 0, 0), (117, .iconst 0, 118, 0, 0, 0), (118, .istore 12, 120, 0, 0, 0), (120, .iload 12, 122, 0, 0, 0), (122, .aload 4, 124, 0, 0, 0), (124, .iconst 0, 125, 0, 0, 0), (125, .iaload, 126, 0, 0, 0), (126, .if_icmp .ge 99, 129, 225, 0, 0), (129, .iload_n 1, 130, 0, 0, 0), (130, .iconst 2, 131, 2, 0, 0), (131, .iload 12, 133, 0, 0, 0), (133, .imul, 134, 0, 0, 0), (134, .ishr, 135, 0, 0, 0), (135, .bipush 8, 137, 8, 0, 0), (137, .invokestatic 67, 140, 83, 2, 0), (140, .istore 13, 142, 0, 0, 0), (142, .bipush (-6), 144, 4294967290, 0, 0), (144, .istore 14, 146, 0, 0, 0), (146, .iconst 0, 147, 0, 0, 0), (147, .istore 15, 149, 0, 0, 0), (149, .iload 15, 151, 0, 0, 0), (151, .iload 9, 153, 0, 0, 0), (153, .if_icmp .ge 51, 156, 204, 0, 0), (156, .aload 6, 158, 0, 0, 0), (158, .iload 15, 160, 0, 0, 0), (160, .laload, 161, 0, 0, 0), (161, .iload 12, 163, 0, 0, 0), (163, .invokestatic 14, 166, 76, 2, 0), (166, .iload 13, 168, 0, 0, 0), (168, .if_icmp .lt 26, 171, 194, 0, 0), (171, .iload 14, 173, 0, 0, 0)]
set_option maxRecDepth 100000 in
theorem kL_would_1 : y_ch z_mt zL_would zL_would_c1 = true := x_usec (wl := [(12, (Jvm.Cond.initialized "TokenNetsLaw")), (13, (Jvm.Cond.initialized "TokenNets")), (416, (Jvm.Cond.methodLink "TokenNetsLaw" (67 : Nat) ({ cls := "TokenNetsLaw", name := "low", desc := "(II)I" } : Jvm.MethodName))), (417, (Jvm.Cond.static ({ cls := "TokenNetsLaw", name := "low", desc := "(II)I" } : Jvm.MethodName))), (420, (Jvm.Cond.methodLink "TokenNetsLaw" (14 : Nat) ({ cls := "TokenNetsLaw", name := "at", desc := "(JI)I" } : Jvm.MethodName))), (421, (Jvm.Cond.static ({ cls := "TokenNetsLaw", name := "at", desc := "(JI)I" } : Jvm.MethodName))), (529, (Jvm.Cond.methodLink "TokenNetsLaw" (64 : Nat) ({ cls := "TokenNets", name := "reached", desc := "(I)I" } : Jvm.MethodName))), (530, (Jvm.Cond.instanceMethod ({ cls := "TokenNets", name := "reached", desc := "(I)I" } : Jvm.MethodName))), (531, (Jvm.Cond.selects "TokenNets" ({ cls := "TokenNets", name := "reached", desc := "(I)I" } : Jvm.MethodName) ({ cls := "TokenNets", name := "reached", desc := "(I)I" } : Jvm.MethodName)))]) (by decide +kernel)
def zL_would_c2 : List (Nat × yO) := [(173, .ifCond .lt 13, 176, 186, 0, 0), (176, .aload 7, 178, 0, 0, 0), (178, .iload 15, 180, 0, 0, 0), (180, .iaload, 181, 0, 0, 0), (181, .iload 14, 183, 0, 0, 0), (183, .if_icmp .ge 11, 186, 194, 0, 0), (186, .aload 7, 188, 0, 0, 0), (188, .iload 15, 190, 0, 0, 0), (190, .iaload, 191, 0, 0, 0), (191, .goto 5, 194, 196, 0, 0), (194, .iload 14, 196, 0, 0, 0), (196, .istore 14, 198, 0, 0, 0), (198, .iinc 15 1, 201, 1, 0, 0), (201, .goto (-52), 204, 149, 0, 0), (204, .aload_n 0, 205, 0, 0, 0), (205, .iload 12, 207, 0, 0, 0), (207, .iload 13, 209, 0, 0, 0), (209, .invokevirtual 70, 212, 4, 2, 7), (212, .iload 14, 214, 0, 0, 0), (214, .if_icmp .eq 5, 217, 219, 0, 0), (217, .iconst 0, 218, 0, 0, 0), (218, .ireturn, 219, 0, 0, 0), (219, .iinc 12 1, 222, 1, 0, 0), (222, .goto (-102), 225, 120, 0, 0), (225, .lload_n 2, 226, 0, 0, 0), (226, .aload 4, 228, 0, 0, 0), (228, .aload 5, 230, 0, 0, 0), (230, .aload 6, 232, 0, 0, 0), (232, .aload 7, 234, 0, 0, 0), (234, .aload 8, 236, 0, 0, 0), (236, .invokestatic 73, 239, 88, 6, 0), (239, .istore 9, 241, 0, 0, 0), (241, .iload 9, 243, 0, 0, 0), (243, .bipush 61, 245, 61, 0, 0), (245, .if_icmp .ne 5, 248, 250, 0, 0), (248, .iconst 1, 249, 1, 0, 0), (249, .ireturn, 250, 0, 0, 0), (250, .iconst 0, 251, 0, 0, 0), (251, .istore 10, 253, 0, 0, 0), (253, .iconst 0, 254, 0, 0, 0), (254, .istore 11, 256, 0, 0, 0), (256, .iconst 0, 257, 0, 0, 0), (257, .istore 12, 259, 0, 0, 0), (259, .iconst 0, 260, 0, 0, 0), (260, .istore 13, 262, 0, 0, 0)]
set_option maxRecDepth 100000 in
theorem kL_would_2 : y_ch z_mt zL_would zL_would_c2 = true := x_usec (wl := [(12, (Jvm.Cond.initialized "TokenNetsLaw")), (13, (Jvm.Cond.initialized "TokenNets")), (582, (Jvm.Cond.methodLink "TokenNetsLaw" (70 : Nat) ({ cls := "TokenNets", name := "fewest", desc := "(II)I" } : Jvm.MethodName))), (583, (Jvm.Cond.instanceMethod ({ cls := "TokenNets", name := "fewest", desc := "(II)I" } : Jvm.MethodName))), (584, (Jvm.Cond.selects "TokenNets" ({ cls := "TokenNets", name := "fewest", desc := "(II)I" } : Jvm.MethodName) ({ cls := "TokenNets", name := "fewest", desc := "(II)I" } : Jvm.MethodName))), (590, (Jvm.Cond.methodLink "TokenNetsLaw" (73 : Nat) ({ cls := "TokenNetsLaw", name := "tree", desc := "(J[I[I[J[I[I)I" } : Jvm.MethodName))), (591, (Jvm.Cond.static ({ cls := "TokenNetsLaw", name := "tree", desc := "(J[I[I[J[I[I)I" } : Jvm.MethodName)))]) (by decide +kernel)
def zL_would_c3 : List (Nat × yO) := [(262, .iload 13, 264, 0, 0, 0), (264, .iload 9, 266, 0, 0, 0), (266, .if_icmp .ge 95, 269, 361, 0, 0), (269, .iconst 0, 270, 0, 0, 0), (270, .istore 14, 272, 0, 0, 0), (272, .iload 14, 274, 0, 0, 0), (274, .aload 4, 276, 0, 0, 0), (276, .iconst 0, 277, 0, 0, 0), (277, .iaload, 278, 0, 0, 0), (278, .if_icmp .ge 38, 281, 316, 0, 0), (281, .iload 10, 283, 0, 0, 0), (283, .aload 6, 285, 0, 0, 0), (285, .iload 13, 287, 0, 0, 0), (287, .laload, 288, 0, 0, 0), (288, .iload 14, 290, 0, 0, 0), (290, .invokestatic 14, 293, 76, 2, 0), (293, .sipush 32767, 296, 32767, 0, 0), (296, .if_icmp .ne 10, 299, 306, 0, 0), (299, .iconst 1, 300, 1, 0, 0), (300, .iload 14, 302, 0, 0, 0), (302, .ishl, 303, 0, 0, 0), (303, .goto 4, 306, 307, 0, 0), (306, .iconst 0, 307, 0, 0, 0), (307, .ior, 308, 0, 0, 0), (308, .istore 10, 310, 0, 0, 0), (310, .iinc 14 1, 313, 1, 0, 0), (313, .goto (-41), 316, 272, 0, 0), (316, .iload 11, 318, 0, 0, 0), (318, .aload 6, 320, 0, 0, 0), (320, .iload 13, 322, 0, 0, 0), (322, .laload, 323, 0, 0, 0), (323, .aload 4, 325, 0, 0, 0), (325, .aload 5, 327, 0, 0, 0), (327, .invokestatic 60, 330, 84, 3, 0), (330, .ior, 331, 0, 0, 0), (331, .istore 11, 333, 0, 0, 0), (333, .aload 7, 335, 0, 0, 0), (335, .iload 13, 337, 0, 0, 0), (337, .iaload, 338, 0, 0, 0), (338, .iload 12, 340, 0, 0, 0), (340, .if_icmp .le 11, 343, 351, 0, 0), (343, .aload 7, 345, 0, 0, 0), (345, .iload 13, 347, 0, 0, 0), (347, .iaload, 348, 0, 0, 0), (348, .goto 5, 351, 353, 0, 0)]
set_option maxRecDepth 100000 in
theorem kL_would_3 : y_ch z_mt zL_would zL_would_c3 = true := x_usec (wl := [(12, (Jvm.Cond.initialized "TokenNetsLaw")), (420, (Jvm.Cond.methodLink "TokenNetsLaw" (14 : Nat) ({ cls := "TokenNetsLaw", name := "at", desc := "(JI)I" } : Jvm.MethodName))), (421, (Jvm.Cond.static ({ cls := "TokenNetsLaw", name := "at", desc := "(JI)I" } : Jvm.MethodName))), (431, (Jvm.Cond.methodLink "TokenNetsLaw" (60 : Nat) ({ cls := "TokenNetsLaw", name := "moves", desc := "(J[I[I)I" } : Jvm.MethodName))), (432, (Jvm.Cond.static ({ cls := "TokenNetsLaw", name := "moves", desc := "(J[I[I)I" } : Jvm.MethodName)))]) (by decide +kernel)
def zL_would_c4 : List (Nat × yO) := [(351, .iload 12, 353, 0, 0, 0), (353, .istore 12, 355, 0, 0, 0), (355, .iinc 13 1, 358, 1, 0, 0), (358, .goto (-96), 361, 262, 0, 0), (361, .iconst 0, 362, 0, 0, 0), (362, .istore 13, 364, 0, 0, 0), (364, .iload 13, 366, 0, 0, 0), (366, .aload 4, 368, 0, 0, 0), (368, .iconst 0, 369, 0, 0, 0), (369, .iaload, 370, 0, 0, 0), (370, .if_icmp .ge 86, 373, 456, 0, 0), (373, .iconst 0, 374, 0, 0, 0), (374, .istore 14, 376, 0, 0, 0), (376, .iconst 0, 377, 0, 0, 0), (377, .istore 15, 379, 0, 0, 0), (379, .iload 15, 381, 0, 0, 0), (381, .iload 9, 383, 0, 0, 0), (383, .if_icmp .ge 41, 386, 424, 0, 0), (386, .aload 6, 388, 0, 0, 0), (388, .iload 15, 390, 0, 0, 0), (390, .laload, 391, 0, 0, 0), (391, .iload 13, 393, 0, 0, 0), (393, .invokestatic 14, 396, 76, 2, 0), (396, .iload 14, 398, 0, 0, 0), (398, .if_icmp .le 16, 401, 414, 0, 0), (401, .aload 6, 403, 0, 0, 0), (403, .iload 15, 405, 0, 0, 0), (405, .laload, 406, 0, 0, 0), (406, .iload 13, 408, 0, 0, 0), (408, .invokestatic 14, 411, 76, 2, 0), (411, .goto 5, 414, 416, 0, 0), (414, .iload 14, 416, 0, 0, 0), (416, .istore 14, 418, 0, 0, 0), (418, .iinc 15 1, 421, 1, 0, 0), (421, .goto (-42), 424, 379, 0, 0), (424, .aload_n 0, 425, 0, 0, 0), (425, .iload 13, 427, 0, 0, 0), (427, .invokevirtual 77, 430, 2, 1, 7), (430, .iload 14, 432, 0, 0, 0), (432, .sipush 32767, 435, 32767, 0, 0), (435, .if_icmp .ne 8, 438, 443, 0, 0), (438, .bipush (-6), 440, 4294967290, 0, 0), (440, .goto 5, 443, 445, 0, 0), (443, .iload 14, 445, 0, 0, 0), (445, .if_icmp .eq 5, 448, 450, 0, 0)]
set_option maxRecDepth 100000 in
theorem kL_would_4 : y_ch z_mt zL_would zL_would_c4 = true := x_usec (wl := [(12, (Jvm.Cond.initialized "TokenNetsLaw")), (13, (Jvm.Cond.initialized "TokenNets")), (420, (Jvm.Cond.methodLink "TokenNetsLaw" (14 : Nat) ({ cls := "TokenNetsLaw", name := "at", desc := "(JI)I" } : Jvm.MethodName))), (421, (Jvm.Cond.static ({ cls := "TokenNetsLaw", name := "at", desc := "(JI)I" } : Jvm.MethodName))), (593, (Jvm.Cond.methodLink "TokenNetsLaw" (77 : Nat) ({ cls := "TokenNets", name := "bound", desc := "(I)I" } : Jvm.MethodName))), (594, (Jvm.Cond.instanceMethod ({ cls := "TokenNets", name := "bound", desc := "(I)I" } : Jvm.MethodName))), (595, (Jvm.Cond.selects "TokenNets" ({ cls := "TokenNets", name := "bound", desc := "(I)I" } : Jvm.MethodName) ({ cls := "TokenNets", name := "bound", desc := "(I)I" } : Jvm.MethodName)))]) (by decide +kernel)
def zL_would_c5 : List (Nat × yO) := [(448, .iconst 0, 449, 0, 0, 0), (449, .ireturn, 450, 0, 0, 0), (450, .iinc 13 1, 453, 1, 0, 0), (453, .goto (-89), 456, 364, 0, 0), (456, .aload_n 0, 457, 0, 0, 0), (457, .iconst 0, 458, 0, 0, 0), (458, .invokevirtual 80, 461, 5, 1, 7), (461, .iload 9, 463, 0, 0, 0), (463, .if_icmp .ne 37, 466, 500, 0, 0), (466, .aload_n 0, 467, 0, 0, 0), (467, .iconst 1, 468, 1, 0, 0), (468, .invokevirtual 80, 471, 5, 1, 7), (471, .iload 10, 473, 0, 0, 0), (473, .if_icmp .ne 27, 476, 500, 0, 0), (476, .aload_n 0, 477, 0, 0, 0), (477, .iconst 2, 478, 2, 0, 0), (478, .invokevirtual 80, 481, 5, 1, 7), (481, .iload 11, 483, 0, 0, 0), (483, .if_icmp .ne 17, 486, 500, 0, 0), (486, .aload_n 0, 487, 0, 0, 0), (487, .iconst 3, 488, 3, 0, 0), (488, .invokevirtual 80, 491, 5, 1, 7), (491, .iload 12, 493, 0, 0, 0), (493, .if_icmp .ne 7, 496, 500, 0, 0), (496, .iconst 1, 497, 1, 0, 0), (497, .goto 4, 500, 501, 0, 0), (500, .iconst 0, 501, 0, 0, 0), (501, .ireturn, 502, 0, 0, 0)]
set_option maxRecDepth 100000 in
theorem kL_would_5 : y_ch z_mt zL_would zL_would_c5 = true := x_usec (wl := [(13, (Jvm.Cond.initialized "TokenNets")), (628, (Jvm.Cond.methodLink "TokenNetsLaw" (80 : Nat) ({ cls := "TokenNets", name := "growth", desc := "(I)I" } : Jvm.MethodName))), (629, (Jvm.Cond.instanceMethod ({ cls := "TokenNets", name := "growth", desc := "(I)I" } : Jvm.MethodName))), (630, (Jvm.Cond.selects "TokenNets" ({ cls := "TokenNets", name := "growth", desc := "(I)I" } : Jvm.MethodName) ({ cls := "TokenNets", name := "growth", desc := "(I)I" } : Jvm.MethodName)))]) (by decide +kernel)
set_option maxRecDepth 100000 in
theorem kL_would : y_ok z_mt zL_would = true := x_use2 (wl := [(525, (Jvm.Cond.code ({ cls := "TokenNetsLaw", name := "would", desc := "(LTokenNets;IJ[I[I[J[I[I)Z" } : Jvm.MethodName) method_16_code (16 : Nat) (Option.some Jvm.ClassFile.FieldType.boolean)))]) (by decide +kernel) (by
  show y_ch z_mt zL_would zL_would.2.2.2.2 = true
  rw [show zL_would.2.2.2.2 = zL_would_c0 ++ (zL_would_c1 ++ (zL_would_c2 ++ (zL_would_c3 ++ (zL_would_c4 ++ (zL_would_c5))))) from rfl]
  unfold y_ch
  simp only [List.all_append, Bool.and_eq_true]
  exact ⟨kL_would_0, kL_would_1, kL_would_2, kL_would_3, kL_would_4, kL_would_5⟩)
set_option maxRecDepth 100000 in
theorem kJ6_bitCount_0f7a4 : y_ok z_mt zJ6_bitCount_0f7a4 = true := x_use (wl := [(352, (Jvm.Cond.code ({ cls := "java/lang/Integer", name := "bitCount", desc := "(I)I" } : Jvm.MethodName) prog_13_method_49_code (1 : Nat) (Option.some Jvm.ClassFile.FieldType.int))), (353, (Jvm.Cond.constant "java/lang/Integer" (265 : Nat) (1431655765 : Int32))), (354, (Jvm.Cond.constant "java/lang/Integer" (266 : Nat) (858993459 : Int32))), (355, (Jvm.Cond.constant "java/lang/Integer" (267 : Nat) (252645135 : Int32)))]) (by decide +kernel)
set_option maxRecDepth 100000 in
theorem kJ7_fill_53178 : y_ok z_mt zJ7_fill_53178 = true := x_use (wl := [(550, (Jvm.Cond.code ({ cls := "java/util/Arrays", name := "fill", desc := "([II)V" } : Jvm.MethodName) prog_16_method_103_code (4 : Nat) (Option.none : Option Jvm.ClassFile.FieldType)))]) (by decide +kernel)
end
section
set_option maxRecDepth 100000 in
theorem kL_0 : y_ch z_mt zL_law zL_p0 = true := x_usec (wl := [(12, (Jvm.Cond.initialized "TokenNetsLaw")), (13, (Jvm.Cond.initialized "TokenNets")), (25, (Jvm.Cond.classLink "TokenNetsLaw" (41 : Nat) "TokenNets")), (26, (Jvm.Cond.instantiable "TokenNets" (8 : Nat))), (27, (Jvm.Cond.methodLink "TokenNetsLaw" (83 : Nat) ({ cls := "TokenNets", name := "<init>", desc := "()V" } : Jvm.MethodName))), (28, (Jvm.Cond.instanceMethod ({ cls := "TokenNets", name := "<init>", desc := "()V" } : Jvm.MethodName))), (74, (Jvm.Cond.arrayClass Jvm.ClassFile.FieldType.int)), (411, (Jvm.Cond.methodLink "TokenNetsLaw" (84 : Nat) ({ cls := "TokenNetsLaw", name := "cell", desc := "([II)I" } : Jvm.MethodName))), (412, (Jvm.Cond.static ({ cls := "TokenNetsLaw", name := "cell", desc := "([II)I" } : Jvm.MethodName))), (416, (Jvm.Cond.methodLink "TokenNetsLaw" (67 : Nat) ({ cls := "TokenNetsLaw", name := "low", desc := "(II)I" } : Jvm.MethodName))), (417, (Jvm.Cond.static ({ cls := "TokenNetsLaw", name := "low", desc := "(II)I" } : Jvm.MethodName))), (641, (Jvm.Cond.arrayClass Jvm.ClassFile.FieldType.long))]) (by decide +kernel)
set_option maxRecDepth 100000 in
theorem kL_1 : y_ch z_mt zL_law zL_p1 = true := x_usec (wl := [(12, (Jvm.Cond.initialized "TokenNetsLaw")), (13, (Jvm.Cond.initialized "TokenNets")), (259, (Jvm.Cond.methodLink "TokenNetsLaw" (88 : Nat) ({ cls := "TokenNets", name := "place", desc := "(I)I" } : Jvm.MethodName))), (260, (Jvm.Cond.instanceMethod ({ cls := "TokenNets", name := "place", desc := "(I)I" } : Jvm.MethodName))), (261, (Jvm.Cond.selects "TokenNets" ({ cls := "TokenNets", name := "place", desc := "(I)I" } : Jvm.MethodName) ({ cls := "TokenNets", name := "place", desc := "(I)I" } : Jvm.MethodName))), (416, (Jvm.Cond.methodLink "TokenNetsLaw" (67 : Nat) ({ cls := "TokenNetsLaw", name := "low", desc := "(II)I" } : Jvm.MethodName))), (417, (Jvm.Cond.static ({ cls := "TokenNetsLaw", name := "low", desc := "(II)I" } : Jvm.MethodName))), (424, (Jvm.Cond.methodLink "TokenNetsLaw" (20 : Nat) ({ cls := "TokenNetsLaw", name := "with", desc := "(JII)J" } : Jvm.MethodName))), (425, (Jvm.Cond.static ({ cls := "TokenNetsLaw", name := "with", desc := "(JII)J" } : Jvm.MethodName)))]) (by decide +kernel)
set_option maxRecDepth 100000 in
theorem kL_2 : y_ch z_mt zL_law zL_p2 = true := x_usec (wl := [(12, (Jvm.Cond.initialized "TokenNetsLaw")), (13, (Jvm.Cond.initialized "TokenNets")), (285, (Jvm.Cond.methodLink "TokenNetsLaw" (91 : Nat) ({ cls := "TokenNets", name := "move", desc := "()I" } : Jvm.MethodName))), (286, (Jvm.Cond.instanceMethod ({ cls := "TokenNets", name := "move", desc := "()I" } : Jvm.MethodName))), (287, (Jvm.Cond.selects "TokenNets" ({ cls := "TokenNets", name := "move", desc := "()I" } : Jvm.MethodName) ({ cls := "TokenNets", name := "move", desc := "()I" } : Jvm.MethodName))), (293, (Jvm.Cond.methodLink "TokenNetsLaw" (94 : Nat) ({ cls := "TokenNets", name := "arc", desc := "(IIII)I" } : Jvm.MethodName))), (294, (Jvm.Cond.instanceMethod ({ cls := "TokenNets", name := "arc", desc := "(IIII)I" } : Jvm.MethodName))), (295, (Jvm.Cond.selects "TokenNets" ({ cls := "TokenNets", name := "arc", desc := "(IIII)I" } : Jvm.MethodName) ({ cls := "TokenNets", name := "arc", desc := "(IIII)I" } : Jvm.MethodName))), (416, (Jvm.Cond.methodLink "TokenNetsLaw" (67 : Nat) ({ cls := "TokenNetsLaw", name := "low", desc := "(II)I" } : Jvm.MethodName))), (417, (Jvm.Cond.static ({ cls := "TokenNetsLaw", name := "low", desc := "(II)I" } : Jvm.MethodName)))]) (by decide +kernel)
set_option maxRecDepth 100000 in
theorem kL_3 : y_ch z_mt zL_law zL_p3 = true := x_usec (wl := [(12, (Jvm.Cond.initialized "TokenNetsLaw")), (13, (Jvm.Cond.initialized "TokenNets")), (309, (Jvm.Cond.methodLink "TokenNetsLaw" (98 : Nat) ({ cls := "TokenNets", name := "tokens", desc := "(II)I" } : Jvm.MethodName))), (310, (Jvm.Cond.instanceMethod ({ cls := "TokenNets", name := "tokens", desc := "(II)I" } : Jvm.MethodName))), (311, (Jvm.Cond.selects "TokenNets" ({ cls := "TokenNets", name := "tokens", desc := "(II)I" } : Jvm.MethodName) ({ cls := "TokenNets", name := "tokens", desc := "(II)I" } : Jvm.MethodName))), (416, (Jvm.Cond.methodLink "TokenNetsLaw" (67 : Nat) ({ cls := "TokenNetsLaw", name := "low", desc := "(II)I" } : Jvm.MethodName))), (417, (Jvm.Cond.static ({ cls := "TokenNetsLaw", name := "low", desc := "(II)I" } : Jvm.MethodName))), (420, (Jvm.Cond.methodLink "TokenNetsLaw" (14 : Nat) ({ cls := "TokenNetsLaw", name := "at", desc := "(JI)I" } : Jvm.MethodName))), (421, (Jvm.Cond.static ({ cls := "TokenNetsLaw", name := "at", desc := "(JI)I" } : Jvm.MethodName))), (424, (Jvm.Cond.methodLink "TokenNetsLaw" (20 : Nat) ({ cls := "TokenNetsLaw", name := "with", desc := "(JII)J" } : Jvm.MethodName))), (425, (Jvm.Cond.static ({ cls := "TokenNetsLaw", name := "with", desc := "(JII)J" } : Jvm.MethodName)))]) (by decide +kernel)
set_option maxRecDepth 100000 in
theorem kL_4 : y_ch z_mt zL_law zL_p4 = true := x_usec (wl := [(12, (Jvm.Cond.initialized "TokenNetsLaw")), (416, (Jvm.Cond.methodLink "TokenNetsLaw" (67 : Nat) ({ cls := "TokenNetsLaw", name := "low", desc := "(II)I" } : Jvm.MethodName))), (417, (Jvm.Cond.static ({ cls := "TokenNetsLaw", name := "low", desc := "(II)I" } : Jvm.MethodName))), (419, (Jvm.Cond.constant "TokenNetsLaw" (9 : Nat) (2147483647 : Int32))), (431, (Jvm.Cond.methodLink "TokenNetsLaw" (60 : Nat) ({ cls := "TokenNetsLaw", name := "moves", desc := "(J[I[I)I" } : Jvm.MethodName))), (432, (Jvm.Cond.static ({ cls := "TokenNetsLaw", name := "moves", desc := "(J[I[I)I" } : Jvm.MethodName))), (637, (Jvm.Cond.constantLong "TokenNetsLaw" (101 : Nat) (1103515245 : Int64))), (638, (Jvm.Cond.constantLong "TokenNetsLaw" (103 : Nat) (12345 : Int64))), (639, (Jvm.Cond.constantLong "TokenNetsLaw" (105 : Nat) (2147483648 : Int64)))]) (by decide +kernel)
end
section
set_option maxRecDepth 100000 in
theorem kL_5 : y_ch z_mt zL_law zL_p5 = true := x_usec (wl := [(12, (Jvm.Cond.initialized "TokenNetsLaw")), (420, (Jvm.Cond.methodLink "TokenNetsLaw" (14 : Nat) ({ cls := "TokenNetsLaw", name := "at", desc := "(JI)I" } : Jvm.MethodName))), (421, (Jvm.Cond.static ({ cls := "TokenNetsLaw", name := "at", desc := "(JI)I" } : Jvm.MethodName))), (428, (Jvm.Cond.methodLink "TokenNetsLaw" (28 : Nat) ({ cls := "TokenNetsLaw", name := "behind", desc := "(JI[I[I)J" } : Jvm.MethodName))), (429, (Jvm.Cond.static ({ cls := "TokenNetsLaw", name := "behind", desc := "(JI[I[I)J" } : Jvm.MethodName))), (437, (Jvm.Cond.methodLink "TokenNetsLaw" (50 : Nat) ({ cls := "TokenNetsLaw", name := "bits", desc := "(I)I" } : Jvm.MethodName))), (438, (Jvm.Cond.static ({ cls := "TokenNetsLaw", name := "bits", desc := "(I)I" } : Jvm.MethodName))), (640, (Jvm.Cond.constantLong "TokenNetsLaw" (107 : Nat) (65536 : Int64)))]) (by decide +kernel)
set_option maxRecDepth 100000 in
theorem kL_6 : y_ch z_mt zL_law zL_p6 = true := x_usec (wl := [(12, (Jvm.Cond.initialized "TokenNetsLaw")), (13, (Jvm.Cond.initialized "TokenNets")), (317, (Jvm.Cond.methodLink "TokenNetsLaw" (109 : Nat) ({ cls := "TokenNets", name := "make", desc := "(I)I" } : Jvm.MethodName))), (318, (Jvm.Cond.instanceMethod ({ cls := "TokenNets", name := "make", desc := "(I)I" } : Jvm.MethodName))), (319, (Jvm.Cond.selects "TokenNets" ({ cls := "TokenNets", name := "make", desc := "(I)I" } : Jvm.MethodName) ({ cls := "TokenNets", name := "make", desc := "(I)I" } : Jvm.MethodName))), (356, (Jvm.Cond.methodLink "TokenNetsLaw" (112 : Nat) ({ cls := "TokenNets", name := "run", desc := "(II)I" } : Jvm.MethodName))), (357, (Jvm.Cond.instanceMethod ({ cls := "TokenNets", name := "run", desc := "(II)I" } : Jvm.MethodName))), (358, (Jvm.Cond.selects "TokenNets" ({ cls := "TokenNets", name := "run", desc := "(II)I" } : Jvm.MethodName) ({ cls := "TokenNets", name := "run", desc := "(II)I" } : Jvm.MethodName))), (419, (Jvm.Cond.constant "TokenNetsLaw" (9 : Nat) (2147483647 : Int32))), (420, (Jvm.Cond.methodLink "TokenNetsLaw" (14 : Nat) ({ cls := "TokenNetsLaw", name := "at", desc := "(JI)I" } : Jvm.MethodName))), (421, (Jvm.Cond.static ({ cls := "TokenNetsLaw", name := "at", desc := "(JI)I" } : Jvm.MethodName))), (431, (Jvm.Cond.methodLink "TokenNetsLaw" (60 : Nat) ({ cls := "TokenNetsLaw", name := "moves", desc := "(J[I[I)I" } : Jvm.MethodName))), (432, (Jvm.Cond.static ({ cls := "TokenNetsLaw", name := "moves", desc := "(J[I[I)I" } : Jvm.MethodName))), (437, (Jvm.Cond.methodLink "TokenNetsLaw" (50 : Nat) ({ cls := "TokenNetsLaw", name := "bits", desc := "(I)I" } : Jvm.MethodName))), (438, (Jvm.Cond.static ({ cls := "TokenNetsLaw", name := "bits", desc := "(I)I" } : Jvm.MethodName)))]) (by decide +kernel)
set_option maxRecDepth 100000 in
theorem kL_7 : y_ch z_mt zL_law zL_p7 = true := x_usec (wl := [(12, (Jvm.Cond.initialized "TokenNetsLaw")), (13, (Jvm.Cond.initialized "TokenNets")), (371, (Jvm.Cond.methodLink "TokenNetsLaw" (115 : Nat) ({ cls := "TokenNets", name := "ofPlace", desc := "(II)I" } : Jvm.MethodName))), (372, (Jvm.Cond.instanceMethod ({ cls := "TokenNets", name := "ofPlace", desc := "(II)I" } : Jvm.MethodName))), (373, (Jvm.Cond.selects "TokenNets" ({ cls := "TokenNets", name := "ofPlace", desc := "(II)I" } : Jvm.MethodName) ({ cls := "TokenNets", name := "ofPlace", desc := "(II)I" } : Jvm.MethodName))), (380, (Jvm.Cond.methodLink "TokenNetsLaw" (118 : Nat) ({ cls := "TokenNets", name := "ofMove", desc := "(II)I" } : Jvm.MethodName))), (381, (Jvm.Cond.instanceMethod ({ cls := "TokenNets", name := "ofMove", desc := "(II)I" } : Jvm.MethodName))), (382, (Jvm.Cond.selects "TokenNets" ({ cls := "TokenNets", name := "ofMove", desc := "(II)I" } : Jvm.MethodName) ({ cls := "TokenNets", name := "ofMove", desc := "(II)I" } : Jvm.MethodName))), (420, (Jvm.Cond.methodLink "TokenNetsLaw" (14 : Nat) ({ cls := "TokenNetsLaw", name := "at", desc := "(JI)I" } : Jvm.MethodName))), (421, (Jvm.Cond.static ({ cls := "TokenNetsLaw", name := "at", desc := "(JI)I" } : Jvm.MethodName))), (431, (Jvm.Cond.methodLink "TokenNetsLaw" (60 : Nat) ({ cls := "TokenNetsLaw", name := "moves", desc := "(J[I[I)I" } : Jvm.MethodName))), (432, (Jvm.Cond.static ({ cls := "TokenNetsLaw", name := "moves", desc := "(J[I[I)I" } : Jvm.MethodName)))]) (by decide +kernel)
set_option maxRecDepth 100000 in
theorem kL_8 : y_ch z_mt zL_law zL_p8 = true := x_usec (wl := [(12, (Jvm.Cond.initialized "TokenNetsLaw")), (13, (Jvm.Cond.initialized "TokenNets")), (394, (Jvm.Cond.methodLink "TokenNetsLaw" (121 : Nat) ({ cls := "TokenNets", name := "count", desc := "(I)I" } : Jvm.MethodName))), (395, (Jvm.Cond.instanceMethod ({ cls := "TokenNets", name := "count", desc := "(I)I" } : Jvm.MethodName))), (396, (Jvm.Cond.selects "TokenNets" ({ cls := "TokenNets", name := "count", desc := "(I)I" } : Jvm.MethodName) ({ cls := "TokenNets", name := "count", desc := "(I)I" } : Jvm.MethodName))), (416, (Jvm.Cond.methodLink "TokenNetsLaw" (67 : Nat) ({ cls := "TokenNetsLaw", name := "low", desc := "(II)I" } : Jvm.MethodName))), (417, (Jvm.Cond.static ({ cls := "TokenNetsLaw", name := "low", desc := "(II)I" } : Jvm.MethodName))), (431, (Jvm.Cond.methodLink "TokenNetsLaw" (60 : Nat) ({ cls := "TokenNetsLaw", name := "moves", desc := "(J[I[I)I" } : Jvm.MethodName))), (432, (Jvm.Cond.static ({ cls := "TokenNetsLaw", name := "moves", desc := "(J[I[I)I" } : Jvm.MethodName))), (440, (Jvm.Cond.methodLink "TokenNetsLaw" (124 : Nat) ({ cls := "TokenNetsLaw", name := "kept", desc := "(LTokenNets;J[I[I)Z" } : Jvm.MethodName))), (441, (Jvm.Cond.static ({ cls := "TokenNetsLaw", name := "kept", desc := "(LTokenNets;J[I[I)Z" } : Jvm.MethodName)))]) (by decide +kernel)
set_option maxRecDepth 100000 in
theorem kL_9 : y_ch z_mt zL_law zL_p9 = true := x_usec (wl := [(12, (Jvm.Cond.initialized "TokenNetsLaw")), (416, (Jvm.Cond.methodLink "TokenNetsLaw" (67 : Nat) ({ cls := "TokenNetsLaw", name := "low", desc := "(II)I" } : Jvm.MethodName))), (417, (Jvm.Cond.static ({ cls := "TokenNetsLaw", name := "low", desc := "(II)I" } : Jvm.MethodName))), (510, (Jvm.Cond.methodLink "TokenNetsLaw" (127 : Nat) ({ cls := "TokenNetsLaw", name := "traps", desc := "(LTokenNets;IJ[I[I)Z" } : Jvm.MethodName))), (511, (Jvm.Cond.static ({ cls := "TokenNetsLaw", name := "traps", desc := "(LTokenNets;IJ[I[I)Z" } : Jvm.MethodName))), (523, (Jvm.Cond.methodLink "TokenNetsLaw" (131 : Nat) ({ cls := "TokenNetsLaw", name := "would", desc := "(LTokenNets;IJ[I[I[J[I[I)Z" } : Jvm.MethodName))), (524, (Jvm.Cond.static ({ cls := "TokenNetsLaw", name := "would", desc := "(LTokenNets;IJ[I[I[J[I[I)Z" } : Jvm.MethodName)))]) (by decide +kernel)
end
section
set_option maxRecDepth 100000 in
theorem kL_law : y_okb z_mt zL_law = true := by
  show y_ch z_mt zL_law (zL_p0 ++ (zL_p1 ++ (zL_p2 ++ (zL_p3 ++ (zL_p4 ++ (zL_p5 ++ (zL_p6 ++ (zL_p7 ++ (zL_p8 ++ (zL_p9)))))))))) = true
  unfold y_ch
  simp only [List.all_append, Bool.and_eq_true]
  exact ⟨kL_0, kL_1, kL_2, kL_3, kL_4, kL_5, kL_6, kL_7, kL_8, kL_9⟩
theorem z_mt_ok : ∀ e ∈ z_mt, y_ok z_mt e = true := List.forall_mem_cons.mpr ⟨kX8_init, List.forall_mem_cons.mpr ⟨kX8_arc, List.forall_mem_cons.mpr ⟨kX8_bound, List.forall_mem_cons.mpr ⟨kX8_count, List.forall_mem_cons.mpr ⟨kX8_fewest, List.forall_mem_cons.mpr ⟨kX8_growth, List.forall_mem_cons.mpr ⟨kX8_kept, List.forall_mem_cons.mpr ⟨kX8_keptMany, List.forall_mem_cons.mpr ⟨kX8_make, List.forall_mem_cons.mpr ⟨kX8_move, List.forall_mem_cons.mpr ⟨kX8_ofMove, List.forall_mem_cons.mpr ⟨kX8_ofPlace, List.forall_mem_cons.mpr ⟨kX8_place, List.forall_mem_cons.mpr ⟨kX8_reached, List.forall_mem_cons.mpr ⟨kX8_run, List.forall_mem_cons.mpr ⟨kX8_tokens, List.forall_mem_cons.mpr ⟨kX8_trap, List.forall_mem_cons.mpr ⟨kX1_init, List.forall_mem_cons.mpr ⟨kX1_note, List.forall_mem_cons.mpr ⟨kX1_settle, List.forall_mem_cons.mpr ⟨kX2_init, List.forall_mem_cons.mpr ⟨kX2_areSame, List.forall_mem_cons.mpr ⟨kX2_begins, List.forall_mem_cons.mpr ⟨kX2_isLike, List.forall_mem_cons.mpr ⟨kX2_isNext, List.forall_mem_cons.mpr ⟨kX2_leads, List.forall_mem_cons.mpr ⟨kX2_takeIn, List.forall_mem_cons.mpr ⟨kX3_init, List.forall_mem_cons.mpr ⟨kX3_addMove, List.forall_mem_cons.mpr ⟨kX3_addPlace, List.forall_mem_cons.mpr ⟨kX3_allMade, List.forall_mem_cons.mpr ⟨kX3_allTokens, List.forall_mem_cons.mpr ⟨kX3_allows, List.forall_mem_cons.mpr ⟨kX3_canMake, List.forall_mem_cons.mpr ⟨kX3_carry, List.forall_mem_cons.mpr ⟨kX3_copy, List.forall_mem_cons.mpr ⟨kX3_greatestClosed, List.forall_mem_cons.mpr ⟨kX3_hasMove, List.forall_mem_cons.mpr ⟨kX3_hasPlace, List.forall_mem_cons.mpr ⟨kX3_makeBySeed, List.forall_mem_cons.mpr ⟨kX3_makeOne, List.forall_mem_cons.mpr ⟨kX3_memberAt, List.forall_mem_cons.mpr ⟨kX3_movesAt, List.forall_mem_cons.mpr ⟨kX3_placesOf, List.forall_mem_cons.mpr ⟨kX3_possibleMoves, List.forall_mem_cons.mpr ⟨kX3_sameArcs, List.forall_mem_cons.mpr ⟨kX3_sameMarking, List.forall_mem_cons.mpr ⟨kX3_setArc, List.forall_mem_cons.mpr ⟨kX3_setTokens, List.forall_mem_cons.mpr ⟨kX3_step, List.forall_mem_cons.mpr ⟨kX3_surplus, List.forall_mem_cons.mpr ⟨kX3_tokensIn, List.forall_mem_cons.mpr ⟨kX4_init, List.forall_mem_cons.mpr ⟨kX5_init, List.forall_mem_cons.mpr ⟨kX5_fewestMoves, List.forall_mem_cons.mpr ⟨kX5_find, List.forall_mem_cons.mpr ⟨kX5_follow, List.forall_mem_cons.mpr ⟨kX5_hash, List.forall_mem_cons.mpr ⟨kX5_meet, List.forall_mem_cons.mpr ⟨kX6_init, List.forall_mem_cons.mpr ⟨kX6_allDividedBy, List.forall_mem_cons.mpr ⟨kX6_balance, List.forall_mem_cons.mpr ⟨kX6_canBalance, List.forall_mem_cons.mpr ⟨kX6_find, List.forall_mem_cons.mpr ⟨kX6_hasCoveredPart, List.forall_mem_cons.mpr ⟨kX6_keep, List.forall_mem_cons.mpr ⟨kX6_weigh, List.forall_mem_cons.mpr ⟨kX6_weight, List.forall_mem_cons.mpr ⟨kX6_worth, List.forall_mem_cons.mpr ⟨kX7_init, List.forall_mem_cons.mpr ⟨kX7_add, List.forall_mem_cons.mpr ⟨kX7_endlessPlaces, List.forall_mem_cons.mpr ⟨kX7_find, List.forall_mem_cons.mpr ⟨kX7_follow, List.forall_mem_cons.mpr ⟨kX7_mostTokens, List.forall_mem_cons.mpr ⟨kX7_outgrow, List.forall_mem_cons.mpr ⟨kL_at, List.forall_mem_cons.mpr ⟨kL_behind, List.forall_mem_cons.mpr ⟨kL_bits, List.forall_mem_cons.mpr ⟨kL_can, List.forall_mem_cons.mpr ⟨kL_cell, List.forall_mem_cons.mpr ⟨kL_keeps, List.forall_mem_cons.mpr ⟨kL_kept, List.forall_mem_cons.mpr ⟨kL_low, List.forall_mem_cons.mpr ⟨kL_moves, List.forall_mem_cons.mpr ⟨kL_places, List.forall_mem_cons.mpr ⟨kL_reach, List.forall_mem_cons.mpr ⟨kL_traps, List.forall_mem_cons.mpr ⟨kL_tree, List.forall_mem_cons.mpr ⟨kL_with, List.forall_mem_cons.mpr ⟨kL_would, List.forall_mem_cons.mpr ⟨kJ6_bitCount_0f7a4, List.forall_mem_cons.mpr ⟨kJ7_fill_53178, fun _ h => absurd h List.not_mem_nil⟩⟩⟩⟩⟩⟩⟩⟩⟩⟩⟩⟩⟩⟩⟩⟩⟩⟩⟩⟩⟩⟩⟩⟩⟩⟩⟩⟩⟩⟩⟩⟩⟩⟩⟩⟩⟩⟩⟩⟩⟩⟩⟩⟩⟩⟩⟩⟩⟩⟩⟩⟩⟩⟩⟩⟩⟩⟩⟩⟩⟩⟩⟩⟩⟩⟩⟩⟩⟩⟩⟩⟩⟩⟩⟩⟩⟩⟩⟩⟩⟩⟩⟩⟩⟩⟩⟩⟩⟩⟩⟩⟩⟩
end
section
/-! A RUN OVER WHOLE NUMBERS: ints and longs are whole numbers (any that stands for them), references are places of a fixed list of cells (0: the script, i + 1: the i-th cell), what the cells hold is a function; no cell is made. -/
abbrev gx_V : Type := Int ⊕ (Int ⊕ Option Nat)
abbrev gI (a : Int) : gx_V := .inl a
abbrev gJ (a : Int) : gx_V := .inr (.inl a)
abbrev gR (i : Nat) : gx_V := .inr (.inr (some i))
/-- nothing is known -/
abbrev gU : gx_V := .inr (.inr none)
abbrev gx_M : Type := Nat → Int → Int
/-- a cell: an object (its class's place in vwCl; its fields: none a number, some a reference), a row of numbers (kind, length), a row of references -/
abbrev gx_C : Type := (Nat × List (Option Nat)) ⊕ ((Nat × Nat) ⊕ (Nat × List Nat))
abbrev gx_S : Type := Nat × List gx_V × List gx_V × gx_M
def gx_i (a : Int) : Int32 := Int32.ofInt a
def gx_l (a : Int) : Int64 := Int64.ofInt a
def gx_d (κ : yK) (α : List Nat) : gx_V → Option Value
  | .inl a => some (.int (gx_i a))
  | .inr (.inl a) => some (.long (gx_l a))
  | .inr (.inr none) => none
  | .inr (.inr (some i)) => (y_r κ α i).map Value.ref
def gx_ds (κ : yK) (α : List Nat) (l : List gx_V) (xs : List Value) : Prop := l.map (gx_d κ α) = xs.map some
def gx_dl (κ : yK) (α : List Nat) (lo : List gx_V) (lv : List (Nat × Value)) : Prop := ∀ (i : Nat) (v : gx_V), lo[i]? = some v → v ≠ gU → ∃ x, (i, x) ∈ lv ∧ gx_d κ α v = some x
def gx_cat : gx_V → Nat
  | .inr (.inl _) => 2
  | _ => 1
def gx_cats : List gx_V → Nat
  | [] => 0
  | v :: vs => gx_cat v + gx_cats vs
def gx_fs (κ : yK) (α : List Nat) (m : Int → Int) : Nat → List (Option Nat) → List (Option Value)
  | _, [] => []
  | k, none :: r => some (.int (gx_i (m (k : Int)))) :: gx_fs κ α m (k + 1) r
  | k, some j :: r => (y_r κ α j).map Value.ref :: gx_fs κ α m (k + 1) r
/-- what a cell of the run is in the world -/
def gx_c (κ : yK) (α : List Nat) (tys : List (ClassId × FieldType)) : gx_C → (Int → Int) → va_E → Prop
  | .inl (ci, fs), m, e => ∃ vs : List Value, gx_fs κ α m 0 fs = vs.map some ∧ e = .inr (ci, vs)
  | .inr (.inl (3, n)), m, e => ∃ (cA : ClassId) (t0 : Nat) (f : Nat → Int64), tys[t0]? = some (cA, .long) ∧ (∀ i : Nat, i < n → f i = gx_l (m (i : Int))) ∧ e = .inl (cA, n, .inr (.inl f))
  | .inr (.inl (k, n)), m, e => ∃ (cA : ClassId) (t0 : Nat) (f : Nat → Int32), tys[t0]? = some (cA, y_ty k) ∧ (∀ i : Nat, i < n → f i = gx_i (m (i : Int))) ∧ e = .inl (cA, n, .inl f)
  | .inr (.inr (ci, rs)), _, e => ∃ (cA : ClassId) (t0 : Nat) (r : vw_C) (f : Nat → Option Nat), vwCl[ci]? = some r ∧ tys[t0]? = some (cA, .object r.1) ∧ (∀ (i j : Nat), rs[i]? = some j → ∃ a, y_r κ α j = some a ∧ f i = some a) ∧ e = .inl (cA, rs.length, .inr (.inr (.inr (.inr f))))
def gx_h (κ : yK) (α : List Nat) (tys : List (ClassId × FieldType)) (sh : List gx_C) (M : gx_M) (ws : va_W) : Prop :=
  α.length = sh.length ∧ ws.length = sh.length ∧ ∀ (i : Nat) (c : gx_C), sh[i]? = some c → ∃ (a : Nat) (e : va_E), α[i]? = some a ∧ ws[i]? = some (a, e) ∧ gx_c κ α tys c (M i) e
-- numbers
def gx_lit (n : Nat) : Int := bif Nat.blt n 2147483648 then Int.ofNat n else Int.subNatNat n 4294967296
def gx_litL (n : Nat) : Int := bif Nat.blt n 9223372036854775808 then Int.ofNat n else Int.subNatNat n 18446744073709551616
abbrev gx_R (a : Int) : Prop := -2147483648 ≤ a ∧ a < 2147483648
abbrev gx_RL (a : Int) : Prop := -9223372036854775808 ≤ a ∧ a < 9223372036854775808
def gx_br (t : Bool) (op : ClassFile.Cond) (a b : Int) : Prop := match op with
  | .eq => match t with | true => a = b | false => ¬ a = b
  | .ne => match t with | true => ¬ a = b | false => a = b
  | .lt => match t with | true => a < b | false => b ≤ a
  | .ge => match t with | true => b ≤ a | false => a < b
  | .gt => match t with | true => b < a | false => a ≤ b
  | .le => match t with | true => a ≤ b | false => b < a
def gx_and (a b : Int) : Int := (gx_i a &&& gx_i b).toInt
def gx_or (a b : Int) : Int := (gx_i a ||| gx_i b).toInt
def gx_xor (a b : Int) : Int := (gx_i a ^^^ gx_i b).toInt
def gx_shl (a b : Int) : Int := (gx_i a <<< (gx_i b &&& 31)).toInt
def gx_shr (a b : Int) : Int := (gx_i a >>> (gx_i b &&& 31)).toInt
def gx_ushr (a b : Int) : Int := ((gx_i a).toUInt32 >>> ((gx_i b).toUInt32 &&& Int32.toUInt32 31)).toInt32.toInt
def gx_andL (a b : Int) : Int := (gx_l a &&& gx_l b).toInt
def gx_orL (a b : Int) : Int := (gx_l a ||| gx_l b).toInt
def gx_xorL (a b : Int) : Int := (gx_l a ^^^ gx_l b).toInt
def gx_shlL (a b : Int) : Int := (gx_l a <<< ((gx_i b).toInt64 &&& 63)).toInt
def gx_ushrL (a b : Int) : Int := ((gx_l a).toUInt64 >>> ((gx_i b).toInt64.toUInt64 &&& Int64.toUInt64 63)).toInt64.toInt
def gx_c3 (a b : Int) : Int := if b < a then 1 else if a = b then 0 else -1
-- locals
def gx_lg : List gx_V → Nat → gx_V
  | [], _ => gU
  | x :: _, 0 => x
  | _ :: r, k + 1 => gx_lg r k
def gx_clr : gx_V → gx_V
  | .inr (.inl _) => gU
  | v => v
def gx_ls : List gx_V → Nat → gx_V → List gx_V
  | [], _, _ => []
  | _ :: r, 0, v => v :: r
  | x :: r, 1, v => gx_clr x :: gx_ls r 0 v
  | x :: r, k + 2, v => x :: gx_ls r (k + 1) v
def gx_ls2 (lo : List gx_V) (k : Nat) (v : gx_V) : List gx_V := gx_ls (gx_ls lo (k + 1) gU) k v
-- the heap
def gx_at : List gx_C → Nat → Option gx_C
  | [], _ => none
  | c :: _, 0 => some c
  | _ :: r, k + 1 => gx_at r k
def gx_fld : List (Option Nat) → Nat → Option (Option Nat)
  | [], _ => none
  | c :: _, 0 => some c
  | _ :: r, k + 1 => gx_fld r k
def gx_rf : List Nat → Nat → Option Nat
  | [], _ => none
  | c :: _, 0 => some c
  | _ :: r, k + 1 => gx_rf r k
def gx_up (M : gx_M) (c : Nat) (i v : Int) : gx_M := fun c' j => if c' = c ∧ j = i then v else M c' j
def gx_cp (M : gx_M) (s d : Nat) (sp dp k : Int) : gx_M := fun c' j => if c' = d ∧ (dp ≤ j ∧ j < dp + k) then M s (sp + (j - dp)) else M c' j
def gx_sw (pc : Nat) (lo hi d : Int) (offs : Array Int) (a : Int) : Option Nat := if a < lo ∨ hi < a then y_off pc d else match offs[(a - lo).toNat]? with
  | some o => y_off pc o
  | none => none
/-- an instruction that is no call and no return: what it asks, and where it leads ('t': 1 where a branch is taken; which place of a row of references is read) -/
def gx_st1 (κ : yK) (sh : List gx_C) (t : Nat) (pc : Nat) (o : yO) (lo st : List gx_V) (M : gx_M) : Option (Option Prop × gx_S) :=
  match o.1 with
  | .iconst _ | .bipush _ | .sipush _ | .ldc _ | .ldc_w _ => some (none, o.2.1, lo, gI (gx_lit o.2.2.1) :: st, M)
  | .lconst _ | .ldc2_w _ => some (none, o.2.1, lo, gJ (gx_litL o.2.2.1) :: st, M)
  | .iload_n k => match gx_lg lo k with
    | .inl a => some (none, o.2.1, lo, gI a :: st, M)
    | _ => none
  | .iload k => match gx_lg lo k with
    | .inl a => some (none, o.2.1, lo, gI a :: st, M)
    | _ => none
  | .lload_n k => match gx_lg lo k with
    | .inr (.inl a) => some (none, o.2.1, lo, gJ a :: st, M)
    | _ => none
  | .lload k => match gx_lg lo k with
    | .inr (.inl a) => some (none, o.2.1, lo, gJ a :: st, M)
    | _ => none
  | .aload_n k => match gx_lg lo k with
    | .inr (.inr (some i)) => some (none, o.2.1, lo, gR i :: st, M)
    | _ => none
  | .aload k => match gx_lg lo k with
    | .inr (.inr (some i)) => some (none, o.2.1, lo, gR i :: st, M)
    | _ => none
  | .istore_n k => match st with
    | .inl a :: r => some (none, o.2.1, gx_ls lo k (gI a), r, M)
    | _ => none
  | .istore k => match st with
    | .inl a :: r => some (none, o.2.1, gx_ls lo k (gI a), r, M)
    | _ => none
  | .lstore_n k => match st with
    | .inr (.inl a) :: r => some (none, o.2.1, gx_ls2 lo k (gJ a), r, M)
    | _ => none
  | .lstore k => match st with
    | .inr (.inl a) :: r => some (none, o.2.1, gx_ls2 lo k (gJ a), r, M)
    | _ => none
  | .astore_n k => match st with
    | .inr (.inr (some i)) :: r => some (none, o.2.1, gx_ls lo k (gR i), r, M)
    | _ => none
  | .astore k => match st with
    | .inr (.inr (some i)) :: r => some (none, o.2.1, gx_ls lo k (gR i), r, M)
    | _ => none
  | .iinc k _ => match gx_lg lo k with
    | .inl a => some (none, o.2.1, gx_ls lo k (gI (a + gx_lit o.2.2.1)), st, M)
    | _ => none
  | .iadd => match st with
    | .inl b :: .inl a :: r => some (none, o.2.1, lo, gI (a + b) :: r, M)
    | _ => none
  | .isub => match st with
    | .inl b :: .inl a :: r => some (none, o.2.1, lo, gI (a - b) :: r, M)
    | _ => none
  | .imul => match st with
    | .inl b :: .inl a :: r => some (none, o.2.1, lo, gI (a * b) :: r, M)
    | _ => none
  | .iand => match st with
    | .inl b :: .inl a :: r => some (none, o.2.1, lo, gI (gx_and a b) :: r, M)
    | _ => none
  | .ior => match st with
    | .inl b :: .inl a :: r => some (none, o.2.1, lo, gI (gx_or a b) :: r, M)
    | _ => none
  | .ixor => match st with
    | .inl b :: .inl a :: r => some (none, o.2.1, lo, gI (gx_xor a b) :: r, M)
    | _ => none
  | .ishl => match st with
    | .inl b :: .inl a :: r => some (none, o.2.1, lo, gI (gx_shl a b) :: r, M)
    | _ => none
  | .ishr => match st with
    | .inl b :: .inl a :: r => some (none, o.2.1, lo, gI (gx_shr a b) :: r, M)
    | _ => none
  | .iushr => match st with
    | .inl b :: .inl a :: r => some (none, o.2.1, lo, gI (gx_ushr a b) :: r, M)
    | _ => none
  | .idiv => match st with
    | .inl b :: .inl a :: r => some (some ((0 ≤ a ∧ a < 2147483648) ∧ 0 < b ∧ b < 2147483648), o.2.1, lo, gI (a / b) :: r, M)
    | _ => none
  | .irem => match st with
    | .inl b :: .inl a :: r => some (some ((0 ≤ a ∧ a < 2147483648) ∧ 0 < b ∧ b < 2147483648), o.2.1, lo, gI (a % b) :: r, M)
    | _ => none
  | .ladd => match st with
    | .inr (.inl b) :: .inr (.inl a) :: r => some (none, o.2.1, lo, gJ (a + b) :: r, M)
    | _ => none
  | .lmul => match st with
    | .inr (.inl b) :: .inr (.inl a) :: r => some (none, o.2.1, lo, gJ (a * b) :: r, M)
    | _ => none
  | .land => match st with
    | .inr (.inl b) :: .inr (.inl a) :: r => some (none, o.2.1, lo, gJ (gx_andL a b) :: r, M)
    | _ => none
  | .lor => match st with
    | .inr (.inl b) :: .inr (.inl a) :: r => some (none, o.2.1, lo, gJ (gx_orL a b) :: r, M)
    | _ => none
  | .lxor => match st with
    | .inr (.inl b) :: .inr (.inl a) :: r => some (none, o.2.1, lo, gJ (gx_xorL a b) :: r, M)
    | _ => none
  | .ldiv => match st with
    | .inr (.inl b) :: .inr (.inl a) :: r => some (some ((0 ≤ a ∧ a < 9223372036854775808) ∧ 0 < b ∧ b < 9223372036854775808), o.2.1, lo, gJ (a / b) :: r, M)
    | _ => none
  | .lrem => match st with
    | .inr (.inl b) :: .inr (.inl a) :: r => some (some ((0 ≤ a ∧ a < 9223372036854775808) ∧ 0 < b ∧ b < 9223372036854775808), o.2.1, lo, gJ (a % b) :: r, M)
    | _ => none
  | .lshl => match st with
    | .inl b :: .inr (.inl a) :: r => some (none, o.2.1, lo, gJ (gx_shlL a b) :: r, M)
    | _ => none
  | .lushr => match st with
    | .inl b :: .inr (.inl a) :: r => some (none, o.2.1, lo, gJ (gx_ushrL a b) :: r, M)
    | _ => none
  | .lcmp => match st with
    | .inr (.inl b) :: .inr (.inl a) :: r => some (some (gx_RL a ∧ gx_RL b), o.2.1, lo, gI (gx_c3 a b) :: r, M)
    | _ => none
  | .i2l => match st with
    | .inl a :: r => some (some (gx_R a), o.2.1, lo, gJ a :: r, M)
    | _ => none
  | .l2i => match st with
    | .inr (.inl a) :: r => some (none, o.2.1, lo, gI a :: r, M)
    | _ => none
  | .dup => match st with
    | v :: r => bif Nat.beq (gx_cat v) 1 then some (none, o.2.1, lo, v :: v :: r, M) else none
    | _ => none
  | .dup2 => match st with
    | v :: w :: r => bif Nat.beq (gx_cat v) 1 && Nat.beq (gx_cat w) 1 then some (none, o.2.1, lo, v :: w :: v :: w :: r, M) else none
    | _ => none
  | .dup_x2 => match st with
    | v :: w :: x :: r => bif Nat.beq (gx_cat v) 1 && (Nat.beq (gx_cat w) 1 && Nat.beq (gx_cat x) 1) then some (none, o.2.1, lo, v :: w :: x :: v :: r, M) else none
    | _ => none
  | .pop => match st with
    | v :: r => bif Nat.beq (gx_cat v) 1 then some (none, o.2.1, lo, r, M) else none
    | _ => none
  | .goto _ => some (none, o.2.2.1, lo, st, M)
  | .ifCond k _ => match st with
    | .inl a :: r => some (some (gx_R a ∧ gx_br (Nat.beq t 1) k a 0), bif Nat.beq t 1 then o.2.2.1 else o.2.1, lo, r, M)
    | _ => none
  | .if_icmp k _ => match st with
    | .inl b :: .inl a :: r => some (some (gx_R a ∧ gx_R b ∧ gx_br (Nat.beq t 1) k a b), bif Nat.beq t 1 then o.2.2.1 else o.2.1, lo, r, M)
    | _ => none
  | .tableswitch d l hi offs => match st with
    | .inl a :: r => (gx_sw pc l hi d offs a).map (fun q => (some (gx_R a), q, lo, r, M))
    | _ => none
  | .lookupswitch d ps => match st with
    | .inl a :: r => (y_off pc (Op.lookupswitch.offset ps.toList d a)).map (fun q => (some (gx_R a), q, lo, r, M))
    | _ => none
  | .getfield _ => match st with
    | .inr (.inr (some (i + 1))) :: r => match gx_at sh i with
      | some (.inl (ci, fs)) => bif Nat.beq ci o.2.2.1 then (match gx_fld fs o.2.2.2.1 with
        | some none => some (none, o.2.1, lo, gI (M i (o.2.2.2.1 : Int)) :: r, M)
        | some (some j) => some (none, o.2.1, lo, gR j :: r, M)
        | none => none) else none
      | _ => none
    | _ => none
  | .putfield _ => match st with
    | .inl v :: .inr (.inr (some (i + 1))) :: r => match gx_at sh i with
      | some (.inl (ci, fs)) => bif Nat.beq ci o.2.2.1 then (match gx_fld fs o.2.2.2.1 with
        | some none => some (bif Nat.beq o.2.2.2.2 0 then none else some (o.2.2.2.2 = 1 ∧ (v = 0 ∨ v = 1)), o.2.1, lo, r, gx_up M i (o.2.2.2.1 : Int) v)
        | _ => none) else none
      | _ => none
    | _ => none
  | .iaload => match st with
    | .inl j :: .inr (.inr (some (i + 1))) :: r => match gx_at sh i with
      | some (.inr (.inl (0, len))) => bif Nat.ble len 1000000 then some (some (0 ≤ j ∧ j < (len : Int)), o.2.1, lo, gI (M i j) :: r, M) else none
      | _ => none
    | .inl j :: .inr (.inr (some 0)) :: r => some (some (0 ≤ j ∧ j < (κ.2.2.2 : Int) ∧ j < 2147483648), o.2.1, lo, gI ((κ.1 j.toNat).toInt) :: r, M)
    | _ => none
  | .baload => match st with
    | .inl j :: .inr (.inr (some (i + 1))) :: r => match gx_at sh i with
      | some (.inr (.inl (1, len))) => bif Nat.ble len 1000000 then some (some (0 ≤ j ∧ j < (len : Int)), o.2.1, lo, gI (M i j) :: r, M) else none
      | _ => none
    | _ => none
  | .laload => match st with
    | .inl j :: .inr (.inr (some (i + 1))) :: r => match gx_at sh i with
      | some (.inr (.inl (3, len))) => bif Nat.ble len 1000000 then some (some (0 ≤ j ∧ j < (len : Int)), o.2.1, lo, gJ (M i j) :: r, M) else none
      | _ => none
    | _ => none
  | .aaload => match st with
    | .inl j :: .inr (.inr (some (i + 1))) :: r => match gx_at sh i with
      | some (.inr (.inr (_, rs))) => bif Nat.ble rs.length 1000000 then (match gx_rf rs t with
        | some q => some (some (j = (t : Int)), o.2.1, lo, gR q :: r, M)
        | none => none) else none
      | _ => none
    | _ => none
  | .iastore => match st with
    | .inl v :: .inl j :: .inr (.inr (some (i + 1))) :: r => match gx_at sh i with
      | some (.inr (.inl (0, len))) => bif Nat.ble len 1000000 then some (some (0 ≤ j ∧ j < (len : Int)), o.2.1, lo, r, gx_up M i j v) else none
      | _ => none
    | _ => none
  | .bastore => match st with
    | .inl v :: .inl j :: .inr (.inr (some (i + 1))) :: r => match gx_at sh i with
      | some (.inr (.inl (1, len))) => bif Nat.ble len 1000000 then some (some ((0 ≤ j ∧ j < (len : Int)) ∧ (v = 0 ∨ v = 1)), o.2.1, lo, r, gx_up M i j v) else none
      | _ => none
    | _ => none
  | .lastore => match st with
    | .inr (.inl v) :: .inl j :: .inr (.inr (some (i + 1))) :: r => match gx_at sh i with
      | some (.inr (.inl (3, len))) => bif Nat.ble len 1000000 then some (some (0 ≤ j ∧ j < (len : Int)), o.2.1, lo, r, gx_up M i j v) else none
      | _ => none
    | _ => none
  | .arraylength => match st with
    | .inr (.inr (some (i + 1))) :: r => match gx_at sh i with
      | some (.inr (.inl (0, len))) => some (none, o.2.1, lo, gI (len : Int) :: r, M)
      | _ => none
    | .inr (.inr (some 0)) :: r => some (none, o.2.1, lo, gI (κ.2.2.2 : Int) :: r, M)
    | _ => none
  | .invokestatic _ => bif Nat.beq o.2.2.2.2 98 then (match st with
    | .inl k :: .inl dp :: .inr (.inr (some (j + 1))) :: .inl sp :: .inr (.inr (some (i + 1))) :: r => match gx_at sh i, gx_at sh j with
      | some (.inr (.inl (0, n0))), some (.inr (.inl (0, n1))) =>
        bif Nat.ble (gx_cats r) 8 && (Nat.ble n0 1000000 && Nat.ble n1 1000000) then
          some (some ((0 ≤ sp ∧ 0 ≤ dp ∧ 0 ≤ k) ∧ sp + k ≤ (n0 : Int) ∧ dp + k ≤ (n1 : Int)), o.2.1, lo, r, gx_cp M i j sp dp k) else none
      | _, _ => none
    | _ => none) else bif Nat.beq o.2.2.2.2 96 then (match st with
    | .inl b :: .inl a :: r => bif Nat.ble (gx_cats r) 8 then some (some (gx_R a ∧ gx_R b), o.2.1, lo, gI (max a b) :: r, M) else none
    | _ => none) else bif Nat.beq o.2.2.2.2 97 then (match st with
    | .inl b :: .inl a :: r => bif Nat.ble (gx_cats r) 8 then some (some (gx_R a ∧ gx_R b), o.2.1, lo, gI (min a b) :: r, M) else none
    | _ => none) else none
  | _ => none
end
section
section GXB
variable {κ : yK} {α : List Nat} {tys : List (ClassId × FieldType)}
theorem gx_ds_nil {xs : List Value} (h : gx_ds κ α [] xs) : xs = [] := by
  cases xs with
  | nil => rfl
  | cons x xs => simp [gx_ds] at h
theorem gx_ds_cons {v : gx_V} {l : List gx_V} {xs : List Value} (h : gx_ds κ α (v :: l) xs) : ∃ x ys, xs = x :: ys ∧ gx_d κ α v = some x ∧ gx_ds κ α l ys := by
  cases xs with
  | nil => simp [gx_ds] at h
  | cons x ys =>
    have h' : gx_d κ α v :: l.map (gx_d κ α) = some x :: ys.map some := h
    obtain ⟨h1, h2⟩ := List.cons.inj h'
    exact ⟨x, ys, rfl, h1, h2⟩
theorem gx_ds_mk {v : gx_V} {l : List gx_V} {x : Value} {ys : List Value} (h1 : gx_d κ α v = some x) (h2 : gx_ds κ α l ys) : gx_ds κ α (v :: l) (x :: ys) := by
  show gx_d κ α v :: l.map (gx_d κ α) = some x :: ys.map some
  rw [h1, show l.map (gx_d κ α) = ys.map some from h2]
theorem gx_ds_0 : gx_ds κ α [] [] := rfl
theorem gx_ds_i {a : Int} {l : List gx_V} {x : Int32} {ys : List Value} (h1 : gx_i a = x) (h2 : gx_ds κ α l ys) : gx_ds κ α (.inl a :: l) (.int x :: ys) := gx_ds_mk (by rw [← h1]; rfl) h2
theorem gx_ds_l {a : Int} {l : List gx_V} {x : Int64} {ys : List Value} (h1 : gx_l a = x) (h2 : gx_ds κ α l ys) : gx_ds κ α (.inr (.inl a) :: l) (.long x :: ys) := gx_ds_mk (by rw [← h1]; rfl) h2
theorem gx_ds_r {i a : Nat} {l : List gx_V} {ys : List Value} (h1 : y_r κ α i = some a) (h2 : gx_ds κ α l ys) : gx_ds κ α (.inr (.inr (some i)) :: l) (.ref a :: ys) := gx_ds_mk (Option.map_eq_some_iff.mpr ⟨a, h1, rfl⟩) h2
theorem gx_ds_ci {a : Int} {l : List gx_V} {xs : List Value} (h : gx_ds κ α (.inl a :: l) xs) : ∃ ys, xs = .int (gx_i a) :: ys ∧ gx_ds κ α l ys := by
  obtain ⟨x, ys, rfl, h1, h2⟩ := gx_ds_cons h
  cases h1
  exact ⟨ys, rfl, h2⟩
theorem gx_ds_cl {a : Int} {l : List gx_V} {xs : List Value} (h : gx_ds κ α (.inr (.inl a) :: l) xs) : ∃ ys, xs = .long (gx_l a) :: ys ∧ gx_ds κ α l ys := by
  obtain ⟨x, ys, rfl, h1, h2⟩ := gx_ds_cons h
  cases h1
  exact ⟨ys, rfl, h2⟩
theorem gx_ds_cr {i : Nat} {l : List gx_V} {xs : List Value} (h : gx_ds κ α (.inr (.inr (some i)) :: l) xs) : ∃ a ys, xs = .ref a :: ys ∧ y_r κ α i = some a ∧ gx_ds κ α l ys := by
  obtain ⟨x, ys, rfl, h1, h2⟩ := gx_ds_cons h
  obtain ⟨a, ha, rfl⟩ := Option.map_eq_some_iff.mp h1
  exact ⟨a, ys, rfl, ha, h2⟩
theorem gx_ds_len {l : List gx_V} {xs : List Value} (h : gx_ds κ α l xs) : l.length = xs.length := by
  have := congrArg List.length h
  simpa using this
theorem gx_ds_take {l : List gx_V} {xs : List Value} (k : Nat) (h : gx_ds κ α l xs) : gx_ds κ α (l.take k) (xs.take k) := by
  show (l.take k).map (gx_d κ α) = (xs.take k).map some
  rw [List.map_take, List.map_take, show l.map (gx_d κ α) = xs.map some from h]
theorem gx_ds_drop {l : List gx_V} {xs : List Value} (k : Nat) (h : gx_ds κ α l xs) : gx_ds κ α (l.drop k) (xs.drop k) := by
  show (l.drop k).map (gx_d κ α) = (xs.drop k).map some
  rw [List.map_drop, List.map_drop, show l.map (gx_d κ α) = xs.map some from h]
theorem gx_ds_rev {l : List gx_V} {xs : List Value} (h : gx_ds κ α l xs) : gx_ds κ α l.reverse xs.reverse := by
  show l.reverse.map (gx_d κ α) = xs.reverse.map some
  rw [List.map_reverse, List.map_reverse, show l.map (gx_d κ α) = xs.map some from h]
theorem gx_cat_ok {v : gx_V} {x : Value} (h : gx_d κ α v = some x) : x.category = gx_cat v := by
  rcases v with a | a | _ | i
  · cases h; rfl
  · cases h; rfl
  · cases h
  · obtain ⟨a, -, rfl⟩ := Option.map_eq_some_iff.mp h
    rfl
theorem gx_cats_ok {l : List gx_V} {xs : List Value} (h : gx_ds κ α l xs) : (xs.map fun v => v.category).sum = gx_cats l := by
  induction l generalizing xs with
  | nil => rw [gx_ds_nil h]; rfl
  | cons v l ih =>
    obtain ⟨x, ys, rfl, h1, h2⟩ := gx_ds_cons h
    rw [List.map_cons, List.sum_cons, ih h2, gx_cat_ok h1]
    rfl
theorem gx_sl_len {l : List gx_V} {xs : List Value} (h : gx_ds κ α l xs) : (lg_sl xs).length = gx_cats l := by
  induction l generalizing xs with
  | nil => rw [gx_ds_nil h]; rfl
  | cons v l ih =>
    obtain ⟨x, ys, rfl, h1, h2⟩ := gx_ds_cons h
    have e : lg_sl (x :: ys) = (if x.category = 2 then [.val x, .second] else [.val x]) ++ lg_sl ys := rfl
    rw [e, List.length_append, ih h2]
    have hc := gx_cat_ok h1
    show _ = gx_cat v + gx_cats l
    rcases lv_cat x with h3 | h3
    · rw [if_neg (by omega)]
      simp only [List.length_cons, List.length_nil]
      omega
    · rw [if_pos h3]
      simp only [List.length_cons, List.length_nil]
      omega
-- locals
theorem gx_lg_get (lo : List gx_V) (k : Nat) {v : gx_V} (h : gx_lg lo k = v) (hv : v ≠ gU) : lo[k]? = some v := by
  induction lo generalizing k with
  | nil => exact absurd h.symm hv
  | cons x r ih =>
    cases k with
    | zero => rw [← h]; rfl
    | succ k => exact ih k h
theorem gx_dl_get {lo : List gx_V} {lv : List (Nat × Value)} {k : Nat} {v : gx_V} (h : gx_dl κ α lo lv) (hk : gx_lg lo k = v) (hv : v ≠ gU) : ∃ x, (k, x) ∈ lv ∧ gx_d κ α v = some x := h k v (gx_lg_get lo k hk hv) hv
theorem gx_ls_get (lo : List gx_V) : ∀ (i j : Nat) (v0 v : gx_V), (gx_ls lo i v0)[j]? = some v → (j = i ∧ v = v0) ∨ (j ≠ i ∧ ∃ w, lo[j]? = some w ∧ ((j + 1 = i ∧ v = gx_clr w) ∨ (j + 1 ≠ i ∧ v = w))) := by
  induction lo with
  | nil => intro i j v0 v h; cases h
  | cons x r ih =>
    intro i j v0 v h
    match i, j with
    | 0, 0 => left; exact ⟨rfl, (Option.some.inj h).symm⟩
    | 0, j + 1 => right; exact ⟨by omega, v, h, Or.inr ⟨by omega, rfl⟩⟩
    | 1, 0 => right; exact ⟨by omega, x, rfl, Or.inl ⟨rfl, (Option.some.inj h).symm⟩⟩
    | k + 2, 0 => right; exact ⟨by omega, x, rfl, Or.inr ⟨by omega, (Option.some.inj h).symm⟩⟩
    | 1, j + 1 =>
      rcases ih 0 j v0 v h with ⟨h1, h2⟩ | ⟨h1, w, h2, h3⟩
      · left; exact ⟨by omega, h2⟩
      · right
        refine ⟨by omega, w, h2, ?_⟩
        rcases h3 with ⟨h3, h4⟩ | ⟨h3, h4⟩
        · omega
        · right; exact ⟨by omega, h4⟩
    | k + 2, j + 1 =>
      rcases ih (k + 1) j v0 v h with ⟨h1, h2⟩ | ⟨h1, w, h2, h3⟩
      · left; exact ⟨by omega, h2⟩
      · right
        refine ⟨by omega, w, h2, ?_⟩
        rcases h3 with ⟨h3, h4⟩ | ⟨h3, h4⟩
        · left; exact ⟨by omega, h4⟩
        · right; exact ⟨by omega, h4⟩
theorem gx_clr_ne {w v : gx_V} (h : v = gx_clr w) (hv : v ≠ gU) : v = w ∧ gx_cat v = 1 := by
  rcases w with a | a | _ | i
  · exact ⟨h, by rw [h]; rfl⟩
  · exact absurd h hv
  · exact absurd h hv
  · exact ⟨h, by rw [h]; rfl⟩
theorem gx_dl_set {lo : List gx_V} {lv : List (Nat × Value)} (i : Nat) {v : gx_V} {x : Value} (h : gx_dl κ α lo lv) (hv : gx_d κ α v = some x) : gx_dl κ α (gx_ls lo i v) ((i, x) :: lv.filter (fun q => !(q.1 == i) && !(q.1 + 1 == i && q.2.category == 2))) := by
  intro j u hj hu
  rcases gx_ls_get lo i j v u hj with ⟨rfl, rfl⟩ | ⟨h1, w, h2, h3⟩
  · exact ⟨x, List.mem_cons_self, hv⟩
  · have key : ∀ y, (j, y) ∈ lv → (j + 1 = i → y.category = 1) → (j, y) ∈ (i, x) :: lv.filter (fun q => !(q.1 == i) && !(q.1 + 1 == i && q.2.category == 2)) := by
      intro y hy hc
      refine List.mem_cons_of_mem _ (List.mem_filter.mpr ⟨hy, ?_⟩)
      have e1 : (j == i) = false := by simpa using h1
      have e2 : (j + 1 == i && y.category == 2) = false := by
        cases e3 : (j + 1 == i) with
        | false => rfl
        | true =>
          have := hc (by simpa using e3)
          rw [this]
          rfl
      show (!(j == i) && !(j + 1 == i && y.category == 2)) = true
      rw [e1, e2]
      rfl
    rcases h3 with ⟨h3, h4⟩ | ⟨h3, h4⟩
    · obtain ⟨h5, h6⟩ := gx_clr_ne h4 hu
      subst h5
      obtain ⟨y, hy, hd⟩ := h j u h2 hu
      exact ⟨y, key y hy (fun _ => (gx_cat_ok hd).trans h6), hd⟩
    · subst h4
      obtain ⟨y, hy, hd⟩ := h j u h2 hu
      exact ⟨y, key y hy (fun z => absurd z h3), hd⟩
theorem gx_dl_set2 {lo : List gx_V} {lv : List (Nat × Value)} (i : Nat) {v : gx_V} {x : Value} (h : gx_dl κ α lo lv) (hv : gx_d κ α v = some x) : gx_dl κ α (gx_ls2 lo i v) ((i, x) :: lv.filter (fun q => !(q.1 == i) && (!(q.1 == i + 1) && !(q.1 + 1 == i && q.2.category == 2)))) := by
  intro j u hj hu
  rcases gx_ls_get (gx_ls lo (i + 1) gU) i j v u hj with ⟨rfl, rfl⟩ | ⟨h1, w, h2, h3⟩
  · exact ⟨x, List.mem_cons_self, hv⟩
  · have key : ∀ y, (j, y) ∈ lv → j ≠ i + 1 → (j + 1 = i → y.category = 1) → (j, y) ∈ (i, x) :: lv.filter (fun q => !(q.1 == i) && (!(q.1 == i + 1) && !(q.1 + 1 == i && q.2.category == 2))) := by
      intro y hy hn hc
      refine List.mem_cons_of_mem _ (List.mem_filter.mpr ⟨hy, ?_⟩)
      have e1 : (j == i) = false := by simpa using h1
      have e0 : (j == i + 1) = false := by simpa using hn
      have e2 : (j + 1 == i && y.category == 2) = false := by
        cases e3 : (j + 1 == i) with
        | false => rfl
        | true =>
          have := hc (by simpa using e3)
          rw [this]
          rfl
      show (!(j == i) && (!(j == i + 1) && !(j + 1 == i && y.category == 2))) = true
      rw [e1, e0, e2]
      rfl
    have hw : w ≠ gU := by
      rcases h3 with ⟨h3, h4⟩ | ⟨h3, h4⟩
      · obtain ⟨h5, h6⟩ := gx_clr_ne h4 hu
        rw [← h5]; exact hu
      · rw [← h4]; exact hu
    have hwu : u = w ∧ (j + 1 = i → gx_cat w = 1) := by
      rcases h3 with ⟨h3, h4⟩ | ⟨h3, h4⟩
      · obtain ⟨h5, h6⟩ := gx_clr_ne h4 hu
        exact ⟨h5, fun _ => by rw [← h5]; exact h6⟩
      · exact ⟨h4, fun z => absurd z h3⟩
    obtain ⟨rfl, hc1⟩ := hwu
    rcases gx_ls_get lo (i + 1) j gU u h2 with ⟨k1, k2⟩ | ⟨k1, w, k2, k3⟩
    · exact absurd k2 hw
    · rcases k3 with ⟨k3, k4⟩ | ⟨k3, k4⟩
      · exact absurd (by omega) h1
      · subst k4
        obtain ⟨y, hy, hd⟩ := h j u k2 hu
        exact ⟨y, key y hy k1 (fun z => (gx_cat_ok hd).trans (hc1 z)), hd⟩
/-- fewer known locals -/
def gx_le : List gx_V → List gx_V → Prop
  | [], _ => True
  | _ :: _, [] => False
  | a :: l, b :: r => (a = gU ∨ a = b) ∧ gx_le l r
theorem gx_le_get {l r : List gx_V} (h : gx_le l r) : ∀ (i : Nat) (v : gx_V), l[i]? = some v → v ≠ gU → r[i]? = some v := by
  induction l generalizing r with
  | nil => intro i v hi; cases hi
  | cons a l ih =>
    intro i v hi hv
    cases r with
    | nil => exact h.elim
    | cons b r =>
      cases i with
      | zero =>
        have e : a = v := Option.some.inj hi
        rcases h.1 with h1 | h1
        · exact absurd (e.symm.trans h1) hv
        · show some b = some v
          rw [← h1, e]
      | succ i => exact ih h.2 i v hi hv
theorem gx_dl_le {lo lo' : List gx_V} {lv : List (Nat × Value)} (h : gx_dl κ α lo lv) (hl : gx_le lo' lo) : gx_dl κ α lo' lv := fun i v hi hv => h i v (gx_le_get hl i v hi hv) hv
/-- the locals at a method's entry -/
def gx_ar : List gx_V → List gx_V
  | [] => []
  | .inr (.inl a) :: r => gJ a :: gU :: gx_ar r
  | v :: r => v :: gx_ar r
theorem gx_dl_args {l : List gx_V} {xs : List Value} (n : Nat) : ∀ (i : Nat), gx_ds κ α l xs → ∀ (j : Nat) (v : gx_V), (gx_ar l ++ List.replicate n gU)[j]? = some v → v ≠ gU → ∃ x, (i + j, x) ∈ lv_args i xs ∧ gx_d κ α v = some x := by
  induction l generalizing xs with
  | nil =>
    intro i h j v hj hv
    have : v = gU := by
      have h1 : (List.replicate n gU)[j]? = some v := hj
      rw [List.getElem?_replicate] at h1
      split at h1
      · exact (Option.some.inj h1).symm
      · cases h1
    exact absurd this hv
  | cons w l ih =>
    intro i h j v hj hv
    obtain ⟨x, ys, rfl, h1, h2⟩ := gx_ds_cons h
    have hcat := gx_cat_ok h1
    have e0 : lv_args i (x :: ys) = (i, x) :: lv_args (if x.category = 2 then i + 2 else i + 1) ys := rfl
    rw [e0]
    have one : gx_cat w = 1 → gx_ar (w :: l) = w :: gx_ar l → ∃ x_1, (i + j, x_1) ∈ (i, x) :: lv_args (if x.category = 2 then i + 2 else i + 1) ys ∧ gx_d κ α v = some x_1 := by
      intro hc he
      rw [if_neg (by omega)]
      rw [he] at hj
      cases j with
      | zero =>
        have e : w = v := Option.some.inj hj
        subst e
        exact ⟨x, List.mem_cons_self, h1⟩
      | succ j =>
        obtain ⟨y, hy, hd⟩ := ih (i + 1) h2 j v hj hv
        refine ⟨y, List.mem_cons_of_mem _ ?_, hd⟩
        rw [show i + (j + 1) = i + 1 + j from by omega]
        exact hy
    rcases w with a | a | _ | a
    · exact one rfl rfl
    · have hc : x.category = 2 := hcat
      rw [if_pos hc]
      match j with
      | 0 =>
        have e : gJ a = v := Option.some.inj hj
        subst e
        exact ⟨x, List.mem_cons_self, h1⟩
      | 1 =>
        have e : gU = v := Option.some.inj hj
        exact absurd e.symm hv
      | j + 2 =>
        obtain ⟨y, hy, hd⟩ := ih (i + 2) h2 j v hj hv
        refine ⟨y, List.mem_cons_of_mem _ ?_, hd⟩
        rw [show i + (j + 2) = i + 2 + j from by omega]
        exact hy
    · exact one rfl rfl
    · exact one rfl rfl
-- the heap
theorem gx_at_ok {sh : List gx_C} : ∀ {i : Nat} {c : gx_C}, gx_at sh i = some c → sh[i]? = some c := by
  induction sh with
  | nil => intro i c h; cases h
  | cons x r ih =>
    intro i c h
    cases i with
    | zero => exact h
    | succ i => exact ih (i := i) h
theorem gx_rf_ok {rs : List Nat} : ∀ {i c : Nat}, gx_rf rs i = some c → rs[i]? = some c := by
  induction rs with
  | nil => intro i c h; cases h
  | cons x r ih =>
    intro i c h
    cases i with
    | zero => exact h
    | succ i => exact ih (i := i) h
theorem gx_fs_get {m : Int → Int} : ∀ (fs : List (Option Nat)) (k j : Nat) (vs : List Value) (f : Option Nat), gx_fs κ α m k fs = vs.map some → gx_fld fs j = some f → ∃ x, vs[j]? = some x ∧ (match f with | none => x = .int (gx_i (m ((k + j : Nat) : Int))) | some q => ∃ a, y_r κ α q = some a ∧ x = .ref a) := by
  intro fs
  induction fs with
  | nil => intro k j vs f h hj; cases hj
  | cons g r ih =>
    intro k j vs f h hj
    cases vs with
    | nil => cases g <;> cases h
    | cons x vs =>
      cases g with
      | none =>
        have h' : some (Value.int (gx_i (m (k : Int)))) :: gx_fs κ α m (k + 1) r = some x :: vs.map some := h
        obtain ⟨h1, h2⟩ := List.cons.inj h'
        cases j with
        | zero =>
          have e : none = f := Option.some.inj hj
          subst e
          exact ⟨x, rfl, (Option.some.inj h1).symm⟩
        | succ j =>
          obtain ⟨y, hy, hd⟩ := ih (k + 1) j vs f h2 hj
          refine ⟨y, hy, ?_⟩
          rw [show k + (j + 1) = k + 1 + j from by omega]
          exact hd
      | some q =>
        have h' : (y_r κ α q).map Value.ref :: gx_fs κ α m (k + 1) r = some x :: vs.map some := h
        obtain ⟨h1, h2⟩ := List.cons.inj h'
        cases j with
        | zero =>
          have e : some q = f := Option.some.inj hj
          subst e
          obtain ⟨a, ha, hx⟩ := Option.map_eq_some_iff.mp h1
          exact ⟨x, rfl, a, ha, hx.symm⟩
        | succ j =>
          obtain ⟨y, hy, hd⟩ := ih (k + 1) j vs f h2 hj
          refine ⟨y, hy, ?_⟩
          rw [show k + (j + 1) = k + 1 + j from by omega]
          exact hd
theorem gx_fs_len {m : Int → Int} : ∀ (fs : List (Option Nat)) (k : Nat) (vs : List Value), gx_fs κ α m k fs = vs.map some → vs.length = fs.length := by
  intro fs
  induction fs with
  | nil => intro k vs h; have := congrArg List.length h; simpa [gx_fs] using this.symm
  | cons g r ih =>
    intro k vs h
    cases vs with
    | nil => cases g <;> cases h
    | cons x vs =>
      cases g with
      | none => rw [List.length_cons, List.length_cons, ih (k + 1) vs (List.cons.inj h).2]
      | some q => rw [List.length_cons, List.length_cons, ih (k + 1) vs (List.cons.inj h).2]
theorem gx_fs_congr {m m' : Int → Int} : ∀ (fs : List (Option Nat)) (k : Nat), (∀ j : Nat, k ≤ j → m (j : Int) = m' (j : Int)) → gx_fs κ α m k fs = gx_fs κ α m' k fs := by
  intro fs
  induction fs with
  | nil => intro k h; rfl
  | cons g r ih =>
    intro k h
    cases g with
    | none =>
      show some (Value.int (gx_i (m (k : Int)))) :: gx_fs κ α m (k + 1) r = some (Value.int (gx_i (m' (k : Int)))) :: gx_fs κ α m' (k + 1) r
      rw [h k (Nat.le_refl _), ih (k + 1) (fun j hj => h j (by omega))]
    | some q =>
      show (y_r κ α q).map Value.ref :: gx_fs κ α m (k + 1) r = (y_r κ α q).map Value.ref :: gx_fs κ α m' (k + 1) r
      rw [ih (k + 1) (fun j hj => h j (by omega))]
theorem gx_fs_set {m : Int → Int} {v : Int} : ∀ (fs : List (Option Nat)) (k j : Nat) (vs : List Value), gx_fs κ α m k fs = vs.map some → gx_fld fs j = some none → gx_fs κ α (fun q => if q = ((k + j : Nat) : Int) then v else m q) k fs = (vs.set j (.int (gx_i v))).map some := by
  intro fs
  induction fs with
  | nil => intro k j vs h hj; cases hj
  | cons g r ih =>
    intro k j vs h hj
    cases vs with
    | nil => cases g <;> cases h
    | cons x vs =>
      cases j with
      | zero =>
        have e : g = none := Option.some.inj hj
        subst e
        have h' : some (Value.int (gx_i (m (k : Int)))) :: gx_fs κ α m (k + 1) r = some x :: vs.map some := h
        obtain ⟨h1, h2⟩ := List.cons.inj h'
        show some (Value.int (gx_i (if (k : Int) = ((k + 0 : Nat) : Int) then v else m (k : Int)))) :: gx_fs κ α _ (k + 1) r = some (Value.int (gx_i v)) :: vs.map some
        rw [if_pos (show (k : Int) = ((k + 0 : Nat) : Int) from rfl), ← h2]
        congr 1
        exact gx_fs_congr r (k + 1) (fun j hj => if_neg (by omega))
      | succ j =>
        have e1 : k + (j + 1) = k + 1 + j := by omega
        rw [e1]
        cases g with
        | none =>
          have h' : some (Value.int (gx_i (m (k : Int)))) :: gx_fs κ α m (k + 1) r = some x :: vs.map some := h
          obtain ⟨h1, h2⟩ := List.cons.inj h'
          show some (Value.int (gx_i (if (k : Int) = ((k + 1 + j : Nat) : Int) then v else m (k : Int)))) :: gx_fs κ α _ (k + 1) r = some x :: (vs.set j (.int (gx_i v))).map some
          rw [if_neg (by omega), h1, ih (k + 1) j vs h2 hj]
        | some q =>
          have h' : (y_r κ α q).map Value.ref :: gx_fs κ α m (k + 1) r = some x :: vs.map some := h
          obtain ⟨h1, h2⟩ := List.cons.inj h'
          show (y_r κ α q).map Value.ref :: gx_fs κ α _ (k + 1) r = some x :: (vs.set j (.int (gx_i v))).map some
          rw [h1, ih (k + 1) j vs h2 hj]
theorem gx_h_set {sh : List gx_C} {M M' : gx_M} {ws : va_W} {i a : Nat} {c : gx_C} {e : va_E} (h : gx_h κ α tys sh M ws) (hi : sh[i]? = some c) (ha : α[i]? = some a) (hM : ∀ c', c' ≠ i → M' c' = M c') (hc : gx_c κ α tys c (M' i) e) : gx_h κ α tys sh M' (ws.set i (a, e)) := by
  obtain ⟨h1, h2, h3⟩ := h
  have hl : i < sh.length := (List.getElem?_eq_some_iff.mp hi).1
  refine ⟨h1, by simp [h2], fun j c' hj => ?_⟩
  by_cases hji : i = j
  · subst hji
    rw [hi] at hj
    cases hj
    exact ⟨a, e, ha, List.getElem?_set_self (by omega), hc⟩
  · obtain ⟨a', e', g1, g2, g3⟩ := h3 j c' hj
    exact ⟨a', e', g1, by rw [List.getElem?_set_ne hji]; exact g2, by rw [hM j (fun z => hji z.symm)]; exact g3⟩
theorem gx_up_ne {M : gx_M} {c c' : Nat} {i v : Int} (h : c' ≠ c) : gx_up M c i v c' = M c' := by
  funext j
  exact if_neg (fun z => h z.1)
theorem gx_up_eq (M : gx_M) (c : Nat) (i v : Int) : gx_up M c i v c = fun j => if j = i then v else M c j := by
  funext j
  show (if c = c ∧ j = i then v else M c j) = _
  by_cases h : j = i
  · rw [if_pos ⟨rfl, h⟩, if_pos h]
  · rw [if_neg (fun z => h z.2), if_neg h]
theorem gx_cp_ne {M : gx_M} {s d c' : Nat} {sp dp k : Int} (h : c' ≠ d) : gx_cp M s d sp dp k c' = M c' := by
  funext j
  exact if_neg (fun z => h z.1)
end GXB
-- numbers
theorem gx_ext {a b : Int} (h : a % 4294967296 = b % 4294967296) : gx_i a = gx_i b := by
  apply Int32.toBitVec_inj.mp
  apply BitVec.eq_of_toNat_eq
  show (BitVec.ofInt 32 a).toNat = (BitVec.ofInt 32 b).toNat
  rw [BitVec.toNat_ofInt, BitVec.toNat_ofInt]
  show (a % 4294967296).toNat = (b % 4294967296).toNat
  rw [h]
theorem gx_extL {a b : Int} (h : a % 18446744073709551616 = b % 18446744073709551616) : gx_l a = gx_l b := by
  apply Int64.toBitVec_inj.mp
  apply BitVec.eq_of_toNat_eq
  show (BitVec.ofInt 64 a).toNat = (BitVec.ofInt 64 b).toNat
  rw [BitVec.toNat_ofInt, BitVec.toNat_ofInt]
  show (a % 18446744073709551616).toNat = (b % 18446744073709551616).toNat
  rw [h]
theorem gx_toInt {a : Int} (h : gx_R a) : (gx_i a).toInt = a := by
  show (BitVec.ofInt 32 a).toInt = a
  rw [BitVec.toInt_ofInt]
  show Int.bmod a 4294967296 = a
  unfold Int.bmod
  dsimp only
  split <;> omega
theorem gx_toIntL {a : Int} (h : gx_RL a) : (gx_l a).toInt = a := by
  show (BitVec.ofInt 64 a).toInt = a
  rw [BitVec.toInt_ofInt]
  show Int.bmod a 18446744073709551616 = a
  unfold Int.bmod
  dsimp only
  split <;> omega
theorem gx_i_of (x : Int32) : gx_i x.toInt = x := Int32.toInt_inj.mp (gx_toInt ⟨Int32.le_toInt x, Int32.toInt_lt x⟩)
theorem gx_l_of (x : Int64) : gx_l x.toInt = x := Int64.toInt_inj.mp (gx_toIntL ⟨Int64.le_toInt x, Int64.toInt_lt x⟩)
theorem gx_nat (n : Nat) : gx_i (n : Int) = nI n := by
  apply Int32.toBitVec_inj.mp
  apply BitVec.eq_of_toNat_eq
  show (BitVec.ofInt 32 (n : Int)).toNat = (BitVec.ofNat 32 n).toNat
  rw [BitVec.toNat_ofInt, BitVec.toNat_ofNat]
  show ((n : Int) % 4294967296).toNat = n % 4294967296
  omega
theorem gx_natL (n : Nat) : gx_l (n : Int) = lN n := by
  apply Int64.toBitVec_inj.mp
  apply BitVec.eq_of_toNat_eq
  show (BitVec.ofInt 64 (n : Int)).toNat = (BitVec.ofNat 64 n).toNat
  rw [BitVec.toNat_ofInt, BitVec.toNat_ofNat]
  show ((n : Int) % 18446744073709551616).toNat = n % 18446744073709551616
  omega
theorem gx_lit_ok (n : Nat) : nI n = gx_i (gx_lit n) := by
  rw [← gx_nat]
  apply gx_ext
  unfold gx_lit
  cases h : Nat.blt n 2147483648 with
  | true => rfl
  | false =>
    simp only [cond_false]
    rw [Int.subNatNat_eq_coe]
    omega
theorem gx_litL_ok (n : Nat) : lN n = gx_l (gx_litL n) := by
  rw [← gx_natL]
  apply gx_extL
  unfold gx_litL
  cases h : Nat.blt n 9223372036854775808 with
  | true => rfl
  | false =>
    simp only [cond_false]
    rw [Int.subNatNat_eq_coe]
    omega
theorem gx_add (a b : Int) : gx_i a + gx_i b = gx_i (a + b) := by
  apply Int32.toBitVec_inj.mp
  rw [Int32.toBitVec_add]
  show BitVec.ofInt 32 a + BitVec.ofInt 32 b = BitVec.ofInt 32 (a + b)
  rw [BitVec.ofInt_add]
theorem gx_mul (a b : Int) : gx_i a * gx_i b = gx_i (a * b) := by
  apply Int32.toBitVec_inj.mp
  rw [Int32.toBitVec_mul]
  show BitVec.ofInt 32 a * BitVec.ofInt 32 b = BitVec.ofInt 32 (a * b)
  rw [BitVec.ofInt_mul]
theorem gx_sub (a b : Int) : gx_i a - gx_i b = gx_i (a - b) := by
  have h : gx_i a = gx_i (a - b) + gx_i b := by rw [gx_add]; congr 1; omega
  rw [h]
  exact Int32.add_sub_cancel _ _
theorem gx_addL (a b : Int) : gx_l a + gx_l b = gx_l (a + b) := by
  apply Int64.toBitVec_inj.mp
  rw [Int64.toBitVec_add]
  show BitVec.ofInt 64 a + BitVec.ofInt 64 b = BitVec.ofInt 64 (a + b)
  rw [BitVec.ofInt_add]
theorem gx_mulL (a b : Int) : gx_l a * gx_l b = gx_l (a * b) := by
  apply Int64.toBitVec_inj.mp
  rw [Int64.toBitVec_mul]
  show BitVec.ofInt 64 a * BitVec.ofInt 64 b = BitVec.ofInt 64 (a * b)
  rw [BitVec.ofInt_mul]
theorem gx_subL (a b : Int) : gx_l a - gx_l b = gx_l (a - b) := by
  have h : gx_l a = gx_l (a - b) + gx_l b := by rw [gx_addL]; congr 1; omega
  rw [h]
  exact Int64.add_sub_cancel _ _
theorem gx_ne0 {b : Int} (h : 0 < b) (h2 : b < 2147483648) : ¬ gx_i b = 0 := by
  intro z
  have := gx_toInt (a := b) ⟨by omega, h2⟩
  rw [z, Int32.toInt_zero] at this
  omega
theorem gx_ne0L {b : Int} (h : 0 < b) (h2 : b < 9223372036854775808) : ¬ gx_l b = 0 := by
  intro z
  have := gx_toIntL (a := b) ⟨by omega, h2⟩
  rw [z, Int64.toInt_zero] at this
  omega
theorem gx_div {a b : Int} (h : (0 ≤ a ∧ a < 2147483648) ∧ 0 < b ∧ b < 2147483648) : gx_i a / gx_i b = gx_i (a / b) := by
  obtain ⟨⟨h1, h2⟩, h3, h4⟩ := h
  have hq : 0 ≤ a / b := Int.ediv_nonneg h1 (by omega)
  have hq2 : a / b ≤ a := Int.ediv_le_self b h1
  apply Int32.toInt_inj.mp
  rw [Int32.toInt_div, gx_toInt ⟨by omega, h2⟩, gx_toInt ⟨by omega, h4⟩, gx_toInt ⟨by omega, by omega⟩, Int.tdiv_eq_ediv_of_nonneg h1]
  show Int.bmod (a / b) 4294967296 = a / b
  unfold Int.bmod
  dsimp only
  split <;> omega
theorem gx_divL {a b : Int} (h : (0 ≤ a ∧ a < 9223372036854775808) ∧ 0 < b ∧ b < 9223372036854775808) : gx_l a / gx_l b = gx_l (a / b) := by
  obtain ⟨⟨h1, h2⟩, h3, h4⟩ := h
  have hq : 0 ≤ a / b := Int.ediv_nonneg h1 (by omega)
  have hq2 : a / b ≤ a := Int.ediv_le_self b h1
  apply Int64.toInt_inj.mp
  rw [Int64.toInt_div, gx_toIntL ⟨by omega, h2⟩, gx_toIntL ⟨by omega, h4⟩, gx_toIntL ⟨by omega, by omega⟩, Int.tdiv_eq_ediv_of_nonneg h1]
  show Int.bmod (a / b) 18446744073709551616 = a / b
  unfold Int.bmod
  dsimp only
  split <;> omega
theorem gx_rem {a b : Int} (h : (0 ≤ a ∧ a < 2147483648) ∧ 0 < b ∧ b < 2147483648) : gx_i a - gx_i a / gx_i b * gx_i b = gx_i (a % b) := by
  rw [gx_div h, gx_mul, gx_sub]
  congr 1
  rw [Int.emod_def, Int.mul_comm]
theorem gx_remL {a b : Int} (h : (0 ≤ a ∧ a < 9223372036854775808) ∧ 0 < b ∧ b < 9223372036854775808) : gx_l a - gx_l a / gx_l b * gx_l b = gx_l (a % b) := by
  rw [gx_divL h, gx_mulL, gx_subL]
  congr 1
  rw [Int.emod_def, Int.mul_comm]
theorem gx_i2l {a : Int} (h : gx_R a) : (gx_i a).toInt64 = gx_l a := by
  apply Int64.toInt_inj.mp
  rw [Int32.toInt_toInt64, gx_toInt h, gx_toIntL ⟨by omega, by omega⟩]
theorem gx_l2i (a : Int) : (gx_l a).toInt32 = gx_i a := by
  apply Int32.toBitVec_inj.mp
  apply BitVec.eq_of_toInt_eq
  show (BitVec.signExtend 32 (BitVec.ofInt 64 a)).toInt = (BitVec.ofInt 32 a).toInt
  rw [BitVec.signExtend_eq_setWidth_of_le _ (by omega)]
  congr 1
  apply BitVec.eq_of_toNat_eq
  rw [BitVec.toNat_setWidth, BitVec.toNat_ofInt, BitVec.toNat_ofInt]
  show (a % 18446744073709551616).toNat % 4294967296 = (a % 4294967296).toNat
  omega
theorem gx_c3_ok {a b : Int} (ha : gx_RL a) (hb : gx_RL b) : lg_cmp (gx_l a) (gx_l b) = gx_i (gx_c3 a b) := by
  unfold lg_cmp gx_c3
  have e1 : (gx_l a > gx_l b) ↔ b < a := by
    show gx_l b < gx_l a ↔ _
    rw [Int64.lt_iff_toInt_lt, gx_toIntL ha, gx_toIntL hb]
  have e2 : (gx_l a = gx_l b) ↔ a = b := by
    rw [← Int64.toInt_inj, gx_toIntL ha, gx_toIntL hb]
  by_cases h1 : b < a
  · rw [if_pos (e1.mpr h1), if_pos h1]; rfl
  · rw [if_neg (fun z => h1 (e1.mp z)), if_neg h1]
    by_cases h2 : a = b
    · rw [if_pos (e2.mpr h2), if_pos h2]; rfl
    · rw [if_neg (fun z => h2 (e2.mp z)), if_neg h2]; rfl
theorem gx_idx {j : Int} {len : Nat} (h : 0 ≤ j ∧ j < (len : Int)) (hl : j < 2147483648) : vp_in (gx_i j) len ∧ (gx_i j).toNatClampNeg = j.toNat ∧ j.toNat < len ∧ ((j.toNat : Nat) : Int) = j := by
  have e : ((j.toNat : Nat) : Int) = j := Int.toNat_of_nonneg h.1
  have e2 : gx_i j = nI j.toNat := by rw [← gx_nat, e]
  have e3 : j.toNat < len := by omega
  rw [e2]
  exact ⟨y_in e3 (by omega), nI_clamp (by omega), e3, e⟩
theorem gx_bool_nar {v : Int} (h : v = 0 ∨ v = 1) : vp_nar .boolean (gx_i v) = gx_i v := by
  rcases h with rfl | rfl
  · decide
  · decide
theorem gx_bool_fit {v : Int} (h : v = 0 ∨ v = 1) : narrow .boolean (.int (gx_i v)) = .int (gx_i v) ∧ fits .boolean (.int (gx_i v)) = true := by
  rcases h with rfl | rfl
  · exact ⟨by decide, by decide⟩
  · exact ⟨by decide, by decide⟩
theorem gx_usL {f : Nat → Int64} {k : Nat} {x : Int64} : vp_updL f k x k = x := if_pos rfl
theorem gx_unL {f : Nat → Int64} {k j : Nat} {x : Int64} (h : j ≠ k) : vp_updL f k x j = f j := if_neg h
end
section
def gx_Z (κ : yK) (D : va_G) (A : Nat → Prop) (s : State) (nL : Nat) (α : List Nat) (tys : List (ClassId × FieldType)) (ws : va_W) (H : Heap) (locs : List Loc) (ls : Array Slot) (lv : List (Nat × Value)) (sv : List Value) (sh : List gx_C) (lo st : List gx_V) (M : gx_M) : Prop :=
  gx_h κ α tys sh M ws ∧ gx_dl κ α lo lv ∧ gx_ds κ α st sv ∧ lv_has ls nL lv ∧ va_P D vwCl ws H ∧ va_K D vwCl tys s ∧ va_D A ws ∧ va_S A s.heap H locs

section GXSTEP
variable {p : Program} {l : Launch} {e : Env} {R : Room} {s : State} {m : MethodId} {args : Array Value} {below : List Frame} {meth : Method} {c : Code} {H : Heap} {locs : List Loc} {Q : State → Prop} {ls : Array Slot}
variable {κ : yK} {D : va_G} {A : Nat → Prop} {α : List Nat} {tys : List (ClassId × FieldType)} {ws : va_W} {lv : List (Nat × Value)} {sv : List Value} {lo st : List gx_V} {sh : List gx_C} {M : gx_M} {cc : ByteArray} {own yn : String} {nL : Nat} {t pc k n : Nat} {P : Option Prop} {S' : gx_S}

set_option maxHeartbeats 4000000 in
set_option maxRecDepth 100000 in
theorem gx_st_iconst {i : Int} {nx r1 r2 r3 : Nat} (C : y_ctx κ true p R s m args meth c cc own yn nL A) (hok : y_okop nL own yn cc (pc, (.iconst i, nx, r1, r2, r3)) = true) (hs : gx_st1 κ sh t pc (.iconst i, nx, r1, r2, r3) lo st M = some (P, S')) (hP0 : ∀ q, P = some q → q) (hk : k ≤ R.cells) (hn : n ≤ R.slots) (Z : gx_Z κ D A s nL α tys ws H locs ls lv sv sh lo st M)
    (kk : ∀ ws' H' locs' ls' lv' sv', gx_Z κ D A s nL α tys ws' H' locs' ls' lv' sv' sh S'.2.1 S'.2.2.1 S'.2.2.2 → W p l e R s m args below meth c H' locs' k n Q (F0 m S'.1 ls' sv')) : W p l e R s m args below meth c H locs k n Q (F0 m pc ls sv) := by
  obtain ⟨hx, hb, hml, hown, hts, hyn, hAO, hA, hRf, hRl, hsc⟩ := C
  obtain ⟨hh, hl, hst, hls, hP, hK, hD, hS⟩ := Z
  unfold y_okop y_okin at hok
  simp only [Bool.and_eq_true, decide_eq_true_eq] at hok
  obtain ⟨hdg, hok⟩ := hok
  unfold gx_st1 at hs
  dsimp only at hs
  obtain ⟨rfl, hv⟩ := hok
  rw [Nat.add_sub_cancel_left] at hdg
  cases hs
  exact lv_iconst hx hb hdg (hv.trans (gx_lit_ok r1)) (kk ws H locs ls _ _ ⟨hh, hl, gx_ds_i rfl hst, hls, hP, hK, hD, hS⟩)

set_option maxHeartbeats 4000000 in
set_option maxRecDepth 100000 in
theorem gx_st_bipush {i : Int} {nx r1 r2 r3 : Nat} (C : y_ctx κ true p R s m args meth c cc own yn nL A) (hok : y_okop nL own yn cc (pc, (.bipush i, nx, r1, r2, r3)) = true) (hs : gx_st1 κ sh t pc (.bipush i, nx, r1, r2, r3) lo st M = some (P, S')) (hP0 : ∀ q, P = some q → q) (hk : k ≤ R.cells) (hn : n ≤ R.slots) (Z : gx_Z κ D A s nL α tys ws H locs ls lv sv sh lo st M)
    (kk : ∀ ws' H' locs' ls' lv' sv', gx_Z κ D A s nL α tys ws' H' locs' ls' lv' sv' sh S'.2.1 S'.2.2.1 S'.2.2.2 → W p l e R s m args below meth c H' locs' k n Q (F0 m S'.1 ls' sv')) : W p l e R s m args below meth c H locs k n Q (F0 m pc ls sv) := by
  obtain ⟨hx, hb, hml, hown, hts, hyn, hAO, hA, hRf, hRl, hsc⟩ := C
  obtain ⟨hh, hl, hst, hls, hP, hK, hD, hS⟩ := Z
  unfold y_okop y_okin at hok
  simp only [Bool.and_eq_true, decide_eq_true_eq] at hok
  obtain ⟨hdg, hok⟩ := hok
  unfold gx_st1 at hs
  dsimp only at hs
  obtain ⟨rfl, hv⟩ := hok
  rw [Nat.add_sub_cancel_left] at hdg
  cases hs
  exact lv_bipush hx hb hdg (hv.trans (gx_lit_ok r1)) (kk ws H locs ls _ _ ⟨hh, hl, gx_ds_i rfl hst, hls, hP, hK, hD, hS⟩)

set_option maxHeartbeats 4000000 in
set_option maxRecDepth 100000 in
theorem gx_st_sipush {i : Int} {nx r1 r2 r3 : Nat} (C : y_ctx κ true p R s m args meth c cc own yn nL A) (hok : y_okop nL own yn cc (pc, (.sipush i, nx, r1, r2, r3)) = true) (hs : gx_st1 κ sh t pc (.sipush i, nx, r1, r2, r3) lo st M = some (P, S')) (hP0 : ∀ q, P = some q → q) (hk : k ≤ R.cells) (hn : n ≤ R.slots) (Z : gx_Z κ D A s nL α tys ws H locs ls lv sv sh lo st M)
    (kk : ∀ ws' H' locs' ls' lv' sv', gx_Z κ D A s nL α tys ws' H' locs' ls' lv' sv' sh S'.2.1 S'.2.2.1 S'.2.2.2 → W p l e R s m args below meth c H' locs' k n Q (F0 m S'.1 ls' sv')) : W p l e R s m args below meth c H locs k n Q (F0 m pc ls sv) := by
  obtain ⟨hx, hb, hml, hown, hts, hyn, hAO, hA, hRf, hRl, hsc⟩ := C
  obtain ⟨hh, hl, hst, hls, hP, hK, hD, hS⟩ := Z
  unfold y_okop y_okin at hok
  simp only [Bool.and_eq_true, decide_eq_true_eq] at hok
  obtain ⟨hdg, hok⟩ := hok
  unfold gx_st1 at hs
  dsimp only at hs
  obtain ⟨rfl, hv⟩ := hok
  rw [Nat.add_sub_cancel_left] at hdg
  cases hs
  exact lv_sipush hx hb hdg (hv.trans (gx_lit_ok r1)) (kk ws H locs ls _ _ ⟨hh, hl, gx_ds_i rfl hst, hls, hP, hK, hD, hS⟩)

set_option maxHeartbeats 4000000 in
set_option maxRecDepth 100000 in
theorem gx_st_ldc {i : Nat} {nx r1 r2 r3 : Nat} (C : y_ctx κ true p R s m args meth c cc own yn nL A) (hok : y_okop nL own yn cc (pc, (.ldc i, nx, r1, r2, r3)) = true) (hs : gx_st1 κ sh t pc (.ldc i, nx, r1, r2, r3) lo st M = some (P, S')) (hP0 : ∀ q, P = some q → q) (hk : k ≤ R.cells) (hn : n ≤ R.slots) (Z : gx_Z κ D A s nL α tys ws H locs ls lv sv sh lo st M)
    (kk : ∀ ws' H' locs' ls' lv' sv', gx_Z κ D A s nL α tys ws' H' locs' ls' lv' sv' sh S'.2.1 S'.2.2.1 S'.2.2.2 → W p l e R s m args below meth c H' locs' k n Q (F0 m S'.1 ls' sv')) : W p l e R s m args below meth c H locs k n Q (F0 m pc ls sv) := by
  obtain ⟨hx, hb, hml, hown, hts, hyn, hAO, hA, hRf, hRl, hsc⟩ := C
  obtain ⟨hh, hl, hst, hls, hP, hK, hD, hS⟩ := Z
  unfold y_okop y_okin at hok
  simp only [Bool.and_eq_true, decide_eq_true_eq] at hok
  obtain ⟨hdg, hok⟩ := hok
  unfold gx_st1 at hs
  dsimp only at hs
  obtain ⟨rfl, hv⟩ := hok
  rw [Nat.add_sub_cancel_left] at hdg
  cases hs
  rw [gx_lit_ok] at hv
  exact lv_ldc hx hb hown (hts _ (yM_ok hv)) hdg (kk ws H locs ls _ _ ⟨hh, hl, gx_ds_i rfl hst, hls, hP, hK, hD, hS⟩)

set_option maxHeartbeats 4000000 in
set_option maxRecDepth 100000 in
theorem gx_st_ldcw {i : Nat} {nx r1 r2 r3 : Nat} (C : y_ctx κ true p R s m args meth c cc own yn nL A) (hok : y_okop nL own yn cc (pc, (.ldc_w i, nx, r1, r2, r3)) = true) (hs : gx_st1 κ sh t pc (.ldc_w i, nx, r1, r2, r3) lo st M = some (P, S')) (hP0 : ∀ q, P = some q → q) (hk : k ≤ R.cells) (hn : n ≤ R.slots) (Z : gx_Z κ D A s nL α tys ws H locs ls lv sv sh lo st M)
    (kk : ∀ ws' H' locs' ls' lv' sv', gx_Z κ D A s nL α tys ws' H' locs' ls' lv' sv' sh S'.2.1 S'.2.2.1 S'.2.2.2 → W p l e R s m args below meth c H' locs' k n Q (F0 m S'.1 ls' sv')) : W p l e R s m args below meth c H locs k n Q (F0 m pc ls sv) := by
  obtain ⟨hx, hb, hml, hown, hts, hyn, hAO, hA, hRf, hRl, hsc⟩ := C
  obtain ⟨hh, hl, hst, hls, hP, hK, hD, hS⟩ := Z
  unfold y_okop y_okin at hok
  simp only [Bool.and_eq_true, decide_eq_true_eq] at hok
  obtain ⟨hdg, hok⟩ := hok
  unfold gx_st1 at hs
  dsimp only at hs
  obtain ⟨rfl, hv⟩ := hok
  rw [Nat.add_sub_cancel_left] at hdg
  cases hs
  rw [gx_lit_ok] at hv
  exact lv_ldcw hx hb hown (hts _ (yM_ok hv)) hdg (kk ws H locs ls _ _ ⟨hh, hl, gx_ds_i rfl hst, hls, hP, hK, hD, hS⟩)

set_option maxHeartbeats 4000000 in
set_option maxRecDepth 100000 in
theorem gx_st_lconst {i : Fin 2} {nx r1 r2 r3 : Nat} (C : y_ctx κ true p R s m args meth c cc own yn nL A) (hok : y_okop nL own yn cc (pc, (.lconst i, nx, r1, r2, r3)) = true) (hs : gx_st1 κ sh t pc (.lconst i, nx, r1, r2, r3) lo st M = some (P, S')) (hP0 : ∀ q, P = some q → q) (hk : k ≤ R.cells) (hn : n ≤ R.slots) (Z : gx_Z κ D A s nL α tys ws H locs ls lv sv sh lo st M)
    (kk : ∀ ws' H' locs' ls' lv' sv', gx_Z κ D A s nL α tys ws' H' locs' ls' lv' sv' sh S'.2.1 S'.2.2.1 S'.2.2.2 → W p l e R s m args below meth c H' locs' k n Q (F0 m S'.1 ls' sv')) : W p l e R s m args below meth c H locs k n Q (F0 m pc ls sv) := by
  obtain ⟨hx, hb, hml, hown, hts, hyn, hAO, hA, hRf, hRl, hsc⟩ := C
  obtain ⟨hh, hl, hst, hls, hP, hK, hD, hS⟩ := Z
  unfold y_okop y_okin at hok
  simp only [Bool.and_eq_true, decide_eq_true_eq] at hok
  obtain ⟨hdg, hok⟩ := hok
  unfold gx_st1 at hs
  dsimp only at hs
  obtain ⟨rfl, hv⟩ := hok
  rw [Nat.add_sub_cancel_left] at hdg
  cases hs
  exact lv_lconst hx hb hdg (hv.trans (gx_litL_ok r1)) (kk ws H locs ls _ _ ⟨hh, hl, gx_ds_l rfl hst, hls, hP, hK, hD, hS⟩)

set_option maxHeartbeats 4000000 in
set_option maxRecDepth 100000 in
theorem gx_st_ldc2 {i : Nat} {nx r1 r2 r3 : Nat} (C : y_ctx κ true p R s m args meth c cc own yn nL A) (hok : y_okop nL own yn cc (pc, (.ldc2_w i, nx, r1, r2, r3)) = true) (hs : gx_st1 κ sh t pc (.ldc2_w i, nx, r1, r2, r3) lo st M = some (P, S')) (hP0 : ∀ q, P = some q → q) (hk : k ≤ R.cells) (hn : n ≤ R.slots) (Z : gx_Z κ D A s nL α tys ws H locs ls lv sv sh lo st M)
    (kk : ∀ ws' H' locs' ls' lv' sv', gx_Z κ D A s nL α tys ws' H' locs' ls' lv' sv' sh S'.2.1 S'.2.2.1 S'.2.2.2 → W p l e R s m args below meth c H' locs' k n Q (F0 m S'.1 ls' sv')) : W p l e R s m args below meth c H locs k n Q (F0 m pc ls sv) := by
  obtain ⟨hx, hb, hml, hown, hts, hyn, hAO, hA, hRf, hRl, hsc⟩ := C
  obtain ⟨hh, hl, hst, hls, hP, hK, hD, hS⟩ := Z
  unfold y_okop y_okin at hok
  simp only [Bool.and_eq_true, decide_eq_true_eq] at hok
  obtain ⟨hdg, hok⟩ := hok
  unfold gx_st1 at hs
  dsimp only at hs
  obtain ⟨rfl, hv⟩ := hok
  rw [Nat.add_sub_cancel_left] at hdg
  cases hs
  rw [gx_litL_ok] at hv
  exact lv_ldc2 hx hb hown (hts _ (yM_ok hv)) hdg (kk ws H locs ls _ _ ⟨hh, hl, gx_ds_l rfl hst, hls, hP, hK, hD, hS⟩)

set_option maxHeartbeats 4000000 in
set_option maxRecDepth 100000 in
theorem gx_st_iloadn {i : Fin 4} {nx r1 r2 r3 : Nat} (C : y_ctx κ true p R s m args meth c cc own yn nL A) (hok : y_okop nL own yn cc (pc, (.iload_n i, nx, r1, r2, r3)) = true) (hs : gx_st1 κ sh t pc (.iload_n i, nx, r1, r2, r3) lo st M = some (P, S')) (hP0 : ∀ q, P = some q → q) (hk : k ≤ R.cells) (hn : n ≤ R.slots) (Z : gx_Z κ D A s nL α tys ws H locs ls lv sv sh lo st M)
    (kk : ∀ ws' H' locs' ls' lv' sv', gx_Z κ D A s nL α tys ws' H' locs' ls' lv' sv' sh S'.2.1 S'.2.2.1 S'.2.2.2 → W p l e R s m args below meth c H' locs' k n Q (F0 m S'.1 ls' sv')) : W p l e R s m args below meth c H locs k n Q (F0 m pc ls sv) := by
  obtain ⟨hx, hb, hml, hown, hts, hyn, hAO, hA, hRf, hRl, hsc⟩ := C
  obtain ⟨hh, hl, hst, hls, hP, hK, hD, hS⟩ := Z
  unfold y_okop y_okin at hok
  simp only [Bool.and_eq_true, decide_eq_true_eq] at hok
  obtain ⟨hdg, hok⟩ := hok
  unfold gx_st1 at hs
  dsimp only at hs
  obtain rfl := hok
  rw [Nat.add_sub_cancel_left] at hdg
  cases hg : gx_lg lo i with
  | inl a =>
    rw [hg] at hs
    cases hs
    obtain ⟨x, hx1, hx2⟩ := gx_dl_get hl hg (fun z => by cases z)
    cases hx2
    exact lv_iload_n hx hb hdg rfl (hls.2.2 _ hx1) (kk ws H locs ls _ _ ⟨hh, hl, gx_ds_i rfl hst, hls, hP, hK, hD, hS⟩)
  | inr b =>
    cases b with
    | inl a =>
      rw [hg] at hs; cases hs
    | inr b =>
      cases b with
      | none => rw [hg] at hs; cases hs
      | some a =>
        rw [hg] at hs; cases hs

set_option maxHeartbeats 4000000 in
set_option maxRecDepth 100000 in
theorem gx_st_iload {i : Nat} {nx r1 r2 r3 : Nat} (C : y_ctx κ true p R s m args meth c cc own yn nL A) (hok : y_okop nL own yn cc (pc, (.iload i, nx, r1, r2, r3)) = true) (hs : gx_st1 κ sh t pc (.iload i, nx, r1, r2, r3) lo st M = some (P, S')) (hP0 : ∀ q, P = some q → q) (hk : k ≤ R.cells) (hn : n ≤ R.slots) (Z : gx_Z κ D A s nL α tys ws H locs ls lv sv sh lo st M)
    (kk : ∀ ws' H' locs' ls' lv' sv', gx_Z κ D A s nL α tys ws' H' locs' ls' lv' sv' sh S'.2.1 S'.2.2.1 S'.2.2.2 → W p l e R s m args below meth c H' locs' k n Q (F0 m S'.1 ls' sv')) : W p l e R s m args below meth c H locs k n Q (F0 m pc ls sv) := by
  obtain ⟨hx, hb, hml, hown, hts, hyn, hAO, hA, hRf, hRl, hsc⟩ := C
  obtain ⟨hh, hl, hst, hls, hP, hK, hD, hS⟩ := Z
  unfold y_okop y_okin at hok
  simp only [Bool.and_eq_true, decide_eq_true_eq] at hok
  obtain ⟨hdg, hok⟩ := hok
  unfold gx_st1 at hs
  dsimp only at hs
  obtain rfl := hok
  rw [Nat.add_sub_cancel_left] at hdg
  cases hg : gx_lg lo i with
  | inl a =>
    rw [hg] at hs
    cases hs
    obtain ⟨x, hx1, hx2⟩ := gx_dl_get hl hg (fun z => by cases z)
    cases hx2
    exact lv_iload hx hb hdg (hls.2.2 _ hx1) (kk ws H locs ls _ _ ⟨hh, hl, gx_ds_i rfl hst, hls, hP, hK, hD, hS⟩)
  | inr b =>
    cases b with
    | inl a =>
      rw [hg] at hs; cases hs
    | inr b =>
      cases b with
      | none => rw [hg] at hs; cases hs
      | some a =>
        rw [hg] at hs; cases hs

set_option maxHeartbeats 4000000 in
set_option maxRecDepth 100000 in
theorem gx_st_lloadn {i : Fin 4} {nx r1 r2 r3 : Nat} (C : y_ctx κ true p R s m args meth c cc own yn nL A) (hok : y_okop nL own yn cc (pc, (.lload_n i, nx, r1, r2, r3)) = true) (hs : gx_st1 κ sh t pc (.lload_n i, nx, r1, r2, r3) lo st M = some (P, S')) (hP0 : ∀ q, P = some q → q) (hk : k ≤ R.cells) (hn : n ≤ R.slots) (Z : gx_Z κ D A s nL α tys ws H locs ls lv sv sh lo st M)
    (kk : ∀ ws' H' locs' ls' lv' sv', gx_Z κ D A s nL α tys ws' H' locs' ls' lv' sv' sh S'.2.1 S'.2.2.1 S'.2.2.2 → W p l e R s m args below meth c H' locs' k n Q (F0 m S'.1 ls' sv')) : W p l e R s m args below meth c H locs k n Q (F0 m pc ls sv) := by
  obtain ⟨hx, hb, hml, hown, hts, hyn, hAO, hA, hRf, hRl, hsc⟩ := C
  obtain ⟨hh, hl, hst, hls, hP, hK, hD, hS⟩ := Z
  unfold y_okop y_okin at hok
  simp only [Bool.and_eq_true, decide_eq_true_eq] at hok
  obtain ⟨hdg, hok⟩ := hok
  unfold gx_st1 at hs
  dsimp only at hs
  obtain rfl := hok
  rw [Nat.add_sub_cancel_left] at hdg
  cases hg : gx_lg lo i with
  | inl a =>
    rw [hg] at hs; cases hs
  | inr b =>
    cases b with
    | inl a =>
      rw [hg] at hs
      cases hs
      obtain ⟨x, hx1, hx2⟩ := gx_dl_get hl hg (fun z => by cases z)
      cases hx2
      exact lv_lload_n hx hb hdg rfl (hls.2.2 _ hx1) (kk ws H locs ls _ _ ⟨hh, hl, gx_ds_l rfl hst, hls, hP, hK, hD, hS⟩)
    | inr b =>
      cases b with
      | none => rw [hg] at hs; cases hs
      | some a =>
        rw [hg] at hs; cases hs

set_option maxHeartbeats 4000000 in
set_option maxRecDepth 100000 in
theorem gx_st_lload {i : Nat} {nx r1 r2 r3 : Nat} (C : y_ctx κ true p R s m args meth c cc own yn nL A) (hok : y_okop nL own yn cc (pc, (.lload i, nx, r1, r2, r3)) = true) (hs : gx_st1 κ sh t pc (.lload i, nx, r1, r2, r3) lo st M = some (P, S')) (hP0 : ∀ q, P = some q → q) (hk : k ≤ R.cells) (hn : n ≤ R.slots) (Z : gx_Z κ D A s nL α tys ws H locs ls lv sv sh lo st M)
    (kk : ∀ ws' H' locs' ls' lv' sv', gx_Z κ D A s nL α tys ws' H' locs' ls' lv' sv' sh S'.2.1 S'.2.2.1 S'.2.2.2 → W p l e R s m args below meth c H' locs' k n Q (F0 m S'.1 ls' sv')) : W p l e R s m args below meth c H locs k n Q (F0 m pc ls sv) := by
  obtain ⟨hx, hb, hml, hown, hts, hyn, hAO, hA, hRf, hRl, hsc⟩ := C
  obtain ⟨hh, hl, hst, hls, hP, hK, hD, hS⟩ := Z
  unfold y_okop y_okin at hok
  simp only [Bool.and_eq_true, decide_eq_true_eq] at hok
  obtain ⟨hdg, hok⟩ := hok
  unfold gx_st1 at hs
  dsimp only at hs
  obtain rfl := hok
  rw [Nat.add_sub_cancel_left] at hdg
  cases hg : gx_lg lo i with
  | inl a =>
    rw [hg] at hs; cases hs
  | inr b =>
    cases b with
    | inl a =>
      rw [hg] at hs
      cases hs
      obtain ⟨x, hx1, hx2⟩ := gx_dl_get hl hg (fun z => by cases z)
      cases hx2
      exact lv_lload hx hb hdg (hls.2.2 _ hx1) (kk ws H locs ls _ _ ⟨hh, hl, gx_ds_l rfl hst, hls, hP, hK, hD, hS⟩)
    | inr b =>
      cases b with
      | none => rw [hg] at hs; cases hs
      | some a =>
        rw [hg] at hs; cases hs

set_option maxHeartbeats 4000000 in
set_option maxRecDepth 100000 in
theorem gx_st_aloadn {i : Fin 4} {nx r1 r2 r3 : Nat} (C : y_ctx κ true p R s m args meth c cc own yn nL A) (hok : y_okop nL own yn cc (pc, (.aload_n i, nx, r1, r2, r3)) = true) (hs : gx_st1 κ sh t pc (.aload_n i, nx, r1, r2, r3) lo st M = some (P, S')) (hP0 : ∀ q, P = some q → q) (hk : k ≤ R.cells) (hn : n ≤ R.slots) (Z : gx_Z κ D A s nL α tys ws H locs ls lv sv sh lo st M)
    (kk : ∀ ws' H' locs' ls' lv' sv', gx_Z κ D A s nL α tys ws' H' locs' ls' lv' sv' sh S'.2.1 S'.2.2.1 S'.2.2.2 → W p l e R s m args below meth c H' locs' k n Q (F0 m S'.1 ls' sv')) : W p l e R s m args below meth c H locs k n Q (F0 m pc ls sv) := by
  obtain ⟨hx, hb, hml, hown, hts, hyn, hAO, hA, hRf, hRl, hsc⟩ := C
  obtain ⟨hh, hl, hst, hls, hP, hK, hD, hS⟩ := Z
  unfold y_okop y_okin at hok
  simp only [Bool.and_eq_true, decide_eq_true_eq] at hok
  obtain ⟨hdg, hok⟩ := hok
  unfold gx_st1 at hs
  dsimp only at hs
  obtain rfl := hok
  rw [Nat.add_sub_cancel_left] at hdg
  cases hg : gx_lg lo i with
  | inl a =>
    rw [hg] at hs; cases hs
  | inr b =>
    cases b with
    | inl a =>
      rw [hg] at hs; cases hs
    | inr b =>
      cases b with
      | none => rw [hg] at hs; cases hs
      | some a =>
        rw [hg] at hs
        cases hs
        obtain ⟨x, hx1, hx2⟩ := gx_dl_get hl hg (fun z => by cases z)
        obtain ⟨b, hb1, rfl⟩ := Option.map_eq_some_iff.mp hx2
        exact lv_aload_n hx hb hdg rfl (hls.2.2 _ hx1) (kk ws H locs ls _ _ ⟨hh, hl, gx_ds_mk hx2 hst, hls, hP, hK, hD, hS⟩)

set_option maxHeartbeats 4000000 in
set_option maxRecDepth 100000 in
theorem gx_st_aload {i : Nat} {nx r1 r2 r3 : Nat} (C : y_ctx κ true p R s m args meth c cc own yn nL A) (hok : y_okop nL own yn cc (pc, (.aload i, nx, r1, r2, r3)) = true) (hs : gx_st1 κ sh t pc (.aload i, nx, r1, r2, r3) lo st M = some (P, S')) (hP0 : ∀ q, P = some q → q) (hk : k ≤ R.cells) (hn : n ≤ R.slots) (Z : gx_Z κ D A s nL α tys ws H locs ls lv sv sh lo st M)
    (kk : ∀ ws' H' locs' ls' lv' sv', gx_Z κ D A s nL α tys ws' H' locs' ls' lv' sv' sh S'.2.1 S'.2.2.1 S'.2.2.2 → W p l e R s m args below meth c H' locs' k n Q (F0 m S'.1 ls' sv')) : W p l e R s m args below meth c H locs k n Q (F0 m pc ls sv) := by
  obtain ⟨hx, hb, hml, hown, hts, hyn, hAO, hA, hRf, hRl, hsc⟩ := C
  obtain ⟨hh, hl, hst, hls, hP, hK, hD, hS⟩ := Z
  unfold y_okop y_okin at hok
  simp only [Bool.and_eq_true, decide_eq_true_eq] at hok
  obtain ⟨hdg, hok⟩ := hok
  unfold gx_st1 at hs
  dsimp only at hs
  obtain rfl := hok
  rw [Nat.add_sub_cancel_left] at hdg
  cases hg : gx_lg lo i with
  | inl a =>
    rw [hg] at hs; cases hs
  | inr b =>
    cases b with
    | inl a =>
      rw [hg] at hs; cases hs
    | inr b =>
      cases b with
      | none => rw [hg] at hs; cases hs
      | some a =>
        rw [hg] at hs
        cases hs
        obtain ⟨x, hx1, hx2⟩ := gx_dl_get hl hg (fun z => by cases z)
        obtain ⟨b, hb1, rfl⟩ := Option.map_eq_some_iff.mp hx2
        exact lv_aload hx hb hdg (hls.2.2 _ hx1) (kk ws H locs ls _ _ ⟨hh, hl, gx_ds_mk hx2 hst, hls, hP, hK, hD, hS⟩)

set_option maxHeartbeats 4000000 in
set_option maxRecDepth 100000 in
theorem gx_st_istoren {i : Fin 4} {nx r1 r2 r3 : Nat} (C : y_ctx κ true p R s m args meth c cc own yn nL A) (hok : y_okop nL own yn cc (pc, (.istore_n i, nx, r1, r2, r3)) = true) (hs : gx_st1 κ sh t pc (.istore_n i, nx, r1, r2, r3) lo st M = some (P, S')) (hP0 : ∀ q, P = some q → q) (hk : k ≤ R.cells) (hn : n ≤ R.slots) (Z : gx_Z κ D A s nL α tys ws H locs ls lv sv sh lo st M)
    (kk : ∀ ws' H' locs' ls' lv' sv', gx_Z κ D A s nL α tys ws' H' locs' ls' lv' sv' sh S'.2.1 S'.2.2.1 S'.2.2.2 → W p l e R s m args below meth c H' locs' k n Q (F0 m S'.1 ls' sv')) : W p l e R s m args below meth c H locs k n Q (F0 m pc ls sv) := by
  obtain ⟨hx, hb, hml, hown, hts, hyn, hAO, hA, hRf, hRl, hsc⟩ := C
  obtain ⟨hh, hl, hst, hls, hP, hK, hD, hS⟩ := Z
  unfold y_okop y_okin at hok
  simp only [Bool.and_eq_true, decide_eq_true_eq] at hok
  obtain ⟨hdg, hok⟩ := hok
  unfold gx_st1 at hs
  dsimp only at hs
  obtain ⟨rfl, hi⟩ := hok
  rw [Nat.add_sub_cancel_left] at hdg
  rcases st with _ | ⟨a | a | _ | a, r⟩
  · cases hs
  · cases hs
    obtain ⟨ys, rfl, h2⟩ := gx_ds_ci hst
    exact lv_istore_n hx hb hdg rfl hls hi rfl (fun ls' hls' => kk ws H locs ls' _ _ ⟨hh, gx_dl_set _ hl rfl, h2, hls', hP, hK, hD, hS⟩)
  · cases hs
  · cases hs
  · cases hs

set_option maxHeartbeats 4000000 in
set_option maxRecDepth 100000 in
theorem gx_st_istore {i : Nat} {nx r1 r2 r3 : Nat} (C : y_ctx κ true p R s m args meth c cc own yn nL A) (hok : y_okop nL own yn cc (pc, (.istore i, nx, r1, r2, r3)) = true) (hs : gx_st1 κ sh t pc (.istore i, nx, r1, r2, r3) lo st M = some (P, S')) (hP0 : ∀ q, P = some q → q) (hk : k ≤ R.cells) (hn : n ≤ R.slots) (Z : gx_Z κ D A s nL α tys ws H locs ls lv sv sh lo st M)
    (kk : ∀ ws' H' locs' ls' lv' sv', gx_Z κ D A s nL α tys ws' H' locs' ls' lv' sv' sh S'.2.1 S'.2.2.1 S'.2.2.2 → W p l e R s m args below meth c H' locs' k n Q (F0 m S'.1 ls' sv')) : W p l e R s m args below meth c H locs k n Q (F0 m pc ls sv) := by
  obtain ⟨hx, hb, hml, hown, hts, hyn, hAO, hA, hRf, hRl, hsc⟩ := C
  obtain ⟨hh, hl, hst, hls, hP, hK, hD, hS⟩ := Z
  unfold y_okop y_okin at hok
  simp only [Bool.and_eq_true, decide_eq_true_eq] at hok
  obtain ⟨hdg, hok⟩ := hok
  unfold gx_st1 at hs
  dsimp only at hs
  obtain ⟨rfl, hi⟩ := hok
  rw [Nat.add_sub_cancel_left] at hdg
  rcases st with _ | ⟨a | a | _ | a, r⟩
  · cases hs
  · cases hs
    obtain ⟨ys, rfl, h2⟩ := gx_ds_ci hst
    exact lv_istore hx hb hdg hls hi rfl (fun ls' hls' => kk ws H locs ls' _ _ ⟨hh, gx_dl_set _ hl rfl, h2, hls', hP, hK, hD, hS⟩)
  · cases hs
  · cases hs
  · cases hs

set_option maxHeartbeats 4000000 in
set_option maxRecDepth 100000 in
theorem gx_st_lstoren {i : Fin 4} {nx r1 r2 r3 : Nat} (C : y_ctx κ true p R s m args meth c cc own yn nL A) (hok : y_okop nL own yn cc (pc, (.lstore_n i, nx, r1, r2, r3)) = true) (hs : gx_st1 κ sh t pc (.lstore_n i, nx, r1, r2, r3) lo st M = some (P, S')) (hP0 : ∀ q, P = some q → q) (hk : k ≤ R.cells) (hn : n ≤ R.slots) (Z : gx_Z κ D A s nL α tys ws H locs ls lv sv sh lo st M)
    (kk : ∀ ws' H' locs' ls' lv' sv', gx_Z κ D A s nL α tys ws' H' locs' ls' lv' sv' sh S'.2.1 S'.2.2.1 S'.2.2.2 → W p l e R s m args below meth c H' locs' k n Q (F0 m S'.1 ls' sv')) : W p l e R s m args below meth c H locs k n Q (F0 m pc ls sv) := by
  obtain ⟨hx, hb, hml, hown, hts, hyn, hAO, hA, hRf, hRl, hsc⟩ := C
  obtain ⟨hh, hl, hst, hls, hP, hK, hD, hS⟩ := Z
  unfold y_okop y_okin at hok
  simp only [Bool.and_eq_true, decide_eq_true_eq] at hok
  obtain ⟨hdg, hok⟩ := hok
  unfold gx_st1 at hs
  dsimp only at hs
  obtain ⟨rfl, hi⟩ := hok
  rw [Nat.add_sub_cancel_left] at hdg
  rcases st with _ | ⟨a | a | _ | a, r⟩
  · cases hs
  · cases hs
  · cases hs
    obtain ⟨ys, rfl, h2⟩ := gx_ds_cl hst
    exact lv_lstore_n hx hb hdg rfl hls hi rfl (fun ls' hls' => kk ws H locs ls' _ _ ⟨hh, gx_dl_set2 _ hl rfl, h2, hls', hP, hK, hD, hS⟩)
  · cases hs
  · cases hs

set_option maxHeartbeats 4000000 in
set_option maxRecDepth 100000 in
theorem gx_st_lstore {i : Nat} {nx r1 r2 r3 : Nat} (C : y_ctx κ true p R s m args meth c cc own yn nL A) (hok : y_okop nL own yn cc (pc, (.lstore i, nx, r1, r2, r3)) = true) (hs : gx_st1 κ sh t pc (.lstore i, nx, r1, r2, r3) lo st M = some (P, S')) (hP0 : ∀ q, P = some q → q) (hk : k ≤ R.cells) (hn : n ≤ R.slots) (Z : gx_Z κ D A s nL α tys ws H locs ls lv sv sh lo st M)
    (kk : ∀ ws' H' locs' ls' lv' sv', gx_Z κ D A s nL α tys ws' H' locs' ls' lv' sv' sh S'.2.1 S'.2.2.1 S'.2.2.2 → W p l e R s m args below meth c H' locs' k n Q (F0 m S'.1 ls' sv')) : W p l e R s m args below meth c H locs k n Q (F0 m pc ls sv) := by
  obtain ⟨hx, hb, hml, hown, hts, hyn, hAO, hA, hRf, hRl, hsc⟩ := C
  obtain ⟨hh, hl, hst, hls, hP, hK, hD, hS⟩ := Z
  unfold y_okop y_okin at hok
  simp only [Bool.and_eq_true, decide_eq_true_eq] at hok
  obtain ⟨hdg, hok⟩ := hok
  unfold gx_st1 at hs
  dsimp only at hs
  obtain ⟨rfl, hi⟩ := hok
  rw [Nat.add_sub_cancel_left] at hdg
  rcases st with _ | ⟨a | a | _ | a, r⟩
  · cases hs
  · cases hs
  · cases hs
    obtain ⟨ys, rfl, h2⟩ := gx_ds_cl hst
    exact lv_lstore hx hb hdg hls hi rfl (fun ls' hls' => kk ws H locs ls' _ _ ⟨hh, gx_dl_set2 _ hl rfl, h2, hls', hP, hK, hD, hS⟩)
  · cases hs
  · cases hs

set_option maxHeartbeats 4000000 in
set_option maxRecDepth 100000 in
theorem gx_st_astoren {i : Fin 4} {nx r1 r2 r3 : Nat} (C : y_ctx κ true p R s m args meth c cc own yn nL A) (hok : y_okop nL own yn cc (pc, (.astore_n i, nx, r1, r2, r3)) = true) (hs : gx_st1 κ sh t pc (.astore_n i, nx, r1, r2, r3) lo st M = some (P, S')) (hP0 : ∀ q, P = some q → q) (hk : k ≤ R.cells) (hn : n ≤ R.slots) (Z : gx_Z κ D A s nL α tys ws H locs ls lv sv sh lo st M)
    (kk : ∀ ws' H' locs' ls' lv' sv', gx_Z κ D A s nL α tys ws' H' locs' ls' lv' sv' sh S'.2.1 S'.2.2.1 S'.2.2.2 → W p l e R s m args below meth c H' locs' k n Q (F0 m S'.1 ls' sv')) : W p l e R s m args below meth c H locs k n Q (F0 m pc ls sv) := by
  obtain ⟨hx, hb, hml, hown, hts, hyn, hAO, hA, hRf, hRl, hsc⟩ := C
  obtain ⟨hh, hl, hst, hls, hP, hK, hD, hS⟩ := Z
  unfold y_okop y_okin at hok
  simp only [Bool.and_eq_true, decide_eq_true_eq] at hok
  obtain ⟨hdg, hok⟩ := hok
  unfold gx_st1 at hs
  dsimp only at hs
  obtain ⟨rfl, hi⟩ := hok
  rw [Nat.add_sub_cancel_left] at hdg
  rcases st with _ | ⟨a | a | _ | a, r⟩
  · cases hs
  · cases hs
  · cases hs
  · cases hs
  · cases hs
    obtain ⟨b, ys, rfl, h1, h2⟩ := gx_ds_cr hst
    exact lv_astore_n hx hb hdg rfl hls hi rfl (fun ls' hls' => kk ws H locs ls' _ _ ⟨hh, gx_dl_set _ hl (Option.map_eq_some_iff.mpr ⟨b, h1, rfl⟩), h2, hls', hP, hK, hD, hS⟩)

set_option maxHeartbeats 4000000 in
set_option maxRecDepth 100000 in
theorem gx_st_astore {i : Nat} {nx r1 r2 r3 : Nat} (C : y_ctx κ true p R s m args meth c cc own yn nL A) (hok : y_okop nL own yn cc (pc, (.astore i, nx, r1, r2, r3)) = true) (hs : gx_st1 κ sh t pc (.astore i, nx, r1, r2, r3) lo st M = some (P, S')) (hP0 : ∀ q, P = some q → q) (hk : k ≤ R.cells) (hn : n ≤ R.slots) (Z : gx_Z κ D A s nL α tys ws H locs ls lv sv sh lo st M)
    (kk : ∀ ws' H' locs' ls' lv' sv', gx_Z κ D A s nL α tys ws' H' locs' ls' lv' sv' sh S'.2.1 S'.2.2.1 S'.2.2.2 → W p l e R s m args below meth c H' locs' k n Q (F0 m S'.1 ls' sv')) : W p l e R s m args below meth c H locs k n Q (F0 m pc ls sv) := by
  obtain ⟨hx, hb, hml, hown, hts, hyn, hAO, hA, hRf, hRl, hsc⟩ := C
  obtain ⟨hh, hl, hst, hls, hP, hK, hD, hS⟩ := Z
  unfold y_okop y_okin at hok
  simp only [Bool.and_eq_true, decide_eq_true_eq] at hok
  obtain ⟨hdg, hok⟩ := hok
  unfold gx_st1 at hs
  dsimp only at hs
  obtain ⟨rfl, hi⟩ := hok
  rw [Nat.add_sub_cancel_left] at hdg
  rcases st with _ | ⟨a | a | _ | a, r⟩
  · cases hs
  · cases hs
  · cases hs
  · cases hs
  · cases hs
    obtain ⟨b, ys, rfl, h1, h2⟩ := gx_ds_cr hst
    exact lv_astore hx hb hdg hls hi rfl (fun ls' hls' => kk ws H locs ls' _ _ ⟨hh, gx_dl_set _ hl (Option.map_eq_some_iff.mpr ⟨b, h1, rfl⟩), h2, hls', hP, hK, hD, hS⟩)

set_option maxHeartbeats 4000000 in
set_option maxRecDepth 100000 in
theorem gx_st_iinc {i : Nat} {d : Int} {nx r1 r2 r3 : Nat} (C : y_ctx κ true p R s m args meth c cc own yn nL A) (hok : y_okop nL own yn cc (pc, (.iinc i d, nx, r1, r2, r3)) = true) (hs : gx_st1 κ sh t pc (.iinc i d, nx, r1, r2, r3) lo st M = some (P, S')) (hP0 : ∀ q, P = some q → q) (hk : k ≤ R.cells) (hn : n ≤ R.slots) (Z : gx_Z κ D A s nL α tys ws H locs ls lv sv sh lo st M)
    (kk : ∀ ws' H' locs' ls' lv' sv', gx_Z κ D A s nL α tys ws' H' locs' ls' lv' sv' sh S'.2.1 S'.2.2.1 S'.2.2.2 → W p l e R s m args below meth c H' locs' k n Q (F0 m S'.1 ls' sv')) : W p l e R s m args below meth c H locs k n Q (F0 m pc ls sv) := by
  obtain ⟨hx, hb, hml, hown, hts, hyn, hAO, hA, hRf, hRl, hsc⟩ := C
  obtain ⟨hh, hl, hst, hls, hP, hK, hD, hS⟩ := Z
  unfold y_okop y_okin at hok
  simp only [Bool.and_eq_true, decide_eq_true_eq] at hok
  obtain ⟨hdg, hok⟩ := hok
  unfold gx_st1 at hs
  dsimp only at hs
  obtain ⟨rfl, hi, hv⟩ := hok
  rw [Nat.add_sub_cancel_left] at hdg
  cases hg : gx_lg lo i with
  | inl a =>
    rw [hg] at hs
    cases hs
    obtain ⟨x, hx1, hx2⟩ := gx_dl_get hl hg (fun z => by cases z)
    cases hx2
    obtain ⟨j, hj⟩ := List.getElem?_of_mem hx1
    refine lv_iinc (v := gx_i (a + gx_lit r1)) hx hb hdg hls hj ?_ hi rfl (fun ls' hls' => kk ws H locs ls' _ _ ⟨hh, gx_dl_set _ hl rfl, hst, hls', hP, hK, hD, hS⟩)
    rw [hv, gx_lit_ok]
    exact gx_add a (gx_lit r1)
  | inr b => rw [hg] at hs; cases hs

set_option maxHeartbeats 4000000 in
set_option maxRecDepth 100000 in
theorem gx_st_iadd {nx r1 r2 r3 : Nat} (C : y_ctx κ true p R s m args meth c cc own yn nL A) (hok : y_okop nL own yn cc (pc, (.iadd, nx, r1, r2, r3)) = true) (hs : gx_st1 κ sh t pc (.iadd, nx, r1, r2, r3) lo st M = some (P, S')) (hP0 : ∀ q, P = some q → q) (hk : k ≤ R.cells) (hn : n ≤ R.slots) (Z : gx_Z κ D A s nL α tys ws H locs ls lv sv sh lo st M)
    (kk : ∀ ws' H' locs' ls' lv' sv', gx_Z κ D A s nL α tys ws' H' locs' ls' lv' sv' sh S'.2.1 S'.2.2.1 S'.2.2.2 → W p l e R s m args below meth c H' locs' k n Q (F0 m S'.1 ls' sv')) : W p l e R s m args below meth c H locs k n Q (F0 m pc ls sv) := by
  obtain ⟨hx, hb, hml, hown, hts, hyn, hAO, hA, hRf, hRl, hsc⟩ := C
  obtain ⟨hh, hl, hst, hls, hP, hK, hD, hS⟩ := Z
  unfold y_okop y_okin at hok
  simp only [Bool.and_eq_true, decide_eq_true_eq] at hok
  obtain ⟨hdg, hok⟩ := hok
  unfold gx_st1 at hs
  dsimp only at hs
  obtain rfl := hok
  rw [Nat.add_sub_cancel_left] at hdg
  rcases st with _ | ⟨b | b, _ | ⟨a | a, r⟩⟩ <;> try (cases hs; done)
  cases hs
  obtain ⟨ys, rfl, h1⟩ := gx_ds_ci hst
  obtain ⟨zs, rfl, h2⟩ := gx_ds_ci h1
  exact lv_iadd hx hb hdg (kk ws H locs ls _ _ ⟨hh, hl, gx_ds_i ((gx_add _ _).symm) h2, hls, hP, hK, hD, hS⟩)

set_option maxHeartbeats 4000000 in
set_option maxRecDepth 100000 in
theorem gx_st_isub {nx r1 r2 r3 : Nat} (C : y_ctx κ true p R s m args meth c cc own yn nL A) (hok : y_okop nL own yn cc (pc, (.isub, nx, r1, r2, r3)) = true) (hs : gx_st1 κ sh t pc (.isub, nx, r1, r2, r3) lo st M = some (P, S')) (hP0 : ∀ q, P = some q → q) (hk : k ≤ R.cells) (hn : n ≤ R.slots) (Z : gx_Z κ D A s nL α tys ws H locs ls lv sv sh lo st M)
    (kk : ∀ ws' H' locs' ls' lv' sv', gx_Z κ D A s nL α tys ws' H' locs' ls' lv' sv' sh S'.2.1 S'.2.2.1 S'.2.2.2 → W p l e R s m args below meth c H' locs' k n Q (F0 m S'.1 ls' sv')) : W p l e R s m args below meth c H locs k n Q (F0 m pc ls sv) := by
  obtain ⟨hx, hb, hml, hown, hts, hyn, hAO, hA, hRf, hRl, hsc⟩ := C
  obtain ⟨hh, hl, hst, hls, hP, hK, hD, hS⟩ := Z
  unfold y_okop y_okin at hok
  simp only [Bool.and_eq_true, decide_eq_true_eq] at hok
  obtain ⟨hdg, hok⟩ := hok
  unfold gx_st1 at hs
  dsimp only at hs
  obtain rfl := hok
  rw [Nat.add_sub_cancel_left] at hdg
  rcases st with _ | ⟨b | b, _ | ⟨a | a, r⟩⟩ <;> try (cases hs; done)
  cases hs
  obtain ⟨ys, rfl, h1⟩ := gx_ds_ci hst
  obtain ⟨zs, rfl, h2⟩ := gx_ds_ci h1
  exact lv_isub hx hb hdg (kk ws H locs ls _ _ ⟨hh, hl, gx_ds_i ((gx_sub _ _).symm) h2, hls, hP, hK, hD, hS⟩)

set_option maxHeartbeats 4000000 in
set_option maxRecDepth 100000 in
theorem gx_st_imul {nx r1 r2 r3 : Nat} (C : y_ctx κ true p R s m args meth c cc own yn nL A) (hok : y_okop nL own yn cc (pc, (.imul, nx, r1, r2, r3)) = true) (hs : gx_st1 κ sh t pc (.imul, nx, r1, r2, r3) lo st M = some (P, S')) (hP0 : ∀ q, P = some q → q) (hk : k ≤ R.cells) (hn : n ≤ R.slots) (Z : gx_Z κ D A s nL α tys ws H locs ls lv sv sh lo st M)
    (kk : ∀ ws' H' locs' ls' lv' sv', gx_Z κ D A s nL α tys ws' H' locs' ls' lv' sv' sh S'.2.1 S'.2.2.1 S'.2.2.2 → W p l e R s m args below meth c H' locs' k n Q (F0 m S'.1 ls' sv')) : W p l e R s m args below meth c H locs k n Q (F0 m pc ls sv) := by
  obtain ⟨hx, hb, hml, hown, hts, hyn, hAO, hA, hRf, hRl, hsc⟩ := C
  obtain ⟨hh, hl, hst, hls, hP, hK, hD, hS⟩ := Z
  unfold y_okop y_okin at hok
  simp only [Bool.and_eq_true, decide_eq_true_eq] at hok
  obtain ⟨hdg, hok⟩ := hok
  unfold gx_st1 at hs
  dsimp only at hs
  obtain rfl := hok
  rw [Nat.add_sub_cancel_left] at hdg
  rcases st with _ | ⟨b | b, _ | ⟨a | a, r⟩⟩ <;> try (cases hs; done)
  cases hs
  obtain ⟨ys, rfl, h1⟩ := gx_ds_ci hst
  obtain ⟨zs, rfl, h2⟩ := gx_ds_ci h1
  exact lv_imul hx hb hdg (kk ws H locs ls _ _ ⟨hh, hl, gx_ds_i ((gx_mul _ _).symm) h2, hls, hP, hK, hD, hS⟩)

set_option maxHeartbeats 4000000 in
set_option maxRecDepth 100000 in
theorem gx_st_iand {nx r1 r2 r3 : Nat} (C : y_ctx κ true p R s m args meth c cc own yn nL A) (hok : y_okop nL own yn cc (pc, (.iand, nx, r1, r2, r3)) = true) (hs : gx_st1 κ sh t pc (.iand, nx, r1, r2, r3) lo st M = some (P, S')) (hP0 : ∀ q, P = some q → q) (hk : k ≤ R.cells) (hn : n ≤ R.slots) (Z : gx_Z κ D A s nL α tys ws H locs ls lv sv sh lo st M)
    (kk : ∀ ws' H' locs' ls' lv' sv', gx_Z κ D A s nL α tys ws' H' locs' ls' lv' sv' sh S'.2.1 S'.2.2.1 S'.2.2.2 → W p l e R s m args below meth c H' locs' k n Q (F0 m S'.1 ls' sv')) : W p l e R s m args below meth c H locs k n Q (F0 m pc ls sv) := by
  obtain ⟨hx, hb, hml, hown, hts, hyn, hAO, hA, hRf, hRl, hsc⟩ := C
  obtain ⟨hh, hl, hst, hls, hP, hK, hD, hS⟩ := Z
  unfold y_okop y_okin at hok
  simp only [Bool.and_eq_true, decide_eq_true_eq] at hok
  obtain ⟨hdg, hok⟩ := hok
  unfold gx_st1 at hs
  dsimp only at hs
  obtain rfl := hok
  rw [Nat.add_sub_cancel_left] at hdg
  rcases st with _ | ⟨b | b, _ | ⟨a | a, r⟩⟩ <;> try (cases hs; done)
  cases hs
  obtain ⟨ys, rfl, h1⟩ := gx_ds_ci hst
  obtain ⟨zs, rfl, h2⟩ := gx_ds_ci h1
  exact lv_iand hx hb hdg (kk ws H locs ls _ _ ⟨hh, hl, gx_ds_i (gx_i_of _) h2, hls, hP, hK, hD, hS⟩)

set_option maxHeartbeats 4000000 in
set_option maxRecDepth 100000 in
theorem gx_st_ior {nx r1 r2 r3 : Nat} (C : y_ctx κ true p R s m args meth c cc own yn nL A) (hok : y_okop nL own yn cc (pc, (.ior, nx, r1, r2, r3)) = true) (hs : gx_st1 κ sh t pc (.ior, nx, r1, r2, r3) lo st M = some (P, S')) (hP0 : ∀ q, P = some q → q) (hk : k ≤ R.cells) (hn : n ≤ R.slots) (Z : gx_Z κ D A s nL α tys ws H locs ls lv sv sh lo st M)
    (kk : ∀ ws' H' locs' ls' lv' sv', gx_Z κ D A s nL α tys ws' H' locs' ls' lv' sv' sh S'.2.1 S'.2.2.1 S'.2.2.2 → W p l e R s m args below meth c H' locs' k n Q (F0 m S'.1 ls' sv')) : W p l e R s m args below meth c H locs k n Q (F0 m pc ls sv) := by
  obtain ⟨hx, hb, hml, hown, hts, hyn, hAO, hA, hRf, hRl, hsc⟩ := C
  obtain ⟨hh, hl, hst, hls, hP, hK, hD, hS⟩ := Z
  unfold y_okop y_okin at hok
  simp only [Bool.and_eq_true, decide_eq_true_eq] at hok
  obtain ⟨hdg, hok⟩ := hok
  unfold gx_st1 at hs
  dsimp only at hs
  obtain rfl := hok
  rw [Nat.add_sub_cancel_left] at hdg
  rcases st with _ | ⟨b | b, _ | ⟨a | a, r⟩⟩ <;> try (cases hs; done)
  cases hs
  obtain ⟨ys, rfl, h1⟩ := gx_ds_ci hst
  obtain ⟨zs, rfl, h2⟩ := gx_ds_ci h1
  exact lv_ior hx hb hdg (kk ws H locs ls _ _ ⟨hh, hl, gx_ds_i (gx_i_of _) h2, hls, hP, hK, hD, hS⟩)

set_option maxHeartbeats 4000000 in
set_option maxRecDepth 100000 in
theorem gx_st_ixor {nx r1 r2 r3 : Nat} (C : y_ctx κ true p R s m args meth c cc own yn nL A) (hok : y_okop nL own yn cc (pc, (.ixor, nx, r1, r2, r3)) = true) (hs : gx_st1 κ sh t pc (.ixor, nx, r1, r2, r3) lo st M = some (P, S')) (hP0 : ∀ q, P = some q → q) (hk : k ≤ R.cells) (hn : n ≤ R.slots) (Z : gx_Z κ D A s nL α tys ws H locs ls lv sv sh lo st M)
    (kk : ∀ ws' H' locs' ls' lv' sv', gx_Z κ D A s nL α tys ws' H' locs' ls' lv' sv' sh S'.2.1 S'.2.2.1 S'.2.2.2 → W p l e R s m args below meth c H' locs' k n Q (F0 m S'.1 ls' sv')) : W p l e R s m args below meth c H locs k n Q (F0 m pc ls sv) := by
  obtain ⟨hx, hb, hml, hown, hts, hyn, hAO, hA, hRf, hRl, hsc⟩ := C
  obtain ⟨hh, hl, hst, hls, hP, hK, hD, hS⟩ := Z
  unfold y_okop y_okin at hok
  simp only [Bool.and_eq_true, decide_eq_true_eq] at hok
  obtain ⟨hdg, hok⟩ := hok
  unfold gx_st1 at hs
  dsimp only at hs
  obtain rfl := hok
  rw [Nat.add_sub_cancel_left] at hdg
  rcases st with _ | ⟨b | b, _ | ⟨a | a, r⟩⟩ <;> try (cases hs; done)
  cases hs
  obtain ⟨ys, rfl, h1⟩ := gx_ds_ci hst
  obtain ⟨zs, rfl, h2⟩ := gx_ds_ci h1
  exact lv_ixor hx hb hdg (kk ws H locs ls _ _ ⟨hh, hl, gx_ds_i (gx_i_of _) h2, hls, hP, hK, hD, hS⟩)

set_option maxHeartbeats 4000000 in
set_option maxRecDepth 100000 in
theorem gx_st_ishl {nx r1 r2 r3 : Nat} (C : y_ctx κ true p R s m args meth c cc own yn nL A) (hok : y_okop nL own yn cc (pc, (.ishl, nx, r1, r2, r3)) = true) (hs : gx_st1 κ sh t pc (.ishl, nx, r1, r2, r3) lo st M = some (P, S')) (hP0 : ∀ q, P = some q → q) (hk : k ≤ R.cells) (hn : n ≤ R.slots) (Z : gx_Z κ D A s nL α tys ws H locs ls lv sv sh lo st M)
    (kk : ∀ ws' H' locs' ls' lv' sv', gx_Z κ D A s nL α tys ws' H' locs' ls' lv' sv' sh S'.2.1 S'.2.2.1 S'.2.2.2 → W p l e R s m args below meth c H' locs' k n Q (F0 m S'.1 ls' sv')) : W p l e R s m args below meth c H locs k n Q (F0 m pc ls sv) := by
  obtain ⟨hx, hb, hml, hown, hts, hyn, hAO, hA, hRf, hRl, hsc⟩ := C
  obtain ⟨hh, hl, hst, hls, hP, hK, hD, hS⟩ := Z
  unfold y_okop y_okin at hok
  simp only [Bool.and_eq_true, decide_eq_true_eq] at hok
  obtain ⟨hdg, hok⟩ := hok
  unfold gx_st1 at hs
  dsimp only at hs
  obtain rfl := hok
  rw [Nat.add_sub_cancel_left] at hdg
  rcases st with _ | ⟨b | b, _ | ⟨a | a, r⟩⟩ <;> try (cases hs; done)
  cases hs
  obtain ⟨ys, rfl, h1⟩ := gx_ds_ci hst
  obtain ⟨zs, rfl, h2⟩ := gx_ds_ci h1
  exact lv_ishl hx hb hdg (kk ws H locs ls _ _ ⟨hh, hl, gx_ds_i (gx_i_of _) h2, hls, hP, hK, hD, hS⟩)

set_option maxHeartbeats 4000000 in
set_option maxRecDepth 100000 in
theorem gx_st_ishr {nx r1 r2 r3 : Nat} (C : y_ctx κ true p R s m args meth c cc own yn nL A) (hok : y_okop nL own yn cc (pc, (.ishr, nx, r1, r2, r3)) = true) (hs : gx_st1 κ sh t pc (.ishr, nx, r1, r2, r3) lo st M = some (P, S')) (hP0 : ∀ q, P = some q → q) (hk : k ≤ R.cells) (hn : n ≤ R.slots) (Z : gx_Z κ D A s nL α tys ws H locs ls lv sv sh lo st M)
    (kk : ∀ ws' H' locs' ls' lv' sv', gx_Z κ D A s nL α tys ws' H' locs' ls' lv' sv' sh S'.2.1 S'.2.2.1 S'.2.2.2 → W p l e R s m args below meth c H' locs' k n Q (F0 m S'.1 ls' sv')) : W p l e R s m args below meth c H locs k n Q (F0 m pc ls sv) := by
  obtain ⟨hx, hb, hml, hown, hts, hyn, hAO, hA, hRf, hRl, hsc⟩ := C
  obtain ⟨hh, hl, hst, hls, hP, hK, hD, hS⟩ := Z
  unfold y_okop y_okin at hok
  simp only [Bool.and_eq_true, decide_eq_true_eq] at hok
  obtain ⟨hdg, hok⟩ := hok
  unfold gx_st1 at hs
  dsimp only at hs
  obtain rfl := hok
  rw [Nat.add_sub_cancel_left] at hdg
  rcases st with _ | ⟨b | b, _ | ⟨a | a, r⟩⟩ <;> try (cases hs; done)
  cases hs
  obtain ⟨ys, rfl, h1⟩ := gx_ds_ci hst
  obtain ⟨zs, rfl, h2⟩ := gx_ds_ci h1
  exact lv_ishr hx hb hdg (kk ws H locs ls _ _ ⟨hh, hl, gx_ds_i (gx_i_of _) h2, hls, hP, hK, hD, hS⟩)

set_option maxHeartbeats 4000000 in
set_option maxRecDepth 100000 in
theorem gx_st_iushr {nx r1 r2 r3 : Nat} (C : y_ctx κ true p R s m args meth c cc own yn nL A) (hok : y_okop nL own yn cc (pc, (.iushr, nx, r1, r2, r3)) = true) (hs : gx_st1 κ sh t pc (.iushr, nx, r1, r2, r3) lo st M = some (P, S')) (hP0 : ∀ q, P = some q → q) (hk : k ≤ R.cells) (hn : n ≤ R.slots) (Z : gx_Z κ D A s nL α tys ws H locs ls lv sv sh lo st M)
    (kk : ∀ ws' H' locs' ls' lv' sv', gx_Z κ D A s nL α tys ws' H' locs' ls' lv' sv' sh S'.2.1 S'.2.2.1 S'.2.2.2 → W p l e R s m args below meth c H' locs' k n Q (F0 m S'.1 ls' sv')) : W p l e R s m args below meth c H locs k n Q (F0 m pc ls sv) := by
  obtain ⟨hx, hb, hml, hown, hts, hyn, hAO, hA, hRf, hRl, hsc⟩ := C
  obtain ⟨hh, hl, hst, hls, hP, hK, hD, hS⟩ := Z
  unfold y_okop y_okin at hok
  simp only [Bool.and_eq_true, decide_eq_true_eq] at hok
  obtain ⟨hdg, hok⟩ := hok
  unfold gx_st1 at hs
  dsimp only at hs
  obtain rfl := hok
  rw [Nat.add_sub_cancel_left] at hdg
  rcases st with _ | ⟨b | b, _ | ⟨a | a, r⟩⟩ <;> try (cases hs; done)
  cases hs
  obtain ⟨ys, rfl, h1⟩ := gx_ds_ci hst
  obtain ⟨zs, rfl, h2⟩ := gx_ds_ci h1
  exact lv_iushr hx hb hdg rfl (kk ws H locs ls _ _ ⟨hh, hl, gx_ds_i (gx_i_of _) h2, hls, hP, hK, hD, hS⟩)

set_option maxHeartbeats 4000000 in
set_option maxRecDepth 100000 in
theorem gx_st_idiv {nx r1 r2 r3 : Nat} (C : y_ctx κ true p R s m args meth c cc own yn nL A) (hok : y_okop nL own yn cc (pc, (.idiv, nx, r1, r2, r3)) = true) (hs : gx_st1 κ sh t pc (.idiv, nx, r1, r2, r3) lo st M = some (P, S')) (hP0 : ∀ q, P = some q → q) (hk : k ≤ R.cells) (hn : n ≤ R.slots) (Z : gx_Z κ D A s nL α tys ws H locs ls lv sv sh lo st M)
    (kk : ∀ ws' H' locs' ls' lv' sv', gx_Z κ D A s nL α tys ws' H' locs' ls' lv' sv' sh S'.2.1 S'.2.2.1 S'.2.2.2 → W p l e R s m args below meth c H' locs' k n Q (F0 m S'.1 ls' sv')) : W p l e R s m args below meth c H locs k n Q (F0 m pc ls sv) := by
  obtain ⟨hx, hb, hml, hown, hts, hyn, hAO, hA, hRf, hRl, hsc⟩ := C
  obtain ⟨hh, hl, hst, hls, hP, hK, hD, hS⟩ := Z
  unfold y_okop y_okin at hok
  simp only [Bool.and_eq_true, decide_eq_true_eq] at hok
  obtain ⟨hdg, hok⟩ := hok
  unfold gx_st1 at hs
  dsimp only at hs
  obtain rfl := hok
  rw [Nat.add_sub_cancel_left] at hdg
  rcases st with _ | ⟨b | b, _ | ⟨a | a, r⟩⟩ <;> try (cases hs; done)
  cases hs
  obtain ⟨ys, rfl, h1⟩ := gx_ds_ci hst
  obtain ⟨zs, rfl, h2⟩ := gx_ds_ci h1
  exact lv_idiv hx hb hdg (gx_ne0 (hP0 _ rfl).2.1 (hP0 _ rfl).2.2) (kk ws H locs ls _ _ ⟨hh, hl, gx_ds_i ((gx_div (hP0 _ rfl)).symm) h2, hls, hP, hK, hD, hS⟩)

set_option maxHeartbeats 4000000 in
set_option maxRecDepth 100000 in
theorem gx_st_irem {nx r1 r2 r3 : Nat} (C : y_ctx κ true p R s m args meth c cc own yn nL A) (hok : y_okop nL own yn cc (pc, (.irem, nx, r1, r2, r3)) = true) (hs : gx_st1 κ sh t pc (.irem, nx, r1, r2, r3) lo st M = some (P, S')) (hP0 : ∀ q, P = some q → q) (hk : k ≤ R.cells) (hn : n ≤ R.slots) (Z : gx_Z κ D A s nL α tys ws H locs ls lv sv sh lo st M)
    (kk : ∀ ws' H' locs' ls' lv' sv', gx_Z κ D A s nL α tys ws' H' locs' ls' lv' sv' sh S'.2.1 S'.2.2.1 S'.2.2.2 → W p l e R s m args below meth c H' locs' k n Q (F0 m S'.1 ls' sv')) : W p l e R s m args below meth c H locs k n Q (F0 m pc ls sv) := by
  obtain ⟨hx, hb, hml, hown, hts, hyn, hAO, hA, hRf, hRl, hsc⟩ := C
  obtain ⟨hh, hl, hst, hls, hP, hK, hD, hS⟩ := Z
  unfold y_okop y_okin at hok
  simp only [Bool.and_eq_true, decide_eq_true_eq] at hok
  obtain ⟨hdg, hok⟩ := hok
  unfold gx_st1 at hs
  dsimp only at hs
  obtain rfl := hok
  rw [Nat.add_sub_cancel_left] at hdg
  rcases st with _ | ⟨b | b, _ | ⟨a | a, r⟩⟩ <;> try (cases hs; done)
  cases hs
  obtain ⟨ys, rfl, h1⟩ := gx_ds_ci hst
  obtain ⟨zs, rfl, h2⟩ := gx_ds_ci h1
  exact lv_irem hx hb hdg (gx_ne0 (hP0 _ rfl).2.1 (hP0 _ rfl).2.2) (kk ws H locs ls _ _ ⟨hh, hl, gx_ds_i ((gx_rem (hP0 _ rfl)).symm) h2, hls, hP, hK, hD, hS⟩)

set_option maxHeartbeats 4000000 in
set_option maxRecDepth 100000 in
theorem gx_st_ladd {nx r1 r2 r3 : Nat} (C : y_ctx κ true p R s m args meth c cc own yn nL A) (hok : y_okop nL own yn cc (pc, (.ladd, nx, r1, r2, r3)) = true) (hs : gx_st1 κ sh t pc (.ladd, nx, r1, r2, r3) lo st M = some (P, S')) (hP0 : ∀ q, P = some q → q) (hk : k ≤ R.cells) (hn : n ≤ R.slots) (Z : gx_Z κ D A s nL α tys ws H locs ls lv sv sh lo st M)
    (kk : ∀ ws' H' locs' ls' lv' sv', gx_Z κ D A s nL α tys ws' H' locs' ls' lv' sv' sh S'.2.1 S'.2.2.1 S'.2.2.2 → W p l e R s m args below meth c H' locs' k n Q (F0 m S'.1 ls' sv')) : W p l e R s m args below meth c H locs k n Q (F0 m pc ls sv) := by
  obtain ⟨hx, hb, hml, hown, hts, hyn, hAO, hA, hRf, hRl, hsc⟩ := C
  obtain ⟨hh, hl, hst, hls, hP, hK, hD, hS⟩ := Z
  unfold y_okop y_okin at hok
  simp only [Bool.and_eq_true, decide_eq_true_eq] at hok
  obtain ⟨hdg, hok⟩ := hok
  unfold gx_st1 at hs
  dsimp only at hs
  obtain rfl := hok
  rw [Nat.add_sub_cancel_left] at hdg
  rcases st with _ | ⟨b | b | b, _ | ⟨a | a | a, r⟩⟩ <;> try (cases hs; done)
  cases hs
  obtain ⟨ys, rfl, h1⟩ := gx_ds_cl hst
  obtain ⟨zs, rfl, h2⟩ := gx_ds_cl h1
  exact lv_ladd hx hb hdg (kk ws H locs ls _ _ ⟨hh, hl, gx_ds_l ((gx_addL _ _).symm) h2, hls, hP, hK, hD, hS⟩)

set_option maxHeartbeats 4000000 in
set_option maxRecDepth 100000 in
theorem gx_st_lmul {nx r1 r2 r3 : Nat} (C : y_ctx κ true p R s m args meth c cc own yn nL A) (hok : y_okop nL own yn cc (pc, (.lmul, nx, r1, r2, r3)) = true) (hs : gx_st1 κ sh t pc (.lmul, nx, r1, r2, r3) lo st M = some (P, S')) (hP0 : ∀ q, P = some q → q) (hk : k ≤ R.cells) (hn : n ≤ R.slots) (Z : gx_Z κ D A s nL α tys ws H locs ls lv sv sh lo st M)
    (kk : ∀ ws' H' locs' ls' lv' sv', gx_Z κ D A s nL α tys ws' H' locs' ls' lv' sv' sh S'.2.1 S'.2.2.1 S'.2.2.2 → W p l e R s m args below meth c H' locs' k n Q (F0 m S'.1 ls' sv')) : W p l e R s m args below meth c H locs k n Q (F0 m pc ls sv) := by
  obtain ⟨hx, hb, hml, hown, hts, hyn, hAO, hA, hRf, hRl, hsc⟩ := C
  obtain ⟨hh, hl, hst, hls, hP, hK, hD, hS⟩ := Z
  unfold y_okop y_okin at hok
  simp only [Bool.and_eq_true, decide_eq_true_eq] at hok
  obtain ⟨hdg, hok⟩ := hok
  unfold gx_st1 at hs
  dsimp only at hs
  obtain rfl := hok
  rw [Nat.add_sub_cancel_left] at hdg
  rcases st with _ | ⟨b | b | b, _ | ⟨a | a | a, r⟩⟩ <;> try (cases hs; done)
  cases hs
  obtain ⟨ys, rfl, h1⟩ := gx_ds_cl hst
  obtain ⟨zs, rfl, h2⟩ := gx_ds_cl h1
  exact lv_lmul hx hb hdg (kk ws H locs ls _ _ ⟨hh, hl, gx_ds_l ((gx_mulL _ _).symm) h2, hls, hP, hK, hD, hS⟩)

set_option maxHeartbeats 4000000 in
set_option maxRecDepth 100000 in
theorem gx_st_land {nx r1 r2 r3 : Nat} (C : y_ctx κ true p R s m args meth c cc own yn nL A) (hok : y_okop nL own yn cc (pc, (.land, nx, r1, r2, r3)) = true) (hs : gx_st1 κ sh t pc (.land, nx, r1, r2, r3) lo st M = some (P, S')) (hP0 : ∀ q, P = some q → q) (hk : k ≤ R.cells) (hn : n ≤ R.slots) (Z : gx_Z κ D A s nL α tys ws H locs ls lv sv sh lo st M)
    (kk : ∀ ws' H' locs' ls' lv' sv', gx_Z κ D A s nL α tys ws' H' locs' ls' lv' sv' sh S'.2.1 S'.2.2.1 S'.2.2.2 → W p l e R s m args below meth c H' locs' k n Q (F0 m S'.1 ls' sv')) : W p l e R s m args below meth c H locs k n Q (F0 m pc ls sv) := by
  obtain ⟨hx, hb, hml, hown, hts, hyn, hAO, hA, hRf, hRl, hsc⟩ := C
  obtain ⟨hh, hl, hst, hls, hP, hK, hD, hS⟩ := Z
  unfold y_okop y_okin at hok
  simp only [Bool.and_eq_true, decide_eq_true_eq] at hok
  obtain ⟨hdg, hok⟩ := hok
  unfold gx_st1 at hs
  dsimp only at hs
  obtain rfl := hok
  rw [Nat.add_sub_cancel_left] at hdg
  rcases st with _ | ⟨b | b | b, _ | ⟨a | a | a, r⟩⟩ <;> try (cases hs; done)
  cases hs
  obtain ⟨ys, rfl, h1⟩ := gx_ds_cl hst
  obtain ⟨zs, rfl, h2⟩ := gx_ds_cl h1
  exact lv_land hx hb hdg (kk ws H locs ls _ _ ⟨hh, hl, gx_ds_l (gx_l_of _) h2, hls, hP, hK, hD, hS⟩)

set_option maxHeartbeats 4000000 in
set_option maxRecDepth 100000 in
theorem gx_st_lor {nx r1 r2 r3 : Nat} (C : y_ctx κ true p R s m args meth c cc own yn nL A) (hok : y_okop nL own yn cc (pc, (.lor, nx, r1, r2, r3)) = true) (hs : gx_st1 κ sh t pc (.lor, nx, r1, r2, r3) lo st M = some (P, S')) (hP0 : ∀ q, P = some q → q) (hk : k ≤ R.cells) (hn : n ≤ R.slots) (Z : gx_Z κ D A s nL α tys ws H locs ls lv sv sh lo st M)
    (kk : ∀ ws' H' locs' ls' lv' sv', gx_Z κ D A s nL α tys ws' H' locs' ls' lv' sv' sh S'.2.1 S'.2.2.1 S'.2.2.2 → W p l e R s m args below meth c H' locs' k n Q (F0 m S'.1 ls' sv')) : W p l e R s m args below meth c H locs k n Q (F0 m pc ls sv) := by
  obtain ⟨hx, hb, hml, hown, hts, hyn, hAO, hA, hRf, hRl, hsc⟩ := C
  obtain ⟨hh, hl, hst, hls, hP, hK, hD, hS⟩ := Z
  unfold y_okop y_okin at hok
  simp only [Bool.and_eq_true, decide_eq_true_eq] at hok
  obtain ⟨hdg, hok⟩ := hok
  unfold gx_st1 at hs
  dsimp only at hs
  obtain rfl := hok
  rw [Nat.add_sub_cancel_left] at hdg
  rcases st with _ | ⟨b | b | b, _ | ⟨a | a | a, r⟩⟩ <;> try (cases hs; done)
  cases hs
  obtain ⟨ys, rfl, h1⟩ := gx_ds_cl hst
  obtain ⟨zs, rfl, h2⟩ := gx_ds_cl h1
  exact lv_lor hx hb hdg (kk ws H locs ls _ _ ⟨hh, hl, gx_ds_l (gx_l_of _) h2, hls, hP, hK, hD, hS⟩)

set_option maxHeartbeats 4000000 in
set_option maxRecDepth 100000 in
theorem gx_st_lxor {nx r1 r2 r3 : Nat} (C : y_ctx κ true p R s m args meth c cc own yn nL A) (hok : y_okop nL own yn cc (pc, (.lxor, nx, r1, r2, r3)) = true) (hs : gx_st1 κ sh t pc (.lxor, nx, r1, r2, r3) lo st M = some (P, S')) (hP0 : ∀ q, P = some q → q) (hk : k ≤ R.cells) (hn : n ≤ R.slots) (Z : gx_Z κ D A s nL α tys ws H locs ls lv sv sh lo st M)
    (kk : ∀ ws' H' locs' ls' lv' sv', gx_Z κ D A s nL α tys ws' H' locs' ls' lv' sv' sh S'.2.1 S'.2.2.1 S'.2.2.2 → W p l e R s m args below meth c H' locs' k n Q (F0 m S'.1 ls' sv')) : W p l e R s m args below meth c H locs k n Q (F0 m pc ls sv) := by
  obtain ⟨hx, hb, hml, hown, hts, hyn, hAO, hA, hRf, hRl, hsc⟩ := C
  obtain ⟨hh, hl, hst, hls, hP, hK, hD, hS⟩ := Z
  unfold y_okop y_okin at hok
  simp only [Bool.and_eq_true, decide_eq_true_eq] at hok
  obtain ⟨hdg, hok⟩ := hok
  unfold gx_st1 at hs
  dsimp only at hs
  obtain rfl := hok
  rw [Nat.add_sub_cancel_left] at hdg
  rcases st with _ | ⟨b | b | b, _ | ⟨a | a | a, r⟩⟩ <;> try (cases hs; done)
  cases hs
  obtain ⟨ys, rfl, h1⟩ := gx_ds_cl hst
  obtain ⟨zs, rfl, h2⟩ := gx_ds_cl h1
  exact lv_lxor hx hb hdg (kk ws H locs ls _ _ ⟨hh, hl, gx_ds_l (gx_l_of _) h2, hls, hP, hK, hD, hS⟩)

set_option maxHeartbeats 4000000 in
set_option maxRecDepth 100000 in
theorem gx_st_ldiv {nx r1 r2 r3 : Nat} (C : y_ctx κ true p R s m args meth c cc own yn nL A) (hok : y_okop nL own yn cc (pc, (.ldiv, nx, r1, r2, r3)) = true) (hs : gx_st1 κ sh t pc (.ldiv, nx, r1, r2, r3) lo st M = some (P, S')) (hP0 : ∀ q, P = some q → q) (hk : k ≤ R.cells) (hn : n ≤ R.slots) (Z : gx_Z κ D A s nL α tys ws H locs ls lv sv sh lo st M)
    (kk : ∀ ws' H' locs' ls' lv' sv', gx_Z κ D A s nL α tys ws' H' locs' ls' lv' sv' sh S'.2.1 S'.2.2.1 S'.2.2.2 → W p l e R s m args below meth c H' locs' k n Q (F0 m S'.1 ls' sv')) : W p l e R s m args below meth c H locs k n Q (F0 m pc ls sv) := by
  obtain ⟨hx, hb, hml, hown, hts, hyn, hAO, hA, hRf, hRl, hsc⟩ := C
  obtain ⟨hh, hl, hst, hls, hP, hK, hD, hS⟩ := Z
  unfold y_okop y_okin at hok
  simp only [Bool.and_eq_true, decide_eq_true_eq] at hok
  obtain ⟨hdg, hok⟩ := hok
  unfold gx_st1 at hs
  dsimp only at hs
  obtain rfl := hok
  rw [Nat.add_sub_cancel_left] at hdg
  rcases st with _ | ⟨b | b | b, _ | ⟨a | a | a, r⟩⟩ <;> try (cases hs; done)
  cases hs
  obtain ⟨ys, rfl, h1⟩ := gx_ds_cl hst
  obtain ⟨zs, rfl, h2⟩ := gx_ds_cl h1
  exact lv_ldiv hx hb hdg (gx_ne0L (hP0 _ rfl).2.1 (hP0 _ rfl).2.2) (kk ws H locs ls _ _ ⟨hh, hl, gx_ds_l ((gx_divL (hP0 _ rfl)).symm) h2, hls, hP, hK, hD, hS⟩)

set_option maxHeartbeats 4000000 in
set_option maxRecDepth 100000 in
theorem gx_st_lrem {nx r1 r2 r3 : Nat} (C : y_ctx κ true p R s m args meth c cc own yn nL A) (hok : y_okop nL own yn cc (pc, (.lrem, nx, r1, r2, r3)) = true) (hs : gx_st1 κ sh t pc (.lrem, nx, r1, r2, r3) lo st M = some (P, S')) (hP0 : ∀ q, P = some q → q) (hk : k ≤ R.cells) (hn : n ≤ R.slots) (Z : gx_Z κ D A s nL α tys ws H locs ls lv sv sh lo st M)
    (kk : ∀ ws' H' locs' ls' lv' sv', gx_Z κ D A s nL α tys ws' H' locs' ls' lv' sv' sh S'.2.1 S'.2.2.1 S'.2.2.2 → W p l e R s m args below meth c H' locs' k n Q (F0 m S'.1 ls' sv')) : W p l e R s m args below meth c H locs k n Q (F0 m pc ls sv) := by
  obtain ⟨hx, hb, hml, hown, hts, hyn, hAO, hA, hRf, hRl, hsc⟩ := C
  obtain ⟨hh, hl, hst, hls, hP, hK, hD, hS⟩ := Z
  unfold y_okop y_okin at hok
  simp only [Bool.and_eq_true, decide_eq_true_eq] at hok
  obtain ⟨hdg, hok⟩ := hok
  unfold gx_st1 at hs
  dsimp only at hs
  obtain rfl := hok
  rw [Nat.add_sub_cancel_left] at hdg
  rcases st with _ | ⟨b | b | b, _ | ⟨a | a | a, r⟩⟩ <;> try (cases hs; done)
  cases hs
  obtain ⟨ys, rfl, h1⟩ := gx_ds_cl hst
  obtain ⟨zs, rfl, h2⟩ := gx_ds_cl h1
  exact lv_lrem hx hb hdg (gx_ne0L (hP0 _ rfl).2.1 (hP0 _ rfl).2.2) (kk ws H locs ls _ _ ⟨hh, hl, gx_ds_l ((gx_remL (hP0 _ rfl)).symm) h2, hls, hP, hK, hD, hS⟩)

set_option maxHeartbeats 4000000 in
set_option maxRecDepth 100000 in
theorem gx_st_lcmp {nx r1 r2 r3 : Nat} (C : y_ctx κ true p R s m args meth c cc own yn nL A) (hok : y_okop nL own yn cc (pc, (.lcmp, nx, r1, r2, r3)) = true) (hs : gx_st1 κ sh t pc (.lcmp, nx, r1, r2, r3) lo st M = some (P, S')) (hP0 : ∀ q, P = some q → q) (hk : k ≤ R.cells) (hn : n ≤ R.slots) (Z : gx_Z κ D A s nL α tys ws H locs ls lv sv sh lo st M)
    (kk : ∀ ws' H' locs' ls' lv' sv', gx_Z κ D A s nL α tys ws' H' locs' ls' lv' sv' sh S'.2.1 S'.2.2.1 S'.2.2.2 → W p l e R s m args below meth c H' locs' k n Q (F0 m S'.1 ls' sv')) : W p l e R s m args below meth c H locs k n Q (F0 m pc ls sv) := by
  obtain ⟨hx, hb, hml, hown, hts, hyn, hAO, hA, hRf, hRl, hsc⟩ := C
  obtain ⟨hh, hl, hst, hls, hP, hK, hD, hS⟩ := Z
  unfold y_okop y_okin at hok
  simp only [Bool.and_eq_true, decide_eq_true_eq] at hok
  obtain ⟨hdg, hok⟩ := hok
  unfold gx_st1 at hs
  dsimp only at hs
  obtain rfl := hok
  rw [Nat.add_sub_cancel_left] at hdg
  rcases st with _ | ⟨b | b | b, _ | ⟨a | a | a, r⟩⟩ <;> try (cases hs; done)
  cases hs
  obtain ⟨ys, rfl, h1⟩ := gx_ds_cl hst
  obtain ⟨zs, rfl, h2⟩ := gx_ds_cl h1
  exact W.lcmp hx hb hdg (kk ws H locs ls _ _ ⟨hh, hl, gx_ds_i (gx_c3_ok (hP0 _ rfl).1 (hP0 _ rfl).2).symm h2, hls, hP, hK, hD, hS⟩)

set_option maxHeartbeats 4000000 in
set_option maxRecDepth 100000 in
theorem gx_st_lshl {nx r1 r2 r3 : Nat} (C : y_ctx κ true p R s m args meth c cc own yn nL A) (hok : y_okop nL own yn cc (pc, (.lshl, nx, r1, r2, r3)) = true) (hs : gx_st1 κ sh t pc (.lshl, nx, r1, r2, r3) lo st M = some (P, S')) (hP0 : ∀ q, P = some q → q) (hk : k ≤ R.cells) (hn : n ≤ R.slots) (Z : gx_Z κ D A s nL α tys ws H locs ls lv sv sh lo st M)
    (kk : ∀ ws' H' locs' ls' lv' sv', gx_Z κ D A s nL α tys ws' H' locs' ls' lv' sv' sh S'.2.1 S'.2.2.1 S'.2.2.2 → W p l e R s m args below meth c H' locs' k n Q (F0 m S'.1 ls' sv')) : W p l e R s m args below meth c H locs k n Q (F0 m pc ls sv) := by
  obtain ⟨hx, hb, hml, hown, hts, hyn, hAO, hA, hRf, hRl, hsc⟩ := C
  obtain ⟨hh, hl, hst, hls, hP, hK, hD, hS⟩ := Z
  unfold y_okop y_okin at hok
  simp only [Bool.and_eq_true, decide_eq_true_eq] at hok
  obtain ⟨hdg, hok⟩ := hok
  unfold gx_st1 at hs
  dsimp only at hs
  obtain rfl := hok
  rw [Nat.add_sub_cancel_left] at hdg
  rcases st with _ | ⟨b | b, _ | ⟨a | a | a, r⟩⟩ <;> try (cases hs; done)
  cases hs
  obtain ⟨ys, rfl, h1⟩ := gx_ds_ci hst
  obtain ⟨zs, rfl, h2⟩ := gx_ds_cl h1
  exact lv_lshl hx hb hdg rfl (kk ws H locs ls _ _ ⟨hh, hl, gx_ds_l (gx_l_of _) h2, hls, hP, hK, hD, hS⟩)

set_option maxHeartbeats 4000000 in
set_option maxRecDepth 100000 in
theorem gx_st_lushr {nx r1 r2 r3 : Nat} (C : y_ctx κ true p R s m args meth c cc own yn nL A) (hok : y_okop nL own yn cc (pc, (.lushr, nx, r1, r2, r3)) = true) (hs : gx_st1 κ sh t pc (.lushr, nx, r1, r2, r3) lo st M = some (P, S')) (hP0 : ∀ q, P = some q → q) (hk : k ≤ R.cells) (hn : n ≤ R.slots) (Z : gx_Z κ D A s nL α tys ws H locs ls lv sv sh lo st M)
    (kk : ∀ ws' H' locs' ls' lv' sv', gx_Z κ D A s nL α tys ws' H' locs' ls' lv' sv' sh S'.2.1 S'.2.2.1 S'.2.2.2 → W p l e R s m args below meth c H' locs' k n Q (F0 m S'.1 ls' sv')) : W p l e R s m args below meth c H locs k n Q (F0 m pc ls sv) := by
  obtain ⟨hx, hb, hml, hown, hts, hyn, hAO, hA, hRf, hRl, hsc⟩ := C
  obtain ⟨hh, hl, hst, hls, hP, hK, hD, hS⟩ := Z
  unfold y_okop y_okin at hok
  simp only [Bool.and_eq_true, decide_eq_true_eq] at hok
  obtain ⟨hdg, hok⟩ := hok
  unfold gx_st1 at hs
  dsimp only at hs
  obtain rfl := hok
  rw [Nat.add_sub_cancel_left] at hdg
  rcases st with _ | ⟨b | b, _ | ⟨a | a | a, r⟩⟩ <;> try (cases hs; done)
  cases hs
  obtain ⟨ys, rfl, h1⟩ := gx_ds_ci hst
  obtain ⟨zs, rfl, h2⟩ := gx_ds_cl h1
  exact lv_lushr hx hb hdg rfl (kk ws H locs ls _ _ ⟨hh, hl, gx_ds_l (gx_l_of _) h2, hls, hP, hK, hD, hS⟩)

set_option maxHeartbeats 4000000 in
set_option maxRecDepth 100000 in
theorem gx_st_i2l {nx r1 r2 r3 : Nat} (C : y_ctx κ true p R s m args meth c cc own yn nL A) (hok : y_okop nL own yn cc (pc, (.i2l, nx, r1, r2, r3)) = true) (hs : gx_st1 κ sh t pc (.i2l, nx, r1, r2, r3) lo st M = some (P, S')) (hP0 : ∀ q, P = some q → q) (hk : k ≤ R.cells) (hn : n ≤ R.slots) (Z : gx_Z κ D A s nL α tys ws H locs ls lv sv sh lo st M)
    (kk : ∀ ws' H' locs' ls' lv' sv', gx_Z κ D A s nL α tys ws' H' locs' ls' lv' sv' sh S'.2.1 S'.2.2.1 S'.2.2.2 → W p l e R s m args below meth c H' locs' k n Q (F0 m S'.1 ls' sv')) : W p l e R s m args below meth c H locs k n Q (F0 m pc ls sv) := by
  obtain ⟨hx, hb, hml, hown, hts, hyn, hAO, hA, hRf, hRl, hsc⟩ := C
  obtain ⟨hh, hl, hst, hls, hP, hK, hD, hS⟩ := Z
  unfold y_okop y_okin at hok
  simp only [Bool.and_eq_true, decide_eq_true_eq] at hok
  obtain ⟨hdg, hok⟩ := hok
  unfold gx_st1 at hs
  dsimp only at hs
  obtain rfl := hok
  rw [Nat.add_sub_cancel_left] at hdg
  rcases st with _ | ⟨a | a, r⟩ <;> try (cases hs; done)
  cases hs
  obtain ⟨ys, rfl, h2⟩ := gx_ds_ci hst
  exact lv_i2l hx hb hdg (gx_i2l (hP0 _ rfl)) (kk ws H locs ls _ _ ⟨hh, hl, gx_ds_l rfl h2, hls, hP, hK, hD, hS⟩)

set_option maxHeartbeats 4000000 in
set_option maxRecDepth 100000 in
theorem gx_st_l2i {nx r1 r2 r3 : Nat} (C : y_ctx κ true p R s m args meth c cc own yn nL A) (hok : y_okop nL own yn cc (pc, (.l2i, nx, r1, r2, r3)) = true) (hs : gx_st1 κ sh t pc (.l2i, nx, r1, r2, r3) lo st M = some (P, S')) (hP0 : ∀ q, P = some q → q) (hk : k ≤ R.cells) (hn : n ≤ R.slots) (Z : gx_Z κ D A s nL α tys ws H locs ls lv sv sh lo st M)
    (kk : ∀ ws' H' locs' ls' lv' sv', gx_Z κ D A s nL α tys ws' H' locs' ls' lv' sv' sh S'.2.1 S'.2.2.1 S'.2.2.2 → W p l e R s m args below meth c H' locs' k n Q (F0 m S'.1 ls' sv')) : W p l e R s m args below meth c H locs k n Q (F0 m pc ls sv) := by
  obtain ⟨hx, hb, hml, hown, hts, hyn, hAO, hA, hRf, hRl, hsc⟩ := C
  obtain ⟨hh, hl, hst, hls, hP, hK, hD, hS⟩ := Z
  unfold y_okop y_okin at hok
  simp only [Bool.and_eq_true, decide_eq_true_eq] at hok
  obtain ⟨hdg, hok⟩ := hok
  unfold gx_st1 at hs
  dsimp only at hs
  obtain rfl := hok
  rw [Nat.add_sub_cancel_left] at hdg
  rcases st with _ | ⟨a | a | a, r⟩ <;> try (cases hs; done)
  cases hs
  obtain ⟨ys, rfl, h2⟩ := gx_ds_cl hst
  exact lv_l2i hx hb hdg (gx_l2i a) (kk ws H locs ls _ _ ⟨hh, hl, gx_ds_i rfl h2, hls, hP, hK, hD, hS⟩)

set_option maxHeartbeats 4000000 in
set_option maxRecDepth 100000 in
theorem gx_st_dup {nx r1 r2 r3 : Nat} (C : y_ctx κ true p R s m args meth c cc own yn nL A) (hok : y_okop nL own yn cc (pc, (.dup, nx, r1, r2, r3)) = true) (hs : gx_st1 κ sh t pc (.dup, nx, r1, r2, r3) lo st M = some (P, S')) (hP0 : ∀ q, P = some q → q) (hk : k ≤ R.cells) (hn : n ≤ R.slots) (Z : gx_Z κ D A s nL α tys ws H locs ls lv sv sh lo st M)
    (kk : ∀ ws' H' locs' ls' lv' sv', gx_Z κ D A s nL α tys ws' H' locs' ls' lv' sv' sh S'.2.1 S'.2.2.1 S'.2.2.2 → W p l e R s m args below meth c H' locs' k n Q (F0 m S'.1 ls' sv')) : W p l e R s m args below meth c H locs k n Q (F0 m pc ls sv) := by
  obtain ⟨hx, hb, hml, hown, hts, hyn, hAO, hA, hRf, hRl, hsc⟩ := C
  obtain ⟨hh, hl, hst, hls, hP, hK, hD, hS⟩ := Z
  unfold y_okop y_okin at hok
  simp only [Bool.and_eq_true, decide_eq_true_eq] at hok
  obtain ⟨hdg, hok⟩ := hok
  unfold gx_st1 at hs
  dsimp only at hs
  obtain rfl := hok
  rw [Nat.add_sub_cancel_left] at hdg
  rcases st with _ | ⟨v, r⟩
  · cases hs
  · cases hc : Nat.beq (gx_cat v) 1 with
    | true =>
      dsimp only at hs
      rw [hc] at hs; cases hs
      obtain ⟨x, ys, rfl, h1, h2⟩ := gx_ds_cons hst
      exact lv_dup hx hb hdg ((gx_cat_ok h1).trans (y_beq.mp hc)) (kk ws H locs ls _ _ ⟨hh, hl, gx_ds_mk h1 (gx_ds_mk h1 h2), hls, hP, hK, hD, hS⟩)
    | false => dsimp only at hs; rw [hc] at hs; cases hs

set_option maxHeartbeats 4000000 in
set_option maxRecDepth 100000 in
theorem gx_st_pop {nx r1 r2 r3 : Nat} (C : y_ctx κ true p R s m args meth c cc own yn nL A) (hok : y_okop nL own yn cc (pc, (.pop, nx, r1, r2, r3)) = true) (hs : gx_st1 κ sh t pc (.pop, nx, r1, r2, r3) lo st M = some (P, S')) (hP0 : ∀ q, P = some q → q) (hk : k ≤ R.cells) (hn : n ≤ R.slots) (Z : gx_Z κ D A s nL α tys ws H locs ls lv sv sh lo st M)
    (kk : ∀ ws' H' locs' ls' lv' sv', gx_Z κ D A s nL α tys ws' H' locs' ls' lv' sv' sh S'.2.1 S'.2.2.1 S'.2.2.2 → W p l e R s m args below meth c H' locs' k n Q (F0 m S'.1 ls' sv')) : W p l e R s m args below meth c H locs k n Q (F0 m pc ls sv) := by
  obtain ⟨hx, hb, hml, hown, hts, hyn, hAO, hA, hRf, hRl, hsc⟩ := C
  obtain ⟨hh, hl, hst, hls, hP, hK, hD, hS⟩ := Z
  unfold y_okop y_okin at hok
  simp only [Bool.and_eq_true, decide_eq_true_eq] at hok
  obtain ⟨hdg, hok⟩ := hok
  unfold gx_st1 at hs
  dsimp only at hs
  obtain rfl := hok
  rw [Nat.add_sub_cancel_left] at hdg
  rcases st with _ | ⟨v, r⟩
  · cases hs
  · cases hc : Nat.beq (gx_cat v) 1 with
    | true =>
      dsimp only at hs
      rw [hc] at hs; cases hs
      obtain ⟨x, ys, rfl, h1, h2⟩ := gx_ds_cons hst
      exact lv_pop hx hb hdg ((gx_cat_ok h1).trans (y_beq.mp hc)) (kk ws H locs ls _ _ ⟨hh, hl, h2, hls, hP, hK, hD, hS⟩)
    | false => dsimp only at hs; rw [hc] at hs; cases hs

set_option maxHeartbeats 4000000 in
set_option maxRecDepth 100000 in
theorem gx_st_dup2 {nx r1 r2 r3 : Nat} (C : y_ctx κ true p R s m args meth c cc own yn nL A) (hok : y_okop nL own yn cc (pc, (.dup2, nx, r1, r2, r3)) = true) (hs : gx_st1 κ sh t pc (.dup2, nx, r1, r2, r3) lo st M = some (P, S')) (hP0 : ∀ q, P = some q → q) (hk : k ≤ R.cells) (hn : n ≤ R.slots) (Z : gx_Z κ D A s nL α tys ws H locs ls lv sv sh lo st M)
    (kk : ∀ ws' H' locs' ls' lv' sv', gx_Z κ D A s nL α tys ws' H' locs' ls' lv' sv' sh S'.2.1 S'.2.2.1 S'.2.2.2 → W p l e R s m args below meth c H' locs' k n Q (F0 m S'.1 ls' sv')) : W p l e R s m args below meth c H locs k n Q (F0 m pc ls sv) := by
  obtain ⟨hx, hb, hml, hown, hts, hyn, hAO, hA, hRf, hRl, hsc⟩ := C
  obtain ⟨hh, hl, hst, hls, hP, hK, hD, hS⟩ := Z
  unfold y_okop y_okin at hok
  simp only [Bool.and_eq_true, decide_eq_true_eq] at hok
  obtain ⟨hdg, hok⟩ := hok
  unfold gx_st1 at hs
  dsimp only at hs
  obtain rfl := hok
  rw [Nat.add_sub_cancel_left] at hdg
  rcases st with _ | ⟨v, _ | ⟨u, r⟩⟩
  · cases hs
  · cases hs
  · cases hc : (Nat.beq (gx_cat v) 1 && Nat.beq (gx_cat u) 1) with
    | true =>
      dsimp only at hs
      rw [hc] at hs; cases hs
      simp only [Bool.and_eq_true] at hc
      obtain ⟨x, ys, rfl, h1, h2⟩ := gx_ds_cons hst
      obtain ⟨y, ys, rfl, h3, h4⟩ := gx_ds_cons h2
      exact lv_dup2_11 hx hb hdg ((gx_cat_ok h1).trans (y_beq.mp hc.1)) ((gx_cat_ok h3).trans (y_beq.mp hc.2)) (kk ws H locs ls _ _ ⟨hh, hl, gx_ds_mk h1 (gx_ds_mk h3 (gx_ds_mk h1 (gx_ds_mk h3 h4))), hls, hP, hK, hD, hS⟩)
    | false => dsimp only at hs; rw [hc] at hs; cases hs

set_option maxHeartbeats 4000000 in
set_option maxRecDepth 100000 in
theorem gx_st_dup_x2 {nx r1 r2 r3 : Nat} (C : y_ctx κ true p R s m args meth c cc own yn nL A) (hok : y_okop nL own yn cc (pc, (.dup_x2, nx, r1, r2, r3)) = true) (hs : gx_st1 κ sh t pc (.dup_x2, nx, r1, r2, r3) lo st M = some (P, S')) (hP0 : ∀ q, P = some q → q) (hk : k ≤ R.cells) (hn : n ≤ R.slots) (Z : gx_Z κ D A s nL α tys ws H locs ls lv sv sh lo st M)
    (kk : ∀ ws' H' locs' ls' lv' sv', gx_Z κ D A s nL α tys ws' H' locs' ls' lv' sv' sh S'.2.1 S'.2.2.1 S'.2.2.2 → W p l e R s m args below meth c H' locs' k n Q (F0 m S'.1 ls' sv')) : W p l e R s m args below meth c H locs k n Q (F0 m pc ls sv) := by
  obtain ⟨hx, hb, hml, hown, hts, hyn, hAO, hA, hRf, hRl, hsc⟩ := C
  obtain ⟨hh, hl, hst, hls, hP, hK, hD, hS⟩ := Z
  unfold y_okop y_okin at hok
  simp only [Bool.and_eq_true, decide_eq_true_eq] at hok
  obtain ⟨hdg, hok⟩ := hok
  unfold gx_st1 at hs
  dsimp only at hs
  obtain rfl := hok
  rw [Nat.add_sub_cancel_left] at hdg
  rcases st with _ | ⟨v, _ | ⟨u, _ | ⟨z, r⟩⟩⟩
  · cases hs
  · cases hs
  · cases hs
  · cases hc : (Nat.beq (gx_cat v) 1 && (Nat.beq (gx_cat u) 1 && Nat.beq (gx_cat z) 1)) with
    | true =>
      dsimp only at hs
      rw [hc] at hs; cases hs
      simp only [Bool.and_eq_true] at hc
      obtain ⟨x, ys, rfl, h1, h2⟩ := gx_ds_cons hst
      obtain ⟨y, ys, rfl, h3, h4⟩ := gx_ds_cons h2
      obtain ⟨y2, ys, rfl, h5, h6⟩ := gx_ds_cons h4
      exact lv_dup_x2 hx hb hdg ((gx_cat_ok h1).trans (y_beq.mp hc.1)) ((gx_cat_ok h3).trans (y_beq.mp hc.2.1)) ((gx_cat_ok h5).trans (y_beq.mp hc.2.2)) (kk ws H locs ls _ _ ⟨hh, hl, gx_ds_mk h1 (gx_ds_mk h3 (gx_ds_mk h5 (gx_ds_mk h1 h6))), hls, hP, hK, hD, hS⟩)
    | false => dsimp only at hs; rw [hc] at hs; cases hs

set_option maxHeartbeats 4000000 in
set_option maxRecDepth 100000 in
theorem gx_st_goto {off : Int} {nx r1 r2 r3 : Nat} (C : y_ctx κ true p R s m args meth c cc own yn nL A) (hok : y_okop nL own yn cc (pc, (.goto off, nx, r1, r2, r3)) = true) (hs : gx_st1 κ sh t pc (.goto off, nx, r1, r2, r3) lo st M = some (P, S')) (hP0 : ∀ q, P = some q → q) (hk : k ≤ R.cells) (hn : n ≤ R.slots) (Z : gx_Z κ D A s nL α tys ws H locs ls lv sv sh lo st M)
    (kk : ∀ ws' H' locs' ls' lv' sv', gx_Z κ D A s nL α tys ws' H' locs' ls' lv' sv' sh S'.2.1 S'.2.2.1 S'.2.2.2 → W p l e R s m args below meth c H' locs' k n Q (F0 m S'.1 ls' sv')) : W p l e R s m args below meth c H locs k n Q (F0 m pc ls sv) := by
  obtain ⟨hx, hb, hml, hown, hts, hyn, hAO, hA, hRf, hRl, hsc⟩ := C
  obtain ⟨hh, hl, hst, hls, hP, hK, hD, hS⟩ := Z
  unfold y_okop y_okin at hok
  simp only [Bool.and_eq_true, decide_eq_true_eq] at hok
  obtain ⟨hdg, hok⟩ := hok
  unfold gx_st1 at hs
  dsimp only at hs
  obtain ⟨rfl, ht⟩ := hok
  rw [Nat.add_sub_cancel_left] at hdg
  cases hs
  exact lv_goto hx hb hdg ht (kk ws H locs ls _ _ ⟨hh, hl, hst, hls, hP, hK, hD, hS⟩)

set_option maxHeartbeats 4000000 in
set_option maxRecDepth 100000 in
theorem gx_st_if {q : ClassFile.Cond} {off : Int} {nx r1 r2 r3 : Nat} (C : y_ctx κ true p R s m args meth c cc own yn nL A) (hok : y_okop nL own yn cc (pc, (.ifCond q off, nx, r1, r2, r3)) = true) (hs : gx_st1 κ sh t pc (.ifCond q off, nx, r1, r2, r3) lo st M = some (P, S')) (hP0 : ∀ q, P = some q → q) (hk : k ≤ R.cells) (hn : n ≤ R.slots) (Z : gx_Z κ D A s nL α tys ws H locs ls lv sv sh lo st M)
    (kk : ∀ ws' H' locs' ls' lv' sv', gx_Z κ D A s nL α tys ws' H' locs' ls' lv' sv' sh S'.2.1 S'.2.2.1 S'.2.2.2 → W p l e R s m args below meth c H' locs' k n Q (F0 m S'.1 ls' sv')) : W p l e R s m args below meth c H locs k n Q (F0 m pc ls sv) := by
  obtain ⟨hx, hb, hml, hown, hts, hyn, hAO, hA, hRf, hRl, hsc⟩ := C
  obtain ⟨hh, hl, hst, hls, hP, hK, hD, hS⟩ := Z
  unfold y_okop y_okin at hok
  simp only [Bool.and_eq_true, decide_eq_true_eq] at hok
  obtain ⟨hdg, hok⟩ := hok
  unfold gx_st1 at hs
  dsimp only at hs
  obtain ⟨rfl, ht⟩ := hok
  rw [Nat.add_sub_cancel_left] at hdg
  rcases st with _ | ⟨a | a, r⟩ <;> try (cases hs; done)
  cases hs
  generalize Nat.beq t 1 = t at hP0 kk
  obtain ⟨hr1, hbr⟩ := hP0 _ rfl
  have hr2 : gx_R 0 := ⟨by omega, by omega⟩
  obtain ⟨ys, rfl, h2⟩ := gx_ds_ci hst
  have e1 : gx_i a = gx_i 0 ↔ a = 0 := by rw [← Int32.toInt_inj, gx_toInt hr1, gx_toInt hr2]
  have e2 : gx_i a < gx_i 0 ↔ a < 0 := by rw [Int32.lt_iff_toInt_lt, gx_toInt hr1, gx_toInt hr2]
  have e3 : gx_i a ≤ gx_i 0 ↔ a ≤ 0 := by rw [Int32.le_iff_toInt_le, gx_toInt hr1, gx_toInt hr2]
  have e4 : gx_i 0 < gx_i a ↔ 0 < a := by rw [Int32.lt_iff_toInt_lt, gx_toInt hr1, gx_toInt hr2]
  have e5 : gx_i 0 ≤ gx_i a ↔ 0 ≤ a := by rw [Int32.le_iff_toInt_le, gx_toInt hr1, gx_toInt hr2]
  rw [show gx_i 0 = (0 : Int32) from rfl] at e1 e2 e3 e4 e5
  cases q with
  | eq =>
    refine lv_if_eq hx hb hdg ht (fun hc => ?_) (fun hc => ?_)
    · cases t with
      | true => exact kk ws H locs ls _ _ ⟨hh, hl, h2, hls, hP, hK, hD, hS⟩
      | false => exact absurd (e1.mp hc) hbr
    · cases t with
      | true => exact absurd (e1.mpr hbr) hc
      | false => exact kk ws H locs ls _ _ ⟨hh, hl, h2, hls, hP, hK, hD, hS⟩
  | ne =>
    refine lv_if_ne hx hb hdg ht (fun hc => ?_) (fun hc => ?_)
    · cases t with
      | true => exact kk ws H locs ls _ _ ⟨hh, hl, h2, hls, hP, hK, hD, hS⟩
      | false => exact absurd (e1.mpr hbr) hc
    · cases t with
      | true => exact absurd (e1.mp hc) hbr
      | false => exact kk ws H locs ls _ _ ⟨hh, hl, h2, hls, hP, hK, hD, hS⟩
  | lt =>
    refine lv_if_lt hx hb hdg ht (fun hc => ?_) (fun hc => ?_)
    · cases t with
      | true => exact kk ws H locs ls _ _ ⟨hh, hl, h2, hls, hP, hK, hD, hS⟩
      | false => exact absurd (e2.mp hc) (Int.not_lt.mpr hbr)
    · cases t with
      | true => exact absurd (e2.mpr hbr) hc
      | false => exact kk ws H locs ls _ _ ⟨hh, hl, h2, hls, hP, hK, hD, hS⟩
  | ge =>
    refine lv_if_ge hx hb hdg ht (fun hc => ?_) (fun hc => ?_)
    · cases t with
      | true => exact kk ws H locs ls _ _ ⟨hh, hl, h2, hls, hP, hK, hD, hS⟩
      | false => exact absurd (e5.mp hc) (Int.not_le.mpr hbr)
    · cases t with
      | true => exact absurd (e5.mpr hbr) hc
      | false => exact kk ws H locs ls _ _ ⟨hh, hl, h2, hls, hP, hK, hD, hS⟩
  | gt =>
    refine lv_if_gt hx hb hdg ht (fun hc => ?_) (fun hc => ?_)
    · cases t with
      | true => exact kk ws H locs ls _ _ ⟨hh, hl, h2, hls, hP, hK, hD, hS⟩
      | false => exact absurd (e4.mp hc) (Int.not_lt.mpr hbr)
    · cases t with
      | true => exact absurd (e4.mpr hbr) hc
      | false => exact kk ws H locs ls _ _ ⟨hh, hl, h2, hls, hP, hK, hD, hS⟩
  | le =>
    refine lv_if_le hx hb hdg ht (fun hc => ?_) (fun hc => ?_)
    · cases t with
      | true => exact kk ws H locs ls _ _ ⟨hh, hl, h2, hls, hP, hK, hD, hS⟩
      | false => exact absurd (e3.mp hc) (Int.not_le.mpr hbr)
    · cases t with
      | true => exact absurd (e3.mpr hbr) hc
      | false => exact kk ws H locs ls _ _ ⟨hh, hl, h2, hls, hP, hK, hD, hS⟩

set_option maxHeartbeats 4000000 in
set_option maxRecDepth 100000 in
theorem gx_st_icmp {q : ClassFile.Cond} {off : Int} {nx r1 r2 r3 : Nat} (C : y_ctx κ true p R s m args meth c cc own yn nL A) (hok : y_okop nL own yn cc (pc, (.if_icmp q off, nx, r1, r2, r3)) = true) (hs : gx_st1 κ sh t pc (.if_icmp q off, nx, r1, r2, r3) lo st M = some (P, S')) (hP0 : ∀ q, P = some q → q) (hk : k ≤ R.cells) (hn : n ≤ R.slots) (Z : gx_Z κ D A s nL α tys ws H locs ls lv sv sh lo st M)
    (kk : ∀ ws' H' locs' ls' lv' sv', gx_Z κ D A s nL α tys ws' H' locs' ls' lv' sv' sh S'.2.1 S'.2.2.1 S'.2.2.2 → W p l e R s m args below meth c H' locs' k n Q (F0 m S'.1 ls' sv')) : W p l e R s m args below meth c H locs k n Q (F0 m pc ls sv) := by
  obtain ⟨hx, hb, hml, hown, hts, hyn, hAO, hA, hRf, hRl, hsc⟩ := C
  obtain ⟨hh, hl, hst, hls, hP, hK, hD, hS⟩ := Z
  unfold y_okop y_okin at hok
  simp only [Bool.and_eq_true, decide_eq_true_eq] at hok
  obtain ⟨hdg, hok⟩ := hok
  unfold gx_st1 at hs
  dsimp only at hs
  obtain ⟨rfl, ht⟩ := hok
  rw [Nat.add_sub_cancel_left] at hdg
  rcases st with _ | ⟨b | b, _ | ⟨a | a, r⟩⟩ <;> try (cases hs; done)
  cases hs
  generalize Nat.beq t 1 = t at hP0 kk
  obtain ⟨hr1, hr2, hbr⟩ := hP0 _ rfl
  obtain ⟨ys, rfl, h1⟩ := gx_ds_ci hst
  obtain ⟨zs, rfl, h2⟩ := gx_ds_ci h1
  have e1 : gx_i a = gx_i b ↔ a = b := by rw [← Int32.toInt_inj, gx_toInt hr1, gx_toInt hr2]
  have e2 : gx_i a < gx_i b ↔ a < b := by rw [Int32.lt_iff_toInt_lt, gx_toInt hr1, gx_toInt hr2]
  have e3 : gx_i a ≤ gx_i b ↔ a ≤ b := by rw [Int32.le_iff_toInt_le, gx_toInt hr1, gx_toInt hr2]
  have e4 : gx_i b < gx_i a ↔ b < a := by rw [Int32.lt_iff_toInt_lt, gx_toInt hr1, gx_toInt hr2]
  have e5 : gx_i b ≤ gx_i a ↔ b ≤ a := by rw [Int32.le_iff_toInt_le, gx_toInt hr1, gx_toInt hr2]
  cases q with
  | eq =>
    refine lv_icmp_eq hx hb hdg ht (fun hc => ?_) (fun hc => ?_)
    · cases t with
      | true => exact kk ws H locs ls _ _ ⟨hh, hl, h2, hls, hP, hK, hD, hS⟩
      | false => exact absurd (e1.mp hc) hbr
    · cases t with
      | true => exact absurd (e1.mpr hbr) hc
      | false => exact kk ws H locs ls _ _ ⟨hh, hl, h2, hls, hP, hK, hD, hS⟩
  | ne =>
    refine lv_icmp_ne hx hb hdg ht (fun hc => ?_) (fun hc => ?_)
    · cases t with
      | true => exact kk ws H locs ls _ _ ⟨hh, hl, h2, hls, hP, hK, hD, hS⟩
      | false => exact absurd (e1.mpr hbr) hc
    · cases t with
      | true => exact absurd (e1.mp hc) hbr
      | false => exact kk ws H locs ls _ _ ⟨hh, hl, h2, hls, hP, hK, hD, hS⟩
  | lt =>
    refine lv_icmp_lt hx hb hdg ht (fun hc => ?_) (fun hc => ?_)
    · cases t with
      | true => exact kk ws H locs ls _ _ ⟨hh, hl, h2, hls, hP, hK, hD, hS⟩
      | false => exact absurd (e2.mp hc) (Int.not_lt.mpr hbr)
    · cases t with
      | true => exact absurd (e2.mpr hbr) hc
      | false => exact kk ws H locs ls _ _ ⟨hh, hl, h2, hls, hP, hK, hD, hS⟩
  | ge =>
    refine lv_icmp_ge hx hb hdg ht (fun hc => ?_) (fun hc => ?_)
    · cases t with
      | true => exact kk ws H locs ls _ _ ⟨hh, hl, h2, hls, hP, hK, hD, hS⟩
      | false => exact absurd (e5.mp hc) (Int.not_le.mpr hbr)
    · cases t with
      | true => exact absurd (e5.mpr hbr) hc
      | false => exact kk ws H locs ls _ _ ⟨hh, hl, h2, hls, hP, hK, hD, hS⟩
  | gt =>
    refine lv_icmp_gt hx hb hdg ht (fun hc => ?_) (fun hc => ?_)
    · cases t with
      | true => exact kk ws H locs ls _ _ ⟨hh, hl, h2, hls, hP, hK, hD, hS⟩
      | false => exact absurd (e4.mp hc) (Int.not_lt.mpr hbr)
    · cases t with
      | true => exact absurd (e4.mpr hbr) hc
      | false => exact kk ws H locs ls _ _ ⟨hh, hl, h2, hls, hP, hK, hD, hS⟩
  | le =>
    refine lv_icmp_le hx hb hdg ht (fun hc => ?_) (fun hc => ?_)
    · cases t with
      | true => exact kk ws H locs ls _ _ ⟨hh, hl, h2, hls, hP, hK, hD, hS⟩
      | false => exact absurd (e3.mp hc) (Int.not_le.mpr hbr)
    · cases t with
      | true => exact absurd (e3.mpr hbr) hc
      | false => exact kk ws H locs ls _ _ ⟨hh, hl, h2, hls, hP, hK, hD, hS⟩

set_option maxHeartbeats 4000000 in
set_option maxRecDepth 100000 in
theorem gx_st_tsw {d lo1 hi : Int} {offs : Array Int} {nx r1 r2 r3 : Nat} (C : y_ctx κ true p R s m args meth c cc own yn nL A) (hok : y_okop nL own yn cc (pc, (.tableswitch d lo1 hi offs, nx, r1, r2, r3)) = true) (hs : gx_st1 κ sh t pc (.tableswitch d lo1 hi offs, nx, r1, r2, r3) lo st M = some (P, S')) (hP0 : ∀ q, P = some q → q) (hk : k ≤ R.cells) (hn : n ≤ R.slots) (Z : gx_Z κ D A s nL α tys ws H locs ls lv sv sh lo st M)
    (kk : ∀ ws' H' locs' ls' lv' sv', gx_Z κ D A s nL α tys ws' H' locs' ls' lv' sv' sh S'.2.1 S'.2.2.1 S'.2.2.2 → W p l e R s m args below meth c H' locs' k n Q (F0 m S'.1 ls' sv')) : W p l e R s m args below meth c H locs k n Q (F0 m pc ls sv) := by
  obtain ⟨hx, hb, hml, hown, hts, hyn, hAO, hA, hRf, hRl, hsc⟩ := C
  obtain ⟨hh, hl, hst, hls, hP, hK, hD, hS⟩ := Z
  unfold y_okop y_okin at hok
  simp only [Bool.and_eq_true, decide_eq_true_eq] at hok
  obtain ⟨hdg, hok⟩ := hok
  unfold gx_st1 at hs
  dsimp only at hs
  rcases st with _ | ⟨a | a, r⟩ <;> try (cases hs; done)
  obtain ⟨q, hq, h9⟩ := Option.map_eq_some_iff.mp hs
  cases h9
  have hr := gx_toInt (hP0 _ rfl)
  obtain ⟨ys, rfl, h2⟩ := gx_ds_ci hst
  unfold gx_sw at hq
  split at hq
  · next hc => exact lv_tableOut hx hb hdg (by rw [hr]; exact hc) (y_off_ok hq) (kk ws H locs ls _ _ ⟨hh, hl, h2, hls, hP, hK, hD, hS⟩)
  · next hc =>
    split at hq
    · next o ho =>
      exact lv_tableIn hx hb hdg (fun z => hc (Or.inl (by rw [hr] at z; exact z))) (fun z => hc (Or.inr (by rw [hr] at z; exact z))) (by rw [hr]; exact ho) (y_off_ok hq) (kk ws H locs ls _ _ ⟨hh, hl, h2, hls, hP, hK, hD, hS⟩)
    · cases hq

set_option maxHeartbeats 4000000 in
set_option maxRecDepth 100000 in
theorem gx_st_lsw {d : Int} {ps : Array (Int × Int)} {nx r1 r2 r3 : Nat} (C : y_ctx κ true p R s m args meth c cc own yn nL A) (hok : y_okop nL own yn cc (pc, (.lookupswitch d ps, nx, r1, r2, r3)) = true) (hs : gx_st1 κ sh t pc (.lookupswitch d ps, nx, r1, r2, r3) lo st M = some (P, S')) (hP0 : ∀ q, P = some q → q) (hk : k ≤ R.cells) (hn : n ≤ R.slots) (Z : gx_Z κ D A s nL α tys ws H locs ls lv sv sh lo st M)
    (kk : ∀ ws' H' locs' ls' lv' sv', gx_Z κ D A s nL α tys ws' H' locs' ls' lv' sv' sh S'.2.1 S'.2.2.1 S'.2.2.2 → W p l e R s m args below meth c H' locs' k n Q (F0 m S'.1 ls' sv')) : W p l e R s m args below meth c H locs k n Q (F0 m pc ls sv) := by
  obtain ⟨hx, hb, hml, hown, hts, hyn, hAO, hA, hRf, hRl, hsc⟩ := C
  obtain ⟨hh, hl, hst, hls, hP, hK, hD, hS⟩ := Z
  unfold y_okop y_okin at hok
  simp only [Bool.and_eq_true, decide_eq_true_eq] at hok
  obtain ⟨hdg, hok⟩ := hok
  unfold gx_st1 at hs
  dsimp only at hs
  rcases st with _ | ⟨a | a, r⟩ <;> try (cases hs; done)
  obtain ⟨q, hq, h9⟩ := Option.map_eq_some_iff.mp hs
  cases h9
  have hr := gx_toInt (hP0 _ rfl)
  obtain ⟨ys, rfl, h2⟩ := gx_ds_ci hst
  exact lv_lookup hx hb hdg hok (by rw [hr]) (y_off_ok hq) (kk ws H locs ls _ _ ⟨hh, hl, h2, hls, hP, hK, hD, hS⟩)

set_option maxHeartbeats 4000000 in
set_option maxRecDepth 100000 in
theorem gx_st_getf {i : Nat} {nx r1 r2 r3 : Nat} (C : y_ctx κ true p R s m args meth c cc own yn nL A) (hok : y_okop nL own yn cc (pc, (.getfield i, nx, r1, r2, r3)) = true) (hs : gx_st1 κ sh t pc (.getfield i, nx, r1, r2, r3) lo st M = some (P, S')) (hP0 : ∀ q, P = some q → q) (hk : k ≤ R.cells) (hn : n ≤ R.slots) (Z : gx_Z κ D A s nL α tys ws H locs ls lv sv sh lo st M)
    (kk : ∀ ws' H' locs' ls' lv' sv', gx_Z κ D A s nL α tys ws' H' locs' ls' lv' sv' sh S'.2.1 S'.2.2.1 S'.2.2.2 → W p l e R s m args below meth c H' locs' k n Q (F0 m S'.1 ls' sv')) : W p l e R s m args below meth c H locs k n Q (F0 m pc ls sv) := by
  obtain ⟨hx, hb, hml, hown, hts, hyn, hAO, hA, hRf, hRl, hsc⟩ := C
  obtain ⟨hh, hl, hst, hls, hP, hK, hD, hS⟩ := Z
  unfold y_okop y_okin at hok
  simp only [Bool.and_eq_true, decide_eq_true_eq] at hok
  obtain ⟨hdg, hok⟩ := hok
  unfold gx_st1 at hs
  dsimp only at hs
  obtain ⟨rfl, hfl⟩ := hok
  rw [Nat.add_sub_cancel_left] at hdg
  rcases st with _ | ⟨a | a | _ | _ | j, r⟩ <;> try (cases hs; done)
  cases hg : gx_at sh j with
  | none => dsimp only at hs; rw [hg] at hs; cases hs
  | some c0 =>
    try dsimp only at hs
    rw [hg] at hs
    have hg0 := gx_at_ok hg
    rcases c0 with ⟨ci, fs⟩ | c0 <;> try (cases hs; done)
    try dsimp only at hs
    cases hc : Nat.beq ci r1 with
    | false => rw [hc] at hs; cases hs
    | true =>
      rw [hc] at hs
      cases hf : gx_fld fs r2 with
      | none => rw [hf] at hs; cases hs
      | some v =>
        rw [hf] at hs
        have e1 := y_beq.mp hc
        subst e1
        obtain ⟨b, ys, rfl, hb1, h2⟩ := gx_ds_cr hst
        obtain ⟨b', e', g1, g2, vs, g3, rfl⟩ := hh.2.2 j _ hg0
        have e2 : b' = b := Option.some.inj (g1.symm.trans hb1)
        subst e2
        obtain ⟨x, hx1, hx2⟩ := gx_fs_get fs 0 r2 vs v g3 hf
        unfold y_fl at hfl
        cases hr : vwCl[ci]? with
        | none => rw [hr] at hfl; cases hfl
        | some rr =>
          rw [hr] at hfl
          simp only [Bool.and_eq_true, decide_eq_true_eq] at hfl
          obtain ⟨C1, T1, N1⟩ := rr
          cases v with
          | none =>
            cases hs
            have e5 : x = .int (gx_i (M j ((0 + r2 : Nat) : Int))) := hx2
            rw [Nat.zero_add] at e5
            subst e5
            exact va_get hx hb hts (y_cls_ok hr).1 hown hK hP j g2 hr r2 hfl.1 (hts _ (yM_ok hfl.2)) (fun _ z => z) hx1 hdg (kk ws H locs ls _ _ ⟨hh, hl, gx_ds_i rfl h2, hls, hP, hK, hD, hS⟩)
          | some q =>
            cases hs
            obtain ⟨a2, ha2, rfl⟩ := hx2
            exact va_get hx hb hts (y_cls_ok hr).1 hown hK hP j g2 hr r2 hfl.1 (hts _ (yM_ok hfl.2)) (fun _ z => z) hx1 hdg (kk ws H locs ls _ _ ⟨hh, hl, gx_ds_r ha2 h2, hls, hP, hK, hD, hS⟩)

set_option maxHeartbeats 4000000 in
set_option maxRecDepth 100000 in
theorem gx_st_putf {i : Nat} {nx r1 r2 r3 : Nat} (C : y_ctx κ true p R s m args meth c cc own yn nL A) (hok : y_okop nL own yn cc (pc, (.putfield i, nx, r1, r2, r3)) = true) (hs : gx_st1 κ sh t pc (.putfield i, nx, r1, r2, r3) lo st M = some (P, S')) (hP0 : ∀ q, P = some q → q) (hk : k ≤ R.cells) (hn : n ≤ R.slots) (Z : gx_Z κ D A s nL α tys ws H locs ls lv sv sh lo st M)
    (kk : ∀ ws' H' locs' ls' lv' sv', gx_Z κ D A s nL α tys ws' H' locs' ls' lv' sv' sh S'.2.1 S'.2.2.1 S'.2.2.2 → W p l e R s m args below meth c H' locs' k n Q (F0 m S'.1 ls' sv')) : W p l e R s m args below meth c H locs k n Q (F0 m pc ls sv) := by
  obtain ⟨hx, hb, hml, hown, hts, hyn, hAO, hA, hRf, hRl, hsc⟩ := C
  obtain ⟨hh, hl, hst, hls, hP, hK, hD, hS⟩ := Z
  unfold y_okop y_okin at hok
  simp only [Bool.and_eq_true, decide_eq_true_eq] at hok
  obtain ⟨hdg, hok⟩ := hok
  unfold gx_st1 at hs
  dsimp only at hs
  obtain ⟨rfl, hfl, hpf⟩ := hok
  rw [Nat.add_sub_cancel_left] at hdg
  rcases st with _ | ⟨v | v, _ | ⟨a | a | _ | _ | j, r⟩⟩ <;> try (cases hs; done)
  cases hg : gx_at sh j with
  | none => dsimp only at hs; rw [hg] at hs; cases hs
  | some c0 =>
    try dsimp only at hs
    rw [hg] at hs
    have hg0 := gx_at_ok hg
    rcases c0 with ⟨ci, fs⟩ | c0 <;> try (cases hs; done)
    try dsimp only at hs
    cases hc : Nat.beq ci r1 with
    | false => rw [hc] at hs; cases hs
    | true =>
      rw [hc] at hs
      cases hf : gx_fld fs r2 with
      | none => rw [hf] at hs; cases hs
      | some v0 =>
      rw [hf] at hs
      cases v0 with
      | some q => cases hs
      | none =>
        cases hs
        have e1 := y_beq.mp hc
        subst e1
        obtain ⟨ys0, rfl, h1⟩ := gx_ds_ci hst
        obtain ⟨b, ys, rfl, hb1, h2⟩ := gx_ds_cr h1
        obtain ⟨b', e', g1, g2, vs, g3, rfl⟩ := hh.2.2 j _ hg0
        have e2 : b' = b := Option.some.inj (g1.symm.trans hb1)
        subst e2
        obtain ⟨x, hx1, hx2⟩ := gx_fs_get fs 0 r2 vs _ g3 hf
        unfold y_fl at hfl
        unfold y_pf at hpf
        cases hr : vwCl[ci]? with
        | none => rw [hr] at hfl; cases hfl
        | some rr =>
          rw [hr] at hfl hpf
          simp only [Bool.and_eq_true, decide_eq_true_eq, Bool.or_eq_true, Bool.not_eq_true'] at hfl hpf
          obtain ⟨C1, T1, N1⟩ := rr
          obtain ⟨k1, k2, k3⟩ := y_cls_ok hr
          have hty := k2 r2 hfl.1
          have hpk := hpf.1
          rw [hty] at hpk
          have hnf : narrow ((parseFieldDescriptor (T1 r2).2.2.1).getD .int) (.int (gx_i v)) = .int (gx_i v) ∧ fits ((parseFieldDescriptor (T1 r2).2.2.1).getD .int) (.int (gx_i v)) = true := by
            generalize (parseFieldDescriptor (T1 r2).2.2.1).getD .int = ty at hpk
            cases ty with
            | int => exact ⟨rfl, rfl⟩
            | boolean =>
              have e3 := y_beq.mp hpk
              subst e3
              exact gx_bool_fit (hP0 _ rfl).2
            | object C =>
              have e3 := y_beq.mp hpk
              subst e3
              exact absurd (hP0 _ rfl).1 (by omega)
            | array C =>
              have e3 := y_beq.mp hpk
              subst e3
              exact absurd (hP0 _ rfl).1 (by omega)
            | byte => cases hpk
            | char => cases hpk
            | double => cases hpk
            | float => cases hpk
            | long => cases hpk
            | short => cases hpk
          have hlen : r2 < vs.length := (List.getElem?_eq_some_iff.mp hx1).1
          have hc0 : gx_c κ α tys (.inl (ci, fs)) (gx_up M j (r2 : Int) v j) (.inr (ci, vs.set r2 (.int (gx_i v)))) := by
            refine ⟨vs.set r2 (.int (gx_i v)), ?_, rfl⟩
            rw [gx_up_eq]
            have h7 := gx_fs_set (v := v) fs 0 r2 vs g3 hf
            rw [Nat.zero_add] at h7
            exact h7
          have hnew := gx_h_set hh hg0 g1 (fun c' hc' => gx_up_ne (M := M) (i := (r2 : Int)) (v := v) hc') hc0
          cases hfin : (T1 r2).2.2.2 with
          | false =>
            exact va_put hx hb hts k1 _ k2 k3 hown hK hP hD hS j g2 hr r2 hfl.1 (hts _ (yM_ok hfl.2)) (fun _ z => z) hfin hty hnf.1 hnf.2 hlen hdg (fun H1 locs1 hP1 hD1 hS1 => kk _ H1 locs1 ls lv _ ⟨hnew, hl, h2, hls, hP1, hK, hD1, hS1⟩)
          | true =>
            rcases hpf.2 with hf2 | hf2
            · rw [hfin] at hf2; cases hf2
            · exact va_putF hx hb hts k1 _ k2 k3 hown hK hP hD hS j g2 hr r2 hfl.1 (hts _ (yM_ok hfl.2)) (fun _ z => z) hfin (hyn hf2.1) hf2.2 hty hnf.1 hnf.2 hlen hdg (fun H1 locs1 hP1 hD1 hS1 => kk _ H1 locs1 ls lv _ ⟨hnew, hl, h2, hls, hP1, hK, hD1, hS1⟩)

set_option maxHeartbeats 4000000 in
set_option maxRecDepth 100000 in
theorem gx_st_iald {nx r1 r2 r3 : Nat} (C : y_ctx κ true p R s m args meth c cc own yn nL A) (hok : y_okop nL own yn cc (pc, (.iaload, nx, r1, r2, r3)) = true) (hs : gx_st1 κ sh t pc (.iaload, nx, r1, r2, r3) lo st M = some (P, S')) (hP0 : ∀ q, P = some q → q) (hk : k ≤ R.cells) (hn : n ≤ R.slots) (Z : gx_Z κ D A s nL α tys ws H locs ls lv sv sh lo st M)
    (kk : ∀ ws' H' locs' ls' lv' sv', gx_Z κ D A s nL α tys ws' H' locs' ls' lv' sv' sh S'.2.1 S'.2.2.1 S'.2.2.2 → W p l e R s m args below meth c H' locs' k n Q (F0 m S'.1 ls' sv')) : W p l e R s m args below meth c H locs k n Q (F0 m pc ls sv) := by
  obtain ⟨hx, hb, hml, hown, hts, hyn, hAO, hA, hRf, hRl, hsc⟩ := C
  obtain ⟨hh, hl, hst, hls, hP, hK, hD, hS⟩ := Z
  unfold y_okop y_okin at hok
  simp only [Bool.and_eq_true, decide_eq_true_eq] at hok
  obtain ⟨hdg, hok⟩ := hok
  unfold gx_st1 at hs
  dsimp only at hs
  obtain rfl := hok
  rw [Nat.add_sub_cancel_left] at hdg
  rcases st with _ | ⟨x0 | x0, _ | ⟨a | a | _ | _ | j, r⟩⟩ <;> try (cases hs; done)
  · cases hs
    obtain ⟨hj0, hjL, hj2⟩ := hP0 _ rfl
    obtain ⟨hX, hbl, hbA⟩ := hsc rfl
    obtain ⟨ys, rfl, h1⟩ := gx_ds_ci hst
    obtain ⟨b, zs, rfl, hb1, h2⟩ := gx_ds_cr h1
    cases hb1
    obtain ⟨q1, q2, q3, q4⟩ := gx_idx ⟨hj0, hjL⟩ hj2
    exact va_sld hx hb hX hbl hbA hS q1 hdg (kk ws H locs ls _ _ ⟨hh, hl, gx_ds_i (by rw [q2]; exact gx_i_of _) h2, hls, hP, hK, hD, hS⟩)
  · cases hg : gx_at sh j with
    | none => dsimp only at hs; rw [hg] at hs; cases hs
    | some c0 =>
      try dsimp only at hs
      rw [hg] at hs
      have hg0 := gx_at_ok hg
      rcases c0 with ⟨ci, fs⟩ | ⟨_ | kd, len⟩ | c0 <;> try (cases hs; done)
      replace hs : (bif Nat.ble len 1000000 then some (some (0 ≤ x0 ∧ x0 < (len : Int)), pc + 1, lo, gI (M j x0) :: r, M) else none) = some (P, S') := hs
      cases hc : Nat.ble len 1000000 with
      | false => rw [hc] at hs; cases hs
      | true =>
      rw [hc] at hs
      cases hs
      have h3 := y_ble.mp hc
      have h4 := hP0 _ rfl
      obtain ⟨q1, q2, q3, q4⟩ := gx_idx h4 (by omega)
      obtain ⟨ys, rfl, h1⟩ := gx_ds_ci hst
      obtain ⟨b, zs, rfl, hb1, h2⟩ := gx_ds_cr h1
      obtain ⟨b', e', g1, g2, cA, t0, f, g3, g4, rfl⟩ := hh.2.2 j _ hg0
      have e2 : b' = b := Option.some.inj (g1.symm.trans hb1)
      subst e2
      exact va_iald hx hb hK hP j t0 g2 g3 q1 hdg (kk ws H locs ls _ _ ⟨hh, hl, gx_ds_i (by rw [q2, g4 _ q3, q4]) h2, hls, hP, hK, hD, hS⟩)

set_option maxHeartbeats 4000000 in
set_option maxRecDepth 100000 in
theorem gx_st_bald {nx r1 r2 r3 : Nat} (C : y_ctx κ true p R s m args meth c cc own yn nL A) (hok : y_okop nL own yn cc (pc, (.baload, nx, r1, r2, r3)) = true) (hs : gx_st1 κ sh t pc (.baload, nx, r1, r2, r3) lo st M = some (P, S')) (hP0 : ∀ q, P = some q → q) (hk : k ≤ R.cells) (hn : n ≤ R.slots) (Z : gx_Z κ D A s nL α tys ws H locs ls lv sv sh lo st M)
    (kk : ∀ ws' H' locs' ls' lv' sv', gx_Z κ D A s nL α tys ws' H' locs' ls' lv' sv' sh S'.2.1 S'.2.2.1 S'.2.2.2 → W p l e R s m args below meth c H' locs' k n Q (F0 m S'.1 ls' sv')) : W p l e R s m args below meth c H locs k n Q (F0 m pc ls sv) := by
  obtain ⟨hx, hb, hml, hown, hts, hyn, hAO, hA, hRf, hRl, hsc⟩ := C
  obtain ⟨hh, hl, hst, hls, hP, hK, hD, hS⟩ := Z
  unfold y_okop y_okin at hok
  simp only [Bool.and_eq_true, decide_eq_true_eq] at hok
  obtain ⟨hdg, hok⟩ := hok
  unfold gx_st1 at hs
  dsimp only at hs
  obtain rfl := hok
  rw [Nat.add_sub_cancel_left] at hdg
  rcases st with _ | ⟨x0 | x0, _ | ⟨a | a | _ | _ | j, r⟩⟩ <;> try (cases hs; done)
  cases hg : gx_at sh j with
  | none => dsimp only at hs; rw [hg] at hs; cases hs
  | some c0 =>
    try dsimp only at hs
    rw [hg] at hs
    have hg0 := gx_at_ok hg
    rcases c0 with ⟨ci, fs⟩ | ⟨_ | _ | kd, len⟩ | c0 <;> try (cases hs; done)
    replace hs : (bif Nat.ble len 1000000 then some (some (0 ≤ x0 ∧ x0 < (len : Int)), pc + 1, lo, gI (M j x0) :: r, M) else none) = some (P, S') := hs
    cases hc : Nat.ble len 1000000 with
    | false => rw [hc] at hs; cases hs
    | true =>
    rw [hc] at hs
    cases hs
    have h3 := y_ble.mp hc
    have h4 := hP0 _ rfl
    obtain ⟨q1, q2, q3, q4⟩ := gx_idx h4 (by omega)
    obtain ⟨ys, rfl, h1⟩ := gx_ds_ci hst
    obtain ⟨b, zs, rfl, hb1, h2⟩ := gx_ds_cr h1
    obtain ⟨b', e', g1, g2, cA, t0, f, g3, g4, rfl⟩ := hh.2.2 j _ hg0
    have e2 : b' = b := Option.some.inj (g1.symm.trans hb1)
    subst e2
    exact va_zald hx hb hK hP j t0 g2 g3 q1 hdg (kk ws H locs ls _ _ ⟨hh, hl, gx_ds_i (by rw [q2, g4 _ q3, q4]) h2, hls, hP, hK, hD, hS⟩)

set_option maxHeartbeats 4000000 in
set_option maxRecDepth 100000 in
theorem gx_st_lald {nx r1 r2 r3 : Nat} (C : y_ctx κ true p R s m args meth c cc own yn nL A) (hok : y_okop nL own yn cc (pc, (.laload, nx, r1, r2, r3)) = true) (hs : gx_st1 κ sh t pc (.laload, nx, r1, r2, r3) lo st M = some (P, S')) (hP0 : ∀ q, P = some q → q) (hk : k ≤ R.cells) (hn : n ≤ R.slots) (Z : gx_Z κ D A s nL α tys ws H locs ls lv sv sh lo st M)
    (kk : ∀ ws' H' locs' ls' lv' sv', gx_Z κ D A s nL α tys ws' H' locs' ls' lv' sv' sh S'.2.1 S'.2.2.1 S'.2.2.2 → W p l e R s m args below meth c H' locs' k n Q (F0 m S'.1 ls' sv')) : W p l e R s m args below meth c H locs k n Q (F0 m pc ls sv) := by
  obtain ⟨hx, hb, hml, hown, hts, hyn, hAO, hA, hRf, hRl, hsc⟩ := C
  obtain ⟨hh, hl, hst, hls, hP, hK, hD, hS⟩ := Z
  unfold y_okop y_okin at hok
  simp only [Bool.and_eq_true, decide_eq_true_eq] at hok
  obtain ⟨hdg, hok⟩ := hok
  unfold gx_st1 at hs
  dsimp only at hs
  obtain rfl := hok
  rw [Nat.add_sub_cancel_left] at hdg
  rcases st with _ | ⟨x0 | x0, _ | ⟨a | a | _ | _ | j, r⟩⟩ <;> try (cases hs; done)
  cases hg : gx_at sh j with
  | none => dsimp only at hs; rw [hg] at hs; cases hs
  | some c0 =>
    try dsimp only at hs
    rw [hg] at hs
    have hg0 := gx_at_ok hg
    rcases c0 with ⟨ci, fs⟩ | ⟨_ | _ | _ | _ | kd, len⟩ | c0 <;> try (cases hs; done)
    replace hs : (bif Nat.ble len 1000000 then some (some (0 ≤ x0 ∧ x0 < (len : Int)), pc + 1, lo, gJ (M j x0) :: r, M) else none) = some (P, S') := hs
    cases hc : Nat.ble len 1000000 with
    | false => rw [hc] at hs; cases hs
    | true =>
    rw [hc] at hs
    cases hs
    have h3 := y_ble.mp hc
    have h4 := hP0 _ rfl
    obtain ⟨q1, q2, q3, q4⟩ := gx_idx h4 (by omega)
    obtain ⟨ys, rfl, h1⟩ := gx_ds_ci hst
    obtain ⟨b, zs, rfl, hb1, h2⟩ := gx_ds_cr h1
    obtain ⟨b', e', g1, g2, cA, t0, f, g3, g4, rfl⟩ := hh.2.2 j _ hg0
    have e2 : b' = b := Option.some.inj (g1.symm.trans hb1)
    subst e2
    exact va_lald hx hb hK hP j t0 g2 g3 q1 hdg (kk ws H locs ls _ _ ⟨hh, hl, gx_ds_l (by rw [q2, g4 _ q3, q4]) h2, hls, hP, hK, hD, hS⟩)

set_option maxHeartbeats 4000000 in
set_option maxRecDepth 100000 in
theorem gx_st_aald {nx r1 r2 r3 : Nat} (C : y_ctx κ true p R s m args meth c cc own yn nL A) (hok : y_okop nL own yn cc (pc, (.aaload, nx, r1, r2, r3)) = true) (hs : gx_st1 κ sh t pc (.aaload, nx, r1, r2, r3) lo st M = some (P, S')) (hP0 : ∀ q, P = some q → q) (hk : k ≤ R.cells) (hn : n ≤ R.slots) (Z : gx_Z κ D A s nL α tys ws H locs ls lv sv sh lo st M)
    (kk : ∀ ws' H' locs' ls' lv' sv', gx_Z κ D A s nL α tys ws' H' locs' ls' lv' sv' sh S'.2.1 S'.2.2.1 S'.2.2.2 → W p l e R s m args below meth c H' locs' k n Q (F0 m S'.1 ls' sv')) : W p l e R s m args below meth c H locs k n Q (F0 m pc ls sv) := by
  obtain ⟨hx, hb, hml, hown, hts, hyn, hAO, hA, hRf, hRl, hsc⟩ := C
  obtain ⟨hh, hl, hst, hls, hP, hK, hD, hS⟩ := Z
  unfold y_okop y_okin at hok
  simp only [Bool.and_eq_true, decide_eq_true_eq] at hok
  obtain ⟨hdg, hok⟩ := hok
  unfold gx_st1 at hs
  dsimp only at hs
  obtain rfl := hok
  rw [Nat.add_sub_cancel_left] at hdg
  rcases st with _ | ⟨x0 | x0, _ | ⟨a | a | _ | _ | j, r⟩⟩ <;> try (cases hs; done)
  cases hg : gx_at sh j with
  | none => dsimp only at hs; rw [hg] at hs; cases hs
  | some c0 =>
    try dsimp only at hs
    rw [hg] at hs
    have hg0 := gx_at_ok hg
    rcases c0 with ⟨ci, fs⟩ | ⟨kd, len⟩ | ⟨ci, rs⟩ <;> try (cases hs; done)
    try dsimp only at hs
    cases hc : Nat.ble rs.length 1000000 with
    | false => rw [hc] at hs; cases hs
    | true =>
    rw [hc] at hs
    cases hr : gx_rf rs t with
    | none => rw [hr] at hs; cases hs
    | some q =>
    rw [hr] at hs
    cases hs
    have h3 := y_ble.mp hc
    have hr0 := gx_rf_ok hr
    have h4 : t < rs.length := (List.getElem?_eq_some_iff.mp hr0).1
    have e8 : x0 = (t : Int) := hP0 _ rfl
    subst e8
    have e9 : gx_i (t : Int) = nI t := gx_nat t
    obtain ⟨ys, rfl, h1⟩ := gx_ds_ci hst
    obtain ⟨b, zs, rfl, hb1, h2⟩ := gx_ds_cr h1
    obtain ⟨b', e', g1, g2, cA, t0, rr, f, g0, g3, g4, rfl⟩ := hh.2.2 j _ hg0
    have e2 : b' = b := Option.some.inj (g1.symm.trans hb1)
    subst e2
    obtain ⟨a2, g5, g6⟩ := g4 t q hr0
    rw [e9]
    refine va_aldq hx hb hK hP j t0 g2 g3 (y_in h4 (by omega)) hdg (kk ws H locs ls lv _ ⟨hh, hl, ?_, hls, hP, hK, hD, hS⟩)
    rw [nI_clamp (by omega), g6]
    exact gx_ds_r g5 h2

set_option maxHeartbeats 4000000 in
set_option maxRecDepth 100000 in
theorem gx_st_iast {nx r1 r2 r3 : Nat} (C : y_ctx κ true p R s m args meth c cc own yn nL A) (hok : y_okop nL own yn cc (pc, (.iastore, nx, r1, r2, r3)) = true) (hs : gx_st1 κ sh t pc (.iastore, nx, r1, r2, r3) lo st M = some (P, S')) (hP0 : ∀ q, P = some q → q) (hk : k ≤ R.cells) (hn : n ≤ R.slots) (Z : gx_Z κ D A s nL α tys ws H locs ls lv sv sh lo st M)
    (kk : ∀ ws' H' locs' ls' lv' sv', gx_Z κ D A s nL α tys ws' H' locs' ls' lv' sv' sh S'.2.1 S'.2.2.1 S'.2.2.2 → W p l e R s m args below meth c H' locs' k n Q (F0 m S'.1 ls' sv')) : W p l e R s m args below meth c H locs k n Q (F0 m pc ls sv) := by
  obtain ⟨hx, hb, hml, hown, hts, hyn, hAO, hA, hRf, hRl, hsc⟩ := C
  obtain ⟨hh, hl, hst, hls, hP, hK, hD, hS⟩ := Z
  unfold y_okop y_okin at hok
  simp only [Bool.and_eq_true, decide_eq_true_eq] at hok
  obtain ⟨hdg, hok⟩ := hok
  unfold gx_st1 at hs
  dsimp only at hs
  obtain rfl := hok
  rw [Nat.add_sub_cancel_left] at hdg
  rcases st with _ | ⟨v | v, _ | ⟨x0 | x0, _ | ⟨a | a | _ | _ | j, r⟩⟩⟩ <;> try (cases hs; done)
  cases hg : gx_at sh j with
  | none => dsimp only at hs; rw [hg] at hs; cases hs
  | some c0 =>
    try dsimp only at hs
    rw [hg] at hs
    have hg0 := gx_at_ok hg
    rcases c0 with ⟨ci, fs⟩ | ⟨_ | kd, len⟩ | c0 <;> try (cases hs; done)
    replace hs : (bif Nat.ble len 1000000 then some (some (0 ≤ x0 ∧ x0 < (len : Int)), pc + 1, lo, r, gx_up M j x0 v) else none) = some (P, S') := hs
    cases hc : Nat.ble len 1000000 with
    | false => rw [hc] at hs; cases hs
    | true =>
    rw [hc] at hs
    cases hs
    have h3 := y_ble.mp hc
    have h4 := hP0 _ rfl
    obtain ⟨q1, q2, q3, q4⟩ := gx_idx h4 (by omega)
    obtain ⟨xs, rfl, h0⟩ := gx_ds_ci hst
    obtain ⟨ys, rfl, h1⟩ := gx_ds_ci h0
    obtain ⟨b, zs, rfl, hb1, h2⟩ := gx_ds_cr h1
    obtain ⟨b', e', g1, g2, cA, t0, f, g3, g4, rfl⟩ := hh.2.2 j _ hg0
    have e2 : b' = b := Option.some.inj (g1.symm.trans hb1)
    subst e2
    refine va_iast hx hb hK hP hD hS j t0 g2 g3 q1 hdg (fun H1 locs1 hP1 hD1 hS1 => ?_)
    rw [q2] at hP1 hD1
    refine kk _ H1 locs1 ls lv _ ⟨gx_h_set hh hg0 g1 (fun c' hc' => gx_up_ne (M := M) (i := x0) (v := v) hc') ⟨cA, t0, _, g3, fun i hi => ?_, rfl⟩, hl, h2, hls, hP1, hK, hD1, hS1⟩
    dsimp only
    rw [gx_up_eq]
    dsimp only
    by_cases hq : i = x0.toNat
    · subst hq
      rw [if_pos q4, pk_us]
    · rw [if_neg (fun z => hq (by omega)), pk_un hq]
      exact g4 i hi

set_option maxHeartbeats 4000000 in
set_option maxRecDepth 100000 in
theorem gx_st_bast {nx r1 r2 r3 : Nat} (C : y_ctx κ true p R s m args meth c cc own yn nL A) (hok : y_okop nL own yn cc (pc, (.bastore, nx, r1, r2, r3)) = true) (hs : gx_st1 κ sh t pc (.bastore, nx, r1, r2, r3) lo st M = some (P, S')) (hP0 : ∀ q, P = some q → q) (hk : k ≤ R.cells) (hn : n ≤ R.slots) (Z : gx_Z κ D A s nL α tys ws H locs ls lv sv sh lo st M)
    (kk : ∀ ws' H' locs' ls' lv' sv', gx_Z κ D A s nL α tys ws' H' locs' ls' lv' sv' sh S'.2.1 S'.2.2.1 S'.2.2.2 → W p l e R s m args below meth c H' locs' k n Q (F0 m S'.1 ls' sv')) : W p l e R s m args below meth c H locs k n Q (F0 m pc ls sv) := by
  obtain ⟨hx, hb, hml, hown, hts, hyn, hAO, hA, hRf, hRl, hsc⟩ := C
  obtain ⟨hh, hl, hst, hls, hP, hK, hD, hS⟩ := Z
  unfold y_okop y_okin at hok
  simp only [Bool.and_eq_true, decide_eq_true_eq] at hok
  obtain ⟨hdg, hok⟩ := hok
  unfold gx_st1 at hs
  dsimp only at hs
  obtain rfl := hok
  rw [Nat.add_sub_cancel_left] at hdg
  rcases st with _ | ⟨v | v, _ | ⟨x0 | x0, _ | ⟨a | a | _ | _ | j, r⟩⟩⟩ <;> try (cases hs; done)
  cases hg : gx_at sh j with
  | none => dsimp only at hs; rw [hg] at hs; cases hs
  | some c0 =>
    try dsimp only at hs
    rw [hg] at hs
    have hg0 := gx_at_ok hg
    rcases c0 with ⟨ci, fs⟩ | ⟨_ | _ | kd, len⟩ | c0 <;> try (cases hs; done)
    replace hs : (bif Nat.ble len 1000000 then some (some ((0 ≤ x0 ∧ x0 < (len : Int)) ∧ (v = 0 ∨ v = 1)), pc + 1, lo, r, gx_up M j x0 v) else none) = some (P, S') := hs
    cases hc : Nat.ble len 1000000 with
    | false => rw [hc] at hs; cases hs
    | true =>
    rw [hc] at hs
    cases hs
    have h3 := y_ble.mp hc
    have h4 := (hP0 _ rfl).1
    obtain ⟨q1, q2, q3, q4⟩ := gx_idx h4 (by omega)
    obtain ⟨xs, rfl, h0⟩ := gx_ds_ci hst
    obtain ⟨ys, rfl, h1⟩ := gx_ds_ci h0
    obtain ⟨b, zs, rfl, hb1, h2⟩ := gx_ds_cr h1
    obtain ⟨b', e', g1, g2, cA, t0, f, g3, g4, rfl⟩ := hh.2.2 j _ hg0
    have e2 : b' = b := Option.some.inj (g1.symm.trans hb1)
    subst e2
    refine va_zast hx hb hK hP hD hS j t0 g2 g3 q1 hdg (fun H1 locs1 hP1 hD1 hS1 => ?_)
    rw [q2, gx_bool_nar (hP0 _ rfl).2] at hP1 hD1
    refine kk _ H1 locs1 ls lv _ ⟨gx_h_set hh hg0 g1 (fun c' hc' => gx_up_ne (M := M) (i := x0) (v := v) hc') ⟨cA, t0, _, g3, fun i hi => ?_, rfl⟩, hl, h2, hls, hP1, hK, hD1, hS1⟩
    dsimp only
    rw [gx_up_eq]
    dsimp only
    by_cases hq : i = x0.toNat
    · subst hq
      rw [if_pos q4, pk_us]
    · rw [if_neg (fun z => hq (by omega)), pk_un hq]
      exact g4 i hi

set_option maxHeartbeats 4000000 in
set_option maxRecDepth 100000 in
theorem gx_st_last {nx r1 r2 r3 : Nat} (C : y_ctx κ true p R s m args meth c cc own yn nL A) (hok : y_okop nL own yn cc (pc, (.lastore, nx, r1, r2, r3)) = true) (hs : gx_st1 κ sh t pc (.lastore, nx, r1, r2, r3) lo st M = some (P, S')) (hP0 : ∀ q, P = some q → q) (hk : k ≤ R.cells) (hn : n ≤ R.slots) (Z : gx_Z κ D A s nL α tys ws H locs ls lv sv sh lo st M)
    (kk : ∀ ws' H' locs' ls' lv' sv', gx_Z κ D A s nL α tys ws' H' locs' ls' lv' sv' sh S'.2.1 S'.2.2.1 S'.2.2.2 → W p l e R s m args below meth c H' locs' k n Q (F0 m S'.1 ls' sv')) : W p l e R s m args below meth c H locs k n Q (F0 m pc ls sv) := by
  obtain ⟨hx, hb, hml, hown, hts, hyn, hAO, hA, hRf, hRl, hsc⟩ := C
  obtain ⟨hh, hl, hst, hls, hP, hK, hD, hS⟩ := Z
  unfold y_okop y_okin at hok
  simp only [Bool.and_eq_true, decide_eq_true_eq] at hok
  obtain ⟨hdg, hok⟩ := hok
  unfold gx_st1 at hs
  dsimp only at hs
  obtain rfl := hok
  rw [Nat.add_sub_cancel_left] at hdg
  rcases st with _ | ⟨v | v | v, _ | ⟨x0 | x0, _ | ⟨a | a | _ | _ | j, r⟩⟩⟩ <;> try (cases hs; done)
  cases hg : gx_at sh j with
  | none => dsimp only at hs; rw [hg] at hs; cases hs
  | some c0 =>
    try dsimp only at hs
    rw [hg] at hs
    have hg0 := gx_at_ok hg
    rcases c0 with ⟨ci, fs⟩ | ⟨_ | _ | _ | _ | kd, len⟩ | c0 <;> try (cases hs; done)
    replace hs : (bif Nat.ble len 1000000 then some (some (0 ≤ x0 ∧ x0 < (len : Int)), pc + 1, lo, r, gx_up M j x0 v) else none) = some (P, S') := hs
    cases hc : Nat.ble len 1000000 with
    | false => rw [hc] at hs; cases hs
    | true =>
    rw [hc] at hs
    cases hs
    have h3 := y_ble.mp hc
    have h4 := hP0 _ rfl
    obtain ⟨q1, q2, q3, q4⟩ := gx_idx h4 (by omega)
    obtain ⟨xs, rfl, h0⟩ := gx_ds_cl hst
    obtain ⟨ys, rfl, h1⟩ := gx_ds_ci h0
    obtain ⟨b, zs, rfl, hb1, h2⟩ := gx_ds_cr h1
    obtain ⟨b', e', g1, g2, cA, t0, f, g3, g4, rfl⟩ := hh.2.2 j _ hg0
    have e2 : b' = b := Option.some.inj (g1.symm.trans hb1)
    subst e2
    refine va_last hx hb hK hP hD hS j t0 g2 g3 q1 hdg (fun H1 locs1 hP1 hD1 hS1 => ?_)
    rw [q2] at hP1 hD1
    refine kk _ H1 locs1 ls lv _ ⟨gx_h_set hh hg0 g1 (fun c' hc' => gx_up_ne (M := M) (i := x0) (v := v) hc') ⟨cA, t0, _, g3, fun i hi => ?_, rfl⟩, hl, h2, hls, hP1, hK, hD1, hS1⟩
    dsimp only
    rw [gx_up_eq]
    dsimp only
    by_cases hq : i = x0.toNat
    · subst hq
      rw [if_pos q4, gx_usL]
    · rw [if_neg (fun z => hq (by omega)), gx_unL hq]
      exact g4 i hi

set_option maxHeartbeats 4000000 in
set_option maxRecDepth 100000 in
theorem gx_st_alen {nx r1 r2 r3 : Nat} (C : y_ctx κ true p R s m args meth c cc own yn nL A) (hok : y_okop nL own yn cc (pc, (.arraylength, nx, r1, r2, r3)) = true) (hs : gx_st1 κ sh t pc (.arraylength, nx, r1, r2, r3) lo st M = some (P, S')) (hP0 : ∀ q, P = some q → q) (hk : k ≤ R.cells) (hn : n ≤ R.slots) (Z : gx_Z κ D A s nL α tys ws H locs ls lv sv sh lo st M)
    (kk : ∀ ws' H' locs' ls' lv' sv', gx_Z κ D A s nL α tys ws' H' locs' ls' lv' sv' sh S'.2.1 S'.2.2.1 S'.2.2.2 → W p l e R s m args below meth c H' locs' k n Q (F0 m S'.1 ls' sv')) : W p l e R s m args below meth c H locs k n Q (F0 m pc ls sv) := by
  obtain ⟨hx, hb, hml, hown, hts, hyn, hAO, hA, hRf, hRl, hsc⟩ := C
  obtain ⟨hh, hl, hst, hls, hP, hK, hD, hS⟩ := Z
  unfold y_okop y_okin at hok
  simp only [Bool.and_eq_true, decide_eq_true_eq] at hok
  obtain ⟨hdg, hok⟩ := hok
  unfold gx_st1 at hs
  dsimp only at hs
  obtain rfl := hok
  rw [Nat.add_sub_cancel_left] at hdg
  rcases st with _ | ⟨a | a | _ | _ | j, r⟩ <;> try (cases hs; done)
  · cases hs
    obtain ⟨hX, hbl, hbA⟩ := hsc rfl
    obtain ⟨b, zs, rfl, hb1, h2⟩ := gx_ds_cr hst
    cases hb1
    exact va_slen hx hb hX hbl hbA hS hdg (kk ws H locs ls _ _ ⟨hh, hl, gx_ds_i (gx_nat _) h2, hls, hP, hK, hD, hS⟩)
  · cases hg : gx_at sh j with
    | none => dsimp only at hs; rw [hg] at hs; cases hs
    | some c0 =>
      try dsimp only at hs
      rw [hg] at hs
      have hg0 := gx_at_ok hg
      rcases c0 with ⟨ci, fs⟩ | ⟨_ | kd, len⟩ | c0 <;> try (cases hs; done)
      cases hs
      obtain ⟨b, zs, rfl, hb1, h2⟩ := gx_ds_cr hst
      obtain ⟨b', e', g1, g2, cA, t0, f, g3, g4, rfl⟩ := hh.2.2 j _ hg0
      have e2 : b' = b := Option.some.inj (g1.symm.trans hb1)
      subst e2
      exact va_alen hx hb hK hP j t0 g2 g3 rfl hdg (kk ws H locs ls _ _ ⟨hh, hl, gx_ds_i (gx_nat _) h2, hls, hP, hK, hD, hS⟩)

set_option maxHeartbeats 4000000 in
set_option maxRecDepth 100000 in
theorem gx_st_stat {i : Nat} {nx r1 r2 r3 : Nat} (C : y_ctx κ true p R s m args meth c cc own yn nL A) (hok : y_okop nL own yn cc (pc, (.invokestatic i, nx, r1, r2, r3)) = true) (hs : gx_st1 κ sh t pc (.invokestatic i, nx, r1, r2, r3) lo st M = some (P, S')) (hP0 : ∀ q, P = some q → q) (hk : k ≤ R.cells) (hn : n ≤ R.slots) (Z : gx_Z κ D A s nL α tys ws H locs ls lv sv sh lo st M)
    (kk : ∀ ws' H' locs' ls' lv' sv', gx_Z κ D A s nL α tys ws' H' locs' ls' lv' sv' sh S'.2.1 S'.2.2.1 S'.2.2.2 → W p l e R s m args below meth c H' locs' k n Q (F0 m S'.1 ls' sv')) : W p l e R s m args below meth c H locs k n Q (F0 m pc ls sv) := by
  obtain ⟨hx, hb, hml, hown, hts, hyn, hAO, hA, hRf, hRl, hsc⟩ := C
  obtain ⟨hh, hl, hst, hls, hP, hK, hD, hS⟩ := Z
  unfold y_okop y_okin at hok
  simp only [Bool.and_eq_true, decide_eq_true_eq] at hok
  obtain ⟨hdg, hok⟩ := hok
  unfold gx_st1 at hs
  dsimp only at hs
  obtain ⟨rfl, hoi, hmx, hmn⟩ := hok
  rw [Nat.add_sub_cancel_left] at hdg
  cases h98 : Nat.beq r3 98 with
  | true =>
    rw [h98] at hs
    simp only [cond_true] at hs
    rcases st with _ | ⟨k0 | k0, _ | ⟨dp | dp, _ | ⟨a | a | _ | _ | j, _ | ⟨sp | sp, _ | ⟨a2 | a2 | _ | _ | j0, r⟩⟩⟩⟩⟩ <;> try (cases hs; done)
    try dsimp only at hs
    cases hg0' : gx_at sh j0 with
    | none => rw [hg0'] at hs; cases hs
    | some c0 =>
    rw [hg0'] at hs
    rcases c0 with ⟨ci, fs⟩ | ⟨_ | kd, n0⟩ | c0 <;> try (cases hs; done)
    try dsimp only at hs
    cases hg' : gx_at sh j with
    | none => rw [hg'] at hs; cases hs
    | some c1 =>
    rw [hg'] at hs
    rcases c1 with ⟨ci, fs⟩ | ⟨_ | kd, n1⟩ | c1 <;> try (cases hs; done)
    replace hs : (bif Nat.ble (gx_cats r) 8 && (Nat.ble n0 1000000 && Nat.ble n1 1000000) then some (some ((0 ≤ sp ∧ 0 ≤ dp ∧ 0 ≤ k0) ∧ sp + k0 ≤ (n0 : Int) ∧ dp + k0 ≤ (n1 : Int)), pc + 3, lo, r, gx_cp M j0 j sp dp k0) else none) = some (P, S') := hs
    cases hc : (Nat.ble (gx_cats r) 8 && (Nat.ble n0 1000000 && Nat.ble n1 1000000)) with
    | false => rw [hc] at hs; cases hs
    | true =>
    rw [hc] at hs
    cases hs
    simp only [Bool.and_eq_true] at hc
    obtain ⟨c2, c3, c4⟩ := hc
    have c3 := y_ble.mp c3
    have c4 := y_ble.mp c4
    obtain ⟨⟨p1, p2, p3⟩, p4, p5⟩ := hP0 _ rfl
    have hg0 := gx_at_ok hg0'
    have hg := gx_at_ok hg'
    simp only [Bool.or_eq_true, Bool.not_eq_true', Bool.and_eq_true] at hoi
    obtain ⟨z1, rfl, h1⟩ := gx_ds_ci hst
    obtain ⟨z2, rfl, h2⟩ := gx_ds_ci h1
    obtain ⟨b, z3, rfl, hb1, h3⟩ := gx_ds_cr h2
    obtain ⟨z4, rfl, h4⟩ := gx_ds_ci h3
    obtain ⟨b0, z5, rfl, hb0, h5⟩ := gx_ds_cr h4
    rcases hoi with hoi | ⟨q1, q2, q3, q4⟩
    · rw [h98] at hoi; cases hoi
    · obtain ⟨b', e', g1, g2, cA, t0, f, g3, g4, rfl⟩ := hh.2.2 j _ hg
      have e2 : b' = b := Option.some.inj (g1.symm.trans hb1)
      subst e2
      obtain ⟨b2, e3, f1, f2, cA0, t1, f0, f3, f4, rfl⟩ := hh.2.2 j0 _ hg0
      have e4 : b2 = b0 := Option.some.inj (f1.symm.trans hb0)
      subst e4
      obtain ⟨sp, rfl⟩ := Int.eq_ofNat_of_zero_le p1
      obtain ⟨dp, rfl⟩ := Int.eq_ofNat_of_zero_le p2
      obtain ⟨k0, rfl⟩ := Int.eq_ofNat_of_zero_le p3
      have d1 : sp + k0 ≤ n0 := by omega
      have d2 : dp + k0 ≤ n1 := by omega
      have h8 : (z5.map fun v => v.category).sum ≤ 8 := by rw [gx_cats_ok h5]; exact y_ble.mp c2
      have h9 : nativeFrameWords "java/lang/System" "arraycopy" 5 = 7 := by decide +kernel
      rw [gx_nat, gx_nat, gx_nat]
      refine va_copyi hx hb (by rw [hml]; exact hls.1.symm) hown (hts _ (yM_ok q1)) (hts _ (yM_ok q2)) (hts _ (yM_ok q3)) (hts _ (yM_ok q4)) hK hP hD hS j0 j t1 t0 f2 g2 f3 g3 rfl (nI_pos (by omega)) (nI_pos (by omega)) (nI_pos (by omega)) ?_ ?_ (fun _ _ => rfl) hRf (by rw [h9]; omega) hdg (fun H1 locs1 hP1 hD1 hS1 => ?_)
      · rw [nI_clamp (by omega), nI_clamp (by omega)]; exact d1
      · rw [nI_clamp (by omega), nI_clamp (by omega)]; exact d2
      · rw [nI_clamp (n := sp) (by omega), nI_clamp (n := dp) (by omega), nI_clamp (n := k0) (by omega)] at hP1 hD1
        refine kk _ H1 locs1 ls lv _ ⟨gx_h_set hh hg g1 (fun c' hc' => gx_cp_ne hc') ⟨cA, t0, _, g3, fun i hi => ?_, rfl⟩, hl, h5, hls, hP1, hK, hD1, hS1⟩
        by_cases hq : dp ≤ i ∧ i < dp + k0
        · rw [pk_cpy_in hq.1 hq.2, f4 _ (by omega)]
          show gx_i (M j0 _) = gx_i (if j = j ∧ ((dp : Int) ≤ (i : Int) ∧ (i : Int) < (dp : Int) + (k0 : Int)) then M j0 ((sp : Int) + ((i : Int) - (dp : Int))) else M j (i : Int))
          rw [if_pos ⟨rfl, by omega, by omega⟩]
          congr 2
          omega
        · rw [pk_cpy_out (by omega), g4 _ hi]
          show gx_i (M j _) = gx_i (if j = j ∧ ((dp : Int) ≤ (i : Int) ∧ (i : Int) < (dp : Int) + (k0 : Int)) then M j0 ((sp : Int) + ((i : Int) - (dp : Int))) else M j (i : Int))
          rw [if_neg (fun z => hq ⟨by omega, by omega⟩)]
  | false =>
    rw [h98] at hs
    simp only [cond_false] at hs
    simp only [Bool.or_eq_true, Bool.not_eq_true', Bool.and_eq_true] at hmx hmn
    cases h96 : Nat.beq r3 96 with
    | true =>
      rw [h96] at hs
      simp only [cond_true] at hs
      rcases st with _ | ⟨y | y, _ | ⟨x | x, r⟩⟩ <;> try (cases hs; done)
      replace hs : (bif Nat.ble (gx_cats r) 8 then some (some (gx_R x ∧ gx_R y), pc + 3, lo, gI (max x y) :: r, M) else none) = some (P, S') := hs
      cases hc : Nat.ble (gx_cats r) 8 with
      | false => rw [hc] at hs; cases hs
      | true =>
      rw [hc] at hs
      cases hs
      obtain ⟨hr1, hr2⟩ := hP0 _ rfl
      obtain ⟨z1, rfl, h1⟩ := gx_ds_ci hst
      obtain ⟨z2, rfl, h2⟩ := gx_ds_ci h1
      have h8 : (z2.map fun v => v.category).sum ≤ 8 := by rw [gx_cats_ok h2]; exact y_ble.mp hc
      rcases hmx with hmx | ⟨q1, q2, q3, q4⟩
      · rw [h96] at hmx; cases hmx
      · refine va_mmax hx hb (by rw [hml]; exact hls.1.symm) hown (hts _ (yM_ok q1)) (hts _ (yM_ok q2)) (hts _ (yM_ok q3)) (hts _ (yM_ok q4)) hRf (by omega) hk hn hdg (kk ws H locs ls lv _ ⟨hh, hl, gx_ds_i ?_ h2, hls, hP, hK, hD, hS⟩)
        have e9 : gx_i x < gx_i y ↔ x < y := by rw [Int32.lt_iff_toInt_lt, gx_toInt hr1, gx_toInt hr2]
        by_cases h : x < y
        · rw [if_pos (e9.mpr h)]
          congr 1
          omega
        · rw [if_neg (fun z => h (e9.mp z))]
          congr 1
          omega
    | false =>
      rw [h96] at hs
      simp only [cond_false] at hs
      cases h97 : Nat.beq r3 97 with
      | false => rw [h97] at hs; cases hs
      | true =>
      rw [h97] at hs
      simp only [cond_true] at hs
      rcases st with _ | ⟨y | y, _ | ⟨x | x, r⟩⟩ <;> try (cases hs; done)
      replace hs : (bif Nat.ble (gx_cats r) 8 then some (some (gx_R x ∧ gx_R y), pc + 3, lo, gI (min x y) :: r, M) else none) = some (P, S') := hs
      cases hc : Nat.ble (gx_cats r) 8 with
      | false => rw [hc] at hs; cases hs
      | true =>
      rw [hc] at hs
      cases hs
      obtain ⟨hr1, hr2⟩ := hP0 _ rfl
      obtain ⟨z1, rfl, h1⟩ := gx_ds_ci hst
      obtain ⟨z2, rfl, h2⟩ := gx_ds_ci h1
      have h8 : (z2.map fun v => v.category).sum ≤ 8 := by rw [gx_cats_ok h2]; exact y_ble.mp hc
      rcases hmn with hmn | ⟨q1, q2, q3, q4⟩
      · rw [h97] at hmn; cases hmn
      · refine va_mmin hx hb (by rw [hml]; exact hls.1.symm) hown (hts _ (yM_ok q1)) (hts _ (yM_ok q2)) (hts _ (yM_ok q3)) (hts _ (yM_ok q4)) hRf (by omega) hk hn hdg (kk ws H locs ls lv _ ⟨hh, hl, gx_ds_i ?_ h2, hls, hP, hK, hD, hS⟩)
        have e9 : gx_i y < gx_i x ↔ y < x := by rw [Int32.lt_iff_toInt_lt, gx_toInt hr1, gx_toInt hr2]
        by_cases h : y < x
        · rw [if_pos (e9.mpr h)]
          congr 1
          omega
        · rw [if_neg (fun z => h (e9.mp z))]
          congr 1
          omega

end GXSTEP

section GXDISP
variable {p : Program} {l : Launch} {e : Env} {R : Room} {s : State} {m : MethodId} {args : Array Value} {below : List Frame} {meth : Method} {c : Code} {H : Heap} {locs : List Loc} {Q : State → Prop} {ls : Array Slot}
variable {κ : yK} {D : va_G} {A : Nat → Prop} {α : List Nat} {tys : List (ClassId × FieldType)} {ws : va_W} {lv : List (Nat × Value)} {sv : List Value} {lo st : List gx_V} {sh : List gx_C} {M : gx_M} {cc : ByteArray} {own yn : String} {nL : Nat} {t pc k n : Nat} {P : Option Prop} {S' : gx_S}

set_option maxHeartbeats 8000000 in
set_option maxRecDepth 100000 in
theorem gx_step_ok {o : yO} (C : y_ctx κ true p R s m args meth c cc own yn nL A) (hok : y_okop nL own yn cc (pc, o) = true) (hs : gx_st1 κ sh t pc o lo st M = some (P, S')) (hP0 : ∀ q, P = some q → q) (hk : k ≤ R.cells) (hn : n ≤ R.slots) (Z : gx_Z κ D A s nL α tys ws H locs ls lv sv sh lo st M)
    (kk : ∀ ws' H' locs' ls' lv' sv', gx_Z κ D A s nL α tys ws' H' locs' ls' lv' sv' sh S'.2.1 S'.2.2.1 S'.2.2.2 → W p l e R s m args below meth c H' locs' k n Q (F0 m S'.1 ls' sv')) : W p l e R s m args below meth c H locs k n Q (F0 m pc ls sv) := by
  obtain ⟨ins, nx, r1, r2, r3⟩ := o
  cases ins with
  | iconst _ => exact gx_st_iconst C hok hs hP0 hk hn Z kk
  | bipush _ => exact gx_st_bipush C hok hs hP0 hk hn Z kk
  | sipush _ => exact gx_st_sipush C hok hs hP0 hk hn Z kk
  | ldc _ => exact gx_st_ldc C hok hs hP0 hk hn Z kk
  | ldc_w _ => exact gx_st_ldcw C hok hs hP0 hk hn Z kk
  | lconst _ => exact gx_st_lconst C hok hs hP0 hk hn Z kk
  | ldc2_w _ => exact gx_st_ldc2 C hok hs hP0 hk hn Z kk
  | iload_n _ => exact gx_st_iloadn C hok hs hP0 hk hn Z kk
  | iload _ => exact gx_st_iload C hok hs hP0 hk hn Z kk
  | lload_n _ => exact gx_st_lloadn C hok hs hP0 hk hn Z kk
  | lload _ => exact gx_st_lload C hok hs hP0 hk hn Z kk
  | aload_n _ => exact gx_st_aloadn C hok hs hP0 hk hn Z kk
  | aload _ => exact gx_st_aload C hok hs hP0 hk hn Z kk
  | istore_n _ => exact gx_st_istoren C hok hs hP0 hk hn Z kk
  | istore _ => exact gx_st_istore C hok hs hP0 hk hn Z kk
  | lstore_n _ => exact gx_st_lstoren C hok hs hP0 hk hn Z kk
  | lstore _ => exact gx_st_lstore C hok hs hP0 hk hn Z kk
  | astore_n _ => exact gx_st_astoren C hok hs hP0 hk hn Z kk
  | astore _ => exact gx_st_astore C hok hs hP0 hk hn Z kk
  | iinc _ _ => exact gx_st_iinc C hok hs hP0 hk hn Z kk
  | iadd => exact gx_st_iadd C hok hs hP0 hk hn Z kk
  | isub => exact gx_st_isub C hok hs hP0 hk hn Z kk
  | imul => exact gx_st_imul C hok hs hP0 hk hn Z kk
  | iand => exact gx_st_iand C hok hs hP0 hk hn Z kk
  | ior => exact gx_st_ior C hok hs hP0 hk hn Z kk
  | ixor => exact gx_st_ixor C hok hs hP0 hk hn Z kk
  | ishl => exact gx_st_ishl C hok hs hP0 hk hn Z kk
  | ishr => exact gx_st_ishr C hok hs hP0 hk hn Z kk
  | iushr => exact gx_st_iushr C hok hs hP0 hk hn Z kk
  | idiv => exact gx_st_idiv C hok hs hP0 hk hn Z kk
  | irem => exact gx_st_irem C hok hs hP0 hk hn Z kk
  | ladd => exact gx_st_ladd C hok hs hP0 hk hn Z kk
  | lmul => exact gx_st_lmul C hok hs hP0 hk hn Z kk
  | land => exact gx_st_land C hok hs hP0 hk hn Z kk
  | lor => exact gx_st_lor C hok hs hP0 hk hn Z kk
  | lxor => exact gx_st_lxor C hok hs hP0 hk hn Z kk
  | ldiv => exact gx_st_ldiv C hok hs hP0 hk hn Z kk
  | lrem => exact gx_st_lrem C hok hs hP0 hk hn Z kk
  | lcmp => exact gx_st_lcmp C hok hs hP0 hk hn Z kk
  | lshl => exact gx_st_lshl C hok hs hP0 hk hn Z kk
  | lushr => exact gx_st_lushr C hok hs hP0 hk hn Z kk
  | i2l => exact gx_st_i2l C hok hs hP0 hk hn Z kk
  | l2i => exact gx_st_l2i C hok hs hP0 hk hn Z kk
  | dup => exact gx_st_dup C hok hs hP0 hk hn Z kk
  | pop => exact gx_st_pop C hok hs hP0 hk hn Z kk
  | dup2 => exact gx_st_dup2 C hok hs hP0 hk hn Z kk
  | dup_x2 => exact gx_st_dup_x2 C hok hs hP0 hk hn Z kk
  | goto _ => exact gx_st_goto C hok hs hP0 hk hn Z kk
  | ifCond _ _ => exact gx_st_if C hok hs hP0 hk hn Z kk
  | if_icmp _ _ => exact gx_st_icmp C hok hs hP0 hk hn Z kk
  | tableswitch _ _ _ _ => exact gx_st_tsw C hok hs hP0 hk hn Z kk
  | lookupswitch _ _ => exact gx_st_lsw C hok hs hP0 hk hn Z kk
  | getfield _ => exact gx_st_getf C hok hs hP0 hk hn Z kk
  | putfield _ => exact gx_st_putf C hok hs hP0 hk hn Z kk
  | iaload => exact gx_st_iald C hok hs hP0 hk hn Z kk
  | baload => exact gx_st_bald C hok hs hP0 hk hn Z kk
  | laload => exact gx_st_lald C hok hs hP0 hk hn Z kk
  | aaload => exact gx_st_aald C hok hs hP0 hk hn Z kk
  | iastore => exact gx_st_iast C hok hs hP0 hk hn Z kk
  | bastore => exact gx_st_bast C hok hs hP0 hk hn Z kk
  | lastore => exact gx_st_last C hok hs hP0 hk hn Z kk
  | arraylength => exact gx_st_alen C hok hs hP0 hk hn Z kk
  | invokestatic _ => exact gx_st_stat C hok hs hP0 hk hn Z kk
  | _ => cases hs

end GXDISP
end
section
/-- what a method answers from where it stands at a return, and what is asked -/
def gx_end (e : yE) (S : gx_S) : Option (Option Prop × Option gx_V) := match y_find e.2.2.2.2 S.1 with
  | none => none
  | some o => match o.1, S.2.2.1 with
    | .ireturn, [.inl a] => match e.2.2.2.1 with
      | some .int => some (none, some (gI a))
      | some .boolean => some (some (a = 0 ∨ a = 1), some (gI a))
      | _ => none
    | .lreturn, [.inr (.inl a)] => if e.2.2.2.1 = some .long then some (none, some (gJ a)) else none
    | .return_, [] => if e.2.2.2.1 = none then some (none, none) else none
    | _, _ => none
/-- from where method e stands it comes to a return, with an answer and cells that Q allows; d calls deep at most -/
def gx_G (l : Launch) (κ : yK) (sh : List gx_C) (mt : List yE) (e : yE) (d : Nat) (S : gx_S) (Q : Option gx_V → gx_M → Prop) : Prop :=
  y_okb mt e = true → ∀ {p : Program} {en : Env} {R : Room} {s : State} {m : MethodId} {args : Array Value} {below : List Frame} {meth : Method} {c : Code} {H : Heap} {locs : List Loc} {Qs : State → Prop} {ls : Array Slot} {D : va_G} {A : Nat → Prop} {α : List Nat} {tys : List (ClassId × FieldType)} {ws : va_W} {lv : List (Nat × Value)} {sv : List Value} {k n : Nat},
    y_ctx κ true p R s m args meth c e.2.1 e.1.cls e.1.name e.2.2.1 A → d + 1 ≤ R.frames → 60 * (d + 1) ≤ R.locals → k ≤ R.cells → n ≤ R.slots →
    gx_Z κ D A s e.2.2.1 α tys ws H locs ls lv sv sh S.2.1 S.2.2.1 S.2.2.2 →
    (∀ (S' : gx_S) (P : Option Prop) (rv : Option gx_V), gx_end e S' = some (P, rv) → (∀ q, P = some q → q) → Q rv S'.2.2.2 → ∀ ws' H' locs' ls' lv' sv', gx_Z κ D A s e.2.2.1 α tys ws' H' locs' ls' lv' sv' sh S'.2.1 S'.2.2.1 S'.2.2.2 → W p l en R s m args below meth c H' locs' k n Qs (F0 m S'.1 ls' sv')) →
    W p l en R s m args below meth c H locs k n Qs (F0 m S.1 ls sv)
def gx_hd : List Nat → Nat
  | [] => 0
  | b :: _ => b
def gx_isB (o : yO) : Bool := match o.1 with
  | .ifCond _ _ => true
  | .if_icmp _ _ => true
  | .aaload => true
  | _ => false
def gx_cs (P : Option Prop) (Ps : List Prop) : List Prop := match P with
  | none => Ps
  | some q => q :: Ps
def gx_all : List Prop → Prop
  | [] => True
  | p :: r => p ∧ gx_all r
/-- f instructions, with the branches told: what they ask, and where they lead -/
def gx_run (κ : yK) (sh : List gx_C) (ps : List (Nat × yO)) : Nat → List Nat → Nat → List gx_V → List gx_V → gx_M → Option (List Prop × gx_S)
  | 0, _, pc, lo, st, M => some ([], pc, lo, st, M)
  | f + 1, ts, pc, lo, st, M => match y_find ps pc with
    | none => none
    | some o => bif !(y_isRet o) && Nat.beq (y_kind o) 0 then (match gx_st1 κ sh (gx_hd ts) pc o lo st M with
      | none => none
      | some (P, S') => match gx_run κ sh ps f (bif gx_isB o then ts.tail else ts) S'.1 S'.2.1 S'.2.2.1 S'.2.2.2 with
        | none => none
        | some (Ps, S'') => some (gx_cs P Ps, S'')) else none
section GXG
variable {l : Launch} {κ : yK} {sh : List gx_C} {mt : List yE} {e : yE} {d pc : Nat} {lo st : List gx_V} {M : gx_M} {S : gx_S} {Q : Option gx_V → gx_M → Prop}
theorem gx_mono {Q' : Option gx_V → gx_M → Prop} {d' : Nat} (h : gx_G l κ sh mt e d S Q) (hd : d ≤ d') (hq : ∀ rv M', Q rv M' → Q' rv M') : gx_G l κ sh mt e d' S Q' :=
  fun he _ _ _ _ _ _ _ _ _ _ _ _ _ _ _ _ _ _ _ _ _ _ C h1 h2 h3 h4 Z kk => h he C (by omega) (by omega) h3 h4 Z (fun S' P rv a b c => kk S' P rv a b (hq rv _ c))
theorem gx_fgt {lo' : List gx_V} (hl : gx_le lo' lo) (h : gx_G l κ sh mt e d (pc, lo', st, M) Q) : gx_G l κ sh mt e d (pc, lo, st, M) Q :=
  fun he _ _ _ _ _ _ _ _ _ _ _ _ _ _ _ _ _ _ _ _ _ _ C h1 h2 h3 h4 Z kk => h he C h1 h2 h3 h4 ⟨Z.1, gx_dl_le Z.2.1 hl, Z.2.2⟩ kk
theorem gx_ret {P : Option Prop} {rv : Option gx_V} (h : gx_end e S = some (P, rv)) (hp : ∀ q, P = some q → q) (hq : Q rv S.2.2.2) : gx_G l κ sh mt e d S Q :=
  fun he _ _ _ _ _ _ _ _ _ _ _ _ _ _ _ _ _ _ _ _ _ _ C h1 h2 h3 h4 Z kk => kk S P rv h hp hq _ _ _ _ _ _ Z
theorem gx_one {t : Nat} {o : yO} {P : Option Prop} {S' : gx_S} (hf : y_find e.2.2.2.2 pc = some o) (hs : gx_st1 κ sh t pc o lo st M = some (P, S')) (hp : ∀ q, P = some q → q) (h : gx_G l κ sh mt e d S' Q) : gx_G l κ sh mt e d (pc, lo, st, M) Q := by
  intro he p en R s m args below meth c H locs Qs ls D A α tys ws lv sv k n C h1 h2 h3 h4 Z kk
  have he5 := he
  unfold y_okb at he5
  have hmem := List.all_eq_true.mp he5 _ (y_find_mem hf)
  simp only [Bool.and_eq_true] at hmem
  exact gx_step_ok C hmem.1 hs hp h3 h4 Z (fun ws' H' locs' ls' lv' sv' Z' => h he C h1 h2 h3 h4 Z' kk)
theorem gx_run_ok : ∀ (f : Nat) (ts : List Nat) (pc : Nat) (lo st : List gx_V) (M : gx_M) (Ps : List Prop) (S' : gx_S), gx_run κ sh e.2.2.2.2 f ts pc lo st M = some (Ps, S') → gx_all Ps → gx_G l κ sh mt e d S' Q → gx_G l κ sh mt e d (pc, lo, st, M) Q := by
  intro f
  induction f with
  | zero =>
    intro ts pc lo st M Ps S' hr hp h
    cases hr
    exact h
  | succ f ih =>
    intro ts pc lo st M Ps S' hr hp h
    unfold gx_run at hr
    cases hf : y_find e.2.2.2.2 pc with
    | none => rw [hf] at hr; cases hr
    | some o =>
      rw [hf] at hr
      dsimp only at hr
      cases hc : (!(y_isRet o) && Nat.beq (y_kind o) 0) with
      | false => rw [hc] at hr; cases hr
      | true =>
        rw [hc] at hr
        simp only [cond_true] at hr
        cases hs : gx_st1 κ sh (gx_hd ts) pc o lo st M with
        | none => rw [hs] at hr; cases hr
        | some q =>
          obtain ⟨P, S1⟩ := q
          rw [hs] at hr
          dsimp only at hr
          cases hr2 : gx_run κ sh e.2.2.2.2 f (bif gx_isB o then ts.tail else ts) S1.1 S1.2.1 S1.2.2.1 S1.2.2.2 with
          | none => rw [hr2] at hr; cases hr
          | some q2 =>
            obtain ⟨Ps2, S2⟩ := q2
            rw [hr2] at hr
            cases hr
            refine gx_one hf hs ?_ (ih _ _ _ _ _ Ps2 _ hr2 ?_ h)
            · intro q hq
              subst hq
              exact hp.1
            · cases P with
              | none => exact hp
              | some q => exact hp.2
theorem gx_seg (f : Nat) (ts : List Nat) {Ps : List Prop} {S' : gx_S} (hr : gx_run κ sh e.2.2.2.2 f ts pc lo st M = some (Ps, S')) (hp : gx_all Ps) (h : gx_G l κ sh mt e d S' Q) : gx_G l κ sh mt e d (pc, lo, st, M) Q := gx_run_ok f ts pc lo st M Ps S' hr hp h
end GXG
/-- a method, called -/
def gx_X (l : Launch) (κ : yK) (sh : List gx_C) (mt : List yE) (e : yE) (d : Nat) (av : List gx_V) (M : gx_M) (Q : Option gx_V → gx_M → Prop) : Prop :=
  gx_G l κ sh mt e d (0, gx_ar av ++ List.replicate (e.2.2.1 - gx_cats av) gU, [], M) Q
-- calls
def gx_dr (κ : yK) (α : List Nat) : Option gx_V → Option Value → Prop
  | none, v => v = none
  | some u, v => ∃ x, v = some x ∧ gx_d κ α u = some x
def gx_Q (κ : yK) (D : va_G) (sh : List gx_C) (α : List Nat) (tys : List (ClassId × FieldType)) (A : Nat → Prop) (Q : Option gx_V → gx_M → Prop) : Array Value → State → Outcome → State → Prop := fun _ st oc t =>
  (∃ (v : Option Value) (rv : Option gx_V) (M' : gx_M) (ws' : va_W), oc = .returned v ∧ gx_dr κ α rv v ∧ Q rv M' ∧ gx_h κ α tys sh M' ws' ∧ va_P D vwCl ws' t.heap ∧ va_K D vwCl tys t ∧ va_D A ws') ∧ va_F A st t
def gx_Pc (κ : yK) (D : va_G) (tys : List (ClassId × FieldType)) (ws : va_W) (sz : Nat) : State → Prop := fun U =>
  U.heap.size = sz ∧ va_P D vwCl ws U.heap ∧ va_K D vwCl tys U ∧ va_D (fun _ => True) ws ∧ y_aux U ∧ va_X κ.2.2.1 κ.2.2.2 κ.1 U U.heap ∧ κ.2.2.1 < sz ∧ ¬ va_A ws sz κ.2.2.1
theorem gx_blind (κ : yK) (D : va_G) (tys : List (ClassId × FieldType)) (ws : va_W) (sz : Nat) (vals : List Value) : FrameBlind (va_Pc vals (gx_Pc κ D tys ws sz)) := fun a U g mk q => by
  obtain ⟨q0, q1, qP, qK, qD, qA, qX, qB⟩ := q
  exact ⟨q0, q1, qP, va_K.moved (u := U) (U := U.calling g mk a) (Vm.Alike.refl U.vm) qK, qD, y_aux_call qA, va_X.moved (u := U) (U := U.calling g mk a) (Vm.Alike.refl U.vm) qX, qB⟩
set_option maxHeartbeats 4000000 in
set_option maxRecDepth 100000 in
/-- a method's contract -/
theorem gx_met {l : Launch} {κ : yK} {sh : List gx_C} {mt : List yE} {D : va_G} {e : yE} {d : Nat} {av : List gx_V} {M : gx_M} {Q : Option gx_V → gx_M → Prop} (he : y_ok mt e = true) (hX : gx_X l κ sh mt e d av M Q) (hav : gx_cats av ≤ e.2.2.1)
    {α : List Nat} {tys : List (ClassId × FieldType)} {ws : va_W} {vals : List Value} (sz : Nat) (hh : gx_h κ α tys sh M ws) (hvals : gx_ds κ α av vals) :
    Met l e.1 (y_ws e) (y_rm d 0 0) (va_Pc vals (gx_Pc κ D tys ws sz)) (gx_Q κ D sh α tys (va_A ws sz) Q) 0 0 (va_A ws sz) := by
  unfold y_ok at he
  simp only [Bool.and_eq_true, decide_eq_true_eq] at he
  obtain ⟨e1, e2, e3, e4, e5⟩ := he
  refine Met.ofW (cc := e.2.1) (maxL := e.2.2.1) (ret := e.2.2.2.1) e2 rfl ?_
  intro p en s m args below meth c s₁ B hml hv
  obtain ⟨rfl, hsz, hP, hK, hD0, hAO, hXs, hbl, hbA⟩ := hv
  have hx := B.exec
  have hb := B.bytes
  have hr := B.returns
  have hts := atoms_spec (ws := y_ws e) B.pre
  have hts : ∀ w ∈ yCT, w.before _ s = true := fun w h => hts w (List.mem_cons_of_mem _ h)
  have hown : s.vm.findClass e.1.cls = some m.cls := findClass_of_methodNamed B.named
  have hlocks := B.notSynchronized
  have hin : meth.name = e.1.name := (name_of_methodNamed B.named B.method).1
  subst hsz
  have hD := hD0.self (sz := s.heap.size)
  have hA : ∀ q : Nat, s.heap.size ≤ q → va_A ws s.heap.size q := fun q h => Or.inr h
  have hS : va_S (va_A ws s.heap.size) s.heap s.heap [] := va_S.rf
  have hl := lv_entry vals (n := e.2.2.1) (by rw [gx_sl_len hvals]; exact hav)
  rw [lg_entry_eq]
  generalize (lg_sl vals ++ List.replicate (e.2.2.1 - (lg_sl vals).length) Slot.unset).toArray = ls at hl ⊢
  have C : y_ctx κ true p (y_rm d 0 0) s m vals.toArray meth c e.2.1 e.1.cls e.1.name e.2.2.1 (va_A ws s.heap.size) :=
    ⟨hx, hb, hml, hown, hts, fun h => hin.trans h, hAO, hA, by show 1 ≤ d + 1; omega, by show 60 ≤ 60 * (d + 1); omega, fun _ => ⟨hXs, hbl, hbA⟩⟩
  refine hX e5 C (Nat.le_refl _) (Nat.le_refl _) (Nat.le_refl _) (Nat.le_refl _) ⟨hh, ?_, gx_ds_0, hl, hP, hK, hD, hS⟩ ?_
  · intro j v hj hv
    obtain ⟨x, hx1, hx2⟩ := gx_dl_args (e.2.2.1 - gx_cats av) 0 hvals j v hj hv
    rw [Nat.zero_add] at hx1
    exact ⟨x, hx1, hx2⟩
  intro S' P rv hend hPq hQ ws' H' locs' ls' lv' sv' ⟨hh', hl', hst', hls', hP', hK', hD', hS'⟩
  obtain ⟨pc', lo', st', M'⟩ := S'
  dsimp only at *
  unfold gx_end at hend
  dsimp only at hend
  cases hf : y_find e.2.2.2.2 pc' with
  | none => rw [hf] at hend; cases hend
  | some o =>
    rw [hf] at hend
    have hmem := List.all_eq_true.mp e5 _ (y_find_mem hf)
    simp only [Bool.and_eq_true] at hmem
    have hop := hmem.1
    obtain ⟨ins, nx, r1, r2, r3⟩ := o
    unfold y_okop y_okin at hop
    simp only [Bool.and_eq_true, decide_eq_true_eq] at hop
    obtain ⟨hdg, hin2⟩ := hop
    have fin : ∀ (v : Option Value), gx_dr κ α rv v → ∀ t : State, t.heap = H' → s.WarmedH t.vm → gx_Q κ D sh α tys (va_A ws s.heap.size) Q vals.toArray s (.returned v) t := fun v hv t ht hW =>
      ⟨⟨v, rv, M', ws', rfl, hv, hQ, hh', by rw [ht]; exact hP', va_K.moved hW.alike hK', hD'⟩, hS'.F ht⟩
    dsimp only at hend hdg hin2
    split at hend
    · next a =>
      have hin3 := of_decide_eq_true hin2
      subst hin3
      rw [Nat.add_sub_cancel_left] at hdg
      obtain ⟨ys, rfl, h2⟩ := gx_ds_ci hst'
      rw [gx_ds_nil h2]
      split at hend
      · next hret =>
        cases hend
        exact W.iret hx hb (hr.trans hret) (fun t ht hW => fin _ ⟨_, rfl, rfl⟩ t ht hW) hS'.2.2 hdg
      · next hret =>
        cases hend
        exact W.zret hx hb (hr.trans hret) (gx_bool_fit (hPq _ rfl)).1 (fun t ht hW => fin _ ⟨_, rfl, rfl⟩ t ht hW) hS'.2.2 hdg
      · cases hend
    · next a =>
      have hin3 := of_decide_eq_true hin2
      subst hin3
      rw [Nat.add_sub_cancel_left] at hdg
      obtain ⟨ys, rfl, h2⟩ := gx_ds_cl hst'
      rw [gx_ds_nil h2]
      split at hend
      · next hret =>
        cases hend
        exact W.lret hx hb (hr.trans hret) (fun t ht hW => fin _ ⟨_, rfl, rfl⟩ t ht hW) hS'.2.2 hdg
      · cases hend
    · next =>
      have hin3 := of_decide_eq_true hin2
      subst hin3
      rw [Nat.add_sub_cancel_left] at hdg
      rw [gx_ds_nil hst']
      split at hend
      · next hret =>
        cases hend
        exact W.vret hx hb (hr.trans hret) (fun t ht hW => fin _ rfl t ht hW) hS'.2.2 hdg
      · cases hend
    · cases hend
/-- one answer, and one state of the cells -/
def gx_eq (rv : Option gx_V) (M : gx_M) : Option gx_V → gx_M → Prop := fun rv' M' => rv' = rv ∧ M' = M
theorem gx_ac {p : Prop} {r : List Prop} (h : p) (h2 : gx_all r) : gx_all (p :: r) := ⟨h, h2⟩
theorem gx_an : gx_all [] := trivial
section GXC
variable {p : Program} {l : Launch} {en : Env} {R : Room} {s : State} {m : MethodId} {args : Array Value} {below : List Frame} {meth : Method} {c : Code} {H : Heap} {locs : List Loc} {Q : State → Prop} {ls : Array Slot}
variable {κ : yK} {D : va_G} {A : Nat → Prop} {α : List Nat} {tys : List (ClassId × FieldType)} {ws : va_W} {sh : List gx_C}
theorem gx_callW {cells slots pc : Nat} {st0 rest : List Value} {a : Array Value} {Qc : Option gx_V → gx_M → Prop}
    (hr : va_Run p l en R s m args below meth c H locs cells slots 0 0 (F0 m pc ls st0) rest (gx_Q κ D sh α tys (va_A ws H.size) Qc a) (va_A ws H.size)) (hS : va_S A s.heap H locs) (hA : ∀ q, va_A ws H.size q → A q)
    (kk : ∀ (v : Option Value) (rv : Option gx_V) (M' : gx_M) (ws' : va_W) (H1 : Heap) (locs1 : List Loc), gx_dr κ α rv v → Qc rv M' → gx_h κ α tys sh M' ws' → va_P D vwCl ws' H1 → va_K D vwCl tys s → va_D A ws' → va_S A s.heap H1 locs1 →
      W p l en R s m args below meth c H1 locs1 cells slots Q (F0 m (pc + 3) ls (v.toList ++ rest))) : W p l en R s m args below meth c H locs cells slots Q (F0 m pc ls st0) := by
  intro T hT X
  obtain ⟨v, st₀, t, T', L, h0, X', hL, e1, e2, ⟨⟨v', rv, M', ws', hv, hdr, hq, hh, hP, hK, hD⟩, hz, hk⟩, st⟩ := hr T hT X
  cases hv
  rw [h0] at hz hk
  have hvm : s.vm.Alike t.vm := by rw [← e2]; exact X'.warmed.alike
  obtain ⟨t2, a1, b1⟩ := kk v rv M' ws' T'.heap (locs ++ L) hdr hq hh (by rw [e1]; exact hP) (va_K.moved hvm.symm hK) (hD.weaken fun k q _ hq => hA q.1 (by rw [h0] at *; exact hq))
    ⟨Nat.le_trans hS.1 (by rw [e1]; exact hz), fun q h1 h2 => by rw [e1, hk q (Nat.lt_of_lt_of_le h1 hS.1) (fun z => h2 (hA q z))]; exact hS.2.1 q h1 h2, fun q hq => by
      rcases List.mem_append.mp hq with h | h
      · exact hS.2.2 q h
      · exact hA _ (hL q h)⟩ T' rfl X'
  exact ⟨t2, st t2 a1, b1⟩
end GXC
/-- what the callee is given, and what stays on the stack -/
def gx_split (kd na ci : Nat) (sh : List gx_C) (st : List gx_V) : Option (List gx_V × List gx_V) :=
  bif Nat.beq kd 2 then (bif Nat.ble na st.length then some ((st.take na).reverse, st.drop na) else none) else bif Nat.beq kd 1 then (match st.drop na with
    | .inr (.inr (some (i + 1))) :: r => match gx_at sh i with
      | some (.inl (cj, _)) => bif Nat.beq cj ci then some (.inr (.inr (some (i + 1))) :: (st.take na).reverse, r) else none
      | _ => none
    | _ => none) else none
def gx_psh : Option gx_V → List gx_V → List gx_V
  | none, r => r
  | some v, r => v :: r
set_option maxHeartbeats 8000000 in
set_option maxRecDepth 100000 in
theorem gx_call {l : Launch} {κ : yK} {sh : List gx_C} {mt : List yE} (hmt : ∀ e ∈ mt, y_ok mt e = true) {e e' : yE} {d d' pc : Nat} {lo st av rest : List gx_V} {M : gx_M} {Q Qc : Option gx_V → gx_M → Prop} {o : yO}
    (hf : y_find e.2.2.2.2 pc = some o) (hm : mt[o.2.2.1]? = some e') (hsp : gx_split (y_kind o) o.2.2.2.1 o.2.2.2.2 sh st = some (av, rest)) (hc : (Nat.ble (gx_cats rest) 8 && Nat.ble (gx_cats av) e'.2.2.1) = true)
    (hX : gx_X l κ sh mt e' d' av M Qc) (hd : d' + 1 ≤ d) (h : ∀ rv M', Qc rv M' → gx_G l κ sh mt e d (o.2.1, lo, gx_psh rv rest, M') Q) : gx_G l κ sh mt e d (pc, lo, st, M) Q := by
  intro he p en R s m args below meth c H locs Qs ls D A α tys ws lv sv k n C h1 h2 h3 h4 Z kk
  have he5 := he
  unfold y_okb at he5
  have hmem := List.all_eq_true.mp he5 _ (y_find_mem hf)
  simp only [Bool.and_eq_true] at hmem
  obtain ⟨hop, hoc⟩ := hmem
  simp only [Bool.and_eq_true] at hc
  have hc8 := y_ble.mp hc.1
  have hcav := y_ble.mp hc.2
  have C0 := C
  obtain ⟨hx, hb, hml, hown, hts, hyn, hAO, hA, hRf, hRl, hsc⟩ := C
  obtain ⟨hh, hl, hst, hls, hP, hK, hD, hS⟩ := Z
  have hst : gx_ds κ α st sv := hst
  obtain ⟨hXs, hbl, hbA⟩ := hsc rfl
  have he' := hmt e' (List.mem_of_getElem? hm)
  have he'' := he'
  unfold y_ok at he''
  simp only [Bool.and_eq_true, decide_eq_true_eq] at he''
  obtain ⟨f1, f2, f3, f4, f5⟩ := he''
  have f4 := y_ble.mp f4
  have hAA : ∀ q, va_A ws H.size q → A q := by
    intro q hq
    rcases hq with ⟨k, e0, hk⟩ | hq
    · exact hD.2 k (q, e0) hk
    · exact hA q (Nat.le_trans hS.1 hq)
  have hR : (y_rm d' 0 0).frames + 1 ≤ R.frames ∧ 8 + (e'.2.2.1 + 11) + (y_rm d' 0 0).locals ≤ R.locals := by
    refine ⟨by show d' + 1 + 1 ≤ R.frames; omega, ?_⟩
    show 8 + (e'.2.2.1 + 11) + 60 * (d' + 1) ≤ R.locals
    omega
  have hpre : ∀ vals : List Value, ∀ U : State, U.heap = H → s.WarmedH U.vm → va_Pc vals (gx_Pc κ D tys ws H.size) vals.toArray U := fun vals U hU hW => ⟨rfl, by rw [hU], by rw [hU]; exact hP, va_K.moved hW.alike hK, hD.weaken (fun _ _ _ _ => trivial), y_aux_warm hW hAO, va_X.moved hW.alike (by rw [hU]; exact va_X.kept hXs (hS.2.1 _ hbl hbA)), Nat.lt_of_lt_of_le hbl hS.1, fun z => hbA (hAA _ z)⟩
  have go : ∀ (v : Option Value) (ys : List Value), gx_ds κ α rest ys → ∀ (rv : Option gx_V) (M' : gx_M) (ws' : va_W) (H1 : Heap) (locs1 : List Loc), gx_dr κ α rv v → Qc rv M' → gx_h κ α tys sh M' ws' → va_P D vwCl ws' H1 → va_K D vwCl tys s → va_D A ws' → va_S A s.heap H1 locs1 →
      W p l en R s m args below meth c H1 locs1 k n Qs (F0 m o.2.1 ls (v.toList ++ ys)) := by
    intro v ys hys rv M' ws' H1 locs1 hdr hq hh1 hP1 hK1 hD1 hS1
    refine h rv M' hq he C0 h1 h2 h3 h4 ⟨hh1, hl, ?_, hls, hP1, hK1, hD1, hS1⟩ kk
    cases rv with
    | none =>
      have e9 : v = none := hdr
      subst e9
      exact hys
    | some u =>
      obtain ⟨x, rfl, hx2⟩ := hdr
      exact gx_ds_mk hx2 hys
  obtain ⟨ins, nx, q1, q2, q3⟩ := o
  dsimp only at hm hsp go h
  unfold y_okop y_okin at hop
  simp only [Bool.and_eq_true, decide_eq_true_eq] at hop
  obtain ⟨hdg, hin2⟩ := hop
  try dsimp only at hdg hin2
  cases ins with
  | invokevirtual i =>
    have hin3 := of_decide_eq_true hin2
    subst hin3
    rw [Nat.add_sub_cancel_left] at hdg
    replace hsp : (match st.drop q2 with
      | .inr (.inr (some (i + 1))) :: r => match gx_at sh i with
        | some (.inl (cj, _)) => bif Nat.beq cj q3 then some (.inr (.inr (some (i + 1))) :: (st.take q2).reverse, r) else none
        | _ => none
      | _ => none) = some (av, rest) := hsp
    obtain ⟨j, fs, hd1, hd2, rfl⟩ : ∃ (i : Nat) (fs : List (Option Nat)), st.drop q2 = .inr (.inr (some (i + 1))) :: rest ∧ gx_at sh i = some (.inl (q3, fs)) ∧ av = .inr (.inr (some (i + 1))) :: (st.take q2).reverse := by
      split at hsp
      · next i r hd =>
        split at hsp
        · next cj fs hg =>
          cases hc9 : Nat.beq cj q3 with
          | false => rw [hc9] at hsp; cases hsp
          | true =>
            rw [hc9] at hsp
            cases hsp
            have e := y_beq.mp hc9
            subst e
            exact ⟨i, fs, hd, hg, rfl⟩
        · cases hsp
      · cases hsp
    have hdrop := gx_ds_drop q2 hst
    rw [hd1] at hdrop
    obtain ⟨b, ys, hd3, hb1, hys⟩ := gx_ds_cr hdrop
    obtain ⟨b', e9, g1, g2, vs, g3, rfl⟩ := hh.2.2 j _ (gx_at_ok hd2)
    have e10 : b' = b := Option.some.inj (g1.symm.trans hb1)
    subst e10
    unfold y_okc at hoc
    dsimp only at hoc
    rw [hm] at hoc
    simp only [Bool.and_eq_true, decide_eq_true_eq] at hoc
    obtain ⟨w1, w2, w3, w4, w5, w6⟩ := hoc
    cases hr : vwCl[q3]? with
    | none => rw [hr] at w6; cases w6
    | some rr =>
    rw [hr] at w6
    have w6 := of_decide_eq_true w6
    have hvals : gx_ds κ α (.inr (.inr (some (j + 1))) :: (st.take q2).reverse) (.ref b' :: (sv.take q2).reverse) := gx_ds_r hb1 (gx_ds_rev (gx_ds_take q2 hst))
    have hM := gx_met (D := D) he' hX hcav H.size hh hvals
    have hlen : (sv.take q2).length = q2 := by
      rw [List.length_take]
      have h9 : (sv.drop q2).length = (Value.ref b' :: ys).length := by rw [hd3]
      rw [List.length_drop, List.length_cons] at h9
      omega
    have hstk : sv = (sv.take q2).reverse.reverse ++ .ref b' :: ys := by
      rw [List.reverse_reverse, ← hd3, List.take_append_drop]
    have hrecv := va_recv hK hP hr g2
    rw [w6] at hrecv
    refine gx_callW (va_runV (As := (sv.take q2).reverse) (rest := ys) ⟨hx, hb, hml, hown, hts⟩ hM (cwV q2 hts (y_good4 f1 w1 w2 w3 w4) rfl rfl rfl ⟨rfl, f3.1, f3.2, w5⟩ hR) ⟨gx_blind κ D tys ws H.size _, hrecv, hpre _⟩ rfl (by rw [List.length_reverse]; exact hlen) hls.1 hstk (lv_room (by rw [gx_cats_ok hys]; exact hc8)) hdg ⟨by omega, by omega⟩) hS hAA (fun v rv M' ws' H1 locs1 a1 a2 a3 a4 a5 a6 a7 => go v ys hys rv M' ws' H1 locs1 a1 a2 a3 a4 a5 a6 a7)
  | invokestatic i =>
    have h98 : y_nat q3 = false := by
      cases h98 : y_nat q3 with
      | false => rfl
      | true =>
        have hk2 : y_kind (.invokestatic i, nx, q1, q2, q3) = 0 := by
          show (bif y_nat q3 then 0 else 2) = 0
          rw [h98]
          rfl
        rw [hk2] at hsp
        cases hsp
    have hk2 : y_kind (.invokestatic i, nx, q1, q2, q3) = 2 := by
      show (bif y_nat q3 then 0 else 2) = 2
      rw [h98]
      rfl
    rw [hk2] at hsp
    simp only [Bool.and_eq_true] at hin2
    have hin3 := of_decide_eq_true hin2.1
    subst hin3
    rw [Nat.add_sub_cancel_left] at hdg
    replace hsp : (bif Nat.ble q2 st.length then some ((st.take q2).reverse, st.drop q2) else none) = some (av, rest) := hsp
    cases hlb : Nat.ble q2 st.length with
    | false => rw [hlb] at hsp; cases hsp
    | true =>
    rw [hlb] at hsp
    cases hsp
    have hlen0 := y_ble.mp hlb
    unfold y_okc at hoc
    dsimp only at hoc
    rw [h98, hm] at hoc
    simp only [cond_false, Bool.and_eq_true, decide_eq_true_eq] at hoc
    obtain ⟨w1, w2, w3, w5⟩ := hoc
    have hvals := gx_ds_rev (gx_ds_take q2 hst)
    have hM := gx_met (D := D) he' hX hcav H.size hh hvals
    have hlen : (sv.take q2).length = q2 := by
      rw [List.length_take, ← gx_ds_len hst]
      omega
    have hstk : sv = (sv.take q2).reverse.reverse ++ sv.drop q2 := by
      rw [List.reverse_reverse, List.take_append_drop]
    have hys := gx_ds_drop q2 hst
    refine gx_callW (va_runS (As := (sv.take q2).reverse) (rest := sv.drop q2) ⟨hx, hb, hml, hown, hts⟩ hM (va_cwS q2 hts (y_good3 f1 w1 w2 w3) rfl rfl rfl ⟨f3.1, f3.2, w5⟩ hR) ⟨gx_blind κ D tys ws H.size _, hpre _⟩ rfl (by rw [List.length_reverse]; exact hlen) hls.1 hstk (lv_room (by rw [gx_cats_ok hys]; exact hc8)) hdg ⟨by omega, by omega⟩) hS hAA (fun v rv M' ws' H1 locs1 a1 a2 a3 a4 a5 a6 a7 => go v _ hys rv M' ws' H1 locs1 a1 a2 a3 a4 a5 a6 a7)
  | invokespecial i =>
    have hk : y_kind (.invokespecial i, nx, q1, q2, q3) = 0 ∨ y_kind (.invokespecial i, nx, q1, q2, q3) = 3 := by
      show (bif Nat.beq q3 99 then 0 else 3) = 0 ∨ (bif Nat.beq q3 99 then 0 else 3) = 3
      cases Nat.beq q3 99 with
      | true => exact Or.inl rfl
      | false => exact Or.inr rfl
    rcases hk with hk | hk <;> rw [hk] at hsp <;> cases hsp
  | _ => cases hsp
theorem gx_lk {a : gx_V} {l r : List gx_V} (h : gx_le l r) : gx_le (a :: l) (a :: r) := ⟨Or.inr rfl, h⟩
theorem gx_lu {a : gx_V} {l r : List gx_V} (h : gx_le l r) : gx_le (gU :: l) (a :: r) := ⟨Or.inl rfl, h⟩
theorem gx_ln : gx_le [] [] := trivial
theorem gx_call1 {l : Launch} {κ : yK} {sh : List gx_C} {mt : List yE} (hmt : ∀ e ∈ mt, y_ok mt e = true) {e e' : yE} {d d' pc : Nat} {lo st av rest : List gx_V} {M M1 : gx_M} {Q : Option gx_V → gx_M → Prop} {rv : Option gx_V} {o : yO}
    (hf : y_find e.2.2.2.2 pc = some o) (hm : mt[o.2.2.1]? = some e') (hsp : gx_split (y_kind o) o.2.2.2.1 o.2.2.2.2 sh st = some (av, rest)) (hc : (Nat.ble (gx_cats rest) 8 && Nat.ble (gx_cats av) e'.2.2.1) = true)
    (hX : gx_X l κ sh mt e' d' av M (gx_eq rv M1)) (hd : d' + 1 ≤ d) (h : gx_G l κ sh mt e d (o.2.1, lo, gx_psh rv rest, M1) Q) : gx_G l κ sh mt e d (pc, lo, st, M) Q :=
  gx_call hmt hf hm hsp hc hX hd (fun rv' M' hh => by rw [hh.1, hh.2]; exact h)
end
section
/-! ===== lN n to 2^64: shifts, and, or, masks, one bit ===== -/
theorem wb_tb (n : Nat) : (lN n).toBitVec = BitVec.ofNat 64 n := rfl
theorem wb_inj {a b : Int64} (h : a.toBitVec = b.toBitVec) : a = b := Int64.toBitVec_inj.mp h
theorem wb_tn {n : Nat} (h : n < 2 ^ 64) : (lN n).toBitVec.toNat = n := by rw [wb_tb, BitVec.toNat_ofNat, Nat.mod_eq_of_lt h]
theorem wb_of (x : Int64) : ∃ n, n < 2 ^ 64 ∧ x = lN n := ⟨x.toBitVec.toNat, x.toBitVec.isLt, wb_inj (by rw [wb_tb]; simp)⟩
theorem wb_of32 (x : Int32) : ∃ n, n < 2 ^ 32 ∧ x = nI n := ⟨x.toBitVec.toNat, x.toBitVec.isLt, Int32.toBitVec_inj.mp (by show _ = BitVec.ofNat 32 _; simp)⟩
theorem wb_c : ∀ k, k < 64 → ((nI k).toInt64 &&& 63) = lN k := by decide +kernel
theorem wb_cu : ∀ k, k < 64 → ((nI k).toInt64.toUInt64 &&& Int64.toUInt64 63) = UInt64.ofNat k := by decide +kernel
theorem wb_sm : ∀ k, k < 64 → (BitVec.ofNat 64 k).smod 64 = BitVec.ofNat 64 k := by decide +kernel
theorem wb_pw {a b : Nat} (h : a ≤ b) : 2 ^ b = 2 ^ a * 2 ^ (b - a) := by rw [← Nat.pow_add]; congr 1; omega
theorem wb_lt2 {a b : Nat} (h : a < b) : 2 ^ a < 2 ^ b := Nat.pow_lt_pow_right (by decide) h
theorem wb_mod (n : Nat) : lN n = lN (n % 2 ^ 64) := wb_inj (by rw [wb_tb, wb_tb]; apply BitVec.eq_of_toNat_eq; rw [BitVec.toNat_ofNat, BitVec.toNat_ofNat, Nat.mod_mod])
theorem wb_shr {n k : Nat} (hn : n < 2 ^ 64) (hk : k < 64) : ((lN n).toUInt64 >>> ((nI k).toInt64.toUInt64 &&& Int64.toUInt64 63)).toInt64 = lN (n / 2 ^ k) := by
  rw [wb_cu k hk]
  apply wb_inj
  apply BitVec.eq_of_toNat_eq
  show ((lN n).toUInt64 >>> UInt64.ofNat k).toNat = (BitVec.ofNat 64 _).toNat
  have h1 : (UInt64.ofNat k).toNat = k := by
    show (BitVec.ofNat 64 k).toNat = k
    rw [BitVec.toNat_ofNat, Nat.mod_eq_of_lt (by omega)]
  have h2 : (lN n).toUInt64.toNat = n := wb_tn hn
  rw [UInt64.toNat_shiftRight, h1, h2, Nat.mod_eq_of_lt hk, Nat.shiftRight_eq_div_pow, BitVec.toNat_ofNat, Nat.mod_eq_of_lt (Nat.lt_of_le_of_lt (Nat.div_le_self _ _) hn)]
theorem wb_shl (n : Nat) {k : Nat} (hk : k < 64) : lN n <<< ((nI k).toInt64 &&& 63) = lN (n * 2 ^ k) := by
  rw [wb_c k hk]
  apply wb_inj
  rw [Int64.toBitVec_shiftLeft, wb_tb, wb_tb, wb_tb, wb_sm k hk]
  apply BitVec.eq_of_toNat_eq
  rw [BitVec.shiftLeft_eq', BitVec.toNat_shiftLeft, BitVec.toNat_ofNat, BitVec.toNat_ofNat, BitVec.toNat_ofNat, Nat.mod_eq_of_lt (show k < 2 ^ 64 by omega), Nat.shiftLeft_eq, Nat.mul_mod, Nat.mod_mod, ← Nat.mul_mod]
theorem wb_and {a b : Nat} (ha : a < 2 ^ 64) (hb : b < 2 ^ 64) : lN a &&& lN b = lN (a &&& b) := by
  apply wb_inj
  rw [Int64.toBitVec_and, wb_tb, wb_tb, wb_tb]
  apply BitVec.eq_of_toNat_eq
  rw [BitVec.toNat_and, BitVec.toNat_ofNat, BitVec.toNat_ofNat, BitVec.toNat_ofNat, Nat.mod_eq_of_lt ha, Nat.mod_eq_of_lt hb, Nat.mod_eq_of_lt (Nat.and_lt_two_pow _ hb)]
theorem wb_or {a b : Nat} (ha : a < 2 ^ 64) (hb : b < 2 ^ 64) : lN a ||| lN b = lN (a ||| b) := by
  apply wb_inj
  rw [Int64.toBitVec_or, wb_tb, wb_tb, wb_tb]
  apply BitVec.eq_of_toNat_eq
  rw [BitVec.toNat_or, BitVec.toNat_ofNat, BitVec.toNat_ofNat, BitVec.toNat_ofNat, Nat.mod_eq_of_lt ha, Nat.mod_eq_of_lt hb, Nat.mod_eq_of_lt (Nat.or_lt_two_pow ha hb)]
theorem wb_mask {n k : Nat} (hn : n < 2 ^ 64) (hk : k < 64) : lN n &&& lN (2 ^ k - 1) = lN (n % 2 ^ k) := by
  rw [wb_and hn (by have := wb_lt2 hk; omega), Nat.and_two_pow_sub_one_eq_mod]
theorem wb_a1 {n : Nat} (hn : n < 2 ^ 64) : lN n &&& 1 = lN (n % 2) := wb_mask (k := 1) hn (by decide)
-- bits, as whole numbers
theorem gb_nat {a : Int} (h : 0 ≤ a) : ∃ n : Nat, a = (n : Int) := ⟨a.toNat, (Int.toNat_of_nonneg h).symm⟩
theorem gb_and (a b : Nat) (h : a < 2147483648) : gx_and (a : Int) (b : Int) = ((a &&& b : Nat) : Int) := by
  unfold gx_and
  rw [gx_nat, gx_nat, y_and_ok]
  exact nI_toInt (Nat.lt_of_le_of_lt Nat.and_le_left h)
theorem gb_or (a b : Nat) (ha : a < 2147483648) (hb : b < 2147483648) : gx_or (a : Int) (b : Int) = ((a ||| b : Nat) : Int) := by
  unfold gx_or
  rw [gx_nat, gx_nat, y_or_ok]
  exact nI_toInt (Nat.or_lt_two_pow (n := 31) ha hb)
theorem gb_xor (a b : Nat) (ha : a < 2147483648) (hb : b < 2147483648) : gx_xor (a : Int) (b : Int) = ((a ^^^ b : Nat) : Int) := by
  unfold gx_xor
  rw [gx_nat, gx_nat]
  have e : nI a ^^^ nI b = nI (a ^^^ b) := by
    apply Int32.toBitVec_inj.mp
    apply BitVec.eq_of_toNat_eq
    rw [Int32.toBitVec_xor, BitVec.toNat_xor, y_tn, y_tn, y_tn, Nat.mod_eq_of_lt (by omega), Nat.mod_eq_of_lt (by omega), Nat.mod_eq_of_lt (Nat.lt_of_lt_of_le (Nat.xor_lt_two_pow (n := 31) ha hb) (by decide))]
  rw [e]
  exact nI_toInt (Nat.xor_lt_two_pow (n := 31) ha hb)
theorem gb_shl (a k : Nat) (hk : k < 32) (h : a * 2 ^ k < 2147483648) : gx_shl (a : Int) (k : Int) = ((a * 2 ^ k : Nat) : Int) := by
  unfold gx_shl
  rw [gx_nat, gx_nat, y_shl_ok hk, Nat.mod_eq_of_lt (by omega)]
  exact nI_toInt h
theorem gb_shr (a k : Nat) (hk : k < 32) (h : a < 2147483648) : gx_shr (a : Int) (k : Int) = ((a / 2 ^ k : Nat) : Int) := by
  unfold gx_shr
  rw [gx_nat, gx_nat, pk_shrN h (nI k &&& 31) k (y_sm k hk)]
  exact nI_toInt (Nat.lt_of_le_of_lt (Nat.div_le_self _ _) h)
theorem gb_ushr (a k : Nat) (hk : k < 32) (h : a < 2147483648) : gx_ushr (a : Int) (k : Int) = ((a / 2 ^ k : Nat) : Int) := by
  unfold gx_ushr
  rw [gx_nat, gx_nat, pk_ushrN (by omega) (nI k) k (y_um k hk)]
  exact nI_toInt (Nat.lt_of_le_of_lt (Nat.div_le_self _ _) h)
/-- a mask keeps it small, whatever it is laid on -/
theorem gb_and_le (a b : Int) (hb : 0 ≤ b ∧ b < 2147483648) : 0 ≤ gx_and a b ∧ gx_and a b ≤ b := by
  obtain ⟨n, rfl⟩ := gb_nat hb.1
  have hn : n < 2147483648 := by omega
  have e : gx_i a &&& gx_i (n : Int) = nI ((gx_i a).toBitVec.toNat &&& n) := by
    apply Int32.toBitVec_inj.mp
    apply BitVec.eq_of_toNat_eq
    rw [gx_nat, Int32.toBitVec_and, BitVec.toNat_and, y_tn, y_tn, Nat.mod_eq_of_lt (show n < 4294967296 by omega), Nat.mod_eq_of_lt (Nat.lt_of_le_of_lt Nat.and_le_right (by omega))]
  have h2 : ((gx_i a).toBitVec.toNat &&& n) ≤ n := Nat.and_le_right
  unfold gx_and
  rw [e, nI_toInt (show _ < 2147483648 by omega)]
  omega
theorem gb_R {a : Int} (h : 0 ≤ a ∧ a < 2147483648) : gx_R a := ⟨by omega, h.2⟩
theorem gb_rng (x : Int32) : gx_R x.toInt := ⟨Int32.le_toInt x, Int32.toInt_lt x⟩
-- longs
theorem gb_andL (a b : Nat) (ha : a < 9223372036854775808) (hb : b < 18446744073709551616) : gx_andL (a : Int) (lN b).toInt = ((a &&& b : Nat) : Int) := by
  unfold gx_andL
  rw [gx_natL, gx_l_of, wb_and (by omega) hb]
  exact pk_lT (Nat.lt_of_le_of_lt Nat.and_le_left ha)
theorem gb_orL (a b : Nat) (ha : a < 9223372036854775808) (hb : b < 9223372036854775808) : gx_orL (a : Int) (b : Int) = ((a ||| b : Nat) : Int) := by
  unfold gx_orL
  rw [gx_natL, gx_natL, wb_or (by omega) (by omega)]
  exact pk_lT (Nat.or_lt_two_pow (n := 63) ha hb)
theorem gb_shlL (a k : Nat) (hk : k < 64) (h : a * 2 ^ k < 9223372036854775808) : gx_shlL (a : Int) (k : Int) = ((a * 2 ^ k : Nat) : Int) := by
  unfold gx_shlL
  rw [gx_natL, gx_nat, wb_shl a hk]
  exact pk_lT h
theorem gb_ushrL (a k : Nat) (hk : k < 64) (h : a < 9223372036854775808) : gx_ushrL (a : Int) (k : Int) = ((a / 2 ^ k : Nat) : Int) := by
  unfold gx_ushrL
  rw [gx_natL, gx_nat, wb_shr (by omega) hk]
  exact pk_lT (Nat.lt_of_le_of_lt (Nat.div_le_self _ _) h)
-- markings in a long: four numbers below 32768
def ga (mk p : Int) : Int := ((mk.toNat / 2 ^ (15 * p.toNat) % 32768 : Nat) : Int)
abbrev gM (mk : Int) : Prop := 0 ≤ mk ∧ mk < 1152921504606846976
theorem ga_lt (mk p : Int) : 0 ≤ ga mk p ∧ ga mk p < 32768 := by
  unfold ga
  omega
theorem ga_at {mk p : Int} (h : gM mk) (hp : 0 ≤ p ∧ p < 4) : gx_andL (gx_ushrL mk (15 * p)) 32767 = ga mk p := by
  obtain ⟨n, rfl⟩ := gb_nat h.1
  obtain ⟨k, rfl⟩ := gb_nat hp.1
  have hn : n < 1152921504606846976 := by omega
  have hk : k < 4 := by omega
  rw [show (15 * (k : Int)) = ((15 * k : Nat) : Int) from by omega, gb_ushrL n (15 * k) (by omega) (by omega)]
  rw [show (32767 : Int) = (lN (2 ^ 15 - 1)).toInt from (pk_lT (n := 2 ^ 15 - 1) (by decide)).symm]
  have h9 : n / 2 ^ (15 * k) ≤ n := Nat.div_le_self _ _
  rw [gb_andL _ _ (by omega) (by decide), Nat.and_two_pow_sub_one_eq_mod]
  rfl
def ga_m (p : Nat) : Nat := 18446744073709551615 - 32767 * 2 ^ (15 * p)
theorem ga_mt : ∀ p, p < 4 → ∀ j, j < 4 → ∀ i, i < 15 → Nat.testBit (ga_m p) (15 * j + i) = decide (j ≠ p) := by decide +kernel
theorem ga_mx : ∀ p : Nat, p < 4 → gx_xorL (gx_shlL 32767 ((15 * p : Nat) : Int)) (-1) = (lN (ga_m p)).toInt := by decide +kernel
theorem ga_with {mk p v : Int} (h : gM mk) (hp : 0 ≤ p ∧ p < 4) (hv : 0 ≤ v ∧ v < 32768) : ∃ r, gx_orL (gx_andL mk (gx_xorL (gx_shlL 32767 (15 * p)) (-1))) (gx_shlL v (15 * p)) = r ∧ gM r ∧ ∀ j, 0 ≤ j → j < 4 → ga r j = if j = p then v else ga mk j := by
  obtain ⟨n, rfl⟩ := gb_nat h.1
  obtain ⟨k, rfl⟩ := gb_nat hp.1
  obtain ⟨v, rfl⟩ := gb_nat hv.1
  have hn : n < 1152921504606846976 := by omega
  have hk : k < 4 := by omega
  have hv : v < 32768 := by omega
  have e1 : (15 * (k : Int)) = ((15 * k : Nat) : Int) := by omega
  have hm : ga_m k < 18446744073709551616 := by unfold ga_m; omega
  have hs : v * 2 ^ (15 * k) < 1152921504606846976 := by
    rcases (by omega : k = 0 ∨ k = 1 ∨ k = 2 ∨ k = 3) with rfl | rfl | rfl | rfl <;> omega
  have ha : n &&& ga_m k < 1152921504606846976 := Nat.lt_of_le_of_lt Nat.and_le_left hn
  rw [e1, ga_mx k hk, gb_andL _ _ (by omega) hm, gb_shlL v (15 * k) (by omega) (by omega), gb_orL _ _ (by omega) (by omega)]
  refine ⟨_, rfl, ⟨by omega, ?_⟩, ?_⟩
  · have := Nat.or_lt_two_pow (n := 60) ha hs
    omega
  · intro j hj0 hj4
    obtain ⟨j, rfl⟩ := gb_nat hj0
    have hj : j < 4 := by omega
    unfold ga
    have e2 : (((n &&& ga_m k ||| v * 2 ^ (15 * k) : Nat) : Int)).toNat / 2 ^ (15 * ((j : Int)).toNat) % 32768 = if j = k then v else n / 2 ^ (15 * j) % 32768 := by
      rw [Int.toNat_natCast, Int.toNat_natCast]
      apply Nat.eq_of_testBit_eq
      intro i
      rw [show (32768 : Nat) = 2 ^ 15 from rfl, Nat.testBit_mod_two_pow, Nat.testBit_div_two_pow]
      by_cases hi : i < 15
      · rw [Nat.testBit_or, Nat.testBit_and, Nat.add_comm i, ga_mt k hk j hj i hi, Nat.testBit_mul_two_pow]
        by_cases hjk : j = k
        · subst hjk
          simp [hi]
        · rw [if_neg hjk, Nat.testBit_mod_two_pow, Nat.testBit_div_two_pow]
          have e3 : (decide (15 * k ≤ 15 * j + i) && v.testBit (15 * j + i - 15 * k)) = false := by
            by_cases h5 : 15 * k ≤ 15 * j + i
            · have h6 : k < j := by omega
              rw [Nat.testBit_lt_two_pow (Nat.lt_of_lt_of_le hv (Nat.pow_le_pow_right (n := 2) (by decide) (show 15 ≤ 15 * j + i - 15 * k by omega)))]
              simp
            · simp [h5]
          rw [e3]
          simp [hi, hjk, Nat.add_comm]
      · have e4 : (if j = k then v else n / 2 ^ (15 * j) % 2 ^ 15).testBit i = false := by
          apply Nat.testBit_lt_two_pow
          refine Nat.lt_of_lt_of_le ?_ (Nat.pow_le_pow_right (n := 2) (by decide) (show 15 ≤ i by omega))
          split
          · exact hv
          · exact Nat.mod_lt _ (by decide)
        rw [e4]
        simp [hi]
    rw [e2]
    by_cases hjk : j = k
    · rw [if_pos hjk, if_pos (by omega)]
    · rw [if_neg hjk, if_neg (by omega)]
      rw [Int.toNat_natCast, Int.toNat_natCast]
theorem ga_inj {a b : Int} (ha : gM a) (hb : gM b) (h : ∀ j, 0 ≤ j → j < 4 → ga a j = ga b j) : a = b := by
  have h0 := h 0 (by omega) (by omega)
  have h1 := h 1 (by omega) (by omega)
  have h2 := h 2 (by omega) (by omega)
  have h3 := h 3 (by omega) (by omega)
  unfold ga at h0 h1 h2 h3
  obtain ⟨a, rfl⟩ := gb_nat ha.1
  obtain ⟨b, rfl⟩ := gb_nat hb.1
  simp only [Int.toNat_natCast] at h0 h1 h2 h3
  have e0 : (0 : Int).toNat = 0 := rfl
  have e1 : (1 : Int).toNat = 1 := rfl
  have e2 : (2 : Int).toNat = 2 := rfl
  have e3 : (3 : Int).toNat = 3 := rfl
  rw [e0] at h0
  rw [e1] at h1
  rw [e2] at h2
  rw [e3] at h3
  omega
theorem ga_0 (p : Int) : ga 0 p = 0 := by
  unfold ga
  simp
def gx_sh : List gx_C := [.inl (7, [some 2, some 8, some 52, some 65, some 66, some 68, some 80, some 92]), .inl (2, [none, none, some 3, some 4, some 5, some 6, some 7]), .inr (.inl (0, 8)), .inr (.inl (0, 8)), .inr (.inl (0, 8)), .inr (.inl (0, 64)), .inr (.inl (0, 64)), .inl (0, [some 9, none, none]), .inr (.inr (2, [10, 16, 22, 28, 34, 40, 46])), .inl (2, [none, none, some 11, some 12, some 13, some 14, some 15]), .inr (.inl (0, 8)), .inr (.inl (0, 8)), .inr (.inl (0, 8)), .inr (.inl (0, 64)), .inr (.inl (0, 64)), .inl (2, [none, none, some 17, some 18, some 19, some 20, some 21]), .inr (.inl (0, 8)), .inr (.inl (0, 8)), .inr (.inl (0, 8)), .inr (.inl (0, 64)), .inr (.inl (0, 64)), .inl (2, [none, none, some 23, some 24, some 25, some 26, some 27]), .inr (.inl (0, 8)), .inr (.inl (0, 8)), .inr (.inl (0, 8)), .inr (.inl (0, 64)), .inr (.inl (0, 64)), .inl (2, [none, none, some 29, some 30, some 31, some 32, some 33]), .inr (.inl (0, 8)), .inr (.inl (0, 8)), .inr (.inl (0, 8)), .inr (.inl (0, 64)), .inr (.inl (0, 64)), .inl (2, [none, none, some 35, some 36, some 37, some 38, some 39]), .inr (.inl (0, 8)), .inr (.inl (0, 8)), .inr (.inl (0, 8)), .inr (.inl (0, 64)), .inr (.inl (0, 64)), .inl (2, [none, none, some 41, some 42, some 43, some 44, some 45]), .inr (.inl (0, 8)), .inr (.inl (0, 8)), .inr (.inl (0, 8)), .inr (.inl (0, 64)), .inr (.inl (0, 64)), .inl (2, [none, none, some 47, some 48, some 49, some 50, some 51]), .inr (.inl (0, 8)), .inr (.inl (0, 8)), .inr (.inl (0, 8)), .inr (.inl (0, 64)), .inr (.inl (0, 64)), .inr (.inr (2, [53, 59])), .inl (2, [none, none, some 54, some 55, some 56, some 57, some 58]), .inr (.inl (0, 8)), .inr (.inl (0, 8)), .inr (.inl (0, 8)), .inr (.inl (0, 64)), .inr (.inl (0, 64)), .inl (2, [none, none, some 60, some 61, some 62, some 63, some 64]), .inr (.inl (0, 8)), .inr (.inl (0, 8)), .inr (.inl (0, 8)), .inr (.inl (0, 64)), .inr (.inl (0, 64)), .inr (.inl (1, 2)), .inl (3, [some 67, none]), .inr (.inl (2, 80)), .inl (5, [some 69, none, some 75, some 76, some 77, some 78, some 79, none]), .inl (2, [none, none, some 70, some 71, some 72, some 73, some 74]), .inr (.inl (0, 8)), .inr (.inl (0, 8)), .inr (.inl (0, 8)), .inr (.inl (0, 64)), .inr (.inl (0, 64)), .inr (.inl (0, 64)), .inr (.inl (0, 8)), .inr (.inl (0, 8)), .inr (.inl (1, 256)), .inr (.inl (0, 64)), .inl (4, [some 81, some 90, some 91, none]), .inl (1, [some 82, none, some 88, some 89, none, none, none]), .inl (2, [none, none, some 83, some 84, some 85, some 86, some 87]), .inr (.inl (0, 8)), .inr (.inl (0, 8)), .inr (.inl (0, 8)), .inr (.inl (0, 64)), .inr (.inl (0, 64)), .inr (.inl (0, 2400)), .inr (.inl (0, 8)), .inr (.inl (0, 300)), .inr (.inl (0, 1024)), .inl (6, [some 93, some 102, some 103, some 104, none]), .inl (1, [some 94, none, some 100, some 101, none, none, none]), .inl (2, [none, none, some 95, some 96, some 97, some 98, some 99]), .inr (.inl (0, 8)), .inr (.inl (0, 8)), .inr (.inl (0, 8)), .inr (.inl (0, 64)), .inr (.inl (0, 64)), .inr (.inl (0, 2400)), .inr (.inl (0, 8)), .inr (.inl (0, 300)), .inr (.inl (0, 300)), .inr (.inl (0, 300)), .inr (.inl (0, 2)), .inr (.inl (0, 16)), .inr (.inl (0, 4)), .inr (.inl (0, 4)), .inr (.inl (3, 60)), .inr (.inl (0, 60)), .inr (.inl (0, 60))]
end
section
section SEGA
variable {l : Launch} {κ : yK} {d : Nat} {Q : Option gx_V → gx_M → Prop}

set_option maxRecDepth 100000 in
theorem cell_e_1 {M : gx_M} {k : Int} (h1 : (κ.2.2.2 : Int) ≤ k) (h2 : gx_R k) (h3 : gx_R (κ.2.2.2 : Int)) (hq : Q (some (gI ((1016015469 * (k + 1)) + 727620679))) M) : gx_G l κ gx_sh z_mt zL_cell d (0, [gR 0, gI k], [], M) Q := (gx_seg 11 [1] (Ps := [gx_R k ∧ gx_R (κ.2.2.2 : Int) ∧ ((κ.2.2.2 : Int) ≤ k)]) (S' := (21, [gR 0, gI k], [gI ((1016015469 * (k + 1)) + 727620679)], M)) rfl (gx_ac (⟨h2, h3, h1⟩) gx_an) (gx_ret (P := none) (rv := (some (gI ((1016015469 * (k + 1)) + 727620679)))) rfl (fun _ h => by cases h) hq))
set_option maxRecDepth 100000 in
theorem cell_e_0 {M : gx_M} {k : Int} (h1 : k < (κ.2.2.2 : Int)) (h2 : gx_R k) (h3 : gx_R (κ.2.2.2 : Int)) (h4 : 0 ≤ k ∧ k < (κ.2.2.2 : Int) ∧ k < 2147483648) (hq : Q (some (gI ((κ.1 (k).toNat).toInt))) M) : gx_G l κ gx_sh z_mt zL_cell d (0, [gR 0, gI k], [], M) Q := (gx_seg 8 [0] (Ps := [gx_R k ∧ gx_R (κ.2.2.2 : Int) ∧ (k < (κ.2.2.2 : Int)), 0 ≤ k ∧ k < (κ.2.2.2 : Int) ∧ k < 2147483648]) (S' := (21, [gR 0, gI k], [gI ((κ.1 (k).toNat).toInt)], M)) rfl (gx_ac (⟨h2, h3, h1⟩) (gx_ac (h4) gx_an)) (gx_ret (P := none) (rv := (some (gI ((κ.1 (k).toNat).toInt)))) rfl (fun _ h => by cases h) hq))
set_option maxRecDepth 100000 in
theorem low_e {M : gx_M} {v n : Int} (h1 : (0 ≤ (gx_and v 2147483647) ∧ (gx_and v 2147483647) < 2147483648) ∧ (0 : Int) < n ∧ n < 2147483648) (hq : Q (some (gI ((gx_and v 2147483647) % n))) M) : gx_G l κ gx_sh z_mt zL_low d (0, [gI v, gI n], [], M) Q := (gx_seg 5 [] (Ps := [(0 ≤ (gx_and v 2147483647) ∧ (gx_and v 2147483647) < 2147483648) ∧ (0 : Int) < n ∧ n < 2147483648]) (S' := (6, [gI v, gI n], [gI ((gx_and v 2147483647) % n)], M)) rfl (gx_ac (h1) gx_an) (gx_ret (P := none) (rv := (some (gI ((gx_and v 2147483647) % n)))) rfl (fun _ h => by cases h) hq))
set_option maxRecDepth 100000 in
theorem at__e {M : gx_M} {mk p : Int} (hq : Q (some (gI (gx_andL (gx_ushrL mk (15 * p)) 32767))) M) : gx_G l κ gx_sh z_mt zL_at d (0, [gJ mk, gU, gI p], [], M) Q := (gx_seg 8 [] (Ps := []) (S' := (11, [gJ mk, gU, gI p], [gI (gx_andL (gx_ushrL mk (15 * p)) 32767)], M)) rfl gx_an (gx_ret (P := none) (rv := (some (gI (gx_andL (gx_ushrL mk (15 * p)) 32767)))) rfl (fun _ h => by cases h) hq))
set_option maxRecDepth 100000 in
theorem with__e {M : gx_M} {mk p v : Int} (h1 : gx_R v) (hq : Q (some (gJ (gx_orL (gx_andL mk (gx_xorL (gx_shlL 32767 (15 * p)) (-1))) (gx_shlL v (15 * p))))) M) : gx_G l κ gx_sh z_mt zL_with d (0, [gJ mk, gU, gI p, gI v], [], M) Q := (gx_seg 16 [] (Ps := [gx_R v]) (S' := (22, [gJ mk, gU, gI p, gI v], [gJ (gx_orL (gx_andL mk (gx_xorL (gx_shlL 32767 (15 * p)) (-1))) (gx_shlL v (15 * p)))], M)) rfl (gx_ac (h1) gx_an) (gx_ret (P := none) (rv := (some (gJ (gx_orL (gx_andL mk (gx_xorL (gx_shlL 32767 (15 * p)) (-1))) (gx_shlL v (15 * p)))))) rfl (fun _ h => by cases h) hq))
set_option maxRecDepth 100000 in
theorem can_e {M : gx_M} {mk m : Int} (kk : gx_G l κ gx_sh z_mt zL_can d (6, [gJ mk, gU, gI m, gR 105, gR 106, gI 1, gI 0], [], M) Q) : gx_G l κ gx_sh z_mt zL_can d (0, [gJ mk, gU, gI m, gR 105, gR 106, gU, gU], [], M) Q := (gx_seg 4 [] (Ps := []) (S' := (6, [gJ mk, gU, gI m, gR 105, gR 106, gI 1, gI 0], [], M)) rfl gx_an kk)
set_option maxRecDepth 100000 in
theorem can_6_1 {M : gx_M} {mk m is_ p : Int} (h1 : (M 104 0) ≤ p) (h2 : gx_R p) (h3 : gx_R (M 104 0)) (hb : (is_ = 0 ∨ is_ = 1)) (hq : Q (some (gI is_)) M) : gx_G l κ gx_sh z_mt zL_can d (6, [gJ mk, gU, gI m, gR 105, gR 106, gI is_, gI p], [], M) Q := (gx_seg 6 [1] (Ps := [0 ≤ (0 : Int) ∧ 0 < 2, gx_R p ∧ gx_R (M 104 0) ∧ ((M 104 0) ≤ p)]) (S' := (55, [gJ mk, gU, gI m, gR 105, gR 106, gI is_, gI p], [gI is_], M)) rfl (gx_ac (by decide) (gx_ac (⟨h2, h3, h1⟩) gx_an)) (gx_ret (P := (some ((is_ : Int) = 0 ∨ (is_ : Int) = 1))) (rv := (some (gI is_))) rfl (fun _ h => by cases h; exact (hb)) hq))
set_option maxRecDepth 100000 in
theorem can_6_01 {M : gx_M} {mk m is_ p : Int} (h1 : p < (M 104 0)) (h2 : gx_R p) (h3 : gx_R (M 104 0)) (h4 : is_ = 0) (h5 : gx_R is_) (kk : gx_G l κ gx_sh z_mt zL_can d (6, [gJ mk, gU, gI m, gR 105, gR 106, gI 0, gI (p + 1)], [], M) Q) : gx_G l κ gx_sh z_mt zL_can d (6, [gJ mk, gU, gI m, gR 105, gR 106, gI is_, gI p], [], M) Q := (gx_seg 11 [0, 1] (Ps := [0 ≤ (0 : Int) ∧ 0 < 2, gx_R p ∧ gx_R (M 104 0) ∧ (p < (M 104 0)), gx_R is_ ∧ (is_ = 0)]) (S' := (6, [gJ mk, gU, gI m, gR 105, gR 106, gI 0, gI (p + 1)], [], M)) rfl (gx_ac (by decide) (gx_ac (⟨h2, h3, h1⟩) (gx_ac (⟨h5, h4⟩) gx_an))) kk)
set_option maxRecDepth 100000 in
theorem can_6_001 {M M1 : gx_M} {mk m is_ p r1 : Int} {d1 : Nat} (h1 : p < (M 104 0)) (h2 : gx_R p) (h3 : gx_R (M 104 0)) (h4 : ¬ is_ = 0) (h5 : gx_R is_) (c1 : gx_X l κ gx_sh z_mt zL_at d1 [gJ mk, gI p] M (gx_eq (some (gI r1)) M1)) (e1 : d1 + 1 ≤ d) (h8 : 0 ≤ ((4 * m) + p) ∧ ((4 * m) + p) < 16) (h9 : 0 ≤ (M1 105 ((4 * m) + p)) ∧ (M1 105 ((4 * m) + p)) < 2147483648) (h10 : r1 < ((M1 105 ((4 * m) + p)) / 16)) (h11 : gx_R r1) (h12 : gx_R ((M1 105 ((4 * m) + p)) / 16)) (kk : gx_G l κ gx_sh z_mt zL_can d (6, [gJ mk, gU, gI m, gR 105, gR 106, gI 0, gI (p + 1)], [], M1) Q) : gx_G l κ gx_sh z_mt zL_can d (6, [gJ mk, gU, gI m, gR 105, gR 106, gI is_, gI p], [], M) Q := (gx_seg 9 [0, 0] (Ps := [0 ≤ (0 : Int) ∧ 0 < 2, gx_R p ∧ gx_R (M 104 0) ∧ (p < (M 104 0)), gx_R is_ ∧ (¬ is_ = 0)]) (S' := (22, [gJ mk, gU, gI m, gR 105, gR 106, gI is_, gI p], [gI p, gJ mk], M)) rfl (gx_ac (by decide) (gx_ac (⟨h2, h3, h1⟩) (gx_ac (⟨h5, h4⟩) gx_an))) (gx_call1 z_mt_ok rfl rfl rfl rfl c1 e1 (gx_seg 14 [1] (Ps := [0 ≤ ((4 * m) + p) ∧ ((4 * m) + p) < 16, (0 ≤ (M1 105 ((4 * m) + p)) ∧ (M1 105 ((4 * m) + p)) < 2147483648) ∧ (0 : Int) < 16 ∧ 16 < 2147483648, gx_R r1 ∧ gx_R ((M1 105 ((4 * m) + p)) / 16) ∧ (r1 < ((M1 105 ((4 * m) + p)) / 16))]) (S' := (6, [gJ mk, gU, gI m, gR 105, gR 106, gI 0, gI (p + 1)], [], M1)) rfl (gx_ac (h8) (gx_ac (⟨h9, by decide, by decide⟩) (gx_ac (⟨h11, h12, h10⟩) gx_an))) kk)))
set_option maxRecDepth 100000 in
theorem can_6_000 {M M1 : gx_M} {mk m is_ p r1 : Int} {d1 : Nat} (h1 : p < (M 104 0)) (h2 : gx_R p) (h3 : gx_R (M 104 0)) (h4 : ¬ is_ = 0) (h5 : gx_R is_) (c1 : gx_X l κ gx_sh z_mt zL_at d1 [gJ mk, gI p] M (gx_eq (some (gI r1)) M1)) (e1 : d1 + 1 ≤ d) (h8 : 0 ≤ ((4 * m) + p) ∧ ((4 * m) + p) < 16) (h9 : 0 ≤ (M1 105 ((4 * m) + p)) ∧ (M1 105 ((4 * m) + p)) < 2147483648) (h10 : ((M1 105 ((4 * m) + p)) / 16) ≤ r1) (h11 : gx_R r1) (h12 : gx_R ((M1 105 ((4 * m) + p)) / 16)) (kk : gx_G l κ gx_sh z_mt zL_can d (6, [gJ mk, gU, gI m, gR 105, gR 106, gI 1, gI (p + 1)], [], M1) Q) : gx_G l κ gx_sh z_mt zL_can d (6, [gJ mk, gU, gI m, gR 105, gR 106, gI is_, gI p], [], M) Q := (gx_seg 9 [0, 0] (Ps := [0 ≤ (0 : Int) ∧ 0 < 2, gx_R p ∧ gx_R (M 104 0) ∧ (p < (M 104 0)), gx_R is_ ∧ (¬ is_ = 0)]) (S' := (22, [gJ mk, gU, gI m, gR 105, gR 106, gI is_, gI p], [gI p, gJ mk], M)) rfl (gx_ac (by decide) (gx_ac (⟨h2, h3, h1⟩) (gx_ac (⟨h5, h4⟩) gx_an))) (gx_call1 z_mt_ok rfl rfl rfl rfl c1 e1 (gx_seg 15 [0] (Ps := [0 ≤ ((4 * m) + p) ∧ ((4 * m) + p) < 16, (0 ≤ (M1 105 ((4 * m) + p)) ∧ (M1 105 ((4 * m) + p)) < 2147483648) ∧ (0 : Int) < 16 ∧ 16 < 2147483648, gx_R r1 ∧ gx_R ((M1 105 ((4 * m) + p)) / 16) ∧ (((M1 105 ((4 * m) + p)) / 16) ≤ r1)]) (S' := (6, [gJ mk, gU, gI m, gR 105, gR 106, gI 1, gI (p + 1)], [], M1)) rfl (gx_ac (h8) (gx_ac (⟨h9, by decide, by decide⟩) (gx_ac (⟨h11, h12, h10⟩) gx_an))) kk)))
set_option maxRecDepth 100000 in
theorem behind_e {M : gx_M} {mk m : Int} (kk : gx_G l κ gx_sh z_mt zL_behind d (6, [gJ mk, gU, gI m, gR 105, gR 106, gJ mk, gU, gI 0], [], M) Q) : gx_G l κ gx_sh z_mt zL_behind d (0, [gJ mk, gU, gI m, gR 105, gR 106, gU, gU, gU], [], M) Q := (gx_seg 4 [] (Ps := []) (S' := (6, [gJ mk, gU, gI m, gR 105, gR 106, gJ mk, gU, gI 0], [], M)) rfl gx_an kk)
set_option maxRecDepth 100000 in
theorem behind_6_1 {M : gx_M} {mk m th p : Int} (h1 : (M 104 0) ≤ p) (h2 : gx_R p) (h3 : gx_R (M 104 0)) (hq : Q (some (gJ th)) M) : gx_G l κ gx_sh z_mt zL_behind d (6, [gJ mk, gU, gI m, gR 105, gR 106, gJ th, gU, gI p], [], M) Q := (gx_seg 6 [1] (Ps := [0 ≤ (0 : Int) ∧ 0 < 2, gx_R p ∧ gx_R (M 104 0) ∧ ((M 104 0) ≤ p)]) (S' := (75, [gJ mk, gU, gI m, gR 105, gR 106, gJ th, gU, gI p], [gJ th], M)) rfl (gx_ac (by decide) (gx_ac (⟨h2, h3, h1⟩) gx_an)) (gx_ret (P := none) (rv := (some (gJ th))) rfl (fun _ h => by cases h) hq))
set_option maxRecDepth 100000 in
theorem behind_6_01 {M M1 : gx_M} {mk m th p r1 : Int} {d1 : Nat} (h1 : p < (M 104 0)) (h2 : gx_R p) (h3 : gx_R (M 104 0)) (c1 : gx_X l κ gx_sh z_mt zL_at d1 [gJ mk, gI p] M (gx_eq (some (gI r1)) M1)) (e1 : d1 + 1 ≤ d) (h6 : (32767 : Int) ≤ r1) (h7 : gx_R r1) (kk : gx_G l κ gx_sh z_mt zL_behind d (67, [gJ mk, gU, gI m, gR 105, gR 106, gJ th, gU, gI p], [], M1) Q) : gx_G l κ gx_sh z_mt zL_behind d (6, [gJ mk, gU, gI m, gR 105, gR 106, gJ th, gU, gI p], [], M) Q := (gx_seg 7 [0] (Ps := [0 ≤ (0 : Int) ∧ 0 < 2, gx_R p ∧ gx_R (M 104 0) ∧ (p < (M 104 0))]) (S' := (17, [gJ mk, gU, gI m, gR 105, gR 106, gJ th, gU, gI p], [gI p, gJ mk], M)) rfl (gx_ac (by decide) (gx_ac (⟨h2, h3, h1⟩) gx_an)) (gx_call1 z_mt_ok rfl rfl rfl rfl c1 e1 (gx_seg 2 [1] (Ps := [gx_R r1 ∧ gx_R 32767 ∧ ((32767 : Int) ≤ r1)]) (S' := (67, [gJ mk, gU, gI m, gR 105, gR 106, gJ th, gU, gI p], [], M1)) rfl (gx_ac (⟨h7, ⟨by decide, by decide⟩, h6⟩) gx_an) kk)))
set_option maxRecDepth 100000 in
theorem behind_6_00 {M M1 M2 M3 : gx_M} {mk m th p r1 r2 r3 : Int} {d1 d2 d3 : Nat} (h1 : p < (M 104 0)) (h2 : gx_R p) (h3 : gx_R (M 104 0)) (c1 : gx_X l κ gx_sh z_mt zL_at d1 [gJ mk, gI p] M (gx_eq (some (gI r1)) M1)) (e1 : d1 + 1 ≤ d) (h6 : r1 < 32767) (h7 : gx_R r1) (c2 : gx_X l κ gx_sh z_mt zL_at d2 [gJ mk, gI p] M1 (gx_eq (some (gI r2)) M2)) (e2 : d2 + 1 ≤ d) (h10 : 0 ≤ ((4 * m) + p) ∧ ((4 * m) + p) < 16) (h11 : 0 ≤ (M2 105 ((4 * m) + p)) ∧ (M2 105 ((4 * m) + p)) < 2147483648) (c3 : gx_X l κ gx_sh z_mt zL_with d3 [gJ th, gI p, gI ((r2 - ((M2 105 ((4 * m) + p)) / 16)) + ((M2 105 ((4 * m) + p)) % 16))] M2 (gx_eq (some (gJ r3)) M3)) (e3 : d3 + 1 ≤ d) (kk : gx_G l κ gx_sh z_mt zL_behind d (67, [gJ mk, gU, gI m, gR 105, gR 106, gJ r3, gU, gI p], [], M3) Q) : gx_G l κ gx_sh z_mt zL_behind d (6, [gJ mk, gU, gI m, gR 105, gR 106, gJ th, gU, gI p], [], M) Q := (gx_seg 7 [0] (Ps := [0 ≤ (0 : Int) ∧ 0 < 2, gx_R p ∧ gx_R (M 104 0) ∧ (p < (M 104 0))]) (S' := (17, [gJ mk, gU, gI m, gR 105, gR 106, gJ th, gU, gI p], [gI p, gJ mk], M)) rfl (gx_ac (by decide) (gx_ac (⟨h2, h3, h1⟩) gx_an)) (gx_call1 z_mt_ok rfl rfl rfl rfl c1 e1 (gx_seg 6 [0] (Ps := [gx_R r1 ∧ gx_R 32767 ∧ (r1 < 32767)]) (S' := (33, [gJ mk, gU, gI m, gR 105, gR 106, gJ th, gU, gI p], [gI p, gJ mk, gI p, gJ th], M1)) rfl (gx_ac (⟨h7, ⟨by decide, by decide⟩, h6⟩) gx_an) (gx_call1 z_mt_ok rfl rfl rfl rfl c2 e2 (gx_seg 20 [] (Ps := [0 ≤ ((4 * m) + p) ∧ ((4 * m) + p) < 16, (0 ≤ (M2 105 ((4 * m) + p)) ∧ (M2 105 ((4 * m) + p)) < 2147483648) ∧ (0 : Int) < 16 ∧ 16 < 2147483648, 0 ≤ ((4 * m) + p) ∧ ((4 * m) + p) < 16, (0 ≤ (M2 105 ((4 * m) + p)) ∧ (M2 105 ((4 * m) + p)) < 2147483648) ∧ (0 : Int) < 16 ∧ 16 < 2147483648]) (S' := (62, [gJ mk, gU, gI m, gR 105, gR 106, gJ th, gU, gI p], [gI ((r2 - ((M2 105 ((4 * m) + p)) / 16)) + ((M2 105 ((4 * m) + p)) % 16)), gI p, gJ th], M2)) rfl (gx_ac (h10) (gx_ac (⟨h11, by decide, by decide⟩) (gx_ac (h10) (gx_ac (⟨h11, by decide, by decide⟩) gx_an)))) (gx_call1 z_mt_ok rfl rfl rfl rfl c3 e3 (gx_seg 1 [] (Ps := []) (S' := (67, [gJ mk, gU, gI m, gR 105, gR 106, gJ r3, gU, gI p], [], M3)) rfl gx_an kk)))))))
set_option maxRecDepth 100000 in
theorem behind_67 {M : gx_M} {mk m th p : Int} (kk : gx_G l κ gx_sh z_mt zL_behind d (6, [gJ mk, gU, gI m, gR 105, gR 106, gJ th, gU, gI (p + 1)], [], M) Q) : gx_G l κ gx_sh z_mt zL_behind d (67, [gJ mk, gU, gI m, gR 105, gR 106, gJ th, gU, gI p], [], M) Q := (gx_seg 2 [] (Ps := []) (S' := (6, [gJ mk, gU, gI m, gR 105, gR 106, gJ th, gU, gI (p + 1)], [], M)) rfl gx_an kk)
set_option maxRecDepth 100000 in
theorem moves_e {M : gx_M} {mk : Int} (kk : gx_G l κ gx_sh z_mt zL_moves d (6, [gJ mk, gU, gR 105, gR 106, gI 0, gI 0], [], M) Q) : gx_G l κ gx_sh z_mt zL_moves d (0, [gJ mk, gU, gR 105, gR 106, gU, gU], [], M) Q := (gx_seg 4 [] (Ps := []) (S' := (6, [gJ mk, gU, gR 105, gR 106, gI 0, gI 0], [], M)) rfl gx_an kk)
set_option maxRecDepth 100000 in
theorem moves_6_1 {M : gx_M} {mk set m : Int} (h1 : (M 104 1) ≤ m) (h2 : gx_R m) (h3 : gx_R (M 104 1)) (hq : Q (some (gI set)) M) : gx_G l κ gx_sh z_mt zL_moves d (6, [gJ mk, gU, gR 105, gR 106, gI set, gI m], [], M) Q := (gx_seg 6 [1] (Ps := [0 ≤ (1 : Int) ∧ 1 < 2, gx_R m ∧ gx_R (M 104 1) ∧ ((M 104 1) ≤ m)]) (S' := (46, [gJ mk, gU, gR 105, gR 106, gI set, gI m], [gI set], M)) rfl (gx_ac (by decide) (gx_ac (⟨h2, h3, h1⟩) gx_an)) (gx_ret (P := none) (rv := (some (gI set))) rfl (fun _ h => by cases h) hq))
set_option maxRecDepth 100000 in
theorem moves_6_01 {M M1 : gx_M} {mk set m r1 : Int} {d1 : Nat} (h1 : m < (M 104 1)) (h2 : gx_R m) (h3 : gx_R (M 104 1)) (c1 : gx_X l κ gx_sh z_mt zL_can d1 [gJ mk, gI m, gR 105, gR 106] M (gx_eq (some (gI r1)) M1)) (e1 : d1 + 1 ≤ d) (h6 : r1 = 0) (h7 : gx_R r1) (kk : gx_G l κ gx_sh z_mt zL_moves d (35, [gJ mk, gU, gR 105, gR 106, gU, gI m], [gI 0, gI set], M1) Q) : gx_G l κ gx_sh z_mt zL_moves d (6, [gJ mk, gU, gR 105, gR 106, gI set, gI m], [], M) Q := (gx_seg 10 [0] (Ps := [0 ≤ (1 : Int) ∧ 1 < 2, gx_R m ∧ gx_R (M 104 1) ∧ (m < (M 104 1))]) (S' := (21, [gJ mk, gU, gR 105, gR 106, gI set, gI m], [gR 106, gR 105, gI m, gJ mk, gI set], M)) rfl (gx_ac (by decide) (gx_ac (⟨h2, h3, h1⟩) gx_an)) (gx_call1 z_mt_ok rfl rfl rfl rfl c1 e1 (gx_seg 2 [1] (Ps := [gx_R r1 ∧ (r1 = 0)]) (S' := (35, [gJ mk, gU, gR 105, gR 106, gI set, gI m], [gI 0, gI set], M1)) rfl (gx_ac (⟨h7, h6⟩) gx_an) (gx_fgt (gx_lk (gx_lu (gx_lk (gx_lk (gx_lu (gx_lk gx_ln)))))) kk))))
set_option maxRecDepth 100000 in
theorem moves_6_00 {M M1 : gx_M} {mk set m r1 : Int} {d1 : Nat} (h1 : m < (M 104 1)) (h2 : gx_R m) (h3 : gx_R (M 104 1)) (c1 : gx_X l κ gx_sh z_mt zL_can d1 [gJ mk, gI m, gR 105, gR 106] M (gx_eq (some (gI r1)) M1)) (e1 : d1 + 1 ≤ d) (h6 : ¬ r1 = 0) (h7 : gx_R r1) (kk : gx_G l κ gx_sh z_mt zL_moves d (35, [gJ mk, gU, gR 105, gR 106, gU, gI m], [gI (gx_shl 1 m), gI set], M1) Q) : gx_G l κ gx_sh z_mt zL_moves d (6, [gJ mk, gU, gR 105, gR 106, gI set, gI m], [], M) Q := (gx_seg 10 [0] (Ps := [0 ≤ (1 : Int) ∧ 1 < 2, gx_R m ∧ gx_R (M 104 1) ∧ (m < (M 104 1))]) (S' := (21, [gJ mk, gU, gR 105, gR 106, gI set, gI m], [gR 106, gR 105, gI m, gJ mk, gI set], M)) rfl (gx_ac (by decide) (gx_ac (⟨h2, h3, h1⟩) gx_an)) (gx_call1 z_mt_ok rfl rfl rfl rfl c1 e1 (gx_seg 5 [0] (Ps := [gx_R r1 ∧ (¬ r1 = 0)]) (S' := (35, [gJ mk, gU, gR 105, gR 106, gI set, gI m], [gI (gx_shl 1 m), gI set], M1)) rfl (gx_ac (⟨h7, h6⟩) gx_an) (gx_fgt (gx_lk (gx_lu (gx_lk (gx_lk (gx_lu (gx_lk gx_ln)))))) kk))))
set_option maxRecDepth 100000 in
theorem moves_35 {M : gx_M} {mk m s0 s1 : Int} (kk : gx_G l κ gx_sh z_mt zL_moves d (6, [gJ mk, gU, gR 105, gR 106, gI (gx_or s1 s0), gI (m + 1)], [], M) Q) : gx_G l κ gx_sh z_mt zL_moves d (35, [gJ mk, gU, gR 105, gR 106, gU, gI m], [gI s0, gI s1], M) Q := (gx_seg 4 [] (Ps := []) (S' := (6, [gJ mk, gU, gR 105, gR 106, gI (gx_or s1 s0), gI (m + 1)], [], M)) rfl gx_an kk)
set_option maxRecDepth 100000 in
theorem bits_e {M : gx_M} {v : Int} (kk : gx_G l κ gx_sh z_mt zL_bits d (4, [gU, gI 0, gI v], [], M) Q) : gx_G l κ gx_sh z_mt zL_bits d (0, [gI v, gU, gU], [], M) Q := (gx_seg 4 [] (Ps := []) (S' := (4, [gI v, gI 0, gI v], [], M)) rfl gx_an (gx_fgt (gx_lu (gx_lk (gx_lk gx_ln))) kk))
set_option maxRecDepth 100000 in
theorem bits_4_1 {M : gx_M} {n w : Int} (h1 : w = 0) (h2 : gx_R w) (hq : Q (some (gI n)) M) : gx_G l κ gx_sh z_mt zL_bits d (4, [gU, gI n, gI w], [], M) Q := (gx_seg 3 [1] (Ps := [gx_R w ∧ (w = 0)]) (S' := (21, [gU, gI n, gI w], [gI n], M)) rfl (gx_ac (⟨h2, h1⟩) gx_an) (gx_ret (P := none) (rv := (some (gI n))) rfl (fun _ h => by cases h) hq))
set_option maxRecDepth 100000 in
theorem bits_4_0 {M : gx_M} {n w : Int} (h1 : ¬ w = 0) (h2 : gx_R w) (kk : gx_G l κ gx_sh z_mt zL_bits d (4, [gU, gI (n + 1), gI (gx_and w (w - 1))], [], M) Q) : gx_G l κ gx_sh z_mt zL_bits d (4, [gU, gI n, gI w], [], M) Q := (gx_seg 10 [0] (Ps := [gx_R w ∧ (¬ w = 0)]) (S' := (4, [gU, gI (n + 1), gI (gx_and w (w - 1))], [], M)) rfl (gx_ac (⟨h2, h1⟩) gx_an) kk)
end SEGA
end
