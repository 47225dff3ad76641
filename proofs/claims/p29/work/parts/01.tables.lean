-- ===== PART A: goes FIRST, ahead of the names: the tables' words, and 'selects' of the private methods out of them =====
/-- a private method of a class that the tables say can be made, by its rows of tables_1 -/
def lw_okq (q : MethodName × Nat) : Prop := (q.1.cls ≠ "java/lang/invoke/MethodHandle" ∧ q.1.cls ≠ "java/lang/invoke/VarHandle") ∧ Cond.instantiable q.1.cls q.2 ∈ tables_1 ∧ Cond.privateMethod q.1 ∈ tables_1 ∧ Cond.instanceMethod q.1 ∈ tables_1
theorem lw_p0 : lw_okq (⟨"TokenNets$Net", "carry", "(I)V"⟩, 7) := ⟨⟨by decide +kernel, by decide +kernel⟩, List.mem_of_getElem? (i := 22) (by decide +kernel), List.mem_of_getElem? (i := 323) (by decide +kernel), List.mem_of_getElem? (i := 324) (by decide +kernel)⟩
theorem lw_p1 : lw_okq (⟨"TokenNets$Sums", "hasCoveredPart", "(I)Z"⟩, 8) := ⟨⟨by decide +kernel, by decide +kernel⟩, List.mem_of_getElem? (i := 99) (by decide +kernel), List.mem_of_getElem? (i := 451) (by decide +kernel), List.mem_of_getElem? (i := 452) (by decide +kernel)⟩
theorem lw_p2 : lw_okq (⟨"TokenNets$Sums", "canBalance", "(II)Z"⟩, 8) := ⟨⟨by decide +kernel, by decide +kernel⟩, List.mem_of_getElem? (i := 99) (by decide +kernel), List.mem_of_getElem? (i := 458) (by decide +kernel), List.mem_of_getElem? (i := 459) (by decide +kernel)⟩
theorem lw_p3 : lw_okq (⟨"TokenNets$Sums", "keep", "()V"⟩, 8) := ⟨⟨by decide +kernel, by decide +kernel⟩, List.mem_of_getElem? (i := 99) (by decide +kernel), List.mem_of_getElem? (i := 462) (by decide +kernel), List.mem_of_getElem? (i := 463) (by decide +kernel)⟩
theorem lw_p4 : lw_okq (⟨"TokenNets$Sums", "allDividedBy", "(I)Z"⟩, 8) := ⟨⟨by decide +kernel, by decide +kernel⟩, List.mem_of_getElem? (i := 99) (by decide +kernel), List.mem_of_getElem? (i := 466) (by decide +kernel), List.mem_of_getElem? (i := 467) (by decide +kernel)⟩
theorem lw_p5 : lw_okq (⟨"TokenNets$Sums", "balance", "(II)V"⟩, 8) := ⟨⟨by decide +kernel, by decide +kernel⟩, List.mem_of_getElem? (i := 99) (by decide +kernel), List.mem_of_getElem? (i := 482) (by decide +kernel), List.mem_of_getElem? (i := 483) (by decide +kernel)⟩
theorem lw_p6 : lw_okq (⟨"TokenNets$Reach", "meet", "(I)V"⟩, 4) := ⟨⟨by decide +kernel, by decide +kernel⟩, List.mem_of_getElem? (i := 133) (by decide +kernel), List.mem_of_getElem? (i := 540) (by decide +kernel), List.mem_of_getElem? (i := 541) (by decide +kernel)⟩
theorem lw_p7 : lw_okq (⟨"TokenNets$Marks", "isLike", "(I[II)Z"⟩, 7) := ⟨⟨by decide +kernel, by decide +kernel⟩, List.mem_of_getElem? (i := 139) (by decide +kernel), List.mem_of_getElem? (i := 552) (by decide +kernel), List.mem_of_getElem? (i := 553) (by decide +kernel)⟩
theorem lw_p8 : lw_okq (⟨"TokenNets$Reach", "follow", "(I)V"⟩, 4) := ⟨⟨by decide +kernel, by decide +kernel⟩, List.mem_of_getElem? (i := 133) (by decide +kernel), List.mem_of_getElem? (i := 560) (by decide +kernel), List.mem_of_getElem? (i := 561) (by decide +kernel)⟩
theorem lw_p9 : lw_okq (⟨"TokenNets$Tree", "add", "(II)V"⟩, 5) := ⟨⟨by decide +kernel, by decide +kernel⟩, List.mem_of_getElem? (i := 197) (by decide +kernel), List.mem_of_getElem? (i := 591) (by decide +kernel), List.mem_of_getElem? (i := 592) (by decide +kernel)⟩
theorem lw_p10 : lw_okq (⟨"TokenNets$Tree", "follow", "(I)V"⟩, 5) := ⟨⟨by decide +kernel, by decide +kernel⟩, List.mem_of_getElem? (i := 197) (by decide +kernel), List.mem_of_getElem? (i := 597) (by decide +kernel), List.mem_of_getElem? (i := 598) (by decide +kernel)⟩
theorem lw_p11 : lw_okq (⟨"TokenNets$Tree", "outgrow", "(I[I)V"⟩, 5) := ⟨⟨by decide +kernel, by decide +kernel⟩, List.mem_of_getElem? (i := 197) (by decide +kernel), List.mem_of_getElem? (i := 607) (by decide +kernel), List.mem_of_getElem? (i := 608) (by decide +kernel)⟩
def lw_privs_1 : List (MethodName × Nat) := [(⟨"TokenNets$Net", "carry", "(I)V"⟩, 7), (⟨"TokenNets$Sums", "hasCoveredPart", "(I)Z"⟩, 8), (⟨"TokenNets$Sums", "canBalance", "(II)Z"⟩, 8), (⟨"TokenNets$Sums", "keep", "()V"⟩, 8), (⟨"TokenNets$Sums", "allDividedBy", "(I)Z"⟩, 8), (⟨"TokenNets$Sums", "balance", "(II)V"⟩, 8), (⟨"TokenNets$Reach", "meet", "(I)V"⟩, 4), (⟨"TokenNets$Marks", "isLike", "(I[II)Z"⟩, 7), (⟨"TokenNets$Reach", "follow", "(I)V"⟩, 4), (⟨"TokenNets$Tree", "add", "(II)V"⟩, 5), (⟨"TokenNets$Tree", "follow", "(I)V"⟩, 5), (⟨"TokenNets$Tree", "outgrow", "(I[I)V"⟩, 5)]
theorem lw_r1 : ∀ q ∈ lw_privs_1, lw_okq q := List.forall_mem_cons.mpr ⟨lw_p0, List.forall_mem_cons.mpr ⟨lw_p1, List.forall_mem_cons.mpr ⟨lw_p2, List.forall_mem_cons.mpr ⟨lw_p3, List.forall_mem_cons.mpr ⟨lw_p4, List.forall_mem_cons.mpr ⟨lw_p5, List.forall_mem_cons.mpr ⟨lw_p6, List.forall_mem_cons.mpr ⟨lw_p7, List.forall_mem_cons.mpr ⟨lw_p8, List.forall_mem_cons.mpr ⟨lw_p9, List.forall_mem_cons.mpr ⟨lw_p10, List.forall_mem_cons.mpr ⟨lw_p11, fun _ h => absurd h List.not_mem_nil⟩⟩⟩⟩⟩⟩⟩⟩⟩⟩⟩⟩
def lw_privs : List (MethodName × Nat) := lw_privs_1
def lw_tbl : List Cond := k2_sels lw_privs ++ tables_1
theorem lw_privs_ok : ∀ q ∈ lw_privs, lw_okq q := lw_r1
theorem goodIn_r {big : List Cond} (ws : List Cond) (ps : List Nat) (hp : ws = ps.filterMap (fun i => big[i]?)) (h : ws.all goodWord = true) : GoodIn big ws := by
  intro w hw
  have h1 := List.all_eq_true.mp h w hw
  rw [hp] at hw
  obtain ⟨i, -, hi⟩ := List.mem_filterMap.mp hw
  have hm : w ∈ big := by first | exact List.mem_of_getElem? hi | exact List.getElem?_mem hi
  exact ⟨hm, good_of_word h1⟩
theorem goodIn_app {big a b : List Cond} (ha : GoodIn big a) (hb : GoodIn big b) : GoodIn big (a ++ b) := fun w h => (List.mem_append.mp h).elim (ha w) (hb w)
theorem goodIn_ca {big a b : List Cond} {c : Cond} (ha : GoodIn big (c :: a)) (hb : GoodIn big b) : GoodIn big (c :: (a ++ b)) := fun w h => (List.mem_cons.mp h).elim (fun e => ha w (List.mem_cons.mpr (Or.inl e))) (fun h => (List.mem_append.mp h).elim (fun h => ha w (List.mem_cons.mpr (Or.inr h))) (hb w))
theorem goodIn_sub {big ws : List Cond} (hm : ∀ w ∈ ws, w ∈ big) (h : ws.all goodWord = true) : GoodIn big ws := fun w hw => ⟨hm w hw, good_of_word (List.all_eq_true.mp h w hw)⟩
def RX0 : String := "TokenNets$Bits"
def TX0 : u_T := fun k => match k with
  | _ => ("", "", "", false)
def tyX0 : Nat → FieldType := fun k => match k with
  | _ => .int
abbrev wsX00 : List Cond := u_ws RX0 TX0 0
theorem nmX0 : ∀ a, a < 0 → ∀ b, b < 0 → a ≠ b → (TX0 a).2.1 ≠ (TX0 b).2.1 := by decide +kernel
theorem tyX0_ok : ∀ k, k < 0 → parseFieldDescriptor (TX0 k).2.2.1 = some (tyX0 k) := by decide +kernel
def RX1 : String := "TokenNets$History"
def TX1 : u_T := fun k => match k with
  | 0 => ("TokenNets$History", "rows", "[LTokenNets$Net;", true)
  | 1 => ("TokenNets$History", "next", "I", false)
  | _ => ("TokenNets$History", "many", "I", false)
def tyX1 : Nat → FieldType := fun k => match k with
  | 0 => .array (.object "TokenNets$Net")
  | 1 => .int
  | _ => .int
abbrev wsX10 : List Cond := u_ws RX1 TX1 3
theorem nmX1 : ∀ a, a < 3 → ∀ b, b < 3 → a ≠ b → (TX1 a).2.1 ≠ (TX1 b).2.1 := by decide +kernel
theorem tyX1_ok : ∀ k, k < 3 → parseFieldDescriptor (TX1 k).2.2.1 = some (tyX1 k) := by decide +kernel
abbrev cX1_init : ByteArray := prog_3_method_1_code
def yX1_init : MethodName := ⟨RX1, "<init>", "()V"⟩
abbrev cX1_note : ByteArray := prog_3_method_2_code
def yX1_note : MethodName := ⟨RX1, "note", "(LTokenNets$Net;)V"⟩
abbrev cX1_settle : ByteArray := prog_3_method_3_code
def yX1_settle : MethodName := ⟨RX1, "settle", "(I)I"⟩
def RX2 : String := "TokenNets$Marks"
def TX2 : u_T := fun k => match k with
  | 0 => ("TokenNets$Marks", "net", "LTokenNets$Net;", true)
  | 1 => ("TokenNets$Marks", "known", "Z", false)
  | 2 => ("TokenNets$Marks", "rows", "[I", true)
  | 3 => ("TokenNets$Marks", "next", "[I", true)
  | 4 => ("TokenNets$Marks", "many", "I", false)
  | 5 => ("TokenNets$Marks", "tooMany", "Z", false)
  | _ => ("TokenNets$Marks", "possible", "I", false)
def tyX2 : Nat → FieldType := fun k => match k with
  | 0 => .object "TokenNets$Net"
  | 1 => .boolean
  | 2 => .array .int
  | 3 => .array .int
  | 4 => .int
  | 5 => .boolean
  | _ => .int
abbrev wsX20 : List Cond := u_ws RX2 TX2 7
theorem nmX2 : ∀ a, a < 7 → ∀ b, b < 7 → a ≠ b → (TX2 a).2.1 ≠ (TX2 b).2.1 := by decide +kernel
theorem tyX2_ok : ∀ k, k < 7 → parseFieldDescriptor (TX2 k).2.2.1 = some (tyX2 k) := by decide +kernel
abbrev cX2_init : ByteArray := prog_4_method_1_code
def yX2_init : MethodName := ⟨RX2, "<init>", "()V"⟩
abbrev cX2_begins : ByteArray := prog_4_method_2_code
def yX2_begins : MethodName := ⟨RX2, "begins", "(LTokenNets$Net;)Z"⟩
abbrev cX2_leads : ByteArray := prog_4_method_3_code
def yX2_leads : MethodName := ⟨RX2, "leads", "(III)Z"⟩
abbrev cX2_takeIn : ByteArray := prog_4_method_4_code
def yX2_takeIn : MethodName := ⟨RX2, "takeIn", "()Z"⟩
abbrev cX2_isNext : ByteArray := prog_4_method_5_code
def yX2_isNext : MethodName := ⟨RX2, "isNext", "(I)Z"⟩
abbrev cX2_areSame : ByteArray := prog_4_method_6_code
def yX2_areSame : MethodName := ⟨RX2, "areSame", "(II)Z"⟩
abbrev cX2_isLike : ByteArray := prog_4_method_7_code
def yX2_isLike : MethodName := ⟨RX2, "isLike", "(I[II)Z"⟩
def RX3 : String := "TokenNets$Net"
def TX3 : u_T := fun k => match k with
  | 0 => ("TokenNets$Net", "places", "I", false)
  | 1 => ("TokenNets$Net", "moves", "I", false)
  | 2 => ("TokenNets$Net", "tokens", "[I", true)
  | 3 => ("TokenNets$Net", "most", "[I", true)
  | 4 => ("TokenNets$Net", "made", "[I", true)
  | 5 => ("TokenNets$Net", "takes", "[I", true)
  | _ => ("TokenNets$Net", "gives", "[I", true)
def tyX3 : Nat → FieldType := fun k => match k with
  | 0 => .int
  | 1 => .int
  | 2 => .array .int
  | 3 => .array .int
  | 4 => .array .int
  | 5 => .array .int
  | _ => .array .int
abbrev wsX30 : List Cond := u_ws RX3 TX3 7
theorem nmX3 : ∀ a, a < 7 → ∀ b, b < 7 → a ≠ b → (TX3 a).2.1 ≠ (TX3 b).2.1 := by decide +kernel
theorem tyX3_ok : ∀ k, k < 7 → parseFieldDescriptor (TX3 k).2.2.1 = some (tyX3 k) := by decide +kernel
abbrev cX3_init : ByteArray := prog_5_method_1_code
def yX3_init : MethodName := ⟨RX3, "<init>", "()V"⟩
abbrev cX3_copy : ByteArray := prog_5_method_2_code
def yX3_copy : MethodName := ⟨RX3, "copy", "(LTokenNets$Net;)V"⟩
abbrev cX3_sameArcs : ByteArray := prog_5_method_3_code
def yX3_sameArcs : MethodName := ⟨RX3, "sameArcs", "(LTokenNets$Net;)Z"⟩
abbrev cX3_sameMarking : ByteArray := prog_5_method_4_code
def yX3_sameMarking : MethodName := ⟨RX3, "sameMarking", "(LTokenNets$Net;)Z"⟩
abbrev cX3_hasPlace : ByteArray := prog_5_method_5_code
def yX3_hasPlace : MethodName := ⟨RX3, "hasPlace", "(I)Z"⟩
abbrev cX3_hasMove : ByteArray := prog_5_method_6_code
def yX3_hasMove : MethodName := ⟨RX3, "hasMove", "(I)Z"⟩
abbrev cX3_addPlace : ByteArray := prog_5_method_7_code
def yX3_addPlace : MethodName := ⟨RX3, "addPlace", "(I)I"⟩
abbrev cX3_addMove : ByteArray := prog_5_method_8_code
def yX3_addMove : MethodName := ⟨RX3, "addMove", "()I"⟩
abbrev cX3_setArc : ByteArray := prog_5_method_9_code
def yX3_setArc : MethodName := ⟨RX3, "setArc", "(IIII)I"⟩
abbrev cX3_setTokens : ByteArray := prog_5_method_10_code
def yX3_setTokens : MethodName := ⟨RX3, "setTokens", "(II)I"⟩
abbrev cX3_makeOne : ByteArray := prog_5_method_11_code
def yX3_makeOne : MethodName := ⟨RX3, "makeOne", "(I)I"⟩
abbrev cX3_makeBySeed : ByteArray := prog_5_method_12_code
def yX3_makeBySeed : MethodName := ⟨RX3, "makeBySeed", "(II)I"⟩
abbrev cX3_memberAt : ByteArray := prog_5_method_13_code
def yX3_memberAt : MethodName := ⟨RX3, "memberAt", "(II)I"⟩
abbrev cX3_carry : ByteArray := prog_5_method_14_code
def yX3_carry : MethodName := ⟨RX3, "carry", "(I)V"⟩
abbrev cX3_canMake : ByteArray := prog_5_method_15_code
def yX3_canMake : MethodName := ⟨RX3, "canMake", "(I)Z"⟩
abbrev cX3_allows : ByteArray := prog_5_method_16_code
def yX3_allows : MethodName := ⟨RX3, "allows", "([IIII)Z"⟩
abbrev cX3_step : ByteArray := prog_5_method_17_code
def yX3_step : MethodName := ⟨RX3, "step", "([III[I)V"⟩
abbrev cX3_possibleMoves : ByteArray := prog_5_method_18_code
def yX3_possibleMoves : MethodName := ⟨RX3, "possibleMoves", "()I"⟩
abbrev cX3_allTokens : ByteArray := prog_5_method_19_code
def yX3_allTokens : MethodName := ⟨RX3, "allTokens", "()I"⟩
abbrev cX3_tokensIn : ByteArray := prog_5_method_20_code
def yX3_tokensIn : MethodName := ⟨RX3, "tokensIn", "(I)I"⟩
abbrev cX3_allMade : ByteArray := prog_5_method_21_code
def yX3_allMade : MethodName := ⟨RX3, "allMade", "()I"⟩
abbrev cX3_movesAt : ByteArray := prog_5_method_22_code
def yX3_movesAt : MethodName := ⟨RX3, "movesAt", "([II)I"⟩
abbrev cX3_placesOf : ByteArray := prog_5_method_23_code
def yX3_placesOf : MethodName := ⟨RX3, "placesOf", "([II)I"⟩
abbrev cX3_surplus : ByteArray := prog_5_method_24_code
def yX3_surplus : MethodName := ⟨RX3, "surplus", "(I)I"⟩
abbrev cX3_greatestClosed : ByteArray := prog_5_method_25_code
def yX3_greatestClosed : MethodName := ⟨RX3, "greatestClosed", "(I[I[I)I"⟩
def RX4 : String := "TokenNets$Pad"
def TX4 : u_T := fun k => match k with
  | 0 => ("TokenNets$Pad", "signs", "[C", true)
  | _ => ("TokenNets$Pad", "length", "I", false)
def tyX4 : Nat → FieldType := fun k => match k with
  | 0 => .array .char
  | _ => .int
abbrev wsX40 : List Cond := u_ws RX4 TX4 2
theorem nmX4 : ∀ a, a < 2 → ∀ b, b < 2 → a ≠ b → (TX4 a).2.1 ≠ (TX4 b).2.1 := by decide +kernel
theorem tyX4_ok : ∀ k, k < 2 → parseFieldDescriptor (TX4 k).2.2.1 = some (tyX4 k) := by decide +kernel
abbrev cX4_init : ByteArray := prog_6_method_1_code
def yX4_init : MethodName := ⟨RX4, "<init>", "()V"⟩
def RX5 : String := "TokenNets$Reach"
def TX5 : u_T := fun k => match k with
  | 0 => ("TokenNets$Reach", "marks", "LTokenNets$Marks;", true)
  | 1 => ("TokenNets$Reach", "moves", "[I", true)
  | 2 => ("TokenNets$Reach", "table", "[I", true)
  | _ => ("TokenNets$Reach", "dead", "I", false)
def tyX5 : Nat → FieldType := fun k => match k with
  | 0 => .object "TokenNets$Marks"
  | 1 => .array .int
  | 2 => .array .int
  | _ => .int
abbrev wsX50 : List Cond := u_ws RX5 TX5 4
theorem nmX5 : ∀ a, a < 4 → ∀ b, b < 4 → a ≠ b → (TX5 a).2.1 ≠ (TX5 b).2.1 := by decide +kernel
theorem tyX5_ok : ∀ k, k < 4 → parseFieldDescriptor (TX5 k).2.2.1 = some (tyX5 k) := by decide +kernel
abbrev cX5_init : ByteArray := prog_7_method_1_code
def yX5_init : MethodName := ⟨RX5, "<init>", "()V"⟩
abbrev cX5_find : ByteArray := prog_7_method_2_code
def yX5_find : MethodName := ⟨RX5, "find", "(LTokenNets$Net;)V"⟩
abbrev cX5_follow : ByteArray := prog_7_method_3_code
def yX5_follow : MethodName := ⟨RX5, "follow", "(I)V"⟩
abbrev cX5_meet : ByteArray := prog_7_method_4_code
def yX5_meet : MethodName := ⟨RX5, "meet", "(I)V"⟩
abbrev cX5_hash : ByteArray := prog_7_method_5_code
def yX5_hash : MethodName := ⟨RX5, "hash", "([I)I"⟩
abbrev cX5_fewestMoves : ByteArray := prog_7_method_6_code
def yX5_fewestMoves : MethodName := ⟨RX5, "fewestMoves", "(II)I"⟩
def RX6 : String := "TokenNets$Sums"
def TX6 : u_T := fun k => match k with
  | 0 => ("TokenNets$Sums", "seen", "LTokenNets$Net;", true)
  | 1 => ("TokenNets$Sums", "known", "Z", false)
  | 2 => ("TokenNets$Sums", "gains", "[I", true)
  | 3 => ("TokenNets$Sums", "balances", "[I", true)
  | 4 => ("TokenNets$Sums", "weights", "[I", true)
  | 5 => ("TokenNets$Sums", "covered", "[Z", true)
  | 6 => ("TokenNets$Sums", "found", "[I", false)
  | _ => ("TokenNets$Sums", "many", "I", false)
def tyX6 : Nat → FieldType := fun k => match k with
  | 0 => .object "TokenNets$Net"
  | 1 => .boolean
  | 2 => .array .int
  | 3 => .array .int
  | 4 => .array .int
  | 5 => .array .boolean
  | 6 => .array .int
  | _ => .int
abbrev wsX60 : List Cond := u_ws RX6 TX6 8
theorem nmX6 : ∀ a, a < 8 → ∀ b, b < 8 → a ≠ b → (TX6 a).2.1 ≠ (TX6 b).2.1 := by decide +kernel
theorem tyX6_ok : ∀ k, k < 8 → parseFieldDescriptor (TX6 k).2.2.1 = some (tyX6 k) := by decide +kernel
abbrev cX6_init : ByteArray := prog_8_method_1_code
def yX6_init : MethodName := ⟨RX6, "<init>", "()V"⟩
abbrev cX6_weight : ByteArray := prog_8_method_2_code
def yX6_weight : MethodName := ⟨RX6, "weight", "(II)I"⟩
abbrev cX6_worth : ByteArray := prog_8_method_3_code
def yX6_worth : MethodName := ⟨RX6, "worth", "(I[I)I"⟩
abbrev cX6_find : ByteArray := prog_8_method_4_code
def yX6_find : MethodName := ⟨RX6, "find", "(LTokenNets$Net;)V"⟩
abbrev cX6_hasCoveredPart : ByteArray := prog_8_method_5_code
def yX6_hasCoveredPart : MethodName := ⟨RX6, "hasCoveredPart", "(I)Z"⟩
abbrev cX6_weigh : ByteArray := prog_8_method_6_code
def yX6_weigh : MethodName := ⟨RX6, "weigh", "(LTokenNets$Sums;II)V"⟩
abbrev cX6_balance : ByteArray := prog_8_method_7_code
def yX6_balance : MethodName := ⟨RX6, "balance", "(II)V"⟩
abbrev cX6_canBalance : ByteArray := prog_8_method_8_code
def yX6_canBalance : MethodName := ⟨RX6, "canBalance", "(II)Z"⟩
abbrev cX6_keep : ByteArray := prog_8_method_9_code
def yX6_keep : MethodName := ⟨RX6, "keep", "()V"⟩
abbrev cX6_allDividedBy : ByteArray := prog_8_method_10_code
def yX6_allDividedBy : MethodName := ⟨RX6, "allDividedBy", "(I)Z"⟩
def RX7 : String := "TokenNets$Tree"
def TX7 : u_T := fun k => match k with
  | 0 => ("TokenNets$Tree", "marks", "LTokenNets$Marks;", true)
  | 1 => ("TokenNets$Tree", "above", "[I", true)
  | 2 => ("TokenNets$Tree", "depths", "[I", true)
  | 3 => ("TokenNets$Tree", "path", "[I", true)
  | _ => ("TokenNets$Tree", "deepest", "I", false)
def tyX7 : Nat → FieldType := fun k => match k with
  | 0 => .object "TokenNets$Marks"
  | 1 => .array .int
  | 2 => .array .int
  | 3 => .array .int
  | _ => .int
abbrev wsX70 : List Cond := u_ws RX7 TX7 5
theorem nmX7 : ∀ a, a < 5 → ∀ b, b < 5 → a ≠ b → (TX7 a).2.1 ≠ (TX7 b).2.1 := by decide +kernel
theorem tyX7_ok : ∀ k, k < 5 → parseFieldDescriptor (TX7 k).2.2.1 = some (tyX7 k) := by decide +kernel
abbrev cX7_init : ByteArray := prog_9_method_1_code
def yX7_init : MethodName := ⟨RX7, "<init>", "()V"⟩
abbrev cX7_find : ByteArray := prog_9_method_2_code
def yX7_find : MethodName := ⟨RX7, "find", "(LTokenNets$Net;)V"⟩
abbrev cX7_add : ByteArray := prog_9_method_3_code
def yX7_add : MethodName := ⟨RX7, "add", "(II)V"⟩
abbrev cX7_follow : ByteArray := prog_9_method_4_code
def yX7_follow : MethodName := ⟨RX7, "follow", "(I)V"⟩
abbrev cX7_outgrow : ByteArray := prog_9_method_5_code
def yX7_outgrow : MethodName := ⟨RX7, "outgrow", "(I[I)V"⟩
abbrev cX7_mostTokens : ByteArray := prog_9_method_6_code
def yX7_mostTokens : MethodName := ⟨RX7, "mostTokens", "(I)I"⟩
abbrev cX7_endlessPlaces : ByteArray := prog_9_method_7_code
def yX7_endlessPlaces : MethodName := ⟨RX7, "endlessPlaces", "()I"⟩
def RX8 : String := "TokenNets"
def TX8 : u_T := fun k => match k with
  | 0 => ("TokenNets", "net", "LTokenNets$Net;", true)
  | 1 => ("TokenNets", "history", "LTokenNets$History;", true)
  | 2 => ("TokenNets", "slots", "[LTokenNets$Net;", true)
  | 3 => ("TokenNets", "saved", "[Z", true)
  | 4 => ("TokenNets", "pad", "LTokenNets$Pad;", true)
  | 5 => ("TokenNets", "sums", "LTokenNets$Sums;", true)
  | 6 => ("TokenNets", "reach", "LTokenNets$Reach;", true)
  | _ => ("TokenNets", "tree", "LTokenNets$Tree;", true)
def tyX8 : Nat → FieldType := fun k => match k with
  | 0 => .object "TokenNets$Net"
  | 1 => .object "TokenNets$History"
  | 2 => .array (.object "TokenNets$Net")
  | 3 => .array .boolean
  | 4 => .object "TokenNets$Pad"
  | 5 => .object "TokenNets$Sums"
  | 6 => .object "TokenNets$Reach"
  | _ => .object "TokenNets$Tree"
abbrev wsX80 : List Cond := u_ws RX8 TX8 8
theorem nmX8 : ∀ a, a < 8 → ∀ b, b < 8 → a ≠ b → (TX8 a).2.1 ≠ (TX8 b).2.1 := by decide +kernel
theorem tyX8_ok : ∀ k, k < 8 → parseFieldDescriptor (TX8 k).2.2.1 = some (tyX8 k) := by decide +kernel
abbrev cX8_init : ByteArray := prog_1_method_1_code
def yX8_init : MethodName := ⟨RX8, "<init>", "()V"⟩
abbrev cX8_place : ByteArray := prog_1_method_2_code
def yX8_place : MethodName := ⟨RX8, "place", "(I)I"⟩
abbrev cX8_move : ByteArray := prog_1_method_3_code
def yX8_move : MethodName := ⟨RX8, "move", "()I"⟩
abbrev cX8_arc : ByteArray := prog_1_method_4_code
def yX8_arc : MethodName := ⟨RX8, "arc", "(IIII)I"⟩
abbrev cX8_tokens : ByteArray := prog_1_method_5_code
def yX8_tokens : MethodName := ⟨RX8, "tokens", "(II)I"⟩
abbrev cX8_make : ByteArray := prog_1_method_6_code
def yX8_make : MethodName := ⟨RX8, "make", "(I)I"⟩
abbrev cX8_run : ByteArray := prog_1_method_7_code
def yX8_run : MethodName := ⟨RX8, "run", "(II)I"⟩
abbrev cX8_ofPlace : ByteArray := prog_1_method_8_code
def yX8_ofPlace : MethodName := ⟨RX8, "ofPlace", "(II)I"⟩
abbrev cX8_ofMove : ByteArray := prog_1_method_9_code
def yX8_ofMove : MethodName := ⟨RX8, "ofMove", "(II)I"⟩
abbrev cX8_count : ByteArray := prog_1_method_11_code
def yX8_count : MethodName := ⟨RX8, "count", "(I)I"⟩
abbrev cX8_kept : ByteArray := prog_1_method_14_code
def yX8_kept : MethodName := ⟨RX8, "kept", "(II)I"⟩
abbrev cX8_keptMany : ByteArray := prog_1_method_15_code
def yX8_keptMany : MethodName := ⟨RX8, "keptMany", "()I"⟩
abbrev cX8_trap : ByteArray := prog_1_method_16_code
def yX8_trap : MethodName := ⟨RX8, "trap", "(II)I"⟩
abbrev cX8_reached : ByteArray := prog_1_method_17_code
def yX8_reached : MethodName := ⟨RX8, "reached", "(I)I"⟩
abbrev cX8_fewest : ByteArray := prog_1_method_18_code
def yX8_fewest : MethodName := ⟨RX8, "fewest", "(II)I"⟩
abbrev cX8_growth : ByteArray := prog_1_method_19_code
def yX8_growth : MethodName := ⟨RX8, "growth", "(I)I"⟩
abbrev cX8_bound : ByteArray := prog_1_method_20_code
def yX8_bound : MethodName := ⟨RX8, "bound", "(I)I"⟩
def RX9 : String := "TokenNetsModel"
def TX9 : u_T := fun k => match k with
  | _ => ("", "", "", false)
def tyX9 : Nat → FieldType := fun k => match k with
  | _ => .int
abbrev wsX90 : List Cond := u_ws RX9 TX9 0
theorem nmX9 : ∀ a, a < 0 → ∀ b, b < 0 → a ≠ b → (TX9 a).2.1 ≠ (TX9 b).2.1 := by decide +kernel
theorem tyX9_ok : ∀ k, k < 0 → parseFieldDescriptor (TX9 k).2.2.1 = some (tyX9 k) := by decide +kernel
def RJx8e188 : String := "java/lang/Cloneable"
def TJx8e188 : u_T := fun k => match k with
  | _ => ("", "", "", false)
def tyJx8e188 : Nat → FieldType := fun k => match k with
  | _ => .int
abbrev wsJx8e1880 : List Cond := u_ws RJx8e188 TJx8e188 0
theorem nmJx8e188 : ∀ a, a < 0 → ∀ b, b < 0 → a ≠ b → (TJx8e188 a).2.1 ≠ (TJx8e188 b).2.1 := by decide +kernel
theorem tyJx8e188_ok : ∀ k, k < 0 → parseFieldDescriptor (TJx8e188 k).2.2.1 = some (tyJx8e188 k) := by decide +kernel
def RJ6 : String := "java/lang/Integer"
def TJ6 : u_T := fun k => match k with
  | _ => ("", "", "", false)
def tyJ6 : Nat → FieldType := fun k => match k with
  | _ => .int
abbrev wsJ60 : List Cond := u_ws RJ6 TJ6 0
theorem nmJ6 : ∀ a, a < 0 → ∀ b, b < 0 → a ≠ b → (TJ6 a).2.1 ≠ (TJ6 b).2.1 := by decide +kernel
theorem tyJ6_ok : ∀ k, k < 0 → parseFieldDescriptor (TJ6 k).2.2.1 = some (tyJ6 k) := by decide +kernel
abbrev cJ6_bitCount_0f7a4 : ByteArray := prog_13_method_49_code
def yJ6_bitCount_0f7a4 : MethodName := ⟨RJ6, "bitCount", "(I)I"⟩
def RJ9 : String := "java/lang/Math"
def TJ9 : u_T := fun k => match k with
  | _ => ("", "", "", false)
def tyJ9 : Nat → FieldType := fun k => match k with
  | _ => .int
abbrev wsJ90 : List Cond := u_ws RJ9 TJ9 0
theorem nmJ9 : ∀ a, a < 0 → ∀ b, b < 0 → a ≠ b → (TJ9 a).2.1 ≠ (TJ9 b).2.1 := by decide +kernel
theorem tyJ9_ok : ∀ k, k < 0 → parseFieldDescriptor (TJ9 k).2.2.1 = some (tyJ9 k) := by decide +kernel
abbrev cJ9_max_7cf53 : ByteArray := prog_14_method_65_code
def yJ9_max_7cf53 : MethodName := ⟨RJ9, "max", "(II)I"⟩
abbrev cJ9_min_7cf53 : ByteArray := prog_14_method_69_code
def yJ9_min_7cf53 : MethodName := ⟨RJ9, "min", "(II)I"⟩
def RJ10 : String := "java/lang/System"
def TJ10 : u_T := fun k => match k with
  | _ => ("", "", "", false)
def tyJ10 : Nat → FieldType := fun k => match k with
  | _ => .int
abbrev wsJ100 : List Cond := u_ws RJ10 TJ10 0
theorem nmJ10 : ∀ a, a < 0 → ∀ b, b < 0 → a ≠ b → (TJ10 a).2.1 ≠ (TJ10 b).2.1 := by decide +kernel
theorem tyJ10_ok : ∀ k, k < 0 → parseFieldDescriptor (TJ10 k).2.2.1 = some (tyJ10 k) := by decide +kernel
def RJ7 : String := "java/util/Arrays"
def TJ7 : u_T := fun k => match k with
  | _ => ("", "", "", false)
def tyJ7 : Nat → FieldType := fun k => match k with
  | _ => .int
abbrev wsJ70 : List Cond := u_ws RJ7 TJ7 0
theorem nmJ7 : ∀ a, a < 0 → ∀ b, b < 0 → a ≠ b → (TJ7 a).2.1 ≠ (TJ7 b).2.1 := by decide +kernel
theorem tyJ7_ok : ∀ k, k < 0 → parseFieldDescriptor (TJ7 k).2.2.1 = some (tyJ7 k) := by decide +kernel
abbrev cJ7_fill_53178 : ByteArray := prog_16_method_103_code
def yJ7_fill_53178 : MethodName := ⟨RJ7, "fill", "([II)V"⟩
abbrev cJ7_copyOf_59c91 : ByteArray := prog_16_method_123_code
def yJ7_copyOf_59c91 : MethodName := ⟨RJ7, "copyOf", "([II)[I"⟩
def RL : String := "TokenNetsLaw"
abbrev cL_cell : ByteArray := method_2_code
def yL_cell : MethodName := ⟨RL, "cell", "([II)I"⟩
abbrev cL_low : ByteArray := method_3_code
def yL_low : MethodName := ⟨RL, "low", "(II)I"⟩
abbrev cL_at : ByteArray := method_4_code
def yL_at : MethodName := ⟨RL, "at", "(JI)I"⟩
abbrev cL_with : ByteArray := method_5_code
def yL_with : MethodName := ⟨RL, "with", "(JII)J"⟩
abbrev cL_can : ByteArray := method_6_code
def yL_can : MethodName := ⟨RL, "can", "(JI[I[I)Z"⟩
abbrev cL_behind : ByteArray := method_7_code
def yL_behind : MethodName := ⟨RL, "behind", "(JI[I[I)J"⟩
abbrev cL_moves : ByteArray := method_8_code
def yL_moves : MethodName := ⟨RL, "moves", "(J[I[I)I"⟩
abbrev cL_bits : ByteArray := method_9_code
def yL_bits : MethodName := ⟨RL, "bits", "(I)I"⟩
abbrev cL_reach : ByteArray := method_10_code
def yL_reach : MethodName := ⟨RL, "reach", "(J[I[I[J[I)I"⟩
abbrev cL_tree : ByteArray := method_11_code
def yL_tree : MethodName := ⟨RL, "tree", "(J[I[I[J[I[I)I"⟩
abbrev cL_keeps : ByteArray := method_12_code
def yL_keeps : MethodName := ⟨RL, "keeps", "(I[I[I)Z"⟩
abbrev cL_places : ByteArray := method_13_code
def yL_places : MethodName := ⟨RL, "places", "(I)I"⟩
abbrev cL_kept : ByteArray := method_14_code
def yL_kept : MethodName := ⟨RL, "kept", "(LTokenNets;J[I[I)Z"⟩
abbrev cL_traps : ByteArray := method_15_code
def yL_traps : MethodName := ⟨RL, "traps", "(LTokenNets;IJ[I[I)Z"⟩
abbrev cL_would : ByteArray := method_16_code
def yL_would : MethodName := ⟨RL, "would", "(LTokenNets;IJ[I[I[J[I[I)Z"⟩
abbrev cL_law : ByteArray := code
def yL_law : MethodName := ⟨RL, "law", "([I)Z"⟩
/-- the good words of the tables -/
def yCT : List Cond := lw_tbl.filter goodWord
theorem yCT_good : GoodIn lw_tbl yCT := fun w h => ⟨(List.mem_filter.mp h).1, good_of_word (List.mem_filter.mp h).2⟩
theorem yCT_self : GoodIn yCT yCT := fun w h => ⟨h, good_of_word (List.mem_filter.mp h).2⟩
theorem yCT_mem {w : Cond} (h : w ∈ lw_tbl) (g : goodWord w = true) : w ∈ yCT := List.mem_filter.mpr ⟨h, g⟩
def yM (w : Cond) : Bool := decide (w ∈ lw_tbl) && goodWord w
theorem yM_ok {w : Cond} (h : yM w = true) : w ∈ yCT := by
  unfold yM at h
  simp only [Bool.and_eq_true, decide_eq_true_eq] at h
  exact yCT_mem h.1 h.2
abbrev vwCl : List vw_C := [(RX1, TX1, 3), (RX2, TX2, 7), (RX3, TX3, 7), (RX4, TX4, 2), (RX5, TX5, 4), (RX6, TX6, 8), (RX7, TX7, 5), (RX8, TX8, 8)]
