/-! markings, moves and runs as functions; the net's further methods -/
/-- move m can be made at marking T -/
def gCn (tk T : Int → Int) (m : Int) : Prop := ∀ p, 0 ≤ p → p < 8 → tk (m * 8 + p) ≤ T p
/-- the marking behind a move; an endless place (2^30) stays so -/
def gSt (tk gv T : Int → Int) (m : Int) : Int → Int := fun p => if T p = 1073741824 then 1073741824 else T p - tk (m * 8 + p) + gv (m * 8 + p)
theorem gCn_congr {tk tk' T T' : Int → Int} {m : Int} (hm : 0 ≤ m ∧ m < 8) (h1 : ∀ i, 0 ≤ i → i < 64 → tk i = tk' i) (h2 : ∀ p, 0 ≤ p → p < 8 → T p = T' p) : gCn tk T m ↔ gCn tk' T' m := by
  constructor
  · intro h p p1 p2
    have := h p p1 p2
    rw [h1 _ (by omega) (by omega), h2 p p1 p2] at this
    exact this
  · intro h p p1 p2
    have := h p p1 p2
    rw [h1 _ (by omega) (by omega), h2 p p1 p2]
    exact this
theorem gAL_Cn {M : gx_M} {row tk gv : Nat} {fr mv mh : Int} (hm : 0 ≤ mv ∧ mv < 8) (ht : gAr M tk gv) (hb : ∀ p, 0 ≤ p → p < 8 → M row (fr + p) + 9 ≤ mh) : gAL M row tk gv fr mv mh ↔ gCn (M tk) (fun p => M row (fr + p)) mv := by
  constructor
  · intro h p p1 p2
    have := (h p p1 p2).1
    show M tk (mv * 8 + p) ≤ M row (fr + p)
    omega
  · intro h p p1 p2
    have h1 : M tk (mv * 8 + p) ≤ M row (fr + p) := h p p1 p2
    have h2 := ht (mv * 8 + p) (by omega) (by omega)
    have h3 := hb p p1 p2
    exact ⟨by omega, by omega⟩
/-- the member of a set of eight before which there are so many others -/
def gPick (s : Int) : Nat → Int → Int → Int
  | 0, _, _ => 0
  | k + 1, mb, left => if s / 2 ^ mb.toNat % 2 = 0 then gPick s k (mb + 1) left else if left = 0 then mb else gPick s k (mb + 1) (left - 1)
abbrev gS : Type := (Int → Int) × (Int → Int) × (Int → Int)
/-- a move made: tokens, the most that each place had, how often each move was made -/
def gMk (tk gv : Int → Int) (m : Int) (S : gS) : gS := (gSt tk gv S.1 m, fun p => max (S.2.1 p) (gSt tk gv S.1 m p), fun j => if j = m then S.2.2 j + 1 else S.2.2 j)
noncomputable def gRunS (tk gv : Int → Int) (V : Nat) : Nat → Int → gS → Int × gS
  | 0, _, S => (0, S)
  | k + 1, x, S => @ite _ (gset (gCn tk S.1) V = 0) (Classical.propDecidable _) (0, S)
      (let x' := (x * 1103515245 + 12345) % 2147483648
       let q := gRunS tk gv V k x' (gMk tk gv (gPick (gset (gCn tk S.1) V) 8 0 (x' / 65536 % gpc (gset (gCn tk S.1) V))) S)
       (q.1 + 1, q.2))
/-- the net's memory is this state's -/
def gVw (M : gx_M) (S : gS) : Prop := (∀ p, 0 ≤ p → p < 8 → M 2 p = S.1 p ∧ M 3 p = S.2.1 p) ∧ ∀ m, 0 ≤ m → m < 8 → M 4 m = S.2.2 m
/-- the net: at most four places and moves, small arcs, tokens from 0 to b -/
def gNB (M : gx_M) (b : Int) : Prop := ((0 ≤ M 1 0 ∧ M 1 0 ≤ 4) ∧ (0 ≤ M 1 1 ∧ M 1 1 ≤ 4)) ∧ gAr M 5 6 ∧ ∀ p, 0 ≤ p → p < 8 → (0 ≤ M 2 p ∧ M 2 p ≤ b) ∧ (0 ≤ M 3 p ∧ M 3 p ≤ b)
theorem gpc_bits : ∀ v : Nat, v < 16 → (gx_and (((gx_and (((gx_and ((v : Int) - (gx_and (gx_ushr (v : Int) 1) 1431655765)) 858993459) + (gx_and (gx_ushr ((v : Int) - (gx_and (gx_ushr (v : Int) 1) 1431655765)) 2) 858993459)) + (gx_ushr ((gx_and ((v : Int) - (gx_and (gx_ushr (v : Int) 1) 1431655765)) 858993459) + (gx_and (gx_ushr ((v : Int) - (gx_and (gx_ushr (v : Int) 1) 1431655765)) 2) 858993459)) 4)) 252645135) + (gx_ushr (gx_and (((gx_and ((v : Int) - (gx_and (gx_ushr (v : Int) 1) 1431655765)) 858993459) + (gx_and (gx_ushr ((v : Int) - (gx_and (gx_ushr (v : Int) 1) 1431655765)) 2) 858993459)) + (gx_ushr ((gx_and ((v : Int) - (gx_and (gx_ushr (v : Int) 1) 1431655765)) 858993459) + (gx_and (gx_ushr ((v : Int) - (gx_and (gx_ushr (v : Int) 1) 1431655765)) 2) 858993459)) 4)) 252645135) 8)) + (gx_ushr ((gx_and (((gx_and ((v : Int) - (gx_and (gx_ushr (v : Int) 1) 1431655765)) 858993459) + (gx_and (gx_ushr ((v : Int) - (gx_and (gx_ushr (v : Int) 1) 1431655765)) 2) 858993459)) + (gx_ushr ((gx_and ((v : Int) - (gx_and (gx_ushr (v : Int) 1) 1431655765)) 858993459) + (gx_and (gx_ushr ((v : Int) - (gx_and (gx_ushr (v : Int) 1) 1431655765)) 2) 858993459)) 4)) 252645135) + (gx_ushr (gx_and (((gx_and ((v : Int) - (gx_and (gx_ushr (v : Int) 1) 1431655765)) 858993459) + (gx_and (gx_ushr ((v : Int) - (gx_and (gx_ushr (v : Int) 1) 1431655765)) 2) 858993459)) + (gx_ushr ((gx_and ((v : Int) - (gx_and (gx_ushr (v : Int) 1) 1431655765)) 858993459) + (gx_and (gx_ushr ((v : Int) - (gx_and (gx_ushr (v : Int) 1) 1431655765)) 2) 858993459)) 4)) 252645135) 8)) 16)) 63) = gpc (v : Int) := by decide +kernel
section NETB
variable {l : Launch} {κ : yK} {d : Nat} {M : gx_M}
theorem X_bitCount {v : Int} (hv : 0 ≤ v ∧ v < 16) : gx_X l κ gx_sh z_mt zJ6_bitCount_0f7a4 d [gI v] M (gx_eq (some (gI (gpc v))) M) := by
  obtain ⟨n, rfl⟩ := gb_nat hv.1
  rw [← gpc_bits n (by omega)]
  exact bitCount_e ⟨rfl, rfl⟩
theorem X_addPlace {c : Int} (hc : 0 ≤ c ∧ c ≤ 999) (hP : 0 ≤ M 1 0 ∧ M 1 0 < 8) : ∃ M', gx_X l κ gx_sh z_mt zX3_addPlace d [gR 2, gI c] M (gx_eq (some (gI (M 1 0))) M') ∧ (∀ k, k ≠ 1 → k ≠ 2 → k ≠ 3 → M' k = M k) ∧ (M' 1 0 = M 1 0 + 1 ∧ M' 1 1 = M 1 1) ∧ (∀ p, M' 2 p = if p = M 1 0 then c else M 2 p) ∧ ∀ p, M' 3 p = if p = M 1 0 then c else M 3 p := by
  have h := addPlace_e_011 (l := l) (κ := κ) (d := d) (M := M) (c := c) (Q := gx_eq (some (gI (M 1 0))) (gx_up (gx_up (gx_up M 2 (M 1 0) c) 3 (M 1 0) c) 1 0 ((M 1 0) + 1))) hc.1 ⟨by omega, by omega⟩ hc.2 hP.2 ⟨by omega, by omega⟩ hP ⟨by rw [show M 1 0 + 1 - 1 = M 1 0 from by omega], rfl⟩
  refine ⟨_, h, fun k k1 k2 k3 => by rw [gx_up_ne k1, gx_up_ne k3, gx_up_ne k2], ⟨by rw [gx_up_at, if_pos rfl], ?_⟩, fun p => ?_, fun p => ?_⟩
  · rw [gx_up_at, if_neg (by decide), gx_up_ne (by decide), gx_up_ne (by decide)]
  · rw [gx_up_ne (by decide), gx_up_ne (by decide), gx_up_at]
  · rw [gx_up_ne (by decide), gx_up_at, gx_up_ne (by decide)]
theorem X_addMove (hP : 0 ≤ M 1 1 ∧ M 1 1 < 8) : ∃ M', gx_X l κ gx_sh z_mt zX3_addMove d [gR 2] M (gx_eq (some (gI (M 1 1))) M') ∧ (∀ k, k ≠ 1 → M' k = M k) ∧ M' 1 0 = M 1 0 ∧ M' 1 1 = M 1 1 + 1 := by
  have h := addMove_e_1 (l := l) (κ := κ) (d := d) (M := M) (Q := gx_eq (some (gI (M 1 1))) (gx_up M 1 1 (M 1 1 + 1))) hP.2 ⟨by omega, by omega⟩ ⟨by rw [show M 1 1 + 1 - 1 = M 1 1 from by omega], rfl⟩
  refine ⟨_, h, fun k k1 => by rw [gx_up_ne k1], ?_, by rw [gx_up_at, if_pos rfl]⟩
  rw [gx_up_at, if_neg (by decide)]
theorem X_setArc {mv pl tk gv : Int} (hd : 1 ≤ d) (hP : (0 ≤ M 1 0 ∧ M 1 0 ≤ 8) ∧ (0 ≤ M 1 1 ∧ M 1 1 ≤ 8)) (hm : 0 ≤ mv ∧ mv < M 1 1) (hp : 0 ≤ pl ∧ pl < M 1 0) (ht : 0 ≤ tk ∧ tk ≤ 9) (hg : 0 ≤ gv ∧ gv ≤ 9) :
    ∃ M', gx_X l κ gx_sh z_mt zX3_setArc d [gR 2, gI mv, gI pl, gI tk, gI gv] M (gx_eq (some (gI (10 * M 5 (mv * 8 + pl) + M 6 (mv * 8 + pl)))) M') ∧ (∀ k, k ≠ 5 → k ≠ 6 → M' k = M k) ∧ (∀ i, M' 5 i = if i = mv * 8 + pl then tk else M 5 i) ∧ ∀ i, M' 6 i = if i = mv * 8 + pl then gv else M 6 i := by
  have h1 := X_hasMove (l := l) (κ := κ) (d := 0) (M := M) (mv := mv) ⟨by omega, by omega⟩ hP.2
  have h2 := X_hasPlace (l := l) (κ := κ) (d := 0) (M := M) (pl := pl) ⟨by omega, by omega⟩ hP.1
  rw [show gi (0 ≤ mv ∧ mv < M 1 1) = 1 from gi_pos hm] at h1
  rw [show gi (0 ≤ pl ∧ pl < M 1 0) = 1 from gi_pos hp] at h2
  refine ⟨_, setArc_e_010001 h1 (by omega) (by decide) ⟨by decide, by decide⟩ h2 (by omega) (by decide) ⟨by decide, by decide⟩ ht.1 ⟨by omega, by omega⟩ ht.2 hg.1 ⟨by omega, by omega⟩ hg.2 ⟨by omega, by omega⟩ ⟨rfl, rfl⟩, fun k k1 k2 => by rw [gx_up_ne k2, gx_up_ne k1], fun i => ?_, fun i => ?_⟩
  · rw [gx_up_ne (by decide), gx_up_at]
  · rw [gx_up_at, gx_up_ne (by decide)]
theorem X_setTokens {pl c : Int} (hd : 1 ≤ d) (hP : 0 ≤ M 1 0 ∧ M 1 0 ≤ 8) (hp : 0 ≤ pl ∧ pl < M 1 0) (hc : 0 ≤ c ∧ c ≤ 999) :
    ∃ M', gx_X l κ gx_sh z_mt zX3_setTokens d [gR 2, gI pl, gI c] M (gx_eq (some (gI (M 2 pl))) M') ∧ (∀ k, k ≠ 2 → k ≠ 3 → M' k = M k) ∧ (∀ p, M' 2 p = if p = pl then c else M 2 p) ∧ ∀ p, M' 3 p = if p = pl then c else M 3 p := by
  have h2 := X_hasPlace (l := l) (κ := κ) (d := 0) (M := M) (pl := pl) ⟨by omega, by omega⟩ hP
  rw [show gi (0 ≤ pl ∧ pl < M 1 0) = 1 from gi_pos hp] at h2
  refine ⟨_, setTokens_e_101 h2 (by omega) (by decide) ⟨by decide, by decide⟩ hc.1 ⟨by omega, by omega⟩ hc.2 ⟨by omega, by omega⟩ ⟨rfl, rfl⟩, fun k k1 k2 => by rw [gx_up_ne k2, gx_up_ne k1], fun i => ?_, fun i => ?_⟩
  · rw [gx_up_ne (by decide), gx_up_at]
  · rw [gx_up_at, gx_up_ne (by decide)]
theorem X_canMake {mv b : Int} (hd : 1 ≤ d) (hb : b ≤ 99990) (hN : gNB M b) (hm : 0 ≤ mv ∧ mv < 8) : gx_X l κ gx_sh z_mt zX3_canMake d [gR 2, gI mv] M (gx_eq (some (gI (gi (gCn (M 5) (M 2) mv)))) M) := by
  obtain ⟨hP, hA, hT⟩ := hN
  have h1 := X_allows1 (l := l) (κ := κ) (d := 0) (M := M) (fr := 0) (mv := mv) (mh := 99999) ⟨by omega, by omega⟩ hm ⟨by omega, by omega⟩ (fun p p1 p2 => by
    rw [Int.zero_add]
    have := (hT p p1 p2).1
    exact ⟨this.1, by omega⟩) hA
  have e : gi (gAL M 2 5 6 0 mv 99999) = gi (gCn (M 5) (M 2) mv) := by
    refine gi_congr ((gAL_Cn hm hA (fun p p1 p2 => ?_)).trans (gCn_congr hm (fun _ _ _ => rfl) (fun p p1 p2 => ?_)))
    · rw [Int.zero_add]
      have := (hT p p1 p2).1
      omega
    · show M 2 (0 + p) = M 2 p
      rw [Int.zero_add]
  rw [e] at h1
  exact canMake_e h1 (by omega) (gi_rng _) ⟨rfl, rfl⟩
theorem X_possible {b : Int} (hd : 2 ≤ d) (hb : b ≤ 99990) (hN : gNB M b) : gx_X l κ gx_sh z_mt zX3_possibleMoves d [gR 2] M (gx_eq (some (gI (gset (gCn (M 5) (M 2)) (M 1 1).toNat))) M) := by
  have hV := hN.1.2
  have loop : ∀ (k j : Nat), j + k = (M 1 1).toNat →
      gx_G l κ gx_sh z_mt zX3_possibleMoves d (4, [gR 2, gI (gset (gCn (M 5) (M 2)) j), gI (j : Int)], [], M) (gx_eq (some (gI (gset (gCn (M 5) (M 2)) (M 1 1).toNat))) M) := by
    intro k
    induction k with
    | zero =>
      intro j hj
      refine possible_4_1 (by omega) ⟨by omega, by omega⟩ ⟨by omega, by omega⟩ ⟨?_, rfl⟩
      rw [show j = (M 1 1).toNat from by omega]
    | succ k ih =>
      intro j hj
      have hc := X_canMake (l := l) (κ := κ) (d := 1) (M := M) (mv := (j : Int)) (by omega) hb hN ⟨by omega, by omega⟩
      have hn := ih (j + 1) (by omega)
      rcases Classical.em (gCn (M 5) (M 2) (j : Int)) with c | c
      · refine possible_4_00 (by omega) ⟨by omega, by omega⟩ ⟨by omega, by omega⟩ hc (by omega) (by rw [gi_pos c]; decide) (gi_R _) ?_
        rw [gset_or _ j (by omega)]
        have e : gset (gCn (M 5) (M 2)) (j + 1) = gset (gCn (M 5) (M 2)) j + 2 ^ j := by
          show gset (gCn (M 5) (M 2)) j + gi (gCn (M 5) (M 2) (j : Int)) * 2 ^ j = _
          rw [gi_pos c, Int.one_mul]
        rw [e] at hn
        exact hn
      · refine possible_4_01 (by omega) ⟨by omega, by omega⟩ ⟨by omega, by omega⟩ hc (by omega) (gi_neg c) (gi_R _) ?_
        have e : gset (gCn (M 5) (M 2)) (j + 1) = gset (gCn (M 5) (M 2)) j := by
          show gset (gCn (M 5) (M 2)) j + gi (gCn (M 5) (M 2) (j : Int)) * 2 ^ j = _
          rw [gi_neg c, Int.zero_mul, Int.add_zero]
        rw [e] at hn
        exact hn
  exact possible_e (loop (M 1 1).toNat 0 (by omega))
theorem X_carry {mv b : Int} {S : gS} (hd : 1 ≤ d) (hb : b ≤ 99990) (hN : gNB M b) (hm : 0 ≤ mv ∧ mv < 8) (hc : gCn (M 5) (M 2) mv) (hS : gVw M S) (hmd : ∀ m, 0 ≤ m → m < 8 → gx_R (M 4 m)) :
    ∃ M', gx_X l κ gx_sh z_mt zX3_carry d [gR 2, gI mv] M (gx_eq none M') ∧ (∀ k, k ≠ 2 → k ≠ 3 → k ≠ 4 → M' k = M k) ∧ gVw M' (gMk (M 5) (M 6) mv S) ∧ gNB M' (b + 9) := by
  obtain ⟨hP, hA, hT⟩ := hN
  obtain ⟨M1, s1, s2, s3⟩ := X_step1 (l := l) (κ := κ) (d := 0) (M := M) (fr := 0) (mv := mv) ⟨by omega, by omega⟩ (fun _ => rfl) hm (fun p p1 p2 => by
    rw [Int.zero_add]
    have := (hT p p1 p2).1
    exact ⟨by omega, by omega⟩)
  have t2 : ∀ p, 0 ≤ p → p < 8 → M1 2 p = gSt (M 5) (M 6) S.1 mv p ∧ 0 ≤ M1 2 p ∧ M1 2 p ≤ b + 9 := by
    intro p p1 p2
    have h1 := s3 p p1 p2
    rw [Int.zero_add] at h1
    have h2 := (hT p p1 p2).1
    have h3 : M 5 (mv * 8 + p) ≤ M 2 p := hc p p1 p2
    have h4 := hA (mv * 8 + p) (by omega) (by omega)
    have h5 := (hS.1 p p1 p2).1
    rw [if_neg (by omega)] at h1
    refine ⟨?_, by omega, by omega⟩
    unfold gSt
    rw [← h5, if_neg (by omega)]
    exact h1
  let M2 := gx_up M1 4 mv (M1 4 mv + 1)
  have u2 : ∀ k, k ≠ 4 → M2 k = M1 k := fun k hk => gx_up_ne hk
  have loop : ∀ (k : Nat) (p : Int) (M3 : gx_M), p + k = 8 → 0 ≤ p → (∀ c, c ≠ 3 → M3 c = M2 c) → (∀ q, 0 ≤ q → q < p → M3 3 q = max (M 3 q) (M1 2 q)) → (∀ q, p ≤ q → M3 3 q = M 3 q) →
      ∃ M', gx_G l κ gx_sh z_mt zX3_carry d (26, [gR 2, gU, gI p], [], M3) (gx_eq none M') ∧ (∀ c, c ≠ 3 → M' c = M2 c) ∧ ∀ q, 0 ≤ q → q < 8 → M' 3 q = max (M 3 q) (M1 2 q) := by
    intro k
    induction k with
    | zero =>
      intro p M3 hp h0 h1 h2 h3
      exact ⟨M3, carry_26_1 (by omega) ⟨by omega, by omega⟩ ⟨rfl, rfl⟩, h1, fun q q1 q2 => h2 q q1 (by omega)⟩
    | succ k ih =>
      intro p M3 hp h0 h1 h2 h3
      have e3 := h3 p (Int.le_refl p)
      have e2 : M3 2 = M1 2 := (h1 2 (by decide)).trans (u2 2 (by decide))
      have a1 := (hT p h0 (by omega)).2
      have a2 := (t2 p h0 (by omega)).2
      obtain ⟨M', k1, k2, k3⟩ := ih (p + 1) (gx_up M3 3 p (max (M3 3 p) (M3 2 p))) (by omega) (by omega) (fun c hcc => by rw [gx_up_ne hcc]; exact h1 c hcc) (fun q q1 q2 => by
        rw [gx_up_at]
        by_cases e : q = p
        · rw [if_pos e, e, e3, e2]
        · rw [if_neg e]; exact h2 q q1 (by omega)) (fun q q1 => by rw [gx_up_at, if_neg (by omega)]; exact h3 q (by omega))
      exact ⟨M', carry_26_0 (by omega) ⟨by omega, by omega⟩ ⟨h0, by omega⟩ (by rw [e3]; exact ⟨by omega, by omega⟩) (by rw [e2]; exact ⟨by omega, by omega⟩) k1, k2, k3⟩
  obtain ⟨M', k1, k2, k3⟩ := loop 8 0 M2 (by omega) (by omega) (fun _ _ => rfl) (fun q q1 q2 => by omega) (fun q _ => by rw [u2 3 (by decide), s2 3 (by decide)])
  have v2 : M' 2 = M1 2 := (k2 2 (by decide)).trans (u2 2 (by decide))
  refine ⟨M', carry_e s1 (by omega) hm k1, fun k n2 n3 n4 => by rw [k2 k n3, u2 k n4, s2 k n2], ⟨fun p p1 p2 => ⟨?_, ?_⟩, fun m m1 m2 => ?_⟩, ?_, ?_, fun p p1 p2 => ?_⟩
  · rw [v2]; exact (t2 p p1 p2).1
  · rw [k3 p p1 p2, (hS.1 p p1 p2).2, (t2 p p1 p2).1]
    rfl
  · rw [k2 4 (by decide)]
    show (if (4 : Nat) = 4 ∧ m = mv then M1 4 mv + 1 else M1 4 m) = if m = mv then S.2.2 m + 1 else S.2.2 m
    rw [s2 4 (by decide)]
    by_cases e : m = mv
    · rw [if_pos ⟨rfl, e⟩, if_pos e, ← e, hS.2 m m1 m2]
    · rw [if_neg (fun z => e z.2), if_neg e, hS.2 m m1 m2]
  · rw [k2 1 (by decide), u2 1 (by decide), s2 1 (by decide)]; exact hP
  · intro i i1 i2
    rw [k2 5 (by decide), u2 5 (by decide), s2 5 (by decide), k2 6 (by decide), u2 6 (by decide), s2 6 (by decide)]
    exact hA i i1 i2
  · have a1 := (hT p p1 p2).2
    have a2 := (t2 p p1 p2).2
    rw [v2, k3 p p1 p2]
    exact ⟨a2, by omega, by omega⟩
theorem gMk_tk {M M' : gx_M} (h : ∀ k, k ≠ 2 → k ≠ 3 → k ≠ 4 → M' k = M k) : M' 5 = M 5 ∧ M' 6 = M 6 ∧ M' 1 = M 1 := ⟨h 5 (by decide) (by decide) (by decide), h 6 (by decide) (by decide) (by decide), h 1 (by decide) (by decide) (by decide)⟩
theorem X_memberAt {s bf : Int} (hs : 0 ≤ s ∧ s < 16) (hb : 0 ≤ bf ∧ bf < 16) : gx_X l κ gx_sh z_mt zX3_memberAt d [gI s, gI bf] M (gx_eq (some (gI (gPick s 8 0 bf))) M) := by
  have loop : ∀ (k : Nat) (mb left : Int), mb + k = 8 → 0 ≤ mb → (0 ≤ left ∧ left < 16) →
      gx_G l κ gx_sh z_mt zX3_memberAt d (4, [gI s, gU, gI left, gI mb], [], M) (gx_eq (some (gI (gPick s k mb left))) M) := by
    intro k
    induction k with
    | zero => intro mb left hm h0 hl; exact memberAt_4_1 (by omega) ⟨by omega, by omega⟩ ⟨rfl, rfl⟩
    | succ k ih =>
      intro mb left hm h0 hl
      have hbit := gb_bit (s := s) (p := mb) ⟨hs.1, by omega⟩ ⟨h0, by omega⟩
      have hr : gx_R (gx_and (gx_shr s mb) 1) := by
        rw [hbit]
        exact ⟨by omega, by omega⟩
      show gx_G l κ gx_sh z_mt zX3_memberAt d (4, [gI s, gU, gI left, gI mb], [], M) (gx_eq (some (gI (if s / 2 ^ mb.toNat % 2 = 0 then gPick s k (mb + 1) left else if left = 0 then mb else gPick s k (mb + 1) (left - 1)))) M)
      by_cases c1 : s / 2 ^ mb.toNat % 2 = 0
      · rw [if_pos c1]
        exact memberAt_4_01 (by omega) ⟨by omega, by omega⟩ (by rw [hbit]; exact c1) hr (ih (mb + 1) left (by omega) (by omega) hl)
      · rw [if_neg c1]
        by_cases c2 : left = 0
        · rw [if_pos c2]
          exact memberAt_4_000 (by omega) ⟨by omega, by omega⟩ (by rw [hbit]; exact c1) hr c2 ⟨by omega, by omega⟩ ⟨rfl, rfl⟩
        · rw [if_neg c2]
          exact memberAt_4_001 (by omega) ⟨by omega, by omega⟩ (by rw [hbit]; exact c1) hr c2 ⟨by omega, by omega⟩ (ih (mb + 1) (left + -1) (by omega) (by omega) ⟨by omega, by omega⟩)
  exact memberAt_e (loop 8 0 bf (by omega) (by omega) hb)
end NETB
