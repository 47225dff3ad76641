/-! moves made, also by a seed; sums; the places of a move -/
def gMd (M : gx_M) (c : Int) : Prop := ∀ m, 0 ≤ m → m < 8 → 0 ≤ M 4 m ∧ M 4 m ≤ c
theorem gPick_tb : ∀ s : Nat, s < 16 → ∀ b : Nat, b < 4 → (b : Int) < gpc (s : Int) → (0 ≤ gPick (s : Int) 8 0 (b : Int) ∧ gPick (s : Int) 8 0 (b : Int) < 4) ∧ (s : Int) / 2 ^ (gPick (s : Int) 8 0 (b : Int)).toNat % 2 = 1 := by decide +kernel
theorem gset_mem {P : Int → Prop} {n : Nat} (hn : n ≤ 4) {k : Int} (hk : 0 ≤ k ∧ k < 4) (h : gset P n / 2 ^ k.toNat % 2 = 1) : k < n ∧ P k := by
  obtain ⟨k, rfl⟩ := gb_nat hk.1
  rw [Int.toNat_natCast] at h
  by_cases hkn : k < n
  · rw [gset_bit P n k hkn] at h
    exact ⟨by omega, gi_1 h⟩
  · exfalso
    have hl := gset_lt P n
    have hp : (2 : Int) ^ n ≤ 2 ^ k := by
      have : (2 : Nat) ^ n ≤ 2 ^ k := Nat.pow_le_pow_right (by decide) (by omega)
      have h3 : ((2 ^ n : Nat) : Int) ≤ ((2 ^ k : Nat) : Int) := Int.ofNat_le.mpr this
      rw [Int.natCast_pow, Int.natCast_pow] at h3
      exact h3
    rw [Int.ediv_eq_zero_of_lt hl.1 (by omega)] at h
    exact absurd h (by decide)
theorem gPick_ok {P : Int → Prop} {n : Nat} (hn : n ≤ 4) {b : Int} (hb : 0 ≤ b ∧ b < gpc (gset P n)) : (0 ≤ gPick (gset P n) 8 0 b ∧ gPick (gset P n) 8 0 b < n) ∧ P (gPick (gset P n) 8 0 b) := by
  have h4 := gset_4 P hn
  have hr := gpc_rng (gset P n)
  obtain ⟨s, hs⟩ := gb_nat h4.1
  obtain ⟨b, rfl⟩ := gb_nat hb.1
  have h := gPick_tb s (by omega) b (by omega) (by rw [← hs]; exact hb.2)
  rw [← hs] at h
  obtain ⟨h1, h2⟩ := gset_mem hn h.1 h.2
  exact ⟨⟨h.1.1, h1⟩, h2⟩
theorem gset_Vw {M : gx_M} {S : gS} {n : Nat} (hn : n ≤ 8) (hS : gVw M S) : gset (gCn (M 5) (M 2)) n = gset (gCn (M 5) S.1) n :=
  gset_congr n (fun j j1 j2 => gCn_congr ⟨j1, by omega⟩ (fun _ _ _ => rfl) (fun p p1 p2 => (hS.1 p p1 p2).1))
theorem gpc_pos {v : Int} (h : 0 ≤ v ∧ v < 16) (h0 : ¬ v = 0) : 0 < gpc v := by
  have := gpc_rng v
  rcases (by omega : gpc v = 0 ∨ 0 < gpc v) with e | e
  · exact absurd (gpc_0 h e) h0
  · exact e
def gsm (f : Int → Int) : Nat → Int
  | 0 => 0
  | k + 1 => gsm f k + f (k : Int)
theorem gsm_congr {f g : Int → Int} : ∀ k : Nat, (∀ j : Int, 0 ≤ j → j < (k : Int) → f j = g j) → gsm f k = gsm g k := by
  intro k
  induction k with
  | zero => intro _; rfl
  | succ k ih =>
    intro h
    show gsm f k + f (k : Int) = gsm g k + g (k : Int)
    rw [ih (fun j h1 h2 => h j h1 (by omega)), h (k : Int) (by omega) (by omega)]
theorem gsm_zero {f : Int → Int} (n : Nat) : ∀ k : Nat, (∀ j : Int, (n : Int) ≤ j → j < ((n + k : Nat) : Int) → f j = 0) → gsm f (n + k) = gsm f n := by
  intro k
  induction k with
  | zero => intro _; rfl
  | succ k ih =>
    intro h
    show gsm f (n + k) + f ((n + k : Nat) : Int) = gsm f n
    rw [ih (fun j h1 h2 => h j h1 (by omega)), h _ (by omega) (by omega), Int.add_zero]
theorem gset_zero {P : Int → Prop} (n : Nat) : ∀ k : Nat, (∀ j : Int, (n : Int) ≤ j → j < ((n + k : Nat) : Int) → ¬ P j) → gset P (n + k) = gset P n := by
  intro k
  induction k with
  | zero => intro _; rfl
  | succ k ih =>
    intro h
    show gset P (n + k) + gi (P ((n + k : Nat) : Int)) * 2 ^ (n + k) = gset P n
    rw [ih (fun j h1 h2 => h j h1 (by omega)), gi_neg (h _ (by omega) (by omega)), Int.zero_mul, Int.add_zero]
section NETC
variable {l : Launch} {κ : yK} {d : Nat}
theorem X_makeOne {M : gx_M} {mv b : Int} {S : gS} (hd : 3 ≤ d) (hb : 0 ≤ b ∧ b ≤ 99000) (hN : gNB M b) (hm : 0 ≤ mv ∧ mv < M 1 1) (hc : gCn (M 5) (M 2) mv) (hS : gVw M S) (hmd : ∀ m, 0 ≤ m → m < 8 → gx_R (M 4 m)) :
    ∃ M', gx_X l κ gx_sh z_mt zX3_makeOne d [gR 2, gI mv] M (gx_eq (some (gI (gpc (gset (gCn (M 5) (gMk (M 5) (M 6) mv S).1) (M 1 1).toNat)))) M') ∧ (∀ k, k ≠ 2 → k ≠ 3 → k ≠ 4 → M' k = M k) ∧ gVw M' (gMk (M 5) (M 6) mv S) ∧ gNB M' (b + 9) := by
  have hV := hN.1.2
  have h1 := X_hasMove (l := l) (κ := κ) (d := 0) (M := M) (mv := mv) ⟨by omega, by omega⟩ ⟨hV.1, by omega⟩
  rw [show gi (0 ≤ mv ∧ mv < M 1 1) = 1 from gi_pos hm] at h1
  have h2 := X_canMake (l := l) (κ := κ) (d := 1) (M := M) (mv := mv) (by omega) (by omega : b ≤ 99990) hN ⟨hm.1, by omega⟩
  rw [show gi (gCn (M 5) (M 2) mv) = 1 from gi_pos hc] at h2
  obtain ⟨M', c1, c2, c3, c4⟩ := X_carry (l := l) (κ := κ) (d := 1) (by omega) (by omega : b ≤ 99990) hN ⟨hm.1, by omega⟩ hc hS hmd
  have h3 := X_possible (l := l) (κ := κ) (d := 2) (M := M') (b := b + 9) (by omega) (by omega) c4
  have e1 := gMk_tk c2
  rw [gset_Vw (by rw [e1.2.2]; omega) c3, e1.1, e1.2.2] at h3
  have h4 := X_bitCount (l := l) (κ := κ) (d := 0) (M := M') (gset_4 (gCn (M 5) (gMk (M 5) (M 6) mv S).1) (k := (M 1 1).toNat) (by omega))
  exact ⟨M', makeOne_e_11 h1 (by omega) (by decide) ⟨by decide, by decide⟩ h2 (by omega) (by decide) ⟨by decide, by decide⟩ c1 (by omega) h3 (by omega) h4 (by omega) ⟨rfl, rfl⟩, c2, c3, c4⟩
theorem X_makeOneN {M : gx_M} {mv b : Int} (hd : 3 ≤ d) (hb : 0 ≤ b ∧ b ≤ 99000) (hN : gNB M b) (hm : 0 ≤ mv ∧ mv < M 1 1) (hc : ¬ gCn (M 5) (M 2) mv) :
    gx_X l κ gx_sh z_mt zX3_makeOne d [gR 2, gI mv] M (gx_eq (some (gI (-5))) M) := by
  have hV := hN.1.2
  have h1 := X_hasMove (l := l) (κ := κ) (d := 0) (M := M) (mv := mv) ⟨by omega, by omega⟩ ⟨hV.1, by omega⟩
  rw [show gi (0 ≤ mv ∧ mv < M 1 1) = 1 from gi_pos hm] at h1
  have h2 := X_canMake (l := l) (κ := κ) (d := 1) (M := M) (mv := mv) (by omega) (by omega : b ≤ 99990) hN ⟨hm.1, by omega⟩
  rw [show gi (gCn (M 5) (M 2) mv) = 0 from gi_neg hc] at h2
  exact makeOne_e_10 h1 (by omega) (by decide) ⟨by decide, by decide⟩ h2 (by omega) rfl ⟨by decide, by decide⟩ ⟨rfl, rfl⟩
theorem X_seedLoop {many : Int} (hd : 3 ≤ d) : ∀ (k : Nat) (M : gx_M) (S : gS) (done x b c : Int), (0 ≤ b ∧ b + 9 * k ≤ 99000) → (0 ≤ c ∧ c + k ≤ 99000) → gNB M b → gVw M S → gMd M c → (0 ≤ x ∧ x < 2147483648) → (0 ≤ done ∧ done + k = many) → many ≤ 99 →
    ∃ M', gx_G l κ gx_sh z_mt zX3_makeBySeed d (24, [gR 2, gU, gI many, gJ x, gU, gI done, gU, gU], [], M) (gx_eq (some (gI (done + (gRunS (M 5) (M 6) (M 1 1).toNat k x S).1))) M') ∧ (∀ q, q ≠ 2 → q ≠ 3 → q ≠ 4 → M' q = M q) ∧ gVw M' (gRunS (M 5) (M 6) (M 1 1).toNat k x S).2 ∧ gNB M' (b + 9 * k) ∧ gMd M' (c + k) := by
  intro k
  induction k with
  | zero =>
    intro M S done x b c hb hc hN hS hMd hx hdn hmany
    have e : (gRunS (M 5) (M 6) (M 1 1).toNat 0 x S) = (0, S) := rfl
    rw [e]
    refine ⟨M, makeBySeed_24_1 (by omega) ⟨by omega, by omega⟩ ⟨by omega, by omega⟩ ⟨?_, rfl⟩, fun _ _ _ _ => rfl, hS, ?_, ?_⟩
    · show some (gI many) = some (gI (done + 0))
      rw [show many = done + 0 from by omega]
    · rw [show b + 9 * ((0 : Nat) : Int) = b from by omega]; exact hN
    · rw [show c + ((0 : Nat) : Int) = c from by omega]; exact hMd
  | succ k ih =>
    intro M S done x b c hb hc hN hS hMd hx hdn hmany
    have hV := hN.1.2
    have hV4 : (M 1 1).toNat ≤ 4 := by omega
    have h3 := X_possible (l := l) (κ := κ) (d := 2) (M := M) (b := b) (by omega) (by omega) hN
    rw [gset_Vw (by omega) hS] at h3
    have h4s := gset_4 (gCn (M 5) S.1) hV4
    have h4 := X_bitCount (l := l) (κ := κ) (d := 0) (M := M) h4s
    have hpr := gpc_rng (gset (gCn (M 5) S.1) (M 1 1).toNat)
    have e : gRunS (M 5) (M 6) (M 1 1).toNat (k + 1) x S = @ite _ (gset (gCn (M 5) S.1) (M 1 1).toNat = 0) (Classical.propDecidable _) (0, S)
      ((gRunS (M 5) (M 6) (M 1 1).toNat k ((x * 1103515245 + 12345) % 2147483648) (gMk (M 5) (M 6) (gPick (gset (gCn (M 5) S.1) (M 1 1).toNat) 8 0 ((x * 1103515245 + 12345) % 2147483648 / 65536 % gpc (gset (gCn (M 5) S.1) (M 1 1).toNat))) S)).1 + 1, (gRunS (M 5) (M 6) (M 1 1).toNat k ((x * 1103515245 + 12345) % 2147483648) (gMk (M 5) (M 6) (gPick (gset (gCn (M 5) S.1) (M 1 1).toNat) 8 0 ((x * 1103515245 + 12345) % 2147483648 / 65536 % gpc (gset (gCn (M 5) S.1) (M 1 1).toNat))) S)).2) := rfl
    rw [e]
    by_cases c0 : gset (gCn (M 5) S.1) (M 1 1).toNat = 0
    · rw [@if_pos _ (Classical.propDecidable _) c0]
      refine ⟨M, makeBySeed_24_00 (by omega) ⟨by omega, by omega⟩ ⟨by omega, by omega⟩ h3 (by omega) h4 (by omega) (by rw [c0]; decide) ⟨by omega, by omega⟩ ⟨?_, rfl⟩, fun _ _ _ _ => rfl, hS, ?_, ?_⟩
      · show some (gI done) = some (gI (done + 0))
        rw [Int.add_zero]
      · refine ⟨hN.1, hN.2.1, fun p p1 p2 => ?_⟩
        have := hN.2.2 p p1 p2
        exact ⟨⟨this.1.1, by omega⟩, this.2.1, by omega⟩
      · intro m m1 m2
        have := hMd m m1 m2
        exact ⟨this.1, by omega⟩
    · rw [@if_neg _ (Classical.propDecidable _) c0]
      have hg := gpc_pos h4s c0
      have hx1 : 0 ≤ (x * 1103515245 + 12345) % 2147483648 ∧ (x * 1103515245 + 12345) % 2147483648 < 2147483648 := ⟨Int.emod_nonneg _ (by decide), Int.emod_lt_of_pos _ (by decide)⟩
      have hi : 0 ≤ (x * 1103515245 + 12345) % 2147483648 / 65536 % gpc (gset (gCn (M 5) S.1) (M 1 1).toNat) ∧ (x * 1103515245 + 12345) % 2147483648 / 65536 % gpc (gset (gCn (M 5) S.1) (M 1 1).toNat) < gpc (gset (gCn (M 5) S.1) (M 1 1).toNat) := ⟨Int.emod_nonneg _ (by omega), Int.emod_lt_of_pos _ hg⟩
      obtain ⟨k1, k2⟩ := gPick_ok hV4 hi
      have h5 := X_memberAt (l := l) (κ := κ) (d := 0) (M := M) h4s (bf := (x * 1103515245 + 12345) % 2147483648 / 65536 % gpc (gset (gCn (M 5) S.1) (M 1 1).toNat)) ⟨hi.1, by omega⟩
      generalize hpk : gPick (gset (gCn (M 5) S.1) (M 1 1).toNat) 8 0 ((x * 1103515245 + 12345) % 2147483648 / 65536 % gpc (gset (gCn (M 5) S.1) (M 1 1).toNat)) = mv at k1 k2 h5 ⊢
      have k2' : gCn (M 5) (M 2) mv := (gCn_congr ⟨k1.1, by omega⟩ (fun _ _ _ => rfl) (fun p p1 p2 => ((hS.1 p p1 p2).1).symm)).mp k2
      obtain ⟨M1, c1, c2, c3, c4⟩ := X_carry (l := l) (κ := κ) (d := 1) (by omega) (by omega : b ≤ 99990) hN ⟨k1.1, by omega⟩ k2' hS (fun m m1 m2 => by have := hMd m m1 m2; exact ⟨by omega, by omega⟩)
      have e1 := gMk_tk c2
      have hMd1 : gMd M1 (c + 1) := by
        intro m m1 m2
        have h7 := c3.2 m m1 m2
        have h8 := hS.2 m m1 m2
        have h9 := hMd m m1 m2
        have h10 : (gMk (M 5) (M 6) mv S).2.2 m = if m = mv then S.2.2 m + 1 else S.2.2 m := rfl
        rw [h10] at h7
        by_cases hmm : m = mv
        · rw [if_pos hmm] at h7; omega
        · rw [if_neg hmm] at h7; omega
      obtain ⟨M', q1, q2, q3, q4, q5⟩ := ih M1 (gMk (M 5) (M 6) mv S) (done + 1) ((x * 1103515245 + 12345) % 2147483648) (b + 9) (c + 1) (by omega) (by omega) c4 c3 hMd1 hx1 (by omega) hmany
      rw [e1.1, e1.2.1, e1.2.2] at q1 q3
      refine ⟨M', makeBySeed_24_01 (by omega) ⟨by omega, by omega⟩ ⟨by omega, by omega⟩ h3 (by omega) h4 (by omega) (by omega) ⟨by omega, by omega⟩ ⟨by omega, by omega⟩ ⟨hx1.1, by omega⟩ ⟨⟨by omega, by omega⟩, hg, by omega⟩ h5 (by omega) c1 (by omega) ?_, fun q n2 n3 n4 => by rw [q2 q n2 n3 n4, c2 q n2 n3 n4], ?_, ?_, ?_⟩
      · have e9 : done + ((gRunS (M 5) (M 6) (M 1 1).toNat k ((x * 1103515245 + 12345) % 2147483648) (gMk (M 5) (M 6) mv S)).1 + 1) = done + 1 + (gRunS (M 5) (M 6) (M 1 1).toNat k ((x * 1103515245 + 12345) % 2147483648) (gMk (M 5) (M 6) mv S)).1 := by omega
        show gx_G l κ gx_sh z_mt zX3_makeBySeed d _ (gx_eq (some (gI (done + ((gRunS (M 5) (M 6) (M 1 1).toNat k ((x * 1103515245 + 12345) % 2147483648) (gMk (M 5) (M 6) mv S)).1 + 1)))) M')
        rw [e9]
        exact q1
      · exact q3
      · rw [show b + 9 * ((k + 1 : Nat) : Int) = b + 9 + 9 * (k : Int) from by omega]; exact q4
      · rw [show c + ((k + 1 : Nat) : Int) = c + 1 + (k : Int) from by omega]; exact q5
theorem X_makeBySeed {M : gx_M} {S : gS} {seed many b c : Int} (hd : 3 ≤ d) (hb : 0 ≤ b ∧ b ≤ 90000) (hc : 0 ≤ c ∧ c ≤ 90000) (hN : gNB M b) (hS : gVw M S) (hMd : gMd M c) (hx : 0 ≤ seed ∧ seed < 2147483648) (hmany : 1 ≤ many ∧ many ≤ 99) :
    ∃ M', gx_X l κ gx_sh z_mt zX3_makeBySeed d [gR 2, gI seed, gI many] M (gx_eq (some (gI (gRunS (M 5) (M 6) (M 1 1).toNat many.toNat seed S).1)) M') ∧ (∀ q, q ≠ 2 → q ≠ 3 → q ≠ 4 → M' q = M q) ∧ gVw M' (gRunS (M 5) (M 6) (M 1 1).toNat many.toNat seed S).2 ∧ gNB M' (b + 9 * many) ∧ gMd M' (c + many) := by
  have em : ((many.toNat : Nat) : Int) = many := Int.toNat_of_nonneg (by omega)
  obtain ⟨M', q1, q2, q3, q4, q5⟩ := X_seedLoop (l := l) (κ := κ) (many := many) hd many.toNat M S 0 seed b c (by omega) (by omega) hN hS hMd hx (by omega) hmany.2
  rw [em] at q4 q5
  rw [Int.zero_add] at q1
  exact ⟨M', makeBySeed_e_001 hx.1 ⟨by omega, by omega⟩ hmany.1 ⟨by omega, by omega⟩ hmany.2 q1, q2, q3, q4, q5⟩
theorem X_tokensIn {M : gx_M} {set : Int} (hs : 0 ≤ set ∧ set < 256) : gx_X l κ gx_sh z_mt zX3_tokensIn d [gR 2, gI set] M (gx_eq (some (gI (gsm (fun p => set / 2 ^ p.toNat % 2 * M 2 p) 8))) M) := by
  have loop : ∀ (k p : Nat), p + k = 8 →
      gx_G l κ gx_sh z_mt zX3_tokensIn d (4, [gR 2, gI set, gI (gsm (fun p => set / 2 ^ p.toNat % 2 * M 2 p) p), gI (p : Int)], [], M) (gx_eq (some (gI (gsm (fun p => set / 2 ^ p.toNat % 2 * M 2 p) 8))) M) := by
    intro k
    induction k with
    | zero =>
      intro p hp
      refine tokensIn_4_1 (by omega) ⟨by omega, by omega⟩ ⟨?_, rfl⟩
      rw [show p = 8 from by omega]
    | succ k ih =>
      intro p hp
      have hbit := gb_bit (s := set) (p := (p : Int)) ⟨hs.1, by omega⟩ ⟨by omega, by omega⟩
      have hr : gx_R (gx_and (gx_shr set (p : Int)) 1) := by
        rw [hbit]
        exact ⟨by omega, by omega⟩
      have hn := ih (p + 1) (by omega)
      have e : gsm (fun p => set / 2 ^ p.toNat % 2 * M 2 p) (p + 1) = gsm (fun p => set / 2 ^ p.toNat % 2 * M 2 p) p + set / 2 ^ ((p : Int)).toNat % 2 * M 2 (p : Int) := rfl
      by_cases c : set / 2 ^ ((p : Int)).toNat % 2 = 0
      · refine tokensIn_4_01 (by omega) ⟨by omega, by omega⟩ (by rw [hbit]; exact c) hr ?_
        rw [c, Int.zero_mul, Int.add_zero] at e
        rw [e] at hn
        exact hn
      · refine tokensIn_4_00 (by omega) ⟨by omega, by omega⟩ (by rw [hbit]; exact c) hr ⟨by omega, by omega⟩ ?_
        rw [show set / 2 ^ ((p : Int)).toNat % 2 = 1 from by omega, Int.one_mul] at e
        rw [e] at hn
        exact hn
  exact tokensIn_e (loop 8 0 (by omega))
theorem gbit255 : ∀ p : Nat, p < 8 → (255 : Int) / 2 ^ p % 2 = 1 := by decide +kernel
theorem X_allTokens {M : gx_M} (hd : 1 ≤ d) : gx_X l κ gx_sh z_mt zX3_allTokens d [gR 2] M (gx_eq (some (gI (gsm (M 2) 8))) M) := by
  have h := X_tokensIn (l := l) (κ := κ) (d := 0) (M := M) (set := 255) ⟨by decide, by decide⟩
  have e : gsm (fun p => (255 : Int) / 2 ^ p.toNat % 2 * M 2 p) 8 = gsm (M 2) 8 := gsm_congr 8 (fun j j1 j2 => by rw [gbit255 j.toNat (by omega), Int.one_mul])
  rw [e] at h
  exact allTokens_e h (by omega) ⟨rfl, rfl⟩
theorem X_allMade {M : gx_M} : gx_X l κ gx_sh z_mt zX3_allMade d [gR 2] M (gx_eq (some (gI (gsm (M 4) 8))) M) := by
  have loop : ∀ (k p : Nat), p + k = 8 →
      gx_G l κ gx_sh z_mt zX3_allMade d (4, [gR 2, gI (gsm (M 4) p), gI (p : Int)], [], M) (gx_eq (some (gI (gsm (M 4) 8))) M) := by
    intro k
    induction k with
    | zero =>
      intro p hp
      refine allMade_4_1 (by omega) ⟨by omega, by omega⟩ ⟨?_, rfl⟩
      rw [show p = 8 from by omega]
    | succ k ih =>
      intro p hp
      exact allMade_4_0 (by omega) ⟨by omega, by omega⟩ ⟨by omega, by omega⟩ (ih (p + 1) (by omega))
  exact allMade_e (loop 8 0 (by omega))
theorem X_placesOfT {M : gx_M} {mv : Int} (hm : 0 ≤ mv ∧ mv < 8) (hA : gAr M 5 6) : gx_X l κ gx_sh z_mt zX3_placesOf d [gR 2, gR 6, gI mv] M (gx_eq (some (gI (gset (fun p => 0 < M 5 (mv * 8 + p)) 8))) M) := by
  have loop : ∀ (k p : Nat), p + k = 8 →
      gx_G l κ gx_sh z_mt zX3_placesOf d (5, [gU, gR 6, gI mv, gI (gset (fun p => 0 < M 5 (mv * 8 + p)) p), gI (p : Int)], [], M) (gx_eq (some (gI (gset (fun p => 0 < M 5 (mv * 8 + p)) 8))) M) := by
    intro k
    induction k with
    | zero =>
      intro p hp
      refine placesOfT_5_1 (by omega) ⟨by omega, by omega⟩ ⟨?_, rfl⟩
      rw [show p = 8 from by omega]
    | succ k ih =>
      intro p hp
      have ha := (hA (mv * 8 + (p : Int)) (by omega) (by omega)).1
      have hn := ih (p + 1) (by omega)
      by_cases c : 0 < M 5 (mv * 8 + (p : Int))
      · refine placesOfT_5_00 (by omega) ⟨by omega, by omega⟩ ⟨by omega, by omega⟩ c ⟨by omega, by omega⟩ (placesOfT_31 ?_)
        rw [gset_or _ p (by omega)]
        have e : gset (fun p => 0 < M 5 (mv * 8 + p)) (p + 1) = gset (fun p => 0 < M 5 (mv * 8 + p)) p + 2 ^ p := by
          show gset (fun p => 0 < M 5 (mv * 8 + p)) p + gi (0 < M 5 (mv * 8 + (p : Int))) * 2 ^ p = _
          rw [gi_pos c, Int.one_mul]
        rw [e] at hn
        exact hn
      · refine placesOfT_5_01 (by omega) ⟨by omega, by omega⟩ ⟨by omega, by omega⟩ (by omega) ⟨by omega, by omega⟩ (placesOfT_31 ?_)
        have e : gset (fun p => 0 < M 5 (mv * 8 + p)) (p + 1) = gset (fun p => 0 < M 5 (mv * 8 + p)) p := by
          show gset (fun p => 0 < M 5 (mv * 8 + p)) p + gi (0 < M 5 (mv * 8 + (p : Int))) * 2 ^ p = _
          rw [gi_neg c, Int.zero_mul, Int.add_zero]
        rw [e] at hn
        exact hn
  exact placesOfT_e (loop 8 0 (by omega))
theorem X_placesOfG {M : gx_M} {mv : Int} (hm : 0 ≤ mv ∧ mv < 8) (hA : gAr M 5 6) : gx_X l κ gx_sh z_mt zX3_placesOf d [gR 2, gR 7, gI mv] M (gx_eq (some (gI (gset (fun p => 0 < M 6 (mv * 8 + p)) 8))) M) := by
  have loop : ∀ (k p : Nat), p + k = 8 →
      gx_G l κ gx_sh z_mt zX3_placesOf d (5, [gU, gR 7, gI mv, gI (gset (fun p => 0 < M 6 (mv * 8 + p)) p), gI (p : Int)], [], M) (gx_eq (some (gI (gset (fun p => 0 < M 6 (mv * 8 + p)) 8))) M) := by
    intro k
    induction k with
    | zero =>
      intro p hp
      refine placesOfG_5_1 (by omega) ⟨by omega, by omega⟩ ⟨?_, rfl⟩
      rw [show p = 8 from by omega]
    | succ k ih =>
      intro p hp
      have ha := (hA (mv * 8 + (p : Int)) (by omega) (by omega)).2
      have hn := ih (p + 1) (by omega)
      by_cases c : 0 < M 6 (mv * 8 + (p : Int))
      · refine placesOfG_5_00 (by omega) ⟨by omega, by omega⟩ ⟨by omega, by omega⟩ c ⟨by omega, by omega⟩ (placesOfG_31 ?_)
        rw [gset_or _ p (by omega)]
        have e : gset (fun p => 0 < M 6 (mv * 8 + p)) (p + 1) = gset (fun p => 0 < M 6 (mv * 8 + p)) p + 2 ^ p := by
          show gset (fun p => 0 < M 6 (mv * 8 + p)) p + gi (0 < M 6 (mv * 8 + (p : Int))) * 2 ^ p = _
          rw [gi_pos c, Int.one_mul]
        rw [e] at hn
        exact hn
      · refine placesOfG_5_01 (by omega) ⟨by omega, by omega⟩ ⟨by omega, by omega⟩ (by omega) ⟨by omega, by omega⟩ (placesOfG_31 ?_)
        have e : gset (fun p => 0 < M 6 (mv * 8 + p)) (p + 1) = gset (fun p => 0 < M 6 (mv * 8 + p)) p := by
          show gset (fun p => 0 < M 6 (mv * 8 + p)) p + gi (0 < M 6 (mv * 8 + (p : Int))) * 2 ^ p = _
          rw [gi_neg c, Int.zero_mul, Int.add_zero]
        rw [e] at hn
        exact hn
  exact placesOfG_e (loop 8 0 (by omega))

end NETC
