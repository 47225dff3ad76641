/-! the law's loop: an act, then the checks -/
/-- what holds at the head of the law's loop -/
def gLI (M : gx_M) (now b c : Int) : Prop := (gI0 M b c ∧ gLR M now) ∧ ((∀ p, 0 ≤ p → p < 4 → M 106 p = M 3 p) ∧ ∀ m, 0 ≤ m → m < 4 → M 107 m = M 4 m) ∧ gRC M ∧ gTC M ∧ gSC M
/-- how many places and moves there are at the start of a turn -/
def gCt (M : gx_M) (t : Nat) : Prop := (4 ≤ t → 2 ≤ M 1 0 ∧ 2 ≤ M 1 1) ∧ (t < 4 → M 1 0 = (((t + 1) / 2 : Nat) : Int) ∧ M 1 1 = ((t / 2 : Nat) : Int))
theorem gCK_kept {M M' : gx_M} (h : gRC M ∧ gTC M ∧ gSC M) (hk : ∀ k, 67 ≤ k → k < 104 → M' k = M k) : gRC M' ∧ gTC M' ∧ gSC M' := ⟨gRC_kept h.1 (fun k k1 k2 => hk k (by omega) (by omega)), gTC_kept h.2.1 (fun k k1 k2 => hk k (by omega) (by omega)), gSC_kept h.2.2 (fun k k1 k2 => hk k k1 (by omega))⟩
/-- the law's run begins at the class's state -/
theorem gRl_0 {M : gx_M} {now b c : Int} (h : gLI M now b c) (hb : b ≤ 10000) : gRl M M now 0 (gOf M) := by
  obtain ⟨⟨h0, hR⟩, ⟨h6, h7⟩, -⟩ := h
  have hT := h0.1.2.2
  refine ⟨fun _ _ _ => rfl, ⟨⟨hR.2.1, fun p p1 p2 => ?_⟩, Int.le_refl 0, fun p p1 p2 => ?_⟩, h6, h7, gZs_of h0, fun p p1 p2 => ?_⟩
  · show ga now p = gmk (gtp (M 2)) p
    rw [gmk_tp _ ⟨p1, p2⟩]; exact hR.2.2.2.2 p p1 p2
  · show 0 ≤ gmk (gtp (M 2)) p ∧ gmk (gtp (M 2)) p ≤ 10000 + 9 * ((0 : Nat) : Int)
    rw [gmk_tp _ ⟨p1, p2⟩]
    have := (hT p p1 (by omega)).1
    omega
  · have := (hT p p1 (by omega)).2
    show 0 ≤ M 3 p ∧ M 3 p ≤ 10000 + 9 * ((0 : Nat) : Int)
    omega
/-- behind moves made: the class's new state, the law's new numbers -/
theorem gLI_run {M M2 M3 : gx_M} {now now2 b c b' c' : Int} {k2 : Nat} {S : gS} (h : gLI M now b c) (hR : gRl M M2 now2 k2 S) (h0 : gI0 M3 b' c') (hf : ∀ k, 51 ≤ k → M3 k = M2 k) (h1 : M3 1 = M 1 ∧ M3 5 = M 5 ∧ M3 6 = M 6) (hV : gVw M3 S) : gLI M3 now2 b' c' := by
  obtain ⟨⟨-, hR0⟩, -, hC⟩ := h
  obtain ⟨r1, ⟨r2, r3⟩, r4, r5, r6, r7⟩ := hR
  have f : ∀ k, 51 ≤ k → k ≠ 106 → k ≠ 107 → M3 k = M k := fun k a1 a2 a3 => by rw [hf k a1, r1 k a2 a3]
  refine ⟨⟨h0, ?_, r2.1, ?_, ?_, fun p p1 p2 => ?_⟩, ⟨fun p p1 p2 => ?_, fun m m1 m2 => ?_⟩, gCK_kept hC (fun k a1 a2 => f k (by omega) (by omega) (by omega))⟩
  · have := hR0.1
    unfold gL at *
    rw [f 104 (by decide) (by decide) (by decide), f 105 (by decide) (by decide) (by decide)]
    exact this
  · rw [f 104 (by decide) (by decide) (by decide), h1.1]; exact hR0.2.2.1
  · rw [f 105 (by decide) (by decide) (by decide), h1.2.1, h1.2.2]; exact hR0.2.2.2.1
  · rw [r2.2 p p1 p2, (hV.1 p p1 (by omega)).1]
    exact gmk_tp _ ⟨p1, p2⟩
  · rw [hf 106 (by decide), r4 p p1 p2, (hV.1 p p1 (by omega)).2]
  · rw [hf 107 (by decide), r5 m m1 m2, hV.2 m m1 (by omega)]
section LAWACT
variable {l : Launch} {κ : yK} {d : Nat} {Q : Option gx_V → gx_M → Prop}
theorem X_cell {M : gx_M} {k : Int} (hκ : κ.2.2.2 ≤ 260) (hk : 0 ≤ k ∧ k < 26) : ∃ r, gx_X l κ gx_sh z_mt zL_cell d [gR 0, gI k] M (gx_eq (some (gI r)) M) := by
  have kR : gx_R k := ⟨by omega, by omega⟩
  have lR : gx_R (κ.2.2.2 : Int) := ⟨by omega, by omega⟩
  by_cases c : k < (κ.2.2.2 : Int)
  · exact ⟨_, cell_e_0 c kR lR ⟨hk.1, c, by omega⟩ ⟨rfl, rfl⟩⟩
  · exact ⟨_, cell_e_1 (by omega) kR lR ⟨rfl, rfl⟩⟩
theorem L_place {M : gx_M} {now b c x kd m0 s0 : Int} {t : Nat} (hd : 4 ≤ d) (h : gLI M now b c) (hb : 5 ≤ b ∧ b ≤ 10000) (hP : M 1 0 < 4) (hk : kd = 0)
    (kk : ∀ M' now', gLI M' now' b c → (M' 1 0 = M 1 0 + 1 ∧ M' 1 1 = M 1 1) → gx_G l κ gx_sh z_mt zL_law d (680, [gR 0, gR 1, gR 105, gR 106, gR 107, gR 108, gR 109, gR 110, gR 111, gJ now', gU, gI (t : Int), gI x, gU, gU, gU, gU, gU, gU, gU, gU, gU, gU, gU], [], M') Q) :
    gx_G l κ gx_sh z_mt zL_law d (131, [gR 0, gR 1, gR 105, gR 106, gR 107, gR 108, gR 109, gR 110, gR 111, gJ now, gU, gI (t : Int), gI x, gI kd, gI m0, gU, gU, gU, gU, gU, gU, gU, gU, gU], [gI s0], M) Q := by
  obtain ⟨⟨h0, hR⟩, ⟨h6, h7⟩, hC⟩ := h
  have hPV := hR.2.2.1
  have hP0 := h0.1.1.1
  obtain ⟨tk, t1, t2, t3⟩ := X_low (l := l) (κ := κ) (d := 0) (M := M) (v := gx_shr x 5) (n := 4) (by decide)
  obtain ⟨M2, a1, a2, a3, a4, ⟨a5, a6, a7⟩, a8, a9⟩ := X_o_place (l := l) (κ := κ) (d := 3) (M := M) (t := tk) (by omega) h0 ⟨t2, by omega, by omega⟩ hP
  have e104 : M2 104 = M 104 := a3 104 (by decide)
  have e0 : M2 104 0 = M 1 0 := by rw [e104]; exact hPV.1
  obtain ⟨w, w1, w2, w3⟩ := X_with (l := l) (κ := κ) (d := 0) (M := M2) hR.2.1 (p := M2 104 0) (v := tk) ⟨by omega, by omega⟩ ⟨by omega, by omega⟩
  have f : ∀ k, k ≠ 104 → k ≠ 106 → (gx_up (gx_up M2 104 0 (M2 104 0 + 1)) 106 (M2 104 0) tk) k = M2 k := fun k k1 k2 => by rw [gx_up_ne k2, gx_up_ne k1]
  have f4 : ∀ j, (gx_up (gx_up M2 104 0 (M2 104 0 + 1)) 106 (M2 104 0) tk) 104 j = if j = 0 then M 1 0 + 1 else M 104 j := fun j => by rw [gx_up_ne (by decide), gx_up_at, e0, e104]
  have f6 : ∀ j, (gx_up (gx_up M2 104 0 (M2 104 0 + 1)) 106 (M2 104 0) tk) 106 j = if j = M 1 0 then tk else M 106 j := fun j => by rw [gx_up_at, e0, gx_up_ne (by decide), a3 106 (by decide)]
  refine law_131_001 hk (by rw [hk]; exact ⟨by decide, by decide⟩) (by omega) ⟨by omega, by omega⟩ t1 (by omega) a1 (by omega) e0.symm ⟨by omega, by omega⟩ ⟨by omega, by omega⟩ w1 (by omega) ⟨by omega, by omega⟩ ?_
  generalize gx_up (gx_up M2 104 0 (M2 104 0 + 1)) 106 (M2 104 0) tk = Mf at f f4 f6 ⊢
  have f1 := f 1 (by decide) (by decide)
  have f2 := f 2 (by decide) (by decide)
  have f3 := f 3 (by decide) (by decide)
  refine kk Mf w ⟨⟨gI0_kept a2 (fun k hk => f k (by omega) (by omega)) (by rw [f 7 (by decide) (by decide)]; exact a2.2.2.1), ⟨⟨?_, ?_⟩, ?_⟩, w2, ⟨?_, ?_⟩, ?_, fun p p1 p2 => ?_⟩, ⟨fun p p1 p2 => ?_, fun m m1 m2 => ?_⟩, gCK_kept hC (fun k k1 k2 => by rw [f k (by omega) (by omega), a3 k (by omega)])⟩ (by rw [f1]; exact a4)
  · rw [f4, if_pos rfl]; omega
  · rw [f4, if_neg (by decide)]; exact hR.1.1.2
  · rw [f 105 (by decide) (by decide), a3 105 (by decide)]; exact hR.1.2
  · rw [f4, if_pos rfl, f1, a4.1]
  · rw [f4, if_neg (by decide), f1, a4.2]; exact hPV.2
  · rw [f 105 (by decide) (by decide), a3 105 (by decide), f 5 (by decide) (by decide), f 6 (by decide) (by decide), a6, a7]; exact hR.2.2.2.1
  · rw [w3 p p1 p2, f2, a8, e0, hR.2.2.2.2 p p1 p2]
  · rw [f6, f3, a9, h6 p p1 p2]
  · rw [f 107 (by decide) (by decide), a3 107 (by decide), f 4 (by decide) (by decide), a5]; exact h7 m m1 m2
theorem L_move {M : gx_M} {now b c x kd m0 p0 : Int} {t : Nat} (hd : 4 ≤ d) (h : gLI M now b c) (hP : M 1 1 < 4) (hk : kd = 1)
    (kk : ∀ M' now', gLI M' now' b c → (M' 1 0 = M 1 0 ∧ M' 1 1 = M 1 1 + 1) → gx_G l κ gx_sh z_mt zL_law d (680, [gR 0, gR 1, gR 105, gR 106, gR 107, gR 108, gR 109, gR 110, gR 111, gJ now', gU, gI (t : Int), gI x, gU, gU, gU, gU, gU, gU, gU, gU, gU, gU, gU], [], M') Q) :
    gx_G l κ gx_sh z_mt zL_law d (197, [gR 0, gR 1, gR 105, gR 106, gR 107, gR 108, gR 109, gR 110, gR 111, gJ now, gU, gI (t : Int), gI x, gI kd, gI m0, gI p0, gU, gU, gU, gU, gU, gU, gU, gU], [], M) Q := by
  obtain ⟨⟨h0, hR⟩, ⟨h6, h7⟩, hC⟩ := h
  have hPV := hR.2.2.1
  have hV0 := h0.1.1.2
  obtain ⟨M2, a1, a2, a3, a4, a5, a6, a7, a8, a9⟩ := X_o_move (l := l) (κ := κ) (d := 3) (M := M) (by omega) h0 hP
  have e104 : M2 104 = M 104 := a3 104 (by decide)
  have e0 : M2 104 1 = M 1 1 := by rw [e104]; exact hPV.2
  have f : ∀ k, k ≠ 104 → (gx_up M2 104 1 (M2 104 1 + 1)) k = M2 k := fun k k1 => gx_up_ne k1
  have f4 : ∀ j, (gx_up M2 104 1 (M2 104 1 + 1)) 104 j = if j = 1 then M 1 1 + 1 else M 104 j := fun j => by rw [gx_up_at, e0, e104]
  refine law_197_001 hk (by rw [hk]; exact ⟨by decide, by decide⟩) (by omega) ⟨by omega, by omega⟩ a1 (by omega) e0.symm ⟨by omega, by omega⟩ ⟨by omega, by omega⟩ ?_
  generalize gx_up M2 104 1 (M2 104 1 + 1) = Mf at f f4 ⊢
  have f1 := f 1 (by decide)
  refine kk Mf now ⟨⟨gI0_kept a2 (fun k hk => f k (by omega)) (by rw [f 7 (by decide)]; exact a2.2.2.1), ⟨⟨?_, ?_⟩, ?_⟩, hR.2.1, ⟨?_, ?_⟩, ?_, fun p p1 p2 => ?_⟩, ⟨fun p p1 p2 => ?_, fun m m1 m2 => ?_⟩, gCK_kept hC (fun k k1 k2 => by rw [f k (by omega), a3 k (by omega)])⟩ (by rw [f1]; exact a4)
  · rw [f4, if_neg (by decide)]; exact hR.1.1.1
  · rw [f4, if_pos rfl]; omega
  · rw [f 105 (by decide), a3 105 (by decide)]; exact hR.1.2
  · rw [f4, if_neg (by decide), f1, a4.1]; exact hPV.1
  · rw [f4, if_pos rfl, f1, a4.2]
  · rw [f 105 (by decide), a3 105 (by decide), f 5 (by decide), f 6 (by decide), a8, a9]; exact hR.2.2.2.1
  · rw [f 2 (by decide), a5]; exact hR.2.2.2.2 p p1 p2
  · rw [f 106 (by decide), a3 106 (by decide), f 3 (by decide), a6]; exact h6 p p1 p2
  · rw [f 107 (by decide), a3 107 (by decide), f 4 (by decide), a7]; exact h7 m m1 m2
theorem L_arc {M : gx_M} {now b c x kd m0 p0 : Int} {t : Nat} (hd : 4 ≤ d) (h : gLI M now b c) (hm : 0 ≤ m0 ∧ m0 < M 1 1) (hp : 0 ≤ p0 ∧ p0 < M 1 0) (hk : 0 ≤ kd ∧ kd < 5)
    (kk : ∀ M' now', gLI M' now' b c → (M' 1 0 = M 1 0 ∧ M' 1 1 = M 1 1) → gx_G l κ gx_sh z_mt zL_law d (680, [gR 0, gR 1, gR 105, gR 106, gR 107, gR 108, gR 109, gR 110, gR 111, gJ now', gU, gI (t : Int), gI x, gU, gU, gU, gU, gU, gU, gU, gU, gU, gU, gU], [], M') Q) :
    gx_G l κ gx_sh z_mt zL_law d (227, [gR 0, gR 1, gR 105, gR 106, gR 107, gR 108, gR 109, gR 110, gR 111, gJ now, gU, gI (t : Int), gI x, gI kd, gI m0, gI p0, gU, gU, gU, gU, gU, gU, gU, gU], [], M) Q := by
  obtain ⟨⟨h0, hR⟩, ⟨h6, h7⟩, hC⟩ := h
  have hPV := hR.2.2.1
  have hV0 := h0.1.1
  obtain ⟨tk, t1, t2, t3⟩ := X_low (l := l) (κ := κ) (d := 0) (M := M) (v := gx_shr x 8) (n := 4) (by decide)
  obtain ⟨gv, g1, g2, g3⟩ := X_low (l := l) (κ := κ) (d := 0) (M := M) (v := gx_shr x 11) (n := 4) (by decide)
  obtain ⟨M2, a1, a2, a3, a4, ⟨a5, a6, a7⟩, a8, a9⟩ := X_o_arc (l := l) (κ := κ) (d := 3) (M := M) (mv := m0) (pl := p0) (tk := tk) (gv := gv) (by omega) h0 hm hp ⟨t2, by omega⟩ ⟨g2, by omega⟩
  have e105 : M2 105 = M 105 := a3 105 (by decide)
  have ha := hR.2.2.2.1 m0 p0 hm.1 (by omega) hp.1 (by omega)
  have hA := h0.1.2.1 (m0 * 8 + p0) (by omega) (by omega)
  have f : ∀ k, k ≠ 105 → (gx_up M2 105 (4 * m0 + p0) (16 * tk + gv)) k = M2 k := fun k k1 => gx_up_ne k1
  have f5 : ∀ j, (gx_up M2 105 (4 * m0 + p0) (16 * tk + gv)) 105 j = if j = 4 * m0 + p0 then 16 * tk + gv else M 105 j := fun j => by rw [gx_up_at, e105]
  refine law_227_01 hk.2 ⟨by omega, by omega⟩ t1 (by omega) g1 (by omega) a1 (by omega) ⟨by omega, by omega⟩ (by rw [e105]; omega) (by rw [e105]; omega) ⟨by omega, by omega⟩ (by rw [e105]; exact ⟨by omega, by omega⟩) ?_
  generalize gx_up M2 105 (4 * m0 + p0) (16 * tk + gv) = Mf at f f5 ⊢
  have f1 := f 1 (by decide)
  refine kk Mf now ⟨⟨gI0_kept a2 (fun k hk => f k (by omega)) (by rw [f 7 (by decide)]; exact a2.2.2.1), ⟨?_, fun i i1 i2 => ?_⟩, hR.2.1, ?_, fun m p m1 m2 p1 p2 => ?_, fun p p1 p2 => ?_⟩, ⟨fun p p1 p2 => ?_, fun m m1 m2 => ?_⟩, gCK_kept hC (fun k k1 k2 => by rw [f k (by omega), a3 k (by omega)])⟩ (by rw [f1]; exact a4)
  · rw [f 104 (by decide), a3 104 (by decide)]; exact hR.1.1
  · rw [f5]
    split
    · omega
    · exact hR.1.2 i i1 i2
  · rw [f 104 (by decide), a3 104 (by decide), f1, a4.1, a4.2]; exact hPV
  · rw [f5, f 5 (by decide), f 6 (by decide), a8, a9]
    by_cases e : m = m0 ∧ p = p0
    · rw [if_pos (by omega), if_pos (by omega), if_pos (by omega)]
      omega
    · rw [if_neg (by omega), if_neg (by omega), if_neg (by omega)]
      exact hR.2.2.2.1 m p m1 m2 p1 p2
  · rw [f 2 (by decide), a5]; exact hR.2.2.2.2 p p1 p2
  · rw [f 106 (by decide), a3 106 (by decide), f 3 (by decide), a6]; exact h6 p p1 p2
  · rw [f 107 (by decide), a3 107 (by decide), f 4 (by decide), a7]; exact h7 m m1 m2
theorem L_tokens {M : gx_M} {now b c x kd m0 p0 : Int} {t : Nat} (hd : 4 ≤ d) (h : gLI M now b c) (hb : 5 ≤ b ∧ b ≤ 10000) (hp : 0 ≤ p0 ∧ p0 < M 1 0) (hk : kd = 5)
    (kk : ∀ M' now', gLI M' now' b c → (M' 1 0 = M 1 0 ∧ M' 1 1 = M 1 1) → gx_G l κ gx_sh z_mt zL_law d (680, [gR 0, gR 1, gR 105, gR 106, gR 107, gR 108, gR 109, gR 110, gR 111, gJ now', gU, gI (t : Int), gI x, gU, gU, gU, gU, gU, gU, gU, gU, gU, gU, gU], [], M') Q) :
    gx_G l κ gx_sh z_mt zL_law d (227, [gR 0, gR 1, gR 105, gR 106, gR 107, gR 108, gR 109, gR 110, gR 111, gJ now, gU, gI (t : Int), gI x, gI kd, gI m0, gI p0, gU, gU, gU, gU, gU, gU, gU, gU], [], M) Q := by
  obtain ⟨⟨h0, hR⟩, ⟨h6, h7⟩, hC⟩ := h
  have hPV := hR.2.2.1
  have hV0 := h0.1.1
  obtain ⟨tk, t1, t2, t3⟩ := X_low (l := l) (κ := κ) (d := 0) (M := M) (v := gx_shr x 5) (n := 6) (by decide)
  obtain ⟨M2, a1, a2, a3, a4, ⟨a5, a6, a7⟩, a8, a9⟩ := X_o_tokens (l := l) (κ := κ) (d := 3) (M := M) (pl := p0) (t := tk) (by omega) h0 hp ⟨t2, by omega, by omega⟩ (by omega)
  have hat := X_at (l := l) (κ := κ) (d := 0) (M := M2) hR.2.1 (p := p0) ⟨hp.1, by omega⟩
  rw [hR.2.2.2.2 p0 hp.1 (by omega)] at hat
  have hv := (h0.1.2.2 p0 hp.1 (by omega)).1
  obtain ⟨w, w1, w2, w3⟩ := X_with (l := l) (κ := κ) (d := 0) (M := M2) hR.2.1 (p := p0) (v := tk) ⟨by omega, by omega⟩ ⟨by omega, by omega⟩
  have f : ∀ k, k ≠ 106 → (gx_up M2 106 p0 tk) k = M2 k := fun k k1 => gx_up_ne k1
  have f6 : ∀ j, (gx_up M2 106 p0 tk) 106 j = if j = p0 then tk else M 106 j := fun j => by rw [gx_up_at, a3 106 (by decide)]
  refine law_227_101 (by omega) ⟨by omega, by omega⟩ hk t1 (by omega) a1 (by omega) hat (by omega) rfl ⟨by omega, by omega⟩ ⟨by omega, by omega⟩ w1 (by omega) ⟨by omega, by omega⟩ ?_
  generalize gx_up M2 106 p0 tk = Mf at f f6 ⊢
  have f1 := f 1 (by decide)
  refine kk Mf w ⟨⟨gI0_kept a2 (fun k hk => f k (by omega)) (by rw [f 7 (by decide)]; exact a2.2.2.1), ⟨?_, ?_⟩, w2, ?_, ?_, fun p p1 p2 => ?_⟩, ⟨fun p p1 p2 => ?_, fun m m1 m2 => ?_⟩, gCK_kept hC (fun k k1 k2 => by rw [f k (by omega), a3 k (by omega)])⟩ (by rw [f1]; exact a4)
  · rw [f 104 (by decide), a3 104 (by decide)]; exact hR.1.1
  · rw [f 105 (by decide), a3 105 (by decide)]; exact hR.1.2
  · rw [f 104 (by decide), a3 104 (by decide), f1, a4.1, a4.2]; exact hPV
  · rw [f 105 (by decide), a3 105 (by decide), f 5 (by decide), f 6 (by decide), a6, a7]; exact hR.2.2.2.1
  · rw [w3 p p1 p2, f 2 (by decide), a8, hR.2.2.2.2 p p1 p2]
  · rw [f6, f 3 (by decide), a9, h6 p p1 p2]
  · rw [f 107 (by decide), a3 107 (by decide), f 4 (by decide), a5]; exact h7 m m1 m2
theorem L_runs {M : gx_M} {now b c x kd m0 p0 : Int} {t : Nat} (hd : 6 ≤ d) (h : gLI M now b c) (hb : 5 ≤ b ∧ b ≤ 9900) (hcc : 0 ≤ c ∧ c ≤ 10000) (hk : 6 < kd ∧ kd < 9)
    (kk : ∀ M' now', gLI M' now' (b + 54) (c + 6) → (M' 1 0 = M 1 0 ∧ M' 1 1 = M 1 1) → gx_G l κ gx_sh z_mt zL_law d (680, [gR 0, gR 1, gR 105, gR 106, gR 107, gR 108, gR 109, gR 110, gR 111, gJ now', gU, gI (t : Int), gI x, gU, gU, gU, gU, gU, gU, gU, gU, gU, gU, gU], [], M') Q) :
    gx_G l κ gx_sh z_mt zL_law d (227, [gR 0, gR 1, gR 105, gR 106, gR 107, gR 108, gR 109, gR 110, gR 111, gJ now, gU, gI (t : Int), gI x, gI kd, gI m0, gI p0, gU, gU, gU, gU, gU, gU, gU, gU], [], M) Q := by
  have hLI := h
  obtain ⟨⟨h0, hR⟩, ⟨h6, h7⟩, hC⟩ := h
  obtain ⟨mn, t1, t2, t3⟩ := X_low (l := l) (κ := κ) (d := 0) (M := M) (v := gx_shr x 9) (n := 6) (by decide)
  obtain ⟨mn, rfl⟩ := gb_nat t2
  have kR : gx_R kd := ⟨by omega, by omega⟩
  have xs := gb_and_le x 2147483647 ⟨by decide, by decide⟩
  have em : (1 : Int) + (mn : Int) = ((mn + 1 : Nat) : Int) := by omega
  refine law_227_111 (by omega) kR (by omega) (by omega) t1 (by omega) (law_401 ⟨by omega, by omega⟩ ?_)
  rw [em]
  refine L_seed (by omega) (gLN_of hR h0) hk (by omega) (mn + 1) 0 (gx_and x 2147483647) 0 (gOf M) M now (by omega) (gRl_0 hLI (by omega)) ⟨xs.1, by omega⟩ (fun M2 now2 k2 hk2 hR2 => ?_)
  have f : ∀ q, q < 8 → M2 q = M q := fun q hq => hR2.1 q (by omega) (by omega)
  have h02 : gI0 M2 b c := gI0_kept h0 (fun k hk => f k (by omega)) (by rw [f 7 (by decide)]; exact h0.2.2.1)
  obtain ⟨M3, a1, a2, a3, a4, a5⟩ := X_o_run (l := l) (κ := κ) (d := 5) (M := M2) (seed := gx_and x 2147483647) (many := ((mn + 1 : Nat) : Int)) (by omega) h02 ⟨by omega, by omega⟩ ⟨by omega, by omega⟩ ⟨xs.1, by omega⟩ ⟨by omega, by omega⟩
  have eO : gOf M2 = gOf M := by unfold gOf; rw [f 2 (by decide), f 3 (by decide), f 4 (by decide)]
  rw [f 1 (by decide), f 5 (by decide), f 6 (by decide)] at a4
  rw [f 1 (by decide), f 5 (by decide), f 6 (by decide), eO, Int.toNat_natCast] at a1 a5
  have hr := gRunS_rng (M 5) (M 6) (M 1 1).toNat (mn + 1) (gx_and x 2147483647) (gOf M)
  have e0 : (0 : Int) + (gRunS (M 5) (M 6) (M 1 1).toNat (mn + 1) (gx_and x 2147483647) (gOf M)).1 = (gRunS (M 5) (M 6) (M 1 1).toNat (mn + 1) (gx_and x 2147483647) (gOf M)).1 := Int.zero_add _
  rw [e0]
  exact law_612_1 (by omega) kR a1 (by omega) (law_639_0 hk.1 kR (law_675_1 rfl ⟨by omega, by omega⟩ ⟨by omega, by omega⟩ (kk M3 now2 (gLI_run hLI hR2 (gI0_mono a2 (by omega) (by omega)) a3 a4 a5) (by rw [a4.1]; exact ⟨rfl, rfl⟩))))
theorem L_makes {M : gx_M} {now b c x kd p0 : Int} {t m : Nat} (hd : 6 ≤ d) (h : gLI M now b c) (hb : 5 ≤ b ∧ b ≤ 9900) (hcc : 0 ≤ c ∧ c ≤ 10000) (hm : (m : Int) < M 1 1) (hk : kd = 6)
    (kk : ∀ M' now', gLI M' now' (b + 54) (c + 6) → (M' 1 0 = M 1 0 ∧ M' 1 1 = M 1 1) → gx_G l κ gx_sh z_mt zL_law d (680, [gR 0, gR 1, gR 105, gR 106, gR 107, gR 108, gR 109, gR 110, gR 111, gJ now', gU, gI (t : Int), gI x, gU, gU, gU, gU, gU, gU, gU, gU, gU, gU, gU], [], M') Q) :
    gx_G l κ gx_sh z_mt zL_law d (227, [gR 0, gR 1, gR 105, gR 106, gR 107, gR 108, gR 109, gR 110, gR 111, gJ now, gU, gI (t : Int), gI x, gI kd, gI (m : Int), gI p0, gU, gU, gU, gU, gU, gU, gU, gU], [], M) Q := by
  have hLI := h
  obtain ⟨⟨h0, hR⟩, ⟨h6, h7⟩, hC⟩ := h
  have hV0 := h0.1.1.2
  have hN := gLN_of hR h0
  have hR0 := gRl_0 hLI (by omega)
  have kR : gx_R kd := ⟨by omega, by omega⟩
  have xs := gb_and_le x 2147483647 ⟨by decide, by decide⟩
  have hmv := X_moves (l := l) (κ := κ) (d := 2) (M := M) (by omega) hN.1 hR.2.1
  rw [gMv_eq hN hR0] at hmv
  have g4 := gset_4 (gCn (M 5) (gOf M).1) (show (M 1 1).toNat ≤ 4 by omega)
  have hbit := gb_bit (s := gset (gCn (M 5) (gOf M).1) (M 1 1).toNat) (p := (m : Int)) ⟨g4.1, by omega⟩ ⟨by omega, by omega⟩
  rw [Int.toNat_natCast, gset_bit _ _ m (by omega)] at hbit
  refine law_227_110 (by omega) kR (by omega) hk (law_401 ⟨by omega, by omega⟩ ?_)
  by_cases c1 : gCn (M 5) (gOf M).1 (m : Int)
  · rw [gi_pos c1] at hbit
    refine law_417_001 (by decide) ⟨by decide, by decide⟩ ⟨by decide, by decide⟩ hmv (by omega) hk kR (by rw [hbit]; decide) (by rw [hbit]; exact ⟨by decide, by decide⟩) (law_461_1 (by omega) kR (L_step (by omega) hN hR0 (by omega) hm c1 (fun M2 now2 hR2 => ?_)))
    have f : ∀ q, q < 8 → M2 q = M q := fun q hq => hR2.1 q (by omega) (by omega)
    have h02 : gI0 M2 b c := gI0_kept h0 (fun k hk => f k (by omega)) (by rw [f 7 (by decide)]; exact h0.2.2.1)
    obtain ⟨M3, a1, a2, a3, a4, a5⟩ := X_o_make (l := l) (κ := κ) (d := 5) (M := M2) (mv := (m : Int)) (by omega) h02 ⟨by omega, by omega⟩ ⟨by omega, by omega⟩ (by rw [f 1 (by decide)]; exact ⟨by omega, hm⟩) (by rw [f 5 (by decide), f 2 (by decide)]; exact c1)
    have eO : gOf M2 = gOf M := by unfold gOf; rw [f 2 (by decide), f 3 (by decide), f 4 (by decide)]
    rw [f 1 (by decide), f 5 (by decide), f 6 (by decide)] at a4
    rw [f 5 (by decide), f 6 (by decide), eO] at a1 a5
    rw [f 1 (by decide)] at a1
    have hLI3 := gLI_run hLI hR2 (gI0_mono a2 (show b + 9 ≤ b + 54 by omega) (show c + 1 ≤ c + 6 by omega)) a3 a4 a5
    -- the moves that can be made then
    have hN3 := gLN_of hLI3.1.2 hLI3.1.1
    have hmv3 := X_moves (l := l) (κ := κ) (d := 2) (M := M3) (by omega) hN3.1 hLI3.1.2.2.1
    have hR3 := gRl_0 hLI3 (by omega)
    rw [gMv_eq hN3 hR3, a4.1, a4.2.1] at hmv3
    have ecn : gset (gCn (M 5) (gOf M3).1) (M 1 1).toNat = gset (gCn (M 5) (gMk (M 5) (M 6) (m : Int) (gOf M)).1) (M 1 1).toNat := gset_congr _ (fun j j1 j2 => gCn_congr ⟨j1, by omega⟩ (fun _ _ _ => rfl) (fun p p1 p2 => (a5.1 p p1 p2).1))
    rw [ecn] at hmv3
    have g43 := gset_4 (gCn (M 5) (gMk (M 5) (M 6) (m : Int) (gOf M)).1) (show (M 1 1).toNat ≤ 4 by omega)
    have hbt := X_bits (l := l) (κ := κ) (d := 0) (M := M3) g43
    have hr := gpc_rng (gset (gCn (M 5) (gMk (M 5) (M 6) (m : Int) (gOf M)).1) (M 1 1).toNat)
    exact law_417_1 (by decide) ⟨by decide, by decide⟩ ⟨by decide, by decide⟩ (law_612_0 hk kR a1 (by omega) (law_639_11 (by omega) kR (by decide) ⟨by decide, by decide⟩ hmv3 (by omega) hbt (by omega) (law_675_1 rfl ⟨by omega, by omega⟩ ⟨by omega, by omega⟩ (kk M3 now2 hLI3 (by rw [a4.1]; exact ⟨rfl, rfl⟩)))))
  · rw [gi_neg c1] at hbit
    obtain ⟨M3, a1, a2, a3⟩ := X_o_makeN (l := l) (κ := κ) (d := 5) (M := M) (mv := (m : Int)) (by omega) h0 ⟨by omega, by omega⟩ ⟨by omega, hm⟩ c1
    have g : ∀ k, (k < 7 ∨ 51 ≤ k) → M3 k = M k := a3
    refine law_417_000 (by decide) ⟨by decide, by decide⟩ ⟨by decide, by decide⟩ hmv (by omega) hk kR hbit (by rw [hbit]; exact ⟨by decide, by decide⟩) (law_612_0 hk kR a1 (by omega) (law_639_10 (by omega) kR rfl ⟨by decide, by decide⟩ (law_675_1 rfl ⟨by decide, by decide⟩ ⟨by decide, by decide⟩ (kk M3 now ⟨⟨gI0_mono a2 (by omega) (by omega), ?_⟩, ⟨?_, ?_⟩, gCK_kept hC (fun k k1 k2 => g k (by omega))⟩ (by rw [g 1 (by omega)]; exact ⟨rfl, rfl⟩)))))
    · unfold gLR gL at *
      rw [g 104 (by omega), g 105 (by omega), g 1 (by omega), g 2 (by omega), g 5 (by omega), g 6 (by omega)]
      exact hR
    · rw [g 106 (by omega), g 3 (by omega)]; exact h6
    · rw [g 107 (by omega), g 4 (by omega)]; exact h7
end LAWACT
