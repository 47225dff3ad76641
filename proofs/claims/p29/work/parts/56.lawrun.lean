/-! the law's acts: places, moves, arcs, tokens, moves made -/
def gHasb (s : Int) : Nat → Int → Int → Bool
  | 0, _, _ => false
  | k + 1, mb, left => if s / 2 ^ mb.toNat % 2 = 0 then gHasb s k (mb + 1) left else if left = 0 then true else gHasb s k (mb + 1) (left - 1)
theorem gHas_f : ∀ a : Nat, a < 16 → ∀ b : Nat, b < 4 → (b : Int) < gpc (a : Int) → gHasb (a : Int) 8 0 (b : Int) = true := by decide +kernel
theorem gHas_ok {s left : Int} (hs : g16 s) (hl : 0 ≤ left ∧ left < gpc s) : gHasb s 8 0 left = true := by
  have h4 := gpc_rng s
  obtain ⟨s, rfl⟩ := gb_nat hs.1
  obtain ⟨left, rfl⟩ := gb_nat hl.1
  exact gHas_f s (by have := hs.2; omega) left (by omega) hl.2
/-- the law's own run beside the class's state -/
def gRl (M M1 : gx_M) (now1 : Int) (k : Nat) (S : gS) : Prop := (∀ q, q ≠ 106 → q ≠ 107 → M1 q = M q) ∧ (gHo now1 (gtp S.1) ∧ gSl ((gtp S.1, (k : Int)) : gE)) ∧ (∀ p, 0 ≤ p → p < 4 → M1 106 p = S.2.1 p) ∧ (∀ m, 0 ≤ m → m < 4 → M1 107 m = S.2.2 m) ∧ gZs M S ∧ ∀ p, 0 ≤ p → p < 4 → 0 ≤ S.2.1 p ∧ S.2.1 p ≤ 10000 + 9 * (k : Int)
theorem gCn_tp {M : gx_M} {S : gS} (hP : M 1 0 ≤ 4) (hz : gZs M S) {m : Int} (hm : 0 ≤ m ∧ m < 8) : gCn (M 5) (gmk (gtp S.1)) m ↔ gCn (M 5) S.1 m := gCn_congr hm (fun _ _ _ => rfl) (fun p p1 p2 => by
  by_cases h4 : p < 4
  · exact gmk_tp S.1 ⟨p1, h4⟩
  · rw [gmk_hi _ (by omega)]
    exact ((hz.1 p (by omega) p2).1).symm)
theorem gNx_tp (tk gv : Int → Int) (S : gS) (k : Int) (m : Nat) : (gNx tk gv (gtp S.1, k) m).1 = gtp (gMk tk gv (m : Int) S).1 := gmk_ext (fun p p1 p2 => by
  show gmk (gtp (gSt tk gv (gmk (gtp S.1)) (m : Int))) p = gmk (gtp (gSt tk gv S.1 (m : Int))) p
  rw [gmk_tp _ ⟨p1, p2⟩, gmk_tp _ ⟨p1, p2⟩]
  unfold gSt
  rw [gmk_tp _ ⟨p1, p2⟩])
/-- the moves that the law counts are the class's -/
theorem gMv_eq {M M1 : gx_M} {now1 : Int} {k : Nat} {S : gS} (hN : gLN M) (hR : gRl M M1 now1 k S) : gset (gCan M1 now1) (M1 104 1).toNat = gset (gCn (M 5) S.1) (M 1 1).toNat := by
  have hP := hN.1.1.1
  have hV := hN.1.1.2
  have hPV := hN.2.1
  have hN1 : gLN M1 := by
    unfold gLN gL gAr at *
    rw [hR.1 104 (by decide) (by decide), hR.1 105 (by decide) (by decide), hR.1 1 (by decide) (by decide), hR.1 5 (by decide) (by decide), hR.1 6 (by decide) (by decide)]
    exact hN
  rw [hR.1 104 (by decide) (by decide), hPV.2]
  refine gset_congr _ (fun j j1 j2 => ?_)
  have h1 := gCan_Cn hN1 hR.2.1.1 (fun p p1 p2 => (hR.2.1.2.2 p p1 p2).1) (m := j) ⟨j1, by omega⟩
  rw [hR.1 5 (by decide) (by decide)] at h1
  exact h1.trans (gCn_tp (by omega) hR.2.2.2.2.1 ⟨j1, by omega⟩)
theorem gRunS_0 {tk gv : Int → Int} {V k : Nat} {x : Int} {S : gS} (h : gset (gCn tk S.1) V = 0) : gRunS tk gv V (k + 1) x S = (0, S) := by
  have e : gRunS tk gv V (k + 1) x S = @ite _ (gset (gCn tk S.1) V = 0) (Classical.propDecidable _) (0, S)
      ((gRunS tk gv V k ((x * 1103515245 + 12345) % 2147483648) (gMk tk gv (gPick (gset (gCn tk S.1) V) 8 0 ((x * 1103515245 + 12345) % 2147483648 / 65536 % gpc (gset (gCn tk S.1) V))) S)).1 + 1, (gRunS tk gv V k ((x * 1103515245 + 12345) % 2147483648) (gMk tk gv (gPick (gset (gCn tk S.1) V) 8 0 ((x * 1103515245 + 12345) % 2147483648 / 65536 % gpc (gset (gCn tk S.1) V))) S)).2) := rfl
  rw [e, @if_pos _ (Classical.propDecidable _) h]
theorem gRunS_S {tk gv : Int → Int} {V k : Nat} {x : Int} {S : gS} (h : ¬ gset (gCn tk S.1) V = 0) : gRunS tk gv V (k + 1) x S = ((gRunS tk gv V k ((x * 1103515245 + 12345) % 2147483648) (gMk tk gv (gPick (gset (gCn tk S.1) V) 8 0 ((x * 1103515245 + 12345) % 2147483648 / 65536 % gpc (gset (gCn tk S.1) V))) S)).1 + 1, (gRunS tk gv V k ((x * 1103515245 + 12345) % 2147483648) (gMk tk gv (gPick (gset (gCn tk S.1) V) 8 0 ((x * 1103515245 + 12345) % 2147483648 / 65536 % gpc (gset (gCn tk S.1) V))) S)).2) := by
  have e : gRunS tk gv V (k + 1) x S = @ite _ (gset (gCn tk S.1) V = 0) (Classical.propDecidable _) (0, S)
      ((gRunS tk gv V k ((x * 1103515245 + 12345) % 2147483648) (gMk tk gv (gPick (gset (gCn tk S.1) V) 8 0 ((x * 1103515245 + 12345) % 2147483648 / 65536 % gpc (gset (gCn tk S.1) V))) S)).1 + 1, (gRunS tk gv V k ((x * 1103515245 + 12345) % 2147483648) (gMk tk gv (gPick (gset (gCn tk S.1) V) 8 0 ((x * 1103515245 + 12345) % 2147483648 / 65536 % gpc (gset (gCn tk S.1) V))) S)).2) := rfl
  rw [e, @if_neg _ (Classical.propDecidable _) h]
section LAWRUN
variable {l : Launch} {κ : yK} {d : Nat} {Q : Option gx_V → gx_M → Prop}
theorem L_pick {M : gx_M} {s now x11 x12 x13 x14 x16 x17 x19 x20 : Int} (hs : g16 s) : ∀ (k : Nat) (mb left : Int), mb + k = 8 → 0 ≤ mb → (0 ≤ left ∧ left < 16) → gHasb s k mb left = true →
    gx_G l κ gx_sh z_mt zL_law d (531, [gR 0, gR 1, gR 105, gR 106, gR 107, gR 108, gR 109, gR 110, gR 111, gJ now, gU, gI x11, gI x12, gI x13, gI x14, gU, gI x16, gJ x17, gU, gI x19, gI x20, gU, gI (gPick s k mb left), gU], [], M) Q →
    gx_G l κ gx_sh z_mt zL_law d (507, [gR 0, gR 1, gR 105, gR 106, gR 107, gR 108, gR 109, gR 110, gR 111, gJ now, gU, gI x11, gI x12, gI x13, gI x14, gU, gI x16, gJ x17, gU, gI x19, gI x20, gI s, gI mb, gI left], [], M) Q := by
  intro k
  induction k with
  | zero => intro mb left _ _ _ h; cases h
  | succ k ih =>
    intro mb left hk h0 hl hh kk
    have hb := gb_bit (s := s) (p := mb) ⟨hs.1, by have := hs.2; omega⟩ ⟨h0, by omega⟩
    have bR : gx_R (gx_and (gx_shr s mb) 1) := by rw [hb]; exact ⟨by omega, by omega⟩
    have eP : gPick s (k + 1) mb left = if s / 2 ^ mb.toNat % 2 = 0 then gPick s k (mb + 1) left else if left = 0 then mb else gPick s k (mb + 1) (left - 1) := rfl
    have eH : gHasb s (k + 1) mb left = if s / 2 ^ mb.toNat % 2 = 0 then gHasb s k (mb + 1) left else if left = 0 then true else gHasb s k (mb + 1) (left - 1) := rfl
    by_cases c : s / 2 ^ mb.toNat % 2 = 0
    · rw [if_pos c] at eP eH
      rw [eP] at kk
      rw [eH] at hh
      exact law_507_1 (by rw [hb]; exact c) bR (law_525 (ih (mb + 1) left (by omega) (by omega) hl hh kk))
    · rw [if_neg c] at eP eH
      by_cases cl : left = 0
      · rw [if_pos cl] at eP
        rw [eP] at kk
        exact law_507_01 (by rw [hb]; exact c) bR (by omega) ⟨by omega, by omega⟩ kk
      · rw [if_neg cl] at eP eH
        rw [eP] at kk
        rw [eH] at hh
        exact law_507_00 (by rw [hb]; exact c) bR (by omega) ⟨by omega, by omega⟩ (law_525 (ih (mb + 1) (left + (-1)) (by omega) (by omega) (by omega) hh kk))
/-- one move made by the law -/
theorem L_step {M M1 : gx_M} {now1 x11 x12 x13 x14 x16 x17 x19 x20 : Int} {k m : Nat} {S : gS} (hd : 2 ≤ d) (hN : gLN M) (hR : gRl M M1 now1 k S) (hk : k ≤ 100) (hm : (m : Int) < M 1 1) (hc : gCn (M 5) S.1 (m : Int))
    (kk : ∀ M2 now2, gRl M M2 now2 (k + 1) (gMk (M 5) (M 6) (m : Int) S) → gx_G l κ gx_sh z_mt zL_law d (417, [gR 0, gR 1, gR 105, gR 106, gR 107, gR 108, gR 109, gR 110, gR 111, gJ now2, gU, gI x11, gI x12, gI x13, gI x14, gU, gI x16, gJ x17, gU, gI (x19 + 1), gI (x20 + 1), gU, gU, gU], [], M2) Q) :
    gx_G l κ gx_sh z_mt zL_law d (531, [gR 0, gR 1, gR 105, gR 106, gR 107, gR 108, gR 109, gR 110, gR 111, gJ now1, gU, gI x11, gI x12, gI x13, gI x14, gU, gI x16, gJ x17, gU, gI x19, gI x20, gU, gI (m : Int), gU], [], M1) Q := by
  have hP := hN.1.1.1
  have hV := hN.1.1.2
  have hPV := hN.2.1
  have hA := hN.2.2.2.1
  have hN1 : gLN M1 := by
    unfold gLN gL gAr at *
    rw [hR.1 104 (by decide) (by decide), hR.1 105 (by decide) (by decide), hR.1 1 (by decide) (by decide), hR.1 5 (by decide) (by decide), hR.1 6 (by decide) (by decide)]
    exact hN
  obtain ⟨r1, ⟨r2, r3⟩, r4, r5, r6, r7⟩ := hR
  have hm4 : m < 4 := by omega
  have hc' : gCn (M 5) (gmk (gtp S.1)) (m : Int) := (gCn_tp (by omega) r6 ⟨by omega, by omega⟩).mpr hc
  obtain ⟨r, b1, b2⟩ := X_behindL (l := l) (κ := κ) (d := 1) (by omega) hN1 (a := (gtp S.1, (k : Int))) r2 r3 (by show (k : Int) ≤ 300; omega) hm4 (by rw [r1 5 (by decide) (by decide)]; exact hc')
  rw [r1 5 (by decide) (by decide), r1 6 (by decide) (by decide), gNx_tp] at b2
  have hsl := (gNx_sl (gv := M 6) (a := (gtp S.1, (k : Int))) (m := m) (by omega) hA r3 (by show (k : Int) ≤ 300; omega) hc').1
  have ea : gNx (M 5) (M 6) ((gtp S.1, (k : Int)) : gE) m = (gtp (gMk (M 5) (M 6) (m : Int) S).1, ((k + 1 : Nat) : Int)) := Prod.ext (gNx_tp _ _ S (k : Int) m) (by show (k : Int) + 1 = ((k + 1 : Nat) : Int); omega)
  rw [ea] at hsl
  have hz : gZs M (gMk (M 5) (M 6) (m : Int) S) := gZs_Mk (by omega) ⟨by omega, hm, by omega⟩ (fun i i1 i2 i3 => hN.2.2.2.2 i i1 i2 i3) r6
  have nv : ∀ p, 0 ≤ p → p < 4 → 0 ≤ gSt (M 5) (M 6) S.1 (m : Int) p ∧ gSt (M 5) (M 6) S.1 (m : Int) p ≤ 10000 + 9 * ((k + 1 : Nat) : Int) := fun p p1 p2 => by
    have := hsl.2 p p1 p2
    have e : gmk ((gtp (gMk (M 5) (M 6) (m : Int) S).1, ((k + 1 : Nat) : Int)) : gE).1 p = gSt (M 5) (M 6) S.1 (m : Int) p := gmk_tp _ ⟨p1, p2⟩
    rw [e] at this
    exact this
  have nga : ∀ p, 0 ≤ p → p < 4 → ga r p = gSt (M 5) (M 6) S.1 (m : Int) p := fun p p1 p2 => by
    rw [b2.2 p p1 p2]
    exact gmk_tp _ ⟨p1, p2⟩
  -- the most that each place had
  have had : ∀ (q p : Nat) (M2 : gx_M), p + q = (M 1 0).toNat → (∀ q, q ≠ 106 → q ≠ 107 → M2 q = M q) → (∀ j, 0 ≤ j → j < 4 → M2 107 j = (gMk (M 5) (M 6) (m : Int) S).2.2 j) → (∀ j, 0 ≤ j → j < 4 → M2 106 j = if j < (p : Int) then (gMk (M 5) (M 6) (m : Int) S).2.1 j else S.2.1 j) →
      gx_G l κ gx_sh z_mt zL_law d (557, [gR 0, gR 1, gR 105, gR 106, gR 107, gR 108, gR 109, gR 110, gR 111, gJ r, gU, gI x11, gI x12, gI x13, gI x14, gU, gI x16, gJ x17, gU, gI (x19 + 1), gI x20, gU, gU, gI (p : Int)], [], M2) Q := by
    intro q
    induction q with
    | zero =>
      intro p M2 hp hf h7 h6
      have e104 : M2 104 0 = M 1 0 := by rw [hf 104 (by decide) (by decide)]; exact hPV.1
      refine law_557_1 (by omega) ⟨by omega, by omega⟩ ⟨by omega, by omega⟩ (kk M2 r ⟨hf, ⟨b2, hsl⟩, fun j j1 j2 => ?_, h7, hz, fun j j1 j2 => ?_⟩)
      · rw [h6 j j1 j2]
        by_cases c : j < (p : Int)
        · rw [if_pos c]
        · rw [if_neg c, (hz.1 j (by omega) (by omega)).2, (r6.1 j (by omega) (by omega)).2]
      · have h1 := nv j j1 j2
        have h2 := r7 j j1 j2
        show 0 ≤ max (S.2.1 j) (gSt (M 5) (M 6) S.1 (m : Int) j) ∧ max (S.2.1 j) (gSt (M 5) (M 6) S.1 (m : Int) j) ≤ 10000 + 9 * ((k + 1 : Nat) : Int)
        omega
    | succ q ih =>
      intro p M2 hp hf h7 h6
      have e104 : M2 104 0 = M 1 0 := by rw [hf 104 (by decide) (by decide)]; exact hPV.1
      have hat := X_at (l := l) (κ := κ) (d := 0) (M := M2) b2.1 (p := (p : Int)) ⟨by omega, by omega⟩
      rw [nga (p : Int) (by omega) (by omega)] at hat
      have h1 := nv (p : Int) (by omega) (by omega)
      have h2 := r7 (p : Int) (by omega) (by omega)
      have e6 := h6 (p : Int) (by omega) (by omega)
      rw [if_neg (by omega)] at e6
      have emk : (gMk (M 5) (M 6) (m : Int) S).2.1 (p : Int) = max (S.2.1 (p : Int)) (gSt (M 5) (M 6) S.1 (m : Int) (p : Int)) := rfl
      have nxt : ∀ v, v = (gMk (M 5) (M 6) (m : Int) S).2.1 (p : Int) → gx_G l κ gx_sh z_mt zL_law d (557, [gR 0, gR 1, gR 105, gR 106, gR 107, gR 108, gR 109, gR 110, gR 111, gJ r, gU, gI x11, gI x12, gI x13, gI x14, gU, gI x16, gJ x17, gU, gI (x19 + 1), gI x20, gU, gU, gI ((p : Int) + 1)], [], gx_up M2 106 (p : Int) v) Q := fun v hv => ih (p + 1) (gx_up M2 106 (p : Int) v) (by omega) (fun q q1 q2 => by rw [gx_up_ne q1]; exact hf q q1 q2) (fun j j1 j2 => by rw [gx_up_ne (by decide)]; exact h7 j j1 j2) (fun j j1 j2 => by
        rw [gx_up_at]
        by_cases e : j = (p : Int)
        · rw [if_pos e, if_pos (by omega), e]; exact hv
        · rw [if_neg e, h6 j j1 j2]
          by_cases e2 : j < (p : Int)
          · rw [if_pos e2, if_pos (by omega)]
          · rw [if_neg e2, if_neg (by omega)])
      by_cases c : gSt (M 5) (M 6) S.1 (m : Int) (p : Int) ≤ S.2.1 (p : Int)
      · exact law_557_01 (by omega) ⟨by omega, by omega⟩ ⟨by omega, by omega⟩ hat (by omega) ⟨by omega, by omega⟩ (by rw [e6]; exact c) ⟨by omega, by omega⟩ (by rw [e6]; exact ⟨by omega, by omega⟩) (law_599 ⟨by omega, by omega⟩ (nxt _ (by rw [e6, emk]; omega)))
      · exact law_557_00 (by omega) ⟨by omega, by omega⟩ ⟨by omega, by omega⟩ hat (by omega) ⟨by omega, by omega⟩ (by rw [e6]; omega) ⟨by omega, by omega⟩ (by rw [e6]; exact ⟨by omega, by omega⟩) hat (by omega) (law_599 ⟨by omega, by omega⟩ (nxt _ (by rw [emk]; omega)))
  refine law_531 b1 (by omega) ⟨by omega, by omega⟩ (had (M 1 0).toNat 0 _ (by omega) (fun q q1 q2 => by rw [gx_up_ne q2]; exact r1 q q1 q2) (fun j j1 j2 => ?_) (fun j j1 j2 => by rw [gx_up_ne (by decide), if_neg (by omega)]; exact r4 j j1 j2))
  rw [gx_up_at, r5 (m : Int) (by omega) (by omega)]
  show _ = if j = (m : Int) then S.2.2 j + 1 else S.2.2 j
  by_cases e : j = (m : Int)
  · rw [if_pos e, if_pos e, e]
  · rw [if_neg e, if_neg e]; exact r5 j j1 j2
/-- the law's moves by a seed -/
theorem L_seed {M : gx_M} {x11 x12 x13 x14 : Int} {many : Nat} (hd : 4 ≤ d) (hN : gLN M) (h13 : 6 < x13 ∧ x13 < 9) (hmany : many ≤ 90) : ∀ (j k : Nat) (x dn : Int) (S : gS) (M1 : gx_M) (now1 : Int), k + j = many → gRl M M1 now1 k S → (0 ≤ x ∧ x < 2147483648) →
    (∀ M2 now2 k2, k2 ≤ many → gRl M M2 now2 k2 (gRunS (M 5) (M 6) (M 1 1).toNat j x S).2 → gx_G l κ gx_sh z_mt zL_law d (612, [gR 0, gR 1, gR 105, gR 106, gR 107, gR 108, gR 109, gR 110, gR 111, gJ now2, gU, gI x11, gI x12, gI x13, gI x14, gU, gI (many : Int), gU, gU, gI (dn + (gRunS (M 5) (M 6) (M 1 1).toNat j x S).1), gU, gU, gU, gU], [], M2) Q) →
    gx_G l κ gx_sh z_mt zL_law d (417, [gR 0, gR 1, gR 105, gR 106, gR 107, gR 108, gR 109, gR 110, gR 111, gJ now1, gU, gI x11, gI x12, gI x13, gI x14, gU, gI (many : Int), gJ x, gU, gI dn, gI (k : Int), gU, gU, gU], [], M1) Q := by
  have hP := hN.1.1.1
  have hV := hN.1.1.2
  have hPV := hN.2.1
  intro j
  induction j with
  | zero =>
    intro k x dn S M1 now1 hk hR hx kk
    have h1 := kk M1 now1 k (by omega) hR
    have e : dn + (gRunS (M 5) (M 6) (M 1 1).toNat 0 x S).1 = dn := Int.add_zero dn
    rw [e] at h1
    exact law_417_1 (by omega) ⟨by omega, by omega⟩ ⟨by omega, by omega⟩ h1
  | succ j ih =>
    intro k x dn S M1 now1 hk hR hx kk
    have hL1 : gL M1 := by
      unfold gL at *
      rw [hR.1 104 (by decide) (by decide), hR.1 105 (by decide) (by decide)]
      exact hN.1
    have hmv := X_moves (l := l) (κ := κ) (d := 2) (M := M1) (by omega) hL1 hR.2.1.1.1
    rw [gMv_eq hN hR] at hmv
    have g4 := gset_4 (gCn (M 5) S.1) (show (M 1 1).toNat ≤ 4 by omega)
    have sR : gx_R (gset (gCn (M 5) S.1) (M 1 1).toNat) := ⟨by omega, by omega⟩
    have n6 : ¬ x13 = 6 := by omega
    have r13 : gx_R x13 := ⟨by omega, by omega⟩
    by_cases c0 : gset (gCn (M 5) S.1) (M 1 1).toNat = 0
    · have e := gRunS_0 (gv := M 6) (k := j) (x := x) c0
      rw [e] at kk
      have h1 := kk M1 now1 k (by omega) hR
      have e2 : dn + ((0, S) : Int × gS).1 = dn := Int.add_zero dn
      rw [e2] at h1
      exact law_417_010 (by omega) ⟨by omega, by omega⟩ ⟨by omega, by omega⟩ hmv (by omega) n6 r13 c0 sR h1
    · have e := gRunS_S (gv := M 6) (k := j) (x := x) c0
      have hg := gpc_pos g4 c0
      have hg4 := gpc_rng (gset (gCn (M 5) S.1) (M 1 1).toNat)
      have hbits := X_bits (l := l) (κ := κ) (d := 0) (M := M1) g4
      have hx' : 0 ≤ (x * 1103515245 + 12345) % 2147483648 ∧ (x * 1103515245 + 12345) % 2147483648 < 2147483648 := ⟨Int.emod_nonneg _ (by decide), Int.emod_lt_of_pos _ (by decide)⟩
      have hlf : 0 ≤ (x * 1103515245 + 12345) % 2147483648 / 65536 % gpc (gset (gCn (M 5) S.1) (M 1 1).toNat) ∧ (x * 1103515245 + 12345) % 2147483648 / 65536 % gpc (gset (gCn (M 5) S.1) (M 1 1).toNat) < gpc (gset (gCn (M 5) S.1) (M 1 1).toNat) := ⟨Int.emod_nonneg _ (by omega), Int.emod_lt_of_pos _ hg⟩
      obtain ⟨p1, p2⟩ := gPick_ok (show (M 1 1).toNat ≤ 4 by omega) hlf
      have hh := gHas_ok (show g16 (gset (gCn (M 5) S.1) (M 1 1).toNat) from g4) hlf
      refine law_417_011 (by omega) ⟨by omega, by omega⟩ ⟨by omega, by omega⟩ hmv (by omega) n6 r13 c0 sR (law_461_0 (by omega) r13 ⟨by omega, by omega⟩ ⟨hx'.1, by omega⟩ hbits (by omega) ⟨by omega, by omega⟩ ⟨⟨by omega, by omega⟩, hg, by omega⟩ (L_pick g4 8 0 _ (by decide) (by decide) ⟨hlf.1, by omega⟩ hh ?_))
      rw [e] at kk
      generalize gPick (gset (gCn (M 5) S.1) (M 1 1).toNat) 8 0 ((x * 1103515245 + 12345) % 2147483648 / 65536 % gpc (gset (gCn (M 5) S.1) (M 1 1).toNat)) = ch at p1 p2 kk ⊢
      obtain ⟨m, rfl⟩ := gb_nat p1.1
      refine L_step (by omega) hN hR (by omega) (by omega) p2 (fun M2 now2 hR2 => ?_)
      have h2 := ih (k + 1) ((x * 1103515245 + 12345) % 2147483648) (dn + 1) (gMk (M 5) (M 6) (m : Int) S) M2 now2 (by omega) hR2 hx' (fun M3 now3 k3 hk3 hR3 => by
        have h3 := kk M3 now3 k3 hk3 hR3
        have e3 : dn + 1 + (gRunS (M 5) (M 6) (M 1 1).toNat j ((x * 1103515245 + 12345) % 2147483648) (gMk (M 5) (M 6) (m : Int) S)).1 = dn + ((gRunS (M 5) (M 6) (M 1 1).toNat j ((x * 1103515245 + 12345) % 2147483648) (gMk (M 5) (M 6) (m : Int) S)).1 + 1) := by omega
        rw [e3]
        exact h3)
      exact h2
end LAWRUN
