/-! the whole growth tree of the class; what it tells of it -/
/-- the net that was seen is small -/
def gTO (M : gx_M) : Prop := ((0 ≤ M 93 0 ∧ M 93 0 ≤ 4) ∧ (0 ≤ M 93 1 ∧ M 93 1 ≤ 4)) ∧ gAr M 97 98 ∧ gZ4 (M 97) (M 98) ∧ ∀ p, 0 ≤ p → p < 8 → (0 ≤ M 94 p ∧ M 94 p ≤ 90000) ∧ (4 ≤ p → M 94 p = 0)
def gTPs (M' : gx_M) (tk : Int → Int) (V : Nat) (L : List gN) : Prop := g16 (M' 92 6) ∧ ∀ p : Nat, p < 4 → (gbt (M' 92 6) p ↔ p < V ∧ ∃ n ∈ L, ¬ n.1 ∈ n.2 ∧ gCn tk (gmk n.1) (p : Int))
/-- the tree of the net that was seen is done -/
def gTD (M : gx_M) : Prop :=
  (∃ L, gTb (M 97) (M 98) (M 93 1).toNat 300 300 0 [(gtp (M 94), [])] = some L ∧ gTS M L ∧ M 92 5 = 0 ∧ gTPs M (M 97) (M 93 1).toNat L ∧ M 91 4 = gdp L) ∨
  (gTb (M 97) (M 98) (M 93 1).toNat 300 300 0 [(gtp (M 94), [])] = none ∧ M 92 5 = 1)
/-- what the class keeps of the tree -/
def gTC (M : gx_M) : Prop := (M 92 1 = 0 ∨ M 92 1 = 1) ∧ (M 92 1 = 1 → gTO M ∧ gTD M)
theorem gTC_MR {M : gx_M} (h : gTC M) : gMRT M := by
  refine ⟨h.1, fun hz => ?_⟩
  obtain ⟨⟨⟨h1, h2⟩, h3, -, h4⟩, -⟩ := h.2 hz
  refine ⟨⟨⟨by omega, by omega⟩, by omega, by omega⟩, fun i i1 i2 => ?_, fun p p1 p2 => ?_⟩
  · have := h3 i i1 i2
    exact ⟨⟨by omega, by omega⟩, by omega, by omega⟩
  · have := h4 p p1 p2
    exact ⟨by omega, by omega⟩
theorem gTC_kept {M M' : gx_M} (h : gTC M) (hk : ∀ k, 91 ≤ k → k < 103 → M' k = M k) : gTC M' := by
  unfold gTC gTO gTD gTS gTPs gAr at *
  rw [hk 91 (by decide) (by decide), hk 92 (by decide) (by decide), hk 93 (by decide) (by decide), hk 94 (by decide) (by decide), hk 97 (by decide) (by decide), hk 98 (by decide) (by decide), hk 99 (by decide) (by decide), hk 101 (by decide) (by decide), hk 102 (by decide) (by decide)]
  exact h
section TFIND
variable {l : Launch} {κ : yK} {d : Nat} {M : gx_M} {b c : Int}
theorem X_tloop (hd : 3 ≤ d) {tk gv : Int → Int} {V : Nat} {L00 : List gN} : ∀ (k i : Nat) (M1 : gx_M) (L : List gN), i + k = 300 → gTO M1 → (M1 97 = tk ∧ M1 98 = gv ∧ (M1 93 1).toNat = V) → gTS M1 L →
    ((gTb tk gv V 300 300 0 L00 = gTb tk gv V 300 k i L ∧ i ≤ L.length ∧ M1 92 5 = 0 ∧ (g16 (M1 92 6) ∧ ∀ p : Nat, p < 4 → (gbt (M1 92 6) p ↔ p < V ∧ ∃ j n, j < i ∧ L[j]? = some n ∧ ¬ n.1 ∈ n.2 ∧ gCn tk (gmk n.1) (p : Int))) ∧ M1 91 4 = gdp L) ∨ (gTb tk gv V 300 300 0 L00 = none ∧ M1 92 5 = 1)) →
    ∃ M', gx_G l κ gx_sh z_mt zX7_find d (25, [gR 92, gU, gI (i : Int)], [], M1) (gx_eq none M') ∧ gTF M1 M' ∧
      ((∃ L, gTb tk gv V 300 300 0 L00 = some L ∧ gTS M' L ∧ M' 92 5 = 0 ∧ gTPs M' tk V L ∧ M' 91 4 = gdp L) ∨ (gTb tk gv V 300 300 0 L00 = none ∧ M' 92 5 = 1)) := by
  have done : ∀ (i : Nat) (M1 : gx_M) (L : List gN), L.length ≤ i → (g16 (M1 92 6) ∧ ∀ p : Nat, p < 4 → (gbt (M1 92 6) p ↔ p < V ∧ ∃ j n, j < i ∧ L[j]? = some n ∧ ¬ n.1 ∈ n.2 ∧ gCn tk (gmk n.1) (p : Int))) → gTPs M1 tk V L := by
    intro i M1 L hle q4
    refine ⟨q4.1, fun p hp => ?_⟩
    rw [q4.2 p hp]
    constructor
    · rintro ⟨h1, j, a, -, h3, h4⟩
      exact ⟨h1, a, List.mem_of_getElem? h3, h4⟩
    · rintro ⟨h1, a, h2, h3⟩
      obtain ⟨j, hj⟩ := List.getElem?_of_mem h2
      exact ⟨h1, j, a, by have := (List.getElem?_eq_some_iff.mp hj).1; omega, hj, h3⟩
  have frf : ∀ M1 : gx_M, gTF M1 M1 := fun _ => ⟨fun _ _ _ _ _ _ _ _ => rfl, fun _ _ _ _ => rfl⟩
  intro k
  induction k with
  | zero =>
    intro i M1 L hi hso hn hS hmode
    have hl := hS.1.2
    refine ⟨M1, tfind_25_1 (by omega) ⟨by omega, by omega⟩ (tfind_64 ⟨rfl, rfl⟩), frf M1, ?_⟩
    rcases hmode with ⟨q1, q2, q3, q4, q5⟩ | q
    · exact Or.inl ⟨L, by rw [q1]; rfl, hS, q3, done i M1 L (by omega) q4, q5⟩
    · exact Or.inr q
  | succ k ih =>
    intro i M1 L hi hso hn hS hmode
    have hl := hS.1.2
    have h4 := hS.1.1
    have hV := hso.1.2
    have g1 : (i : Int) < 300 := by omega
    have g2 : gx_R (i : Int) := ⟨by omega, by omega⟩
    have g3 : gx_R (M1 92 4) := ⟨by omega, by omega⟩
    by_cases hlen : L.length ≤ i
    · refine ⟨M1, tfind_25_01 g1 g2 (by omega) g3 (tfind_64 ⟨rfl, rfl⟩), frf M1, ?_⟩
      rcases hmode with ⟨q1, q2, q3, q4, q5⟩ | q
      · have e : gTb tk gv V 300 (k + 1) i L = some L := by
          show (match L[i]? with | none => some L | some a => (gTs tk gv V 300 a L).bind (gTb tk gv V 300 k (i + 1))) = some L
          rw [List.getElem?_eq_none hlen]
        exact Or.inl ⟨L, by rw [q1, e], hS, q3, done i M1 L hlen q4, q5⟩
      · exact Or.inr q
    · obtain ⟨n, ha⟩ : ∃ n, L[i]? = some n := ⟨L[i], List.getElem?_eq_getElem (by omega)⟩
      rcases hmode with ⟨q1, q2, q3, q4, q5⟩ | ⟨q1, q2⟩
      · obtain ⟨M2, x1, x2, x4⟩ := X_tfollow (l := l) (κ := κ) (d := 2) (M := M1) (L0 := L) (fr := i) (n := n) (V := V) (by omega) ⟨by have := hn.2.2; omega, by have := hn.2.2; omega⟩ hso.2.1 hso.2.2.1 hS ha q3 q4.1 q5
        have e93 : M2 93 = M1 93 := x2.1 93 (by decide) (by decide) (by decide) (by decide) (by decide) (by decide) (by decide)
        have e94 : M2 94 = M1 94 := x2.1 94 (by decide) (by decide) (by decide) (by decide) (by decide) (by decide) (by decide)
        have e97 : M2 97 = M1 97 := x2.1 97 (by decide) (by decide) (by decide) (by decide) (by decide) (by decide) (by decide)
        have e98 : M2 98 = M1 98 := x2.1 98 (by decide) (by decide) (by decide) (by decide) (by decide) (by decide) (by decide)
        have hso2 : gTO M2 := by unfold gTO gAr at *; rw [e93, e94, e97, e98]; exact hso
        have hn2 : M2 97 = tk ∧ M2 98 = gv ∧ (M2 93 1).toNat = V := by rw [e93, e97, e98]; exact hn
        have fr2 : ∀ M' : gx_M, gTF M2 M' → gTF M1 M' := fun M' h => ⟨fun k k1 k2 k3 k4 k5 k6 k7 => by rw [h.1 k k1 k2 k3 k4 k5 k6 k7]; exact x2.1 k k1 k2 k3 k4 k5 k6 k7, fun j j4 j5 j6 => by rw [h.2 j j4 j5 j6]; exact x2.2 j j4 j5 j6⟩
        have eB : gTb tk gv V 300 (k + 1) i L = (gTs tk gv V 300 n L).bind (gTb tk gv V 300 k (i + 1)) := by
          show (match L[i]? with | none => some L | some a => (gTs tk gv V 300 a L).bind (gTb tk gv V 300 k (i + 1))) = _
          rw [ha]
        unfold gTW at x4
        rw [hn.1, hn.2.1] at x4
        have go : ∀ L2, gTS M2 L2 → ((gTb tk gv V 300 300 0 L00 = gTb tk gv V 300 k (i + 1) L2 ∧ i + 1 ≤ L2.length ∧ M2 92 5 = 0 ∧ (g16 (M2 92 6) ∧ ∀ p : Nat, p < 4 → (gbt (M2 92 6) p ↔ p < V ∧ ∃ j n, j < i + 1 ∧ L2[j]? = some n ∧ ¬ n.1 ∈ n.2 ∧ gCn tk (gmk n.1) (p : Int))) ∧ M2 91 4 = gdp L2) ∨ (gTb tk gv V 300 300 0 L00 = none ∧ M2 92 5 = 1)) → ∃ M', gx_G l κ gx_sh z_mt zX7_find d (25, [gR 92, gU, gI (i : Int)], [], M1) (gx_eq none M') ∧ gTF M1 M' ∧
      ((∃ L, gTb tk gv V 300 300 0 L00 = some L ∧ gTS M' L ∧ M' 92 5 = 0 ∧ gTPs M' tk V L ∧ M' 91 4 = gdp L) ∨ (gTb tk gv V 300 300 0 L00 = none ∧ M' 92 5 = 1)) := by
          intro L2 p2 hm
          obtain ⟨M', k1, k2, k3⟩ := ih (i + 1) M2 L2 (by omega) hso2 hn2 p2 hm
          exact ⟨M', tfind_25_000 g1 g2 (by omega) g3 q3 (by rw [q3]; exact ⟨by decide, by decide⟩) x1 (by omega) k1, fr2 M' k2, k3⟩
        rcases x4 with ⟨L2, p1, p2, p3, p4, p5⟩ | ⟨p1, ⟨L2, p2⟩, p3⟩
        · have hpre := (gTs_cap (Nat.le_refl 300) hl p1).2.2
          have hlen2 : L.length ≤ L2.length := hpre.length_le
          refine go L2 p2 (Or.inl ⟨by rw [q1, eB, p1]; rfl, by omega, p3, ⟨p4.1, fun p hp => ?_⟩, p5⟩)
          rw [p4.2 p hp, q4.2 p hp]
          constructor
          · rintro (⟨h1, j, a', h2, h3, h4⟩ | ⟨h1, h2⟩)
            · exact ⟨h1, j, a', by omega, gPre hpre h3, h4⟩
            · exact ⟨h1, i, n, by omega, gPre hpre ha, h2⟩
          · rintro ⟨h1, j, a', h2, h3, h4⟩
            by_cases e : j = i
            · subst e
              rw [gPre hpre ha] at h3
              cases h3
              exact Or.inr ⟨h1, h4⟩
            · refine Or.inl ⟨h1, j, a', by omega, ?_, h4⟩
              have hjl : j < L.length := by omega
              have h5 : L[j]? = some L[j] := List.getElem?_eq_getElem hjl
              rw [gPre hpre h5] at h3
              rw [h5]
              exact h3
        · exact go L2 p2 (Or.inr ⟨by rw [q1, eB, p1]; rfl, p3⟩)
      · exact ⟨M1, tfind_25_001 g1 g2 (by omega) g3 (by rw [q2]; decide) (by rw [q2]; exact ⟨by decide, by decide⟩) (tfind_64 ⟨rfl, rfl⟩), frf M1, Or.inr ⟨q1, q2⟩⟩
theorem X_tfind (hd : 4 ≤ d) (hb : b ≤ 90000) (h0 : gI0 M b c) (h : gTC M) :
    ∃ M', gx_X l κ gx_sh z_mt zX7_find d [gR 92, gR 2] M (gx_eq none M') ∧ (∀ k, (k < 91 ∨ 104 ≤ k) → M' k = M k) ∧ gTC M' ∧ gSameT M' := by
  rcases X_beginsT (l := l) (κ := κ) (d := 1) (by omega) hb h0 (gTC_MR h) with ⟨hs, hX⟩ | ⟨M1, hX, f1, f2, f3, f4⟩
  · exact ⟨M, tfind_e_0 hX (by omega) rfl ⟨by decide, by decide⟩ ⟨rfl, rfl⟩, fun _ _ => rfl, h, hs⟩
  · have e1 : ∀ k, k ≠ 91 → (gx_up M1 91 4 0) k = M1 k := fun k k1 => gx_up_ne k1
    have hP := h0.1.1
    have hso : gTO (gx_up M1 91 4 0) := by
      unfold gTO gAr
      rw [e1 93 (by decide), e1 94 (by decide), e1 97 (by decide), e1 98 (by decide)]
      obtain ⟨s1, ⟨⟨s2, s3⟩, s4⟩, s5⟩ := f2
      rw [f1 1 (by omega)] at s2 s3
      rw [f1 5 (by omega), f1 6 (by omega)] at s4
      rw [f1 2 (by omega)] at s5
      refine ⟨⟨by omega, by omega⟩, fun i i1 i2 => ?_, fun i i1 i2 i3 => ?_, fun p p1 p2 => ?_⟩
      · rw [(s4 i i1 i2).1, (s4 i i1 i2).2]; exact h0.1.2.1 i i1 i2
      · rw [(s4 i i1 i2).1, (s4 i i1 i2).2]; exact gI0_Z4 h0 i i1 i2 i3
      · rw [s5 p p1 p2]
        have := (h0.1.2.2 p p1 p2).1
        exact ⟨⟨this.1, by omega⟩, fun z => (h0.2.2.2.1 p (by omega) p2).1⟩
    have hS2 : gTS (gx_up M1 91 4 0) [] := ⟨⟨by rw [e1 92 (by decide)]; exact f3.1, by decide⟩, fun i a ha => (by cases ha)⟩
    have e94 : ∀ p, 0 ≤ p → p < 8 → (gx_up M1 91 4 0) 94 p = M 2 p := fun p p1 p2 => by
      rw [e1 94 (by decide), f2.2.2 p p1 p2, f1 2 (by omega)]
    have hnx : ∀ p, 0 ≤ p → p < 8 → (gx_up M1 91 4 0) 100 p = gmk ((gtp ((gx_up M1 91 4 0) 94), []) : gN).1 p := by
      intro p p1 p2
      rw [e1 100 (by decide), f4 p p1 p2, ← e94 p p1 p2]
      by_cases h4 : p < 4
      · exact (gmk_tp _ ⟨p1, h4⟩).symm
      · rw [gmk_hi _ (by omega)]
        exact (hso.2.2.2 p p1 p2).2 (by omega)
    have hv : gTv 90000 ((gtp ((gx_up M1 91 4 0) 94), []) : gN) := fun p p1 p2 => by
      have := (hso.2.2.2 p p1 (by omega)).1
      show gmk (gtp ((gx_up M1 91 4 0) 94)) p = _ ∨ (0 ≤ gmk (gtp ((gx_up M1 91 4 0) 94)) p ∧ gmk (gtp ((gx_up M1 91 4 0) 94)) p ≤ 90000 + 9 * ((0 : Nat) : Int))
      rw [gmk_tp _ ⟨p1, p2⟩]
      omega
    obtain ⟨M3, m1, m2, m3, m4⟩ := X_tadd (l := l) (κ := κ) (d := 1) (M := gx_up M1 91 4 0) (L := []) (x := (gtp ((gx_up M1 91 4 0) 94), [])) (pa := 0) (by omega) hS2 hnx hv (Nat.le_refl 0) (fun b ρ e => by cases e) (by rw [gx_up_at, if_pos rfl]; rfl)
    rcases m4 with ⟨q1, q2, q3, q4⟩ | ⟨q1, -⟩
    · have e32 : ∀ k, k ≠ 91 → k ≠ 92 → k ≠ 99 → k ≠ 101 → k ≠ 102 → M3 k = M1 k := fun k k1 k2 k3 k4 k5 => by rw [m2 k k1 k2 k3 k4 k5, e1 k k1]
      have hso3 : gTO M3 := by
        unfold gTO gAr at *
        rw [m2 93 (by decide) (by decide) (by decide) (by decide) (by decide), m2 94 (by decide) (by decide) (by decide) (by decide) (by decide), m2 97 (by decide) (by decide) (by decide) (by decide) (by decide), m2 98 (by decide) (by decide) (by decide) (by decide) (by decide)]
        exact hso
      have e925 : M3 92 5 = 0 := by rw [q3, e1 92 (by decide)]; exact f3.2.1
      have e926 : M3 92 6 = 0 := by rw [m3 6 (by decide) (by decide), e1 92 (by decide)]; exact f3.2.2
      have e94' : M3 94 = (gx_up M1 91 4 0) 94 := m2 94 (by decide) (by decide) (by decide) (by decide) (by decide)
      rw [← e94'] at q2 q4
      obtain ⟨M', k1, k2, k4⟩ := X_tloop (l := l) (κ := κ) (d := d) (by omega) (tk := M3 97) (gv := M3 98) (V := (M3 93 1).toNat) (L00 := [(gtp (M3 94), [])]) 300 0 M3 [(gtp (M3 94), [])] (by omega) hso3 ⟨rfl, rfl, rfl⟩ q2 (Or.inl ⟨rfl, by omega, e925, ⟨by rw [e926]; exact ⟨by decide, by decide⟩, fun p hp => by
        rw [e926]
        exact ⟨fun z => absurd z (gb_f0 p hp), fun ⟨_, j, _, z, _⟩ => by omega⟩⟩, q4⟩)
      have e93' : M' 93 = M3 93 := k2.1 93 (by decide) (by decide) (by decide) (by decide) (by decide) (by decide) (by decide)
      have e942 : M' 94 = M3 94 := k2.1 94 (by decide) (by decide) (by decide) (by decide) (by decide) (by decide) (by decide)
      have e97' : M' 97 = M3 97 := k2.1 97 (by decide) (by decide) (by decide) (by decide) (by decide) (by decide) (by decide)
      have e98' : M' 98 = M3 98 := k2.1 98 (by decide) (by decide) (by decide) (by decide) (by decide) (by decide) (by decide)
      have e921 : M' 92 1 = 1 := by rw [k2.2 1 (by decide) (by decide) (by decide), m3 1 (by decide) (by decide), e1 92 (by decide)]; exact f2.1
      have ek : ∀ k, (k < 91 ∨ 104 ≤ k) → M' k = M k := fun k hk => by rw [k2.1 k (by omega) (by omega) (by omega) (by omega) (by omega) (by omega) (by omega), e32 k (by omega) (by omega) (by omega) (by omega) (by omega), f1 k (by omega)]
      refine ⟨M', tfind_e_1 hX (by omega) (by decide) ⟨by decide, by decide⟩ m1 (by omega) k1, ek, ⟨Or.inr e921, fun _ => ⟨?_, ?_⟩⟩, ?_⟩
      · unfold gTO gAr at *
        rw [e93', e942, e97', e98']
        exact hso3
      · unfold gTD
        rw [e93', e942, e97', e98']
        exact k4
      · obtain ⟨s1, ⟨⟨s2, s3⟩, s4⟩, s5⟩ := f2
        unfold gSameT
        rw [e93', e942, e97', e98', e32 93 (by decide) (by decide) (by decide) (by decide) (by decide), e32 94 (by decide) (by decide) (by decide) (by decide) (by decide), e32 97 (by decide) (by decide) (by decide) (by decide) (by decide), e32 98 (by decide) (by decide) (by decide) (by decide) (by decide), ek 1 (by omega), ek 2 (by omega), ek 5 (by omega), ek 6 (by omega), ← f1 1 (by omega), ← f1 2 (by omega), ← f1 5 (by omega), ← f1 6 (by omega)]
        exact ⟨e921, ⟨⟨s2, s3⟩, s4⟩, s5⟩
    · exact absurd q1 (by decide)
/-- the tree, where the list is known -/
theorem X_tfindL {L : List gN} (hd : 4 ≤ d) (hb : b ≤ 90000) (h0 : gI0 M b c) (h : gTC M) (hL : gTb (M 5) (M 6) (M 1 1).toNat 300 300 0 [(gtp (M 2), [])] = some L) :
    ∃ M', gx_X l κ gx_sh z_mt zX7_find d [gR 92, gR 2] M (gx_eq none M') ∧ (∀ k, (k < 91 ∨ 104 ≤ k) → M' k = M k) ∧ gTC M' ∧ gTS M' L ∧ M' 92 5 = 0 ∧ gTPs M' (M 5) (M 1 1).toNat L ∧ M' 91 4 = gdp L := by
  obtain ⟨M', k1, k2, k3, k4⟩ := X_tfind (l := l) (κ := κ) (d := d) hd hb h0 h
  obtain ⟨s1, ⟨⟨s2, s3⟩, s4⟩, s5⟩ := k4
  obtain ⟨h1, h2⟩ := k3.2 s1
  have hV := h0.1.1.2
  rw [k2 1 (by omega)] at s2 s3
  rw [k2 5 (by omega), k2 6 (by omega)] at s4
  rw [k2 2 (by omega)] at s5
  have eV : (M' 93 1).toNat = (M 1 1).toNat := by rw [s3]
  have eT : gtp (M' 94) = gtp (M 2) := gmk_ext (fun p p1 p2 => by rw [gmk_tp _ ⟨p1, p2⟩, gmk_tp _ ⟨p1, p2⟩]; exact s5 p p1 (by omega))
  have eB : gTb (M' 97) (M' 98) (M' 93 1).toNat 300 300 0 [(gtp (M' 94), [])] = some L := by
    rw [eV, eT, gTb_congr s4 (by omega) 300 300 0]
    exact hL
  have eC : ∀ (a : gK) (p : Nat), p < 4 → (gCn (M' 97) (gmk a) (p : Int) ↔ gCn (M 5) (gmk a) (p : Int)) := fun a p hp => gCn_congr ⟨by omega, by omega⟩ (fun i i1 i2 => (s4 i i1 i2).1) (fun _ _ _ => rfl)
  rcases h2 with ⟨L', q1, q2, q3, q4, q5⟩ | ⟨q1, -⟩
  · rw [eB] at q1
    cases q1
    refine ⟨M', k1, k2, k3, q2, q3, ⟨q4.1, fun p hp => ?_⟩, q5⟩
    rw [q4.2 p hp, eV]
    constructor
    · rintro ⟨z1, a, z2, z3, z4⟩; exact ⟨z1, a, z2, z3, (eC a.1 p hp).mp z4⟩
    · rintro ⟨z1, a, z2, z3, z4⟩; exact ⟨z1, a, z2, z3, (eC a.1 p hp).mpr z4⟩
  · rw [eB] at q1; cases q1
theorem gmo_rng {L : List gN} (h : ∀ n ∈ L, ∀ p, 0 ≤ p → p < 8 → 0 ≤ gmk n.1 p ∧ gmk n.1 p ≤ 1073741824) {p : Int} (hp : 0 ≤ p ∧ p < 8) : 0 ≤ gmo p L ∧ gmo p L ≤ 1073741824 := by
  induction L with
  | nil => exact ⟨Int.le_refl 0, show (0 : Int) ≤ 1073741824 by decide⟩
  | cons a r ih =>
    have h1 := ih (fun n hn => h n (List.mem_cons_of_mem _ hn))
    have h2 := h a List.mem_cons_self p hp.1 hp.2
    show 0 ≤ max (gmk a.1 p) (gmo p r) ∧ max (gmk a.1 p) (gmo p r) ≤ 1073741824
    omega
theorem gTS_rng {L : List gN} (hS : gTS M L) : ∀ n ∈ L, ∀ p, 0 ≤ p → p < 8 → 0 ≤ gmk n.1 p ∧ gmk n.1 p ≤ 1073741824 := fun n hn p p1 p2 => by
  obtain ⟨i, hi⟩ := List.getElem?_of_mem hn
  exact gTv_rng (by decide) (hS.2 i n hi).2.2.2.1 (gTS_len hS n hn) ⟨p1, p2⟩
theorem X_mostTok {L : List gN} (hS : gTS M L) {p : Int} (hp : 0 ≤ p ∧ p < 8) : gx_X l κ gx_sh z_mt zX7_mostTokens d [gR 92, gI p] M (gx_eq (some (gI (gmo p L))) M) := by
  have h4 := hS.1
  have hr := gTS_rng hS
  have loop : ∀ (k i : Nat), i + k = L.length → gx_G l κ gx_sh z_mt zX7_mostTokens d (4, [gR 92, gI p, gI (gmo p (L.take i)), gI (i : Int)], [], M) (gx_eq (some (gI (gmo p L))) M) := by
    intro k
    induction k with
    | zero =>
      intro i hi
      rw [List.take_of_length_le (by omega)]
      exact mostTok_4_1 (by omega) ⟨by omega, by omega⟩ ⟨by omega, by omega⟩ ⟨rfl, rfl⟩
    | succ k ih =>
      intro i hi
      have hil : i < L.length := by omega
      have ha : L[i]? = some L[i] := List.getElem?_eq_getElem hil
      obtain ⟨r1, -⟩ := hS.2 i L[i] ha
      have rv := hr L[i] (List.getElem_mem hil) p hp.1 hp.2
      have rm := gmo_rng (L := L.take i) (fun n hn => hr n (List.mem_of_mem_take hn)) hp
      have hn := ih (i + 1) (by omega)
      rw [List.take_add_one, ha] at hn
      have hn' : gx_G l κ gx_sh z_mt zX7_mostTokens d (4, [gR 92, gI p, gI (gmo p (L.take i ++ [L[i]])), gI ((i + 1 : Nat) : Int)], [], M) (gx_eq (some (gI (gmo p L))) M) := hn
      rw [gmo_app] at hn'
      have e := r1 p hp.1 hp.2
      refine mostTok_4_0 (by omega) ⟨by omega, by omega⟩ ⟨by omega, by omega⟩ ⟨by omega, by omega⟩ ⟨by omega, by omega⟩ (by rw [e]; exact ⟨by omega, by omega⟩) ?_
      rw [e]
      exact hn'
  exact mostTok_e (loop L.length 0 (by omega))
/-- the endless places -/
theorem X_endless {L : List gN} (hd : 1 ≤ d) (hS : gTS M L) : ∃ r, gx_X l κ gx_sh z_mt zX7_endlessPlaces d [gR 92] M (gx_eq (some (gI r)) M) ∧ g16 r ∧ ∀ p : Nat, p < 4 → (gbt r p ↔ gmo (p : Int) L = 1073741824) := by
  have hr := gTS_rng hS
  have hi : ∀ p : Nat, 4 ≤ p → ¬ gmo (p : Int) L = 1073741824 := by
    intro p hp
    have : gmo (p : Int) L = 0 := by
      clear hS hr
      induction L with
      | nil => rfl
      | cons a r ih => show max (gmk a.1 (p : Int)) (gmo (p : Int) r) = 0; rw [ih, gmk_hi _ (by omega)]; rfl
    omega
  have loop : ∀ (k p : Nat) (s : Int), p + k = 8 → g16 s → (∀ q : Nat, q < 4 → (gbt s q ↔ q < p ∧ gmo (q : Int) L = 1073741824)) →
      ∃ r, gx_G l κ gx_sh z_mt zX7_endlessPlaces d (4, [gR 92, gI s, gI (p : Int)], [], M) (gx_eq (some (gI r)) M) ∧ g16 r ∧ ∀ p : Nat, p < 4 → (gbt r p ↔ gmo (p : Int) L = 1073741824) := by
    intro k
    induction k with
    | zero =>
      intro p s hp hs hb
      exact ⟨s, endless_4_1 (by omega) ⟨by omega, by omega⟩ ⟨rfl, rfl⟩, hs, fun q hq => by rw [hb q hq]; exact ⟨fun z => z.2, fun z => ⟨by omega, z⟩⟩⟩
    | succ k ih =>
      intro p s hp hs hb
      have hm := X_mostTok (l := l) (κ := κ) (d := 0) hS (p := (p : Int)) ⟨by omega, by omega⟩
      have rm := gmo_rng hr (p := (p : Int)) ⟨by omega, by omega⟩
      by_cases e : gmo (p : Int) L = 1073741824
      · have hp4 : p < 4 := by
          by_cases h : p < 4
          · exact h
          · exact absurd e (hi p (by omega))
        obtain ⟨o1, o2⟩ := gb_orb hs hp4
        obtain ⟨r, k1, k2⟩ := ih (p + 1) (gx_or s (gx_shl 1 (p : Int))) (by omega) o1 (fun q hq => by
          rw [o2 q hq, hb q hq]
          constructor
          · rintro (h | h)
            · exact ⟨by omega, h.2⟩
            · exact ⟨by omega, by rw [h]; exact e⟩
          · rintro ⟨h, h2⟩
            by_cases e2 : q = p
            · exact Or.inr e2
            · exact Or.inl ⟨by omega, h2⟩)
        exact ⟨r, endless_4_00 (by omega) ⟨by omega, by omega⟩ hm (by omega) e ⟨by omega, by omega⟩ (endless_26 k1), k2⟩
      · obtain ⟨r, k1, k2⟩ := ih (p + 1) s (by omega) hs (fun q hq => by
          rw [hb q hq]
          constructor
          · rintro ⟨h, h2⟩; exact ⟨by omega, h2⟩
          · rintro ⟨h, h2⟩
            by_cases e2 : q = p
            · rw [e2] at h2; exact absurd h2 e
            · exact ⟨by omega, h2⟩)
        exact ⟨r, endless_4_01 (by omega) ⟨by omega, by omega⟩ hm (by omega) e ⟨by omega, by omega⟩ (endless_26 k1), k2⟩
  obtain ⟨r, k1, k2⟩ := loop 8 0 0 (by omega) ⟨by decide, by decide⟩ (fun q hq => ⟨fun z => absurd z (gb_f0 q hq), fun z => by omega⟩)
  exact ⟨r, endless_e k1, k2⟩
theorem X_o_growth {L : List gN} (hd : 5 ≤ d) (hb : b ≤ 90000) (h0 : gI0 M b c) (h : gTC M) (hL : gTb (M 5) (M 6) (M 1 1).toNat 300 300 0 [(gtp (M 2), [])] = some L) :
    ∃ M' r1 r2, (gx_X l κ gx_sh z_mt zX8_growth d [gR 1, gI 0] M (gx_eq (some (gI (L.length : Int))) M') ∧ gx_X l κ gx_sh z_mt zX8_growth d [gR 1, gI 1] M (gx_eq (some (gI r1)) M') ∧ gx_X l κ gx_sh z_mt zX8_growth d [gR 1, gI 2] M (gx_eq (some (gI r2)) M') ∧ gx_X l κ gx_sh z_mt zX8_growth d [gR 1, gI 3] M (gx_eq (some (gI (gdp L))) M')) ∧ (∀ k, (k < 91 ∨ 104 ≤ k) → M' k = M k) ∧ gTC M' ∧ (g16 r1 ∧ ∀ p : Nat, p < 4 → (gbt r1 p ↔ gmo (p : Int) L = 1073741824)) ∧ (g16 r2 ∧ ∀ p : Nat, p < 4 → (gbt r2 p ↔ p < (M 1 1).toNat ∧ ∃ n ∈ L, ¬ n.1 ∈ n.2 ∧ gCn (M 5) (gmk n.1) (p : Int))) := by
  obtain ⟨M2, k1, k2, k3, k4, k5, k6, k7⟩ := X_tfindL (l := l) (κ := κ) (d := 4) (by omega) hb h0 h hL
  obtain ⟨r1, e1, e2⟩ := X_endless (l := l) (κ := κ) (d := 1) (by omega) k4
  have r5 : gx_R (M2 92 5) := by rw [k5]; exact ⟨by decide, by decide⟩
  refine ⟨M2, r1, M2 92 6, ⟨?_, o_growth1_e_1 k1 (by omega) k5 r5 e1 (by omega) ⟨rfl, rfl⟩, o_growth2_e_1 k1 (by omega) k5 r5 ⟨rfl, rfl⟩, ?_⟩, k2, k3, e2, k6⟩
  · rw [← k4.1.1]
    exact o_growth0_e_1 k1 (by omega) k5 r5 ⟨rfl, rfl⟩
  · rw [← k7]
    exact o_growth3_e_1 k1 (by omega) k5 r5 ⟨rfl, rfl⟩
theorem X_o_bound {L : List gN} (hd : 5 ≤ d) (hb : b ≤ 90000) (h0 : gI0 M b c) (h : gTC M) (hL : gTb (M 5) (M 6) (M 1 1).toNat 300 300 0 [(gtp (M 2), [])] = some L) {p : Int} (hp : 0 ≤ p ∧ p < M 1 0) :
    ∃ M', gx_X l κ gx_sh z_mt zX8_bound d [gR 1, gI p] M (gx_eq (some (gI (if gmo p L = 1073741824 then -6 else gmo p L))) M') ∧ (∀ k, (k < 91 ∨ 104 ≤ k) → M' k = M k) ∧ gTC M' := by
  have hP := h0.1.1.1
  obtain ⟨M2, k1, k2, k3, k4, k5, -⟩ := X_tfindL (l := l) (κ := κ) (d := 4) (by omega) hb h0 h hL
  have hpl := X_hasPlace (l := l) (κ := κ) (d := 0) (M := M) (pl := p) ⟨by omega, by omega⟩ ⟨hP.1, by omega⟩
  rw [gi_pos hp] at hpl
  have hm := X_mostTok (l := l) (κ := κ) (d := 0) k4 (p := p) ⟨by omega, by omega⟩
  have rm := gmo_rng (gTS_rng k4) (p := p) ⟨by omega, by omega⟩
  have r5 : gx_R (M2 92 5) := by rw [k5]; exact ⟨by decide, by decide⟩
  refine ⟨M2, ?_, k2, k3⟩
  by_cases e : gmo p L = 1073741824
  · rw [if_pos e]
    exact o_bound_e_110 hpl (by omega) (by decide) ⟨by decide, by decide⟩ k1 (by omega) k5 r5 hm (by omega) e ⟨by omega, by omega⟩ ⟨rfl, rfl⟩
  · rw [if_neg e]
    exact o_bound_e_111 hpl (by omega) (by decide) ⟨by decide, by decide⟩ k1 (by omega) k5 r5 hm (by omega) e ⟨by omega, by omega⟩ ⟨rfl, rfl⟩
end TFIND
