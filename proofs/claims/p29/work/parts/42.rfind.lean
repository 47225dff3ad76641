/-! all markings that can be reached; what is told of them -/
theorem gNx_congr {tk tk' gv gv' : Int → Int} (h : ∀ i, 0 ≤ i → i < 64 → tk i = tk' i ∧ gv i = gv' i) {a : gE} {m : Nat} (hm : m < 8) : gNx tk gv a m = gNx tk' gv' a m := by
  unfold gNx
  congr 1
  refine gmk_ext (fun p p1 p2 => ?_)
  rw [gmk_tp _ ⟨p1, p2⟩, gmk_tp _ ⟨p1, p2⟩]
  unfold gSt
  have := h ((m : Int) * 8 + p) (by omega) (by omega)
  rw [this.1, this.2]
theorem gFo_congr {tk tk' gv gv' : Int → Int} (h : ∀ i, 0 ≤ i → i < 64 → tk i = tk' i ∧ gv i = gv' i) (c : Nat) (a : gE) : ∀ (m : Nat) (L : List gE), m ≤ 8 → gFo tk gv c a m L = gFo tk' gv' c a m L := by
  intro m
  induction m with
  | zero => intro L _; rfl
  | succ m ih =>
    intro L hm
    show (gFo tk gv c a m L).bind (fun L' => @ite _ (gCn tk (gmk a.1) (m : Int)) (Classical.propDecidable _) (gMeet c L' (gNx tk gv a m)) (some L')) = (gFo tk' gv' c a m L).bind (fun L' => @ite _ (gCn tk' (gmk a.1) (m : Int)) (Classical.propDecidable _) (gMeet c L' (gNx tk' gv' a m)) (some L'))
    rw [ih L (by omega), gNx_congr h (by omega), propext (gCn_congr (T := gmk a.1) (T' := gmk a.1) ⟨by omega, by omega⟩ (fun i i1 i2 => (h i i1 i2).1) (fun _ _ _ => rfl) : gCn tk (gmk a.1) (m : Int) ↔ gCn tk' (gmk a.1) (m : Int))]
theorem gBf_congr {tk tk' gv gv' : Int → Int} (h : ∀ i, 0 ≤ i → i < 64 → tk i = tk' i ∧ gv i = gv' i) {V : Nat} (hV : V ≤ 8) (c : Nat) : ∀ (f k : Nat) (L : List gE), gBf tk gv V c f k L = gBf tk' gv' V c f k L := by
  intro f
  induction f with
  | zero => intro k L; rfl
  | succ f ih =>
    intro k L
    show (match L[k]? with | none => some L | some a => (gFo tk gv c a V L).bind (gBf tk gv V c f (k + 1))) = (match L[k]? with | none => some L | some a => (gFo tk' gv' c a V L).bind (gBf tk' gv' V c f (k + 1)))
    cases L[k]? with
    | none => rfl
    | some a =>
      show (gFo tk gv c a V L).bind (gBf tk gv V c f (k + 1)) = (gFo tk' gv' c a V L).bind (gBf tk' gv' V c f (k + 1))
      rw [gFo_congr h c a V L hV, show gBf tk gv V c f (k + 1) = gBf tk' gv' V c f (k + 1) from funext (fun L' => ih (k + 1) L')]
noncomputable def gdc (tk : Int → Int) (V : Nat) : List gE → Int
  | [] => 0
  | a :: r => gi (∀ m : Nat, m < V → ¬ gCn tk (gmk a.1) (m : Int)) + gdc tk V r
theorem gdc_app (tk : Int → Int) (V : Nat) (a : gE) : ∀ L : List gE, gdc tk V (L ++ [a]) = gdc tk V L + gi (∀ m : Nat, m < V → ¬ gCn tk (gmk a.1) (m : Int)) := by
  intro L
  induction L with
  | nil => show gi _ + 0 = 0 + gi _; omega
  | cons b r ih => show gi _ + gdc tk V (r ++ [a]) = gi _ + gdc tk V r + gi _; rw [ih]; omega
theorem gdc_rng (tk : Int → Int) (V : Nat) : ∀ L : List gE, 0 ≤ gdc tk V L ∧ gdc tk V L ≤ (L.length : Int) := by
  intro L
  induction L with
  | nil => exact ⟨Int.le_refl 0, Int.le_refl 0⟩
  | cons b r ih =>
    show 0 ≤ gi _ + gdc tk V r ∧ gi _ + gdc tk V r ≤ ((r.length + 1 : Nat) : Int)
    rcases gi_rng (∀ m : Nat, m < V → ¬ gCn tk (gmk b.1) (m : Int)) with h | h <;> rw [h] <;> omega
/-- the net that was seen is small -/
def gSO (M : gx_M) : Prop := ((0 ≤ M 81 0 ∧ M 81 0 ≤ 4) ∧ (0 ≤ M 81 1 ∧ M 81 1 ≤ 4)) ∧ gAr M 85 86 ∧ gZ4 (M 85) (M 86) ∧ ∀ p, 0 ≤ p → p < 8 → (0 ≤ M 82 p ∧ M 82 p ≤ 90000) ∧ (4 ≤ p → M 82 p = 0)
/-- the search over the net that was seen is done -/
def gRD (M : gx_M) : Prop :=
  (∃ L, gBf (M 85) (M 86) (M 81 1).toNat 300 300 0 [(gtp (M 82), 0)] = some L ∧ gRS M L ∧ M 80 5 = 0 ∧ (g16 (M 80 6) ∧ ∀ p : Nat, p < 4 → (gbt (M 80 6) p ↔ p < (M 81 1).toNat ∧ ∃ a ∈ L, gCn (M 85) (gmk a.1) (p : Int))) ∧ M 79 3 = gdc (M 85) (M 81 1).toNat L) ∨
  (gBf (M 85) (M 86) (M 81 1).toNat 300 300 0 [(gtp (M 82), 0)] = none ∧ M 80 5 = 1)
/-- what the class keeps of what it has found -/
def gRC (M : gx_M) : Prop := (M 80 1 = 0 ∨ M 80 1 = 1) ∧ (M 80 1 = 1 → gSO M ∧ gRD M)
theorem gRC_MR {M : gx_M} (h : gRC M) : gMRR M := by
  refine ⟨h.1, fun hz => ?_⟩
  obtain ⟨⟨⟨h1, h2⟩, h3, -, h4⟩, -⟩ := h.2 hz
  refine ⟨⟨⟨by omega, by omega⟩, by omega, by omega⟩, fun i i1 i2 => ?_, fun p p1 p2 => ?_⟩
  · have := h3 i i1 i2
    exact ⟨⟨by omega, by omega⟩, by omega, by omega⟩
  · have := h4 p p1 p2
    exact ⟨by omega, by omega⟩
theorem gRC_kept {M M' : gx_M} (h : gRC M) (hk : ∀ k, 79 ≤ k → k < 91 → M' k = M k) : gRC M' := by
  unfold gRC gSO gRD gRS gAr at *
  rw [hk 79 (by decide) (by decide), hk 80 (by decide) (by decide), hk 81 (by decide) (by decide), hk 82 (by decide) (by decide), hk 85 (by decide) (by decide), hk 86 (by decide) (by decide), hk 87 (by decide) (by decide), hk 89 (by decide) (by decide), hk 90 (by decide) (by decide)]
  exact h
theorem gI0_Z4 {M : gx_M} {b c : Int} (h : gI0 M b c) : gZ4 (M 5) (M 6) := fun i i1 i2 i3 => by
  have hP := h.1.1
  exact h.2.2.2.2.2 i i1 i2 (Or.inl (by omega))
section RFIND
variable {l : Launch} {κ : yK} {d : Nat} {M : gx_M} {b c : Int}
theorem X_rloop (hd : 4 ≤ d) {tk gv : Int → Int} {V : Nat} {L00 : List gE} : ∀ (k i : Nat) (M1 : gx_M) (L : List gE), i + k = 300 → gSO M1 → (M1 85 = tk ∧ M1 86 = gv ∧ (M1 81 1).toNat = V) → gRS M1 L →
    ((gBf tk gv V 300 300 0 L00 = gBf tk gv V 300 k i L ∧ i ≤ L.length ∧ M1 80 5 = 0 ∧ (g16 (M1 80 6) ∧ ∀ p : Nat, p < 4 → (gbt (M1 80 6) p ↔ p < V ∧ ∃ j a, j < i ∧ L[j]? = some a ∧ gCn tk (gmk a.1) (p : Int))) ∧ M1 79 3 = gdc tk V (L.take i)) ∨ (gBf tk gv V 300 300 0 L00 = none ∧ M1 80 5 = 1)) →
    ∃ M', gx_G l κ gx_sh z_mt zX5_find d (32, [gR 80, gU, gI (i : Int)], [], M1) (gx_eq none M') ∧ (∀ k, k ≠ 79 → k ≠ 80 → k ≠ 87 → k ≠ 88 → k ≠ 89 → k ≠ 90 → M' k = M1 k) ∧ (∀ j, j ≠ 4 → j ≠ 5 → j ≠ 6 → M' 80 j = M1 80 j) ∧
      ((∃ L, gBf tk gv V 300 300 0 L00 = some L ∧ gRS M' L ∧ M' 80 5 = 0 ∧ (g16 (M' 80 6) ∧ ∀ p : Nat, p < 4 → (gbt (M' 80 6) p ↔ p < V ∧ ∃ a ∈ L, gCn tk (gmk a.1) (p : Int))) ∧ M' 79 3 = gdc tk V L) ∨ (gBf tk gv V 300 300 0 L00 = none ∧ M' 80 5 = 1)) := by
  intro k
  induction k with
  | zero =>
    intro i M1 L hi hso hn hS hmode
    have hl := hS.1.2
    refine ⟨M1, rfind_32_1 (by omega) ⟨by omega, by omega⟩ (rfind_71 ⟨rfl, rfl⟩), fun _ _ _ _ _ _ _ => rfl, fun _ _ _ _ => rfl, ?_⟩
    rcases hmode with ⟨q1, q2, q3, q4, q5⟩ | q
    · have hle : L.length ≤ i := by omega
      refine Or.inl ⟨L, by rw [q1]; rfl, hS, q3, ⟨q4.1, fun p hp => ?_⟩, by rw [q5, List.take_of_length_le hle]⟩
      rw [q4.2 p hp]
      constructor
      · rintro ⟨h1, j, a, -, h3, h4⟩
        exact ⟨h1, a, List.mem_of_getElem? h3, h4⟩
      · rintro ⟨h1, a, h2, h3⟩
        obtain ⟨j, hj⟩ := List.getElem?_of_mem h2
        exact ⟨h1, j, a, by have := (List.getElem?_eq_some_iff.mp hj).1; omega, hj, h3⟩
    · exact Or.inr q
  | succ k ih =>
    intro i M1 L hi hso hn hS hmode
    have hl := hS.1.2
    have h4 := hS.1.1
    have hV := hso.1.2
    have g1 : (i : Int) < 300 := by omega
    have g2 : gx_R (i : Int) := ⟨by omega, by omega⟩
    have g3 : gx_R (M1 80 4) := ⟨by omega, by omega⟩
    by_cases hlen : L.length ≤ i
    · refine ⟨M1, rfind_32_01 g1 g2 (by omega) g3 (rfind_71 ⟨rfl, rfl⟩), fun _ _ _ _ _ _ _ => rfl, fun _ _ _ _ => rfl, ?_⟩
      rcases hmode with ⟨q1, q2, q3, q4, q5⟩ | q
      · have e : gBf tk gv V 300 (k + 1) i L = some L := by
          show (match L[i]? with | none => some L | some a => (gFo tk gv 300 a V L).bind (gBf tk gv V 300 k (i + 1))) = some L
          rw [List.getElem?_eq_none hlen]
        refine Or.inl ⟨L, by rw [q1, e], hS, q3, ⟨q4.1, fun p hp => ?_⟩, by rw [q5, List.take_of_length_le hlen]⟩
        rw [q4.2 p hp]
        constructor
        · rintro ⟨h1, j, a, -, h3, h4⟩
          exact ⟨h1, a, List.mem_of_getElem? h3, h4⟩
        · rintro ⟨h1, a, h2, h3⟩
          obtain ⟨j, hj⟩ := List.getElem?_of_mem h2
          exact ⟨h1, j, a, by have := (List.getElem?_eq_some_iff.mp hj).1; omega, hj, h3⟩
      · exact Or.inr q
    · obtain ⟨a, ha⟩ : ∃ a, L[i]? = some a := ⟨L[i], List.getElem?_eq_getElem (by omega)⟩
      rcases hmode with ⟨q1, q2, q3, q4, q5⟩ | ⟨q1, q2⟩
      · obtain ⟨M2, x1, x2, x3, x4⟩ := X_rfollow (l := l) (κ := κ) (d := 3) (M := M1) (L0 := L) (fr := i) (a := a) (V := V) (by omega) ⟨by have := hn.2.2; omega, by have := hn.2.2; omega⟩ hso.2.1 hso.2.2.1 hS ha q3 q4.1
        have e81 : M2 81 = M1 81 := x2 81 (by decide) (by decide) (by decide) (by decide) (by decide) (by decide)
        have e82 : M2 82 = M1 82 := x2 82 (by decide) (by decide) (by decide) (by decide) (by decide) (by decide)
        have e85 : M2 85 = M1 85 := x2 85 (by decide) (by decide) (by decide) (by decide) (by decide) (by decide)
        have e86 : M2 86 = M1 86 := x2 86 (by decide) (by decide) (by decide) (by decide) (by decide) (by decide)
        have hso2 : gSO M2 := by unfold gSO gAr at *; rw [e81, e82, e85, e86]; exact hso
        have hn2 : M2 85 = tk ∧ M2 86 = gv ∧ (M2 81 1).toNat = V := by rw [e81, e85, e86]; exact hn
        have eB : gBf tk gv V 300 (k + 1) i L = (gFo tk gv 300 a V L).bind (gBf tk gv V 300 k (i + 1)) := by
          show (match L[i]? with | none => some L | some a => (gFo tk gv 300 a V L).bind (gBf tk gv V 300 k (i + 1))) = _
          rw [ha]
        unfold gFW at x4
        rw [hn.1, hn.2.1] at x4
        rcases x4 with ⟨L2, p1, p2, p3, p4, p5⟩ | ⟨p1, ⟨L2, p2⟩, p3⟩
        · have hpre := gFo_pre hl p1
          have hlen2 : L.length ≤ L2.length := hpre.length_le
          obtain ⟨M', k1, k2, k3, k4⟩ := ih (i + 1) M2 L2 (by omega) hso2 hn2 p2 (by
            refine Or.inl ⟨by rw [q1, eB, p1]; rfl, by omega, p3, ⟨p4.1, fun p hp => ?_⟩, ?_⟩
            · rw [p4.2 p hp, q4.2 p hp]
              constructor
              · rintro (⟨h1, j, a', h2, h3, h4⟩ | ⟨h1, h2⟩)
                · exact ⟨h1, j, a', by omega, gPre hpre h3, h4⟩
                · exact ⟨h1, i, a, by omega, gPre hpre ha, h2⟩
              · rintro ⟨h1, j, a', h2, h3, h4⟩
                by_cases e : j = i
                · subst e
                  rw [gPre hpre ha] at h3
                  cases h3
                  exact Or.inr ⟨h1, h4⟩
                · refine Or.inl ⟨h1, j, a', by omega, ?_, h4⟩
                  have hjl : j < L.length := by omega
                  have h5 : L[j]? = some L[j] := List.getElem?_eq_getElem hjl
                  rw [gPre hpre h5] at h3
                  rw [h5]
                  exact h3
            · rw [p5, q5, List.take_add_one, gPre hpre ha]
              have e : L2.take i = L.take i := by
                obtain ⟨t, rfl⟩ := hpre
                rw [List.take_append_of_le_length (by omega)]
              rw [e]
              exact (gdc_app tk V a (L.take i)).symm)
          exact ⟨M', rfind_32_000 g1 g2 (by omega) g3 q3 (by rw [q3]; exact ⟨by decide, by decide⟩) x1 (by omega) k1, fun q n1 n2 n3 n4 n5 n6 => by rw [k2 q n1 n2 n3 n4 n5 n6, x2 q n1 n2 n3 n4 n5 n6], fun j j4 j5 j6 => by rw [k3 j j4 j5 j6, x3 j j4 j5 j6], k4⟩
        · obtain ⟨M', k1, k2, k3, k4⟩ := ih (i + 1) M2 L2 (by omega) hso2 hn2 p2 (Or.inr ⟨by rw [q1, eB, p1]; rfl, p3⟩)
          exact ⟨M', rfind_32_000 g1 g2 (by omega) g3 q3 (by rw [q3]; exact ⟨by decide, by decide⟩) x1 (by omega) k1, fun q n1 n2 n3 n4 n5 n6 => by rw [k2 q n1 n2 n3 n4 n5 n6, x2 q n1 n2 n3 n4 n5 n6], fun j j4 j5 j6 => by rw [k3 j j4 j5 j6, x3 j j4 j5 j6], k4⟩
      · exact ⟨M1, rfind_32_001 g1 g2 (by omega) g3 (by rw [q2]; decide) (by rw [q2]; exact ⟨by decide, by decide⟩) (rfind_71 ⟨rfl, rfl⟩), fun _ _ _ _ _ _ _ => rfl, fun _ _ _ _ => rfl, Or.inr ⟨q1, q2⟩⟩
theorem X_rfind (hd : 5 ≤ d) (hb : b ≤ 90000) (h0 : gI0 M b c) (h : gRC M) :
    ∃ M', gx_X l κ gx_sh z_mt zX5_find d [gR 80, gR 2] M (gx_eq none M') ∧ (∀ k, (k < 79 ∨ 91 ≤ k) → M' k = M k) ∧ gRC M' ∧ gSameR M' := by
  rcases X_beginsR (l := l) (κ := κ) (d := 1) (by omega) hb h0 (gRC_MR h) with ⟨hs, hX⟩ | ⟨M1, hX, f1, f2, f3, f4⟩
  · exact ⟨M, rfind_e_0 hX (by omega) rfl ⟨by decide, by decide⟩ ⟨rfl, rfl⟩, fun _ _ => rfl, h, hs⟩
  · obtain ⟨M2, x1, x2, x3⟩ := X_fill (l := l) (κ := κ) (d := 0) (M := gx_up M1 79 3 0)
    have e1 : ∀ k, k ≠ 79 → k ≠ 90 → M2 k = M1 k := fun k k1 k2 => by rw [x2 k k2, gx_up_ne k1]
    have hP := h0.1.1
    -- the net that is seen now
    have hso : gSO M2 := by
      unfold gSO gAr
      rw [e1 81 (by decide) (by decide), e1 82 (by decide) (by decide), e1 85 (by decide) (by decide), e1 86 (by decide) (by decide)]
      obtain ⟨s1, ⟨⟨s2, s3⟩, s4⟩, s5⟩ := f2
      rw [f1 1 (by omega)] at s2 s3
      rw [f1 5 (by omega), f1 6 (by omega)] at s4
      rw [f1 2 (by omega)] at s5
      refine ⟨⟨by omega, by omega⟩, fun i i1 i2 => ?_, fun i i1 i2 i3 => ?_, fun p p1 p2 => ?_⟩
      · rw [(s4 i i1 i2).1, (s4 i i1 i2).2]; exact h0.1.2.1 i i1 i2
      · rw [(s4 i i1 i2).1, (s4 i i1 i2).2]; exact gI0_Z4 h0 i i1 i2 i3
      · rw [s5 p p1 p2]
        have := (h0.1.2.2 p p1 p2).1
        exact ⟨⟨this.1, by omega⟩, fun z => (h0.2.2.2.1 p (by omega) p2).1⟩
    have hS2 : gRS M2 [] := by
      refine ⟨⟨by rw [e1 80 (by decide) (by decide)]; exact f3.1, by decide⟩, fun i a ha => (by cases ha), fun q q1 q2 => ?_, ?_, fun i a ha => (by cases ha)⟩
      · rw [x3 q q1 q2]; exact ⟨Int.le_refl 0, Int.le_refl 0⟩
      · exact gcn_none 1024 (fun q q1 q2 => x3 q q1 q2)
    have e82 : ∀ p, 0 ≤ p → p < 8 → M2 82 p = M 2 p := fun p p1 p2 => by
      rw [e1 82 (by decide) (by decide), f2.2.2 p p1 p2, f1 2 (by omega)]
    have hnx : ∀ p, 0 ≤ p → p < 8 → M2 88 p = gmk ((gtp (M2 82), 0) : gE).1 p := by
      intro p p1 p2
      rw [e1 88 (by decide) (by decide), f4 p p1 p2, ← e82 p p1 p2]
      by_cases h4 : p < 4
      · exact (gmk_tp _ ⟨p1, h4⟩).symm
      · rw [gmk_hi _ (by omega)]
        exact (hso.2.2.2 p p1 p2).2 (by omega)
    have hsm : gSm ((gtp (M2 82), 0) : gE) := ⟨Int.le_refl 0, fun p p1 p2 => by
      have := (hso.2.2.2 p p1 (by omega)).1
      show 0 ≤ gmk (gtp (M2 82)) p ∧ gmk (gtp (M2 82)) p ≤ 90000 + 9 * 0
      rw [gmk_tp _ ⟨p1, p2⟩]
      omega⟩
    obtain ⟨M3, m1, m2, m3, m4⟩ := X_meet (l := l) (κ := κ) (d := 2) (M := M2) (L := []) (x := (gtp (M2 82), 0)) (by omega) hS2 hnx (Int.le_refl 0) hsm
    have eM : gMeet 300 [] ((gtp (M2 82), 0) : gE) = some [((gtp (M2 82), 0) : gE)] := by
      rw [gMeet_out (fun z => by obtain ⟨y, hy, -⟩ := z; cases hy)]
      rfl
    rcases m4 with ⟨L', q1, q2, q3⟩ | ⟨q1, -⟩
    · rw [eM] at q1
      cases q1
      have e3 : ∀ k, k ≠ 79 → k ≠ 80 → k ≠ 87 → k ≠ 89 → k ≠ 90 → M3 k = M1 k := fun k k1 k2 k3 k4 k5 => by rw [m2 k k2 k3 k4 k5, e1 k k1 k5]
      have e32 : ∀ k, k ≠ 80 → k ≠ 87 → k ≠ 89 → k ≠ 90 → M3 k = M2 k := m2
      have hso3 : gSO M3 := by
        unfold gSO gAr at *
        rw [e32 81 (by decide) (by decide) (by decide) (by decide), e32 82 (by decide) (by decide) (by decide) (by decide), e32 85 (by decide) (by decide) (by decide) (by decide), e32 86 (by decide) (by decide) (by decide) (by decide)]
        exact hso
      have e805 : M3 80 5 = 0 := by rw [q3, e1 80 (by decide) (by decide)]; exact f3.2.1
      have e806 : M3 80 6 = 0 := by rw [m3 6 (by decide) (by decide), e1 80 (by decide) (by decide)]; exact f3.2.2
      have e793 : M3 79 3 = 0 := by rw [e32 79 (by decide) (by decide) (by decide) (by decide), x2 79 (by decide), gx_up_at, if_pos rfl]
      obtain ⟨M', k1, k2, k3, k4⟩ := X_rloop (l := l) (κ := κ) (d := d) (by omega) (tk := M3 85) (gv := M3 86) (V := (M3 81 1).toNat) (L00 := [(gtp (M2 82), 0)]) 300 0 M3 [(gtp (M2 82), 0)] (by omega) hso3 ⟨rfl, rfl, rfl⟩ q2 (Or.inl ⟨rfl, by omega, e805, ⟨by rw [e806]; exact ⟨by decide, by decide⟩, fun p hp => by
        rw [e806]
        exact ⟨fun z => absurd z (gb_f0 p hp), fun ⟨_, j, _, z, _⟩ => by omega⟩⟩, by rw [e793]; rfl⟩)
      have e81' : M' 81 = M3 81 := k2 81 (by decide) (by decide) (by decide) (by decide) (by decide) (by decide)
      have e82' : M' 82 = M3 82 := k2 82 (by decide) (by decide) (by decide) (by decide) (by decide) (by decide)
      have e85' : M' 85 = M3 85 := k2 85 (by decide) (by decide) (by decide) (by decide) (by decide) (by decide)
      have e86' : M' 86 = M3 86 := k2 86 (by decide) (by decide) (by decide) (by decide) (by decide) (by decide)
      have e801 : M' 80 1 = 1 := by rw [k3 1 (by decide) (by decide) (by decide), m3 1 (by decide) (by decide), e1 80 (by decide) (by decide)]; exact f2.1
      refine ⟨M', rfind_e_1 hX (by omega) (by decide) ⟨by decide, by decide⟩ x1 (by omega) m1 (by omega) k1, fun k hk => by rw [k2 k (by omega) (by omega) (by omega) (by omega) (by omega) (by omega), e3 k (by omega) (by omega) (by omega) (by omega) (by omega), f1 k (by omega)], ⟨Or.inr e801, fun _ => ⟨?_, ?_⟩⟩, ?_⟩
      · unfold gSO gAr at *
        rw [e81', e82', e85', e86']
        exact hso3
      · unfold gRD
        rw [e81', e82', e85', e86', e32 82 (by decide) (by decide) (by decide) (by decide)]
        exact k4
      · obtain ⟨s1, s2, s3⟩ := f2
        unfold gSameR
        rw [e81', e82', e85', e86', k2 1 (by decide) (by decide) (by decide) (by decide) (by decide) (by decide), k2 2 (by decide) (by decide) (by decide) (by decide) (by decide) (by decide), k2 5 (by decide) (by decide) (by decide) (by decide) (by decide) (by decide), k2 6 (by decide) (by decide) (by decide) (by decide) (by decide) (by decide), e3 81 (by decide) (by decide) (by decide) (by decide) (by decide), e3 82 (by decide) (by decide) (by decide) (by decide) (by decide), e3 85 (by decide) (by decide) (by decide) (by decide) (by decide), e3 86 (by decide) (by decide) (by decide) (by decide) (by decide), e3 1 (by decide) (by decide) (by decide) (by decide) (by decide), e3 2 (by decide) (by decide) (by decide) (by decide) (by decide), e3 5 (by decide) (by decide) (by decide) (by decide) (by decide), e3 6 (by decide) (by decide) (by decide) (by decide) (by decide)]
        exact ⟨e801, s2, s3⟩
    · rw [eM] at q1; cases q1
end RFIND
