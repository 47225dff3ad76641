/-! the class's search: following a marking, finding them all -/
theorem gRS_kept {M M' : gx_M} {L : List gE} (h : gRS M L) (h1 : M' 80 4 = M 80 4) (h2 : M' 87 = M 87) (h3 : M' 89 = M 89) (h4 : M' 90 = M 90) : gRS M' L := by
  unfold gRS at *
  rw [h1, h2, h3, h4]
  exact h
/-- arcs lie at the first four places alone -/
def gZ4 (tk gv : Int → Int) : Prop := ∀ i, 0 ≤ i → i < 64 → 4 ≤ i % 8 → tk i = 0 ∧ gv i = 0
theorem gNx_row {tk gv T : Int → Int} {a : gE} {m : Nat} (hm : m < 8) (hz : gZ4 tk gv) (hT : ∀ p, 0 ≤ p → p < 8 → T p = gmk a.1 p) : ∀ p, 0 ≤ p → p < 8 → gSt tk gv T (m : Int) p = gmk (gNx tk gv a m).1 p := by
  intro p p1 p2
  have e : gSt tk gv T (m : Int) p = gSt tk gv (gmk a.1) (m : Int) p := by
    unfold gSt
    rw [hT p p1 p2]
  rw [e]
  by_cases h4 : p < 4
  · exact (gmk_tp _ ⟨p1, h4⟩).symm
  · rw [gmk_hi _ (by omega)]
    unfold gSt
    have := hz ((m : Int) * 8 + p) (by omega) (by omega) (by omega)
    rw [gmk_hi _ (by omega), this.1, this.2]
    decide
theorem gNx_sm {tk gv : Int → Int} {a : gE} {m : Nat} (hm : m < 8) (hA : ∀ i, 0 ≤ i → i < 64 → (0 ≤ tk i ∧ tk i ≤ 9) ∧ (0 ≤ gv i ∧ gv i ≤ 9)) (ha : gSm a) (ha2 : a.2 ≤ 300) (hc : gCn tk (gmk a.1) (m : Int)) : gSm (gNx tk gv a m) := by
  refine ⟨by show 0 ≤ a.2 + 1; have := ha.1; omega, fun p p1 p2 => ?_⟩
  have h1 := ha.2 p p1 p2
  have h2 := hA ((m : Int) * 8 + p) (by omega) (by omega)
  have h3 : tk ((m : Int) * 8 + p) ≤ gmk a.1 p := hc p p1 (by omega)
  have e : gmk (gNx tk gv a m).1 p = gmk a.1 p - tk ((m : Int) * 8 + p) + gv ((m : Int) * 8 + p) := by
    show gmk (gtp (gSt tk gv (gmk a.1) (m : Int))) p = _
    rw [gmk_tp _ ⟨p1, p2⟩]
    unfold gSt
    rw [if_neg (by omega)]
  rw [e]
  show 0 ≤ _ ∧ _ ≤ 90000 + 9 * (a.2 + 1)
  omega
theorem gb_for : ∀ s : Nat, s < 16 → ∀ m : Nat, m < 4 → g16 (gx_or (s : Int) (gx_shl 1 (m : Int))) ∧ ∀ p : Nat, p < 4 → (gbt (gx_or (s : Int) (gx_shl 1 (m : Int))) p ↔ gbt (s : Int) p ∨ p = m) := by decide +kernel
theorem gb_orb {s : Int} (hs : g16 s) {m : Nat} (hm : m < 4) : g16 (gx_or s (gx_shl 1 (m : Int))) ∧ ∀ p : Nat, p < 4 → (gbt (gx_or s (gx_shl 1 (m : Int))) p ↔ gbt s p ∨ p = m) := by
  obtain ⟨s, rfl⟩ := gb_nat hs.1
  exact gb_for s (by omega) m hm
theorem gPre {T : Type} {l l' : List T} {i : Nat} {x : T} (h : l <+: l') (hi : l[i]? = some x) : l'[i]? = some x := y_px h hi
theorem gFo_pre {tk gv : Int → Int} {c : Nat} {a : gE} {m : Nat} {L L' : List gE} (hl : L.length ≤ c) (h : gFo tk gv c a m L = some L') : L <+: L' := (gFo_cap (Nat.le_refl c) m hl h).2.2
section REACHB
variable {l : Launch} {κ : yK} {d : Nat}
/-- what following a marking does -/
def gFW (M M' : gx_M) (tk gv : Int → Int) (V : Nat) (a : gE) (L0 : List gE) : Prop :=
  (∃ L', gFo tk gv 300 a V L0 = some L' ∧ gRS M' L' ∧ M' 80 5 = 0 ∧ (g16 (M' 80 6) ∧ ∀ p : Nat, p < 4 → (gbt (M' 80 6) p ↔ gbt (M 80 6) p ∨ (p < V ∧ gCn tk (gmk a.1) (p : Int)))) ∧ M' 79 3 = M 79 3 + gi (∀ m : Nat, m < V → ¬ gCn tk (gmk a.1) (m : Int))) ∨
  (gFo tk gv 300 a V L0 = none ∧ (∃ L', gRS M' L') ∧ M' 80 5 = 1)
theorem X_rfollow {M : gx_M} {L0 : List gE} {fr : Nat} {a : gE} {V : Nat} (hd : 3 ≤ d) (hV : M 81 1 = (V : Int) ∧ V ≤ 4) (hA : gAr M 85 86) (hz : gZ4 (M 85) (M 86)) (hS : gRS M L0) (ha : L0[fr]? = some a) (h5 : M 80 5 = 0) (h6 : g16 (M 80 6)) :
    ∃ M', gx_X l κ gx_sh z_mt zX5_follow d [gR 80, gI (fr : Int)] M (gx_eq none M') ∧ (∀ k, k ≠ 79 → k ≠ 80 → k ≠ 87 → k ≠ 88 → k ≠ 89 → k ≠ 90 → M' k = M k) ∧ (∀ j, j ≠ 4 → j ≠ 5 → j ≠ 6 → M' 80 j = M 80 j) ∧ gFW M M' (M 85) (M 86) V a L0 := by
  have loop : ∀ (k m : Nat) (M1 : gx_M) (stuck : Int) (L : List gE), m + k = V → (∀ k, k ≠ 79 → k ≠ 80 → k ≠ 87 → k ≠ 88 → k ≠ 89 → k ≠ 90 → M1 k = M k) → (∀ j, j ≠ 4 → j ≠ 5 → j ≠ 6 → M1 80 j = M 80 j) → (stuck = 0 ∨ stuck = 1) → gRS M1 L → L[fr]? = some a →
      ((gFo (M 85) (M 86) 300 a m L0 = some L ∧ M1 80 5 = 0 ∧ (g16 (M1 80 6) ∧ ∀ p : Nat, p < 4 → (gbt (M1 80 6) p ↔ gbt (M 80 6) p ∨ (p < m ∧ gCn (M 85) (gmk a.1) (p : Int)))) ∧ M1 79 3 = M 79 3 ∧ stuck = gi (∀ m' : Nat, m' < m → ¬ gCn (M 85) (gmk a.1) (m' : Int))) ∨ (gFo (M 85) (M 86) 300 a m L0 = none ∧ M1 80 5 = 1)) →
      ∃ M', gx_G l κ gx_sh z_mt zX5_follow d (4, [gR 80, gI (fr : Int), gI stuck, gI (m : Int)], [], M1) (gx_eq none M') ∧ (∀ k, k ≠ 79 → k ≠ 80 → k ≠ 87 → k ≠ 88 → k ≠ 89 → k ≠ 90 → M' k = M k) ∧ (∀ j, j ≠ 4 → j ≠ 5 → j ≠ 6 → M' 80 j = M 80 j) ∧ gFW M M' (M 85) (M 86) V a L0 := by
    intro k
    induction k with
    | zero =>
      intro m M1 stuck L hm fr1 fr2 hst hS1 ha1 hmode
      have e : m = V := by omega
      subst e
      have sR : gx_R stuck := by rcases hst with h | h <;> rw [h] <;> exact ⟨by decide, by decide⟩
      have e81 : M1 81 1 = (m : Int) := by rw [fr1 81 (by decide) (by decide) (by decide) (by decide) (by decide) (by decide)]; exact hV.1
      have g1 : M1 81 1 ≤ (m : Int) := by omega
      have g2 : gx_R (m : Int) := ⟨by omega, by omega⟩
      have g3 : gx_R (M1 81 1) := by rw [e81]; exact g2
      by_cases c0 : stuck = 0
      · refine ⟨M1, rfollow_4_11 g1 g2 g3 c0 sR (rfollow_66 ⟨rfl, rfl⟩), fr1, fr2, ?_⟩
        rcases hmode with ⟨q1, q2, q3, q4, q5⟩ | ⟨q1, q2⟩
        · refine Or.inl ⟨L, q1, hS1, q2, q3, ?_⟩
          rw [q4, ← q5, c0, Int.add_zero]
        · exact Or.inr ⟨q1, ⟨L, hS1⟩, q2⟩
      · have c1 : stuck = 1 := by omega
        refine ⟨gx_up M1 79 3 (M1 79 3 + 1), rfollow_4_10 g1 g2 g3 c0 sR (rfollow_66 ⟨rfl, rfl⟩), fun k k1 k2 k3 k4 k5 k6 => by rw [gx_up_ne k1]; exact fr1 k k1 k2 k3 k4 k5 k6, fun j j4 j5 j6 => by rw [gx_up_ne (by decide)]; exact fr2 j j4 j5 j6, ?_⟩
        have hS2 : gRS (gx_up M1 79 3 (M1 79 3 + 1)) L := gRS_kept hS1 (by rw [gx_up_ne (by decide)]) (gx_up_ne (by decide)) (gx_up_ne (by decide)) (gx_up_ne (by decide))
        rcases hmode with ⟨q1, q2, q3, q4, q5⟩ | ⟨q1, q2⟩
        · refine Or.inl ⟨L, q1, hS2, by rw [gx_up_ne (by decide)]; exact q2, by rw [gx_up_ne (by decide)]; exact q3, ?_⟩
          rw [gx_up_at, if_pos rfl, q4, ← q5, c1]
        · exact Or.inr ⟨q1, ⟨L, hS2⟩, by rw [gx_up_ne (by decide)]; exact q2⟩
    | succ k ih =>
      intro m M1 stuck L hm fr1 fr2 hst hS1 ha1 hmode
      have hm4 : m < 4 := by omega
      have e81 : M1 81 1 = (V : Int) := by rw [fr1 81 (by decide) (by decide) (by decide) (by decide) (by decide) (by decide)]; exact hV.1
      have e85 : M1 85 = M 85 := fr1 85 (by decide) (by decide) (by decide) (by decide) (by decide) (by decide)
      have e86 : M1 86 = M 86 := fr1 86 (by decide) (by decide) (by decide) (by decide) (by decide) (by decide)
      have hfl : fr < L.length := (List.getElem?_eq_some_iff.mp ha1).1
      have hL3 := hS1.1.2
      obtain ⟨r1, r2, r3, r4⟩ := hS1.2.1 fr a ha1
      have g1 : (m : Int) < M1 81 1 := by omega
      have g2 : gx_R (m : Int) := ⟨by omega, by omega⟩
      have g3 : gx_R (M1 81 1) := by rw [e81]; exact ⟨by omega, by omega⟩
      have hrr : ∀ p, 0 ≤ p → p < 8 → 0 ≤ M1 87 ((fr : Int) * 8 + p) ∧ M1 87 ((fr : Int) * 8 + p) ≤ 92700 := fun p p1 p2 => by
        rw [r1 p p1 p2]
        exact gSm_rng r4 r3 (by omega) ⟨p1, p2⟩
      have hld := X_leadsR (l := l) (κ := κ) (d := 1) (M := M1) (fr := (fr : Int)) (mv := (m : Int)) (mh := 99999) (by omega) ⟨by omega, by omega⟩ ⟨by omega, by omega⟩ ⟨by decide, by decide⟩ (fun p p1 p2 => by have := hrr p p1 p2; omega) (fun p p1 p2 => by have := hrr p p1 p2; omega) (by
        intro i i1 i2
        rw [e85, e86]
        exact hA i i1 i2)
      have hcn : gCn (M1 85) (fun p => M1 87 ((fr : Int) * 8 + p)) (m : Int) ↔ gCn (M 85) (gmk a.1) (m : Int) := gCn_congr ⟨by omega, by omega⟩ (fun i _ _ => by rw [e85]) (fun p p1 p2 => r1 p p1 p2)
      rw [hcn] at hld
      have eF : gFo (M 85) (M 86) 300 a (m + 1) L0 = (gFo (M 85) (M 86) 300 a m L0).bind (fun L' => @ite _ (gCn (M 85) (gmk a.1) (m : Int)) (Classical.propDecidable _) (gMeet 300 L' (gNx (M 85) (M 86) a m)) (some L')) := rfl
      rcases hld with ⟨hc, hX⟩ | ⟨hc, M2, hX, f1, f2, f3⟩
      · obtain ⟨M', k1, k2⟩ := ih (m + 1) M1 stuck L (by omega) fr1 fr2 hst hS1 ha1 (by
          rcases hmode with ⟨q1, q2, q3, q4, q5⟩ | ⟨q1, q2⟩
          · refine Or.inl ⟨?_, q2, ⟨q3.1, fun p hp => ?_⟩, q4, ?_⟩
            · rw [eF, q1]
              exact @if_neg _ (Classical.propDecidable _) hc _ _ _
            · rw [q3.2 p hp]
              constructor
              · rintro (h | h)
                · exact Or.inl h
                · exact Or.inr ⟨by omega, h.2⟩
              · rintro (h | ⟨h, h2⟩)
                · exact Or.inl h
                · by_cases e : p = m
                  · rw [e] at h2; exact absurd h2 hc
                  · exact Or.inr ⟨by omega, h2⟩
            · rw [q5]
              refine gi_congr ⟨fun z m' hm' => ?_, fun z m' hm' => z m' (by omega)⟩
              by_cases e : m' = m
              · rw [e]; exact hc
              · exact z m' (by omega)
          · exact Or.inr ⟨by rw [eF, q1]; rfl, q2⟩)
        exact ⟨M', rfollow_4_01 g1 g2 g3 hX (by omega) rfl ⟨by decide, by decide⟩ (rfollow_46 k1), k2⟩
      · have hS2 : gRS M2 L := gRS_kept hS1 (by rw [f2, if_neg (by decide)]) (f1 87 (by decide) (by decide)) (f1 89 (by decide) (by decide)) (f1 90 (by decide) (by decide))
        have hnx : ∀ p, 0 ≤ p → p < 8 → M2 88 p = gmk (gNx (M 85) (M 86) a m).1 p := by
          intro p p1 p2
          rw [f3 p p1 p2, e85, e86]
          exact gNx_row (by omega) hz r1 p p1 p2
        have hsm := gNx_sm (gv := M 86) (m := m) (by omega) hA r4 (by omega) hc
        obtain ⟨M3, m1, m2, m3, m4⟩ := X_meet (l := l) (κ := κ) (d := 2) (M := M2) (L := L) (x := gNx (M 85) (M 86) a m) (by omega) hS2 hnx (by show a.2 + 1 ≤ (L.length : Int); omega) hsm
        have em2 : M2 89 (fr : Int) = a.2 := by rw [f1 89 (by decide) (by decide)]; exact r2
        have em : (gNx (M 85) (M 86) a m).2 = M2 89 (fr : Int) + 1 := by rw [em2]; rfl
        rw [em] at m1
        have fr1' : ∀ k, k ≠ 79 → k ≠ 80 → k ≠ 87 → k ≠ 88 → k ≠ 89 → k ≠ 90 → M3 k = M k := fun k k1 k2 k3 k4 k5 k6 => by rw [m2 k k2 k3 k5 k6, f1 k k2 k4]; exact fr1 k k1 k2 k3 k4 k5 k6
        have fr2' : ∀ j, j ≠ 4 → j ≠ 5 → j ≠ 6 → M3 80 j = M 80 j := fun j j4 j5 j6 => by rw [m3 j j4 j5, f2, if_neg j6]; exact fr2 j j4 j5 j6
        have e795 : M3 79 = M1 79 := by rw [m2 79 (by decide) (by decide) (by decide) (by decide), f1 79 (by decide) (by decide)]
        have e806 : M3 80 6 = gx_or (M1 80 6) (gx_shl 1 (m : Int)) := by rw [m3 6 (by decide) (by decide), f2, if_pos rfl]
        have e805 : M2 80 5 = M1 80 5 := by rw [f2, if_neg (by decide)]
        -- what the search has become
        have key : ∃ L2, gRS M3 L2 ∧ L2[fr]? = some a ∧ ((gFo (M 85) (M 86) 300 a (m + 1) L0 = some L2 ∧ M3 80 5 = 0 ∧ (g16 (M3 80 6) ∧ ∀ p : Nat, p < 4 → (gbt (M3 80 6) p ↔ gbt (M 80 6) p ∨ (p < m + 1 ∧ gCn (M 85) (gmk a.1) (p : Int)))) ∧ M3 79 3 = M 79 3 ∧ (0 : Int) = gi (∀ m' : Nat, m' < m + 1 → ¬ gCn (M 85) (gmk a.1) (m' : Int))) ∨ (gFo (M 85) (M 86) 300 a (m + 1) L0 = none ∧ M3 80 5 = 1)) := by
          rcases hmode with ⟨q1, q2, q3, q4, q5⟩ | ⟨q1, q2⟩
          · have eF2 : gFo (M 85) (M 86) 300 a (m + 1) L0 = gMeet 300 L (gNx (M 85) (M 86) a m) := by
              rw [eF, q1]
              exact @if_pos _ (Classical.propDecidable _) hc _ _ _
            rcases m4 with ⟨L2, p1, p2, p3⟩ | ⟨p1, p2, p3⟩
            · have hpre := (gMeet_cap (Nat.le_refl 300) hL3 p1).2.2
              obtain ⟨o1, o2⟩ := gb_orb q3.1 hm4
              refine ⟨L2, p2, gPre hpre ha1, Or.inl ⟨by rw [eF2, p1], by rw [p3, e805]; exact q2, ⟨by rw [e806]; exact o1, fun p hp => ?_⟩, by rw [e795]; exact q4, ?_⟩⟩
              · rw [e806, o2 p hp, q3.2 p hp]
                constructor
                · rintro ((h | h) | h)
                  · exact Or.inl h
                  · exact Or.inr ⟨by omega, h.2⟩
                  · exact Or.inr ⟨by omega, by rw [h]; exact hc⟩
                · rintro (h | ⟨h, h2⟩)
                  · exact Or.inl (Or.inl h)
                  · by_cases e : p = m
                    · exact Or.inr e
                    · exact Or.inl (Or.inr ⟨by omega, h2⟩)
              · exact (gi_neg (fun z => z m (by omega) hc)).symm
            · exact ⟨L, p2, ha1, Or.inr ⟨by rw [eF2, p1], p3⟩⟩
          · have eF2 : gFo (M 85) (M 86) 300 a (m + 1) L0 = none := by rw [eF, q1]; rfl
            rcases m4 with ⟨L2, p1, p2, p3⟩ | ⟨p1, p2, p3⟩
            · exact ⟨L2, p2, gPre (gMeet_cap (Nat.le_refl 300) hL3 p1).2.2 ha1, Or.inr ⟨eF2, by rw [p3, e805]; exact q2⟩⟩
            · exact ⟨L, p2, ha1, Or.inr ⟨eF2, p3⟩⟩
        obtain ⟨L2, b1, b2, b3⟩ := key
        obtain ⟨M', k1, k2⟩ := ih (m + 1) M3 0 L2 (by omega) fr1' fr2' (Or.inl rfl) b1 b2 b3
        exact ⟨M', rfollow_4_00 g1 g2 g3 hX (by omega) (by decide) ⟨by decide, by decide⟩ ⟨by omega, by omega⟩ m1 (by omega) (rfollow_46 k1), k2⟩
  obtain ⟨M', k1, k2⟩ := loop V 0 M 1 L0 (by omega) (fun _ _ _ _ _ _ _ => rfl) (fun _ _ _ _ => rfl) (Or.inr rfl) hS ha (Or.inl ⟨rfl, h5, ⟨h6, fun p hp => ⟨Or.inl, fun z => by
    rcases z with z | z
    · exact z
    · omega⟩⟩, rfl, (gi_pos (fun m' hm' => by omega)).symm⟩)
  exact ⟨M', rfollow_e k1, k2⟩
end REACHB
