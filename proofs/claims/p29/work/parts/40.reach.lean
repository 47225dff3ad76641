/-! the markings that can be reached: the class's search -/
noncomputable def gcn (f : Int → Int) : Nat → Int
  | 0 => 0
  | k + 1 => gcn f k + gi (¬ f (k : Int) = 0)
theorem gcn_all {f : Int → Int} : ∀ k : Nat, (∀ q : Int, 0 ≤ q → q < (k : Int) → ¬ f q = 0) → gcn f k = (k : Int) := by
  intro k
  induction k with
  | zero => intro _; rfl
  | succ k ih =>
    intro h
    show gcn f k + gi (¬ f (k : Int) = 0) = ((k + 1 : Nat) : Int)
    rw [ih (fun q q1 q2 => h q q1 (by omega)), gi_pos (h (k : Int) (by omega) (by omega))]
    omega
theorem gcn_none {f : Int → Int} : ∀ k : Nat, (∀ q : Int, 0 ≤ q → q < (k : Int) → f q = 0) → gcn f k = 0 := by
  intro k
  induction k with
  | zero => intro _; rfl
  | succ k ih =>
    intro h
    show gcn f k + gi (¬ f (k : Int) = 0) = 0
    rw [ih (fun q q1 q2 => h q q1 (by omega)), gi_neg (fun z => z (h (k : Int) (by omega) (by omega)))]
    omega
theorem gcn_upd {f f' : Int → Int} {a v : Int} (hf : ∀ q, f' q = if q = a then v else f q) (ha : f a = 0) (hv : ¬ v = 0) : ∀ k : Nat, gcn f' k = gcn f k + gi (0 ≤ a ∧ a < (k : Int)) := by
  intro k
  induction k with
  | zero =>
    show (0 : Int) = 0 + gi (0 ≤ a ∧ a < ((0 : Nat) : Int))
    rw [gi_neg (by omega)]
    rfl
  | succ k ih =>
    show gcn f' k + gi (¬ f' (k : Int) = 0) = gcn f k + gi (¬ f (k : Int) = 0) + gi (0 ≤ a ∧ a < ((k + 1 : Nat) : Int))
    rw [ih]
    by_cases e : (k : Int) = a
    · have e1 : f' (k : Int) = v := by rw [hf, if_pos e]
      have e2 : f (k : Int) = 0 := by rw [e]; exact ha
      rw [e1, e2, gi_pos hv, gi_neg (P := ¬ (0 : Int) = 0) (fun z => z rfl), gi_neg (P := 0 ≤ a ∧ a < (k : Int)) (by omega), gi_pos (P := 0 ≤ a ∧ a < ((k + 1 : Nat) : Int)) (by omega)]
    · have e1 : f' (k : Int) = f (k : Int) := by rw [hf, if_neg e]
      rw [e1, gi_congr (P := 0 ≤ a ∧ a < ((k + 1 : Nat) : Int)) (R := 0 ≤ a ∧ a < (k : Int)) (by omega)]
      omega
def gPos (h : Int) (t : Nat) : Int := (h + (t : Int)) % 1024
theorem gPos_rng (h : Int) (t : Nat) : 0 ≤ gPos h t ∧ gPos h t < 1024 := by unfold gPos; omega
theorem gPos_nx (h : Int) (t : Nat) : gx_and (gPos h t + 1) 1023 = gPos h (t + 1) := by
  have hr := gPos_rng h t
  obtain ⟨n, hn⟩ := gb_nat hr.1
  have h2 := gb_and (n + 1) 1023 (by omega)
  have e : (n + 1) &&& 1023 = (n + 1) % 1024 := Nat.and_two_pow_sub_one_eq_mod (n + 1) 10
  rw [e] at h2
  rw [hn]
  refine h2.trans ?_
  have h3 : gPos h t = (n : Int) := hn
  unfold gPos at h3 ⊢
  omega
theorem gPos_cov (h : Int) (hh : 0 ≤ h ∧ h < 1024) {q : Int} (hq : 0 ≤ q ∧ q < 1024) : ∃ t, t < 1024 ∧ gPos h t = q := by
  refine ⟨((q - h) % 1024).toNat, by omega, ?_⟩
  unfold gPos
  omega
/-- a marking with its distance is small -/
def gSm (x : gE) : Prop := 0 ≤ x.2 ∧ ∀ p, 0 ≤ p → p < 4 → 0 ≤ gmk x.1 p ∧ gmk x.1 p ≤ 90000 + 9 * x.2
/-- the search's memory holds the list -/
def gRS (M : gx_M) (L : List gE) : Prop := (M 80 4 = (L.length : Int) ∧ L.length ≤ 300) ∧ (∀ (i : Nat) (a : gE), L[i]? = some a → (∀ p, 0 ≤ p → p < 8 → M 87 ((i : Int) * 8 + p) = gmk a.1 p) ∧ M 89 (i : Int) = a.2 ∧ a.2 ≤ (i : Int) ∧ gSm a) ∧
  (∀ q, 0 ≤ q → q < 1024 → 0 ≤ M 90 q ∧ M 90 q ≤ (L.length : Int)) ∧ gcn (M 90) 1024 = (L.length : Int) ∧ ∀ (i : Nat) (a : gE), L[i]? = some a → ∃ s, s < 1024 ∧ M 90 (gPos (gHs (gmk a.1)) s) = (i : Int) + 1 ∧ ∀ t, t < s → ¬ M 90 (gPos (gHs (gmk a.1)) t) = 0
theorem gSm_rng {a : gE} (h : gSm a) {n : Int} (hn : a.2 ≤ n) (hn2 : n ≤ 300) {p : Int} (hp : 0 ≤ p ∧ p < 8) : 0 ≤ gmk a.1 p ∧ gmk a.1 p ≤ 92700 := by
  by_cases h4 : p < 4
  · have := h.2 p hp.1 h4
    omega
  · rw [gmk_hi a.1 (by omega)]
    omega
section REACH
variable {l : Launch} {κ : yK} {d : Nat} {M : gx_M}
theorem X_meet {L : List gE} {x : gE} (hd : 2 ≤ d) (hS : gRS M L) (hx : ∀ p, 0 ≤ p → p < 8 → M 88 p = gmk x.1 p) (hx2 : x.2 ≤ (L.length : Int)) (hsm : gSm x) :
    ∃ M', gx_X l κ gx_sh z_mt zX5_meet d [gR 80, gI x.2] M (gx_eq none M') ∧ (∀ k, k ≠ 80 → k ≠ 87 → k ≠ 89 → k ≠ 90 → M' k = M k) ∧ (∀ j, j ≠ 4 → j ≠ 5 → M' 80 j = M 80 j) ∧ ((∃ L', gMeet 300 L x = some L' ∧ gRS M' L' ∧ M' 80 5 = M 80 5) ∨ (gMeet 300 L x = none ∧ gRS M' L ∧ M' 80 5 = 1)) := by
  have hS0 := hS
  obtain ⟨⟨hn, hn3⟩, hrow, htab, hcnt, hch⟩ := hS
  have hH : gHs (M 88) = gHs (gmk x.1) := gHs_congr hx
  have hHr := gHs_rng (gmk x.1)
  have h300 : ∀ (i : Nat) (a : gE), L[i]? = some a → i < 300 := fun i a h => by
    have := (List.getElem?_eq_some_iff.mp h).1
    omega
  have nxR : ∀ p, 0 ≤ p → p < 8 → gx_R (M 88 p) := fun p p1 p2 => by
    rw [hx p p1 p2]
    by_cases h4 : p < 4
    · have := hsm.2 p p1 h4
      exact ⟨by omega, by omega⟩
    · rw [gmk_hi x.1 (by omega)]
      exact ⟨by decide, by decide⟩
  have loop : ∀ (k i : Nat), i + k = 1024 → (∀ t, t < i → ¬ M 90 (gPos (gHs (gmk x.1)) t) = 0 ∧ ∀ (j : Nat) (a : gE), L[j]? = some a → M 90 (gPos (gHs (gmk x.1)) t) = (j : Int) + 1 → ¬ a.1 = x.1) →
      ∃ M', gx_G l κ gx_sh z_mt zX5_meet d (13, [gR 80, gI x.2, gI (gPos (gHs (gmk x.1)) i), gI (i : Int)], [], M) (gx_eq none M') ∧ (∀ k, k ≠ 80 → k ≠ 87 → k ≠ 89 → k ≠ 90 → M' k = M k) ∧ (∀ j, j ≠ 4 → j ≠ 5 → M' 80 j = M 80 j) ∧ ((∃ L', gMeet 300 L x = some L' ∧ gRS M' L' ∧ M' 80 5 = M 80 5) ∨ (gMeet 300 L x = none ∧ gRS M' L ∧ M' 80 5 = 1)) := by
    intro k
    induction k with
    | zero =>
      intro i hi hall
      exfalso
      have h1 : gcn (M 90) 1024 = ((1024 : Nat) : Int) := gcn_all 1024 (fun q q1 q2 => by
        obtain ⟨t, t1, t2⟩ := gPos_cov (gHs (gmk x.1)) hHr (q := q) ⟨q1, by omega⟩
        rw [← t2]
        exact (hall t (by omega)).1)
      omega
    | succ k ih =>
      intro i hi hall
      have hp := gPos_rng (gHs (gmk x.1)) i
      have ht := htab _ hp.1 hp.2
      have tR : gx_R (M 90 (gPos (gHs (gmk x.1)) i)) := ⟨by omega, by omega⟩
      by_cases hz : M 90 (gPos (gHs (gmk x.1)) i) = 0
      · have nomem : ¬ ∃ y ∈ L, y.1 = x.1 := by
          rintro ⟨y, y1, y2⟩
          obtain ⟨j, hj⟩ := List.getElem?_of_mem y1
          obtain ⟨s, s1, s2, s3⟩ := hch j y hj
          rw [y2] at s2 s3
          rcases Nat.lt_trichotomy s i with h | h | h
          · exact (hall s h).2 j y hj s2 y2
          · rw [h] at s2; omega
          · exact s3 i h hz
        by_cases hfull : L.length = 300
        · have h4 : M 80 4 = 300 := by omega
          refine ⟨gx_up M 80 5 1, meet_13_011 (by omega) ⟨by omega, by omega⟩ ⟨hp.1, hp.2⟩ hz tR (X_takeInRN (d := 0) h4) (by omega) rfl ⟨by decide, by decide⟩ ⟨rfl, rfl⟩, fun k k1 _ _ _ => gx_up_ne k1, fun j _ j5 => by rw [gx_up_at, if_neg j5], Or.inr ⟨by rw [gMeet_out nomem, if_pos hfull], ?_, by rw [gx_up_at, if_pos rfl]⟩⟩
          unfold gRS
          rw [show gx_up M 80 5 1 80 4 = M 80 4 from by rw [gx_up_at, if_neg (by decide)], show gx_up M 80 5 1 87 = M 87 from gx_up_ne (by decide), show gx_up M 80 5 1 89 = M 89 from gx_up_ne (by decide), show gx_up M 80 5 1 90 = M 90 from gx_up_ne (by decide)]
          exact hS0
        · obtain ⟨M1, t1, t2, t3, t4, t5⟩ := X_takeInR (l := l) (κ := κ) (d := 0) (M := M) ⟨by omega, by omega⟩
          have e4 : M1 80 4 = (L.length : Int) + 1 := by rw [t3, if_pos rfl, hn]
          have e89 : M1 89 = M 89 := t2 89 (by decide) (by decide)
          have e90 : M1 90 = M 90 := t2 90 (by decide) (by decide)
          refine ⟨_, meet_13_010 (by omega) ⟨by omega, by omega⟩ ⟨hp.1, hp.2⟩ hz tR t1 (by omega) (by decide) ⟨by decide, by decide⟩ (by rw [e4]; exact ⟨by omega, by omega⟩) ⟨rfl, rfl⟩, fun k k1 k2 k3 k4 => by rw [gx_up_ne k4, gx_up_ne k3, t2 k k1 k2], fun j j4 _ => by rw [gx_up_ne (by decide), gx_up_ne (by decide), t3, if_neg j4], Or.inl ⟨L ++ [x], by rw [gMeet_out nomem, if_neg hfull], ?_, by rw [gx_up_ne (by decide), gx_up_ne (by decide), t3, if_neg (by decide)]⟩⟩
          have f80 : (gx_up (gx_up M1 89 (M1 80 4 - 1) x.2) 90 (gPos (gHs (gmk x.1)) i) (M1 80 4)) 80 4 = (L.length : Int) + 1 := by rw [gx_up_ne (by decide), gx_up_ne (by decide)]; exact e4
          have f87 : (gx_up (gx_up M1 89 (M1 80 4 - 1) x.2) 90 (gPos (gHs (gmk x.1)) i) (M1 80 4)) 87 = M1 87 := by rw [gx_up_ne (by decide), gx_up_ne (by decide)]
          have f89 : ∀ q, (gx_up (gx_up M1 89 (M1 80 4 - 1) x.2) 90 (gPos (gHs (gmk x.1)) i) (M1 80 4)) 89 q = if q = (L.length : Int) then x.2 else M 89 q := fun q => by rw [gx_up_ne (by decide), gx_up_at, e4, e89, show (L.length : Int) + 1 - 1 = (L.length : Int) from by omega]
          have f90 : ∀ q, (gx_up (gx_up M1 89 (M1 80 4 - 1) x.2) 90 (gPos (gHs (gmk x.1)) i) (M1 80 4)) 90 q = if q = gPos (gHs (gmk x.1)) i then (L.length : Int) + 1 else M 90 q := fun q => by rw [gx_up_at, gx_up_ne (by decide), e4, e90]
          generalize gx_up (gx_up M1 89 (M1 80 4 - 1) x.2) 90 (gPos (gHs (gmk x.1)) i) (M1 80 4) = M2 at f80 f87 f89 f90 ⊢
          have hlen : ((L ++ [x]).length : Int) = (L.length : Int) + 1 := by rw [List.length_append]; rfl
          have hget : ∀ (j : Nat) (a : gE), (L ++ [x])[j]? = some a → (j < L.length ∧ L[j]? = some a) ∨ (j = L.length ∧ a = x) := by
            intro j a hj
            by_cases hjl : j < L.length
            · rw [List.getElem?_append_left hjl] at hj
              exact Or.inl ⟨hjl, hj⟩
            · have hj' := (List.getElem?_eq_some_iff.mp hj).1
              rw [List.length_append] at hj'
              have e0 : j = L.length := by
                have : [x].length = 1 := rfl
                omega
              subst e0
              refine Or.inr ⟨rfl, ?_⟩
              rw [List.getElem?_append_right (Nat.le_refl _), Nat.sub_self] at hj
              exact (Option.some.inj hj).symm
          refine ⟨⟨by rw [hlen]; exact f80, by rw [List.length_append]; show L.length + 1 ≤ 300; omega⟩, fun j a hj => ?_, fun q q1 q2 => ?_, ?_, fun j a hj => ?_⟩
          · rcases hget j a hj with ⟨hj1, hj2⟩ | ⟨rfl, rfl⟩
            · obtain ⟨r1, r2, r3, r4⟩ := hrow j a hj2
              refine ⟨fun p p1 p2 => ?_, ?_, r3, r4⟩
              · rw [f87, t4 _ (Or.inl (by omega))]
                exact r1 p p1 p2
              · rw [f89, if_neg (by omega)]; exact r2
            · refine ⟨fun p p1 p2 => ?_, ?_, hx2, hsm⟩
              · rw [f87, ← hn, t5 p p1 p2]
                exact hx p p1 p2
              · rw [f89, if_pos rfl]
          · rw [f90, hlen]
            have := htab q q1 q2
            split <;> omega
          · rw [hlen, gcn_upd f90 hz (by omega) 1024, hcnt, gi_pos ⟨hp.1, by omega⟩]
          · rcases hget j a hj with ⟨hj1, hj2⟩ | ⟨rfl, rfl⟩
            · obtain ⟨s, s1, s2, s3⟩ := hch j a hj2
              refine ⟨s, s1, ?_, fun t ht => ?_⟩
              · rw [f90]
                by_cases e : gPos (gHs (gmk a.1)) s = gPos (gHs (gmk x.1)) i
                · rw [e, hz] at s2; omega
                · rw [if_neg e]; exact s2
              · rw [f90]
                split
                · omega
                · exact s3 t ht
            · refine ⟨i, by omega, ?_, fun t ht => ?_⟩
              · rw [f90, if_pos rfl]
              · rw [f90]
                split
                · omega
                · exact (hall t ht).1
      · obtain ⟨jn, hjn⟩ := gb_nat (show 0 ≤ M 90 (gPos (gHs (gmk x.1)) i) - 1 by omega)
        have hjl : jn < L.length := by omega
        obtain ⟨a, ha⟩ : ∃ a, L[jn]? = some a := ⟨L[jn], List.getElem?_eq_getElem hjl⟩
        obtain ⟨r1, r2, r3, r4⟩ := hrow jn a ha
        have hnx := X_isNext (l := l) (κ := κ) (d := 1) (M := M) (mk := M 90 (gPos (gHs (gmk x.1)) i) - 1) (by omega) ⟨by omega, by omega⟩ (fun p p1 p2 => by
          rw [hjn, r1 p p1 p2]
          have := gSm_rng r4 r3 (by omega) (p := p) ⟨p1, p2⟩
          exact ⟨⟨by omega, by omega⟩, nxR p p1 p2⟩)
        have heq : (∀ p, 0 ≤ p → p < 8 → M 87 ((M 90 (gPos (gHs (gmk x.1)) i) - 1) * 8 + p) = M 88 p) ↔ a.1 = x.1 := by
          rw [hjn]
          constructor
          · intro z
            refine gmk_ext (fun p p1 p2 => ?_)
            have := z p p1 (by omega)
            rw [r1 p p1 (by omega), hx p p1 (by omega)] at this
            exact this
          · intro z p p1 p2
            rw [r1 p p1 p2, hx p p1 p2, z]
        rw [gi_congr heq] at hnx
        by_cases he : a.1 = x.1
        · rw [gi_pos he] at hnx
          exact ⟨M, meet_13_000 (by omega) ⟨by omega, by omega⟩ ⟨hp.1, hp.2⟩ hz tR hnx (by omega) (by decide) ⟨by decide, by decide⟩ ⟨rfl, rfl⟩, fun _ _ _ _ _ => rfl, fun _ _ _ => rfl, Or.inl ⟨L, gMeet_in ⟨a, List.mem_of_getElem? ha, he⟩, hS0, rfl⟩⟩
        · rw [gi_neg he] at hnx
          obtain ⟨M', k1, k2⟩ := ih (i + 1) (by omega) (fun t ht => by
            by_cases e : t = i
            · subst e
              refine ⟨hz, fun j a' hj hj2 => ?_⟩
              have e2 : j = jn := by omega
              subst e2
              rw [ha] at hj
              cases hj
              exact he
            · exact hall t (by omega))
          refine ⟨M', meet_13_001 (by omega) ⟨by omega, by omega⟩ ⟨hp.1, hp.2⟩ hz tR hnx (by omega) rfl ⟨by decide, by decide⟩ ?_, k2⟩
          rw [gPos_nx]
          exact k1
  have e0 : gPos (gHs (gmk x.1)) 0 = gHs (M 88) := by
    rw [hH]
    unfold gPos
    omega
  obtain ⟨M', k1, k2⟩ := loop 1024 0 (by omega) (fun t ht => by omega)
  rw [e0] at k1
  exact ⟨M', meet_e (X_hash (d := 0)) (by omega) k1, k2⟩
end REACH
