/-! the class's growth tree: following a node -/
/-- where the nodes from the top down lie -/
def gPth (U : Int → Int) (L : List gN) (σ : List gK) : Prop := ∀ b ρ, (b :: ρ) <:+ σ → ∃ j : Nat, U (ρ.length : Int) = (j : Int) ∧ L[j]? = some (b, ρ)
theorem gOg_rng {c : gK} (hc : ∀ p, 0 ≤ p → p < 8 → 0 ≤ gmk c p ∧ gmk c p ≤ 1073741824) (σ : List gK) {p : Int} (p1 : 0 ≤ p) (p2 : p < 8) : 0 ≤ gmk (σ.foldr gOg c) p ∧ gmk (σ.foldr gOg c) p ≤ 1073741824 := by
  by_cases h4 : p < 4
  · rcases gOg_fold c ⟨p1, h4⟩ σ with e | e
    · rw [e]; decide
    · rw [e]; exact hc p p1 p2
  · rw [gmk_hi _ (by omega)]; decide
section TFOLLOW
variable {l : Launch} {κ : yK} {d : Nat}
theorem X_tpath {M : gx_M} {L : List gN} {σ : List gK} {nd dp : Int} {P : gx_M → Prop} (hS : gTS M L) (hσ : σ.length ≤ 300)
    (kk : ∀ M2, (∀ k, k ≠ 103 → M2 k = M k) → gPth (M2 103) L σ → ∃ M', gx_G l κ gx_sh z_mt zX7_follow d (41, [gR 92, gI nd, gI dp, gU, gI 0, gU], [], M2) (gx_eq none M') ∧ P M') :
    ∀ (ρ : List gK) (b : gK) (j : Nat) (M1 : gx_M), (b :: ρ) <:+ σ → L[j]? = some (b, ρ) → (∀ k, k ≠ 103 → M1 k = M k) → (∀ b' ρ', (b' :: ρ') <:+ σ → ρ.length < ρ'.length → ∃ j' : Nat, M1 103 (ρ'.length : Int) = (j' : Int) ∧ L[j']? = some (b', ρ')) →
      ∃ M', gx_G l κ gx_sh z_mt zX7_follow d (12, [gR 92, gI nd, gI dp, gI (j : Int), gI (ρ.length : Int), gU], [], M1) (gx_eq none M') ∧ P M' := by
  have hL3 := hS.1.2
  intro ρ
  induction ρ with
  | nil =>
    intro b j M1 hs hj hf hp
    have hjl := (List.getElem?_eq_some_iff.mp hj).1
    obtain ⟨M', k1, k2⟩ := kk (gx_up M1 103 0 (j : Int)) (fun k hk => by rw [gx_up_ne hk]; exact hf k hk) (fun b' ρ' h' => by
      by_cases e : ρ' = []
      · subst e
        have e2 := gSx_eq h' hs rfl
        cases e2
        exact ⟨j, by rw [gx_up_at]; rfl, hj⟩
      · have h1 : 0 < ρ'.length := Nat.pos_of_ne_zero (fun z => e (List.length_eq_zero_iff.mp z))
        obtain ⟨j', q1, q2⟩ := hp b' ρ' h' h1
        exact ⟨j', by rw [gx_up_at, if_neg (by omega)]; exact q1, q2⟩)
    exact ⟨M', tfollow_12_0 (by decide) ⟨by decide, by decide⟩ (by decide) ⟨by omega, by omega⟩ (tfollow_12_1 (by decide) ⟨by decide, by decide⟩ k1), k2⟩
  | cons c r ih =>
    intro b j M1 hs hj hf hp
    have hjl := (List.getElem?_eq_some_iff.mp hj).1
    have hle := hs.length_le
    have hlen : ((c :: r).length : Int) = (r.length : Int) + 1 := by rw [List.length_cons]; omega
    have hl2 : (b :: c :: r).length = r.length + 2 := rfl
    obtain ⟨-, -, -, -, r5⟩ := hS.2 j (b, c :: r) hj
    obtain ⟨j2, j3, j4, j5⟩ := r5 c r rfl
    have e101 : M1 101 (j : Int) = (j2 : Int) := by rw [hf 101 (by decide)]; exact j5
    obtain ⟨M', k1, k2⟩ := ih c j2 (gx_up M1 103 ((c :: r).length : Int) (j : Int)) (gSx_up hs) j4 (fun k hk => by rw [gx_up_ne hk]; exact hf k hk) (fun b' ρ' h' hl' => by
      by_cases e : ρ'.length = (c :: r).length
      · have e2 := gSx_eq h' hs (by show ρ'.length + 1 = (c :: r).length + 1; omega)
        cases e2
        exact ⟨j, by rw [gx_up_at, if_pos rfl], hj⟩
      · have hl3 : (c :: r).length = r.length + 1 := rfl
        obtain ⟨j', q1, q2⟩ := hp b' ρ' h' (by omega)
        exact ⟨j', by rw [gx_up_at, if_neg (by omega)]; exact q1, q2⟩)
    refine ⟨M', tfollow_12_0 (by omega) ⟨by omega, by omega⟩ ⟨by omega, by omega⟩ ⟨by omega, by omega⟩ ?_, k2⟩
    rw [e101, hlen, show (r.length : Int) + 1 + (-1) = (r.length : Int) from by omega]
    rw [hlen] at k1
    exact k1
/-- what following a node does -/
def gTW (M M' : gx_M) (tk gv : Int → Int) (V : Nat) (n : gN) (L0 : List gN) : Prop :=
  (∃ L', gTs tk gv V 300 n L0 = some L' ∧ gTS M' L' ∧ M' 92 5 = 0 ∧ (g16 (M' 92 6) ∧ ∀ p : Nat, p < 4 → (gbt (M' 92 6) p ↔ gbt (M 92 6) p ∨ (p < V ∧ ¬ n.1 ∈ n.2 ∧ gCn tk (gmk n.1) (p : Int)))) ∧ M' 91 4 = gdp L') ∨
  (gTs tk gv V 300 n L0 = none ∧ (∃ L', gTS M' L') ∧ M' 92 5 = 1)
def gTF (M M' : gx_M) : Prop := (∀ k, k ≠ 91 → k ≠ 92 → k ≠ 99 → k ≠ 100 → k ≠ 101 → k ≠ 102 → k ≠ 103 → M' k = M k) ∧ ∀ j, j ≠ 4 → j ≠ 5 → j ≠ 6 → M' 92 j = M 92 j
theorem X_tmoves {M : gx_M} {L0 : List gN} {fr : Nat} {n : gN} {V : Nat} (hd : 2 ≤ d) (hV : M 93 1 = (V : Int) ∧ V ≤ 4) (hA : gAr M 97 98) (hz : gZ4 (M 97) (M 98)) (hlen : n.2.length < 300) (hfr : fr < 300) (hni : ¬ n.1 ∈ n.2) (g0 : g16 (M 92 6)) :
    ∀ (k m : Nat) (M1 : gx_M) (L : List gN), m + k = V → gTF M M1 → gTS M1 L → L[fr]? = some n → gPth (M1 103) L (n.1 :: n.2) →
      ((gTf (M 97) (M 98) 300 n m L0 = some L ∧ M1 92 5 = 0 ∧ (g16 (M1 92 6) ∧ ∀ p : Nat, p < 4 → (gbt (M1 92 6) p ↔ gbt (M 92 6) p ∨ (p < m ∧ gCn (M 97) (gmk n.1) (p : Int)))) ∧ M1 91 4 = gdp L) ∨ (gTf (M 97) (M 98) 300 n m L0 = none ∧ M1 92 5 = 1)) →
      ∃ M', gx_G l κ gx_sh z_mt zX7_follow d (75, [gR 92, gI (fr : Int), gI (n.2.length : Int), gU, gI (m : Int), gU], [], M1) (gx_eq none M') ∧ gTF M M' ∧ gTW M M' (M 97) (M 98) V n L0 := by
  intro k
  induction k with
  | zero =>
    intro m M1 L hm hF hS1 ha1 hP hmode
    have e : m = V := by omega
    subst e
    have e93 : M1 93 1 = (m : Int) := by rw [hF.1 93 (by decide) (by decide) (by decide) (by decide) (by decide) (by decide) (by decide)]; exact hV.1
    refine ⟨M1, tfollow_75_1 (by omega) ⟨by omega, by omega⟩ ⟨by omega, by omega⟩ (tfollow_162 ⟨rfl, rfl⟩), hF, ?_⟩
    rcases hmode with ⟨q1, q2, q3, q4⟩ | ⟨q1, q2⟩
    · refine Or.inl ⟨L, by rw [gTs_out hni]; exact q1, hS1, q2, ⟨q3.1, fun p hp => ?_⟩, q4⟩
      rw [q3.2 p hp]
      exact ⟨fun z => z.imp id (fun y => ⟨y.1, hni, y.2⟩), fun z => z.imp id (fun y => ⟨y.1, y.2.2⟩)⟩
    · exact Or.inr ⟨by rw [gTs_out hni]; exact q1, ⟨L, hS1⟩, q2⟩
  | succ k ih =>
    intro m M1 L hm hF hS1 ha1 hP hmode
    have hm4 : m < 4 := by omega
    have e93 : M1 93 1 = (V : Int) := by rw [hF.1 93 (by decide) (by decide) (by decide) (by decide) (by decide) (by decide) (by decide)]; exact hV.1
    have e97 : M1 97 = M 97 := hF.1 97 (by decide) (by decide) (by decide) (by decide) (by decide) (by decide) (by decide)
    have e98 : M1 98 = M 98 := hF.1 98 (by decide) (by decide) (by decide) (by decide) (by decide) (by decide) (by decide)
    have g1 : (m : Int) < M1 93 1 := by omega
    have g2 : gx_R (m : Int) := ⟨by omega, by omega⟩
    have g3 : gx_R (M1 93 1) := ⟨by omega, by omega⟩
    rcases hmode with ⟨q1, q2, q3, q4⟩ | ⟨q1, q2⟩
    · have hfl : fr < L.length := (List.getElem?_eq_some_iff.mp ha1).1
      have hL3 := hS1.1.2
      obtain ⟨r1, r2, r3, r4, r5⟩ := hS1.2 fr n ha1
      have rr : ∀ p, 0 ≤ p → p < 8 → 0 ≤ M1 99 ((fr : Int) * 8 + p) ∧ M1 99 ((fr : Int) * 8 + p) ≤ 1073741824 := fun p p1 p2 => by
        rw [r1 p p1 p2]
        exact gTv_rng (by decide) r4 (by omega) ⟨p1, p2⟩
      have hld := X_leadsT (l := l) (κ := κ) (d := 1) (M := M1) (fr := (fr : Int)) (mv := (m : Int)) (mh := 1073741833) (by omega) ⟨by omega, by omega⟩ ⟨by omega, by omega⟩ ⟨by decide, by decide⟩ rr (fun p p1 p2 => by have := rr p p1 p2; omega) (by
        intro i i1 i2
        rw [e97, e98]
        exact hA i i1 i2)
      have hcn : gCn (M1 97) (fun p => M1 99 ((fr : Int) * 8 + p)) (m : Int) ↔ gCn (M 97) (gmk n.1) (m : Int) := gCn_congr ⟨by omega, by omega⟩ (fun i _ _ => by rw [e97]) (fun p p1 p2 => r1 p p1 p2)
      rw [hcn] at hld
      have z5 : gx_R (M1 92 5) := by rw [q2]; exact ⟨by decide, by decide⟩
      rcases hld with ⟨hc, hX⟩ | ⟨hc, M2, hX, f1, f2, f3⟩
      · obtain ⟨M', k1, k2⟩ := ih (m + 1) M1 L (by omega) hF hS1 ha1 hP (Or.inl ⟨gTf_n q1 hc, q2, ⟨q3.1, fun p hp => by
          rw [q3.2 p hp]
          constructor
          · rintro (h | h)
            · exact Or.inl h
            · exact Or.inr ⟨by omega, h.2⟩
          · rintro (h | ⟨h, h2⟩)
            · exact Or.inl h
            · by_cases e : p = m
              · rw [e] at h2; exact absurd h2 hc
              · exact Or.inr ⟨by omega, h2⟩⟩, q4⟩)
        exact ⟨M', tfollow_75_001 g1 g2 g3 q2 z5 hX (by omega) rfl ⟨by decide, by decide⟩ (tfollow_156 k1), k2⟩
      · have hnx : ∀ p, 0 ≤ p → p < 8 → M2 100 p = gmk (gtp (gSt (M 97) (M 98) (gmk n.1) (m : Int))) p := by
          intro p p1 p2
          rw [f3 p p1 p2, e97, e98]
          exact gNx_row (a := (n.1, 0)) (by omega) hz r1 p p1 p2
        have hc0 : ∀ p, 0 ≤ p → p < 8 → 0 ≤ gmk (gtp (gSt (M 97) (M 98) (gmk n.1) (m : Int))) p ∧ gmk (gtp (gSt (M 97) (M 98) (gmk n.1) (m : Int))) p ≤ 1073741824 := fun p p1 p2 => by
          by_cases h4 : p < 4
          · have := gSt_v (B := 90000) (by decide) (show m < 8 by omega) hA r4 (by omega) hc ⟨p1, h4⟩
            omega
          · rw [gmk_hi _ (by omega)]; decide
        have hS2 : gTS M2 L := gTS_kept hS1 (by rw [f2, if_neg (by decide)]) (f1 99 (by decide) (by decide)) (f1 101 (by decide) (by decide)) (f1 102 (by decide) (by decide))
        -- the child outgrows those above it
        have og : ∀ (q : Nat) (ρ : List gK) (M3 : gx_M), ρ.length + q = n.2.length + 1 → ρ <:+ (n.1 :: n.2) → (∀ k, k ≠ 100 → M3 k = M2 k) → (∀ p, 0 ≤ p → p < 8 → M3 100 p = gmk (ρ.foldr gOg (gtp (gSt (M 97) (M 98) (gmk n.1) (m : Int)))) p) →
            ∃ M', gx_G l κ gx_sh z_mt zX7_follow d (118, [gR 92, gI (fr : Int), gI (n.2.length : Int), gU, gI (m : Int), gI (ρ.length : Int)], [], M3) (gx_eq none M') ∧ gTF M M' ∧ gTW M M' (M 97) (M 98) V n L0 := by
          intro q
          induction q with
          | zero =>
            intro ρ M3 hq hs hf3 h100
            have eρ : ρ = n.1 :: n.2 := hs.eq_of_length (by show ρ.length = n.2.length + 1; omega)
            subst eρ
            have hS3 : gTS M3 L := gTS_kept hS2 (by rw [hf3 92 (by decide)]) (hf3 99 (by decide)) (hf3 101 (by decide)) (hf3 102 (by decide))
            obtain ⟨M4, t1, t2, t3, t4⟩ := X_tadd (l := l) (κ := κ) (d := 1) (M := M3) (L := L) (x := (gTc (M 97) (M 98) n m, n.1 :: n.2)) (pa := (fr : Int)) (by omega) hS3 h100 (gTc_v (by decide) (by omega) hA r4 (by omega) hc) (by show n.2.length + 1 ≤ L.length; omega) (fun b ρ e => by
              cases e
              exact ⟨fr, hfl, ha1, rfl⟩) (by rw [hf3 91 (by decide), f1 91 (by decide) (by decide)]; exact q4)
            have el : ((n.1 :: n.2).length : Int) = (n.2.length : Int) + 1 := by rw [List.length_cons]; omega
            rw [show (((gTc (M 97) (M 98) n m, n.1 :: n.2) : gN).2.length : Int) = (n.2.length : Int) + 1 from el] at t1
            have hF4 : gTF M M4 := ⟨fun k k1 k2 k3 k4 k5 k6 k7 => by rw [t2 k k1 k2 k3 k5 k6, hf3 k k4, f1 k k2 k4]; exact hF.1 k k1 k2 k3 k4 k5 k6 k7, fun j j4 j5 j6 => by rw [t3 j j4 j5, hf3 92 (by decide), f2, if_neg j6]; exact hF.2 j j4 j5 j6⟩
            have e103 : M4 103 = M1 103 := by rw [t2 103 (by decide) (by decide) (by decide) (by decide) (by decide), hf3 103 (by decide), f1 103 (by decide) (by decide)]
            have e6 : M4 92 6 = gx_or (M1 92 6) (gx_shl 1 (m : Int)) := by rw [t3 6 (by decide) (by decide), hf3 92 (by decide), f2, if_pos rfl]
            have e5 : M3 92 5 = 0 := by rw [hf3 92 (by decide), f2, if_neg (by decide)]; exact q2
            have key : ∃ L2, gTS M4 L2 ∧ L <+: L2 ∧ ((gTf (M 97) (M 98) 300 n (m + 1) L0 = some L2 ∧ M4 92 5 = 0 ∧ (g16 (M4 92 6) ∧ ∀ p : Nat, p < 4 → (gbt (M4 92 6) p ↔ gbt (M 92 6) p ∨ (p < m + 1 ∧ gCn (M 97) (gmk n.1) (p : Int)))) ∧ M4 91 4 = gdp L2) ∨ (gTf (M 97) (M 98) 300 n (m + 1) L0 = none ∧ M4 92 5 = 1)) := by
              rcases t4 with ⟨u1, u2, u3, u4⟩ | ⟨u1, u2, u3⟩
              · obtain ⟨o1, o2⟩ := gb_orb q3.1 hm4
                refine ⟨_, u2, List.prefix_append _ _, Or.inl ⟨by rw [gTf_y q1 hc, if_neg (by omega)], by rw [u3, e5], ⟨by rw [e6]; exact o1, fun p hp => ?_⟩, u4⟩⟩
                rw [e6, o2 p hp, q3.2 p hp]
                constructor
                · rintro ((h | h) | h)
                  · exact Or.inl h
                  · exact Or.inr ⟨by omega, h.2⟩
                  · exact Or.inr ⟨by omega, by rw [h]; exact hc⟩
                · rintro (h | ⟨h, h2⟩)
                  · exact Or.inl (Or.inl h)
                  · by_cases e : p = m
                    · exact Or.inr e
                    · exact Or.inl (Or.inr ⟨by omega, h2⟩)
              · exact ⟨L, u2, List.prefix_refl _, Or.inr ⟨by rw [gTf_y q1 hc, if_pos u1], u3⟩⟩
            obtain ⟨L2, b1, b2, b3⟩ := key
            obtain ⟨M', k1, k2⟩ := ih (m + 1) M4 L2 (by omega) hF4 b1 (gPre b2 ha1) (fun b ρ h => by
              obtain ⟨j, j1, j2⟩ := hP b ρ h
              exact ⟨j, by rw [e103]; exact j1, gPre b2 j2⟩) b3
            exact ⟨M', tfollow_118_1 (by omega) ⟨by omega, by omega⟩ ⟨by omega, by omega⟩ t1 (by omega) (tfollow_156 k1), k2⟩
          | succ q ihq =>
            intro ρ M3 hq hs hf3 h100
            obtain ⟨b, ρ', s1, s2⟩ := gSx_ex (n.1 :: n.2) ρ.length (by show ρ.length < n.2.length + 1; omega)
            have eρ : ρ' = ρ := gSx_eq (gSx_up s1) hs s2
            subst eρ
            obtain ⟨j, j1, j2⟩ := hP b ρ' s1
            have hjl := (List.getElem?_eq_some_iff.mp j2).1
            obtain ⟨w1, w2, w3, w4, w5⟩ := hS1.2 j (b, ρ') j2
            have e103 : M3 103 (ρ'.length : Int) = (j : Int) := by rw [hf3 103 (by decide), f1 103 (by decide) (by decide)]; exact j1
            obtain ⟨M4, x1, x2, x3⟩ := X_outgrow (l := l) (κ := κ) (d := 0) (M := M3) (nd := (j : Int)) (a := b) (c := ρ'.foldr gOg (gtp (gSt (M 97) (M 98) (gmk n.1) (m : Int)))) ⟨by omega, by omega⟩ (fun p p1 p2 => by
              rw [hf3 99 (by decide), f1 99 (by decide) (by decide)]
              have : 0 ≤ gmk b p ∧ gmk b p ≤ 1073741824 := gTv_rng (by decide) w4 (by omega) (p := p) ⟨p1, p2⟩
              exact ⟨w1 p p1 p2, by omega, by omega⟩) (fun p p1 p2 => by
              have := gOg_rng hc0 ρ' p1 p2
              exact ⟨h100 p p1 p2, by omega, by omega⟩)
            obtain ⟨M', k1, k2⟩ := ihq (b :: ρ') M4 (by show ρ'.length + 1 + q = n.2.length + 1; omega) s1 (fun k hk => by rw [x2 k hk]; exact hf3 k hk) x3
            have el : ((b :: ρ').length : Int) = (ρ'.length : Int) + 1 := by rw [List.length_cons]; omega
            rw [el] at k1
            rw [← e103] at x1
            exact ⟨M', tfollow_118_0 (by omega) ⟨by omega, by omega⟩ ⟨by omega, by omega⟩ ⟨by omega, by omega⟩ x1 (by omega) k1, k2⟩
        obtain ⟨M', k1, k2⟩ := og (n.2.length + 1) [] M2 (by show 0 + (n.2.length + 1) = n.2.length + 1; omega) List.nil_suffix (fun _ _ => rfl) hnx
        exact ⟨M', tfollow_75_000 g1 g2 g3 q2 z5 hX (by omega) (by decide) ⟨by decide, by decide⟩ k1, k2⟩
    · refine ⟨M1, tfollow_75_01 g1 g2 g3 (by rw [q2]; decide) (by rw [q2]; exact ⟨by decide, by decide⟩) (tfollow_162 ⟨rfl, rfl⟩), hF, Or.inr ⟨?_, ⟨L, hS1⟩, q2⟩⟩
      rw [gTs_out hni, ← hm]
      exact gTf_zz (k + 1) m q1
theorem X_tfollow {M : gx_M} {L0 : List gN} {fr : Nat} {n : gN} {V : Nat} (hd : 2 ≤ d) (hV : M 93 1 = (V : Int) ∧ V ≤ 4) (hA : gAr M 97 98) (hz : gZ4 (M 97) (M 98)) (hS : gTS M L0) (ha : L0[fr]? = some n) (h5 : M 92 5 = 0) (h6 : g16 (M 92 6)) (hdp : M 91 4 = gdp L0) :
    ∃ M', gx_X l κ gx_sh z_mt zX7_follow d [gR 92, gI (fr : Int)] M (gx_eq none M') ∧ gTF M M' ∧ gTW M M' (M 97) (M 98) V n L0 := by
  have hfl : fr < L0.length := (List.getElem?_eq_some_iff.mp ha).1
  have hL3 := hS.1.2
  obtain ⟨r1, r2, r3, r4, r5⟩ := hS.2 fr n ha
  have hF0 : ∀ M2 : gx_M, (∀ k, k ≠ 103 → M2 k = M k) → gTF M M2 := fun M2 h => ⟨fun k _ _ _ _ _ _ k7 => h k k7, fun j _ _ _ => by rw [h 92 (by decide)]⟩
  obtain ⟨M', k1, k2⟩ := X_tpath (l := l) (κ := κ) (d := d) (M := M) (L := L0) (σ := n.1 :: n.2) (nd := (fr : Int)) (dp := (n.2.length : Int)) (P := fun M' => gTF M M' ∧ gTW M M' (M 97) (M 98) V n L0) hS (by show n.2.length + 1 ≤ 300; omega) (by
    intro M2 hf2 hp2
    have hS2 : gTS M2 L0 := gTS_kept hS (by rw [hf2 92 (by decide)]) (hf2 99 (by decide)) (hf2 101 (by decide)) (hf2 102 (by decide))
    -- whether it lies above itself
    have same : ∀ (q : Nat) (d0 : Nat), d0 + q = n.2.length → (∀ b ρ, (b :: ρ) <:+ n.2 → ρ.length < d0 → ¬ b = n.1) →
        ∃ M', gx_G l κ gx_sh z_mt zX7_follow d (41, [gR 92, gI (fr : Int), gI (n.2.length : Int), gU, gI (d0 : Int), gU], [], M2) (gx_eq none M') ∧ gTF M M' ∧ gTW M M' (M 97) (M 98) V n L0 := by
      intro q
      induction q with
      | zero =>
        intro d0 hq hno
        have hni : ¬ n.1 ∈ n.2 := fun z => by
          obtain ⟨ρ, hρ⟩ := gSx_mem z
          have := hρ.length_le
          exact hno n.1 ρ hρ (by
            have e : (n.1 :: ρ).length = ρ.length + 1 := rfl
            omega) rfl
        obtain ⟨M', k1, k2⟩ := X_tmoves (l := l) (κ := κ) (d := d) (M := M) (L0 := L0) (fr := fr) (n := n) (V := V) hd hV hA hz (by omega) (by omega) hni h6 V 0 M2 L0 (by omega) (hF0 M2 hf2) hS2 ha hp2 (Or.inl ⟨rfl, by rw [hf2 92 (by decide)]; exact h5, ⟨by rw [hf2 92 (by decide)]; exact h6, fun p hp => by
          rw [hf2 92 (by decide)]
          exact ⟨Or.inl, fun z => by
            rcases z with z | z
            · exact z
            · omega⟩⟩, by rw [hf2 91 (by decide)]; exact hdp⟩)
        exact ⟨M', tfollow_41_1 (by omega) ⟨by omega, by omega⟩ ⟨by omega, by omega⟩ k1, k2⟩
      | succ q ihq =>
        intro d0 hq hno
        obtain ⟨b, ρ, s1, s2⟩ := gSx_ex n.2 d0 (by omega)
        obtain ⟨j, j1, j2⟩ := hp2 b ρ (List.IsSuffix.trans s1 (List.suffix_cons _ _))
        have hjl := (List.getElem?_eq_some_iff.mp j2).1
        obtain ⟨w1, w2, w3, w4, w5⟩ := hS.2 j (b, ρ) j2
        rw [s2] at j1
        have hsm := X_areSame (l := l) (κ := κ) (d := 1) (M := M2) (mk := (j : Int)) (ot := (fr : Int)) (a := b) (b := n.1) (by omega) ⟨by omega, by omega⟩ ⟨by omega, by omega⟩ (fun p p1 p2 => by
          rw [hf2 99 (by decide)]
          have : 0 ≤ gmk b p ∧ gmk b p ≤ 1073741824 := gTv_rng (by decide) w4 (by omega) (p := p) ⟨p1, p2⟩
          exact ⟨w1 p p1 p2, by omega, by omega⟩) (fun p p1 p2 => by
          rw [hf2 99 (by decide)]
          have := gTv_rng (by decide) r4 (by omega) (p := p) ⟨p1, p2⟩
          exact ⟨r1 p p1 p2, by omega, by omega⟩)
        rw [← j1] at hsm
        by_cases e : b = n.1
        · rw [gi_pos e] at hsm
          refine ⟨M2, tfollow_41_00 (by omega) ⟨by omega, by omega⟩ ⟨by omega, by omega⟩ ⟨by omega, by omega⟩ hsm (by omega) (by decide) ⟨by decide, by decide⟩ ⟨rfl, rfl⟩, hF0 M2 hf2, Or.inl ⟨L0, gTs_in (by rw [← e]; exact gSx_in s1), hS2, by rw [hf2 92 (by decide)]; exact h5, ⟨by rw [hf2 92 (by decide)]; exact h6, fun p hp => ?_⟩, by rw [hf2 91 (by decide)]; exact hdp⟩⟩
          rw [hf2 92 (by decide)]
          exact ⟨Or.inl, fun z => by
            rcases z with z | z
            · exact z
            · exact absurd (by rw [← e]; exact gSx_in s1) z.2.1⟩
        · rw [gi_neg e] at hsm
          obtain ⟨M', k1, k2⟩ := ihq (d0 + 1) (by omega) (fun b' ρ' h' hl' => by
            by_cases e2 : ρ'.length = d0
            · have e3 := gSx_eq h' s1 (by show ρ'.length + 1 = ρ.length + 1; omega)
              cases e3
              exact e
            · exact hno b' ρ' h' (by omega))
          exact ⟨M', tfollow_41_01 (by omega) ⟨by omega, by omega⟩ ⟨by omega, by omega⟩ ⟨by omega, by omega⟩ hsm (by omega) rfl ⟨by decide, by decide⟩ k1, k2⟩
    exact same n.2.length 0 (by omega) (fun _ ρ _ h => absurd h (Nat.not_lt_zero _))) n.2 n.1 fr M (List.suffix_refl _) ha (fun _ _ => rfl) (fun b' ρ' h' hl' => by
      have := h'.length_le
      have e1 : (b' :: ρ').length = ρ'.length + 1 := rfl
      have e2 : (n.1 :: n.2).length = n.2.length + 1 := rfl
      omega)
  refine ⟨M', tfollow_e ⟨by omega, by omega⟩ ?_, k2⟩
  rw [r2]
  exact k1
end TFOLLOW
