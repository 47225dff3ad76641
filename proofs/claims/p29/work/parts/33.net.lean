/-! the net of the class: its methods -/
theorem gx_cp_in {M : gx_M} {s d : Nat} {sp dp k j : Int} (h : dp ≤ j ∧ j < dp + k) : gx_cp M s d sp dp k d j = M s (sp + (j - dp)) := if_pos ⟨rfl, h⟩
theorem gx_up_at (M : gx_M) (c : Nat) (i v j : Int) : gx_up M c i v c j = if j = i then v else M c j := by rw [gx_up_eq]
/-- whether a move may be made at a marking that begins at fr in a row -/
def gAL (M : gx_M) (row tk gv : Nat) (fr mv mh : Int) : Prop := ∀ p, 0 ≤ p → p < 8 → 0 ≤ M row (fr + p) - M tk (mv * 8 + p) ∧ M row (fr + p) - M tk (mv * 8 + p) + M gv (mv * 8 + p) ≤ mh
/-- arcs are small -/
def gAr (M : gx_M) (tk gv : Nat) : Prop := ∀ i, 0 ≤ i → i < 64 → (0 ≤ M tk i ∧ M tk i ≤ 9) ∧ (0 ≤ M gv i ∧ M gv i ≤ 9)
section NETA
variable {l : Launch} {κ : yK} {d : Nat} {M : gx_M}
theorem X_hasPlace {pl : Int} (hp : gx_R pl) (hP : 0 ≤ M 1 0 ∧ M 1 0 ≤ 8) : gx_X l κ gx_sh z_mt zX3_hasPlace d [gR 2, gI pl] M (gx_eq (some (gI (gi (0 ≤ pl ∧ pl < M 1 0)))) M) := by
  by_cases h1 : pl < 0
  · have e : gi (0 ≤ pl ∧ pl < M 1 0) = 0 := gi_neg (by omega)
    rw [e]; exact hasPlace_e_1 h1 hp ⟨rfl, rfl⟩
  · by_cases h2 : M 1 0 ≤ pl
    · have e : gi (0 ≤ pl ∧ pl < M 1 0) = 0 := gi_neg (by omega)
      rw [e]; exact hasPlace_e_01 (by omega) hp h2 ⟨by omega, by omega⟩ ⟨rfl, rfl⟩
    · have e : gi (0 ≤ pl ∧ pl < M 1 0) = 1 := gi_pos ⟨by omega, by omega⟩
      rw [e]; exact hasPlace_e_000 (by omega) hp (by omega) ⟨by omega, by omega⟩ (by omega) ⟨rfl, rfl⟩
theorem X_hasMove {mv : Int} (hp : gx_R mv) (hP : 0 ≤ M 1 1 ∧ M 1 1 ≤ 8) : gx_X l κ gx_sh z_mt zX3_hasMove d [gR 2, gI mv] M (gx_eq (some (gI (gi (0 ≤ mv ∧ mv < M 1 1)))) M) := by
  by_cases h1 : mv < 0
  · have e : gi (0 ≤ mv ∧ mv < M 1 1) = 0 := gi_neg (by omega)
    rw [e]; exact hasMove_e_1 h1 hp ⟨rfl, rfl⟩
  · by_cases h2 : M 1 1 ≤ mv
    · have e : gi (0 ≤ mv ∧ mv < M 1 1) = 0 := gi_neg (by omega)
      rw [e]; exact hasMove_e_01 (by omega) hp h2 ⟨by omega, by omega⟩ ⟨rfl, rfl⟩
    · have e : gi (0 ≤ mv ∧ mv < M 1 1) = 1 := gi_pos ⟨by omega, by omega⟩
      rw [e]; exact hasMove_e_000 (by omega) hp (by omega) ⟨by omega, by omega⟩ (by omega) ⟨rfl, rfl⟩

theorem X_allows1 {fr mv mh : Int} (hf : 0 ≤ fr ∧ fr + 8 ≤ 8) (hm : 0 ≤ mv ∧ mv < 8) (hh : gx_R mh) (hr : ∀ p, 0 ≤ p → p < 8 → 0 ≤ M 2 (fr + p) ∧ M 2 (fr + p) ≤ 1073741824) (ht : gAr M 5 6) :
    gx_X l κ gx_sh z_mt zX3_allows d [gR 2, gR 3, gI fr, gI mv, gI mh] M (gx_eq (some (gI (gi (gAL M 2 5 6 fr mv mh)))) M) := by
  have loop : ∀ (k : Nat) (p : Int), p + k = 8 → 0 ≤ p → (∀ q, 0 ≤ q → q < p → 0 ≤ M 2 (fr + q) - M 5 (mv * 8 + q) ∧ M 2 (fr + q) - M 5 (mv * 8 + q) + M 6 (mv * 8 + q) ≤ mh) →
      gx_G l κ gx_sh z_mt zX3_allows d (3, [gR 2, gR 3, gI fr, gI mv, gI mh, gI p, gU], [], M) (gx_eq (some (gI (gi (gAL M 2 5 6 fr mv mh)))) M) := by
    intro k
    induction k with
    | zero =>
      intro p hp h0 hq
      have e : gi (gAL M 2 5 6 fr mv mh) = 1 := gi_pos (fun q h1 h2 => hq q h1 (by omega))
      rw [e]
      exact allows1_3_1 (by omega) ⟨by omega, by omega⟩ ⟨rfl, rfl⟩
    | succ k ih =>
      intro p hp h0 hq
      have h1 := hr p h0 (by omega)
      obtain ⟨h2, h3⟩ := ht (mv * 8 + p) (by omega) (by omega)
      by_cases c1 : M 2 (fr + p) - M 5 (mv * 8 + p) < 0
      · have e : gi (gAL M 2 5 6 fr mv mh) = 0 := gi_neg (fun z => by have := (z p h0 (by omega)).1; omega)
        rw [e]
        exact allows1_3_01 (by omega) ⟨by omega, by omega⟩ ⟨by omega, by omega⟩ ⟨by omega, by omega⟩ c1 ⟨by omega, by omega⟩ ⟨rfl, rfl⟩
      · by_cases c2 : mh < M 2 (fr + p) - M 5 (mv * 8 + p) + M 6 (mv * 8 + p)
        · have e : gi (gAL M 2 5 6 fr mv mh) = 0 := gi_neg (fun z => by have := (z p h0 (by omega)).2; omega)
          rw [e]
          exact allows1_3_000 (by omega) ⟨by omega, by omega⟩ ⟨by omega, by omega⟩ ⟨by omega, by omega⟩ (by omega) ⟨by omega, by omega⟩ c2 ⟨by omega, by omega⟩ hh ⟨rfl, rfl⟩
        · refine allows1_3_001 (by omega) ⟨by omega, by omega⟩ ⟨by omega, by omega⟩ ⟨by omega, by omega⟩ (by omega) ⟨by omega, by omega⟩ (by omega) ⟨by omega, by omega⟩ hh (ih (p + 1) (by omega) (by omega) ?_)
          intro q q1 q2
          by_cases e : q = p
          · rw [e]; exact ⟨by omega, by omega⟩
          · exact hq q q1 (by omega)
  exact allows1_e (loop 8 0 (by omega) (by omega) (fun q h1 h2 => by omega))
theorem X_step1 {fr mv : Int} (hf : 0 ≤ fr ∧ fr + 8 ≤ 8) (hf0 : (2 : Nat) = 2 → fr = 0) (hm : 0 ≤ mv ∧ mv < 8) (hr : ∀ p, 0 ≤ p → p < 8 → gx_R (M 2 (fr + p))) :
    ∃ M', gx_X l κ gx_sh z_mt zX3_step d [gR 2, gR 3, gI fr, gI mv, gR 3] M (gx_eq none M') ∧ (∀ c, c ≠ 2 → M' c = M c) ∧ ∀ p, 0 ≤ p → p < 8 → M' 2 p = if M 2 (fr + p) = 1073741824 then 1073741824 else M 2 (fr + p) - M 5 (mv * 8 + p) + M 6 (mv * 8 + p) := by
  have loop : ∀ (k : Nat) (p : Int) (M1 : gx_M), p + k = 8 → 0 ≤ p → (∀ c, c ≠ 2 → M1 c = M c) → (∀ q, 0 ≤ q → q < p → M1 2 q = if M 2 (fr + q) = 1073741824 then 1073741824 else M 2 (fr + q) - M 5 (mv * 8 + q) + M 6 (mv * 8 + q)) → (∀ q, p ≤ q → M1 2 q = M 2 q) →
      ∃ M', gx_G l κ gx_sh z_mt zX3_step d (3, [gR 2, gR 3, gI fr, gI mv, gR 3, gI p, gU, gU], [], M1) (gx_eq none M') ∧ (∀ c, c ≠ 2 → M' c = M c) ∧ ∀ p, 0 ≤ p → p < 8 → M' 2 p = if M 2 (fr + p) = 1073741824 then 1073741824 else M 2 (fr + p) - M 5 (mv * 8 + p) + M 6 (mv * 8 + p) := by
    intro k
    induction k with
    | zero =>
      intro p M1 hp h0 hc hq hq2
      exact ⟨M1, step1_3_1 (by omega) ⟨by omega, by omega⟩ ⟨rfl, rfl⟩, hc, fun q h1 h2 => hq q h1 (by omega)⟩
    | succ k ih =>
      intro p M1 hp h0 hc hq hq2
      have h1 := hr p h0 (by omega)
      have e1 : M1 2 (fr + p) = M 2 (fr + p) := by rw [hf0 rfl, Int.zero_add]; exact hq2 p (by omega)
      have e2 : M1 5 = M 5 := hc 5 (by decide)
      have e3 : M1 6 = M 6 := hc 6 (by decide)
      have next : ∀ v, v = (if M 2 (fr + p) = 1073741824 then 1073741824 else M 2 (fr + p) - M 5 (mv * 8 + p) + M 6 (mv * 8 + p)) → ∃ M', gx_G l κ gx_sh z_mt zX3_step d (3, [gR 2, gR 3, gI fr, gI mv, gR 3, gI (p + 1), gU, gU], [], gx_up M1 2 p v) (gx_eq none M') ∧ (∀ c, c ≠ 2 → M' c = M c) ∧ ∀ p, 0 ≤ p → p < 8 → M' 2 p = if M 2 (fr + p) = 1073741824 then 1073741824 else M 2 (fr + p) - M 5 (mv * 8 + p) + M 6 (mv * 8 + p) := by
        intro v hv
        refine ih (p + 1) (gx_up M1 2 p v) (by omega) (by omega) (fun c hcc => by rw [gx_up_ne hcc]; exact hc c hcc) (fun q q1 q2 => ?_) (fun q q1 => ?_)
        · rw [gx_up_at]
          by_cases e : q = p
          · rw [if_pos e, hv, e]
          · rw [if_neg e]; exact hq q q1 (by omega)
        · rw [gx_up_at, if_neg (by omega)]; exact hq2 q (by omega)
      by_cases c1 : M 2 (fr + p) = 1073741824
      · obtain ⟨M', k1, k2, k3⟩ := next 1073741824 (by rw [if_pos c1])
        exact ⟨M', step1_3_00 (by omega) ⟨by omega, by omega⟩ ⟨by omega, by omega⟩ (by rw [e1]; exact c1) (by rw [e1]; exact h1) (step1_61 ⟨by omega, by omega⟩ k1), k2, k3⟩
      · obtain ⟨M', k1, k2, k3⟩ := next (M 2 (fr + p) - M 5 (mv * 8 + p) + M 6 (mv * 8 + p)) (by rw [if_neg c1])
        refine ⟨M', step1_3_01 (by omega) ⟨by omega, by omega⟩ ⟨by omega, by omega⟩ (by rw [e1]; exact c1) (by rw [e1]; exact h1) ⟨by omega, by omega⟩ (step1_61 ⟨by omega, by omega⟩ ?_), k2, k3⟩
        rw [e1, e2, e3]
        exact k1
  obtain ⟨M', k1, k2, k3⟩ := loop 8 0 M (by omega) (by omega) (fun _ _ => rfl) (fun q h1 h2 => by omega) (fun _ _ => rfl)
  exact ⟨M', step1_e k1, k2, k3⟩

theorem X_allows81 {fr mv mh : Int} (hf : 0 ≤ fr ∧ fr + 8 ≤ 2400) (hm : 0 ≤ mv ∧ mv < 8) (hh : gx_R mh) (hr : ∀ p, 0 ≤ p → p < 8 → 0 ≤ M 87 (fr + p) ∧ M 87 (fr + p) ≤ 1073741824) (ht : gAr M 85 86) :
    gx_X l κ gx_sh z_mt zX3_allows d [gR 82, gR 88, gI fr, gI mv, gI mh] M (gx_eq (some (gI (gi (gAL M 87 85 86 fr mv mh)))) M) := by
  have loop : ∀ (k : Nat) (p : Int), p + k = 8 → 0 ≤ p → (∀ q, 0 ≤ q → q < p → 0 ≤ M 87 (fr + q) - M 85 (mv * 8 + q) ∧ M 87 (fr + q) - M 85 (mv * 8 + q) + M 86 (mv * 8 + q) ≤ mh) →
      gx_G l κ gx_sh z_mt zX3_allows d (3, [gR 82, gR 88, gI fr, gI mv, gI mh, gI p, gU], [], M) (gx_eq (some (gI (gi (gAL M 87 85 86 fr mv mh)))) M) := by
    intro k
    induction k with
    | zero =>
      intro p hp h0 hq
      have e : gi (gAL M 87 85 86 fr mv mh) = 1 := gi_pos (fun q h1 h2 => hq q h1 (by omega))
      rw [e]
      exact allows81_3_1 (by omega) ⟨by omega, by omega⟩ ⟨rfl, rfl⟩
    | succ k ih =>
      intro p hp h0 hq
      have h1 := hr p h0 (by omega)
      obtain ⟨h2, h3⟩ := ht (mv * 8 + p) (by omega) (by omega)
      by_cases c1 : M 87 (fr + p) - M 85 (mv * 8 + p) < 0
      · have e : gi (gAL M 87 85 86 fr mv mh) = 0 := gi_neg (fun z => by have := (z p h0 (by omega)).1; omega)
        rw [e]
        exact allows81_3_01 (by omega) ⟨by omega, by omega⟩ ⟨by omega, by omega⟩ ⟨by omega, by omega⟩ c1 ⟨by omega, by omega⟩ ⟨rfl, rfl⟩
      · by_cases c2 : mh < M 87 (fr + p) - M 85 (mv * 8 + p) + M 86 (mv * 8 + p)
        · have e : gi (gAL M 87 85 86 fr mv mh) = 0 := gi_neg (fun z => by have := (z p h0 (by omega)).2; omega)
          rw [e]
          exact allows81_3_000 (by omega) ⟨by omega, by omega⟩ ⟨by omega, by omega⟩ ⟨by omega, by omega⟩ (by omega) ⟨by omega, by omega⟩ c2 ⟨by omega, by omega⟩ hh ⟨rfl, rfl⟩
        · refine allows81_3_001 (by omega) ⟨by omega, by omega⟩ ⟨by omega, by omega⟩ ⟨by omega, by omega⟩ (by omega) ⟨by omega, by omega⟩ (by omega) ⟨by omega, by omega⟩ hh (ih (p + 1) (by omega) (by omega) ?_)
          intro q q1 q2
          by_cases e : q = p
          · rw [e]; exact ⟨by omega, by omega⟩
          · exact hq q q1 (by omega)
  exact allows81_e (loop 8 0 (by omega) (by omega) (fun q h1 h2 => by omega))
theorem X_step81 {fr mv : Int} (hf : 0 ≤ fr ∧ fr + 8 ≤ 2400) (hf0 : (87 : Nat) = 88 → fr = 0) (hm : 0 ≤ mv ∧ mv < 8) (hr : ∀ p, 0 ≤ p → p < 8 → gx_R (M 87 (fr + p))) :
    ∃ M', gx_X l κ gx_sh z_mt zX3_step d [gR 82, gR 88, gI fr, gI mv, gR 89] M (gx_eq none M') ∧ (∀ c, c ≠ 88 → M' c = M c) ∧ ∀ p, 0 ≤ p → p < 8 → M' 88 p = if M 87 (fr + p) = 1073741824 then 1073741824 else M 87 (fr + p) - M 85 (mv * 8 + p) + M 86 (mv * 8 + p) := by
  have loop : ∀ (k : Nat) (p : Int) (M1 : gx_M), p + k = 8 → 0 ≤ p → (∀ c, c ≠ 88 → M1 c = M c) → (∀ q, 0 ≤ q → q < p → M1 88 q = if M 87 (fr + q) = 1073741824 then 1073741824 else M 87 (fr + q) - M 85 (mv * 8 + q) + M 86 (mv * 8 + q)) → (∀ q, p ≤ q → M1 88 q = M 88 q) →
      ∃ M', gx_G l κ gx_sh z_mt zX3_step d (3, [gR 82, gR 88, gI fr, gI mv, gR 89, gI p, gU, gU], [], M1) (gx_eq none M') ∧ (∀ c, c ≠ 88 → M' c = M c) ∧ ∀ p, 0 ≤ p → p < 8 → M' 88 p = if M 87 (fr + p) = 1073741824 then 1073741824 else M 87 (fr + p) - M 85 (mv * 8 + p) + M 86 (mv * 8 + p) := by
    intro k
    induction k with
    | zero =>
      intro p M1 hp h0 hc hq hq2
      exact ⟨M1, step81_3_1 (by omega) ⟨by omega, by omega⟩ ⟨rfl, rfl⟩, hc, fun q h1 h2 => hq q h1 (by omega)⟩
    | succ k ih =>
      intro p M1 hp h0 hc hq hq2
      have h1 := hr p h0 (by omega)
      have e1 : M1 87 (fr + p) = M 87 (fr + p) := by rw [hc 87 (by decide)]
      have e2 : M1 85 = M 85 := hc 85 (by decide)
      have e3 : M1 86 = M 86 := hc 86 (by decide)
      have next : ∀ v, v = (if M 87 (fr + p) = 1073741824 then 1073741824 else M 87 (fr + p) - M 85 (mv * 8 + p) + M 86 (mv * 8 + p)) → ∃ M', gx_G l κ gx_sh z_mt zX3_step d (3, [gR 82, gR 88, gI fr, gI mv, gR 89, gI (p + 1), gU, gU], [], gx_up M1 88 p v) (gx_eq none M') ∧ (∀ c, c ≠ 88 → M' c = M c) ∧ ∀ p, 0 ≤ p → p < 8 → M' 88 p = if M 87 (fr + p) = 1073741824 then 1073741824 else M 87 (fr + p) - M 85 (mv * 8 + p) + M 86 (mv * 8 + p) := by
        intro v hv
        refine ih (p + 1) (gx_up M1 88 p v) (by omega) (by omega) (fun c hcc => by rw [gx_up_ne hcc]; exact hc c hcc) (fun q q1 q2 => ?_) (fun q q1 => ?_)
        · rw [gx_up_at]
          by_cases e : q = p
          · rw [if_pos e, hv, e]
          · rw [if_neg e]; exact hq q q1 (by omega)
        · rw [gx_up_at, if_neg (by omega)]; exact hq2 q (by omega)
      by_cases c1 : M 87 (fr + p) = 1073741824
      · obtain ⟨M', k1, k2, k3⟩ := next 1073741824 (by rw [if_pos c1])
        exact ⟨M', step81_3_00 (by omega) ⟨by omega, by omega⟩ ⟨by omega, by omega⟩ (by rw [e1]; exact c1) (by rw [e1]; exact h1) (step81_61 ⟨by omega, by omega⟩ k1), k2, k3⟩
      · obtain ⟨M', k1, k2, k3⟩ := next (M 87 (fr + p) - M 85 (mv * 8 + p) + M 86 (mv * 8 + p)) (by rw [if_neg c1])
        refine ⟨M', step81_3_01 (by omega) ⟨by omega, by omega⟩ ⟨by omega, by omega⟩ (by rw [e1]; exact c1) (by rw [e1]; exact h1) ⟨by omega, by omega⟩ (step81_61 ⟨by omega, by omega⟩ ?_), k2, k3⟩
        rw [e1, e2, e3]
        exact k1
  obtain ⟨M', k1, k2, k3⟩ := loop 8 0 M (by omega) (by omega) (fun _ _ => rfl) (fun q h1 h2 => by omega) (fun _ _ => rfl)
  exact ⟨M', step81_e k1, k2, k3⟩

theorem X_allows93 {fr mv mh : Int} (hf : 0 ≤ fr ∧ fr + 8 ≤ 2400) (hm : 0 ≤ mv ∧ mv < 8) (hh : gx_R mh) (hr : ∀ p, 0 ≤ p → p < 8 → 0 ≤ M 99 (fr + p) ∧ M 99 (fr + p) ≤ 1073741824) (ht : gAr M 97 98) :
    gx_X l κ gx_sh z_mt zX3_allows d [gR 94, gR 100, gI fr, gI mv, gI mh] M (gx_eq (some (gI (gi (gAL M 99 97 98 fr mv mh)))) M) := by
  have loop : ∀ (k : Nat) (p : Int), p + k = 8 → 0 ≤ p → (∀ q, 0 ≤ q → q < p → 0 ≤ M 99 (fr + q) - M 97 (mv * 8 + q) ∧ M 99 (fr + q) - M 97 (mv * 8 + q) + M 98 (mv * 8 + q) ≤ mh) →
      gx_G l κ gx_sh z_mt zX3_allows d (3, [gR 94, gR 100, gI fr, gI mv, gI mh, gI p, gU], [], M) (gx_eq (some (gI (gi (gAL M 99 97 98 fr mv mh)))) M) := by
    intro k
    induction k with
    | zero =>
      intro p hp h0 hq
      have e : gi (gAL M 99 97 98 fr mv mh) = 1 := gi_pos (fun q h1 h2 => hq q h1 (by omega))
      rw [e]
      exact allows93_3_1 (by omega) ⟨by omega, by omega⟩ ⟨rfl, rfl⟩
    | succ k ih =>
      intro p hp h0 hq
      have h1 := hr p h0 (by omega)
      obtain ⟨h2, h3⟩ := ht (mv * 8 + p) (by omega) (by omega)
      by_cases c1 : M 99 (fr + p) - M 97 (mv * 8 + p) < 0
      · have e : gi (gAL M 99 97 98 fr mv mh) = 0 := gi_neg (fun z => by have := (z p h0 (by omega)).1; omega)
        rw [e]
        exact allows93_3_01 (by omega) ⟨by omega, by omega⟩ ⟨by omega, by omega⟩ ⟨by omega, by omega⟩ c1 ⟨by omega, by omega⟩ ⟨rfl, rfl⟩
      · by_cases c2 : mh < M 99 (fr + p) - M 97 (mv * 8 + p) + M 98 (mv * 8 + p)
        · have e : gi (gAL M 99 97 98 fr mv mh) = 0 := gi_neg (fun z => by have := (z p h0 (by omega)).2; omega)
          rw [e]
          exact allows93_3_000 (by omega) ⟨by omega, by omega⟩ ⟨by omega, by omega⟩ ⟨by omega, by omega⟩ (by omega) ⟨by omega, by omega⟩ c2 ⟨by omega, by omega⟩ hh ⟨rfl, rfl⟩
        · refine allows93_3_001 (by omega) ⟨by omega, by omega⟩ ⟨by omega, by omega⟩ ⟨by omega, by omega⟩ (by omega) ⟨by omega, by omega⟩ (by omega) ⟨by omega, by omega⟩ hh (ih (p + 1) (by omega) (by omega) ?_)
          intro q q1 q2
          by_cases e : q = p
          · rw [e]; exact ⟨by omega, by omega⟩
          · exact hq q q1 (by omega)
  exact allows93_e (loop 8 0 (by omega) (by omega) (fun q h1 h2 => by omega))
theorem X_step93 {fr mv : Int} (hf : 0 ≤ fr ∧ fr + 8 ≤ 2400) (hf0 : (99 : Nat) = 100 → fr = 0) (hm : 0 ≤ mv ∧ mv < 8) (hr : ∀ p, 0 ≤ p → p < 8 → gx_R (M 99 (fr + p))) :
    ∃ M', gx_X l κ gx_sh z_mt zX3_step d [gR 94, gR 100, gI fr, gI mv, gR 101] M (gx_eq none M') ∧ (∀ c, c ≠ 100 → M' c = M c) ∧ ∀ p, 0 ≤ p → p < 8 → M' 100 p = if M 99 (fr + p) = 1073741824 then 1073741824 else M 99 (fr + p) - M 97 (mv * 8 + p) + M 98 (mv * 8 + p) := by
  have loop : ∀ (k : Nat) (p : Int) (M1 : gx_M), p + k = 8 → 0 ≤ p → (∀ c, c ≠ 100 → M1 c = M c) → (∀ q, 0 ≤ q → q < p → M1 100 q = if M 99 (fr + q) = 1073741824 then 1073741824 else M 99 (fr + q) - M 97 (mv * 8 + q) + M 98 (mv * 8 + q)) → (∀ q, p ≤ q → M1 100 q = M 100 q) →
      ∃ M', gx_G l κ gx_sh z_mt zX3_step d (3, [gR 94, gR 100, gI fr, gI mv, gR 101, gI p, gU, gU], [], M1) (gx_eq none M') ∧ (∀ c, c ≠ 100 → M' c = M c) ∧ ∀ p, 0 ≤ p → p < 8 → M' 100 p = if M 99 (fr + p) = 1073741824 then 1073741824 else M 99 (fr + p) - M 97 (mv * 8 + p) + M 98 (mv * 8 + p) := by
    intro k
    induction k with
    | zero =>
      intro p M1 hp h0 hc hq hq2
      exact ⟨M1, step93_3_1 (by omega) ⟨by omega, by omega⟩ ⟨rfl, rfl⟩, hc, fun q h1 h2 => hq q h1 (by omega)⟩
    | succ k ih =>
      intro p M1 hp h0 hc hq hq2
      have h1 := hr p h0 (by omega)
      have e1 : M1 99 (fr + p) = M 99 (fr + p) := by rw [hc 99 (by decide)]
      have e2 : M1 97 = M 97 := hc 97 (by decide)
      have e3 : M1 98 = M 98 := hc 98 (by decide)
      have next : ∀ v, v = (if M 99 (fr + p) = 1073741824 then 1073741824 else M 99 (fr + p) - M 97 (mv * 8 + p) + M 98 (mv * 8 + p)) → ∃ M', gx_G l κ gx_sh z_mt zX3_step d (3, [gR 94, gR 100, gI fr, gI mv, gR 101, gI (p + 1), gU, gU], [], gx_up M1 100 p v) (gx_eq none M') ∧ (∀ c, c ≠ 100 → M' c = M c) ∧ ∀ p, 0 ≤ p → p < 8 → M' 100 p = if M 99 (fr + p) = 1073741824 then 1073741824 else M 99 (fr + p) - M 97 (mv * 8 + p) + M 98 (mv * 8 + p) := by
        intro v hv
        refine ih (p + 1) (gx_up M1 100 p v) (by omega) (by omega) (fun c hcc => by rw [gx_up_ne hcc]; exact hc c hcc) (fun q q1 q2 => ?_) (fun q q1 => ?_)
        · rw [gx_up_at]
          by_cases e : q = p
          · rw [if_pos e, hv, e]
          · rw [if_neg e]; exact hq q q1 (by omega)
        · rw [gx_up_at, if_neg (by omega)]; exact hq2 q (by omega)
      by_cases c1 : M 99 (fr + p) = 1073741824
      · obtain ⟨M', k1, k2, k3⟩ := next 1073741824 (by rw [if_pos c1])
        exact ⟨M', step93_3_00 (by omega) ⟨by omega, by omega⟩ ⟨by omega, by omega⟩ (by rw [e1]; exact c1) (by rw [e1]; exact h1) (step93_61 ⟨by omega, by omega⟩ k1), k2, k3⟩
      · obtain ⟨M', k1, k2, k3⟩ := next (M 99 (fr + p) - M 97 (mv * 8 + p) + M 98 (mv * 8 + p)) (by rw [if_neg c1])
        refine ⟨M', step93_3_01 (by omega) ⟨by omega, by omega⟩ ⟨by omega, by omega⟩ (by rw [e1]; exact c1) (by rw [e1]; exact h1) ⟨by omega, by omega⟩ (step93_61 ⟨by omega, by omega⟩ ?_), k2, k3⟩
        rw [e1, e2, e3]
        exact k1
  obtain ⟨M', k1, k2, k3⟩ := loop 8 0 M (by omega) (by omega) (fun _ _ => rfl) (fun q h1 h2 => by omega) (fun _ _ => rfl)
  exact ⟨M', step93_e k1, k2, k3⟩

theorem X_copy9 : ∃ M', gx_X l κ gx_sh z_mt zX3_copy d [gR 10, gR 2] M (gx_eq none M') ∧ (∀ c, (c < 9 ∨ 15 ≤ c) → M' c = M c) ∧ (M' 9 0 = M 1 0 ∧ M' 9 1 = M 1 1) ∧ (∀ p, 0 ≤ p → p < 8 → M' 10 p = M 2 p) ∧ ∀ i, 0 ≤ i → i < 64 → M' 13 i = M 5 i ∧ M' 14 i = M 6 i := by
  refine ⟨_, copy9_e ⟨rfl, rfl⟩, fun c hc => ?_, ⟨rfl, rfl⟩, fun p h1 h2 => ?_, fun i h1 h2 => ⟨?_, ?_⟩⟩
  · rw [gx_cp_ne (by omega), gx_cp_ne (by omega), gx_cp_ne (by omega), gx_cp_ne (by omega), gx_cp_ne (by omega), gx_up_ne (by omega), gx_up_ne (by omega)]
  · rw [gx_cp_ne (by decide), gx_cp_ne (by decide), gx_cp_ne (by decide), gx_cp_ne (by decide), gx_cp_in ⟨h1, by omega⟩, gx_up_ne (by decide), gx_up_ne (by decide)]
    congr 1
    omega
  · rw [gx_cp_ne (by decide), gx_cp_in ⟨h1, by omega⟩, gx_cp_ne (by decide), gx_cp_ne (by decide), gx_cp_ne (by decide), gx_up_ne (by decide), gx_up_ne (by decide)]
    congr 1
    omega
  · rw [gx_cp_in ⟨h1, by omega⟩, gx_cp_ne (by decide), gx_cp_ne (by decide), gx_cp_ne (by decide), gx_cp_ne (by decide), gx_up_ne (by decide), gx_up_ne (by decide)]
    congr 1
    omega

theorem X_copy15 : ∃ M', gx_X l κ gx_sh z_mt zX3_copy d [gR 16, gR 2] M (gx_eq none M') ∧ (∀ c, (c < 15 ∨ 21 ≤ c) → M' c = M c) ∧ (M' 15 0 = M 1 0 ∧ M' 15 1 = M 1 1) ∧ (∀ p, 0 ≤ p → p < 8 → M' 16 p = M 2 p) ∧ ∀ i, 0 ≤ i → i < 64 → M' 19 i = M 5 i ∧ M' 20 i = M 6 i := by
  refine ⟨_, copy15_e ⟨rfl, rfl⟩, fun c hc => ?_, ⟨rfl, rfl⟩, fun p h1 h2 => ?_, fun i h1 h2 => ⟨?_, ?_⟩⟩
  · rw [gx_cp_ne (by omega), gx_cp_ne (by omega), gx_cp_ne (by omega), gx_cp_ne (by omega), gx_cp_ne (by omega), gx_up_ne (by omega), gx_up_ne (by omega)]
  · rw [gx_cp_ne (by decide), gx_cp_ne (by decide), gx_cp_ne (by decide), gx_cp_ne (by decide), gx_cp_in ⟨h1, by omega⟩, gx_up_ne (by decide), gx_up_ne (by decide)]
    congr 1
    omega
  · rw [gx_cp_ne (by decide), gx_cp_in ⟨h1, by omega⟩, gx_cp_ne (by decide), gx_cp_ne (by decide), gx_cp_ne (by decide), gx_up_ne (by decide), gx_up_ne (by decide)]
    congr 1
    omega
  · rw [gx_cp_in ⟨h1, by omega⟩, gx_cp_ne (by decide), gx_cp_ne (by decide), gx_cp_ne (by decide), gx_cp_ne (by decide), gx_up_ne (by decide), gx_up_ne (by decide)]
    congr 1
    omega

theorem X_copy21 : ∃ M', gx_X l κ gx_sh z_mt zX3_copy d [gR 22, gR 2] M (gx_eq none M') ∧ (∀ c, (c < 21 ∨ 27 ≤ c) → M' c = M c) ∧ (M' 21 0 = M 1 0 ∧ M' 21 1 = M 1 1) ∧ (∀ p, 0 ≤ p → p < 8 → M' 22 p = M 2 p) ∧ ∀ i, 0 ≤ i → i < 64 → M' 25 i = M 5 i ∧ M' 26 i = M 6 i := by
  refine ⟨_, copy21_e ⟨rfl, rfl⟩, fun c hc => ?_, ⟨rfl, rfl⟩, fun p h1 h2 => ?_, fun i h1 h2 => ⟨?_, ?_⟩⟩
  · rw [gx_cp_ne (by omega), gx_cp_ne (by omega), gx_cp_ne (by omega), gx_cp_ne (by omega), gx_cp_ne (by omega), gx_up_ne (by omega), gx_up_ne (by omega)]
  · rw [gx_cp_ne (by decide), gx_cp_ne (by decide), gx_cp_ne (by decide), gx_cp_ne (by decide), gx_cp_in ⟨h1, by omega⟩, gx_up_ne (by decide), gx_up_ne (by decide)]
    congr 1
    omega
  · rw [gx_cp_ne (by decide), gx_cp_in ⟨h1, by omega⟩, gx_cp_ne (by decide), gx_cp_ne (by decide), gx_cp_ne (by decide), gx_up_ne (by decide), gx_up_ne (by decide)]
    congr 1
    omega
  · rw [gx_cp_in ⟨h1, by omega⟩, gx_cp_ne (by decide), gx_cp_ne (by decide), gx_cp_ne (by decide), gx_cp_ne (by decide), gx_up_ne (by decide), gx_up_ne (by decide)]
    congr 1
    omega

theorem X_copy27 : ∃ M', gx_X l κ gx_sh z_mt zX3_copy d [gR 28, gR 2] M (gx_eq none M') ∧ (∀ c, (c < 27 ∨ 33 ≤ c) → M' c = M c) ∧ (M' 27 0 = M 1 0 ∧ M' 27 1 = M 1 1) ∧ (∀ p, 0 ≤ p → p < 8 → M' 28 p = M 2 p) ∧ ∀ i, 0 ≤ i → i < 64 → M' 31 i = M 5 i ∧ M' 32 i = M 6 i := by
  refine ⟨_, copy27_e ⟨rfl, rfl⟩, fun c hc => ?_, ⟨rfl, rfl⟩, fun p h1 h2 => ?_, fun i h1 h2 => ⟨?_, ?_⟩⟩
  · rw [gx_cp_ne (by omega), gx_cp_ne (by omega), gx_cp_ne (by omega), gx_cp_ne (by omega), gx_cp_ne (by omega), gx_up_ne (by omega), gx_up_ne (by omega)]
  · rw [gx_cp_ne (by decide), gx_cp_ne (by decide), gx_cp_ne (by decide), gx_cp_ne (by decide), gx_cp_in ⟨h1, by omega⟩, gx_up_ne (by decide), gx_up_ne (by decide)]
    congr 1
    omega
  · rw [gx_cp_ne (by decide), gx_cp_in ⟨h1, by omega⟩, gx_cp_ne (by decide), gx_cp_ne (by decide), gx_cp_ne (by decide), gx_up_ne (by decide), gx_up_ne (by decide)]
    congr 1
    omega
  · rw [gx_cp_in ⟨h1, by omega⟩, gx_cp_ne (by decide), gx_cp_ne (by decide), gx_cp_ne (by decide), gx_cp_ne (by decide), gx_up_ne (by decide), gx_up_ne (by decide)]
    congr 1
    omega

theorem X_copy33 : ∃ M', gx_X l κ gx_sh z_mt zX3_copy d [gR 34, gR 2] M (gx_eq none M') ∧ (∀ c, (c < 33 ∨ 39 ≤ c) → M' c = M c) ∧ (M' 33 0 = M 1 0 ∧ M' 33 1 = M 1 1) ∧ (∀ p, 0 ≤ p → p < 8 → M' 34 p = M 2 p) ∧ ∀ i, 0 ≤ i → i < 64 → M' 37 i = M 5 i ∧ M' 38 i = M 6 i := by
  refine ⟨_, copy33_e ⟨rfl, rfl⟩, fun c hc => ?_, ⟨rfl, rfl⟩, fun p h1 h2 => ?_, fun i h1 h2 => ⟨?_, ?_⟩⟩
  · rw [gx_cp_ne (by omega), gx_cp_ne (by omega), gx_cp_ne (by omega), gx_cp_ne (by omega), gx_cp_ne (by omega), gx_up_ne (by omega), gx_up_ne (by omega)]
  · rw [gx_cp_ne (by decide), gx_cp_ne (by decide), gx_cp_ne (by decide), gx_cp_ne (by decide), gx_cp_in ⟨h1, by omega⟩, gx_up_ne (by decide), gx_up_ne (by decide)]
    congr 1
    omega
  · rw [gx_cp_ne (by decide), gx_cp_in ⟨h1, by omega⟩, gx_cp_ne (by decide), gx_cp_ne (by decide), gx_cp_ne (by decide), gx_up_ne (by decide), gx_up_ne (by decide)]
    congr 1
    omega
  · rw [gx_cp_in ⟨h1, by omega⟩, gx_cp_ne (by decide), gx_cp_ne (by decide), gx_cp_ne (by decide), gx_cp_ne (by decide), gx_up_ne (by decide), gx_up_ne (by decide)]
    congr 1
    omega

theorem X_copy39 : ∃ M', gx_X l κ gx_sh z_mt zX3_copy d [gR 40, gR 2] M (gx_eq none M') ∧ (∀ c, (c < 39 ∨ 45 ≤ c) → M' c = M c) ∧ (M' 39 0 = M 1 0 ∧ M' 39 1 = M 1 1) ∧ (∀ p, 0 ≤ p → p < 8 → M' 40 p = M 2 p) ∧ ∀ i, 0 ≤ i → i < 64 → M' 43 i = M 5 i ∧ M' 44 i = M 6 i := by
  refine ⟨_, copy39_e ⟨rfl, rfl⟩, fun c hc => ?_, ⟨rfl, rfl⟩, fun p h1 h2 => ?_, fun i h1 h2 => ⟨?_, ?_⟩⟩
  · rw [gx_cp_ne (by omega), gx_cp_ne (by omega), gx_cp_ne (by omega), gx_cp_ne (by omega), gx_cp_ne (by omega), gx_up_ne (by omega), gx_up_ne (by omega)]
  · rw [gx_cp_ne (by decide), gx_cp_ne (by decide), gx_cp_ne (by decide), gx_cp_ne (by decide), gx_cp_in ⟨h1, by omega⟩, gx_up_ne (by decide), gx_up_ne (by decide)]
    congr 1
    omega
  · rw [gx_cp_ne (by decide), gx_cp_in ⟨h1, by omega⟩, gx_cp_ne (by decide), gx_cp_ne (by decide), gx_cp_ne (by decide), gx_up_ne (by decide), gx_up_ne (by decide)]
    congr 1
    omega
  · rw [gx_cp_in ⟨h1, by omega⟩, gx_cp_ne (by decide), gx_cp_ne (by decide), gx_cp_ne (by decide), gx_cp_ne (by decide), gx_up_ne (by decide), gx_up_ne (by decide)]
    congr 1
    omega

theorem X_copy45 : ∃ M', gx_X l κ gx_sh z_mt zX3_copy d [gR 46, gR 2] M (gx_eq none M') ∧ (∀ c, (c < 45 ∨ 51 ≤ c) → M' c = M c) ∧ (M' 45 0 = M 1 0 ∧ M' 45 1 = M 1 1) ∧ (∀ p, 0 ≤ p → p < 8 → M' 46 p = M 2 p) ∧ ∀ i, 0 ≤ i → i < 64 → M' 49 i = M 5 i ∧ M' 50 i = M 6 i := by
  refine ⟨_, copy45_e ⟨rfl, rfl⟩, fun c hc => ?_, ⟨rfl, rfl⟩, fun p h1 h2 => ?_, fun i h1 h2 => ⟨?_, ?_⟩⟩
  · rw [gx_cp_ne (by omega), gx_cp_ne (by omega), gx_cp_ne (by omega), gx_cp_ne (by omega), gx_cp_ne (by omega), gx_up_ne (by omega), gx_up_ne (by omega)]
  · rw [gx_cp_ne (by decide), gx_cp_ne (by decide), gx_cp_ne (by decide), gx_cp_ne (by decide), gx_cp_in ⟨h1, by omega⟩, gx_up_ne (by decide), gx_up_ne (by decide)]
    congr 1
    omega
  · rw [gx_cp_ne (by decide), gx_cp_in ⟨h1, by omega⟩, gx_cp_ne (by decide), gx_cp_ne (by decide), gx_cp_ne (by decide), gx_up_ne (by decide), gx_up_ne (by decide)]
    congr 1
    omega
  · rw [gx_cp_in ⟨h1, by omega⟩, gx_cp_ne (by decide), gx_cp_ne (by decide), gx_cp_ne (by decide), gx_cp_ne (by decide), gx_up_ne (by decide), gx_up_ne (by decide)]
    congr 1
    omega

theorem X_copy68 : ∃ M', gx_X l κ gx_sh z_mt zX3_copy d [gR 69, gR 2] M (gx_eq none M') ∧ (∀ c, (c < 68 ∨ 74 ≤ c) → M' c = M c) ∧ (M' 68 0 = M 1 0 ∧ M' 68 1 = M 1 1) ∧ (∀ p, 0 ≤ p → p < 8 → M' 69 p = M 2 p) ∧ ∀ i, 0 ≤ i → i < 64 → M' 72 i = M 5 i ∧ M' 73 i = M 6 i := by
  refine ⟨_, copy68_e ⟨rfl, rfl⟩, fun c hc => ?_, ⟨rfl, rfl⟩, fun p h1 h2 => ?_, fun i h1 h2 => ⟨?_, ?_⟩⟩
  · rw [gx_cp_ne (by omega), gx_cp_ne (by omega), gx_cp_ne (by omega), gx_cp_ne (by omega), gx_cp_ne (by omega), gx_up_ne (by omega), gx_up_ne (by omega)]
  · rw [gx_cp_ne (by decide), gx_cp_ne (by decide), gx_cp_ne (by decide), gx_cp_ne (by decide), gx_cp_in ⟨h1, by omega⟩, gx_up_ne (by decide), gx_up_ne (by decide)]
    congr 1
    omega
  · rw [gx_cp_ne (by decide), gx_cp_in ⟨h1, by omega⟩, gx_cp_ne (by decide), gx_cp_ne (by decide), gx_cp_ne (by decide), gx_up_ne (by decide), gx_up_ne (by decide)]
    congr 1
    omega
  · rw [gx_cp_in ⟨h1, by omega⟩, gx_cp_ne (by decide), gx_cp_ne (by decide), gx_cp_ne (by decide), gx_cp_ne (by decide), gx_up_ne (by decide), gx_up_ne (by decide)]
    congr 1
    omega

theorem X_copy81 : ∃ M', gx_X l κ gx_sh z_mt zX3_copy d [gR 82, gR 2] M (gx_eq none M') ∧ (∀ c, (c < 81 ∨ 87 ≤ c) → M' c = M c) ∧ (M' 81 0 = M 1 0 ∧ M' 81 1 = M 1 1) ∧ (∀ p, 0 ≤ p → p < 8 → M' 82 p = M 2 p) ∧ ∀ i, 0 ≤ i → i < 64 → M' 85 i = M 5 i ∧ M' 86 i = M 6 i := by
  refine ⟨_, copy81_e ⟨rfl, rfl⟩, fun c hc => ?_, ⟨rfl, rfl⟩, fun p h1 h2 => ?_, fun i h1 h2 => ⟨?_, ?_⟩⟩
  · rw [gx_cp_ne (by omega), gx_cp_ne (by omega), gx_cp_ne (by omega), gx_cp_ne (by omega), gx_cp_ne (by omega), gx_up_ne (by omega), gx_up_ne (by omega)]
  · rw [gx_cp_ne (by decide), gx_cp_ne (by decide), gx_cp_ne (by decide), gx_cp_ne (by decide), gx_cp_in ⟨h1, by omega⟩, gx_up_ne (by decide), gx_up_ne (by decide)]
    congr 1
    omega
  · rw [gx_cp_ne (by decide), gx_cp_in ⟨h1, by omega⟩, gx_cp_ne (by decide), gx_cp_ne (by decide), gx_cp_ne (by decide), gx_up_ne (by decide), gx_up_ne (by decide)]
    congr 1
    omega
  · rw [gx_cp_in ⟨h1, by omega⟩, gx_cp_ne (by decide), gx_cp_ne (by decide), gx_cp_ne (by decide), gx_cp_ne (by decide), gx_up_ne (by decide), gx_up_ne (by decide)]
    congr 1
    omega

theorem X_copy93 : ∃ M', gx_X l κ gx_sh z_mt zX3_copy d [gR 94, gR 2] M (gx_eq none M') ∧ (∀ c, (c < 93 ∨ 99 ≤ c) → M' c = M c) ∧ (M' 93 0 = M 1 0 ∧ M' 93 1 = M 1 1) ∧ (∀ p, 0 ≤ p → p < 8 → M' 94 p = M 2 p) ∧ ∀ i, 0 ≤ i → i < 64 → M' 97 i = M 5 i ∧ M' 98 i = M 6 i := by
  refine ⟨_, copy93_e ⟨rfl, rfl⟩, fun c hc => ?_, ⟨rfl, rfl⟩, fun p h1 h2 => ?_, fun i h1 h2 => ⟨?_, ?_⟩⟩
  · rw [gx_cp_ne (by omega), gx_cp_ne (by omega), gx_cp_ne (by omega), gx_cp_ne (by omega), gx_cp_ne (by omega), gx_up_ne (by omega), gx_up_ne (by omega)]
  · rw [gx_cp_ne (by decide), gx_cp_ne (by decide), gx_cp_ne (by decide), gx_cp_ne (by decide), gx_cp_in ⟨h1, by omega⟩, gx_up_ne (by decide), gx_up_ne (by decide)]
    congr 1
    omega
  · rw [gx_cp_ne (by decide), gx_cp_in ⟨h1, by omega⟩, gx_cp_ne (by decide), gx_cp_ne (by decide), gx_cp_ne (by decide), gx_up_ne (by decide), gx_up_ne (by decide)]
    congr 1
    omega
  · rw [gx_cp_in ⟨h1, by omega⟩, gx_cp_ne (by decide), gx_cp_ne (by decide), gx_cp_ne (by decide), gx_cp_ne (by decide), gx_up_ne (by decide), gx_up_ne (by decide)]
    congr 1
    omega

theorem X_note (h : 0 ≤ M 7 1 ∧ M 7 1 < 7) (hd : 1 ≤ d) : ∃ M', gx_X l κ gx_sh z_mt zX1_note d [gR 8, gR 2] M (gx_eq none M') ∧ ∀ c, (c < 9 ∨ 51 ≤ c) → M' c = M c := by
  rcases (by omega : M 7 1 = 0 ∨ M 7 1 = 1 ∨ M 7 1 = 2 ∨ M 7 1 = 3 ∨ M 7 1 = 4 ∨ M 7 1 = 5 ∨ M 7 1 = 6) with e | e | e | e | e | e | e
  · obtain ⟨M', h1, h2, -⟩ := X_copy9 (l := l) (κ := κ) (d := 0) (M := M)
    exact ⟨M', note0_e e h1 (by omega) ⟨rfl, rfl⟩, fun c hc => h2 c (by omega)⟩
  · obtain ⟨M', h1, h2, -⟩ := X_copy15 (l := l) (κ := κ) (d := 0) (M := M)
    exact ⟨M', note1_e e h1 (by omega) ⟨rfl, rfl⟩, fun c hc => h2 c (by omega)⟩
  · obtain ⟨M', h1, h2, -⟩ := X_copy21 (l := l) (κ := κ) (d := 0) (M := M)
    exact ⟨M', note2_e e h1 (by omega) ⟨rfl, rfl⟩, fun c hc => h2 c (by omega)⟩
  · obtain ⟨M', h1, h2, -⟩ := X_copy27 (l := l) (κ := κ) (d := 0) (M := M)
    exact ⟨M', note3_e e h1 (by omega) ⟨rfl, rfl⟩, fun c hc => h2 c (by omega)⟩
  · obtain ⟨M', h1, h2, -⟩ := X_copy33 (l := l) (κ := κ) (d := 0) (M := M)
    exact ⟨M', note4_e e h1 (by omega) ⟨rfl, rfl⟩, fun c hc => h2 c (by omega)⟩
  · obtain ⟨M', h1, h2, -⟩ := X_copy39 (l := l) (κ := κ) (d := 0) (M := M)
    exact ⟨M', note5_e e h1 (by omega) ⟨rfl, rfl⟩, fun c hc => h2 c (by omega)⟩
  · obtain ⟨M', h1, h2, -⟩ := X_copy45 (l := l) (κ := κ) (d := 0) (M := M)
    exact ⟨M', note6_e e h1 (by omega) ⟨rfl, rfl⟩, fun c hc => h2 c (by omega)⟩

theorem X_settle {a : Int} (ha : gx_R a) (h : (0 ≤ M 7 1 ∧ M 7 1 < 7) ∧ (0 ≤ M 7 2 ∧ M 7 2 ≤ 6)) : ∃ M', gx_X l κ gx_sh z_mt zX1_settle d [gR 8, gI a] M (gx_eq (some (gI a)) M') ∧ (∀ c, c ≠ 7 → M' c = M c) ∧ (0 ≤ M' 7 1 ∧ M' 7 1 < 7) ∧ (0 ≤ M' 7 2 ∧ M' 7 2 ≤ 6) := by
  by_cases c : a < 0
  · exact ⟨M, settle_e_1 c ha ⟨rfl, rfl⟩, fun _ _ => rfl, h.1, h.2⟩
  · refine ⟨_, settle_e_0 (by omega) ha ⟨by omega, by omega⟩ ⟨by omega, by omega⟩ ⟨rfl, rfl⟩, fun c hc => by rw [gx_up_ne hc, gx_up_ne hc], ?_, ?_⟩
    · rw [gx_up_at, if_neg (by decide), gx_up_at, if_pos rfl]
      omega
    · rw [gx_up_at, if_pos rfl]
      omega

/-- the net that was seen has the arcs of now -/
theorem X_sameArcs68 (hP : gx_R (M 68 0) ∧ gx_R (M 68 1) ∧ gx_R (M 1 0) ∧ gx_R (M 1 1)) (hA : ∀ i, 0 ≤ i → i < 64 → (gx_R (M 72 i) ∧ gx_R (M 73 i)) ∧ gx_R (M 5 i) ∧ gx_R (M 6 i)) :
    gx_X l κ gx_sh z_mt zX3_sameArcs d [gR 69, gR 2] M (gx_eq (some (gI (gi ((M 68 0 = M 1 0 ∧ M 68 1 = M 1 1) ∧ ∀ i, 0 ≤ i → i < 64 → M 72 i = M 5 i ∧ M 73 i = M 6 i)))) M) := by
  obtain ⟨p1, p2, p3, p4⟩ := hP
  by_cases c1 : M 68 0 = M 1 0
  · by_cases c2 : M 68 1 = M 1 1
    · have loop : ∀ (k : Nat) (i : Int), i + k = 64 → 0 ≤ i → (∀ q, 0 ≤ q → q < i → M 72 q = M 5 q ∧ M 73 q = M 6 q) →
          gx_G l κ gx_sh z_mt zX3_sameArcs d (26, [gR 69, gR 2, gI i], [], M) (gx_eq (some (gI (gi ((M 68 0 = M 1 0 ∧ M 68 1 = M 1 1) ∧ ∀ i, 0 ≤ i → i < 64 → M 72 i = M 5 i ∧ M 73 i = M 6 i)))) M) := by
        intro k
        induction k with
        | zero =>
          intro i hi h0 hq
          have e : gi ((M 68 0 = M 1 0 ∧ M 68 1 = M 1 1) ∧ ∀ i, 0 ≤ i → i < 64 → M 72 i = M 5 i ∧ M 73 i = M 6 i) = 1 := gi_pos ⟨⟨c1, c2⟩, fun q h1 h2 => hq q h1 (by omega)⟩
          rw [e]
          exact sameArcs68_26_1 (by omega) ⟨by omega, by omega⟩ ⟨rfl, rfl⟩
        | succ k ih =>
          intro i hi h0 hq
          obtain ⟨⟨a1, a2⟩, a3, a4⟩ := hA i h0 (by omega)
          by_cases k1 : M 72 i = M 5 i
          · by_cases k2 : M 73 i = M 6 i
            · refine sameArcs68_26_001 (by omega) ⟨by omega, by omega⟩ ⟨by omega, by omega⟩ k1 a1 a3 k2 a2 a4 (ih (i + 1) (by omega) (by omega) (fun q q1 q2 => ?_))
              by_cases e : q = i
              · rw [e]; exact ⟨k1, k2⟩
              · exact hq q q1 (by omega)
            · have e : gi ((M 68 0 = M 1 0 ∧ M 68 1 = M 1 1) ∧ ∀ i, 0 ≤ i → i < 64 → M 72 i = M 5 i ∧ M 73 i = M 6 i) = 0 := gi_neg (fun z => k2 (z.2 i h0 (by omega)).2)
              rw [e]
              exact sameArcs68_26_000 (by omega) ⟨by omega, by omega⟩ ⟨by omega, by omega⟩ k1 a1 a3 k2 a2 a4 ⟨rfl, rfl⟩
          · have e : gi ((M 68 0 = M 1 0 ∧ M 68 1 = M 1 1) ∧ ∀ i, 0 ≤ i → i < 64 → M 72 i = M 5 i ∧ M 73 i = M 6 i) = 0 := gi_neg (fun z => k1 (z.2 i h0 (by omega)).1)
            rw [e]
            exact sameArcs68_26_01 (by omega) ⟨by omega, by omega⟩ ⟨by omega, by omega⟩ k1 a1 a3 ⟨rfl, rfl⟩
      exact sameArcs68_e_01 c1 p1 p3 c2 p2 p4 (loop 64 0 (by omega) (by omega) (fun q h1 h2 => by omega))
    · have e : gi ((M 68 0 = M 1 0 ∧ M 68 1 = M 1 1) ∧ ∀ i, 0 ≤ i → i < 64 → M 72 i = M 5 i ∧ M 73 i = M 6 i) = 0 := gi_neg (fun z => c2 z.1.2)
      rw [e]
      exact sameArcs68_e_00 c1 p1 p3 c2 p2 p4 ⟨rfl, rfl⟩
  · have e : gi ((M 68 0 = M 1 0 ∧ M 68 1 = M 1 1) ∧ ∀ i, 0 ≤ i → i < 64 → M 72 i = M 5 i ∧ M 73 i = M 6 i) = 0 := gi_neg (fun z => c1 z.1.1)
    rw [e]
    exact sameArcs68_e_1 c1 p1 p3 ⟨rfl, rfl⟩

/-- the net that was seen has the arcs of now -/
theorem X_sameArcs81 (hP : gx_R (M 81 0) ∧ gx_R (M 81 1) ∧ gx_R (M 1 0) ∧ gx_R (M 1 1)) (hA : ∀ i, 0 ≤ i → i < 64 → (gx_R (M 85 i) ∧ gx_R (M 86 i)) ∧ gx_R (M 5 i) ∧ gx_R (M 6 i)) :
    gx_X l κ gx_sh z_mt zX3_sameArcs d [gR 82, gR 2] M (gx_eq (some (gI (gi ((M 81 0 = M 1 0 ∧ M 81 1 = M 1 1) ∧ ∀ i, 0 ≤ i → i < 64 → M 85 i = M 5 i ∧ M 86 i = M 6 i)))) M) := by
  obtain ⟨p1, p2, p3, p4⟩ := hP
  by_cases c1 : M 81 0 = M 1 0
  · by_cases c2 : M 81 1 = M 1 1
    · have loop : ∀ (k : Nat) (i : Int), i + k = 64 → 0 ≤ i → (∀ q, 0 ≤ q → q < i → M 85 q = M 5 q ∧ M 86 q = M 6 q) →
          gx_G l κ gx_sh z_mt zX3_sameArcs d (26, [gR 82, gR 2, gI i], [], M) (gx_eq (some (gI (gi ((M 81 0 = M 1 0 ∧ M 81 1 = M 1 1) ∧ ∀ i, 0 ≤ i → i < 64 → M 85 i = M 5 i ∧ M 86 i = M 6 i)))) M) := by
        intro k
        induction k with
        | zero =>
          intro i hi h0 hq
          have e : gi ((M 81 0 = M 1 0 ∧ M 81 1 = M 1 1) ∧ ∀ i, 0 ≤ i → i < 64 → M 85 i = M 5 i ∧ M 86 i = M 6 i) = 1 := gi_pos ⟨⟨c1, c2⟩, fun q h1 h2 => hq q h1 (by omega)⟩
          rw [e]
          exact sameArcs81_26_1 (by omega) ⟨by omega, by omega⟩ ⟨rfl, rfl⟩
        | succ k ih =>
          intro i hi h0 hq
          obtain ⟨⟨a1, a2⟩, a3, a4⟩ := hA i h0 (by omega)
          by_cases k1 : M 85 i = M 5 i
          · by_cases k2 : M 86 i = M 6 i
            · refine sameArcs81_26_001 (by omega) ⟨by omega, by omega⟩ ⟨by omega, by omega⟩ k1 a1 a3 k2 a2 a4 (ih (i + 1) (by omega) (by omega) (fun q q1 q2 => ?_))
              by_cases e : q = i
              · rw [e]; exact ⟨k1, k2⟩
              · exact hq q q1 (by omega)
            · have e : gi ((M 81 0 = M 1 0 ∧ M 81 1 = M 1 1) ∧ ∀ i, 0 ≤ i → i < 64 → M 85 i = M 5 i ∧ M 86 i = M 6 i) = 0 := gi_neg (fun z => k2 (z.2 i h0 (by omega)).2)
              rw [e]
              exact sameArcs81_26_000 (by omega) ⟨by omega, by omega⟩ ⟨by omega, by omega⟩ k1 a1 a3 k2 a2 a4 ⟨rfl, rfl⟩
          · have e : gi ((M 81 0 = M 1 0 ∧ M 81 1 = M 1 1) ∧ ∀ i, 0 ≤ i → i < 64 → M 85 i = M 5 i ∧ M 86 i = M 6 i) = 0 := gi_neg (fun z => k1 (z.2 i h0 (by omega)).1)
            rw [e]
            exact sameArcs81_26_01 (by omega) ⟨by omega, by omega⟩ ⟨by omega, by omega⟩ k1 a1 a3 ⟨rfl, rfl⟩
      exact sameArcs81_e_01 c1 p1 p3 c2 p2 p4 (loop 64 0 (by omega) (by omega) (fun q h1 h2 => by omega))
    · have e : gi ((M 81 0 = M 1 0 ∧ M 81 1 = M 1 1) ∧ ∀ i, 0 ≤ i → i < 64 → M 85 i = M 5 i ∧ M 86 i = M 6 i) = 0 := gi_neg (fun z => c2 z.1.2)
      rw [e]
      exact sameArcs81_e_00 c1 p1 p3 c2 p2 p4 ⟨rfl, rfl⟩
  · have e : gi ((M 81 0 = M 1 0 ∧ M 81 1 = M 1 1) ∧ ∀ i, 0 ≤ i → i < 64 → M 85 i = M 5 i ∧ M 86 i = M 6 i) = 0 := gi_neg (fun z => c1 z.1.1)
    rw [e]
    exact sameArcs81_e_1 c1 p1 p3 ⟨rfl, rfl⟩

/-- the net that was seen has the arcs of now -/
theorem X_sameArcs93 (hP : gx_R (M 93 0) ∧ gx_R (M 93 1) ∧ gx_R (M 1 0) ∧ gx_R (M 1 1)) (hA : ∀ i, 0 ≤ i → i < 64 → (gx_R (M 97 i) ∧ gx_R (M 98 i)) ∧ gx_R (M 5 i) ∧ gx_R (M 6 i)) :
    gx_X l κ gx_sh z_mt zX3_sameArcs d [gR 94, gR 2] M (gx_eq (some (gI (gi ((M 93 0 = M 1 0 ∧ M 93 1 = M 1 1) ∧ ∀ i, 0 ≤ i → i < 64 → M 97 i = M 5 i ∧ M 98 i = M 6 i)))) M) := by
  obtain ⟨p1, p2, p3, p4⟩ := hP
  by_cases c1 : M 93 0 = M 1 0
  · by_cases c2 : M 93 1 = M 1 1
    · have loop : ∀ (k : Nat) (i : Int), i + k = 64 → 0 ≤ i → (∀ q, 0 ≤ q → q < i → M 97 q = M 5 q ∧ M 98 q = M 6 q) →
          gx_G l κ gx_sh z_mt zX3_sameArcs d (26, [gR 94, gR 2, gI i], [], M) (gx_eq (some (gI (gi ((M 93 0 = M 1 0 ∧ M 93 1 = M 1 1) ∧ ∀ i, 0 ≤ i → i < 64 → M 97 i = M 5 i ∧ M 98 i = M 6 i)))) M) := by
        intro k
        induction k with
        | zero =>
          intro i hi h0 hq
          have e : gi ((M 93 0 = M 1 0 ∧ M 93 1 = M 1 1) ∧ ∀ i, 0 ≤ i → i < 64 → M 97 i = M 5 i ∧ M 98 i = M 6 i) = 1 := gi_pos ⟨⟨c1, c2⟩, fun q h1 h2 => hq q h1 (by omega)⟩
          rw [e]
          exact sameArcs93_26_1 (by omega) ⟨by omega, by omega⟩ ⟨rfl, rfl⟩
        | succ k ih =>
          intro i hi h0 hq
          obtain ⟨⟨a1, a2⟩, a3, a4⟩ := hA i h0 (by omega)
          by_cases k1 : M 97 i = M 5 i
          · by_cases k2 : M 98 i = M 6 i
            · refine sameArcs93_26_001 (by omega) ⟨by omega, by omega⟩ ⟨by omega, by omega⟩ k1 a1 a3 k2 a2 a4 (ih (i + 1) (by omega) (by omega) (fun q q1 q2 => ?_))
              by_cases e : q = i
              · rw [e]; exact ⟨k1, k2⟩
              · exact hq q q1 (by omega)
            · have e : gi ((M 93 0 = M 1 0 ∧ M 93 1 = M 1 1) ∧ ∀ i, 0 ≤ i → i < 64 → M 97 i = M 5 i ∧ M 98 i = M 6 i) = 0 := gi_neg (fun z => k2 (z.2 i h0 (by omega)).2)
              rw [e]
              exact sameArcs93_26_000 (by omega) ⟨by omega, by omega⟩ ⟨by omega, by omega⟩ k1 a1 a3 k2 a2 a4 ⟨rfl, rfl⟩
          · have e : gi ((M 93 0 = M 1 0 ∧ M 93 1 = M 1 1) ∧ ∀ i, 0 ≤ i → i < 64 → M 97 i = M 5 i ∧ M 98 i = M 6 i) = 0 := gi_neg (fun z => k1 (z.2 i h0 (by omega)).1)
            rw [e]
            exact sameArcs93_26_01 (by omega) ⟨by omega, by omega⟩ ⟨by omega, by omega⟩ k1 a1 a3 ⟨rfl, rfl⟩
      exact sameArcs93_e_01 c1 p1 p3 c2 p2 p4 (loop 64 0 (by omega) (by omega) (fun q h1 h2 => by omega))
    · have e : gi ((M 93 0 = M 1 0 ∧ M 93 1 = M 1 1) ∧ ∀ i, 0 ≤ i → i < 64 → M 97 i = M 5 i ∧ M 98 i = M 6 i) = 0 := gi_neg (fun z => c2 z.1.2)
      rw [e]
      exact sameArcs93_e_00 c1 p1 p3 c2 p2 p4 ⟨rfl, rfl⟩
  · have e : gi ((M 93 0 = M 1 0 ∧ M 93 1 = M 1 1) ∧ ∀ i, 0 ≤ i → i < 64 → M 97 i = M 5 i ∧ M 98 i = M 6 i) = 0 := gi_neg (fun z => c1 z.1.1)
    rw [e]
    exact sameArcs93_e_1 c1 p1 p3 ⟨rfl, rfl⟩

theorem X_sameMarking81 (hA : ∀ p, 0 ≤ p → p < 8 → gx_R (M 82 p) ∧ gx_R (M 2 p)) :
    gx_X l κ gx_sh z_mt zX3_sameMarking d [gR 82, gR 2] M (gx_eq (some (gI (gi (∀ p, 0 ≤ p → p < 8 → M 82 p = M 2 p)))) M) := by
  have loop : ∀ (k : Nat) (p : Int), p + k = 8 → 0 ≤ p → (∀ q, 0 ≤ q → q < p → M 82 q = M 2 q) →
      gx_G l κ gx_sh z_mt zX3_sameMarking d (2, [gR 82, gR 2, gI p], [], M) (gx_eq (some (gI (gi (∀ p, 0 ≤ p → p < 8 → M 82 p = M 2 p)))) M) := by
    intro k
    induction k with
    | zero =>
      intro p hp h0 hq
      have e : gi (∀ p, 0 ≤ p → p < 8 → M 82 p = M 2 p) = 1 := gi_pos (fun q h1 h2 => hq q h1 (by omega))
      rw [e]
      exact sameMarking81_2_1 (by omega) ⟨by omega, by omega⟩ ⟨rfl, rfl⟩
    | succ k ih =>
      intro p hp h0 hq
      obtain ⟨a1, a2⟩ := hA p h0 (by omega)
      by_cases c : M 82 p = M 2 p
      · refine sameMarking81_2_01 (by omega) ⟨by omega, by omega⟩ ⟨by omega, by omega⟩ c a1 a2 (ih (p + 1) (by omega) (by omega) (fun q q1 q2 => ?_))
        by_cases e : q = p
        · rw [e]; exact c
        · exact hq q q1 (by omega)
      · have e : gi (∀ p, 0 ≤ p → p < 8 → M 82 p = M 2 p) = 0 := gi_neg (fun z => c (z p h0 (by omega)))
        rw [e]
        exact sameMarking81_2_00 (by omega) ⟨by omega, by omega⟩ ⟨by omega, by omega⟩ c a1 a2 ⟨rfl, rfl⟩
  exact sameMarking81_e (loop 8 0 (by omega) (by omega) (fun q h1 h2 => by omega))

theorem X_sameMarking93 (hA : ∀ p, 0 ≤ p → p < 8 → gx_R (M 94 p) ∧ gx_R (M 2 p)) :
    gx_X l κ gx_sh z_mt zX3_sameMarking d [gR 94, gR 2] M (gx_eq (some (gI (gi (∀ p, 0 ≤ p → p < 8 → M 94 p = M 2 p)))) M) := by
  have loop : ∀ (k : Nat) (p : Int), p + k = 8 → 0 ≤ p → (∀ q, 0 ≤ q → q < p → M 94 q = M 2 q) →
      gx_G l κ gx_sh z_mt zX3_sameMarking d (2, [gR 94, gR 2, gI p], [], M) (gx_eq (some (gI (gi (∀ p, 0 ≤ p → p < 8 → M 94 p = M 2 p)))) M) := by
    intro k
    induction k with
    | zero =>
      intro p hp h0 hq
      have e : gi (∀ p, 0 ≤ p → p < 8 → M 94 p = M 2 p) = 1 := gi_pos (fun q h1 h2 => hq q h1 (by omega))
      rw [e]
      exact sameMarking93_2_1 (by omega) ⟨by omega, by omega⟩ ⟨rfl, rfl⟩
    | succ k ih =>
      intro p hp h0 hq
      obtain ⟨a1, a2⟩ := hA p h0 (by omega)
      by_cases c : M 94 p = M 2 p
      · refine sameMarking93_2_01 (by omega) ⟨by omega, by omega⟩ ⟨by omega, by omega⟩ c a1 a2 (ih (p + 1) (by omega) (by omega) (fun q q1 q2 => ?_))
        by_cases e : q = p
        · rw [e]; exact c
        · exact hq q q1 (by omega)
      · have e : gi (∀ p, 0 ≤ p → p < 8 → M 94 p = M 2 p) = 0 := gi_neg (fun z => c (z p h0 (by omega)))
        rw [e]
        exact sameMarking93_2_00 (by omega) ⟨by omega, by omega⟩ ⟨by omega, by omega⟩ c a1 a2 ⟨rfl, rfl⟩
  exact sameMarking93_e (loop 8 0 (by omega) (by omega) (fun q h1 h2 => by omega))

end NETA
