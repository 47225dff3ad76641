/-! the class's growth tree: a child outgrows those above it; a node is followed -/
/-- the tree's memory holds the list -/
def gTS (M : gx_M) (L : List gN) : Prop := (M 92 4 = (L.length : Int) ∧ L.length ≤ 300) ∧ ∀ (i : Nat) (n : gN), L[i]? = some n → (∀ p, 0 ≤ p → p < 8 → M 99 ((i : Int) * 8 + p) = gmk n.1 p) ∧ M 102 (i : Int) = (n.2.length : Int) ∧ n.2.length ≤ i ∧ gTv 90000 n ∧ gAb (M 101) L i n.2
theorem gTS_kept {M M' : gx_M} {L : List gN} (h : gTS M L) (h1 : M' 92 4 = M 92 4) (h2 : M' 99 = M 99) (h3 : M' 101 = M 101) (h4 : M' 102 = M 102) : gTS M' L := by
  unfold gTS at *
  rw [h1, h2, h3, h4]
  exact h
theorem gTS_len {M : gx_M} {L : List gN} (h : gTS M L) : ∀ n ∈ L, n.2.length ≤ 300 := fun n hn => by
  obtain ⟨i, hi⟩ := List.getElem?_of_mem hn
  have h1 := (List.getElem?_eq_some_iff.mp hi).1
  have h2 := (h.2 i n hi).2.2.1
  have h3 := h.1.2
  omega
theorem gAb_app {U U' : Int → Int} {L : List gN} {x : gN} {i : Nat} {σ : List gK} (h : gAb U L i σ) (hU : U' (i : Int) = U (i : Int)) : gAb U' (L ++ [x]) i σ := fun b ρ e => by
  obtain ⟨j, j1, j2, j3⟩ := h b ρ e
  exact ⟨j, j1, by rw [List.getElem?_append_left (List.getElem?_eq_some_iff.mp j2).1]; exact j2, hU.trans j3⟩
theorem gApp_get {T : Type} {L : List T} {x a : T} {j : Nat} (hj : (L ++ [x])[j]? = some a) : (j < L.length ∧ L[j]? = some a) ∨ (j = L.length ∧ a = x) := by
  by_cases hjl : j < L.length
  · rw [List.getElem?_append_left hjl] at hj
    exact Or.inl ⟨hjl, hj⟩
  · have hj' := (List.getElem?_eq_some_iff.mp hj).1
    rw [List.length_append] at hj'
    have e0 : j = L.length := by
      have : [x].length = 1 := rfl
      omega
    subst e0
    refine Or.inr ⟨rfl, ?_⟩
    rw [List.getElem?_append_right (Nat.le_refl _), Nat.sub_self] at hj
    exact (Option.some.inj hj).symm
section TREE
variable {l : Launch} {κ : yK} {d : Nat} {M : gx_M}
theorem X_isLikeT {mk ot : Int} (hm : 0 ≤ mk ∧ mk < 300) (ho : 0 ≤ ot ∧ ot < 300) (h1 : ∀ p, 0 ≤ p → p < 8 → gx_R (M 99 (mk * 8 + p)) ∧ gx_R (M 99 (ot * 8 + p))) : gx_X l κ gx_sh z_mt zX2_isLike d [gR 93, gI mk, gR 100, gI (ot * 8)] M (gx_eq (some (gI (gi (∀ p, 0 ≤ p → p < 8 → M 99 (mk * 8 + p) = M 99 (ot * 8 + p))))) M) := by
  have loop : ∀ (k : Nat) (p : Int), p + k = 8 → 0 ≤ p → (∀ q, 0 ≤ q → q < p → M 99 (mk * 8 + q) = M 99 (ot * 8 + q)) →
      gx_G l κ gx_sh z_mt zX2_isLike d (3, [gR 93, gI mk, gR 100, gI (ot * 8), gI p], [], M) (gx_eq (some (gI (gi (∀ p, 0 ≤ p → p < 8 → M 99 (mk * 8 + p) = M 99 (ot * 8 + p))))) M) := by
    intro k
    induction k with
    | zero =>
      intro p hp h0 hq
      have e : gi (∀ p, 0 ≤ p → p < 8 → M 99 (mk * 8 + p) = M 99 (ot * 8 + p)) = 1 := gi_pos (fun q q1 q2 => hq q q1 (by omega))
      rw [e]
      exact isLikeT_3_1 (by omega) ⟨by omega, by omega⟩ ⟨rfl, rfl⟩
    | succ k ih =>
      intro p hp h0 hq
      obtain ⟨a1, a2⟩ := h1 p h0 (by omega)
      by_cases c : M 99 (mk * 8 + p) = M 99 (ot * 8 + p)
      · refine isLikeT_3_01 (by omega) ⟨by omega, by omega⟩ ⟨by omega, by omega⟩ ⟨by omega, by omega⟩ c a1 a2 (ih (p + 1) (by omega) (by omega) (fun q q1 q2 => ?_))
        by_cases e : q = p
        · rw [e]; exact c
        · exact hq q q1 (by omega)
      · have e : gi (∀ p, 0 ≤ p → p < 8 → M 99 (mk * 8 + p) = M 99 (ot * 8 + p)) = 0 := gi_neg (fun z => c (z p h0 (by omega)))
        rw [e]
        exact isLikeT_3_00 (by omega) ⟨by omega, by omega⟩ ⟨by omega, by omega⟩ ⟨by omega, by omega⟩ c a1 a2 ⟨rfl, rfl⟩
  exact isLikeT_e (loop 8 0 (by omega) (by omega) (fun q q1 q2 => by omega))
theorem X_areSame {mk ot : Int} {a b : gK} (hd : 1 ≤ d) (hm : 0 ≤ mk ∧ mk < 300) (ho : 0 ≤ ot ∧ ot < 300) (ha : ∀ p, 0 ≤ p → p < 8 → M 99 (mk * 8 + p) = gmk a p ∧ gx_R (gmk a p)) (hb : ∀ p, 0 ≤ p → p < 8 → M 99 (ot * 8 + p) = gmk b p ∧ gx_R (gmk b p)) :
    gx_X l κ gx_sh z_mt zX2_areSame d [gR 93, gI mk, gI ot] M (gx_eq (some (gI (gi (a = b)))) M) := by
  have e : gi (a = b) = gi (∀ p, 0 ≤ p → p < 8 → M 99 (mk * 8 + p) = M 99 (ot * 8 + p)) := gi_congr ⟨fun z p p1 p2 => by rw [(ha p p1 p2).1, (hb p p1 p2).1, z], fun z => gmk_ext (fun p p1 p2 => by
    rw [← (ha p p1 (by omega)).1, ← (hb p p1 (by omega)).1]
    exact z p p1 (by omega))⟩
  rw [e]
  exact areSame_e (X_isLikeT (d := 0) hm ho (fun p p1 p2 => by rw [(ha p p1 p2).1, (hb p p1 p2).1]; exact ⟨(ha p p1 p2).2, (hb p p1 p2).2⟩)) (by omega) (gi_rng _) ⟨rfl, rfl⟩
theorem X_outgrow {nd : Int} {a c : gK} (hn : 0 ≤ nd ∧ nd < 300) (ha : ∀ p, 0 ≤ p → p < 8 → M 99 (nd * 8 + p) = gmk a p ∧ gx_R (gmk a p)) (hc : ∀ p, 0 ≤ p → p < 8 → M 100 p = gmk c p ∧ gx_R (gmk c p)) :
    ∃ M', gx_X l κ gx_sh z_mt zX7_outgrow d [gR 92, gI nd, gR 101] M (gx_eq none M') ∧ (∀ k, k ≠ 100 → M' k = M k) ∧ ∀ p, 0 ≤ p → p < 8 → M' 100 p = gmk (gOg a c) p := by
  -- the second half
  have loop2 : ∀ (hle : ∀ p, 0 ≤ p → p < 4 → gmk a p ≤ gmk c p) (k : Nat) (p : Int) (M1 : gx_M), p + k = 8 → 0 ≤ p → (∀ k, k ≠ 100 → M1 k = M k) → (∀ q, 0 ≤ q → q < 8 → M1 100 q = if q < p then gmk (gOg a c) q else gmk c q) →
      ∃ M', gx_G l κ gx_sh z_mt zX7_outgrow d (37, [gR 92, gI nd, gR 101, gI p], [], M1) (gx_eq none M') ∧ (∀ k, k ≠ 100 → M' k = M k) ∧ ∀ p, 0 ≤ p → p < 8 → M' 100 p = gmk (gOg a c) p := by
    intro hle k
    induction k with
    | zero =>
      intro p M1 hp h0 hf h1
      exact ⟨M1, outgrow_37_1 (by omega) ⟨by omega, by omega⟩ ⟨rfl, rfl⟩, hf, fun q q1 q2 => by rw [h1 q q1 q2, if_pos (by omega)]⟩
    | succ k ih =>
      intro p M1 hp h0 hf h1
      obtain ⟨a1, a2⟩ := ha p h0 (by omega)
      obtain ⟨-, c2⟩ := hc p h0 (by omega)
      have e99 : M1 99 (nd * 8 + p) = gmk a p := by rw [hf 99 (by decide)]; exact a1
      have e100 : M1 100 p = gmk c p := by rw [h1 p h0 (by omega), if_neg (by omega)]
      have hv : gmk (gOg a c) p = if gmk a p < gmk c p then 1073741824 else gmk c p := by
        by_cases h4 : p < 4
        · exact gOg_le a c hle ⟨h0, h4⟩
        · rw [gmk_hi _ (by omega), gmk_hi a (by omega), gmk_hi c (by omega)]; rfl
      by_cases cc : gmk a p < gmk c p
      · rw [if_pos cc] at hv
        obtain ⟨M', k1, k2, k3⟩ := ih (p + 1) (gx_up M1 100 p 1073741824) (by omega) (by omega) (fun k hk => by rw [gx_up_ne hk]; exact hf k hk) (fun q q1 q2 => by
          rw [gx_up_at]
          by_cases e : q = p
          · rw [if_pos e, if_pos (by omega), e, hv]
          · rw [if_neg e, h1 q q1 q2]
            by_cases e2 : q < p
            · rw [if_pos e2, if_pos (by omega)]
            · rw [if_neg e2, if_neg (by omega)])
        exact ⟨M', outgrow_37_00 (by omega) ⟨by omega, by omega⟩ ⟨by omega, by omega⟩ ⟨by omega, by omega⟩ (by rw [e99, e100]; exact cc) (by rw [e99]; exact a2) (by rw [e100]; exact c2) k1, k2, k3⟩
      · rw [if_neg cc] at hv
        obtain ⟨M', k1, k2, k3⟩ := ih (p + 1) M1 (by omega) (by omega) hf (fun q q1 q2 => by
          rw [h1 q q1 q2]
          by_cases e : q = p
          · rw [if_neg (by omega), if_pos (by omega), e, hv]
          · by_cases e2 : q < p
            · rw [if_pos e2, if_pos (by omega)]
            · rw [if_neg e2, if_neg (by omega)])
        exact ⟨M', outgrow_37_01 (by omega) ⟨by omega, by omega⟩ ⟨by omega, by omega⟩ ⟨by omega, by omega⟩ (by rw [e99, e100]; omega) (by rw [e99]; exact a2) (by rw [e100]; exact c2) k1, k2, k3⟩
  have loop : ∀ (k : Nat) (p : Int), p + k = 8 → 0 ≤ p → (∀ q, 0 ≤ q → q < p → gmk a q ≤ gmk c q) →
      ∃ M', gx_G l κ gx_sh z_mt zX7_outgrow d (2, [gR 92, gI nd, gR 101, gI p], [], M) (gx_eq none M') ∧ (∀ k, k ≠ 100 → M' k = M k) ∧ ∀ p, 0 ≤ p → p < 8 → M' 100 p = gmk (gOg a c) p := by
    intro k
    induction k with
    | zero =>
      intro p hp h0 hq
      obtain ⟨M', k1, k2, k3⟩ := loop2 (fun q q1 q2 => hq q q1 (by omega)) 8 0 M (by omega) (by omega) (fun _ _ => rfl) (fun q q1 q2 => by rw [if_neg (by omega)]; exact (hc q q1 q2).1)
      exact ⟨M', outgrow_2_1 (by omega) ⟨by omega, by omega⟩ k1, k2, k3⟩
    | succ k ih =>
      intro p hp h0 hq
      obtain ⟨a1, a2⟩ := ha p h0 (by omega)
      obtain ⟨c1, c2⟩ := hc p h0 (by omega)
      by_cases cc : gmk a p ≤ gmk c p
      · obtain ⟨M', k1, k2, k3⟩ := ih (p + 1) (by omega) (by omega) (fun q q1 q2 => by
          by_cases e : q = p
          · rw [e]; exact cc
          · exact hq q q1 (by omega))
        exact ⟨M', outgrow_2_01 (by omega) ⟨by omega, by omega⟩ ⟨by omega, by omega⟩ ⟨by omega, by omega⟩ (by rw [a1, c1]; exact cc) (by rw [a1]; exact a2) (by rw [c1]; exact c2) k1, k2, k3⟩
      · have hn4 : ¬ ∀ p, 0 ≤ p → p < 4 → gmk a p ≤ gmk c p := by
          intro z
          by_cases h4 : p < 4
          · exact cc (z p h0 h4)
          · rw [gmk_hi a (by omega), gmk_hi c (by omega)] at cc
            exact cc (by decide)
        refine ⟨M, outgrow_2_00 (by omega) ⟨by omega, by omega⟩ ⟨by omega, by omega⟩ ⟨by omega, by omega⟩ (by rw [a1, c1]; omega) (by rw [a1]; exact a2) (by rw [c1]; exact c2) ⟨rfl, rfl⟩, fun _ _ => rfl, fun q q1 q2 => ?_⟩
        rw [gOg_nle a c hn4]
        exact (hc q q1 q2).1
  obtain ⟨M', k1, k2, k3⟩ := loop 8 0 (by omega) (by omega) (fun q q1 q2 => by omega)
  exact ⟨M', outgrow_e k1, k2, k3⟩
theorem X_tadd {L : List gN} {x : gN} {pa : Int} (hd : 1 ≤ d) (hS : gTS M L) (hx : ∀ p, 0 ≤ p → p < 8 → M 100 p = gmk x.1 p) (hv : gTv 90000 x) (hl : x.2.length ≤ L.length) (hpa : ∀ b ρ, x.2 = b :: ρ → ∃ j : Nat, j < L.length ∧ L[j]? = some (b, ρ) ∧ pa = (j : Int)) (hdp : M 91 4 = gdp L) :
    ∃ M', gx_X l κ gx_sh z_mt zX7_add d [gR 92, gI pa, gI (x.2.length : Int)] M (gx_eq none M') ∧ (∀ k, k ≠ 91 → k ≠ 92 → k ≠ 99 → k ≠ 101 → k ≠ 102 → M' k = M k) ∧ (∀ j, j ≠ 4 → j ≠ 5 → M' 92 j = M 92 j) ∧ ((L.length < 300 ∧ gTS M' (L ++ [x]) ∧ M' 92 5 = M 92 5 ∧ M' 91 4 = gdp (L ++ [x])) ∨ (L.length = 300 ∧ gTS M' L ∧ M' 92 5 = 1)) := by
  have hS0 := hS
  have hdr := gdp_rng L (gTS_len hS)
  obtain ⟨⟨hn, hn3⟩, hrow⟩ := hS
  by_cases hfull : L.length = 300
  · have h4 : M 92 4 = 300 := by omega
    refine ⟨gx_up M 92 5 1, tadd_e_1 (X_takeInTN (d := 0) h4) (by omega) rfl ⟨by decide, by decide⟩ ⟨rfl, rfl⟩, fun k _ k2 _ _ _ => gx_up_ne k2, fun j _ j5 => by rw [gx_up_at, if_neg j5], Or.inr ⟨hfull, gTS_kept hS0 (by rw [gx_up_at, if_neg (by decide)]) (gx_up_ne (by decide)) (gx_up_ne (by decide)) (gx_up_ne (by decide)), by rw [gx_up_at, if_pos rfl]⟩⟩
  · obtain ⟨M1, t1, t2, t3, t4, t5⟩ := X_takeInT (l := l) (κ := κ) (d := 0) (M := M) ⟨by omega, by omega⟩
    have e4 : M1 92 4 = (L.length : Int) + 1 := by rw [t3, if_pos rfl, hn]
    have e91 : M1 91 = M 91 := t2 91 (by decide) (by decide)
    have e101 : M1 101 = M 101 := t2 101 (by decide) (by decide)
    have e102 : M1 102 = M 102 := t2 102 (by decide) (by decide)
    have e1 : M1 92 4 - 1 = (L.length : Int) := by omega
    have hlen : ((L ++ [x]).length : Int) = (L.length : Int) + 1 := by rw [List.length_append]; rfl
    refine ⟨_, tadd_e_0 t1 (by omega) (by decide) ⟨by decide, by decide⟩ (by rw [e4]; exact ⟨by omega, by omega⟩) (by rw [e91, hdp]; exact ⟨by omega, by omega⟩) ⟨by omega, by omega⟩ ⟨rfl, rfl⟩, fun k k1 k2 k3 k4 k5 => by rw [gx_up_ne k1, gx_up_ne k5, gx_up_ne k4, t2 k k2 k3], fun j j4 _ => by rw [gx_up_ne (by decide), gx_up_ne (by decide), gx_up_ne (by decide), t3, if_neg j4], Or.inl ⟨by omega, ?_, by rw [gx_up_ne (by decide), gx_up_ne (by decide), gx_up_ne (by decide), t3, if_neg (by decide)], ?_⟩⟩
    · have f92 : (gx_up (gx_up (gx_up M1 101 (M1 92 4 - 1) pa) 102 (M1 92 4 - 1) (x.2.length : Int)) 91 4 (max (M1 91 4) (x.2.length : Int))) 92 4 = (L.length : Int) + 1 := by rw [gx_up_ne (by decide), gx_up_ne (by decide), gx_up_ne (by decide)]; exact e4
      have f99 : (gx_up (gx_up (gx_up M1 101 (M1 92 4 - 1) pa) 102 (M1 92 4 - 1) (x.2.length : Int)) 91 4 (max (M1 91 4) (x.2.length : Int))) 99 = M1 99 := by rw [gx_up_ne (by decide), gx_up_ne (by decide), gx_up_ne (by decide)]
      have f101 : ∀ q, (gx_up (gx_up (gx_up M1 101 (M1 92 4 - 1) pa) 102 (M1 92 4 - 1) (x.2.length : Int)) 91 4 (max (M1 91 4) (x.2.length : Int))) 101 q = if q = (L.length : Int) then pa else M 101 q := fun q => by rw [gx_up_ne (by decide), gx_up_ne (by decide), gx_up_at, e1, e101]
      have f102 : ∀ q, (gx_up (gx_up (gx_up M1 101 (M1 92 4 - 1) pa) 102 (M1 92 4 - 1) (x.2.length : Int)) 91 4 (max (M1 91 4) (x.2.length : Int))) 102 q = if q = (L.length : Int) then (x.2.length : Int) else M 102 q := fun q => by rw [gx_up_ne (by decide), gx_up_at, e1, gx_up_ne (by decide), e102]
      generalize gx_up (gx_up (gx_up M1 101 (M1 92 4 - 1) pa) 102 (M1 92 4 - 1) (x.2.length : Int)) 91 4 (max (M1 91 4) (x.2.length : Int)) = M2 at f92 f99 f101 f102 ⊢
      refine ⟨⟨by rw [hlen]; exact f92, by rw [List.length_append]; show L.length + 1 ≤ 300; omega⟩, fun j a hj => ?_⟩
      rcases gApp_get hj with ⟨hj1, hj2⟩ | ⟨rfl, rfl⟩
      · obtain ⟨r1, r2, r3, r4, r5⟩ := hrow j a hj2
        refine ⟨fun p p1 p2 => ?_, ?_, r3, r4, gAb_app r5 (by rw [f101, if_neg (by omega)])⟩
        · rw [f99, t4 _ (Or.inl (by omega))]
          exact r1 p p1 p2
        · rw [f102, if_neg (by omega)]; exact r2
      · refine ⟨fun p p1 p2 => ?_, ?_, hl, hv, fun b ρ e => ?_⟩
        · rw [f99, ← hn, t5 p p1 p2]
          exact hx p p1 p2
        · rw [f102, if_pos rfl]
        · obtain ⟨j, j1, j2, j3⟩ := hpa b ρ e
          exact ⟨j, j1, by rw [List.getElem?_append_left j1]; exact j2, by rw [f101, if_pos rfl]; exact j3⟩
    · rw [gx_up_at, if_pos rfl, e91, hdp, gdp_app]
end TREE
