/-! the law's check of the growth tree; the whole of 'would' -/
theorem gDo_mo {L : List gN} {p : Int} (h : ∀ n ∈ L, gDo (gmk n.1 p)) : gDo (gmo p L) ∧ (gmo p L = 1073741824 ↔ ∃ n ∈ L, gmk n.1 p = 1073741824) := by
  induction L with
  | nil => exact ⟨Or.inr ⟨Int.le_refl 0, (by decide : (0 : Int) < 32700)⟩, fun z => absurd z (by show ¬ (0 : Int) = 1073741824; decide), fun ⟨_, z, _⟩ => by cases z⟩
  | cons a r ih =>
    obtain ⟨i1, i2⟩ := ih (fun n hn => h n (List.mem_cons_of_mem _ hn))
    have h1 := h a List.mem_cons_self
    have e : gmo p (a :: r) = max (gmk a.1 p) (gmo p r) := rfl
    unfold gDo at *
    refine ⟨by rw [e]; omega, ?_⟩
    constructor
    · intro z
      by_cases ca : gmk a.1 p = 1073741824
      · exact ⟨a, List.mem_cons_self, ca⟩
      · obtain ⟨n, n1, n2⟩ := i2.mp (by omega)
        exact ⟨n, List.mem_cons_of_mem _ n1, n2⟩
    · rintro ⟨n, n1, n2⟩
      rcases List.mem_cons.mp n1 with q | q
      · rw [e, ← q, n2]
        omega
      · have := i2.mpr ⟨n, q, n2⟩
        omega
theorem gcl_max {u v : Int} (hu : gDo u) (hv : gDo v) : gcl (max u v) = if gcl v ≤ gcl u then gcl u else gcl v := by
  unfold gDo at hu hv
  have := gcl_le hv hu
  by_cases h : gcl v ≤ gcl u
  · rw [if_pos h, show max u v = u from by have := (gcl_le hv hu).mp h; omega]
  · rw [if_neg h, show max u v = v from by
      have : ¬ v ≤ u := fun z => h ((gcl_le hv hu).mpr z)
      omega]
section GROWTH
variable {l : Launch} {κ : yK} {d : Nat} {b c : Int}
theorem L_growth {M : gx_M} {now : Int} (hd : 6 ≤ d) (hb : b ≤ 10000) (h0 : gI0 M b c) (hR : gLR M now) (hTC : gTC M) :
    ∃ M', gx_G l κ gx_sh z_mt zL_would d (225, [gR 1, gU, gJ now, gU, gR 105, gR 106, gR 109, gR 110, gR 111, gU, gU, gU, gU, gU, gU, gU], [], M) (gx_eq (some (gI 1)) M') ∧ (∀ k, (k < 91 ∨ 104 ≤ k) → k ≠ 108 → k ≠ 109 → k ≠ 110 → M' k = M k) ∧ gTC M' := by
  obtain ⟨r, M1, t1, t2, t3⟩ := X_ltree (l := l) (κ := κ) (d := 2) (by omega) hR h0 hb
  have hTC1 := gTC_kept hTC (M' := M1) (fun k k1 k2 => t2 k (by omega) (by omega) (by omega))
  rcases t3 with t3 | ⟨L, hL, t4, t5⟩
  · exact ⟨M1, l_would_225_0 t1 (by omega) t3 (by rw [t3]; exact ⟨by decide, by decide⟩) ⟨rfl, rfl⟩, fun k _ k1 k2 k3 => t2 k k1 k2 k3, hTC1⟩
  have hl := t5.1
  have hP := h0.1.1.1
  have hV := h0.1.1.2
  have hLc := (gTb_cap (show 60 ≤ 300 by decide) 60 300 0 (by decide) (by decide) (by show 1 ≤ 60; decide) hL).1
  have hN := gLN_of hR h0
  have hN1 : gLN M1 := gLN_kept hN (fun k hk => t2 k (by omega) (by omega) (by omega))
  have e5 : M1 5 = M 5 := t2 5 (by decide) (by decide) (by decide)
  have e6 : M1 6 = M 6 := t2 6 (by decide) (by decide) (by decide)
  have e104 : M1 104 = M 104 := t2 104 (by decide) (by decide) (by decide)
  have eP : M 104 0 = M 1 0 := hN.2.1.1
  have eV : M 104 1 = M 1 1 := hN.2.1.2
  have hV4 : (M 1 1).toNat ≤ 4 := by omega
  have hP4 : (M 1 0).toNat ≤ 4 := by omega
  have hD : ∀ n ∈ L, gDk n.1 := fun n hn => by
    obtain ⟨i, hi⟩ := List.getElem?_of_mem hn
    obtain ⟨⟨-, -, w3⟩, w4, -⟩ := t5.2 i n hi
    have := (List.getElem?_eq_some_iff.mp hi).1
    exact gTv_Dk w4 (by omega)
  have hdR : ∀ i, 0 ≤ gdp (L.take i) ∧ gdp (L.take i) ≤ 300 := fun i => gdp_rng _ (fun n hn => by
    obtain ⟨j, hj⟩ := List.getElem?_of_mem (List.mem_of_mem_take hn)
    obtain ⟨⟨-, -, w3⟩, -⟩ := t5.2 j n hj
    have := (List.getElem?_eq_some_iff.mp hj).1
    omega)
  have keep : ∀ M2 : gx_M, (∀ k, (k < 91 ∨ 104 ≤ k) → M2 k = M1 k) → gI0 M2 b c ∧ gTb (M2 5) (M2 6) (M2 1 1).toNat 300 300 0 [(gtp (M2 2), [])] = some L := by
    intro M2 hf
    have f : ∀ k, k < 91 → M2 k = M k := fun k hk => by rw [hf k (Or.inl hk), t2 k (by omega) (by omega) (by omega)]
    exact ⟨gI0_kept h0 (fun k hk => f k (by omega)) (by rw [f 7 (by omega)]; exact h0.2.2.1), by rw [f 5 (by omega), f 6 (by omega), f 1 (by omega), f 2 (by omega)]; exact hLc⟩
  -- the bounds of the places, and the end
  have bnd : ∀ (e s : Int), (g16 e ∧ ∀ p : Nat, p < 4 → (gbt e p ↔ p < (M 1 0).toNat ∧ ∃ n ∈ L, gmk n.1 (p : Int) = 1073741824)) → (g16 s ∧ ∀ p : Nat, p < 4 → (gbt s p ↔ p < (M 1 1).toNat ∧ ∃ n ∈ L, gCn (M 5) (gmk n.1) (p : Int))) →
      ∀ (k p : Nat) (M2 : gx_M), p + k = (M 1 0).toNat → (∀ k, (k < 91 ∨ 104 ≤ k) → M2 k = M1 k) → gTC M2 →
      ∃ M', gx_G l κ gx_sh z_mt zL_would d (364, [gR 1, gU, gU, gU, gR 105, gU, gR 109, gU, gU, gI (L.length : Int), gI e, gI s, gI (gdp L), gI (p : Int), gU, gU], [], M2) (gx_eq (some (gI 1)) M') ∧ (∀ k, (k < 91 ∨ 104 ≤ k) → M' k = M1 k) ∧ gTC M' := by
    intro e s he hs k
    induction k with
    | zero =>
      intro p M2 hp hf htc
      have q1 : M2 104 0 = M 1 0 := by rw [hf 104 (by omega), e104]; exact eP
      obtain ⟨h02, hL2⟩ := keep M2 hf
      obtain ⟨M3, a1, a2, ⟨a3, -, -, -⟩, a7, a8, -, -⟩ := X_o_growth (l := l) (κ := κ) (d := 5) (by omega) (by omega) h02 htc hL2
      have f3 : ∀ k, (k < 91 ∨ 104 ≤ k) → M3 k = M1 k := fun k hk => by rw [a7 k hk, hf k hk]
      obtain ⟨h03, hL3⟩ := keep M3 f3
      obtain ⟨M4, b1, b2, ⟨-, b4, -, -⟩, b7, b8, b9, -⟩ := X_o_growth (l := l) (κ := κ) (d := 5) (by omega) (by omega) h03 a8 hL3
      have f4 : ∀ k, (k < 91 ∨ 104 ≤ k) → M4 k = M1 k := fun k hk => by rw [b7 k hk, f3 k hk]
      obtain ⟨h04, hL4⟩ := keep M4 f4
      obtain ⟨M5, c1, c2, ⟨-, -, c5, -⟩, c7, c8, -, c10⟩ := X_o_growth (l := l) (κ := κ) (d := 5) (by omega) (by omega) h04 b8 hL4
      have f5 : ∀ k, (k < 91 ∨ 104 ≤ k) → M5 k = M1 k := fun k hk => by rw [c7 k hk, f4 k hk]
      obtain ⟨h05, hL5⟩ := keep M5 f5
      obtain ⟨M6, d1, d2, ⟨-, -, -, d6⟩, d7, d8, -, -⟩ := X_o_growth (l := l) (κ := κ) (d := 5) (by omega) (by omega) h05 c8 hL5
      have f6 : ∀ k, (k < 91 ∨ 104 ≤ k) → M6 k = M1 k := fun k hk => by rw [d7 k hk, f5 k hk]
      have mo : ∀ p : Nat, p < 4 → (gmo (p : Int) L = 1073741824 ↔ ∃ n ∈ L, gmk n.1 (p : Int) = 1073741824) := fun p hp => (gDo_mo (fun n hn => hD n hn (p : Int) (by omega) (by omega))).2
      have eb1 : b1 = e := gb_ext b9.1 he.1 (fun p hp => by
        rw [b9.2 p hp, he.2 p hp, mo p hp]
        constructor
        · rintro ⟨n, n1, n2⟩
          refine ⟨?_, n, n1, n2⟩
          by_cases hpp : p < (M 1 0).toNat
          · exact hpp
          · exfalso
            obtain ⟨i, hi⟩ := List.getElem?_of_mem n1
            have hz := (t5.2 i n hi).2.2.1 n.1 List.mem_cons_self (p : Int) (by omega) (by omega) (by omega)
            omega
        · rintro ⟨-, z⟩; exact z)
      have ec2 : c2 = s := gb_ext c10.1 hs.1 (fun p hp => by
        rw [c10.2 p hp, hs.2 p hp, f4 5 (by omega), f4 1 (by omega), e5, show M1 1 = M 1 from t2 1 (by decide) (by decide) (by decide)]
        constructor
        · rintro ⟨z1, n, z2, -, z4⟩; exact ⟨z1, n, z2, z4⟩
        · rintro ⟨z1, n, z2, z4⟩
          refine ⟨z1, ?_⟩
          by_cases hm : n.1 ∈ n.2
          · obtain ⟨ρ, s1, s2⟩ := gSx_last n.2 hm
            obtain ⟨i, hi⟩ := List.getElem?_of_mem z2
            obtain ⟨j, -, j2⟩ := gAb_suf (U := M1 110) (fun i n' hn' => (t5.2 i n' hn').2.2.2.1) n.2 i n.1 hi n.1 ρ s1
            exact ⟨(n.1, ρ), List.mem_of_getElem? j2, s2, z4⟩
          · exact ⟨n, z2, hm, z4⟩)
      rw [eb1] at b4
      rw [ec2] at c5
      have eR : gx_R e := ⟨by have := he.1.1; omega, by have := he.1.2; omega⟩
      have sR : gx_R s := ⟨by have := hs.1.1; omega, by have := hs.1.2; omega⟩
      have lR : gx_R (L.length : Int) := ⟨by omega, by omega⟩
      have dR : gx_R (gdp L) := by
        have := hdR L.length
        rw [List.take_length] at this
        exact ⟨by omega, by omega⟩
      exact ⟨M6, l_would_364_10000 (by omega) ⟨by omega, by omega⟩ ⟨by omega, by omega⟩ a3 (by omega) rfl lR lR b4 (by omega) rfl eR eR c5 (by omega) rfl sR sR d6 (by omega) rfl dR dR (l_would_501 (Or.inr rfl) ⟨rfl, rfl⟩), f6, d8⟩
    | succ k ih =>
      intro p M2 hp hf htc
      have q1 : M2 104 0 = M 1 0 := by rw [hf 104 (by omega), e104]; exact eP
      have q108 : M2 108 = M1 108 := hf 108 (by omega)
      obtain ⟨h02, hL2⟩ := keep M2 hf
      obtain ⟨M3, a1, a2, a3⟩ := X_o_bound (l := l) (κ := κ) (d := 5) (by omega) (by omega) h02 htc hL2 (p := (p : Int)) (by rw [hf 1 (by omega), show M1 1 = M 1 from t2 1 (by decide) (by decide) (by decide)]; exact ⟨by omega, by omega⟩)
      obtain ⟨M', k1, k2, k3⟩ := ih (p + 1) M3 (by omega) (fun k hk => by rw [a2 k hk, hf k hk]) a3
      have hDm : ∀ i, gDo (gmo (p : Int) (L.take i)) := fun i => (gDo_mo (fun n hn => hD n (List.mem_of_mem_take hn) (p : Int) (by omega) (by omega))).1
      have most : ∀ (q i : Nat), i + q = L.length → gx_G l κ gx_sh z_mt zL_would d (379, [gR 1, gU, gU, gU, gR 105, gU, gR 109, gU, gU, gI (L.length : Int), gI e, gI s, gI (gdp L), gI (p : Int), gI (gcl (gmo (p : Int) (L.take i))), gI (i : Int)], [], M2) (gx_eq (some (gI 1)) M') := by
        intro q
        induction q with
        | zero =>
          intro i hi
          have hDL := hDm i
          rw [List.take_of_length_le (by omega)] at hDL ⊢
          have r1 := gcl_rng hDL
          have e32 := gcl_32 hDL
          by_cases cE : gmo (p : Int) L = 1073741824
          · rw [if_pos cE] at a1
            exact l_would_379_10 (by omega) ⟨by omega, by omega⟩ ⟨by omega, by omega⟩ a1 (by omega) (e32.mpr cE) ⟨by omega, by omega⟩ (l_would_445_1 rfl ⟨by decide, by decide⟩ ⟨by decide, by decide⟩ k1)
          · rw [if_neg cE] at a1
            have hn : ¬ gcl (gmo (p : Int) L) = 32767 := fun z => cE (e32.mp z)
            have en := gcl_n cE
            exact l_would_379_11 (by omega) ⟨by omega, by omega⟩ ⟨by omega, by omega⟩ a1 (by omega) hn ⟨by omega, by omega⟩ (l_would_445_1 en.symm ⟨by omega, by omega⟩ ⟨by omega, by omega⟩ k1)
        | succ q ihq =>
          intro i hi
          have hil : i < L.length := by omega
          have ha : L[i]? = some L[i] := List.getElem?_eq_getElem hil
          obtain ⟨⟨w1, -, -⟩, -⟩ := t5.2 i L[i] ha
          have hat := X_at (l := l) (κ := κ) (d := 0) (M := M2) w1.1 (p := (p : Int)) ⟨by omega, by omega⟩
          rw [w1.2 (p : Int) (by omega) (by omega), ← q108] at hat
          have hDi := hD L[i] (List.getElem_mem hil) (p : Int) (by omega) (by omega)
          have ri := gcl_rng hDi
          have rm := gcl_rng (hDm i)
          have hn := ihq (i + 1) (by omega)
          rw [List.take_add_one, ha] at hn
          have hn' : gx_G l κ gx_sh z_mt zL_would d (379, [gR 1, gU, gU, gU, gR 105, gU, gR 109, gU, gU, gI (L.length : Int), gI e, gI s, gI (gdp L), gI (p : Int), gI (gcl (gmo (p : Int) (L.take i ++ [L[i]]))), gI ((i + 1 : Nat) : Int)], [], M2) (gx_eq (some (gI 1)) M') := hn
          rw [gmo_app, gcl_max (hDm i) hDi] at hn'
          by_cases cc : gcl (gmk L[i].1 (p : Int)) ≤ gcl (gmo (p : Int) (L.take i))
          · rw [if_pos cc] at hn'
            exact l_would_379_01 (by omega) ⟨by omega, by omega⟩ ⟨by omega, by omega⟩ ⟨by omega, by omega⟩ hat (by omega) cc ⟨by omega, by omega⟩ ⟨by omega, by omega⟩ (l_would_416 hn')
          · rw [if_neg cc] at hn'
            exact l_would_379_00 (by omega) ⟨by omega, by omega⟩ ⟨by omega, by omega⟩ ⟨by omega, by omega⟩ hat (by omega) (by omega) ⟨by omega, by omega⟩ ⟨by omega, by omega⟩ hat (by omega) (l_would_416 hn')
      exact ⟨M', l_would_364_0 (by omega) ⟨by omega, by omega⟩ ⟨by omega, by omega⟩ (most L.length 0 (by omega)), k2, k3⟩
  -- endless places, moves, depth
  have scan : ∀ (q i : Nat) (e s : Int), i + q = L.length → (g16 e ∧ ∀ p : Nat, p < 4 → (gbt e p ↔ p < (M 1 0).toNat ∧ ∃ j n, j < i ∧ L[j]? = some n ∧ gmk n.1 (p : Int) = 1073741824)) → (g16 s ∧ ∀ p : Nat, p < 4 → (gbt s p ↔ p < (M 1 1).toNat ∧ ∃ j n, j < i ∧ L[j]? = some n ∧ gCn (M 5) (gmk n.1) (p : Int))) →
      ∃ M', gx_G l κ gx_sh z_mt zL_would d (262, [gR 1, gU, gU, gU, gR 105, gR 106, gR 109, gR 110, gU, gI (L.length : Int), gI e, gI s, gI (gdp (L.take i)), gI (i : Int), gU, gU], [], M1) (gx_eq (some (gI 1)) M') ∧ (∀ k, (k < 91 ∨ 104 ≤ k) → M' k = M1 k) ∧ gTC M' := by
    intro q
    induction q with
    | zero =>
      intro i e s hi he hs
      have conv : ∀ (R : gN → Prop), (∃ j n, j < i ∧ L[j]? = some n ∧ R n) ↔ ∃ n ∈ L, R n := fun R => by
        constructor
        · rintro ⟨j, n, -, z2, z3⟩; exact ⟨n, List.mem_of_getElem? z2, z3⟩
        · rintro ⟨n, z2, z3⟩
          obtain ⟨j, hj⟩ := List.getElem?_of_mem z2
          exact ⟨j, n, by have := (List.getElem?_eq_some_iff.mp hj).1; omega, hj, z3⟩
      obtain ⟨M', k1, k2, k3⟩ := bnd e s ⟨he.1, fun p hp => by rw [he.2 p hp, conv (fun n => gmk n.1 (p : Int) = 1073741824)]⟩ ⟨hs.1, fun p hp => by rw [hs.2 p hp, conv (fun n => gCn (M 5) (gmk n.1) (p : Int))]⟩ (M 1 0).toNat 0 M1 (by omega) (fun _ _ => rfl) hTC1
      rw [List.take_of_length_le (by omega)]
      exact ⟨M', l_would_262_1 (by omega) ⟨by omega, by omega⟩ ⟨by omega, by omega⟩ k1, k2, k3⟩
    | succ q ihq =>
      intro i e s hi he hs
      have hil : i < L.length := by omega
      have ha : L[i]? = some L[i] := List.getElem?_eq_getElem hil
      obtain ⟨⟨w1, w2, w3⟩, w4, -⟩ := t5.2 i L[i] ha
      have hDi := hD L[i] (List.getElem_mem hil)
      have dr := hdR i
      have step : ∀ (R : gN → Prop), (∃ j n, j < i + 1 ∧ L[j]? = some n ∧ R n) ↔ (∃ j n, j < i ∧ L[j]? = some n ∧ R n) ∨ R L[i] := fun R => by
        constructor
        · rintro ⟨j, n, z1, z2, z3⟩
          by_cases ej : j = i
          · subst ej
            rw [ha] at z2
            cases z2
            exact Or.inr z3
          · exact Or.inl ⟨j, n, by omega, z2, z3⟩
        · rintro (⟨j, n, z1, z2, z3⟩ | z)
          · exact ⟨j, n, by omega, z2, z3⟩
          · exact ⟨i, L[i], by omega, ha, z⟩
      have hmv := X_moves (l := l) (κ := κ) (d := 2) (M := M1) (by omega) hN1.1 w1.1
      have eg : gset (gCan M1 (M1 108 (i : Int))) (M1 104 1).toNat = gset (gCn (M 5) (gmk L[i].1)) (M 1 1).toNat := by
        rw [e104, eV]
        refine gset_congr _ (fun j j1 j2 => ?_)
        have := gCan_Ct hN1 w1 hDi (m := j) ⟨j1, by omega⟩
        rw [e5] at this
        exact this
      rw [eg] at hmv
      have g16m := gset_4 (gCn (M 5) (gmk L[i].1)) hV4
      obtain ⟨o1, o2⟩ := gb_or2 hs.1 g16m
      have pl : ∀ (r p : Nat) (e' : Int), p + r = (M 1 0).toNat → (g16 e' ∧ ∀ q : Nat, q < 4 → (gbt e' q ↔ gbt e q ∨ (q < p ∧ gmk L[i].1 (q : Int) = 1073741824))) →
          ∃ M', gx_G l κ gx_sh z_mt zL_would d (272, [gR 1, gU, gU, gU, gR 105, gR 106, gR 109, gR 110, gU, gI (L.length : Int), gI e', gI s, gI (gdp (L.take i)), gI (i : Int), gI (p : Int), gU], [], M1) (gx_eq (some (gI 1)) M') ∧ (∀ k, (k < 91 ∨ 104 ≤ k) → M' k = M1 k) ∧ gTC M' := by
        intro r
        induction r with
        | zero =>
          intro p e' hp he'
          have hn := ihq (i + 1) e' (gx_or s (gset (gCn (M 5) (gmk L[i].1)) (M 1 1).toNat)) (by omega) ⟨he'.1, fun q hq => by
            rw [he'.2 q hq, he.2 q hq, step (fun n => gmk n.1 (q : Int) = 1073741824)]
            constructor
            · rintro (⟨z1, z2⟩ | ⟨z1, z2⟩)
              · exact ⟨z1, Or.inl z2⟩
              · exact ⟨by omega, Or.inr z2⟩
            · rintro ⟨z1, z2 | z2⟩
              · exact Or.inl ⟨z1, z2⟩
              · exact Or.inr ⟨by omega, z2⟩⟩ ⟨o1, fun q hq => by
            rw [o2 q hq, hs.2 q hq, gset_bits hV4 hq, step (fun n => gCn (M 5) (gmk n.1) (q : Int))]
            constructor
            · rintro (⟨z1, z2⟩ | ⟨z1, z2⟩)
              · exact ⟨z1, Or.inl z2⟩
              · exact ⟨z1, Or.inr z2⟩
            · rintro ⟨z1, z2 | z2⟩
              · exact Or.inl ⟨z1, z2⟩
              · exact Or.inr ⟨z1, z2⟩⟩
          obtain ⟨M', k1, k2⟩ := hn
          rw [List.take_add_one, ha] at k1
          have k1' : gx_G l κ gx_sh z_mt zL_would d (262, [gR 1, gU, gU, gU, gR 105, gR 106, gR 109, gR 110, gU, gI (L.length : Int), gI e', gI (gx_or s (gset (gCn (M 5) (gmk L[i].1)) (M 1 1).toNat)), gI (gdp (L.take i ++ [L[i]])), gI ((i + 1 : Nat) : Int), gU, gU], [], M1) (gx_eq (some (gI 1)) M') := k1
          rw [gdp_app] at k1'
          refine ⟨M', ?_, k2⟩
          have eP1 : M1 104 0 = M 1 0 := by rw [e104]; exact eP
          by_cases cc : (L[i].2.length : Int) ≤ gdp (L.take i)
          · rw [show max (gdp (L.take i)) (L[i].2.length : Int) = gdp (L.take i) from by omega] at k1'
            exact l_would_272_11 (by omega) ⟨by omega, by omega⟩ ⟨by omega, by omega⟩ ⟨by omega, by omega⟩ hmv (by omega) (by rw [w2]; exact cc) (by rw [w2]; exact ⟨by omega, by omega⟩) ⟨by omega, by omega⟩ (l_would_353 k1')
          · rw [show max (gdp (L.take i)) (L[i].2.length : Int) = M1 109 (i : Int) from by rw [w2]; omega] at k1'
            exact l_would_272_10 (by omega) ⟨by omega, by omega⟩ ⟨by omega, by omega⟩ ⟨by omega, by omega⟩ hmv (by omega) (by rw [w2]; omega) (by rw [w2]; exact ⟨by omega, by omega⟩) ⟨by omega, by omega⟩ (l_would_353 k1')
        | succ r ihr =>
          intro p e' hp he'
          have eP1 : M1 104 0 = M 1 0 := by rw [e104]; exact eP
          have hat := X_at (l := l) (κ := κ) (d := 0) (M := M1) w1.1 (p := (p : Int)) ⟨by omega, by omega⟩
          rw [w1.2 (p : Int) (by omega) (by omega)] at hat
          have hDp := hDi (p : Int) (by omega) (by omega)
          have rp := gcl_rng hDp
          have e32 := gcl_32 hDp
          have e0 : gx_or e' 0 = e' := gb_or_0 ⟨he'.1.1, by have := he'.1.2; omega⟩
          by_cases cE : gmk L[i].1 (p : Int) = 1073741824
          · obtain ⟨u1, u2⟩ := gb_orb he'.1 (show p < 4 by omega)
            obtain ⟨M', k1, k2⟩ := ihr (p + 1) (gx_or e' (gx_shl 1 (p : Int))) (by omega) ⟨u1, fun q hq => by
              rw [u2 q hq, he'.2 q hq]
              constructor
              · rintro ((z | z) | z)
                · exact Or.inl z
                · exact Or.inr ⟨by omega, z.2⟩
                · exact Or.inr ⟨by omega, by rw [z]; exact cE⟩
              · rintro (z | ⟨z1, z2⟩)
                · exact Or.inl (Or.inl z)
                · by_cases eq : q = p
                  · exact Or.inr eq
                  · exact Or.inl (Or.inr ⟨by omega, z2⟩)⟩
            exact ⟨M', l_would_272_00 (by omega) ⟨by omega, by omega⟩ ⟨by omega, by omega⟩ ⟨by omega, by omega⟩ hat (by omega) (e32.mpr cE) ⟨by omega, by omega⟩ (l_would_307 k1), k2⟩
          · obtain ⟨M', k1, k2⟩ := ihr (p + 1) e' (by omega) ⟨he'.1, fun q hq => by
              rw [he'.2 q hq]
              constructor
              · rintro (z | z)
                · exact Or.inl z
                · exact Or.inr ⟨by omega, z.2⟩
              · rintro (z | ⟨z1, z2⟩)
                · exact Or.inl z
                · by_cases eq : q = p
                  · rw [eq] at z2; exact absurd z2 cE
                  · exact Or.inr ⟨by omega, z2⟩⟩
            refine ⟨M', l_would_272_01 (by omega) ⟨by omega, by omega⟩ ⟨by omega, by omega⟩ ⟨by omega, by omega⟩ hat (by omega) (fun z => cE (e32.mp z)) ⟨by omega, by omega⟩ (l_would_307 ?_), k2⟩
            rw [e0]
            exact k1
      obtain ⟨M', k1, k2⟩ := pl (M 1 0).toNat 0 e (by omega) ⟨he.1, fun q hq => ⟨Or.inl, fun z => by
        rcases z with z | z
        · exact z
        · omega⟩⟩
      exact ⟨M', l_would_262_0 (by omega) ⟨by omega, by omega⟩ ⟨by omega, by omega⟩ k1, k2⟩
  obtain ⟨M', k1, k2, k3⟩ := scan L.length 0 0 0 (by omega) ⟨⟨by decide, by decide⟩, fun p hp => ⟨fun z => absurd z (gb_f0 p hp), fun ⟨_, j, _, z, _⟩ => by omega⟩⟩ ⟨⟨by decide, by decide⟩, fun p hp => ⟨fun z => absurd z (gb_f0 p hp), fun ⟨_, j, _, z, _⟩ => by omega⟩⟩
  subst t4
  exact ⟨M', l_would_225_1 t1 (by omega) (by omega) ⟨by omega, by omega⟩ k1, fun k h1 h2 h3 h4 => by rw [k2 k h1, t2 k h2 h3 h4], k3⟩
theorem X_l_would {M : gx_M} {x now : Int} (hd : 7 ≤ d) (hb : b ≤ 10000) (h0 : gI0 M b c) (hR : gLR M now) (hRC : gRC M) (hTC : gTC M) :
    ∃ M', gx_X l κ gx_sh z_mt zL_would d [gR 1, gI x, gJ now, gR 105, gR 106, gR 109, gR 110, gR 111] M (gx_eq (some (gI 1)) M') ∧ (∀ k, (k < 79 ∨ 104 ≤ k) → k ≠ 108 → k ≠ 109 → k ≠ 110 → M' k = M k) ∧ gRC M' ∧ gTC M' := by
  obtain ⟨r, M1, t1, t2, t3⟩ := X_lreach (l := l) (κ := κ) (d := 2) (by omega) hR h0 hb
  have hRC1 := gRC_kept hRC (M' := M1) (fun k k1 k2 => t2 k (by omega) (by omega))
  have hTC1 := gTC_kept hTC (M' := M1) (fun k k1 k2 => t2 k (by omega) (by omega))
  have h01 : gI0 M1 b c := gI0_kept h0 (fun k hk => t2 k (by omega) (by omega)) (by rw [t2 7 (by decide) (by decide)]; exact h0.2.2.1)
  have mkR : ∀ M2 : gx_M, (∀ k, (k < 8 ∨ 104 ≤ k) → k ≤ 107 → M2 k = M k) → gLR M2 now := fun M2 hf => by
    unfold gLR gL at *
    rw [hf 1 (by omega) (by omega), hf 2 (by omega) (by omega), hf 5 (by omega) (by omega), hf 6 (by omega) (by omega), hf 104 (by omega) (by omega), hf 105 (by omega) (by omega)]
    exact hR
  rcases t3 with t3 | ⟨L, hL, t4, t5⟩
  · obtain ⟨M', k1, k2, k3⟩ := L_growth (l := l) (κ := κ) (d := d) (by omega) hb h01 (mkR M1 (fun k _ hk => t2 k (by omega) (by omega))) hTC1
    exact ⟨M', l_would_e_1 t1 (by omega) (by omega) (by rw [t3]; exact ⟨by decide, by decide⟩) k1, fun k h1 h2 h3 h4 => by rw [k2 k (by omega) h2 h3 h4, t2 k h2 h3], gRC_kept hRC1 (fun k k1 k2' => k2 k (by omega) (by omega) (by omega) (by omega)), k3⟩
  · have hl := t5.1
    have hLc := (gBf_cap (show 60 ≤ 300 by decide) 60 300 0 (by decide) (by decide) (by show 1 ≤ 60; decide) hL).1
    have hmon : gMon L := gBf_mon 60 0 (by show 1 ≤ 60; decide) (fun i j a b' hij hi hj => by
      have h1 := (List.getElem?_eq_some_iff.mp hi).1
      have h2 := (List.getElem?_eq_some_iff.mp hj).1
      have e1 : i = 0 := by have h3 : i < 1 := h1; omega
      have e2 : j = 0 := by have h3 : j < 1 := h2; omega
      subst e1
      subst e2
      rw [hi] at hj
      cases hj
      exact Int.le_refl _) (fun a ha b' hb' => by
      rcases List.mem_cons.mp hb' with e | e
      · subst e
        have e2 : ((gtp (M 2), 0) : gE) = a := Option.some.inj ha
        rw [← e2]
        show (0 : Int) ≤ 0 + 1
        decide
      · cases e) hL
    have hN1 : gLN M1 := gLN_kept (gLN_of hR h0) (fun k hk => t2 k (by omega) (by omega))
    subst t4
    obtain ⟨M', k1, k2, k3, k4⟩ := L_reached (l := l) (κ := κ) (d := d) (x := x) (now := now) (P := fun M' => (∀ k, (k < 79 ∨ 104 ≤ k) → k ≠ 108 → k ≠ 109 → k ≠ 110 → M' k = M k) ∧ gRC M' ∧ gTC M') hd hb h01 hN1 hRC1 t5 hmon (by rw [t2 5 (by decide) (by decide), t2 6 (by decide) (by decide), t2 1 (by decide) (by decide), t2 2 (by decide) (by decide)]; exact hLc) (fun M2 f1 f2 => by
      have hTC2 := gTC_kept hTC1 (M' := M2) (fun k k1 k2 => f1 k (by omega))
      have h02 : gI0 M2 b c := gI0_kept h01 (fun k hk => f1 k (by omega)) (by rw [f1 7 (by omega)]; exact h01.2.2.1)
      obtain ⟨M', k1, k2, k3⟩ := L_growth (l := l) (κ := κ) (d := d) (by omega) hb h02 (mkR M2 (fun k hk1 hk => by rw [f1 k (by omega), t2 k (by omega) (by omega)])) hTC2
      exact ⟨M', k1, fun k h1 h2 h3 h4 => by rw [k2 k (by omega) h2 h3 h4, f1 k (by omega), t2 k h2 h3], gRC_kept f2 (fun k k1 k2' => k2 k (by omega) (by omega) (by omega) (by omega)), k3⟩)
    exact ⟨M', l_would_e_0 t1 (by omega) (by omega) ⟨by omega, by omega⟩ k1, k2, k3, k4⟩
end GROWTH
