/-! the law's search -/
theorem gx_c3_0 (a b : Int) : gx_c3 a b = 0 ↔ a = b := by
  unfold gx_c3
  by_cases h1 : b < a
  · rw [if_pos h1]; omega
  · rw [if_neg h1]
    by_cases h2 : a = b
    · rw [if_pos h2]; omega
    · rw [if_neg h2]; omega
theorem gx_c3_R (a b : Int) : gx_R (gx_c3 a b) := by
  unfold gx_c3
  by_cases h1 : b < a
  · rw [if_pos h1]; exact ⟨by decide, by decide⟩
  · rw [if_neg h1]
    by_cases h2 : a = b
    · rw [if_pos h2]; exact ⟨by decide, by decide⟩
    · rw [if_neg h2]; exact ⟨by decide, by decide⟩
theorem gM_RL {x : Int} (h : gM x) : gx_RL x := ⟨by omega, by omega⟩
/-- a long holds a marking -/
def gHo (x : Int) (a : gK) : Prop := gM x ∧ ∀ p, 0 ≤ p → p < 4 → ga x p = gmk a p
theorem gHo_eq {x y : Int} {a a' : gK} (h : gHo x a) (h' : gHo y a') : x = y ↔ a = a' := by
  constructor
  · intro e
    refine gmk_ext (fun p p1 p2 => ?_)
    rw [← h.2 p p1 p2, ← h'.2 p p1 p2, e]
  · intro e
    refine ga_inj h.1 h'.1 (fun p p1 p2 => ?_)
    rw [h.2 p p1 p2, h'.2 p p1 p2, e]
/-- small enough for the law's longs -/
def gSl (a : gE) : Prop := 0 ≤ a.2 ∧ ∀ p, 0 ≤ p → p < 4 → 0 ≤ gmk a.1 p ∧ gmk a.1 p ≤ 10000 + 9 * a.2
def gLS (M : gx_M) (L : List gE) : Prop := L.length ≤ 60 ∧ ∀ (i : Nat) (a : gE), L[i]? = some a → gHo (M 108 (i : Int)) a.1 ∧ M 109 (i : Int) = a.2 ∧ a.2 ≤ (i : Int) ∧ gSl a
/-- the law's net and the class's, as far as the search asks -/
def gLN (M : gx_M) : Prop := gL M ∧ (M 104 0 = M 1 0 ∧ M 104 1 = M 1 1) ∧ (∀ m p, 0 ≤ m → m < 4 → 0 ≤ p → p < 4 → M 105 (4 * m + p) / 16 = M 5 (m * 8 + p) ∧ M 105 (4 * m + p) % 16 = M 6 (m * 8 + p)) ∧ gAr M 5 6 ∧ ∀ i, 0 ≤ i → i < 64 → (M 1 0 ≤ i % 8 ∨ M 1 1 ≤ i / 8) → M 5 i = 0 ∧ M 6 i = 0
theorem gLN_of {M : gx_M} {now b c : Int} (h : gLR M now) (h0 : gI0 M b c) : gLN M := ⟨h.1, h.2.2.1, fun m p m1 m2 p1 p2 => gLR_arc h h0 ⟨m1, m2⟩ ⟨p1, p2⟩, h0.1.2.1, h0.2.2.2.2.2⟩
theorem gLN_kept {M M' : gx_M} (h : gLN M) (hk : ∀ k, k ≤ 107 → M' k = M k) : gLN M' := by
  unfold gLN gL gAr at *
  rw [hk 104 (by decide), hk 105 (by decide), hk 1 (by decide), hk 5 (by decide), hk 6 (by decide)]
  exact h
theorem gCan_Cn {M : gx_M} (h : gLN M) {x : Int} {a : gK} (hx : gHo x a) (hp : ∀ p, 0 ≤ p → p < 4 → 0 ≤ gmk a p) {m : Int} (hm : 0 ≤ m ∧ m < 4) : gCan M x m ↔ gCn (M 5) (gmk a) m := by
  obtain ⟨h1, ⟨h2, h3⟩, h4, h5, h6⟩ := h
  have hP := h1.1.1
  constructor
  · intro z p p1 p2
    by_cases hpP : p < M 104 0
    · have := z p p1 hpP
      rw [(h4 m p hm.1 hm.2 p1 (by omega)).1, hx.2 p p1 (by omega)] at this
      exact this
    · rw [(h6 (m * 8 + p) (by omega) (by omega) (Or.inl (by omega))).1]
      by_cases h4' : p < 4
      · exact hp p p1 h4'
      · rw [gmk_hi a (by omega)]; exact Int.le_refl 0
  · intro z p p1 p2
    rw [(h4 m p hm.1 hm.2 p1 (by omega)).1, hx.2 p p1 (by omega)]
    exact z p p1 (by omega)
theorem gNx_sl {tk gv : Int → Int} {a : gE} {m : Nat} (hm : m < 8) (hA : ∀ i, 0 ≤ i → i < 64 → (0 ≤ tk i ∧ tk i ≤ 9) ∧ (0 ≤ gv i ∧ gv i ≤ 9)) (ha : gSl a) (ha2 : a.2 ≤ 300) (hc : gCn tk (gmk a.1) (m : Int)) : gSl (gNx tk gv a m) ∧ ∀ p, 0 ≤ p → p < 4 → gmk (gNx tk gv a m).1 p = gmk a.1 p - tk ((m : Int) * 8 + p) + gv ((m : Int) * 8 + p) := by
  have e : ∀ p, 0 ≤ p → p < 4 → gmk (gNx tk gv a m).1 p = gmk a.1 p - tk ((m : Int) * 8 + p) + gv ((m : Int) * 8 + p) := by
    intro p p1 p2
    have h1 := ha.2 p p1 p2
    show gmk (gtp (gSt tk gv (gmk a.1) (m : Int))) p = _
    rw [gmk_tp _ ⟨p1, p2⟩]
    unfold gSt
    rw [if_neg (by omega)]
  refine ⟨⟨by show 0 ≤ a.2 + 1; have := ha.1; omega, fun p p1 p2 => ?_⟩, e⟩
  have h1 := ha.2 p p1 p2
  have h2 := hA ((m : Int) * 8 + p) (by omega) (by omega)
  have h3 : tk ((m : Int) * 8 + p) ≤ gmk a.1 p := hc p p1 (by omega)
  rw [e p p1 p2]
  show 0 ≤ _ ∧ _ ≤ 10000 + 9 * (a.2 + 1)
  omega
section LREACH
variable {l : Launch} {κ : yK} {d : Nat}
/-- what the law's behind makes of a marking -/
theorem X_behindL {M : gx_M} (hd : 1 ≤ d) (h : gLN M) {x : Int} {a : gE} (hx : gHo x a.1) (ha : gSl a) (ha2 : a.2 ≤ 300) {m : Nat} (hm : m < 4) (hc : gCn (M 5) (gmk a.1) (m : Int)) :
    ∃ r, gx_X l κ gx_sh z_mt zL_behind d [gJ x, gI (m : Int), gR 105, gR 106] M (gx_eq (some (gJ r)) M) ∧ gHo r (gNx (M 5) (M 6) a m).1 := by
  have h0 := h
  obtain ⟨h1, ⟨h2, h3⟩, h4, h5, h6⟩ := h
  have hP := h1.1.1
  obtain ⟨s1, s2⟩ := gNx_sl (gv := M 6) (m := m) (by omega) h5 ha ha2 hc
  have val : ∀ p, 0 ≤ p → p < 4 → ga x p = gmk a.1 p ∧ 0 ≤ gmk a.1 p ∧ gmk a.1 p < 32700 := fun p p1 p2 => by
    have := ha.2 p p1 p2
    exact ⟨hx.2 p p1 p2, by omega, by omega⟩
  obtain ⟨r, r1, r2, r3⟩ := X_behind (l := l) (κ := κ) (d := d) (M := M) (mk := x) (m := (m : Int)) hd h1 hx.1 ⟨by omega, by omega⟩ (fun p p1 p2 p3 => by
    obtain ⟨v1, v2, v3⟩ := val p p1 (by omega)
    have h7 := h4 (m : Int) p (by omega) (by omega) p1 (by omega)
    have h8 := h5 ((m : Int) * 8 + p) (by omega) (by omega)
    have h9 : M 5 ((m : Int) * 8 + p) ≤ gmk a.1 p := hc p p1 (by omega)
    rw [h7.1, h7.2, v1]
    omega)
  refine ⟨r, r1, r2, fun p p1 p2 => ?_⟩
  obtain ⟨v1, v2, v3⟩ := val p p1 p2
  rw [r3 p p1 p2, s2 p p1 p2, v1]
  by_cases hpP : p < M 104 0
  · have h7 := h4 (m : Int) p (by omega) (by omega) p1 p2
    rw [if_pos ⟨hpP, by omega⟩, h7.1, h7.2]
  · rw [if_neg (fun z => hpP z.1)]
    have h8 := h6 ((m : Int) * 8 + p) (by omega) (by omega) (Or.inl (by omega))
    rw [h8.1, h8.2]
    omega
theorem gLS_app {M M' : gx_M} {L : List gE} {x : gE} {r : Int} (h : gLS M L) (hn : L.length < 60) (hx : gHo r x.1) (hx2 : x.2 ≤ (L.length : Int)) (hs : gSl x) (e1 : ∀ q, M' 108 q = if q = (L.length : Int) then r else M 108 q) (e2 : ∀ q, M' 109 q = if q = (L.length : Int) then x.2 else M 109 q) : gLS M' (L ++ [x]) := by
  refine ⟨by rw [List.length_append]; show L.length + 1 ≤ 60; omega, fun i a hi => ?_⟩
  by_cases hil : i < L.length
  · rw [List.getElem?_append_left hil] at hi
    obtain ⟨q1, q2, q3, q4⟩ := h.2 i a hi
    rw [e1, e2, if_neg (by omega), if_neg (by omega)]
    exact ⟨q1, q2, q3, q4⟩
  · have hi' := (List.getElem?_eq_some_iff.mp hi).1
    rw [List.length_append] at hi'
    have e0 : i = L.length := by
      have : [x].length = 1 := rfl
      omega
    subst e0
    rw [List.getElem?_append_right (Nat.le_refl _), Nat.sub_self] at hi
    have e : x = a := Option.some.inj hi
    subst e
    rw [e1, e2, if_pos rfl, if_pos rfl]
    exact ⟨hx, rfl, hx2, hs⟩
def gLW (M M' : gx_M) (V : Nat) (L00 : List gE) (r : Int) : Prop := r = 61 ∨ ∃ L, gBf (M 5) (M 6) V 60 60 0 L00 = some L ∧ r = (L.length : Int) ∧ gLS M' L
theorem X_lreachIn {M : gx_M} (hd : 2 ≤ d) (h : gLN M) {V : Nat} (hV : M 1 1 = (V : Int)) (L00 : List gE) {k : Nat} {a : gE} {L0 : List gE} (hk : k < 60)
    (kk : ∀ (M1 : gx_M) (L : List gE), (∀ q, q ≤ 107 → M1 q = M q) → gLS M1 L → gFo (M 5) (M 6) 60 a V L0 = some L → ∃ r M', gx_G l κ gx_sh z_mt zL_reach d (16, [gU, gU, gR 105, gR 106, gR 109, gR 110, gI (L.length : Int), gI ((k : Int) + 1), gU, gU, gU, gU, gU], [], M1) (gx_eq (some (gI r)) M') ∧ (∀ q, q ≠ 108 → q ≠ 109 → M' q = M1 q) ∧ gLW M M' V L00 r) :
    ∀ (j m : Nat) (M1 : gx_M) (L : List gE), m + j = V → (∀ q, q ≤ 107 → M1 q = M q) → gLS M1 L → L[k]? = some a → gFo (M 5) (M 6) 60 a m L0 = some L →
      ∃ r M', gx_G l κ gx_sh z_mt zL_reach d (26, [gU, gU, gR 105, gR 106, gR 109, gR 110, gI (L.length : Int), gI (k : Int), gI (m : Int), gU, gU, gU, gU], [], M1) (gx_eq (some (gI r)) M') ∧ (∀ q, q ≠ 108 → q ≠ 109 → M' q = M1 q) ∧ gLW M M' V L00 r := by
  have hV4 : V ≤ 4 := by have := h.1.1.2; have := h.2.1.2; omega
  intro j
  induction j with
  | zero =>
    intro m M1 L hm hf hS ha hF
    have e : m = V := by omega
    subst e
    have e1 : M1 104 1 = (m : Int) := by rw [hf 104 (by decide), h.2.1.2]; exact hV
    obtain ⟨r, M', k1, k2, k3⟩ := kk M1 L hf hS hF
    exact ⟨r, M', reach_26_1 (by omega) ⟨by omega, by omega⟩ ⟨by omega, by omega⟩ k1, k2, k3⟩
  | succ j ih =>
    intro m M1 L hm hf hS ha hF
    have hm4 : m < 4 := by omega
    have h1 := gLN_kept h hf
    have e1 : M1 104 1 = (V : Int) := by rw [hf 104 (by decide), h.2.1.2]; exact hV
    have e5 := hf 5 (by decide)
    have e6 := hf 6 (by decide)
    have hl := hS.1
    obtain ⟨r1, r2, r3, r4⟩ := hS.2 k a ha
    have hkl : k < L.length := (List.getElem?_eq_some_iff.mp ha).1
    have g1 : (m : Int) < M1 104 1 := by omega
    have g2 : gx_R (m : Int) := ⟨by omega, by omega⟩
    have g3 : gx_R (M1 104 1) := ⟨by omega, by omega⟩
    have hcan := X_can (l := l) (κ := κ) (d := 1) (M := M1) (m := (m : Int)) (by omega) h1.1 r1.1 ⟨by omega, by omega⟩
    have hiff := gCan_Cn h1 r1 (fun p p1 p2 => (r4.2 p p1 p2).1) (m := (m : Int)) ⟨by omega, by omega⟩
    rw [gi_congr hiff, e5] at hcan
    have eF : gFo (M 5) (M 6) 60 a (m + 1) L0 = (gFo (M 5) (M 6) 60 a m L0).bind (fun L' => @ite _ (gCn (M 5) (gmk a.1) (m : Int)) (Classical.propDecidable _) (gMeet 60 L' (gNx (M 5) (M 6) a m)) (some L')) := rfl
    rw [hF] at eF
    by_cases hc : gCn (M 5) (gmk a.1) (m : Int)
    · rw [gi_pos hc] at hcan
      have eF2 : gFo (M 5) (M 6) 60 a (m + 1) L0 = gMeet 60 L (gNx (M 5) (M 6) a m) := by
        rw [eF]
        exact @if_pos _ (Classical.propDecidable _) hc _ _ _
      obtain ⟨th, t1, t2⟩ := X_behindL (l := l) (κ := κ) (d := 1) (by omega) h1 r1 r4 (by omega) hm4 (by rw [e5]; exact hc)
      rw [e5, e6] at t2
      have hsl := (gNx_sl (gv := M 6) (m := m) (by omega) h.2.2.2.1 r4 (by omega) hc).1
      -- the comparison with those that are there
      have cmp : ∀ (q i : Nat) (is_ : Int), i + q = L.length → is_ = gi (∃ i' b, i' < i ∧ L[i']? = some b ∧ b.1 = (gNx (M 5) (M 6) a m).1) →
          ∃ r M', gx_G l κ gx_sh z_mt zL_reach d (72, [gU, gU, gR 105, gR 106, gR 109, gR 110, gI (L.length : Int), gI (k : Int), gI (m : Int), gJ th, gU, gI is_, gI (i : Int)], [], M1) (gx_eq (some (gI r)) M') ∧ (∀ q, q ≠ 108 → q ≠ 109 → M' q = M1 q) ∧ gLW M M' V L00 r := by
        intro q
        induction q with
        | zero =>
          intro i is_ hi his
          have iR : gx_R is_ := by rw [his]; exact gi_R _
          have g4 : gx_R (i : Int) := ⟨by omega, by omega⟩
          have g5 : gx_R (L.length : Int) := ⟨by omega, by omega⟩
          have hmem : (∃ i' b, i' < i ∧ L[i']? = some b ∧ b.1 = (gNx (M 5) (M 6) a m).1) ↔ ∃ y ∈ L, y.1 = (gNx (M 5) (M 6) a m).1 := by
            constructor
            · rintro ⟨i', b, -, h2, h3⟩
              exact ⟨b, List.mem_of_getElem? h2, h3⟩
            · rintro ⟨y, h2, h3⟩
              obtain ⟨i', hi'⟩ := List.getElem?_of_mem h2
              exact ⟨i', y, by have := (List.getElem?_eq_some_iff.mp hi').1; omega, hi', h3⟩
          rw [gi_congr hmem] at his
          by_cases hy : ∃ y ∈ L, y.1 = (gNx (M 5) (M 6) a m).1
          · rw [gi_pos hy] at his
            obtain ⟨r, M', k1, k2, k3⟩ := ih (m + 1) M1 L (by omega) hf hS ha (by rw [eF2, gMeet_in hy])
            exact ⟨r, M', reach_72_10 (by omega) g4 g5 (by omega) iR (reach_148 k1), k2, k3⟩
          · rw [gi_neg hy] at his
            by_cases hn : L.length = 60
            · exact ⟨61, M1, reach_72_110 (by omega) g4 g5 his iR (by omega) ⟨rfl, rfl⟩, fun _ _ _ => rfl, Or.inl rfl⟩
            · have ef : ∀ q, (gx_up (gx_up M1 109 (L.length : Int) (M1 109 (k : Int) + 1)) 108 (L.length : Int) th) 108 q = if q = (L.length : Int) then th else M1 108 q := fun q => by rw [gx_up_at, gx_up_ne (by decide)]
              have eg : ∀ q, (gx_up (gx_up M1 109 (L.length : Int) (M1 109 (k : Int) + 1)) 108 (L.length : Int) th) 109 q = if q = (L.length : Int) then (gNx (M 5) (M 6) a m).2 else M1 109 q := fun q => by rw [gx_up_ne (by decide), gx_up_at, r2]; rfl
              have efr : ∀ q, q ≠ 108 → q ≠ 109 → (gx_up (gx_up M1 109 (L.length : Int) (M1 109 (k : Int) + 1)) 108 (L.length : Int) th) q = M1 q := fun q q1 q2 => by rw [gx_up_ne q1, gx_up_ne q2]
              have hS2 := gLS_app hS (by omega) t2 (by show a.2 + 1 ≤ (L.length : Int); omega) hsl ef eg
              obtain ⟨r, M', k1, k2, k3⟩ := ih (m + 1) _ (L ++ [gNx (M 5) (M 6) a m]) (by omega) (fun q hq => by rw [efr q (by omega) (by omega)]; exact hf q hq) hS2 (by rw [List.getElem?_append_left hkl]; exact ha) (by rw [eF2, gMeet_out hy, if_neg hn])
              have hlen : ((L ++ [gNx (M 5) (M 6) a m]).length : Int) = (L.length : Int) + 1 := by rw [List.length_append]; rfl
              rw [hlen] at k1
              exact ⟨r, M', reach_72_111 (by omega) g4 g5 his iR (by omega) ⟨by omega, by omega⟩ ⟨by omega, by omega⟩ (reach_148 k1), fun q q1 q2 => by rw [k2 q q1 q2, efr q q1 q2], k3⟩
        | succ q ihq =>
          intro i is_ hi his
          have iR : gx_R is_ := by rw [his]; exact gi_R _
          have g4 : gx_R (i : Int) := ⟨by omega, by omega⟩
          have g5 : gx_R (L.length : Int) := ⟨by omega, by omega⟩
          have hil : i < L.length := by omega
          obtain ⟨b, hb⟩ : ∃ b, L[i]? = some b := ⟨L[i], List.getElem?_eq_getElem hil⟩
          obtain ⟨b1, b2, b3, b4⟩ := hS.2 i b hb
          have nxt : ∀ v, v = gi (is_ = 1 ∨ b.1 = (gNx (M 5) (M 6) a m).1) → ∃ r M', gx_G l κ gx_sh z_mt zL_reach d (72, [gU, gU, gR 105, gR 106, gR 109, gR 110, gI (L.length : Int), gI (k : Int), gI (m : Int), gJ th, gU, gI v, gI ((i : Int) + 1)], [], M1) (gx_eq (some (gI r)) M') ∧ (∀ q, q ≠ 108 → q ≠ 109 → M' q = M1 q) ∧ gLW M M' V L00 r := by
            intro v hv
            refine ihq (i + 1) v (by omega) ?_
            rw [hv]
            refine gi_congr ⟨?_, ?_⟩
            · rintro (h | h)
              · obtain ⟨i', b', h1, h2⟩ := gi_1 (his.symm.trans h)
                exact ⟨i', b', by omega, h2⟩
              · exact ⟨i, b, by omega, hb, h⟩
            · rintro ⟨i', b', h1, h2, h3⟩
              by_cases e : i' = i
              · subst e
                rw [hb] at h2
                cases h2
                exact Or.inr h3
              · refine Or.inl ?_
                rw [his]
                exact gi_pos ⟨i', b', by omega, h2, h3⟩
          by_cases c0 : is_ = 0
          · by_cases ce : M1 108 (i : Int) = th
            · have e := (gHo_eq b1 t2).mp ce
              obtain ⟨r, M', k1, k2⟩ := nxt 1 (gi_pos (Or.inr e)).symm
              exact ⟨r, M', reach_72_000 (by omega) g4 g5 c0 iR ⟨by omega, by omega⟩ (gM_RL b1.1) (gM_RL t2.1) ((gx_c3_0 _ _).mpr ce) (gx_c3_R _ _) (reach_95 (reach_100 k1)), k2⟩
            · have e : ¬ b.1 = (gNx (M 5) (M 6) a m).1 := fun z => ce ((gHo_eq b1 t2).mpr z)
              obtain ⟨r, M', k1, k2⟩ := nxt 0 (gi_neg (fun z => by
                rcases z with z | z
                · omega
                · exact e z)).symm
              exact ⟨r, M', reach_72_001 (by omega) g4 g5 c0 iR ⟨by omega, by omega⟩ (gM_RL b1.1) (gM_RL t2.1) (fun z => ce ((gx_c3_0 _ _).mp z)) (gx_c3_R _ _) (reach_100 k1), k2⟩
          · have c1 : is_ = 1 := by
              rcases gi_rng (∃ i' b, i' < i ∧ L[i']? = some b ∧ b.1 = (gNx (M 5) (M 6) a m).1) with e | e
              · omega
              · omega
            obtain ⟨r, M', k1, k2⟩ := nxt 1 (gi_pos (Or.inl c1)).symm
            exact ⟨r, M', reach_72_01 (by omega) g4 g5 c0 iR (reach_95 (reach_100 k1)), k2⟩
      obtain ⟨r, M', k1, k2, k3⟩ := cmp L.length 0 0 (by omega) (gi_neg (fun ⟨_, _, z, _⟩ => by omega)).symm
      exact ⟨r, M', reach_26_01 g1 g2 g3 ⟨by omega, by omega⟩ hcan (by omega) (by decide) ⟨by decide, by decide⟩ t1 (by omega) k1, k2, k3⟩
    · rw [gi_neg hc] at hcan
      obtain ⟨r, M', k1, k2, k3⟩ := ih (m + 1) M1 L (by omega) hf hS ha (by
        rw [eF]
        exact @if_neg _ (Classical.propDecidable _) hc _ _ _)
      exact ⟨r, M', reach_26_00 g1 g2 g3 ⟨by omega, by omega⟩ hcan (by omega) rfl ⟨by decide, by decide⟩ (reach_148 k1), k2, k3⟩
theorem X_lreachOut {M : gx_M} (hd : 2 ≤ d) (h : gLN M) {V : Nat} (hV : M 1 1 = (V : Int)) (L00 : List gE) : ∀ (f k : Nat) (M1 : gx_M) (L : List gE), k + f = 60 → (∀ q, q ≤ 107 → M1 q = M q) → gLS M1 L → gBf (M 5) (M 6) V 60 60 0 L00 = gBf (M 5) (M 6) V 60 f k L →
    ∃ r M', gx_G l κ gx_sh z_mt zL_reach d (16, [gU, gU, gR 105, gR 106, gR 109, gR 110, gI (L.length : Int), gI (k : Int), gU, gU, gU, gU, gU], [], M1) (gx_eq (some (gI r)) M') ∧ (∀ q, q ≠ 108 → q ≠ 109 → M' q = M1 q) ∧ gLW M M' V L00 r := by
  intro f
  induction f with
  | zero =>
    intro k M1 L hk hf hS hB
    have hl := hS.1
    exact ⟨(L.length : Int), M1, reach_16_1 (by omega) ⟨by omega, by omega⟩ ⟨by omega, by omega⟩ ⟨rfl, rfl⟩, fun _ _ _ => rfl, Or.inr ⟨L, by rw [hB]; rfl, rfl, hS⟩⟩
  | succ f ih =>
    intro k M1 L hk hf hS hB
    have hl := hS.1
    have eB : gBf (M 5) (M 6) V 60 (f + 1) k L = (match L[k]? with | none => some L | some a => (gFo (M 5) (M 6) 60 a V L).bind (gBf (M 5) (M 6) V 60 f (k + 1))) := rfl
    by_cases hkl : L.length ≤ k
    · rw [List.getElem?_eq_none hkl] at eB
      exact ⟨(L.length : Int), M1, reach_16_1 (by omega) ⟨by omega, by omega⟩ ⟨by omega, by omega⟩ ⟨rfl, rfl⟩, fun _ _ _ => rfl, Or.inr ⟨L, by rw [hB, eB], rfl, hS⟩⟩
    · obtain ⟨a, ha⟩ : ∃ a, L[k]? = some a := ⟨L[k], List.getElem?_eq_getElem (by omega)⟩
      rw [ha] at eB
      replace eB : gBf (M 5) (M 6) V 60 (f + 1) k L = (gFo (M 5) (M 6) 60 a V L).bind (gBf (M 5) (M 6) V 60 f (k + 1)) := eB
      obtain ⟨r, M', k1, k2, k3⟩ := X_lreachIn (l := l) (κ := κ) (d := d) hd h hV L00 (k := k) (a := a) (L0 := L) (by omega) (fun M2 L2 q1 q2 q3 => by
        obtain ⟨r, M', k1, k2, k3⟩ := ih (k + 1) M2 L2 (by omega) q1 q2 (by rw [hB, eB, q3]; rfl)
        exact ⟨r, M', k1, k2, k3⟩) V 0 M1 L (by omega) hf hS ha rfl
      exact ⟨r, M', reach_16_0 (by omega) ⟨by omega, by omega⟩ ⟨by omega, by omega⟩ k1, k2, k3⟩
theorem X_lreach {M : gx_M} {now b c : Int} (hd : 2 ≤ d) (hR : gLR M now) (h0 : gI0 M b c) (hb : b ≤ 10000) :
    ∃ r M', gx_X l κ gx_sh z_mt zL_reach d [gJ now, gR 105, gR 106, gR 109, gR 110] M (gx_eq (some (gI r)) M') ∧ (∀ q, q ≠ 108 → q ≠ 109 → M' q = M q) ∧ gLW M M' (M 1 1).toNat [(gtp (M 2), 0)] r := by
  have hP := h0.1.1
  have hho : gHo now (gtp (M 2)) := ⟨hR.2.1, fun p p1 p2 => by rw [gmk_tp _ ⟨p1, p2⟩]; exact hR.2.2.2.2 p p1 p2⟩
  have hsl : gSl ((gtp (M 2), 0) : gE) := ⟨Int.le_refl 0, fun p p1 p2 => by
    show 0 ≤ gmk (gtp (M 2)) p ∧ gmk (gtp (M 2)) p ≤ 10000 + 9 * 0
    rw [gmk_tp _ ⟨p1, p2⟩]
    have := (h0.1.2.2 p p1 (by omega)).1
    omega⟩
  have hS0 : gLS M [] := ⟨by decide, fun i a ha => (by cases ha)⟩
  have hS1 : gLS (gx_up (gx_up M 108 0 now) 109 0 0) ([] ++ [((gtp (M 2), 0) : gE)]) := gLS_app hS0 (by decide) hho (Int.le_refl 0) hsl (fun q => by rw [gx_up_ne (by decide), gx_up_at]; rfl) (fun q => by rw [gx_up_at, gx_up_ne (by decide)]; rfl)
  obtain ⟨r, M', k1, k2, k3⟩ := X_lreachOut (l := l) (κ := κ) (d := d) hd (gLN_of hR h0) (V := (M 1 1).toNat) (Int.toNat_of_nonneg hP.2.1).symm [(gtp (M 2), 0)] 60 0 (gx_up (gx_up M 108 0 now) 109 0 0) [(gtp (M 2), 0)] (by omega) (fun q hq => by rw [gx_up_ne (by omega), gx_up_ne (by omega)]) hS1 rfl
  exact ⟨r, M', reach_e k1, fun q q1 q2 => by rw [k2 q q1 q2, gx_up_ne q2, gx_up_ne q1], k3⟩
end LREACH
