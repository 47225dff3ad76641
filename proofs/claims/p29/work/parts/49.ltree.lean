/-! the law's growth tree -/
/-- an endless place has 32767 in the law's longs -/
def gcl (v : Int) : Int := if v = 1073741824 then 32767 else v
def gDo (v : Int) : Prop := v = 1073741824 ∨ (0 ≤ v ∧ v < 32700)
theorem gcl_E : gcl 1073741824 = 32767 := if_pos rfl
theorem gcl_n {v : Int} (h : ¬ v = 1073741824) : gcl v = v := if_neg h
theorem gcl_le {u v : Int} (hu : gDo u) (hv : gDo v) : gcl u ≤ gcl v ↔ u ≤ v := by
  unfold gDo at hu hv
  unfold gcl
  split <;> split <;> omega
theorem gcl_lt {u v : Int} (hu : gDo u) (hv : gDo v) : gcl u < gcl v ↔ u < v := by
  unfold gDo at hu hv
  unfold gcl
  split <;> split <;> omega
theorem gcl_inj {u v : Int} (hu : gDo u) (hv : gDo v) : gcl u = gcl v ↔ u = v := by
  unfold gDo at hu hv
  unfold gcl
  split <;> split <;> omega
theorem gcl_rng {v : Int} (h : gDo v) : 0 ≤ gcl v ∧ gcl v < 32768 := by
  unfold gDo at h
  unfold gcl
  split <;> omega
theorem gcl_32 {v : Int} (h : gDo v) : gcl v = 32767 ↔ v = 1073741824 := by
  unfold gDo at h
  unfold gcl
  split <;> omega
/-- a long holds a marking of the tree -/
def gHt (x : Int) (a : gK) : Prop := gM x ∧ ∀ p, 0 ≤ p → p < 4 → ga x p = gcl (gmk a p)
def gDk (a : gK) : Prop := ∀ p, 0 ≤ p → p < 4 → gDo (gmk a p)
def gZp (P : Int) (a : gK) : Prop := ∀ p, P ≤ p → 0 ≤ p → p < 4 → gmk a p = 0
theorem gHt_eq {x y : Int} {a a' : gK} (h : gHt x a) (h' : gHt y a') (ha : gDk a) (ha' : gDk a') : x = y ↔ a = a' := by
  constructor
  · intro e
    refine gmk_ext (fun p p1 p2 => (gcl_inj (ha p p1 p2) (ha' p p1 p2)).mp ?_)
    rw [← h.2 p p1 p2, ← h'.2 p p1 p2, e]
  · intro e
    refine ga_inj h.1 h'.1 (fun p p1 p2 => ?_)
    rw [h.2 p p1 p2, h'.2 p p1 p2, e]
theorem gHt_ex {a : gK} (h : gDk a) : ∃ t, gHt t a := by
  obtain ⟨r0, -, m0, v0⟩ := ga_with (mk := 0) (p := 0) (v := gcl (gmk a 0)) ⟨by decide, by decide⟩ (by decide) (gcl_rng (h 0 (by decide) (by decide)))
  obtain ⟨r1, -, m1, v1⟩ := ga_with (mk := r0) (p := 1) (v := gcl (gmk a 1)) m0 (by decide) (gcl_rng (h 1 (by decide) (by decide)))
  obtain ⟨r2, -, m2, v2⟩ := ga_with (mk := r1) (p := 2) (v := gcl (gmk a 2)) m1 (by decide) (gcl_rng (h 2 (by decide) (by decide)))
  obtain ⟨r3, -, m3, v3⟩ := ga_with (mk := r2) (p := 3) (v := gcl (gmk a 3)) m2 (by decide) (gcl_rng (h 3 (by decide) (by decide)))
  refine ⟨r3, m3, fun p p1 p2 => ?_⟩
  rw [v3 p p1 p2, v2 p p1 p2, v1 p p1 p2, v0 p p1 p2]
  rcases (by omega : p = 0 ∨ p = 1 ∨ p = 2 ∨ p = 3) with rfl | rfl | rfl | rfl <;> rfl
theorem gTv_Dk {n : gN} (h : gTv 10000 n) (hl : n.2.length ≤ 300) : gDk n.1 := fun p p1 p2 => by
  have := h p p1 p2
  unfold gDo
  omega
theorem gOg_Dk {c : gK} (hc : gDk c) (σ : List gK) : gDk (σ.foldr gOg c) := fun p p1 p2 => by
  rcases gOg_fold c ⟨p1, p2⟩ σ with e | e
  · rw [e]; exact Or.inl rfl
  · rw [e]; exact hc p p1 p2
/-- the law's rows hold the list -/
def gLT (P : Int) (M : gx_M) (L : List gN) : Prop := L.length ≤ 60 ∧ ∀ (i : Nat) (n : gN), L[i]? = some n → (gHt (M 108 (i : Int)) n.1 ∧ M 109 (i : Int) = (n.2.length : Int) ∧ n.2.length ≤ i) ∧ gTv 10000 n ∧ (∀ a ∈ n.1 :: n.2, gZp P a) ∧ gAb (M 110) L i n.2 ∧ (n.2 = [] → M 110 (i : Int) = -1)
theorem gCan_Ct {M : gx_M} (h : gLN M) {x : Int} {a : gK} (hx : gHt x a) (hp : gDk a) {m : Int} (hm : 0 ≤ m ∧ m < 4) : gCan M x m ↔ gCn (M 5) (gmk a) m := by
  obtain ⟨h1, ⟨h2, h3⟩, h4, h5, h6⟩ := h
  have hP := h1.1.1
  constructor
  · intro z p p1 p2
    by_cases hpP : p < M 104 0
    · have := z p p1 hpP
      have hA := h5 (m * 8 + p) (by omega) (by omega)
      have hD := hp p p1 (by omega)
      rw [(h4 m p hm.1 hm.2 p1 (by omega)).1, hx.2 p p1 (by omega)] at this
      by_cases e : gmk a p = 1073741824
      · omega
      · rw [gcl_n e] at this
        exact this
    · rw [(h6 (m * 8 + p) (by omega) (by omega) (Or.inl (by omega))).1]
      by_cases h4' : p < 4
      · have hD := hp p p1 h4'
        unfold gDo at hD
        omega
      · rw [gmk_hi a (by omega)]; exact Int.le_refl 0
  · intro z p p1 p2
    have hA := h5 (m * 8 + p) (by omega) (by omega)
    rw [(h4 m p hm.1 hm.2 p1 (by omega)).1, hx.2 p p1 (by omega)]
    have := z p p1 (by omega)
    by_cases e : gmk a p = 1073741824
    · rw [e, gcl_E]; omega
    · rw [gcl_n e]; exact this
section LTREE
variable {l : Launch} {κ : yK} {d : Nat} {Q : Option gx_V → gx_M → Prop}
theorem X_behindT {M : gx_M} (hd : 1 ≤ d) (h : gLN M) {x : Int} {n : gN} (hx : gHt x n.1) (hv : gTv 10000 n) (hl : n.2.length ≤ 300) {m : Nat} (hm : m < 4) (hc : gCn (M 5) (gmk n.1) (m : Int)) :
    ∃ r, gx_X l κ gx_sh z_mt zL_behind d [gJ x, gI (m : Int), gR 105, gR 106] M (gx_eq (some (gJ r)) M) ∧ gHt r (gtp (gSt (M 5) (M 6) (gmk n.1) (m : Int))) := by
  have h0 := h
  obtain ⟨h1, ⟨h2, h3⟩, h4, h5, h6⟩ := h
  have hP := h1.1.1
  have hD := gTv_Dk hv hl
  obtain ⟨r, r1, r2, r3⟩ := X_behind (l := l) (κ := κ) (d := d) (M := M) (mk := x) (m := (m : Int)) hd h1 hx.1 ⟨by omega, by omega⟩ (fun p p1 p2 p3 => by
    have hDp := hD p p1 (by omega)
    have h7 := h4 (m : Int) p (by omega) (by omega) p1 (by omega)
    have h8 := h5 ((m : Int) * 8 + p) (by omega) (by omega)
    have h9 : M 5 ((m : Int) * 8 + p) ≤ gmk n.1 p := hc p p1 (by omega)
    rw [hx.2 p p1 (by omega)] at p3 ⊢
    have e : ¬ gmk n.1 p = 1073741824 := fun z => by rw [z, gcl_E] at p3; omega
    rw [h7.1, h7.2, gcl_n e]
    unfold gDo at hDp
    omega)
  refine ⟨r, r1, r2, fun p p1 p2 => ?_⟩
  have hDp := hD p p1 p2
  have h8 := h5 ((m : Int) * 8 + p) (by omega) (by omega)
  unfold gDo at hDp
  rw [r3 p p1 p2, hx.2 p p1 p2, gmk_tp _ ⟨p1, p2⟩]
  unfold gSt
  by_cases e : gmk n.1 p = 1073741824
  · rw [if_pos e, e, gcl_E, if_neg (by omega)]
  · rw [if_neg e, gcl_n e]
    have e2 : ¬ gmk n.1 p - M 5 ((m : Int) * 8 + p) + M 6 ((m : Int) * 8 + p) = 1073741824 := by omega
    rw [gcl_n e2]
    by_cases hpP : p < M 104 0
    · have h7 := h4 (m : Int) p (by omega) (by omega) p1 p2
      rw [if_pos ⟨hpP, by omega⟩, h7.1, h7.2]
    · rw [if_neg (fun z => hpP z.1)]
      have h9 := h6 ((m : Int) * 8 + p) (by omega) (by omega) (Or.inl (by omega))
      rw [h9.1, h9.2]
      omega
/-- the walk up to a depth -/
theorem L_twalk {P : Int} {M : gx_M} {L : List gN} {n k same m th : Int} {dep : Nat} (hS : gLT P M L) (hdep : dep ≤ 60) : ∀ (ρ : List gK) (b : gK) (j : Nat), L[j]? = some (b, ρ) → dep ≤ ρ.length →
    (∀ (j' : Nat) b' ρ', (b' :: ρ') <:+ (b :: ρ) → ρ'.length = dep → L[j']? = some (b', ρ') → gx_G l κ gx_sh z_mt zL_tree d (170, [gU, gU, gR 105, gR 106, gR 109, gR 110, gR 111, gI n, gI k, gI same, gI m, gJ th, gU, gI (dep : Int), gI (j' : Int), gI 1, gI 0], [], M) Q) →
    gx_G l κ gx_sh z_mt zL_tree d (144, [gU, gU, gR 105, gR 106, gR 109, gR 110, gR 111, gI n, gI k, gI same, gI m, gJ th, gU, gI (dep : Int), gI (j : Int), gU, gU], [], M) Q := by
  have hl := hS.1
  intro ρ
  induction ρ with
  | nil =>
    intro b j hj hd kk
    have hjl := (List.getElem?_eq_some_iff.mp hj).1
    obtain ⟨⟨-, r2, -⟩, -⟩ := hS.2 j (b, []) hj
    have r2' : M 109 (j : Int) = 0 := r2
    exact tree_144_1 ⟨by omega, by omega⟩ (by omega) ⟨by omega, by omega⟩ ⟨by omega, by omega⟩ (kk j b [] (List.suffix_refl _) (by have : ([] : List gK).length = 0 := rfl; omega) hj)
  | cons c r ih =>
    intro b j hj hd kk
    have hjl := (List.getElem?_eq_some_iff.mp hj).1
    obtain ⟨⟨-, r2, r3⟩, -, -, r5, -⟩ := hS.2 j (b, c :: r) hj
    have r2' : M 109 (j : Int) = ((c :: r).length : Int) := r2
    have r3' : (c :: r).length ≤ j := r3
    have hlen : (c :: r).length = r.length + 1 := rfl
    by_cases e : dep = (c :: r).length
    · exact tree_144_1 ⟨by omega, by omega⟩ (by omega) ⟨by omega, by omega⟩ ⟨by omega, by omega⟩ (kk j b (c :: r) (List.suffix_refl _) e.symm hj)
    · obtain ⟨j2, j3, j4, j5⟩ := r5 c r rfl
      refine tree_144_0 ⟨by omega, by omega⟩ (by omega) ⟨by omega, by omega⟩ ⟨by omega, by omega⟩ ?_
      rw [j5]
      exact ih c j2 j4 (by omega) (fun j' b' ρ' s1 s2 s3 => kk j' b' ρ' (List.IsSuffix.trans s1 (List.suffix_cons b (c :: r))) s2 s3)
/-- whether a node has nowhere more than the child -/
theorem L_tless {P : Int} {M : gx_M} {L : List gN} {n k same m th : Int} {dep : Int} {j : Nat} {b c : gK} {ρ : List gK} (hS : gLT P M L) (hP : (M 104 0 = P) ∧ 0 ≤ P ∧ P ≤ 4) (hj : L[j]? = some (b, ρ)) (hth : gHt th c) (hc : gDk c) (hcz : gZp P c)
    (kk : gx_G l κ gx_sh z_mt zL_tree d (219, [gU, gU, gR 105, gR 106, gR 109, gR 110, gR 111, gI n, gI k, gI same, gI m, gJ th, gU, gI dep, gI (j : Int), gI (gi (∀ p, 0 ≤ p → p < 4 → gmk b p ≤ gmk c p)), gI 0], [], M) Q) (hd : 1 ≤ d) :
    gx_G l κ gx_sh z_mt zL_tree d (170, [gU, gU, gR 105, gR 106, gR 109, gR 110, gR 111, gI n, gI k, gI same, gI m, gJ th, gU, gI dep, gI (j : Int), gI 1, gI 0], [], M) Q := by
  have hl := hS.1
  have hjl := (List.getElem?_eq_some_iff.mp hj).1
  obtain ⟨⟨⟨w1, w2⟩, r2, r3⟩, hv, hz, -⟩ := hS.2 j (b, ρ) hj
  have w2 : ∀ p, 0 ≤ p → p < 4 → ga (M 108 (j : Int)) p = gcl (gmk b p) := w2
  have r3' : ρ.length ≤ j := r3
  have hb : gDk b := gTv_Dk hv (by show ρ.length ≤ 300; omega)
  have hbz : gZp P b := hz b List.mem_cons_self
  have g6 : (0 : Int) ≤ (j : Int) ∧ (j : Int) < 60 := ⟨by omega, by omega⟩
  have loop : ∀ (q : Nat) (p : Int) (ls : Int), p + q = P → 0 ≤ p → ls = gi (∀ r, 0 ≤ r → r < p → gmk b r ≤ gmk c r) →
      gx_G l κ gx_sh z_mt zL_tree d (170, [gU, gU, gR 105, gR 106, gR 109, gR 110, gR 111, gI n, gI k, gI same, gI m, gJ th, gU, gI dep, gI (j : Int), gI ls, gI p], [], M) Q := by
    intro q
    induction q with
    | zero =>
      intro p ls hp h0 hls
      refine tree_170_1 (by omega) ⟨by omega, by omega⟩ ⟨by omega, by omega⟩ ?_
      have e : gi (∀ r, 0 ≤ r → r < p → gmk b r ≤ gmk c r) = gi (∀ p, 0 ≤ p → p < 4 → gmk b p ≤ gmk c p) := gi_congr ⟨fun z r r1 r2 => by
        by_cases h : r < p
        · exact z r r1 h
        · rw [hbz r (by omega) r1 r2, hcz r (by omega) r1 r2]; exact Int.le_refl 0, fun z r r1 r2 => z r r1 (by omega)⟩
      rw [hls, e]
      exact kk
    | succ q ih =>
      intro p ls hp h0 hls
      have lR : gx_R ls := by rw [hls]; exact gi_R _
      have g1 : p < M 104 0 := by omega
      have g2 : gx_R p := ⟨by omega, by omega⟩
      have g3 : gx_R (M 104 0) := ⟨by omega, by omega⟩
      rcases gi_rng (∀ r, 0 ≤ r → r < p → gmk b r ≤ gmk c r) with e | e
      · refine tree_170_01 g1 g2 g3 (by omega) lR (tree_207 (tree_208 (ih (p + 1) 0 (by omega) (by omega) ?_)))
        exact (gi_neg (fun z => gi_0 e (fun r r1 r2 => z r r1 (by omega)))).symm
      · have hall := gi_1 e
        have a1 := X_at (l := l) (κ := κ) (d := 0) (M := M) w1 (p := p) ⟨h0, by omega⟩
        have a2 := X_at (l := l) (κ := κ) (d := 0) (M := M) hth.1 (p := p) ⟨h0, by omega⟩
        rw [w2 p h0 (by omega)] at a1
        rw [hth.2 p h0 (by omega)] at a2
        have rb := gcl_rng (hb p h0 (by omega))
        have rc := gcl_rng (hc p h0 (by omega))
        have hle := gcl_le (hb p h0 (by omega)) (hc p h0 (by omega))
        by_cases cc : gmk b p ≤ gmk c p
        · refine tree_170_000 g1 g2 g3 (by omega) lR g6 a1 (by omega) a2 (by omega) (hle.mpr cc) ⟨by omega, by omega⟩ ⟨by omega, by omega⟩ (tree_208 (ih (p + 1) 1 (by omega) (by omega) ?_))
          refine (gi_pos (fun r r1 r2 => ?_)).symm
          by_cases e2 : r = p
          · rw [e2]; exact cc
          · exact hall r r1 (by omega)
        · have hnle : ¬ gcl (gmk b p) ≤ gcl (gmk c p) := fun z => cc (hle.mp z)
          refine tree_170_001 g1 g2 g3 (by omega) lR g6 a1 (by omega) a2 (by omega) (by omega) ⟨by omega, by omega⟩ ⟨by omega, by omega⟩ (tree_207 (tree_208 (ih (p + 1) 0 (by omega) (by omega) ?_)))
          exact (gi_neg (fun z => cc (z p h0 (by omega)))).symm
  exact loop P.toNat 0 1 (by omega) (by omega) (gi_pos (fun r r1 r2 => by omega)).symm
/-- the child outgrows a node -/
theorem L_tout {P : Int} {M : gx_M} {L : List gN} {n k same m th : Int} {dep : Int} {j : Nat} {b c : gK} {ρ : List gK} (hS : gLT P M L) (hP : (M 104 0 = P) ∧ 0 ≤ P ∧ P ≤ 4) (hj : L[j]? = some (b, ρ)) (hth : gHt th c) (hc : gDk c) (hcz : gZp P c) (hd : 1 ≤ d)
    (kk : ∀ th', gHt th' (gOg b c) → gx_G l κ gx_sh z_mt zL_tree d (270, [gU, gU, gR 105, gR 106, gR 109, gR 110, gR 111, gI n, gI k, gI same, gI m, gJ th', gU, gI dep, gU, gU, gU], [], M) Q) :
    gx_G l κ gx_sh z_mt zL_tree d (219, [gU, gU, gR 105, gR 106, gR 109, gR 110, gR 111, gI n, gI k, gI same, gI m, gJ th, gU, gI dep, gI (j : Int), gI (gi (∀ p, 0 ≤ p → p < 4 → gmk b p ≤ gmk c p)), gI 0], [], M) Q := by
  have hl := hS.1
  have hjl := (List.getElem?_eq_some_iff.mp hj).1
  obtain ⟨⟨⟨w1, w2⟩, r2, r3⟩, hv, hz, -⟩ := hS.2 j (b, ρ) hj
  have w2 : ∀ p, 0 ≤ p → p < 4 → ga (M 108 (j : Int)) p = gcl (gmk b p) := w2
  have r3' : ρ.length ≤ j := r3
  have hb : gDk b := gTv_Dk hv (by show ρ.length ≤ 300; omega)
  have hbz : gZp P b := hz b List.mem_cons_self
  have g6 : (0 : Int) ≤ (j : Int) ∧ (j : Int) < 60 := ⟨by omega, by omega⟩
  by_cases hle : ∀ p, 0 ≤ p → p < 4 → gmk b p ≤ gmk c p
  · rw [gi_pos hle]
    have loop : ∀ (q : Nat) (p : Int) (t : Int), p + q = P → 0 ≤ p → gM t → (∀ r, 0 ≤ r → r < 4 → ga t r = gcl (if r < p then gmk (gOg b c) r else gmk c r)) →
        gx_G l κ gx_sh z_mt zL_tree d (219, [gU, gU, gR 105, gR 106, gR 109, gR 110, gR 111, gI n, gI k, gI same, gI m, gJ t, gU, gI dep, gI (j : Int), gI 1, gI p], [], M) Q := by
      intro q
      induction q with
      | zero =>
        intro p t hp h0 ht hr
        refine tree_219_1 (by omega) ⟨by omega, by omega⟩ ⟨by omega, by omega⟩ (kk t ⟨ht, fun r r1 r2 => ?_⟩)
        rw [hr r r1 r2]
        by_cases h : r < p
        · rw [if_pos h]
        · rw [if_neg h, gOg_0 ⟨r1, r2⟩ (hbz r (by omega) r1 r2) (hcz r (by omega) r1 r2), hcz r (by omega) r1 r2]
      | succ q ih =>
        intro p t hp h0 ht hr
        have g1 : p < M 104 0 := by omega
        have g2 : gx_R p := ⟨by omega, by omega⟩
        have g3 : gx_R (M 104 0) := ⟨by omega, by omega⟩
        have a1 := X_at (l := l) (κ := κ) (d := 0) (M := M) w1 (p := p) ⟨h0, by omega⟩
        have a2 := X_at (l := l) (κ := κ) (d := 0) (M := M) ht (p := p) ⟨h0, by omega⟩
        rw [w2 p h0 (by omega)] at a1
        rw [hr p h0 (by omega), if_neg (by omega)] at a2
        have rb := gcl_rng (hb p h0 (by omega))
        have rc := gcl_rng (hc p h0 (by omega))
        have hlt := gcl_lt (hb p h0 (by omega)) (hc p h0 (by omega))
        have hv := gOg_le b c hle (p := p) ⟨h0, by omega⟩
        by_cases cc : gmk b p < gmk c p
        · rw [if_pos cc] at hv
          obtain ⟨t', x1, x2, x3⟩ := X_with (l := l) (κ := κ) (d := 0) (M := M) ht (p := p) (v := 32767) ⟨h0, by omega⟩ (by decide)
          refine tree_219_000 g1 g2 g3 (by decide) ⟨by decide, by decide⟩ g6 a1 (by omega) a2 (by omega) (hlt.mpr cc) ⟨by omega, by omega⟩ ⟨by omega, by omega⟩ x1 (by omega) (tree_264 (ih (p + 1) t' (by omega) (by omega) x2 (fun r r1 r2 => ?_)))
          rw [x3 r r1 r2]
          by_cases e : r = p
          · rw [if_pos e, if_pos (by omega), e, hv, gcl_E]
          · rw [if_neg e, hr r r1 r2]
            by_cases e2 : r < p
            · rw [if_pos e2, if_pos (by omega)]
            · rw [if_neg e2, if_neg (by omega)]
        · rw [if_neg cc] at hv
          have hnlt : ¬ gcl (gmk b p) < gcl (gmk c p) := fun z => cc (hlt.mp z)
          refine tree_219_001 g1 g2 g3 (by decide) ⟨by decide, by decide⟩ g6 a1 (by omega) a2 (by omega) (by omega) ⟨by omega, by omega⟩ ⟨by omega, by omega⟩ (tree_264 (ih (p + 1) t (by omega) (by omega) ht (fun r r1 r2 => ?_)))
          rw [hr r r1 r2]
          by_cases e : r = p
          · rw [if_neg (by omega), if_pos (by omega), e, hv]
          · by_cases e2 : r < p
            · rw [if_pos e2, if_pos (by omega)]
            · rw [if_neg e2, if_neg (by omega)]
    exact loop P.toNat 0 th (by omega) (by omega) hth.1 (fun r r1 r2 => by rw [if_neg (by omega)]; exact hth.2 r r1 r2)
  · rw [gi_neg hle]
    have k1 := kk th (by rw [gOg_nle b c hle]; exact hth)
    by_cases h0 : P = 0
    · exact tree_219_1 (by omega) ⟨by decide, by decide⟩ ⟨by omega, by omega⟩ k1
    · exact tree_219_01 (by omega) ⟨by decide, by decide⟩ ⟨by omega, by omega⟩ rfl ⟨by decide, by decide⟩ k1
/-- whether a node lies above itself -/
theorem L_tsame {P : Int} {M : gx_M} {L : List gN} {k : Nat} {n : gN} (hS : gLT P M L) (hk : L[k]? = some n)
    (kk : gx_G l κ gx_sh z_mt zL_tree d (82, [gU, gU, gR 105, gR 106, gR 109, gR 110, gR 111, gI (L.length : Int), gI (k : Int), gI (gi (n.1 ∈ n.2)), gI 0, gU, gU, gU, gU, gU, gU], [], M) Q) :
    gx_G l κ gx_sh z_mt zL_tree d (38, [gU, gU, gR 105, gR 106, gR 109, gR 110, gR 111, gI (L.length : Int), gI (k : Int), gI 0, gI (M 110 (k : Int)), gU, gU, gU, gU, gU, gU], [], M) Q := by
  have hl := hS.1
  have hkl := (List.getElem?_eq_some_iff.mp hk).1
  obtain ⟨⟨w1, w2, w3⟩, hv, -, w5, w6⟩ := hS.2 k n hk
  have hD := gTv_Dk hv (by omega)
  have loop : ∀ (σ : List gK) (i : Nat) (sm : Int), gAb (M 110) L i σ → (σ = [] → M 110 (i : Int) = -1) → i < 60 → σ <:+ n.2 → (sm = 0 ∨ sm = 1) → (sm = 1 ∨ n.1 ∈ σ ↔ n.1 ∈ n.2) →
      gx_G l κ gx_sh z_mt zL_tree d (38, [gU, gU, gR 105, gR 106, gR 109, gR 110, gR 111, gI (L.length : Int), gI (k : Int), gI sm, gI (M 110 (i : Int)), gU, gU, gU, gU, gU, gU], [], M) Q := by
    intro σ
    induction σ with
    | nil =>
      intro i sm h1 h2 hi hs hsm hiff
      have e := h2 rfl
      have e2 : sm = gi (n.1 ∈ n.2) := by
        by_cases hm : n.1 ∈ n.2
        · rw [gi_pos hm]
          rcases hiff.mpr hm with z | z
          · exact z
          · cases z
        · rw [gi_neg hm]
          rcases hsm with z | z
          · exact z
          · exact absurd (hiff.mp (Or.inl z)) hm
      rw [e, e2]
      exact tree_38_1 (by decide) ⟨by decide, by decide⟩ kk
    | cons c r ih =>
      intro i sm h1 h2 hi hs hsm hiff
      obtain ⟨j, j1, j2, j3⟩ := h1 c r rfl
      have hjl := (List.getElem?_eq_some_iff.mp j2).1
      obtain ⟨⟨v1, v2, v3⟩, vv, -, v5, v6⟩ := hS.2 j (c, r) j2
      have v3' : r.length ≤ j := v3
      have hDc : gDk c := gTv_Dk vv (by show r.length ≤ 300; omega)
      have sR : gx_R sm := by rcases hsm with z | z <;> rw [z] <;> exact ⟨by decide, by decide⟩
      rw [j3]
      have g1 : (0 : Int) ≤ (j : Int) := by omega
      have g2 : gx_R (j : Int) := ⟨by omega, by omega⟩
      have g5 : (0 : Int) ≤ (j : Int) ∧ (j : Int) < 60 := ⟨by omega, by omega⟩
      have nxt : ∀ s, (s = 0 ∨ s = 1) → (s = 1 ∨ n.1 ∈ r ↔ n.1 ∈ n.2) → gx_G l κ gx_sh z_mt zL_tree d (38, [gU, gU, gR 105, gR 106, gR 109, gR 110, gR 111, gI (L.length : Int), gI (k : Int), gI s, gI (M 110 (j : Int)), gU, gU, gU, gU, gU, gU], [], M) Q := fun s s1 s2 => ih j s v5 v6 (by omega) (gSx_up hs) s1 s2
      by_cases c0 : sm = 0
      · by_cases ce : M 108 (j : Int) = M 108 (k : Int)
        · have e := (gHt_eq v1 w1 hDc hD).mp ce
          exact tree_38_000 g1 g2 c0 sR g5 ⟨by omega, by omega⟩ (gM_RL v1.1) (gM_RL w1.1) ((gx_c3_0 _ _).mpr ce) (gx_c3_R _ _) (tree_62 (tree_67 g5 (nxt 1 (Or.inr rfl) ⟨fun _ => by rw [← e]; exact gSx_in hs, fun _ => Or.inl rfl⟩)))
        · have e : ¬ c = n.1 := fun z => ce ((gHt_eq v1 w1 hDc hD).mpr z)
          refine tree_38_001 g1 g2 c0 sR g5 ⟨by omega, by omega⟩ (gM_RL v1.1) (gM_RL w1.1) (fun z => ce ((gx_c3_0 _ _).mp z)) (gx_c3_R _ _) (tree_67 g5 (nxt 0 (Or.inl rfl) ?_))
          rw [← hiff, c0]
          constructor
          · rintro (z | z)
            · exact Or.inl z
            · exact Or.inr (List.mem_cons_of_mem _ z)
          · rintro (z | z)
            · exact Or.inl z
            · rcases List.mem_cons.mp z with z | z
              · exact absurd z.symm e
              · exact Or.inr z
      · have c1 : sm = 1 := by
          rcases hsm with z | z
          · exact absurd z c0
          · exact z
        exact tree_38_01 g1 g2 c0 sR (tree_62 (tree_67 g5 (nxt 1 (Or.inr rfl) ⟨fun _ => hiff.mp (Or.inl c1), fun _ => Or.inl rfl⟩)))
  exact loop n.2 k 0 w5 w6 (by omega) (List.suffix_refl _) (Or.inl rfl) ⟨fun z => by
    rcases z with z | z
    · exact absurd z (by decide)
    · exact z, fun z => Or.inr z⟩
theorem gLT_app {P : Int} {M M' : gx_M} {L : List gN} {x : gN} {r u : Int} (h : gLT P M L) (hn : L.length < 60) (hx : gHt r x.1) (hl : x.2.length ≤ L.length) (hv : gTv 10000 x) (hz : ∀ a ∈ x.1 :: x.2, gZp P a) (hu : ∀ b ρ, x.2 = b :: ρ → ∃ j : Nat, j < L.length ∧ L[j]? = some (b, ρ) ∧ u = (j : Int)) (hu0 : x.2 = [] → u = -1)
    (e1 : ∀ q, M' 108 q = if q = (L.length : Int) then r else M 108 q) (e2 : ∀ q, M' 109 q = if q = (L.length : Int) then (x.2.length : Int) else M 109 q) (e3 : ∀ q, M' 110 q = if q = (L.length : Int) then u else M 110 q) : gLT P M' (L ++ [x]) := by
  refine ⟨by rw [List.length_append]; show L.length + 1 ≤ 60; omega, fun i a hi => ?_⟩
  rcases gApp_get hi with ⟨hil, hi2⟩ | ⟨rfl, rfl⟩
  · obtain ⟨⟨q1, q2, q3⟩, q4, q5, q6, q7⟩ := h.2 i a hi2
    rw [e1, e2, if_neg (by omega), if_neg (by omega)]
    exact ⟨⟨q1, q2, q3⟩, q4, q5, gAb_app q6 (by rw [e3, if_neg (by omega)]), fun z => by rw [e3, if_neg (by omega)]; exact q7 z⟩
  · rw [e1, e2, if_pos rfl, if_pos rfl]
    exact ⟨⟨hx, rfl, hl⟩, hv, hz, fun b ρ e => by
      obtain ⟨j, j1, j2, j3⟩ := hu b ρ e
      exact ⟨j, j1, by rw [List.getElem?_append_left j1]; exact j2, by rw [e3, if_pos rfl]; exact j3⟩, fun z => by rw [e3, if_pos rfl]; exact hu0 z⟩
def gLTW (P : Int) (M M' : gx_M) (V : Nat) (L00 : List gN) (r : Int) : Prop := r = 61 ∨ ∃ L, gTb (M 5) (M 6) V 60 60 0 L00 = some L ∧ r = (L.length : Int) ∧ gLT P M' L
theorem X_ltreeIn {M : gx_M} (hd : 2 ≤ d) (h : gLN M) {V : Nat} (hV : M 1 1 = (V : Int)) (L00 : List gN) {k : Nat} {n : gN} {L0 : List gN} (hk : k < 60)
    (kk : ∀ (M1 : gx_M) (L : List gN), (∀ q, q ≤ 107 → M1 q = M q) → gLT (M 1 0) M1 L → gTs (M 5) (M 6) V 60 n L0 = some L → ∃ r M', gx_G l κ gx_sh z_mt zL_tree d (21, [gU, gU, gR 105, gR 106, gR 109, gR 110, gR 111, gI (L.length : Int), gI ((k : Int) + 1), gU, gU, gU, gU, gU, gU, gU, gU], [], M1) (gx_eq (some (gI r)) M') ∧ (∀ q, q ≠ 108 → q ≠ 109 → q ≠ 110 → M' q = M1 q) ∧ gLTW (M 1 0) M M' V L00 r) :
    ∀ (j m : Nat) (M1 : gx_M) (L : List gN), m + j = V → (∀ q, q ≤ 107 → M1 q = M q) → gLT (M 1 0) M1 L → L[k]? = some n → ¬ n.1 ∈ n.2 → gTf (M 5) (M 6) 60 n m L0 = some L →
      ∃ r M', gx_G l κ gx_sh z_mt zL_tree d (82, [gU, gU, gR 105, gR 106, gR 109, gR 110, gR 111, gI (L.length : Int), gI (k : Int), gI 0, gI (m : Int), gU, gU, gU, gU, gU, gU], [], M1) (gx_eq (some (gI r)) M') ∧ (∀ q, q ≠ 108 → q ≠ 109 → q ≠ 110 → M' q = M1 q) ∧ gLTW (M 1 0) M M' V L00 r := by
  have hV4 : V ≤ 4 := by have := h.1.1.2; have := h.2.1.2; omega
  have hP := h.1.1.1
  have hP1 := h.2.1.1
  intro j
  induction j with
  | zero =>
    intro m M1 L hm hf hS ha hni hF
    have e : m = V := by omega
    subst e
    have e1 : M1 104 1 = (m : Int) := by rw [hf 104 (by decide), h.2.1.2]; exact hV
    obtain ⟨r, M', k1, k2, k3⟩ := kk M1 L hf hS (by rw [gTs_out hni]; exact hF)
    exact ⟨r, M', tree_82_1 (by omega) ⟨by omega, by omega⟩ ⟨by omega, by omega⟩ (tree_321 k1), k2, k3⟩
  | succ j ih =>
    intro m M1 L hm hf hS ha hni hF
    have hm4 : m < 4 := by omega
    have h1 := gLN_kept h hf
    have e1 : M1 104 1 = (V : Int) := by rw [hf 104 (by decide), h.2.1.2]; exact hV
    have e0 : M1 104 0 = M 1 0 := by rw [hf 104 (by decide)]; exact hP1
    have e5 := hf 5 (by decide)
    have e6 := hf 6 (by decide)
    have hl := hS.1
    obtain ⟨⟨r1, r2, r3⟩, r4, r5, r6, r7⟩ := hS.2 k n ha
    have hkl : k < L.length := (List.getElem?_eq_some_iff.mp ha).1
    have hDn := gTv_Dk r4 (by omega)
    have g1 : (m : Int) < M1 104 1 := by omega
    have g2 : gx_R (m : Int) := ⟨by omega, by omega⟩
    have g3 : gx_R (M1 104 1) := ⟨by omega, by omega⟩
    have hcan := X_can (l := l) (κ := κ) (d := 1) (M := M1) (m := (m : Int)) (by omega) h1.1 r1.1 ⟨by omega, by omega⟩
    have hiff := gCan_Ct h1 r1 hDn (m := (m : Int)) ⟨by omega, by omega⟩
    rw [gi_congr hiff, e5] at hcan
    by_cases hc : gCn (M 5) (gmk n.1) (m : Int)
    · rw [gi_pos hc] at hcan
      obtain ⟨th, t1, t2⟩ := X_behindT (l := l) (κ := κ) (d := 1) (by omega) h1 r1 r4 (by omega) hm4 (by rw [e5]; exact hc)
      rw [e5, e6] at t2
      have hA := h.2.2.2.1
      have hc0 : gDk (gtp (gSt (M 5) (M 6) (gmk n.1) (m : Int))) := fun p p1 p2 => by
        have := gSt_v (B := 10000) (by decide) (show m < 8 by omega) hA r4 (by omega) hc ⟨p1, p2⟩
        unfold gDo
        omega
      have hz0 : gZp (M 1 0) (gtp (gSt (M 5) (M 6) (gmk n.1) (m : Int))) := fun p p0 p1 p2 => by
        rw [gmk_tp _ ⟨p1, p2⟩]
        unfold gSt
        have := h.2.2.2.2 ((m : Int) * 8 + p) (by omega) (by omega) (Or.inl (by omega))
        rw [r5 n.1 List.mem_cons_self p p0 p1 p2, this.1, this.2]
        decide
      have hzf : ∀ ρ : List gK, ρ <:+ (n.1 :: n.2) → gZp (M 1 0) (ρ.foldr gOg (gtp (gSt (M 5) (M 6) (gmk n.1) (m : Int)))) := fun ρ hs p p0 p1 p2 => gOg_fold0 ⟨p1, p2⟩ (hz0 p p0 p1 p2) ρ (fun b hb => r5 b (hs.subset hb) p p0 p1 p2)
      -- the child outgrows those above it, from the top
      have og : ∀ (q : Nat) (ρ : List gK) (t : Int), ρ.length + q = n.2.length + 1 → ρ <:+ (n.1 :: n.2) → gHt t (ρ.foldr gOg (gtp (gSt (M 5) (M 6) (gmk n.1) (m : Int)))) →
          ∃ r M', gx_G l κ gx_sh z_mt zL_tree d (130, [gU, gU, gR 105, gR 106, gR 109, gR 110, gR 111, gI (L.length : Int), gI (k : Int), gI 0, gI (m : Int), gJ t, gU, gI (ρ.length : Int), gU, gU, gU], [], M1) (gx_eq (some (gI r)) M') ∧ (∀ q, q ≠ 108 → q ≠ 109 → q ≠ 110 → M' q = M1 q) ∧ gLTW (M 1 0) M M' V L00 r := by
        intro q
        induction q with
        | zero =>
          intro ρ t hq hs ht
          have eρ : ρ = n.1 :: n.2 := hs.eq_of_length (by show ρ.length = n.2.length + 1; omega)
          subst eρ
          have el : ((n.1 :: n.2).length : Int) = (n.2.length : Int) + 1 := by rw [List.length_cons]; omega
          have gk : (0 : Int) ≤ (k : Int) ∧ (k : Int) < 60 := ⟨by omega, by omega⟩
          by_cases hn : L.length = 60
          · exact ⟨61, M1, tree_130_10 gk (by omega) ⟨by omega, by omega⟩ ⟨by omega, by omega⟩ (by omega) ⟨by omega, by omega⟩ ⟨rfl, rfl⟩, fun _ _ _ _ => rfl, Or.inl rfl⟩
          · have ef : ∀ q, (gx_up (gx_up (gx_up M1 109 (L.length : Int) (M1 109 (k : Int) + 1)) 110 (L.length : Int) (k : Int)) 108 (L.length : Int) t) 108 q = if q = (L.length : Int) then t else M1 108 q := fun q => by rw [gx_up_at, gx_up_ne (by decide), gx_up_ne (by decide)]
            have eg : ∀ q, (gx_up (gx_up (gx_up M1 109 (L.length : Int) (M1 109 (k : Int) + 1)) 110 (L.length : Int) (k : Int)) 108 (L.length : Int) t) 109 q = if q = (L.length : Int) then ((n.1 :: n.2).length : Int) else M1 109 q := fun q => by rw [gx_up_ne (by decide), gx_up_ne (by decide), gx_up_at, r2, el]
            have eh : ∀ q, (gx_up (gx_up (gx_up M1 109 (L.length : Int) (M1 109 (k : Int) + 1)) 110 (L.length : Int) (k : Int)) 108 (L.length : Int) t) 110 q = if q = (L.length : Int) then (k : Int) else M1 110 q := fun q => by rw [gx_up_ne (by decide), gx_up_at, gx_up_ne (by decide)]
            have efr : ∀ q, q ≠ 108 → q ≠ 109 → q ≠ 110 → (gx_up (gx_up (gx_up M1 109 (L.length : Int) (M1 109 (k : Int) + 1)) 110 (L.length : Int) (k : Int)) 108 (L.length : Int) t) q = M1 q := fun q q1 q2 q3 => by rw [gx_up_ne q1, gx_up_ne q3, gx_up_ne q2]
            have hS2 := gLT_app (M' := gx_up (gx_up (gx_up M1 109 (L.length : Int) (M1 109 (k : Int) + 1)) 110 (L.length : Int) (k : Int)) 108 (L.length : Int) t) (x := (gTc (M 5) (M 6) n m, n.1 :: n.2)) hS (by omega) ht (by show n.2.length + 1 ≤ L.length; omega) (gTc_v (by decide) (by omega) hA r4 (by omega) hc) (fun a ha2 => by
              rcases List.mem_cons.mp ha2 with e | e
              · rw [e]; exact hzf _ (List.suffix_refl _)
              · exact r5 a e) (u := (k : Int)) (fun b ρ e => by cases e; exact ⟨k, hkl, ha, rfl⟩) (fun e => by cases e) ef eg eh
            have hlen : ((L ++ [(gTc (M 5) (M 6) n m, n.1 :: n.2)]).length : Int) = (L.length : Int) + 1 := by rw [List.length_append]; rfl
            obtain ⟨r, M', k1, k2, k3⟩ := ih (m + 1) _ (L ++ [(gTc (M 5) (M 6) n m, n.1 :: n.2)]) (by omega) (fun q hq => by rw [efr q (by omega) (by omega) (by omega)]; exact hf q hq) hS2 (by rw [List.getElem?_append_left hkl]; exact ha) hni (by rw [gTf_y hF hc, if_neg hn])
            rw [hlen] at k1
            exact ⟨r, M', tree_130_11 gk (by omega) ⟨by omega, by omega⟩ ⟨by omega, by omega⟩ (by omega) ⟨by omega, by omega⟩ ⟨by omega, by omega⟩ (tree_315 k1), fun q q1 q2 q3 => by rw [k2 q q1 q2 q3, efr q q1 q2 q3], k3⟩
        | succ q ihq =>
          intro ρ t hq hs ht
          obtain ⟨b, ρ', s1, s2⟩ := gSx_ex (n.1 :: n.2) ρ.length (by show ρ.length < n.2.length + 1; omega)
          have eρ : ρ' = ρ := gSx_eq (gSx_up s1) hs s2
          subst eρ
          have hle : ρ'.length ≤ n.2.length := by omega
          have el : ((b :: ρ').length : Int) = (ρ'.length : Int) + 1 := by rw [List.length_cons]; omega
          -- what follows is one run: first its end is found
          have hcD := gOg_Dk hc0 ρ'
          have hcZ := hzf ρ' hs
          have hb0 : ∃ j' : Nat, L[j']? = some (b, ρ') := by
            by_cases e : ρ'.length = n.2.length
            · have e2 : (b :: ρ') = n.1 :: n.2 := s1.eq_of_length (by show ρ'.length + 1 = n.2.length + 1; omega)
              cases e2
              exact ⟨k, ha⟩
            · obtain ⟨j', -, q2⟩ := gAb_suf (U := M1 110) (fun i n' hn' => (hS.2 i n' hn').2.2.2.1) n.2 k n.1 ha b ρ' (List.suffix_of_suffix_length_le s1 (List.suffix_cons n.1 n.2) (by show ρ'.length + 1 ≤ n.2.length; omega))
              exact ⟨j', q2⟩
          obtain ⟨j', hj'⟩ := hb0
          -- the numbers that the run gives at the end depend on the long alone: take it from the cells
          obtain ⟨t', ht'⟩ : ∃ t', gHt t' (gOg b (ρ'.foldr gOg (gtp (gSt (M 5) (M 6) (gmk n.1) (m : Int))))) := gHt_ex (gOg_Dk hcD [b])
          obtain ⟨r, M', k1, k2, k3⟩ := ihq (b :: ρ') t' (by show ρ'.length + 1 + q = n.2.length + 1; omega) s1 ht'
          rw [el] at k1
          refine ⟨r, M', tree_130_0 ⟨by omega, by omega⟩ (by omega) ⟨by omega, by omega⟩ ⟨by omega, by omega⟩ ?_, k2, k3⟩
          refine L_twalk hS (by omega) n.2 n.1 k ha (by omega) (fun j2 b2 ρ2 z1 z2 z3 => ?_)
          have ez := gSx_eq z1 s1 (by show ρ2.length + 1 = ρ'.length + 1; omega)
          cases ez
          refine L_tless hS ⟨e0, by omega, by omega⟩ z3 ht hcD hcZ (L_tout hS ⟨e0, by omega, by omega⟩ z3 ht hcD hcZ (by omega) (fun th2 h2 => ?_)) (by omega)
          have eth : th2 = t' := (gHt_eq h2 ht' (gOg_Dk hcD [b]) (gOg_Dk hcD [b])).mpr rfl
          rw [eth]
          exact tree_270 k1
      obtain ⟨r, M', k1, k2, k3⟩ := og (n.2.length + 1) [] th (by show 0 + (n.2.length + 1) = n.2.length + 1; omega) List.nil_suffix t2
      exact ⟨r, M', tree_82_001 g1 g2 g3 rfl ⟨by decide, by decide⟩ ⟨by omega, by omega⟩ hcan (by omega) (by decide) ⟨by decide, by decide⟩ t1 (by omega) k1, k2, k3⟩
    · rw [gi_neg hc] at hcan
      obtain ⟨r, M', k1, k2, k3⟩ := ih (m + 1) M1 L (by omega) hf hS ha hni (gTf_n hF hc)
      exact ⟨r, M', tree_82_000 g1 g2 g3 rfl ⟨by decide, by decide⟩ ⟨by omega, by omega⟩ hcan (by omega) rfl ⟨by decide, by decide⟩ (tree_315 k1), k2, k3⟩
theorem X_ltreeOut {M : gx_M} (hd : 2 ≤ d) (h : gLN M) {V : Nat} (hV : M 1 1 = (V : Int)) (L00 : List gN) : ∀ (f k : Nat) (M1 : gx_M) (L : List gN), k + f = 60 → (∀ q, q ≤ 107 → M1 q = M q) → gLT (M 1 0) M1 L → gTb (M 5) (M 6) V 60 60 0 L00 = gTb (M 5) (M 6) V 60 f k L →
    ∃ r M', gx_G l κ gx_sh z_mt zL_tree d (21, [gU, gU, gR 105, gR 106, gR 109, gR 110, gR 111, gI (L.length : Int), gI (k : Int), gU, gU, gU, gU, gU, gU, gU, gU], [], M1) (gx_eq (some (gI r)) M') ∧ (∀ q, q ≠ 108 → q ≠ 109 → q ≠ 110 → M' q = M1 q) ∧ gLTW (M 1 0) M M' V L00 r := by
  intro f
  induction f with
  | zero =>
    intro k M1 L hk hf hS hB
    have hl := hS.1
    exact ⟨(L.length : Int), M1, tree_21_1 (by omega) ⟨by omega, by omega⟩ ⟨by omega, by omega⟩ ⟨rfl, rfl⟩, fun _ _ _ _ => rfl, Or.inr ⟨L, by rw [hB]; rfl, rfl, hS⟩⟩
  | succ f ih =>
    intro k M1 L hk hf hS hB
    have hl := hS.1
    have eB : gTb (M 5) (M 6) V 60 (f + 1) k L = (match L[k]? with | none => some L | some a => (gTs (M 5) (M 6) V 60 a L).bind (gTb (M 5) (M 6) V 60 f (k + 1))) := rfl
    by_cases hkl : L.length ≤ k
    · rw [List.getElem?_eq_none hkl] at eB
      exact ⟨(L.length : Int), M1, tree_21_1 (by omega) ⟨by omega, by omega⟩ ⟨by omega, by omega⟩ ⟨rfl, rfl⟩, fun _ _ _ _ => rfl, Or.inr ⟨L, by rw [hB, eB], rfl, hS⟩⟩
    · obtain ⟨a, ha⟩ : ∃ a, L[k]? = some a := ⟨L[k], List.getElem?_eq_getElem (by omega)⟩
      rw [ha] at eB
      replace eB : gTb (M 5) (M 6) V 60 (f + 1) k L = (gTs (M 5) (M 6) V 60 a L).bind (gTb (M 5) (M 6) V 60 f (k + 1)) := eB
      by_cases hi : a.1 ∈ a.2
      · obtain ⟨r, M', k1, k2, k3⟩ := ih (k + 1) M1 L (by omega) hf hS (by rw [hB, eB, gTs_in hi]; rfl)
        refine ⟨r, M', tree_21_0 (by omega) ⟨by omega, by omega⟩ ⟨by omega, by omega⟩ ⟨by omega, by omega⟩ (L_tsame hS ha ?_), k2, k3⟩
        rw [gi_pos hi]
        have e1 : M1 104 1 = (V : Int) := by rw [hf 104 (by decide), h.2.1.2]; exact hV
        by_cases hV0 : V = 0
        · exact tree_82_1 (by omega) ⟨by decide, by decide⟩ ⟨by omega, by omega⟩ (tree_321 k1)
        · have hV4 : V ≤ 4 := by have := h.1.1.2; have := h.2.1.2; omega
          exact tree_82_01 (by omega) ⟨by decide, by decide⟩ ⟨by omega, by omega⟩ (by decide) ⟨by decide, by decide⟩ (tree_321 k1)
      · obtain ⟨r, M', k1, k2, k3⟩ := X_ltreeIn (l := l) (κ := κ) (d := d) hd h hV L00 (k := k) (n := a) (L0 := L) (by omega) (fun M2 L2 q1 q2 q3 => by
          obtain ⟨r, M', k1, k2, k3⟩ := ih (k + 1) M2 L2 (by omega) q1 q2 (by rw [hB, eB, q3]; rfl)
          exact ⟨r, M', k1, k2, k3⟩) V 0 M1 L (by omega) hf hS ha hi rfl
        refine ⟨r, M', tree_21_0 (by omega) ⟨by omega, by omega⟩ ⟨by omega, by omega⟩ ⟨by omega, by omega⟩ (L_tsame hS ha ?_), k2, k3⟩
        rw [gi_neg hi]
        exact k1
theorem X_ltree {M : gx_M} {now b c : Int} (hd : 2 ≤ d) (hR : gLR M now) (h0 : gI0 M b c) (hb : b ≤ 10000) :
    ∃ r M', gx_X l κ gx_sh z_mt zL_tree d [gJ now, gR 105, gR 106, gR 109, gR 110, gR 111] M (gx_eq (some (gI r)) M') ∧ (∀ q, q ≠ 108 → q ≠ 109 → q ≠ 110 → M' q = M q) ∧ gLTW (M 1 0) M M' (M 1 1).toNat [(gtp (M 2), [])] r := by
  have hP := h0.1.1
  have hval : ∀ p, 0 ≤ p → p < 4 → 0 ≤ M 2 p ∧ M 2 p ≤ 10000 := fun p p1 p2 => by
    have := (h0.1.2.2 p p1 (by omega)).1
    omega
  have hho : gHt now (gtp (M 2)) := ⟨hR.2.1, fun p p1 p2 => by
    have := hval p p1 p2
    rw [gmk_tp _ ⟨p1, p2⟩, gcl_n (by omega)]; exact hR.2.2.2.2 p p1 p2⟩
  have hv : gTv 10000 ((gtp (M 2), []) : gN) := fun p p1 p2 => by
    show gmk (gtp (M 2)) p = _ ∨ (0 ≤ gmk (gtp (M 2)) p ∧ gmk (gtp (M 2)) p ≤ 10000 + 9 * ((0 : Nat) : Int))
    rw [gmk_tp _ ⟨p1, p2⟩]
    have := hval p p1 p2
    omega
  have hz : ∀ a ∈ ((gtp (M 2), []) : gN).1 :: ((gtp (M 2), []) : gN).2, gZp (M 1 0) a := fun a ha p p0 p1 p2 => by
    rcases List.mem_cons.mp ha with e | e
    · rw [e]
      show gmk (gtp (M 2)) p = 0
      rw [gmk_tp _ ⟨p1, p2⟩]
      exact (h0.2.2.2.1 p p0 (by omega)).1
    · cases e
  have hS0 : gLT (M 1 0) M [] := ⟨by decide, fun i a ha => (by cases ha)⟩
  have hS1 : gLT (M 1 0) (gx_up (gx_up (gx_up M 108 0 now) 109 0 0) 110 0 (-1)) ([] ++ [((gtp (M 2), []) : gN)]) := gLT_app (r := now) (u := -1) hS0 (by decide) hho (Nat.le_refl 0) hv hz (fun b ρ e => by cases e) (fun _ => rfl) (fun q => by rw [gx_up_ne (by decide), gx_up_ne (by decide), gx_up_at]; rfl) (fun q => by rw [gx_up_ne (by decide), gx_up_at, gx_up_ne (by decide)]; rfl) (fun q => by rw [gx_up_at, gx_up_ne (by decide), gx_up_ne (by decide)]; rfl)
  obtain ⟨r, M', k1, k2, k3⟩ := X_ltreeOut (l := l) (κ := κ) (d := d) hd (gLN_of hR h0) (V := (M 1 1).toNat) (Int.toNat_of_nonneg hP.2.1).symm [(gtp (M 2), [])] 60 0 (gx_up (gx_up (gx_up M 108 0 now) 109 0 0) 110 0 (-1)) [(gtp (M 2), [])] (by omega) (fun q hq => by rw [gx_up_ne (by omega), gx_up_ne (by omega), gx_up_ne (by omega)]) hS1 rfl
  exact ⟨r, M', tree_e k1, fun q q1 q2 q3 => by rw [k2 q q1 q2 q3, gx_up_ne q3, gx_up_ne q2, gx_up_ne q1], k3⟩
end LTREE
