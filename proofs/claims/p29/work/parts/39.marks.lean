/-! markings found one by one: the search as a function of lists; the methods of Marks -/
abbrev gK : Type := Int × Int × Int × Int
abbrev gE : Type := gK × Int
def gmk (a : gK) (p : Int) : Int := if p = 0 then a.1 else if p = 1 then a.2.1 else if p = 2 then a.2.2.1 else if p = 3 then a.2.2.2 else 0
def gtp (T : Int → Int) : gK := (T 0, T 1, T 2, T 3)
theorem gmk_tp (T : Int → Int) {p : Int} (hp : 0 ≤ p ∧ p < 4) : gmk (gtp T) p = T p := by
  rcases (by omega : p = 0 ∨ p = 1 ∨ p = 2 ∨ p = 3) with rfl | rfl | rfl | rfl <;> rfl
theorem gmk_hi (a : gK) {p : Int} (hp : 4 ≤ p) : gmk a p = 0 := by
  unfold gmk
  rw [if_neg (by omega), if_neg (by omega), if_neg (by omega), if_neg (by omega)]
theorem gmk_ext {a b : gK} (h : ∀ p, 0 ≤ p → p < 4 → gmk a p = gmk b p) : a = b := by
  have h0 : a.1 = b.1 := h 0 (by decide) (by decide)
  have h1 : a.2.1 = b.2.1 := h 1 (by decide) (by decide)
  have h2 : a.2.2.1 = b.2.2.1 := h 2 (by decide) (by decide)
  have h3 : a.2.2.2 = b.2.2.2 := h 3 (by decide) (by decide)
  exact Prod.ext h0 (Prod.ext h1 (Prod.ext h2 h3))
/-- a new marking is taken in, as long as there is room; none where there is not -/
noncomputable def gMeet (cap : Nat) (L : List gE) (x : gE) : Option (List gE) := @ite _ (∃ y ∈ L, y.1 = x.1) (Classical.propDecidable _) (some L) (if L.length = cap then none else some (L ++ [x]))
def gNx (tk gv : Int → Int) (a : gE) (m : Nat) : gE := (gtp (gSt tk gv (gmk a.1) (m : Int)), a.2 + 1)
noncomputable def gFo (tk gv : Int → Int) (cap : Nat) (a : gE) : Nat → List gE → Option (List gE)
  | 0, L => some L
  | m + 1, L => (gFo tk gv cap a m L).bind (fun L' => @ite _ (gCn tk (gmk a.1) (m : Int)) (Classical.propDecidable _) (gMeet cap L' (gNx tk gv a m)) (some L'))
noncomputable def gBf (tk gv : Int → Int) (V cap : Nat) : Nat → Nat → List gE → Option (List gE)
  | 0, _, L => some L
  | f + 1, k, L => match L[k]? with
    | none => some L
    | some a => (gFo tk gv cap a V L).bind (gBf tk gv V cap f (k + 1))
theorem gMeet_in {cap : Nat} {L : List gE} {x : gE} (h : ∃ y ∈ L, y.1 = x.1) : gMeet cap L x = some L := @if_pos _ (Classical.propDecidable _) h _ _ _
theorem gMeet_out {cap : Nat} {L : List gE} {x : gE} (h : ¬ ∃ y ∈ L, y.1 = x.1) : gMeet cap L x = if L.length = cap then none else some (L ++ [x]) := @if_neg _ (Classical.propDecidable _) h _ _ _
theorem gMeet_cap {c c' : Nat} (hc : c ≤ c') {L L' : List gE} {x : gE} (hl : L.length ≤ c) (h : gMeet c L x = some L') : gMeet c' L x = some L' ∧ L'.length ≤ c ∧ L <+: L' := by
  by_cases hx : ∃ y ∈ L, y.1 = x.1
  · rw [gMeet_in hx] at h ⊢
    cases h
    exact ⟨rfl, hl, List.prefix_refl _⟩
  · rw [gMeet_out hx] at h ⊢
    by_cases hn : L.length = c
    · rw [if_pos hn] at h; cases h
    · rw [if_neg hn] at h
      cases h
      rw [if_neg (by omega)]
      exact ⟨rfl, by rw [List.length_append]; show L.length + 1 ≤ c; omega, List.prefix_append _ _⟩
theorem gFo_cap {tk gv : Int → Int} {c c' : Nat} (hc : c ≤ c') {a : gE} : ∀ (m : Nat) {L L' : List gE}, L.length ≤ c → gFo tk gv c a m L = some L' → gFo tk gv c' a m L = some L' ∧ L'.length ≤ c ∧ L <+: L' := by
  intro m
  induction m with
  | zero => intro L L' hl h; cases h; exact ⟨rfl, hl, List.prefix_refl _⟩
  | succ m ih =>
    intro L L' hl h
    obtain ⟨L1, h1, h2⟩ := Option.bind_eq_some_iff.mp h
    obtain ⟨k1, k2, k3⟩ := ih hl h1
    have e : gFo tk gv c' a (m + 1) L = (gFo tk gv c' a m L).bind (fun L' => @ite _ (gCn tk (gmk a.1) (m : Int)) (Classical.propDecidable _) (gMeet c' L' (gNx tk gv a m)) (some L')) := rfl
    rw [e, k1]
    show @ite _ (gCn tk (gmk a.1) (m : Int)) (Classical.propDecidable _) (gMeet c' L1 (gNx tk gv a m)) (some L1) = some L' ∧ _
    by_cases hcn : gCn tk (gmk a.1) (m : Int)
    · rw [@if_pos _ (Classical.propDecidable _) hcn] at h2 ⊢
      obtain ⟨q1, q2, q3⟩ := gMeet_cap hc k2 h2
      exact ⟨q1, q2, List.IsPrefix.trans k3 q3⟩
    · rw [@if_neg _ (Classical.propDecidable _) hcn] at h2 ⊢
      cases h2
      exact ⟨rfl, k2, k3⟩
theorem gBf_cap {tk gv : Int → Int} {V c c' : Nat} (hc : c ≤ c') : ∀ (f f' k : Nat) {L L' : List gE}, f ≤ f' → c ≤ f + k → L.length ≤ c → gBf tk gv V c f k L = some L' → gBf tk gv V c' f' k L = some L' ∧ L'.length ≤ c ∧ L <+: L' := by
  intro f
  induction f with
  | zero =>
    intro f' k L L' hf hk hl h
    cases h
    refine ⟨?_, hl, List.prefix_refl _⟩
    cases f' with
    | zero => rfl
    | succ f' =>
      have e : L[k]? = none := List.getElem?_eq_none (by omega)
      show (match L[k]? with | none => some L | some a => (gFo tk gv c' a V L).bind (gBf tk gv V c' f' (k + 1))) = some L
      rw [e]
  | succ f ih =>
    intro f' k L L' hf hk hl h
    obtain ⟨f', rfl⟩ : ∃ g, f' = g + 1 := ⟨f' - 1, by omega⟩
    have h' : (match L[k]? with | none => some L | some a => (gFo tk gv c a V L).bind (gBf tk gv V c f (k + 1))) = some L' := h
    show (match L[k]? with | none => some L | some a => (gFo tk gv c' a V L).bind (gBf tk gv V c' f' (k + 1))) = some L' ∧ _
    cases hL : L[k]? with
    | none => rw [hL] at h'; cases h'; exact ⟨rfl, hl, List.prefix_refl _⟩
    | some a =>
      rw [hL] at h'
      obtain ⟨L1, h1, h2⟩ := Option.bind_eq_some_iff.mp h'
      obtain ⟨k1, k2, k3⟩ := gFo_cap hc V hl h1
      obtain ⟨q1, q2, q3⟩ := ih f' (k + 1) (by omega) (by omega) k2 h2
      refine ⟨?_, q2, List.IsPrefix.trans k3 q3⟩
      show (gFo tk gv c' a V L).bind (gBf tk gv V c' f' (k + 1)) = some L'
      rw [k1]
      exact q1
/-- the hash of a marking -/
def gHf (T : Int → Int) : Nat → Int
  | 0 => 0
  | p + 1 => gHf T p * 31 + T (p : Int)
def gHs (T : Int → Int) : Int := gx_and (gx_ushr (gHf T 8 * (gx_lit 2654435769)) 22) 1023
theorem gHs_rng (T : Int → Int) : 0 ≤ gHs T ∧ gHs T < 1024 := by
  have h := gb_and_le (gx_ushr (gHf T 8 * (gx_lit 2654435769)) 22) 1023 ⟨by decide, by decide⟩
  unfold gHs
  omega
theorem gHf_congr {T T' : Int → Int} : ∀ k : Nat, k ≤ 8 → (∀ p, 0 ≤ p → p < 8 → T p = T' p) → gHf T k = gHf T' k := by
  intro k
  induction k with
  | zero => intro _ _; rfl
  | succ k ih =>
    intro hk h
    show gHf T k * 31 + T (k : Int) = gHf T' k * 31 + T' (k : Int)
    rw [ih (by omega) h, h (k : Int) (by omega) (by omega)]
theorem gHs_congr {T T' : Int → Int} (h : ∀ p, 0 ≤ p → p < 8 → T p = T' p) : gHs T = gHs T' := by
  unfold gHs
  rw [gHf_congr 8 (Nat.le_refl 8) h]
section MARKS
variable {l : Launch} {κ : yK} {d : Nat} {M : gx_M}
theorem X_isLikeN {mk : Int} (hm : 0 ≤ mk ∧ mk < 300) (h1 : ∀ p, 0 ≤ p → p < 8 → gx_R (M 87 (mk * 8 + p)) ∧ gx_R (M 88 p)) : gx_X l κ gx_sh z_mt zX2_isLike d [gR 81, gI mk, gR 89, gI 0] M (gx_eq (some (gI (gi (∀ p, 0 ≤ p → p < 8 → M 87 (mk * 8 + p) = M 88 p)))) M) := by
  have loop : ∀ (k : Nat) (p : Int), p + k = 8 → 0 ≤ p → (∀ q, 0 ≤ q → q < p → M 87 (mk * 8 + q) = M 88 q) →
      gx_G l κ gx_sh z_mt zX2_isLike d (3, [gR 81, gI mk, gR 89, gI 0, gI p], [], M) (gx_eq (some (gI (gi (∀ p, 0 ≤ p → p < 8 → M 87 (mk * 8 + p) = M 88 p)))) M) := by
    intro k
    induction k with
    | zero =>
      intro p hp h0 hq
      have e : gi (∀ p, 0 ≤ p → p < 8 → M 87 (mk * 8 + p) = M 88 p) = 1 := gi_pos (fun q q1 q2 => hq q q1 (by omega))
      rw [e]
      exact isLikeN_3_1 (by omega) ⟨by omega, by omega⟩ ⟨rfl, rfl⟩
    | succ k ih =>
      intro p hp h0 hq
      obtain ⟨a1, a2⟩ := h1 p h0 (by omega)
      by_cases c : M 87 (mk * 8 + p) = M 88 p
      · refine isLikeN_3_01 (by omega) ⟨by omega, by omega⟩ ⟨by omega, by omega⟩ ⟨by omega, by omega⟩ (by rw [Int.zero_add]; exact c) a1 (by rw [Int.zero_add]; exact a2) (ih (p + 1) (by omega) (by omega) (fun q q1 q2 => ?_))
        by_cases e : q = p
        · rw [e]; exact c
        · exact hq q q1 (by omega)
      · have e : gi (∀ p, 0 ≤ p → p < 8 → M 87 (mk * 8 + p) = M 88 p) = 0 := gi_neg (fun z => c (z p h0 (by omega)))
        rw [e]
        exact isLikeN_3_00 (by omega) ⟨by omega, by omega⟩ ⟨by omega, by omega⟩ ⟨by omega, by omega⟩ (by rw [Int.zero_add]; exact c) a1 (by rw [Int.zero_add]; exact a2) ⟨rfl, rfl⟩
  exact isLikeN_e (loop 8 0 (by omega) (by omega) (fun q q1 q2 => by omega))
theorem X_isNext {mk : Int} (hd : 1 ≤ d) (hm : 0 ≤ mk ∧ mk < 300) (h1 : ∀ p, 0 ≤ p → p < 8 → gx_R (M 87 (mk * 8 + p)) ∧ gx_R (M 88 p)) : gx_X l κ gx_sh z_mt zX2_isNext d [gR 81, gI mk] M (gx_eq (some (gI (gi (∀ p, 0 ≤ p → p < 8 → M 87 (mk * 8 + p) = M 88 p)))) M) :=
  isNext_e (X_isLikeN (d := 0) hm h1) (by omega) (gi_rng _) ⟨rfl, rfl⟩
theorem X_hash : gx_X l κ gx_sh z_mt zX5_hash d [gR 89] M (gx_eq (some (gI (gHs (M 88)))) M) := by
  have loop : ∀ (k p : Nat), p + k = 8 → gx_G l κ gx_sh z_mt zX5_hash d (4, [gR 89, gI (gHf (M 88) p), gI (p : Int)], [], M) (gx_eq (some (gI (gHs (M 88)))) M) := by
    intro k
    induction k with
    | zero =>
      intro p hp
      have e : p = 8 := by omega
      subst e
      exact hash_4_1 (by omega) ⟨by omega, by omega⟩ ⟨rfl, rfl⟩
    | succ k ih =>
      intro p hp
      exact hash_4_0 (by omega) ⟨by omega, by omega⟩ ⟨by omega, by omega⟩ (ih (p + 1) (by omega))
  exact hash_e (loop 8 0 (by omega))
theorem X_fill : ∃ M', gx_X l κ gx_sh z_mt zJ7_fill_53178 d [gR 91, gI 0] M (gx_eq none M') ∧ (∀ c, c ≠ 90 → M' c = M c) ∧ ∀ i, 0 ≤ i → i < 1024 → M' 90 i = 0 := by
  have loop : ∀ (k : Nat) (i : Int) (M1 : gx_M), i + k = 1024 → 0 ≤ i → (∀ c, c ≠ 90 → M1 c = M c) → (∀ j, 0 ≤ j → j < i → M1 90 j = 0) →
      ∃ M', gx_G l κ gx_sh z_mt zJ7_fill_53178 d (5, [gR 91, gI 0, gI i, gI 1024], [], M1) (gx_eq none M') ∧ (∀ c, c ≠ 90 → M' c = M c) ∧ ∀ i, 0 ≤ i → i < 1024 → M' 90 i = 0 := by
    intro k
    induction k with
    | zero =>
      intro i M1 hi h0 h1 h2
      exact ⟨M1, fill_5_1 (by omega) ⟨by omega, by omega⟩ ⟨by decide, by decide⟩ ⟨rfl, rfl⟩, h1, fun j j1 j2 => h2 j j1 (by omega)⟩
    | succ k ih =>
      intro i M1 hi h0 h1 h2
      obtain ⟨M', k1, k2, k3⟩ := ih (i + 1) (gx_up M1 90 i 0) (by omega) (by omega) (fun c hc => by rw [gx_up_ne hc]; exact h1 c hc) (fun j j1 j2 => by
        rw [gx_up_at]
        by_cases e : j = i
        · rw [if_pos e]
        · rw [if_neg e]; exact h2 j j1 (by omega))
      exact ⟨M', fill_5_0 (by omega) ⟨by omega, by omega⟩ ⟨by decide, by decide⟩ ⟨by omega, by omega⟩ k1, k2, k3⟩
  obtain ⟨M', k1, k2, k3⟩ := loop 1024 0 M (by omega) (by omega) (fun _ _ => rfl) (fun j j1 j2 => by omega)
  exact ⟨M', fill_e k1, k2, k3⟩
/-- the net that was looked at: its numbers are ints -/
def gMRR (M : gx_M) : Prop := (M 80 1 = 0 ∨ M 80 1 = 1) ∧ (M 80 1 = 1 → (gx_R (M 81 0) ∧ gx_R (M 81 1)) ∧ (∀ i, 0 ≤ i → i < 64 → gx_R (M 85 i) ∧ gx_R (M 86 i)) ∧ ∀ p, 0 ≤ p → p < 8 → gx_R (M 82 p))
/-- the net that was looked at is the net of now -/
def gSameR (M : gx_M) : Prop := M 80 1 = 1 ∧ ((M 81 0 = M 1 0 ∧ M 81 1 = M 1 1) ∧ ∀ i, 0 ≤ i → i < 64 → M 85 i = M 5 i ∧ M 86 i = M 6 i) ∧ ∀ p, 0 ≤ p → p < 8 → M 82 p = M 2 p
theorem X_beginsR {b c : Int} (hd : 1 ≤ d) (hb : b ≤ 90000) (h0 : gI0 M b c) (h : gMRR M) :
    (gSameR M ∧ gx_X l κ gx_sh z_mt zX2_begins d [gR 81, gR 2] M (gx_eq (some (gI 0)) M)) ∨
    ∃ M', gx_X l κ gx_sh z_mt zX2_begins d [gR 81, gR 2] M (gx_eq (some (gI 1)) M') ∧ (∀ k, (k < 80 ∨ k = 87 ∨ 89 ≤ k) → M' k = M k) ∧ gSameR M' ∧ (M' 80 4 = 0 ∧ M' 80 5 = 0 ∧ M' 80 6 = 0) ∧ ∀ p, 0 ≤ p → p < 8 → M' 88 p = M 2 p := by
  have new : ∃ M1, gx_X l κ gx_sh z_mt zX3_copy 0 [gR 82, gR 2] M (gx_eq none M1) ∧ (∀ k, (k < 80 ∨ k = 87 ∨ 89 ≤ k) → (gx_cp (gx_up (gx_up (gx_up (gx_up M1 80 1 1) 80 4 0) 80 5 0) 80 6 0) 2 88 0 0 8) k = M k) ∧ gSameR (gx_cp (gx_up (gx_up (gx_up (gx_up M1 80 1 1) 80 4 0) 80 5 0) 80 6 0) 2 88 0 0 8) ∧ ((gx_cp (gx_up (gx_up (gx_up (gx_up M1 80 1 1) 80 4 0) 80 5 0) 80 6 0) 2 88 0 0 8) 80 4 = 0 ∧ (gx_cp (gx_up (gx_up (gx_up (gx_up M1 80 1 1) 80 4 0) 80 5 0) 80 6 0) 2 88 0 0 8) 80 5 = 0 ∧ (gx_cp (gx_up (gx_up (gx_up (gx_up M1 80 1 1) 80 4 0) 80 5 0) 80 6 0) 2 88 0 0 8) 80 6 = 0) ∧ ∀ p, 0 ≤ p → p < 8 → (gx_cp (gx_up (gx_up (gx_up (gx_up M1 80 1 1) 80 4 0) 80 5 0) 80 6 0) 2 88 0 0 8) 88 p = M 2 p := by
    obtain ⟨M1, c1, c2, c3, c4, c5⟩ := X_copy81 (l := l) (κ := κ) (d := 0) (M := M)
    have hk : ∀ k, k ≠ 80 → k ≠ 88 → (gx_cp (gx_up (gx_up (gx_up (gx_up M1 80 1 1) 80 4 0) 80 5 0) 80 6 0) 2 88 0 0 8) k = M1 k := fun k k1 k2 => by rw [gx_cp_ne k2, gx_up_ne k1, gx_up_ne k1, gx_up_ne k1, gx_up_ne k1]
    have hB : ∀ j, (gx_cp (gx_up (gx_up (gx_up (gx_up M1 80 1 1) 80 4 0) 80 5 0) 80 6 0) 2 88 0 0 8) 80 j = if j = 6 then 0 else if j = 5 then 0 else if j = 4 then 0 else if j = 1 then 1 else M1 80 j := fun j => by rw [gx_cp_ne (by decide), gx_up_at, gx_up_at, gx_up_at, gx_up_at]
    refine ⟨M1, c1, fun k hkk => by rw [hk k (by omega) (by omega), c2 k (by omega)], ⟨?_, ⟨?_, ?_⟩, ?_⟩, ⟨?_, ?_, ?_⟩, ?_⟩
    · rw [hB]; rfl
    · rw [hk 81 (by decide) (by decide), hk 1 (by decide) (by decide), c2 1 (by decide)]; exact c3
    · intro i i1 i2
      rw [hk 85 (by decide) (by decide), hk 86 (by decide) (by decide), hk 5 (by decide) (by decide), hk 6 (by decide) (by decide), c2 5 (by decide), c2 6 (by decide)]
      exact c5 i i1 i2
    · intro p p1 p2
      rw [hk 82 (by decide) (by decide), hk 2 (by decide) (by decide), c2 2 (by decide)]
      exact c4 p p1 p2
    · rw [hB]; rfl
    · rw [hB]; rfl
    · rw [hB]; rfl
    · intro p p1 p2
      rw [gx_cp_in ⟨p1, by omega⟩, gx_up_ne (by decide), gx_up_ne (by decide), gx_up_ne (by decide), gx_up_ne (by decide), c2 2 (by decide)]
      congr 1
      omega
  obtain ⟨M1, n1, n2, n3, n4, n5⟩ := new
  rcases h.1 with hz | hz
  · exact Or.inr ⟨_, beginsR_e_1 hz (by rw [hz]; exact ⟨by decide, by decide⟩) n1 (by omega) ⟨rfl, rfl⟩, n2, n3, n4, n5⟩
  · obtain ⟨g1, g2, g3⟩ := h.2 hz
    have hP := h0.1.1
    have hA := h0.1.2.1
    have zR : gx_R (M 80 1) := by rw [hz]; exact ⟨by decide, by decide⟩
    have zN : ¬ M 80 1 = 0 := by rw [hz]; decide
    have x1 := X_sameArcs81 (l := l) (κ := κ) (d := 0) (M := M) ⟨g1.1, g1.2, ⟨by omega, by omega⟩, ⟨by omega, by omega⟩⟩ (fun i i1 i2 => by
      have := hA i i1 i2
      exact ⟨g2 i i1 i2, ⟨by omega, by omega⟩, ⟨by omega, by omega⟩⟩)
    have x2 := X_sameMarking81 (l := l) (κ := κ) (d := 0) (M := M) (fun p p1 p2 => by
      have := h0.1.2.2 p p1 p2
      exact ⟨g3 p p1 p2, by omega, by omega⟩)
    by_cases c1 : ((M 81 0 = M 1 0 ∧ M 81 1 = M 1 1) ∧ ∀ i, 0 ≤ i → i < 64 → M 85 i = M 5 i ∧ M 86 i = M 6 i)
    · rw [gi_pos c1] at x1
      by_cases c2 : ∀ p, 0 ≤ p → p < 8 → M 82 p = M 2 p
      · rw [gi_pos c2] at x2
        exact Or.inl ⟨⟨hz, c1, c2⟩, beginsR_e_000 zN zR x1 (by omega) (by decide) ⟨by decide, by decide⟩ x2 (by omega) (by decide) ⟨by decide, by decide⟩ ⟨rfl, rfl⟩⟩
      · rw [gi_neg c2] at x2
        exact Or.inr ⟨_, beginsR_e_001 zN zR x1 (by omega) (by decide) ⟨by decide, by decide⟩ x2 (by omega) rfl ⟨by decide, by decide⟩ n1 (by omega) ⟨rfl, rfl⟩, n2, n3, n4, n5⟩
    · rw [gi_neg c1] at x1
      exact Or.inr ⟨_, beginsR_e_01 zN zR x1 (by omega) rfl ⟨by decide, by decide⟩ n1 (by omega) ⟨rfl, rfl⟩, n2, n3, n4, n5⟩
theorem X_takeInR (h : 0 ≤ M 80 4 ∧ M 80 4 < 300) : ∃ M', gx_X l κ gx_sh z_mt zX2_takeIn d [gR 81] M (gx_eq (some (gI 1)) M') ∧ (∀ k, k ≠ 80 → k ≠ 87 → M' k = M k) ∧ (∀ j, M' 80 j = if j = 4 then M 80 4 + 1 else M 80 j) ∧ (∀ q, (q < M 80 4 * 8 ∨ M 80 4 * 8 + 8 ≤ q) → M' 87 q = M 87 q) ∧ ∀ p, 0 ≤ p → p < 8 → M' 87 (M 80 4 * 8 + p) = M 88 p := by
  refine ⟨_, takeInR_e_1 (by omega) ⟨by omega, by omega⟩ ⟨⟨by omega, by omega, by omega⟩, by omega, by omega⟩ ⟨rfl, rfl⟩, fun k k1 k2 => by rw [gx_up_ne k1, gx_cp_ne k2], fun j => ?_, fun q hq => ?_, fun p p1 p2 => ?_⟩
  · rw [gx_up_at, gx_cp_ne (by decide)]
  · rw [gx_up_ne (by decide)]
    exact if_neg (fun z => by omega)
  · rw [gx_up_ne (by decide), gx_cp_in ⟨by omega, by omega⟩]
    congr 1
    omega
theorem X_takeInRN (h : M 80 4 = 300) : gx_X l κ gx_sh z_mt zX2_takeIn d [gR 81] M (gx_eq (some (gI 0)) (gx_up M 80 5 1)) := takeInR_e_0 (by omega) ⟨by omega, by omega⟩ ⟨rfl, rfl⟩
/-- whether a move can be made at a marking; then the one behind it is the next one -/
theorem X_leadsR {fr mv mh : Int} (hd : 1 ≤ d) (hf : 0 ≤ fr ∧ fr < 300) (hm : 0 ≤ mv ∧ mv < 8) (hh : gx_R mh) (hr : ∀ p, 0 ≤ p → p < 8 → 0 ≤ M 87 (fr * 8 + p) ∧ M 87 (fr * 8 + p) ≤ 1073741824) (hmh : ∀ p, 0 ≤ p → p < 8 → M 87 (fr * 8 + p) + 9 ≤ mh) (hA : gAr M 85 86) :
    (¬ gCn (M 85) (fun p => M 87 (fr * 8 + p)) mv ∧ gx_X l κ gx_sh z_mt zX2_leads d [gR 81, gI fr, gI mv, gI mh] M (gx_eq (some (gI 0)) M)) ∨
    (gCn (M 85) (fun p => M 87 (fr * 8 + p)) mv ∧ ∃ M', gx_X l κ gx_sh z_mt zX2_leads d [gR 81, gI fr, gI mv, gI mh] M (gx_eq (some (gI 1)) M') ∧ (∀ k, k ≠ 80 → k ≠ 88 → M' k = M k) ∧ (∀ j, M' 80 j = if j = 6 then gx_or (M 80 6) (gx_shl 1 mv) else M 80 j) ∧ ∀ p, 0 ≤ p → p < 8 → M' 88 p = gSt (M 85) (M 86) (fun p => M 87 (fr * 8 + p)) mv p) := by
  have h1 := X_allows81 (l := l) (κ := κ) (d := 0) (M := M) (fr := fr * 8) (mv := mv) (mh := mh) ⟨by omega, by omega⟩ hm hh hr hA
  rw [gi_congr (gAL_Cn hm hA hmh)] at h1
  by_cases c : gCn (M 85) (fun p => M 87 (fr * 8 + p)) mv
  · rw [gi_pos c] at h1
    obtain ⟨M', s1, s2, s3⟩ := X_step81 (l := l) (κ := κ) (d := 0) (M := gx_up M 80 6 (gx_or (M 80 6) (gx_shl 1 mv))) (fr := fr * 8) (mv := mv) ⟨by omega, by omega⟩ (fun z => absurd z (by decide)) hm (fun p p1 p2 => by
      rw [gx_up_ne (by decide)]
      have := hr p p1 p2
      exact ⟨by omega, by omega⟩)
    refine Or.inr ⟨c, M', leadsR_e_1 h1 (by omega) (by decide) ⟨by decide, by decide⟩ s1 (by omega) ⟨rfl, rfl⟩, fun k k1 k2 => by rw [s2 k k2, gx_up_ne k1], fun j => by rw [s2 80 (by decide), gx_up_at], fun p p1 p2 => ?_⟩
    rw [s3 p p1 p2, gx_up_ne (by decide), gx_up_ne (by decide), gx_up_ne (by decide)]
    rfl
  · rw [gi_neg c] at h1
    exact Or.inl ⟨c, leadsR_e_0 h1 (by omega) rfl ⟨by decide, by decide⟩ ⟨rfl, rfl⟩⟩
/-- the net that was looked at: its numbers are ints -/
def gMRT (M : gx_M) : Prop := (M 92 1 = 0 ∨ M 92 1 = 1) ∧ (M 92 1 = 1 → (gx_R (M 93 0) ∧ gx_R (M 93 1)) ∧ (∀ i, 0 ≤ i → i < 64 → gx_R (M 97 i) ∧ gx_R (M 98 i)) ∧ ∀ p, 0 ≤ p → p < 8 → gx_R (M 94 p))
/-- the net that was looked at is the net of now -/
def gSameT (M : gx_M) : Prop := M 92 1 = 1 ∧ ((M 93 0 = M 1 0 ∧ M 93 1 = M 1 1) ∧ ∀ i, 0 ≤ i → i < 64 → M 97 i = M 5 i ∧ M 98 i = M 6 i) ∧ ∀ p, 0 ≤ p → p < 8 → M 94 p = M 2 p
theorem X_beginsT {b c : Int} (hd : 1 ≤ d) (hb : b ≤ 90000) (h0 : gI0 M b c) (h : gMRT M) :
    (gSameT M ∧ gx_X l κ gx_sh z_mt zX2_begins d [gR 93, gR 2] M (gx_eq (some (gI 0)) M)) ∨
    ∃ M', gx_X l κ gx_sh z_mt zX2_begins d [gR 93, gR 2] M (gx_eq (some (gI 1)) M') ∧ (∀ k, (k < 92 ∨ k = 99 ∨ 101 ≤ k) → M' k = M k) ∧ gSameT M' ∧ (M' 92 4 = 0 ∧ M' 92 5 = 0 ∧ M' 92 6 = 0) ∧ ∀ p, 0 ≤ p → p < 8 → M' 100 p = M 2 p := by
  have new : ∃ M1, gx_X l κ gx_sh z_mt zX3_copy 0 [gR 94, gR 2] M (gx_eq none M1) ∧ (∀ k, (k < 92 ∨ k = 99 ∨ 101 ≤ k) → (gx_cp (gx_up (gx_up (gx_up (gx_up M1 92 1 1) 92 4 0) 92 5 0) 92 6 0) 2 100 0 0 8) k = M k) ∧ gSameT (gx_cp (gx_up (gx_up (gx_up (gx_up M1 92 1 1) 92 4 0) 92 5 0) 92 6 0) 2 100 0 0 8) ∧ ((gx_cp (gx_up (gx_up (gx_up (gx_up M1 92 1 1) 92 4 0) 92 5 0) 92 6 0) 2 100 0 0 8) 92 4 = 0 ∧ (gx_cp (gx_up (gx_up (gx_up (gx_up M1 92 1 1) 92 4 0) 92 5 0) 92 6 0) 2 100 0 0 8) 92 5 = 0 ∧ (gx_cp (gx_up (gx_up (gx_up (gx_up M1 92 1 1) 92 4 0) 92 5 0) 92 6 0) 2 100 0 0 8) 92 6 = 0) ∧ ∀ p, 0 ≤ p → p < 8 → (gx_cp (gx_up (gx_up (gx_up (gx_up M1 92 1 1) 92 4 0) 92 5 0) 92 6 0) 2 100 0 0 8) 100 p = M 2 p := by
    obtain ⟨M1, c1, c2, c3, c4, c5⟩ := X_copy93 (l := l) (κ := κ) (d := 0) (M := M)
    have hk : ∀ k, k ≠ 92 → k ≠ 100 → (gx_cp (gx_up (gx_up (gx_up (gx_up M1 92 1 1) 92 4 0) 92 5 0) 92 6 0) 2 100 0 0 8) k = M1 k := fun k k1 k2 => by rw [gx_cp_ne k2, gx_up_ne k1, gx_up_ne k1, gx_up_ne k1, gx_up_ne k1]
    have hB : ∀ j, (gx_cp (gx_up (gx_up (gx_up (gx_up M1 92 1 1) 92 4 0) 92 5 0) 92 6 0) 2 100 0 0 8) 92 j = if j = 6 then 0 else if j = 5 then 0 else if j = 4 then 0 else if j = 1 then 1 else M1 92 j := fun j => by rw [gx_cp_ne (by decide), gx_up_at, gx_up_at, gx_up_at, gx_up_at]
    refine ⟨M1, c1, fun k hkk => by rw [hk k (by omega) (by omega), c2 k (by omega)], ⟨?_, ⟨?_, ?_⟩, ?_⟩, ⟨?_, ?_, ?_⟩, ?_⟩
    · rw [hB]; rfl
    · rw [hk 93 (by decide) (by decide), hk 1 (by decide) (by decide), c2 1 (by decide)]; exact c3
    · intro i i1 i2
      rw [hk 97 (by decide) (by decide), hk 98 (by decide) (by decide), hk 5 (by decide) (by decide), hk 6 (by decide) (by decide), c2 5 (by decide), c2 6 (by decide)]
      exact c5 i i1 i2
    · intro p p1 p2
      rw [hk 94 (by decide) (by decide), hk 2 (by decide) (by decide), c2 2 (by decide)]
      exact c4 p p1 p2
    · rw [hB]; rfl
    · rw [hB]; rfl
    · rw [hB]; rfl
    · intro p p1 p2
      rw [gx_cp_in ⟨p1, by omega⟩, gx_up_ne (by decide), gx_up_ne (by decide), gx_up_ne (by decide), gx_up_ne (by decide), c2 2 (by decide)]
      congr 1
      omega
  obtain ⟨M1, n1, n2, n3, n4, n5⟩ := new
  rcases h.1 with hz | hz
  · exact Or.inr ⟨_, beginsT_e_1 hz (by rw [hz]; exact ⟨by decide, by decide⟩) n1 (by omega) ⟨rfl, rfl⟩, n2, n3, n4, n5⟩
  · obtain ⟨g1, g2, g3⟩ := h.2 hz
    have hP := h0.1.1
    have hA := h0.1.2.1
    have zR : gx_R (M 92 1) := by rw [hz]; exact ⟨by decide, by decide⟩
    have zN : ¬ M 92 1 = 0 := by rw [hz]; decide
    have x1 := X_sameArcs93 (l := l) (κ := κ) (d := 0) (M := M) ⟨g1.1, g1.2, ⟨by omega, by omega⟩, ⟨by omega, by omega⟩⟩ (fun i i1 i2 => by
      have := hA i i1 i2
      exact ⟨g2 i i1 i2, ⟨by omega, by omega⟩, ⟨by omega, by omega⟩⟩)
    have x2 := X_sameMarking93 (l := l) (κ := κ) (d := 0) (M := M) (fun p p1 p2 => by
      have := h0.1.2.2 p p1 p2
      exact ⟨g3 p p1 p2, by omega, by omega⟩)
    by_cases c1 : ((M 93 0 = M 1 0 ∧ M 93 1 = M 1 1) ∧ ∀ i, 0 ≤ i → i < 64 → M 97 i = M 5 i ∧ M 98 i = M 6 i)
    · rw [gi_pos c1] at x1
      by_cases c2 : ∀ p, 0 ≤ p → p < 8 → M 94 p = M 2 p
      · rw [gi_pos c2] at x2
        exact Or.inl ⟨⟨hz, c1, c2⟩, beginsT_e_000 zN zR x1 (by omega) (by decide) ⟨by decide, by decide⟩ x2 (by omega) (by decide) ⟨by decide, by decide⟩ ⟨rfl, rfl⟩⟩
      · rw [gi_neg c2] at x2
        exact Or.inr ⟨_, beginsT_e_001 zN zR x1 (by omega) (by decide) ⟨by decide, by decide⟩ x2 (by omega) rfl ⟨by decide, by decide⟩ n1 (by omega) ⟨rfl, rfl⟩, n2, n3, n4, n5⟩
    · rw [gi_neg c1] at x1
      exact Or.inr ⟨_, beginsT_e_01 zN zR x1 (by omega) rfl ⟨by decide, by decide⟩ n1 (by omega) ⟨rfl, rfl⟩, n2, n3, n4, n5⟩
theorem X_takeInT (h : 0 ≤ M 92 4 ∧ M 92 4 < 300) : ∃ M', gx_X l κ gx_sh z_mt zX2_takeIn d [gR 93] M (gx_eq (some (gI 1)) M') ∧ (∀ k, k ≠ 92 → k ≠ 99 → M' k = M k) ∧ (∀ j, M' 92 j = if j = 4 then M 92 4 + 1 else M 92 j) ∧ (∀ q, (q < M 92 4 * 8 ∨ M 92 4 * 8 + 8 ≤ q) → M' 99 q = M 99 q) ∧ ∀ p, 0 ≤ p → p < 8 → M' 99 (M 92 4 * 8 + p) = M 100 p := by
  refine ⟨_, takeInT_e_1 (by omega) ⟨by omega, by omega⟩ ⟨⟨by omega, by omega, by omega⟩, by omega, by omega⟩ ⟨rfl, rfl⟩, fun k k1 k2 => by rw [gx_up_ne k1, gx_cp_ne k2], fun j => ?_, fun q hq => ?_, fun p p1 p2 => ?_⟩
  · rw [gx_up_at, gx_cp_ne (by decide)]
  · rw [gx_up_ne (by decide)]
    exact if_neg (fun z => by omega)
  · rw [gx_up_ne (by decide), gx_cp_in ⟨by omega, by omega⟩]
    congr 1
    omega
theorem X_takeInTN (h : M 92 4 = 300) : gx_X l κ gx_sh z_mt zX2_takeIn d [gR 93] M (gx_eq (some (gI 0)) (gx_up M 92 5 1)) := takeInT_e_0 (by omega) ⟨by omega, by omega⟩ ⟨rfl, rfl⟩
/-- whether a move can be made at a marking; then the one behind it is the next one -/
theorem X_leadsT {fr mv mh : Int} (hd : 1 ≤ d) (hf : 0 ≤ fr ∧ fr < 300) (hm : 0 ≤ mv ∧ mv < 8) (hh : gx_R mh) (hr : ∀ p, 0 ≤ p → p < 8 → 0 ≤ M 99 (fr * 8 + p) ∧ M 99 (fr * 8 + p) ≤ 1073741824) (hmh : ∀ p, 0 ≤ p → p < 8 → M 99 (fr * 8 + p) + 9 ≤ mh) (hA : gAr M 97 98) :
    (¬ gCn (M 97) (fun p => M 99 (fr * 8 + p)) mv ∧ gx_X l κ gx_sh z_mt zX2_leads d [gR 93, gI fr, gI mv, gI mh] M (gx_eq (some (gI 0)) M)) ∨
    (gCn (M 97) (fun p => M 99 (fr * 8 + p)) mv ∧ ∃ M', gx_X l κ gx_sh z_mt zX2_leads d [gR 93, gI fr, gI mv, gI mh] M (gx_eq (some (gI 1)) M') ∧ (∀ k, k ≠ 92 → k ≠ 100 → M' k = M k) ∧ (∀ j, M' 92 j = if j = 6 then gx_or (M 92 6) (gx_shl 1 mv) else M 92 j) ∧ ∀ p, 0 ≤ p → p < 8 → M' 100 p = gSt (M 97) (M 98) (fun p => M 99 (fr * 8 + p)) mv p) := by
  have h1 := X_allows93 (l := l) (κ := κ) (d := 0) (M := M) (fr := fr * 8) (mv := mv) (mh := mh) ⟨by omega, by omega⟩ hm hh hr hA
  rw [gi_congr (gAL_Cn hm hA hmh)] at h1
  by_cases c : gCn (M 97) (fun p => M 99 (fr * 8 + p)) mv
  · rw [gi_pos c] at h1
    obtain ⟨M', s1, s2, s3⟩ := X_step93 (l := l) (κ := κ) (d := 0) (M := gx_up M 92 6 (gx_or (M 92 6) (gx_shl 1 mv))) (fr := fr * 8) (mv := mv) ⟨by omega, by omega⟩ (fun z => absurd z (by decide)) hm (fun p p1 p2 => by
      rw [gx_up_ne (by decide)]
      have := hr p p1 p2
      exact ⟨by omega, by omega⟩)
    refine Or.inr ⟨c, M', leadsT_e_1 h1 (by omega) (by decide) ⟨by decide, by decide⟩ s1 (by omega) ⟨rfl, rfl⟩, fun k k1 k2 => by rw [s2 k k2, gx_up_ne k1], fun j => by rw [s2 92 (by decide), gx_up_at], fun p p1 p2 => ?_⟩
    rw [s3 p p1 p2, gx_up_ne (by decide), gx_up_ne (by decide), gx_up_ne (by decide)]
    rfl
  · rw [gi_neg c] at h1
    exact Or.inl ⟨c, leadsT_e_0 h1 (by omega) rfl ⟨by decide, by decide⟩ ⟨rfl, rfl⟩⟩
end MARKS
