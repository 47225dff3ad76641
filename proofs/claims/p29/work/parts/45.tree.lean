/-! the growth tree as a function of lists: a node is a marking with those above it, the nearest first; an endless place has 2^30 -/
abbrev gN : Type := gK × List gK
noncomputable def gOg (a c : gK) : gK := @ite _ (∀ p, 0 ≤ p → p < 4 → gmk a p ≤ gmk c p) (Classical.propDecidable _) (gtp (fun p => if gmk a p < gmk c p then 1073741824 else gmk c p)) c
noncomputable def gTc (tk gv : Int → Int) (n : gN) (m : Nat) : gK := (n.1 :: n.2).foldr gOg (gtp (gSt tk gv (gmk n.1) (m : Int)))
noncomputable def gTf (tk gv : Int → Int) (cap : Nat) (n : gN) : Nat → List gN → Option (List gN)
  | 0, L => some L
  | m + 1, L => (gTf tk gv cap n m L).bind (fun L' => @ite _ (gCn tk (gmk n.1) (m : Int)) (Classical.propDecidable _) (if L'.length = cap then none else some (L' ++ [(gTc tk gv n m, n.1 :: n.2)])) (some L'))
noncomputable def gTs (tk gv : Int → Int) (V cap : Nat) (n : gN) (L : List gN) : Option (List gN) := @ite _ (n.1 ∈ n.2) (Classical.propDecidable _) (some L) (gTf tk gv cap n V L)
noncomputable def gTb (tk gv : Int → Int) (V cap : Nat) : Nat → Nat → List gN → Option (List gN)
  | 0, _, L => some L
  | f + 1, k, L => match L[k]? with
    | none => some L
    | some a => (gTs tk gv V cap a L).bind (gTb tk gv V cap f (k + 1))
theorem gTs_in {tk gv : Int → Int} {V cap : Nat} {n : gN} {L : List gN} (h : n.1 ∈ n.2) : gTs tk gv V cap n L = some L := @if_pos _ (Classical.propDecidable _) h _ _ _
theorem gTs_out {tk gv : Int → Int} {V cap : Nat} {n : gN} {L : List gN} (h : ¬ n.1 ∈ n.2) : gTs tk gv V cap n L = gTf tk gv cap n V L := @if_neg _ (Classical.propDecidable _) h _ _ _
theorem gTf_y {tk gv : Int → Int} {cap : Nat} {n : gN} {m : Nat} {L L1 : List gN} (h : gTf tk gv cap n m L = some L1) (hc : gCn tk (gmk n.1) (m : Int)) : gTf tk gv cap n (m + 1) L = if L1.length = cap then none else some (L1 ++ [(gTc tk gv n m, n.1 :: n.2)]) := by
  show (gTf tk gv cap n m L).bind _ = _
  rw [h]
  exact @if_pos _ (Classical.propDecidable _) hc _ _ _
theorem gTf_n {tk gv : Int → Int} {cap : Nat} {n : gN} {m : Nat} {L L1 : List gN} (h : gTf tk gv cap n m L = some L1) (hc : ¬ gCn tk (gmk n.1) (m : Int)) : gTf tk gv cap n (m + 1) L = some L1 := by
  show (gTf tk gv cap n m L).bind _ = _
  rw [h]
  exact @if_neg _ (Classical.propDecidable _) hc _ _ _
theorem gTf_z {tk gv : Int → Int} {cap : Nat} {n : gN} {m : Nat} {L : List gN} (h : gTf tk gv cap n m L = none) : gTf tk gv cap n (m + 1) L = none := by
  show (gTf tk gv cap n m L).bind _ = _
  rw [h]
  rfl
theorem gTf_zz {tk gv : Int → Int} {cap : Nat} {n : gN} {L : List gN} : ∀ (k m : Nat), gTf tk gv cap n m L = none → gTf tk gv cap n (m + k) L = none := by
  intro k
  induction k with
  | zero => intro m h; exact h
  | succ k ih => intro m h; exact gTf_z (ih m h)
theorem gTf_cap {tk gv : Int → Int} {c c' : Nat} (hc : c ≤ c') {n : gN} : ∀ (m : Nat) {L L' : List gN}, L.length ≤ c → gTf tk gv c n m L = some L' → gTf tk gv c' n m L = some L' ∧ L'.length ≤ c ∧ L <+: L' := by
  intro m
  induction m with
  | zero => intro L L' hl h; cases h; exact ⟨rfl, hl, List.prefix_refl _⟩
  | succ m ih =>
    intro L L' hl h
    obtain ⟨L1, h1, h2⟩ := Option.bind_eq_some_iff.mp h
    obtain ⟨k1, k2, k3⟩ := ih hl h1
    by_cases hcn : gCn tk (gmk n.1) (m : Int)
    · rw [gTf_y h1 hcn] at h
      rw [gTf_y k1 hcn]
      by_cases hn : L1.length = c
      · rw [if_pos hn] at h; cases h
      · rw [if_neg hn] at h
        cases h
        rw [if_neg (by omega)]
        exact ⟨rfl, by rw [List.length_append]; show L1.length + 1 ≤ c; omega, List.IsPrefix.trans k3 (List.prefix_append _ _)⟩
    · rw [gTf_n h1 hcn] at h
      rw [gTf_n k1 hcn]
      cases h
      exact ⟨rfl, k2, k3⟩
theorem gTs_cap {tk gv : Int → Int} {V c c' : Nat} (hc : c ≤ c') {n : gN} {L L' : List gN} (hl : L.length ≤ c) (h : gTs tk gv V c n L = some L') : gTs tk gv V c' n L = some L' ∧ L'.length ≤ c ∧ L <+: L' := by
  by_cases hi : n.1 ∈ n.2
  · rw [gTs_in hi] at h ⊢; cases h; exact ⟨rfl, hl, List.prefix_refl _⟩
  · rw [gTs_out hi] at h ⊢; exact gTf_cap hc V hl h
theorem gTb_cap {tk gv : Int → Int} {V c c' : Nat} (hc : c ≤ c') : ∀ (f f' k : Nat) {L L' : List gN}, f ≤ f' → c ≤ f + k → L.length ≤ c → gTb tk gv V c f k L = some L' → gTb tk gv V c' f' k L = some L' ∧ L'.length ≤ c ∧ L <+: L' := by
  intro f
  induction f with
  | zero =>
    intro f' k L L' hf hk hl h
    cases h
    refine ⟨?_, hl, List.prefix_refl _⟩
    cases f' with
    | zero => rfl
    | succ f' =>
      have e : L[k]? = none := List.getElem?_eq_none (by omega)
      show (match L[k]? with | none => some L | some a => (gTs tk gv V c' a L).bind (gTb tk gv V c' f' (k + 1))) = some L
      rw [e]
  | succ f ih =>
    intro f' k L L' hf hk hl h
    obtain ⟨f', rfl⟩ : ∃ g, f' = g + 1 := ⟨f' - 1, by omega⟩
    have h' : (match L[k]? with | none => some L | some a => (gTs tk gv V c a L).bind (gTb tk gv V c f (k + 1))) = some L' := h
    show (match L[k]? with | none => some L | some a => (gTs tk gv V c' a L).bind (gTb tk gv V c' f' (k + 1))) = some L' ∧ _
    cases hL : L[k]? with
    | none => rw [hL] at h'; cases h'; exact ⟨rfl, hl, List.prefix_refl _⟩
    | some a =>
      rw [hL] at h'
      obtain ⟨L1, h1, h2⟩ := Option.bind_eq_some_iff.mp h'
      obtain ⟨k1, k2, k3⟩ := gTs_cap hc hl h1
      obtain ⟨q1, q2, q3⟩ := ih f' (k + 1) (by omega) (by omega) k2 h2
      refine ⟨?_, q2, List.IsPrefix.trans k3 q3⟩
      show (gTs tk gv V c' a L).bind (gTb tk gv V c' f' (k + 1)) = some L'
      rw [k1]
      exact q1
theorem gTc_congr {tk tk' gv gv' : Int → Int} (h : ∀ i, 0 ≤ i → i < 64 → tk i = tk' i ∧ gv i = gv' i) {n : gN} {m : Nat} (hm : m < 8) : gTc tk gv n m = gTc tk' gv' n m := by
  unfold gTc
  congr 1
  refine gmk_ext (fun p p1 p2 => ?_)
  rw [gmk_tp _ ⟨p1, p2⟩, gmk_tp _ ⟨p1, p2⟩]
  unfold gSt
  have := h ((m : Int) * 8 + p) (by omega) (by omega)
  rw [this.1, this.2]
theorem gTf_congr {tk tk' gv gv' : Int → Int} (h : ∀ i, 0 ≤ i → i < 64 → tk i = tk' i ∧ gv i = gv' i) (c : Nat) (n : gN) : ∀ (m : Nat) (L : List gN), m ≤ 8 → gTf tk gv c n m L = gTf tk' gv' c n m L := by
  intro m
  induction m with
  | zero => intro L _; rfl
  | succ m ih =>
    intro L hm
    show (gTf tk gv c n m L).bind (fun L' => @ite _ (gCn tk (gmk n.1) (m : Int)) (Classical.propDecidable _) (if L'.length = c then none else some (L' ++ [(gTc tk gv n m, n.1 :: n.2)])) (some L')) = (gTf tk' gv' c n m L).bind (fun L' => @ite _ (gCn tk' (gmk n.1) (m : Int)) (Classical.propDecidable _) (if L'.length = c then none else some (L' ++ [(gTc tk' gv' n m, n.1 :: n.2)])) (some L'))
    rw [ih L (by omega), gTc_congr h (by omega), propext (gCn_congr (T := gmk n.1) (T' := gmk n.1) ⟨by omega, by omega⟩ (fun i i1 i2 => (h i i1 i2).1) (fun _ _ _ => rfl) : gCn tk (gmk n.1) (m : Int) ↔ gCn tk' (gmk n.1) (m : Int))]
theorem gTb_congr {tk tk' gv gv' : Int → Int} (h : ∀ i, 0 ≤ i → i < 64 → tk i = tk' i ∧ gv i = gv' i) {V : Nat} (hV : V ≤ 8) (c : Nat) : ∀ (f k : Nat) (L : List gN), gTb tk gv V c f k L = gTb tk' gv' V c f k L := by
  intro f
  induction f with
  | zero => intro k L; rfl
  | succ f ih =>
    intro k L
    show (match L[k]? with | none => some L | some a => (gTs tk gv V c a L).bind (gTb tk gv V c f (k + 1))) = (match L[k]? with | none => some L | some a => (gTs tk' gv' V c a L).bind (gTb tk' gv' V c f (k + 1)))
    cases L[k]? with
    | none => rfl
    | some a =>
      show (gTs tk gv V c a L).bind (gTb tk gv V c f (k + 1)) = (gTs tk' gv' V c a L).bind (gTb tk' gv' V c f (k + 1))
      unfold gTs
      rw [gTf_congr h c a V L hV, show gTb tk gv V c f (k + 1) = gTb tk' gv' V c f (k + 1) from funext (fun L' => ih (k + 1) L')]
-- the values of a node
def gTv (B : Int) (n : gN) : Prop := ∀ p, 0 ≤ p → p < 4 → gmk n.1 p = 1073741824 ∨ (0 ≤ gmk n.1 p ∧ gmk n.1 p ≤ B + 9 * (n.2.length : Int))
theorem gOg_val (a c : gK) {p : Int} (hp : 0 ≤ p ∧ p < 4) : gmk (gOg a c) p = 1073741824 ∨ gmk (gOg a c) p = gmk c p := by
  unfold gOg
  by_cases h : ∀ p, 0 ≤ p → p < 4 → gmk a p ≤ gmk c p
  · rw [@if_pos _ (Classical.propDecidable _) h, gmk_tp _ hp]
    by_cases e : gmk a p < gmk c p
    · rw [if_pos e]; exact Or.inl rfl
    · rw [if_neg e]; exact Or.inr rfl
  · rw [@if_neg _ (Classical.propDecidable _) h]; exact Or.inr rfl
theorem gOg_le (a c : gK) (h : ∀ p, 0 ≤ p → p < 4 → gmk a p ≤ gmk c p) {p : Int} (hp : 0 ≤ p ∧ p < 4) : gmk (gOg a c) p = if gmk a p < gmk c p then 1073741824 else gmk c p := by
  unfold gOg
  rw [@if_pos _ (Classical.propDecidable _) h, gmk_tp _ hp]
theorem gOg_nle (a c : gK) (h : ¬ ∀ p, 0 ≤ p → p < 4 → gmk a p ≤ gmk c p) : gOg a c = c := @if_neg _ (Classical.propDecidable _) h _ _ _
theorem gOg_fold (c : gK) {p : Int} (hp : 0 ≤ p ∧ p < 4) : ∀ σ : List gK, gmk (σ.foldr gOg c) p = 1073741824 ∨ gmk (σ.foldr gOg c) p = gmk c p := by
  intro σ
  induction σ with
  | nil => exact Or.inr rfl
  | cons a r ih =>
    show gmk (gOg a (r.foldr gOg c)) p = _ ∨ _
    rcases gOg_val a (r.foldr gOg c) hp with h | h
    · exact Or.inl h
    · exact ih.imp (fun e => h.trans e) (fun e => h.trans e)
theorem gOg_0 {a c : gK} {p : Int} (hp : 0 ≤ p ∧ p < 4) (ha : gmk a p = 0) (hc : gmk c p = 0) : gmk (gOg a c) p = 0 := by
  by_cases h : ∀ p, 0 ≤ p → p < 4 → gmk a p ≤ gmk c p
  · rw [gOg_le a c h hp, if_neg (by omega), hc]
  · rw [gOg_nle a c h, hc]
theorem gOg_fold0 {c : gK} {p : Int} (hp : 0 ≤ p ∧ p < 4) (hc : gmk c p = 0) : ∀ σ : List gK, (∀ b ∈ σ, gmk b p = 0) → gmk (σ.foldr gOg c) p = 0 := by
  intro σ
  induction σ with
  | nil => intro _; exact hc
  | cons a r ih => intro h; exact gOg_0 hp (h a List.mem_cons_self) (ih (fun b hb => h b (List.mem_cons_of_mem _ hb)))
theorem gSt_v {tk gv : Int → Int} {B : Int} (hB : 0 ≤ B ∧ B ≤ 90000) {n : gN} {m : Nat} (hm : m < 8) (hA : ∀ i, 0 ≤ i → i < 64 → (0 ≤ tk i ∧ tk i ≤ 9) ∧ (0 ≤ gv i ∧ gv i ≤ 9)) (hn : gTv B n) (hl : n.2.length ≤ 300) (hc : gCn tk (gmk n.1) (m : Int)) {p : Int} (hp : 0 ≤ p ∧ p < 4) :
    gmk (gtp (gSt tk gv (gmk n.1) (m : Int))) p = 1073741824 ∨ (0 ≤ gmk (gtp (gSt tk gv (gmk n.1) (m : Int))) p ∧ gmk (gtp (gSt tk gv (gmk n.1) (m : Int))) p ≤ B + 9 * ((n.2.length : Int) + 1)) := by
  rw [gmk_tp _ hp]
  have h1 := hn p hp.1 hp.2
  have h2 := hA ((m : Int) * 8 + p) (by omega) (by omega)
  have h3 : tk ((m : Int) * 8 + p) ≤ gmk n.1 p := hc p hp.1 (by omega)
  unfold gSt
  by_cases e : gmk n.1 p = 1073741824
  · rw [if_pos e]; exact Or.inl rfl
  · rw [if_neg e]
    refine Or.inr ⟨?_, ?_⟩
    · omega
    · omega
theorem gTc_v {tk gv : Int → Int} {B : Int} (hB : 0 ≤ B ∧ B ≤ 90000) {n : gN} {m : Nat} (hm : m < 8) (hA : ∀ i, 0 ≤ i → i < 64 → (0 ≤ tk i ∧ tk i ≤ 9) ∧ (0 ≤ gv i ∧ gv i ≤ 9)) (hn : gTv B n) (hl : n.2.length ≤ 300) (hc : gCn tk (gmk n.1) (m : Int)) : gTv B (gTc tk gv n m, n.1 :: n.2) := by
  intro p p1 p2
  have h := gSt_v (gv := gv) hB hm hA hn hl hc ⟨p1, p2⟩
  show gmk (gTc tk gv n m) p = _ ∨ (0 ≤ gmk (gTc tk gv n m) p ∧ gmk (gTc tk gv n m) p ≤ B + 9 * ((n.2.length + 1 : Nat) : Int))
  unfold gTc
  rcases gOg_fold (gtp (gSt tk gv (gmk n.1) (m : Int))) ⟨p1, p2⟩ (n.1 :: n.2) with e | e
  · exact Or.inl e
  · rw [e]
    rcases h with h | h
    · exact Or.inl h
    · exact Or.inr ⟨h.1, by omega⟩
theorem gTv_rng {B : Int} (hB : 0 ≤ B ∧ B ≤ 90000) {n : gN} (h : gTv B n) (hl : n.2.length ≤ 300) {p : Int} (hp : 0 ≤ p ∧ p < 8) : 0 ≤ gmk n.1 p ∧ gmk n.1 p ≤ 1073741824 := by
  by_cases h4 : p < 4
  · have := h p hp.1 h4; omega
  · rw [gmk_hi n.1 (by omega)]; decide
-- suffixes
theorem gSx_eq {T : Type} {a b c : List T} (h1 : a <:+ c) (h2 : b <:+ c) (h : a.length = b.length) : a = b := (List.suffix_of_suffix_length_le h1 h2 (Nat.le_of_eq h)).eq_of_length h
theorem gSx_ex {T : Type} : ∀ (c : List T) (d : Nat), d < c.length → ∃ b ρ, (b :: ρ) <:+ c ∧ ρ.length = d := by
  intro c
  induction c with
  | nil => intro d h; exact absurd h (Nat.not_lt_zero _)
  | cons a r ih =>
    intro d h
    by_cases e : d = r.length
    · exact ⟨a, r, List.suffix_refl _, e.symm⟩
    · have h' : d < r.length + 1 := h
      obtain ⟨b, ρ, h1, h2⟩ := ih d (by omega)
      exact ⟨b, ρ, List.IsSuffix.trans h1 (List.suffix_cons a r), h2⟩
theorem gSx_mem {T : Type} {b : T} {c : List T} (h : b ∈ c) : ∃ ρ, (b :: ρ) <:+ c := by
  obtain ⟨s, t, rfl⟩ := List.append_of_mem h
  exact ⟨t, List.suffix_append s (b :: t)⟩
theorem gSx_in {T : Type} {b : T} {ρ c : List T} (h : (b :: ρ) <:+ c) : b ∈ c := h.subset List.mem_cons_self
theorem gSx_up {T : Type} {a : T} {r c : List T} (h : (a :: r) <:+ c) : r <:+ c := List.IsSuffix.trans (List.suffix_cons a r) h
/-- the last of its kind -/
theorem gSx_last {T : Type} {b : T} : ∀ (c : List T), b ∈ c → ∃ ρ, (b :: ρ) <:+ c ∧ ¬ b ∈ ρ := by
  intro c
  induction c with
  | nil => intro h; cases h
  | cons a r ih =>
    intro h
    by_cases hr : b ∈ r
    · obtain ⟨ρ, h1, h2⟩ := ih hr
      exact ⟨ρ, List.IsSuffix.trans h1 (List.suffix_cons a r), h2⟩
    · rcases List.mem_cons.mp h with e | e
      · subst e; exact ⟨r, List.suffix_refl _, hr⟩
      · exact absurd e hr
/-- those above a node lie before it -/
def gAb (U : Int → Int) (L : List gN) (i : Nat) (σ : List gK) : Prop := ∀ b ρ, σ = b :: ρ → ∃ j : Nat, j < i ∧ L[j]? = some (b, ρ) ∧ U (i : Int) = (j : Int)
theorem gAb_suf {U : Int → Int} {L : List gN} (h : ∀ (i : Nat) (n : gN), L[i]? = some n → gAb U L i n.2) : ∀ (σ : List gK) (i : Nat) (a : gK), L[i]? = some (a, σ) → ∀ b ρ, (b :: ρ) <:+ σ → ∃ j : Nat, j < i ∧ L[j]? = some (b, ρ) := by
  intro σ
  induction σ with
  | nil => intro i a _ b ρ hs; exact absurd hs.length_le (by show ¬ ρ.length + 1 ≤ 0; omega)
  | cons c r ih =>
    intro i a hi b ρ hs
    obtain ⟨j, j1, j2, -⟩ := h i (a, c :: r) hi c r rfl
    by_cases e : (b :: ρ).length = (c :: r).length
    · have e2 := hs.eq_of_length e
      cases e2
      exact ⟨j, j1, j2⟩
    · have hle := hs.length_le
      have hsr : (b :: ρ) <:+ r := List.suffix_of_suffix_length_le hs (List.suffix_cons c r) (by
        have : (c :: r).length = r.length + 1 := rfl
        omega)
      obtain ⟨j', q1, q2⟩ := ih j c j2 b ρ hsr
      exact ⟨j', by omega, q2⟩
/-- how deep -/
def gdp : List gN → Int
  | [] => 0
  | n :: r => max (n.2.length : Int) (gdp r)
theorem gdp_app (n : gN) : ∀ L : List gN, gdp (L ++ [n]) = max (gdp L) (n.2.length : Int) := by
  intro L
  induction L with
  | nil => show max (n.2.length : Int) 0 = max 0 (n.2.length : Int); omega
  | cons a r ih => show max (a.2.length : Int) (gdp (r ++ [n])) = max (max (a.2.length : Int) (gdp r)) (n.2.length : Int); rw [ih]; omega
theorem gdp_rng : ∀ L : List gN, (∀ n ∈ L, n.2.length ≤ 300) → 0 ≤ gdp L ∧ gdp L ≤ 300 := by
  intro L
  induction L with
  | nil => intro _; exact ⟨Int.le_refl 0, by decide⟩
  | cons a r ih =>
    intro h
    have h1 := ih (fun n hn => h n (List.mem_cons_of_mem _ hn))
    have h2 := h a List.mem_cons_self
    show 0 ≤ max (a.2.length : Int) (gdp r) ∧ max (a.2.length : Int) (gdp r) ≤ 300
    omega
/-- the most at a place -/
def gmo (p : Int) : List gN → Int
  | [] => 0
  | n :: r => max (gmk n.1 p) (gmo p r)
theorem gmo_app (p : Int) (n : gN) : ∀ L : List gN, gmo p (L ++ [n]) = max (gmo p L) (gmk n.1 p) := by
  intro L
  induction L with
  | nil => show max (gmk n.1 p) 0 = max 0 (gmk n.1 p); omega
  | cons a r ih => show max (gmk a.1 p) (gmo p (r ++ [n])) = max (max (gmk a.1 p) (gmo p r)) (gmk n.1 p); rw [ih]; omega
