/-! what is told of the markings that can be reached, and the law's check of it -/
theorem gb_fo2 : ∀ a : Nat, a < 16 → ∀ b : Nat, b < 16 → g16 (gx_or (a : Int) (b : Int)) ∧ ∀ p : Nat, p < 4 → (gbt (gx_or (a : Int) (b : Int)) p ↔ gbt (a : Int) p ∨ gbt (b : Int) p) := by decide +kernel
theorem gb_or2 {a b : Int} (ha : g16 a) (hb : g16 b) : g16 (gx_or a b) ∧ ∀ p : Nat, p < 4 → (gbt (gx_or a b) p ↔ gbt a p ∨ gbt b p) := by
  obtain ⟨a, rfl⟩ := gb_nat ha.1
  obtain ⟨b, rfl⟩ := gb_nat hb.1
  exact gb_fo2 a (by omega) b (by omega)
theorem gset_bits {P : Int → Prop} {n : Nat} (hn : n ≤ 4) {p : Nat} (hp : p < 4) : gbt (gset P n) p ↔ p < n ∧ P (p : Int) := by
  constructor
  · intro h
    have := gset_mem hn (k := (p : Int)) ⟨by omega, by omega⟩ (by rw [Int.toNat_natCast]; exact h)
    exact ⟨by omega, this.2⟩
  · rintro ⟨h1, h2⟩
    show gset P n / 2 ^ p % 2 = 1
    rw [gset_bit P n p h1]
    exact gi_pos h2
theorem gset_0 {P : Int → Prop} {n : Nat} (hn : n ≤ 4) : gset P n = 0 ↔ ∀ m : Nat, m < n → ¬ P (m : Int) := by
  constructor
  · intro h m hm hP
    have := (gset_bits (P := P) hn (p := m) (by omega)).mpr ⟨hm, hP⟩
    rw [h] at this
    exact gb_f0 m (by omega) this
  · intro h
    refine gb_ext (gset_4 P hn) ⟨by decide, by decide⟩ (fun p hp => ⟨fun z => ?_, fun z => absurd z (gb_f0 p hp)⟩)
    have := (gset_bits hn hp).mp z
    exact absurd this.2 (h p this.1)
theorem gdc_congr {tk tk' : Int → Int} (h : ∀ i, 0 ≤ i → i < 64 → tk i = tk' i) {V : Nat} (hV : V ≤ 8) : ∀ L : List gE, gdc tk V L = gdc tk' V L := by
  intro L
  induction L with
  | nil => rfl
  | cons a r ih =>
    show gi _ + gdc tk V r = gi _ + gdc tk' V r
    rw [ih, gi_congr (P := ∀ m : Nat, m < V → ¬ gCn tk (gmk a.1) (m : Int)) (R := ∀ m : Nat, m < V → ¬ gCn tk' (gmk a.1) (m : Int))]
    constructor
    · intro z m hm y
      exact z m hm ((gCn_congr ⟨by omega, by omega⟩ h (fun _ _ _ => rfl)).mpr y)
    · intro z m hm y
      exact z m hm ((gCn_congr ⟨by omega, by omega⟩ h (fun _ _ _ => rfl)).mp y)
-- the fewest moves
def gfw (p t : Int) : List gE → Int
  | [] => -6
  | a :: r => if t ≤ gmk a.1 p then a.2 else gfw p t r
theorem gfw_none {p t : Int} : ∀ {L : List gE}, (∀ a ∈ L, ¬ t ≤ gmk a.1 p) → gfw p t L = -6 := by
  intro L
  induction L with
  | nil => intro _; rfl
  | cons a r ih =>
    intro h
    show (if t ≤ gmk a.1 p then a.2 else gfw p t r) = -6
    rw [if_neg (h a List.mem_cons_self)]
    exact ih (fun b hb => h b (List.mem_cons_of_mem _ hb))
theorem gfw_app {p t : Int} (a : gE) : ∀ L : List gE, gfw p t (L ++ [a]) = @ite _ (∃ b ∈ L, t ≤ gmk b.1 p) (Classical.propDecidable _) (gfw p t L) (if t ≤ gmk a.1 p then a.2 else -6) := by
  intro L
  induction L with
  | nil =>
    rw [@if_neg _ (Classical.propDecidable _) (fun z => by obtain ⟨b, hb, -⟩ := z; cases hb)]
    rfl
  | cons c r ih =>
    show (if t ≤ gmk c.1 p then c.2 else gfw p t (r ++ [a])) = _
    by_cases hc : t ≤ gmk c.1 p
    · rw [if_pos hc, @if_pos _ (Classical.propDecidable _) ⟨c, List.mem_cons_self, hc⟩]
      show c.2 = (if t ≤ gmk c.1 p then c.2 else gfw p t r)
      rw [if_pos hc]
    · rw [if_neg hc, ih]
      have e : gfw p t (c :: r) = gfw p t r := by
        show (if t ≤ gmk c.1 p then c.2 else gfw p t r) = _
        rw [if_neg hc]
      rw [e]
      by_cases hr : ∃ b ∈ r, t ≤ gmk b.1 p
      · rw [@if_pos _ (Classical.propDecidable _) hr, @if_pos _ (Classical.propDecidable _) (by obtain ⟨b, h1, h2⟩ := hr; exact ⟨b, List.mem_cons_of_mem _ h1, h2⟩)]
      · rw [@if_neg _ (Classical.propDecidable _) hr, @if_neg _ (Classical.propDecidable _) (fun z => by
          obtain ⟨b, h1, h2⟩ := z
          rcases List.mem_cons.mp h1 with h1 | h1
          · rw [h1] at h2; exact hc h2
          · exact hr ⟨b, h1, h2⟩)]
theorem gfw_mem {p t : Int} : ∀ {L : List gE}, (∃ b ∈ L, t ≤ gmk b.1 p) → ∃ b ∈ L, gfw p t L = b.2 := by
  intro L
  induction L with
  | nil => rintro ⟨b, hb, -⟩; cases hb
  | cons c r ih =>
    rintro ⟨b, h1, h2⟩
    by_cases hc : t ≤ gmk c.1 p
    · exact ⟨c, List.mem_cons_self, if_pos hc⟩
    · rcases List.mem_cons.mp h1 with h1 | h1
      · rw [h1] at h2; exact absurd h2 hc
      · obtain ⟨b', k1, k2⟩ := ih ⟨b, h1, h2⟩
        exact ⟨b', List.mem_cons_of_mem _ k1, (if_neg hc).trans k2⟩
/-- the distances don't fall -/
def gMon (L : List gE) : Prop := ∀ (i j : Nat) (a b : gE), i ≤ j → L[i]? = some a → L[j]? = some b → a.2 ≤ b.2
theorem gMon_app {L : List gE} {x : gE} (h : gMon L) (hx : ∀ b ∈ L, b.2 ≤ x.2) : gMon (L ++ [x]) := by
  intro i j a b hij hi hj
  have hj' := (List.getElem?_eq_some_iff.mp hj).1
  rw [List.length_append] at hj'
  have l1 : [x].length = 1 := rfl
  by_cases hjl : j < L.length
  · rw [List.getElem?_append_left hjl] at hj
    rw [List.getElem?_append_left (by omega)] at hi
    exact h i j a b hij hi hj
  · have e0 : j = L.length := by omega
    subst e0
    rw [List.getElem?_append_right (Nat.le_refl _), Nat.sub_self] at hj
    have e : x = b := Option.some.inj hj
    subst e
    by_cases hil : i < L.length
    · rw [List.getElem?_append_left hil] at hi
      exact hx a (List.mem_of_getElem? hi)
    · have e1 : i = L.length := by omega
      subst e1
      rw [List.getElem?_append_right (Nat.le_refl _), Nat.sub_self] at hi
      rw [← Option.some.inj hi]
      exact Int.le_refl _
theorem gFo_mon {tk gv : Int → Int} {c : Nat} {a : gE} : ∀ (m : Nat) {L L' : List gE}, gMon L → (∀ b ∈ L, b.2 ≤ a.2 + 1) → gFo tk gv c a m L = some L' → gMon L' ∧ ∀ b ∈ L', b.2 ≤ a.2 + 1 := by
  intro m
  induction m with
  | zero => intro L L' h1 h2 h; cases h; exact ⟨h1, h2⟩
  | succ m ih =>
    intro L L' h1 h2 h
    obtain ⟨L1, k1, k2⟩ := Option.bind_eq_some_iff.mp h
    obtain ⟨q1, q2⟩ := ih h1 h2 k1
    by_cases hc : gCn tk (gmk a.1) (m : Int)
    · rw [@if_pos _ (Classical.propDecidable _) hc] at k2
      by_cases hx : ∃ y ∈ L1, y.1 = (gNx tk gv a m).1
      · rw [gMeet_in hx] at k2; cases k2; exact ⟨q1, q2⟩
      · rw [gMeet_out hx] at k2
        by_cases hn : L1.length = c
        · rw [if_pos hn] at k2; cases k2
        · rw [if_neg hn] at k2
          cases k2
          refine ⟨gMon_app q1 (fun b hb => q2 b hb), fun b hb => ?_⟩
          rcases List.mem_append.mp hb with hb | hb
          · exact q2 b hb
          · rcases List.mem_cons.mp hb with hb | hb
            · rw [hb]; exact Int.le_refl _
            · cases hb
    · rw [@if_neg _ (Classical.propDecidable _) hc] at k2
      cases k2
      exact ⟨q1, q2⟩
theorem gBf_mon {tk gv : Int → Int} {V c : Nat} : ∀ (f k : Nat) {L L' : List gE}, L.length ≤ c → gMon L → (∀ a, L[k]? = some a → ∀ b ∈ L, b.2 ≤ a.2 + 1) → gBf tk gv V c f k L = some L' → gMon L' := by
  intro f
  induction f with
  | zero => intro k L L' _ h1 _ h; cases h; exact h1
  | succ f ih =>
    intro k L L' hl h1 h2 h
    have h' : (match L[k]? with | none => some L | some a => (gFo tk gv c a V L).bind (gBf tk gv V c f (k + 1))) = some L' := h
    cases hL : L[k]? with
    | none => rw [hL] at h'; cases h'; exact h1
    | some a =>
      rw [hL] at h'
      obtain ⟨L1, k1, k2⟩ := Option.bind_eq_some_iff.mp h'
      obtain ⟨q1, q2⟩ := gFo_mon V h1 (h2 a hL) k1
      obtain ⟨-, r1, r2⟩ := gFo_cap (Nat.le_refl c) V hl k1
      refine ih (k + 1) r1 q1 (fun a' ha' b hb => ?_) k2
      have := q1 k (k + 1) a a' (by omega) (gPre r2 hL) ha'
      have := q2 b hb
      omega
section WOULD
variable {l : Launch} {κ : yK} {d : Nat} {b c : Int}
theorem X_fewestM {M : gx_M} {L : List gE} (hS : gRS M L) {p t : Int} (hp : 0 ≤ p ∧ p < 8) (ht : gx_R t) : gx_X l κ gx_sh z_mt zX5_fewestMoves d [gR 80, gI p, gI t] M (gx_eq (some (gI (gfw p t L))) M) := by
  have h4 := hS.1
  have loop : ∀ (k i : Nat), i + k = L.length → gfw p t (L.drop i) = gfw p t L → gx_G l κ gx_sh z_mt zX5_fewestMoves d (2, [gR 80, gI p, gI t, gI (i : Int)], [], M) (gx_eq (some (gI (gfw p t L))) M) := by
    intro k
    induction k with
    | zero =>
      intro i hi hg
      rw [List.drop_eq_nil_of_le (by omega)] at hg
      refine fewestM_2_1 (by omega) ⟨by omega, by omega⟩ ⟨by omega, by omega⟩ ⟨?_, rfl⟩
      rw [← hg]
      rfl
    | succ k ih =>
      intro i hi hg
      have hil : i < L.length := by omega
      obtain ⟨r1, r2, r3, r4⟩ := hS.2.1 i L[i] (List.getElem?_eq_getElem hil)
      have rr := gSm_rng r4 r3 (by omega) hp
      have e := r1 p hp.1 hp.2
      have hcons : L.drop i = L[i] :: L.drop (i + 1) := List.drop_eq_getElem_cons hil
      rw [hcons] at hg
      have hg' : (if t ≤ gmk L[i].1 p then L[i].2 else gfw p t (L.drop (i + 1))) = gfw p t L := hg
      by_cases hc : t ≤ gmk L[i].1 p
      · rw [if_pos hc] at hg'
        refine fewestM_2_00 (by omega) ⟨by omega, by omega⟩ ⟨by omega, by omega⟩ ⟨by omega, by omega⟩ (by rw [e]; exact hc) (by rw [e]; exact ⟨by omega, by omega⟩) ht ⟨by omega, by omega⟩ ⟨?_, rfl⟩
        rw [r2, hg']
      · rw [if_neg hc] at hg'
        exact fewestM_2_01 (by omega) ⟨by omega, by omega⟩ ⟨by omega, by omega⟩ ⟨by omega, by omega⟩ (by rw [e]; omega) (by rw [e]; exact ⟨by omega, by omega⟩) ht (ih (i + 1) (by omega) hg')
  exact fewestM_e (loop L.length 0 (by omega) rfl)
/-- the search, where the list is known -/
theorem X_rfindL {M : gx_M} {L : List gE} (hd : 5 ≤ d) (hb : b ≤ 90000) (h0 : gI0 M b c) (h : gRC M) (hL : gBf (M 5) (M 6) (M 1 1).toNat 300 300 0 [(gtp (M 2), 0)] = some L) :
    ∃ M', gx_X l κ gx_sh z_mt zX5_find d [gR 80, gR 2] M (gx_eq none M') ∧ (∀ k, (k < 79 ∨ 91 ≤ k) → M' k = M k) ∧ gRC M' ∧ gRS M' L ∧ M' 80 5 = 0 ∧ (g16 (M' 80 6) ∧ ∀ p : Nat, p < 4 → (gbt (M' 80 6) p ↔ p < (M 1 1).toNat ∧ ∃ a ∈ L, gCn (M 5) (gmk a.1) (p : Int))) ∧ M' 79 3 = gdc (M 5) (M 1 1).toNat L := by
  obtain ⟨M', k1, k2, k3, k4⟩ := X_rfind (l := l) (κ := κ) (d := d) hd hb h0 h
  obtain ⟨s1, ⟨⟨s2, s3⟩, s4⟩, s5⟩ := k4
  obtain ⟨h1, h2⟩ := k3.2 s1
  have hV := h0.1.1.2
  rw [k2 1 (by omega)] at s2 s3
  rw [k2 5 (by omega), k2 6 (by omega)] at s4
  rw [k2 2 (by omega)] at s5
  have eV : (M' 81 1).toNat = (M 1 1).toNat := by rw [s3]
  have eT : gtp (M' 82) = gtp (M 2) := gmk_ext (fun p p1 p2 => by rw [gmk_tp _ ⟨p1, p2⟩, gmk_tp _ ⟨p1, p2⟩]; exact s5 p p1 (by omega))
  have eB : gBf (M' 85) (M' 86) (M' 81 1).toNat 300 300 0 [(gtp (M' 82), 0)] = some L := by
    rw [eV, eT, gBf_congr s4 (by omega) 300 300 0]
    exact hL
  have eC : ∀ (a : gE) (p : Nat), p < 4 → (gCn (M' 85) (gmk a.1) (p : Int) ↔ gCn (M 5) (gmk a.1) (p : Int)) := fun a p hp => gCn_congr ⟨by omega, by omega⟩ (fun i i1 i2 => (s4 i i1 i2).1) (fun _ _ _ => rfl)
  rcases h2 with ⟨L', q1, q2, q3, q4, q5⟩ | ⟨q1, -⟩
  · rw [eB] at q1
    cases q1
    refine ⟨M', k1, k2, k3, q2, q3, ⟨q4.1, fun p hp => ?_⟩, ?_⟩
    · rw [q4.2 p hp, eV]
      constructor
      · rintro ⟨z1, a, z2, z3⟩; exact ⟨z1, a, z2, (eC a p hp).mp z3⟩
      · rintro ⟨z1, a, z2, z3⟩; exact ⟨z1, a, z2, (eC a p hp).mpr z3⟩
    · rw [q5, eV]
      exact gdc_congr (fun i i1 i2 => (s4 i i1 i2).1) (by omega) L
  · rw [eB] at q1; cases q1
theorem X_o_fewest {M : gx_M} {L : List gE} (hd : 6 ≤ d) (hb : b ≤ 90000) (h0 : gI0 M b c) (h : gRC M) (hL : gBf (M 5) (M 6) (M 1 1).toNat 300 300 0 [(gtp (M 2), 0)] = some L) {p t : Int} (hp : 0 ≤ p ∧ p < M 1 0) (ht : 0 ≤ t ∧ t ≤ 9999) :
    ∃ M', gx_X l κ gx_sh z_mt zX8_fewest d [gR 1, gI p, gI t] M (gx_eq (some (gI (gfw p t L))) M') ∧ (∀ k, (k < 79 ∨ 91 ≤ k) → M' k = M k) ∧ gRC M' := by
  have hP := h0.1.1.1
  obtain ⟨M2, k1, k2, k3, k4, k5, -⟩ := X_rfindL (l := l) (κ := κ) (d := 5) (by omega) hb h0 h hL
  have hpl := X_hasPlace (l := l) (κ := κ) (d := 0) (M := M) (pl := p) ⟨by omega, by omega⟩ ⟨hP.1, by omega⟩
  rw [gi_pos hp] at hpl
  have hfm := X_fewestM (l := l) (κ := κ) (d := 0) k4 (p := p) (t := t) ⟨hp.1, by omega⟩ ⟨by omega, by omega⟩
  exact ⟨M2, o_fewest_e_1011 hpl (by omega) (by decide) ⟨by decide, by decide⟩ ht.1 ⟨by omega, by omega⟩ ht.2 k1 (by omega) k5 (by rw [k5]; exact ⟨by decide, by decide⟩) hfm (by omega) ⟨rfl, rfl⟩, k2, k3⟩
theorem X_o_reached {M : gx_M} {L : List gE} (hd : 6 ≤ d) (hb : b ≤ 90000) (h0 : gI0 M b c) (h : gRC M) (hL : gBf (M 5) (M 6) (M 1 1).toNat 300 300 0 [(gtp (M 2), 0)] = some L) :
    ∃ M' r, (gx_X l κ gx_sh z_mt zX8_reached d [gR 1, gI 0] M (gx_eq (some (gI (L.length : Int))) M') ∧ gx_X l κ gx_sh z_mt zX8_reached d [gR 1, gI 1] M (gx_eq (some (gI (gdc (M 5) (M 1 1).toNat L))) M') ∧ gx_X l κ gx_sh z_mt zX8_reached d [gR 1, gI 2] M (gx_eq (some (gI r)) M')) ∧ (∀ k, (k < 79 ∨ 91 ≤ k) → M' k = M k) ∧ gRC M' ∧ (g16 r ∧ ∀ p : Nat, p < 4 → (gbt r p ↔ p < (M 1 1).toNat ∧ ∃ a ∈ L, gCn (M 5) (gmk a.1) (p : Int))) := by
  obtain ⟨M2, k1, k2, k3, k4, k5, k6, k7⟩ := X_rfindL (l := l) (κ := κ) (d := 5) (by omega) hb h0 h hL
  have r5 : gx_R (M2 80 5) := by rw [k5]; exact ⟨by decide, by decide⟩
  refine ⟨M2, M2 80 6, ⟨?_, ?_, o_reached2_e_1 k1 (by omega) k5 r5 ⟨rfl, rfl⟩⟩, k2, k3, k6⟩
  · rw [← k4.1.1]
    exact o_reached0_e_1 k1 (by omega) k5 r5 ⟨rfl, rfl⟩
  · rw [← k7]
    exact o_reached1_e_1 k1 (by omega) k5 r5 ⟨rfl, rfl⟩
/-- the first half of the law's check: what can be reached -/
theorem L_reached {M : gx_M} {x now : Int} {L : List gE} {P : gx_M → Prop} (hd : 7 ≤ d) (hb : b ≤ 10000) (h0 : gI0 M b c) (hN : gLN M) (hRC : gRC M) (hLS : gLS M L) (hmon : gMon L) (hL : gBf (M 5) (M 6) (M 1 1).toNat 300 300 0 [(gtp (M 2), 0)] = some L)
    (kk : ∀ M', (∀ k, (k < 79 ∨ 91 ≤ k) → M' k = M k) → gRC M' → ∃ M'', gx_G l κ gx_sh z_mt zL_would d (225, [gR 1, gU, gJ now, gU, gR 105, gR 106, gR 109, gR 110, gR 111, gU, gU, gU, gU, gU, gU, gU], [], M') (gx_eq (some (gI 1)) M'') ∧ P M'') :
    ∃ M'', gx_G l κ gx_sh z_mt zL_would d (30, [gR 1, gI x, gJ now, gU, gR 105, gR 106, gR 109, gR 110, gR 111, gI (L.length : Int), gI 0, gI 0, gI 0, gU, gU, gU], [], M) (gx_eq (some (gI 1)) M'') ∧ P M'' := by
  have hV := h0.1.1.2
  have hP := h0.1.1.1
  have hl := hLS.1
  have keep : ∀ M1 : gx_M, (∀ k, (k < 79 ∨ 91 ≤ k) → M1 k = M k) → gI0 M1 b c ∧ gLN M1 ∧ gLS M1 L ∧ gBf (M1 5) (M1 6) (M1 1 1).toNat 300 300 0 [(gtp (M1 2), 0)] = some L := by
    intro M1 hf
    refine ⟨gI0_kept h0 (fun k hk => hf k (by omega)) (by rw [hf 7 (by omega)]; exact h0.2.2.1), ?_, ?_, by rw [hf 5 (by omega), hf 6 (by omega), hf 1 (by omega), hf 2 (by omega)]; exact hL⟩
    · unfold gLN gL gAr at *
      rw [hf 104 (by omega), hf 105 (by omega), hf 1 (by omega), hf 5 (by omega), hf 6 (by omega)]
      exact hN
    · unfold gLS at *
      rw [hf 108 (by omega), hf 109 (by omega)]
      exact hLS
  -- the fewest moves, place by place
  have few : ∀ (k p : Nat) (M1 : gx_M), p + k = (M 1 0).toNat → (∀ k, (k < 79 ∨ 91 ≤ k) → M1 k = M k) → gRC M1 →
      ∃ M'', gx_G l κ gx_sh z_mt zL_would d (120, [gR 1, gI x, gJ now, gU, gR 105, gR 106, gR 109, gR 110, gR 111, gI (L.length : Int), gU, gU, gI (p : Int), gU, gU, gU], [], M1) (gx_eq (some (gI 1)) M'') ∧ P M'' := by
    intro k
    induction k with
    | zero =>
      intro p M1 hp hf hrc
      have e : M1 104 0 = M 1 0 := by rw [hf 104 (by omega)]; exact hN.2.1.1
      obtain ⟨M'', k1, k2⟩ := kk M1 hf hrc
      exact ⟨M'', l_would_120_1 (by omega) ⟨by omega, by omega⟩ ⟨by omega, by omega⟩ k1, k2⟩
    | succ k ih =>
      intro p M1 hp hf hrc
      have e : M1 104 0 = M 1 0 := by rw [hf 104 (by omega)]; exact hN.2.1.1
      obtain ⟨h01, hN1, hLS1, hL1⟩ := keep M1 hf
      obtain ⟨t, t1, t2, t3⟩ := X_low (l := l) (κ := κ) (d := 0) (M := M1) (v := gx_shr x (2 * (p : Int))) (n := 8) ⟨by decide, by decide⟩
      obtain ⟨M2, w1, w2, w3⟩ := X_o_fewest (l := l) (κ := κ) (d := 6) (by omega) (by omega) h01 hrc hL1 (p := (p : Int)) (t := t) (by rw [hf 1 (by omega)]; exact ⟨by omega, by omega⟩) ⟨by omega, by omega⟩
      have rng : ∀ L2 : List gE, (∀ b ∈ L2, b ∈ L) → gx_R (gfw (p : Int) t L2) ∧ ((¬ ∃ b ∈ L2, t ≤ gmk b.1 (p : Int)) → gfw (p : Int) t L2 = -6) := by
        intro L2 h2
        by_cases hx : ∃ b ∈ L2, t ≤ gmk b.1 (p : Int)
        · refine ⟨?_, fun z => absurd hx z⟩
          obtain ⟨b', q1, q2⟩ := gfw_mem hx
          obtain ⟨j, hj⟩ := List.getElem?_of_mem (h2 b' q1)
          obtain ⟨-, -, q5, q6⟩ := hLS1.2 j b' hj
          have := (List.getElem?_eq_some_iff.mp hj).1
          have := q6.1
          rw [q2]
          exact ⟨by omega, by omega⟩
        · have e2 := gfw_none (p := (p : Int)) (t := t) (L := L2) (fun a ha z => hx ⟨a, ha, z⟩)
          exact ⟨by rw [e2]; exact ⟨by decide, by decide⟩, fun _ => e2⟩
      have tR : gx_R t := ⟨by omega, by omega⟩
      -- the least distance so far
      have lst : ∀ (q i : Nat), i + q = L.length → ∃ M'', gx_G l κ gx_sh z_mt zL_would d (149, [gR 1, gI x, gJ now, gU, gR 105, gR 106, gR 109, gR 110, gR 111, gI (L.length : Int), gU, gU, gI (p : Int), gI t, gI (gfw (p : Int) t (L.take i)), gI (i : Int)], [], M1) (gx_eq (some (gI 1)) M'') ∧ P M'' := by
        intro q
        induction q with
        | zero =>
          intro i hi
          have e9 : L.take i = L := List.take_of_length_le (by omega)
          rw [e9]
          have r9 := (rng L (fun _ h => h)).1
          obtain ⟨M'', k1, k2⟩ := ih (p + 1) M2 (by omega) (fun k hk => by rw [w2 k hk, hf k hk]) w3
          exact ⟨M'', l_would_149_11 (by omega) ⟨by omega, by omega⟩ ⟨by omega, by omega⟩ w1 (by omega) rfl r9 r9 k1, k2⟩
        | succ q ihq =>
          intro i hi
          have hil : i < L.length := by omega
          have ha : L[i]? = some L[i] := List.getElem?_eq_getElem hil
          obtain ⟨b1, b2, b3, b4⟩ := hLS1.2 i L[i] ha
          have hat := X_at (l := l) (κ := κ) (d := 0) (M := M1) b1.1 (p := (p : Int)) ⟨by omega, by omega⟩
          rw [b1.2 (p : Int) (by omega) (by omega)] at hat
          have bv := b4.2 (p : Int) (by omega) (by omega)
          have b0 := b4.1
          have hn := ihq (i + 1) (by omega)
          rw [List.take_add_one, ha] at hn
          have hn' : ∃ M'', gx_G l κ gx_sh z_mt zL_would d (149, [gR 1, gI x, gJ now, gU, gR 105, gR 106, gR 109, gR 110, gR 111, gI (L.length : Int), gU, gU, gI (p : Int), gI t, gI (gfw (p : Int) t (L.take i ++ [L[i]])), gI ((i + 1 : Nat) : Int)], [], M1) (gx_eq (some (gI 1)) M'') ∧ P M'' := hn
          rw [gfw_app] at hn'
          obtain ⟨lR, l6⟩ := rng (L.take i) (fun b hb => List.mem_of_mem_take hb)
          have g1 : (i : Int) < (L.length : Int) := by omega
          have g2 : gx_R (i : Int) := ⟨by omega, by omega⟩
          have g3 : gx_R (L.length : Int) := ⟨by omega, by omega⟩
          have g4 : (0 : Int) ≤ (i : Int) ∧ (i : Int) < 60 := ⟨by omega, by omega⟩
          have vR : gx_R (gmk L[i].1 (p : Int)) := ⟨by omega, by omega⟩
          have dR : gx_R (M1 109 (i : Int)) := by rw [b2]; exact ⟨by omega, by omega⟩
          by_cases hx : ∃ b ∈ L.take i, t ≤ gmk b.1 (p : Int)
          · rw [@if_pos _ (Classical.propDecidable _) hx] at hn'
            by_cases hc : t ≤ gmk L[i].1 (p : Int)
            · obtain ⟨b', q1, q2⟩ := gfw_mem hx
              obtain ⟨j, hj⟩ := List.getElem?_of_mem q1
              have hji : j < i := by
                have := (List.getElem?_eq_some_iff.mp hj).1
                rw [List.length_take] at this
                omega
              have hj2 : L[j]? = some b' := by
                rw [List.getElem?_take_of_lt hji] at hj
                exact hj
              have m1 := hmon j i b' L[i] (by omega) hj2 ha
              have m2 := (hLS1.2 j b' hj2).2.2.2.1
              obtain ⟨M'', k1, k2⟩ := hn'
              exact ⟨M'', l_would_149_0001 g1 g2 g3 g4 hat (by omega) hc vR tR (by omega) lR (by omega) dR (l_would_194 (l_would_196 k1)), k2⟩
            · obtain ⟨M'', k1, k2⟩ := hn'
              exact ⟨M'', l_would_149_01 g1 g2 g3 g4 hat (by omega) (by omega) vR tR (l_would_194 (l_would_196 k1)), k2⟩
          · rw [@if_neg _ (Classical.propDecidable _) hx] at hn'
            have e6 := l6 hx
            by_cases hc : t ≤ gmk L[i].1 (p : Int)
            · rw [if_pos hc] at hn'
              obtain ⟨M'', k1, k2⟩ := hn'
              refine ⟨M'', l_would_149_001 g1 g2 g3 g4 hat (by omega) hc vR tR (by omega) lR (l_would_186 g4 (l_would_196 ?_)), k2⟩
              rw [b2]
              exact k1
            · rw [if_neg hc] at hn'
              obtain ⟨M'', k1, k2⟩ := hn'
              refine ⟨M'', l_would_149_01 g1 g2 g3 g4 hat (by omega) (by omega) vR tR (l_would_194 (l_would_196 ?_)), k2⟩
              rw [e6]
              exact k1
      obtain ⟨M'', k1, k2⟩ := lst L.length 0 (by omega)
      exact ⟨M'', l_would_120_0 (by omega) ⟨by omega, by omega⟩ ⟨by omega, by omega⟩ t1 (by omega) k1, k2⟩
  -- dead markings and moves
  have dead : ∀ (k i : Nat) (set : Int), i + k = L.length → g16 set → (∀ p : Nat, p < 4 → (gbt set p ↔ p < (M 1 1).toNat ∧ ∃ j a, j < i ∧ L[j]? = some a ∧ gCn (M 5) (gmk a.1) (p : Int))) →
      ∃ M'', gx_G l κ gx_sh z_mt zL_would d (30, [gR 1, gI x, gJ now, gU, gR 105, gR 106, gR 109, gR 110, gR 111, gI (L.length : Int), gI (gdc (M 5) (M 1 1).toNat (L.take i)), gI set, gI (i : Int), gU, gU, gU], [], M) (gx_eq (some (gI 1)) M'') ∧ P M'' := by
    intro k
    induction k with
    | zero =>
      intro i set hi hs hset
      have e9 : L.take i = L := List.take_of_length_le (by omega)
      rw [e9]
      have dr := gdc_rng (M 5) (M 1 1).toNat L
      obtain ⟨M1, r1, ⟨a1, -, -⟩, a2, a3, -⟩ := X_o_reached (l := l) (κ := κ) (d := 6) (by omega) (by omega) h0 hRC hL
      obtain ⟨h01, -, -, hL1⟩ := keep M1 a2
      obtain ⟨M2, r2, ⟨-, b1, -⟩, b2, b3, -⟩ := X_o_reached (l := l) (κ := κ) (d := 6) (by omega) (by omega) h01 a3 hL1
      have b2' : ∀ k, (k < 79 ∨ 91 ≤ k) → M2 k = M k := fun k hk => by rw [b2 k hk, a2 k hk]
      obtain ⟨h02, -, -, hL2⟩ := keep M2 b2'
      obtain ⟨M3, r3, ⟨-, -, c1⟩, c2, c3, c4, c5⟩ := X_o_reached (l := l) (κ := κ) (d := 6) (by omega) (by omega) h02 b3 hL2
      have c2' : ∀ k, (k < 79 ∨ 91 ≤ k) → M3 k = M k := fun k hk => by rw [c2 k hk, b2' k hk]
      rw [a2 5 (by omega), a2 1 (by omega)] at b1
      rw [b2' 5 (by omega), b2' 1 (by omega)] at c5
      have er : r3 = set := gb_ext c4 hs (fun p hp => by
        rw [c5 p hp, hset p hp]
        constructor
        · rintro ⟨z1, a, z2, z3⟩
          obtain ⟨j, hj⟩ := List.getElem?_of_mem z2
          exact ⟨z1, j, a, by have := (List.getElem?_eq_some_iff.mp hj).1; omega, hj, z3⟩
        · rintro ⟨z1, j, a, -, z2, z3⟩
          exact ⟨z1, a, List.mem_of_getElem? z2, z3⟩)
      subst er
      have sR : gx_R r3 := ⟨by have := hs.1; omega, by have := hs.2; omega⟩
      have dR : gx_R (gdc (M 5) (M 1 1).toNat L) := ⟨by omega, by omega⟩
      obtain ⟨M'', k1, k2⟩ := few (M 1 0).toNat 0 M3 (by omega) c2' c3
      exact ⟨M'', l_would_30_1001 (by omega) ⟨by omega, by omega⟩ ⟨by omega, by omega⟩ a1 (by omega) rfl ⟨by omega, by omega⟩ b1 (by omega) rfl dR dR c1 (by omega) rfl sR sR k1, k2⟩
    | succ k ih =>
      intro i set hi hs hset
      have hil : i < L.length := by omega
      have ha : L[i]? = some L[i] := List.getElem?_eq_getElem hil
      obtain ⟨b1, b2, b3, b4⟩ := hLS.2 i L[i] ha
      have hmv := X_moves (l := l) (κ := κ) (d := 2) (M := M) (by omega) hN.1 b1.1
      have eV : M 104 1 = M 1 1 := hN.2.1.2
      have eg : gset (gCan M (M 108 (i : Int))) (M 104 1).toNat = gset (gCn (M 5) (gmk L[i].1)) (M 1 1).toNat := by
        rw [eV]
        exact gset_congr _ (fun j j1 j2 => gCan_Cn hN b1 (fun p p1 p2 => (b4.2 p p1 p2).1) ⟨j1, by omega⟩)
      rw [eg] at hmv
      have hV4 : (M 1 1).toNat ≤ 4 := by omega
      have g16m := gset_4 (gCn (M 5) (gmk L[i].1)) hV4
      obtain ⟨o1, o2⟩ := gb_or2 hs g16m
      have hn := ih (i + 1) (gx_or set (gset (gCn (M 5) (gmk L[i].1)) (M 1 1).toNat)) (by omega) o1 (fun p hp => by
        rw [o2 p hp, hset p hp, gset_bits hV4 hp]
        constructor
        · rintro (⟨z1, j, a, z2, z3, z4⟩ | ⟨z1, z2⟩)
          · exact ⟨z1, j, a, by omega, z3, z4⟩
          · exact ⟨z1, i, L[i], by omega, ha, z2⟩
        · rintro ⟨z1, j, a, z2, z3, z4⟩
          by_cases e : j = i
          · subst e
            rw [ha] at z3
            cases z3
            exact Or.inr ⟨z1, z4⟩
          · exact Or.inl ⟨z1, j, a, by omega, z3, z4⟩)
      rw [List.take_add_one, ha] at hn
      have hn' : ∃ M'', gx_G l κ gx_sh z_mt zL_would d (30, [gR 1, gI x, gJ now, gU, gR 105, gR 106, gR 109, gR 110, gR 111, gI (L.length : Int), gI (gdc (M 5) (M 1 1).toNat (L.take i ++ [L[i]])), gI (gx_or set (gset (gCn (M 5) (gmk L[i].1)) (M 1 1).toNat)), gI ((i + 1 : Nat) : Int), gU, gU, gU], [], M) (gx_eq (some (gI 1)) M'') ∧ P M'' := hn
      rw [gdc_app] at hn'
      have h0m := gset_0 (P := gCn (M 5) (gmk L[i].1)) hV4
      have mR : gx_R (gset (gCn (M 5) (gmk L[i].1)) (M 1 1).toNat) := ⟨by omega, by omega⟩
      have g4 : (0 : Int) ≤ (i : Int) ∧ (i : Int) < 60 := ⟨by omega, by omega⟩
      by_cases hz : gset (gCn (M 5) (gmk L[i].1)) (M 1 1).toNat = 0
      · rw [gi_pos (h0m.mp hz)] at hn'
        obtain ⟨M'', k1, k2⟩ := hn'
        exact ⟨M'', l_would_30_00 (by omega) ⟨by omega, by omega⟩ ⟨by omega, by omega⟩ g4 hmv (by omega) hz mR (l_would_59 g4 hmv (by omega) k1), k2⟩
      · rw [gi_neg (fun z => hz (h0m.mpr z))] at hn'
        obtain ⟨M'', k1, k2⟩ := hn'
        exact ⟨M'', l_would_30_01 (by omega) ⟨by omega, by omega⟩ ⟨by omega, by omega⟩ g4 hmv (by omega) hz mR (l_would_59 g4 hmv (by omega) k1), k2⟩
  exact dead L.length 0 0 (by omega) ⟨by decide, by decide⟩ (fun p hp => ⟨fun z => absurd z (gb_f0 p hp), fun ⟨_, j, _, z, _⟩ => by omega⟩)
end WOULD
