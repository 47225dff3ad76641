/-! the object's changes, and what it tells of places and moves -/
/-- what always holds of the object's net and history: bounds; nothing lies where no place or move has come -/
def gI0 (M : gx_M) (b c : Int) : Prop := gNB M b ∧ gMd M c ∧ ((0 ≤ M 7 1 ∧ M 7 1 < 7) ∧ (0 ≤ M 7 2 ∧ M 7 2 ≤ 6)) ∧ (∀ p, M 1 0 ≤ p → p < 8 → M 2 p = 0 ∧ M 3 p = 0) ∧ (∀ m, M 1 1 ≤ m → m < 8 → M 4 m = 0) ∧ ∀ i, 0 ≤ i → i < 64 → (M 1 0 ≤ i % 8 ∨ M 1 1 ≤ i / 8) → M 5 i = 0 ∧ M 6 i = 0
theorem gI0_kept {M M' : gx_M} {b c : Int} (h : gI0 M b c) (h1 : ∀ k, k < 7 → M' k = M k) (h7 : (0 ≤ M' 7 1 ∧ M' 7 1 < 7) ∧ (0 ≤ M' 7 2 ∧ M' 7 2 ≤ 6)) : gI0 M' b c := by
  unfold gI0 gNB gMd gAr at *
  rw [h1 1 (by decide), h1 2 (by decide), h1 3 (by decide), h1 4 (by decide), h1 5 (by decide), h1 6 (by decide)]
  exact ⟨h.1, h.2.1, h7, h.2.2.2⟩
theorem gNB_mono {M : gx_M} {b b' : Int} (h : gNB M b) (hb : b ≤ b') : gNB M b' := ⟨h.1, h.2.1, fun p p1 p2 => by
  have := h.2.2 p p1 p2
  exact ⟨⟨this.1.1, by omega⟩, this.2.1, by omega⟩⟩
theorem gMd_mono {M : gx_M} {c c' : Int} (h : gMd M c) (hb : c ≤ c') : gMd M c' := fun m m1 m2 => by
  have := h m m1 m2
  exact ⟨this.1, by omega⟩
theorem gI0_mono {M : gx_M} {b c b' c' : Int} (h : gI0 M b c) (hb : b ≤ b') (hc : c ≤ c') : gI0 M b' c' := ⟨gNB_mono h.1 hb, gMd_mono h.2.1 hc, h.2.2⟩
/-- a state that is nothing where no place or move has come -/
def gZs (M : gx_M) (S : gS) : Prop := (∀ p, M 1 0 ≤ p → p < 8 → S.1 p = 0 ∧ S.2.1 p = 0) ∧ ∀ m, M 1 1 ≤ m → m < 8 → S.2.2 m = 0
theorem gZs_Mk {M : gx_M} {S : gS} {mv : Int} (hP : 0 ≤ M 1 0) (hm : 0 ≤ mv ∧ mv < M 1 1 ∧ M 1 1 ≤ 4) (hz : ∀ i, 0 ≤ i → i < 64 → (M 1 0 ≤ i % 8 ∨ M 1 1 ≤ i / 8) → M 5 i = 0 ∧ M 6 i = 0) (h : gZs M S) : gZs M (gMk (M 5) (M 6) mv S) := by
  refine ⟨fun p p1 p2 => ?_, fun m m1 m2 => ?_⟩
  · have h1 := h.1 p p1 p2
    have h2 := hz (mv * 8 + p) (by omega) (by omega) (Or.inl (by omega))
    have e : gSt (M 5) (M 6) S.1 mv p = 0 := by
      unfold gSt
      rw [h1.1, h2.1, h2.2]
      decide
    refine ⟨e, ?_⟩
    show max (S.2.1 p) (gSt (M 5) (M 6) S.1 mv p) = 0
    rw [e, h1.2]
    decide
  · show (if m = mv then S.2.2 m + 1 else S.2.2 m) = 0
    rw [if_neg (by omega)]
    exact h.2 m m1 m2
theorem gZs_Run {M : gx_M} (hP : 0 ≤ M 1 0) (hV : 0 ≤ M 1 1 ∧ M 1 1 ≤ 4) (hz : ∀ i, 0 ≤ i → i < 64 → (M 1 0 ≤ i % 8 ∨ M 1 1 ≤ i / 8) → M 5 i = 0 ∧ M 6 i = 0) : ∀ (k : Nat) (x : Int) (S : gS), gZs M S → gZs M (gRunS (M 5) (M 6) (M 1 1).toNat k x S).2 := by
  intro k
  induction k with
  | zero => intro x S h; exact h
  | succ k ih =>
    intro x S h
    have e : gRunS (M 5) (M 6) (M 1 1).toNat (k + 1) x S = @ite _ (gset (gCn (M 5) S.1) (M 1 1).toNat = 0) (Classical.propDecidable _) (0, S)
      ((gRunS (M 5) (M 6) (M 1 1).toNat k ((x * 1103515245 + 12345) % 2147483648) (gMk (M 5) (M 6) (gPick (gset (gCn (M 5) S.1) (M 1 1).toNat) 8 0 ((x * 1103515245 + 12345) % 2147483648 / 65536 % gpc (gset (gCn (M 5) S.1) (M 1 1).toNat))) S)).1 + 1, (gRunS (M 5) (M 6) (M 1 1).toNat k ((x * 1103515245 + 12345) % 2147483648) (gMk (M 5) (M 6) (gPick (gset (gCn (M 5) S.1) (M 1 1).toNat) 8 0 ((x * 1103515245 + 12345) % 2147483648 / 65536 % gpc (gset (gCn (M 5) S.1) (M 1 1).toNat))) S)).2) := rfl
    rw [e]
    by_cases c0 : gset (gCn (M 5) S.1) (M 1 1).toNat = 0
    · rw [@if_pos _ (Classical.propDecidable _) c0]; exact h
    · rw [@if_neg _ (Classical.propDecidable _) c0]
      have h4s := gset_4 (gCn (M 5) S.1) (k := (M 1 1).toNat) (by omega)
      have hg := gpc_pos h4s c0
      have hi : 0 ≤ (x * 1103515245 + 12345) % 2147483648 / 65536 % gpc (gset (gCn (M 5) S.1) (M 1 1).toNat) ∧ (x * 1103515245 + 12345) % 2147483648 / 65536 % gpc (gset (gCn (M 5) S.1) (M 1 1).toNat) < gpc (gset (gCn (M 5) S.1) (M 1 1).toNat) := ⟨Int.emod_nonneg _ (by omega), Int.emod_lt_of_pos _ hg⟩
      obtain ⟨k1, -⟩ := gPick_ok (show (M 1 1).toNat ≤ 4 by omega) hi
      exact ih _ _ (gZs_Mk hP ⟨k1.1, by omega, hV.2⟩ hz h)
section OBJ
variable {l : Launch} {κ : yK} {d : Nat} {M : gx_M} {b c : Int}
theorem X_o_place {t : Int} (hd : 2 ≤ d) (h : gI0 M b c) (ht : 0 ≤ t ∧ t ≤ 999 ∧ t ≤ b) (hP : M 1 0 < 4) :
    ∃ M', gx_X l κ gx_sh z_mt zX8_place d [gR 1, gI t] M (gx_eq (some (gI (M 1 0))) M') ∧ gI0 M' b c ∧ (∀ k, 51 ≤ k → M' k = M k) ∧ (M' 1 0 = M 1 0 + 1 ∧ M' 1 1 = M 1 1) ∧ (M' 4 = M 4 ∧ M' 5 = M 5 ∧ M' 6 = M 6) ∧ (∀ p, M' 2 p = if p = M 1 0 then t else M 2 p) ∧ ∀ p, M' 3 p = if p = M 1 0 then t else M 3 p := by
  obtain ⟨⟨⟨hP0, hV0⟩, hA, hT⟩, hMd, hH, hz1, hz2, hz3⟩ := h
  obtain ⟨M1, n1, n2⟩ := X_note (l := l) (κ := κ) (d := 1) (M := M) hH.1 (by omega)
  have e1 : ∀ k, k < 9 → M1 k = M k := fun k hk => n2 k (Or.inl hk)
  obtain ⟨M2, a1, a2, a3, a4, a5⟩ := X_addPlace (l := l) (κ := κ) (d := 0) (M := M1) (c := t) ⟨ht.1, ht.2.1⟩ (by rw [e1 1 (by decide)]; exact ⟨hP0.1, by omega⟩)
  obtain ⟨M3, s1, s2, s3, s4⟩ := X_settle (l := l) (κ := κ) (d := 0) (M := M2) (a := M1 1 0) (by rw [e1 1 (by decide)]; exact ⟨by omega, by omega⟩) (by rw [a2 7 (by decide) (by decide) (by decide), e1 7 (by decide)]; exact hH)
  have f1 : M3 1 0 = M 1 0 + 1 ∧ M3 1 1 = M 1 1 := by rw [s2 1 (by decide), a3.1, a3.2, e1 1 (by decide)]; exact ⟨rfl, rfl⟩
  have f2 : ∀ p, M3 2 p = if p = M 1 0 then t else M 2 p := fun p => by rw [s2 2 (by decide), a4, e1 1 (by decide), e1 2 (by decide)]
  have f3 : ∀ p, M3 3 p = if p = M 1 0 then t else M 3 p := fun p => by rw [s2 3 (by decide), a5, e1 1 (by decide), e1 3 (by decide)]
  have f4 : M3 4 = M 4 := by rw [s2 4 (by decide), a2 4 (by decide) (by decide) (by decide), e1 4 (by decide)]
  have f5 : M3 5 = M 5 := by rw [s2 5 (by decide), a2 5 (by decide) (by decide) (by decide), e1 5 (by decide)]
  have f6 : M3 6 = M 6 := by rw [s2 6 (by decide), a2 6 (by decide) (by decide) (by decide), e1 6 (by decide)]
  refine ⟨M3, ?_, ⟨⟨?_, ?_, ?_⟩, ?_, ⟨s3, s4⟩, ?_, ?_, ?_⟩, fun k hk => by rw [s2 k (by omega), a2 k (by omega) (by omega) (by omega), n2 k (Or.inr hk)], f1, ⟨f4, f5, f6⟩, f2, f3⟩
  · rw [show M 1 0 = M1 1 0 from by rw [e1 1 (by decide)]]
    exact o_place_e n1 (by omega) a1 (by omega) s1 (by omega) ⟨rfl, rfl⟩
  · rw [f1.1, f1.2]; exact ⟨⟨by omega, by omega⟩, hV0⟩
  · intro i i1 i2; rw [f5, f6]; exact hA i i1 i2
  · intro p p1 p2
    have := hT p p1 p2
    rw [f2, f3]
    by_cases e : p = M 1 0
    · rw [if_pos e, if_pos e]; exact ⟨⟨ht.1, ht.2.2⟩, ht.1, ht.2.2⟩
    · rw [if_neg e, if_neg e]; exact this
  · intro m m1 m2; rw [f4]; exact hMd m m1 m2
  · intro p p1 p2
    rw [f1.1] at p1
    rw [f2, f3, if_neg (by omega), if_neg (by omega)]
    exact hz1 p (by omega) p2
  · intro m m1 m2
    rw [f1.2] at m1
    rw [f4]; exact hz2 m m1 m2
  · intro i i1 i2 i3
    rw [f1.1, f1.2] at i3
    rw [f5, f6]; exact hz3 i i1 i2 (by omega)
theorem X_o_move (hd : 2 ≤ d) (h : gI0 M b c) (hP : M 1 1 < 4) :
    ∃ M', gx_X l κ gx_sh z_mt zX8_move d [gR 1] M (gx_eq (some (gI (M 1 1))) M') ∧ gI0 M' b c ∧ (∀ k, 51 ≤ k → M' k = M k) ∧ (M' 1 0 = M 1 0 ∧ M' 1 1 = M 1 1 + 1) ∧ (M' 2 = M 2 ∧ M' 3 = M 3 ∧ M' 4 = M 4 ∧ M' 5 = M 5 ∧ M' 6 = M 6) := by
  obtain ⟨⟨⟨hP0, hV0⟩, hA, hT⟩, hMd, hH, hz1, hz2, hz3⟩ := h
  obtain ⟨M1, n1, n2⟩ := X_note (l := l) (κ := κ) (d := 1) (M := M) hH.1 (by omega)
  have e1 : ∀ k, k < 9 → M1 k = M k := fun k hk => n2 k (Or.inl hk)
  obtain ⟨M2, a1, a2, a3, a4⟩ := X_addMove (l := l) (κ := κ) (d := 0) (M := M1) (by rw [e1 1 (by decide)]; exact ⟨hV0.1, by omega⟩)
  obtain ⟨M3, s1, s2, s3, s4⟩ := X_settle (l := l) (κ := κ) (d := 0) (M := M2) (a := M1 1 1) (by rw [e1 1 (by decide)]; exact ⟨by omega, by omega⟩) (by rw [a2 7 (by decide), e1 7 (by decide)]; exact hH)
  have f1 : M3 1 0 = M 1 0 ∧ M3 1 1 = M 1 1 + 1 := by rw [s2 1 (by decide), a3, a4, e1 1 (by decide)]; exact ⟨rfl, rfl⟩
  have f2 : ∀ k, k ≠ 1 → k < 7 → M3 k = M k := fun k k1 k2 => by rw [s2 k (by omega), a2 k k1, e1 k (by omega)]
  refine ⟨M3, ?_, ⟨⟨?_, ?_, ?_⟩, ?_, ⟨s3, s4⟩, ?_, ?_, ?_⟩, fun k hk => by rw [s2 k (by omega), a2 k (by omega), n2 k (Or.inr hk)], f1, ⟨f2 2 (by decide) (by decide), f2 3 (by decide) (by decide), f2 4 (by decide) (by decide), f2 5 (by decide) (by decide), f2 6 (by decide) (by decide)⟩⟩
  · rw [show M 1 1 = M1 1 1 from by rw [e1 1 (by decide)]]
    exact o_move_e n1 (by omega) a1 (by omega) s1 (by omega) ⟨rfl, rfl⟩
  · rw [f1.1, f1.2]; exact ⟨hP0, ⟨by omega, by omega⟩⟩
  · intro i i1 i2; rw [f2 5 (by decide) (by decide), f2 6 (by decide) (by decide)]; exact hA i i1 i2
  · intro p p1 p2; rw [f2 2 (by decide) (by decide), f2 3 (by decide) (by decide)]; exact hT p p1 p2
  · intro m m1 m2; rw [f2 4 (by decide) (by decide)]; exact hMd m m1 m2
  · intro p p1 p2
    rw [f1.1] at p1
    rw [f2 2 (by decide) (by decide), f2 3 (by decide) (by decide)]; exact hz1 p p1 p2
  · intro m m1 m2
    rw [f1.2] at m1
    rw [f2 4 (by decide) (by decide)]; exact hz2 m (by omega) m2
  · intro i i1 i2 i3
    rw [f1.1, f1.2] at i3
    rw [f2 5 (by decide) (by decide), f2 6 (by decide) (by decide)]; exact hz3 i i1 i2 (by omega)
theorem X_o_arc {mv pl tk gv : Int} (hd : 3 ≤ d) (h : gI0 M b c) (hm : 0 ≤ mv ∧ mv < M 1 1) (hp : 0 ≤ pl ∧ pl < M 1 0) (ht : 0 ≤ tk ∧ tk ≤ 9) (hg : 0 ≤ gv ∧ gv ≤ 9) :
    ∃ M', gx_X l κ gx_sh z_mt zX8_arc d [gR 1, gI mv, gI pl, gI tk, gI gv] M (gx_eq (some (gI (10 * M 5 (mv * 8 + pl) + M 6 (mv * 8 + pl)))) M') ∧ gI0 M' b c ∧ (∀ k, 51 ≤ k → M' k = M k) ∧ (M' 1 0 = M 1 0 ∧ M' 1 1 = M 1 1) ∧ (M' 2 = M 2 ∧ M' 3 = M 3 ∧ M' 4 = M 4) ∧ (∀ i, M' 5 i = if i = mv * 8 + pl then tk else M 5 i) ∧ ∀ i, M' 6 i = if i = mv * 8 + pl then gv else M 6 i := by
  obtain ⟨⟨⟨hP0, hV0⟩, hA, hT⟩, hMd, hH, hz1, hz2, hz3⟩ := h
  obtain ⟨M1, n1, n2⟩ := X_note (l := l) (κ := κ) (d := 1) (M := M) hH.1 (by omega)
  have e1 : ∀ k, k < 9 → M1 k = M k := fun k hk => n2 k (Or.inl hk)
  obtain ⟨M2, a1, a2, a3, a4⟩ := X_setArc (l := l) (κ := κ) (d := 1) (M := M1) (mv := mv) (pl := pl) (tk := tk) (gv := gv) (by omega) (by rw [e1 1 (by decide)]; exact ⟨⟨hP0.1, by omega⟩, hV0.1, by omega⟩) (by rw [e1 1 (by decide)]; exact hm) (by rw [e1 1 (by decide)]; exact hp) ht hg
  rw [e1 5 (by decide), e1 6 (by decide)] at a1
  have ha := hA (mv * 8 + pl) (by omega) (by omega)
  obtain ⟨M3, s1, s2, s3, s4⟩ := X_settle (l := l) (κ := κ) (d := 0) (M := M2) (a := 10 * M 5 (mv * 8 + pl) + M 6 (mv * 8 + pl)) ⟨by omega, by omega⟩ (by rw [a2 7 (by decide) (by decide), e1 7 (by decide)]; exact hH)
  have f2 : ∀ k, k ≠ 5 → k ≠ 6 → k < 7 → M3 k = M k := fun k k1 k2 k3 => by rw [s2 k (by omega), a2 k k1 k2, e1 k (by omega)]
  have f5 : ∀ i, M3 5 i = if i = mv * 8 + pl then tk else M 5 i := fun i => by rw [s2 5 (by decide), a3, e1 5 (by decide)]
  have f6 : ∀ i, M3 6 i = if i = mv * 8 + pl then gv else M 6 i := fun i => by rw [s2 6 (by decide), a4, e1 6 (by decide)]
  have f1 := f2 1 (by decide) (by decide) (by decide)
  refine ⟨M3, o_arc_e n1 (by omega) a1 (by omega) s1 (by omega) ⟨rfl, rfl⟩, ⟨⟨?_, ?_, ?_⟩, ?_, ⟨s3, s4⟩, ?_, ?_, ?_⟩, fun k hk => by rw [s2 k (by omega), a2 k (by omega) (by omega), n2 k (Or.inr hk)], by rw [f1]; exact ⟨rfl, rfl⟩, ⟨f2 2 (by decide) (by decide) (by decide), f2 3 (by decide) (by decide) (by decide), f2 4 (by decide) (by decide) (by decide)⟩, f5, f6⟩
  · rw [f1]; exact ⟨hP0, hV0⟩
  · intro i i1 i2
    have := hA i i1 i2
    rw [f5, f6]
    by_cases e : i = mv * 8 + pl
    · rw [if_pos e, if_pos e]; exact ⟨ht, hg⟩
    · rw [if_neg e, if_neg e]; exact this
  · intro p p1 p2; rw [f2 2 (by decide) (by decide) (by decide), f2 3 (by decide) (by decide) (by decide)]; exact hT p p1 p2
  · intro m m1 m2; rw [f2 4 (by decide) (by decide) (by decide)]; exact hMd m m1 m2
  · intro p p1 p2
    rw [f1] at p1
    rw [f2 2 (by decide) (by decide) (by decide), f2 3 (by decide) (by decide) (by decide)]; exact hz1 p p1 p2
  · intro m m1 m2
    rw [f1] at m1
    rw [f2 4 (by decide) (by decide) (by decide)]; exact hz2 m m1 m2
  · intro i i1 i2 i3
    rw [f1] at i3
    rw [f5, f6, if_neg (by omega), if_neg (by omega)]
    exact hz3 i i1 i2 i3
theorem X_o_tokens {pl t : Int} (hd : 3 ≤ d) (h : gI0 M b c) (hp : 0 ≤ pl ∧ pl < M 1 0) (ht : 0 ≤ t ∧ t ≤ 999 ∧ t ≤ b) (hb : b ≤ 1000000) :
    ∃ M', gx_X l κ gx_sh z_mt zX8_tokens d [gR 1, gI pl, gI t] M (gx_eq (some (gI (M 2 pl))) M') ∧ gI0 M' b c ∧ (∀ k, 51 ≤ k → M' k = M k) ∧ (M' 1 0 = M 1 0 ∧ M' 1 1 = M 1 1) ∧ (M' 4 = M 4 ∧ M' 5 = M 5 ∧ M' 6 = M 6) ∧ (∀ p, M' 2 p = if p = pl then t else M 2 p) ∧ ∀ p, M' 3 p = if p = pl then t else M 3 p := by
  obtain ⟨⟨⟨hP0, hV0⟩, hA, hT⟩, hMd, hH, hz1, hz2, hz3⟩ := h
  obtain ⟨M1, n1, n2⟩ := X_note (l := l) (κ := κ) (d := 1) (M := M) hH.1 (by omega)
  have e1 : ∀ k, k < 9 → M1 k = M k := fun k hk => n2 k (Or.inl hk)
  obtain ⟨M2, a1, a2, a3, a4⟩ := X_setTokens (l := l) (κ := κ) (d := 1) (M := M1) (pl := pl) (c := t) (by omega) (by rw [e1 1 (by decide)]; exact ⟨hP0.1, by omega⟩) (by rw [e1 1 (by decide)]; exact hp) ⟨ht.1, ht.2.1⟩
  rw [e1 2 (by decide)] at a1
  have hv := (hT pl hp.1 (by omega)).1
  obtain ⟨M3, s1, s2, s3, s4⟩ := X_settle (l := l) (κ := κ) (d := 0) (M := M2) (a := M 2 pl) ⟨by omega, by omega⟩ (by rw [a2 7 (by decide) (by decide), e1 7 (by decide)]; exact hH)
  have f0 : ∀ k, k ≠ 2 → k ≠ 3 → k < 7 → M3 k = M k := fun k k1 k2 k3 => by rw [s2 k (by omega), a2 k k1 k2, e1 k (by omega)]
  have f2 : ∀ i, M3 2 i = if i = pl then t else M 2 i := fun i => by rw [s2 2 (by decide), a3, e1 2 (by decide)]
  have f3 : ∀ i, M3 3 i = if i = pl then t else M 3 i := fun i => by rw [s2 3 (by decide), a4, e1 3 (by decide)]
  have f1 := f0 1 (by decide) (by decide) (by decide)
  refine ⟨M3, o_tokens_e n1 (by omega) a1 (by omega) s1 (by omega) ⟨rfl, rfl⟩, ⟨⟨?_, ?_, ?_⟩, ?_, ⟨s3, s4⟩, ?_, ?_, ?_⟩, fun k hk => by rw [s2 k (by omega), a2 k (by omega) (by omega), n2 k (Or.inr hk)], by rw [f1]; exact ⟨rfl, rfl⟩, ⟨f0 4 (by decide) (by decide) (by decide), f0 5 (by decide) (by decide) (by decide), f0 6 (by decide) (by decide) (by decide)⟩, f2, f3⟩
  · rw [f1]; exact ⟨hP0, hV0⟩
  · intro i i1 i2; rw [f0 5 (by decide) (by decide) (by decide), f0 6 (by decide) (by decide) (by decide)]; exact hA i i1 i2
  · intro p p1 p2
    have := hT p p1 p2
    rw [f2, f3]
    by_cases e : p = pl
    · rw [if_pos e, if_pos e]; exact ⟨⟨ht.1, ht.2.2⟩, ht.1, ht.2.2⟩
    · rw [if_neg e, if_neg e]; exact this
  · intro m m1 m2; rw [f0 4 (by decide) (by decide) (by decide)]; exact hMd m m1 m2
  · intro p p1 p2
    rw [f1] at p1
    rw [f2, f3, if_neg (by omega), if_neg (by omega)]
    exact hz1 p p1 p2
  · intro m m1 m2
    rw [f1] at m1
    rw [f0 4 (by decide) (by decide) (by decide)]; exact hz2 m m1 m2
  · intro i i1 i2 i3
    rw [f1] at i3
    rw [f0 5 (by decide) (by decide) (by decide), f0 6 (by decide) (by decide) (by decide)]; exact hz3 i i1 i2 i3
/-- the state of a memory -/
def gOf (M : gx_M) : gS := (M 2, M 3, M 4)
theorem gOf_Vw (M : gx_M) : gVw M (gOf M) := ⟨fun _ _ _ => ⟨rfl, rfl⟩, fun _ _ _ => rfl⟩
theorem gZs_of {M : gx_M} (h : gI0 M b c) : gZs M (gOf M) := ⟨h.2.2.2.1, h.2.2.2.2.1⟩
/-- behind a change of tokens alone -/
theorem gI0_Vw {M1 M3 : gx_M} {S' : gS} {b' c' : Int} (h : gI0 M b c) (f0 : ∀ k, k ≠ 2 → k ≠ 3 → k ≠ 4 → k < 7 → M3 k = M k) (hS : gVw M3 S') (hz : gZs M S') (hN : gNB M1 b') (h12 : M3 2 = M1 2 ∧ M3 3 = M1 3) (hMd : gMd M3 c') (hH : (0 ≤ M3 7 1 ∧ M3 7 1 < 7) ∧ (0 ≤ M3 7 2 ∧ M3 7 2 ≤ 6)) : gI0 M3 b' c' := by
  have f1 := f0 1 (by decide) (by decide) (by decide) (by decide)
  have f5 := f0 5 (by decide) (by decide) (by decide) (by decide)
  have f6 := f0 6 (by decide) (by decide) (by decide) (by decide)
  refine ⟨⟨by rw [f1]; exact h.1.1, fun i i1 i2 => by rw [f5, f6]; exact h.1.2.1 i i1 i2, fun p p1 p2 => by rw [h12.1, h12.2]; exact hN.2.2 p p1 p2⟩, hMd, hH, fun p p1 p2 => ?_, fun m m1 m2 => ?_, fun i i1 i2 i3 => by rw [f1] at i3; rw [f5, f6]; exact h.2.2.2.2.2 i i1 i2 i3⟩
  · rw [f1] at p1
    have hp := h.1.1.1.1
    have h1 := hS.1 p (by omega) p2
    rw [h1.1, h1.2]
    exact hz.1 p p1 p2
  · rw [f1] at m1
    have hp := h.1.1.2.1
    rw [hS.2 m (by omega) m2]
    exact hz.2 m m1 m2
theorem X_o_make {mv : Int} (hd : 4 ≤ d) (h : gI0 M b c) (hb : 0 ≤ b ∧ b ≤ 90000) (hcc : 0 ≤ c ∧ c ≤ 90000) (hm : 0 ≤ mv ∧ mv < M 1 1) (hcn : gCn (M 5) (M 2) mv) :
    ∃ M', gx_X l κ gx_sh z_mt zX8_make d [gR 1, gI mv] M (gx_eq (some (gI (gpc (gset (gCn (M 5) (gMk (M 5) (M 6) mv (gOf M)).1) (M 1 1).toNat)))) M') ∧ gI0 M' (b + 9) (c + 1) ∧ (∀ k, 51 ≤ k → M' k = M k) ∧ (M' 1 = M 1 ∧ M' 5 = M 5 ∧ M' 6 = M 6) ∧ gVw M' (gMk (M 5) (M 6) mv (gOf M)) := by
  have h0 := h
  obtain ⟨⟨⟨hP0, hV0⟩, hA, hT⟩, hMd, hH, hz1, hz2, hz3⟩ := h
  obtain ⟨M1, n1, n2⟩ := X_note (l := l) (κ := κ) (d := 1) (M := M) hH.1 (by omega)
  have e1 : ∀ k, k < 9 → M1 k = M k := fun k hk => n2 k (Or.inl hk)
  have hI1 := gI0_kept h0 (M' := M1) (fun k hk => e1 k (by omega)) (by rw [e1 7 (by decide)]; exact hH)
  have hS1 : gVw M1 (gOf M) := by
    have := gOf_Vw M
    unfold gVw at *
    rw [e1 2 (by decide), e1 3 (by decide), e1 4 (by decide)]
    exact this
  obtain ⟨M2, a1, a2, a3, a4⟩ := X_makeOne (l := l) (κ := κ) (d := 3) (M := M1) (mv := mv) (b := b) (by omega) ⟨hb.1, by omega⟩ hI1.1 (by rw [e1 1 (by decide)]; exact hm) (by rw [e1 5 (by decide), e1 2 (by decide)]; exact hcn) hS1 (fun m m1 m2 => by have := hI1.2.1 m m1 m2; exact ⟨by omega, by omega⟩)
  rw [e1 5 (by decide), e1 6 (by decide)] at a1 a3
  rw [e1 1 (by decide)] at a1
  have hr := gpc_rng (gset (gCn (M 5) (gMk (M 5) (M 6) mv (gOf M)).1) (M 1 1).toNat)
  obtain ⟨M3, s1, s2, s3, s4⟩ := X_settle (l := l) (κ := κ) (d := 0) (M := M2) (a := gpc (gset (gCn (M 5) (gMk (M 5) (M 6) mv (gOf M)).1) (M 1 1).toNat)) ⟨by omega, by omega⟩ (by rw [a2 7 (by decide) (by decide) (by decide), e1 7 (by decide)]; exact hH)
  have f0 : ∀ k, k ≠ 2 → k ≠ 3 → k ≠ 4 → k < 7 → M3 k = M k := fun k k1 k2 k3 k4 => by rw [s2 k (by omega), a2 k k1 k2 k3, e1 k (by omega)]
  have hS3 : gVw M3 (gMk (M 5) (M 6) mv (gOf M)) := by
    unfold gVw at *
    rw [s2 2 (by decide), s2 3 (by decide), s2 4 (by decide)]
    exact a3
  refine ⟨M3, o_make_e n1 (by omega) a1 (by omega) s1 (by omega) ⟨rfl, rfl⟩, ?_, fun k hk => by rw [s2 k (by omega), a2 k (by omega) (by omega) (by omega), n2 k (Or.inr hk)], ⟨f0 1 (by decide) (by decide) (by decide) (by decide), f0 5 (by decide) (by decide) (by decide) (by decide), f0 6 (by decide) (by decide) (by decide) (by decide)⟩, hS3⟩
  refine gI0_Vw h0 f0 hS3 (gZs_Mk hP0.1 ⟨hm.1, hm.2, hV0.2⟩ hz3 (gZs_of h0)) a4 ⟨s2 2 (by decide), s2 3 (by decide)⟩ ?_ ⟨s3, s4⟩
  intro m m1 m2
  rw [hS3.2 m m1 m2]
  have := hMd m m1 m2
  show 0 ≤ (if m = mv then M 4 m + 1 else M 4 m) ∧ (if m = mv then M 4 m + 1 else M 4 m) ≤ c + 1
  by_cases e : m = mv
  · rw [if_pos e]; omega
  · rw [if_neg e]; omega
theorem X_o_makeN {mv : Int} (hd : 4 ≤ d) (h : gI0 M b c) (hb : 0 ≤ b ∧ b ≤ 90000) (hm : 0 ≤ mv ∧ mv < M 1 1) (hcn : ¬ gCn (M 5) (M 2) mv) :
    ∃ M', gx_X l κ gx_sh z_mt zX8_make d [gR 1, gI mv] M (gx_eq (some (gI (-5))) M') ∧ gI0 M' b c ∧ (∀ k, (k < 7 ∨ 51 ≤ k) → M' k = M k) := by
  have hH := h.2.2.1
  obtain ⟨M1, n1, n2⟩ := X_note (l := l) (κ := κ) (d := 1) (M := M) hH.1 (by omega)
  have e1 : ∀ k, k < 9 → M1 k = M k := fun k hk => n2 k (Or.inl hk)
  have hI1 := gI0_kept h (M' := M1) (fun k hk => e1 k (by omega)) (by rw [e1 7 (by decide)]; exact hH)
  have a1 := X_makeOneN (l := l) (κ := κ) (d := 3) (M := M1) (mv := mv) (b := b) (by omega) ⟨hb.1, by omega⟩ hI1.1 (by rw [e1 1 (by decide)]; exact hm) (by rw [e1 5 (by decide), e1 2 (by decide)]; exact hcn)
  obtain ⟨M3, s1, s2, s3, s4⟩ := X_settle (l := l) (κ := κ) (d := 0) (M := M1) (a := -5) ⟨by decide, by decide⟩ (by rw [e1 7 (by decide)]; exact hH)
  refine ⟨M3, o_make_e n1 (by omega) a1 (by omega) s1 (by omega) ⟨rfl, rfl⟩, gI0_kept hI1 (fun k hk => s2 k (by omega)) ⟨s3, s4⟩, fun k hk => ?_⟩
  rcases hk with hk | hk
  · rw [s2 k (by omega), e1 k (by omega)]
  · rw [s2 k (by omega), n2 k (Or.inr hk)]
theorem gRunS_rng (tk gv : Int → Int) (V : Nat) : ∀ (k : Nat) (x : Int) (S : gS), 0 ≤ (gRunS tk gv V k x S).1 ∧ (gRunS tk gv V k x S).1 ≤ k := by
  intro k
  induction k with
  | zero => intro x S; exact ⟨Int.le_refl 0, Int.le_refl 0⟩
  | succ k ih =>
    intro x S
    have e : gRunS tk gv V (k + 1) x S = @ite _ (gset (gCn tk S.1) V = 0) (Classical.propDecidable _) (0, S)
      ((gRunS tk gv V k ((x * 1103515245 + 12345) % 2147483648) (gMk tk gv (gPick (gset (gCn tk S.1) V) 8 0 ((x * 1103515245 + 12345) % 2147483648 / 65536 % gpc (gset (gCn tk S.1) V))) S)).1 + 1, (gRunS tk gv V k ((x * 1103515245 + 12345) % 2147483648) (gMk tk gv (gPick (gset (gCn tk S.1) V) 8 0 ((x * 1103515245 + 12345) % 2147483648 / 65536 % gpc (gset (gCn tk S.1) V))) S)).2) := rfl
    rw [e]
    by_cases c0 : gset (gCn tk S.1) V = 0
    · rw [@if_pos _ (Classical.propDecidable _) c0]
      show (0 : Int) ≤ 0 ∧ (0 : Int) ≤ ((k + 1 : Nat) : Int)
      omega
    · rw [@if_neg _ (Classical.propDecidable _) c0]
      have := ih ((x * 1103515245 + 12345) % 2147483648) (gMk tk gv (gPick (gset (gCn tk S.1) V) 8 0 ((x * 1103515245 + 12345) % 2147483648 / 65536 % gpc (gset (gCn tk S.1) V))) S)
      generalize gRunS tk gv V k ((x * 1103515245 + 12345) % 2147483648) (gMk tk gv (gPick (gset (gCn tk S.1) V) 8 0 ((x * 1103515245 + 12345) % 2147483648 / 65536 % gpc (gset (gCn tk S.1) V))) S) = q at this ⊢
      show 0 ≤ q.1 + 1 ∧ q.1 + 1 ≤ ((k + 1 : Nat) : Int)
      omega
theorem X_o_run {seed many : Int} (hd : 4 ≤ d) (h : gI0 M b c) (hb : 0 ≤ b ∧ b ≤ 80000) (hcc : 0 ≤ c ∧ c ≤ 80000) (hx : 0 ≤ seed ∧ seed < 2147483648) (hmany : 1 ≤ many ∧ many ≤ 99) :
    ∃ M', gx_X l κ gx_sh z_mt zX8_run d [gR 1, gI seed, gI many] M (gx_eq (some (gI (gRunS (M 5) (M 6) (M 1 1).toNat many.toNat seed (gOf M)).1)) M') ∧ gI0 M' (b + 9 * many) (c + many) ∧ (∀ k, 51 ≤ k → M' k = M k) ∧ (M' 1 = M 1 ∧ M' 5 = M 5 ∧ M' 6 = M 6) ∧ gVw M' (gRunS (M 5) (M 6) (M 1 1).toNat many.toNat seed (gOf M)).2 := by
  have h0 := h
  obtain ⟨⟨⟨hP0, hV0⟩, hA, hT⟩, hMd, hH, hz1, hz2, hz3⟩ := h
  obtain ⟨M1, n1, n2⟩ := X_note (l := l) (κ := κ) (d := 1) (M := M) hH.1 (by omega)
  have e1 : ∀ k, k < 9 → M1 k = M k := fun k hk => n2 k (Or.inl hk)
  have hI1 := gI0_kept h0 (M' := M1) (fun k hk => e1 k (by omega)) (by rw [e1 7 (by decide)]; exact hH)
  have hS1 : gVw M1 (gOf M) := by
    have := gOf_Vw M
    unfold gVw at *
    rw [e1 2 (by decide), e1 3 (by decide), e1 4 (by decide)]
    exact this
  obtain ⟨M2, a1, a2, a3, a4, a5⟩ := X_makeBySeed (l := l) (κ := κ) (d := 3) (M := M1) (seed := seed) (many := many) (b := b) (c := c) (by omega) ⟨hb.1, by omega⟩ ⟨hcc.1, by omega⟩ hI1.1 hS1 hI1.2.1 hx hmany
  rw [e1 5 (by decide), e1 6 (by decide), e1 1 (by decide)] at a1 a3
  have hr := gRunS_rng (M 5) (M 6) (M 1 1).toNat many.toNat seed (gOf M)
  obtain ⟨M3, s1, s2, s3, s4⟩ := X_settle (l := l) (κ := κ) (d := 0) (M := M2) (a := (gRunS (M 5) (M 6) (M 1 1).toNat many.toNat seed (gOf M)).1) ⟨by omega, by omega⟩ (by rw [a2 7 (by decide) (by decide) (by decide), e1 7 (by decide)]; exact hH)
  have f0 : ∀ k, k ≠ 2 → k ≠ 3 → k ≠ 4 → k < 7 → M3 k = M k := fun k k1 k2 k3 k4 => by rw [s2 k (by omega), a2 k k1 k2 k3, e1 k (by omega)]
  have hS3 : gVw M3 (gRunS (M 5) (M 6) (M 1 1).toNat many.toNat seed (gOf M)).2 := by
    unfold gVw at *
    rw [s2 2 (by decide), s2 3 (by decide), s2 4 (by decide)]
    exact a3
  refine ⟨M3, o_run_e n1 (by omega) a1 (by omega) s1 (by omega) ⟨rfl, rfl⟩, ?_, fun k hk => by rw [s2 k (by omega), a2 k (by omega) (by omega) (by omega), n2 k (Or.inr hk)], ⟨f0 1 (by decide) (by decide) (by decide) (by decide), f0 5 (by decide) (by decide) (by decide) (by decide), f0 6 (by decide) (by decide) (by decide) (by decide)⟩, hS3⟩
  refine gI0_Vw h0 f0 hS3 (gZs_Run hP0.1 hV0 hz3 _ _ _ (gZs_of h0)) a4 ⟨s2 2 (by decide), s2 3 (by decide)⟩ ?_ ⟨s3, s4⟩
  intro m m1 m2
  rw [s2 4 (by decide)]
  exact a5 m m1 m2
-- what it tells
theorem X_ofPlace0 {pl : Int} (hd : 1 ≤ d) (h : gI0 M b c) (hp : 0 ≤ pl ∧ pl < M 1 0) : gx_X l κ gx_sh z_mt zX8_ofPlace d [gR 1, gI pl, gI 0] M (gx_eq (some (gI (M 2 pl))) M) := by
  have hP := h.1.1.1
  have h2 := X_hasPlace (l := l) (κ := κ) (d := 0) (M := M) (pl := pl) ⟨by omega, by omega⟩ ⟨hP.1, by omega⟩
  rw [show gi (0 ≤ pl ∧ pl < M 1 0) = 1 from gi_pos hp] at h2
  exact o_ofPlace0_e_1 h2 (by omega) (by decide) ⟨by decide, by decide⟩ ⟨hp.1, by omega⟩ ⟨rfl, rfl⟩
theorem X_ofPlace3 {pl : Int} (hd : 1 ≤ d) (h : gI0 M b c) (hp : 0 ≤ pl ∧ pl < M 1 0) : gx_X l κ gx_sh z_mt zX8_ofPlace d [gR 1, gI pl, gI 3] M (gx_eq (some (gI (M 3 pl))) M) := by
  have hP := h.1.1.1
  have h2 := X_hasPlace (l := l) (κ := κ) (d := 0) (M := M) (pl := pl) ⟨by omega, by omega⟩ ⟨hP.1, by omega⟩
  rw [show gi (0 ≤ pl ∧ pl < M 1 0) = 1 from gi_pos hp] at h2
  exact o_ofPlace3_e_1 h2 (by omega) (by decide) ⟨by decide, by decide⟩ ⟨hp.1, by omega⟩ ⟨rfl, rfl⟩
theorem X_ofMove1 {mv : Int} (hd : 1 ≤ d) (h : gI0 M b c) (hp : 0 ≤ mv ∧ mv < M 1 1) : gx_X l κ gx_sh z_mt zX8_ofMove d [gR 1, gI mv, gI 1] M (gx_eq (some (gI (M 4 mv))) M) := by
  have hP := h.1.1.2
  have h2 := X_hasMove (l := l) (κ := κ) (d := 0) (M := M) (mv := mv) ⟨by omega, by omega⟩ ⟨hP.1, by omega⟩
  rw [show gi (0 ≤ mv ∧ mv < M 1 1) = 1 from gi_pos hp] at h2
  exact o_ofMove1_e_1 h2 (by omega) (by decide) ⟨by decide, by decide⟩ ⟨hp.1, by omega⟩ ⟨rfl, rfl⟩
theorem X_ofMove0 {mv : Int} (hd : 2 ≤ d) (h : gI0 M b c) (hb : b ≤ 90000) (hp : 0 ≤ mv ∧ mv < M 1 1) : gx_X l κ gx_sh z_mt zX8_ofMove d [gR 1, gI mv, gI 0] M (gx_eq (some (gI (gi (gCn (M 5) (M 2) mv)))) M) := by
  have hP := h.1.1.2
  have h2 := X_hasMove (l := l) (κ := κ) (d := 0) (M := M) (mv := mv) ⟨by omega, by omega⟩ ⟨hP.1, by omega⟩
  rw [show gi (0 ≤ mv ∧ mv < M 1 1) = 1 from gi_pos hp] at h2
  have h3 := X_canMake (l := l) (κ := κ) (d := 1) (M := M) (mv := mv) (by omega) (by omega : b ≤ 99990) h.1 ⟨hp.1, by omega⟩
  rcases Classical.em (gCn (M 5) (M 2) mv) with e | e
  · rw [gi_pos e] at h3 ⊢
    exact o_ofMove0_e_10 h2 (by omega) (by decide) ⟨by decide, by decide⟩ h3 (by omega) (by decide) ⟨by decide, by decide⟩ ⟨rfl, rfl⟩
  · rw [gi_neg e] at h3 ⊢
    exact o_ofMove0_e_11 h2 (by omega) (by decide) ⟨by decide, by decide⟩ h3 (by omega) rfl ⟨by decide, by decide⟩ ⟨rfl, rfl⟩
theorem X_count0 : gx_X l κ gx_sh z_mt zX8_count d [gR 1, gI 0] M (gx_eq (some (gI (M 1 0))) M) := o_count0_e ⟨rfl, rfl⟩
theorem X_count1 : gx_X l κ gx_sh z_mt zX8_count d [gR 1, gI 1] M (gx_eq (some (gI (M 1 1))) M) := o_count1_e ⟨rfl, rfl⟩
theorem X_count2 (hd : 2 ≤ d) : gx_X l κ gx_sh z_mt zX8_count d [gR 1, gI 2] M (gx_eq (some (gI (gsm (M 2) 8))) M) := o_count2_e (X_allTokens (d := 1) (by omega)) (by omega) ⟨rfl, rfl⟩
theorem X_count3 (hd : 3 ≤ d) (h : gI0 M b c) (hb : b ≤ 90000) : gx_X l κ gx_sh z_mt zX8_count d [gR 1, gI 3] M (gx_eq (some (gI (gset (gCn (M 5) (M 2)) (M 1 1).toNat))) M) := o_count3_e (X_possible (d := 2) (b := b) (by omega) (by omega) h.1) (by omega) ⟨rfl, rfl⟩
theorem X_count4 (hd : 1 ≤ d) : gx_X l κ gx_sh z_mt zX8_count d [gR 1, gI 4] M (gx_eq (some (gI (gsm (M 4) 8))) M) := o_count4_e (X_allMade (d := 0)) (by omega) ⟨rfl, rfl⟩
end OBJ
