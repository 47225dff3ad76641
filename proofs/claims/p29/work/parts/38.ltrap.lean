/-! the law's own net beside the class's; its traps -/
/-- the law's net is the class's -/
def gLR (M : gx_M) (now : Int) : Prop := gL M ∧ gM now ∧ (M 104 0 = M 1 0 ∧ M 104 1 = M 1 1) ∧ (∀ m p, 0 ≤ m → m < 4 → 0 ≤ p → p < 4 → M 105 (4 * m + p) = 16 * M 5 (m * 8 + p) + M 6 (m * 8 + p) ∧ M 5 (m * 8 + p) ≤ 3 ∧ M 6 (m * 8 + p) ≤ 3) ∧ ∀ p, 0 ≤ p → p < 4 → ga now p = M 2 p
theorem gLR_arc {M : gx_M} {now b c m p : Int} (h : gLR M now) (h0 : gI0 M b c) (hm : 0 ≤ m ∧ m < 4) (hp : 0 ≤ p ∧ p < 4) : M 105 (4 * m + p) / 16 = M 5 (m * 8 + p) ∧ M 105 (4 * m + p) % 16 = M 6 (m * 8 + p) := by
  have h1 := h.2.2.2.1 m p hm.1 hm.2 hp.1 hp.2
  have h2 := h0.1.2.1 (m * 8 + p) (by omega) (by omega)
  omega
theorem gset_14 (P : Int → Prop) : True := trivial
theorem gb_fn1 : ∀ a : Nat, a < 16 → ∀ s : Nat, s < 16 → 0 < a → g16 (gx_and ((a : Int) - 1) (s : Int)) ∧ gx_and ((a : Int) - 1) (s : Int) < (a : Int) := by decide +kernel
theorem gb_fn2 : ∀ a : Nat, a < 16 → ∀ s : Nat, s < 16 → 0 < a → ∀ p, p < 4 → gbt (gx_and ((a : Int) - 1) (s : Int)) p → gbt (s : Int) p := by decide +kernel
def gb_sb (t s : Nat) : Bool := decide (∀ p : Nat, p < 4 → gbt (t : Int) p → gbt (s : Int) p)
theorem gb_fn3 : ∀ a : Nat, a < 16 → ∀ s : Nat, s < 16 → ∀ t : Nat, t < 16 → (gb_sb a s && gb_sb t s) = true → t < a → (t : Int) ≤ gx_and ((a : Int) - 1) (s : Int) := by decide +kernel
theorem gb_nx {a s : Int} (ha : g16 a) (hs : g16 s) (h0 : 0 < a) (h : ∀ p, p < 4 → gbt a p → gbt s p) : (g16 (gx_and (a - 1) s) ∧ gx_and (a - 1) s < a) ∧ (∀ p, p < 4 → gbt (gx_and (a - 1) s) p → gbt s p) ∧ ∀ t, g16 t → (∀ p, p < 4 → gbt t p → gbt s p) → t < a → t ≤ gx_and (a - 1) s := by
  obtain ⟨a, rfl⟩ := gb_nat ha.1
  obtain ⟨s, rfl⟩ := gb_nat hs.1
  refine ⟨gb_fn1 a (by omega) s (by omega) (by omega), gb_fn2 a (by omega) s (by omega) (by omega), fun t t1 t2 t3 => ?_⟩
  obtain ⟨t, rfl⟩ := gb_nat t1.1
  exact gb_fn3 a (by omega) s (by omega) t (by omega) (Bool.and_eq_true_iff.mpr ⟨decide_eq_true h, decide_eq_true t2⟩) (by omega)
theorem gb_f0 : ∀ p, p < 4 → ¬ gbt 0 p := by decide +kernel
theorem gb_flt : ∀ a : Nat, a < 16 → ∀ n : Nat, n ≤ 4 → (a : Int) < 2 ^ n → ∀ p, p < 4 → gbt (a : Int) p → p < n := by decide +kernel
theorem gb_lt {a : Int} (ha : g16 a) {n : Nat} (hn : n ≤ 4) (h : a < 2 ^ n) : ∀ p, p < 4 → gbt a p → p < n := by
  obtain ⟨a, rfl⟩ := gb_nat ha.1
  exact gb_flt a (by omega) n hn h
section LTRAP
variable {l : Launch} {κ : yK} {d : Nat} {M : gx_M} {b c : Int} {Q : Option gx_V → gx_M → Prop}
theorem gb_fle : ∀ a : Nat, a < 16 → ∀ b : Nat, b < 16 → (∀ p, p < 4 → gbt (a : Int) p → gbt (b : Int) p) → a ≤ b := by decide +kernel
theorem gb_le {a b : Int} (ha : g16 a) (hb : g16 b) (h : ∀ p, p < 4 → gbt a p → gbt b p) : a ≤ b := by
  obtain ⟨a, rfl⟩ := gb_nat ha.1
  obtain ⟨b, rfl⟩ := gb_nat hb.1
  have := gb_fle a (by omega) b (by omega) h
  omega
/-- the law's check of the greatest trap -/
theorem L_trap0 {set now : Int} (hd : 3 ≤ d) (h0 : gI0 M b c) (hR : gLR M now) (hs : g16 set ∧ set < 2 ^ (M 1 0).toNat) (hb : b ≤ 90000) (kk : gx_G l κ gx_sh z_mt zL_traps d (3, [gR 1, gI set, gJ now, gU, gR 105, gR 106, gI (0 + 1), gU, gU, gU, gU, gU, gU, gU], [], M) Q) :
    gx_G l κ gx_sh z_mt zL_traps d (3, [gR 1, gI set, gJ now, gU, gR 105, gR 106, gI 0, gU, gU, gU, gU, gU, gU, gU], [], M) Q := by
  have hL := hR.1
  have hk := hR.2.1
  have hPV := hR.2.2.1
  have hP := h0.1.1.1
  have hV := h0.1.1.2
  obtain ⟨r, t1, t2, t3⟩ := X_trap0 (l := l) (κ := κ) (d := 2) (M := M) (ps := set) (by omega) h0 hs
  have sp : ∀ T : Int, g16 T → (∀ p, p < 4 → gbt T p → gbt set p) → ∀ p, p < 4 → gbt T p → p < (M 1 0).toNat := fun T hT hTs p p1 p2 => gb_lt hs.1 (by omega) hs.2 p p1 (hTs p p1 p2)
  -- the tokens of the best one
  have sums : ∀ (k p : Nat), p + k = (M 1 0).toNat → gx_G l κ gx_sh z_mt zL_traps d (201, [gR 1, gI set, gJ now, gU, gR 105, gR 106, gI 0, gI r, gI (gsm (fun p => r / 2 ^ p.toNat % 2 * M 2 p) p), gI (p : Int), gU, gU, gU, gU], [], M) Q := by
    intro k
    induction k with
    | zero =>
      intro p hp
      have e : gsm (fun p => r / 2 ^ p.toNat % 2 * M 2 p) 8 = gsm (fun p => r / 2 ^ p.toNat % 2 * M 2 p) p := by
        have h9 := gsm_zero (f := fun p => r / 2 ^ p.toNat % 2 * M 2 p) p (8 - p) (fun j j1 j2 => by
          have := (h0.2.2.2.1 j (by omega) (by omega)).1
          show r / 2 ^ j.toNat % 2 * M 2 j = 0
          rw [this, Int.mul_zero])
        rw [show p + (8 - p) = 8 from by omega] at h9
        exact h9
      rw [e] at t3
      have rR : gx_R r := ⟨by have := t2.1.1; omega, by have := t2.1.2; omega⟩
      have sR : ∀ q : Nat, q ≤ 4 → 0 ≤ gsm (fun p => r / 2 ^ p.toNat % 2 * M 2 p) q ∧ gsm (fun p => r / 2 ^ p.toNat % 2 * M 2 p) q ≤ 90000 * q := by
        intro q
        induction q with
        | zero => intro _; exact ⟨Int.le_refl 0, Int.le_refl 0⟩
        | succ q ih =>
          intro hq
          have h1 := ih (by omega)
          have h2 := (h0.1.2.2 (q : Int) (by omega) (by omega)).1
          show 0 ≤ gsm (fun p => r / 2 ^ p.toNat % 2 * M 2 p) q + r / 2 ^ ((q : Int)).toNat % 2 * M 2 (q : Int) ∧ gsm (fun p => r / 2 ^ p.toNat % 2 * M 2 p) q + r / 2 ^ ((q : Int)).toNat % 2 * M 2 (q : Int) ≤ 90000 * ((q + 1 : Nat) : Int)
          rcases (by omega : r / 2 ^ ((q : Int)).toNat % 2 = 0 ∨ r / 2 ^ ((q : Int)).toNat % 2 = 1) with e | e
          · rw [e, Int.zero_mul]; omega
          · rw [e, Int.one_mul]; omega
      have s9 := sR p (by omega)
      have s9 : gx_R (gsm (fun p => r / 2 ^ p.toNat % 2 * M 2 p) p) := ⟨by omega, by omega⟩
      exact l_traps_201_101 (by rw [hPV.1]; omega) ⟨by omega, by omega⟩ ⟨by rw [hPV.1]; omega, by rw [hPV.1]; omega⟩ t1 (by omega) rfl rR rR t3 (by omega) rfl s9 s9 kk
    | succ k ih =>
      intro p hp
      have hat := X_at (l := l) (κ := κ) (d := 0) (M := M) hk (p := (p : Int)) ⟨by omega, by omega⟩
      rw [hR.2.2.2.2 (p : Int) (by omega) (by omega)] at hat
      have hn := ih (p + 1) (by omega)
      have hbit := gb_bit (s := r) (p := (p : Int)) ⟨t2.1.1, by have := t2.1.2; omega⟩ ⟨by omega, by omega⟩
      refine l_traps_201_0 (by rw [hPV.1]; omega) ⟨by omega, by omega⟩ ⟨by rw [hPV.1]; omega, by rw [hPV.1]; omega⟩ hat (by omega) ?_
      rw [hbit]
      exact hn
  -- all the parts
  have parts : ∀ (k : Nat) (best part : Int), part ≤ k → g16 best → (∀ p, p < 4 → gbt best p → gbt set p) → gCl (gTk M 5) (gTk M 6) (M 1 1).toNat (gbt best) → g16 part → (∀ p, p < 4 → gbt part p → gbt set p) →
      (∀ t, g16 t → (∀ p, p < 4 → gbt t p → gbt set p) → part < t → gCl (gTk M 5) (gTk M 6) (M 1 1).toNat (gbt t) → gpc t ≤ gpc best) →
      gx_G l κ gx_sh z_mt zL_traps d (15, [gR 1, gI set, gJ now, gU, gR 105, gR 106, gI 0, gI best, gI part, gU, gU, gU, gU, gU], [], M) Q := by
    have fin : ∀ best : Int, g16 best → (∀ p, p < 4 → gbt best p → gbt set p) → gCl (gTk M 5) (gTk M 6) (M 1 1).toNat (gbt best) → (∀ t, g16 t → (∀ p, p < 4 → gbt t p → gbt set p) → 0 < t → gCl (gTk M 5) (gTk M 6) (M 1 1).toNat (gbt t) → gpc t ≤ gpc best) →
        gx_G l κ gx_sh z_mt zL_traps d (15, [gR 1, gI set, gJ now, gU, gR 105, gR 106, gI 0, gI best, gI 0, gU, gU, gU, gU, gU], [], M) Q := by
      intro best b1 b2 b3 b4
      have sub := t2.2.2.2 (gbt best) b2 b3
      have e : best = r := by
        refine Classical.byContradiction (fun hn => ?_)
        have h1 := gb_sub b1 t2.1 sub hn
        have h2 : 0 < r := by
          have := t2.1.1
          rcases (by omega : r = 0 ∨ 0 < r) with e | e
          · rw [e] at h1
            have := gpc_rng best
            have e2 : gpc 0 = 0 := by decide
            omega
          · exact e
        have := b4 r t2.1 t2.2.1 h2 t2.2.2.1
        omega
      rw [e]
      exact l_traps_15_1 (by omega) ⟨by decide, by decide⟩ (sums (M 1 0).toNat 0 (by omega))
    intro k
    induction k with
    | zero =>
      intro best part hk0 b1 b2 b3 p1 p2 b4
      have e : part = 0 := by have := p1.1; omega
      subst e
      exact fin best b1 b2 b3 b4
    | succ k ih =>
      intro best part hk0 b1 b2 b3 p1 p2 b4
      by_cases hz : part = 0
      · subst hz
        exact fin best b1 b2 b3 b4
      have hpos : 0 < part := by have := p1.1; omega
      obtain ⟨⟨n1, n2⟩, n3, n4⟩ := gb_nx p1 hs.1 hpos p2
      -- the next part, with the best so far
      have nextp : ∀ best', g16 best' → (∀ p, p < 4 → gbt best' p → gbt set p) → gCl (gTk M 5) (gTk M 6) (M 1 1).toNat (gbt best') → gpc best ≤ gpc best' → (gCl (gTk M 5) (gTk M 6) (M 1 1).toNat (gbt part) → gpc part ≤ gpc best') →
          gx_G l κ gx_sh z_mt zL_traps d (182, [gR 1, gI set, gJ now, gU, gR 105, gR 106, gI 0, gU, gI part, gU, gU, gU, gU, gU], [gI best'], M) Q := by
        intro best' c1 c2 c3 c4 c5
        refine l_traps_182 (ih best' (gx_and (part - 1) set) (by omega) c1 c2 c3 n1 n3 (fun t t1 t2 t3 t4 => ?_))
        by_cases ht : part < t
        · have := b4 t t1 t2 ht t4; omega
        · by_cases ht2 : t = part
          · rw [ht2]; rw [ht2] at t4; exact c5 t4
          · have := n4 t t1 t2 (by omega); omega
      -- takes and gives of a move at this part
      have cond : ∀ m : Nat, m < (M 1 1).toNat → ∀ (is_ : Int), (is_ = 0 ∨ is_ = 1) → ∀ (k p : Nat) (tk gv : Int), p + k = (M 1 0).toNat → (0 ≤ tk ∧ tk ≤ 100 * p) → (0 ≤ gv ∧ gv ≤ 100 * p) →
          (tk = 0 ↔ ∀ q, q < p → ¬ (gbt part q ∧ gTk M 5 m q)) → (gv = 0 ↔ ∀ q, q < p → ¬ (gbt part q ∧ gTk M 6 m q)) →
          (∀ v, v = gi (is_ = 1 ∧ ((∃ p, p < 4 ∧ gbt part p ∧ gTk M 5 m p) → ∃ p, p < 4 ∧ gbt part p ∧ gTk M 6 m p)) → gx_G l κ gx_sh z_mt zL_traps d (149, [gR 1, gI set, gJ now, gU, gR 105, gR 106, gI 0, gI best, gI part, gU, gI (m : Int), gU, gU, gU], [gI v], M) Q) →
          gx_G l κ gx_sh z_mt zL_traps d (44, [gR 1, gI set, gJ now, gU, gR 105, gR 106, gI 0, gI best, gI part, gI is_, gI (m : Int), gI tk, gI gv, gI (p : Int)], [], M) Q := by
        intro m hm is_ his k
        induction k with
        | zero =>
          intro p tk gv hp ht hg it ig kk2
          have iR : gx_R is_ := by rcases his with e | e <;> rw [e] <;> exact ⟨by decide, by decide⟩
          have tR : gx_R tk := ⟨by omega, by omega⟩
          have gR' : gx_R gv := ⟨by omega, by omega⟩
          have g1 : M 104 0 ≤ (p : Int) := by rw [hPV.1]; omega
          have g2 : gx_R (p : Int) := ⟨by omega, by omega⟩
          have g3 : gx_R (M 104 0) := ⟨by rw [hPV.1]; omega, by rw [hPV.1]; omega⟩
          have pP : ∀ q, q < 4 → gbt part q → q < p := fun q q1 q2 => by have := sp part p1 p2 q q1 q2; omega
          have hx : (∃ p, p < 4 ∧ gbt part p ∧ gTk M 5 m p) ↔ ¬ tk = 0 := by
            rw [it]
            constructor
            · rintro ⟨q, q1, q2, q3⟩ z
              exact z q (pP q q1 q2) ⟨q2, q3⟩
            · intro z
              refine Classical.byContradiction (fun y => z (fun q q1 q2 => y ⟨q, by omega, q2.1, q2.2⟩))
          have hy : (∃ p, p < 4 ∧ gbt part p ∧ gTk M 6 m p) ↔ ¬ gv = 0 := by
            rw [ig]
            constructor
            · rintro ⟨q, q1, q2, q3⟩ z
              exact z q (pP q q1 q2) ⟨q2, q3⟩
            · intro z
              refine Classical.byContradiction (fun y => z (fun q q1 q2 => y ⟨q, by omega, q2.1, q2.2⟩))
          rw [hx, hy] at kk2
          by_cases c0 : is_ = 0
          · exact l_traps_44_11 g1 g2 g3 c0 iR (l_traps_148 (kk2 0 (gi_neg (fun z => by rw [c0] at z; exact absurd z.1 (by decide))).symm))
          · have c1 : is_ = 1 := by rcases his with e | e; exact absurd e c0; exact e
            by_cases c2 : tk = 0
            · exact l_traps_44_1001 g1 g2 g3 c0 iR rfl ⟨by decide, by decide⟩ c2 tR (l_traps_144 (kk2 1 (gi_pos ⟨c1, fun z => absurd c2 z⟩).symm))
            · by_cases c3 : gv ≤ 0
              · exact l_traps_44_10001 g1 g2 g3 c0 iR rfl ⟨by decide, by decide⟩ c2 tR c3 gR' (l_traps_148 (kk2 0 (gi_neg (fun z => (z.2 c2) (by omega))).symm))
              · exact l_traps_44_10000 g1 g2 g3 c0 iR rfl ⟨by decide, by decide⟩ c2 tR (by omega) gR' (l_traps_144 (kk2 1 (gi_pos ⟨c1, fun _ => by omega⟩).symm))
        | succ k ih2 =>
          intro p tk gv hp ht hg it ig kk2
          have hpp : p < 4 := by omega
          have hm4 : m < 4 := by omega
          obtain ⟨a1, a2⟩ := gLR_arc hR h0 (m := (m : Int)) (p := (p : Int)) ⟨by omega, by omega⟩ ⟨by omega, by omega⟩
          have a3 := hR.2.2.2.1 (m : Int) (p : Int) (by omega) (by omega) (by omega) (by omega)
          have a4 := h0.1.2.1 ((m : Int) * 8 + (p : Int)) (by omega) (by omega)
          have a5 := hL.2 (4 * (m : Int) + (p : Int)) (by omega) (by omega)
          have hbit := gb_bit (s := part) (p := (p : Int)) ⟨p1.1, by have := p1.2; omega⟩ ⟨by omega, by omega⟩
          rw [Int.toNat_natCast] at hbit
          have hb01 : part / 2 ^ p % 2 = 0 ∨ part / 2 ^ p % 2 = 1 := by omega
          refine l_traps_44_0 (by rw [hPV.1]; omega) ⟨by omega, by omega⟩ ⟨by rw [hPV.1]; omega, by rw [hPV.1]; omega⟩ ⟨by omega, by omega⟩ ⟨a5.1.1, by omega⟩ ?_
          rw [hbit, a1, a2]
          have key : ∀ (cc : Nat) (x v : Int), (0 ≤ x) → (0 ≤ v) → v = M cc ((m : Int) * 8 + (p : Int)) → (x = 0 ↔ ∀ q, q < p → ¬ (gbt part q ∧ gTk M cc m q)) → (x + part / 2 ^ p % 2 * v = 0 ↔ ∀ q, q < p + 1 → ¬ (gbt part q ∧ gTk M cc m q)) := by
            intro cc x v hx0 hv hv2 hx
            have hgt : gTk M cc m p ↔ 0 < v := by rw [hv2]; exact Iff.rfl
            rcases hb01 with e | e
            · rw [e, Int.zero_mul, Int.add_zero, hx]
              constructor
              · intro z q hq
                by_cases hqp : q = p
                · rw [hqp]; exact fun y => by have := y.1; show False; have y1 : part / 2 ^ p % 2 = 1 := y.1; omega
                · exact z q (by omega)
              · intro z q hq
                exact z q (by omega)
            · rw [e, Int.one_mul]
              constructor
              · intro z q hq
                have z1 : x = 0 := by omega
                have z2 : v = 0 := by omega
                by_cases hqp : q = p
                · rw [hqp]; exact fun y => by have := hgt.mp y.2; omega
                · exact hx.mp z1 q (by omega)
              · intro z
                have z1 : x = 0 := hx.mpr (fun q hq => z q (by omega))
                have z2 : ¬ 0 < v := fun y => z p (by omega) ⟨e, hgt.mpr y⟩
                omega
          have bd : ∀ (x v : Int), (0 ≤ x ∧ x ≤ 100 * p) → (0 ≤ v ∧ v ≤ 9) → 0 ≤ x + part / 2 ^ p % 2 * v ∧ x + part / 2 ^ p % 2 * v ≤ 100 * ((p + 1 : Nat) : Int) := by
            intro x v hx hv
            rcases hb01 with e | e
            · rw [e, Int.zero_mul]; omega
            · rw [e, Int.one_mul]; omega
          exact ih2 (p + 1) _ _ (by omega) (bd tk _ ht a4.1) (bd gv _ hg a4.2) (key 5 tk _ ht.1 a4.1.1 rfl it) (key 6 gv _ hg.1 a4.2.1 rfl ig) kk2
      -- the moves
      have movs : ∀ (k m : Nat) (is_ : Int), m + k = (M 1 1).toNat → is_ = gi (∀ m', m' < m → (∃ p, p < 4 ∧ gbt part p ∧ gTk M 5 m' p) → ∃ p, p < 4 ∧ gbt part p ∧ gTk M 6 m' p) →
          gx_G l κ gx_sh z_mt zL_traps d (26, [gR 1, gI set, gJ now, gU, gR 105, gR 106, gI 0, gI best, gI part, gI is_, gI (m : Int), gU, gU, gU], [], M) Q := by
        intro k
        induction k with
        | zero =>
          intro m is_ hm hi
          have iR : gx_R is_ := by rw [hi]; exact gi_R _
          have g1 : M 104 1 ≤ (m : Int) := by rw [hPV.2]; omega
          have g2 : gx_R (m : Int) := ⟨by omega, by omega⟩
          have g3 : gx_R (M 104 1) := ⟨by rw [hPV.2]; omega, by rw [hPV.2]; omega⟩
          by_cases c0 : is_ = 0
          · refine l_traps_26_11 g1 g2 g3 c0 iR (l_traps_180 (nextp best b1 b2 b3 (Int.le_refl _) (fun z => ?_)))
            have nz := gi_0 (hi.symm.trans c0)
            exact absurd (fun m' hm' => z m' (by omega)) nz
          · have hcl : gCl (gTk M 5) (gTk M 6) (M 1 1).toNat (gbt part) := by
              have := gi_n0 (by rw [← hi]; exact c0)
              exact fun m' hm' => this m' (by omega)
            have x1 := X_bits (l := l) (κ := κ) (d := 0) (M := M) p1
            have x2 := X_bits (l := l) (κ := κ) (d := 0) (M := M) b1
            have r1 := gpc_rng part
            have r2 := gpc_rng best
            by_cases c1 : gpc best < gpc part
            · exact l_traps_26_100 g1 g2 g3 c0 iR x1 (by omega) x2 (by omega) c1 ⟨by omega, by omega⟩ ⟨by omega, by omega⟩ (nextp part p1 p2 hcl (by omega) (fun _ => Int.le_refl _))
            · exact l_traps_26_101 g1 g2 g3 c0 iR x1 (by omega) x2 (by omega) (by omega) ⟨by omega, by omega⟩ ⟨by omega, by omega⟩ (l_traps_180 (nextp best b1 b2 b3 (Int.le_refl _) (fun _ => by omega)))
        | succ k ih3 =>
          intro m is_ hm hi
          refine l_traps_26_0 (by rw [hPV.2]; omega) ⟨by omega, by omega⟩ ⟨by rw [hPV.2]; omega, by rw [hPV.2]; omega⟩ ?_
          refine cond m (by omega) is_ (by rw [hi]; exact gi_rng _) (M 1 0).toNat 0 0 0 (by omega) ⟨by omega, by omega⟩ ⟨by omega, by omega⟩ ⟨fun _ q hq => by omega, fun _ => rfl⟩ ⟨fun _ q hq => by omega, fun _ => rfl⟩ (fun v hv => l_traps_149 (ih3 (m + 1) v (by omega) ?_))
          rw [hv]
          refine gi_congr ⟨fun z m' hm' => ?_, fun z => ⟨?_, z m (by omega)⟩⟩
          · by_cases e : m' = m
            · rw [e]; exact z.2
            · exact gi_1 (hi.symm.trans z.1) m' (by omega)
          · rw [hi]
            exact gi_pos (fun m' hm' => z m' (by omega))
      exact l_traps_15_0 hpos ⟨by have := p1.1; omega, by have := p1.2; omega⟩ (movs (M 1 1).toNat 0 1 (by omega) (gi_pos (fun m' hm' => by omega)).symm)
  refine l_traps_3_0 (by decide) ⟨by decide, by decide⟩ (parts 16 0 set (by have := hs.1.2; omega) ⟨by decide, by decide⟩ (fun p p1 p2 => absurd p2 (gb_f0 p p1)) (fun m hm hx => by
    obtain ⟨p, p1, p2, -⟩ := hx
    exact absurd p2 (gb_f0 p p1)) hs.1 (fun p _ p2 => p2) (fun t t1 t2 t3 _ => ?_))
  -- no part is above the set itself
  exact absurd t3 (Int.not_lt.mpr (gb_le t1 hs.1 t2))
/-- the law's check of the greatest drain -/
theorem L_trap1 {set now : Int} (hd : 3 ≤ d) (h0 : gI0 M b c) (hR : gLR M now) (hs : g16 set ∧ set < 2 ^ (M 1 0).toNat) (hb : b ≤ 90000) (kk : gx_G l κ gx_sh z_mt zL_traps d (3, [gR 1, gI set, gJ now, gU, gR 105, gR 106, gI (1 + 1), gU, gU, gU, gU, gU, gU, gU], [], M) Q) :
    gx_G l κ gx_sh z_mt zL_traps d (3, [gR 1, gI set, gJ now, gU, gR 105, gR 106, gI 1, gU, gU, gU, gU, gU, gU, gU], [], M) Q := by
  have hL := hR.1
  have hk := hR.2.1
  have hPV := hR.2.2.1
  have hP := h0.1.1.1
  have hV := h0.1.1.2
  obtain ⟨r, t1, t2, t3⟩ := X_trap1 (l := l) (κ := κ) (d := 2) (M := M) (ps := set) (by omega) h0 hs
  have sp : ∀ T : Int, g16 T → (∀ p, p < 4 → gbt T p → gbt set p) → ∀ p, p < 4 → gbt T p → p < (M 1 0).toNat := fun T hT hTs p p1 p2 => gb_lt hs.1 (by omega) hs.2 p p1 (hTs p p1 p2)
  -- the tokens of the best one
  have sums : ∀ (k p : Nat), p + k = (M 1 0).toNat → gx_G l κ gx_sh z_mt zL_traps d (201, [gR 1, gI set, gJ now, gU, gR 105, gR 106, gI 1, gI r, gI (gsm (fun p => r / 2 ^ p.toNat % 2 * M 2 p) p), gI (p : Int), gU, gU, gU, gU], [], M) Q := by
    intro k
    induction k with
    | zero =>
      intro p hp
      have e : gsm (fun p => r / 2 ^ p.toNat % 2 * M 2 p) 8 = gsm (fun p => r / 2 ^ p.toNat % 2 * M 2 p) p := by
        have h9 := gsm_zero (f := fun p => r / 2 ^ p.toNat % 2 * M 2 p) p (8 - p) (fun j j1 j2 => by
          have := (h0.2.2.2.1 j (by omega) (by omega)).1
          show r / 2 ^ j.toNat % 2 * M 2 j = 0
          rw [this, Int.mul_zero])
        rw [show p + (8 - p) = 8 from by omega] at h9
        exact h9
      rw [e] at t3
      have rR : gx_R r := ⟨by have := t2.1.1; omega, by have := t2.1.2; omega⟩
      have sR : ∀ q : Nat, q ≤ 4 → 0 ≤ gsm (fun p => r / 2 ^ p.toNat % 2 * M 2 p) q ∧ gsm (fun p => r / 2 ^ p.toNat % 2 * M 2 p) q ≤ 90000 * q := by
        intro q
        induction q with
        | zero => intro _; exact ⟨Int.le_refl 0, Int.le_refl 0⟩
        | succ q ih =>
          intro hq
          have h1 := ih (by omega)
          have h2 := (h0.1.2.2 (q : Int) (by omega) (by omega)).1
          show 0 ≤ gsm (fun p => r / 2 ^ p.toNat % 2 * M 2 p) q + r / 2 ^ ((q : Int)).toNat % 2 * M 2 (q : Int) ∧ gsm (fun p => r / 2 ^ p.toNat % 2 * M 2 p) q + r / 2 ^ ((q : Int)).toNat % 2 * M 2 (q : Int) ≤ 90000 * ((q + 1 : Nat) : Int)
          rcases (by omega : r / 2 ^ ((q : Int)).toNat % 2 = 0 ∨ r / 2 ^ ((q : Int)).toNat % 2 = 1) with e | e
          · rw [e, Int.zero_mul]; omega
          · rw [e, Int.one_mul]; omega
      have s9 := sR p (by omega)
      have s9 : gx_R (gsm (fun p => r / 2 ^ p.toNat % 2 * M 2 p) p) := ⟨by omega, by omega⟩
      exact l_traps_201_101 (by rw [hPV.1]; omega) ⟨by omega, by omega⟩ ⟨by rw [hPV.1]; omega, by rw [hPV.1]; omega⟩ t1 (by omega) rfl rR rR t3 (by omega) rfl s9 s9 kk
    | succ k ih =>
      intro p hp
      have hat := X_at (l := l) (κ := κ) (d := 0) (M := M) hk (p := (p : Int)) ⟨by omega, by omega⟩
      rw [hR.2.2.2.2 (p : Int) (by omega) (by omega)] at hat
      have hn := ih (p + 1) (by omega)
      have hbit := gb_bit (s := r) (p := (p : Int)) ⟨t2.1.1, by have := t2.1.2; omega⟩ ⟨by omega, by omega⟩
      refine l_traps_201_0 (by rw [hPV.1]; omega) ⟨by omega, by omega⟩ ⟨by rw [hPV.1]; omega, by rw [hPV.1]; omega⟩ hat (by omega) ?_
      rw [hbit]
      exact hn
  -- all the parts
  have parts : ∀ (k : Nat) (best part : Int), part ≤ k → g16 best → (∀ p, p < 4 → gbt best p → gbt set p) → gCl (gTk M 6) (gTk M 5) (M 1 1).toNat (gbt best) → g16 part → (∀ p, p < 4 → gbt part p → gbt set p) →
      (∀ t, g16 t → (∀ p, p < 4 → gbt t p → gbt set p) → part < t → gCl (gTk M 6) (gTk M 5) (M 1 1).toNat (gbt t) → gpc t ≤ gpc best) →
      gx_G l κ gx_sh z_mt zL_traps d (15, [gR 1, gI set, gJ now, gU, gR 105, gR 106, gI 1, gI best, gI part, gU, gU, gU, gU, gU], [], M) Q := by
    have fin : ∀ best : Int, g16 best → (∀ p, p < 4 → gbt best p → gbt set p) → gCl (gTk M 6) (gTk M 5) (M 1 1).toNat (gbt best) → (∀ t, g16 t → (∀ p, p < 4 → gbt t p → gbt set p) → 0 < t → gCl (gTk M 6) (gTk M 5) (M 1 1).toNat (gbt t) → gpc t ≤ gpc best) →
        gx_G l κ gx_sh z_mt zL_traps d (15, [gR 1, gI set, gJ now, gU, gR 105, gR 106, gI 1, gI best, gI 0, gU, gU, gU, gU, gU], [], M) Q := by
      intro best b1 b2 b3 b4
      have sub := t2.2.2.2 (gbt best) b2 b3
      have e : best = r := by
        refine Classical.byContradiction (fun hn => ?_)
        have h1 := gb_sub b1 t2.1 sub hn
        have h2 : 0 < r := by
          have := t2.1.1
          rcases (by omega : r = 0 ∨ 0 < r) with e | e
          · rw [e] at h1
            have := gpc_rng best
            have e2 : gpc 0 = 0 := by decide
            omega
          · exact e
        have := b4 r t2.1 t2.2.1 h2 t2.2.2.1
        omega
      rw [e]
      exact l_traps_15_1 (by omega) ⟨by decide, by decide⟩ (sums (M 1 0).toNat 0 (by omega))
    intro k
    induction k with
    | zero =>
      intro best part hk0 b1 b2 b3 p1 p2 b4
      have e : part = 0 := by have := p1.1; omega
      subst e
      exact fin best b1 b2 b3 b4
    | succ k ih =>
      intro best part hk0 b1 b2 b3 p1 p2 b4
      by_cases hz : part = 0
      · subst hz
        exact fin best b1 b2 b3 b4
      have hpos : 0 < part := by have := p1.1; omega
      obtain ⟨⟨n1, n2⟩, n3, n4⟩ := gb_nx p1 hs.1 hpos p2
      -- the next part, with the best so far
      have nextp : ∀ best', g16 best' → (∀ p, p < 4 → gbt best' p → gbt set p) → gCl (gTk M 6) (gTk M 5) (M 1 1).toNat (gbt best') → gpc best ≤ gpc best' → (gCl (gTk M 6) (gTk M 5) (M 1 1).toNat (gbt part) → gpc part ≤ gpc best') →
          gx_G l κ gx_sh z_mt zL_traps d (182, [gR 1, gI set, gJ now, gU, gR 105, gR 106, gI 1, gU, gI part, gU, gU, gU, gU, gU], [gI best'], M) Q := by
        intro best' c1 c2 c3 c4 c5
        refine l_traps_182 (ih best' (gx_and (part - 1) set) (by omega) c1 c2 c3 n1 n3 (fun t t1 t2 t3 t4 => ?_))
        by_cases ht : part < t
        · have := b4 t t1 t2 ht t4; omega
        · by_cases ht2 : t = part
          · rw [ht2]; rw [ht2] at t4; exact c5 t4
          · have := n4 t t1 t2 (by omega); omega
      -- takes and gives of a move at this part
      have cond : ∀ m : Nat, m < (M 1 1).toNat → ∀ (is_ : Int), (is_ = 0 ∨ is_ = 1) → ∀ (k p : Nat) (tk gv : Int), p + k = (M 1 0).toNat → (0 ≤ tk ∧ tk ≤ 100 * p) → (0 ≤ gv ∧ gv ≤ 100 * p) →
          (tk = 0 ↔ ∀ q, q < p → ¬ (gbt part q ∧ gTk M 5 m q)) → (gv = 0 ↔ ∀ q, q < p → ¬ (gbt part q ∧ gTk M 6 m q)) →
          (∀ v, v = gi (is_ = 1 ∧ ((∃ p, p < 4 ∧ gbt part p ∧ gTk M 6 m p) → ∃ p, p < 4 ∧ gbt part p ∧ gTk M 5 m p)) → gx_G l κ gx_sh z_mt zL_traps d (149, [gR 1, gI set, gJ now, gU, gR 105, gR 106, gI 1, gI best, gI part, gU, gI (m : Int), gU, gU, gU], [gI v], M) Q) →
          gx_G l κ gx_sh z_mt zL_traps d (44, [gR 1, gI set, gJ now, gU, gR 105, gR 106, gI 1, gI best, gI part, gI is_, gI (m : Int), gI tk, gI gv, gI (p : Int)], [], M) Q := by
        intro m hm is_ his k
        induction k with
        | zero =>
          intro p tk gv hp ht hg it ig kk2
          have iR : gx_R is_ := by rcases his with e | e <;> rw [e] <;> exact ⟨by decide, by decide⟩
          have tR : gx_R tk := ⟨by omega, by omega⟩
          have gR' : gx_R gv := ⟨by omega, by omega⟩
          have g1 : M 104 0 ≤ (p : Int) := by rw [hPV.1]; omega
          have g2 : gx_R (p : Int) := ⟨by omega, by omega⟩
          have g3 : gx_R (M 104 0) := ⟨by rw [hPV.1]; omega, by rw [hPV.1]; omega⟩
          have pP : ∀ q, q < 4 → gbt part q → q < p := fun q q1 q2 => by have := sp part p1 p2 q q1 q2; omega
          have hx : (∃ p, p < 4 ∧ gbt part p ∧ gTk M 5 m p) ↔ ¬ tk = 0 := by
            rw [it]
            constructor
            · rintro ⟨q, q1, q2, q3⟩ z
              exact z q (pP q q1 q2) ⟨q2, q3⟩
            · intro z
              refine Classical.byContradiction (fun y => z (fun q q1 q2 => y ⟨q, by omega, q2.1, q2.2⟩))
          have hy : (∃ p, p < 4 ∧ gbt part p ∧ gTk M 6 m p) ↔ ¬ gv = 0 := by
            rw [ig]
            constructor
            · rintro ⟨q, q1, q2, q3⟩ z
              exact z q (pP q q1 q2) ⟨q2, q3⟩
            · intro z
              refine Classical.byContradiction (fun y => z (fun q q1 q2 => y ⟨q, by omega, q2.1, q2.2⟩))
          rw [hx, hy] at kk2
          by_cases c0 : is_ = 0
          · exact l_traps_44_11 g1 g2 g3 c0 iR (l_traps_148 (kk2 0 (gi_neg (fun z => by rw [c0] at z; exact absurd z.1 (by decide))).symm))
          · have c1 : is_ = 1 := by rcases his with e | e; exact absurd e c0; exact e
            by_cases c2 : gv = 0
            · exact l_traps_44_1011 g1 g2 g3 c0 iR (by decide) ⟨by decide, by decide⟩ c2 gR' (l_traps_144 (kk2 1 (gi_pos ⟨c1, fun z => absurd c2 z⟩).symm))
            · by_cases c3 : tk ≤ 0
              · exact l_traps_44_10101 g1 g2 g3 c0 iR (by decide) ⟨by decide, by decide⟩ c2 gR' c3 tR (l_traps_148 (kk2 0 (gi_neg (fun z => (z.2 c2) (by omega))).symm))
              · exact l_traps_44_10100 g1 g2 g3 c0 iR (by decide) ⟨by decide, by decide⟩ c2 gR' (by omega) tR (l_traps_144 (kk2 1 (gi_pos ⟨c1, fun _ => by omega⟩).symm))
        | succ k ih2 =>
          intro p tk gv hp ht hg it ig kk2
          have hpp : p < 4 := by omega
          have hm4 : m < 4 := by omega
          obtain ⟨a1, a2⟩ := gLR_arc hR h0 (m := (m : Int)) (p := (p : Int)) ⟨by omega, by omega⟩ ⟨by omega, by omega⟩
          have a3 := hR.2.2.2.1 (m : Int) (p : Int) (by omega) (by omega) (by omega) (by omega)
          have a4 := h0.1.2.1 ((m : Int) * 8 + (p : Int)) (by omega) (by omega)
          have a5 := hL.2 (4 * (m : Int) + (p : Int)) (by omega) (by omega)
          have hbit := gb_bit (s := part) (p := (p : Int)) ⟨p1.1, by have := p1.2; omega⟩ ⟨by omega, by omega⟩
          rw [Int.toNat_natCast] at hbit
          have hb01 : part / 2 ^ p % 2 = 0 ∨ part / 2 ^ p % 2 = 1 := by omega
          refine l_traps_44_0 (by rw [hPV.1]; omega) ⟨by omega, by omega⟩ ⟨by rw [hPV.1]; omega, by rw [hPV.1]; omega⟩ ⟨by omega, by omega⟩ ⟨a5.1.1, by omega⟩ ?_
          rw [hbit, a1, a2]
          have key : ∀ (cc : Nat) (x v : Int), (0 ≤ x) → (0 ≤ v) → v = M cc ((m : Int) * 8 + (p : Int)) → (x = 0 ↔ ∀ q, q < p → ¬ (gbt part q ∧ gTk M cc m q)) → (x + part / 2 ^ p % 2 * v = 0 ↔ ∀ q, q < p + 1 → ¬ (gbt part q ∧ gTk M cc m q)) := by
            intro cc x v hx0 hv hv2 hx
            have hgt : gTk M cc m p ↔ 0 < v := by rw [hv2]; exact Iff.rfl
            rcases hb01 with e | e
            · rw [e, Int.zero_mul, Int.add_zero, hx]
              constructor
              · intro z q hq
                by_cases hqp : q = p
                · rw [hqp]; exact fun y => by have := y.1; show False; have y1 : part / 2 ^ p % 2 = 1 := y.1; omega
                · exact z q (by omega)
              · intro z q hq
                exact z q (by omega)
            · rw [e, Int.one_mul]
              constructor
              · intro z q hq
                have z1 : x = 0 := by omega
                have z2 : v = 0 := by omega
                by_cases hqp : q = p
                · rw [hqp]; exact fun y => by have := hgt.mp y.2; omega
                · exact hx.mp z1 q (by omega)
              · intro z
                have z1 : x = 0 := hx.mpr (fun q hq => z q (by omega))
                have z2 : ¬ 0 < v := fun y => z p (by omega) ⟨e, hgt.mpr y⟩
                omega
          have bd : ∀ (x v : Int), (0 ≤ x ∧ x ≤ 100 * p) → (0 ≤ v ∧ v ≤ 9) → 0 ≤ x + part / 2 ^ p % 2 * v ∧ x + part / 2 ^ p % 2 * v ≤ 100 * ((p + 1 : Nat) : Int) := by
            intro x v hx hv
            rcases hb01 with e | e
            · rw [e, Int.zero_mul]; omega
            · rw [e, Int.one_mul]; omega
          exact ih2 (p + 1) _ _ (by omega) (bd tk _ ht a4.1) (bd gv _ hg a4.2) (key 5 tk _ ht.1 a4.1.1 rfl it) (key 6 gv _ hg.1 a4.2.1 rfl ig) kk2
      -- the moves
      have movs : ∀ (k m : Nat) (is_ : Int), m + k = (M 1 1).toNat → is_ = gi (∀ m', m' < m → (∃ p, p < 4 ∧ gbt part p ∧ gTk M 6 m' p) → ∃ p, p < 4 ∧ gbt part p ∧ gTk M 5 m' p) →
          gx_G l κ gx_sh z_mt zL_traps d (26, [gR 1, gI set, gJ now, gU, gR 105, gR 106, gI 1, gI best, gI part, gI is_, gI (m : Int), gU, gU, gU], [], M) Q := by
        intro k
        induction k with
        | zero =>
          intro m is_ hm hi
          have iR : gx_R is_ := by rw [hi]; exact gi_R _
          have g1 : M 104 1 ≤ (m : Int) := by rw [hPV.2]; omega
          have g2 : gx_R (m : Int) := ⟨by omega, by omega⟩
          have g3 : gx_R (M 104 1) := ⟨by rw [hPV.2]; omega, by rw [hPV.2]; omega⟩
          by_cases c0 : is_ = 0
          · refine l_traps_26_11 g1 g2 g3 c0 iR (l_traps_180 (nextp best b1 b2 b3 (Int.le_refl _) (fun z => ?_)))
            have nz := gi_0 (hi.symm.trans c0)
            exact absurd (fun m' hm' => z m' (by omega)) nz
          · have hcl : gCl (gTk M 6) (gTk M 5) (M 1 1).toNat (gbt part) := by
              have := gi_n0 (by rw [← hi]; exact c0)
              exact fun m' hm' => this m' (by omega)
            have x1 := X_bits (l := l) (κ := κ) (d := 0) (M := M) p1
            have x2 := X_bits (l := l) (κ := κ) (d := 0) (M := M) b1
            have r1 := gpc_rng part
            have r2 := gpc_rng best
            by_cases c1 : gpc best < gpc part
            · exact l_traps_26_100 g1 g2 g3 c0 iR x1 (by omega) x2 (by omega) c1 ⟨by omega, by omega⟩ ⟨by omega, by omega⟩ (nextp part p1 p2 hcl (by omega) (fun _ => Int.le_refl _))
            · exact l_traps_26_101 g1 g2 g3 c0 iR x1 (by omega) x2 (by omega) (by omega) ⟨by omega, by omega⟩ ⟨by omega, by omega⟩ (l_traps_180 (nextp best b1 b2 b3 (Int.le_refl _) (fun _ => by omega)))
        | succ k ih3 =>
          intro m is_ hm hi
          refine l_traps_26_0 (by rw [hPV.2]; omega) ⟨by omega, by omega⟩ ⟨by rw [hPV.2]; omega, by rw [hPV.2]; omega⟩ ?_
          refine cond m (by omega) is_ (by rw [hi]; exact gi_rng _) (M 1 0).toNat 0 0 0 (by omega) ⟨by omega, by omega⟩ ⟨by omega, by omega⟩ ⟨fun _ q hq => by omega, fun _ => rfl⟩ ⟨fun _ q hq => by omega, fun _ => rfl⟩ (fun v hv => l_traps_149 (ih3 (m + 1) v (by omega) ?_))
          rw [hv]
          refine gi_congr ⟨fun z m' hm' => ?_, fun z => ⟨?_, z m (by omega)⟩⟩
          · by_cases e : m' = m
            · rw [e]; exact z.2
            · exact gi_1 (hi.symm.trans z.1) m' (by omega)
          · rw [hi]
            exact gi_pos (fun m' hm' => z m' (by omega))
      exact l_traps_15_0 hpos ⟨by have := p1.1; omega, by have := p1.2; omega⟩ (movs (M 1 1).toNat 0 1 (by omega) (gi_pos (fun m' hm' => by omega)).symm)
  refine l_traps_3_0 (by decide) ⟨by decide, by decide⟩ (parts 16 0 set (by have := hs.1.2; omega) ⟨by decide, by decide⟩ (fun p p1 p2 => absurd p2 (gb_f0 p p1)) (fun m hm hx => by
    obtain ⟨p, p1, p2, -⟩ := hx
    exact absurd p2 (gb_f0 p p1)) hs.1 (fun p _ p2 => p2) (fun t t1 t2 t3 _ => ?_))
  -- no part is above the set itself
  exact absurd t3 (Int.not_lt.mpr (gb_le t1 hs.1 t2))
theorem X_l_traps {set now : Int} (hd : 3 ≤ d) (h0 : gI0 M b c) (hR : gLR M now) (hs : g16 set ∧ set < 2 ^ (M 1 0).toNat) (hb : b ≤ 90000) : gx_X l κ gx_sh z_mt zL_traps d [gR 1, gI set, gJ now, gR 105, gR 106] M (gx_eq (some (gI 1)) M) :=
  l_traps_e (L_trap0 hd h0 hR hs hb (L_trap1 hd h0 hR hs hb (l_traps_3_1 (by decide) ⟨by decide, by decide⟩ ⟨rfl, rfl⟩)))
end LTRAP
