/-! traps and drains: the greatest closed part of a set -/
abbrev gbt (s : Int) (p : Nat) : Prop := s / 2 ^ p % 2 = 1
theorem gb_fand : ∀ a : Nat, a < 16 → ∀ b : Nat, b < 16 → (gx_and (a : Int) (b : Int) = 0 ↔ ∀ p, p < 4 → ¬ (gbt (a : Int) p ∧ gbt (b : Int) p)) ∧ (0 ≤ gx_and (a : Int) (b : Int) ∧ gx_and (a : Int) (b : Int) < 16) := by decide +kernel
theorem gb_fdif : ∀ a : Nat, a < 16 → ∀ b : Nat, b < 16 → (0 ≤ gx_and (a : Int) (gx_xor (b : Int) (gx_lit 4294967295)) ∧ gx_and (a : Int) (gx_xor (b : Int) (gx_lit 4294967295)) < 16) ∧ ∀ p, p < 4 → (gbt (gx_and (a : Int) (gx_xor (b : Int) (gx_lit 4294967295))) p ↔ gbt (a : Int) p ∧ ¬ gbt (b : Int) p) := by decide +kernel
theorem gb_fsub : ∀ a : Nat, a < 16 → ∀ b : Nat, b < 16 → (∀ p, p < 4 → gbt (a : Int) p → gbt (b : Int) p) → a ≠ b → gpc (a : Int) + 1 ≤ gpc (b : Int) := by decide +kernel
theorem gb_fext : ∀ a : Nat, a < 16 → ∀ b : Nat, b < 16 → (∀ p, p < 4 → (gbt (a : Int) p ↔ gbt (b : Int) p)) → a = b := by decide +kernel
abbrev g16 (s : Int) : Prop := 0 ≤ s ∧ s < 16
theorem gb_dif {a b : Int} (ha : g16 a) (hb : g16 b) : g16 (gx_and a (gx_xor b (gx_lit 4294967295))) ∧ ∀ p, p < 4 → (gbt (gx_and a (gx_xor b (gx_lit 4294967295))) p ↔ gbt a p ∧ ¬ gbt b p) := by
  obtain ⟨a, rfl⟩ := gb_nat ha.1
  obtain ⟨b, rfl⟩ := gb_nat hb.1
  exact gb_fdif a (by omega) b (by omega)
theorem gb_and0 {a b : Int} (ha : g16 a) (hb : g16 b) : (gx_and a b = 0 ↔ ∀ p, p < 4 → ¬ (gbt a p ∧ gbt b p)) ∧ g16 (gx_and a b) := by
  obtain ⟨a, rfl⟩ := gb_nat ha.1
  obtain ⟨b, rfl⟩ := gb_nat hb.1
  exact gb_fand a (by omega) b (by omega)
theorem gb_sub {a b : Int} (ha : g16 a) (hb : g16 b) (h : ∀ p, p < 4 → gbt a p → gbt b p) (hn : ¬ a = b) : gpc a + 1 ≤ gpc b := by
  obtain ⟨a, rfl⟩ := gb_nat ha.1
  obtain ⟨b, rfl⟩ := gb_nat hb.1
  exact gb_fsub a (by omega) b (by omega) h (fun z => hn (by rw [z]))
theorem gb_ext {a b : Int} (ha : g16 a) (hb : g16 b) (h : ∀ p, p < 4 → (gbt a p ↔ gbt b p)) : a = b := by
  obtain ⟨a, rfl⟩ := gb_nat ha.1
  obtain ⟨b, rfl⟩ := gb_nat hb.1
  rw [gb_fext a (by omega) b (by omega) h]
/-- each move with a first arc at the set has an other arc at it -/
def gCl (F O : Nat → Nat → Prop) (V : Nat) (T : Nat → Prop) : Prop := ∀ m, m < V → (∃ p, p < 4 ∧ T p ∧ F m p) → ∃ p, p < 4 ∧ T p ∧ O m p
/-- r is the greatest closed part of the set -/
def gGr (F O : Nat → Nat → Prop) (V : Nat) (set r : Int) : Prop := g16 r ∧ (∀ p, p < 4 → gbt r p → gbt set p) ∧ gCl F O V (gbt r) ∧ ∀ T : Nat → Prop, (∀ p, p < 4 → T p → gbt set p) → gCl F O V T → ∀ p, p < 4 → T p → gbt r p
def gTk (M : gx_M) (c : Nat) (m p : Nat) : Prop := 0 < M c ((m : Int) * 8 + (p : Int))
theorem gset_84 {P : Int → Prop} (h : ∀ j : Int, 4 ≤ j → j < 8 → ¬ P j) : gset P 8 = gset P 4 := gset_zero 4 4 (fun j j1 j2 => h j (by omega) (by omega))
theorem gset_gbt (P : Int → Prop) {p : Nat} (hp : p < 4) : gbt (gset P 4) p ↔ P (p : Int) := by
  show gset P 4 / 2 ^ p % 2 = 1 ↔ _
  rw [gset_bit P 4 p hp]
  exact ⟨gi_1, gi_pos⟩
section TRAP
variable {l : Launch} {κ : yK} {d : Nat} {M : gx_M} {b c : Int}
theorem X_places4T (h : gI0 M b c) {m : Nat} (hm : m < 4) : gx_X l κ gx_sh z_mt zX3_placesOf d [gR 2, gR 6, gI (m : Int)] M (gx_eq (some (gI (gset (fun p => 0 < M 5 ((m : Int) * 8 + p)) 4))) M) := by
  have h1 := X_placesOfT (l := l) (κ := κ) (d := d) (M := M) (mv := (m : Int)) ⟨by omega, by omega⟩ h.1.2.1
  rw [gset_84 (fun j j1 j2 => by
    have hP := h.1.1
    have := (h.2.2.2.2.2 ((m : Int) * 8 + j) (by omega) (by omega) (Or.inl (by omega))).1
    omega)] at h1
  exact h1
theorem X_places4G (h : gI0 M b c) {m : Nat} (hm : m < 4) : gx_X l κ gx_sh z_mt zX3_placesOf d [gR 2, gR 7, gI (m : Int)] M (gx_eq (some (gI (gset (fun p => 0 < M 6 ((m : Int) * 8 + p)) 4))) M) := by
  have h1 := X_placesOfG (l := l) (κ := κ) (d := d) (M := M) (mv := (m : Int)) ⟨by omega, by omega⟩ h.1.2.1
  rw [gset_84 (fun j j1 j2 => by
    have hP := h.1.1
    have := (h.2.2.2.2.2 ((m : Int) * 8 + j) (by omega) (by omega) (Or.inl (by omega))).2
    omega)] at h1
  exact h1
theorem X_greatestT {set : Int} (hd : 1 ≤ d) (h : gI0 M b c) (hs : g16 set) : ∃ r, gx_X l κ gx_sh z_mt zX3_greatestClosed d [gR 2, gI set, gR 6, gR 7] M (gx_eq (some (gI r)) M) ∧ gGr (gTk M 5) (gTk M 6) (M 1 1).toNat set r := by
  have hV := h.1.1.2
  -- the moves of a round
  have inner : ∀ (k : Nat) (m : Nat) (part rd bf : Int), m + k = (M 1 1).toNat → g16 part → g16 bf → (0 ≤ rd ∧ rd ≤ 8) → (∀ p, p < 4 → gbt part p → gbt bf p) → (∀ p, p < 4 → gbt bf p → gbt set p) →
      (∀ T : Nat → Prop, (∀ p, p < 4 → T p → gbt set p) → gCl (gTk M 5) (gTk M 6) (M 1 1).toNat T → ∀ p, p < 4 → T p → gbt part p) →
      (part = bf → ∀ m', m' < m → (∃ p, p < 4 ∧ gbt part p ∧ gTk M 5 m' p) → ∃ p, p < 4 ∧ gbt part p ∧ gTk M 6 m' p) →
      (∀ part', g16 part' → (∀ p, p < 4 → gbt part' p → gbt bf p) → ¬ part' = bf → (∀ T : Nat → Prop, (∀ p, p < 4 → T p → gbt set p) → gCl (gTk M 5) (gTk M 6) (M 1 1).toNat T → ∀ p, p < 4 → T p → gbt part' p) → ∃ r, gx_G l κ gx_sh z_mt zX3_greatestClosed d (6, [gR 2, gU, gR 6, gR 7, gI part', gI (rd + 1), gU, gU], [], M) (gx_eq (some (gI r)) M) ∧ gGr (gTk M 5) (gTk M 6) (M 1 1).toNat set r) →
      ∃ r, gx_G l κ gx_sh z_mt zX3_greatestClosed d (20, [gR 2, gU, gR 6, gR 7, gI part, gI rd, gI bf, gI (m : Int)], [], M) (gx_eq (some (gI r)) M) ∧ gGr (gTk M 5) (gTk M 6) (M 1 1).toNat set r := by
    intro k
    induction k with
    | zero =>
      intro m part rd bf hm hp hb2 hrd h1 h2 h3 h4 kk
      by_cases e : part = bf
      · refine ⟨part, greatestT_20_10 (by omega) ⟨by omega, by omega⟩ ⟨by omega, by omega⟩ e ⟨by omega, by omega⟩ ⟨by omega, by omega⟩ ⟨rfl, rfl⟩, hp, fun p p1 p2 => h2 p p1 (h1 p p1 p2), fun m' hm' => h4 e m' (by omega), h3⟩
      · obtain ⟨r, r1, r2⟩ := kk part hp h1 e h3
        exact ⟨r, greatestT_20_11 (by omega) ⟨by omega, by omega⟩ ⟨by omega, by omega⟩ e ⟨by omega, by omega⟩ ⟨by omega, by omega⟩ r1, r2⟩
    | succ k ih =>
      intro m part rd bf hm hp hb2 hrd h1 h2 h3 h4 kk
      have hm4 : m < 4 := by omega
      have hO := X_places4G (l := l) (κ := κ) (d := 0) (M := M) h hm4
      have hF := X_places4T (l := l) (κ := κ) (d := 0) (M := M) h hm4
      have gO := gset_4 (fun p => 0 < M 6 ((m : Int) * 8 + p)) (k := 4) (by omega)
      have gF := gset_4 (fun p => 0 < M 5 ((m : Int) * 8 + p)) (k := 4) (by omega)
      have bO : ∀ p, p < 4 → (gbt (gset (fun p => 0 < M 6 ((m : Int) * 8 + p)) 4) p ↔ gTk M 6 m p) := fun p hp => gset_gbt _ hp
      have bF : ∀ p, p < 4 → (gbt (gset (fun p => 0 < M 5 ((m : Int) * 8 + p)) 4) p ↔ gTk M 5 m p) := fun p hp => gset_gbt _ hp
      obtain ⟨a1, a2⟩ := gb_and0 gO hp
      by_cases c0 : gx_and (gset (fun p => 0 < M 6 ((m : Int) * 8 + p)) 4) part = 0
      · obtain ⟨d1, d2⟩ := gb_dif hp gF
        have c1 := a1.mp c0
        have nO : ∀ p, p < 4 → gbt part p → ¬ gTk M 6 m p := fun p p1 p2 p3 => c1 p p1 ⟨(bO p p1).mpr p3, p2⟩
        obtain ⟨r, r1, r2⟩ := ih (m + 1) (gx_and part (gx_xor (gset (fun p => 0 < M 5 ((m : Int) * 8 + p)) 4) (gx_lit 4294967295))) rd bf (by omega) d1 hb2 hrd (fun p p1 p2 => h1 p p1 ((d2 p p1).mp p2).1) h2 (by
          intro T hT hC p p1 p2
          have hTp : ∀ q, q < 4 → T q → gbt part q := h3 T hT hC
          refine (d2 p p1).mpr ⟨hTp p p1 p2, fun z => ?_⟩
          obtain ⟨q, q1, q2, q3⟩ := hC m (by omega) ⟨p, p1, p2, (bF p p1).mp z⟩
          exact nO q q1 (hTp q q1 q2) q3) (by
          intro e m' hm' hex
          have epart : part = bf := by
            refine gb_ext hp hb2 (fun p p1 => ⟨h1 p p1, fun z => ?_⟩)
            rw [← e] at z
            exact ((d2 p p1).mp z).1
          have e3 : gx_and part (gx_xor (gset (fun p => 0 < M 5 ((m : Int) * 8 + p)) 4) (gx_lit 4294967295)) = part := e.trans epart.symm
          rw [e3] at hex ⊢
          by_cases hmm : m' = m
          · subst hmm
            obtain ⟨p, p1, p2, p3⟩ := hex
            have z := p2
            rw [← e3] at z
            exact absurd ((bF p p1).mpr p3) ((d2 p p1).mp z).2
          · exact h4 epart m' (by omega) hex) kk
        exact ⟨r, greatestT_20_00 (by omega) ⟨by omega, by omega⟩ ⟨by omega, by omega⟩ hO (by omega) c0 ⟨by omega, by omega⟩ hF (by omega) (greatestT_56 r1), r2⟩
      · obtain ⟨r, r1, r2⟩ := ih (m + 1) part rd bf (by omega) hp hb2 hrd h1 h2 h3 (by
          intro e m' hm' hex
          by_cases hmm : m' = m
          · subst hmm
            refine Classical.byContradiction (fun z => c0 (a1.mpr (fun p p1 p2 => z ⟨p, p1, p2.2, (bO p p1).mp p2.1⟩)))
          · exact h4 e m' (by omega) hex) kk
        exact ⟨r, greatestT_20_01 (by omega) ⟨by omega, by omega⟩ ⟨by omega, by omega⟩ hO (by omega) c0 ⟨by omega, by omega⟩ (greatestT_56 r1), r2⟩
  have outer : ∀ (k : Nat) (part rd : Int), gpc part ≤ k → g16 part → (0 ≤ rd ∧ rd + gpc part ≤ 4) → (∀ p, p < 4 → gbt part p → gbt set p) →
      (∀ T : Nat → Prop, (∀ p, p < 4 → T p → gbt set p) → gCl (gTk M 5) (gTk M 6) (M 1 1).toNat T → ∀ p, p < 4 → T p → gbt part p) →
      ∃ r, gx_G l κ gx_sh z_mt zX3_greatestClosed d (6, [gR 2, gU, gR 6, gR 7, gI part, gI rd, gU, gU], [], M) (gx_eq (some (gI r)) M) ∧ gGr (gTk M 5) (gTk M 6) (M 1 1).toNat set r := by
    intro k
    induction k with
    | zero =>
      intro part rd hk hp hrd h1 h3
      have hr := gpc_rng part
      obtain ⟨r, r1, r2⟩ := inner (M 1 1).toNat 0 part rd part (by omega) hp hp ⟨by omega, by omega⟩ (fun p p1 p2 => p2) h1 h3 (fun _ m' hm' => by omega) (fun part' q1 q2 q3 q4 => by
        have := gb_sub q1 hp q2 q3
        have := gpc_rng part'
        omega)
      exact ⟨r, greatestT_6_0 (by omega) ⟨by omega, by omega⟩ r1, r2⟩
    | succ k ih =>
      intro part rd hk hp hrd h1 h3
      have hr := gpc_rng part
      obtain ⟨r, r1, r2⟩ := inner (M 1 1).toNat 0 part rd part (by omega) hp hp ⟨by omega, by omega⟩ (fun p p1 p2 => p2) h1 h3 (fun _ m' hm' => by omega) (fun part' q1 q2 q3 q4 => by
        have := gb_sub q1 hp q2 q3
        exact ih part' (rd + 1) (by omega) q1 ⟨by omega, by omega⟩ (fun p p1 p2 => h1 p p1 (q2 p p1 p2)) q4)
      exact ⟨r, greatestT_6_0 (by omega) ⟨by omega, by omega⟩ r1, r2⟩
  have hr := gpc_rng set
  obtain ⟨r, r1, r2⟩ := outer 4 set 0 (by omega) hs ⟨by omega, by omega⟩ (fun p p1 p2 => p2) (fun T hT hC p p1 p2 => hT p p1 p2)
  exact ⟨r, greatestT_e r1, r2⟩
theorem X_greatestG {set : Int} (hd : 1 ≤ d) (h : gI0 M b c) (hs : g16 set) : ∃ r, gx_X l κ gx_sh z_mt zX3_greatestClosed d [gR 2, gI set, gR 7, gR 6] M (gx_eq (some (gI r)) M) ∧ gGr (gTk M 6) (gTk M 5) (M 1 1).toNat set r := by
  have hV := h.1.1.2
  -- the moves of a round
  have inner : ∀ (k : Nat) (m : Nat) (part rd bf : Int), m + k = (M 1 1).toNat → g16 part → g16 bf → (0 ≤ rd ∧ rd ≤ 8) → (∀ p, p < 4 → gbt part p → gbt bf p) → (∀ p, p < 4 → gbt bf p → gbt set p) →
      (∀ T : Nat → Prop, (∀ p, p < 4 → T p → gbt set p) → gCl (gTk M 6) (gTk M 5) (M 1 1).toNat T → ∀ p, p < 4 → T p → gbt part p) →
      (part = bf → ∀ m', m' < m → (∃ p, p < 4 ∧ gbt part p ∧ gTk M 6 m' p) → ∃ p, p < 4 ∧ gbt part p ∧ gTk M 5 m' p) →
      (∀ part', g16 part' → (∀ p, p < 4 → gbt part' p → gbt bf p) → ¬ part' = bf → (∀ T : Nat → Prop, (∀ p, p < 4 → T p → gbt set p) → gCl (gTk M 6) (gTk M 5) (M 1 1).toNat T → ∀ p, p < 4 → T p → gbt part' p) → ∃ r, gx_G l κ gx_sh z_mt zX3_greatestClosed d (6, [gR 2, gU, gR 7, gR 6, gI part', gI (rd + 1), gU, gU], [], M) (gx_eq (some (gI r)) M) ∧ gGr (gTk M 6) (gTk M 5) (M 1 1).toNat set r) →
      ∃ r, gx_G l κ gx_sh z_mt zX3_greatestClosed d (20, [gR 2, gU, gR 7, gR 6, gI part, gI rd, gI bf, gI (m : Int)], [], M) (gx_eq (some (gI r)) M) ∧ gGr (gTk M 6) (gTk M 5) (M 1 1).toNat set r := by
    intro k
    induction k with
    | zero =>
      intro m part rd bf hm hp hb2 hrd h1 h2 h3 h4 kk
      by_cases e : part = bf
      · refine ⟨part, greatestG_20_10 (by omega) ⟨by omega, by omega⟩ ⟨by omega, by omega⟩ e ⟨by omega, by omega⟩ ⟨by omega, by omega⟩ ⟨rfl, rfl⟩, hp, fun p p1 p2 => h2 p p1 (h1 p p1 p2), fun m' hm' => h4 e m' (by omega), h3⟩
      · obtain ⟨r, r1, r2⟩ := kk part hp h1 e h3
        exact ⟨r, greatestG_20_11 (by omega) ⟨by omega, by omega⟩ ⟨by omega, by omega⟩ e ⟨by omega, by omega⟩ ⟨by omega, by omega⟩ r1, r2⟩
    | succ k ih =>
      intro m part rd bf hm hp hb2 hrd h1 h2 h3 h4 kk
      have hm4 : m < 4 := by omega
      have hO := X_places4T (l := l) (κ := κ) (d := 0) (M := M) h hm4
      have hF := X_places4G (l := l) (κ := κ) (d := 0) (M := M) h hm4
      have gO := gset_4 (fun p => 0 < M 5 ((m : Int) * 8 + p)) (k := 4) (by omega)
      have gF := gset_4 (fun p => 0 < M 6 ((m : Int) * 8 + p)) (k := 4) (by omega)
      have bO : ∀ p, p < 4 → (gbt (gset (fun p => 0 < M 5 ((m : Int) * 8 + p)) 4) p ↔ gTk M 5 m p) := fun p hp => gset_gbt _ hp
      have bF : ∀ p, p < 4 → (gbt (gset (fun p => 0 < M 6 ((m : Int) * 8 + p)) 4) p ↔ gTk M 6 m p) := fun p hp => gset_gbt _ hp
      obtain ⟨a1, a2⟩ := gb_and0 gO hp
      by_cases c0 : gx_and (gset (fun p => 0 < M 5 ((m : Int) * 8 + p)) 4) part = 0
      · obtain ⟨d1, d2⟩ := gb_dif hp gF
        have c1 := a1.mp c0
        have nO : ∀ p, p < 4 → gbt part p → ¬ gTk M 5 m p := fun p p1 p2 p3 => c1 p p1 ⟨(bO p p1).mpr p3, p2⟩
        obtain ⟨r, r1, r2⟩ := ih (m + 1) (gx_and part (gx_xor (gset (fun p => 0 < M 6 ((m : Int) * 8 + p)) 4) (gx_lit 4294967295))) rd bf (by omega) d1 hb2 hrd (fun p p1 p2 => h1 p p1 ((d2 p p1).mp p2).1) h2 (by
          intro T hT hC p p1 p2
          have hTp : ∀ q, q < 4 → T q → gbt part q := h3 T hT hC
          refine (d2 p p1).mpr ⟨hTp p p1 p2, fun z => ?_⟩
          obtain ⟨q, q1, q2, q3⟩ := hC m (by omega) ⟨p, p1, p2, (bF p p1).mp z⟩
          exact nO q q1 (hTp q q1 q2) q3) (by
          intro e m' hm' hex
          have epart : part = bf := by
            refine gb_ext hp hb2 (fun p p1 => ⟨h1 p p1, fun z => ?_⟩)
            rw [← e] at z
            exact ((d2 p p1).mp z).1
          have e3 : gx_and part (gx_xor (gset (fun p => 0 < M 6 ((m : Int) * 8 + p)) 4) (gx_lit 4294967295)) = part := e.trans epart.symm
          rw [e3] at hex ⊢
          by_cases hmm : m' = m
          · subst hmm
            obtain ⟨p, p1, p2, p3⟩ := hex
            have z := p2
            rw [← e3] at z
            exact absurd ((bF p p1).mpr p3) ((d2 p p1).mp z).2
          · exact h4 epart m' (by omega) hex) kk
        exact ⟨r, greatestG_20_00 (by omega) ⟨by omega, by omega⟩ ⟨by omega, by omega⟩ hO (by omega) c0 ⟨by omega, by omega⟩ hF (by omega) (greatestG_56 r1), r2⟩
      · obtain ⟨r, r1, r2⟩ := ih (m + 1) part rd bf (by omega) hp hb2 hrd h1 h2 h3 (by
          intro e m' hm' hex
          by_cases hmm : m' = m
          · subst hmm
            refine Classical.byContradiction (fun z => c0 (a1.mpr (fun p p1 p2 => z ⟨p, p1, p2.2, (bO p p1).mp p2.1⟩)))
          · exact h4 e m' (by omega) hex) kk
        exact ⟨r, greatestG_20_01 (by omega) ⟨by omega, by omega⟩ ⟨by omega, by omega⟩ hO (by omega) c0 ⟨by omega, by omega⟩ (greatestG_56 r1), r2⟩
  have outer : ∀ (k : Nat) (part rd : Int), gpc part ≤ k → g16 part → (0 ≤ rd ∧ rd + gpc part ≤ 4) → (∀ p, p < 4 → gbt part p → gbt set p) →
      (∀ T : Nat → Prop, (∀ p, p < 4 → T p → gbt set p) → gCl (gTk M 6) (gTk M 5) (M 1 1).toNat T → ∀ p, p < 4 → T p → gbt part p) →
      ∃ r, gx_G l κ gx_sh z_mt zX3_greatestClosed d (6, [gR 2, gU, gR 7, gR 6, gI part, gI rd, gU, gU], [], M) (gx_eq (some (gI r)) M) ∧ gGr (gTk M 6) (gTk M 5) (M 1 1).toNat set r := by
    intro k
    induction k with
    | zero =>
      intro part rd hk hp hrd h1 h3
      have hr := gpc_rng part
      obtain ⟨r, r1, r2⟩ := inner (M 1 1).toNat 0 part rd part (by omega) hp hp ⟨by omega, by omega⟩ (fun p p1 p2 => p2) h1 h3 (fun _ m' hm' => by omega) (fun part' q1 q2 q3 q4 => by
        have := gb_sub q1 hp q2 q3
        have := gpc_rng part'
        omega)
      exact ⟨r, greatestG_6_0 (by omega) ⟨by omega, by omega⟩ r1, r2⟩
    | succ k ih =>
      intro part rd hk hp hrd h1 h3
      have hr := gpc_rng part
      obtain ⟨r, r1, r2⟩ := inner (M 1 1).toNat 0 part rd part (by omega) hp hp ⟨by omega, by omega⟩ (fun p p1 p2 => p2) h1 h3 (fun _ m' hm' => by omega) (fun part' q1 q2 q3 q4 => by
        have := gb_sub q1 hp q2 q3
        exact ih part' (rd + 1) (by omega) q1 ⟨by omega, by omega⟩ (fun p p1 p2 => h1 p p1 (q2 p p1 p2)) q4)
      exact ⟨r, greatestG_6_0 (by omega) ⟨by omega, by omega⟩ r1, r2⟩
  have hr := gpc_rng set
  obtain ⟨r, r1, r2⟩ := outer 4 set 0 (by omega) hs ⟨by omega, by omega⟩ (fun p p1 p2 => p2) (fun T hT hC p p1 p2 => hT p p1 p2)
  exact ⟨r, greatestG_e r1, r2⟩
theorem gx_shl_P (h : gI0 M b c) : gx_shl 1 (M 1 0) = 2 ^ (M 1 0).toNat ∧ gx_R (gx_shl 1 (M 1 0)) := by
  have hP := h.1.1.1
  have e : M 1 0 = (((M 1 0).toNat : Nat) : Int) := (Int.toNat_of_nonneg hP.1).symm
  have h2 := gb_shl1 (k := (M 1 0).toNat) (by omega)
  have h3 := gb_pow (k := (M 1 0).toNat) (by omega)
  rw [← e] at h2
  rw [h2]
  refine ⟨by rw [Int.natCast_pow]; rfl, ?_⟩
  generalize (2 : Nat) ^ (M 1 0).toNat = z at h3 ⊢
  exact ⟨by omega, by omega⟩
theorem X_trap0 {ps : Int} (hd : 2 ≤ d) (h : gI0 M b c) (hp : g16 ps ∧ ps < 2 ^ (M 1 0).toNat) : ∃ r, gx_X l κ gx_sh z_mt zX8_trap d [gR 1, gI ps, gI 0] M (gx_eq (some (gI r)) M) ∧ gGr (gTk M 5) (gTk M 6) (M 1 1).toNat ps r ∧ gx_X l κ gx_sh z_mt zX8_trap d [gR 1, gI ps, gI 2] M (gx_eq (some (gI (gsm (fun p => r / 2 ^ p.toNat % 2 * M 2 p) 8))) M) := by
  obtain ⟨e1, e2⟩ := gx_shl_P h
  obtain ⟨r, r1, r2⟩ := X_greatestT (l := l) (κ := κ) (d := 1) (set := ps) (by omega) h hp.1
  have ht := X_tokensIn (l := l) (κ := κ) (d := 0) (M := M) (set := r) ⟨r2.1.1, by have := r2.1.2; omega⟩
  exact ⟨r, o_trap0_e_01 hp.1.1 ⟨by omega, by omega⟩ (by rw [e1]; exact hp.2) e2 r1 (by omega) ⟨rfl, rfl⟩, r2, o_trap2_e_01 hp.1.1 ⟨by omega, by omega⟩ (by rw [e1]; exact hp.2) e2 r1 (by omega) ht (by omega) ⟨rfl, rfl⟩⟩
theorem X_trap1 {ps : Int} (hd : 2 ≤ d) (h : gI0 M b c) (hp : g16 ps ∧ ps < 2 ^ (M 1 0).toNat) : ∃ r, gx_X l κ gx_sh z_mt zX8_trap d [gR 1, gI ps, gI 1] M (gx_eq (some (gI r)) M) ∧ gGr (gTk M 6) (gTk M 5) (M 1 1).toNat ps r ∧ gx_X l κ gx_sh z_mt zX8_trap d [gR 1, gI ps, gI 3] M (gx_eq (some (gI (gsm (fun p => r / 2 ^ p.toNat % 2 * M 2 p) 8))) M) := by
  obtain ⟨e1, e2⟩ := gx_shl_P h
  obtain ⟨r, r1, r2⟩ := X_greatestG (l := l) (κ := κ) (d := 1) (set := ps) (by omega) h hp.1
  have ht := X_tokensIn (l := l) (κ := κ) (d := 0) (M := M) (set := r) ⟨r2.1.1, by have := r2.1.2; omega⟩
  exact ⟨r, o_trap1_e_01 hp.1.1 ⟨by omega, by omega⟩ (by rw [e1]; exact hp.2) e2 r1 (by omega) ⟨rfl, rfl⟩, r2, o_trap3_e_01 hp.1.1 ⟨by omega, by omega⟩ (by rw [e1]; exact hp.2) e2 r1 (by omega) ht (by omega) ⟨rfl, rfl⟩⟩
end TRAP
