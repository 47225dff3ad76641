/-! the law's check of the smallest kept sums -/
def rv (c : Nat) : Nat := (c % 4) * 64 + (c / 4 % 4) * 16 + (c / 16 % 4) * 4 + c / 64 % 4
theorem rv_1 : ∀ c, c < 256 → rv c < 256 ∧ rv (rv c) = c := by decide +kernel
theorem rv_0 : ∀ c, c < 256 → (0 < c ↔ 0 < rv c) := by decide +kernel
theorem rv_2 : ∀ c, c < 256 → ∀ p, p < 8 → dgn (rv c) p = c / 4 ^ p % 4 := by decide +kernel
def zb (P t : Nat) : Bool := (Nat.ble P 0).not || dgn t 0 == 0
def zbs (P t : Nat) : Bool := (decide (0 < P) || dgn t 0 == 0) && ((decide (1 < P) || dgn t 1 == 0) && ((decide (2 < P) || dgn t 2 == 0) && (decide (3 < P) || dgn t 3 == 0)))
theorem zbs_of {P t : Nat} (h : ∀ p, p < 8 → P ≤ p → dgn t p = 0) : zbs P t = true := by
  have e : ∀ p, p < 4 → (decide (p < P) || dgn t p == 0) = true := fun p hp => by
    by_cases h1 : p < P
    · simp [h1]
    · simp [h p (by omega) (by omega)]
  unfold zbs
  rw [e 0 (by decide), e 1 (by decide), e 2 (by decide), e 3 (by decide)]
  rfl
theorem zbs_f : ∀ P, P < 5 → ∀ t, t < 256 → zbs P t = true → (t % 4 ^ (4 - P) = 0 ∧ rv t < 4 ^ P) := by decide +kernel
/-- the code of what is told, place by place -/
def pcd (P told : Nat) : Nat → Nat
  | 0 => 0
  | p + 1 => pcd P told p + (told / 4 ^ (P - 1 - p) % 4) * 4 ^ p
theorem pcd_lt (P told : Nat) : ∀ p, pcd P told p < 4 ^ p := by
  intro p
  induction p with
  | zero => exact Nat.one_pos
  | succ p ih =>
    have h1 : told / 4 ^ (P - 1 - p) % 4 < 4 := Nat.mod_lt _ (by decide)
    show pcd P told p + (told / 4 ^ (P - 1 - p) % 4) * 4 ^ p < 4 ^ (p + 1)
    rw [Nat.pow_succ]
    have h2 : (told / 4 ^ (P - 1 - p) % 4) * 4 ^ p ≤ 3 * 4 ^ p := Nat.mul_le_mul_right _ (by omega)
    omega
def pcdb (P told : Nat) : Bool := decide (4 ^ P ≤ told) || rv (pcd P told P) == told * 4 ^ (4 - P)
theorem pcdb_ok : ∀ P, P < 5 → ∀ told, told < 256 → pcdb P told = true := by decide +kernel
theorem pcd_ok {P told : Nat} (hP : P ≤ 4) (h : told < 4 ^ P) : rv (pcd P told P) = told * 4 ^ (4 - P) ∧ told < 256 ∧ pcd P told P < 256 := by
  have h4 : 4 ^ P ≤ 256 := Nat.pow_le_pow_right (n := 4) (by decide) hP
  have h1 := pcdb_ok P (by omega) told (by omega)
  have h2 := pcd_lt P told P
  unfold pcdb at h1
  rw [show decide (4 ^ P ≤ told) = false from decide_eq_false (by omega), Bool.false_or] at h1
  exact ⟨eq_of_beq h1, by omega, by omega⟩
def orb (p x e : Nat) : Bool := decide (4 ^ p ≤ x) || (x ||| e * 4 ^ p) == x + e * 4 ^ p
theorem orb_ok : ∀ p, p < 4 → ∀ x, x < 64 → ∀ e, e < 4 → orb p x e = true := by decide +kernel
theorem pow_24 (p : Nat) : 2 ^ (2 * p) = 4 ^ p := by rw [Nat.pow_mul]
theorem dig_ok {c p : Nat} (hc : c < 65536) (hp : p < 8) : gx_and (gx_shr (c : Int) (2 * (p : Int))) 3 = ((c / 4 ^ p % 4 : Nat) : Int) := by
  rw [show (2 * (p : Int)) = ((2 * p : Nat) : Int) from by omega, gb_shr c (2 * p) (by omega) (by omega), pow_24]
  have h1 := gb_and (c / 4 ^ p) 3 (Nat.lt_of_le_of_lt (Nat.div_le_self _ _) (by omega))
  have h2 : (c / 4 ^ p) &&& 3 = c / 4 ^ p % 4 := Nat.and_two_pow_sub_one_eq_mod _ 2
  rw [h2] at h1
  exact h1
theorem pcd_or {P told p : Nat} (hp : p < 4) : gx_or ((pcd P told p : Nat) : Int) (gx_shl ((told / 4 ^ (P - 1 - p) % 4 : Nat) : Int) (2 * (p : Int))) = ((pcd P told (p + 1) : Nat) : Int) := by
  have h1 : told / 4 ^ (P - 1 - p) % 4 < 4 := Nat.mod_lt _ (by decide)
  have h2 := pcd_lt P told p
  have h3 : 4 ^ p ≤ 64 := Nat.pow_le_pow_right (n := 4) (by decide) (show p ≤ 3 by omega)
  have h4 : (told / 4 ^ (P - 1 - p) % 4) * 4 ^ p ≤ 3 * 64 := Nat.mul_le_mul (by omega) h3
  have h5 := orb_ok p hp (pcd P told p) (by omega) (told / 4 ^ (P - 1 - p) % 4) h1
  unfold orb at h5
  rw [show decide (4 ^ p ≤ pcd P told p) = false from decide_eq_false (by omega), Bool.false_or] at h5
  rw [show (2 * (p : Int)) = ((2 * p : Nat) : Int) from by omega, gb_shl _ (2 * p) (by omega) (by rw [pow_24]; omega), pow_24, gb_or _ _ (by omega) (by omega), eq_of_beq h5]
  rfl
-- how often a weight comes
noncomputable def gnv (t v : Nat) : Nat → Int
  | 0 => 0
  | p + 1 => gnv t v p + gi (dgn t p = v)
theorem gnv_rng (t v : Nat) : ∀ p : Nat, (0 ≤ gnv t v p ∧ gnv t v p ≤ (p : Int)) ∧ (gnv t v p = 0 ↔ ∀ q, q < p → dgn t q ≠ v) := by
  intro p
  induction p with
  | zero => exact ⟨⟨Int.le_refl 0, Int.le_refl 0⟩, fun _ q h => absurd h (Nat.not_lt_zero _), fun _ => rfl⟩
  | succ p ih =>
    have e : gnv t v (p + 1) = gnv t v p + gi (dgn t p = v) := rfl
    obtain ⟨⟨i1, i2⟩, i3⟩ := ih
    by_cases c : dgn t p = v
    · rw [gi_pos c] at e
      refine ⟨by omega, fun z => by omega, fun z => absurd c (z p (by omega))⟩
    · rw [gi_neg c] at e
      refine ⟨by omega, fun z q hq => ?_, fun z => ?_⟩
      · by_cases eq : q = p
        · rw [eq]; exact c
        · exact i3.mp (by omega) q (by omega)
      · have := i3.mpr (fun q hq => z q (by omega))
        omega
theorem gDv_2 {t P : Nat} (hz : ∀ p, p < 8 → P ≤ p → dgn t p = 0) (hP : P ≤ 4) : gDv t 2 ↔ gnv t 1 P = 0 ∧ gnv t 3 P = 0 := by
  rw [(gnv_rng t 1 P).2, (gnv_rng t 3 P).2]
  constructor
  · intro z
    exact ⟨fun q hq e => by have := z q (by omega); rw [e] at this; exact absurd this (by decide), fun q hq e => by have := z q (by omega); rw [e] at this; exact absurd this (by decide)⟩
  · rintro ⟨z1, z2⟩ p hp
    by_cases h : p < P
    · have a1 := z1 p h
      have a2 := z2 p h
      have a3 := dgn_lt t p
      rcases (by omega : dgn t p = 0 ∨ dgn t p = 2) with e | e <;> rw [e]
    · rw [hz p hp (by omega)]
theorem gDv_3 {t P : Nat} (hz : ∀ p, p < 8 → P ≤ p → dgn t p = 0) (hP : P ≤ 4) : gDv t 3 ↔ gnv t 1 P = 0 ∧ gnv t 2 P = 0 := by
  rw [(gnv_rng t 1 P).2, (gnv_rng t 2 P).2]
  constructor
  · intro z
    exact ⟨fun q hq e => by have := z q (by omega); rw [e] at this; exact absurd this (by decide), fun q hq e => by have := z q (by omega); rw [e] at this; exact absurd this (by decide)⟩
  · rintro ⟨z1, z2⟩ p hp
    by_cases h : p < P
    · have a1 := z1 p h
      have a2 := z2 p h
      have a3 := dgn_lt t p
      rcases (by omega : dgn t p = 0 ∨ dgn t p = 3) with e | e <;> rw [e]
    · rw [hz p hp (by omega)]
section LKEPT
variable {l : Launch} {κ : yK} {d : Nat}
/-- whether a code is a kept sum -/
theorem X_lkeeps {M : gx_M} {c : Nat} (hN : gLN M) (hc : c < 256) : gx_X l κ gx_sh z_mt zL_keeps d [gI (c : Int), gR 105, gR 106] M (gx_eq (some (gI (gi (Kp (fun i => M 6 i - M 5 i) (rv c))))) M) := by
  obtain ⟨h1, ⟨h2, h3⟩, h4, h5, h6⟩ := hN
  have hP := h1.1.1
  have hV := h1.1.2
  have cR : gx_R (c : Int) := ⟨by omega, by omega⟩
  have g9 : ∀ i, 0 ≤ i → i < 64 → -9 ≤ M 6 i - M 5 i ∧ M 6 i - M 5 i ≤ 9 := fun i i1 i2 => by have := h5 i i1 i2; omega
  have su : ∀ m : Nat, m < 8 → gSu (fun i => M 6 i - M 5 i) (rv c) (m : Int) = gsm (fun p => dgi (rv c) p * (M 6 ((m : Int) * 8 + p) - M 5 ((m : Int) * 8 + p))) (M 104 0).toNat := by
    intro m hm
    have h9 := gsm_zero (f := fun p => dgi (rv c) p * (M 6 ((m : Int) * 8 + p) - M 5 ((m : Int) * 8 + p))) (M 104 0).toNat (8 - (M 104 0).toNat) (fun j j1 j2 => by
      show dgi (rv c) j * (M 6 ((m : Int) * 8 + j) - M 5 ((m : Int) * 8 + j)) = 0
      have := h6 ((m : Int) * 8 + j) (by omega) (by omega) (Or.inl (by omega))
      rw [this.1, this.2]
      exact Int.mul_zero _)
    rw [show (M 104 0).toNat + (8 - (M 104 0).toNat) = 8 from by omega] at h9
    exact h9
  have loop : ∀ (k m : Nat), m + k = (M 104 1).toNat → (∀ j : Nat, j < m → gSu (fun i => M 6 i - M 5 i) (rv c) (j : Int) = 0) →
      gx_G l κ gx_sh z_mt zL_keeps d (2, [gI (c : Int), gR 105, gR 106, gI (m : Int), gU, gU], [], M) (gx_eq (some (gI (gi (Kp (fun i => M 6 i - M 5 i) (rv c))))) M) := by
    intro k
    induction k with
    | zero =>
      intro m hm hz
      have hall : ∀ j : Int, 0 ≤ j → j < 8 → gSu (fun i => M 6 i - M 5 i) (rv c) j = 0 := by
        intro j j1 j2
        obtain ⟨q, rfl⟩ := gb_nat j1
        by_cases hq : q < m
        · exact hz q hq
        · have e : gSu (fun i => M 6 i - M 5 i) (rv c) (q : Int) = gsm (fun _ => 0) 8 := gsm_congr 8 (fun p p1 p2 => by
            show dgi (rv c) p * (M 6 ((q : Int) * 8 + p) - M 5 ((q : Int) * 8 + p)) = 0
            have := h6 ((q : Int) * 8 + p) (by omega) (by omega) (Or.inr (by omega))
            rw [this.1, this.2]
            exact Int.mul_zero _)
          rw [e]
          rfl
      by_cases c0 : 0 < c
      · rw [gi_pos ⟨(rv_0 c hc).mp c0, hall⟩]
        exact keeps_2_10 (by omega) ⟨by omega, by omega⟩ ⟨by omega, by omega⟩ (by omega) cR ⟨rfl, rfl⟩
      · rw [gi_neg (fun z => c0 ((rv_0 c hc).mpr z.1))]
        exact keeps_2_11 (by omega) ⟨by omega, by omega⟩ ⟨by omega, by omega⟩ (by omega) cR ⟨rfl, rfl⟩
    | succ k ih =>
      intro m hm hz
      have hm4 : m < 4 := by omega
      have sR : ∀ p : Nat, p ≤ 4 → gx_R (gsm (fun p => dgi (rv c) p * (M 6 ((m : Int) * 8 + p) - M 5 ((m : Int) * 8 + p))) p) := fun p hp => by
        have := gsm_bd (f := fun p => dgi (rv c) p * (M 6 ((m : Int) * 8 + p) - M 5 ((m : Int) * 8 + p))) (B := 27) p (fun j j1 j2 => mul_27 (dgi_rng _ _) (g9 _ (by omega) (by omega)))
        exact ⟨by omega, by omega⟩
      have inner : ∀ (q p : Nat), p + q = (M 104 0).toNat → gx_G l κ gx_sh z_mt zL_keeps d (15, [gI (c : Int), gR 105, gR 106, gI (m : Int), gI (gsm (fun p => dgi (rv c) p * (M 6 ((m : Int) * 8 + p) - M 5 ((m : Int) * 8 + p))) p), gI (p : Int)], [], M) (gx_eq (some (gI (gi (Kp (fun i => M 6 i - M 5 i) (rv c))))) M) := by
        intro q
        induction q with
        | zero =>
          intro p hp
          have e := su m (by omega)
          rw [show (M 104 0).toNat = p from by omega] at e
          rw [← e]
          have sr := sR p (by omega)
          rw [← e] at sr
          by_cases cz : gSu (fun i => M 6 i - M 5 i) (rv c) (m : Int) = 0
          · exact keeps_15_11 (by omega) ⟨by omega, by omega⟩ ⟨by omega, by omega⟩ cz sr (ih (m + 1) (by omega) (fun j hj => by
              by_cases ej : j = m
              · rw [ej]; exact cz
              · exact hz j (by omega)))
          · rw [gi_neg (P := Kp (fun i => M 6 i - M 5 i) (rv c)) (fun z => cz (z.2 (m : Int) (by omega) (by omega)))]
            exact keeps_15_10 (by omega) ⟨by omega, by omega⟩ ⟨by omega, by omega⟩ cz sr ⟨rfl, rfl⟩
        | succ q ihq =>
          intro p hp
          have h7 := h4 (m : Int) (p : Int) (by omega) (by omega) (by omega) (by omega)
          have h8 := (h1.2 (4 * (m : Int) + (p : Int)) (by omega) (by omega)).1
          refine keeps_15_0 (by omega) ⟨by omega, by omega⟩ ⟨by omega, by omega⟩ ⟨by omega, by omega⟩ ⟨by omega, by omega⟩ ?_
          have e : gx_and (gx_shr (c : Int) (2 * (p : Int))) 3 * (M 105 (4 * (m : Int) + (p : Int)) % 16 - M 105 (4 * (m : Int) + (p : Int)) / 16) = dgi (rv c) (p : Int) * (M 6 ((m : Int) * 8 + (p : Int)) - M 5 ((m : Int) * 8 + (p : Int))) := by
            rw [dig_ok (by omega) (by omega), h7.1, h7.2, dgi_nat, rv_2 c hc p (by omega)]
          rw [e]
          exact ihq (p + 1) (by omega)
      exact keeps_2_0 (by omega) ⟨by omega, by omega⟩ ⟨by omega, by omega⟩ (inner (M 104 0).toNat 0 (by omega))
  exact keeps_e (loop (M 104 1).toNat 0 (by omega) (fun j h => absurd h (Nat.not_lt_zero _)))
/-- the places of a code -/
theorem X_lplaces {M : gx_M} {c : Nat} (hc : c < 256) : ∃ r, gx_X l κ gx_sh z_mt zL_places d [gI (c : Int)] M (gx_eq (some (gI r)) M) ∧ g16 r ∧ ∀ p : Nat, p < 4 → (gbt r p ↔ dgn (rv c) p ≠ 0) := by
  have loop : ∀ (k p : Nat) (s : Int), p + k = 4 → g16 s → (∀ q : Nat, q < 4 → (gbt s q ↔ q < p ∧ dgn (rv c) q ≠ 0)) → ∃ r, gx_G l κ gx_sh z_mt zL_places d (4, [gI (c : Int), gI s, gI (p : Int)], [], M) (gx_eq (some (gI r)) M) ∧ g16 r ∧ ∀ p : Nat, p < 4 → (gbt r p ↔ dgn (rv c) p ≠ 0) := by
    intro k
    induction k with
    | zero =>
      intro p s hp hs hb
      exact ⟨s, places_4_1 (by omega) ⟨by omega, by omega⟩ ⟨rfl, rfl⟩, hs, fun q hq => by rw [hb q hq]; exact ⟨fun z => z.2, fun z => ⟨by omega, z⟩⟩⟩
    | succ k ih =>
      intro p s hp hs hb
      have e := dig_ok (c := c) (p := p) (by omega) (by omega)
      have e2 := rv_2 c hc p (by omega)
      rw [← e2] at e
      have h4 := dgn_lt (rv c) p
      have dR : gx_R (gx_and (gx_shr (c : Int) (2 * (p : Int))) 3) := by rw [e]; exact ⟨by omega, by omega⟩
      by_cases cz : dgn (rv c) p = 0
      · have hn : gx_or s 0 = s := gb_or_0 ⟨hs.1, by have := hs.2; omega⟩
        obtain ⟨r, k1, k2⟩ := ih (p + 1) s (by omega) hs (fun q hq => by
          rw [hb q hq]
          constructor
          · rintro ⟨a, b⟩; exact ⟨by omega, b⟩
          · rintro ⟨a, b⟩
            by_cases eq : q = p
            · rw [eq] at b; exact absurd cz b
            · exact ⟨by omega, b⟩)
        refine ⟨r, places_4_01 (by omega) ⟨by omega, by omega⟩ (by rw [e]; omega) dR (places_27 ?_), k2⟩
        rw [hn]
        exact k1
      · obtain ⟨o1, o2⟩ := gb_orb hs (show p < 4 by omega)
        obtain ⟨r, k1, k2⟩ := ih (p + 1) (gx_or s (gx_shl 1 (p : Int))) (by omega) o1 (fun q hq => by
          rw [o2 q hq, hb q hq]
          constructor
          · rintro (⟨a, b⟩ | a)
            · exact ⟨by omega, b⟩
            · exact ⟨by omega, by rw [a]; exact cz⟩
          · rintro ⟨a, b⟩
            by_cases eq : q = p
            · exact Or.inr eq
            · exact Or.inl ⟨by omega, b⟩)
        exact ⟨r, places_4_00 (by omega) ⟨by omega, by omega⟩ (by rw [e]; omega) dR (places_27 k1), k2⟩
  obtain ⟨r, k1, k2⟩ := loop 4 0 0 (by omega) ⟨by decide, by decide⟩ (fun q hq => ⟨fun z => absurd z (gb_f0 q hq), fun z => by omega⟩)
  exact ⟨r, places_e k1, k2⟩
/-- a part of the places of t with a kept sum of its own -/
def gOt (g : Int → Int) (t o : Nat) : Prop := Kp g (rv o) ∧ Sub (rv o) t ∧ ¬ Sub t (rv o)
theorem X_l_kept {M : gx_M} {now b c : Int} (hd : 14 ≤ d) (h0 : gI0 M b c) (hb : b ≤ 90000) (hR : gLR M now) (hSC : gSC M) :
    ∃ M', gx_X l κ gx_sh z_mt zL_kept d [gR 1, gJ now, gR 105, gR 106] M (gx_eq (some (gI 1)) M') ∧ (∀ k, (k < 67 ∨ 79 ≤ k) → M' k = M k) ∧ gSC M' := by
  have hP := h0.1.1.1
  have hV := h0.1.1.2
  have hN := gLN_of hR h0
  have eP : M 104 0 = M 1 0 := hN.2.1.1
  obtain ⟨P, hPe⟩ := gb_nat hP.1
  have hP4 : P ≤ 4 := by omega
  have p4 : (4 : Nat) ^ P ≤ 256 := Nat.pow_le_pow_right (n := 4) (by decide) hP4
  have p44 : (4 : Nat) ^ P * 4 ^ (4 - P) = 256 := by rw [← Nat.pow_add, show P + (4 - P) = 4 from by omega]
  have q4 : 0 < (4 : Nat) ^ (4 - P) := Nat.pow_pos (by decide)
  have q4P : 0 < (4 : Nat) ^ P := Nat.pow_pos (by decide)
  -- the list
  obtain ⟨-, F, -, -, -, -, hF⟩ := X_sfind (l := l) (κ := κ) (d := 12) (by omega) h0 hSC
  have hFz : ∀ x ∈ F, x < 256 ∧ 0 < x ∧ (∀ p, p < 8 → P ≤ p → dgn x p = 0) ∧ x % 4 ^ (4 - P) = 0 := fun x hx => by
    obtain ⟨z1, z2⟩ := (hF.2 x).mp hx
    have z3 : ∀ p, p < 8 → P ≤ p → dgn x p = 0 := fun p p1 p2 => z2 p p1 (by omega)
    exact ⟨z1.1, z1.2.1.1, z3, (zbs_f P (by omega) x z1.1 (zbs_of z3)).1⟩
  have keep : ∀ M1 : gx_M, (∀ k, (k < 67 ∨ 79 ≤ k) → M1 k = M k) → gI0 M1 b c ∧ gLN M1 ∧ gFL (fun i => M1 6 i - M1 5 i) (M1 1 0) F ∧ M1 104 = M 104 ∧ (M1 5 = M 5 ∧ M1 6 = M 6 ∧ M1 1 = M 1 ∧ M1 2 = M 2) := fun M1 hf => by
    refine ⟨gI0_kept h0 (fun k hk => hf k (by omega)) (by rw [hf 7 (by omega)]; exact h0.2.2.1), ?_, by rw [hf 5 (by omega), hf 6 (by omega), hf 1 (by omega)]; exact hF, hf 104 (by omega), hf 5 (by omega), hf 6 (by omega), hf 1 (by omega), hf 2 (by omega)⟩
    unfold gLN gL gAr at *
    rw [hf 104 (by omega), hf 105 (by omega), hf 1 (by omega), hf 5 (by omega), hf 6 (by omega)]
    exact hN
  have sh : gx_shl 1 (2 * M 104 0) = ((4 ^ P : Nat) : Int) := by
    rw [eP, hPe, show (2 * (P : Int)) = ((2 * P : Nat) : Int) from by omega, gb_shl1 (by omega), pow_24]
  have shR : gx_R (gx_shl 1 (2 * M 104 0)) := by rw [sh]; exact ⟨by omega, by omega⟩
  have loop : ∀ (k told many : Nat) (M1 : gx_M), told + k = 4 ^ P → 1 ≤ told → (∀ k, (k < 67 ∨ 79 ≤ k) → M1 k = M k) → gSC M1 → many ≤ F.length → (∀ i x, F[i]? = some x → (i < many ↔ x < told * 4 ^ (4 - P))) →
      ∃ M', gx_G l κ gx_sh z_mt zL_kept d (6, [gR 1, gJ now, gU, gR 105, gR 106, gI (many : Int), gI (told : Int), gU, gU, gU, gU, gU, gU, gU], [], M1) (gx_eq (some (gI 1)) M') ∧ (∀ k, (k < 67 ∨ 79 ≤ k) → M' k = M k) ∧ gSC M' := by
    intro k
    induction k with
    | zero =>
      intro told many M1 hk ht hf hsc hm hsp
      have et : told = 4 ^ P := by omega
      subst et
      obtain ⟨h01, hN1, hF1, e104, -⟩ := keep M1 hf
      have em : many = F.length := by
        by_cases e : many = F.length
        · exact e
        · exfalso
          have hg : F[many]? = some F[many] := List.getElem?_eq_getElem (by omega)
          have h1 := (hFz F[many] (List.getElem_mem _)).1
          have := (hsp many F[many] hg).mpr (by rw [p44]; exact h1)
          omega
      subst em
      have h58 := good_58 hF.1 (fun x hx => ((hF.2 x).mp hx).1)
      obtain ⟨M2, a1, a2, a3⟩ := X_o_keptMany (l := l) (κ := κ) (d := 13) (by omega) h01 hsc hF1
      have hf2 : ∀ k, (k < 67 ∨ 79 ≤ k) → M2 k = M k := fun k hk => by rw [a2 k hk, hf k hk]
      obtain ⟨h02, -, hF2, -⟩ := keep M2 hf2
      obtain ⟨M3, b1, b2, b3⟩ := X_o_keptN (l := l) (κ := κ) (d := 13) (w := 0) (by omega) h02 a3 hF2
      exact ⟨M3, l_kept_6_100 (by rw [e104, sh]; omega) ⟨by omega, by omega⟩ (by rw [e104]; exact shR) a1 (by omega) rfl ⟨by omega, by omega⟩ ⟨by omega, by omega⟩ b1 (by omega) rfl ⟨by decide, by decide⟩ (l_kept_365 (Or.inr rfl) ⟨rfl, rfl⟩), fun k hk => by rw [b2 k hk, hf2 k hk], b3⟩
    | succ k ih =>
      intro told many M1 hk ht hf hsc hm hsp
      obtain ⟨h01, hN1, hF1, e104, e5, e6, e1, e2⟩ := keep M1 hf
      obtain ⟨c1, c2, c3⟩ := pcd_ok hP4 (show told < 4 ^ P by omega)
      have h58 := good_58 hF.1 (fun x hx => ((hF.2 x).mp hx).1)
      -- the number that is looked at
      generalize hcd : pcd P told P = cd at c1 c3
      generalize htt : told * 4 ^ (4 - P) = t at c1 hsp
      have ht256 : t < 256 := by rw [← c1]; exact (rv_1 cd c3).1
      have hcdP : cd < 4 ^ P := by rw [← hcd]; exact pcd_lt P told P
      have hzt : ∀ p, p < 8 → P ≤ p → dgn t p = 0 := fun p p1 p2 => by
        rw [← c1, rv_2 cd c3 p p1]
        have h1 : cd < 4 ^ p := Nat.lt_of_lt_of_le hcdP (Nat.pow_le_pow_right (n := 4) (by decide) p2)
        rw [Nat.div_eq_of_lt h1]
      have htm : t % 4 ^ (4 - P) = 0 := by rw [← htt]; exact Nat.mul_mod_left _ _
      have hnx : (told + 1) * 4 ^ (4 - P) = t + 4 ^ (4 - P) := by rw [Nat.add_mul, Nat.one_mul, htt]
      have big : ∀ x ∈ F, t < x → t + 4 ^ (4 - P) ≤ x := fun x hx hlt => by
        have h1 := (hFz x hx).2.2.2
        have h2 : (x - t) % 4 ^ (4 - P) = 0 := Nat.sub_mod_eq_zero_of_mod_eq (by rw [h1, htm])
        have h3 := Nat.div_add_mod (x - t) (4 ^ (4 - P))
        rw [h2] at h3
        have h4 : 0 < (x - t) / 4 ^ (4 - P) := by
          by_cases e : (x - t) / 4 ^ (4 - P) = 0
          · rw [e, Nat.mul_zero] at h3; omega
          · exact Nat.pos_of_ne_zero e
        have h5 : 4 ^ (4 - P) * 1 ≤ 4 ^ (4 - P) * ((x - t) / 4 ^ (4 - P)) := Nat.mul_le_mul_left _ h4
        omega
      have digs : ∀ p : Nat, p < 8 → gx_and (gx_shr (cd : Int) (2 * (p : Int))) 3 = ((dgn t p : Nat) : Int) := fun p hp => by
        rw [dig_ok (by omega) hp, ← c1, rv_2 cd c3 p hp]
      -- it is none of them: on
      have skip : ¬ t ∈ F → ∃ M', gx_G l κ gx_sh z_mt zL_kept d (334, [gR 1, gJ now, gU, gR 105, gR 106, gI (many : Int), gI (told : Int), gU, gU, gU, gU, gU, gU, gU], [], M1) (gx_eq (some (gI 1)) M') ∧ (∀ k, (k < 67 ∨ 79 ≤ k) → M' k = M k) ∧ gSC M' := by
        intro hno
        obtain ⟨M', k1, k2⟩ := ih (told + 1) many M1 (by omega) (by omega) hf hsc hm (fun i x hx => by
          have hxF := List.mem_of_getElem? hx
          rw [hnx, hsp i x hx]
          constructor
          · intro z; omega
          · intro z
            by_cases e : t < x
            · have := big x hxF e; omega
            · by_cases e2 : x = t
              · rw [e2] at hxF; exact absurd hxF hno
              · omega)
        exact ⟨M', l_kept_334 k1, k2⟩
      -- it is the next one
      have tell : t ∈ F → ∃ M', gx_G l κ gx_sh z_mt zL_kept d (259, [gR 1, gJ now, gU, gR 105, gR 106, gI (many : Int), gI (told : Int), gI (cd : Int), gU, gU, gU, gU, gI 0, gI 0], [], M1) (gx_eq (some (gI 1)) M') ∧ (∀ k, (k < 67 ∨ 79 ≤ k) → M' k = M k) ∧ gSC M' := by
        intro hin
        obtain ⟨i, hi⟩ := List.getElem?_of_mem hin
        have ei : i = many := by
          have h1 := hsp i t hi
          by_cases e : i = many
          · exact e
          · exfalso
            have hlt : many < i := by
              by_cases h : i < many
              · have := h1.mp h; omega
              · omega
            obtain ⟨hil, hie⟩ := List.getElem?_eq_some_iff.mp hi
            have hg : F[many]? = some F[many] := List.getElem?_eq_getElem (by omega)
            have h2 := List.pairwise_iff_getElem.mp hF.1 many i (by omega) hil hlt
            rw [hie] at h2
            have := (hsp many F[many] hg).mpr h2
            omega
        subst ei
        have hil := (List.getElem?_eq_some_iff.mp hi).1
        have dR : ∀ p : Nat, p < 8 → gx_R ((dgn t p : Nat) : Int) := fun p hp => by have := dgn_lt t p; exact ⟨by omega, by omega⟩
        have bnd : ∀ p : Nat, p ≤ 8 → gx_R (gsm (fun p => dgi t p * M 2 p) p) := fun p hp => by
          have := gsm_bd (f := fun p => dgi t p * M 2 p) (B := 270000) p (fun j j1 j2 => by
            have h1 := dgi_rng t j
            have h2 := (h0.1.2.2 j j1 (by omega)).1
            show -270000 ≤ dgi t j * M 2 j ∧ dgi t j * M 2 j ≤ 270000
            rcases (by omega : dgi t j = 0 ∨ dgi t j = 1 ∨ dgi t j = 2 ∨ dgi t j = 3) with e | e | e | e <;> rw [e] <;> omega)
          exact ⟨by omega, by omega⟩
        have tl : ∀ (q p : Nat) (M2 : gx_M), p + q = P → (∀ k, (k < 67 ∨ 79 ≤ k) → M2 k = M k) → gSC M2 → ∃ M', gx_G l κ gx_sh z_mt zL_kept d (259, [gR 1, gJ now, gU, gR 105, gR 106, gI (i : Int), gI (told : Int), gI (cd : Int), gU, gU, gU, gU, gI (gsm (fun p => dgi t p * M 2 p) p), gI (p : Int)], [], M2) (gx_eq (some (gI 1)) M') ∧ (∀ k, (k < 67 ∨ 79 ≤ k) → M' k = M k) ∧ gSC M' := by
          intro q
          induction q with
          | zero =>
            intro p M2 hp hf2 hsc2
            obtain ⟨h02, hN2, hF2, e104', -, -, -, e2'⟩ := keep M2 hf2
            obtain ⟨M3, a1, a2, a3⟩ := X_o_worth (l := l) (κ := κ) (d := 13) (by omega) h02 hsc2 hF2 hi
            rw [e2'] at a1
            have e : gsm (fun p => dgi t p * M 2 p) 8 = gsm (fun p => dgi t p * M 2 p) p := by
              have h9 := gsm_zero (f := fun p => dgi t p * M 2 p) p (8 - p) (fun j j1 j2 => by
                obtain ⟨r, rfl⟩ := gb_nat (show 0 ≤ j by omega)
                show dgi t (r : Int) * M 2 (r : Int) = 0
                rw [dgi_nat, hzt r (by omega) (by omega)]
                exact Int.zero_mul _)
              rw [show p + (8 - p) = 8 from by omega] at h9
              exact h9
            have hf3 : ∀ k, (k < 67 ∨ 79 ≤ k) → M3 k = M k := fun k hk => by rw [a2 k hk, hf2 k hk]
            obtain ⟨M', k1, k2⟩ := ih (told + 1) (i + 1) M3 (by omega) (by omega) hf3 a3 (by omega) (fun j x hx => by
              have hxF := List.mem_of_getElem? hx
              obtain ⟨hjl, hje⟩ := List.getElem?_eq_some_iff.mp hx
              obtain ⟨hil', hie⟩ := List.getElem?_eq_some_iff.mp hi
              rw [hnx]
              constructor
              · intro z
                by_cases ej : j = i
                · subst ej
                  rw [hi] at hx
                  cases hx
                  omega
                · have := (hsp j x hx).mp (by omega)
                  omega
              · intro z
                by_cases ej : j < i + 1
                · exact ej
                · exfalso
                  have h2 := List.pairwise_iff_getElem.mp hF.1 i j hil hjl (by omega)
                  rw [hie, hje] at h2
                  have := big x hxF h2
                  omega)
            have b8 := bnd 8 (by decide)
            refine ⟨M', l_kept_259_11 (by rw [e104']; omega) ⟨by omega, by omega⟩ (by rw [e104']; exact ⟨by omega, by omega⟩) a1 (by omega) e b8 (bnd p (by omega)) (l_kept_334 ?_), k2⟩
            rw [show ((i : Int) + 1) = ((i + 1 : Nat) : Int) from by omega]
            exact k1
          | succ q ihq =>
            intro p M2 hp hf2 hsc2
            obtain ⟨h02, hN2, hF2, e104', -, -, e1', e2'⟩ := keep M2 hf2
            obtain ⟨M3, a1, a2, a3⟩ := X_o_kept (l := l) (κ := κ) (d := 13) (p := p) (by omega) h02 hsc2 hF2 hi (by rw [e1']; omega)
            have hf3 : ∀ k, (k < 67 ∨ 79 ≤ k) → M3 k = M k := fun k hk => by rw [a2 k hk, hf2 k hk]
            have hat := X_at (l := l) (κ := κ) (d := 0) (M := M3) hR.2.1 (p := (p : Int)) ⟨by omega, by omega⟩
            rw [hR.2.2.2.2 (p : Int) (by omega) (by omega)] at hat
            obtain ⟨M', k1, k2⟩ := ihq (p + 1) M3 (by omega) hf3 a3
            have dp := digs p (by omega)
            rw [dgi_nat] at a1
            refine ⟨M', l_kept_259_01 (by rw [e104']; omega) ⟨by omega, by omega⟩ (by rw [e104']; exact ⟨by omega, by omega⟩) a1 (by omega) dp.symm (dR p (by omega)) (by rw [dp]; exact dR p (by omega)) hat (by omega) ?_, k2⟩
            rw [dp]
            have k1' : gx_G l κ gx_sh z_mt zL_kept d (259, [gR 1, gJ now, gU, gR 105, gR 106, gI (i : Int), gI (told : Int), gI (cd : Int), gU, gU, gU, gU, gI (gsm (fun p => dgi t p * M 2 p) p + dgi t (p : Int) * M 2 (p : Int)), gI ((p + 1 : Nat) : Int)], [], M3) (gx_eq (some (gI 1)) M') := k1
            rw [dgi_nat] at k1'
            exact k1'
        exact tl P 0 M1 (by omega) hf hsc
      -- whether it is one
      have hmem : t ∈ F ↔ Kp (fun i => M 6 i - M 5 i) t ∧ gMin (fun i => M 6 i - M 5 i) t ∧ ¬ gDv t 2 ∧ ¬ gDv t 3 := by
        rw [hF.2 t]
        constructor
        · rintro ⟨z1, -⟩; exact z1.2
        · intro z; exact ⟨⟨ht256, z⟩, fun p p1 p2 => hzt p p1 (by omega)⟩
      have rvo : ∀ o : Nat, o < 4 ^ P → o < 256 := fun o ho => by omega
      -- by trying all others
      have oth : (¬ gDv t 2 ∧ ¬ gDv t 3) → ∀ (q o : Nat) (fl : Int), o + q = 4 ^ P → fl = gi (Kp (fun i => M 6 i - M 5 i) t ∧ ∀ o', o' < o → 0 < o' → ¬ gOt (fun i => M 6 i - M 5 i) t o') → 1 ≤ o →
          ∃ M', gx_G l κ gx_sh z_mt zL_kept d (179, [gR 1, gJ now, gU, gR 105, gR 106, gI (many : Int), gI (told : Int), gI (cd : Int), gI fl, gU, gU, gU, gI (o : Int), gU], [], M1) (gx_eq (some (gI 1)) M') ∧ (∀ k, (k < 67 ∨ 79 ≤ k) → M' k = M k) ∧ gSC M' := by
        intro hdv
        have end_ : ∀ fl, fl = gi (t ∈ F) → ∃ M', gx_G l κ gx_sh z_mt zL_kept d (245, [gR 1, gJ now, gU, gR 105, gR 106, gI (many : Int), gI (told : Int), gI (cd : Int), gI fl, gU, gU, gU, gU, gU], [], M1) (gx_eq (some (gI 1)) M') ∧ (∀ k, (k < 67 ∨ 79 ≤ k) → M' k = M k) ∧ gSC M' := by
          intro fl hfl
          have fR : gx_R fl := by rw [hfl]; exact gi_R _
          by_cases hin : t ∈ F
          · rw [gi_pos hin] at hfl
            obtain ⟨M', k1, k2⟩ := tell hin
            exact ⟨M', l_kept_245_1 (by omega) fR k1, k2⟩
          · rw [gi_neg hin] at hfl
            obtain ⟨M', k1, k2⟩ := skip hin
            exact ⟨M', l_kept_245_0 hfl fR k1, k2⟩
        intro q
        induction q with
        | zero =>
          intro o fl hq hfl ho
          have eo : o = 4 ^ P := by omega
          subst eo
          obtain ⟨M', k1, k2⟩ := end_ fl (by
            rw [hfl]
            refine gi_congr ?_
            rw [hmem]
            constructor
            · rintro ⟨z1, z2⟩
              refine ⟨z1, fun t' h1 h2 h3 => ?_, hdv⟩
              by_cases hs : Sub t t'
              · exact hs
              · exfalso
                have hz' : ∀ p, p < 8 → P ≤ p → dgn t' p = 0 := fun p p1 p2 => h3 p p1 (hzt p p1 p2)
                have h4 := (zbs_f P (by omega) t' h1 (zbs_of hz')).2
                have h5 := rv_1 t' h1
                refine z2 (rv t') h4 ((rv_0 t' h1).mp h2.1) ?_
                unfold gOt
                rw [h5.2]
                exact ⟨h2, h3, hs⟩
            · rintro ⟨z1, z2, -⟩
              refine ⟨z1, fun o' h1 h2 h3 => ?_⟩
              exact h3.2.2 (z2 (rv o') (rv_1 o' (by omega)).1 h3.1 h3.2.1))
          have fR : gx_R (4 ^ P : Nat) := ⟨by omega, by omega⟩
          exact ⟨M', l_kept_179_1 (by rw [e104, sh]; omega) fR (by rw [e104]; exact shR) k1, k2⟩
        | succ q ihq =>
          intro o fl hq hfl ho
          have fR : gx_R fl := by rw [hfl]; exact gi_R _
          have g1 : (o : Int) < gx_shl 1 (2 * M1 104 0) := by rw [e104, sh]; omega
          have g2 : gx_R (o : Int) := ⟨by omega, by omega⟩
          have g3 : gx_R (gx_shl 1 (2 * M1 104 0)) := by rw [e104]; exact shR
          have ho256 : o < 256 := by omega
          by_cases f0 : fl = 0
          · obtain ⟨M', k1, k2⟩ := end_ 0 (by
              refine (gi_neg (fun z => ?_)).symm
              obtain ⟨z1, z2, -⟩ := hmem.mp z
              rw [f0] at hfl
              exact gi_0 hfl.symm ⟨z1, fun o' h1 h2 h3 => h3.2.2 (z2 (rv o') (rv_1 o' (by omega)).1 h3.1 h3.2.1)⟩)
            rw [f0]
            exact ⟨M', l_kept_179_01 g1 g2 g3 rfl ⟨by decide, by decide⟩ k1, k2⟩
          · have hfl1 : Kp (fun i => M 6 i - M 5 i) t ∧ ∀ o', o' < o → 0 < o' → ¬ gOt (fun i => M 6 i - M 5 i) t o' := by
              rcases gi_rng (Kp (fun i => M 6 i - M 5 i) t ∧ ∀ o', o' < o → 0 < o' → ¬ gOt (fun i => M 6 i - M 5 i) t o') with e | e
              · rw [e] at hfl; exact absurd hfl f0
              · exact gi_1 e
            have nxt : ∀ f, f = gi (¬ gOt (fun i => M 6 i - M 5 i) t o) → ∃ M', gx_G l κ gx_sh z_mt zL_kept d (239, [gR 1, gJ now, gU, gR 105, gR 106, gI (many : Int), gI (told : Int), gI (cd : Int), gI f, gU, gU, gU, gI (o : Int), gU], [], M1) (gx_eq (some (gI 1)) M') ∧ (∀ k, (k < 67 ∨ 79 ≤ k) → M' k = M k) ∧ gSC M' := by
              intro f hf'
              obtain ⟨M', k1, k2⟩ := ihq (o + 1) f (by omega) (by
                rw [hf']
                refine gi_congr ⟨fun z => ⟨hfl1.1, fun o' h1 h2 => ?_⟩, fun z => z.2 o (by omega) (by omega)⟩
                by_cases e : o' = o
                · rw [e]; exact z
                · exact hfl1.2 o' (by omega) h2) (by omega)
              exact ⟨M', l_kept_239 k1, k2⟩
            have hkp := X_lkeeps (l := l) (κ := κ) (d := 1) hN1 ho256
            rw [e5, e6] at hkp
            have fe : fl = gi (¬ False) := by rw [hfl, gi_pos hfl1, gi_pos (fun z => z)]
            by_cases ck : Kp (fun i => M 6 i - M 5 i) (rv o)
            · rw [gi_pos ck] at hkp
              obtain ⟨r1, a1, a2, a3⟩ := X_lplaces (l := l) (κ := κ) (d := 0) (M := M1) ho256
              obtain ⟨r2, b1, b2, b3⟩ := X_lplaces (l := l) (κ := κ) (d := 0) (M := M1) c3
              rw [c1] at b3
              obtain ⟨d1, d2⟩ := gb_dif a2 b2
              have dR : gx_R (gx_and r1 (gx_xor r2 (gx_lit 4294967295))) := ⟨by have := d1.1; omega, by have := d1.2; omega⟩
              have hz8 : ∀ x, x < 256 → ∀ p, p < 8 → ¬ p < 4 → dgn x p = 0 := fun x hx p hp h4 => dgn_hi x hx p hp (by omega)
              have hsub : gx_and r1 (gx_xor r2 (gx_lit 4294967295)) = 0 ↔ Sub (rv o) t := by
                constructor
                · intro z p hp hz
                  by_cases h4 : p < 4
                  · by_cases e : dgn (rv o) p = 0
                    · exact e
                    · exfalso
                      have := (d2 p h4).mpr ⟨(a3 p h4).mpr e, fun y => (b3 p h4).mp y hz⟩
                      rw [z] at this
                      exact gb_f0 p h4 this
                  · exact hz8 _ (rv_1 o ho256).1 p hp h4
                · intro z
                  refine gb_ext d1 ⟨by decide, by decide⟩ (fun p hp => ⟨fun y => ?_, fun y => absurd y (gb_f0 p hp)⟩)
                  obtain ⟨y1, y2⟩ := (d2 p hp).mp y
                  exfalso
                  refine (a3 p hp).mp y1 (z p (by omega) ?_)
                  by_cases e : dgn t p = 0
                  · exact e
                  · exact absurd ((b3 p hp).mpr e) y2
              by_cases cs : gx_and r1 (gx_xor r2 (gx_lit 4294967295)) = 0
              · have hss := hsub.mp cs
                have heq : r1 = r2 ↔ Sub t (rv o) := by
                  constructor
                  · intro z p hp hz
                    by_cases h4 : p < 4
                    · by_cases e : dgn t p = 0
                      · exact e
                      · have := (b3 p h4).mpr e
                        rw [← z] at this
                        exact absurd hz ((a3 p h4).mp this)
                    · exact hz8 _ ht256 p hp h4
                  · intro z
                    refine gb_ext a2 b2 (fun p hp => ?_)
                    rw [a3 p hp, b3 p hp]
                    exact ⟨fun y e => y (hss p (by omega) e), fun y e => y (z p (by omega) e)⟩
                have r1R : gx_R r1 := ⟨by have := a2.1; omega, by have := a2.2; omega⟩
                have r2R : gx_R r2 := ⟨by have := b2.1; omega, by have := b2.2; omega⟩
                by_cases ce : r1 = r2
                · obtain ⟨M', k1, k2⟩ := nxt fl (by rw [fe]; exact gi_congr ⟨fun _ z => z.2.2 (heq.mp ce), fun _ z => z⟩)
                  exact ⟨M', l_kept_179_00001 g1 g2 g3 f0 fR hkp (by omega) (by decide) ⟨by decide, by decide⟩ a1 (by omega) b1 (by omega) cs dR a1 (by omega) b1 (by omega) ce r1R r2R k1, k2⟩
                · obtain ⟨M', k1, k2⟩ := nxt 0 (gi_neg (fun z => z ⟨ck, hss, fun y => ce (heq.mpr y)⟩)).symm
                  exact ⟨M', l_kept_179_00000 g1 g2 g3 f0 fR hkp (by omega) (by decide) ⟨by decide, by decide⟩ a1 (by omega) b1 (by omega) cs dR a1 (by omega) b1 (by omega) ce r1R r2R k1, k2⟩
              · obtain ⟨M', k1, k2⟩ := nxt fl (by rw [fe]; exact gi_congr ⟨fun _ z => cs (hsub.mpr z.2.1), fun _ z => z⟩)
                exact ⟨M', l_kept_179_0001 g1 g2 g3 f0 fR hkp (by omega) (by decide) ⟨by decide, by decide⟩ a1 (by omega) b1 (by omega) cs dR k1, k2⟩
            · rw [gi_neg ck] at hkp
              obtain ⟨M', k1, k2⟩ := nxt fl (by rw [fe]; exact gi_congr ⟨fun _ z => ck z.1, fun _ z => z⟩)
              exact ⟨M', l_kept_179_001 g1 g2 g3 f0 fR hkp (by omega) rfl ⟨by decide, by decide⟩ k1, k2⟩
      -- how often each weight comes
      have cnt : ∀ (q p : Nat), p + q = P → ∃ M', gx_G l κ gx_sh z_mt zL_kept d (85, [gR 1, gJ now, gU, gR 105, gR 106, gI (many : Int), gI (told : Int), gI (cd : Int), gI (gi (Kp (fun i => M 6 i - M 5 i) t)), gI (gnv t 1 p), gI (gnv t 2 p), gI (gnv t 3 p), gI (p : Int), gU], [], M1) (gx_eq (some (gI 1)) M') ∧ (∀ k, (k < 67 ∨ 79 ≤ k) → M' k = M k) ∧ gSC M' := by
        intro q
        induction q with
        | zero =>
          intro p hp
          have ep : p = P := by omega
          subst ep
          have n1 := (gnv_rng t 1 p).1
          have n2 := (gnv_rng t 2 p).1
          have n3 := (gnv_rng t 3 p).1
          have v2 := gDv_2 hzt hP4
          have v3 := gDv_3 hzt hP4
          have g1 : M1 104 0 ≤ (p : Int) := by rw [e104]; omega
          have g2 : gx_R (p : Int) := ⟨by omega, by omega⟩
          have g3 : gx_R (M1 104 0) := by rw [e104]; exact ⟨by omega, by omega⟩
          have r1 : gx_R (gnv t 1 p) := ⟨by omega, by omega⟩
          have r2 : gx_R (gnv t 2 p) := ⟨by omega, by omega⟩
          have r3 : gx_R (gnv t 3 p) := ⟨by omega, by omega⟩
          have go : (¬ gDv t 2 ∧ ¬ gDv t 3) → ∃ M', gx_G l κ gx_sh z_mt zL_kept d (176, [gR 1, gJ now, gU, gR 105, gR 106, gI (many : Int), gI (told : Int), gI (cd : Int), gI (gi (Kp (fun i => M 6 i - M 5 i) t)), gU, gU, gU, gU, gU], [], M1) (gx_eq (some (gI 1)) M') ∧ (∀ k, (k < 67 ∨ 79 ≤ k) → M' k = M k) ∧ gSC M' := fun hdv => by
            have h1 : 1 ≤ 4 ^ p := Nat.pow_pos (by decide)
            obtain ⟨M', k1, k2⟩ := oth hdv (4 ^ p - 1) 1 (gi (Kp (fun i => M 6 i - M 5 i) t)) (by omega) (gi_congr ⟨fun z => ⟨z, fun o' h1 h2 => by omega⟩, fun z => z.1⟩) (Nat.le_refl 1)
            exact ⟨M', l_kept_176 k1, k2⟩
          by_cases z1 : gnv t 1 p = 0
          · by_cases z2 : gnv t 2 p = 0
            · obtain ⟨M', k1, k2⟩ := skip (fun z => (hmem.mp z).2.2.2 (v3.mpr ⟨z1, z2⟩))
              exact ⟨M', l_kept_85_101 g1 g2 g3 z1 r1 z2 r2 k1, k2⟩
            · by_cases z3 : gnv t 3 p = 0
              · obtain ⟨M', k1, k2⟩ := skip (fun z => (hmem.mp z).2.2.1 (v2.mpr ⟨z1, z3⟩))
                exact ⟨M', l_kept_85_1000 g1 g2 g3 z1 r1 z2 r2 z3 r3 k1, k2⟩
              · obtain ⟨M', k1, k2⟩ := go ⟨fun z => z3 (v2.mp z).2, fun z => z2 (v3.mp z).2⟩
                exact ⟨M', l_kept_85_1001 g1 g2 g3 z1 r1 z2 r2 z3 r3 k1, k2⟩
          · obtain ⟨M', k1, k2⟩ := go ⟨fun z => z1 (v2.mp z).1, fun z => z1 (v3.mp z).1⟩
            exact ⟨M', l_kept_85_11 g1 g2 g3 z1 r1 k1, k2⟩
        | succ q ihq =>
          intro p hp
          obtain ⟨M', k1, k2⟩ := ihq (p + 1) (by omega)
          have k1' : gx_G l κ gx_sh z_mt zL_kept d (85, [gR 1, gJ now, gU, gR 105, gR 106, gI (many : Int), gI (told : Int), gI (cd : Int), gI (gi (Kp (fun i => M 6 i - M 5 i) t)), gI (gnv t 1 p + gi (dgn t p = 1)), gI (gnv t 2 p + gi (dgn t p = 2)), gI (gnv t 3 p + gi (dgn t p = 3)), gI ((p : Int) + 1), gU], [], M1) (gx_eq (some (gI 1)) M') := k1
          have dp := digs p (by omega)
          have d4 := dgn_lt t p
          have g1 : (p : Int) < M1 104 0 := by rw [e104]; omega
          have g2 : gx_R (p : Int) := ⟨by omega, by omega⟩
          have g3 : gx_R (M1 104 0) := by rw [e104]; exact ⟨by omega, by omega⟩
          have dR : gx_R (gx_and (gx_shr (cd : Int) (2 * (p : Int))) 3) := by rw [dp]; exact ⟨by omega, by omega⟩
          refine ⟨M', ?_, k2⟩
          rcases (by omega : dgn t p = 0 ∨ dgn t p = 1 ∨ dgn t p = 2 ∨ dgn t p = 3) with e | e | e | e <;> rw [e] at dp k1'
          · rw [gi_neg (P := (0 : Nat) = 1) (by decide), gi_neg (P := (0 : Nat) = 2) (by decide), gi_neg (P := (0 : Nat) = 3) (by decide)] at k1'
            exact l_kept_85_01 g1 g2 g3 (by rw [dp]; decide) dR (l_kept_117_1 (by rw [dp]; decide) dR (l_kept_133_1 (by rw [dp]; decide) dR (l_kept_149 k1')))
          · rw [gi_pos (P := (1 : Nat) = 1) rfl, gi_neg (P := (1 : Nat) = 2) (by decide), gi_neg (P := (1 : Nat) = 3) (by decide)] at k1'
            exact l_kept_85_00 g1 g2 g3 (by rw [dp]; rfl) dR (l_kept_117_1 (by rw [dp]; decide) dR (l_kept_133_1 (by rw [dp]; decide) dR (l_kept_149 k1')))
          · rw [gi_neg (P := (2 : Nat) = 1) (by decide), gi_pos (P := (2 : Nat) = 2) rfl, gi_neg (P := (2 : Nat) = 3) (by decide)] at k1'
            exact l_kept_85_01 g1 g2 g3 (by rw [dp]; decide) dR (l_kept_117_0 (by rw [dp]; rfl) dR (l_kept_133_1 (by rw [dp]; decide) dR (l_kept_149 k1')))
          · rw [gi_neg (P := (3 : Nat) = 1) (by decide), gi_neg (P := (3 : Nat) = 2) (by decide), gi_pos (P := (3 : Nat) = 3) rfl] at k1'
            exact l_kept_85_01 g1 g2 g3 (by rw [dp]; decide) dR (l_kept_117_1 (by rw [dp]; decide) dR (l_kept_133_0 (by rw [dp]; rfl) dR (l_kept_149 k1')))
      -- the code
      have code : ∀ (q p : Nat), p + q = P → ∃ M', gx_G l κ gx_sh z_mt zL_kept d (24, [gR 1, gJ now, gU, gR 105, gR 106, gI (many : Int), gI (told : Int), gI ((pcd P told p : Nat) : Int), gI (p : Int), gU, gU, gU, gU, gU], [], M1) (gx_eq (some (gI 1)) M') ∧ (∀ k, (k < 67 ∨ 79 ≤ k) → M' k = M k) ∧ gSC M' := by
        intro q
        induction q with
        | zero =>
          intro p hp
          have ep : p = P := by omega
          subst ep
          obtain ⟨M', k1, k2⟩ := cnt p 0 (by omega)
          have hkp := X_lkeeps (l := l) (κ := κ) (d := 1) hN1 c3
          rw [e5, e6, c1] at hkp
          rw [hcd]
          exact ⟨M', l_kept_24_1 (by rw [e104]; omega) ⟨by omega, by omega⟩ (by rw [e104]; exact ⟨by omega, by omega⟩) hkp (by omega) k1, k2⟩
        | succ q ihq =>
          intro p hp
          obtain ⟨M', k1, k2⟩ := ihq (p + 1) (by omega)
          refine ⟨M', l_kept_24_0 (by rw [e104]; omega) ⟨by omega, by omega⟩ (by rw [e104]; exact ⟨by omega, by omega⟩) ?_, k2⟩
          have ed : gx_and (gx_shr (told : Int) (2 * (M1 104 0 - 1 - (p : Int)))) 3 = ((told / 4 ^ (P - 1 - p) % 4 : Nat) : Int) := by
            rw [e104, eP, hPe, show (P : Int) - 1 - (p : Int) = ((P - 1 - p : Nat) : Int) from by omega]
            exact dig_ok (by omega) (by omega)
          rw [ed, pcd_or (by omega)]
          exact k1
      obtain ⟨M', k1, k2⟩ := code P 0 (by omega)
      exact ⟨M', l_kept_6_0 (by rw [e104, sh]; omega) ⟨by omega, by omega⟩ (by rw [e104]; exact shR) k1, k2⟩
  have h1P : 1 ≤ 4 ^ P := Nat.pow_pos (by decide)
  obtain ⟨M', k1, k2⟩ := loop (4 ^ P - 1) 1 0 M (by omega) (Nat.le_refl 1) (fun _ _ => rfl) hSC (Nat.zero_le _) (fun i x hx => by
    obtain ⟨-, z2, -, z4⟩ := hFz x (List.mem_of_getElem? hx)
    refine ⟨fun z => absurd z (Nat.not_lt_zero _), fun z => ?_⟩
    exfalso
    rw [Nat.one_mul] at z
    rw [Nat.mod_eq_of_lt z] at z4
    omega)
  exact ⟨M', l_kept_e k1, k2⟩
end LKEPT
