/-! what is answered, as propositions -/
noncomputable def gi (P : Prop) : Int := @ite Int P (Classical.propDecidable P) 1 0
theorem gi_pos {P : Prop} (h : P) : gi P = 1 := @if_pos P (Classical.propDecidable P) h Int 1 0
theorem gi_neg {P : Prop} (h : ¬ P) : gi P = 0 := @if_neg P (Classical.propDecidable P) h Int 1 0
theorem gi_congr {P R : Prop} (h : P ↔ R) : gi P = gi R := by rw [propext h]
theorem gi_rng (P : Prop) : gi P = 0 ∨ gi P = 1 := by
  rcases Classical.em P with h | h
  · exact Or.inr (gi_pos h)
  · exact Or.inl (gi_neg h)
theorem gi_R (P : Prop) : gx_R (gi P) := by rcases gi_rng P with h | h <;> rw [h] <;> exact ⟨by decide, by decide⟩
theorem gi_1 {P : Prop} (h : gi P = 1) : P := by
  rcases Classical.em P with h2 | h2
  · exact h2
  · rw [gi_neg h2] at h; exact absurd h (by decide)
theorem gi_0 {P : Prop} (h : gi P = 0) : ¬ P := fun h2 => by rw [gi_pos h2] at h; exact absurd h (by decide)
theorem gi_n0 {P : Prop} (h : ¬ gi P = 0) : P := by
  rcases Classical.em P with h2 | h2
  · exact h2
  · exact absurd (gi_neg h2) h
theorem gi_n1 {P : Prop} (h : ¬ gi P = 1) : ¬ P := fun h2 => h (gi_pos h2)
/-- the set of those below k of which P holds, as bits -/
noncomputable def gset (P : Int → Prop) : Nat → Int
  | 0 => 0
  | k + 1 => gset P k + gi (P (k : Int)) * 2 ^ k
theorem gset_lt (P : Int → Prop) : ∀ k : Nat, 0 ≤ gset P k ∧ gset P k < 2 ^ k := by
  intro k
  induction k with
  | zero => exact ⟨Int.le_refl 0, (by decide : (0 : Int) < 2 ^ 0)⟩
  | succ k ih =>
    show 0 ≤ gset P k + gi (P (k : Int)) * 2 ^ k ∧ gset P k + gi (P (k : Int)) * 2 ^ k < 2 ^ (k + 1)
    have e : (2 : Int) ^ (k + 1) = 2 ^ k * 2 := Int.pow_succ 2 k
    rw [e]
    rcases gi_rng (P (k : Int)) with h | h <;> rw [h] <;> omega
theorem gset_congr {P R : Int → Prop} : ∀ (k : Nat), (∀ j : Int, 0 ≤ j → j < (k : Int) → (P j ↔ R j)) → gset P k = gset R k := by
  intro k
  induction k with
  | zero => intro _; rfl
  | succ k ih =>
    intro h
    show gset P k + gi (P (k : Int)) * 2 ^ k = gset R k + gi (R (k : Int)) * 2 ^ k
    rw [ih (fun j h1 h2 => h j h1 (by omega)), gi_congr (h (k : Int) (by omega) (by omega))]
theorem gb_pow {k : Nat} (h : k < 31) : (2 : Nat) ^ k < 2147483648 := Nat.pow_lt_pow_right (by decide) h
theorem gb_shl1 {k : Nat} (h : k < 31) : gx_shl 1 (k : Int) = ((2 ^ k : Nat) : Int) := by
  have h2 := gb_shl 1 k (by omega) (by rw [Nat.one_mul]; exact gb_pow h)
  rw [Nat.one_mul] at h2
  exact h2
theorem gb_or_add {a : Int} {k : Nat} (h : 0 ≤ a ∧ a < 2 ^ k) (hk : k < 31) : gx_or a (gx_shl 1 (k : Int)) = a + 2 ^ k := by
  obtain ⟨n, rfl⟩ := gb_nat h.1
  have hn : n < 2 ^ k := by
    have := h.2
    rw [show (2 : Int) ^ k = ((2 ^ k : Nat) : Int) from by rw [Int.natCast_pow]; rfl] at this
    omega
  have h3 := gb_pow hk
  rw [gb_shl1 hk, gb_or n (2 ^ k) (by omega) h3]
  have e : n ||| 2 ^ k = n + 2 ^ k := by
    have := Nat.two_pow_add_eq_or_of_lt hn 1
    rw [Nat.mul_one] at this
    rw [Nat.or_comm, ← this, Nat.add_comm]
  rw [e, Int.natCast_add, Int.natCast_pow]
  rfl
theorem gb_or_0 {a : Int} (h : 0 ≤ a ∧ a < 2147483648) : gx_or a 0 = a := by
  obtain ⟨n, rfl⟩ := gb_nat h.1
  have := gb_or n 0 (by omega) (by decide)
  rw [Nat.or_zero] at this
  exact this
theorem gset_or (P : Int → Prop) (k : Nat) (hk : k < 31) : gx_or (gset P k) (gx_shl 1 (k : Int)) = gset P k + 2 ^ k := gb_or_add (gset_lt P k) hk
theorem gset_4 (P : Int → Prop) {k : Nat} (hk : k ≤ 4) : 0 ≤ gset P k ∧ gset P k < 16 := by
  have h := gset_lt P k
  rcases (by omega : k = 0 ∨ k = 1 ∨ k = 2 ∨ k = 3 ∨ k = 4) with rfl | rfl | rfl | rfl | rfl <;> exact ⟨h.1, Int.lt_of_lt_of_le h.2 (by decide)⟩
/-- whether bit p of s is set -/
theorem gb_bit {s p : Int} (hs : 0 ≤ s ∧ s < 2147483648) (hp : 0 ≤ p ∧ p < 31) : gx_and (gx_shr s p) 1 = s / 2 ^ p.toNat % 2 := by
  obtain ⟨n, rfl⟩ := gb_nat hs.1
  obtain ⟨k, rfl⟩ := gb_nat hp.1
  have h1 : n / 2 ^ k < 2147483648 := Nat.lt_of_le_of_lt (Nat.div_le_self _ _) (by omega)
  rw [gb_shr n k (by omega) (by omega)]
  have h2 := gb_and (n / 2 ^ k) 1 h1
  have e : n / 2 ^ k &&& 1 = n / 2 ^ k % 2 := Nat.and_two_pow_sub_one_eq_mod (n / 2 ^ k) 1
  rw [e] at h2
  rw [Int.toNat_natCast]
  refine h2.trans ?_
  rw [Int.natCast_emod, Int.natCast_ediv, Int.natCast_pow]
  rfl
theorem gset_bit (P : Int → Prop) : ∀ (n k : Nat), k < n → gset P n / 2 ^ k % 2 = gi (P (k : Int)) := by
  intro n
  induction n with
  | zero => intro k h; omega
  | succ n ih =>
    intro k h
    have hl := gset_lt P n
    show (gset P n + gi (P (n : Int)) * 2 ^ n) / 2 ^ k % 2 = gi (P (k : Int))
    by_cases hk : k = n
    · subst hk
      have hp : (0 : Int) < 2 ^ k := Int.pow_pos (by decide)
      rw [Int.add_mul_ediv_right _ _ (by omega), Int.ediv_eq_zero_of_lt hl.1 hl.2]
      rcases gi_rng (P (k : Int)) with h | h <;> rw [h] <;> rfl
    · have hk2 : k < n := by omega
      have hp : (0 : Int) < 2 ^ k := Int.pow_pos (by decide)
      have e : (2 : Int) ^ n = 2 ^ (n - k - 1) * 2 * 2 ^ k := by
        rw [Int.mul_assoc, Int.mul_comm 2 (2 ^ k), ← Int.pow_succ, ← Int.pow_add]
        congr 1
        omega
      rw [e, ← Int.mul_assoc, Int.add_mul_ediv_right _ _ (by omega), ← Int.mul_assoc, Int.add_mul_emod_self_right]
      exact ih k hk2
/-- how many bits of a set of four -/
def gpc (v : Int) : Int := v % 2 + v / 2 % 2 + v / 4 % 2 + v / 8 % 2
theorem gpc_rng (v : Int) : 0 ≤ gpc v ∧ gpc v ≤ 4 := by unfold gpc; omega
theorem gpc_dec : ∀ v : Nat, v < 16 → 0 < v → gx_and (v : Int) ((v : Int) - 1) = ((v &&& (v - 1) : Nat) : Int) ∧ gpc ((v &&& (v - 1) : Nat) : Int) = gpc (v : Int) - 1 ∧ (v &&& (v - 1)) < v := by decide +kernel
theorem gpc_0n : ∀ v : Nat, v < 16 → gpc (v : Int) = 0 → v = 0 := by decide +kernel
theorem gpc_0 {v : Int} (h : 0 ≤ v ∧ v < 16) (h0 : gpc v = 0) : v = 0 := by
  obtain ⟨n, rfl⟩ := gb_nat h.1
  rw [gpc_0n n (by omega) h0]
  rfl
section LAWA
variable {l : Launch} {κ : yK} {d : Nat} {M : gx_M}
theorem X_low {v n : Int} (hn : 0 < n ∧ n < 2147483648) : ∃ r, gx_X l κ gx_sh z_mt zL_low d [gI v, gI n] M (gx_eq (some (gI r)) M) ∧ 0 ≤ r ∧ r < n := by
  have h := gb_and_le v 2147483647 ⟨by decide, by decide⟩
  refine ⟨(gx_and v 2147483647) % n, ?_, Int.emod_nonneg _ (by omega), Int.emod_lt_of_pos _ hn.1⟩
  exact low_e ⟨⟨h.1, by omega⟩, hn.1, hn.2⟩ ⟨rfl, rfl⟩
theorem X_at {mk p : Int} (h : gM mk) (hp : 0 ≤ p ∧ p < 4) : gx_X l κ gx_sh z_mt zL_at d [gJ mk, gI p] M (gx_eq (some (gI (ga mk p))) M) := by
  rw [← ga_at h hp]
  exact at__e ⟨rfl, rfl⟩
theorem X_with {mk p v : Int} (h : gM mk) (hp : 0 ≤ p ∧ p < 4) (hv : 0 ≤ v ∧ v < 32768) : ∃ r, gx_X l κ gx_sh z_mt zL_with d [gJ mk, gI p, gI v] M (gx_eq (some (gJ r)) M) ∧ gM r ∧ ∀ j, 0 ≤ j → j < 4 → ga r j = if j = p then v else ga mk j := by
  obtain ⟨r, h1, h2, h3⟩ := ga_with h hp hv
  refine ⟨r, ?_, h2, h3⟩
  rw [← h1]
  exact with__e ⟨by omega, by omega⟩ ⟨rfl, rfl⟩
/-- the law's own net: how many places and moves, and its arcs -/
def gL (M : gx_M) : Prop := ((0 ≤ M 104 0 ∧ M 104 0 ≤ 4) ∧ (0 ≤ M 104 1 ∧ M 104 1 ≤ 4)) ∧ ∀ i, 0 ≤ i → i < 16 → (0 ≤ M 105 i ∧ M 105 i ≤ 51) ∧ M 105 i % 16 ≤ 3
/-- move m can be made at marking mk -/
def gCan (M : gx_M) (mk m : Int) : Prop := ∀ p, 0 ≤ p → p < M 104 0 → M 105 (4 * m + p) / 16 ≤ ga mk p
theorem X_can {mk m : Int} (hd : 1 ≤ d) (hL : gL M) (hk : gM mk) (hm : 0 ≤ m ∧ m < 4) : gx_X l κ gx_sh z_mt zL_can d [gJ mk, gI m, gR 105, gR 106] M (gx_eq (some (gI (gi (gCan M mk m)))) M) := by
  obtain ⟨⟨hP, hV⟩, hA⟩ := hL
  have loop : ∀ (k : Nat) (p is_ : Int), p + k = M 104 0 → 0 ≤ p → is_ = gi (∀ q, 0 ≤ q → q < p → M 105 (4 * m + q) / 16 ≤ ga mk q) →
      gx_G l κ gx_sh z_mt zL_can d (6, [gJ mk, gU, gI m, gR 105, gR 106, gI is_, gI p], [], M) (gx_eq (some (gI (gi (gCan M mk m)))) M) := by
    intro k
    induction k with
    | zero =>
      intro p is_ hp h0 hi
      refine can_6_1 (by omega) ⟨by omega, by omega⟩ ⟨by omega, by omega⟩ (by rw [hi]; exact gi_rng _) ⟨?_, rfl⟩
      rw [hi, show p = M 104 0 from by omega]
      rfl
    | succ k ih =>
      intro p is_ hp h0 hi
      have ha := hA (4 * m + p) (by omega) (by omega)
      have hg := ga_lt mk p
      by_cases c0 : is_ = 0
      · refine can_6_01 (by omega) ⟨by omega, by omega⟩ ⟨by omega, by omega⟩ c0 (by rw [c0]; exact ⟨by decide, by decide⟩) (ih (p + 1) 0 (by omega) (by omega) ?_)
        rw [c0] at hi
        exact (gi_neg (fun z => gi_0 hi.symm (fun q h1 h2 => z q h1 (by omega)))).symm
      · have c1 := gi_n0 (by rw [← hi]; exact c0)
        by_cases c2 : ga mk p < M 105 (4 * m + p) / 16
        · refine can_6_001 (by omega) ⟨by omega, by omega⟩ ⟨by omega, by omega⟩ c0 (by rw [hi]; exact gi_R _) (X_at hk ⟨h0, by omega⟩) (d1 := 0) (by omega) ⟨by omega, by omega⟩ ⟨ha.1.1, by omega⟩ c2 ⟨by omega, by omega⟩ ⟨by omega, by omega⟩ (ih (p + 1) 0 (by omega) (by omega) ?_)
          exact (gi_neg (fun z => by have := z p h0 (by omega); omega)).symm
        · refine can_6_000 (by omega) ⟨by omega, by omega⟩ ⟨by omega, by omega⟩ c0 (by rw [hi]; exact gi_R _) (X_at hk ⟨h0, by omega⟩) (d1 := 0) (by omega) ⟨by omega, by omega⟩ ⟨ha.1.1, by omega⟩ (by omega) ⟨by omega, by omega⟩ ⟨by omega, by omega⟩ (ih (p + 1) 1 (by omega) (by omega) ?_)
          refine (gi_pos (fun q h1 h2 => ?_)).symm
          by_cases hq : q = p
          · rw [hq]; omega
          · exact c1 q h1 (by omega)
  exact can_e (loop (M 104 0).toNat 0 1 (by omega) (by omega) (gi_pos (fun q h1 h2 => by omega)).symm)
theorem X_behind {mk m : Int} (hd : 1 ≤ d) (hL : gL M) (hk : gM mk) (hm : 0 ≤ m ∧ m < 4) (hc : ∀ p, 0 ≤ p → p < M 104 0 → ga mk p < 32767 → 0 ≤ ga mk p - M 105 (4 * m + p) / 16 + M 105 (4 * m + p) % 16 ∧ ga mk p - M 105 (4 * m + p) / 16 + M 105 (4 * m + p) % 16 < 32768) :
    ∃ r, gx_X l κ gx_sh z_mt zL_behind d [gJ mk, gI m, gR 105, gR 106] M (gx_eq (some (gJ r)) M) ∧ gM r ∧ ∀ p, 0 ≤ p → p < 4 → ga r p = if p < M 104 0 ∧ ga mk p < 32767 then ga mk p - M 105 (4 * m + p) / 16 + M 105 (4 * m + p) % 16 else ga mk p := by
  obtain ⟨⟨hP, hV⟩, hA⟩ := hL
  have loop : ∀ (k : Nat) (p th : Int), p + k = M 104 0 → 0 ≤ p → gM th → (∀ q, 0 ≤ q → q < 4 → ga th q = if q < p ∧ ga mk q < 32767 then ga mk q - M 105 (4 * m + q) / 16 + M 105 (4 * m + q) % 16 else ga mk q) →
      ∃ r, gx_G l κ gx_sh z_mt zL_behind d (6, [gJ mk, gU, gI m, gR 105, gR 106, gJ th, gU, gI p], [], M) (gx_eq (some (gJ r)) M) ∧ gM r ∧ ∀ p, 0 ≤ p → p < 4 → ga r p = if p < M 104 0 ∧ ga mk p < 32767 then ga mk p - M 105 (4 * m + p) / 16 + M 105 (4 * m + p) % 16 else ga mk p := by
    intro k
    induction k with
    | zero =>
      intro p th hp h0 ht hq
      refine ⟨th, behind_6_1 (by omega) ⟨by omega, by omega⟩ ⟨by omega, by omega⟩ ⟨rfl, rfl⟩, ht, ?_⟩
      rw [show M 104 0 = p from by omega]
      exact hq
    | succ k ih =>
      intro p th hp h0 ht hq
      have ha := hA (4 * m + p) (by omega) (by omega)
      have hg := ga_lt mk p
      have hat := X_at (l := l) (κ := κ) (d := 0) (M := M) hk (p := p) ⟨h0, by omega⟩
      by_cases c1 : ga mk p < 32767
      · have hcp := hc p h0 (by omega) c1
        obtain ⟨r, hw, hr1, hr2⟩ := X_with (l := l) (κ := κ) (d := 0) (M := M) ht (p := p) (v := ga mk p - M 105 (4 * m + p) / 16 + M 105 (4 * m + p) % 16) ⟨h0, by omega⟩ hcp
        obtain ⟨r2, k1, k2, k3⟩ := ih (p + 1) r (by omega) (by omega) hr1 (by
          intro q q1 q2
          rw [hr2 q q1 q2]
          by_cases e : q = p
          · subst e
            rw [if_pos rfl, if_pos ⟨by omega, c1⟩]
          · rw [if_neg e, hq q q1 q2]
            by_cases e2 : q < p ∧ ga mk q < 32767
            · rw [if_pos e2, if_pos ⟨by omega, e2.2⟩]
            · rw [if_neg e2, if_neg (fun z => e2 ⟨by omega, z.2⟩)])
        exact ⟨r2, behind_6_00 (by omega) ⟨by omega, by omega⟩ ⟨by omega, by omega⟩ hat (by omega) c1 ⟨by omega, by omega⟩ hat (by omega) ⟨by omega, by omega⟩ ⟨ha.1.1, by omega⟩ hw (by omega) (behind_67 k1), k2, k3⟩
      · obtain ⟨r2, k1, k2, k3⟩ := ih (p + 1) th (by omega) (by omega) ht (by
          intro q q1 q2
          rw [hq q q1 q2]
          by_cases e : q = p
          · subst e
            rw [if_neg (fun z => c1 z.2), if_neg (fun z => c1 z.2)]
          · by_cases e2 : q < p ∧ ga mk q < 32767
            · rw [if_pos e2, if_pos ⟨by omega, e2.2⟩]
            · rw [if_neg e2, if_neg (fun z => e2 ⟨by omega, z.2⟩)])
        exact ⟨r2, behind_6_01 (by omega) ⟨by omega, by omega⟩ ⟨by omega, by omega⟩ hat (by omega) (by omega) ⟨by omega, by omega⟩ (behind_67 k1), k2, k3⟩
  obtain ⟨r, h1, h2, h3⟩ := loop (M 104 0).toNat 0 mk (by omega) (by omega) hk (by
    intro q q1 q2
    rw [if_neg (fun z => by omega)])
  exact ⟨r, behind_e h1, h2, h3⟩
theorem X_moves {mk : Int} (hd : 2 ≤ d) (hL : gL M) (hk : gM mk) : gx_X l κ gx_sh z_mt zL_moves d [gJ mk, gR 105, gR 106] M (gx_eq (some (gI (gset (gCan M mk) (M 104 1).toNat))) M) := by
  have hL0 := hL
  obtain ⟨⟨hP, hV⟩, hA⟩ := hL
  have loop : ∀ (k j : Nat), j + k = (M 104 1).toNat →
      gx_G l κ gx_sh z_mt zL_moves d (6, [gJ mk, gU, gR 105, gR 106, gI (gset (gCan M mk) j), gI (j : Int)], [], M) (gx_eq (some (gI (gset (gCan M mk) (M 104 1).toNat))) M) := by
    intro k
    induction k with
    | zero =>
      intro j hj
      refine moves_6_1 (by omega) ⟨by omega, by omega⟩ ⟨by omega, by omega⟩ ⟨?_, rfl⟩
      rw [show j = (M 104 1).toNat from by omega]
    | succ k ih =>
      intro j hj
      have hc := X_can (l := l) (κ := κ) (d := 1) (M := M) (by omega) hL0 hk (m := (j : Int)) ⟨by omega, by omega⟩
      have h4 := gset_4 (gCan M mk) (k := j) (by omega)
      have hn := ih (j + 1) (by omega)
      rcases Classical.em (gCan M mk (j : Int)) with c | c
      · refine moves_6_00 (by omega) ⟨by omega, by omega⟩ ⟨by omega, by omega⟩ hc (by omega) (by rw [gi_pos c]; decide) (gi_R _) (moves_35 ?_)
        rw [gset_or _ j (by omega)]
        have e : gset (gCan M mk) (j + 1) = gset (gCan M mk) j + 2 ^ j := by
          show gset (gCan M mk) j + gi (gCan M mk (j : Int)) * 2 ^ j = _
          rw [gi_pos c, Int.one_mul]
        rw [e] at hn
        exact hn
      · refine moves_6_01 (by omega) ⟨by omega, by omega⟩ ⟨by omega, by omega⟩ hc (by omega) (gi_neg c) (gi_R _) (moves_35 ?_)
        rw [gb_or_0 ⟨h4.1, by omega⟩]
        have e : gset (gCan M mk) (j + 1) = gset (gCan M mk) j := by
          show gset (gCan M mk) j + gi (gCan M mk (j : Int)) * 2 ^ j = _
          rw [gi_neg c, Int.zero_mul, Int.add_zero]
        rw [e] at hn
        exact hn
  exact moves_e (loop (M 104 1).toNat 0 (by omega))
theorem X_bits {v : Int} (hv : 0 ≤ v ∧ v < 16) : gx_X l κ gx_sh z_mt zL_bits d [gI v] M (gx_eq (some (gI (gpc v))) M) := by
  have loop : ∀ (k w : Nat) (n : Int), w ≤ k → w < 16 → n + gpc (w : Int) = gpc v →
      gx_G l κ gx_sh z_mt zL_bits d (4, [gU, gI n, gI (w : Int)], [], M) (gx_eq (some (gI (gpc v))) M) := by
    intro k
    induction k with
    | zero =>
      intro w n hk hw hn
      refine bits_4_1 (by omega) ⟨by omega, by omega⟩ ⟨?_, rfl⟩
      have e : w = 0 := by omega
      subst e
      have e2 : gpc ((0 : Nat) : Int) = 0 := by decide
      rw [e2] at hn
      rw [show n = gpc v from by omega]
    | succ k ih =>
      intro w n hk hw hn
      by_cases c : w = 0
      · refine bits_4_1 (by omega) ⟨by omega, by omega⟩ ⟨?_, rfl⟩
        subst c
        have e2 : gpc ((0 : Nat) : Int) = 0 := by decide
        rw [e2] at hn
        rw [show n = gpc v from by omega]
      · obtain ⟨g1, g2, g3⟩ := gpc_dec w hw (by omega)
        refine bits_4_0 (by omega) ⟨by omega, by omega⟩ ?_
        rw [g1]
        exact ih _ (n + 1) (by omega) (by omega) (by omega)
  obtain ⟨w, rfl⟩ := gb_nat hv.1
  exact bits_e (loop w w 0 (Nat.le_refl _) (by omega) (by omega))
end LAWA
