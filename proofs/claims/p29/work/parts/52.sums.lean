/-! the class's sums: balances, what can still be balanced, keeping one -/
theorem gsm_bd {f : Int → Int} {B : Int} : ∀ n : Nat, (∀ j : Int, 0 ≤ j → j < (n : Int) → -B ≤ f j ∧ f j ≤ B) → -(B * n) ≤ gsm f n ∧ gsm f n ≤ B * n := by
  intro n
  induction n with
  | zero => intro _; show -(B * 0) ≤ 0 ∧ 0 ≤ B * 0; rw [Int.mul_zero]; exact ⟨by decide, by decide⟩
  | succ n ih =>
    intro h
    have h1 := ih (fun j j1 j2 => h j j1 (by omega))
    have h2 := h (n : Int) (by omega) (by omega)
    show -(B * ((n + 1 : Nat) : Int)) ≤ gsm f n + f (n : Int) ∧ gsm f n + f (n : Int) ≤ B * ((n + 1 : Nat) : Int)
    have e : B * ((n + 1 : Nat) : Int) = B * (n : Int) + B := by rw [show ((n + 1 : Nat) : Int) = (n : Int) + 1 from by omega, Int.mul_add, Int.mul_one]
    rw [e]
    omega
theorem mul_27 {w g : Int} (hw : 0 ≤ w ∧ w ≤ 3) (hg : -9 ≤ g ∧ g ≤ 9) : -27 ≤ w * g ∧ w * g ≤ 27 := by
  rcases (by omega : w = 0 ∨ w = 1 ∨ w = 2 ∨ w = 3) with rfl | rfl | rfl | rfl <;> omega
/-- weights, gains and balances go together -/
def gSB (M : gx_M) : Prop := (∀ i, 0 ≤ i → i < 64 → -9 ≤ M 74 i ∧ M 74 i ≤ 9) ∧ (∀ p, 0 ≤ p → p < 8 → 0 ≤ M 76 p ∧ M 76 p ≤ 3) ∧ ∀ m, 0 ≤ m → m < 8 → M 75 m = gsm (fun p => M 76 p * M 74 (m * 8 + p)) 8
/-- t goes on with the weights: those before pl are W's, and from there on the set's places have one -/
def Cm (W : Int → Int) (set : Int) (pl t : Nat) : Prop := t < 256 ∧ (∀ p : Nat, p < 8 → p < pl → ((dgn t p : Nat) : Int) = W (p : Int)) ∧ ∀ p : Nat, p < 8 → pl ≤ p → (dgn t p ≠ 0 ↔ gbt set p)
theorem Cm_congr {W W' : Int → Int} {set : Int} {pl t : Nat} (h : ∀ p, 0 ≤ p → p < 8 → W p = W' p) : Cm W set pl t ↔ Cm W' set pl t := by
  unfold Cm
  constructor
  · rintro ⟨a, b, c⟩; exact ⟨a, fun p p1 p2 => by rw [b p p1 p2, h (p : Int) (by omega) (by omega)], c⟩
  · rintro ⟨a, b, c⟩; exact ⟨a, fun p p1 p2 => by rw [b p p1 p2, ← h (p : Int) (by omega) (by omega)], c⟩
theorem gbt_bit {s : Int} (hs : g16 s) {p : Nat} (hp : p < 8) : (gx_and (gx_shr s (p : Int)) 1 = 0 ∨ gx_and (gx_shr s (p : Int)) 1 = 1) ∧ (gbt s p ↔ gx_and (gx_shr s (p : Int)) 1 = 1) := by
  have h1 := gb_bit (s := s) (p := (p : Int)) ⟨hs.1, by have := hs.2; omega⟩ ⟨by omega, by omega⟩
  rw [Int.toNat_natCast] at h1
  rw [h1]
  unfold gbt
  exact ⟨by omega, Iff.rfl⟩
section SUMS
variable {l : Launch} {κ : yK} {d : Nat} {M : gx_M}
theorem X_balance {pl : Nat} {w : Int} (hp : pl < 8) (hw : 0 ≤ w ∧ w ≤ 3) (hB : gSB M) :
    ∃ M', gx_X l κ gx_sh z_mt zX6_balance d [gR 68, gI (pl : Int), gI w] M (gx_eq none M') ∧ (∀ k, k ≠ 75 → k ≠ 76 → M' k = M k) ∧ (∀ p, M' 76 p = if p = (pl : Int) then w else M 76 p) ∧ gSB M' := by
  obtain ⟨b1, b2, b3⟩ := hB
  have loop : ∀ (k m : Nat) (M1 : gx_M), m + k = 8 → (∀ k, k ≠ 75 → k ≠ 76 → M1 k = M k) → (∀ p, M1 76 p = if p = (pl : Int) then w else M 76 p) → (∀ j, 0 ≤ j → j < 8 → M1 75 j = if j < (m : Int) then M 75 j + (w - M 76 (pl : Int)) * M 74 (j * 8 + (pl : Int)) else M 75 j) →
      ∃ M', gx_G l κ gx_sh z_mt zX6_balance d (19, [gR 68, gI (pl : Int), gU, gI (w - M 76 (pl : Int)), gI (m : Int)], [], M1) (gx_eq none M') ∧ (∀ k, k ≠ 75 → k ≠ 76 → M' k = M k) ∧ (∀ p, M' 76 p = if p = (pl : Int) then w else M 76 p) ∧ gSB M' := by
    intro k
    induction k with
    | zero =>
      intro m M1 hm hf h76 h75
      refine ⟨M1, balance_19_1 (by omega) ⟨by omega, by omega⟩ ⟨rfl, rfl⟩, hf, h76, ?_, ?_, ?_⟩
      · intro i i1 i2; rw [hf 74 (by decide) (by decide)]; exact b1 i i1 i2
      · intro p p1 p2
        rw [h76]
        split
        · exact hw
        · exact b2 p p1 p2
      · intro j j1 j2
        rw [h75 j j1 j2, if_pos (by omega), b3 j j1 j2, hf 74 (by decide) (by decide)]
        have s3 := gsm_one (f := fun p => M1 76 p * M 74 (j * 8 + p)) (f' := fun p => M 76 p * M 74 (j * 8 + p)) (p0 := pl) 8 (by omega) (fun q q1 q2 q3 => by
          show M1 76 q * _ = M 76 q * _
          rw [h76, if_neg q3])
        rw [s3, h76, if_pos rfl, Int.sub_mul]
    | succ k ih =>
      intro m M1 hm hf h76 h75
      obtain ⟨M', k1, k2⟩ := ih (m + 1) (gx_up M1 75 (m : Int) (M1 75 (m : Int) + (w - M 76 (pl : Int)) * M1 74 ((m : Int) * 8 + (pl : Int)))) (by omega) (fun k k1 k2 => by rw [gx_up_ne k1]; exact hf k k1 k2) (fun p => by rw [gx_up_ne (by decide)]; exact h76 p) (fun j j1 j2 => by
        rw [gx_up_at]
        by_cases e : j = (m : Int)
        · rw [if_pos e, if_pos (by omega), h75 (m : Int) (by omega) (by omega), if_neg (by omega), hf 74 (by decide) (by decide), e]
        · rw [if_neg e, h75 j j1 j2]
          by_cases e2 : j < (m : Int)
          · rw [if_pos e2, if_pos (by omega)]
          · rw [if_neg e2, if_neg (by omega)])
      exact ⟨M', balance_19_0 (by omega) ⟨by omega, by omega⟩ ⟨by omega, by omega⟩ ⟨by omega, by omega⟩ k1, k2⟩
  obtain ⟨M', k1, k2⟩ := loop 8 0 (gx_up M 76 (pl : Int) w) (by omega) (fun k _ k2 => gx_up_ne k2) (fun p => gx_up_at M 76 (pl : Int) w p) (fun j j1 j2 => by rw [if_neg (by omega), gx_up_ne (by decide)])
  exact ⟨M', balance_e ⟨by omega, by omega⟩ k1, k2⟩
theorem X_canBal {set : Int} {pl : Nat} (hs : g16 set) (hp : pl ≤ 8) (hB : gSB M) (h0 : ∀ p : Nat, p < 8 → pl ≤ p → M 76 (p : Int) = 0) :
    ∃ r, gx_X l κ gx_sh z_mt zX6_canBalance d [gR 68, gI set, gI (pl : Int)] M (gx_eq (some (gI r)) M) ∧ (r = 0 ∨ r = 1) ∧ (r = 0 → ∀ t, Cm (M 76) set pl t → ¬ Kp (M 74) t) ∧ (pl = 8 → r = 1 → ∀ m, 0 ≤ m → m < 8 → M 75 m = 0) := by
  obtain ⟨b1, b2, b3⟩ := hB
  have gR9 : ∀ i, 0 ≤ i → i < 64 → gx_R (M 74 i) := fun i i1 i2 => by have := b1 i i1 i2; exact ⟨by omega, by omega⟩
  have loop : ∀ (k m : Nat), m + k = 8 → (pl = 8 → ∀ j, 0 ≤ j → j < (m : Int) → M 75 j = 0) →
      ∃ r, gx_G l κ gx_sh z_mt zX6_canBalance d (2, [gR 68, gI set, gI (pl : Int), gI (m : Int), gU, gU, gU, gU], [], M) (gx_eq (some (gI r)) M) ∧ (r = 0 ∨ r = 1) ∧ (r = 0 → ∀ t, Cm (M 76) set pl t → ¬ Kp (M 74) t) ∧ (pl = 8 → r = 1 → ∀ m, 0 ≤ m → m < 8 → M 75 m = 0) := by
    intro k
    induction k with
    | zero =>
      intro m hm hz
      exact ⟨1, canBal_2_1 (by omega) ⟨by omega, by omega⟩ ⟨rfl, rfl⟩, Or.inr rfl, fun z => absurd z (by decide), fun z _ j j1 j2 => hz z j j1 (by omega)⟩
    | succ k ih =>
      intro m hm hz
      have bal := b3 (m : Int) (by omega) (by omega)
      have bnd := gsm_bd (f := fun p => M 76 p * M 74 ((m : Int) * 8 + p)) (B := 27) 8 (fun j j1 j2 => mul_27 (b2 j j1 (by omega)) (b1 _ (by omega) (by omega)))
      rw [← bal] at bnd
      -- the places from pl on
      have inner : ∀ (q p : Nat) (least most : Int), p + q = 8 → pl ≤ p → (-216 - 27 * (p : Int) ≤ least ∧ least ≤ 216 + 27 * (p : Int)) → (-216 - 27 * (p : Int) ≤ most ∧ most ≤ 216 + 27 * (p : Int)) → (∀ t, Cm (M 76) set pl t → least ≤ gsm (fun p => dgi t p * M 74 ((m : Int) * 8 + p)) p ∧ gsm (fun p => dgi t p * M 74 ((m : Int) * 8 + p)) p ≤ most) → (pl = 8 → least = M 75 (m : Int) ∧ most = M 75 (m : Int)) →
          ∃ r, gx_G l κ gx_sh z_mt zX6_canBalance d (23, [gR 68, gI set, gI (pl : Int), gI (m : Int), gI least, gI most, gI (p : Int), gU], [], M) (gx_eq (some (gI r)) M) ∧ (r = 0 ∨ r = 1) ∧ (r = 0 → ∀ t, Cm (M 76) set pl t → ¬ Kp (M 74) t) ∧ (pl = 8 → r = 1 → ∀ m, 0 ≤ m → m < 8 → M 75 m = 0) := by
        intro q
        induction q with
        | zero =>
          intro p least most hpq hpl hl hm2 ht h8
          have e8 : p = 8 := by omega
          subst e8
          have lR : gx_R least := ⟨by omega, by omega⟩
          have mR : gx_R most := ⟨by omega, by omega⟩
          by_cases c1 : 0 < least
          · refine ⟨0, canBal_23_11 (by decide) ⟨by decide, by decide⟩ c1 lR (canBal_107 ⟨rfl, rfl⟩), Or.inl rfl, fun _ t hc hk => ?_, fun _ z => absurd z (by decide)⟩
            have h1 := ht t hc
            have h2 := hk.2 (m : Int) (by omega) (by omega)
            unfold gSu at h2
            omega
          · by_cases c2 : most < 0
            · refine ⟨0, canBal_23_100 (by decide) ⟨by decide, by decide⟩ (by omega) lR c2 mR (canBal_107 ⟨rfl, rfl⟩), Or.inl rfl, fun _ t hc hk => ?_, fun _ z => absurd z (by decide)⟩
              have h1 := ht t hc
              have h2 := hk.2 (m : Int) (by omega) (by omega)
              unfold gSu at h2
              omega
            · obtain ⟨r, k1, k2⟩ := ih (m + 1) (by omega) (fun z j j1 j2 => by
                by_cases e : j = (m : Int)
                · rw [e]
                  have := h8 z
                  omega
                · exact hz z j j1 (by omega))
              exact ⟨r, canBal_23_101 (by decide) ⟨by decide, by decide⟩ (by omega) lR (by omega) mR k1, k2⟩
        | succ q ihq =>
          intro p least most hpq hpl hl hm2 ht h8
          have hp8 : p < 8 := by omega
          obtain ⟨v1, v2⟩ := gbt_bit hs hp8
          have pR : gx_R (p : Int) := ⟨by omega, by omega⟩
          have bR : gx_R (gx_and (gx_shr set (p : Int)) 1) := by rcases v1 with z | z <;> rw [z] <;> exact ⟨by decide, by decide⟩
          have hg := b1 ((m : Int) * 8 + (p : Int)) (by omega) (by omega)
          have gR0 := gR9 ((m : Int) * 8 + (p : Int)) (by omega) (by omega)
          by_cases cb : gbt set p
          · have c0 : ¬ gx_and (gx_shr set (p : Int)) 1 = 0 := by rw [v2.mp cb]; decide
            by_cases cg : 0 ≤ M 74 ((m : Int) * 8 + (p : Int))
            · obtain ⟨r, k1, k2⟩ := ihq (p + 1) (least + M 74 ((m : Int) * 8 + (p : Int))) (most + 3 * M 74 ((m : Int) * 8 + (p : Int))) (by omega) (by omega) (by omega) (by omega) (fun t hc => by
                have h1 := ht t hc
                have h2 := (hc.2.2 p hp8 hpl).mpr cb
                have h3 := dgn_lt t p
                show _ ≤ gsm _ p + dgi t (p : Int) * M 74 ((m : Int) * 8 + (p : Int)) ∧ gsm _ p + dgi t (p : Int) * M 74 ((m : Int) * 8 + (p : Int)) ≤ _
                rw [dgi_nat]
                rcases (by omega : dgn t p = 1 ∨ dgn t p = 2 ∨ dgn t p = 3) with e | e | e <;> rw [e] <;> omega) (fun z => by omega)
              exact ⟨r, canBal_23_001 (by omega) pR c0 bR ⟨by omega, by omega⟩ cg gR0 (canBal_69_1 cg gR0 (canBal_88 (canBal_91 k1))), k2⟩
            · obtain ⟨r, k1, k2⟩ := ihq (p + 1) (least + 3 * M 74 ((m : Int) * 8 + (p : Int))) (most + M 74 ((m : Int) * 8 + (p : Int))) (by omega) (by omega) (by omega) (by omega) (fun t hc => by
                have h1 := ht t hc
                have h2 := (hc.2.2 p hp8 hpl).mpr cb
                have h3 := dgn_lt t p
                show _ ≤ gsm _ p + dgi t (p : Int) * M 74 ((m : Int) * 8 + (p : Int)) ∧ gsm _ p + dgi t (p : Int) * M 74 ((m : Int) * 8 + (p : Int)) ≤ _
                rw [dgi_nat]
                rcases (by omega : dgn t p = 1 ∨ dgn t p = 2 ∨ dgn t p = 3) with e | e | e <;> rw [e] <;> omega) (fun z => by omega)
              exact ⟨r, canBal_23_000 (by omega) pR c0 bR ⟨by omega, by omega⟩ (by omega) gR0 (canBal_69_0 (by omega) gR0 (canBal_88 (canBal_91 k1))), k2⟩
          · have c0 : gx_and (gx_shr set (p : Int)) 1 = 0 := by
              rcases v1 with z | z
              · exact z
              · exact absurd (v2.mpr z) cb
            obtain ⟨r, k1, k2⟩ := ihq (p + 1) least most (by omega) (by omega) (by omega) (by omega) (fun t hc => by
              have h1 := ht t hc
              have h2 : dgn t p = 0 := by
                by_cases e : dgn t p = 0
                · exact e
                · exact absurd ((hc.2.2 p hp8 hpl).mp e) cb
              show _ ≤ gsm _ p + dgi t (p : Int) * M 74 ((m : Int) * 8 + (p : Int)) ∧ gsm _ p + dgi t (p : Int) * M 74 ((m : Int) * 8 + (p : Int)) ≤ _
              rw [dgi_nat, h2]
              omega) (fun z => by omega)
            exact ⟨r, canBal_23_01 (by omega) pR c0 bR (canBal_91 k1), k2⟩
      obtain ⟨r, k1, k2⟩ := inner (8 - pl) pl (M 75 (m : Int)) (M 75 (m : Int)) (by omega) (Nat.le_refl _) (by omega) (by omega) (fun t hc => by
        have e1 : M 75 (m : Int) = gsm (fun p => M 76 p * M 74 ((m : Int) * 8 + p)) pl := by
          have h9 := gsm_zero (f := fun p => M 76 p * M 74 ((m : Int) * 8 + p)) pl (8 - pl) (fun j j1 j2 => by
            obtain ⟨q, rfl⟩ := gb_nat (show 0 ≤ j by omega)
            show M 76 (q : Int) * _ = 0
            rw [h0 q (by omega) (by omega), Int.zero_mul])
          rw [show pl + (8 - pl) = 8 from by omega] at h9
          rw [bal, h9]
        have e2 : gsm (fun p => M 76 p * M 74 ((m : Int) * 8 + p)) pl = gsm (fun p => dgi t p * M 74 ((m : Int) * 8 + p)) pl := gsm_congr pl (fun j j1 j2 => by
          obtain ⟨q, rfl⟩ := gb_nat j1
          show M 76 (q : Int) * _ = dgi t (q : Int) * _
          rw [dgi_nat, hc.2.1 q (by omega) (by omega)])
        omega) (fun _ => ⟨rfl, rfl⟩)
      exact ⟨r, canBal_2_0 (by omega) ⟨by omega, by omega⟩ ⟨by omega, by omega⟩ k1, k2⟩
  obtain ⟨r, k1, k2⟩ := loop 8 0 (by omega) (fun _ j j1 j2 => by omega)
  exact ⟨r, canBal_e k1, k2⟩
theorem X_allDiv {dv : Int} (hd : dv = 2 ∨ dv = 3) (hw : ∀ p, 0 ≤ p → p < 8 → 0 ≤ M 76 p ∧ M 76 p ≤ 3) : gx_X l κ gx_sh z_mt zX6_allDividedBy d [gR 68, gI dv] M (gx_eq (some (gI (gi (∀ p, 0 ≤ p → p < 8 → M 76 p % dv = 0)))) M) := by
  have loop : ∀ (k : Nat) (p : Int), p + k = 8 → 0 ≤ p → (∀ q, 0 ≤ q → q < p → M 76 q % dv = 0) →
      gx_G l κ gx_sh z_mt zX6_allDividedBy d (2, [gR 68, gI dv, gI p], [], M) (gx_eq (some (gI (gi (∀ p, 0 ≤ p → p < 8 → M 76 p % dv = 0)))) M) := by
    intro k
    induction k with
    | zero =>
      intro p hp h0 hq
      rw [gi_pos (fun q q1 q2 => hq q q1 (by omega))]
      exact allDiv_2_1 (by omega) ⟨by omega, by omega⟩ ⟨rfl, rfl⟩
    | succ k ih =>
      intro p hp h0 hq
      have h1 := hw p h0 (by omega)
      have h2 : gx_R (M 76 p % dv) := by rcases hd with e | e <;> rw [e] <;> exact ⟨by omega, by omega⟩
      have h3 : (0 : Int) < dv ∧ dv < 2147483648 := by omega
      by_cases c : M 76 p % dv = 0
      · exact allDiv_2_01 (by omega) ⟨by omega, by omega⟩ ⟨by omega, by omega⟩ ⟨⟨by omega, by omega⟩, h3⟩ c h2 (ih (p + 1) (by omega) (by omega) (fun q q1 q2 => by
          by_cases e : q = p
          · rw [e]; exact c
          · exact hq q q1 (by omega)))
      · rw [gi_neg (fun z => c (z p h0 (by omega)))]
        exact allDiv_2_00 (by omega) ⟨by omega, by omega⟩ ⟨by omega, by omega⟩ ⟨⟨by omega, by omega⟩, h3⟩ c h2 ⟨rfl, rfl⟩
  exact allDiv_e (loop 8 0 (by omega) (by omega) (fun q q1 q2 => by omega))
/-- the row of found sums holds the list -/
def gFR (M : gx_M) (F : List Nat) : Prop := (M 67 7 = (F.length : Int) ∧ F.length ≤ 64) ∧ ∀ (i x : Nat), F[i]? = some x → M 78 (i : Int) = ((x * 256 : Nat) : Int) ∧ x < 256
theorem kp_or : ∀ t, t < 256 → ∀ p, p < 8 → (t * 256 / 4 ^ (8 - p)) * 2 ^ 2 ||| dgn t p = t * 256 / 4 ^ (7 - p) := by decide +kernel
theorem kp_lt : ∀ t, t < 256 → ∀ p, p ≤ 8 → t * 256 / 4 ^ (8 - p) < 65536 := by decide +kernel
theorem kp_0 : ∀ t, t < 256 → t * 256 / 4 ^ 8 = 0 := by decide +kernel
theorem X_keepS {F : List Nat} {t : Nat} (hd : 1 ≤ d) (ht : t < 256) (hw : ∀ p : Nat, p < 8 → M 76 (p : Int) = ((dgn t p : Nat) : Int)) (hF : gFR M F) (hs : F.Pairwise (· < ·)) (hn : ¬ t ∈ F) (hl : F.length < 64) :
    ∃ M' F', gx_X l κ gx_sh z_mt zX6_keep d [gR 68] M (gx_eq none M') ∧ (∀ k, k ≠ 67 → k ≠ 78 → M' k = M k) ∧ (∀ j, j ≠ 7 → M' 67 j = M 67 j) ∧ gFR M' F' ∧ F'.Pairwise (· < ·) ∧ ∀ x, x ∈ F' ↔ x ∈ F ∨ (x = t ∧ ¬ gDv t 2 ∧ ¬ gDv t 3) := by
  have hwr : ∀ p, 0 ≤ p → p < 8 → 0 ≤ M 76 p ∧ M 76 p ≤ 3 := fun p p1 p2 => by
    obtain ⟨q, rfl⟩ := gb_nat p1
    have := dgn_lt t q
    rw [hw q (by omega)]
    omega
  have dvi : ∀ dv : Nat, (∀ p, 0 ≤ p → p < 8 → M 76 p % ((dv : Nat) : Int) = 0) ↔ gDv t dv := fun dv => by
    constructor
    · intro z p hp
      have := z (p : Int) (by omega) (by omega)
      rw [hw p hp] at this
      omega
    · intro z p p1 p2
      obtain ⟨q, rfl⟩ := gb_nat p1
      have := z q (by omega)
      rw [hw q (by omega)]
      omega
  have a2 := X_allDiv (l := l) (κ := κ) (d := 0) (M := M) (dv := 2) (Or.inl rfl) hwr
  have a3 := X_allDiv (l := l) (κ := κ) (d := 0) (M := M) (dv := 3) (Or.inr rfl) hwr
  have i2 : (∀ p, 0 ≤ p → p < 8 → M 76 p % 2 = 0) ↔ gDv t 2 := dvi 2
  have i3 : (∀ p, 0 ≤ p → p < 8 → M 76 p % 3 = 0) ↔ gDv t 3 := dvi 3
  rw [gi_congr (R := gDv t 2) i2] at a2
  rw [gi_congr (R := gDv t 3) i3] at a3
  by_cases c2 : gDv t 2
  · rw [gi_pos c2] at a2
    exact ⟨M, F, keepS_e_1 a2 (by omega) (by decide) ⟨by decide, by decide⟩ ⟨rfl, rfl⟩, fun _ _ _ => rfl, fun _ _ => rfl, hF, hs, fun x => ⟨Or.inl, fun z => by
      rcases z with z | z
      · exact z
      · exact absurd c2 z.2.1⟩⟩
  · rw [gi_neg c2] at a2
    by_cases c3 : gDv t 3
    · rw [gi_pos c3] at a3
      exact ⟨M, F, keepS_e_00 a2 (by omega) rfl ⟨by decide, by decide⟩ a3 (by omega) (by decide) ⟨by decide, by decide⟩ ⟨rfl, rfl⟩, fun _ _ _ => rfl, fun _ _ => rfl, hF, hs, fun x => ⟨Or.inl, fun z => by
        rcases z with z | z
        · exact z
        · exact absurd c3 z.2.2⟩⟩
    · rw [gi_neg c3] at a3
      obtain ⟨⟨f1, f2⟩, f3⟩ := hF
      -- where it goes
      have ins : ∀ (a : Nat) (M1 : gx_M), a ≤ F.length → (∀ k, k ≠ 78 → M1 k = M k) → (∀ i : Nat, i < a → M1 78 (i : Int) = M 78 (i : Int)) → (∀ i : Nat, a < i → i ≤ F.length → M1 78 (i : Int) = M 78 (((i - 1 : Nat)) : Int)) → (∀ i x, a ≤ i → F[i]? = some x → t < x) →
          ∃ M' F', gx_G l κ gx_sh z_mt zX6_keep d (79, [gR 68, gI ((t * 256 : Nat) : Int), gI (a : Int)], [], M1) (gx_eq none M') ∧ (∀ k, k ≠ 67 → k ≠ 78 → M' k = M k) ∧ (∀ j, j ≠ 7 → M' 67 j = M 67 j) ∧ gFR M' F' ∧ F'.Pairwise (· < ·) ∧ ∀ x, x ∈ F' ↔ x ∈ F ∨ (x = t ∧ ¬ gDv t 2 ∧ ¬ gDv t 3) := by
        -- it goes in at a
        have fin : ∀ (a : Nat) (M1 : gx_M), a ≤ F.length → (∀ k, k ≠ 78 → M1 k = M k) → (∀ i : Nat, i < a → M1 78 (i : Int) = M 78 (i : Int)) → (∀ i : Nat, a < i → i ≤ F.length → M1 78 (i : Int) = M 78 (((i - 1 : Nat)) : Int)) → (∀ i x, a ≤ i → F[i]? = some x → t < x) → (∀ i x, i < a → F[i]? = some x → x < t) →
            (∀ k, k ≠ 67 → k ≠ 78 → (gx_up (gx_up M1 78 (a : Int) ((t * 256 : Nat) : Int)) 67 7 (M1 67 7 + 1)) k = M k) ∧ (∀ j, j ≠ 7 → (gx_up (gx_up M1 78 (a : Int) ((t * 256 : Nat) : Int)) 67 7 (M1 67 7 + 1)) 67 j = M 67 j) ∧ ∃ F', gFR (gx_up (gx_up M1 78 (a : Int) ((t * 256 : Nat) : Int)) 67 7 (M1 67 7 + 1)) F' ∧ F'.Pairwise (· < ·) ∧ ∀ x, x ∈ F' ↔ x ∈ F ∨ (x = t ∧ ¬ gDv t 2 ∧ ¬ gDv t 3) := by
          intro a M1 ha hf h1 h2 h3 h4
          refine ⟨fun k k1 k2 => by rw [gx_up_ne k1, gx_up_ne k2]; exact hf k k2, fun j hj => by rw [gx_up_at, if_neg hj, gx_up_ne (by decide), hf 67 (by decide)], F.take a ++ t :: F.drop a, ?_, ?_, ?_⟩
          · have hlen : (F.take a ++ t :: F.drop a).length = F.length + 1 := by
              rw [List.length_append, List.length_cons, List.length_take, List.length_drop]
              omega
            have hta : (F.take a).length = a := by rw [List.length_take]; omega
            refine ⟨⟨by rw [gx_up_at, if_pos rfl, hlen, hf 67 (by decide), f1]; omega, by omega⟩, fun i x hi => ?_⟩
            rw [gx_up_ne (by decide), gx_up_at]
            by_cases c1 : i < a
            · rw [List.getElem?_append_left (by omega), List.getElem?_take_of_lt c1] at hi
              rw [if_neg (by omega), h1 i c1]
              exact f3 i x hi
            · rw [List.getElem?_append_right (by omega), hta] at hi
              by_cases c2 : i = a
              · subst c2
                rw [Nat.sub_self] at hi
                have e : t = x := Option.some.inj hi
                subst e
                rw [if_pos rfl]
                exact ⟨rfl, ht⟩
              · rw [show i - a = (i - a - 1) + 1 from by omega, List.getElem?_cons_succ, List.getElem?_drop, show a + (i - a - 1) = i - 1 from by omega] at hi
                have hil := (List.getElem?_eq_some_iff.mp hi).1
                rw [if_neg (by omega), h2 i (by omega) (by omega)]
                exact f3 (i - 1) x hi
          · rw [List.pairwise_append]
            refine ⟨hs.sublist (List.take_sublist a F), List.pairwise_cons.mpr ⟨fun x hx => ?_, hs.sublist (List.drop_sublist a F)⟩, fun x hx y hy => ?_⟩
            · obtain ⟨i, hi⟩ := List.getElem?_of_mem hx
              rw [List.getElem?_drop] at hi
              exact h3 (a + i) x (by omega) hi
            · obtain ⟨i, hi⟩ := List.getElem?_of_mem hx
              have hia : i < a := by
                have := (List.getElem?_eq_some_iff.mp hi).1
                rw [List.length_take] at this
                omega
              rw [List.getElem?_take_of_lt hia] at hi
              have hxt := h4 i x hia hi
              rcases List.mem_cons.mp hy with e | e
              · rw [e]; exact hxt
              · obtain ⟨j, hj⟩ := List.getElem?_of_mem e
                rw [List.getElem?_drop] at hj
                have := h3 (a + j) y (by omega) hj
                omega
          · intro x
            have hm : x ∈ F ↔ x ∈ F.take a ∨ x ∈ F.drop a := by
              rw [← List.mem_append, List.take_append_drop]
            rw [List.mem_append, List.mem_cons, hm]
            constructor
            · rintro (z | z | z)
              · exact Or.inl (Or.inl z)
              · exact Or.inr ⟨z, c2, c3⟩
              · exact Or.inl (Or.inr z)
            · rintro ((z | z) | z)
              · exact Or.inl z
              · exact Or.inr (Or.inr z)
              · exact Or.inr (Or.inl z.1)
        intro a
        induction a with
        | zero =>
          intro M1 ha hf h1 h2 h3
          obtain ⟨q1, q2, F', q3, q4, q5⟩ := fin 0 M1 ha hf h1 h2 h3 (fun i x hi => absurd hi (Nat.not_lt_zero _))
          exact ⟨_, F', keepS_79_1 (Int.le_refl 0) ⟨by decide, by decide⟩ (by decide) ⟨rfl, rfl⟩, q1, q2, q3, q4, q5⟩
        | succ a ih =>
          intro M1 ha hf h1 h2 h3
          have hget : F[a]? = some F[a] := List.getElem?_eq_getElem (by omega)
          obtain ⟨v1, v2⟩ := f3 a F[a] hget
          have ea : ((a + 1 : Nat) : Int) - 1 = (a : Int) := by omega
          have e78 : M1 78 (((a + 1 : Nat) : Int) - 1) = ((F[a] * 256 : Nat) : Int) := by rw [ea, h1 a (by omega)]; exact v1
          have xR : gx_R (M1 78 (((a + 1 : Nat) : Int) - 1)) := by rw [e78]; exact ⟨by omega, by omega⟩
          have tR : gx_R ((t * 256 : Nat) : Int) := ⟨by omega, by omega⟩
          have g1 : (0 : Int) < ((a + 1 : Nat) : Int) := by omega
          have g2 : gx_R ((a + 1 : Nat) : Int) := ⟨by omega, by omega⟩
          by_cases c : F[a] ≤ t
          · have hne : ¬ F[a] = t := fun z => hn (by rw [← z]; exact List.getElem_mem _)
            obtain ⟨q1, q2, F', q3, q4, q5⟩ := fin (a + 1) M1 ha hf h1 h2 h3 (fun i x hi hx => by
              by_cases e : i = a
              · subst e
                rw [hget] at hx
                cases hx
                omega
              · obtain ⟨hil, rfl⟩ := List.getElem?_eq_some_iff.mp hx
                have := List.pairwise_iff_getElem.mp hs i a hil (by omega) (by omega)
                omega)
            exact ⟨_, F', keepS_79_01 g1 g2 ⟨by omega, by omega⟩ (by rw [e78]; omega) xR tR ⟨by omega, by omega⟩ ⟨rfl, rfl⟩, q1, q2, q3, q4, q5⟩
          · obtain ⟨M', F', k1, k2⟩ := ih (gx_up M1 78 ((a + 1 : Nat) : Int) (M1 78 (((a + 1 : Nat) : Int) - 1))) (by omega) (fun k hk => by rw [gx_up_ne hk]; exact hf k hk) (fun i hi => by rw [gx_up_at, if_neg (by omega)]; exact h1 i (by omega)) (fun i i1 i2 => by
              rw [gx_up_at]
              by_cases e : i = a + 1
              · rw [if_pos (by omega), ea, h1 a (by omega), show i - 1 = a from by omega]
              · rw [if_neg (by omega)]
                exact h2 i (by omega) i2) (fun i x hi hx => by
              by_cases e : i = a
              · subst e
                rw [hget] at hx
                cases hx
                omega
              · exact h3 i x (by omega) hx)
            refine ⟨M', F', keepS_79_00 g1 g2 ⟨by omega, by omega⟩ (by rw [e78]; omega) xR tR ⟨by omega, by omega⟩ ?_, k2⟩
            rw [show ((a + 1 : Nat) : Int) + (-1) = (a : Int) from by omega]
            exact k1
      -- the sum as one number
      have num : ∀ (k p : Nat), p + k = 8 → ∃ M' F', gx_G l κ gx_sh z_mt zX6_keep d (51, [gR 68, gI ((t * 256 / 4 ^ (8 - p) : Nat) : Int), gI (p : Int)], [], M) (gx_eq none M') ∧ (∀ k, k ≠ 67 → k ≠ 78 → M' k = M k) ∧ (∀ j, j ≠ 7 → M' 67 j = M 67 j) ∧ gFR M' F' ∧ F'.Pairwise (· < ·) ∧ ∀ x, x ∈ F' ↔ x ∈ F ∨ (x = t ∧ ¬ gDv t 2 ∧ ¬ gDv t 3) := by
        intro k
        induction k with
        | zero =>
          intro p hp
          have e : p = 8 := by omega
          subst e
          obtain ⟨M', F', k1, k2⟩ := ins F.length M (Nat.le_refl _) (fun _ _ => rfl) (fun _ _ => rfl) (fun i i1 i2 => by omega) (fun i x hi hx => by
            have := (List.getElem?_eq_some_iff.mp hx).1
            omega)
          refine ⟨M', F', keepS_51_1 (by decide) ⟨by decide, by decide⟩ ?_, k2⟩
          rw [f1, show t * 256 / 4 ^ (8 - 8) = t * 256 from by rw [Nat.sub_self, Nat.pow_zero, Nat.div_one]]
          exact k1
        | succ k ih =>
          intro p hp
          obtain ⟨M', F', k1, k2⟩ := ih (p + 1) (by omega)
          have hlt := kp_lt t ht p (by omega)
          refine ⟨M', F', keepS_51_0 (by omega) ⟨by omega, by omega⟩ ⟨by omega, by omega⟩ ?_, k2⟩
          have e1 := gb_shl (t * 256 / 4 ^ (8 - p)) 2 (by decide) (by omega)
          have e2 : gx_or (gx_shl ((t * 256 / 4 ^ (8 - p) : Nat) : Int) 2) (M 76 (p : Int)) = ((t * 256 / 4 ^ (8 - (p + 1)) : Nat) : Int) := by
            have e3 : gx_shl ((t * 256 / 4 ^ (8 - p) : Nat) : Int) 2 = (((t * 256 / 4 ^ (8 - p)) * 2 ^ 2 : Nat) : Int) := e1
            have h4 := dgn_lt t p
            rw [e3, hw p (by omega), gb_or _ _ (by omega) (by omega), kp_or t ht p (by omega), show 8 - (p + 1) = 7 - p from by omega]
          rw [e2]
          exact k1
      obtain ⟨M', F', k1, k2⟩ := num 8 0 (by omega)
      rw [show t * 256 / 4 ^ (8 - 0) = 0 from kp_0 t ht] at k1
      exact ⟨M', F', keepS_e_011 a2 (by omega) rfl ⟨by decide, by decide⟩ a3 (by omega) rfl ⟨by decide, by decide⟩ (by omega) ⟨by omega, by omega⟩ k1, k2⟩
end SUMS
