/-! the class's sums: trying all weights of a set of places -/
theorem gbt_hi : ∀ s : Nat, s < 16 → ∀ p, p < 8 → 4 ≤ p → ¬ gbt (s : Int) p := by decide +kernel
theorem gbt_h4 {s : Int} (hs : g16 s) {p : Nat} (hp : p < 8) (h4 : 4 ≤ p) : ¬ gbt s p := by
  obtain ⟨s, rfl⟩ := gb_nat hs.1
  exact gbt_hi s (by have := hs.2; omega) p hp h4
theorem dgn_dg : ∀ t, t < 256 → dgn t 0 = t / 64 ∧ dgn t 1 = t / 16 % 4 ∧ dgn t 2 = t / 4 % 4 ∧ dgn t 3 = t % 4 := by decide +kernel
theorem dgn_mk (a : Nat) (ha : a < 4) (b : Nat) (hb : b < 4) (c : Nat) (hc : c < 4) (e : Nat) (he : e < 4) : a * 64 + b * 16 + c * 4 + e < 256 ∧ dgn (a * 64 + b * 16 + c * 4 + e) 0 = a ∧ dgn (a * 64 + b * 16 + c * 4 + e) 1 = b ∧ dgn (a * 64 + b * 16 + c * 4 + e) 2 = c ∧ dgn (a * 64 + b * 16 + c * 4 + e) 3 = e := by
  have h : a * 64 + b * 16 + c * 4 + e < 256 := by omega
  obtain ⟨h0, h1, h2, h3⟩ := dgn_dg _ h
  rw [h0, h1, h2, h3]
  omega
/-- the number of given weights -/
theorem dgn_ex {W : Int → Int} (h : ∀ p, 0 ≤ p → p < 8 → 0 ≤ W p ∧ W p ≤ 3) (h4 : ∀ p, 4 ≤ p → p < 8 → W p = 0) : ∃ t, t < 256 ∧ ∀ p : Nat, p < 8 → W (p : Int) = ((dgn t p : Nat) : Int) := by
  have h0 := h 0 (by decide) (by decide)
  have h1 := h 1 (by decide) (by decide)
  have h2 := h 2 (by decide) (by decide)
  have h3 := h 3 (by decide) (by decide)
  obtain ⟨e, e0, e1, e2, e3⟩ := dgn_mk (W 0).toNat (by omega) (W 1).toNat (by omega) (W 2).toNat (by omega) (W 3).toNat (by omega)
  refine ⟨_, e, fun p hp => ?_⟩
  by_cases hp4 : p < 4
  · rcases (by omega : p = 0 ∨ p = 1 ∨ p = 2 ∨ p = 3) with rfl | rfl | rfl | rfl
    · rw [e0]; show W 0 = _; omega
    · rw [e1]; show W 1 = _; omega
    · rw [e2]; show W 2 = _; omega
    · rw [e3]; show W 3 = _; omega
  · rw [dgn_hi _ e p hp (by omega), h4 (p : Int) (by omega) (by omega)]
    rfl
theorem dgn_pos {t : Nat} (h : t < 256) (h0 : 0 < t) : ∃ p, p < 4 ∧ dgn t p ≠ 0 := by
  have e := dgn_all t h
  by_cases h1 : dgn t 0 = 0
  · by_cases h2 : dgn t 1 = 0
    · by_cases h3 : dgn t 2 = 0
      · by_cases h4 : dgn t 3 = 0
        · omega
        · exact ⟨3, by decide, h4⟩
      · exact ⟨2, by decide, h3⟩
    · exact ⟨1, by decide, h2⟩
  · exact ⟨0, by decide, h1⟩
/-- no part of the set carries a kept sum -/
def gNS (g : Int → Int) (set : Int) : Prop := ∀ t', t' < 256 → Kp g t' → (∀ p : Nat, p < 8 → dgn t' p ≠ 0 → gbt set p) → ∀ p : Nat, p < 8 → gbt set p → dgn t' p ≠ 0
theorem Cm_sup {W : Int → Int} {set : Int} {pl t : Nat} (hc : Cm W set pl t) (hsup : ∀ p : Nat, p < 8 → p < pl → (W (p : Int) ≠ 0 ↔ gbt set p)) : ∀ p : Nat, p < 8 → (dgn t p ≠ 0 ↔ gbt set p) := by
  intro p hp
  by_cases h : p < pl
  · rw [← hsup p hp h, ← hc.2.1 p hp h]
    omega
  · exact hc.2.2 p hp (by omega)
theorem sup_min {g : Int → Int} {set : Int} {t : Nat} (hs : ∀ p : Nat, p < 8 → (dgn t p ≠ 0 ↔ gbt set p)) (hm : gNS g set) : gMin g t := by
  intro t' h1 h2 h3 p hp hz
  have h4 := hm t' h1 h2 (fun q hq hn => by
    refine (hs q hq).mp (fun z => hn (h3 q hq z)))
  by_cases e : dgn t p = 0
  · exact e
  · exact absurd hz (h4 p hp ((hs p hp).mp e))
theorem Cm_skip {W : Int → Int} {set : Int} {pl t : Nat} (hp : pl < 8) (h0 : W (pl : Int) = 0) (hb : ¬ gbt set pl) : Cm W set (pl + 1) t ↔ Cm W set pl t := by
  constructor
  · rintro ⟨a, b, c⟩
    refine ⟨a, fun p p1 p2 => b p p1 (by omega), fun p p1 p2 => ?_⟩
    by_cases e : p = pl
    · subst e
      have h1 := b p p1 (by omega)
      rw [h0] at h1
      exact ⟨fun z => absurd (by omega) z, fun z => absurd z hb⟩
    · exact c p p1 (by omega)
  · rintro ⟨a, b, c⟩
    refine ⟨a, fun p p1 p2 => ?_, fun p p1 p2 => c p p1 (by omega)⟩
    by_cases e : p = pl
    · subst e
      rw [h0]
      have h1 := c p p1 (Nat.le_refl _)
      have h2 : dgn t p = 0 := by
        by_cases e : dgn t p = 0
        · exact e
        · exact absurd (h1.mp e) hb
      rw [h2]
      rfl
    · exact b p p1 (by omega)
theorem Cm_fix {W W2 : Int → Int} {set : Int} {pl t w : Nat} (hp : pl < 8) (hw : w ≠ 0) (h2 : ∀ p, 0 ≤ p → p < 8 → W2 p = if p = (pl : Int) then (w : Int) else W p) (hb : gbt set pl) : Cm W2 set (pl + 1) t ↔ Cm W set pl t ∧ dgn t pl = w := by
  constructor
  · rintro ⟨a, b, c⟩
    have h3 := b pl hp (by omega)
    rw [h2 (pl : Int) (by omega) (by omega), if_pos rfl] at h3
    refine ⟨⟨a, fun p p1 p2 => ?_, fun p p1 p2 => ?_⟩, by omega⟩
    · have := b p p1 (by omega)
      rw [h2 (p : Int) (by omega) (by omega), if_neg (by omega)] at this
      exact this
    · by_cases e : p = pl
      · subst e
        exact ⟨fun _ => hb, fun _ => by omega⟩
      · exact c p p1 (by omega)
  · rintro ⟨⟨a, b, c⟩, e0⟩
    refine ⟨a, fun p p1 p2 => ?_, fun p p1 p2 => c p p1 (by omega)⟩
    rw [h2 (p : Int) (by omega) (by omega)]
    by_cases e : p = pl
    · subst e
      rw [if_pos rfl, e0]
    · rw [if_neg (by omega)]
      exact b p p1 (by omega)
/-- before weights are tried -/
def gWs (M : gx_M) (set : Int) (pl : Nat) (F : List Nat) : Prop := gSB M ∧ (∀ p : Nat, p < 8 → pl ≤ p → M 76 (p : Int) = 0) ∧ (∀ p : Nat, p < 8 → p < pl → (M 76 (p : Int) ≠ 0 ↔ gbt set p)) ∧ gFR M F ∧ F.Pairwise (· < ·) ∧ (∀ t ∈ F, Good (M 74) t) ∧ ∀ t ∈ F, ¬ Cm (M 76) set pl t
def gWf (M M' : gx_M) (set : Int) : Prop := (∀ k, k ≠ 67 → k ≠ 75 → k ≠ 76 → k ≠ 77 → k ≠ 78 → M' k = M k) ∧ (∀ j, j ≠ 7 → M' 67 j = M 67 j) ∧ gSB M' ∧ ∀ s, s ≠ set → M' 77 s = M 77 s
/-- behind it -/
def gWe (M M' : gx_M) (set : Int) (pl : Nat) (F F' : List Nat) : Prop := gWf M M' set ∧ (∀ p, 0 ≤ p → p < 8 → M' 76 p = M 76 p) ∧ ((M' 77 set = 1 ∧ ∃ t, Cm (M 76) set pl t ∧ Kp (M 74) t) ∨ (M' 77 set = M 77 set ∧ ¬ ∃ t, Cm (M 76) set pl t ∧ Kp (M 74) t)) ∧ gFR M' F' ∧ F'.Pairwise (· < ·) ∧ ∀ x, x ∈ F' ↔ x ∈ F ∨ (Cm (M 76) set pl x ∧ Kp (M 74) x ∧ ¬ gDv x 2 ∧ ¬ gDv x 3)
section WEIGH
variable {l : Launch} {κ : yK}
theorem X_weigh {set : Int} (hs : g16 set) (h1 : 1 ≤ set) : ∀ (k pl d : Nat) (M : gx_M) (F : List Nat), pl + k = 8 → k + 2 ≤ d → gNS (M 74) set → gWs M set pl F →
    ∃ M' F', gx_X l κ gx_sh z_mt zX6_weigh d [gR 68, gI set, gI (pl : Int)] M (gx_eq none M') ∧ gWe M M' set pl F F' := by
  intro k
  induction k with
  | zero =>
    intro pl d M F hk hd hns hw
    obtain ⟨w1, w2, w3, w4, w5, w6, w7⟩ := hw
    have e8 : pl = 8 := by omega
    subst e8
    obtain ⟨r, c1, c2, c3, c4⟩ := X_canBal (l := l) (κ := κ) (d := 0) (M := M) (set := set) (pl := 8) hs (by omega) w1 w2
    rcases c2 with c2 | c2
    · have c3 := c3 c2
      refine ⟨M, F, weigh_e_0 c1 (by omega) c2 (by rw [c2]; exact ⟨by decide, by decide⟩) ⟨rfl, rfl⟩, ⟨fun _ _ _ _ _ _ => rfl, fun _ _ => rfl, w1, fun _ _ => rfl⟩, fun _ _ _ => rfl, Or.inr ⟨rfl, fun ⟨t, t1, t2⟩ => c3 t t1 t2⟩, w4, w5, fun x => ⟨Or.inl, fun z => ?_⟩⟩
      rcases z with z | z
      · exact z
      · exact absurd z.2.1 (c3 x z.1)
    · have c4 := c4 rfl c2
      obtain ⟨t0, t1, t2⟩ := dgn_ex w1.2.1 (fun p p1 p2 => by
        obtain ⟨q, rfl⟩ := gb_nat (show 0 ≤ p by omega)
        by_cases e : M 76 (q : Int) = 0
        · exact e
        · exact absurd ((w3 q (by omega) (by omega)).mp e) (gbt_h4 hs (by omega) (by omega)))
      have hc0 : Cm (M 76) set 8 t0 := ⟨t1, fun p p1 _ => (t2 p p1).symm, fun p p1 p2 => by omega⟩
      have hcu : ∀ x, Cm (M 76) set 8 x → x = t0 := fun x hx => dgn_eq hx.1 t1 (fun p hp => by
        have a1 := hx.2.1 p (by omega) (by omega)
        have a2 := t2 p (by omega)
        omega)
      have hsp := Cm_sup hc0 w3
      have hpos : 0 < t0 := by
        by_cases e : t0 = 0
        · exfalso
          have hz : ∀ p, p < 4 → ¬ gbt set p := fun p hp z => by
            have := (hsp p (by omega)).mpr z
            rw [e] at this
            have h9 : ∀ p, p < 8 → dgn 0 p = 0 := by decide
            exact this (h9 p (by omega))
          have := gb_ext hs (show g16 0 from ⟨by decide, by decide⟩) (fun p hp => ⟨fun z => absurd z (hz p hp), fun z => absurd z (gb_f0 p hp)⟩)
          omega
        · omega
      have hkp : Kp (M 74) t0 := ⟨hpos, fun m m1 m2 => by
        have e1 := w1.2.2 m m1 m2
        rw [c4 m m1 m2] at e1
        unfold gSu
        rw [e1]
        exact gsm_congr 8 (fun j j1 j2 => by
          obtain ⟨q, rfl⟩ := gb_nat j1
          show dgi t0 (q : Int) * _ = M 76 (q : Int) * _
          rw [dgi_nat, t2 q (by omega)])⟩
      have hlen := good_58 w5 w6
      have hFR1 : gFR (gx_up M 77 set 1) F := by
        unfold gFR at *
        rw [gx_up_ne (by decide), gx_up_ne (by decide)]
        exact w4
      obtain ⟨M', F', k1, k2, k3, k4, k5, k6⟩ := X_keepS (l := l) (κ := κ) (d := 1) (M := gx_up M 77 set 1) (F := F) (t := t0) (by omega) t1 (fun p hp => by rw [gx_up_ne (by decide)]; exact t2 p hp) hFR1 w5 (fun z => w7 t0 z hc0) (by omega)
      have e74 : M' 74 = M 74 := by rw [k2 74 (by decide) (by decide), gx_up_ne (by decide)]
      have e75 : M' 75 = M 75 := by rw [k2 75 (by decide) (by decide), gx_up_ne (by decide)]
      have e76 : M' 76 = M 76 := by rw [k2 76 (by decide) (by decide), gx_up_ne (by decide)]
      have hs0 := hs.1
      have hs1 := hs.2
      refine ⟨M', F', weigh_e_10 c1 (by omega) (by omega) (by rw [c2]; exact ⟨by decide, by decide⟩) (by decide) ⟨by decide, by decide⟩ ⟨by omega, by omega⟩ k1 (by omega) ⟨rfl, rfl⟩, ⟨fun k a1 a2 a3 a4 a5 => by rw [k2 k a1 a5, gx_up_ne a4], fun j hj => by rw [k3 j hj, gx_up_ne (by decide)], ?_, fun s hs' => by rw [k2 77 (by decide) (by decide), gx_up_at, if_neg hs']⟩, fun p _ _ => by rw [e76], Or.inl ⟨by rw [k2 77 (by decide) (by decide), gx_up_at, if_pos rfl], t0, hc0, hkp⟩, k4, k5, fun x => ?_⟩
      · unfold gSB at *
        rw [e74, e75, e76]
        exact w1
      · rw [k6 x]
        constructor
        · rintro (z | ⟨z, z2⟩)
          · exact Or.inl z
          · subst z
            exact Or.inr ⟨hc0, hkp, z2⟩
        · rintro (z | ⟨z1, z2, z3⟩)
          · exact Or.inl z
          · have e := hcu x z1
            subst e
            exact Or.inr ⟨rfl, z3⟩
  | succ k ih =>
    intro pl d M F hk hd hns hw
    have hw0 := hw
    obtain ⟨w1, w2, w3, w4, w5, w6, w7⟩ := hw
    have hp8 : pl < 8 := by omega
    obtain ⟨r, c1, c2, c3, -⟩ := X_canBal (l := l) (κ := κ) (d := 0) (M := M) (set := set) (pl := pl) hs (by omega) w1 w2
    rcases c2 with c2 | c2
    · have c3 := c3 c2
      refine ⟨M, F, weigh_e_0 c1 (by omega) c2 (by rw [c2]; exact ⟨by decide, by decide⟩) ⟨rfl, rfl⟩, ⟨fun _ _ _ _ _ _ => rfl, fun _ _ => rfl, w1, fun _ _ => rfl⟩, fun _ _ _ => rfl, Or.inr ⟨rfl, fun ⟨t, t1, t2⟩ => c3 t t1 t2⟩, w4, w5, fun x => ⟨Or.inl, fun z => ?_⟩⟩
      rcases z with z | z
      · exact z
      · exact absurd z.2.1 (c3 x z.1)
    · have rN : ¬ r = 0 := by omega
      have rR : gx_R r := by rw [c2]; exact ⟨by decide, by decide⟩
      have pR : gx_R (pl : Int) := ⟨by omega, by omega⟩
      obtain ⟨v1, v2⟩ := gbt_bit hs hp8
      have bR : gx_R (gx_and (gx_shr set (pl : Int)) 1) := by rcases v1 with z | z <;> rw [z] <;> exact ⟨by decide, by decide⟩
      obtain ⟨d, rfl⟩ : ∃ e, d = e + 1 := ⟨d - 1, by omega⟩
      by_cases cb : gbt set pl
      · have c0 : ¬ gx_and (gx_shr set (pl : Int)) 1 = 0 := by rw [v2.mp cb]; decide
        -- one weight after the other
        have loop : ∀ (j w : Nat) (M1 : gx_M) (F1 : List Nat), w + j = 4 → 1 ≤ w → gWf M M1 set → (∀ p, 0 ≤ p → p < 8 → M1 76 p = if p = (pl : Int) then ((w - 1 : Nat) : Int) else M 76 p) → ((M1 77 set = 1 ∧ ∃ t, Cm (M 76) set pl t ∧ Kp (M 74) t ∧ dgn t pl < w) ∨ (M1 77 set = M 77 set ∧ ¬ ∃ t, Cm (M 76) set pl t ∧ Kp (M 74) t ∧ dgn t pl < w)) → gFR M1 F1 → F1.Pairwise (· < ·) → (∀ x, x ∈ F1 ↔ x ∈ F ∨ ((Cm (M 76) set pl x ∧ Kp (M 74) x ∧ ¬ gDv x 2 ∧ ¬ gDv x 3) ∧ dgn x pl < w)) →
            ∃ M' F', gx_G l κ gx_sh z_mt zX6_weigh (d + 1) (47, [gR 68, gI set, gI (pl : Int), gI (w : Int)], [], M1) (gx_eq none M') ∧ gWe M M' set pl F F' := by
          intro j
          induction j with
          | zero =>
            intro w M1 F1 hj hw1 hf h76 h77 hF hsr hmem
            have e4 : w = 4 := by omega
            subst e4
            obtain ⟨M2, x1, x2, x3, x4⟩ := X_balance (l := l) (κ := κ) (d := 0) (M := M1) (pl := pl) (w := 0) hp8 (by decide) hf.2.2.1
            have lt4 : ∀ t, dgn t pl < 4 := fun t => dgn_lt t pl
            refine ⟨M2, F1, weigh_47_1 (by decide) ⟨by decide, by decide⟩ x1 (by omega) ⟨rfl, rfl⟩, ⟨fun k a1 a2 a3 a4 a5 => by rw [x2 k a2 a3]; exact hf.1 k a1 a2 a3 a4 a5, fun j hj => by rw [x2 67 (by decide) (by decide)]; exact hf.2.1 j hj, x4, fun s hs' => by rw [x2 77 (by decide) (by decide)]; exact hf.2.2.2 s hs'⟩, fun p p1 p2 => ?_, ?_, ?_, hsr, fun x => ?_⟩
            · rw [x3]
              by_cases e : p = (pl : Int)
              · rw [if_pos e, e, w2 pl hp8 (Nat.le_refl _)]
              · rw [if_neg e, h76 p p1 p2, if_neg e]
            · rw [x2 77 (by decide) (by decide)]
              rcases h77 with ⟨z1, t, z2, z3, -⟩ | ⟨z1, z2⟩
              · exact Or.inl ⟨z1, t, z2, z3⟩
              · exact Or.inr ⟨z1, fun ⟨t, t1, t2⟩ => z2 ⟨t, t1, t2, lt4 t⟩⟩
            · unfold gFR at *
              rw [x2 67 (by decide) (by decide), x2 78 (by decide) (by decide)]
              exact hF
            · rw [hmem x]
              exact ⟨fun z => z.imp id (fun y => y.1), fun z => z.imp id (fun y => ⟨y, lt4 x⟩)⟩
          | succ j ihj =>
            intro w M1 F1 hj hw1 hf h76 h77 hF hsr hmem
            obtain ⟨M2, x1, x2, x3, x4⟩ := X_balance (l := l) (κ := κ) (d := d) (M := M1) (pl := pl) (w := (w : Int)) hp8 ⟨by omega, by omega⟩ hf.2.2.1
            have e74 : M2 74 = M 74 := by rw [x2 74 (by decide) (by decide)]; exact hf.1 74 (by decide) (by decide) (by decide) (by decide) (by decide)
            have h76' : ∀ p, 0 ≤ p → p < 8 → M2 76 p = if p = (pl : Int) then (w : Int) else M 76 p := fun p p1 p2 => by
              rw [x3]
              by_cases e : p = (pl : Int)
              · rw [if_pos e, if_pos e]
              · rw [if_neg e, if_neg e, h76 p p1 p2, if_neg e]
            have hfix : ∀ x, Cm (M2 76) set (pl + 1) x ↔ Cm (M 76) set pl x ∧ dgn x pl = w := fun x => Cm_fix hp8 (by omega) h76' cb
            have hgood : ∀ x ∈ F1, Good (M 74) x := fun x hx => by
              rcases (hmem x).mp hx with z | ⟨⟨z1, z2, z3, z4⟩, -⟩
              · exact w6 x z
              · exact ⟨z1.1, z2, sup_min (Cm_sup z1 w3) hns, z3, z4⟩
            have hFR2 : gFR M2 F1 := by
              unfold gFR at *
              rw [x2 67 (by decide) (by decide), x2 78 (by decide) (by decide)]
              exact hF
            obtain ⟨M3, F3, y1, ⟨y2, y3, y4, y5⟩, y7, y8, y9, y10, y11⟩ := ih (pl + 1) d M2 F1 (by omega) (by omega) (by rw [e74]; exact hns) ⟨x4, fun p p1 p2 => by rw [h76' (p : Int) (by omega) (by omega), if_neg (by omega)]; exact w2 p p1 (by omega), fun p p1 p2 => by
              rw [h76' (p : Int) (by omega) (by omega)]
              by_cases e : p = pl
              · rw [if_pos (by omega), e]
                exact ⟨fun _ => cb, fun _ => by omega⟩
              · rw [if_neg (by omega)]
                exact w3 p p1 (by omega), hFR2, hsr, fun x hx => by rw [e74]; exact hgood x hx, fun x hx hc => by
              obtain ⟨q1, q2⟩ := (hfix x).mp hc
              rcases (hmem x).mp hx with z | ⟨-, z⟩
              · exact w7 x z q1
              · omega⟩
            rw [e74] at y8 y11
            have hf3 : gWf M M3 set := ⟨fun k a1 a2 a3 a4 a5 => by rw [y2 k a1 a2 a3 a4 a5, x2 k a2 a3]; exact hf.1 k a1 a2 a3 a4 a5, fun j hj => by rw [y3 j hj, x2 67 (by decide) (by decide)]; exact hf.2.1 j hj, y4, fun s hs' => by rw [y5 s hs', x2 77 (by decide) (by decide)]; exact hf.2.2.2 s hs'⟩
            obtain ⟨M', F', k1, k2⟩ := ihj (w + 1) M3 F3 (by omega) (by omega) hf3 (fun p p1 p2 => by rw [y7 p p1 p2, h76' p p1 p2, show w + 1 - 1 = w from by omega]) (by
              rw [x2 77 (by decide) (by decide)] at y8
              rcases y8 with ⟨z1, t, z2, z3⟩ | ⟨z1, z2⟩
              · obtain ⟨q1, q2⟩ := (hfix t).mp z2
                exact Or.inl ⟨z1, t, q1, z3, by omega⟩
              · rw [z1]
                rcases h77 with ⟨u1, t, u2, u3, u4⟩ | ⟨u1, u2⟩
                · exact Or.inl ⟨u1, t, u2, u3, by omega⟩
                · refine Or.inr ⟨u1, fun ⟨t, t1, t2, t3⟩ => ?_⟩
                  by_cases e : dgn t pl = w
                  · exact z2 ⟨t, (hfix t).mpr ⟨t1, e⟩, t2⟩
                  · exact u2 ⟨t, t1, t2, by omega⟩) y9 y10 (fun x => by
              rw [y11 x, hmem x, hfix x]
              constructor
              · rintro ((z | ⟨z1, z2⟩) | ⟨⟨z1, z2⟩, z3⟩)
                · exact Or.inl z
                · exact Or.inr ⟨z1, by omega⟩
                · exact Or.inr ⟨⟨z1, z3⟩, by omega⟩
              · rintro (z | ⟨⟨z1, z3⟩, z2⟩)
                · exact Or.inl (Or.inl z)
                · by_cases e : dgn x pl = w
                  · exact Or.inr ⟨⟨z1, e⟩, z3⟩
                  · exact Or.inl (Or.inr ⟨⟨z1, z3⟩, by omega⟩))
            have ec : ((pl : Int) + 1) = ((pl + 1 : Nat) : Int) := by omega
            refine ⟨M', F', weigh_47_0 (by omega) ⟨by omega, by omega⟩ x1 (by omega) (M2 := M3) (d2 := d) ?_ (by omega) ?_, k2⟩
            · rw [ec]; exact y1
            · rw [show ((w : Int) + 1) = ((w + 1 : Nat) : Int) from by omega]; exact k1
        obtain ⟨M', F', k1, k2⟩ := loop 3 1 M F (by omega) (by omega) ⟨fun _ _ _ _ _ _ => rfl, fun _ _ => rfl, w1, fun _ _ => rfl⟩ (fun p p1 p2 => by
          by_cases e : p = (pl : Int)
          · rw [if_pos e, e, w2 pl hp8 (Nat.le_refl _)]; rfl
          · rw [if_neg e]) (Or.inr ⟨rfl, fun ⟨t, t1, _, t3⟩ => by
          have := (t1.2.2 pl hp8 (Nat.le_refl _)).mpr cb
          omega⟩) w4 w5 (fun x => ⟨Or.inl, fun z => by
          rcases z with z | ⟨⟨z1, -⟩, z3⟩
          · exact z
          · have := (z1.2.2 pl hp8 (Nat.le_refl _)).mpr cb
            omega⟩)
        exact ⟨M', F', weigh_e_111 c1 (by omega) rN rR (by omega) pR c0 bR k1, k2⟩
      · have c0 : gx_and (gx_shr set (pl : Int)) 1 = 0 := by
          rcases v1 with z | z
          · exact z
          · exact absurd (v2.mpr z) cb
        have hsk : ∀ x, Cm (M 76) set (pl + 1) x ↔ Cm (M 76) set pl x := fun x => Cm_skip hp8 (w2 pl hp8 (Nat.le_refl _)) cb
        obtain ⟨M', F', y1, y2, y3, y4, y5, y6, y7⟩ := ih (pl + 1) d M F (by omega) (by omega) hns ⟨w1, fun p p1 p2 => w2 p p1 (by omega), fun p p1 p2 => by
          by_cases e : p = pl
          · rw [e, w2 pl hp8 (Nat.le_refl _)]
            exact ⟨fun z => absurd rfl z, fun z => absurd z cb⟩
          · exact w3 p p1 (by omega), w4, w5, w6, fun x hx hc => w7 x hx ((hsk x).mp hc)⟩
        have ec : ((pl : Int) + 1) = ((pl + 1 : Nat) : Int) := by omega
        refine ⟨M', F', weigh_e_110 c1 (by omega) rN rR (by omega) pR c0 bR (M2 := M') (d2 := d) (by rw [ec]; exact y1) (by omega) ⟨rfl, rfl⟩, y2, y3, ?_, y5, y6, fun x => ?_⟩
        · rcases y4 with ⟨z1, t, z2, z3⟩ | ⟨z1, z2⟩
          · exact Or.inl ⟨z1, t, (hsk t).mp z2, z3⟩
          · exact Or.inr ⟨z1, fun ⟨t, t1, t2⟩ => z2 ⟨t, (hsk t).mpr t1, t2⟩⟩
        · rw [y7 x, hsk x]
end WEIGH
