/-! the class's smallest kept sums: all of them; what is told of them -/
theorem sx_f : ∀ a : Nat, a < 16 → ∀ p : Nat, p < 4 → gbt (a : Int) p → (0 ≤ gx_xor (a : Int) (gx_shl 1 (p : Int)) ∧ gx_xor (a : Int) (gx_shl 1 (p : Int)) < (a : Int)) := by decide +kernel
def sx_b (a p q : Nat) : Bool := !(decide (gbt (a : Int) p)) || decide (gbt (gx_xor (a : Int) (gx_shl 1 (p : Int))) q ↔ gbt (a : Int) q ∧ ¬ q = p)
theorem sx_h : ∀ a : Nat, a < 16 → ∀ p : Nat, p < 4 → ∀ q : Nat, q < 8 → sx_b a p q = true := by decide +kernel
theorem sx_g (a : Nat) (ha : a < 16) (p : Nat) (hp : p < 4) (hb : gbt (a : Int) p) (q : Nat) (hq : q < 8) : gbt (gx_xor (a : Int) (gx_shl 1 (p : Int))) q ↔ gbt (a : Int) q ∧ ¬ q = p := by
  have h := sx_h a ha p hp q hq
  unfold sx_b at h
  rw [decide_eq_true hb] at h
  exact of_decide_eq_true h
theorem sx_ok {a : Int} (ha : g16 a) {p : Nat} (hp : p < 4) (hb : gbt a p) : (0 ≤ gx_xor a (gx_shl 1 (p : Int)) ∧ gx_xor a (gx_shl 1 (p : Int)) < a) ∧ ∀ q : Nat, q < 8 → (gbt (gx_xor a (gx_shl 1 (p : Int))) q ↔ gbt a q ∧ ¬ q = p) := by
  obtain ⟨a, rfl⟩ := gb_nat ha.1
  have := ha.2
  exact ⟨sx_f a (by omega) p hp hb, sx_g a (by omega) p hp hb⟩
/-- a kept sum lies on the set -/
def gCk (g : Int → Int) (s : Int) : Prop := ∃ t, t < 256 ∧ Kp g t ∧ ∀ p : Nat, p < 8 → dgn t p ≠ 0 → gbt s p
def gCov (M : gx_M) (S : Int) : Prop := ∀ s, 0 ≤ s → s < S → (M 77 s = 1 ∧ gCk (M 74) s) ∨ (M 77 s = 0 ∧ ¬ gCk (M 74) s)
theorem gsu_congr {g g' : Int → Int} (h : ∀ i, 0 ≤ i → i < 64 → g i = g' i) (t : Nat) {m : Int} (m1 : 0 ≤ m) (m2 : m < 8) : gSu g t m = gSu g' t m := gsm_congr 8 (fun j j1 j2 => by
  show dgi t j * g (m * 8 + j) = dgi t j * g' (m * 8 + j)
  rw [h (m * 8 + j) (by omega) (by omega)])
theorem Kp_congr {g g' : Int → Int} (h : ∀ i, 0 ≤ i → i < 64 → g i = g' i) (t : Nat) : Kp g t ↔ Kp g' t := by
  unfold Kp
  exact ⟨fun z => ⟨z.1, fun m m1 m2 => by rw [← gsu_congr h t m1 m2]; exact z.2 m m1 m2⟩, fun z => ⟨z.1, fun m m1 m2 => by rw [gsu_congr h t m1 m2]; exact z.2 m m1 m2⟩⟩
theorem Good_congr {g g' : Int → Int} (h : ∀ i, 0 ≤ i → i < 64 → g i = g' i) (t : Nat) : Good g t ↔ Good g' t := by
  have e : ∀ x, Kp g x ↔ Kp g' x := Kp_congr h
  unfold Good gMin
  constructor
  · rintro ⟨a, b, c, f⟩; exact ⟨a, (e t).mp b, fun t' h1 h2 h3 => c t' h1 ((e t').mpr h2) h3, f⟩
  · rintro ⟨a, b, c, f⟩; exact ⟨a, (e t).mpr b, fun t' h1 h2 h3 => c t' h1 ((e t').mp h2) h3, f⟩
/-- the list of the smallest kept sums of a net of P places -/
def gFL (g : Int → Int) (P : Int) (F : List Nat) : Prop := F.Pairwise (· < ·) ∧ ∀ x, x ∈ F ↔ Good g x ∧ ∀ p : Nat, p < 8 → P ≤ (p : Int) → dgn x p = 0
theorem srt_ext : ∀ (F F' : List Nat), F.Pairwise (· < ·) → F'.Pairwise (· < ·) → (∀ x, x ∈ F ↔ x ∈ F') → F = F' := by
  intro F
  induction F with
  | nil =>
    intro F' _ _ h
    cases F' with
    | nil => rfl
    | cons b r => exact absurd ((h b).mpr List.mem_cons_self) List.not_mem_nil
  | cons a F ih =>
    intro F' h1 h2 h
    cases F' with
    | nil => exact absurd ((h a).mp List.mem_cons_self) List.not_mem_nil
    | cons b r =>
      obtain ⟨a1, a2⟩ := List.pairwise_cons.mp h1
      obtain ⟨b1, b2⟩ := List.pairwise_cons.mp h2
      have e : a = b := by
        rcases List.mem_cons.mp ((h a).mp List.mem_cons_self) with z | z
        · exact z
        · rcases List.mem_cons.mp ((h b).mpr List.mem_cons_self) with y | y
          · exact y.symm
          · have := b1 a z
            have := a1 b y
            omega
      subst e
      rw [ih r a2 b2 (fun x => ⟨fun z => by
        rcases List.mem_cons.mp ((h x).mp (List.mem_cons_of_mem _ z)) with y | y
        · have := a1 x z
          omega
        · exact y, fun z => by
        rcases List.mem_cons.mp ((h x).mpr (List.mem_cons_of_mem _ z)) with y | y
        · have := b1 x z
          omega
        · exact y⟩)]
theorem gFL_eq {g g' : Int → Int} {P : Int} {F F' : List Nat} (h : gFL g P F) (h' : gFL g' P F') (he : ∀ i, 0 ≤ i → i < 64 → g i = g' i) : F = F' := srt_ext F F' h.1 h'.1 (fun x => by rw [h.2 x, h'.2 x, Good_congr he x])
theorem gFL_congr {g g' : Int → Int} {P : Int} {F : List Nat} (h : gFL g P F) (he : ∀ i, 0 ≤ i → i < 64 → g i = g' i) : gFL g' P F := ⟨h.1, fun x => by rw [h.2 x, Good_congr he x]⟩
/-- what the class keeps of the sums -/
def gSC (M : gx_M) : Prop := (M 67 1 = 0 ∨ M 67 1 = 1) ∧ (∀ p, 0 ≤ p → p < 8 → M 76 p = 0 ∧ M 75 p = 0) ∧ (∀ s, 0 ≤ s → s < 256 → M 77 s = 0 ∨ M 77 s = 1) ∧ M 77 0 = 0 ∧
  (M 67 1 = 1 → (((0 ≤ M 68 0 ∧ M 68 0 ≤ 4) ∧ (0 ≤ M 68 1 ∧ M 68 1 ≤ 4)) ∧ gAr M 72 73 ∧ ∀ i, 0 ≤ i → i < 64 → M 74 i = M 73 i - M 72 i) ∧ ∃ F, gFR M F ∧ gFL (M 74) (M 68 0) F)
theorem gSC_kept {M M' : gx_M} (h : gSC M) (hk : ∀ k, 67 ≤ k → k < 79 → M' k = M k) : gSC M' := by
  unfold gSC gFR gAr at *
  rw [hk 67 (by decide) (by decide), hk 68 (by decide) (by decide), hk 72 (by decide) (by decide), hk 73 (by decide) (by decide), hk 74 (by decide) (by decide), hk 75 (by decide) (by decide), hk 76 (by decide) (by decide), hk 77 (by decide) (by decide), hk 78 (by decide) (by decide)]
  exact h
section SFIND
variable {l : Launch} {κ : yK} {d : Nat}
theorem X_hasCov {M : gx_M} {set : Int} (hs : g16 set) (h77 : ∀ s, 0 ≤ s → s < 256 → M 77 s = 0 ∨ M 77 s = 1) :
    gx_X l κ gx_sh z_mt zX6_hasCoveredPart d [gR 68, gI set] M (gx_eq (some (gI (gi (∃ p : Nat, p < 4 ∧ gbt set p ∧ M 77 (gx_xor set (gx_shl 1 (p : Int))) = 1)))) M) := by
  have loop : ∀ (k p : Nat), p + k = 8 → (∀ q : Nat, q < p → q < 4 → gbt set q → ¬ M 77 (gx_xor set (gx_shl 1 (q : Int))) = 1) →
      gx_G l κ gx_sh z_mt zX6_hasCoveredPart d (2, [gR 68, gI set, gI (p : Int)], [], M) (gx_eq (some (gI (gi (∃ p : Nat, p < 4 ∧ gbt set p ∧ M 77 (gx_xor set (gx_shl 1 (p : Int))) = 1)))) M) := by
    intro k
    induction k with
    | zero =>
      intro p hp hno
      rw [gi_neg (fun ⟨q, q1, q2, q3⟩ => hno q (by omega) q1 q2 q3)]
      exact hasCov_2_1 (by omega) ⟨by omega, by omega⟩ ⟨rfl, rfl⟩
    | succ k ih =>
      intro p hp hno
      have hp8 : p < 8 := by omega
      obtain ⟨v1, v2⟩ := gbt_bit hs hp8
      have pR : gx_R (p : Int) := ⟨by omega, by omega⟩
      have bR : gx_R (gx_and (gx_shr set (p : Int)) 1) := by rcases v1 with z | z <;> rw [z] <;> exact ⟨by decide, by decide⟩
      by_cases cb : gbt set p
      · have c0 : ¬ gx_and (gx_shr set (p : Int)) 1 = 0 := by rw [v2.mp cb]; decide
        have h4 : p < 4 := by
          by_cases h : p < 4
          · exact h
          · exact absurd cb (gbt_h4 hs hp8 (by omega))
        obtain ⟨x1, -⟩ := sx_ok hs h4 cb
        have hs2 := hs.2
        have c7 := h77 (gx_xor set (gx_shl 1 (p : Int))) x1.1 (by omega)
        have cR : gx_R (M 77 (gx_xor set (gx_shl 1 (p : Int)))) := by rcases c7 with z | z <;> rw [z] <;> exact ⟨by decide, by decide⟩
        by_cases cz : M 77 (gx_xor set (gx_shl 1 (p : Int))) = 0
        · exact hasCov_2_001 (by omega) pR c0 bR ⟨x1.1, by omega⟩ cz cR (ih (p + 1) (by omega) (fun q q1 q2 q3 => by
            by_cases e : q = p
            · rw [e, cz]; decide
            · exact hno q (by omega) q2 q3))
        · rw [gi_pos ⟨p, h4, cb, by omega⟩]
          exact hasCov_2_000 (by omega) pR c0 bR ⟨x1.1, by omega⟩ cz cR ⟨rfl, rfl⟩
      · have c0 : gx_and (gx_shr set (p : Int)) 1 = 0 := by
          rcases v1 with z | z
          · exact z
          · exact absurd (v2.mpr z) cb
        exact hasCov_2_01 (by omega) pR c0 bR (ih (p + 1) (by omega) (fun q q1 q2 q3 => by
          by_cases e : q = p
          · rw [e] at q3; exact absurd q3 cb
          · exact hno q (by omega) q2 q3))
  exact hasCov_e (loop 8 0 (by omega) (fun q h => absurd h (Nat.not_lt_zero _)))
/-- the frame of the whole search -/
def gSF (M M' : gx_M) : Prop := (∀ k, k ≠ 67 → k ≠ 75 → k ≠ 76 → k ≠ 77 → k ≠ 78 → M' k = M k) ∧ ∀ j, j ≠ 7 → M' 67 j = M 67 j
def Sp (x : Nat) (s : Int) : Prop := ∀ p : Nat, p < 8 → (dgn x p ≠ 0 ↔ gbt s p)
theorem X_sets {M : gx_M} (hd : 11 ≤ d) {P : Nat} (hP : gx_shl 1 (M 1 0) = 2 ^ P ∧ P ≤ 4) : ∀ (k S : Nat) (M1 : gx_M) (F : List Nat), S + k = 2 ^ P → 1 ≤ S → gSF M M1 → gSB M1 → (∀ p, 0 ≤ p → p < 8 → M1 76 p = 0) → (∀ s, 0 ≤ s → s < 256 → M1 77 s = 0 ∨ M1 77 s = 1) → M1 77 0 = 0 → gCov M1 (S : Int) → gFR M1 F → F.Pairwise (· < ·) → (∀ x, x ∈ F ↔ Good (M 74) x ∧ ∃ s : Int, 0 ≤ s ∧ s < (S : Int) ∧ Sp x s) →
    ∃ M' F', gx_G l κ gx_sh z_mt zX6_find d (72, [gR 68, gR 2, gI (S : Int)], [], M1) (gx_eq none M') ∧ gSF M M' ∧ gSB M' ∧ (∀ p, 0 ≤ p → p < 8 → M' 76 p = 0) ∧ (∀ s, 0 ≤ s → s < 256 → M' 77 s = 0 ∨ M' 77 s = 1) ∧ M' 77 0 = 0 ∧ gFR M' F' ∧ F'.Pairwise (· < ·) ∧ ∀ x, x ∈ F' ↔ Good (M 74) x ∧ ∃ s : Int, 0 ≤ s ∧ s < 2 ^ P ∧ Sp x s := by
  have h16 : (2 : Nat) ^ P ≤ 16 := by
    have := Nat.pow_le_pow_right (n := 2) (by decide) hP.2
    exact this
  have ep : ((2 ^ P : Nat) : Int) = 2 ^ P := by rw [Int.natCast_pow]; rfl
  intro k
  induction k with
  | zero =>
    intro S M1 F hk hS hF hB h76 h77 h0 hC hR hs hm
    have e : S = 2 ^ P := by omega
    have e1 : gx_shl 1 (M1 1 0) = (S : Int) := by rw [hF.1 1 (by decide) (by decide) (by decide) (by decide) (by decide), hP.1, e, ep]
    refine ⟨M1, F, sfind_72_1 (by omega) ⟨by omega, by omega⟩ (by rw [e1]; exact ⟨by omega, by omega⟩) ⟨rfl, rfl⟩, hF, hB, h76, h77, h0, hR, hs, fun x => ?_⟩
    rw [hm x, e, ep]
  | succ k ih =>
    intro S M1 F hk hS hF hB h76 h77 h0 hC hR hs hm
    have e1 : gx_shl 1 (M1 1 0) = ((2 ^ P : Nat) : Int) := by rw [hF.1 1 (by decide) (by decide) (by decide) (by decide) (by decide), hP.1, ep]
    have e74 : M1 74 = M 74 := hF.1 74 (by decide) (by decide) (by decide) (by decide) (by decide)
    have hs16 : g16 (S : Int) := ⟨by omega, by omega⟩
    have g1 : (S : Int) < gx_shl 1 (M1 1 0) := by omega
    have g2 : gx_R (S : Int) := ⟨by omega, by omega⟩
    have g3 : gx_R (gx_shl 1 (M1 1 0)) := by rw [e1]; exact ⟨by omega, by omega⟩
    have hcv := X_hasCov (l := l) (κ := κ) (d := 0) (M := M1) (set := (S : Int)) hs16 h77
    have g6 : (0 : Int) ≤ (S : Int) ∧ (S : Int) < 256 := ⟨by omega, by omega⟩
    by_cases cc : ∃ p : Nat, p < 4 ∧ gbt (S : Int) p ∧ M1 77 (gx_xor (S : Int) (gx_shl 1 (p : Int))) = 1
    · rw [gi_pos cc] at hcv
      obtain ⟨p, p1, p2, p3⟩ := cc
      obtain ⟨x1, x2⟩ := sx_ok hs16 p1 p2
      obtain ⟨t, t1, t2, t3⟩ : gCk (M 74) (gx_xor (S : Int) (gx_shl 1 (p : Int))) := by
        rcases hC _ x1.1 x1.2 with z | z
        · rw [← e74]; exact z.2
        · omega
      have ev : (gx_up M1 77 (S : Int) 1) 77 (S : Int) = 1 := by rw [gx_up_at, if_pos rfl]
      have f2 : ∀ k, k ≠ 77 → (gx_up M1 77 (S : Int) 1) k = M1 k := fun k hk => gx_up_ne hk
      obtain ⟨M', F', k1, k2⟩ := ih (S + 1) (gx_up M1 77 (S : Int) 1) F (by omega) (by omega) ⟨fun k a1 a2 a3 a4 a5 => by rw [f2 k a4]; exact hF.1 k a1 a2 a3 a4 a5, fun j hj => by rw [f2 67 (by decide)]; exact hF.2 j hj⟩ (by unfold gSB at *; rw [f2 74 (by decide), f2 75 (by decide), f2 76 (by decide)]; exact hB) (fun p a1 a2 => by rw [f2 76 (by decide)]; exact h76 p a1 a2) (fun s s1 s2 => by
        rw [gx_up_at]
        split
        · exact Or.inr rfl
        · exact h77 s s1 s2) (by rw [gx_up_at, if_neg (by omega)]; exact h0) (fun s s1 s2 => by
        rw [gx_up_at, f2 74 (by decide)]
        by_cases e : s = (S : Int)
        · rw [if_pos e, e, e74]
          exact Or.inl ⟨rfl, t, t1, t2, fun q q1 q2 => ((x2 q q1).mp (t3 q q1 q2)).1⟩
        · rw [if_neg e]
          exact hC s s1 (by omega)) (by unfold gFR at *; rw [f2 67 (by decide), f2 78 (by decide)]; exact hR) hs (fun x => by
        rw [hm x]
        constructor
        · rintro ⟨z1, s, s1, s2, s3⟩; exact ⟨z1, s, s1, by omega, s3⟩
        · rintro ⟨z1, s, s1, s2, s3⟩
          by_cases e : s = (S : Int)
          · exfalso
            subst e
            -- its part carries a sum
            have hsub : Sub t x := fun q q1 qz => by
              by_cases e : dgn t q = 0
              · exact e
              · exact absurd qz ((s3 q q1).mpr ((x2 q q1).mp (t3 q q1 e)).1)
            have h9 := z1.2.2.1 t t1 t2 hsub p (by omega)
            by_cases e : dgn t p = 0
            · exact absurd (h9 e) ((s3 p (by omega)).mpr p2)
            · exact absurd rfl ((x2 p (by omega)).mp (t3 p (by omega) e)).2
          · exact ⟨z1, s, s1, by omega, s3⟩)
      refine ⟨M', F', sfind_72_01 g1 g2 g3 hcv (by omega) g6 (Or.inr rfl) (by rw [ev]; decide) (by rw [ev]; exact ⟨by decide, by decide⟩) ?_, k2⟩
      rw [show ((S : Int) + 1) = ((S + 1 : Nat) : Int) from by omega]
      exact k1
    · rw [gi_neg cc] at hcv
      have ev : (gx_up M1 77 (S : Int) 0) 77 (S : Int) = 0 := by rw [gx_up_at, if_pos rfl]
      have f2 : ∀ k, k ≠ 77 → (gx_up M1 77 (S : Int) 0) k = M1 k := fun k hk => gx_up_ne hk
      have hns : gNS (M 74) (S : Int) := by
        intro t' t1 t2 t3 p p1 p2 pz
        refine cc ?_
        have h4 : p < 4 := by
          by_cases h : p < 4
          · exact h
          · exact absurd p2 (gbt_h4 hs16 p1 (by omega))
        obtain ⟨x1, x2⟩ := sx_ok hs16 h4 p2
        refine ⟨p, h4, p2, ?_⟩
        rcases hC _ x1.1 x1.2 with z | z
        · exact z.1
        · refine absurd ?_ z.2
          rw [e74]
          exact ⟨t', t1, t2, fun q q1 q2 => (x2 q q1).mpr ⟨t3 q q1 q2, fun e => by rw [e] at q2; exact q2 pz⟩⟩
      have hw : gWs (gx_up M1 77 (S : Int) 0) (S : Int) 0 F := by
        refine ⟨by unfold gSB at *; rw [f2 74 (by decide), f2 75 (by decide), f2 76 (by decide)]; exact hB, fun p p1 _ => by rw [f2 76 (by decide)]; exact h76 (p : Int) (by omega) (by omega), fun p _ h => absurd h (Nat.not_lt_zero _), by unfold gFR at *; rw [f2 67 (by decide), f2 78 (by decide)]; exact hR, hs, fun t ht => by rw [f2 74 (by decide), e74]; exact ((hm t).mp ht).1, fun t ht hc => ?_⟩
        obtain ⟨-, s, s1, s2, s3⟩ := (hm t).mp ht
        have e : s = (S : Int) := gb_ext (show g16 s from ⟨s1, by omega⟩) hs16 (fun p hp => by rw [← s3 p (by omega), hc.2.2 p (by omega) (Nat.zero_le _)])
        omega
      obtain ⟨M2, F2, y1, ⟨y2, y3, y4, y5⟩, y7, y8, y9, y10, y11⟩ := X_weigh (l := l) (κ := κ) (set := (S : Int)) hs16 (by omega) 8 0 10 (gx_up M1 77 (S : Int) 0) F (by omega) (by omega) (by rw [f2 74 (by decide), e74]; exact hns) hw
      rw [f2 74 (by decide), e74] at y8 y11
      rw [ev] at y8
      have hsp : ∀ x, x < 256 → (Cm ((gx_up M1 77 (S : Int) 0) 76) (S : Int) 0 x ↔ Sp x (S : Int)) := fun x hx => ⟨fun z p p1 => z.2.2 p p1 (Nat.zero_le _), fun z => ⟨hx, fun p _ h => absurd h (Nat.not_lt_zero _), fun p p1 _ => z p p1⟩⟩
      have ck : gCk (M 74) (S : Int) ↔ ∃ t, Cm ((gx_up M1 77 (S : Int) 0) 76) (S : Int) 0 t ∧ Kp (M 74) t := by
        constructor
        · rintro ⟨t, t1, t2, t3⟩
          exact ⟨t, (hsp t t1).mpr (fun p p1 => ⟨t3 p p1, fun z => hns t t1 t2 t3 p p1 z⟩), t2⟩
        · rintro ⟨t, t1, t2⟩
          exact ⟨t, t1.1, t2, fun p p1 => ((hsp t t1.1).mp t1 p p1).mp⟩
      have e274 : M2 74 = M 74 := by rw [y2 74 (by decide) (by decide) (by decide) (by decide) (by decide), f2 74 (by decide)]; exact e74
      have e77 : ∀ s, s ≠ (S : Int) → M2 77 s = M1 77 s := fun s hs' => by rw [y5 s hs', gx_up_at, if_neg hs']
      obtain ⟨M', F', k1, k2⟩ := ih (S + 1) M2 F2 (by omega) (by omega) ⟨fun k a1 a2 a3 a4 a5 => by rw [y2 k a1 a2 a3 a4 a5, f2 k a4]; exact hF.1 k a1 a2 a3 a4 a5, fun j hj => by rw [y3 j hj, f2 67 (by decide)]; exact hF.2 j hj⟩ y4 (fun p a1 a2 => by rw [y7 p a1 a2, f2 76 (by decide)]; exact h76 p a1 a2) (fun s s1 s2 => by
        by_cases e : s = (S : Int)
        · rw [e]
          rcases y8 with z | z
          · exact Or.inr z.1
          · exact Or.inl z.1
        · rw [e77 s e]; exact h77 s s1 s2) (by rw [e77 0 (by omega)]; exact h0) (fun s s1 s2 => by
        rw [e274]
        by_cases e : s = (S : Int)
        · rw [e, ck]
          exact y8
        · rw [e77 s e, ← e74]
          exact hC s s1 (by omega)) y9 y10 (fun x => by
        rw [y11 x, hm x]
        constructor
        · rintro (⟨z1, s, s1, s2, s3⟩ | ⟨z1, z2, z3, z4⟩)
          · exact ⟨z1, s, s1, by omega, s3⟩
          · have hx := (hsp x z1.1).mp z1
            exact ⟨⟨z1.1, z2, sup_min hx hns, z3, z4⟩, (S : Int), by omega, by omega, hx⟩
        · rintro ⟨z1, s, s1, s2, s3⟩
          by_cases e : s = (S : Int)
          · subst e
            exact Or.inr ⟨(hsp x z1.1).mpr s3, z1.2.1, z1.2.2.2.1, z1.2.2.2.2⟩
          · exact Or.inl ⟨z1, s, s1, by omega, s3⟩)
      refine ⟨M', F', sfind_72_00 g1 g2 g3 hcv (by omega) g6 (Or.inl rfl) ev (by rw [ev]; exact ⟨by decide, by decide⟩) y1 (by omega) ?_, k2⟩
      rw [show ((S : Int) + 1) = ((S + 1 : Nat) : Int) from by omega]
      exact k1
theorem Sp_P {P : Nat} (hP : P ≤ 4) {x : Nat} (hx : x < 256) : (∃ s : Int, 0 ≤ s ∧ s < 2 ^ P ∧ Sp x s) ↔ ∀ p : Nat, p < 8 → P ≤ p → dgn x p = 0 := by
  have h16 : (2 : Nat) ^ P ≤ 16 := Nat.pow_le_pow_right (n := 2) (by decide) hP
  have ep : ((2 ^ P : Nat) : Int) = 2 ^ P := by rw [Int.natCast_pow]; rfl
  constructor
  · rintro ⟨s, s1, s2, s3⟩ p p1 p2
    by_cases e : dgn x p = 0
    · exact e
    · exfalso
      have hb := (s3 p p1).mp e
      have hs : g16 s := ⟨s1, by omega⟩
      by_cases h4 : p < 4
      · have := gb_lt hs hP s2 p h4 hb
        omega
      · exact gbt_h4 hs p1 (by omega) hb
  · intro h
    have hg := gset_lt (fun p => ¬ dgi x p = 0) P
    refine ⟨gset (fun p => ¬ dgi x p = 0) P, hg.1, hg.2, fun p p1 => ?_⟩
    have hs : g16 (gset (fun p => ¬ dgi x p = 0) P) := ⟨hg.1, by omega⟩
    by_cases h4 : p < 4
    · rw [gset_bits hP h4]
      constructor
      · intro z
        refine ⟨?_, ?_⟩
        · by_cases hp : p < P
          · exact hp
          · exact absurd (h p p1 (by omega)) z
        · show ¬ dgi x (p : Int) = 0
          rw [dgi_nat]
          omega
      · rintro ⟨-, z⟩ e
        have z : ¬ dgi x (p : Int) = 0 := z
        rw [dgi_nat, e] at z
        exact z rfl
    · exact ⟨fun z => absurd (dgn_hi x hx p p1 (by omega)) z, fun z => absurd z (gbt_h4 hs p1 (by omega))⟩
theorem X_sfind {M : gx_M} {b c : Int} (hd : 12 ≤ d) (h0 : gI0 M b c) (h : gSC M) :
    ∃ M' F, gx_X l κ gx_sh z_mt zX6_find d [gR 68, gR 2] M (gx_eq none M') ∧ (∀ k, (k < 67 ∨ 79 ≤ k) → M' k = M k) ∧ gSC M' ∧ gFR M' F ∧ gFL (fun i => M 6 i - M 5 i) (M 1 0) F := by
  have hP := h0.1.1
  have hA := h0.1.2.1
  obtain ⟨s1, s2, s3, s4, s5⟩ := h
  obtain ⟨sh1, sh2⟩ := gx_shl_P h0
  -- the search anew
  have anew : ∃ M1, gx_X l κ gx_sh z_mt zX3_copy 0 [gR 69, gR 2] M (gx_eq none M1) ∧ ∃ M' F, gx_G l κ gx_sh z_mt zX6_find d (39, [gR 68, gR 2, gI 0], [], (gx_up (gx_up M1 67 1 1) 67 7 0)) (gx_eq none M') ∧ (∀ k, (k < 67 ∨ 79 ≤ k) → M' k = M k) ∧ gSC M' ∧ gFR M' F ∧ gFL (fun i => M 6 i - M 5 i) (M 1 0) F := by
    obtain ⟨M1, c1, c2, c3, c4, c5⟩ := X_copy68 (l := l) (κ := κ) (d := 0) (M := M)
    refine ⟨M1, c1, ?_⟩
    have f1 : ∀ k, k ≠ 67 → (gx_up (gx_up M1 67 1 1) 67 7 0) k = M1 k := fun k hk => by rw [gx_up_ne hk, gx_up_ne hk]
    have f67 : ∀ j, (gx_up (gx_up M1 67 1 1) 67 7 0) 67 j = if j = 7 then 0 else if j = 1 then 1 else M1 67 j := fun j => by rw [gx_up_at, gx_up_at]
    -- the gains
    have gains : ∀ (k i : Nat) (M2 : gx_M), i + k = 64 → (∀ k, k ≠ 67 → k ≠ 74 → M2 k = M1 k) → (∀ j, M2 67 j = if j = 7 then 0 else if j = 1 then 1 else M1 67 j) → (∀ j, 0 ≤ j → j < (i : Int) → M2 74 j = M 6 j - M 5 j) →
        ∃ M' F, gx_G l κ gx_sh z_mt zX6_find d (39, [gR 68, gR 2, gI (i : Int)], [], M2) (gx_eq none M') ∧ (∀ k, (k < 67 ∨ 79 ≤ k) → M' k = M k) ∧ gSC M' ∧ gFR M' F ∧ gFL (fun i => M 6 i - M 5 i) (M 1 0) F := by
      intro k
      induction k with
      | zero =>
        intro i M2 hi hf h67 h74
        have hfM : ∀ k, (k < 67 ∨ (75 ≤ k)) → M2 k = M k := fun k hk => by rw [hf k (by omega) (by omega), c2 k (by omega)]
        have h76 : ∀ p, 0 ≤ p → p < 8 → M2 76 p = 0 := fun p p1 p2 => by rw [hfM 76 (by omega)]; exact (s2 p p1 p2).1
        have hB : gSB M2 := by
          refine ⟨fun j j1 j2 => ?_, fun p p1 p2 => by rw [h76 p p1 p2]; decide, fun m m1 m2 => ?_⟩
          · rw [h74 j j1 (by omega)]
            have := hA j j1 j2
            omega
          · rw [hfM 75 (by omega), (s2 m m1 m2).2]
            have e : gsm (fun p => M2 76 p * M2 74 (m * 8 + p)) 8 = gsm (fun _ => 0) 8 := gsm_congr 8 (fun j j1 j2 => by
              show M2 76 j * _ = 0
              rw [h76 j j1 (by omega), Int.zero_mul])
            rw [e]
            rfl
        have hP4 : (M 1 0).toNat ≤ 4 := by omega
        obtain ⟨M', F', k1, k2, k3, k4, k5, k6, k7, k8, k9⟩ := X_sets (l := l) (κ := κ) (d := d) (M := M2) (by omega) (P := (M 1 0).toNat) ⟨by rw [hfM 1 (by omega)]; exact sh1, hP4⟩ (2 ^ (M 1 0).toNat - 1) 1 M2 [] (by have := Nat.pow_pos (n := (M 1 0).toNat) (show 0 < 2 by decide); omega) (Nat.le_refl 1) ⟨fun _ _ _ _ _ _ => rfl, fun _ _ => rfl⟩ hB h76 (fun s a1 a2 => by rw [hfM 77 (by omega)]; exact s3 s a1 a2) (by rw [hfM 77 (by omega)]; exact s4) (fun s a1 a2 => by
          have e : s = 0 := by omega
          subst e
          refine Or.inr ⟨by rw [hfM 77 (by omega)]; exact s4, fun ⟨t, t1, t2, t3⟩ => ?_⟩
          obtain ⟨p, p1, p2⟩ := dgn_pos t1 t2.1
          exact gb_f0 p p1 (t3 p (by omega) p2)) ⟨⟨by rw [h67]; rfl, by decide⟩, fun i x hx => (by cases hx)⟩ List.Pairwise.nil (fun x => ⟨fun z => (by cases z), fun ⟨z1, s, a1, a2, a3⟩ => by
          exfalso
          have e : s = 0 := by omega
          subst e
          obtain ⟨p, p1, p2⟩ := dgn_pos z1.1 z1.2.1.1
          exact gb_f0 p p1 ((a3 p (by omega)).mp p2)⟩)
        have gFL1 : gFL (M2 74) (M 1 0) F' := ⟨k8, fun x => by
          rw [k9 x]
          constructor
          · rintro ⟨z1, z2⟩
            exact ⟨z1, fun p p1 p2 => (Sp_P hP4 z1.1).mp z2 p p1 (by omega)⟩
          · rintro ⟨z1, z2⟩
            exact ⟨z1, (Sp_P hP4 z1.1).mpr (fun p p1 p2 => z2 p p1 (by omega))⟩⟩
        have e74 : M' 74 = M2 74 := k2.1 74 (by decide) (by decide) (by decide) (by decide) (by decide)
        have e68 : ∀ k, 68 ≤ k → k < 74 → M' k = M1 k := fun k q1 q2 => by rw [k2.1 k (by omega) (by omega) (by omega) (by omega) (by omega), hf k (by omega) (by omega)]
        refine ⟨M', F', sfind_39_1 (by omega) ⟨by omega, by omega⟩ k1, fun k hk => by rw [k2.1 k (by omega) (by omega) (by omega) (by omega) (by omega), hfM k (by omega)], ⟨Or.inr (by rw [k2.2 1 (by decide), h67]; rfl), fun p p1 p2 => ⟨k4 p p1 p2, ?_⟩, k5, k6, fun _ => ⟨⟨?_, ?_, ?_⟩, F', k7, ?_⟩⟩, k7, gFL_congr gFL1 (fun i i1 i2 => h74 i i1 (by omega))⟩
        · rw [k3.2.2 p p1 p2]
          have e : gsm (fun q => M' 76 q * M' 74 (p * 8 + q)) 8 = gsm (fun _ => 0) 8 := gsm_congr 8 (fun j j1 j2 => by
            show M' 76 j * _ = 0
            rw [k4 j j1 (by omega), Int.zero_mul])
          rw [e]
          rfl
        · rw [e68 68 (by decide) (by decide), c3.1, c3.2]; exact hP
        · unfold gAr
          rw [e68 72 (by decide) (by decide), e68 73 (by decide) (by decide)]
          intro i i1 i2
          rw [(c5 i i1 i2).1, (c5 i i1 i2).2]
          exact hA i i1 i2
        · rw [e74, e68 72 (by decide) (by decide), e68 73 (by decide) (by decide)]
          intro i i1 i2
          rw [(c5 i i1 i2).1, (c5 i i1 i2).2]
          exact h74 i i1 (by omega)
        · rw [e74, e68 68 (by decide) (by decide), c3.1]
          exact gFL1
      | succ k ih =>
        intro i M2 hi hf h67 h74
        obtain ⟨M', F, k1, k2⟩ := ih (i + 1) (gx_up M2 74 (i : Int) (M2 6 (i : Int) - M2 5 (i : Int))) (by omega) (fun k a1 a2 => by rw [gx_up_ne a2]; exact hf k a1 a2) (fun j => by rw [gx_up_ne (by decide)]; exact h67 j) (fun j j1 j2 => by
          rw [gx_up_at, hf 5 (by decide) (by decide), hf 6 (by decide) (by decide), c2 5 (by decide), c2 6 (by decide)]
          by_cases e : j = (i : Int)
          · rw [if_pos e, e]
          · rw [if_neg e]; exact h74 j j1 (by omega))
        exact ⟨M', F, sfind_39_0 (by omega) ⟨by omega, by omega⟩ ⟨by omega, by omega⟩ k1, k2⟩
    exact gains 64 0 _ (by omega) (fun k a1 _ => f1 k a1) f67 (fun j j1 j2 => by omega)
  rcases s1 with hz | hz
  · obtain ⟨M1, n1, M', F, n2, n3⟩ := anew
    exact ⟨M', F, sfind_e_1 hz (by rw [hz]; exact ⟨by decide, by decide⟩) n1 (by omega) n2, n3⟩
  · obtain ⟨⟨g1, g2, g3⟩, F, g4, g5⟩ := s5 hz
    have zR : gx_R (M 67 1) := by rw [hz]; exact ⟨by decide, by decide⟩
    have zN : ¬ M 67 1 = 0 := by rw [hz]; decide
    have x1 := X_sameArcs68 (l := l) (κ := κ) (d := 0) (M := M) ⟨⟨by omega, by omega⟩, ⟨by omega, by omega⟩, ⟨by omega, by omega⟩, ⟨by omega, by omega⟩⟩ (fun i i1 i2 => by
      have a1 := hA i i1 i2
      have a2 := g2 i i1 i2
      exact ⟨⟨⟨by omega, by omega⟩, ⟨by omega, by omega⟩⟩, ⟨by omega, by omega⟩, ⟨by omega, by omega⟩⟩)
    by_cases cs : ((M 68 0 = M 1 0 ∧ M 68 1 = M 1 1) ∧ ∀ i, 0 ≤ i → i < 64 → M 72 i = M 5 i ∧ M 73 i = M 6 i)
    · rw [gi_pos cs] at x1
      refine ⟨M, F, sfind_e_00 zN zR x1 (by omega) (by decide) ⟨by decide, by decide⟩ ⟨rfl, rfl⟩, fun _ _ => rfl, ⟨Or.inr hz, s2, s3, s4, s5⟩, g4, ?_⟩
      rw [cs.1.1] at g5
      exact gFL_congr g5 (fun i i1 i2 => by rw [g3 i i1 i2, (cs.2 i i1 i2).1, (cs.2 i i1 i2).2])
    · rw [gi_neg cs] at x1
      obtain ⟨M1, n1, M', F, n2, n3⟩ := anew
      exact ⟨M', F, sfind_e_01 zN zR x1 (by omega) rfl ⟨by decide, by decide⟩ n1 (by omega) n2, n3⟩
theorem X_sfindL {M : gx_M} {b c : Int} {F : List Nat} (hd : 12 ≤ d) (h0 : gI0 M b c) (h : gSC M) (hF : gFL (fun i => M 6 i - M 5 i) (M 1 0) F) :
    ∃ M', gx_X l κ gx_sh z_mt zX6_find d [gR 68, gR 2] M (gx_eq none M') ∧ (∀ k, (k < 67 ∨ 79 ≤ k) → M' k = M k) ∧ gSC M' ∧ gFR M' F := by
  obtain ⟨M', F', k1, k2, k3, k4, k5⟩ := X_sfind (l := l) (κ := κ) (d := d) hd h0 h
  have e := gFL_eq hF k5 (fun _ _ _ => rfl)
  subst e
  exact ⟨M', k1, k2, k3, k4⟩
theorem wt_f : ∀ x, x < 256 → ∀ p, p < 8 → (x * 256 / 2 ^ (2 * (7 - p))) % 4 = dgn x p := by decide +kernel
theorem X_weight {M : gx_M} {F : List Nat} {i x p : Nat} (hF : gFR M F) (hi : F[i]? = some x) (hp : p < 8) : gx_X l κ gx_sh z_mt zX6_weight d [gR 68, gI (i : Int), gI (p : Int)] M (gx_eq (some (gI (dgi x (p : Int)))) M) := by
  obtain ⟨h1, h2⟩ := hF.2 i x hi
  have hl := (List.getElem?_eq_some_iff.mp hi).1
  have h3 := hF.1.2
  have e : gx_and (gx_shr (M 78 (i : Int)) (2 * (7 - (p : Int)))) 3 = dgi x (p : Int) := by
    rw [h1, show (2 * (7 - (p : Int))) = ((2 * (7 - p) : Nat) : Int) from by omega, gb_shr _ _ (by omega) (by omega), dgi_nat]
    have h4 := gb_and (x * 256 / 2 ^ (2 * (7 - p))) 3 (Nat.lt_of_le_of_lt (Nat.div_le_self _ _) (by omega))
    have h5 : (x * 256 / 2 ^ (2 * (7 - p))) &&& 3 = (x * 256 / 2 ^ (2 * (7 - p))) % 4 := Nat.and_two_pow_sub_one_eq_mod _ 2
    rw [h5, wt_f x h2 p hp] at h4
    exact h4
  refine weight_e ⟨by omega, by omega⟩ ⟨?_, rfl⟩
  rw [e]
theorem X_worth {M : gx_M} {F : List Nat} {i x : Nat} (hd : 1 ≤ d) (hF : gFR M F) (hi : F[i]? = some x) : gx_X l κ gx_sh z_mt zX6_worth d [gR 68, gI (i : Int), gR 3] M (gx_eq (some (gI (gsm (fun p => dgi x p * M 2 p) 8))) M) := by
  have loop : ∀ (k p : Nat), p + k = 8 → gx_G l κ gx_sh z_mt zX6_worth d (5, [gR 68, gI (i : Int), gR 3, gI (gsm (fun p => dgi x p * M 2 p) p), gI (p : Int)], [], M) (gx_eq (some (gI (gsm (fun p => dgi x p * M 2 p) 8))) M) := by
    intro k
    induction k with
    | zero =>
      intro p hp
      have e : p = 8 := by omega
      subst e
      exact worth_5_1 (by decide) ⟨by decide, by decide⟩ ⟨rfl, rfl⟩
    | succ k ih =>
      intro p hp
      exact worth_5_0 (by omega) ⟨by omega, by omega⟩ (X_weight (d := 0) hF hi (by omega)) (by omega) ⟨by omega, by omega⟩ (ih (p + 1) (by omega))
  exact worth_e (loop 8 0 (by omega))
section OK
variable {M : gx_M} {b c : Int} {F : List Nat}
theorem X_o_kept {i x p : Nat} (hd : 13 ≤ d) (h0 : gI0 M b c) (h : gSC M) (hF : gFL (fun i => M 6 i - M 5 i) (M 1 0) F) (hi : F[i]? = some x) (hp : (p : Int) < M 1 0) :
    ∃ M', gx_X l κ gx_sh z_mt zX8_kept d [gR 1, gI (i : Int), gI (p : Int)] M (gx_eq (some (gI (dgi x (p : Int)))) M') ∧ (∀ k, (k < 67 ∨ 79 ≤ k) → M' k = M k) ∧ gSC M' := by
  have hP := h0.1.1.1
  obtain ⟨M', k1, k2, k3, k4⟩ := X_sfindL (l := l) (κ := κ) (d := 12) (by omega) h0 h hF
  have hl := (List.getElem?_eq_some_iff.mp hi).1
  have e7 := k4.1.1
  have e8 := k4.1.2
  have hpl := X_hasPlace (l := l) (κ := κ) (d := 0) (M := M') (pl := (p : Int)) ⟨by omega, by omega⟩ (by rw [k2 1 (by omega)]; exact ⟨hP.1, by omega⟩)
  rw [gi_pos (by rw [k2 1 (by omega)]; exact ⟨by omega, hp⟩)] at hpl
  exact ⟨M', o_kept_e_0110 k1 (by omega) (by omega) ⟨by omega, by omega⟩ (by omega) ⟨by omega, by omega⟩ (by omega) ⟨by omega, by omega⟩ hpl (by omega) (by decide) ⟨by decide, by decide⟩ (X_weight (d := 0) k4 hi (by omega)) (by omega) ⟨rfl, rfl⟩, k2, k3⟩
theorem X_o_worth {i x : Nat} (hd : 13 ≤ d) (h0 : gI0 M b c) (h : gSC M) (hF : gFL (fun i => M 6 i - M 5 i) (M 1 0) F) (hi : F[i]? = some x) :
    ∃ M', gx_X l κ gx_sh z_mt zX8_kept d [gR 1, gI (i : Int), gI 8] M (gx_eq (some (gI (gsm (fun p => dgi x p * M 2 p) 8))) M') ∧ (∀ k, (k < 67 ∨ 79 ≤ k) → M' k = M k) ∧ gSC M' := by
  obtain ⟨M', k1, k2, k3, k4⟩ := X_sfindL (l := l) (κ := κ) (d := 12) (by omega) h0 h hF
  have hl := (List.getElem?_eq_some_iff.mp hi).1
  have e7 := k4.1.1
  have e8 := k4.1.2
  have hw := X_worth (l := l) (κ := κ) (d := 1) (by omega) k4 hi
  rw [k2 2 (by omega)] at hw
  exact ⟨M', o_kept_e_010 k1 (by omega) (by omega) ⟨by omega, by omega⟩ (by omega) ⟨by omega, by omega⟩ rfl ⟨by decide, by decide⟩ hw (by omega) ⟨rfl, rfl⟩, k2, k3⟩
theorem X_o_keptN {w : Int} (hd : 13 ≤ d) (h0 : gI0 M b c) (h : gSC M) (hF : gFL (fun i => M 6 i - M 5 i) (M 1 0) F) :
    ∃ M', gx_X l κ gx_sh z_mt zX8_kept d [gR 1, gI (F.length : Int), gI w] M (gx_eq (some (gI (-1))) M') ∧ (∀ k, (k < 67 ∨ 79 ≤ k) → M' k = M k) ∧ gSC M' := by
  obtain ⟨M', k1, k2, k3, k4⟩ := X_sfindL (l := l) (κ := κ) (d := 12) (by omega) h0 h hF
  have e7 := k4.1.1
  have e8 := k4.1.2
  exact ⟨M', o_kept_e_00 k1 (by omega) (by omega) ⟨by omega, by omega⟩ (by omega) ⟨by omega, by omega⟩ ⟨rfl, rfl⟩, k2, k3⟩
theorem X_o_keptMany (hd : 13 ≤ d) (h0 : gI0 M b c) (h : gSC M) (hF : gFL (fun i => M 6 i - M 5 i) (M 1 0) F) :
    ∃ M', gx_X l κ gx_sh z_mt zX8_keptMany d [gR 1] M (gx_eq (some (gI (F.length : Int))) M') ∧ (∀ k, (k < 67 ∨ 79 ≤ k) → M' k = M k) ∧ gSC M' := by
  obtain ⟨M', k1, k2, k3, k4⟩ := X_sfindL (l := l) (κ := κ) (d := 12) (by omega) h0 h hF
  refine ⟨M', ?_, k2, k3⟩
  rw [← k4.1.1]
  exact o_keptMany_e k1 (by omega) ⟨rfl, rfl⟩
end OK
end SFIND
