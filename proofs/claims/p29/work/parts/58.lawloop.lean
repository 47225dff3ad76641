/-! the law's loop: the checks; all turns -/
section LAWLOOP
variable {l : Launch} {κ : yK} {d : Nat} {Q : Option gx_V → gx_M → Prop}
/-- one act -/
theorem L_act {M : gx_M} {now b c : Int} {t : Nat} (hd : 6 ≤ d) (hκ : κ.2.2.2 ≤ 260) (ht : t < 26) (h : gLI M now b c) (hb : 5 ≤ b ∧ b ≤ 9900) (hcc : 0 ≤ c ∧ c ≤ 10000) (hC : gCt M t)
    (kk : ∀ M' now' x, gLI M' now' (b + 54) (c + 6) → gCt M' (t + 1) → gx_G l κ gx_sh z_mt zL_law d (680, [gR 0, gR 1, gR 105, gR 106, gR 107, gR 108, gR 109, gR 110, gR 111, gJ now', gU, gI (t : Int), gI x, gU, gU, gU, gU, gU, gU, gU, gU, gU, gU, gU], [], M') Q) :
    gx_G l κ gx_sh z_mt zL_law d (51, [gR 0, gR 1, gR 105, gR 106, gR 107, gR 108, gR 109, gR 110, gR 111, gJ now, gU, gI (t : Int), gU, gU, gU, gU, gU, gU, gU, gU, gU, gU, gU, gU], [], M) Q := by
  have hP := h.1.1.1.1.1
  have hV := h.1.1.1.1.2
  have hPV := h.1.2.2.2.1
  obtain ⟨x, c1⟩ := X_cell (l := l) (κ := κ) (d := 0) (M := M) (k := (t : Int)) hκ ⟨by omega, by omega⟩
  have tR : gx_R (t : Int) := ⟨by omega, by omega⟩
  have up : ∀ M' now', gLI M' now' b c → gLI M' now' (b + 54) (c + 6) := fun M' now' h => ⟨⟨gI0_mono h.1.1 (by omega) (by omega), h.1.2⟩, h.2⟩
  -- the act, once kind, move and place are known
  have go : ∀ kd, (0 ≤ kd ∧ kd < 9) → (t < 4 → kd = (t : Int) % 2) → gx_G l κ gx_sh z_mt zL_law d (86, [gR 0, gR 1, gR 105, gR 106, gR 107, gR 108, gR 109, gR 110, gR 111, gJ now, gU, gI (t : Int), gI x, gU, gU, gU, gU, gU, gU, gU, gU, gU, gU, gU], [gI kd], M) Q := by
    intro kd hk hkt
    have kR : gx_R kd := ⟨by omega, by omega⟩
    have PR : gx_R (M 104 0) := ⟨by omega, by omega⟩
    have VR : gx_R (M 104 1) := ⟨by omega, by omega⟩
    -- places and moves are there where one is named
    have many : ¬ (kd = 0 ∧ M 1 0 < 4) → ¬ (kd = 1 ∧ M 1 1 < 4) → 2 ≤ M 1 0 ∧ 2 ≤ M 1 1 := by
      intro n1 n2
      by_cases h4 : 4 ≤ t
      · exact hC.1 h4
      · obtain ⟨q1, q2⟩ := hC.2 (by omega)
        have := hkt (by omega)
        omega
    -- the counts afterwards
    have ct0 : ∀ M' : gx_M, ¬ (kd = 0 ∧ M 1 0 < 4) → ¬ (kd = 1 ∧ M 1 1 < 4) → (M' 1 0 = M 1 0 ∧ M' 1 1 = M 1 1) → gCt M' (t + 1) := by
      intro M' n1 n2 e
      have hm := many n1 n2
      refine ⟨fun _ => by omega, fun h4 => ?_⟩
      obtain ⟨q1, q2⟩ := hC.2 (by omega)
      have := hkt (by omega)
      omega
    have main : ∀ (mn pn : Nat), ((mn : Int) < M 1 1 ∨ M 1 1 = 0) → ((pn : Int) < M 1 0 ∨ M 1 0 = 0) → gx_G l κ gx_sh z_mt zL_law d (131, [gR 0, gR 1, gR 105, gR 106, gR 107, gR 108, gR 109, gR 110, gR 111, gJ now, gU, gI (t : Int), gI x, gI kd, gI (mn : Int), gU, gU, gU, gU, gU, gU, gU, gU, gU], [gI (pn : Int)], M) Q := by
      intro mn pn hm hp
      by_cases cp : kd = 0 ∧ M 1 0 < 4
      · refine L_place (by omega) h (by omega) cp.2 cp.1 (fun M' now' h1 h2 => kk M' now' x (up M' now' h1) ⟨fun h4 => ?_, fun h4 => ?_⟩)
        · by_cases h5 : 4 ≤ t
          · have := hC.1 h5; omega
          · obtain ⟨q1, q2⟩ := hC.2 (by omega)
            have := hkt (by omega)
            omega
        · obtain ⟨q1, q2⟩ := hC.2 (by omega)
          have := hkt (by omega)
          omega
      · have nx : gx_G l κ gx_sh z_mt zL_law d (197, [gR 0, gR 1, gR 105, gR 106, gR 107, gR 108, gR 109, gR 110, gR 111, gJ now, gU, gI (t : Int), gI x, gI kd, gI (mn : Int), gI (pn : Int), gU, gU, gU, gU, gU, gU, gU, gU], [], M) Q := by
          by_cases cm : kd = 1 ∧ M 1 1 < 4
          · refine L_move (by omega) h cm.2 cm.1 (fun M' now' h1 h2 => kk M' now' x (up M' now' h1) ⟨fun h4 => ?_, fun h4 => ?_⟩)
            · by_cases h5 : 4 ≤ t
              · have := hC.1 h5; omega
              · obtain ⟨q1, q2⟩ := hC.2 (by omega)
                have := hkt (by omega)
                omega
            · obtain ⟨q1, q2⟩ := hC.2 (by omega)
              have := hkt (by omega)
              omega
          · have h22 := many cp cm
            have nx2 : gx_G l κ gx_sh z_mt zL_law d (227, [gR 0, gR 1, gR 105, gR 106, gR 107, gR 108, gR 109, gR 110, gR 111, gJ now, gU, gI (t : Int), gI x, gI kd, gI (mn : Int), gI (pn : Int), gU, gU, gU, gU, gU, gU, gU, gU], [], M) Q := by
              by_cases k5 : kd < 5
              · exact L_arc (by omega) h ⟨by omega, by omega⟩ ⟨by omega, by omega⟩ ⟨hk.1, k5⟩ (fun M' now' h1 h2 => kk M' now' x (up M' now' h1) (ct0 M' cp cm h2))
              · by_cases k6 : kd = 5
                · exact L_tokens (by omega) h (by omega) ⟨by omega, by omega⟩ k6 (fun M' now' h1 h2 => kk M' now' x (up M' now' h1) (ct0 M' cp cm h2))
                · by_cases k7 : kd = 6
                  · exact L_makes hd h hb hcc (by omega) k7 (fun M' now' h1 h2 => kk M' now' x h1 (ct0 M' cp cm h2))
                  · exact L_runs hd h hb hcc ⟨by omega, by omega⟩ (fun M' now' h1 h2 => kk M' now' x h1 (ct0 M' cp cm h2))
            by_cases k1 : kd = 1
            · exact law_197_01 k1 kR (by omega) VR nx2
            · exact law_197_1 k1 kR nx2
        by_cases k0 : kd = 0
        · exact law_131_01 k0 kR (by omega) PR nx
        · exact law_131_1 k0 kR nx
    have pl : ∀ (mn : Nat), ((mn : Int) < M 1 1 ∨ M 1 1 = 0) → gx_G l κ gx_sh z_mt zL_law d (108, [gR 0, gR 1, gR 105, gR 106, gR 107, gR 108, gR 109, gR 110, gR 111, gJ now, gU, gI (t : Int), gI x, gI kd, gU, gU, gU, gU, gU, gU, gU, gU, gU, gU], [gI (mn : Int)], M) Q := by
      intro mn hm
      by_cases c0 : M 104 0 = 0
      · exact law_108_0 c0 PR (main mn 0 hm (Or.inr (by omega)))
      · obtain ⟨p, p1, p2, p3⟩ := X_low (l := l) (κ := κ) (d := 0) (M := M) (v := gx_shr x 6) (n := M 104 0) ⟨by omega, by omega⟩
        obtain ⟨p, rfl⟩ := gb_nat p2
        exact law_108_1 c0 PR p1 (by omega) (main mn p hm (Or.inl (by omega)))
    by_cases c0 : M 104 1 = 0
    · exact law_86_0 c0 VR (pl 0 (Or.inr (by omega)))
    · obtain ⟨m, m1, m2, m3⟩ := X_low (l := l) (κ := κ) (d := 0) (M := M) (v := gx_shr x 4) (n := M 104 1) ⟨by omega, by omega⟩
      obtain ⟨m, rfl⟩ := gb_nat m2
      exact law_86_1 c0 VR m1 (by omega) (pl m (Or.inl (by omega)))
  by_cases h4 : t < 4
  · exact law_51_00 (by omega) tR c1 (by omega) (by omega) ⟨by omega, by omega⟩ (go ((t : Int) % 2) ⟨by omega, by omega⟩ (fun _ => rfl))
  · obtain ⟨kd, k1, k2, k3⟩ := X_low (l := l) (κ := κ) (d := 0) (M := M) (v := x) (n := 9) (by decide)
    exact law_51_01 (by omega) tR c1 (by omega) (by omega) k1 (by omega) (go kd ⟨k2, k3⟩ (fun z => absurd z h4))
/-- the checks -/
theorem L_checks {M : gx_M} {now b c x : Int} {t : Nat} (hd : 16 ≤ d) (h : gLI M now b c) (hb : b ≤ 10000) (hcc : c ≤ 10000) (ht : t < 26)
    (kk : ∀ M', gLI M' now b c → M' 1 = M 1 → gx_G l κ gx_sh z_mt zL_law d (51, [gR 0, gR 1, gR 105, gR 106, gR 107, gR 108, gR 109, gR 110, gR 111, gJ now, gU, gI ((t : Int) + 1), gU, gU, gU, gU, gU, gU, gU, gU, gU, gU, gU, gU], [], M') Q) :
    gx_G l κ gx_sh z_mt zL_law d (680, [gR 0, gR 1, gR 105, gR 106, gR 107, gR 108, gR 109, gR 110, gR 111, gJ now, gU, gI (t : Int), gI x, gU, gU, gU, gU, gU, gU, gU, gU, gU, gU, gU], [], M) Q := by
  obtain ⟨⟨h0, hR⟩, ⟨h6, h7⟩, hRC, hTC, hSC⟩ := h
  have hP := h0.1.1.1
  have hV := h0.1.1.2
  have hPV := hR.2.2.1
  have hT := h0.1.2.2
  have hMd := h0.2.1
  have hN := gLN_of hR h0
  have hLI : gLI M now b c := ⟨⟨h0, hR⟩, ⟨h6, h7⟩, hRC, hTC, hSC⟩
  have hR0 := gRl_0 hLI (by omega)
  have hmv := X_moves (l := l) (κ := κ) (d := 2) (M := M) (by omega) hN.1 hR.2.1
  rw [gMv_eq hN hR0] at hmv
  have g4 := gset_4 (gCn (M 5) (M 2)) (show (M 1 1).toNat ≤ 4 by omega)
  have hmv : gx_X l κ gx_sh z_mt zL_moves 2 [gJ now, gR 105, gR 106] M (gx_eq (some (gI (gset (gCn (M 5) (M 2)) (M 1 1).toNat))) M) := hmv
  have sR : gx_R (gset (gCn (M 5) (M 2)) (M 1 1).toNat) := ⟨by omega, by omega⟩
  have PR : gx_R (M 104 0) := ⟨by omega, by omega⟩
  have VR : gx_R (M 104 1) := ⟨by omega, by omega⟩
  -- the last of them: what could be reached
  have wd : ∀ M1 : gx_M, gLI M1 now b c → M1 1 = M 1 → gx_G l κ gx_sh z_mt zL_law d (929, [gR 0, gR 1, gR 105, gR 106, gR 107, gR 108, gR 109, gR 110, gR 111, gJ now, gU, gI (t : Int), gI x, gU, gU, gU, gU, gU, gU, gU, gU, gU, gU, gU], [], M1) Q := by
    intro M1 h1 e1
    obtain ⟨r, r1, r2, r3⟩ := X_low (l := l) (κ := κ) (d := 0) (M := M1) (v := gx_shr x 15) (n := 3) (by decide)
    have rR : gx_R r := ⟨by omega, by omega⟩
    by_cases c0 : r = 0
    · obtain ⟨M2, w1, w2, w3, w4⟩ := X_l_would (l := l) (κ := κ) (d := 7) (M := M1) (x := gx_shr x 3) (by omega) hb h1.1.1 h1.1.2 h1.2.2.1 h1.2.2.2.1
      have f : ∀ k, (k < 79 ∨ 104 ≤ k) → k ≤ 107 → M2 k = M1 k := fun k k1 k2 => w2 k k1 (by omega) (by omega) (by omega)
      refine law_929_01 r1 (by omega) c0 rR w1 (by omega) (by decide) ⟨by decide, by decide⟩ (law_964 (kk M2 ⟨⟨gI0_kept h1.1.1 (fun k hk => f k (by omega) (by omega)) (by rw [f 7 (by omega) (by omega)]; exact h1.1.1.2.2.1), ?_⟩, ⟨?_, ?_⟩, w3, w4, gSC_kept h1.2.2.2.2 (fun k k1 k2 => f k (by omega) (by omega))⟩ (by rw [f 1 (by omega) (by omega), e1])))
      · have := h1.1.2
        unfold gLR gL at *
        rw [f 104 (by omega) (by omega), f 105 (by omega) (by omega), f 1 (by omega) (by omega), f 2 (by omega) (by omega), f 5 (by omega) (by omega), f 6 (by omega) (by omega)]
        exact this
      · rw [f 106 (by omega) (by omega), f 3 (by omega) (by omega)]; exact h1.2.1.1
      · rw [f 107 (by omega) (by omega), f 4 (by omega) (by omega)]; exact h1.2.1.2
    · exact law_929_1 r1 (by omega) c0 rR (law_964 (kk M1 h1 e1))
  -- sums over places and moves
  have e8 : gsm (M 2) 8 = gsm (M 2) (M 1 0).toNat := by
    have h9 := gsm_zero (f := M 2) (M 1 0).toNat (8 - (M 1 0).toNat) (fun j j1 j2 => (h0.2.2.2.1 j (by omega) (by omega)).1)
    rw [show (M 1 0).toNat + (8 - (M 1 0).toNat) = 8 from by omega] at h9
    exact h9
  have e4 : gsm (M 4) 8 = gsm (M 4) (M 1 1).toNat := by
    have h9 := gsm_zero (f := M 4) (M 1 1).toNat (8 - (M 1 1).toNat) (fun j j1 j2 => h0.2.2.2.2.1 j (by omega) (by omega))
    rw [show (M 1 1).toNat + (8 - (M 1 1).toNat) = 8 from by omega] at h9
    exact h9
  have b2 : ∀ q : Nat, q ≤ 8 → gx_R (gsm (M 2) q) := fun q hq => by
    have := gsm_bd (f := M 2) (B := 10000) q (fun j j1 j2 => by have := (hT j j1 (by omega)).1; omega)
    exact ⟨by omega, by omega⟩
  have b4 : ∀ q : Nat, q ≤ 8 → gx_R (gsm (M 4) q) := fun q hq => by
    have := gsm_bd (f := M 4) (B := 10000) q (fun j j1 j2 => by have := hMd j j1 (by omega); omega)
    exact ⟨by omega, by omega⟩
  -- the moves
  have mvs : ∀ (k m : Nat), m + k = (M 1 1).toNat → gx_G l κ gx_sh z_mt zL_law d (752, [gR 0, gR 1, gR 105, gR 106, gR 107, gR 108, gR 109, gR 110, gR 111, gJ now, gU, gI (t : Int), gI x, gU, gU, gU, gI (gsm (M 2) 8), gI (gsm (M 4) m), gI (m : Int), gU, gU, gU, gU, gU], [], M) Q := by
    intro k
    induction k with
    | zero =>
      intro m hm
      rw [show m = (M 1 1).toNat from by omega, ← e4]
      have c3 := X_count3 (l := l) (κ := κ) (d := 3) (M := M) (b := b) (c := c) (by omega) h0 (by omega)
      by_cases cP : M 104 0 ≤ 0
      · exact law_752_1000011 (by omega) ⟨by omega, by omega⟩ VR (X_count0 (d := 0)) (by omega) hPV.1.symm ⟨by omega, by omega⟩ PR (X_count1 (d := 0)) (by omega) hPV.2.symm ⟨by omega, by omega⟩ VR (X_count2 (d := 2) (by omega)) (by omega) rfl (b2 8 (by decide)) (b2 8 (by decide)) c3 (by omega) hmv (by omega) rfl sR sR (X_count4 (d := 1) (by omega)) (by omega) rfl (b4 8 (by decide)) (b4 8 (by decide)) cP PR (wd M hLI rfl)
      · obtain ⟨r, r1, r2, r3⟩ := X_low (l := l) (κ := κ) (d := 0) (M := M) (v := gx_shr x 13) (n := 3) (by decide)
        have rR : gx_R r := ⟨by omega, by omega⟩
        by_cases c0 : r = 0
        · obtain ⟨M2, w1, w2, w3⟩ := X_l_kept (l := l) (κ := κ) (d := 14) (M := M) (now := now) (by omega) h0 (by omega) hR hSC
          have h02 : gI0 M2 b c := gI0_kept h0 (fun k hk => w2 k (by omega)) (by rw [w2 7 (by omega)]; exact h0.2.2.1)
          have hR2 : gLR M2 now := by
            unfold gLR gL at *
            rw [w2 104 (by omega), w2 105 (by omega), w2 1 (by omega), w2 2 (by omega), w2 5 (by omega), w2 6 (by omega)]
            exact hR
          have hLI2 : gLI M2 now b c := ⟨⟨h02, hR2⟩, ⟨by rw [w2 106 (by omega), w2 3 (by omega)]; exact h6, by rw [w2 107 (by omega), w2 4 (by omega)]; exact h7⟩, gRC_kept hRC (fun k k1 k2 => w2 k (by omega)), gTC_kept hTC (fun k k1 k2 => w2 k (by omega)), w3⟩
          obtain ⟨s1, s2⟩ := gx_shl_P h02
          have hP2 : M2 1 0 = M 1 0 := by rw [w2 1 (by omega)]
          have p16 : (2 : Nat) ^ (M 1 0).toNat ≤ 2 ^ 4 := Nat.pow_le_pow_right (n := 2) (by decide) (show (M 1 0).toNat ≤ 4 by omega)
          have p17 : (2 : Nat) ^ 4 = 16 := rfl
          have p0 : 0 < (2 : Nat) ^ (M 1 0).toNat := Nat.pow_pos (by decide)
          have ep : ((2 ^ (M 1 0).toNat : Nat) : Int) = 2 ^ (M 1 0).toNat := by rw [Int.natCast_pow]; rfl
          have e104 : gx_shl 1 (M2 104 0) = ((2 ^ (M 1 0).toNat : Nat) : Int) := by rw [w2 104 (by omega), hPV.1, ← hP2, s1, hP2, ep]
          obtain ⟨q, q1, q2, q3⟩ := X_low (l := l) (κ := κ) (d := 0) (M := M2) (v := gx_shr x 7) (n := gx_shl 1 (M2 104 0)) (by rw [e104]; exact ⟨by omega, by omega⟩)
          have htr := X_l_traps (l := l) (κ := κ) (d := 3) (M := M2) (set := q) (now := now) (by omega) h02 hR2 ⟨⟨q2, by omega⟩, by rw [hP2, ← ep]; omega⟩ (by omega)
          exact law_752_1000010001 (by omega) ⟨by omega, by omega⟩ VR (X_count0 (d := 0)) (by omega) hPV.1.symm ⟨by omega, by omega⟩ PR (X_count1 (d := 0)) (by omega) hPV.2.symm ⟨by omega, by omega⟩ VR (X_count2 (d := 2) (by omega)) (by omega) rfl (b2 8 (by decide)) (b2 8 (by decide)) c3 (by omega) hmv (by omega) rfl sR sR (X_count4 (d := 1) (by omega)) (by omega) rfl (b4 8 (by decide)) (b4 8 (by decide)) (by omega) PR r1 (by omega) c0 rR w1 (by omega) (by decide) ⟨by decide, by decide⟩ q1 (by omega) htr (by omega) (by decide) ⟨by decide, by decide⟩ (wd M2 hLI2 (w2 1 (by omega)))
        · exact law_752_10000101 (by omega) ⟨by omega, by omega⟩ VR (X_count0 (d := 0)) (by omega) hPV.1.symm ⟨by omega, by omega⟩ PR (X_count1 (d := 0)) (by omega) hPV.2.symm ⟨by omega, by omega⟩ VR (X_count2 (d := 2) (by omega)) (by omega) rfl (b2 8 (by decide)) (b2 8 (by decide)) c3 (by omega) hmv (by omega) rfl sR sR (X_count4 (d := 1) (by omega)) (by omega) rfl (b4 8 (by decide)) (b4 8 (by decide)) (by omega) PR r1 (by omega) c0 rR (wd M hLI rfl)
    | succ k ih =>
      intro m hm
      have h1 := hMd (m : Int) (by omega) (by omega)
      have e7 := h7 (m : Int) (by omega) (by omega)
      have hb1 := gb_bit (s := gset (gCn (M 5) (M 2)) (M 1 1).toNat) (p := (m : Int)) ⟨g4.1, by omega⟩ ⟨by omega, by omega⟩
      rw [Int.toNat_natCast, gset_bit _ _ m (by omega)] at hb1
      have hn := ih (m + 1) (by omega)
      have hn' : gx_G l κ gx_sh z_mt zL_law d (752, [gR 0, gR 1, gR 105, gR 106, gR 107, gR 108, gR 109, gR 110, gR 111, gJ now, gU, gI (t : Int), gI x, gU, gU, gU, gI (gsm (M 2) 8), gI (gsm (M 4) m + M 4 (m : Int)), gI ((m : Int) + 1), gU, gU, gU, gU, gU], [], M) Q := hn
      rw [← e7] at hn'
      exact law_752_001 (by omega) ⟨by omega, by omega⟩ VR ⟨by omega, by omega⟩ (X_ofMove1 (d := 1) (by omega) h0 ⟨by omega, by omega⟩) (by omega) e7.symm ⟨by omega, by omega⟩ (by rw [e7]; exact ⟨by omega, by omega⟩) (X_ofMove0 (d := 2) (by omega) h0 (by omega) ⟨by omega, by omega⟩) (by omega) hmv (by omega) hb1.symm (gi_R _) (by rw [hb1]; exact gi_R _) hn'
  -- the places
  have pls : ∀ (k p : Nat), p + k = (M 1 0).toNat → gx_G l κ gx_sh z_mt zL_law d (689, [gR 0, gR 1, gR 105, gR 106, gR 107, gR 108, gR 109, gR 110, gR 111, gJ now, gU, gI (t : Int), gI x, gU, gU, gU, gI (gsm (M 2) p), gI 0, gI (p : Int), gU, gU, gU, gU, gU], [], M) Q := by
    intro k
    induction k with
    | zero =>
      intro p hp
      have h9 := mvs (M 1 1).toNat 0 (by omega)
      rw [e8] at h9
      rw [show p = (M 1 0).toNat from by omega]
      exact law_689_1 (by omega) ⟨by omega, by omega⟩ PR h9
    | succ k ih =>
      intro p hp
      have h1 := hT (p : Int) (by omega) (by omega)
      have e6 := h6 (p : Int) (by omega) (by omega)
      have hat := X_at (l := l) (κ := κ) (d := 0) (M := M) hR.2.1 (p := (p : Int)) ⟨by omega, by omega⟩
      rw [hR.2.2.2.2 (p : Int) (by omega) (by omega)] at hat
      exact law_689_001 (by omega) ⟨by omega, by omega⟩ PR hat (by omega) (X_ofPlace0 (d := 1) (by omega) h0 ⟨by omega, by omega⟩) (by omega) hat (by omega) rfl ⟨by omega, by omega⟩ ⟨by omega, by omega⟩ (X_ofPlace3 (d := 1) (by omega) h0 ⟨by omega, by omega⟩) (by omega) ⟨by omega, by omega⟩ e6.symm ⟨by omega, by omega⟩ (by rw [e6]; exact ⟨by omega, by omega⟩) (ih (p + 1) (by omega))
  exact law_680 (pls (M 1 0).toNat 0 (by omega))
/-- all turns: the law answers true -/
theorem L_loop (hd : 16 ≤ d) (hκ : κ.2.2.2 ≤ 260) : ∀ (k t : Nat) (M : gx_M) (now : Int), t + k = 26 → gLI M now (5 + 54 * (t : Int)) (6 * (t : Int)) → gCt M t → gx_G l κ gx_sh z_mt zL_law d (51, [gR 0, gR 1, gR 105, gR 106, gR 107, gR 108, gR 109, gR 110, gR 111, gJ now, gU, gI (t : Int), gU, gU, gU, gU, gU, gU, gU, gU, gU, gU, gU, gU], [], M) (fun rv _ => rv = some (gI 1)) := by
  intro k
  induction k with
  | zero =>
    intro t M now ht h hC
    exact law_51_1 (by omega) ⟨by omega, by omega⟩ rfl
  | succ k ih =>
    intro t M now ht h hC
    refine L_act (by omega) hκ (by omega) h (by omega) (by omega) hC (fun M' now' x h1 h2 => L_checks (by omega) h1 (by omega) (by omega) (by omega) (fun M2 h3 h4 => ?_))
    have e1 : 5 + 54 * (t : Int) + 54 = 5 + 54 * ((t + 1 : Nat) : Int) := by omega
    have e2 : 6 * (t : Int) + 6 = 6 * ((t + 1 : Nat) : Int) := by omega
    rw [e1, e2] at h3
    have h5 := ih (t + 1) M2 now' (by omega) h3 (by unfold gCt at *; rw [h4]; exact h2)
    exact h5
end LAWLOOP
