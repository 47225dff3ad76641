
theorem y_in {a n : Nat} (h1 : a < n) (h2 : a < 2147483648) : vp_in (nI a) n := by
  intro h
  rcases h with h | h
  · exact nI_pos h2 h
  · rw [nI_clamp h2] at h
    omega
theorem y_pv_ok {κ : yK} {α : List Nat} {r3 : Nat} {v : yV} {x : Value} {ty : FieldType} (h1 : y_pv r3 v = true) (h2 : y_pk r3 (some ty) = true) (h3 : y_d κ α v = some x) : narrow ty x = x ∧ fits ty x = true := by
  cases ty with
  | int =>
    have e := y_beq.mp h2
    subst e
    rcases v with a | a | a
    · cases h3; exact ⟨rfl, rfl⟩
    · cases h1
    · cases h1
  | boolean =>
    have e := y_beq.mp h2
    subst e
    rcases v with (a | a) | a | a
    · have e2 := y_ble.mp h1
      cases h3
      have e3 : a = 0 ∨ a = 1 := by omega
      rcases e3 with rfl | rfl
      · exact ⟨(by decide : narrow .boolean (.int (nI 0)) = .int (nI 0)), (by decide : fits .boolean (.int (nI 0)) = true)⟩
      · exact ⟨(by decide : narrow .boolean (.int (nI 1)) = .int (nI 1)), (by decide : fits .boolean (.int (nI 1)) = true)⟩
    · cases h1
    · cases h1
    · cases h1
  | object C =>
    have e := y_beq.mp h2
    subst e
    rcases v with a | a | _ | a
    · cases h1
    · cases h1
    · cases h3; exact ⟨rfl, rfl⟩
    · obtain ⟨b, -, rfl⟩ := Option.map_eq_some_iff.mp h3
      exact ⟨rfl, rfl⟩
  | array C =>
    have e := y_beq.mp h2
    subst e
    rcases v with a | a | _ | a
    · cases h1
    · cases h1
    · cases h3; exact ⟨rfl, rfl⟩
    · obtain ⟨b, -, rfl⟩ := Option.map_eq_some_iff.mp h3
      exact ⟨rfl, rfl⟩
  | byte => cases h2
  | char => cases h2
  | double => cases h2
  | float => cases h2
  | long => cases h2
  | short => cases h2
theorem y_get_upd {κ : yK} {n a : Nat} {f : Nat → Int32} {m : List (Nat × yI)} {v : yI} {x : Int32} (hx : y_i κ v = x) (h : ∀ i, i < n → f i = y_i κ (y_get m i)) : ∀ i, i < n → upd f a x i = y_i κ (y_get ((a, v) :: m) i) := by
  intro i hi
  show _ = y_i κ (bif Nat.beq a i then v else y_get m i)
  cases hc : Nat.beq a i with
  | true =>
    have e := y_beq.mp hc
    subst e
    rw [pk_us, ← hx]
    rfl
  | false =>
    have e : i ≠ a := fun z => by rw [z, Nat.beq_refl] at hc; cases hc
    rw [pk_un e]
    exact h i hi
theorem y_get_map (i dp : Nat) (g : Nat → yI) (m : List (Nat × yI)) : ∀ L : List Nat, (∀ x, x ∈ L → dp + x ≠ i) → y_get (L.map (fun x => (dp + x, g x)) ++ m) i = y_get m i := by
  intro L
  induction L with
  | nil => intro _; rfl
  | cons x L ih =>
    intro h
    show (bif Nat.beq (dp + x) i then g x else y_get (L.map (fun x => (dp + x, g x)) ++ m) i) = _
    have e : Nat.beq (dp + x) i = false := by
      cases hc : Nat.beq (dp + x) i with
      | false => rfl
      | true => exact absurd (y_beq.mp hc) (h x List.mem_cons_self)
    rw [e]
    exact ih (fun x hx => h x (List.mem_cons_of_mem _ hx))
theorem y_get_in (i dp : Nat) (g : Nat → yI) (m : List (Nat × yI)) : ∀ L : List Nat, (∃ x, x ∈ L ∧ dp + x = i) → y_get (L.map (fun x => (dp + x, g x)) ++ m) i = g (i - dp) := by
  intro L
  induction L with
  | nil => rintro ⟨x, hx, -⟩; cases hx
  | cons x L ih =>
    intro h
    show (bif Nat.beq (dp + x) i then g x else y_get (L.map (fun x => (dp + x, g x)) ++ m) i) = _
    cases hc : Nat.beq (dp + x) i with
    | true =>
      have e := y_beq.mp hc
      subst e
      show g x = g (dp + x - dp)
      rw [Nat.add_sub_cancel_left]
    | false =>
      obtain ⟨y, hy, hyi⟩ := h
      rcases List.mem_cons.mp hy with rfl | hy
      · rw [hyi, Nat.beq_refl] at hc; cases hc
      · exact ih ⟨y, hy, hyi⟩
theorem y_get_cpy {κ : yK} {n0 n1 sp dp k : Nat} {f g : Nat → Int32} {m0 m1 : List (Nat × yI)} (h0 : ∀ i, i < n0 → f i = y_i κ (y_get m0 i)) (h1 : ∀ i, i < n1 → g i = y_i κ (y_get m1 i)) (hs : sp + k ≤ n0) :
    ∀ i, i < n1 → va_cpy f g sp dp k i = y_i κ (y_get ((List.range k).map (fun x => (dp + x, y_get m0 (sp + x))) ++ m1) i) := by
  intro i hi
  by_cases hc : dp ≤ i ∧ i < dp + k
  · rw [y_get_in i dp (fun x => y_get m0 (sp + x)) m1 _ ⟨i - dp, List.mem_range.mpr (by omega), by omega⟩, pk_cpy_in hc.1 hc.2]
    exact h0 _ (by omega)
  · rw [y_get_map i dp (fun x => y_get m0 (sp + x)) m1 _ (fun x hx => by have := List.mem_range.mp hx; omega), pk_cpy_out (by omega)]
    exact h1 i hi
theorem y_nar (x : Int32) : vp_nar .char x = (x.toUInt32 % 65536).toInt32 := by
  rw [vp_nar_char]
  congr 1
theorem y_nbool {b : Nat} (h : b ≤ 1) : vp_nar .boolean (nI b) = nI b := by
  have e3 : b = 0 ∨ b = 1 := by omega
  rcases e3 with rfl | rfl
  · decide
  · decide
theorem y_cl {κ : yK} {n : Nat} (h : n < 2147483648) : (y_i κ (.inl n)).toNatClampNeg = n := nI_clamp h
theorem y_sub1_ok {κ : yK} {tb : yT} (hT : y_T κ tb) (j : Nat) : y_i κ (y_sub1 tb j) = κ.1 j := by
  unfold y_sub1
  cases hc : y_lookT tb 20 (.inr j) (.inr j) with
  | none => rfl
  | some r => exact (y_lookT_ok hT hc).symm
theorem y_new_ref {κ : yK} {α : List Nat} {h : List yC} (q : Nat) (e : α.length = h.length) : y_d κ (α ++ [q]) (.inr (.inr (some (h.length + 1)))) = some (.ref q) := by
  show ((α ++ [q])[h.length]?).map Value.ref = _
  rw [← e]
  simp
section YHEAP
variable {p : Program} {l : Launch} {e : Env} {R : Room} {s : State} {m : MethodId} {args : Array Value} {below : List Frame} {meth : Method} {c : Code} {H : Heap} {locs : List Loc} {Q : State → Prop} {ls : Array Slot}
variable {κ : yK} {D : va_G} {A : Nat → Prop} {α : List Nat} {tys : List (ClassId × FieldType)} {ws : va_W} {lv : List (Nat × Value)} {sv : List Value} {lo : yL} {st : List yV} {h : List yC} {cc : ByteArray} {own yn : String} {nL : Nat} {hy : yF} {tb : yT} {sc : Bool} {pc k n : Nat} {S' : yS}

set_option maxHeartbeats 4000000 in
set_option maxRecDepth 100000 in
theorem y_st_getf {i : Nat} {nx r1 r2 r3 : Nat} (C : y_ctx κ sc p R s m args meth c cc own yn nL A) (hH : y_H κ hy) (hT : y_T κ tb) (hok : y_okop nL own yn cc (pc, (.getfield i, nx, r1, r2, r3)) = true) (hs : y_step sc κ.2.2.2 hy tb pc (.getfield i, nx, r1, r2, r3) lo st h k n = some S') (hk : S'.2.2.2.2.1 ≤ R.cells) (hn : S'.2.2.2.2.2 ≤ R.slots) (Z : y_Z κ D A s nL α tys ws H locs ls lv sv lo st h)
    (kk : ∀ α' tys' ws' H' locs' ls' lv' sv', α <+: α' → y_Z κ D A s nL α' tys' ws' H' locs' ls' lv' sv' S'.2.1 S'.2.2.1 S'.2.2.2.1 → W p l e R s m args below meth c H' locs' S'.2.2.2.2.1 S'.2.2.2.2.2 Q (F0 m S'.1 ls' sv')) : W p l e R s m args below meth c H locs k n Q (F0 m pc ls sv) := by
  obtain ⟨hx, hb, hml, hown, hts, hyn, hAO, hA, hRf, hRl, hsc⟩ := C
  obtain ⟨hh, hl, hst, hls, hP, hK, hD, hS⟩ := Z
  unfold y_okop y_okin at hok
  simp only [Bool.and_eq_true, decide_eq_true_eq] at hok
  obtain ⟨hdg, hok⟩ := hok
  unfold y_step at hs
  dsimp only at hs
  obtain ⟨rfl, hfl⟩ := hok
  rw [Nat.add_sub_cancel_left] at hdg
  rcases st with _ | ⟨a | a | _ | _ | j, r⟩ <;> try (cases hs; done)
  · cases hg : h[j]? with
    | none => dsimp only at hs; rw [hg] at hs; cases hs
    | some c0 =>
      try dsimp only at hs
      rw [hg] at hs
      rcases c0 with ⟨ci, fs⟩ | c0
      · try dsimp only at hs
        cases hc : Nat.beq ci r1 with
        | false => rw [hc] at hs; cases hs
        | true =>
          rw [hc] at hs
          cases hf : fs[r2]? with
          | none => rw [hf] at hs; cases hs
          | some v =>
            rw [hf] at hs
            cases hs
            have e1 := y_beq.mp hc
            subst e1
            obtain ⟨b, ys, rfl, hb1, h2⟩ := y_ds_cr hst
            obtain ⟨b', e', g1, g2, vs, g3, rfl⟩ := hh.2.2 j _ hg
            have e2 : b' = b := Option.some.inj (g1.symm.trans hb1)
            subst e2
            obtain ⟨x, hx1, hx2⟩ := y_ds_get g3 hf
            unfold y_fl at hfl
            cases hr : vwCl[ci]? with
            | none => rw [hr] at hfl; cases hfl
            | some rr =>
              rw [hr] at hfl
              simp only [Bool.and_eq_true, decide_eq_true_eq] at hfl
              obtain ⟨C1, T1, N1⟩ := rr
              exact va_get hx hb hts (y_cls_ok hr).1 hown hK hP j g2 hr r2 hfl.1 (hts _ (yM_ok hfl.2)) (fun _ z => z) hx1 hdg (kk α tys ws H locs ls lv _ (List.prefix_refl _) ⟨hh, hl, y_ds_mk hx2 h2, hls, hP, hK, hD, hS⟩)
      · cases hs

set_option maxHeartbeats 4000000 in
set_option maxRecDepth 100000 in
theorem y_st_putf {i : Nat} {nx r1 r2 r3 : Nat} (C : y_ctx κ sc p R s m args meth c cc own yn nL A) (hH : y_H κ hy) (hT : y_T κ tb) (hok : y_okop nL own yn cc (pc, (.putfield i, nx, r1, r2, r3)) = true) (hs : y_step sc κ.2.2.2 hy tb pc (.putfield i, nx, r1, r2, r3) lo st h k n = some S') (hk : S'.2.2.2.2.1 ≤ R.cells) (hn : S'.2.2.2.2.2 ≤ R.slots) (Z : y_Z κ D A s nL α tys ws H locs ls lv sv lo st h)
    (kk : ∀ α' tys' ws' H' locs' ls' lv' sv', α <+: α' → y_Z κ D A s nL α' tys' ws' H' locs' ls' lv' sv' S'.2.1 S'.2.2.1 S'.2.2.2.1 → W p l e R s m args below meth c H' locs' S'.2.2.2.2.1 S'.2.2.2.2.2 Q (F0 m S'.1 ls' sv')) : W p l e R s m args below meth c H locs k n Q (F0 m pc ls sv) := by
  obtain ⟨hx, hb, hml, hown, hts, hyn, hAO, hA, hRf, hRl, hsc⟩ := C
  obtain ⟨hh, hl, hst, hls, hP, hK, hD, hS⟩ := Z
  unfold y_okop y_okin at hok
  simp only [Bool.and_eq_true, decide_eq_true_eq] at hok
  obtain ⟨hdg, hok⟩ := hok
  unfold y_step at hs
  dsimp only at hs
  obtain ⟨rfl, hfl, hpf⟩ := hok
  rw [Nat.add_sub_cancel_left] at hdg
  rcases st with _ | ⟨v, _ | ⟨a | a | _ | _ | j, r⟩⟩ <;> try (cases hs; done)
  · cases hg : h[j]? with
    | none => dsimp only at hs; rw [hg] at hs; cases hs
    | some c0 =>
      try dsimp only at hs
      rw [hg] at hs
      rcases c0 with ⟨ci, fs⟩ | c0
      · try dsimp only at hs
        cases hc : (Nat.beq ci r1 && (Nat.blt r2 fs.length && y_pv r3 v)) with
        | false => rw [hc] at hs; cases hs
        | true =>
          rw [hc] at hs
          cases hs
          simp only [Bool.and_eq_true] at hc
          obtain ⟨hc1, hc2, hc3⟩ := hc
          have e1 := y_beq.mp hc1
          subst e1
          obtain ⟨x, ys0, rfl, hx2, h1⟩ := y_ds_cons hst
          obtain ⟨b, ys, rfl, hb1, h2⟩ := y_ds_cr h1
          obtain ⟨b', e', g1, g2, vs, g3, rfl⟩ := hh.2.2 j _ hg
          have e2 : b' = b := Option.some.inj (g1.symm.trans hb1)
          subst e2
          unfold y_fl at hfl
          unfold y_pf at hpf
          cases hr : vwCl[ci]? with
          | none => rw [hr] at hfl; cases hfl
          | some rr =>
            rw [hr] at hfl hpf
            simp only [Bool.and_eq_true, decide_eq_true_eq, Bool.or_eq_true, Bool.not_eq_true'] at hfl hpf
            obtain ⟨C1, T1, N1⟩ := rr
            obtain ⟨k1, k2, k3⟩ := y_cls_ok hr
            have hty := k2 r2 hfl.1
            have hpk := hpf.1
            rw [hty] at hpk
            obtain ⟨n1, n2⟩ := y_pv_ok hc3 hpk hx2
            have hlen : r2 < vs.length := by rw [← y_ds_len g3]; exact y_blt.mp hc2
            have hc0 : y_c κ α tys (.inl (ci, fs.set r2 v)) (.inr (ci, vs.set r2 x)) := ⟨vs.set r2 x, y_ds_set r2 g3 hx2, rfl⟩
            have hnew := y_h_set hh hg g1 hc0
            cases hfin : (T1 r2).2.2.2 with
            | false =>
              exact va_put hx hb hts k1 _ k2 k3 hown hK hP hD hS j g2 hr r2 hfl.1 (hts _ (yM_ok hfl.2)) (fun _ z => z) hfin hty n1 n2 hlen hdg (fun H1 locs1 hP1 hD1 hS1 => kk α tys _ H1 locs1 ls lv _ (List.prefix_refl _) ⟨hnew, hl, h2, hls, hP1, hK, hD1, hS1⟩)
            | true =>
              rcases hpf.2 with hf | hf
              · rw [hfin] at hf; cases hf
              · exact va_putF hx hb hts k1 _ k2 k3 hown hK hP hD hS j g2 hr r2 hfl.1 (hts _ (yM_ok hfl.2)) (fun _ z => z) hfin (hyn hf.1) hf.2 hty n1 n2 hlen hdg (fun H1 locs1 hP1 hD1 hS1 => kk α tys _ H1 locs1 ls lv _ (List.prefix_refl _) ⟨hnew, hl, h2, hls, hP1, hK, hD1, hS1⟩)
      · cases hs

set_option maxHeartbeats 4000000 in
set_option maxRecDepth 100000 in
theorem y_st_iald {nx r1 r2 r3 : Nat} (C : y_ctx κ sc p R s m args meth c cc own yn nL A) (hH : y_H κ hy) (hT : y_T κ tb) (hok : y_okop nL own yn cc (pc, (.iaload, nx, r1, r2, r3)) = true) (hs : y_step sc κ.2.2.2 hy tb pc (.iaload, nx, r1, r2, r3) lo st h k n = some S') (hk : S'.2.2.2.2.1 ≤ R.cells) (hn : S'.2.2.2.2.2 ≤ R.slots) (Z : y_Z κ D A s nL α tys ws H locs ls lv sv lo st h)
    (kk : ∀ α' tys' ws' H' locs' ls' lv' sv', α <+: α' → y_Z κ D A s nL α' tys' ws' H' locs' ls' lv' sv' S'.2.1 S'.2.2.1 S'.2.2.2.1 → W p l e R s m args below meth c H' locs' S'.2.2.2.2.1 S'.2.2.2.2.2 Q (F0 m S'.1 ls' sv')) : W p l e R s m args below meth c H locs k n Q (F0 m pc ls sv) := by
  obtain ⟨hx, hb, hml, hown, hts, hyn, hAO, hA, hRf, hRl, hsc⟩ := C
  obtain ⟨hh, hl, hst, hls, hP, hK, hD, hS⟩ := Z
  unfold y_okop y_okin at hok
  simp only [Bool.and_eq_true, decide_eq_true_eq] at hok
  obtain ⟨hdg, hok⟩ := hok
  unfold y_step at hs
  dsimp only at hs
  obtain rfl := hok
  rw [Nat.add_sub_cancel_left] at hdg
  rcases st with _ | ⟨(x0 | x0) | x0, _ | ⟨a | a | _ | _ | j, r⟩⟩ <;> try (cases hs; done)
  · try dsimp only at hs
    cases hc : (sc && (Nat.blt x0 κ.2.2.2 && Nat.blt x0 2147483648)) with
    | false => rw [hc] at hs; cases hs
    | true =>
      rw [hc] at hs
      cases hs
      simp only [Bool.and_eq_true] at hc
      obtain ⟨hc1, hc2, hc3⟩ := hc
      obtain ⟨hX, hbl, hbA⟩ := hsc hc1
      obtain ⟨ys, rfl, h1⟩ := y_ds_ci hst
      obtain ⟨b, zs, rfl, hb1, h2⟩ := y_ds_cr h1
      cases hb1
      have h3 := y_blt.mp hc3
      exact va_sld hx hb hX hbl hbA hS (y_in (y_blt.mp hc2) h3) hdg (kk α tys ws H locs ls lv _ (List.prefix_refl _) ⟨hh, hl, y_ds_i (by rw [show y_i κ (.inl x0) = nI x0 from rfl, nI_clamp h3]; exact y_sub1_ok hT x0) h2, hls, hP, hK, hD, hS⟩)
  · cases hg : h[j]? with
    | none => dsimp only at hs; rw [hg] at hs; cases hs
    | some c0 =>
      try dsimp only at hs
      rw [hg] at hs
      rcases c0 with ⟨ci, fs⟩ | ⟨_ | kd, len, m0⟩ | c0 <;> try (cases hs; done)
      · replace hs : (bif Nat.blt x0 len && Nat.blt x0 2147483648 then some (pc + 1, lo, .inl (y_get m0 x0) :: r, h, k, n) else none) = some S' := hs
        cases hc : (Nat.blt x0 len && Nat.blt x0 2147483648) with
        | false => rw [hc] at hs; cases hs
        | true =>
          rw [hc] at hs
          cases hs
          simp only [Bool.and_eq_true] at hc
          have h3 := y_blt.mp hc.1
          have h4 := y_blt.mp hc.2
          obtain ⟨ys, rfl, h1⟩ := y_ds_ci hst
          obtain ⟨b, zs, rfl, hb1, h2⟩ := y_ds_cr h1
          obtain ⟨b', e', g1, g2, cA, t0, f, g3, g4, rfl⟩ := hh.2.2 j _ hg
          have e2 : b' = b := Option.some.inj (g1.symm.trans hb1)
          subst e2
          exact va_iald hx hb hK hP j t0 g2 g3 (y_in h3 h4) hdg (kk α tys ws H locs ls lv _ (List.prefix_refl _) ⟨hh, hl, y_ds_i (by rw [show y_i κ (.inl x0) = nI x0 from rfl, nI_clamp h4]; exact (g4 x0 h3).symm) h2, hls, hP, hK, hD, hS⟩)

set_option maxHeartbeats 4000000 in
set_option maxRecDepth 100000 in
theorem y_st_bald {nx r1 r2 r3 : Nat} (C : y_ctx κ sc p R s m args meth c cc own yn nL A) (hH : y_H κ hy) (hT : y_T κ tb) (hok : y_okop nL own yn cc (pc, (.baload, nx, r1, r2, r3)) = true) (hs : y_step sc κ.2.2.2 hy tb pc (.baload, nx, r1, r2, r3) lo st h k n = some S') (hk : S'.2.2.2.2.1 ≤ R.cells) (hn : S'.2.2.2.2.2 ≤ R.slots) (Z : y_Z κ D A s nL α tys ws H locs ls lv sv lo st h)
    (kk : ∀ α' tys' ws' H' locs' ls' lv' sv', α <+: α' → y_Z κ D A s nL α' tys' ws' H' locs' ls' lv' sv' S'.2.1 S'.2.2.1 S'.2.2.2.1 → W p l e R s m args below meth c H' locs' S'.2.2.2.2.1 S'.2.2.2.2.2 Q (F0 m S'.1 ls' sv')) : W p l e R s m args below meth c H locs k n Q (F0 m pc ls sv) := by
  obtain ⟨hx, hb, hml, hown, hts, hyn, hAO, hA, hRf, hRl, hsc⟩ := C
  obtain ⟨hh, hl, hst, hls, hP, hK, hD, hS⟩ := Z
  unfold y_okop y_okin at hok
  simp only [Bool.and_eq_true, decide_eq_true_eq] at hok
  obtain ⟨hdg, hok⟩ := hok
  unfold y_step at hs
  dsimp only at hs
  obtain rfl := hok
  rw [Nat.add_sub_cancel_left] at hdg
  rcases st with _ | ⟨(x0 | x0) | x0, _ | ⟨a | a | _ | _ | j, r⟩⟩ <;> try (cases hs; done)
  · cases hg : h[j]? with
    | none => dsimp only at hs; rw [hg] at hs; cases hs
    | some c0 =>
      try dsimp only at hs
      rw [hg] at hs
      rcases c0 with ⟨ci, fs⟩ | ⟨_ | _ | kd, len, m0⟩ | c0 <;> try (cases hs; done)
      · replace hs : (bif Nat.blt x0 len && Nat.blt x0 2147483648 then some (pc + 1, lo, .inl (y_get m0 x0) :: r, h, k, n) else none) = some S' := hs
        cases hc : (Nat.blt x0 len && Nat.blt x0 2147483648) with
        | false => rw [hc] at hs; cases hs
        | true =>
          rw [hc] at hs
          cases hs
          simp only [Bool.and_eq_true] at hc
          have h3 := y_blt.mp hc.1
          have h4 := y_blt.mp hc.2
          obtain ⟨ys, rfl, h1⟩ := y_ds_ci hst
          obtain ⟨b, zs, rfl, hb1, h2⟩ := y_ds_cr h1
          obtain ⟨b', e', g1, g2, cA, t0, f, g3, g4, rfl⟩ := hh.2.2 j _ hg
          have e2 : b' = b := Option.some.inj (g1.symm.trans hb1)
          subst e2
          exact va_zald hx hb hK hP j t0 g2 g3 (y_in h3 h4) hdg (kk α tys ws H locs ls lv _ (List.prefix_refl _) ⟨hh, hl, y_ds_i (by rw [show y_i κ (.inl x0) = nI x0 from rfl, nI_clamp h4]; exact (g4 x0 h3).symm) h2, hls, hP, hK, hD, hS⟩)

set_option maxHeartbeats 4000000 in
set_option maxRecDepth 100000 in
theorem y_st_aald {nx r1 r2 r3 : Nat} (C : y_ctx κ sc p R s m args meth c cc own yn nL A) (hH : y_H κ hy) (hT : y_T κ tb) (hok : y_okop nL own yn cc (pc, (.aaload, nx, r1, r2, r3)) = true) (hs : y_step sc κ.2.2.2 hy tb pc (.aaload, nx, r1, r2, r3) lo st h k n = some S') (hk : S'.2.2.2.2.1 ≤ R.cells) (hn : S'.2.2.2.2.2 ≤ R.slots) (Z : y_Z κ D A s nL α tys ws H locs ls lv sv lo st h)
    (kk : ∀ α' tys' ws' H' locs' ls' lv' sv', α <+: α' → y_Z κ D A s nL α' tys' ws' H' locs' ls' lv' sv' S'.2.1 S'.2.2.1 S'.2.2.2.1 → W p l e R s m args below meth c H' locs' S'.2.2.2.2.1 S'.2.2.2.2.2 Q (F0 m S'.1 ls' sv')) : W p l e R s m args below meth c H locs k n Q (F0 m pc ls sv) := by
  obtain ⟨hx, hb, hml, hown, hts, hyn, hAO, hA, hRf, hRl, hsc⟩ := C
  obtain ⟨hh, hl, hst, hls, hP, hK, hD, hS⟩ := Z
  unfold y_okop y_okin at hok
  simp only [Bool.and_eq_true, decide_eq_true_eq] at hok
  obtain ⟨hdg, hok⟩ := hok
  unfold y_step at hs
  dsimp only at hs
  obtain rfl := hok
  rw [Nat.add_sub_cancel_left] at hdg
  rcases st with _ | ⟨(x0 | x0) | x0, _ | ⟨a | a | _ | _ | j, r⟩⟩ <;> try (cases hs; done)
  · cases hg : h[j]? with
    | none => dsimp only at hs; rw [hg] at hs; cases hs
    | some c0 =>
      try dsimp only at hs
      rw [hg] at hs
      rcases c0 with ⟨ci, fs⟩ | ⟨kd, len, m0⟩ | ⟨ci, len, m0⟩ <;> try (cases hs; done)
      · try dsimp only at hs
        cases hc : (Nat.blt x0 len && Nat.blt x0 2147483648) with
        | false => rw [hc] at hs; cases hs
        | true =>
          rw [hc] at hs
          cases hs
          simp only [Bool.and_eq_true] at hc
          have h3 := y_blt.mp hc.1
          have h4 := y_blt.mp hc.2
          obtain ⟨ys, rfl, h1⟩ := y_ds_ci hst
          obtain ⟨b, zs, rfl, hb1, h2⟩ := y_ds_cr h1
          obtain ⟨b', e', g1, g2, cA, t0, rr, f, g0, g3, g4, rfl⟩ := hh.2.2 j _ hg
          have e2 : b' = b := Option.some.inj (g1.symm.trans hb1)
          subst e2
          refine va_aldq hx hb hK hP j t0 g2 g3 (y_in h3 h4) hdg (kk α tys ws H locs ls lv _ (List.prefix_refl _) ⟨hh, hl, y_ds_mk ?_ h2, hls, hP, hK, hD, hS⟩)
          rw [show y_i κ (.inl x0) = nI x0 from rfl, nI_clamp h4]
          have g5 := g4 x0 h3
          cases hm : y_getr m0 x0 with
          | none => rw [hm] at g5; rw [show f x0 = none from g5]; rfl
          | some j2 =>
            rw [hm] at g5
            obtain ⟨a2, g6, g7⟩ := g5
            rw [g7]
            exact Option.map_eq_some_iff.mpr ⟨a2, g6, rfl⟩

set_option maxHeartbeats 4000000 in
set_option maxRecDepth 100000 in
theorem y_st_iast {nx r1 r2 r3 : Nat} (C : y_ctx κ sc p R s m args meth c cc own yn nL A) (hH : y_H κ hy) (hT : y_T κ tb) (hok : y_okop nL own yn cc (pc, (.iastore, nx, r1, r2, r3)) = true) (hs : y_step sc κ.2.2.2 hy tb pc (.iastore, nx, r1, r2, r3) lo st h k n = some S') (hk : S'.2.2.2.2.1 ≤ R.cells) (hn : S'.2.2.2.2.2 ≤ R.slots) (Z : y_Z κ D A s nL α tys ws H locs ls lv sv lo st h)
    (kk : ∀ α' tys' ws' H' locs' ls' lv' sv', α <+: α' → y_Z κ D A s nL α' tys' ws' H' locs' ls' lv' sv' S'.2.1 S'.2.2.1 S'.2.2.2.1 → W p l e R s m args below meth c H' locs' S'.2.2.2.2.1 S'.2.2.2.2.2 Q (F0 m S'.1 ls' sv')) : W p l e R s m args below meth c H locs k n Q (F0 m pc ls sv) := by
  obtain ⟨hx, hb, hml, hown, hts, hyn, hAO, hA, hRf, hRl, hsc⟩ := C
  obtain ⟨hh, hl, hst, hls, hP, hK, hD, hS⟩ := Z
  unfold y_okop y_okin at hok
  simp only [Bool.and_eq_true, decide_eq_true_eq] at hok
  obtain ⟨hdg, hok⟩ := hok
  unfold y_step at hs
  dsimp only at hs
  obtain rfl := hok
  rw [Nat.add_sub_cancel_left] at hdg
  rcases st with _ | ⟨v | v, _ | ⟨(x0 | x0) | x0, _ | ⟨a | a | _ | _ | j, r⟩⟩⟩ <;> try (cases hs; done)
  · cases hg : h[j]? with
    | none => dsimp only at hs; rw [hg] at hs; cases hs
    | some c0 =>
      try dsimp only at hs
      rw [hg] at hs
      rcases c0 with ⟨ci, fs⟩ | ⟨_ | kd, len, m0⟩ | c0 <;> try (cases hs; done)
      · replace hs : (bif Nat.blt x0 len && Nat.blt x0 2147483648 then some (pc + 1, lo, r, h.set j (.inr (.inl (0, len, (x0, v) :: m0))), k, n) else none) = some S' := hs
        cases hc : (Nat.blt x0 len && Nat.blt x0 2147483648) with
        | false => rw [hc] at hs; cases hs
        | true =>
          rw [hc] at hs
          cases hs
          simp only [Bool.and_eq_true] at hc
          have h3 := y_blt.mp hc.1
          have h4 := y_blt.mp hc.2
          obtain ⟨xs, rfl, h0⟩ := y_ds_ci hst
          obtain ⟨ys, rfl, h1⟩ := y_ds_ci h0
          obtain ⟨b, zs, rfl, hb1, h2⟩ := y_ds_cr h1
          obtain ⟨b', e', g1, g2, cA, t0, f, g3, g4, rfl⟩ := hh.2.2 j _ hg
          have e2 : b' = b := Option.some.inj (g1.symm.trans hb1)
          subst e2
          refine va_iast hx hb hK hP hD hS j t0 g2 g3 (y_in h3 h4) hdg (fun H1 locs1 hP1 hD1 hS1 => ?_)
          rw [show y_i κ (.inl x0) = nI x0 from rfl, nI_clamp h4] at hP1 hD1
          exact kk α tys _ H1 locs1 ls lv _ (List.prefix_refl _) ⟨y_h_set hh hg g1 ⟨cA, t0, _, g3, y_get_upd rfl g4, rfl⟩, hl, h2, hls, hP1, hK, hD1, hS1⟩

set_option maxHeartbeats 4000000 in
set_option maxRecDepth 100000 in
theorem y_st_bast {nx r1 r2 r3 : Nat} (C : y_ctx κ sc p R s m args meth c cc own yn nL A) (hH : y_H κ hy) (hT : y_T κ tb) (hok : y_okop nL own yn cc (pc, (.bastore, nx, r1, r2, r3)) = true) (hs : y_step sc κ.2.2.2 hy tb pc (.bastore, nx, r1, r2, r3) lo st h k n = some S') (hk : S'.2.2.2.2.1 ≤ R.cells) (hn : S'.2.2.2.2.2 ≤ R.slots) (Z : y_Z κ D A s nL α tys ws H locs ls lv sv lo st h)
    (kk : ∀ α' tys' ws' H' locs' ls' lv' sv', α <+: α' → y_Z κ D A s nL α' tys' ws' H' locs' ls' lv' sv' S'.2.1 S'.2.2.1 S'.2.2.2.1 → W p l e R s m args below meth c H' locs' S'.2.2.2.2.1 S'.2.2.2.2.2 Q (F0 m S'.1 ls' sv')) : W p l e R s m args below meth c H locs k n Q (F0 m pc ls sv) := by
  obtain ⟨hx, hb, hml, hown, hts, hyn, hAO, hA, hRf, hRl, hsc⟩ := C
  obtain ⟨hh, hl, hst, hls, hP, hK, hD, hS⟩ := Z
  unfold y_okop y_okin at hok
  simp only [Bool.and_eq_true, decide_eq_true_eq] at hok
  obtain ⟨hdg, hok⟩ := hok
  unfold y_step at hs
  dsimp only at hs
  obtain rfl := hok
  rw [Nat.add_sub_cancel_left] at hdg
  rcases st with _ | ⟨(v | v) | v, _ | ⟨(x0 | x0) | x0, _ | ⟨a | a | _ | _ | j, r⟩⟩⟩ <;> try (cases hs; done)
  · cases hg : h[j]? with
    | none => dsimp only at hs; rw [hg] at hs; cases hs
    | some c0 =>
      try dsimp only at hs
      rw [hg] at hs
      rcases c0 with ⟨ci, fs⟩ | ⟨_ | _ | kd, len, m0⟩ | c0 <;> try (cases hs; done)
      · replace hs : (bif Nat.ble v 1 && (Nat.blt x0 len && Nat.blt x0 2147483648) then some (pc + 1, lo, r, h.set j (.inr (.inl (1, len, (x0, .inl v) :: m0))), k, n) else none) = some S' := hs
        cases hc : (Nat.ble v 1 && (Nat.blt x0 len && Nat.blt x0 2147483648)) with
        | false => rw [hc] at hs; cases hs
        | true =>
          rw [hc] at hs
          cases hs
          simp only [Bool.and_eq_true] at hc
          have h5 := y_ble.mp hc.1
          have h3 := y_blt.mp hc.2.1
          have h4 := y_blt.mp hc.2.2
          obtain ⟨xs, rfl, h0⟩ := y_ds_ci hst
          obtain ⟨ys, rfl, h1⟩ := y_ds_ci h0
          obtain ⟨b, zs, rfl, hb1, h2⟩ := y_ds_cr h1
          obtain ⟨b', e', g1, g2, cA, t0, f, g3, g4, rfl⟩ := hh.2.2 j _ hg
          have e2 : b' = b := Option.some.inj (g1.symm.trans hb1)
          subst e2
          refine va_zast hx hb hK hP hD hS j t0 g2 g3 (y_in h3 h4) hdg (fun H1 locs1 hP1 hD1 hS1 => ?_)
          rw [show y_i κ (.inl x0) = nI x0 from rfl, nI_clamp h4, show y_i κ (.inl v) = nI v from rfl, y_nbool h5] at hP1 hD1
          exact kk α tys _ H1 locs1 ls lv _ (List.prefix_refl _) ⟨y_h_set hh hg g1 ⟨cA, t0, _, g3, y_get_upd rfl g4, rfl⟩, hl, h2, hls, hP1, hK, hD1, hS1⟩

set_option maxHeartbeats 4000000 in
set_option maxRecDepth 100000 in
theorem y_st_cast {nx r1 r2 r3 : Nat} (C : y_ctx κ sc p R s m args meth c cc own yn nL A) (hH : y_H κ hy) (hT : y_T κ tb) (hok : y_okop nL own yn cc (pc, (.castore, nx, r1, r2, r3)) = true) (hs : y_step sc κ.2.2.2 hy tb pc (.castore, nx, r1, r2, r3) lo st h k n = some S') (hk : S'.2.2.2.2.1 ≤ R.cells) (hn : S'.2.2.2.2.2 ≤ R.slots) (Z : y_Z κ D A s nL α tys ws H locs ls lv sv lo st h)
    (kk : ∀ α' tys' ws' H' locs' ls' lv' sv', α <+: α' → y_Z κ D A s nL α' tys' ws' H' locs' ls' lv' sv' S'.2.1 S'.2.2.1 S'.2.2.2.1 → W p l e R s m args below meth c H' locs' S'.2.2.2.2.1 S'.2.2.2.2.2 Q (F0 m S'.1 ls' sv')) : W p l e R s m args below meth c H locs k n Q (F0 m pc ls sv) := by
  obtain ⟨hx, hb, hml, hown, hts, hyn, hAO, hA, hRf, hRl, hsc⟩ := C
  obtain ⟨hh, hl, hst, hls, hP, hK, hD, hS⟩ := Z
  unfold y_okop y_okin at hok
  simp only [Bool.and_eq_true, decide_eq_true_eq] at hok
  obtain ⟨hdg, hok⟩ := hok
  unfold y_step at hs
  dsimp only at hs
  obtain rfl := hok
  rw [Nat.add_sub_cancel_left] at hdg
  rcases st with _ | ⟨v | v, _ | ⟨(x0 | x0) | x0, _ | ⟨a | a | _ | _ | j, r⟩⟩⟩ <;> try (cases hs; done)
  · cases hg : h[j]? with
    | none => dsimp only at hs; rw [hg] at hs; cases hs
    | some c0 =>
      try dsimp only at hs
      rw [hg] at hs
      rcases c0 with ⟨ci, fs⟩ | ⟨_ | _ | _ | kd, len, m0⟩ | c0 <;> try (cases hs; done)
      · replace hs : (match y_lookT tb 2 v v with | some w => (bif Nat.blt x0 len && Nat.blt x0 2147483648 then some (pc + 1, lo, r, h.set j (.inr (.inl (2, len, (x0, w) :: m0))), k, n) else none) | none => none) = some S' := hs
        cases hw : y_lookT tb 2 v v with
        | none => rw [hw] at hs; cases hs
        | some u =>
        rw [hw] at hs
        dsimp only at hs
        cases hc : (Nat.blt x0 len && Nat.blt x0 2147483648) with
        | false => rw [hc] at hs; cases hs
        | true =>
          rw [hc] at hs
          cases hs
          simp only [Bool.and_eq_true] at hc
          have h3 := y_blt.mp hc.1
          have h4 := y_blt.mp hc.2
          obtain ⟨xs, rfl, h0⟩ := y_ds_ci hst
          obtain ⟨ys, rfl, h1⟩ := y_ds_ci h0
          obtain ⟨b, zs, rfl, hb1, h2⟩ := y_ds_cr h1
          obtain ⟨b', e', g1, g2, cA, t0, f, g3, g4, rfl⟩ := hh.2.2 j _ hg
          have e2 : b' = b := Option.some.inj (g1.symm.trans hb1)
          subst e2
          have hu : ((y_i κ v).toUInt32 % 65536).toInt32 = y_i κ u := y_lookT_ok hT hw
          refine va_cast hx hb hK hP hD hS j t0 g2 g3 (y_in h3 h4) hdg (fun H1 locs1 hP1 hD1 hS1 => ?_)
          rw [show y_i κ (.inl x0) = nI x0 from rfl, nI_clamp h4, y_nar, hu] at hP1 hD1
          exact kk α tys _ H1 locs1 ls lv _ (List.prefix_refl _) ⟨y_h_set hh hg g1 ⟨cA, t0, _, g3, y_get_upd rfl g4, rfl⟩, hl, h2, hls, hP1, hK, hD1, hS1⟩

set_option maxHeartbeats 4000000 in
set_option maxRecDepth 100000 in
theorem y_st_aast {nx r1 r2 r3 : Nat} (C : y_ctx κ sc p R s m args meth c cc own yn nL A) (hH : y_H κ hy) (hT : y_T κ tb) (hok : y_okop nL own yn cc (pc, (.aastore, nx, r1, r2, r3)) = true) (hs : y_step sc κ.2.2.2 hy tb pc (.aastore, nx, r1, r2, r3) lo st h k n = some S') (hk : S'.2.2.2.2.1 ≤ R.cells) (hn : S'.2.2.2.2.2 ≤ R.slots) (Z : y_Z κ D A s nL α tys ws H locs ls lv sv lo st h)
    (kk : ∀ α' tys' ws' H' locs' ls' lv' sv', α <+: α' → y_Z κ D A s nL α' tys' ws' H' locs' ls' lv' sv' S'.2.1 S'.2.2.1 S'.2.2.2.1 → W p l e R s m args below meth c H' locs' S'.2.2.2.2.1 S'.2.2.2.2.2 Q (F0 m S'.1 ls' sv')) : W p l e R s m args below meth c H locs k n Q (F0 m pc ls sv) := by
  obtain ⟨hx, hb, hml, hown, hts, hyn, hAO, hA, hRf, hRl, hsc⟩ := C
  obtain ⟨hh, hl, hst, hls, hP, hK, hD, hS⟩ := Z
  unfold y_okop y_okin at hok
  simp only [Bool.and_eq_true, decide_eq_true_eq] at hok
  obtain ⟨hdg, hok⟩ := hok
  unfold y_step at hs
  dsimp only at hs
  obtain rfl := hok
  rw [Nat.add_sub_cancel_left] at hdg
  rcases st with _ | ⟨v0 | v0 | _ | _ | v, _ | ⟨(x0 | x0) | x0, _ | ⟨a | a | _ | _ | j, r⟩⟩⟩ <;> try (cases hs; done)
  · cases hg : h[j]? with
    | none => dsimp only at hs; rw [hg] at hs; cases hs
    | some c0 =>
      try dsimp only at hs
      rw [hg] at hs
      rcases c0 with ⟨ci, fs⟩ | ⟨kd, len, m0⟩ | ⟨ci, len, m0⟩ <;> try (cases hs; done)
      · try dsimp only at hs
        cases hw : h[v]? with
        | none => rw [hw] at hs; cases hs
        | some c1 =>
        rw [hw] at hs
        rcases c1 with ⟨cv, fv⟩ | c1
        · try dsimp only at hs
          cases hc : (Nat.beq cv ci && (Nat.blt x0 len && Nat.blt x0 2147483648)) with
          | false => rw [hc] at hs; cases hs
          | true =>
            rw [hc] at hs
            cases hs
            simp only [Bool.and_eq_true] at hc
            have h5 := y_beq.mp hc.1
            subst h5
            have h3 := y_blt.mp hc.2.1
            have h4 := y_blt.mp hc.2.2
            obtain ⟨va, xs, rfl, hv1, h0⟩ := y_ds_cr hst
            obtain ⟨ys, rfl, h1⟩ := y_ds_ci h0
            obtain ⟨b, zs, rfl, hb1, h2⟩ := y_ds_cr h1
            obtain ⟨b', e', g1, g2, cA, t0, rr, f, g0, g3, g4, rfl⟩ := hh.2.2 j _ hg
            have e2 : b' = b := Option.some.inj (g1.symm.trans hb1)
            subst e2
            obtain ⟨v', e3, f1, f2, vs, f3, rfl⟩ := hh.2.2 v _ hw
            have e4 : v' = va := Option.some.inj (f1.symm.trans hv1)
            subst e4
            refine va_astq hx hb hK hP hD hS j t0 v cv g2 g3 f2 g0 (y_in h3 h4) hdg (fun H1 locs1 hP1 hD1 hS1 => ?_)
            rw [show y_i κ (.inl x0) = nI x0 from rfl, nI_clamp h4] at hP1 hD1
            refine kk α tys _ H1 locs1 ls lv _ (List.prefix_refl _) ⟨y_h_set hh hg g1 ⟨cA, t0, rr, _, g0, g3, fun i hi => ?_, rfl⟩, hl, h2, hls, hP1, hK, hD1, hS1⟩
            have e5 : y_getr ((x0, some (v + 1)) :: m0) i = (bif Nat.beq x0 i then some (v + 1) else y_getr m0 i) := rfl
            rw [e5]
            cases hq : Nat.beq x0 i with
            | true =>
              have e6 := y_beq.mp hq
              subst e6
              exact ⟨v', hv1, by show (if x0 = x0 then some v' else f x0) = some v'; rw [if_pos rfl]⟩
            | false =>
              have e6 : ¬ i = x0 := fun z => by rw [z, Nat.beq_refl] at hq; cases hq
              have e7 : va_up f x0 (some v') i = f i := if_neg e6
              have g5 := g4 i hi
              show match y_getr m0 i with | none => va_up f x0 (some v') i = none | some j2 => ∃ a, y_r κ α j2 = some a ∧ va_up f x0 (some v') i = some a
              rw [e7]
              exact g5
        · cases hs

set_option maxHeartbeats 4000000 in
set_option maxRecDepth 100000 in
theorem y_st_alen {nx r1 r2 r3 : Nat} (C : y_ctx κ sc p R s m args meth c cc own yn nL A) (hH : y_H κ hy) (hT : y_T κ tb) (hok : y_okop nL own yn cc (pc, (.arraylength, nx, r1, r2, r3)) = true) (hs : y_step sc κ.2.2.2 hy tb pc (.arraylength, nx, r1, r2, r3) lo st h k n = some S') (hk : S'.2.2.2.2.1 ≤ R.cells) (hn : S'.2.2.2.2.2 ≤ R.slots) (Z : y_Z κ D A s nL α tys ws H locs ls lv sv lo st h)
    (kk : ∀ α' tys' ws' H' locs' ls' lv' sv', α <+: α' → y_Z κ D A s nL α' tys' ws' H' locs' ls' lv' sv' S'.2.1 S'.2.2.1 S'.2.2.2.1 → W p l e R s m args below meth c H' locs' S'.2.2.2.2.1 S'.2.2.2.2.2 Q (F0 m S'.1 ls' sv')) : W p l e R s m args below meth c H locs k n Q (F0 m pc ls sv) := by
  obtain ⟨hx, hb, hml, hown, hts, hyn, hAO, hA, hRf, hRl, hsc⟩ := C
  obtain ⟨hh, hl, hst, hls, hP, hK, hD, hS⟩ := Z
  unfold y_okop y_okin at hok
  simp only [Bool.and_eq_true, decide_eq_true_eq] at hok
  obtain ⟨hdg, hok⟩ := hok
  unfold y_step at hs
  dsimp only at hs
  obtain rfl := hok
  rw [Nat.add_sub_cancel_left] at hdg
  rcases st with _ | ⟨a | a | _ | _ | j, r⟩ <;> try (cases hs; done)
  · try dsimp only at hs
    cases hc : (sc && Nat.blt κ.2.2.2 2147483648) with
    | false => rw [hc] at hs; cases hs
    | true =>
      rw [hc] at hs
      cases hs
      simp only [Bool.and_eq_true] at hc
      obtain ⟨hX, hbl, hbA⟩ := hsc hc.1
      obtain ⟨b, zs, rfl, hb1, h2⟩ := y_ds_cr hst
      cases hb1
      exact va_slen hx hb hX hbl hbA hS hdg (kk α tys ws H locs ls lv _ (List.prefix_refl _) ⟨hh, hl, y_ds_i rfl h2, hls, hP, hK, hD, hS⟩)
  · cases hg : h[j]? with
    | none => dsimp only at hs; rw [hg] at hs; cases hs
    | some c0 =>
      try dsimp only at hs
      rw [hg] at hs
      rcases c0 with ⟨ci, fs⟩ | ⟨_ | kd, len, m0⟩ | c0 <;> try (cases hs; done)
      · cases hs
        obtain ⟨b, zs, rfl, hb1, h2⟩ := y_ds_cr hst
        obtain ⟨b', e', g1, g2, cA, t0, f, g3, g4, rfl⟩ := hh.2.2 j _ hg
        have e2 : b' = b := Option.some.inj (g1.symm.trans hb1)
        subst e2
        exact va_alen hx hb hK hP j t0 g2 g3 rfl hdg (kk α tys ws H locs ls lv _ (List.prefix_refl _) ⟨hh, hl, y_ds_i rfl h2, hls, hP, hK, hD, hS⟩)

set_option maxHeartbeats 4000000 in
set_option maxRecDepth 100000 in
theorem y_st_new {i : Nat} {nx r1 r2 r3 : Nat} (C : y_ctx κ sc p R s m args meth c cc own yn nL A) (hH : y_H κ hy) (hT : y_T κ tb) (hok : y_okop nL own yn cc (pc, (.new i, nx, r1, r2, r3)) = true) (hs : y_step sc κ.2.2.2 hy tb pc (.new i, nx, r1, r2, r3) lo st h k n = some S') (hk : S'.2.2.2.2.1 ≤ R.cells) (hn : S'.2.2.2.2.2 ≤ R.slots) (Z : y_Z κ D A s nL α tys ws H locs ls lv sv lo st h)
    (kk : ∀ α' tys' ws' H' locs' ls' lv' sv', α <+: α' → y_Z κ D A s nL α' tys' ws' H' locs' ls' lv' sv' S'.2.1 S'.2.2.1 S'.2.2.2.1 → W p l e R s m args below meth c H' locs' S'.2.2.2.2.1 S'.2.2.2.2.2 Q (F0 m S'.1 ls' sv')) : W p l e R s m args below meth c H locs k n Q (F0 m pc ls sv) := by
  obtain ⟨hx, hb, hml, hown, hts, hyn, hAO, hA, hRf, hRl, hsc⟩ := C
  obtain ⟨hh, hl, hst, hls, hP, hK, hD, hS⟩ := Z
  unfold y_okop y_okin at hok
  simp only [Bool.and_eq_true, decide_eq_true_eq] at hok
  obtain ⟨hdg, hok⟩ := hok
  unfold y_step at hs
  dsimp only at hs
  obtain ⟨rfl, hnw⟩ := hok
  rw [Nat.add_sub_cancel_left] at hdg
  cases hs
  unfold y_nw at hnw
  cases hr : vwCl[r1]? with
  | none => rw [hr] at hnw; cases hnw
  | some rr =>
    rw [hr] at hnw
    obtain ⟨C1, T1, N1⟩ := rr
    simp only [Bool.and_eq_true, decide_eq_true_eq, List.all_eq_true, List.mem_range] at hnw
    obtain ⟨e1, q1, q2, q3, q4⟩ := hnw
    subst e1
    obtain ⟨k1, k2, k3⟩ := y_cls_ok hr
    have hds : ∀ α' : List Nat, y_ds κ α' ((List.range N1).map (fun k => bif Nat.testBit r3 k then .inr (.inr none) else .inl (.inl 0))) ((List.range N1).map (fun k => bif Nat.testBit r3 k then Value.null else Value.int 0)) := by
      intro α'
      show List.map _ (List.map _ _) = List.map _ (List.map _ _)
      rw [List.map_map, List.map_map]
      refine List.map_congr_left (fun z _ => ?_)
      show y_d κ α' (bif Nat.testBit r3 z then .inr (.inr none) else .inl (.inl 0)) = some (bif Nat.testBit r3 z then Value.null else Value.int 0)
      cases Nat.testBit r3 z <;> rfl
    refine va_new (fs := (List.range N1).map (fun k => bif Nat.testBit r3 k then Value.null else Value.int 0)) hx hb hts k1 _ k2 hown (hts _ (yM_ok q1)) (hts _ (yM_ok q2)) (hts _ (yM_ok q3)) hK hP hD hS hA hr (fun z hz => ?_) hk hn hdg (fun q H1 hP1 hD1 hS1 => ?_)
    · have hd := q4 z hz
      have e2 : vp_V ((List.range N1).map (fun k => bif Nat.testBit r3 k then Value.null else Value.int 0)) z = (bif Nat.testBit r3 z then Value.null else Value.int 0) := by
        unfold vp_V
        rw [List.getD_eq_getElem?_getD, List.getElem?_map, List.getElem?_range hz]
        rfl
      rw [e2]
      rw [k2 z hz] at hd
      dsimp only at hd ⊢
      generalize (parseFieldDescriptor (T1 z).2.2.1).getD .int = ty at hd ⊢
      cases ty <;> cases hb3 : Nat.testBit r3 z <;> rw [hb3] at hd <;> first | rfl | cases hd
    · exact kk (α ++ [q]) tys _ H1 locs ls lv _ (List.prefix_append _ _) ⟨y_h_push q (List.prefix_refl _) hh ⟨_, hds _, rfl⟩, y_dl_mono (List.prefix_append _ _) hl, y_ds_mk (y_new_ref q hh.1) (y_ds_mono (List.prefix_append _ _) hst), hls, hP1, hK, hD1, hS1⟩

set_option maxHeartbeats 4000000 in
set_option maxRecDepth 100000 in
theorem y_st_newa_int {nx r1 r2 r3 : Nat} (C : y_ctx κ sc p R s m args meth c cc own yn nL A) (hH : y_H κ hy) (hT : y_T κ tb) (hok : y_okop nL own yn cc (pc, (.newarray .int, nx, r1, r2, r3)) = true) (hs : y_step sc κ.2.2.2 hy tb pc (.newarray .int, nx, r1, r2, r3) lo st h k n = some S') (hk : S'.2.2.2.2.1 ≤ R.cells) (hn : S'.2.2.2.2.2 ≤ R.slots) (Z : y_Z κ D A s nL α tys ws H locs ls lv sv lo st h)
    (kk : ∀ α' tys' ws' H' locs' ls' lv' sv', α <+: α' → y_Z κ D A s nL α' tys' ws' H' locs' ls' lv' sv' S'.2.1 S'.2.2.1 S'.2.2.2.1 → W p l e R s m args below meth c H' locs' S'.2.2.2.2.1 S'.2.2.2.2.2 Q (F0 m S'.1 ls' sv')) : W p l e R s m args below meth c H locs k n Q (F0 m pc ls sv) := by
  obtain ⟨hx, hb, hml, hown, hts, hyn, hAO, hA, hRf, hRl, hsc⟩ := C
  obtain ⟨hh, hl, hst, hls, hP, hK, hD, hS⟩ := Z
  unfold y_okop y_okin at hok
  simp only [Bool.and_eq_true, decide_eq_true_eq] at hok
  obtain ⟨hdg, hok⟩ := hok
  unfold y_step at hs
  dsimp only at hs
  obtain ⟨rfl, rfl, hac⟩ := hok
  rw [Nat.add_sub_cancel_left] at hdg
  rcases st with _ | ⟨(x0 | x0) | x0, r⟩ <;> try (cases hs; done)
  · try dsimp only at hs
    cases hc : Nat.ble x0 100000 with
    | false => rw [hc] at hs; cases hs
    | true =>
      rw [hc] at hs
      cases hs
      have h3 := y_ble.mp hc
      obtain ⟨ys, rfl, h1⟩ := y_ds_ci hst
      refine va_newa (atype := .int) (ty := .int) (N' := x0) (a0 := (x0, .inl (fun _ => 0))) hx hb (hts _ (yM_ok hac)) rfl hK hP hD hS hA (fun _ => rfl) (nI_pos (by omega)) (nI_clamp (by omega)) (by show x0 * 4 ≤ 536870912; omega) hk hn hdg (fun q cA H1 hK1 hP1 hD1 hS1 => ?_)
      refine kk (α ++ [q]) _ _ H1 locs ls lv _ (List.prefix_append _ _) ⟨y_h_push q (List.prefix_append _ _) hh ⟨cA, tys.length, fun _ => 0, ?_, fun i hi => nI_0.symm, rfl⟩, y_dl_mono (List.prefix_append _ _) hl, y_ds_mk (y_new_ref q hh.1) (y_ds_mono (List.prefix_append _ _) h1), hls, hP1, hK1, hD1, hS1⟩
      simp [y_ty]

set_option maxHeartbeats 4000000 in
set_option maxRecDepth 100000 in
theorem y_st_newa_boolean {nx r1 r2 r3 : Nat} (C : y_ctx κ sc p R s m args meth c cc own yn nL A) (hH : y_H κ hy) (hT : y_T κ tb) (hok : y_okop nL own yn cc (pc, (.newarray .boolean, nx, r1, r2, r3)) = true) (hs : y_step sc κ.2.2.2 hy tb pc (.newarray .boolean, nx, r1, r2, r3) lo st h k n = some S') (hk : S'.2.2.2.2.1 ≤ R.cells) (hn : S'.2.2.2.2.2 ≤ R.slots) (Z : y_Z κ D A s nL α tys ws H locs ls lv sv lo st h)
    (kk : ∀ α' tys' ws' H' locs' ls' lv' sv', α <+: α' → y_Z κ D A s nL α' tys' ws' H' locs' ls' lv' sv' S'.2.1 S'.2.2.1 S'.2.2.2.1 → W p l e R s m args below meth c H' locs' S'.2.2.2.2.1 S'.2.2.2.2.2 Q (F0 m S'.1 ls' sv')) : W p l e R s m args below meth c H locs k n Q (F0 m pc ls sv) := by
  obtain ⟨hx, hb, hml, hown, hts, hyn, hAO, hA, hRf, hRl, hsc⟩ := C
  obtain ⟨hh, hl, hst, hls, hP, hK, hD, hS⟩ := Z
  unfold y_okop y_okin at hok
  simp only [Bool.and_eq_true, decide_eq_true_eq] at hok
  obtain ⟨hdg, hok⟩ := hok
  unfold y_step at hs
  dsimp only at hs
  obtain ⟨rfl, rfl, hac⟩ := hok
  rw [Nat.add_sub_cancel_left] at hdg
  rcases st with _ | ⟨(x0 | x0) | x0, r⟩ <;> try (cases hs; done)
  · try dsimp only at hs
    cases hc : Nat.ble x0 100000 with
    | false => rw [hc] at hs; cases hs
    | true =>
      rw [hc] at hs
      cases hs
      have h3 := y_ble.mp hc
      obtain ⟨ys, rfl, h1⟩ := y_ds_ci hst
      refine va_newa (atype := .boolean) (ty := .boolean) (N' := x0) (a0 := (x0, .inl (fun _ => 0))) hx hb (hts _ (yM_ok hac)) rfl hK hP hD hS hA (fun _ => rfl) (nI_pos (by omega)) (nI_clamp (by omega)) (by show x0 * 1 ≤ 536870912; omega) hk hn hdg (fun q cA H1 hK1 hP1 hD1 hS1 => ?_)
      refine kk (α ++ [q]) _ _ H1 locs ls lv _ (List.prefix_append _ _) ⟨y_h_push q (List.prefix_append _ _) hh ⟨cA, tys.length, fun _ => 0, ?_, fun i hi => nI_0.symm, rfl⟩, y_dl_mono (List.prefix_append _ _) hl, y_ds_mk (y_new_ref q hh.1) (y_ds_mono (List.prefix_append _ _) h1), hls, hP1, hK1, hD1, hS1⟩
      simp [y_ty]

set_option maxHeartbeats 4000000 in
set_option maxRecDepth 100000 in
theorem y_st_newa_char {nx r1 r2 r3 : Nat} (C : y_ctx κ sc p R s m args meth c cc own yn nL A) (hH : y_H κ hy) (hT : y_T κ tb) (hok : y_okop nL own yn cc (pc, (.newarray .char, nx, r1, r2, r3)) = true) (hs : y_step sc κ.2.2.2 hy tb pc (.newarray .char, nx, r1, r2, r3) lo st h k n = some S') (hk : S'.2.2.2.2.1 ≤ R.cells) (hn : S'.2.2.2.2.2 ≤ R.slots) (Z : y_Z κ D A s nL α tys ws H locs ls lv sv lo st h)
    (kk : ∀ α' tys' ws' H' locs' ls' lv' sv', α <+: α' → y_Z κ D A s nL α' tys' ws' H' locs' ls' lv' sv' S'.2.1 S'.2.2.1 S'.2.2.2.1 → W p l e R s m args below meth c H' locs' S'.2.2.2.2.1 S'.2.2.2.2.2 Q (F0 m S'.1 ls' sv')) : W p l e R s m args below meth c H locs k n Q (F0 m pc ls sv) := by
  obtain ⟨hx, hb, hml, hown, hts, hyn, hAO, hA, hRf, hRl, hsc⟩ := C
  obtain ⟨hh, hl, hst, hls, hP, hK, hD, hS⟩ := Z
  unfold y_okop y_okin at hok
  simp only [Bool.and_eq_true, decide_eq_true_eq] at hok
  obtain ⟨hdg, hok⟩ := hok
  unfold y_step at hs
  dsimp only at hs
  obtain ⟨rfl, rfl, hac⟩ := hok
  rw [Nat.add_sub_cancel_left] at hdg
  rcases st with _ | ⟨(x0 | x0) | x0, r⟩ <;> try (cases hs; done)
  · try dsimp only at hs
    cases hc : Nat.ble x0 100000 with
    | false => rw [hc] at hs; cases hs
    | true =>
      rw [hc] at hs
      cases hs
      have h3 := y_ble.mp hc
      obtain ⟨ys, rfl, h1⟩ := y_ds_ci hst
      refine va_newa (atype := .char) (ty := .char) (N' := x0) (a0 := (x0, .inl (fun _ => 0))) hx hb (hts _ (yM_ok hac)) rfl hK hP hD hS hA (fun _ => rfl) (nI_pos (by omega)) (nI_clamp (by omega)) (by show x0 * 2 ≤ 536870912; omega) hk hn hdg (fun q cA H1 hK1 hP1 hD1 hS1 => ?_)
      refine kk (α ++ [q]) _ _ H1 locs ls lv _ (List.prefix_append _ _) ⟨y_h_push q (List.prefix_append _ _) hh ⟨cA, tys.length, fun _ => 0, ?_, fun i hi => nI_0.symm, rfl⟩, y_dl_mono (List.prefix_append _ _) hl, y_ds_mk (y_new_ref q hh.1) (y_ds_mono (List.prefix_append _ _) h1), hls, hP1, hK1, hD1, hS1⟩
      simp [y_ty]

set_option maxHeartbeats 4000000 in
set_option maxRecDepth 100000 in
theorem y_st_newa_long {nx r1 r2 r3 : Nat} (C : y_ctx κ sc p R s m args meth c cc own yn nL A) (hH : y_H κ hy) (hT : y_T κ tb) (hok : y_okop nL own yn cc (pc, (.newarray .long, nx, r1, r2, r3)) = true) (hs : y_step sc κ.2.2.2 hy tb pc (.newarray .long, nx, r1, r2, r3) lo st h k n = some S') (hk : S'.2.2.2.2.1 ≤ R.cells) (hn : S'.2.2.2.2.2 ≤ R.slots) (Z : y_Z κ D A s nL α tys ws H locs ls lv sv lo st h)
    (kk : ∀ α' tys' ws' H' locs' ls' lv' sv', α <+: α' → y_Z κ D A s nL α' tys' ws' H' locs' ls' lv' sv' S'.2.1 S'.2.2.1 S'.2.2.2.1 → W p l e R s m args below meth c H' locs' S'.2.2.2.2.1 S'.2.2.2.2.2 Q (F0 m S'.1 ls' sv')) : W p l e R s m args below meth c H locs k n Q (F0 m pc ls sv) := by
  obtain ⟨hx, hb, hml, hown, hts, hyn, hAO, hA, hRf, hRl, hsc⟩ := C
  obtain ⟨hh, hl, hst, hls, hP, hK, hD, hS⟩ := Z
  unfold y_okop y_okin at hok
  simp only [Bool.and_eq_true, decide_eq_true_eq] at hok
  obtain ⟨hdg, hok⟩ := hok
  unfold y_step at hs
  dsimp only at hs
  obtain ⟨rfl, rfl, hac⟩ := hok
  rw [Nat.add_sub_cancel_left] at hdg
  rcases st with _ | ⟨(x0 | x0) | x0, r⟩ <;> try (cases hs; done)
  · try dsimp only at hs
    cases hc : Nat.ble x0 100000 with
    | false => rw [hc] at hs; cases hs
    | true =>
      rw [hc] at hs
      cases hs
      have h3 := y_ble.mp hc
      obtain ⟨ys, rfl, h1⟩ := y_ds_ci hst
      refine va_newa (atype := .long) (ty := .long) (N' := x0) (a0 := (x0, .inr (.inl (fun _ => 0)))) hx hb (hts _ (yM_ok hac)) rfl hK hP hD hS hA (fun _ => rfl) (nI_pos (by omega)) (nI_clamp (by omega)) (by show x0 * 8 ≤ 536870912; omega) hk hn hdg (fun q cA H1 hK1 hP1 hD1 hS1 => ?_)
      refine kk (α ++ [q]) _ _ H1 locs ls lv _ (List.prefix_append _ _) ⟨y_h_push q (List.prefix_append _ _) hh ⟨cA, tys.length, fun _ => 0, ?_, fun i hi => rfl, rfl⟩, y_dl_mono (List.prefix_append _ _) hl, y_ds_mk (y_new_ref q hh.1) (y_ds_mono (List.prefix_append _ _) h1), hls, hP1, hK1, hD1, hS1⟩
      simp

set_option maxHeartbeats 4000000 in
set_option maxRecDepth 100000 in
theorem y_st_anewa {i : Nat} {nx r1 r2 r3 : Nat} (C : y_ctx κ sc p R s m args meth c cc own yn nL A) (hH : y_H κ hy) (hT : y_T κ tb) (hok : y_okop nL own yn cc (pc, (.anewarray i, nx, r1, r2, r3)) = true) (hs : y_step sc κ.2.2.2 hy tb pc (.anewarray i, nx, r1, r2, r3) lo st h k n = some S') (hk : S'.2.2.2.2.1 ≤ R.cells) (hn : S'.2.2.2.2.2 ≤ R.slots) (Z : y_Z κ D A s nL α tys ws H locs ls lv sv lo st h)
    (kk : ∀ α' tys' ws' H' locs' ls' lv' sv', α <+: α' → y_Z κ D A s nL α' tys' ws' H' locs' ls' lv' sv' S'.2.1 S'.2.2.1 S'.2.2.2.1 → W p l e R s m args below meth c H' locs' S'.2.2.2.2.1 S'.2.2.2.2.2 Q (F0 m S'.1 ls' sv')) : W p l e R s m args below meth c H locs k n Q (F0 m pc ls sv) := by
  obtain ⟨hx, hb, hml, hown, hts, hyn, hAO, hA, hRf, hRl, hsc⟩ := C
  obtain ⟨hh, hl, hst, hls, hP, hK, hD, hS⟩ := Z
  unfold y_okop y_okin at hok
  simp only [Bool.and_eq_true, decide_eq_true_eq] at hok
  obtain ⟨hdg, hok⟩ := hok
  unfold y_step at hs
  dsimp only at hs
  obtain ⟨rfl, han⟩ := hok
  rw [Nat.add_sub_cancel_left] at hdg
  rcases st with _ | ⟨(x0 | x0) | x0, r⟩ <;> try (cases hs; done)
  · try dsimp only at hs
    cases hc : Nat.ble x0 100000 with
    | false => rw [hc] at hs; cases hs
    | true =>
      rw [hc] at hs
      cases hs
      have h3 := y_ble.mp hc
      obtain ⟨ys, rfl, h1⟩ := y_ds_ci hst
      unfold y_an at han
      cases hr : vwCl[r1]? with
      | none => rw [hr] at han; cases han
      | some rr =>
        rw [hr] at han
        obtain ⟨C1, T1, N1⟩ := rr
        simp only [Bool.and_eq_true, decide_eq_true_eq] at han
        obtain ⟨e1, q1⟩ := han
        subst e1
        refine va_newq (N' := x0) hx hb hown (hts _ (yM_ok q1)) hAO.1 hK hP hD hS hA (nI_pos (by omega)) (nI_clamp (by omega)) (by omega) hk hn hdg (fun q cA H1 hK1 hP1 hD1 hS1 => ?_)
        refine kk (α ++ [q]) _ _ H1 locs ls lv _ (List.prefix_append _ _) ⟨y_h_push q (List.prefix_append _ _) hh ⟨cA, tys.length, _, fun _ => none, hr, ?_, fun i hi => rfl, rfl⟩, y_dl_mono (List.prefix_append _ _) hl, y_ds_mk (y_new_ref q hh.1) (y_ds_mono (List.prefix_append _ _) h1), hls, hP1, hK1, hD1, hS1⟩
        simp

set_option maxHeartbeats 4000000 in
set_option maxRecDepth 100000 in
theorem y_st_spec {i : Nat} {nx r1 r2 r3 : Nat} (C : y_ctx κ sc p R s m args meth c cc own yn nL A) (hH : y_H κ hy) (hT : y_T κ tb) (hok : y_okop nL own yn cc (pc, (.invokespecial i, nx, r1, r2, r3)) = true) (hs : y_step sc κ.2.2.2 hy tb pc (.invokespecial i, nx, r1, r2, r3) lo st h k n = some S') (hk : S'.2.2.2.2.1 ≤ R.cells) (hn : S'.2.2.2.2.2 ≤ R.slots) (Z : y_Z κ D A s nL α tys ws H locs ls lv sv lo st h)
    (kk : ∀ α' tys' ws' H' locs' ls' lv' sv', α <+: α' → y_Z κ D A s nL α' tys' ws' H' locs' ls' lv' sv' S'.2.1 S'.2.2.1 S'.2.2.2.1 → W p l e R s m args below meth c H' locs' S'.2.2.2.2.1 S'.2.2.2.2.2 Q (F0 m S'.1 ls' sv')) : W p l e R s m args below meth c H locs k n Q (F0 m pc ls sv) := by
  obtain ⟨hx, hb, hml, hown, hts, hyn, hAO, hA, hRf, hRl, hsc⟩ := C
  obtain ⟨hh, hl, hst, hls, hP, hK, hD, hS⟩ := Z
  unfold y_okop y_okin at hok
  simp only [Bool.and_eq_true, decide_eq_true_eq] at hok
  obtain ⟨hdg, hok⟩ := hok
  unfold y_step at hs
  dsimp only at hs
  obtain ⟨rfl, hoi⟩ := hok
  rw [Nat.add_sub_cancel_left] at hdg
  rcases st with _ | ⟨a | a | _ | _ | j, r⟩ <;> try (cases hs; done)
  · try dsimp only at hs
    cases hc : (Nat.beq r3 99 && Nat.ble (y_cats r) 8) with
    | false => rw [hc] at hs; cases hs
    | true =>
      rw [hc] at hs
      cases hs
      simp only [Bool.and_eq_true] at hc
      simp only [Bool.or_eq_true, Bool.not_eq_true', Bool.and_eq_true] at hoi
      obtain ⟨b, zs, rfl, hb1, h2⟩ := y_ds_cr hst
      rcases hoi with hoi | ⟨q1, q2, q3⟩
      · rw [hc.1] at hoi; cases hoi
      · have h8 : (zs.map fun v => v.category).sum ≤ 8 := by rw [y_cats_ok h2]; exact y_ble.mp hc.2
        have h9 := lv_room (m := m) (pc := pc) (ls := ls) (rest := .ref b :: zs) h8
        refine W.objInit hx hb hown (hts _ (yM_ok q1)) (hts _ (yM_ok q2)) (hts _ (yM_ok q3)) rfl (by rw [hml]; exact hls.1) rfl hdg hRf (by omega) ?_
        refine W.eq (g2 := F0 m (pc + 3) ls zs) rfl ?_
        exact kk α tys ws H locs ls lv _ (List.prefix_refl _) ⟨hh, hl, h2, hls, hP, hK, hD, hS⟩

set_option maxHeartbeats 4000000 in
set_option maxRecDepth 100000 in
theorem y_st_stat {i : Nat} {nx r1 r2 r3 : Nat} (C : y_ctx κ sc p R s m args meth c cc own yn nL A) (hH : y_H κ hy) (hT : y_T κ tb) (hok : y_okop nL own yn cc (pc, (.invokestatic i, nx, r1, r2, r3)) = true) (hs : y_step sc κ.2.2.2 hy tb pc (.invokestatic i, nx, r1, r2, r3) lo st h k n = some S') (hk : S'.2.2.2.2.1 ≤ R.cells) (hn : S'.2.2.2.2.2 ≤ R.slots) (Z : y_Z κ D A s nL α tys ws H locs ls lv sv lo st h)
    (kk : ∀ α' tys' ws' H' locs' ls' lv' sv', α <+: α' → y_Z κ D A s nL α' tys' ws' H' locs' ls' lv' sv' S'.2.1 S'.2.2.1 S'.2.2.2.1 → W p l e R s m args below meth c H' locs' S'.2.2.2.2.1 S'.2.2.2.2.2 Q (F0 m S'.1 ls' sv')) : W p l e R s m args below meth c H locs k n Q (F0 m pc ls sv) := by
  obtain ⟨hx, hb, hml, hown, hts, hyn, hAO, hA, hRf, hRl, hsc⟩ := C
  obtain ⟨hh, hl, hst, hls, hP, hK, hD, hS⟩ := Z
  unfold y_okop y_okin at hok
  simp only [Bool.and_eq_true, decide_eq_true_eq] at hok
  obtain ⟨hdg, hok⟩ := hok
  unfold y_step at hs
  dsimp only at hs
  obtain ⟨rfl, hoi, hmx, hmn⟩ := hok
  rw [Nat.add_sub_cancel_left] at hdg
  cases h98 : Nat.beq r3 98 with
  | true =>
    rw [h98] at hs
    simp only [cond_true] at hs
    rcases st with _ | ⟨(k0 | k0) | k0, _ | ⟨(dp | dp) | dp, _ | ⟨a | a | _ | _ | j, _ | ⟨(sp | sp) | sp, _ | ⟨a2 | a2 | _ | _ | j0, r⟩⟩⟩⟩⟩ <;> try (cases hs; done)
    · try dsimp only at hs
      cases hg0 : h[j0]? with
      | none => rw [hg0] at hs; cases hs
      | some c0 =>
      rw [hg0] at hs
      rcases c0 with ⟨ci, fs⟩ | ⟨_ | kd, n0, m0⟩ | c0 <;> try (cases hs; done)
      · try dsimp only at hs
        cases hg : h[j]? with
        | none => rw [hg] at hs; cases hs
        | some c1 =>
        rw [hg] at hs
        rcases c1 with ⟨ci, fs⟩ | ⟨_ | kd, n1, m1⟩ | c1 <;> try (cases hs; done)
        · replace hs : (bif true && (Nat.ble (y_cats r) 8 && (Nat.ble (sp + k0) n0 && (Nat.ble (dp + k0) n1 && (Nat.blt sp 2147483648 && (Nat.blt dp 2147483648 && Nat.blt k0 2147483648))))) then some (pc + 3, lo, r, h.set j (.inr (.inl (0, n1, (List.range k0).map (fun x => (dp + x, y_get m0 (sp + x))) ++ m1))), k, n) else none) = some S' := hs
          cases hc : (true && (Nat.ble (y_cats r) 8 && (Nat.ble (sp + k0) n0 && (Nat.ble (dp + k0) n1 && (Nat.blt sp 2147483648 && (Nat.blt dp 2147483648 && Nat.blt k0 2147483648)))))) with
          | false => rw [hc] at hs; cases hs
          | true =>
            rw [hc] at hs
            cases hs
            simp only [Bool.and_eq_true] at hc
            obtain ⟨c1, c2, c3, c4, c5, c6, c7⟩ := hc
            have c3 := y_ble.mp c3
            have c4 := y_ble.mp c4
            have c5 := y_blt.mp c5
            have c6 := y_blt.mp c6
            have c7 := y_blt.mp c7
            simp only [Bool.or_eq_true, Bool.not_eq_true', Bool.and_eq_true] at hoi
            obtain ⟨z1, rfl, h1⟩ := y_ds_ci hst
            obtain ⟨z2, rfl, h2⟩ := y_ds_ci h1
            obtain ⟨b, z3, rfl, hb1, h3⟩ := y_ds_cr h2
            obtain ⟨z4, rfl, h4⟩ := y_ds_ci h3
            obtain ⟨b0, z5, rfl, hb0, h5⟩ := y_ds_cr h4
            rcases hoi with hoi | ⟨q1, q2, q3, q4⟩
            · rw [h98] at hoi; cases hoi
            · obtain ⟨b', e', g1, g2, cA, t0, f, g3, g4, rfl⟩ := hh.2.2 j _ hg
              have e2 : b' = b := Option.some.inj (g1.symm.trans hb1)
              subst e2
              obtain ⟨b2, e3, f1, f2, cA0, t1, f0, f3, f4, rfl⟩ := hh.2.2 j0 _ hg0
              have e4 : b2 = b0 := Option.some.inj (f1.symm.trans hb0)
              subst e4
              have h8 : (z5.map fun v => v.category).sum ≤ 8 := by rw [y_cats_ok h5]; exact y_ble.mp c2
              have h9 : nativeFrameWords "java/lang/System" "arraycopy" 5 = 7 := by decide +kernel
              refine va_copyi hx hb (by rw [hml]; exact hls.1.symm) hown (hts _ (yM_ok q1)) (hts _ (yM_ok q2)) (hts _ (yM_ok q3)) (hts _ (yM_ok q4)) hK hP hD hS j0 j t1 t0 f2 g2 f3 g3 rfl (nI_pos c5) (nI_pos c6) (nI_pos c7) ?_ ?_ (fun _ _ => rfl) hRf (by rw [h9]; omega) hdg (fun H1 locs1 hP1 hD1 hS1 => ?_)
              · rw [y_cl c5, y_cl c7]; exact c3
              · rw [y_cl c6, y_cl c7]; exact c4
              · rw [y_cl c5, y_cl c6, y_cl c7] at hP1 hD1
                exact kk α tys _ H1 locs1 ls lv _ (List.prefix_refl _) ⟨y_h_set hh hg g1 ⟨cA, t0, _, g3, y_get_cpy f4 g4 c3, rfl⟩, hl, h5, hls, hP1, hK, hD1, hS1⟩
  | false =>
    rw [h98] at hs
    simp only [cond_false] at hs
    obtain ⟨st', hm, rfl⟩ := Option.map_eq_some_iff.mp hs
    rcases st with _ | ⟨(y | y) | y, _ | ⟨(x | x) | x, r⟩⟩ <;> try (cases hm; done)
    · replace hm : (bif Nat.ble (y_cats r) 8 then (bif Nat.beq r3 96 then some (.inl (.inl (bif y_cmp 2 x y then y else x)) :: r) else bif Nat.beq r3 97 then some (.inl (.inl (bif y_cmp 2 y x then y else x)) :: r) else none) else none) = some st' := hm
      cases hc : Nat.ble (y_cats r) 8 with
      | false => rw [hc] at hm; cases hm
      | true =>
      rw [hc] at hm
      obtain ⟨z1, rfl, h1⟩ := y_ds_ci hst
      obtain ⟨z2, rfl, h2⟩ := y_ds_ci h1
      have h8 : (z2.map fun v => v.category).sum ≤ 8 := by rw [y_cats_ok h2]; exact y_ble.mp hc
      simp only [Bool.or_eq_true, Bool.not_eq_true', Bool.and_eq_true] at hmx hmn
      cases h96 : Nat.beq r3 96 with
      | true =>
        rw [h96] at hm
        cases hm
        rcases hmx with hmx | ⟨q1, q2, q3, q4⟩
        · rw [h96] at hmx; cases hmx
        · refine va_mmax hx hb (by rw [hml]; exact hls.1.symm) hown (hts _ (yM_ok q1)) (hts _ (yM_ok q2)) (hts _ (yM_ok q3)) (hts _ (yM_ok q4)) hRf (by omega) hk hn hdg (kk α tys ws H locs ls lv _ (List.prefix_refl _) ⟨hh, hl, y_ds_i ?_ h2, hls, hP, hK, hD, hS⟩)
          have h9 : nI x < nI y ↔ y_cmp 2 x y = true := y_cmp_ok 2 x y
          show nI (bif y_cmp 2 x y then y else x) = if nI x < nI y then nI y else nI x
          cases hq : y_cmp 2 x y with
          | true => rw [if_pos (h9.mpr hq)]; rfl
          | false => rw [if_neg (fun z => by rw [h9.mp z] at hq; cases hq)]; rfl
      | false =>
        rw [h96] at hm
        simp only [cond_false] at hm
        cases h97 : Nat.beq r3 97 with
        | false => rw [h97] at hm; cases hm
        | true =>
          rw [h97] at hm
          cases hm
          rcases hmn with hmn | ⟨q1, q2, q3, q4⟩
          · rw [h97] at hmn; cases hmn
          · refine va_mmin hx hb (by rw [hml]; exact hls.1.symm) hown (hts _ (yM_ok q1)) (hts _ (yM_ok q2)) (hts _ (yM_ok q3)) (hts _ (yM_ok q4)) hRf (by omega) hk hn hdg (kk α tys ws H locs ls lv _ (List.prefix_refl _) ⟨hh, hl, y_ds_i ?_ h2, hls, hP, hK, hD, hS⟩)
            have h9 : nI y < nI x ↔ y_cmp 2 y x = true := y_cmp_ok 2 y x
            show nI (bif y_cmp 2 y x then y else x) = if nI y < nI x then nI y else nI x
            cases hq : y_cmp 2 y x with
            | true => rw [if_pos (h9.mpr hq)]; rfl
            | false => rw [if_neg (fun z => by rw [h9.mp z] at hq; cases hq)]; rfl

end YHEAP
