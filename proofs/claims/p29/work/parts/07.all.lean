theorem y_split_s {na ci : Nat} {h : List yC} {st av rest : List yV} (hs : y_split 2 na ci h st = some (av, rest)) : na ≤ st.length ∧ av = (st.take na).reverse ∧ rest = st.drop na := by
  unfold y_split at hs
  replace hs : (bif Nat.ble na st.length then some ((st.take na).reverse, st.drop na) else none) = some (av, rest) := hs
  cases hc : Nat.ble na st.length with
  | false => rw [hc] at hs; cases hs
  | true =>
    rw [hc] at hs
    cases hs
    exact ⟨y_ble.mp hc, rfl, rfl⟩
theorem y_split_v {kd na ci : Nat} {h : List yC} {st av rest : List yV} (hk : Nat.beq kd 2 = false) (hs : y_split kd na ci h st = some (av, rest)) :
    ∃ (i : Nat) (fs : List yV), st.drop na = .inr (.inr (some (i + 1))) :: rest ∧ h[i]? = some (.inl (ci, fs)) ∧ av = .inr (.inr (some (i + 1))) :: (st.take na).reverse := by
  unfold y_split at hs
  rw [hk] at hs
  replace hs : (match st.drop na with
    | .inr (.inr (some (i + 1))) :: r => match h[i]? with
      | some (.inl (cj, _)) => bif Nat.beq cj ci then some (.inr (.inr (some (i + 1))) :: (st.take na).reverse, r) else none
      | _ => none
    | _ => none) = some (av, rest) := hs
  split at hs
  · next i r hd =>
    split at hs
    · next cj fs hg =>
      cases hc : Nat.beq cj ci with
      | false => rw [hc] at hs; cases hs
      | true =>
        rw [hc] at hs
        cases hs
        have e := y_beq.mp hc
        subst e
        exact ⟨i, fs, hd, hg, rfl⟩
    · cases hs
  · cases hs
section YALL
variable {p : Program} {l : Launch} {en : Env} {R : Room} {s : State} {m : MethodId} {args : Array Value} {below : List Frame} {meth : Method} {c : Code} {H : Heap} {locs : List Loc} {Q : State → Prop} {ls : Array Slot}
variable {κ : yK} {D : va_G} {A : Nat → Prop} {α : List Nat} {tys : List (ClassId × FieldType)} {ws : va_W}
theorem y_callW {cells slots mc ms pc : Nat} {st0 rest : List Value} {a : Array Value} {rv : Option yV} {h : List yC}
    (hr : va_Run p l en R s m args below meth c H locs cells slots mc ms (F0 m pc ls st0) rest (y_Q κ D α (va_A ws H.size) rv h a) (va_A ws H.size)) (hS : va_S A s.heap H locs) (hA : ∀ q, va_A ws H.size q → A q)
    (kk : ∀ (v : Option Value) (α' : List Nat) (tys' : List (ClassId × FieldType)) (ws' : va_W) (H1 : Heap) (locs1 : List Loc), y_dr κ α' rv v → α <+: α' → y_h κ α' tys' h ws' → va_P D vwCl ws' H1 → va_K D vwCl tys' s → va_D A ws' → va_S A s.heap H1 locs1 →
      W p l en R s m args below meth c H1 locs1 (cells + mc) (slots + ms) Q (F0 m (pc + 3) ls (v.toList ++ rest))) : W p l en R s m args below meth c H locs cells slots Q (F0 m pc ls st0) := by
  intro T hT X
  obtain ⟨v, st₀, t, T', L, h0, X', hL, e1, e2, ⟨⟨v', α', tys', ws', hv, hdr, hα, hh, hP, hK, hD⟩, hz, hk⟩, st⟩ := hr T hT X
  cases hv
  rw [h0] at hz hk
  have hvm : s.vm.Alike t.vm := by rw [← e2]; exact X'.warmed.alike
  obtain ⟨t2, a1, b1⟩ := kk v α' tys' ws' T'.heap (locs ++ L) hdr hα hh (by rw [e1]; exact hP) (va_K.moved hvm.symm hK) (hD.weaken fun k q _ hq => hA q.1 (by rw [h0] at *; exact hq))
    ⟨Nat.le_trans hS.1 (by rw [e1]; exact hz), fun q h1 h2 => by rw [e1, hk q (Nat.lt_of_lt_of_le h1 hS.1) (fun z => h2 (hA q z))]; exact hS.2.1 q h1 h2, fun q hq => by
      rcases List.mem_append.mp hq with h | h
      · exact hS.2.2 q h
      · exact hA _ (hL q h)⟩ T' rfl X'
  exact ⟨t2, st t2 a1, b1⟩
end YALL
theorem y_blind (D : va_G) (tys : List (ClassId × FieldType)) (ws : va_W) (sz : Nat) (vals : List Value) : FrameBlind (va_Pc vals (y_Pc D tys ws sz)) := fun a U g mk q => by
  obtain ⟨q0, q1, qP, qK, qD, qA⟩ := q
  exact ⟨q0, q1, qP, va_K.moved (u := U) (U := U.calling g mk a) (Vm.Alike.refl U.vm) qK, qD, y_aux_call qA⟩
theorem y_good4 {e' : yE} {a b c d : Cond} (hc : yM (.code e'.1 e'.2.1 e'.2.2.1 e'.2.2.2.1) = true) (h1 : yM a = true) (h2 : yM b = true) (h3 : yM c = true) (h4 : yM d = true) : GoodIn yCT ([a, b, c, d] ++ y_ws e') := by
  intro w hw
  rcases List.mem_append.mp hw with h | h
  · simp only [List.mem_cons, List.not_mem_nil, or_false] at h
    rcases h with rfl | rfl | rfl | rfl
    · exact yCT_self _ (yM_ok h1)
    · exact yCT_self _ (yM_ok h2)
    · exact yCT_self _ (yM_ok h3)
    · exact yCT_self _ (yM_ok h4)
  · rcases List.mem_cons.mp h with rfl | h
    · exact yCT_self _ (yM_ok hc)
    · exact yCT_self _ h
theorem y_good3 {e' : yE} {a b c : Cond} (hc : yM (.code e'.1 e'.2.1 e'.2.2.1 e'.2.2.2.1) = true) (h1 : yM a = true) (h2 : yM b = true) (h3 : yM c = true) : GoodIn yCT ([a, b, c] ++ y_ws e') := by
  intro w hw
  rcases List.mem_append.mp hw with h | h
  · simp only [List.mem_cons, List.not_mem_nil, or_false] at h
    rcases h with rfl | rfl | rfl
    · exact yCT_self _ (yM_ok h1)
    · exact yCT_self _ (yM_ok h2)
    · exact yCT_self _ (yM_ok h3)
  · rcases List.mem_cons.mp h with rfl | h
    · exact yCT_self _ (yM_ok hc)
    · exact yCT_self _ h
theorem y_good0 {e' : yE} (hc : yM (.code e'.1 e'.2.1 e'.2.2.1 e'.2.2.2.1) = true) : GoodIn yCT (y_ws e') := by
  intro w h
  rcases List.mem_cons.mp h with rfl | h
  · exact yCT_self _ (yM_ok hc)
  · exact yCT_self _ h
set_option maxHeartbeats 8000000 in
set_option maxRecDepth 100000 in
theorem y_all {l : Launch} {mt : List yE} {κ : yK} {D : va_G} {hy : yF} {tb : yT} (hH : y_H κ hy) (hT : y_T κ tb) (hmt : ∀ e ∈ mt, y_ok mt e = true) : ∀ f : Nat, y_OK l mt κ D hy tb f := by
  intro f
  induction f with
  | zero =>
    intro sc d e S S' he hgo
    cases hgo
  | succ f ih =>
    intro sc d e S S' he hgo
    have he0 := he
    unfold y_okb at he
    have e5 := he
    unfold y_go at hgo
    cases hf : y_find e.2.2.2.2 S.1 with
    | none =>
      rw [hf] at hgo
      cases hgo
      exact ⟨⟨Nat.le_refl _, Nat.le_refl _⟩, fun C h1 h2 h3 h4 Z kk => kk _ _ _ _ _ _ _ _ (List.prefix_refl _) Z⟩
    | some o =>
      rw [hf] at hgo
      dsimp only at hgo
      have hmem := List.all_eq_true.mp e5 _ (y_find_mem hf)
      simp only [Bool.and_eq_true] at hmem
      obtain ⟨hop, hoc⟩ := hmem
      cases hret : y_isRet o with
      | true =>
        rw [hret] at hgo
        cases hgo
        exact ⟨⟨Nat.le_refl _, Nat.le_refl _⟩, fun C h1 h2 h3 h4 Z kk => kk _ _ _ _ _ _ _ _ (List.prefix_refl _) Z⟩
      | false =>
        rw [hret] at hgo
        replace hgo : (bif Nat.beq (y_kind o) 0 then (y_step sc κ.2.2.2 hy tb S.1 o S.2.1 S.2.2.1 S.2.2.2.1 S.2.2.2.2.1 S.2.2.2.2.2).bind (fun S' => y_go mt κ.2.2.2 hy tb f sc d e S') else
          bif Nat.beq d 0 then none else
          (mt[o.2.2.1]?).bind fun e' => (y_split (y_kind o) o.2.2.2.1 o.2.2.2.2 S.2.2.2.1 S.2.2.1).bind fun ar =>
            bif Nat.ble (y_cats ar.2) 8 && Nat.ble (y_cats ar.1) e'.2.2.1 then
              (y_go mt κ.2.2.2 hy tb f false (d - 1) e' (0, y_args 0 ar.1, [], S.2.2.2.1, 0, 0)).bind fun S1 => (y_end e' S1).bind fun rv =>
                y_go mt κ.2.2.2 hy tb f sc d e (o.2.1, S.2.1, y_psh rv ar.2, S1.2.2.2.1, S.2.2.2.2.1 + S1.2.2.2.2.1, S.2.2.2.2.2 + S1.2.2.2.2.2)
            else none) = some S' := hgo
        cases hkd0 : Nat.beq (y_kind o) 0 with
        | true =>
          rw [hkd0] at hgo
          obtain ⟨S1, hst, hgo⟩ := Option.bind_eq_some_iff.mp hgo
          obtain ⟨⟨m1, m2⟩, r1⟩ := ih sc d e S1 S' he0 hgo
          obtain ⟨g1, g2⟩ := y_step_mono hst
          refine ⟨⟨Nat.le_trans g1 m1, Nat.le_trans g2 m2⟩, fun C h1 h2 h3 h4 Z kk => ?_⟩
          exact y_step_ok C hH hT hop hst (Nat.le_trans m1 h3) (Nat.le_trans m2 h4) Z (fun α' tys' ws' H' locs' ls' lv' sv' hα Z' => r1 C h1 h2 h3 h4 Z' (fun α2 tys2 ws2 H2 locs2 ls2 lv2 sv2 hα2 Z2 => kk α2 tys2 ws2 H2 locs2 ls2 lv2 sv2 (List.IsPrefix.trans hα hα2) Z2))
        | false =>
          rw [hkd0] at hgo
          obtain ⟨kd, hkd⟩ : ∃ kd, y_kind o = kd + 1 := by
            cases hk : y_kind o with
            | zero => rw [hk] at hkd0; cases hkd0
            | succ kd => exact ⟨kd, rfl⟩
          cases hd0 : Nat.beq d 0 with
          | true => rw [hd0] at hgo; cases hgo
          | false =>
          rw [hd0] at hgo
          obtain ⟨d', rfl⟩ : ∃ d', d = d' + 1 := by
            cases d with
            | zero => cases hd0
            | succ d' => exact ⟨d', rfl⟩
          obtain ⟨e', hm, hgo⟩ := Option.bind_eq_some_iff.mp hgo
          obtain ⟨⟨av, rest⟩, hsp, hgo⟩ := Option.bind_eq_some_iff.mp hgo
          rw [hkd] at hsp
          cases hcc : (Nat.ble (y_cats rest) 8 && Nat.ble (y_cats av) e'.2.2.1) with
          | false => dsimp only at hgo; rw [hcc] at hgo; cases hgo
          | true =>
          dsimp only at hgo
          rw [hcc] at hgo
          simp only [Bool.and_eq_true] at hcc
          have hc8 := y_ble.mp hcc.1
          have hcav := y_ble.mp hcc.2
          obtain ⟨S1, hg1, hgo⟩ := Option.bind_eq_some_iff.mp hgo
          obtain ⟨rv, hend, hgo⟩ := Option.bind_eq_some_iff.mp hgo
          rw [Nat.add_sub_cancel] at hg1
          obtain ⟨⟨m1, m2⟩, r1⟩ := ih sc (d' + 1) e _ S' he0 hgo
          dsimp only at m1 m2 r1
          refine ⟨⟨by omega, by omega⟩, fun {p en R s m args below meth c H locs Q ls A α tys ws lv sv} C h1 h2 h3 h4 Z kk => ?_⟩
          have C0 := C
          obtain ⟨hx, hb, hml, hown, hts, hyn, hAO, hA, hRf, hRl, hsc⟩ := C
          obtain ⟨hh, hl, hst, hls, hP, hK, hD, hS⟩ := Z
          have he' := hmt e' (List.mem_of_getElem? hm)
          have he'' := he'
          unfold y_ok at he''
          simp only [Bool.and_eq_true, decide_eq_true_eq] at he''
          obtain ⟨f1, f2, f3, f4, f5⟩ := he''
          have f4 := y_ble.mp f4
          have hAA : ∀ q, va_A ws H.size q → A q := by
            intro q hq
            rcases hq with ⟨k, e0, hk⟩ | hq
            · exact hD.2 k (q, e0) hk
            · exact hA q (Nat.le_trans hS.1 hq)
          have hR : (y_rm d' S1.2.2.2.2.1 S1.2.2.2.2.2).frames + 1 ≤ R.frames ∧ 8 + (e'.2.2.1 + 11) + (y_rm d' S1.2.2.2.2.1 S1.2.2.2.2.2).locals ≤ R.locals := by
            refine ⟨h1, ?_⟩
            show 8 + (e'.2.2.1 + 11) + 60 * (d' + 1) ≤ R.locals
            omega
          have hpre : ∀ vals : List Value, ∀ U : State, U.heap = H → s.WarmedH U.vm → va_Pc vals (y_Pc D tys ws H.size) vals.toArray U := fun vals U hU hW => ⟨rfl, by rw [hU], by rw [hU]; exact hP, va_K.moved hW.alike hK, hD.weaken (fun _ _ _ _ => trivial), y_aux_warm hW hAO⟩
          have go : ∀ (v : Option Value) (ys : List Value), y_ds κ α rest ys → ∀ (α' : List Nat) (tys' : List (ClassId × FieldType)) (ws' : va_W) (H1 : Heap) (locs1 : List Loc), y_dr κ α' rv v → α <+: α' → y_h κ α' tys' S1.2.2.2.1 ws' → va_P D vwCl ws' H1 → va_K D vwCl tys' s → va_D A ws' → va_S A s.heap H1 locs1 →
              W p l en R s m args below meth c H1 locs1 (S.2.2.2.2.1 + S1.2.2.2.2.1) (S.2.2.2.2.2 + S1.2.2.2.2.2) Q (F0 m o.2.1 ls (v.toList ++ ys)) := by
            intro v ys hys α' tys' ws' H1 locs1 hdr hα hh1 hP1 hK1 hD1 hS1
            refine r1 C0 h1 h2 h3 h4 ⟨hh1, y_dl_mono hα hl, ?_, hls, hP1, hK1, hD1, hS1⟩ (fun α2 tys2 ws2 H2 locs2 ls2 lv2 sv2 hα2 Z2 => kk α2 tys2 ws2 H2 locs2 ls2 lv2 sv2 (List.IsPrefix.trans hα hα2) Z2)
            cases rv with
            | none =>
              have e9 : v = none := hdr
              subst e9
              exact y_ds_mono hα hys
            | some u =>
              obtain ⟨x, rfl, hx2⟩ := hdr
              exact y_ds_mk hx2 (y_ds_mono hα hys)
          obtain ⟨ins, nx, q1, q2, q3⟩ := o
          dsimp only at hm hsp go hgo r1
          unfold y_okop y_okin at hop
          simp only [Bool.and_eq_true, decide_eq_true_eq] at hop
          obtain ⟨hdg, hin2⟩ := hop
          try dsimp only at hdg hin2
          cases ins with
          | invokevirtual i =>
            have hkd1 : kd = 0 := (Nat.succ.inj hkd).symm
            subst hkd1
            have hin3 := of_decide_eq_true hin2
            subst hin3
            rw [Nat.add_sub_cancel_left] at hdg
            obtain ⟨j, fs, hd1, hd2, rfl⟩ := y_split_v rfl hsp
            have hdrop := y_ds_drop q2 hst
            rw [hd1] at hdrop
            obtain ⟨b, ys, hd3, hb1, hys⟩ := y_ds_cr hdrop
            obtain ⟨b', e9, g1, g2, vs, g3, rfl⟩ := hh.2.2 j _ hd2
            have e10 : b' = b := Option.some.inj (g1.symm.trans hb1)
            subst e10
            unfold y_okc at hoc
            dsimp only at hoc
            rw [hm] at hoc
            simp only [Bool.and_eq_true, decide_eq_true_eq] at hoc
            obtain ⟨w1, w2, w3, w4, w5, w6⟩ := hoc
            cases hr : vwCl[q3]? with
            | none => rw [hr] at w6; cases w6
            | some rr =>
            rw [hr] at w6
            have w6 := of_decide_eq_true w6
            have hvals : y_ds κ α (.inr (.inr (some (j + 1))) :: (S.2.2.1.take q2).reverse) (.ref b' :: (sv.take q2).reverse) := y_ds_mk (Option.map_eq_some_iff.mpr ⟨b', hb1, rfl⟩) (y_ds_rev (y_ds_take q2 hst))
            have hM := y_met ih he' hg1 hend hcav H.size hh hvals
            have hlen : (sv.take q2).length = q2 := by
              rw [List.length_take]
              have h9 : (sv.drop q2).length = (Value.ref b' :: ys).length := by rw [hd3]
              rw [List.length_drop, List.length_cons] at h9
              omega
            have hstk : sv = (sv.take q2).reverse.reverse ++ .ref b' :: ys := by
              rw [List.reverse_reverse, ← hd3, List.take_append_drop]
            have hrecv := va_recv hK hP hr g2
            rw [w6] at hrecv
            refine y_callW (va_runV (As := (sv.take q2).reverse) (rest := ys) ⟨hx, hb, hml, hown, hts⟩ hM (cwV q2 hts (y_good4 f1 w1 w2 w3 w4) rfl rfl rfl ⟨rfl, f3.1, f3.2, w5⟩ hR) ⟨y_blind D tys ws H.size _, hrecv, hpre _⟩ rfl (by rw [List.length_reverse]; exact hlen) hls.1 hstk (lv_room (by rw [y_cats_ok hys]; exact hc8)) hdg ⟨by omega, by omega⟩) hS hAA (fun v α' tys' ws' H1 locs1 a1 a2 a3 a4 a5 a6 a7 => go v ys hys α' tys' ws' H1 locs1 a1 a2 a3 a4 a5 a6 a7)
          | invokestatic i =>
            have h98 : y_nat q3 = false := by
              cases h98 : y_nat q3 with
              | false => rfl
              | true =>
                have hk2 : (bif y_nat q3 then 0 else 2) = kd + 1 := hkd
                rw [h98] at hk2
                cases hk2
            have hkd1 : kd = 1 := by
              have hk2 : (bif y_nat q3 then 0 else 2) = kd + 1 := hkd
              rw [h98] at hk2
              exact (Nat.succ.inj hk2).symm
            subst hkd1
            simp only [Bool.and_eq_true] at hin2
            have hin3 := of_decide_eq_true hin2.1
            subst hin3
            rw [Nat.add_sub_cancel_left] at hdg
            obtain ⟨hlen0, rfl, rfl⟩ := y_split_s hsp
            unfold y_okc at hoc
            dsimp only at hoc
            rw [h98, hm] at hoc
            simp only [cond_false, Bool.and_eq_true, decide_eq_true_eq] at hoc
            obtain ⟨w1, w2, w3, w5⟩ := hoc
            have hvals := y_ds_rev (y_ds_take q2 hst)
            have hM := y_met ih he' hg1 hend hcav H.size hh hvals
            have hlen : (sv.take q2).length = q2 := by
              rw [List.length_take, ← y_ds_len hst]
              omega
            have hstk : sv = (sv.take q2).reverse.reverse ++ sv.drop q2 := by
              rw [List.reverse_reverse, List.take_append_drop]
            have hys := y_ds_drop q2 hst
            refine y_callW (va_runS (As := (sv.take q2).reverse) (rest := sv.drop q2) ⟨hx, hb, hml, hown, hts⟩ hM (va_cwS q2 hts (y_good3 f1 w1 w2 w3) rfl rfl rfl ⟨f3.1, f3.2, w5⟩ hR) ⟨y_blind D tys ws H.size _, hpre _⟩ rfl (by rw [List.length_reverse]; exact hlen) hls.1 hstk (lv_room (by rw [y_cats_ok hys]; exact hc8)) hdg ⟨by omega, by omega⟩) hS hAA (fun v α' tys' ws' H1 locs1 a1 a2 a3 a4 a5 a6 a7 => go v _ hys α' tys' ws' H1 locs1 a1 a2 a3 a4 a5 a6 a7)
          | invokespecial i =>
            have h99 : Nat.beq q3 99 = false := by
              cases h99 : Nat.beq q3 99 with
              | false => rfl
              | true =>
                have hk2 : (bif Nat.beq q3 99 then 0 else 3) = kd + 1 := hkd
                rw [h99] at hk2
                cases hk2
            have hkd1 : kd = 2 := by
              have hk2 : (bif Nat.beq q3 99 then 0 else 3) = kd + 1 := hkd
              rw [h99] at hk2
              exact (Nat.succ.inj hk2).symm
            subst hkd1
            simp only [Bool.and_eq_true] at hin2
            have hin3 := of_decide_eq_true hin2.1
            subst hin3
            rw [Nat.add_sub_cancel_left] at hdg
            obtain ⟨j, fs, hd1, hd2, rfl⟩ := y_split_v rfl hsp
            have hdrop := y_ds_drop q2 hst
            rw [hd1] at hdrop
            obtain ⟨b, ys, hd3, hb1, hys⟩ := y_ds_cr hdrop
            unfold y_okc at hoc
            dsimp only at hoc
            rw [h99, hm] at hoc
            simp only [cond_false, Bool.and_eq_true, Bool.or_eq_true, decide_eq_true_eq] at hoc
            obtain ⟨w1, w2, w3, w4, w5, w6⟩ := hoc
            have hvals : y_ds κ α (.inr (.inr (some (j + 1))) :: (S.2.2.1.take q2).reverse) (.ref b :: (sv.take q2).reverse) := y_ds_mk (Option.map_eq_some_iff.mpr ⟨b, hb1, rfl⟩) (y_ds_rev (y_ds_take q2 hst))
            have hM := y_met ih he' hg1 hend hcav H.size hh hvals
            have hlen : (sv.take q2).length = q2 := by
              rw [List.length_take]
              have h9 : (sv.drop q2).length = (Value.ref b :: ys).length := by rw [hd3]
              rw [List.length_drop, List.length_cons] at h9
              omega
            have hstk : sv = (sv.take q2).reverse.reverse ++ .ref b :: ys := by
              rw [List.reverse_reverse, ← hd3, List.take_append_drop]
            have hcw := y_good0 f1
            unfold y_ws at hcw hM
            rw [w4] at hcw hM
            rcases w1 with w1 | w1
            · refine y_callW (va_runI (As := (sv.take q2).reverse) (rest := ys) ⟨hx, hb, hml, hown, hts⟩ hM (cwI q2 hts hcw rfl rfl rfl (hts _ (yM_ok w5)) (hts _ (yM_ok w1)) (hts _ (yM_ok w2)) w3 ⟨f3.1, f3.2, w6⟩ hR) ⟨y_blind D tys ws H.size _, hpre _⟩ rfl (by rw [List.length_reverse]; exact hlen) hls.1 hstk (lv_room (by rw [y_cats_ok hys]; exact hc8)) hdg ⟨by omega, by omega⟩) hS hAA (fun v α' tys' ws' H1 locs1 a1 a2 a3 a4 a5 a6 a7 => go v ys hys α' tys' ws' H1 locs1 a1 a2 a3 a4 a5 a6 a7)
            · obtain ⟨q, hq, hqe⟩ := List.any_eq_true.mp w1
              obtain ⟨z1, z2, z3⟩ := of_decide_eq_true hqe
              have hnw := hAO.2 q hq
              rw [z1, z2, z3] at hnw
              refine y_callW (va_runIN (As := (sv.take q2).reverse) (rest := ys) ⟨hx, hb, hml, hown, hts⟩ hM ⟨va_cnB q2 hts hcw rfl rfl rfl hnw (hts _ (yM_ok w5)) ⟨f3.1, f3.2, w6⟩ hR, w3, hts _ (yM_ok w2)⟩ ⟨y_blind D tys ws H.size _, hpre _⟩ rfl (by rw [List.length_reverse]; exact hlen) hls.1 hstk (lv_room (by rw [y_cats_ok hys]; exact hc8)) hdg ⟨by omega, by omega⟩) hS hAA (fun v α' tys' ws' H1 locs1 a1 a2 a3 a4 a5 a6 a7 => go v ys hys α' tys' ws' H1 locs1 a1 a2 a3 a4 a5 a6 a7)
          | _ => cases hkd
