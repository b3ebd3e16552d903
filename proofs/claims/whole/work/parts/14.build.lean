theorem hdX0_nearest : hdOK yX0_nearest 2 := by decide +kernel
set_option maxHeartbeats 4000000 in
set_option maxRecDepth 100000 in
theorem mX0_nearest (l : Launch) (G : GG) (bo : Nat) (wd : Nat → Nat) (w : Nat → Nat) (us : Nat) (ad : Nat → Nat) (a : Nat → Nat) (r : Nat → Nat → Nat) (wanted : Nat) (hw : ∀ j, w j ≤ 1048576) (hT : TB a r) (hwn : wanted < 4096) : Mi l yX0_nearest cX0_nearest 5 (some .int) (rmN 2 42) G [.ref bo, .ref (ad 0), .int (nI wanted)] (bow bo (wd 0) ++ (wyw G wd w us ++ (tkw G ad a r))) (fun (r9 : Int32) (_ : Unit) => r9 = (oN (nrS w wanted (a 0)))) (fun (_ : Unit) => bow bo (wd 0) ++ (wyw G wd w us ++ (tkw G ad a r))) := by
  refine Mi.of (cc := cX0_nearest) (nL := 5) (by decide) (Nat.le_of_ble_eq_true rfl) ?_
  intro p e s m below meth c A ls F hr hlocks hnm hX hA hD hP hS hl
  have F : CallFix p m c cX0_nearest 5 s [.ref bo, .ref (ad 0), .int (nI wanted)].toArray wA RX0 := F
  obtain ⟨hx, hb, hml, hown, hts⟩ := id F
  have hl : lv_has ls 5 [(0, .ref bo), (1, .ref (ad 0)), (2, .int (nI wanted))] := hl
  obtain ⟨t0, t1, t2, t3, t4, t5, t6, t7, t8, t9, t10, t11, t12⟩ := id hT
  refine lv_bipush (v := (-9)) hx hb dX0_nearest_0 (by decide) ?_
  refine lv_istore_n (lv' := [(3, .int (-9)), (0, .ref bo), (1, .ref (ad 0)), (2, .int (nI wanted))]) hx hb dX0_nearest_2 rfl hl (by decide) rfl (fun ls hl => ?_)
  refine lv_iconst (v := (nI 0)) hx hb dX0_nearest_3 (by decide) ?_
  refine lv_istore (lv' := [(4, .int (nI 0)), (3, .int (-9)), (0, .ref bo), (1, .ref (ad 0)), (2, .int (nI wanted))]) hx hb dX0_nearest_4 hl (by decide) rfl (fun ls hl => ?_)
  have lp6 : ∀ (n6 : Nat) (v : Nat) (o : Option Nat), (a 0 - v) < n6 → (v ≤ a 0) → (nrS w wanted v = o) → ∀ (H : Heap) (locs : List Loc), va_P G.1 vwCl (bow bo (wd 0) ++ (wyw G wd w us ++ (tkw G ad a r))) H → va_D A (bow bo (wd 0) ++ (wyw G wd w us ++ (tkw G ad a r))) → va_S A s.heap H locs → ∀ (ls : Array Slot), lv_has ls 5 [(0, .ref bo), (1, .ref (ad 0)), (2, .int (nI wanted)), (3, .int (oN o)), (4, .int (nI v))] → WI p l e (rmN 2 42) s m [.ref bo, .ref (ad 0), .int (nI wanted)] below meth c H locs G A (fun (r9 : Int32) (_ : Unit) => r9 = (oN (nrS w wanted (a 0)))) (fun (_ : Unit) => bow bo (wd 0) ++ (wyw G wd w us ++ (tkw G ad a r))) (F0 m 6 ls []) := by
    intro n6
    induction n6 with
    | zero => intro v o h9; exact absurd h9 (Nat.not_lt_zero _)
    | succ n6 ih6 =>
      intro v o hm6  hv ho H locs hP hD hS ls hl
      refine lv_iload hx hb dX0_nearest_6 (lv_at hl 4 rfl) ?_
      refine lv_aload_n hx hb dX0_nearest_8 rfl (lv_at hl 1 rfl) ?_
      refine va_get (D := G.1) (ci := 3) (v := .int (nI (a 0))) (C := RX4) (T := TX4) (N := 12) hx hb hts inA4 hown hX.1 hP 3 rfl rfl 0 (by decide) (hts _ kw_65) (fun _ h9 => h9) rfl dX0_nearest_9 ?_
      refine nv_ge (x := v) (y := a 0) (tgt := 69) hx hb dX0_nearest_12 (by decide) (by omega) (by omega) (fun c12 => ?_) (fun c12 => ?_)
      · refine lv_iload_n hx hb dX0_nearest_69 rfl (lv_at hl 3 rfl) ?_
        exact re_i (v := (oN o)) hx hb hr hlocks hS () hP hD (by have e9 : v = a 0 := (by omega); rw [← e9, ho]) dX0_nearest_70
      · refine lv_iload_n hx hb dX0_nearest_15 rfl (lv_at hl 2 rfl) ?_
        refine lv_iload hx hb dX0_nearest_16 (lv_at hl 4 rfl) ?_
        refine ca_Ni (rest := []) (wr := bow bo (wd 0) ++ (wyw G wd w us ++ (tkw G ad a r))) F hX (mX7_has l G wanted v (by omega) (by omega)) ⟨cA_N hts kw_357 kw_1 hX.2.2.2.2.2.2.2.1 hdX7_has ⟨Nat.le_of_ble_eq_true rfl, Nat.le_of_ble_eq_true rfl⟩, hts _ kw_356, trivial⟩ rfl hl.1 rfl (Nat.le_of_ble_eq_true rfl) dX0_nearest_18 ⟨Nat.le_of_ble_eq_true rfl, Nat.le_of_ble_eq_true rfl⟩ hP hD hS hA (List.Perm.refl _) (fun r18 u18 H locs hp18 hP hD hS => ?_)
        have hP : va_P G.1 vwCl (bow bo (wd 0) ++ (wyw G wd w us ++ (tkw G ad a r))) H := hP
        have hD : va_D A (bow bo (wd 0) ++ (wyw G wd w us ++ (tkw G ad a r))) := hD
        subst hp18
        refine bv_eq (b := wanted.testBit v) (tgt := 63) hx hb dX0_nearest_21 (by decide) (fun c21 => ?_) (fun c21 => ?_)
        · refine lv_iinc (v := (nI (v + 1))) (lv' := [(4, .int (nI (v + 1))), (0, .ref bo), (1, .ref (ad 0)), (2, .int (nI wanted)), (3, .int (oN o))]) hx hb dX0_nearest_63 hl (k := 4) rfl (qn_inc _) (by decide) rfl (fun ls hl => ?_)
          refine lv_goto (tgt := 6) hx hb dX0_nearest_66 (by decide) ?_
          exact ih6 (v + 1) o (by omega) (by omega) (by cases o with | none => (rw [nrS, ho]; exact if_neg (fun h => by rw [c21] at h; exact absurd h.1 (by decide))) | some u => (rw [nrS, ho]; exact if_neg (fun h => by rw [c21] at h; exact absurd h.1 (by decide)))) _ _ hP hD hS ls (lv_sub hl [1, 2, 3, 4, 0] rfl)
        · refine lv_aload_n hx hb dX0_nearest_24 rfl (lv_at hl 0 rfl) ?_
          refine va_get (D := G.1) (ci := 0) (v := .ref (wd 0)) (C := RX0) (T := TX0) (N := 1) hx hb hts inA0 hown hX.1 hP 0 rfl rfl 0 (by decide) (hts _ kw_171) (fun _ h9 => h9) rfl dX0_nearest_25 ?_
          refine lv_iload hx hb dX0_nearest_28 (lv_at hl 4 rfl) ?_
          refine ca_Vi (ci := 5) (q := (RX6, TX6, 2)) (rest := []) (wr := bow bo (wd 0) ++ (tkw G ad a r)) F hX (mX6_reach l G wd w us v hw (by omega)) (cA_V hts kw_434 kw_6 kw_478 kw_432 kw_433 hdX6_reach ⟨Nat.le_of_ble_eq_true rfl, Nat.le_of_ble_eq_true rfl⟩) rfl rfl rfl hl.1 rfl (Nat.le_of_ble_eq_true rfl) dX0_nearest_30 ⟨Nat.le_of_ble_eq_true rfl, Nat.le_of_ble_eq_true rfl⟩ hP hD hS hA (pm_sw _ _ _) (fun r30 u30 H locs hp30 hP hD hS => ?_)
          have hP : va_P G.1 vwCl (bow bo (wd 0) ++ (wyw G wd w us ++ (tkw G ad a r))) H := wp_pm (pm_sw _ _ _).symm hP
          have hD : va_D A (bow bo (wd 0) ++ (wyw G wd w us ++ (tkw G ad a r))) := wd_pm (pm_sw _ _ _).symm hD
          subst hp30
          refine bv_eq (b := decide (w v < 1048576)) (tgt := 63) hx hb dX0_nearest_33 (by decide) (fun c33 => ?_) (fun c33 => ?_)
          · refine lv_iinc (v := (nI (v + 1))) (lv' := [(4, .int (nI (v + 1))), (0, .ref bo), (1, .ref (ad 0)), (2, .int (nI wanted)), (3, .int (oN o))]) hx hb dX0_nearest_63 hl (k := 4) rfl (qn_inc _) (by decide) rfl (fun ls hl => ?_)
            refine lv_goto (tgt := 6) hx hb dX0_nearest_66 (by decide) ?_
            exact ih6 (v + 1) o (by omega) (by omega) (by cases o with | none => (rw [nrS, ho]; exact if_neg (fun h => absurd h.2 (of_decide_eq_false c33))) | some u => (rw [nrS, ho]; exact if_neg (fun h => absurd h.2.1 (of_decide_eq_false c33)))) _ _ hP hD hS ls (lv_sub hl [1, 2, 3, 4, 0] rfl)
          · rcases o with _ | u
            · have hl : lv_has ls 5 [(0, .ref bo), (1, .ref (ad 0)), (2, .int (nI wanted)), (3, .int (-9)), (4, .int (nI v))] := hl
              refine lv_iload_n hx hb dX0_nearest_36 rfl (lv_at hl 3 rfl) ?_
              refine lv_if_lt (x := (-9)) (tgt := 60) hx hb dX0_nearest_37 (by decide) (fun c37 => ?_) (fun c37 => ?_)
              · refine lv_iload hx hb dX0_nearest_60 (lv_at hl 4 rfl) ?_
                refine lv_istore_n (lv' := [(3, .int (nI v)), (0, .ref bo), (1, .ref (ad 0)), (2, .int (nI wanted)), (4, .int (nI v))]) hx hb dX0_nearest_62 rfl hl (by decide) rfl (fun ls hl => ?_)
                refine lv_iinc (v := (nI (v + 1))) (lv' := [(4, .int (nI (v + 1))), (3, .int (nI v)), (0, .ref bo), (1, .ref (ad 0)), (2, .int (nI wanted))]) hx hb dX0_nearest_63 hl (k := 4) rfl (qn_inc _) (by decide) rfl (fun ls hl => ?_)
                refine lv_goto (tgt := 6) hx hb dX0_nearest_66 (by decide) ?_
                exact ih6 (v + 1) (some v) (by omega) (by omega) (by rw [nrS, ho]; exact if_pos ⟨c21, of_decide_eq_true c33⟩) _ _ hP hD hS ls (lv_sub hl [2, 3, 4, 1, 0] rfl)
              · exact absurd (by decide) c37
            · have hl : lv_has ls 5 [(0, .ref bo), (1, .ref (ad 0)), (2, .int (nI wanted)), (3, .int (nI u)), (4, .int (nI v))] := hl
              have hlu := nrS_lt ho
              refine lv_iload_n hx hb dX0_nearest_36 rfl (lv_at hl 3 rfl) ?_
              refine nv_zlt (x := u) (tgt := 60) hx hb dX0_nearest_37 (by decide) (by omega) ?_
              refine lv_aload_n hx hb dX0_nearest_40 rfl (lv_at hl 0 rfl) ?_
              refine va_get (D := G.1) (ci := 0) (v := .ref (wd 0)) (C := RX0) (T := TX0) (N := 1) hx hb hts inA0 hown hX.1 hP 0 rfl rfl 0 (by decide) (hts _ kw_171) (fun _ h9 => h9) rfl dX0_nearest_41 ?_
              refine lv_iload hx hb dX0_nearest_44 (lv_at hl 4 rfl) ?_
              refine ca_Vi (ci := 5) (q := (RX6, TX6, 2)) (rest := []) (wr := bow bo (wd 0) ++ (tkw G ad a r)) F hX (mX6_costFrom l G wd w us v hw (by omega)) (cA_V hts kw_482 kw_6 kw_479 kw_480 kw_481 hdX6_costFrom ⟨Nat.le_of_ble_eq_true rfl, Nat.le_of_ble_eq_true rfl⟩) rfl rfl rfl hl.1 rfl (Nat.le_of_ble_eq_true rfl) dX0_nearest_46 ⟨Nat.le_of_ble_eq_true rfl, Nat.le_of_ble_eq_true rfl⟩ hP hD hS hA (pm_sw _ _ _) (fun r46 u46 H locs hp46 hP hD hS => ?_)
              have hP : va_P G.1 vwCl (bow bo (wd 0) ++ (wyw G wd w us ++ (tkw G ad a r))) H := wp_pm (pm_sw _ _ _).symm hP
              have hD : va_D A (bow bo (wd 0) ++ (wyw G wd w us ++ (tkw G ad a r))) := wd_pm (pm_sw _ _ _).symm hD
              subst hp46
              refine ti (y := (nI (w v / 16))) (by rw [cfr, if_pos (of_decide_eq_true c33)]; rfl) ?_
              refine lv_aload_n hx hb dX0_nearest_49 rfl (lv_at hl 0 rfl) ?_
              refine va_get (D := G.1) (ci := 0) (v := .ref (wd 0)) (C := RX0) (T := TX0) (N := 1) hx hb hts inA0 hown hX.1 hP 0 rfl rfl 0 (by decide) (hts _ kw_171) (fun _ h9 => h9) rfl dX0_nearest_50 ?_
              refine lv_iload_n hx hb dX0_nearest_53 rfl (lv_at hl 3 rfl) ?_
              refine ca_Vi (ci := 5) (q := (RX6, TX6, 2)) (rest := [.int (nI (w v / 16))]) (wr := bow bo (wd 0) ++ (tkw G ad a r)) F hX (mX6_costFrom l G wd w us u hw (by omega)) (cA_V hts kw_482 kw_6 kw_479 kw_480 kw_481 hdX6_costFrom ⟨Nat.le_of_ble_eq_true rfl, Nat.le_of_ble_eq_true rfl⟩) rfl rfl rfl hl.1 rfl (Nat.le_of_ble_eq_true rfl) dX0_nearest_54 ⟨Nat.le_of_ble_eq_true rfl, Nat.le_of_ble_eq_true rfl⟩ hP hD hS hA (pm_sw _ _ _) (fun r54 u54 H locs hp54 hP hD hS => ?_)
              have hP : va_P G.1 vwCl (bow bo (wd 0) ++ (wyw G wd w us ++ (tkw G ad a r))) H := wp_pm (pm_sw _ _ _).symm hP
              have hD : va_D A (bow bo (wd 0) ++ (wyw G wd w us ++ (tkw G ad a r))) := wd_pm (pm_sw _ _ _).symm hD
              subst hp54
              refine ti (y := (nI (w u / 16))) (by rw [cfr, if_pos hlu.2.1]; rfl) ?_
              refine nv_ge (x := w v / 16) (y := w u / 16) (tgt := 63) hx hb dX0_nearest_57 (by decide) (by have := hw v; omega) (by have := hw u; omega) (fun c57 => ?_) (fun c57 => ?_)
              · refine lv_iinc (v := (nI (v + 1))) (lv' := [(4, .int (nI (v + 1))), (0, .ref bo), (1, .ref (ad 0)), (2, .int (nI wanted)), (3, .int (nI u))]) hx hb dX0_nearest_63 hl (k := 4) rfl (qn_inc _) (by decide) rfl (fun ls hl => ?_)
                refine lv_goto (tgt := 6) hx hb dX0_nearest_66 (by decide) ?_
                exact ih6 (v + 1) (some u) (by omega) (by omega) (by rw [nrS, ho]; exact if_neg (fun h => absurd h.2.2 (by omega))) _ _ hP hD hS ls (lv_sub hl [1, 2, 3, 4, 0] rfl)
              · refine lv_iload hx hb dX0_nearest_60 (lv_at hl 4 rfl) ?_
                refine lv_istore_n (lv' := [(3, .int (nI v)), (0, .ref bo), (1, .ref (ad 0)), (2, .int (nI wanted)), (4, .int (nI v))]) hx hb dX0_nearest_62 rfl hl (by decide) rfl (fun ls hl => ?_)
                refine lv_iinc (v := (nI (v + 1))) (lv' := [(4, .int (nI (v + 1))), (3, .int (nI v)), (0, .ref bo), (1, .ref (ad 0)), (2, .int (nI wanted))]) hx hb dX0_nearest_63 hl (k := 4) rfl (qn_inc _) (by decide) rfl (fun ls hl => ?_)
                refine lv_goto (tgt := 6) hx hb dX0_nearest_66 (by decide) ?_
                exact ih6 (v + 1) (some v) (by omega) (by omega) (by rw [nrS, ho]; exact if_pos ⟨c21, of_decide_eq_true c33, c57⟩) _ _ hP hD hS ls (lv_sub hl [2, 3, 4, 1, 0] rfl)
  exact lp6 _ 0 none (Nat.lt_succ_self _) (Nat.zero_le _) rfl _ _ hP hD hS ls (lv_sub hl [2, 3, 4, 1, 0] rfl)

set_option maxRecDepth 100000 in
theorem mX4_turnMark (l : Launch) (G : GG) (ad : Nat → Nat) (a : Nat → Nat) (r : Nat → Nat → Nat) (v : Nat) (hT : TB a r) (hv : v < 2 ^ 31) (hc : mkF (r 3) v (a 10) = none → a 10 < 7) : Mv l yX4_turnMark cX4_turnMark 3 none (rmN 1 26) G [.ref (ad 0), .int (nI v)] (tkw G ad a r) (fun (_ : Unit) => True) (fun (_ : Unit) => tkw G ad (tmP a r v).1 (tmP a r v).2) := by
  unfold tmP
  cases h : mkF (r 3) v (a 10) with
  | none => exact mX4_turnMark_no l G ad a r v hT hv h (hc h)
  | some j => exact mX4_turnMark_yes l G ad a r v j hT hv h

theorem hdX0_join : hdOK yX0_join 2 := by decide +kernel
set_option maxHeartbeats 4000000 in
set_option maxRecDepth 100000 in
theorem mX0_join (l : Launch) (G : GG) (bo : Nat) (wd : Nat → Nat) (w : Nat → Nat) (us : Nat) (ad : Nat → Nat) (a : Nat → Nat) (r : Nat → Nat → Nat) (v : Nat) (hT : TB a r) (hv : v < 7) : Mv l yX0_join cX0_join 3 none (rmN 4 91) G [.ref bo, .ref (ad 0), .int (nI v)] (bow bo (wd 0) ++ (wyw G wd w us ++ (tkw G ad a r))) (fun (_ : (Nat → Nat) × Nat) => True) (fun (u : (Nat → Nat) × Nat) => bow bo (wd 0) ++ (wyw G wd u.1 u.2 ++ (tkw G ad (va_up (va_up a 7 (a 7 ||| 2 ^ v)) 8 (a 8 ||| wyA a r (a 8) v)) r))) := by
  refine Mv.of (cc := cX0_join) (nL := 3) (by decide) (Nat.le_of_ble_eq_true rfl) ?_
  intro p e s m below meth c A ls F hr hlocks hnm hX hA hD hP hS hl
  have F : CallFix p m c cX0_join 3 s [.ref bo, .ref (ad 0), .int (nI v)].toArray wA RX0 := F
  obtain ⟨hx, hb, hml, hown, hts⟩ := id F
  have hl : lv_has ls 3 [(0, .ref bo), (1, .ref (ad 0)), (2, .int (nI v))] := hl
  obtain ⟨t0, t1, t2, t3, t4, t5, t6, t7, t8, t9, t10, t11, t12⟩ := id hT
  refine lv_aload_n hx hb dX0_join_0 rfl (lv_at hl 0 rfl) ?_
  refine va_get (D := G.1) (ci := 0) (v := .ref (wd 0)) (C := RX0) (T := TX0) (N := 1) hx hb hts inA0 hown hX.1 hP 0 rfl rfl 0 (by decide) (hts _ kw_171) (fun _ h9 => h9) rfl dX0_join_1 ?_
  refine lv_aload_n hx hb dX0_join_4 rfl (lv_at hl 1 rfl) ?_
  refine lv_aload_n hx hb dX0_join_5 rfl (lv_at hl 1 rfl) ?_
  refine va_get (D := G.1) (ci := 3) (v := .int (nI (a 8))) (C := RX4) (T := TX4) (N := 12) hx hb hts inA4 hown hX.1 hP 3 rfl rfl 8 (by decide) (hts _ kw_96) (fun _ h9 => h9) rfl dX0_join_6 ?_
  refine ca_Vv (ci := 5) (q := (RX6, TX6, 2)) (rest := []) (wr := bow bo (wd 0)) F hX (mX6_find l G wd w us ad a r (a 8) hT (by omega)) (cA_V hts kw_405 kw_6 kw_439 kw_403 kw_404 hdX6_find ⟨Nat.le_of_ble_eq_true rfl, Nat.le_of_ble_eq_true rfl⟩) rfl rfl rfl hl.1 rfl (Nat.le_of_ble_eq_true rfl) dX0_join_9 ⟨Nat.le_of_ble_eq_true rfl, Nat.le_of_ble_eq_true rfl⟩ hP hD hS hA ((((List.Perm.append_left _ (List.perm_append_comm)).trans (pm_sw _ _ _)).trans ((List.Perm.append_left _ (List.perm_append_comm)).trans (pm_sw _ _ _))).trans (List.Perm.of_eq (List.append_assoc _ _ _).symm)) (fun u9 H locs hp9 hP hD hS => ?_)
  have hP : va_P G.1 vwCl (bow bo (wd 0) ++ (wyw G wd (wtN (r 0) (r 1) (r 2) (nd (2 ^ (a 3) - 1) (a 9)) (a 3) (a 0) (nof (r 0) (r 1) (a 1) (a 8) (a 3))) (nd (2 ^ (a 3) - 1) (a 9)) ++ (tkw G ad a r))) H := wp_pm ((((List.Perm.append_left _ (List.perm_append_comm)).trans (pm_sw _ _ _)).trans ((List.Perm.append_left _ (List.perm_append_comm)).trans (pm_sw _ _ _))).trans (List.Perm.of_eq (List.append_assoc _ _ _).symm)).symm hP
  have hD : va_D A (bow bo (wd 0) ++ (wyw G wd (wtN (r 0) (r 1) (r 2) (nd (2 ^ (a 3) - 1) (a 9)) (a 3) (a 0) (nof (r 0) (r 1) (a 1) (a 8) (a 3))) (nd (2 ^ (a 3) - 1) (a 9)) ++ (tkw G ad a r))) := wd_pm ((((List.Perm.append_left _ (List.perm_append_comm)).trans (pm_sw _ _ _)).trans ((List.Perm.append_left _ (List.perm_append_comm)).trans (pm_sw _ _ _))).trans (List.Perm.of_eq (List.append_assoc _ _ _).symm)).symm hD
  refine lv_aload_n hx hb dX0_join_12 rfl (lv_at hl 1 rfl) ?_
  refine lv_dup hx hb dX0_join_13 rfl ?_
  refine va_get (D := G.1) (ci := 3) (v := .int (nI (a 7))) (C := RX4) (T := TX4) (N := 12) hx hb hts inA4 hown hX.1 hP 3 rfl rfl 7 (by decide) (hts _ kw_93) (fun _ h9 => h9) rfl dX0_join_14 ?_
  refine lv_iconst (v := (nI 1)) hx hb dX0_join_17 (by decide) ?_
  refine lv_iload_n hx hb dX0_join_18 rfl (lv_at hl 2 rfl) ?_
  refine lv_ishl hx hb dX0_join_19 (ti (y := (nI (2 ^ v))) (qn_sh1 (by omega)) ?_)
  refine lv_ior hx hb dX0_join_20 (ti (y := (nI ((a 7) ||| (2 ^ v)))) (qn_or _ _) ?_)
  refine va_put (D := G.1) (ci := 3) (v := .int (nI ((a 7) ||| (2 ^ v)))) (ty := .int) (C := RX4) (T := TX4) (N := 12) hx hb hts inA4 tyX4 tyX4_ok nmX4 hown hX.1 hP hD hS 3 rfl rfl 7 (by decide) (hts _ kw_93) (fun _ h9 => h9) rfl (by decide +kernel) rfl rfl (Nat.le_of_ble_eq_true rfl) dX0_join_21 (fun H locs hP hD hS => ?_)
  have hP : va_P G.1 vwCl (bow bo (wd 0) ++ (wyw G wd (wtN (r 0) (r 1) (r 2) (nd (2 ^ (a 3) - 1) (a 9)) (a 3) (a 0) (nof (r 0) (r 1) (a 1) (a 8) (a 3))) (nd (2 ^ (a 3) - 1) (a 9)) ++ (tkw G ad (va_up a 7 ((a 7) ||| (2 ^ v))) r))) H := hP
  have hD : va_D A (bow bo (wd 0) ++ (wyw G wd (wtN (r 0) (r 1) (r 2) (nd (2 ^ (a 3) - 1) (a 9)) (a 3) (a 0) (nof (r 0) (r 1) (a 1) (a 8) (a 3))) (nd (2 ^ (a 3) - 1) (a 9)) ++ (tkw G ad (va_up a 7 ((a 7) ||| (2 ^ v))) r))) := hD
  refine lv_aload_n hx hb dX0_join_24 rfl (lv_at hl 1 rfl) ?_
  refine lv_dup hx hb dX0_join_25 rfl ?_
  refine va_get (D := G.1) (ci := 3) (v := .int (nI (a 8))) (C := RX4) (T := TX4) (N := 12) hx hb hts inA4 hown hX.1 hP 3 rfl rfl 8 (by decide) (hts _ kw_96) (fun _ h9 => h9) rfl dX0_join_26 ?_
  refine lv_aload_n hx hb dX0_join_29 rfl (lv_at hl 0 rfl) ?_
  refine va_get (D := G.1) (ci := 0) (v := .ref (wd 0)) (C := RX0) (T := TX0) (N := 1) hx hb hts inA0 hown hX.1 hP 0 rfl rfl 0 (by decide) (hts _ kw_171) (fun _ h9 => h9) rfl dX0_join_30 ?_
  refine lv_aload_n hx hb dX0_join_33 rfl (lv_at hl 1 rfl) ?_
  refine lv_iload_n hx hb dX0_join_34 rfl (lv_at hl 2 rfl) ?_
  refine ca_Vi (ci := 5) (q := (RX6, TX6, 2)) (rest := [.int (nI (a 8)), .ref (ad 0)]) (wr := bow bo (wd 0)) F hX (mX6_linksFrom l G wd (wtN (r 0) (r 1) (r 2) (nd (2 ^ (a 3) - 1) (a 9)) (a 3) (a 0) (nof (r 0) (r 1) (a 1) (a 8) (a 3))) (nd (2 ^ (a 3) - 1) (a 9)) ad (va_up a 7 ((a 7) ||| (2 ^ v))) r v (wtA_le a r (a 8)) (up_lt hT) (hT.mb (or_lt (n := 7) t8 (pw_lt (by omega)))) (by omega)) (cA_V hts kw_443 kw_6 kw_440 kw_441 kw_442 hdX6_linksFrom ⟨Nat.le_of_ble_eq_true rfl, Nat.le_of_ble_eq_true rfl⟩) rfl rfl rfl hl.1 rfl (Nat.le_of_ble_eq_true rfl) dX0_join_35 ⟨Nat.le_of_ble_eq_true rfl, Nat.le_of_ble_eq_true rfl⟩ hP hD hS hA ((((List.Perm.append_left _ (List.perm_append_comm)).trans (pm_sw _ _ _)).trans ((List.Perm.append_left _ (List.perm_append_comm)).trans (pm_sw _ _ _))).trans (List.Perm.of_eq (List.append_assoc _ _ _).symm)) (fun r35 u35 H locs hp35 hP hD hS => ?_)
  have hP : va_P G.1 vwCl (bow bo (wd 0) ++ (wyw G wd (wtN (r 0) (r 1) (r 2) (nd (2 ^ (a 3) - 1) (a 9)) (a 3) (a 0) (nof (r 0) (r 1) (a 1) (a 8) (a 3))) (nd (2 ^ (a 3) - 1) (a 9)) ++ (tkw G ad (va_up a 7 ((a 7) ||| (2 ^ v))) r))) H := wp_pm ((((List.Perm.append_left _ (List.perm_append_comm)).trans (pm_sw _ _ _)).trans ((List.Perm.append_left _ (List.perm_append_comm)).trans (pm_sw _ _ _))).trans (List.Perm.of_eq (List.append_assoc _ _ _).symm)).symm hP
  have hD : va_D A (bow bo (wd 0) ++ (wyw G wd (wtN (r 0) (r 1) (r 2) (nd (2 ^ (a 3) - 1) (a 9)) (a 3) (a 0) (nof (r 0) (r 1) (a 1) (a 8) (a 3))) (nd (2 ^ (a 3) - 1) (a 9)) ++ (tkw G ad (va_up a 7 ((a 7) ||| (2 ^ v))) r))) := wd_pm ((((List.Perm.append_left _ (List.perm_append_comm)).trans (pm_sw _ _ _)).trans ((List.Perm.append_left _ (List.perm_append_comm)).trans (pm_sw _ _ _))).trans (List.Perm.of_eq (List.append_assoc _ _ _).symm)).symm hD
  subst hp35
  refine lv_ior hx hb dX0_join_38 (ti (y := (nI ((a 8) ||| (lfr (r 0) (r 1) (r 2) (wtN (r 0) (r 1) (r 2) (nd (2 ^ (a 3) - 1) (a 9)) (a 3) (a 0) (nof (r 0) (r 1) (a 1) (a 8) (a 3))) (nd (2 ^ (a 3) - 1) (a 9)) (a 3) 7 v 0)))) (qn_or _ _) ?_)
  refine va_put (D := G.1) (ci := 3) (v := .int (nI ((a 8) ||| (lfr (r 0) (r 1) (r 2) (wtN (r 0) (r 1) (r 2) (nd (2 ^ (a 3) - 1) (a 9)) (a 3) (a 0) (nof (r 0) (r 1) (a 1) (a 8) (a 3))) (nd (2 ^ (a 3) - 1) (a 9)) (a 3) 7 v 0)))) (ty := .int) (C := RX4) (T := TX4) (N := 12) hx hb hts inA4 tyX4 tyX4_ok nmX4 hown hX.1 hP hD hS 3 rfl rfl 8 (by decide) (hts _ kw_96) (fun _ h9 => h9) rfl (by decide +kernel) rfl rfl (Nat.le_of_ble_eq_true rfl) dX0_join_39 (fun H locs hP hD hS => ?_)
  have hP : va_P G.1 vwCl (bow bo (wd 0) ++ (wyw G wd (wtN (r 0) (r 1) (r 2) (nd (2 ^ (a 3) - 1) (a 9)) (a 3) (a 0) (nof (r 0) (r 1) (a 1) (a 8) (a 3))) (nd (2 ^ (a 3) - 1) (a 9)) ++ (tkw G ad (va_up (va_up a 7 ((a 7) ||| (2 ^ v))) 8 ((a 8) ||| (lfr (r 0) (r 1) (r 2) (wtN (r 0) (r 1) (r 2) (nd (2 ^ (a 3) - 1) (a 9)) (a 3) (a 0) (nof (r 0) (r 1) (a 1) (a 8) (a 3))) (nd (2 ^ (a 3) - 1) (a 9)) (a 3) 7 v 0))) r))) H := hP
  have hD : va_D A (bow bo (wd 0) ++ (wyw G wd (wtN (r 0) (r 1) (r 2) (nd (2 ^ (a 3) - 1) (a 9)) (a 3) (a 0) (nof (r 0) (r 1) (a 1) (a 8) (a 3))) (nd (2 ^ (a 3) - 1) (a 9)) ++ (tkw G ad (va_up (va_up a 7 ((a 7) ||| (2 ^ v))) 8 ((a 8) ||| (lfr (r 0) (r 1) (r 2) (wtN (r 0) (r 1) (r 2) (nd (2 ^ (a 3) - 1) (a 9)) (a 3) (a 0) (nof (r 0) (r 1) (a 1) (a 8) (a 3))) (nd (2 ^ (a 3) - 1) (a 9)) (a 3) 7 v 0))) r))) := hD
  exact re_v hx hb hr hlocks hS (wtN (r 0) (r 1) (r 2) (nd (2 ^ (a 3) - 1) (a 9)) (a 3) (a 0) (nof (r 0) (r 1) (a 1) (a 8) (a 3)), nd (2 ^ (a 3) - 1) (a 9)) hP hD trivial dX0_join_42

theorem hdX0_leave : hdOK yX0_leave 2 := by decide +kernel
set_option maxHeartbeats 4000000 in
set_option maxRecDepth 100000 in
theorem mX0_leave (l : Launch) (G : GG) (bo : Nat) (wd : Nat → Nat) (w : Nat → Nat) (us : Nat) (ad : Nat → Nat) (a : Nat → Nat) (r : Nat → Nat → Nat) (v : Nat) (hT : TB a r) (hv : v < 7) : Mv l yX0_leave cX0_leave 3 none (rmN 3 68) G [.ref bo, .ref (ad 0), .int (nI v)] (bow bo (wd 0) ++ (wyw G wd w us ++ (tkw G ad a r))) (fun (_ : (Nat → Nat) × Nat) => True) (fun (u : (Nat → Nat) × Nat) => bow bo (wd 0) ++ (wyw G wd u.1 u.2 ++ (tkw G ad (va_up (va_up a 7 (nd (a 7) (2 ^ v))) 8 (prA (va_up a 7 (nd (a 7) (2 ^ v))) r)) r))) := by
  refine Mv.of (cc := cX0_leave) (nL := 3) (by decide) (Nat.le_of_ble_eq_true rfl) ?_
  intro p e s m below meth c A ls F hr hlocks hnm hX hA hD hP hS hl
  have F : CallFix p m c cX0_leave 3 s [.ref bo, .ref (ad 0), .int (nI v)].toArray wA RX0 := F
  obtain ⟨hx, hb, hml, hown, hts⟩ := id F
  have hl : lv_has ls 3 [(0, .ref bo), (1, .ref (ad 0)), (2, .int (nI v))] := hl
  obtain ⟨t0, t1, t2, t3, t4, t5, t6, t7, t8, t9, t10, t11, t12⟩ := id hT
  refine lv_aload_n hx hb dX0_leave_0 rfl (lv_at hl 1 rfl) ?_
  refine lv_dup hx hb dX0_leave_1 rfl ?_
  refine va_get (D := G.1) (ci := 3) (v := .int (nI (a 7))) (C := RX4) (T := TX4) (N := 12) hx hb hts inA4 hown hX.1 hP 3 rfl rfl 7 (by decide) (hts _ kw_93) (fun _ h9 => h9) rfl dX0_leave_2 ?_
  refine lv_iconst (v := (nI 1)) hx hb dX0_leave_5 (by decide) ?_
  refine lv_iload_n hx hb dX0_leave_6 rfl (lv_at hl 2 rfl) ?_
  refine lv_ishl hx hb dX0_leave_7 (ti (y := (nI (2 ^ v))) (qn_sh1 (by omega)) ?_)
  refine lv_iconst (v := (-1)) hx hb dX0_leave_8 (by decide) ?_
  refine lv_ixor hx hb dX0_leave_9 ?_
  refine lv_iand hx hb dX0_leave_10 (ti (y := (nI (nd (a 7) (2 ^ v)))) (qn_andn _ _) ?_)
  refine va_put (D := G.1) (ci := 3) (v := .int (nI (nd (a 7) (2 ^ v)))) (ty := .int) (C := RX4) (T := TX4) (N := 12) hx hb hts inA4 tyX4 tyX4_ok nmX4 hown hX.1 hP hD hS 3 rfl rfl 7 (by decide) (hts _ kw_93) (fun _ h9 => h9) rfl (by decide +kernel) rfl rfl (Nat.le_of_ble_eq_true rfl) dX0_leave_11 (fun H locs hP hD hS => ?_)
  have hP : va_P G.1 vwCl (bow bo (wd 0) ++ (wyw G wd w us ++ (tkw G ad (va_up a 7 (nd (a 7) (2 ^ v))) r))) H := hP
  have hD : va_D A (bow bo (wd 0) ++ (wyw G wd w us ++ (tkw G ad (va_up a 7 (nd (a 7) (2 ^ v))) r))) := hD
  refine lv_aload_n hx hb dX0_leave_14 rfl (lv_at hl 1 rfl) ?_
  refine ca_Vv (ci := 3) (q := (RX4, TX4, 12)) (rest := []) (wr := bow bo (wd 0) ++ (wyw G wd w us)) F hX (mX4_prune l G ad (va_up a 7 (nd (a 7) (2 ^ v))) r  (hT.mb (Nat.lt_of_le_of_lt (nd_le _ _) t8))) (cA_V hts kw_500 kw_3 kw_497 kw_498 kw_499 hdX4_prune ⟨Nat.le_of_ble_eq_true rfl, Nat.le_of_ble_eq_true rfl⟩) rfl rfl rfl hl.1 rfl (Nat.le_of_ble_eq_true rfl) dX0_leave_15 ⟨Nat.le_of_ble_eq_true rfl, Nat.le_of_ble_eq_true rfl⟩ hP hD hS hA ((List.Perm.append_left _ (List.perm_append_comm)).trans (pm_sw _ _ _)) (fun u15 H locs hp15 hP hD hS => ?_)
  have hP : va_P G.1 vwCl (bow bo (wd 0) ++ (wyw G wd w us ++ (tkw G ad (va_up (va_up a 7 (nd (a 7) (2 ^ v))) 8 (prN (r 0) (r 1) ((nd (a 7) (2 ^ v)) ||| 2 ^ (a 1)) (a 3) (a 0) (fun x => bts x 12) (a 0) (a 8))) r))) H := wp_pm ((List.Perm.append_left _ (List.perm_append_comm)).trans (pm_sw _ _ _)).symm hP
  have hD : va_D A (bow bo (wd 0) ++ (wyw G wd w us ++ (tkw G ad (va_up (va_up a 7 (nd (a 7) (2 ^ v))) 8 (prN (r 0) (r 1) ((nd (a 7) (2 ^ v)) ||| 2 ^ (a 1)) (a 3) (a 0) (fun x => bts x 12) (a 0) (a 8))) r))) := wd_pm ((List.Perm.append_left _ (List.perm_append_comm)).trans (pm_sw _ _ _)).symm hD
  exact re_v hx hb hr hlocks hS (w, us) hP hD trivial dX0_leave_18

theorem hdX0_anew : hdOK yX0_anew 1 := by decide +kernel
set_option maxHeartbeats 4000000 in
set_option maxRecDepth 100000 in
theorem mX0_anew (l : Launch) (G : GG) (bo : Nat) (wd : Nat → Nat) (w : Nat → Nat) (us : Nat) (ad : Nat → Nat) (a : Nat → Nat) (r : Nat → Nat → Nat) (hT : TB a r) : Mi l yX0_anew cX0_anew 5 (some .int) (rmN 4 91) G [.ref bo, .ref (ad 0)] (bow bo (wd 0) ++ (wyw G wd w us ++ (tkw G ad a r))) (fun (r9 : Int32) (_ : (Nat → Nat) × Nat) => r9 = nI (anA a r)) (fun (u : (Nat → Nat) × Nat) => bow bo (wd 0) ++ (wyw G wd u.1 u.2 ++ (tkw G ad a r))) := by
  refine Mi.of (cc := cX0_anew) (nL := 5) (by decide) (Nat.le_of_ble_eq_true rfl) ?_
  intro p e s m below meth c A ls F hr hlocks hnm hX hA hD hP hS hl
  have F : CallFix p m c cX0_anew 5 s [.ref bo, .ref (ad 0)].toArray wA RX0 := F
  obtain ⟨hx, hb, hml, hown, hts⟩ := id F
  have hl : lv_has ls 5 [(0, .ref bo), (1, .ref (ad 0))] := hl
  obtain ⟨t0, t1, t2, t3, t4, t5, t6, t7, t8, t9, t10, t11, t12⟩ := id hT
  refine lv_iconst (v := (nI 0)) hx hb dX0_anew_0 (by decide) ?_
  refine lv_istore_n (lv' := [(2, .int (nI 0)), (0, .ref bo), (1, .ref (ad 0))]) hx hb dX0_anew_1 rfl hl (by decide) rfl (fun ls hl => ?_)
  refine lv_iconst (v := (nI 0)) hx hb dX0_anew_2 (by decide) ?_
  refine lv_istore_n (lv' := [(3, .int (nI 0)), (2, .int (nI 0)), (0, .ref bo), (1, .ref (ad 0))]) hx hb dX0_anew_3 rfl hl (by decide) rfl (fun ls hl => ?_)
  have lp4 : ∀ (n4 : Nat) (q : Nat) (t : Nat) (y : Nat → Nat) (z : Nat), (a 0 - q) < n4 → (q ≤ a 0) → (t < 4096) → (anw a r (a 0 - q) t = anA a r) → ∀ (H : Heap) (locs : List Loc), va_P G.1 vwCl (bow bo (wd 0) ++ (wyw G wd y z ++ (tkw G ad a r))) H → va_D A (bow bo (wd 0) ++ (wyw G wd y z ++ (tkw G ad a r))) → va_S A s.heap H locs → ∀ (ls : Array Slot), lv_has ls 5 [(0, .ref bo), (1, .ref (ad 0)), (2, .int (nI t)), (3, .int (nI q))] → WI p l e (rmN 4 91) s m [.ref bo, .ref (ad 0)] below meth c H locs G A (fun (r9 : Int32) (_ : (Nat → Nat) × Nat) => r9 = nI (anA a r)) (fun (u : (Nat → Nat) × Nat) => bow bo (wd 0) ++ (wyw G wd u.1 u.2 ++ (tkw G ad a r))) (F0 m 4 ls []) := by
    intro n4
    induction n4 with
    | zero => intro q t y z h9; exact absurd h9 (Nat.not_lt_zero _)
    | succ n4 ih4 =>
      intro q t y z hm4  hq ht hres H locs hP hD hS ls hl
      refine lv_iload_n hx hb dX0_anew_4 rfl (lv_at hl 3 rfl) ?_
      refine lv_aload_n hx hb dX0_anew_5 rfl (lv_at hl 1 rfl) ?_
      refine va_get (D := G.1) (ci := 3) (v := .int (nI (a 0))) (C := RX4) (T := TX4) (N := 12) hx hb hts inA4 hown hX.1 hP 3 rfl rfl 0 (by decide) (hts _ kw_65) (fun _ h9 => h9) rfl dX0_anew_6 ?_
      refine nv_ge (x := q) (y := a 0) (tgt := 67) hx hb dX0_anew_9 (by decide) (by omega) (by omega) (fun c9 => ?_) (fun c9 => ?_)
      · refine lv_iload_n hx hb dX0_anew_67 rfl (lv_at hl 2 rfl) ?_
        exact re_i (v := (nI t)) hx hb hr hlocks hS (y, z) hP hD (by first | (have e9 : a 0 - q = 0 := (by omega); rw [e9] at hres; rw [← hres]; rfl) | (have e9 : a 0 - q = (a 0 - q - 1) + 1 := (by omega); have hj2 : nrS (wtA a r t) (nd (a 7) (noA a r t)) (a 0) = none := hj; rw [e9, anw, hj2] at hres; rw [← hres])) dX0_anew_68
      · refine lv_aload_n hx hb dX0_anew_12 rfl (lv_at hl 0 rfl) ?_
        refine va_get (D := G.1) (ci := 0) (v := .ref (wd 0)) (C := RX0) (T := TX0) (N := 1) hx hb hts inA0 hown hX.1 hP 0 rfl rfl 0 (by decide) (hts _ kw_171) (fun _ h9 => h9) rfl dX0_anew_13 ?_
        refine lv_aload_n hx hb dX0_anew_16 rfl (lv_at hl 1 rfl) ?_
        refine lv_iload_n hx hb dX0_anew_17 rfl (lv_at hl 2 rfl) ?_
        refine ca_Vv (ci := 5) (q := (RX6, TX6, 2)) (rest := []) (wr := bow bo (wd 0)) F hX (mX6_find l G wd y z ad a r t hT (by omega)) (cA_V hts kw_405 kw_6 kw_439 kw_403 kw_404 hdX6_find ⟨Nat.le_of_ble_eq_true rfl, Nat.le_of_ble_eq_true rfl⟩) rfl rfl rfl hl.1 rfl (Nat.le_of_ble_eq_true rfl) dX0_anew_18 ⟨Nat.le_of_ble_eq_true rfl, Nat.le_of_ble_eq_true rfl⟩ hP hD hS hA ((((List.Perm.append_left _ (List.perm_append_comm)).trans (pm_sw _ _ _)).trans ((List.Perm.append_left _ (List.perm_append_comm)).trans (pm_sw _ _ _))).trans (List.Perm.of_eq (List.append_assoc _ _ _).symm)) (fun u18 H locs hp18 hP hD hS => ?_)
        have hP : va_P G.1 vwCl (bow bo (wd 0) ++ (wyw G wd (wtN (r 0) (r 1) (r 2) (nd (2 ^ (a 3) - 1) (a 9)) (a 3) (a 0) (nof (r 0) (r 1) (a 1) t (a 3))) (nd (2 ^ (a 3) - 1) (a 9)) ++ (tkw G ad a r))) H := wp_pm ((((List.Perm.append_left _ (List.perm_append_comm)).trans (pm_sw _ _ _)).trans ((List.Perm.append_left _ (List.perm_append_comm)).trans (pm_sw _ _ _))).trans (List.Perm.of_eq (List.append_assoc _ _ _).symm)).symm hP
        have hD : va_D A (bow bo (wd 0) ++ (wyw G wd (wtN (r 0) (r 1) (r 2) (nd (2 ^ (a 3) - 1) (a 9)) (a 3) (a 0) (nof (r 0) (r 1) (a 1) t (a 3))) (nd (2 ^ (a 3) - 1) (a 9)) ++ (tkw G ad a r))) := wd_pm ((((List.Perm.append_left _ (List.perm_append_comm)).trans (pm_sw _ _ _)).trans ((List.Perm.append_left _ (List.perm_append_comm)).trans (pm_sw _ _ _))).trans (List.Perm.of_eq (List.append_assoc _ _ _).symm)).symm hD
        refine lv_aload_n hx hb dX0_anew_21 rfl (lv_at hl 0 rfl) ?_
        refine lv_aload_n hx hb dX0_anew_22 rfl (lv_at hl 1 rfl) ?_
        refine lv_aload_n hx hb dX0_anew_23 rfl (lv_at hl 1 rfl) ?_
        refine va_get (D := G.1) (ci := 3) (v := .int (nI (a 7))) (C := RX4) (T := TX4) (N := 12) hx hb hts inA4 hown hX.1 hP 3 rfl rfl 7 (by decide) (hts _ kw_93) (fun _ h9 => h9) rfl dX0_anew_24 ?_
        refine lv_aload_n hx hb dX0_anew_27 rfl (lv_at hl 1 rfl) ?_
        refine lv_iload_n hx hb dX0_anew_28 rfl (lv_at hl 2 rfl) ?_
        refine ca_Vi (ci := 3) (q := (RX4, TX4, 12)) (rest := [.int (nI (a 7)), .ref (ad 0), .ref bo]) (wr := bow bo (wd 0) ++ (wyw G wd (wtN (r 0) (r 1) (r 2) (nd (2 ^ (a 3) - 1) (a 9)) (a 3) (a 0) (nof (r 0) (r 1) (a 1) t (a 3))) (nd (2 ^ (a 3) - 1) (a 9)))) F hX (mX4_nodesOf l G ad a r t hT (by omega)) (cA_V hts kw_413 kw_3 kw_472 kw_411 kw_412 hdX4_nodesOf ⟨Nat.le_of_ble_eq_true rfl, Nat.le_of_ble_eq_true rfl⟩) rfl rfl rfl hl.1 rfl (Nat.le_of_ble_eq_true rfl) dX0_anew_29 ⟨Nat.le_of_ble_eq_true rfl, Nat.le_of_ble_eq_true rfl⟩ hP hD hS hA ((List.Perm.append_left _ (List.perm_append_comm)).trans (pm_sw _ _ _)) (fun r29 u29 H locs hp29 hP hD hS => ?_)
        have hP : va_P G.1 vwCl (bow bo (wd 0) ++ (wyw G wd (wtN (r 0) (r 1) (r 2) (nd (2 ^ (a 3) - 1) (a 9)) (a 3) (a 0) (nof (r 0) (r 1) (a 1) t (a 3))) (nd (2 ^ (a 3) - 1) (a 9)) ++ (tkw G ad a r))) H := wp_pm ((List.Perm.append_left _ (List.perm_append_comm)).trans (pm_sw _ _ _)).symm hP
        have hD : va_D A (bow bo (wd 0) ++ (wyw G wd (wtN (r 0) (r 1) (r 2) (nd (2 ^ (a 3) - 1) (a 9)) (a 3) (a 0) (nof (r 0) (r 1) (a 1) t (a 3))) (nd (2 ^ (a 3) - 1) (a 9)) ++ (tkw G ad a r))) := wd_pm ((List.Perm.append_left _ (List.perm_append_comm)).trans (pm_sw _ _ _)).symm hD
        subst hp29
        refine lv_iconst (v := (-1)) hx hb dX0_anew_32 (by decide) ?_
        refine lv_ixor hx hb dX0_anew_33 ?_
        refine lv_iand hx hb dX0_anew_34 (ti (y := (nI (nd (a 7) (nof (r 0) (r 1) (a 1) t (a 3))))) (qn_andn _ _) ?_)
        refine ca_Vi (ci := 0) (q := (RX0, TX0, 1)) (rest := []) (wr := ([] : va_W)) F hX (mX0_nearest l G bo wd (wtN (r 0) (r 1) (r 2) (nd (2 ^ (a 3) - 1) (a 9)) (a 3) (a 0) (nof (r 0) (r 1) (a 1) t (a 3))) (nd (2 ^ (a 3) - 1) (a 9)) ad a r (nd (a 7) (nof (r 0) (r 1) (a 1) t (a 3))) (wtA_le a r t) hT (by have := nd_le (a 7) (nof (r 0) (r 1) (a 1) t (a 3)); omega)) (cA_V hts kw_476 kw_5 kw_473 kw_475 kp_15 hdX0_nearest ⟨Nat.le_of_ble_eq_true rfl, Nat.le_of_ble_eq_true rfl⟩) rfl rfl rfl hl.1 rfl (Nat.le_of_ble_eq_true rfl) dX0_anew_35 ⟨Nat.le_of_ble_eq_true rfl, Nat.le_of_ble_eq_true rfl⟩ hP hD hS hA (pm_nil _) (fun r35 u35 H locs hp35 hP hD hS => ?_)
        have hP : va_P G.1 vwCl (bow bo (wd 0) ++ (wyw G wd (wtN (r 0) (r 1) (r 2) (nd (2 ^ (a 3) - 1) (a 9)) (a 3) (a 0) (nof (r 0) (r 1) (a 1) t (a 3))) (nd (2 ^ (a 3) - 1) (a 9)) ++ (tkw G ad a r))) H := wp_pm (pm_nil _).symm hP
        have hD : va_D A (bow bo (wd 0) ++ (wyw G wd (wtN (r 0) (r 1) (r 2) (nd (2 ^ (a 3) - 1) (a 9)) (a 3) (a 0) (nof (r 0) (r 1) (a 1) t (a 3))) (nd (2 ^ (a 3) - 1) (a 9)) ++ (tkw G ad a r))) := wd_pm (pm_nil _).symm hD
        subst hp35
        rcases hj : nrS (wtN (r 0) (r 1) (r 2) (nd (2 ^ (a 3) - 1) (a 9)) (a 3) (a 0) (nof (r 0) (r 1) (a 1) t (a 3))) (nd (a 7) (nof (r 0) (r 1) (a 1) t (a 3))) (a 0) with _ | j
        · refine ti (y := -9) rfl ?_
          refine lv_istore (lv' := [(4, .int (-9)), (0, .ref bo), (1, .ref (ad 0)), (2, .int (nI t)), (3, .int (nI q))]) hx hb dX0_anew_38 hl (by decide) rfl (fun ls hl => ?_)
          refine lv_iload hx hb dX0_anew_40 (lv_at hl 0 rfl) ?_
          refine lv_if_ge (x := (-9)) (tgt := 48) hx hb dX0_anew_42 (by decide) (fun c42 => ?_) (fun c42 => ?_)
          · exact absurd c42 (by decide)
          · refine lv_goto (tgt := 67) hx hb dX0_anew_45 (by decide) ?_
            refine lv_iload_n hx hb dX0_anew_67 rfl (lv_at hl 3 rfl) ?_
            exact re_i (v := (nI t)) hx hb hr hlocks hS (wtN (r 0) (r 1) (r 2) (nd (2 ^ (a 3) - 1) (a 9)) (a 3) (a 0) (nof (r 0) (r 1) (a 1) t (a 3)), nd (2 ^ (a 3) - 1) (a 9)) hP hD (by first | (have e9 : a 0 - q = 0 := (by omega); rw [e9] at hres; rw [← hres]; rfl) | (have e9 : a 0 - q = (a 0 - q - 1) + 1 := (by omega); have hj2 : nrS (wtA a r t) (nd (a 7) (noA a r t)) (a 0) = none := hj; rw [e9, anw, hj2] at hres; rw [← hres])) dX0_anew_68
        · refine ti (y := nI j) rfl ?_
          have hlj := nrS_lt hj
          refine lv_istore (lv' := [(4, .int (nI j)), (0, .ref bo), (1, .ref (ad 0)), (2, .int (nI t)), (3, .int (nI q))]) hx hb dX0_anew_38 hl (by decide) rfl (fun ls hl => ?_)
          refine lv_iload hx hb dX0_anew_40 (lv_at hl 0 rfl) ?_
          refine nv_zge (x := j) (tgt := 48) hx hb dX0_anew_42 (by decide) (by omega) ?_
          refine lv_iload_n hx hb dX0_anew_48 rfl (lv_at hl 3 rfl) ?_
          refine lv_aload_n hx hb dX0_anew_49 rfl (lv_at hl 1 rfl) ?_
          refine va_get (D := G.1) (ci := 0) (v := .ref (wd 0)) (C := RX0) (T := TX0) (N := 1) hx hb hts inA0 hown hX.1 hP 0 rfl rfl 0 (by decide) (hts _ kw_171) (fun _ h9 => h9) rfl dX0_anew_50 ?_
          refine lv_aload_n hx hb dX0_anew_53 rfl (lv_at hl 2 rfl) ?_
          refine lv_iload hx hb dX0_anew_54 (lv_at hl 0 rfl) ?_
          refine ca_Vi (ci := 5) (q := (RX6, TX6, 2)) (rest := [.int (nI t)]) (wr := bow bo (wd 0)) F hX (mX6_linksFrom l G wd (wtN (r 0) (r 1) (r 2) (nd (2 ^ (a 3) - 1) (a 9)) (a 3) (a 0) (nof (r 0) (r 1) (a 1) t (a 3))) (nd (2 ^ (a 3) - 1) (a 9)) ad a r j (wtA_le a r t) (up_lt hT) hT (by omega)) (cA_V hts kw_443 kw_6 kw_440 kw_441 kw_442 hdX6_linksFrom ⟨Nat.le_of_ble_eq_true rfl, Nat.le_of_ble_eq_true rfl⟩) rfl rfl rfl hl.1 rfl (Nat.le_of_ble_eq_true rfl) dX0_anew_56 ⟨Nat.le_of_ble_eq_true rfl, Nat.le_of_ble_eq_true rfl⟩ hP hD hS hA ((((List.Perm.append_left _ (List.perm_append_comm)).trans (pm_sw _ _ _)).trans ((List.Perm.append_left _ (List.perm_append_comm)).trans (pm_sw _ _ _))).trans (List.Perm.of_eq (List.append_assoc _ _ _).symm)) (fun r56 u56 H locs hp56 hP hD hS => ?_)
          have hP : va_P G.1 vwCl (bow bo (wd 0) ++ (wyw G wd (wtN (r 0) (r 1) (r 2) (nd (2 ^ (a 3) - 1) (a 9)) (a 3) (a 0) (nof (r 0) (r 1) (a 1) t (a 3))) (nd (2 ^ (a 3) - 1) (a 9)) ++ (tkw G ad a r))) H := wp_pm ((((List.Perm.append_left _ (List.perm_append_comm)).trans (pm_sw _ _ _)).trans ((List.Perm.append_left _ (List.perm_append_comm)).trans (pm_sw _ _ _))).trans (List.Perm.of_eq (List.append_assoc _ _ _).symm)).symm hP
          have hD : va_D A (bow bo (wd 0) ++ (wyw G wd (wtN (r 0) (r 1) (r 2) (nd (2 ^ (a 3) - 1) (a 9)) (a 3) (a 0) (nof (r 0) (r 1) (a 1) t (a 3))) (nd (2 ^ (a 3) - 1) (a 9)) ++ (tkw G ad a r))) := wd_pm ((((List.Perm.append_left _ (List.perm_append_comm)).trans (pm_sw _ _ _)).trans ((List.Perm.append_left _ (List.perm_append_comm)).trans (pm_sw _ _ _))).trans (List.Perm.of_eq (List.append_assoc _ _ _).symm)).symm hD
          subst hp56
          refine lv_ior hx hb dX0_anew_59 (ti (y := (nI (t ||| (lfr (r 0) (r 1) (r 2) (wtN (r 0) (r 1) (r 2) (nd (2 ^ (a 3) - 1) (a 9)) (a 3) (a 0) (nof (r 0) (r 1) (a 1) t (a 3))) (nd (2 ^ (a 3) - 1) (a 9)) (a 3) 7 j 0)))) (qn_or _ _) ?_)
          refine lv_istore_n (lv' := [(2, .int (nI (t ||| (lfr (r 0) (r 1) (r 2) (wtN (r 0) (r 1) (r 2) (nd (2 ^ (a 3) - 1) (a 9)) (a 3) (a 0) (nof (r 0) (r 1) (a 1) t (a 3))) (nd (2 ^ (a 3) - 1) (a 9)) (a 3) 7 j 0)))), (4, .int (nI j)), (0, .ref bo), (1, .ref (ad 0)), (3, .int (nI q))]) hx hb dX0_anew_60 rfl hl (by decide) rfl (fun ls hl => ?_)
          refine lv_iinc (v := (nI (q + 1))) (lv' := [(3, .int (nI (q + 1))), (2, .int (nI (t ||| (lfr (r 0) (r 1) (r 2) (wtN (r 0) (r 1) (r 2) (nd (2 ^ (a 3) - 1) (a 9)) (a 3) (a 0) (nof (r 0) (r 1) (a 1) t (a 3))) (nd (2 ^ (a 3) - 1) (a 9)) (a 3) 7 j 0)))), (4, .int (nI j)), (0, .ref bo), (1, .ref (ad 0))]) hx hb dX0_anew_61 hl (k := 4) rfl (qn_inc _) (by decide) rfl (fun ls hl => ?_)
          refine lv_goto (tgt := 4) hx hb dX0_anew_64 (by decide) ?_
          exact ih4 (q + 1) (t ||| (lfr (r 0) (r 1) (r 2) (wtN (r 0) (r 1) (r 2) (nd (2 ^ (a 3) - 1) (a 9)) (a 3) (a 0) (nof (r 0) (r 1) (a 1) t (a 3))) (nd (2 ^ (a 3) - 1) (a 9)) (a 3) 7 j 0)) (wtN (r 0) (r 1) (r 2) (nd (2 ^ (a 3) - 1) (a 9)) (a 3) (a 0) (nof (r 0) (r 1) (a 1) t (a 3))) (nd (2 ^ (a 3) - 1) (a 9)) (by omega) (by omega) (or_lt (n := 12) ht (wyA_lt hT t j)) (by have e9 : a 0 - q = (a 0 - (q + 1)) + 1 := (by omega); have hj2 : nrS (wtA a r t) (nd (a 7) (noA a r t)) (a 0) = some j := hj; rw [e9, anw, hj2] at hres; exact hres) _ _ hP hD hS ls (lv_sub hl [3, 4, 1, 0] rfl)
  exact lp4 _ 0 0 w us (Nat.lt_succ_self _) (Nat.zero_le _) (by decide) rfl _ _ hP hD hS ls (lv_sub hl [2, 3, 1, 0] rfl)

theorem hdX0_rearrange : hdOK yX0_rearrange 1 := by decide +kernel
set_option maxHeartbeats 4000000 in
set_option maxRecDepth 100000 in
theorem mX0_rearrange (l : Launch) (G : GG) (bo : Nat) (wd : Nat → Nat) (w : Nat → Nat) (us : Nat) (ad : Nat → Nat) (a : Nat → Nat) (r : Nat → Nat → Nat) (hT : TB a r) : Mv l yX0_rearrange cX0_rearrange 3 none (rmN 5 115) G [.ref bo, .ref (ad 0)] (bow bo (wd 0) ++ (wyw G wd w us ++ (tkw G ad a r))) (fun (_ : (Nat → Nat) × Nat) => True) (fun (u : (Nat → Nat) × Nat) => bow bo (wd 0) ++ (wyw G wd u.1 u.2 ++ (tkw G ad (rrA a r) r))) := by
  refine Mv.of (cc := cX0_rearrange) (nL := 3) (by decide) (Nat.le_of_ble_eq_true rfl) ?_
  intro p e s m below meth c A ls F hr hlocks hnm hX hA hD hP hS hl
  have F : CallFix p m c cX0_rearrange 3 s [.ref bo, .ref (ad 0)].toArray wA RX0 := F
  obtain ⟨hx, hb, hml, hown, hts⟩ := id F
  have hl : lv_has ls 3 [(0, .ref bo), (1, .ref (ad 0))] := hl
  obtain ⟨t0, t1, t2, t3, t4, t5, t6, t7, t8, t9, t10, t11, t12⟩ := id hT
  refine lv_aload_n hx hb dX0_rearrange_0 rfl (lv_at hl 0 rfl) ?_
  refine lv_aload_n hx hb dX0_rearrange_1 rfl (lv_at hl 1 rfl) ?_
  refine ca_Vi (ci := 0) (q := (RX0, TX0, 1)) (rest := []) (wr := ([] : va_W)) F hX (mX0_anew l G bo wd w us ad a r  hT) (cA_V hts kw_471 kw_5 kw_468 kw_469 kw_470 hdX0_anew ⟨Nat.le_of_ble_eq_true rfl, Nat.le_of_ble_eq_true rfl⟩) rfl rfl rfl hl.1 rfl (Nat.le_of_ble_eq_true rfl) dX0_rearrange_2 ⟨Nat.le_of_ble_eq_true rfl, Nat.le_of_ble_eq_true rfl⟩ hP hD hS hA (pm_nil _) (fun r2 u2 H locs hp2 hP hD hS => ?_)
  have hP : va_P G.1 vwCl (bow bo (wd 0) ++ (wyw G wd u2.1 u2.2 ++ (tkw G ad a r))) H := wp_pm (pm_nil _).symm hP
  have hD : va_D A (bow bo (wd 0) ++ (wyw G wd u2.1 u2.2 ++ (tkw G ad a r))) := wd_pm (pm_nil _).symm hD
  subst hp2
  refine lv_istore_n (lv' := [(2, .int (nI (anA a r))), (0, .ref bo), (1, .ref (ad 0))]) hx hb dX0_rearrange_5 rfl hl (by decide) rfl (fun ls hl => ?_)
  refine lv_aload_n hx hb dX0_rearrange_6 rfl (lv_at hl 2 rfl) ?_
  refine lv_iload_n hx hb dX0_rearrange_7 rfl (lv_at hl 0 rfl) ?_
  refine ca_Vi (ci := 3) (q := (RX4, TX4, 12)) (rest := []) (wr := bow bo (wd 0) ++ (wyw G wd u2.1 u2.2)) F hX (mX4_costOf l G ad a r (anA a r) hT (anA_lt hT)) (cA_V hts kw_487 kw_3 kw_484 kw_485 kw_486 hdX4_costOf ⟨Nat.le_of_ble_eq_true rfl, Nat.le_of_ble_eq_true rfl⟩) rfl rfl rfl hl.1 rfl (Nat.le_of_ble_eq_true rfl) dX0_rearrange_8 ⟨Nat.le_of_ble_eq_true rfl, Nat.le_of_ble_eq_true rfl⟩ hP hD hS hA ((List.Perm.append_left _ (List.perm_append_comm)).trans (pm_sw _ _ _)) (fun r8 u8 H locs hp8 hP hD hS => ?_)
  have hP : va_P G.1 vwCl (bow bo (wd 0) ++ (wyw G wd u2.1 u2.2 ++ (tkw G ad a r))) H := wp_pm ((List.Perm.append_left _ (List.perm_append_comm)).trans (pm_sw _ _ _)).symm hP
  have hD : va_D A (bow bo (wd 0) ++ (wyw G wd u2.1 u2.2 ++ (tkw G ad a r))) := wd_pm ((List.Perm.append_left _ (List.perm_append_comm)).trans (pm_sw _ _ _)).symm hD
  subst hp8
  refine lv_aload_n hx hb dX0_rearrange_11 rfl (lv_at hl 2 rfl) ?_
  refine lv_aload_n hx hb dX0_rearrange_12 rfl (lv_at hl 2 rfl) ?_
  refine va_get (D := G.1) (ci := 3) (v := .int (nI (a 8))) (C := RX4) (T := TX4) (N := 12) hx hb hts inA4 hown hX.1 hP 3 rfl rfl 8 (by decide) (hts _ kw_96) (fun _ h9 => h9) rfl dX0_rearrange_13 ?_
  refine ca_Vi (ci := 3) (q := (RX4, TX4, 12)) (rest := [.int (nI (cst (r 2) (anA a r) (a 3)))]) (wr := bow bo (wd 0) ++ (wyw G wd u2.1 u2.2)) F hX (mX4_costOf l G ad a r (a 8) hT (by omega)) (cA_V hts kw_487 kw_3 kw_484 kw_485 kw_486 hdX4_costOf ⟨Nat.le_of_ble_eq_true rfl, Nat.le_of_ble_eq_true rfl⟩) rfl rfl rfl hl.1 rfl (Nat.le_of_ble_eq_true rfl) dX0_rearrange_16 ⟨Nat.le_of_ble_eq_true rfl, Nat.le_of_ble_eq_true rfl⟩ hP hD hS hA ((List.Perm.append_left _ (List.perm_append_comm)).trans (pm_sw _ _ _)) (fun r16 u16 H locs hp16 hP hD hS => ?_)
  have hP : va_P G.1 vwCl (bow bo (wd 0) ++ (wyw G wd u2.1 u2.2 ++ (tkw G ad a r))) H := wp_pm ((List.Perm.append_left _ (List.perm_append_comm)).trans (pm_sw _ _ _)).symm hP
  have hD : va_D A (bow bo (wd 0) ++ (wyw G wd u2.1 u2.2 ++ (tkw G ad a r))) := wd_pm ((List.Perm.append_left _ (List.perm_append_comm)).trans (pm_sw _ _ _)).symm hD
  subst hp16
  refine nv_ge (x := cst (r 2) (anA a r) (a 3)) (y := cst (r 2) (a 8) (a 3)) (tgt := 27) hx hb dX0_rearrange_19 (by decide) (by have : cst (r 2) (anA a r) (a 3) ≤ 108 := coA_le hT _; omega) (by have : cst (r 2) (a 8) (a 3) ≤ 108 := coA_le hT _; omega) (fun c19 => ?_) (fun c19 => ?_)
  · refine lv_aload_n hx hb dX0_rearrange_27 rfl (lv_at hl 2 rfl) ?_
    refine lv_iconst (v := (nI 0)) hx hb dX0_rearrange_28 (by decide) ?_
    refine va_put (D := G.1) (ci := 3) (v := .int (nI 0)) (ty := .int) (C := RX4) (T := TX4) (N := 12) hx hb hts inA4 tyX4 tyX4_ok nmX4 hown hX.1 hP hD hS 3 rfl rfl 10 (by decide) (hts _ kw_104) (fun _ h9 => h9) rfl (by decide +kernel) rfl rfl (Nat.le_of_ble_eq_true rfl) dX0_rearrange_29 (fun H locs hP hD hS => ?_)
    have hP : va_P G.1 vwCl (bow bo (wd 0) ++ (wyw G wd u2.1 u2.2 ++ (tkw G ad (va_up a 10 0) r))) H := hP
    have hD : va_D A (bow bo (wd 0) ++ (wyw G wd u2.1 u2.2 ++ (tkw G ad (va_up a 10 0) r))) := hD
    have e9 : rrA a r = va_up (va_up a 8 (a 8)) 10 0 := by unfold rrA reT; rw [if_neg (show ¬ coA a r (anA a r) < coA a r (a 8) from Nat.not_lt.mpr c19)]
    have hP : va_P G.1 vwCl (bow bo (wd 0) ++ (wyw G wd u2.1 u2.2 ++ (tkw G ad (rrA a r) r))) H := by rw [e9]; exact hP
    have hD : va_D A (bow bo (wd 0) ++ (wyw G wd u2.1 u2.2 ++ (tkw G ad (rrA a r) r))) := by rw [e9]; exact hD
    exact re_v hx hb hr hlocks hS (u2.1, u2.2) hP hD trivial dX0_rearrange_32
  · refine lv_aload_n hx hb dX0_rearrange_22 rfl (lv_at hl 2 rfl) ?_
    refine lv_iload_n hx hb dX0_rearrange_23 rfl (lv_at hl 0 rfl) ?_
    refine va_put (D := G.1) (ci := 3) (v := .int (nI (anA a r))) (ty := .int) (C := RX4) (T := TX4) (N := 12) hx hb hts inA4 tyX4 tyX4_ok nmX4 hown hX.1 hP hD hS 3 rfl rfl 8 (by decide) (hts _ kw_96) (fun _ h9 => h9) rfl (by decide +kernel) rfl rfl (Nat.le_of_ble_eq_true rfl) dX0_rearrange_24 (fun H locs hP hD hS => ?_)
    have hP : va_P G.1 vwCl (bow bo (wd 0) ++ (wyw G wd u2.1 u2.2 ++ (tkw G ad (va_up a 8 (anA a r)) r))) H := hP
    have hD : va_D A (bow bo (wd 0) ++ (wyw G wd u2.1 u2.2 ++ (tkw G ad (va_up a 8 (anA a r)) r))) := hD
    refine lv_aload_n hx hb dX0_rearrange_27 rfl (lv_at hl 2 rfl) ?_
    refine lv_iconst (v := (nI 0)) hx hb dX0_rearrange_28 (by decide) ?_
    refine va_put (D := G.1) (ci := 3) (v := .int (nI 0)) (ty := .int) (C := RX4) (T := TX4) (N := 12) hx hb hts inA4 tyX4 tyX4_ok nmX4 hown hX.1 hP hD hS 3 rfl rfl 10 (by decide) (hts _ kw_104) (fun _ h9 => h9) rfl (by decide +kernel) rfl rfl (Nat.le_of_ble_eq_true rfl) dX0_rearrange_29 (fun H locs hP hD hS => ?_)
    have hP : va_P G.1 vwCl (bow bo (wd 0) ++ (wyw G wd u2.1 u2.2 ++ (tkw G ad (va_up (va_up a 8 (anA a r)) 10 0) r))) H := hP
    have hD : va_D A (bow bo (wd 0) ++ (wyw G wd u2.1 u2.2 ++ (tkw G ad (va_up (va_up a 8 (anA a r)) 10 0) r))) := hD
    have e9 : rrA a r = va_up (va_up a 8 (anA a r)) 10 0 := by unfold rrA reT; rw [if_pos (show coA a r (anA a r) < coA a r (a 8) from c19)]
    have hP : va_P G.1 vwCl (bow bo (wd 0) ++ (wyw G wd u2.1 u2.2 ++ (tkw G ad (rrA a r) r))) H := by rw [e9]; exact hP
    have hD : va_D A (bow bo (wd 0) ++ (wyw G wd u2.1 u2.2 ++ (tkw G ad (rrA a r) r))) := by rw [e9]; exact hD
    exact re_v hx hb hr hlocks hS (u2.1, u2.2) hP hD trivial dX0_rearrange_32

theorem hdX0_mark : hdOK yX0_mark 2 := by decide +kernel
set_option maxHeartbeats 4000000 in
set_option maxRecDepth 100000 in
theorem mX0_mark (l : Launch) (G : GG) (bo : Nat) (wd : Nat → Nat) (w : Nat → Nat) (us : Nat) (ad : Nat → Nat) (a : Nat → Nat) (r : Nat → Nat → Nat) (v : Nat) (hT : TB a r) (hv : v < 7) (hc : mkF (r 3) v (a 10) = none → a 10 < 7) : Mv l yX0_mark cX0_mark 3 none (rmN 6 137) G [.ref bo, .ref (ad 0), .int (nI v)] (bow bo (wd 0) ++ (wyw G wd w us ++ (tkw G ad a r))) (fun (_ : (Nat → Nat) × Nat) => True) (fun (u : (Nat → Nat) × Nat) => bow bo (wd 0) ++ (wyw G wd u.1 u.2 ++ (tkw G ad ((mkP a r v).1) ((mkP a r v).2)))) := by
  refine Mv.of (cc := cX0_mark) (nL := 3) (by decide) (Nat.le_of_ble_eq_true rfl) ?_
  intro p e s m below meth c A ls F hr hlocks hnm hX hA hD hP hS hl
  have F : CallFix p m c cX0_mark 3 s [.ref bo, .ref (ad 0), .int (nI v)].toArray wA RX0 := F
  obtain ⟨hx, hb, hml, hown, hts⟩ := id F
  have hl : lv_has ls 3 [(0, .ref bo), (1, .ref (ad 0)), (2, .int (nI v))] := hl
  have hT2 := hT.tm hv hc
  obtain ⟨t0, t1, t2, t3, t4, t5, t6, t7, t8, t9, t10, t11, t12⟩ := id hT2
  refine lv_aload_n hx hb dX0_mark_0 rfl (lv_at hl 1 rfl) ?_
  refine lv_iload_n hx hb dX0_mark_1 rfl (lv_at hl 2 rfl) ?_
  refine ca_Vv (ci := 3) (q := (RX4, TX4, 12)) (rest := []) (wr := bow bo (wd 0) ++ (wyw G wd w us)) F hX (mX4_turnMark l G ad a r v hT (by omega) hc) (cA_V hts kw_459 kw_3 kw_456 kw_457 kw_458 hdX4_turnMark ⟨Nat.le_of_ble_eq_true rfl, Nat.le_of_ble_eq_true rfl⟩) rfl rfl rfl hl.1 rfl (Nat.le_of_ble_eq_true rfl) dX0_mark_2 ⟨Nat.le_of_ble_eq_true rfl, Nat.le_of_ble_eq_true rfl⟩ hP hD hS hA ((List.Perm.append_left _ (List.perm_append_comm)).trans (pm_sw _ _ _)) (fun u2 H locs hp2 hP hD hS => ?_)
  have hP : va_P G.1 vwCl (bow bo (wd 0) ++ (wyw G wd w us ++ (tkw G ad ((tmP a r v).1) ((tmP a r v).2)))) H := wp_pm ((List.Perm.append_left _ (List.perm_append_comm)).trans (pm_sw _ _ _)).symm hP
  have hD : va_D A (bow bo (wd 0) ++ (wyw G wd w us ++ (tkw G ad ((tmP a r v).1) ((tmP a r v).2)))) := wd_pm ((List.Perm.append_left _ (List.perm_append_comm)).trans (pm_sw _ _ _)).symm hD
  refine lv_aload_n hx hb dX0_mark_5 rfl (lv_at hl 1 rfl) ?_
  refine va_get (D := G.1) (ci := 3) (v := .int (nI (((tmP a r v).1) 2))) (C := RX4) (T := TX4) (N := 12) hx hb hts inA4 hown hX.1 hP 3 rfl rfl 2 (by decide) (hts _ kw_73) (fun _ h9 => h9) rfl dX0_mark_6 ?_
  refine nv_zeq (x := ((tmP a r v).1) 2) (tgt := 28) hx hb dX0_mark_9 (by decide) (by omega) (fun c9 => ?_) (fun c9 => ?_)
  · have e9 : mkP a r v = ((tmP a r v).1, (tmP a r v).2) := by unfold mkP; rw [if_neg (fun h => h.1 c9)]
    have hP : va_P G.1 vwCl (bow bo (wd 0) ++ (wyw G wd w us ++ (tkw G ad ((mkP a r v).1) ((mkP a r v).2)))) H := by rw [e9]; exact hP
    have hD : va_D A (bow bo (wd 0) ++ (wyw G wd w us ++ (tkw G ad ((mkP a r v).1) ((mkP a r v).2)))) := by rw [e9]; exact hD
    exact re_v hx hb hr hlocks hS (w, us) hP hD trivial dX0_mark_28
  · refine lv_aload_n hx hb dX0_mark_12 rfl (lv_at hl 1 rfl) ?_
    refine va_get (D := G.1) (ci := 3) (v := .int (nI (((tmP a r v).1) 10))) (C := RX4) (T := TX4) (N := 12) hx hb hts inA4 hown hX.1 hP 3 rfl rfl 10 (by decide) (hts _ kw_104) (fun _ h9 => h9) rfl dX0_mark_13 ?_
    refine lv_aload_n hx hb dX0_mark_16 rfl (lv_at hl 1 rfl) ?_
    refine va_get (D := G.1) (ci := 3) (v := .int (nI (((tmP a r v).1) 2))) (C := RX4) (T := TX4) (N := 12) hx hb hts inA4 hown hX.1 hP 3 rfl rfl 2 (by decide) (hts _ kw_73) (fun _ h9 => h9) rfl dX0_mark_17 ?_
    refine nv_lt (x := ((tmP a r v).1) 10) (y := ((tmP a r v).1) 2) (tgt := 28) hx hb dX0_mark_20 (by decide) (by omega) (by omega) (fun c20 => ?_) (fun c20 => ?_)
    · have e9 : mkP a r v = ((tmP a r v).1, (tmP a r v).2) := by unfold mkP; rw [if_neg (fun h => absurd h.2 (by omega))]
      have hP : va_P G.1 vwCl (bow bo (wd 0) ++ (wyw G wd w us ++ (tkw G ad ((mkP a r v).1) ((mkP a r v).2)))) H := by rw [e9]; exact hP
      have hD : va_D A (bow bo (wd 0) ++ (wyw G wd w us ++ (tkw G ad ((mkP a r v).1) ((mkP a r v).2)))) := by rw [e9]; exact hD
      exact re_v hx hb hr hlocks hS (w, us) hP hD trivial dX0_mark_28
    · refine lv_aload_n hx hb dX0_mark_23 rfl (lv_at hl 0 rfl) ?_
      refine lv_aload_n hx hb dX0_mark_24 rfl (lv_at hl 1 rfl) ?_
      refine ca_Vv (ci := 0) (q := (RX0, TX0, 1)) (rest := []) (wr := ([] : va_W)) F hX (mX0_rearrange l G bo wd w us ad ((tmP a r v).1) ((tmP a r v).2)  hT2) (cA_V hts kw_467 kw_5 kw_464 kw_465 kw_466 hdX0_rearrange ⟨Nat.le_of_ble_eq_true rfl, Nat.le_of_ble_eq_true rfl⟩) rfl rfl rfl hl.1 rfl (Nat.le_of_ble_eq_true rfl) dX0_mark_25 ⟨Nat.le_of_ble_eq_true rfl, Nat.le_of_ble_eq_true rfl⟩ hP hD hS hA (pm_nil _) (fun u25 H locs hp25 hP hD hS => ?_)
      have hP : va_P G.1 vwCl (bow bo (wd 0) ++ (wyw G wd u25.1 u25.2 ++ (tkw G ad (rrA ((tmP a r v).1) ((tmP a r v).2)) ((tmP a r v).2)))) H := wp_pm (pm_nil _).symm hP
      have hD : va_D A (bow bo (wd 0) ++ (wyw G wd u25.1 u25.2 ++ (tkw G ad (rrA ((tmP a r v).1) ((tmP a r v).2)) ((tmP a r v).2)))) := wd_pm (pm_nil _).symm hD
      have e9 : mkP a r v = (rrA ((tmP a r v).1) ((tmP a r v).2), (tmP a r v).2) := by unfold mkP; rw [if_pos ⟨c9, c20⟩]
      have hP : va_P G.1 vwCl (bow bo (wd 0) ++ (wyw G wd u25.1 u25.2 ++ (tkw G ad ((mkP a r v).1) ((mkP a r v).2)))) H := by rw [e9]; exact hP
      have hD : va_D A (bow bo (wd 0) ++ (wyw G wd u25.1 u25.2 ++ (tkw G ad ((mkP a r v).1) ((mkP a r v).2)))) := by rw [e9]; exact hD
      exact re_v hx hb hr hlocks hS (u25.1, u25.2) hP hD trivial dX0_mark_28

theorem hdX0_keepHanging : hdOK yX0_keepHanging 2 := by decide +kernel
set_option maxHeartbeats 4000000 in
set_option maxRecDepth 100000 in
theorem mX0_keepHanging (l : Launch) (G : GG) (ad : Nat → Nat) (a : Nat → Nat) (r : Nat → Nat → Nat) (oth : Nat) (hT : TB a r) (hs : oth < 4096) : Mv l yX0_keepHanging cX0_keepHanging 4 none (rmN 2 45) G [.ref (ad 0), .int (nI oth)] (tkw G ad a r) (fun (_ : Unit) => True) (fun (_ : Unit) => tkw G ad (va_up a 8 (khA a r oth)) r) := by
  refine Mv.of (cc := cX0_keepHanging) (nL := 4) (by decide) (Nat.le_of_ble_eq_true rfl) ?_
  intro p e s m below meth c A ls F hr hlocks hnm hX hA hD hP hS hl
  have F : CallFix p m c cX0_keepHanging 4 s [.ref (ad 0), .int (nI oth)].toArray wA RX0 := F
  obtain ⟨hx, hb, hml, hown, hts⟩ := id F
  have hl : lv_has ls 4 [(0, .ref (ad 0)), (1, .int (nI oth))] := hl
  obtain ⟨t0, t1, t2, t3, t4, t5, t6, t7, t8, t9, t10, t11, t12⟩ := id hT
  have hz : hgn (r 0) (r 1) oth (a 3) (a 0 - 1) (2 ^ a 1) < 128 := hgn_lt t5 t6 (pw_lt (n := 7) (by omega)) _
  refine lv_aload_n hx hb dX0_keepHanging_0 rfl (lv_at hl 0 rfl) ?_
  refine lv_iload_n hx hb dX0_keepHanging_1 rfl (lv_at hl 1 rfl) ?_
  refine ca_Vi (ci := 3) (q := (RX4, TX4, 12)) (rest := []) (wr := ([] : va_W)) F hX (mX4_hangingBy l G ad a r oth hT (by omega)) (cA_V hts kw_533 kw_3 kw_530 kw_531 kw_532 hdX4_hangingBy ⟨Nat.le_of_ble_eq_true rfl, Nat.le_of_ble_eq_true rfl⟩) rfl rfl rfl hl.1 rfl (Nat.le_of_ble_eq_true rfl) dX0_keepHanging_2 ⟨Nat.le_of_ble_eq_true rfl, Nat.le_of_ble_eq_true rfl⟩ hP hD hS hA (pm_nil _) (fun r2 u2 H locs hp2 hP hD hS => ?_)
  have hP : va_P G.1 vwCl (tkw G ad a r) H := wp_pm (pm_nil _).symm hP
  have hD : va_D A (tkw G ad a r) := wd_pm (pm_nil _).symm hD
  subst hp2
  refine lv_istore_n (lv' := [(2, .int (nI (hgn (r 0) (r 1) oth (a 3) ((a 0) - 1) (2 ^ (a 1))))), (0, .ref (ad 0)), (1, .int (nI oth))]) hx hb dX0_keepHanging_5 rfl hl (by decide) rfl (fun ls hl => ?_)
  refine lv_aload_n hx hb dX0_keepHanging_6 rfl (lv_at hl 1 rfl) ?_
  refine lv_iconst (v := (nI 0)) hx hb dX0_keepHanging_7 (by decide) ?_
  refine va_put (D := G.1) (ci := 3) (v := .int (nI 0)) (ty := .int) (C := RX4) (T := TX4) (N := 12) hx hb hts inA4 tyX4 tyX4_ok nmX4 hown hX.1 hP hD hS 0 rfl rfl 8 (by decide) (hts _ kw_96) (fun _ h9 => h9) rfl (by decide +kernel) rfl rfl (Nat.le_of_ble_eq_true rfl) dX0_keepHanging_8 (fun H locs hP hD hS => ?_)
  have hP : va_P G.1 vwCl (tkw G ad (va_up a 8 0) r) H := hP
  have hD : va_D A (tkw G ad (va_up a 8 0) r) := hD
  refine lv_iconst (v := (nI 0)) hx hb dX0_keepHanging_11 (by decide) ?_
  refine lv_istore_n (lv' := [(3, .int (nI 0)), (2, .int (nI (hgn (r 0) (r 1) oth (a 3) ((a 0) - 1) (2 ^ (a 1))))), (0, .ref (ad 0)), (1, .int (nI oth))]) hx hb dX0_keepHanging_12 rfl hl (by decide) rfl (fun ls hl => ?_)
  have lp13 : ∀ (n13 : Nat) (k : Nat) (t : Nat), (a 3 - k) < n13 → t = khN (r 0) (r 1) oth (hgn (r 0) (r 1) oth (a 3) (a 0 - 1) (2 ^ a 1)) k → (k ≤ a 3) → ∀ (H : Heap) (locs : List Loc), va_P G.1 vwCl (tkw G ad (va_up a 8 t) r) H → va_D A (tkw G ad (va_up a 8 t) r) → va_S A s.heap H locs → ∀ (ls : Array Slot), lv_has ls 4 [(0, .ref (ad 0)), (1, .int (nI oth)), (2, .int (nI (hgn (r 0) (r 1) oth (a 3) (a 0 - 1) (2 ^ a 1)))), (3, .int (nI k))] → WV p l e (rmN 2 45) s m [.ref (ad 0), .int (nI oth)] below meth c H locs G A (fun (_ : Unit) => True) (fun (_ : Unit) => tkw G ad (va_up a 8 (khA a r oth)) r) (F0 m 13 ls []) := by
    intro n13
    induction n13 with
    | zero => intro k t h9; exact absurd h9 (Nat.not_lt_zero _)
    | succ n13 ih13 =>
      intro k t hm13 e_t hk H locs hP hD hS ls hl
      subst e_t
      refine lv_iload_n hx hb dX0_keepHanging_13 rfl (lv_at hl 3 rfl) ?_
      refine lv_aload_n hx hb dX0_keepHanging_14 rfl (lv_at hl 0 rfl) ?_
      refine va_get (D := G.1) (ci := 3) (v := .int (nI (a 3))) (C := RX4) (T := TX4) (N := 12) hx hb hts inA4 hown hX.1 hP 0 rfl rfl 3 (by decide) (hts _ kw_80) (fun _ h9 => h9) rfl dX0_keepHanging_15 ?_
      refine nv_ge (x := k) (y := a 3) (tgt := 57) hx hb dX0_keepHanging_18 (by decide) (by omega) (by omega) (fun c18 => ?_) (fun c18 => ?_)
      · have e9 : k = a 3 := (by omega)
        rw [e9] at hP hD
        exact re_v hx hb hr hlocks hS () hP hD trivial dX0_keepHanging_57
      · refine lv_iload_n hx hb dX0_keepHanging_21 rfl (lv_at hl 1 rfl) ?_
        refine lv_iload_n hx hb dX0_keepHanging_22 rfl (lv_at hl 3 rfl) ?_
        refine ca_Ni (rest := []) (wr := tkw G ad (va_up a 8 (khN (r 0) (r 1) oth (hgn (r 0) (r 1) oth (a 3) (a 0 - 1) (2 ^ a 1)) k)) r) F hX (mX7_has l G oth k (by omega) (by omega)) ⟨cA_N hts kw_357 kw_1 hX.2.2.2.2.2.2.2.1 hdX7_has ⟨Nat.le_of_ble_eq_true rfl, Nat.le_of_ble_eq_true rfl⟩, hts _ kw_356, trivial⟩ rfl hl.1 rfl (Nat.le_of_ble_eq_true rfl) dX0_keepHanging_23 ⟨Nat.le_of_ble_eq_true rfl, Nat.le_of_ble_eq_true rfl⟩ hP hD hS hA (List.Perm.refl _) (fun r23 u23 H locs hp23 hP hD hS => ?_)
        have hP : va_P G.1 vwCl (tkw G ad (va_up a 8 (khN (r 0) (r 1) oth (hgn (r 0) (r 1) oth (a 3) (a 0 - 1) (2 ^ a 1)) k)) r) H := hP
        have hD : va_D A (tkw G ad (va_up a 8 (khN (r 0) (r 1) oth (hgn (r 0) (r 1) oth (a 3) (a 0 - 1) (2 ^ a 1)) k)) r) := hD
        subst hp23
        refine bv_eq (b := oth.testBit k) (tgt := 51) hx hb dX0_keepHanging_26 (by decide) (fun c26 => ?_) (fun c26 => ?_)
        · refine lv_iinc (v := (nI (k + 1))) (lv' := [(3, .int (nI (k + 1))), (0, .ref (ad 0)), (1, .int (nI oth)), (2, .int (nI (hgn (r 0) (r 1) oth (a 3) (a 0 - 1) (2 ^ a 1))))]) hx hb dX0_keepHanging_51 hl (k := 3) rfl (qn_inc _) (by decide) rfl (fun ls hl => ?_)
          refine lv_goto (tgt := 13) hx hb dX0_keepHanging_54 (by decide) ?_
          exact ih13 (k + 1) (khN (r 0) (r 1) oth (hgn (r 0) (r 1) oth (a 3) (a 0 - 1) (2 ^ a 1)) k) (by omega) (by first | (rw [khN, if_pos ⟨c26, c36⟩]; done) | (rw [khN, if_neg (fun h => h.2 c36)]; done) | (rw [khN, if_neg (fun h => by rw [c26] at h; exact absurd h.1 (by decide))]; done)) (by omega) _ _ hP hD hS ls (lv_sub hl [1, 2, 3, 0] rfl)
        · refine lv_aload_n hx hb dX0_keepHanging_29 rfl (lv_at hl 0 rfl) ?_
          refine lv_iload_n hx hb dX0_keepHanging_30 rfl (lv_at hl 3 rfl) ?_
          have hT2 := hT.tr (t := khN (r 0) (r 1) oth (hgn (r 0) (r 1) oth (a 3) (a 0 - 1) (2 ^ a 1)) k) (Nat.lt_of_lt_of_le (khN_lt _ _ _ _ _) (pw12 (by omega)))
          refine ca_Vi (ci := 3) (q := (RX4, TX4, 12)) (rest := []) (wr := ([] : va_W)) F hX (mX4_ends l G ad (va_up a 8 (khN (r 0) (r 1) oth (hgn (r 0) (r 1) oth (a 3) (a 0 - 1) (2 ^ a 1)) k)) r k hT2 (by omega)) (cA_V hts kw_354 kw_3 kw_534 kw_352 kw_353 hdX4_ends ⟨Nat.le_of_ble_eq_true rfl, Nat.le_of_ble_eq_true rfl⟩) rfl rfl rfl hl.1 rfl (Nat.le_of_ble_eq_true rfl) dX0_keepHanging_31 ⟨Nat.le_of_ble_eq_true rfl, Nat.le_of_ble_eq_true rfl⟩ hP hD hS hA (pm_nil _) (fun r31 u31 H locs hp31 hP hD hS => ?_)
          have hP : va_P G.1 vwCl (tkw G ad (va_up a 8 (khN (r 0) (r 1) oth (hgn (r 0) (r 1) oth (a 3) (a 0 - 1) (2 ^ a 1)) k)) r) H := wp_pm (pm_nil _).symm hP
          have hD : va_D A (tkw G ad (va_up a 8 (khN (r 0) (r 1) oth (hgn (r 0) (r 1) oth (a 3) (a 0 - 1) (2 ^ a 1)) k)) r) := wd_pm (pm_nil _).symm hD
          subst hp31
          refine lv_iload_n hx hb dX0_keepHanging_34 rfl (lv_at hl 2 rfl) ?_
          refine lv_iand hx hb dX0_keepHanging_35 (ti (y := (nI ((edg (r 0) (r 1) k) &&& (hgn (r 0) (r 1) oth (a 3) (a 0 - 1) (2 ^ a 1))))) (qn_and _ _) ?_)
          refine nv_zeq (x := (edg (r 0) (r 1) k) &&& (hgn (r 0) (r 1) oth (a 3) (a 0 - 1) (2 ^ a 1))) (tgt := 51) hx hb dX0_keepHanging_36 (by decide) (by have := Nat.and_le_right (n := edg (r 0) (r 1) k) (m := hgn (r 0) (r 1) oth (a 3) (a 0 - 1) (2 ^ a 1)); omega) (fun c36 => ?_) (fun c36 => ?_)
          · refine lv_iinc (v := (nI (k + 1))) (lv' := [(3, .int (nI (k + 1))), (0, .ref (ad 0)), (1, .int (nI oth)), (2, .int (nI (hgn (r 0) (r 1) oth (a 3) (a 0 - 1) (2 ^ a 1))))]) hx hb dX0_keepHanging_51 hl (k := 3) rfl (qn_inc _) (by decide) rfl (fun ls hl => ?_)
            refine lv_goto (tgt := 13) hx hb dX0_keepHanging_54 (by decide) ?_
            exact ih13 (k + 1) (khN (r 0) (r 1) oth (hgn (r 0) (r 1) oth (a 3) (a 0 - 1) (2 ^ a 1)) k) (by omega) (by first | (rw [khN, if_pos ⟨c26, c36⟩]; done) | (rw [khN, if_neg (fun h => h.2 c36)]; done) | (rw [khN, if_neg (fun h => by rw [c26] at h; exact absurd h.1 (by decide))]; done)) (by omega) _ _ hP hD hS ls (lv_sub hl [1, 2, 3, 0] rfl)
          · refine lv_aload_n hx hb dX0_keepHanging_39 rfl (lv_at hl 0 rfl) ?_
            refine lv_dup hx hb dX0_keepHanging_40 rfl ?_
            refine va_get (D := G.1) (ci := 3) (v := .int (nI (khN (r 0) (r 1) oth (hgn (r 0) (r 1) oth (a 3) (a 0 - 1) (2 ^ a 1)) k))) (C := RX4) (T := TX4) (N := 12) hx hb hts inA4 hown hX.1 hP 0 rfl rfl 8 (by decide) (hts _ kw_96) (fun _ h9 => h9) rfl dX0_keepHanging_41 ?_
            refine lv_iconst (v := (nI 1)) hx hb dX0_keepHanging_44 (by decide) ?_
            refine lv_iload_n hx hb dX0_keepHanging_45 rfl (lv_at hl 3 rfl) ?_
            refine lv_ishl hx hb dX0_keepHanging_46 (ti (y := (nI (2 ^ k))) (qn_sh1 (by omega)) ?_)
            refine lv_ior hx hb dX0_keepHanging_47 (ti (y := (nI ((khN (r 0) (r 1) oth (hgn (r 0) (r 1) oth (a 3) (a 0 - 1) (2 ^ a 1)) k) ||| (2 ^ k)))) (qn_or _ _) ?_)
            refine va_put (D := G.1) (ci := 3) (v := .int (nI ((khN (r 0) (r 1) oth (hgn (r 0) (r 1) oth (a 3) (a 0 - 1) (2 ^ a 1)) k) ||| (2 ^ k)))) (ty := .int) (C := RX4) (T := TX4) (N := 12) hx hb hts inA4 tyX4 tyX4_ok nmX4 hown hX.1 hP hD hS 0 rfl rfl 8 (by decide) (hts _ kw_96) (fun _ h9 => h9) rfl (by decide +kernel) rfl rfl (Nat.le_of_ble_eq_true rfl) dX0_keepHanging_48 (fun H locs hP hD hS => ?_)
            have hP : va_P G.1 vwCl (tkw G ad (va_up a 8 ((khN (r 0) (r 1) oth (hgn (r 0) (r 1) oth (a 3) (a 0 - 1) (2 ^ a 1)) k) ||| (2 ^ k))) r) H := hP
            have hD : va_D A (tkw G ad (va_up a 8 ((khN (r 0) (r 1) oth (hgn (r 0) (r 1) oth (a 3) (a 0 - 1) (2 ^ a 1)) k) ||| (2 ^ k))) r) := hD
            refine lv_iinc (v := (nI (k + 1))) (lv' := [(3, .int (nI (k + 1))), (0, .ref (ad 0)), (1, .int (nI oth)), (2, .int (nI (hgn (r 0) (r 1) oth (a 3) (a 0 - 1) (2 ^ a 1))))]) hx hb dX0_keepHanging_51 hl (k := 3) rfl (qn_inc _) (by decide) rfl (fun ls hl => ?_)
            refine lv_goto (tgt := 13) hx hb dX0_keepHanging_54 (by decide) ?_
            exact ih13 (k + 1) ((khN (r 0) (r 1) oth (hgn (r 0) (r 1) oth (a 3) (a 0 - 1) (2 ^ a 1)) k) ||| (2 ^ k)) (by omega) (by first | (rw [khN, if_pos ⟨c26, c36⟩]; done) | (rw [khN, if_neg (fun h => h.2 c36)]; done) | (rw [khN, if_neg (fun h => by rw [c26] at h; exact absurd h.1 (by decide))]; done)) (by omega) _ _ hP hD hS ls (lv_sub hl [1, 2, 3, 0] rfl)
  exact lp13 _ 0 0 (Nat.lt_succ_self _) rfl (Nat.zero_le _) _ _ hP hD hS ls (lv_sub hl [2, 3, 1, 0] rfl)

theorem hdX0_joinAgain : hdOK yX0_joinAgain 1 := by decide +kernel
set_option maxHeartbeats 4000000 in
set_option maxRecDepth 100000 in
theorem mX0_joinAgain (l : Launch) (G : GG) (bo : Nat) (wd : Nat → Nat) (w : Nat → Nat) (us : Nat) (ad : Nat → Nat) (a : Nat → Nat) (r : Nat → Nat → Nat) (hT : TB a r) : Mv l yX0_joinAgain cX0_joinAgain 3 none (rmN 4 91) G [.ref bo, .ref (ad 0)] (bow bo (wd 0) ++ (wyw G wd w us ++ (tkw G ad a r))) (fun (_ : (Nat → Nat) × Nat) => True) (fun (u : (Nat → Nat) × Nat) => bow bo (wd 0) ++ (wyw G wd u.1 u.2 ++ (tkw G ad (va_up (va_up a 7 ((jaS a r (a 0)).1)) 8 ((jaS a r (a 0)).2)) r))) := by
  refine Mv.of (cc := cX0_joinAgain) (nL := 3) (by decide) (Nat.le_of_ble_eq_true rfl) ?_
  intro p e s m below meth c A ls F hr hlocks hnm hX hA hD hP hS hl
  have F : CallFix p m c cX0_joinAgain 3 s [.ref bo, .ref (ad 0)].toArray wA RX0 := F
  obtain ⟨hx, hb, hml, hown, hts⟩ := id F
  have hl : lv_has ls 3 [(0, .ref bo), (1, .ref (ad 0))] := hl
  obtain ⟨t0, t1, t2, t3, t4, t5, t6, t7, t8, t9, t10, t11, t12⟩ := id hT
  refine lv_iconst (v := (nI 0)) hx hb dX0_joinAgain_0 (by decide) ?_
  refine lv_istore_n (lv' := [(2, .int (nI 0)), (0, .ref bo), (1, .ref (ad 0))]) hx hb dX0_joinAgain_1 rfl hl (by decide) rfl (fun ls hl => ?_)
  have lp2 : ∀ (n2 : Nat) (v : Nat) (mm : Nat) (t : Nat) (y : Nat → Nat) (z : Nat), (a 0 - v) < n2 → mm = (jaS a r v).1 → t = (jaS a r v).2 → (v ≤ a 0) → ∀ (H : Heap) (locs : List Loc), va_P G.1 vwCl (bow bo (wd 0) ++ (wyw G wd y z ++ (tkw G ad (va_up (va_up a 7 mm) 8 t) r))) H → va_D A (bow bo (wd 0) ++ (wyw G wd y z ++ (tkw G ad (va_up (va_up a 7 mm) 8 t) r))) → va_S A s.heap H locs → ∀ (ls : Array Slot), lv_has ls 3 [(0, .ref bo), (1, .ref (ad 0)), (2, .int (nI v))] → WV p l e (rmN 4 91) s m [.ref bo, .ref (ad 0)] below meth c H locs G A (fun (_ : (Nat → Nat) × Nat) => True) (fun (u : (Nat → Nat) × Nat) => bow bo (wd 0) ++ (wyw G wd u.1 u.2 ++ (tkw G ad (va_up (va_up a 7 ((jaS a r (a 0)).1)) 8 ((jaS a r (a 0)).2)) r))) (F0 m 2 ls []) := by
    intro n2
    induction n2 with
    | zero => intro v mm t y z h9; exact absurd h9 (Nat.not_lt_zero _)
    | succ n2 ih2 =>
      intro v mm t y z hm2 e_mm e_t hv H locs hP hD hS ls hl
      subst e_mm
      subst e_t
      refine lv_iload_n hx hb dX0_joinAgain_2 rfl (lv_at hl 2 rfl) ?_
      refine lv_aload_n hx hb dX0_joinAgain_3 rfl (lv_at hl 1 rfl) ?_
      refine va_get (D := G.1) (ci := 3) (v := .int (nI (a 0))) (C := RX4) (T := TX4) (N := 12) hx hb hts inA4 hown hX.1 hP 3 rfl rfl 0 (by decide) (hts _ kw_65) (fun _ h9 => h9) rfl dX0_joinAgain_4 ?_
      refine nv_ge (x := v) (y := a 0) (tgt := 79) hx hb dX0_joinAgain_7 (by decide) (by omega) (by omega) (fun c7 => ?_) (fun c7 => ?_)
      · have e9 : v = a 0 := (by omega)
        rw [e9] at hP hD
        exact re_v hx hb hr hlocks hS (y, z) hP hD trivial dX0_joinAgain_79
      · refine lv_aload_n hx hb dX0_joinAgain_10 rfl (lv_at hl 1 rfl) ?_
        refine lv_iload_n hx hb dX0_joinAgain_11 rfl (lv_at hl 2 rfl) ?_
        have hja := jaS_lt hT v
        have hT2 := hT.mt hja.1 hja.2
        refine ca_Vi (ci := 3) (q := (RX4, TX4, 12)) (rest := []) (wr := bow bo (wd 0) ++ (wyw G wd y z)) F hX (mX4_isMember l G ad (va_up (va_up a 7 ((jaS a r v).1)) 8 ((jaS a r v).2)) r v hT2 (by omega)) (cA_V hts kw_397 kw_3 kw_539 kw_395 kw_396 hdX4_isMember ⟨Nat.le_of_ble_eq_true rfl, Nat.le_of_ble_eq_true rfl⟩) rfl rfl rfl hl.1 rfl (Nat.le_of_ble_eq_true rfl) dX0_joinAgain_12 ⟨Nat.le_of_ble_eq_true rfl, Nat.le_of_ble_eq_true rfl⟩ hP hD hS hA ((List.Perm.append_left _ (List.perm_append_comm)).trans (pm_sw _ _ _)) (fun r12 u12 H locs hp12 hP hD hS => ?_)
        have hP : va_P G.1 vwCl (bow bo (wd 0) ++ (wyw G wd y z ++ (tkw G ad (va_up (va_up a 7 ((jaS a r v).1)) 8 ((jaS a r v).2)) r))) H := wp_pm ((List.Perm.append_left _ (List.perm_append_comm)).trans (pm_sw _ _ _)).symm hP
        have hD : va_D A (bow bo (wd 0) ++ (wyw G wd y z ++ (tkw G ad (va_up (va_up a 7 ((jaS a r v).1)) 8 ((jaS a r v).2)) r))) := wd_pm ((List.Perm.append_left _ (List.perm_append_comm)).trans (pm_sw _ _ _)).symm hD
        subst hp12
        refine bv_eq (b := ((jaS a r v).1).testBit v) (tgt := 73) hx hb dX0_joinAgain_15 (by decide) (fun c15 => ?_) (fun c15 => ?_)
        · refine lv_iinc (v := (nI (v + 1))) (lv' := [(2, .int (nI (v + 1))), (0, .ref bo), (1, .ref (ad 0))]) hx hb dX0_joinAgain_73 hl (k := 2) rfl (qn_inc _) (by decide) rfl (fun ls hl => ?_)
          refine lv_goto (tgt := 2) hx hb dX0_joinAgain_76 (by decide) ?_
          exact ih2 (v + 1) ((jaS a r v).1) ((jaS a r v).2) y z (by omega) (by rw [jaS, if_neg (by rw [c15]; decide)]) (by rw [jaS, if_neg (by rw [c15]; decide)]) (by omega) _ _ hP hD hS ls (lv_sub hl [1, 2, 0] rfl)
        · refine lv_aload_n hx hb dX0_joinAgain_18 rfl (lv_at hl 0 rfl) ?_
          refine va_get (D := G.1) (ci := 0) (v := .ref (wd 0)) (C := RX0) (T := TX0) (N := 1) hx hb hts inA0 hown hX.1 hP 0 rfl rfl 0 (by decide) (hts _ kw_171) (fun _ h9 => h9) rfl dX0_joinAgain_19 ?_
          refine lv_aload_n hx hb dX0_joinAgain_22 rfl (lv_at hl 1 rfl) ?_
          refine lv_aload_n hx hb dX0_joinAgain_23 rfl (lv_at hl 1 rfl) ?_
          refine va_get (D := G.1) (ci := 3) (v := .int (nI ((jaS a r v).2))) (C := RX4) (T := TX4) (N := 12) hx hb hts inA4 hown hX.1 hP 3 rfl rfl 8 (by decide) (hts _ kw_96) (fun _ h9 => h9) rfl dX0_joinAgain_24 ?_
          refine ca_Vv (ci := 5) (q := (RX6, TX6, 2)) (rest := []) (wr := bow bo (wd 0)) F hX (mX6_find l G wd y z ad (va_up (va_up a 7 ((jaS a r v).1)) 8 ((jaS a r v).2)) r ((jaS a r v).2) hT2 hja.2) (cA_V hts kw_405 kw_6 kw_439 kw_403 kw_404 hdX6_find ⟨Nat.le_of_ble_eq_true rfl, Nat.le_of_ble_eq_true rfl⟩) rfl rfl rfl hl.1 rfl (Nat.le_of_ble_eq_true rfl) dX0_joinAgain_27 ⟨Nat.le_of_ble_eq_true rfl, Nat.le_of_ble_eq_true rfl⟩ hP hD hS hA ((((List.Perm.append_left _ (List.perm_append_comm)).trans (pm_sw _ _ _)).trans ((List.Perm.append_left _ (List.perm_append_comm)).trans (pm_sw _ _ _))).trans (List.Perm.of_eq (List.append_assoc _ _ _).symm)) (fun u27 H locs hp27 hP hD hS => ?_)
          have hP : va_P G.1 vwCl (bow bo (wd 0) ++ (wyw G wd (wtN (r 0) (r 1) (r 2) (nd (2 ^ (a 3) - 1) (a 9)) (a 3) (a 0) (nof (r 0) (r 1) (a 1) ((jaS a r v).2) (a 3))) (nd (2 ^ (a 3) - 1) (a 9)) ++ (tkw G ad (va_up (va_up a 7 ((jaS a r v).1)) 8 ((jaS a r v).2)) r))) H := wp_pm ((((List.Perm.append_left _ (List.perm_append_comm)).trans (pm_sw _ _ _)).trans ((List.Perm.append_left _ (List.perm_append_comm)).trans (pm_sw _ _ _))).trans (List.Perm.of_eq (List.append_assoc _ _ _).symm)).symm hP
          have hD : va_D A (bow bo (wd 0) ++ (wyw G wd (wtN (r 0) (r 1) (r 2) (nd (2 ^ (a 3) - 1) (a 9)) (a 3) (a 0) (nof (r 0) (r 1) (a 1) ((jaS a r v).2) (a 3))) (nd (2 ^ (a 3) - 1) (a 9)) ++ (tkw G ad (va_up (va_up a 7 ((jaS a r v).1)) 8 ((jaS a r v).2)) r))) := wd_pm ((((List.Perm.append_left _ (List.perm_append_comm)).trans (pm_sw _ _ _)).trans ((List.Perm.append_left _ (List.perm_append_comm)).trans (pm_sw _ _ _))).trans (List.Perm.of_eq (List.append_assoc _ _ _).symm)).symm hD
          refine lv_aload_n hx hb dX0_joinAgain_30 rfl (lv_at hl 1 rfl) ?_
          refine lv_dup hx hb dX0_joinAgain_31 rfl ?_
          refine va_get (D := G.1) (ci := 3) (v := .int (nI ((jaS a r v).2))) (C := RX4) (T := TX4) (N := 12) hx hb hts inA4 hown hX.1 hP 3 rfl rfl 8 (by decide) (hts _ kw_96) (fun _ h9 => h9) rfl dX0_joinAgain_32 ?_
          refine lv_aload_n hx hb dX0_joinAgain_35 rfl (lv_at hl 0 rfl) ?_
          refine va_get (D := G.1) (ci := 0) (v := .ref (wd 0)) (C := RX0) (T := TX0) (N := 1) hx hb hts inA0 hown hX.1 hP 0 rfl rfl 0 (by decide) (hts _ kw_171) (fun _ h9 => h9) rfl dX0_joinAgain_36 ?_
          refine lv_aload_n hx hb dX0_joinAgain_39 rfl (lv_at hl 1 rfl) ?_
          refine lv_iload_n hx hb dX0_joinAgain_40 rfl (lv_at hl 2 rfl) ?_
          refine ca_Vi (ci := 5) (q := (RX6, TX6, 2)) (rest := [.int (nI ((jaS a r v).2)), .ref (ad 0)]) (wr := bow bo (wd 0)) F hX (mX6_linksFrom l G wd (wtN (r 0) (r 1) (r 2) (nd (2 ^ (a 3) - 1) (a 9)) (a 3) (a 0) (nof (r 0) (r 1) (a 1) ((jaS a r v).2) (a 3))) (nd (2 ^ (a 3) - 1) (a 9)) ad (va_up (va_up a 7 ((jaS a r v).1)) 8 ((jaS a r v).2)) r v (wtA_le a r _) (up_lt hT) hT2 (by omega)) (cA_V hts kw_443 kw_6 kw_440 kw_441 kw_442 hdX6_linksFrom ⟨Nat.le_of_ble_eq_true rfl, Nat.le_of_ble_eq_true rfl⟩) rfl rfl rfl hl.1 rfl (Nat.le_of_ble_eq_true rfl) dX0_joinAgain_41 ⟨Nat.le_of_ble_eq_true rfl, Nat.le_of_ble_eq_true rfl⟩ hP hD hS hA ((((List.Perm.append_left _ (List.perm_append_comm)).trans (pm_sw _ _ _)).trans ((List.Perm.append_left _ (List.perm_append_comm)).trans (pm_sw _ _ _))).trans (List.Perm.of_eq (List.append_assoc _ _ _).symm)) (fun r41 u41 H locs hp41 hP hD hS => ?_)
          have hP : va_P G.1 vwCl (bow bo (wd 0) ++ (wyw G wd (wtN (r 0) (r 1) (r 2) (nd (2 ^ (a 3) - 1) (a 9)) (a 3) (a 0) (nof (r 0) (r 1) (a 1) ((jaS a r v).2) (a 3))) (nd (2 ^ (a 3) - 1) (a 9)) ++ (tkw G ad (va_up (va_up a 7 ((jaS a r v).1)) 8 ((jaS a r v).2)) r))) H := wp_pm ((((List.Perm.append_left _ (List.perm_append_comm)).trans (pm_sw _ _ _)).trans ((List.Perm.append_left _ (List.perm_append_comm)).trans (pm_sw _ _ _))).trans (List.Perm.of_eq (List.append_assoc _ _ _).symm)).symm hP
          have hD : va_D A (bow bo (wd 0) ++ (wyw G wd (wtN (r 0) (r 1) (r 2) (nd (2 ^ (a 3) - 1) (a 9)) (a 3) (a 0) (nof (r 0) (r 1) (a 1) ((jaS a r v).2) (a 3))) (nd (2 ^ (a 3) - 1) (a 9)) ++ (tkw G ad (va_up (va_up a 7 ((jaS a r v).1)) 8 ((jaS a r v).2)) r))) := wd_pm ((((List.Perm.append_left _ (List.perm_append_comm)).trans (pm_sw _ _ _)).trans ((List.Perm.append_left _ (List.perm_append_comm)).trans (pm_sw _ _ _))).trans (List.Perm.of_eq (List.append_assoc _ _ _).symm)).symm hD
          subst hp41
          refine lv_ior hx hb dX0_joinAgain_44 (ti (y := (nI (((jaS a r v).2) ||| (lfr (r 0) (r 1) (r 2) (wtN (r 0) (r 1) (r 2) (nd (2 ^ (a 3) - 1) (a 9)) (a 3) (a 0) (nof (r 0) (r 1) (a 1) ((jaS a r v).2) (a 3))) (nd (2 ^ (a 3) - 1) (a 9)) (a 3) 7 v 0)))) (qn_or _ _) ?_)
          refine va_put (D := G.1) (ci := 3) (v := .int (nI (((jaS a r v).2) ||| (lfr (r 0) (r 1) (r 2) (wtN (r 0) (r 1) (r 2) (nd (2 ^ (a 3) - 1) (a 9)) (a 3) (a 0) (nof (r 0) (r 1) (a 1) ((jaS a r v).2) (a 3))) (nd (2 ^ (a 3) - 1) (a 9)) (a 3) 7 v 0)))) (ty := .int) (C := RX4) (T := TX4) (N := 12) hx hb hts inA4 tyX4 tyX4_ok nmX4 hown hX.1 hP hD hS 3 rfl rfl 8 (by decide) (hts _ kw_96) (fun _ h9 => h9) rfl (by decide +kernel) rfl rfl (Nat.le_of_ble_eq_true rfl) dX0_joinAgain_45 (fun H locs hP hD hS => ?_)
          have hP : va_P G.1 vwCl (bow bo (wd 0) ++ (wyw G wd (wtN (r 0) (r 1) (r 2) (nd (2 ^ (a 3) - 1) (a 9)) (a 3) (a 0) (nof (r 0) (r 1) (a 1) ((jaS a r v).2) (a 3))) (nd (2 ^ (a 3) - 1) (a 9)) ++ (tkw G ad (va_up (va_up a 7 ((jaS a r v).1)) 8 (((jaS a r v).2) ||| (lfr (r 0) (r 1) (r 2) (wtN (r 0) (r 1) (r 2) (nd (2 ^ (a 3) - 1) (a 9)) (a 3) (a 0) (nof (r 0) (r 1) (a 1) ((jaS a r v).2) (a 3))) (nd (2 ^ (a 3) - 1) (a 9)) (a 3) 7 v 0))) r))) H := hP
          have hD : va_D A (bow bo (wd 0) ++ (wyw G wd (wtN (r 0) (r 1) (r 2) (nd (2 ^ (a 3) - 1) (a 9)) (a 3) (a 0) (nof (r 0) (r 1) (a 1) ((jaS a r v).2) (a 3))) (nd (2 ^ (a 3) - 1) (a 9)) ++ (tkw G ad (va_up (va_up a 7 ((jaS a r v).1)) 8 (((jaS a r v).2) ||| (lfr (r 0) (r 1) (r 2) (wtN (r 0) (r 1) (r 2) (nd (2 ^ (a 3) - 1) (a 9)) (a 3) (a 0) (nof (r 0) (r 1) (a 1) ((jaS a r v).2) (a 3))) (nd (2 ^ (a 3) - 1) (a 9)) (a 3) 7 v 0))) r))) := hD
          refine lv_aload_n hx hb dX0_joinAgain_48 rfl (lv_at hl 0 rfl) ?_
          refine va_get (D := G.1) (ci := 0) (v := .ref (wd 0)) (C := RX0) (T := TX0) (N := 1) hx hb hts inA0 hown hX.1 hP 0 rfl rfl 0 (by decide) (hts _ kw_171) (fun _ h9 => h9) rfl dX0_joinAgain_49 ?_
          refine lv_iload_n hx hb dX0_joinAgain_52 rfl (lv_at hl 2 rfl) ?_
          refine ca_Vi (ci := 5) (q := (RX6, TX6, 2)) (rest := []) (wr := bow bo (wd 0) ++ (tkw G ad (va_up (va_up a 7 ((jaS a r v).1)) 8 (((jaS a r v).2) ||| (lfr (r 0) (r 1) (r 2) (wtN (r 0) (r 1) (r 2) (nd (2 ^ (a 3) - 1) (a 9)) (a 3) (a 0) (nof (r 0) (r 1) (a 1) ((jaS a r v).2) (a 3))) (nd (2 ^ (a 3) - 1) (a 9)) (a 3) 7 v 0))) r)) F hX (mX6_reach l G wd (wtN (r 0) (r 1) (r 2) (nd (2 ^ (a 3) - 1) (a 9)) (a 3) (a 0) (nof (r 0) (r 1) (a 1) ((jaS a r v).2) (a 3))) (nd (2 ^ (a 3) - 1) (a 9)) v (wtA_le a r _) (by omega)) (cA_V hts kw_434 kw_6 kw_478 kw_432 kw_433 hdX6_reach ⟨Nat.le_of_ble_eq_true rfl, Nat.le_of_ble_eq_true rfl⟩) rfl rfl rfl hl.1 rfl (Nat.le_of_ble_eq_true rfl) dX0_joinAgain_53 ⟨Nat.le_of_ble_eq_true rfl, Nat.le_of_ble_eq_true rfl⟩ hP hD hS hA (pm_sw _ _ _) (fun r53 u53 H locs hp53 hP hD hS => ?_)
          have hP : va_P G.1 vwCl (bow bo (wd 0) ++ (wyw G wd (wtN (r 0) (r 1) (r 2) (nd (2 ^ (a 3) - 1) (a 9)) (a 3) (a 0) (nof (r 0) (r 1) (a 1) ((jaS a r v).2) (a 3))) (nd (2 ^ (a 3) - 1) (a 9)) ++ (tkw G ad (va_up (va_up a 7 ((jaS a r v).1)) 8 (((jaS a r v).2) ||| (lfr (r 0) (r 1) (r 2) (wtN (r 0) (r 1) (r 2) (nd (2 ^ (a 3) - 1) (a 9)) (a 3) (a 0) (nof (r 0) (r 1) (a 1) ((jaS a r v).2) (a 3))) (nd (2 ^ (a 3) - 1) (a 9)) (a 3) 7 v 0))) r))) H := wp_pm (pm_sw _ _ _).symm hP
          have hD : va_D A (bow bo (wd 0) ++ (wyw G wd (wtN (r 0) (r 1) (r 2) (nd (2 ^ (a 3) - 1) (a 9)) (a 3) (a 0) (nof (r 0) (r 1) (a 1) ((jaS a r v).2) (a 3))) (nd (2 ^ (a 3) - 1) (a 9)) ++ (tkw G ad (va_up (va_up a 7 ((jaS a r v).1)) 8 (((jaS a r v).2) ||| (lfr (r 0) (r 1) (r 2) (wtN (r 0) (r 1) (r 2) (nd (2 ^ (a 3) - 1) (a 9)) (a 3) (a 0) (nof (r 0) (r 1) (a 1) ((jaS a r v).2) (a 3))) (nd (2 ^ (a 3) - 1) (a 9)) (a 3) 7 v 0))) r))) := wd_pm (pm_sw _ _ _).symm hD
          subst hp53
          refine bv_ne (b := decide ((wtN (r 0) (r 1) (r 2) (nd (2 ^ (a 3) - 1) (a 9)) (a 3) (a 0) (nof (r 0) (r 1) (a 1) ((jaS a r v).2) (a 3))) v < 1048576)) (tgt := 73) hx hb dX0_joinAgain_56 (by decide) (fun c56 => ?_) (fun c56 => ?_)
          · refine lv_iinc (v := (nI (v + 1))) (lv' := [(2, .int (nI (v + 1))), (0, .ref bo), (1, .ref (ad 0))]) hx hb dX0_joinAgain_73 hl (k := 2) rfl (qn_inc _) (by decide) rfl (fun ls hl => ?_)
            refine lv_goto (tgt := 2) hx hb dX0_joinAgain_76 (by decide) ?_
            exact ih2 (v + 1) ((jaS a r v).1) (((jaS a r v).2) ||| (lfr (r 0) (r 1) (r 2) (wtN (r 0) (r 1) (r 2) (nd (2 ^ (a 3) - 1) (a 9)) (a 3) (a 0) (nof (r 0) (r 1) (a 1) ((jaS a r v).2) (a 3))) (nd (2 ^ (a 3) - 1) (a 9)) (a 3) 7 v 0)) (wtN (r 0) (r 1) (r 2) (nd (2 ^ (a 3) - 1) (a 9)) (a 3) (a 0) (nof (r 0) (r 1) (a 1) ((jaS a r v).2) (a 3))) (nd (2 ^ (a 3) - 1) (a 9)) (by omega) (by rw [jaS, if_pos c15, if_pos (show wtA a r (jaS a r v).2 v < 1048576 from of_decide_eq_true c56)]) (by rw [jaS, if_pos c15] <;> rfl) (by omega) _ _ hP hD hS ls (lv_sub hl [1, 2, 0] rfl)
          · refine lv_aload_n hx hb dX0_joinAgain_59 rfl (lv_at hl 1 rfl) ?_
            refine lv_dup hx hb dX0_joinAgain_60 rfl ?_
            refine va_get (D := G.1) (ci := 3) (v := .int (nI ((jaS a r v).1))) (C := RX4) (T := TX4) (N := 12) hx hb hts inA4 hown hX.1 hP 3 rfl rfl 7 (by decide) (hts _ kw_93) (fun _ h9 => h9) rfl dX0_joinAgain_61 ?_
            refine lv_iconst (v := (nI 1)) hx hb dX0_joinAgain_64 (by decide) ?_
            refine lv_iload_n hx hb dX0_joinAgain_65 rfl (lv_at hl 2 rfl) ?_
            refine lv_ishl hx hb dX0_joinAgain_66 (ti (y := (nI (2 ^ v))) (qn_sh1 (by omega)) ?_)
            refine lv_iconst (v := (-1)) hx hb dX0_joinAgain_67 (by decide) ?_
            refine lv_ixor hx hb dX0_joinAgain_68 ?_
            refine lv_iand hx hb dX0_joinAgain_69 (ti (y := (nI (nd ((jaS a r v).1) (2 ^ v)))) (qn_andn _ _) ?_)
            refine va_put (D := G.1) (ci := 3) (v := .int (nI (nd ((jaS a r v).1) (2 ^ v)))) (ty := .int) (C := RX4) (T := TX4) (N := 12) hx hb hts inA4 tyX4 tyX4_ok nmX4 hown hX.1 hP hD hS 3 rfl rfl 7 (by decide) (hts _ kw_93) (fun _ h9 => h9) rfl (by decide +kernel) rfl rfl (Nat.le_of_ble_eq_true rfl) dX0_joinAgain_70 (fun H locs hP hD hS => ?_)
            have hP : va_P G.1 vwCl (bow bo (wd 0) ++ (wyw G wd (wtN (r 0) (r 1) (r 2) (nd (2 ^ (a 3) - 1) (a 9)) (a 3) (a 0) (nof (r 0) (r 1) (a 1) ((jaS a r v).2) (a 3))) (nd (2 ^ (a 3) - 1) (a 9)) ++ (tkw G ad (va_up (va_up a 7 (nd ((jaS a r v).1) (2 ^ v))) 8 (((jaS a r v).2) ||| (lfr (r 0) (r 1) (r 2) (wtN (r 0) (r 1) (r 2) (nd (2 ^ (a 3) - 1) (a 9)) (a 3) (a 0) (nof (r 0) (r 1) (a 1) ((jaS a r v).2) (a 3))) (nd (2 ^ (a 3) - 1) (a 9)) (a 3) 7 v 0))) r))) H := hP
            have hD : va_D A (bow bo (wd 0) ++ (wyw G wd (wtN (r 0) (r 1) (r 2) (nd (2 ^ (a 3) - 1) (a 9)) (a 3) (a 0) (nof (r 0) (r 1) (a 1) ((jaS a r v).2) (a 3))) (nd (2 ^ (a 3) - 1) (a 9)) ++ (tkw G ad (va_up (va_up a 7 (nd ((jaS a r v).1) (2 ^ v))) 8 (((jaS a r v).2) ||| (lfr (r 0) (r 1) (r 2) (wtN (r 0) (r 1) (r 2) (nd (2 ^ (a 3) - 1) (a 9)) (a 3) (a 0) (nof (r 0) (r 1) (a 1) ((jaS a r v).2) (a 3))) (nd (2 ^ (a 3) - 1) (a 9)) (a 3) 7 v 0))) r))) := hD
            refine lv_iinc (v := (nI (v + 1))) (lv' := [(2, .int (nI (v + 1))), (0, .ref bo), (1, .ref (ad 0))]) hx hb dX0_joinAgain_73 hl (k := 2) rfl (qn_inc _) (by decide) rfl (fun ls hl => ?_)
            refine lv_goto (tgt := 2) hx hb dX0_joinAgain_76 (by decide) ?_
            exact ih2 (v + 1) (nd ((jaS a r v).1) (2 ^ v)) (((jaS a r v).2) ||| (lfr (r 0) (r 1) (r 2) (wtN (r 0) (r 1) (r 2) (nd (2 ^ (a 3) - 1) (a 9)) (a 3) (a 0) (nof (r 0) (r 1) (a 1) ((jaS a r v).2) (a 3))) (nd (2 ^ (a 3) - 1) (a 9)) (a 3) 7 v 0)) (wtN (r 0) (r 1) (r 2) (nd (2 ^ (a 3) - 1) (a 9)) (a 3) (a 0) (nof (r 0) (r 1) (a 1) ((jaS a r v).2) (a 3))) (nd (2 ^ (a 3) - 1) (a 9)) (by omega) (by rw [jaS, if_pos c15, if_neg (show ¬ wtA a r (jaS a r v).2 v < 1048576 from of_decide_eq_false c56)]) (by rw [jaS, if_pos c15] <;> rfl) (by omega) _ _ hP hD hS ls (lv_sub hl [1, 2, 0] rfl)
  exact lp2 _ 0 (a 7) (a 8) w us (Nat.lt_succ_self _) rfl rfl (Nat.zero_le _) _ _ hP hD hS ls (lv_sub hl [1, 2, 0] rfl)

