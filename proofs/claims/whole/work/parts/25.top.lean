theorem ls_gt {x y : Nat} (hx : x ≤ 108) (hy : y ≤ 108) : 0 < nI x - nI y ↔ y < x := by
  rw [Int32.lt_iff_toInt_lt, pk_sub_toInt (by omega) (by omega)]
  have : (0 : Int32).toInt = 0 := by decide
  rw [this]; omega

theorem hdX7_role : hdOK yX7_role 1 := by decide +kernel
set_option maxHeartbeats 4000000 in
set_option maxRecDepth 100000 in
theorem mX7_role (l : Launch) (G : GG) (od td nn dd pd : Nat → Nat) (bo : Nat) (wd sd e0 e1 : Nat → Nat) (kp : Nat → Int32) (a : Nat → Nat) (r : Nat → Nat → Nat) (v : Nat) (hT : TB a r) (hv : v < 7) : Mi l yX7_role cX7_role 2 (some .int) (rmN 2 42) G [.ref (od 0), .int (nI v)] (obw G od (td 0) (nn 0) (dd 0) (pd 0) bo (wd 0) (sd 0) (e0 0) (e1 0) kp ++ (tkw G nn a r)) (fun (r9 : Int32) (_ : Unit) => r9 = (nI (roN a v))) (fun (_ : Unit) => obw G od (td 0) (nn 0) (dd 0) (pd 0) bo (wd 0) (sd 0) (e0 0) (e1 0) kp ++ (tkw G nn a r)) := by
  refine Mi.of (cc := cX7_role) (nL := 2) (by decide) (Nat.le_of_ble_eq_true rfl) ?_
  intro p e s m below meth c A ls F hr hlocks hnm hX hA hD hP hS hl
  have F : CallFix p m c cX7_role 2 s [.ref (od 0), .int (nI v)].toArray wA RX7 := F
  obtain ⟨hx, hb, hml, hown, hts⟩ := id F
  have hl : lv_has ls 2 [(0, .ref (od 0)), (1, .int (nI v))] := hl
  obtain ⟨t0, t1, t2, t3, t4, t5, t6, t7, t8, t9, t10, t11, t12⟩ := id hT
  refine lv_iload_n hx hb dX7_role_0 rfl (lv_at hl 1 rfl) ?_
  refine lv_aload_n hx hb dX7_role_1 rfl (lv_at hl 0 rfl) ?_
  refine va_get (D := G.1) (ci := 6) (v := .ref (nn 0)) (C := RX7) (T := TX7) (N := 9) hx hb hts inA7 hown hX.1 hP 0 rfl rfl 1 (by decide) (hts _ kw_195) (fun _ h9 => h9) rfl dX7_role_2 ?_
  refine va_get (D := G.1) (ci := 3) (v := .int (nI (a 1))) (C := RX4) (T := TX4) (N := 12) hx hb hts inA4 hown hX.1 hP 3 rfl rfl 1 (by decide) (hts _ kw_71) (fun _ h9 => h9) rfl dX7_role_5 ?_
  refine nv_ne (x := v) (y := a 1) (tgt := 13) hx hb dX7_role_8 (by decide) (by omega) (by omega) (fun c8 => ?_) (fun c8 => ?_)
  · refine lv_aload_n hx hb dX7_role_13 rfl (lv_at hl 0 rfl) ?_
    refine va_get (D := G.1) (ci := 6) (v := .ref (nn 0)) (C := RX7) (T := TX7) (N := 9) hx hb hts inA7 hown hX.1 hP 0 rfl rfl 1 (by decide) (hts _ kw_195) (fun _ h9 => h9) rfl dX7_role_14 ?_
    refine lv_iload_n hx hb dX7_role_17 rfl (lv_at hl 1 rfl) ?_
    refine ca_Vi (ci := 3) (q := (RX4, TX4, 12)) (rest := []) (wr := obw G od (td 0) (nn 0) (dd 0) (pd 0) bo (wd 0) (sd 0) (e0 0) (e1 0) kp) F hX (mX4_isMember l G nn a r v hT (by omega)) (cA_V hts kw_397 kw_3 kw_394 kw_395 kw_396 hdX4_isMember ⟨Nat.le_of_ble_eq_true rfl, Nat.le_of_ble_eq_true rfl⟩) rfl rfl rfl hl.1 rfl (Nat.le_of_ble_eq_true rfl) dX7_role_18 ⟨Nat.le_of_ble_eq_true rfl, Nat.le_of_ble_eq_true rfl⟩ hP hD hS hA (List.perm_append_comm) (fun r18 u18 H locs hp18 hP hD hS => ?_)
    have hP : va_P G.1 vwCl (obw G od (td 0) (nn 0) (dd 0) (pd 0) bo (wd 0) (sd 0) (e0 0) (e1 0) kp ++ (tkw G nn a r)) H := wp_pm (List.perm_append_comm).symm hP
    have hD : va_D A (obw G od (td 0) (nn 0) (dd 0) (pd 0) bo (wd 0) (sd 0) (e0 0) (e1 0) kp ++ (tkw G nn a r)) := wd_pm (List.perm_append_comm).symm hD
    subst hp18
    refine bv_eq (b := (a 7).testBit v) (tgt := 28) hx hb dX7_role_21 (by decide) (fun c21 => ?_) (fun c21 => ?_)
    · refine lv_iconst (v := (nI 0)) hx hb dX7_role_28 (by decide) ?_
      exact re_i (v := (nI 0)) hx hb hr hlocks hS () hP hD (by rw [roN, if_neg c8, if_neg (by rw [c21]; decide)]) dX7_role_29
    · refine lv_iconst (v := (nI 1)) hx hb dX7_role_24 (by decide) ?_
      refine lv_goto (tgt := 29) hx hb dX7_role_25 (by decide) ?_
      exact re_i (v := (nI 1)) hx hb hr hlocks hS () hP hD (by rw [roN, if_neg c8, if_pos c21]) dX7_role_29
  · refine lv_iconst (v := (nI 2)) hx hb dX7_role_11 (by decide) ?_
    exact re_i (v := (nI 2)) hx hb hr hlocks hS () hP hD (by rw [roN, if_pos c8]) dX7_role_12

theorem hdX7_hasWay : hdOK yX7_hasWay 1 := by decide +kernel
set_option maxHeartbeats 4000000 in
set_option maxRecDepth 100000 in
theorem mX7_hasWay (l : Launch) (G : GG) (od td nn dd pd : Nat → Nat) (bo : Nat) (wd sd e0 e1 : Nat → Nat) (kp : Nat → Int32) (a : Nat → Nat) (r : Nat → Nat → Nat) (w : Nat → Nat) (us : Nat) (v : Nat) (hT : TB a r) (hv : v < 7) : Mi l yX7_hasWay cX7_hasWay 2 (some .boolean) (rmN 4 91) G [.ref (od 0), .int (nI v)] (obw G od (td 0) (nn 0) (dd 0) (pd 0) bo (wd 0) (sd 0) (e0 0) (e1 0) kp ++ (tkw G nn a r ++ (wyw G wd w us))) (fun (r9 : Int32) (_ : (Nat → Nat) × Nat) => r9 = bI (decide (wtA a r (a 8) v < 1048576))) (fun (u : (Nat → Nat) × Nat) => obw G od (td 0) (nn 0) (dd 0) (pd 0) bo (wd 0) (sd 0) (e0 0) (e1 0) kp ++ (tkw G nn a r ++ (wyw G wd u.1 u.2))) := by
  refine Mi.of (cc := cX7_hasWay) (nL := 2) (by decide) (Nat.le_of_ble_eq_true rfl) ?_
  intro p e s m below meth c A ls F hr hlocks hnm hX hA hD hP hS hl
  have F : CallFix p m c cX7_hasWay 2 s [.ref (od 0), .int (nI v)].toArray wA RX7 := F
  obtain ⟨hx, hb, hml, hown, hts⟩ := id F
  have hl : lv_has ls 2 [(0, .ref (od 0)), (1, .int (nI v))] := hl
  obtain ⟨t0, t1, t2, t3, t4, t5, t6, t7, t8, t9, t10, t11, t12⟩ := id hT
  refine lv_aload_n hx hb dX7_hasWay_0 rfl (lv_at hl 0 rfl) ?_
  refine va_get (D := G.1) (ci := 6) (v := .ref (wd 0)) (C := RX7) (T := TX7) (N := 9) hx hb hts inA7 hown hX.1 hP 0 rfl rfl 5 (by decide) (hts _ kw_199) (fun _ h9 => h9) rfl dX7_hasWay_1 ?_
  refine lv_aload_n hx hb dX7_hasWay_4 rfl (lv_at hl 0 rfl) ?_
  refine va_get (D := G.1) (ci := 6) (v := .ref (nn 0)) (C := RX7) (T := TX7) (N := 9) hx hb hts inA7 hown hX.1 hP 0 rfl rfl 1 (by decide) (hts _ kw_195) (fun _ h9 => h9) rfl dX7_hasWay_5 ?_
  refine lv_aload_n hx hb dX7_hasWay_8 rfl (lv_at hl 0 rfl) ?_
  refine va_get (D := G.1) (ci := 6) (v := .ref (nn 0)) (C := RX7) (T := TX7) (N := 9) hx hb hts inA7 hown hX.1 hP 0 rfl rfl 1 (by decide) (hts _ kw_195) (fun _ h9 => h9) rfl dX7_hasWay_9 ?_
  refine va_get (D := G.1) (ci := 3) (v := .int (nI (a 8))) (C := RX4) (T := TX4) (N := 12) hx hb hts inA4 hown hX.1 hP 3 rfl rfl 8 (by decide) (hts _ kw_99) (fun _ h9 => h9) rfl dX7_hasWay_12 ?_
  refine ca_Vv (ci := 5) (q := (RX6, TX6, 2)) (rest := []) (wr := obw G od (td 0) (nn 0) (dd 0) (pd 0) bo (wd 0) (sd 0) (e0 0) (e1 0) kp) F hX (mX6_find l G wd w us nn a r (a 8) hT (by omega)) (cA_V hts kw_405 kw_6 kw_402 kw_403 kw_404 hdX6_find ⟨Nat.le_of_ble_eq_true rfl, Nat.le_of_ble_eq_true rfl⟩) rfl rfl rfl hl.1 rfl (Nat.le_of_ble_eq_true rfl) dX7_hasWay_15 ⟨Nat.le_of_ble_eq_true rfl, Nat.le_of_ble_eq_true rfl⟩ hP hD hS hA (((pm_sw _ _ _).trans ((List.Perm.append_left _ (List.perm_append_comm)).trans (pm_sw _ _ _))).trans (List.Perm.of_eq (List.append_assoc _ _ _).symm)) (fun u15 H locs hp15 hP hD hS => ?_)
  have hP : va_P G.1 vwCl (obw G od (td 0) (nn 0) (dd 0) (pd 0) bo (wd 0) (sd 0) (e0 0) (e1 0) kp ++ (tkw G nn a r ++ (wyw G wd (wtN (r 0) (r 1) (r 2) (nd (2 ^ (a 3) - 1) (a 9)) (a 3) (a 0) (nof (r 0) (r 1) (a 1) (a 8) (a 3))) (nd (2 ^ (a 3) - 1) (a 9))))) H := wp_pm (((pm_sw _ _ _).trans ((List.Perm.append_left _ (List.perm_append_comm)).trans (pm_sw _ _ _))).trans (List.Perm.of_eq (List.append_assoc _ _ _).symm)).symm hP
  have hD : va_D A (obw G od (td 0) (nn 0) (dd 0) (pd 0) bo (wd 0) (sd 0) (e0 0) (e1 0) kp ++ (tkw G nn a r ++ (wyw G wd (wtN (r 0) (r 1) (r 2) (nd (2 ^ (a 3) - 1) (a 9)) (a 3) (a 0) (nof (r 0) (r 1) (a 1) (a 8) (a 3))) (nd (2 ^ (a 3) - 1) (a 9))))) := wd_pm (((pm_sw _ _ _).trans ((List.Perm.append_left _ (List.perm_append_comm)).trans (pm_sw _ _ _))).trans (List.Perm.of_eq (List.append_assoc _ _ _).symm)).symm hD
  refine lv_aload_n hx hb dX7_hasWay_18 rfl (lv_at hl 0 rfl) ?_
  refine va_get (D := G.1) (ci := 6) (v := .ref (wd 0)) (C := RX7) (T := TX7) (N := 9) hx hb hts inA7 hown hX.1 hP 0 rfl rfl 5 (by decide) (hts _ kw_199) (fun _ h9 => h9) rfl dX7_hasWay_19 ?_
  refine lv_iload_n hx hb dX7_hasWay_22 rfl (lv_at hl 1 rfl) ?_
  refine ca_Vi (ci := 5) (q := (RX6, TX6, 2)) (rest := []) (wr := obw G od (td 0) (nn 0) (dd 0) (pd 0) bo (wd 0) (sd 0) (e0 0) (e1 0) kp ++ (tkw G nn a r)) F hX (mX6_reach l G wd (wtN (r 0) (r 1) (r 2) (nd (2 ^ (a 3) - 1) (a 9)) (a 3) (a 0) (nof (r 0) (r 1) (a 1) (a 8) (a 3))) (nd (2 ^ (a 3) - 1) (a 9)) v (wtA_le a r (a 8)) (by omega)) (cA_V hts kw_434 kw_6 kw_431 kw_432 kw_433 hdX6_reach ⟨Nat.le_of_ble_eq_true rfl, Nat.le_of_ble_eq_true rfl⟩) rfl rfl rfl hl.1 rfl (Nat.le_of_ble_eq_true rfl) dX7_hasWay_23 ⟨Nat.le_of_ble_eq_true rfl, Nat.le_of_ble_eq_true rfl⟩ hP hD hS hA ((List.Perm.append_left _ (List.perm_append_comm)).trans (pm_sw _ _ _)) (fun r23 u23 H locs hp23 hP hD hS => ?_)
  have hP : va_P G.1 vwCl (obw G od (td 0) (nn 0) (dd 0) (pd 0) bo (wd 0) (sd 0) (e0 0) (e1 0) kp ++ (tkw G nn a r ++ (wyw G wd (wtN (r 0) (r 1) (r 2) (nd (2 ^ (a 3) - 1) (a 9)) (a 3) (a 0) (nof (r 0) (r 1) (a 1) (a 8) (a 3))) (nd (2 ^ (a 3) - 1) (a 9))))) H := wp_pm ((List.Perm.append_left _ (List.perm_append_comm)).trans (pm_sw _ _ _)).symm hP
  have hD : va_D A (obw G od (td 0) (nn 0) (dd 0) (pd 0) bo (wd 0) (sd 0) (e0 0) (e1 0) kp ++ (tkw G nn a r ++ (wyw G wd (wtN (r 0) (r 1) (r 2) (nd (2 ^ (a 3) - 1) (a 9)) (a 3) (a 0) (nof (r 0) (r 1) (a 1) (a 8) (a 3))) (nd (2 ^ (a 3) - 1) (a 9))))) := wd_pm ((List.Perm.append_left _ (List.perm_append_comm)).trans (pm_sw _ _ _)).symm hD
  subst hp23
  exact re_z (v := (bI (decide ((wtN (r 0) (r 1) (r 2) (nd (2 ^ (a 3) - 1) (a 9)) (a 3) (a 0) (nof (r 0) (r 1) (a 1) (a 8) (a 3))) v < 1048576)))) hx hb hr hlocks hS (wtN (r 0) (r 1) (r 2) (nd (2 ^ (a 3) - 1) (a 9)) (a 3) (a 0) (nof (r 0) (r 1) (a 1) (a 8) (a 3)), nd (2 ^ (a 3) - 1) (a 9)) hP hD rfl (bI_nar _) dX7_hasWay_26

def farO (a : Nat → Nat) (r : Nat → Nat → Nat) (v : Nat) : Option Nat := cfr (wtN (r 0) (r 1) (r 2) (a 8) (a 3) (a 0) (2 ^ a 1)) v

theorem hdX7_far : hdOK yX7_far 1 := by decide +kernel
set_option maxHeartbeats 4000000 in
set_option maxRecDepth 100000 in
theorem mX7_far (l : Launch) (G : GG) (od td nn dd pd : Nat → Nat) (bo : Nat) (wd sd e0 e1 : Nat → Nat) (kp : Nat → Int32) (a : Nat → Nat) (r : Nat → Nat → Nat) (w : Nat → Nat) (us : Nat) (v : Nat) (hT : TB a r) (hv : v < 7) : Mi l yX7_far cX7_far 2 (some .int) (rmN 3 69) G [.ref (od 0), .int (nI v)] (obw G od (td 0) (nn 0) (dd 0) (pd 0) bo (wd 0) (sd 0) (e0 0) (e1 0) kp ++ (tkw G nn a r ++ (wyw G wd w us))) (fun (r9 : Int32) (_ : (Nat → Nat) × Nat) => r9 = oN (farO a r v)) (fun (u : (Nat → Nat) × Nat) => obw G od (td 0) (nn 0) (dd 0) (pd 0) bo (wd 0) (sd 0) (e0 0) (e1 0) kp ++ (tkw G nn a r ++ (wyw G wd u.1 u.2))) := by
  refine Mi.of (cc := cX7_far) (nL := 2) (by decide) (Nat.le_of_ble_eq_true rfl) ?_
  intro p e s m below meth c A ls F hr hlocks hnm hX hA hD hP hS hl
  have F : CallFix p m c cX7_far 2 s [.ref (od 0), .int (nI v)].toArray wA RX7 := F
  obtain ⟨hx, hb, hml, hown, hts⟩ := id F
  have hl : lv_has ls 2 [(0, .ref (od 0)), (1, .int (nI v))] := hl
  obtain ⟨t0, t1, t2, t3, t4, t5, t6, t7, t8, t9, t10, t11, t12⟩ := id hT
  have hz : 2 ^ a 1 < 128 := pw_lt (n := 7) (by omega)
  refine lv_aload_n hx hb dX7_far_0 rfl (lv_at hl 0 rfl) ?_
  refine va_get (D := G.1) (ci := 6) (v := .ref (wd 0)) (C := RX7) (T := TX7) (N := 9) hx hb hts inA7 hown hX.1 hP 0 rfl rfl 5 (by decide) (hts _ kw_199) (fun _ h9 => h9) rfl dX7_far_1 ?_
  refine lv_aload_n hx hb dX7_far_4 rfl (lv_at hl 0 rfl) ?_
  refine va_get (D := G.1) (ci := 6) (v := .ref (nn 0)) (C := RX7) (T := TX7) (N := 9) hx hb hts inA7 hown hX.1 hP 0 rfl rfl 1 (by decide) (hts _ kw_195) (fun _ h9 => h9) rfl dX7_far_5 ?_
  refine lv_aload_n hx hb dX7_far_8 rfl (lv_at hl 0 rfl) ?_
  refine va_get (D := G.1) (ci := 6) (v := .ref (nn 0)) (C := RX7) (T := TX7) (N := 9) hx hb hts inA7 hown hX.1 hP 0 rfl rfl 1 (by decide) (hts _ kw_195) (fun _ h9 => h9) rfl dX7_far_9 ?_
  refine va_get (D := G.1) (ci := 3) (v := .int (nI (a 8))) (C := RX4) (T := TX4) (N := 12) hx hb hts inA4 hown hX.1 hP 3 rfl rfl 8 (by decide) (hts _ kw_99) (fun _ h9 => h9) rfl dX7_far_12 ?_
  refine lv_iconst (v := (nI 1)) hx hb dX7_far_15 (by decide) ?_
  refine lv_aload_n hx hb dX7_far_16 rfl (lv_at hl 0 rfl) ?_
  refine va_get (D := G.1) (ci := 6) (v := .ref (nn 0)) (C := RX7) (T := TX7) (N := 9) hx hb hts inA7 hown hX.1 hP 0 rfl rfl 1 (by decide) (hts _ kw_195) (fun _ h9 => h9) rfl dX7_far_17 ?_
  refine va_get (D := G.1) (ci := 3) (v := .int (nI (a 1))) (C := RX4) (T := TX4) (N := 12) hx hb hts inA4 hown hX.1 hP 3 rfl rfl 1 (by decide) (hts _ kw_71) (fun _ h9 => h9) rfl dX7_far_20 ?_
  refine lv_ishl hx hb dX7_far_23 (ti (y := (nI (2 ^ (a 1)))) (qn_sh1 (by omega)) ?_)
  refine ca_Vv (ci := 5) (q := (RX6, TX6, 2)) (rest := []) (wr := obw G od (td 0) (nn 0) (dd 0) (pd 0) bo (wd 0) (sd 0) (e0 0) (e1 0) kp) F hX (mX6_findBy l G wd w us nn a r (a 8) (2 ^ (a 1)) hT (by omega) (by omega)) (cA_V hts kw_417 kw_6 kw_579 kw_415 kw_416 hdX6_findBy ⟨Nat.le_of_ble_eq_true rfl, Nat.le_of_ble_eq_true rfl⟩) rfl rfl rfl hl.1 rfl (Nat.le_of_ble_eq_true rfl) dX7_far_24 ⟨Nat.le_of_ble_eq_true rfl, Nat.le_of_ble_eq_true rfl⟩ hP hD hS hA (((pm_sw _ _ _).trans ((List.Perm.append_left _ (List.perm_append_comm)).trans (pm_sw _ _ _))).trans (List.Perm.of_eq (List.append_assoc _ _ _).symm)) (fun u24 H locs hp24 hP hD hS => ?_)
  have hP : va_P G.1 vwCl (obw G od (td 0) (nn 0) (dd 0) (pd 0) bo (wd 0) (sd 0) (e0 0) (e1 0) kp ++ (tkw G nn a r ++ (wyw G wd (wtN (r 0) (r 1) (r 2) (a 8) (a 3) (a 0) (2 ^ (a 1))) (a 8)))) H := wp_pm (((pm_sw _ _ _).trans ((List.Perm.append_left _ (List.perm_append_comm)).trans (pm_sw _ _ _))).trans (List.Perm.of_eq (List.append_assoc _ _ _).symm)).symm hP
  have hD : va_D A (obw G od (td 0) (nn 0) (dd 0) (pd 0) bo (wd 0) (sd 0) (e0 0) (e1 0) kp ++ (tkw G nn a r ++ (wyw G wd (wtN (r 0) (r 1) (r 2) (a 8) (a 3) (a 0) (2 ^ (a 1))) (a 8)))) := wd_pm (((pm_sw _ _ _).trans ((List.Perm.append_left _ (List.perm_append_comm)).trans (pm_sw _ _ _))).trans (List.Perm.of_eq (List.append_assoc _ _ _).symm)).symm hD
  refine lv_aload_n hx hb dX7_far_27 rfl (lv_at hl 0 rfl) ?_
  refine va_get (D := G.1) (ci := 6) (v := .ref (wd 0)) (C := RX7) (T := TX7) (N := 9) hx hb hts inA7 hown hX.1 hP 0 rfl rfl 5 (by decide) (hts _ kw_199) (fun _ h9 => h9) rfl dX7_far_28 ?_
  refine lv_iload_n hx hb dX7_far_31 rfl (lv_at hl 1 rfl) ?_
  refine ca_Vi (ci := 5) (q := (RX6, TX6, 2)) (rest := []) (wr := obw G od (td 0) (nn 0) (dd 0) (pd 0) bo (wd 0) (sd 0) (e0 0) (e1 0) kp ++ (tkw G nn a r)) F hX (mX6_costFrom l G wd (wtN (r 0) (r 1) (r 2) (a 8) (a 3) (a 0) (2 ^ (a 1))) (a 8) v (wtN_le _ _ _ _ _ _ _) (by omega)) (cA_V hts kw_482 kw_6 kw_580 kw_480 kw_481 hdX6_costFrom ⟨Nat.le_of_ble_eq_true rfl, Nat.le_of_ble_eq_true rfl⟩) rfl rfl rfl hl.1 rfl (Nat.le_of_ble_eq_true rfl) dX7_far_32 ⟨Nat.le_of_ble_eq_true rfl, Nat.le_of_ble_eq_true rfl⟩ hP hD hS hA ((List.Perm.append_left _ (List.perm_append_comm)).trans (pm_sw _ _ _)) (fun r32 u32 H locs hp32 hP hD hS => ?_)
  have hP : va_P G.1 vwCl (obw G od (td 0) (nn 0) (dd 0) (pd 0) bo (wd 0) (sd 0) (e0 0) (e1 0) kp ++ (tkw G nn a r ++ (wyw G wd (wtN (r 0) (r 1) (r 2) (a 8) (a 3) (a 0) (2 ^ (a 1))) (a 8)))) H := wp_pm ((List.Perm.append_left _ (List.perm_append_comm)).trans (pm_sw _ _ _)).symm hP
  have hD : va_D A (obw G od (td 0) (nn 0) (dd 0) (pd 0) bo (wd 0) (sd 0) (e0 0) (e1 0) kp ++ (tkw G nn a r ++ (wyw G wd (wtN (r 0) (r 1) (r 2) (a 8) (a 3) (a 0) (2 ^ (a 1))) (a 8)))) := wd_pm ((List.Perm.append_left _ (List.perm_append_comm)).trans (pm_sw _ _ _)).symm hD
  subst hp32
  exact re_i (v := (oN (cfr (wtN (r 0) (r 1) (r 2) (a 8) (a 3) (a 0) (2 ^ (a 1))) v))) hx hb hr hlocks hS (wtN (r 0) (r 1) (r 2) (a 8) (a 3) (a 0) (2 ^ (a 1)), a 8) hP hD rfl dX7_far_35

theorem hdX7_type : hdOK yX7_type 1 := by decide +kernel
set_option maxHeartbeats 4000000 in
set_option maxRecDepth 100000 in
theorem mX7_type_bad (l : Launch) (G : GG) (od td nn dd pd : Nat → Nat) (bo : Nat) (wd sd e0 e1 : Nat → Nat) (kp : Nat → Int32) (z tl : Nat → Nat) (x : Int32) (hx9 : ¬ (0 ≤ x.toInt ∧ x.toInt ≤ 255)) : Mi l yX7_type cX7_type 2 (some .int) (rmN 0 0) G [.ref (od 0), .int x] (obw G od (td 0) (nn 0) (dd 0) (pd 0) bo (wd 0) (sd 0) (e0 0) (e1 0) kp ++ (txw G td z tl)) (fun (r9 : Int32) (_ : Unit) => r9 = (-1)) (fun (_ : Unit) => obw G od (td 0) (nn 0) (dd 0) (pd 0) bo (wd 0) (sd 0) (e0 0) (e1 0) kp ++ (txw G td z tl)) := by
  refine Mi.of (cc := cX7_type) (nL := 2) (by decide) (Nat.le_of_ble_eq_true rfl) ?_
  intro p e s m below meth c A ls F hr hlocks hnm hX hA hD hP hS hl
  have F : CallFix p m c cX7_type 2 s [.ref (od 0), .int x].toArray wA RX7 := F
  obtain ⟨hx, hb, hml, hown, hts⟩ := id F
  have hl : lv_has ls 2 [(0, .ref (od 0)), (1, .int x)] := hl
  refine lv_iload_n hx hb dX7_type_0 rfl (lv_at hl 1 rfl) ?_
  refine lv_if_lt (x := x) (tgt := 11) hx hb dX7_type_1 (by decide) (fun c1 => ?_) (fun c1 => ?_)
  · refine lv_iconst (v := (-1)) hx hb dX7_type_11 (by decide) ?_
    exact re_i (v := (-1)) hx hb hr hlocks hS () hP hD rfl dX7_type_12
  · refine lv_iload_n hx hb dX7_type_4 rfl (lv_at hl 1 rfl) ?_
    refine lv_sipush (v := (nI 255)) hx hb dX7_type_5 (by decide) ?_
    refine lv_icmp_le (x := x) (y := (nI 255)) (tgt := 13) hx hb dX7_type_8 (by decide) (fun c8 => ?_) (fun c8 => ?_)
    · exact absurd (in_le c1 c8 (by decide)) hx9
    · refine lv_iconst (v := (-1)) hx hb dX7_type_11 (by decide) ?_
      exact re_i (v := (-1)) hx hb hr hlocks hS () hP hD rfl dX7_type_12

set_option maxHeartbeats 4000000 in
set_option maxRecDepth 100000 in
theorem mX7_type_full (l : Launch) (G : GG) (od td nn dd pd : Nat → Nat) (bo : Nat) (wd sd e0 e1 : Nat → Nat) (kp : Nat → Int32) (z tl : Nat → Nat) (x : Nat) (hx9 : x ≤ 255) (hz : z 1 = 120) : Mi l yX7_type cX7_type 2 (some .int) (rmN 1 21) G [.ref (od 0), .int (nI x)] (obw G od (td 0) (nn 0) (dd 0) (pd 0) bo (wd 0) (sd 0) (e0 0) (e1 0) kp ++ (txw G td z tl)) (fun (r9 : Int32) (_ : Unit) => r9 = (-3)) (fun (_ : Unit) => obw G od (td 0) (nn 0) (dd 0) (pd 0) bo (wd 0) (sd 0) (e0 0) (e1 0) kp ++ (txw G td z tl)) := by
  refine Mi.of (cc := cX7_type) (nL := 2) (by decide) (Nat.le_of_ble_eq_true rfl) ?_
  intro p e s m below meth c A ls F hr hlocks hnm hX hA hD hP hS hl
  have F : CallFix p m c cX7_type 2 s [.ref (od 0), .int (nI x)].toArray wA RX7 := F
  obtain ⟨hx, hb, hml, hown, hts⟩ := id F
  have hl : lv_has ls 2 [(0, .ref (od 0)), (1, .int (nI x))] := hl
  refine lv_iload_n hx hb dX7_type_0 rfl (lv_at hl 1 rfl) ?_
  refine nv_zlt (x := x) (tgt := 11) hx hb dX7_type_1 (by decide) (by omega) ?_
  refine lv_iload_n hx hb dX7_type_4 rfl (lv_at hl 1 rfl) ?_
  refine lv_sipush (v := (nI 255)) hx hb dX7_type_5 (by decide) ?_
  refine nv_le (x := x) (y := 255) (tgt := 13) hx hb dX7_type_8 (by decide) (by omega) (by decide) (fun c8 => ?_) (fun c8 => ?_)
  · refine lv_aload_n hx hb dX7_type_13 rfl (lv_at hl 0 rfl) ?_
    refine va_get (D := G.1) (ci := 6) (v := .ref (td 0)) (C := RX7) (T := TX7) (N := 9) hx hb hts inA7 hown hX.1 hP 0 rfl rfl 0 (by decide) (hts _ kw_194) (fun _ h9 => h9) rfl dX7_type_14 ?_
    refine lv_iload_n hx hb dX7_type_17 rfl (lv_at hl 1 rfl) ?_
    refine ca_Vi (ci := 4) (q := (RX5, TX5, 7)) (rest := []) (wr := obw G od (td 0) (nn 0) (dd 0) (pd 0) bo (wd 0) (sd 0) (e0 0) (e1 0) kp) F hX (mX5_append_no l G td z tl x (by omega)) (cA_V hts kw_230 kw_2 kw_227 kw_228 kw_229 hdX5_append ⟨Nat.le_of_ble_eq_true rfl, Nat.le_of_ble_eq_true rfl⟩) rfl rfl rfl hl.1 rfl (Nat.le_of_ble_eq_true rfl) dX7_type_18 ⟨Nat.le_of_ble_eq_true rfl, Nat.le_of_ble_eq_true rfl⟩ hP hD hS hA (List.perm_append_comm) (fun r18 u18 H locs hp18 hP hD hS => ?_)
    have hP : va_P G.1 vwCl (obw G od (td 0) (nn 0) (dd 0) (pd 0) bo (wd 0) (sd 0) (e0 0) (e1 0) kp ++ (txw G td z tl)) H := wp_pm (List.perm_append_comm).symm hP
    have hD : va_D A (obw G od (td 0) (nn 0) (dd 0) (pd 0) bo (wd 0) (sd 0) (e0 0) (e1 0) kp ++ (txw G td z tl)) := wd_pm (List.perm_append_comm).symm hD
    subst hp18
    refine bv_eq (b := false) (tgt := 34) hx hb dX7_type_21 (by decide) (fun c21 => ?_) (fun c21 => ?_)
    · refine lv_bipush (v := (-3)) hx hb dX7_type_34 (by decide) ?_
      exact re_i (v := (-3)) hx hb hr hlocks hS () hP hD rfl dX7_type_36
    · exact absurd c21 (by decide)
  · exact absurd c8 (by omega)

set_option maxHeartbeats 4000000 in
set_option maxRecDepth 100000 in
theorem mX7_type_ok (l : Launch) (G : GG) (od td nn dd pd : Nat → Nat) (bo : Nat) (wd sd e0 e1 : Nat → Nat) (kp : Nat → Int32) (z tl : Nat → Nat) (x : Nat) (hx9 : x ≤ 255) (hz : z 1 < 120) : Mi l yX7_type cX7_type 2 (some .int) (rmN 1 21) G [.ref (od 0), .int (nI x)] (obw G od (td 0) (nn 0) (dd 0) (pd 0) bo (wd 0) (sd 0) (e0 0) (e1 0) kp ++ (txw G td z tl)) (fun (r9 : Int32) (_ : Unit) => r9 = (nI (z 1 + 1))) (fun (_ : Unit) => obw G od (td 0) (nn 0) (dd 0) (pd 0) bo (wd 0) (sd 0) (e0 0) (e1 0) kp ++ (txw G td (va_up z 1 (z 1 + 1)) (va_up tl (z 1) x))) := by
  refine Mi.of (cc := cX7_type) (nL := 2) (by decide) (Nat.le_of_ble_eq_true rfl) ?_
  intro p e s m below meth c A ls F hr hlocks hnm hX hA hD hP hS hl
  have F : CallFix p m c cX7_type 2 s [.ref (od 0), .int (nI x)].toArray wA RX7 := F
  obtain ⟨hx, hb, hml, hown, hts⟩ := id F
  have hl : lv_has ls 2 [(0, .ref (od 0)), (1, .int (nI x))] := hl
  refine lv_iload_n hx hb dX7_type_0 rfl (lv_at hl 1 rfl) ?_
  refine nv_zlt (x := x) (tgt := 11) hx hb dX7_type_1 (by decide) (by omega) ?_
  refine lv_iload_n hx hb dX7_type_4 rfl (lv_at hl 1 rfl) ?_
  refine lv_sipush (v := (nI 255)) hx hb dX7_type_5 (by decide) ?_
  refine nv_le (x := x) (y := 255) (tgt := 13) hx hb dX7_type_8 (by decide) (by omega) (by decide) (fun c8 => ?_) (fun c8 => ?_)
  · refine lv_aload_n hx hb dX7_type_13 rfl (lv_at hl 0 rfl) ?_
    refine va_get (D := G.1) (ci := 6) (v := .ref (td 0)) (C := RX7) (T := TX7) (N := 9) hx hb hts inA7 hown hX.1 hP 0 rfl rfl 0 (by decide) (hts _ kw_194) (fun _ h9 => h9) rfl dX7_type_14 ?_
    refine lv_iload_n hx hb dX7_type_17 rfl (lv_at hl 1 rfl) ?_
    refine ca_Vi (ci := 4) (q := (RX5, TX5, 7)) (rest := []) (wr := obw G od (td 0) (nn 0) (dd 0) (pd 0) bo (wd 0) (sd 0) (e0 0) (e1 0) kp) F hX (mX5_append_yes l G td z tl x (by omega)) (cA_V hts kw_230 kw_2 kw_227 kw_228 kw_229 hdX5_append ⟨Nat.le_of_ble_eq_true rfl, Nat.le_of_ble_eq_true rfl⟩) rfl rfl rfl hl.1 rfl (Nat.le_of_ble_eq_true rfl) dX7_type_18 ⟨Nat.le_of_ble_eq_true rfl, Nat.le_of_ble_eq_true rfl⟩ hP hD hS hA (List.perm_append_comm) (fun r18 u18 H locs hp18 hP hD hS => ?_)
    have hP : va_P G.1 vwCl (obw G od (td 0) (nn 0) (dd 0) (pd 0) bo (wd 0) (sd 0) (e0 0) (e1 0) kp ++ (txw G td (va_up z 1 ((z 1) + 1)) (va_up tl (z 1) x))) H := wp_pm (List.perm_append_comm).symm hP
    have hD : va_D A (obw G od (td 0) (nn 0) (dd 0) (pd 0) bo (wd 0) (sd 0) (e0 0) (e1 0) kp ++ (txw G td (va_up z 1 ((z 1) + 1)) (va_up tl (z 1) x))) := wd_pm (List.perm_append_comm).symm hD
    subst hp18
    refine bv_eq (b := true) (tgt := 34) hx hb dX7_type_21 (by decide) (fun c21 => ?_) (fun c21 => ?_)
    · exact absurd c21 (by decide)
    · refine lv_aload_n hx hb dX7_type_24 rfl (lv_at hl 0 rfl) ?_
      refine va_get (D := G.1) (ci := 6) (v := .ref (td 0)) (C := RX7) (T := TX7) (N := 9) hx hb hts inA7 hown hX.1 hP 0 rfl rfl 0 (by decide) (hts _ kw_194) (fun _ h9 => h9) rfl dX7_type_25 ?_
      refine va_get (D := G.1) (ci := 4) (v := .int (nI ((z 1) + 1))) (C := RX5) (T := TX5) (N := 7) hx hb hts inA5 hown hX.1 hP 3 rfl rfl 1 (by decide) (hts _ kw_34) (fun _ h9 => h9) rfl dX7_type_28 ?_
      refine lv_goto (tgt := 36) hx hb dX7_type_31 (by decide) ?_
      exact re_i (v := (nI ((z 1) + 1))) hx hb hr hlocks hS () hP hD rfl dX7_type_36
  · exact absurd c8 (by omega)

theorem hdX7_clear : hdOK yX7_clear 0 := by decide +kernel
set_option maxHeartbeats 4000000 in
set_option maxRecDepth 100000 in
theorem mX7_clear (l : Launch) (G : GG) (od td nn dd pd : Nat → Nat) (bo : Nat) (wd sd e0 e1 : Nat → Nat) (kp : Nat → Int32) (z tl : Nat → Nat)  : Mi l yX7_clear cX7_clear 1 (some .int) (rmN 1 21) G [.ref (od 0)] (obw G od (td 0) (nn 0) (dd 0) (pd 0) bo (wd 0) (sd 0) (e0 0) (e1 0) kp ++ (txw G td z tl)) (fun (r9 : Int32) (_ : Unit) => r9 = (nI (z 1))) (fun (_ : Unit) => obw G od (td 0) (nn 0) (dd 0) (pd 0) bo (wd 0) (sd 0) (e0 0) (e1 0) kp ++ (txw G td (va_up z 1 0) tl)) := by
  refine Mi.of (cc := cX7_clear) (nL := 1) (by decide) (Nat.le_of_ble_eq_true rfl) ?_
  intro p e s m below meth c A ls F hr hlocks hnm hX hA hD hP hS hl
  have F : CallFix p m c cX7_clear 1 s [.ref (od 0)].toArray wA RX7 := F
  obtain ⟨hx, hb, hml, hown, hts⟩ := id F
  have hl : lv_has ls 1 [(0, .ref (od 0))] := hl
  refine lv_aload_n hx hb dX7_clear_0 rfl (lv_at hl 0 rfl) ?_
  refine va_get (D := G.1) (ci := 6) (v := .ref (td 0)) (C := RX7) (T := TX7) (N := 9) hx hb hts inA7 hown hX.1 hP 0 rfl rfl 0 (by decide) (hts _ kw_194) (fun _ h9 => h9) rfl dX7_clear_1 ?_
  refine ca_Vi (ci := 4) (q := (RX5, TX5, 7)) (rest := []) (wr := obw G od (td 0) (nn 0) (dd 0) (pd 0) bo (wd 0) (sd 0) (e0 0) (e1 0) kp) F hX (mX5_empty l G td z tl  ) (cA_V hts kw_238 kw_2 kw_235 kw_236 kw_237 hdX5_empty ⟨Nat.le_of_ble_eq_true rfl, Nat.le_of_ble_eq_true rfl⟩) rfl rfl rfl hl.1 rfl (Nat.le_of_ble_eq_true rfl) dX7_clear_4 ⟨Nat.le_of_ble_eq_true rfl, Nat.le_of_ble_eq_true rfl⟩ hP hD hS hA (List.perm_append_comm) (fun r4 u4 H locs hp4 hP hD hS => ?_)
  have hP : va_P G.1 vwCl (obw G od (td 0) (nn 0) (dd 0) (pd 0) bo (wd 0) (sd 0) (e0 0) (e1 0) kp ++ (txw G td (va_up z 1 0) tl)) H := wp_pm (List.perm_append_comm).symm hP
  have hD : va_D A (obw G od (td 0) (nn 0) (dd 0) (pd 0) bo (wd 0) (sd 0) (e0 0) (e1 0) kp ++ (txw G td (va_up z 1 0) tl)) := wd_pm (List.perm_append_comm).symm hD
  subst hp4
  exact re_i (v := (nI (z 1))) hx hb hr hlocks hS () hP hD rfl dX7_clear_7

theorem hdX7_joins : hdOK yX7_joins 1 := by decide +kernel
set_option maxHeartbeats 4000000 in
set_option maxRecDepth 100000 in
theorem mX7_joins_bad (l : Launch) (G : GG) (od td nn dd pd : Nat → Nat) (bo : Nat) (wd sd e0 e1 : Nat → Nat) (kp : Nat → Int32) (a : Nat → Nat) (r : Nat → Nat → Nat) (x : Int32) (hT : TB a r) (hk : ¬ (0 ≤ x.toInt ∧ x.toInt < a 0)) : Mi l yX7_joins cX7_joins 2 (some .int) (rmN 1 21) G [.ref (od 0), .int x] (obw G od (td 0) (nn 0) (dd 0) (pd 0) bo (wd 0) (sd 0) (e0 0) (e1 0) kp ++ (tkw G nn a r)) (fun (r9 : Int32) (_ : Unit) => r9 = (-1)) (fun (_ : Unit) => obw G od (td 0) (nn 0) (dd 0) (pd 0) bo (wd 0) (sd 0) (e0 0) (e1 0) kp ++ (tkw G nn a r)) := by
  refine Mi.of (cc := cX7_joins) (nL := 2) (by decide) (Nat.le_of_ble_eq_true rfl) ?_
  intro p e s m below meth c A ls F hr hlocks hnm hX hA hD hP hS hl
  have F : CallFix p m c cX7_joins 2 s [.ref (od 0), .int x].toArray wA RX7 := F
  obtain ⟨hx, hb, hml, hown, hts⟩ := id F
  have hl : lv_has ls 2 [(0, .ref (od 0)), (1, .int x)] := hl
  refine lv_aload_n hx hb dX7_joins_0 rfl (lv_at hl 0 rfl) ?_
  refine va_get (D := G.1) (ci := 6) (v := .ref (nn 0)) (C := RX7) (T := TX7) (N := 9) hx hb hts inA7 hown hX.1 hP 0 rfl rfl 1 (by decide) (hts _ kw_195) (fun _ h9 => h9) rfl dX7_joins_1 ?_
  refine lv_iload_n hx hb dX7_joins_4 rfl (lv_at hl 1 rfl) ?_
  refine ca_Vi (ci := 3) (q := (RX4, TX4, 12)) (rest := []) (wr := obw G od (td 0) (nn 0) (dd 0) (pd 0) bo (wd 0) (sd 0) (e0 0) (e1 0) kp) F hX (mX4_hasNode_no l G nn a r x hT hk) (cA_V hts kw_389 kw_3 kw_386 kw_387 kw_388 hdX4_hasNode ⟨Nat.le_of_ble_eq_true rfl, Nat.le_of_ble_eq_true rfl⟩) rfl rfl rfl hl.1 rfl (Nat.le_of_ble_eq_true rfl) dX7_joins_5 ⟨Nat.le_of_ble_eq_true rfl, Nat.le_of_ble_eq_true rfl⟩ hP hD hS hA (List.perm_append_comm) (fun r5 u5 H locs hp5 hP hD hS => ?_)
  have hP : va_P G.1 vwCl (obw G od (td 0) (nn 0) (dd 0) (pd 0) bo (wd 0) (sd 0) (e0 0) (e1 0) kp ++ (tkw G nn a r)) H := wp_pm (List.perm_append_comm).symm hP
  have hD : va_D A (obw G od (td 0) (nn 0) (dd 0) (pd 0) bo (wd 0) (sd 0) (e0 0) (e1 0) kp ++ (tkw G nn a r)) := wd_pm (List.perm_append_comm).symm hD
  subst hp5
  refine bv_ne (b := false) (tgt := 13) hx hb dX7_joins_8 (by decide) (fun c8 => ?_) (fun c8 => ?_)
  · exact absurd c8 (by decide)
  · refine lv_iconst (v := (-1)) hx hb dX7_joins_11 (by decide) ?_
    exact re_i (v := (-1)) hx hb hr hlocks hS () hP hD rfl dX7_joins_12

theorem hdX7_leaves : hdOK yX7_leaves 1 := by decide +kernel
set_option maxHeartbeats 4000000 in
set_option maxRecDepth 100000 in
theorem mX7_leaves_bad (l : Launch) (G : GG) (od td nn dd pd : Nat → Nat) (bo : Nat) (wd sd e0 e1 : Nat → Nat) (kp : Nat → Int32) (a : Nat → Nat) (r : Nat → Nat → Nat) (x : Int32) (hT : TB a r) (hk : ¬ (0 ≤ x.toInt ∧ x.toInt < a 0)) : Mi l yX7_leaves cX7_leaves 2 (some .int) (rmN 1 21) G [.ref (od 0), .int x] (obw G od (td 0) (nn 0) (dd 0) (pd 0) bo (wd 0) (sd 0) (e0 0) (e1 0) kp ++ (tkw G nn a r)) (fun (r9 : Int32) (_ : Unit) => r9 = (-1)) (fun (_ : Unit) => obw G od (td 0) (nn 0) (dd 0) (pd 0) bo (wd 0) (sd 0) (e0 0) (e1 0) kp ++ (tkw G nn a r)) := by
  refine Mi.of (cc := cX7_leaves) (nL := 2) (by decide) (Nat.le_of_ble_eq_true rfl) ?_
  intro p e s m below meth c A ls F hr hlocks hnm hX hA hD hP hS hl
  have F : CallFix p m c cX7_leaves 2 s [.ref (od 0), .int x].toArray wA RX7 := F
  obtain ⟨hx, hb, hml, hown, hts⟩ := id F
  have hl : lv_has ls 2 [(0, .ref (od 0)), (1, .int x)] := hl
  refine lv_aload_n hx hb dX7_leaves_0 rfl (lv_at hl 0 rfl) ?_
  refine va_get (D := G.1) (ci := 6) (v := .ref (nn 0)) (C := RX7) (T := TX7) (N := 9) hx hb hts inA7 hown hX.1 hP 0 rfl rfl 1 (by decide) (hts _ kw_195) (fun _ h9 => h9) rfl dX7_leaves_1 ?_
  refine lv_iload_n hx hb dX7_leaves_4 rfl (lv_at hl 1 rfl) ?_
  refine ca_Vi (ci := 3) (q := (RX4, TX4, 12)) (rest := []) (wr := obw G od (td 0) (nn 0) (dd 0) (pd 0) bo (wd 0) (sd 0) (e0 0) (e1 0) kp) F hX (mX4_hasNode_no l G nn a r x hT hk) (cA_V hts kw_389 kw_3 kw_386 kw_387 kw_388 hdX4_hasNode ⟨Nat.le_of_ble_eq_true rfl, Nat.le_of_ble_eq_true rfl⟩) rfl rfl rfl hl.1 rfl (Nat.le_of_ble_eq_true rfl) dX7_leaves_5 ⟨Nat.le_of_ble_eq_true rfl, Nat.le_of_ble_eq_true rfl⟩ hP hD hS hA (List.perm_append_comm) (fun r5 u5 H locs hp5 hP hD hS => ?_)
  have hP : va_P G.1 vwCl (obw G od (td 0) (nn 0) (dd 0) (pd 0) bo (wd 0) (sd 0) (e0 0) (e1 0) kp ++ (tkw G nn a r)) H := wp_pm (List.perm_append_comm).symm hP
  have hD : va_D A (obw G od (td 0) (nn 0) (dd 0) (pd 0) bo (wd 0) (sd 0) (e0 0) (e1 0) kp ++ (tkw G nn a r)) := wd_pm (List.perm_append_comm).symm hD
  subst hp5
  refine bv_ne (b := false) (tgt := 13) hx hb dX7_leaves_8 (by decide) (fun c8 => ?_) (fun c8 => ?_)
  · exact absurd c8 (by decide)
  · refine lv_iconst (v := (-1)) hx hb dX7_leaves_11 (by decide) ?_
    exact re_i (v := (-1)) hx hb hr hlocks hS () hP hD rfl dX7_leaves_12

theorem hdX7_cuts : hdOK yX7_cuts 1 := by decide +kernel
set_option maxHeartbeats 4000000 in
set_option maxRecDepth 100000 in
theorem mX7_cuts_bad (l : Launch) (G : GG) (od td nn dd pd : Nat → Nat) (bo : Nat) (wd sd e0 e1 : Nat → Nat) (kp : Nat → Int32) (a : Nat → Nat) (r : Nat → Nat → Nat) (x : Int32) (hT : TB a r) (hk : ¬ (0 ≤ x.toInt ∧ x.toInt < a 3)) : Mi l yX7_cuts cX7_cuts 2 (some .int) (rmN 1 21) G [.ref (od 0), .int x] (obw G od (td 0) (nn 0) (dd 0) (pd 0) bo (wd 0) (sd 0) (e0 0) (e1 0) kp ++ (tkw G nn a r)) (fun (r9 : Int32) (_ : Unit) => r9 = (-1)) (fun (_ : Unit) => obw G od (td 0) (nn 0) (dd 0) (pd 0) bo (wd 0) (sd 0) (e0 0) (e1 0) kp ++ (tkw G nn a r)) := by
  refine Mi.of (cc := cX7_cuts) (nL := 2) (by decide) (Nat.le_of_ble_eq_true rfl) ?_
  intro p e s m below meth c A ls F hr hlocks hnm hX hA hD hP hS hl
  have F : CallFix p m c cX7_cuts 2 s [.ref (od 0), .int x].toArray wA RX7 := F
  obtain ⟨hx, hb, hml, hown, hts⟩ := id F
  have hl : lv_has ls 2 [(0, .ref (od 0)), (1, .int x)] := hl
  refine lv_aload_n hx hb dX7_cuts_0 rfl (lv_at hl 0 rfl) ?_
  refine va_get (D := G.1) (ci := 6) (v := .ref (nn 0)) (C := RX7) (T := TX7) (N := 9) hx hb hts inA7 hown hX.1 hP 0 rfl rfl 1 (by decide) (hts _ kw_195) (fun _ h9 => h9) rfl dX7_cuts_1 ?_
  refine lv_iload_n hx hb dX7_cuts_4 rfl (lv_at hl 1 rfl) ?_
  refine ca_Vi (ci := 3) (q := (RX4, TX4, 12)) (rest := []) (wr := obw G od (td 0) (nn 0) (dd 0) (pd 0) bo (wd 0) (sd 0) (e0 0) (e1 0) kp) F hX (mX4_hasLink_no l G nn a r x hT hk) (cA_V hts kw_520 kw_3 kw_517 kw_518 kw_519 hdX4_hasLink ⟨Nat.le_of_ble_eq_true rfl, Nat.le_of_ble_eq_true rfl⟩) rfl rfl rfl hl.1 rfl (Nat.le_of_ble_eq_true rfl) dX7_cuts_5 ⟨Nat.le_of_ble_eq_true rfl, Nat.le_of_ble_eq_true rfl⟩ hP hD hS hA (List.perm_append_comm) (fun r5 u5 H locs hp5 hP hD hS => ?_)
  have hP : va_P G.1 vwCl (obw G od (td 0) (nn 0) (dd 0) (pd 0) bo (wd 0) (sd 0) (e0 0) (e1 0) kp ++ (tkw G nn a r)) H := wp_pm (List.perm_append_comm).symm hP
  have hD : va_D A (obw G od (td 0) (nn 0) (dd 0) (pd 0) bo (wd 0) (sd 0) (e0 0) (e1 0) kp ++ (tkw G nn a r)) := wd_pm (List.perm_append_comm).symm hD
  subst hp5
  refine bv_ne (b := false) (tgt := 13) hx hb dX7_cuts_8 (by decide) (fun c8 => ?_) (fun c8 => ?_)
  · exact absurd c8 (by decide)
  · refine lv_iconst (v := (-1)) hx hb dX7_cuts_11 (by decide) ?_
    exact re_i (v := (-1)) hx hb hr hlocks hS () hP hD rfl dX7_cuts_12

theorem hdX7_mends : hdOK yX7_mends 1 := by decide +kernel
set_option maxHeartbeats 4000000 in
set_option maxRecDepth 100000 in
theorem mX7_mends_bad (l : Launch) (G : GG) (od td nn dd pd : Nat → Nat) (bo : Nat) (wd sd e0 e1 : Nat → Nat) (kp : Nat → Int32) (a : Nat → Nat) (r : Nat → Nat → Nat) (x : Int32) (hT : TB a r) (hk : ¬ (0 ≤ x.toInt ∧ x.toInt < a 3)) : Mi l yX7_mends cX7_mends 2 (some .int) (rmN 1 21) G [.ref (od 0), .int x] (obw G od (td 0) (nn 0) (dd 0) (pd 0) bo (wd 0) (sd 0) (e0 0) (e1 0) kp ++ (tkw G nn a r)) (fun (r9 : Int32) (_ : Unit) => r9 = (-1)) (fun (_ : Unit) => obw G od (td 0) (nn 0) (dd 0) (pd 0) bo (wd 0) (sd 0) (e0 0) (e1 0) kp ++ (tkw G nn a r)) := by
  refine Mi.of (cc := cX7_mends) (nL := 2) (by decide) (Nat.le_of_ble_eq_true rfl) ?_
  intro p e s m below meth c A ls F hr hlocks hnm hX hA hD hP hS hl
  have F : CallFix p m c cX7_mends 2 s [.ref (od 0), .int x].toArray wA RX7 := F
  obtain ⟨hx, hb, hml, hown, hts⟩ := id F
  have hl : lv_has ls 2 [(0, .ref (od 0)), (1, .int x)] := hl
  refine lv_aload_n hx hb dX7_mends_0 rfl (lv_at hl 0 rfl) ?_
  refine va_get (D := G.1) (ci := 6) (v := .ref (nn 0)) (C := RX7) (T := TX7) (N := 9) hx hb hts inA7 hown hX.1 hP 0 rfl rfl 1 (by decide) (hts _ kw_195) (fun _ h9 => h9) rfl dX7_mends_1 ?_
  refine lv_iload_n hx hb dX7_mends_4 rfl (lv_at hl 1 rfl) ?_
  refine ca_Vi (ci := 3) (q := (RX4, TX4, 12)) (rest := []) (wr := obw G od (td 0) (nn 0) (dd 0) (pd 0) bo (wd 0) (sd 0) (e0 0) (e1 0) kp) F hX (mX4_hasLink_no l G nn a r x hT hk) (cA_V hts kw_520 kw_3 kw_517 kw_518 kw_519 hdX4_hasLink ⟨Nat.le_of_ble_eq_true rfl, Nat.le_of_ble_eq_true rfl⟩) rfl rfl rfl hl.1 rfl (Nat.le_of_ble_eq_true rfl) dX7_mends_5 ⟨Nat.le_of_ble_eq_true rfl, Nat.le_of_ble_eq_true rfl⟩ hP hD hS hA (List.perm_append_comm) (fun r5 u5 H locs hp5 hP hD hS => ?_)
  have hP : va_P G.1 vwCl (obw G od (td 0) (nn 0) (dd 0) (pd 0) bo (wd 0) (sd 0) (e0 0) (e1 0) kp ++ (tkw G nn a r)) H := wp_pm (List.perm_append_comm).symm hP
  have hD : va_D A (obw G od (td 0) (nn 0) (dd 0) (pd 0) bo (wd 0) (sd 0) (e0 0) (e1 0) kp ++ (tkw G nn a r)) := wd_pm (List.perm_append_comm).symm hD
  subst hp5
  refine bv_ne (b := false) (tgt := 13) hx hb dX7_mends_8 (by decide) (fun c8 => ?_) (fun c8 => ?_)
  · exact absurd c8 (by decide)
  · refine lv_iconst (v := (-1)) hx hb dX7_mends_11 (by decide) ?_
    exact re_i (v := (-1)) hx hb hr hlocks hS () hP hD rfl dX7_mends_12

set_option maxHeartbeats 4000000 in
set_option maxRecDepth 100000 in
theorem mX7_joins_state (l : Launch) (G : GG) (od td nn dd pd : Nat → Nat) (bo : Nat) (wd sd e0 e1 : Nat → Nat) (kp : Nat → Int32) (a : Nat → Nat) (r : Nat → Nat → Nat) (w : Nat → Nat) (us : Nat) (v : Nat) (hT : TB a r) (hv : v < a 0) (hst : roN a v ≠ 0 ∨ ¬ wtA a r (a 8) v < 1048576) : Mi l yX7_joins cX7_joins 2 (some .int) (rmN 5 112) G [.ref (od 0), .int (nI v)] (obw G od (td 0) (nn 0) (dd 0) (pd 0) bo (wd 0) (sd 0) (e0 0) (e1 0) kp ++ (tkw G nn a r ++ (wyw G wd w us))) (fun (r9 : Int32) (_ : (Nat → Nat) × Nat) => r9 = -2) (fun (u : (Nat → Nat) × Nat) => obw G od (td 0) (nn 0) (dd 0) (pd 0) bo (wd 0) (sd 0) (e0 0) (e1 0) kp ++ (tkw G nn a r ++ (wyw G wd u.1 u.2))) := by
  refine Mi.of (cc := cX7_joins) (nL := 2) (by decide) (Nat.le_of_ble_eq_true rfl) ?_
  intro p e s m below meth c A ls F hr hlocks hnm hX hA hD hP hS hl
  have F : CallFix p m c cX7_joins 2 s [.ref (od 0), .int (nI v)].toArray wA RX7 := F
  obtain ⟨hx, hb, hml, hown, hts⟩ := id F
  have hl : lv_has ls 2 [(0, .ref (od 0)), (1, .int (nI v))] := hl
  obtain ⟨t0, t1, t2, t3, t4, t5, t6, t7, t8, t9, t10, t11, t12⟩ := id hT
  refine lv_aload_n hx hb dX7_joins_0 rfl (lv_at hl 0 rfl) ?_
  refine va_get (D := G.1) (ci := 6) (v := .ref (nn 0)) (C := RX7) (T := TX7) (N := 9) hx hb hts inA7 hown hX.1 hP 0 rfl rfl 1 (by decide) (hts _ kw_195) (fun _ h9 => h9) rfl dX7_joins_1 ?_
  refine lv_iload_n hx hb dX7_joins_4 rfl (lv_at hl 1 rfl) ?_
  refine ca_Vi (ci := 3) (q := (RX4, TX4, 12)) (rest := []) (wr := obw G od (td 0) (nn 0) (dd 0) (pd 0) bo (wd 0) (sd 0) (e0 0) (e1 0) kp ++ (wyw G wd w us)) F hX (mX4_hasNode l G nn a r v hT (by omega)) (cA_V hts kw_389 kw_3 kw_386 kw_387 kw_388 hdX4_hasNode ⟨Nat.le_of_ble_eq_true rfl, Nat.le_of_ble_eq_true rfl⟩) rfl rfl rfl hl.1 rfl (Nat.le_of_ble_eq_true rfl) dX7_joins_5 ⟨Nat.le_of_ble_eq_true rfl, Nat.le_of_ble_eq_true rfl⟩ hP hD hS hA (pm_sw _ _ _) (fun r5 u5 H locs hp5 hP hD hS => ?_)
  have hP : va_P G.1 vwCl (obw G od (td 0) (nn 0) (dd 0) (pd 0) bo (wd 0) (sd 0) (e0 0) (e1 0) kp ++ (tkw G nn a r ++ (wyw G wd w us))) H := wp_pm (pm_sw _ _ _).symm hP
  have hD : va_D A (obw G od (td 0) (nn 0) (dd 0) (pd 0) bo (wd 0) (sd 0) (e0 0) (e1 0) kp ++ (tkw G nn a r ++ (wyw G wd w us))) := wd_pm (pm_sw _ _ _).symm hD
  subst hp5
  refine bv_ne (b := true) (tgt := 13) hx hb dX7_joins_8 (by decide) (fun c8 => ?_) (fun c8 => ?_)
  · refine lv_aload_n hx hb dX7_joins_13 rfl (lv_at hl 0 rfl) ?_
    refine lv_iload_n hx hb dX7_joins_14 rfl (lv_at hl 1 rfl) ?_
    refine ca_Vi (ci := 6) (q := (RX7, TX7, 9)) (rest := []) (wr := wyw G wd w us) F hX (mX7_role l G od td nn dd pd bo wd sd e0 e1 kp a r v hT (by omega)) (cA_V hts kw_393 kw_1 kw_390 kw_392 kp_11 hdX7_role ⟨Nat.le_of_ble_eq_true rfl, Nat.le_of_ble_eq_true rfl⟩) rfl rfl rfl hl.1 rfl (Nat.le_of_ble_eq_true rfl) dX7_joins_15 ⟨Nat.le_of_ble_eq_true rfl, Nat.le_of_ble_eq_true rfl⟩ hP hD hS hA (((pm_sw _ _ _).trans (pm_sw _ _ _)).trans (List.Perm.of_eq (List.append_assoc _ _ _).symm)) (fun r15 u15 H locs hp15 hP hD hS => ?_)
    have hP : va_P G.1 vwCl (obw G od (td 0) (nn 0) (dd 0) (pd 0) bo (wd 0) (sd 0) (e0 0) (e1 0) kp ++ (tkw G nn a r ++ (wyw G wd w us))) H := wp_pm (((pm_sw _ _ _).trans (pm_sw _ _ _)).trans (List.Perm.of_eq (List.append_assoc _ _ _).symm)).symm hP
    have hD : va_D A (obw G od (td 0) (nn 0) (dd 0) (pd 0) bo (wd 0) (sd 0) (e0 0) (e1 0) kp ++ (tkw G nn a r ++ (wyw G wd w us))) := wd_pm (((pm_sw _ _ _).trans (pm_sw _ _ _)).trans (List.Perm.of_eq (List.append_assoc _ _ _).symm)).symm hD
    subst hp15
    refine nv_zne (x := roN a v) (tgt := 29) hx hb dX7_joins_18 (by decide) (by have := roN_le a v; omega) (fun c18 => ?_) (fun c18 => ?_)
    · refine lv_bipush (v := (-2)) hx hb dX7_joins_29 (by decide) ?_
      exact re_i (v := (-2)) hx hb hr hlocks hS (w, us) hP hD rfl dX7_joins_31
    · refine lv_aload_n hx hb dX7_joins_21 rfl (lv_at hl 0 rfl) ?_
      refine lv_iload_n hx hb dX7_joins_22 rfl (lv_at hl 1 rfl) ?_
      refine ca_Vi (ci := 6) (q := (RX7, TX7, 9)) (rest := []) (wr := ([] : va_W)) F hX (mX7_hasWay l G od td nn dd pd bo wd sd e0 e1 kp a r w us v hT (by omega)) (cA_V hts kw_401 kw_1 kw_398 kw_400 kp_12 hdX7_hasWay ⟨Nat.le_of_ble_eq_true rfl, Nat.le_of_ble_eq_true rfl⟩) rfl rfl rfl hl.1 rfl (Nat.le_of_ble_eq_true rfl) dX7_joins_23 ⟨Nat.le_of_ble_eq_true rfl, Nat.le_of_ble_eq_true rfl⟩ hP hD hS hA (pm_nil _) (fun r23 u23 H locs hp23 hP hD hS => ?_)
      have hP : va_P G.1 vwCl (obw G od (td 0) (nn 0) (dd 0) (pd 0) bo (wd 0) (sd 0) (e0 0) (e1 0) kp ++ (tkw G nn a r ++ (wyw G wd u23.1 u23.2))) H := wp_pm (pm_nil _).symm hP
      have hD : va_D A (obw G od (td 0) (nn 0) (dd 0) (pd 0) bo (wd 0) (sd 0) (e0 0) (e1 0) kp ++ (tkw G nn a r ++ (wyw G wd u23.1 u23.2))) := wd_pm (pm_nil _).symm hD
      subst hp23
      refine bv_ne (b := decide (wtA a r (a 8) v < 1048576)) (tgt := 32) hx hb dX7_joins_26 (by decide) (fun c26 => ?_) (fun c26 => ?_)
      · exact absurd (of_decide_eq_true c26) (hst.elim (fun h => absurd c18 h) id)
      · refine lv_bipush (v := (-2)) hx hb dX7_joins_29 (by decide) ?_
        exact re_i (v := (-2)) hx hb hr hlocks hS (u23.1, u23.2) hP hD rfl dX7_joins_31
  · exact absurd c8 (by decide)

def joA (a : Nat → Nat) (r : Nat → Nat → Nat) (v : Nat) : Nat → Nat := va_up (va_up a 7 (a 7 ||| 2 ^ v)) 8 (a 8 ||| wyA a r (a 8) v)
def leA (a : Nat → Nat) (r : Nat → Nat → Nat) (v : Nat) : Nat → Nat := va_up (va_up a 7 (nd (a 7) (2 ^ v))) 8 (prA (va_up a 7 (nd (a 7) (2 ^ v))) r)
theorem TB.jo {a : Nat → Nat} {r : Nat → Nat → Nat} {v : Nat} (h : TB a r) (hv : v < 7) : TB (joA a r v) r := h.mt (or_lt (n := 7) h.2.2.2.2.2.2.2.2.1 (pw_lt hv)) (or_lt (n := 12) h.2.2.2.2.2.2.2.2.2.1 (wyA_lt h _ _))
theorem TB.le {a : Nat → Nat} {r : Nat → Nat → Nat} {v : Nat} (h : TB a r) : TB (leA a r v) r := by
  have h1 : TB (va_up a 7 (nd (a 7) (2 ^ v))) r := h.mb (Nat.lt_of_le_of_lt (nd_le _ _) h.2.2.2.2.2.2.2.2.1)
  exact h1.tr (prA_lt h1)
theorem TB.mp {a : Nat → Nat} {r : Nat → Nat → Nat} {v : Nat} (h : TB a r) (hv : v < 7) (hc : mkF (r 3) v (a 10) = none → a 10 < 7) : TB (mkP a r v).1 (mkP a r v).2 := by
  unfold mkP
  split
  · exact (h.tm hv hc).rr
  · exact h.tm hv hc

set_option maxHeartbeats 4000000 in
set_option maxRecDepth 100000 in
theorem mX7_joins_ok (l : Launch) (G : GG) (od td nn dd pd : Nat → Nat) (bo : Nat) (wd sd e0 e1 : Nat → Nat) (kp : Nat → Int32) (a : Nat → Nat) (r : Nat → Nat → Nat) (sz nx : Nat) (ads as : Nat → Nat → Nat) (rs : Nat → Nat → Nat → Nat) (bd : Nat → Nat) (wb : Nat → Nat) (ub : Nat) (w : Nat → Nat) (us : Nat) (v : Nat) (hT : TB a r) (hz : sz ≤ 6) (hn : nx < 6) (hv : v < a 0) (hro : roN a v = 0) (hre : wtA a r (a 8) v < 1048576) (hc : mkF (r 3) v (a 10) = none → a 10 < 7) : Mi l yX7_joins cX7_joins 2 (some .int) (rmN 7 159) G [.ref (od 0), .int (nI v)] (obw G od (td 0) (nn 0) (dd 0) (pd 0) bo (wd 0) (sd 0) (e0 0) (e1 0) kp ++ (tkw G nn a r ++ (paw G pd sz nx ads as rs ++ (bow bo (bd 0) ++ (wyw G bd wb ub ++ (wyw G wd w us)))))) (fun (r9 : Int32) (_ : ((Nat → Nat) × Nat) × ((Nat → Nat) × Nat)) => r9 = nI (coA (mkP (joA a r v) r v).1 (mkP (joA a r v) r v).2 ((mkP (joA a r v) r v).1 8))) (fun (u : ((Nat → Nat) × Nat) × ((Nat → Nat) × Nat)) => obw G od (td 0) (nn 0) (dd 0) (pd 0) bo (wd 0) (sd 0) (e0 0) (e1 0) kp ++ (tkw G nn ((mkP (joA a r v) r v).1) ((mkP (joA a r v) r v).2) ++ (paw G pd (min (sz + 1) 6) ((nx + 1) % 6) ads (va_up as nx a) (va_up rs nx r) ++ (bow bo (bd 0) ++ (wyw G bd u.2.1 u.2.2 ++ (wyw G wd u.1.1 u.1.2)))))) := by
  refine Mi.of (cc := cX7_joins) (nL := 2) (by decide) (Nat.le_of_ble_eq_true rfl) ?_
  intro p e s m below meth c A ls F hr hlocks hnm hX hA hD hP hS hl
  have F : CallFix p m c cX7_joins 2 s [.ref (od 0), .int (nI v)].toArray wA RX7 := F
  obtain ⟨hx, hb, hml, hown, hts⟩ := id F
  have hl : lv_has ls 2 [(0, .ref (od 0)), (1, .int (nI v))] := hl
  obtain ⟨t0, t1, t2, t3, t4, t5, t6, t7, t8, t9, t10, t11, t12⟩ := id hT
  have hT2 := (hT.jo (v := v) (by omega)).mp (v := v) (by omega) hc
  have t9b := hT2.2.2.2.2.2.2.2.2.2.1
  refine lv_aload_n hx hb dX7_joins_0 rfl (lv_at hl 0 rfl) ?_
  refine va_get (D := G.1) (ci := 6) (v := .ref (nn 0)) (C := RX7) (T := TX7) (N := 9) hx hb hts inA7 hown hX.1 hP 0 rfl rfl 1 (by decide) (hts _ kw_195) (fun _ h9 => h9) rfl dX7_joins_1 ?_
  refine lv_iload_n hx hb dX7_joins_4 rfl (lv_at hl 1 rfl) ?_
  refine ca_Vi (ci := 3) (q := (RX4, TX4, 12)) (rest := []) (wr := obw G od (td 0) (nn 0) (dd 0) (pd 0) bo (wd 0) (sd 0) (e0 0) (e1 0) kp ++ (paw G pd sz nx ads as rs ++ (bow bo (bd 0) ++ (wyw G bd wb ub ++ (wyw G wd w us))))) F hX (mX4_hasNode l G nn a r v hT (by omega)) (cA_V hts kw_389 kw_3 kw_386 kw_387 kw_388 hdX4_hasNode ⟨Nat.le_of_ble_eq_true rfl, Nat.le_of_ble_eq_true rfl⟩) rfl rfl rfl hl.1 rfl (Nat.le_of_ble_eq_true rfl) dX7_joins_5 ⟨Nat.le_of_ble_eq_true rfl, Nat.le_of_ble_eq_true rfl⟩ hP hD hS hA (pm_sw _ _ _) (fun r5 u5 H locs hp5 hP hD hS => ?_)
  have hP : va_P G.1 vwCl (obw G od (td 0) (nn 0) (dd 0) (pd 0) bo (wd 0) (sd 0) (e0 0) (e1 0) kp ++ (tkw G nn a r ++ (paw G pd sz nx ads as rs ++ (bow bo (bd 0) ++ (wyw G bd wb ub ++ (wyw G wd w us)))))) H := wp_pm (pm_sw _ _ _).symm hP
  have hD : va_D A (obw G od (td 0) (nn 0) (dd 0) (pd 0) bo (wd 0) (sd 0) (e0 0) (e1 0) kp ++ (tkw G nn a r ++ (paw G pd sz nx ads as rs ++ (bow bo (bd 0) ++ (wyw G bd wb ub ++ (wyw G wd w us)))))) := wd_pm (pm_sw _ _ _).symm hD
  subst hp5
  refine bv_ne (b := true) (tgt := 13) hx hb dX7_joins_8 (by decide) (fun c8 => ?_) (fun c8 => ?_)
  · refine lv_aload_n hx hb dX7_joins_13 rfl (lv_at hl 0 rfl) ?_
    refine lv_iload_n hx hb dX7_joins_14 rfl (lv_at hl 1 rfl) ?_
    refine ca_Vi (ci := 6) (q := (RX7, TX7, 9)) (rest := []) (wr := paw G pd sz nx ads as rs ++ (bow bo (bd 0) ++ (wyw G bd wb ub ++ (wyw G wd w us)))) F hX (mX7_role l G od td nn dd pd bo wd sd e0 e1 kp a r v hT (by omega)) (cA_V hts kw_393 kw_1 kw_390 kw_392 kp_11 hdX7_role ⟨Nat.le_of_ble_eq_true rfl, Nat.le_of_ble_eq_true rfl⟩) rfl rfl rfl hl.1 rfl (Nat.le_of_ble_eq_true rfl) dX7_joins_15 ⟨Nat.le_of_ble_eq_true rfl, Nat.le_of_ble_eq_true rfl⟩ hP hD hS hA (((pm_sw _ _ _).trans (pm_sw _ _ _)).trans (List.Perm.of_eq (List.append_assoc _ _ _).symm)) (fun r15 u15 H locs hp15 hP hD hS => ?_)
    have hP : va_P G.1 vwCl (obw G od (td 0) (nn 0) (dd 0) (pd 0) bo (wd 0) (sd 0) (e0 0) (e1 0) kp ++ (tkw G nn a r ++ (paw G pd sz nx ads as rs ++ (bow bo (bd 0) ++ (wyw G bd wb ub ++ (wyw G wd w us)))))) H := wp_pm (((pm_sw _ _ _).trans (pm_sw _ _ _)).trans (List.Perm.of_eq (List.append_assoc _ _ _).symm)).symm hP
    have hD : va_D A (obw G od (td 0) (nn 0) (dd 0) (pd 0) bo (wd 0) (sd 0) (e0 0) (e1 0) kp ++ (tkw G nn a r ++ (paw G pd sz nx ads as rs ++ (bow bo (bd 0) ++ (wyw G bd wb ub ++ (wyw G wd w us)))))) := wd_pm (((pm_sw _ _ _).trans (pm_sw _ _ _)).trans (List.Perm.of_eq (List.append_assoc _ _ _).symm)).symm hD
    subst hp15
    refine nv_zne (x := roN a v) (tgt := 29) hx hb dX7_joins_18 (by decide) (by omega) (fun c18 => ?_) (fun c18 => ?_)
    · exact absurd hro c18
    · refine lv_aload_n hx hb dX7_joins_21 rfl (lv_at hl 0 rfl) ?_
      refine lv_iload_n hx hb dX7_joins_22 rfl (lv_at hl 1 rfl) ?_
      refine ca_Vi (ci := 6) (q := (RX7, TX7, 9)) (rest := []) (wr := paw G pd sz nx ads as rs ++ (bow bo (bd 0) ++ (wyw G bd wb ub))) F hX (mX7_hasWay l G od td nn dd pd bo wd sd e0 e1 kp a r w us v hT (by omega)) (cA_V hts kw_401 kw_1 kw_398 kw_400 kp_12 hdX7_hasWay ⟨Nat.le_of_ble_eq_true rfl, Nat.le_of_ble_eq_true rfl⟩) rfl rfl rfl hl.1 rfl (Nat.le_of_ble_eq_true rfl) dX7_joins_23 ⟨Nat.le_of_ble_eq_true rfl, Nat.le_of_ble_eq_true rfl⟩ hP hD hS hA (((((List.Perm.append_left _ ((List.Perm.append_left _ ((List.Perm.append_left _ ((List.Perm.append_left _ (List.perm_append_comm)).trans (pm_sw _ _ _))).trans (pm_sw _ _ _))).trans (pm_sw _ _ _))).trans (pm_sw _ _ _)).trans ((List.Perm.append_left _ (pm_sw _ _ _)).trans (pm_sw _ _ _))).trans ((List.Perm.append_left _ (pm_sw _ _ _)).trans (pm_sw _ _ _))).trans (List.Perm.of_eq (by simp only [List.append_assoc]))) (fun r23 u23 H locs hp23 hP hD hS => ?_)
      have hP : va_P G.1 vwCl (obw G od (td 0) (nn 0) (dd 0) (pd 0) bo (wd 0) (sd 0) (e0 0) (e1 0) kp ++ (tkw G nn a r ++ (paw G pd sz nx ads as rs ++ (bow bo (bd 0) ++ (wyw G bd wb ub ++ (wyw G wd u23.1 u23.2)))))) H := wp_pm (((((List.Perm.append_left _ ((List.Perm.append_left _ ((List.Perm.append_left _ ((List.Perm.append_left _ (List.perm_append_comm)).trans (pm_sw _ _ _))).trans (pm_sw _ _ _))).trans (pm_sw _ _ _))).trans (pm_sw _ _ _)).trans ((List.Perm.append_left _ (pm_sw _ _ _)).trans (pm_sw _ _ _))).trans ((List.Perm.append_left _ (pm_sw _ _ _)).trans (pm_sw _ _ _))).trans (List.Perm.of_eq (by simp only [List.append_assoc]))).symm hP
      have hD : va_D A (obw G od (td 0) (nn 0) (dd 0) (pd 0) bo (wd 0) (sd 0) (e0 0) (e1 0) kp ++ (tkw G nn a r ++ (paw G pd sz nx ads as rs ++ (bow bo (bd 0) ++ (wyw G bd wb ub ++ (wyw G wd u23.1 u23.2)))))) := wd_pm (((((List.Perm.append_left _ ((List.Perm.append_left _ ((List.Perm.append_left _ ((List.Perm.append_left _ (List.perm_append_comm)).trans (pm_sw _ _ _))).trans (pm_sw _ _ _))).trans (pm_sw _ _ _))).trans (pm_sw _ _ _)).trans ((List.Perm.append_left _ (pm_sw _ _ _)).trans (pm_sw _ _ _))).trans ((List.Perm.append_left _ (pm_sw _ _ _)).trans (pm_sw _ _ _))).trans (List.Perm.of_eq (by simp only [List.append_assoc]))).symm hD
      subst hp23
      refine bv_ne (b := decide (wtA a r (a 8) v < 1048576)) (tgt := 32) hx hb dX7_joins_26 (by decide) (fun c26 => ?_) (fun c26 => ?_)
      · refine lv_aload_n hx hb dX7_joins_32 rfl (lv_at hl 0 rfl) ?_
        refine va_get (D := G.1) (ci := 6) (v := .ref (pd 0)) (C := RX7) (T := TX7) (N := 9) hx hb hts inA7 hown hX.1 hP 0 rfl rfl 3 (by decide) (hts _ kw_197) (fun _ h9 => h9) rfl dX7_joins_33 ?_
        refine lv_aload_n hx hb dX7_joins_36 rfl (lv_at hl 0 rfl) ?_
        refine va_get (D := G.1) (ci := 6) (v := .ref (nn 0)) (C := RX7) (T := TX7) (N := 9) hx hb hts inA7 hown hX.1 hP 0 rfl rfl 1 (by decide) (hts _ kw_195) (fun _ h9 => h9) rfl dX7_joins_37 ?_
        refine ca_Vv (ci := 1) (q := (RX2, TX2, 3)) (rest := []) (wr := obw G od (td 0) (nn 0) (dd 0) (pd 0) bo (wd 0) (sd 0) (e0 0) (e1 0) kp ++ (bow bo (bd 0) ++ (wyw G bd wb ub ++ (wyw G wd u23.1 u23.2)))) F hX (mX2_remember l G pd sz nx ads as rs nn a r hz hn) (cA_V hts kw_369 kw_4 kw_366 kw_367 kw_368 hdX2_remember ⟨Nat.le_of_ble_eq_true rfl, Nat.le_of_ble_eq_true rfl⟩) rfl rfl rfl hl.1 rfl (Nat.le_of_ble_eq_true rfl) dX7_joins_40 ⟨Nat.le_of_ble_eq_true rfl, Nat.le_of_ble_eq_true rfl⟩ hP hD hS hA (((pm_sw _ _ _).trans ((List.Perm.append_left _ (pm_sw _ _ _)).trans (pm_sw _ _ _))).trans (List.Perm.of_eq (List.append_assoc _ _ _).symm)) (fun u40 H locs hp40 hP hD hS => ?_)
        have hP : va_P G.1 vwCl (obw G od (td 0) (nn 0) (dd 0) (pd 0) bo (wd 0) (sd 0) (e0 0) (e1 0) kp ++ (tkw G nn a r ++ (paw G pd (min (sz + 1) 6) ((nx + 1) % 6) ads (va_up as nx a) (va_up rs nx r) ++ (bow bo (bd 0) ++ (wyw G bd wb ub ++ (wyw G wd u23.1 u23.2)))))) H := wp_pm (((pm_sw _ _ _).trans ((List.Perm.append_left _ (pm_sw _ _ _)).trans (pm_sw _ _ _))).trans (List.Perm.of_eq (List.append_assoc _ _ _).symm)).symm hP
        have hD : va_D A (obw G od (td 0) (nn 0) (dd 0) (pd 0) bo (wd 0) (sd 0) (e0 0) (e1 0) kp ++ (tkw G nn a r ++ (paw G pd (min (sz + 1) 6) ((nx + 1) % 6) ads (va_up as nx a) (va_up rs nx r) ++ (bow bo (bd 0) ++ (wyw G bd wb ub ++ (wyw G wd u23.1 u23.2)))))) := wd_pm (((pm_sw _ _ _).trans ((List.Perm.append_left _ (pm_sw _ _ _)).trans (pm_sw _ _ _))).trans (List.Perm.of_eq (List.append_assoc _ _ _).symm)).symm hD
        refine lv_aload_n hx hb dX7_joins_43 rfl (lv_at hl 0 rfl) ?_
        refine va_get (D := G.1) (ci := 6) (v := .ref bo) (C := RX7) (T := TX7) (N := 9) hx hb hts inA7 hown hX.1 hP 0 rfl rfl 4 (by decide) (hts _ kw_198) (fun _ h9 => h9) rfl dX7_joins_44 ?_
        refine lv_aload_n hx hb dX7_joins_47 rfl (lv_at hl 0 rfl) ?_
        refine va_get (D := G.1) (ci := 6) (v := .ref (nn 0)) (C := RX7) (T := TX7) (N := 9) hx hb hts inA7 hown hX.1 hP 0 rfl rfl 1 (by decide) (hts _ kw_195) (fun _ h9 => h9) rfl dX7_joins_48 ?_
        refine lv_iload_n hx hb dX7_joins_51 rfl (lv_at hl 1 rfl) ?_
        refine ca_Vv (ci := 0) (q := (RX0, TX0, 1)) (rest := []) (wr := obw G od (td 0) (nn 0) (dd 0) (pd 0) bo (wd 0) (sd 0) (e0 0) (e1 0) kp ++ (paw G pd (min (sz + 1) 6) ((nx + 1) % 6) ads (va_up as nx a) (va_up rs nx r) ++ (wyw G wd u23.1 u23.2))) F hX (mX0_join l G bo bd wb ub nn a r v hT (by omega)) (cA_V hts kw_438 kw_5 kw_435 kw_436 kw_437 hdX0_join ⟨Nat.le_of_ble_eq_true rfl, Nat.le_of_ble_eq_true rfl⟩) rfl rfl rfl hl.1 rfl (Nat.le_of_ble_eq_true rfl) dX7_joins_52 ⟨Nat.le_of_ble_eq_true rfl, Nat.le_of_ble_eq_true rfl⟩ hP hD hS hA ((((pm_sw _ _ _).trans ((List.Perm.append_left _ ((List.Perm.append_left _ ((List.Perm.append_left _ (pm_sw _ _ _)).trans (pm_sw _ _ _))).trans (pm_sw _ _ _))).trans (pm_sw _ _ _))).trans ((List.Perm.append_left _ ((List.Perm.append_left _ ((List.Perm.append_left _ (pm_sw _ _ _)).trans (pm_sw _ _ _))).trans (pm_sw _ _ _))).trans (pm_sw _ _ _))).trans (List.Perm.of_eq (by simp only [List.append_assoc]))) (fun u52 H locs hp52 hP hD hS => ?_)
        have hP : va_P G.1 vwCl (obw G od (td 0) (nn 0) (dd 0) (pd 0) bo (wd 0) (sd 0) (e0 0) (e1 0) kp ++ (tkw G nn (va_up (va_up a 7 ((a 7) ||| 2 ^ v)) 8 ((a 8) ||| wyA a r (a 8) v)) r ++ (paw G pd (min (sz + 1) 6) ((nx + 1) % 6) ads (va_up as nx a) (va_up rs nx r) ++ (bow bo (bd 0) ++ (wyw G bd u52.1 u52.2 ++ (wyw G wd u23.1 u23.2)))))) H := wp_pm ((((pm_sw _ _ _).trans ((List.Perm.append_left _ ((List.Perm.append_left _ ((List.Perm.append_left _ (pm_sw _ _ _)).trans (pm_sw _ _ _))).trans (pm_sw _ _ _))).trans (pm_sw _ _ _))).trans ((List.Perm.append_left _ ((List.Perm.append_left _ ((List.Perm.append_left _ (pm_sw _ _ _)).trans (pm_sw _ _ _))).trans (pm_sw _ _ _))).trans (pm_sw _ _ _))).trans (List.Perm.of_eq (by simp only [List.append_assoc]))).symm hP
        have hD : va_D A (obw G od (td 0) (nn 0) (dd 0) (pd 0) bo (wd 0) (sd 0) (e0 0) (e1 0) kp ++ (tkw G nn (va_up (va_up a 7 ((a 7) ||| 2 ^ v)) 8 ((a 8) ||| wyA a r (a 8) v)) r ++ (paw G pd (min (sz + 1) 6) ((nx + 1) % 6) ads (va_up as nx a) (va_up rs nx r) ++ (bow bo (bd 0) ++ (wyw G bd u52.1 u52.2 ++ (wyw G wd u23.1 u23.2)))))) := wd_pm ((((pm_sw _ _ _).trans ((List.Perm.append_left _ ((List.Perm.append_left _ ((List.Perm.append_left _ (pm_sw _ _ _)).trans (pm_sw _ _ _))).trans (pm_sw _ _ _))).trans (pm_sw _ _ _))).trans ((List.Perm.append_left _ ((List.Perm.append_left _ ((List.Perm.append_left _ (pm_sw _ _ _)).trans (pm_sw _ _ _))).trans (pm_sw _ _ _))).trans (pm_sw _ _ _))).trans (List.Perm.of_eq (by simp only [List.append_assoc]))).symm hD
        refine lv_aload_n hx hb dX7_joins_55 rfl (lv_at hl 0 rfl) ?_
        refine va_get (D := G.1) (ci := 6) (v := .ref bo) (C := RX7) (T := TX7) (N := 9) hx hb hts inA7 hown hX.1 hP 0 rfl rfl 4 (by decide) (hts _ kw_198) (fun _ h9 => h9) rfl dX7_joins_56 ?_
        refine lv_aload_n hx hb dX7_joins_59 rfl (lv_at hl 0 rfl) ?_
        refine va_get (D := G.1) (ci := 6) (v := .ref (nn 0)) (C := RX7) (T := TX7) (N := 9) hx hb hts inA7 hown hX.1 hP 0 rfl rfl 1 (by decide) (hts _ kw_195) (fun _ h9 => h9) rfl dX7_joins_60 ?_
        refine lv_iload_n hx hb dX7_joins_63 rfl (lv_at hl 1 rfl) ?_
        refine ca_Vv (ci := 0) (q := (RX0, TX0, 1)) (rest := []) (wr := obw G od (td 0) (nn 0) (dd 0) (pd 0) bo (wd 0) (sd 0) (e0 0) (e1 0) kp ++ (paw G pd (min (sz + 1) 6) ((nx + 1) % 6) ads (va_up as nx a) (va_up rs nx r) ++ (wyw G wd u23.1 u23.2))) F hX (mX0_mark l G bo bd u52.1 u52.2 nn (va_up (va_up a 7 ((a 7) ||| 2 ^ v)) 8 ((a 8) ||| wyA a r (a 8) v)) r v (hT.jo (by omega)) (by omega) hc) (cA_V hts kw_455 kw_5 kw_452 kw_453 kw_454 hdX0_mark ⟨Nat.le_of_ble_eq_true rfl, Nat.le_of_ble_eq_true rfl⟩) rfl rfl rfl hl.1 rfl (Nat.le_of_ble_eq_true rfl) dX7_joins_64 ⟨Nat.le_of_ble_eq_true rfl, Nat.le_of_ble_eq_true rfl⟩ hP hD hS hA ((((pm_sw _ _ _).trans ((List.Perm.append_left _ ((List.Perm.append_left _ ((List.Perm.append_left _ (pm_sw _ _ _)).trans (pm_sw _ _ _))).trans (pm_sw _ _ _))).trans (pm_sw _ _ _))).trans ((List.Perm.append_left _ ((List.Perm.append_left _ ((List.Perm.append_left _ (pm_sw _ _ _)).trans (pm_sw _ _ _))).trans (pm_sw _ _ _))).trans (pm_sw _ _ _))).trans (List.Perm.of_eq (by simp only [List.append_assoc]))) (fun u64 H locs hp64 hP hD hS => ?_)
        have hP : va_P G.1 vwCl (obw G od (td 0) (nn 0) (dd 0) (pd 0) bo (wd 0) (sd 0) (e0 0) (e1 0) kp ++ (tkw G nn ((mkP (va_up (va_up a 7 ((a 7) ||| 2 ^ v)) 8 ((a 8) ||| wyA a r (a 8) v)) r v).1) ((mkP (va_up (va_up a 7 ((a 7) ||| 2 ^ v)) 8 ((a 8) ||| wyA a r (a 8) v)) r v).2) ++ (paw G pd (min (sz + 1) 6) ((nx + 1) % 6) ads (va_up as nx a) (va_up rs nx r) ++ (bow bo (bd 0) ++ (wyw G bd u64.1 u64.2 ++ (wyw G wd u23.1 u23.2)))))) H := wp_pm ((((pm_sw _ _ _).trans ((List.Perm.append_left _ ((List.Perm.append_left _ ((List.Perm.append_left _ (pm_sw _ _ _)).trans (pm_sw _ _ _))).trans (pm_sw _ _ _))).trans (pm_sw _ _ _))).trans ((List.Perm.append_left _ ((List.Perm.append_left _ ((List.Perm.append_left _ (pm_sw _ _ _)).trans (pm_sw _ _ _))).trans (pm_sw _ _ _))).trans (pm_sw _ _ _))).trans (List.Perm.of_eq (by simp only [List.append_assoc]))).symm hP
        have hD : va_D A (obw G od (td 0) (nn 0) (dd 0) (pd 0) bo (wd 0) (sd 0) (e0 0) (e1 0) kp ++ (tkw G nn ((mkP (va_up (va_up a 7 ((a 7) ||| 2 ^ v)) 8 ((a 8) ||| wyA a r (a 8) v)) r v).1) ((mkP (va_up (va_up a 7 ((a 7) ||| 2 ^ v)) 8 ((a 8) ||| wyA a r (a 8) v)) r v).2) ++ (paw G pd (min (sz + 1) 6) ((nx + 1) % 6) ads (va_up as nx a) (va_up rs nx r) ++ (bow bo (bd 0) ++ (wyw G bd u64.1 u64.2 ++ (wyw G wd u23.1 u23.2)))))) := wd_pm ((((pm_sw _ _ _).trans ((List.Perm.append_left _ ((List.Perm.append_left _ ((List.Perm.append_left _ (pm_sw _ _ _)).trans (pm_sw _ _ _))).trans (pm_sw _ _ _))).trans (pm_sw _ _ _))).trans ((List.Perm.append_left _ ((List.Perm.append_left _ ((List.Perm.append_left _ (pm_sw _ _ _)).trans (pm_sw _ _ _))).trans (pm_sw _ _ _))).trans (pm_sw _ _ _))).trans (List.Perm.of_eq (by simp only [List.append_assoc]))).symm hD
        refine lv_aload_n hx hb dX7_joins_67 rfl (lv_at hl 0 rfl) ?_
        refine va_get (D := G.1) (ci := 6) (v := .ref (nn 0)) (C := RX7) (T := TX7) (N := 9) hx hb hts inA7 hown hX.1 hP 0 rfl rfl 1 (by decide) (hts _ kw_195) (fun _ h9 => h9) rfl dX7_joins_68 ?_
        refine lv_aload_n hx hb dX7_joins_71 rfl (lv_at hl 0 rfl) ?_
        refine va_get (D := G.1) (ci := 6) (v := .ref (nn 0)) (C := RX7) (T := TX7) (N := 9) hx hb hts inA7 hown hX.1 hP 0 rfl rfl 1 (by decide) (hts _ kw_195) (fun _ h9 => h9) rfl dX7_joins_72 ?_
        refine va_get (D := G.1) (ci := 3) (v := .int (nI (((mkP (va_up (va_up a 7 ((a 7) ||| 2 ^ v)) 8 ((a 8) ||| wyA a r (a 8) v)) r v).1) 8))) (C := RX4) (T := TX4) (N := 12) hx hb hts inA4 hown hX.1 hP 3 rfl rfl 8 (by decide) (hts _ kw_99) (fun _ h9 => h9) rfl dX7_joins_75 ?_
        refine ca_Vi (ci := 3) (q := (RX4, TX4, 12)) (rest := []) (wr := obw G od (td 0) (nn 0) (dd 0) (pd 0) bo (wd 0) (sd 0) (e0 0) (e1 0) kp ++ (paw G pd (min (sz + 1) 6) ((nx + 1) % 6) ads (va_up as nx a) (va_up rs nx r) ++ (bow bo (bd 0) ++ (wyw G bd u64.1 u64.2 ++ (wyw G wd u23.1 u23.2))))) F hX (mX4_costOf l G nn ((mkP (va_up (va_up a 7 ((a 7) ||| 2 ^ v)) 8 ((a 8) ||| wyA a r (a 8) v)) r v).1) ((mkP (va_up (va_up a 7 ((a 7) ||| 2 ^ v)) 8 ((a 8) ||| wyA a r (a 8) v)) r v).2) (((mkP (va_up (va_up a 7 ((a 7) ||| 2 ^ v)) 8 ((a 8) ||| wyA a r (a 8) v)) r v).1) 8) hT2 t9b) (cA_V hts kw_487 kw_3 kw_488 kw_485 kw_486 hdX4_costOf ⟨Nat.le_of_ble_eq_true rfl, Nat.le_of_ble_eq_true rfl⟩) rfl rfl rfl hl.1 rfl (Nat.le_of_ble_eq_true rfl) dX7_joins_78 ⟨Nat.le_of_ble_eq_true rfl, Nat.le_of_ble_eq_true rfl⟩ hP hD hS hA (pm_sw _ _ _) (fun r78 u78 H locs hp78 hP hD hS => ?_)
        have hP : va_P G.1 vwCl (obw G od (td 0) (nn 0) (dd 0) (pd 0) bo (wd 0) (sd 0) (e0 0) (e1 0) kp ++ (tkw G nn ((mkP (va_up (va_up a 7 ((a 7) ||| 2 ^ v)) 8 ((a 8) ||| wyA a r (a 8) v)) r v).1) ((mkP (va_up (va_up a 7 ((a 7) ||| 2 ^ v)) 8 ((a 8) ||| wyA a r (a 8) v)) r v).2) ++ (paw G pd (min (sz + 1) 6) ((nx + 1) % 6) ads (va_up as nx a) (va_up rs nx r) ++ (bow bo (bd 0) ++ (wyw G bd u64.1 u64.2 ++ (wyw G wd u23.1 u23.2)))))) H := wp_pm (pm_sw _ _ _).symm hP
        have hD : va_D A (obw G od (td 0) (nn 0) (dd 0) (pd 0) bo (wd 0) (sd 0) (e0 0) (e1 0) kp ++ (tkw G nn ((mkP (va_up (va_up a 7 ((a 7) ||| 2 ^ v)) 8 ((a 8) ||| wyA a r (a 8) v)) r v).1) ((mkP (va_up (va_up a 7 ((a 7) ||| 2 ^ v)) 8 ((a 8) ||| wyA a r (a 8) v)) r v).2) ++ (paw G pd (min (sz + 1) 6) ((nx + 1) % 6) ads (va_up as nx a) (va_up rs nx r) ++ (bow bo (bd 0) ++ (wyw G bd u64.1 u64.2 ++ (wyw G wd u23.1 u23.2)))))) := wd_pm (pm_sw _ _ _).symm hD
        subst hp78
        exact re_i (v := (nI (cst (((mkP (va_up (va_up a 7 ((a 7) ||| 2 ^ v)) 8 ((a 8) ||| wyA a r (a 8) v)) r v).2) 2) (((mkP (va_up (va_up a 7 ((a 7) ||| 2 ^ v)) 8 ((a 8) ||| wyA a r (a 8) v)) r v).1) 8) (((mkP (va_up (va_up a 7 ((a 7) ||| 2 ^ v)) 8 ((a 8) ||| wyA a r (a 8) v)) r v).1) 3)))) hx hb hr hlocks hS ((u23.1, u23.2), (u64.1, u64.2)) hP hD rfl dX7_joins_81
      · exact absurd hre (of_decide_eq_false c26)
  · exact absurd c8 (by decide)

set_option maxHeartbeats 4000000 in
set_option maxRecDepth 100000 in
theorem mX7_leaves_state (l : Launch) (G : GG) (od td nn dd pd : Nat → Nat) (bo : Nat) (wd sd e0 e1 : Nat → Nat) (kp : Nat → Int32) (a : Nat → Nat) (r : Nat → Nat → Nat) (v : Nat) (hT : TB a r) (hv : v < a 0) (hst : (a 7).testBit v = false) : Mi l yX7_leaves cX7_leaves 2 (some .int) (rmN 2 42) G [.ref (od 0), .int (nI v)] (obw G od (td 0) (nn 0) (dd 0) (pd 0) bo (wd 0) (sd 0) (e0 0) (e1 0) kp ++ (tkw G nn a r)) (fun (r9 : Int32) (_ : Unit) => r9 = (-2)) (fun (_ : Unit) => obw G od (td 0) (nn 0) (dd 0) (pd 0) bo (wd 0) (sd 0) (e0 0) (e1 0) kp ++ (tkw G nn a r)) := by
  refine Mi.of (cc := cX7_leaves) (nL := 2) (by decide) (Nat.le_of_ble_eq_true rfl) ?_
  intro p e s m below meth c A ls F hr hlocks hnm hX hA hD hP hS hl
  have F : CallFix p m c cX7_leaves 2 s [.ref (od 0), .int (nI v)].toArray wA RX7 := F
  obtain ⟨hx, hb, hml, hown, hts⟩ := id F
  have hl : lv_has ls 2 [(0, .ref (od 0)), (1, .int (nI v))] := hl
  obtain ⟨t0, t1, t2, t3, t4, t5, t6, t7, t8, t9, t10, t11, t12⟩ := id hT
  refine lv_aload_n hx hb dX7_leaves_0 rfl (lv_at hl 0 rfl) ?_
  refine va_get (D := G.1) (ci := 6) (v := .ref (nn 0)) (C := RX7) (T := TX7) (N := 9) hx hb hts inA7 hown hX.1 hP 0 rfl rfl 1 (by decide) (hts _ kw_195) (fun _ h9 => h9) rfl dX7_leaves_1 ?_
  refine lv_iload_n hx hb dX7_leaves_4 rfl (lv_at hl 1 rfl) ?_
  refine ca_Vi (ci := 3) (q := (RX4, TX4, 12)) (rest := []) (wr := obw G od (td 0) (nn 0) (dd 0) (pd 0) bo (wd 0) (sd 0) (e0 0) (e1 0) kp) F hX (mX4_hasNode l G nn a r v hT (by omega)) (cA_V hts kw_389 kw_3 kw_386 kw_387 kw_388 hdX4_hasNode ⟨Nat.le_of_ble_eq_true rfl, Nat.le_of_ble_eq_true rfl⟩) rfl rfl rfl hl.1 rfl (Nat.le_of_ble_eq_true rfl) dX7_leaves_5 ⟨Nat.le_of_ble_eq_true rfl, Nat.le_of_ble_eq_true rfl⟩ hP hD hS hA (List.perm_append_comm) (fun r5 u5 H locs hp5 hP hD hS => ?_)
  have hP : va_P G.1 vwCl (obw G od (td 0) (nn 0) (dd 0) (pd 0) bo (wd 0) (sd 0) (e0 0) (e1 0) kp ++ (tkw G nn a r)) H := wp_pm (List.perm_append_comm).symm hP
  have hD : va_D A (obw G od (td 0) (nn 0) (dd 0) (pd 0) bo (wd 0) (sd 0) (e0 0) (e1 0) kp ++ (tkw G nn a r)) := wd_pm (List.perm_append_comm).symm hD
  subst hp5
  refine bv_ne (b := true) (tgt := 13) hx hb dX7_leaves_8 (by decide) (fun c8 => ?_) (fun c8 => ?_)
  · refine lv_aload_n hx hb dX7_leaves_13 rfl (lv_at hl 0 rfl) ?_
    refine va_get (D := G.1) (ci := 6) (v := .ref (nn 0)) (C := RX7) (T := TX7) (N := 9) hx hb hts inA7 hown hX.1 hP 0 rfl rfl 1 (by decide) (hts _ kw_195) (fun _ h9 => h9) rfl dX7_leaves_14 ?_
    refine lv_iload_n hx hb dX7_leaves_17 rfl (lv_at hl 1 rfl) ?_
    refine ca_Vi (ci := 3) (q := (RX4, TX4, 12)) (rest := []) (wr := obw G od (td 0) (nn 0) (dd 0) (pd 0) bo (wd 0) (sd 0) (e0 0) (e1 0) kp) F hX (mX4_isMember l G nn a r v hT (by omega)) (cA_V hts kw_397 kw_3 kw_394 kw_395 kw_396 hdX4_isMember ⟨Nat.le_of_ble_eq_true rfl, Nat.le_of_ble_eq_true rfl⟩) rfl rfl rfl hl.1 rfl (Nat.le_of_ble_eq_true rfl) dX7_leaves_18 ⟨Nat.le_of_ble_eq_true rfl, Nat.le_of_ble_eq_true rfl⟩ hP hD hS hA (List.perm_append_comm) (fun r18 u18 H locs hp18 hP hD hS => ?_)
    have hP : va_P G.1 vwCl (obw G od (td 0) (nn 0) (dd 0) (pd 0) bo (wd 0) (sd 0) (e0 0) (e1 0) kp ++ (tkw G nn a r)) H := wp_pm (List.perm_append_comm).symm hP
    have hD : va_D A (obw G od (td 0) (nn 0) (dd 0) (pd 0) bo (wd 0) (sd 0) (e0 0) (e1 0) kp ++ (tkw G nn a r)) := wd_pm (List.perm_append_comm).symm hD
    subst hp18
    refine bv_ne (b := (a 7).testBit v) (tgt := 27) hx hb dX7_leaves_21 (by decide) (fun c21 => ?_) (fun c21 => ?_)
    · exact absurd (hst.symm.trans c21) (by decide)
    · refine lv_bipush (v := (-2)) hx hb dX7_leaves_24 (by decide) ?_
      exact re_i (v := (-2)) hx hb hr hlocks hS () hP hD rfl dX7_leaves_26
  · exact absurd c8 (by decide)

set_option maxHeartbeats 4000000 in
set_option maxRecDepth 100000 in
theorem mX7_leaves_ok (l : Launch) (G : GG) (od td nn dd pd : Nat → Nat) (bo : Nat) (wd sd e0 e1 : Nat → Nat) (kp : Nat → Int32) (a : Nat → Nat) (r : Nat → Nat → Nat) (sz nx : Nat) (ads as : Nat → Nat → Nat) (rs : Nat → Nat → Nat → Nat) (bd : Nat → Nat) (wb : Nat → Nat) (ub : Nat) (v : Nat) (hT : TB a r) (hz : sz ≤ 6) (hn : nx < 6) (hv : v < a 0) (hst : (a 7).testBit v = true) (hc : mkF (r 3) v (a 10) = none → a 10 < 7) : Mi l yX7_leaves cX7_leaves 2 (some .int) (rmN 7 159) G [.ref (od 0), .int (nI v)] (obw G od (td 0) (nn 0) (dd 0) (pd 0) bo (wd 0) (sd 0) (e0 0) (e1 0) kp ++ (tkw G nn a r ++ (paw G pd sz nx ads as rs ++ (bow bo (bd 0) ++ (wyw G bd wb ub))))) (fun (r9 : Int32) (_ : (Nat → Nat) × Nat) => r9 = nI (coA (mkP (leA a r v) r v).1 (mkP (leA a r v) r v).2 ((mkP (leA a r v) r v).1 8))) (fun (u : (Nat → Nat) × Nat) => obw G od (td 0) (nn 0) (dd 0) (pd 0) bo (wd 0) (sd 0) (e0 0) (e1 0) kp ++ (tkw G nn ((mkP (leA a r v) r v).1) ((mkP (leA a r v) r v).2) ++ (paw G pd (min (sz + 1) 6) ((nx + 1) % 6) ads (va_up as nx a) (va_up rs nx r) ++ (bow bo (bd 0) ++ (wyw G bd u.1 u.2))))) := by
  refine Mi.of (cc := cX7_leaves) (nL := 2) (by decide) (Nat.le_of_ble_eq_true rfl) ?_
  intro p e s m below meth c A ls F hr hlocks hnm hX hA hD hP hS hl
  have F : CallFix p m c cX7_leaves 2 s [.ref (od 0), .int (nI v)].toArray wA RX7 := F
  obtain ⟨hx, hb, hml, hown, hts⟩ := id F
  have hl : lv_has ls 2 [(0, .ref (od 0)), (1, .int (nI v))] := hl
  obtain ⟨t0, t1, t2, t3, t4, t5, t6, t7, t8, t9, t10, t11, t12⟩ := id hT
  have hT2 := (hT.le (v := v)).mp (v := v) (by omega) hc
  have t9b := hT2.2.2.2.2.2.2.2.2.2.1
  refine lv_aload_n hx hb dX7_leaves_0 rfl (lv_at hl 0 rfl) ?_
  refine va_get (D := G.1) (ci := 6) (v := .ref (nn 0)) (C := RX7) (T := TX7) (N := 9) hx hb hts inA7 hown hX.1 hP 0 rfl rfl 1 (by decide) (hts _ kw_195) (fun _ h9 => h9) rfl dX7_leaves_1 ?_
  refine lv_iload_n hx hb dX7_leaves_4 rfl (lv_at hl 1 rfl) ?_
  refine ca_Vi (ci := 3) (q := (RX4, TX4, 12)) (rest := []) (wr := obw G od (td 0) (nn 0) (dd 0) (pd 0) bo (wd 0) (sd 0) (e0 0) (e1 0) kp ++ (paw G pd sz nx ads as rs ++ (bow bo (bd 0) ++ (wyw G bd wb ub)))) F hX (mX4_hasNode l G nn a r v hT (by omega)) (cA_V hts kw_389 kw_3 kw_386 kw_387 kw_388 hdX4_hasNode ⟨Nat.le_of_ble_eq_true rfl, Nat.le_of_ble_eq_true rfl⟩) rfl rfl rfl hl.1 rfl (Nat.le_of_ble_eq_true rfl) dX7_leaves_5 ⟨Nat.le_of_ble_eq_true rfl, Nat.le_of_ble_eq_true rfl⟩ hP hD hS hA (pm_sw _ _ _) (fun r5 u5 H locs hp5 hP hD hS => ?_)
  have hP : va_P G.1 vwCl (obw G od (td 0) (nn 0) (dd 0) (pd 0) bo (wd 0) (sd 0) (e0 0) (e1 0) kp ++ (tkw G nn a r ++ (paw G pd sz nx ads as rs ++ (bow bo (bd 0) ++ (wyw G bd wb ub))))) H := wp_pm (pm_sw _ _ _).symm hP
  have hD : va_D A (obw G od (td 0) (nn 0) (dd 0) (pd 0) bo (wd 0) (sd 0) (e0 0) (e1 0) kp ++ (tkw G nn a r ++ (paw G pd sz nx ads as rs ++ (bow bo (bd 0) ++ (wyw G bd wb ub))))) := wd_pm (pm_sw _ _ _).symm hD
  subst hp5
  refine bv_ne (b := true) (tgt := 13) hx hb dX7_leaves_8 (by decide) (fun c8 => ?_) (fun c8 => ?_)
  · refine lv_aload_n hx hb dX7_leaves_13 rfl (lv_at hl 0 rfl) ?_
    refine va_get (D := G.1) (ci := 6) (v := .ref (nn 0)) (C := RX7) (T := TX7) (N := 9) hx hb hts inA7 hown hX.1 hP 0 rfl rfl 1 (by decide) (hts _ kw_195) (fun _ h9 => h9) rfl dX7_leaves_14 ?_
    refine lv_iload_n hx hb dX7_leaves_17 rfl (lv_at hl 1 rfl) ?_
    refine ca_Vi (ci := 3) (q := (RX4, TX4, 12)) (rest := []) (wr := obw G od (td 0) (nn 0) (dd 0) (pd 0) bo (wd 0) (sd 0) (e0 0) (e1 0) kp ++ (paw G pd sz nx ads as rs ++ (bow bo (bd 0) ++ (wyw G bd wb ub)))) F hX (mX4_isMember l G nn a r v hT (by omega)) (cA_V hts kw_397 kw_3 kw_394 kw_395 kw_396 hdX4_isMember ⟨Nat.le_of_ble_eq_true rfl, Nat.le_of_ble_eq_true rfl⟩) rfl rfl rfl hl.1 rfl (Nat.le_of_ble_eq_true rfl) dX7_leaves_18 ⟨Nat.le_of_ble_eq_true rfl, Nat.le_of_ble_eq_true rfl⟩ hP hD hS hA (pm_sw _ _ _) (fun r18 u18 H locs hp18 hP hD hS => ?_)
    have hP : va_P G.1 vwCl (obw G od (td 0) (nn 0) (dd 0) (pd 0) bo (wd 0) (sd 0) (e0 0) (e1 0) kp ++ (tkw G nn a r ++ (paw G pd sz nx ads as rs ++ (bow bo (bd 0) ++ (wyw G bd wb ub))))) H := wp_pm (pm_sw _ _ _).symm hP
    have hD : va_D A (obw G od (td 0) (nn 0) (dd 0) (pd 0) bo (wd 0) (sd 0) (e0 0) (e1 0) kp ++ (tkw G nn a r ++ (paw G pd sz nx ads as rs ++ (bow bo (bd 0) ++ (wyw G bd wb ub))))) := wd_pm (pm_sw _ _ _).symm hD
    subst hp18
    refine bv_ne (b := (a 7).testBit v) (tgt := 27) hx hb dX7_leaves_21 (by decide) (fun c21 => ?_) (fun c21 => ?_)
    · refine lv_aload_n hx hb dX7_leaves_27 rfl (lv_at hl 0 rfl) ?_
      refine va_get (D := G.1) (ci := 6) (v := .ref (pd 0)) (C := RX7) (T := TX7) (N := 9) hx hb hts inA7 hown hX.1 hP 0 rfl rfl 3 (by decide) (hts _ kw_197) (fun _ h9 => h9) rfl dX7_leaves_28 ?_
      refine lv_aload_n hx hb dX7_leaves_31 rfl (lv_at hl 0 rfl) ?_
      refine va_get (D := G.1) (ci := 6) (v := .ref (nn 0)) (C := RX7) (T := TX7) (N := 9) hx hb hts inA7 hown hX.1 hP 0 rfl rfl 1 (by decide) (hts _ kw_195) (fun _ h9 => h9) rfl dX7_leaves_32 ?_
      refine ca_Vv (ci := 1) (q := (RX2, TX2, 3)) (rest := []) (wr := obw G od (td 0) (nn 0) (dd 0) (pd 0) bo (wd 0) (sd 0) (e0 0) (e1 0) kp ++ (bow bo (bd 0) ++ (wyw G bd wb ub))) F hX (mX2_remember l G pd sz nx ads as rs nn a r hz hn) (cA_V hts kw_369 kw_4 kw_366 kw_367 kw_368 hdX2_remember ⟨Nat.le_of_ble_eq_true rfl, Nat.le_of_ble_eq_true rfl⟩) rfl rfl rfl hl.1 rfl (Nat.le_of_ble_eq_true rfl) dX7_leaves_35 ⟨Nat.le_of_ble_eq_true rfl, Nat.le_of_ble_eq_true rfl⟩ hP hD hS hA (((pm_sw _ _ _).trans ((List.Perm.append_left _ (pm_sw _ _ _)).trans (pm_sw _ _ _))).trans (List.Perm.of_eq (List.append_assoc _ _ _).symm)) (fun u35 H locs hp35 hP hD hS => ?_)
      have hP : va_P G.1 vwCl (obw G od (td 0) (nn 0) (dd 0) (pd 0) bo (wd 0) (sd 0) (e0 0) (e1 0) kp ++ (tkw G nn a r ++ (paw G pd (min (sz + 1) 6) ((nx + 1) % 6) ads (va_up as nx a) (va_up rs nx r) ++ (bow bo (bd 0) ++ (wyw G bd wb ub))))) H := wp_pm (((pm_sw _ _ _).trans ((List.Perm.append_left _ (pm_sw _ _ _)).trans (pm_sw _ _ _))).trans (List.Perm.of_eq (List.append_assoc _ _ _).symm)).symm hP
      have hD : va_D A (obw G od (td 0) (nn 0) (dd 0) (pd 0) bo (wd 0) (sd 0) (e0 0) (e1 0) kp ++ (tkw G nn a r ++ (paw G pd (min (sz + 1) 6) ((nx + 1) % 6) ads (va_up as nx a) (va_up rs nx r) ++ (bow bo (bd 0) ++ (wyw G bd wb ub))))) := wd_pm (((pm_sw _ _ _).trans ((List.Perm.append_left _ (pm_sw _ _ _)).trans (pm_sw _ _ _))).trans (List.Perm.of_eq (List.append_assoc _ _ _).symm)).symm hD
      refine lv_aload_n hx hb dX7_leaves_38 rfl (lv_at hl 0 rfl) ?_
      refine va_get (D := G.1) (ci := 6) (v := .ref bo) (C := RX7) (T := TX7) (N := 9) hx hb hts inA7 hown hX.1 hP 0 rfl rfl 4 (by decide) (hts _ kw_198) (fun _ h9 => h9) rfl dX7_leaves_39 ?_
      refine lv_aload_n hx hb dX7_leaves_42 rfl (lv_at hl 0 rfl) ?_
      refine va_get (D := G.1) (ci := 6) (v := .ref (nn 0)) (C := RX7) (T := TX7) (N := 9) hx hb hts inA7 hown hX.1 hP 0 rfl rfl 1 (by decide) (hts _ kw_195) (fun _ h9 => h9) rfl dX7_leaves_43 ?_
      refine lv_iload_n hx hb dX7_leaves_46 rfl (lv_at hl 1 rfl) ?_
      refine ca_Vv (ci := 0) (q := (RX0, TX0, 1)) (rest := []) (wr := obw G od (td 0) (nn 0) (dd 0) (pd 0) bo (wd 0) (sd 0) (e0 0) (e1 0) kp ++ (paw G pd (min (sz + 1) 6) ((nx + 1) % 6) ads (va_up as nx a) (va_up rs nx r))) F hX (mX0_leave l G bo bd wb ub nn a r v hT (by omega)) (cA_V hts kw_496 kw_5 kw_493 kw_494 kw_495 hdX0_leave ⟨Nat.le_of_ble_eq_true rfl, Nat.le_of_ble_eq_true rfl⟩) rfl rfl rfl hl.1 rfl (Nat.le_of_ble_eq_true rfl) dX7_leaves_47 ⟨Nat.le_of_ble_eq_true rfl, Nat.le_of_ble_eq_true rfl⟩ hP hD hS hA ((((pm_sw _ _ _).trans ((List.Perm.append_left _ ((List.Perm.append_left _ ((List.Perm.append_left _ (List.perm_append_comm)).trans (pm_sw _ _ _))).trans (pm_sw _ _ _))).trans (pm_sw _ _ _))).trans ((List.Perm.append_left _ ((List.Perm.append_left _ ((List.Perm.append_left _ (List.perm_append_comm)).trans (pm_sw _ _ _))).trans (pm_sw _ _ _))).trans (pm_sw _ _ _))).trans (List.Perm.of_eq (by simp only [List.append_assoc]))) (fun u47 H locs hp47 hP hD hS => ?_)
      have hP : va_P G.1 vwCl (obw G od (td 0) (nn 0) (dd 0) (pd 0) bo (wd 0) (sd 0) (e0 0) (e1 0) kp ++ (tkw G nn (va_up (va_up a 7 (nd (a 7) (2 ^ v))) 8 (prA (va_up a 7 (nd (a 7) (2 ^ v))) r)) r ++ (paw G pd (min (sz + 1) 6) ((nx + 1) % 6) ads (va_up as nx a) (va_up rs nx r) ++ (bow bo (bd 0) ++ (wyw G bd u47.1 u47.2))))) H := wp_pm ((((pm_sw _ _ _).trans ((List.Perm.append_left _ ((List.Perm.append_left _ ((List.Perm.append_left _ (List.perm_append_comm)).trans (pm_sw _ _ _))).trans (pm_sw _ _ _))).trans (pm_sw _ _ _))).trans ((List.Perm.append_left _ ((List.Perm.append_left _ ((List.Perm.append_left _ (List.perm_append_comm)).trans (pm_sw _ _ _))).trans (pm_sw _ _ _))).trans (pm_sw _ _ _))).trans (List.Perm.of_eq (by simp only [List.append_assoc]))).symm hP
      have hD : va_D A (obw G od (td 0) (nn 0) (dd 0) (pd 0) bo (wd 0) (sd 0) (e0 0) (e1 0) kp ++ (tkw G nn (va_up (va_up a 7 (nd (a 7) (2 ^ v))) 8 (prA (va_up a 7 (nd (a 7) (2 ^ v))) r)) r ++ (paw G pd (min (sz + 1) 6) ((nx + 1) % 6) ads (va_up as nx a) (va_up rs nx r) ++ (bow bo (bd 0) ++ (wyw G bd u47.1 u47.2))))) := wd_pm ((((pm_sw _ _ _).trans ((List.Perm.append_left _ ((List.Perm.append_left _ ((List.Perm.append_left _ (List.perm_append_comm)).trans (pm_sw _ _ _))).trans (pm_sw _ _ _))).trans (pm_sw _ _ _))).trans ((List.Perm.append_left _ ((List.Perm.append_left _ ((List.Perm.append_left _ (List.perm_append_comm)).trans (pm_sw _ _ _))).trans (pm_sw _ _ _))).trans (pm_sw _ _ _))).trans (List.Perm.of_eq (by simp only [List.append_assoc]))).symm hD
      refine lv_aload_n hx hb dX7_leaves_50 rfl (lv_at hl 0 rfl) ?_
      refine va_get (D := G.1) (ci := 6) (v := .ref bo) (C := RX7) (T := TX7) (N := 9) hx hb hts inA7 hown hX.1 hP 0 rfl rfl 4 (by decide) (hts _ kw_198) (fun _ h9 => h9) rfl dX7_leaves_51 ?_
      refine lv_aload_n hx hb dX7_leaves_54 rfl (lv_at hl 0 rfl) ?_
      refine va_get (D := G.1) (ci := 6) (v := .ref (nn 0)) (C := RX7) (T := TX7) (N := 9) hx hb hts inA7 hown hX.1 hP 0 rfl rfl 1 (by decide) (hts _ kw_195) (fun _ h9 => h9) rfl dX7_leaves_55 ?_
      refine lv_iload_n hx hb dX7_leaves_58 rfl (lv_at hl 1 rfl) ?_
      refine ca_Vv (ci := 0) (q := (RX0, TX0, 1)) (rest := []) (wr := obw G od (td 0) (nn 0) (dd 0) (pd 0) bo (wd 0) (sd 0) (e0 0) (e1 0) kp ++ (paw G pd (min (sz + 1) 6) ((nx + 1) % 6) ads (va_up as nx a) (va_up rs nx r))) F hX (mX0_mark l G bo bd u47.1 u47.2 nn (va_up (va_up a 7 (nd (a 7) (2 ^ v))) 8 (prA (va_up a 7 (nd (a 7) (2 ^ v))) r)) r v hT.le (by omega) hc) (cA_V hts kw_455 kw_5 kw_452 kw_453 kw_454 hdX0_mark ⟨Nat.le_of_ble_eq_true rfl, Nat.le_of_ble_eq_true rfl⟩) rfl rfl rfl hl.1 rfl (Nat.le_of_ble_eq_true rfl) dX7_leaves_59 ⟨Nat.le_of_ble_eq_true rfl, Nat.le_of_ble_eq_true rfl⟩ hP hD hS hA ((((pm_sw _ _ _).trans ((List.Perm.append_left _ ((List.Perm.append_left _ ((List.Perm.append_left _ (List.perm_append_comm)).trans (pm_sw _ _ _))).trans (pm_sw _ _ _))).trans (pm_sw _ _ _))).trans ((List.Perm.append_left _ ((List.Perm.append_left _ ((List.Perm.append_left _ (List.perm_append_comm)).trans (pm_sw _ _ _))).trans (pm_sw _ _ _))).trans (pm_sw _ _ _))).trans (List.Perm.of_eq (by simp only [List.append_assoc]))) (fun u59 H locs hp59 hP hD hS => ?_)
      have hP : va_P G.1 vwCl (obw G od (td 0) (nn 0) (dd 0) (pd 0) bo (wd 0) (sd 0) (e0 0) (e1 0) kp ++ (tkw G nn ((mkP (va_up (va_up a 7 (nd (a 7) (2 ^ v))) 8 (prA (va_up a 7 (nd (a 7) (2 ^ v))) r)) r v).1) ((mkP (va_up (va_up a 7 (nd (a 7) (2 ^ v))) 8 (prA (va_up a 7 (nd (a 7) (2 ^ v))) r)) r v).2) ++ (paw G pd (min (sz + 1) 6) ((nx + 1) % 6) ads (va_up as nx a) (va_up rs nx r) ++ (bow bo (bd 0) ++ (wyw G bd u59.1 u59.2))))) H := wp_pm ((((pm_sw _ _ _).trans ((List.Perm.append_left _ ((List.Perm.append_left _ ((List.Perm.append_left _ (List.perm_append_comm)).trans (pm_sw _ _ _))).trans (pm_sw _ _ _))).trans (pm_sw _ _ _))).trans ((List.Perm.append_left _ ((List.Perm.append_left _ ((List.Perm.append_left _ (List.perm_append_comm)).trans (pm_sw _ _ _))).trans (pm_sw _ _ _))).trans (pm_sw _ _ _))).trans (List.Perm.of_eq (by simp only [List.append_assoc]))).symm hP
      have hD : va_D A (obw G od (td 0) (nn 0) (dd 0) (pd 0) bo (wd 0) (sd 0) (e0 0) (e1 0) kp ++ (tkw G nn ((mkP (va_up (va_up a 7 (nd (a 7) (2 ^ v))) 8 (prA (va_up a 7 (nd (a 7) (2 ^ v))) r)) r v).1) ((mkP (va_up (va_up a 7 (nd (a 7) (2 ^ v))) 8 (prA (va_up a 7 (nd (a 7) (2 ^ v))) r)) r v).2) ++ (paw G pd (min (sz + 1) 6) ((nx + 1) % 6) ads (va_up as nx a) (va_up rs nx r) ++ (bow bo (bd 0) ++ (wyw G bd u59.1 u59.2))))) := wd_pm ((((pm_sw _ _ _).trans ((List.Perm.append_left _ ((List.Perm.append_left _ ((List.Perm.append_left _ (List.perm_append_comm)).trans (pm_sw _ _ _))).trans (pm_sw _ _ _))).trans (pm_sw _ _ _))).trans ((List.Perm.append_left _ ((List.Perm.append_left _ ((List.Perm.append_left _ (List.perm_append_comm)).trans (pm_sw _ _ _))).trans (pm_sw _ _ _))).trans (pm_sw _ _ _))).trans (List.Perm.of_eq (by simp only [List.append_assoc]))).symm hD
      refine lv_aload_n hx hb dX7_leaves_62 rfl (lv_at hl 0 rfl) ?_
      refine va_get (D := G.1) (ci := 6) (v := .ref (nn 0)) (C := RX7) (T := TX7) (N := 9) hx hb hts inA7 hown hX.1 hP 0 rfl rfl 1 (by decide) (hts _ kw_195) (fun _ h9 => h9) rfl dX7_leaves_63 ?_
      refine lv_aload_n hx hb dX7_leaves_66 rfl (lv_at hl 0 rfl) ?_
      refine va_get (D := G.1) (ci := 6) (v := .ref (nn 0)) (C := RX7) (T := TX7) (N := 9) hx hb hts inA7 hown hX.1 hP 0 rfl rfl 1 (by decide) (hts _ kw_195) (fun _ h9 => h9) rfl dX7_leaves_67 ?_
      refine va_get (D := G.1) (ci := 3) (v := .int (nI (((mkP (va_up (va_up a 7 (nd (a 7) (2 ^ v))) 8 (prA (va_up a 7 (nd (a 7) (2 ^ v))) r)) r v).1) 8))) (C := RX4) (T := TX4) (N := 12) hx hb hts inA4 hown hX.1 hP 3 rfl rfl 8 (by decide) (hts _ kw_99) (fun _ h9 => h9) rfl dX7_leaves_70 ?_
      refine ca_Vi (ci := 3) (q := (RX4, TX4, 12)) (rest := []) (wr := obw G od (td 0) (nn 0) (dd 0) (pd 0) bo (wd 0) (sd 0) (e0 0) (e1 0) kp ++ (paw G pd (min (sz + 1) 6) ((nx + 1) % 6) ads (va_up as nx a) (va_up rs nx r) ++ (bow bo (bd 0) ++ (wyw G bd u59.1 u59.2)))) F hX (mX4_costOf l G nn ((mkP (va_up (va_up a 7 (nd (a 7) (2 ^ v))) 8 (prA (va_up a 7 (nd (a 7) (2 ^ v))) r)) r v).1) ((mkP (va_up (va_up a 7 (nd (a 7) (2 ^ v))) 8 (prA (va_up a 7 (nd (a 7) (2 ^ v))) r)) r v).2) (((mkP (va_up (va_up a 7 (nd (a 7) (2 ^ v))) 8 (prA (va_up a 7 (nd (a 7) (2 ^ v))) r)) r v).1) 8) hT2 t9b) (cA_V hts kw_487 kw_3 kw_488 kw_485 kw_486 hdX4_costOf ⟨Nat.le_of_ble_eq_true rfl, Nat.le_of_ble_eq_true rfl⟩) rfl rfl rfl hl.1 rfl (Nat.le_of_ble_eq_true rfl) dX7_leaves_73 ⟨Nat.le_of_ble_eq_true rfl, Nat.le_of_ble_eq_true rfl⟩ hP hD hS hA (pm_sw _ _ _) (fun r73 u73 H locs hp73 hP hD hS => ?_)
      have hP : va_P G.1 vwCl (obw G od (td 0) (nn 0) (dd 0) (pd 0) bo (wd 0) (sd 0) (e0 0) (e1 0) kp ++ (tkw G nn ((mkP (va_up (va_up a 7 (nd (a 7) (2 ^ v))) 8 (prA (va_up a 7 (nd (a 7) (2 ^ v))) r)) r v).1) ((mkP (va_up (va_up a 7 (nd (a 7) (2 ^ v))) 8 (prA (va_up a 7 (nd (a 7) (2 ^ v))) r)) r v).2) ++ (paw G pd (min (sz + 1) 6) ((nx + 1) % 6) ads (va_up as nx a) (va_up rs nx r) ++ (bow bo (bd 0) ++ (wyw G bd u59.1 u59.2))))) H := wp_pm (pm_sw _ _ _).symm hP
      have hD : va_D A (obw G od (td 0) (nn 0) (dd 0) (pd 0) bo (wd 0) (sd 0) (e0 0) (e1 0) kp ++ (tkw G nn ((mkP (va_up (va_up a 7 (nd (a 7) (2 ^ v))) 8 (prA (va_up a 7 (nd (a 7) (2 ^ v))) r)) r v).1) ((mkP (va_up (va_up a 7 (nd (a 7) (2 ^ v))) 8 (prA (va_up a 7 (nd (a 7) (2 ^ v))) r)) r v).2) ++ (paw G pd (min (sz + 1) 6) ((nx + 1) % 6) ads (va_up as nx a) (va_up rs nx r) ++ (bow bo (bd 0) ++ (wyw G bd u59.1 u59.2))))) := wd_pm (pm_sw _ _ _).symm hD
      subst hp73
      exact re_i (v := (nI (cst (((mkP (va_up (va_up a 7 (nd (a 7) (2 ^ v))) 8 (prA (va_up a 7 (nd (a 7) (2 ^ v))) r)) r v).2) 2) (((mkP (va_up (va_up a 7 (nd (a 7) (2 ^ v))) 8 (prA (va_up a 7 (nd (a 7) (2 ^ v))) r)) r v).1) 8) (((mkP (va_up (va_up a 7 (nd (a 7) (2 ^ v))) 8 (prA (va_up a 7 (nd (a 7) (2 ^ v))) r)) r v).1) 3)))) hx hb hr hlocks hS (u59.1, u59.2) hP hD rfl dX7_leaves_76
    · exact absurd (hst.symm.trans c21) (by decide)
  · exact absurd c8 (by decide)

theorem hdX7_rearranges : hdOK yX7_rearranges 0 := by decide +kernel
set_option maxHeartbeats 4000000 in
set_option maxRecDepth 100000 in
theorem mX7_rearranges_state (l : Launch) (G : GG) (od td nn dd pd : Nat → Nat) (bo : Nat) (wd sd e0 e1 : Nat → Nat) (kp : Nat → Int32) (a : Nat → Nat) (r : Nat → Nat → Nat) (bd : Nat → Nat) (wb : Nat → Nat) (ub : Nat) (hT : TB a r) (hno : coA a r (a 8) ≤ coA a r (anA a r)) : Mi l yX7_rearranges cX7_rearranges 2 (some .int) (rmN 5 115) G [.ref (od 0)] (obw G od (td 0) (nn 0) (dd 0) (pd 0) bo (wd 0) (sd 0) (e0 0) (e1 0) kp ++ (tkw G nn a r ++ (bow bo (bd 0) ++ (wyw G bd wb ub)))) (fun (r9 : Int32) (_ : (Nat → Nat) × Nat) => r9 = -2) (fun (u : (Nat → Nat) × Nat) => obw G od (td 0) (nn 0) (dd 0) (pd 0) bo (wd 0) (sd 0) (e0 0) (e1 0) kp ++ (tkw G nn a r ++ (bow bo (bd 0) ++ (wyw G bd u.1 u.2)))) := by
  refine Mi.of (cc := cX7_rearranges) (nL := 2) (by decide) (Nat.le_of_ble_eq_true rfl) ?_
  intro p e s m below meth c A ls F hr hlocks hnm hX hA hD hP hS hl
  have F : CallFix p m c cX7_rearranges 2 s [.ref (od 0)].toArray wA RX7 := F
  obtain ⟨hx, hb, hml, hown, hts⟩ := id F
  have hl : lv_has ls 2 [(0, .ref (od 0))] := hl
  obtain ⟨t0, t1, t2, t3, t4, t5, t6, t7, t8, t9, t10, t11, t12⟩ := id hT
  refine lv_aload_n hx hb dX7_rearranges_0 rfl (lv_at hl 0 rfl) ?_
  refine va_get (D := G.1) (ci := 6) (v := .ref (nn 0)) (C := RX7) (T := TX7) (N := 9) hx hb hts inA7 hown hX.1 hP 0 rfl rfl 1 (by decide) (hts _ kw_195) (fun _ h9 => h9) rfl dX7_rearranges_1 ?_
  refine lv_aload_n hx hb dX7_rearranges_4 rfl (lv_at hl 0 rfl) ?_
  refine va_get (D := G.1) (ci := 6) (v := .ref (nn 0)) (C := RX7) (T := TX7) (N := 9) hx hb hts inA7 hown hX.1 hP 0 rfl rfl 1 (by decide) (hts _ kw_195) (fun _ h9 => h9) rfl dX7_rearranges_5 ?_
  refine va_get (D := G.1) (ci := 3) (v := .int (nI (a 8))) (C := RX4) (T := TX4) (N := 12) hx hb hts inA4 hown hX.1 hP 3 rfl rfl 8 (by decide) (hts _ kw_99) (fun _ h9 => h9) rfl dX7_rearranges_8 ?_
  refine ca_Vi (ci := 3) (q := (RX4, TX4, 12)) (rest := []) (wr := obw G od (td 0) (nn 0) (dd 0) (pd 0) bo (wd 0) (sd 0) (e0 0) (e1 0) kp ++ (bow bo (bd 0) ++ (wyw G bd wb ub))) F hX (mX4_costOf l G nn a r (a 8) hT (by omega)) (cA_V hts kw_487 kw_3 kw_488 kw_485 kw_486 hdX4_costOf ⟨Nat.le_of_ble_eq_true rfl, Nat.le_of_ble_eq_true rfl⟩) rfl rfl rfl hl.1 rfl (Nat.le_of_ble_eq_true rfl) dX7_rearranges_11 ⟨Nat.le_of_ble_eq_true rfl, Nat.le_of_ble_eq_true rfl⟩ hP hD hS hA (pm_sw _ _ _) (fun r11 u11 H locs hp11 hP hD hS => ?_)
  have hP : va_P G.1 vwCl (obw G od (td 0) (nn 0) (dd 0) (pd 0) bo (wd 0) (sd 0) (e0 0) (e1 0) kp ++ (tkw G nn a r ++ (bow bo (bd 0) ++ (wyw G bd wb ub)))) H := wp_pm (pm_sw _ _ _).symm hP
  have hD : va_D A (obw G od (td 0) (nn 0) (dd 0) (pd 0) bo (wd 0) (sd 0) (e0 0) (e1 0) kp ++ (tkw G nn a r ++ (bow bo (bd 0) ++ (wyw G bd wb ub)))) := wd_pm (pm_sw _ _ _).symm hD
  subst hp11
  refine lv_aload_n hx hb dX7_rearranges_14 rfl (lv_at hl 0 rfl) ?_
  refine va_get (D := G.1) (ci := 6) (v := .ref (nn 0)) (C := RX7) (T := TX7) (N := 9) hx hb hts inA7 hown hX.1 hP 0 rfl rfl 1 (by decide) (hts _ kw_195) (fun _ h9 => h9) rfl dX7_rearranges_15 ?_
  refine lv_aload_n hx hb dX7_rearranges_18 rfl (lv_at hl 0 rfl) ?_
  refine va_get (D := G.1) (ci := 6) (v := .ref bo) (C := RX7) (T := TX7) (N := 9) hx hb hts inA7 hown hX.1 hP 0 rfl rfl 4 (by decide) (hts _ kw_198) (fun _ h9 => h9) rfl dX7_rearranges_19 ?_
  refine lv_aload_n hx hb dX7_rearranges_22 rfl (lv_at hl 0 rfl) ?_
  refine va_get (D := G.1) (ci := 6) (v := .ref (nn 0)) (C := RX7) (T := TX7) (N := 9) hx hb hts inA7 hown hX.1 hP 0 rfl rfl 1 (by decide) (hts _ kw_195) (fun _ h9 => h9) rfl dX7_rearranges_23 ?_
  refine ca_Vi (ci := 0) (q := (RX0, TX0, 1)) (rest := [.ref (nn 0), .int (nI (cst (r 2) (a 8) (a 3)))]) (wr := obw G od (td 0) (nn 0) (dd 0) (pd 0) bo (wd 0) (sd 0) (e0 0) (e1 0) kp) F hX (mX0_anew l G bo bd wb ub nn a r  hT) (cA_V hts kw_471 kw_5 kw_511 kw_469 kw_470 hdX0_anew ⟨Nat.le_of_ble_eq_true rfl, Nat.le_of_ble_eq_true rfl⟩) rfl rfl rfl hl.1 rfl (Nat.le_of_ble_eq_true rfl) dX7_rearranges_26 ⟨Nat.le_of_ble_eq_true rfl, Nat.le_of_ble_eq_true rfl⟩ hP hD hS hA ((((pm_sw _ _ _).trans ((List.Perm.append_left _ ((List.Perm.append_left _ (List.perm_append_comm)).trans (pm_sw _ _ _))).trans (pm_sw _ _ _))).trans ((List.Perm.append_left _ ((List.Perm.append_left _ (List.perm_append_comm)).trans (pm_sw _ _ _))).trans (pm_sw _ _ _))).trans (List.Perm.of_eq (by simp only [List.append_assoc]))) (fun r26 u26 H locs hp26 hP hD hS => ?_)
  have hP : va_P G.1 vwCl (obw G od (td 0) (nn 0) (dd 0) (pd 0) bo (wd 0) (sd 0) (e0 0) (e1 0) kp ++ (tkw G nn a r ++ (bow bo (bd 0) ++ (wyw G bd u26.1 u26.2)))) H := wp_pm ((((pm_sw _ _ _).trans ((List.Perm.append_left _ ((List.Perm.append_left _ (List.perm_append_comm)).trans (pm_sw _ _ _))).trans (pm_sw _ _ _))).trans ((List.Perm.append_left _ ((List.Perm.append_left _ (List.perm_append_comm)).trans (pm_sw _ _ _))).trans (pm_sw _ _ _))).trans (List.Perm.of_eq (by simp only [List.append_assoc]))).symm hP
  have hD : va_D A (obw G od (td 0) (nn 0) (dd 0) (pd 0) bo (wd 0) (sd 0) (e0 0) (e1 0) kp ++ (tkw G nn a r ++ (bow bo (bd 0) ++ (wyw G bd u26.1 u26.2)))) := wd_pm ((((pm_sw _ _ _).trans ((List.Perm.append_left _ ((List.Perm.append_left _ (List.perm_append_comm)).trans (pm_sw _ _ _))).trans (pm_sw _ _ _))).trans ((List.Perm.append_left _ ((List.Perm.append_left _ (List.perm_append_comm)).trans (pm_sw _ _ _))).trans (pm_sw _ _ _))).trans (List.Perm.of_eq (by simp only [List.append_assoc]))).symm hD
  subst hp26
  refine ca_Vi (ci := 3) (q := (RX4, TX4, 12)) (rest := [.int (nI (cst (r 2) (a 8) (a 3)))]) (wr := obw G od (td 0) (nn 0) (dd 0) (pd 0) bo (wd 0) (sd 0) (e0 0) (e1 0) kp ++ (bow bo (bd 0) ++ (wyw G bd u26.1 u26.2))) F hX (mX4_costOf l G nn a r (anA a r) hT (anA_lt hT)) (cA_V hts kw_487 kw_3 kw_488 kw_485 kw_486 hdX4_costOf ⟨Nat.le_of_ble_eq_true rfl, Nat.le_of_ble_eq_true rfl⟩) rfl rfl rfl hl.1 rfl (Nat.le_of_ble_eq_true rfl) dX7_rearranges_29 ⟨Nat.le_of_ble_eq_true rfl, Nat.le_of_ble_eq_true rfl⟩ hP hD hS hA (pm_sw _ _ _) (fun r29 u29 H locs hp29 hP hD hS => ?_)
  have hP : va_P G.1 vwCl (obw G od (td 0) (nn 0) (dd 0) (pd 0) bo (wd 0) (sd 0) (e0 0) (e1 0) kp ++ (tkw G nn a r ++ (bow bo (bd 0) ++ (wyw G bd u26.1 u26.2)))) H := wp_pm (pm_sw _ _ _).symm hP
  have hD : va_D A (obw G od (td 0) (nn 0) (dd 0) (pd 0) bo (wd 0) (sd 0) (e0 0) (e1 0) kp ++ (tkw G nn a r ++ (bow bo (bd 0) ++ (wyw G bd u26.1 u26.2)))) := wd_pm (pm_sw _ _ _).symm hD
  subst hp29
  refine lv_isub hx hb dX7_rearranges_32 (ti (y := (nI (coA a r (a 8)) - nI (coA a r (anA a r)))) rfl ?_)
  refine lv_istore_n (lv' := [(1, .int (nI (coA a r (a 8)) - nI (coA a r (anA a r)))), (0, .ref (od 0))]) hx hb dX7_rearranges_33 rfl hl (by decide) rfl (fun ls hl => ?_)
  refine lv_iload_n hx hb dX7_rearranges_34 rfl (lv_at hl 0 rfl) ?_
  refine lv_if_gt (x := (nI (coA a r (a 8)) - nI (coA a r (anA a r)))) (tgt := 41) hx hb dX7_rearranges_35 (by decide) (fun c35 => ?_) (fun c35 => ?_)
  · exact absurd c35 (fun h => absurd ((ls_gt (coA_le hT _) (coA_le hT _)).mp h) (by omega))
  · refine lv_bipush (v := (-2)) hx hb dX7_rearranges_38 (by decide) ?_
    exact re_i (v := (-2)) hx hb hr hlocks hS (u26.1, u26.2) hP hD rfl dX7_rearranges_40

set_option maxHeartbeats 4000000 in
set_option maxRecDepth 100000 in
theorem mX7_rearranges_ok (l : Launch) (G : GG) (od td nn dd pd : Nat → Nat) (bo : Nat) (wd sd e0 e1 : Nat → Nat) (kp : Nat → Int32) (a : Nat → Nat) (r : Nat → Nat → Nat) (sz nx : Nat) (ads as : Nat → Nat → Nat) (rs : Nat → Nat → Nat → Nat) (bd : Nat → Nat) (wb : Nat → Nat) (ub : Nat) (hT : TB a r) (hz : sz ≤ 6) (hn : nx < 6) (hno : coA a r (anA a r) < coA a r (a 8)) : Mi l yX7_rearranges cX7_rearranges 2 (some .int) (rmN 6 137) G [.ref (od 0)] (obw G od (td 0) (nn 0) (dd 0) (pd 0) bo (wd 0) (sd 0) (e0 0) (e1 0) kp ++ (tkw G nn a r ++ (paw G pd sz nx ads as rs ++ (bow bo (bd 0) ++ (wyw G bd wb ub))))) (fun (r9 : Int32) (_ : (Nat → Nat) × Nat) => r9 = nI (coA a r (a 8) - coA a r (anA a r))) (fun (u : (Nat → Nat) × Nat) => obw G od (td 0) (nn 0) (dd 0) (pd 0) bo (wd 0) (sd 0) (e0 0) (e1 0) kp ++ (tkw G nn (rrA a r) r ++ (paw G pd (min (sz + 1) 6) ((nx + 1) % 6) ads (va_up as nx a) (va_up rs nx r) ++ (bow bo (bd 0) ++ (wyw G bd u.1 u.2))))) := by
  refine Mi.of (cc := cX7_rearranges) (nL := 2) (by decide) (Nat.le_of_ble_eq_true rfl) ?_
  intro p e s m below meth c A ls F hr hlocks hnm hX hA hD hP hS hl
  have F : CallFix p m c cX7_rearranges 2 s [.ref (od 0)].toArray wA RX7 := F
  obtain ⟨hx, hb, hml, hown, hts⟩ := id F
  have hl : lv_has ls 2 [(0, .ref (od 0))] := hl
  obtain ⟨t0, t1, t2, t3, t4, t5, t6, t7, t8, t9, t10, t11, t12⟩ := id hT
  refine lv_aload_n hx hb dX7_rearranges_0 rfl (lv_at hl 0 rfl) ?_
  refine va_get (D := G.1) (ci := 6) (v := .ref (nn 0)) (C := RX7) (T := TX7) (N := 9) hx hb hts inA7 hown hX.1 hP 0 rfl rfl 1 (by decide) (hts _ kw_195) (fun _ h9 => h9) rfl dX7_rearranges_1 ?_
  refine lv_aload_n hx hb dX7_rearranges_4 rfl (lv_at hl 0 rfl) ?_
  refine va_get (D := G.1) (ci := 6) (v := .ref (nn 0)) (C := RX7) (T := TX7) (N := 9) hx hb hts inA7 hown hX.1 hP 0 rfl rfl 1 (by decide) (hts _ kw_195) (fun _ h9 => h9) rfl dX7_rearranges_5 ?_
  refine va_get (D := G.1) (ci := 3) (v := .int (nI (a 8))) (C := RX4) (T := TX4) (N := 12) hx hb hts inA4 hown hX.1 hP 3 rfl rfl 8 (by decide) (hts _ kw_99) (fun _ h9 => h9) rfl dX7_rearranges_8 ?_
  refine ca_Vi (ci := 3) (q := (RX4, TX4, 12)) (rest := []) (wr := obw G od (td 0) (nn 0) (dd 0) (pd 0) bo (wd 0) (sd 0) (e0 0) (e1 0) kp ++ (paw G pd sz nx ads as rs ++ (bow bo (bd 0) ++ (wyw G bd wb ub)))) F hX (mX4_costOf l G nn a r (a 8) hT (by omega)) (cA_V hts kw_487 kw_3 kw_488 kw_485 kw_486 hdX4_costOf ⟨Nat.le_of_ble_eq_true rfl, Nat.le_of_ble_eq_true rfl⟩) rfl rfl rfl hl.1 rfl (Nat.le_of_ble_eq_true rfl) dX7_rearranges_11 ⟨Nat.le_of_ble_eq_true rfl, Nat.le_of_ble_eq_true rfl⟩ hP hD hS hA (pm_sw _ _ _) (fun r11 u11 H locs hp11 hP hD hS => ?_)
  have hP : va_P G.1 vwCl (obw G od (td 0) (nn 0) (dd 0) (pd 0) bo (wd 0) (sd 0) (e0 0) (e1 0) kp ++ (tkw G nn a r ++ (paw G pd sz nx ads as rs ++ (bow bo (bd 0) ++ (wyw G bd wb ub))))) H := wp_pm (pm_sw _ _ _).symm hP
  have hD : va_D A (obw G od (td 0) (nn 0) (dd 0) (pd 0) bo (wd 0) (sd 0) (e0 0) (e1 0) kp ++ (tkw G nn a r ++ (paw G pd sz nx ads as rs ++ (bow bo (bd 0) ++ (wyw G bd wb ub))))) := wd_pm (pm_sw _ _ _).symm hD
  subst hp11
  refine lv_aload_n hx hb dX7_rearranges_14 rfl (lv_at hl 0 rfl) ?_
  refine va_get (D := G.1) (ci := 6) (v := .ref (nn 0)) (C := RX7) (T := TX7) (N := 9) hx hb hts inA7 hown hX.1 hP 0 rfl rfl 1 (by decide) (hts _ kw_195) (fun _ h9 => h9) rfl dX7_rearranges_15 ?_
  refine lv_aload_n hx hb dX7_rearranges_18 rfl (lv_at hl 0 rfl) ?_
  refine va_get (D := G.1) (ci := 6) (v := .ref bo) (C := RX7) (T := TX7) (N := 9) hx hb hts inA7 hown hX.1 hP 0 rfl rfl 4 (by decide) (hts _ kw_198) (fun _ h9 => h9) rfl dX7_rearranges_19 ?_
  refine lv_aload_n hx hb dX7_rearranges_22 rfl (lv_at hl 0 rfl) ?_
  refine va_get (D := G.1) (ci := 6) (v := .ref (nn 0)) (C := RX7) (T := TX7) (N := 9) hx hb hts inA7 hown hX.1 hP 0 rfl rfl 1 (by decide) (hts _ kw_195) (fun _ h9 => h9) rfl dX7_rearranges_23 ?_
  refine ca_Vi (ci := 0) (q := (RX0, TX0, 1)) (rest := [.ref (nn 0), .int (nI (cst (r 2) (a 8) (a 3)))]) (wr := obw G od (td 0) (nn 0) (dd 0) (pd 0) bo (wd 0) (sd 0) (e0 0) (e1 0) kp ++ (paw G pd sz nx ads as rs)) F hX (mX0_anew l G bo bd wb ub nn a r  hT) (cA_V hts kw_471 kw_5 kw_511 kw_469 kw_470 hdX0_anew ⟨Nat.le_of_ble_eq_true rfl, Nat.le_of_ble_eq_true rfl⟩) rfl rfl rfl hl.1 rfl (Nat.le_of_ble_eq_true rfl) dX7_rearranges_26 ⟨Nat.le_of_ble_eq_true rfl, Nat.le_of_ble_eq_true rfl⟩ hP hD hS hA ((((pm_sw _ _ _).trans ((List.Perm.append_left _ ((List.Perm.append_left _ ((List.Perm.append_left _ (List.perm_append_comm)).trans (pm_sw _ _ _))).trans (pm_sw _ _ _))).trans (pm_sw _ _ _))).trans ((List.Perm.append_left _ ((List.Perm.append_left _ ((List.Perm.append_left _ (List.perm_append_comm)).trans (pm_sw _ _ _))).trans (pm_sw _ _ _))).trans (pm_sw _ _ _))).trans (List.Perm.of_eq (by simp only [List.append_assoc]))) (fun r26 u26 H locs hp26 hP hD hS => ?_)
  have hP : va_P G.1 vwCl (obw G od (td 0) (nn 0) (dd 0) (pd 0) bo (wd 0) (sd 0) (e0 0) (e1 0) kp ++ (tkw G nn a r ++ (paw G pd sz nx ads as rs ++ (bow bo (bd 0) ++ (wyw G bd u26.1 u26.2))))) H := wp_pm ((((pm_sw _ _ _).trans ((List.Perm.append_left _ ((List.Perm.append_left _ ((List.Perm.append_left _ (List.perm_append_comm)).trans (pm_sw _ _ _))).trans (pm_sw _ _ _))).trans (pm_sw _ _ _))).trans ((List.Perm.append_left _ ((List.Perm.append_left _ ((List.Perm.append_left _ (List.perm_append_comm)).trans (pm_sw _ _ _))).trans (pm_sw _ _ _))).trans (pm_sw _ _ _))).trans (List.Perm.of_eq (by simp only [List.append_assoc]))).symm hP
  have hD : va_D A (obw G od (td 0) (nn 0) (dd 0) (pd 0) bo (wd 0) (sd 0) (e0 0) (e1 0) kp ++ (tkw G nn a r ++ (paw G pd sz nx ads as rs ++ (bow bo (bd 0) ++ (wyw G bd u26.1 u26.2))))) := wd_pm ((((pm_sw _ _ _).trans ((List.Perm.append_left _ ((List.Perm.append_left _ ((List.Perm.append_left _ (List.perm_append_comm)).trans (pm_sw _ _ _))).trans (pm_sw _ _ _))).trans (pm_sw _ _ _))).trans ((List.Perm.append_left _ ((List.Perm.append_left _ ((List.Perm.append_left _ (List.perm_append_comm)).trans (pm_sw _ _ _))).trans (pm_sw _ _ _))).trans (pm_sw _ _ _))).trans (List.Perm.of_eq (by simp only [List.append_assoc]))).symm hD
  subst hp26
  refine ca_Vi (ci := 3) (q := (RX4, TX4, 12)) (rest := [.int (nI (cst (r 2) (a 8) (a 3)))]) (wr := obw G od (td 0) (nn 0) (dd 0) (pd 0) bo (wd 0) (sd 0) (e0 0) (e1 0) kp ++ (paw G pd sz nx ads as rs ++ (bow bo (bd 0) ++ (wyw G bd u26.1 u26.2)))) F hX (mX4_costOf l G nn a r (anA a r) hT (anA_lt hT)) (cA_V hts kw_487 kw_3 kw_488 kw_485 kw_486 hdX4_costOf ⟨Nat.le_of_ble_eq_true rfl, Nat.le_of_ble_eq_true rfl⟩) rfl rfl rfl hl.1 rfl (Nat.le_of_ble_eq_true rfl) dX7_rearranges_29 ⟨Nat.le_of_ble_eq_true rfl, Nat.le_of_ble_eq_true rfl⟩ hP hD hS hA (pm_sw _ _ _) (fun r29 u29 H locs hp29 hP hD hS => ?_)
  have hP : va_P G.1 vwCl (obw G od (td 0) (nn 0) (dd 0) (pd 0) bo (wd 0) (sd 0) (e0 0) (e1 0) kp ++ (tkw G nn a r ++ (paw G pd sz nx ads as rs ++ (bow bo (bd 0) ++ (wyw G bd u26.1 u26.2))))) H := wp_pm (pm_sw _ _ _).symm hP
  have hD : va_D A (obw G od (td 0) (nn 0) (dd 0) (pd 0) bo (wd 0) (sd 0) (e0 0) (e1 0) kp ++ (tkw G nn a r ++ (paw G pd sz nx ads as rs ++ (bow bo (bd 0) ++ (wyw G bd u26.1 u26.2))))) := wd_pm (pm_sw _ _ _).symm hD
  subst hp29
  refine lv_isub hx hb dX7_rearranges_32 (ti (y := (nI (coA a r (a 8)) - nI (coA a r (anA a r)))) rfl ?_)
  refine lv_istore_n (lv' := [(1, .int (nI (coA a r (a 8)) - nI (coA a r (anA a r)))), (0, .ref (od 0))]) hx hb dX7_rearranges_33 rfl hl (by decide) rfl (fun ls hl => ?_)
  refine lv_iload_n hx hb dX7_rearranges_34 rfl (lv_at hl 0 rfl) ?_
  refine lv_if_gt (x := (nI (coA a r (a 8)) - nI (coA a r (anA a r)))) (tgt := 41) hx hb dX7_rearranges_35 (by decide) (fun c35 => ?_) (fun c35 => ?_)
  · refine lv_aload_n hx hb dX7_rearranges_41 rfl (lv_at hl 1 rfl) ?_
    refine va_get (D := G.1) (ci := 6) (v := .ref (pd 0)) (C := RX7) (T := TX7) (N := 9) hx hb hts inA7 hown hX.1 hP 0 rfl rfl 3 (by decide) (hts _ kw_197) (fun _ h9 => h9) rfl dX7_rearranges_42 ?_
    refine lv_aload_n hx hb dX7_rearranges_45 rfl (lv_at hl 1 rfl) ?_
    refine va_get (D := G.1) (ci := 6) (v := .ref (nn 0)) (C := RX7) (T := TX7) (N := 9) hx hb hts inA7 hown hX.1 hP 0 rfl rfl 1 (by decide) (hts _ kw_195) (fun _ h9 => h9) rfl dX7_rearranges_46 ?_
    refine ca_Vv (ci := 1) (q := (RX2, TX2, 3)) (rest := []) (wr := obw G od (td 0) (nn 0) (dd 0) (pd 0) bo (wd 0) (sd 0) (e0 0) (e1 0) kp ++ (bow bo (bd 0) ++ (wyw G bd u26.1 u26.2))) F hX (mX2_remember l G pd sz nx ads as rs nn a r hz hn) (cA_V hts kw_369 kw_4 kw_366 kw_367 kw_368 hdX2_remember ⟨Nat.le_of_ble_eq_true rfl, Nat.le_of_ble_eq_true rfl⟩) rfl rfl rfl hl.1 rfl (Nat.le_of_ble_eq_true rfl) dX7_rearranges_49 ⟨Nat.le_of_ble_eq_true rfl, Nat.le_of_ble_eq_true rfl⟩ hP hD hS hA (((pm_sw _ _ _).trans ((List.Perm.append_left _ (pm_sw _ _ _)).trans (pm_sw _ _ _))).trans (List.Perm.of_eq (List.append_assoc _ _ _).symm)) (fun u49 H locs hp49 hP hD hS => ?_)
    have hP : va_P G.1 vwCl (obw G od (td 0) (nn 0) (dd 0) (pd 0) bo (wd 0) (sd 0) (e0 0) (e1 0) kp ++ (tkw G nn a r ++ (paw G pd (min (sz + 1) 6) ((nx + 1) % 6) ads (va_up as nx a) (va_up rs nx r) ++ (bow bo (bd 0) ++ (wyw G bd u26.1 u26.2))))) H := wp_pm (((pm_sw _ _ _).trans ((List.Perm.append_left _ (pm_sw _ _ _)).trans (pm_sw _ _ _))).trans (List.Perm.of_eq (List.append_assoc _ _ _).symm)).symm hP
    have hD : va_D A (obw G od (td 0) (nn 0) (dd 0) (pd 0) bo (wd 0) (sd 0) (e0 0) (e1 0) kp ++ (tkw G nn a r ++ (paw G pd (min (sz + 1) 6) ((nx + 1) % 6) ads (va_up as nx a) (va_up rs nx r) ++ (bow bo (bd 0) ++ (wyw G bd u26.1 u26.2))))) := wd_pm (((pm_sw _ _ _).trans ((List.Perm.append_left _ (pm_sw _ _ _)).trans (pm_sw _ _ _))).trans (List.Perm.of_eq (List.append_assoc _ _ _).symm)).symm hD
    refine lv_aload_n hx hb dX7_rearranges_52 rfl (lv_at hl 1 rfl) ?_
    refine va_get (D := G.1) (ci := 6) (v := .ref bo) (C := RX7) (T := TX7) (N := 9) hx hb hts inA7 hown hX.1 hP 0 rfl rfl 4 (by decide) (hts _ kw_198) (fun _ h9 => h9) rfl dX7_rearranges_53 ?_
    refine lv_aload_n hx hb dX7_rearranges_56 rfl (lv_at hl 1 rfl) ?_
    refine va_get (D := G.1) (ci := 6) (v := .ref (nn 0)) (C := RX7) (T := TX7) (N := 9) hx hb hts inA7 hown hX.1 hP 0 rfl rfl 1 (by decide) (hts _ kw_195) (fun _ h9 => h9) rfl dX7_rearranges_57 ?_
    refine ca_Vv (ci := 0) (q := (RX0, TX0, 1)) (rest := []) (wr := obw G od (td 0) (nn 0) (dd 0) (pd 0) bo (wd 0) (sd 0) (e0 0) (e1 0) kp ++ (paw G pd (min (sz + 1) 6) ((nx + 1) % 6) ads (va_up as nx a) (va_up rs nx r))) F hX (mX0_rearrange l G bo bd u26.1 u26.2 nn a r  hT) (cA_V hts kw_467 kw_5 kw_512 kw_465 kw_466 hdX0_rearrange ⟨Nat.le_of_ble_eq_true rfl, Nat.le_of_ble_eq_true rfl⟩) rfl rfl rfl hl.1 rfl (Nat.le_of_ble_eq_true rfl) dX7_rearranges_60 ⟨Nat.le_of_ble_eq_true rfl, Nat.le_of_ble_eq_true rfl⟩ hP hD hS hA ((((pm_sw _ _ _).trans ((List.Perm.append_left _ ((List.Perm.append_left _ ((List.Perm.append_left _ (List.perm_append_comm)).trans (pm_sw _ _ _))).trans (pm_sw _ _ _))).trans (pm_sw _ _ _))).trans ((List.Perm.append_left _ ((List.Perm.append_left _ ((List.Perm.append_left _ (List.perm_append_comm)).trans (pm_sw _ _ _))).trans (pm_sw _ _ _))).trans (pm_sw _ _ _))).trans (List.Perm.of_eq (by simp only [List.append_assoc]))) (fun u60 H locs hp60 hP hD hS => ?_)
    have hP : va_P G.1 vwCl (obw G od (td 0) (nn 0) (dd 0) (pd 0) bo (wd 0) (sd 0) (e0 0) (e1 0) kp ++ (tkw G nn (rrA a r) r ++ (paw G pd (min (sz + 1) 6) ((nx + 1) % 6) ads (va_up as nx a) (va_up rs nx r) ++ (bow bo (bd 0) ++ (wyw G bd u60.1 u60.2))))) H := wp_pm ((((pm_sw _ _ _).trans ((List.Perm.append_left _ ((List.Perm.append_left _ ((List.Perm.append_left _ (List.perm_append_comm)).trans (pm_sw _ _ _))).trans (pm_sw _ _ _))).trans (pm_sw _ _ _))).trans ((List.Perm.append_left _ ((List.Perm.append_left _ ((List.Perm.append_left _ (List.perm_append_comm)).trans (pm_sw _ _ _))).trans (pm_sw _ _ _))).trans (pm_sw _ _ _))).trans (List.Perm.of_eq (by simp only [List.append_assoc]))).symm hP
    have hD : va_D A (obw G od (td 0) (nn 0) (dd 0) (pd 0) bo (wd 0) (sd 0) (e0 0) (e1 0) kp ++ (tkw G nn (rrA a r) r ++ (paw G pd (min (sz + 1) 6) ((nx + 1) % 6) ads (va_up as nx a) (va_up rs nx r) ++ (bow bo (bd 0) ++ (wyw G bd u60.1 u60.2))))) := wd_pm ((((pm_sw _ _ _).trans ((List.Perm.append_left _ ((List.Perm.append_left _ ((List.Perm.append_left _ (List.perm_append_comm)).trans (pm_sw _ _ _))).trans (pm_sw _ _ _))).trans (pm_sw _ _ _))).trans ((List.Perm.append_left _ ((List.Perm.append_left _ ((List.Perm.append_left _ (List.perm_append_comm)).trans (pm_sw _ _ _))).trans (pm_sw _ _ _))).trans (pm_sw _ _ _))).trans (List.Perm.of_eq (by simp only [List.append_assoc]))).symm hD
    refine lv_iload_n hx hb dX7_rearranges_63 rfl (lv_at hl 0 rfl) ?_
    exact re_i (v := (nI (coA a r (a 8)) - nI (coA a r (anA a r)))) hx hb hr hlocks hS (u60.1, u60.2) hP hD (pk_sub (by omega)) dX7_rearranges_64
  · exact absurd ((ls_gt (coA_le hT _) (coA_le hT _)).mpr hno) c35

set_option maxHeartbeats 4000000 in
set_option maxRecDepth 100000 in
theorem mX7_cuts_state (l : Launch) (G : GG) (od td nn dd pd : Nat → Nat) (bo : Nat) (wd sd e0 e1 : Nat → Nat) (kp : Nat → Int32) (a : Nat → Nat) (r : Nat → Nat → Nat) (k : Nat) (hT : TB a r) (hk : k < a 3) (hst : (a 9).testBit k = true) : Mi l yX7_cuts cX7_cuts 2 (some .int) (rmN 1 21) G [.ref (od 0), .int (nI k)] (obw G od (td 0) (nn 0) (dd 0) (pd 0) bo (wd 0) (sd 0) (e0 0) (e1 0) kp ++ (tkw G nn a r)) (fun (r9 : Int32) (_ : Unit) => r9 = (-2)) (fun (_ : Unit) => obw G od (td 0) (nn 0) (dd 0) (pd 0) bo (wd 0) (sd 0) (e0 0) (e1 0) kp ++ (tkw G nn a r)) := by
  refine Mi.of (cc := cX7_cuts) (nL := 2) (by decide) (Nat.le_of_ble_eq_true rfl) ?_
  intro p e s m below meth c A ls F hr hlocks hnm hX hA hD hP hS hl
  have F : CallFix p m c cX7_cuts 2 s [.ref (od 0), .int (nI k)].toArray wA RX7 := F
  obtain ⟨hx, hb, hml, hown, hts⟩ := id F
  have hl : lv_has ls 2 [(0, .ref (od 0)), (1, .int (nI k))] := hl
  obtain ⟨t0, t1, t2, t3, t4, t5, t6, t7, t8, t9, t10, t11, t12⟩ := id hT
  refine lv_aload_n hx hb dX7_cuts_0 rfl (lv_at hl 0 rfl) ?_
  refine va_get (D := G.1) (ci := 6) (v := .ref (nn 0)) (C := RX7) (T := TX7) (N := 9) hx hb hts inA7 hown hX.1 hP 0 rfl rfl 1 (by decide) (hts _ kw_195) (fun _ h9 => h9) rfl dX7_cuts_1 ?_
  refine lv_iload_n hx hb dX7_cuts_4 rfl (lv_at hl 1 rfl) ?_
  refine ca_Vi (ci := 3) (q := (RX4, TX4, 12)) (rest := []) (wr := obw G od (td 0) (nn 0) (dd 0) (pd 0) bo (wd 0) (sd 0) (e0 0) (e1 0) kp) F hX (mX4_hasLink l G nn a r k hT (by omega)) (cA_V hts kw_520 kw_3 kw_517 kw_518 kw_519 hdX4_hasLink ⟨Nat.le_of_ble_eq_true rfl, Nat.le_of_ble_eq_true rfl⟩) rfl rfl rfl hl.1 rfl (Nat.le_of_ble_eq_true rfl) dX7_cuts_5 ⟨Nat.le_of_ble_eq_true rfl, Nat.le_of_ble_eq_true rfl⟩ hP hD hS hA (List.perm_append_comm) (fun r5 u5 H locs hp5 hP hD hS => ?_)
  have hP : va_P G.1 vwCl (obw G od (td 0) (nn 0) (dd 0) (pd 0) bo (wd 0) (sd 0) (e0 0) (e1 0) kp ++ (tkw G nn a r)) H := wp_pm (List.perm_append_comm).symm hP
  have hD : va_D A (obw G od (td 0) (nn 0) (dd 0) (pd 0) bo (wd 0) (sd 0) (e0 0) (e1 0) kp ++ (tkw G nn a r)) := wd_pm (List.perm_append_comm).symm hD
  subst hp5
  refine bv_ne (b := true) (tgt := 13) hx hb dX7_cuts_8 (by decide) (fun c8 => ?_) (fun c8 => ?_)
  · refine lv_aload_n hx hb dX7_cuts_13 rfl (lv_at hl 0 rfl) ?_
    refine va_get (D := G.1) (ci := 6) (v := .ref (nn 0)) (C := RX7) (T := TX7) (N := 9) hx hb hts inA7 hown hX.1 hP 0 rfl rfl 1 (by decide) (hts _ kw_195) (fun _ h9 => h9) rfl dX7_cuts_14 ?_
    refine va_get (D := G.1) (ci := 3) (v := .int (nI (a 9))) (C := RX4) (T := TX4) (N := 12) hx hb hts inA4 hown hX.1 hP 3 rfl rfl 9 (by decide) (hts _ kw_102) (fun _ h9 => h9) rfl dX7_cuts_17 ?_
    refine lv_iload_n hx hb dX7_cuts_20 rfl (lv_at hl 1 rfl) ?_
    refine ca_Si (rest := []) (wr := obw G od (td 0) (nn 0) (dd 0) (pd 0) bo (wd 0) (sd 0) (e0 0) (e1 0) kp ++ (tkw G nn a r)) F hX (mX7_has l G (a 9) k (by omega) (by omega)) (cA_S hts kw_357 kw_1 kw_521 kw_356 hdX7_has ⟨Nat.le_of_ble_eq_true rfl, Nat.le_of_ble_eq_true rfl⟩) rfl hl.1 rfl (Nat.le_of_ble_eq_true rfl) dX7_cuts_21 ⟨Nat.le_of_ble_eq_true rfl, Nat.le_of_ble_eq_true rfl⟩ hP hD hS hA (List.Perm.refl _) (fun r21 u21 H locs hp21 hP hD hS => ?_)
    have hP : va_P G.1 vwCl (obw G od (td 0) (nn 0) (dd 0) (pd 0) bo (wd 0) (sd 0) (e0 0) (e1 0) kp ++ (tkw G nn a r)) H := hP
    have hD : va_D A (obw G od (td 0) (nn 0) (dd 0) (pd 0) bo (wd 0) (sd 0) (e0 0) (e1 0) kp ++ (tkw G nn a r)) := hD
    subst hp21
    refine bv_eq (b := (a 9).testBit k) (tgt := 30) hx hb dX7_cuts_24 (by decide) (fun c24 => ?_) (fun c24 => ?_)
    · exact absurd (hst.symm.trans c24) (by decide)
    · refine lv_bipush (v := (-2)) hx hb dX7_cuts_27 (by decide) ?_
      exact re_i (v := (-2)) hx hb hr hlocks hS () hP hD rfl dX7_cuts_29
  · exact absurd c8 (by decide)

set_option maxHeartbeats 4000000 in
set_option maxRecDepth 100000 in
theorem mX7_mends_state (l : Launch) (G : GG) (od td nn dd pd : Nat → Nat) (bo : Nat) (wd sd e0 e1 : Nat → Nat) (kp : Nat → Int32) (a : Nat → Nat) (r : Nat → Nat → Nat) (k : Nat) (hT : TB a r) (hk : k < a 3) (hst : (a 9).testBit k = false) : Mi l yX7_mends cX7_mends 2 (some .int) (rmN 1 21) G [.ref (od 0), .int (nI k)] (obw G od (td 0) (nn 0) (dd 0) (pd 0) bo (wd 0) (sd 0) (e0 0) (e1 0) kp ++ (tkw G nn a r)) (fun (r9 : Int32) (_ : Unit) => r9 = (-2)) (fun (_ : Unit) => obw G od (td 0) (nn 0) (dd 0) (pd 0) bo (wd 0) (sd 0) (e0 0) (e1 0) kp ++ (tkw G nn a r)) := by
  refine Mi.of (cc := cX7_mends) (nL := 2) (by decide) (Nat.le_of_ble_eq_true rfl) ?_
  intro p e s m below meth c A ls F hr hlocks hnm hX hA hD hP hS hl
  have F : CallFix p m c cX7_mends 2 s [.ref (od 0), .int (nI k)].toArray wA RX7 := F
  obtain ⟨hx, hb, hml, hown, hts⟩ := id F
  have hl : lv_has ls 2 [(0, .ref (od 0)), (1, .int (nI k))] := hl
  obtain ⟨t0, t1, t2, t3, t4, t5, t6, t7, t8, t9, t10, t11, t12⟩ := id hT
  refine lv_aload_n hx hb dX7_mends_0 rfl (lv_at hl 0 rfl) ?_
  refine va_get (D := G.1) (ci := 6) (v := .ref (nn 0)) (C := RX7) (T := TX7) (N := 9) hx hb hts inA7 hown hX.1 hP 0 rfl rfl 1 (by decide) (hts _ kw_195) (fun _ h9 => h9) rfl dX7_mends_1 ?_
  refine lv_iload_n hx hb dX7_mends_4 rfl (lv_at hl 1 rfl) ?_
  refine ca_Vi (ci := 3) (q := (RX4, TX4, 12)) (rest := []) (wr := obw G od (td 0) (nn 0) (dd 0) (pd 0) bo (wd 0) (sd 0) (e0 0) (e1 0) kp) F hX (mX4_hasLink l G nn a r k hT (by omega)) (cA_V hts kw_520 kw_3 kw_517 kw_518 kw_519 hdX4_hasLink ⟨Nat.le_of_ble_eq_true rfl, Nat.le_of_ble_eq_true rfl⟩) rfl rfl rfl hl.1 rfl (Nat.le_of_ble_eq_true rfl) dX7_mends_5 ⟨Nat.le_of_ble_eq_true rfl, Nat.le_of_ble_eq_true rfl⟩ hP hD hS hA (List.perm_append_comm) (fun r5 u5 H locs hp5 hP hD hS => ?_)
  have hP : va_P G.1 vwCl (obw G od (td 0) (nn 0) (dd 0) (pd 0) bo (wd 0) (sd 0) (e0 0) (e1 0) kp ++ (tkw G nn a r)) H := wp_pm (List.perm_append_comm).symm hP
  have hD : va_D A (obw G od (td 0) (nn 0) (dd 0) (pd 0) bo (wd 0) (sd 0) (e0 0) (e1 0) kp ++ (tkw G nn a r)) := wd_pm (List.perm_append_comm).symm hD
  subst hp5
  refine bv_ne (b := true) (tgt := 13) hx hb dX7_mends_8 (by decide) (fun c8 => ?_) (fun c8 => ?_)
  · refine lv_aload_n hx hb dX7_mends_13 rfl (lv_at hl 0 rfl) ?_
    refine va_get (D := G.1) (ci := 6) (v := .ref (nn 0)) (C := RX7) (T := TX7) (N := 9) hx hb hts inA7 hown hX.1 hP 0 rfl rfl 1 (by decide) (hts _ kw_195) (fun _ h9 => h9) rfl dX7_mends_14 ?_
    refine va_get (D := G.1) (ci := 3) (v := .int (nI (a 9))) (C := RX4) (T := TX4) (N := 12) hx hb hts inA4 hown hX.1 hP 3 rfl rfl 9 (by decide) (hts _ kw_102) (fun _ h9 => h9) rfl dX7_mends_17 ?_
    refine lv_iload_n hx hb dX7_mends_20 rfl (lv_at hl 1 rfl) ?_
    refine ca_Si (rest := []) (wr := obw G od (td 0) (nn 0) (dd 0) (pd 0) bo (wd 0) (sd 0) (e0 0) (e1 0) kp ++ (tkw G nn a r)) F hX (mX7_has l G (a 9) k (by omega) (by omega)) (cA_S hts kw_357 kw_1 kw_521 kw_356 hdX7_has ⟨Nat.le_of_ble_eq_true rfl, Nat.le_of_ble_eq_true rfl⟩) rfl hl.1 rfl (Nat.le_of_ble_eq_true rfl) dX7_mends_21 ⟨Nat.le_of_ble_eq_true rfl, Nat.le_of_ble_eq_true rfl⟩ hP hD hS hA (List.Perm.refl _) (fun r21 u21 H locs hp21 hP hD hS => ?_)
    have hP : va_P G.1 vwCl (obw G od (td 0) (nn 0) (dd 0) (pd 0) bo (wd 0) (sd 0) (e0 0) (e1 0) kp ++ (tkw G nn a r)) H := hP
    have hD : va_D A (obw G od (td 0) (nn 0) (dd 0) (pd 0) bo (wd 0) (sd 0) (e0 0) (e1 0) kp ++ (tkw G nn a r)) := hD
    subst hp21
    refine bv_ne (b := (a 9).testBit k) (tgt := 30) hx hb dX7_mends_24 (by decide) (fun c24 => ?_) (fun c24 => ?_)
    · exact absurd (hst.symm.trans c24) (by decide)
    · refine lv_bipush (v := (-2)) hx hb dX7_mends_27 (by decide) ?_
      exact re_i (v := (-2)) hx hb hr hlocks hS () hP hD rfl dX7_mends_29
  · exact absurd c8 (by decide)

set_option maxHeartbeats 4000000 in
set_option maxRecDepth 100000 in
theorem mX7_cuts_no (l : Launch) (G : GG) (od td nn dd pd : Nat → Nat) (bo : Nat) (wd sd e0 e1 : Nat → Nat) (kp : Nat → Int32) (a : Nat → Nat) (r : Nat → Nat → Nat) (sz nx : Nat) (ads as : Nat → Nat → Nat) (rs : Nat → Nat → Nat → Nat) (bd : Nat → Nat) (wb : Nat → Nat) (ub : Nat) (k : Nat) (hT : TB a r) (hz : sz ≤ 6) (hn : nx < 6) (hk : k < a 3) (hst : (a 9).testBit k = false) (ht : (a 8).testBit k = false) : Mi l yX7_cuts cX7_cuts 2 (some .int) (rmN 6 138) G [.ref (od 0), .int (nI k)] (obw G od (td 0) (nn 0) (dd 0) (pd 0) bo (wd 0) (sd 0) (e0 0) (e1 0) kp ++ (tkw G nn a r ++ (paw G pd sz nx ads as rs ++ (bow bo (bd 0) ++ (wyw G bd wb ub))))) (fun (r9 : Int32) (_ : (Nat → Nat) × Nat) => r9 = nI 0) (fun (u : (Nat → Nat) × Nat) => obw G od (td 0) (nn 0) (dd 0) (pd 0) bo (wd 0) (sd 0) (e0 0) (e1 0) kp ++ (tkw G nn (va_up a 9 (a 9 ||| 2 ^ k)) r ++ (paw G pd (min (sz + 1) 6) ((nx + 1) % 6) ads (va_up as nx a) (va_up rs nx r) ++ (bow bo (bd 0) ++ (wyw G bd u.1 u.2))))) := by
  refine Mi.of (cc := cX7_cuts) (nL := 2) (by decide) (Nat.le_of_ble_eq_true rfl) ?_
  intro p e s m below meth c A ls F hr hlocks hnm hX hA hD hP hS hl
  have F : CallFix p m c cX7_cuts 2 s [.ref (od 0), .int (nI k)].toArray wA RX7 := F
  obtain ⟨hx, hb, hml, hown, hts⟩ := id F
  have hl : lv_has ls 2 [(0, .ref (od 0)), (1, .int (nI k))] := hl
  obtain ⟨t0, t1, t2, t3, t4, t5, t6, t7, t8, t9, t10, t11, t12⟩ := id hT
  refine lv_aload_n hx hb dX7_cuts_0 rfl (lv_at hl 0 rfl) ?_
  refine va_get (D := G.1) (ci := 6) (v := .ref (nn 0)) (C := RX7) (T := TX7) (N := 9) hx hb hts inA7 hown hX.1 hP 0 rfl rfl 1 (by decide) (hts _ kw_195) (fun _ h9 => h9) rfl dX7_cuts_1 ?_
  refine lv_iload_n hx hb dX7_cuts_4 rfl (lv_at hl 1 rfl) ?_
  refine ca_Vi (ci := 3) (q := (RX4, TX4, 12)) (rest := []) (wr := obw G od (td 0) (nn 0) (dd 0) (pd 0) bo (wd 0) (sd 0) (e0 0) (e1 0) kp ++ (paw G pd sz nx ads as rs ++ (bow bo (bd 0) ++ (wyw G bd wb ub)))) F hX (mX4_hasLink l G nn a r k hT (by omega)) (cA_V hts kw_520 kw_3 kw_517 kw_518 kw_519 hdX4_hasLink ⟨Nat.le_of_ble_eq_true rfl, Nat.le_of_ble_eq_true rfl⟩) rfl rfl rfl hl.1 rfl (Nat.le_of_ble_eq_true rfl) dX7_cuts_5 ⟨Nat.le_of_ble_eq_true rfl, Nat.le_of_ble_eq_true rfl⟩ hP hD hS hA (pm_sw _ _ _) (fun r5 u5 H locs hp5 hP hD hS => ?_)
  have hP : va_P G.1 vwCl (obw G od (td 0) (nn 0) (dd 0) (pd 0) bo (wd 0) (sd 0) (e0 0) (e1 0) kp ++ (tkw G nn a r ++ (paw G pd sz nx ads as rs ++ (bow bo (bd 0) ++ (wyw G bd wb ub))))) H := wp_pm (pm_sw _ _ _).symm hP
  have hD : va_D A (obw G od (td 0) (nn 0) (dd 0) (pd 0) bo (wd 0) (sd 0) (e0 0) (e1 0) kp ++ (tkw G nn a r ++ (paw G pd sz nx ads as rs ++ (bow bo (bd 0) ++ (wyw G bd wb ub))))) := wd_pm (pm_sw _ _ _).symm hD
  subst hp5
  refine bv_ne (b := true) (tgt := 13) hx hb dX7_cuts_8 (by decide) (fun c8 => ?_) (fun c8 => ?_)
  · refine lv_aload_n hx hb dX7_cuts_13 rfl (lv_at hl 0 rfl) ?_
    refine va_get (D := G.1) (ci := 6) (v := .ref (nn 0)) (C := RX7) (T := TX7) (N := 9) hx hb hts inA7 hown hX.1 hP 0 rfl rfl 1 (by decide) (hts _ kw_195) (fun _ h9 => h9) rfl dX7_cuts_14 ?_
    refine va_get (D := G.1) (ci := 3) (v := .int (nI (a 9))) (C := RX4) (T := TX4) (N := 12) hx hb hts inA4 hown hX.1 hP 3 rfl rfl 9 (by decide) (hts _ kw_102) (fun _ h9 => h9) rfl dX7_cuts_17 ?_
    refine lv_iload_n hx hb dX7_cuts_20 rfl (lv_at hl 1 rfl) ?_
    refine ca_Si (rest := []) (wr := obw G od (td 0) (nn 0) (dd 0) (pd 0) bo (wd 0) (sd 0) (e0 0) (e1 0) kp ++ (tkw G nn a r ++ (paw G pd sz nx ads as rs ++ (bow bo (bd 0) ++ (wyw G bd wb ub))))) F hX (mX7_has l G (a 9) k (by omega) (by omega)) (cA_S hts kw_357 kw_1 kw_521 kw_356 hdX7_has ⟨Nat.le_of_ble_eq_true rfl, Nat.le_of_ble_eq_true rfl⟩) rfl hl.1 rfl (Nat.le_of_ble_eq_true rfl) dX7_cuts_21 ⟨Nat.le_of_ble_eq_true rfl, Nat.le_of_ble_eq_true rfl⟩ hP hD hS hA (List.Perm.refl _) (fun r21 u21 H locs hp21 hP hD hS => ?_)
    have hP : va_P G.1 vwCl (obw G od (td 0) (nn 0) (dd 0) (pd 0) bo (wd 0) (sd 0) (e0 0) (e1 0) kp ++ (tkw G nn a r ++ (paw G pd sz nx ads as rs ++ (bow bo (bd 0) ++ (wyw G bd wb ub))))) H := hP
    have hD : va_D A (obw G od (td 0) (nn 0) (dd 0) (pd 0) bo (wd 0) (sd 0) (e0 0) (e1 0) kp ++ (tkw G nn a r ++ (paw G pd sz nx ads as rs ++ (bow bo (bd 0) ++ (wyw G bd wb ub))))) := hD
    subst hp21
    refine bv_eq (b := (a 9).testBit k) (tgt := 30) hx hb dX7_cuts_24 (by decide) (fun c24 => ?_) (fun c24 => ?_)
    · refine lv_aload_n hx hb dX7_cuts_30 rfl (lv_at hl 0 rfl) ?_
      refine va_get (D := G.1) (ci := 6) (v := .ref (pd 0)) (C := RX7) (T := TX7) (N := 9) hx hb hts inA7 hown hX.1 hP 0 rfl rfl 3 (by decide) (hts _ kw_197) (fun _ h9 => h9) rfl dX7_cuts_31 ?_
      refine lv_aload_n hx hb dX7_cuts_34 rfl (lv_at hl 0 rfl) ?_
      refine va_get (D := G.1) (ci := 6) (v := .ref (nn 0)) (C := RX7) (T := TX7) (N := 9) hx hb hts inA7 hown hX.1 hP 0 rfl rfl 1 (by decide) (hts _ kw_195) (fun _ h9 => h9) rfl dX7_cuts_35 ?_
      refine ca_Vv (ci := 1) (q := (RX2, TX2, 3)) (rest := []) (wr := obw G od (td 0) (nn 0) (dd 0) (pd 0) bo (wd 0) (sd 0) (e0 0) (e1 0) kp ++ (bow bo (bd 0) ++ (wyw G bd wb ub))) F hX (mX2_remember l G pd sz nx ads as rs nn a r hz hn) (cA_V hts kw_369 kw_4 kw_366 kw_367 kw_368 hdX2_remember ⟨Nat.le_of_ble_eq_true rfl, Nat.le_of_ble_eq_true rfl⟩) rfl rfl rfl hl.1 rfl (Nat.le_of_ble_eq_true rfl) dX7_cuts_38 ⟨Nat.le_of_ble_eq_true rfl, Nat.le_of_ble_eq_true rfl⟩ hP hD hS hA (((pm_sw _ _ _).trans ((List.Perm.append_left _ (pm_sw _ _ _)).trans (pm_sw _ _ _))).trans (List.Perm.of_eq (List.append_assoc _ _ _).symm)) (fun u38 H locs hp38 hP hD hS => ?_)
      have hP : va_P G.1 vwCl (obw G od (td 0) (nn 0) (dd 0) (pd 0) bo (wd 0) (sd 0) (e0 0) (e1 0) kp ++ (tkw G nn a r ++ (paw G pd (min (sz + 1) 6) ((nx + 1) % 6) ads (va_up as nx a) (va_up rs nx r) ++ (bow bo (bd 0) ++ (wyw G bd wb ub))))) H := wp_pm (((pm_sw _ _ _).trans ((List.Perm.append_left _ (pm_sw _ _ _)).trans (pm_sw _ _ _))).trans (List.Perm.of_eq (List.append_assoc _ _ _).symm)).symm hP
      have hD : va_D A (obw G od (td 0) (nn 0) (dd 0) (pd 0) bo (wd 0) (sd 0) (e0 0) (e1 0) kp ++ (tkw G nn a r ++ (paw G pd (min (sz + 1) 6) ((nx + 1) % 6) ads (va_up as nx a) (va_up rs nx r) ++ (bow bo (bd 0) ++ (wyw G bd wb ub))))) := wd_pm (((pm_sw _ _ _).trans ((List.Perm.append_left _ (pm_sw _ _ _)).trans (pm_sw _ _ _))).trans (List.Perm.of_eq (List.append_assoc _ _ _).symm)).symm hD
      refine lv_aload_n hx hb dX7_cuts_41 rfl (lv_at hl 0 rfl) ?_
      refine va_get (D := G.1) (ci := 6) (v := .ref bo) (C := RX7) (T := TX7) (N := 9) hx hb hts inA7 hown hX.1 hP 0 rfl rfl 4 (by decide) (hts _ kw_198) (fun _ h9 => h9) rfl dX7_cuts_42 ?_
      refine lv_aload_n hx hb dX7_cuts_45 rfl (lv_at hl 0 rfl) ?_
      refine va_get (D := G.1) (ci := 6) (v := .ref (nn 0)) (C := RX7) (T := TX7) (N := 9) hx hb hts inA7 hown hX.1 hP 0 rfl rfl 1 (by decide) (hts _ kw_195) (fun _ h9 => h9) rfl dX7_cuts_46 ?_
      refine lv_iload_n hx hb dX7_cuts_49 rfl (lv_at hl 1 rfl) ?_
      refine ca_Vi (ci := 0) (q := (RX0, TX0, 1)) (rest := []) (wr := obw G od (td 0) (nn 0) (dd 0) (pd 0) bo (wd 0) (sd 0) (e0 0) (e1 0) kp ++ (paw G pd (min (sz + 1) 6) ((nx + 1) % 6) ads (va_up as nx a) (va_up rs nx r))) F hX (mX0_cut_no l G bo bd wb ub nn a r k hT (by omega) ht) (cA_V hts kw_525 kw_5 kw_522 kw_523 kw_524 hdX0_cut ⟨Nat.le_of_ble_eq_true rfl, Nat.le_of_ble_eq_true rfl⟩) rfl rfl rfl hl.1 rfl (Nat.le_of_ble_eq_true rfl) dX7_cuts_50 ⟨Nat.le_of_ble_eq_true rfl, Nat.le_of_ble_eq_true rfl⟩ hP hD hS hA ((((pm_sw _ _ _).trans ((List.Perm.append_left _ ((List.Perm.append_left _ ((List.Perm.append_left _ (List.perm_append_comm)).trans (pm_sw _ _ _))).trans (pm_sw _ _ _))).trans (pm_sw _ _ _))).trans ((List.Perm.append_left _ ((List.Perm.append_left _ ((List.Perm.append_left _ (List.perm_append_comm)).trans (pm_sw _ _ _))).trans (pm_sw _ _ _))).trans (pm_sw _ _ _))).trans (List.Perm.of_eq (by simp only [List.append_assoc]))) (fun r50 u50 H locs hp50 hP hD hS => ?_)
      have hP : va_P G.1 vwCl (obw G od (td 0) (nn 0) (dd 0) (pd 0) bo (wd 0) (sd 0) (e0 0) (e1 0) kp ++ (tkw G nn (va_up a 9 ((a 9) ||| 2 ^ k)) r ++ (paw G pd (min (sz + 1) 6) ((nx + 1) % 6) ads (va_up as nx a) (va_up rs nx r) ++ (bow bo (bd 0) ++ (wyw G bd u50.1 u50.2))))) H := wp_pm ((((pm_sw _ _ _).trans ((List.Perm.append_left _ ((List.Perm.append_left _ ((List.Perm.append_left _ (List.perm_append_comm)).trans (pm_sw _ _ _))).trans (pm_sw _ _ _))).trans (pm_sw _ _ _))).trans ((List.Perm.append_left _ ((List.Perm.append_left _ ((List.Perm.append_left _ (List.perm_append_comm)).trans (pm_sw _ _ _))).trans (pm_sw _ _ _))).trans (pm_sw _ _ _))).trans (List.Perm.of_eq (by simp only [List.append_assoc]))).symm hP
      have hD : va_D A (obw G od (td 0) (nn 0) (dd 0) (pd 0) bo (wd 0) (sd 0) (e0 0) (e1 0) kp ++ (tkw G nn (va_up a 9 ((a 9) ||| 2 ^ k)) r ++ (paw G pd (min (sz + 1) 6) ((nx + 1) % 6) ads (va_up as nx a) (va_up rs nx r) ++ (bow bo (bd 0) ++ (wyw G bd u50.1 u50.2))))) := wd_pm ((((pm_sw _ _ _).trans ((List.Perm.append_left _ ((List.Perm.append_left _ ((List.Perm.append_left _ (List.perm_append_comm)).trans (pm_sw _ _ _))).trans (pm_sw _ _ _))).trans (pm_sw _ _ _))).trans ((List.Perm.append_left _ ((List.Perm.append_left _ ((List.Perm.append_left _ (List.perm_append_comm)).trans (pm_sw _ _ _))).trans (pm_sw _ _ _))).trans (pm_sw _ _ _))).trans (List.Perm.of_eq (by simp only [List.append_assoc]))).symm hD
      subst hp50
      exact re_i (v := (nI 0)) hx hb hr hlocks hS (u50.1, u50.2) hP hD rfl dX7_cuts_53
    · exact absurd (hst.symm.trans c24) (by decide)
  · exact absurd c8 (by decide)

set_option maxHeartbeats 4000000 in
set_option maxRecDepth 100000 in
theorem mX7_cuts_yes (l : Launch) (G : GG) (od td nn dd pd : Nat → Nat) (bo : Nat) (wd sd e0 e1 : Nat → Nat) (kp : Nat → Int32) (a : Nat → Nat) (r : Nat → Nat → Nat) (sz nx : Nat) (ads as : Nat → Nat → Nat) (rs : Nat → Nat → Nat → Nat) (bd : Nat → Nat) (wb : Nat → Nat) (ub : Nat) (k : Nat) (hT : TB a r) (hz : sz ≤ 6) (hn : nx < 6) (hk : k < a 3) (hst : (a 9).testBit k = false) (ht : (a 8).testBit k = true) : Mi l yX7_cuts cX7_cuts 2 (some .int) (rmN 6 138) G [.ref (od 0), .int (nI k)] (obw G od (td 0) (nn 0) (dd 0) (pd 0) bo (wd 0) (sd 0) (e0 0) (e1 0) kp ++ (tkw G nn a r ++ (paw G pd sz nx ads as rs ++ (bow bo (bd 0) ++ (wyw G bd wb ub))))) (fun (r9 : Int32) (_ : (Nat → Nat) × Nat) => r9 = nI (bts (a 7) 12 - bts (cu3 a r k 7) 12)) (fun (u : (Nat → Nat) × Nat) => obw G od (td 0) (nn 0) (dd 0) (pd 0) bo (wd 0) (sd 0) (e0 0) (e1 0) kp ++ (tkw G nn (cu3 a r k) r ++ (paw G pd (min (sz + 1) 6) ((nx + 1) % 6) ads (va_up as nx a) (va_up rs nx r) ++ (bow bo (bd 0) ++ (wyw G bd u.1 u.2))))) := by
  refine Mi.of (cc := cX7_cuts) (nL := 2) (by decide) (Nat.le_of_ble_eq_true rfl) ?_
  intro p e s m below meth c A ls F hr hlocks hnm hX hA hD hP hS hl
  have F : CallFix p m c cX7_cuts 2 s [.ref (od 0), .int (nI k)].toArray wA RX7 := F
  obtain ⟨hx, hb, hml, hown, hts⟩ := id F
  have hl : lv_has ls 2 [(0, .ref (od 0)), (1, .int (nI k))] := hl
  obtain ⟨t0, t1, t2, t3, t4, t5, t6, t7, t8, t9, t10, t11, t12⟩ := id hT
  refine lv_aload_n hx hb dX7_cuts_0 rfl (lv_at hl 0 rfl) ?_
  refine va_get (D := G.1) (ci := 6) (v := .ref (nn 0)) (C := RX7) (T := TX7) (N := 9) hx hb hts inA7 hown hX.1 hP 0 rfl rfl 1 (by decide) (hts _ kw_195) (fun _ h9 => h9) rfl dX7_cuts_1 ?_
  refine lv_iload_n hx hb dX7_cuts_4 rfl (lv_at hl 1 rfl) ?_
  refine ca_Vi (ci := 3) (q := (RX4, TX4, 12)) (rest := []) (wr := obw G od (td 0) (nn 0) (dd 0) (pd 0) bo (wd 0) (sd 0) (e0 0) (e1 0) kp ++ (paw G pd sz nx ads as rs ++ (bow bo (bd 0) ++ (wyw G bd wb ub)))) F hX (mX4_hasLink l G nn a r k hT (by omega)) (cA_V hts kw_520 kw_3 kw_517 kw_518 kw_519 hdX4_hasLink ⟨Nat.le_of_ble_eq_true rfl, Nat.le_of_ble_eq_true rfl⟩) rfl rfl rfl hl.1 rfl (Nat.le_of_ble_eq_true rfl) dX7_cuts_5 ⟨Nat.le_of_ble_eq_true rfl, Nat.le_of_ble_eq_true rfl⟩ hP hD hS hA (pm_sw _ _ _) (fun r5 u5 H locs hp5 hP hD hS => ?_)
  have hP : va_P G.1 vwCl (obw G od (td 0) (nn 0) (dd 0) (pd 0) bo (wd 0) (sd 0) (e0 0) (e1 0) kp ++ (tkw G nn a r ++ (paw G pd sz nx ads as rs ++ (bow bo (bd 0) ++ (wyw G bd wb ub))))) H := wp_pm (pm_sw _ _ _).symm hP
  have hD : va_D A (obw G od (td 0) (nn 0) (dd 0) (pd 0) bo (wd 0) (sd 0) (e0 0) (e1 0) kp ++ (tkw G nn a r ++ (paw G pd sz nx ads as rs ++ (bow bo (bd 0) ++ (wyw G bd wb ub))))) := wd_pm (pm_sw _ _ _).symm hD
  subst hp5
  refine bv_ne (b := true) (tgt := 13) hx hb dX7_cuts_8 (by decide) (fun c8 => ?_) (fun c8 => ?_)
  · refine lv_aload_n hx hb dX7_cuts_13 rfl (lv_at hl 0 rfl) ?_
    refine va_get (D := G.1) (ci := 6) (v := .ref (nn 0)) (C := RX7) (T := TX7) (N := 9) hx hb hts inA7 hown hX.1 hP 0 rfl rfl 1 (by decide) (hts _ kw_195) (fun _ h9 => h9) rfl dX7_cuts_14 ?_
    refine va_get (D := G.1) (ci := 3) (v := .int (nI (a 9))) (C := RX4) (T := TX4) (N := 12) hx hb hts inA4 hown hX.1 hP 3 rfl rfl 9 (by decide) (hts _ kw_102) (fun _ h9 => h9) rfl dX7_cuts_17 ?_
    refine lv_iload_n hx hb dX7_cuts_20 rfl (lv_at hl 1 rfl) ?_
    refine ca_Si (rest := []) (wr := obw G od (td 0) (nn 0) (dd 0) (pd 0) bo (wd 0) (sd 0) (e0 0) (e1 0) kp ++ (tkw G nn a r ++ (paw G pd sz nx ads as rs ++ (bow bo (bd 0) ++ (wyw G bd wb ub))))) F hX (mX7_has l G (a 9) k (by omega) (by omega)) (cA_S hts kw_357 kw_1 kw_521 kw_356 hdX7_has ⟨Nat.le_of_ble_eq_true rfl, Nat.le_of_ble_eq_true rfl⟩) rfl hl.1 rfl (Nat.le_of_ble_eq_true rfl) dX7_cuts_21 ⟨Nat.le_of_ble_eq_true rfl, Nat.le_of_ble_eq_true rfl⟩ hP hD hS hA (List.Perm.refl _) (fun r21 u21 H locs hp21 hP hD hS => ?_)
    have hP : va_P G.1 vwCl (obw G od (td 0) (nn 0) (dd 0) (pd 0) bo (wd 0) (sd 0) (e0 0) (e1 0) kp ++ (tkw G nn a r ++ (paw G pd sz nx ads as rs ++ (bow bo (bd 0) ++ (wyw G bd wb ub))))) H := hP
    have hD : va_D A (obw G od (td 0) (nn 0) (dd 0) (pd 0) bo (wd 0) (sd 0) (e0 0) (e1 0) kp ++ (tkw G nn a r ++ (paw G pd sz nx ads as rs ++ (bow bo (bd 0) ++ (wyw G bd wb ub))))) := hD
    subst hp21
    refine bv_eq (b := (a 9).testBit k) (tgt := 30) hx hb dX7_cuts_24 (by decide) (fun c24 => ?_) (fun c24 => ?_)
    · refine lv_aload_n hx hb dX7_cuts_30 rfl (lv_at hl 0 rfl) ?_
      refine va_get (D := G.1) (ci := 6) (v := .ref (pd 0)) (C := RX7) (T := TX7) (N := 9) hx hb hts inA7 hown hX.1 hP 0 rfl rfl 3 (by decide) (hts _ kw_197) (fun _ h9 => h9) rfl dX7_cuts_31 ?_
      refine lv_aload_n hx hb dX7_cuts_34 rfl (lv_at hl 0 rfl) ?_
      refine va_get (D := G.1) (ci := 6) (v := .ref (nn 0)) (C := RX7) (T := TX7) (N := 9) hx hb hts inA7 hown hX.1 hP 0 rfl rfl 1 (by decide) (hts _ kw_195) (fun _ h9 => h9) rfl dX7_cuts_35 ?_
      refine ca_Vv (ci := 1) (q := (RX2, TX2, 3)) (rest := []) (wr := obw G od (td 0) (nn 0) (dd 0) (pd 0) bo (wd 0) (sd 0) (e0 0) (e1 0) kp ++ (bow bo (bd 0) ++ (wyw G bd wb ub))) F hX (mX2_remember l G pd sz nx ads as rs nn a r hz hn) (cA_V hts kw_369 kw_4 kw_366 kw_367 kw_368 hdX2_remember ⟨Nat.le_of_ble_eq_true rfl, Nat.le_of_ble_eq_true rfl⟩) rfl rfl rfl hl.1 rfl (Nat.le_of_ble_eq_true rfl) dX7_cuts_38 ⟨Nat.le_of_ble_eq_true rfl, Nat.le_of_ble_eq_true rfl⟩ hP hD hS hA (((pm_sw _ _ _).trans ((List.Perm.append_left _ (pm_sw _ _ _)).trans (pm_sw _ _ _))).trans (List.Perm.of_eq (List.append_assoc _ _ _).symm)) (fun u38 H locs hp38 hP hD hS => ?_)
      have hP : va_P G.1 vwCl (obw G od (td 0) (nn 0) (dd 0) (pd 0) bo (wd 0) (sd 0) (e0 0) (e1 0) kp ++ (tkw G nn a r ++ (paw G pd (min (sz + 1) 6) ((nx + 1) % 6) ads (va_up as nx a) (va_up rs nx r) ++ (bow bo (bd 0) ++ (wyw G bd wb ub))))) H := wp_pm (((pm_sw _ _ _).trans ((List.Perm.append_left _ (pm_sw _ _ _)).trans (pm_sw _ _ _))).trans (List.Perm.of_eq (List.append_assoc _ _ _).symm)).symm hP
      have hD : va_D A (obw G od (td 0) (nn 0) (dd 0) (pd 0) bo (wd 0) (sd 0) (e0 0) (e1 0) kp ++ (tkw G nn a r ++ (paw G pd (min (sz + 1) 6) ((nx + 1) % 6) ads (va_up as nx a) (va_up rs nx r) ++ (bow bo (bd 0) ++ (wyw G bd wb ub))))) := wd_pm (((pm_sw _ _ _).trans ((List.Perm.append_left _ (pm_sw _ _ _)).trans (pm_sw _ _ _))).trans (List.Perm.of_eq (List.append_assoc _ _ _).symm)).symm hD
      refine lv_aload_n hx hb dX7_cuts_41 rfl (lv_at hl 0 rfl) ?_
      refine va_get (D := G.1) (ci := 6) (v := .ref bo) (C := RX7) (T := TX7) (N := 9) hx hb hts inA7 hown hX.1 hP 0 rfl rfl 4 (by decide) (hts _ kw_198) (fun _ h9 => h9) rfl dX7_cuts_42 ?_
      refine lv_aload_n hx hb dX7_cuts_45 rfl (lv_at hl 0 rfl) ?_
      refine va_get (D := G.1) (ci := 6) (v := .ref (nn 0)) (C := RX7) (T := TX7) (N := 9) hx hb hts inA7 hown hX.1 hP 0 rfl rfl 1 (by decide) (hts _ kw_195) (fun _ h9 => h9) rfl dX7_cuts_46 ?_
      refine lv_iload_n hx hb dX7_cuts_49 rfl (lv_at hl 1 rfl) ?_
      refine ca_Vi (ci := 0) (q := (RX0, TX0, 1)) (rest := []) (wr := obw G od (td 0) (nn 0) (dd 0) (pd 0) bo (wd 0) (sd 0) (e0 0) (e1 0) kp ++ (paw G pd (min (sz + 1) 6) ((nx + 1) % 6) ads (va_up as nx a) (va_up rs nx r))) F hX (mX0_cut_yes l G bo bd wb ub nn a r k hT (by omega) ht) (cA_V hts kw_525 kw_5 kw_522 kw_523 kw_524 hdX0_cut ⟨Nat.le_of_ble_eq_true rfl, Nat.le_of_ble_eq_true rfl⟩) rfl rfl rfl hl.1 rfl (Nat.le_of_ble_eq_true rfl) dX7_cuts_50 ⟨Nat.le_of_ble_eq_true rfl, Nat.le_of_ble_eq_true rfl⟩ hP hD hS hA ((((pm_sw _ _ _).trans ((List.Perm.append_left _ ((List.Perm.append_left _ ((List.Perm.append_left _ (List.perm_append_comm)).trans (pm_sw _ _ _))).trans (pm_sw _ _ _))).trans (pm_sw _ _ _))).trans ((List.Perm.append_left _ ((List.Perm.append_left _ ((List.Perm.append_left _ (List.perm_append_comm)).trans (pm_sw _ _ _))).trans (pm_sw _ _ _))).trans (pm_sw _ _ _))).trans (List.Perm.of_eq (by simp only [List.append_assoc]))) (fun r50 u50 H locs hp50 hP hD hS => ?_)
      have hP : va_P G.1 vwCl (obw G od (td 0) (nn 0) (dd 0) (pd 0) bo (wd 0) (sd 0) (e0 0) (e1 0) kp ++ (tkw G nn (cu3 a r k) r ++ (paw G pd (min (sz + 1) 6) ((nx + 1) % 6) ads (va_up as nx a) (va_up rs nx r) ++ (bow bo (bd 0) ++ (wyw G bd u50.1 u50.2))))) H := wp_pm ((((pm_sw _ _ _).trans ((List.Perm.append_left _ ((List.Perm.append_left _ ((List.Perm.append_left _ (List.perm_append_comm)).trans (pm_sw _ _ _))).trans (pm_sw _ _ _))).trans (pm_sw _ _ _))).trans ((List.Perm.append_left _ ((List.Perm.append_left _ ((List.Perm.append_left _ (List.perm_append_comm)).trans (pm_sw _ _ _))).trans (pm_sw _ _ _))).trans (pm_sw _ _ _))).trans (List.Perm.of_eq (by simp only [List.append_assoc]))).symm hP
      have hD : va_D A (obw G od (td 0) (nn 0) (dd 0) (pd 0) bo (wd 0) (sd 0) (e0 0) (e1 0) kp ++ (tkw G nn (cu3 a r k) r ++ (paw G pd (min (sz + 1) 6) ((nx + 1) % 6) ads (va_up as nx a) (va_up rs nx r) ++ (bow bo (bd 0) ++ (wyw G bd u50.1 u50.2))))) := wd_pm ((((pm_sw _ _ _).trans ((List.Perm.append_left _ ((List.Perm.append_left _ ((List.Perm.append_left _ (List.perm_append_comm)).trans (pm_sw _ _ _))).trans (pm_sw _ _ _))).trans (pm_sw _ _ _))).trans ((List.Perm.append_left _ ((List.Perm.append_left _ ((List.Perm.append_left _ (List.perm_append_comm)).trans (pm_sw _ _ _))).trans (pm_sw _ _ _))).trans (pm_sw _ _ _))).trans (List.Perm.of_eq (by simp only [List.append_assoc]))).symm hD
      subst hp50
      exact re_i (v := (nI (bts (a 7) 12 - bts (cu3 a r k 7) 12))) hx hb hr hlocks hS (u50.1, u50.2) hP hD rfl dX7_cuts_53
    · exact absurd (hst.symm.trans c24) (by decide)
  · exact absurd c8 (by decide)

set_option maxHeartbeats 4000000 in
set_option maxRecDepth 100000 in
theorem mX7_mends_ok (l : Launch) (G : GG) (od td nn dd pd : Nat → Nat) (bo : Nat) (wd sd e0 e1 : Nat → Nat) (kp : Nat → Int32) (a : Nat → Nat) (r : Nat → Nat → Nat) (sz nx : Nat) (ads as : Nat → Nat → Nat) (rs : Nat → Nat → Nat → Nat) (k : Nat) (hT : TB a r) (hz : sz ≤ 6) (hn : nx < 6) (hk : k < a 3) (hst : (a 9).testBit k = true) : Mi l yX7_mends cX7_mends 2 (some .int) (rmN 3 68) G [.ref (od 0), .int (nI k)] (obw G od (td 0) (nn 0) (dd 0) (pd 0) bo (wd 0) (sd 0) (e0 0) (e1 0) kp ++ (tkw G nn a r ++ (paw G pd sz nx ads as rs))) (fun (r9 : Int32) (_ : Unit) => r9 = (nI (bts (nd (a 9) (2 ^ k)) 12))) (fun (_ : Unit) => obw G od (td 0) (nn 0) (dd 0) (pd 0) bo (wd 0) (sd 0) (e0 0) (e1 0) kp ++ (tkw G nn (va_up a 9 (nd (a 9) (2 ^ k))) r ++ (paw G pd (min (sz + 1) 6) ((nx + 1) % 6) ads (va_up as nx a) (va_up rs nx r)))) := by
  refine Mi.of (cc := cX7_mends) (nL := 2) (by decide) (Nat.le_of_ble_eq_true rfl) ?_
  intro p e s m below meth c A ls F hr hlocks hnm hX hA hD hP hS hl
  have F : CallFix p m c cX7_mends 2 s [.ref (od 0), .int (nI k)].toArray wA RX7 := F
  obtain ⟨hx, hb, hml, hown, hts⟩ := id F
  have hl : lv_has ls 2 [(0, .ref (od 0)), (1, .int (nI k))] := hl
  obtain ⟨t0, t1, t2, t3, t4, t5, t6, t7, t8, t9, t10, t11, t12⟩ := id hT
  refine lv_aload_n hx hb dX7_mends_0 rfl (lv_at hl 0 rfl) ?_
  refine va_get (D := G.1) (ci := 6) (v := .ref (nn 0)) (C := RX7) (T := TX7) (N := 9) hx hb hts inA7 hown hX.1 hP 0 rfl rfl 1 (by decide) (hts _ kw_195) (fun _ h9 => h9) rfl dX7_mends_1 ?_
  refine lv_iload_n hx hb dX7_mends_4 rfl (lv_at hl 1 rfl) ?_
  refine ca_Vi (ci := 3) (q := (RX4, TX4, 12)) (rest := []) (wr := obw G od (td 0) (nn 0) (dd 0) (pd 0) bo (wd 0) (sd 0) (e0 0) (e1 0) kp ++ (paw G pd sz nx ads as rs)) F hX (mX4_hasLink l G nn a r k hT (by omega)) (cA_V hts kw_520 kw_3 kw_517 kw_518 kw_519 hdX4_hasLink ⟨Nat.le_of_ble_eq_true rfl, Nat.le_of_ble_eq_true rfl⟩) rfl rfl rfl hl.1 rfl (Nat.le_of_ble_eq_true rfl) dX7_mends_5 ⟨Nat.le_of_ble_eq_true rfl, Nat.le_of_ble_eq_true rfl⟩ hP hD hS hA (pm_sw _ _ _) (fun r5 u5 H locs hp5 hP hD hS => ?_)
  have hP : va_P G.1 vwCl (obw G od (td 0) (nn 0) (dd 0) (pd 0) bo (wd 0) (sd 0) (e0 0) (e1 0) kp ++ (tkw G nn a r ++ (paw G pd sz nx ads as rs))) H := wp_pm (pm_sw _ _ _).symm hP
  have hD : va_D A (obw G od (td 0) (nn 0) (dd 0) (pd 0) bo (wd 0) (sd 0) (e0 0) (e1 0) kp ++ (tkw G nn a r ++ (paw G pd sz nx ads as rs))) := wd_pm (pm_sw _ _ _).symm hD
  subst hp5
  refine bv_ne (b := true) (tgt := 13) hx hb dX7_mends_8 (by decide) (fun c8 => ?_) (fun c8 => ?_)
  · refine lv_aload_n hx hb dX7_mends_13 rfl (lv_at hl 0 rfl) ?_
    refine va_get (D := G.1) (ci := 6) (v := .ref (nn 0)) (C := RX7) (T := TX7) (N := 9) hx hb hts inA7 hown hX.1 hP 0 rfl rfl 1 (by decide) (hts _ kw_195) (fun _ h9 => h9) rfl dX7_mends_14 ?_
    refine va_get (D := G.1) (ci := 3) (v := .int (nI (a 9))) (C := RX4) (T := TX4) (N := 12) hx hb hts inA4 hown hX.1 hP 3 rfl rfl 9 (by decide) (hts _ kw_102) (fun _ h9 => h9) rfl dX7_mends_17 ?_
    refine lv_iload_n hx hb dX7_mends_20 rfl (lv_at hl 1 rfl) ?_
    refine ca_Si (rest := []) (wr := obw G od (td 0) (nn 0) (dd 0) (pd 0) bo (wd 0) (sd 0) (e0 0) (e1 0) kp ++ (tkw G nn a r ++ (paw G pd sz nx ads as rs))) F hX (mX7_has l G (a 9) k (by omega) (by omega)) (cA_S hts kw_357 kw_1 kw_521 kw_356 hdX7_has ⟨Nat.le_of_ble_eq_true rfl, Nat.le_of_ble_eq_true rfl⟩) rfl hl.1 rfl (Nat.le_of_ble_eq_true rfl) dX7_mends_21 ⟨Nat.le_of_ble_eq_true rfl, Nat.le_of_ble_eq_true rfl⟩ hP hD hS hA (List.Perm.refl _) (fun r21 u21 H locs hp21 hP hD hS => ?_)
    have hP : va_P G.1 vwCl (obw G od (td 0) (nn 0) (dd 0) (pd 0) bo (wd 0) (sd 0) (e0 0) (e1 0) kp ++ (tkw G nn a r ++ (paw G pd sz nx ads as rs))) H := hP
    have hD : va_D A (obw G od (td 0) (nn 0) (dd 0) (pd 0) bo (wd 0) (sd 0) (e0 0) (e1 0) kp ++ (tkw G nn a r ++ (paw G pd sz nx ads as rs))) := hD
    subst hp21
    refine bv_ne (b := (a 9).testBit k) (tgt := 30) hx hb dX7_mends_24 (by decide) (fun c24 => ?_) (fun c24 => ?_)
    · refine lv_aload_n hx hb dX7_mends_30 rfl (lv_at hl 0 rfl) ?_
      refine va_get (D := G.1) (ci := 6) (v := .ref (pd 0)) (C := RX7) (T := TX7) (N := 9) hx hb hts inA7 hown hX.1 hP 0 rfl rfl 3 (by decide) (hts _ kw_197) (fun _ h9 => h9) rfl dX7_mends_31 ?_
      refine lv_aload_n hx hb dX7_mends_34 rfl (lv_at hl 0 rfl) ?_
      refine va_get (D := G.1) (ci := 6) (v := .ref (nn 0)) (C := RX7) (T := TX7) (N := 9) hx hb hts inA7 hown hX.1 hP 0 rfl rfl 1 (by decide) (hts _ kw_195) (fun _ h9 => h9) rfl dX7_mends_35 ?_
      refine ca_Vv (ci := 1) (q := (RX2, TX2, 3)) (rest := []) (wr := obw G od (td 0) (nn 0) (dd 0) (pd 0) bo (wd 0) (sd 0) (e0 0) (e1 0) kp) F hX (mX2_remember l G pd sz nx ads as rs nn a r hz hn) (cA_V hts kw_369 kw_4 kw_366 kw_367 kw_368 hdX2_remember ⟨Nat.le_of_ble_eq_true rfl, Nat.le_of_ble_eq_true rfl⟩) rfl rfl rfl hl.1 rfl (Nat.le_of_ble_eq_true rfl) dX7_mends_38 ⟨Nat.le_of_ble_eq_true rfl, Nat.le_of_ble_eq_true rfl⟩ hP hD hS hA (((pm_sw _ _ _).trans ((List.Perm.append_left _ (List.perm_append_comm)).trans (pm_sw _ _ _))).trans (List.Perm.of_eq (List.append_assoc _ _ _).symm)) (fun u38 H locs hp38 hP hD hS => ?_)
      have hP : va_P G.1 vwCl (obw G od (td 0) (nn 0) (dd 0) (pd 0) bo (wd 0) (sd 0) (e0 0) (e1 0) kp ++ (tkw G nn a r ++ (paw G pd (min (sz + 1) 6) ((nx + 1) % 6) ads (va_up as nx a) (va_up rs nx r)))) H := wp_pm (((pm_sw _ _ _).trans ((List.Perm.append_left _ (List.perm_append_comm)).trans (pm_sw _ _ _))).trans (List.Perm.of_eq (List.append_assoc _ _ _).symm)).symm hP
      have hD : va_D A (obw G od (td 0) (nn 0) (dd 0) (pd 0) bo (wd 0) (sd 0) (e0 0) (e1 0) kp ++ (tkw G nn a r ++ (paw G pd (min (sz + 1) 6) ((nx + 1) % 6) ads (va_up as nx a) (va_up rs nx r)))) := wd_pm (((pm_sw _ _ _).trans ((List.Perm.append_left _ (List.perm_append_comm)).trans (pm_sw _ _ _))).trans (List.Perm.of_eq (List.append_assoc _ _ _).symm)).symm hD
      refine lv_aload_n hx hb dX7_mends_41 rfl (lv_at hl 0 rfl) ?_
      refine va_get (D := G.1) (ci := 6) (v := .ref (nn 0)) (C := RX7) (T := TX7) (N := 9) hx hb hts inA7 hown hX.1 hP 0 rfl rfl 1 (by decide) (hts _ kw_195) (fun _ h9 => h9) rfl dX7_mends_42 ?_
      refine lv_dup hx hb dX7_mends_45 rfl ?_
      refine va_get (D := G.1) (ci := 3) (v := .int (nI (a 9))) (C := RX4) (T := TX4) (N := 12) hx hb hts inA4 hown hX.1 hP 3 rfl rfl 9 (by decide) (hts _ kw_102) (fun _ h9 => h9) rfl dX7_mends_46 ?_
      refine lv_iconst (v := (nI 1)) hx hb dX7_mends_49 (by decide) ?_
      refine lv_iload_n hx hb dX7_mends_50 rfl (lv_at hl 1 rfl) ?_
      refine lv_ishl hx hb dX7_mends_51 (ti (y := (nI (2 ^ k))) (qn_sh1 (by omega)) ?_)
      refine lv_iconst (v := (-1)) hx hb dX7_mends_52 (by decide) ?_
      refine lv_ixor hx hb dX7_mends_53 ?_
      refine lv_iand hx hb dX7_mends_54 (ti (y := (nI (nd (a 9) (2 ^ k)))) (qn_andn _ _) ?_)
      refine va_put (D := G.1) (ci := 3) (v := .int (nI (nd (a 9) (2 ^ k)))) (ty := .int) (C := RX4) (T := TX4) (N := 12) hx hb hts inA4 tyX4 tyX4_ok nmX4 hown hX.1 hP hD hS 3 rfl rfl 9 (by decide) (hts _ kw_102) (fun _ h9 => h9) rfl (by decide +kernel) rfl rfl (Nat.le_of_ble_eq_true rfl) dX7_mends_55 (fun H locs hP hD hS => ?_)
      have hP : va_P G.1 vwCl (obw G od (td 0) (nn 0) (dd 0) (pd 0) bo (wd 0) (sd 0) (e0 0) (e1 0) kp ++ (tkw G nn (va_up a 9 (nd (a 9) (2 ^ k))) r ++ (paw G pd (min (sz + 1) 6) ((nx + 1) % 6) ads (va_up as nx a) (va_up rs nx r)))) H := hP
      have hD : va_D A (obw G od (td 0) (nn 0) (dd 0) (pd 0) bo (wd 0) (sd 0) (e0 0) (e1 0) kp ++ (tkw G nn (va_up a 9 (nd (a 9) (2 ^ k))) r ++ (paw G pd (min (sz + 1) 6) ((nx + 1) % 6) ads (va_up as nx a) (va_up rs nx r)))) := hD
      refine lv_aload_n hx hb dX7_mends_58 rfl (lv_at hl 0 rfl) ?_
      refine va_get (D := G.1) (ci := 6) (v := .ref (nn 0)) (C := RX7) (T := TX7) (N := 9) hx hb hts inA7 hown hX.1 hP 0 rfl rfl 1 (by decide) (hts _ kw_195) (fun _ h9 => h9) rfl dX7_mends_59 ?_
      refine va_get (D := G.1) (ci := 3) (v := .int (nI (nd (a 9) (2 ^ k)))) (C := RX4) (T := TX4) (N := 12) hx hb hts inA4 hown hX.1 hP 3 rfl rfl 9 (by decide) (hts _ kw_102) (fun _ h9 => h9) rfl dX7_mends_62 ?_
      refine ca_Si (rest := []) (wr := obw G od (td 0) (nn 0) (dd 0) (pd 0) bo (wd 0) (sd 0) (e0 0) (e1 0) kp ++ (tkw G nn (va_up a 9 (nd (a 9) (2 ^ k))) r ++ (paw G pd (min (sz + 1) 6) ((nx + 1) % 6) ads (va_up as nx a) (va_up rs nx r)))) F hX (mJ6_bitCount_0f7a4 l G (nd (a 9) (2 ^ k)) (by have := nd_le (a 9) (2 ^ k); omega)) (cA_S hts kw_503 kw_16 kw_544 kw_502 hdJ6_bitCount_0f7a4 ⟨Nat.le_of_ble_eq_true rfl, Nat.le_of_ble_eq_true rfl⟩) rfl hl.1 rfl (Nat.le_of_ble_eq_true rfl) dX7_mends_65 ⟨Nat.le_of_ble_eq_true rfl, Nat.le_of_ble_eq_true rfl⟩ hP hD hS hA (List.Perm.refl _) (fun r65 u65 H locs hp65 hP hD hS => ?_)
      have hP : va_P G.1 vwCl (obw G od (td 0) (nn 0) (dd 0) (pd 0) bo (wd 0) (sd 0) (e0 0) (e1 0) kp ++ (tkw G nn (va_up a 9 (nd (a 9) (2 ^ k))) r ++ (paw G pd (min (sz + 1) 6) ((nx + 1) % 6) ads (va_up as nx a) (va_up rs nx r)))) H := hP
      have hD : va_D A (obw G od (td 0) (nn 0) (dd 0) (pd 0) bo (wd 0) (sd 0) (e0 0) (e1 0) kp ++ (tkw G nn (va_up a 9 (nd (a 9) (2 ^ k))) r ++ (paw G pd (min (sz + 1) 6) ((nx + 1) % 6) ads (va_up as nx a) (va_up rs nx r)))) := hD
      subst hp65
      exact re_i (v := (nI (bts (nd (a 9) (2 ^ k)) 12))) hx hb hr hlocks hS () hP hD rfl dX7_mends_68
    · exact absurd (hst.symm.trans c24) (by decide)
  · exact absurd c8 (by decide)

theorem hdX7_limits : hdOK yX7_limits 1 := by decide +kernel
set_option maxHeartbeats 4000000 in
set_option maxRecDepth 100000 in
theorem mX7_limits_bad (l : Launch) (G : GG) (od td nn dd pd : Nat → Nat) (bo : Nat) (wd sd e0 e1 : Nat → Nat) (kp : Nat → Int32) (a : Nat → Nat) (r : Nat → Nat → Nat) (x : Int32) (hx9 : ¬ (0 ≤ x.toInt ∧ x.toInt ≤ 9)) : Mi l yX7_limits cX7_limits 3 (some .int) (rmN 0 0) G [.ref (od 0), .int x] (obw G od (td 0) (nn 0) (dd 0) (pd 0) bo (wd 0) (sd 0) (e0 0) (e1 0) kp ++ (tkw G nn a r)) (fun (r9 : Int32) (_ : Unit) => r9 = (-1)) (fun (_ : Unit) => obw G od (td 0) (nn 0) (dd 0) (pd 0) bo (wd 0) (sd 0) (e0 0) (e1 0) kp ++ (tkw G nn a r)) := by
  refine Mi.of (cc := cX7_limits) (nL := 3) (by decide) (Nat.le_of_ble_eq_true rfl) ?_
  intro p e s m below meth c A ls F hr hlocks hnm hX hA hD hP hS hl
  have F : CallFix p m c cX7_limits 3 s [.ref (od 0), .int x].toArray wA RX7 := F
  obtain ⟨hx, hb, hml, hown, hts⟩ := id F
  have hl : lv_has ls 3 [(0, .ref (od 0)), (1, .int x)] := hl
  refine lv_iload_n hx hb dX7_limits_0 rfl (lv_at hl 1 rfl) ?_
  refine lv_if_lt (x := x) (tgt := 10) hx hb dX7_limits_1 (by decide) (fun c1 => ?_) (fun c1 => ?_)
  · refine lv_iconst (v := (-1)) hx hb dX7_limits_10 (by decide) ?_
    exact re_i (v := (-1)) hx hb hr hlocks hS () hP hD rfl dX7_limits_11
  · refine lv_iload_n hx hb dX7_limits_4 rfl (lv_at hl 1 rfl) ?_
    refine lv_bipush (v := (nI 9)) hx hb dX7_limits_5 (by decide) ?_
    refine lv_icmp_le (x := x) (y := (nI 9)) (tgt := 12) hx hb dX7_limits_7 (by decide) (fun c7 => ?_) (fun c7 => ?_)
    · exact absurd (in_le c1 c7 (by decide)) hx9
    · refine lv_iconst (v := (-1)) hx hb dX7_limits_10 (by decide) ?_
      exact re_i (v := (-1)) hx hb hr hlocks hS () hP hD rfl dX7_limits_11

set_option maxHeartbeats 4000000 in
set_option maxRecDepth 100000 in
theorem mX7_limits_state (l : Launch) (G : GG) (od td nn dd pd : Nat → Nat) (bo : Nat) (wd sd e0 e1 : Nat → Nat) (kp : Nat → Int32) (a : Nat → Nat) (r : Nat → Nat → Nat) (x : Nat) (hT : TB a r) (hx9 : x ≤ 9) (hst : x = a 2) : Mi l yX7_limits cX7_limits 3 (some .int) (rmN 0 0) G [.ref (od 0), .int (nI x)] (obw G od (td 0) (nn 0) (dd 0) (pd 0) bo (wd 0) (sd 0) (e0 0) (e1 0) kp ++ (tkw G nn a r)) (fun (r9 : Int32) (_ : Unit) => r9 = (-2)) (fun (_ : Unit) => obw G od (td 0) (nn 0) (dd 0) (pd 0) bo (wd 0) (sd 0) (e0 0) (e1 0) kp ++ (tkw G nn a r)) := by
  refine Mi.of (cc := cX7_limits) (nL := 3) (by decide) (Nat.le_of_ble_eq_true rfl) ?_
  intro p e s m below meth c A ls F hr hlocks hnm hX hA hD hP hS hl
  have F : CallFix p m c cX7_limits 3 s [.ref (od 0), .int (nI x)].toArray wA RX7 := F
  obtain ⟨hx, hb, hml, hown, hts⟩ := id F
  have hl : lv_has ls 3 [(0, .ref (od 0)), (1, .int (nI x))] := hl
  obtain ⟨t0, t1, t2, t3, t4, t5, t6, t7, t8, t9, t10, t11, t12⟩ := id hT
  refine lv_iload_n hx hb dX7_limits_0 rfl (lv_at hl 1 rfl) ?_
  refine nv_zlt (x := x) (tgt := 10) hx hb dX7_limits_1 (by decide) (by omega) ?_
  refine lv_iload_n hx hb dX7_limits_4 rfl (lv_at hl 1 rfl) ?_
  refine lv_bipush (v := (nI 9)) hx hb dX7_limits_5 (by decide) ?_
  refine nv_le (x := x) (y := 9) (tgt := 12) hx hb dX7_limits_7 (by decide) (by omega) (by decide) (fun c7 => ?_) (fun c7 => ?_)
  · refine lv_iload_n hx hb dX7_limits_12 rfl (lv_at hl 1 rfl) ?_
    refine lv_aload_n hx hb dX7_limits_13 rfl (lv_at hl 0 rfl) ?_
    refine va_get (D := G.1) (ci := 6) (v := .ref (nn 0)) (C := RX7) (T := TX7) (N := 9) hx hb hts inA7 hown hX.1 hP 0 rfl rfl 1 (by decide) (hts _ kw_195) (fun _ h9 => h9) rfl dX7_limits_14 ?_
    refine va_get (D := G.1) (ci := 3) (v := .int (nI (a 2))) (C := RX4) (T := TX4) (N := 12) hx hb hts inA4 hown hX.1 hP 3 rfl rfl 2 (by decide) (hts _ kw_75) (fun _ h9 => h9) rfl dX7_limits_17 ?_
    refine nv_ne (x := x) (y := a 2) (tgt := 26) hx hb dX7_limits_20 (by decide) (by omega) (by omega) (fun c20 => ?_) (fun c20 => ?_)
    · exact absurd hst c20
    · refine lv_bipush (v := (-2)) hx hb dX7_limits_23 (by decide) ?_
      exact re_i (v := (-2)) hx hb hr hlocks hS () hP hD rfl dX7_limits_25
  · exact absurd c7 (by omega)

set_option maxHeartbeats 4000000 in
set_option maxRecDepth 100000 in
theorem mX7_limits_ok (l : Launch) (G : GG) (od td nn dd pd : Nat → Nat) (bo : Nat) (wd sd e0 e1 : Nat → Nat) (kp : Nat → Int32) (a : Nat → Nat) (r : Nat → Nat → Nat) (sz nx : Nat) (ads as : Nat → Nat → Nat) (rs : Nat → Nat → Nat → Nat) (x : Nat) (hT : TB a r) (hz : sz ≤ 6) (hn : nx < 6) (hx9 : x ≤ 9) (hst : x ≠ a 2) : Mi l yX7_limits cX7_limits 3 (some .int) (rmN 3 68) G [.ref (od 0), .int (nI x)] (obw G od (td 0) (nn 0) (dd 0) (pd 0) bo (wd 0) (sd 0) (e0 0) (e1 0) kp ++ (tkw G nn a r ++ (paw G pd sz nx ads as rs))) (fun (r9 : Int32) (_ : Unit) => r9 = (nI (a 2))) (fun (_ : Unit) => obw G od (td 0) (nn 0) (dd 0) (pd 0) bo (wd 0) (sd 0) (e0 0) (e1 0) kp ++ (tkw G nn (va_up a 2 x) r ++ (paw G pd (min (sz + 1) 6) ((nx + 1) % 6) ads (va_up as nx a) (va_up rs nx r)))) := by
  refine Mi.of (cc := cX7_limits) (nL := 3) (by decide) (Nat.le_of_ble_eq_true rfl) ?_
  intro p e s m below meth c A ls F hr hlocks hnm hX hA hD hP hS hl
  have F : CallFix p m c cX7_limits 3 s [.ref (od 0), .int (nI x)].toArray wA RX7 := F
  obtain ⟨hx, hb, hml, hown, hts⟩ := id F
  have hl : lv_has ls 3 [(0, .ref (od 0)), (1, .int (nI x))] := hl
  obtain ⟨t0, t1, t2, t3, t4, t5, t6, t7, t8, t9, t10, t11, t12⟩ := id hT
  refine lv_iload_n hx hb dX7_limits_0 rfl (lv_at hl 1 rfl) ?_
  refine nv_zlt (x := x) (tgt := 10) hx hb dX7_limits_1 (by decide) (by omega) ?_
  refine lv_iload_n hx hb dX7_limits_4 rfl (lv_at hl 1 rfl) ?_
  refine lv_bipush (v := (nI 9)) hx hb dX7_limits_5 (by decide) ?_
  refine nv_le (x := x) (y := 9) (tgt := 12) hx hb dX7_limits_7 (by decide) (by omega) (by decide) (fun c7 => ?_) (fun c7 => ?_)
  · refine lv_iload_n hx hb dX7_limits_12 rfl (lv_at hl 1 rfl) ?_
    refine lv_aload_n hx hb dX7_limits_13 rfl (lv_at hl 0 rfl) ?_
    refine va_get (D := G.1) (ci := 6) (v := .ref (nn 0)) (C := RX7) (T := TX7) (N := 9) hx hb hts inA7 hown hX.1 hP 0 rfl rfl 1 (by decide) (hts _ kw_195) (fun _ h9 => h9) rfl dX7_limits_14 ?_
    refine va_get (D := G.1) (ci := 3) (v := .int (nI (a 2))) (C := RX4) (T := TX4) (N := 12) hx hb hts inA4 hown hX.1 hP 3 rfl rfl 2 (by decide) (hts _ kw_75) (fun _ h9 => h9) rfl dX7_limits_17 ?_
    refine nv_ne (x := x) (y := a 2) (tgt := 26) hx hb dX7_limits_20 (by decide) (by omega) (by omega) (fun c20 => ?_) (fun c20 => ?_)
    · refine lv_aload_n hx hb dX7_limits_26 rfl (lv_at hl 0 rfl) ?_
      refine va_get (D := G.1) (ci := 6) (v := .ref (pd 0)) (C := RX7) (T := TX7) (N := 9) hx hb hts inA7 hown hX.1 hP 0 rfl rfl 3 (by decide) (hts _ kw_197) (fun _ h9 => h9) rfl dX7_limits_27 ?_
      refine lv_aload_n hx hb dX7_limits_30 rfl (lv_at hl 0 rfl) ?_
      refine va_get (D := G.1) (ci := 6) (v := .ref (nn 0)) (C := RX7) (T := TX7) (N := 9) hx hb hts inA7 hown hX.1 hP 0 rfl rfl 1 (by decide) (hts _ kw_195) (fun _ h9 => h9) rfl dX7_limits_31 ?_
      refine ca_Vv (ci := 1) (q := (RX2, TX2, 3)) (rest := []) (wr := obw G od (td 0) (nn 0) (dd 0) (pd 0) bo (wd 0) (sd 0) (e0 0) (e1 0) kp) F hX (mX2_remember l G pd sz nx ads as rs nn a r hz hn) (cA_V hts kw_369 kw_4 kw_366 kw_367 kw_368 hdX2_remember ⟨Nat.le_of_ble_eq_true rfl, Nat.le_of_ble_eq_true rfl⟩) rfl rfl rfl hl.1 rfl (Nat.le_of_ble_eq_true rfl) dX7_limits_34 ⟨Nat.le_of_ble_eq_true rfl, Nat.le_of_ble_eq_true rfl⟩ hP hD hS hA (((pm_sw _ _ _).trans ((List.Perm.append_left _ (List.perm_append_comm)).trans (pm_sw _ _ _))).trans (List.Perm.of_eq (List.append_assoc _ _ _).symm)) (fun u34 H locs hp34 hP hD hS => ?_)
      have hP : va_P G.1 vwCl (obw G od (td 0) (nn 0) (dd 0) (pd 0) bo (wd 0) (sd 0) (e0 0) (e1 0) kp ++ (tkw G nn a r ++ (paw G pd (min (sz + 1) 6) ((nx + 1) % 6) ads (va_up as nx a) (va_up rs nx r)))) H := wp_pm (((pm_sw _ _ _).trans ((List.Perm.append_left _ (List.perm_append_comm)).trans (pm_sw _ _ _))).trans (List.Perm.of_eq (List.append_assoc _ _ _).symm)).symm hP
      have hD : va_D A (obw G od (td 0) (nn 0) (dd 0) (pd 0) bo (wd 0) (sd 0) (e0 0) (e1 0) kp ++ (tkw G nn a r ++ (paw G pd (min (sz + 1) 6) ((nx + 1) % 6) ads (va_up as nx a) (va_up rs nx r)))) := wd_pm (((pm_sw _ _ _).trans ((List.Perm.append_left _ (List.perm_append_comm)).trans (pm_sw _ _ _))).trans (List.Perm.of_eq (List.append_assoc _ _ _).symm)).symm hD
      refine lv_aload_n hx hb dX7_limits_37 rfl (lv_at hl 0 rfl) ?_
      refine va_get (D := G.1) (ci := 6) (v := .ref (nn 0)) (C := RX7) (T := TX7) (N := 9) hx hb hts inA7 hown hX.1 hP 0 rfl rfl 1 (by decide) (hts _ kw_195) (fun _ h9 => h9) rfl dX7_limits_38 ?_
      refine va_get (D := G.1) (ci := 3) (v := .int (nI (a 2))) (C := RX4) (T := TX4) (N := 12) hx hb hts inA4 hown hX.1 hP 3 rfl rfl 2 (by decide) (hts _ kw_75) (fun _ h9 => h9) rfl dX7_limits_41 ?_
      refine lv_istore_n (lv' := [(2, .int (nI (a 2))), (0, .ref (od 0)), (1, .int (nI x))]) hx hb dX7_limits_44 rfl hl (by decide) rfl (fun ls hl => ?_)
      refine lv_aload_n hx hb dX7_limits_45 rfl (lv_at hl 1 rfl) ?_
      refine va_get (D := G.1) (ci := 6) (v := .ref (nn 0)) (C := RX7) (T := TX7) (N := 9) hx hb hts inA7 hown hX.1 hP 0 rfl rfl 1 (by decide) (hts _ kw_195) (fun _ h9 => h9) rfl dX7_limits_46 ?_
      refine lv_iload_n hx hb dX7_limits_49 rfl (lv_at hl 2 rfl) ?_
      refine va_put (D := G.1) (ci := 3) (v := .int (nI x)) (ty := .int) (C := RX4) (T := TX4) (N := 12) hx hb hts inA4 tyX4 tyX4_ok nmX4 hown hX.1 hP hD hS 3 rfl rfl 2 (by decide) (hts _ kw_75) (fun _ h9 => h9) rfl (by decide +kernel) rfl rfl (Nat.le_of_ble_eq_true rfl) dX7_limits_50 (fun H locs hP hD hS => ?_)
      have hP : va_P G.1 vwCl (obw G od (td 0) (nn 0) (dd 0) (pd 0) bo (wd 0) (sd 0) (e0 0) (e1 0) kp ++ (tkw G nn (va_up a 2 x) r ++ (paw G pd (min (sz + 1) 6) ((nx + 1) % 6) ads (va_up as nx a) (va_up rs nx r)))) H := hP
      have hD : va_D A (obw G od (td 0) (nn 0) (dd 0) (pd 0) bo (wd 0) (sd 0) (e0 0) (e1 0) kp ++ (tkw G nn (va_up a 2 x) r ++ (paw G pd (min (sz + 1) 6) ((nx + 1) % 6) ads (va_up as nx a) (va_up rs nx r)))) := hD
      refine lv_iload_n hx hb dX7_limits_53 rfl (lv_at hl 0 rfl) ?_
      exact re_i (v := (nI (a 2))) hx hb hr hlocks hS () hP hD rfl dX7_limits_54
    · exact absurd c20 hst
  · exact absurd c7 (by omega)

theorem hdX7_undo : hdOK yX7_undo 0 := by decide +kernel
set_option maxHeartbeats 4000000 in
set_option maxRecDepth 100000 in
theorem mX7_undo_state (l : Launch) (G : GG) (od td nn dd pd : Nat → Nat) (bo : Nat) (wd sd e0 e1 : Nat → Nat) (kp : Nat → Int32) (a : Nat → Nat) (r : Nat → Nat → Nat) (sz nx : Nat) (ads as : Nat → Nat → Nat) (rs : Nat → Nat → Nat → Nat) (hz : sz = 0) (hn : nx < 6) : Mi l yX7_undo cX7_undo 1 (some .int) (rmN 1 21) G [.ref (od 0)] (obw G od (td 0) (nn 0) (dd 0) (pd 0) bo (wd 0) (sd 0) (e0 0) (e1 0) kp ++ (tkw G nn a r ++ (paw G pd sz nx ads as rs))) (fun (r9 : Int32) (_ : Unit) => r9 = (-2)) (fun (_ : Unit) => obw G od (td 0) (nn 0) (dd 0) (pd 0) bo (wd 0) (sd 0) (e0 0) (e1 0) kp ++ (tkw G nn a r ++ (paw G pd sz nx ads as rs))) := by
  refine Mi.of (cc := cX7_undo) (nL := 1) (by decide) (Nat.le_of_ble_eq_true rfl) ?_
  intro p e s m below meth c A ls F hr hlocks hnm hX hA hD hP hS hl
  have F : CallFix p m c cX7_undo 1 s [.ref (od 0)].toArray wA RX7 := F
  obtain ⟨hx, hb, hml, hown, hts⟩ := id F
  have hl : lv_has ls 1 [(0, .ref (od 0))] := hl
  refine lv_aload_n hx hb dX7_undo_0 rfl (lv_at hl 0 rfl) ?_
  refine va_get (D := G.1) (ci := 6) (v := .ref (pd 0)) (C := RX7) (T := TX7) (N := 9) hx hb hts inA7 hown hX.1 hP 0 rfl rfl 3 (by decide) (hts _ kw_197) (fun _ h9 => h9) rfl dX7_undo_1 ?_
  refine lv_aload_n hx hb dX7_undo_4 rfl (lv_at hl 0 rfl) ?_
  refine va_get (D := G.1) (ci := 6) (v := .ref (nn 0)) (C := RX7) (T := TX7) (N := 9) hx hb hts inA7 hown hX.1 hP 0 rfl rfl 1 (by decide) (hts _ kw_195) (fun _ h9 => h9) rfl dX7_undo_5 ?_
  refine ca_Vi (ci := 1) (q := (RX2, TX2, 3)) (rest := []) (wr := obw G od (td 0) (nn 0) (dd 0) (pd 0) bo (wd 0) (sd 0) (e0 0) (e1 0) kp) F hX (mX2_recall_no l G pd sz nx ads as rs nn a r hz hn) (cA_V hts kw_556 kw_4 kw_553 kw_554 kw_555 hdX2_recall ⟨Nat.le_of_ble_eq_true rfl, Nat.le_of_ble_eq_true rfl⟩) rfl rfl rfl hl.1 rfl (Nat.le_of_ble_eq_true rfl) dX7_undo_8 ⟨Nat.le_of_ble_eq_true rfl, Nat.le_of_ble_eq_true rfl⟩ hP hD hS hA (((pm_sw _ _ _).trans ((List.Perm.append_left _ (List.perm_append_comm)).trans (pm_sw _ _ _))).trans (List.Perm.of_eq (List.append_assoc _ _ _).symm)) (fun r8 u8 H locs hp8 hP hD hS => ?_)
  have hP : va_P G.1 vwCl (obw G od (td 0) (nn 0) (dd 0) (pd 0) bo (wd 0) (sd 0) (e0 0) (e1 0) kp ++ (tkw G nn a r ++ (paw G pd sz nx ads as rs))) H := wp_pm (((pm_sw _ _ _).trans ((List.Perm.append_left _ (List.perm_append_comm)).trans (pm_sw _ _ _))).trans (List.Perm.of_eq (List.append_assoc _ _ _).symm)).symm hP
  have hD : va_D A (obw G od (td 0) (nn 0) (dd 0) (pd 0) bo (wd 0) (sd 0) (e0 0) (e1 0) kp ++ (tkw G nn a r ++ (paw G pd sz nx ads as rs))) := wd_pm (((pm_sw _ _ _).trans ((List.Perm.append_left _ (List.perm_append_comm)).trans (pm_sw _ _ _))).trans (List.Perm.of_eq (List.append_assoc _ _ _).symm)).symm hD
  subst hp8
  refine bv_eq (b := false) (tgt := 24) hx hb dX7_undo_11 (by decide) (fun c11 => ?_) (fun c11 => ?_)
  · refine lv_bipush (v := (-2)) hx hb dX7_undo_24 (by decide) ?_
    exact re_i (v := (-2)) hx hb hr hlocks hS () hP hD rfl dX7_undo_26
  · exact absurd c11 (by decide)

set_option maxHeartbeats 4000000 in
set_option maxRecDepth 100000 in
theorem mX7_undo_ok (l : Launch) (G : GG) (od td nn dd pd : Nat → Nat) (bo : Nat) (wd sd e0 e1 : Nat → Nat) (kp : Nat → Int32) (a : Nat → Nat) (r : Nat → Nat → Nat) (sz nx : Nat) (ads as : Nat → Nat → Nat) (rs : Nat → Nat → Nat → Nat) (hz : sz ≤ 6) (hz0 : 0 < sz) (hn : nx < 6) : Mi l yX7_undo cX7_undo 1 (some .int) (rmN 3 68) G [.ref (od 0)] (obw G od (td 0) (nn 0) (dd 0) (pd 0) bo (wd 0) (sd 0) (e0 0) (e1 0) kp ++ (tkw G nn a r ++ (paw G pd sz nx ads as rs))) (fun (r9 : Int32) (_ : Unit) => r9 = (nI (sz - 1))) (fun (_ : Unit) => obw G od (td 0) (nn 0) (dd 0) (pd 0) bo (wd 0) (sd 0) (e0 0) (e1 0) kp ++ (tkw G nn (as ((nx + 6 - 1) % 6)) (rs ((nx + 6 - 1) % 6)) ++ (paw G pd (sz - 1) ((nx + 6 - 1) % 6) ads as rs))) := by
  refine Mi.of (cc := cX7_undo) (nL := 1) (by decide) (Nat.le_of_ble_eq_true rfl) ?_
  intro p e s m below meth c A ls F hr hlocks hnm hX hA hD hP hS hl
  have F : CallFix p m c cX7_undo 1 s [.ref (od 0)].toArray wA RX7 := F
  obtain ⟨hx, hb, hml, hown, hts⟩ := id F
  have hl : lv_has ls 1 [(0, .ref (od 0))] := hl
  refine lv_aload_n hx hb dX7_undo_0 rfl (lv_at hl 0 rfl) ?_
  refine va_get (D := G.1) (ci := 6) (v := .ref (pd 0)) (C := RX7) (T := TX7) (N := 9) hx hb hts inA7 hown hX.1 hP 0 rfl rfl 3 (by decide) (hts _ kw_197) (fun _ h9 => h9) rfl dX7_undo_1 ?_
  refine lv_aload_n hx hb dX7_undo_4 rfl (lv_at hl 0 rfl) ?_
  refine va_get (D := G.1) (ci := 6) (v := .ref (nn 0)) (C := RX7) (T := TX7) (N := 9) hx hb hts inA7 hown hX.1 hP 0 rfl rfl 1 (by decide) (hts _ kw_195) (fun _ h9 => h9) rfl dX7_undo_5 ?_
  refine ca_Vi (ci := 1) (q := (RX2, TX2, 3)) (rest := []) (wr := obw G od (td 0) (nn 0) (dd 0) (pd 0) bo (wd 0) (sd 0) (e0 0) (e1 0) kp) F hX (mX2_recall_yes l G pd sz nx ads as rs nn a r hz hz0 hn) (cA_V hts kw_556 kw_4 kw_553 kw_554 kw_555 hdX2_recall ⟨Nat.le_of_ble_eq_true rfl, Nat.le_of_ble_eq_true rfl⟩) rfl rfl rfl hl.1 rfl (Nat.le_of_ble_eq_true rfl) dX7_undo_8 ⟨Nat.le_of_ble_eq_true rfl, Nat.le_of_ble_eq_true rfl⟩ hP hD hS hA (((pm_sw _ _ _).trans ((List.Perm.append_left _ (List.perm_append_comm)).trans (pm_sw _ _ _))).trans (List.Perm.of_eq (List.append_assoc _ _ _).symm)) (fun r8 u8 H locs hp8 hP hD hS => ?_)
  have hP : va_P G.1 vwCl (obw G od (td 0) (nn 0) (dd 0) (pd 0) bo (wd 0) (sd 0) (e0 0) (e1 0) kp ++ (tkw G nn (as ((nx + 6 - 1) % 6)) (rs ((nx + 6 - 1) % 6)) ++ (paw G pd (sz - 1) ((nx + 6 - 1) % 6) ads as rs))) H := wp_pm (((pm_sw _ _ _).trans ((List.Perm.append_left _ (List.perm_append_comm)).trans (pm_sw _ _ _))).trans (List.Perm.of_eq (List.append_assoc _ _ _).symm)).symm hP
  have hD : va_D A (obw G od (td 0) (nn 0) (dd 0) (pd 0) bo (wd 0) (sd 0) (e0 0) (e1 0) kp ++ (tkw G nn (as ((nx + 6 - 1) % 6)) (rs ((nx + 6 - 1) % 6)) ++ (paw G pd (sz - 1) ((nx + 6 - 1) % 6) ads as rs))) := wd_pm (((pm_sw _ _ _).trans ((List.Perm.append_left _ (List.perm_append_comm)).trans (pm_sw _ _ _))).trans (List.Perm.of_eq (List.append_assoc _ _ _).symm)).symm hD
  subst hp8
  refine bv_eq (b := true) (tgt := 24) hx hb dX7_undo_11 (by decide) (fun c11 => ?_) (fun c11 => ?_)
  · exact absurd c11 (by decide)
  · refine lv_aload_n hx hb dX7_undo_14 rfl (lv_at hl 0 rfl) ?_
    refine va_get (D := G.1) (ci := 6) (v := .ref (pd 0)) (C := RX7) (T := TX7) (N := 9) hx hb hts inA7 hown hX.1 hP 0 rfl rfl 3 (by decide) (hts _ kw_197) (fun _ h9 => h9) rfl dX7_undo_15 ?_
    refine va_get (D := G.1) (ci := 1) (v := .int (nI (sz - 1))) (C := RX2) (T := TX2) (N := 3) hx hb hts inA2 hown hX.1 hP 8 rfl rfl 1 (by decide) (hts _ kw_143) (fun _ h9 => h9) rfl dX7_undo_18 ?_
    refine lv_goto (tgt := 26) hx hb dX7_undo_21 (by decide) ?_
    exact re_i (v := (nI (sz - 1))) hx hb hr hlocks hS () hP hD rfl dX7_undo_26

