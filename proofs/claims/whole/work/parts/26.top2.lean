theorem sw_out {x : Int32} {n : Nat} (h : ¬ (0 ≤ x.toInt ∧ x.toInt ≤ n)) : x.toInt < 0 ∨ (n : Int) < x.toInt := by omega

theorem ge0 {x : Int32} (h : 0 ≤ x.toInt) : ¬ x < 0 := by
  rw [Int32.lt_iff_toInt_lt]
  have : (0 : Int32).toInt = 0 := by decide
  omega
theorem gt_no {x : Int32} {n : Nat} (h : x.toInt ≤ n) (hn : n < 2 ^ 31 := by decide) : ¬ nI n < x := by
  rw [Int32.lt_iff_toInt_lt, nI_toInt hn]
  omega

theorem hdX7_link : hdOK yX7_link 2 := by decide +kernel
set_option maxHeartbeats 4000000 in
set_option maxRecDepth 100000 in
theorem mX7_link_bad (l : Launch) (G : GG) (od td nn dd pd : Nat → Nat) (bo : Nat) (wd sd e0 e1 : Nat → Nat) (kp : Nat → Int32) (a : Nat → Nat) (r : Nat → Nat → Nat) (x y : Int32) (hT : TB a r) (hk : ¬ (0 ≤ x.toInt ∧ x.toInt < a 3)) : Mi l yX7_link cX7_link 3 (some .int) (rmN 1 21) G [.ref (od 0), .int x, .int y] (obw G od (td 0) (nn 0) (dd 0) (pd 0) bo (wd 0) (sd 0) (e0 0) (e1 0) kp ++ (tkw G nn a r)) (fun (r9 : Int32) (_ : Unit) => r9 = (-1)) (fun (_ : Unit) => obw G od (td 0) (nn 0) (dd 0) (pd 0) bo (wd 0) (sd 0) (e0 0) (e1 0) kp ++ (tkw G nn a r)) := by
  refine Mi.of (cc := cX7_link) (nL := 3) (by decide) (Nat.le_of_ble_eq_true rfl) ?_
  intro p e s m below meth c A ls F hr hlocks hnm hX hA hD hP hS hl
  have F : CallFix p m c cX7_link 3 s [.ref (od 0), .int x, .int y].toArray wA RX7 := F
  obtain ⟨hx, hb, hml, hown, hts⟩ := id F
  have hl : lv_has ls 3 [(0, .ref (od 0)), (1, .int x), (2, .int y)] := hl
  refine lv_aload_n hx hb dX7_link_0 rfl (lv_at hl 0 rfl) ?_
  refine va_get (D := G.1) (ci := 6) (v := .ref (nn 0)) (C := RX7) (T := TX7) (N := 9) hx hb hts inA7 hown hX.1 hP 0 rfl rfl 1 (by decide) (hts _ kw_195) (fun _ h9 => h9) rfl dX7_link_1 ?_
  refine lv_iload_n hx hb dX7_link_4 rfl (lv_at hl 1 rfl) ?_
  refine ca_Vi (ci := 3) (q := (RX4, TX4, 12)) (rest := []) (wr := obw G od (td 0) (nn 0) (dd 0) (pd 0) bo (wd 0) (sd 0) (e0 0) (e1 0) kp) F hX (mX4_hasLink_no l G nn a r x hT hk) (cA_V hts kw_520 kw_3 kw_517 kw_518 kw_519 hdX4_hasLink ⟨Nat.le_of_ble_eq_true rfl, Nat.le_of_ble_eq_true rfl⟩) rfl rfl rfl hl.1 rfl (Nat.le_of_ble_eq_true rfl) dX7_link_5 ⟨Nat.le_of_ble_eq_true rfl, Nat.le_of_ble_eq_true rfl⟩ hP hD hS hA (List.perm_append_comm) (fun r5 u5 H locs hp5 hP hD hS => ?_)
  have hP : va_P G.1 vwCl (obw G od (td 0) (nn 0) (dd 0) (pd 0) bo (wd 0) (sd 0) (e0 0) (e1 0) kp ++ (tkw G nn a r)) H := wp_pm (List.perm_append_comm).symm hP
  have hD : va_D A (obw G od (td 0) (nn 0) (dd 0) (pd 0) bo (wd 0) (sd 0) (e0 0) (e1 0) kp ++ (tkw G nn a r)) := wd_pm (List.perm_append_comm).symm hD
  subst hp5
  refine bv_ne (b := false) (tgt := 13) hx hb dX7_link_8 (by decide) (fun c8 => ?_) (fun c8 => ?_)
  · exact absurd c8 (by decide)
  · refine lv_iconst (v := (-1)) hx hb dX7_link_11 (by decide) ?_
    exact re_i (v := (-1)) hx hb hr hlocks hS () hP hD rfl dX7_link_12

set_option maxHeartbeats 4000000 in
set_option maxRecDepth 100000 in
theorem mX7_link_badw (l : Launch) (G : GG) (od td nn dd pd : Nat → Nat) (bo : Nat) (wd sd e0 e1 : Nat → Nat) (kp : Nat → Int32) (a : Nat → Nat) (r : Nat → Nat → Nat) (k : Nat) (y : Int32) (hT : TB a r) (hk : k < a 3) (hy : ¬ (0 ≤ y.toInt ∧ y.toInt ≤ 5)) : Mi l yX7_link cX7_link 3 (some .int) (rmN 1 21) G [.ref (od 0), .int (nI k), .int y] (obw G od (td 0) (nn 0) (dd 0) (pd 0) bo (wd 0) (sd 0) (e0 0) (e1 0) kp ++ (tkw G nn a r)) (fun (r9 : Int32) (_ : Unit) => r9 = (-1)) (fun (_ : Unit) => obw G od (td 0) (nn 0) (dd 0) (pd 0) bo (wd 0) (sd 0) (e0 0) (e1 0) kp ++ (tkw G nn a r)) := by
  refine Mi.of (cc := cX7_link) (nL := 3) (by decide) (Nat.le_of_ble_eq_true rfl) ?_
  intro p e s m below meth c A ls F hr hlocks hnm hX hA hD hP hS hl
  have F : CallFix p m c cX7_link 3 s [.ref (od 0), .int (nI k), .int y].toArray wA RX7 := F
  obtain ⟨hx, hb, hml, hown, hts⟩ := id F
  have hl : lv_has ls 3 [(0, .ref (od 0)), (1, .int (nI k)), (2, .int y)] := hl
  obtain ⟨t0, t1, t2, t3, t4, t5, t6, t7, t8, t9, t10, t11, t12⟩ := id hT
  refine lv_aload_n hx hb dX7_link_0 rfl (lv_at hl 0 rfl) ?_
  refine va_get (D := G.1) (ci := 6) (v := .ref (nn 0)) (C := RX7) (T := TX7) (N := 9) hx hb hts inA7 hown hX.1 hP 0 rfl rfl 1 (by decide) (hts _ kw_195) (fun _ h9 => h9) rfl dX7_link_1 ?_
  refine lv_iload_n hx hb dX7_link_4 rfl (lv_at hl 1 rfl) ?_
  refine ca_Vi (ci := 3) (q := (RX4, TX4, 12)) (rest := []) (wr := obw G od (td 0) (nn 0) (dd 0) (pd 0) bo (wd 0) (sd 0) (e0 0) (e1 0) kp) F hX (mX4_hasLink l G nn a r k hT (by omega)) (cA_V hts kw_520 kw_3 kw_517 kw_518 kw_519 hdX4_hasLink ⟨Nat.le_of_ble_eq_true rfl, Nat.le_of_ble_eq_true rfl⟩) rfl rfl rfl hl.1 rfl (Nat.le_of_ble_eq_true rfl) dX7_link_5 ⟨Nat.le_of_ble_eq_true rfl, Nat.le_of_ble_eq_true rfl⟩ hP hD hS hA (List.perm_append_comm) (fun r5 u5 H locs hp5 hP hD hS => ?_)
  have hP : va_P G.1 vwCl (obw G od (td 0) (nn 0) (dd 0) (pd 0) bo (wd 0) (sd 0) (e0 0) (e1 0) kp ++ (tkw G nn a r)) H := wp_pm (List.perm_append_comm).symm hP
  have hD : va_D A (obw G od (td 0) (nn 0) (dd 0) (pd 0) bo (wd 0) (sd 0) (e0 0) (e1 0) kp ++ (tkw G nn a r)) := wd_pm (List.perm_append_comm).symm hD
  subst hp5
  refine bv_ne (b := true) (tgt := 13) hx hb dX7_link_8 (by decide) (fun c8 => ?_) (fun c8 => ?_)
  · refine lv_iload_n hx hb dX7_link_13 rfl (lv_at hl 2 rfl) ?_
    refine lv_tableOut (tgt := 131) hx hb dX7_link_14 (sw_out (n := 5) hy) (by decide) ?_
    refine lv_iconst (v := (-1)) hx hb dX7_link_131 (by decide) ?_
    exact re_i (v := (-1)) hx hb hr hlocks hS () hP hD rfl dX7_link_132
  · exact absurd c8 (by decide)

set_option maxHeartbeats 4000000 in
set_option maxRecDepth 100000 in
theorem mX7_link_0 (l : Launch) (G : GG) (od td nn dd pd : Nat → Nat) (bo : Nat) (wd sd e0 e1 : Nat → Nat) (kp : Nat → Int32) (a : Nat → Nat) (r : Nat → Nat → Nat) (k : Nat) (hT : TB a r) (hk : k < a 3) : Mi l yX7_link cX7_link 3 (some .int) (rmN 1 21) G [.ref (od 0), .int (nI k), .int (nI 0)] (obw G od (td 0) (nn 0) (dd 0) (pd 0) bo (wd 0) (sd 0) (e0 0) (e1 0) kp ++ (tkw G nn a r)) (fun (r9 : Int32) (_ : Unit) => r9 = (nI (r 0 k))) (fun (_ : Unit) => obw G od (td 0) (nn 0) (dd 0) (pd 0) bo (wd 0) (sd 0) (e0 0) (e1 0) kp ++ (tkw G nn a r)) := by
  refine Mi.of (cc := cX7_link) (nL := 3) (by decide) (Nat.le_of_ble_eq_true rfl) ?_
  intro p e s m below meth c A ls F hr hlocks hnm hX hA hD hP hS hl
  have F : CallFix p m c cX7_link 3 s [.ref (od 0), .int (nI k), .int (nI 0)].toArray wA RX7 := F
  obtain ⟨hx, hb, hml, hown, hts⟩ := id F
  have hl : lv_has ls 3 [(0, .ref (od 0)), (1, .int (nI k)), (2, .int (nI 0))] := hl
  obtain ⟨t0, t1, t2, t3, t4, t5, t6, t7, t8, t9, t10, t11, t12⟩ := id hT
  refine lv_aload_n hx hb dX7_link_0 rfl (lv_at hl 0 rfl) ?_
  refine va_get (D := G.1) (ci := 6) (v := .ref (nn 0)) (C := RX7) (T := TX7) (N := 9) hx hb hts inA7 hown hX.1 hP 0 rfl rfl 1 (by decide) (hts _ kw_195) (fun _ h9 => h9) rfl dX7_link_1 ?_
  refine lv_iload_n hx hb dX7_link_4 rfl (lv_at hl 1 rfl) ?_
  refine ca_Vi (ci := 3) (q := (RX4, TX4, 12)) (rest := []) (wr := obw G od (td 0) (nn 0) (dd 0) (pd 0) bo (wd 0) (sd 0) (e0 0) (e1 0) kp) F hX (mX4_hasLink l G nn a r k hT (by omega)) (cA_V hts kw_520 kw_3 kw_517 kw_518 kw_519 hdX4_hasLink ⟨Nat.le_of_ble_eq_true rfl, Nat.le_of_ble_eq_true rfl⟩) rfl rfl rfl hl.1 rfl (Nat.le_of_ble_eq_true rfl) dX7_link_5 ⟨Nat.le_of_ble_eq_true rfl, Nat.le_of_ble_eq_true rfl⟩ hP hD hS hA (List.perm_append_comm) (fun r5 u5 H locs hp5 hP hD hS => ?_)
  have hP : va_P G.1 vwCl (obw G od (td 0) (nn 0) (dd 0) (pd 0) bo (wd 0) (sd 0) (e0 0) (e1 0) kp ++ (tkw G nn a r)) H := wp_pm (List.perm_append_comm).symm hP
  have hD : va_D A (obw G od (td 0) (nn 0) (dd 0) (pd 0) bo (wd 0) (sd 0) (e0 0) (e1 0) kp ++ (tkw G nn a r)) := wd_pm (List.perm_append_comm).symm hD
  subst hp5
  refine bv_ne (b := true) (tgt := 13) hx hb dX7_link_8 (by decide) (fun c8 => ?_) (fun c8 => ?_)
  · refine lv_iload_n hx hb dX7_link_13 rfl (lv_at hl 2 rfl) ?_
    refine lv_tableIn (off := 38) (tgt := 52) hx hb dX7_link_14 (by decide) (by decide) (by decide +kernel) (by decide) ?_
    refine lv_aload_n hx hb dX7_link_52 rfl (lv_at hl 0 rfl) ?_
    refine va_get (D := G.1) (ci := 6) (v := .ref (nn 0)) (C := RX7) (T := TX7) (N := 9) hx hb hts inA7 hown hX.1 hP 0 rfl rfl 1 (by decide) (hts _ kw_195) (fun _ h9 => h9) rfl dX7_link_53 ?_
    refine va_get (D := G.1) (ci := 3) (v := .ref (nn 1)) (C := RX4) (T := TX4) (N := 12) hx hb hts inA4 hown hX.1 hP 3 rfl rfl 4 (by decide) (hts _ kw_84) (fun _ h9 => h9) rfl dX7_link_56 ?_
    refine lv_iload_n hx hb dX7_link_59 rfl (lv_at hl 1 rfl) ?_
    refine nv_ald (f := r 0) (k := k) hx hb hX hP 4 rfl (by omega) (by decide) dX7_link_60 ?_
    exact re_i (v := (nI ((r 0) k))) hx hb hr hlocks hS () hP hD rfl dX7_link_61
  · exact absurd c8 (by decide)

set_option maxHeartbeats 4000000 in
set_option maxRecDepth 100000 in
theorem mX7_link_1 (l : Launch) (G : GG) (od td nn dd pd : Nat → Nat) (bo : Nat) (wd sd e0 e1 : Nat → Nat) (kp : Nat → Int32) (a : Nat → Nat) (r : Nat → Nat → Nat) (k : Nat) (hT : TB a r) (hk : k < a 3) : Mi l yX7_link cX7_link 3 (some .int) (rmN 1 21) G [.ref (od 0), .int (nI k), .int (nI 1)] (obw G od (td 0) (nn 0) (dd 0) (pd 0) bo (wd 0) (sd 0) (e0 0) (e1 0) kp ++ (tkw G nn a r)) (fun (r9 : Int32) (_ : Unit) => r9 = (nI (r 1 k))) (fun (_ : Unit) => obw G od (td 0) (nn 0) (dd 0) (pd 0) bo (wd 0) (sd 0) (e0 0) (e1 0) kp ++ (tkw G nn a r)) := by
  refine Mi.of (cc := cX7_link) (nL := 3) (by decide) (Nat.le_of_ble_eq_true rfl) ?_
  intro p e s m below meth c A ls F hr hlocks hnm hX hA hD hP hS hl
  have F : CallFix p m c cX7_link 3 s [.ref (od 0), .int (nI k), .int (nI 1)].toArray wA RX7 := F
  obtain ⟨hx, hb, hml, hown, hts⟩ := id F
  have hl : lv_has ls 3 [(0, .ref (od 0)), (1, .int (nI k)), (2, .int (nI 1))] := hl
  obtain ⟨t0, t1, t2, t3, t4, t5, t6, t7, t8, t9, t10, t11, t12⟩ := id hT
  refine lv_aload_n hx hb dX7_link_0 rfl (lv_at hl 0 rfl) ?_
  refine va_get (D := G.1) (ci := 6) (v := .ref (nn 0)) (C := RX7) (T := TX7) (N := 9) hx hb hts inA7 hown hX.1 hP 0 rfl rfl 1 (by decide) (hts _ kw_195) (fun _ h9 => h9) rfl dX7_link_1 ?_
  refine lv_iload_n hx hb dX7_link_4 rfl (lv_at hl 1 rfl) ?_
  refine ca_Vi (ci := 3) (q := (RX4, TX4, 12)) (rest := []) (wr := obw G od (td 0) (nn 0) (dd 0) (pd 0) bo (wd 0) (sd 0) (e0 0) (e1 0) kp) F hX (mX4_hasLink l G nn a r k hT (by omega)) (cA_V hts kw_520 kw_3 kw_517 kw_518 kw_519 hdX4_hasLink ⟨Nat.le_of_ble_eq_true rfl, Nat.le_of_ble_eq_true rfl⟩) rfl rfl rfl hl.1 rfl (Nat.le_of_ble_eq_true rfl) dX7_link_5 ⟨Nat.le_of_ble_eq_true rfl, Nat.le_of_ble_eq_true rfl⟩ hP hD hS hA (List.perm_append_comm) (fun r5 u5 H locs hp5 hP hD hS => ?_)
  have hP : va_P G.1 vwCl (obw G od (td 0) (nn 0) (dd 0) (pd 0) bo (wd 0) (sd 0) (e0 0) (e1 0) kp ++ (tkw G nn a r)) H := wp_pm (List.perm_append_comm).symm hP
  have hD : va_D A (obw G od (td 0) (nn 0) (dd 0) (pd 0) bo (wd 0) (sd 0) (e0 0) (e1 0) kp ++ (tkw G nn a r)) := wd_pm (List.perm_append_comm).symm hD
  subst hp5
  refine bv_ne (b := true) (tgt := 13) hx hb dX7_link_8 (by decide) (fun c8 => ?_) (fun c8 => ?_)
  · refine lv_iload_n hx hb dX7_link_13 rfl (lv_at hl 2 rfl) ?_
    refine lv_tableIn (off := 48) (tgt := 62) hx hb dX7_link_14 (by decide) (by decide) (by decide +kernel) (by decide) ?_
    refine lv_aload_n hx hb dX7_link_62 rfl (lv_at hl 0 rfl) ?_
    refine va_get (D := G.1) (ci := 6) (v := .ref (nn 0)) (C := RX7) (T := TX7) (N := 9) hx hb hts inA7 hown hX.1 hP 0 rfl rfl 1 (by decide) (hts _ kw_195) (fun _ h9 => h9) rfl dX7_link_63 ?_
    refine va_get (D := G.1) (ci := 3) (v := .ref (nn 2)) (C := RX4) (T := TX4) (N := 12) hx hb hts inA4 hown hX.1 hP 3 rfl rfl 5 (by decide) (hts _ kw_87) (fun _ h9 => h9) rfl dX7_link_66 ?_
    refine lv_iload_n hx hb dX7_link_69 rfl (lv_at hl 1 rfl) ?_
    refine nv_ald (f := r 1) (k := k) hx hb hX hP 5 rfl (by omega) (by decide) dX7_link_70 ?_
    exact re_i (v := (nI ((r 1) k))) hx hb hr hlocks hS () hP hD rfl dX7_link_71
  · exact absurd c8 (by decide)

set_option maxHeartbeats 4000000 in
set_option maxRecDepth 100000 in
theorem mX7_link_2 (l : Launch) (G : GG) (od td nn dd pd : Nat → Nat) (bo : Nat) (wd sd e0 e1 : Nat → Nat) (kp : Nat → Int32) (a : Nat → Nat) (r : Nat → Nat → Nat) (k : Nat) (hT : TB a r) (hk : k < a 3) : Mi l yX7_link cX7_link 3 (some .int) (rmN 1 21) G [.ref (od 0), .int (nI k), .int (nI 2)] (obw G od (td 0) (nn 0) (dd 0) (pd 0) bo (wd 0) (sd 0) (e0 0) (e1 0) kp ++ (tkw G nn a r)) (fun (r9 : Int32) (_ : Unit) => r9 = (nI (r 2 k))) (fun (_ : Unit) => obw G od (td 0) (nn 0) (dd 0) (pd 0) bo (wd 0) (sd 0) (e0 0) (e1 0) kp ++ (tkw G nn a r)) := by
  refine Mi.of (cc := cX7_link) (nL := 3) (by decide) (Nat.le_of_ble_eq_true rfl) ?_
  intro p e s m below meth c A ls F hr hlocks hnm hX hA hD hP hS hl
  have F : CallFix p m c cX7_link 3 s [.ref (od 0), .int (nI k), .int (nI 2)].toArray wA RX7 := F
  obtain ⟨hx, hb, hml, hown, hts⟩ := id F
  have hl : lv_has ls 3 [(0, .ref (od 0)), (1, .int (nI k)), (2, .int (nI 2))] := hl
  obtain ⟨t0, t1, t2, t3, t4, t5, t6, t7, t8, t9, t10, t11, t12⟩ := id hT
  refine lv_aload_n hx hb dX7_link_0 rfl (lv_at hl 0 rfl) ?_
  refine va_get (D := G.1) (ci := 6) (v := .ref (nn 0)) (C := RX7) (T := TX7) (N := 9) hx hb hts inA7 hown hX.1 hP 0 rfl rfl 1 (by decide) (hts _ kw_195) (fun _ h9 => h9) rfl dX7_link_1 ?_
  refine lv_iload_n hx hb dX7_link_4 rfl (lv_at hl 1 rfl) ?_
  refine ca_Vi (ci := 3) (q := (RX4, TX4, 12)) (rest := []) (wr := obw G od (td 0) (nn 0) (dd 0) (pd 0) bo (wd 0) (sd 0) (e0 0) (e1 0) kp) F hX (mX4_hasLink l G nn a r k hT (by omega)) (cA_V hts kw_520 kw_3 kw_517 kw_518 kw_519 hdX4_hasLink ⟨Nat.le_of_ble_eq_true rfl, Nat.le_of_ble_eq_true rfl⟩) rfl rfl rfl hl.1 rfl (Nat.le_of_ble_eq_true rfl) dX7_link_5 ⟨Nat.le_of_ble_eq_true rfl, Nat.le_of_ble_eq_true rfl⟩ hP hD hS hA (List.perm_append_comm) (fun r5 u5 H locs hp5 hP hD hS => ?_)
  have hP : va_P G.1 vwCl (obw G od (td 0) (nn 0) (dd 0) (pd 0) bo (wd 0) (sd 0) (e0 0) (e1 0) kp ++ (tkw G nn a r)) H := wp_pm (List.perm_append_comm).symm hP
  have hD : va_D A (obw G od (td 0) (nn 0) (dd 0) (pd 0) bo (wd 0) (sd 0) (e0 0) (e1 0) kp ++ (tkw G nn a r)) := wd_pm (List.perm_append_comm).symm hD
  subst hp5
  refine bv_ne (b := true) (tgt := 13) hx hb dX7_link_8 (by decide) (fun c8 => ?_) (fun c8 => ?_)
  · refine lv_iload_n hx hb dX7_link_13 rfl (lv_at hl 2 rfl) ?_
    refine lv_tableIn (off := 58) (tgt := 72) hx hb dX7_link_14 (by decide) (by decide) (by decide +kernel) (by decide) ?_
    refine lv_aload_n hx hb dX7_link_72 rfl (lv_at hl 0 rfl) ?_
    refine va_get (D := G.1) (ci := 6) (v := .ref (nn 0)) (C := RX7) (T := TX7) (N := 9) hx hb hts inA7 hown hX.1 hP 0 rfl rfl 1 (by decide) (hts _ kw_195) (fun _ h9 => h9) rfl dX7_link_73 ?_
    refine va_get (D := G.1) (ci := 3) (v := .ref (nn 3)) (C := RX4) (T := TX4) (N := 12) hx hb hts inA4 hown hX.1 hP 3 rfl rfl 6 (by decide) (hts _ kw_91) (fun _ h9 => h9) rfl dX7_link_76 ?_
    refine lv_iload_n hx hb dX7_link_79 rfl (lv_at hl 1 rfl) ?_
    refine nv_ald (f := r 2) (k := k) hx hb hX hP 6 rfl (by omega) (by decide) dX7_link_80 ?_
    exact re_i (v := (nI ((r 2) k))) hx hb hr hlocks hS () hP hD rfl dX7_link_81
  · exact absurd c8 (by decide)

set_option maxHeartbeats 4000000 in
set_option maxRecDepth 100000 in
theorem mX7_link_3 (l : Launch) (G : GG) (od td nn dd pd : Nat → Nat) (bo : Nat) (wd sd e0 e1 : Nat → Nat) (kp : Nat → Int32) (a : Nat → Nat) (r : Nat → Nat → Nat) (k : Nat) (hT : TB a r) (hk : k < a 3) : Mi l yX7_link cX7_link 3 (some .int) (rmN 1 21) G [.ref (od 0), .int (nI k), .int (nI 3)] (obw G od (td 0) (nn 0) (dd 0) (pd 0) bo (wd 0) (sd 0) (e0 0) (e1 0) kp ++ (tkw G nn a r)) (fun (r9 : Int32) (_ : Unit) => r9 = (bI ((a 8).testBit k))) (fun (_ : Unit) => obw G od (td 0) (nn 0) (dd 0) (pd 0) bo (wd 0) (sd 0) (e0 0) (e1 0) kp ++ (tkw G nn a r)) := by
  refine Mi.of (cc := cX7_link) (nL := 3) (by decide) (Nat.le_of_ble_eq_true rfl) ?_
  intro p e s m below meth c A ls F hr hlocks hnm hX hA hD hP hS hl
  have F : CallFix p m c cX7_link 3 s [.ref (od 0), .int (nI k), .int (nI 3)].toArray wA RX7 := F
  obtain ⟨hx, hb, hml, hown, hts⟩ := id F
  have hl : lv_has ls 3 [(0, .ref (od 0)), (1, .int (nI k)), (2, .int (nI 3))] := hl
  obtain ⟨t0, t1, t2, t3, t4, t5, t6, t7, t8, t9, t10, t11, t12⟩ := id hT
  refine lv_aload_n hx hb dX7_link_0 rfl (lv_at hl 0 rfl) ?_
  refine va_get (D := G.1) (ci := 6) (v := .ref (nn 0)) (C := RX7) (T := TX7) (N := 9) hx hb hts inA7 hown hX.1 hP 0 rfl rfl 1 (by decide) (hts _ kw_195) (fun _ h9 => h9) rfl dX7_link_1 ?_
  refine lv_iload_n hx hb dX7_link_4 rfl (lv_at hl 1 rfl) ?_
  refine ca_Vi (ci := 3) (q := (RX4, TX4, 12)) (rest := []) (wr := obw G od (td 0) (nn 0) (dd 0) (pd 0) bo (wd 0) (sd 0) (e0 0) (e1 0) kp) F hX (mX4_hasLink l G nn a r k hT (by omega)) (cA_V hts kw_520 kw_3 kw_517 kw_518 kw_519 hdX4_hasLink ⟨Nat.le_of_ble_eq_true rfl, Nat.le_of_ble_eq_true rfl⟩) rfl rfl rfl hl.1 rfl (Nat.le_of_ble_eq_true rfl) dX7_link_5 ⟨Nat.le_of_ble_eq_true rfl, Nat.le_of_ble_eq_true rfl⟩ hP hD hS hA (List.perm_append_comm) (fun r5 u5 H locs hp5 hP hD hS => ?_)
  have hP : va_P G.1 vwCl (obw G od (td 0) (nn 0) (dd 0) (pd 0) bo (wd 0) (sd 0) (e0 0) (e1 0) kp ++ (tkw G nn a r)) H := wp_pm (List.perm_append_comm).symm hP
  have hD : va_D A (obw G od (td 0) (nn 0) (dd 0) (pd 0) bo (wd 0) (sd 0) (e0 0) (e1 0) kp ++ (tkw G nn a r)) := wd_pm (List.perm_append_comm).symm hD
  subst hp5
  refine bv_ne (b := true) (tgt := 13) hx hb dX7_link_8 (by decide) (fun c8 => ?_) (fun c8 => ?_)
  · refine lv_iload_n hx hb dX7_link_13 rfl (lv_at hl 2 rfl) ?_
    refine lv_tableIn (off := 68) (tgt := 82) hx hb dX7_link_14 (by decide) (by decide) (by decide +kernel) (by decide) ?_
    refine lv_aload_n hx hb dX7_link_82 rfl (lv_at hl 0 rfl) ?_
    refine va_get (D := G.1) (ci := 6) (v := .ref (nn 0)) (C := RX7) (T := TX7) (N := 9) hx hb hts inA7 hown hX.1 hP 0 rfl rfl 1 (by decide) (hts _ kw_195) (fun _ h9 => h9) rfl dX7_link_83 ?_
    refine va_get (D := G.1) (ci := 3) (v := .int (nI (a 8))) (C := RX4) (T := TX4) (N := 12) hx hb hts inA4 hown hX.1 hP 3 rfl rfl 8 (by decide) (hts _ kw_99) (fun _ h9 => h9) rfl dX7_link_86 ?_
    refine lv_iload_n hx hb dX7_link_89 rfl (lv_at hl 1 rfl) ?_
    refine ca_Si (rest := []) (wr := obw G od (td 0) (nn 0) (dd 0) (pd 0) bo (wd 0) (sd 0) (e0 0) (e1 0) kp ++ (tkw G nn a r)) F hX (mX7_has l G (a 8) k (by omega) (by omega)) (cA_S hts kw_357 kw_1 kw_521 kw_356 hdX7_has ⟨Nat.le_of_ble_eq_true rfl, Nat.le_of_ble_eq_true rfl⟩) rfl hl.1 rfl (Nat.le_of_ble_eq_true rfl) dX7_link_90 ⟨Nat.le_of_ble_eq_true rfl, Nat.le_of_ble_eq_true rfl⟩ hP hD hS hA (List.Perm.refl _) (fun r90 u90 H locs hp90 hP hD hS => ?_)
    have hP : va_P G.1 vwCl (obw G od (td 0) (nn 0) (dd 0) (pd 0) bo (wd 0) (sd 0) (e0 0) (e1 0) kp ++ (tkw G nn a r)) H := hP
    have hD : va_D A (obw G od (td 0) (nn 0) (dd 0) (pd 0) bo (wd 0) (sd 0) (e0 0) (e1 0) kp ++ (tkw G nn a r)) := hD
    subst hp90
    refine bv_eq (b := (a 8).testBit k) (tgt := 100) hx hb dX7_link_93 (by decide) (fun c93 => ?_) (fun c93 => ?_)
    · refine lv_iconst (v := (nI 0)) hx hb dX7_link_100 (by decide) ?_
      exact re_i (v := (nI 0)) hx hb hr hlocks hS () hP hD (by rw [c93]; rfl) dX7_link_101
    · refine lv_iconst (v := (nI 1)) hx hb dX7_link_96 (by decide) ?_
      refine lv_goto (tgt := 101) hx hb dX7_link_97 (by decide) ?_
      exact re_i (v := (nI 1)) hx hb hr hlocks hS () hP hD (by rw [c93]; rfl) dX7_link_101
  · exact absurd c8 (by decide)

set_option maxHeartbeats 4000000 in
set_option maxRecDepth 100000 in
theorem mX7_link_4 (l : Launch) (G : GG) (od td nn dd pd : Nat → Nat) (bo : Nat) (wd sd e0 e1 : Nat → Nat) (kp : Nat → Int32) (a : Nat → Nat) (r : Nat → Nat → Nat) (k : Nat) (hT : TB a r) (hk : k < a 3) : Mi l yX7_link cX7_link 3 (some .int) (rmN 1 21) G [.ref (od 0), .int (nI k), .int (nI 4)] (obw G od (td 0) (nn 0) (dd 0) (pd 0) bo (wd 0) (sd 0) (e0 0) (e1 0) kp ++ (tkw G nn a r)) (fun (r9 : Int32) (_ : Unit) => r9 = (bI ((a 9).testBit k))) (fun (_ : Unit) => obw G od (td 0) (nn 0) (dd 0) (pd 0) bo (wd 0) (sd 0) (e0 0) (e1 0) kp ++ (tkw G nn a r)) := by
  refine Mi.of (cc := cX7_link) (nL := 3) (by decide) (Nat.le_of_ble_eq_true rfl) ?_
  intro p e s m below meth c A ls F hr hlocks hnm hX hA hD hP hS hl
  have F : CallFix p m c cX7_link 3 s [.ref (od 0), .int (nI k), .int (nI 4)].toArray wA RX7 := F
  obtain ⟨hx, hb, hml, hown, hts⟩ := id F
  have hl : lv_has ls 3 [(0, .ref (od 0)), (1, .int (nI k)), (2, .int (nI 4))] := hl
  obtain ⟨t0, t1, t2, t3, t4, t5, t6, t7, t8, t9, t10, t11, t12⟩ := id hT
  refine lv_aload_n hx hb dX7_link_0 rfl (lv_at hl 0 rfl) ?_
  refine va_get (D := G.1) (ci := 6) (v := .ref (nn 0)) (C := RX7) (T := TX7) (N := 9) hx hb hts inA7 hown hX.1 hP 0 rfl rfl 1 (by decide) (hts _ kw_195) (fun _ h9 => h9) rfl dX7_link_1 ?_
  refine lv_iload_n hx hb dX7_link_4 rfl (lv_at hl 1 rfl) ?_
  refine ca_Vi (ci := 3) (q := (RX4, TX4, 12)) (rest := []) (wr := obw G od (td 0) (nn 0) (dd 0) (pd 0) bo (wd 0) (sd 0) (e0 0) (e1 0) kp) F hX (mX4_hasLink l G nn a r k hT (by omega)) (cA_V hts kw_520 kw_3 kw_517 kw_518 kw_519 hdX4_hasLink ⟨Nat.le_of_ble_eq_true rfl, Nat.le_of_ble_eq_true rfl⟩) rfl rfl rfl hl.1 rfl (Nat.le_of_ble_eq_true rfl) dX7_link_5 ⟨Nat.le_of_ble_eq_true rfl, Nat.le_of_ble_eq_true rfl⟩ hP hD hS hA (List.perm_append_comm) (fun r5 u5 H locs hp5 hP hD hS => ?_)
  have hP : va_P G.1 vwCl (obw G od (td 0) (nn 0) (dd 0) (pd 0) bo (wd 0) (sd 0) (e0 0) (e1 0) kp ++ (tkw G nn a r)) H := wp_pm (List.perm_append_comm).symm hP
  have hD : va_D A (obw G od (td 0) (nn 0) (dd 0) (pd 0) bo (wd 0) (sd 0) (e0 0) (e1 0) kp ++ (tkw G nn a r)) := wd_pm (List.perm_append_comm).symm hD
  subst hp5
  refine bv_ne (b := true) (tgt := 13) hx hb dX7_link_8 (by decide) (fun c8 => ?_) (fun c8 => ?_)
  · refine lv_iload_n hx hb dX7_link_13 rfl (lv_at hl 2 rfl) ?_
    refine lv_tableIn (off := 88) (tgt := 102) hx hb dX7_link_14 (by decide) (by decide) (by decide +kernel) (by decide) ?_
    refine lv_aload_n hx hb dX7_link_102 rfl (lv_at hl 0 rfl) ?_
    refine va_get (D := G.1) (ci := 6) (v := .ref (nn 0)) (C := RX7) (T := TX7) (N := 9) hx hb hts inA7 hown hX.1 hP 0 rfl rfl 1 (by decide) (hts _ kw_195) (fun _ h9 => h9) rfl dX7_link_103 ?_
    refine va_get (D := G.1) (ci := 3) (v := .int (nI (a 9))) (C := RX4) (T := TX4) (N := 12) hx hb hts inA4 hown hX.1 hP 3 rfl rfl 9 (by decide) (hts _ kw_102) (fun _ h9 => h9) rfl dX7_link_106 ?_
    refine lv_iload_n hx hb dX7_link_109 rfl (lv_at hl 1 rfl) ?_
    refine ca_Si (rest := []) (wr := obw G od (td 0) (nn 0) (dd 0) (pd 0) bo (wd 0) (sd 0) (e0 0) (e1 0) kp ++ (tkw G nn a r)) F hX (mX7_has l G (a 9) k (by omega) (by omega)) (cA_S hts kw_357 kw_1 kw_521 kw_356 hdX7_has ⟨Nat.le_of_ble_eq_true rfl, Nat.le_of_ble_eq_true rfl⟩) rfl hl.1 rfl (Nat.le_of_ble_eq_true rfl) dX7_link_110 ⟨Nat.le_of_ble_eq_true rfl, Nat.le_of_ble_eq_true rfl⟩ hP hD hS hA (List.Perm.refl _) (fun r110 u110 H locs hp110 hP hD hS => ?_)
    have hP : va_P G.1 vwCl (obw G od (td 0) (nn 0) (dd 0) (pd 0) bo (wd 0) (sd 0) (e0 0) (e1 0) kp ++ (tkw G nn a r)) H := hP
    have hD : va_D A (obw G od (td 0) (nn 0) (dd 0) (pd 0) bo (wd 0) (sd 0) (e0 0) (e1 0) kp ++ (tkw G nn a r)) := hD
    subst hp110
    refine bv_eq (b := (a 9).testBit k) (tgt := 120) hx hb dX7_link_113 (by decide) (fun c113 => ?_) (fun c113 => ?_)
    · refine lv_iconst (v := (nI 0)) hx hb dX7_link_120 (by decide) ?_
      exact re_i (v := (nI 0)) hx hb hr hlocks hS () hP hD (by rw [c113]; rfl) dX7_link_121
    · refine lv_iconst (v := (nI 1)) hx hb dX7_link_116 (by decide) ?_
      refine lv_goto (tgt := 121) hx hb dX7_link_117 (by decide) ?_
      exact re_i (v := (nI 1)) hx hb hr hlocks hS () hP hD (by rw [c113]; rfl) dX7_link_121
  · exact absurd c8 (by decide)

set_option maxHeartbeats 4000000 in
set_option maxRecDepth 100000 in
theorem mX7_link_5 (l : Launch) (G : GG) (od td nn dd pd : Nat → Nat) (bo : Nat) (wd sd e0 e1 : Nat → Nat) (kp : Nat → Int32) (a : Nat → Nat) (r : Nat → Nat → Nat) (k : Nat) (hT : TB a r) (hk : k < a 3) : Mi l yX7_link cX7_link 3 (some .int) (rmN 4 88) G [.ref (od 0), .int (nI k), .int (nI 5)] (obw G od (td 0) (nn 0) (dd 0) (pd 0) bo (wd 0) (sd 0) (e0 0) (e1 0) kp ++ (tkw G nn a r)) (fun (r9 : Int32) (_ : Unit) => r9 = (nI (ldN (r 0) (r 1) (a 0) (a 1) (a 3) (a 7) (a 8) k))) (fun (_ : Unit) => obw G od (td 0) (nn 0) (dd 0) (pd 0) bo (wd 0) (sd 0) (e0 0) (e1 0) kp ++ (tkw G nn a r)) := by
  refine Mi.of (cc := cX7_link) (nL := 3) (by decide) (Nat.le_of_ble_eq_true rfl) ?_
  intro p e s m below meth c A ls F hr hlocks hnm hX hA hD hP hS hl
  have F : CallFix p m c cX7_link 3 s [.ref (od 0), .int (nI k), .int (nI 5)].toArray wA RX7 := F
  obtain ⟨hx, hb, hml, hown, hts⟩ := id F
  have hl : lv_has ls 3 [(0, .ref (od 0)), (1, .int (nI k)), (2, .int (nI 5))] := hl
  obtain ⟨t0, t1, t2, t3, t4, t5, t6, t7, t8, t9, t10, t11, t12⟩ := id hT
  refine lv_aload_n hx hb dX7_link_0 rfl (lv_at hl 0 rfl) ?_
  refine va_get (D := G.1) (ci := 6) (v := .ref (nn 0)) (C := RX7) (T := TX7) (N := 9) hx hb hts inA7 hown hX.1 hP 0 rfl rfl 1 (by decide) (hts _ kw_195) (fun _ h9 => h9) rfl dX7_link_1 ?_
  refine lv_iload_n hx hb dX7_link_4 rfl (lv_at hl 1 rfl) ?_
  refine ca_Vi (ci := 3) (q := (RX4, TX4, 12)) (rest := []) (wr := obw G od (td 0) (nn 0) (dd 0) (pd 0) bo (wd 0) (sd 0) (e0 0) (e1 0) kp) F hX (mX4_hasLink l G nn a r k hT (by omega)) (cA_V hts kw_520 kw_3 kw_517 kw_518 kw_519 hdX4_hasLink ⟨Nat.le_of_ble_eq_true rfl, Nat.le_of_ble_eq_true rfl⟩) rfl rfl rfl hl.1 rfl (Nat.le_of_ble_eq_true rfl) dX7_link_5 ⟨Nat.le_of_ble_eq_true rfl, Nat.le_of_ble_eq_true rfl⟩ hP hD hS hA (List.perm_append_comm) (fun r5 u5 H locs hp5 hP hD hS => ?_)
  have hP : va_P G.1 vwCl (obw G od (td 0) (nn 0) (dd 0) (pd 0) bo (wd 0) (sd 0) (e0 0) (e1 0) kp ++ (tkw G nn a r)) H := wp_pm (List.perm_append_comm).symm hP
  have hD : va_D A (obw G od (td 0) (nn 0) (dd 0) (pd 0) bo (wd 0) (sd 0) (e0 0) (e1 0) kp ++ (tkw G nn a r)) := wd_pm (List.perm_append_comm).symm hD
  subst hp5
  refine bv_ne (b := true) (tgt := 13) hx hb dX7_link_8 (by decide) (fun c8 => ?_) (fun c8 => ?_)
  · refine lv_iload_n hx hb dX7_link_13 rfl (lv_at hl 2 rfl) ?_
    refine lv_tableIn (off := 108) (tgt := 122) hx hb dX7_link_14 (by decide) (by decide) (by decide +kernel) (by decide) ?_
    refine lv_aload_n hx hb dX7_link_122 rfl (lv_at hl 0 rfl) ?_
    refine va_get (D := G.1) (ci := 6) (v := .ref (nn 0)) (C := RX7) (T := TX7) (N := 9) hx hb hts inA7 hown hX.1 hP 0 rfl rfl 1 (by decide) (hts _ kw_195) (fun _ h9 => h9) rfl dX7_link_123 ?_
    refine lv_iload_n hx hb dX7_link_126 rfl (lv_at hl 1 rfl) ?_
    refine ca_Vi (ci := 3) (q := (RX4, TX4, 12)) (rest := []) (wr := obw G od (td 0) (nn 0) (dd 0) (pd 0) bo (wd 0) (sd 0) (e0 0) (e1 0) kp) F hX (mX4_load l G nn a r k hT (by omega)) (cA_V hts kw_564 kw_3 kw_561 kw_562 kw_563 hdX4_load ⟨Nat.le_of_ble_eq_true rfl, Nat.le_of_ble_eq_true rfl⟩) rfl rfl rfl hl.1 rfl (Nat.le_of_ble_eq_true rfl) dX7_link_127 ⟨Nat.le_of_ble_eq_true rfl, Nat.le_of_ble_eq_true rfl⟩ hP hD hS hA (List.perm_append_comm) (fun r127 u127 H locs hp127 hP hD hS => ?_)
    have hP : va_P G.1 vwCl (obw G od (td 0) (nn 0) (dd 0) (pd 0) bo (wd 0) (sd 0) (e0 0) (e1 0) kp ++ (tkw G nn a r)) H := wp_pm (List.perm_append_comm).symm hP
    have hD : va_D A (obw G od (td 0) (nn 0) (dd 0) (pd 0) bo (wd 0) (sd 0) (e0 0) (e1 0) kp ++ (tkw G nn a r)) := wd_pm (List.perm_append_comm).symm hD
    subst hp127
    exact re_i (v := (nI (ldN (r 0) (r 1) (a 0) (a 1) (a 3) (a 7) (a 8) k))) hx hb hr hlocks hS () hP hD rfl dX7_link_130
  · exact absurd c8 (by decide)

theorem hdX7_node : hdOK yX7_node 2 := by decide +kernel
set_option maxHeartbeats 4000000 in
set_option maxRecDepth 100000 in
theorem mX7_node_bad (l : Launch) (G : GG) (od td nn dd pd : Nat → Nat) (bo : Nat) (wd sd e0 e1 : Nat → Nat) (kp : Nat → Int32) (a : Nat → Nat) (r : Nat → Nat → Nat) (x y : Int32) (hT : TB a r) (hk : ¬ (0 ≤ x.toInt ∧ x.toInt < a 0)) : Mi l yX7_node cX7_node 3 (some .int) (rmN 1 21) G [.ref (od 0), .int x, .int y] (obw G od (td 0) (nn 0) (dd 0) (pd 0) bo (wd 0) (sd 0) (e0 0) (e1 0) kp ++ (tkw G nn a r)) (fun (r9 : Int32) (_ : Unit) => r9 = (-1)) (fun (_ : Unit) => obw G od (td 0) (nn 0) (dd 0) (pd 0) bo (wd 0) (sd 0) (e0 0) (e1 0) kp ++ (tkw G nn a r)) := by
  refine Mi.of (cc := cX7_node) (nL := 3) (by decide) (Nat.le_of_ble_eq_true rfl) ?_
  intro p e s m below meth c A ls F hr hlocks hnm hX hA hD hP hS hl
  have F : CallFix p m c cX7_node 3 s [.ref (od 0), .int x, .int y].toArray wA RX7 := F
  obtain ⟨hx, hb, hml, hown, hts⟩ := id F
  have hl : lv_has ls 3 [(0, .ref (od 0)), (1, .int x), (2, .int y)] := hl
  refine lv_aload_n hx hb dX7_node_0 rfl (lv_at hl 0 rfl) ?_
  refine va_get (D := G.1) (ci := 6) (v := .ref (nn 0)) (C := RX7) (T := TX7) (N := 9) hx hb hts inA7 hown hX.1 hP 0 rfl rfl 1 (by decide) (hts _ kw_195) (fun _ h9 => h9) rfl dX7_node_1 ?_
  refine lv_iload_n hx hb dX7_node_4 rfl (lv_at hl 1 rfl) ?_
  refine ca_Vi (ci := 3) (q := (RX4, TX4, 12)) (rest := []) (wr := obw G od (td 0) (nn 0) (dd 0) (pd 0) bo (wd 0) (sd 0) (e0 0) (e1 0) kp) F hX (mX4_hasNode_no l G nn a r x hT hk) (cA_V hts kw_389 kw_3 kw_386 kw_387 kw_388 hdX4_hasNode ⟨Nat.le_of_ble_eq_true rfl, Nat.le_of_ble_eq_true rfl⟩) rfl rfl rfl hl.1 rfl (Nat.le_of_ble_eq_true rfl) dX7_node_5 ⟨Nat.le_of_ble_eq_true rfl, Nat.le_of_ble_eq_true rfl⟩ hP hD hS hA (List.perm_append_comm) (fun r5 u5 H locs hp5 hP hD hS => ?_)
  have hP : va_P G.1 vwCl (obw G od (td 0) (nn 0) (dd 0) (pd 0) bo (wd 0) (sd 0) (e0 0) (e1 0) kp ++ (tkw G nn a r)) H := wp_pm (List.perm_append_comm).symm hP
  have hD : va_D A (obw G od (td 0) (nn 0) (dd 0) (pd 0) bo (wd 0) (sd 0) (e0 0) (e1 0) kp ++ (tkw G nn a r)) := wd_pm (List.perm_append_comm).symm hD
  subst hp5
  refine bv_ne (b := false) (tgt := 13) hx hb dX7_node_8 (by decide) (fun c8 => ?_) (fun c8 => ?_)
  · exact absurd c8 (by decide)
  · refine lv_iconst (v := (-1)) hx hb dX7_node_11 (by decide) ?_
    exact re_i (v := (-1)) hx hb hr hlocks hS () hP hD rfl dX7_node_12

set_option maxHeartbeats 4000000 in
set_option maxRecDepth 100000 in
theorem mX7_node_badw (l : Launch) (G : GG) (od td nn dd pd : Nat → Nat) (bo : Nat) (wd sd e0 e1 : Nat → Nat) (kp : Nat → Int32) (a : Nat → Nat) (r : Nat → Nat → Nat) (v : Nat) (y : Int32) (hT : TB a r) (hv : v < a 0) (hy : ¬ (0 ≤ y.toInt ∧ y.toInt ≤ 6)) : Mi l yX7_node cX7_node 3 (some .int) (rmN 1 21) G [.ref (od 0), .int (nI v), .int y] (obw G od (td 0) (nn 0) (dd 0) (pd 0) bo (wd 0) (sd 0) (e0 0) (e1 0) kp ++ (tkw G nn a r)) (fun (r9 : Int32) (_ : Unit) => r9 = (-1)) (fun (_ : Unit) => obw G od (td 0) (nn 0) (dd 0) (pd 0) bo (wd 0) (sd 0) (e0 0) (e1 0) kp ++ (tkw G nn a r)) := by
  refine Mi.of (cc := cX7_node) (nL := 3) (by decide) (Nat.le_of_ble_eq_true rfl) ?_
  intro p e s m below meth c A ls F hr hlocks hnm hX hA hD hP hS hl
  have F : CallFix p m c cX7_node 3 s [.ref (od 0), .int (nI v), .int y].toArray wA RX7 := F
  obtain ⟨hx, hb, hml, hown, hts⟩ := id F
  have hl : lv_has ls 3 [(0, .ref (od 0)), (1, .int (nI v)), (2, .int y)] := hl
  obtain ⟨t0, t1, t2, t3, t4, t5, t6, t7, t8, t9, t10, t11, t12⟩ := id hT
  refine lv_aload_n hx hb dX7_node_0 rfl (lv_at hl 0 rfl) ?_
  refine va_get (D := G.1) (ci := 6) (v := .ref (nn 0)) (C := RX7) (T := TX7) (N := 9) hx hb hts inA7 hown hX.1 hP 0 rfl rfl 1 (by decide) (hts _ kw_195) (fun _ h9 => h9) rfl dX7_node_1 ?_
  refine lv_iload_n hx hb dX7_node_4 rfl (lv_at hl 1 rfl) ?_
  refine ca_Vi (ci := 3) (q := (RX4, TX4, 12)) (rest := []) (wr := obw G od (td 0) (nn 0) (dd 0) (pd 0) bo (wd 0) (sd 0) (e0 0) (e1 0) kp) F hX (mX4_hasNode l G nn a r v hT (by omega)) (cA_V hts kw_389 kw_3 kw_386 kw_387 kw_388 hdX4_hasNode ⟨Nat.le_of_ble_eq_true rfl, Nat.le_of_ble_eq_true rfl⟩) rfl rfl rfl hl.1 rfl (Nat.le_of_ble_eq_true rfl) dX7_node_5 ⟨Nat.le_of_ble_eq_true rfl, Nat.le_of_ble_eq_true rfl⟩ hP hD hS hA (List.perm_append_comm) (fun r5 u5 H locs hp5 hP hD hS => ?_)
  have hP : va_P G.1 vwCl (obw G od (td 0) (nn 0) (dd 0) (pd 0) bo (wd 0) (sd 0) (e0 0) (e1 0) kp ++ (tkw G nn a r)) H := wp_pm (List.perm_append_comm).symm hP
  have hD : va_D A (obw G od (td 0) (nn 0) (dd 0) (pd 0) bo (wd 0) (sd 0) (e0 0) (e1 0) kp ++ (tkw G nn a r)) := wd_pm (List.perm_append_comm).symm hD
  subst hp5
  refine bv_ne (b := true) (tgt := 13) hx hb dX7_node_8 (by decide) (fun c8 => ?_) (fun c8 => ?_)
  · refine lv_iload_n hx hb dX7_node_13 rfl (lv_at hl 2 rfl) ?_
    refine lv_tableOut (tgt := 178) hx hb dX7_node_14 (sw_out (n := 6) hy) (by decide) ?_
    refine lv_iconst (v := (-1)) hx hb dX7_node_178 (by decide) ?_
    exact re_i (v := (-1)) hx hb hr hlocks hS () hP hD rfl dX7_node_179
  · exact absurd c8 (by decide)

set_option maxHeartbeats 4000000 in
set_option maxRecDepth 100000 in
theorem mX7_node_0 (l : Launch) (G : GG) (od td nn dd pd : Nat → Nat) (bo : Nat) (wd sd e0 e1 : Nat → Nat) (kp : Nat → Int32) (a : Nat → Nat) (r : Nat → Nat → Nat) (v : Nat) (hT : TB a r) (hv : v < a 0) : Mi l yX7_node cX7_node 3 (some .int) (rmN 3 63) G [.ref (od 0), .int (nI v), .int (nI 0)] (obw G od (td 0) (nn 0) (dd 0) (pd 0) bo (wd 0) (sd 0) (e0 0) (e1 0) kp ++ (tkw G nn a r)) (fun (r9 : Int32) (_ : Unit) => r9 = (nI (roN a v))) (fun (_ : Unit) => obw G od (td 0) (nn 0) (dd 0) (pd 0) bo (wd 0) (sd 0) (e0 0) (e1 0) kp ++ (tkw G nn a r)) := by
  refine Mi.of (cc := cX7_node) (nL := 3) (by decide) (Nat.le_of_ble_eq_true rfl) ?_
  intro p e s m below meth c A ls F hr hlocks hnm hX hA hD hP hS hl
  have F : CallFix p m c cX7_node 3 s [.ref (od 0), .int (nI v), .int (nI 0)].toArray wA RX7 := F
  obtain ⟨hx, hb, hml, hown, hts⟩ := id F
  have hl : lv_has ls 3 [(0, .ref (od 0)), (1, .int (nI v)), (2, .int (nI 0))] := hl
  obtain ⟨t0, t1, t2, t3, t4, t5, t6, t7, t8, t9, t10, t11, t12⟩ := id hT
  refine lv_aload_n hx hb dX7_node_0 rfl (lv_at hl 0 rfl) ?_
  refine va_get (D := G.1) (ci := 6) (v := .ref (nn 0)) (C := RX7) (T := TX7) (N := 9) hx hb hts inA7 hown hX.1 hP 0 rfl rfl 1 (by decide) (hts _ kw_195) (fun _ h9 => h9) rfl dX7_node_1 ?_
  refine lv_iload_n hx hb dX7_node_4 rfl (lv_at hl 1 rfl) ?_
  refine ca_Vi (ci := 3) (q := (RX4, TX4, 12)) (rest := []) (wr := obw G od (td 0) (nn 0) (dd 0) (pd 0) bo (wd 0) (sd 0) (e0 0) (e1 0) kp) F hX (mX4_hasNode l G nn a r v hT (by omega)) (cA_V hts kw_389 kw_3 kw_386 kw_387 kw_388 hdX4_hasNode ⟨Nat.le_of_ble_eq_true rfl, Nat.le_of_ble_eq_true rfl⟩) rfl rfl rfl hl.1 rfl (Nat.le_of_ble_eq_true rfl) dX7_node_5 ⟨Nat.le_of_ble_eq_true rfl, Nat.le_of_ble_eq_true rfl⟩ hP hD hS hA (List.perm_append_comm) (fun r5 u5 H locs hp5 hP hD hS => ?_)
  have hP : va_P G.1 vwCl (obw G od (td 0) (nn 0) (dd 0) (pd 0) bo (wd 0) (sd 0) (e0 0) (e1 0) kp ++ (tkw G nn a r)) H := wp_pm (List.perm_append_comm).symm hP
  have hD : va_D A (obw G od (td 0) (nn 0) (dd 0) (pd 0) bo (wd 0) (sd 0) (e0 0) (e1 0) kp ++ (tkw G nn a r)) := wd_pm (List.perm_append_comm).symm hD
  subst hp5
  refine bv_ne (b := true) (tgt := 13) hx hb dX7_node_8 (by decide) (fun c8 => ?_) (fun c8 => ?_)
  · refine lv_iload_n hx hb dX7_node_13 rfl (lv_at hl 2 rfl) ?_
    refine lv_tableIn (off := 42) (tgt := 56) hx hb dX7_node_14 (by decide) (by decide) (by decide +kernel) (by decide) ?_
    refine lv_aload_n hx hb dX7_node_56 rfl (lv_at hl 0 rfl) ?_
    refine lv_iload_n hx hb dX7_node_57 rfl (lv_at hl 1 rfl) ?_
    refine ca_Vi (ci := 6) (q := (RX7, TX7, 9)) (rest := []) (wr := ([] : va_W)) F hX (mX7_role l G od td nn dd pd bo wd sd e0 e1 kp a r v hT (by omega)) (cA_V hts kw_393 kw_1 kw_390 kw_392 kp_11 hdX7_role ⟨Nat.le_of_ble_eq_true rfl, Nat.le_of_ble_eq_true rfl⟩) rfl rfl rfl hl.1 rfl (Nat.le_of_ble_eq_true rfl) dX7_node_58 ⟨Nat.le_of_ble_eq_true rfl, Nat.le_of_ble_eq_true rfl⟩ hP hD hS hA (pm_nil _) (fun r58 u58 H locs hp58 hP hD hS => ?_)
    have hP : va_P G.1 vwCl (obw G od (td 0) (nn 0) (dd 0) (pd 0) bo (wd 0) (sd 0) (e0 0) (e1 0) kp ++ (tkw G nn a r)) H := wp_pm (pm_nil _).symm hP
    have hD : va_D A (obw G od (td 0) (nn 0) (dd 0) (pd 0) bo (wd 0) (sd 0) (e0 0) (e1 0) kp ++ (tkw G nn a r)) := wd_pm (pm_nil _).symm hD
    subst hp58
    exact re_i (v := (nI (roN a v))) hx hb hr hlocks hS () hP hD rfl dX7_node_61
  · exact absurd c8 (by decide)

set_option maxHeartbeats 4000000 in
set_option maxRecDepth 100000 in
theorem mX7_node_1 (l : Launch) (G : GG) (od td nn dd pd : Nat → Nat) (bo : Nat) (wd sd e0 e1 : Nat → Nat) (kp : Nat → Int32) (a : Nat → Nat) (r : Nat → Nat → Nat) (v : Nat) (hT : TB a r) (hv : v < a 0) : Mi l yX7_node cX7_node 3 (some .int) (rmN 2 44) G [.ref (od 0), .int (nI v), .int (nI 1)] (obw G od (td 0) (nn 0) (dd 0) (pd 0) bo (wd 0) (sd 0) (e0 0) (e1 0) kp ++ (tkw G nn a r)) (fun (r9 : Int32) (_ : Unit) => r9 = (bI ((noA a r (a 8)).testBit v))) (fun (_ : Unit) => obw G od (td 0) (nn 0) (dd 0) (pd 0) bo (wd 0) (sd 0) (e0 0) (e1 0) kp ++ (tkw G nn a r)) := by
  refine Mi.of (cc := cX7_node) (nL := 3) (by decide) (Nat.le_of_ble_eq_true rfl) ?_
  intro p e s m below meth c A ls F hr hlocks hnm hX hA hD hP hS hl
  have F : CallFix p m c cX7_node 3 s [.ref (od 0), .int (nI v), .int (nI 1)].toArray wA RX7 := F
  obtain ⟨hx, hb, hml, hown, hts⟩ := id F
  have hl : lv_has ls 3 [(0, .ref (od 0)), (1, .int (nI v)), (2, .int (nI 1))] := hl
  obtain ⟨t0, t1, t2, t3, t4, t5, t6, t7, t8, t9, t10, t11, t12⟩ := id hT
  refine lv_aload_n hx hb dX7_node_0 rfl (lv_at hl 0 rfl) ?_
  refine va_get (D := G.1) (ci := 6) (v := .ref (nn 0)) (C := RX7) (T := TX7) (N := 9) hx hb hts inA7 hown hX.1 hP 0 rfl rfl 1 (by decide) (hts _ kw_195) (fun _ h9 => h9) rfl dX7_node_1 ?_
  refine lv_iload_n hx hb dX7_node_4 rfl (lv_at hl 1 rfl) ?_
  refine ca_Vi (ci := 3) (q := (RX4, TX4, 12)) (rest := []) (wr := obw G od (td 0) (nn 0) (dd 0) (pd 0) bo (wd 0) (sd 0) (e0 0) (e1 0) kp) F hX (mX4_hasNode l G nn a r v hT (by omega)) (cA_V hts kw_389 kw_3 kw_386 kw_387 kw_388 hdX4_hasNode ⟨Nat.le_of_ble_eq_true rfl, Nat.le_of_ble_eq_true rfl⟩) rfl rfl rfl hl.1 rfl (Nat.le_of_ble_eq_true rfl) dX7_node_5 ⟨Nat.le_of_ble_eq_true rfl, Nat.le_of_ble_eq_true rfl⟩ hP hD hS hA (List.perm_append_comm) (fun r5 u5 H locs hp5 hP hD hS => ?_)
  have hP : va_P G.1 vwCl (obw G od (td 0) (nn 0) (dd 0) (pd 0) bo (wd 0) (sd 0) (e0 0) (e1 0) kp ++ (tkw G nn a r)) H := wp_pm (List.perm_append_comm).symm hP
  have hD : va_D A (obw G od (td 0) (nn 0) (dd 0) (pd 0) bo (wd 0) (sd 0) (e0 0) (e1 0) kp ++ (tkw G nn a r)) := wd_pm (List.perm_append_comm).symm hD
  subst hp5
  refine bv_ne (b := true) (tgt := 13) hx hb dX7_node_8 (by decide) (fun c8 => ?_) (fun c8 => ?_)
  · refine lv_iload_n hx hb dX7_node_13 rfl (lv_at hl 2 rfl) ?_
    refine lv_tableIn (off := 48) (tgt := 62) hx hb dX7_node_14 (by decide) (by decide) (by decide +kernel) (by decide) ?_
    refine lv_aload_n hx hb dX7_node_62 rfl (lv_at hl 0 rfl) ?_
    refine va_get (D := G.1) (ci := 6) (v := .ref (nn 0)) (C := RX7) (T := TX7) (N := 9) hx hb hts inA7 hown hX.1 hP 0 rfl rfl 1 (by decide) (hts _ kw_195) (fun _ h9 => h9) rfl dX7_node_63 ?_
    refine lv_aload_n hx hb dX7_node_66 rfl (lv_at hl 0 rfl) ?_
    refine va_get (D := G.1) (ci := 6) (v := .ref (nn 0)) (C := RX7) (T := TX7) (N := 9) hx hb hts inA7 hown hX.1 hP 0 rfl rfl 1 (by decide) (hts _ kw_195) (fun _ h9 => h9) rfl dX7_node_67 ?_
    refine va_get (D := G.1) (ci := 3) (v := .int (nI (a 8))) (C := RX4) (T := TX4) (N := 12) hx hb hts inA4 hown hX.1 hP 3 rfl rfl 8 (by decide) (hts _ kw_99) (fun _ h9 => h9) rfl dX7_node_70 ?_
    refine ca_Vi (ci := 3) (q := (RX4, TX4, 12)) (rest := []) (wr := obw G od (td 0) (nn 0) (dd 0) (pd 0) bo (wd 0) (sd 0) (e0 0) (e1 0) kp) F hX (mX4_nodesOf l G nn a r (a 8) hT (by omega)) (cA_V hts kw_413 kw_3 kw_574 kw_411 kw_412 hdX4_nodesOf ⟨Nat.le_of_ble_eq_true rfl, Nat.le_of_ble_eq_true rfl⟩) rfl rfl rfl hl.1 rfl (Nat.le_of_ble_eq_true rfl) dX7_node_73 ⟨Nat.le_of_ble_eq_true rfl, Nat.le_of_ble_eq_true rfl⟩ hP hD hS hA (List.perm_append_comm) (fun r73 u73 H locs hp73 hP hD hS => ?_)
    have hP : va_P G.1 vwCl (obw G od (td 0) (nn 0) (dd 0) (pd 0) bo (wd 0) (sd 0) (e0 0) (e1 0) kp ++ (tkw G nn a r)) H := wp_pm (List.perm_append_comm).symm hP
    have hD : va_D A (obw G od (td 0) (nn 0) (dd 0) (pd 0) bo (wd 0) (sd 0) (e0 0) (e1 0) kp ++ (tkw G nn a r)) := wd_pm (List.perm_append_comm).symm hD
    subst hp73
    refine lv_iload_n hx hb dX7_node_76 rfl (lv_at hl 1 rfl) ?_
    refine ca_Si (rest := []) (wr := obw G od (td 0) (nn 0) (dd 0) (pd 0) bo (wd 0) (sd 0) (e0 0) (e1 0) kp ++ (tkw G nn a r)) F hX (mX7_has l G (nof (r 0) (r 1) (a 1) (a 8) (a 3)) v (by have := nof_lt t5 t6 (src := a 1) (by omega) (a 8) (a 3); omega) (by omega)) (cA_S hts kw_357 kw_1 kw_521 kw_356 hdX7_has ⟨Nat.le_of_ble_eq_true rfl, Nat.le_of_ble_eq_true rfl⟩) rfl hl.1 rfl (Nat.le_of_ble_eq_true rfl) dX7_node_77 ⟨Nat.le_of_ble_eq_true rfl, Nat.le_of_ble_eq_true rfl⟩ hP hD hS hA (List.Perm.refl _) (fun r77 u77 H locs hp77 hP hD hS => ?_)
    have hP : va_P G.1 vwCl (obw G od (td 0) (nn 0) (dd 0) (pd 0) bo (wd 0) (sd 0) (e0 0) (e1 0) kp ++ (tkw G nn a r)) H := hP
    have hD : va_D A (obw G od (td 0) (nn 0) (dd 0) (pd 0) bo (wd 0) (sd 0) (e0 0) (e1 0) kp ++ (tkw G nn a r)) := hD
    subst hp77
    refine ti (y := (bI ((noA a r (a 8)).testBit v))) rfl ?_
    refine bv_eq (b := (noA a r (a 8)).testBit v) (tgt := 87) hx hb dX7_node_80 (by decide) (fun c80 => ?_) (fun c80 => ?_)
    · refine lv_iconst (v := (nI 0)) hx hb dX7_node_87 (by decide) ?_
      exact re_i (v := (nI 0)) hx hb hr hlocks hS () hP hD (by rw [c80]; rfl) dX7_node_88
    · refine lv_iconst (v := (nI 1)) hx hb dX7_node_83 (by decide) ?_
      refine lv_goto (tgt := 88) hx hb dX7_node_84 (by decide) ?_
      exact re_i (v := (nI 1)) hx hb hr hlocks hS () hP hD (by rw [c80]; rfl) dX7_node_88
  · exact absurd c8 (by decide)

set_option maxHeartbeats 4000000 in
set_option maxRecDepth 100000 in
theorem mX7_node_5 (l : Launch) (G : GG) (od td nn dd pd : Nat → Nat) (bo : Nat) (wd sd e0 e1 : Nat → Nat) (kp : Nat → Int32) (a : Nat → Nat) (r : Nat → Nat → Nat) (v : Nat) (hT : TB a r) (hv : v < a 0) : Mi l yX7_node cX7_node 3 (some .int) (rmN 1 22) G [.ref (od 0), .int (nI v), .int (nI 5)] (obw G od (td 0) (nn 0) (dd 0) (pd 0) bo (wd 0) (sd 0) (e0 0) (e1 0) kp ++ (tkw G nn a r)) (fun (r9 : Int32) (_ : Unit) => r9 = (oN (mkF (r 3) v (a 10)))) (fun (_ : Unit) => obw G od (td 0) (nn 0) (dd 0) (pd 0) bo (wd 0) (sd 0) (e0 0) (e1 0) kp ++ (tkw G nn a r)) := by
  refine Mi.of (cc := cX7_node) (nL := 3) (by decide) (Nat.le_of_ble_eq_true rfl) ?_
  intro p e s m below meth c A ls F hr hlocks hnm hX hA hD hP hS hl
  have F : CallFix p m c cX7_node 3 s [.ref (od 0), .int (nI v), .int (nI 5)].toArray wA RX7 := F
  obtain ⟨hx, hb, hml, hown, hts⟩ := id F
  have hl : lv_has ls 3 [(0, .ref (od 0)), (1, .int (nI v)), (2, .int (nI 5))] := hl
  obtain ⟨t0, t1, t2, t3, t4, t5, t6, t7, t8, t9, t10, t11, t12⟩ := id hT
  refine lv_aload_n hx hb dX7_node_0 rfl (lv_at hl 0 rfl) ?_
  refine va_get (D := G.1) (ci := 6) (v := .ref (nn 0)) (C := RX7) (T := TX7) (N := 9) hx hb hts inA7 hown hX.1 hP 0 rfl rfl 1 (by decide) (hts _ kw_195) (fun _ h9 => h9) rfl dX7_node_1 ?_
  refine lv_iload_n hx hb dX7_node_4 rfl (lv_at hl 1 rfl) ?_
  refine ca_Vi (ci := 3) (q := (RX4, TX4, 12)) (rest := []) (wr := obw G od (td 0) (nn 0) (dd 0) (pd 0) bo (wd 0) (sd 0) (e0 0) (e1 0) kp) F hX (mX4_hasNode l G nn a r v hT (by omega)) (cA_V hts kw_389 kw_3 kw_386 kw_387 kw_388 hdX4_hasNode ⟨Nat.le_of_ble_eq_true rfl, Nat.le_of_ble_eq_true rfl⟩) rfl rfl rfl hl.1 rfl (Nat.le_of_ble_eq_true rfl) dX7_node_5 ⟨Nat.le_of_ble_eq_true rfl, Nat.le_of_ble_eq_true rfl⟩ hP hD hS hA (List.perm_append_comm) (fun r5 u5 H locs hp5 hP hD hS => ?_)
  have hP : va_P G.1 vwCl (obw G od (td 0) (nn 0) (dd 0) (pd 0) bo (wd 0) (sd 0) (e0 0) (e1 0) kp ++ (tkw G nn a r)) H := wp_pm (List.perm_append_comm).symm hP
  have hD : va_D A (obw G od (td 0) (nn 0) (dd 0) (pd 0) bo (wd 0) (sd 0) (e0 0) (e1 0) kp ++ (tkw G nn a r)) := wd_pm (List.perm_append_comm).symm hD
  subst hp5
  refine bv_ne (b := true) (tgt := 13) hx hb dX7_node_8 (by decide) (fun c8 => ?_) (fun c8 => ?_)
  · refine lv_iload_n hx hb dX7_node_13 rfl (lv_at hl 2 rfl) ?_
    refine lv_tableIn (off := 135) (tgt := 149) hx hb dX7_node_14 (by decide) (by decide) (by decide +kernel) (by decide) ?_
    refine lv_aload_n hx hb dX7_node_149 rfl (lv_at hl 0 rfl) ?_
    refine va_get (D := G.1) (ci := 6) (v := .ref (nn 0)) (C := RX7) (T := TX7) (N := 9) hx hb hts inA7 hown hX.1 hP 0 rfl rfl 1 (by decide) (hts _ kw_195) (fun _ h9 => h9) rfl dX7_node_150 ?_
    refine lv_iload_n hx hb dX7_node_153 rfl (lv_at hl 1 rfl) ?_
    refine ca_Vi (ci := 3) (q := (RX4, TX4, 12)) (rest := []) (wr := obw G od (td 0) (nn 0) (dd 0) (pd 0) bo (wd 0) (sd 0) (e0 0) (e1 0) kp) F hX (mX4_markOf l G nn a r v hT (by omega)) (cA_V hts kw_463 kw_3 kw_585 kw_461 kw_462 hdX4_markOf ⟨Nat.le_of_ble_eq_true rfl, Nat.le_of_ble_eq_true rfl⟩) rfl rfl rfl hl.1 rfl (Nat.le_of_ble_eq_true rfl) dX7_node_154 ⟨Nat.le_of_ble_eq_true rfl, Nat.le_of_ble_eq_true rfl⟩ hP hD hS hA (List.perm_append_comm) (fun r154 u154 H locs hp154 hP hD hS => ?_)
    have hP : va_P G.1 vwCl (obw G od (td 0) (nn 0) (dd 0) (pd 0) bo (wd 0) (sd 0) (e0 0) (e1 0) kp ++ (tkw G nn a r)) H := wp_pm (List.perm_append_comm).symm hP
    have hD : va_D A (obw G od (td 0) (nn 0) (dd 0) (pd 0) bo (wd 0) (sd 0) (e0 0) (e1 0) kp ++ (tkw G nn a r)) := wd_pm (List.perm_append_comm).symm hD
    subst hp154
    exact re_i (v := (oN (mkF (r 3) v (a 10)))) hx hb hr hlocks hS () hP hD rfl dX7_node_157
  · exact absurd c8 (by decide)

set_option maxHeartbeats 4000000 in
set_option maxRecDepth 100000 in
theorem mX7_node_6 (l : Launch) (G : GG) (od td nn dd pd : Nat → Nat) (bo : Nat) (wd sd e0 e1 : Nat → Nat) (kp : Nat → Int32) (a : Nat → Nat) (r : Nat → Nat → Nat) (v : Nat) (hT : TB a r) (hv : v < a 0) : Mi l yX7_node cX7_node 3 (some .int) (rmN 2 44) G [.ref (od 0), .int (nI v), .int (nI 6)] (obw G od (td 0) (nn 0) (dd 0) (pd 0) bo (wd 0) (sd 0) (e0 0) (e1 0) kp ++ (tkw G nn a r)) (fun (r9 : Int32) (_ : Unit) => r9 = (nI (bts (lkA (r 0) (r 1) v (a 3) &&& a 8) 12))) (fun (_ : Unit) => obw G od (td 0) (nn 0) (dd 0) (pd 0) bo (wd 0) (sd 0) (e0 0) (e1 0) kp ++ (tkw G nn a r)) := by
  refine Mi.of (cc := cX7_node) (nL := 3) (by decide) (Nat.le_of_ble_eq_true rfl) ?_
  intro p e s m below meth c A ls F hr hlocks hnm hX hA hD hP hS hl
  have F : CallFix p m c cX7_node 3 s [.ref (od 0), .int (nI v), .int (nI 6)].toArray wA RX7 := F
  obtain ⟨hx, hb, hml, hown, hts⟩ := id F
  have hl : lv_has ls 3 [(0, .ref (od 0)), (1, .int (nI v)), (2, .int (nI 6))] := hl
  obtain ⟨t0, t1, t2, t3, t4, t5, t6, t7, t8, t9, t10, t11, t12⟩ := id hT
  refine lv_aload_n hx hb dX7_node_0 rfl (lv_at hl 0 rfl) ?_
  refine va_get (D := G.1) (ci := 6) (v := .ref (nn 0)) (C := RX7) (T := TX7) (N := 9) hx hb hts inA7 hown hX.1 hP 0 rfl rfl 1 (by decide) (hts _ kw_195) (fun _ h9 => h9) rfl dX7_node_1 ?_
  refine lv_iload_n hx hb dX7_node_4 rfl (lv_at hl 1 rfl) ?_
  refine ca_Vi (ci := 3) (q := (RX4, TX4, 12)) (rest := []) (wr := obw G od (td 0) (nn 0) (dd 0) (pd 0) bo (wd 0) (sd 0) (e0 0) (e1 0) kp) F hX (mX4_hasNode l G nn a r v hT (by omega)) (cA_V hts kw_389 kw_3 kw_386 kw_387 kw_388 hdX4_hasNode ⟨Nat.le_of_ble_eq_true rfl, Nat.le_of_ble_eq_true rfl⟩) rfl rfl rfl hl.1 rfl (Nat.le_of_ble_eq_true rfl) dX7_node_5 ⟨Nat.le_of_ble_eq_true rfl, Nat.le_of_ble_eq_true rfl⟩ hP hD hS hA (List.perm_append_comm) (fun r5 u5 H locs hp5 hP hD hS => ?_)
  have hP : va_P G.1 vwCl (obw G od (td 0) (nn 0) (dd 0) (pd 0) bo (wd 0) (sd 0) (e0 0) (e1 0) kp ++ (tkw G nn a r)) H := wp_pm (List.perm_append_comm).symm hP
  have hD : va_D A (obw G od (td 0) (nn 0) (dd 0) (pd 0) bo (wd 0) (sd 0) (e0 0) (e1 0) kp ++ (tkw G nn a r)) := wd_pm (List.perm_append_comm).symm hD
  subst hp5
  refine bv_ne (b := true) (tgt := 13) hx hb dX7_node_8 (by decide) (fun c8 => ?_) (fun c8 => ?_)
  · refine lv_iload_n hx hb dX7_node_13 rfl (lv_at hl 2 rfl) ?_
    refine lv_tableIn (off := 144) (tgt := 158) hx hb dX7_node_14 (by decide) (by decide) (by decide +kernel) (by decide) ?_
    refine lv_aload_n hx hb dX7_node_158 rfl (lv_at hl 0 rfl) ?_
    refine va_get (D := G.1) (ci := 6) (v := .ref (nn 0)) (C := RX7) (T := TX7) (N := 9) hx hb hts inA7 hown hX.1 hP 0 rfl rfl 1 (by decide) (hts _ kw_195) (fun _ h9 => h9) rfl dX7_node_159 ?_
    refine lv_iload_n hx hb dX7_node_162 rfl (lv_at hl 1 rfl) ?_
    refine ca_Vi (ci := 3) (q := (RX4, TX4, 12)) (rest := []) (wr := obw G od (td 0) (nn 0) (dd 0) (pd 0) bo (wd 0) (sd 0) (e0 0) (e1 0) kp) F hX (mX4_linksAt l G nn a r v hT (by omega)) (cA_V hts kw_350 kw_3 kw_586 kw_348 kw_349 hdX4_linksAt ⟨Nat.le_of_ble_eq_true rfl, Nat.le_of_ble_eq_true rfl⟩) rfl rfl rfl hl.1 rfl (Nat.le_of_ble_eq_true rfl) dX7_node_163 ⟨Nat.le_of_ble_eq_true rfl, Nat.le_of_ble_eq_true rfl⟩ hP hD hS hA (List.perm_append_comm) (fun r163 u163 H locs hp163 hP hD hS => ?_)
    have hP : va_P G.1 vwCl (obw G od (td 0) (nn 0) (dd 0) (pd 0) bo (wd 0) (sd 0) (e0 0) (e1 0) kp ++ (tkw G nn a r)) H := wp_pm (List.perm_append_comm).symm hP
    have hD : va_D A (obw G od (td 0) (nn 0) (dd 0) (pd 0) bo (wd 0) (sd 0) (e0 0) (e1 0) kp ++ (tkw G nn a r)) := wd_pm (List.perm_append_comm).symm hD
    subst hp163
    refine lv_aload_n hx hb dX7_node_166 rfl (lv_at hl 0 rfl) ?_
    refine va_get (D := G.1) (ci := 6) (v := .ref (nn 0)) (C := RX7) (T := TX7) (N := 9) hx hb hts inA7 hown hX.1 hP 0 rfl rfl 1 (by decide) (hts _ kw_195) (fun _ h9 => h9) rfl dX7_node_167 ?_
    refine va_get (D := G.1) (ci := 3) (v := .int (nI (a 8))) (C := RX4) (T := TX4) (N := 12) hx hb hts inA4 hown hX.1 hP 3 rfl rfl 8 (by decide) (hts _ kw_99) (fun _ h9 => h9) rfl dX7_node_170 ?_
    refine lv_iand hx hb dX7_node_173 (ti (y := (nI ((lkA (r 0) (r 1) v (a 3)) &&& (a 8)))) (qn_and _ _) ?_)
    refine ca_Si (rest := []) (wr := obw G od (td 0) (nn 0) (dd 0) (pd 0) bo (wd 0) (sd 0) (e0 0) (e1 0) kp ++ (tkw G nn a r)) F hX (mJ6_bitCount_0f7a4 l G ((lkA (r 0) (r 1) v (a 3)) &&& (a 8)) (Nat.lt_of_le_of_lt Nat.and_le_right t9)) (cA_S hts kw_503 kw_16 kw_544 kw_502 hdJ6_bitCount_0f7a4 ⟨Nat.le_of_ble_eq_true rfl, Nat.le_of_ble_eq_true rfl⟩) rfl hl.1 rfl (Nat.le_of_ble_eq_true rfl) dX7_node_174 ⟨Nat.le_of_ble_eq_true rfl, Nat.le_of_ble_eq_true rfl⟩ hP hD hS hA (List.Perm.refl _) (fun r174 u174 H locs hp174 hP hD hS => ?_)
    have hP : va_P G.1 vwCl (obw G od (td 0) (nn 0) (dd 0) (pd 0) bo (wd 0) (sd 0) (e0 0) (e1 0) kp ++ (tkw G nn a r)) H := hP
    have hD : va_D A (obw G od (td 0) (nn 0) (dd 0) (pd 0) bo (wd 0) (sd 0) (e0 0) (e1 0) kp ++ (tkw G nn a r)) := hD
    subst hp174
    exact re_i (v := (nI (bts ((lkA (r 0) (r 1) v (a 3)) &&& (a 8)) 12))) hx hb hr hlocks hS () hP hD rfl dX7_node_177
  · exact absurd c8 (by decide)

set_option maxHeartbeats 4000000 in
set_option maxRecDepth 100000 in
theorem mX7_node_2 (l : Launch) (G : GG) (od td nn dd pd : Nat → Nat) (bo : Nat) (wd sd e0 e1 : Nat → Nat) (kp : Nat → Int32) (a : Nat → Nat) (r : Nat → Nat → Nat) (w : Nat → Nat) (us : Nat) (v : Nat) (hT : TB a r) (hv : v < a 0) : Mi l yX7_node cX7_node 3 (some .int) (rmN 4 90) G [.ref (od 0), .int (nI v), .int (nI 2)] (obw G od (td 0) (nn 0) (dd 0) (pd 0) bo (wd 0) (sd 0) (e0 0) (e1 0) kp ++ (tkw G nn a r ++ (wyw G wd w us))) (fun (r9 : Int32) (_ : (Nat → Nat) × Nat) => r9 = oN (farO a r v)) (fun (u : (Nat → Nat) × Nat) => obw G od (td 0) (nn 0) (dd 0) (pd 0) bo (wd 0) (sd 0) (e0 0) (e1 0) kp ++ (tkw G nn a r ++ (wyw G wd u.1 u.2))) := by
  refine Mi.of (cc := cX7_node) (nL := 3) (by decide) (Nat.le_of_ble_eq_true rfl) ?_
  intro p e s m below meth c A ls F hr hlocks hnm hX hA hD hP hS hl
  have F : CallFix p m c cX7_node 3 s [.ref (od 0), .int (nI v), .int (nI 2)].toArray wA RX7 := F
  obtain ⟨hx, hb, hml, hown, hts⟩ := id F
  have hl : lv_has ls 3 [(0, .ref (od 0)), (1, .int (nI v)), (2, .int (nI 2))] := hl
  obtain ⟨t0, t1, t2, t3, t4, t5, t6, t7, t8, t9, t10, t11, t12⟩ := id hT
  refine lv_aload_n hx hb dX7_node_0 rfl (lv_at hl 0 rfl) ?_
  refine va_get (D := G.1) (ci := 6) (v := .ref (nn 0)) (C := RX7) (T := TX7) (N := 9) hx hb hts inA7 hown hX.1 hP 0 rfl rfl 1 (by decide) (hts _ kw_195) (fun _ h9 => h9) rfl dX7_node_1 ?_
  refine lv_iload_n hx hb dX7_node_4 rfl (lv_at hl 1 rfl) ?_
  refine ca_Vi (ci := 3) (q := (RX4, TX4, 12)) (rest := []) (wr := obw G od (td 0) (nn 0) (dd 0) (pd 0) bo (wd 0) (sd 0) (e0 0) (e1 0) kp ++ (wyw G wd w us)) F hX (mX4_hasNode l G nn a r v hT (by omega)) (cA_V hts kw_389 kw_3 kw_386 kw_387 kw_388 hdX4_hasNode ⟨Nat.le_of_ble_eq_true rfl, Nat.le_of_ble_eq_true rfl⟩) rfl rfl rfl hl.1 rfl (Nat.le_of_ble_eq_true rfl) dX7_node_5 ⟨Nat.le_of_ble_eq_true rfl, Nat.le_of_ble_eq_true rfl⟩ hP hD hS hA (pm_sw _ _ _) (fun r5 u5 H locs hp5 hP hD hS => ?_)
  have hP : va_P G.1 vwCl (obw G od (td 0) (nn 0) (dd 0) (pd 0) bo (wd 0) (sd 0) (e0 0) (e1 0) kp ++ (tkw G nn a r ++ (wyw G wd w us))) H := wp_pm (pm_sw _ _ _).symm hP
  have hD : va_D A (obw G od (td 0) (nn 0) (dd 0) (pd 0) bo (wd 0) (sd 0) (e0 0) (e1 0) kp ++ (tkw G nn a r ++ (wyw G wd w us))) := wd_pm (pm_sw _ _ _).symm hD
  subst hp5
  refine bv_ne (b := true) (tgt := 13) hx hb dX7_node_8 (by decide) (fun c8 => ?_) (fun c8 => ?_)
  · refine lv_iload_n hx hb dX7_node_13 rfl (lv_at hl 2 rfl) ?_
    refine lv_tableIn (off := 75) (tgt := 89) hx hb dX7_node_14 (by decide) (by decide) (by decide +kernel) (by decide) ?_
    refine lv_aload_n hx hb dX7_node_89 rfl (lv_at hl 0 rfl) ?_
    refine lv_iload_n hx hb dX7_node_90 rfl (lv_at hl 1 rfl) ?_
    refine ca_Vi (ci := 6) (q := (RX7, TX7, 9)) (rest := []) (wr := ([] : va_W)) F hX (mX7_far l G od td nn dd pd bo wd sd e0 e1 kp a r w us v hT (by omega)) (cA_V hts kw_578 kw_1 kw_575 kw_577 kp_17 hdX7_far ⟨Nat.le_of_ble_eq_true rfl, Nat.le_of_ble_eq_true rfl⟩) rfl rfl rfl hl.1 rfl (Nat.le_of_ble_eq_true rfl) dX7_node_91 ⟨Nat.le_of_ble_eq_true rfl, Nat.le_of_ble_eq_true rfl⟩ hP hD hS hA (pm_nil _) (fun r91 u91 H locs hp91 hP hD hS => ?_)
    have hP : va_P G.1 vwCl (obw G od (td 0) (nn 0) (dd 0) (pd 0) bo (wd 0) (sd 0) (e0 0) (e1 0) kp ++ (tkw G nn a r ++ (wyw G wd u91.1 u91.2))) H := wp_pm (pm_nil _).symm hP
    have hD : va_D A (obw G od (td 0) (nn 0) (dd 0) (pd 0) bo (wd 0) (sd 0) (e0 0) (e1 0) kp ++ (tkw G nn a r ++ (wyw G wd u91.1 u91.2))) := wd_pm (pm_nil _).symm hD
    subst hp91
    exact re_i (v := (oN (farO a r v))) hx hb hr hlocks hS (u91.1, u91.2) hP hD rfl dX7_node_94
  · exact absurd c8 (by decide)

set_option maxHeartbeats 4000000 in
set_option maxRecDepth 100000 in
theorem mX7_node_3 (l : Launch) (G : GG) (od td nn dd pd : Nat → Nat) (bo : Nat) (wd sd e0 e1 : Nat → Nat) (kp : Nat → Int32) (a : Nat → Nat) (r : Nat → Nat → Nat) (w : Nat → Nat) (us : Nat) (v : Nat) (hT : TB a r) (hv : v < a 0) : Mi l yX7_node cX7_node 3 (some .int) (rmN 4 91) G [.ref (od 0), .int (nI v), .int (nI 3)] (obw G od (td 0) (nn 0) (dd 0) (pd 0) bo (wd 0) (sd 0) (e0 0) (e1 0) kp ++ (tkw G nn a r ++ (wyw G wd w us))) (fun (r9 : Int32) (_ : (Nat → Nat) × Nat) => r9 = oN (cfr (wtA a r (a 8)) v)) (fun (u : (Nat → Nat) × Nat) => obw G od (td 0) (nn 0) (dd 0) (pd 0) bo (wd 0) (sd 0) (e0 0) (e1 0) kp ++ (tkw G nn a r ++ (wyw G wd u.1 u.2))) := by
  refine Mi.of (cc := cX7_node) (nL := 3) (by decide) (Nat.le_of_ble_eq_true rfl) ?_
  intro p e s m below meth c A ls F hr hlocks hnm hX hA hD hP hS hl
  have F : CallFix p m c cX7_node 3 s [.ref (od 0), .int (nI v), .int (nI 3)].toArray wA RX7 := F
  obtain ⟨hx, hb, hml, hown, hts⟩ := id F
  have hl : lv_has ls 3 [(0, .ref (od 0)), (1, .int (nI v)), (2, .int (nI 3))] := hl
  obtain ⟨t0, t1, t2, t3, t4, t5, t6, t7, t8, t9, t10, t11, t12⟩ := id hT
  refine lv_aload_n hx hb dX7_node_0 rfl (lv_at hl 0 rfl) ?_
  refine va_get (D := G.1) (ci := 6) (v := .ref (nn 0)) (C := RX7) (T := TX7) (N := 9) hx hb hts inA7 hown hX.1 hP 0 rfl rfl 1 (by decide) (hts _ kw_195) (fun _ h9 => h9) rfl dX7_node_1 ?_
  refine lv_iload_n hx hb dX7_node_4 rfl (lv_at hl 1 rfl) ?_
  refine ca_Vi (ci := 3) (q := (RX4, TX4, 12)) (rest := []) (wr := obw G od (td 0) (nn 0) (dd 0) (pd 0) bo (wd 0) (sd 0) (e0 0) (e1 0) kp ++ (wyw G wd w us)) F hX (mX4_hasNode l G nn a r v hT (by omega)) (cA_V hts kw_389 kw_3 kw_386 kw_387 kw_388 hdX4_hasNode ⟨Nat.le_of_ble_eq_true rfl, Nat.le_of_ble_eq_true rfl⟩) rfl rfl rfl hl.1 rfl (Nat.le_of_ble_eq_true rfl) dX7_node_5 ⟨Nat.le_of_ble_eq_true rfl, Nat.le_of_ble_eq_true rfl⟩ hP hD hS hA (pm_sw _ _ _) (fun r5 u5 H locs hp5 hP hD hS => ?_)
  have hP : va_P G.1 vwCl (obw G od (td 0) (nn 0) (dd 0) (pd 0) bo (wd 0) (sd 0) (e0 0) (e1 0) kp ++ (tkw G nn a r ++ (wyw G wd w us))) H := wp_pm (pm_sw _ _ _).symm hP
  have hD : va_D A (obw G od (td 0) (nn 0) (dd 0) (pd 0) bo (wd 0) (sd 0) (e0 0) (e1 0) kp ++ (tkw G nn a r ++ (wyw G wd w us))) := wd_pm (pm_sw _ _ _).symm hD
  subst hp5
  refine bv_ne (b := true) (tgt := 13) hx hb dX7_node_8 (by decide) (fun c8 => ?_) (fun c8 => ?_)
  · refine lv_iload_n hx hb dX7_node_13 rfl (lv_at hl 2 rfl) ?_
    refine lv_tableIn (off := 81) (tgt := 95) hx hb dX7_node_14 (by decide) (by decide) (by decide +kernel) (by decide) ?_
    refine lv_aload_n hx hb dX7_node_95 rfl (lv_at hl 0 rfl) ?_
    refine va_get (D := G.1) (ci := 6) (v := .ref (wd 0)) (C := RX7) (T := TX7) (N := 9) hx hb hts inA7 hown hX.1 hP 0 rfl rfl 5 (by decide) (hts _ kw_199) (fun _ h9 => h9) rfl dX7_node_96 ?_
    refine lv_aload_n hx hb dX7_node_99 rfl (lv_at hl 0 rfl) ?_
    refine va_get (D := G.1) (ci := 6) (v := .ref (nn 0)) (C := RX7) (T := TX7) (N := 9) hx hb hts inA7 hown hX.1 hP 0 rfl rfl 1 (by decide) (hts _ kw_195) (fun _ h9 => h9) rfl dX7_node_100 ?_
    refine lv_aload_n hx hb dX7_node_103 rfl (lv_at hl 0 rfl) ?_
    refine va_get (D := G.1) (ci := 6) (v := .ref (nn 0)) (C := RX7) (T := TX7) (N := 9) hx hb hts inA7 hown hX.1 hP 0 rfl rfl 1 (by decide) (hts _ kw_195) (fun _ h9 => h9) rfl dX7_node_104 ?_
    refine va_get (D := G.1) (ci := 3) (v := .int (nI (a 8))) (C := RX4) (T := TX4) (N := 12) hx hb hts inA4 hown hX.1 hP 3 rfl rfl 8 (by decide) (hts _ kw_99) (fun _ h9 => h9) rfl dX7_node_107 ?_
    refine ca_Vv (ci := 5) (q := (RX6, TX6, 2)) (rest := []) (wr := obw G od (td 0) (nn 0) (dd 0) (pd 0) bo (wd 0) (sd 0) (e0 0) (e1 0) kp) F hX (mX6_find l G wd w us nn a r (a 8) hT (by omega)) (cA_V hts kw_405 kw_6 kw_402 kw_403 kw_404 hdX6_find ⟨Nat.le_of_ble_eq_true rfl, Nat.le_of_ble_eq_true rfl⟩) rfl rfl rfl hl.1 rfl (Nat.le_of_ble_eq_true rfl) dX7_node_110 ⟨Nat.le_of_ble_eq_true rfl, Nat.le_of_ble_eq_true rfl⟩ hP hD hS hA (((pm_sw _ _ _).trans ((List.Perm.append_left _ (List.perm_append_comm)).trans (pm_sw _ _ _))).trans (List.Perm.of_eq (List.append_assoc _ _ _).symm)) (fun u110 H locs hp110 hP hD hS => ?_)
    have hP : va_P G.1 vwCl (obw G od (td 0) (nn 0) (dd 0) (pd 0) bo (wd 0) (sd 0) (e0 0) (e1 0) kp ++ (tkw G nn a r ++ (wyw G wd (wtN (r 0) (r 1) (r 2) (nd (2 ^ (a 3) - 1) (a 9)) (a 3) (a 0) (nof (r 0) (r 1) (a 1) (a 8) (a 3))) (nd (2 ^ (a 3) - 1) (a 9))))) H := wp_pm (((pm_sw _ _ _).trans ((List.Perm.append_left _ (List.perm_append_comm)).trans (pm_sw _ _ _))).trans (List.Perm.of_eq (List.append_assoc _ _ _).symm)).symm hP
    have hD : va_D A (obw G od (td 0) (nn 0) (dd 0) (pd 0) bo (wd 0) (sd 0) (e0 0) (e1 0) kp ++ (tkw G nn a r ++ (wyw G wd (wtN (r 0) (r 1) (r 2) (nd (2 ^ (a 3) - 1) (a 9)) (a 3) (a 0) (nof (r 0) (r 1) (a 1) (a 8) (a 3))) (nd (2 ^ (a 3) - 1) (a 9))))) := wd_pm (((pm_sw _ _ _).trans ((List.Perm.append_left _ (List.perm_append_comm)).trans (pm_sw _ _ _))).trans (List.Perm.of_eq (List.append_assoc _ _ _).symm)).symm hD
    refine lv_aload_n hx hb dX7_node_113 rfl (lv_at hl 0 rfl) ?_
    refine va_get (D := G.1) (ci := 6) (v := .ref (wd 0)) (C := RX7) (T := TX7) (N := 9) hx hb hts inA7 hown hX.1 hP 0 rfl rfl 5 (by decide) (hts _ kw_199) (fun _ h9 => h9) rfl dX7_node_114 ?_
    refine lv_iload_n hx hb dX7_node_117 rfl (lv_at hl 1 rfl) ?_
    refine ca_Vi (ci := 5) (q := (RX6, TX6, 2)) (rest := []) (wr := obw G od (td 0) (nn 0) (dd 0) (pd 0) bo (wd 0) (sd 0) (e0 0) (e1 0) kp ++ (tkw G nn a r)) F hX (mX6_costFrom l G wd (wtN (r 0) (r 1) (r 2) (nd (2 ^ (a 3) - 1) (a 9)) (a 3) (a 0) (nof (r 0) (r 1) (a 1) (a 8) (a 3))) (nd (2 ^ (a 3) - 1) (a 9)) v (wtA_le a r (a 8)) (by omega)) (cA_V hts kw_482 kw_6 kw_580 kw_480 kw_481 hdX6_costFrom ⟨Nat.le_of_ble_eq_true rfl, Nat.le_of_ble_eq_true rfl⟩) rfl rfl rfl hl.1 rfl (Nat.le_of_ble_eq_true rfl) dX7_node_118 ⟨Nat.le_of_ble_eq_true rfl, Nat.le_of_ble_eq_true rfl⟩ hP hD hS hA ((List.Perm.append_left _ (List.perm_append_comm)).trans (pm_sw _ _ _)) (fun r118 u118 H locs hp118 hP hD hS => ?_)
    have hP : va_P G.1 vwCl (obw G od (td 0) (nn 0) (dd 0) (pd 0) bo (wd 0) (sd 0) (e0 0) (e1 0) kp ++ (tkw G nn a r ++ (wyw G wd (wtN (r 0) (r 1) (r 2) (nd (2 ^ (a 3) - 1) (a 9)) (a 3) (a 0) (nof (r 0) (r 1) (a 1) (a 8) (a 3))) (nd (2 ^ (a 3) - 1) (a 9))))) H := wp_pm ((List.Perm.append_left _ (List.perm_append_comm)).trans (pm_sw _ _ _)).symm hP
    have hD : va_D A (obw G od (td 0) (nn 0) (dd 0) (pd 0) bo (wd 0) (sd 0) (e0 0) (e1 0) kp ++ (tkw G nn a r ++ (wyw G wd (wtN (r 0) (r 1) (r 2) (nd (2 ^ (a 3) - 1) (a 9)) (a 3) (a 0) (nof (r 0) (r 1) (a 1) (a 8) (a 3))) (nd (2 ^ (a 3) - 1) (a 9))))) := wd_pm ((List.Perm.append_left _ (List.perm_append_comm)).trans (pm_sw _ _ _)).symm hD
    subst hp118
    exact re_i (v := (oN (cfr (wtN (r 0) (r 1) (r 2) (nd (2 ^ (a 3) - 1) (a 9)) (a 3) (a 0) (nof (r 0) (r 1) (a 1) (a 8) (a 3))) v))) hx hb hr hlocks hS (wtN (r 0) (r 1) (r 2) (nd (2 ^ (a 3) - 1) (a 9)) (a 3) (a 0) (nof (r 0) (r 1) (a 1) (a 8) (a 3)), nd (2 ^ (a 3) - 1) (a 9)) hP hD rfl dX7_node_121
  · exact absurd c8 (by decide)

set_option maxHeartbeats 4000000 in
set_option maxRecDepth 100000 in
theorem mX7_node_4 (l : Launch) (G : GG) (od td nn dd pd : Nat → Nat) (bo : Nat) (wd sd e0 e1 : Nat → Nat) (kp : Nat → Int32) (a : Nat → Nat) (r : Nat → Nat → Nat) (w : Nat → Nat) (us : Nat) (v : Nat) (hT : TB a r) (hv : v < a 0) : Mi l yX7_node cX7_node 3 (some .int) (rmN 4 91) G [.ref (od 0), .int (nI v), .int (nI 4)] (obw G od (td 0) (nn 0) (dd 0) (pd 0) bo (wd 0) (sd 0) (e0 0) (e1 0) kp ++ (tkw G nn a r ++ (wyw G wd w us))) (fun (r9 : Int32) (_ : (Nat → Nat) × Nat) => r9 = oN (sfr (wtA a r (a 8)) v)) (fun (u : (Nat → Nat) × Nat) => obw G od (td 0) (nn 0) (dd 0) (pd 0) bo (wd 0) (sd 0) (e0 0) (e1 0) kp ++ (tkw G nn a r ++ (wyw G wd u.1 u.2))) := by
  refine Mi.of (cc := cX7_node) (nL := 3) (by decide) (Nat.le_of_ble_eq_true rfl) ?_
  intro p e s m below meth c A ls F hr hlocks hnm hX hA hD hP hS hl
  have F : CallFix p m c cX7_node 3 s [.ref (od 0), .int (nI v), .int (nI 4)].toArray wA RX7 := F
  obtain ⟨hx, hb, hml, hown, hts⟩ := id F
  have hl : lv_has ls 3 [(0, .ref (od 0)), (1, .int (nI v)), (2, .int (nI 4))] := hl
  obtain ⟨t0, t1, t2, t3, t4, t5, t6, t7, t8, t9, t10, t11, t12⟩ := id hT
  refine lv_aload_n hx hb dX7_node_0 rfl (lv_at hl 0 rfl) ?_
  refine va_get (D := G.1) (ci := 6) (v := .ref (nn 0)) (C := RX7) (T := TX7) (N := 9) hx hb hts inA7 hown hX.1 hP 0 rfl rfl 1 (by decide) (hts _ kw_195) (fun _ h9 => h9) rfl dX7_node_1 ?_
  refine lv_iload_n hx hb dX7_node_4 rfl (lv_at hl 1 rfl) ?_
  refine ca_Vi (ci := 3) (q := (RX4, TX4, 12)) (rest := []) (wr := obw G od (td 0) (nn 0) (dd 0) (pd 0) bo (wd 0) (sd 0) (e0 0) (e1 0) kp ++ (wyw G wd w us)) F hX (mX4_hasNode l G nn a r v hT (by omega)) (cA_V hts kw_389 kw_3 kw_386 kw_387 kw_388 hdX4_hasNode ⟨Nat.le_of_ble_eq_true rfl, Nat.le_of_ble_eq_true rfl⟩) rfl rfl rfl hl.1 rfl (Nat.le_of_ble_eq_true rfl) dX7_node_5 ⟨Nat.le_of_ble_eq_true rfl, Nat.le_of_ble_eq_true rfl⟩ hP hD hS hA (pm_sw _ _ _) (fun r5 u5 H locs hp5 hP hD hS => ?_)
  have hP : va_P G.1 vwCl (obw G od (td 0) (nn 0) (dd 0) (pd 0) bo (wd 0) (sd 0) (e0 0) (e1 0) kp ++ (tkw G nn a r ++ (wyw G wd w us))) H := wp_pm (pm_sw _ _ _).symm hP
  have hD : va_D A (obw G od (td 0) (nn 0) (dd 0) (pd 0) bo (wd 0) (sd 0) (e0 0) (e1 0) kp ++ (tkw G nn a r ++ (wyw G wd w us))) := wd_pm (pm_sw _ _ _).symm hD
  subst hp5
  refine bv_ne (b := true) (tgt := 13) hx hb dX7_node_8 (by decide) (fun c8 => ?_) (fun c8 => ?_)
  · refine lv_iload_n hx hb dX7_node_13 rfl (lv_at hl 2 rfl) ?_
    refine lv_tableIn (off := 108) (tgt := 122) hx hb dX7_node_14 (by decide) (by decide) (by decide +kernel) (by decide) ?_
    refine lv_aload_n hx hb dX7_node_122 rfl (lv_at hl 0 rfl) ?_
    refine va_get (D := G.1) (ci := 6) (v := .ref (wd 0)) (C := RX7) (T := TX7) (N := 9) hx hb hts inA7 hown hX.1 hP 0 rfl rfl 5 (by decide) (hts _ kw_199) (fun _ h9 => h9) rfl dX7_node_123 ?_
    refine lv_aload_n hx hb dX7_node_126 rfl (lv_at hl 0 rfl) ?_
    refine va_get (D := G.1) (ci := 6) (v := .ref (nn 0)) (C := RX7) (T := TX7) (N := 9) hx hb hts inA7 hown hX.1 hP 0 rfl rfl 1 (by decide) (hts _ kw_195) (fun _ h9 => h9) rfl dX7_node_127 ?_
    refine lv_aload_n hx hb dX7_node_130 rfl (lv_at hl 0 rfl) ?_
    refine va_get (D := G.1) (ci := 6) (v := .ref (nn 0)) (C := RX7) (T := TX7) (N := 9) hx hb hts inA7 hown hX.1 hP 0 rfl rfl 1 (by decide) (hts _ kw_195) (fun _ h9 => h9) rfl dX7_node_131 ?_
    refine va_get (D := G.1) (ci := 3) (v := .int (nI (a 8))) (C := RX4) (T := TX4) (N := 12) hx hb hts inA4 hown hX.1 hP 3 rfl rfl 8 (by decide) (hts _ kw_99) (fun _ h9 => h9) rfl dX7_node_134 ?_
    refine ca_Vv (ci := 5) (q := (RX6, TX6, 2)) (rest := []) (wr := obw G od (td 0) (nn 0) (dd 0) (pd 0) bo (wd 0) (sd 0) (e0 0) (e1 0) kp) F hX (mX6_find l G wd w us nn a r (a 8) hT (by omega)) (cA_V hts kw_405 kw_6 kw_402 kw_403 kw_404 hdX6_find ⟨Nat.le_of_ble_eq_true rfl, Nat.le_of_ble_eq_true rfl⟩) rfl rfl rfl hl.1 rfl (Nat.le_of_ble_eq_true rfl) dX7_node_137 ⟨Nat.le_of_ble_eq_true rfl, Nat.le_of_ble_eq_true rfl⟩ hP hD hS hA (((pm_sw _ _ _).trans ((List.Perm.append_left _ (List.perm_append_comm)).trans (pm_sw _ _ _))).trans (List.Perm.of_eq (List.append_assoc _ _ _).symm)) (fun u137 H locs hp137 hP hD hS => ?_)
    have hP : va_P G.1 vwCl (obw G od (td 0) (nn 0) (dd 0) (pd 0) bo (wd 0) (sd 0) (e0 0) (e1 0) kp ++ (tkw G nn a r ++ (wyw G wd (wtN (r 0) (r 1) (r 2) (nd (2 ^ (a 3) - 1) (a 9)) (a 3) (a 0) (nof (r 0) (r 1) (a 1) (a 8) (a 3))) (nd (2 ^ (a 3) - 1) (a 9))))) H := wp_pm (((pm_sw _ _ _).trans ((List.Perm.append_left _ (List.perm_append_comm)).trans (pm_sw _ _ _))).trans (List.Perm.of_eq (List.append_assoc _ _ _).symm)).symm hP
    have hD : va_D A (obw G od (td 0) (nn 0) (dd 0) (pd 0) bo (wd 0) (sd 0) (e0 0) (e1 0) kp ++ (tkw G nn a r ++ (wyw G wd (wtN (r 0) (r 1) (r 2) (nd (2 ^ (a 3) - 1) (a 9)) (a 3) (a 0) (nof (r 0) (r 1) (a 1) (a 8) (a 3))) (nd (2 ^ (a 3) - 1) (a 9))))) := wd_pm (((pm_sw _ _ _).trans ((List.Perm.append_left _ (List.perm_append_comm)).trans (pm_sw _ _ _))).trans (List.Perm.of_eq (List.append_assoc _ _ _).symm)).symm hD
    refine lv_aload_n hx hb dX7_node_140 rfl (lv_at hl 0 rfl) ?_
    refine va_get (D := G.1) (ci := 6) (v := .ref (wd 0)) (C := RX7) (T := TX7) (N := 9) hx hb hts inA7 hown hX.1 hP 0 rfl rfl 5 (by decide) (hts _ kw_199) (fun _ h9 => h9) rfl dX7_node_141 ?_
    refine lv_iload_n hx hb dX7_node_144 rfl (lv_at hl 1 rfl) ?_
    refine ca_Vi (ci := 5) (q := (RX6, TX6, 2)) (rest := []) (wr := obw G od (td 0) (nn 0) (dd 0) (pd 0) bo (wd 0) (sd 0) (e0 0) (e1 0) kp ++ (tkw G nn a r)) F hX (mX6_stepsFrom l G wd (wtN (r 0) (r 1) (r 2) (nd (2 ^ (a 3) - 1) (a 9)) (a 3) (a 0) (nof (r 0) (r 1) (a 1) (a 8) (a 3))) (nd (2 ^ (a 3) - 1) (a 9)) v (wtA_le a r (a 8)) (by omega)) (cA_V hts kw_584 kw_6 kw_581 kw_582 kw_583 hdX6_stepsFrom ⟨Nat.le_of_ble_eq_true rfl, Nat.le_of_ble_eq_true rfl⟩) rfl rfl rfl hl.1 rfl (Nat.le_of_ble_eq_true rfl) dX7_node_145 ⟨Nat.le_of_ble_eq_true rfl, Nat.le_of_ble_eq_true rfl⟩ hP hD hS hA ((List.Perm.append_left _ (List.perm_append_comm)).trans (pm_sw _ _ _)) (fun r145 u145 H locs hp145 hP hD hS => ?_)
    have hP : va_P G.1 vwCl (obw G od (td 0) (nn 0) (dd 0) (pd 0) bo (wd 0) (sd 0) (e0 0) (e1 0) kp ++ (tkw G nn a r ++ (wyw G wd (wtN (r 0) (r 1) (r 2) (nd (2 ^ (a 3) - 1) (a 9)) (a 3) (a 0) (nof (r 0) (r 1) (a 1) (a 8) (a 3))) (nd (2 ^ (a 3) - 1) (a 9))))) H := wp_pm ((List.Perm.append_left _ (List.perm_append_comm)).trans (pm_sw _ _ _)).symm hP
    have hD : va_D A (obw G od (td 0) (nn 0) (dd 0) (pd 0) bo (wd 0) (sd 0) (e0 0) (e1 0) kp ++ (tkw G nn a r ++ (wyw G wd (wtN (r 0) (r 1) (r 2) (nd (2 ^ (a 3) - 1) (a 9)) (a 3) (a 0) (nof (r 0) (r 1) (a 1) (a 8) (a 3))) (nd (2 ^ (a 3) - 1) (a 9))))) := wd_pm ((List.Perm.append_left _ (List.perm_append_comm)).trans (pm_sw _ _ _)).symm hD
    subst hp145
    exact re_i (v := (oN (sfr (wtN (r 0) (r 1) (r 2) (nd (2 ^ (a 3) - 1) (a 9)) (a 3) (a 0) (nof (r 0) (r 1) (a 1) (a 8) (a 3))) v))) hx hb hr hlocks hS (wtN (r 0) (r 1) (r 2) (nd (2 ^ (a 3) - 1) (a 9)) (a 3) (a 0) (nof (r 0) (r 1) (a 1) (a 8) (a 3)), nd (2 ^ (a 3) - 1) (a 9)) hP hD rfl dX7_node_148
  · exact absurd c8 (by decide)

theorem hdX7_way : hdOK yX7_way 2 := by decide +kernel
set_option maxHeartbeats 4000000 in
set_option maxRecDepth 100000 in
theorem mX7_way_bad (l : Launch) (G : GG) (od td nn dd pd : Nat → Nat) (bo : Nat) (wd sd e0 e1 : Nat → Nat) (kp : Nat → Int32) (a : Nat → Nat) (r : Nat → Nat → Nat) (x y : Int32) (hT : TB a r) (hk : ¬ (0 ≤ x.toInt ∧ x.toInt < a 0)) : Mi l yX7_way cX7_way 3 (some .int) (rmN 1 21) G [.ref (od 0), .int x, .int y] (obw G od (td 0) (nn 0) (dd 0) (pd 0) bo (wd 0) (sd 0) (e0 0) (e1 0) kp ++ (tkw G nn a r)) (fun (r9 : Int32) (_ : Unit) => r9 = (-1)) (fun (_ : Unit) => obw G od (td 0) (nn 0) (dd 0) (pd 0) bo (wd 0) (sd 0) (e0 0) (e1 0) kp ++ (tkw G nn a r)) := by
  refine Mi.of (cc := cX7_way) (nL := 3) (by decide) (Nat.le_of_ble_eq_true rfl) ?_
  intro p e s m below meth c A ls F hr hlocks hnm hX hA hD hP hS hl
  have F : CallFix p m c cX7_way 3 s [.ref (od 0), .int x, .int y].toArray wA RX7 := F
  obtain ⟨hx, hb, hml, hown, hts⟩ := id F
  have hl : lv_has ls 3 [(0, .ref (od 0)), (1, .int x), (2, .int y)] := hl
  refine lv_aload_n hx hb dX7_way_0 rfl (lv_at hl 0 rfl) ?_
  refine va_get (D := G.1) (ci := 6) (v := .ref (nn 0)) (C := RX7) (T := TX7) (N := 9) hx hb hts inA7 hown hX.1 hP 0 rfl rfl 1 (by decide) (hts _ kw_195) (fun _ h9 => h9) rfl dX7_way_1 ?_
  refine lv_iload_n hx hb dX7_way_4 rfl (lv_at hl 1 rfl) ?_
  refine ca_Vi (ci := 3) (q := (RX4, TX4, 12)) (rest := []) (wr := obw G od (td 0) (nn 0) (dd 0) (pd 0) bo (wd 0) (sd 0) (e0 0) (e1 0) kp) F hX (mX4_hasNode_no l G nn a r x hT hk) (cA_V hts kw_389 kw_3 kw_386 kw_387 kw_388 hdX4_hasNode ⟨Nat.le_of_ble_eq_true rfl, Nat.le_of_ble_eq_true rfl⟩) rfl rfl rfl hl.1 rfl (Nat.le_of_ble_eq_true rfl) dX7_way_5 ⟨Nat.le_of_ble_eq_true rfl, Nat.le_of_ble_eq_true rfl⟩ hP hD hS hA (List.perm_append_comm) (fun r5 u5 H locs hp5 hP hD hS => ?_)
  have hP : va_P G.1 vwCl (obw G od (td 0) (nn 0) (dd 0) (pd 0) bo (wd 0) (sd 0) (e0 0) (e1 0) kp ++ (tkw G nn a r)) H := wp_pm (List.perm_append_comm).symm hP
  have hD : va_D A (obw G od (td 0) (nn 0) (dd 0) (pd 0) bo (wd 0) (sd 0) (e0 0) (e1 0) kp ++ (tkw G nn a r)) := wd_pm (List.perm_append_comm).symm hD
  subst hp5
  refine bv_eq (b := false) (tgt := 15) hx hb dX7_way_8 (by decide) (fun c8 => ?_) (fun c8 => ?_)
  · refine lv_iconst (v := (-1)) hx hb dX7_way_15 (by decide) ?_
    exact re_i (v := (-1)) hx hb hr hlocks hS () hP hD rfl dX7_way_16
  · exact absurd c8 (by decide)

set_option maxHeartbeats 4000000 in
set_option maxRecDepth 100000 in
theorem mX7_way_badi (l : Launch) (G : GG) (od td nn dd pd : Nat → Nat) (bo : Nat) (wd sd e0 e1 : Nat → Nat) (kp : Nat → Int32) (a : Nat → Nat) (r : Nat → Nat → Nat) (v : Nat) (y : Int32) (hT : TB a r) (hv : v < a 0) (hy : y < 0) : Mi l yX7_way cX7_way 3 (some .int) (rmN 1 21) G [.ref (od 0), .int (nI v), .int y] (obw G od (td 0) (nn 0) (dd 0) (pd 0) bo (wd 0) (sd 0) (e0 0) (e1 0) kp ++ (tkw G nn a r)) (fun (r9 : Int32) (_ : Unit) => r9 = (-1)) (fun (_ : Unit) => obw G od (td 0) (nn 0) (dd 0) (pd 0) bo (wd 0) (sd 0) (e0 0) (e1 0) kp ++ (tkw G nn a r)) := by
  refine Mi.of (cc := cX7_way) (nL := 3) (by decide) (Nat.le_of_ble_eq_true rfl) ?_
  intro p e s m below meth c A ls F hr hlocks hnm hX hA hD hP hS hl
  have F : CallFix p m c cX7_way 3 s [.ref (od 0), .int (nI v), .int y].toArray wA RX7 := F
  obtain ⟨hx, hb, hml, hown, hts⟩ := id F
  have hl : lv_has ls 3 [(0, .ref (od 0)), (1, .int (nI v)), (2, .int y)] := hl
  obtain ⟨t0, t1, t2, t3, t4, t5, t6, t7, t8, t9, t10, t11, t12⟩ := id hT
  refine lv_aload_n hx hb dX7_way_0 rfl (lv_at hl 0 rfl) ?_
  refine va_get (D := G.1) (ci := 6) (v := .ref (nn 0)) (C := RX7) (T := TX7) (N := 9) hx hb hts inA7 hown hX.1 hP 0 rfl rfl 1 (by decide) (hts _ kw_195) (fun _ h9 => h9) rfl dX7_way_1 ?_
  refine lv_iload_n hx hb dX7_way_4 rfl (lv_at hl 1 rfl) ?_
  refine ca_Vi (ci := 3) (q := (RX4, TX4, 12)) (rest := []) (wr := obw G od (td 0) (nn 0) (dd 0) (pd 0) bo (wd 0) (sd 0) (e0 0) (e1 0) kp) F hX (mX4_hasNode l G nn a r v hT (by omega)) (cA_V hts kw_389 kw_3 kw_386 kw_387 kw_388 hdX4_hasNode ⟨Nat.le_of_ble_eq_true rfl, Nat.le_of_ble_eq_true rfl⟩) rfl rfl rfl hl.1 rfl (Nat.le_of_ble_eq_true rfl) dX7_way_5 ⟨Nat.le_of_ble_eq_true rfl, Nat.le_of_ble_eq_true rfl⟩ hP hD hS hA (List.perm_append_comm) (fun r5 u5 H locs hp5 hP hD hS => ?_)
  have hP : va_P G.1 vwCl (obw G od (td 0) (nn 0) (dd 0) (pd 0) bo (wd 0) (sd 0) (e0 0) (e1 0) kp ++ (tkw G nn a r)) H := wp_pm (List.perm_append_comm).symm hP
  have hD : va_D A (obw G od (td 0) (nn 0) (dd 0) (pd 0) bo (wd 0) (sd 0) (e0 0) (e1 0) kp ++ (tkw G nn a r)) := wd_pm (List.perm_append_comm).symm hD
  subst hp5
  refine bv_eq (b := true) (tgt := 15) hx hb dX7_way_8 (by decide) (fun c8 => ?_) (fun c8 => ?_)
  · exact absurd c8 (by decide)
  · refine lv_iload_n hx hb dX7_way_11 rfl (lv_at hl 2 rfl) ?_
    refine lv_if_ge (x := y) (tgt := 17) hx hb dX7_way_12 (by decide) (fun c12 => ?_) (fun c12 => ?_)
    · exact absurd hy (Int32.not_lt.mpr c12)
    · refine lv_iconst (v := (-1)) hx hb dX7_way_15 (by decide) ?_
      exact re_i (v := (-1)) hx hb hr hlocks hS () hP hD rfl dX7_way_16

set_option maxHeartbeats 4000000 in
set_option maxRecDepth 100000 in
theorem mX7_way_ok (l : Launch) (G : GG) (od td nn dd pd : Nat → Nat) (bo : Nat) (wd sd e0 e1 : Nat → Nat) (kp : Nat → Int32) (a : Nat → Nat) (r : Nat → Nat → Nat) (w : Nat → Nat) (us : Nat) (v i : Nat) (hT : TB a r) (hv : v < a 0) (hi : i < 2 ^ 31) : Mi l yX7_way cX7_way 3 (some .int) (rmN 4 91) G [.ref (od 0), .int (nI v), .int (nI i)] (obw G od (td 0) (nn 0) (dd 0) (pd 0) bo (wd 0) (sd 0) (e0 0) (e1 0) kp ++ (tkw G nn a r ++ (wyw G wd w us))) (fun (r9 : Int32) (_ : (Nat → Nat) × Nat) => r9 = oN (if i < 7 then saN (r 0) (r 1) (r 2) (wtA a r (a 8)) (upA a) (a 3) i v (fsO (r 0) (r 1) (r 2) (wtA a r (a 8)) (upA a) (a 3) v) else none)) (fun (u : (Nat → Nat) × Nat) => obw G od (td 0) (nn 0) (dd 0) (pd 0) bo (wd 0) (sd 0) (e0 0) (e1 0) kp ++ (tkw G nn a r ++ (wyw G wd u.1 u.2))) := by
  refine Mi.of (cc := cX7_way) (nL := 3) (by decide) (Nat.le_of_ble_eq_true rfl) ?_
  intro p e s m below meth c A ls F hr hlocks hnm hX hA hD hP hS hl
  have F : CallFix p m c cX7_way 3 s [.ref (od 0), .int (nI v), .int (nI i)].toArray wA RX7 := F
  obtain ⟨hx, hb, hml, hown, hts⟩ := id F
  have hl : lv_has ls 3 [(0, .ref (od 0)), (1, .int (nI v)), (2, .int (nI i))] := hl
  obtain ⟨t0, t1, t2, t3, t4, t5, t6, t7, t8, t9, t10, t11, t12⟩ := id hT
  refine lv_aload_n hx hb dX7_way_0 rfl (lv_at hl 0 rfl) ?_
  refine va_get (D := G.1) (ci := 6) (v := .ref (nn 0)) (C := RX7) (T := TX7) (N := 9) hx hb hts inA7 hown hX.1 hP 0 rfl rfl 1 (by decide) (hts _ kw_195) (fun _ h9 => h9) rfl dX7_way_1 ?_
  refine lv_iload_n hx hb dX7_way_4 rfl (lv_at hl 1 rfl) ?_
  refine ca_Vi (ci := 3) (q := (RX4, TX4, 12)) (rest := []) (wr := obw G od (td 0) (nn 0) (dd 0) (pd 0) bo (wd 0) (sd 0) (e0 0) (e1 0) kp ++ (wyw G wd w us)) F hX (mX4_hasNode l G nn a r v hT (by omega)) (cA_V hts kw_389 kw_3 kw_386 kw_387 kw_388 hdX4_hasNode ⟨Nat.le_of_ble_eq_true rfl, Nat.le_of_ble_eq_true rfl⟩) rfl rfl rfl hl.1 rfl (Nat.le_of_ble_eq_true rfl) dX7_way_5 ⟨Nat.le_of_ble_eq_true rfl, Nat.le_of_ble_eq_true rfl⟩ hP hD hS hA (pm_sw _ _ _) (fun r5 u5 H locs hp5 hP hD hS => ?_)
  have hP : va_P G.1 vwCl (obw G od (td 0) (nn 0) (dd 0) (pd 0) bo (wd 0) (sd 0) (e0 0) (e1 0) kp ++ (tkw G nn a r ++ (wyw G wd w us))) H := wp_pm (pm_sw _ _ _).symm hP
  have hD : va_D A (obw G od (td 0) (nn 0) (dd 0) (pd 0) bo (wd 0) (sd 0) (e0 0) (e1 0) kp ++ (tkw G nn a r ++ (wyw G wd w us))) := wd_pm (pm_sw _ _ _).symm hD
  subst hp5
  refine bv_eq (b := true) (tgt := 15) hx hb dX7_way_8 (by decide) (fun c8 => ?_) (fun c8 => ?_)
  · exact absurd c8 (by decide)
  · refine lv_iload_n hx hb dX7_way_11 rfl (lv_at hl 2 rfl) ?_
    refine nv_zge (x := i) (tgt := 17) hx hb dX7_way_12 (by decide) (by omega) ?_
    refine lv_aload_n hx hb dX7_way_17 rfl (lv_at hl 0 rfl) ?_
    refine va_get (D := G.1) (ci := 6) (v := .ref (wd 0)) (C := RX7) (T := TX7) (N := 9) hx hb hts inA7 hown hX.1 hP 0 rfl rfl 5 (by decide) (hts _ kw_199) (fun _ h9 => h9) rfl dX7_way_18 ?_
    refine lv_aload_n hx hb dX7_way_21 rfl (lv_at hl 0 rfl) ?_
    refine va_get (D := G.1) (ci := 6) (v := .ref (nn 0)) (C := RX7) (T := TX7) (N := 9) hx hb hts inA7 hown hX.1 hP 0 rfl rfl 1 (by decide) (hts _ kw_195) (fun _ h9 => h9) rfl dX7_way_22 ?_
    refine lv_aload_n hx hb dX7_way_25 rfl (lv_at hl 0 rfl) ?_
    refine va_get (D := G.1) (ci := 6) (v := .ref (nn 0)) (C := RX7) (T := TX7) (N := 9) hx hb hts inA7 hown hX.1 hP 0 rfl rfl 1 (by decide) (hts _ kw_195) (fun _ h9 => h9) rfl dX7_way_26 ?_
    refine va_get (D := G.1) (ci := 3) (v := .int (nI (a 8))) (C := RX4) (T := TX4) (N := 12) hx hb hts inA4 hown hX.1 hP 3 rfl rfl 8 (by decide) (hts _ kw_99) (fun _ h9 => h9) rfl dX7_way_29 ?_
    refine ca_Vv (ci := 5) (q := (RX6, TX6, 2)) (rest := []) (wr := obw G od (td 0) (nn 0) (dd 0) (pd 0) bo (wd 0) (sd 0) (e0 0) (e1 0) kp) F hX (mX6_find l G wd w us nn a r (a 8) hT (by omega)) (cA_V hts kw_405 kw_6 kw_402 kw_403 kw_404 hdX6_find ⟨Nat.le_of_ble_eq_true rfl, Nat.le_of_ble_eq_true rfl⟩) rfl rfl rfl hl.1 rfl (Nat.le_of_ble_eq_true rfl) dX7_way_32 ⟨Nat.le_of_ble_eq_true rfl, Nat.le_of_ble_eq_true rfl⟩ hP hD hS hA (((pm_sw _ _ _).trans ((List.Perm.append_left _ (List.perm_append_comm)).trans (pm_sw _ _ _))).trans (List.Perm.of_eq (List.append_assoc _ _ _).symm)) (fun u32 H locs hp32 hP hD hS => ?_)
    have hP : va_P G.1 vwCl (obw G od (td 0) (nn 0) (dd 0) (pd 0) bo (wd 0) (sd 0) (e0 0) (e1 0) kp ++ (tkw G nn a r ++ (wyw G wd (wtN (r 0) (r 1) (r 2) (nd (2 ^ (a 3) - 1) (a 9)) (a 3) (a 0) (nof (r 0) (r 1) (a 1) (a 8) (a 3))) (nd (2 ^ (a 3) - 1) (a 9))))) H := wp_pm (((pm_sw _ _ _).trans ((List.Perm.append_left _ (List.perm_append_comm)).trans (pm_sw _ _ _))).trans (List.Perm.of_eq (List.append_assoc _ _ _).symm)).symm hP
    have hD : va_D A (obw G od (td 0) (nn 0) (dd 0) (pd 0) bo (wd 0) (sd 0) (e0 0) (e1 0) kp ++ (tkw G nn a r ++ (wyw G wd (wtN (r 0) (r 1) (r 2) (nd (2 ^ (a 3) - 1) (a 9)) (a 3) (a 0) (nof (r 0) (r 1) (a 1) (a 8) (a 3))) (nd (2 ^ (a 3) - 1) (a 9))))) := wd_pm (((pm_sw _ _ _).trans ((List.Perm.append_left _ (List.perm_append_comm)).trans (pm_sw _ _ _))).trans (List.Perm.of_eq (List.append_assoc _ _ _).symm)).symm hD
    refine lv_aload_n hx hb dX7_way_35 rfl (lv_at hl 0 rfl) ?_
    refine va_get (D := G.1) (ci := 6) (v := .ref (wd 0)) (C := RX7) (T := TX7) (N := 9) hx hb hts inA7 hown hX.1 hP 0 rfl rfl 5 (by decide) (hts _ kw_199) (fun _ h9 => h9) rfl dX7_way_36 ?_
    refine lv_aload_n hx hb dX7_way_39 rfl (lv_at hl 0 rfl) ?_
    refine va_get (D := G.1) (ci := 6) (v := .ref (nn 0)) (C := RX7) (T := TX7) (N := 9) hx hb hts inA7 hown hX.1 hP 0 rfl rfl 1 (by decide) (hts _ kw_195) (fun _ h9 => h9) rfl dX7_way_40 ?_
    refine lv_iload_n hx hb dX7_way_43 rfl (lv_at hl 1 rfl) ?_
    refine lv_iload_n hx hb dX7_way_44 rfl (lv_at hl 2 rfl) ?_
    refine ca_Vi (ci := 5) (q := (RX6, TX6, 2)) (rest := []) (wr := obw G od (td 0) (nn 0) (dd 0) (pd 0) bo (wd 0) (sd 0) (e0 0) (e1 0) kp) F hX (mX6_stepAt l G wd (wtN (r 0) (r 1) (r 2) (nd (2 ^ (a 3) - 1) (a 9)) (a 3) (a 0) (nof (r 0) (r 1) (a 1) (a 8) (a 3))) (nd (2 ^ (a 3) - 1) (a 9)) nn a r v i (wtA_le a r (a 8)) (up_lt hT) hT (by omega) (by omega)) (cA_V hts kw_594 kw_6 kw_591 kw_592 kw_593 hdX6_stepAt ⟨Nat.le_of_ble_eq_true rfl, Nat.le_of_ble_eq_true rfl⟩) rfl rfl rfl hl.1 rfl (Nat.le_of_ble_eq_true rfl) dX7_way_45 ⟨Nat.le_of_ble_eq_true rfl, Nat.le_of_ble_eq_true rfl⟩ hP hD hS hA (((pm_sw _ _ _).trans ((List.Perm.append_left _ (List.perm_append_comm)).trans (pm_sw _ _ _))).trans (List.Perm.of_eq (List.append_assoc _ _ _).symm)) (fun r45 u45 H locs hp45 hP hD hS => ?_)
    have hP : va_P G.1 vwCl (obw G od (td 0) (nn 0) (dd 0) (pd 0) bo (wd 0) (sd 0) (e0 0) (e1 0) kp ++ (tkw G nn a r ++ (wyw G wd (wtN (r 0) (r 1) (r 2) (nd (2 ^ (a 3) - 1) (a 9)) (a 3) (a 0) (nof (r 0) (r 1) (a 1) (a 8) (a 3))) (nd (2 ^ (a 3) - 1) (a 9))))) H := wp_pm (((pm_sw _ _ _).trans ((List.Perm.append_left _ (List.perm_append_comm)).trans (pm_sw _ _ _))).trans (List.Perm.of_eq (List.append_assoc _ _ _).symm)).symm hP
    have hD : va_D A (obw G od (td 0) (nn 0) (dd 0) (pd 0) bo (wd 0) (sd 0) (e0 0) (e1 0) kp ++ (tkw G nn a r ++ (wyw G wd (wtN (r 0) (r 1) (r 2) (nd (2 ^ (a 3) - 1) (a 9)) (a 3) (a 0) (nof (r 0) (r 1) (a 1) (a 8) (a 3))) (nd (2 ^ (a 3) - 1) (a 9))))) := wd_pm (((pm_sw _ _ _).trans ((List.Perm.append_left _ (List.perm_append_comm)).trans (pm_sw _ _ _))).trans (List.Perm.of_eq (List.append_assoc _ _ _).symm)).symm hD
    subst hp45
    exact re_i (v := (oN (if i < 7 then saN (r 0) (r 1) (r 2) (wtN (r 0) (r 1) (r 2) (nd (2 ^ (a 3) - 1) (a 9)) (a 3) (a 0) (nof (r 0) (r 1) (a 1) (a 8) (a 3))) (nd (2 ^ (a 3) - 1) (a 9)) (a 3) i v (fsO (r 0) (r 1) (r 2) (wtN (r 0) (r 1) (r 2) (nd (2 ^ (a 3) - 1) (a 9)) (a 3) (a 0) (nof (r 0) (r 1) (a 1) (a 8) (a 3))) (nd (2 ^ (a 3) - 1) (a 9)) (a 3) v) else none))) hx hb hr hlocks hS (wtN (r 0) (r 1) (r 2) (nd (2 ^ (a 3) - 1) (a 9)) (a 3) (a 0) (nof (r 0) (r 1) (a 1) (a 8) (a 3)), nd (2 ^ (a 3) - 1) (a 9)) hP hD rfl dX7_way_48

theorem hdX7_tree : hdOK yX7_tree 1 := by decide +kernel
set_option maxHeartbeats 4000000 in
set_option maxRecDepth 100000 in
theorem mX7_tree_bad (l : Launch) (G : GG) (od td nn dd pd : Nat → Nat) (bo : Nat) (wd sd e0 e1 : Nat → Nat) (kp : Nat → Int32) (a : Nat → Nat) (r : Nat → Nat → Nat) (y : Int32) (hy : ¬ (0 ≤ y.toInt ∧ y.toInt ≤ 6)) : Mi l yX7_tree cX7_tree 2 (some .int) (rmN 0 0) G [.ref (od 0), .int y] (obw G od (td 0) (nn 0) (dd 0) (pd 0) bo (wd 0) (sd 0) (e0 0) (e1 0) kp ++ (tkw G nn a r)) (fun (r9 : Int32) (_ : Unit) => r9 = (-1)) (fun (_ : Unit) => obw G od (td 0) (nn 0) (dd 0) (pd 0) bo (wd 0) (sd 0) (e0 0) (e1 0) kp ++ (tkw G nn a r)) := by
  refine Mi.of (cc := cX7_tree) (nL := 2) (by decide) (Nat.le_of_ble_eq_true rfl) ?_
  intro p e s m below meth c A ls F hr hlocks hnm hX hA hD hP hS hl
  have F : CallFix p m c cX7_tree 2 s [.ref (od 0), .int y].toArray wA RX7 := F
  obtain ⟨hx, hb, hml, hown, hts⟩ := id F
  have hl : lv_has ls 2 [(0, .ref (od 0)), (1, .int y)] := hl
  refine lv_iload_n hx hb dX7_tree_0 rfl (lv_at hl 1 rfl) ?_
  refine lv_tableOut (tgt := 125) hx hb dX7_tree_1 (sw_out (n := 6) hy) (by decide) ?_
  refine lv_iconst (v := (-1)) hx hb dX7_tree_125 (by decide) ?_
  exact re_i (v := (-1)) hx hb hr hlocks hS () hP hD rfl dX7_tree_126

set_option maxHeartbeats 4000000 in
set_option maxRecDepth 100000 in
theorem mX7_tree_0 (l : Launch) (G : GG) (od td nn dd pd : Nat → Nat) (bo : Nat) (wd sd e0 e1 : Nat → Nat) (kp : Nat → Int32) (a : Nat → Nat) (r : Nat → Nat → Nat) (hT : TB a r) : Mi l yX7_tree cX7_tree 2 (some .int) (rmN 2 44) G [.ref (od 0), .int (nI 0)] (obw G od (td 0) (nn 0) (dd 0) (pd 0) bo (wd 0) (sd 0) (e0 0) (e1 0) kp ++ (tkw G nn a r)) (fun (r9 : Int32) (_ : Unit) => r9 = (nI (coA a r (a 8)))) (fun (_ : Unit) => obw G od (td 0) (nn 0) (dd 0) (pd 0) bo (wd 0) (sd 0) (e0 0) (e1 0) kp ++ (tkw G nn a r)) := by
  refine Mi.of (cc := cX7_tree) (nL := 2) (by decide) (Nat.le_of_ble_eq_true rfl) ?_
  intro p e s m below meth c A ls F hr hlocks hnm hX hA hD hP hS hl
  have F : CallFix p m c cX7_tree 2 s [.ref (od 0), .int (nI 0)].toArray wA RX7 := F
  obtain ⟨hx, hb, hml, hown, hts⟩ := id F
  have hl : lv_has ls 2 [(0, .ref (od 0)), (1, .int (nI 0))] := hl
  obtain ⟨t0, t1, t2, t3, t4, t5, t6, t7, t8, t9, t10, t11, t12⟩ := id hT
  refine lv_iload_n hx hb dX7_tree_0 rfl (lv_at hl 1 rfl) ?_
  refine lv_tableIn (off := 43) (tgt := 44) hx hb dX7_tree_1 (by decide) (by decide) (by decide +kernel) (by decide) ?_
  refine lv_aload_n hx hb dX7_tree_44 rfl (lv_at hl 0 rfl) ?_
  refine va_get (D := G.1) (ci := 6) (v := .ref (nn 0)) (C := RX7) (T := TX7) (N := 9) hx hb hts inA7 hown hX.1 hP 0 rfl rfl 1 (by decide) (hts _ kw_195) (fun _ h9 => h9) rfl dX7_tree_45 ?_
  refine lv_aload_n hx hb dX7_tree_48 rfl (lv_at hl 0 rfl) ?_
  refine va_get (D := G.1) (ci := 6) (v := .ref (nn 0)) (C := RX7) (T := TX7) (N := 9) hx hb hts inA7 hown hX.1 hP 0 rfl rfl 1 (by decide) (hts _ kw_195) (fun _ h9 => h9) rfl dX7_tree_49 ?_
  refine va_get (D := G.1) (ci := 3) (v := .int (nI (a 8))) (C := RX4) (T := TX4) (N := 12) hx hb hts inA4 hown hX.1 hP 3 rfl rfl 8 (by decide) (hts _ kw_99) (fun _ h9 => h9) rfl dX7_tree_52 ?_
  refine ca_Vi (ci := 3) (q := (RX4, TX4, 12)) (rest := []) (wr := obw G od (td 0) (nn 0) (dd 0) (pd 0) bo (wd 0) (sd 0) (e0 0) (e1 0) kp) F hX (mX4_costOf l G nn a r (a 8) hT (by omega)) (cA_V hts kw_487 kw_3 kw_488 kw_485 kw_486 hdX4_costOf ⟨Nat.le_of_ble_eq_true rfl, Nat.le_of_ble_eq_true rfl⟩) rfl rfl rfl hl.1 rfl (Nat.le_of_ble_eq_true rfl) dX7_tree_55 ⟨Nat.le_of_ble_eq_true rfl, Nat.le_of_ble_eq_true rfl⟩ hP hD hS hA (List.perm_append_comm) (fun r55 u55 H locs hp55 hP hD hS => ?_)
  have hP : va_P G.1 vwCl (obw G od (td 0) (nn 0) (dd 0) (pd 0) bo (wd 0) (sd 0) (e0 0) (e1 0) kp ++ (tkw G nn a r)) H := wp_pm (List.perm_append_comm).symm hP
  have hD : va_D A (obw G od (td 0) (nn 0) (dd 0) (pd 0) bo (wd 0) (sd 0) (e0 0) (e1 0) kp ++ (tkw G nn a r)) := wd_pm (List.perm_append_comm).symm hD
  subst hp55
  exact re_i (v := (nI (cst (r 2) (a 8) (a 3)))) hx hb hr hlocks hS () hP hD rfl dX7_tree_58

set_option maxHeartbeats 4000000 in
set_option maxRecDepth 100000 in
theorem mX7_tree_2 (l : Launch) (G : GG) (od td nn dd pd : Nat → Nat) (bo : Nat) (wd sd e0 e1 : Nat → Nat) (kp : Nat → Int32) (a : Nat → Nat) (r : Nat → Nat → Nat) (hT : TB a r) : Mi l yX7_tree cX7_tree 2 (some .int) (rmN 4 97) G [.ref (od 0), .int (nI 2)] (obw G od (td 0) (nn 0) (dd 0) (pd 0) bo (wd 0) (sd 0) (e0 0) (e1 0) kp ++ (tkw G nn a r)) (fun (r9 : Int32) (_ : Unit) => r9 = (nI (coA a r (ofA a r)))) (fun (_ : Unit) => obw G od (td 0) (nn 0) (dd 0) (pd 0) bo (wd 0) (sd 0) (e0 0) (e1 0) kp ++ (tkw G nn a r)) := by
  refine Mi.of (cc := cX7_tree) (nL := 2) (by decide) (Nat.le_of_ble_eq_true rfl) ?_
  intro p e s m below meth c A ls F hr hlocks hnm hX hA hD hP hS hl
  have F : CallFix p m c cX7_tree 2 s [.ref (od 0), .int (nI 2)].toArray wA RX7 := F
  obtain ⟨hx, hb, hml, hown, hts⟩ := id F
  have hl : lv_has ls 2 [(0, .ref (od 0)), (1, .int (nI 2))] := hl
  obtain ⟨t0, t1, t2, t3, t4, t5, t6, t7, t8, t9, t10, t11, t12⟩ := id hT
  refine lv_iload_n hx hb dX7_tree_0 rfl (lv_at hl 1 rfl) ?_
  refine lv_tableIn (off := 77) (tgt := 78) hx hb dX7_tree_1 (by decide) (by decide) (by decide +kernel) (by decide) ?_
  refine lv_aload_n hx hb dX7_tree_78 rfl (lv_at hl 0 rfl) ?_
  refine va_get (D := G.1) (ci := 6) (v := .ref (nn 0)) (C := RX7) (T := TX7) (N := 9) hx hb hts inA7 hown hX.1 hP 0 rfl rfl 1 (by decide) (hts _ kw_195) (fun _ h9 => h9) rfl dX7_tree_79 ?_
  refine lv_aload_n hx hb dX7_tree_82 rfl (lv_at hl 0 rfl) ?_
  refine va_get (D := G.1) (ci := 6) (v := .ref (nn 0)) (C := RX7) (T := TX7) (N := 9) hx hb hts inA7 hown hX.1 hP 0 rfl rfl 1 (by decide) (hts _ kw_195) (fun _ h9 => h9) rfl dX7_tree_83 ?_
  refine ca_Si (rest := [.ref (nn 0)]) (wr := obw G od (td 0) (nn 0) (dd 0) (pd 0) bo (wd 0) (sd 0) (e0 0) (e1 0) kp) F hX (mX1_of l G nn a r hT) (cA_S hts kw_601 kw_17 kw_599 kw_600 hdX1_of ⟨Nat.le_of_ble_eq_true rfl, Nat.le_of_ble_eq_true rfl⟩) rfl hl.1 rfl (Nat.le_of_ble_eq_true rfl) dX7_tree_86 ⟨Nat.le_of_ble_eq_true rfl, Nat.le_of_ble_eq_true rfl⟩ hP hD hS hA (List.perm_append_comm) (fun r86 u86 H locs hp86 hP hD hS => ?_)
  have hP : va_P G.1 vwCl (obw G od (td 0) (nn 0) (dd 0) (pd 0) bo (wd 0) (sd 0) (e0 0) (e1 0) kp ++ (tkw G nn a r)) H := wp_pm (List.perm_append_comm).symm hP
  have hD : va_D A (obw G od (td 0) (nn 0) (dd 0) (pd 0) bo (wd 0) (sd 0) (e0 0) (e1 0) kp ++ (tkw G nn a r)) := wd_pm (List.perm_append_comm).symm hD
  subst hp86
  refine ca_Vi (ci := 3) (q := (RX4, TX4, 12)) (rest := []) (wr := obw G od (td 0) (nn 0) (dd 0) (pd 0) bo (wd 0) (sd 0) (e0 0) (e1 0) kp) F hX (mX4_costOf l G nn a r (ofA a r) hT (ofA_lt hT)) (cA_V hts kw_487 kw_3 kw_488 kw_485 kw_486 hdX4_costOf ⟨Nat.le_of_ble_eq_true rfl, Nat.le_of_ble_eq_true rfl⟩) rfl rfl rfl hl.1 rfl (Nat.le_of_ble_eq_true rfl) dX7_tree_89 ⟨Nat.le_of_ble_eq_true rfl, Nat.le_of_ble_eq_true rfl⟩ hP hD hS hA (List.perm_append_comm) (fun r89 u89 H locs hp89 hP hD hS => ?_)
  have hP : va_P G.1 vwCl (obw G od (td 0) (nn 0) (dd 0) (pd 0) bo (wd 0) (sd 0) (e0 0) (e1 0) kp ++ (tkw G nn a r)) H := wp_pm (List.perm_append_comm).symm hP
  have hD : va_D A (obw G od (td 0) (nn 0) (dd 0) (pd 0) bo (wd 0) (sd 0) (e0 0) (e1 0) kp ++ (tkw G nn a r)) := wd_pm (List.perm_append_comm).symm hD
  subst hp89
  exact re_i (v := (nI (cst (r 2) (ofA a r) (a 3)))) hx hb hr hlocks hS () hP hD rfl dX7_tree_92

set_option maxHeartbeats 4000000 in
set_option maxRecDepth 100000 in
theorem mX7_tree_3 (l : Launch) (G : GG) (od td nn dd pd : Nat → Nat) (bo : Nat) (wd sd e0 e1 : Nat → Nat) (kp : Nat → Int32) (a : Nat → Nat) (r : Nat → Nat → Nat) (hT : TB a r) : Mi l yX7_tree cX7_tree 2 (some .int) (rmN 4 97) G [.ref (od 0), .int (nI 3)] (obw G od (td 0) (nn 0) (dd 0) (pd 0) bo (wd 0) (sd 0) (e0 0) (e1 0) kp ++ (tkw G nn a r)) (fun (r9 : Int32) (_ : Unit) => r9 = (nI (ofA a r))) (fun (_ : Unit) => obw G od (td 0) (nn 0) (dd 0) (pd 0) bo (wd 0) (sd 0) (e0 0) (e1 0) kp ++ (tkw G nn a r)) := by
  refine Mi.of (cc := cX7_tree) (nL := 2) (by decide) (Nat.le_of_ble_eq_true rfl) ?_
  intro p e s m below meth c A ls F hr hlocks hnm hX hA hD hP hS hl
  have F : CallFix p m c cX7_tree 2 s [.ref (od 0), .int (nI 3)].toArray wA RX7 := F
  obtain ⟨hx, hb, hml, hown, hts⟩ := id F
  have hl : lv_has ls 2 [(0, .ref (od 0)), (1, .int (nI 3))] := hl
  obtain ⟨t0, t1, t2, t3, t4, t5, t6, t7, t8, t9, t10, t11, t12⟩ := id hT
  refine lv_iload_n hx hb dX7_tree_0 rfl (lv_at hl 1 rfl) ?_
  refine lv_tableIn (off := 92) (tgt := 93) hx hb dX7_tree_1 (by decide) (by decide) (by decide +kernel) (by decide) ?_
  refine lv_aload_n hx hb dX7_tree_93 rfl (lv_at hl 0 rfl) ?_
  refine va_get (D := G.1) (ci := 6) (v := .ref (nn 0)) (C := RX7) (T := TX7) (N := 9) hx hb hts inA7 hown hX.1 hP 0 rfl rfl 1 (by decide) (hts _ kw_195) (fun _ h9 => h9) rfl dX7_tree_94 ?_
  refine ca_Si (rest := []) (wr := obw G od (td 0) (nn 0) (dd 0) (pd 0) bo (wd 0) (sd 0) (e0 0) (e1 0) kp) F hX (mX1_of l G nn a r hT) (cA_S hts kw_601 kw_17 kw_599 kw_600 hdX1_of ⟨Nat.le_of_ble_eq_true rfl, Nat.le_of_ble_eq_true rfl⟩) rfl hl.1 rfl (Nat.le_of_ble_eq_true rfl) dX7_tree_97 ⟨Nat.le_of_ble_eq_true rfl, Nat.le_of_ble_eq_true rfl⟩ hP hD hS hA (List.perm_append_comm) (fun r97 u97 H locs hp97 hP hD hS => ?_)
  have hP : va_P G.1 vwCl (obw G od (td 0) (nn 0) (dd 0) (pd 0) bo (wd 0) (sd 0) (e0 0) (e1 0) kp ++ (tkw G nn a r)) H := wp_pm (List.perm_append_comm).symm hP
  have hD : va_D A (obw G od (td 0) (nn 0) (dd 0) (pd 0) bo (wd 0) (sd 0) (e0 0) (e1 0) kp ++ (tkw G nn a r)) := wd_pm (List.perm_append_comm).symm hD
  subst hp97
  exact re_i (v := (nI (ofA a r))) hx hb hr hlocks hS () hP hD rfl dX7_tree_100

set_option maxHeartbeats 4000000 in
set_option maxRecDepth 100000 in
theorem mX7_tree_4 (l : Launch) (G : GG) (od td nn dd pd : Nat → Nat) (bo : Nat) (wd sd e0 e1 : Nat → Nat) (kp : Nat → Int32) (a : Nat → Nat) (r : Nat → Nat → Nat) (hT : TB a r) : Mi l yX7_tree cX7_tree 2 (some .int) (rmN 0 0) G [.ref (od 0), .int (nI 4)] (obw G od (td 0) (nn 0) (dd 0) (pd 0) bo (wd 0) (sd 0) (e0 0) (e1 0) kp ++ (tkw G nn a r)) (fun (r9 : Int32) (_ : Unit) => r9 = (nI (a 8))) (fun (_ : Unit) => obw G od (td 0) (nn 0) (dd 0) (pd 0) bo (wd 0) (sd 0) (e0 0) (e1 0) kp ++ (tkw G nn a r)) := by
  refine Mi.of (cc := cX7_tree) (nL := 2) (by decide) (Nat.le_of_ble_eq_true rfl) ?_
  intro p e s m below meth c A ls F hr hlocks hnm hX hA hD hP hS hl
  have F : CallFix p m c cX7_tree 2 s [.ref (od 0), .int (nI 4)].toArray wA RX7 := F
  obtain ⟨hx, hb, hml, hown, hts⟩ := id F
  have hl : lv_has ls 2 [(0, .ref (od 0)), (1, .int (nI 4))] := hl
  obtain ⟨t0, t1, t2, t3, t4, t5, t6, t7, t8, t9, t10, t11, t12⟩ := id hT
  refine lv_iload_n hx hb dX7_tree_0 rfl (lv_at hl 1 rfl) ?_
  refine lv_tableIn (off := 100) (tgt := 101) hx hb dX7_tree_1 (by decide) (by decide) (by decide +kernel) (by decide) ?_
  refine lv_aload_n hx hb dX7_tree_101 rfl (lv_at hl 0 rfl) ?_
  refine va_get (D := G.1) (ci := 6) (v := .ref (nn 0)) (C := RX7) (T := TX7) (N := 9) hx hb hts inA7 hown hX.1 hP 0 rfl rfl 1 (by decide) (hts _ kw_195) (fun _ h9 => h9) rfl dX7_tree_102 ?_
  refine va_get (D := G.1) (ci := 3) (v := .int (nI (a 8))) (C := RX4) (T := TX4) (N := 12) hx hb hts inA4 hown hX.1 hP 3 rfl rfl 8 (by decide) (hts _ kw_99) (fun _ h9 => h9) rfl dX7_tree_105 ?_
  exact re_i (v := (nI (a 8))) hx hb hr hlocks hS () hP hD rfl dX7_tree_108

set_option maxHeartbeats 4000000 in
set_option maxRecDepth 100000 in
theorem mX7_tree_5 (l : Launch) (G : GG) (od td nn dd pd : Nat → Nat) (bo : Nat) (wd sd e0 e1 : Nat → Nat) (kp : Nat → Int32) (a : Nat → Nat) (r : Nat → Nat → Nat) (hT : TB a r) : Mi l yX7_tree cX7_tree 2 (some .int) (rmN 5 111) G [.ref (od 0), .int (nI 5)] (obw G od (td 0) (nn 0) (dd 0) (pd 0) bo (wd 0) (sd 0) (e0 0) (e1 0) kp ++ (tkw G nn a r)) (fun (r9 : Int32) (_ : Unit) => r9 = (oN ((bsN (ldN (r 0) (r 1) (a 0) (a 1) (a 3) (a 7) (a 8)) (a 8) (a 3)).1))) (fun (_ : Unit) => obw G od (td 0) (nn 0) (dd 0) (pd 0) bo (wd 0) (sd 0) (e0 0) (e1 0) kp ++ (tkw G nn a r)) := by
  refine Mi.of (cc := cX7_tree) (nL := 2) (by decide) (Nat.le_of_ble_eq_true rfl) ?_
  intro p e s m below meth c A ls F hr hlocks hnm hX hA hD hP hS hl
  have F : CallFix p m c cX7_tree 2 s [.ref (od 0), .int (nI 5)].toArray wA RX7 := F
  obtain ⟨hx, hb, hml, hown, hts⟩ := id F
  have hl : lv_has ls 2 [(0, .ref (od 0)), (1, .int (nI 5))] := hl
  obtain ⟨t0, t1, t2, t3, t4, t5, t6, t7, t8, t9, t10, t11, t12⟩ := id hT
  refine lv_iload_n hx hb dX7_tree_0 rfl (lv_at hl 1 rfl) ?_
  refine lv_tableIn (off := 108) (tgt := 109) hx hb dX7_tree_1 (by decide) (by decide) (by decide +kernel) (by decide) ?_
  refine lv_aload_n hx hb dX7_tree_109 rfl (lv_at hl 0 rfl) ?_
  refine va_get (D := G.1) (ci := 6) (v := .ref (nn 0)) (C := RX7) (T := TX7) (N := 9) hx hb hts inA7 hown hX.1 hP 0 rfl rfl 1 (by decide) (hts _ kw_195) (fun _ h9 => h9) rfl dX7_tree_110 ?_
  refine ca_Vi (ci := 3) (q := (RX4, TX4, 12)) (rest := []) (wr := obw G od (td 0) (nn 0) (dd 0) (pd 0) bo (wd 0) (sd 0) (e0 0) (e1 0) kp) F hX (mX4_busiest l G nn a r  hT) (cA_V hts kw_619 kw_3 kw_616 kw_617 kw_618 hdX4_busiest ⟨Nat.le_of_ble_eq_true rfl, Nat.le_of_ble_eq_true rfl⟩) rfl rfl rfl hl.1 rfl (Nat.le_of_ble_eq_true rfl) dX7_tree_113 ⟨Nat.le_of_ble_eq_true rfl, Nat.le_of_ble_eq_true rfl⟩ hP hD hS hA (List.perm_append_comm) (fun r113 u113 H locs hp113 hP hD hS => ?_)
  have hP : va_P G.1 vwCl (obw G od (td 0) (nn 0) (dd 0) (pd 0) bo (wd 0) (sd 0) (e0 0) (e1 0) kp ++ (tkw G nn a r)) H := wp_pm (List.perm_append_comm).symm hP
  have hD : va_D A (obw G od (td 0) (nn 0) (dd 0) (pd 0) bo (wd 0) (sd 0) (e0 0) (e1 0) kp ++ (tkw G nn a r)) := wd_pm (List.perm_append_comm).symm hD
  subst hp113
  exact re_i (v := (oN ((bsN (ldN (r 0) (r 1) (a 0) (a 1) (a 3) (a 7) (a 8)) (a 8) (a 3)).1))) hx hb hr hlocks hS () hP hD rfl dX7_tree_116

set_option maxHeartbeats 4000000 in
set_option maxRecDepth 100000 in
theorem mX7_tree_6 (l : Launch) (G : GG) (od td nn dd pd : Nat → Nat) (bo : Nat) (wd sd e0 e1 : Nat → Nat) (kp : Nat → Int32) (a : Nat → Nat) (r : Nat → Nat → Nat) (hT : TB a r) : Mi l yX7_tree cX7_tree 2 (some .int) (rmN 4 89) G [.ref (od 0), .int (nI 6)] (obw G od (td 0) (nn 0) (dd 0) (pd 0) bo (wd 0) (sd 0) (e0 0) (e1 0) kp ++ (tkw G nn a r)) (fun (r9 : Int32) (_ : Unit) => r9 = (nI (neN (r 0) (r 1) (a 0) (a 1) (a 3) (a 7) (a 8) (nd (2 ^ (a 3) - 1) (a 9)) (a 3)))) (fun (_ : Unit) => obw G od (td 0) (nn 0) (dd 0) (pd 0) bo (wd 0) (sd 0) (e0 0) (e1 0) kp ++ (tkw G nn a r)) := by
  refine Mi.of (cc := cX7_tree) (nL := 2) (by decide) (Nat.le_of_ble_eq_true rfl) ?_
  intro p e s m below meth c A ls F hr hlocks hnm hX hA hD hP hS hl
  have F : CallFix p m c cX7_tree 2 s [.ref (od 0), .int (nI 6)].toArray wA RX7 := F
  obtain ⟨hx, hb, hml, hown, hts⟩ := id F
  have hl : lv_has ls 2 [(0, .ref (od 0)), (1, .int (nI 6))] := hl
  obtain ⟨t0, t1, t2, t3, t4, t5, t6, t7, t8, t9, t10, t11, t12⟩ := id hT
  refine lv_iload_n hx hb dX7_tree_0 rfl (lv_at hl 1 rfl) ?_
  refine lv_tableIn (off := 116) (tgt := 117) hx hb dX7_tree_1 (by decide) (by decide) (by decide +kernel) (by decide) ?_
  refine lv_aload_n hx hb dX7_tree_117 rfl (lv_at hl 0 rfl) ?_
  refine va_get (D := G.1) (ci := 6) (v := .ref (nn 0)) (C := RX7) (T := TX7) (N := 9) hx hb hts inA7 hown hX.1 hP 0 rfl rfl 1 (by decide) (hts _ kw_195) (fun _ h9 => h9) rfl dX7_tree_118 ?_
  refine ca_Vi (ci := 3) (q := (RX4, TX4, 12)) (rest := []) (wr := obw G od (td 0) (nn 0) (dd 0) (pd 0) bo (wd 0) (sd 0) (e0 0) (e1 0) kp) F hX (mX4_needed l G nn a r  hT) (cA_V hts kw_624 kw_3 kw_621 kw_622 kw_623 hdX4_needed ⟨Nat.le_of_ble_eq_true rfl, Nat.le_of_ble_eq_true rfl⟩) rfl rfl rfl hl.1 rfl (Nat.le_of_ble_eq_true rfl) dX7_tree_121 ⟨Nat.le_of_ble_eq_true rfl, Nat.le_of_ble_eq_true rfl⟩ hP hD hS hA (List.perm_append_comm) (fun r121 u121 H locs hp121 hP hD hS => ?_)
  have hP : va_P G.1 vwCl (obw G od (td 0) (nn 0) (dd 0) (pd 0) bo (wd 0) (sd 0) (e0 0) (e1 0) kp ++ (tkw G nn a r)) H := wp_pm (List.perm_append_comm).symm hP
  have hD : va_D A (obw G od (td 0) (nn 0) (dd 0) (pd 0) bo (wd 0) (sd 0) (e0 0) (e1 0) kp ++ (tkw G nn a r)) := wd_pm (List.perm_append_comm).symm hD
  subst hp121
  exact re_i (v := (nI (neN (r 0) (r 1) (a 0) (a 1) (a 3) (a 7) (a 8) (nd (2 ^ (a 3) - 1) (a 9)) (a 3)))) hx hb hr hlocks hS () hP hD rfl dX7_tree_124

set_option maxHeartbeats 4000000 in
set_option maxRecDepth 100000 in
theorem mX7_tree_1 (l : Launch) (G : GG) (od td nn dd pd : Nat → Nat) (bo : Nat) (wd sd e0 e1 : Nat → Nat) (kp : Nat → Int32) (a : Nat → Nat) (r : Nat → Nat → Nat) (bd : Nat → Nat) (wb : Nat → Nat) (ub : Nat) (hT : TB a r) : Mi l yX7_tree cX7_tree 2 (some .int) (rmN 5 115) G [.ref (od 0), .int (nI 1)] (obw G od (td 0) (nn 0) (dd 0) (pd 0) bo (wd 0) (sd 0) (e0 0) (e1 0) kp ++ (tkw G nn a r ++ (bow bo (bd 0) ++ (wyw G bd wb ub)))) (fun (r9 : Int32) (_ : (Nat → Nat) × Nat) => r9 = nI (coA a r (anA a r))) (fun (u : (Nat → Nat) × Nat) => obw G od (td 0) (nn 0) (dd 0) (pd 0) bo (wd 0) (sd 0) (e0 0) (e1 0) kp ++ (tkw G nn a r ++ (bow bo (bd 0) ++ (wyw G bd u.1 u.2)))) := by
  refine Mi.of (cc := cX7_tree) (nL := 2) (by decide) (Nat.le_of_ble_eq_true rfl) ?_
  intro p e s m below meth c A ls F hr hlocks hnm hX hA hD hP hS hl
  have F : CallFix p m c cX7_tree 2 s [.ref (od 0), .int (nI 1)].toArray wA RX7 := F
  obtain ⟨hx, hb, hml, hown, hts⟩ := id F
  have hl : lv_has ls 2 [(0, .ref (od 0)), (1, .int (nI 1))] := hl
  obtain ⟨t0, t1, t2, t3, t4, t5, t6, t7, t8, t9, t10, t11, t12⟩ := id hT
  refine lv_iload_n hx hb dX7_tree_0 rfl (lv_at hl 1 rfl) ?_
  refine lv_tableIn (off := 58) (tgt := 59) hx hb dX7_tree_1 (by decide) (by decide) (by decide +kernel) (by decide) ?_
  refine lv_aload_n hx hb dX7_tree_59 rfl (lv_at hl 0 rfl) ?_
  refine va_get (D := G.1) (ci := 6) (v := .ref (nn 0)) (C := RX7) (T := TX7) (N := 9) hx hb hts inA7 hown hX.1 hP 0 rfl rfl 1 (by decide) (hts _ kw_195) (fun _ h9 => h9) rfl dX7_tree_60 ?_
  refine lv_aload_n hx hb dX7_tree_63 rfl (lv_at hl 0 rfl) ?_
  refine va_get (D := G.1) (ci := 6) (v := .ref bo) (C := RX7) (T := TX7) (N := 9) hx hb hts inA7 hown hX.1 hP 0 rfl rfl 4 (by decide) (hts _ kw_198) (fun _ h9 => h9) rfl dX7_tree_64 ?_
  refine lv_aload_n hx hb dX7_tree_67 rfl (lv_at hl 0 rfl) ?_
  refine va_get (D := G.1) (ci := 6) (v := .ref (nn 0)) (C := RX7) (T := TX7) (N := 9) hx hb hts inA7 hown hX.1 hP 0 rfl rfl 1 (by decide) (hts _ kw_195) (fun _ h9 => h9) rfl dX7_tree_68 ?_
  refine ca_Vi (ci := 0) (q := (RX0, TX0, 1)) (rest := [.ref (nn 0)]) (wr := obw G od (td 0) (nn 0) (dd 0) (pd 0) bo (wd 0) (sd 0) (e0 0) (e1 0) kp) F hX (mX0_anew l G bo bd wb ub nn a r  hT) (cA_V hts kw_471 kw_5 kw_511 kw_469 kw_470 hdX0_anew ⟨Nat.le_of_ble_eq_true rfl, Nat.le_of_ble_eq_true rfl⟩) rfl rfl rfl hl.1 rfl (Nat.le_of_ble_eq_true rfl) dX7_tree_71 ⟨Nat.le_of_ble_eq_true rfl, Nat.le_of_ble_eq_true rfl⟩ hP hD hS hA ((((pm_sw _ _ _).trans ((List.Perm.append_left _ ((List.Perm.append_left _ (List.perm_append_comm)).trans (pm_sw _ _ _))).trans (pm_sw _ _ _))).trans ((List.Perm.append_left _ ((List.Perm.append_left _ (List.perm_append_comm)).trans (pm_sw _ _ _))).trans (pm_sw _ _ _))).trans (List.Perm.of_eq (by simp only [List.append_assoc]))) (fun r71 u71 H locs hp71 hP hD hS => ?_)
  have hP : va_P G.1 vwCl (obw G od (td 0) (nn 0) (dd 0) (pd 0) bo (wd 0) (sd 0) (e0 0) (e1 0) kp ++ (tkw G nn a r ++ (bow bo (bd 0) ++ (wyw G bd u71.1 u71.2)))) H := wp_pm ((((pm_sw _ _ _).trans ((List.Perm.append_left _ ((List.Perm.append_left _ (List.perm_append_comm)).trans (pm_sw _ _ _))).trans (pm_sw _ _ _))).trans ((List.Perm.append_left _ ((List.Perm.append_left _ (List.perm_append_comm)).trans (pm_sw _ _ _))).trans (pm_sw _ _ _))).trans (List.Perm.of_eq (by simp only [List.append_assoc]))).symm hP
  have hD : va_D A (obw G od (td 0) (nn 0) (dd 0) (pd 0) bo (wd 0) (sd 0) (e0 0) (e1 0) kp ++ (tkw G nn a r ++ (bow bo (bd 0) ++ (wyw G bd u71.1 u71.2)))) := wd_pm ((((pm_sw _ _ _).trans ((List.Perm.append_left _ ((List.Perm.append_left _ (List.perm_append_comm)).trans (pm_sw _ _ _))).trans (pm_sw _ _ _))).trans ((List.Perm.append_left _ ((List.Perm.append_left _ (List.perm_append_comm)).trans (pm_sw _ _ _))).trans (pm_sw _ _ _))).trans (List.Perm.of_eq (by simp only [List.append_assoc]))).symm hD
  subst hp71
  refine ca_Vi (ci := 3) (q := (RX4, TX4, 12)) (rest := []) (wr := obw G od (td 0) (nn 0) (dd 0) (pd 0) bo (wd 0) (sd 0) (e0 0) (e1 0) kp ++ (bow bo (bd 0) ++ (wyw G bd u71.1 u71.2))) F hX (mX4_costOf l G nn a r (anA a r) hT (anA_lt hT)) (cA_V hts kw_487 kw_3 kw_488 kw_485 kw_486 hdX4_costOf ⟨Nat.le_of_ble_eq_true rfl, Nat.le_of_ble_eq_true rfl⟩) rfl rfl rfl hl.1 rfl (Nat.le_of_ble_eq_true rfl) dX7_tree_74 ⟨Nat.le_of_ble_eq_true rfl, Nat.le_of_ble_eq_true rfl⟩ hP hD hS hA (pm_sw _ _ _) (fun r74 u74 H locs hp74 hP hD hS => ?_)
  have hP : va_P G.1 vwCl (obw G od (td 0) (nn 0) (dd 0) (pd 0) bo (wd 0) (sd 0) (e0 0) (e1 0) kp ++ (tkw G nn a r ++ (bow bo (bd 0) ++ (wyw G bd u71.1 u71.2)))) H := wp_pm (pm_sw _ _ _).symm hP
  have hD : va_D A (obw G od (td 0) (nn 0) (dd 0) (pd 0) bo (wd 0) (sd 0) (e0 0) (e1 0) kp ++ (tkw G nn a r ++ (bow bo (bd 0) ++ (wyw G bd u71.1 u71.2)))) := wd_pm (pm_sw _ _ _).symm hD
  subst hp74
  exact re_i (v := (nI (cst (r 2) (anA a r) (a 3)))) hx hb hr hlocks hS (u71.1, u71.2) hP hD rfl dX7_tree_77

theorem hdX7_sees : hdOK yX7_sees 2 := by decide +kernel
set_option maxHeartbeats 4000000 in
set_option maxRecDepth 100000 in
theorem mX7_sees_bad (l : Launch) (G : GG) (od td nn dd pd : Nat → Nat) (bo : Nat) (wd sd e0 e1 : Nat → Nat) (kp : Nat → Int32) (wh : Nat → Nat) (nu : Nat → Int32) (ss : Nat) (x y : Int32) (hx9 : ¬ ((0 ≤ x.toInt ∧ x.toInt ≤ 1) ∧ (y = -9 ∨ (0 ≤ y.toInt ∧ y.toInt ≤ 99)))) : Mi l yX7_sees cX7_sees 4 (some .int) (rmN 0 0) G [.ref (od 0), .int x, .int y] (obw G od (td 0) (nn 0) (dd 0) (pd 0) bo (wd 0) (sd 0) (e0 0) (e1 0) kp ++ (sgw G sd wh nu ss)) (fun (r9 : Int32) (_ : Unit) => r9 = (-1)) (fun (_ : Unit) => obw G od (td 0) (nn 0) (dd 0) (pd 0) bo (wd 0) (sd 0) (e0 0) (e1 0) kp ++ (sgw G sd wh nu ss)) := by
  refine Mi.of (cc := cX7_sees) (nL := 4) (by decide) (Nat.le_of_ble_eq_true rfl) ?_
  intro p e s m below meth c A ls F hr hlocks hnm hX hA hD hP hS hl
  have F : CallFix p m c cX7_sees 4 s [.ref (od 0), .int x, .int y].toArray wA RX7 := F
  obtain ⟨hx, hb, hml, hown, hts⟩ := id F
  have hl : lv_has ls 4 [(0, .ref (od 0)), (1, .int x), (2, .int y)] := hl
  refine lv_iload_n hx hb dX7_sees_0 rfl (lv_at hl 2 rfl) ?_
  refine lv_bipush (v := (-9)) hx hb dX7_sees_1 (by decide) ?_
  refine lv_icmp_eq (x := y) (y := (-9)) (tgt := 16) hx hb dX7_sees_3 (by decide) (fun c3 => ?_) (fun c3 => ?_)
  · refine lv_iconst (v := (nI 1)) hx hb dX7_sees_16 (by decide) ?_
    refine lv_goto (tgt := 21) hx hb dX7_sees_17 (by decide) ?_
    refine lv_istore_n (lv' := [(3, .int (nI 1)), (0, .ref (od 0)), (1, .int x), (2, .int y)]) hx hb dX7_sees_21 rfl hl (by decide) rfl (fun ls hl => ?_)
    refine lv_iload_n hx hb dX7_sees_22 rfl (lv_at hl 2 rfl) ?_
    refine lv_if_lt (x := x) (tgt := 35) hx hb dX7_sees_23 (by decide) (fun c23 => ?_) (fun c23 => ?_)
    · refine lv_iconst (v := (-1)) hx hb dX7_sees_35 (by decide) ?_
      exact re_i (v := (-1)) hx hb hr hlocks hS () hP hD rfl dX7_sees_36
    · refine lv_iload_n hx hb dX7_sees_26 rfl (lv_at hl 2 rfl) ?_
      refine lv_iconst (v := (nI 1)) hx hb dX7_sees_27 (by decide) ?_
      refine lv_icmp_gt (x := x) (y := (nI 1)) (tgt := 35) hx hb dX7_sees_28 (by decide) (fun c28 => ?_) (fun c28 => ?_)
      · refine lv_iconst (v := (-1)) hx hb dX7_sees_35 (by decide) ?_
        exact re_i (v := (-1)) hx hb hr hlocks hS () hP hD rfl dX7_sees_36
      · refine lv_iload_n hx hb dX7_sees_31 rfl (lv_at hl 0 rfl) ?_
        refine nv_zne (x := 1) (tgt := 37) hx hb dX7_sees_32 (by decide) (by decide) (fun _ => ?_) (fun h9 => absurd h9 (by decide))
        exact absurd ⟨in_le c23 (Int32.not_lt.mp c28) (by decide), Or.inl c3⟩ hx9
  · refine lv_iload_n hx hb dX7_sees_6 rfl (lv_at hl 2 rfl) ?_
    refine lv_if_lt (x := y) (tgt := 20) hx hb dX7_sees_7 (by decide) (fun c7 => ?_) (fun c7 => ?_)
    · refine lv_iconst (v := (nI 0)) hx hb dX7_sees_20 (by decide) ?_
      refine lv_istore_n (lv' := [(3, .int (nI 0)), (0, .ref (od 0)), (1, .int x), (2, .int y)]) hx hb dX7_sees_21 rfl hl (by decide) rfl (fun ls hl => ?_)
      refine lv_iload_n hx hb dX7_sees_22 rfl (lv_at hl 2 rfl) ?_
      refine lv_if_lt (x := x) (tgt := 35) hx hb dX7_sees_23 (by decide) (fun c23 => ?_) (fun c23 => ?_)
      · refine lv_iconst (v := (-1)) hx hb dX7_sees_35 (by decide) ?_
        exact re_i (v := (-1)) hx hb hr hlocks hS () hP hD rfl dX7_sees_36
      · refine lv_iload_n hx hb dX7_sees_26 rfl (lv_at hl 2 rfl) ?_
        refine lv_iconst (v := (nI 1)) hx hb dX7_sees_27 (by decide) ?_
        refine lv_icmp_gt (x := x) (y := (nI 1)) (tgt := 35) hx hb dX7_sees_28 (by decide) (fun c28 => ?_) (fun c28 => ?_)
        · refine lv_iconst (v := (-1)) hx hb dX7_sees_35 (by decide) ?_
          exact re_i (v := (-1)) hx hb hr hlocks hS () hP hD rfl dX7_sees_36
        · refine lv_iload_n hx hb dX7_sees_31 rfl (lv_at hl 0 rfl) ?_
          refine nv_zne (x := 0) (tgt := 37) hx hb dX7_sees_32 (by decide) (by decide) (fun h9 => absurd h9 (by decide)) (fun _ => ?_)
          refine lv_iconst (v := (-1)) hx hb dX7_sees_35 (by decide) ?_
          exact re_i (v := (-1)) hx hb hr hlocks hS () hP hD rfl dX7_sees_36
    · refine lv_iload_n hx hb dX7_sees_10 rfl (lv_at hl 2 rfl) ?_
      refine lv_bipush (v := (nI 99)) hx hb dX7_sees_11 (by decide) ?_
      refine lv_icmp_gt (x := y) (y := (nI 99)) (tgt := 20) hx hb dX7_sees_13 (by decide) (fun c13 => ?_) (fun c13 => ?_)
      · refine lv_iconst (v := (nI 0)) hx hb dX7_sees_20 (by decide) ?_
        refine lv_istore_n (lv' := [(3, .int (nI 0)), (0, .ref (od 0)), (1, .int x), (2, .int y)]) hx hb dX7_sees_21 rfl hl (by decide) rfl (fun ls hl => ?_)
        refine lv_iload_n hx hb dX7_sees_22 rfl (lv_at hl 2 rfl) ?_
        refine lv_if_lt (x := x) (tgt := 35) hx hb dX7_sees_23 (by decide) (fun c23 => ?_) (fun c23 => ?_)
        · refine lv_iconst (v := (-1)) hx hb dX7_sees_35 (by decide) ?_
          exact re_i (v := (-1)) hx hb hr hlocks hS () hP hD rfl dX7_sees_36
        · refine lv_iload_n hx hb dX7_sees_26 rfl (lv_at hl 2 rfl) ?_
          refine lv_iconst (v := (nI 1)) hx hb dX7_sees_27 (by decide) ?_
          refine lv_icmp_gt (x := x) (y := (nI 1)) (tgt := 35) hx hb dX7_sees_28 (by decide) (fun c28 => ?_) (fun c28 => ?_)
          · refine lv_iconst (v := (-1)) hx hb dX7_sees_35 (by decide) ?_
            exact re_i (v := (-1)) hx hb hr hlocks hS () hP hD rfl dX7_sees_36
          · refine lv_iload_n hx hb dX7_sees_31 rfl (lv_at hl 0 rfl) ?_
            refine nv_zne (x := 0) (tgt := 37) hx hb dX7_sees_32 (by decide) (by decide) (fun h9 => absurd h9 (by decide)) (fun _ => ?_)
            refine lv_iconst (v := (-1)) hx hb dX7_sees_35 (by decide) ?_
            exact re_i (v := (-1)) hx hb hr hlocks hS () hP hD rfl dX7_sees_36
      · refine lv_iconst (v := (nI 1)) hx hb dX7_sees_16 (by decide) ?_
        refine lv_goto (tgt := 21) hx hb dX7_sees_17 (by decide) ?_
        refine lv_istore_n (lv' := [(3, .int (nI 1)), (0, .ref (od 0)), (1, .int x), (2, .int y)]) hx hb dX7_sees_21 rfl hl (by decide) rfl (fun ls hl => ?_)
        refine lv_iload_n hx hb dX7_sees_22 rfl (lv_at hl 2 rfl) ?_
        refine lv_if_lt (x := x) (tgt := 35) hx hb dX7_sees_23 (by decide) (fun c23 => ?_) (fun c23 => ?_)
        · refine lv_iconst (v := (-1)) hx hb dX7_sees_35 (by decide) ?_
          exact re_i (v := (-1)) hx hb hr hlocks hS () hP hD rfl dX7_sees_36
        · refine lv_iload_n hx hb dX7_sees_26 rfl (lv_at hl 2 rfl) ?_
          refine lv_iconst (v := (nI 1)) hx hb dX7_sees_27 (by decide) ?_
          refine lv_icmp_gt (x := x) (y := (nI 1)) (tgt := 35) hx hb dX7_sees_28 (by decide) (fun c28 => ?_) (fun c28 => ?_)
          · refine lv_iconst (v := (-1)) hx hb dX7_sees_35 (by decide) ?_
            exact re_i (v := (-1)) hx hb hr hlocks hS () hP hD rfl dX7_sees_36
          · refine lv_iload_n hx hb dX7_sees_31 rfl (lv_at hl 0 rfl) ?_
            refine nv_zne (x := 1) (tgt := 37) hx hb dX7_sees_32 (by decide) (by decide) (fun _ => ?_) (fun h9 => absurd h9 (by decide))
            exact absurd ⟨in_le c23 (Int32.not_lt.mp c28) (by decide), Or.inr (in_le c7 (Int32.not_lt.mp c13) (by decide))⟩ hx9

set_option maxHeartbeats 4000000 in
set_option maxRecDepth 100000 in
theorem mX7_sees_full (l : Launch) (G : GG) (od td nn dd pd : Nat → Nat) (bo : Nat) (wd sd e0 e1 : Nat → Nat) (kp : Nat → Int32) (wh : Nat → Nat) (nu : Nat → Int32) (ss : Nat) (x : Nat) (y : Int32) (hx9 : x ≤ 1) (hy9 : y = -9 ∨ (0 ≤ y.toInt ∧ y.toInt ≤ 99)) (hz : ss = 6) : Mi l yX7_sees cX7_sees 4 (some .int) (rmN 1 22) G [.ref (od 0), .int (nI x), .int y] (obw G od (td 0) (nn 0) (dd 0) (pd 0) bo (wd 0) (sd 0) (e0 0) (e1 0) kp ++ (sgw G sd wh nu ss)) (fun (r9 : Int32) (_ : Unit) => r9 = (-3)) (fun (_ : Unit) => obw G od (td 0) (nn 0) (dd 0) (pd 0) bo (wd 0) (sd 0) (e0 0) (e1 0) kp ++ (sgw G sd wh nu ss)) := by
  refine Mi.of (cc := cX7_sees) (nL := 4) (by decide) (Nat.le_of_ble_eq_true rfl) ?_
  intro p e s m below meth c A ls F hr hlocks hnm hX hA hD hP hS hl
  have F : CallFix p m c cX7_sees 4 s [.ref (od 0), .int (nI x), .int y].toArray wA RX7 := F
  obtain ⟨hx, hb, hml, hown, hts⟩ := id F
  have hl : lv_has ls 4 [(0, .ref (od 0)), (1, .int (nI x)), (2, .int y)] := hl
  refine lv_iload_n hx hb dX7_sees_0 rfl (lv_at hl 2 rfl) ?_
  refine lv_bipush (v := (-9)) hx hb dX7_sees_1 (by decide) ?_
  refine lv_icmp_eq (x := y) (y := (-9)) (tgt := 16) hx hb dX7_sees_3 (by decide) (fun c3 => ?_) (fun c3 => ?_)
  · refine lv_iconst (v := (nI 1)) hx hb dX7_sees_16 (by decide) ?_
    refine lv_goto (tgt := 21) hx hb dX7_sees_17 (by decide) ?_
    refine lv_istore_n (lv' := [(3, .int (nI 1)), (0, .ref (od 0)), (1, .int (nI x)), (2, .int y)]) hx hb dX7_sees_21 rfl hl (by decide) rfl (fun ls hl => ?_)
    refine lv_iload_n hx hb dX7_sees_22 rfl (lv_at hl 2 rfl) ?_
    refine nv_zlt (x := x) (tgt := 35) hx hb dX7_sees_23 (by decide) (by omega) ?_
    refine lv_iload_n hx hb dX7_sees_26 rfl (lv_at hl 2 rfl) ?_
    refine lv_iconst (v := (nI 1)) hx hb dX7_sees_27 (by decide) ?_
    refine nv_gt (x := x) (y := 1) (tgt := 35) hx hb dX7_sees_28 (by decide) (by omega) (by decide) (fun c28 => ?_) (fun c28 => ?_)
    · exact absurd c28 (by omega)
    · refine lv_iload_n hx hb dX7_sees_31 rfl (lv_at hl 0 rfl) ?_
      refine nv_zne (x := 1) (tgt := 37) hx hb dX7_sees_32 (by decide) (by decide) (fun _ => ?_) (fun h9 => absurd h9 (by decide))
      refine lv_aload_n hx hb dX7_sees_37 rfl (lv_at hl 1 rfl) ?_
      refine va_get (D := G.1) (ci := 6) (v := .ref (sd 0)) (C := RX7) (T := TX7) (N := 9) hx hb hts inA7 hown hX.1 hP 0 rfl rfl 6 (by decide) (hts _ kw_200) (fun _ h9 => h9) rfl dX7_sees_38 ?_
      refine lv_iload_n hx hb dX7_sees_41 rfl (lv_at hl 2 rfl) ?_
      refine lv_iload_n hx hb dX7_sees_42 rfl (lv_at hl 3 rfl) ?_
      refine ca_Vi (ci := 2) (q := (RX3, TX3, 3)) (rest := []) (wr := obw G od (td 0) (nn 0) (dd 0) (pd 0) bo (wd 0) (sd 0) (e0 0) (e1 0) kp) F hX (mX3_add_no l G sd wh nu ss x y (by omega)) (cA_V hts kw_633 kw_7 kw_630 kw_631 kw_632 hdX3_add ⟨Nat.le_of_ble_eq_true rfl, Nat.le_of_ble_eq_true rfl⟩) rfl rfl rfl hl.1 rfl (Nat.le_of_ble_eq_true rfl) dX7_sees_43 ⟨Nat.le_of_ble_eq_true rfl, Nat.le_of_ble_eq_true rfl⟩ hP hD hS hA (List.perm_append_comm) (fun r43 u43 H locs hp43 hP hD hS => ?_)
      have hP : va_P G.1 vwCl (obw G od (td 0) (nn 0) (dd 0) (pd 0) bo (wd 0) (sd 0) (e0 0) (e1 0) kp ++ (sgw G sd wh nu ss)) H := wp_pm (List.perm_append_comm).symm hP
      have hD : va_D A (obw G od (td 0) (nn 0) (dd 0) (pd 0) bo (wd 0) (sd 0) (e0 0) (e1 0) kp ++ (sgw G sd wh nu ss)) := wd_pm (List.perm_append_comm).symm hD
      subst hp43
      refine bv_eq (b := false) (tgt := 59) hx hb dX7_sees_46 (by decide) (fun c46 => ?_) (fun c46 => ?_)
      · refine lv_bipush (v := (-3)) hx hb dX7_sees_59 (by decide) ?_
        exact re_i (v := (-3)) hx hb hr hlocks hS () hP hD rfl dX7_sees_61
      · exact absurd c46 (by decide)
  · refine lv_iload_n hx hb dX7_sees_6 rfl (lv_at hl 2 rfl) ?_
    refine lv_if_lt (x := y) (tgt := 20) hx hb dX7_sees_7 (by decide) (fun c7 => ?_) (fun c7 => ?_)
    · exact absurd c7 (fun h => hy9.elim (fun e => c3 e) (fun e => ge0 e.1 h))
    · refine lv_iload_n hx hb dX7_sees_10 rfl (lv_at hl 2 rfl) ?_
      refine lv_bipush (v := (nI 99)) hx hb dX7_sees_11 (by decide) ?_
      refine lv_icmp_gt (x := y) (y := (nI 99)) (tgt := 20) hx hb dX7_sees_13 (by decide) (fun c13 => ?_) (fun c13 => ?_)
      · exact hy9.elim (fun e => absurd e c3) (fun e => absurd c13 (gt_no e.2))
      · refine lv_iconst (v := (nI 1)) hx hb dX7_sees_16 (by decide) ?_
        refine lv_goto (tgt := 21) hx hb dX7_sees_17 (by decide) ?_
        refine lv_istore_n (lv' := [(3, .int (nI 1)), (0, .ref (od 0)), (1, .int (nI x)), (2, .int y)]) hx hb dX7_sees_21 rfl hl (by decide) rfl (fun ls hl => ?_)
        refine lv_iload_n hx hb dX7_sees_22 rfl (lv_at hl 2 rfl) ?_
        refine nv_zlt (x := x) (tgt := 35) hx hb dX7_sees_23 (by decide) (by omega) ?_
        refine lv_iload_n hx hb dX7_sees_26 rfl (lv_at hl 2 rfl) ?_
        refine lv_iconst (v := (nI 1)) hx hb dX7_sees_27 (by decide) ?_
        refine nv_gt (x := x) (y := 1) (tgt := 35) hx hb dX7_sees_28 (by decide) (by omega) (by decide) (fun c28 => ?_) (fun c28 => ?_)
        · exact absurd c28 (by omega)
        · refine lv_iload_n hx hb dX7_sees_31 rfl (lv_at hl 0 rfl) ?_
          refine nv_zne (x := 1) (tgt := 37) hx hb dX7_sees_32 (by decide) (by decide) (fun _ => ?_) (fun h9 => absurd h9 (by decide))
          refine lv_aload_n hx hb dX7_sees_37 rfl (lv_at hl 1 rfl) ?_
          refine va_get (D := G.1) (ci := 6) (v := .ref (sd 0)) (C := RX7) (T := TX7) (N := 9) hx hb hts inA7 hown hX.1 hP 0 rfl rfl 6 (by decide) (hts _ kw_200) (fun _ h9 => h9) rfl dX7_sees_38 ?_
          refine lv_iload_n hx hb dX7_sees_41 rfl (lv_at hl 2 rfl) ?_
          refine lv_iload_n hx hb dX7_sees_42 rfl (lv_at hl 3 rfl) ?_
          refine ca_Vi (ci := 2) (q := (RX3, TX3, 3)) (rest := []) (wr := obw G od (td 0) (nn 0) (dd 0) (pd 0) bo (wd 0) (sd 0) (e0 0) (e1 0) kp) F hX (mX3_add_no l G sd wh nu ss x y (by omega)) (cA_V hts kw_633 kw_7 kw_630 kw_631 kw_632 hdX3_add ⟨Nat.le_of_ble_eq_true rfl, Nat.le_of_ble_eq_true rfl⟩) rfl rfl rfl hl.1 rfl (Nat.le_of_ble_eq_true rfl) dX7_sees_43 ⟨Nat.le_of_ble_eq_true rfl, Nat.le_of_ble_eq_true rfl⟩ hP hD hS hA (List.perm_append_comm) (fun r43 u43 H locs hp43 hP hD hS => ?_)
          have hP : va_P G.1 vwCl (obw G od (td 0) (nn 0) (dd 0) (pd 0) bo (wd 0) (sd 0) (e0 0) (e1 0) kp ++ (sgw G sd wh nu ss)) H := wp_pm (List.perm_append_comm).symm hP
          have hD : va_D A (obw G od (td 0) (nn 0) (dd 0) (pd 0) bo (wd 0) (sd 0) (e0 0) (e1 0) kp ++ (sgw G sd wh nu ss)) := wd_pm (List.perm_append_comm).symm hD
          subst hp43
          refine bv_eq (b := false) (tgt := 59) hx hb dX7_sees_46 (by decide) (fun c46 => ?_) (fun c46 => ?_)
          · refine lv_bipush (v := (-3)) hx hb dX7_sees_59 (by decide) ?_
            exact re_i (v := (-3)) hx hb hr hlocks hS () hP hD rfl dX7_sees_61
          · exact absurd c46 (by decide)

set_option maxHeartbeats 4000000 in
set_option maxRecDepth 100000 in
theorem mX7_sees_ok (l : Launch) (G : GG) (od td nn dd pd : Nat → Nat) (bo : Nat) (wd sd e0 e1 : Nat → Nat) (kp : Nat → Int32) (wh : Nat → Nat) (nu : Nat → Int32) (ss : Nat) (x : Nat) (y : Int32) (hx9 : x ≤ 1) (hy9 : y = -9 ∨ (0 ≤ y.toInt ∧ y.toInt ≤ 99)) (hz : ss < 6) : Mi l yX7_sees cX7_sees 4 (some .int) (rmN 1 22) G [.ref (od 0), .int (nI x), .int y] (obw G od (td 0) (nn 0) (dd 0) (pd 0) bo (wd 0) (sd 0) (e0 0) (e1 0) kp ++ (sgw G sd wh nu ss)) (fun (r9 : Int32) (_ : Unit) => r9 = (nI (ss + 1))) (fun (_ : Unit) => obw G od (td 0) (nn 0) (dd 0) (pd 0) bo (wd 0) (sd 0) (e0 0) (e1 0) kp ++ (sgw G sd (va_up wh ss x) (upd nu ss y) (ss + 1))) := by
  refine Mi.of (cc := cX7_sees) (nL := 4) (by decide) (Nat.le_of_ble_eq_true rfl) ?_
  intro p e s m below meth c A ls F hr hlocks hnm hX hA hD hP hS hl
  have F : CallFix p m c cX7_sees 4 s [.ref (od 0), .int (nI x), .int y].toArray wA RX7 := F
  obtain ⟨hx, hb, hml, hown, hts⟩ := id F
  have hl : lv_has ls 4 [(0, .ref (od 0)), (1, .int (nI x)), (2, .int y)] := hl
  refine lv_iload_n hx hb dX7_sees_0 rfl (lv_at hl 2 rfl) ?_
  refine lv_bipush (v := (-9)) hx hb dX7_sees_1 (by decide) ?_
  refine lv_icmp_eq (x := y) (y := (-9)) (tgt := 16) hx hb dX7_sees_3 (by decide) (fun c3 => ?_) (fun c3 => ?_)
  · refine lv_iconst (v := (nI 1)) hx hb dX7_sees_16 (by decide) ?_
    refine lv_goto (tgt := 21) hx hb dX7_sees_17 (by decide) ?_
    refine lv_istore_n (lv' := [(3, .int (nI 1)), (0, .ref (od 0)), (1, .int (nI x)), (2, .int y)]) hx hb dX7_sees_21 rfl hl (by decide) rfl (fun ls hl => ?_)
    refine lv_iload_n hx hb dX7_sees_22 rfl (lv_at hl 2 rfl) ?_
    refine nv_zlt (x := x) (tgt := 35) hx hb dX7_sees_23 (by decide) (by omega) ?_
    refine lv_iload_n hx hb dX7_sees_26 rfl (lv_at hl 2 rfl) ?_
    refine lv_iconst (v := (nI 1)) hx hb dX7_sees_27 (by decide) ?_
    refine nv_gt (x := x) (y := 1) (tgt := 35) hx hb dX7_sees_28 (by decide) (by omega) (by decide) (fun c28 => ?_) (fun c28 => ?_)
    · exact absurd c28 (by omega)
    · refine lv_iload_n hx hb dX7_sees_31 rfl (lv_at hl 0 rfl) ?_
      refine nv_zne (x := 1) (tgt := 37) hx hb dX7_sees_32 (by decide) (by decide) (fun _ => ?_) (fun h9 => absurd h9 (by decide))
      refine lv_aload_n hx hb dX7_sees_37 rfl (lv_at hl 1 rfl) ?_
      refine va_get (D := G.1) (ci := 6) (v := .ref (sd 0)) (C := RX7) (T := TX7) (N := 9) hx hb hts inA7 hown hX.1 hP 0 rfl rfl 6 (by decide) (hts _ kw_200) (fun _ h9 => h9) rfl dX7_sees_38 ?_
      refine lv_iload_n hx hb dX7_sees_41 rfl (lv_at hl 2 rfl) ?_
      refine lv_iload_n hx hb dX7_sees_42 rfl (lv_at hl 3 rfl) ?_
      refine ca_Vi (ci := 2) (q := (RX3, TX3, 3)) (rest := []) (wr := obw G od (td 0) (nn 0) (dd 0) (pd 0) bo (wd 0) (sd 0) (e0 0) (e1 0) kp) F hX (mX3_add_yes l G sd wh nu ss x y (by omega)) (cA_V hts kw_633 kw_7 kw_630 kw_631 kw_632 hdX3_add ⟨Nat.le_of_ble_eq_true rfl, Nat.le_of_ble_eq_true rfl⟩) rfl rfl rfl hl.1 rfl (Nat.le_of_ble_eq_true rfl) dX7_sees_43 ⟨Nat.le_of_ble_eq_true rfl, Nat.le_of_ble_eq_true rfl⟩ hP hD hS hA (List.perm_append_comm) (fun r43 u43 H locs hp43 hP hD hS => ?_)
      have hP : va_P G.1 vwCl (obw G od (td 0) (nn 0) (dd 0) (pd 0) bo (wd 0) (sd 0) (e0 0) (e1 0) kp ++ (sgw G sd (va_up wh ss x) (upd nu ss y) (ss + 1))) H := wp_pm (List.perm_append_comm).symm hP
      have hD : va_D A (obw G od (td 0) (nn 0) (dd 0) (pd 0) bo (wd 0) (sd 0) (e0 0) (e1 0) kp ++ (sgw G sd (va_up wh ss x) (upd nu ss y) (ss + 1))) := wd_pm (List.perm_append_comm).symm hD
      subst hp43
      refine bv_eq (b := true) (tgt := 59) hx hb dX7_sees_46 (by decide) (fun c46 => ?_) (fun c46 => ?_)
      · exact absurd c46 (by decide)
      · refine lv_aload_n hx hb dX7_sees_49 rfl (lv_at hl 1 rfl) ?_
        refine va_get (D := G.1) (ci := 6) (v := .ref (sd 0)) (C := RX7) (T := TX7) (N := 9) hx hb hts inA7 hown hX.1 hP 0 rfl rfl 6 (by decide) (hts _ kw_200) (fun _ h9 => h9) rfl dX7_sees_50 ?_
        refine va_get (D := G.1) (ci := 2) (v := .int (nI (ss + 1))) (C := RX3) (T := TX3) (N := 3) hx hb hts inA3 hown hX.1 hP 3 rfl rfl 2 (by decide) (hts _ kw_186) (fun _ h9 => h9) rfl dX7_sees_53 ?_
        refine lv_goto (tgt := 61) hx hb dX7_sees_56 (by decide) ?_
        exact re_i (v := (nI (ss + 1))) hx hb hr hlocks hS () hP hD rfl dX7_sees_61
  · refine lv_iload_n hx hb dX7_sees_6 rfl (lv_at hl 2 rfl) ?_
    refine lv_if_lt (x := y) (tgt := 20) hx hb dX7_sees_7 (by decide) (fun c7 => ?_) (fun c7 => ?_)
    · exact absurd c7 (fun h => hy9.elim (fun e => c3 e) (fun e => ge0 e.1 h))
    · refine lv_iload_n hx hb dX7_sees_10 rfl (lv_at hl 2 rfl) ?_
      refine lv_bipush (v := (nI 99)) hx hb dX7_sees_11 (by decide) ?_
      refine lv_icmp_gt (x := y) (y := (nI 99)) (tgt := 20) hx hb dX7_sees_13 (by decide) (fun c13 => ?_) (fun c13 => ?_)
      · exact hy9.elim (fun e => absurd e c3) (fun e => absurd c13 (gt_no e.2))
      · refine lv_iconst (v := (nI 1)) hx hb dX7_sees_16 (by decide) ?_
        refine lv_goto (tgt := 21) hx hb dX7_sees_17 (by decide) ?_
        refine lv_istore_n (lv' := [(3, .int (nI 1)), (0, .ref (od 0)), (1, .int (nI x)), (2, .int y)]) hx hb dX7_sees_21 rfl hl (by decide) rfl (fun ls hl => ?_)
        refine lv_iload_n hx hb dX7_sees_22 rfl (lv_at hl 2 rfl) ?_
        refine nv_zlt (x := x) (tgt := 35) hx hb dX7_sees_23 (by decide) (by omega) ?_
        refine lv_iload_n hx hb dX7_sees_26 rfl (lv_at hl 2 rfl) ?_
        refine lv_iconst (v := (nI 1)) hx hb dX7_sees_27 (by decide) ?_
        refine nv_gt (x := x) (y := 1) (tgt := 35) hx hb dX7_sees_28 (by decide) (by omega) (by decide) (fun c28 => ?_) (fun c28 => ?_)
        · exact absurd c28 (by omega)
        · refine lv_iload_n hx hb dX7_sees_31 rfl (lv_at hl 0 rfl) ?_
          refine nv_zne (x := 1) (tgt := 37) hx hb dX7_sees_32 (by decide) (by decide) (fun _ => ?_) (fun h9 => absurd h9 (by decide))
          refine lv_aload_n hx hb dX7_sees_37 rfl (lv_at hl 1 rfl) ?_
          refine va_get (D := G.1) (ci := 6) (v := .ref (sd 0)) (C := RX7) (T := TX7) (N := 9) hx hb hts inA7 hown hX.1 hP 0 rfl rfl 6 (by decide) (hts _ kw_200) (fun _ h9 => h9) rfl dX7_sees_38 ?_
          refine lv_iload_n hx hb dX7_sees_41 rfl (lv_at hl 2 rfl) ?_
          refine lv_iload_n hx hb dX7_sees_42 rfl (lv_at hl 3 rfl) ?_
          refine ca_Vi (ci := 2) (q := (RX3, TX3, 3)) (rest := []) (wr := obw G od (td 0) (nn 0) (dd 0) (pd 0) bo (wd 0) (sd 0) (e0 0) (e1 0) kp) F hX (mX3_add_yes l G sd wh nu ss x y (by omega)) (cA_V hts kw_633 kw_7 kw_630 kw_631 kw_632 hdX3_add ⟨Nat.le_of_ble_eq_true rfl, Nat.le_of_ble_eq_true rfl⟩) rfl rfl rfl hl.1 rfl (Nat.le_of_ble_eq_true rfl) dX7_sees_43 ⟨Nat.le_of_ble_eq_true rfl, Nat.le_of_ble_eq_true rfl⟩ hP hD hS hA (List.perm_append_comm) (fun r43 u43 H locs hp43 hP hD hS => ?_)
          have hP : va_P G.1 vwCl (obw G od (td 0) (nn 0) (dd 0) (pd 0) bo (wd 0) (sd 0) (e0 0) (e1 0) kp ++ (sgw G sd (va_up wh ss x) (upd nu ss y) (ss + 1))) H := wp_pm (List.perm_append_comm).symm hP
          have hD : va_D A (obw G od (td 0) (nn 0) (dd 0) (pd 0) bo (wd 0) (sd 0) (e0 0) (e1 0) kp ++ (sgw G sd (va_up wh ss x) (upd nu ss y) (ss + 1))) := wd_pm (List.perm_append_comm).symm hD
          subst hp43
          refine bv_eq (b := true) (tgt := 59) hx hb dX7_sees_46 (by decide) (fun c46 => ?_) (fun c46 => ?_)
          · exact absurd c46 (by decide)
          · refine lv_aload_n hx hb dX7_sees_49 rfl (lv_at hl 1 rfl) ?_
            refine va_get (D := G.1) (ci := 6) (v := .ref (sd 0)) (C := RX7) (T := TX7) (N := 9) hx hb hts inA7 hown hX.1 hP 0 rfl rfl 6 (by decide) (hts _ kw_200) (fun _ h9 => h9) rfl dX7_sees_50 ?_
            refine va_get (D := G.1) (ci := 2) (v := .int (nI (ss + 1))) (C := RX3) (T := TX3) (N := 3) hx hb hts inA3 hown hX.1 hP 3 rfl rfl 2 (by decide) (hts _ kw_186) (fun _ h9 => h9) rfl dX7_sees_53 ?_
            refine lv_goto (tgt := 61) hx hb dX7_sees_56 (by decide) ?_
            exact re_i (v := (nI (ss + 1))) hx hb hr hlocks hS () hP hD rfl dX7_sees_61

theorem hdX7_forget : hdOK yX7_forget 0 := by decide +kernel
set_option maxHeartbeats 4000000 in
set_option maxRecDepth 100000 in
theorem mX7_forget (l : Launch) (G : GG) (od td nn dd pd : Nat → Nat) (bo : Nat) (wd sd e0 e1 : Nat → Nat) (kp : Nat → Int32) (wh : Nat → Nat) (nu : Nat → Int32) (ss : Nat)  : Mi l yX7_forget cX7_forget 1 (some .int) (rmN 1 21) G [.ref (od 0)] (obw G od (td 0) (nn 0) (dd 0) (pd 0) bo (wd 0) (sd 0) (e0 0) (e1 0) kp ++ (sgw G sd wh nu ss)) (fun (r9 : Int32) (_ : Unit) => r9 = (nI ss)) (fun (_ : Unit) => obw G od (td 0) (nn 0) (dd 0) (pd 0) bo (wd 0) (sd 0) (e0 0) (e1 0) kp ++ (sgw G sd wh nu 0)) := by
  refine Mi.of (cc := cX7_forget) (nL := 1) (by decide) (Nat.le_of_ble_eq_true rfl) ?_
  intro p e s m below meth c A ls F hr hlocks hnm hX hA hD hP hS hl
  have F : CallFix p m c cX7_forget 1 s [.ref (od 0)].toArray wA RX7 := F
  obtain ⟨hx, hb, hml, hown, hts⟩ := id F
  have hl : lv_has ls 1 [(0, .ref (od 0))] := hl
  refine lv_aload_n hx hb dX7_forget_0 rfl (lv_at hl 0 rfl) ?_
  refine va_get (D := G.1) (ci := 6) (v := .ref (sd 0)) (C := RX7) (T := TX7) (N := 9) hx hb hts inA7 hown hX.1 hP 0 rfl rfl 6 (by decide) (hts _ kw_200) (fun _ h9 => h9) rfl dX7_forget_1 ?_
  refine ca_Vi (ci := 2) (q := (RX3, TX3, 3)) (rest := []) (wr := obw G od (td 0) (nn 0) (dd 0) (pd 0) bo (wd 0) (sd 0) (e0 0) (e1 0) kp) F hX (mX3_empty l G sd wh nu ss  ) (cA_V hts kw_641 kw_7 kw_638 kw_639 kw_640 hdX3_empty ⟨Nat.le_of_ble_eq_true rfl, Nat.le_of_ble_eq_true rfl⟩) rfl rfl rfl hl.1 rfl (Nat.le_of_ble_eq_true rfl) dX7_forget_4 ⟨Nat.le_of_ble_eq_true rfl, Nat.le_of_ble_eq_true rfl⟩ hP hD hS hA (List.perm_append_comm) (fun r4 u4 H locs hp4 hP hD hS => ?_)
  have hP : va_P G.1 vwCl (obw G od (td 0) (nn 0) (dd 0) (pd 0) bo (wd 0) (sd 0) (e0 0) (e1 0) kp ++ (sgw G sd wh nu 0)) H := wp_pm (List.perm_append_comm).symm hP
  have hD : va_D A (obw G od (td 0) (nn 0) (dd 0) (pd 0) bo (wd 0) (sd 0) (e0 0) (e1 0) kp ++ (sgw G sd wh nu 0)) := wd_pm (List.perm_append_comm).symm hD
  subst hp4
  exact re_i (v := (nI ss)) hx hb hr hlocks hS () hP hD rfl dX7_forget_7

