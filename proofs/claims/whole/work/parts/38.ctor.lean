theorem hdX4_init : hdOK yX4_init 0 := by decide +kernel
set_option maxHeartbeats 4000000 in
set_option maxRecDepth 100000 in
theorem mX4_init (l : Launch) (G : GG) (b : Nat) : Mv l yX4_init cX4_init 1 none (rmK 1 26 4 43) G [.ref b] [(b, .inr (3, [.int (nI 0), .int (nI 0), .int (nI 0), .int (nI 0), .null, .null, .null, .int (nI 0), .int (nI 0), .int (nI 0), .int (nI 0), .null]))] (fun (u : Nat → Nat) => u 0 = b) (fun (u : Nat → Nat) => tkw G u tk0 rk0) := by
  refine Mv.of (cc := cX4_init) (nL := 1) (by decide) (Nat.le_of_ble_eq_true rfl) ?_
  intro p e s m below meth c A ls F hr hlocks hnm hX hA hD hP hS hl
  have F : CallFix p m c cX4_init 1 s [.ref b].toArray wA RX4 := F
  obtain ⟨hx, hb, hml, hown, hts⟩ := id F
  have hl : lv_has ls 1 [(0, .ref b)] := hl
  refine lv_aload_n hx hb dX4_init_0 rfl (lv_at hl 0 rfl) ?_
  refine W.objInit hx hb hown (hts _ kw_61) (hts _ kw_24) (hts _ kw_25) rfl (by rw [hml]; exact hl.1) rfl dX4_init_1 (Nat.le_of_ble_eq_true rfl) (Nat.le_of_ble_eq_true rfl) ?_
  refine W.eq (g2 := F0 m 4 ls []) rfl ?_
  refine lv_aload_n hx hb dX4_init_4 rfl (lv_at hl 0 rfl) ?_
  refine lv_iconst (v := nI 2) hx hb dX4_init_5 (by decide) ?_
  refine va_put (D := G.1) (ci := 3) (v := .int (nI 2)) (ty := .int) (C := RX4) (T := TX4) (N := 12) hx hb hts inA4 tyX4 tyX4_ok nmX4 hown hX.1 hP hD hS 0 rfl rfl 0 (by decide) (hts _ kw_62) (fun _ h9 => h9) rfl (by decide +kernel) rfl rfl (Nat.le_of_ble_eq_true rfl) dX4_init_6 (fun H locs hP hD hS => ?_)
  have hP : va_P G.1 vwCl ([(b, .inr (3, [.int (nI 2), .int (nI 0), .int (nI 0), .int (nI 0), .null, .null, .null, .int (nI 0), .int (nI 0), .int (nI 0), .int (nI 0), .null]))]) H := hP
  have hD : va_D A ([(b, .inr (3, [.int (nI 2), .int (nI 0), .int (nI 0), .int (nI 0), .null, .null, .null, .int (nI 0), .int (nI 0), .int (nI 0), .int (nI 0), .null]))]) := hD
  refine lv_aload_n hx hb dX4_init_9 rfl (lv_at hl 0 rfl) ?_
  refine lv_bipush (v := nI 12) hx hb dX4_init_10 (by decide) ?_
  refine nw_I (n := 12) hx hb (hts _ kw_55) hX hP hD hS hA (by decide) (Nat.le_of_ble_eq_true rfl) (Nat.le_of_ble_eq_true rfl) dX4_init_12 (fun q0 H hP hD hS => ?_)
  have hP : va_P G.1 vwCl ([(b, .inr (3, [.int (nI 2), .int (nI 0), .int (nI 0), .int (nI 0), .null, .null, .null, .int (nI 0), .int (nI 0), .int (nI 0), .int (nI 0), .null]))] ++ ([(q0, .inl (G.2 0, 12, .inl (fun _ => nI 0)))])) H := hP
  have hD : va_D A ([(b, .inr (3, [.int (nI 2), .int (nI 0), .int (nI 0), .int (nI 0), .null, .null, .null, .int (nI 0), .int (nI 0), .int (nI 0), .int (nI 0), .null]))] ++ ([(q0, .inl (G.2 0, 12, .inl (fun _ => nI 0)))])) := hD
  refine va_putF (D := G.1) (ci := 3) (v := .ref q0) (ty := tyX4 4) (C := RX4) (T := TX4) (N := 12) hx hb hts inA4 tyX4 tyX4_ok nmX4 hown hX.1 hP hD hS 0 rfl rfl 4 (by decide) (hts _ kw_82) (fun _ h9 => h9) rfl hnm rfl (tyX4_ok 4 (by decide)) rfl rfl (Nat.le_of_ble_eq_true rfl) dX4_init_14 (fun H locs hP hD hS => ?_)
  have hP : va_P G.1 vwCl ([(b, .inr (3, [.int (nI 2), .int (nI 0), .int (nI 0), .int (nI 0), .ref q0, .null, .null, .int (nI 0), .int (nI 0), .int (nI 0), .int (nI 0), .null]))] ++ ([(q0, .inl (G.2 0, 12, .inl (fun _ => nI 0)))])) H := hP
  have hD : va_D A ([(b, .inr (3, [.int (nI 2), .int (nI 0), .int (nI 0), .int (nI 0), .ref q0, .null, .null, .int (nI 0), .int (nI 0), .int (nI 0), .int (nI 0), .null]))] ++ ([(q0, .inl (G.2 0, 12, .inl (fun _ => nI 0)))])) := hD
  refine lv_aload_n hx hb dX4_init_17 rfl (lv_at hl 0 rfl) ?_
  refine lv_bipush (v := nI 12) hx hb dX4_init_18 (by decide) ?_
  refine nw_I (n := 12) hx hb (hts _ kw_55) hX hP hD hS hA (by decide) (Nat.le_of_ble_eq_true rfl) (Nat.le_of_ble_eq_true rfl) dX4_init_20 (fun q1 H hP hD hS => ?_)
  have hP : va_P G.1 vwCl ([(b, .inr (3, [.int (nI 2), .int (nI 0), .int (nI 0), .int (nI 0), .ref q0, .null, .null, .int (nI 0), .int (nI 0), .int (nI 0), .int (nI 0), .null]))] ++ ([(q0, .inl (G.2 0, 12, .inl (fun _ => nI 0)))] ++ ([(q1, .inl (G.2 0, 12, .inl (fun _ => nI 0)))]))) H := wp_pm (List.Perm.of_eq (by simp only [List.append_assoc])) hP
  have hD : va_D A ([(b, .inr (3, [.int (nI 2), .int (nI 0), .int (nI 0), .int (nI 0), .ref q0, .null, .null, .int (nI 0), .int (nI 0), .int (nI 0), .int (nI 0), .null]))] ++ ([(q0, .inl (G.2 0, 12, .inl (fun _ => nI 0)))] ++ ([(q1, .inl (G.2 0, 12, .inl (fun _ => nI 0)))]))) := wd_pm (List.Perm.of_eq (by simp only [List.append_assoc])) hD
  refine va_putF (D := G.1) (ci := 3) (v := .ref q1) (ty := tyX4 5) (C := RX4) (T := TX4) (N := 12) hx hb hts inA4 tyX4 tyX4_ok nmX4 hown hX.1 hP hD hS 0 rfl rfl 5 (by decide) (hts _ kw_85) (fun _ h9 => h9) rfl hnm rfl (tyX4_ok 5 (by decide)) rfl rfl (Nat.le_of_ble_eq_true rfl) dX4_init_22 (fun H locs hP hD hS => ?_)
  have hP : va_P G.1 vwCl ([(b, .inr (3, [.int (nI 2), .int (nI 0), .int (nI 0), .int (nI 0), .ref q0, .ref q1, .null, .int (nI 0), .int (nI 0), .int (nI 0), .int (nI 0), .null]))] ++ ([(q0, .inl (G.2 0, 12, .inl (fun _ => nI 0)))] ++ ([(q1, .inl (G.2 0, 12, .inl (fun _ => nI 0)))]))) H := hP
  have hD : va_D A ([(b, .inr (3, [.int (nI 2), .int (nI 0), .int (nI 0), .int (nI 0), .ref q0, .ref q1, .null, .int (nI 0), .int (nI 0), .int (nI 0), .int (nI 0), .null]))] ++ ([(q0, .inl (G.2 0, 12, .inl (fun _ => nI 0)))] ++ ([(q1, .inl (G.2 0, 12, .inl (fun _ => nI 0)))]))) := hD
  refine lv_aload_n hx hb dX4_init_25 rfl (lv_at hl 0 rfl) ?_
  refine lv_bipush (v := nI 12) hx hb dX4_init_26 (by decide) ?_
  refine nw_I (n := 12) hx hb (hts _ kw_55) hX hP hD hS hA (by decide) (Nat.le_of_ble_eq_true rfl) (Nat.le_of_ble_eq_true rfl) dX4_init_28 (fun q2 H hP hD hS => ?_)
  have hP : va_P G.1 vwCl ([(b, .inr (3, [.int (nI 2), .int (nI 0), .int (nI 0), .int (nI 0), .ref q0, .ref q1, .null, .int (nI 0), .int (nI 0), .int (nI 0), .int (nI 0), .null]))] ++ ([(q0, .inl (G.2 0, 12, .inl (fun _ => nI 0)))] ++ ([(q1, .inl (G.2 0, 12, .inl (fun _ => nI 0)))] ++ ([(q2, .inl (G.2 0, 12, .inl (fun _ => nI 0)))])))) H := wp_pm (List.Perm.of_eq (by simp only [List.append_assoc])) hP
  have hD : va_D A ([(b, .inr (3, [.int (nI 2), .int (nI 0), .int (nI 0), .int (nI 0), .ref q0, .ref q1, .null, .int (nI 0), .int (nI 0), .int (nI 0), .int (nI 0), .null]))] ++ ([(q0, .inl (G.2 0, 12, .inl (fun _ => nI 0)))] ++ ([(q1, .inl (G.2 0, 12, .inl (fun _ => nI 0)))] ++ ([(q2, .inl (G.2 0, 12, .inl (fun _ => nI 0)))])))) := wd_pm (List.Perm.of_eq (by simp only [List.append_assoc])) hD
  refine va_putF (D := G.1) (ci := 3) (v := .ref q2) (ty := tyX4 6) (C := RX4) (T := TX4) (N := 12) hx hb hts inA4 tyX4 tyX4_ok nmX4 hown hX.1 hP hD hS 0 rfl rfl 6 (by decide) (hts _ kw_88) (fun _ h9 => h9) rfl hnm rfl (tyX4_ok 6 (by decide)) rfl rfl (Nat.le_of_ble_eq_true rfl) dX4_init_30 (fun H locs hP hD hS => ?_)
  have hP : va_P G.1 vwCl ([(b, .inr (3, [.int (nI 2), .int (nI 0), .int (nI 0), .int (nI 0), .ref q0, .ref q1, .ref q2, .int (nI 0), .int (nI 0), .int (nI 0), .int (nI 0), .null]))] ++ ([(q0, .inl (G.2 0, 12, .inl (fun _ => nI 0)))] ++ ([(q1, .inl (G.2 0, 12, .inl (fun _ => nI 0)))] ++ ([(q2, .inl (G.2 0, 12, .inl (fun _ => nI 0)))])))) H := hP
  have hD : va_D A ([(b, .inr (3, [.int (nI 2), .int (nI 0), .int (nI 0), .int (nI 0), .ref q0, .ref q1, .ref q2, .int (nI 0), .int (nI 0), .int (nI 0), .int (nI 0), .null]))] ++ ([(q0, .inl (G.2 0, 12, .inl (fun _ => nI 0)))] ++ ([(q1, .inl (G.2 0, 12, .inl (fun _ => nI 0)))] ++ ([(q2, .inl (G.2 0, 12, .inl (fun _ => nI 0)))])))) := hD
  refine lv_aload_n hx hb dX4_init_33 rfl (lv_at hl 0 rfl) ?_
  refine lv_bipush (v := nI 7) hx hb dX4_init_34 (by decide) ?_
  refine nw_I (n := 7) hx hb (hts _ kw_55) hX hP hD hS hA (by decide) (Nat.le_of_ble_eq_true rfl) (Nat.le_of_ble_eq_true rfl) dX4_init_36 (fun q3 H hP hD hS => ?_)
  have hP : va_P G.1 vwCl ([(b, .inr (3, [.int (nI 2), .int (nI 0), .int (nI 0), .int (nI 0), .ref q0, .ref q1, .ref q2, .int (nI 0), .int (nI 0), .int (nI 0), .int (nI 0), .null]))] ++ ([(q0, .inl (G.2 0, 12, .inl (fun _ => nI 0)))] ++ ([(q1, .inl (G.2 0, 12, .inl (fun _ => nI 0)))] ++ ([(q2, .inl (G.2 0, 12, .inl (fun _ => nI 0)))] ++ ([(q3, .inl (G.2 0, 7, .inl (fun _ => nI 0)))]))))) H := wp_pm (List.Perm.of_eq (by simp only [List.append_assoc])) hP
  have hD : va_D A ([(b, .inr (3, [.int (nI 2), .int (nI 0), .int (nI 0), .int (nI 0), .ref q0, .ref q1, .ref q2, .int (nI 0), .int (nI 0), .int (nI 0), .int (nI 0), .null]))] ++ ([(q0, .inl (G.2 0, 12, .inl (fun _ => nI 0)))] ++ ([(q1, .inl (G.2 0, 12, .inl (fun _ => nI 0)))] ++ ([(q2, .inl (G.2 0, 12, .inl (fun _ => nI 0)))] ++ ([(q3, .inl (G.2 0, 7, .inl (fun _ => nI 0)))]))))) := wd_pm (List.Perm.of_eq (by simp only [List.append_assoc])) hD
  refine va_putF (D := G.1) (ci := 3) (v := .ref q3) (ty := tyX4 11) (C := RX4) (T := TX4) (N := 12) hx hb hts inA4 tyX4 tyX4_ok nmX4 hown hX.1 hP hD hS 0 rfl rfl 11 (by decide) (hts _ kw_106) (fun _ h9 => h9) rfl hnm rfl (tyX4_ok 11 (by decide)) rfl rfl (Nat.le_of_ble_eq_true rfl) dX4_init_38 (fun H locs hP hD hS => ?_)
  have hP : va_P G.1 vwCl ([(b, .inr (3, [.int (nI 2), .int (nI 0), .int (nI 0), .int (nI 0), .ref q0, .ref q1, .ref q2, .int (nI 0), .int (nI 0), .int (nI 0), .int (nI 0), .ref q3]))] ++ ([(q0, .inl (G.2 0, 12, .inl (fun _ => nI 0)))] ++ ([(q1, .inl (G.2 0, 12, .inl (fun _ => nI 0)))] ++ ([(q2, .inl (G.2 0, 12, .inl (fun _ => nI 0)))] ++ ([(q3, .inl (G.2 0, 7, .inl (fun _ => nI 0)))]))))) H := hP
  have hD : va_D A ([(b, .inr (3, [.int (nI 2), .int (nI 0), .int (nI 0), .int (nI 0), .ref q0, .ref q1, .ref q2, .int (nI 0), .int (nI 0), .int (nI 0), .int (nI 0), .ref q3]))] ++ ([(q0, .inl (G.2 0, 12, .inl (fun _ => nI 0)))] ++ ([(q1, .inl (G.2 0, 12, .inl (fun _ => nI 0)))] ++ ([(q2, .inl (G.2 0, 12, .inl (fun _ => nI 0)))] ++ ([(q3, .inl (G.2 0, 7, .inl (fun _ => nI 0)))]))))) := hD
  exact re_v hx hb hr hlocks hS (adL [b, q0, q1, q2, q3]) (show va_P G.1 vwCl (tkw G (adL [b, q0, q1, q2, q3]) tk0 rk0) H from hP) (show va_D A (tkw G (adL [b, q0, q1, q2, q3]) tk0 rk0) from hD) rfl dX4_init_41

theorem hdX6_init : hdOK yX6_init 0 := by decide +kernel
set_option maxHeartbeats 4000000 in
set_option maxRecDepth 100000 in
theorem mX6_init (l : Launch) (G : GG) (b : Nat) : Mv l yX6_init cX6_init 1 none (rmK 1 26 1 7) G [.ref b] [(b, .inr (5, [.null, .int (nI 0)]))] (fun (u : Nat → Nat) => u 0 = b) (fun (u : Nat → Nat) => wyw G u (fun _ => 0) 0) := by
  refine Mv.of (cc := cX6_init) (nL := 1) (by decide) (Nat.le_of_ble_eq_true rfl) ?_
  intro p e s m below meth c A ls F hr hlocks hnm hX hA hD hP hS hl
  have F : CallFix p m c cX6_init 1 s [.ref b].toArray wA RX6 := F
  obtain ⟨hx, hb, hml, hown, hts⟩ := id F
  have hl : lv_has ls 1 [(0, .ref b)] := hl
  refine lv_aload_n hx hb dX6_init_0 rfl (lv_at hl 0 rfl) ?_
  refine W.objInit hx hb hown (hts _ kw_163) (hts _ kw_24) (hts _ kw_25) rfl (by rw [hml]; exact hl.1) rfl dX6_init_1 (Nat.le_of_ble_eq_true rfl) (Nat.le_of_ble_eq_true rfl) ?_
  refine W.eq (g2 := F0 m 4 ls []) rfl ?_
  refine lv_aload_n hx hb dX6_init_4 rfl (lv_at hl 0 rfl) ?_
  refine lv_bipush (v := nI 7) hx hb dX6_init_5 (by decide) ?_
  refine nw_I (n := 7) hx hb (hts _ kw_55) hX hP hD hS hA (by decide) (Nat.le_of_ble_eq_true rfl) (Nat.le_of_ble_eq_true rfl) dX6_init_7 (fun q0 H hP hD hS => ?_)
  have hP : va_P G.1 vwCl ([(b, .inr (5, [.null, .int (nI 0)]))] ++ ([(q0, .inl (G.2 0, 7, .inl (fun _ => nI 0)))])) H := hP
  have hD : va_D A ([(b, .inr (5, [.null, .int (nI 0)]))] ++ ([(q0, .inl (G.2 0, 7, .inl (fun _ => nI 0)))])) := hD
  refine va_putF (D := G.1) (ci := 5) (v := .ref q0) (ty := tyX6 0) (C := RX6) (T := TX6) (N := 2) hx hb hts inA6 tyX6 tyX6_ok nmX6 hown hX.1 hP hD hS 0 rfl rfl 0 (by decide) (hts _ kw_164) (fun _ h9 => h9) rfl hnm rfl (tyX6_ok 0 (by decide)) rfl rfl (Nat.le_of_ble_eq_true rfl) dX6_init_9 (fun H locs hP hD hS => ?_)
  have hP : va_P G.1 vwCl ([(b, .inr (5, [.ref q0, .int (nI 0)]))] ++ ([(q0, .inl (G.2 0, 7, .inl (fun _ => nI 0)))])) H := hP
  have hD : va_D A ([(b, .inr (5, [.ref q0, .int (nI 0)]))] ++ ([(q0, .inl (G.2 0, 7, .inl (fun _ => nI 0)))])) := hD
  exact re_v hx hb hr hlocks hS (adL [b, q0]) (show va_P G.1 vwCl (wyw G (adL [b, q0]) (fun _ => 0) 0) H from hP) (show va_D A (wyw G (adL [b, q0]) (fun _ => 0) 0) from hD) rfl dX6_init_12

theorem hdX5_init : hdOK yX5_init 0 := by decide +kernel
set_option maxHeartbeats 4000000 in
set_option maxRecDepth 100000 in
theorem mX5_init (l : Launch) (G : GG) (b : Nat) : Mv l yX5_init cX5_init 1 none (rmK 1 26 1 120) G [.ref b] [(b, .inr (4, [.null, .int (nI 0), .int (nI 0), .int (nI 0), .int (nI 0), .int (nI 0), .int (nI 0)]))] (fun (u : Nat → Nat) => u 0 = b) (fun (u : Nat → Nat) => txw G u (fun _ => 0) (fun _ => 0)) := by
  refine Mv.of (cc := cX5_init) (nL := 1) (by decide) (Nat.le_of_ble_eq_true rfl) ?_
  intro p e s m below meth c A ls F hr hlocks hnm hX hA hD hP hS hl
  have F : CallFix p m c cX5_init 1 s [.ref b].toArray wA RX5 := F
  obtain ⟨hx, hb, hml, hown, hts⟩ := id F
  have hl : lv_has ls 1 [(0, .ref b)] := hl
  refine lv_aload_n hx hb dX5_init_0 rfl (lv_at hl 0 rfl) ?_
  refine W.objInit hx hb hown (hts _ kw_31) (hts _ kw_24) (hts _ kw_25) rfl (by rw [hml]; exact hl.1) rfl dX5_init_1 (Nat.le_of_ble_eq_true rfl) (Nat.le_of_ble_eq_true rfl) ?_
  refine W.eq (g2 := F0 m 4 ls []) rfl ?_
  refine lv_aload_n hx hb dX5_init_4 rfl (lv_at hl 0 rfl) ?_
  refine lv_bipush (v := nI 120) hx hb dX5_init_5 (by decide) ?_
  refine nw_I (n := 120) hx hb (hts _ kw_55) hX hP hD hS hA (by decide) (Nat.le_of_ble_eq_true rfl) (Nat.le_of_ble_eq_true rfl) dX5_init_7 (fun q0 H hP hD hS => ?_)
  have hP : va_P G.1 vwCl ([(b, .inr (4, [.null, .int (nI 0), .int (nI 0), .int (nI 0), .int (nI 0), .int (nI 0), .int (nI 0)]))] ++ ([(q0, .inl (G.2 0, 120, .inl (fun _ => nI 0)))])) H := hP
  have hD : va_D A ([(b, .inr (4, [.null, .int (nI 0), .int (nI 0), .int (nI 0), .int (nI 0), .int (nI 0), .int (nI 0)]))] ++ ([(q0, .inl (G.2 0, 120, .inl (fun _ => nI 0)))])) := hD
  refine va_putF (D := G.1) (ci := 4) (v := .ref q0) (ty := tyX5 0) (C := RX5) (T := TX5) (N := 7) hx hb hts inA5 tyX5 tyX5_ok nmX5 hown hX.1 hP hD hS 0 rfl rfl 0 (by decide) (hts _ kw_32) (fun _ h9 => h9) rfl hnm rfl (tyX5_ok 0 (by decide)) rfl rfl (Nat.le_of_ble_eq_true rfl) dX5_init_9 (fun H locs hP hD hS => ?_)
  have hP : va_P G.1 vwCl ([(b, .inr (4, [.ref q0, .int (nI 0), .int (nI 0), .int (nI 0), .int (nI 0), .int (nI 0), .int (nI 0)]))] ++ ([(q0, .inl (G.2 0, 120, .inl (fun _ => nI 0)))])) H := hP
  have hD : va_D A ([(b, .inr (4, [.ref q0, .int (nI 0), .int (nI 0), .int (nI 0), .int (nI 0), .int (nI 0), .int (nI 0)]))] ++ ([(q0, .inl (G.2 0, 120, .inl (fun _ => nI 0)))])) := hD
  exact re_v hx hb hr hlocks hS (adL [b, q0]) (show va_P G.1 vwCl (txw G (adL [b, q0]) (fun _ => 0) (fun _ => 0)) H from hP) (show va_D A (txw G (adL [b, q0]) (fun _ => 0) (fun _ => 0)) from hD) rfl dX5_init_12

theorem hdX3_init : hdOK yX3_init 0 := by decide +kernel
set_option maxHeartbeats 4000000 in
set_option maxRecDepth 100000 in
theorem mX3_init (l : Launch) (G : GG) (b : Nat) : Mv l yX3_init cX3_init 1 none (rmK 1 26 2 12) G [.ref b] [(b, .inr (2, [.null, .null, .int (nI 0)]))] (fun (u : Nat → Nat) => u 0 = b) (fun (u : Nat → Nat) => sgw G u (fun _ => 0) (fun _ => nI 0) 0) := by
  refine Mv.of (cc := cX3_init) (nL := 1) (by decide) (Nat.le_of_ble_eq_true rfl) ?_
  intro p e s m below meth c A ls F hr hlocks hnm hX hA hD hP hS hl
  have F : CallFix p m c cX3_init 1 s [.ref b].toArray wA RX3 := F
  obtain ⟨hx, hb, hml, hown, hts⟩ := id F
  have hl : lv_has ls 1 [(0, .ref b)] := hl
  refine lv_aload_n hx hb dX3_init_0 rfl (lv_at hl 0 rfl) ?_
  refine W.objInit hx hb hown (hts _ kw_182) (hts _ kw_24) (hts _ kw_25) rfl (by rw [hml]; exact hl.1) rfl dX3_init_1 (Nat.le_of_ble_eq_true rfl) (Nat.le_of_ble_eq_true rfl) ?_
  refine W.eq (g2 := F0 m 4 ls []) rfl ?_
  refine lv_aload_n hx hb dX3_init_4 rfl (lv_at hl 0 rfl) ?_
  refine lv_bipush (v := nI 6) hx hb dX3_init_5 (by decide) ?_
  refine nw_I (n := 6) hx hb (hts _ kw_55) hX hP hD hS hA (by decide) (Nat.le_of_ble_eq_true rfl) (Nat.le_of_ble_eq_true rfl) dX3_init_7 (fun q0 H hP hD hS => ?_)
  have hP : va_P G.1 vwCl ([(b, .inr (2, [.null, .null, .int (nI 0)]))] ++ ([(q0, .inl (G.2 0, 6, .inl (fun _ => nI 0)))])) H := hP
  have hD : va_D A ([(b, .inr (2, [.null, .null, .int (nI 0)]))] ++ ([(q0, .inl (G.2 0, 6, .inl (fun _ => nI 0)))])) := hD
  refine va_putF (D := G.1) (ci := 2) (v := .ref q0) (ty := tyX3 0) (C := RX3) (T := TX3) (N := 3) hx hb hts inA3 tyX3 tyX3_ok nmX3 hown hX.1 hP hD hS 0 rfl rfl 0 (by decide) (hts _ kw_183) (fun _ h9 => h9) rfl hnm rfl (tyX3_ok 0 (by decide)) rfl rfl (Nat.le_of_ble_eq_true rfl) dX3_init_9 (fun H locs hP hD hS => ?_)
  have hP : va_P G.1 vwCl ([(b, .inr (2, [.ref q0, .null, .int (nI 0)]))] ++ ([(q0, .inl (G.2 0, 6, .inl (fun _ => nI 0)))])) H := hP
  have hD : va_D A ([(b, .inr (2, [.ref q0, .null, .int (nI 0)]))] ++ ([(q0, .inl (G.2 0, 6, .inl (fun _ => nI 0)))])) := hD
  refine lv_aload_n hx hb dX3_init_12 rfl (lv_at hl 0 rfl) ?_
  refine lv_bipush (v := nI 6) hx hb dX3_init_13 (by decide) ?_
  refine nw_I (n := 6) hx hb (hts _ kw_55) hX hP hD hS hA (by decide) (Nat.le_of_ble_eq_true rfl) (Nat.le_of_ble_eq_true rfl) dX3_init_15 (fun q1 H hP hD hS => ?_)
  have hP : va_P G.1 vwCl ([(b, .inr (2, [.ref q0, .null, .int (nI 0)]))] ++ ([(q0, .inl (G.2 0, 6, .inl (fun _ => nI 0)))] ++ ([(q1, .inl (G.2 0, 6, .inl (fun _ => nI 0)))]))) H := wp_pm (List.Perm.of_eq (by simp only [List.append_assoc])) hP
  have hD : va_D A ([(b, .inr (2, [.ref q0, .null, .int (nI 0)]))] ++ ([(q0, .inl (G.2 0, 6, .inl (fun _ => nI 0)))] ++ ([(q1, .inl (G.2 0, 6, .inl (fun _ => nI 0)))]))) := wd_pm (List.Perm.of_eq (by simp only [List.append_assoc])) hD
  refine va_putF (D := G.1) (ci := 2) (v := .ref q1) (ty := tyX3 1) (C := RX3) (T := TX3) (N := 3) hx hb hts inA3 tyX3 tyX3_ok nmX3 hown hX.1 hP hD hS 0 rfl rfl 1 (by decide) (hts _ kw_184) (fun _ h9 => h9) rfl hnm rfl (tyX3_ok 1 (by decide)) rfl rfl (Nat.le_of_ble_eq_true rfl) dX3_init_17 (fun H locs hP hD hS => ?_)
  have hP : va_P G.1 vwCl ([(b, .inr (2, [.ref q0, .ref q1, .int (nI 0)]))] ++ ([(q0, .inl (G.2 0, 6, .inl (fun _ => nI 0)))] ++ ([(q1, .inl (G.2 0, 6, .inl (fun _ => nI 0)))]))) H := hP
  have hD : va_D A ([(b, .inr (2, [.ref q0, .ref q1, .int (nI 0)]))] ++ ([(q0, .inl (G.2 0, 6, .inl (fun _ => nI 0)))] ++ ([(q1, .inl (G.2 0, 6, .inl (fun _ => nI 0)))]))) := hD
  exact re_v hx hb hr hlocks hS (adL [b, q0, q1]) (show va_P G.1 vwCl (sgw G (adL [b, q0, q1]) (fun _ => 0) (fun _ => nI 0) 0) H from hP) (show va_D A (sgw G (adL [b, q0, q1]) (fun _ => 0) (fun _ => nI 0) 0) from hD) rfl dX3_init_20

