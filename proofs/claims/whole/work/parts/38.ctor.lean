theorem hdX4_init : hdOK yX4_init 0 := by decide +kernel
set_option maxHeartbeats 4000000 in
set_option maxRecDepth 100000 in
theorem mX4_init (l : Launch) (G : GG) (b : Nat) : Mv l yX4_init cX4_init 1 none (rmK 1 26 4 43) G [.ref b] [(b, .inr (3, [.int (nI 0), .int (nI 0), .int (nI 0), .int (nI 0), .null, .null, .null, .int (nI 0), .int (nI 0), .int (nI 0), .int (nI 0), .null]))] (fun (u : Nat → Nat) => u 0 = b) (fun (u : Nat → Nat) => tkw G u tk0 rk0) := by
  refine Mv.of (cc := cX4_init) (nL := 1) (by decide) (Nat.le_of_ble_eq_true rfl) ?_
  intro p e s m below meth c A ls F hr hlocks hnm hX hA hD hP hS hl
  have F : CallFix p m c cX4_init 1 s [.ref b].toArray wA RX4 := F
  obtain ⟨hx, hb, hml, hown, hts⟩ := id F
  have hl : lv_has ls 1 [(0, .ref b)] := hl
  refine lv_aload_n hx hb dX4_init_0 rfl (lv_at hl 0 rfl) ?_
  refine W.objInit hx hb hown (hts _ kw_61) (hts _ kw_24) (hts _ kw_25) rfl (by rw [hml]; exact hl.1) rfl dX4_init_1 (Nat.le_of_ble_eq_true rfl) (Nat.le_of_ble_eq_true rfl) ?_
  refine W.eq (g2 := F0 m 4 ls []) rfl ?_
  refine lv_aload_n hx hb dX4_init_4 rfl (lv_at hl 0 rfl) ?_
  refine lv_iconst (v := nI 2) hx hb dX4_init_5 (by decide) ?_
  refine va_put (D := G.1) (ci := 3) (v := .int (nI 2)) (ty := .int) (C := RX4) (T := TX4) (N := 12) hx hb hts inA4 tyX4 tyX4_ok nmX4 hown hX.1 hP hD hS 0 rfl rfl 0 (by decide) (hts _ kw_62) (fun _ h9 => h9) rfl (by decide +kernel) rfl rfl (Nat.le_of_ble_eq_true rfl) dX4_init_6 (fun H locs hP hD hS => ?_)
  have hP : va_P G.1 vwCl ([(b, .inr (3, [.int (nI 2), .int (nI 0), .int (nI 0), .int (nI 0), .null, .null, .null, .int (nI 0), .int (nI 0), .int (nI 0), .int (nI 0), .null]))]) H := hP
  have hD : va_D A ([(b, .inr (3, [.int (nI 2), .int (nI 0), .int (nI 0), .int (nI 0), .null, .null, .null, .int (nI 0), .int (nI 0), .int (nI 0), .int (nI 0), .null]))]) := hD
  refine lv_aload_n hx hb dX4_init_9 rfl (lv_at hl 0 rfl) ?_
  refine lv_bipush (v := nI 12) hx hb dX4_init_10 (by decide) ?_
  refine nw_I (n := 12) hx hb (hts _ kw_55) hX hP hD hS hA (by decide) (Nat.le_of_ble_eq_true rfl) (Nat.le_of_ble_eq_true rfl) dX4_init_12 (fun q0 H hP hD hS => ?_)
  have hP : va_P G.1 vwCl ([(b, .inr (3, [.int (nI 2), .int (nI 0), .int (nI 0), .int (nI 0), .null, .null, .null, .int (nI 0), .int (nI 0), .int (nI 0), .int (nI 0), .null]))] ++ ([(q0, .inl (G.2 0, 12, .inl (fun _ => nI 0)))])) H := hP
  have hD : va_D A ([(b, .inr (3, [.int (nI 2), .int (nI 0), .int (nI 0), .int (nI 0), .null, .null, .null, .int (nI 0), .int (nI 0), .int (nI 0), .int (nI 0), .null]))] ++ ([(q0, .inl (G.2 0, 12, .inl (fun _ => nI 0)))])) := hD
  refine va_putF (D := G.1) (ci := 3) (v := .ref q0) (ty := tyX4 4) (C := RX4) (T := TX4) (N := 12) hx hb hts inA4 tyX4 tyX4_ok nmX4 hown hX.1 hP hD hS 0 rfl rfl 4 (by decide) (hts _ kw_82) (fun _ h9 => h9) rfl hnm rfl (tyX4_ok 4 (by decide)) rfl rfl (Nat.le_of_ble_eq_true rfl) dX4_init_14 (fun H locs hP hD hS => ?_)
  have hP : va_P G.1 vwCl ([(b, .inr (3, [.int (nI 2), .int (nI 0), .int (nI 0), .int (nI 0), .ref q0, .null, .null, .int (nI 0), .int (nI 0), .int (nI 0), .int (nI 0), .null]))] ++ ([(q0, .inl (G.2 0, 12, .inl (fun _ => nI 0)))])) H := hP
  have hD : va_D A ([(b, .inr (3, [.int (nI 2), .int (nI 0), .int (nI 0), .int (nI 0), .ref q0, .null, .null, .int (nI 0), .int (nI 0), .int (nI 0), .int (nI 0), .null]))] ++ ([(q0, .inl (G.2 0, 12, .inl (fun _ => nI 0)))])) := hD
  refine lv_aload_n hx hb dX4_init_17 rfl (lv_at hl 0 rfl) ?_
  refine lv_bipush (v := nI 12) hx hb dX4_init_18 (by decide) ?_
  refine nw_I (n := 12) hx hb (hts _ kw_55) hX hP hD hS hA (by decide) (Nat.le_of_ble_eq_true rfl) (Nat.le_of_ble_eq_true rfl) dX4_init_20 (fun q1 H hP hD hS => ?_)
  have hP : va_P G.1 vwCl ([(b, .inr (3, [.int (nI 2), .int (nI 0), .int (nI 0), .int (nI 0), .ref q0, .null, .null, .int (nI 0), .int (nI 0), .int (nI 0), .int (nI 0), .null]))] ++ ([(q0, .inl (G.2 0, 12, .inl (fun _ => nI 0)))] ++ ([(q1, .inl (G.2 0, 12, .inl (fun _ => nI 0)))]))) H := wp_pm (List.Perm.of_eq (by simp only [List.append_assoc])) hP
  have hD : va_D A ([(b, .inr (3, [.int (nI 2), .int (nI 0), .int (nI 0), .int (nI 0), .ref q0, .null, .null, .int (nI 0), .int (nI 0), .int (nI 0), .int (nI 0), .null]))] ++ ([(q0, .inl (G.2 0, 12, .inl (fun _ => nI 0)))] ++ ([(q1, .inl (G.2 0, 12, .inl (fun _ => nI 0)))]))) := wd_pm (List.Perm.of_eq (by simp only [List.append_assoc])) hD
  refine va_putF (D := G.1) (ci := 3) (v := .ref q1) (ty := tyX4 5) (C := RX4) (T := TX4) (N := 12) hx hb hts inA4 tyX4 tyX4_ok nmX4 hown hX.1 hP hD hS 0 rfl rfl 5 (by decide) (hts _ kw_85) (fun _ h9 => h9) rfl hnm rfl (tyX4_ok 5 (by decide)) rfl rfl (Nat.le_of_ble_eq_true rfl) dX4_init_22 (fun H locs hP hD hS => ?_)
  have hP : va_P G.1 vwCl ([(b, .inr (3, [.int (nI 2), .int (nI 0), .int (nI 0), .int (nI 0), .ref q0, .ref q1, .null, .int (nI 0), .int (nI 0), .int (nI 0), .int (nI 0), .null]))] ++ ([(q0, .inl (G.2 0, 12, .inl (fun _ => nI 0)))] ++ ([(q1, .inl (G.2 0, 12, .inl (fun _ => nI 0)))]))) H := hP
  have hD : va_D A ([(b, .inr (3, [.int (nI 2), .int (nI 0), .int (nI 0), .int (nI 0), .ref q0, .ref q1, .null, .int (nI 0), .int (nI 0), .int (nI 0), .int (nI 0), .null]))] ++ ([(q0, .inl (G.2 0, 12, .inl (fun _ => nI 0)))] ++ ([(q1, .inl (G.2 0, 12, .inl (fun _ => nI 0)))]))) := hD
  refine lv_aload_n hx hb dX4_init_25 rfl (lv_at hl 0 rfl) ?_
  refine lv_bipush (v := nI 12) hx hb dX4_init_26 (by decide) ?_
  refine nw_I (n := 12) hx hb (hts _ kw_55) hX hP hD hS hA (by decide) (Nat.le_of_ble_eq_true rfl) (Nat.le_of_ble_eq_true rfl) dX4_init_28 (fun q2 H hP hD hS => ?_)
  have hP : va_P G.1 vwCl ([(b, .inr (3, [.int (nI 2), .int (nI 0), .int (nI 0), .int (nI 0), .ref q0, .ref q1, .null, .int (nI 0), .int (nI 0), .int (nI 0), .int (nI 0), .null]))] ++ ([(q0, .inl (G.2 0, 12, .inl (fun _ => nI 0)))] ++ ([(q1, .inl (G.2 0, 12, .inl (fun _ => nI 0)))] ++ ([(q2, .inl (G.2 0, 12, .inl (fun _ => nI 0)))])))) H := wp_pm (List.Perm.of_eq (by simp only [List.append_assoc])) hP
  have hD : va_D A ([(b, .inr (3, [.int (nI 2), .int (nI 0), .int (nI 0), .int (nI 0), .ref q0, .ref q1, .null, .int (nI 0), .int (nI 0), .int (nI 0), .int (nI 0), .null]))] ++ ([(q0, .inl (G.2 0, 12, .inl (fun _ => nI 0)))] ++ ([(q1, .inl (G.2 0, 12, .inl (fun _ => nI 0)))] ++ ([(q2, .inl (G.2 0, 12, .inl (fun _ => nI 0)))])))) := wd_pm (List.Perm.of_eq (by simp only [List.append_assoc])) hD
  refine va_putF (D := G.1) (ci := 3) (v := .ref q2) (ty := tyX4 6) (C := RX4) (T := TX4) (N := 12) hx hb hts inA4 tyX4 tyX4_ok nmX4 hown hX.1 hP hD hS 0 rfl rfl 6 (by decide) (hts _ kw_88) (fun _ h9 => h9) rfl hnm rfl (tyX4_ok 6 (by decide)) rfl rfl (Nat.le_of_ble_eq_true rfl) dX4_init_30 (fun H locs hP hD hS => ?_)
  have hP : va_P G.1 vwCl ([(b, .inr (3, [.int (nI 2), .int (nI 0), .int (nI 0), .int (nI 0), .ref q0, .ref q1, .ref q2, .int (nI 0), .int (nI 0), .int (nI 0), .int (nI 0), .null]))] ++ ([(q0, .inl (G.2 0, 12, .inl (fun _ => nI 0)))] ++ ([(q1, .inl (G.2 0, 12, .inl (fun _ => nI 0)))] ++ ([(q2, .inl (G.2 0, 12, .inl (fun _ => nI 0)))])))) H := hP
  have hD : va_D A ([(b, .inr (3, [.int (nI 2), .int (nI 0), .int (nI 0), .int (nI 0), .ref q0, .ref q1, .ref q2, .int (nI 0), .int (nI 0), .int (nI 0), .int (nI 0), .null]))] ++ ([(q0, .inl (G.2 0, 12, .inl (fun _ => nI 0)))] ++ ([(q1, .inl (G.2 0, 12, .inl (fun _ => nI 0)))] ++ ([(q2, .inl (G.2 0, 12, .inl (fun _ => nI 0)))])))) := hD
  refine lv_aload_n hx hb dX4_init_33 rfl (lv_at hl 0 rfl) ?_
  refine lv_bipush (v := nI 7) hx hb dX4_init_34 (by decide) ?_
  refine nw_I (n := 7) hx hb (hts _ kw_55) hX hP hD hS hA (by decide) (Nat.le_of_ble_eq_true rfl) (Nat.le_of_ble_eq_true rfl) dX4_init_36 (fun q3 H hP hD hS => ?_)
  have hP : va_P G.1 vwCl ([(b, .inr (3, [.int (nI 2), .int (nI 0), .int (nI 0), .int (nI 0), .ref q0, .ref q1, .ref q2, .int (nI 0), .int (nI 0), .int (nI 0), .int (nI 0), .null]))] ++ ([(q0, .inl (G.2 0, 12, .inl (fun _ => nI 0)))] ++ ([(q1, .inl (G.2 0, 12, .inl (fun _ => nI 0)))] ++ ([(q2, .inl (G.2 0, 12, .inl (fun _ => nI 0)))] ++ ([(q3, .inl (G.2 0, 7, .inl (fun _ => nI 0)))]))))) H := wp_pm (List.Perm.of_eq (by simp only [List.append_assoc])) hP
  have hD : va_D A ([(b, .inr (3, [.int (nI 2), .int (nI 0), .int (nI 0), .int (nI 0), .ref q0, .ref q1, .ref q2, .int (nI 0), .int (nI 0), .int (nI 0), .int (nI 0), .null]))] ++ ([(q0, .inl (G.2 0, 12, .inl (fun _ => nI 0)))] ++ ([(q1, .inl (G.2 0, 12, .inl (fun _ => nI 0)))] ++ ([(q2, .inl (G.2 0, 12, .inl (fun _ => nI 0)))] ++ ([(q3, .inl (G.2 0, 7, .inl (fun _ => nI 0)))]))))) := wd_pm (List.Perm.of_eq (by simp only [List.append_assoc])) hD
  refine va_putF (D := G.1) (ci := 3) (v := .ref q3) (ty := tyX4 11) (C := RX4) (T := TX4) (N := 12) hx hb hts inA4 tyX4 tyX4_ok nmX4 hown hX.1 hP hD hS 0 rfl rfl 11 (by decide) (hts _ kw_106) (fun _ h9 => h9) rfl hnm rfl (tyX4_ok 11 (by decide)) rfl rfl (Nat.le_of_ble_eq_true rfl) dX4_init_38 (fun H locs hP hD hS => ?_)
  have hP : va_P G.1 vwCl ([(b, .inr (3, [.int (nI 2), .int (nI 0), .int (nI 0), .int (nI 0), .ref q0, .ref q1, .ref q2, .int (nI 0), .int (nI 0), .int (nI 0), .int (nI 0), .ref q3]))] ++ ([(q0, .inl (G.2 0, 12, .inl (fun _ => nI 0)))] ++ ([(q1, .inl (G.2 0, 12, .inl (fun _ => nI 0)))] ++ ([(q2, .inl (G.2 0, 12, .inl (fun _ => nI 0)))] ++ ([(q3, .inl (G.2 0, 7, .inl (fun _ => nI 0)))]))))) H := hP
  have hD : va_D A ([(b, .inr (3, [.int (nI 2), .int (nI 0), .int (nI 0), .int (nI 0), .ref q0, .ref q1, .ref q2, .int (nI 0), .int (nI 0), .int (nI 0), .int (nI 0), .ref q3]))] ++ ([(q0, .inl (G.2 0, 12, .inl (fun _ => nI 0)))] ++ ([(q1, .inl (G.2 0, 12, .inl (fun _ => nI 0)))] ++ ([(q2, .inl (G.2 0, 12, .inl (fun _ => nI 0)))] ++ ([(q3, .inl (G.2 0, 7, .inl (fun _ => nI 0)))]))))) := hD
  exact re_v hx hb hr hlocks hS (adL [b, q0, q1, q2, q3]) (show va_P G.1 vwCl (tkw G (adL [b, q0, q1, q2, q3]) tk0 rk0) H from hP) (show va_D A (tkw G (adL [b, q0, q1, q2, q3]) tk0 rk0) from hD) rfl dX4_init_41

theorem hdX6_init : hdOK yX6_init 0 := by decide +kernel
set_option maxHeartbeats 4000000 in
set_option maxRecDepth 100000 in
theorem mX6_init (l : Launch) (G : GG) (b : Nat) : Mv l yX6_init cX6_init 1 none (rmK 1 26 1 7) G [.ref b] [(b, .inr (5, [.null, .int (nI 0)]))] (fun (u : Nat → Nat) => u 0 = b) (fun (u : Nat → Nat) => wyw G u (fun _ => 0) 0) := by
  refine Mv.of (cc := cX6_init) (nL := 1) (by decide) (Nat.le_of_ble_eq_true rfl) ?_
  intro p e s m below meth c A ls F hr hlocks hnm hX hA hD hP hS hl
  have F : CallFix p m c cX6_init 1 s [.ref b].toArray wA RX6 := F
  obtain ⟨hx, hb, hml, hown, hts⟩ := id F
  have hl : lv_has ls 1 [(0, .ref b)] := hl
  refine lv_aload_n hx hb dX6_init_0 rfl (lv_at hl 0 rfl) ?_
  refine W.objInit hx hb hown (hts _ kw_163) (hts _ kw_24) (hts _ kw_25) rfl (by rw [hml]; exact hl.1) rfl dX6_init_1 (Nat.le_of_ble_eq_true rfl) (Nat.le_of_ble_eq_true rfl) ?_
  refine W.eq (g2 := F0 m 4 ls []) rfl ?_
  refine lv_aload_n hx hb dX6_init_4 rfl (lv_at hl 0 rfl) ?_
  refine lv_bipush (v := nI 7) hx hb dX6_init_5 (by decide) ?_
  refine nw_I (n := 7) hx hb (hts _ kw_55) hX hP hD hS hA (by decide) (Nat.le_of_ble_eq_true rfl) (Nat.le_of_ble_eq_true rfl) dX6_init_7 (fun q0 H hP hD hS => ?_)
  have hP : va_P G.1 vwCl ([(b, .inr (5, [.null, .int (nI 0)]))] ++ ([(q0, .inl (G.2 0, 7, .inl (fun _ => nI 0)))])) H := hP
  have hD : va_D A ([(b, .inr (5, [.null, .int (nI 0)]))] ++ ([(q0, .inl (G.2 0, 7, .inl (fun _ => nI 0)))])) := hD
  refine va_putF (D := G.1) (ci := 5) (v := .ref q0) (ty := tyX6 0) (C := RX6) (T := TX6) (N := 2) hx hb hts inA6 tyX6 tyX6_ok nmX6 hown hX.1 hP hD hS 0 rfl rfl 0 (by decide) (hts _ kw_164) (fun _ h9 => h9) rfl hnm rfl (tyX6_ok 0 (by decide)) rfl rfl (Nat.le_of_ble_eq_true rfl) dX6_init_9 (fun H locs hP hD hS => ?_)
  have hP : va_P G.1 vwCl ([(b, .inr (5, [.ref q0, .int (nI 0)]))] ++ ([(q0, .inl (G.2 0, 7, .inl (fun _ => nI 0)))])) H := hP
  have hD : va_D A ([(b, .inr (5, [.ref q0, .int (nI 0)]))] ++ ([(q0, .inl (G.2 0, 7, .inl (fun _ => nI 0)))])) := hD
  exact re_v hx hb hr hlocks hS (adL [b, q0]) (show va_P G.1 vwCl (wyw G (adL [b, q0]) (fun _ => 0) 0) H from hP) (show va_D A (wyw G (adL [b, q0]) (fun _ => 0) 0) from hD) rfl dX6_init_12

theorem hdX5_init : hdOK yX5_init 0 := by decide +kernel
set_option maxHeartbeats 4000000 in
set_option maxRecDepth 100000 in
theorem mX5_init (l : Launch) (G : GG) (b : Nat) : Mv l yX5_init cX5_init 1 none (rmK 1 26 1 120) G [.ref b] [(b, .inr (4, [.null, .int (nI 0), .int (nI 0), .int (nI 0), .int (nI 0), .int (nI 0), .int (nI 0)]))] (fun (u : Nat → Nat) => u 0 = b) (fun (u : Nat → Nat) => txw G u (fun _ => 0) (fun _ => 0)) := by
  refine Mv.of (cc := cX5_init) (nL := 1) (by decide) (Nat.le_of_ble_eq_true rfl) ?_
  intro p e s m below meth c A ls F hr hlocks hnm hX hA hD hP hS hl
  have F : CallFix p m c cX5_init 1 s [.ref b].toArray wA RX5 := F
  obtain ⟨hx, hb, hml, hown, hts⟩ := id F
  have hl : lv_has ls 1 [(0, .ref b)] := hl
  refine lv_aload_n hx hb dX5_init_0 rfl (lv_at hl 0 rfl) ?_
  refine W.objInit hx hb hown (hts _ kw_31) (hts _ kw_24) (hts _ kw_25) rfl (by rw [hml]; exact hl.1) rfl dX5_init_1 (Nat.le_of_ble_eq_true rfl) (Nat.le_of_ble_eq_true rfl) ?_
  refine W.eq (g2 := F0 m 4 ls []) rfl ?_
  refine lv_aload_n hx hb dX5_init_4 rfl (lv_at hl 0 rfl) ?_
  refine lv_bipush (v := nI 120) hx hb dX5_init_5 (by decide) ?_
  refine nw_I (n := 120) hx hb (hts _ kw_55) hX hP hD hS hA (by decide) (Nat.le_of_ble_eq_true rfl) (Nat.le_of_ble_eq_true rfl) dX5_init_7 (fun q0 H hP hD hS => ?_)
  have hP : va_P G.1 vwCl ([(b, .inr (4, [.null, .int (nI 0), .int (nI 0), .int (nI 0), .int (nI 0), .int (nI 0), .int (nI 0)]))] ++ ([(q0, .inl (G.2 0, 120, .inl (fun _ => nI 0)))])) H := hP
  have hD : va_D A ([(b, .inr (4, [.null, .int (nI 0), .int (nI 0), .int (nI 0), .int (nI 0), .int (nI 0), .int (nI 0)]))] ++ ([(q0, .inl (G.2 0, 120, .inl (fun _ => nI 0)))])) := hD
  refine va_putF (D := G.1) (ci := 4) (v := .ref q0) (ty := tyX5 0) (C := RX5) (T := TX5) (N := 7) hx hb hts inA5 tyX5 tyX5_ok nmX5 hown hX.1 hP hD hS 0 rfl rfl 0 (by decide) (hts _ kw_32) (fun _ h9 => h9) rfl hnm rfl (tyX5_ok 0 (by decide)) rfl rfl (Nat.le_of_ble_eq_true rfl) dX5_init_9 (fun H locs hP hD hS => ?_)
  have hP : va_P G.1 vwCl ([(b, .inr (4, [.ref q0, .int (nI 0), .int (nI 0), .int (nI 0), .int (nI 0), .int (nI 0), .int (nI 0)]))] ++ ([(q0, .inl (G.2 0, 120, .inl (fun _ => nI 0)))])) H := hP
  have hD : va_D A ([(b, .inr (4, [.ref q0, .int (nI 0), .int (nI 0), .int (nI 0), .int (nI 0), .int (nI 0), .int (nI 0)]))] ++ ([(q0, .inl (G.2 0, 120, .inl (fun _ => nI 0)))])) := hD
  exact re_v hx hb hr hlocks hS (adL [b, q0]) (show va_P G.1 vwCl (txw G (adL [b, q0]) (fun _ => 0) (fun _ => 0)) H from hP) (show va_D A (txw G (adL [b, q0]) (fun _ => 0) (fun _ => 0)) from hD) rfl dX5_init_12

theorem hdX3_init : hdOK yX3_init 0 := by decide +kernel
set_option maxHeartbeats 4000000 in
set_option maxRecDepth 100000 in
theorem mX3_init (l : Launch) (G : GG) (b : Nat) : Mv l yX3_init cX3_init 1 none (rmK 1 26 2 12) G [.ref b] [(b, .inr (2, [.null, .null, .int (nI 0)]))] (fun (u : Nat → Nat) => u 0 = b) (fun (u : Nat → Nat) => sgw G u (fun _ => 0) (fun _ => nI 0) 0) := by
  refine Mv.of (cc := cX3_init) (nL := 1) (by decide) (Nat.le_of_ble_eq_true rfl) ?_
  intro p e s m below meth c A ls F hr hlocks hnm hX hA hD hP hS hl
  have F : CallFix p m c cX3_init 1 s [.ref b].toArray wA RX3 := F
  obtain ⟨hx, hb, hml, hown, hts⟩ := id F
  have hl : lv_has ls 1 [(0, .ref b)] := hl
  refine lv_aload_n hx hb dX3_init_0 rfl (lv_at hl 0 rfl) ?_
  refine W.objInit hx hb hown (hts _ kw_182) (hts _ kw_24) (hts _ kw_25) rfl (by rw [hml]; exact hl.1) rfl dX3_init_1 (Nat.le_of_ble_eq_true rfl) (Nat.le_of_ble_eq_true rfl) ?_
  refine W.eq (g2 := F0 m 4 ls []) rfl ?_
  refine lv_aload_n hx hb dX3_init_4 rfl (lv_at hl 0 rfl) ?_
  refine lv_bipush (v := nI 6) hx hb dX3_init_5 (by decide) ?_
  refine nw_I (n := 6) hx hb (hts _ kw_55) hX hP hD hS hA (by decide) (Nat.le_of_ble_eq_true rfl) (Nat.le_of_ble_eq_true rfl) dX3_init_7 (fun q0 H hP hD hS => ?_)
  have hP : va_P G.1 vwCl ([(b, .inr (2, [.null, .null, .int (nI 0)]))] ++ ([(q0, .inl (G.2 0, 6, .inl (fun _ => nI 0)))])) H := hP
  have hD : va_D A ([(b, .inr (2, [.null, .null, .int (nI 0)]))] ++ ([(q0, .inl (G.2 0, 6, .inl (fun _ => nI 0)))])) := hD
  refine va_putF (D := G.1) (ci := 2) (v := .ref q0) (ty := tyX3 0) (C := RX3) (T := TX3) (N := 3) hx hb hts inA3 tyX3 tyX3_ok nmX3 hown hX.1 hP hD hS 0 rfl rfl 0 (by decide) (hts _ kw_183) (fun _ h9 => h9) rfl hnm rfl (tyX3_ok 0 (by decide)) rfl rfl (Nat.le_of_ble_eq_true rfl) dX3_init_9 (fun H locs hP hD hS => ?_)
  have hP : va_P G.1 vwCl ([(b, .inr (2, [.ref q0, .null, .int (nI 0)]))] ++ ([(q0, .inl (G.2 0, 6, .inl (fun _ => nI 0)))])) H := hP
  have hD : va_D A ([(b, .inr (2, [.ref q0, .null, .int (nI 0)]))] ++ ([(q0, .inl (G.2 0, 6, .inl (fun _ => nI 0)))])) := hD
  refine lv_aload_n hx hb dX3_init_12 rfl (lv_at hl 0 rfl) ?_
  refine lv_bipush (v := nI 6) hx hb dX3_init_13 (by decide) ?_
  refine nw_I (n := 6) hx hb (hts _ kw_55) hX hP hD hS hA (by decide) (Nat.le_of_ble_eq_true rfl) (Nat.le_of_ble_eq_true rfl) dX3_init_15 (fun q1 H hP hD hS => ?_)
  have hP : va_P G.1 vwCl ([(b, .inr (2, [.ref q0, .null, .int (nI 0)]))] ++ ([(q0, .inl (G.2 0, 6, .inl (fun _ => nI 0)))] ++ ([(q1, .inl (G.2 0, 6, .inl (fun _ => nI 0)))]))) H := wp_pm (List.Perm.of_eq (by simp only [List.append_assoc])) hP
  have hD : va_D A ([(b, .inr (2, [.ref q0, .null, .int (nI 0)]))] ++ ([(q0, .inl (G.2 0, 6, .inl (fun _ => nI 0)))] ++ ([(q1, .inl (G.2 0, 6, .inl (fun _ => nI 0)))]))) := wd_pm (List.Perm.of_eq (by simp only [List.append_assoc])) hD
  refine va_putF (D := G.1) (ci := 2) (v := .ref q1) (ty := tyX3 1) (C := RX3) (T := TX3) (N := 3) hx hb hts inA3 tyX3 tyX3_ok nmX3 hown hX.1 hP hD hS 0 rfl rfl 1 (by decide) (hts _ kw_184) (fun _ h9 => h9) rfl hnm rfl (tyX3_ok 1 (by decide)) rfl rfl (Nat.le_of_ble_eq_true rfl) dX3_init_17 (fun H locs hP hD hS => ?_)
  have hP : va_P G.1 vwCl ([(b, .inr (2, [.ref q0, .ref q1, .int (nI 0)]))] ++ ([(q0, .inl (G.2 0, 6, .inl (fun _ => nI 0)))] ++ ([(q1, .inl (G.2 0, 6, .inl (fun _ => nI 0)))]))) H := hP
  have hD : va_D A ([(b, .inr (2, [.ref q0, .ref q1, .int (nI 0)]))] ++ ([(q0, .inl (G.2 0, 6, .inl (fun _ => nI 0)))] ++ ([(q1, .inl (G.2 0, 6, .inl (fun _ => nI 0)))]))) := hD
  exact re_v hx hb hr hlocks hS (adL [b, q0, q1]) (show va_P G.1 vwCl (sgw G (adL [b, q0, q1]) (fun _ => 0) (fun _ => nI 0) 0) H from hP) (show va_D A (sgw G (adL [b, q0, q1]) (fun _ => 0) (fun _ => nI 0) 0) from hD) rfl dX3_init_20

theorem hdX0_init : hdOK yX0_init 0 := by decide +kernel
set_option maxHeartbeats 4000000 in
set_option maxRecDepth 100000 in
theorem mX0_init (l : Launch) (G : GG) (b : Nat) : Mv l yX0_init cX0_init 1 none (rmK 2 46 2 9) G [.ref b] [(b, .inr (0, [.null]))] (fun (u : Nat → Nat) => True) (fun (u : Nat → Nat) => bow b (u 0) ++ (wyw G u (fun _ => 0) 0)) := by
  refine Mv.of (cc := cX0_init) (nL := 1) (by decide) (Nat.le_of_ble_eq_true rfl) ?_
  intro p e s m below meth c A ls F hr hlocks hnm hX hA hD hP hS hl
  have F : CallFix p m c cX0_init 1 s [.ref b].toArray wA RX0 := F
  obtain ⟨hx, hb, hml, hown, hts⟩ := id F
  have hl : lv_has ls 1 [(0, .ref b)] := hl
  refine lv_aload_n hx hb dX0_init_0 rfl (lv_at hl 0 rfl) ?_
  refine W.objInit hx hb hown (hts _ kw_157) (hts _ kw_24) (hts _ kw_25) rfl (by rw [hml]; exact hl.1) rfl dX0_init_1 (Nat.le_of_ble_eq_true rfl) (Nat.le_of_ble_eq_true rfl) ?_
  refine W.eq (g2 := F0 m 4 ls []) rfl ?_
  refine lv_aload_n hx hb dX0_init_4 rfl (lv_at hl 0 rfl) ?_
  refine va_new (D := G.1) (cl := vwCl) (ci := 5) (fs := [.null, .int (nI 0)]) (C := RX6) (T := TX6) (N := 2) hx hb hts inA6 tyX6 tyX6_ok hown (hts _ kw_158) (hts _ kw_159) (hts _ kw_6) hX.1 hP hD hS hA rfl (fun j hj => by rcases (show j = 0 ∨ j = 1 by omega) with rfl | rfl <;> rfl) (Nat.le_of_ble_eq_true rfl) (Nat.le_of_ble_eq_true rfl) dX0_init_5 (fun q0 H hP hD hS => ?_)
  have hP : va_P G.1 vwCl ([(b, .inr (0, [.null]))] ++ ([(q0, .inr (5, [.null, .int (nI 0)]))])) H := hP
  have hD : va_D A ([(b, .inr (0, [.null]))] ++ ([(q0, .inr (5, [.null, .int (nI 0)]))])) := hD
  refine lv_dup hx hb dX0_init_8 rfl ?_
  refine ca_INv (rest := [.ref q0, .ref b]) (wr := [(b, .inr (0, [.null]))]) F hX (mX6_init l G q0) ⟨cA_N hts kw_162 kw_6 hX.2.2.2.2.2.2.1 hdX6_init ⟨Nat.le_of_ble_eq_true rfl, Nat.le_of_ble_eq_true rfl⟩, rfl, hts _ kw_161⟩ rfl hl.1 rfl (Nat.le_of_ble_eq_true rfl) dX0_init_9 ⟨Nat.le_of_ble_eq_true rfl, Nat.le_of_ble_eq_true rfl⟩ hP hD hS hA (List.perm_append_comm) (fun u1 H locs hu1 hP hD hS => ?_)
  have hP2 : va_P G.1 vwCl ([(b, .inr (0, [.null]))] ++ (wyw G u1 (fun _ => 0) 0)) H := wp_pm (List.perm_append_comm).symm hP
  have hD2 : va_D A ([(b, .inr (0, [.null]))] ++ (wyw G u1 (fun _ => 0) 0)) := wd_pm (List.perm_append_comm).symm hD
  clear hP hD
  subst hu1
  have hP := hP2
  have hD := hD2
  clear hP2 hD2
  refine va_putF (D := G.1) (ci := 0) (v := .ref (u1 0)) (ty := tyX0 0) (C := RX0) (T := TX0) (N := 1) hx hb hts inA0 tyX0 tyX0_ok nmX0 hown hX.1 hP hD hS 0 rfl rfl 0 (by decide) (hts _ kw_171) (fun _ h9 => h9) rfl hnm rfl (tyX0_ok 0 (by decide)) rfl rfl (Nat.le_of_ble_eq_true rfl) dX0_init_12 (fun H locs hP hD hS => ?_)
  have hP : va_P G.1 vwCl ([(b, .inr (0, [.ref (u1 0)]))] ++ (wyw G u1 (fun _ => 0) 0)) H := hP
  have hD : va_D A ([(b, .inr (0, [.ref (u1 0)]))] ++ (wyw G u1 (fun _ => 0) 0)) := hD
  exact re_v hx hb hr hlocks hS (u1) (show va_P G.1 vwCl (bow b (u1 0) ++ (wyw G u1 (fun _ => 0) 0)) H from hP) (show va_D A (bow b (u1 0) ++ (wyw G u1 (fun _ => 0) 0)) from hD) trivial dX0_init_15

theorem hdX2_init : hdOK yX2_init 0 := by decide +kernel
set_option maxHeartbeats 4000000 in
set_option maxRecDepth 100000 in
theorem mX2_init (l : Launch) (G : GG) (b : Nat) : MvE EO l yX2_init cX2_init 2 none (rmK 2 46 31 336) G [.ref b] [(b, .inr (1, [.null, .int (nI 0), .int (nI 0)]))] (fun (u : (Nat → Nat) × (Nat → Nat → Nat)) => u.1 0 = b) (fun (u : (Nat → Nat) × (Nat → Nat → Nat)) => paw G u.1 0 0 u.2 (fun _ => tk0) (fun _ => rk0)) := by
  refine MvE.of (cc := cX2_init) (nL := 2) (by decide) (Nat.le_of_ble_eq_true rfl) ?_
  intro p e s m below meth c A ls F hr hlocks hnm hX hA hD hP hS hl hE
  have F : CallFix p m c cX2_init 2 s [.ref b].toArray wA RX2 := F
  obtain ⟨hx, hb, hml, hown, hts⟩ := id F
  have hl : lv_has ls 2 [(0, .ref b)] := hl
  refine lv_aload_n hx hb dX2_init_0 rfl (lv_at hl 0 rfl) ?_
  refine W.objInit hx hb hown (hts _ kw_137) (hts _ kw_24) (hts _ kw_25) rfl (by rw [hml]; exact hl.1) rfl dX2_init_1 (Nat.le_of_ble_eq_true rfl) (Nat.le_of_ble_eq_true rfl) ?_
  refine W.eq (g2 := F0 m 4 ls []) rfl ?_
  refine lv_aload_n hx hb dX2_init_4 rfl (lv_at hl 0 rfl) ?_
  refine lv_bipush (v := nI 6) hx hb dX2_init_5 (by decide) ?_
  refine nw_T (n := 6) hx hb hown (hts _ kw_138) hE hX hP hD hS hA (by decide) (Nat.le_of_ble_eq_true rfl) (Nat.le_of_ble_eq_true rfl) dX2_init_7 (fun q0 H hP hD hS => ?_)
  have hP : va_P G.1 vwCl ([(b, .inr (1, [.null, .int (nI 0), .int (nI 0)]))] ++ ([(q0, .inl (G.2 3, 6, .inr (.inr (.inr (.inr (fun _ => none))))))])) H := hP
  have hD : va_D A ([(b, .inr (1, [.null, .int (nI 0), .int (nI 0)]))] ++ ([(q0, .inl (G.2 3, 6, .inr (.inr (.inr (.inr (fun _ => none))))))])) := hD
  refine va_putF (D := G.1) (ci := 1) (v := .ref q0) (ty := tyX2 0) (C := RX2) (T := TX2) (N := 3) hx hb hts inA2 tyX2 tyX2_ok nmX2 hown hX.1 hP hD hS 0 rfl rfl 0 (by decide) (hts _ kw_141) (fun _ h9 => h9) rfl hnm rfl (tyX2_ok 0 (by decide)) rfl rfl (Nat.le_of_ble_eq_true rfl) dX2_init_10 (fun H locs hP hD hS => ?_)
  have hP : va_P G.1 vwCl ([(b, .inr (1, [.ref q0, .int (nI 0), .int (nI 0)]))] ++ ([(q0, .inl (G.2 3, 6, .inr (.inr (.inr (.inr (fun _ => none))))))])) H := hP
  have hD : va_D A ([(b, .inr (1, [.ref q0, .int (nI 0), .int (nI 0)]))] ++ ([(q0, .inl (G.2 3, 6, .inr (.inr (.inr (.inr (fun _ => none))))))])) := hD
  refine lv_iconst (v := nI 0) hx hb dX2_init_13 (by decide) ?_
  refine lv_istore_n (lv' := [(1, .int (nI 0)), (0, .ref b)]) hx hb dX2_init_14 rfl hl (by decide) rfl (fun ls hl => ?_)
  have hl : lv_has ls 2 [(0, .ref b), (1, .int (nI 0))] := lv_sub hl [1, 0] rfl
  refine lv_iload_n hx hb dX2_init_15 rfl (lv_at hl 1 rfl) ?_
  refine lv_bipush (v := nI 6) hx hb dX2_init_16 (by decide) ?_
  refine nv_ge (x := 0) (y := 6) (tgt := 40) hx hb dX2_init_18 (by decide) (by decide) (by decide) (fun h9 => absurd h9 (by decide)) (fun _ => ?_)
  refine lv_aload_n hx hb dX2_init_21 rfl (lv_at hl 0 rfl) ?_
  refine va_get (D := G.1) (ci := 1) (v := .ref q0) (C := RX2) (T := TX2) (N := 3) hx hb hts inA2 hown hX.1 hP 0 rfl rfl 0 (by decide) (hts _ kw_141) (fun _ h9 => h9) rfl dX2_init_22 ?_
  refine lv_iload_n hx hb dX2_init_25 rfl (lv_at hl 1 rfl) ?_
  refine va_new (D := G.1) (cl := vwCl) (ci := 3) (fs := [.int (nI 0), .int (nI 0), .int (nI 0), .int (nI 0), .null, .null, .null, .int (nI 0), .int (nI 0), .int (nI 0), .int (nI 0), .null]) (C := RX4) (T := TX4) (N := 12) hx hb hts inA4 tyX4 tyX4_ok hown (hts _ kw_138) (hts _ kw_57) (hts _ kw_3) hX.1 hP hD hS hA rfl (fun j hj => by rcases (show j = 0 ∨ j = 1 ∨ j = 2 ∨ j = 3 ∨ j = 4 ∨ j = 5 ∨ j = 6 ∨ j = 7 ∨ j = 8 ∨ j = 9 ∨ j = 10 ∨ j = 11 by omega) with rfl | rfl | rfl | rfl | rfl | rfl | rfl | rfl | rfl | rfl | rfl | rfl <;> rfl) (Nat.le_of_ble_eq_true rfl) (Nat.le_of_ble_eq_true rfl) dX2_init_26 (fun q1 H hP hD hS => ?_)
  have hP : va_P G.1 vwCl ([(b, .inr (1, [.ref q0, .int (nI 0), .int (nI 0)]))] ++ ([(q0, .inl (G.2 3, 6, .inr (.inr (.inr (.inr (fun _ => none))))))] ++ ([(q1, .inr (3, [.int (nI 0), .int (nI 0), .int (nI 0), .int (nI 0), .null, .null, .null, .int (nI 0), .int (nI 0), .int (nI 0), .int (nI 0), .null]))]))) H := wp_pm (List.Perm.of_eq (by simp only [List.append_assoc])) hP
  have hD : va_D A ([(b, .inr (1, [.ref q0, .int (nI 0), .int (nI 0)]))] ++ ([(q0, .inl (G.2 3, 6, .inr (.inr (.inr (.inr (fun _ => none))))))] ++ ([(q1, .inr (3, [.int (nI 0), .int (nI 0), .int (nI 0), .int (nI 0), .null, .null, .null, .int (nI 0), .int (nI 0), .int (nI 0), .int (nI 0), .null]))]))) := wd_pm (List.Perm.of_eq (by simp only [List.append_assoc])) hD
  refine lv_dup hx hb dX2_init_29 rfl ?_
  refine ca_INv (rest := [.ref q1, .int (nI 0), .ref q0]) (wr := [(b, .inr (1, [.ref q0, .int (nI 0), .int (nI 0)]))] ++ ([(q0, .inl (G.2 3, 6, .inr (.inr (.inr (.inr (fun _ => none))))))])) F hX (mX4_init l G q1) ⟨cA_N hts kw_60 kw_3 hX.2.2.2.2.2.2.2.2.2.1 hdX4_init ⟨Nat.le_of_ble_eq_true rfl, Nat.le_of_ble_eq_true rfl⟩, rfl, hts _ kw_59⟩ rfl hl.1 rfl (Nat.le_of_ble_eq_true rfl) dX2_init_30 ⟨Nat.le_of_ble_eq_true rfl, Nat.le_of_ble_eq_true rfl⟩ hP hD hS hA ((List.Perm.append_left _ (List.perm_append_comm)).trans (pm_sw _ _ _)) (fun u2 H locs hu2 hP hD hS => ?_)
  have hP2 : va_P G.1 vwCl ([(b, .inr (1, [.ref q0, .int (nI 0), .int (nI 0)]))] ++ ([(q0, .inl (G.2 3, 6, .inr (.inr (.inr (.inr (fun _ => none))))))] ++ (tkw G u2 tk0 rk0))) H := wp_pm ((List.Perm.append_left _ (List.perm_append_comm)).trans (pm_sw _ _ _)).symm hP
  have hD2 : va_D A ([(b, .inr (1, [.ref q0, .int (nI 0), .int (nI 0)]))] ++ ([(q0, .inl (G.2 3, 6, .inr (.inr (.inr (.inr (fun _ => none))))))] ++ (tkw G u2 tk0 rk0))) := wd_pm ((List.Perm.append_left _ (List.perm_append_comm)).trans (pm_sw _ _ _)).symm hD
  clear hP hD
  subst hu2
  have hP := hP2
  have hD := hD2
  clear hP2 hD2
  refine nv_astT (f := (fun _ => none)) (k := 0) hx hb hX hP hD hS 1 2 rfl rfl (by decide) (by decide) dX2_init_33 (fun H locs hP hD hS => ?_)
  have hP : va_P G.1 vwCl ([(b, .inr (1, [.ref q0, .int (nI 0), .int (nI 0)]))] ++ ([(q0, .inl (G.2 3, 6, .inr (.inr (.inr (.inr (va_up (fun _ => none) 0 (some (u2 0))))))))] ++ (tkw G u2 tk0 rk0))) H := hP
  have hD : va_D A ([(b, .inr (1, [.ref q0, .int (nI 0), .int (nI 0)]))] ++ ([(q0, .inl (G.2 3, 6, .inr (.inr (.inr (.inr (va_up (fun _ => none) 0 (some (u2 0))))))))] ++ (tkw G u2 tk0 rk0))) := hD
  refine lv_iinc (v := nI 1) (lv' := [(1, .int (nI 1)), (0, .ref b)]) hx hb dX2_init_34 hl (k := 1) rfl (by decide) (by decide) rfl (fun ls hl => ?_)
  have hl : lv_has ls 2 [(0, .ref b), (1, .int (nI 1))] := lv_sub hl [1, 0] rfl
  refine lv_goto (tgt := 15) hx hb dX2_init_37 (by decide) ?_
  refine lv_iload_n hx hb dX2_init_15 rfl (lv_at hl 1 rfl) ?_
  refine lv_bipush (v := nI 6) hx hb dX2_init_16 (by decide) ?_
  refine nv_ge (x := 1) (y := 6) (tgt := 40) hx hb dX2_init_18 (by decide) (by decide) (by decide) (fun h9 => absurd h9 (by decide)) (fun _ => ?_)
  refine lv_aload_n hx hb dX2_init_21 rfl (lv_at hl 0 rfl) ?_
  refine va_get (D := G.1) (ci := 1) (v := .ref q0) (C := RX2) (T := TX2) (N := 3) hx hb hts inA2 hown hX.1 hP 0 rfl rfl 0 (by decide) (hts _ kw_141) (fun _ h9 => h9) rfl dX2_init_22 ?_
  refine lv_iload_n hx hb dX2_init_25 rfl (lv_at hl 1 rfl) ?_
  refine va_new (D := G.1) (cl := vwCl) (ci := 3) (fs := [.int (nI 0), .int (nI 0), .int (nI 0), .int (nI 0), .null, .null, .null, .int (nI 0), .int (nI 0), .int (nI 0), .int (nI 0), .null]) (C := RX4) (T := TX4) (N := 12) hx hb hts inA4 tyX4 tyX4_ok hown (hts _ kw_138) (hts _ kw_57) (hts _ kw_3) hX.1 hP hD hS hA rfl (fun j hj => by rcases (show j = 0 ∨ j = 1 ∨ j = 2 ∨ j = 3 ∨ j = 4 ∨ j = 5 ∨ j = 6 ∨ j = 7 ∨ j = 8 ∨ j = 9 ∨ j = 10 ∨ j = 11 by omega) with rfl | rfl | rfl | rfl | rfl | rfl | rfl | rfl | rfl | rfl | rfl | rfl <;> rfl) (Nat.le_of_ble_eq_true rfl) (Nat.le_of_ble_eq_true rfl) dX2_init_26 (fun q3 H hP hD hS => ?_)
  have hP : va_P G.1 vwCl ([(b, .inr (1, [.ref q0, .int (nI 0), .int (nI 0)]))] ++ ([(q0, .inl (G.2 3, 6, .inr (.inr (.inr (.inr (va_up (fun _ => none) 0 (some (u2 0))))))))] ++ (tkw G u2 tk0 rk0 ++ ([(q3, .inr (3, [.int (nI 0), .int (nI 0), .int (nI 0), .int (nI 0), .null, .null, .null, .int (nI 0), .int (nI 0), .int (nI 0), .int (nI 0), .null]))])))) H := wp_pm (List.Perm.of_eq (by simp only [List.append_assoc])) hP
  have hD : va_D A ([(b, .inr (1, [.ref q0, .int (nI 0), .int (nI 0)]))] ++ ([(q0, .inl (G.2 3, 6, .inr (.inr (.inr (.inr (va_up (fun _ => none) 0 (some (u2 0))))))))] ++ (tkw G u2 tk0 rk0 ++ ([(q3, .inr (3, [.int (nI 0), .int (nI 0), .int (nI 0), .int (nI 0), .null, .null, .null, .int (nI 0), .int (nI 0), .int (nI 0), .int (nI 0), .null]))])))) := wd_pm (List.Perm.of_eq (by simp only [List.append_assoc])) hD
  refine lv_dup hx hb dX2_init_29 rfl ?_
  refine ca_INv (rest := [.ref q3, .int (nI 1), .ref q0]) (wr := [(b, .inr (1, [.ref q0, .int (nI 0), .int (nI 0)]))] ++ ([(q0, .inl (G.2 3, 6, .inr (.inr (.inr (.inr (va_up (fun _ => none) 0 (some (u2 0))))))))] ++ (tkw G u2 tk0 rk0))) F hX (mX4_init l G q3) ⟨cA_N hts kw_60 kw_3 hX.2.2.2.2.2.2.2.2.2.1 hdX4_init ⟨Nat.le_of_ble_eq_true rfl, Nat.le_of_ble_eq_true rfl⟩, rfl, hts _ kw_59⟩ rfl hl.1 rfl (Nat.le_of_ble_eq_true rfl) dX2_init_30 ⟨Nat.le_of_ble_eq_true rfl, Nat.le_of_ble_eq_true rfl⟩ hP hD hS hA ((List.Perm.append_left _ ((List.Perm.append_left _ (List.perm_append_comm)).trans (pm_sw _ _ _))).trans (pm_sw _ _ _)) (fun u4 H locs hu4 hP hD hS => ?_)
  have hP2 : va_P G.1 vwCl ([(b, .inr (1, [.ref q0, .int (nI 0), .int (nI 0)]))] ++ ([(q0, .inl (G.2 3, 6, .inr (.inr (.inr (.inr (va_up (fun _ => none) 0 (some (u2 0))))))))] ++ (tkw G u2 tk0 rk0 ++ (tkw G u4 tk0 rk0)))) H := wp_pm ((List.Perm.append_left _ ((List.Perm.append_left _ (List.perm_append_comm)).trans (pm_sw _ _ _))).trans (pm_sw _ _ _)).symm hP
  have hD2 : va_D A ([(b, .inr (1, [.ref q0, .int (nI 0), .int (nI 0)]))] ++ ([(q0, .inl (G.2 3, 6, .inr (.inr (.inr (.inr (va_up (fun _ => none) 0 (some (u2 0))))))))] ++ (tkw G u2 tk0 rk0 ++ (tkw G u4 tk0 rk0)))) := wd_pm ((List.Perm.append_left _ ((List.Perm.append_left _ (List.perm_append_comm)).trans (pm_sw _ _ _))).trans (pm_sw _ _ _)).symm hD
  clear hP hD
  subst hu4
  have hP := hP2
  have hD := hD2
  clear hP2 hD2
  refine nv_astT (f := (va_up (fun _ => none) 0 (some (u2 0)))) (k := 1) hx hb hX hP hD hS 1 7 rfl rfl (by decide) (by decide) dX2_init_33 (fun H locs hP hD hS => ?_)
  have hP : va_P G.1 vwCl ([(b, .inr (1, [.ref q0, .int (nI 0), .int (nI 0)]))] ++ ([(q0, .inl (G.2 3, 6, .inr (.inr (.inr (.inr (va_up (va_up (fun _ => none) 0 (some (u2 0))) 1 (some (u4 0))))))))] ++ (tkw G u2 tk0 rk0 ++ (tkw G u4 tk0 rk0)))) H := hP
  have hD : va_D A ([(b, .inr (1, [.ref q0, .int (nI 0), .int (nI 0)]))] ++ ([(q0, .inl (G.2 3, 6, .inr (.inr (.inr (.inr (va_up (va_up (fun _ => none) 0 (some (u2 0))) 1 (some (u4 0))))))))] ++ (tkw G u2 tk0 rk0 ++ (tkw G u4 tk0 rk0)))) := hD
  refine lv_iinc (v := nI 2) (lv' := [(1, .int (nI 2)), (0, .ref b)]) hx hb dX2_init_34 hl (k := 1) rfl (by decide) (by decide) rfl (fun ls hl => ?_)
  have hl : lv_has ls 2 [(0, .ref b), (1, .int (nI 2))] := lv_sub hl [1, 0] rfl
  refine lv_goto (tgt := 15) hx hb dX2_init_37 (by decide) ?_
  refine lv_iload_n hx hb dX2_init_15 rfl (lv_at hl 1 rfl) ?_
  refine lv_bipush (v := nI 6) hx hb dX2_init_16 (by decide) ?_
  refine nv_ge (x := 2) (y := 6) (tgt := 40) hx hb dX2_init_18 (by decide) (by decide) (by decide) (fun h9 => absurd h9 (by decide)) (fun _ => ?_)
  refine lv_aload_n hx hb dX2_init_21 rfl (lv_at hl 0 rfl) ?_
  refine va_get (D := G.1) (ci := 1) (v := .ref q0) (C := RX2) (T := TX2) (N := 3) hx hb hts inA2 hown hX.1 hP 0 rfl rfl 0 (by decide) (hts _ kw_141) (fun _ h9 => h9) rfl dX2_init_22 ?_
  refine lv_iload_n hx hb dX2_init_25 rfl (lv_at hl 1 rfl) ?_
  refine va_new (D := G.1) (cl := vwCl) (ci := 3) (fs := [.int (nI 0), .int (nI 0), .int (nI 0), .int (nI 0), .null, .null, .null, .int (nI 0), .int (nI 0), .int (nI 0), .int (nI 0), .null]) (C := RX4) (T := TX4) (N := 12) hx hb hts inA4 tyX4 tyX4_ok hown (hts _ kw_138) (hts _ kw_57) (hts _ kw_3) hX.1 hP hD hS hA rfl (fun j hj => by rcases (show j = 0 ∨ j = 1 ∨ j = 2 ∨ j = 3 ∨ j = 4 ∨ j = 5 ∨ j = 6 ∨ j = 7 ∨ j = 8 ∨ j = 9 ∨ j = 10 ∨ j = 11 by omega) with rfl | rfl | rfl | rfl | rfl | rfl | rfl | rfl | rfl | rfl | rfl | rfl <;> rfl) (Nat.le_of_ble_eq_true rfl) (Nat.le_of_ble_eq_true rfl) dX2_init_26 (fun q5 H hP hD hS => ?_)
  have hP : va_P G.1 vwCl ([(b, .inr (1, [.ref q0, .int (nI 0), .int (nI 0)]))] ++ ([(q0, .inl (G.2 3, 6, .inr (.inr (.inr (.inr (va_up (va_up (fun _ => none) 0 (some (u2 0))) 1 (some (u4 0))))))))] ++ (tkw G u2 tk0 rk0 ++ (tkw G u4 tk0 rk0 ++ ([(q5, .inr (3, [.int (nI 0), .int (nI 0), .int (nI 0), .int (nI 0), .null, .null, .null, .int (nI 0), .int (nI 0), .int (nI 0), .int (nI 0), .null]))]))))) H := wp_pm (List.Perm.of_eq (by simp only [List.append_assoc])) hP
  have hD : va_D A ([(b, .inr (1, [.ref q0, .int (nI 0), .int (nI 0)]))] ++ ([(q0, .inl (G.2 3, 6, .inr (.inr (.inr (.inr (va_up (va_up (fun _ => none) 0 (some (u2 0))) 1 (some (u4 0))))))))] ++ (tkw G u2 tk0 rk0 ++ (tkw G u4 tk0 rk0 ++ ([(q5, .inr (3, [.int (nI 0), .int (nI 0), .int (nI 0), .int (nI 0), .null, .null, .null, .int (nI 0), .int (nI 0), .int (nI 0), .int (nI 0), .null]))]))))) := wd_pm (List.Perm.of_eq (by simp only [List.append_assoc])) hD
  refine lv_dup hx hb dX2_init_29 rfl ?_
  refine ca_INv (rest := [.ref q5, .int (nI 2), .ref q0]) (wr := [(b, .inr (1, [.ref q0, .int (nI 0), .int (nI 0)]))] ++ ([(q0, .inl (G.2 3, 6, .inr (.inr (.inr (.inr (va_up (va_up (fun _ => none) 0 (some (u2 0))) 1 (some (u4 0))))))))] ++ (tkw G u2 tk0 rk0 ++ (tkw G u4 tk0 rk0)))) F hX (mX4_init l G q5) ⟨cA_N hts kw_60 kw_3 hX.2.2.2.2.2.2.2.2.2.1 hdX4_init ⟨Nat.le_of_ble_eq_true rfl, Nat.le_of_ble_eq_true rfl⟩, rfl, hts _ kw_59⟩ rfl hl.1 rfl (Nat.le_of_ble_eq_true rfl) dX2_init_30 ⟨Nat.le_of_ble_eq_true rfl, Nat.le_of_ble_eq_true rfl⟩ hP hD hS hA ((List.Perm.append_left _ ((List.Perm.append_left _ ((List.Perm.append_left _ (List.perm_append_comm)).trans (pm_sw _ _ _))).trans (pm_sw _ _ _))).trans (pm_sw _ _ _)) (fun u6 H locs hu6 hP hD hS => ?_)
  have hP2 : va_P G.1 vwCl ([(b, .inr (1, [.ref q0, .int (nI 0), .int (nI 0)]))] ++ ([(q0, .inl (G.2 3, 6, .inr (.inr (.inr (.inr (va_up (va_up (fun _ => none) 0 (some (u2 0))) 1 (some (u4 0))))))))] ++ (tkw G u2 tk0 rk0 ++ (tkw G u4 tk0 rk0 ++ (tkw G u6 tk0 rk0))))) H := wp_pm ((List.Perm.append_left _ ((List.Perm.append_left _ ((List.Perm.append_left _ (List.perm_append_comm)).trans (pm_sw _ _ _))).trans (pm_sw _ _ _))).trans (pm_sw _ _ _)).symm hP
  have hD2 : va_D A ([(b, .inr (1, [.ref q0, .int (nI 0), .int (nI 0)]))] ++ ([(q0, .inl (G.2 3, 6, .inr (.inr (.inr (.inr (va_up (va_up (fun _ => none) 0 (some (u2 0))) 1 (some (u4 0))))))))] ++ (tkw G u2 tk0 rk0 ++ (tkw G u4 tk0 rk0 ++ (tkw G u6 tk0 rk0))))) := wd_pm ((List.Perm.append_left _ ((List.Perm.append_left _ ((List.Perm.append_left _ (List.perm_append_comm)).trans (pm_sw _ _ _))).trans (pm_sw _ _ _))).trans (pm_sw _ _ _)).symm hD
  clear hP hD
  subst hu6
  have hP := hP2
  have hD := hD2
  clear hP2 hD2
  refine nv_astT (f := (va_up (va_up (fun _ => none) 0 (some (u2 0))) 1 (some (u4 0)))) (k := 2) hx hb hX hP hD hS 1 12 rfl rfl (by decide) (by decide) dX2_init_33 (fun H locs hP hD hS => ?_)
  have hP : va_P G.1 vwCl ([(b, .inr (1, [.ref q0, .int (nI 0), .int (nI 0)]))] ++ ([(q0, .inl (G.2 3, 6, .inr (.inr (.inr (.inr (va_up (va_up (va_up (fun _ => none) 0 (some (u2 0))) 1 (some (u4 0))) 2 (some (u6 0))))))))] ++ (tkw G u2 tk0 rk0 ++ (tkw G u4 tk0 rk0 ++ (tkw G u6 tk0 rk0))))) H := hP
  have hD : va_D A ([(b, .inr (1, [.ref q0, .int (nI 0), .int (nI 0)]))] ++ ([(q0, .inl (G.2 3, 6, .inr (.inr (.inr (.inr (va_up (va_up (va_up (fun _ => none) 0 (some (u2 0))) 1 (some (u4 0))) 2 (some (u6 0))))))))] ++ (tkw G u2 tk0 rk0 ++ (tkw G u4 tk0 rk0 ++ (tkw G u6 tk0 rk0))))) := hD
  refine lv_iinc (v := nI 3) (lv' := [(1, .int (nI 3)), (0, .ref b)]) hx hb dX2_init_34 hl (k := 1) rfl (by decide) (by decide) rfl (fun ls hl => ?_)
  have hl : lv_has ls 2 [(0, .ref b), (1, .int (nI 3))] := lv_sub hl [1, 0] rfl
  refine lv_goto (tgt := 15) hx hb dX2_init_37 (by decide) ?_
  refine lv_iload_n hx hb dX2_init_15 rfl (lv_at hl 1 rfl) ?_
  refine lv_bipush (v := nI 6) hx hb dX2_init_16 (by decide) ?_
  refine nv_ge (x := 3) (y := 6) (tgt := 40) hx hb dX2_init_18 (by decide) (by decide) (by decide) (fun h9 => absurd h9 (by decide)) (fun _ => ?_)
  refine lv_aload_n hx hb dX2_init_21 rfl (lv_at hl 0 rfl) ?_
  refine va_get (D := G.1) (ci := 1) (v := .ref q0) (C := RX2) (T := TX2) (N := 3) hx hb hts inA2 hown hX.1 hP 0 rfl rfl 0 (by decide) (hts _ kw_141) (fun _ h9 => h9) rfl dX2_init_22 ?_
  refine lv_iload_n hx hb dX2_init_25 rfl (lv_at hl 1 rfl) ?_
  refine va_new (D := G.1) (cl := vwCl) (ci := 3) (fs := [.int (nI 0), .int (nI 0), .int (nI 0), .int (nI 0), .null, .null, .null, .int (nI 0), .int (nI 0), .int (nI 0), .int (nI 0), .null]) (C := RX4) (T := TX4) (N := 12) hx hb hts inA4 tyX4 tyX4_ok hown (hts _ kw_138) (hts _ kw_57) (hts _ kw_3) hX.1 hP hD hS hA rfl (fun j hj => by rcases (show j = 0 ∨ j = 1 ∨ j = 2 ∨ j = 3 ∨ j = 4 ∨ j = 5 ∨ j = 6 ∨ j = 7 ∨ j = 8 ∨ j = 9 ∨ j = 10 ∨ j = 11 by omega) with rfl | rfl | rfl | rfl | rfl | rfl | rfl | rfl | rfl | rfl | rfl | rfl <;> rfl) (Nat.le_of_ble_eq_true rfl) (Nat.le_of_ble_eq_true rfl) dX2_init_26 (fun q7 H hP hD hS => ?_)
  have hP : va_P G.1 vwCl ([(b, .inr (1, [.ref q0, .int (nI 0), .int (nI 0)]))] ++ ([(q0, .inl (G.2 3, 6, .inr (.inr (.inr (.inr (va_up (va_up (va_up (fun _ => none) 0 (some (u2 0))) 1 (some (u4 0))) 2 (some (u6 0))))))))] ++ (tkw G u2 tk0 rk0 ++ (tkw G u4 tk0 rk0 ++ (tkw G u6 tk0 rk0 ++ ([(q7, .inr (3, [.int (nI 0), .int (nI 0), .int (nI 0), .int (nI 0), .null, .null, .null, .int (nI 0), .int (nI 0), .int (nI 0), .int (nI 0), .null]))])))))) H := wp_pm (List.Perm.of_eq (by simp only [List.append_assoc])) hP
  have hD : va_D A ([(b, .inr (1, [.ref q0, .int (nI 0), .int (nI 0)]))] ++ ([(q0, .inl (G.2 3, 6, .inr (.inr (.inr (.inr (va_up (va_up (va_up (fun _ => none) 0 (some (u2 0))) 1 (some (u4 0))) 2 (some (u6 0))))))))] ++ (tkw G u2 tk0 rk0 ++ (tkw G u4 tk0 rk0 ++ (tkw G u6 tk0 rk0 ++ ([(q7, .inr (3, [.int (nI 0), .int (nI 0), .int (nI 0), .int (nI 0), .null, .null, .null, .int (nI 0), .int (nI 0), .int (nI 0), .int (nI 0), .null]))])))))) := wd_pm (List.Perm.of_eq (by simp only [List.append_assoc])) hD
  refine lv_dup hx hb dX2_init_29 rfl ?_
  refine ca_INv (rest := [.ref q7, .int (nI 3), .ref q0]) (wr := [(b, .inr (1, [.ref q0, .int (nI 0), .int (nI 0)]))] ++ ([(q0, .inl (G.2 3, 6, .inr (.inr (.inr (.inr (va_up (va_up (va_up (fun _ => none) 0 (some (u2 0))) 1 (some (u4 0))) 2 (some (u6 0))))))))] ++ (tkw G u2 tk0 rk0 ++ (tkw G u4 tk0 rk0 ++ (tkw G u6 tk0 rk0))))) F hX (mX4_init l G q7) ⟨cA_N hts kw_60 kw_3 hX.2.2.2.2.2.2.2.2.2.1 hdX4_init ⟨Nat.le_of_ble_eq_true rfl, Nat.le_of_ble_eq_true rfl⟩, rfl, hts _ kw_59⟩ rfl hl.1 rfl (Nat.le_of_ble_eq_true rfl) dX2_init_30 ⟨Nat.le_of_ble_eq_true rfl, Nat.le_of_ble_eq_true rfl⟩ hP hD hS hA ((List.Perm.append_left _ ((List.Perm.append_left _ ((List.Perm.append_left _ ((List.Perm.append_left _ (List.perm_append_comm)).trans (pm_sw _ _ _))).trans (pm_sw _ _ _))).trans (pm_sw _ _ _))).trans (pm_sw _ _ _)) (fun u8 H locs hu8 hP hD hS => ?_)
  have hP2 : va_P G.1 vwCl ([(b, .inr (1, [.ref q0, .int (nI 0), .int (nI 0)]))] ++ ([(q0, .inl (G.2 3, 6, .inr (.inr (.inr (.inr (va_up (va_up (va_up (fun _ => none) 0 (some (u2 0))) 1 (some (u4 0))) 2 (some (u6 0))))))))] ++ (tkw G u2 tk0 rk0 ++ (tkw G u4 tk0 rk0 ++ (tkw G u6 tk0 rk0 ++ (tkw G u8 tk0 rk0)))))) H := wp_pm ((List.Perm.append_left _ ((List.Perm.append_left _ ((List.Perm.append_left _ ((List.Perm.append_left _ (List.perm_append_comm)).trans (pm_sw _ _ _))).trans (pm_sw _ _ _))).trans (pm_sw _ _ _))).trans (pm_sw _ _ _)).symm hP
  have hD2 : va_D A ([(b, .inr (1, [.ref q0, .int (nI 0), .int (nI 0)]))] ++ ([(q0, .inl (G.2 3, 6, .inr (.inr (.inr (.inr (va_up (va_up (va_up (fun _ => none) 0 (some (u2 0))) 1 (some (u4 0))) 2 (some (u6 0))))))))] ++ (tkw G u2 tk0 rk0 ++ (tkw G u4 tk0 rk0 ++ (tkw G u6 tk0 rk0 ++ (tkw G u8 tk0 rk0)))))) := wd_pm ((List.Perm.append_left _ ((List.Perm.append_left _ ((List.Perm.append_left _ ((List.Perm.append_left _ (List.perm_append_comm)).trans (pm_sw _ _ _))).trans (pm_sw _ _ _))).trans (pm_sw _ _ _))).trans (pm_sw _ _ _)).symm hD
  clear hP hD
  subst hu8
  have hP := hP2
  have hD := hD2
  clear hP2 hD2
  refine nv_astT (f := (va_up (va_up (va_up (fun _ => none) 0 (some (u2 0))) 1 (some (u4 0))) 2 (some (u6 0)))) (k := 3) hx hb hX hP hD hS 1 17 rfl rfl (by decide) (by decide) dX2_init_33 (fun H locs hP hD hS => ?_)
  have hP : va_P G.1 vwCl ([(b, .inr (1, [.ref q0, .int (nI 0), .int (nI 0)]))] ++ ([(q0, .inl (G.2 3, 6, .inr (.inr (.inr (.inr (va_up (va_up (va_up (va_up (fun _ => none) 0 (some (u2 0))) 1 (some (u4 0))) 2 (some (u6 0))) 3 (some (u8 0))))))))] ++ (tkw G u2 tk0 rk0 ++ (tkw G u4 tk0 rk0 ++ (tkw G u6 tk0 rk0 ++ (tkw G u8 tk0 rk0)))))) H := hP
  have hD : va_D A ([(b, .inr (1, [.ref q0, .int (nI 0), .int (nI 0)]))] ++ ([(q0, .inl (G.2 3, 6, .inr (.inr (.inr (.inr (va_up (va_up (va_up (va_up (fun _ => none) 0 (some (u2 0))) 1 (some (u4 0))) 2 (some (u6 0))) 3 (some (u8 0))))))))] ++ (tkw G u2 tk0 rk0 ++ (tkw G u4 tk0 rk0 ++ (tkw G u6 tk0 rk0 ++ (tkw G u8 tk0 rk0)))))) := hD
  refine lv_iinc (v := nI 4) (lv' := [(1, .int (nI 4)), (0, .ref b)]) hx hb dX2_init_34 hl (k := 1) rfl (by decide) (by decide) rfl (fun ls hl => ?_)
  have hl : lv_has ls 2 [(0, .ref b), (1, .int (nI 4))] := lv_sub hl [1, 0] rfl
  refine lv_goto (tgt := 15) hx hb dX2_init_37 (by decide) ?_
  refine lv_iload_n hx hb dX2_init_15 rfl (lv_at hl 1 rfl) ?_
  refine lv_bipush (v := nI 6) hx hb dX2_init_16 (by decide) ?_
  refine nv_ge (x := 4) (y := 6) (tgt := 40) hx hb dX2_init_18 (by decide) (by decide) (by decide) (fun h9 => absurd h9 (by decide)) (fun _ => ?_)
  refine lv_aload_n hx hb dX2_init_21 rfl (lv_at hl 0 rfl) ?_
  refine va_get (D := G.1) (ci := 1) (v := .ref q0) (C := RX2) (T := TX2) (N := 3) hx hb hts inA2 hown hX.1 hP 0 rfl rfl 0 (by decide) (hts _ kw_141) (fun _ h9 => h9) rfl dX2_init_22 ?_
  refine lv_iload_n hx hb dX2_init_25 rfl (lv_at hl 1 rfl) ?_
  refine va_new (D := G.1) (cl := vwCl) (ci := 3) (fs := [.int (nI 0), .int (nI 0), .int (nI 0), .int (nI 0), .null, .null, .null, .int (nI 0), .int (nI 0), .int (nI 0), .int (nI 0), .null]) (C := RX4) (T := TX4) (N := 12) hx hb hts inA4 tyX4 tyX4_ok hown (hts _ kw_138) (hts _ kw_57) (hts _ kw_3) hX.1 hP hD hS hA rfl (fun j hj => by rcases (show j = 0 ∨ j = 1 ∨ j = 2 ∨ j = 3 ∨ j = 4 ∨ j = 5 ∨ j = 6 ∨ j = 7 ∨ j = 8 ∨ j = 9 ∨ j = 10 ∨ j = 11 by omega) with rfl | rfl | rfl | rfl | rfl | rfl | rfl | rfl | rfl | rfl | rfl | rfl <;> rfl) (Nat.le_of_ble_eq_true rfl) (Nat.le_of_ble_eq_true rfl) dX2_init_26 (fun q9 H hP hD hS => ?_)
  have hP : va_P G.1 vwCl ([(b, .inr (1, [.ref q0, .int (nI 0), .int (nI 0)]))] ++ ([(q0, .inl (G.2 3, 6, .inr (.inr (.inr (.inr (va_up (va_up (va_up (va_up (fun _ => none) 0 (some (u2 0))) 1 (some (u4 0))) 2 (some (u6 0))) 3 (some (u8 0))))))))] ++ (tkw G u2 tk0 rk0 ++ (tkw G u4 tk0 rk0 ++ (tkw G u6 tk0 rk0 ++ (tkw G u8 tk0 rk0 ++ ([(q9, .inr (3, [.int (nI 0), .int (nI 0), .int (nI 0), .int (nI 0), .null, .null, .null, .int (nI 0), .int (nI 0), .int (nI 0), .int (nI 0), .null]))]))))))) H := wp_pm (List.Perm.of_eq (by simp only [List.append_assoc])) hP
  have hD : va_D A ([(b, .inr (1, [.ref q0, .int (nI 0), .int (nI 0)]))] ++ ([(q0, .inl (G.2 3, 6, .inr (.inr (.inr (.inr (va_up (va_up (va_up (va_up (fun _ => none) 0 (some (u2 0))) 1 (some (u4 0))) 2 (some (u6 0))) 3 (some (u8 0))))))))] ++ (tkw G u2 tk0 rk0 ++ (tkw G u4 tk0 rk0 ++ (tkw G u6 tk0 rk0 ++ (tkw G u8 tk0 rk0 ++ ([(q9, .inr (3, [.int (nI 0), .int (nI 0), .int (nI 0), .int (nI 0), .null, .null, .null, .int (nI 0), .int (nI 0), .int (nI 0), .int (nI 0), .null]))]))))))) := wd_pm (List.Perm.of_eq (by simp only [List.append_assoc])) hD
  refine lv_dup hx hb dX2_init_29 rfl ?_
  refine ca_INv (rest := [.ref q9, .int (nI 4), .ref q0]) (wr := [(b, .inr (1, [.ref q0, .int (nI 0), .int (nI 0)]))] ++ ([(q0, .inl (G.2 3, 6, .inr (.inr (.inr (.inr (va_up (va_up (va_up (va_up (fun _ => none) 0 (some (u2 0))) 1 (some (u4 0))) 2 (some (u6 0))) 3 (some (u8 0))))))))] ++ (tkw G u2 tk0 rk0 ++ (tkw G u4 tk0 rk0 ++ (tkw G u6 tk0 rk0 ++ (tkw G u8 tk0 rk0)))))) F hX (mX4_init l G q9) ⟨cA_N hts kw_60 kw_3 hX.2.2.2.2.2.2.2.2.2.1 hdX4_init ⟨Nat.le_of_ble_eq_true rfl, Nat.le_of_ble_eq_true rfl⟩, rfl, hts _ kw_59⟩ rfl hl.1 rfl (Nat.le_of_ble_eq_true rfl) dX2_init_30 ⟨Nat.le_of_ble_eq_true rfl, Nat.le_of_ble_eq_true rfl⟩ hP hD hS hA ((List.Perm.append_left _ ((List.Perm.append_left _ ((List.Perm.append_left _ ((List.Perm.append_left _ ((List.Perm.append_left _ (List.perm_append_comm)).trans (pm_sw _ _ _))).trans (pm_sw _ _ _))).trans (pm_sw _ _ _))).trans (pm_sw _ _ _))).trans (pm_sw _ _ _)) (fun u10 H locs hu10 hP hD hS => ?_)
  have hP2 : va_P G.1 vwCl ([(b, .inr (1, [.ref q0, .int (nI 0), .int (nI 0)]))] ++ ([(q0, .inl (G.2 3, 6, .inr (.inr (.inr (.inr (va_up (va_up (va_up (va_up (fun _ => none) 0 (some (u2 0))) 1 (some (u4 0))) 2 (some (u6 0))) 3 (some (u8 0))))))))] ++ (tkw G u2 tk0 rk0 ++ (tkw G u4 tk0 rk0 ++ (tkw G u6 tk0 rk0 ++ (tkw G u8 tk0 rk0 ++ (tkw G u10 tk0 rk0))))))) H := wp_pm ((List.Perm.append_left _ ((List.Perm.append_left _ ((List.Perm.append_left _ ((List.Perm.append_left _ ((List.Perm.append_left _ (List.perm_append_comm)).trans (pm_sw _ _ _))).trans (pm_sw _ _ _))).trans (pm_sw _ _ _))).trans (pm_sw _ _ _))).trans (pm_sw _ _ _)).symm hP
  have hD2 : va_D A ([(b, .inr (1, [.ref q0, .int (nI 0), .int (nI 0)]))] ++ ([(q0, .inl (G.2 3, 6, .inr (.inr (.inr (.inr (va_up (va_up (va_up (va_up (fun _ => none) 0 (some (u2 0))) 1 (some (u4 0))) 2 (some (u6 0))) 3 (some (u8 0))))))))] ++ (tkw G u2 tk0 rk0 ++ (tkw G u4 tk0 rk0 ++ (tkw G u6 tk0 rk0 ++ (tkw G u8 tk0 rk0 ++ (tkw G u10 tk0 rk0))))))) := wd_pm ((List.Perm.append_left _ ((List.Perm.append_left _ ((List.Perm.append_left _ ((List.Perm.append_left _ ((List.Perm.append_left _ (List.perm_append_comm)).trans (pm_sw _ _ _))).trans (pm_sw _ _ _))).trans (pm_sw _ _ _))).trans (pm_sw _ _ _))).trans (pm_sw _ _ _)).symm hD
  clear hP hD
  subst hu10
  have hP := hP2
  have hD := hD2
  clear hP2 hD2
  refine nv_astT (f := (va_up (va_up (va_up (va_up (fun _ => none) 0 (some (u2 0))) 1 (some (u4 0))) 2 (some (u6 0))) 3 (some (u8 0)))) (k := 4) hx hb hX hP hD hS 1 22 rfl rfl (by decide) (by decide) dX2_init_33 (fun H locs hP hD hS => ?_)
  have hP : va_P G.1 vwCl ([(b, .inr (1, [.ref q0, .int (nI 0), .int (nI 0)]))] ++ ([(q0, .inl (G.2 3, 6, .inr (.inr (.inr (.inr (va_up (va_up (va_up (va_up (va_up (fun _ => none) 0 (some (u2 0))) 1 (some (u4 0))) 2 (some (u6 0))) 3 (some (u8 0))) 4 (some (u10 0))))))))] ++ (tkw G u2 tk0 rk0 ++ (tkw G u4 tk0 rk0 ++ (tkw G u6 tk0 rk0 ++ (tkw G u8 tk0 rk0 ++ (tkw G u10 tk0 rk0))))))) H := hP
  have hD : va_D A ([(b, .inr (1, [.ref q0, .int (nI 0), .int (nI 0)]))] ++ ([(q0, .inl (G.2 3, 6, .inr (.inr (.inr (.inr (va_up (va_up (va_up (va_up (va_up (fun _ => none) 0 (some (u2 0))) 1 (some (u4 0))) 2 (some (u6 0))) 3 (some (u8 0))) 4 (some (u10 0))))))))] ++ (tkw G u2 tk0 rk0 ++ (tkw G u4 tk0 rk0 ++ (tkw G u6 tk0 rk0 ++ (tkw G u8 tk0 rk0 ++ (tkw G u10 tk0 rk0))))))) := hD
  refine lv_iinc (v := nI 5) (lv' := [(1, .int (nI 5)), (0, .ref b)]) hx hb dX2_init_34 hl (k := 1) rfl (by decide) (by decide) rfl (fun ls hl => ?_)
  have hl : lv_has ls 2 [(0, .ref b), (1, .int (nI 5))] := lv_sub hl [1, 0] rfl
  refine lv_goto (tgt := 15) hx hb dX2_init_37 (by decide) ?_
  refine lv_iload_n hx hb dX2_init_15 rfl (lv_at hl 1 rfl) ?_
  refine lv_bipush (v := nI 6) hx hb dX2_init_16 (by decide) ?_
  refine nv_ge (x := 5) (y := 6) (tgt := 40) hx hb dX2_init_18 (by decide) (by decide) (by decide) (fun h9 => absurd h9 (by decide)) (fun _ => ?_)
  refine lv_aload_n hx hb dX2_init_21 rfl (lv_at hl 0 rfl) ?_
  refine va_get (D := G.1) (ci := 1) (v := .ref q0) (C := RX2) (T := TX2) (N := 3) hx hb hts inA2 hown hX.1 hP 0 rfl rfl 0 (by decide) (hts _ kw_141) (fun _ h9 => h9) rfl dX2_init_22 ?_
  refine lv_iload_n hx hb dX2_init_25 rfl (lv_at hl 1 rfl) ?_
  refine va_new (D := G.1) (cl := vwCl) (ci := 3) (fs := [.int (nI 0), .int (nI 0), .int (nI 0), .int (nI 0), .null, .null, .null, .int (nI 0), .int (nI 0), .int (nI 0), .int (nI 0), .null]) (C := RX4) (T := TX4) (N := 12) hx hb hts inA4 tyX4 tyX4_ok hown (hts _ kw_138) (hts _ kw_57) (hts _ kw_3) hX.1 hP hD hS hA rfl (fun j hj => by rcases (show j = 0 ∨ j = 1 ∨ j = 2 ∨ j = 3 ∨ j = 4 ∨ j = 5 ∨ j = 6 ∨ j = 7 ∨ j = 8 ∨ j = 9 ∨ j = 10 ∨ j = 11 by omega) with rfl | rfl | rfl | rfl | rfl | rfl | rfl | rfl | rfl | rfl | rfl | rfl <;> rfl) (Nat.le_of_ble_eq_true rfl) (Nat.le_of_ble_eq_true rfl) dX2_init_26 (fun q11 H hP hD hS => ?_)
  have hP : va_P G.1 vwCl ([(b, .inr (1, [.ref q0, .int (nI 0), .int (nI 0)]))] ++ ([(q0, .inl (G.2 3, 6, .inr (.inr (.inr (.inr (va_up (va_up (va_up (va_up (va_up (fun _ => none) 0 (some (u2 0))) 1 (some (u4 0))) 2 (some (u6 0))) 3 (some (u8 0))) 4 (some (u10 0))))))))] ++ (tkw G u2 tk0 rk0 ++ (tkw G u4 tk0 rk0 ++ (tkw G u6 tk0 rk0 ++ (tkw G u8 tk0 rk0 ++ (tkw G u10 tk0 rk0 ++ ([(q11, .inr (3, [.int (nI 0), .int (nI 0), .int (nI 0), .int (nI 0), .null, .null, .null, .int (nI 0), .int (nI 0), .int (nI 0), .int (nI 0), .null]))])))))))) H := wp_pm (List.Perm.of_eq (by simp only [List.append_assoc])) hP
  have hD : va_D A ([(b, .inr (1, [.ref q0, .int (nI 0), .int (nI 0)]))] ++ ([(q0, .inl (G.2 3, 6, .inr (.inr (.inr (.inr (va_up (va_up (va_up (va_up (va_up (fun _ => none) 0 (some (u2 0))) 1 (some (u4 0))) 2 (some (u6 0))) 3 (some (u8 0))) 4 (some (u10 0))))))))] ++ (tkw G u2 tk0 rk0 ++ (tkw G u4 tk0 rk0 ++ (tkw G u6 tk0 rk0 ++ (tkw G u8 tk0 rk0 ++ (tkw G u10 tk0 rk0 ++ ([(q11, .inr (3, [.int (nI 0), .int (nI 0), .int (nI 0), .int (nI 0), .null, .null, .null, .int (nI 0), .int (nI 0), .int (nI 0), .int (nI 0), .null]))])))))))) := wd_pm (List.Perm.of_eq (by simp only [List.append_assoc])) hD
  refine lv_dup hx hb dX2_init_29 rfl ?_
  refine ca_INv (rest := [.ref q11, .int (nI 5), .ref q0]) (wr := [(b, .inr (1, [.ref q0, .int (nI 0), .int (nI 0)]))] ++ ([(q0, .inl (G.2 3, 6, .inr (.inr (.inr (.inr (va_up (va_up (va_up (va_up (va_up (fun _ => none) 0 (some (u2 0))) 1 (some (u4 0))) 2 (some (u6 0))) 3 (some (u8 0))) 4 (some (u10 0))))))))] ++ (tkw G u2 tk0 rk0 ++ (tkw G u4 tk0 rk0 ++ (tkw G u6 tk0 rk0 ++ (tkw G u8 tk0 rk0 ++ (tkw G u10 tk0 rk0))))))) F hX (mX4_init l G q11) ⟨cA_N hts kw_60 kw_3 hX.2.2.2.2.2.2.2.2.2.1 hdX4_init ⟨Nat.le_of_ble_eq_true rfl, Nat.le_of_ble_eq_true rfl⟩, rfl, hts _ kw_59⟩ rfl hl.1 rfl (Nat.le_of_ble_eq_true rfl) dX2_init_30 ⟨Nat.le_of_ble_eq_true rfl, Nat.le_of_ble_eq_true rfl⟩ hP hD hS hA ((List.Perm.append_left _ ((List.Perm.append_left _ ((List.Perm.append_left _ ((List.Perm.append_left _ ((List.Perm.append_left _ ((List.Perm.append_left _ (List.perm_append_comm)).trans (pm_sw _ _ _))).trans (pm_sw _ _ _))).trans (pm_sw _ _ _))).trans (pm_sw _ _ _))).trans (pm_sw _ _ _))).trans (pm_sw _ _ _)) (fun u12 H locs hu12 hP hD hS => ?_)
  have hP2 : va_P G.1 vwCl ([(b, .inr (1, [.ref q0, .int (nI 0), .int (nI 0)]))] ++ ([(q0, .inl (G.2 3, 6, .inr (.inr (.inr (.inr (va_up (va_up (va_up (va_up (va_up (fun _ => none) 0 (some (u2 0))) 1 (some (u4 0))) 2 (some (u6 0))) 3 (some (u8 0))) 4 (some (u10 0))))))))] ++ (tkw G u2 tk0 rk0 ++ (tkw G u4 tk0 rk0 ++ (tkw G u6 tk0 rk0 ++ (tkw G u8 tk0 rk0 ++ (tkw G u10 tk0 rk0 ++ (tkw G u12 tk0 rk0)))))))) H := wp_pm ((List.Perm.append_left _ ((List.Perm.append_left _ ((List.Perm.append_left _ ((List.Perm.append_left _ ((List.Perm.append_left _ ((List.Perm.append_left _ (List.perm_append_comm)).trans (pm_sw _ _ _))).trans (pm_sw _ _ _))).trans (pm_sw _ _ _))).trans (pm_sw _ _ _))).trans (pm_sw _ _ _))).trans (pm_sw _ _ _)).symm hP
  have hD2 : va_D A ([(b, .inr (1, [.ref q0, .int (nI 0), .int (nI 0)]))] ++ ([(q0, .inl (G.2 3, 6, .inr (.inr (.inr (.inr (va_up (va_up (va_up (va_up (va_up (fun _ => none) 0 (some (u2 0))) 1 (some (u4 0))) 2 (some (u6 0))) 3 (some (u8 0))) 4 (some (u10 0))))))))] ++ (tkw G u2 tk0 rk0 ++ (tkw G u4 tk0 rk0 ++ (tkw G u6 tk0 rk0 ++ (tkw G u8 tk0 rk0 ++ (tkw G u10 tk0 rk0 ++ (tkw G u12 tk0 rk0)))))))) := wd_pm ((List.Perm.append_left _ ((List.Perm.append_left _ ((List.Perm.append_left _ ((List.Perm.append_left _ ((List.Perm.append_left _ ((List.Perm.append_left _ (List.perm_append_comm)).trans (pm_sw _ _ _))).trans (pm_sw _ _ _))).trans (pm_sw _ _ _))).trans (pm_sw _ _ _))).trans (pm_sw _ _ _))).trans (pm_sw _ _ _)).symm hD
  clear hP hD
  subst hu12
  have hP := hP2
  have hD := hD2
  clear hP2 hD2
  refine nv_astT (f := (va_up (va_up (va_up (va_up (va_up (fun _ => none) 0 (some (u2 0))) 1 (some (u4 0))) 2 (some (u6 0))) 3 (some (u8 0))) 4 (some (u10 0)))) (k := 5) hx hb hX hP hD hS 1 27 rfl rfl (by decide) (by decide) dX2_init_33 (fun H locs hP hD hS => ?_)
  have hP : va_P G.1 vwCl ([(b, .inr (1, [.ref q0, .int (nI 0), .int (nI 0)]))] ++ ([(q0, .inl (G.2 3, 6, .inr (.inr (.inr (.inr (va_up (va_up (va_up (va_up (va_up (va_up (fun _ => none) 0 (some (u2 0))) 1 (some (u4 0))) 2 (some (u6 0))) 3 (some (u8 0))) 4 (some (u10 0))) 5 (some (u12 0))))))))] ++ (tkw G u2 tk0 rk0 ++ (tkw G u4 tk0 rk0 ++ (tkw G u6 tk0 rk0 ++ (tkw G u8 tk0 rk0 ++ (tkw G u10 tk0 rk0 ++ (tkw G u12 tk0 rk0)))))))) H := hP
  have hD : va_D A ([(b, .inr (1, [.ref q0, .int (nI 0), .int (nI 0)]))] ++ ([(q0, .inl (G.2 3, 6, .inr (.inr (.inr (.inr (va_up (va_up (va_up (va_up (va_up (va_up (fun _ => none) 0 (some (u2 0))) 1 (some (u4 0))) 2 (some (u6 0))) 3 (some (u8 0))) 4 (some (u10 0))) 5 (some (u12 0))))))))] ++ (tkw G u2 tk0 rk0 ++ (tkw G u4 tk0 rk0 ++ (tkw G u6 tk0 rk0 ++ (tkw G u8 tk0 rk0 ++ (tkw G u10 tk0 rk0 ++ (tkw G u12 tk0 rk0)))))))) := hD
  refine lv_iinc (v := nI 6) (lv' := [(1, .int (nI 6)), (0, .ref b)]) hx hb dX2_init_34 hl (k := 1) rfl (by decide) (by decide) rfl (fun ls hl => ?_)
  have hl : lv_has ls 2 [(0, .ref b), (1, .int (nI 6))] := lv_sub hl [1, 0] rfl
  refine lv_goto (tgt := 15) hx hb dX2_init_37 (by decide) ?_
  refine lv_iload_n hx hb dX2_init_15 rfl (lv_at hl 1 rfl) ?_
  refine lv_bipush (v := nI 6) hx hb dX2_init_16 (by decide) ?_
  refine nv_ge (x := 6) (y := 6) (tgt := 40) hx hb dX2_init_18 (by decide) (by decide) (by decide) (fun _ => ?_) (fun h9 => absurd h9 (by decide))
  have hP : va_P G.1 vwCl ([(b, .inr (1, [.ref q0, .int (nI 0), .int (nI 0)])), (q0, .inl (G.2 3, 6, .inr (.inr (.inr (.inr (fun k => some ((adT [u2, u4, u6, u8, u10, u12]) k 0)))))))] ++ (tkw G u2 tk0 rk0 ++ (tkw G u4 tk0 rk0 ++ (tkw G u6 tk0 rk0 ++ (tkw G u8 tk0 rk0 ++ (tkw G u10 tk0 rk0 ++ (tkw G u12 tk0 rk0))))))) H := wp_setT (ws := [(b, .inr (1, [.ref q0, .int (nI 0), .int (nI 0)])), (q0, .inl (G.2 3, 6, .inr (.inr (.inr (.inr (va_up (va_up (va_up (va_up (va_up (va_up (fun _ => none) 0 (some (u2 0))) 1 (some (u4 0))) 2 (some (u6 0))) 3 (some (u8 0))) 4 (some (u10 0))) 5 (some (u12 0))))))))] ++ (tkw G u2 tk0 rk0 ++ (tkw G u4 tk0 rk0 ++ (tkw G u6 tk0 rk0 ++ (tkw G u8 tk0 rk0 ++ (tkw G u10 tk0 rk0 ++ (tkw G u12 tk0 rk0))))))) (q0 := 1) (f := (va_up (va_up (va_up (va_up (va_up (va_up (fun _ => none) 0 (some (u2 0))) 1 (some (u4 0))) 2 (some (u6 0))) 3 (some (u8 0))) 4 (some (u10 0))) 5 (some (u12 0)))) (fun j hj => by rcases (show j = 0 ∨ j = 1 ∨ j = 2 ∨ j = 3 ∨ j = 4 ∨ j = 5 by omega) with rfl | rfl | rfl | rfl | rfl | rfl <;> rfl) hP
  have hD : va_D A ([(b, .inr (1, [.ref q0, .int (nI 0), .int (nI 0)])), (q0, .inl (G.2 3, 6, .inr (.inr (.inr (.inr (fun k => some ((adT [u2, u4, u6, u8, u10, u12]) k 0)))))))] ++ (tkw G u2 tk0 rk0 ++ (tkw G u4 tk0 rk0 ++ (tkw G u6 tk0 rk0 ++ (tkw G u8 tk0 rk0 ++ (tkw G u10 tk0 rk0 ++ (tkw G u12 tk0 rk0))))))) := wd_set (ws := [(b, .inr (1, [.ref q0, .int (nI 0), .int (nI 0)])), (q0, .inl (G.2 3, 6, .inr (.inr (.inr (.inr (va_up (va_up (va_up (va_up (va_up (va_up (fun _ => none) 0 (some (u2 0))) 1 (some (u4 0))) 2 (some (u6 0))) 3 (some (u8 0))) 4 (some (u10 0))) 5 (some (u12 0))))))))] ++ (tkw G u2 tk0 rk0 ++ (tkw G u4 tk0 rk0 ++ (tkw G u6 tk0 rk0 ++ (tkw G u8 tk0 rk0 ++ (tkw G u10 tk0 rk0 ++ (tkw G u12 tk0 rk0))))))) (q0 := 1) hD
  exact re_v hx hb hr hlocks hS ((adL [b, q0], adT [u2, u4, u6, u8, u10, u12])) (show va_P G.1 vwCl (paw G (adL [b, q0], adT [u2, u4, u6, u8, u10, u12]).1 0 0 (adL [b, q0], adT [u2, u4, u6, u8, u10, u12]).2 (fun _ => tk0) (fun _ => rk0)) H from hP) (show va_D A (paw G (adL [b, q0], adT [u2, u4, u6, u8, u10, u12]).1 0 0 (adL [b, q0], adT [u2, u4, u6, u8, u10, u12]).2 (fun _ => tk0) (fun _ => rk0)) from hD) rfl dX2_init_40

theorem hdX8_init : hdOK yX8_init 0 := by decide +kernel
set_option maxHeartbeats 4000000 in
set_option maxRecDepth 100000 in
theorem mX8_init (l : Launch) (G : GG) (b : Nat) : Mv l yX8_init cX8_init 1 none (rmK 1 26 8 661) G [.ref b] [(b, .inr (7, [.int (nI 0), .null, .null, .null, .int (nI 0), .null, .null, .null, .int (nI 0), .null, .int (nI 0), .int (nI 0), .int (nI 0), .int (nI 0), .int (nI 0), .null, .int (nI 0)]))] (fun (u : Nat → Nat) => u 0 = b) (fun (u : Nat → Nat) => mow G u (fun j => 0) (some 0) (va_up (fun _ => 0) 0 2) (fun _ => nI 0) (fun _ => 0) (fun _ => 0) (fun _ => nI 0) (fun _ => nI 0) (fun _ => 0) (fun _ => 0)) := by
  refine Mv.of (cc := cX8_init) (nL := 1) (by decide) (Nat.le_of_ble_eq_true rfl) ?_
  intro p e s m below meth c A ls F hr hlocks hnm hX hA hD hP hS hl
  have F : CallFix p m c cX8_init 1 s [.ref b].toArray wA RX8 := F
  obtain ⟨hx, hb, hml, hown, hts⟩ := id F
  have hl : lv_has ls 1 [(0, .ref b)] := hl
  refine lv_aload_n hx hb dX8_init_0 rfl (lv_at hl 0 rfl) ?_
  refine W.objInit hx hb hown (hts _ kw_679) (hts _ kw_24) (hts _ kw_25) rfl (by rw [hml]; exact hl.1) rfl dX8_init_1 (Nat.le_of_ble_eq_true rfl) (Nat.le_of_ble_eq_true rfl) ?_
  refine W.eq (g2 := F0 m 4 ls []) rfl ?_
  refine lv_aload_n hx hb dX8_init_4 rfl (lv_at hl 0 rfl) ?_
  refine lv_bipush (v := nI 52) hx hb dX8_init_5 (by decide) ?_
  refine nw_I (n := 52) hx hb (hts _ kw_55) hX hP hD hS hA (by decide) (Nat.le_of_ble_eq_true rfl) (Nat.le_of_ble_eq_true rfl) dX8_init_7 (fun q0 H hP hD hS => ?_)
  have hP : va_P G.1 vwCl ([(b, .inr (7, [.int (nI 0), .null, .null, .null, .int (nI 0), .null, .null, .null, .int (nI 0), .null, .int (nI 0), .int (nI 0), .int (nI 0), .int (nI 0), .int (nI 0), .null, .int (nI 0)]))] ++ ([(q0, .inl (G.2 0, 52, .inl (fun _ => nI 0)))])) H := hP
  have hD : va_D A ([(b, .inr (7, [.int (nI 0), .null, .null, .null, .int (nI 0), .null, .null, .null, .int (nI 0), .null, .int (nI 0), .int (nI 0), .int (nI 0), .int (nI 0), .int (nI 0), .null, .int (nI 0)]))] ++ ([(q0, .inl (G.2 0, 52, .inl (fun _ => nI 0)))])) := hD
  refine va_putF (D := G.1) (ci := 7) (v := .ref q0) (ty := tyX8 1) (C := RX8) (T := TX8) (N := 17) hx hb hts inA8 tyX8 tyX8_ok nmX8 hown hX.1 hP hD hS 0 rfl rfl 1 (by decide) (hts _ kw_681) (fun _ h9 => h9) rfl hnm rfl (tyX8_ok 1 (by decide)) rfl rfl (Nat.le_of_ble_eq_true rfl) dX8_init_9 (fun H locs hP hD hS => ?_)
  have hP : va_P G.1 vwCl ([(b, .inr (7, [.int (nI 0), .ref q0, .null, .null, .int (nI 0), .null, .null, .null, .int (nI 0), .null, .int (nI 0), .int (nI 0), .int (nI 0), .int (nI 0), .int (nI 0), .null, .int (nI 0)]))] ++ ([(q0, .inl (G.2 0, 52, .inl (fun _ => nI 0)))])) H := hP
  have hD : va_D A ([(b, .inr (7, [.int (nI 0), .ref q0, .null, .null, .int (nI 0), .null, .null, .null, .int (nI 0), .null, .int (nI 0), .int (nI 0), .int (nI 0), .int (nI 0), .int (nI 0), .null, .int (nI 0)]))] ++ ([(q0, .inl (G.2 0, 52, .inl (fun _ => nI 0)))])) := hD
  refine lv_aload_n hx hb dX8_init_12 rfl (lv_at hl 0 rfl) ?_
  refine lv_bipush (v := nI 52) hx hb dX8_init_13 (by decide) ?_
  refine nw_I (n := 52) hx hb (hts _ kw_55) hX hP hD hS hA (by decide) (Nat.le_of_ble_eq_true rfl) (Nat.le_of_ble_eq_true rfl) dX8_init_15 (fun q1 H hP hD hS => ?_)
  have hP : va_P G.1 vwCl ([(b, .inr (7, [.int (nI 0), .ref q0, .null, .null, .int (nI 0), .null, .null, .null, .int (nI 0), .null, .int (nI 0), .int (nI 0), .int (nI 0), .int (nI 0), .int (nI 0), .null, .int (nI 0)]))] ++ ([(q0, .inl (G.2 0, 52, .inl (fun _ => nI 0)))] ++ ([(q1, .inl (G.2 0, 52, .inl (fun _ => nI 0)))]))) H := wp_pm (List.Perm.of_eq (by simp only [List.append_assoc])) hP
  have hD : va_D A ([(b, .inr (7, [.int (nI 0), .ref q0, .null, .null, .int (nI 0), .null, .null, .null, .int (nI 0), .null, .int (nI 0), .int (nI 0), .int (nI 0), .int (nI 0), .int (nI 0), .null, .int (nI 0)]))] ++ ([(q0, .inl (G.2 0, 52, .inl (fun _ => nI 0)))] ++ ([(q1, .inl (G.2 0, 52, .inl (fun _ => nI 0)))]))) := wd_pm (List.Perm.of_eq (by simp only [List.append_assoc])) hD
  refine va_putF (D := G.1) (ci := 7) (v := .ref q1) (ty := tyX8 2) (C := RX8) (T := TX8) (N := 17) hx hb hts inA8 tyX8 tyX8_ok nmX8 hown hX.1 hP hD hS 0 rfl rfl 2 (by decide) (hts _ kw_682) (fun _ h9 => h9) rfl hnm rfl (tyX8_ok 2 (by decide)) rfl rfl (Nat.le_of_ble_eq_true rfl) dX8_init_17 (fun H locs hP hD hS => ?_)
  have hP : va_P G.1 vwCl ([(b, .inr (7, [.int (nI 0), .ref q0, .ref q1, .null, .int (nI 0), .null, .null, .null, .int (nI 0), .null, .int (nI 0), .int (nI 0), .int (nI 0), .int (nI 0), .int (nI 0), .null, .int (nI 0)]))] ++ ([(q0, .inl (G.2 0, 52, .inl (fun _ => nI 0)))] ++ ([(q1, .inl (G.2 0, 52, .inl (fun _ => nI 0)))]))) H := hP
  have hD : va_D A ([(b, .inr (7, [.int (nI 0), .ref q0, .ref q1, .null, .int (nI 0), .null, .null, .null, .int (nI 0), .null, .int (nI 0), .int (nI 0), .int (nI 0), .int (nI 0), .int (nI 0), .null, .int (nI 0)]))] ++ ([(q0, .inl (G.2 0, 52, .inl (fun _ => nI 0)))] ++ ([(q1, .inl (G.2 0, 52, .inl (fun _ => nI 0)))]))) := hD
  refine lv_aload_n hx hb dX8_init_20 rfl (lv_at hl 0 rfl) ?_
  refine lv_sipush (v := nI 312) hx hb dX8_init_21 (by decide) ?_
  refine nw_I (n := 312) hx hb (hts _ kw_55) hX hP hD hS hA (by decide) (Nat.le_of_ble_eq_true rfl) (Nat.le_of_ble_eq_true rfl) dX8_init_24 (fun q2 H hP hD hS => ?_)
  have hP : va_P G.1 vwCl ([(b, .inr (7, [.int (nI 0), .ref q0, .ref q1, .null, .int (nI 0), .null, .null, .null, .int (nI 0), .null, .int (nI 0), .int (nI 0), .int (nI 0), .int (nI 0), .int (nI 0), .null, .int (nI 0)]))] ++ ([(q0, .inl (G.2 0, 52, .inl (fun _ => nI 0)))] ++ ([(q1, .inl (G.2 0, 52, .inl (fun _ => nI 0)))] ++ ([(q2, .inl (G.2 0, 312, .inl (fun _ => nI 0)))])))) H := wp_pm (List.Perm.of_eq (by simp only [List.append_assoc])) hP
  have hD : va_D A ([(b, .inr (7, [.int (nI 0), .ref q0, .ref q1, .null, .int (nI 0), .null, .null, .null, .int (nI 0), .null, .int (nI 0), .int (nI 0), .int (nI 0), .int (nI 0), .int (nI 0), .null, .int (nI 0)]))] ++ ([(q0, .inl (G.2 0, 52, .inl (fun _ => nI 0)))] ++ ([(q1, .inl (G.2 0, 52, .inl (fun _ => nI 0)))] ++ ([(q2, .inl (G.2 0, 312, .inl (fun _ => nI 0)))])))) := wd_pm (List.Perm.of_eq (by simp only [List.append_assoc])) hD
  refine va_putF (D := G.1) (ci := 7) (v := .ref q2) (ty := tyX8 3) (C := RX8) (T := TX8) (N := 17) hx hb hts inA8 tyX8 tyX8_ok nmX8 hown hX.1 hP hD hS 0 rfl rfl 3 (by decide) (hts _ kw_683) (fun _ h9 => h9) rfl hnm rfl (tyX8_ok 3 (by decide)) rfl rfl (Nat.le_of_ble_eq_true rfl) dX8_init_26 (fun H locs hP hD hS => ?_)
  have hP : va_P G.1 vwCl ([(b, .inr (7, [.int (nI 0), .ref q0, .ref q1, .ref q2, .int (nI 0), .null, .null, .null, .int (nI 0), .null, .int (nI 0), .int (nI 0), .int (nI 0), .int (nI 0), .int (nI 0), .null, .int (nI 0)]))] ++ ([(q0, .inl (G.2 0, 52, .inl (fun _ => nI 0)))] ++ ([(q1, .inl (G.2 0, 52, .inl (fun _ => nI 0)))] ++ ([(q2, .inl (G.2 0, 312, .inl (fun _ => nI 0)))])))) H := hP
  have hD : va_D A ([(b, .inr (7, [.int (nI 0), .ref q0, .ref q1, .ref q2, .int (nI 0), .null, .null, .null, .int (nI 0), .null, .int (nI 0), .int (nI 0), .int (nI 0), .int (nI 0), .int (nI 0), .null, .int (nI 0)]))] ++ ([(q0, .inl (G.2 0, 52, .inl (fun _ => nI 0)))] ++ ([(q1, .inl (G.2 0, 52, .inl (fun _ => nI 0)))] ++ ([(q2, .inl (G.2 0, 312, .inl (fun _ => nI 0)))])))) := hD
  refine lv_aload_n hx hb dX8_init_29 rfl (lv_at hl 0 rfl) ?_
  refine lv_bipush (v := nI 104) hx hb dX8_init_30 (by decide) ?_
  refine nw_I (n := 104) hx hb (hts _ kw_55) hX hP hD hS hA (by decide) (Nat.le_of_ble_eq_true rfl) (Nat.le_of_ble_eq_true rfl) dX8_init_32 (fun q3 H hP hD hS => ?_)
  have hP : va_P G.1 vwCl ([(b, .inr (7, [.int (nI 0), .ref q0, .ref q1, .ref q2, .int (nI 0), .null, .null, .null, .int (nI 0), .null, .int (nI 0), .int (nI 0), .int (nI 0), .int (nI 0), .int (nI 0), .null, .int (nI 0)]))] ++ ([(q0, .inl (G.2 0, 52, .inl (fun _ => nI 0)))] ++ ([(q1, .inl (G.2 0, 52, .inl (fun _ => nI 0)))] ++ ([(q2, .inl (G.2 0, 312, .inl (fun _ => nI 0)))] ++ ([(q3, .inl (G.2 0, 104, .inl (fun _ => nI 0)))]))))) H := wp_pm (List.Perm.of_eq (by simp only [List.append_assoc])) hP
  have hD : va_D A ([(b, .inr (7, [.int (nI 0), .ref q0, .ref q1, .ref q2, .int (nI 0), .null, .null, .null, .int (nI 0), .null, .int (nI 0), .int (nI 0), .int (nI 0), .int (nI 0), .int (nI 0), .null, .int (nI 0)]))] ++ ([(q0, .inl (G.2 0, 52, .inl (fun _ => nI 0)))] ++ ([(q1, .inl (G.2 0, 52, .inl (fun _ => nI 0)))] ++ ([(q2, .inl (G.2 0, 312, .inl (fun _ => nI 0)))] ++ ([(q3, .inl (G.2 0, 104, .inl (fun _ => nI 0)))]))))) := wd_pm (List.Perm.of_eq (by simp only [List.append_assoc])) hD
  refine va_putF (D := G.1) (ci := 7) (v := .ref q3) (ty := tyX8 5) (C := RX8) (T := TX8) (N := 17) hx hb hts inA8 tyX8 tyX8_ok nmX8 hown hX.1 hP hD hS 0 rfl rfl 5 (by decide) (hts _ kw_685) (fun _ h9 => h9) rfl hnm rfl (tyX8_ok 5 (by decide)) rfl rfl (Nat.le_of_ble_eq_true rfl) dX8_init_34 (fun H locs hP hD hS => ?_)
  have hP : va_P G.1 vwCl ([(b, .inr (7, [.int (nI 0), .ref q0, .ref q1, .ref q2, .int (nI 0), .ref q3, .null, .null, .int (nI 0), .null, .int (nI 0), .int (nI 0), .int (nI 0), .int (nI 0), .int (nI 0), .null, .int (nI 0)]))] ++ ([(q0, .inl (G.2 0, 52, .inl (fun _ => nI 0)))] ++ ([(q1, .inl (G.2 0, 52, .inl (fun _ => nI 0)))] ++ ([(q2, .inl (G.2 0, 312, .inl (fun _ => nI 0)))] ++ ([(q3, .inl (G.2 0, 104, .inl (fun _ => nI 0)))]))))) H := hP
  have hD : va_D A ([(b, .inr (7, [.int (nI 0), .ref q0, .ref q1, .ref q2, .int (nI 0), .ref q3, .null, .null, .int (nI 0), .null, .int (nI 0), .int (nI 0), .int (nI 0), .int (nI 0), .int (nI 0), .null, .int (nI 0)]))] ++ ([(q0, .inl (G.2 0, 52, .inl (fun _ => nI 0)))] ++ ([(q1, .inl (G.2 0, 52, .inl (fun _ => nI 0)))] ++ ([(q2, .inl (G.2 0, 312, .inl (fun _ => nI 0)))] ++ ([(q3, .inl (G.2 0, 104, .inl (fun _ => nI 0)))]))))) := hD
  refine lv_aload_n hx hb dX8_init_37 rfl (lv_at hl 0 rfl) ?_
  refine lv_iconst (v := nI 2) hx hb dX8_init_38 (by decide) ?_
  refine nw_Z (n := 2) hx hb (hts _ kw_222) hX hP hD hS hA (by decide) (Nat.le_of_ble_eq_true rfl) (Nat.le_of_ble_eq_true rfl) dX8_init_39 (fun q4 H hP hD hS => ?_)
  have hP : va_P G.1 vwCl ([(b, .inr (7, [.int (nI 0), .ref q0, .ref q1, .ref q2, .int (nI 0), .ref q3, .null, .null, .int (nI 0), .null, .int (nI 0), .int (nI 0), .int (nI 0), .int (nI 0), .int (nI 0), .null, .int (nI 0)]))] ++ ([(q0, .inl (G.2 0, 52, .inl (fun _ => nI 0)))] ++ ([(q1, .inl (G.2 0, 52, .inl (fun _ => nI 0)))] ++ ([(q2, .inl (G.2 0, 312, .inl (fun _ => nI 0)))] ++ ([(q3, .inl (G.2 0, 104, .inl (fun _ => nI 0)))] ++ ([(q4, .inl (G.2 1, 2, .inl (fun _ => nI 0)))])))))) H := wp_pm (List.Perm.of_eq (by simp only [List.append_assoc])) hP
  have hD : va_D A ([(b, .inr (7, [.int (nI 0), .ref q0, .ref q1, .ref q2, .int (nI 0), .ref q3, .null, .null, .int (nI 0), .null, .int (nI 0), .int (nI 0), .int (nI 0), .int (nI 0), .int (nI 0), .null, .int (nI 0)]))] ++ ([(q0, .inl (G.2 0, 52, .inl (fun _ => nI 0)))] ++ ([(q1, .inl (G.2 0, 52, .inl (fun _ => nI 0)))] ++ ([(q2, .inl (G.2 0, 312, .inl (fun _ => nI 0)))] ++ ([(q3, .inl (G.2 0, 104, .inl (fun _ => nI 0)))] ++ ([(q4, .inl (G.2 1, 2, .inl (fun _ => nI 0)))])))))) := wd_pm (List.Perm.of_eq (by simp only [List.append_assoc])) hD
  refine va_putF (D := G.1) (ci := 7) (v := .ref q4) (ty := tyX8 6) (C := RX8) (T := TX8) (N := 17) hx hb hts inA8 tyX8 tyX8_ok nmX8 hown hX.1 hP hD hS 0 rfl rfl 6 (by decide) (hts _ kw_686) (fun _ h9 => h9) rfl hnm rfl (tyX8_ok 6 (by decide)) rfl rfl (Nat.le_of_ble_eq_true rfl) dX8_init_41 (fun H locs hP hD hS => ?_)
  have hP : va_P G.1 vwCl ([(b, .inr (7, [.int (nI 0), .ref q0, .ref q1, .ref q2, .int (nI 0), .ref q3, .ref q4, .null, .int (nI 0), .null, .int (nI 0), .int (nI 0), .int (nI 0), .int (nI 0), .int (nI 0), .null, .int (nI 0)]))] ++ ([(q0, .inl (G.2 0, 52, .inl (fun _ => nI 0)))] ++ ([(q1, .inl (G.2 0, 52, .inl (fun _ => nI 0)))] ++ ([(q2, .inl (G.2 0, 312, .inl (fun _ => nI 0)))] ++ ([(q3, .inl (G.2 0, 104, .inl (fun _ => nI 0)))] ++ ([(q4, .inl (G.2 1, 2, .inl (fun _ => nI 0)))])))))) H := hP
  have hD : va_D A ([(b, .inr (7, [.int (nI 0), .ref q0, .ref q1, .ref q2, .int (nI 0), .ref q3, .ref q4, .null, .int (nI 0), .null, .int (nI 0), .int (nI 0), .int (nI 0), .int (nI 0), .int (nI 0), .null, .int (nI 0)]))] ++ ([(q0, .inl (G.2 0, 52, .inl (fun _ => nI 0)))] ++ ([(q1, .inl (G.2 0, 52, .inl (fun _ => nI 0)))] ++ ([(q2, .inl (G.2 0, 312, .inl (fun _ => nI 0)))] ++ ([(q3, .inl (G.2 0, 104, .inl (fun _ => nI 0)))] ++ ([(q4, .inl (G.2 1, 2, .inl (fun _ => nI 0)))])))))) := hD
  refine lv_aload_n hx hb dX8_init_44 rfl (lv_at hl 0 rfl) ?_
  refine lv_bipush (v := nI 12) hx hb dX8_init_45 (by decide) ?_
  refine nw_I (n := 12) hx hb (hts _ kw_55) hX hP hD hS hA (by decide) (Nat.le_of_ble_eq_true rfl) (Nat.le_of_ble_eq_true rfl) dX8_init_47 (fun q5 H hP hD hS => ?_)
  have hP : va_P G.1 vwCl ([(b, .inr (7, [.int (nI 0), .ref q0, .ref q1, .ref q2, .int (nI 0), .ref q3, .ref q4, .null, .int (nI 0), .null, .int (nI 0), .int (nI 0), .int (nI 0), .int (nI 0), .int (nI 0), .null, .int (nI 0)]))] ++ ([(q0, .inl (G.2 0, 52, .inl (fun _ => nI 0)))] ++ ([(q1, .inl (G.2 0, 52, .inl (fun _ => nI 0)))] ++ ([(q2, .inl (G.2 0, 312, .inl (fun _ => nI 0)))] ++ ([(q3, .inl (G.2 0, 104, .inl (fun _ => nI 0)))] ++ ([(q4, .inl (G.2 1, 2, .inl (fun _ => nI 0)))] ++ ([(q5, .inl (G.2 0, 12, .inl (fun _ => nI 0)))]))))))) H := wp_pm (List.Perm.of_eq (by simp only [List.append_assoc])) hP
  have hD : va_D A ([(b, .inr (7, [.int (nI 0), .ref q0, .ref q1, .ref q2, .int (nI 0), .ref q3, .ref q4, .null, .int (nI 0), .null, .int (nI 0), .int (nI 0), .int (nI 0), .int (nI 0), .int (nI 0), .null, .int (nI 0)]))] ++ ([(q0, .inl (G.2 0, 52, .inl (fun _ => nI 0)))] ++ ([(q1, .inl (G.2 0, 52, .inl (fun _ => nI 0)))] ++ ([(q2, .inl (G.2 0, 312, .inl (fun _ => nI 0)))] ++ ([(q3, .inl (G.2 0, 104, .inl (fun _ => nI 0)))] ++ ([(q4, .inl (G.2 1, 2, .inl (fun _ => nI 0)))] ++ ([(q5, .inl (G.2 0, 12, .inl (fun _ => nI 0)))]))))))) := wd_pm (List.Perm.of_eq (by simp only [List.append_assoc])) hD
  refine va_putF (D := G.1) (ci := 7) (v := .ref q5) (ty := tyX8 7) (C := RX8) (T := TX8) (N := 17) hx hb hts inA8 tyX8 tyX8_ok nmX8 hown hX.1 hP hD hS 0 rfl rfl 7 (by decide) (hts _ kw_687) (fun _ h9 => h9) rfl hnm rfl (tyX8_ok 7 (by decide)) rfl rfl (Nat.le_of_ble_eq_true rfl) dX8_init_49 (fun H locs hP hD hS => ?_)
  have hP : va_P G.1 vwCl ([(b, .inr (7, [.int (nI 0), .ref q0, .ref q1, .ref q2, .int (nI 0), .ref q3, .ref q4, .ref q5, .int (nI 0), .null, .int (nI 0), .int (nI 0), .int (nI 0), .int (nI 0), .int (nI 0), .null, .int (nI 0)]))] ++ ([(q0, .inl (G.2 0, 52, .inl (fun _ => nI 0)))] ++ ([(q1, .inl (G.2 0, 52, .inl (fun _ => nI 0)))] ++ ([(q2, .inl (G.2 0, 312, .inl (fun _ => nI 0)))] ++ ([(q3, .inl (G.2 0, 104, .inl (fun _ => nI 0)))] ++ ([(q4, .inl (G.2 1, 2, .inl (fun _ => nI 0)))] ++ ([(q5, .inl (G.2 0, 12, .inl (fun _ => nI 0)))]))))))) H := hP
  have hD : va_D A ([(b, .inr (7, [.int (nI 0), .ref q0, .ref q1, .ref q2, .int (nI 0), .ref q3, .ref q4, .ref q5, .int (nI 0), .null, .int (nI 0), .int (nI 0), .int (nI 0), .int (nI 0), .int (nI 0), .null, .int (nI 0)]))] ++ ([(q0, .inl (G.2 0, 52, .inl (fun _ => nI 0)))] ++ ([(q1, .inl (G.2 0, 52, .inl (fun _ => nI 0)))] ++ ([(q2, .inl (G.2 0, 312, .inl (fun _ => nI 0)))] ++ ([(q3, .inl (G.2 0, 104, .inl (fun _ => nI 0)))] ++ ([(q4, .inl (G.2 1, 2, .inl (fun _ => nI 0)))] ++ ([(q5, .inl (G.2 0, 12, .inl (fun _ => nI 0)))]))))))) := hD
  refine lv_aload_n hx hb dX8_init_52 rfl (lv_at hl 0 rfl) ?_
  refine lv_bipush (v := nI 120) hx hb dX8_init_53 (by decide) ?_
  refine nw_B (n := 120) hx hb (hts _ kw_381) hX hP hD hS hA (by decide) (Nat.le_of_ble_eq_true rfl) (Nat.le_of_ble_eq_true rfl) dX8_init_55 (fun q6 H hP hD hS => ?_)
  have hP : va_P G.1 vwCl ([(b, .inr (7, [.int (nI 0), .ref q0, .ref q1, .ref q2, .int (nI 0), .ref q3, .ref q4, .ref q5, .int (nI 0), .null, .int (nI 0), .int (nI 0), .int (nI 0), .int (nI 0), .int (nI 0), .null, .int (nI 0)]))] ++ ([(q0, .inl (G.2 0, 52, .inl (fun _ => nI 0)))] ++ ([(q1, .inl (G.2 0, 52, .inl (fun _ => nI 0)))] ++ ([(q2, .inl (G.2 0, 312, .inl (fun _ => nI 0)))] ++ ([(q3, .inl (G.2 0, 104, .inl (fun _ => nI 0)))] ++ ([(q4, .inl (G.2 1, 2, .inl (fun _ => nI 0)))] ++ ([(q5, .inl (G.2 0, 12, .inl (fun _ => nI 0)))] ++ ([(q6, .inl (G.2 2, 120, .inl (fun _ => sb_b 0)))])))))))) H := wp_pm (List.Perm.of_eq (by simp only [List.append_assoc])) hP
  have hD : va_D A ([(b, .inr (7, [.int (nI 0), .ref q0, .ref q1, .ref q2, .int (nI 0), .ref q3, .ref q4, .ref q5, .int (nI 0), .null, .int (nI 0), .int (nI 0), .int (nI 0), .int (nI 0), .int (nI 0), .null, .int (nI 0)]))] ++ ([(q0, .inl (G.2 0, 52, .inl (fun _ => nI 0)))] ++ ([(q1, .inl (G.2 0, 52, .inl (fun _ => nI 0)))] ++ ([(q2, .inl (G.2 0, 312, .inl (fun _ => nI 0)))] ++ ([(q3, .inl (G.2 0, 104, .inl (fun _ => nI 0)))] ++ ([(q4, .inl (G.2 1, 2, .inl (fun _ => nI 0)))] ++ ([(q5, .inl (G.2 0, 12, .inl (fun _ => nI 0)))] ++ ([(q6, .inl (G.2 2, 120, .inl (fun _ => sb_b 0)))])))))))) := wd_pm (List.Perm.of_eq (by simp only [List.append_assoc])) hD
  refine va_putF (D := G.1) (ci := 7) (v := .ref q6) (ty := tyX8 9) (C := RX8) (T := TX8) (N := 17) hx hb hts inA8 tyX8 tyX8_ok nmX8 hown hX.1 hP hD hS 0 rfl rfl 9 (by decide) (hts _ kw_689) (fun _ h9 => h9) rfl hnm rfl (tyX8_ok 9 (by decide)) rfl rfl (Nat.le_of_ble_eq_true rfl) dX8_init_57 (fun H locs hP hD hS => ?_)
  have hP : va_P G.1 vwCl ([(b, .inr (7, [.int (nI 0), .ref q0, .ref q1, .ref q2, .int (nI 0), .ref q3, .ref q4, .ref q5, .int (nI 0), .ref q6, .int (nI 0), .int (nI 0), .int (nI 0), .int (nI 0), .int (nI 0), .null, .int (nI 0)]))] ++ ([(q0, .inl (G.2 0, 52, .inl (fun _ => nI 0)))] ++ ([(q1, .inl (G.2 0, 52, .inl (fun _ => nI 0)))] ++ ([(q2, .inl (G.2 0, 312, .inl (fun _ => nI 0)))] ++ ([(q3, .inl (G.2 0, 104, .inl (fun _ => nI 0)))] ++ ([(q4, .inl (G.2 1, 2, .inl (fun _ => nI 0)))] ++ ([(q5, .inl (G.2 0, 12, .inl (fun _ => nI 0)))] ++ ([(q6, .inl (G.2 2, 120, .inl (fun _ => sb_b 0)))])))))))) H := hP
  have hD : va_D A ([(b, .inr (7, [.int (nI 0), .ref q0, .ref q1, .ref q2, .int (nI 0), .ref q3, .ref q4, .ref q5, .int (nI 0), .ref q6, .int (nI 0), .int (nI 0), .int (nI 0), .int (nI 0), .int (nI 0), .null, .int (nI 0)]))] ++ ([(q0, .inl (G.2 0, 52, .inl (fun _ => nI 0)))] ++ ([(q1, .inl (G.2 0, 52, .inl (fun _ => nI 0)))] ++ ([(q2, .inl (G.2 0, 312, .inl (fun _ => nI 0)))] ++ ([(q3, .inl (G.2 0, 104, .inl (fun _ => nI 0)))] ++ ([(q4, .inl (G.2 1, 2, .inl (fun _ => nI 0)))] ++ ([(q5, .inl (G.2 0, 12, .inl (fun _ => nI 0)))] ++ ([(q6, .inl (G.2 2, 120, .inl (fun _ => sb_b 0)))])))))))) := hD
  refine lv_aload_n hx hb dX8_init_60 rfl (lv_at hl 0 rfl) ?_
  refine lv_bipush (v := nI 7) hx hb dX8_init_61 (by decide) ?_
  refine nw_I (n := 7) hx hb (hts _ kw_55) hX hP hD hS hA (by decide) (Nat.le_of_ble_eq_true rfl) (Nat.le_of_ble_eq_true rfl) dX8_init_63 (fun q7 H hP hD hS => ?_)
  have hP : va_P G.1 vwCl ([(b, .inr (7, [.int (nI 0), .ref q0, .ref q1, .ref q2, .int (nI 0), .ref q3, .ref q4, .ref q5, .int (nI 0), .ref q6, .int (nI 0), .int (nI 0), .int (nI 0), .int (nI 0), .int (nI 0), .null, .int (nI 0)]))] ++ ([(q0, .inl (G.2 0, 52, .inl (fun _ => nI 0)))] ++ ([(q1, .inl (G.2 0, 52, .inl (fun _ => nI 0)))] ++ ([(q2, .inl (G.2 0, 312, .inl (fun _ => nI 0)))] ++ ([(q3, .inl (G.2 0, 104, .inl (fun _ => nI 0)))] ++ ([(q4, .inl (G.2 1, 2, .inl (fun _ => nI 0)))] ++ ([(q5, .inl (G.2 0, 12, .inl (fun _ => nI 0)))] ++ ([(q6, .inl (G.2 2, 120, .inl (fun _ => sb_b 0)))] ++ ([(q7, .inl (G.2 0, 7, .inl (fun _ => nI 0)))]))))))))) H := wp_pm (List.Perm.of_eq (by simp only [List.append_assoc])) hP
  have hD : va_D A ([(b, .inr (7, [.int (nI 0), .ref q0, .ref q1, .ref q2, .int (nI 0), .ref q3, .ref q4, .ref q5, .int (nI 0), .ref q6, .int (nI 0), .int (nI 0), .int (nI 0), .int (nI 0), .int (nI 0), .null, .int (nI 0)]))] ++ ([(q0, .inl (G.2 0, 52, .inl (fun _ => nI 0)))] ++ ([(q1, .inl (G.2 0, 52, .inl (fun _ => nI 0)))] ++ ([(q2, .inl (G.2 0, 312, .inl (fun _ => nI 0)))] ++ ([(q3, .inl (G.2 0, 104, .inl (fun _ => nI 0)))] ++ ([(q4, .inl (G.2 1, 2, .inl (fun _ => nI 0)))] ++ ([(q5, .inl (G.2 0, 12, .inl (fun _ => nI 0)))] ++ ([(q6, .inl (G.2 2, 120, .inl (fun _ => sb_b 0)))] ++ ([(q7, .inl (G.2 0, 7, .inl (fun _ => nI 0)))]))))))))) := wd_pm (List.Perm.of_eq (by simp only [List.append_assoc])) hD
  refine va_putF (D := G.1) (ci := 7) (v := .ref q7) (ty := tyX8 15) (C := RX8) (T := TX8) (N := 17) hx hb hts inA8 tyX8 tyX8_ok nmX8 hown hX.1 hP hD hS 0 rfl rfl 15 (by decide) (hts _ kw_695) (fun _ h9 => h9) rfl hnm rfl (tyX8_ok 15 (by decide)) rfl rfl (Nat.le_of_ble_eq_true rfl) dX8_init_65 (fun H locs hP hD hS => ?_)
  have hP : va_P G.1 vwCl ([(b, .inr (7, [.int (nI 0), .ref q0, .ref q1, .ref q2, .int (nI 0), .ref q3, .ref q4, .ref q5, .int (nI 0), .ref q6, .int (nI 0), .int (nI 0), .int (nI 0), .int (nI 0), .int (nI 0), .ref q7, .int (nI 0)]))] ++ ([(q0, .inl (G.2 0, 52, .inl (fun _ => nI 0)))] ++ ([(q1, .inl (G.2 0, 52, .inl (fun _ => nI 0)))] ++ ([(q2, .inl (G.2 0, 312, .inl (fun _ => nI 0)))] ++ ([(q3, .inl (G.2 0, 104, .inl (fun _ => nI 0)))] ++ ([(q4, .inl (G.2 1, 2, .inl (fun _ => nI 0)))] ++ ([(q5, .inl (G.2 0, 12, .inl (fun _ => nI 0)))] ++ ([(q6, .inl (G.2 2, 120, .inl (fun _ => sb_b 0)))] ++ ([(q7, .inl (G.2 0, 7, .inl (fun _ => nI 0)))]))))))))) H := hP
  have hD : va_D A ([(b, .inr (7, [.int (nI 0), .ref q0, .ref q1, .ref q2, .int (nI 0), .ref q3, .ref q4, .ref q5, .int (nI 0), .ref q6, .int (nI 0), .int (nI 0), .int (nI 0), .int (nI 0), .int (nI 0), .ref q7, .int (nI 0)]))] ++ ([(q0, .inl (G.2 0, 52, .inl (fun _ => nI 0)))] ++ ([(q1, .inl (G.2 0, 52, .inl (fun _ => nI 0)))] ++ ([(q2, .inl (G.2 0, 312, .inl (fun _ => nI 0)))] ++ ([(q3, .inl (G.2 0, 104, .inl (fun _ => nI 0)))] ++ ([(q4, .inl (G.2 1, 2, .inl (fun _ => nI 0)))] ++ ([(q5, .inl (G.2 0, 12, .inl (fun _ => nI 0)))] ++ ([(q6, .inl (G.2 2, 120, .inl (fun _ => sb_b 0)))] ++ ([(q7, .inl (G.2 0, 7, .inl (fun _ => nI 0)))]))))))))) := hD
  refine lv_aload_n hx hb dX8_init_68 rfl (lv_at hl 0 rfl) ?_
  refine va_get (D := G.1) (ci := 7) (v := .ref q0) (C := RX8) (T := TX8) (N := 17) hx hb hts inA8 hown hX.1 hP 0 rfl rfl 1 (by decide) (hts _ kw_681) (fun _ h9 => h9) rfl dX8_init_69 ?_
  refine lv_iconst (v := nI 0) hx hb dX8_init_72 (by decide) ?_
  refine lv_iconst (v := nI 2) hx hb dX8_init_73 (by decide) ?_
  refine nv_ast (f := fun _ => 0) (k := 0) (v := 2) hx hb hX hP hD hS 1 rfl (by decide) (by decide) dX8_init_74 (fun H locs hP hD hS => ?_)
  have hP : va_P G.1 vwCl ([(b, .inr (7, [.int (nI 0), .ref q0, .ref q1, .ref q2, .int (nI 0), .ref q3, .ref q4, .ref q5, .int (nI 0), .ref q6, .int (nI 0), .int (nI 0), .int (nI 0), .int (nI 0), .int (nI 0), .ref q7, .int (nI 0)]))] ++ ([(q0, .inl (G.2 0, 52, .inl (fun j => nI (va_up (fun _ => 0) 0 2 j))))] ++ ([(q1, .inl (G.2 0, 52, .inl (fun _ => nI 0)))] ++ ([(q2, .inl (G.2 0, 312, .inl (fun _ => nI 0)))] ++ ([(q3, .inl (G.2 0, 104, .inl (fun _ => nI 0)))] ++ ([(q4, .inl (G.2 1, 2, .inl (fun _ => nI 0)))] ++ ([(q5, .inl (G.2 0, 12, .inl (fun _ => nI 0)))] ++ ([(q6, .inl (G.2 2, 120, .inl (fun _ => sb_b 0)))] ++ ([(q7, .inl (G.2 0, 7, .inl (fun _ => nI 0)))]))))))))) H := hP
  have hD : va_D A ([(b, .inr (7, [.int (nI 0), .ref q0, .ref q1, .ref q2, .int (nI 0), .ref q3, .ref q4, .ref q5, .int (nI 0), .ref q6, .int (nI 0), .int (nI 0), .int (nI 0), .int (nI 0), .int (nI 0), .ref q7, .int (nI 0)]))] ++ ([(q0, .inl (G.2 0, 52, .inl (fun j => nI (va_up (fun _ => 0) 0 2 j))))] ++ ([(q1, .inl (G.2 0, 52, .inl (fun _ => nI 0)))] ++ ([(q2, .inl (G.2 0, 312, .inl (fun _ => nI 0)))] ++ ([(q3, .inl (G.2 0, 104, .inl (fun _ => nI 0)))] ++ ([(q4, .inl (G.2 1, 2, .inl (fun _ => nI 0)))] ++ ([(q5, .inl (G.2 0, 12, .inl (fun _ => nI 0)))] ++ ([(q6, .inl (G.2 2, 120, .inl (fun _ => sb_b 0)))] ++ ([(q7, .inl (G.2 0, 7, .inl (fun _ => nI 0)))]))))))))) := hD
  exact re_v hx hb hr hlocks hS (adL [b, q0, q1, q2, q3, q4, q5, q6, q7]) (show va_P G.1 vwCl (mow G (adL [b, q0, q1, q2, q3, q4, q5, q6, q7]) (fun j => 0) (some 0) (va_up (fun _ => 0) 0 2) (fun _ => nI 0) (fun _ => 0) (fun _ => 0) (fun _ => nI 0) (fun _ => nI 0) (fun _ => 0) (fun _ => 0)) H from hP) (show va_D A (mow G (adL [b, q0, q1, q2, q3, q4, q5, q6, q7]) (fun j => 0) (some 0) (va_up (fun _ => 0) 0 2) (fun _ => nI 0) (fun _ => 0) (fun _ => 0) (fun _ => nI 0) (fun _ => nI 0) (fun _ => 0) (fun _ => 0)) from hD) rfl dX8_init_75

