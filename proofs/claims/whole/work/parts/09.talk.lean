theorem hdX7_has : hdOK yX7_has 2 := by decide +kernel
set_option maxHeartbeats 4000000 in
set_option maxRecDepth 100000 in
theorem mX7_has (l : Launch) (G : GG) (set k : Nat) (hs : set < 2 ^ 31) (hk : k < 32) : Mi l yX7_has cX7_has 2 (some .boolean) (rmN 0 0) G [.int (nI set), .int (nI k)] (([] : va_W)) (fun (r9 : Int32) (_ : Unit) => r9 = (bI (set.testBit k))) (fun (_ : Unit) => ([] : va_W)) := by
  refine Mi.of (cc := cX7_has) (nL := 2) (by decide) (Nat.le_of_ble_eq_true rfl) ?_
  intro p e s m below meth c A ls F hr hlocks hnm hX hA hD hP hS hl
  have F : CallFix p m c cX7_has 2 s [.int (nI set), .int (nI k)].toArray wA RX7 := F
  obtain ⟨hx, hb, hml, hown, hts⟩ := id F
  have hl : lv_has ls 2 [(0, .int (nI set)), (1, .int (nI k))] := hl
  refine lv_iload_n hx hb dX7_has_0 rfl (lv_at hl 0 rfl) ?_
  refine lv_iload_n hx hb dX7_has_1 rfl (lv_at hl 1 rfl) ?_
  refine lv_ishr hx hb dX7_has_2 (ti (y := (nI (set / 2 ^ k))) (qn_shr hs hk) ?_)
  refine lv_iconst (v := (nI 1)) hx hb dX7_has_3 (by decide) ?_
  refine lv_iand hx hb dX7_has_4 (ti (y := (nI ((set / 2 ^ k) &&& 1))) (qn_and _ _) ?_)
  refine nv_zeq (x := (set / 2 ^ k) &&& 1) (tgt := 12) hx hb dX7_has_5 (by decide) (qb_one _) (fun c5 => ?_) (fun c5 => ?_)
  · refine lv_iconst (v := (nI 0)) hx hb dX7_has_12 (by decide) ?_
    exact re_z (v := (nI 0)) hx hb hr hlocks hS () hP hD (by first | (rw [qb_f c5]; rfl) | (rw [qb_t c5]; rfl)) (by decide) dX7_has_13
  · refine lv_iconst (v := (nI 1)) hx hb dX7_has_8 (by decide) ?_
    refine lv_goto (tgt := 13) hx hb dX7_has_9 (by decide) ?_
    exact re_z (v := (nI 1)) hx hb hr hlocks hS () hP hD (by first | (rw [qb_f c5]; rfl) | (rw [qb_t c5]; rfl)) (by decide) dX7_has_13

theorem hdX4_ends : hdOK yX4_ends 1 := by decide +kernel
set_option maxHeartbeats 4000000 in
set_option maxRecDepth 100000 in
theorem mX4_ends (l : Launch) (G : GG) (ad : Nat → Nat) (a : Nat → Nat) (r : Nat → Nat → Nat) (k : Nat) (hT : TB a r) (hk : k < 12) : Mi l yX4_ends cX4_ends 2 (some .int) (rmN 0 0) G [.ref (ad 0), .int (nI k)] (tkw G ad a r) (fun (r9 : Int32) (_ : Unit) => r9 = (nI (edg (r 0) (r 1) k))) (fun (_ : Unit) => tkw G ad a r) := by
  refine Mi.of (cc := cX4_ends) (nL := 2) (by decide) (Nat.le_of_ble_eq_true rfl) ?_
  intro p e s m below meth c A ls F hr hlocks hnm hX hA hD hP hS hl
  have F : CallFix p m c cX4_ends 2 s [.ref (ad 0), .int (nI k)].toArray wA RX4 := F
  obtain ⟨hx, hb, hml, hown, hts⟩ := id F
  have hl : lv_has ls 2 [(0, .ref (ad 0)), (1, .int (nI k))] := hl
  obtain ⟨t0, t1, t2, t3, t4, t5, t6, t7, t8, t9, t10, t11, t12⟩ := id hT
  refine lv_iconst (v := (nI 1)) hx hb dX4_ends_0 (by decide) ?_
  refine lv_aload_n hx hb dX4_ends_1 rfl (lv_at hl 0 rfl) ?_
  refine va_get (D := G.1) (ci := 3) (v := .ref (ad 1)) (C := RX4) (T := TX4) (N := 12) hx hb hts inA4 hown hX.1 hP 0 rfl rfl 4 (by decide) (hts _ kw_82) (fun _ h9 => h9) rfl dX4_ends_2 ?_
  refine lv_iload_n hx hb dX4_ends_5 rfl (lv_at hl 1 rfl) ?_
  refine nv_ald (f := r 0) (k := k) hx hb hX hP 1 rfl (by omega) (by decide) dX4_ends_6 ?_
  refine lv_ishl hx hb dX4_ends_7 (ti (y := (nI (2 ^ ((r 0) k)))) (qn_sh1 (by have := t5 k; omega)) ?_)
  refine lv_iconst (v := (nI 1)) hx hb dX4_ends_8 (by decide) ?_
  refine lv_aload_n hx hb dX4_ends_9 rfl (lv_at hl 0 rfl) ?_
  refine va_get (D := G.1) (ci := 3) (v := .ref (ad 2)) (C := RX4) (T := TX4) (N := 12) hx hb hts inA4 hown hX.1 hP 0 rfl rfl 5 (by decide) (hts _ kw_85) (fun _ h9 => h9) rfl dX4_ends_10 ?_
  refine lv_iload_n hx hb dX4_ends_13 rfl (lv_at hl 1 rfl) ?_
  refine nv_ald (f := r 1) (k := k) hx hb hX hP 2 rfl (by omega) (by decide) dX4_ends_14 ?_
  refine lv_ishl hx hb dX4_ends_15 (ti (y := (nI (2 ^ ((r 1) k)))) (qn_sh1 (by have := t6 k; omega)) ?_)
  refine lv_ior hx hb dX4_ends_16 (ti (y := (nI ((2 ^ ((r 0) k)) ||| (2 ^ ((r 1) k))))) (qn_or _ _) ?_)
  exact re_i (v := (nI ((2 ^ ((r 0) k)) ||| (2 ^ ((r 1) k))))) hx hb hr hlocks hS () hP hD rfl dX4_ends_17

