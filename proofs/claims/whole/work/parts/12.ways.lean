theorem hdJ7_fill_53178 : hdOK yJ7_fill_53178 2 := by decide +kernel
set_option maxHeartbeats 4000000 in
set_option maxRecDepth 100000 in
theorem mJ7_fill_53178 (l : Launch) (G : GG) (wd : Nat → Nat) (w : Nat → Nat) (us : Nat) (x : Nat)  : Mv l yJ7_fill_53178 cJ7_fill_53178 4 none (rmN 0 0) G [.ref (wd 1), .int (nI x)] (wyw G wd w us) (fun (_ : Unit) => True) (fun (_ : Unit) => wyw G wd (fun _ => x) us) := by
  refine Mv.of (cc := cJ7_fill_53178) (nL := 4) (by decide) (Nat.le_of_ble_eq_true rfl) ?_
  intro p e s m below meth c A ls F hr hlocks hnm hX hA hD hP hS hl
  have F : CallFix p m c cJ7_fill_53178 4 s [.ref (wd 1), .int (nI x)].toArray wA RJ7 := F
  obtain ⟨hx, hb, hml, hown, hts⟩ := id F
  have hl : lv_has ls 4 [(0, .ref (wd 1)), (1, .int (nI x))] := hl
  refine lv_iconst (v := (nI 0)) hx hb dJ7_fill_53178_0 (by decide) ?_
  refine lv_istore_n (lv' := [(2, .int (nI 0)), (0, .ref (wd 1)), (1, .int (nI x))]) hx hb dJ7_fill_53178_1 rfl hl (by decide) rfl (fun ls hl => ?_)
  refine lv_aload_n hx hb dJ7_fill_53178_2 rfl (lv_at hl 1 rfl) ?_
  refine va_alen (v := (nI 7)) hx hb hX.1 hP 1 0 rfl rfl rfl dJ7_fill_53178_3 ?_
  refine lv_istore_n (lv' := [(3, .int (nI 7)), (2, .int (nI 0)), (0, .ref (wd 1)), (1, .int (nI x))]) hx hb dJ7_fill_53178_4 rfl hl (by decide) rfl (fun ls hl => ?_)
  have lp5 : ∀ (n5 : Nat) (k : Nat) (y : Nat → Nat), (7 - k) < n5 → (k ≤ 7) → (∀ j, j < k → y j = x) → ∀ (H : Heap) (locs : List Loc), va_P G.1 vwCl (wyw G wd y us) H → va_D A (wyw G wd y us) → va_S A s.heap H locs → ∀ (ls : Array Slot), lv_has ls 4 [(0, .ref (wd 1)), (1, .int (nI x)), (2, .int (nI k)), (3, .int (nI 7))] → WV p l e (rmN 0 0) s m [.ref (wd 1), .int (nI x)] below meth c H locs G A (fun (_ : Unit) => True) (fun (_ : Unit) => wyw G wd (fun _ => x) us) (F0 m 5 ls []) := by
    intro n5
    induction n5 with
    | zero => intro k y h9; exact absurd h9 (Nat.not_lt_zero _)
    | succ n5 ih5 =>
      intro k y hm5  hk hy H locs hP hD hS ls hl
      refine lv_iload_n hx hb dJ7_fill_53178_5 rfl (lv_at hl 2 rfl) ?_
      refine lv_iload_n hx hb dJ7_fill_53178_6 rfl (lv_at hl 3 rfl) ?_
      refine nv_ge (x := k) (y := 7) (tgt := 20) hx hb dJ7_fill_53178_7 (by decide) (by omega) (by decide) (fun c7 => ?_) (fun c7 => ?_)
      · have hP : va_P G.1 vwCl (wyw G wd (fun _ => x) us) H := wp_set (ws := wyw G wd y us) (q0 := 1) (fun j hj => by rw [hy j (by omega)]) hP
        have hD : va_D A (wyw G wd (fun _ => x) us) := wd_set (ws := wyw G wd y us) (q0 := 1) hD
        exact re_v hx hb hr hlocks hS () hP hD trivial dJ7_fill_53178_20
      · refine lv_aload_n hx hb dJ7_fill_53178_10 rfl (lv_at hl 0 rfl) ?_
        refine lv_iload_n hx hb dJ7_fill_53178_11 rfl (lv_at hl 2 rfl) ?_
        refine lv_iload_n hx hb dJ7_fill_53178_12 rfl (lv_at hl 1 rfl) ?_
        refine nv_ast (f := y) (k := k) (v := x) hx hb hX hP hD hS 1 rfl (by omega) (by decide) dJ7_fill_53178_13 (fun H locs hP hD hS => ?_)
        have hP : va_P G.1 vwCl (wyw G wd (va_up y k x) us) H := hP
        have hD : va_D A (wyw G wd (va_up y k x) us) := hD
        refine lv_iinc (v := (nI (k + 1))) (lv' := [(2, .int (nI (k + 1))), (0, .ref (wd 1)), (1, .int (nI x)), (3, .int (nI 7))]) hx hb dJ7_fill_53178_14 hl (k := 2) rfl (qn_inc _) (by decide) rfl (fun ls hl => ?_)
        refine lv_goto (tgt := 5) hx hb dJ7_fill_53178_17 (by decide) ?_
        exact ih5 (k + 1) (va_up y k x) (by omega) (by omega) (fun j h => by unfold va_up; split; rfl; exact hy j (by omega)) _ _ hP hD hS ls (lv_sub hl [1, 2, 0, 3] rfl)
  exact lp5 _ 0 w (Nat.lt_succ_self _) (Nat.zero_le _) (fun j h => absurd h (Nat.not_lt_zero _)) _ _ hP hD hS ls (lv_sub hl [2, 3, 1, 0] rfl)

theorem hdX6_weightOf : hdOK yX6_weightOf 2 := by decide +kernel
set_option maxHeartbeats 4000000 in
set_option maxRecDepth 100000 in
theorem mX6_weightOf (l : Launch) (G : GG) (ad : Nat → Nat) (a : Nat → Nat) (r : Nat → Nat → Nat) (k : Nat) (hk : k < 12) : Mi l yX6_weightOf cX6_weightOf 2 (some .int) (rmN 0 0) G [.ref (ad 0), .int (nI k)] (tkw G ad a r) (fun (r9 : Int32) (_ : Unit) => r9 = (nI (r 2 k * 16 + 1))) (fun (_ : Unit) => tkw G ad a r) := by
  refine Mi.of (cc := cX6_weightOf) (nL := 2) (by decide) (Nat.le_of_ble_eq_true rfl) ?_
  intro p e s m below meth c A ls F hr hlocks hnm hX hA hD hP hS hl
  have F : CallFix p m c cX6_weightOf 2 s [.ref (ad 0), .int (nI k)].toArray wA RX6 := F
  obtain ⟨hx, hb, hml, hown, hts⟩ := id F
  have hl : lv_has ls 2 [(0, .ref (ad 0)), (1, .int (nI k))] := hl
  refine lv_aload_n hx hb dX6_weightOf_0 rfl (lv_at hl 0 rfl) ?_
  refine va_get (D := G.1) (ci := 3) (v := .ref (ad 3)) (C := RX4) (T := TX4) (N := 12) hx hb hts inA4 hown hX.1 hP 0 rfl rfl 6 (by decide) (hts _ kw_89) (fun _ h9 => h9) rfl dX6_weightOf_1 ?_
  refine lv_iload_n hx hb dX6_weightOf_4 rfl (lv_at hl 1 rfl) ?_
  refine nv_ald (f := r 2) (k := k) hx hb hX hP 3 rfl (by omega) (by decide) dX6_weightOf_5 ?_
  refine lv_bipush (v := (nI 16)) hx hb dX6_weightOf_6 (by decide) ?_
  refine lv_imul hx hb dX6_weightOf_8 (ti (y := (nI (((r 2) k) * 16))) (pk_mul _ _) ?_)
  refine lv_iconst (v := (nI 1)) hx hb dX6_weightOf_9 (by decide) ?_
  refine lv_iadd hx hb dX6_weightOf_10 (ti (y := (nI ((((r 2) k) * 16) + 1))) (nI_add _ _) ?_)
  exact re_i (v := (nI ((((r 2) k) * 16) + 1))) hx hb hr hlocks hS () hP hD rfl dX6_weightOf_11

theorem hdX6_nextNode : hdOK yX6_nextNode 3 := by decide +kernel
set_option maxHeartbeats 4000000 in
set_option maxRecDepth 100000 in
theorem mX6_nextNode (l : Launch) (G : GG) (ad : Nat → Nat) (a : Nat → Nat) (r : Nat → Nat → Nat) (k v : Nat) (hT : TB a r) (hk : k < 12) (hv : v < 7) : Mi l yX6_nextNode cX6_nextNode 3 (some .int) (rmN 0 0) G [.ref (ad 0), .int (nI k), .int (nI v)] (tkw G ad a r) (fun (r9 : Int32) (_ : Unit) => r9 = (nI (nxt (r 0) (r 1) k v))) (fun (_ : Unit) => tkw G ad a r) := by
  refine Mi.of (cc := cX6_nextNode) (nL := 3) (by decide) (Nat.le_of_ble_eq_true rfl) ?_
  intro p e s m below meth c A ls F hr hlocks hnm hX hA hD hP hS hl
  have F : CallFix p m c cX6_nextNode 3 s [.ref (ad 0), .int (nI k), .int (nI v)].toArray wA RX6 := F
  obtain ⟨hx, hb, hml, hown, hts⟩ := id F
  have hl : lv_has ls 3 [(0, .ref (ad 0)), (1, .int (nI k)), (2, .int (nI v))] := hl
  obtain ⟨t0, t1, t2, t3, t4, t5, t6, t7, t8, t9, t10, t11, t12⟩ := id hT
  refine lv_aload_n hx hb dX6_nextNode_0 rfl (lv_at hl 0 rfl) ?_
  refine va_get (D := G.1) (ci := 3) (v := .ref (ad 1)) (C := RX4) (T := TX4) (N := 12) hx hb hts inA4 hown hX.1 hP 0 rfl rfl 4 (by decide) (hts _ kw_83) (fun _ h9 => h9) rfl dX6_nextNode_1 ?_
  refine lv_iload_n hx hb dX6_nextNode_4 rfl (lv_at hl 1 rfl) ?_
  refine nv_ald (f := r 0) (k := k) hx hb hX hP 1 rfl (by omega) (by decide) dX6_nextNode_5 ?_
  refine lv_iload_n hx hb dX6_nextNode_6 rfl (lv_at hl 2 rfl) ?_
  refine nv_ne (x := (r 0) k) (y := v) (tgt := 19) hx hb dX6_nextNode_7 (by decide) (by have := t5 k; omega) (by omega) (fun c7 => ?_) (fun c7 => ?_)
  · refine lv_aload_n hx hb dX6_nextNode_19 rfl (lv_at hl 0 rfl) ?_
    refine va_get (D := G.1) (ci := 3) (v := .ref (ad 1)) (C := RX4) (T := TX4) (N := 12) hx hb hts inA4 hown hX.1 hP 0 rfl rfl 4 (by decide) (hts _ kw_83) (fun _ h9 => h9) rfl dX6_nextNode_20 ?_
    refine lv_iload_n hx hb dX6_nextNode_23 rfl (lv_at hl 1 rfl) ?_
    refine nv_ald (f := r 0) (k := k) hx hb hX hP 1 rfl (by omega) (by decide) dX6_nextNode_24 ?_
    exact re_i (v := (nI ((r 0) k))) hx hb hr hlocks hS () hP hD (by simp [nxt, c7]) dX6_nextNode_25
  · refine lv_aload_n hx hb dX6_nextNode_10 rfl (lv_at hl 0 rfl) ?_
    refine va_get (D := G.1) (ci := 3) (v := .ref (ad 2)) (C := RX4) (T := TX4) (N := 12) hx hb hts inA4 hown hX.1 hP 0 rfl rfl 5 (by decide) (hts _ kw_86) (fun _ h9 => h9) rfl dX6_nextNode_11 ?_
    refine lv_iload_n hx hb dX6_nextNode_14 rfl (lv_at hl 1 rfl) ?_
    refine nv_ald (f := r 1) (k := k) hx hb hX hP 2 rfl (by omega) (by decide) dX6_nextNode_15 ?_
    refine lv_goto (tgt := 25) hx hb dX6_nextNode_16 (by decide) ?_
    exact re_i (v := (nI ((r 1) k))) hx hb hr hlocks hS () hP hD (by simp [nxt, c7]) dX6_nextNode_25

theorem hdX6_shorten : hdOK yX6_shorten 3 := by decide +kernel
set_option maxHeartbeats 4000000 in
set_option maxRecDepth 100000 in
theorem mX6_shorten (l : Launch) (G : GG) (wd : Nat → Nat) (w : Nat → Nat) (us : Nat) (x y z : Nat) (hw : ∀ j, w j ≤ 1048576) (hx7 : x < 7) (hy7 : y < 7) (hz : z < 1000) : Mv l yX6_shorten cX6_shorten 4 none (rmN 1 21) G [.ref (wd 0), .int (nI x), .int (nI y), .int (nI z)] (wyw G wd w us) (fun (_ : Unit) => True) (fun (_ : Unit) => wyw G wd (shr w x y z) us) := by
  refine Mv.of (cc := cX6_shorten) (nL := 4) (by decide) (Nat.le_of_ble_eq_true rfl) ?_
  intro p e s m below meth c A ls F hr hlocks hnm hX hA hD hP hS hl
  have F : CallFix p m c cX6_shorten 4 s [.ref (wd 0), .int (nI x), .int (nI y), .int (nI z)].toArray wA RX6 := F
  obtain ⟨hx, hb, hml, hown, hts⟩ := id F
  have hl : lv_has ls 4 [(0, .ref (wd 0)), (1, .int (nI x)), (2, .int (nI y)), (3, .int (nI z))] := hl
  have hw1 : ∀ j, va_up w x (min (w x) (w y + z)) j ≤ 1048576 := up_le hw (Nat.le_trans (Nat.min_le_left _ _) (hw x))
  refine lv_aload_n hx hb dX6_shorten_0 rfl (lv_at hl 0 rfl) ?_
  refine va_get (D := G.1) (ci := 5) (v := .ref (wd 1)) (C := RX6) (T := TX6) (N := 2) hx hb hts inA6 hown hX.1 hP 0 rfl rfl 0 (by decide) (hts _ kw_164) (fun _ h9 => h9) rfl dX6_shorten_1 ?_
  refine lv_iload_n hx hb dX6_shorten_4 rfl (lv_at hl 1 rfl) ?_
  refine lv_aload_n hx hb dX6_shorten_5 rfl (lv_at hl 0 rfl) ?_
  refine va_get (D := G.1) (ci := 5) (v := .ref (wd 1)) (C := RX6) (T := TX6) (N := 2) hx hb hts inA6 hown hX.1 hP 0 rfl rfl 0 (by decide) (hts _ kw_164) (fun _ h9 => h9) rfl dX6_shorten_6 ?_
  refine lv_iload_n hx hb dX6_shorten_9 rfl (lv_at hl 1 rfl) ?_
  refine nv_ald (f := w) (k := x) hx hb hX hP 1 rfl (by omega) (by decide) dX6_shorten_10 ?_
  refine lv_aload_n hx hb dX6_shorten_11 rfl (lv_at hl 0 rfl) ?_
  refine va_get (D := G.1) (ci := 5) (v := .ref (wd 1)) (C := RX6) (T := TX6) (N := 2) hx hb hts inA6 hown hX.1 hP 0 rfl rfl 0 (by decide) (hts _ kw_164) (fun _ h9 => h9) rfl dX6_shorten_12 ?_
  refine lv_iload_n hx hb dX6_shorten_15 rfl (lv_at hl 2 rfl) ?_
  refine nv_ald (f := w) (k := y) hx hb hX hP 1 rfl (by omega) (by decide) dX6_shorten_16 ?_
  refine lv_iload_n hx hb dX6_shorten_17 rfl (lv_at hl 3 rfl) ?_
  refine lv_iadd hx hb dX6_shorten_18 (ti (y := (nI ((w y) + z))) (nI_add _ _) ?_)
  refine va_mmin hx hb (hml.trans hl.1.symm) hown (hts _ kw_430) (hts _ kw_378) (hts _ kw_14) (hts _ kw_379) (by decide) (Nat.le_of_ble_eq_true rfl) (Nat.zero_le _) (Nat.zero_le _) dX6_shorten_19 ?_
  refine ti (y := (nI (min (w x) ((w y) + z)))) (qn_min (by have := hw x; omega) (by have := hw y; omega)) ?_
  refine nv_ast (f := w) (k := x) (v := min (w x) ((w y) + z)) hx hb hX hP hD hS 1 rfl (by omega) (by decide) dX6_shorten_22 (fun H locs hP hD hS => ?_)
  have hP : va_P G.1 vwCl (wyw G wd (va_up w x (min (w x) ((w y) + z))) us) H := hP
  have hD : va_D A (wyw G wd (va_up w x (min (w x) ((w y) + z))) us) := hD
  refine lv_aload_n hx hb dX6_shorten_23 rfl (lv_at hl 0 rfl) ?_
  refine va_get (D := G.1) (ci := 5) (v := .ref (wd 1)) (C := RX6) (T := TX6) (N := 2) hx hb hts inA6 hown hX.1 hP 0 rfl rfl 0 (by decide) (hts _ kw_164) (fun _ h9 => h9) rfl dX6_shorten_24 ?_
  refine lv_iload_n hx hb dX6_shorten_27 rfl (lv_at hl 2 rfl) ?_
  refine lv_aload_n hx hb dX6_shorten_28 rfl (lv_at hl 0 rfl) ?_
  refine va_get (D := G.1) (ci := 5) (v := .ref (wd 1)) (C := RX6) (T := TX6) (N := 2) hx hb hts inA6 hown hX.1 hP 0 rfl rfl 0 (by decide) (hts _ kw_164) (fun _ h9 => h9) rfl dX6_shorten_29 ?_
  refine lv_iload_n hx hb dX6_shorten_32 rfl (lv_at hl 2 rfl) ?_
  refine nv_ald (f := va_up w x (min (w x) ((w y) + z))) (k := y) hx hb hX hP 1 rfl (by omega) (by decide) dX6_shorten_33 ?_
  refine lv_aload_n hx hb dX6_shorten_34 rfl (lv_at hl 0 rfl) ?_
  refine va_get (D := G.1) (ci := 5) (v := .ref (wd 1)) (C := RX6) (T := TX6) (N := 2) hx hb hts inA6 hown hX.1 hP 0 rfl rfl 0 (by decide) (hts _ kw_164) (fun _ h9 => h9) rfl dX6_shorten_35 ?_
  refine lv_iload_n hx hb dX6_shorten_38 rfl (lv_at hl 1 rfl) ?_
  refine nv_ald (f := va_up w x (min (w x) ((w y) + z))) (k := x) hx hb hX hP 1 rfl (by omega) (by decide) dX6_shorten_39 ?_
  refine lv_iload_n hx hb dX6_shorten_40 rfl (lv_at hl 3 rfl) ?_
  refine lv_iadd hx hb dX6_shorten_41 (ti (y := (nI (((va_up w x (min (w x) ((w y) + z))) x) + z))) (nI_add _ _) ?_)
  refine va_mmin hx hb (hml.trans hl.1.symm) hown (hts _ kw_430) (hts _ kw_378) (hts _ kw_14) (hts _ kw_379) (by decide) (Nat.le_of_ble_eq_true rfl) (Nat.zero_le _) (Nat.zero_le _) dX6_shorten_42 ?_
  refine ti (y := (nI (min ((va_up w x (min (w x) ((w y) + z))) y) (((va_up w x (min (w x) ((w y) + z))) x) + z)))) (qn_min (by have := hw1 y; omega) (by have := hw1 x; omega)) ?_
  refine nv_ast (f := va_up w x (min (w x) ((w y) + z))) (k := y) (v := min ((va_up w x (min (w x) ((w y) + z))) y) (((va_up w x (min (w x) ((w y) + z))) x) + z)) hx hb hX hP hD hS 1 rfl (by omega) (by decide) dX6_shorten_45 (fun H locs hP hD hS => ?_)
  have hP : va_P G.1 vwCl (wyw G wd (va_up (va_up w x (min (w x) ((w y) + z))) y (min ((va_up w x (min (w x) ((w y) + z))) y) (((va_up w x (min (w x) ((w y) + z))) x) + z))) us) H := hP
  have hD : va_D A (wyw G wd (va_up (va_up w x (min (w x) ((w y) + z))) y (min ((va_up w x (min (w x) ((w y) + z))) y) (((va_up w x (min (w x) ((w y) + z))) x) + z))) us) := hD
  exact re_v hx hb hr hlocks hS () hP hD trivial dX6_shorten_46

theorem hdX6_findBy : hdOK yX6_findBy 3 := by decide +kernel
set_option maxHeartbeats 4000000 in
set_option maxRecDepth 100000 in
theorem mX6_findBy (l : Launch) (G : GG) (wd : Nat → Nat) (w : Nat → Nat) (us : Nat) (ad : Nat → Nat) (a : Nat → Nat) (r : Nat → Nat → Nat) (u9 goals : Nat) (hT : TB a r) (hu : u9 < 4096) (hg : goals < 4096) : Mv l yX6_findBy cX6_findBy 6 none (rmN 2 44) G [.ref (wd 0), .ref (ad 0), .int (nI u9), .int (nI goals)] (wyw G wd w us ++ (tkw G ad a r)) (fun (_ : Unit) => True) (fun (_ : Unit) => wyw G wd (wtN (r 0) (r 1) (r 2) u9 (a 3) (a 0) goals) u9 ++ (tkw G ad a r)) := by
  refine Mv.of (cc := cX6_findBy) (nL := 6) (by decide) (Nat.le_of_ble_eq_true rfl) ?_
  intro p e s m below meth c A ls F hr hlocks hnm hX hA hD hP hS hl
  have F : CallFix p m c cX6_findBy 6 s [.ref (wd 0), .ref (ad 0), .int (nI u9), .int (nI goals)].toArray wA RX6 := F
  obtain ⟨hx, hb, hml, hown, hts⟩ := id F
  have hl : lv_has ls 6 [(0, .ref (wd 0)), (1, .ref (ad 0)), (2, .int (nI u9)), (3, .int (nI goals))] := hl
  obtain ⟨t0, t1, t2, t3, t4, t5, t6, t7, t8, t9, t10, t11, t12⟩ := id hT
  refine lv_aload_n hx hb dX6_findBy_0 rfl (lv_at hl 0 rfl) ?_
  refine lv_iload_n hx hb dX6_findBy_1 rfl (lv_at hl 2 rfl) ?_
  refine va_put (D := G.1) (ci := 5) (v := .int (nI u9)) (ty := .int) (C := RX6) (T := TX6) (N := 2) hx hb hts inA6 tyX6 tyX6_ok nmX6 hown hX.1 hP hD hS 0 rfl rfl 1 (by decide) (hts _ kw_165) (fun _ h9 => h9) rfl (by decide +kernel) rfl rfl (Nat.le_of_ble_eq_true rfl) dX6_findBy_2 (fun H locs hP hD hS => ?_)
  have hP : va_P G.1 vwCl (wyw G wd w u9 ++ (tkw G ad a r)) H := hP
  have hD : va_D A (wyw G wd w u9 ++ (tkw G ad a r)) := hD
  refine lv_aload_n hx hb dX6_findBy_5 rfl (lv_at hl 0 rfl) ?_
  refine va_get (D := G.1) (ci := 5) (v := .ref (wd 1)) (C := RX6) (T := TX6) (N := 2) hx hb hts inA6 hown hX.1 hP 0 rfl rfl 0 (by decide) (hts _ kw_164) (fun _ h9 => h9) rfl dX6_findBy_6 ?_
  refine lv_ldc (v := (nI 1048576)) hx hb hown (hts _ kw_418) dX6_findBy_9 ?_
  refine ca_Sv (rest := []) (wr := tkw G ad a r) F hX (mJ7_fill_53178 l G wd w u9 1048576 ) (cA_S hts kw_421 kw_15 kw_419 kw_420 hdJ7_fill_53178 ⟨Nat.le_of_ble_eq_true rfl, Nat.le_of_ble_eq_true rfl⟩) rfl hl.1 rfl (Nat.le_of_ble_eq_true rfl) dX6_findBy_11 ⟨Nat.le_of_ble_eq_true rfl, Nat.le_of_ble_eq_true rfl⟩ hP hD hS hA (List.Perm.refl _) (fun u11 H locs hp11 hP hD hS => ?_)
  have hP : va_P G.1 vwCl (wyw G wd (fun _ => 1048576) u9 ++ (tkw G ad a r)) H := wp_pm (List.Perm.refl _).symm hP
  have hD : va_D A (wyw G wd (fun _ => 1048576) u9 ++ (tkw G ad a r)) := wd_pm (List.Perm.refl _).symm hD
  refine lv_iconst (v := (nI 0)) hx hb dX6_findBy_14 (by decide) ?_
  refine lv_istore (lv' := [(4, .int (nI 0)), (0, .ref (wd 0)), (1, .ref (ad 0)), (2, .int (nI u9)), (3, .int (nI goals))]) hx hb dX6_findBy_15 hl (by decide) rfl (fun ls hl => ?_)
  have lp17 : ∀ (n17 : Nat) (v : Nat) (y : Nat → Nat), (a 0 - v) < n17 → y = ini goals v → (v ≤ a 0) → ∀ (H : Heap) (locs : List Loc), va_P G.1 vwCl (wyw G wd y u9 ++ (tkw G ad a r)) H → va_D A (wyw G wd y u9 ++ (tkw G ad a r)) → va_S A s.heap H locs → ∀ (ls : Array Slot), lv_has ls 6 [(0, .ref (wd 0)), (1, .ref (ad 0)), (2, .int (nI u9)), (3, .int (nI goals)), (4, .int (nI v))] → WV p l e (rmN 2 44) s m [.ref (wd 0), .ref (ad 0), .int (nI u9), .int (nI goals)] below meth c H locs G A (fun (_ : Unit) => True) (fun (_ : Unit) => wyw G wd (wtN (r 0) (r 1) (r 2) u9 (a 3) (a 0) goals) u9 ++ (tkw G ad a r)) (F0 m 17 ls []) := by
    intro n17
    induction n17 with
    | zero => intro v y h9; exact absurd h9 (Nat.not_lt_zero _)
    | succ n17 ih17 =>
      intro v y hm17 e_y hv H locs hP hD hS ls hl
      subst e_y
      refine lv_iload hx hb dX6_findBy_17 (lv_at hl 4 rfl) ?_
      refine lv_aload_n hx hb dX6_findBy_19 rfl (lv_at hl 1 rfl) ?_
      refine va_get (D := G.1) (ci := 3) (v := .int (nI (a 0))) (C := RX4) (T := TX4) (N := 12) hx hb hts inA4 hown hX.1 hP 2 rfl rfl 0 (by decide) (hts _ kw_64) (fun _ h9 => h9) rfl dX6_findBy_20 ?_
      refine nv_ge (x := v) (y := a 0) (tgt := 49) hx hb dX6_findBy_23 (by decide) (by omega) (by omega) (fun c23 => ?_) (fun c23 => ?_)
      · refine lv_iconst (v := (nI 1)) hx hb dX6_findBy_49 (by decide) ?_
        refine lv_istore (lv' := [(4, .int (nI 1)), (0, .ref (wd 0)), (1, .ref (ad 0)), (2, .int (nI u9)), (3, .int (nI goals))]) hx hb dX6_findBy_50 hl (by decide) rfl (fun ls hl => ?_)
        have lp52 : ∀ (n52 : Nat) (q : Nat) (y : Nat → Nat), (a 0 - q) < n52 → y = rln (r 0) (r 1) (r 2) u9 (a 3) q (ini goals (a 0)) → (q + 1 ≤ a 0) → ∀ (H : Heap) (locs : List Loc), va_P G.1 vwCl (wyw G wd y u9 ++ (tkw G ad a r)) H → va_D A (wyw G wd y u9 ++ (tkw G ad a r)) → va_S A s.heap H locs → ∀ (ls : Array Slot), lv_has ls 6 [(0, .ref (wd 0)), (1, .ref (ad 0)), (2, .int (nI u9)), (3, .int (nI goals)), (4, .int (nI (q + 1)))] → WV p l e (rmN 2 44) s m [.ref (wd 0), .ref (ad 0), .int (nI u9), .int (nI goals)] below meth c H locs G A (fun (_ : Unit) => True) (fun (_ : Unit) => wyw G wd (wtN (r 0) (r 1) (r 2) u9 (a 3) (a 0) goals) u9 ++ (tkw G ad a r)) (F0 m 52 ls []) := by
          intro n52
          induction n52 with
          | zero => intro q y h9; exact absurd h9 (Nat.not_lt_zero _)
          | succ n52 ih52 =>
            intro q y hm52 e_y hq H locs hP hD hS ls hl
            subst e_y
            refine lv_iload hx hb dX6_findBy_52 (lv_at hl 4 rfl) ?_
            refine lv_aload_n hx hb dX6_findBy_54 rfl (lv_at hl 1 rfl) ?_
            refine va_get (D := G.1) (ci := 3) (v := .int (nI (a 0))) (C := RX4) (T := TX4) (N := 12) hx hb hts inA4 hown hX.1 hP 2 rfl rfl 0 (by decide) (hts _ kw_64) (fun _ h9 => h9) rfl dX6_findBy_55 ?_
            refine nv_ge (x := q + 1) (y := a 0) (tgt := 121) hx hb dX6_findBy_58 (by decide) (by omega) (by omega) (fun c58 => ?_) (fun c58 => ?_)
            · have e9 : q = a 0 - 1 := (by omega)
              rw [e9] at hP hD
              exact re_v hx hb hr hlocks hS () hP hD trivial dX6_findBy_121
            · refine lv_iconst (v := (nI 0)) hx hb dX6_findBy_61 (by decide) ?_
              refine lv_istore (lv' := [(5, .int (nI 0)), (0, .ref (wd 0)), (1, .ref (ad 0)), (2, .int (nI u9)), (3, .int (nI goals)), (4, .int (nI (q + 1)))]) hx hb dX6_findBy_62 hl (by decide) rfl (fun ls hl => ?_)
              have lp64 : ∀ (n64 : Nat) (k : Nat) (y : Nat → Nat), (a 3 - k) < n64 → y = rlx (r 0) (r 1) (r 2) u9 k (rln (r 0) (r 1) (r 2) u9 (a 3) q (ini goals (a 0))) → (k ≤ a 3) → ∀ (H : Heap) (locs : List Loc), va_P G.1 vwCl (wyw G wd y u9 ++ (tkw G ad a r)) H → va_D A (wyw G wd y u9 ++ (tkw G ad a r)) → va_S A s.heap H locs → ∀ (ls : Array Slot), lv_has ls 6 [(0, .ref (wd 0)), (1, .ref (ad 0)), (2, .int (nI u9)), (3, .int (nI goals)), (4, .int (nI (q + 1))), (5, .int (nI k))] → WV p l e (rmN 2 44) s m [.ref (wd 0), .ref (ad 0), .int (nI u9), .int (nI goals)] below meth c H locs G A (fun (_ : Unit) => True) (fun (_ : Unit) => wyw G wd (wtN (r 0) (r 1) (r 2) u9 (a 3) (a 0) goals) u9 ++ (tkw G ad a r)) (F0 m 64 ls []) := by
                intro n64
                induction n64 with
                | zero => intro k y h9; exact absurd h9 (Nat.not_lt_zero _)
                | succ n64 ih64 =>
                  intro k y hm64 e_y hk H locs hP hD hS ls hl
                  subst e_y
                  refine lv_iload hx hb dX6_findBy_64 (lv_at hl 5 rfl) ?_
                  refine lv_aload_n hx hb dX6_findBy_66 rfl (lv_at hl 1 rfl) ?_
                  refine va_get (D := G.1) (ci := 3) (v := .int (nI (a 3))) (C := RX4) (T := TX4) (N := 12) hx hb hts inA4 hown hX.1 hP 2 rfl rfl 3 (by decide) (hts _ kw_77) (fun _ h9 => h9) rfl dX6_findBy_67 ?_
                  refine nv_ge (x := k) (y := a 3) (tgt := 115) hx hb dX6_findBy_70 (by decide) (by omega) (by omega) (fun c70 => ?_) (fun c70 => ?_)
                  · refine lv_iinc (v := (nI ((q + 1) + 1))) (lv' := [(4, .int (nI ((q + 1) + 1))), (0, .ref (wd 0)), (1, .ref (ad 0)), (2, .int (nI u9)), (3, .int (nI goals)), (5, .int (nI k))]) hx hb dX6_findBy_115 hl (k := 4) rfl (qn_inc _) (by decide) rfl (fun ls hl => ?_)
                    refine lv_goto (tgt := 52) hx hb dX6_findBy_118 (by decide) ?_
                    exact ih52 (q + 1) (rlx (r 0) (r 1) (r 2) u9 k (rln (r 0) (r 1) (r 2) u9 (a 3) q (ini goals (a 0)))) (by omega) (by have e9 : k = a 3 := (by omega); rw [e9]; rfl) (by omega) _ _ hP hD hS ls (lv_sub hl [1, 2, 3, 4, 0] rfl)
                  · refine lv_aload_n hx hb dX6_findBy_73 rfl (lv_at hl 0 rfl) ?_
                    refine va_get (D := G.1) (ci := 5) (v := .int (nI u9)) (C := RX6) (T := TX6) (N := 2) hx hb hts inA6 hown hX.1 hP 0 rfl rfl 1 (by decide) (hts _ kw_165) (fun _ h9 => h9) rfl dX6_findBy_74 ?_
                    refine lv_iload hx hb dX6_findBy_77 (lv_at hl 5 rfl) ?_
                    refine ca_Ni (rest := []) (wr := wyw G wd (rlx (r 0) (r 1) (r 2) u9 k (rln (r 0) (r 1) (r 2) u9 (a 3) q (ini goals (a 0)))) u9 ++ (tkw G ad a r)) F hX (mX7_has l G u9 k (by omega) (by omega)) ⟨cA_N hts kw_357 kw_1 hX.2.2.2.2.2.2.2.2.2.2.2 hdX7_has ⟨Nat.le_of_ble_eq_true rfl, Nat.le_of_ble_eq_true rfl⟩, hts _ kw_356, trivial⟩ rfl hl.1 rfl (Nat.le_of_ble_eq_true rfl) dX6_findBy_79 ⟨Nat.le_of_ble_eq_true rfl, Nat.le_of_ble_eq_true rfl⟩ hP hD hS hA (List.Perm.refl _) (fun r79 u79 H locs hp79 hP hD hS => ?_)
                    have hP : va_P G.1 vwCl (wyw G wd (rlx (r 0) (r 1) (r 2) u9 k (rln (r 0) (r 1) (r 2) u9 (a 3) q (ini goals (a 0)))) u9 ++ (tkw G ad a r)) H := hP
                    have hD : va_D A (wyw G wd (rlx (r 0) (r 1) (r 2) u9 k (rln (r 0) (r 1) (r 2) u9 (a 3) q (ini goals (a 0)))) u9 ++ (tkw G ad a r)) := hD
                    subst hp79
                    refine bv_eq (b := u9.testBit k) (tgt := 109) hx hb dX6_findBy_82 (by decide) (fun c82 => ?_) (fun c82 => ?_)
                    · refine lv_iinc (v := (nI (k + 1))) (lv' := [(5, .int (nI (k + 1))), (0, .ref (wd 0)), (1, .ref (ad 0)), (2, .int (nI u9)), (3, .int (nI goals)), (4, .int (nI (q + 1)))]) hx hb dX6_findBy_109 hl (k := 5) rfl (qn_inc _) (by decide) rfl (fun ls hl => ?_)
                      refine lv_goto (tgt := 64) hx hb dX6_findBy_112 (by decide) ?_
                      exact ih64 (k + 1) (rlx (r 0) (r 1) (r 2) u9 k (rln (r 0) (r 1) (r 2) u9 (a 3) q (ini goals (a 0)))) (by omega) (by simp [rlx, c82]) (by omega) _ _ hP hD hS ls (lv_sub hl [1, 2, 3, 4, 5, 0] rfl)
                    · refine lv_aload_n hx hb dX6_findBy_85 rfl (lv_at hl 0 rfl) ?_
                      refine lv_aload_n hx hb dX6_findBy_86 rfl (lv_at hl 1 rfl) ?_
                      refine va_get (D := G.1) (ci := 3) (v := .ref (ad 1)) (C := RX4) (T := TX4) (N := 12) hx hb hts inA4 hown hX.1 hP 2 rfl rfl 4 (by decide) (hts _ kw_83) (fun _ h9 => h9) rfl dX6_findBy_87 ?_
                      refine lv_iload hx hb dX6_findBy_90 (lv_at hl 5 rfl) ?_
                      refine nv_ald (f := r 0) (k := k) hx hb hX hP 3 rfl (by omega) (by decide) dX6_findBy_92 ?_
                      refine lv_aload_n hx hb dX6_findBy_93 rfl (lv_at hl 1 rfl) ?_
                      refine va_get (D := G.1) (ci := 3) (v := .ref (ad 2)) (C := RX4) (T := TX4) (N := 12) hx hb hts inA4 hown hX.1 hP 2 rfl rfl 5 (by decide) (hts _ kw_86) (fun _ h9 => h9) rfl dX6_findBy_94 ?_
                      refine lv_iload hx hb dX6_findBy_97 (lv_at hl 5 rfl) ?_
                      refine nv_ald (f := r 1) (k := k) hx hb hX hP 4 rfl (by omega) (by decide) dX6_findBy_99 ?_
                      refine lv_aload_n hx hb dX6_findBy_100 rfl (lv_at hl 1 rfl) ?_
                      refine lv_iload hx hb dX6_findBy_101 (lv_at hl 5 rfl) ?_
                      refine ca_Si (rest := [.int (nI ((r 1) k)), .int (nI ((r 0) k)), .ref (wd 0)]) (wr := wyw G wd (rlx (r 0) (r 1) (r 2) u9 k (rln (r 0) (r 1) (r 2) u9 (a 3) q (ini goals (a 0)))) u9) F hX (mX6_weightOf l G ad a r k (by omega)) (cA_S hts kw_425 kw_6 kw_423 kw_424 hdX6_weightOf ⟨Nat.le_of_ble_eq_true rfl, Nat.le_of_ble_eq_true rfl⟩) rfl hl.1 rfl (Nat.le_of_ble_eq_true rfl) dX6_findBy_103 ⟨Nat.le_of_ble_eq_true rfl, Nat.le_of_ble_eq_true rfl⟩ hP hD hS hA (List.perm_append_comm) (fun r103 u103 H locs hp103 hP hD hS => ?_)
                      have hP : va_P G.1 vwCl (wyw G wd (rlx (r 0) (r 1) (r 2) u9 k (rln (r 0) (r 1) (r 2) u9 (a 3) q (ini goals (a 0)))) u9 ++ (tkw G ad a r)) H := wp_pm (List.perm_append_comm).symm hP
                      have hD : va_D A (wyw G wd (rlx (r 0) (r 1) (r 2) u9 k (rln (r 0) (r 1) (r 2) u9 (a 3) q (ini goals (a 0)))) u9 ++ (tkw G ad a r)) := wd_pm (List.perm_append_comm).symm hD
                      subst hp103
                      refine ca_Vv (ci := 5) (q := (RX6, TX6, 2)) (rest := []) (wr := tkw G ad a r) F hX (mX6_shorten l G wd (rlx (r 0) (r 1) (r 2) u9 k (rln (r 0) (r 1) (r 2) u9 (a 3) q (ini goals (a 0)))) u9 ((r 0) k) ((r 1) k) ((r 2) k * 16 + 1) (rlx_le (rln_le (ini_le goals (a 0)) q) k) (t5 k) (t6 k) (by have := t7 k; omega)) (cA_V hts kw_429 kw_6 kw_426 kw_428 kp_13 hdX6_shorten ⟨Nat.le_of_ble_eq_true rfl, Nat.le_of_ble_eq_true rfl⟩) rfl rfl rfl hl.1 rfl (Nat.le_of_ble_eq_true rfl) dX6_findBy_106 ⟨Nat.le_of_ble_eq_true rfl, Nat.le_of_ble_eq_true rfl⟩ hP hD hS hA (List.Perm.refl _) (fun u106 H locs hp106 hP hD hS => ?_)
                      have hP : va_P G.1 vwCl (wyw G wd (shr (rlx (r 0) (r 1) (r 2) u9 k (rln (r 0) (r 1) (r 2) u9 (a 3) q (ini goals (a 0)))) ((r 0) k) ((r 1) k) ((r 2) k * 16 + 1)) u9 ++ (tkw G ad a r)) H := wp_pm (List.Perm.refl _).symm hP
                      have hD : va_D A (wyw G wd (shr (rlx (r 0) (r 1) (r 2) u9 k (rln (r 0) (r 1) (r 2) u9 (a 3) q (ini goals (a 0)))) ((r 0) k) ((r 1) k) ((r 2) k * 16 + 1)) u9 ++ (tkw G ad a r)) := wd_pm (List.Perm.refl _).symm hD
                      refine lv_iinc (v := (nI (k + 1))) (lv' := [(5, .int (nI (k + 1))), (0, .ref (wd 0)), (1, .ref (ad 0)), (2, .int (nI u9)), (3, .int (nI goals)), (4, .int (nI (q + 1)))]) hx hb dX6_findBy_109 hl (k := 5) rfl (qn_inc _) (by decide) rfl (fun ls hl => ?_)
                      refine lv_goto (tgt := 64) hx hb dX6_findBy_112 (by decide) ?_
                      exact ih64 (k + 1) (shr (rlx (r 0) (r 1) (r 2) u9 k (rln (r 0) (r 1) (r 2) u9 (a 3) q (ini goals (a 0)))) ((r 0) k) ((r 1) k) ((r 2) k * 16 + 1)) (by omega) (by simp [rlx, c82]) (by omega) _ _ hP hD hS ls (lv_sub hl [1, 2, 3, 4, 5, 0] rfl)
              exact lp64 _ 0 (rln (r 0) (r 1) (r 2) u9 (a 3) q (ini goals (a 0))) (Nat.lt_succ_self _) rfl (Nat.zero_le _) _ _ hP hD hS ls (lv_sub hl [1, 2, 3, 4, 5, 0] rfl)
        exact lp52 _ 0 (ini goals v) (Nat.lt_succ_self _) (by have e9 : v = a 0 := (by omega); rw [e9]; rfl) (by omega) _ _ hP hD hS ls (lv_sub hl [1, 2, 3, 4, 0] rfl)
      · refine lv_iload_n hx hb dX6_findBy_26 rfl (lv_at hl 3 rfl) ?_
        refine lv_iload hx hb dX6_findBy_27 (lv_at hl 4 rfl) ?_
        refine ca_Ni (rest := []) (wr := wyw G wd (ini goals v) u9 ++ (tkw G ad a r)) F hX (mX7_has l G goals v (by omega) (by omega)) ⟨cA_N hts kw_357 kw_1 hX.2.2.2.2.2.2.2.2.2.2.2 hdX7_has ⟨Nat.le_of_ble_eq_true rfl, Nat.le_of_ble_eq_true rfl⟩, hts _ kw_356, trivial⟩ rfl hl.1 rfl (Nat.le_of_ble_eq_true rfl) dX6_findBy_29 ⟨Nat.le_of_ble_eq_true rfl, Nat.le_of_ble_eq_true rfl⟩ hP hD hS hA (List.Perm.refl _) (fun r29 u29 H locs hp29 hP hD hS => ?_)
        have hP : va_P G.1 vwCl (wyw G wd (ini goals v) u9 ++ (tkw G ad a r)) H := hP
        have hD : va_D A (wyw G wd (ini goals v) u9 ++ (tkw G ad a r)) := hD
        subst hp29
        refine bv_eq (b := goals.testBit v) (tgt := 43) hx hb dX6_findBy_32 (by decide) (fun c32 => ?_) (fun c32 => ?_)
        · refine lv_iinc (v := (nI (v + 1))) (lv' := [(4, .int (nI (v + 1))), (0, .ref (wd 0)), (1, .ref (ad 0)), (2, .int (nI u9)), (3, .int (nI goals))]) hx hb dX6_findBy_43 hl (k := 4) rfl (qn_inc _) (by decide) rfl (fun ls hl => ?_)
          refine lv_goto (tgt := 17) hx hb dX6_findBy_46 (by decide) ?_
          exact ih17 (v + 1) (ini goals v) (by omega) (by simp [ini, c32]) (by omega) _ _ hP hD hS ls (lv_sub hl [1, 2, 3, 4, 0] rfl)
        · refine lv_aload_n hx hb dX6_findBy_35 rfl (lv_at hl 0 rfl) ?_
          refine va_get (D := G.1) (ci := 5) (v := .ref (wd 1)) (C := RX6) (T := TX6) (N := 2) hx hb hts inA6 hown hX.1 hP 0 rfl rfl 0 (by decide) (hts _ kw_164) (fun _ h9 => h9) rfl dX6_findBy_36 ?_
          refine lv_iload hx hb dX6_findBy_39 (lv_at hl 4 rfl) ?_
          refine lv_iconst (v := (nI 0)) hx hb dX6_findBy_41 (by decide) ?_
          refine nv_ast (f := (ini goals v)) (k := v) (v := 0) hx hb hX hP hD hS 1 rfl (by omega) (by decide) dX6_findBy_42 (fun H locs hP hD hS => ?_)
          have hP : va_P G.1 vwCl (wyw G wd (va_up (ini goals v) v 0) u9 ++ (tkw G ad a r)) H := hP
          have hD : va_D A (wyw G wd (va_up (ini goals v) v 0) u9 ++ (tkw G ad a r)) := hD
          refine lv_iinc (v := (nI (v + 1))) (lv' := [(4, .int (nI (v + 1))), (0, .ref (wd 0)), (1, .ref (ad 0)), (2, .int (nI u9)), (3, .int (nI goals))]) hx hb dX6_findBy_43 hl (k := 4) rfl (qn_inc _) (by decide) rfl (fun ls hl => ?_)
          refine lv_goto (tgt := 17) hx hb dX6_findBy_46 (by decide) ?_
          exact ih17 (v + 1) (va_up (ini goals v) v 0) (by omega) (by simp [ini, c32]) (by omega) _ _ hP hD hS ls (lv_sub hl [1, 2, 3, 4, 0] rfl)
  exact lp17 _ 0 (fun _ => 1048576) (Nat.lt_succ_self _) rfl (Nat.zero_le _) _ _ hP hD hS ls (lv_sub hl [1, 2, 3, 4, 0] rfl)

theorem up_lt {a : Nat → Nat} {r : Nat → Nat → Nat} (h : TB a r) : nd (2 ^ a 3 - 1) (a 9) < 4096 := by
  obtain ⟨t0, t1, t2, t3, t4, -⟩ := h
  have h1 := nd_le (2 ^ a 3 - 1) (a 9)
  have h2 := pw12 t4
  have h3 := Nat.one_le_two_pow (n := a 3)
  omega

theorem hdX6_find : hdOK yX6_find 2 := by decide +kernel
set_option maxHeartbeats 4000000 in
set_option maxRecDepth 100000 in
theorem mX6_find (l : Launch) (G : GG) (wd : Nat → Nat) (w : Nat → Nat) (us : Nat) (ad : Nat → Nat) (a : Nat → Nat) (r : Nat → Nat → Nat) (set : Nat) (hT : TB a r) (hs : set < 4096) : Mv l yX6_find cX6_find 3 none (rmN 3 69) G [.ref (wd 0), .ref (ad 0), .int (nI set)] (wyw G wd w us ++ (tkw G ad a r)) (fun (_ : Unit) => True) (fun (_ : Unit) => wyw G wd (wtN (r 0) (r 1) (r 2) (nd (2 ^ (a 3) - 1) (a 9)) (a 3) (a 0) (nof (r 0) (r 1) (a 1) set (a 3))) (nd (2 ^ (a 3) - 1) (a 9)) ++ (tkw G ad a r)) := by
  refine Mv.of (cc := cX6_find) (nL := 3) (by decide) (Nat.le_of_ble_eq_true rfl) ?_
  intro p e s m below meth c A ls F hr hlocks hnm hX hA hD hP hS hl
  have F : CallFix p m c cX6_find 3 s [.ref (wd 0), .ref (ad 0), .int (nI set)].toArray wA RX6 := F
  obtain ⟨hx, hb, hml, hown, hts⟩ := id F
  have hl : lv_has ls 3 [(0, .ref (wd 0)), (1, .ref (ad 0)), (2, .int (nI set))] := hl
  obtain ⟨t0, t1, t2, t3, t4, t5, t6, t7, t8, t9, t10, t11, t12⟩ := id hT
  refine lv_aload_n hx hb dX6_find_0 rfl (lv_at hl 0 rfl) ?_
  refine lv_aload_n hx hb dX6_find_1 rfl (lv_at hl 1 rfl) ?_
  refine lv_aload_n hx hb dX6_find_2 rfl (lv_at hl 1 rfl) ?_
  refine ca_Vi (ci := 3) (q := (RX4, TX4, 12)) (rest := [.ref (ad 0), .ref (wd 0)]) (wr := wyw G wd w us) F hX (mX4_upLinks l G ad a r  hT) (cA_V hts kw_409 kw_3 kw_406 kw_407 kw_408 hdX4_upLinks ⟨Nat.le_of_ble_eq_true rfl, Nat.le_of_ble_eq_true rfl⟩) rfl rfl rfl hl.1 rfl (Nat.le_of_ble_eq_true rfl) dX6_find_3 ⟨Nat.le_of_ble_eq_true rfl, Nat.le_of_ble_eq_true rfl⟩ hP hD hS hA (List.perm_append_comm) (fun r3 u3 H locs hp3 hP hD hS => ?_)
  have hP : va_P G.1 vwCl (wyw G wd w us ++ (tkw G ad a r)) H := wp_pm (List.perm_append_comm).symm hP
  have hD : va_D A (wyw G wd w us ++ (tkw G ad a r)) := wd_pm (List.perm_append_comm).symm hD
  subst hp3
  refine lv_aload_n hx hb dX6_find_6 rfl (lv_at hl 1 rfl) ?_
  refine lv_iload_n hx hb dX6_find_7 rfl (lv_at hl 2 rfl) ?_
  refine ca_Vi (ci := 3) (q := (RX4, TX4, 12)) (rest := [.int (nI (nd (2 ^ (a 3) - 1) (a 9))), .ref (ad 0), .ref (wd 0)]) (wr := wyw G wd w us) F hX (mX4_nodesOf l G ad a r set hT (by omega)) (cA_V hts kw_413 kw_3 kw_410 kw_411 kw_412 hdX4_nodesOf ⟨Nat.le_of_ble_eq_true rfl, Nat.le_of_ble_eq_true rfl⟩) rfl rfl rfl hl.1 rfl (Nat.le_of_ble_eq_true rfl) dX6_find_8 ⟨Nat.le_of_ble_eq_true rfl, Nat.le_of_ble_eq_true rfl⟩ hP hD hS hA (List.perm_append_comm) (fun r8 u8 H locs hp8 hP hD hS => ?_)
  have hP : va_P G.1 vwCl (wyw G wd w us ++ (tkw G ad a r)) H := wp_pm (List.perm_append_comm).symm hP
  have hD : va_D A (wyw G wd w us ++ (tkw G ad a r)) := wd_pm (List.perm_append_comm).symm hD
  subst hp8
  refine ca_Vv (ci := 5) (q := (RX6, TX6, 2)) (rest := []) (wr := ([] : va_W)) F hX (mX6_findBy l G wd w us ad a r (nd (2 ^ (a 3) - 1) (a 9)) (nof (r 0) (r 1) (a 1) set (a 3)) hT (up_lt hT) (by have := nof_lt t5 t6 (src := a 1) (by omega) set (a 3); omega)) (cA_V hts kw_417 kw_6 kw_414 kw_415 kw_416 hdX6_findBy ⟨Nat.le_of_ble_eq_true rfl, Nat.le_of_ble_eq_true rfl⟩) rfl rfl rfl hl.1 rfl (Nat.le_of_ble_eq_true rfl) dX6_find_11 ⟨Nat.le_of_ble_eq_true rfl, Nat.le_of_ble_eq_true rfl⟩ hP hD hS hA (pm_nil _) (fun u11 H locs hp11 hP hD hS => ?_)
  have hP : va_P G.1 vwCl (wyw G wd (wtN (r 0) (r 1) (r 2) (nd (2 ^ (a 3) - 1) (a 9)) (a 3) (a 0) (nof (r 0) (r 1) (a 1) set (a 3))) (nd (2 ^ (a 3) - 1) (a 9)) ++ (tkw G ad a r)) H := wp_pm (pm_nil _).symm hP
  have hD : va_D A (wyw G wd (wtN (r 0) (r 1) (r 2) (nd (2 ^ (a 3) - 1) (a 9)) (a 3) (a 0) (nof (r 0) (r 1) (a 1) set (a 3))) (nd (2 ^ (a 3) - 1) (a 9)) ++ (tkw G ad a r)) := wd_pm (pm_nil _).symm hD
  exact re_v hx hb hr hlocks hS () hP hD trivial dX6_find_14

theorem hdX6_reach : hdOK yX6_reach 1 := by decide +kernel
set_option maxHeartbeats 4000000 in
set_option maxRecDepth 100000 in
theorem mX6_reach (l : Launch) (G : GG) (wd : Nat → Nat) (w : Nat → Nat) (us : Nat) (v : Nat) (hw : ∀ j, w j ≤ 1048576) (hv : v < 7) : Mi l yX6_reach cX6_reach 2 (some .boolean) (rmN 0 0) G [.ref (wd 0), .int (nI v)] (wyw G wd w us) (fun (r9 : Int32) (_ : Unit) => r9 = (bI (decide (w v < 1048576)))) (fun (_ : Unit) => wyw G wd w us) := by
  refine Mi.of (cc := cX6_reach) (nL := 2) (by decide) (Nat.le_of_ble_eq_true rfl) ?_
  intro p e s m below meth c A ls F hr hlocks hnm hX hA hD hP hS hl
  have F : CallFix p m c cX6_reach 2 s [.ref (wd 0), .int (nI v)].toArray wA RX6 := F
  obtain ⟨hx, hb, hml, hown, hts⟩ := id F
  have hl : lv_has ls 2 [(0, .ref (wd 0)), (1, .int (nI v))] := hl
  refine lv_aload_n hx hb dX6_reach_0 rfl (lv_at hl 0 rfl) ?_
  refine va_get (D := G.1) (ci := 5) (v := .ref (wd 1)) (C := RX6) (T := TX6) (N := 2) hx hb hts inA6 hown hX.1 hP 0 rfl rfl 0 (by decide) (hts _ kw_164) (fun _ h9 => h9) rfl dX6_reach_1 ?_
  refine lv_iload_n hx hb dX6_reach_4 rfl (lv_at hl 1 rfl) ?_
  refine nv_ald (f := w) (k := v) hx hb hX hP 1 rfl (by omega) (by decide) dX6_reach_5 ?_
  refine lv_ldc (v := (nI 1048576)) hx hb hown (hts _ kw_418) dX6_reach_6 ?_
  refine nv_ge (x := w v) (y := 1048576) (tgt := 15) hx hb dX6_reach_8 (by decide) (by have := hw v; omega) (by decide) (fun c8 => ?_) (fun c8 => ?_)
  · refine lv_iconst (v := (nI 0)) hx hb dX6_reach_15 (by decide) ?_
    exact re_z (v := (nI 0)) hx hb hr hlocks hS () hP hD (by first | (rw [decide_eq_true c8]; rfl) | (rw [decide_eq_false (by omega)]; rfl)) (by decide) dX6_reach_16
  · refine lv_iconst (v := (nI 1)) hx hb dX6_reach_11 (by decide) ?_
    refine lv_goto (tgt := 16) hx hb dX6_reach_12 (by decide) ?_
    exact re_z (v := (nI 1)) hx hb hr hlocks hS () hP hD (by first | (rw [decide_eq_true c8]; rfl) | (rw [decide_eq_false (by omega)]; rfl)) (by decide) dX6_reach_16

theorem hdX6_costFrom : hdOK yX6_costFrom 1 := by decide +kernel
set_option maxHeartbeats 4000000 in
set_option maxRecDepth 100000 in
theorem mX6_costFrom (l : Launch) (G : GG) (wd : Nat → Nat) (w : Nat → Nat) (us : Nat) (v : Nat) (hw : ∀ j, w j ≤ 1048576) (hv : v < 7) : Mi l yX6_costFrom cX6_costFrom 2 (some .int) (rmN 1 21) G [.ref (wd 0), .int (nI v)] (wyw G wd w us) (fun (r9 : Int32) (_ : Unit) => r9 = (oN (cfr w v))) (fun (_ : Unit) => wyw G wd w us) := by
  refine Mi.of (cc := cX6_costFrom) (nL := 2) (by decide) (Nat.le_of_ble_eq_true rfl) ?_
  intro p e s m below meth c A ls F hr hlocks hnm hX hA hD hP hS hl
  have F : CallFix p m c cX6_costFrom 2 s [.ref (wd 0), .int (nI v)].toArray wA RX6 := F
  obtain ⟨hx, hb, hml, hown, hts⟩ := id F
  have hl : lv_has ls 2 [(0, .ref (wd 0)), (1, .int (nI v))] := hl
  refine lv_aload_n hx hb dX6_costFrom_0 rfl (lv_at hl 0 rfl) ?_
  refine lv_iload_n hx hb dX6_costFrom_1 rfl (lv_at hl 1 rfl) ?_
  refine ca_Vi (ci := 5) (q := (RX6, TX6, 2)) (rest := []) (wr := ([] : va_W)) F hX (mX6_reach l G wd w us v hw (by omega)) (cA_V hts kw_434 kw_6 kw_483 kw_432 kw_433 hdX6_reach ⟨Nat.le_of_ble_eq_true rfl, Nat.le_of_ble_eq_true rfl⟩) rfl rfl rfl hl.1 rfl (Nat.le_of_ble_eq_true rfl) dX6_costFrom_2 ⟨Nat.le_of_ble_eq_true rfl, Nat.le_of_ble_eq_true rfl⟩ hP hD hS hA (pm_nil _) (fun r2 u2 H locs hp2 hP hD hS => ?_)
  have hP : va_P G.1 vwCl (wyw G wd w us) H := wp_pm (pm_nil _).symm hP
  have hD : va_D A (wyw G wd w us) := wd_pm (pm_nil _).symm hD
  subst hp2
  refine bv_eq (b := decide (w v < 1048576)) (tgt := 20) hx hb dX6_costFrom_5 (by decide) (fun c5 => ?_) (fun c5 => ?_)
  · refine lv_bipush (v := (-9)) hx hb dX6_costFrom_20 (by decide) ?_
    exact re_i (v := (-9)) hx hb hr hlocks hS () hP hD (by first | (rw [cfr, if_pos (of_decide_eq_true c5)]; rfl) | (rw [cfr, if_neg (of_decide_eq_false c5)]; rfl)) dX6_costFrom_22
  · refine lv_aload_n hx hb dX6_costFrom_8 rfl (lv_at hl 0 rfl) ?_
    refine va_get (D := G.1) (ci := 5) (v := .ref (wd 1)) (C := RX6) (T := TX6) (N := 2) hx hb hts inA6 hown hX.1 hP 0 rfl rfl 0 (by decide) (hts _ kw_164) (fun _ h9 => h9) rfl dX6_costFrom_9 ?_
    refine lv_iload_n hx hb dX6_costFrom_12 rfl (lv_at hl 1 rfl) ?_
    refine nv_ald (f := w) (k := v) hx hb hX hP 1 rfl (by omega) (by decide) dX6_costFrom_13 ?_
    refine lv_bipush (v := (nI 16)) hx hb dX6_costFrom_14 (by decide) ?_
    refine lv_idiv hx hb dX6_costFrom_16 (by decide) (ti (y := (nI ((w v) / 16))) (pk_div (by have := hw v; omega) (by decide) (by decide)) ?_)
    refine lv_goto (tgt := 22) hx hb dX6_costFrom_17 (by decide) ?_
    exact re_i (v := (nI ((w v) / 16))) hx hb hr hlocks hS () hP hD (by first | (rw [cfr, if_pos (of_decide_eq_true c5)]; rfl) | (rw [cfr, if_neg (of_decide_eq_false c5)]; rfl)) dX6_costFrom_22

theorem hdX6_stepsFrom : hdOK yX6_stepsFrom 1 := by decide +kernel
set_option maxHeartbeats 4000000 in
set_option maxRecDepth 100000 in
theorem mX6_stepsFrom (l : Launch) (G : GG) (wd : Nat → Nat) (w : Nat → Nat) (us : Nat) (v : Nat) (hw : ∀ j, w j ≤ 1048576) (hv : v < 7) : Mi l yX6_stepsFrom cX6_stepsFrom 2 (some .int) (rmN 1 21) G [.ref (wd 0), .int (nI v)] (wyw G wd w us) (fun (r9 : Int32) (_ : Unit) => r9 = (oN (sfr w v))) (fun (_ : Unit) => wyw G wd w us) := by
  refine Mi.of (cc := cX6_stepsFrom) (nL := 2) (by decide) (Nat.le_of_ble_eq_true rfl) ?_
  intro p e s m below meth c A ls F hr hlocks hnm hX hA hD hP hS hl
  have F : CallFix p m c cX6_stepsFrom 2 s [.ref (wd 0), .int (nI v)].toArray wA RX6 := F
  obtain ⟨hx, hb, hml, hown, hts⟩ := id F
  have hl : lv_has ls 2 [(0, .ref (wd 0)), (1, .int (nI v))] := hl
  refine lv_aload_n hx hb dX6_stepsFrom_0 rfl (lv_at hl 0 rfl) ?_
  refine lv_iload_n hx hb dX6_stepsFrom_1 rfl (lv_at hl 1 rfl) ?_
  refine ca_Vi (ci := 5) (q := (RX6, TX6, 2)) (rest := []) (wr := ([] : va_W)) F hX (mX6_reach l G wd w us v hw (by omega)) (cA_V hts kw_434 kw_6 kw_483 kw_432 kw_433 hdX6_reach ⟨Nat.le_of_ble_eq_true rfl, Nat.le_of_ble_eq_true rfl⟩) rfl rfl rfl hl.1 rfl (Nat.le_of_ble_eq_true rfl) dX6_stepsFrom_2 ⟨Nat.le_of_ble_eq_true rfl, Nat.le_of_ble_eq_true rfl⟩ hP hD hS hA (pm_nil _) (fun r2 u2 H locs hp2 hP hD hS => ?_)
  have hP : va_P G.1 vwCl (wyw G wd w us) H := wp_pm (pm_nil _).symm hP
  have hD : va_D A (wyw G wd w us) := wd_pm (pm_nil _).symm hD
  subst hp2
  refine bv_eq (b := decide (w v < 1048576)) (tgt := 20) hx hb dX6_stepsFrom_5 (by decide) (fun c5 => ?_) (fun c5 => ?_)
  · refine lv_bipush (v := (-9)) hx hb dX6_stepsFrom_20 (by decide) ?_
    exact re_i (v := (-9)) hx hb hr hlocks hS () hP hD (by first | (rw [sfr, if_pos (of_decide_eq_true c5)]; rfl) | (rw [sfr, if_neg (of_decide_eq_false c5)]; rfl)) dX6_stepsFrom_22
  · refine lv_aload_n hx hb dX6_stepsFrom_8 rfl (lv_at hl 0 rfl) ?_
    refine va_get (D := G.1) (ci := 5) (v := .ref (wd 1)) (C := RX6) (T := TX6) (N := 2) hx hb hts inA6 hown hX.1 hP 0 rfl rfl 0 (by decide) (hts _ kw_164) (fun _ h9 => h9) rfl dX6_stepsFrom_9 ?_
    refine lv_iload_n hx hb dX6_stepsFrom_12 rfl (lv_at hl 1 rfl) ?_
    refine nv_ald (f := w) (k := v) hx hb hX hP 1 rfl (by omega) (by decide) dX6_stepsFrom_13 ?_
    refine lv_bipush (v := (nI 16)) hx hb dX6_stepsFrom_14 (by decide) ?_
    refine lv_irem hx hb dX6_stepsFrom_16 (by decide) (ti (y := (nI ((w v) % 16))) (pk_rem (by have := hw v; omega) (by decide) (by decide)) ?_)
    refine lv_goto (tgt := 22) hx hb dX6_stepsFrom_17 (by decide) ?_
    exact re_i (v := (nI ((w v) % 16))) hx hb hr hlocks hS () hP hD (by first | (rw [sfr, if_pos (of_decide_eq_true c5)]; rfl) | (rw [sfr, if_neg (of_decide_eq_false c5)]; rfl)) dX6_stepsFrom_22

theorem hdX6_firstStep : hdOK yX6_firstStep 2 := by decide +kernel
set_option maxHeartbeats 4000000 in
set_option maxRecDepth 100000 in
theorem mX6_firstStep (l : Launch) (G : GG) (wd : Nat → Nat) (w : Nat → Nat) (us : Nat) (ad : Nat → Nat) (a : Nat → Nat) (r : Nat → Nat → Nat) (v : Nat) (hw : ∀ j, w j ≤ 1048576) (hu : us < 4096) (hT : TB a r) (hv : v < 7) : Mi l yX6_firstStep cX6_firstStep 7 (some .int) (rmN 1 22) G [.ref (wd 0), .ref (ad 0), .int (nI v)] (wyw G wd w us ++ (tkw G ad a r)) (fun (r9 : Int32) (_ : Unit) => r9 = (oN (fsO (r 0) (r 1) (r 2) w us (a 3) v))) (fun (_ : Unit) => wyw G wd w us ++ (tkw G ad a r)) := by
  refine Mi.of (cc := cX6_firstStep) (nL := 7) (by decide) (Nat.le_of_ble_eq_true rfl) ?_
  intro p e s m below meth c A ls F hr hlocks hnm hX hA hD hP hS hl
  have F : CallFix p m c cX6_firstStep 7 s [.ref (wd 0), .ref (ad 0), .int (nI v)].toArray wA RX6 := F
  obtain ⟨hx, hb, hml, hown, hts⟩ := id F
  have hl : lv_has ls 7 [(0, .ref (wd 0)), (1, .ref (ad 0)), (2, .int (nI v))] := hl
  obtain ⟨t0, t1, t2, t3, t4, t5, t6, t7, t8, t9, t10, t11, t12⟩ := id hT
  refine lv_bipush (v := (-9)) hx hb dX6_firstStep_0 (by decide) ?_
  refine lv_istore_n (lv' := [(3, .int (-9)), (0, .ref (wd 0)), (1, .ref (ad 0)), (2, .int (nI v))]) hx hb dX6_firstStep_2 rfl hl (by decide) rfl (fun ls hl => ?_)
  refine lv_bipush (v := (nI 7)) hx hb dX6_firstStep_3 (by decide) ?_
  refine lv_istore (lv' := [(4, .int (nI 7)), (3, .int (-9)), (0, .ref (wd 0)), (1, .ref (ad 0)), (2, .int (nI v))]) hx hb dX6_firstStep_5 hl (by decide) rfl (fun ls hl => ?_)
  refine lv_iconst (v := (nI 0)) hx hb dX6_firstStep_7 (by decide) ?_
  refine lv_istore (lv' := [(5, .int (nI 0)), (4, .int (nI 7)), (3, .int (-9)), (0, .ref (wd 0)), (1, .ref (ad 0)), (2, .int (nI v))]) hx hb dX6_firstStep_8 hl (by decide) rfl (fun ls hl => ?_)
  have lp10 : ∀ (n10 : Nat) (k : Nat) (b : Int32) (lo : Nat), (a 3 - k) < n10 → b = oN (fsS (r 0) (r 1) (r 2) w us v k).1 → lo = (fsS (r 0) (r 1) (r 2) w us v k).2 → (k ≤ a 3) → ∀ (H : Heap) (locs : List Loc), va_P G.1 vwCl (wyw G wd w us ++ (tkw G ad a r)) H → va_D A (wyw G wd w us ++ (tkw G ad a r)) → va_S A s.heap H locs → ∀ (ls : Array Slot), lv_has ls 7 [(0, .ref (wd 0)), (1, .ref (ad 0)), (2, .int (nI v)), (3, .int b), (4, .int (nI lo)), (5, .int (nI k))] → WI p l e (rmN 1 22) s m [.ref (wd 0), .ref (ad 0), .int (nI v)] below meth c H locs G A (fun (r9 : Int32) (_ : Unit) => r9 = (oN (fsO (r 0) (r 1) (r 2) w us (a 3) v))) (fun (_ : Unit) => wyw G wd w us ++ (tkw G ad a r)) (F0 m 10 ls []) := by
    intro n10
    induction n10 with
    | zero => intro k b lo h9; exact absurd h9 (Nat.not_lt_zero _)
    | succ n10 ih10 =>
      intro k b lo hm10 e_b e_lo hk H locs hP hD hS ls hl
      subst e_b
      subst e_lo
      refine lv_iload hx hb dX6_firstStep_10 (lv_at hl 5 rfl) ?_
      refine lv_aload_n hx hb dX6_firstStep_12 rfl (lv_at hl 1 rfl) ?_
      refine va_get (D := G.1) (ci := 3) (v := .int (nI (a 3))) (C := RX4) (T := TX4) (N := 12) hx hb hts inA4 hown hX.1 hP 2 rfl rfl 3 (by decide) (hts _ kw_77) (fun _ h9 => h9) rfl dX6_firstStep_13 ?_
      refine nv_ge (x := k) (y := a 3) (tgt := 96) hx hb dX6_firstStep_16 (by decide) (by omega) (by omega) (fun c16 => ?_) (fun c16 => ?_)
      · refine lv_iload_n hx hb dX6_firstStep_96 rfl (lv_at hl 3 rfl) ?_
        exact re_i (v := (oN (fsS (r 0) (r 1) (r 2) w us v k).1)) hx hb hr hlocks hS () hP hD (by have e9 : k = a 3 := (by omega); rw [e9]; rfl) dX6_firstStep_97
      · refine lv_aload_n hx hb dX6_firstStep_19 rfl (lv_at hl 0 rfl) ?_
        refine va_get (D := G.1) (ci := 5) (v := .int (nI us)) (C := RX6) (T := TX6) (N := 2) hx hb hts inA6 hown hX.1 hP 0 rfl rfl 1 (by decide) (hts _ kw_165) (fun _ h9 => h9) rfl dX6_firstStep_20 ?_
        refine lv_iload hx hb dX6_firstStep_23 (lv_at hl 5 rfl) ?_
        refine ca_Ni (rest := []) (wr := wyw G wd w us ++ (tkw G ad a r)) F hX (mX7_has l G us k (by omega) (by omega)) ⟨cA_N hts kw_357 kw_1 hX.2.2.2.2.2.2.2.2.2.2.2 hdX7_has ⟨Nat.le_of_ble_eq_true rfl, Nat.le_of_ble_eq_true rfl⟩, hts _ kw_356, trivial⟩ rfl hl.1 rfl (Nat.le_of_ble_eq_true rfl) dX6_firstStep_25 ⟨Nat.le_of_ble_eq_true rfl, Nat.le_of_ble_eq_true rfl⟩ hP hD hS hA (List.Perm.refl _) (fun r25 u25 H locs hp25 hP hD hS => ?_)
        have hP : va_P G.1 vwCl (wyw G wd w us ++ (tkw G ad a r)) H := hP
        have hD : va_D A (wyw G wd w us ++ (tkw G ad a r)) := hD
        subst hp25
        refine bv_eq (b := us.testBit k) (tgt := 90) hx hb dX6_firstStep_28 (by decide) (fun c28 => ?_) (fun c28 => ?_)
        · refine lv_iinc (v := (nI (k + 1))) (lv' := [(5, .int (nI (k + 1))), (0, .ref (wd 0)), (1, .ref (ad 0)), (2, .int (nI v)), (3, .int (oN (fsS (r 0) (r 1) (r 2) w us v k).1)), (4, .int (nI ((fsS (r 0) (r 1) (r 2) w us v k).2)))]) hx hb dX6_firstStep_90 hl (k := 5) rfl (qn_inc _) (by decide) rfl (fun ls hl => ?_)
          refine lv_goto (tgt := 10) hx hb dX6_firstStep_93 (by decide) ?_
          exact ih10 (k + 1) (oN (fsS (r 0) (r 1) (r 2) w us v k).1) ((fsS (r 0) (r 1) (r 2) w us v k).2) (by omega) (by first | (rw [fsS, if_pos ⟨c28, c41, c57, c80⟩] <;> rfl) | (rw [fsS, if_neg (fun h => c80 h.2.2.2)] <;> rfl) | (rw [fsS, if_neg (fun h => absurd h.2.2.1 (by omega))] <;> rfl) | (rw [fsS, if_neg (fun h => by rw [c41] at h; exact absurd h.2.1 (by decide))] <;> rfl) | (rw [fsS, if_neg (fun h => by rw [c28] at h; exact absurd h.1 (by decide))] <;> rfl)) (by first | (rw [fsS, if_pos ⟨c28, c41, c57, c80⟩] <;> rfl) | (rw [fsS, if_neg (fun h => c80 h.2.2.2)] <;> rfl) | (rw [fsS, if_neg (fun h => absurd h.2.2.1 (by omega))] <;> rfl) | (rw [fsS, if_neg (fun h => by rw [c41] at h; exact absurd h.2.1 (by decide))] <;> rfl) | (rw [fsS, if_neg (fun h => by rw [c28] at h; exact absurd h.1 (by decide))] <;> rfl)) (by omega) _ _ hP hD hS ls (lv_sub hl [1, 2, 3, 4, 5, 0] rfl)
        · refine lv_aload_n hx hb dX6_firstStep_31 rfl (lv_at hl 1 rfl) ?_
          refine lv_iload hx hb dX6_firstStep_32 (lv_at hl 5 rfl) ?_
          refine ca_Vi (ci := 3) (q := (RX4, TX4, 12)) (rest := []) (wr := wyw G wd w us) F hX (mX4_ends l G ad a r k hT (by omega)) (cA_V hts kw_354 kw_3 kw_448 kw_352 kw_353 hdX4_ends ⟨Nat.le_of_ble_eq_true rfl, Nat.le_of_ble_eq_true rfl⟩) rfl rfl rfl hl.1 rfl (Nat.le_of_ble_eq_true rfl) dX6_firstStep_34 ⟨Nat.le_of_ble_eq_true rfl, Nat.le_of_ble_eq_true rfl⟩ hP hD hS hA (List.perm_append_comm) (fun r34 u34 H locs hp34 hP hD hS => ?_)
          have hP : va_P G.1 vwCl (wyw G wd w us ++ (tkw G ad a r)) H := wp_pm (List.perm_append_comm).symm hP
          have hD : va_D A (wyw G wd w us ++ (tkw G ad a r)) := wd_pm (List.perm_append_comm).symm hD
          subst hp34
          refine lv_iload_n hx hb dX6_firstStep_37 rfl (lv_at hl 2 rfl) ?_
          refine ca_Ni (rest := []) (wr := wyw G wd w us ++ (tkw G ad a r)) F hX (mX7_has l G (edg (r 0) (r 1) k) v (by have := edg_lt t5 t6 k; omega) (by omega)) ⟨cA_N hts kw_357 kw_1 hX.2.2.2.2.2.2.2.2.2.2.2 hdX7_has ⟨Nat.le_of_ble_eq_true rfl, Nat.le_of_ble_eq_true rfl⟩, hts _ kw_356, trivial⟩ rfl hl.1 rfl (Nat.le_of_ble_eq_true rfl) dX6_firstStep_38 ⟨Nat.le_of_ble_eq_true rfl, Nat.le_of_ble_eq_true rfl⟩ hP hD hS hA (List.Perm.refl _) (fun r38 u38 H locs hp38 hP hD hS => ?_)
          have hP : va_P G.1 vwCl (wyw G wd w us ++ (tkw G ad a r)) H := hP
          have hD : va_D A (wyw G wd w us ++ (tkw G ad a r)) := hD
          subst hp38
          refine bv_eq (b := (edg (r 0) (r 1) k).testBit v) (tgt := 90) hx hb dX6_firstStep_41 (by decide) (fun c41 => ?_) (fun c41 => ?_)
          · refine lv_iinc (v := (nI (k + 1))) (lv' := [(5, .int (nI (k + 1))), (0, .ref (wd 0)), (1, .ref (ad 0)), (2, .int (nI v)), (3, .int (oN (fsS (r 0) (r 1) (r 2) w us v k).1)), (4, .int (nI ((fsS (r 0) (r 1) (r 2) w us v k).2)))]) hx hb dX6_firstStep_90 hl (k := 5) rfl (qn_inc _) (by decide) rfl (fun ls hl => ?_)
            refine lv_goto (tgt := 10) hx hb dX6_firstStep_93 (by decide) ?_
            exact ih10 (k + 1) (oN (fsS (r 0) (r 1) (r 2) w us v k).1) ((fsS (r 0) (r 1) (r 2) w us v k).2) (by omega) (by first | (rw [fsS, if_pos ⟨c28, c41, c57, c80⟩] <;> rfl) | (rw [fsS, if_neg (fun h => c80 h.2.2.2)] <;> rfl) | (rw [fsS, if_neg (fun h => absurd h.2.2.1 (by omega))] <;> rfl) | (rw [fsS, if_neg (fun h => by rw [c41] at h; exact absurd h.2.1 (by decide))] <;> rfl) | (rw [fsS, if_neg (fun h => by rw [c28] at h; exact absurd h.1 (by decide))] <;> rfl)) (by first | (rw [fsS, if_pos ⟨c28, c41, c57, c80⟩] <;> rfl) | (rw [fsS, if_neg (fun h => c80 h.2.2.2)] <;> rfl) | (rw [fsS, if_neg (fun h => absurd h.2.2.1 (by omega))] <;> rfl) | (rw [fsS, if_neg (fun h => by rw [c41] at h; exact absurd h.2.1 (by decide))] <;> rfl) | (rw [fsS, if_neg (fun h => by rw [c28] at h; exact absurd h.1 (by decide))] <;> rfl)) (by omega) _ _ hP hD hS ls (lv_sub hl [1, 2, 3, 4, 5, 0] rfl)
          · refine lv_aload_n hx hb dX6_firstStep_44 rfl (lv_at hl 1 rfl) ?_
            refine lv_iload hx hb dX6_firstStep_45 (lv_at hl 5 rfl) ?_
            refine lv_iload_n hx hb dX6_firstStep_47 rfl (lv_at hl 2 rfl) ?_
            refine ca_Si (rest := []) (wr := wyw G wd w us) F hX (mX6_nextNode l G ad a r k v hT (by omega) (by omega)) (cA_S hts kw_451 kw_6 kw_449 kw_450 hdX6_nextNode ⟨Nat.le_of_ble_eq_true rfl, Nat.le_of_ble_eq_true rfl⟩) rfl hl.1 rfl (Nat.le_of_ble_eq_true rfl) dX6_firstStep_48 ⟨Nat.le_of_ble_eq_true rfl, Nat.le_of_ble_eq_true rfl⟩ hP hD hS hA (List.perm_append_comm) (fun r48 u48 H locs hp48 hP hD hS => ?_)
            have hP : va_P G.1 vwCl (wyw G wd w us ++ (tkw G ad a r)) H := wp_pm (List.perm_append_comm).symm hP
            have hD : va_D A (wyw G wd w us ++ (tkw G ad a r)) := wd_pm (List.perm_append_comm).symm hD
            subst hp48
            refine lv_istore (lv' := [(6, .int (nI (nxt (r 0) (r 1) k v))), (0, .ref (wd 0)), (1, .ref (ad 0)), (2, .int (nI v)), (3, .int (oN (fsS (r 0) (r 1) (r 2) w us v k).1)), (4, .int (nI ((fsS (r 0) (r 1) (r 2) w us v k).2))), (5, .int (nI k))]) hx hb dX6_firstStep_51 hl (by decide) rfl (fun ls hl => ?_)
            refine lv_iload hx hb dX6_firstStep_53 (lv_at hl 0 rfl) ?_
            refine lv_iload hx hb dX6_firstStep_55 (lv_at hl 5 rfl) ?_
            refine nv_ge (x := nxt (r 0) (r 1) k v) (y := ((fsS (r 0) (r 1) (r 2) w us v k).2)) (tgt := 90) hx hb dX6_firstStep_57 (by decide) (by have := nxt_lt t5 t6 k v; omega) (by have := fsS_le (r 0) (r 1) (r 2) w us v k; omega) (fun c57 => ?_) (fun c57 => ?_)
            · refine lv_iinc (v := (nI (k + 1))) (lv' := [(5, .int (nI (k + 1))), (6, .int (nI (nxt (r 0) (r 1) k v))), (0, .ref (wd 0)), (1, .ref (ad 0)), (2, .int (nI v)), (3, .int (oN (fsS (r 0) (r 1) (r 2) w us v k).1)), (4, .int (nI ((fsS (r 0) (r 1) (r 2) w us v k).2)))]) hx hb dX6_firstStep_90 hl (k := 6) rfl (qn_inc _) (by decide) rfl (fun ls hl => ?_)
              refine lv_goto (tgt := 10) hx hb dX6_firstStep_93 (by decide) ?_
              exact ih10 (k + 1) (oN (fsS (r 0) (r 1) (r 2) w us v k).1) ((fsS (r 0) (r 1) (r 2) w us v k).2) (by omega) (by first | (rw [fsS, if_pos ⟨c28, c41, c57, c80⟩] <;> rfl) | (rw [fsS, if_neg (fun h => c80 h.2.2.2)] <;> rfl) | (rw [fsS, if_neg (fun h => absurd h.2.2.1 (by omega))] <;> rfl) | (rw [fsS, if_neg (fun h => by rw [c41] at h; exact absurd h.2.1 (by decide))] <;> rfl) | (rw [fsS, if_neg (fun h => by rw [c28] at h; exact absurd h.1 (by decide))] <;> rfl)) (by first | (rw [fsS, if_pos ⟨c28, c41, c57, c80⟩] <;> rfl) | (rw [fsS, if_neg (fun h => c80 h.2.2.2)] <;> rfl) | (rw [fsS, if_neg (fun h => absurd h.2.2.1 (by omega))] <;> rfl) | (rw [fsS, if_neg (fun h => by rw [c41] at h; exact absurd h.2.1 (by decide))] <;> rfl) | (rw [fsS, if_neg (fun h => by rw [c28] at h; exact absurd h.1 (by decide))] <;> rfl)) (by omega) _ _ hP hD hS ls (lv_sub hl [2, 3, 4, 5, 6, 0] rfl)
            · refine lv_aload_n hx hb dX6_firstStep_60 rfl (lv_at hl 1 rfl) ?_
              refine va_get (D := G.1) (ci := 5) (v := .ref (wd 1)) (C := RX6) (T := TX6) (N := 2) hx hb hts inA6 hown hX.1 hP 0 rfl rfl 0 (by decide) (hts _ kw_164) (fun _ h9 => h9) rfl dX6_firstStep_61 ?_
              refine lv_iload hx hb dX6_firstStep_64 (lv_at hl 0 rfl) ?_
              refine nv_ald (f := w) (k := nxt (r 0) (r 1) k v) hx hb hX hP 1 rfl (nxt_lt t5 t6 k v) (by decide) dX6_firstStep_66 ?_
              refine lv_aload_n hx hb dX6_firstStep_67 rfl (lv_at hl 2 rfl) ?_
              refine lv_iload hx hb dX6_firstStep_68 (lv_at hl 6 rfl) ?_
              refine ca_Si (rest := [.int (nI (w (nxt (r 0) (r 1) k v)))]) (wr := wyw G wd w us) F hX (mX6_weightOf l G ad a r k (by omega)) (cA_S hts kw_425 kw_6 kw_423 kw_424 hdX6_weightOf ⟨Nat.le_of_ble_eq_true rfl, Nat.le_of_ble_eq_true rfl⟩) rfl hl.1 rfl (Nat.le_of_ble_eq_true rfl) dX6_firstStep_70 ⟨Nat.le_of_ble_eq_true rfl, Nat.le_of_ble_eq_true rfl⟩ hP hD hS hA (List.perm_append_comm) (fun r70 u70 H locs hp70 hP hD hS => ?_)
              have hP : va_P G.1 vwCl (wyw G wd w us ++ (tkw G ad a r)) H := wp_pm (List.perm_append_comm).symm hP
              have hD : va_D A (wyw G wd w us ++ (tkw G ad a r)) := wd_pm (List.perm_append_comm).symm hD
              subst hp70
              refine lv_iadd hx hb dX6_firstStep_73 (ti (y := (nI ((w (nxt (r 0) (r 1) k v)) + ((r 2) k * 16 + 1)))) (nI_add _ _) ?_)
              refine lv_aload_n hx hb dX6_firstStep_74 rfl (lv_at hl 1 rfl) ?_
              refine va_get (D := G.1) (ci := 5) (v := .ref (wd 1)) (C := RX6) (T := TX6) (N := 2) hx hb hts inA6 hown hX.1 hP 0 rfl rfl 0 (by decide) (hts _ kw_164) (fun _ h9 => h9) rfl dX6_firstStep_75 ?_
              refine lv_iload_n hx hb dX6_firstStep_78 rfl (lv_at hl 3 rfl) ?_
              refine nv_ald (f := w) (k := v) hx hb hX hP 1 rfl (by omega) (by decide) dX6_firstStep_79 ?_
              refine nv_ne (x := (w (nxt (r 0) (r 1) k v)) + ((r 2) k * 16 + 1)) (y := w v) (tgt := 90) hx hb dX6_firstStep_80 (by decide) (by have h1 := hw (nxt (r 0) (r 1) k v); have h2 := t7 k; omega) (by have := hw v; omega) (fun c80 => ?_) (fun c80 => ?_)
              · refine lv_iinc (v := (nI (k + 1))) (lv' := [(5, .int (nI (k + 1))), (6, .int (nI (nxt (r 0) (r 1) k v))), (0, .ref (wd 0)), (1, .ref (ad 0)), (2, .int (nI v)), (3, .int (oN (fsS (r 0) (r 1) (r 2) w us v k).1)), (4, .int (nI ((fsS (r 0) (r 1) (r 2) w us v k).2)))]) hx hb dX6_firstStep_90 hl (k := 6) rfl (qn_inc _) (by decide) rfl (fun ls hl => ?_)
                refine lv_goto (tgt := 10) hx hb dX6_firstStep_93 (by decide) ?_
                exact ih10 (k + 1) (oN (fsS (r 0) (r 1) (r 2) w us v k).1) ((fsS (r 0) (r 1) (r 2) w us v k).2) (by omega) (by first | (rw [fsS, if_pos ⟨c28, c41, c57, c80⟩] <;> rfl) | (rw [fsS, if_neg (fun h => c80 h.2.2.2)] <;> rfl) | (rw [fsS, if_neg (fun h => absurd h.2.2.1 (by omega))] <;> rfl) | (rw [fsS, if_neg (fun h => by rw [c41] at h; exact absurd h.2.1 (by decide))] <;> rfl) | (rw [fsS, if_neg (fun h => by rw [c28] at h; exact absurd h.1 (by decide))] <;> rfl)) (by first | (rw [fsS, if_pos ⟨c28, c41, c57, c80⟩] <;> rfl) | (rw [fsS, if_neg (fun h => c80 h.2.2.2)] <;> rfl) | (rw [fsS, if_neg (fun h => absurd h.2.2.1 (by omega))] <;> rfl) | (rw [fsS, if_neg (fun h => by rw [c41] at h; exact absurd h.2.1 (by decide))] <;> rfl) | (rw [fsS, if_neg (fun h => by rw [c28] at h; exact absurd h.1 (by decide))] <;> rfl)) (by omega) _ _ hP hD hS ls (lv_sub hl [2, 3, 4, 5, 6, 0] rfl)
              · refine lv_iload hx hb dX6_firstStep_83 (lv_at hl 6 rfl) ?_
                refine lv_istore_n (lv' := [(3, .int (nI k)), (6, .int (nI (nxt (r 0) (r 1) k v))), (0, .ref (wd 0)), (1, .ref (ad 0)), (2, .int (nI v)), (4, .int (nI ((fsS (r 0) (r 1) (r 2) w us v k).2))), (5, .int (nI k))]) hx hb dX6_firstStep_85 rfl hl (by decide) rfl (fun ls hl => ?_)
                refine lv_iload hx hb dX6_firstStep_86 (lv_at hl 1 rfl) ?_
                refine lv_istore (lv' := [(4, .int (nI (nxt (r 0) (r 1) k v))), (3, .int (nI k)), (6, .int (nI (nxt (r 0) (r 1) k v))), (0, .ref (wd 0)), (1, .ref (ad 0)), (2, .int (nI v)), (5, .int (nI k))]) hx hb dX6_firstStep_88 hl (by decide) rfl (fun ls hl => ?_)
                refine lv_iinc (v := (nI (k + 1))) (lv' := [(5, .int (nI (k + 1))), (4, .int (nI (nxt (r 0) (r 1) k v))), (3, .int (nI k)), (6, .int (nI (nxt (r 0) (r 1) k v))), (0, .ref (wd 0)), (1, .ref (ad 0)), (2, .int (nI v))]) hx hb dX6_firstStep_90 hl (k := 6) rfl (qn_inc _) (by decide) rfl (fun ls hl => ?_)
                refine lv_goto (tgt := 10) hx hb dX6_firstStep_93 (by decide) ?_
                exact ih10 (k + 1) (nI k) (nxt (r 0) (r 1) k v) (by omega) (by first | (rw [fsS, if_pos ⟨c28, c41, c57, c80⟩] <;> rfl) | (rw [fsS, if_neg (fun h => c80 h.2.2.2)] <;> rfl) | (rw [fsS, if_neg (fun h => absurd h.2.2.1 (by omega))] <;> rfl) | (rw [fsS, if_neg (fun h => by rw [c41] at h; exact absurd h.2.1 (by decide))] <;> rfl) | (rw [fsS, if_neg (fun h => by rw [c28] at h; exact absurd h.1 (by decide))] <;> rfl)) (by first | (rw [fsS, if_pos ⟨c28, c41, c57, c80⟩] <;> rfl) | (rw [fsS, if_neg (fun h => c80 h.2.2.2)] <;> rfl) | (rw [fsS, if_neg (fun h => absurd h.2.2.1 (by omega))] <;> rfl) | (rw [fsS, if_neg (fun h => by rw [c41] at h; exact absurd h.2.1 (by decide))] <;> rfl) | (rw [fsS, if_neg (fun h => by rw [c28] at h; exact absurd h.1 (by decide))] <;> rfl)) (by omega) _ _ hP hD hS ls (lv_sub hl [4, 5, 6, 2, 1, 0] rfl)
  exact lp10 _ 0 (-9) 7 (Nat.lt_succ_self _) rfl rfl (Nat.zero_le _) _ _ hP hD hS ls (lv_sub hl [3, 4, 5, 2, 1, 0] rfl)

theorem hdX6_linksFrom : hdOK yX6_linksFrom 2 := by decide +kernel
set_option maxHeartbeats 4000000 in
set_option maxRecDepth 100000 in
theorem mX6_linksFrom (l : Launch) (G : GG) (wd : Nat → Nat) (w : Nat → Nat) (us : Nat) (ad : Nat → Nat) (a : Nat → Nat) (r : Nat → Nat → Nat) (v : Nat) (hw : ∀ j, w j ≤ 1048576) (hu : us < 4096) (hT : TB a r) (hv : v < 7) : Mi l yX6_linksFrom cX6_linksFrom 7 (some .int) (rmN 2 48) G [.ref (wd 0), .ref (ad 0), .int (nI v)] (wyw G wd w us ++ (tkw G ad a r)) (fun (r9 : Int32) (_ : Unit) => r9 = (nI (lfr (r 0) (r 1) (r 2) w us (a 3) 7 v 0))) (fun (_ : Unit) => wyw G wd w us ++ (tkw G ad a r)) := by
  refine Mi.of (cc := cX6_linksFrom) (nL := 7) (by decide) (Nat.le_of_ble_eq_true rfl) ?_
  intro p e s m below meth c A ls F hr hlocks hnm hX hA hD hP hS hl
  have F : CallFix p m c cX6_linksFrom 7 s [.ref (wd 0), .ref (ad 0), .int (nI v)].toArray wA RX6 := F
  obtain ⟨hx, hb, hml, hown, hts⟩ := id F
  have hl : lv_has ls 7 [(0, .ref (wd 0)), (1, .ref (ad 0)), (2, .int (nI v))] := hl
  obtain ⟨t0, t1, t2, t3, t4, t5, t6, t7, t8, t9, t10, t11, t12⟩ := id hT
  refine lv_iconst (v := (nI 0)) hx hb dX6_linksFrom_0 (by decide) ?_
  refine lv_istore_n (lv' := [(3, .int (nI 0)), (0, .ref (wd 0)), (1, .ref (ad 0)), (2, .int (nI v))]) hx hb dX6_linksFrom_1 rfl hl (by decide) rfl (fun ls hl => ?_)
  refine lv_iload_n hx hb dX6_linksFrom_2 rfl (lv_at hl 3 rfl) ?_
  refine lv_istore (lv' := [(4, .int (nI v)), (3, .int (nI 0)), (0, .ref (wd 0)), (1, .ref (ad 0)), (2, .int (nI v))]) hx hb dX6_linksFrom_3 hl (by decide) rfl (fun ls hl => ?_)
  refine lv_iconst (v := (nI 0)) hx hb dX6_linksFrom_5 (by decide) ?_
  refine lv_istore (lv' := [(5, .int (nI 0)), (4, .int (nI v)), (3, .int (nI 0)), (0, .ref (wd 0)), (1, .ref (ad 0)), (2, .int (nI v))]) hx hb dX6_linksFrom_6 hl (by decide) rfl (fun ls hl => ?_)
  have lp8 : ∀ (n8 : Nat) (i : Nat) (x : Nat) (set : Nat), (7 - i) < n8 → (i ≤ 7) → (x < 7) → (lfr (r 0) (r 1) (r 2) w us (a 3) (7 - i) x set = lfr (r 0) (r 1) (r 2) w us (a 3) 7 v 0) → ∀ (H : Heap) (locs : List Loc), va_P G.1 vwCl (wyw G wd w us ++ (tkw G ad a r)) H → va_D A (wyw G wd w us ++ (tkw G ad a r)) → va_S A s.heap H locs → ∀ (ls : Array Slot), lv_has ls 7 [(0, .ref (wd 0)), (1, .ref (ad 0)), (2, .int (nI v)), (3, .int (nI set)), (4, .int (nI x)), (5, .int (nI i))] → WI p l e (rmN 2 48) s m [.ref (wd 0), .ref (ad 0), .int (nI v)] below meth c H locs G A (fun (r9 : Int32) (_ : Unit) => r9 = (nI (lfr (r 0) (r 1) (r 2) w us (a 3) 7 v 0))) (fun (_ : Unit) => wyw G wd w us ++ (tkw G ad a r)) (F0 m 8 ls []) := by
    intro n8
    induction n8 with
    | zero => intro i x set h9; exact absurd h9 (Nat.not_lt_zero _)
    | succ n8 ih8 =>
      intro i x set hm8  hi hx7 hres H locs hP hD hS ls hl
      refine lv_iload hx hb dX6_linksFrom_8 (lv_at hl 5 rfl) ?_
      refine lv_bipush (v := (nI 7)) hx hb dX6_linksFrom_10 (by decide) ?_
      refine nv_ge (x := i) (y := 7) (tgt := 55) hx hb dX6_linksFrom_12 (by decide) (by omega) (by decide) (fun c12 => ?_) (fun c12 => ?_)
      · refine lv_iload_n hx hb dX6_linksFrom_55 rfl (lv_at hl 3 rfl) ?_
        exact re_i (v := (nI set)) hx hb hr hlocks hS () hP hD (by first | (have e9 : 7 - i = 0 := (by omega); rw [e9] at hres; rw [← hres]; rfl) | (have e9 : 7 - i = (6 - i) + 1 := (by omega); rw [e9, lfr, hj] at hres; rw [← hres])) dX6_linksFrom_56
      · refine lv_aload_n hx hb dX6_linksFrom_15 rfl (lv_at hl 0 rfl) ?_
        refine lv_aload_n hx hb dX6_linksFrom_16 rfl (lv_at hl 1 rfl) ?_
        refine lv_iload hx hb dX6_linksFrom_17 (lv_at hl 4 rfl) ?_
        refine ca_Vi (ci := 5) (q := (RX6, TX6, 2)) (rest := []) (wr := ([] : va_W)) F hX (mX6_firstStep l G wd w us ad a r x hw hu hT (by omega)) (cA_V hts kw_447 kw_6 kw_444 kw_446 kp_14 hdX6_firstStep ⟨Nat.le_of_ble_eq_true rfl, Nat.le_of_ble_eq_true rfl⟩) rfl rfl rfl hl.1 rfl (Nat.le_of_ble_eq_true rfl) dX6_linksFrom_19 ⟨Nat.le_of_ble_eq_true rfl, Nat.le_of_ble_eq_true rfl⟩ hP hD hS hA (pm_nil _) (fun r19 u19 H locs hp19 hP hD hS => ?_)
        have hP : va_P G.1 vwCl (wyw G wd w us ++ (tkw G ad a r)) H := wp_pm (pm_nil _).symm hP
        have hD : va_D A (wyw G wd w us ++ (tkw G ad a r)) := wd_pm (pm_nil _).symm hD
        subst hp19
        rcases hj : fsO (r 0) (r 1) (r 2) w us (a 3) x with _ | j
        · refine ti (y := -9) rfl ?_
          refine lv_istore (lv' := [(6, .int (-9)), (0, .ref (wd 0)), (1, .ref (ad 0)), (2, .int (nI v)), (3, .int (nI set)), (4, .int (nI x)), (5, .int (nI i))]) hx hb dX6_linksFrom_22 hl (by decide) rfl (fun ls hl => ?_)
          refine lv_iload hx hb dX6_linksFrom_24 (lv_at hl 0 rfl) ?_
          refine lv_if_ge (x := (-9)) (tgt := 32) hx hb dX6_linksFrom_26 (by decide) (fun c26 => ?_) (fun c26 => ?_)
          · exact absurd c26 (by decide)
          · refine lv_goto (tgt := 55) hx hb dX6_linksFrom_29 (by decide) ?_
            refine lv_iload_n hx hb dX6_linksFrom_55 rfl (lv_at hl 4 rfl) ?_
            exact re_i (v := (nI set)) hx hb hr hlocks hS () hP hD (by first | (have e9 : 7 - i = 0 := (by omega); rw [e9] at hres; rw [← hres]; rfl) | (have e9 : 7 - i = (6 - i) + 1 := (by omega); rw [e9, lfr, hj] at hres; rw [← hres])) dX6_linksFrom_56
        · refine ti (y := nI j) rfl ?_
          have hlj : j < 12 := by have := fsO_lt hj; omega
          refine lv_istore (lv' := [(6, .int (nI j)), (0, .ref (wd 0)), (1, .ref (ad 0)), (2, .int (nI v)), (3, .int (nI set)), (4, .int (nI x)), (5, .int (nI i))]) hx hb dX6_linksFrom_22 hl (by decide) rfl (fun ls hl => ?_)
          refine lv_iload hx hb dX6_linksFrom_24 (lv_at hl 0 rfl) ?_
          refine nv_zge (x := j) (tgt := 32) hx hb dX6_linksFrom_26 (by decide) (by omega) ?_
          refine lv_iload_n hx hb dX6_linksFrom_32 rfl (lv_at hl 4 rfl) ?_
          refine lv_iconst (v := (nI 1)) hx hb dX6_linksFrom_33 (by decide) ?_
          refine lv_iload hx hb dX6_linksFrom_34 (lv_at hl 0 rfl) ?_
          refine lv_ishl hx hb dX6_linksFrom_36 (ti (y := (nI (2 ^ j))) (qn_sh1 (by omega)) ?_)
          refine lv_ior hx hb dX6_linksFrom_37 (ti (y := (nI (set ||| (2 ^ j)))) (qn_or _ _) ?_)
          refine lv_istore_n (lv' := [(3, .int (nI (set ||| (2 ^ j)))), (6, .int (nI j)), (0, .ref (wd 0)), (1, .ref (ad 0)), (2, .int (nI v)), (4, .int (nI x)), (5, .int (nI i))]) hx hb dX6_linksFrom_38 rfl hl (by decide) rfl (fun ls hl => ?_)
          refine lv_aload_n hx hb dX6_linksFrom_39 rfl (lv_at hl 3 rfl) ?_
          refine lv_iload hx hb dX6_linksFrom_40 (lv_at hl 1 rfl) ?_
          refine lv_iload hx hb dX6_linksFrom_42 (lv_at hl 5 rfl) ?_
          refine ca_Si (rest := []) (wr := wyw G wd w us) F hX (mX6_nextNode l G ad a r j x hT (by omega) (by omega)) (cA_S hts kw_451 kw_6 kw_449 kw_450 hdX6_nextNode ⟨Nat.le_of_ble_eq_true rfl, Nat.le_of_ble_eq_true rfl⟩) rfl hl.1 rfl (Nat.le_of_ble_eq_true rfl) dX6_linksFrom_44 ⟨Nat.le_of_ble_eq_true rfl, Nat.le_of_ble_eq_true rfl⟩ hP hD hS hA (List.perm_append_comm) (fun r44 u44 H locs hp44 hP hD hS => ?_)
          have hP : va_P G.1 vwCl (wyw G wd w us ++ (tkw G ad a r)) H := wp_pm (List.perm_append_comm).symm hP
          have hD : va_D A (wyw G wd w us ++ (tkw G ad a r)) := wd_pm (List.perm_append_comm).symm hD
          subst hp44
          refine lv_istore (lv' := [(4, .int (nI (nxt (r 0) (r 1) j x))), (3, .int (nI (set ||| (2 ^ j)))), (6, .int (nI j)), (0, .ref (wd 0)), (1, .ref (ad 0)), (2, .int (nI v)), (5, .int (nI i))]) hx hb dX6_linksFrom_47 hl (by decide) rfl (fun ls hl => ?_)
          refine lv_iinc (v := (nI (i + 1))) (lv' := [(5, .int (nI (i + 1))), (4, .int (nI (nxt (r 0) (r 1) j x))), (3, .int (nI (set ||| (2 ^ j)))), (6, .int (nI j)), (0, .ref (wd 0)), (1, .ref (ad 0)), (2, .int (nI v))]) hx hb dX6_linksFrom_49 hl (k := 6) rfl (qn_inc _) (by decide) rfl (fun ls hl => ?_)
          refine lv_goto (tgt := 8) hx hb dX6_linksFrom_52 (by decide) ?_
          exact ih8 (i + 1) (nxt (r 0) (r 1) j x) (set ||| (2 ^ j)) (by omega) (by omega) (nxt_lt t5 t6 j x) (by have e9 : 7 - i = (7 - (i + 1)) + 1 := (by omega); rw [e9, lfr, hj] at hres; exact hres) _ _ hP hD hS ls (lv_sub hl [4, 5, 6, 2, 1, 0] rfl)
  exact lp8 _ 0 v 0 (Nat.lt_succ_self _) (Nat.zero_le _) hv rfl _ _ hP hD hS ls (lv_sub hl [3, 4, 5, 2, 1, 0] rfl)

theorem hdX6_stepAt : hdOK yX6_stepAt 3 := by decide +kernel
set_option maxHeartbeats 4000000 in
set_option maxRecDepth 100000 in
theorem mX6_stepAt (l : Launch) (G : GG) (wd : Nat → Nat) (w : Nat → Nat) (us : Nat) (ad : Nat → Nat) (a : Nat → Nat) (r : Nat → Nat → Nat) (v i : Nat) (hw : ∀ j, w j ≤ 1048576) (hu : us < 4096) (hT : TB a r) (hv : v < 7) (hi : i < 2 ^ 31) : Mi l yX6_stepAt cX6_stepAt 7 (some .int) (rmN 2 48) G [.ref (wd 0), .ref (ad 0), .int (nI v), .int (nI i)] (wyw G wd w us ++ (tkw G ad a r)) (fun (r9 : Int32) (_ : Unit) => r9 = (oN (if i < 7 then saN (r 0) (r 1) (r 2) w us (a 3) i v (fsO (r 0) (r 1) (r 2) w us (a 3) v) else none))) (fun (_ : Unit) => wyw G wd w us ++ (tkw G ad a r)) := by
  refine Mi.of (cc := cX6_stepAt) (nL := 7) (by decide) (Nat.le_of_ble_eq_true rfl) ?_
  intro p e s m below meth c A ls F hr hlocks hnm hX hA hD hP hS hl
  have F : CallFix p m c cX6_stepAt 7 s [.ref (wd 0), .ref (ad 0), .int (nI v), .int (nI i)].toArray wA RX6 := F
  obtain ⟨hx, hb, hml, hown, hts⟩ := id F
  have hl : lv_has ls 7 [(0, .ref (wd 0)), (1, .ref (ad 0)), (2, .int (nI v)), (3, .int (nI i))] := hl
  obtain ⟨t0, t1, t2, t3, t4, t5, t6, t7, t8, t9, t10, t11, t12⟩ := id hT
  refine lv_iload_n hx hb dX6_stepAt_0 rfl (lv_at hl 3 rfl) ?_
  refine lv_bipush (v := (nI 7)) hx hb dX6_stepAt_1 (by decide) ?_
  refine nv_lt (x := i) (y := 7) (tgt := 9) hx hb dX6_stepAt_3 (by decide) (by omega) (by decide) (fun c3 => ?_) (fun c3 => ?_)
  · refine lv_iload_n hx hb dX6_stepAt_9 rfl (lv_at hl 2 rfl) ?_
    refine lv_istore (lv' := [(4, .int (nI v)), (0, .ref (wd 0)), (1, .ref (ad 0)), (2, .int (nI v)), (3, .int (nI i))]) hx hb dX6_stepAt_10 hl (by decide) rfl (fun ls hl => ?_)
    refine lv_aload_n hx hb dX6_stepAt_12 rfl (lv_at hl 1 rfl) ?_
    refine lv_aload_n hx hb dX6_stepAt_13 rfl (lv_at hl 2 rfl) ?_
    refine lv_iload hx hb dX6_stepAt_14 (lv_at hl 0 rfl) ?_
    refine ca_Vi (ci := 5) (q := (RX6, TX6, 2)) (rest := []) (wr := ([] : va_W)) F hX (mX6_firstStep l G wd w us ad a r v hw hu hT (by omega)) (cA_V hts kw_447 kw_6 kw_444 kw_446 kp_14 hdX6_firstStep ⟨Nat.le_of_ble_eq_true rfl, Nat.le_of_ble_eq_true rfl⟩) rfl rfl rfl hl.1 rfl (Nat.le_of_ble_eq_true rfl) dX6_stepAt_16 ⟨Nat.le_of_ble_eq_true rfl, Nat.le_of_ble_eq_true rfl⟩ hP hD hS hA (pm_nil _) (fun r16 u16 H locs hp16 hP hD hS => ?_)
    have hP : va_P G.1 vwCl (wyw G wd w us ++ (tkw G ad a r)) H := wp_pm (pm_nil _).symm hP
    have hD : va_D A (wyw G wd w us ++ (tkw G ad a r)) := wd_pm (pm_nil _).symm hD
    subst hp16
    refine lv_istore (lv' := [(5, .int (oN (fsO (r 0) (r 1) (r 2) w us (a 3) v))), (4, .int (nI v)), (0, .ref (wd 0)), (1, .ref (ad 0)), (2, .int (nI v)), (3, .int (nI i))]) hx hb dX6_stepAt_19 hl (by decide) rfl (fun ls hl => ?_)
    refine lv_iconst (v := (nI 0)) hx hb dX6_stepAt_21 (by decide) ?_
    refine lv_istore (lv' := [(6, .int (nI 0)), (5, .int (oN (fsO (r 0) (r 1) (r 2) w us (a 3) v))), (4, .int (nI v)), (0, .ref (wd 0)), (1, .ref (ad 0)), (2, .int (nI v)), (3, .int (nI i))]) hx hb dX6_stepAt_22 hl (by decide) rfl (fun ls hl => ?_)
    have lp24 : ∀ (n24 : Nat) (q : Nat) (x : Nat) (o : Option Nat), (i - q) < n24 → (q ≤ i) → (x < 7) → (∀ k, o = some k → k < 12) → (saN (r 0) (r 1) (r 2) w us (a 3) (i - q) x o = saN (r 0) (r 1) (r 2) w us (a 3) i v (fsO (r 0) (r 1) (r 2) w us (a 3) v)) → ∀ (H : Heap) (locs : List Loc), va_P G.1 vwCl (wyw G wd w us ++ (tkw G ad a r)) H → va_D A (wyw G wd w us ++ (tkw G ad a r)) → va_S A s.heap H locs → ∀ (ls : Array Slot), lv_has ls 7 [(0, .ref (wd 0)), (1, .ref (ad 0)), (2, .int (nI v)), (3, .int (nI i)), (4, .int (nI x)), (5, .int (oN o)), (6, .int (nI q))] → WI p l e (rmN 2 48) s m [.ref (wd 0), .ref (ad 0), .int (nI v), .int (nI i)] below meth c H locs G A (fun (r9 : Int32) (_ : Unit) => r9 = (oN (if i < 7 then saN (r 0) (r 1) (r 2) w us (a 3) i v (fsO (r 0) (r 1) (r 2) w us (a 3) v) else none))) (fun (_ : Unit) => wyw G wd w us ++ (tkw G ad a r)) (F0 m 24 ls []) := by
      intro n24
      induction n24 with
      | zero => intro q x o h9; exact absurd h9 (Nat.not_lt_zero _)
      | succ n24 ih24 =>
        intro q x o hm24  hq hx7 ho hres H locs hP hD hS ls hl
        refine lv_iload hx hb dX6_stepAt_24 (lv_at hl 6 rfl) ?_
        refine lv_iload_n hx hb dX6_stepAt_26 rfl (lv_at hl 3 rfl) ?_
        refine nv_ge (x := q) (y := i) (tgt := 60) hx hb dX6_stepAt_27 (by decide) (by omega) (by omega) (fun c27 => ?_) (fun c27 => ?_)
        · refine lv_iload hx hb dX6_stepAt_60 (lv_at hl 5 rfl) ?_
          exact re_i (v := (oN o)) hx hb hr hlocks hS () hP hD (by first | (have e9 : i - q = 0 := (by omega); rw [e9] at hres; rw [if_pos (by omega), ← hres]; rfl) | (have e9 : i - q = (i - q - 1) + 1 := (by omega); rw [e9, saN] at hres; rw [if_pos (by omega), ← hres]; rfl)) dX6_stepAt_62
        · rcases o with _ | j
          · have hl : lv_has ls 7 [(0, .ref (wd 0)), (1, .ref (ad 0)), (2, .int (nI v)), (3, .int (nI i)), (4, .int (nI x)), (5, .int (-9)), (6, .int (nI q))] := hl
            refine lv_iload hx hb dX6_stepAt_30 (lv_at hl 5 rfl) ?_
            refine lv_if_lt (x := (-9)) (tgt := 60) hx hb dX6_stepAt_32 (by decide) (fun c32 => ?_) (fun c32 => ?_)
            · refine lv_iload hx hb dX6_stepAt_60 (lv_at hl 5 rfl) ?_
              exact re_i (v := (-9)) hx hb hr hlocks hS () hP hD (by first | (have e9 : i - q = 0 := (by omega); rw [e9] at hres; rw [if_pos (by omega), ← hres]; rfl) | (have e9 : i - q = (i - q - 1) + 1 := (by omega); rw [e9, saN] at hres; rw [if_pos (by omega), ← hres]; rfl)) dX6_stepAt_62
            · exact absurd (by decide) c32
          · have hl : lv_has ls 7 [(0, .ref (wd 0)), (1, .ref (ad 0)), (2, .int (nI v)), (3, .int (nI i)), (4, .int (nI x)), (5, .int (nI j)), (6, .int (nI q))] := hl
            have hlj := ho j rfl
            refine lv_iload hx hb dX6_stepAt_30 (lv_at hl 5 rfl) ?_
            refine nv_zlt (x := j) (tgt := 60) hx hb dX6_stepAt_32 (by decide) (by omega) ?_
            refine lv_aload_n hx hb dX6_stepAt_35 rfl (lv_at hl 1 rfl) ?_
            refine lv_iload hx hb dX6_stepAt_36 (lv_at hl 5 rfl) ?_
            refine lv_iload hx hb dX6_stepAt_38 (lv_at hl 4 rfl) ?_
            refine ca_Si (rest := []) (wr := wyw G wd w us) F hX (mX6_nextNode l G ad a r j x hT (by omega) (by omega)) (cA_S hts kw_451 kw_6 kw_449 kw_450 hdX6_nextNode ⟨Nat.le_of_ble_eq_true rfl, Nat.le_of_ble_eq_true rfl⟩) rfl hl.1 rfl (Nat.le_of_ble_eq_true rfl) dX6_stepAt_40 ⟨Nat.le_of_ble_eq_true rfl, Nat.le_of_ble_eq_true rfl⟩ hP hD hS hA (List.perm_append_comm) (fun r40 u40 H locs hp40 hP hD hS => ?_)
            have hP : va_P G.1 vwCl (wyw G wd w us ++ (tkw G ad a r)) H := wp_pm (List.perm_append_comm).symm hP
            have hD : va_D A (wyw G wd w us ++ (tkw G ad a r)) := wd_pm (List.perm_append_comm).symm hD
            subst hp40
            refine lv_istore (lv' := [(4, .int (nI (nxt (r 0) (r 1) j x))), (0, .ref (wd 0)), (1, .ref (ad 0)), (2, .int (nI v)), (3, .int (nI i)), (5, .int (nI j)), (6, .int (nI q))]) hx hb dX6_stepAt_43 hl (by decide) rfl (fun ls hl => ?_)
            refine lv_aload_n hx hb dX6_stepAt_45 rfl (lv_at hl 1 rfl) ?_
            refine lv_aload_n hx hb dX6_stepAt_46 rfl (lv_at hl 2 rfl) ?_
            refine lv_iload hx hb dX6_stepAt_47 (lv_at hl 0 rfl) ?_
            refine ca_Vi (ci := 5) (q := (RX6, TX6, 2)) (rest := []) (wr := ([] : va_W)) F hX (mX6_firstStep l G wd w us ad a r (nxt (r 0) (r 1) j x) hw hu hT (nxt_lt t5 t6 j x)) (cA_V hts kw_447 kw_6 kw_444 kw_446 kp_14 hdX6_firstStep ⟨Nat.le_of_ble_eq_true rfl, Nat.le_of_ble_eq_true rfl⟩) rfl rfl rfl hl.1 rfl (Nat.le_of_ble_eq_true rfl) dX6_stepAt_49 ⟨Nat.le_of_ble_eq_true rfl, Nat.le_of_ble_eq_true rfl⟩ hP hD hS hA (pm_nil _) (fun r49 u49 H locs hp49 hP hD hS => ?_)
            have hP : va_P G.1 vwCl (wyw G wd w us ++ (tkw G ad a r)) H := wp_pm (pm_nil _).symm hP
            have hD : va_D A (wyw G wd w us ++ (tkw G ad a r)) := wd_pm (pm_nil _).symm hD
            subst hp49
            refine lv_istore (lv' := [(5, .int (oN (fsO (r 0) (r 1) (r 2) w us (a 3) (nxt (r 0) (r 1) j x)))), (4, .int (nI (nxt (r 0) (r 1) j x))), (0, .ref (wd 0)), (1, .ref (ad 0)), (2, .int (nI v)), (3, .int (nI i)), (6, .int (nI q))]) hx hb dX6_stepAt_52 hl (by decide) rfl (fun ls hl => ?_)
            refine lv_iinc (v := (nI (q + 1))) (lv' := [(6, .int (nI (q + 1))), (5, .int (oN (fsO (r 0) (r 1) (r 2) w us (a 3) (nxt (r 0) (r 1) j x)))), (4, .int (nI (nxt (r 0) (r 1) j x))), (0, .ref (wd 0)), (1, .ref (ad 0)), (2, .int (nI v)), (3, .int (nI i))]) hx hb dX6_stepAt_54 hl (k := 6) rfl (qn_inc _) (by decide) rfl (fun ls hl => ?_)
            refine lv_goto (tgt := 24) hx hb dX6_stepAt_57 (by decide) ?_
            exact ih24 (q + 1) (nxt (r 0) (r 1) j x) (fsO (r 0) (r 1) (r 2) w us (a 3) (nxt (r 0) (r 1) j x)) (by omega) (by omega) (nxt_lt t5 t6 j x) (fun k h => by have := fsO_lt h; omega) (by have e9 : i - q = (i - (q + 1)) + 1 := (by omega); rw [e9, saN] at hres; exact hres) _ _ hP hD hS ls (lv_sub hl [3, 4, 5, 6, 2, 1, 0] rfl)
    exact lp24 _ 0 v (fsO (r 0) (r 1) (r 2) w us (a 3) v) (Nat.lt_succ_self _) (Nat.zero_le _) hv (fun k h => by have := fsO_lt h; omega) rfl _ _ hP hD hS ls (lv_sub hl [3, 4, 5, 6, 2, 1, 0] rfl)
  · refine lv_bipush (v := (-9)) hx hb dX6_stepAt_6 (by decide) ?_
    exact re_i (v := (-9)) hx hb hr hlocks hS () hP hD (by rw [if_neg (by omega)]; rfl) dX6_stepAt_8

